/-! the row of CHANGES -/
/-- the last m WORDS at place p -/
def owS (N l p : Nat) (ok : Nat → Bool) : Nat → List Nat
  | 0 => []
  | m + 1 => (if N - (m + 1) = wd N l p then [] else if ok (owc N l p (N - (m + 1))) = true then [owc N l p (N - (m + 1))] else []) ++ owS N l p ok m
/-- the last m places -/
def owA (N L l : Nat) (ok : Nat → Bool) : Nat → List Nat
  | 0 => []
  | m + 1 => owS N l (L - (m + 1)) ok N ++ owA N L l ok m
/-- turns about at the last m pairs of places -/
def taA (N L l : Nat) (ok : Nat → Bool) : Nat → List Nat
  | 0 => []
  | m + 1 => (if wd N l (L - 1 - (m + 1)) = wd N l (L - 1 - (m + 1) + 1) then [] else if ok (tac N l (L - 1 - (m + 1))) = true then [tac N l (L - 1 - (m + 1))] else []) ++ taA N L l ok m
/-- all CHANGES of l -/
def chL (N L : Nat) (law : Int32) (ok : Nat → Bool) (l : Nat) : List Nat := (if law = 1 then [] else owA N L l ok L) ++ (if law = 0 then [] else taA N L l ok (L - 1))
theorem owS_len (N l p : Nat) (ok : Nat → Bool) : ∀ m, m ≤ N → (owS N l p ok m).length ≤ m ∧ (N - m ≤ wd N l p → wd N l p < N → (owS N l p ok m).length + 1 ≤ m) := by
  intro m
  induction m with
  | zero => intro _; exact ⟨Nat.le_refl _, fun h1 h2 => by omega⟩
  | succ m ih =>
    intro hm
    obtain ⟨a, b⟩ := ih (by omega)
    rw [owS, List.length_append]
    split
    · rename_i h
      refine ⟨by simp; omega, fun h1 h2 => by simp; omega⟩
    · rename_i h
      have : (if ok (owc N l p (N - (m + 1))) = true then [owc N l p (N - (m + 1))] else []).length ≤ 1 := by split <;> simp
      refine ⟨by omega, fun h1 h2 => ?_⟩
      have := b (by omega) h2
      omega
theorem owA_len (N L l : Nat) (ok : Nat → Bool) (h1 : 1 ≤ N) : ∀ m, (owA N L l ok m).length ≤ m * (N - 1) := by
  intro m
  induction m with
  | zero => simp [owA]
  | succ m ih =>
    rw [owA, List.length_append]
    have := (owS_len N l (L - (m + 1)) ok N (Nat.le_refl _)).2 (by omega) (wd_lt h1)
    rw [Nat.succ_mul]
    omega
theorem taA_len (N L l : Nat) (ok : Nat → Bool) : ∀ m, (taA N L l ok m).length ≤ m := by
  intro m
  induction m with
  | zero => simp [taA]
  | succ m ih =>
    rw [taA, List.length_append]
    split
    · simp; omega
    · split
      · simp; omega
      · simp; omega
theorem chL_len {N L l : Nat} {law : Int32} {ok : Nat → Bool} (h1 : 1 ≤ N) (hN : N ≤ 8) (hL : L ≤ 4) : (chL N L law ok l).length ≤ 31 := by
  unfold chL
  rw [List.length_append]
  have a := owA_len N L l ok h1 L
  have b := taA_len N L l ok (L - 1)
  have c : L * (N - 1) ≤ 4 * 7 := Nat.mul_le_mul hL (by omega)
  split <;> split <;> simp <;> omega
theorem owS_lt {N L l p : Nat} {ok : Nat → Bool} (h1 : 1 ≤ N) (hl : l < N ^ L) (hp : p < L) : ∀ m, m ≤ N → ∀ x ∈ owS N l p ok m, x < N ^ L ∧ ok x = true := by
  intro m
  induction m with
  | zero => intro _ x hx; simp [owS] at hx
  | succ m ih =>
    intro hm x hx
    rw [owS, List.mem_append] at hx
    rcases hx with hx | hx
    · split at hx
      · simp at hx
      · split at hx
        · rename_i h2
          rw [List.mem_singleton] at hx
          subst hx
          exact ⟨owc_lt h1 hl hp (by omega), h2⟩
        · simp at hx
    · exact ih (by omega) x hx
theorem owA_lt {N L l : Nat} {ok : Nat → Bool} (h1 : 1 ≤ N) (hl : l < N ^ L) : ∀ m, m ≤ L → ∀ x ∈ owA N L l ok m, x < N ^ L ∧ ok x = true := by
  intro m
  induction m with
  | zero => intro _ x hx; simp [owA] at hx
  | succ m ih =>
    intro hm x hx
    rw [owA, List.mem_append] at hx
    rcases hx with hx | hx
    · exact owS_lt h1 hl (by omega) N (Nat.le_refl _) x hx
    · exact ih (by omega) x hx
theorem taA_lt {N L l : Nat} {ok : Nat → Bool} (h1 : 1 ≤ N) (hl : l < N ^ L) : ∀ m, m ≤ L - 1 → ∀ x ∈ taA N L l ok m, x < N ^ L ∧ ok x = true := by
  intro m
  induction m with
  | zero => intro _ x hx; simp [taA] at hx
  | succ m ih =>
    intro hm x hx
    rw [taA, List.mem_append] at hx
    rcases hx with hx | hx
    · split at hx
      · simp at hx
      · split at hx
        · rename_i h2
          rw [List.mem_singleton] at hx
          subst hx
          exact ⟨tac_lt h1 hl (by omega), h2⟩
        · simp at hx
    · exact ih (by omega) x hx
theorem chL_lt {N L l : Nat} {law : Int32} {ok : Nat → Bool} (h1 : 1 ≤ N) (hl : l < N ^ L) : ∀ x ∈ chL N L law ok l, x < N ^ L ∧ ok x = true := by
  intro x hx
  unfold chL at hx
  rw [List.mem_append] at hx
  rcases hx with hx | hx
  · split at hx
    · simp at hx
    · exact owA_lt h1 hl L (Nat.le_refl _) x hx
  · split at hx
    · simp at hx
    · exact taA_lt h1 hl (L - 1) (Nat.le_refl _) x hx
/-! the reference -/
/-- may it be sent: any, or it stands -/
def okF (st : Nat → Int32) (any : Int32) : Nat → Bool := fun c => decide (¬ any = 0) || decide (¬ st c = 0)
theorem ac_eq {st f : Nat → Int32} {any : Int32} {c : Nat} {xs : List Nat} (hc : c < 4096) (hx : xs.length < 40) (hR : Rp f xs) : ∃ f', f_X9_addChange st (nI xs.length) f (nI c) any = some (nI (xs ++ (if okF st any c = true then [c] else [])).length, f') ∧ Rp f' (xs ++ (if okF st any c = true then [c] else [])) := by
  have hadd : (nI xs.length + 1, upd f xs.length (nI c)) = (nI (xs ++ [c]).length, upd f xs.length (nI c)) := by rw [nI_1, List.length_append]; rfl
  unfold f_X9_addChange
  by_cases h : any = 0
  · rw [if_pos h, if_pos (ixb_nI hc (by decide)), nI_clamp (by omega)]
    by_cases h2 : st c = 0
    · rw [if_pos h2]
      have e : okF st any c = false := by simp [okF, h, h2]
      rw [e]
      exact ⟨f, by simp, by simpa using hR⟩
    · rw [if_neg h2, if_pos (ixb_nI hx (by decide)), nI_clamp (by omega)]
      have e : okF st any c = true := by simp [okF, h2]
      rw [if_pos e]
      exact ⟨_, congrArg some hadd, Rp_add hR⟩
  · rw [if_neg h, if_pos (ixb_nI hx (by decide)), nI_clamp (by omega)]
    have e : okF st any c = true := by simp [okF, h]
    rw [if_pos e]
    exact ⟨_, congrArg some hadd, Rp_add hR⟩
theorem fc_L34 {N L l p : Nat} {law any : Int32} {st : Nat → Int32} (h1 : 1 ≤ N) (hN : N ≤ 8) (hL : L ≤ 4) (hl : l < N ^ L) (hp : p < L) (K0 : Int32 → Int32 → Int32 → Int32 → (Nat → Int32) → Option (Int32 × (Nat → Int32))) : ∀ n m, m ≤ N → m < n → ∀ (xs : List Nat) (f : Nat → Int32), xs.length + m ≤ 40 → Rp f xs → ∃ f', f_X9_findChanges_L34 (nI L) (nI N) law st K0 n (nI l) any (nI p) (nI (wd N l p)) (nI (N - m)) (nI xs.length) f = K0 (nI l) any (nI p) (nI (xs ++ owS N l p (okF st any) m).length) f' ∧ Rp f' (xs ++ owS N l p (okF st any) m) := by
  have hz := pow_b hN hL
  intro n
  induction n with
  | zero => intro m _ h; omega
  | succ n ih =>
    intro m hm hn xs f hx hR
    rw [f_X9_findChanges_L34.eq_2]
    cases m with
    | zero =>
      rw [if_pos (nI_le (by omega) (by omega))]
      refine ⟨f, ?_, ?_⟩
      · rw [owS, List.append_nil]
      · rw [owS, List.append_nil]; exact hR
    | succ m =>
      rw [if_neg (nI_ge (by omega) (by omega))]
      have hs : nI (N - (m + 1)) + 1 = nI (N - m) := by rw [nI_1]; congr 1; omega
      by_cases h : N - (m + 1) = wd N l p
      · rw [if_pos (by rw [h]), hs]
        obtain ⟨f', e1, e2⟩ := ih m (by omega) (by omega) xs f (by omega) hR
        refine ⟨f', ?_, ?_⟩
        · rw [e1, owS, if_pos h, List.nil_append]
        · rw [owS, if_pos h, List.nil_append]; exact e2
      · have hw := wd_lt (l := l) (k := p) h1
        rw [if_neg (fun e => h (nI_inj (by omega) (by omega) e)), u_eq hN (by omega), bs, ow_val, hs]
        obtain ⟨f1, e1, r1⟩ := ac_eq (st := st) (any := any) (c := owc N l p (N - (m + 1))) (xs := xs) (Nat.lt_of_lt_of_le (owc_lt h1 hl hp (by omega)) hz) (by omega) hR
        rw [e1, bs]
        have hlen : (xs ++ (if okF st any (owc N l p (N - (m + 1))) = true then [owc N l p (N - (m + 1))] else [])).length + m ≤ 40 := by
          rw [List.length_append]
          split <;> simp <;> omega
        obtain ⟨f', e2, r2⟩ := ih m (by omega) (by omega) _ f1 hlen r1
        refine ⟨f', ?_, ?_⟩
        · show f_X9_findChanges_L34 _ _ _ _ _ _ _ _ _ _ _ _ _ = _
          rw [e2, owS, if_neg h, List.append_assoc]
        · rw [owS, if_neg h, ← List.append_assoc]; exact r2
