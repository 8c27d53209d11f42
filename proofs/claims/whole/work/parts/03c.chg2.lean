theorem fc_L7 {N L l : Nat} {law any : Int32} {st : Nat → Int32} (h1 : 1 ≤ N) (hN : N ≤ 8) (hL : L ≤ 4) (hl : l < N ^ L) (hlaw : ¬ law = 1) (K0 : Int32 → Int32 → Int32 → (Nat → Int32) → Option (Int32 × (Nat → Int32))) : ∀ n m, m ≤ L → m < n → ∀ (xs : List Nat) (f : Nat → Int32), xs.length + m * N ≤ 40 → Rp f xs → ∃ f', f_X9_findChanges_L7 (nI L) (nI N) law st K0 n (nI l) any (nI (L - m)) (nI xs.length) f = K0 (nI l) any (nI (xs ++ owA N L l (okF st any) m).length) f' ∧ Rp f' (xs ++ owA N L l (okF st any) m) := by
  have hz := pow_b hN hL
  intro n
  induction n with
  | zero => intro m _ h; omega
  | succ n ih =>
    intro m hm hn xs f hx hR
    rw [f_X9_findChanges_L7.eq_2]
    cases m with
    | zero =>
      rw [if_pos (nI_le (by omega) (by omega))]
      refine ⟨f, ?_, ?_⟩
      · rw [owA, List.append_nil]
      · rw [owA, List.append_nil]; exact hR
    | succ m =>
      rw [Nat.succ_mul] at hx
      rw [if_neg (nI_ge (by omega) (by omega)), if_neg hlaw, w9_eq h1 hN (by omega) (by omega), bs]
      have h0 : (0 : Int32) = nI (N - N) := by rw [Nat.sub_self]; rfl
      rw [h0]
      obtain ⟨f1, e1, r1⟩ := fc_L34 (law := law) (any := any) (st := st) h1 hN hL hl (show L - (m + 1) < L by omega) (fun (v1_12 : Int32) (v2_13 : Int32) (v3_14 : Int32) (z_15 : Int32) (z_16 : Nat → Int32) => f_X9_findChanges_L7 (nI L) (nI N) law st K0 n v1_12 v2_13 (v3_14 + 1) z_15 z_16) FU N (Nat.le_refl _) (FU_lt (by omega)) xs f (by omega) hR
      rw [e1]
      have hs : nI (L - (m + 1)) + 1 = nI (L - m) := by rw [nI_1]; congr 1; omega
      show ∃ f', f_X9_findChanges_L7 (nI L) (nI N) law st K0 n (nI l) any (nI (L - (m + 1)) + 1) _ f1 = _ ∧ _
      rw [hs]
      have hlen := (owS_len N l (L - (m + 1)) (okF st any) N (Nat.le_refl _)).1
      obtain ⟨f', e2, r2⟩ := ih m (by omega) (by omega) _ f1 (by rw [List.length_append]; omega) r1
      refine ⟨f', ?_, ?_⟩
      · rw [e2, owA, List.append_assoc]
      · rw [owA, ← List.append_assoc]; exact r2
theorem fc_L82 {N L l : Nat} {law any : Int32} {st : Nat → Int32} (h1 : 1 ≤ N) (hN : N ≤ 8) (hL1 : 1 ≤ L) (hL : L ≤ 4) (hl : l < N ^ L) (hlaw : ¬ law = 0) : ∀ n m, m ≤ L - 1 → m < n → ∀ (xs : List Nat) (f : Nat → Int32), xs.length + m ≤ 40 → Rp f xs → ∃ f', f_X9_findChanges_L82 (nI L) (nI N) law st n (nI l) any (nI (L - 1 - m)) (nI xs.length) f = some (nI (xs ++ taA N L l (okF st any) m).length, f') ∧ Rp f' (xs ++ taA N L l (okF st any) m) := by
  have hz := pow_b hN hL
  have hL0 : nI L - 1 = nI (L - 1) := by
    have := pk_sub hL1
    rw [← this]; rfl
  intro n
  induction n with
  | zero => intro m _ h; omega
  | succ n ih =>
    intro m hm hn xs f hx hR
    rw [f_X9_findChanges_L82.eq_2, hL0]
    cases m with
    | zero =>
      rw [if_pos (nI_le (by omega) (by omega))]
      refine ⟨f, ?_, ?_⟩
      · rw [taA, List.append_nil]
      · rw [taA, List.append_nil]; exact hR
    | succ m =>
      have hs : nI (L - 1 - (m + 1)) + 1 = nI (L - 1 - m) := by rw [nI_1]; congr 1; omega
      have hs2 : nI (L - 1 - (m + 1)) + 1 = nI (L - 1 - (m + 1) + 1) := nI_1 _
      rw [if_neg (nI_ge (by omega) (by omega)), if_neg hlaw, w9_eq h1 hN (by omega) (by omega), bs, hs2, w9_eq h1 hN (by omega) (by omega), bs]
      have ha := wd_lt (l := l) (k := L - 1 - (m + 1)) h1
      have hb := wd_lt (l := l) (k := L - 1 - (m + 1) + 1) h1
      have hs3 : nI (L - 1 - (m + 1) + 1) = nI (L - 1 - m) := by congr 1; omega
      by_cases h : wd N l (L - 1 - (m + 1)) = wd N l (L - 1 - (m + 1) + 1)
      · rw [if_pos (by rw [h]), hs3]
        obtain ⟨f', e1, e2⟩ := ih m (by omega) (by omega) xs f (by omega) hR
        refine ⟨f', ?_, ?_⟩
        · rw [e1, taA, if_pos h, List.nil_append]
        · rw [taA, if_pos h, List.nil_append]; exact e2
      · rw [if_neg (fun e => h (nI_inj (by omega) (by omega) e)), u_eq hN (by omega), bs, u_eq hN (by omega), bs, ta_val9]
        obtain ⟨f1, e1, r1⟩ := ac_eq (st := st) (any := any) (c := tac N l (L - 1 - (m + 1))) (xs := xs) (Nat.lt_of_lt_of_le (tac_lt h1 hl (by omega)) hz) (by omega) hR
        rw [e1, bs]
        have hlen : (xs ++ (if okF st any (tac N l (L - 1 - (m + 1))) = true then [tac N l (L - 1 - (m + 1))] else [])).length + m ≤ 40 := by
          rw [List.length_append]
          split <;> simp <;> omega
        obtain ⟨f', e2, r2⟩ := ih m (by omega) (by omega) _ f1 hlen r1
        refine ⟨f', ?_, ?_⟩
        · show f_X9_findChanges_L82 _ _ _ _ _ _ _ (nI (L - 1 - (m + 1) + 1)) _ _ = _
          rw [hs3, e2, taA, if_neg h, List.append_assoc]
        · rw [taA, if_neg h, ← List.append_assoc]; exact r2
/-- the reference's row of CHANGES -/
theorem fc_eq {N L l : Nat} {law any cnt : Int32} {st f : Nat → Int32} (h1 : 1 ≤ N) (hN : N ≤ 8) (hL1 : 1 ≤ L) (hL : L ≤ 4) (hl : l < N ^ L) : ∃ f', f_X9_findChanges (nI L) (nI N) law st cnt f (nI l) any = some (nI (chL N L law (okF st any) l).length, f') ∧ Rp f' (chL N L law (okF st any) l) := by
  unfold f_X9_findChanges
  have hb : L * N ≤ 32 := Nat.le_trans (Nat.mul_le_mul hL hN) (by decide)
  have h00 : (0 : Int32) = nI ([] : List Nat).length := rfl
  have h0L : (0 : Int32) = nI (L - L) := by rw [Nat.sub_self]; rfl
  -- the second part
  have part2 : ∀ (xs : List Nat) (f1 : Nat → Int32), xs.length + (L - 1) ≤ 40 → Rp f1 xs → ∃ f', f_X9_findChanges_L82 (nI L) (nI N) law st FU (nI l) any 0 (nI xs.length) f1 = some (nI (xs ++ (if law = 0 then [] else taA N L l (okF st any) (L - 1))).length, f') ∧ Rp f' (xs ++ (if law = 0 then [] else taA N L l (okF st any) (L - 1))) := by
    intro xs f1 hx hR
    by_cases h : law = 0
    · rw [if_pos h, List.append_nil]
      refine ⟨f1, ?_, hR⟩
      show f_X9_findChanges_L82 (nI L) (nI N) law st (9999 + 1) (nI l) any 0 (nI xs.length) f1 = _
      rw [f_X9_findChanges_L82.eq_2]
      split
      · rfl
      · first | rfl | rw [if_pos h]
    · rw [if_neg h]
      have h0 : (0 : Int32) = nI (L - 1 - (L - 1)) := by rw [Nat.sub_self]; rfl
      rw [h0]
      exact fc_L82 h1 hN hL1 hL hl h FU (L - 1) (Nat.le_refl _) (FU_lt (by omega)) xs f1 hx hR
  unfold chL
  by_cases h : law = 1
  · rw [if_pos h, List.nil_append]
    show ∃ f', f_X9_findChanges_L7 (nI L) (nI N) law st _ (9999 + 1) (nI l) any 0 0 f = _ ∧ _
    rw [f_X9_findChanges_L7.eq_2]
    have key := part2 [] f (by simp; omega) (Rp_nil f)
    rw [List.nil_append] at key
    split
    · exact key
    · exact key
  · rw [if_neg h]
    obtain ⟨f1, e1, r1⟩ := fc_L7 (law := law) (any := any) (st := st) h1 hN hL hl h (fun (v1_17 : Int32) (v2_18 : Int32) (z_19 : Int32) (z_20 : Nat → Int32) => f_X9_findChanges_L82 (nI L) (nI N) law st FU v1_17 v2_18 0 z_19 z_20) FU L (Nat.le_refl _) (FU_lt (by omega)) [] f (by simp; omega) (Rp_nil f)
    rw [← h0L, ← h00] at e1
    rw [e1, List.nil_append]
    rw [List.nil_append] at r1
    have ha := owA_len N L l (okF st any) h1 L
    have hc : L * (N - 1) ≤ 4 * 7 := Nat.mul_le_mul hL (by omega)
    exact part2 _ f1 (by omega) r1

/-! the class -/
theorem add_eq {nl : Nat} {f : Nat → Int32} {x : Int32} {k : Nat} (h : k < nl) (hn : nl < 2 ^ 31) : f_X6_add nl (nI k) f x = some (nI (k + 1), upd f k x) := by
  unfold f_X6_add
  rw [if_neg (nI_ge h hn), if_pos (ixb_nI h hn), nI_clamp (by omega), nI_1]
/-- what the class holds of standing: 0 or 1 for each letter -/
def Sn (Z : Nat) (sense : Nat → Int32) : Prop := ∀ c, c < Z → sense c = 0 ∨ sense c = 1
theorem sn_eq {Z ns c : Nat} {sense : Nat → Int32} (hZ : Z ≤ ns) (hns : ns < 2 ^ 31) (hc : c < Z) : f_X3_isSense (nI Z) ns sense (nI c) = some (if sense c = 1 then 1 else 0) := by
  unfold f_X3_isSense
  rw [if_neg (nI_pos (by omega)), if_neg (nI_ge hc (by omega)), if_pos (ixb_nI (by omega) hns), nI_clamp (by omega)]
  split <;> rfl
theorem lw_L42 {N L l p nl ns : Nat} {any : Int32} {sc sense : Nat → Int32} (h1 : 1 ≤ N) (hN : N ≤ 8) (hL : L ≤ 4) (hl : l < N ^ L) (hp : p < L) (hZ : N ^ L ≤ ns) (hns : ns < 2 ^ 31) (hnl : nl < 2 ^ 31) (hS : Sn (N ^ L) sense) (K0 : Int32 → Int32 → Int32 → Int32 → (Nat → Int32) → Option (Int32 × (Nat → Int32))) : ∀ n m, m ≤ N → m < n → ∀ (xs : List Nat) (f : Nat → Int32), xs.length + (owS N l p (okF sense any) m).length ≤ nl → Rp f xs → ∃ f', f_X3_listOtherWords_L42 (nI (N ^ L)) (nI L) (nI N) sc nl ns sense K0 n (nI l) any (nI p) (nI (N ^ p)) (nI (wd N l p)) (nI (N - m)) (nI xs.length) f = K0 (nI l) any (nI p) (nI (xs ++ owS N l p (okF sense any) m).length) f' ∧ Rp f' (xs ++ owS N l p (okF sense any) m) := by
  have hz := pow_b hN hL
  intro n
  induction n with
  | zero => intro m _ h; omega
  | succ n ih =>
    intro m hm hn xs f hx hR
    rw [f_X3_listOtherWords_L42.eq_2]
    cases m with
    | zero =>
      rw [if_pos (nI_le (by omega) (by omega))]
      refine ⟨f, ?_, ?_⟩
      · rw [owS, List.append_nil]
      · rw [owS, List.append_nil]; exact hR
    | succ m =>
      rw [if_neg (nI_ge (by omega) (by omega))]
      have hs : nI (N - (m + 1)) + 1 = nI (N - m) := by rw [nI_1]; congr 1; omega
      by_cases h : N - (m + 1) = wd N l p
      · rw [if_pos (by rw [h]), hs]
        rw [owS, if_pos h, List.nil_append] at hx
        obtain ⟨f', e1, e2⟩ := ih m (by omega) (by omega) xs f hx hR
        refine ⟨f', ?_, ?_⟩
        · rw [e1, owS, if_pos h, List.nil_append]
        · rw [owS, if_pos h, List.nil_append]; exact e2
      · have hw := wd_lt (l := l) (k := p) h1
        have hc := owc_lt h1 hl hp (show N - (m + 1) < N by omega)
        rw [owS, if_neg h] at hx ⊢
        rw [if_neg (fun e => h (nI_inj (by omega) (by omega) e)), ow_val, hs]
        by_cases hok : okF sense any (owc N l p (N - (m + 1))) = true
        · rw [if_pos hok] at hx ⊢
          rw [List.length_append, List.length_singleton] at hx
          have hadd := add_eq (nl := nl) (f := f) (x := nI (owc N l p (N - (m + 1)))) (k := xs.length) (by omega) hnl
          have hcnt : nI (xs.length + 1) = nI (xs ++ [owc N l p (N - (m + 1))]).length := by rw [List.length_append]; rfl
          obtain ⟨f', e2, r2⟩ := ih m (by omega) (by omega) (xs ++ [owc N l p (N - (m + 1))]) _ (by rw [List.length_append, List.length_singleton]; omega) (Rp_add hR)
          refine ⟨f', ?_, by rw [← List.append_assoc]; exact r2⟩
          rw [← List.append_assoc, ← e2, hadd]
          by_cases ha : any = 0
          · rw [if_pos ha, sn_eq hZ hns hc, bs]
            have h1c : sense (owc N l p (N - (m + 1))) = 1 := by
              rcases hS _ hc with h0 | h0
              · simp [okF, ha, h0] at hok
              · exact h0
            rw [if_pos h1c, if_neg (by decide), bs, hcnt]
          · rw [if_neg ha, bs, hcnt]
        · rw [if_neg hok, List.nil_append] at hx ⊢
          have ha : any = 0 := by
            by_cases ha : any = 0
            · exact ha
            · exact absurd (by simp [okF, ha]) hok
          have h0c : sense (owc N l p (N - (m + 1))) = 0 := by
            rcases hS _ hc with h0 | h0
            · exact h0
            · exact absurd (by simp [okF, h0]) hok
          rw [if_pos ha, sn_eq hZ hns hc, bs, h0c, if_pos (by decide)]
          exact ih m (by omega) (by omega) xs f hx hR
theorem lw_L3 {N L l nl ns : Nat} {any : Int32} {sc sense : Nat → Int32} (hs : Sc N sc) (h1 : 1 ≤ N) (hN : N ≤ 8) (hL : L ≤ 4) (hl : l < N ^ L) (hZ : N ^ L ≤ ns) (hns : ns < 2 ^ 31) (hnl : nl < 2 ^ 31) (hS : Sn (N ^ L) sense) : ∀ n m, m ≤ L → m < n → ∀ (xs : List Nat) (f : Nat → Int32), xs.length + (owA N L l (okF sense any) m).length ≤ nl → Rp f xs → ∃ f', f_X3_listOtherWords_L3 (nI (N ^ L)) (nI L) (nI N) sc nl ns sense n (nI l) any (nI (L - m)) (nI xs.length) f = some (nI (xs ++ owA N L l (okF sense any) m).length, f') ∧ Rp f' (xs ++ owA N L l (okF sense any) m) := by
  have hz := pow_b hN hL
  intro n
  induction n with
  | zero => intro m _ h; omega
  | succ n ih =>
    intro m hm hn xs f hx hR
    rw [f_X3_listOtherWords_L3.eq_2]
    cases m with
    | zero =>
      rw [if_pos (nI_le (by omega) (by omega))]
      refine ⟨f, ?_, ?_⟩
      · rw [owA, List.append_nil]
      · rw [owA, List.append_nil]; exact hR
    | succ m =>
      rw [owA, List.length_append] at hx
      rw [if_neg (nI_ge (by omega) (by omega)), if_pos (ixb_nI (by omega) (by decide)), w7_eq hs h1 hN hL (by omega) (by omega), bs, nI_clamp (by omega), hs (L - (m + 1)) (by omega)]
      have h0 : (0 : Int32) = nI (N - N) := by rw [Nat.sub_self]; rfl
      rw [h0]
      obtain ⟨f1, e1, r1⟩ := lw_L42 (any := any) (sc := sc) h1 hN hL hl (show L - (m + 1) < L by omega) hZ hns hnl hS (fun (v1_17 : Int32) (v2_18 : Int32) (v4_19 : Int32) (z_20 : Int32) (z_21 : Nat → Int32) => f_X3_listOtherWords_L3 (nI (N ^ L)) (nI L) (nI N) sc nl ns sense n v1_17 v2_18 (v4_19 + 1) z_20 z_21) FU N (Nat.le_refl _) (FU_lt (by omega)) xs f (by omega) hR
      rw [e1]
      have hs2 : nI (L - (m + 1)) + 1 = nI (L - m) := by rw [nI_1]; congr 1; omega
      show ∃ f', f_X3_listOtherWords_L3 (nI (N ^ L)) (nI L) (nI N) sc nl ns sense n (nI l) any (nI (L - (m + 1)) + 1) _ f1 = _ ∧ _
      rw [hs2]
      obtain ⟨f', e2, r2⟩ := ih m (by omega) (by omega) _ f1 (by rw [List.length_append]; omega) r1
      refine ⟨f', ?_, ?_⟩
      · rw [e2, owA, List.append_assoc]
      · rw [owA, ← List.append_assoc]; exact r2
theorem lt_L3 {N L l nl ns : Nat} {any : Int32} {sc sense : Nat → Int32} (hs : Sc N sc) (h1 : 1 ≤ N) (hN : N ≤ 8) (hL1 : 1 ≤ L) (hL : L ≤ 4) (hl : l < N ^ L) (hZ : N ^ L ≤ ns) (hns : ns < 2 ^ 31) (hnl : nl < 2 ^ 31) (hS : Sn (N ^ L) sense) : ∀ n m, m ≤ L - 1 → m < n → ∀ (xs : List Nat) (f : Nat → Int32), xs.length + (taA N L l (okF sense any) m).length ≤ nl → Rp f xs → ∃ f', f_X3_listTurnsAbout_L3 (nI (N ^ L)) (nI L) (nI N) sc nl ns sense n (nI l) any (nI (L - 1 - m)) (nI xs.length) f = some (nI (xs ++ taA N L l (okF sense any) m).length, f') ∧ Rp f' (xs ++ taA N L l (okF sense any) m) := by
  have hz := pow_b hN hL
  intro n
  induction n with
  | zero => intro m _ h; omega
  | succ n ih =>
    intro m hm hn xs f hx hR
    rw [f_X3_listTurnsAbout_L3.eq_2]
    cases m with
    | zero =>
      rw [nI_1, if_pos (nI_le (by omega) (by omega))]
      refine ⟨f, ?_, ?_⟩
      · rw [taA, List.append_nil]
      · rw [taA, List.append_nil]; exact hR
    | succ m =>
      have hs2 : nI (L - 1 - (m + 1)) + 1 = nI (L - 1 - (m + 1) + 1) := nI_1 _
      have hs3 : nI (L - 1 - (m + 1) + 1) = nI (L - 1 - m) := by congr 1; omega
      have ha := wd_lt (l := l) (k := L - 1 - (m + 1)) h1
      have hb := wd_lt (l := l) (k := L - 1 - (m + 1) + 1) h1
      rw [hs2, if_neg (nI_ge (by omega) (by omega)), w7_eq hs h1 hN hL (by omega) (by omega), bs, w7_eq hs h1 hN hL (by omega) (by omega), bs, if_pos (ixb_nI (by omega) (by decide)), if_pos (ixb_nI (by omega) (by decide)), nI_clamp (by omega), nI_clamp (by omega), hs (L - 1 - (m + 1)) (by omega), hs (L - 1 - (m + 1) + 1) (by omega)]
      have hd : nI (wd N l (L - 1 - (m + 1) + 1)) - nI (wd N l (L - 1 - (m + 1))) = 0 ↔ wd N l (L - 1 - (m + 1)) = wd N l (L - 1 - (m + 1) + 1) := by
        constructor
        · intro e
          have : nI (wd N l (L - 1 - (m + 1) + 1)) = nI (wd N l (L - 1 - (m + 1))) := by grind
          exact (nI_inj (by omega) (by omega) this).symm
        · intro e; rw [e]; grind
      by_cases h : wd N l (L - 1 - (m + 1)) = wd N l (L - 1 - (m + 1) + 1)
      · rw [if_pos (hd.mpr h), hs3]
        rw [taA, if_pos h, List.nil_append] at hx
        obtain ⟨f', e1, e2⟩ := ih m (by omega) (by omega) xs f hx hR
        refine ⟨f', ?_, ?_⟩
        · rw [e1, taA, if_pos h, List.nil_append]
        · rw [taA, if_pos h, List.nil_append]; exact e2
      · have hc := tac_lt h1 hl (show L - 1 - (m + 1) + 1 < L by omega)
        rw [taA, if_neg h] at hx ⊢
        rw [if_neg (fun e => h (hd.mp e)), ta_val7, hs3]
        by_cases hok : okF sense any (tac N l (L - 1 - (m + 1))) = true
        · rw [if_pos hok] at hx ⊢
          rw [List.length_append, List.length_singleton] at hx
          have hadd := add_eq (nl := nl) (f := f) (x := nI (tac N l (L - 1 - (m + 1)))) (k := xs.length) (by omega) hnl
          have hcnt : nI (xs.length + 1) = nI (xs ++ [tac N l (L - 1 - (m + 1))]).length := by rw [List.length_append]; rfl
          obtain ⟨f', e2, r2⟩ := ih m (by omega) (by omega) (xs ++ [tac N l (L - 1 - (m + 1))]) _ (by rw [List.length_append, List.length_singleton]; omega) (Rp_add hR)
          refine ⟨f', ?_, by rw [← List.append_assoc]; exact r2⟩
          rw [← List.append_assoc, ← e2, hadd]
          by_cases ha : any = 0
          · rw [if_pos ha, sn_eq hZ hns hc, bs]
            have h1c : sense (tac N l (L - 1 - (m + 1))) = 1 := by
              rcases hS _ hc with h0 | h0
              · simp [okF, ha, h0] at hok
              · exact h0
            rw [if_pos h1c, if_neg (by decide), bs, hcnt]
          · rw [if_neg ha, bs, hcnt]
        · rw [if_neg hok, List.nil_append] at hx ⊢
          have ha : any = 0 := by
            by_cases ha : any = 0
            · exact ha
            · exact absurd (by simp [okF, ha]) hok
          have h0c : sense (tac N l (L - 1 - (m + 1))) = 0 := by
            rcases hS _ hc with h0 | h0
            · exact h0
            · exact absurd (by simp [okF, h0]) hok
          rw [if_pos ha, sn_eq hZ hns hc, bs, h0c, if_pos (by decide)]
          exact ih m (by omega) (by omega) xs f hx hR
/-- the class's row of CHANGES -/
theorem lc_eq {N L l nl ns : Nat} {law any cnt : Int32} {sc sense f : Nat → Int32} (hs : Sc N sc) (h1 : 1 ≤ N) (hN : N ≤ 8) (hL1 : 1 ≤ L) (hL : L ≤ 4) (hl : l < N ^ L) (hZ : N ^ L ≤ ns) (hns : ns < 2 ^ 31) (hnl1 : 31 ≤ nl) (hnl : nl < 2 ^ 31) (hS : Sn (N ^ L) sense) : ∃ f', f_X3_listChanges (nI (N ^ L)) (nI L) (nI N) sc nl ns sense cnt f (nI l) law any = some (nI (chL N L law (okF sense any) l).length, f') ∧ Rp f' (chL N L law (okF sense any) l) := by
  have hlen := chL_len (l := l) (law := law) (ok := okF sense any) h1 hN hL
  unfold f_X3_listChanges f_X6_empty
  rw [bs]
  have h00 : (0 : Int32) = nI ([] : List Nat).length := rfl
  have h0L : (0 : Int32) = nI (L - L) := by rw [Nat.sub_self]; rfl
  have h0L1 : (0 : Int32) = nI (L - 1 - (L - 1)) := by rw [Nat.sub_self]; rfl
  have part2 : ∀ (xs : List Nat) (f1 : Nat → Int32), xs.length + (taA N L l (okF sense any) (L - 1)).length ≤ nl → Rp f1 xs → ∃ f', f_X3_listTurnsAbout (nI (N ^ L)) (nI L) (nI N) sc nl ns sense (nI xs.length) f1 (nI l) any = some (nI (xs ++ taA N L l (okF sense any) (L - 1)).length, f') ∧ Rp f' (xs ++ taA N L l (okF sense any) (L - 1)) := by
    intro xs f1 hx hR
    unfold f_X3_listTurnsAbout
    have := lt_L3 (any := any) hs h1 hN hL1 hL hl hZ hns hnl hS FU (L - 1) (Nat.le_refl _) (FU_lt (by omega)) xs f1 hx hR
    rw [← h0L1] at this
    exact this
  unfold chL at hlen ⊢
  by_cases h : law = 1
  · rw [if_pos h] at hlen ⊢
    rw [if_pos h, List.nil_append]
    rw [List.nil_append] at hlen
    have h0 : ¬ law = 0 := by rw [h]; decide
    rw [if_neg h0] at hlen ⊢
    rw [if_neg h0]
    obtain ⟨f', e, r⟩ := part2 [] f (by simp; omega) (Rp_nil f)
    rw [List.nil_append] at e r
    refine ⟨f', ?_, r⟩
    rw [← h00] at e
    rw [e, bs]
  · rw [if_neg h] at hlen ⊢
    rw [if_neg h]
    rw [List.length_append] at hlen
    have p1 := lw_L3 (any := any) hs h1 hN hL hl hZ hns hnl hS FU L (Nat.le_refl _) (FU_lt (by omega)) [] f (by simp; omega) (Rp_nil f)
    rw [← h0L, ← h00, List.nil_append] at p1
    obtain ⟨f1, e1, r1⟩ := p1
    unfold f_X3_listOtherWords
    rw [e1, bs]
    by_cases h0 : law = 0
    · rw [if_pos h0]
      refine ⟨f1, ?_, ?_⟩
      · show (if law = 0 then _ else _) = _
        rw [if_pos h0, List.append_nil]
      · rw [List.append_nil]; exact r1
    · rw [if_neg h0] at hlen ⊢
      obtain ⟨f', e, r⟩ := part2 _ f1 (by omega) r1
      refine ⟨f', ?_, r⟩
      show (if law = 0 then _ else _) = _
      rw [if_neg h0, e, bs]
