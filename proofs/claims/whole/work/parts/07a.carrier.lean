/-! WORDS apart, the carrier -/
/-- how many of the last m places differ -/
def apt (N L a b : Nat) : Nat → Nat
  | 0 => 0
  | m + 1 => (if wd N a (L - (m + 1)) = wd N b (L - (m + 1)) then 0 else 1) + apt N L a b m
theorem wa_L {N L a b : Nat} {sc : Nat → Int32} (hs : Sc N sc) (h1 : 1 ≤ N) (hN : N ≤ 8) (hL : L ≤ 4) (ha : a < 2 ^ 31) (hb : b < 2 ^ 31) : ∀ n m, m ≤ L → m < n → ∀ v, f_X7_wordsApart_L5 (nI L) (nI N) sc n (nI a) (nI b) (nI v) (nI (L - m)) = some (nI (v + apt N L a b m)) ∧ f_X9_unlike_L5 (nI L) (nI N) n (nI a) (nI b) (nI v) (nI (L - m)) = some (nI (v + apt N L a b m)) := by
  intro n
  induction n with
  | zero => intro m _ h; omega
  | succ n ih =>
    intro m hm hn v
    rw [f_X7_wordsApart_L5.eq_2, f_X9_unlike_L5.eq_2]
    cases m with
    | zero =>
      rw [if_pos (nI_le (by omega) (by omega)), if_pos (nI_le (by omega) (by omega))]
      exact ⟨rfl, rfl⟩
    | succ m =>
      have hx : L - (m + 1) + 1 = L - m := by omega
      have hw1 := wd_lt (l := a) (k := L - (m + 1)) h1
      have hw2 := wd_lt (l := b) (k := L - (m + 1)) h1
      rw [if_neg (nI_ge (by omega) (by omega)), if_neg (nI_ge (by omega) (by omega)), w7_eq hs h1 hN hL (by omega) ha, w7_eq hs h1 hN hL (by omega) hb, w9_eq h1 hN (by omega) ha, w9_eq h1 hN (by omega) hb]
      simp only [bs]
      rw [apt]
      by_cases e : wd N a (L - (m + 1)) = wd N b (L - (m + 1))
      · have e2 : nI (wd N a (L - (m + 1))) = nI (wd N b (L - (m + 1))) := by rw [e]
        have e0 : nI v + 0 = nI v := nI_add v 0
        rw [if_pos e2, if_pos e2, if_pos e, nI_1, hx, e0, Nat.zero_add]
        exact ih m (by omega) (by omega) v
      · have e2 : ¬ nI (wd N a (L - (m + 1))) = nI (wd N b (L - (m + 1))) := fun q => e (nI_inj (by omega) (by omega) q)
        rw [if_neg e2, if_neg e2, if_neg e, nI_1, nI_1, hx, ← Nat.add_assoc]
        exact ih m (by omega) (by omega) (v + 1)
theorem wa_eq {N L a b : Nat} {sc : Nat → Int32} (hs : Sc N sc) (h1 : 1 ≤ N) (hN : N ≤ 8) (hL : L ≤ 4) (ha : a < 2 ^ 31) (hb : b < 2 ^ 31) : f_X7_wordsApart (nI L) (nI N) sc (nI a) (nI b) = some (nI (apt N L a b L)) ∧ f_X9_unlike (nI L) (nI N) (nI a) (nI b) = some (nI (apt N L a b L)) := by
  have h := wa_L hs h1 hN hL ha hb FU L (Nat.le_refl _) (FU_lt (by omega)) 0
  rw [Nat.sub_self, Nat.zero_add] at h
  exact h
theorem apt_le (N L a b : Nat) : ∀ m, apt N L a b m ≤ m := by
  intro m
  induction m with
  | zero => exact Nat.le_refl _
  | succ m ih => rw [apt]; split <;> omega
/-- those of the row that are at most one WORD apart from g -/
def car (N L g : Nat) : List Nat → List Nat
  | [] => []
  | z :: zs => (if apt N L z g L ≤ 1 then [z] else []) ++ car N L g zs
theorem car_len (N L g : Nat) : ∀ zs, (car N L g zs).length ≤ zs.length := by
  intro zs
  induction zs with
  | nil => exact Nat.le_refl _
  | cons z zs ih => rw [car]; split <;> simp <;> omega
theorem car8_L {N L Z ns g T : Nat} {sc sense : Nat → Int32} {law way x : Int32} (hs : Sc N sc) (h1 : 1 ≤ N) (hN : N ≤ 8) (hL : L ≤ 4) (hg : g < 2 ^ 31) (hT : T ≤ 31) (f : Nat → Int32) : ∀ (zs ys : List Nat) (n : Nat), (ys ++ zs).length = T → zs.length < n → Rp f (ys ++ zs) → (∀ z ∈ zs, z < 2 ^ 31) → ∀ (fs : List Nat) (ff : Nat → Int32), fs.length + zs.length ≤ 31 → Rp ff fs → ∃ ff', f_X8_carrier_L34 (nI Z) law way (nI L) (nI N) sc 31 ns sense 31 n (nI g) x (nI ys.length) (nI T) f (nI fs.length) ff = some (cog (fs ++ car N L g zs) x, nI T, f, nI (fs ++ car N L g zs).length, ff') := by
  intro zs
  induction zs with
  | nil =>
    intro ys n hx hn hR hz fs ff hfs hF
    obtain ⟨n, rfl⟩ : ∃ m, n = m + 1 := ⟨n - 1, by simp at hn; omega⟩
    rw [f_X8_carrier_L34.eq_2, if_pos (nI_le (by simp at hx; omega) (by simp at hx; omega)), cog_eq hF (by simp at hfs; omega) (by decide), bs, car, List.append_nil]
    exact ⟨_, rfl⟩
  | cons z zs ih =>
    intro ys n hx hn hR hz fs ff hfs hF
    obtain ⟨n, rfl⟩ : ∃ m, n = m + 1 := ⟨n - 1, by simp at hn; omega⟩
    have hl := len_lt ys zs z
    have hz0 := hz z (List.mem_cons_self ..)
    have hz2 := fun x (hx : x ∈ zs) => hz x (List.mem_cons_of_mem _ hx)
    have hap := apt_le N L z g L
    have hg1 : f_X6_get (nI T) 31 f (nI ys.length) = some (nI z) := by
      rw [← hx]; exact get_at hR (by omega) (by decide)
    have hx' : ((ys ++ [z]) ++ zs).length = T := by rw [← app1]; exact hx
    have hR' : Rp f ((ys ++ [z]) ++ zs) := by rw [← app1]; exact hR
    rw [f_X8_carrier_L34.eq_2, if_neg (nI_ge (by omega) (by omega)), hg1, bs, (wa_eq hs h1 hN hL hz0 hg).1, bs, len1 ys z, car]
    have e1 : (1 : Int32) = nI 1 := rfl
    rw [e1]
    by_cases h : apt N L z g L ≤ 1
    · rw [if_neg (nI_nlt h (by omega)), bs, add_eq (by simp at hfs; omega) (by decide), bs, if_pos h, ← List.append_assoc]
      have := ih (ys ++ [z]) n hx' (by simp at hn; omega) hR' hz2 (fs ++ [z]) (upd ff fs.length (nI z)) (by simp at hfs ⊢; omega) (Rp_add hF)
      rw [← len1 fs z, nI_1] at this
      exact this
    · rw [if_pos (nI_lt (by omega) (by omega)), if_neg h, List.nil_append]
      exact ih (ys ++ [z]) n hx' (by simp at hn; omega) hR' hz2 fs ff (by simp at hfs; omega) hF
theorem cog_hit {fs gs : List Nat} {z : Nat} (hb : fs.length < 2 ^ 31) (hg : (fs ++ z :: gs).length < 2 ^ 31) : cog (fs ++ z :: gs) (nI fs.length) = nI z := by
  unfold cog
  have e : ¬ nI fs.length = -1 := by
    intro e
    have := congrArg Int32.toInt e
    rw [nI_toInt hb] at this
    have h2 : (-1 : Int32).toInt = -1 := by decide
    omega
  have hl := len_lt fs gs z
  rw [if_neg e, if_neg, nI_clamp hb, List.getD_eq_getElem?_getD, List.getElem?_append_right (Nat.le_refl _), Nat.sub_self]
  · rfl
  · rintro (q | q)
    · exact nI_pos hb q
    · exact nI_ge hl hg q
/-- a row whose first fs did not hit -/
theorem cog_miss {fs : List Nat} {x : Int32} (hb : fs.length < 2 ^ 31) (h : ∀ k, k < fs.length → ¬ nI k = x) : cog fs x = if x = -1 then nI fs.length else -1 := by
  unfold cog
  by_cases h1 : x = -1
  · rw [if_pos h1, if_pos h1]
  · rw [if_neg h1, if_neg h1, if_pos]
    rcases pk_ix x (n := fs.length) hb with q | q | ⟨j, hj, e⟩
    · exact Or.inl q
    · exact Or.inr q
    · exact absurd e.symm (h j hj)
theorem car9_L {N L Z g T : Nat} {st sc : Nat → Int32} {law way x : Int32} (hs : Sc N sc) (h1 : 1 ≤ N) (hN : N ≤ 8) (hL : L ≤ 4) (hg : g < 2 ^ 31) (hT : T ≤ 31) (f : Nat → Int32) : ∀ (zs ys : List Nat) (n : Nat), (ys ++ zs).length = T → zs.length < n → Rp f (ys ++ zs) → (∀ z ∈ zs, z < 2 ^ 31) → ∀ (fs : List Nat), fs.length + zs.length ≤ 31 → (∀ k, k < fs.length → ¬ nI k = x) → f_X9_carrier_L43 (nI L) (nI N) (nI Z) law way st n (nI g) x (nI fs.length) (nI ys.length) (nI T) f = some (cog (fs ++ car N L g zs) x, nI T, f) := by
  intro zs
  induction zs with
  | nil =>
    intro ys n hx hn hR hz fs hfs hm
    obtain ⟨n, rfl⟩ : ∃ m, n = m + 1 := ⟨n - 1, by simp at hn; omega⟩
    rw [f_X9_carrier_L43.eq_2, if_pos (nI_le (by simp at hx; omega) (by simp at hx; omega)), car, List.append_nil, cog_miss (by simp at hfs; omega) hm]
    split <;> rfl
  | cons z zs ih =>
    intro ys n hx hn hR hz fs hfs hm
    obtain ⟨n, rfl⟩ : ∃ m, n = m + 1 := ⟨n - 1, by simp at hn; omega⟩
    have hl := len_lt ys zs z
    have hz0 := hz z (List.mem_cons_self ..)
    have hz2 := fun x (hx : x ∈ zs) => hz x (List.mem_cons_of_mem _ hx)
    have hap := apt_le N L z g L
    have hc := car_len N L g zs
    have hx' : ((ys ++ [z]) ++ zs).length = T := by rw [← app1]; exact hx
    have hR' : Rp f ((ys ++ [z]) ++ zs) := by rw [← app1]; exact hR
    rw [f_X9_carrier_L43.eq_2, if_neg (nI_ge (by omega) (by omega))]
    simp only [if_pos (ixb_nI (show ys.length < 40 by omega) (by decide)), nI_clamp (show ys.length < 2 ^ 31 by omega)]
    rw [Rp_at hR, (wa_eq hs h1 hN hL hz0 hg).2, bs, len1 ys z, car]
    have e2 : (2 : Int32) = nI 2 := rfl
    rw [e2]
    by_cases h : apt N L z g L ≤ 1
    · rw [if_neg (nI_ge (by omega) (by omega)), if_pos h]
      by_cases e : nI fs.length = x
      · rw [if_pos e, ← e]
        have : cog (fs ++ ([z] ++ car N L g zs)) (nI fs.length) = nI z := cog_hit (by simp at hfs; omega) (by simp at hfs ⊢; omega)
        rw [this]
      · rw [if_neg e, len1 fs z, ← List.append_assoc]
        refine ih (ys ++ [z]) n hx' (by simp at hn; omega) hR' hz2 (fs ++ [z]) (by simp at hfs ⊢; omega) (fun k hk => ?_)
        by_cases ek : k = fs.length
        · rw [ek]; exact e
        · exact hm k (by simp at hk; omega)
    · rw [if_pos (nI_le (by omega) (by omega)), if_neg h, List.nil_append]
      exact ih (ys ++ [z]) n hx' (by simp at hn; omega) hR' hz2 fs (by simp at hfs; omega) hm
theorem o_carrier {N L Z ns : Nat} {sc sense st f8 f9 ff : Nat → Int32} (hC : CT N L Z ns sc sense st) (law way c8 c9 fc p1 p2 p3 : Int32) : ∃ r c8' f8' fc' ff' c9' f9', f_X8_carrier (nI Z) law way (nI L) (nI N) sc 31 ns sense 31 c8 f8 fc ff p1 p2 p3 = some (r, c8', f8', fc', ff') ∧ f_X9_carrier (nI L) (nI N) (nI Z) law way st c9 f9 p1 p2 p3 = some (r, c9', f9') := by
  have hZ := hC.Z_le
  unfold f_X8_carrier f_X9_carrier
  rcases pk_ix p1 (n := Z) (by omega) with h2 | h2 | ⟨j, hj, rfl⟩
  · rw [il8_no (Or.inl h2), il9_no (by omega) (Or.inl h2)]
    simp only [bs, c00, if_true]
    exact ⟨_, _, _, _, _, _, _, rfl, rfl⟩
  · rw [il8_no (Or.inr h2), il9_no (by omega) (Or.inr h2)]
    simp only [bs, c00, if_true]
    exact ⟨_, _, _, _, _, _, _, rfl, rfl⟩
  · rw [il8_yes (by omega) hj, il9_yes (by omega) hj]
    simp only [bs, c10, if_false]
    rcases pk_ix p2 (n := Z) (by omega) with h2 | h2 | ⟨g, hg, rfl⟩
    · rw [il8_no (Or.inl h2), il9_no (by omega) (Or.inl h2)]
      simp only [bs, c00, if_true]
      exact ⟨_, _, _, _, _, _, _, rfl, rfl⟩
    · rw [il8_no (Or.inr h2), il9_no (by omega) (Or.inr h2)]
      simp only [bs, c00, if_true]
      exact ⟨_, _, _, _, _, _, _, rfl, rfl⟩
    · rw [il8_yes (by omega) hg, il9_yes (by omega) hg]
      simp only [bs, c10, if_false]
      rw [fcw]
      obtain ⟨hN, hL, -⟩ := id hC
      obtain ⟨q1, q2, q3, q4⟩ := hC.pos hj
      obtain ⟨g8, e8, r8⟩ := lc8_eq (law := law) (way := way) (f := f8) (cnt := c8) (nl := 31) hC hj (by omega) (by omega)
      obtain ⟨g9, e9, r9⟩ := fc_ct (law := law) (any := wy way) (f := f9) (cnt := c9) hC hj
      obtain ⟨hlen, hm⟩ := ch_ct (law := law) (any := wy way) hC hj
      have hm' := fun z hz => show z < 2 ^ 31 by have := (hm z hz).1; omega
      rw [e8, e9]
      generalize chL N L law (okF st (wy way)) j = xs at *
      unfold f_X6_empty
      simp only [bs]
      obtain ⟨ff', k8⟩ := car8_L (Z := Z) (ns := ns) (sense := sense) (law := law) (way := way) (x := p3) q4 q1 hN hL (show g < 2 ^ 31 by omega) hlen g8 xs [] FU rfl (FU_lt (by omega)) r8 hm' [] ff (by simpa using hlen) (Rp_nil _)
      have k9 := car9_L (Z := Z) (st := st) (law := law) (way := way) (x := p3) q4 q1 hN hL (show g < 2 ^ 31 by omega) hlen g9 xs [] FU rfl (FU_lt (by omega)) r9 hm' [] (by simpa using hlen) (fun k hk => absurd hk (Nat.not_lt_zero k))
      have h00 : nI ([] : List Nat).length = 0 := rfl
      rw [h00] at k8 k9
      exact ⟨_, _, _, _, _, _, _, k8, k9⟩
