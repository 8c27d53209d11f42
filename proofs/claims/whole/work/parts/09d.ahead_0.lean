/-! ahead and first: the class and the reference -/
theorem sta_eq {n : Nat} (h : n < 65536) : nI n &&& 65535 = nI n := by rw [men_eq, pk_tn (by omega), Nat.mod_eq_of_lt h]
theorem usew {α : Type} {T a b : Nat} (hT : T ≤ 600) (ha : a < 3) (hb : b < 2) (fl fn fs : Int32) (A : Int32 × Int32 × Int32 → Option α) : (if nI b = 1 then (f_X8_stamp (nI T) (nI a) (nI b)).bind fun r => (f_X1_useRules fl fn fs (nI a) 1 r).bind A else (f_X8_stamp (nI T) (nI a) (nI b)).bind fun r => (f_X1_useRules fl fn fs (nI a) 0 r).bind A) = A (nI a, wy (nI b), nI (T * 6 + a * 2 + b)) := by
  rw [stamp_eq]
  simp only [bs]
  unfold f_X1_useRules
  rw [sta_eq (n := T * 6 + a * 2 + b) (by omega)]
  rcases (show b = 0 ∨ b = 1 by omega) with rfl | rfl
  · rw [if_neg (by decide), if_pos (by decide), bs]
    rfl
  · rw [if_pos (by decide), if_pos (by decide), bs]
    rfl
theorem div4096 {e : Nat} (he : e < 2 ^ 31) : nI e / 4096 = nI (e / 4096) := pk_div (d := 4096) he (by decide) (by decide)
theorem hn_of {x : Int32} (h : x = 0 ∨ x = 1) : ∃ n : Nat, n < 2 ∧ x = nI n := by
  rcases h with rfl | rfl
  · exact ⟨0, by omega, rfl⟩
  · exact ⟨1, by omega, rfl⟩
theorem mv_cases (x : Int32) : (x < 0 ∨ 8 < x) ∨ ∃ k : Nat, k ≤ 8 ∧ x = nI k := by
  by_cases h0 : x < 0
  · exact Or.inl (Or.inl h0)
  by_cases h8 : x ≤ 8
  · obtain ⟨k, hk, e⟩ := nI_of2 (M := 8) (n := 8) (by decide) h0 h8
    exact Or.inr ⟨k, hk, e⟩
  · exact Or.inl (Or.inr (nle_lt h8))
theorem im_no {x : Int32} (h : x < 0 ∨ 8 < x) : f_X8_isMoves x = some 0 ∧ f_X9_in x.toInt64 0 8 = some 0 := by
  unfold f_X8_isMoves
  rw [in_lit x (y := 8) (by decide)]
  by_cases h0 : x < 0
  · rw [if_pos h0, if_pos h0]; exact ⟨rfl, rfl⟩
  · rw [if_neg h0, if_neg h0, if_pos (h.resolve_left h0), if_pos (h.resolve_left h0)]; exact ⟨rfl, rfl⟩
theorem o_ahead_out {N L Z ns : Nat} {sc sense st wo en se fst we ws f9 : Nat → Int32} {tg law way fl fn fs c9 : Int32} (hC : CT N L Z ns sc sense st) (p1 p2 p3 p4 : Int32) (h3 : p3 < 0 ∨ 8 < p3) : ∃ r fl' fn' fs' c9' en' se' fst' we' ws' f9', f_X8_ahead tg (nI Z) law way fl fn fs p1 p2 p3 p4 = some (r, fl', fn', fs') ∧ f_X9_ahead (nI L) (nI N) (nI Z) law way st wo c9 en se fst we ws f9 p1 p2 p3 p4 = some (r, c9', en', se', fst', we', ws', f9') := by
  have hZ := hC.Z_le
  unfold f_X8_ahead f_X9_ahead
  rcases ih_cases p2 with h | h
  case inr =>
    rw [ih8_no h, ih9_no h]
    simp only [bs, c00, if_true]
    exact ⟨_, _, _, _, _, _, _, _, _, _, _, rfl, rfl⟩
  rw [ih8_yes h, ih9_yes h]
  simp only [bs, c10, if_false]
  rcases pk_ix p1 (n := Z) (by omega) with h2 | h2 | ⟨l, hl, rfl⟩
  · rw [il8_no (Or.inl h2), il9_no (by omega) (Or.inl h2)]
    simp only [bs, c00, if_true]
    exact ⟨_, _, _, _, _, _, _, _, _, _, _, rfl, rfl⟩
  · rw [il8_no (Or.inr h2), il9_no (by omega) (Or.inr h2)]
    simp only [bs, c00, if_true]
    exact ⟨_, _, _, _, _, _, _, _, _, _, _, rfl, rfl⟩
  rw [il8_yes (by omega) hl, il9_yes (by omega) hl, (im_no h3).1, (im_no h3).2]
  simp only [bs, c10, c00, if_false, if_true]
  exact ⟨_, _, _, _, _, _, _, _, _, _, _, rfl, rfl⟩
theorem o_first_out {N L Z ns : Nat} {sc sense st wo en se fst we ws f9 : Nat → Int32} {tg law way fl fn fs c9 : Int32} (hC : CT N L Z ns sc sense st) (p1 p2 : Int32) (h3 : p2 < 0 ∨ 8 < p2) : ∃ r fl' fn' fs' c9' en' se' fst' we' ws' f9', f_X8_first tg (nI Z) law way fl fn fs p1 p2 = some (r, fl', fn', fs') ∧ f_X9_first (nI L) (nI N) (nI Z) law way st wo c9 en se fst we ws f9 p1 p2 = some (r, c9', en', se', fst', we', ws', f9') := by
  have hZ := hC.Z_le
  unfold f_X8_first f_X9_first
  rcases pk_ix p1 (n := Z) (by omega) with h2 | h2 | ⟨l, hl, rfl⟩
  · rw [il8_no (Or.inl h2), il9_no (by omega) (Or.inl h2)]
    simp only [bs, c00, if_true]
    exact ⟨_, _, _, _, _, _, _, _, _, _, _, rfl, rfl⟩
  · rw [il8_no (Or.inr h2), il9_no (by omega) (Or.inr h2)]
    simp only [bs, c00, if_true]
    exact ⟨_, _, _, _, _, _, _, _, _, _, _, rfl, rfl⟩
  rw [il8_yes (by omega) hl, il9_yes (by omega) hl, (im_no h3).1, (im_no h3).2]
  simp only [bs, c10, c00, if_false, if_true]
  exact ⟨_, _, _, _, _, _, _, _, _, _, _, rfl, rfl⟩
theorem o_ahead_0 {N L Z ns no nt T a b : Nat} {sc sense st one other wo f0 en se fst we ws f9 : Nat → Int32} {fl fn fs c9 c0 : Int32} (hC : CT N L Z ns sc sense st) (hW : WT Z no nt one other wo) (hT : T ≤ 600) (ha : a < 3) (hb : b < 2) (p1 p2 p4 : Int32) : ∃ r fl' fn' fs' c0' f0' c9' en' se' fst' we' ws' f9', f_X8_ahead_s0 (nI T) (nI Z) (nI a) (nI b) nt other no one (nI L) (nI N) sc 31 ns sense  fl fn fs c0 f0 p1 p2 p4 = some (r, fl', fn', fs', c0', f0') ∧ f_X9_ahead (nI L) (nI N) (nI Z) (nI a) (nI b) st wo c9 en se fst we ws f9 p1 p2 0 p4 = some (r, c9', en', se', fst', we', ws', f9') := by
  have hZ := hC.Z_le
  unfold f_X8_ahead_s0 f_X9_ahead
  rcases ih_cases p2 with h | h
  case inr =>
    rw [ih8_no h, ih9_no h]
    simp only [bs, c00, if_true]
    exact ⟨_, _, _, _, _, _, _, _, _, _, _, _, _, rfl, rfl⟩
  rw [ih8_yes h, ih9_yes h]
  simp only [bs, c10, if_false]
  rcases pk_ix p1 (n := Z) (by omega) with h2 | h2 | ⟨l, hl, rfl⟩
  · rw [il8_no (Or.inl h2), il9_no (by omega) (Or.inl h2)]
    simp only [bs, c00, if_true]
    exact ⟨_, _, _, _, _, _, _, _, _, _, _, _, _, rfl, rfl⟩
  · rw [il8_no (Or.inr h2), il9_no (by omega) (Or.inr h2)]
    simp only [bs, c00, if_true]
    exact ⟨_, _, _, _, _, _, _, _, _, _, _, _, _, rfl, rfl⟩
  rw [il8_yes (by omega) hl, il9_yes (by omega) hl]
  have em : f_X8_isMoves 0 = some 1 := by decide
  have ei : f_X9_in ((0 : Int32).toInt64) 0 8 = some 1 := by rw [in_lit 0 (y := 8) (by decide)]; decide
  rw [em, ei, in_lit p4 (y := 4) (by decide)]
  simp only [bs, c10, if_false]
  by_cases h0 : p4 < 0
  · simp only [if_pos h0, if_true]
    exact ⟨_, _, _, _, _, _, _, _, _, _, _, _, _, rfl, rfl⟩
  simp only [if_neg h0]
  by_cases h4 : p4 ≤ 4
  case neg =>
    rw [if_neg h4, if_pos (nle_lt h4), if_pos rfl]
    exact ⟨_, _, _, _, _, _, _, _, _, _, _, _, _, rfl, rfl⟩
  rw [if_pos h4, if_neg (le_nlt h4), if_neg (show ¬ (1 : Int32) = 0 by decide)]
  rw [usew hT ha hb]
  obtain ⟨hn, hh, rfl⟩ := hn_of h
  obtain ⟨q, hq, rfl⟩ := nI_of2 (M := 4) (n := 4) (by decide) h0 h4
  obtain ⟨c9', en', se', fst', we', ws', f9', e9, hE⟩ := la9_eq (a := a) (b := b) (K := 0) (wo := wo) (en := en) (se := se) (fs := fst) (we := we) (ws := ws) (f := f9) (c := c9) hC (by omega)
  have ek : nI 0 = 0 := rfl
  rw [ek] at e9
  rw [e9]
  simp only [bs]
  obtain ⟨x1, x2, x3⟩ := hE l hn hl hh
  obtain ⟨hm1, hm2⟩ := LAx_ok (wo := wo) hC a b 0 hn l hl
  rw [two_mul, nI_add]
  simp only [if_pos (ixb_nI (show 2 * l + hn < 8192 by omega) (by decide)), nI_clamp (show 2 * l + hn < 2 ^ 31 by omega), x1, x2, x3]
  by_cases hq4 : q = 4
  · subst hq4
    have d1 : nI 4 = 4 := rfl
    have d2 : (2 : Int32) ≤ nI 4 := by decide
    have d3 : ¬ nI 4 = 2 := by decide
    have d4 : ¬ nI 4 = 3 := by decide
    simp only [if_pos d1, if_pos d2, if_neg d3, if_neg d4]
    unfold f_X1_firstSent_s0 f_X1_look_s0
    have e4096 : (4096 : Int32) = nI 4096 := rfl
    rw [bs, e4096, if_neg (nI_ge (by omega) (by omega)), bs]
    exact ⟨_, _, _, _, _, _, _, _, _, _, _, _, _, rfl, rfl⟩
  · have d1 : ¬ nI q = 4 := fun e => hq4 (nI_inj (by omega) (by omega) e)
    simp only [if_neg d1]
    unfold f_X1_look_s0
    have e0 : nI l = nI (LAx N L st wo a b 0 hn l) := rfl
    rw [bs, e0]
    rw [rem4096 (by omega), div4096 (by omega)]
    by_cases hq2 : q = 2
    · subst hq2
      have z2 : nI 2 = 2 := rfl
      have z3 : (2 : Int32) ≤ nI 2 := by decide
      simp only [if_pos z3, if_pos z2]
      exact ⟨_, _, _, _, _, _, _, _, _, _, _, _, _, rfl, rfl⟩
    have z2 : ¬ nI q = 2 := fun e => hq2 (nI_inj (by omega) (by omega) e)
    simp only [if_neg z2]
    by_cases hq3 : q = 3
    · subst hq3
      have z2 : nI 3 = 3 := rfl
      have z3 : (2 : Int32) ≤ nI 3 := by decide
      simp only [if_pos z3, if_pos z2]
      exact ⟨_, _, _, _, _, _, _, _, _, _, _, _, _, rfl, rfl⟩
    have z3 : ¬ nI q = 3 := fun e => hq3 (nI_inj (by omega) (by omega) e)
    have z4 : ¬ (2 : Int32) ≤ nI q := nI_ge (b := 2) (by omega) (by omega)
    rw [if_neg z3, if_neg z4, wt8_eq hW hm1, two_mul, nI_add, if_pos (ixb_nI (show 2 * (LAx N L st wo a b 0 hn l % 4096) + q < 8192 by omega) (by decide)), nI_clamp (by omega), wt_h (by omega)]
    exact ⟨_, _, _, _, _, _, _, _, _, _, _, _, _, rfl, rfl⟩
theorem o_first_0 {N L Z ns no nt T a b : Nat} {sc sense st one other wo  en se fst we ws f9 : Nat → Int32} {fl fn fs c9  : Int32} (hC : CT N L Z ns sc sense st) (hW : WT Z no nt one other wo) (hT : T ≤ 600) (ha : a < 3) (hb : b < 2) (p1 : Int32) : ∃ r fl' fn' fs'  c9' en' se' fst' we' ws' f9', f_X8_first_s0 (nI T) (nI Z) (nI a) (nI b) nt other no one  fl fn fs  p1 = some (r, fl', fn', fs') ∧ f_X9_first (nI L) (nI N) (nI Z) (nI a) (nI b) st wo c9 en se fst we ws f9 p1 0 = some (r, c9', en', se', fst', we', ws', f9') := by
  have hZ := hC.Z_le
  unfold f_X8_first_s0 f_X9_first
  rcases pk_ix p1 (n := Z) (by omega) with h2 | h2 | ⟨l, hl, rfl⟩
  · rw [il8_no (Or.inl h2), il9_no (by omega) (Or.inl h2)]
    simp only [bs, c00, if_true]
    exact ⟨_, _, _, _, _, _, _, _, _, _, _, rfl, rfl⟩
  · rw [il8_no (Or.inr h2), il9_no (by omega) (Or.inr h2)]
    simp only [bs, c00, if_true]
    exact ⟨_, _, _, _, _, _, _, _, _, _, _, rfl, rfl⟩
  rw [il8_yes (by omega) hl, il9_yes (by omega) hl]
  have em : f_X8_isMoves 0 = some 1 := by decide
  have ei : f_X9_in ((0 : Int32).toInt64) 0 8 = some 1 := by rw [in_lit 0 (y := 8) (by decide)]; decide
  rw [em, ei]
  simp only [bs, c10, if_false]
  rw [usew hT ha hb]
  obtain ⟨c9', en', se', fst', we', ws', f9', e9, hE⟩ := la9_eq (a := a) (b := b) (K := 0) (wo := wo) (en := en) (se := se) (fs := fst) (we := we) (ws := ws) (f := f9) (c := c9) hC (by omega)
  have ek : nI 0 = 0 := rfl
  rw [ek] at e9
  rw [e9]
  simp only [bs]
  obtain ⟨x1, -, -⟩ := hE l 0 hl (by omega)
  obtain ⟨y1, -, -⟩ := hE l 1 hl (by omega)
  obtain ⟨hm1, hm2⟩ := LAx_ok (wo := wo) hC a b 0 0 l hl
  obtain ⟨hk1, hk2⟩ := LAx_ok (wo := wo) hC a b 0 1 l hl
  have x1 : en' (2 * l) = nI (LAx N L st wo a b 0 0 l % 4096) := x1
  have w0 : ∀ c, wt wo 0 c = wo (2 * c) := fun c => if_pos rfl
  rw [two_mul, nI_1]
  simp only [if_pos (ixb_nI (show 2 * l < 8192 by omega) (by decide)), nI_clamp (show 2 * l < 2 ^ 31 by omega), if_pos (ixb_nI (show 2 * l + 1 < 8192 by omega) (by decide)), nI_clamp (show 2 * l + 1 < 2 ^ 31 by omega), x1, y1, two_mul, if_pos (ixb_nI (show 2 * (LAx N L st wo a b 0 0 l % 4096) < 8192 by omega) (by decide)), if_pos (ixb_nI (show 2 * (LAx N L st wo a b 0 1 l % 4096) < 8192 by omega) (by decide)), nI_clamp (show 2 * (LAx N L st wo a b 0 0 l % 4096) < 2 ^ 31 by omega), nI_clamp (show 2 * (LAx N L st wo a b 0 1 l % 4096) < 2 ^ 31 by omega)]
  have q0 : nI 0 = 0 := rfl
  have q1 : nI 1 = 1 := rfl
  unfold f_X1_look_s0
  have e0 : nI l - nI l / 4096 * 4096 = nI (LAx N L st wo a b 0 0 l % 4096) := rem4096 (by omega)
  have e1 : LAx N L st wo a b 0 1 l = LAx N L st wo a b 0 0 l := rfl
  simp only [bs]
  rw [e0, wt8_eq hW hm1, e1]
  simp only [bs, w0]
  exact ⟨_, _, _, _, _, _, _, _, _, _, _, rfl, rfl⟩
