theorem o_ahead_6 {N L Z ns no nt T a b nm : Nat} {sc sense st one other wo mem f6 f5 f4 f3 f2 f1 en se fst we ws f9 : Nat → Int32} {fl fn fs c9 c6 c5 c4 c3 c2 c1 : Int32} (hC : CT N L Z ns sc sense st) (hW : WT Z no nt one other wo) (hT : T ≤ 600) (ha : a < 3) (hb : b < 2) (hnm : 16 * Z ≤ nm) (hnm2 : nm ≤ 65536) (hMM : MM Z T nm (LAx N L st wo) mem) (p1 p2 p4 : Int32) : ∃ r fl' fn' fs' mem' c6' f6' c5' f5' c4' f4' c3' f3' c2' f2' c1' f1' c9' en' se' fst' we' ws' f9', f_X8_ahead_s6 (nI T) (nI Z) (nI a) (nI b) nm nt other no one (nI L) (nI N) sc 31 ns sense 31 31 31 31 31 fl fn fs mem c6 f6 c5 f5 c4 f4 c3 f3 c2 f2 c1 f1 p1 p2 p4 = some (r, fl', fn', fs', mem', c6', f6', c5', f5', c4', f4', c3', f3', c2', f2', c1', f1') ∧ f_X9_ahead (nI L) (nI N) (nI Z) (nI a) (nI b) st wo c9 en se fst we ws f9 p1 p2 6 p4 = some (r, c9', en', se', fst', we', ws', f9') ∧ MM Z T nm (LAx N L st wo) mem' := by
  have hZ := hC.Z_le
  unfold f_X8_ahead_s6 f_X9_ahead
  rcases ih_cases p2 with h | h
  case inr =>
    rw [ih8_no h, ih9_no h]
    simp only [bs, c00, if_true]
    exact ⟨_, _, _, _, _, _, _, _, _, _, _, _, _, _, _, _, _, _, _, _, _, _, _, _, rfl, rfl, hMM⟩
  rw [ih8_yes h, ih9_yes h]
  simp only [bs, c10, if_false]
  rcases pk_ix p1 (n := Z) (by omega) with h2 | h2 | ⟨l, hl, rfl⟩
  · rw [il8_no (Or.inl h2), il9_no (by omega) (Or.inl h2)]
    simp only [bs, c00, if_true]
    exact ⟨_, _, _, _, _, _, _, _, _, _, _, _, _, _, _, _, _, _, _, _, _, _, _, _, rfl, rfl, hMM⟩
  · rw [il8_no (Or.inr h2), il9_no (by omega) (Or.inr h2)]
    simp only [bs, c00, if_true]
    exact ⟨_, _, _, _, _, _, _, _, _, _, _, _, _, _, _, _, _, _, _, _, _, _, _, _, rfl, rfl, hMM⟩
  rw [il8_yes (by omega) hl, il9_yes (by omega) hl]
  have em : f_X8_isMoves 6 = some 1 := by decide
  have ei : f_X9_in ((6 : Int32).toInt64) 0 8 = some 1 := by rw [in_lit 6 (y := 8) (by decide)]; decide
  rw [em, ei, in_lit p4 (y := 4) (by decide)]
  simp only [bs, c10, if_false]
  by_cases h0 : p4 < 0
  · simp only [if_pos h0, if_true]
    exact ⟨_, _, _, _, _, _, _, _, _, _, _, _, _, _, _, _, _, _, _, _, _, _, _, _, rfl, rfl, hMM⟩
  simp only [if_neg h0]
  by_cases h4 : p4 ≤ 4
  case neg =>
    rw [if_neg h4, if_pos (nle_lt h4), if_pos rfl]
    exact ⟨_, _, _, _, _, _, _, _, _, _, _, _, _, _, _, _, _, _, _, _, _, _, _, _, rfl, rfl, hMM⟩
  rw [if_pos h4, if_neg (le_nlt h4), if_neg (show ¬ (1 : Int32) = 0 by decide)]
  rw [usew hT ha hb]
  obtain ⟨hn, hh, rfl⟩ := hn_of h
  obtain ⟨q, hq, rfl⟩ := nI_of2 (M := 4) (n := 4) (by decide) h0 h4
  obtain ⟨c9', en', se', fst', we', ws', f9', e9, hE⟩ := la9_eq (a := a) (b := b) (K := 6) (wo := wo) (en := en) (se := se) (fs := fst) (we := we) (ws := ws) (f := f9) (c := c9) hC (by omega)
  have ek : nI 6 = 6 := rfl
  rw [ek] at e9
  rw [e9]
  simp only [bs]
  obtain ⟨x1, x2, x3⟩ := hE l hn hl hh
  obtain ⟨hm1, hm2⟩ := LAx_ok (wo := wo) hC a b 6 hn l hl
  rw [two_mul, nI_add]
  simp only [if_pos (ixb_nI (show 2 * l + hn < 8192 by omega) (by decide)), nI_clamp (show 2 * l + hn < 2 ^ 31 by omega), x1, x2, x3]
  by_cases hq4 : q = 4
  · subst hq4
    have d1 : nI 4 = 4 := rfl
    have d2 : (2 : Int32) ≤ nI 4 := by decide
    have d3 : ¬ nI 4 = 2 := by decide
    have d4 : ¬ nI 4 = 3 := by decide
    simp only [if_pos d1, if_pos d2, if_neg d3, if_neg d4]
    obtain ⟨mem1, d6, g6, d5, g5, d4, g4, d3, g3, d2, g2, d1, g1, e1, hMM1⟩ := fs6 hC hW hT ha hb hnm hnm2 hh hl mem c6 f6 c5 f5 c4 f4 c3 f3 c2 f2 c1 f1 hMM
    rw [e1]
    simp only [bs]
    exact ⟨_, _, _, _, _, _, _, _, _, _, _, _, _, _, _, _, _, _, _, _, _, _, _, _, rfl, rfl, hMM1⟩
  · have d1 : ¬ nI q = 4 := fun e => hq4 (nI_inj (by omega) (by omega) e)
    simp only [if_neg d1]
    obtain ⟨mem1, d6, g6, d5, g5, d4, g4, d3, g3, d2, g2, d1, g1, e1, hMM1⟩ := lk6 hC hW hT ha hb hnm hnm2 hh hl mem c6 f6 c5 f5 c4 f4 c3 f3 c2 f2 c1 f1 hMM
    rw [e1]
    simp only [bs]
    rw [rem4096 (by omega), div4096 (by omega)]
    by_cases hq2 : q = 2
    · subst hq2
      have z2 : nI 2 = 2 := rfl
      have z3 : (2 : Int32) ≤ nI 2 := by decide
      simp only [if_pos z3, if_pos z2]
      exact ⟨_, _, _, _, _, _, _, _, _, _, _, _, _, _, _, _, _, _, _, _, _, _, _, _, rfl, rfl, hMM1⟩
    have z2 : ¬ nI q = 2 := fun e => hq2 (nI_inj (by omega) (by omega) e)
    simp only [if_neg z2]
    by_cases hq3 : q = 3
    · subst hq3
      have z2 : nI 3 = 3 := rfl
      have z3 : (2 : Int32) ≤ nI 3 := by decide
      simp only [if_pos z3, if_pos z2]
      exact ⟨_, _, _, _, _, _, _, _, _, _, _, _, _, _, _, _, _, _, _, _, _, _, _, _, rfl, rfl, hMM1⟩
    have z3 : ¬ nI q = 3 := fun e => hq3 (nI_inj (by omega) (by omega) e)
    have z4 : ¬ (2 : Int32) ≤ nI q := nI_ge (b := 2) (by omega) (by omega)
    rw [if_neg z3, if_neg z4, wt8_eq hW hm1, two_mul, nI_add, if_pos (ixb_nI (show 2 * (LAx N L st wo a b 6 hn l % 4096) + q < 8192 by omega) (by decide)), nI_clamp (by omega), wt_h (by omega)]
    exact ⟨_, _, _, _, _, _, _, _, _, _, _, _, _, _, _, _, _, _, _, _, _, _, _, _, rfl, rfl, hMM1⟩
theorem o_first_6 {N L Z ns no nt T a b nm : Nat} {sc sense st one other wo mem f6 f5 f4 f3 f2 f1 en se fst we ws f9 : Nat → Int32} {fl fn fs c9 c6 c5 c4 c3 c2 c1 : Int32} (hC : CT N L Z ns sc sense st) (hW : WT Z no nt one other wo) (hT : T ≤ 600) (ha : a < 3) (hb : b < 2) (hnm : 16 * Z ≤ nm) (hnm2 : nm ≤ 65536) (hMM : MM Z T nm (LAx N L st wo) mem) (p1 : Int32) : ∃ r fl' fn' fs' mem' c6' f6' c5' f5' c4' f4' c3' f3' c2' f2' c1' f1' c9' en' se' fst' we' ws' f9', f_X8_first_s6 (nI T) (nI Z) (nI a) (nI b) nm nt other no one (nI L) (nI N) sc 31 ns sense 31 31 31 31 31  fl fn fs mem c6 f6 c5 f5 c4 f4 c3 f3 c2 f2 c1 f1 p1 = some (r, fl', fn', fs', mem', c6', f6', c5', f5', c4', f4', c3', f3', c2', f2', c1', f1') ∧ f_X9_first (nI L) (nI N) (nI Z) (nI a) (nI b) st wo c9 en se fst we ws f9 p1 6 = some (r, c9', en', se', fst', we', ws', f9') ∧ MM Z T nm (LAx N L st wo) mem' := by
  have hZ := hC.Z_le
  unfold f_X8_first_s6 f_X9_first
  rcases pk_ix p1 (n := Z) (by omega) with h2 | h2 | ⟨l, hl, rfl⟩
  · rw [il8_no (Or.inl h2), il9_no (by omega) (Or.inl h2)]
    simp only [bs, c00, if_true]
    exact ⟨_, _, _, _, _, _, _, _, _, _, _, _, _, _, _, _, _, _, _, _, _, _, _, _, rfl, rfl, hMM⟩
  · rw [il8_no (Or.inr h2), il9_no (by omega) (Or.inr h2)]
    simp only [bs, c00, if_true]
    exact ⟨_, _, _, _, _, _, _, _, _, _, _, _, _, _, _, _, _, _, _, _, _, _, _, _, rfl, rfl, hMM⟩
  rw [il8_yes (by omega) hl, il9_yes (by omega) hl]
  have em : f_X8_isMoves 6 = some 1 := by decide
  have ei : f_X9_in ((6 : Int32).toInt64) 0 8 = some 1 := by rw [in_lit 6 (y := 8) (by decide)]; decide
  rw [em, ei]
  simp only [bs, c10, if_false]
  rw [usew hT ha hb]
  obtain ⟨c9', en', se', fst', we', ws', f9', e9, hE⟩ := la9_eq (a := a) (b := b) (K := 6) (wo := wo) (en := en) (se := se) (fs := fst) (we := we) (ws := ws) (f := f9) (c := c9) hC (by omega)
  have ek : nI 6 = 6 := rfl
  rw [ek] at e9
  rw [e9]
  simp only [bs]
  obtain ⟨x1, -, -⟩ := hE l 0 hl (by omega)
  obtain ⟨y1, -, -⟩ := hE l 1 hl (by omega)
  obtain ⟨hm1, hm2⟩ := LAx_ok (wo := wo) hC a b 6 0 l hl
  obtain ⟨hk1, hk2⟩ := LAx_ok (wo := wo) hC a b 6 1 l hl
  have x1 : en' (2 * l) = nI (LAx N L st wo a b 6 0 l % 4096) := x1
  have w0 : ∀ c, wt wo 0 c = wo (2 * c) := fun c => if_pos rfl
  rw [two_mul, nI_1]
  simp only [if_pos (ixb_nI (show 2 * l < 8192 by omega) (by decide)), nI_clamp (show 2 * l < 2 ^ 31 by omega), if_pos (ixb_nI (show 2 * l + 1 < 8192 by omega) (by decide)), nI_clamp (show 2 * l + 1 < 2 ^ 31 by omega), x1, y1, two_mul, if_pos (ixb_nI (show 2 * (LAx N L st wo a b 6 0 l % 4096) < 8192 by omega) (by decide)), if_pos (ixb_nI (show 2 * (LAx N L st wo a b 6 1 l % 4096) < 8192 by omega) (by decide)), nI_clamp (show 2 * (LAx N L st wo a b 6 0 l % 4096) < 2 ^ 31 by omega), nI_clamp (show 2 * (LAx N L st wo a b 6 1 l % 4096) < 2 ^ 31 by omega)]
  have q0 : nI 0 = 0 := rfl
  have q1 : nI 1 = 1 := rfl
  obtain ⟨mem1, d6, g6, d5, g5, d4, g4, d3, g3, d2, g2, d1, g1, e1, hMM1⟩ := lk6 hC hW hT ha hb hnm hnm2 (h := 0) (by omega) hl mem c6 f6 c5 f5 c4 f4 c3 f3 c2 f2 c1 f1 hMM
  rw [q0] at e1
  rw [e1]
  simp only [bs]
  obtain ⟨mem2, k6, j6, k5, j5, k4, j4, k3, j3, k2, j2, k1, j1, e2, hMM2⟩ := lk6 hC hW hT ha hb hnm hnm2 (h := 1) (by omega) hl mem1 d6 g6 d5 g5 d4 g4 d3 g3 d2 g2 d1 g1 hMM1
  rw [q1] at e2
  rw [e2]
  simp only [bs]
  rw [rem4096 (by omega), rem4096 (by omega), wt8_eq hW hm1, wt8_eq hW hk1]
  simp only [bs, w0]
  exact ⟨_, _, _, _, _, _, _, _, _, _, _, _, _, _, _, _, _, _, _, _, _, _, _, _, rfl, rfl, hMM2⟩
