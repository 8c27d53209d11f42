/-! drift -/
def dr (s : Nat) : Nat := (s * 1103515245 + 12345) % 2147483648
theorem dr_lt (s : Nat) : dr s < 2147483648 := Nat.mod_lt _ (by decide)
theorem dr8_seed (s : Nat) : (nI s * 1103515245 + 12345) &&& 2147483647 = nI (dr s) := by
  have e1 : nI s * 1103515245 = nI (s * 1103515245) := pk_mul s 1103515245
  have e2 : nI (s * 1103515245) + 12345 = nI (s * 1103515245 + 12345) := nI_add _ 12345
  rw [e1, e2, pk_and _ 31 (by decide)]
  have e3 : (nI (s * 1103515245 + 12345)).toBitVec.toNat = (s * 1103515245 + 12345) % 2 ^ 32 := BitVec.toNat_ofNat _ _
  have e4 : ∀ x : Nat, x % 2 ^ 32 % 2 ^ 31 = x % 2147483648 := fun x => by omega
  rw [e3, e4]
  rfl
theorem dr9_seed {s : Nat} (hs : s < 2 ^ 31) : (((nI s).toInt64 * 1103515245 + 12345) - ((nI s).toInt64 * 1103515245 + 12345) / 2147483648 * 2147483648 : Int64).toInt32 = nI (dr s) := by
  have e0 := nI_l hs
  have e1 : lN s * 1103515245 = lN (s * 1103515245) := lN_mul s 1103515245
  have e2 : lN (s * 1103515245) + 12345 = lN (s * 1103515245 + 12345) := lN_add _ 12345
  have e3 : lN (s * 1103515245 + 12345) - lN (s * 1103515245 + 12345) / 2147483648 * 2147483648 = lN ((s * 1103515245 + 12345) % 2147483648) := pk_lRem (b := 2147483648) (by omega) (by decide) (by decide)
  rw [e0, e1, e2, e3, lN_i]
  rfl
theorem dr8 {s n : Nat} (h0 : 0 < n) (hn : n < 2 ^ 31) : f_X0_draw (nI s) (nI n) = some (nI (dr s / 65536 % n), nI (dr s)) := by
  have hd := dr_lt s
  unfold f_X0_draw
  have e1 : nI (dr s) / 65536 = nI (dr s / 65536) := pk_div (d := 65536) (by omega) (by decide) (by decide)
  rw [dr8_seed, if_neg (nI_nle h0 hn), if_pos (nI_ne0 h0 hn), e1, pk_rem (by omega) h0 hn]
theorem dr9 {s n : Nat} (hs : s < 2 ^ 31) (h0 : 0 < n) (hn : n < 2 ^ 31) : f_X9_draw (nI s) (nI n) = some (nI (dr s / 65536 % n), nI (dr s)) := by
  have hd := dr_lt s
  unfold f_X9_draw
  have e1 : nI (dr s) / 65536 = nI (dr s / 65536) := pk_div (d := 65536) (by omega) (by decide) (by decide)
  rw [dr9_seed hs, if_pos (nI_ne0 h0 hn), e1, pk_rem (by omega) h0 hn]
theorem LFx_ok {N L Z ns : Nat} {sc sense st wo : Nat → Int32} (hC : CT N L Z ns sc sense st) (a b k h l : Nat) (hl : l < Z) : LFx N L st wo a b k h l = -1 ∨ ∃ z, z < Z ∧ LFx N L st wo a b k h l = nI z := by
  cases k with
  | zero => exact Or.inl rfl
  | succ k =>
    have hd : LFx N L st wo a b (k + 1) h l = lfb (wt wo (nI h)) (LAx N L st wo a b k (1 - h)) (chL N L (nI a) (okF st (wy (nI b))) l) (-1) (wt wo (nI h) l) := rfl
    rcases lab_spec (wt wo (nI h)) (LAx N L st wo a b k (1 - h)) (chL N L (nI a) (okF st (wy (nI b))) l) l (-1) (wt wo (nI h) l) with ⟨-, -, d⟩ | ⟨us, z, vs, e, -, d, -⟩
    · exact Or.inl (hd.trans d)
    · exact Or.inr ⟨z, ((ch_ct (law := nI a) (any := wy (nI b)) hC hl).2 z (by rw [e]; simp)).1, hd.trans d⟩
theorem df_L {N L Z ns no nt T a b nm K : Nat} {sc sense st one other wo : Nat → Int32} {set : Int32} (hC : CT N L Z ns sc sense st) (hW : WT Z no nt one other wo) (hT : T ≤ 600) (ha : a < 3) (hb : b < 2) (hnm : 16 * Z ≤ nm) (hnm2 : nm ≤ 65536) (hK : K ≤ 40) : ∀ n i, i ≤ K → K - i < n → ∀ (lt k s : Nat) (turn : Int32) (mem : Nat → Int32) (c2 : Int32) (f2 : Nat → Int32) (c1 : Int32) (f1 en8 ga : Nat → Int32) (c8 : Int32) (f8 : Nat → Int32) (c9 : Int32) (en se fst we ws f9 had who fr to : Nat → Int32), lt < Z → s < 2 ^ 31 → (turn = 0 ∨ turn = 1) → MM Z T nm (LAx N L st wo) mem → LG en8 who fr to → LK Z k who fr to → had 0 = ga 0 → had 1 = ga 1 → ∃ lt' k' s' turn' fl' fn' fs' mem' c2' f2' c1' f1' en8' ga' c8' f8' c9' en' se' fst' we' ws' f9' had' who' fr' to', f_X8_drift_L73 (nI T) (nI Z) set (nI a) (nI b) nm nt other no one (nI L) (nI N) sc 31 ns sense 31 31 n (nI K) (nI i) (nI lt) turn (nI k) (nI s) (nI a) (wy (nI b)) (nI (T * 6 + a * 2 + b)) mem c2 f2 c1 f1 en8 ga c8 f8 = some (nI lt', nI lt', turn', nI k', nI s', fl', fn', fs', mem', c2', f2', c1', f1', en8', ga', c8', f8') ∧ f_X9_drift_L35 (nI L) (nI N) (nI Z) (nI a) (nI b) set st wo n (nI K) (nI i) (nI lt) turn (nI k) (nI s) c9 en se fst we ws f9 had who fr to = some (nI lt', nI lt', turn', nI k', nI s', c9', en', se', fst', we', ws', f9', had', who', fr', to') ∧ lt' < Z ∧ s' < 2 ^ 31 ∧ (turn' = 0 ∨ turn' = 1) ∧ MM Z T nm (LAx N L st wo) mem' ∧ LG en8' who' fr' to' ∧ LK Z k' who' fr' to' ∧ had' 0 = ga' 0 ∧ had' 1 = ga' 1 := by
  have hZ := hC.Z_le
  intro n
  induction n with
  | zero => intro i _ h; omega
  | succ n ih =>
    intro i hi hn lt k s turn mem c2 f2 c1 f1 en8 ga c8 f8 c9 en se fst we ws f9 had who fr to hlt hs ht hMM hG hKK h0 h1
    rw [f_X8_drift_L73.eq_2, f_X9_drift_L35.eq_2]
    by_cases e : i = K
    · subst e
      rw [if_pos (nI_le (Nat.le_refl _) (by omega)), if_pos (nI_le (Nat.le_refl _) (by omega))]
      exact ⟨lt, k, s, turn, _, _, _, _, _, _, _, _, _, _, _, _, _, _, _, _, _, _, _, _, _, _, _, rfl, rfl, hlt, hs, ht, hMM, hG, hKK, h0, h1⟩
    · have ih := ih (i + 1) (by omega) (by omega)
      have hd := dr_lt s
      rw [if_neg (nI_ge (by omega) (by omega)), if_neg (nI_ge (by omega) (by omega)), nI_1]
      unfold f_X9_driftNow
      have q8 : f_X0_draw (nI s) 4 = some (nI (dr s / 65536 % 4), nI (dr s)) := dr8 (n := 4) (by decide) (by decide)
      have q9 : f_X9_draw (nI s) 4 = some (nI (dr s / 65536 % 4), nI (dr s)) := dr9 (n := 4) hs (by decide) (by decide)
      rw [q8, q9]
      simp only [bs]
      by_cases hz : dr s / 65536 % 4 = 0
      · have hz' : nI (dr s / 65536 % 4) = 0 := by rw [hz]; rfl
        simp only [if_pos hz']
        unfold f_X8_sendAnyChange
        rw [fcw]
        obtain ⟨hxl, hxm⟩ := ch_ct (law := nI a) (any := wy (nI b)) hC hlt
        obtain ⟨g8, e8, r8⟩ := lc8_eq (law := nI a) (way := nI b) (f := f8) (cnt := c8) (nl := 31) hC hlt (by omega) (by omega)
        obtain ⟨g9, e9, r9⟩ := fc_ct (law := nI a) (any := wy (nI b)) (f := f9) (cnt := c9) hC hlt
        rw [e8, e9]
        generalize chL N L (nI a) (okF st (wy (nI b))) lt = xs at *
        simp only [bs]
        by_cases hx0 : xs.length = 0
        · have hx' : nI xs.length ≤ 0 := by rw [hx0]; decide
          simp only [if_pos hx', bs]
          exact ih lt k (dr s) turn mem c2 f2 c1 f1 en8 ga _ g8 _ en se fst we ws g9 had who fr to hlt (by omega) ht hMM hG hKK h0 h1
        · have hx' : ¬ nI xs.length ≤ 0 := nI_nle (by omega) (by omega)
          simp only [if_neg hx']
          have hj := Nat.mod_lt (dr (dr s) / 65536) (show 0 < xs.length by omega)
          rw [dr8 (by omega) (by omega), dr9 (by omega) (by omega) (by omega)]
          simp only [bs]
          generalize dr (dr s) / 65536 % xs.length = j at *
          rw [get_eq r8 hxl (by decide) hj, if_pos (ixb_nI (by omega) (by decide)), nI_clamp (by omega), r9 j hj]
          simp only [bs]
          have hz2 : xs.getD j 0 < Z := by
            have : xs.getD j 0 ∈ xs := by
              rw [List.getD_eq_getElem?_getD, List.getElem?_eq_getElem hj]
              exact List.getElem_mem hj
            exact (hxm _ this).1
          obtain ⟨k', en', who', fr', to', p8, p9, hG', hK'⟩ := ps_eq hG hKK ht hlt hz2
          rw [p8, p9]
          simp only [bs]
          have hd2 := dr_lt (dr s)
          exact ih _ k' (dr (dr s)) (1 - turn) mem c2 f2 c1 f1 en' ga _ g8 _ en se fst we ws g9 had who' fr' to' hz2 (by omega) (turn_ok ht) hMM hG' hK' h0 h1
      · have hz' : ¬ nI (dr s / 65536 % 4) = 0 := nI_ne0 (by omega) (by omega)
        simp only [if_neg hz']
        unfold f_X8_sendWhatPays
        obtain ⟨hn, hh, rfl⟩ := hn_of ht
        obtain ⟨mem1, d2, g2, d1, g1, e1, hMM1⟩ := fs2 hC hW hT ha hb hnm hnm2 hh hlt mem c2 f2 c1 f1 hMM
        obtain ⟨c9', en', se', fst', we', ws', f9', e9, hE⟩ := la9_eq (a := a) (b := b) (K := 2) (wo := wo) (en := en) (se := se) (fs := fst) (we := we) (ws := ws) (f := f9) (c := c9) hC (by omega)
        have ek : nI 2 = 2 := rfl
        rw [ek] at e9
        rw [e1, e9]
        simp only [bs]
        obtain ⟨-, -, x3⟩ := hE lt hn hlt hh
        rw [two_mul, nI_add]
        simp only [if_pos (ixb_nI (show 2 * lt + hn < 8192 by omega) (by decide)), nI_clamp (show 2 * lt + hn < 2 ^ 31 by omega), x3]
        rcases LFx_ok (wo := wo) hC a b 2 hn lt hlt with hF | ⟨z, hz2, hF⟩
        · rw [hF, if_pos rfl, if_pos (by decide), gb8_eq hW hlt, hb9_eq (by omega)]
          simp only [bs]
          exact ih lt k (dr s) (1 - nI hn) mem1 d2 g2 d1 g1 en8 _ c8 f8 _ en' se' fst' we' ws' f9' _ who fr to hlt (by omega) (turn_ok ht) hMM1 hG hKK (by rw [pk_un (by decide), pk_us, pk_un (by decide), pk_us, h0]) (by rw [pk_us, pk_us, h1])
        · have hm1 : ¬ nI z = -1 := nI_ne_m1 (by omega)
          rw [hF, if_neg hm1, if_neg (nI_pos (by omega))]
          obtain ⟨k', en2, who', fr', to', p8, p9, hG', hK'⟩ := ps_eq hG hKK ht hlt hz2
          rw [p8, p9]
          simp only [bs]
          exact ih z k' (dr s) (1 - nI hn) mem1 d2 g2 d1 g1 en2 ga c8 f8 _ en' se' fst' we' ws' f9' had who' fr' to' hz2 (by omega) (turn_ok ht) hMM1 hG' hK' h0 h1
theorem o_drift {N L Z ns no nt T a b nm k s : Nat} {sc sense st one other wo mem f2 f1 en8 ga f8 en se fst we ws f9 had who fr to : Nat → Int32} {set letter turn fl fn fs c2 c1 c8 c9 : Int32} (hC : CT N L Z ns sc sense st) (hW : WT Z no nt one other wo) (hT : T ≤ 600) (ha : a < 3) (hb : b < 2) (hnm : 16 * Z ≤ nm) (hnm2 : nm ≤ 65536) (hlt : LT Z letter) (hs : s < 2 ^ 31) (ht : turn = 0 ∨ turn = 1) (hMM : MM Z T nm (LAx N L st wo) mem) (hG : LG en8 who fr to) (hKK : LK Z k who fr to) (h0 : had 0 = ga 0) (h1 : had 1 = ga 1) (p1 : Int32) : ∃ r letter' k' s' turn' fl' fn' fs' mem' c2' f2' c1' f1' en8' ga' c8' f8' c9' en' se' fst' we' ws' f9' had' who' fr' to', f_X8_drift (nI T) (nI Z) set (nI a) (nI b) nm nt other no one (nI L) (nI N) sc 31 ns sense 31 31 letter turn (nI k) (nI s) fl fn fs mem c2 f2 c1 f1 en8 ga c8 f8 p1 = some (r, letter', turn', nI k', nI s', fl', fn', fs', mem', c2', f2', c1', f1', en8', ga', c8', f8') ∧ f_X9_drift (nI L) (nI N) (nI Z) (nI a) (nI b) set st wo letter turn (nI k) (nI s) c9 en se fst we ws f9 had who fr to p1 = some (r, letter', turn', nI k', nI s', c9', en', se', fst', we', ws', f9', had', who', fr', to') ∧ LT Z letter' ∧ s' < 2 ^ 31 ∧ (turn' = 0 ∨ turn' = 1) ∧ MM Z T nm (LAx N L st wo) mem' ∧ LG en8' who' fr' to' ∧ LK Z k' who' fr' to' ∧ had' 0 = ga' 0 ∧ had' 1 = ga' 1 := by
  have hZ := hC.Z_le
  unfold f_X8_drift f_X9_drift
  rw [in_lit2 p1 (y := 1) (z := 40) (by decide) (by decide), bs]
  by_cases hp : p1 < 1
  · rw [if_pos hp, if_pos hp, if_pos rfl]
    exact ⟨_, _, _, _, _, _, _, _, _, _, _, _, _, _, _, _, _, _, _, _, _, _, _, _, _, _, _, _, rfl, rfl, hlt, hs, ht, hMM, hG, hKK, h0, h1⟩
  by_cases hp2 : p1 ≤ 40
  case neg =>
    rw [if_neg hp, if_neg hp, if_neg hp2, if_pos (nle_lt hp2), if_pos rfl]
    exact ⟨_, _, _, _, _, _, _, _, _, _, _, _, _, _, _, _, _, _, _, _, _, _, _, _, _, _, _, _, rfl, rfl, hlt, hs, ht, hMM, hG, hKK, h0, h1⟩
  rw [if_neg hp, if_neg hp, if_pos hp2, if_neg (le_nlt hp2), if_neg (show ¬ (1 : Int32) = 0 by decide)]
  by_cases hz : Z = 0
  · subst hz
    rw [if_pos nI_0, if_pos nI_0]
    exact ⟨_, _, _, _, _, _, _, _, _, _, _, _, _, _, _, _, _, _, _, _, _, _, _, _, _, _, _, _, rfl, rfl, hlt, hs, ht, hMM, hG, hKK, h0, h1⟩
  rw [if_neg (nI_ne0 (by omega) (by omega)), if_neg (nI_ne0 (by omega) (by omega))]
  by_cases hse : set = 0
  case neg =>
    rw [if_neg hse, if_neg hse]
    exact ⟨_, _, _, _, _, _, _, _, _, _, _, _, _, _, _, _, _, _, _, _, _, _, _, _, _, _, _, _, rfl, rfl, hlt, hs, ht, hMM, hG, hKK, h0, h1⟩
  rw [if_pos hse, if_pos hse, usew hT ha hb]
  have h00 : ¬ p1 < 0 := fun q => hp (i_lt_tr q (by decide))
  obtain ⟨K, hK, rfl⟩ := nI_of2 (M := 40) (n := 40) (by decide) h00 hp2
  obtain ⟨lt, rfl, hlt⟩ := hlt
  have hlt : lt < Z := by omega
  obtain ⟨lt', k', s', turn', fl', fn', fs', mem', c2', f2', c1', f1', en8', ga', c8', f8', c9', en', se', fst', we', ws', f9', had', who', fr', to', x8, x9, y1, y2, y3, y4, y5, y6, y7, y8⟩ := df_L (set := set) hC hW hT ha hb hnm hnm2 hK FU 0 (Nat.zero_le _) (FU_lt (by omega)) lt k s turn mem c2 f2 c1 f1 en8 ga c8 f8 c9 en se fst we ws f9 had who fr to hlt hs ht hMM hG hKK h0 h1
  have e0 : nI 0 = 0 := rfl
  rw [e0] at x8 x9
  exact ⟨_, _, _, _, _, _, _, _, _, _, _, _, _, _, _, _, _, _, _, _, _, _, _, _, _, _, _, _, x8, x9, ⟨lt', rfl, Or.inl y1⟩, y2, y3, y4, y5, y6, y7, y8⟩
