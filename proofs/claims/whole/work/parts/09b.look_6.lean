theorem lk6_L {N L Z ns no nt T a b nm : Nat} {sc sense st one other wo : Nat → Int32} (hC : CT N L Z ns sc sense st) (hW : WT Z no nt one other wo) (hT : T ≤ 600) (ha : a < 3) (hb : b < 2) (hnm : 16 * Z ≤ nm) (hnm2 : nm ≤ 65536) {h l : Nat} (hh : h < 2) (hl : l < Z) {TT : Nat} (hTT : TT ≤ 31) (f : Nat → Int32) : ∀ (zs ys : List Nat) (n : Nat), (ys ++ zs).length = TT → zs.length < n → Rp f (ys ++ zs) → (∀ z ∈ zs, z < Z) → ∀ (bst : Nat) (m : Int32) (mem : Nat → Int32) (c5 : Int32) (f5 : Nat → Int32) (c4 : Int32) (f4 : Nat → Int32) (c3 : Int32) (f3 : Nat → Int32) (c2 : Int32) (f2 : Nat → Int32) (c1 : Int32) (f1 : Nat → Int32), lab (wt wo (nI h)) (LAx N L st wo a b 5 (1 - h)) zs bst m = LAx N L st wo a b 6 h l → MM Z T nm (LAx N L st wo) mem → ∃ mem' c5' f5' c4' f4' c3' f3' c2' f2' c1' f1', f_X1_look_s6_L119 (nI a) (wy (nI b)) (nI (T * 6 + a * 2 + b)) (nI Z) nm nt other no one (nI L) (nI N) sc 31 ns sense 31 31 31 31 31 n (nI h) (nI ((5 * 2 + h) * Z + l)) (nI bst) m (nI ys.length) mem (nI TT) f c5 f5 c4 f4 c3 f3 c2 f2 c1 f1 = some (nI (LAx N L st wo a b 6 h l), mem', nI TT, f, c5', f5', c4', f4', c3', f3', c2', f2', c1', f1') ∧ MM Z T nm (LAx N L st wo) mem' := by
  have hZ := hC.Z_le
  have hsp := spot_lt (k := 5) (by decide) hh hl
  intro zs
  induction zs with
  | nil =>
    intro ys n hx hn hR hz bst m mem c5 f5 c4 f4 c3 f3 c2 f2 c1 f1 hend hMM
    obtain ⟨n, rfl⟩ : ∃ m, n = m + 1 := ⟨n - 1, by simp at hn; omega⟩
    have hend : bst = LAx N L st wo a b 6 h l := hend
    have hb2 := (LAx_ok (wo := wo) hC a b 6 h l hl).2
    rw [f_X1_look_s6_L119.eq_2, if_pos (nI_le (by simp at hx; omega) (by simp at hx; omega)), if_pos (ixb_nI (by omega) (by omega)), nI_clamp (by omega), hend]
    exact ⟨_, _, _, _, _, _, _, _, _, _, _, rfl, MM_upd hMM hT ha hb (by decide) hh hl (by show LAx N L st wo a b 6 h l < 65536; omega)⟩
  | cons z zs ih =>
    intro ys n hx hn hR hz bst m mem c5 f5 c4 f4 c3 f3 c2 f2 c1 f1 hend hMM
    obtain ⟨n, rfl⟩ : ∃ m, n = m + 1 := ⟨n - 1, by simp at hn; omega⟩
    have hl2 := len_lt ys zs z
    have hz0 := hz z (List.mem_cons_self ..)
    have hz2 := fun x (hx : x ∈ zs) => hz x (List.mem_cons_of_mem _ hx)
    have hx' : ((ys ++ [z]) ++ zs).length = TT := by rw [← app1]; exact hx
    have hR' : Rp f ((ys ++ [z]) ++ zs) := by rw [← app1]; exact hR
    have ih := ih (ys ++ [z]) n hx' (by simp at hn; omega) hR' hz2
    have hg1 : f_X6_get (nI TT) 31 f (nI ys.length) = some (nI z) := by
      rw [← hx]; exact get_at hR (by omega) (by decide)
    obtain ⟨hm1, hm2⟩ := LAx_ok (wo := wo) hC a b 5 (1 - h) z hz0
    rw [f_X1_look_s6_L119.eq_2, if_neg (nI_ge (by omega) (by omega)), hg1, bs, one_sub hh, len1 ys z]
    obtain ⟨mem1, d5, g5, d4, g4, d3, g3, d2, g2, d1, g1, e1, hMM1⟩ := lk5 hC hW hT ha hb hnm hnm2 (h := 1 - h) (by omega) hz0 mem c5 f5 c4 f4 c3 f3 c2 f2 c1 f1 hMM
    rw [e1]
    simp only [bs]
    rw [rem4096 (by omega), wt8_eq hW hm1, bs]
    rw [lab] at hend
    by_cases hq : wt wo (nI h) (LAx N L st wo a b 5 (1 - h) z % 4096) ≤ m
    · rw [if_pos hq]
      rw [if_pos hq] at hend
      exact ih bst m mem1 d5 g5 d4 g4 d3 g3 d2 g2 d1 g1 hend hMM1
    · rw [if_neg hq]
      rw [if_neg hq] at hend
      have e4 : nI (LAx N L st wo a b 5 (1 - h) z) + 4096 = nI (LAx N L st wo a b 5 (1 - h) z + 4096) := nI_add _ 4096
      rw [e4]
      exact ih _ _ mem1 d5 g5 d4 g4 d3 g3 d2 g2 d1 g1 hend hMM1
theorem lk6 {N L Z ns no nt T a b nm : Nat} {sc sense st one other wo : Nat → Int32} (hC : CT N L Z ns sc sense st) (hW : WT Z no nt one other wo) (hT : T ≤ 600) (ha : a < 3) (hb : b < 2) (hnm : 16 * Z ≤ nm) (hnm2 : nm ≤ 65536) {h l : Nat} (hh : h < 2) (hl : l < Z) (mem : Nat → Int32) (c6 : Int32) (f6 : Nat → Int32) (c5 : Int32) (f5 : Nat → Int32) (c4 : Int32) (f4 : Nat → Int32) (c3 : Int32) (f3 : Nat → Int32) (c2 : Int32) (f2 : Nat → Int32) (c1 : Int32) (f1 : Nat → Int32) (hMM : MM Z T nm (LAx N L st wo) mem) : ∃ mem' c6' f6' c5' f5' c4' f4' c3' f3' c2' f2' c1' f1', f_X1_look_s6 (nI a) (wy (nI b)) (nI (T * 6 + a * 2 + b)) (nI Z) nm nt other no one (nI L) (nI N) sc 31 ns sense 31 31 31 31 31 mem c6 f6 c5 f5 c4 f4 c3 f3 c2 f2 c1 f1 (nI l) (nI h) = some (nI (LAx N L st wo a b 6 h l), mem', c6', f6', c5', f5', c4', f4', c3', f3', c2', f2', c1', f1') ∧ MM Z T nm (LAx N L st wo) mem' := by
  have hZ := hC.Z_le
  have hsp := spot_lt (k := 5) (by decide) hh hl
  unfold f_X1_look_s6
  have e0 : (((6 : Int32) - 1) * 2) = nI (5 * 2) := by decide
  rw [e0, nI_add, pk_mul, nI_add]
  obtain ⟨m1, m2⟩ := hMM _ (show (5 * 2 + h) * Z + l < nm by omega)
  rw [if_neg (nI_pos (by omega)), if_pos (nI_lt (by omega) (by omega))]
  simp only [if_pos (ixb_nI (show (5 * 2 + h) * Z + l < nm by omega) (by omega)), nI_clamp (show (5 * 2 + h) * Z + l < 2 ^ 31 by omega)]
  by_cases hst : mst mem ((5 * 2 + h) * Z + l) = T * 6 + a * 2 + b
  · rw [if_pos ((mst_eq _ (by omega)).mpr hst), men_eq]
    have := m2 a b 5 h l ha hb (by decide) hh hl hst rfl
    unfold men at this
    rw [this]
    exact ⟨_, _, _, _, _, _, _, _, _, _, _, _, _, rfl, hMM⟩
  · rw [if_neg (fun q => hst ((mst_eq _ (by omega)).mp q)), wt8_eq hW hl, bs]
    obtain ⟨hxl, hxm⟩ := ch_ct (law := nI a) (any := wy (nI b)) hC hl
    obtain ⟨y8, x8, rr8⟩ := lc_ct (law := nI a) (any := wy (nI b)) (f := f6) (cnt := c6) (nl := 31) hC hl (by omega) (by omega)
    have hdef : LAx N L st wo a b 6 h l = lab (wt wo (nI h)) (LAx N L st wo a b 5 (1 - h)) (chL N L (nI a) (okF st (wy (nI b))) l) l (wt wo (nI h) l) := rfl
    rw [x8]
    generalize chL N L (nI a) (okF st (wy (nI b))) l = xs at *
    simp only [bs]
    have h00 : nI ([] : List Nat).length = 0 := rfl
    have key := lk6_L hC hW hT ha hb hnm hnm2 hh hl hxl y8 xs [] FU rfl (FU_lt (by omega)) rr8 (fun z hz => (hxm z hz).1) l (wt wo (nI h) l) mem c5 f5 c4 f4 c3 f3 c2 f2 c1 f1 hdef.symm hMM
    rw [h00] at key
    obtain ⟨mem', c5', f5', c4', f4', c3', f3', c2', f2', c1', f1', e, hM⟩ := key
    exact ⟨_, _, _, _, _, _, _, _, _, _, _, _, _, e, hM⟩
theorem fs6_L {N L Z ns no nt T a b nm : Nat} {sc sense st one other wo : Nat → Int32} (hC : CT N L Z ns sc sense st) (hW : WT Z no nt one other wo) (hT : T ≤ 600) (ha : a < 3) (hb : b < 2) (hnm : 16 * Z ≤ nm) (hnm2 : nm ≤ 65536) {h : Nat} (hh : h < 2) {TT : Nat} (hTT : TT ≤ 31) (f : Nat → Int32) {mx res : Int32} : ∀ (zs ys : List Nat) (n : Nat), (ys ++ zs).length = TT → zs.length < n → Rp f (ys ++ zs) → (∀ z ∈ zs, z < Z) → (∃ us z vs, zs = us ++ z :: vs ∧ (∀ u ∈ us, wt wo (nI h) (LAx N L st wo a b 5 (1 - h) u % 4096) < mx) ∧ wt wo (nI h) (LAx N L st wo a b 5 (1 - h) z % 4096) = mx ∧ res = nI z) → ∀ (mem : Nat → Int32) (c5 : Int32) (f5 : Nat → Int32) (c4 : Int32) (f4 : Nat → Int32) (c3 : Int32) (f3 : Nat → Int32) (c2 : Int32) (f2 : Nat → Int32) (c1 : Int32) (f1 : Nat → Int32), MM Z T nm (LAx N L st wo) mem → ∃ mem' c5' f5' c4' f4' c3' f3' c2' f2' c1' f1', f_X1_firstSent_s6_L74 (nI a) (wy (nI b)) (nI (T * 6 + a * 2 + b)) (nI Z) nm nt other no one (nI L) (nI N) sc 31 ns sense 31 31 31 31 31 n (nI h) mx (nI ys.length) mem (nI TT) f c5 f5 c4 f4 c3 f3 c2 f2 c1 f1 = some (res, mem', nI TT, f, c5', f5', c4', f4', c3', f3', c2', f2', c1', f1') ∧ MM Z T nm (LAx N L st wo) mem' := by
  have hZ := hC.Z_le
  intro zs
  induction zs with
  | nil =>
    intro ys n hx hn hR hz hd
    obtain ⟨us, z, vs, e, -⟩ := hd
    exact absurd (congrArg List.length e) (by simp)
  | cons x zs ih =>
    intro ys n hx hn hR hz hd mem c5 f5 c4 f4 c3 f3 c2 f2 c1 f1 hMM
    obtain ⟨n, rfl⟩ : ∃ m, n = m + 1 := ⟨n - 1, by simp at hn; omega⟩
    have hl2 := len_lt ys zs x
    have hz0 := hz x (List.mem_cons_self ..)
    have hz2 := fun y (hy : y ∈ zs) => hz y (List.mem_cons_of_mem _ hy)
    have hx' : ((ys ++ [x]) ++ zs).length = TT := by rw [← app1]; exact hx
    have hR' : Rp f ((ys ++ [x]) ++ zs) := by rw [← app1]; exact hR
    have ih := ih (ys ++ [x]) n hx' (by simp at hn; omega) hR' hz2
    have hg1 : f_X6_get (nI TT) 31 f (nI ys.length) = some (nI x) := by
      rw [← hx]; exact get_at hR (by omega) (by decide)
    obtain ⟨hm1, hm2⟩ := LAx_ok (wo := wo) hC a b 5 (1 - h) x hz0
    rw [f_X1_firstSent_s6_L74.eq_2, if_neg (nI_ge (by omega) (by omega)), hg1, bs, one_sub hh, len1 ys x]
    obtain ⟨mem1, d5, g5, d4, g4, d3, g3, d2, g2, d1, g1, e1, hMM1⟩ := lk5 hC hW hT ha hb hnm hnm2 (h := 1 - h) (by omega) hz0 mem c5 f5 c4 f4 c3 f3 c2 f2 c1 f1 hMM
    rw [e1]
    simp only [bs]
    rw [rem4096 (by omega), wt8_eq hW hm1]
    simp only [bs]
    obtain ⟨us, z, vs, e, q1, q2, q3⟩ := hd
    cases us with
    | nil =>
      have e : x = z ∧ zs = vs := by simpa using e
      rw [e.1, if_pos q2, ← q3]
      exact ⟨_, _, _, _, _, _, _, _, _, _, _, rfl, hMM1⟩
    | cons u us =>
      have e : x = u ∧ zs = us ++ z :: vs := by simpa using e
      have hlt := q1 u (List.mem_cons_self ..)
      rw [← e.1] at hlt
      rw [if_neg (fun q => by rw [q, Int32.lt_iff_toInt_lt] at hlt; omega)]
      exact ih ⟨us, z, vs, e.2, fun y hy => q1 y (List.mem_cons_of_mem _ hy), q2, q3⟩ mem1 d5 g5 d4 g4 d3 g3 d2 g2 d1 g1 hMM1
theorem fs6 {N L Z ns no nt T a b nm : Nat} {sc sense st one other wo : Nat → Int32} (hC : CT N L Z ns sc sense st) (hW : WT Z no nt one other wo) (hT : T ≤ 600) (ha : a < 3) (hb : b < 2) (hnm : 16 * Z ≤ nm) (hnm2 : nm ≤ 65536) {h l : Nat} (hh : h < 2) (hl : l < Z) (mem : Nat → Int32) (c6 : Int32) (f6 : Nat → Int32) (c5 : Int32) (f5 : Nat → Int32) (c4 : Int32) (f4 : Nat → Int32) (c3 : Int32) (f3 : Nat → Int32) (c2 : Int32) (f2 : Nat → Int32) (c1 : Int32) (f1 : Nat → Int32) (hMM : MM Z T nm (LAx N L st wo) mem) : ∃ mem' c6' f6' c5' f5' c4' f4' c3' f3' c2' f2' c1' f1', f_X1_firstSent_s6 (nI a) (wy (nI b)) (nI (T * 6 + a * 2 + b)) (nI Z) nm nt other no one (nI L) (nI N) sc 31 ns sense 31 31 31 31 31 mem c6 f6 c5 f5 c4 f4 c3 f3 c2 f2 c1 f1 (nI l) (nI h) = some (LFx N L st wo a b 6 h l, mem', c6', f6', c5', f5', c4', f4', c3', f3', c2', f2', c1', f1') ∧ MM Z T nm (LAx N L st wo) mem' := by
  have hZ := hC.Z_le
  unfold f_X1_firstSent_s6
  obtain ⟨mem1, d6, g6, d5, g5, d4, g4, d3, g3, d2, g2, d1, g1, e1, hMM1⟩ := lk6 hC hW hT ha hb hnm hnm2 hh hl mem c6 f6 c5 f5 c4 f4 c3 f3 c2 f2 c1 f1 hMM
  obtain ⟨hm1, hm2⟩ := LAx_ok (wo := wo) hC a b 6 h l hl
  rw [e1]
  simp only [bs]
  have e4096 : (4096 : Int32) = nI 4096 := rfl
  have hdA : LAx N L st wo a b 6 h l = lab (wt wo (nI h)) (LAx N L st wo a b 5 (1 - h)) (chL N L (nI a) (okF st (wy (nI b))) l) l (wt wo (nI h) l) := rfl
  have hdF : LFx N L st wo a b 6 h l = lfb (wt wo (nI h)) (LAx N L st wo a b 5 (1 - h)) (chL N L (nI a) (okF st (wy (nI b))) l) (-1) (wt wo (nI h) l) := rfl
  rcases lab_spec (wt wo (nI h)) (LAx N L st wo a b 5 (1 - h)) (chL N L (nI a) (okF st (wy (nI b))) l) l (-1) (wt wo (nI h) l) with ⟨-, c, d⟩ | ⟨us, z, vs, e, c, d, p, -⟩
  · rw [hdA, c, e4096, if_neg (nI_ge (by omega) (by omega)), hdF, d]
    exact ⟨_, _, _, _, _, _, _, _, _, _, _, _, _, rfl, hMM1⟩
  · have hge : 4096 ≤ LAx N L st wo a b 6 h l := by rw [hdA, c]; omega
    have hmz : LAx N L st wo a b 6 h l % 4096 = LAx N L st wo a b 5 (1 - h) z % 4096 := by rw [hdA, c, Nat.add_mod_right]
    rw [e4096, if_pos (nI_le hge (by omega)), ← e4096, rem4096 (by omega), wt8_eq hW hm1, bs]
    obtain ⟨hxl, hxm⟩ := ch_ct (law := nI a) (any := wy (nI b)) hC hl
    obtain ⟨y8, x8, rr8⟩ := lc_ct (law := nI a) (any := wy (nI b)) (f := g6) (cnt := d6) (nl := 31) hC hl (by omega) (by omega)
    rw [x8, hdF, d, hmz]
    generalize chL N L (nI a) (okF st (wy (nI b))) l = xs at *
    simp only [bs]
    have h00 : nI ([] : List Nat).length = 0 := rfl
    have key := fs6_L hC hW hT ha hb hnm hnm2 hh hxl y8 xs [] FU rfl (FU_lt (by omega)) rr8 (fun z hz => (hxm z hz).1) ⟨us, z, vs, e, p, rfl, rfl⟩ mem1 d5 g5 d4 g4 d3 g3 d2 g2 d1 g1 hMM1
    rw [h00] at key
    obtain ⟨mem', c5', f5', c4', f4', c3', f3', c2', f2', c1', f1', e, hM⟩ := key
    rw [e]
    exact ⟨_, _, _, _, _, _, _, _, _, _, _, _, _, rfl, hM⟩
