/-! LOOKING AHEAD of the reference -/
theorem wt_h {wo : Nat → Int32} {h c : Nat} (hh : h < 2) : wt wo (nI h) c = wo (2 * c + h) := by
  rcases (show h = 0 ∨ h = 1 by omega) with rfl | rfl
  · exact if_pos rfl
  · exact if_neg (by decide)
theorem la9_L38 {Z TT h : Nat} {wo we ws : Nat → Int32} {E : Nat → Nat} (hZ : Z ≤ 4096) (hTT : TT ≤ 31) (hh : h < 2) (hE : ∀ z, z < Z → E z % 4096 < Z ∧ E z < 2 ^ 30 ∧ we (2 * z + (1 - h)) = nI (E z % 4096) ∧ ws (2 * z + (1 - h)) = nI (E z / 4096)) {at' : Nat} (hat : at' < 8192) (f : Nat → Int32) : ∀ (zs ys : List Nat) (n : Nat), (ys ++ zs).length = TT → zs.length < n → Rp f (ys ++ zs) → (∀ z ∈ zs, z < Z) → ∀ (b : Nat) (fi m : Int32) (en se fs : Nat → Int32), en at' = nI (b % 4096) → se at' = nI (b / 4096) → fs at' = fi → ∃ en' se' fs', f_X9_lookAt_L38 (nI TT) wo f we ws n (nI h) (nI at') m (nI ys.length) en se fs = some (en', se', fs') ∧ en' at' = nI (lab (wt wo (nI h)) E zs b m % 4096) ∧ se' at' = nI (lab (wt wo (nI h)) E zs b m / 4096) ∧ fs' at' = lfb (wt wo (nI h)) E zs fi m ∧ ∀ j, j ≠ at' → en' j = en j ∧ se' j = se j ∧ fs' j = fs j := by
  intro zs
  induction zs with
  | nil =>
    intro ys n hx hn hR hz b fi m en se fs h1 h2 h3
    obtain ⟨n, rfl⟩ : ∃ m, n = m + 1 := ⟨n - 1, by simp at hn; omega⟩
    rw [f_X9_lookAt_L38.eq_2, if_pos (nI_le (by simp at hx; omega) (by simp at hx; omega)), lab, lfb]
    exact ⟨en, se, fs, rfl, h1, h2, h3, fun j _ => ⟨rfl, rfl, rfl⟩⟩
  | cons z zs ih =>
    intro ys n hx hn hR hz b fi m en se fs h1 h2 h3
    obtain ⟨n, rfl⟩ : ∃ m, n = m + 1 := ⟨n - 1, by simp at hn; omega⟩
    have hl2 := len_lt ys zs z
    have hz0 := hz z (List.mem_cons_self ..)
    have hz2 := fun x (hx : x ∈ zs) => hz x (List.mem_cons_of_mem _ hx)
    have hx' : ((ys ++ [z]) ++ zs).length = TT := by rw [← app1]; exact hx
    have hR' : Rp f ((ys ++ [z]) ++ zs) := by rw [← app1]; exact hR
    have ih := ih (ys ++ [z]) n hx' (by simp at hn; omega) hR' hz2
    obtain ⟨q1, q2, q3, q4⟩ := hE z hz0
    have eo : 2 * nI z + 1 - nI h = nI (2 * z + (1 - h)) := by
      rw [two_mul, nI_1, pk_sub (by omega)]
      congr 1; omega
    rw [f_X9_lookAt_L38.eq_2, if_neg (nI_ge (by omega) (by omega)), len1 ys z, nI_clamp (by omega), Rp_at hR, eo, nI_clamp (by omega), q3, q4, two_mul, nI_add, nI_clamp (by omega)]
    simp only [if_pos (ixb_nI (show ys.length < 40 by omega) (by decide)), if_pos (ixb_nI (show 2 * z + (1 - h) < 8192 by omega) (by decide)), if_pos (ixb_nI (show 2 * (E z % 4096) + h < 8192 by omega) (by decide)), if_pos (ixb_nI hat (by decide)), nI_clamp (show at' < 2 ^ 31 by omega)]
    rw [lab, lfb, ← wt_h (wo := wo) (c := E z % 4096) hh]
    by_cases hq : wt wo (nI h) (E z % 4096) ≤ m
    · rw [if_pos hq, if_pos hq, if_pos hq]
      exact ih b fi m en se fs h1 h2 h3
    · rw [if_neg hq, if_neg hq, if_neg hq]
      obtain ⟨en', se', fs', a, b', c, d, e⟩ := ih (E z + 4096) (nI z) (wt wo (nI h) (E z % 4096)) (upd en at' (nI (E z % 4096))) (upd se at' (nI (E z / 4096) + 1)) (upd fs at' (nI z)) (by rw [pk_us, Nat.add_mod_right]) (by rw [pk_us, nI_1]; congr 1; omega) pk_us
      refine ⟨en', se', fs', a, b', c, d, fun j hj => ?_⟩
      obtain ⟨x, y, w⟩ := e j hj
      rw [x, y, w, pk_un hj, pk_un hj, pk_un hj]
      exact ⟨rfl, rfl, rfl⟩
theorem la9_at {Z h l : Nat} {wo we ws en se fs f : Nat → Int32} {E : Nat → Nat} {xs : List Nat} (hZ : Z ≤ 4096) (hxl : xs.length ≤ 31) (hh : h < 2) (hl : l < Z) (hE : ∀ z, z < Z → E z % 4096 < Z ∧ E z < 2 ^ 30 ∧ we (2 * z + (1 - h)) = nI (E z % 4096) ∧ ws (2 * z + (1 - h)) = nI (E z / 4096)) (hR : Rp f xs) (hxm : ∀ z ∈ xs, z < Z) : ∃ en' se' fs', f_X9_lookAt (nI xs.length) wo f we ws en se fs (nI l) (nI h) = some (en', se', fs') ∧ en' (2 * l + h) = nI (lab (wt wo (nI h)) E xs l (wt wo (nI h) l) % 4096) ∧ se' (2 * l + h) = nI (lab (wt wo (nI h)) E xs l (wt wo (nI h) l) / 4096) ∧ fs' (2 * l + h) = lfb (wt wo (nI h)) E xs (-1) (wt wo (nI h) l) ∧ ∀ j, j ≠ 2 * l + h → en' j = en j ∧ se' j = se j ∧ fs' j = fs j := by
  unfold f_X9_lookAt
  rw [two_mul, nI_add]
  simp only [if_pos (ixb_nI (show 2 * l + h < 8192 by omega) (by decide)), nI_clamp (show 2 * l + h < 2 ^ 31 by omega)]
  obtain ⟨en', se', fs', a, b, c, d, e⟩ := la9_L38 (wo := wo) hZ hxl hh hE (show 2 * l + h < 8192 by omega) f xs [] FU rfl (FU_lt (by omega)) hR hxm l (-1) (wt wo (nI h) l) (upd en (2 * l + h) (nI l)) (upd se (2 * l + h) 0) (upd fs (2 * l + h) (-1)) (by rw [pk_us, Nat.mod_eq_of_lt (by omega)]) (by rw [pk_us, Nat.div_eq_of_lt (by omega)]; rfl) pk_us
  have h00 : nI ([] : List Nat).length = 0 := rfl
  rw [h00, wt_h hh] at a
  refine ⟨en', se', fs', a, b, c, d, fun j hj => ?_⟩
  obtain ⟨x, y, w⟩ := e j hj
  rw [x, y, w, pk_un hj, pk_un hj, pk_un hj]
  exact ⟨rfl, rfl, rfl⟩
/-- the first i LETTERS hold what A and F say -/
def LE (i : Nat) (A : Nat → Nat → Nat) (F : Nat → Nat → Int32) (en se fs : Nat → Int32) : Prop := ∀ l h, l < i → h < 2 → en (2 * l + h) = nI (A h l % 4096) ∧ se (2 * l + h) = nI (A h l / 4096) ∧ fs (2 * l + h) = F h l
theorem la9_L92 {N L Z ns a b k : Nat} {sc sense st wo we ws : Nat → Int32} {v1 v2 : Int32} (hC : CT N L Z ns sc sense st) (hk : k < 8) (hwas : ∀ l h, l < Z → h < 2 → we (2 * l + h) = nI (LAx N L st wo a b k h l % 4096) ∧ ws (2 * l + h) = nI (LAx N L st wo a b k h l / 4096)) (K0 : Int32 → Int32 → Int32 → (Nat → Int32) → (Nat → Int32) → (Nat → Int32) → (Nat → Int32) → (Nat → Int32) → (Nat → Int32) → Option (Int32 × (Nat → Int32) × (Nat → Int32) × (Nat → Int32) × (Nat → Int32) × (Nat → Int32) × (Nat → Int32))) : ∀ n m, m ≤ Z → m < n → ∀ (c : Int32) (en se fs f : Nat → Int32), LE (Z - m) (LAx N L st wo a b (k + 1)) (LFx N L st wo a b (k + 1)) en se fs → ∃ c' en' se' fs' f', f_X9_lookAhead_L92 (nI L) (nI N) (nI Z) (nI a) (nI b) st wo K0 n v1 v2 (nI (Z - m)) c en se fs we ws f = K0 v1 v2 c' en' se' fs' we ws f' ∧ LE Z (LAx N L st wo a b (k + 1)) (LFx N L st wo a b (k + 1)) en' se' fs' := by
  have hZ := hC.Z_le
  intro n
  induction n with
  | zero => intro m _ h; omega
  | succ n ih =>
    intro m hm hn c en se fs f hE
    rw [f_X9_lookAhead_L92.eq_2]
    cases m with
    | zero =>
      rw [if_pos (nI_le (by omega) (by omega))]
      exact ⟨c, en, se, fs, f, rfl, hE⟩
    | succ m =>
      have hx : Z - (m + 1) + 1 = Z - m := by omega
      have hi : Z - (m + 1) < Z := by omega
      have ih := ih m (by omega) (by omega)
      rw [← hx] at ih
      generalize Z - (m + 1) = i at *
      have key : ∀ h, h < 2 → ∀ z, z < Z → LAx N L st wo a b k (1 - h) z % 4096 < Z ∧ LAx N L st wo a b k (1 - h) z < 2 ^ 30 ∧ we (2 * z + (1 - h)) = nI (LAx N L st wo a b k (1 - h) z % 4096) ∧ ws (2 * z + (1 - h)) = nI (LAx N L st wo a b k (1 - h) z / 4096) := by
        intro h hh z hz
        obtain ⟨p, q⟩ := LAx_ok (wo := wo) hC a b k (1 - h) z hz
        exact ⟨p, by omega, hwas z (1 - h) hz (by omega)⟩
      obtain ⟨hxl, hxm⟩ := ch_ct (law := nI a) (any := wy (nI b)) hC hi
      obtain ⟨g9, e9, r9⟩ := fc_ct (law := nI a) (any := wy (nI b)) (f := f) (cnt := c) hC hi
      rw [if_neg (nI_ge hi (by omega)), fcw, e9]
      simp only [bs]
      have hA : ∀ h, LAx N L st wo a b (k + 1) h i = lab (wt wo (nI h)) (LAx N L st wo a b k (1 - h)) (chL N L (nI a) (okF st (wy (nI b))) i) i (wt wo (nI h) i) := fun h => rfl
      have hF : ∀ h, LFx N L st wo a b (k + 1) h i = lfb (wt wo (nI h)) (LAx N L st wo a b k (1 - h)) (chL N L (nI a) (okF st (wy (nI b))) i) (-1) (wt wo (nI h) i) := fun h => rfl
      generalize chL N L (nI a) (okF st (wy (nI b))) i = xs at *
      obtain ⟨en1, se1, fs1, p1, p2, p3, p4, p5⟩ := la9_at (wo := wo) (en := en) (se := se) (fs := fs) (h := 0) hZ hxl (by omega) hi (key 0 (by omega)) r9 (fun z hz => (hxm z hz).1)
      obtain ⟨en2, se2, fs2, s1, s2, s3, s4, s5⟩ := la9_at (wo := wo) (en := en1) (se := se1) (fs := fs1) (h := 1) hZ hxl (by omega) hi (key 1 (by omega)) r9 (fun z hz => (hxm z hz).1)
      have e0 : nI 0 = 0 := rfl
      have e1 : nI 1 = 1 := rfl
      rw [e0] at p1
      rw [e1] at s1
      rw [p1]
      simp only [bs]
      rw [s1]
      simp only [bs]
      rw [nI_1]
      refine ih _ en2 se2 fs2 g9 (fun l h hl hh => ?_)
      by_cases el : l = i
      · subst el
        rcases (show h = 0 ∨ h = 1 by omega) with rfl | rfl
        · obtain ⟨x, y, z⟩ := s5 (2 * l + 0) (by omega)
          rw [x, y, z, hA 0, hF 0]
          exact ⟨p2, p3, p4⟩
        · rw [hA 1, hF 1]
          exact ⟨s2, s3, s4⟩
      · obtain ⟨x, y, z⟩ := s5 (2 * l + h) (by omega)
        obtain ⟨x', y', z'⟩ := p5 (2 * l + h) (by omega)
        rw [x, y, z, x', y', z']
        exact hE l h (by omega) hh
theorem la9_L50 {N L Z a b : Nat} {st wo en se fs f : Nat → Int32} {v1 v2 c : Int32} (hZ : Z ≤ 4096) (K0 : Int32 → Int32 → Int32 → (Nat → Int32) → (Nat → Int32) → (Nat → Int32) → (Nat → Int32) → (Nat → Int32) → (Nat → Int32) → Option (Int32 × (Nat → Int32) × (Nat → Int32) × (Nat → Int32) × (Nat → Int32) × (Nat → Int32) × (Nat → Int32))) : ∀ n m, m ≤ 2 * Z → m < n → ∀ (we ws : Nat → Int32), (∀ j, j < 2 * Z - m → we j = en j ∧ ws j = se j) → ∃ we' ws', f_X9_lookAhead_L50 (nI L) (nI N) (nI Z) (nI a) (nI b) st wo K0 n v1 v2 (nI (2 * Z - m)) c en se fs we ws f = K0 v1 v2 c en se fs we' ws' f ∧ ∀ j, j < 2 * Z → we' j = en j ∧ ws' j = se j := by
  intro n
  induction n with
  | zero => intro m _ h; omega
  | succ n ih =>
    intro m hm hn we ws hw
    rw [f_X9_lookAhead_L50.eq_2, two_mul]
    cases m with
    | zero =>
      rw [if_pos (nI_le (by omega) (by omega))]
      exact ⟨we, ws, rfl, fun j hj => hw j (by omega)⟩
    | succ m =>
      have hx : 2 * Z - (m + 1) + 1 = 2 * Z - m := by omega
      have ih := ih m (by omega) (by omega)
      rw [← hx, ← nI_1] at ih
      have hi : 2 * Z - (m + 1) < 2 * Z := by omega
      generalize 2 * Z - (m + 1) = i at *
      rw [if_neg (nI_ge hi (by omega))]
      simp only [if_pos (ixb_nI (show i < 8192 by omega) (by decide)), nI_clamp (show i < 2 ^ 31 by omega)]
      refine ih _ _ (fun j hj => ?_)
      by_cases e : j = i
      · subst e; rw [pk_us, pk_us]; exact ⟨rfl, rfl⟩
      · rw [pk_un e, pk_un e]; exact hw j (by omega)
theorem la9_L2 {N L Z a b : Nat} {st wo we ws f : Nat → Int32} {v1 c : Int32} (hZ : Z ≤ 4096) (K0 : Int32 → Int32 → (Nat → Int32) → (Nat → Int32) → (Nat → Int32) → (Nat → Int32) → (Nat → Int32) → (Nat → Int32) → Option (Int32 × (Nat → Int32) × (Nat → Int32) × (Nat → Int32) × (Nat → Int32) × (Nat → Int32) × (Nat → Int32))) : ∀ n m, m ≤ 2 * Z → m < n → ∀ (en se fs : Nat → Int32), (∀ j, j < 2 * Z - m → en j = nI (j / 2) ∧ se j = 0 ∧ fs j = -1) → ∃ en' se' fs', f_X9_lookAhead_L2 (nI L) (nI N) (nI Z) (nI a) (nI b) st wo K0 n v1 (nI (2 * Z - m)) c en se fs we ws f = K0 v1 c en' se' fs' we ws f ∧ ∀ j, j < 2 * Z → en' j = nI (j / 2) ∧ se' j = 0 ∧ fs' j = -1 := by
  intro n
  induction n with
  | zero => intro m _ h; omega
  | succ n ih =>
    intro m hm hn en se fs hw
    rw [f_X9_lookAhead_L2.eq_2, two_mul]
    cases m with
    | zero =>
      rw [if_pos (nI_le (by omega) (by omega))]
      exact ⟨en, se, fs, rfl, fun j hj => hw j (by omega)⟩
    | succ m =>
      have hx : 2 * Z - (m + 1) + 1 = 2 * Z - m := by omega
      have ih := ih m (by omega) (by omega)
      rw [← hx, ← nI_1] at ih
      have hi : 2 * Z - (m + 1) < 2 * Z := by omega
      generalize 2 * Z - (m + 1) = i at *
      have ed : nI i / 2 = nI (i / 2) := pk_div (d := 2) (by omega) (by decide) (by decide)
      rw [if_neg (nI_ge hi (by omega)), ed]
      simp only [if_pos (ixb_nI (show i < 8192 by omega) (by decide)), nI_clamp (show i < 2 ^ 31 by omega)]
      refine ih _ _ _ (fun j hj => ?_)
      by_cases e : j = i
      · subst e; rw [pk_us, pk_us, pk_us]; exact ⟨rfl, rfl, rfl⟩
      · rw [pk_un e, pk_un e, pk_un e]; exact hw j (by omega)
theorem la9_L43 {N L Z ns a b K : Nat} {sc sense st wo : Nat → Int32} (hC : CT N L Z ns sc sense st) (hK : K ≤ 8) : ∀ n k, k ≤ K → K - k < n → ∀ (c : Int32) (en se fs we ws f : Nat → Int32), LE Z (LAx N L st wo a b k) (LFx N L st wo a b k) en se fs → ∃ c' en' se' fs' we' ws' f', f_X9_lookAhead_L43 (nI L) (nI N) (nI Z) (nI a) (nI b) st wo n (nI K) (nI k) c en se fs we ws f = some (c', en', se', fs', we', ws', f') ∧ LE Z (LAx N L st wo a b K) (LFx N L st wo a b K) en' se' fs' := by
  have hZ := hC.Z_le
  intro n
  induction n with
  | zero => intro k _ h; omega
  | succ n ih =>
    intro k hk hn c en se fs we ws f hE
    rw [f_X9_lookAhead_L43.eq_2]
    by_cases e : k = K
    · subst e
      rw [if_pos (nI_le (Nat.le_refl _) (by omega))]
      exact ⟨c, en, se, fs, we, ws, f, rfl, hE⟩
    · rw [if_neg (nI_ge (by omega) (by omega))]
      have e0 : (0 : Int32) = nI (2 * Z - 2 * Z) := by rw [Nat.sub_self]; rfl
      obtain ⟨we1, ws1, p1, p2⟩ := la9_L50 (N := N) (L := L) (a := a) (b := b) (st := st) (wo := wo) (en := en) (se := se) (fs := fs) (f := f) (v1 := nI K) (v2 := nI k) (c := c) hZ (fun (v1_19 : Int32) (v2_20 : Int32) (z_21 : Int32) (z_22 : Nat → Int32) (z_23 : Nat → Int32) (z_24 : Nat → Int32) (z_25 : Nat → Int32) (z_26 : Nat → Int32) (z_27 : Nat → Int32) =>
        f_X9_lookAhead_L92 (nI L) (nI N) (nI Z) (nI a) (nI b) st wo (fun (v1_52 : Int32) (v2_53 : Int32) (z_54 : Int32) (z_55 : Nat → Int32) (z_56 : Nat → Int32) (z_57 : Nat → Int32) (z_58 : Nat → Int32) (z_59 : Nat → Int32) (z_60 : Nat → Int32) =>
          f_X9_lookAhead_L43 (nI L) (nI N) (nI Z) (nI a) (nI b) st wo n v1_52 (v2_53 + 1) z_54 z_55 z_56 z_57 z_58 z_59 z_60) FU v1_19 v2_20 0 z_21 z_22 z_23 z_24 z_25 z_26 z_27) FU (2 * Z) (Nat.le_refl _) (FU_lt (by omega)) we ws (fun j hj => by omega)
      rw [← e0] at p1
      rw [p1]
      have e00 : (0 : Int32) = nI (Z - Z) := by rw [Nat.sub_self]; rfl
      obtain ⟨c2, en2, se2, fs2, f2, q1, q2⟩ := la9_L92 (a := a) (b := b) (k := k) (wo := wo) (we := we1) (ws := ws1) (v1 := nI K) (v2 := nI k) hC (by omega) (fun l h hl hh => by
          obtain ⟨x, y⟩ := p2 (2 * l + h) (by omega)
          obtain ⟨x', y', -⟩ := hE l h hl hh
          rw [x, y, x', y']
          exact ⟨rfl, rfl⟩) (fun (v1_52 : Int32) (v2_53 : Int32) (z_54 : Int32) (z_55 : Nat → Int32) (z_56 : Nat → Int32) (z_57 : Nat → Int32) (z_58 : Nat → Int32) (z_59 : Nat → Int32) (z_60 : Nat → Int32) =>
          f_X9_lookAhead_L43 (nI L) (nI N) (nI Z) (nI a) (nI b) st wo n v1_52 (v2_53 + 1) z_54 z_55 z_56 z_57 z_58 z_59 z_60) FU Z (Nat.le_refl _) (FU_lt (by omega)) c en se fs f (fun l h hl _ => by omega)
      rw [← e00] at q1
      rw [q1, nI_1]
      exact ih (k + 1) (by omega) (by omega) c2 en2 se2 fs2 we1 ws1 f2 q2
theorem la9_eq {N L Z ns a b K : Nat} {sc sense st wo en se fs we ws f : Nat → Int32} {c : Int32} (hC : CT N L Z ns sc sense st) (hK : K ≤ 8) : ∃ c' en' se' fs' we' ws' f', f_X9_lookAhead (nI L) (nI N) (nI Z) (nI a) (nI b) st wo c en se fs we ws f (nI K) = some (c', en', se', fs', we', ws', f') ∧ LE Z (LAx N L st wo a b K) (LFx N L st wo a b K) en' se' fs' := by
  have hZ := hC.Z_le
  unfold f_X9_lookAhead
  have e0 : (0 : Int32) = nI (2 * Z - 2 * Z) := by rw [Nat.sub_self]; rfl
  obtain ⟨en1, se1, fs1, p1, p2⟩ := la9_L2 (N := N) (L := L) (a := a) (b := b) (st := st) (wo := wo) (we := we) (ws := ws) (f := f) (v1 := nI K) (c := c) hZ (fun (v1_5 : Int32) (z_6 : Int32) (z_7 : Nat → Int32) (z_8 : Nat → Int32) (z_9 : Nat → Int32) (z_10 : Nat → Int32) (z_11 : Nat → Int32) (z_12 : Nat → Int32) =>
    f_X9_lookAhead_L43 (nI L) (nI N) (nI Z) (nI a) (nI b) st wo FU v1_5 0 z_6 z_7 z_8 z_9 z_10 z_11 z_12) FU (2 * Z) (Nat.le_refl _) (FU_lt (by omega)) en se fs (fun j hj => by omega)
  rw [← e0] at p1
  rw [p1]
  exact la9_L43 hC hK FU 0 (Nat.zero_le _) (FU_lt (by omega)) c en1 se1 fs1 we ws f (fun l h hl hh => by
    obtain ⟨x, y, z⟩ := p2 (2 * l + h) (by omega)
    have e1 : (2 * l + h) / 2 = l := by omega
    rw [x, y, z, e1, LAx_0, Nat.mod_eq_of_lt (by omega), Nat.div_eq_of_lt (by omega)]
    exact ⟨rfl, rfl, rfl⟩)
