/-! small questions, and the row of changes once more in the words of both -/
theorem w64_lt (a b : Int32) : a.toInt64 < b.toInt64 ↔ a < b := by
  rw [Int64.lt_iff_toInt_lt, Int32.lt_iff_toInt_lt, Int32.toInt_toInt64, Int32.toInt_toInt64]
theorem in32 (x y : Int32) : f_X9_in x.toInt64 0 y.toInt64 = some (if x < 0 then 0 else if y < x then 0 else 1) := by
  unfold f_X9_in
  have h0 : (0 : Int64) = (0 : Int32).toInt64 := by decide
  rw [h0]
  by_cases h : x < 0
  · rw [if_pos ((lg_cmp_lt _ _).mpr ((w64_lt _ _).mpr h)), if_pos h]
  · rw [if_neg (fun e => h ((w64_lt _ _).mp ((lg_cmp_lt _ _).mp e))), if_neg h]
    by_cases h2 : y < x
    · rw [if_pos ((lg_cmp_gt _ _).mpr ((w64_lt _ _).mpr h2)), if_pos h2]
    · rw [if_neg (fun e => h2 ((w64_lt _ _).mp ((lg_cmp_gt _ _).mp e))), if_neg h2]
theorem pred_toInt {Z : Nat} (hZ : Z < 2 ^ 30) : (nI Z - 1).toInt = (Z : Int) - 1 := pk_sub_toInt (b := 1) hZ (by decide)
/-- in the row 0 .. Z - 1, or not -/
theorem inZ_yes {Z k : Nat} (hZ : Z < 2 ^ 30) (hk : k < Z) : f_X9_in (nI k).toInt64 0 (nI Z - 1).toInt64 = some 1 := by
  rw [in32, if_neg (nI_pos (by omega)), if_neg]
  rw [Int32.lt_iff_toInt_lt, pred_toInt hZ, nI_toInt (by omega)]
  omega
theorem inZ_no {Z : Nat} {x : Int32} (hZ : Z < 2 ^ 30) (h : x < 0 ∨ nI Z ≤ x) : f_X9_in x.toInt64 0 (nI Z - 1).toInt64 = some 0 := by
  rw [in32]
  by_cases h0 : x < 0
  · rw [if_pos h0]
  · rw [if_neg h0, if_pos]
    rcases h with h | h
    · exact absurd h h0
    · rw [Int32.le_iff_toInt_le, nI_toInt (by omega)] at h
      rw [Int32.lt_iff_toInt_lt, pred_toInt hZ]
      omega
theorem il9_yes {Z k : Nat} (hZ : Z < 2 ^ 30) (hk : k < Z) : f_X9_isLetter (nI Z) (nI k) = some 1 := by
  unfold f_X9_isLetter
  rw [inZ_yes hZ hk, bs]
  rfl
theorem il9_no {Z : Nat} {x : Int32} (hZ : Z < 2 ^ 30) (h : x < 0 ∨ nI Z ≤ x) : f_X9_isLetter (nI Z) x = some 0 := by
  unfold f_X9_isLetter
  rw [inZ_no hZ h, bs]
  rfl
theorem iw9_yes {Z k : Nat} (hZ : Z < 2 ^ 30) (hk : k < Z) : f_X9_isWord (nI Z) (nI k) = some 1 := il9_yes hZ hk
theorem iw9_no {Z : Nat} {x : Int32} (hZ : Z < 2 ^ 30) (h : x < 0 ∨ nI Z ≤ x) : f_X9_isWord (nI Z) x = some 0 := il9_no hZ h
theorem il8_yes {Z k : Nat} (hZ : Z < 2 ^ 30) (hk : k < Z) : f_X8_isLetter (nI Z) (nI k) = some 1 := by
  unfold f_X8_isLetter
  rw [if_neg (nI_pos (by omega)), if_neg (nI_ge hk (by omega))]
theorem il8_no {Z : Nat} {x : Int32} (h : x < 0 ∨ nI Z ≤ x) : f_X8_isLetter (nI Z) x = some 0 := by
  unfold f_X8_isLetter
  by_cases h0 : x < 0
  · rw [if_pos h0]
  · rw [if_neg h0, if_pos (h.resolve_left h0)]
theorem iw8_yes {Z k : Nat} (hZ : Z < 2 ^ 30) (hk : k < Z) : f_X8_isWord (nI Z) (nI k) = some 1 := il8_yes hZ hk
theorem iw8_no {Z : Nat} {x : Int32} (h : x < 0 ∨ nI Z ≤ x) : f_X8_isWord (nI Z) x = some 0 := il8_no h
theorem ig8_yes {Z k : Nat} (hZ : Z < 2 ^ 30) (hk : k < Z) : f_X8_isGuess (nI Z) (nI k) = some 1 := il8_yes hZ hk
theorem ig8_no {Z : Nat} {x : Int32} (h : x < 0 ∨ nI Z ≤ x) : f_X8_isGuess (nI Z) x = some 0 := il8_no h
/-- a HOUSE, or not -/
theorem ih_cases (x : Int32) : (x = 0 ∨ x = 1) ∨ (x < 0 ∨ nI 2 ≤ x) := by
  rcases pk_ix x (n := 2) (by decide) with h | h | ⟨j, hj, e⟩
  · exact Or.inr (Or.inl h)
  · exact Or.inr (Or.inr h)
  · rcases (show j = 0 ∨ j = 1 by omega) with rfl | rfl
    · exact Or.inl (Or.inl e)
    · exact Or.inl (Or.inr e)
theorem ih9_yes {x : Int32} (h : x = 0 ∨ x = 1) : f_X9_isHouse x = some 1 := by
  rcases h with rfl | rfl <;> decide +kernel
theorem ih9_no {x : Int32} (h : x < 0 ∨ nI 2 ≤ x) : f_X9_isHouse x = some 0 := by
  have e := inZ_no (Z := 2) (x := x) (by decide) h
  unfold f_X9_isHouse
  have h1 : (1 : Int64) = (nI 2 - 1).toInt64 := by decide
  rw [h1, e, bs]
  rfl
theorem ih8_yes {x : Int32} (h : x = 0 ∨ x = 1) : f_X8_isHouse x = some 1 := by
  rcases h with rfl | rfl <;> decide +kernel
theorem ih8_no {x : Int32} (h : x < 0 ∨ nI 2 ≤ x) : f_X8_isHouse x = some 0 := by
  unfold f_X8_isHouse
  by_cases h0 : x < 0
  · rw [if_pos h0]
  · rw [if_neg h0]
    exact if_pos (h.resolve_left h0)
theorem ii8_yes {x : Int32} (h : x = 0 ∨ x = 1) : f_X8_isImage x = some 1 := ih8_yes h
theorem ii8_no {x : Int32} (h : x < 0 ∨ nI 2 ≤ x) : f_X8_isImage x = some 0 := ih8_no h
/-- the tongue as both hold it: N WORDS, L places, Z LETTERS; which LETTERS stand -/
def CT (N L Z ns : Nat) (sc sense st : Nat → Int32) : Prop := N ≤ 8 ∧ L ≤ 4 ∧ Z = (if N = 0 then 0 else N ^ L) ∧ (1 ≤ N → 2 ≤ L ∧ Sc N sc) ∧ Z ≤ ns ∧ ns ≤ 4096 ∧ ∀ c, c < Z → sense c = st c ∧ (sense c = 0 ∨ sense c = 1)
theorem CT.Z_le {N L Z ns : Nat} {sc sense st : Nat → Int32} (h : CT N L Z ns sc sense st) : Z ≤ 4096 := Nat.le_trans h.2.2.2.2.1 h.2.2.2.2.2.1
theorem CT.pos {N L Z ns : Nat} {sc sense st : Nat → Int32} (h : CT N L Z ns sc sense st) {l : Nat} (hl : l < Z) : 1 ≤ N ∧ Z = N ^ L ∧ 2 ≤ L ∧ Sc N sc := by
  obtain ⟨h1, h2, h3, h4, -⟩ := h
  by_cases e : N = 0
  · rw [if_pos e] at h3; omega
  · rw [if_neg e] at h3
    exact ⟨by omega, h3, (h4 (by omega)).1, (h4 (by omega)).2⟩
theorem owS_congr {N L l p : Nat} {ok ok' : Nat → Bool} (h1 : 1 ≤ N) (hl : l < N ^ L) (hp : p < L) (h : ∀ c, c < N ^ L → ok c = ok' c) : ∀ m, m ≤ N → owS N l p ok m = owS N l p ok' m := by
  intro m
  induction m with
  | zero => intro _; rfl
  | succ m ih =>
    intro hm
    rw [owS, owS, ih (by omega), h _ (owc_lt h1 hl hp (by omega))]
theorem owA_congr {N L l : Nat} {ok ok' : Nat → Bool} (h1 : 1 ≤ N) (hl : l < N ^ L) (h : ∀ c, c < N ^ L → ok c = ok' c) : ∀ m, m ≤ L → owA N L l ok m = owA N L l ok' m := by
  intro m
  induction m with
  | zero => intro _; rfl
  | succ m ih =>
    intro hm
    rw [owA, owA, ih (by omega), owS_congr h1 hl (by omega) h N (Nat.le_refl _)]
theorem taA_congr {N L l : Nat} {ok ok' : Nat → Bool} (h1 : 1 ≤ N) (hl : l < N ^ L) (h : ∀ c, c < N ^ L → ok c = ok' c) : ∀ m, m ≤ L - 1 → taA N L l ok m = taA N L l ok' m := by
  intro m
  induction m with
  | zero => intro _; rfl
  | succ m ih =>
    intro hm
    rw [taA, taA, ih (by omega), h _ (tac_lt h1 hl (by omega))]
theorem chL_congr {N L l : Nat} {law : Int32} {ok ok' : Nat → Bool} (h1 : 1 ≤ N) (hl : l < N ^ L) (h : ∀ c, c < N ^ L → ok c = ok' c) : chL N L law ok l = chL N L law ok' l := by
  unfold chL
  rw [owA_congr h1 hl h L (Nat.le_refl _), taA_congr h1 hl h (L - 1) (Nat.le_refl _)]
/-- the class's row of CHANGES in the reference's words -/
theorem lc_ct {N L Z ns nl l : Nat} {sc sense st f : Nat → Int32} {law any cnt : Int32} (h : CT N L Z ns sc sense st) (hl : l < Z) (hnl1 : 31 ≤ nl) (hnl : nl < 2 ^ 31) : ∃ f', f_X3_listChanges (nI Z) (nI L) (nI N) sc nl ns sense cnt f (nI l) law any = some (nI (chL N L law (okF st any) l).length, f') ∧ Rp f' (chL N L law (okF st any) l) := by
  obtain ⟨p1, p2, p3, p4⟩ := h.pos hl
  obtain ⟨hN, hL, -, -, hZ, hns, hst⟩ := h
  subst p2
  have e : chL N L law (okF st any) l = chL N L law (okF sense any) l := chL_congr p1 hl (fun c hc => by simp only [okF, (hst c hc).1])
  rw [e]
  exact lc_eq p4 p1 hN (by omega) hL hl hZ (by omega) hnl1 hnl (fun c hc => (hst c hc).2)
theorem fc_ct {N L Z ns l : Nat} {sc sense st f : Nat → Int32} {law any cnt : Int32} (h : CT N L Z ns sc sense st) (hl : l < Z) : ∃ f', f_X9_findChanges (nI L) (nI N) law st cnt f (nI l) any = some (nI (chL N L law (okF st any) l).length, f') ∧ Rp f' (chL N L law (okF st any) l) := by
  obtain ⟨p1, p2, p3, p4⟩ := h.pos hl
  obtain ⟨hN, hL, -⟩ := h
  subst p2
  exact fc_eq p1 hN (by omega) hL hl
theorem ch_ct {N L Z ns l : Nat} {sc sense st : Nat → Int32} {law any : Int32} (h : CT N L Z ns sc sense st) (hl : l < Z) : (chL N L law (okF st any) l).length ≤ 31 ∧ ∀ x ∈ chL N L law (okF st any) l, x < Z ∧ okF st any x = true := by
  obtain ⟨p1, p2, p3, p4⟩ := h.pos hl
  obtain ⟨hN, hL, -⟩ := h
  subst p2
  exact ⟨chL_len p1 hN hL, chL_lt p1 hl⟩
/-- by way 1 any, by way 0 those that stand -/
def wy (way : Int32) : Int32 := if way = 1 then 1 else 0
theorem lc8_eq {N L Z ns nl l : Nat} {sc sense st f : Nat → Int32} {law way cnt : Int32} (h : CT N L Z ns sc sense st) (hl : l < Z) (hnl1 : 31 ≤ nl) (hnl : nl < 2 ^ 31) : ∃ f', f_X8_listChanges (nI Z) law way (nI L) (nI N) sc nl ns sense cnt f (nI l) = some (nI (chL N L law (okF st (wy way)) l).length, f') ∧ Rp f' (chL N L law (okF st (wy way)) l) := by
  obtain ⟨f', e, r⟩ := lc_ct (f := f) (law := law) (any := wy way) (cnt := cnt) h hl hnl1 hnl
  refine ⟨f', ?_, r⟩
  unfold f_X8_listChanges
  unfold wy at e ⊢
  by_cases hw : way = 1
  · rw [if_pos hw]
    rw [if_pos hw] at e ⊢
    rw [e]; rfl
  · rw [if_neg hw]
    rw [if_neg hw] at e ⊢
    rw [e]; rfl
/-- a row is asked at i -/
theorem get_eq {nl i : Nat} {f : Nat → Int32} {xs : List Nat} (hR : Rp f xs) (hx : xs.length ≤ nl) (hnl : nl < 2 ^ 31) (hi : i < xs.length) : f_X6_get (nI xs.length) nl f (nI i) = some (nI (xs.getD i 0)) := by
  unfold f_X6_get
  rw [if_neg (nI_pos (by omega)), if_neg (nI_ge hi (by omega)), if_pos (ixb_nI (by omega) hnl), nI_clamp (by omega), hR i hi]
theorem get_no {nl : Nat} {f : Nat → Int32} {k : Nat} {x : Int32} (h : x < 0 ∨ nI k ≤ x) : f_X6_get (nI k) nl f x = some (-1) := by
  unfold f_X6_get
  by_cases h0 : x < 0
  · rw [if_pos h0]
  · rw [if_neg h0, if_pos (h.resolve_left h0)]
/-- what is asked of a row: how many, the i-th, or NONE -/
def cog (xs : List Nat) (x : Int32) : Int32 := if x = -1 then nI xs.length else if x < 0 ∨ nI xs.length ≤ x then -1 else nI (xs.getD x.toNatClampNeg 0)
theorem cog_eq {nl : Nat} {f : Nat → Int32} {xs : List Nat} {x : Int32} (hR : Rp f xs) (hx : xs.length ≤ nl) (hnl : nl < 2 ^ 31) : f_X6_countOrGet (nI xs.length) nl f x = some (cog xs x) := by
  unfold f_X6_countOrGet cog
  by_cases h1 : x = -1
  · rw [if_pos h1, if_pos h1]
  · rw [if_neg h1, if_neg h1]
    rcases pk_ix x (n := xs.length) (by omega) with h | h | ⟨j, hj, rfl⟩
    · rw [get_no (Or.inl h), bs, if_pos (Or.inl h)]
    · rw [get_no (Or.inr h), bs, if_pos (Or.inr h)]
    · rw [get_eq hR hx hnl hj, bs, if_neg, nI_clamp (by omega)]
      rintro (e | e)
      · exact nI_pos (by omega) e
      · exact nI_ge hj (by omega) e
