/-! what a LETTER is worth: weigh of the class, worthBy of the reference -/
/-- what the last m pairs give for a, b -/
def psm (pair : Nat → Int32) (P h a b : Nat) : Nat → Int32
  | 0 => 0
  | m + 1 => (if pair (4 * (P - (m + 1))) = nI a then (if pair (4 * (P - (m + 1)) + 1) = nI b then pair (4 * (P - (m + 1)) + 2 + h) else 0) else 0) + psm pair P h a b m
/-- what the last m places give -/
def wgt (N L l : Nat) (kd row : Nat → Int32) (pw : Nat → Nat → Int32) : Nat → Int32
  | 0 => 0
  | m + 1 => (if kd (wd N l (L - (m + 1) - 1)) = 3 then -(row (wd N l (L - (m + 1)))) else row (wd N l (L - (m + 1)))) + pw (wd N l (L - (m + 1) - 1)) (wd N l (L - (m + 1))) + wgt N L l kd row pw m
def wgh (N L l : Nat) (kd row : Nat → Int32) (pw : Nat → Nat → Int32) : Int32 := row (wd N l 0) + wgt N L l kd row pw (L - 1)
theorem r3 (a x y r : Int32) : a + x + y + r = a + (x + y + r) := by grind
theorem spot_eq {a b : Nat} (ha : a < 8) (hb : b < 8) : f_X7_spotOf (nI a) (nI b) = some (nI (8 * a + b)) := by
  unfold f_X7_spotOf
  rw [pk_andN (by omega) 3 (by decide), pk_andN (by omega) 3 (by decide), Nat.mod_eq_of_lt (by omega), Nat.mod_eq_of_lt (by omega)]
  have e8 : nI a * 8 = nI (8 * a) := by rw [Nat.mul_comm]; exact pk_mul a 8
  rw [e8, nI_add]
theorem w7_L {N L l : Nat} {sc kd row pw : Nat → Int32} (hs : Sc N sc) (h1 : 1 ≤ N) (hN : N ≤ 8) (hL : L ≤ 4) (hl : l < 2 ^ 31) : ∀ n m, m ≤ L - 1 → m < n → ∀ v, f_X7_weigh_L17 (nI L) (nI N) 8 row 64 pw sc kd n (nI l) (nI (wd N l (L - m - 1))) v (nI (L - m)) = some (v + wgt N L l kd row (fun a b => pw (8 * a + b)) m) := by
  intro n
  induction n with
  | zero => intro m _ h; omega
  | succ n ih =>
    intro m hm hn v
    rw [f_X7_weigh_L17.eq_2]
    cases m with
    | zero =>
      rw [if_pos (nI_le (by omega) (by omega)), wgt]
      congr 1; grind
    | succ m =>
      have hx : L - (m + 1) + 1 = L - m := by omega
      have hx2 : L - m - 1 = L - (m + 1) := by omega
      have hw1 := wd_lt (l := l) (k := L - (m + 1)) h1
      have hw2 := wd_lt (l := l) (k := L - (m + 1) - 1) h1
      have ih := ih m (by omega) (by omega)
      rw [hx2] at ih
      rw [if_neg (nI_ge (by omega) (by omega)), w7_eq hs h1 hN hL (by omega) hl, bs, if_pos (ixb_nI (by omega) (by decide)), nI_clamp (by omega), if_pos (ixb_nI (by omega) (by decide)), nI_clamp (by omega), spot_eq (by omega) (by omega), bs, bs, if_pos (ixb_nI (by omega) (by decide)), nI_clamp (by omega), nI_1, hx, ih, ih, wgt]
      by_cases hc : kd (wd N l (L - (m + 1) - 1)) = 3
      · rw [if_pos hc, if_pos hc]; exact congrArg some (r3 _ _ _ _)
      · rw [if_neg hc, if_neg hc, if_pos (ixb_nI (by omega) (by decide)), if_pos (ixb_nI (by omega) (by decide))]; exact congrArg some (r3 _ _ _ _)
theorem wg7_eq {N L l : Nat} {sc kd row pw : Nat → Int32} (hs : Sc N sc) (h1 : 1 ≤ N) (hN : N ≤ 8) (hL1 : 1 ≤ L) (hL : L ≤ 4) (hl : l < 2 ^ 31) : f_X7_weigh (nI L) (nI N) 8 row 64 pw sc kd (nI l) = some (wgh N L l kd row (fun a b => pw (8 * a + b))) := by
  have hw1 := wd_lt (l := l) (k := 0) h1
  have e0 : (0 : Int32) = nI 0 := rfl
  unfold f_X7_weigh wgh
  rw [e0, w7_eq hs h1 hN hL (by omega) hl, bs, if_pos (ixb_nI (by omega) (by decide)), nI_clamp (by omega)]
  have h := w7_L (kd := kd) (row := row) (pw := pw) hs h1 hN hL hl FU (L - 1) (Nat.le_refl _) (FU_lt (by omega)) (row (wd N l 0))
  have e1 : L - (L - 1) = 1 := by omega
  rw [e1] at h
  exact h
theorem w9_L87 {P k a b h : Nat} {pl wd' v1 v3 v4 : Int32} {nr : Nat} {row pair kind : Nat → Int32} (hP : P ≤ 12) (hk : 1 ≤ k) (hk2 : k < 2 ^ 31) (hh : h < 2) (K0 : Int32 → Int32 → Int32 → Int32 → Int32 → Int32 → Option Int32) : ∀ n m, m ≤ P → m < n → ∀ v, f_X9_worthBy_L87 pl wd' (nI P) nr row pair kind K0 n v1 v3 v4 (nI h) v (nI k) (nI b) (nI a) (nI (P - m)) = K0 v1 v3 v4 (nI h) (v + psm pair P h a b m) (nI k) := by
  intro n
  induction n with
  | zero => intro m _ h; omega
  | succ n ih =>
    intro m hm hn v
    rw [f_X9_worthBy_L87.eq_2]
    cases m with
    | zero =>
      rw [if_pos (nI_le (by omega) (by omega)), psm]
      congr 1; grind
    | succ m =>
      have hx : P - (m + 1) + 1 = P - m := by omega
      have ih := ih m (by omega) (by omega)
      have e4 : 4 * nI (P - (m + 1)) = nI (4 * (P - (m + 1))) := pk_mul 4 _
      have e2 : nI (4 * (P - (m + 1))) + 2 = nI (4 * (P - (m + 1)) + 2) := nI_add _ 2
      rw [if_neg (nI_ge (by omega) (by omega)), if_neg (nI_nle hk hk2), e4, e2, nI_add, nI_1, nI_1, hx, ih, ih, if_pos (ixb_nI (by omega) (by decide)), if_pos (ixb_nI (by omega) (by decide)), if_pos (ixb_nI (by omega) (by decide)), nI_clamp (by omega), nI_clamp (by omega), nI_clamp (by omega), psm]
      split
      · split
        · congr 1; grind
        · congr 1; grind
      · congr 1; grind
theorem w9_L6 {N L l P h each from' : Nat} {nr : Nat} {r9 pair kind : Nat → Int32} (h1 : 1 ≤ N) (hN : N ≤ 8) (hL : L ≤ 4) (hl : l < 2 ^ 31) (hP : P ≤ 12) (hh : h < 2) (hr : ∀ w, w < N → each * w + from' < nr) (hnr : nr < 2 ^ 31) : ∀ n m, m ≤ L - 1 → m < n → ∀ v, f_X9_worthBy_L6 (nI L) (nI N) (nI P) nr r9 pair kind n (nI l) (nI each) (nI from') (nI h) v (nI (L - m)) = some (v + wgt N L l kind (fun w => r9 (each * w + from')) (fun a b => psm pair P h a b P) m) := by
  intro n
  induction n with
  | zero => intro m _ h; omega
  | succ n ih =>
    intro m hm hn v
    rw [f_X9_worthBy_L6.eq_2]
    cases m with
    | zero =>
      rw [if_pos (nI_le (by omega) (by omega)), wgt]
      congr 1; grind
    | succ m =>
      have hx : L - (m + 1) + 1 = L - m := by omega
      have hp : nI (L - (m + 1)) - 1 = nI (L - (m + 1) - 1) := pk_sub (b := 1) (by omega)
      have hw1 := wd_lt (l := l) (k := L - (m + 1)) h1
      have hw2 := wd_lt (l := l) (k := L - (m + 1) - 1) h1
      have hr1 := hr _ hw1
      have ih := ih m (by omega) (by omega)
      have h87 := fun K0 v => w9_L87 (pl := nI L) (wd' := nI N) (v1 := nI l) (v3 := nI each) (v4 := nI from') (nr := nr) (row := r9) (pair := pair) (kind := kind) (a := wd N l (L - (m + 1) - 1)) (b := wd N l (L - (m + 1))) (k := L - (m + 1)) (h := h) hP (by omega) (by omega) hh K0 FU P (Nat.le_refl _) (FU_lt (by omega)) v
      rw [Nat.sub_self] at h87
      rw [if_neg (nI_ge (by omega) (by omega)), w9_eq h1 hN (by omega) hl, bs, pk_mul, nI_add, if_pos (ixb_nI hr1 hnr), if_neg (nI_ne0 (by omega) (by omega)), hp, w9_eq h1 hN (by omega) hl, bs, if_neg (nI_pos (by omega)), if_pos (ixb_nI (by omega) (by decide)), nI_clamp (by omega), nI_clamp (by omega)]
      have e0 : (0 : Int32) = nI 0 := rfl
      rw [e0, h87, h87]
      simp only [nI_1, hx]
      rw [ih, ih, wgt]
      split <;> congr 1 <;> grind
theorem wb_eq {N L l P h each from' : Nat} {nr : Nat} {r9 pair kind : Nat → Int32} (h1 : 1 ≤ N) (hN : N ≤ 8) (hL1 : 1 ≤ L) (hL : L ≤ 4) (hl : l < 2 ^ 31) (hP : P ≤ 12) (hh : h < 2) (hr : ∀ w, w < N → each * w + from' < nr) (hnr : nr < 2 ^ 31) : f_X9_worthBy (nI L) (nI N) (nI P) nr r9 pair kind (nI l) (nI each) (nI from') (nI h) = some (wgh N L l kind (fun w => r9 (each * w + from')) (fun a b => psm pair P h a b P)) := by
  have hw1 := wd_lt (l := l) (k := 0) h1
  have hr1 := hr _ hw1
  unfold f_X9_worthBy wgh
  have hf : FU = 9999 + 1 := rfl
  have h := w9_L6 (r9 := r9) (pair := pair) (kind := kind) h1 hN hL hl hP hh hr hnr 9999 (L - 1) (Nat.le_refl _) (by omega) (r9 (each * wd N l 0 + from'))
  have e1 : L - (L - 1) = 1 := by omega
  rw [e1] at h
  have e0 : (0 : Int32) = nI 0 := rfl
  rw [hf, f_X9_worthBy_L6.eq_2, e0, if_neg (nI_ge (by omega) (by omega)), w9_eq h1 hN (by omega) hl, bs, pk_mul, nI_add, if_pos (ixb_nI hr1 hnr), if_pos rfl, nI_clamp (by omega), hf, f_X9_worthBy_L87.eq_2]
  have ez : nI 0 + r9 (each * wd N l 0 + from') = r9 (each * wd N l 0 + from') := by rw [← e0]; grind
  have e01 : nI 0 + 1 = nI 1 := rfl
  rw [ez, e01, h]
  split
  · rfl
  · exact if_pos (by decide)
theorem wgt_congr {N L l : Nat} {kd kd' row row' : Nat → Int32} {pw pw' : Nat → Nat → Int32} (h1 : 1 ≤ N) (hk : ∀ w, w < N → kd w = kd' w) (hr : ∀ w, w < N → row w = row' w) (hp : ∀ a b, a < N → b < N → pw a b = pw' a b) : ∀ m, wgt N L l kd row pw m = wgt N L l kd' row' pw' m := by
  intro m
  induction m with
  | zero => rfl
  | succ m ih => rw [wgt, wgt, ih, hk _ (wd_lt h1), hr _ (wd_lt h1), hp _ _ (wd_lt h1) (wd_lt h1)]
theorem wgh_congr {N L l : Nat} {kd kd' row row' : Nat → Int32} {pw pw' : Nat → Nat → Int32} (h1 : 1 ≤ N) (hk : ∀ w, w < N → kd w = kd' w) (hr : ∀ w, w < N → row w = row' w) (hp : ∀ a b, a < N → b < N → pw a b = pw' a b) : wgh N L l kd row pw = wgh N L l kd' row' pw' := by
  unfold wgh
  rw [hr _ (wd_lt h1), wgt_congr h1 hk hr hp]
