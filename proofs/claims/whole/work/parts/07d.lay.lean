/-! a tongue is laid: lay of the class, findLetters of the reference -/
/-- the tongue's words, frames and pairs as both hold them -/
def TG (N L F P : Nat) (kd w0 w1 fm pr pw0 pw1 kind worths frame pair : Nat → Int32) : Prop :=
  N ≤ 8 ∧ L ≤ 4 ∧ (1 ≤ N → 2 ≤ L) ∧ P ≤ 12 ∧ FR L F fm frame ∧ (∃ kk : Nat → Nat, (∀ w, kk w < 4) ∧ ∀ w, w < N → kd w = nI (kk w) ∧ kind w = nI (kk w)) ∧ (∀ w, w < N → w0 w = worths (2 * w) ∧ w1 w = worths (2 * w + 1)) ∧ (∀ a b, a < 8 → b < 8 → pw0 (8 * a + b) = psm pair P 0 a b P ∧ pw1 (8 * a + b) = psm pair P 1 a b P) ∧ ∀ a b, a < 8 → b < 8 → (pr (8 * a + b) = 0 ∨ pr (8 * a + b) = 1) ∧ (pr (8 * a + b) = 1 ↔ ∃ p, p < P ∧ pair (4 * p) = nI a ∧ pair (4 * p + 1) = nI b)
theorem cl_L {N : Nat} {len : Int32} (K0 : (Nat → Int32) → Option (Int32 × (Nat → Int32))) : ∀ n m, m ≤ 5 → m < n → ∀ sc : Nat → Int32, (∀ j, j < 5 - m → sc j = nI (N ^ j)) → ∃ sc', f_X7_countLetters_L4 len (nI N) K0 n (nI (N ^ (5 - m))) (nI (5 - m)) sc = K0 sc' ∧ Sc N sc' := by
  intro n
  induction n with
  | zero => intro m _ h; omega
  | succ n ih =>
    intro m hm hn sc hs
    rw [f_X7_countLetters_L4.eq_2]
    have e4 : (4 : Int32) = nI 4 := rfl
    rw [e4]
    cases m with
    | zero =>
      rw [if_pos (nI_lt (by omega) (by omega))]
      exact ⟨sc, rfl, fun j hj => hs j (by omega)⟩
    | succ m =>
      have hx : 5 - (m + 1) + 1 = 5 - m := by omega
      rw [if_neg (nI_nlt (by omega) (by omega)), if_pos (ixb_nI (by omega) (by decide)), nI_clamp (by omega), pk_mul, ← Nat.pow_succ, Nat.succ_eq_add_one, nI_1, hx]
      refine ih m (by omega) (by omega) _ (fun j hj => ?_)
      by_cases e : j = 5 - (m + 1)
      · subst e; rw [pk_us]
      · rw [pk_un e]; exact hs j (by omega)
theorem cl_eq {N L : Nat} {sc : Nat → Int32} (hN : N ≤ 8) (hL : L ≤ 4) : ∃ sc', f_X7_countLetters (nI L) (nI N) sc = some (nI (if N = 0 then 0 else N ^ L), sc') ∧ Sc N sc' := by
  unfold f_X7_countLetters
  obtain ⟨sc', e, h⟩ := cl_L (N := N) (len := nI L) (fun (z_3 : Nat → Int32) =>
    if nI N ≤ 0 then
      some (0, z_3)
    else
      if 4 < nI L then
        some (0, z_3)
      else
        if ixb (nI L) 5 = true then
        some ((z_3 (nI L).toNatClampNeg), z_3)
        else none) FU 5 (Nat.le_refl _) (FU_lt (by omega)) sc (fun j hj => by omega)
  refine ⟨sc', ?_, h⟩
  have e1 : nI (N ^ (5 - 5)) = 1 := by rw [Nat.sub_self, Nat.pow_zero]; rfl
  have e2 : nI (5 - 5) = 0 := rfl
  rw [e1, e2] at e
  rw [e]
  by_cases h0 : N = 0
  · subst h0
    rw [if_pos (by decide), if_pos rfl]
    rfl
  · have e4 : (4 : Int32) = nI 4 := rfl
    rw [if_neg (nI_nle (by omega) (by omega)), e4, if_neg (nI_nlt hL (by omega)), if_pos (ixb_nI (by omega) (by decide)), nI_clamp (by omega), if_neg h0, h L hL]
theorem nb0 : vp_nar .byte ((0 : Int32).toInt8.toInt32) = 0 := by rw [pk_vb]; decide
theorem nb1 : vp_nar .byte ((1 : Int32).toInt8.toInt32) = 1 := by rw [pk_vb]; decide
theorem nz0 : vp_nar .boolean (0 : Int32) = 0 := by decide
theorem nz1 : vp_nar .boolean (1 : Int32) = 1 := by decide
/-- the first i LETTERS are weighed alike -/
def WL (i : Nat) (sense one other st wo : Nat → Int32) : Prop := ∀ c, c < i → sense c = st c ∧ (sense c = 0 ∨ sense c = 1) ∧ one c = wo (2 * c) ∧ other c = wo (2 * c + 1)
theorem WL_upd {i : Nat} {sense one other st wo : Nat → Int32} {s a b : Int32} (h : WL i sense one other st wo) (hs : s = 0 ∨ s = 1) : WL (i + 1) (upd sense i s) (upd one i a) (upd other i b) (upd st i s) (upd (upd wo (2 * i) a) (2 * i + 1) b) := by
  intro c hc
  by_cases e : c = i
  · subst e
    rw [pk_us, pk_us, pk_us, pk_us, pk_us, pk_un (by omega), pk_us]
    exact ⟨rfl, hs, rfl, rfl⟩
  · rw [pk_un e, pk_un e, pk_un e, pk_un e, pk_un (by omega), pk_un (by omega), pk_un (by omega), pk_un (by omega)]
    exact h c (by omega)
theorem ly_L {N L F P Z cap : Nat} {kd w0 w1 fm pr pw0 pw1 kind worths frame pair sc : Nat → Int32} {tg : Int32} (hT : TG N L F P kd w0 w1 fm pr pw0 pw1 kind worths frame pair) (hs : Sc N sc) (h1 : 1 ≤ N) (hZ : Z ≤ cap) (hcap : cap ≤ 4096) : ∀ n m, m ≤ Z → m < n → ∀ (sd : Int32) (sense one other st wo : Nat → Int32), WL (Z - m) sense one other st wo → ∃ sd' sense' one' other' st' wo', f_X3_lay_L34 (nI L) (nI N) (nI F) (nI P) kd w0 w1 fm pr pw0 pw1 n (nI (Z - m)) tg (nI Z) sd cap sense cap one cap other sc = some (tg, nI Z, sd', cap, sense', cap, one', cap, other', sc) ∧ f_X9_findLetters_L30 (nI L) (nI N) (nI F) (nI P) frame kind worths pair n (nI (Z - m)) (nI Z) sd st wo = some (nI Z, sd', st', wo') ∧ WL Z sense' one' other' st' wo' := by
  obtain ⟨hN, hL, hL2, hP, hF, ⟨kk, hkk, hk⟩, hw, hpw, -⟩ := hT
  have hL2 := hL2 h1
  intro n
  induction n with
  | zero => intro m _ h; omega
  | succ n ih =>
    intro m hm hn sd sense one other st wo hW
    rw [f_X3_lay_L34.eq_2, f_X9_findLetters_L30.eq_2]
    cases m with
    | zero =>
      rw [if_pos (nI_le (by omega) (by omega)), if_pos (nI_le (by omega) (by omega))]
      exact ⟨_, _, _, _, _, _, rfl, rfl, hW⟩
    | succ m =>
      have hx : Z - (m + 1) + 1 = Z - m := by omega
      generalize hi : Z - (m + 1) = i at *
      have hiZ : i < Z := by omega
      have ih := fun sd sense one other st wo hW => ih m (by omega) (by omega) sd sense one other st wo hW
      rw [← hx] at ih
      obtain ⟨r, e7, e9, hr⟩ := if_both (l := i) (kd := kd) (kind := kind) hs h1 hN hL (by omega) hk hkk hF
      rw [if_neg (nI_ge hiZ (by omega)), if_neg (nI_ge hiZ (by omega)), e7, e9, bs, bs, two_mul, nI_1, nI_1, nI_clamp (by omega), nI_clamp (by omega), nI_clamp (by omega)]
      simp only [if_pos (ixb_nI (show i < cap by omega) (by omega)), if_pos (ixb_nI (show i < 4096 by omega) (by decide)), if_pos (ixb_nI (show 2 * i < 8192 by omega) (by decide)), if_pos (ixb_nI (show 2 * i + 1 < 8192 by omega) (by decide)), pk_us]
      rcases hr with rfl | rfl
      · simp only [c00, if_true, nb0, nz0]
        exact ih _ _ _ _ _ _ (WL_upd hW (Or.inl rfl))
      · have a0 : f_X7_weigh (nI L) (nI N) 8 w0 64 pw0 sc kd (nI i) = some (wgh N L i kind (fun w => worths (2 * w + 0)) (fun a b => psm pair P 0 a b P)) := by
          rw [wg7_eq hs h1 hN (by omega) hL (by omega)]
          exact congrArg some (wgh_congr h1 (fun w h => by rw [(hk w h).1, (hk w h).2]) (fun w h => (hw w h).1) (fun a b ha hb => (hpw a b (by omega) (by omega)).1))
        have a1 : f_X7_weigh (nI L) (nI N) 8 w1 64 pw1 sc kd (nI i) = some (wgh N L i kind (fun w => worths (2 * w + 1)) (fun a b => psm pair P 1 a b P)) := by
          rw [wg7_eq hs h1 hN (by omega) hL (by omega)]
          exact congrArg some (wgh_congr h1 (fun w h => by rw [(hk w h).1, (hk w h).2]) (fun w h => (hw w h).2) (fun a b ha hb => (hpw a b (by omega) (by omega)).2))
        have b0 : f_X9_worthBy (nI L) (nI N) (nI P) 16 worths pair kind (nI i) 2 0 0 = some (wgh N L i kind (fun w => worths (2 * w + 0)) (fun a b => psm pair P 0 a b P)) := wb_eq (each := 2) (from' := 0) (h := 0) h1 hN (by omega) hL (by omega) hP (by omega) (fun w hw => by omega) (by decide)
        have b1 : f_X9_worthBy (nI L) (nI N) (nI P) 16 worths pair kind (nI i) 2 1 1 = some (wgh N L i kind (fun w => worths (2 * w + 1)) (fun a b => psm pair P 1 a b P)) := wb_eq (each := 2) (from' := 1) (h := 1) h1 hN (by omega) hL (by omega) hP (by omega) (fun w hw => by omega) (by decide)
        simp only [c10, if_false, nb1, nz1, a0, a1, b0, b1, bs]
        exact ih _ _ _ _ _ _ (WL_upd hW (Or.inr rfl))
/-- how much room a tongue of Z LETTERS leaves -/
def capN (cap Z : Nat) : Nat := if Z ≤ cap then cap else Z
theorem capN_ok {cap Z : Nat} (hc : cap ≤ 4096) (hZ : Z ≤ 4096) : Z ≤ capN cap Z ∧ capN cap Z ≤ 4096 ∧ cap ≤ capN cap Z := by
  unfold capN
  by_cases h : Z ≤ cap
  · rw [if_pos h]; omega
  · rw [if_neg h]; omega
theorem mr3_eq {cap Z : Nat} {sense one other : Nat → Int32} (hc : cap ≤ 4096) (hZ : Z ≤ 4096) : ∃ sense' one' other', f_X3_makeRoom (nI Z) cap sense cap one cap other = some (capN cap Z, sense', capN cap Z, one', capN cap Z, other') := by
  unfold f_X3_makeRoom capN
  by_cases h : Z ≤ cap
  · rw [if_pos (nI_le h (by omega)), if_pos h]
    exact ⟨_, _, _, rfl⟩
  · have hz : szb (nI Z) = true := by
      unfold szb
      rw [nI_toInt (by omega)]
      exact decide_eq_true ⟨by omega, by omega⟩
    rw [if_neg (nI_ge (by omega) (by omega)), if_neg h]
    simp only [hz, if_true, nI_clamp (show Z < 2 ^ 31 by omega)]
    exact ⟨_, _, _, rfl⟩
theorem ly_eq {N L F P cap : Nat} {kd w0 w1 fm pr pw0 pw1 kind worths frame pair sc sense one other st wo : Nat → Int32} {tg sz sd8 lz sd9 : Int32} (hT : TG N L F P kd w0 w1 fm pr pw0 pw1 kind worths frame pair) (hcap : cap ≤ 4096) : ∃ Z sd' sc' sense' one' other' st' wo', Z = (if N = 0 then 0 else N ^ L) ∧ f_X3_lay (nI L) (nI N) (nI F) (nI P) kd w0 w1 fm pr pw0 pw1 tg sz sd8 cap sense cap one cap other sc = some (tg + 1, nI Z, sd', capN cap Z, sense', capN cap Z, one', capN cap Z, other', sc') ∧ f_X9_findLetters (nI L) (nI N) (nI F) (nI P) frame kind worths pair lz sd9 st wo = some (nI Z, sd', st', wo') ∧ CT N L Z (capN cap Z) sc' sense' st' ∧ WT Z (capN cap Z) (capN cap Z) one' other' wo' ∧ capN cap Z ≤ 4096 := by
  obtain ⟨hN, hL, hL2, -⟩ := id hT
  obtain ⟨sc', e, hs⟩ := cl_eq (sc := sc) hN hL
  have hp := pow_b hN hL
  have hZ : (if N = 0 then 0 else N ^ L) ≤ 4096 := by split <;> omega
  generalize hZe : (if N = 0 then 0 else N ^ L) = Z at *
  obtain ⟨s1, o1, t1, em⟩ := mr3_eq (sense := sense) (one := one) (other := other) hcap hZ
  obtain ⟨k1, k2, -⟩ := capN_ok hcap hZ
  unfold f_X3_lay f_X9_findLetters
  rw [e]
  simp only [bs]
  rw [em]
  simp only [bs]
  by_cases h0 : N = 0
  · subst h0
    rw [if_pos rfl] at hZe
    subst hZe
    have e01 : nI 0 = 0 := rfl
    have hf : FU = 9999 + 1 := rfl
    rw [e01, if_pos rfl, hf, f_X3_lay_L34.eq_2, f_X9_findLetters_L30.eq_2, if_pos (by decide), if_pos (by decide)]
    exact ⟨0, _, _, _, _, _, _, _, rfl, rfl, rfl, ⟨by omega, hL, rfl, fun q => by omega, Nat.zero_le _, k2, fun c hc => by omega⟩, ⟨Nat.zero_le _, k2, Nat.zero_le _, k2, fun c hc => by omega⟩, k2⟩
  · rw [if_neg h0] at hZe
    rw [if_neg (nI_ne0 (by omega) (by omega)), u_eq hN hL, bs, hZe]
    obtain ⟨sd', sense', one', other', st', wo', a, b, c⟩ := ly_L (Z := Z) (cap := capN cap Z) (tg := tg + 1) hT hs (by omega) k1 k2 FU Z (Nat.le_refl _) (FU_lt (by omega)) 0 s1 o1 t1 st wo (fun c hc => by omega)
    have e0 : nI (Z - Z) = 0 := by rw [Nat.sub_self]; rfl
    rw [e0] at a b
    exact ⟨Z, sd', sc', sense', one', other', st', wo', rfl, a, b, ⟨hN, hL, by rw [if_neg h0, hZe], fun q => ⟨hL2 q, hs⟩, k1, k2, fun x hx => ⟨(c x hx).1, (c x hx).2.1⟩⟩, ⟨k1, k2, k1, k2, fun x hx => (c x hx).2.2⟩, k2⟩
