/-! the text's clauses: pairs and frames -/
theorem hp_eq {w x : Nat} {pr : Nat → Int32} (hw : w < 8) (hx : x < 8) : f_X7_hasPair pr (nI w) (nI x) = some (if pr (8 * w + x) = 1 then 1 else 0) := by
  unfold f_X7_hasPair
  rw [spot_eq hw hx, bs, if_pos (ixb_nI (by omega) (by decide)), nI_clamp (by omega)]
  split <;> rfl
theorem st_pair {len p N L F P : Nat} {tx : Nat → Nat} {t8 t9 kd w0 w1 fm pr pw0 pw1 rk rw' rf rp : Nat → Int32} {st num na : Int32} (hT : TX len tx t8 t9) (hp : p ≤ len) (hG : TG N L F P kd w0 w1 fm pr pw0 pw1 rk rw' rf rp) (hP : P < 12) : ∃ p' s' fn' fb' P' pr' pw0' pw1' r fp' a' num' na' P9 rp', f_X5_readPair (nI len) (nI N) t8 (nI p) st 0 (-1) (nI P) pr pw0 pw1 = some (nI p', s', fn', fb', P', pr', pw0', pw1') ∧ f_X9_takePair (nI len) (nI N) t9 (-1) (nI p) num na (nI P) rp = some (r, fp', a', num', na', P9, rp') ∧ p' ≤ len ∧ OUT tx len p p' fn' fb' r fp' a' (P' = nI (P + 1) ∧ P9 = nI (P + 1) ∧ TG N L F (P + 1) kd w0 w1 fm pr' pw0' pw1' rk rw' rf rp') := by
  have e12 : (12 : Int32) = nI 12 := rfl
  have e59 : (59 : Int32) = nI 59 := rfl
  have e4 : (4 : Int32) = nI 4 := rfl
  have hN := hG.1
  have b1 := nfin_b (tx := tx) hp
  have b2 := nfin_b (tx := tx) b1.2
  have b3 := nfin_b (tx := tx) b2.2
  have b4 := nfin_b (tx := tx) b3.2
  have b5 := sfin_b (tx := tx) (c := 59) b4.2 (by decide)
  have l1 := nerr_le tx len p 0 (nI N - 1)
  have l2 := nerr_le tx len (nfin tx len p) 0 (nI N - 1)
  have l3 := nerr_le tx len (nfin tx len (nfin tx len p)) 0 99
  have l4 := nerr_le tx len (nfin tx len (nfin tx len (nfin tx len p))) 0 99
  have l5 := serr_le tx len (nfin tx len (nfin tx len (nfin tx len (nfin tx len p)))) 59
  unfold f_X5_readPair f_X9_takePair
  rw [e12, if_pos (nI_lt hP (by decide)), nn8 hT hp]
  simp only [bs]
  rw [nn8 hT b1.2]
  simp only [bs]
  obtain ⟨fp1, a1, n1, m1, g1, x1, y1⟩ := tn9 (fp := -1) (num := num) (na := na) (lo := 0) (hi := nI N - 1) hT hp
  rw [g1]
  simp only [bs]
  have e4P : 4 * nI P = nI (4 * P) := pk_mul 4 P
  rw [e4P, nI_1, if_pos (ixb_nI (by omega) (by decide)), nI_clamp (by omega), nI_clamp (by omega)]
  have cont : ∀ (fn fb : Int32), ¬ fn = 0 → ∃ q s4, q ≤ len ∧ ((f_X5_nextNumber (nI len) t8 (nI (nfin tx len (nfin tx len p))) (nI (sk tx len (nfin tx len p))) fn fb 0 99).bind fun (r_15, z_16, z_17, z_18, z_19) =>
      (f_X5_nextNumber (nI len) t8 z_16 z_17 z_18 z_19 0 99).bind fun (r_21, z_22, z_23, z_24, z_25) =>
      (f_X5_nextSign (nI len) t8 z_22 z_23 z_24 z_25 59).bind fun (z_27, z_28, z_29, z_30) =>
      if z_29 = 0 then
        (f_X7_addPair (nI P) pr pw0 pw1 (nI (nval tx len p)) (nI (nval tx len (nfin tx len p))) (r_15 - 50) (r_21 - 50)).bind fun (z_33, z_34, z_35, z_36) =>
        some (z_27, z_28, z_29, z_30, z_33, z_34, z_35, z_36)
      else
        some (z_27, z_28, z_29, z_30, nI P, pr, pw0, pw1)) = some (nI q, s4, fn, fb, nI P, pr, pw0, pw1) := by
    intro fn fb hfn
    rw [nn8 hT b2.2]
    simp only [bs]
    rw [nn8 hT b3.2]
    simp only [bs]
    rw [e59, ns8 hT b4.2 (by decide)]
    simp only [bs, fN_k hfn, fB_k hfn]
    rw [if_neg hfn]
    exact ⟨_, _, b5.2, rfl⟩
  by_cases h1 : nerr tx len p 0 (nI N - 1) = 0
  case neg =>
    have hz := nIp h1 (by omega)
    simp only [fN_0, fB_e h1, fN_k hz, fB_k hz]
    rw [if_neg hz]
    obtain ⟨q, s4, hq, ec⟩ := cont _ (nI (sk tx len p)) hz
    rw [ec, if_neg (nI_nle (by omega) (by omega)), if_neg (nI_nle (by omega) (by omega))]
    exact ⟨_, _, _, _, _, _, _, _, _, _, _, _, _, _, _, rfl, rfl, hq, Or.inl ⟨_, by omega, by omega, rfl, rfl, (y1 h1).symm⟩⟩
  obtain ⟨z1, z2, z3, z4⟩ := x1 h1
  simp only [h1, fN_z, fB_z]
  have d0 : nI 0 ≤ 0 := by decide
  obtain ⟨fp2, a2, n2, m2, g2, x2, y2⟩ := tn9 (fp := -1) (num := nI (nval tx len p)) (na := nI (sk tx len p)) (lo := 0) (hi := nI N - 1) hT b1.2
  rw [if_pos d0, z1, z2, z3, z4, g2]
  simp only [bs]
  by_cases h2 : nerr tx len (nfin tx len p) 0 (nI N - 1) = 0
  case neg =>
    have hz := nIp h2 (by omega)
    simp only [fN_0, fB_e h2]
    rw [if_neg hz]
    obtain ⟨q, s4, hq, ec⟩ := cont _ (nI (sk tx len (nfin tx len p))) hz
    rw [ec, if_neg (nI_nle (by omega) (by omega))]
    exact ⟨_, _, _, _, _, _, _, _, _, _, _, _, _, _, _, rfl, rfl, hq, Or.inl ⟨_, by omega, by omega, rfl, rfl, (y2 h2).symm⟩⟩
  obtain ⟨y1', y2', y3', y4'⟩ := x2 h2
  have hv1 := nval_N hp hN h1
  have hv2 := nval_N b1.2 hN h2
  simp only [h2, fN_z, fB_z]
  rw [if_pos trivial, if_pos d0, if_pos (ixb_nI (by omega) (by decide)), y1', y2', y3', y4', hp_eq (by omega) (by omega), bs]
  generalize hrp : upd (upd rp (4 * P) (nI (nval tx len p))) (4 * P + 1) (nI (nval tx len (nfin tx len p))) = rp1
  have r0 : rp1 (4 * P) = nI (nval tx len p) := by rw [← hrp, pk_un (by omega), pk_us]
  have r1 : rp1 (4 * P + 1) = nI (nval tx len (nfin tx len p)) := by rw [← hrp, pk_us]
  have rl : ∀ j, j < 4 * P → rp1 j = rp j := fun j hj => by rw [← hrp, pk_un (by omega), pk_un (by omega)]
  have key := tp_L (len := len) (P := P) (w := nval tx len p) (x := nval tx len (nfin tx len p)) (t9 := t9) (rp := rp1) (rn := nI N) (fp := -1) (a := nI (nfin tx len (nfin tx len p))) (na := nI (sk tx len (nfin tx len p))) hP (by omega) (by omega) r0 FU P (Nat.le_refl _) (FU_lt (by omega))
  rw [Nat.sub_self] at key
  have ez : nI 0 = 0 := rfl
  rw [ez] at key
  have hpr := (hG.2.2.2.2.2.2.2.2 (nval tx len p) (nval tx len (nfin tx len p)) (by omega) (by omega)).2
  by_cases hh : pr (8 * nval tx len p + nval tx len (nfin tx len p)) = 1
  · rw [if_pos hh, if_neg (by decide), e4, fail_eq _ _ _ _ (by decide)]
    simp only [bs, fN_0, fB_e (show ¬ 4 = 0 by decide)]
    obtain ⟨q, s4, hq, ec⟩ := cont (nI 4) (nI (sk tx len (nfin tx len p))) (by decide)
    rw [ec]
    have k1 := key.1 (by
      obtain ⟨k, hk, q1, q2⟩ := hpr.mp hh
      exact ⟨k, Nat.zero_le _, hk, by rw [rl _ (by omega)]; exact q1, by rw [rl _ (by omega)]; exact q2⟩)
    rw [k1]
    exact ⟨_, _, _, _, _, _, _, _, _, _, _, _, _, _, _, rfl, rfl, hq, Or.inl ⟨4, by omega, by omega, rfl, rfl, rfl⟩⟩
  · have k2 := key.2 (fun k _ hk q => hh (hpr.mpr ⟨k, hk, by rw [← rl _ (by omega)]; exact q.1, by rw [← rl _ (by omega)]; exact q.2⟩))
    rw [if_neg hh, if_pos rfl, k2, nn8 hT b2.2]
    simp only [bs]
    rw [nn8 hT b3.2]
    simp only [bs]
    rw [e59, ns8 hT b4.2 (by decide)]
    simp only [bs]
    obtain ⟨r, fp', a', num', na', row', et, ht⟩ := tt9 (fp := -1) (num := nI (nval tx len (nfin tx len p))) (na := nI (sk tx len (nfin tx len p))) (row := rp1) (at' := 4 * P + 2) (nr := 48) hT b2.2 (by omega) (by decide)
    rw [et]
    simp only [bs]
    rcases ht with ⟨h3, hr, hf⟩ | ⟨h3, h4, hr, hf⟩ | ⟨h3, h4, hr, hf, ha, hrow⟩
    · have hz := nIp h3 (by omega)
      simp only [fN_0, fB_e h3, fN_k hz, fB_k hz]
      rw [if_neg hz]
      exact ⟨_, _, _, _, _, _, _, _, _, _, _, _, _, _, _, rfl, rfl, b5.2, Or.inl ⟨_, by omega, by omega, hr, rfl, hf.symm⟩⟩
    · have hz := nIp h4 (by omega)
      simp only [h3, fN_0, fN_z, fB_z, fB_e h4, fN_k hz, fB_k hz]
      rw [if_neg hz]
      exact ⟨_, _, _, _, _, _, _, _, _, _, _, _, _, _, _, rfl, rfl, b5.2, Or.inl ⟨_, by omega, by omega, hr, rfl, hf.symm⟩⟩
    · simp only [h3, h4, fN_z, fB_z]
      by_cases h5 : serr tx len (nfin tx len (nfin tx len (nfin tx len (nfin tx len p)))) 59 = 0
      · rw [h5, fN_z, fB_z, if_pos rfl]
        unfold f_X7_addPair
        rw [spot_eq (by omega) (by omega), bs]
        simp only [if_pos (ixb_nI (show 8 * nval tx len p + nval tx len (nfin tx len p) < 64 by omega) (by decide)), nI_clamp (show 8 * nval tx len p + nval tx len (nfin tx len p) < 2 ^ 31 by omega), nI_1, bs]
        refine ⟨_, _, _, _, _, _, _, _, _, _, _, _, _, _, _, rfl, rfl, b5.2, Or.inr ⟨hr, hf, _, by omega, b4.2, ha, Or.inr ⟨h5, rfl, rfl, rfl, rfl, rfl, ?_⟩⟩⟩
        rw [hrow]
        refine TG_pair hG hP (by omega) (by omega) hh (fun j hj => ?_) ?_ ?_ ?_ ?_
        · rw [pk_un (by omega), pk_un (by omega), rl j hj]
        · rw [pk_un (by omega), pk_un (by omega), r0]
        · rw [pk_un (by omega), pk_un (by omega), r1]
        · rw [pk_un (by omega), pk_us]
        · rw [pk_us]
      · have hk1 : serr tx len (nfin tx len (nfin tx len (nfin tx len (nfin tx len p)))) 59 = 1 := by omega
        have hz := nIp h5 (by omega)
        rw [fN_0, fB_e h5, if_neg hz]
        exact ⟨_, _, _, _, _, _, _, _, _, _, _, _, _, _, _, rfl, rfl, b5.2, Or.inr ⟨hr, hf, _, by omega, b4.2, ha, Or.inl ⟨h5, by rw [hk1]; rfl, rfl⟩⟩⟩
/-- the code of the first k kinds -/
def cs (ks : Nat → Nat) : Nat → Nat
  | 0 => 0
  | k + 1 => cs ks k + ks k * 4 ^ k
theorem cs_congr {ks ks' : Nat → Nat} : ∀ k, (∀ j, j < k → ks j = ks' j) → cs ks k = cs ks' k := by
  intro k
  induction k with
  | zero => intro _; rfl
  | succ k ih => intro h; rw [cs, cs, ih (fun j hj => h j (by omega)), h k (by omega)]
theorem cs_fcd {ks : Nat → Nat} {L : Nat} : ∀ k, k ≤ L → cs ks k + 4 ^ k * fcd L ks (L - k) = fcd L ks L := by
  intro k
  induction k with
  | zero => intro _; rw [cs, Nat.pow_zero, Nat.sub_zero]; omega
  | succ k ih =>
    intro hk
    have ih := ih (by omega)
    have e1 : L - k = (L - (k + 1)) + 1 := by omega
    have e2 : L - (L - (k + 1) + 1) = k := by omega
    rw [e1, fcd, e2] at ih
    rw [cs, Nat.pow_succ]
    rw [← ih]
    grind
theorem cs_L {ks : Nat → Nat} {L : Nat} : cs ks L = fcd L ks L := by
  have := cs_fcd (ks := ks) (L := L) L (Nat.le_refl _)
  rw [Nat.sub_self] at this
  rw [← this]
  show cs ks L = cs ks L + 4 ^ L * 0
  omega
/-- with a fault, the class goes through the rest of the frame -/
theorem rf_L {len L : Nat} {tx : Nat → Nat} {t8 t9 : Nat → Int32} {fn fb fc : Int32} {fm : Nat → Int32} (hT : TX len tx t8 t9) (hL : L ≤ 4) (hfn : ¬ fn = 0) : ∀ n m, m ≤ L → m < n → ∀ (p : Nat) (c s st : Int32), p ≤ len → ∃ p' s', f_X5_readFrame_L21 (nI len) (nI L) t8 n c s (nI (L - m + 1)) (nI p) st fn fb fc fm = some (nI p', s', fn, fb, fc, fm) ∧ p' ≤ len := by
  intro n
  induction n with
  | zero => intro m _ h; omega
  | succ n ih =>
    intro m hm hn p c s st hp
    rw [f_X5_readFrame_L21.eq_2]
    cases m with
    | zero =>
      rw [if_pos (nI_lt (by omega) (by omega)), if_neg hfn]
      exact ⟨_, _, rfl, hp⟩
    | succ m =>
      have hx : L - (m + 1) + 1 + 1 = L - m + 1 := by omega
      have ih := ih m (by omega) (by omega)
      have b1 := wfin_b (tx := tx) hp
      rw [if_neg (nI_nlt (by omega) (by omega)), nk8 hT hp]
      simp only [bs]
      have e59 : (59 : Int32) = nI 59 := rfl
      have e44 : (44 : Int32) = nI 44 := rfl
      have b2 := sfin_b (tx := tx) (c := 59) b1.2 (by decide)
      have b3 := sfin_b (tx := tx) (c := 44) b1.2 (by decide)
      rw [e59, e44, ns8 hT b1.2 (by decide), ns8 hT b1.2 (by decide)]
      simp only [bs, fN_k hfn, fB_k hfn]
      rw [nI_1, hx]
      split
      · exact ih _ _ _ _ b2.2
      · exact ih _ _ _ _ b3.2
theorem FR_add {L F : Nat} {fm fr fr' : Nat → Int32} {ks : Nat → Nat} (h : FR L F fm fr) (hF : F < 8) (hL : L ≤ 4) (hks : ∀ j, ks j < 4) (h1 : ∀ j, j < L → fr' (4 * F + j) = nI (ks j)) (h2 : ∀ j, j < 4 * F → fr' j = fr j) : FR L (F + 1) (upd fm (fcd L ks L) 1) fr' := by
  obtain ⟨q1, ff, q2, q3, q4⟩ := h
  refine ⟨by omega, fun f p => if f = F then ks p else ff f p, fun f p => ?_, fun f p hf hp => ?_, fun c hc => ?_⟩
  · show (if f = F then ks p else ff f p) < 4
    split
    · exact hks p
    · exact q2 f p
  · by_cases e : f = F
    · have ek : (fun f p => if f = F then ks p else ff f p) f p = ks p := if_pos e
      rw [ek, e, h1 p hp]
    · have ek : (fun f p => if f = F then ks p else ff f p) f p = ff f p := if_neg e
      rw [ek, h2 _ (by omega), q3 f p (by omega) hp]
  · have hFk : (fun p => if F = F then ks p else ff F p) = ks := by
      funext p
      exact if_pos rfl
    by_cases ec : c = fcd L ks L
    · subst ec
      rw [pk_us]
      refine ⟨Or.inr rfl, fun _ => ⟨F, by omega, ?_⟩, fun _ => rfl⟩
      show fcd L (fun p => if F = F then ks p else ff F p) L = _
      rw [hFk]
    · rw [pk_un ec]
      obtain ⟨x1, x2⟩ := q4 c hc
      refine ⟨x1, fun q => ?_, fun ⟨f, hf, e⟩ => ?_⟩
      · obtain ⟨f, hf, e⟩ := x2.mp q
        refine ⟨f, by omega, ?_⟩
        have hfk : (fun p => if f = F then ks p else ff f p) = ff f := by
          funext p
          exact if_neg (by omega)
        show fcd L (fun p => if f = F then ks p else ff f p) L = c
        rw [hfk]; exact e
      · by_cases ef : f = F
        · subst ef
          have e : fcd L (fun p => if f = f then ks p else ff f p) L = c := e
          rw [hFk] at e
          exact absurd e.symm ec
        · have hfk : (fun p => if f = F then ks p else ff f p) = ff f := by
            funext p
            exact if_neg ef
          have e : fcd L (fun p => if f = F then ks p else ff f p) L = c := e
          rw [hfk] at e
          exact x2.mpr ⟨f, by omega, e⟩
