/-! the text's clauses: words and pairs -/
theorem nerr_le (tx : Nat → Nat) (len p : Nat) (lo hi : Int32) : nerr tx len p lo hi ≤ 2 := by
  unfold nerr
  repeat' split
  all_goals decide
theorem kerr_le (tx : Nat → Nat) (len p : Nat) : kerr tx len p ≤ 1 := by
  unfold kerr
  repeat' split
  all_goals decide
theorem serr_le (tx : Nat → Nat) (len p c : Nat) : serr tx len p c ≤ 1 := by
  unfold serr
  split <;> decide
theorem nval_lt {tx : Nat → Nat} {len p : Nat} (hp : p ≤ len) : nval tx len p < 1000 := by
  have h1 := sk_b (tx := tx) hp
  have h2 := rg_b (tx := tx) (a := 48) (b := 57) h1.2
  unfold nval
  have hin : ∀ j, sk tx len p ≤ j → j < sk tx len p + min (nend tx len (sk tx len p) - sk tx len p) 3 → 48 ≤ tx j ∧ tx j ≤ 57 := fun j a b => rg_in (len := len) a (by unfold nend at b; omega)
  have h3 := dv_lt _ hin
  have h4 : 10 ^ min (nend tx len (sk tx len p) - sk tx len p) 3 ≤ 10 ^ 3 := Nat.pow_le_pow_right (by decide) (by omega)
  omega
theorem nval_ok {tx : Nat → Nat} {len p : Nat} {lo hi : Int32} (h : nerr tx len p lo hi = 0) : nI (nval tx len p) ≤ hi ∧ ¬ nI (nval tx len p) < lo := by
  unfold nerr at h
  unfold nval
  by_cases a : nend tx len (sk tx len p) = sk tx len p
  · rw [if_pos a] at h; exact absurd h (by decide)
  · rw [if_neg a] at h
    by_cases b : 3 < nend tx len (sk tx len p) - sk tx len p
    · rw [if_pos b] at h; exact absurd h (by decide)
    · rw [if_neg b] at h
      have em : min (nend tx len (sk tx len p) - sk tx len p) 3 = nend tx len (sk tx len p) - sk tx len p := by omega
      rw [em]
      by_cases c : nI (dv tx (sk tx len p) (nend tx len (sk tx len p) - sk tx len p)) < lo
      · rw [if_pos c] at h; exact absurd h (by decide)
      · rw [if_neg c] at h
        by_cases d : nI (dv tx (sk tx len p) (nend tx len (sk tx len p) - sk tx len p)) ≤ hi
        · exact ⟨d, c⟩
        · rw [if_neg d] at h; exact absurd h (by decide)
theorem nval_N {tx : Nat → Nat} {len p N : Nat} (hp : p ≤ len) (hN : N ≤ 8) (h : nerr tx len p 0 (nI N - 1) = 0) : nval tx len p < N := by
  have h1 := (nval_ok h).1
  have h2 := nval_lt (tx := tx) hp
  rw [Int32.le_iff_toInt_le, nI_toInt (by omega), pred_toInt (by omega)] at h1
  omega
theorem tt9 {len p at' nr : Nat} {tx : Nat → Nat} {t8 t9 row : Nat → Int32} {fp num na : Int32} (hT : TX len tx t8 t9) (hp : p ≤ len) (hat : at' + 1 < nr) (hnr : nr < 2 ^ 31) : ∃ r fp' a' num' na' row', f_X9_takeTwo (nI len) nr t9 fp (nI p) num na row (nI at') = some (r, fp', a', num', na', row') ∧ ((¬ nerr tx len p 0 99 = 0 ∧ r = nI (nerr tx len p 0 99) ∧ fp' = nI (sk tx len p)) ∨ (nerr tx len p 0 99 = 0 ∧ ¬ nerr tx len (nfin tx len p) 0 99 = 0 ∧ r = nI (nerr tx len (nfin tx len p) 0 99) ∧ fp' = nI (sk tx len (nfin tx len p))) ∨ (nerr tx len p 0 99 = 0 ∧ nerr tx len (nfin tx len p) 0 99 = 0 ∧ r = 0 ∧ fp' = fp ∧ a' = nI (nfin tx len (nfin tx len p)) ∧ row' = upd (upd row at' (nI (nval tx len p) - 50)) (at' + 1) (nI (nval tx len (nfin tx len p)) - 50))) := by
  have hb := nfin_b (tx := tx) hp
  unfold f_X9_takeTwo
  obtain ⟨fp1, a1, n1, m1, e1, x1, y1⟩ := tn9 (fp := fp) (num := num) (na := na) (lo := 0) (hi := 99) hT hp
  have l1 := nerr_le tx len p 0 99
  have l2 := nerr_le tx len (nfin tx len p) 0 99
  rw [e1]
  simp only [bs]
  rw [nI_1, if_pos (ixb_nI (by omega) hnr), nI_clamp (by omega), nI_clamp (by omega)]
  by_cases h1 : nerr tx len p 0 99 = 0
  · obtain ⟨z1, z2, z3, z4⟩ := x1 h1
    have h1' : nI (nerr tx len p 0 99) ≤ 0 := by rw [h1]; decide
    obtain ⟨fp2, a2, n2, m2, e2, x2, y2⟩ := tn9 (fp := fp) (num := nI (nval tx len p)) (na := nI (sk tx len p)) (lo := 0) (hi := 99) hT hb.2
    rw [if_pos h1', z1, z2, z3, z4, e2]
    simp only [bs]
    rw [if_pos (ixb_nI (by omega) hnr)]
    by_cases h2 : nerr tx len (nfin tx len p) 0 99 = 0
    · obtain ⟨w1, w2, w3, w4⟩ := x2 h2
      rw [h2, w1, w2, w3, w4]
      exact ⟨_, _, _, _, _, _, rfl, Or.inr (Or.inr ⟨h1, rfl, rfl, rfl, rfl, rfl⟩)⟩
    · exact ⟨_, _, _, _, _, _, rfl, Or.inr (Or.inl ⟨h1, h2, rfl, y2 h2⟩)⟩
  · rw [if_neg (nI_nle (by omega) (by omega)), if_pos (ixb_nI (by omega) hnr)]
    exact ⟨_, _, _, _, _, _, rfl, Or.inl ⟨h1, rfl, y1 h1⟩⟩
theorem TG_word {N L F P k : Nat} {kd w0 w1 fm pr pw0 pw1 rk rw' rf rp : Nat → Int32} {a b : Int32} (h : TG N L F P kd w0 w1 fm pr pw0 pw1 rk rw' rf rp) (hN : N < 8) (hL : 2 ≤ L) (hk : k < 4) : TG (N + 1) L F P (upd kd N (nI k)) (upd w0 N a) (upd w1 N b) fm pr pw0 pw1 (upd rk N (nI k)) (upd (upd rw' (2 * N) a) (2 * N + 1) b) rf rp := by
  obtain ⟨q1, q2, q3, q4, q5, ⟨kk, q6, q7⟩, q8, q9, q10⟩ := h
  refine ⟨by omega, q2, fun _ => hL, q4, q5, ⟨fun w => if w = N then k else kk w, fun w => ?_, fun w hw => ?_⟩, fun w hw => ?_, q9, q10⟩
  · show (if w = N then k else kk w) < 4
    split
    · exact hk
    · exact q6 w
  · by_cases e : w = N
    · have ek : (fun w => if w = N then k else kk w) w = k := if_pos e
      rw [ek, e, pk_us, pk_us]
      exact ⟨rfl, rfl⟩
    · have ek : (fun w => if w = N then k else kk w) w = kk w := if_neg e
      rw [pk_un e, pk_un e, ek]
      exact q7 w (by omega)
  · by_cases e : w = N
    · subst e
      rw [pk_us, pk_us, pk_un (by omega), pk_us, pk_us]
      exact ⟨rfl, rfl⟩
    · rw [pk_un e, pk_un e, pk_un (by omega), pk_un (by omega), pk_un (by omega), pk_un (by omega)]
      exact q8 w (by omega)
/-- how a clause came out, up to its ';' -/
def OUT (tx : Nat → Nat) (len p p' : Nat) (fn fb r fp a : Int32) (G : Prop) : Prop := (∃ e, 1 ≤ e ∧ e ≤ 4 ∧ r = nI e ∧ fn = nI e ∧ fb = fp) ∨ (r = 0 ∧ fp = -1 ∧ ∃ q, p ≤ q ∧ q ≤ len ∧ a = nI q ∧ ((¬ serr tx len q 59 = 0 ∧ fn = 1 ∧ fb = nI (sk tx len q)) ∨ (serr tx len q 59 = 0 ∧ fn = 0 ∧ fb = -1 ∧ p' = sfin tx len q 59 ∧ G)))
theorem nIp {e : Nat} (h : ¬ e = 0) (h2 : e ≤ 4) : ¬ nI e = 0 := nI_ne0 (by omega) (by omega)
theorem st_word {len p N L F P : Nat} {tx : Nat → Nat} {t8 t9 kd w0 w1 fm pr pw0 pw1 rk rw' rf rp : Nat → Int32} {st we num na : Int32} {sd : Int64} (hT : TX len tx t8 t9) (hp : p ≤ len) (hG : TG N L F P kd w0 w1 fm pr pw0 pw1 rk rw' rf rp) (hN : N < 8) (hL : 2 ≤ L) : ∃ p' s' fn' fb' N' kd' w0' w1' r fp' a' sd' we' num' na' rk' rw'', f_X5_readWord (nI len) t8 (nI p) st 0 (-1) (nI N) kd w0 w1 = some (nI p', s', fn', fb', N', kd', w0', w1') ∧ f_X9_takeWordClause (nI len) t9 (-1) (nI p) sd we num na (nI N) rk rw' = some (r, fp', a', sd', we', num', na', nI (N + 1), rk', rw'') ∧ p' ≤ len ∧ OUT tx len p p' fn' fb' r fp' a' (N' = nI (N + 1) ∧ TG (N + 1) L F P kd' w0' w1' fm pr pw0 pw1 rk' rw'' rf rp) := by
  have e8 : (8 : Int32) = nI 8 := rfl
  have e59 : (59 : Int32) = nI 59 := rfl
  have b1 := wfin_b (tx := tx) hp
  have b2 := nfin_b (tx := tx) b1.2
  have b3 := nfin_b (tx := tx) b2.2
  have b4 := sfin_b (tx := tx) (c := 59) b3.2 (by decide)
  have l1 := kerr_le tx len p
  have l2 := nerr_le tx len (wfin tx len p) 0 99
  have l3 := nerr_le tx len (nfin tx len (wfin tx len p)) 0 99
  have l4 := serr_le tx len (nfin tx len (nfin tx len (wfin tx len p))) 59
  unfold f_X5_readWord f_X9_takeWordClause
  rw [e8, if_pos (nI_lt hN (by decide)), nk8 hT hp]
  simp only [bs]
  rw [nn8 hT b1.2]
  simp only [bs]
  rw [nn8 hT b2.2]
  simp only [bs]
  rw [e59, ns8 hT b3.2 (by decide)]
  simp only [bs]
  rw [tk9 hT hp hN (by decide), two_mul, nI_1]
  by_cases h1 : kerr tx len p = 0
  case neg =>
    have hz := nIp h1 (by omega)
    have hk1 : kerr tx len p = 1 := by omega
    simp only [fN_0, fB_e h1, fN_k hz, fB_k hz]
    rw [if_neg hz, if_neg h1]
    simp only [bs]
    rw [if_neg (show ¬ (1 : Int32) ≤ 0 by decide)]
    exact ⟨_, _, _, _, _, _, _, _, _, _, _, _, _, _, _, _, _, rfl, rfl, b4.2, Or.inl ⟨1, by omega, by omega, rfl, by rw [hk1], rfl⟩⟩
  rw [if_pos h1]
  simp only [h1, fN_z, fB_z, bs]
  rw [if_pos (show (0 : Int32) ≤ 0 by decide)]
  obtain ⟨r, fp', a', num', na', row', et, ht⟩ := tt9 (fp := -1) (num := num) (na := na) (row := rw') (at' := 2 * N) (nr := 16) hT b1.2 (by omega) (by decide)
  rw [et]
  simp only [bs]
  rcases ht with ⟨h2, hr, hf⟩ | ⟨h2, h3, hr, hf⟩ | ⟨h2, h3, hr, hf, ha, hrow⟩
  · have hz := nIp h2 (by omega)
    simp only [fN_0, fB_e h2, fN_k hz, fB_k hz]
    rw [if_neg hz]
    exact ⟨_, _, _, _, _, _, _, _, _, _, _, _, _, _, _, _, _, rfl, rfl, b4.2, Or.inl ⟨_, by omega, by omega, hr, rfl, hf.symm⟩⟩
  · have hz := nIp h3 (by omega)
    simp only [h2, fN_0, fN_z, fB_z, fB_e h3, fN_k hz, fB_k hz]
    rw [if_neg hz]
    exact ⟨_, _, _, _, _, _, _, _, _, _, _, _, _, _, _, _, _, rfl, rfl, b4.2, Or.inl ⟨_, by omega, by omega, hr, rfl, hf.symm⟩⟩
  · simp only [h2, h3, fN_z, fB_z]
    by_cases h4 : serr tx len (nfin tx len (nfin tx len (wfin tx len p))) 59 = 0
    · rw [h4, fN_z, fB_z, if_pos rfl]
      unfold f_X7_addWord
      rw [e8, if_neg (nI_ge hN (by decide))]
      simp only [if_pos (ixb_nI hN (by decide)), nI_clamp (show N < 2 ^ 31 by omega), nI_1, bs]
      refine ⟨_, _, _, _, _, _, _, _, _, _, _, _, _, _, _, _, _, rfl, rfl, b4.2, Or.inr ⟨hr, hf, _, by omega, b3.2, ha, Or.inr ⟨h4, rfl, rfl, rfl, rfl, ?_⟩⟩⟩
      rw [hrow]
      exact TG_word hG hN hL (kval_lt tx len p)
    · have hk1 : serr tx len (nfin tx len (nfin tx len (wfin tx len p))) 59 = 1 := by omega
      have hz := nIp h4 (by omega)
      rw [fN_0, fB_e h4, if_neg hz]
      exact ⟨_, _, _, _, _, _, _, _, _, _, _, _, _, _, _, _, _, rfl, rfl, b4.2, Or.inr ⟨hr, hf, _, by omega, b3.2, ha, Or.inl ⟨h4, by rw [hk1]; rfl, rfl⟩⟩⟩
theorem r4 (x y z : Int32) : x + y + z = x + (y + z) := by grind
theorem psm_add {rp rp' : Nat → Int32} {P h a b : Nat} (hr : ∀ j, j < 4 * P → rp' j = rp j) (hh : h < 2) : ∀ m, m ≤ P → psm rp' (P + 1) h a b (m + 1) = psm rp P h a b m + (if rp' (4 * P) = nI a then (if rp' (4 * P + 1) = nI b then rp' (4 * P + 2 + h) else 0) else 0) := by
  intro m
  induction m with
  | zero =>
    intro _
    have e1 : P + 1 - (0 + 1) = P := by omega
    rw [psm, psm, psm, e1]
    grind
  | succ m ih =>
    intro hm
    have e1 : P + 1 - (m + 1 + 1) = P - (m + 1) := by omega
    have e2 : psm rp' (P + 1) h a b (m + 1 + 1) = (if rp' (4 * (P + 1 - (m + 1 + 1))) = nI a then (if rp' (4 * (P + 1 - (m + 1 + 1)) + 1) = nI b then rp' (4 * (P + 1 - (m + 1 + 1)) + 2 + h) else 0) else 0) + psm rp' (P + 1) h a b (m + 1) := rfl
    have e3 : psm rp P h a b (m + 1) = (if rp (4 * (P - (m + 1))) = nI a then (if rp (4 * (P - (m + 1)) + 1) = nI b then rp (4 * (P - (m + 1)) + 2 + h) else 0) else 0) + psm rp P h a b m := rfl
    rw [e2, e3, ih (by omega), e1, hr _ (by omega), hr _ (by omega), hr _ (by omega)]
    exact (r4 _ _ _).symm
theorem psm_none {rp : Nat → Int32} {P h a b : Nat} (hn : ∀ p, p < P → ¬ (rp (4 * p) = nI a ∧ rp (4 * p + 1) = nI b)) : ∀ m, m ≤ P → psm rp P h a b m = 0 := by
  intro m
  induction m with
  | zero => intro _; rfl
  | succ m ih =>
    intro hm
    have h1 := hn (P - (m + 1)) (by omega)
    rw [psm, ih (by omega)]
    by_cases e1 : rp (4 * (P - (m + 1))) = nI a
    · rw [if_pos e1, if_neg (fun q => h1 ⟨e1, q⟩)]
      rfl
    · rw [if_neg e1]
      rfl
theorem TG_pair {N L F P w x : Nat} {kd w0 w1 fm pr pw0 pw1 rk rw' rf rp rp' : Nat → Int32} {a b : Int32} (h : TG N L F P kd w0 w1 fm pr pw0 pw1 rk rw' rf rp) (hP : P < 12) (hw : w < 8) (hx : x < 8) (hno : ¬ pr (8 * w + x) = 1) (hr : ∀ j, j < 4 * P → rp' j = rp j) (h0 : rp' (4 * P) = nI w) (h1 : rp' (4 * P + 1) = nI x) (h2 : rp' (4 * P + 2) = a) (h3 : rp' (4 * P + 3) = b) : TG N L F (P + 1) kd w0 w1 fm (upd pr (8 * w + x) 1) (upd pw0 (8 * w + x) a) (upd pw1 (8 * w + x) b) rk rw' rf rp' := by
  obtain ⟨q1, q2, q3, q4, q5, q6, q8, q9, q10⟩ := h
  have hnone : ∀ p, p < P → ¬ (rp (4 * p) = nI w ∧ rp (4 * p + 1) = nI x) := fun p hp q => hno ((q10 w x hw hx).2.mpr ⟨p, hp, q⟩)
  refine ⟨q1, q2, q3, by omega, q5, q6, q8, fun a' b' ha hb => ?_, fun a' b' ha hb => ?_⟩
  · rw [psm_add hr (by decide) P (Nat.le_refl _), psm_add hr (by decide) P (Nat.le_refl _), h0, h1]
    by_cases e : a' = w ∧ b' = x
    · obtain ⟨rfl, rfl⟩ := e
      rw [pk_us, pk_us, if_pos rfl, if_pos rfl, if_pos rfl, if_pos rfl, psm_none hnone P (Nat.le_refl _), psm_none hnone P (Nat.le_refl _), Nat.add_zero, h2]
      have e3 : rp' (4 * P + 2 + 1) = b := h3
      rw [e3]
      exact ⟨by grind, by grind⟩
    · have ei : 8 * a' + b' ≠ 8 * w + x := by omega
      rw [pk_un ei, pk_un ei]
      have hz : ∀ h, (if nI w = nI a' then (if nI x = nI b' then rp' (4 * P + 2 + h) else 0) else 0) = (0 : Int32) := by
        intro h
        by_cases ea : w = a'
        · have eb : ¬ nI x = nI b' := fun q => e ⟨ea.symm, (nI_inj (by omega) (by omega) q).symm⟩
          rw [if_neg eb]
          split <;> rfl
        · rw [if_neg (fun q => ea (nI_inj (by omega) (by omega) q))]
      rw [hz, hz]
      obtain ⟨x1, x2⟩ := q9 a' b' ha hb
      rw [x1, x2]
      exact ⟨by grind, by grind⟩
  · obtain ⟨x1, x2⟩ := q10 a' b' ha hb
    by_cases e : a' = w ∧ b' = x
    · obtain ⟨rfl, rfl⟩ := e
      rw [pk_us]
      exact ⟨Or.inr rfl, fun _ => ⟨P, by omega, h0, h1⟩, fun _ => rfl⟩
    · have ei : 8 * a' + b' ≠ 8 * w + x := by omega
      rw [pk_un ei]
      refine ⟨x1, fun q => ?_, fun ⟨p, hp, y1, y2⟩ => ?_⟩
      · obtain ⟨p, hp, y1, y2⟩ := x2.mp q
        exact ⟨p, by omega, by rw [hr _ (by omega)]; exact y1, by rw [hr _ (by omega)]; exact y2⟩
      · by_cases ep : p = P
        · subst ep
          rw [h0] at y1
          rw [h1] at y2
          exact absurd ⟨(nI_inj (by omega) (by omega) y1).symm, (nI_inj (by omega) (by omega) y2).symm⟩ e
        · rw [hr _ (by omega)] at y1 y2
          exact x2.mpr ⟨p, by omega, y1, y2⟩
theorem tp_L {len P w x : Nat} {t9 rp : Nat → Int32} {rn fp a na : Int32} (hP : P < 12) (hw : w < 8) (hx : x < 8) (h0 : rp (4 * P) = nI w) : ∀ n m, m ≤ P → m < n → ((∃ k, P - m ≤ k ∧ k < P ∧ rp (4 * k) = nI w ∧ rp (4 * k + 1) = nI x) → f_X9_takePair_L69 (nI len) rn t9 n (nI (4 * P)) (nI (P - m)) fp a (nI x) na (nI P) rp = some (4, na, a, nI x, na, nI P, rp)) ∧ ((∀ k, P - m ≤ k → k < P → ¬ (rp (4 * k) = nI w ∧ rp (4 * k + 1) = nI x)) → f_X9_takePair_L69 (nI len) rn t9 n (nI (4 * P)) (nI (P - m)) fp a (nI x) na (nI P) rp = (f_X9_takeTwo (nI len) 48 t9 fp a (nI x) na rp (nI (4 * P + 2))).bind fun (r_18, z_19, z_20, z_21, z_22, z_23) => some (r_18, z_19, z_20, z_21, z_22, nI (P + 1), z_23)) := by
  intro n
  induction n with
  | zero => intro m _ h; omega
  | succ n ih =>
    intro m hm hn
    have e2 : nI (4 * P) + 2 = nI (4 * P + 2) := nI_add _ 2
    rw [f_X9_takePair_L69.eq_2, e2]
    cases m with
    | zero =>
      rw [if_pos (nI_le (by omega) (by omega)), nI_1]
      exact ⟨fun ⟨k, h1, h2, _⟩ => by omega, fun _ => rfl⟩
    | succ m =>
      have hxx : P - (m + 1) + 1 = P - m := by omega
      have ih := ih m (by omega) (by omega)
      have hi : P - (m + 1) < P := by omega
      rw [← hxx, ← nI_1] at ih
      have hge : ∀ k, P - (m + 1) ≤ k → ¬ k = P - (m + 1) → P - (m + 1) + 1 ≤ k := fun k h1 h2 => by omega
      generalize P - (m + 1) = i at *
      have e4 : 4 * nI i = nI (4 * i) := pk_mul 4 i
      unfold f_X9_fails
      rw [if_neg (nI_ge hi (by omega)), e4, nI_1]
      simp only [if_pos (ixb_nI (show 4 * i < 48 by omega) (by decide)), if_pos (ixb_nI (show 4 * P < 48 by omega) (by decide)), if_pos (ixb_nI (show 4 * i + 1 < 48 by omega) (by decide)), nI_clamp (show 4 * i < 2 ^ 31 by omega), nI_clamp (show 4 * P < 2 ^ 31 by omega), nI_clamp (show 4 * i + 1 < 2 ^ 31 by omega), h0, bs]
      by_cases a1 : rp (4 * i) = nI w
      · rw [if_pos a1]
        by_cases a2 : rp (4 * i + 1) = nI x
        · rw [if_pos a2]
          exact ⟨fun _ => rfl, fun q => absurd ⟨a1, a2⟩ (q i (Nat.le_refl _) hi)⟩
        · rw [if_neg a2]
          refine ⟨fun ⟨k, h1, h2, h3, h4⟩ => ih.1 ⟨k, hge k h1 (fun e => a2 (by rw [← e]; exact h4)), h2, h3, h4⟩, fun q => ih.2 (fun k h1 h2 => q k (by omega) h2)⟩
      · rw [if_neg a1]
        refine ⟨fun ⟨k, h1, h2, h3, h4⟩ => ih.1 ⟨k, hge k h1 (fun e => a1 (by rw [← e]; exact h3)), h2, h3, h4⟩, fun q => ih.2 (fun k h1 h2 => q k (by omega) h2)⟩
