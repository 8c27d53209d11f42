/-! the text's clauses: frames, whole clauses -/
theorem OUT_mono {tx : Nat → Nat} {len p p2 p' : Nat} {fn fb r fp a : Int32} {G : Prop} (h : OUT tx len p2 p' fn fb r fp a G) (hp : p ≤ p2) : OUT tx len p p' fn fb r fp a G := by
  rcases h with h | ⟨h1, h2, q, h3, h4⟩
  · exact Or.inl h
  · exact Or.inr ⟨h1, h2, q, by omega, h4⟩
theorem tf_end {len L e : Nat} {t9 rf : Nat → Int32} {v1 v3 fp a we fc : Int32} {sd : Int64} {n : Nat} (he : ¬ nI e = 0) : f_X9_takeFrame_L21 (nI len) (nI L) t9 (n + 1) v1 (nI e) v3 fp a sd we fc rf = some (nI e, fp, a, sd, we, fc, rf) := by
  rw [f_X9_takeFrame_L21.eq_2]
  by_cases h : nI L ≤ v3
  · rw [if_pos h]
  · rw [if_neg h, if_neg he]
/-- the reference stands before the kind at p -/
def AT (tx : Nat → Nat) (len k p : Nat) (a : Int32) : Prop := (k = 0 ∧ a = nI p) ∨ (1 ≤ k ∧ ∃ q, q ≤ len ∧ a = nI q ∧ serr tx len q 44 = 0 ∧ p = sfin tx len q 44)
theorem serr0 {tx : Nat → Nat} {len q c : Nat} (h : serr tx len q c = 0) : hr tx len (sk tx len q) = nI c ∧ sfin tx len q c = sk tx len q + 1 := by
  unfold serr at h
  unfold sfin
  by_cases e : hr tx len (sk tx len q) = nI c
  · exact ⟨e, if_pos e⟩
  · rw [if_neg e] at h; exact absurd h (by decide)
theorem serr1 {tx : Nat → Nat} {len q c : Nat} (h : ¬ serr tx len q c = 0) : ¬ hr tx len (sk tx len q) = nI c := by
  intro e
  unfold serr at h
  rw [if_pos e] at h
  exact h rfl
theorem tf_step {len L F k p : Nat} {tx : Nat → Nat} {t8 t9 rf : Nat → Int32} {a we fc : Int32} {sd : Int64} {n : Nat} (hT : TX len tx t8 t9) (hL : L ≤ 4) (hk : k < L) (hA : AT tx len k p a) : f_X9_takeFrame_L21 (nI len) (nI L) t9 (n + 1) (nI (4 * F)) 0 (nI k) (-1) a sd we fc rf = (f_X9_takeKind (nI len) 32 t9 (-1) (nI p) sd we rf (nI (4 * F + k))).bind fun (r_5, z_6, z_7, z_8, z_9, z_10) => f_X9_takeFrame_L21 (nI len) (nI L) t9 n (nI (4 * F)) r_5 (nI (k + 1)) z_6 z_7 z_8 z_9 fc z_10 := by
  have hlen := hT.1
  rw [f_X9_takeFrame_L21.eq_2, if_neg (nI_ge hk (by omega)), if_pos rfl, nI_add, nI_1]
  rcases hA with ⟨rfl, rfl⟩ | ⟨h1, q, hq, rfl, hs, rfl⟩
  · rw [if_pos (show nI 0 ≤ 0 by decide), if_pos (show (0 : Int32) ≤ 0 by decide)]
  · obtain ⟨s1, s2⟩ := serr0 hs
    have e44 : (44 : Int32) = nI 44 := rfl
    rw [if_neg (nI_nle h1 (by omega)), he9 hT hq]
    simp only [bs]
    rw [s1, e44, if_pos rfl, s2, nI_1]
theorem fl_J {len L F : Nat} {tx : Nat → Nat} {t8 t9 fm rf0 : Nat → Int32} (hT : TX len tx t8 t9) (hL : L ≤ 4) (hF : F < 8) (hFR : FR L F fm rf0) : ∀ m k, k + m = L → 1 ≤ m → ∀ n8 n9, m < n8 → m < n9 → ∀ (p : Nat) (ks : Nat → Nat) (st a we : Int32) (sd : Int64) (rf : Nat → Int32), p ≤ len → AT tx len k p a → (∀ j, ks j < 4) → (∀ j, j < k → rf (4 * F + j) = nI (ks j)) → (∀ j, j < 4 * F → rf j = rf0 j) → ∃ p' s' fn' fb' fc' fm' r fp' a' sd' we' rf', f_X5_readFrame_L21 (nI len) (nI L) t8 n8 (nI (cs ks k)) (nI (4 ^ k)) (nI (k + 1)) (nI p) st 0 (-1) (nI F) fm = some (nI p', s', fn', fb', fc', fm') ∧ f_X9_takeFrame_L21 (nI len) (nI L) t9 n9 (nI (4 * F)) 0 (nI k) (-1) a sd we (nI (F + 1)) rf = some (r, fp', a', sd', we', nI (F + 1), rf') ∧ p' ≤ len ∧ OUT tx len p p' fn' fb' r fp' a' (fc' = nI (F + 1) ∧ FR L (F + 1) fm' rf') := by
  have hlen := hT.1
  have e59 : (59 : Int32) = nI 59 := rfl
  have e44 : (44 : Int32) = nI 44 := rfl
  intro m
  induction m with
  | zero => intro k _ h; omega
  | succ m ih =>
    intro k hkm _ n8 n9 hn8 hn9 p ks st a we sd rf hp hA hks hrf hrf0
    obtain ⟨n8, rfl⟩ : ∃ x, n8 = x + 1 := ⟨n8 - 1, by omega⟩
    obtain ⟨n9, rfl⟩ : ∃ x, n9 = x + 1 := ⟨n9 - 1, by omega⟩
    have b1 := wfin_b (tx := tx) hp
    have b2 := sfin_b (tx := tx) (c := 59) b1.2 (by decide)
    have b3 := sfin_b (tx := tx) (c := 44) b1.2 (by decide)
    have l1 := kerr_le tx len p
    have l2 := serr_le tx len (wfin tx len p) 59
    have l3 := serr_le tx len (wfin tx len p) 44
    have hkv := kval_lt tx len p
    rw [tf_step hT hL (by omega) hA, tk9 hT hp (show 4 * F + k < 32 by omega) (by decide), f_X5_readFrame_L21.eq_2, if_neg (nI_nlt (by omega) (by omega)), nk8 hT hp]
    simp only [bs]
    rw [e59, e44, ns8 hT b1.2 (by decide), ns8 hT b1.2 (by decide)]
    simp only [bs]
    have eidx : L - (m + 1) + 1 + 1 = L - m + 1 := by omega
    have e4 : nI (4 ^ k) * 4 = nI (4 ^ (k + 1)) := pk_mul (4 ^ k) 4
    have ecs : nI (cs ks k) + nI (kval tx len p) * nI (4 ^ k) = nI (cs (fun j => if j = k then kval tx len p else ks j) (k + 1)) := by
      rw [pk_mul, nI_add, cs]
      have e1 : (if k = k then kval tx len p else ks k) = kval tx len p := if_pos rfl
      rw [e1, cs_congr k (fun j hj => (if_neg (show ¬ j = k by omega)).symm)]
    rw [e4, ecs, nI_1]
    have hkm2 : k + 1 + 1 = L - m + 1 := by omega
    by_cases h1 : kerr tx len p = 0
    case neg =>
      have hz := nIp h1 (by omega)
      have hk1 : kerr tx len p = 1 := by omega
      obtain ⟨n9', rfl⟩ : ∃ x, n9 = x + 1 := ⟨n9 - 1, by omega⟩
      simp only [fN_0, fB_e h1, fN_k hz, fB_k hz]
      rw [if_neg h1]
      simp only [bs]
      have te := tf_end (len := len) (L := L) (e := 1) (t9 := t9) (rf := rf) (v1 := nI (4 * F)) (v3 := nI (k + 1)) (fp := nI (sk tx len p)) (a := nI (sk tx len p)) (we := nI (wfin tx len p)) (fc := nI (F + 1)) (sd := lN (kc tx len p)) (n := n9') (by decide)
      have e1 : nI 1 = 1 := rfl
      rw [e1] at te
      rw [te, hk1, hkm2]
      split
      · obtain ⟨p', s', er, hp'⟩ := rf_L (fn := nI 1) (fb := nI (sk tx len p)) (fc := nI F) (fm := fm) hT hL (by decide) n8 m (by omega) (by omega) (sfin tx len (wfin tx len p) 59) (nI (cs (fun j => if j = k then kval tx len p else ks j) (k + 1))) (nI (4 ^ (k + 1))) (nI (sk tx len (wfin tx len p))) b2.2
        rw [er]
        exact ⟨_, _, _, _, _, _, _, _, _, _, _, _, rfl, rfl, hp', Or.inl ⟨1, by omega, by omega, rfl, rfl, rfl⟩⟩
      · obtain ⟨p', s', er, hp'⟩ := rf_L (fn := nI 1) (fb := nI (sk tx len p)) (fc := nI F) (fm := fm) hT hL (by decide) n8 m (by omega) (by omega) (sfin tx len (wfin tx len p) 44) (nI (cs (fun j => if j = k then kval tx len p else ks j) (k + 1))) (nI (4 ^ (k + 1))) (nI (sk tx len (wfin tx len p))) b3.2
        rw [er]
        exact ⟨_, _, _, _, _, _, _, _, _, _, _, _, rfl, rfl, hp', Or.inl ⟨1, by omega, by omega, rfl, rfl, rfl⟩⟩
    rw [if_pos h1]
    simp only [h1, fN_z, fB_z, bs]
    have hks' : ∀ j, (fun j => if j = k then kval tx len p else ks j) j < 4 := fun j => by
      show (if j = k then kval tx len p else ks j) < 4
      split
      · exact hkv
      · exact hks j
    have hrf' : ∀ j, j < k + 1 → upd rf (4 * F + k) (nI (kval tx len p)) (4 * F + j) = nI ((fun j => if j = k then kval tx len p else ks j) j) := by
      intro j hj
      by_cases e : j = k
      · have e1 : (fun j => if j = k then kval tx len p else ks j) j = kval tx len p := if_pos e
        rw [e1, e, pk_us]
      · have e1 : (fun j => if j = k then kval tx len p else ks j) j = ks j := if_neg e
        rw [e1, pk_un (by omega)]
        exact hrf j (by omega)
    have hrf0' : ∀ j, j < 4 * F → upd rf (4 * F + k) (nI (kval tx len p)) j = rf0 j := fun j hj => by
      rw [pk_un (by omega)]; exact hrf0 j hj
    by_cases hm : m = 0
    · subst hm
      have hkL : k + 1 = L := by omega
      obtain ⟨n9', rfl⟩ : ∃ x, n9 = x + 1 := ⟨n9 - 1, by omega⟩
      rw [if_pos (nI_le (by omega) (by omega)), f_X9_takeFrame_L21.eq_2, if_pos (nI_le (by omega) (by omega))]
      by_cases h2 : serr tx len (wfin tx len p) 59 = 0
      · obtain ⟨n8', rfl⟩ : ∃ x, n8 = x + 1 := ⟨n8 - 1, by omega⟩
        rw [h2, fN_z, fB_z, f_X5_readFrame_L21.eq_2, if_pos (nI_lt (by omega) (by omega)), if_pos rfl, hkL, cs_L]
        have hlt := fcd_lt L (fun j => if j = k then kval tx len p else ks j) hks' L
        have hlt2 : 4 ^ L ≤ 4 ^ 4 := Nat.pow_le_pow_right (by decide) hL
        have hlt3 : fcd L (fun j => if j = k then kval tx len p else ks j) L < 256 := by
          have : (4 : Nat) ^ 4 = 256 := by decide
          omega
        unfold f_X7_addFrame
        rw [if_neg (nI_pos (by omega)), if_neg (nI_ge hlt3 (by decide)), if_pos (ixb_nI hlt3 (by decide)), nI_clamp (by omega), nI_1]
        simp only [bs]
        exact ⟨_, _, _, _, _, _, _, _, _, _, _, _, rfl, rfl, b2.2, Or.inr ⟨rfl, rfl, _, b1.1, b1.2, rfl, Or.inr ⟨h2, rfl, rfl, rfl, rfl, FR_add hFR hF hL hks' (fun j hj => hrf' j (by omega)) hrf0'⟩⟩⟩
      · have hz := nIp h2 (by omega)
        have hk1 : serr tx len (wfin tx len p) 59 = 1 := by omega
        rw [fN_0, fB_e h2, hk1, hkm2]
        obtain ⟨p', s', er, hp'⟩ := rf_L (fn := nI 1) (fb := nI (sk tx len (wfin tx len p))) (fc := nI F) (fm := fm) hT hL (by decide) n8 0 (by omega) (by omega) (sfin tx len (wfin tx len p) 59) (nI (cs (fun j => if j = k then kval tx len p else ks j) (k + 1))) (nI (4 ^ (k + 1))) (nI (sk tx len (wfin tx len p))) b2.2
        rw [er]
        exact ⟨_, _, _, _, _, _, _, _, _, _, _, _, rfl, rfl, hp', Or.inr ⟨rfl, rfl, _, b1.1, b1.2, rfl, Or.inl ⟨h2, rfl, rfl⟩⟩⟩
    · rw [if_neg (nI_ge (by omega) (by omega))]
      by_cases h2 : serr tx len (wfin tx len p) 44 = 0
      · rw [h2, fN_z, fB_z]
        obtain ⟨p', s', fn', fb', fc', fm', r, fp', a', sd', we', rf', c1, c2, c3, c4⟩ := ih (k + 1) (by omega) (by omega) n8 n9 (by omega) (by omega) (sfin tx len (wfin tx len p) 44) (fun j => if j = k then kval tx len p else ks j) (nI (sk tx len (wfin tx len p))) (nI (wfin tx len p)) (nI (wfin tx len p)) (lN (kc tx len p)) (upd rf (4 * F + k) (nI (kval tx len p))) b3.2 (Or.inr ⟨by omega, _, b1.2, rfl, h2, rfl⟩) hks' hrf' hrf0'
        exact ⟨p', s', fn', fb', fc', fm', r, fp', a', sd', we', rf', c1, c2, c3, OUT_mono c4 (by omega)⟩
      · have hz := nIp h2 (by omega)
        have hk1 : serr tx len (wfin tx len p) 44 = 1 := by omega
        obtain ⟨n9', rfl⟩ : ∃ x, n9 = x + 1 + 1 := ⟨n9 - 2, by omega⟩
        rw [fN_0, fB_e h2, hk1, hkm2]
        obtain ⟨p', s', er, hp'⟩ := rf_L (fn := nI 1) (fb := nI (sk tx len (wfin tx len p))) (fc := nI F) (fm := fm) hT hL (by decide) n8 m (by omega) (by omega) (sfin tx len (wfin tx len p) 44) (nI (cs (fun j => if j = k then kval tx len p else ks j) (k + 1))) (nI (4 ^ (k + 1))) (nI (sk tx len (wfin tx len p))) b3.2
        have hne := serr1 h2
        rw [er, f_X9_takeFrame_L21.eq_2, if_neg (nI_ge (by omega) (by omega)), if_pos rfl, if_neg (nI_nle (by omega) (by omega)), he9 hT b1.2]
        unfold f_X9_fails
        simp only [bs]
        have te := tf_end (len := len) (L := L) (e := 1) (t9 := t9) (rf := upd rf (4 * F + k) (nI (kval tx len p))) (v1 := nI (4 * F)) (v3 := nI (k + 1) + 1) (fp := nI (sk tx len (wfin tx len p))) (a := nI (sk tx len (wfin tx len p)) + 0) (we := nI (wfin tx len p)) (fc := nI (F + 1)) (sd := lN (kc tx len p)) (n := n9') (by decide)
        have e1 : nI 1 = 1 := rfl
        rw [e1] at te
        rw [e44, if_neg hne, if_neg (show ¬ (1 : Int32) = 0 by decide), if_neg (show ¬ (1 : Int32) ≤ 0 by decide), te]
        exact ⟨_, _, _, _, _, _, _, _, _, _, _, _, rfl, rfl, hp', Or.inl ⟨1, by omega, by omega, rfl, rfl, rfl⟩⟩
theorem st_frame {len p N L F P : Nat} {tx : Nat → Nat} {t8 t9 kd w0 w1 fm pr pw0 pw1 rk rw' rf rp : Nat → Int32} {st we : Int32} {sd : Int64} (hT : TX len tx t8 t9) (hp : p ≤ len) (hG : TG N L F P kd w0 w1 fm pr pw0 pw1 rk rw' rf rp) (hF : F < 8) (hL : 2 ≤ L) : ∃ p' s' fn' fb' fc' fm' r fp' a' sd' we' rf', f_X5_readFrame (nI len) (nI L) t8 (nI p) st 0 (-1) (nI F) fm = some (nI p', s', fn', fb', fc', fm') ∧ f_X9_takeFrame (nI len) (nI L) t9 (-1) (nI p) sd we (nI F) rf = some (r, fp', a', sd', we', nI (F + 1), rf') ∧ p' ≤ len ∧ OUT tx len p p' fn' fb' r fp' a' (fc' = nI (F + 1) ∧ TG N L (F + 1) P kd w0 w1 fm' pr pw0 pw1 rk rw' rf' rp) := by
  obtain ⟨q1, q2, q3, q4, q5, q6⟩ := hG
  have e8 : (8 : Int32) = nI 8 := rfl
  have e4F : 4 * nI F = nI (4 * F) := pk_mul 4 F
  unfold f_X5_readFrame f_X9_takeFrame
  rw [e8, if_pos (nI_lt hF (by decide)), e4F, nI_1]
  obtain ⟨p', s', fn', fb', fc', fm', r, fp', a', sd', we', rf', c1, c2, c3, c4⟩ := fl_J hT q2 hF q5 L 0 (by omega) (by omega) FU FU (FU_lt (by omega)) (FU_lt (by omega)) p (fun _ => 0) st (nI p) we sd rf hp (Or.inl ⟨rfl, rfl⟩) (fun _ => by decide) (fun j hj => by omega) (fun _ _ => rfl)
  have z0 : nI (cs (fun _ => 0) 0) = 0 := rfl
  have z1 : nI (4 ^ 0) = 1 := rfl
  have z2 : nI (0 + 1) = 1 := rfl
  have z3 : nI 0 = 0 := rfl
  rw [z0, z1] at c1
  rw [z3] at c2
  refine ⟨p', s', fn', fb', fc', fm', r, fp', a', sd', we', rf', c1, c2, c3, ?_⟩
  rcases c4 with h | ⟨h1, h2, q, h3, h4, h5, h6 | ⟨h6, h7, h8, h9, h10, h11⟩⟩
  · exact Or.inl h
  · exact Or.inr ⟨h1, h2, q, h3, h4, h5, Or.inl h6⟩
  · exact Or.inr ⟨h1, h2, q, h3, h4, h5, Or.inr ⟨h6, h7, h8, h9, h10, q1, q2, q3, q4, h11, q6⟩⟩
/-- full rows: the class fails with 3 and goes on to the clause's end -/
theorem st_word_full {len p s : Nat} {tx : Nat → Nat} {t8 t9 kd w0 w1 : Nat → Int32} (hT : TX len tx t8 t9) (hp : p ≤ len) : ∃ p' s', f_X5_readWord (nI len) t8 (nI p) (nI s) 0 (-1) (nI 8) kd w0 w1 = some (nI p', s', 3, nI s, nI 8, kd, w0, w1) ∧ p' ≤ len := by
  have e59 : (59 : Int32) = nI 59 := rfl
  have e3 : (3 : Int32) = nI 3 := rfl
  have b1 := wfin_b (tx := tx) hp
  have b2 := nfin_b (tx := tx) b1.2
  have b3 := nfin_b (tx := tx) b2.2
  have b4 := sfin_b (tx := tx) (c := 59) b3.2 (by decide)
  have hz : ¬ nI 3 = 0 := by decide
  unfold f_X5_readWord
  rw [if_neg (by decide), e3, fail_eq _ _ _ _ (by decide)]
  simp only [bs, fN_0, fB_e (show ¬ 3 = 0 by decide)]
  rw [nk8 hT hp]
  simp only [bs]
  rw [nn8 hT b1.2]
  simp only [bs]
  rw [nn8 hT b2.2]
  simp only [bs]
  rw [e59, ns8 hT b3.2 (by decide)]
  simp only [bs, fN_k hz, fB_k hz]
  rw [if_neg hz]
  exact ⟨_, _, rfl, b4.2⟩
theorem st_frame_full {len p s L : Nat} {tx : Nat → Nat} {t8 t9 fm : Nat → Int32} (hT : TX len tx t8 t9) (hp : p ≤ len) (hL : L ≤ 4) : ∃ p' s', f_X5_readFrame (nI len) (nI L) t8 (nI p) (nI s) 0 (-1) (nI 8) fm = some (nI p', s', 3, nI s, nI 8, fm) ∧ p' ≤ len := by
  have e3 : (3 : Int32) = nI 3 := rfl
  unfold f_X5_readFrame
  rw [if_neg (by decide), e3, fail_eq _ _ _ _ (by decide)]
  simp only [bs, fN_0, fB_e (show ¬ 3 = 0 by decide)]
  have := rf_L (fn := nI 3) (fb := nI s) (fc := nI 8) (fm := fm) hT hL (by decide) FU L (Nat.le_refl _) (FU_lt (by omega)) p 0 1 (nI s) hp
  rw [Nat.sub_self] at this
  exact this
theorem st_pair_full {len p s N : Nat} {tx : Nat → Nat} {t8 t9 pr pw0 pw1 : Nat → Int32} (hT : TX len tx t8 t9) (hp : p ≤ len) : ∃ p' s', f_X5_readPair (nI len) (nI N) t8 (nI p) (nI s) 0 (-1) (nI 12) pr pw0 pw1 = some (nI p', s', 3, nI s, nI 12, pr, pw0, pw1) ∧ p' ≤ len := by
  have e59 : (59 : Int32) = nI 59 := rfl
  have e3 : (3 : Int32) = nI 3 := rfl
  have b1 := nfin_b (tx := tx) hp
  have b2 := nfin_b (tx := tx) b1.2
  have b3 := nfin_b (tx := tx) b2.2
  have b4 := nfin_b (tx := tx) b3.2
  have b5 := sfin_b (tx := tx) (c := 59) b4.2 (by decide)
  have hz : ¬ nI 3 = 0 := by decide
  unfold f_X5_readPair
  rw [if_neg (by decide), e3, fail_eq _ _ _ _ (by decide)]
  simp only [bs, fN_0, fB_e (show ¬ 3 = 0 by decide)]
  rw [nn8 hT hp]
  simp only [bs]
  rw [nn8 hT b1.2]
  simp only [bs, fN_k hz, fB_k hz]
  rw [if_neg hz, nn8 hT b2.2]
  simp only [bs]
  rw [nn8 hT b3.2]
  simp only [bs]
  rw [e59, ns8 hT b4.2 (by decide)]
  simp only [bs, fN_k hz, fB_k hz]
  rw [if_neg hz]
  exact ⟨_, _, rfl, b5.2⟩
