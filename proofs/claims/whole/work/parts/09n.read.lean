/-! the text read to its end or to the first fault: read of the class, the loop of tongue of the reference -/
theorem hd_all {len p : Nat} {tx : Nat → Nat} {t8 t9 rk rw' rf rp : Nat → Int32} {st we num na l0 : Int32} {sd : Int64} (hT : TX len tx t8 t9) (hp : p ≤ len) : ∃ p' s' fn' fb' L8 r fp' a' sd' we' num' na' L9, f_X5_readHead (nI len) t8 (nI p) st 0 (-1) l0 = some (nI p', s', fn', fb', L8) ∧ f_X9_takeClause (nI len) t9 (-1) (nI p) sd we num na 0 0 0 0 rp rf rk rw' = some (r, fp', a', sd', we', num', na', L9, 0, 0, 0, rp, rf, rk, rw') ∧ p' ≤ len ∧ ((∃ e, 1 ≤ e ∧ e ≤ 4 ∧ r = nI e ∧ fn' = nI e ∧ fb' = fp') ∨ (r = 0 ∧ fn' = 0 ∧ fb' = -1 ∧ fp' = -1 ∧ a' = nI p' ∧ p < p' ∧ ∃ L, 2 ≤ L ∧ L ≤ 4 ∧ L8 = nI L ∧ L9 = nI L)) := by
  have hlen := hT.1
  have b0 := sk_b (tx := tx) hp
  have b1 := wfin_b (tx := tx) hp
  have b2 := nfin_b (tx := tx) b1.2
  have b3 := sfin_b (tx := tx) (c := 59) b2.2 (by decide)
  have hK := kc_lt (tx := tx) hp
  have e1 : (1 : Int32) = nI 1 := rfl
  have e59 : (59 : Int32) = nI 59 := rfl
  unfold f_X5_readHead f_X9_takeClause
  rw [nw8 hT hp, rw9 hT hp]
  simp only [bs]
  rw [sp_letter hT b0.2, cod_lett]
  simp only [bs, cod_lette, cod_letter, cod_word, cod_fram, cod_frame, cod_pair]
  have ek : sdn tx (sk tx len p) (wend tx len (sk tx len p) - sk tx len p) = kc tx len p := rfl
  have ew : wend tx len (sk tx len p) = wfin tx len p := rfl
  rw [ek, ew]
  simp only [lc_eq2 hK (show cd [114, 101, 116, 116, 101, 108] < 2 ^ 60 by decide), lc_eq2 hK (show cd [100, 114, 111, 119] < 2 ^ 60 by decide), lc_eq2 hK (show cd [101, 109, 97, 114, 102] < 2 ^ 60 by decide), lc_eq2 hK (show cd [114, 105, 97, 112] < 2 ^ 60 by decide)]
  by_cases h1 : kc tx len p = cd [114, 101, 116, 116, 101, 108]
  · simp only [h1, if_true, c10, if_false, if_pos (show (0 : Int32) ≤ 0 by decide)]
    obtain ⟨fp1, a1, num1, na1, t1, t2, t3⟩ := tn9 (fp := -1) (num := num) (na := na) (lo := 2) (hi := 4) hT b1.2
    rw [t1, nn8 hT b1.2]
    simp only [bs]
    rw [e59, ns8 hT b2.2 (by decide)]
    simp only [bs, fN_0]
    have l1 := nerr_le tx len (wfin tx len p) 2 4
    by_cases h2 : nerr tx len (wfin tx len p) 2 4 = 0
    · obtain ⟨rfl, rfl, rfl, rfl⟩ := t2 h2
      obtain ⟨v1, v2⟩ := nval_ok h2
      have v3 := nval_lt (tx := tx) b1.2
      have e2 : (2 : Int32) = nI 2 := rfl
      have e4 : (4 : Int32) = nI 4 := rfl
      have v1 : nval tx len (wfin tx len p) ≤ 4 := by
        rcases Nat.lt_or_ge 4 (nval tx len (wfin tx len p)) with q | q
        · rw [e4] at v1; exact absurd v1 (nI_ge q (by omega))
        · exact q
      have v2 : 2 ≤ nval tx len (wfin tx len p) := by
        rcases Nat.lt_or_ge (nval tx len (wfin tx len p)) 2 with q | q
        · rw [e2] at v2; exact absurd (nI_lt q (by omega)) v2
        · exact q
      rw [h2]
      simp only [if_pos (show nI 0 = 0 from rfl)]
      rw [he9 hT b2.2]
      simp only [bs]
      by_cases h3 : serr tx len (nfin tx len (wfin tx len p)) 59 = 0
      · obtain ⟨s1, s2⟩ := serr0 h3
        have b4 := sk_b (tx := tx) b2.2
        rw [if_pos s1, h3, fB_z, fB_z, fN_z, nI_1, ← s2]
        exact ⟨_, _, _, _, _, _, _, _, _, _, _, _, _, rfl, rfl, b3.2, Or.inr ⟨rfl, rfl, rfl, rfl, rfl, by omega, _, v2, v1, rfl, rfl⟩⟩
      · have l2 := serr_le tx len (nfin tx len (wfin tx len p)) 59
        have h4 : serr tx len (nfin tx len (wfin tx len p)) 59 = 1 := by omega
        have z0 : nI 0 = 0 := rfl
        rw [if_neg (serr1 h3), fB_z, z0, fB_e h3, fN_0, h4]
        unfold f_X9_fails
        simp only [bs]
        exact ⟨_, _, _, _, _, _, _, _, _, _, _, _, _, rfl, rfl, b3.2, Or.inl ⟨1, by omega, by omega, rfl, rfl, rfl⟩⟩
    · have t3 := t3 h2
      subst t3
      have hz := nIp h2 (by omega)
      rw [if_neg hz, fN_k hz, fB_k hz, fB_e h2]
      exact ⟨_, _, _, _, _, _, _, _, _, _, _, _, _, rfl, rfl, b3.2, Or.inl ⟨_, by omega, by omega, rfl, rfl, rfl⟩⟩
  · have hz : ¬ nI 1 = 0 := by decide
    simp only [h1, if_false, c00, if_true]
    rw [e1, fail_eq _ _ _ _ (by decide)]
    unfold f_X9_fails
    simp only [bs, fN_0, fB_e (show ¬ 1 = 0 by decide)]
    rw [nn8 hT b1.2]
    simp only [bs]
    rw [e59, ns8 hT b2.2 (by decide)]
    simp only [bs, fN_k hz, fB_k hz]
    by_cases h2 : kc tx len p = cd [100, 114, 111, 119]
    · simp only [h2, if_true]
      exact ⟨_, _, _, _, _, _, _, _, _, _, _, _, _, rfl, rfl, b3.2, Or.inl ⟨1, by omega, by omega, rfl, rfl, rfl⟩⟩
    simp only [h2, if_false]
    by_cases h3 : kc tx len p = cd [101, 109, 97, 114, 102]
    · simp only [h3, if_true]
      exact ⟨_, _, _, _, _, _, _, _, _, _, _, _, _, rfl, rfl, b3.2, Or.inl ⟨1, by omega, by omega, rfl, rfl, rfl⟩⟩
    simp only [h3, if_false]
    by_cases h4 : kc tx len p = cd [114, 105, 97, 112]
    · simp only [h4, if_true]
      exact ⟨_, _, _, _, _, _, _, _, _, _, _, _, _, rfl, rfl, b3.2, Or.inl ⟨1, by omega, by omega, rfl, rfl, rfl⟩⟩
    simp only [h4, if_false]
    exact ⟨_, _, _, _, _, _, _, _, _, _, _, _, _, rfl, rfl, b3.2, Or.inl ⟨1, by omega, by omega, rfl, rfl, rfl⟩⟩
theorem hr_more {tx : Nat → Nat} {t8 t9 : Nat → Int32} {len p : Nat} (hT : TX len tx t8 t9) : (hr tx len p < 0) ↔ ¬ p < len := by
  unfold hr
  by_cases h : len ≤ p
  · rw [if_pos h]
    exact ⟨fun _ => by omega, fun _ => by decide⟩
  · rw [if_neg h]
    have := (hT.2 p (by omega)).1
    exact ⟨fun q => absurd q (nI_pos (by omega)), fun q => absurd (show p < len by omega) q⟩
/-- how it ends: with the same fault, or the tongue as both hold it -/
def RD (L : Nat) (r fn fb fp N8 F8 P8 N9 F9 P9 : Int32) (kd w0 w1 fm pr pw0 pw1 rk rw' rf rp : Nat → Int32) : Prop := (∃ e, 1 ≤ e ∧ e ≤ 4 ∧ r = nI e ∧ fn = nI e ∧ fb = fp) ∨ (r = 0 ∧ fn = 0 ∧ fb = -1 ∧ fp = -1 ∧ ∃ N F P, N8 = nI N ∧ F8 = nI F ∧ P8 = nI P ∧ N9 = nI N ∧ F9 = nI F ∧ P9 = nI P ∧ TG N L F P kd w0 w1 fm pr pw0 pw1 rk rw' rf rp)
theorem rd_end {t9 rp rf rk rw' a b c d x y z w : Nat → Int32} {r v2 v3 v4 v5 v6 v7 v8 v9 v10 v11 v12 fp at0 we num na v18 v19 v20 v21 v22 v23 : Int32} {sd : Int64} {n : Nat} (K0 : Int32 → Int32 → Int32 → Int32 → Int32 → Int32 → Int32 → Int32 → Int32 → Int32 → Int32 → Int32 → Int32 → Int32 → Int64 → Int32 → Int32 → Int32 → Int32 → Int32 → Int32 → Int32 → Int32 → Int32 → (Nat → Int32) → (Nat → Int32) → (Nat → Int32) → (Nat → Int32) → (Nat → Int32) → (Nat → Int32) → (Nat → Int32) → (Nat → Int32) → (Nat → Int32) → (Nat → Int32) → (Nat → Int32) → (Nat → Int32) → Option (Int32 × Int32 × Int32 × Int32 × Int32 × Int32 × Int32 × Int32 × Int32 × Int32 × Int32 × Int32 × Int32 × Int32 × Int64 × Int32 × Int32 × Int32 × Int32 × Int32 × Int32 × Int32 × Int32 × Int32 × (Nat → Int32) × (Nat → Int32) × (Nat → Int32) × (Nat → Int32) × (Nat → Int32) × (Nat → Int32) × (Nat → Int32) × (Nat → Int32) × (Nat → Int32) × (Nat → Int32) × (Nat → Int32) × (Nat → Int32))) (hr : ¬ r = 0) : f_X9_tongue_L32 t9 K0 (n + 1) r v2 v3 v4 v5 v6 v7 v8 v9 v10 v11 v12 fp at0 sd we num na v18 v19 v20 v21 v22 v23 rp rf rk rw' a b c d x y z w = K0 r v2 v3 v4 v5 v6 v7 v8 v9 v10 v11 v12 fp at0 sd we num na v18 v19 v20 v21 v22 v23 rp rf rk rw' a b c d x y z w := by
  rw [f_X9_tongue_L32.eq_2, if_neg hr]
theorem r8_end {t8 fm pr pw0 pw1 kd w0 w1 : Nat → Int32} {k len pl st fn fb L N F P : Int32} {n : Nat} (hfn : ¬ fn = 0) : f_X5_read_L33 t8 (n + 1) k len pl st fn fb L N F P fm pr pw0 pw1 kd w0 w1 = some (fn, 0, pl, st, fn, fb, L, N, F, P, fm, pr, pw0, pw1, kd, w0, w1) := by
  rw [f_X5_read_L33.eq_2]
  split
  · rfl
  · first | rfl | rw [if_neg hfn]
theorem rd_L {len L : Nat} {tx : Nat → Nat} {t8 t9 a b c d x y z w : Nat → Int32} {v2 v3 v4 v5 v6 v7 v8 v9 v10 v11 v22 v23 : Int32} (hT : TX len tx t8 t9) (hL : 2 ≤ L) (K0 : Int32 → Int32 → Int32 → Int32 → Int32 → Int32 → Int32 → Int32 → Int32 → Int32 → Int32 → Int32 → Int32 → Int32 → Int64 → Int32 → Int32 → Int32 → Int32 → Int32 → Int32 → Int32 → Int32 → Int32 → (Nat → Int32) → (Nat → Int32) → (Nat → Int32) → (Nat → Int32) → (Nat → Int32) → (Nat → Int32) → (Nat → Int32) → (Nat → Int32) → (Nat → Int32) → (Nat → Int32) → (Nat → Int32) → (Nat → Int32) → Option (Int32 × Int32 × Int32 × Int32 × Int32 × Int32 × Int32 × Int32 × Int32 × Int32 × Int32 × Int32 × Int32 × Int32 × Int64 × Int32 × Int32 × Int32 × Int32 × Int32 × Int32 × Int32 × Int32 × Int32 × (Nat → Int32) × (Nat → Int32) × (Nat → Int32) × (Nat → Int32) × (Nat → Int32) × (Nat → Int32) × (Nat → Int32) × (Nat → Int32) × (Nat → Int32) × (Nat → Int32) × (Nat → Int32) × (Nat → Int32))) : ∀ m k p, p ≤ len → len - p < m → k ≤ p → ∀ n8 n9, m < n8 → m < n9 → ∀ (N F P : Nat) (st we num na : Int32) (sd : Int64) (kd w0 w1 fm pr pw0 pw1 rk rw' rf rp : Nat → Int32), TG N L F P kd w0 w1 fm pr pw0 pw1 rk rw' rf rp → ∃ p8 s8 fn' fb' N8 F8 P8 fm' pr' pw0' pw1' kd' w0' w1' r fp' a' sd' we' num' na' N9 F9 P9 rp' rf' rk' rw'', f_X5_read_L33 t8 n8 (nI k) (nI len) (nI p) st 0 (-1) (nI L) (nI N) (nI F) (nI P) fm pr pw0 pw1 kd w0 w1 = some (fn', 0, p8, s8, fn', fb', nI L, N8, F8, P8, fm', pr', pw0', pw1', kd', w0', w1') ∧ f_X9_tongue_L32 t9 K0 n9 0 v2 v3 v4 v5 v6 v7 v8 v9 v10 v11 (nI len) (-1) (nI p) sd we num na (nI L) (nI N) (nI F) (nI P) v22 v23 rp rf rk rw' a b c d x y z w = K0 r v2 v3 v4 v5 v6 v7 v8 v9 v10 v11 (nI len) fp' a' sd' we' num' na' (nI L) N9 F9 P9 v22 v23 rp' rf' rk' rw'' a b c d x y z w ∧ RD L r fn' fb' fp' N8 F8 P8 N9 F9 P9 kd' w0' w1' fm' pr' pw0' pw1' rk' rw'' rf' rp' := by
  have hlen := hT.1
  intro m
  induction m with
  | zero => intro k p _ h; omega
  | succ m ih =>
    intro k p hp hm hk n8 n9 h8 h9 N F P st we num na sd kd w0 w1 fm pr pw0 pw1 rk rw' rf rp hG
    obtain ⟨n8, rfl⟩ : ∃ q, n8 = q + 1 := ⟨n8 - 1, by omega⟩
    obtain ⟨n9, rfl⟩ : ∃ q, n9 = q + 1 := ⟨n9 - 1, by omega⟩
    have b0 := sk_b (tx := tx) hp
    rw [f_X5_read_L33.eq_2, f_X9_tongue_L32.eq_2, if_pos (rfl : (0 : Int32) = 0), if_pos (rfl : (0 : Int32) = 0), he9 hT hp]
    simp only [bs]
    have e500 : (500 : Int32) = nI 500 := rfl
    rw [e500]
    by_cases hk5 : k = 500
    · have : ¬ sk tx len p < len := by omega
      rw [if_pos (nI_le (by omega) (by omega)), if_pos ((hr_more hT).mpr this)]
      exact ⟨_, _, _, _, _, _, _, _, _, _, _, _, _, _, _, _, _, _, _, _, _, _, _, _, _, _, _, _, rfl, rfl, Or.inr ⟨rfl, rfl, rfl, rfl, N, F, P, rfl, rfl, rfl, rfl, rfl, rfl, hG⟩⟩
    rw [if_neg (nI_ge (by omega) (by omega)), im8 hT hp]
    simp only [bs]
    by_cases hm2 : sk tx len p < len
    · rw [if_pos hm2, if_neg (show ¬ (1 : Int32) = 0 by decide), if_neg (fun q => (hr_more hT).mp q hm2)]
      obtain ⟨p', s', fn', fb', N8, F8, P8, pr', pw0', pw1', fm', kd', w0', w1', r, fp', a', sd', we', num', na', N9, F9, P9, rp', rf', rk', rw'', c1, c2, c3, c4⟩ := st_all (st := st) (we := we) (num := num) (na := na) (sd := sd) hT b0.2 hG hL
      rw [c1, c2]
      simp only [bs]
      obtain ⟨n8, rfl⟩ : ∃ q, n8 = q + 1 := ⟨n8 - 1, by omega⟩
      obtain ⟨n9, rfl⟩ : ∃ q, n9 = q + 1 := ⟨n9 - 1, by omega⟩
      rcases c4 with ⟨e, q1, q2, rfl, rfl, rfl⟩ | ⟨rfl, rfl, rfl, rfl, rfl, q6, N2, F2, P2, rfl, rfl, rfl, rfl, rfl, rfl, q7⟩
      · have hz := nIp (show ¬ e = 0 by omega) q2
        rw [r8_end hz, rd_end K0 hz]
        exact ⟨_, _, _, _, _, _, _, _, _, _, _, _, _, _, _, _, _, _, _, _, _, _, _, _, _, _, _, _, rfl, rfl, Or.inl ⟨e, q1, q2, rfl, rfl, rfl⟩⟩
      · rw [nI_1]
        exact ih (k + 1) p' c3 (by omega) (by omega) (n8 + 1) (n9 + 1) (by omega) (by omega) N2 F2 P2 s' we' num' na' sd' kd' w0' w1' fm' pr' pw0' pw1' rk' rw'' rf' rp' q7
    · rw [if_neg hm2, if_pos (rfl : (0 : Int32) = 0), if_pos ((hr_more hT).mpr hm2)]
      exact ⟨_, _, _, _, _, _, _, _, _, _, _, _, _, _, _, _, _, _, _, _, _, _, _, _, _, _, _, _, rfl, rfl, Or.inr ⟨rfl, rfl, rfl, rfl, N, F, P, rfl, rfl, rfl, rfl, rfl, rfl, hG⟩⟩
