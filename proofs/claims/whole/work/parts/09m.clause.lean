/-! a whole clause: readStatement of the class, takeClause of the reference -/
theorem cod_lett : f_X9_code 108 101 116 116 = some (lN (cd [116, 116, 101, 108])) := by decide
theorem cod_lette : f_X9_longer (lN (cd [116, 116, 101, 108])) 101 = some (lN (cd [101, 116, 116, 101, 108])) := by decide
theorem cod_letter : f_X9_longer (lN (cd [101, 116, 116, 101, 108])) 114 = some (lN (cd [114, 101, 116, 116, 101, 108])) := by decide
theorem cod_word : f_X9_code 119 111 114 100 = some (lN (cd [100, 114, 111, 119])) := by decide
theorem cod_fram : f_X9_code 102 114 97 109 = some (lN (cd [109, 97, 114, 102])) := by decide
theorem cod_frame : f_X9_longer (lN (cd [109, 97, 114, 102])) 101 = some (lN (cd [101, 109, 97, 114, 102])) := by decide
theorem cod_pair : f_X9_code 112 97 105 114 = some (lN (cd [114, 105, 97, 112])) := by decide
/-- what the reference does behind a clause's own words -/
def tcE (len : Int32) (t9 : Nat → Int32) {α : Type} (r fp a : Int32) (x : α) : Option (Int32 × Int32 × Int32 × α) :=
  if r = 0 then
    (f_X9_here len t9 a).bind fun (r_113, z_114) =>
    if r_113 = 59 then some (r, fp, z_114 + 1, x)
    else some (1, z_114, z_114, x)
  else some (r, fp, a + 1, x)
theorem tc_end {len p p' : Nat} {tx : Nat → Nat} {t8 t9 : Nat → Int32} {fn fb r fp a : Int32} {G : Prop} {α : Type} (x : α) (hT : TX len tx t8 t9) (h : OUT tx len p p' fn fb r fp a G) : ∃ r' fp' a', tcE (nI len) t9 r fp a x = some (r', fp', a', x) ∧ ((∃ e, 1 ≤ e ∧ e ≤ 4 ∧ r' = nI e ∧ fn = nI e ∧ fb = fp') ∨ (r' = 0 ∧ fn = 0 ∧ fb = -1 ∧ fp' = -1 ∧ a' = nI p' ∧ p < p' ∧ G)) := by
  unfold tcE
  rcases h with ⟨e, h1, h2, rfl, h3, h4⟩ | ⟨rfl, rfl, q, h1, h2, rfl, ⟨h3, h4, h5⟩ | ⟨h3, h4, h5, h6, h7⟩⟩
  · rw [if_neg (nIp (by omega) h2)]
    exact ⟨_, _, _, rfl, Or.inl ⟨e, h1, h2, rfl, h3, h4⟩⟩
  · have e59 : (59 : Int32) = nI 59 := rfl
    rw [if_pos rfl, he9 hT h2]
    simp only [bs]
    rw [e59, if_neg (serr1 h3)]
    exact ⟨_, _, _, rfl, Or.inl ⟨1, by omega, by omega, rfl, h4, h5⟩⟩
  · have e59 : (59 : Int32) = nI 59 := rfl
    obtain ⟨s1, s2⟩ := serr0 h3
    rw [if_pos rfl, he9 hT h2]
    simp only [bs]
    rw [e59, if_pos s1, nI_1, ← s2, ← h6]
    have b := sk_b (tx := tx) h2
    exact ⟨_, _, _, rfl, Or.inr ⟨rfl, h4, h5, rfl, rfl, by omega, h7⟩⟩
theorem st_all {len p N L F P : Nat} {tx : Nat → Nat} {t8 t9 kd w0 w1 fm pr pw0 pw1 rk rw' rf rp : Nat → Int32} {st we num na : Int32} {sd : Int64} (hT : TX len tx t8 t9) (hp : p ≤ len) (hG : TG N L F P kd w0 w1 fm pr pw0 pw1 rk rw' rf rp) (hL : 2 ≤ L) : ∃ p' s' fn' fb' N8 F8 P8 pr' pw0' pw1' fm' kd' w0' w1' r fp' a' sd' we' num' na' N9 F9 P9 rp' rf' rk' rw'', f_X5_readStatement (nI len) (nI L) t8 (nI p) st 0 (-1) (nI N) (nI F) (nI P) pr pw0 pw1 fm kd w0 w1 = some (nI p', s', fn', fb', N8, F8, P8, pr', pw0', pw1', fm', kd', w0', w1') ∧ f_X9_takeClause (nI len) t9 (-1) (nI p) sd we num na (nI L) (nI N) (nI F) (nI P) rp rf rk rw' = some (r, fp', a', sd', we', num', na', nI L, N9, F9, P9, rp', rf', rk', rw'') ∧ p' ≤ len ∧ ((∃ e, 1 ≤ e ∧ e ≤ 4 ∧ r = nI e ∧ fn' = nI e ∧ fb' = fp') ∨ (r = 0 ∧ fn' = 0 ∧ fb' = -1 ∧ fp' = -1 ∧ a' = nI p' ∧ p < p' ∧ ∃ N2 F2 P2, N8 = nI N2 ∧ F8 = nI F2 ∧ P8 = nI P2 ∧ N9 = nI N2 ∧ F9 = nI F2 ∧ P9 = nI P2 ∧ TG N2 L F2 P2 kd' w0' w1' fm' pr' pw0' pw1' rk' rw'' rf' rp')) := by
  have hlen := hT.1
  have hN8 := hG.1
  have hL4 := hG.2.1
  have hP12 := hG.2.2.2.1
  have hF8 := hG.2.2.2.2.1.1
  have b0 := sk_b (tx := tx) hp
  have b1 := wfin_b (tx := tx) hp
  have hK := kc_lt (tx := tx) hp
  have e1 : (1 : Int32) = nI 1 := rfl
  have e3 : (3 : Int32) = nI 3 := rfl
  have e8 : (8 : Int32) = nI 8 := rfl
  have e12 : (12 : Int32) = nI 12 := rfl
  unfold f_X5_readStatement f_X9_takeClause
  rw [nw8 hT hp, rw9 hT hp]
  simp only [bs]
  rw [sp_word hT b0.2, sp_frame hT b0.2, sp_pair hT b0.2, sp_letter hT b0.2, cod_lett]
  simp only [bs, cod_lette, cod_letter, cod_word, cod_fram, cod_frame, cod_pair]
  have ek : sdn tx (sk tx len p) (wend tx len (sk tx len p) - sk tx len p) = kc tx len p := rfl
  have ew : wend tx len (sk tx len p) = wfin tx len p := rfl
  rw [ek, ew]
  simp only [lc_eq2 hK (show cd [114, 101, 116, 116, 101, 108] < 2 ^ 60 by decide), lc_eq2 hK (show cd [100, 114, 111, 119] < 2 ^ 60 by decide), lc_eq2 hK (show cd [101, 109, 97, 114, 102] < 2 ^ 60 by decide), lc_eq2 hK (show cd [114, 105, 97, 112] < 2 ^ 60 by decide)]
  have hLn : ¬ nI L ≤ 0 := nI_nle (by omega) (by omega)
  have hLz : ¬ nI L = 0 := nI_ne0 (by omega) (by omega)
  by_cases h1 : kc tx len p = cd [114, 101, 116, 116, 101, 108]
  · rw [h1]
    simp only [if_neg (show ¬ cd [114, 101, 116, 116, 101, 108] = cd [100, 114, 111, 119] by decide), if_neg (show ¬ cd [114, 101, 116, 116, 101, 108] = cd [101, 109, 97, 114, 102] by decide), if_neg (show ¬ cd [114, 101, 116, 116, 101, 108] = cd [114, 105, 97, 112] by decide), if_true, c00, c10, if_false, hLn]
    rw [e3, fail_eq _ _ _ _ (by decide)]
    unfold f_X9_fails
    simp only [bs, fN_0, fB_e (show ¬ 3 = 0 by decide)]
    exact ⟨_, _, _, _, _, _, _, _, _, _, _, _, _, _, _, _, _, _, _, _, _, _, _, _, _, _, _, _, rfl, rfl, b1.2, Or.inl ⟨3, by omega, by omega, rfl, rfl, rfl⟩⟩
  simp only [h1, if_false, hLz]
  by_cases h2 : kc tx len p = cd [100, 114, 111, 119]
  · simp only [h2, if_true, c10, if_false]
    by_cases hN : N = 8
    · subst hN
      obtain ⟨p', s', er, hp'⟩ := st_word_full (s := sk tx len p) (kd := kd) (w0 := w0) (w1 := w1) hT b1.2
      rw [er, e8, if_pos rfl]
      unfold f_X9_fails
      simp only [bs]
      exact ⟨_, _, _, _, _, _, _, _, _, _, _, _, _, _, _, _, _, _, _, _, _, _, _, _, _, _, _, _, rfl, rfl, hp', Or.inl ⟨3, by omega, by omega, rfl, rfl, rfl⟩⟩
    · obtain ⟨p', s', fn', fb', N', kd', w0', w1', r, fp', a', sd', we', num', na', rk', rw'', c1, c2, c3, c4⟩ := st_word (st := nI (sk tx len p)) (we := nI (wfin tx len p)) (num := num) (na := na) (sd := lN (cd [100, 114, 111, 119])) hT b1.2 hG (by omega) hL
      rw [c1, e8, if_neg (fun e => hN (nI_inj (by omega) (by omega) e)), c2]
      simp only [bs]
      obtain ⟨r', fp2, a2, d1, d2⟩ := tc_end (sd', we', num', na', nI L, nI (N + 1), nI F, nI P, rp, rf, rk', rw'') hT c4
      unfold tcE at d1
      refine ⟨_, _, _, _, _, _, _, _, _, _, _, _, _, _, _, _, _, _, _, _, _, _, _, _, _, _, _, _, rfl, d1, c3, ?_⟩
      rcases d2 with d2 | ⟨d2, d3, d4, d5, d6, d7, rfl, d9⟩
      · exact Or.inl d2
      · exact Or.inr ⟨d2, d3, d4, d5, d6, by omega, N + 1, F, P, rfl, rfl, rfl, rfl, rfl, rfl, d9⟩
  simp only [h2, if_false]
  by_cases h3 : kc tx len p = cd [101, 109, 97, 114, 102]
  · simp only [h3, if_true, c00, c10, if_false]
    by_cases hN : F = 8
    · subst hN
      obtain ⟨p', s', er, hp'⟩ := st_frame_full (s := sk tx len p) (L := L) (fm := fm) hT b1.2 hL4
      rw [er, e8, if_pos rfl]
      unfold f_X9_fails
      simp only [bs]
      exact ⟨_, _, _, _, _, _, _, _, _, _, _, _, _, _, _, _, _, _, _, _, _, _, _, _, _, _, _, _, rfl, rfl, hp', Or.inl ⟨3, by omega, by omega, rfl, rfl, rfl⟩⟩
    · obtain ⟨p', s', fn', fb', fc', fm', r, fp', a', sd', we', rf', c1, c2, c3, c4⟩ := st_frame (st := nI (sk tx len p)) (we := nI (wfin tx len p)) (sd := lN (cd [101, 109, 97, 114, 102])) hT b1.2 hG (by omega) hL
      rw [c1, e8, if_neg (fun e => hN (nI_inj (by omega) (by omega) e)), c2]
      simp only [bs]
      obtain ⟨r', fp2, a2, d1, d2⟩ := tc_end (sd', we', num, na, nI L, nI N, nI (F + 1), nI P, rp, rf', rk, rw') hT c4
      unfold tcE at d1
      refine ⟨_, _, _, _, _, _, _, _, _, _, _, _, _, _, _, _, _, _, _, _, _, _, _, _, _, _, _, _, rfl, d1, c3, ?_⟩
      rcases d2 with d2 | ⟨d2, d3, d4, d5, d6, d7, rfl, d9⟩
      · exact Or.inl d2
      · exact Or.inr ⟨d2, d3, d4, d5, d6, by omega, N, F + 1, P, rfl, rfl, rfl, rfl, rfl, rfl, d9⟩
  simp only [h3, if_false]
  by_cases h4 : kc tx len p = cd [114, 105, 97, 112]
  · simp only [h4, if_true, c00, c10, if_false]
    by_cases hN : P = 12
    · subst hN
      obtain ⟨p', s', er, hp'⟩ := st_pair_full (s := sk tx len p) (N := N) (pr := pr) (pw0 := pw0) (pw1 := pw1) hT b1.2
      rw [er, e12, if_pos rfl]
      unfold f_X9_fails
      simp only [bs]
      exact ⟨_, _, _, _, _, _, _, _, _, _, _, _, _, _, _, _, _, _, _, _, _, _, _, _, _, _, _, _, rfl, rfl, hp', Or.inl ⟨3, by omega, by omega, rfl, rfl, rfl⟩⟩
    · obtain ⟨p', s', fn', fb', P', pr', pw0', pw1', r, fp', a', num', na', P9, rp', c1, c2, c3, c4⟩ := st_pair (st := nI (sk tx len p)) (num := num) (na := na) hT b1.2 hG (by omega)
      rw [c1, e12, if_neg (fun e => hN (nI_inj (by omega) (by omega) e)), c2]
      simp only [bs]
      obtain ⟨r', fp2, a2, d1, d2⟩ := tc_end (lN (cd [114, 105, 97, 112]), nI (wfin tx len p), num', na', nI L, nI N, nI F, P9, rp', rf, rk, rw') hT c4
      unfold tcE at d1
      refine ⟨_, _, _, _, _, _, _, _, _, _, _, _, _, _, _, _, _, _, _, _, _, _, _, _, _, _, _, _, rfl, d1, c3, ?_⟩
      rcases d2 with d2 | ⟨d2, d3, d4, d5, d6, d7, rfl, rfl, d9⟩
      · exact Or.inl d2
      · exact Or.inr ⟨d2, d3, d4, d5, d6, by omega, N, F, P + 1, rfl, rfl, rfl, rfl, rfl, rfl, d9⟩
  simp only [h4, if_false, c00, if_true, h1]
  rw [e1, fail_eq _ _ _ _ (by decide)]
  unfold f_X9_fails
  simp only [bs, fN_0, fB_e (show ¬ 1 = 0 by decide)]
  exact ⟨_, _, _, _, _, _, _, _, _, _, _, _, _, _, _, _, _, _, _, _, _, _, _, _, _, _, _, _, rfl, rfl, b1.2, Or.inl ⟨1, by omega, by omega, rfl, rfl, rfl⟩⟩
