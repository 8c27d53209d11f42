/-! send, log, judge, told -/
/-- the letter under way: a LETTER, or 0 while there is none -/
def LT (Z : Nat) (letter : Int32) : Prop := ∃ lt : Nat, letter = nI lt ∧ (lt < Z ∨ (Z = 0 ∧ lt = 0))
theorem o_send {N L Z ns k : Nat} {sc sense st f8 f9 en who fr to : Nat → Int32} (hC : CT N L Z ns sc sense st) (law way c8 c9 letter turn settled p1 : Int32) (hl : LT Z letter) (ht : turn = 0 ∨ turn = 1) (hG : LG en who fr to) (hK : LK Z k who fr to) : ∃ r letter' turn' k' c8' f8' en' c9' f9' who' fr' to', f_X8_send (nI Z) settled law way (nI L) (nI N) sc 31 ns sense letter turn (nI k) c8 f8 en p1 = some (r, letter', turn', nI k', c8', f8', en') ∧ f_X9_send (nI L) (nI N) (nI Z) law way settled st letter turn (nI k) c9 f9 who fr to p1 = some (r, letter', turn', nI k', c9', f9', who', fr', to') ∧ LT Z letter' ∧ (turn' = 0 ∨ turn' = 1) ∧ LG en' who' fr' to' ∧ LK Z k' who' fr' to' := by
  have hZ := hC.Z_le
  unfold f_X8_send f_X9_send
  rcases pk_ix p1 (n := Z) (by omega) with h2 | h2 | ⟨j, hj, rfl⟩
  · rw [il8_no (Or.inl h2), il9_no (by omega) (Or.inl h2)]
    simp only [bs, c00, if_true]
    exact ⟨_, _, _, _, _, _, _, _, _, _, _, _, rfl, rfl, hl, ht, hG, hK⟩
  · rw [il8_no (Or.inr h2), il9_no (by omega) (Or.inr h2)]
    simp only [bs, c00, if_true]
    exact ⟨_, _, _, _, _, _, _, _, _, _, _, _, rfl, rfl, hl, ht, hG, hK⟩
  · rw [il8_yes (by omega) hj, il9_yes (by omega) hj]
    simp only [bs, c10, if_false]
    rw [fcw]
    obtain ⟨lt, rfl, hlt⟩ := hl
    have hlt : lt < Z := by omega
    obtain ⟨x9, g9, r9, e9, q1, q2⟩ := fp9_eq (law := law) (way := way) (c9 := c9) (f9 := f9) hC hlt hj
    rw [e9]
    simp only [bs]
    by_cases hs : settled = 0
    · simp only [if_pos hs]
      obtain ⟨x8, g8, e8⟩ := ic8_eq (law := law) (way := way) (c8 := c8) (f8 := f8) hC hlt hj
      rw [e8, q1]
      simp only [bs]
      by_cases hm : j ∈ chL N L law (okF st (wy way)) lt
      · rw [if_pos hm, if_neg (by decide), if_pos (q2.mpr hm)]
        have e60 : (60 : Int32) = nI 60 := rfl
        have hk := hK.1
        rw [e60]
        by_cases h : k = 60
        · subst h
          rw [if_neg (by decide), if_pos rfl]
          exact ⟨_, _, _, _, _, _, _, _, _, _, _, _, rfl, rfl, ⟨lt, rfl, Or.inl hlt⟩, ht, hG, hK⟩
        · rw [if_pos (nI_lt (by omega) (by decide)), if_neg (fun e => h (nI_inj (by omega) (by omega) e))]
          obtain ⟨k', en', who', fr', to', p8, p9, hG', hK'⟩ := ps_eq hG hK ht hlt hj
          rw [p8, p9]
          simp only [bs]
          exact ⟨_, _, _, _, _, _, _, _, _, _, _, _, rfl, rfl, ⟨j, rfl, Or.inl hj⟩, turn_ok ht, hG', hK'⟩
      · rw [if_neg hm, if_pos rfl, if_neg (fun q => hm (q2.mp q))]
        exact ⟨_, _, _, _, _, _, _, _, _, _, _, _, rfl, rfl, ⟨lt, rfl, Or.inl hlt⟩, ht, hG, hK⟩
    · simp only [if_neg hs]
      exact ⟨_, _, _, _, _, _, _, _, _, _, _, _, rfl, rfl, ⟨lt, rfl, Or.inl hlt⟩, ht, hG, hK⟩
theorem en_eq {Z k i w : Nat} {en who fr to : Nat → Int32} (hG : LG en who fr to) (hK : LK Z k who fr to) (hi : i < k) (hw : w < 3) : f_X0_entry (nI k) en (nI i) (nI w) = some (if w = 0 then who i else if w = 1 then fr i else to i) := by
  have hk := hK.1
  unfold f_X0_entry
  have e3 : nI i * 3 = nI (3 * i) := by rw [Nat.mul_comm]; exact pk_mul i 3
  have e33 : (3 : Int32) = nI 3 := rfl
  rw [if_neg (nI_pos (by omega)), if_neg (nI_ge hi (by omega)), if_neg (nI_pos (by omega)), e3, nI_add, e33, if_pos (nI_lt hw (by omega)), if_pos (ixb_nI (by omega) (by decide)), nI_clamp (by omega)]
  obtain ⟨a, b, c⟩ := hG i (by omega)
  rcases (show w = 0 ∨ w = 1 ∨ w = 2 by omega) with rfl | rfl | rfl
  · exact congrArg some a
  · exact congrArg some b
  · exact congrArg some c
theorem o_log {Z k : Nat} {en who fr to : Nat → Int32} (hG : LG en who fr to) (hK : LK Z k who fr to) (p1 p2 : Int32) : ∃ r, f_X8_log (nI k) en p1 p2 = some r ∧ f_X9_log (nI k) to fr who p1 p2 = some r := by
  have hk := hK.1
  unfold f_X8_log f_X9_log
  rw [in_lit p2 (y := 2) (by decide), bs]
  by_cases h0 : p2 < 0
  · rw [if_pos h0, if_pos h0, if_pos rfl]
    exact ⟨_, rfl, rfl⟩
  · rw [if_neg h0, if_neg h0]
    by_cases h2 : p2 ≤ 2
    · rw [if_pos h2, if_neg (le_nlt h2), if_neg (by decide)]
      obtain ⟨w, hw, rfl⟩ := nI_of2 (M := 2) (n := 2) (by decide) h0 h2
      rcases pk_ix p1 (n := k) (by omega) with h | h | ⟨j, hj, rfl⟩
      · rw [inZ_no (by omega) (Or.inl h), bs, if_pos rfl]
        unfold f_X0_entry
        rw [if_pos h]
        exact ⟨_, rfl, rfl⟩
      · rw [inZ_no (by omega) (Or.inr h), bs, if_pos rfl]
        unfold f_X0_entry
        rw [if_pos h]
        split
        · exact ⟨_, rfl, rfl⟩
        · exact ⟨_, rfl, rfl⟩
      · rw [inZ_yes (by omega) hj, bs, if_neg (by decide), en_eq hG hK hj (by omega), bs]
        simp only [if_pos (ixb_nI (show j < 60 by omega) (by decide)), nI_clamp (show j < 2 ^ 31 by omega)]
        rcases (show w = 0 ∨ w = 1 ∨ w = 2 by omega) with rfl | rfl | rfl
        · exact ⟨_, rfl, rfl⟩
        · exact ⟨_, rfl, rfl⟩
        · exact ⟨_, rfl, rfl⟩
    · rw [if_neg h2, if_pos (nle_lt h2), if_pos rfl]
      exact ⟨_, rfl, rfl⟩
/-- the book as both hold it -/
def BK (Z k : Nat) (fb fm : Nat → Int32) : Prop := k ≤ 30 ∧ (∀ i, i < k → fb i = fm i) ∧ ∀ i, i < k → ∃ a, a < Z ∧ fm i = nI a
theorem bk_get {Z k i : Nat} {fb fm : Nat → Int32} (h : BK Z k fb fm) (hi : i < k) : f_X6_get (nI k) 30 fb (nI i) = some (fm i) := by
  have hk := h.1
  unfold f_X6_get
  rw [if_neg (nI_pos (by omega)), if_neg (nI_ge hi (by omega)), if_pos (ixb_nI (by omega) (by decide)), nI_clamp (by omega), h.2.1 i hi]
theorem jd_L {N L Z ns k : Nat} {sc sense st fb fm : Nat → Int32} {law way : Int32} (hC : CT N L Z ns sc sense st) (hB : BK Z k fb fm) : ∀ (n i : Nat), 1 ≤ i → i ≤ 40 → k - i < n → ∀ (c8 c9 : Int32) (f8 f9 : Nat → Int32), ∃ r c8' f8' c9' f9', f_X8_judge_L2 (nI k) 30 fb (nI Z) law way (nI L) (nI N) sc 31 ns sense n (nI i) c8 f8 = some (r, c8', f8') ∧ f_X9_judge_L2 (nI L) (nI N) law way (nI k) fm st n (nI i) c9 f9 = some (r, c9', f9') := by
  have hk := hB.1
  intro n
  induction n with
  | zero => intro i _ _ h; omega
  | succ n ih =>
    intro i hi hi4 hn c8 c9 f8 f9
    rw [f_X8_judge_L2.eq_2, f_X9_judge_L2.eq_2]
    by_cases h : k ≤ i
    · rw [if_pos (nI_le h (by omega)), if_pos (nI_le h (by omega))]
      exact ⟨_, _, _, _, _, rfl, rfl⟩
    · obtain ⟨j, rfl⟩ : ∃ j, i = j + 1 := ⟨i - 1, by omega⟩
      rw [if_neg (nI_ge (by omega) (by omega)), if_neg (nI_ge (by omega) (by omega)), nI_pred, bk_get hB (by omega), bs, bk_get hB (by omega), bs, if_pos (ixb_nI (by omega) (by decide))]
      simp only [if_pos (ixb_nI (show j + 1 < 30 by omega) (by decide)), nI_clamp (show j < 2 ^ 31 by omega), nI_clamp (show j + 1 < 2 ^ 31 by omega)]
      rw [fcw]
      obtain ⟨a, ha, ea⟩ := hB.2.2 j (by omega)
      obtain ⟨b, hb, eb⟩ := hB.2.2 (j + 1) (by omega)
      rw [ea, eb]
      obtain ⟨x9, g9, r9, e9, q1, q2⟩ := fp9_eq (law := law) (way := way) (c9 := c9) (f9 := f9) hC ha hb
      obtain ⟨x8, g8, e8⟩ := ic8_eq (law := law) (way := way) (c8 := c8) (f8 := f8) hC ha hb
      rw [e8, e9]
      simp only [bs]
      rw [q1]
      simp only [bs]
      by_cases hm : b ∈ chL N L law (okF st (wy way)) a
      · rw [if_pos hm, if_neg (by decide), if_pos (q2.mpr hm), nI_1]
        exact ih (j + 1 + 1) (by omega) (by omega) (by omega) _ _ _ _
      · rw [if_neg hm, if_pos rfl, if_neg (fun q => hm (q2.mp q))]
        exact ⟨_, _, _, _, _, rfl, rfl⟩
theorem o_judge {N L Z ns k : Nat} {sc sense st fb fm f8 f9 : Nat → Int32} {law way c8 c9 : Int32} (hC : CT N L Z ns sc sense st) (hB : BK Z k fb fm) : ∃ r c8' f8' c9' f9', f_X8_judge (nI k) 30 fb (nI Z) law way (nI L) (nI N) sc 31 ns sense c8 f8 = some (r, c8', f8') ∧ f_X9_judge (nI L) (nI N) law way (nI k) fm st c9 f9 = some (r, c9', f9') := by
  have hk := hB.1
  unfold f_X8_judge f_X9_judge
  exact jd_L hC hB FU 1 (by omega) (by omega) (FU_lt (by omega)) c8 c9 f8 f9
theorem ite_some {α : Type} {c : Prop} [Decidable c] {a b : Option α} (ha : ∃ r, a = some r) (hb : ∃ r, b = some r) : ∃ r, (if c then a else b) = some r := by
  split
  · exact ha
  · exact hb
theorem o_told (a0 a1 a2 a3 a4 a5 a6 a7 a8 a9 a10 a11 a12 a13 p : Int32) : ∃ r, f_X8_told a11 a0 a1 a2 a3 a4 a7 a8 a9 a10 a5 a6 a12 a13 p = some r ∧ f_X9_told a0 a1 a2 a3 a13 a5 a6 a7 a8 a9 a10 a4 a11 a12 p = some r := by
  have h : ∃ r, f_X8_told a11 a0 a1 a2 a3 a4 a7 a8 a9 a10 a5 a6 a12 a13 p = some r := by
    unfold f_X8_told
    repeat' first | apply ite_some | exact ⟨_, rfl⟩
  obtain ⟨r, e⟩ := h
  exact ⟨r, e, e⟩
