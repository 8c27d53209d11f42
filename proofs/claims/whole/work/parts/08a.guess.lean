/-! guesses: guess, mean -/
theorem fl_L {nn : Nat} {v : Int32} (hn : nn < 2 ^ 31) : ∀ n m, m ≤ nn → m < n → ∀ f : Nat → Int32, (∀ j, j < nn - m → f j = v) → ∃ f', f_J7_fill_53178_L5 nn n v (nI (nn - m)) (nI nn) f = some f' ∧ (∀ j, j < nn → f' j = v) := by
  intro n
  induction n with
  | zero => intro m _ h; omega
  | succ n ih =>
    intro m hm hn2 f hf
    rw [f_J7_fill_53178_L5.eq_2]
    cases m with
    | zero =>
      rw [if_pos (nI_le (by omega) (by omega))]
      exact ⟨f, rfl, fun j hj => hf j (by omega)⟩
    | succ m =>
      have hx : nn - (m + 1) + 1 = nn - m := by omega
      rw [if_neg (nI_ge (by omega) (by omega)), if_pos (ixb_nI (by omega) hn), nI_clamp (by omega), nI_1, hx]
      refine ih m (by omega) (by omega) _ (fun j hj => ?_)
      by_cases e : j = nn - (m + 1)
      · subst e; rw [pk_us]
      · rw [pk_un e]; exact hf j (by omega)
theorem fl_eq {nn : Nat} {v : Int32} {f : Nat → Int32} (hn : nn < 10000) : ∃ f', f_J7_fill_53178 nn f v = some f' ∧ ∀ j, j < nn → f' j = v := by
  unfold f_J7_fill_53178
  have h := fl_L (nn := nn) (v := v) (by omega) FU nn (Nat.le_refl _) (FU_lt hn) f (fun j hj => by omega)
  rw [Nat.sub_self] at h
  exact h
def s6 {α : Type} (a0 a1 a2 a3 a4 a5 : α) : Nat → α
  | 0 => a0
  | 1 => a1
  | 2 => a2
  | 3 => a3
  | 4 => a4
  | _ => a5
/-- the guesses as both hold them -/
def GS (k : Nat) (h0 h1 h2 h3 h4 h5 : Int32) (g0 g1 g2 g3 g4 g5 mh mw : Nat → Int32) : Prop := k ≤ 6 ∧ ∀ i, i < k → (s6 h0 h1 h2 h3 h4 h5 i = mh i ∧ (mh i = 0 ∨ mh i = 1)) ∧ ∀ w, w < 8 → s6 g0 g1 g2 g3 g4 g5 i w = mw (8 * i + w)
theorem gs9_L {k : Nat} (hk : k < 6) (mh : Nat → Int32) : ∀ n m, m ≤ 8 → m < n → ∀ mw : Nat → Int32, (∀ w, w < 8 - m → mw (8 * k + w) = 0) → ∃ mw', f_X9_guess_L35 n (nI (8 - m)) (nI k) mh mw = some (nI k, nI (k + 1), mh, mw') ∧ (∀ w, w < 8 → mw' (8 * k + w) = 0) ∧ ∀ j, j < 8 * k → mw' j = mw j := by
  intro n
  induction n with
  | zero => intro m _ h; omega
  | succ n ih =>
    intro m hm hn mw hw
    rw [f_X9_guess_L35.eq_2]
    have e8 : (8 : Int32) = nI 8 := rfl
    cases m with
    | zero =>
      rw [e8, if_pos (nI_le (by omega) (by omega)), nI_1, nI_pred]
      exact ⟨mw, rfl, fun w h => hw w (by omega), fun j _ => rfl⟩
    | succ m =>
      have hx : 8 - (m + 1) + 1 = 8 - m := by omega
      rw [e8, if_neg (nI_ge (by omega) (by omega)), pk_mul, nI_add, if_pos (ixb_nI (by omega) (by decide)), nI_clamp (by omega), nI_1, hx]
      obtain ⟨mw', a, b, c⟩ := ih m (by omega) (by omega) (upd mw (8 * k + (8 - (m + 1))) 0) (fun w h => by
        by_cases e : w = 8 - (m + 1)
        · subst e; rw [pk_us]
        · rw [pk_un (by omega)]; exact hw w (by omega))
      refine ⟨mw', a, b, fun j hj => ?_⟩
      rw [c j hj, pk_un (by omega)]
theorem rs2_eq {h p : Int32} {f : Nat → Int32} : ∃ f', f_X2_restart h f p = some (p, f') ∧ ∀ w, w < 8 → f' w = 0 := by
  obtain ⟨f', e, a⟩ := fl_eq (nn := 8) (v := 0) (f := f) (by decide)
  refine ⟨f', ?_, a⟩
  unfold f_X2_restart
  rw [e]
  rfl
theorem o_guess {k : Nat} {h0 h1 h2 h3 h4 h5 : Int32} {g0 g1 g2 g3 g4 g5 mh mw : Nat → Int32} (hG : GS k h0 h1 h2 h3 h4 h5 g0 g1 g2 g3 g4 g5 mh mw) (p : Int32) : ∃ r k' h0' h1' h2' h3' h4' h5' g0' g1' g2' g3' g4' g5' mh' mw', f_X8_guess (nI k) h0 h1 h2 h3 h4 h5 g0 g1 g2 g3 g4 g5 p = some (r, nI k', h0', h1', h2', h3', h4', h5', g0', g1', g2', g3', g4', g5') ∧ f_X9_guess (nI k) mh mw p = some (r, nI k', mh', mw') ∧ GS k' h0' h1' h2' h3' h4' h5' g0' g1' g2' g3' g4' g5' mh' mw' := by
  unfold f_X8_guess f_X9_guess
  rcases ih_cases p with h | h
  · rw [ih8_yes h, ih9_yes h]
    simp only [bs, c10, if_false]
    obtain ⟨hk, hg⟩ := id hG
    have e6 : (6 : Int32) = nI 6 := rfl
    by_cases hk6 : k = 6
    · subst hk6
      rw [if_neg (by decide), e6, if_pos rfl]
      exact ⟨_, 6, _, _, _, _, _, _, _, _, _, _, _, _, _, _, rfl, rfl, hG⟩
    · rw [e6, if_pos (nI_lt (by omega) (by decide)), if_neg (fun e => hk6 (nI_inj (by omega) (by omega) e)), if_pos (ixb_nI (by omega) (by decide)), nI_clamp (by omega)]
      obtain ⟨mw', a, b, c⟩ := gs9_L (show k < 6 by omega) (upd mh k p) FU 8 (Nat.le_refl _) (FU_lt (by omega)) mw (fun w h => by omega)
      have e0 : nI (8 - 8) = 0 := rfl
      rw [e0] at a
      rw [a]
      rcases (show k = 0 ∨ k = 1 ∨ k = 2 ∨ k = 3 ∨ k = 4 ∨ k = 5 by omega) with rfl | rfl | rfl | rfl | rfl | rfl
      · obtain ⟨f', e, z⟩ := rs2_eq (h := h0) (p := p) (f := g0)
        rw [if_pos (by decide), e]
        simp only [bs]
        refine ⟨_, 1, _, _, _, _, _, _, _, _, _, _, _, _, _, _, rfl, rfl, by omega, fun j hj => ?_⟩
        by_cases ej : j = 0
        · subst ej
          rw [pk_us]
          exact ⟨⟨rfl, h⟩, fun w hw => by rw [b w hw]; exact z w hw⟩
        · obtain ⟨⟨x, y⟩, q⟩ := hg j (by omega)
          rw [pk_un ej]
          rcases (show j = 0 by omega) with rfl
          · omega
      · obtain ⟨f', e, z⟩ := rs2_eq (h := h1) (p := p) (f := g1)
        rw [if_neg (by decide), if_pos (by decide), e]
        simp only [bs]
        refine ⟨_, 2, _, _, _, _, _, _, _, _, _, _, _, _, _, _, rfl, rfl, by omega, fun j hj => ?_⟩
        by_cases ej : j = 1
        · subst ej
          rw [pk_us]
          exact ⟨⟨rfl, h⟩, fun w hw => by rw [b w hw]; exact z w hw⟩
        · obtain ⟨⟨x, y⟩, q⟩ := hg j (by omega)
          rw [pk_un ej]
          rcases (show j = 0 by omega) with rfl
          · exact ⟨⟨x, y⟩, fun w hw => by rw [c _ (by omega)]; exact q w hw⟩
      · obtain ⟨f', e, z⟩ := rs2_eq (h := h2) (p := p) (f := g2)
        rw [if_neg (by decide), if_neg (by decide), if_pos (by decide), e]
        simp only [bs]
        refine ⟨_, 3, _, _, _, _, _, _, _, _, _, _, _, _, _, _, rfl, rfl, by omega, fun j hj => ?_⟩
        by_cases ej : j = 2
        · subst ej
          rw [pk_us]
          exact ⟨⟨rfl, h⟩, fun w hw => by rw [b w hw]; exact z w hw⟩
        · obtain ⟨⟨x, y⟩, q⟩ := hg j (by omega)
          rw [pk_un ej]
          rcases (show j = 0 ∨ j = 1 by omega) with rfl | rfl
          · exact ⟨⟨x, y⟩, fun w hw => by rw [c _ (by omega)]; exact q w hw⟩
          · exact ⟨⟨x, y⟩, fun w hw => by rw [c _ (by omega)]; exact q w hw⟩
      · obtain ⟨f', e, z⟩ := rs2_eq (h := h3) (p := p) (f := g3)
        rw [if_neg (by decide), if_neg (by decide), if_neg (by decide), if_pos (by decide), e]
        simp only [bs]
        refine ⟨_, 4, _, _, _, _, _, _, _, _, _, _, _, _, _, _, rfl, rfl, by omega, fun j hj => ?_⟩
        by_cases ej : j = 3
        · subst ej
          rw [pk_us]
          exact ⟨⟨rfl, h⟩, fun w hw => by rw [b w hw]; exact z w hw⟩
        · obtain ⟨⟨x, y⟩, q⟩ := hg j (by omega)
          rw [pk_un ej]
          rcases (show j = 0 ∨ j = 1 ∨ j = 2 by omega) with rfl | rfl | rfl
          · exact ⟨⟨x, y⟩, fun w hw => by rw [c _ (by omega)]; exact q w hw⟩
          · exact ⟨⟨x, y⟩, fun w hw => by rw [c _ (by omega)]; exact q w hw⟩
          · exact ⟨⟨x, y⟩, fun w hw => by rw [c _ (by omega)]; exact q w hw⟩
      · obtain ⟨f', e, z⟩ := rs2_eq (h := h4) (p := p) (f := g4)
        rw [if_neg (by decide), if_neg (by decide), if_neg (by decide), if_neg (by decide), if_pos (by decide), e]
        simp only [bs]
        refine ⟨_, 5, _, _, _, _, _, _, _, _, _, _, _, _, _, _, rfl, rfl, by omega, fun j hj => ?_⟩
        by_cases ej : j = 4
        · subst ej
          rw [pk_us]
          exact ⟨⟨rfl, h⟩, fun w hw => by rw [b w hw]; exact z w hw⟩
        · obtain ⟨⟨x, y⟩, q⟩ := hg j (by omega)
          rw [pk_un ej]
          rcases (show j = 0 ∨ j = 1 ∨ j = 2 ∨ j = 3 by omega) with rfl | rfl | rfl | rfl
          · exact ⟨⟨x, y⟩, fun w hw => by rw [c _ (by omega)]; exact q w hw⟩
          · exact ⟨⟨x, y⟩, fun w hw => by rw [c _ (by omega)]; exact q w hw⟩
          · exact ⟨⟨x, y⟩, fun w hw => by rw [c _ (by omega)]; exact q w hw⟩
          · exact ⟨⟨x, y⟩, fun w hw => by rw [c _ (by omega)]; exact q w hw⟩
      · obtain ⟨f', e, z⟩ := rs2_eq (h := h5) (p := p) (f := g5)
        rw [if_neg (by decide), if_neg (by decide), if_neg (by decide), if_neg (by decide), if_neg (by decide), if_pos (by decide), e]
        simp only [bs]
        refine ⟨_, 6, _, _, _, _, _, _, _, _, _, _, _, _, _, _, rfl, rfl, by omega, fun j hj => ?_⟩
        by_cases ej : j = 5
        · subst ej
          rw [pk_us]
          exact ⟨⟨rfl, h⟩, fun w hw => by rw [b w hw]; exact z w hw⟩
        · obtain ⟨⟨x, y⟩, q⟩ := hg j (by omega)
          rw [pk_un ej]
          rcases (show j = 0 ∨ j = 1 ∨ j = 2 ∨ j = 3 ∨ j = 4 by omega) with rfl | rfl | rfl | rfl | rfl
          · exact ⟨⟨x, y⟩, fun w hw => by rw [c _ (by omega)]; exact q w hw⟩
          · exact ⟨⟨x, y⟩, fun w hw => by rw [c _ (by omega)]; exact q w hw⟩
          · exact ⟨⟨x, y⟩, fun w hw => by rw [c _ (by omega)]; exact q w hw⟩
          · exact ⟨⟨x, y⟩, fun w hw => by rw [c _ (by omega)]; exact q w hw⟩
          · exact ⟨⟨x, y⟩, fun w hw => by rw [c _ (by omega)]; exact q w hw⟩
  · rw [ih8_no h, ih9_no h]
    simp only [bs, c00, if_true]
    exact ⟨_, _, _, _, _, _, _, _, _, _, _, _, _, _, _, _, rfl, rfl, hG⟩
theorem in64 (x y z : Int32) : f_X9_in x.toInt64 y.toInt64 z.toInt64 = some (if x < y then 0 else if z < x then 0 else 1) := by
  unfold f_X9_in
  by_cases h : x < y
  · rw [if_pos ((lg_cmp_lt _ _).mpr ((w64_lt _ _).mpr h)), if_pos h]
  · rw [if_neg (fun e => h ((w64_lt _ _).mp ((lg_cmp_lt _ _).mp e))), if_neg h]
    by_cases h2 : z < x
    · rw [if_pos ((lg_cmp_gt _ _).mpr ((w64_lt _ _).mpr h2)), if_pos h2]
    · rw [if_neg (fun e => h2 ((w64_lt _ _).mp ((lg_cmp_gt _ _).mp e))), if_neg h2]
theorem in_lit2 (x : Int32) {y z : Int32} {Y Z : Int64} (h : Y = y.toInt64) (h2 : Z = z.toInt64) : f_X9_in x.toInt64 Y Z = some (if x < y then 0 else if z < x then 0 else 1) := by rw [h, h2]; exact in64 x y z
theorem o_mean {N k : Nat} {h0 h1 h2 h3 h4 h5 : Int32} {g0 g1 g2 g3 g4 g5 mh mw : Nat → Int32} (hN : N ≤ 8) (hG : GS k h0 h1 h2 h3 h4 h5 g0 g1 g2 g3 g4 g5 mh mw) (p1 p2 p3 : Int32) : ∃ r g0' g1' g2' g3' g4' g5' mw', f_X8_mean (nI k) (nI N) g0 g1 g2 g3 g4 g5 p1 p2 p3 = some (r, g0', g1', g2', g3', g4', g5') ∧ f_X9_mean (nI N) (nI k) mw p1 p2 p3 = some (r, mw') ∧ GS k h0 h1 h2 h3 h4 h5 g0' g1' g2' g3' g4' g5' mh mw' := by
  obtain ⟨hk, hg⟩ := id hG
  unfold f_X8_mean f_X9_mean
  rcases pk_ix p1 (n := k) (by omega) with hp | hp | ⟨i, hi, rfl⟩
  · rw [ig8_no (Or.inl hp), inZ_no (by omega) (Or.inl hp)]
    simp only [bs, c00, if_true]
    exact ⟨_, _, _, _, _, _, _, _, rfl, rfl, hG⟩
  · rw [ig8_no (Or.inr hp), inZ_no (by omega) (Or.inr hp)]
    simp only [bs, c00, if_true]
    exact ⟨_, _, _, _, _, _, _, _, rfl, rfl, hG⟩
  rw [ig8_yes (by omega) hi, inZ_yes (by omega) hi]
  simp only [bs, c10, if_false]
  rcases pk_ix p2 (n := N) (by omega) with hp | hp | ⟨w, hw, rfl⟩
  · rw [iw8_no (Or.inl hp), iw9_no (by omega) (Or.inl hp)]
    simp only [bs, c00, if_true]
    exact ⟨_, _, _, _, _, _, _, _, rfl, rfl, hG⟩
  · rw [iw8_no (Or.inr hp), iw9_no (by omega) (Or.inr hp)]
    simp only [bs, c00, if_true]
    exact ⟨_, _, _, _, _, _, _, _, rfl, rfl, hG⟩
  rw [iw8_yes (by omega) hw, iw9_yes (by omega) hw]
  simp only [bs, c10, if_false]
  rw [in_lit2 p3 (y := -50) (z := 49) (by decide) (by decide)]
  simp only [bs]
  by_cases h1 : p3 < -50
  · rw [if_pos h1, if_pos h1, if_pos rfl]
    exact ⟨_, _, _, _, _, _, _, _, rfl, rfl, hG⟩
  by_cases h2 : p3 ≤ 49
  · rw [if_neg h1, if_neg h1, if_pos h2, if_neg (le_nlt h2), if_neg (show ¬ (1 : Int32) = 0 by decide)]
    have e8 : 8 * nI i = nI (8 * i) := pk_mul 8 i
    rw [e8, nI_add]
    simp only [if_pos (ixb_nI (show 8 * i + w < 48 by omega) (by decide)), if_pos (ixb_nI (show w < 8 by omega) (by decide)), nI_clamp (show 8 * i + w < 2 ^ 31 by omega), nI_clamp (show w < 2 ^ 31 by omega)]
    have key : ∀ (f f' : Nat → Int32), (∀ u, u < 8 → f u = mw (8 * i + u)) → ∀ u, u < 8 → (upd f w p3) u = upd mw (8 * i + w) p3 (8 * i + u) := by
      intro f f' hf u hu
      by_cases e : u = w
      · subst e; rw [pk_us, pk_us]
      · rw [pk_un e, pk_un (by omega)]; exact hf u hu
    have far : ∀ j u, j ≠ i → u < 8 → upd mw (8 * i + w) p3 (8 * j + u) = mw (8 * j + u) := fun j u hj hu => pk_un (by omega)
    rcases (show i = 0 ∨ i = 1 ∨ i = 2 ∨ i = 3 ∨ i = 4 ∨ i = 5 by omega) with rfl | rfl | rfl | rfl | rfl | rfl
    · rw [if_pos (by decide)]
      have hgi := hg 0 hi
      have ev : s6 g0 g1 g2 g3 g4 g5 0 w = mw (8 * 0 + w) := hgi.2 w (by omega)
      have ev : g0 w = mw (8 * 0 + w) := ev
      rw [ev]
      refine ⟨_, _, _, _, _, _, _, _, rfl, rfl, hk, fun j hj => ⟨(hg j hj).1, fun u hu => ?_⟩⟩
      by_cases ej : j = 0
      · subst ej
        exact key g0 g0 (fun u hu => (hg 0 hi).2 u hu) u hu
      · rw [far j u ej hu, ← (hg j hj).2 u hu]
        rcases (show j = 1 ∨ j = 2 ∨ j = 3 ∨ j = 4 ∨ j = 5 by omega) with rfl | rfl | rfl | rfl | rfl <;> rfl
    · rw [if_neg (by decide), if_pos (by decide)]
      have hgi := hg 1 hi
      have ev : s6 g0 g1 g2 g3 g4 g5 1 w = mw (8 * 1 + w) := hgi.2 w (by omega)
      have ev : g1 w = mw (8 * 1 + w) := ev
      rw [ev]
      refine ⟨_, _, _, _, _, _, _, _, rfl, rfl, hk, fun j hj => ⟨(hg j hj).1, fun u hu => ?_⟩⟩
      by_cases ej : j = 1
      · subst ej
        exact key g1 g1 (fun u hu => (hg 1 hi).2 u hu) u hu
      · rw [far j u ej hu, ← (hg j hj).2 u hu]
        rcases (show j = 0 ∨ j = 2 ∨ j = 3 ∨ j = 4 ∨ j = 5 by omega) with rfl | rfl | rfl | rfl | rfl <;> rfl
    · rw [if_neg (by decide), if_neg (by decide), if_pos (by decide)]
      have hgi := hg 2 hi
      have ev : s6 g0 g1 g2 g3 g4 g5 2 w = mw (8 * 2 + w) := hgi.2 w (by omega)
      have ev : g2 w = mw (8 * 2 + w) := ev
      rw [ev]
      refine ⟨_, _, _, _, _, _, _, _, rfl, rfl, hk, fun j hj => ⟨(hg j hj).1, fun u hu => ?_⟩⟩
      by_cases ej : j = 2
      · subst ej
        exact key g2 g2 (fun u hu => (hg 2 hi).2 u hu) u hu
      · rw [far j u ej hu, ← (hg j hj).2 u hu]
        rcases (show j = 0 ∨ j = 1 ∨ j = 3 ∨ j = 4 ∨ j = 5 by omega) with rfl | rfl | rfl | rfl | rfl <;> rfl
    · rw [if_neg (by decide), if_neg (by decide), if_neg (by decide), if_pos (by decide)]
      have hgi := hg 3 hi
      have ev : s6 g0 g1 g2 g3 g4 g5 3 w = mw (8 * 3 + w) := hgi.2 w (by omega)
      have ev : g3 w = mw (8 * 3 + w) := ev
      rw [ev]
      refine ⟨_, _, _, _, _, _, _, _, rfl, rfl, hk, fun j hj => ⟨(hg j hj).1, fun u hu => ?_⟩⟩
      by_cases ej : j = 3
      · subst ej
        exact key g3 g3 (fun u hu => (hg 3 hi).2 u hu) u hu
      · rw [far j u ej hu, ← (hg j hj).2 u hu]
        rcases (show j = 0 ∨ j = 1 ∨ j = 2 ∨ j = 4 ∨ j = 5 by omega) with rfl | rfl | rfl | rfl | rfl <;> rfl
    · rw [if_neg (by decide), if_neg (by decide), if_neg (by decide), if_neg (by decide), if_pos (by decide)]
      have hgi := hg 4 hi
      have ev : s6 g0 g1 g2 g3 g4 g5 4 w = mw (8 * 4 + w) := hgi.2 w (by omega)
      have ev : g4 w = mw (8 * 4 + w) := ev
      rw [ev]
      refine ⟨_, _, _, _, _, _, _, _, rfl, rfl, hk, fun j hj => ⟨(hg j hj).1, fun u hu => ?_⟩⟩
      by_cases ej : j = 4
      · subst ej
        exact key g4 g4 (fun u hu => (hg 4 hi).2 u hu) u hu
      · rw [far j u ej hu, ← (hg j hj).2 u hu]
        rcases (show j = 0 ∨ j = 1 ∨ j = 2 ∨ j = 3 ∨ j = 5 by omega) with rfl | rfl | rfl | rfl | rfl <;> rfl
    · rw [if_neg (by decide), if_neg (by decide), if_neg (by decide), if_neg (by decide), if_neg (by decide), if_pos (by decide)]
      have hgi := hg 5 hi
      have ev : s6 g0 g1 g2 g3 g4 g5 5 w = mw (8 * 5 + w) := hgi.2 w (by omega)
      have ev : g5 w = mw (8 * 5 + w) := ev
      rw [ev]
      refine ⟨_, _, _, _, _, _, _, _, rfl, rfl, hk, fun j hj => ⟨(hg j hj).1, fun u hu => ?_⟩⟩
      by_cases ej : j = 5
      · subst ej
        exact key g5 g5 (fun u hu => (hg 5 hi).2 u hu) u hu
      · rw [far j u ej hu, ← (hg j hj).2 u hu]
        rcases (show j = 0 ∨ j = 1 ∨ j = 2 ∨ j = 3 ∨ j = 4 by omega) with rfl | rfl | rfl | rfl | rfl <;> rfl
  · rw [if_neg h1, if_neg h1, if_neg h2, if_pos (nle_lt h2), if_pos rfl]
    exact ⟨_, _, _, _, _, _, _, _, rfl, rfl, hG⟩
