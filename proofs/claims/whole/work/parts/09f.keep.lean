/-! images: keep and goBack -/
/-- the course of things as both hold it -/
def CO (Z : Nat) (letter turn settled sent law way seed : Int32) (ga en had who fr to : Nat → Int32) : Prop := LT Z letter ∧ (turn = 0 ∨ turn = 1) ∧ (settled = 0 ∨ settled = 1) ∧ (∃ k, sent = nI k ∧ LK Z k who fr to) ∧ LG en who fr to ∧ (∃ a, a < 3 ∧ law = nI a) ∧ (∃ b, b < 2 ∧ way = nI b) ∧ (∃ s, s < 2 ^ 31 ∧ seed = nI s) ∧ had 0 = ga 0 ∧ had 1 = ga 1
theorem CO_congr {Z : Nat} {letter turn settled sent law way seed : Int32} {ga en had who fr to ga' en' had' who' fr' to' : Nat → Int32} (h : CO Z letter turn settled sent law way seed ga en had who fr to) (h1 : ∀ j, j < 2 → ga' j = ga j) (h2 : ∀ j, j < 180 → en' j = en j) (h3 : ∀ j, j < 2 → had' j = had j) (h4 : ∀ j, j < 60 → who' j = who j ∧ fr' j = fr j ∧ to' j = to j) : CO Z letter turn settled sent law way seed ga' en' had' who' fr' to' := by
  obtain ⟨a, b, c, ⟨k, ek, hk⟩, d, e, f, g, x, y⟩ := h
  refine ⟨a, b, c, ⟨k, ek, hk.1, fun i hi => ?_⟩, fun i hi => ?_, e, f, g, ?_, ?_⟩
  · have := hk.1
    obtain ⟨p, q, r⟩ := h4 i (by omega)
    rw [p, q, r]
    exact hk.2 i hi
  · obtain ⟨p, q, r⟩ := h4 i hi
    rw [p, q, r, h2 _ (by omega), h2 _ (by omega), h2 _ (by omega)]
    exact d i hi
  · rw [h1 0 (by omega), h3 0 (by omega), x]
  · rw [h1 1 (by omega), h3 1 (by omega), y]
/-- an image as both hold it -/
def IM (Z i : Nat) (letter turn settled sent law way seed : Int32) (ga en im : Nat → Int32) : Prop := im (200 * i) = letter ∧ im (200 * i + 1) = turn ∧ im (200 * i + 2) = settled ∧ im (200 * i + 5) = sent ∧ im (200 * i + 6) = law ∧ im (200 * i + 7) = way ∧ im (200 * i + 8) = seed ∧ CO Z letter turn settled sent law way seed ga en (fun j => im (200 * i + 3 + j)) (fun j => im (200 * i + 10 + j)) (fun j => im (200 * i + 70 + j)) (fun j => im (200 * i + 130 + j))
theorem IM_far {Z i : Nat} {letter turn settled sent law way seed : Int32} {ga en im im' : Nat → Int32} (h : IM Z i letter turn settled sent law way seed ga en im) (hf : ∀ j, 200 * i ≤ j → j < 200 * i + 200 → im' j = im j) : IM Z i letter turn settled sent law way seed ga en im' := by
  obtain ⟨a, b, c, d, e, f, g, x⟩ := h
  refine ⟨?_, ?_, ?_, ?_, ?_, ?_, ?_, CO_congr x (fun _ _ => rfl) (fun _ _ => rfl) (fun j hj => hf _ (by omega) (by omega)) (fun j hj => ⟨hf _ (by omega) (by omega), hf _ (by omega) (by omega), hf _ (by omega) (by omega)⟩)⟩
  all_goals rw [hf _ (by omega) (by omega)]; assumption
theorem kp_L {i : Nat} (hi : i < 2) {law way letter turn settled sent seed : Int32} {had who fr to : Nat → Int32} {ik : Nat → Int32} : ∀ n m, m ≤ 60 → m < n → ∀ im : Nat → Int32, (∀ j, j < 60 - m → im (200 * i + 10 + j) = who j ∧ im (200 * i + 70 + j) = fr j ∧ im (200 * i + 130 + j) = to j) → ∃ im', f_X9_keep_L143 law way letter turn settled sent seed had who fr to n (nI i) (nI (200 * i)) (nI (60 - m)) im ik = some (1, im', upd ik i 1) ∧ (∀ j, j < 60 → im' (200 * i + 10 + j) = who j ∧ im' (200 * i + 70 + j) = fr j ∧ im' (200 * i + 130 + j) = to j) ∧ ∀ j, (j < 200 * i + 10 ∨ 200 * i + 190 ≤ j) → im' j = im j := by
  have e60 : (60 : Int32) = nI 60 := rfl
  intro n
  induction n with
  | zero => intro m _ h; omega
  | succ n ih =>
    intro m hm hn im hw
    rw [f_X9_keep_L143.eq_2, e60]
    cases m with
    | zero =>
      rw [if_pos (nI_le (by omega) (by omega)), if_pos (ixb_nI hi (by decide)), nI_clamp (by omega), nz1]
      exact ⟨im, rfl, fun j hj => hw j (by omega), fun _ _ => rfl⟩
    | succ m =>
      have hx : 60 - (m + 1) + 1 = 60 - m := by omega
      have ih := ih m (by omega) (by omega)
      rw [← hx, ← nI_1] at ih
      have hk : 60 - (m + 1) < 60 := by omega
      generalize 60 - (m + 1) = k at *
      have a1 : nI (200 * i) + 10 = nI (200 * i + 10) := nI_add _ 10
      have a2 : nI (200 * i) + 70 = nI (200 * i + 70) := nI_add _ 70
      have a3 : nI (200 * i) + 130 = nI (200 * i + 130) := nI_add _ 130
      rw [if_neg (nI_ge hk (by omega)), a1, a2, a3, nI_add, nI_add, nI_add]
      simp only [if_pos (ixb_nI hk (by decide)), if_pos (ixb_nI (show 200 * i + 10 + k < 400 by omega) (by decide)), if_pos (ixb_nI (show 200 * i + 70 + k < 400 by omega) (by decide)), if_pos (ixb_nI (show 200 * i + 130 + k < 400 by omega) (by decide)), nI_clamp (show k < 2 ^ 31 by omega), nI_clamp (show 200 * i + 10 + k < 2 ^ 31 by omega), nI_clamp (show 200 * i + 70 + k < 2 ^ 31 by omega), nI_clamp (show 200 * i + 130 + k < 2 ^ 31 by omega)]
      obtain ⟨im', a, b, c⟩ := ih (upd (upd (upd im (200 * i + 10 + k) (who k)) (200 * i + 70 + k) (fr k)) (200 * i + 130 + k) (to k)) (fun j hj => by
        by_cases e : j = k
        · subst e
          rw [pk_un (by omega), pk_un (by omega), pk_us, pk_un (by omega), pk_us, pk_us]
          exact ⟨rfl, rfl, rfl⟩
        · rw [pk_un (by omega), pk_un (by omega), pk_un (by omega), pk_un (by omega), pk_un (by omega), pk_un (by omega), pk_un (by omega), pk_un (by omega), pk_un (by omega)]
          exact hw j (by omega))
      refine ⟨im', a, b, fun j hj => ?_⟩
      rw [c j hj, pk_un (by omega), pk_un (by omega), pk_un (by omega)]
theorem kp9 {Z i : Nat} (hi : i < 2) {law way letter turn settled sent seed : Int32} {ga en had who fr to im ik : Nat → Int32} (hC : CO Z letter turn settled sent law way seed ga en had who fr to) : ∃ im', f_X9_keep law way letter turn settled sent seed had who fr to im ik (nI i) = some (1, im', upd ik i 1) ∧ IM Z i letter turn settled sent law way seed ga en im' ∧ ∀ j, (j < 200 * i ∨ 200 * i + 200 ≤ j) → im' j = im j := by
  unfold f_X9_keep
  have ein : f_X9_in (nI i).toInt64 0 1 = some 1 := by
    rw [in_lit (nI i) (y := 1) (by decide)]
    rcases (show i = 0 ∨ i = 1 by omega) with rfl | rfl <;> decide
  have e2 : 200 * nI i = nI (200 * i) := pk_mul 200 i
  have b1 : nI (200 * i) + 1 = nI (200 * i + 1) := nI_add _ 1
  have b2 : nI (200 * i) + 2 = nI (200 * i + 2) := nI_add _ 2
  have b3 : nI (200 * i) + 3 = nI (200 * i + 3) := nI_add _ 3
  have b4 : nI (200 * i) + 4 = nI (200 * i + 4) := nI_add _ 4
  have b5 : nI (200 * i) + 5 = nI (200 * i + 5) := nI_add _ 5
  have b6 : nI (200 * i) + 6 = nI (200 * i + 6) := nI_add _ 6
  have b7 : nI (200 * i) + 7 = nI (200 * i + 7) := nI_add _ 7
  have b8 : nI (200 * i) + 8 = nI (200 * i + 8) := nI_add _ 8
  have d0 : (0 : Int32).toNatClampNeg = 0 := by decide
  have d1 : (1 : Int32).toNatClampNeg = 1 := by decide
  have i0 : ixb 0 2 = true := by decide
  have i1 : ixb 1 2 = true := by decide
  rw [ein, bs, if_neg (by decide), e2]
  simp only [b1, b2, b3, b4, b5, b6, b7, b8, d0, d1, i0, i1, if_true, if_pos (ixb_nI (show 200 * i < 400 by omega) (by decide)), if_pos (ixb_nI (show 200 * i + 1 < 400 by omega) (by decide)), if_pos (ixb_nI (show 200 * i + 2 < 400 by omega) (by decide)), if_pos (ixb_nI (show 200 * i + 3 < 400 by omega) (by decide)), if_pos (ixb_nI (show 200 * i + 4 < 400 by omega) (by decide)), if_pos (ixb_nI (show 200 * i + 5 < 400 by omega) (by decide)), if_pos (ixb_nI (show 200 * i + 6 < 400 by omega) (by decide)), if_pos (ixb_nI (show 200 * i + 7 < 400 by omega) (by decide)), if_pos (ixb_nI (show 200 * i + 8 < 400 by omega) (by decide)), nI_clamp (show 200 * i < 2 ^ 31 by omega), nI_clamp (show 200 * i + 1 < 2 ^ 31 by omega), nI_clamp (show 200 * i + 2 < 2 ^ 31 by omega), nI_clamp (show 200 * i + 3 < 2 ^ 31 by omega), nI_clamp (show 200 * i + 4 < 2 ^ 31 by omega), nI_clamp (show 200 * i + 5 < 2 ^ 31 by omega), nI_clamp (show 200 * i + 6 < 2 ^ 31 by omega), nI_clamp (show 200 * i + 7 < 2 ^ 31 by omega), nI_clamp (show 200 * i + 8 < 2 ^ 31 by omega)]
  have e0 : nI (60 - 60) = 0 := rfl
  have fin : ∀ g : Nat → Int32, g = upd (upd (upd (upd (upd (upd (upd (upd (upd im (200 * i) letter) (200 * i + 1) turn) (200 * i + 2) settled) (200 * i + 3) (had 0)) (200 * i + 4) (had 1)) (200 * i + 5) sent) (200 * i + 6) law) (200 * i + 7) way) (200 * i + 8) seed → ∃ im', f_X9_keep_L143 law way letter turn settled sent seed had who fr to FU (nI i) (nI (200 * i)) 0 g ik = some (1, im', upd ik i 1) ∧ IM Z i letter turn settled sent law way seed ga en im' ∧ ∀ j, (j < 200 * i ∨ 200 * i + 200 ≤ j) → im' j = im j := by
    intro g hg
    obtain ⟨im', a, b, c⟩ := kp_L hi (law := law) (way := way) (letter := letter) (turn := turn) (settled := settled) (sent := sent) (seed := seed) (had := had) (who := who) (fr := fr) (to := to) (ik := ik) FU 60 (Nat.le_refl _) (FU_lt (by omega)) g (fun j hj => by omega)
    rw [e0] at a
    refine ⟨im', a, ⟨?_, ?_, ?_, ?_, ?_, ?_, ?_, CO_congr hC (fun _ _ => rfl) (fun _ _ => rfl) (fun j hj => ?_) (fun j hj => b j hj)⟩, fun j hj => ?_⟩
    · rw [c _ (by omega), hg, pk_un (by omega), pk_un (by omega), pk_un (by omega), pk_un (by omega), pk_un (by omega), pk_un (by omega), pk_un (by omega), pk_un (by omega), pk_us]
    · rw [c _ (by omega), hg, pk_un (by omega), pk_un (by omega), pk_un (by omega), pk_un (by omega), pk_un (by omega), pk_un (by omega), pk_un (by omega), pk_us]
    · rw [c _ (by omega), hg, pk_un (by omega), pk_un (by omega), pk_un (by omega), pk_un (by omega), pk_un (by omega), pk_un (by omega), pk_us]
    · rw [c _ (by omega), hg, pk_un (by omega), pk_un (by omega), pk_un (by omega), pk_us]
    · rw [c _ (by omega), hg, pk_un (by omega), pk_un (by omega), pk_us]
    · rw [c _ (by omega), hg, pk_un (by omega), pk_us]
    · rw [c _ (by omega), hg, pk_us]
    · rw [c _ (by omega), hg]
      rcases (show j = 0 ∨ j = 1 by omega) with rfl | rfl
      · rw [pk_un (by omega), pk_un (by omega), pk_un (by omega), pk_un (by omega), pk_un (by omega), Nat.add_zero, pk_us]
      · rw [pk_un (by omega), pk_un (by omega), pk_un (by omega), pk_un (by omega), Nat.add_assoc, pk_us]
    · rw [c _ (by omega), hg, pk_un (by omega), pk_un (by omega), pk_un (by omega), pk_un (by omega), pk_un (by omega), pk_un (by omega), pk_un (by omega), pk_un (by omega), pk_un (by omega)]
  by_cases hs : settled = 0
  · rw [if_pos hs]
    exact fin _ (by rw [hs])
  · have hs1 : settled = 1 := hC.2.2.1.resolve_left hs
    rw [if_neg hs]
    exact fin _ (by rw [hs1])
/-- what the class keeps of the images -/
theorem cp2 (f g : Nat → Int32) : ∀ j, j < 2 → va_cpy f g (0 : Int32).toNatClampNeg (0 : Int32).toNatClampNeg (2 : Int32).toNatClampNeg j = f j := by
  intro j hj
  have d0 : (0 : Int32).toNatClampNeg = 0 := by decide
  have d2 : (2 : Int32).toNatClampNeg = 2 := by decide
  rw [d0, d2, pk_cpy_in (by omega) (by omega)]
  congr 1; omega
theorem cp180 (f g : Nat → Int32) : ∀ j, j < 180 → va_cpy f g (0 : Int32).toNatClampNeg (0 : Int32).toNatClampNeg (180 : Int32).toNatClampNeg j = f j := by
  intro j hj
  have d0 : (0 : Int32).toNatClampNeg = 0 := by decide
  have d2 : (180 : Int32).toNatClampNeg = 180 := by decide
  rw [d0, d2, pk_cpy_in (by omega) (by omega)]
  congr 1; omega
/-- the images, if kept -/
def KI (Z : Nat) (l0 t0 s0 n0 a0 w0 d0 l1 t1 s1 n1 a1 w1 d1 : Int32) (g0 e0 kept g1 e1 im ik : Nat → Int32) : Prop := (∀ i, i < 2 → kept i = ik i ∧ (ik i = 0 ∨ ik i = 1)) ∧ (ik 0 = 1 → IM Z 0 l0 t0 s0 n0 a0 w0 d0 g0 e0 im) ∧ (ik 1 = 1 → IM Z 1 l1 t1 s1 n1 a1 w1 d1 g1 e1 im)
theorem IM_congr {Z i : Nat} {letter turn settled sent law way seed : Int32} {ga en im ga' en' : Nat → Int32} (h : IM Z i letter turn settled sent law way seed ga en im) (h1 : ∀ j, j < 2 → ga' j = ga j) (h2 : ∀ j, j < 180 → en' j = en j) : IM Z i letter turn settled sent law way seed ga' en' im := by
  obtain ⟨a, b, c, d, e, f, g, x⟩ := h
  exact ⟨a, b, c, d, e, f, g, CO_congr x h1 h2 (fun _ _ => rfl) (fun _ _ => ⟨rfl, rfl, rfl⟩)⟩
theorem bc_eq {l t s n a w d l' t' s' n' a' w' d' : Int32} {g e g' e' : Nat → Int32} (hs : s = 0 ∨ s = 1) : ∃ g2 e2, f_X0_become l t s n a w d g e l' t' s' n' a' w' d' g' e' = some (l, t, s, n, a, w, d, g2, e2) ∧ (∀ j, j < 2 → g2 j = g j) ∧ ∀ j, j < 180 → e2 j = e j := by
  unfold f_X0_become
  have hz : zb s = true := by rcases hs with rfl | rfl <;> decide
  rw [if_pos hz]
  exact ⟨_, _, rfl, cp2 _ _, cp180 _ _⟩
theorem o_keep {Z : Nat} {letter turn settled sent law way seed l0 t0 s0 n0 a0 w0 d0 l1 t1 s1 n1 a1 w1 d1 : Int32} {ga en had who fr to g0 e0 kept g1 e1 im ik : Nat → Int32} (hC : CO Z letter turn settled sent law way seed ga en had who fr to) (hK : KI Z l0 t0 s0 n0 a0 w0 d0 l1 t1 s1 n1 a1 w1 d1 g0 e0 kept g1 e1 im ik) (p : Int32) : ∃ r l0' t0' s0' n0' a0' w0' d0' l1' t1' s1' n1' a1' w1' d1' g0' e0' kept' g1' e1' im' ik', f_X8_keep letter turn settled sent law way seed ga en l0 t0 s0 n0 a0 w0 d0 l1 t1 s1 n1 a1 w1 d1 g0 e0 kept g1 e1 p = some (r, l0', t0', s0', n0', a0', w0', d0', l1', t1', s1', n1', a1', w1', d1', g0', e0', kept', g1', e1') ∧ f_X9_keep law way letter turn settled sent seed had who fr to im ik p = some (r, im', ik') ∧ KI Z l0' t0' s0' n0' a0' w0' d0' l1' t1' s1' n1' a1' w1' d1' g0' e0' kept' g1' e1' im' ik' := by
  have hs := hC.2.2.1
  obtain ⟨hk, hi0, hi1⟩ := id hK
  rcases ih_cases p with h | h
  · rcases h with rfl | rfl
    · obtain ⟨im', e9, hI, hf⟩ := kp9 (i := 0) (im := im) (ik := ik) (by omega) hC
      have z0 : nI 0 = 0 := rfl
      rw [z0] at e9
      unfold f_X8_keep
      obtain ⟨g2, e2, eb, h1, h2⟩ := bc_eq (l := letter) (t := turn) (n := sent) (a := law) (w := way) (d := seed) (g := ga) (e := en) (l' := l0) (t' := t0) (s' := s0) (n' := n0) (a' := a0) (w' := w0) (d' := d0) (g' := g0) (e' := e0) hs
      rw [ii8_yes (Or.inl rfl), bs, if_neg (by decide), if_pos rfl, eb]
      simp only [bs]
      have c0 : (0 : Int32).toNatClampNeg = 0 := by decide
      rw [if_pos (by decide), c0]
      refine ⟨_, _, _, _, _, _, _, _, _, _, _, _, _, _, _, _, _, _, _, _, _, _, rfl, e9, fun i hi => ?_, fun _ => IM_congr hI h1 h2, fun q => ?_⟩
      · by_cases e : i = 0
        · subst e; rw [pk_us, pk_us]; exact ⟨rfl, Or.inr rfl⟩
        · rw [pk_un e, pk_un e]; exact hk i hi
      · rw [pk_un (by decide)] at q
        exact IM_far (hi1 q) (fun j h1 h2 => hf j (by omega))
    · obtain ⟨im', e9, hI, hf⟩ := kp9 (i := 1) (im := im) (ik := ik) (by omega) hC
      have z0 : nI 1 = 1 := rfl
      rw [z0] at e9
      unfold f_X8_keep
      obtain ⟨g2, e2, eb, h1, h2⟩ := bc_eq (l := letter) (t := turn) (n := sent) (a := law) (w := way) (d := seed) (g := ga) (e := en) (l' := l1) (t' := t1) (s' := s1) (n' := n1) (a' := a1) (w' := w1) (d' := d1) (g' := g1) (e' := e1) hs
      rw [ii8_yes (Or.inr rfl), bs, if_neg (by decide), if_neg (by decide), if_pos rfl, eb]
      simp only [bs]
      have c0 : (1 : Int32).toNatClampNeg = 1 := by decide
      rw [if_pos (by decide), c0]
      refine ⟨_, _, _, _, _, _, _, _, _, _, _, _, _, _, _, _, _, _, _, _, _, _, rfl, e9, fun i hi => ?_, fun q => ?_, fun _ => IM_congr hI h1 h2⟩
      · by_cases e : i = 1
        · subst e; rw [pk_us, pk_us]; exact ⟨rfl, Or.inr rfl⟩
        · rw [pk_un e, pk_un e]; exact hk i hi
      · rw [pk_un (by decide)] at q
        exact IM_far (hi0 q) (fun j h1 h2 => hf j (by omega))
  · unfold f_X8_keep f_X9_keep
    have e9 : f_X9_in p.toInt64 0 1 = some 0 := by
      have e := inZ_no (Z := 2) (x := p) (by decide) h
      have h1 : (1 : Int64) = (nI 2 - 1).toInt64 := by decide
      rw [h1, e]
    rw [ii8_no h, e9]
    simp only [bs, c00, if_true]
    exact ⟨_, _, _, _, _, _, _, _, _, _, _, _, _, _, _, _, _, _, _, _, _, _, rfl, rfl, hK⟩
theorem gb_L {i : Nat} (hi : i < 2) {ik im had : Nat → Int32} {law way letter turn settled sent seed : Int32} : ∀ n m, m ≤ 60 → m < n → ∀ who fr to : Nat → Int32, (∀ j, j < 60 - m → who j = im (200 * i + 10 + j) ∧ fr j = im (200 * i + 70 + j) ∧ to j = im (200 * i + 130 + j)) → ∃ who' fr' to', f_X9_goBack_L157 ik im n (nI (200 * i)) (nI (60 - m)) law way letter turn settled sent seed had who fr to = some (1, law, way, letter, turn, settled, sent, seed, had, who', fr', to') ∧ ∀ j, j < 60 → who' j = im (200 * i + 10 + j) ∧ fr' j = im (200 * i + 70 + j) ∧ to' j = im (200 * i + 130 + j) := by
  have e60 : (60 : Int32) = nI 60 := rfl
  intro n
  induction n with
  | zero => intro m _ h; omega
  | succ n ih =>
    intro m hm hn who fr to hw
    rw [f_X9_goBack_L157.eq_2, e60]
    cases m with
    | zero =>
      rw [if_pos (nI_le (by omega) (by omega))]
      exact ⟨who, fr, to, rfl, fun j hj => hw j (by omega)⟩
    | succ m =>
      have hx : 60 - (m + 1) + 1 = 60 - m := by omega
      have ih := ih m (by omega) (by omega)
      rw [← hx, ← nI_1] at ih
      have hk : 60 - (m + 1) < 60 := by omega
      generalize 60 - (m + 1) = k at *
      have a1 : nI (200 * i) + 10 = nI (200 * i + 10) := nI_add _ 10
      have a2 : nI (200 * i) + 70 = nI (200 * i + 70) := nI_add _ 70
      have a3 : nI (200 * i) + 130 = nI (200 * i + 130) := nI_add _ 130
      rw [if_neg (nI_ge hk (by omega)), a1, a2, a3, nI_add, nI_add, nI_add]
      simp only [if_pos (ixb_nI hk (by decide)), if_pos (ixb_nI (show 200 * i + 10 + k < 400 by omega) (by decide)), if_pos (ixb_nI (show 200 * i + 70 + k < 400 by omega) (by decide)), if_pos (ixb_nI (show 200 * i + 130 + k < 400 by omega) (by decide)), nI_clamp (show k < 2 ^ 31 by omega), nI_clamp (show 200 * i + 10 + k < 2 ^ 31 by omega), nI_clamp (show 200 * i + 70 + k < 2 ^ 31 by omega), nI_clamp (show 200 * i + 130 + k < 2 ^ 31 by omega)]
      refine ih _ _ _ (fun j hj => ?_)
      by_cases e : j = k
      · subst e; rw [pk_us, pk_us, pk_us]; exact ⟨rfl, rfl, rfl⟩
      · rw [pk_un e, pk_un e, pk_un e]; exact hw j (by omega)
theorem gb9 {Z i : Nat} (hi : i < 2) {law way letter turn settled sent seed il it is ise ia iw id' : Int32} {had who fr to im ik ga en : Nat → Int32} (hk : ¬ ik i = 0) (hI : IM Z i il it is ise ia iw id' ga en im) : ∃ had' who' fr' to', f_X9_goBack ik im law way letter turn settled sent seed had who fr to (nI i) = some (1, ia, iw, il, it, is, ise, id', had', who', fr', to') ∧ CO Z il it is ise ia iw id' ga en had' who' fr' to' := by
  obtain ⟨x0, x1, x2, x5, x6, x7, x8, hC⟩ := hI
  unfold f_X9_goBack
  have ein : f_X9_in (nI i).toInt64 0 1 = some 1 := by
    rw [in_lit (nI i) (y := 1) (by decide)]
    rcases (show i = 0 ∨ i = 1 by omega) with rfl | rfl <;> decide
  have e2 : 200 * nI i = nI (200 * i) := pk_mul 200 i
  have b1 : nI (200 * i) + 1 = nI (200 * i + 1) := nI_add _ 1
  have b2 : nI (200 * i) + 2 = nI (200 * i + 2) := nI_add _ 2
  have b3 : nI (200 * i) + 3 = nI (200 * i + 3) := nI_add _ 3
  have b4 : nI (200 * i) + 4 = nI (200 * i + 4) := nI_add _ 4
  have b5 : nI (200 * i) + 5 = nI (200 * i + 5) := nI_add _ 5
  have b6 : nI (200 * i) + 6 = nI (200 * i + 6) := nI_add _ 6
  have b7 : nI (200 * i) + 7 = nI (200 * i + 7) := nI_add _ 7
  have b8 : nI (200 * i) + 8 = nI (200 * i + 8) := nI_add _ 8
  have d0 : (0 : Int32).toNatClampNeg = 0 := by decide
  have d1 : (1 : Int32).toNatClampNeg = 1 := by decide
  have i0 : ixb 0 2 = true := by decide
  have i1 : ixb 1 2 = true := by decide
  rw [ein, bs, if_neg (by decide), if_pos (ixb_nI hi (by decide)), nI_clamp (by omega), if_neg hk, e2]
  simp only [b1, b2, b3, b4, b5, b6, b7, b8, d0, d1, i0, i1, if_true, if_pos (ixb_nI (show 200 * i < 400 by omega) (by decide)), if_pos (ixb_nI (show 200 * i + 1 < 400 by omega) (by decide)), if_pos (ixb_nI (show 200 * i + 2 < 400 by omega) (by decide)), if_pos (ixb_nI (show 200 * i + 3 < 400 by omega) (by decide)), if_pos (ixb_nI (show 200 * i + 4 < 400 by omega) (by decide)), if_pos (ixb_nI (show 200 * i + 5 < 400 by omega) (by decide)), if_pos (ixb_nI (show 200 * i + 6 < 400 by omega) (by decide)), if_pos (ixb_nI (show 200 * i + 7 < 400 by omega) (by decide)), if_pos (ixb_nI (show 200 * i + 8 < 400 by omega) (by decide)), nI_clamp (show 200 * i < 2 ^ 31 by omega), nI_clamp (show 200 * i + 1 < 2 ^ 31 by omega), nI_clamp (show 200 * i + 2 < 2 ^ 31 by omega), nI_clamp (show 200 * i + 3 < 2 ^ 31 by omega), nI_clamp (show 200 * i + 4 < 2 ^ 31 by omega), nI_clamp (show 200 * i + 5 < 2 ^ 31 by omega), nI_clamp (show 200 * i + 6 < 2 ^ 31 by omega), nI_clamp (show 200 * i + 7 < 2 ^ 31 by omega), nI_clamp (show 200 * i + 8 < 2 ^ 31 by omega), x0, x1, x2, x5, x6, x7, x8]
  have e0 : nI (60 - 60) = 0 := rfl
  have fin : ∃ had' who' fr' to', f_X9_goBack_L157 ik im FU (nI (200 * i)) 0 ia iw il it is ise id' (upd (upd had 0 (im (200 * i + 3))) 1 (im (200 * i + 4))) who fr to = some (1, ia, iw, il, it, is, ise, id', had', who', fr', to') ∧ CO Z il it is ise ia iw id' ga en had' who' fr' to' := by
    obtain ⟨who', fr', to', a, b⟩ := gb_L hi (ik := ik) (im := im) (had := upd (upd had 0 (im (200 * i + 3))) 1 (im (200 * i + 4))) (law := ia) (way := iw) (letter := il) (turn := it) (settled := is) (sent := ise) (seed := id') FU 60 (Nat.le_refl _) (FU_lt (by omega)) who fr to (fun j hj => by omega)
    rw [e0] at a
    refine ⟨_, _, _, _, a, CO_congr hC (fun _ _ => rfl) (fun _ _ => rfl) (fun j hj => ?_) b⟩
    rcases (show j = 0 ∨ j = 1 by omega) with rfl | rfl
    · rw [pk_un (by decide), pk_us]
    · rw [pk_us]
  rcases hC.2.2.1 with rfl | rfl
  · rw [if_neg (by decide)]
    exact fin
  · rw [if_pos rfl]
    exact fin
theorem o_goBack {Z : Nat} {letter turn settled sent law way seed l0 t0 s0 n0 a0 w0 d0 l1 t1 s1 n1 a1 w1 d1 : Int32} {ga en had who fr to g0 e0 kept g1 e1 im ik : Nat → Int32} (hC : CO Z letter turn settled sent law way seed ga en had who fr to) (hK : KI Z l0 t0 s0 n0 a0 w0 d0 l1 t1 s1 n1 a1 w1 d1 g0 e0 kept g1 e1 im ik) (p : Int32) : ∃ r letter' turn' settled' sent' law' way' seed' ga' en' had' who' fr' to', f_X8_goBack kept l0 t0 s0 n0 a0 w0 d0 l1 t1 s1 n1 a1 w1 d1 g0 e0 g1 e1 letter turn settled sent law way seed ga en p = some (r, letter', turn', settled', sent', law', way', seed', ga', en') ∧ f_X9_goBack ik im law way letter turn settled sent seed had who fr to p = some (r, law', way', letter', turn', settled', sent', seed', had', who', fr', to') ∧ CO Z letter' turn' settled' sent' law' way' seed' ga' en' had' who' fr' to' := by
  obtain ⟨hk, hi0, hi1⟩ := id hK
  rcases ih_cases p with h | h
  · obtain ⟨i, hi, rfl⟩ := hn_of h
    obtain ⟨ke, kv⟩ := hk i hi
    by_cases hz : ik i = 0
    · unfold f_X8_goBack f_X9_goBack
      have ein : f_X9_in (nI i).toInt64 0 1 = some 1 := by
        rw [in_lit (nI i) (y := 1) (by decide)]
        rcases (show i = 0 ∨ i = 1 by omega) with rfl | rfl <;> decide
      rw [ii8_yes h, ein]
      simp only [bs, c10, if_false]
      rw [if_pos (ixb_nI hi (by decide)), if_pos (ixb_nI hi (by decide)), nI_clamp (by omega), ke, if_pos hz, if_pos hz]
      exact ⟨_, _, _, _, _, _, _, _, _, _, _, _, _, _, rfl, rfl, hC⟩
    · have h1 : ik i = 1 := kv.resolve_left hz
      have c0 : (0 : Int32).toNatClampNeg = 0 := by decide
      have c1 : (1 : Int32).toNatClampNeg = 1 := by decide
      rcases (show i = 0 ∨ i = 1 by omega) with rfl | rfl
      · have hI := hi0 h1
        obtain ⟨had', who', fr', to', e9, hC'⟩ := gb9 (i := 0) (law := law) (way := way) (letter := letter) (turn := turn) (settled := settled) (sent := sent) (seed := seed) (had := had) (who := who) (fr := fr) (to := to) (by omega) hz hI
        obtain ⟨g2, e2, eb, p1, p2⟩ := bc_eq (l := l0) (t := t0) (n := n0) (a := a0) (w := w0) (d := d0) (g := g0) (e := e0) (l' := letter) (t' := turn) (s' := settled) (n' := sent) (a' := law) (w' := way) (d' := seed) (g' := ga) (e' := en) hC'.2.2.1
        unfold f_X8_goBack
        rw [ii8_yes h, bs, if_neg (by decide), if_pos (by decide), nI_clamp (by omega), ke, if_neg hz, if_pos (by decide), eb]
        simp only [bs]
        exact ⟨_, _, _, _, _, _, _, _, _, _, _, _, _, _, rfl, e9, CO_congr hC' p1 p2 (fun _ _ => rfl) (fun _ _ => ⟨rfl, rfl, rfl⟩)⟩
      · have hI := hi1 h1
        obtain ⟨had', who', fr', to', e9, hC'⟩ := gb9 (i := 1) (law := law) (way := way) (letter := letter) (turn := turn) (settled := settled) (sent := sent) (seed := seed) (had := had) (who := who) (fr := fr) (to := to) (by omega) hz hI
        obtain ⟨g2, e2, eb, p1, p2⟩ := bc_eq (l := l1) (t := t1) (n := n1) (a := a1) (w := w1) (d := d1) (g := g1) (e := e1) (l' := letter) (t' := turn) (s' := settled) (n' := sent) (a' := law) (w' := way) (d' := seed) (g' := ga) (e' := en) hC'.2.2.1
        unfold f_X8_goBack
        rw [ii8_yes h, bs, if_neg (by decide), if_pos (by decide), nI_clamp (by omega), ke, if_neg hz, if_neg (by decide), if_pos (by decide), eb]
        simp only [bs]
        exact ⟨_, _, _, _, _, _, _, _, _, _, _, _, _, _, rfl, e9, CO_congr hC' p1 p2 (fun _ _ => rfl) (fun _ _ => ⟨rfl, rfl, rfl⟩)⟩
  · unfold f_X8_goBack f_X9_goBack
    have e9 : f_X9_in p.toInt64 0 1 = some 0 := by
      have e := inZ_no (Z := 2) (x := p) (by decide) h
      have h1 : (1 : Int64) = (nI 2 - 1).toInt64 := by decide
      rw [h1, e]
    rw [ii8_no h, e9]
    simp only [bs, c00, if_true]
    exact ⟨_, _, _, _, _, _, _, _, _, _, _, _, _, _, rfl, rfl, hC⟩
