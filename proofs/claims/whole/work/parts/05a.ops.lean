/-! the small calls -/
theorem c10 : ((1 : Int32) = 0) = False := eq_false (by decide)
theorem c00 : ((0 : Int32) = 0) = True := eq_true rfl
theorem le2_iff (x : Int32) : (¬ x < 0 ∧ x ≤ 2) ↔ (x = 0 ∨ x = 1 ∨ x = 2) := by
  constructor
  · rintro ⟨h1, h2⟩
    obtain ⟨j, hj, e⟩ := nI_of2 (M := 2) (n := 2) (by decide) h1 h2
    rcases (show j = 0 ∨ j = 1 ∨ j = 2 by omega) with rfl | rfl | rfl
    · exact Or.inl e
    · exact Or.inr (Or.inl e)
    · exact Or.inr (Or.inr e)
  · rintro (rfl | rfl | rfl) <;> decide
theorem in_lit (x : Int32) {y : Int32} {Y : Int64} (h : Y = y.toInt64) : f_X9_in x.toInt64 0 Y = some (if x < 0 then 0 else if y < x then 0 else 1) := by rw [h]; exact in32 x y
theorem nle_lt {x y : Int32} (h : ¬ x ≤ y) : y < x := by rw [Int32.lt_iff_toInt_lt]; rw [Int32.le_iff_toInt_le] at h; omega
theorem le_nlt {x y : Int32} (h : x ≤ y) : ¬ y < x := by rw [Int32.lt_iff_toInt_lt]; rw [Int32.le_iff_toInt_le] at h; omega
theorem o_law (law p : Int32) (h : law = 0 ∨ law = 1 ∨ law = 2) : ∃ r law', f_X8_law law p = some (r, law') ∧ f_X9_law law p = some (r, law') ∧ (law' = 0 ∨ law' = 1 ∨ law' = 2) := by
  unfold f_X8_law f_X9_law
  rw [in_lit p (y := 2) (by decide), bs]
  by_cases h0 : p < 0
  · rw [if_pos h0, if_pos h0, if_pos rfl]
    exact ⟨_, _, rfl, rfl, h⟩
  · rw [if_neg h0, if_neg h0]
    by_cases h2 : p ≤ 2
    · rw [if_pos h2, if_neg (le_nlt h2), if_neg (by decide)]
      exact ⟨_, _, rfl, rfl, (le2_iff p).mp ⟨h0, h2⟩⟩
    · rw [if_neg h2, if_pos (nle_lt h2), if_pos rfl]
      exact ⟨_, _, rfl, rfl, h⟩
theorem o_way (way p : Int32) (h : way = 0 ∨ way = 1) : ∃ r way', f_X8_way way p = some (r, way') ∧ f_X9_way way p = some (r, way') ∧ (way' = 0 ∨ way' = 1) := by
  unfold f_X8_way f_X9_way
  rw [in_lit p (y := 1) (by decide), bs]
  by_cases h0 : p < 0
  · rw [if_pos h0, if_pos h0, if_pos rfl]
    exact ⟨_, _, rfl, rfl, h⟩
  · rw [if_neg h0, if_neg h0]
    by_cases h2 : p ≤ 1
    · rw [if_pos h2, if_neg (le_nlt h2), if_neg (by decide)]
      refine ⟨_, _, rfl, rfl, ?_⟩
      obtain ⟨j, hj, e⟩ := nI_of2 (M := 1) (n := 1) (by decide) h0 h2
      rcases (show j = 0 ∨ j = 1 by omega) with rfl | rfl
      · exact Or.inl e
      · exact Or.inr e
    · rw [if_neg h2, if_pos (nle_lt h2), if_pos rfl]
      exact ⟨_, _, rfl, rfl, h⟩
theorem o_seed (seed p : Int32) (h : ¬ seed < 0) : ∃ r seed', f_X8_seed seed p = some (r, seed') ∧ f_X9_seed seed p = some (r, seed') ∧ ¬ seed' < 0 := by
  unfold f_X8_seed f_X9_seed
  by_cases h0 : 0 ≤ p
  · simp only [if_pos h0]
    exact ⟨_, _, rfl, rfl, le_nlt h0⟩
  · simp only [if_neg h0]
    exact ⟨_, _, rfl, rfl, h⟩
theorem o_begin {Z : Nat} (hZ : Z ≤ 4096) (letter turn settled p1 p2 : Int32) (ht : turn = 0 ∨ turn = 1) (hs : settled = 0 ∨ settled = 1) (hl : ∃ lt : Nat, letter = nI lt ∧ (lt < Z ∨ (Z = 0 ∧ lt = 0))) : ∃ r letter' turn' settled', f_X8_begin (nI Z) letter turn settled p1 p2 = some (r, letter', turn', settled') ∧ f_X9_begin (nI Z) letter turn settled p1 p2 = some (r, letter', turn', settled') ∧ (turn' = 0 ∨ turn' = 1) ∧ (settled' = 0 ∨ settled' = 1) ∧ ∃ lt : Nat, letter' = nI lt ∧ (lt < Z ∨ (Z = 0 ∧ lt = 0)) := by
  unfold f_X8_begin f_X9_begin
  rcases ih_cases p2 with h | h
  · rw [ih8_yes h, ih9_yes h]
    simp only [bs, c10, if_false]
    rcases pk_ix p1 (n := Z) (by omega) with h2 | h2 | ⟨j, hj, rfl⟩
    · rw [il8_no (Or.inl h2), il9_no (by omega) (Or.inl h2)]
      simp only [bs, c00, if_true]
      exact ⟨_, _, _, _, rfl, rfl, ht, hs, hl⟩
    · rw [il8_no (Or.inr h2), il9_no (by omega) (Or.inr h2)]
      simp only [bs, c00, if_true]
      exact ⟨_, _, _, _, rfl, rfl, ht, hs, hl⟩
    · rw [il8_yes (by omega) hj, il9_yes (by omega) hj]
      simp only [bs, c10, if_false]
      exact ⟨_, _, _, _, rfl, rfl, h, Or.inl rfl, j, rfl, Or.inl hj⟩
  · rw [ih8_no h, ih9_no h]
    simp only [bs, c00, if_true]
    exact ⟨_, _, _, _, rfl, rfl, ht, hs, hl⟩
theorem h2n {h : Int32} (hh : h = 0 ∨ h = 1) : ixb h 2 = true ∧ (h.toNatClampNeg = 0 ∨ h.toNatClampNeg = 1) := by
  rcases hh with rfl | rfl <;> decide
theorem o_had (gained had : Nat → Int32) (p : Int32) (h0 : had 0 = gained 0) (h1 : had 1 = gained 1) : ∃ r, f_X8_had gained p = some r ∧ f_X9_had had p = some r := by
  unfold f_X8_had f_X9_had
  rcases ih_cases p with h | h
  · obtain ⟨a, b⟩ := h2n h
    rw [ih8_yes h, ih9_yes h]
    simp only [bs, c10, if_false]
    simp only [if_pos a]
    refine ⟨_, rfl, ?_⟩
    rcases b with b | b <;> rw [b]
    · rw [h0]
    · rw [h1]
  · rw [ih8_no h, ih9_no h]
    simp only [bs, c00, if_true]
    exact ⟨_, rfl, rfl⟩
/-- WORTH as both hold it -/
def WT (Z no nt : Nat) (one other worthOf : Nat → Int32) : Prop := Z ≤ no ∧ no ≤ 4096 ∧ Z ≤ nt ∧ nt ≤ 4096 ∧ ∀ c, c < Z → one c = worthOf (2 * c) ∧ other c = worthOf (2 * c + 1)
def wt (worthOf : Nat → Int32) (h : Int32) (c : Nat) : Int32 := if h = 0 then worthOf (2 * c) else worthOf (2 * c + 1)
theorem wt8_eq {Z no nt c : Nat} {one other worthOf : Nat → Int32} {h : Int32} (hW : WT Z no nt one other worthOf) (hc : c < Z) : f_X3_worthTo (nI Z) nt other no one h (nI c) = some (wt worthOf h c) := by
  obtain ⟨h1, h2, h3, h4, h5⟩ := hW
  unfold f_X3_worthTo wt
  rw [if_neg (nI_pos (by omega)), if_pos (nI_lt hc (by omega))]
  by_cases h0 : h = 0
  · rw [if_pos h0, if_pos h0, if_pos (ixb_nI (by omega) (by omega)), nI_clamp (by omega), (h5 c hc).1]
  · rw [if_neg h0, if_neg h0, if_pos (ixb_nI (by omega) (by omega)), nI_clamp (by omega), (h5 c hc).2]
theorem two_mul (c : Nat) : (2 : Int32) * nI c = nI (2 * c) := pk_mul 2 c
theorem wt9_ix {c : Nat} {h : Int32} (hh : h = 0 ∨ h = 1) (hc : c < 4096) : ixb (2 * nI c + h) 8192 = true ∧ ∀ worthOf : Nat → Int32, worthOf (2 * nI c + h).toNatClampNeg = wt worthOf h c := by
  rw [two_mul]
  rcases hh with rfl | rfl
  · rw [show nI (2 * c) + 0 = nI (2 * c) from Int32.add_zero _]
    exact ⟨ixb_nI (by omega) (by decide), fun w => by rw [nI_clamp (by omega)]; rfl⟩
  · rw [nI_1]
    exact ⟨ixb_nI (by omega) (by decide), fun w => by rw [nI_clamp (by omega)]; rfl⟩
theorem gb8_eq {Z no nt c : Nat} {one other worthOf gained : Nat → Int32} (hW : WT Z no nt one other worthOf) (hc : c < Z) : f_X8_giveBoth (nI c) (nI Z) nt other no one gained = some (upd (upd gained 0 (gained 0 + worthOf (2 * c))) 1 (gained 1 + worthOf (2 * c + 1))) := by
  unfold f_X8_giveBoth
  show f_X8_giveBoth_L2 _ _ _ _ _ _ (9997 + 1 + 1 + 1) _ _ = _
  rw [f_X8_giveBoth_L2.eq_2, if_neg (by decide), if_pos (by decide), wt8_eq hW hc, bs, if_pos (by decide), f_X8_giveBoth_L2.eq_2, if_neg (by decide), if_pos (by decide), wt8_eq hW hc, bs, if_pos (by decide), f_X8_giveBoth_L2.eq_2, if_pos (by decide)]
  rfl
theorem hb9_eq {c : Nat} {worthOf had : Nat → Int32} (hc : c < 4096) : f_X9_haveBoth (nI c) worthOf had = some (upd (upd had 0 (had 0 + worthOf (2 * c))) 1 (had 1 + worthOf (2 * c + 1))) := by
  unfold f_X9_haveBoth
  rw [two_mul, nI_1, if_pos (by decide), if_pos (ixb_nI (by omega) (by decide)), if_pos (by decide), if_pos (by decide), if_pos (ixb_nI (by omega) (by decide)), if_pos (by decide), nI_clamp (by omega), nI_clamp (by omega)]
  rfl
theorem o_settle {Z no nt : Nat} {one other worthOf gained had : Nat → Int32} (hW : WT Z no nt one other worthOf) (letter turn settled : Int32) (ht : turn = 0 ∨ turn = 1) (hs : settled = 0 ∨ settled = 1) (hl : ∃ lt : Nat, letter = nI lt ∧ (lt < Z ∨ (Z = 0 ∧ lt = 0))) (h0 : had 0 = gained 0) (h1 : had 1 = gained 1) : ∃ r settled' gained' had', f_X8_settle letter turn (nI Z) nt other no one settled gained = some (r, settled', gained') ∧ f_X9_settle (nI Z) letter turn worthOf settled had = some (r, settled', had') ∧ (settled' = 0 ∨ settled' = 1) ∧ had' 0 = gained' 0 ∧ had' 1 = gained' 1 := by
  unfold f_X8_settle f_X9_settle
  rcases hs with rfl | rfl
  · rw [if_pos rfl, if_pos rfl]
    obtain ⟨lt, rfl, hlt⟩ := hl
    rcases hlt with hlt | ⟨hz, -⟩
    · have hZ : Z ≤ 4096 := Nat.le_trans hW.1 hW.2.1
      obtain ⟨a, b⟩ := wt9_ix (c := lt) ht (by omega)
      rw [if_neg (nI_ne0 (by omega) (by omega)), if_neg (nI_ne0 (by omega) (by omega)), gb8_eq hW hlt, bs, wt8_eq hW hlt, bs, hb9_eq (by omega), bs, if_pos a, b worthOf]
      refine ⟨_, _, _, _, rfl, rfl, Or.inr rfl, ?_, ?_⟩
      · rw [pk_un (by decide), pk_us, pk_un (by decide), pk_us, h0]
      · rw [pk_us, pk_us, h1]
    · subst hz
      rw [if_pos nI_0, if_pos nI_0]
      exact ⟨_, _, _, _, rfl, rfl, Or.inl rfl, h0, h1⟩
  · rw [if_neg (by decide), if_neg (by decide)]
    exact ⟨_, _, _, _, rfl, rfl, Or.inr rfl, h0, h1⟩
theorem o_worth {Z no nt : Nat} {one other worthOf : Nat → Int32} (hW : WT Z no nt one other worthOf) (p1 p2 : Int32) : ∃ r, f_X8_worth (nI Z) nt other no one p1 p2 = some r ∧ f_X9_worth (nI Z) worthOf p1 p2 = some r := by
  have hZ : Z ≤ 4096 := Nat.le_trans hW.1 hW.2.1
  unfold f_X8_worth f_X9_worth
  rcases ih_cases p1 with h | h
  · rw [ih8_yes h, ih9_yes h]
    simp only [bs, c10, if_false]
    rcases pk_ix p2 (n := Z) (by omega) with h2 | h2 | ⟨j, hj, rfl⟩
    · rw [il8_no (Or.inl h2), il9_no (by omega) (Or.inl h2)]
      simp only [bs, c00, if_true]
      exact ⟨_, rfl, rfl⟩
    · rw [il8_no (Or.inr h2), il9_no (by omega) (Or.inr h2)]
      simp only [bs, c00, if_true]
      exact ⟨_, rfl, rfl⟩
    · obtain ⟨a, b⟩ := wt9_ix (c := j) h (by omega)
      rw [il8_yes (by omega) hj, il9_yes (by omega) hj]
      simp only [bs, c10, if_false]
      rw [wt8_eq hW hj, bs, if_pos a, b worthOf]
      exact ⟨_, rfl, rfl⟩
  · rw [ih8_no h, ih9_no h]
    simp only [bs, c00, if_true]
    exact ⟨_, rfl, rfl⟩
theorem o_at {N L Z ns : Nat} {sc sense st : Nat → Int32} (hC : CT N L Z ns sc sense st) (p1 p2 : Int32) : ∃ r, f_X8_at (nI Z) (nI L) (nI N) sc p1 p2 = some r ∧ f_X9_at (nI L) (nI N) (nI Z) p1 p2 = some r := by
  have hZ := hC.Z_le
  unfold f_X8_at f_X9_at
  rcases pk_ix p1 (n := Z) (by omega) with h2 | h2 | ⟨j, hj, rfl⟩
  · rw [il8_no (Or.inl h2), il9_no (by omega) (Or.inl h2)]
    simp only [bs, c00, if_true]
    exact ⟨_, rfl, rfl⟩
  · rw [il8_no (Or.inr h2), il9_no (by omega) (Or.inr h2)]
    simp only [bs, c00, if_true]
    exact ⟨_, rfl, rfl⟩
  · obtain ⟨q1, q2, q3, q4⟩ := hC.pos hj
    have hN := hC.1
    have hL := hC.2.1
    rw [il8_yes (by omega) hj, il9_yes (by omega) hj]
    simp only [bs, c10, if_false]
    rcases pk_ix p2 (n := L) (by omega) with h2 | h2 | ⟨k, hk, rfl⟩
    · rw [if_pos h2, inZ_no (by omega) (Or.inl h2), bs, if_pos rfl]
      exact ⟨_, rfl, rfl⟩
    · rw [inZ_no (by omega) (Or.inr h2), bs, if_pos rfl]
      split
      · exact ⟨_, rfl, rfl⟩
      · rw [if_neg (le_nlt h2)]
        exact ⟨_, rfl, rfl⟩
    · rw [if_neg (nI_pos (by omega)), if_pos (nI_lt hk (by omega)), inZ_yes (by omega) hk, bs, if_neg (by decide), w7_eq q4 q1 hN hL hk (by omega), bs, w9_eq q1 hN (by omega) (by omega), bs]
      exact ⟨_, rfl, rfl⟩
theorem o_stands {N L Z ns : Nat} {sc sense st : Nat → Int32} (hC : CT N L Z ns sc sense st) (p1 : Int32) : ∃ r, f_X8_stands (nI Z) ns sense p1 = some r ∧ f_X9_stands (nI Z) st p1 = some r := by
  have hZ := hC.Z_le
  unfold f_X8_stands f_X9_stands
  rcases pk_ix p1 (n := Z) (by omega) with h2 | h2 | ⟨j, hj, rfl⟩
  · rw [il8_no (Or.inl h2), il9_no (by omega) (Or.inl h2)]
    simp only [bs, c00, if_true]
    exact ⟨_, rfl, rfl⟩
  · rw [il8_no (Or.inr h2), il9_no (by omega) (Or.inr h2)]
    simp only [bs, c00, if_true]
    exact ⟨_, rfl, rfl⟩
  · obtain ⟨-, -, -, -, h5, h6, h7⟩ := hC
    obtain ⟨a, b⟩ := h7 j hj
    rw [il8_yes (by omega) hj, il9_yes (by omega) hj]
    simp only [bs, c10, if_false]
    rw [sn_eq h5 (by omega) hj, bs, if_pos (ixb_nI (by omega) (by decide)), nI_clamp (by omega), ← a]
    rcases b with b | b <;> rw [b]
    · exact ⟨0, rfl, rfl⟩
    · exact ⟨1, rfl, rfl⟩
theorem o_word {N : Nat} {w0 w1 kinds worths kind : Nat → Int32} (hN : N ≤ 8) (hk : ∀ w, w < N → kinds w = kind w ∧ w0 w = worths (2 * w) ∧ w1 w = worths (2 * w + 1)) (p1 p2 : Int32) : ∃ r, f_X8_word (nI N) w0 w1 kinds p1 p2 = some r ∧ f_X9_word (nI N) worths kind p1 p2 = some r := by
  unfold f_X8_word f_X9_word
  rcases pk_ix p1 (n := N) (by omega) with h2 | h2 | ⟨j, hj, rfl⟩
  · rw [iw8_no (Or.inl h2), iw9_no (by omega) (Or.inl h2)]
    simp only [bs, c00, if_true]
    exact ⟨_, rfl, rfl⟩
  · rw [iw8_no (Or.inr h2), iw9_no (by omega) (Or.inr h2)]
    simp only [bs, c00, if_true]
    exact ⟨_, rfl, rfl⟩
  · obtain ⟨a, b, c⟩ := hk j hj
    rw [iw8_yes (by omega) hj, iw9_yes (by omega) hj]
    simp only [bs, c10, if_false]
    by_cases hp : p2 = 0 ∨ p2 = 1 ∨ p2 = 2
    · rcases hp with rfl | rfl | rfl
      · rw [if_neg (by decide), if_pos (by decide), if_pos rfl, if_pos rfl, if_pos (ixb_nI (by omega) (by decide)), if_pos (ixb_nI (by omega) (by decide)), nI_clamp (by omega), a]
        exact ⟨_, rfl, rfl⟩
      · rw [if_neg (by decide), if_pos (by decide), if_neg (by decide), if_pos (by decide), if_pos (ixb_nI (by omega) (by decide)), if_neg (by decide), if_pos rfl, two_mul, if_pos (ixb_nI (by omega) (by decide)), nI_clamp (by omega), nI_clamp (by omega), b]
        exact ⟨_, rfl, rfl⟩
      · rw [if_neg (by decide), if_pos (by decide), if_neg (by decide), if_neg (by decide), if_pos (by decide), if_pos (ixb_nI (by omega) (by decide)), if_neg (by decide), if_neg (by decide), if_pos rfl, two_mul, nI_1, if_pos (ixb_nI (by omega) (by decide)), nI_clamp (by omega), nI_clamp (by omega), c]
        exact ⟨_, rfl, rfl⟩
    · have hn := fun h => hp ((le2_iff p2).mp h)
      have e0 : ¬ p2 = 0 := fun e => hp (Or.inl e)
      have e1 : ¬ p2 = 1 := fun e => hp (Or.inr (Or.inl e))
      have e2 : ¬ p2 = 2 := fun e => hp (Or.inr (Or.inr e))
      simp only [if_neg e0, if_neg e1, if_neg e2]
      by_cases h0 : p2 < 0
      · rw [if_pos h0]; exact ⟨_, rfl, rfl⟩
      · rw [if_neg h0, if_neg (fun h => hn ⟨h0, h⟩)]; exact ⟨_, rfl, rfl⟩
theorem o_write {Z k nb : Nat} {fb fm : Nat → Int32} (hZ : Z ≤ 4096) (hk : k ≤ 30) (hnb : nb = 30) (p1 : Int32) (hb : ∀ i, i < k → fb i = fm i) (hv : ∀ i, i < k → ∃ a, a < Z ∧ fm i = nI a) : ∃ r k' fb' fm', f_X8_write (nI Z) nb (nI k) fb p1 = some (r, nI k', fb') ∧ f_X9_write (nI Z) (nI k) fm p1 = some (r, nI k', fm') ∧ k' ≤ 30 ∧ (∀ i, i < k' → fb' i = fm' i) ∧ ∀ i, i < k' → ∃ a, a < Z ∧ fm' i = nI a := by
  subst hnb
  unfold f_X8_write f_X9_write
  rcases pk_ix p1 (n := Z) (by omega) with h2 | h2 | ⟨j, hj, rfl⟩
  · rw [il8_no (Or.inl h2), il9_no (by omega) (Or.inl h2)]
    simp only [bs, c00, if_true]
    exact ⟨_, k, _, _, rfl, rfl, hk, hb, hv⟩
  · rw [il8_no (Or.inr h2), il9_no (by omega) (Or.inr h2)]
    simp only [bs, c00, if_true]
    exact ⟨_, k, _, _, rfl, rfl, hk, hb, hv⟩
  · rw [il8_yes (by omega) hj, il9_yes (by omega) hj]
    simp only [bs, c10, if_false]
    have e30 : (30 : Int32) = nI 30 := rfl
    rw [e30]
    by_cases h : k = 30
    · subst h
      rw [if_neg (by decide), if_pos rfl]
      exact ⟨_, 30, _, _, rfl, rfl, hk, hb, hv⟩
    · rw [if_pos (nI_lt (by omega) (by decide)), if_neg (fun e => h (nI_inj (by omega) (by omega) e)), add_eq (by omega) (by decide), bs, if_pos (ixb_nI (by omega) (by decide)), nI_clamp (by omega), nI_1]
      refine ⟨_, k + 1, upd fb k (nI j), _, rfl, rfl, by omega, fun i hi => ?_, fun i hi => ?_⟩
      · by_cases e : i = k
        · subst e; rw [pk_us, pk_us]
        · rw [pk_un e, pk_un e]; exact hb i (by omega)
      · by_cases e : i = k
        · subst e; rw [pk_us]; exact ⟨j, hj, rfl⟩
        · rw [pk_un e]; exact hv i (by omega)
theorem o_tear (g b : Int32) : ∃ r, f_X8_tear g b = some (r, 0, 0) ∧ f_X9_tear g b = some (r, 0, 0) := ⟨_, rfl, rfl⟩
