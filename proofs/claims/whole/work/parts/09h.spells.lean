/-! the words of the text: spells of the class, said of the reference -/
theorem sp_letter {len s : Nat} {tx : Nat → Nat} {t8 t9 : Nat → Int32} (hT : TX len tx t8 t9) (hs : s ≤ len) : f_X5_spells_letter (nI (wend tx len s)) (nI s) t8 = some (if sdn tx s (wend tx len s - s) = cd [114, 101, 116, 116, 101, 108] then 1 else 0) := by
  obtain ⟨hlen, ht⟩ := id hT
  have hb : s ≤ wend tx len s ∧ wend tx len s ≤ len := rg_b hs
  have hin : ∀ j, s ≤ j → j < s + (wend tx len s - s) → 97 ≤ tx j ∧ tx j ≤ 122 := fun j h1 h2 => rg_in (len := len) h1 (by unfold wend at h2 hb; omega)
  have key := sdn_cd (tx := tx) (p := s) [114, 101, 116, 116, 101, 108] (wend tx len s - s) (by decide) (by decide) hin
  unfold f_X5_spells_letter
  rw [pk_sub hb.1]
  by_cases hl : wend tx len s - s = 6
  case neg =>
    rw [if_neg (fun q => hl (nI_inj (by omega) (by omega) q)), if_neg (fun q => hl (key.mp q).1)]
  rw [hl] at key ⊢
  rw [if_pos rfl]
  have i0 : nI s + (0) = nI (s + 0) := nI_add s 0
  have j0 := ht (s + 0) (by omega)
  have i1 : nI s + (0 + 1) = nI (s + 1) := nI_add s 1
  have j1 := ht (s + 1) (by omega)
  have i2 : nI s + ((0 + 1) + 1) = nI (s + 2) := nI_add s 2
  have j2 := ht (s + 2) (by omega)
  have i3 : nI s + (((0 + 1) + 1) + 1) = nI (s + 3) := nI_add s 3
  have j3 := ht (s + 3) (by omega)
  have i4 : nI s + ((((0 + 1) + 1) + 1) + 1) = nI (s + 4) := nI_add s 4
  have j4 := ht (s + 4) (by omega)
  have i5 : nI s + (((((0 + 1) + 1) + 1) + 1) + 1) = nI (s + 5) := nI_add s 5
  have j5 := ht (s + 5) (by omega)
  simp only [i0, i1, i2, i3, i4, i5, if_pos (ixb_nI (show s + 0 < 500 by omega) (by decide)), nI_clamp (show s + 0 < 2 ^ 31 by omega), j0.2.2, if_pos (ixb_nI (show s + 1 < 500 by omega) (by decide)), nI_clamp (show s + 1 < 2 ^ 31 by omega), j1.2.2, if_pos (ixb_nI (show s + 2 < 500 by omega) (by decide)), nI_clamp (show s + 2 < 2 ^ 31 by omega), j2.2.2, if_pos (ixb_nI (show s + 3 < 500 by omega) (by decide)), nI_clamp (show s + 3 < 2 ^ 31 by omega), j3.2.2, if_pos (ixb_nI (show s + 4 < 500 by omega) (by decide)), nI_clamp (show s + 4 < 2 ^ 31 by omega), j4.2.2, if_pos (ixb_nI (show s + 5 < 500 by omega) (by decide)), nI_clamp (show s + 5 < 2 ^ 31 by omega), j5.2.2]
  have q0 : sb (tx (s + 0)) = 108 ↔ tx (s + 0) = 108 := sb_eq (c := 108) j0.1 (by decide)
  by_cases h0 : tx (s + 0) = 108
  case neg =>
    rw [if_neg (fun q => h0 (q0.mp q)), if_neg (fun q => by
      obtain ⟨m5, m4, m3, m2, m1, m0, -⟩ := (key.mp q).2
      exact h0 m0)]
  rw [if_pos (q0.mpr h0)]
  have q1 : sb (tx (s + 1)) = 101 ↔ tx (s + 1) = 101 := sb_eq (c := 101) j1.1 (by decide)
  by_cases h1 : tx (s + 1) = 101
  case neg =>
    rw [if_neg (fun q => h1 (q1.mp q)), if_neg (fun q => by
      obtain ⟨m5, m4, m3, m2, m1, m0, -⟩ := (key.mp q).2
      exact h1 m1)]
  rw [if_pos (q1.mpr h1)]
  have q2 : sb (tx (s + 2)) = 116 ↔ tx (s + 2) = 116 := sb_eq (c := 116) j2.1 (by decide)
  by_cases h2 : tx (s + 2) = 116
  case neg =>
    rw [if_neg (fun q => h2 (q2.mp q)), if_neg (fun q => by
      obtain ⟨m5, m4, m3, m2, m1, m0, -⟩ := (key.mp q).2
      exact h2 m2)]
  rw [if_pos (q2.mpr h2)]
  have q3 : sb (tx (s + 3)) = 116 ↔ tx (s + 3) = 116 := sb_eq (c := 116) j3.1 (by decide)
  by_cases h3 : tx (s + 3) = 116
  case neg =>
    rw [if_neg (fun q => h3 (q3.mp q)), if_neg (fun q => by
      obtain ⟨m5, m4, m3, m2, m1, m0, -⟩ := (key.mp q).2
      exact h3 m3)]
  rw [if_pos (q3.mpr h3)]
  have q4 : sb (tx (s + 4)) = 101 ↔ tx (s + 4) = 101 := sb_eq (c := 101) j4.1 (by decide)
  by_cases h4 : tx (s + 4) = 101
  case neg =>
    rw [if_neg (fun q => h4 (q4.mp q)), if_neg (fun q => by
      obtain ⟨m5, m4, m3, m2, m1, m0, -⟩ := (key.mp q).2
      exact h4 m4)]
  rw [if_pos (q4.mpr h4)]
  have q5 : sb (tx (s + 5)) = 114 ↔ tx (s + 5) = 114 := sb_eq (c := 114) j5.1 (by decide)
  by_cases h5 : tx (s + 5) = 114
  case neg =>
    rw [if_neg (fun q => h5 (q5.mp q)), if_neg (fun q => by
      obtain ⟨m5, m4, m3, m2, m1, m0, -⟩ := (key.mp q).2
      exact h5 m5)]
  rw [if_pos (q5.mpr h5)]
  rw [if_pos (key.mpr ⟨rfl, ⟨h5, h4, h3, h2, h1, h0, trivial⟩⟩)]
theorem sp_word {len s : Nat} {tx : Nat → Nat} {t8 t9 : Nat → Int32} (hT : TX len tx t8 t9) (hs : s ≤ len) : f_X5_spells_word (nI (wend tx len s)) (nI s) t8 = some (if sdn tx s (wend tx len s - s) = cd [100, 114, 111, 119] then 1 else 0) := by
  obtain ⟨hlen, ht⟩ := id hT
  have hb : s ≤ wend tx len s ∧ wend tx len s ≤ len := rg_b hs
  have hin : ∀ j, s ≤ j → j < s + (wend tx len s - s) → 97 ≤ tx j ∧ tx j ≤ 122 := fun j h1 h2 => rg_in (len := len) h1 (by unfold wend at h2 hb; omega)
  have key := sdn_cd (tx := tx) (p := s) [100, 114, 111, 119] (wend tx len s - s) (by decide) (by decide) hin
  unfold f_X5_spells_word
  rw [pk_sub hb.1]
  by_cases hl : wend tx len s - s = 4
  case neg =>
    rw [if_neg (fun q => hl (nI_inj (by omega) (by omega) q)), if_neg (fun q => hl (key.mp q).1)]
  rw [hl] at key ⊢
  rw [if_pos rfl]
  have i0 : nI s + (0) = nI (s + 0) := nI_add s 0
  have j0 := ht (s + 0) (by omega)
  have i1 : nI s + (0 + 1) = nI (s + 1) := nI_add s 1
  have j1 := ht (s + 1) (by omega)
  have i2 : nI s + ((0 + 1) + 1) = nI (s + 2) := nI_add s 2
  have j2 := ht (s + 2) (by omega)
  have i3 : nI s + (((0 + 1) + 1) + 1) = nI (s + 3) := nI_add s 3
  have j3 := ht (s + 3) (by omega)
  simp only [i0, i1, i2, i3, if_pos (ixb_nI (show s + 0 < 500 by omega) (by decide)), nI_clamp (show s + 0 < 2 ^ 31 by omega), j0.2.2, if_pos (ixb_nI (show s + 1 < 500 by omega) (by decide)), nI_clamp (show s + 1 < 2 ^ 31 by omega), j1.2.2, if_pos (ixb_nI (show s + 2 < 500 by omega) (by decide)), nI_clamp (show s + 2 < 2 ^ 31 by omega), j2.2.2, if_pos (ixb_nI (show s + 3 < 500 by omega) (by decide)), nI_clamp (show s + 3 < 2 ^ 31 by omega), j3.2.2]
  have q0 : sb (tx (s + 0)) = 119 ↔ tx (s + 0) = 119 := sb_eq (c := 119) j0.1 (by decide)
  by_cases h0 : tx (s + 0) = 119
  case neg =>
    rw [if_neg (fun q => h0 (q0.mp q)), if_neg (fun q => by
      obtain ⟨m3, m2, m1, m0, -⟩ := (key.mp q).2
      exact h0 m0)]
  rw [if_pos (q0.mpr h0)]
  have q1 : sb (tx (s + 1)) = 111 ↔ tx (s + 1) = 111 := sb_eq (c := 111) j1.1 (by decide)
  by_cases h1 : tx (s + 1) = 111
  case neg =>
    rw [if_neg (fun q => h1 (q1.mp q)), if_neg (fun q => by
      obtain ⟨m3, m2, m1, m0, -⟩ := (key.mp q).2
      exact h1 m1)]
  rw [if_pos (q1.mpr h1)]
  have q2 : sb (tx (s + 2)) = 114 ↔ tx (s + 2) = 114 := sb_eq (c := 114) j2.1 (by decide)
  by_cases h2 : tx (s + 2) = 114
  case neg =>
    rw [if_neg (fun q => h2 (q2.mp q)), if_neg (fun q => by
      obtain ⟨m3, m2, m1, m0, -⟩ := (key.mp q).2
      exact h2 m2)]
  rw [if_pos (q2.mpr h2)]
  have q3 : sb (tx (s + 3)) = 100 ↔ tx (s + 3) = 100 := sb_eq (c := 100) j3.1 (by decide)
  by_cases h3 : tx (s + 3) = 100
  case neg =>
    rw [if_neg (fun q => h3 (q3.mp q)), if_neg (fun q => by
      obtain ⟨m3, m2, m1, m0, -⟩ := (key.mp q).2
      exact h3 m3)]
  rw [if_pos (q3.mpr h3)]
  rw [if_pos (key.mpr ⟨rfl, ⟨h3, h2, h1, h0, trivial⟩⟩)]
theorem sp_frame {len s : Nat} {tx : Nat → Nat} {t8 t9 : Nat → Int32} (hT : TX len tx t8 t9) (hs : s ≤ len) : f_X5_spells_frame (nI (wend tx len s)) (nI s) t8 = some (if sdn tx s (wend tx len s - s) = cd [101, 109, 97, 114, 102] then 1 else 0) := by
  obtain ⟨hlen, ht⟩ := id hT
  have hb : s ≤ wend tx len s ∧ wend tx len s ≤ len := rg_b hs
  have hin : ∀ j, s ≤ j → j < s + (wend tx len s - s) → 97 ≤ tx j ∧ tx j ≤ 122 := fun j h1 h2 => rg_in (len := len) h1 (by unfold wend at h2 hb; omega)
  have key := sdn_cd (tx := tx) (p := s) [101, 109, 97, 114, 102] (wend tx len s - s) (by decide) (by decide) hin
  unfold f_X5_spells_frame
  rw [pk_sub hb.1]
  by_cases hl : wend tx len s - s = 5
  case neg =>
    rw [if_neg (fun q => hl (nI_inj (by omega) (by omega) q)), if_neg (fun q => hl (key.mp q).1)]
  rw [hl] at key ⊢
  rw [if_pos rfl]
  have i0 : nI s + (0) = nI (s + 0) := nI_add s 0
  have j0 := ht (s + 0) (by omega)
  have i1 : nI s + (0 + 1) = nI (s + 1) := nI_add s 1
  have j1 := ht (s + 1) (by omega)
  have i2 : nI s + ((0 + 1) + 1) = nI (s + 2) := nI_add s 2
  have j2 := ht (s + 2) (by omega)
  have i3 : nI s + (((0 + 1) + 1) + 1) = nI (s + 3) := nI_add s 3
  have j3 := ht (s + 3) (by omega)
  have i4 : nI s + ((((0 + 1) + 1) + 1) + 1) = nI (s + 4) := nI_add s 4
  have j4 := ht (s + 4) (by omega)
  simp only [i0, i1, i2, i3, i4, if_pos (ixb_nI (show s + 0 < 500 by omega) (by decide)), nI_clamp (show s + 0 < 2 ^ 31 by omega), j0.2.2, if_pos (ixb_nI (show s + 1 < 500 by omega) (by decide)), nI_clamp (show s + 1 < 2 ^ 31 by omega), j1.2.2, if_pos (ixb_nI (show s + 2 < 500 by omega) (by decide)), nI_clamp (show s + 2 < 2 ^ 31 by omega), j2.2.2, if_pos (ixb_nI (show s + 3 < 500 by omega) (by decide)), nI_clamp (show s + 3 < 2 ^ 31 by omega), j3.2.2, if_pos (ixb_nI (show s + 4 < 500 by omega) (by decide)), nI_clamp (show s + 4 < 2 ^ 31 by omega), j4.2.2]
  have q0 : sb (tx (s + 0)) = 102 ↔ tx (s + 0) = 102 := sb_eq (c := 102) j0.1 (by decide)
  by_cases h0 : tx (s + 0) = 102
  case neg =>
    rw [if_neg (fun q => h0 (q0.mp q)), if_neg (fun q => by
      obtain ⟨m4, m3, m2, m1, m0, -⟩ := (key.mp q).2
      exact h0 m0)]
  rw [if_pos (q0.mpr h0)]
  have q1 : sb (tx (s + 1)) = 114 ↔ tx (s + 1) = 114 := sb_eq (c := 114) j1.1 (by decide)
  by_cases h1 : tx (s + 1) = 114
  case neg =>
    rw [if_neg (fun q => h1 (q1.mp q)), if_neg (fun q => by
      obtain ⟨m4, m3, m2, m1, m0, -⟩ := (key.mp q).2
      exact h1 m1)]
  rw [if_pos (q1.mpr h1)]
  have q2 : sb (tx (s + 2)) = 97 ↔ tx (s + 2) = 97 := sb_eq (c := 97) j2.1 (by decide)
  by_cases h2 : tx (s + 2) = 97
  case neg =>
    rw [if_neg (fun q => h2 (q2.mp q)), if_neg (fun q => by
      obtain ⟨m4, m3, m2, m1, m0, -⟩ := (key.mp q).2
      exact h2 m2)]
  rw [if_pos (q2.mpr h2)]
  have q3 : sb (tx (s + 3)) = 109 ↔ tx (s + 3) = 109 := sb_eq (c := 109) j3.1 (by decide)
  by_cases h3 : tx (s + 3) = 109
  case neg =>
    rw [if_neg (fun q => h3 (q3.mp q)), if_neg (fun q => by
      obtain ⟨m4, m3, m2, m1, m0, -⟩ := (key.mp q).2
      exact h3 m3)]
  rw [if_pos (q3.mpr h3)]
  have q4 : sb (tx (s + 4)) = 101 ↔ tx (s + 4) = 101 := sb_eq (c := 101) j4.1 (by decide)
  by_cases h4 : tx (s + 4) = 101
  case neg =>
    rw [if_neg (fun q => h4 (q4.mp q)), if_neg (fun q => by
      obtain ⟨m4, m3, m2, m1, m0, -⟩ := (key.mp q).2
      exact h4 m4)]
  rw [if_pos (q4.mpr h4)]
  rw [if_pos (key.mpr ⟨rfl, ⟨h4, h3, h2, h1, h0, trivial⟩⟩)]
theorem sp_pair {len s : Nat} {tx : Nat → Nat} {t8 t9 : Nat → Int32} (hT : TX len tx t8 t9) (hs : s ≤ len) : f_X5_spells_pair (nI (wend tx len s)) (nI s) t8 = some (if sdn tx s (wend tx len s - s) = cd [114, 105, 97, 112] then 1 else 0) := by
  obtain ⟨hlen, ht⟩ := id hT
  have hb : s ≤ wend tx len s ∧ wend tx len s ≤ len := rg_b hs
  have hin : ∀ j, s ≤ j → j < s + (wend tx len s - s) → 97 ≤ tx j ∧ tx j ≤ 122 := fun j h1 h2 => rg_in (len := len) h1 (by unfold wend at h2 hb; omega)
  have key := sdn_cd (tx := tx) (p := s) [114, 105, 97, 112] (wend tx len s - s) (by decide) (by decide) hin
  unfold f_X5_spells_pair
  rw [pk_sub hb.1]
  by_cases hl : wend tx len s - s = 4
  case neg =>
    rw [if_neg (fun q => hl (nI_inj (by omega) (by omega) q)), if_neg (fun q => hl (key.mp q).1)]
  rw [hl] at key ⊢
  rw [if_pos rfl]
  have i0 : nI s + (0) = nI (s + 0) := nI_add s 0
  have j0 := ht (s + 0) (by omega)
  have i1 : nI s + (0 + 1) = nI (s + 1) := nI_add s 1
  have j1 := ht (s + 1) (by omega)
  have i2 : nI s + ((0 + 1) + 1) = nI (s + 2) := nI_add s 2
  have j2 := ht (s + 2) (by omega)
  have i3 : nI s + (((0 + 1) + 1) + 1) = nI (s + 3) := nI_add s 3
  have j3 := ht (s + 3) (by omega)
  simp only [i0, i1, i2, i3, if_pos (ixb_nI (show s + 0 < 500 by omega) (by decide)), nI_clamp (show s + 0 < 2 ^ 31 by omega), j0.2.2, if_pos (ixb_nI (show s + 1 < 500 by omega) (by decide)), nI_clamp (show s + 1 < 2 ^ 31 by omega), j1.2.2, if_pos (ixb_nI (show s + 2 < 500 by omega) (by decide)), nI_clamp (show s + 2 < 2 ^ 31 by omega), j2.2.2, if_pos (ixb_nI (show s + 3 < 500 by omega) (by decide)), nI_clamp (show s + 3 < 2 ^ 31 by omega), j3.2.2]
  have q0 : sb (tx (s + 0)) = 112 ↔ tx (s + 0) = 112 := sb_eq (c := 112) j0.1 (by decide)
  by_cases h0 : tx (s + 0) = 112
  case neg =>
    rw [if_neg (fun q => h0 (q0.mp q)), if_neg (fun q => by
      obtain ⟨m3, m2, m1, m0, -⟩ := (key.mp q).2
      exact h0 m0)]
  rw [if_pos (q0.mpr h0)]
  have q1 : sb (tx (s + 1)) = 97 ↔ tx (s + 1) = 97 := sb_eq (c := 97) j1.1 (by decide)
  by_cases h1 : tx (s + 1) = 97
  case neg =>
    rw [if_neg (fun q => h1 (q1.mp q)), if_neg (fun q => by
      obtain ⟨m3, m2, m1, m0, -⟩ := (key.mp q).2
      exact h1 m1)]
  rw [if_pos (q1.mpr h1)]
  have q2 : sb (tx (s + 2)) = 105 ↔ tx (s + 2) = 105 := sb_eq (c := 105) j2.1 (by decide)
  by_cases h2 : tx (s + 2) = 105
  case neg =>
    rw [if_neg (fun q => h2 (q2.mp q)), if_neg (fun q => by
      obtain ⟨m3, m2, m1, m0, -⟩ := (key.mp q).2
      exact h2 m2)]
  rw [if_pos (q2.mpr h2)]
  have q3 : sb (tx (s + 3)) = 114 ↔ tx (s + 3) = 114 := sb_eq (c := 114) j3.1 (by decide)
  by_cases h3 : tx (s + 3) = 114
  case neg =>
    rw [if_neg (fun q => h3 (q3.mp q)), if_neg (fun q => by
      obtain ⟨m3, m2, m1, m0, -⟩ := (key.mp q).2
      exact h3 m3)]
  rw [if_pos (q3.mpr h3)]
  rw [if_pos (key.mpr ⟨rfl, ⟨h3, h2, h1, h0, trivial⟩⟩)]
theorem sp_name {len s : Nat} {tx : Nat → Nat} {t8 t9 : Nat → Int32} (hT : TX len tx t8 t9) (hs : s ≤ len) : f_X5_spells_name (nI (wend tx len s)) (nI s) t8 = some (if sdn tx s (wend tx len s - s) = cd [101, 109, 97, 110] then 1 else 0) := by
  obtain ⟨hlen, ht⟩ := id hT
  have hb : s ≤ wend tx len s ∧ wend tx len s ≤ len := rg_b hs
  have hin : ∀ j, s ≤ j → j < s + (wend tx len s - s) → 97 ≤ tx j ∧ tx j ≤ 122 := fun j h1 h2 => rg_in (len := len) h1 (by unfold wend at h2 hb; omega)
  have key := sdn_cd (tx := tx) (p := s) [101, 109, 97, 110] (wend tx len s - s) (by decide) (by decide) hin
  unfold f_X5_spells_name
  rw [pk_sub hb.1]
  by_cases hl : wend tx len s - s = 4
  case neg =>
    rw [if_neg (fun q => hl (nI_inj (by omega) (by omega) q)), if_neg (fun q => hl (key.mp q).1)]
  rw [hl] at key ⊢
  rw [if_pos rfl]
  have i0 : nI s + (0) = nI (s + 0) := nI_add s 0
  have j0 := ht (s + 0) (by omega)
  have i1 : nI s + (0 + 1) = nI (s + 1) := nI_add s 1
  have j1 := ht (s + 1) (by omega)
  have i2 : nI s + ((0 + 1) + 1) = nI (s + 2) := nI_add s 2
  have j2 := ht (s + 2) (by omega)
  have i3 : nI s + (((0 + 1) + 1) + 1) = nI (s + 3) := nI_add s 3
  have j3 := ht (s + 3) (by omega)
  simp only [i0, i1, i2, i3, if_pos (ixb_nI (show s + 0 < 500 by omega) (by decide)), nI_clamp (show s + 0 < 2 ^ 31 by omega), j0.2.2, if_pos (ixb_nI (show s + 1 < 500 by omega) (by decide)), nI_clamp (show s + 1 < 2 ^ 31 by omega), j1.2.2, if_pos (ixb_nI (show s + 2 < 500 by omega) (by decide)), nI_clamp (show s + 2 < 2 ^ 31 by omega), j2.2.2, if_pos (ixb_nI (show s + 3 < 500 by omega) (by decide)), nI_clamp (show s + 3 < 2 ^ 31 by omega), j3.2.2]
  have q0 : sb (tx (s + 0)) = 110 ↔ tx (s + 0) = 110 := sb_eq (c := 110) j0.1 (by decide)
  by_cases h0 : tx (s + 0) = 110
  case neg =>
    rw [if_neg (fun q => h0 (q0.mp q)), if_neg (fun q => by
      obtain ⟨m3, m2, m1, m0, -⟩ := (key.mp q).2
      exact h0 m0)]
  rw [if_pos (q0.mpr h0)]
  have q1 : sb (tx (s + 1)) = 97 ↔ tx (s + 1) = 97 := sb_eq (c := 97) j1.1 (by decide)
  by_cases h1 : tx (s + 1) = 97
  case neg =>
    rw [if_neg (fun q => h1 (q1.mp q)), if_neg (fun q => by
      obtain ⟨m3, m2, m1, m0, -⟩ := (key.mp q).2
      exact h1 m1)]
  rw [if_pos (q1.mpr h1)]
  have q2 : sb (tx (s + 2)) = 109 ↔ tx (s + 2) = 109 := sb_eq (c := 109) j2.1 (by decide)
  by_cases h2 : tx (s + 2) = 109
  case neg =>
    rw [if_neg (fun q => h2 (q2.mp q)), if_neg (fun q => by
      obtain ⟨m3, m2, m1, m0, -⟩ := (key.mp q).2
      exact h2 m2)]
  rw [if_pos (q2.mpr h2)]
  have q3 : sb (tx (s + 3)) = 101 ↔ tx (s + 3) = 101 := sb_eq (c := 101) j3.1 (by decide)
  by_cases h3 : tx (s + 3) = 101
  case neg =>
    rw [if_neg (fun q => h3 (q3.mp q)), if_neg (fun q => by
      obtain ⟨m3, m2, m1, m0, -⟩ := (key.mp q).2
      exact h3 m3)]
  rw [if_pos (q3.mpr h3)]
  rw [if_pos (key.mpr ⟨rfl, ⟨h3, h2, h1, h0, trivial⟩⟩)]
theorem sp_deed {len s : Nat} {tx : Nat → Nat} {t8 t9 : Nat → Int32} (hT : TX len tx t8 t9) (hs : s ≤ len) : f_X5_spells_deed (nI (wend tx len s)) (nI s) t8 = some (if sdn tx s (wend tx len s - s) = cd [100, 101, 101, 100] then 1 else 0) := by
  obtain ⟨hlen, ht⟩ := id hT
  have hb : s ≤ wend tx len s ∧ wend tx len s ≤ len := rg_b hs
  have hin : ∀ j, s ≤ j → j < s + (wend tx len s - s) → 97 ≤ tx j ∧ tx j ≤ 122 := fun j h1 h2 => rg_in (len := len) h1 (by unfold wend at h2 hb; omega)
  have key := sdn_cd (tx := tx) (p := s) [100, 101, 101, 100] (wend tx len s - s) (by decide) (by decide) hin
  unfold f_X5_spells_deed
  rw [pk_sub hb.1]
  by_cases hl : wend tx len s - s = 4
  case neg =>
    rw [if_neg (fun q => hl (nI_inj (by omega) (by omega) q)), if_neg (fun q => hl (key.mp q).1)]
  rw [hl] at key ⊢
  rw [if_pos rfl]
  have i0 : nI s + (0) = nI (s + 0) := nI_add s 0
  have j0 := ht (s + 0) (by omega)
  have i1 : nI s + (0 + 1) = nI (s + 1) := nI_add s 1
  have j1 := ht (s + 1) (by omega)
  have i2 : nI s + ((0 + 1) + 1) = nI (s + 2) := nI_add s 2
  have j2 := ht (s + 2) (by omega)
  have i3 : nI s + (((0 + 1) + 1) + 1) = nI (s + 3) := nI_add s 3
  have j3 := ht (s + 3) (by omega)
  simp only [i0, i1, i2, i3, if_pos (ixb_nI (show s + 0 < 500 by omega) (by decide)), nI_clamp (show s + 0 < 2 ^ 31 by omega), j0.2.2, if_pos (ixb_nI (show s + 1 < 500 by omega) (by decide)), nI_clamp (show s + 1 < 2 ^ 31 by omega), j1.2.2, if_pos (ixb_nI (show s + 2 < 500 by omega) (by decide)), nI_clamp (show s + 2 < 2 ^ 31 by omega), j2.2.2, if_pos (ixb_nI (show s + 3 < 500 by omega) (by decide)), nI_clamp (show s + 3 < 2 ^ 31 by omega), j3.2.2]
  have q0 : sb (tx (s + 0)) = 100 ↔ tx (s + 0) = 100 := sb_eq (c := 100) j0.1 (by decide)
  by_cases h0 : tx (s + 0) = 100
  case neg =>
    rw [if_neg (fun q => h0 (q0.mp q)), if_neg (fun q => by
      obtain ⟨m3, m2, m1, m0, -⟩ := (key.mp q).2
      exact h0 m0)]
  rw [if_pos (q0.mpr h0)]
  have q1 : sb (tx (s + 1)) = 101 ↔ tx (s + 1) = 101 := sb_eq (c := 101) j1.1 (by decide)
  by_cases h1 : tx (s + 1) = 101
  case neg =>
    rw [if_neg (fun q => h1 (q1.mp q)), if_neg (fun q => by
      obtain ⟨m3, m2, m1, m0, -⟩ := (key.mp q).2
      exact h1 m1)]
  rw [if_pos (q1.mpr h1)]
  have q2 : sb (tx (s + 2)) = 101 ↔ tx (s + 2) = 101 := sb_eq (c := 101) j2.1 (by decide)
  by_cases h2 : tx (s + 2) = 101
  case neg =>
    rw [if_neg (fun q => h2 (q2.mp q)), if_neg (fun q => by
      obtain ⟨m3, m2, m1, m0, -⟩ := (key.mp q).2
      exact h2 m2)]
  rw [if_pos (q2.mpr h2)]
  have q3 : sb (tx (s + 3)) = 100 ↔ tx (s + 3) = 100 := sb_eq (c := 100) j3.1 (by decide)
  by_cases h3 : tx (s + 3) = 100
  case neg =>
    rw [if_neg (fun q => h3 (q3.mp q)), if_neg (fun q => by
      obtain ⟨m3, m2, m1, m0, -⟩ := (key.mp q).2
      exact h3 m3)]
  rw [if_pos (q3.mpr h3)]
  rw [if_pos (key.mpr ⟨rfl, ⟨h3, h2, h1, h0, trivial⟩⟩)]
theorem sp_link {len s : Nat} {tx : Nat → Nat} {t8 t9 : Nat → Int32} (hT : TX len tx t8 t9) (hs : s ≤ len) : f_X5_spells_link (nI (wend tx len s)) (nI s) t8 = some (if sdn tx s (wend tx len s - s) = cd [107, 110, 105, 108] then 1 else 0) := by
  obtain ⟨hlen, ht⟩ := id hT
  have hb : s ≤ wend tx len s ∧ wend tx len s ≤ len := rg_b hs
  have hin : ∀ j, s ≤ j → j < s + (wend tx len s - s) → 97 ≤ tx j ∧ tx j ≤ 122 := fun j h1 h2 => rg_in (len := len) h1 (by unfold wend at h2 hb; omega)
  have key := sdn_cd (tx := tx) (p := s) [107, 110, 105, 108] (wend tx len s - s) (by decide) (by decide) hin
  unfold f_X5_spells_link
  rw [pk_sub hb.1]
  by_cases hl : wend tx len s - s = 4
  case neg =>
    rw [if_neg (fun q => hl (nI_inj (by omega) (by omega) q)), if_neg (fun q => hl (key.mp q).1)]
  rw [hl] at key ⊢
  rw [if_pos rfl]
  have i0 : nI s + (0) = nI (s + 0) := nI_add s 0
  have j0 := ht (s + 0) (by omega)
  have i1 : nI s + (0 + 1) = nI (s + 1) := nI_add s 1
  have j1 := ht (s + 1) (by omega)
  have i2 : nI s + ((0 + 1) + 1) = nI (s + 2) := nI_add s 2
  have j2 := ht (s + 2) (by omega)
  have i3 : nI s + (((0 + 1) + 1) + 1) = nI (s + 3) := nI_add s 3
  have j3 := ht (s + 3) (by omega)
  simp only [i0, i1, i2, i3, if_pos (ixb_nI (show s + 0 < 500 by omega) (by decide)), nI_clamp (show s + 0 < 2 ^ 31 by omega), j0.2.2, if_pos (ixb_nI (show s + 1 < 500 by omega) (by decide)), nI_clamp (show s + 1 < 2 ^ 31 by omega), j1.2.2, if_pos (ixb_nI (show s + 2 < 500 by omega) (by decide)), nI_clamp (show s + 2 < 2 ^ 31 by omega), j2.2.2, if_pos (ixb_nI (show s + 3 < 500 by omega) (by decide)), nI_clamp (show s + 3 < 2 ^ 31 by omega), j3.2.2]
  have q0 : sb (tx (s + 0)) = 108 ↔ tx (s + 0) = 108 := sb_eq (c := 108) j0.1 (by decide)
  by_cases h0 : tx (s + 0) = 108
  case neg =>
    rw [if_neg (fun q => h0 (q0.mp q)), if_neg (fun q => by
      obtain ⟨m3, m2, m1, m0, -⟩ := (key.mp q).2
      exact h0 m0)]
  rw [if_pos (q0.mpr h0)]
  have q1 : sb (tx (s + 1)) = 105 ↔ tx (s + 1) = 105 := sb_eq (c := 105) j1.1 (by decide)
  by_cases h1 : tx (s + 1) = 105
  case neg =>
    rw [if_neg (fun q => h1 (q1.mp q)), if_neg (fun q => by
      obtain ⟨m3, m2, m1, m0, -⟩ := (key.mp q).2
      exact h1 m1)]
  rw [if_pos (q1.mpr h1)]
  have q2 : sb (tx (s + 2)) = 110 ↔ tx (s + 2) = 110 := sb_eq (c := 110) j2.1 (by decide)
  by_cases h2 : tx (s + 2) = 110
  case neg =>
    rw [if_neg (fun q => h2 (q2.mp q)), if_neg (fun q => by
      obtain ⟨m3, m2, m1, m0, -⟩ := (key.mp q).2
      exact h2 m2)]
  rw [if_pos (q2.mpr h2)]
  have q3 : sb (tx (s + 3)) = 107 ↔ tx (s + 3) = 107 := sb_eq (c := 107) j3.1 (by decide)
  by_cases h3 : tx (s + 3) = 107
  case neg =>
    rw [if_neg (fun q => h3 (q3.mp q)), if_neg (fun q => by
      obtain ⟨m3, m2, m1, m0, -⟩ := (key.mp q).2
      exact h3 m3)]
  rw [if_pos (q3.mpr h3)]
  rw [if_pos (key.mpr ⟨rfl, ⟨h3, h2, h1, h0, trivial⟩⟩)]
theorem sp_turn {len s : Nat} {tx : Nat → Nat} {t8 t9 : Nat → Int32} (hT : TX len tx t8 t9) (hs : s ≤ len) : f_X5_spells_turn (nI (wend tx len s)) (nI s) t8 = some (if sdn tx s (wend tx len s - s) = cd [110, 114, 117, 116] then 1 else 0) := by
  obtain ⟨hlen, ht⟩ := id hT
  have hb : s ≤ wend tx len s ∧ wend tx len s ≤ len := rg_b hs
  have hin : ∀ j, s ≤ j → j < s + (wend tx len s - s) → 97 ≤ tx j ∧ tx j ≤ 122 := fun j h1 h2 => rg_in (len := len) h1 (by unfold wend at h2 hb; omega)
  have key := sdn_cd (tx := tx) (p := s) [110, 114, 117, 116] (wend tx len s - s) (by decide) (by decide) hin
  unfold f_X5_spells_turn
  rw [pk_sub hb.1]
  by_cases hl : wend tx len s - s = 4
  case neg =>
    rw [if_neg (fun q => hl (nI_inj (by omega) (by omega) q)), if_neg (fun q => hl (key.mp q).1)]
  rw [hl] at key ⊢
  rw [if_pos rfl]
  have i0 : nI s + (0) = nI (s + 0) := nI_add s 0
  have j0 := ht (s + 0) (by omega)
  have i1 : nI s + (0 + 1) = nI (s + 1) := nI_add s 1
  have j1 := ht (s + 1) (by omega)
  have i2 : nI s + ((0 + 1) + 1) = nI (s + 2) := nI_add s 2
  have j2 := ht (s + 2) (by omega)
  have i3 : nI s + (((0 + 1) + 1) + 1) = nI (s + 3) := nI_add s 3
  have j3 := ht (s + 3) (by omega)
  simp only [i0, i1, i2, i3, if_pos (ixb_nI (show s + 0 < 500 by omega) (by decide)), nI_clamp (show s + 0 < 2 ^ 31 by omega), j0.2.2, if_pos (ixb_nI (show s + 1 < 500 by omega) (by decide)), nI_clamp (show s + 1 < 2 ^ 31 by omega), j1.2.2, if_pos (ixb_nI (show s + 2 < 500 by omega) (by decide)), nI_clamp (show s + 2 < 2 ^ 31 by omega), j2.2.2, if_pos (ixb_nI (show s + 3 < 500 by omega) (by decide)), nI_clamp (show s + 3 < 2 ^ 31 by omega), j3.2.2]
  have q0 : sb (tx (s + 0)) = 116 ↔ tx (s + 0) = 116 := sb_eq (c := 116) j0.1 (by decide)
  by_cases h0 : tx (s + 0) = 116
  case neg =>
    rw [if_neg (fun q => h0 (q0.mp q)), if_neg (fun q => by
      obtain ⟨m3, m2, m1, m0, -⟩ := (key.mp q).2
      exact h0 m0)]
  rw [if_pos (q0.mpr h0)]
  have q1 : sb (tx (s + 1)) = 117 ↔ tx (s + 1) = 117 := sb_eq (c := 117) j1.1 (by decide)
  by_cases h1 : tx (s + 1) = 117
  case neg =>
    rw [if_neg (fun q => h1 (q1.mp q)), if_neg (fun q => by
      obtain ⟨m3, m2, m1, m0, -⟩ := (key.mp q).2
      exact h1 m1)]
  rw [if_pos (q1.mpr h1)]
  have q2 : sb (tx (s + 2)) = 114 ↔ tx (s + 2) = 114 := sb_eq (c := 114) j2.1 (by decide)
  by_cases h2 : tx (s + 2) = 114
  case neg =>
    rw [if_neg (fun q => h2 (q2.mp q)), if_neg (fun q => by
      obtain ⟨m3, m2, m1, m0, -⟩ := (key.mp q).2
      exact h2 m2)]
  rw [if_pos (q2.mpr h2)]
  have q3 : sb (tx (s + 3)) = 110 ↔ tx (s + 3) = 110 := sb_eq (c := 110) j3.1 (by decide)
  by_cases h3 : tx (s + 3) = 110
  case neg =>
    rw [if_neg (fun q => h3 (q3.mp q)), if_neg (fun q => by
      obtain ⟨m3, m2, m1, m0, -⟩ := (key.mp q).2
      exact h3 m3)]
  rw [if_pos (q3.mpr h3)]
  rw [if_pos (key.mpr ⟨rfl, ⟨h3, h2, h1, h0, trivial⟩⟩)]
