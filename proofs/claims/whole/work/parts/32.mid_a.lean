theorem mX1_useRules_28 : Cond.fieldLink RX1 28 "OneWordLetters$Foresight" "law" "I" ∈ wsX1_useRules := by decide +kernel
theorem uX1_useRules_X1 : ∀ w ∈ wsX10, w ∈ wsX1_useRules := fun _ h => List.mem_cons_of_mem _ (List.mem_append_right _ h)
theorem mX1_useRules_32 : Cond.fieldLink RX1 32 "OneWordLetters$Foresight" "nonsense" "Z" ∈ wsX1_useRules := by decide +kernel
theorem mX1_useRules_36 : Cond.fieldLink RX1 36 "OneWordLetters$Foresight" "stamp" "I" ∈ wsX1_useRules := by decide +kernel
abbrev rmX1_useRules : Room := { frames := 0, cells := 0, slots := 0, locals := 0 }
def f_X1_useRules (i_t_law : Int32) (i_t_nonsense : Int32) (i_t_stamp : Int32) (p1 : Int32) (p2 : Int32) (p3 : Int32) : Option (Int32 × Int32 × Int32) :=
  if zb p2 = true then
  some (p1, p2, p3)
  else none
set_option maxRecDepth 100000 in
set_option maxHeartbeats 4000000 in
theorem c_X1_useRules (l : Launch) (D : va_G) (cy : Nat → ClassId) (a_t : Nat) (o_t_letters : Value) (o_t_memory : Value) (o_t_rows : Value) (i_t_law : Int32) (i_t_nonsense : Int32) (i_t_stamp : Int32) (p1 : Int32) (p2 : Int32) (p3 : Int32) (z_i_t_law : Int32) (z_i_t_nonsense : Int32) (z_i_t_stamp : Int32) (hf : f_X1_useRules i_t_law i_t_nonsense i_t_stamp p1 p2 p3 = some (z_i_t_law, z_i_t_nonsense, z_i_t_stamp)) : MV l D cy yX1_useRules wsX1_useRules rmX1_useRules [.ref a_t, .int p1, .int p2, .int p3] [(a_t, .inr (1, [o_t_letters, o_t_memory, o_t_rows, .int i_t_law, .int i_t_nonsense, .int i_t_stamp]))] [(a_t, .inr (1, [o_t_letters, o_t_memory, o_t_rows, .int z_i_t_law, .int z_i_t_nonsense, .int z_i_t_stamp]))] := by
  refine st_V (by decide) rfl (Nat.le_of_ble_eq_true rfl) (fun p e s m below meth c A Q ls C0 hA hK hP hD hS hl hret => ?_)
  obtain ⟨hx, hb, hr, hml, hown, hts, hlocks⟩ := id C0
  have hl : lv_has ls 4 [(0, .ref a_t), (1, .int p1), (2, .int p2), (3, .int p3)] := hl
  unfold f_X1_useRules at hf
  refine lv_aload_n hx hb dX1_useRules_0 rfl (lv_at hl 0 rfl) ?_
  refine lv_iload_n hx hb dX1_useRules_1 rfl (lv_at hl 1 rfl) ?_
  refine va_put (D := D) (ci := 1) (v := .int p1) (ty := .int) (C := RX1) (T := TX1) (N := 6) hx hb hts uX1_useRules_X1 tyX1 tyX1_ok nmX1 hown hK.1.1 hP hD hS 0 rfl rfl 3 (by decide) (hts _ mX1_useRules_28) (fun _ h9 => h9) rfl (by decide +kernel) rfl rfl (Nat.le_of_ble_eq_true rfl) dX1_useRules_2 (fun H locs hP hD hS => ?_)
  have hP : va_P D vwCl [(a_t, .inr (1, [o_t_letters, o_t_memory, o_t_rows, .int p1, .int i_t_nonsense, .int i_t_stamp]))] H := hP
  have hD : va_D A [(a_t, .inr (1, [o_t_letters, o_t_memory, o_t_rows, .int p1, .int i_t_nonsense, .int i_t_stamp]))] := hD
  refine lv_aload_n hx hb dX1_useRules_5 rfl (lv_at hl 0 rfl) ?_
  refine lv_iload_n hx hb dX1_useRules_6 rfl (lv_at hl 2 rfl) ?_
  obtain ⟨hg_1, hf⟩ := hb_g hf
  refine va_put (D := D) (ci := 1) (v := .int p2) (ty := .boolean) (C := RX1) (T := TX1) (N := 6) hx hb hts uX1_useRules_X1 tyX1 tyX1_ok nmX1 hown hK.1.1 hP hD hS 0 rfl rfl 4 (by decide) (hts _ mX1_useRules_32) (fun _ h9 => h9) rfl (by decide +kernel) (zb_n hg_1) (zb_f hg_1) (Nat.le_of_ble_eq_true rfl) dX1_useRules_7 (fun H locs hP hD hS => ?_)
  have hP : va_P D vwCl [(a_t, .inr (1, [o_t_letters, o_t_memory, o_t_rows, .int p1, .int p2, .int i_t_stamp]))] H := hP
  have hD : va_D A [(a_t, .inr (1, [o_t_letters, o_t_memory, o_t_rows, .int p1, .int p2, .int i_t_stamp]))] := hD
  refine lv_aload_n hx hb dX1_useRules_10 rfl (lv_at hl 0 rfl) ?_
  refine lv_iload_n hx hb dX1_useRules_11 rfl (lv_at hl 3 rfl) ?_
  refine va_put (D := D) (ci := 1) (v := .int p3) (ty := .int) (C := RX1) (T := TX1) (N := 6) hx hb hts uX1_useRules_X1 tyX1 tyX1_ok nmX1 hown hK.1.1 hP hD hS 0 rfl rfl 5 (by decide) (hts _ mX1_useRules_36) (fun _ h9 => h9) rfl (by decide +kernel) rfl rfl (Nat.le_of_ble_eq_true rfl) dX1_useRules_12 (fun H locs hP hD hS => ?_)
  have hP : va_P D vwCl [(a_t, .inr (1, [o_t_letters, o_t_memory, o_t_rows, .int p1, .int p2, .int p3]))] H := hP
  have hD : va_D A [(a_t, .inr (1, [o_t_letters, o_t_memory, o_t_rows, .int p1, .int p2, .int p3]))] := hD
  obtain ⟨e_0, e_1, e_2⟩ := tu3 hf
  subst e_0; subst e_1; subst e_2
  exact hret _ _ _ _ dX1_useRules_15 hP hS
abbrev rmX1_look_s0 : Room := { frames := 0, cells := 0, slots := 0, locals := 0 }
def f_X1_look_s0 (p1 : Int32) (p2 : Int32) : Option (Int32) :=
  some p1
set_option maxRecDepth 100000 in
set_option maxHeartbeats 4000000 in
theorem c_X1_look_s0 (l : Launch) (D : va_G) (cy : Nat → ClassId) (a_t : Nat) (o_t_letters : Value) (o_t_memory : Value) (o_t_rows : Value) (o_t_law : Value) (o_t_nonsense : Value) (o_t_stamp : Value) (p1 : Int32) (p2 : Int32) (rv : Int32) (hf : f_X1_look_s0 p1 p2 = some rv) : MI l D cy yX1_look wsX1_look rmX1_look_s0 [.ref a_t, .int p1, .int p2, .int 0] [(a_t, .inr (1, [o_t_letters, o_t_memory, o_t_rows, o_t_law, o_t_nonsense, o_t_stamp]))] [(a_t, .inr (1, [o_t_letters, o_t_memory, o_t_rows, o_t_law, o_t_nonsense, o_t_stamp]))] rv := by
  refine st_I (by decide) rfl (Nat.le_of_ble_eq_true rfl) (fun p e s m below meth c A Q ls C0 hA hK hP hD hS hl hret => ?_)
  obtain ⟨hx, hb, hr, hml, hown, hts, hlocks⟩ := id C0
  have hl : lv_has ls 11 [(0, .ref a_t), (1, .int p1), (2, .int p2), (3, .int 0)] := hl
  unfold f_X1_look_s0 at hf
  refine lv_iload_n hx hb dX1_look_0 rfl (lv_at hl 3 rfl) ?_
  refine lv_if_le (tgt := 10) hx hb dX1_look_1 (by decide) (fun c_1 => ?_) (fun c_1 => absurd c_1 (by decide))
  refine lv_iload_n hx hb dX1_look_10 rfl (lv_at hl 1 rfl) ?_
  have hf := Option.some.inj hf
  subst hf
  exact hret _ _ _ _ dX1_look_11 rfl hP hS
theorem mX3_worthTo_36 : Cond.fieldLink RX3 36 "OneWordLetters$Letters" "size" "I" ∈ wsX3_worthTo := by decide +kernel
theorem uX3_worthTo_X3 : ∀ w ∈ wsX30, w ∈ wsX3_worthTo := fun _ h => List.mem_cons_of_mem _ (List.mem_append_right _ h)
theorem mX3_worthTo_19 : Cond.fieldLink RX3 19 "OneWordLetters$Letters" "worthToOther" "[I" ∈ wsX3_worthTo := by decide +kernel
theorem mX3_worthTo_15 : Cond.fieldLink RX3 15 "OneWordLetters$Letters" "worthToOne" "[I" ∈ wsX3_worthTo := by decide +kernel
abbrev rmX3_worthTo : Room := { frames := 0, cells := 0, slots := 0, locals := 0 }
def f_X3_worthTo (i_t_size : Int32) (n_t_worthToOther : Nat) (f_t_worthToOther : Nat → Int32) (n_t_worthToOne : Nat) (f_t_worthToOne : Nat → Int32) (p1 : Int32) (p2 : Int32) : Option (Int32) :=
  if p2 < 0 then
    some 0
  else
    if p2 < i_t_size then
      if p1 = 0 then
        if ixb p2 n_t_worthToOne = true then
        some (f_t_worthToOne (p2 : Int32).toNatClampNeg)
        else none
      else
        if ixb p2 n_t_worthToOther = true then
        some (f_t_worthToOther (p2 : Int32).toNatClampNeg)
        else none
    else
      some 0
set_option maxRecDepth 100000 in
set_option maxHeartbeats 4000000 in
theorem c_X3_worthTo (l : Launch) (D : va_G) (cy : Nat → ClassId) (a_t : Nat) (a_t_worthToOther : Nat) (a_t_worthToOne : Nat) (o_t_tongue : Value) (o_t_tongues : Value) (o_t_standing : Value) (o_t_sense : Value) (i_t_size : Int32) (n_t_worthToOther : Nat) (f_t_worthToOther : Nat → Int32) (n_t_worthToOne : Nat) (f_t_worthToOne : Nat → Int32) (p1 : Int32) (p2 : Int32) (rv : Int32) (hf : f_X3_worthTo i_t_size n_t_worthToOther f_t_worthToOther n_t_worthToOne f_t_worthToOne p1 p2 = some rv) : MI l D cy yX3_worthTo wsX3_worthTo rmX3_worthTo [.ref a_t, .int p1, .int p2] [(a_t, .inr (3, [o_t_tongue, o_t_tongues, .int i_t_size, o_t_standing, o_t_sense, .ref a_t_worthToOne, .ref a_t_worthToOther])), (a_t_worthToOther, .inl (cy 0, n_t_worthToOther, .inl f_t_worthToOther)), (a_t_worthToOne, .inl (cy 0, n_t_worthToOne, .inl f_t_worthToOne))] [(a_t, .inr (3, [o_t_tongue, o_t_tongues, .int i_t_size, o_t_standing, o_t_sense, .ref a_t_worthToOne, .ref a_t_worthToOther])), (a_t_worthToOther, .inl (cy 0, n_t_worthToOther, .inl f_t_worthToOther)), (a_t_worthToOne, .inl (cy 0, n_t_worthToOne, .inl f_t_worthToOne))] rv := by
  refine st_I (by decide) rfl (Nat.le_of_ble_eq_true rfl) (fun p e s m below meth c A Q ls C0 hA hK hP hD hS hl hret => ?_)
  obtain ⟨hx, hb, hr, hml, hown, hts, hlocks⟩ := id C0
  have hl : lv_has ls 3 [(0, .ref a_t), (1, .int p1), (2, .int p2)] := hl
  unfold f_X3_worthTo at hf
  refine lv_iload_n hx hb dX3_worthTo_0 rfl (lv_at hl 2 rfl) ?_
  refine lv_if_lt (tgt := 12) hx hb dX3_worthTo_1 (by decide) (fun c_1 => ?_) (fun c_1 => ?_)
  · have hf := hb_t hf c_1
    refine lv_iconst (v := 0) hx hb dX3_worthTo_12 (by decide) ?_
    have hf := Option.some.inj hf
    subst hf
    exact hret _ _ _ _ dX3_worthTo_13 rfl hP hS
  · have hf := hb_f hf c_1
    refine lv_iload_n hx hb dX3_worthTo_4 rfl (lv_at hl 2 rfl) ?_
    refine lv_aload_n hx hb dX3_worthTo_5 rfl (lv_at hl 0 rfl) ?_
    refine va_get (D := D) (ci := 3) (v := .int i_t_size) (C := RX3) (T := TX3) (N := 7) hx hb hts uX3_worthTo_X3 hown hK.1.1 hP 0 rfl rfl 2 (by decide) (hts _ mX3_worthTo_36) (fun _ h9 => h9) rfl dX3_worthTo_6 ?_
    refine lv_icmp_lt (tgt := 14) hx hb dX3_worthTo_9 (by decide) (fun c_2 => ?_) (fun c_2 => ?_)
    · have hf := hb_t hf c_2
      refine lv_iload_n hx hb dX3_worthTo_14 rfl (lv_at hl 1 rfl) ?_
      refine lv_if_ne (tgt := 27) hx hb dX3_worthTo_15 (by decide) (fun c_3 => ?_) (fun c_3 => ?_)
      · have hf := hb_f hf c_3
        refine lv_aload_n hx hb dX3_worthTo_27 rfl (lv_at hl 0 rfl) ?_
        refine va_get (D := D) (ci := 3) (v := .ref a_t_worthToOther) (C := RX3) (T := TX3) (N := 7) hx hb hts uX3_worthTo_X3 hown hK.1.1 hP 0 rfl rfl 6 (by decide) (hts _ mX3_worthTo_19) (fun _ h9 => h9) rfl dX3_worthTo_28 ?_
        refine lv_iload_n hx hb dX3_worthTo_31 rfl (lv_at hl 2 rfl) ?_
        obtain ⟨hg_4, hf⟩ := hb_g hf
        refine va_iald hx hb hK.1.1 hP 1 0 rfl rfl (ixb_in hg_4) dX3_worthTo_32 ?_
        have hf := Option.some.inj hf
        subst hf
        exact hret _ _ _ _ dX3_worthTo_33 rfl hP hS
      · have hf := hb_t hf c_3
        refine lv_aload_n hx hb dX3_worthTo_18 rfl (lv_at hl 0 rfl) ?_
        refine va_get (D := D) (ci := 3) (v := .ref a_t_worthToOne) (C := RX3) (T := TX3) (N := 7) hx hb hts uX3_worthTo_X3 hown hK.1.1 hP 0 rfl rfl 5 (by decide) (hts _ mX3_worthTo_15) (fun _ h9 => h9) rfl dX3_worthTo_19 ?_
        refine lv_iload_n hx hb dX3_worthTo_22 rfl (lv_at hl 2 rfl) ?_
        obtain ⟨hg_5, hf⟩ := hb_g hf
        refine va_iald hx hb hK.1.1 hP 2 0 rfl rfl (ixb_in hg_5) dX3_worthTo_23 ?_
        refine lv_goto (tgt := 33) hx hb dX3_worthTo_24 (by decide) ?_
        have hf := Option.some.inj hf
        subst hf
        exact hret _ _ _ _ dX3_worthTo_33 rfl hP hS
    · have hf := hb_f hf c_2
      refine lv_iconst (v := 0) hx hb dX3_worthTo_12 (by decide) ?_
      have hf := Option.some.inj hf
      subst hf
      exact hret _ _ _ _ dX3_worthTo_13 rfl hP hS
theorem mX3_isSense_36 : Cond.fieldLink RX3 36 "OneWordLetters$Letters" "size" "I" ∈ wsX3_isSense := by decide +kernel
theorem uX3_isSense_X3 : ∀ w ∈ wsX30, w ∈ wsX3_isSense := fun _ h => List.mem_cons_of_mem _ (List.mem_append_right _ h)
theorem mX3_isSense_9 : Cond.fieldLink RX3 9 "OneWordLetters$Letters" "sense" "[B" ∈ wsX3_isSense := by decide +kernel
abbrev rmX3_isSense : Room := { frames := 0, cells := 0, slots := 0, locals := 0 }
def f_X3_isSense (i_t_size : Int32) (n_t_sense : Nat) (f_t_sense : Nat → Int32) (p1 : Int32) : Option (Int32) :=
  if p1 < 0 then
    some 0
  else
    if i_t_size ≤ p1 then
      some 0
    else
      if ixb p1 n_t_sense = true then
      if (f_t_sense (p1 : Int32).toNatClampNeg) = 1 then
        some 1
      else
        some 0
      else none
set_option maxRecDepth 100000 in
set_option maxHeartbeats 4000000 in
theorem c_X3_isSense (l : Launch) (D : va_G) (cy : Nat → ClassId) (a_t : Nat) (a_t_sense : Nat) (o_t_tongue : Value) (o_t_tongues : Value) (o_t_standing : Value) (o_t_worthToOne : Value) (o_t_worthToOther : Value) (i_t_size : Int32) (n_t_sense : Nat) (f_t_sense : Nat → Int32) (p1 : Int32) (rv : Int32) (hf : f_X3_isSense i_t_size n_t_sense f_t_sense p1 = some rv) : MI l D cy yX3_isSense wsX3_isSense rmX3_isSense [.ref a_t, .int p1] [(a_t, .inr (3, [o_t_tongue, o_t_tongues, .int i_t_size, o_t_standing, .ref a_t_sense, o_t_worthToOne, o_t_worthToOther])), (a_t_sense, .inl (cy 1, n_t_sense, .inl f_t_sense))] [(a_t, .inr (3, [o_t_tongue, o_t_tongues, .int i_t_size, o_t_standing, .ref a_t_sense, o_t_worthToOne, o_t_worthToOther])), (a_t_sense, .inl (cy 1, n_t_sense, .inl f_t_sense))] rv := by
  refine st_I (by decide) rfl (Nat.le_of_ble_eq_true rfl) (fun p e s m below meth c A Q ls C0 hA hK hP hD hS hl hret => ?_)
  obtain ⟨hx, hb, hr, hml, hown, hts, hlocks⟩ := id C0
  have hl : lv_has ls 2 [(0, .ref a_t), (1, .int p1)] := hl
  unfold f_X3_isSense at hf
  refine lv_iload_n hx hb dX3_isSense_0 rfl (lv_at hl 1 rfl) ?_
  refine lv_if_lt (tgt := 26) hx hb dX3_isSense_1 (by decide) (fun c_1 => ?_) (fun c_1 => ?_)
  · have hf := hb_t hf c_1
    refine lv_iconst (v := 0) hx hb dX3_isSense_26 (by decide) ?_
    have hf := Option.some.inj hf
    subst hf
    exact hret _ _ _ _ dX3_isSense_27 rfl hP hS
  · have hf := hb_f hf c_1
    refine lv_iload_n hx hb dX3_isSense_4 rfl (lv_at hl 1 rfl) ?_
    refine lv_aload_n hx hb dX3_isSense_5 rfl (lv_at hl 0 rfl) ?_
    refine va_get (D := D) (ci := 3) (v := .int i_t_size) (C := RX3) (T := TX3) (N := 7) hx hb hts uX3_isSense_X3 hown hK.1.1 hP 0 rfl rfl 2 (by decide) (hts _ mX3_isSense_36) (fun _ h9 => h9) rfl dX3_isSense_6 ?_
    refine lv_icmp_ge (tgt := 26) hx hb dX3_isSense_9 (by decide) (fun c_2 => ?_) (fun c_2 => ?_)
    · have hf := hb_t hf c_2
      refine lv_iconst (v := 0) hx hb dX3_isSense_26 (by decide) ?_
      have hf := Option.some.inj hf
      subst hf
      exact hret _ _ _ _ dX3_isSense_27 rfl hP hS
    · have hf := hb_f hf c_2
      refine lv_aload_n hx hb dX3_isSense_12 rfl (lv_at hl 0 rfl) ?_
      refine va_get (D := D) (ci := 3) (v := .ref a_t_sense) (C := RX3) (T := TX3) (N := 7) hx hb hts uX3_isSense_X3 hown hK.1.1 hP 0 rfl rfl 4 (by decide) (hts _ mX3_isSense_9) (fun _ h9 => h9) rfl dX3_isSense_13 ?_
      refine lv_iload_n hx hb dX3_isSense_16 rfl (lv_at hl 1 rfl) ?_
      obtain ⟨hg_3, hf⟩ := hb_g hf
      refine va_bald hx hb hK.1.1 hP 1 1 rfl rfl (ixb_in hg_3) dX3_isSense_17 ?_
      refine lv_iconst (v := 1) hx hb dX3_isSense_18 (by decide) ?_
      refine lv_icmp_ne (tgt := 26) hx hb dX3_isSense_19 (by decide) (fun c_4 => ?_) (fun c_4 => ?_)
      · have hf := hb_f hf c_4
        refine lv_iconst (v := 0) hx hb dX3_isSense_26 (by decide) ?_
        have hf := Option.some.inj hf
        subst hf
        exact hret _ _ _ _ dX3_isSense_27 rfl hP hS
      · have hf := hb_t hf c_4
        refine lv_iconst (v := 1) hx hb dX3_isSense_22 (by decide) ?_
        refine lv_goto (tgt := 27) hx hb dX3_isSense_23 (by decide) ?_
        have hf := Option.some.inj hf
        subst hf
        exact hret _ _ _ _ dX3_isSense_27 rfl hP hS
theorem mX3_listTurnsAbout_22 : Cond.fieldLink RX3 22 "OneWordLetters$Letters" "tongue" "LOneWordLetters$Tongue;" ∈ wsX3_listTurnsAbout := by decide +kernel
theorem uX3_listTurnsAbout_X3 : ∀ w ∈ wsX30, w ∈ wsX3_listTurnsAbout := fun _ h => List.mem_cons_of_mem _ (List.mem_append_left _ (List.mem_append_left _ (List.mem_append_right _ h)))
theorem uX3_listTurnsAbout_X7 : ∀ w ∈ wsX70, w ∈ wsX3_listTurnsAbout := fun _ h => List.mem_cons_of_mem _ (List.mem_append_left _ (List.mem_append_right _ h))
abbrev rmX3_listTurnsAbout : Room := { frames := 1, cells := 0, slots := 0, locals := 22 }
def f_X3_listTurnsAbout_L3 (i_t_size : Int32) (i_t_tongue_length : Int32) (i_t_tongue_words : Int32) (f_t_tongue_scales : Nat → Int32) (n_p3_letters : Nat) (n_t_sense : Nat) (f_t_sense : Nat → Int32) : Nat → Int32 → Int32 → Int32 → Int32 → (Nat → Int32) → Option (Int32 × (Nat → Int32))
  | 0, _, _, _, _, _ => none
  | n + 1, v1, v2, v4, i_p3_count, f_p3_letters =>
    if i_t_tongue_length ≤ (v4 + 1) then
      some (i_p3_count, f_p3_letters)
    else
      (f_X7_wordAt i_t_tongue_length i_t_tongue_words f_t_tongue_scales v1 (v4 + 1)).bind fun r_2 =>
      (f_X7_wordAt i_t_tongue_length i_t_tongue_words f_t_tongue_scales v1 v4).bind fun r_4 =>
      if ixb v4 5 = true then
      if ixb (v4 + 1) 5 = true then
      if (r_2 - r_4) = 0 then
        f_X3_listTurnsAbout_L3 i_t_size i_t_tongue_length i_t_tongue_words f_t_tongue_scales n_p3_letters n_t_sense f_t_sense n v1 v2 (v4 + 1) i_p3_count f_p3_letters
      else
        if v2 = 0 then
          (f_X3_isSense i_t_size n_t_sense f_t_sense (v1 + ((r_2 - r_4) * ((f_t_tongue_scales (v4 : Int32).toNatClampNeg) - (f_t_tongue_scales ((v4 + 1) : Int32).toNatClampNeg))))).bind fun r_13 =>
          if r_13 = 0 then
            f_X3_listTurnsAbout_L3 i_t_size i_t_tongue_length i_t_tongue_words f_t_tongue_scales n_p3_letters n_t_sense f_t_sense n v1 v2 (v4 + 1) i_p3_count f_p3_letters
          else
            (f_X6_add n_p3_letters i_p3_count f_p3_letters (v1 + ((r_2 - r_4) * ((f_t_tongue_scales (v4 : Int32).toNatClampNeg) - (f_t_tongue_scales ((v4 + 1) : Int32).toNatClampNeg))))).bind fun (z_16, z_17) =>
            f_X3_listTurnsAbout_L3 i_t_size i_t_tongue_length i_t_tongue_words f_t_tongue_scales n_p3_letters n_t_sense f_t_sense n v1 v2 (v4 + 1) z_16 z_17
        else
          (f_X6_add n_p3_letters i_p3_count f_p3_letters (v1 + ((r_2 - r_4) * ((f_t_tongue_scales (v4 : Int32).toNatClampNeg) - (f_t_tongue_scales ((v4 + 1) : Int32).toNatClampNeg))))).bind fun (z_10, z_11) =>
          f_X3_listTurnsAbout_L3 i_t_size i_t_tongue_length i_t_tongue_words f_t_tongue_scales n_p3_letters n_t_sense f_t_sense n v1 v2 (v4 + 1) z_10 z_11
      else none
      else none
set_option maxRecDepth 100000 in
set_option maxHeartbeats 4000000 in
theorem L_X3_listTurnsAbout_3 {p : Program} {e : Env} {s : State} {m : MethodId} {args : Array Value} {below : List Frame} {meth : Method} {c : Code} {Q : State → Prop} {A : Nat → Prop} (l : Launch) (D : va_G) (cy : Nat → ClassId) (a_t : Nat) (a_p3 : Nat) (a_t_tongue : Nat) (a_t_tongue_scales : Nat) (a_p3_letters : Nat) (a_t_sense : Nat) (o_t_tongues : Value) (o_t_standing : Value) (o_t_worthToOne : Value) (o_t_worthToOther : Value) (o_t_tongue_frames : Value) (o_t_tongue_pairs : Value) (o_t_tongue_kinds : Value) (o_t_tongue_worths : Value) (o_t_tongue_framed : Value) (o_t_tongue_paired : Value) (o_t_tongue_pairWorths : Value) (i_t_size : Int32) (i_t_tongue_length : Int32) (i_t_tongue_words : Int32) (f_t_tongue_scales : Nat → Int32) (n_p3_letters : Nat) (n_t_sense : Nat) (f_t_sense : Nat → Int32) (z_i_p3_count : Int32) (z_f_p3_letters : Nat → Int32) (C0 : CX p s m args meth c cX3_listTurnsAbout 7 none wsX3_listTurnsAbout RX3) (hA : ∀ q, s.heap.size ≤ q → A q) (hK : KZ D cy A s) (hret : ∀ (H : Heap) (locs : List Loc) (ls : Array Slot) (pc : Nat), decode cX3_listTurnsAbout pc = .ok (.return_, 1) → va_P D vwCl [(a_t, .inr (3, [.ref a_t_tongue, o_t_tongues, .int i_t_size, o_t_standing, .ref a_t_sense, o_t_worthToOne, o_t_worthToOther])), (a_p3, .inr (6, [.ref a_p3_letters, .int z_i_p3_count])), (a_t_tongue, .inr (7, [.int i_t_tongue_length, .int i_t_tongue_words, o_t_tongue_frames, o_t_tongue_pairs, o_t_tongue_kinds, o_t_tongue_worths, o_t_tongue_framed, o_t_tongue_paired, o_t_tongue_pairWorths, .ref a_t_tongue_scales])), (a_t_tongue_scales, .inl (cy 0, 5, .inl f_t_tongue_scales)), (a_p3_letters, .inl (cy 0, n_p3_letters, .inl z_f_p3_letters)), (a_t_sense, .inl (cy 1, n_t_sense, .inl f_t_sense))] H → va_S A s.heap H locs → W p l e rmX3_listTurnsAbout s m args below meth c H locs 0 0 Q (F0 m pc ls [])) : ∀ (n : Nat) (v1 : Int32) (v2 : Int32) (v4 : Int32) (i_p3_count : Int32) (f_p3_letters : Nat → Int32), f_X3_listTurnsAbout_L3 i_t_size i_t_tongue_length i_t_tongue_words f_t_tongue_scales n_p3_letters n_t_sense f_t_sense n v1 v2 v4 i_p3_count f_p3_letters = some (z_i_p3_count, z_f_p3_letters) → ∀ (H : Heap) (locs : List Loc), va_P D vwCl [(a_t, .inr (3, [.ref a_t_tongue, o_t_tongues, .int i_t_size, o_t_standing, .ref a_t_sense, o_t_worthToOne, o_t_worthToOther])), (a_p3, .inr (6, [.ref a_p3_letters, .int i_p3_count])), (a_t_tongue, .inr (7, [.int i_t_tongue_length, .int i_t_tongue_words, o_t_tongue_frames, o_t_tongue_pairs, o_t_tongue_kinds, o_t_tongue_worths, o_t_tongue_framed, o_t_tongue_paired, o_t_tongue_pairWorths, .ref a_t_tongue_scales])), (a_t_tongue_scales, .inl (cy 0, 5, .inl f_t_tongue_scales)), (a_p3_letters, .inl (cy 0, n_p3_letters, .inl f_p3_letters)), (a_t_sense, .inl (cy 1, n_t_sense, .inl f_t_sense))] H → va_D A [(a_t, .inr (3, [.ref a_t_tongue, o_t_tongues, .int i_t_size, o_t_standing, .ref a_t_sense, o_t_worthToOne, o_t_worthToOther])), (a_p3, .inr (6, [.ref a_p3_letters, .int i_p3_count])), (a_t_tongue, .inr (7, [.int i_t_tongue_length, .int i_t_tongue_words, o_t_tongue_frames, o_t_tongue_pairs, o_t_tongue_kinds, o_t_tongue_worths, o_t_tongue_framed, o_t_tongue_paired, o_t_tongue_pairWorths, .ref a_t_tongue_scales])), (a_t_tongue_scales, .inl (cy 0, 5, .inl f_t_tongue_scales)), (a_p3_letters, .inl (cy 0, n_p3_letters, .inl f_p3_letters)), (a_t_sense, .inl (cy 1, n_t_sense, .inl f_t_sense))] → va_S A s.heap H locs → ∀ ls : Array Slot, lv_has ls 7 [(0, .ref a_t), (1, .int v1), (2, .int v2), (3, .ref a_p3), (4, .int v4)] → W p l e rmX3_listTurnsAbout s m args below meth c H locs 0 0 Q (F0 m 3 ls []) := by
  obtain ⟨hx, hb, hr, hml, hown, hts, hlocks⟩ := id C0
  intro n
  induction n with
  | zero => intro _ _ _ _ _ hf; rw [f_X3_listTurnsAbout_L3.eq_1] at hf; cases hf
  | succ n ih =>
    intro v1 v2 v4 i_p3_count f_p3_letters hf H locs hP hD hS ls hl
    rw [f_X3_listTurnsAbout_L3.eq_2] at hf
    refine lv_iload hx hb dX3_listTurnsAbout_3 (lv_at hl 4 rfl) ?_
    refine lv_iconst (v := 1) hx hb dX3_listTurnsAbout_5 (by decide) ?_
    refine lv_iadd hx hb dX3_listTurnsAbout_6 ?_
    refine lv_aload_n hx hb dX3_listTurnsAbout_7 rfl (lv_at hl 0 rfl) ?_
    refine va_get (D := D) (ci := 3) (v := .ref a_t_tongue) (C := RX3) (T := TX3) (N := 7) hx hb hts uX3_listTurnsAbout_X3 hown hK.1.1 hP 0 rfl rfl 0 (by decide) (hts _ mX3_listTurnsAbout_22) (fun _ h9 => h9) rfl dX3_listTurnsAbout_8 ?_
    refine va_getN (D := D) (ci := 7) (v := .int i_t_tongue_length) (C := RX7) (T := TX7) (N := 10) hx hb hts uX3_listTurnsAbout_X7 hown hK.1.1 hP 2 rfl rfl 0 (by decide) (hK.1.nw _ nw_4) (fun _ h9 => h9) rfl dX3_listTurnsAbout_11 ?_
    refine lv_icmp_ge (tgt := 102) hx hb dX3_listTurnsAbout_14 (by decide) (fun c_1 => ?_) (fun c_1 => ?_)
    · have hf := hb_t hf c_1
      obtain ⟨e_0, e_1⟩ := tu2 hf
      subst e_0; subst e_1
      exact hret _ _ _ _ dX3_listTurnsAbout_102 hP hS
    · have hf := hb_f hf c_1
      refine lv_aload_n hx hb dX3_listTurnsAbout_17 rfl (lv_at hl 0 rfl) ?_
      refine va_get (D := D) (ci := 3) (v := .ref a_t_tongue) (C := RX3) (T := TX3) (N := 7) hx hb hts uX3_listTurnsAbout_X3 hown hK.1.1 hP 0 rfl rfl 0 (by decide) (hts _ mX3_listTurnsAbout_22) (fun _ h9 => h9) rfl dX3_listTurnsAbout_18 ?_
      refine lv_iload_n hx hb dX3_listTurnsAbout_21 rfl (lv_at hl 1 rfl) ?_
      refine lv_iload hx hb dX3_listTurnsAbout_22 (lv_at hl 4 rfl) ?_
      refine lv_iconst (v := 1) hx hb dX3_listTurnsAbout_24 (by decide) ?_
      refine lv_iadd hx hb dX3_listTurnsAbout_25 ?_
      obtain ⟨r_2, hc_3, hf⟩ := hb_b hf
      refine cl_Vi (rest := []) [2, 3] 2 C0 hK hP hD hS hA (c_X7_wordAt l D cy a_t_tongue a_t_tongue_scales o_t_tongue_frames o_t_tongue_pairs o_t_tongue_kinds o_t_tongue_worths o_t_tongue_framed o_t_tongue_paired o_t_tongue_pairWorths i_t_tongue_length i_t_tongue_words f_t_tongue_scales v1 (v4 + 1) r_2 hc_3) (cwV 2 hts gX3_listTurnsAbout_X7_wordAt rfl rfl rfl (by decide +kernel) ⟨Nat.le_of_ble_eq_true rfl, Nat.le_of_ble_eq_true rfl⟩) rfl rfl rfl rfl rfl rfl rfl hl.1 rfl (Nat.le_of_ble_eq_true rfl) dX3_listTurnsAbout_26 ⟨Nat.zero_le _, Nat.zero_le _⟩ (fun H locs hP hD hS => ?_)
      have hP : va_P D vwCl [(a_t, .inr (3, [.ref a_t_tongue, o_t_tongues, .int i_t_size, o_t_standing, .ref a_t_sense, o_t_worthToOne, o_t_worthToOther])), (a_p3, .inr (6, [.ref a_p3_letters, .int i_p3_count])), (a_t_tongue, .inr (7, [.int i_t_tongue_length, .int i_t_tongue_words, o_t_tongue_frames, o_t_tongue_pairs, o_t_tongue_kinds, o_t_tongue_worths, o_t_tongue_framed, o_t_tongue_paired, o_t_tongue_pairWorths, .ref a_t_tongue_scales])), (a_t_tongue_scales, .inl (cy 0, 5, .inl f_t_tongue_scales)), (a_p3_letters, .inl (cy 0, n_p3_letters, .inl f_p3_letters)), (a_t_sense, .inl (cy 1, n_t_sense, .inl f_t_sense))] H := hP
      have hD : va_D A [(a_t, .inr (3, [.ref a_t_tongue, o_t_tongues, .int i_t_size, o_t_standing, .ref a_t_sense, o_t_worthToOne, o_t_worthToOther])), (a_p3, .inr (6, [.ref a_p3_letters, .int i_p3_count])), (a_t_tongue, .inr (7, [.int i_t_tongue_length, .int i_t_tongue_words, o_t_tongue_frames, o_t_tongue_pairs, o_t_tongue_kinds, o_t_tongue_worths, o_t_tongue_framed, o_t_tongue_paired, o_t_tongue_pairWorths, .ref a_t_tongue_scales])), (a_t_tongue_scales, .inl (cy 0, 5, .inl f_t_tongue_scales)), (a_p3_letters, .inl (cy 0, n_p3_letters, .inl f_p3_letters)), (a_t_sense, .inl (cy 1, n_t_sense, .inl f_t_sense))] := hD
      refine lv_aload_n hx hb dX3_listTurnsAbout_29 rfl (lv_at hl 0 rfl) ?_
      refine va_get (D := D) (ci := 3) (v := .ref a_t_tongue) (C := RX3) (T := TX3) (N := 7) hx hb hts uX3_listTurnsAbout_X3 hown hK.1.1 hP 0 rfl rfl 0 (by decide) (hts _ mX3_listTurnsAbout_22) (fun _ h9 => h9) rfl dX3_listTurnsAbout_30 ?_
      refine lv_iload_n hx hb dX3_listTurnsAbout_33 rfl (lv_at hl 1 rfl) ?_
      refine lv_iload hx hb dX3_listTurnsAbout_34 (lv_at hl 4 rfl) ?_
      obtain ⟨r_4, hc_5, hf⟩ := hb_b hf
      refine cl_Vi (rest := [.int r_2]) [2, 3] 2 C0 hK hP hD hS hA (c_X7_wordAt l D cy a_t_tongue a_t_tongue_scales o_t_tongue_frames o_t_tongue_pairs o_t_tongue_kinds o_t_tongue_worths o_t_tongue_framed o_t_tongue_paired o_t_tongue_pairWorths i_t_tongue_length i_t_tongue_words f_t_tongue_scales v1 v4 r_4 hc_5) (cwV 2 hts gX3_listTurnsAbout_X7_wordAt rfl rfl rfl (by decide +kernel) ⟨Nat.le_of_ble_eq_true rfl, Nat.le_of_ble_eq_true rfl⟩) rfl rfl rfl rfl rfl rfl rfl hl.1 rfl (Nat.le_of_ble_eq_true rfl) dX3_listTurnsAbout_36 ⟨Nat.zero_le _, Nat.zero_le _⟩ (fun H locs hP hD hS => ?_)
      have hP : va_P D vwCl [(a_t, .inr (3, [.ref a_t_tongue, o_t_tongues, .int i_t_size, o_t_standing, .ref a_t_sense, o_t_worthToOne, o_t_worthToOther])), (a_p3, .inr (6, [.ref a_p3_letters, .int i_p3_count])), (a_t_tongue, .inr (7, [.int i_t_tongue_length, .int i_t_tongue_words, o_t_tongue_frames, o_t_tongue_pairs, o_t_tongue_kinds, o_t_tongue_worths, o_t_tongue_framed, o_t_tongue_paired, o_t_tongue_pairWorths, .ref a_t_tongue_scales])), (a_t_tongue_scales, .inl (cy 0, 5, .inl f_t_tongue_scales)), (a_p3_letters, .inl (cy 0, n_p3_letters, .inl f_p3_letters)), (a_t_sense, .inl (cy 1, n_t_sense, .inl f_t_sense))] H := hP
      have hD : va_D A [(a_t, .inr (3, [.ref a_t_tongue, o_t_tongues, .int i_t_size, o_t_standing, .ref a_t_sense, o_t_worthToOne, o_t_worthToOther])), (a_p3, .inr (6, [.ref a_p3_letters, .int i_p3_count])), (a_t_tongue, .inr (7, [.int i_t_tongue_length, .int i_t_tongue_words, o_t_tongue_frames, o_t_tongue_pairs, o_t_tongue_kinds, o_t_tongue_worths, o_t_tongue_framed, o_t_tongue_paired, o_t_tongue_pairWorths, .ref a_t_tongue_scales])), (a_t_tongue_scales, .inl (cy 0, 5, .inl f_t_tongue_scales)), (a_p3_letters, .inl (cy 0, n_p3_letters, .inl f_p3_letters)), (a_t_sense, .inl (cy 1, n_t_sense, .inl f_t_sense))] := hD
      refine lv_isub hx hb dX3_listTurnsAbout_39 ?_
      refine lv_istore (lv' := [(5, .int (r_2 - r_4)), (0, .ref a_t), (1, .int v1), (2, .int v2), (3, .ref a_p3), (4, .int v4)]) hx hb dX3_listTurnsAbout_40 hl (by decide) rfl (fun ls hl => ?_)
      refine lv_iload_n hx hb dX3_listTurnsAbout_42 rfl (lv_at hl 2 rfl) ?_
      refine lv_iload hx hb dX3_listTurnsAbout_43 (lv_at hl 0 rfl) ?_
      refine lv_aload_n hx hb dX3_listTurnsAbout_45 rfl (lv_at hl 1 rfl) ?_
      refine va_get (D := D) (ci := 3) (v := .ref a_t_tongue) (C := RX3) (T := TX3) (N := 7) hx hb hts uX3_listTurnsAbout_X3 hown hK.1.1 hP 0 rfl rfl 0 (by decide) (hts _ mX3_listTurnsAbout_22) (fun _ h9 => h9) rfl dX3_listTurnsAbout_46 ?_
      refine va_getN (D := D) (ci := 7) (v := .ref a_t_tongue_scales) (C := RX7) (T := TX7) (N := 10) hx hb hts uX3_listTurnsAbout_X7 hown hK.1.1 hP 2 rfl rfl 9 (by decide) (hK.1.nw _ nw_17) (fun _ h9 => h9) rfl dX3_listTurnsAbout_49 ?_
      refine lv_iload hx hb dX3_listTurnsAbout_52 (lv_at hl 5 rfl) ?_
      obtain ⟨hg_6, hf⟩ := hb_g hf
      refine va_iald hx hb hK.1.1 hP 3 0 rfl rfl (ixb_in hg_6) dX3_listTurnsAbout_54 ?_
      refine lv_aload_n hx hb dX3_listTurnsAbout_55 rfl (lv_at hl 1 rfl) ?_
      refine va_get (D := D) (ci := 3) (v := .ref a_t_tongue) (C := RX3) (T := TX3) (N := 7) hx hb hts uX3_listTurnsAbout_X3 hown hK.1.1 hP 0 rfl rfl 0 (by decide) (hts _ mX3_listTurnsAbout_22) (fun _ h9 => h9) rfl dX3_listTurnsAbout_56 ?_
      refine va_getN (D := D) (ci := 7) (v := .ref a_t_tongue_scales) (C := RX7) (T := TX7) (N := 10) hx hb hts uX3_listTurnsAbout_X7 hown hK.1.1 hP 2 rfl rfl 9 (by decide) (hK.1.nw _ nw_17) (fun _ h9 => h9) rfl dX3_listTurnsAbout_59 ?_
      refine lv_iload hx hb dX3_listTurnsAbout_62 (lv_at hl 5 rfl) ?_
      refine lv_iconst (v := 1) hx hb dX3_listTurnsAbout_64 (by decide) ?_
      refine lv_iadd hx hb dX3_listTurnsAbout_65 ?_
      obtain ⟨hg_7, hf⟩ := hb_g hf
      refine va_iald hx hb hK.1.1 hP 3 0 rfl rfl (ixb_in hg_7) dX3_listTurnsAbout_66 ?_
      refine lv_isub hx hb dX3_listTurnsAbout_67 ?_
      refine lv_imul hx hb dX3_listTurnsAbout_68 ?_
      refine lv_iadd hx hb dX3_listTurnsAbout_69 ?_
      refine lv_istore (lv' := [(6, .int (v1 + ((r_2 - r_4) * ((f_t_tongue_scales (v4 : Int32).toNatClampNeg) - (f_t_tongue_scales ((v4 + 1) : Int32).toNatClampNeg))))), (5, .int (r_2 - r_4)), (0, .ref a_t), (1, .int v1), (2, .int v2), (3, .ref a_p3), (4, .int v4)]) hx hb dX3_listTurnsAbout_70 hl (by decide) rfl (fun ls hl => ?_)
      refine lv_iload hx hb dX3_listTurnsAbout_72 (lv_at hl 1 rfl) ?_
      refine lv_if_eq (tgt := 96) hx hb dX3_listTurnsAbout_74 (by decide) (fun c_8 => ?_) (fun c_8 => ?_)
      · have hf := hb_t hf c_8
        refine lv_iinc (v := (v4 + 1)) (lv' := [(4, .int (v4 + 1)), (6, .int (v1 + ((r_2 - r_4) * ((f_t_tongue_scales (v4 : Int32).toNatClampNeg) - (f_t_tongue_scales ((v4 + 1) : Int32).toNatClampNeg))))), (5, .int (r_2 - r_4)), (0, .ref a_t), (1, .int v1), (2, .int v2), (3, .ref a_p3)]) hx hb dX3_listTurnsAbout_96 hl (k := 6) rfl rfl (by decide) rfl (fun ls hl => ?_)
        refine lv_goto (tgt := 3) hx hb dX3_listTurnsAbout_99 (by decide) ?_
        exact ih v1 v2 (v4 + 1) i_p3_count f_p3_letters hf _ _ hP hD hS _ (lv_sub hl [3, 4, 5, 6, 0] rfl)
      · have hf := hb_f hf c_8
        refine lv_iload_n hx hb dX3_listTurnsAbout_77 rfl (lv_at hl 4 rfl) ?_
        refine lv_if_ne (tgt := 90) hx hb dX3_listTurnsAbout_78 (by decide) (fun c_9 => ?_) (fun c_9 => ?_)
        · have hf := hb_f hf c_9
          refine lv_aload_n hx hb dX3_listTurnsAbout_90 rfl (lv_at hl 5 rfl) ?_
          refine lv_iload hx hb dX3_listTurnsAbout_91 (lv_at hl 0 rfl) ?_
          obtain ⟨⟨z_10, z_11⟩, hc_12, hf⟩ := hb_b hf
          refine cl_Vv (rest := []) [1, 4] 1 C0 hK hP hD hS hA (c_X6_add l D cy a_p3 a_p3_letters n_p3_letters i_p3_count f_p3_letters (v1 + ((r_2 - r_4) * ((f_t_tongue_scales (v4 : Int32).toNatClampNeg) - (f_t_tongue_scales ((v4 + 1) : Int32).toNatClampNeg)))) z_10 z_11 hc_12) (cwV 1 hts gX3_listTurnsAbout_X6_add rfl rfl rfl (by decide +kernel) ⟨Nat.le_of_ble_eq_true rfl, Nat.le_of_ble_eq_true rfl⟩) rfl rfl rfl rfl rfl rfl rfl hl.1 rfl (Nat.le_of_ble_eq_true rfl) dX3_listTurnsAbout_93 ⟨Nat.zero_le _, Nat.zero_le _⟩ (fun H locs hP hD hS => ?_)
          have hP : va_P D vwCl [(a_t, .inr (3, [.ref a_t_tongue, o_t_tongues, .int i_t_size, o_t_standing, .ref a_t_sense, o_t_worthToOne, o_t_worthToOther])), (a_p3, .inr (6, [.ref a_p3_letters, .int z_10])), (a_t_tongue, .inr (7, [.int i_t_tongue_length, .int i_t_tongue_words, o_t_tongue_frames, o_t_tongue_pairs, o_t_tongue_kinds, o_t_tongue_worths, o_t_tongue_framed, o_t_tongue_paired, o_t_tongue_pairWorths, .ref a_t_tongue_scales])), (a_t_tongue_scales, .inl (cy 0, 5, .inl f_t_tongue_scales)), (a_p3_letters, .inl (cy 0, n_p3_letters, .inl z_11)), (a_t_sense, .inl (cy 1, n_t_sense, .inl f_t_sense))] H := hP
          have hD : va_D A [(a_t, .inr (3, [.ref a_t_tongue, o_t_tongues, .int i_t_size, o_t_standing, .ref a_t_sense, o_t_worthToOne, o_t_worthToOther])), (a_p3, .inr (6, [.ref a_p3_letters, .int z_10])), (a_t_tongue, .inr (7, [.int i_t_tongue_length, .int i_t_tongue_words, o_t_tongue_frames, o_t_tongue_pairs, o_t_tongue_kinds, o_t_tongue_worths, o_t_tongue_framed, o_t_tongue_paired, o_t_tongue_pairWorths, .ref a_t_tongue_scales])), (a_t_tongue_scales, .inl (cy 0, 5, .inl f_t_tongue_scales)), (a_p3_letters, .inl (cy 0, n_p3_letters, .inl z_11)), (a_t_sense, .inl (cy 1, n_t_sense, .inl f_t_sense))] := hD
          refine lv_iinc (v := (v4 + 1)) (lv' := [(4, .int (v4 + 1)), (6, .int (v1 + ((r_2 - r_4) * ((f_t_tongue_scales (v4 : Int32).toNatClampNeg) - (f_t_tongue_scales ((v4 + 1) : Int32).toNatClampNeg))))), (5, .int (r_2 - r_4)), (0, .ref a_t), (1, .int v1), (2, .int v2), (3, .ref a_p3)]) hx hb dX3_listTurnsAbout_96 hl (k := 6) rfl rfl (by decide) rfl (fun ls hl => ?_)
          refine lv_goto (tgt := 3) hx hb dX3_listTurnsAbout_99 (by decide) ?_
          exact ih v1 v2 (v4 + 1) z_10 z_11 hf _ _ hP hD hS _ (lv_sub hl [3, 4, 5, 6, 0] rfl)
        · have hf := hb_t hf c_9
          refine lv_aload_n hx hb dX3_listTurnsAbout_81 rfl (lv_at hl 2 rfl) ?_
          refine lv_iload hx hb dX3_listTurnsAbout_82 (lv_at hl 0 rfl) ?_
          obtain ⟨r_13, hc_14, hf⟩ := hb_b hf
          refine cl_Vi (rest := []) [0, 5] 0 C0 hK hP hD hS hA (c_X3_isSense l D cy a_t a_t_sense (.ref a_t_tongue) o_t_tongues o_t_standing o_t_worthToOne o_t_worthToOther i_t_size n_t_sense f_t_sense (v1 + ((r_2 - r_4) * ((f_t_tongue_scales (v4 : Int32).toNatClampNeg) - (f_t_tongue_scales ((v4 + 1) : Int32).toNatClampNeg)))) r_13 hc_14) (cwV 1 hts gX3_listTurnsAbout_X3_isSense rfl rfl rfl (by decide +kernel) ⟨Nat.le_of_ble_eq_true rfl, Nat.le_of_ble_eq_true rfl⟩) rfl rfl rfl rfl rfl rfl rfl hl.1 rfl (Nat.le_of_ble_eq_true rfl) dX3_listTurnsAbout_84 ⟨Nat.zero_le _, Nat.zero_le _⟩ (fun H locs hP hD hS => ?_)
          have hP : va_P D vwCl [(a_t, .inr (3, [.ref a_t_tongue, o_t_tongues, .int i_t_size, o_t_standing, .ref a_t_sense, o_t_worthToOne, o_t_worthToOther])), (a_p3, .inr (6, [.ref a_p3_letters, .int i_p3_count])), (a_t_tongue, .inr (7, [.int i_t_tongue_length, .int i_t_tongue_words, o_t_tongue_frames, o_t_tongue_pairs, o_t_tongue_kinds, o_t_tongue_worths, o_t_tongue_framed, o_t_tongue_paired, o_t_tongue_pairWorths, .ref a_t_tongue_scales])), (a_t_tongue_scales, .inl (cy 0, 5, .inl f_t_tongue_scales)), (a_p3_letters, .inl (cy 0, n_p3_letters, .inl f_p3_letters)), (a_t_sense, .inl (cy 1, n_t_sense, .inl f_t_sense))] H := hP
          have hD : va_D A [(a_t, .inr (3, [.ref a_t_tongue, o_t_tongues, .int i_t_size, o_t_standing, .ref a_t_sense, o_t_worthToOne, o_t_worthToOther])), (a_p3, .inr (6, [.ref a_p3_letters, .int i_p3_count])), (a_t_tongue, .inr (7, [.int i_t_tongue_length, .int i_t_tongue_words, o_t_tongue_frames, o_t_tongue_pairs, o_t_tongue_kinds, o_t_tongue_worths, o_t_tongue_framed, o_t_tongue_paired, o_t_tongue_pairWorths, .ref a_t_tongue_scales])), (a_t_tongue_scales, .inl (cy 0, 5, .inl f_t_tongue_scales)), (a_p3_letters, .inl (cy 0, n_p3_letters, .inl f_p3_letters)), (a_t_sense, .inl (cy 1, n_t_sense, .inl f_t_sense))] := hD
          refine lv_if_eq (tgt := 96) hx hb dX3_listTurnsAbout_87 (by decide) (fun c_15 => ?_) (fun c_15 => ?_)
          · have hf := hb_t hf c_15
            refine lv_iinc (v := (v4 + 1)) (lv' := [(4, .int (v4 + 1)), (6, .int (v1 + ((r_2 - r_4) * ((f_t_tongue_scales (v4 : Int32).toNatClampNeg) - (f_t_tongue_scales ((v4 + 1) : Int32).toNatClampNeg))))), (5, .int (r_2 - r_4)), (0, .ref a_t), (1, .int v1), (2, .int v2), (3, .ref a_p3)]) hx hb dX3_listTurnsAbout_96 hl (k := 6) rfl rfl (by decide) rfl (fun ls hl => ?_)
            refine lv_goto (tgt := 3) hx hb dX3_listTurnsAbout_99 (by decide) ?_
            exact ih v1 v2 (v4 + 1) i_p3_count f_p3_letters hf _ _ hP hD hS _ (lv_sub hl [3, 4, 5, 6, 0] rfl)
          · have hf := hb_f hf c_15
            refine lv_aload_n hx hb dX3_listTurnsAbout_90 rfl (lv_at hl 5 rfl) ?_
            refine lv_iload hx hb dX3_listTurnsAbout_91 (lv_at hl 0 rfl) ?_
            obtain ⟨⟨z_16, z_17⟩, hc_18, hf⟩ := hb_b hf
            refine cl_Vv (rest := []) [1, 4] 1 C0 hK hP hD hS hA (c_X6_add l D cy a_p3 a_p3_letters n_p3_letters i_p3_count f_p3_letters (v1 + ((r_2 - r_4) * ((f_t_tongue_scales (v4 : Int32).toNatClampNeg) - (f_t_tongue_scales ((v4 + 1) : Int32).toNatClampNeg)))) z_16 z_17 hc_18) (cwV 1 hts gX3_listTurnsAbout_X6_add rfl rfl rfl (by decide +kernel) ⟨Nat.le_of_ble_eq_true rfl, Nat.le_of_ble_eq_true rfl⟩) rfl rfl rfl rfl rfl rfl rfl hl.1 rfl (Nat.le_of_ble_eq_true rfl) dX3_listTurnsAbout_93 ⟨Nat.zero_le _, Nat.zero_le _⟩ (fun H locs hP hD hS => ?_)
            have hP : va_P D vwCl [(a_t, .inr (3, [.ref a_t_tongue, o_t_tongues, .int i_t_size, o_t_standing, .ref a_t_sense, o_t_worthToOne, o_t_worthToOther])), (a_p3, .inr (6, [.ref a_p3_letters, .int z_16])), (a_t_tongue, .inr (7, [.int i_t_tongue_length, .int i_t_tongue_words, o_t_tongue_frames, o_t_tongue_pairs, o_t_tongue_kinds, o_t_tongue_worths, o_t_tongue_framed, o_t_tongue_paired, o_t_tongue_pairWorths, .ref a_t_tongue_scales])), (a_t_tongue_scales, .inl (cy 0, 5, .inl f_t_tongue_scales)), (a_p3_letters, .inl (cy 0, n_p3_letters, .inl z_17)), (a_t_sense, .inl (cy 1, n_t_sense, .inl f_t_sense))] H := hP
            have hD : va_D A [(a_t, .inr (3, [.ref a_t_tongue, o_t_tongues, .int i_t_size, o_t_standing, .ref a_t_sense, o_t_worthToOne, o_t_worthToOther])), (a_p3, .inr (6, [.ref a_p3_letters, .int z_16])), (a_t_tongue, .inr (7, [.int i_t_tongue_length, .int i_t_tongue_words, o_t_tongue_frames, o_t_tongue_pairs, o_t_tongue_kinds, o_t_tongue_worths, o_t_tongue_framed, o_t_tongue_paired, o_t_tongue_pairWorths, .ref a_t_tongue_scales])), (a_t_tongue_scales, .inl (cy 0, 5, .inl f_t_tongue_scales)), (a_p3_letters, .inl (cy 0, n_p3_letters, .inl z_17)), (a_t_sense, .inl (cy 1, n_t_sense, .inl f_t_sense))] := hD
            refine lv_iinc (v := (v4 + 1)) (lv' := [(4, .int (v4 + 1)), (6, .int (v1 + ((r_2 - r_4) * ((f_t_tongue_scales (v4 : Int32).toNatClampNeg) - (f_t_tongue_scales ((v4 + 1) : Int32).toNatClampNeg))))), (5, .int (r_2 - r_4)), (0, .ref a_t), (1, .int v1), (2, .int v2), (3, .ref a_p3)]) hx hb dX3_listTurnsAbout_96 hl (k := 6) rfl rfl (by decide) rfl (fun ls hl => ?_)
            refine lv_goto (tgt := 3) hx hb dX3_listTurnsAbout_99 (by decide) ?_
            exact ih v1 v2 (v4 + 1) z_16 z_17 hf _ _ hP hD hS _ (lv_sub hl [3, 4, 5, 6, 0] rfl)
def f_X3_listTurnsAbout (i_t_size : Int32) (i_t_tongue_length : Int32) (i_t_tongue_words : Int32) (f_t_tongue_scales : Nat → Int32) (n_p3_letters : Nat) (n_t_sense : Nat) (f_t_sense : Nat → Int32) (i_p3_count : Int32) (f_p3_letters : Nat → Int32) (p1 : Int32) (p2 : Int32) : Option (Int32 × (Nat → Int32)) :=
  f_X3_listTurnsAbout_L3 i_t_size i_t_tongue_length i_t_tongue_words f_t_tongue_scales n_p3_letters n_t_sense f_t_sense FU p1 p2 0 i_p3_count f_p3_letters
set_option maxRecDepth 100000 in
set_option maxHeartbeats 4000000 in
theorem c_X3_listTurnsAbout (l : Launch) (D : va_G) (cy : Nat → ClassId) (a_t : Nat) (a_p3 : Nat) (a_t_tongue : Nat) (a_t_tongue_scales : Nat) (a_p3_letters : Nat) (a_t_sense : Nat) (o_t_tongues : Value) (o_t_standing : Value) (o_t_worthToOne : Value) (o_t_worthToOther : Value) (o_t_tongue_frames : Value) (o_t_tongue_pairs : Value) (o_t_tongue_kinds : Value) (o_t_tongue_worths : Value) (o_t_tongue_framed : Value) (o_t_tongue_paired : Value) (o_t_tongue_pairWorths : Value) (i_t_size : Int32) (i_t_tongue_length : Int32) (i_t_tongue_words : Int32) (f_t_tongue_scales : Nat → Int32) (n_p3_letters : Nat) (n_t_sense : Nat) (f_t_sense : Nat → Int32) (i_p3_count : Int32) (f_p3_letters : Nat → Int32) (p1 : Int32) (p2 : Int32) (z_i_p3_count : Int32) (z_f_p3_letters : Nat → Int32) (hf : f_X3_listTurnsAbout i_t_size i_t_tongue_length i_t_tongue_words f_t_tongue_scales n_p3_letters n_t_sense f_t_sense i_p3_count f_p3_letters p1 p2 = some (z_i_p3_count, z_f_p3_letters)) : MV l D cy yX3_listTurnsAbout wsX3_listTurnsAbout rmX3_listTurnsAbout [.ref a_t, .int p1, .int p2, .ref a_p3] [(a_t, .inr (3, [.ref a_t_tongue, o_t_tongues, .int i_t_size, o_t_standing, .ref a_t_sense, o_t_worthToOne, o_t_worthToOther])), (a_p3, .inr (6, [.ref a_p3_letters, .int i_p3_count])), (a_t_tongue, .inr (7, [.int i_t_tongue_length, .int i_t_tongue_words, o_t_tongue_frames, o_t_tongue_pairs, o_t_tongue_kinds, o_t_tongue_worths, o_t_tongue_framed, o_t_tongue_paired, o_t_tongue_pairWorths, .ref a_t_tongue_scales])), (a_t_tongue_scales, .inl (cy 0, 5, .inl f_t_tongue_scales)), (a_p3_letters, .inl (cy 0, n_p3_letters, .inl f_p3_letters)), (a_t_sense, .inl (cy 1, n_t_sense, .inl f_t_sense))] [(a_t, .inr (3, [.ref a_t_tongue, o_t_tongues, .int i_t_size, o_t_standing, .ref a_t_sense, o_t_worthToOne, o_t_worthToOther])), (a_p3, .inr (6, [.ref a_p3_letters, .int z_i_p3_count])), (a_t_tongue, .inr (7, [.int i_t_tongue_length, .int i_t_tongue_words, o_t_tongue_frames, o_t_tongue_pairs, o_t_tongue_kinds, o_t_tongue_worths, o_t_tongue_framed, o_t_tongue_paired, o_t_tongue_pairWorths, .ref a_t_tongue_scales])), (a_t_tongue_scales, .inl (cy 0, 5, .inl f_t_tongue_scales)), (a_p3_letters, .inl (cy 0, n_p3_letters, .inl z_f_p3_letters)), (a_t_sense, .inl (cy 1, n_t_sense, .inl f_t_sense))] := by
  refine st_V (by decide) rfl (Nat.le_of_ble_eq_true rfl) (fun p e s m below meth c A Q ls C0 hA hK hP hD hS hl hret => ?_)
  obtain ⟨hx, hb, hr, hml, hown, hts, hlocks⟩ := id C0
  have hl : lv_has ls 7 [(0, .ref a_t), (1, .int p1), (2, .int p2), (3, .ref a_p3)] := hl
  unfold f_X3_listTurnsAbout at hf
  refine lv_iconst (v := 0) hx hb dX3_listTurnsAbout_0 (by decide) ?_
  refine lv_istore (lv' := [(4, .int 0), (0, .ref a_t), (1, .int p1), (2, .int p2), (3, .ref a_p3)]) hx hb dX3_listTurnsAbout_1 hl (by decide) rfl (fun ls hl => ?_)
  refine L_X3_listTurnsAbout_3 l D cy a_t a_p3 a_t_tongue a_t_tongue_scales a_p3_letters a_t_sense o_t_tongues o_t_standing o_t_worthToOne o_t_worthToOther o_t_tongue_frames o_t_tongue_pairs o_t_tongue_kinds o_t_tongue_worths o_t_tongue_framed o_t_tongue_paired o_t_tongue_pairWorths i_t_size i_t_tongue_length i_t_tongue_words f_t_tongue_scales n_p3_letters n_t_sense f_t_sense z_i_p3_count z_f_p3_letters C0 hA hK hret  FU p1 p2 0 i_p3_count f_p3_letters hf _ _ hP hD hS _ (lv_sub hl [1, 2, 3, 4, 0] rfl)
theorem mX3_listOtherWords_22 : Cond.fieldLink RX3 22 "OneWordLetters$Letters" "tongue" "LOneWordLetters$Tongue;" ∈ wsX3_listOtherWords := by decide +kernel
theorem uX3_listOtherWords_X3 : ∀ w ∈ wsX30, w ∈ wsX3_listOtherWords := fun _ h => List.mem_cons_of_mem _ (List.mem_append_left _ (List.mem_append_left _ (List.mem_append_right _ h)))
theorem uX3_listOtherWords_X7 : ∀ w ∈ wsX70, w ∈ wsX3_listOtherWords := fun _ h => List.mem_cons_of_mem _ (List.mem_append_left _ (List.mem_append_right _ h))
abbrev rmX3_listOtherWords : Room := { frames := 1, cells := 0, slots := 0, locals := 22 }
def f_X3_listOtherWords_L42 (i_t_size : Int32) (i_t_tongue_length : Int32) (i_t_tongue_words : Int32) (f_t_tongue_scales : Nat → Int32) (n_p3_letters : Nat) (n_t_sense : Nat) (f_t_sense : Nat → Int32) (K0 : Int32 → Int32 → Int32 → Int32 → (Nat → Int32) → Option (Int32 × (Nat → Int32))) : Nat → Int32 → Int32 → Int32 → Int32 → Int32 → Int32 → Int32 → (Nat → Int32) → Option (Int32 × (Nat → Int32))
  | 0, _, _, _, _, _, _, _, _ => none
  | n + 1, v1, v2, v4, v5, v6, v7, i_p3_count, f_p3_letters =>
    if i_t_tongue_words ≤ v7 then
      K0 v1 v2 v4 i_p3_count f_p3_letters
    else
      if v7 = v6 then
        f_X3_listOtherWords_L42 i_t_size i_t_tongue_length i_t_tongue_words f_t_tongue_scales n_p3_letters n_t_sense f_t_sense K0 n v1 v2 v4 v5 v6 (v7 + 1) i_p3_count f_p3_letters
      else
        if v2 = 0 then
          (f_X3_isSense i_t_size n_t_sense f_t_sense (v1 + ((v7 - v6) * v5))).bind fun r_11 =>
          if r_11 = 0 then
            f_X3_listOtherWords_L42 i_t_size i_t_tongue_length i_t_tongue_words f_t_tongue_scales n_p3_letters n_t_sense f_t_sense K0 n v1 v2 v4 v5 v6 (v7 + 1) i_p3_count f_p3_letters
          else
            (f_X6_add n_p3_letters i_p3_count f_p3_letters (v1 + ((v7 - v6) * v5))).bind fun (z_14, z_15) =>
            f_X3_listOtherWords_L42 i_t_size i_t_tongue_length i_t_tongue_words f_t_tongue_scales n_p3_letters n_t_sense f_t_sense K0 n v1 v2 v4 v5 v6 (v7 + 1) z_14 z_15
        else
          (f_X6_add n_p3_letters i_p3_count f_p3_letters (v1 + ((v7 - v6) * v5))).bind fun (z_8, z_9) =>
          f_X3_listOtherWords_L42 i_t_size i_t_tongue_length i_t_tongue_words f_t_tongue_scales n_p3_letters n_t_sense f_t_sense K0 n v1 v2 v4 v5 v6 (v7 + 1) z_8 z_9
set_option maxRecDepth 100000 in
set_option maxHeartbeats 4000000 in
theorem L_X3_listOtherWords_42 {p : Program} {e : Env} {s : State} {m : MethodId} {args : Array Value} {below : List Frame} {meth : Method} {c : Code} {Q : State → Prop} {A : Nat → Prop} (l : Launch) (D : va_G) (cy : Nat → ClassId) (a_t : Nat) (a_p3 : Nat) (a_t_tongue : Nat) (a_t_tongue_scales : Nat) (a_p3_letters : Nat) (a_t_sense : Nat) (o_t_tongues : Value) (o_t_standing : Value) (o_t_worthToOne : Value) (o_t_worthToOther : Value) (o_t_tongue_frames : Value) (o_t_tongue_pairs : Value) (o_t_tongue_kinds : Value) (o_t_tongue_worths : Value) (o_t_tongue_framed : Value) (o_t_tongue_paired : Value) (o_t_tongue_pairWorths : Value) (i_t_size : Int32) (i_t_tongue_length : Int32) (i_t_tongue_words : Int32) (f_t_tongue_scales : Nat → Int32) (n_p3_letters : Nat) (n_t_sense : Nat) (f_t_sense : Nat → Int32) {K0 : Int32 → Int32 → Int32 → Int32 → (Nat → Int32) → Option (Int32 × (Nat → Int32))} (z_i_p3_count : Int32) (z_f_p3_letters : Nat → Int32) (C0 : CX p s m args meth c cX3_listOtherWords 9 none wsX3_listOtherWords RX3) (hA : ∀ q, s.heap.size ≤ q → A q) (hK : KZ D cy A s) (hk0 : ∀ (v1 : Int32) (v2 : Int32) (v4 : Int32) (y_i_p3_count : Int32) (y_f_p3_letters : Nat → Int32) (H : Heap) (locs : List Loc), K0 v1 v2 v4 y_i_p3_count y_f_p3_letters = some (z_i_p3_count, z_f_p3_letters) → va_P D vwCl [(a_t, .inr (3, [.ref a_t_tongue, o_t_tongues, .int i_t_size, o_t_standing, .ref a_t_sense, o_t_worthToOne, o_t_worthToOther])), (a_p3, .inr (6, [.ref a_p3_letters, .int y_i_p3_count])), (a_t_tongue, .inr (7, [.int i_t_tongue_length, .int i_t_tongue_words, o_t_tongue_frames, o_t_tongue_pairs, o_t_tongue_kinds, o_t_tongue_worths, o_t_tongue_framed, o_t_tongue_paired, o_t_tongue_pairWorths, .ref a_t_tongue_scales])), (a_t_tongue_scales, .inl (cy 0, 5, .inl f_t_tongue_scales)), (a_p3_letters, .inl (cy 0, n_p3_letters, .inl y_f_p3_letters)), (a_t_sense, .inl (cy 1, n_t_sense, .inl f_t_sense))] H → va_D A [(a_t, .inr (3, [.ref a_t_tongue, o_t_tongues, .int i_t_size, o_t_standing, .ref a_t_sense, o_t_worthToOne, o_t_worthToOther])), (a_p3, .inr (6, [.ref a_p3_letters, .int y_i_p3_count])), (a_t_tongue, .inr (7, [.int i_t_tongue_length, .int i_t_tongue_words, o_t_tongue_frames, o_t_tongue_pairs, o_t_tongue_kinds, o_t_tongue_worths, o_t_tongue_framed, o_t_tongue_paired, o_t_tongue_pairWorths, .ref a_t_tongue_scales])), (a_t_tongue_scales, .inl (cy 0, 5, .inl f_t_tongue_scales)), (a_p3_letters, .inl (cy 0, n_p3_letters, .inl y_f_p3_letters)), (a_t_sense, .inl (cy 1, n_t_sense, .inl f_t_sense))] → va_S A s.heap H locs → ∀ ls : Array Slot, lv_has ls 9 [(0, .ref a_t), (1, .int v1), (2, .int v2), (3, .ref a_p3), (4, .int v4)] → W p l e rmX3_listOtherWords s m args below meth c H locs 0 0 Q (F0 m 98 ls [])) : ∀ (n : Nat) (v1 : Int32) (v2 : Int32) (v4 : Int32) (v5 : Int32) (v6 : Int32) (v7 : Int32) (i_p3_count : Int32) (f_p3_letters : Nat → Int32), f_X3_listOtherWords_L42 i_t_size i_t_tongue_length i_t_tongue_words f_t_tongue_scales n_p3_letters n_t_sense f_t_sense K0 n v1 v2 v4 v5 v6 v7 i_p3_count f_p3_letters = some (z_i_p3_count, z_f_p3_letters) → ∀ (H : Heap) (locs : List Loc), va_P D vwCl [(a_t, .inr (3, [.ref a_t_tongue, o_t_tongues, .int i_t_size, o_t_standing, .ref a_t_sense, o_t_worthToOne, o_t_worthToOther])), (a_p3, .inr (6, [.ref a_p3_letters, .int i_p3_count])), (a_t_tongue, .inr (7, [.int i_t_tongue_length, .int i_t_tongue_words, o_t_tongue_frames, o_t_tongue_pairs, o_t_tongue_kinds, o_t_tongue_worths, o_t_tongue_framed, o_t_tongue_paired, o_t_tongue_pairWorths, .ref a_t_tongue_scales])), (a_t_tongue_scales, .inl (cy 0, 5, .inl f_t_tongue_scales)), (a_p3_letters, .inl (cy 0, n_p3_letters, .inl f_p3_letters)), (a_t_sense, .inl (cy 1, n_t_sense, .inl f_t_sense))] H → va_D A [(a_t, .inr (3, [.ref a_t_tongue, o_t_tongues, .int i_t_size, o_t_standing, .ref a_t_sense, o_t_worthToOne, o_t_worthToOther])), (a_p3, .inr (6, [.ref a_p3_letters, .int i_p3_count])), (a_t_tongue, .inr (7, [.int i_t_tongue_length, .int i_t_tongue_words, o_t_tongue_frames, o_t_tongue_pairs, o_t_tongue_kinds, o_t_tongue_worths, o_t_tongue_framed, o_t_tongue_paired, o_t_tongue_pairWorths, .ref a_t_tongue_scales])), (a_t_tongue_scales, .inl (cy 0, 5, .inl f_t_tongue_scales)), (a_p3_letters, .inl (cy 0, n_p3_letters, .inl f_p3_letters)), (a_t_sense, .inl (cy 1, n_t_sense, .inl f_t_sense))] → va_S A s.heap H locs → ∀ ls : Array Slot, lv_has ls 9 [(0, .ref a_t), (1, .int v1), (2, .int v2), (3, .ref a_p3), (4, .int v4), (5, .int v5), (6, .int v6), (7, .int v7)] → W p l e rmX3_listOtherWords s m args below meth c H locs 0 0 Q (F0 m 42 ls []) := by
  obtain ⟨hx, hb, hr, hml, hown, hts, hlocks⟩ := id C0
  intro n
  induction n with
  | zero => intro _ _ _ _ _ _ _ _ hf; rw [f_X3_listOtherWords_L42.eq_1] at hf; cases hf
  | succ n ih =>
    intro v1 v2 v4 v5 v6 v7 i_p3_count f_p3_letters hf H locs hP hD hS ls hl
    rw [f_X3_listOtherWords_L42.eq_2] at hf
    refine lv_iload hx hb dX3_listOtherWords_42 (lv_at hl 7 rfl) ?_
    refine lv_aload_n hx hb dX3_listOtherWords_44 rfl (lv_at hl 0 rfl) ?_
    refine va_get (D := D) (ci := 3) (v := .ref a_t_tongue) (C := RX3) (T := TX3) (N := 7) hx hb hts uX3_listOtherWords_X3 hown hK.1.1 hP 0 rfl rfl 0 (by decide) (hts _ mX3_listOtherWords_22) (fun _ h9 => h9) rfl dX3_listOtherWords_45 ?_
    refine va_getN (D := D) (ci := 7) (v := .int i_t_tongue_words) (C := RX7) (T := TX7) (N := 10) hx hb hts uX3_listOtherWords_X7 hown hK.1.1 hP 2 rfl rfl 1 (by decide) (hK.1.nw _ nw_7) (fun _ h9 => h9) rfl dX3_listOtherWords_48 ?_
    refine lv_icmp_ge (tgt := 98) hx hb dX3_listOtherWords_51 (by decide) (fun c_5 => ?_) (fun c_5 => ?_)
    · have hf := hb_t hf c_5
      exact hk0 v1 v2 v4 i_p3_count f_p3_letters _ _ hf hP hD hS _ (lv_sub hl [0, 1, 2, 3, 4] rfl)
    · have hf := hb_f hf c_5
      refine lv_iload_n hx hb dX3_listOtherWords_54 rfl (lv_at hl 1 rfl) ?_
      refine lv_iload hx hb dX3_listOtherWords_55 (lv_at hl 7 rfl) ?_
      refine lv_iload hx hb dX3_listOtherWords_57 (lv_at hl 6 rfl) ?_
      refine lv_isub hx hb dX3_listOtherWords_59 ?_
      refine lv_iload hx hb dX3_listOtherWords_60 (lv_at hl 5 rfl) ?_
      refine lv_imul hx hb dX3_listOtherWords_62 ?_
      refine lv_iadd hx hb dX3_listOtherWords_63 ?_
      refine lv_istore (lv' := [(8, .int (v1 + ((v7 - v6) * v5))), (0, .ref a_t), (1, .int v1), (2, .int v2), (3, .ref a_p3), (4, .int v4), (5, .int v5), (6, .int v6), (7, .int v7)]) hx hb dX3_listOtherWords_64 hl (by decide) rfl (fun ls hl => ?_)
      refine lv_iload hx hb dX3_listOtherWords_66 (lv_at hl 8 rfl) ?_
      refine lv_iload hx hb dX3_listOtherWords_68 (lv_at hl 7 rfl) ?_
      refine lv_icmp_eq (tgt := 92) hx hb dX3_listOtherWords_70 (by decide) (fun c_6 => ?_) (fun c_6 => ?_)
      · have hf := hb_t hf c_6
        refine lv_iinc (v := (v7 + 1)) (lv' := [(7, .int (v7 + 1)), (8, .int (v1 + ((v7 - v6) * v5))), (0, .ref a_t), (1, .int v1), (2, .int v2), (3, .ref a_p3), (4, .int v4), (5, .int v5), (6, .int v6)]) hx hb dX3_listOtherWords_92 hl (k := 8) rfl rfl (by decide) rfl (fun ls hl => ?_)
        refine lv_goto (tgt := 42) hx hb dX3_listOtherWords_95 (by decide) ?_
        exact ih v1 v2 v4 v5 v6 (v7 + 1) i_p3_count f_p3_letters hf _ _ hP hD hS _ (lv_sub hl [2, 3, 4, 5, 6, 7, 8, 0] rfl)
      · have hf := hb_f hf c_6
        refine lv_iload_n hx hb dX3_listOtherWords_73 rfl (lv_at hl 3 rfl) ?_
        refine lv_if_ne (tgt := 86) hx hb dX3_listOtherWords_74 (by decide) (fun c_7 => ?_) (fun c_7 => ?_)
        · have hf := hb_f hf c_7
          refine lv_aload_n hx hb dX3_listOtherWords_86 rfl (lv_at hl 4 rfl) ?_
          refine lv_iload hx hb dX3_listOtherWords_87 (lv_at hl 0 rfl) ?_
          obtain ⟨⟨z_8, z_9⟩, hc_10, hf⟩ := hb_b hf
          refine cl_Vv (rest := []) [1, 4] 1 C0 hK hP hD hS hA (c_X6_add l D cy a_p3 a_p3_letters n_p3_letters i_p3_count f_p3_letters (v1 + ((v7 - v6) * v5)) z_8 z_9 hc_10) (cwV 1 hts gX3_listOtherWords_X6_add rfl rfl rfl (by decide +kernel) ⟨Nat.le_of_ble_eq_true rfl, Nat.le_of_ble_eq_true rfl⟩) rfl rfl rfl rfl rfl rfl rfl hl.1 rfl (Nat.le_of_ble_eq_true rfl) dX3_listOtherWords_89 ⟨Nat.zero_le _, Nat.zero_le _⟩ (fun H locs hP hD hS => ?_)
          have hP : va_P D vwCl [(a_t, .inr (3, [.ref a_t_tongue, o_t_tongues, .int i_t_size, o_t_standing, .ref a_t_sense, o_t_worthToOne, o_t_worthToOther])), (a_p3, .inr (6, [.ref a_p3_letters, .int z_8])), (a_t_tongue, .inr (7, [.int i_t_tongue_length, .int i_t_tongue_words, o_t_tongue_frames, o_t_tongue_pairs, o_t_tongue_kinds, o_t_tongue_worths, o_t_tongue_framed, o_t_tongue_paired, o_t_tongue_pairWorths, .ref a_t_tongue_scales])), (a_t_tongue_scales, .inl (cy 0, 5, .inl f_t_tongue_scales)), (a_p3_letters, .inl (cy 0, n_p3_letters, .inl z_9)), (a_t_sense, .inl (cy 1, n_t_sense, .inl f_t_sense))] H := hP
          have hD : va_D A [(a_t, .inr (3, [.ref a_t_tongue, o_t_tongues, .int i_t_size, o_t_standing, .ref a_t_sense, o_t_worthToOne, o_t_worthToOther])), (a_p3, .inr (6, [.ref a_p3_letters, .int z_8])), (a_t_tongue, .inr (7, [.int i_t_tongue_length, .int i_t_tongue_words, o_t_tongue_frames, o_t_tongue_pairs, o_t_tongue_kinds, o_t_tongue_worths, o_t_tongue_framed, o_t_tongue_paired, o_t_tongue_pairWorths, .ref a_t_tongue_scales])), (a_t_tongue_scales, .inl (cy 0, 5, .inl f_t_tongue_scales)), (a_p3_letters, .inl (cy 0, n_p3_letters, .inl z_9)), (a_t_sense, .inl (cy 1, n_t_sense, .inl f_t_sense))] := hD
          refine lv_iinc (v := (v7 + 1)) (lv' := [(7, .int (v7 + 1)), (8, .int (v1 + ((v7 - v6) * v5))), (0, .ref a_t), (1, .int v1), (2, .int v2), (3, .ref a_p3), (4, .int v4), (5, .int v5), (6, .int v6)]) hx hb dX3_listOtherWords_92 hl (k := 8) rfl rfl (by decide) rfl (fun ls hl => ?_)
          refine lv_goto (tgt := 42) hx hb dX3_listOtherWords_95 (by decide) ?_
          exact ih v1 v2 v4 v5 v6 (v7 + 1) z_8 z_9 hf _ _ hP hD hS _ (lv_sub hl [2, 3, 4, 5, 6, 7, 8, 0] rfl)
        · have hf := hb_t hf c_7
          refine lv_aload_n hx hb dX3_listOtherWords_77 rfl (lv_at hl 1 rfl) ?_
          refine lv_iload hx hb dX3_listOtherWords_78 (lv_at hl 0 rfl) ?_
          obtain ⟨r_11, hc_12, hf⟩ := hb_b hf
          refine cl_Vi (rest := []) [0, 5] 0 C0 hK hP hD hS hA (c_X3_isSense l D cy a_t a_t_sense (.ref a_t_tongue) o_t_tongues o_t_standing o_t_worthToOne o_t_worthToOther i_t_size n_t_sense f_t_sense (v1 + ((v7 - v6) * v5)) r_11 hc_12) (cwV 1 hts gX3_listOtherWords_X3_isSense rfl rfl rfl (by decide +kernel) ⟨Nat.le_of_ble_eq_true rfl, Nat.le_of_ble_eq_true rfl⟩) rfl rfl rfl rfl rfl rfl rfl hl.1 rfl (Nat.le_of_ble_eq_true rfl) dX3_listOtherWords_80 ⟨Nat.zero_le _, Nat.zero_le _⟩ (fun H locs hP hD hS => ?_)
          have hP : va_P D vwCl [(a_t, .inr (3, [.ref a_t_tongue, o_t_tongues, .int i_t_size, o_t_standing, .ref a_t_sense, o_t_worthToOne, o_t_worthToOther])), (a_p3, .inr (6, [.ref a_p3_letters, .int i_p3_count])), (a_t_tongue, .inr (7, [.int i_t_tongue_length, .int i_t_tongue_words, o_t_tongue_frames, o_t_tongue_pairs, o_t_tongue_kinds, o_t_tongue_worths, o_t_tongue_framed, o_t_tongue_paired, o_t_tongue_pairWorths, .ref a_t_tongue_scales])), (a_t_tongue_scales, .inl (cy 0, 5, .inl f_t_tongue_scales)), (a_p3_letters, .inl (cy 0, n_p3_letters, .inl f_p3_letters)), (a_t_sense, .inl (cy 1, n_t_sense, .inl f_t_sense))] H := hP
          have hD : va_D A [(a_t, .inr (3, [.ref a_t_tongue, o_t_tongues, .int i_t_size, o_t_standing, .ref a_t_sense, o_t_worthToOne, o_t_worthToOther])), (a_p3, .inr (6, [.ref a_p3_letters, .int i_p3_count])), (a_t_tongue, .inr (7, [.int i_t_tongue_length, .int i_t_tongue_words, o_t_tongue_frames, o_t_tongue_pairs, o_t_tongue_kinds, o_t_tongue_worths, o_t_tongue_framed, o_t_tongue_paired, o_t_tongue_pairWorths, .ref a_t_tongue_scales])), (a_t_tongue_scales, .inl (cy 0, 5, .inl f_t_tongue_scales)), (a_p3_letters, .inl (cy 0, n_p3_letters, .inl f_p3_letters)), (a_t_sense, .inl (cy 1, n_t_sense, .inl f_t_sense))] := hD
          refine lv_if_eq (tgt := 92) hx hb dX3_listOtherWords_83 (by decide) (fun c_13 => ?_) (fun c_13 => ?_)
          · have hf := hb_t hf c_13
            refine lv_iinc (v := (v7 + 1)) (lv' := [(7, .int (v7 + 1)), (8, .int (v1 + ((v7 - v6) * v5))), (0, .ref a_t), (1, .int v1), (2, .int v2), (3, .ref a_p3), (4, .int v4), (5, .int v5), (6, .int v6)]) hx hb dX3_listOtherWords_92 hl (k := 8) rfl rfl (by decide) rfl (fun ls hl => ?_)
            refine lv_goto (tgt := 42) hx hb dX3_listOtherWords_95 (by decide) ?_
            exact ih v1 v2 v4 v5 v6 (v7 + 1) i_p3_count f_p3_letters hf _ _ hP hD hS _ (lv_sub hl [2, 3, 4, 5, 6, 7, 8, 0] rfl)
          · have hf := hb_f hf c_13
            refine lv_aload_n hx hb dX3_listOtherWords_86 rfl (lv_at hl 4 rfl) ?_
            refine lv_iload hx hb dX3_listOtherWords_87 (lv_at hl 0 rfl) ?_
            obtain ⟨⟨z_14, z_15⟩, hc_16, hf⟩ := hb_b hf
            refine cl_Vv (rest := []) [1, 4] 1 C0 hK hP hD hS hA (c_X6_add l D cy a_p3 a_p3_letters n_p3_letters i_p3_count f_p3_letters (v1 + ((v7 - v6) * v5)) z_14 z_15 hc_16) (cwV 1 hts gX3_listOtherWords_X6_add rfl rfl rfl (by decide +kernel) ⟨Nat.le_of_ble_eq_true rfl, Nat.le_of_ble_eq_true rfl⟩) rfl rfl rfl rfl rfl rfl rfl hl.1 rfl (Nat.le_of_ble_eq_true rfl) dX3_listOtherWords_89 ⟨Nat.zero_le _, Nat.zero_le _⟩ (fun H locs hP hD hS => ?_)
            have hP : va_P D vwCl [(a_t, .inr (3, [.ref a_t_tongue, o_t_tongues, .int i_t_size, o_t_standing, .ref a_t_sense, o_t_worthToOne, o_t_worthToOther])), (a_p3, .inr (6, [.ref a_p3_letters, .int z_14])), (a_t_tongue, .inr (7, [.int i_t_tongue_length, .int i_t_tongue_words, o_t_tongue_frames, o_t_tongue_pairs, o_t_tongue_kinds, o_t_tongue_worths, o_t_tongue_framed, o_t_tongue_paired, o_t_tongue_pairWorths, .ref a_t_tongue_scales])), (a_t_tongue_scales, .inl (cy 0, 5, .inl f_t_tongue_scales)), (a_p3_letters, .inl (cy 0, n_p3_letters, .inl z_15)), (a_t_sense, .inl (cy 1, n_t_sense, .inl f_t_sense))] H := hP
            have hD : va_D A [(a_t, .inr (3, [.ref a_t_tongue, o_t_tongues, .int i_t_size, o_t_standing, .ref a_t_sense, o_t_worthToOne, o_t_worthToOther])), (a_p3, .inr (6, [.ref a_p3_letters, .int z_14])), (a_t_tongue, .inr (7, [.int i_t_tongue_length, .int i_t_tongue_words, o_t_tongue_frames, o_t_tongue_pairs, o_t_tongue_kinds, o_t_tongue_worths, o_t_tongue_framed, o_t_tongue_paired, o_t_tongue_pairWorths, .ref a_t_tongue_scales])), (a_t_tongue_scales, .inl (cy 0, 5, .inl f_t_tongue_scales)), (a_p3_letters, .inl (cy 0, n_p3_letters, .inl z_15)), (a_t_sense, .inl (cy 1, n_t_sense, .inl f_t_sense))] := hD
            refine lv_iinc (v := (v7 + 1)) (lv' := [(7, .int (v7 + 1)), (8, .int (v1 + ((v7 - v6) * v5))), (0, .ref a_t), (1, .int v1), (2, .int v2), (3, .ref a_p3), (4, .int v4), (5, .int v5), (6, .int v6)]) hx hb dX3_listOtherWords_92 hl (k := 8) rfl rfl (by decide) rfl (fun ls hl => ?_)
            refine lv_goto (tgt := 42) hx hb dX3_listOtherWords_95 (by decide) ?_
            exact ih v1 v2 v4 v5 v6 (v7 + 1) z_14 z_15 hf _ _ hP hD hS _ (lv_sub hl [2, 3, 4, 5, 6, 7, 8, 0] rfl)
def f_X3_listOtherWords_L3 (i_t_size : Int32) (i_t_tongue_length : Int32) (i_t_tongue_words : Int32) (f_t_tongue_scales : Nat → Int32) (n_p3_letters : Nat) (n_t_sense : Nat) (f_t_sense : Nat → Int32) : Nat → Int32 → Int32 → Int32 → Int32 → (Nat → Int32) → Option (Int32 × (Nat → Int32))
  | 0, _, _, _, _, _ => none
  | n + 1, v1, v2, v4, i_p3_count, f_p3_letters =>
    if i_t_tongue_length ≤ v4 then
      some (i_p3_count, f_p3_letters)
    else
      if ixb v4 5 = true then
      (f_X7_wordAt i_t_tongue_length i_t_tongue_words f_t_tongue_scales v1 v4).bind fun r_3 =>
      f_X3_listOtherWords_L42 i_t_size i_t_tongue_length i_t_tongue_words f_t_tongue_scales n_p3_letters n_t_sense f_t_sense (fun (v1_17 : Int32) (v2_18 : Int32) (v4_19 : Int32) (z_20 : Int32) (z_21 : Nat → Int32) =>
        f_X3_listOtherWords_L3 i_t_size i_t_tongue_length i_t_tongue_words f_t_tongue_scales n_p3_letters n_t_sense f_t_sense n v1_17 v2_18 (v4_19 + 1) z_20 z_21) FU v1 v2 v4 (f_t_tongue_scales (v4 : Int32).toNatClampNeg) r_3 0 i_p3_count f_p3_letters
      else none
set_option maxRecDepth 100000 in
set_option maxHeartbeats 4000000 in
theorem L_X3_listOtherWords_3 {p : Program} {e : Env} {s : State} {m : MethodId} {args : Array Value} {below : List Frame} {meth : Method} {c : Code} {Q : State → Prop} {A : Nat → Prop} (l : Launch) (D : va_G) (cy : Nat → ClassId) (a_t : Nat) (a_p3 : Nat) (a_t_tongue : Nat) (a_t_tongue_scales : Nat) (a_p3_letters : Nat) (a_t_sense : Nat) (o_t_tongues : Value) (o_t_standing : Value) (o_t_worthToOne : Value) (o_t_worthToOther : Value) (o_t_tongue_frames : Value) (o_t_tongue_pairs : Value) (o_t_tongue_kinds : Value) (o_t_tongue_worths : Value) (o_t_tongue_framed : Value) (o_t_tongue_paired : Value) (o_t_tongue_pairWorths : Value) (i_t_size : Int32) (i_t_tongue_length : Int32) (i_t_tongue_words : Int32) (f_t_tongue_scales : Nat → Int32) (n_p3_letters : Nat) (n_t_sense : Nat) (f_t_sense : Nat → Int32) (z_i_p3_count : Int32) (z_f_p3_letters : Nat → Int32) (C0 : CX p s m args meth c cX3_listOtherWords 9 none wsX3_listOtherWords RX3) (hA : ∀ q, s.heap.size ≤ q → A q) (hK : KZ D cy A s) (hret : ∀ (H : Heap) (locs : List Loc) (ls : Array Slot) (pc : Nat), decode cX3_listOtherWords pc = .ok (.return_, 1) → va_P D vwCl [(a_t, .inr (3, [.ref a_t_tongue, o_t_tongues, .int i_t_size, o_t_standing, .ref a_t_sense, o_t_worthToOne, o_t_worthToOther])), (a_p3, .inr (6, [.ref a_p3_letters, .int z_i_p3_count])), (a_t_tongue, .inr (7, [.int i_t_tongue_length, .int i_t_tongue_words, o_t_tongue_frames, o_t_tongue_pairs, o_t_tongue_kinds, o_t_tongue_worths, o_t_tongue_framed, o_t_tongue_paired, o_t_tongue_pairWorths, .ref a_t_tongue_scales])), (a_t_tongue_scales, .inl (cy 0, 5, .inl f_t_tongue_scales)), (a_p3_letters, .inl (cy 0, n_p3_letters, .inl z_f_p3_letters)), (a_t_sense, .inl (cy 1, n_t_sense, .inl f_t_sense))] H → va_S A s.heap H locs → W p l e rmX3_listOtherWords s m args below meth c H locs 0 0 Q (F0 m pc ls [])) : ∀ (n : Nat) (v1 : Int32) (v2 : Int32) (v4 : Int32) (i_p3_count : Int32) (f_p3_letters : Nat → Int32), f_X3_listOtherWords_L3 i_t_size i_t_tongue_length i_t_tongue_words f_t_tongue_scales n_p3_letters n_t_sense f_t_sense n v1 v2 v4 i_p3_count f_p3_letters = some (z_i_p3_count, z_f_p3_letters) → ∀ (H : Heap) (locs : List Loc), va_P D vwCl [(a_t, .inr (3, [.ref a_t_tongue, o_t_tongues, .int i_t_size, o_t_standing, .ref a_t_sense, o_t_worthToOne, o_t_worthToOther])), (a_p3, .inr (6, [.ref a_p3_letters, .int i_p3_count])), (a_t_tongue, .inr (7, [.int i_t_tongue_length, .int i_t_tongue_words, o_t_tongue_frames, o_t_tongue_pairs, o_t_tongue_kinds, o_t_tongue_worths, o_t_tongue_framed, o_t_tongue_paired, o_t_tongue_pairWorths, .ref a_t_tongue_scales])), (a_t_tongue_scales, .inl (cy 0, 5, .inl f_t_tongue_scales)), (a_p3_letters, .inl (cy 0, n_p3_letters, .inl f_p3_letters)), (a_t_sense, .inl (cy 1, n_t_sense, .inl f_t_sense))] H → va_D A [(a_t, .inr (3, [.ref a_t_tongue, o_t_tongues, .int i_t_size, o_t_standing, .ref a_t_sense, o_t_worthToOne, o_t_worthToOther])), (a_p3, .inr (6, [.ref a_p3_letters, .int i_p3_count])), (a_t_tongue, .inr (7, [.int i_t_tongue_length, .int i_t_tongue_words, o_t_tongue_frames, o_t_tongue_pairs, o_t_tongue_kinds, o_t_tongue_worths, o_t_tongue_framed, o_t_tongue_paired, o_t_tongue_pairWorths, .ref a_t_tongue_scales])), (a_t_tongue_scales, .inl (cy 0, 5, .inl f_t_tongue_scales)), (a_p3_letters, .inl (cy 0, n_p3_letters, .inl f_p3_letters)), (a_t_sense, .inl (cy 1, n_t_sense, .inl f_t_sense))] → va_S A s.heap H locs → ∀ ls : Array Slot, lv_has ls 9 [(0, .ref a_t), (1, .int v1), (2, .int v2), (3, .ref a_p3), (4, .int v4)] → W p l e rmX3_listOtherWords s m args below meth c H locs 0 0 Q (F0 m 3 ls []) := by
  obtain ⟨hx, hb, hr, hml, hown, hts, hlocks⟩ := id C0
  intro n
  induction n with
  | zero => intro _ _ _ _ _ hf; rw [f_X3_listOtherWords_L3.eq_1] at hf; cases hf
  | succ n ih =>
    intro v1 v2 v4 i_p3_count f_p3_letters hf H locs hP hD hS ls hl
    rw [f_X3_listOtherWords_L3.eq_2] at hf
    refine lv_iload hx hb dX3_listOtherWords_3 (lv_at hl 4 rfl) ?_
    refine lv_aload_n hx hb dX3_listOtherWords_5 rfl (lv_at hl 0 rfl) ?_
    refine va_get (D := D) (ci := 3) (v := .ref a_t_tongue) (C := RX3) (T := TX3) (N := 7) hx hb hts uX3_listOtherWords_X3 hown hK.1.1 hP 0 rfl rfl 0 (by decide) (hts _ mX3_listOtherWords_22) (fun _ h9 => h9) rfl dX3_listOtherWords_6 ?_
    refine va_getN (D := D) (ci := 7) (v := .int i_t_tongue_length) (C := RX7) (T := TX7) (N := 10) hx hb hts uX3_listOtherWords_X7 hown hK.1.1 hP 2 rfl rfl 0 (by decide) (hK.1.nw _ nw_4) (fun _ h9 => h9) rfl dX3_listOtherWords_9 ?_
    refine lv_icmp_ge (tgt := 104) hx hb dX3_listOtherWords_12 (by decide) (fun c_1 => ?_) (fun c_1 => ?_)
    · have hf := hb_t hf c_1
      obtain ⟨e_0, e_1⟩ := tu2 hf
      subst e_0; subst e_1
      exact hret _ _ _ _ dX3_listOtherWords_104 hP hS
    · have hf := hb_f hf c_1
      refine lv_aload_n hx hb dX3_listOtherWords_15 rfl (lv_at hl 0 rfl) ?_
      refine va_get (D := D) (ci := 3) (v := .ref a_t_tongue) (C := RX3) (T := TX3) (N := 7) hx hb hts uX3_listOtherWords_X3 hown hK.1.1 hP 0 rfl rfl 0 (by decide) (hts _ mX3_listOtherWords_22) (fun _ h9 => h9) rfl dX3_listOtherWords_16 ?_
      refine va_getN (D := D) (ci := 7) (v := .ref a_t_tongue_scales) (C := RX7) (T := TX7) (N := 10) hx hb hts uX3_listOtherWords_X7 hown hK.1.1 hP 2 rfl rfl 9 (by decide) (hK.1.nw _ nw_17) (fun _ h9 => h9) rfl dX3_listOtherWords_19 ?_
      refine lv_iload hx hb dX3_listOtherWords_22 (lv_at hl 4 rfl) ?_
      obtain ⟨hg_2, hf⟩ := hb_g hf
      refine va_iald hx hb hK.1.1 hP 3 0 rfl rfl (ixb_in hg_2) dX3_listOtherWords_24 ?_
      refine lv_istore (lv' := [(5, .int (f_t_tongue_scales (v4 : Int32).toNatClampNeg)), (0, .ref a_t), (1, .int v1), (2, .int v2), (3, .ref a_p3), (4, .int v4)]) hx hb dX3_listOtherWords_25 hl (by decide) rfl (fun ls hl => ?_)
      refine lv_aload_n hx hb dX3_listOtherWords_27 rfl (lv_at hl 1 rfl) ?_
      refine va_get (D := D) (ci := 3) (v := .ref a_t_tongue) (C := RX3) (T := TX3) (N := 7) hx hb hts uX3_listOtherWords_X3 hown hK.1.1 hP 0 rfl rfl 0 (by decide) (hts _ mX3_listOtherWords_22) (fun _ h9 => h9) rfl dX3_listOtherWords_28 ?_
      refine lv_iload_n hx hb dX3_listOtherWords_31 rfl (lv_at hl 2 rfl) ?_
      refine lv_iload hx hb dX3_listOtherWords_32 (lv_at hl 5 rfl) ?_
      obtain ⟨r_3, hc_4, hf⟩ := hb_b hf
      refine cl_Vi (rest := []) [2, 3] 2 C0 hK hP hD hS hA (c_X7_wordAt l D cy a_t_tongue a_t_tongue_scales o_t_tongue_frames o_t_tongue_pairs o_t_tongue_kinds o_t_tongue_worths o_t_tongue_framed o_t_tongue_paired o_t_tongue_pairWorths i_t_tongue_length i_t_tongue_words f_t_tongue_scales v1 v4 r_3 hc_4) (cwV 2 hts gX3_listOtherWords_X7_wordAt rfl rfl rfl (by decide +kernel) ⟨Nat.le_of_ble_eq_true rfl, Nat.le_of_ble_eq_true rfl⟩) rfl rfl rfl rfl rfl rfl rfl hl.1 rfl (Nat.le_of_ble_eq_true rfl) dX3_listOtherWords_34 ⟨Nat.zero_le _, Nat.zero_le _⟩ (fun H locs hP hD hS => ?_)
      have hP : va_P D vwCl [(a_t, .inr (3, [.ref a_t_tongue, o_t_tongues, .int i_t_size, o_t_standing, .ref a_t_sense, o_t_worthToOne, o_t_worthToOther])), (a_p3, .inr (6, [.ref a_p3_letters, .int i_p3_count])), (a_t_tongue, .inr (7, [.int i_t_tongue_length, .int i_t_tongue_words, o_t_tongue_frames, o_t_tongue_pairs, o_t_tongue_kinds, o_t_tongue_worths, o_t_tongue_framed, o_t_tongue_paired, o_t_tongue_pairWorths, .ref a_t_tongue_scales])), (a_t_tongue_scales, .inl (cy 0, 5, .inl f_t_tongue_scales)), (a_p3_letters, .inl (cy 0, n_p3_letters, .inl f_p3_letters)), (a_t_sense, .inl (cy 1, n_t_sense, .inl f_t_sense))] H := hP
      have hD : va_D A [(a_t, .inr (3, [.ref a_t_tongue, o_t_tongues, .int i_t_size, o_t_standing, .ref a_t_sense, o_t_worthToOne, o_t_worthToOther])), (a_p3, .inr (6, [.ref a_p3_letters, .int i_p3_count])), (a_t_tongue, .inr (7, [.int i_t_tongue_length, .int i_t_tongue_words, o_t_tongue_frames, o_t_tongue_pairs, o_t_tongue_kinds, o_t_tongue_worths, o_t_tongue_framed, o_t_tongue_paired, o_t_tongue_pairWorths, .ref a_t_tongue_scales])), (a_t_tongue_scales, .inl (cy 0, 5, .inl f_t_tongue_scales)), (a_p3_letters, .inl (cy 0, n_p3_letters, .inl f_p3_letters)), (a_t_sense, .inl (cy 1, n_t_sense, .inl f_t_sense))] := hD
      refine lv_istore (lv' := [(6, .int r_3), (5, .int (f_t_tongue_scales (v4 : Int32).toNatClampNeg)), (0, .ref a_t), (1, .int v1), (2, .int v2), (3, .ref a_p3), (4, .int v4)]) hx hb dX3_listOtherWords_37 hl (by decide) rfl (fun ls hl => ?_)
      refine lv_iconst (v := 0) hx hb dX3_listOtherWords_39 (by decide) ?_
      refine lv_istore (lv' := [(7, .int 0), (6, .int r_3), (5, .int (f_t_tongue_scales (v4 : Int32).toNatClampNeg)), (0, .ref a_t), (1, .int v1), (2, .int v2), (3, .ref a_p3), (4, .int v4)]) hx hb dX3_listOtherWords_40 hl (by decide) rfl (fun ls hl => ?_)
      refine L_X3_listOtherWords_42 l D cy a_t a_p3 a_t_tongue a_t_tongue_scales a_p3_letters a_t_sense o_t_tongues o_t_standing o_t_worthToOne o_t_worthToOther o_t_tongue_frames o_t_tongue_pairs o_t_tongue_kinds o_t_tongue_worths o_t_tongue_framed o_t_tongue_paired o_t_tongue_pairWorths i_t_size i_t_tongue_length i_t_tongue_words f_t_tongue_scales n_p3_letters n_t_sense f_t_sense z_i_p3_count z_f_p3_letters C0 hA hK (fun v1_17 v2_18 v4_19 z_20 z_21 H locs hf hP hD hS ls hl => ?_) FU v1 v2 v4 (f_t_tongue_scales (v4 : Int32).toNatClampNeg) r_3 0 i_p3_count f_p3_letters hf _ _ hP hD hS _ (lv_sub hl [3, 4, 5, 6, 7, 2, 1, 0] rfl)
      refine lv_iinc (v := (v4_19 + 1)) (lv' := [(4, .int (v4_19 + 1)), (0, .ref a_t), (1, .int v1_17), (2, .int v2_18), (3, .ref a_p3)]) hx hb dX3_listOtherWords_98 hl (k := 4) rfl rfl (by decide) rfl (fun ls hl => ?_)
      refine lv_goto (tgt := 3) hx hb dX3_listOtherWords_101 (by decide) ?_
      exact ih v1_17 v2_18 (v4_19 + 1) z_20 z_21 hf _ _ hP hD hS _ (lv_sub hl [1, 2, 3, 4, 0] rfl)
def f_X3_listOtherWords (i_t_size : Int32) (i_t_tongue_length : Int32) (i_t_tongue_words : Int32) (f_t_tongue_scales : Nat → Int32) (n_p3_letters : Nat) (n_t_sense : Nat) (f_t_sense : Nat → Int32) (i_p3_count : Int32) (f_p3_letters : Nat → Int32) (p1 : Int32) (p2 : Int32) : Option (Int32 × (Nat → Int32)) :=
  f_X3_listOtherWords_L3 i_t_size i_t_tongue_length i_t_tongue_words f_t_tongue_scales n_p3_letters n_t_sense f_t_sense FU p1 p2 0 i_p3_count f_p3_letters
set_option maxRecDepth 100000 in
set_option maxHeartbeats 4000000 in
theorem c_X3_listOtherWords (l : Launch) (D : va_G) (cy : Nat → ClassId) (a_t : Nat) (a_p3 : Nat) (a_t_tongue : Nat) (a_t_tongue_scales : Nat) (a_p3_letters : Nat) (a_t_sense : Nat) (o_t_tongues : Value) (o_t_standing : Value) (o_t_worthToOne : Value) (o_t_worthToOther : Value) (o_t_tongue_frames : Value) (o_t_tongue_pairs : Value) (o_t_tongue_kinds : Value) (o_t_tongue_worths : Value) (o_t_tongue_framed : Value) (o_t_tongue_paired : Value) (o_t_tongue_pairWorths : Value) (i_t_size : Int32) (i_t_tongue_length : Int32) (i_t_tongue_words : Int32) (f_t_tongue_scales : Nat → Int32) (n_p3_letters : Nat) (n_t_sense : Nat) (f_t_sense : Nat → Int32) (i_p3_count : Int32) (f_p3_letters : Nat → Int32) (p1 : Int32) (p2 : Int32) (z_i_p3_count : Int32) (z_f_p3_letters : Nat → Int32) (hf : f_X3_listOtherWords i_t_size i_t_tongue_length i_t_tongue_words f_t_tongue_scales n_p3_letters n_t_sense f_t_sense i_p3_count f_p3_letters p1 p2 = some (z_i_p3_count, z_f_p3_letters)) : MV l D cy yX3_listOtherWords wsX3_listOtherWords rmX3_listOtherWords [.ref a_t, .int p1, .int p2, .ref a_p3] [(a_t, .inr (3, [.ref a_t_tongue, o_t_tongues, .int i_t_size, o_t_standing, .ref a_t_sense, o_t_worthToOne, o_t_worthToOther])), (a_p3, .inr (6, [.ref a_p3_letters, .int i_p3_count])), (a_t_tongue, .inr (7, [.int i_t_tongue_length, .int i_t_tongue_words, o_t_tongue_frames, o_t_tongue_pairs, o_t_tongue_kinds, o_t_tongue_worths, o_t_tongue_framed, o_t_tongue_paired, o_t_tongue_pairWorths, .ref a_t_tongue_scales])), (a_t_tongue_scales, .inl (cy 0, 5, .inl f_t_tongue_scales)), (a_p3_letters, .inl (cy 0, n_p3_letters, .inl f_p3_letters)), (a_t_sense, .inl (cy 1, n_t_sense, .inl f_t_sense))] [(a_t, .inr (3, [.ref a_t_tongue, o_t_tongues, .int i_t_size, o_t_standing, .ref a_t_sense, o_t_worthToOne, o_t_worthToOther])), (a_p3, .inr (6, [.ref a_p3_letters, .int z_i_p3_count])), (a_t_tongue, .inr (7, [.int i_t_tongue_length, .int i_t_tongue_words, o_t_tongue_frames, o_t_tongue_pairs, o_t_tongue_kinds, o_t_tongue_worths, o_t_tongue_framed, o_t_tongue_paired, o_t_tongue_pairWorths, .ref a_t_tongue_scales])), (a_t_tongue_scales, .inl (cy 0, 5, .inl f_t_tongue_scales)), (a_p3_letters, .inl (cy 0, n_p3_letters, .inl z_f_p3_letters)), (a_t_sense, .inl (cy 1, n_t_sense, .inl f_t_sense))] := by
  refine st_V (by decide) rfl (Nat.le_of_ble_eq_true rfl) (fun p e s m below meth c A Q ls C0 hA hK hP hD hS hl hret => ?_)
  obtain ⟨hx, hb, hr, hml, hown, hts, hlocks⟩ := id C0
  have hl : lv_has ls 9 [(0, .ref a_t), (1, .int p1), (2, .int p2), (3, .ref a_p3)] := hl
  unfold f_X3_listOtherWords at hf
  refine lv_iconst (v := 0) hx hb dX3_listOtherWords_0 (by decide) ?_
  refine lv_istore (lv' := [(4, .int 0), (0, .ref a_t), (1, .int p1), (2, .int p2), (3, .ref a_p3)]) hx hb dX3_listOtherWords_1 hl (by decide) rfl (fun ls hl => ?_)
  refine L_X3_listOtherWords_3 l D cy a_t a_p3 a_t_tongue a_t_tongue_scales a_p3_letters a_t_sense o_t_tongues o_t_standing o_t_worthToOne o_t_worthToOther o_t_tongue_frames o_t_tongue_pairs o_t_tongue_kinds o_t_tongue_worths o_t_tongue_framed o_t_tongue_paired o_t_tongue_pairWorths i_t_size i_t_tongue_length i_t_tongue_words f_t_tongue_scales n_p3_letters n_t_sense f_t_sense z_i_p3_count z_f_p3_letters C0 hA hK hret  FU p1 p2 0 i_p3_count f_p3_letters hf _ _ hP hD hS _ (lv_sub hl [1, 2, 3, 4, 0] rfl)
abbrev rmX3_listChanges : Room := { frames := 2, cells := 0, slots := 0, locals := 50 }
def f_X3_listChanges (i_t_size : Int32) (i_t_tongue_length : Int32) (i_t_tongue_words : Int32) (f_t_tongue_scales : Nat → Int32) (n_p4_letters : Nat) (n_t_sense : Nat) (f_t_sense : Nat → Int32) (i_p4_count : Int32) (f_p4_letters : Nat → Int32) (p1 : Int32) (p2 : Int32) (p3 : Int32) : Option (Int32 × (Nat → Int32)) :=
  (f_X6_empty i_p4_count).bind fun z_1 =>
  if p2 = 1 then
    if p2 = 0 then
      some (z_1, f_p4_letters)
    else
      (f_X3_listTurnsAbout i_t_size i_t_tongue_length i_t_tongue_words f_t_tongue_scales n_p4_letters n_t_sense f_t_sense z_1 f_p4_letters p1 p3).bind fun (z_5, z_6) =>
      some (z_5, z_6)
  else
    (f_X3_listOtherWords i_t_size i_t_tongue_length i_t_tongue_words f_t_tongue_scales n_p4_letters n_t_sense f_t_sense z_1 f_p4_letters p1 p3).bind fun (z_8, z_9) =>
    if p2 = 0 then
      some (z_8, z_9)
    else
      (f_X3_listTurnsAbout i_t_size i_t_tongue_length i_t_tongue_words f_t_tongue_scales n_p4_letters n_t_sense f_t_sense z_8 z_9 p1 p3).bind fun (z_12, z_13) =>
      some (z_12, z_13)
set_option maxRecDepth 100000 in
set_option maxHeartbeats 4000000 in
theorem c_X3_listChanges (l : Launch) (D : va_G) (cy : Nat → ClassId) (a_t : Nat) (a_p4 : Nat) (a_t_tongue : Nat) (a_t_tongue_scales : Nat) (a_p4_letters : Nat) (a_t_sense : Nat) (o_t_tongues : Value) (o_t_standing : Value) (o_t_worthToOne : Value) (o_t_worthToOther : Value) (o_t_tongue_frames : Value) (o_t_tongue_pairs : Value) (o_t_tongue_kinds : Value) (o_t_tongue_worths : Value) (o_t_tongue_framed : Value) (o_t_tongue_paired : Value) (o_t_tongue_pairWorths : Value) (i_t_size : Int32) (i_t_tongue_length : Int32) (i_t_tongue_words : Int32) (f_t_tongue_scales : Nat → Int32) (n_p4_letters : Nat) (n_t_sense : Nat) (f_t_sense : Nat → Int32) (i_p4_count : Int32) (f_p4_letters : Nat → Int32) (p1 : Int32) (p2 : Int32) (p3 : Int32) (z_i_p4_count : Int32) (z_f_p4_letters : Nat → Int32) (hf : f_X3_listChanges i_t_size i_t_tongue_length i_t_tongue_words f_t_tongue_scales n_p4_letters n_t_sense f_t_sense i_p4_count f_p4_letters p1 p2 p3 = some (z_i_p4_count, z_f_p4_letters)) : MV l D cy yX3_listChanges wsX3_listChanges rmX3_listChanges [.ref a_t, .int p1, .int p2, .int p3, .ref a_p4] [(a_t, .inr (3, [.ref a_t_tongue, o_t_tongues, .int i_t_size, o_t_standing, .ref a_t_sense, o_t_worthToOne, o_t_worthToOther])), (a_p4, .inr (6, [.ref a_p4_letters, .int i_p4_count])), (a_t_tongue, .inr (7, [.int i_t_tongue_length, .int i_t_tongue_words, o_t_tongue_frames, o_t_tongue_pairs, o_t_tongue_kinds, o_t_tongue_worths, o_t_tongue_framed, o_t_tongue_paired, o_t_tongue_pairWorths, .ref a_t_tongue_scales])), (a_t_tongue_scales, .inl (cy 0, 5, .inl f_t_tongue_scales)), (a_p4_letters, .inl (cy 0, n_p4_letters, .inl f_p4_letters)), (a_t_sense, .inl (cy 1, n_t_sense, .inl f_t_sense))] [(a_t, .inr (3, [.ref a_t_tongue, o_t_tongues, .int i_t_size, o_t_standing, .ref a_t_sense, o_t_worthToOne, o_t_worthToOther])), (a_p4, .inr (6, [.ref a_p4_letters, .int z_i_p4_count])), (a_t_tongue, .inr (7, [.int i_t_tongue_length, .int i_t_tongue_words, o_t_tongue_frames, o_t_tongue_pairs, o_t_tongue_kinds, o_t_tongue_worths, o_t_tongue_framed, o_t_tongue_paired, o_t_tongue_pairWorths, .ref a_t_tongue_scales])), (a_t_tongue_scales, .inl (cy 0, 5, .inl f_t_tongue_scales)), (a_p4_letters, .inl (cy 0, n_p4_letters, .inl z_f_p4_letters)), (a_t_sense, .inl (cy 1, n_t_sense, .inl f_t_sense))] := by
  refine st_V (by decide) rfl (Nat.le_of_ble_eq_true rfl) (fun p e s m below meth c A Q ls C0 hA hK hP hD hS hl hret => ?_)
  obtain ⟨hx, hb, hr, hml, hown, hts, hlocks⟩ := id C0
  have hl : lv_has ls 5 [(0, .ref a_t), (1, .int p1), (2, .int p2), (3, .int p3), (4, .ref a_p4)] := hl
  unfold f_X3_listChanges at hf
  refine lv_aload hx hb dX3_listChanges_0 (lv_at hl 4 rfl) ?_
  obtain ⟨z_1, hc_2, hf⟩ := hb_b hf
  refine cl_Vv (rest := []) [1] 1 C0 hK hP hD hS hA (c_X6_empty l D cy a_p4 (.ref a_p4_letters) i_p4_count z_1 hc_2) (cwV 0 hts gX3_listChanges_X6_empty rfl rfl rfl (by decide +kernel) ⟨Nat.le_of_ble_eq_true rfl, Nat.le_of_ble_eq_true rfl⟩) rfl rfl rfl rfl rfl rfl rfl hl.1 rfl (Nat.le_of_ble_eq_true rfl) dX3_listChanges_2 ⟨Nat.zero_le _, Nat.zero_le _⟩ (fun H locs hP hD hS => ?_)
  have hP : va_P D vwCl [(a_t, .inr (3, [.ref a_t_tongue, o_t_tongues, .int i_t_size, o_t_standing, .ref a_t_sense, o_t_worthToOne, o_t_worthToOther])), (a_p4, .inr (6, [.ref a_p4_letters, .int z_1])), (a_t_tongue, .inr (7, [.int i_t_tongue_length, .int i_t_tongue_words, o_t_tongue_frames, o_t_tongue_pairs, o_t_tongue_kinds, o_t_tongue_worths, o_t_tongue_framed, o_t_tongue_paired, o_t_tongue_pairWorths, .ref a_t_tongue_scales])), (a_t_tongue_scales, .inl (cy 0, 5, .inl f_t_tongue_scales)), (a_p4_letters, .inl (cy 0, n_p4_letters, .inl f_p4_letters)), (a_t_sense, .inl (cy 1, n_t_sense, .inl f_t_sense))] H := hP
  have hD : va_D A [(a_t, .inr (3, [.ref a_t_tongue, o_t_tongues, .int i_t_size, o_t_standing, .ref a_t_sense, o_t_worthToOne, o_t_worthToOther])), (a_p4, .inr (6, [.ref a_p4_letters, .int z_1])), (a_t_tongue, .inr (7, [.int i_t_tongue_length, .int i_t_tongue_words, o_t_tongue_frames, o_t_tongue_pairs, o_t_tongue_kinds, o_t_tongue_worths, o_t_tongue_framed, o_t_tongue_paired, o_t_tongue_pairWorths, .ref a_t_tongue_scales])), (a_t_tongue_scales, .inl (cy 0, 5, .inl f_t_tongue_scales)), (a_p4_letters, .inl (cy 0, n_p4_letters, .inl f_p4_letters)), (a_t_sense, .inl (cy 1, n_t_sense, .inl f_t_sense))] := hD
  refine lv_iload_n hx hb dX3_listChanges_5 rfl (lv_at hl 2 rfl) ?_
  refine lv_iconst (v := 1) hx hb dX3_listChanges_6 (by decide) ?_
  refine lv_icmp_eq (tgt := 18) hx hb dX3_listChanges_7 (by decide) (fun c_3 => ?_) (fun c_3 => ?_)
  · have hf := hb_t hf c_3
    refine lv_iload_n hx hb dX3_listChanges_18 rfl (lv_at hl 2 rfl) ?_
    refine lv_if_eq (tgt := 30) hx hb dX3_listChanges_19 (by decide) (fun c_4 => ?_) (fun c_4 => ?_)
    · have hf := hb_t hf c_4
      obtain ⟨e_0, e_1⟩ := tu2 hf
      subst e_0; subst e_1
      exact hret _ _ _ _ dX3_listChanges_30 hP hS
    · have hf := hb_f hf c_4
      refine lv_aload_n hx hb dX3_listChanges_22 rfl (lv_at hl 0 rfl) ?_
      refine lv_iload_n hx hb dX3_listChanges_23 rfl (lv_at hl 1 rfl) ?_
      refine lv_iload_n hx hb dX3_listChanges_24 rfl (lv_at hl 3 rfl) ?_
      refine lv_aload hx hb dX3_listChanges_25 (lv_at hl 4 rfl) ?_
      obtain ⟨⟨z_5, z_6⟩, hc_7, hf⟩ := hb_b hf
      refine cl_Vv (rest := []) [0, 1, 2, 3, 4, 5] 0 C0 hK hP hD hS hA (c_X3_listTurnsAbout l D cy a_t a_p4 a_t_tongue a_t_tongue_scales a_p4_letters a_t_sense o_t_tongues o_t_standing o_t_worthToOne o_t_worthToOther o_t_tongue_frames o_t_tongue_pairs o_t_tongue_kinds o_t_tongue_worths o_t_tongue_framed o_t_tongue_paired o_t_tongue_pairWorths i_t_size i_t_tongue_length i_t_tongue_words f_t_tongue_scales n_p4_letters n_t_sense f_t_sense z_1 f_p4_letters p1 p3 z_5 z_6 hc_7) (cwV 3 hts gX3_listChanges_X3_listTurnsAbout rfl rfl rfl (by decide +kernel) ⟨Nat.le_of_ble_eq_true rfl, Nat.le_of_ble_eq_true rfl⟩) rfl rfl rfl rfl rfl rfl rfl hl.1 rfl (Nat.le_of_ble_eq_true rfl) dX3_listChanges_27 ⟨Nat.zero_le _, Nat.zero_le _⟩ (fun H locs hP hD hS => ?_)
      have hP : va_P D vwCl [(a_t, .inr (3, [.ref a_t_tongue, o_t_tongues, .int i_t_size, o_t_standing, .ref a_t_sense, o_t_worthToOne, o_t_worthToOther])), (a_p4, .inr (6, [.ref a_p4_letters, .int z_5])), (a_t_tongue, .inr (7, [.int i_t_tongue_length, .int i_t_tongue_words, o_t_tongue_frames, o_t_tongue_pairs, o_t_tongue_kinds, o_t_tongue_worths, o_t_tongue_framed, o_t_tongue_paired, o_t_tongue_pairWorths, .ref a_t_tongue_scales])), (a_t_tongue_scales, .inl (cy 0, 5, .inl f_t_tongue_scales)), (a_p4_letters, .inl (cy 0, n_p4_letters, .inl z_6)), (a_t_sense, .inl (cy 1, n_t_sense, .inl f_t_sense))] H := hP
      have hD : va_D A [(a_t, .inr (3, [.ref a_t_tongue, o_t_tongues, .int i_t_size, o_t_standing, .ref a_t_sense, o_t_worthToOne, o_t_worthToOther])), (a_p4, .inr (6, [.ref a_p4_letters, .int z_5])), (a_t_tongue, .inr (7, [.int i_t_tongue_length, .int i_t_tongue_words, o_t_tongue_frames, o_t_tongue_pairs, o_t_tongue_kinds, o_t_tongue_worths, o_t_tongue_framed, o_t_tongue_paired, o_t_tongue_pairWorths, .ref a_t_tongue_scales])), (a_t_tongue_scales, .inl (cy 0, 5, .inl f_t_tongue_scales)), (a_p4_letters, .inl (cy 0, n_p4_letters, .inl z_6)), (a_t_sense, .inl (cy 1, n_t_sense, .inl f_t_sense))] := hD
      obtain ⟨e_0, e_1⟩ := tu2 hf
      subst e_0; subst e_1
      exact hret _ _ _ _ dX3_listChanges_30 hP hS
  · have hf := hb_f hf c_3
    refine lv_aload_n hx hb dX3_listChanges_10 rfl (lv_at hl 0 rfl) ?_
    refine lv_iload_n hx hb dX3_listChanges_11 rfl (lv_at hl 1 rfl) ?_
    refine lv_iload_n hx hb dX3_listChanges_12 rfl (lv_at hl 3 rfl) ?_
    refine lv_aload hx hb dX3_listChanges_13 (lv_at hl 4 rfl) ?_
    obtain ⟨⟨z_8, z_9⟩, hc_10, hf⟩ := hb_b hf
    refine cl_Vv (rest := []) [0, 1, 2, 3, 4, 5] 0 C0 hK hP hD hS hA (c_X3_listOtherWords l D cy a_t a_p4 a_t_tongue a_t_tongue_scales a_p4_letters a_t_sense o_t_tongues o_t_standing o_t_worthToOne o_t_worthToOther o_t_tongue_frames o_t_tongue_pairs o_t_tongue_kinds o_t_tongue_worths o_t_tongue_framed o_t_tongue_paired o_t_tongue_pairWorths i_t_size i_t_tongue_length i_t_tongue_words f_t_tongue_scales n_p4_letters n_t_sense f_t_sense z_1 f_p4_letters p1 p3 z_8 z_9 hc_10) (cwV 3 hts gX3_listChanges_X3_listOtherWords rfl rfl rfl (by decide +kernel) ⟨Nat.le_of_ble_eq_true rfl, Nat.le_of_ble_eq_true rfl⟩) rfl rfl rfl rfl rfl rfl rfl hl.1 rfl (Nat.le_of_ble_eq_true rfl) dX3_listChanges_15 ⟨Nat.zero_le _, Nat.zero_le _⟩ (fun H locs hP hD hS => ?_)
    have hP : va_P D vwCl [(a_t, .inr (3, [.ref a_t_tongue, o_t_tongues, .int i_t_size, o_t_standing, .ref a_t_sense, o_t_worthToOne, o_t_worthToOther])), (a_p4, .inr (6, [.ref a_p4_letters, .int z_8])), (a_t_tongue, .inr (7, [.int i_t_tongue_length, .int i_t_tongue_words, o_t_tongue_frames, o_t_tongue_pairs, o_t_tongue_kinds, o_t_tongue_worths, o_t_tongue_framed, o_t_tongue_paired, o_t_tongue_pairWorths, .ref a_t_tongue_scales])), (a_t_tongue_scales, .inl (cy 0, 5, .inl f_t_tongue_scales)), (a_p4_letters, .inl (cy 0, n_p4_letters, .inl z_9)), (a_t_sense, .inl (cy 1, n_t_sense, .inl f_t_sense))] H := hP
    have hD : va_D A [(a_t, .inr (3, [.ref a_t_tongue, o_t_tongues, .int i_t_size, o_t_standing, .ref a_t_sense, o_t_worthToOne, o_t_worthToOther])), (a_p4, .inr (6, [.ref a_p4_letters, .int z_8])), (a_t_tongue, .inr (7, [.int i_t_tongue_length, .int i_t_tongue_words, o_t_tongue_frames, o_t_tongue_pairs, o_t_tongue_kinds, o_t_tongue_worths, o_t_tongue_framed, o_t_tongue_paired, o_t_tongue_pairWorths, .ref a_t_tongue_scales])), (a_t_tongue_scales, .inl (cy 0, 5, .inl f_t_tongue_scales)), (a_p4_letters, .inl (cy 0, n_p4_letters, .inl z_9)), (a_t_sense, .inl (cy 1, n_t_sense, .inl f_t_sense))] := hD
    refine lv_iload_n hx hb dX3_listChanges_18 rfl (lv_at hl 2 rfl) ?_
    refine lv_if_eq (tgt := 30) hx hb dX3_listChanges_19 (by decide) (fun c_11 => ?_) (fun c_11 => ?_)
    · have hf := hb_t hf c_11
      obtain ⟨e_0, e_1⟩ := tu2 hf
      subst e_0; subst e_1
      exact hret _ _ _ _ dX3_listChanges_30 hP hS
    · have hf := hb_f hf c_11
      refine lv_aload_n hx hb dX3_listChanges_22 rfl (lv_at hl 0 rfl) ?_
      refine lv_iload_n hx hb dX3_listChanges_23 rfl (lv_at hl 1 rfl) ?_
      refine lv_iload_n hx hb dX3_listChanges_24 rfl (lv_at hl 3 rfl) ?_
      refine lv_aload hx hb dX3_listChanges_25 (lv_at hl 4 rfl) ?_
      obtain ⟨⟨z_12, z_13⟩, hc_14, hf⟩ := hb_b hf
      refine cl_Vv (rest := []) [0, 1, 2, 3, 4, 5] 0 C0 hK hP hD hS hA (c_X3_listTurnsAbout l D cy a_t a_p4 a_t_tongue a_t_tongue_scales a_p4_letters a_t_sense o_t_tongues o_t_standing o_t_worthToOne o_t_worthToOther o_t_tongue_frames o_t_tongue_pairs o_t_tongue_kinds o_t_tongue_worths o_t_tongue_framed o_t_tongue_paired o_t_tongue_pairWorths i_t_size i_t_tongue_length i_t_tongue_words f_t_tongue_scales n_p4_letters n_t_sense f_t_sense z_8 z_9 p1 p3 z_12 z_13 hc_14) (cwV 3 hts gX3_listChanges_X3_listTurnsAbout rfl rfl rfl (by decide +kernel) ⟨Nat.le_of_ble_eq_true rfl, Nat.le_of_ble_eq_true rfl⟩) rfl rfl rfl rfl rfl rfl rfl hl.1 rfl (Nat.le_of_ble_eq_true rfl) dX3_listChanges_27 ⟨Nat.zero_le _, Nat.zero_le _⟩ (fun H locs hP hD hS => ?_)
      have hP : va_P D vwCl [(a_t, .inr (3, [.ref a_t_tongue, o_t_tongues, .int i_t_size, o_t_standing, .ref a_t_sense, o_t_worthToOne, o_t_worthToOther])), (a_p4, .inr (6, [.ref a_p4_letters, .int z_12])), (a_t_tongue, .inr (7, [.int i_t_tongue_length, .int i_t_tongue_words, o_t_tongue_frames, o_t_tongue_pairs, o_t_tongue_kinds, o_t_tongue_worths, o_t_tongue_framed, o_t_tongue_paired, o_t_tongue_pairWorths, .ref a_t_tongue_scales])), (a_t_tongue_scales, .inl (cy 0, 5, .inl f_t_tongue_scales)), (a_p4_letters, .inl (cy 0, n_p4_letters, .inl z_13)), (a_t_sense, .inl (cy 1, n_t_sense, .inl f_t_sense))] H := hP
      have hD : va_D A [(a_t, .inr (3, [.ref a_t_tongue, o_t_tongues, .int i_t_size, o_t_standing, .ref a_t_sense, o_t_worthToOne, o_t_worthToOther])), (a_p4, .inr (6, [.ref a_p4_letters, .int z_12])), (a_t_tongue, .inr (7, [.int i_t_tongue_length, .int i_t_tongue_words, o_t_tongue_frames, o_t_tongue_pairs, o_t_tongue_kinds, o_t_tongue_worths, o_t_tongue_framed, o_t_tongue_paired, o_t_tongue_pairWorths, .ref a_t_tongue_scales])), (a_t_tongue_scales, .inl (cy 0, 5, .inl f_t_tongue_scales)), (a_p4_letters, .inl (cy 0, n_p4_letters, .inl z_13)), (a_t_sense, .inl (cy 1, n_t_sense, .inl f_t_sense))] := hD
      obtain ⟨e_0, e_1⟩ := tu2 hf
      subst e_0; subst e_1
      exact hret _ _ _ _ dX3_listChanges_30 hP hS
theorem mX1_look_21 : Cond.fieldLink RX1 21 "OneWordLetters$Foresight" "letters" "LOneWordLetters$Letters;" ∈ wsX1_look := by decide +kernel
theorem uX1_look_X1 : ∀ w ∈ wsX10, w ∈ wsX1_look := fun _ h => List.mem_cons_of_mem _ (List.mem_append_left _ (List.mem_append_left _ (List.mem_append_left _ (List.mem_append_right _ h))))
theorem uX1_look_X3 : ∀ w ∈ wsX30, w ∈ wsX1_look := fun _ h => List.mem_cons_of_mem _ (List.mem_append_left _ (List.mem_append_left _ (List.mem_append_right _ h)))
theorem mX1_look_9 : Cond.fieldLink RX1 9 "OneWordLetters$Foresight" "memory" "[I" ∈ wsX1_look := by decide +kernel
theorem mX1_look_36 : Cond.fieldLink RX1 36 "OneWordLetters$Foresight" "stamp" "I" ∈ wsX1_look := by decide +kernel
theorem mX1_look_17 : Cond.fieldLink RX1 17 "OneWordLetters$Foresight" "rows" "[LOneWordLetters$Row;" ∈ wsX1_look := by decide +kernel
theorem mX1_look_28 : Cond.fieldLink RX1 28 "OneWordLetters$Foresight" "law" "I" ∈ wsX1_look := by decide +kernel
theorem mX1_look_32 : Cond.fieldLink RX1 32 "OneWordLetters$Foresight" "nonsense" "Z" ∈ wsX1_look := by decide +kernel
theorem uX1_look_X6 : ∀ w ∈ wsX60, w ∈ wsX1_look := fun _ h => List.mem_cons_of_mem _ (List.mem_append_left _ (List.mem_append_right _ h))
theorem mX1_look_44 : Cond.constant RX1 44 (65535) ∈ wsX1_look := by decide +kernel
abbrev rmX1_look_s1 : Room := { frames := 3, cells := 0, slots := 0, locals := 74 }
def f_X1_look_s1_L119 (i_t_law : Int32) (i_t_nonsense : Int32) (i_t_stamp : Int32) (i_t_letters_size : Int32) (n_t_memory : Nat) (n_t_letters_worthToOther : Nat) (f_t_letters_worthToOther : Nat → Int32) (n_t_letters_worthToOne : Nat) (f_t_letters_worthToOne : Nat → Int32) (i_t_letters_tongue_length : Int32) (i_t_letters_tongue_words : Int32) (f_t_letters_tongue_scales : Nat → Int32) (n_t_rows1_letters : Nat) (n_t_letters_sense : Nat) (f_t_letters_sense : Nat → Int32) : Nat → Int32 → Int32 → Int32 → Int32 → Int32 → (Nat → Int32) → Int32 → (Nat → Int32) → Option (Int32 × (Nat → Int32) × Int32 × (Nat → Int32))
  | 0, _, _, _, _, _, _, _, _ => none
  | n + 1, v2, v4, v5, v6, v8, f_t_memory, i_t_rows1_count, f_t_rows1_letters =>
    if i_t_rows1_count ≤ v8 then
      if ixb v4 n_t_memory = true then
      some (v5, (upd f_t_memory (v4 : Int32).toNatClampNeg ((i_t_stamp <<< (16 &&& 31)) ||| v5)), i_t_rows1_count, f_t_rows1_letters)
      else none
    else
      (f_X6_get i_t_rows1_count n_t_rows1_letters f_t_rows1_letters v8).bind fun r_14 =>
      (f_X1_look_s0 r_14 (1 - v2)).bind fun r_16 =>
      (f_X3_worthTo i_t_letters_size n_t_letters_worthToOther f_t_letters_worthToOther n_t_letters_worthToOne f_t_letters_worthToOne v2 (r_16 - r_16 / 4096 * 4096)).bind fun r_18 =>
      if r_18 ≤ v6 then
        f_X1_look_s1_L119 i_t_law i_t_nonsense i_t_stamp i_t_letters_size n_t_memory n_t_letters_worthToOther f_t_letters_worthToOther n_t_letters_worthToOne f_t_letters_worthToOne i_t_letters_tongue_length i_t_letters_tongue_words f_t_letters_tongue_scales n_t_rows1_letters n_t_letters_sense f_t_letters_sense n v2 v4 v5 v6 (v8 + 1) f_t_memory i_t_rows1_count f_t_rows1_letters
      else
        f_X1_look_s1_L119 i_t_law i_t_nonsense i_t_stamp i_t_letters_size n_t_memory n_t_letters_worthToOther f_t_letters_worthToOther n_t_letters_worthToOne f_t_letters_worthToOne i_t_letters_tongue_length i_t_letters_tongue_words f_t_letters_tongue_scales n_t_rows1_letters n_t_letters_sense f_t_letters_sense n v2 v4 (r_16 + 4096) r_18 (v8 + 1) f_t_memory i_t_rows1_count f_t_rows1_letters
set_option maxRecDepth 100000 in
set_option maxHeartbeats 4000000 in
theorem L_X1_look_s1_119 {p : Program} {e : Env} {s : State} {m : MethodId} {args : Array Value} {below : List Frame} {meth : Method} {c : Code} {Q : State → Prop} {A : Nat → Prop} (l : Launch) (D : va_G) (cy : Nat → ClassId) (a_t : Nat) (a_t_letters : Nat) (a_t_memory : Nat) (a_t_letters_worthToOther : Nat) (a_t_letters_worthToOne : Nat) (a_t_rows : Nat) (x_t_rows0 : Nat) (x_t_rows2 : Nat) (x_t_rows3 : Nat) (x_t_rows4 : Nat) (x_t_rows5 : Nat) (x_t_rows6 : Nat) (x_t_rows7 : Nat) (x_t_rows8 : Nat) (a_t_rows1 : Nat) (a_t_letters_tongue : Nat) (a_t_letters_tongue_scales : Nat) (a_t_rows1_letters : Nat) (a_t_letters_sense : Nat) (o_t_letters_tongues : Value) (o_t_letters_standing : Value) (o_t_letters_tongue_frames : Value) (o_t_letters_tongue_pairs : Value) (o_t_letters_tongue_kinds : Value) (o_t_letters_tongue_worths : Value) (o_t_letters_tongue_framed : Value) (o_t_letters_tongue_paired : Value) (o_t_letters_tongue_pairWorths : Value) (i_t_law : Int32) (i_t_nonsense : Int32) (i_t_stamp : Int32) (i_t_letters_size : Int32) (n_t_memory : Nat) (n_t_letters_worthToOther : Nat) (f_t_letters_worthToOther : Nat → Int32) (n_t_letters_worthToOne : Nat) (f_t_letters_worthToOne : Nat → Int32) (i_t_letters_tongue_length : Int32) (i_t_letters_tongue_words : Int32) (f_t_letters_tongue_scales : Nat → Int32) (n_t_rows1_letters : Nat) (n_t_letters_sense : Nat) (f_t_letters_sense : Nat → Int32) (rv : Int32) (z_f_t_memory : Nat → Int32) (z_i_t_rows1_count : Int32) (z_f_t_rows1_letters : Nat → Int32) (C0 : CX p s m args meth c cX1_look 11 (some .int) wsX1_look RX1) (hA : ∀ q, s.heap.size ≤ q → A q) (hK : KZ D cy A s) (hret : ∀ (H : Heap) (locs : List Loc) (ls : Array Slot) (pc : Nat), decode cX1_look pc = .ok (.ireturn, 1) → narrow .int (.int rv) = .int rv → va_P D vwCl [(a_t, .inr (1, [.ref a_t_letters, .ref a_t_memory, .ref a_t_rows, .int i_t_law, .int i_t_nonsense, .int i_t_stamp])), (a_t_letters, .inr (3, [.ref a_t_letters_tongue, o_t_letters_tongues, .int i_t_letters_size, o_t_letters_standing, .ref a_t_letters_sense, .ref a_t_letters_worthToOne, .ref a_t_letters_worthToOther])), (a_t_memory, .inl (cy 0, n_t_memory, .inl z_f_t_memory)), (a_t_letters_worthToOther, .inl (cy 0, n_t_letters_worthToOther, .inl f_t_letters_worthToOther)), (a_t_letters_worthToOne, .inl (cy 0, n_t_letters_worthToOne, .inl f_t_letters_worthToOne)), (a_t_rows, .inl (cy 5, 9, .inr (.inr (.inr (.inr (rfL [x_t_rows0, a_t_rows1, x_t_rows2, x_t_rows3, x_t_rows4, x_t_rows5, x_t_rows6, x_t_rows7, x_t_rows8])))))), (a_t_rows1, .inr (6, [.ref a_t_rows1_letters, .int z_i_t_rows1_count])), (a_t_letters_tongue, .inr (7, [.int i_t_letters_tongue_length, .int i_t_letters_tongue_words, o_t_letters_tongue_frames, o_t_letters_tongue_pairs, o_t_letters_tongue_kinds, o_t_letters_tongue_worths, o_t_letters_tongue_framed, o_t_letters_tongue_paired, o_t_letters_tongue_pairWorths, .ref a_t_letters_tongue_scales])), (a_t_letters_tongue_scales, .inl (cy 0, 5, .inl f_t_letters_tongue_scales)), (a_t_rows1_letters, .inl (cy 0, n_t_rows1_letters, .inl z_f_t_rows1_letters)), (a_t_letters_sense, .inl (cy 1, n_t_letters_sense, .inl f_t_letters_sense))] H → va_S A s.heap H locs → W p l e rmX1_look_s1 s m args below meth c H locs 0 0 Q (F0 m pc ls [.int rv])) : ∀ (n : Nat) (v2 : Int32) (v4 : Int32) (v5 : Int32) (v6 : Int32) (v8 : Int32) (f_t_memory : Nat → Int32) (i_t_rows1_count : Int32) (f_t_rows1_letters : Nat → Int32), f_X1_look_s1_L119 i_t_law i_t_nonsense i_t_stamp i_t_letters_size n_t_memory n_t_letters_worthToOther f_t_letters_worthToOther n_t_letters_worthToOne f_t_letters_worthToOne i_t_letters_tongue_length i_t_letters_tongue_words f_t_letters_tongue_scales n_t_rows1_letters n_t_letters_sense f_t_letters_sense n v2 v4 v5 v6 v8 f_t_memory i_t_rows1_count f_t_rows1_letters = some (rv, z_f_t_memory, z_i_t_rows1_count, z_f_t_rows1_letters) → ∀ (H : Heap) (locs : List Loc), va_P D vwCl [(a_t, .inr (1, [.ref a_t_letters, .ref a_t_memory, .ref a_t_rows, .int i_t_law, .int i_t_nonsense, .int i_t_stamp])), (a_t_letters, .inr (3, [.ref a_t_letters_tongue, o_t_letters_tongues, .int i_t_letters_size, o_t_letters_standing, .ref a_t_letters_sense, .ref a_t_letters_worthToOne, .ref a_t_letters_worthToOther])), (a_t_memory, .inl (cy 0, n_t_memory, .inl f_t_memory)), (a_t_letters_worthToOther, .inl (cy 0, n_t_letters_worthToOther, .inl f_t_letters_worthToOther)), (a_t_letters_worthToOne, .inl (cy 0, n_t_letters_worthToOne, .inl f_t_letters_worthToOne)), (a_t_rows, .inl (cy 5, 9, .inr (.inr (.inr (.inr (rfL [x_t_rows0, a_t_rows1, x_t_rows2, x_t_rows3, x_t_rows4, x_t_rows5, x_t_rows6, x_t_rows7, x_t_rows8])))))), (a_t_rows1, .inr (6, [.ref a_t_rows1_letters, .int i_t_rows1_count])), (a_t_letters_tongue, .inr (7, [.int i_t_letters_tongue_length, .int i_t_letters_tongue_words, o_t_letters_tongue_frames, o_t_letters_tongue_pairs, o_t_letters_tongue_kinds, o_t_letters_tongue_worths, o_t_letters_tongue_framed, o_t_letters_tongue_paired, o_t_letters_tongue_pairWorths, .ref a_t_letters_tongue_scales])), (a_t_letters_tongue_scales, .inl (cy 0, 5, .inl f_t_letters_tongue_scales)), (a_t_rows1_letters, .inl (cy 0, n_t_rows1_letters, .inl f_t_rows1_letters)), (a_t_letters_sense, .inl (cy 1, n_t_letters_sense, .inl f_t_letters_sense))] H → va_D A [(a_t, .inr (1, [.ref a_t_letters, .ref a_t_memory, .ref a_t_rows, .int i_t_law, .int i_t_nonsense, .int i_t_stamp])), (a_t_letters, .inr (3, [.ref a_t_letters_tongue, o_t_letters_tongues, .int i_t_letters_size, o_t_letters_standing, .ref a_t_letters_sense, .ref a_t_letters_worthToOne, .ref a_t_letters_worthToOther])), (a_t_memory, .inl (cy 0, n_t_memory, .inl f_t_memory)), (a_t_letters_worthToOther, .inl (cy 0, n_t_letters_worthToOther, .inl f_t_letters_worthToOther)), (a_t_letters_worthToOne, .inl (cy 0, n_t_letters_worthToOne, .inl f_t_letters_worthToOne)), (a_t_rows, .inl (cy 5, 9, .inr (.inr (.inr (.inr (rfL [x_t_rows0, a_t_rows1, x_t_rows2, x_t_rows3, x_t_rows4, x_t_rows5, x_t_rows6, x_t_rows7, x_t_rows8])))))), (a_t_rows1, .inr (6, [.ref a_t_rows1_letters, .int i_t_rows1_count])), (a_t_letters_tongue, .inr (7, [.int i_t_letters_tongue_length, .int i_t_letters_tongue_words, o_t_letters_tongue_frames, o_t_letters_tongue_pairs, o_t_letters_tongue_kinds, o_t_letters_tongue_worths, o_t_letters_tongue_framed, o_t_letters_tongue_paired, o_t_letters_tongue_pairWorths, .ref a_t_letters_tongue_scales])), (a_t_letters_tongue_scales, .inl (cy 0, 5, .inl f_t_letters_tongue_scales)), (a_t_rows1_letters, .inl (cy 0, n_t_rows1_letters, .inl f_t_rows1_letters)), (a_t_letters_sense, .inl (cy 1, n_t_letters_sense, .inl f_t_letters_sense))] → va_S A s.heap H locs → ∀ ls : Array Slot, lv_has ls 11 [(0, .ref a_t), (2, .int v2), (3, .int 1), (4, .int v4), (5, .int v5), (6, .int v6), (7, .ref a_t_rows1), (8, .int v8)] → W p l e rmX1_look_s1 s m args below meth c H locs 0 0 Q (F0 m 119 ls []) := by
  obtain ⟨hx, hb, hr, hml, hown, hts, hlocks⟩ := id C0
  intro n
  induction n with
  | zero => intro _ _ _ _ _ _ _ _ hf; rw [f_X1_look_s1_L119.eq_1] at hf; cases hf
  | succ n ih =>
    intro v2 v4 v5 v6 v8 f_t_memory i_t_rows1_count f_t_rows1_letters hf H locs hP hD hS ls hl
    rw [f_X1_look_s1_L119.eq_2] at hf
    refine lv_iload hx hb dX1_look_119 (lv_at hl 7 rfl) ?_
    refine lv_aload hx hb dX1_look_121 (lv_at hl 6 rfl) ?_
    refine va_getN (D := D) (ci := 6) (v := .int i_t_rows1_count) (C := RX6) (T := TX6) (N := 2) hx hb hts uX1_look_X6 hown hK.1.1 hP 6 rfl rfl 1 (by decide) (hK.1.nw _ nw_33) (fun _ h9 => h9) rfl dX1_look_123 ?_
    refine lv_icmp_ge (tgt := 189) hx hb dX1_look_126 (by decide) (fun c_12 => ?_) (fun c_12 => ?_)
    · have hf := hb_t hf c_12
      refine lv_aload_n hx hb dX1_look_189 rfl (lv_at hl 0 rfl) ?_
      refine va_get (D := D) (ci := 1) (v := .ref a_t_memory) (C := RX1) (T := TX1) (N := 6) hx hb hts uX1_look_X1 hown hK.1.1 hP 0 rfl rfl 1 (by decide) (hts _ mX1_look_9) (fun _ h9 => h9) rfl dX1_look_190 ?_
      refine lv_iload hx hb dX1_look_193 (lv_at hl 3 rfl) ?_
      refine lv_aload_n hx hb dX1_look_195 rfl (lv_at hl 0 rfl) ?_
      refine va_get (D := D) (ci := 1) (v := .int i_t_stamp) (C := RX1) (T := TX1) (N := 6) hx hb hts uX1_look_X1 hown hK.1.1 hP 0 rfl rfl 5 (by decide) (hts _ mX1_look_36) (fun _ h9 => h9) rfl dX1_look_196 ?_
      refine lv_bipush (v := 16) hx hb dX1_look_199 (by decide) ?_
      refine lv_ishl hx hb dX1_look_201 ?_
      refine lv_iload hx hb dX1_look_202 (lv_at hl 4 rfl) ?_
      refine lv_ior hx hb dX1_look_204 ?_
      obtain ⟨hg_13, hf⟩ := hb_g hf
      refine va_iast hx hb hK.1.1 hP hD hS 2 0 rfl rfl (ixb_in hg_13) dX1_look_205 (fun H locs hP hD hS => ?_)
      have hP : va_P D vwCl [(a_t, .inr (1, [.ref a_t_letters, .ref a_t_memory, .ref a_t_rows, .int i_t_law, .int i_t_nonsense, .int i_t_stamp])), (a_t_letters, .inr (3, [.ref a_t_letters_tongue, o_t_letters_tongues, .int i_t_letters_size, o_t_letters_standing, .ref a_t_letters_sense, .ref a_t_letters_worthToOne, .ref a_t_letters_worthToOther])), (a_t_memory, .inl (cy 0, n_t_memory, .inl (upd f_t_memory (v4 : Int32).toNatClampNeg ((i_t_stamp <<< (16 &&& 31)) ||| v5)))), (a_t_letters_worthToOther, .inl (cy 0, n_t_letters_worthToOther, .inl f_t_letters_worthToOther)), (a_t_letters_worthToOne, .inl (cy 0, n_t_letters_worthToOne, .inl f_t_letters_worthToOne)), (a_t_rows, .inl (cy 5, 9, .inr (.inr (.inr (.inr (rfL [x_t_rows0, a_t_rows1, x_t_rows2, x_t_rows3, x_t_rows4, x_t_rows5, x_t_rows6, x_t_rows7, x_t_rows8])))))), (a_t_rows1, .inr (6, [.ref a_t_rows1_letters, .int i_t_rows1_count])), (a_t_letters_tongue, .inr (7, [.int i_t_letters_tongue_length, .int i_t_letters_tongue_words, o_t_letters_tongue_frames, o_t_letters_tongue_pairs, o_t_letters_tongue_kinds, o_t_letters_tongue_worths, o_t_letters_tongue_framed, o_t_letters_tongue_paired, o_t_letters_tongue_pairWorths, .ref a_t_letters_tongue_scales])), (a_t_letters_tongue_scales, .inl (cy 0, 5, .inl f_t_letters_tongue_scales)), (a_t_rows1_letters, .inl (cy 0, n_t_rows1_letters, .inl f_t_rows1_letters)), (a_t_letters_sense, .inl (cy 1, n_t_letters_sense, .inl f_t_letters_sense))] H := hP
      have hD : va_D A [(a_t, .inr (1, [.ref a_t_letters, .ref a_t_memory, .ref a_t_rows, .int i_t_law, .int i_t_nonsense, .int i_t_stamp])), (a_t_letters, .inr (3, [.ref a_t_letters_tongue, o_t_letters_tongues, .int i_t_letters_size, o_t_letters_standing, .ref a_t_letters_sense, .ref a_t_letters_worthToOne, .ref a_t_letters_worthToOther])), (a_t_memory, .inl (cy 0, n_t_memory, .inl (upd f_t_memory (v4 : Int32).toNatClampNeg ((i_t_stamp <<< (16 &&& 31)) ||| v5)))), (a_t_letters_worthToOther, .inl (cy 0, n_t_letters_worthToOther, .inl f_t_letters_worthToOther)), (a_t_letters_worthToOne, .inl (cy 0, n_t_letters_worthToOne, .inl f_t_letters_worthToOne)), (a_t_rows, .inl (cy 5, 9, .inr (.inr (.inr (.inr (rfL [x_t_rows0, a_t_rows1, x_t_rows2, x_t_rows3, x_t_rows4, x_t_rows5, x_t_rows6, x_t_rows7, x_t_rows8])))))), (a_t_rows1, .inr (6, [.ref a_t_rows1_letters, .int i_t_rows1_count])), (a_t_letters_tongue, .inr (7, [.int i_t_letters_tongue_length, .int i_t_letters_tongue_words, o_t_letters_tongue_frames, o_t_letters_tongue_pairs, o_t_letters_tongue_kinds, o_t_letters_tongue_worths, o_t_letters_tongue_framed, o_t_letters_tongue_paired, o_t_letters_tongue_pairWorths, .ref a_t_letters_tongue_scales])), (a_t_letters_tongue_scales, .inl (cy 0, 5, .inl f_t_letters_tongue_scales)), (a_t_rows1_letters, .inl (cy 0, n_t_rows1_letters, .inl f_t_rows1_letters)), (a_t_letters_sense, .inl (cy 1, n_t_letters_sense, .inl f_t_letters_sense))] := hD
      refine lv_iload hx hb dX1_look_206 (lv_at hl 4 rfl) ?_
      obtain ⟨e_0, e_1, e_2, e_3⟩ := tu4 hf
      subst e_0; subst e_1; subst e_2; subst e_3
      exact hret _ _ _ _ dX1_look_208 rfl hP hS
    · have hf := hb_f hf c_12
      refine lv_aload_n hx hb dX1_look_129 rfl (lv_at hl 0 rfl) ?_
      refine lv_aload hx hb dX1_look_130 (lv_at hl 6 rfl) ?_
      refine lv_iload hx hb dX1_look_132 (lv_at hl 7 rfl) ?_
      obtain ⟨r_14, hc_15, hf⟩ := hb_b hf
      refine cl_Vi (rest := [.ref a_t]) [6, 9] 6 C0 hK hP hD hS hA (c_X6_get l D cy a_t_rows1 a_t_rows1_letters i_t_rows1_count n_t_rows1_letters f_t_rows1_letters v8 r_14 hc_15) (cwV 1 hts gX1_look_X6_get rfl rfl rfl (by decide +kernel) ⟨Nat.le_of_ble_eq_true rfl, Nat.le_of_ble_eq_true rfl⟩) rfl rfl rfl rfl rfl rfl rfl hl.1 rfl (Nat.le_of_ble_eq_true rfl) dX1_look_134 ⟨Nat.zero_le _, Nat.zero_le _⟩ (fun H locs hP hD hS => ?_)
      have hP : va_P D vwCl [(a_t, .inr (1, [.ref a_t_letters, .ref a_t_memory, .ref a_t_rows, .int i_t_law, .int i_t_nonsense, .int i_t_stamp])), (a_t_letters, .inr (3, [.ref a_t_letters_tongue, o_t_letters_tongues, .int i_t_letters_size, o_t_letters_standing, .ref a_t_letters_sense, .ref a_t_letters_worthToOne, .ref a_t_letters_worthToOther])), (a_t_memory, .inl (cy 0, n_t_memory, .inl f_t_memory)), (a_t_letters_worthToOther, .inl (cy 0, n_t_letters_worthToOther, .inl f_t_letters_worthToOther)), (a_t_letters_worthToOne, .inl (cy 0, n_t_letters_worthToOne, .inl f_t_letters_worthToOne)), (a_t_rows, .inl (cy 5, 9, .inr (.inr (.inr (.inr (rfL [x_t_rows0, a_t_rows1, x_t_rows2, x_t_rows3, x_t_rows4, x_t_rows5, x_t_rows6, x_t_rows7, x_t_rows8])))))), (a_t_rows1, .inr (6, [.ref a_t_rows1_letters, .int i_t_rows1_count])), (a_t_letters_tongue, .inr (7, [.int i_t_letters_tongue_length, .int i_t_letters_tongue_words, o_t_letters_tongue_frames, o_t_letters_tongue_pairs, o_t_letters_tongue_kinds, o_t_letters_tongue_worths, o_t_letters_tongue_framed, o_t_letters_tongue_paired, o_t_letters_tongue_pairWorths, .ref a_t_letters_tongue_scales])), (a_t_letters_tongue_scales, .inl (cy 0, 5, .inl f_t_letters_tongue_scales)), (a_t_rows1_letters, .inl (cy 0, n_t_rows1_letters, .inl f_t_rows1_letters)), (a_t_letters_sense, .inl (cy 1, n_t_letters_sense, .inl f_t_letters_sense))] H := hP
      have hD : va_D A [(a_t, .inr (1, [.ref a_t_letters, .ref a_t_memory, .ref a_t_rows, .int i_t_law, .int i_t_nonsense, .int i_t_stamp])), (a_t_letters, .inr (3, [.ref a_t_letters_tongue, o_t_letters_tongues, .int i_t_letters_size, o_t_letters_standing, .ref a_t_letters_sense, .ref a_t_letters_worthToOne, .ref a_t_letters_worthToOther])), (a_t_memory, .inl (cy 0, n_t_memory, .inl f_t_memory)), (a_t_letters_worthToOther, .inl (cy 0, n_t_letters_worthToOther, .inl f_t_letters_worthToOther)), (a_t_letters_worthToOne, .inl (cy 0, n_t_letters_worthToOne, .inl f_t_letters_worthToOne)), (a_t_rows, .inl (cy 5, 9, .inr (.inr (.inr (.inr (rfL [x_t_rows0, a_t_rows1, x_t_rows2, x_t_rows3, x_t_rows4, x_t_rows5, x_t_rows6, x_t_rows7, x_t_rows8])))))), (a_t_rows1, .inr (6, [.ref a_t_rows1_letters, .int i_t_rows1_count])), (a_t_letters_tongue, .inr (7, [.int i_t_letters_tongue_length, .int i_t_letters_tongue_words, o_t_letters_tongue_frames, o_t_letters_tongue_pairs, o_t_letters_tongue_kinds, o_t_letters_tongue_worths, o_t_letters_tongue_framed, o_t_letters_tongue_paired, o_t_letters_tongue_pairWorths, .ref a_t_letters_tongue_scales])), (a_t_letters_tongue_scales, .inl (cy 0, 5, .inl f_t_letters_tongue_scales)), (a_t_rows1_letters, .inl (cy 0, n_t_rows1_letters, .inl f_t_rows1_letters)), (a_t_letters_sense, .inl (cy 1, n_t_letters_sense, .inl f_t_letters_sense))] := hD
      refine lv_iconst (v := 1) hx hb dX1_look_137 (by decide) ?_
      refine lv_iload_n hx hb dX1_look_138 rfl (lv_at hl 1 rfl) ?_
      refine lv_isub hx hb dX1_look_139 ?_
      refine lv_iload_n hx hb dX1_look_140 rfl (lv_at hl 2 rfl) ?_
      refine lv_iconst (v := 1) hx hb dX1_look_141 (by decide) ?_
      refine lv_isub hx hb dX1_look_142 ?_
      obtain ⟨r_16, hc_17, hf⟩ := hb_b hf
      refine cl_Vi (rest := []) [0] 0 C0 hK hP hD hS hA (c_X1_look_s0 l D cy a_t (.ref a_t_letters) (.ref a_t_memory) (.ref a_t_rows) (.int i_t_law) (.int i_t_nonsense) (.int i_t_stamp) r_14 (1 - v2) r_16 hc_17) (cwV 3 hts gX1_look_X1_look rfl rfl rfl (by decide +kernel) ⟨Nat.le_of_ble_eq_true rfl, Nat.le_of_ble_eq_true rfl⟩) rfl rfl rfl rfl rfl rfl rfl hl.1 rfl (Nat.le_of_ble_eq_true rfl) dX1_look_143 ⟨Nat.zero_le _, Nat.zero_le _⟩ (fun H locs hP hD hS => ?_)
      have hP : va_P D vwCl [(a_t, .inr (1, [.ref a_t_letters, .ref a_t_memory, .ref a_t_rows, .int i_t_law, .int i_t_nonsense, .int i_t_stamp])), (a_t_letters, .inr (3, [.ref a_t_letters_tongue, o_t_letters_tongues, .int i_t_letters_size, o_t_letters_standing, .ref a_t_letters_sense, .ref a_t_letters_worthToOne, .ref a_t_letters_worthToOther])), (a_t_memory, .inl (cy 0, n_t_memory, .inl f_t_memory)), (a_t_letters_worthToOther, .inl (cy 0, n_t_letters_worthToOther, .inl f_t_letters_worthToOther)), (a_t_letters_worthToOne, .inl (cy 0, n_t_letters_worthToOne, .inl f_t_letters_worthToOne)), (a_t_rows, .inl (cy 5, 9, .inr (.inr (.inr (.inr (rfL [x_t_rows0, a_t_rows1, x_t_rows2, x_t_rows3, x_t_rows4, x_t_rows5, x_t_rows6, x_t_rows7, x_t_rows8])))))), (a_t_rows1, .inr (6, [.ref a_t_rows1_letters, .int i_t_rows1_count])), (a_t_letters_tongue, .inr (7, [.int i_t_letters_tongue_length, .int i_t_letters_tongue_words, o_t_letters_tongue_frames, o_t_letters_tongue_pairs, o_t_letters_tongue_kinds, o_t_letters_tongue_worths, o_t_letters_tongue_framed, o_t_letters_tongue_paired, o_t_letters_tongue_pairWorths, .ref a_t_letters_tongue_scales])), (a_t_letters_tongue_scales, .inl (cy 0, 5, .inl f_t_letters_tongue_scales)), (a_t_rows1_letters, .inl (cy 0, n_t_rows1_letters, .inl f_t_rows1_letters)), (a_t_letters_sense, .inl (cy 1, n_t_letters_sense, .inl f_t_letters_sense))] H := hP
      have hD : va_D A [(a_t, .inr (1, [.ref a_t_letters, .ref a_t_memory, .ref a_t_rows, .int i_t_law, .int i_t_nonsense, .int i_t_stamp])), (a_t_letters, .inr (3, [.ref a_t_letters_tongue, o_t_letters_tongues, .int i_t_letters_size, o_t_letters_standing, .ref a_t_letters_sense, .ref a_t_letters_worthToOne, .ref a_t_letters_worthToOther])), (a_t_memory, .inl (cy 0, n_t_memory, .inl f_t_memory)), (a_t_letters_worthToOther, .inl (cy 0, n_t_letters_worthToOther, .inl f_t_letters_worthToOther)), (a_t_letters_worthToOne, .inl (cy 0, n_t_letters_worthToOne, .inl f_t_letters_worthToOne)), (a_t_rows, .inl (cy 5, 9, .inr (.inr (.inr (.inr (rfL [x_t_rows0, a_t_rows1, x_t_rows2, x_t_rows3, x_t_rows4, x_t_rows5, x_t_rows6, x_t_rows7, x_t_rows8])))))), (a_t_rows1, .inr (6, [.ref a_t_rows1_letters, .int i_t_rows1_count])), (a_t_letters_tongue, .inr (7, [.int i_t_letters_tongue_length, .int i_t_letters_tongue_words, o_t_letters_tongue_frames, o_t_letters_tongue_pairs, o_t_letters_tongue_kinds, o_t_letters_tongue_worths, o_t_letters_tongue_framed, o_t_letters_tongue_paired, o_t_letters_tongue_pairWorths, .ref a_t_letters_tongue_scales])), (a_t_letters_tongue_scales, .inl (cy 0, 5, .inl f_t_letters_tongue_scales)), (a_t_rows1_letters, .inl (cy 0, n_t_rows1_letters, .inl f_t_rows1_letters)), (a_t_letters_sense, .inl (cy 1, n_t_letters_sense, .inl f_t_letters_sense))] := hD
      refine lv_istore (lv' := [(9, .int r_16), (0, .ref a_t), (2, .int v2), (3, .int 1), (4, .int v4), (5, .int v5), (6, .int v6), (7, .ref a_t_rows1), (8, .int v8)]) hx hb dX1_look_146 hl (by decide) rfl (fun ls hl => ?_)
      refine lv_aload_n hx hb dX1_look_148 rfl (lv_at hl 1 rfl) ?_
      refine va_get (D := D) (ci := 1) (v := .ref a_t_letters) (C := RX1) (T := TX1) (N := 6) hx hb hts uX1_look_X1 hown hK.1.1 hP 0 rfl rfl 0 (by decide) (hts _ mX1_look_21) (fun _ h9 => h9) rfl dX1_look_149 ?_
      refine lv_iload_n hx hb dX1_look_152 rfl (lv_at hl 2 rfl) ?_
      refine lv_iload hx hb dX1_look_153 (lv_at hl 0 rfl) ?_
      refine lv_sipush (v := 4096) hx hb dX1_look_155 (by decide) ?_
      refine lv_irem hx hb dX1_look_158 (by decide) ?_
      obtain ⟨r_18, hc_19, hf⟩ := hb_b hf
      refine cl_Vi (rest := []) [1, 3, 4] 1 C0 hK hP hD hS hA (c_X3_worthTo l D cy a_t_letters a_t_letters_worthToOther a_t_letters_worthToOne (.ref a_t_letters_tongue) o_t_letters_tongues o_t_letters_standing (.ref a_t_letters_sense) i_t_letters_size n_t_letters_worthToOther f_t_letters_worthToOther n_t_letters_worthToOne f_t_letters_worthToOne v2 (r_16 - r_16 / 4096 * 4096) r_18 hc_19) (cwV 2 hts gX1_look_X3_worthTo rfl rfl rfl (by decide +kernel) ⟨Nat.le_of_ble_eq_true rfl, Nat.le_of_ble_eq_true rfl⟩) rfl rfl rfl rfl rfl rfl rfl hl.1 rfl (Nat.le_of_ble_eq_true rfl) dX1_look_159 ⟨Nat.zero_le _, Nat.zero_le _⟩ (fun H locs hP hD hS => ?_)
      have hP : va_P D vwCl [(a_t, .inr (1, [.ref a_t_letters, .ref a_t_memory, .ref a_t_rows, .int i_t_law, .int i_t_nonsense, .int i_t_stamp])), (a_t_letters, .inr (3, [.ref a_t_letters_tongue, o_t_letters_tongues, .int i_t_letters_size, o_t_letters_standing, .ref a_t_letters_sense, .ref a_t_letters_worthToOne, .ref a_t_letters_worthToOther])), (a_t_memory, .inl (cy 0, n_t_memory, .inl f_t_memory)), (a_t_letters_worthToOther, .inl (cy 0, n_t_letters_worthToOther, .inl f_t_letters_worthToOther)), (a_t_letters_worthToOne, .inl (cy 0, n_t_letters_worthToOne, .inl f_t_letters_worthToOne)), (a_t_rows, .inl (cy 5, 9, .inr (.inr (.inr (.inr (rfL [x_t_rows0, a_t_rows1, x_t_rows2, x_t_rows3, x_t_rows4, x_t_rows5, x_t_rows6, x_t_rows7, x_t_rows8])))))), (a_t_rows1, .inr (6, [.ref a_t_rows1_letters, .int i_t_rows1_count])), (a_t_letters_tongue, .inr (7, [.int i_t_letters_tongue_length, .int i_t_letters_tongue_words, o_t_letters_tongue_frames, o_t_letters_tongue_pairs, o_t_letters_tongue_kinds, o_t_letters_tongue_worths, o_t_letters_tongue_framed, o_t_letters_tongue_paired, o_t_letters_tongue_pairWorths, .ref a_t_letters_tongue_scales])), (a_t_letters_tongue_scales, .inl (cy 0, 5, .inl f_t_letters_tongue_scales)), (a_t_rows1_letters, .inl (cy 0, n_t_rows1_letters, .inl f_t_rows1_letters)), (a_t_letters_sense, .inl (cy 1, n_t_letters_sense, .inl f_t_letters_sense))] H := hP
      have hD : va_D A [(a_t, .inr (1, [.ref a_t_letters, .ref a_t_memory, .ref a_t_rows, .int i_t_law, .int i_t_nonsense, .int i_t_stamp])), (a_t_letters, .inr (3, [.ref a_t_letters_tongue, o_t_letters_tongues, .int i_t_letters_size, o_t_letters_standing, .ref a_t_letters_sense, .ref a_t_letters_worthToOne, .ref a_t_letters_worthToOther])), (a_t_memory, .inl (cy 0, n_t_memory, .inl f_t_memory)), (a_t_letters_worthToOther, .inl (cy 0, n_t_letters_worthToOther, .inl f_t_letters_worthToOther)), (a_t_letters_worthToOne, .inl (cy 0, n_t_letters_worthToOne, .inl f_t_letters_worthToOne)), (a_t_rows, .inl (cy 5, 9, .inr (.inr (.inr (.inr (rfL [x_t_rows0, a_t_rows1, x_t_rows2, x_t_rows3, x_t_rows4, x_t_rows5, x_t_rows6, x_t_rows7, x_t_rows8])))))), (a_t_rows1, .inr (6, [.ref a_t_rows1_letters, .int i_t_rows1_count])), (a_t_letters_tongue, .inr (7, [.int i_t_letters_tongue_length, .int i_t_letters_tongue_words, o_t_letters_tongue_frames, o_t_letters_tongue_pairs, o_t_letters_tongue_kinds, o_t_letters_tongue_worths, o_t_letters_tongue_framed, o_t_letters_tongue_paired, o_t_letters_tongue_pairWorths, .ref a_t_letters_tongue_scales])), (a_t_letters_tongue_scales, .inl (cy 0, 5, .inl f_t_letters_tongue_scales)), (a_t_rows1_letters, .inl (cy 0, n_t_rows1_letters, .inl f_t_rows1_letters)), (a_t_letters_sense, .inl (cy 1, n_t_letters_sense, .inl f_t_letters_sense))] := hD
      refine lv_istore (lv' := [(10, .int r_18), (9, .int r_16), (0, .ref a_t), (2, .int v2), (3, .int 1), (4, .int v4), (5, .int v5), (6, .int v6), (7, .ref a_t_rows1), (8, .int v8)]) hx hb dX1_look_162 hl (by decide) rfl (fun ls hl => ?_)
      refine lv_iload hx hb dX1_look_164 (lv_at hl 0 rfl) ?_
      refine lv_iload hx hb dX1_look_166 (lv_at hl 7 rfl) ?_
      refine lv_icmp_le (tgt := 183) hx hb dX1_look_168 (by decide) (fun c_20 => ?_) (fun c_20 => ?_)
      · have hf := hb_t hf c_20
        refine lv_iinc (v := (v8 + 1)) (lv' := [(8, .int (v8 + 1)), (10, .int r_18), (9, .int r_16), (0, .ref a_t), (2, .int v2), (3, .int 1), (4, .int v4), (5, .int v5), (6, .int v6), (7, .ref a_t_rows1)]) hx hb dX1_look_183 hl (k := 9) rfl rfl (by decide) rfl (fun ls hl => ?_)
        refine lv_goto (tgt := 119) hx hb dX1_look_186 (by decide) ?_
        exact ih v2 v4 v5 v6 (v8 + 1) f_t_memory i_t_rows1_count f_t_rows1_letters hf _ _ hP hD hS _ (lv_sub hl [3, 4, 5, 6, 7, 8, 9, 0] rfl)
      · have hf := hb_f hf c_20
        refine lv_iload hx hb dX1_look_171 (lv_at hl 0 rfl) ?_
        refine lv_istore (lv' := [(6, .int r_18), (10, .int r_18), (9, .int r_16), (0, .ref a_t), (2, .int v2), (3, .int 1), (4, .int v4), (5, .int v5), (7, .ref a_t_rows1), (8, .int v8)]) hx hb dX1_look_173 hl (by decide) rfl (fun ls hl => ?_)
        refine lv_iload hx hb dX1_look_175 (lv_at hl 2 rfl) ?_
        refine lv_sipush (v := 4096) hx hb dX1_look_177 (by decide) ?_
        refine lv_iadd hx hb dX1_look_180 ?_
        refine lv_istore (lv' := [(5, .int (r_16 + 4096)), (6, .int r_18), (10, .int r_18), (9, .int r_16), (0, .ref a_t), (2, .int v2), (3, .int 1), (4, .int v4), (7, .ref a_t_rows1), (8, .int v8)]) hx hb dX1_look_181 hl (by decide) rfl (fun ls hl => ?_)
        refine lv_iinc (v := (v8 + 1)) (lv' := [(8, .int (v8 + 1)), (5, .int (r_16 + 4096)), (6, .int r_18), (10, .int r_18), (9, .int r_16), (0, .ref a_t), (2, .int v2), (3, .int 1), (4, .int v4), (7, .ref a_t_rows1)]) hx hb dX1_look_183 hl (k := 9) rfl rfl (by decide) rfl (fun ls hl => ?_)
        refine lv_goto (tgt := 119) hx hb dX1_look_186 (by decide) ?_
        exact ih v2 v4 (r_16 + 4096) r_18 (v8 + 1) f_t_memory i_t_rows1_count f_t_rows1_letters hf _ _ hP hD hS _ (lv_sub hl [5, 6, 7, 8, 1, 2, 9, 0] rfl)
def f_X1_look_s1 (i_t_law : Int32) (i_t_nonsense : Int32) (i_t_stamp : Int32) (i_t_letters_size : Int32) (n_t_memory : Nat) (n_t_letters_worthToOther : Nat) (f_t_letters_worthToOther : Nat → Int32) (n_t_letters_worthToOne : Nat) (f_t_letters_worthToOne : Nat → Int32) (i_t_letters_tongue_length : Int32) (i_t_letters_tongue_words : Int32) (f_t_letters_tongue_scales : Nat → Int32) (n_t_rows1_letters : Nat) (n_t_letters_sense : Nat) (f_t_letters_sense : Nat → Int32) (f_t_memory : Nat → Int32) (i_t_rows1_count : Int32) (f_t_rows1_letters : Nat → Int32) (p1 : Int32) (p2 : Int32) : Option (Int32 × (Nat → Int32) × Int32 × (Nat → Int32)) :=
  if (((((1 - 1) * 2) + p2) * i_t_letters_size) + p1) < 0 then
    some (p1, f_t_memory, i_t_rows1_count, f_t_rows1_letters)
  else
    if (((((1 - 1) * 2) + p2) * i_t_letters_size) + p1) < (nI n_t_memory) then
      if ixb (((((1 - 1) * 2) + p2) * i_t_letters_size) + p1) n_t_memory = true then
      if (((f_t_memory ((((((1 - 1) * 2) + p2) * i_t_letters_size) + p1) : Int32).toNatClampNeg).toUInt32 >>> ((16 : Int32).toUInt32 &&& Int32.toUInt32 31)).toInt32) = i_t_stamp then
        if ixb (((((1 - 1) * 2) + p2) * i_t_letters_size) + p1) n_t_memory = true then
        some (((f_t_memory ((((((1 - 1) * 2) + p2) * i_t_letters_size) + p1) : Int32).toNatClampNeg) &&& 65535), f_t_memory, i_t_rows1_count, f_t_rows1_letters)
        else none
      else
        (f_X3_worthTo i_t_letters_size n_t_letters_worthToOther f_t_letters_worthToOther n_t_letters_worthToOne f_t_letters_worthToOne p2 p1).bind fun r_7 =>
        (f_X3_listChanges i_t_letters_size i_t_letters_tongue_length i_t_letters_tongue_words f_t_letters_tongue_scales n_t_rows1_letters n_t_letters_sense f_t_letters_sense i_t_rows1_count f_t_rows1_letters p1 i_t_law i_t_nonsense).bind fun (z_9, z_10) =>
        f_X1_look_s1_L119 i_t_law i_t_nonsense i_t_stamp i_t_letters_size n_t_memory n_t_letters_worthToOther f_t_letters_worthToOther n_t_letters_worthToOne f_t_letters_worthToOne i_t_letters_tongue_length i_t_letters_tongue_words f_t_letters_tongue_scales n_t_rows1_letters n_t_letters_sense f_t_letters_sense FU p2 (((((1 - 1) * 2) + p2) * i_t_letters_size) + p1) p1 r_7 0 f_t_memory z_9 z_10
      else none
    else
      some (p1, f_t_memory, i_t_rows1_count, f_t_rows1_letters)
set_option maxRecDepth 100000 in
set_option maxHeartbeats 4000000 in
theorem c_X1_look_s1 (l : Launch) (D : va_G) (cy : Nat → ClassId) (a_t : Nat) (a_t_letters : Nat) (a_t_memory : Nat) (a_t_letters_worthToOther : Nat) (a_t_letters_worthToOne : Nat) (a_t_rows : Nat) (x_t_rows0 : Nat) (x_t_rows2 : Nat) (x_t_rows3 : Nat) (x_t_rows4 : Nat) (x_t_rows5 : Nat) (x_t_rows6 : Nat) (x_t_rows7 : Nat) (x_t_rows8 : Nat) (a_t_rows1 : Nat) (a_t_letters_tongue : Nat) (a_t_letters_tongue_scales : Nat) (a_t_rows1_letters : Nat) (a_t_letters_sense : Nat) (o_t_letters_tongues : Value) (o_t_letters_standing : Value) (o_t_letters_tongue_frames : Value) (o_t_letters_tongue_pairs : Value) (o_t_letters_tongue_kinds : Value) (o_t_letters_tongue_worths : Value) (o_t_letters_tongue_framed : Value) (o_t_letters_tongue_paired : Value) (o_t_letters_tongue_pairWorths : Value) (i_t_law : Int32) (i_t_nonsense : Int32) (i_t_stamp : Int32) (i_t_letters_size : Int32) (n_t_memory : Nat) (n_t_letters_worthToOther : Nat) (f_t_letters_worthToOther : Nat → Int32) (n_t_letters_worthToOne : Nat) (f_t_letters_worthToOne : Nat → Int32) (i_t_letters_tongue_length : Int32) (i_t_letters_tongue_words : Int32) (f_t_letters_tongue_scales : Nat → Int32) (n_t_rows1_letters : Nat) (n_t_letters_sense : Nat) (f_t_letters_sense : Nat → Int32) (f_t_memory : Nat → Int32) (i_t_rows1_count : Int32) (f_t_rows1_letters : Nat → Int32) (p1 : Int32) (p2 : Int32) (rv : Int32) (z_f_t_memory : Nat → Int32) (z_i_t_rows1_count : Int32) (z_f_t_rows1_letters : Nat → Int32) (hf : f_X1_look_s1 i_t_law i_t_nonsense i_t_stamp i_t_letters_size n_t_memory n_t_letters_worthToOther f_t_letters_worthToOther n_t_letters_worthToOne f_t_letters_worthToOne i_t_letters_tongue_length i_t_letters_tongue_words f_t_letters_tongue_scales n_t_rows1_letters n_t_letters_sense f_t_letters_sense f_t_memory i_t_rows1_count f_t_rows1_letters p1 p2 = some (rv, z_f_t_memory, z_i_t_rows1_count, z_f_t_rows1_letters)) : MI l D cy yX1_look wsX1_look rmX1_look_s1 [.ref a_t, .int p1, .int p2, .int 1] [(a_t, .inr (1, [.ref a_t_letters, .ref a_t_memory, .ref a_t_rows, .int i_t_law, .int i_t_nonsense, .int i_t_stamp])), (a_t_letters, .inr (3, [.ref a_t_letters_tongue, o_t_letters_tongues, .int i_t_letters_size, o_t_letters_standing, .ref a_t_letters_sense, .ref a_t_letters_worthToOne, .ref a_t_letters_worthToOther])), (a_t_memory, .inl (cy 0, n_t_memory, .inl f_t_memory)), (a_t_letters_worthToOther, .inl (cy 0, n_t_letters_worthToOther, .inl f_t_letters_worthToOther)), (a_t_letters_worthToOne, .inl (cy 0, n_t_letters_worthToOne, .inl f_t_letters_worthToOne)), (a_t_rows, .inl (cy 5, 9, .inr (.inr (.inr (.inr (rfL [x_t_rows0, a_t_rows1, x_t_rows2, x_t_rows3, x_t_rows4, x_t_rows5, x_t_rows6, x_t_rows7, x_t_rows8])))))), (a_t_rows1, .inr (6, [.ref a_t_rows1_letters, .int i_t_rows1_count])), (a_t_letters_tongue, .inr (7, [.int i_t_letters_tongue_length, .int i_t_letters_tongue_words, o_t_letters_tongue_frames, o_t_letters_tongue_pairs, o_t_letters_tongue_kinds, o_t_letters_tongue_worths, o_t_letters_tongue_framed, o_t_letters_tongue_paired, o_t_letters_tongue_pairWorths, .ref a_t_letters_tongue_scales])), (a_t_letters_tongue_scales, .inl (cy 0, 5, .inl f_t_letters_tongue_scales)), (a_t_rows1_letters, .inl (cy 0, n_t_rows1_letters, .inl f_t_rows1_letters)), (a_t_letters_sense, .inl (cy 1, n_t_letters_sense, .inl f_t_letters_sense))] [(a_t, .inr (1, [.ref a_t_letters, .ref a_t_memory, .ref a_t_rows, .int i_t_law, .int i_t_nonsense, .int i_t_stamp])), (a_t_letters, .inr (3, [.ref a_t_letters_tongue, o_t_letters_tongues, .int i_t_letters_size, o_t_letters_standing, .ref a_t_letters_sense, .ref a_t_letters_worthToOne, .ref a_t_letters_worthToOther])), (a_t_memory, .inl (cy 0, n_t_memory, .inl z_f_t_memory)), (a_t_letters_worthToOther, .inl (cy 0, n_t_letters_worthToOther, .inl f_t_letters_worthToOther)), (a_t_letters_worthToOne, .inl (cy 0, n_t_letters_worthToOne, .inl f_t_letters_worthToOne)), (a_t_rows, .inl (cy 5, 9, .inr (.inr (.inr (.inr (rfL [x_t_rows0, a_t_rows1, x_t_rows2, x_t_rows3, x_t_rows4, x_t_rows5, x_t_rows6, x_t_rows7, x_t_rows8])))))), (a_t_rows1, .inr (6, [.ref a_t_rows1_letters, .int z_i_t_rows1_count])), (a_t_letters_tongue, .inr (7, [.int i_t_letters_tongue_length, .int i_t_letters_tongue_words, o_t_letters_tongue_frames, o_t_letters_tongue_pairs, o_t_letters_tongue_kinds, o_t_letters_tongue_worths, o_t_letters_tongue_framed, o_t_letters_tongue_paired, o_t_letters_tongue_pairWorths, .ref a_t_letters_tongue_scales])), (a_t_letters_tongue_scales, .inl (cy 0, 5, .inl f_t_letters_tongue_scales)), (a_t_rows1_letters, .inl (cy 0, n_t_rows1_letters, .inl z_f_t_rows1_letters)), (a_t_letters_sense, .inl (cy 1, n_t_letters_sense, .inl f_t_letters_sense))] rv := by
  refine st_I (by decide) rfl (Nat.le_of_ble_eq_true rfl) (fun p e s m below meth c A Q ls C0 hA hK hP hD hS hl hret => ?_)
  obtain ⟨hx, hb, hr, hml, hown, hts, hlocks⟩ := id C0
  have hl : lv_has ls 11 [(0, .ref a_t), (1, .int p1), (2, .int p2), (3, .int 1)] := hl
  unfold f_X1_look_s1 at hf
  refine lv_iload_n hx hb dX1_look_0 rfl (lv_at hl 3 rfl) ?_
  refine lv_if_le (tgt := 10) hx hb dX1_look_1 (by decide) (fun c_1 => absurd c_1 (by decide)) (fun c_1 => ?_)
  refine lv_iload_n hx hb dX1_look_4 rfl (lv_at hl 3 rfl) ?_
  refine lv_bipush (v := 8) hx hb dX1_look_5 (by decide) ?_
  refine lv_icmp_le (tgt := 12) hx hb dX1_look_7 (by decide) (fun c_2 => ?_) (fun c_2 => absurd c_2 (by decide))
  refine lv_iload_n hx hb dX1_look_12 rfl (lv_at hl 3 rfl) ?_
  refine lv_iconst (v := 1) hx hb dX1_look_13 (by decide) ?_
  refine lv_isub hx hb dX1_look_14 ?_
  refine lv_iconst (v := 2) hx hb dX1_look_15 (by decide) ?_
  refine lv_imul hx hb dX1_look_16 ?_
  refine lv_iload_n hx hb dX1_look_17 rfl (lv_at hl 2 rfl) ?_
  refine lv_iadd hx hb dX1_look_18 ?_
  refine lv_aload_n hx hb dX1_look_19 rfl (lv_at hl 0 rfl) ?_
  refine va_get (D := D) (ci := 1) (v := .ref a_t_letters) (C := RX1) (T := TX1) (N := 6) hx hb hts uX1_look_X1 hown hK.1.1 hP 0 rfl rfl 0 (by decide) (hts _ mX1_look_21) (fun _ h9 => h9) rfl dX1_look_20 ?_
  refine va_getN (D := D) (ci := 3) (v := .int i_t_letters_size) (C := RX3) (T := TX3) (N := 7) hx hb hts uX1_look_X3 hown hK.1.1 hP 1 rfl rfl 2 (by decide) (hK.1.nw _ nw_21) (fun _ h9 => h9) rfl dX1_look_23 ?_
  refine lv_imul hx hb dX1_look_26 ?_
  refine lv_iload_n hx hb dX1_look_27 rfl (lv_at hl 1 rfl) ?_
  refine lv_iadd hx hb dX1_look_28 ?_
  refine lv_istore (lv' := [(4, .int (((((1 - 1) * 2) + p2) * i_t_letters_size) + p1)), (0, .ref a_t), (1, .int p1), (2, .int p2), (3, .int 1)]) hx hb dX1_look_29 hl (by decide) rfl (fun ls hl => ?_)
  refine lv_iload hx hb dX1_look_31 (lv_at hl 0 rfl) ?_
  refine lv_if_lt (tgt := 46) hx hb dX1_look_33 (by decide) (fun c_3 => ?_) (fun c_3 => ?_)
  · have hf := hb_t hf c_3
    refine lv_iload_n hx hb dX1_look_46 rfl (lv_at hl 2 rfl) ?_
    obtain ⟨e_0, e_1, e_2, e_3⟩ := tu4 hf
    subst e_0; subst e_1; subst e_2; subst e_3
    exact hret _ _ _ _ dX1_look_47 rfl hP hS
  · have hf := hb_f hf c_3
    refine lv_iload hx hb dX1_look_36 (lv_at hl 0 rfl) ?_
    refine lv_aload_n hx hb dX1_look_38 rfl (lv_at hl 1 rfl) ?_
    refine va_get (D := D) (ci := 1) (v := .ref a_t_memory) (C := RX1) (T := TX1) (N := 6) hx hb hts uX1_look_X1 hown hK.1.1 hP 0 rfl rfl 1 (by decide) (hts _ mX1_look_9) (fun _ h9 => h9) rfl dX1_look_39 ?_
    refine va_alen (v := nI n_t_memory) (ty := .int) hx hb hK.1.1 hP 2 0 rfl rfl rfl dX1_look_42 ?_
    refine lv_icmp_lt (tgt := 48) hx hb dX1_look_43 (by decide) (fun c_4 => ?_) (fun c_4 => ?_)
    · have hf := hb_t hf c_4
      refine lv_aload_n hx hb dX1_look_48 rfl (lv_at hl 1 rfl) ?_
      refine va_get (D := D) (ci := 1) (v := .ref a_t_memory) (C := RX1) (T := TX1) (N := 6) hx hb hts uX1_look_X1 hown hK.1.1 hP 0 rfl rfl 1 (by decide) (hts _ mX1_look_9) (fun _ h9 => h9) rfl dX1_look_49 ?_
      refine lv_iload hx hb dX1_look_52 (lv_at hl 0 rfl) ?_
      obtain ⟨hg_5, hf⟩ := hb_g hf
      refine va_iald hx hb hK.1.1 hP 2 0 rfl rfl (ixb_in hg_5) dX1_look_54 ?_
      refine lv_bipush (v := 16) hx hb dX1_look_55 (by decide) ?_
      refine lv_iushr (v := ((f_t_memory ((((((1 - 1) * 2) + p2) * i_t_letters_size) + p1) : Int32).toNatClampNeg).toUInt32 >>> ((16 : Int32).toUInt32 &&& Int32.toUInt32 31)).toInt32) hx hb dX1_look_57 rfl ?_
      refine lv_aload_n hx hb dX1_look_58 rfl (lv_at hl 1 rfl) ?_
      refine va_get (D := D) (ci := 1) (v := .int i_t_stamp) (C := RX1) (T := TX1) (N := 6) hx hb hts uX1_look_X1 hown hK.1.1 hP 0 rfl rfl 5 (by decide) (hts _ mX1_look_36) (fun _ h9 => h9) rfl dX1_look_59 ?_
      refine lv_icmp_ne (tgt := 76) hx hb dX1_look_62 (by decide) (fun c_6 => ?_) (fun c_6 => ?_)
      · have hf := hb_f hf c_6
        refine lv_iload_n hx hb dX1_look_76 rfl (lv_at hl 2 rfl) ?_
        refine lv_istore (lv' := [(5, .int p1), (4, .int (((((1 - 1) * 2) + p2) * i_t_letters_size) + p1)), (0, .ref a_t), (1, .int p1), (2, .int p2), (3, .int 1)]) hx hb dX1_look_77 hl (by decide) rfl (fun ls hl => ?_)
        refine lv_aload_n hx hb dX1_look_79 rfl (lv_at hl 2 rfl) ?_
        refine va_get (D := D) (ci := 1) (v := .ref a_t_letters) (C := RX1) (T := TX1) (N := 6) hx hb hts uX1_look_X1 hown hK.1.1 hP 0 rfl rfl 0 (by decide) (hts _ mX1_look_21) (fun _ h9 => h9) rfl dX1_look_80 ?_
        refine lv_iload_n hx hb dX1_look_83 rfl (lv_at hl 4 rfl) ?_
        refine lv_iload_n hx hb dX1_look_84 rfl (lv_at hl 3 rfl) ?_
        obtain ⟨r_7, hc_8, hf⟩ := hb_b hf
        refine cl_Vi (rest := []) [1, 3, 4] 1 C0 hK hP hD hS hA (c_X3_worthTo l D cy a_t_letters a_t_letters_worthToOther a_t_letters_worthToOne (.ref a_t_letters_tongue) o_t_letters_tongues o_t_letters_standing (.ref a_t_letters_sense) i_t_letters_size n_t_letters_worthToOther f_t_letters_worthToOther n_t_letters_worthToOne f_t_letters_worthToOne p2 p1 r_7 hc_8) (cwV 2 hts gX1_look_X3_worthTo rfl rfl rfl (by decide +kernel) ⟨Nat.le_of_ble_eq_true rfl, Nat.le_of_ble_eq_true rfl⟩) rfl rfl rfl rfl rfl rfl rfl hl.1 rfl (Nat.le_of_ble_eq_true rfl) dX1_look_85 ⟨Nat.zero_le _, Nat.zero_le _⟩ (fun H locs hP hD hS => ?_)
        have hP : va_P D vwCl [(a_t, .inr (1, [.ref a_t_letters, .ref a_t_memory, .ref a_t_rows, .int i_t_law, .int i_t_nonsense, .int i_t_stamp])), (a_t_letters, .inr (3, [.ref a_t_letters_tongue, o_t_letters_tongues, .int i_t_letters_size, o_t_letters_standing, .ref a_t_letters_sense, .ref a_t_letters_worthToOne, .ref a_t_letters_worthToOther])), (a_t_memory, .inl (cy 0, n_t_memory, .inl f_t_memory)), (a_t_letters_worthToOther, .inl (cy 0, n_t_letters_worthToOther, .inl f_t_letters_worthToOther)), (a_t_letters_worthToOne, .inl (cy 0, n_t_letters_worthToOne, .inl f_t_letters_worthToOne)), (a_t_rows, .inl (cy 5, 9, .inr (.inr (.inr (.inr (rfL [x_t_rows0, a_t_rows1, x_t_rows2, x_t_rows3, x_t_rows4, x_t_rows5, x_t_rows6, x_t_rows7, x_t_rows8])))))), (a_t_rows1, .inr (6, [.ref a_t_rows1_letters, .int i_t_rows1_count])), (a_t_letters_tongue, .inr (7, [.int i_t_letters_tongue_length, .int i_t_letters_tongue_words, o_t_letters_tongue_frames, o_t_letters_tongue_pairs, o_t_letters_tongue_kinds, o_t_letters_tongue_worths, o_t_letters_tongue_framed, o_t_letters_tongue_paired, o_t_letters_tongue_pairWorths, .ref a_t_letters_tongue_scales])), (a_t_letters_tongue_scales, .inl (cy 0, 5, .inl f_t_letters_tongue_scales)), (a_t_rows1_letters, .inl (cy 0, n_t_rows1_letters, .inl f_t_rows1_letters)), (a_t_letters_sense, .inl (cy 1, n_t_letters_sense, .inl f_t_letters_sense))] H := hP
        have hD : va_D A [(a_t, .inr (1, [.ref a_t_letters, .ref a_t_memory, .ref a_t_rows, .int i_t_law, .int i_t_nonsense, .int i_t_stamp])), (a_t_letters, .inr (3, [.ref a_t_letters_tongue, o_t_letters_tongues, .int i_t_letters_size, o_t_letters_standing, .ref a_t_letters_sense, .ref a_t_letters_worthToOne, .ref a_t_letters_worthToOther])), (a_t_memory, .inl (cy 0, n_t_memory, .inl f_t_memory)), (a_t_letters_worthToOther, .inl (cy 0, n_t_letters_worthToOther, .inl f_t_letters_worthToOther)), (a_t_letters_worthToOne, .inl (cy 0, n_t_letters_worthToOne, .inl f_t_letters_worthToOne)), (a_t_rows, .inl (cy 5, 9, .inr (.inr (.inr (.inr (rfL [x_t_rows0, a_t_rows1, x_t_rows2, x_t_rows3, x_t_rows4, x_t_rows5, x_t_rows6, x_t_rows7, x_t_rows8])))))), (a_t_rows1, .inr (6, [.ref a_t_rows1_letters, .int i_t_rows1_count])), (a_t_letters_tongue, .inr (7, [.int i_t_letters_tongue_length, .int i_t_letters_tongue_words, o_t_letters_tongue_frames, o_t_letters_tongue_pairs, o_t_letters_tongue_kinds, o_t_letters_tongue_worths, o_t_letters_tongue_framed, o_t_letters_tongue_paired, o_t_letters_tongue_pairWorths, .ref a_t_letters_tongue_scales])), (a_t_letters_tongue_scales, .inl (cy 0, 5, .inl f_t_letters_tongue_scales)), (a_t_rows1_letters, .inl (cy 0, n_t_rows1_letters, .inl f_t_rows1_letters)), (a_t_letters_sense, .inl (cy 1, n_t_letters_sense, .inl f_t_letters_sense))] := hD
        refine lv_istore (lv' := [(6, .int r_7), (5, .int p1), (4, .int (((((1 - 1) * 2) + p2) * i_t_letters_size) + p1)), (0, .ref a_t), (1, .int p1), (2, .int p2), (3, .int 1)]) hx hb dX1_look_88 hl (by decide) rfl (fun ls hl => ?_)
        refine lv_aload_n hx hb dX1_look_90 rfl (lv_at hl 3 rfl) ?_
        refine va_get (D := D) (ci := 1) (v := .ref a_t_rows) (C := RX1) (T := TX1) (N := 6) hx hb hts uX1_look_X1 hown hK.1.1 hP 0 rfl rfl 2 (by decide) (hts _ mX1_look_17) (fun _ h9 => h9) rfl dX1_look_91 ?_
        refine lv_iload_n hx hb dX1_look_94 rfl (lv_at hl 6 rfl) ?_
        refine va_aldk (a1 := a_t_rows1) hx hb hK hP 5 5 rfl rfl (by decide) (by decide) rfl dX1_look_95 ?_
        refine lv_astore (lv' := [(7, .ref a_t_rows1), (6, .int r_7), (5, .int p1), (4, .int (((((1 - 1) * 2) + p2) * i_t_letters_size) + p1)), (0, .ref a_t), (1, .int p1), (2, .int p2), (3, .int 1)]) hx hb dX1_look_96 hl (by decide) rfl (fun ls hl => ?_)
        refine lv_aload_n hx hb dX1_look_98 rfl (lv_at hl 4 rfl) ?_
        refine va_get (D := D) (ci := 1) (v := .ref a_t_letters) (C := RX1) (T := TX1) (N := 6) hx hb hts uX1_look_X1 hown hK.1.1 hP 0 rfl rfl 0 (by decide) (hts _ mX1_look_21) (fun _ h9 => h9) rfl dX1_look_99 ?_
        refine lv_iload_n hx hb dX1_look_102 rfl (lv_at hl 5 rfl) ?_
        refine lv_aload_n hx hb dX1_look_103 rfl (lv_at hl 4 rfl) ?_
        refine va_get (D := D) (ci := 1) (v := .int i_t_law) (C := RX1) (T := TX1) (N := 6) hx hb hts uX1_look_X1 hown hK.1.1 hP 0 rfl rfl 3 (by decide) (hts _ mX1_look_28) (fun _ h9 => h9) rfl dX1_look_104 ?_
        refine lv_aload_n hx hb dX1_look_107 rfl (lv_at hl 4 rfl) ?_
        refine va_get (D := D) (ci := 1) (v := .int i_t_nonsense) (C := RX1) (T := TX1) (N := 6) hx hb hts uX1_look_X1 hown hK.1.1 hP 0 rfl rfl 4 (by decide) (hts _ mX1_look_32) (fun _ h9 => h9) rfl dX1_look_108 ?_
        refine lv_aload hx hb dX1_look_111 (lv_at hl 0 rfl) ?_
        obtain ⟨⟨z_9, z_10⟩, hc_11, hf⟩ := hb_b hf
        refine cl_Vv (rest := []) [1, 6, 7, 8, 9, 10] 1 C0 hK hP hD hS hA (c_X3_listChanges l D cy a_t_letters a_t_rows1 a_t_letters_tongue a_t_letters_tongue_scales a_t_rows1_letters a_t_letters_sense o_t_letters_tongues o_t_letters_standing (.ref a_t_letters_worthToOne) (.ref a_t_letters_worthToOther) o_t_letters_tongue_frames o_t_letters_tongue_pairs o_t_letters_tongue_kinds o_t_letters_tongue_worths o_t_letters_tongue_framed o_t_letters_tongue_paired o_t_letters_tongue_pairWorths i_t_letters_size i_t_letters_tongue_length i_t_letters_tongue_words f_t_letters_tongue_scales n_t_rows1_letters n_t_letters_sense f_t_letters_sense i_t_rows1_count f_t_rows1_letters p1 i_t_law i_t_nonsense z_9 z_10 hc_11) (cwV 4 hts gX1_look_X3_listChanges rfl rfl rfl (by decide +kernel) ⟨Nat.le_of_ble_eq_true rfl, Nat.le_of_ble_eq_true rfl⟩) rfl rfl rfl rfl rfl rfl rfl hl.1 rfl (Nat.le_of_ble_eq_true rfl) dX1_look_113 ⟨Nat.zero_le _, Nat.zero_le _⟩ (fun H locs hP hD hS => ?_)
        have hP : va_P D vwCl [(a_t, .inr (1, [.ref a_t_letters, .ref a_t_memory, .ref a_t_rows, .int i_t_law, .int i_t_nonsense, .int i_t_stamp])), (a_t_letters, .inr (3, [.ref a_t_letters_tongue, o_t_letters_tongues, .int i_t_letters_size, o_t_letters_standing, .ref a_t_letters_sense, .ref a_t_letters_worthToOne, .ref a_t_letters_worthToOther])), (a_t_memory, .inl (cy 0, n_t_memory, .inl f_t_memory)), (a_t_letters_worthToOther, .inl (cy 0, n_t_letters_worthToOther, .inl f_t_letters_worthToOther)), (a_t_letters_worthToOne, .inl (cy 0, n_t_letters_worthToOne, .inl f_t_letters_worthToOne)), (a_t_rows, .inl (cy 5, 9, .inr (.inr (.inr (.inr (rfL [x_t_rows0, a_t_rows1, x_t_rows2, x_t_rows3, x_t_rows4, x_t_rows5, x_t_rows6, x_t_rows7, x_t_rows8])))))), (a_t_rows1, .inr (6, [.ref a_t_rows1_letters, .int z_9])), (a_t_letters_tongue, .inr (7, [.int i_t_letters_tongue_length, .int i_t_letters_tongue_words, o_t_letters_tongue_frames, o_t_letters_tongue_pairs, o_t_letters_tongue_kinds, o_t_letters_tongue_worths, o_t_letters_tongue_framed, o_t_letters_tongue_paired, o_t_letters_tongue_pairWorths, .ref a_t_letters_tongue_scales])), (a_t_letters_tongue_scales, .inl (cy 0, 5, .inl f_t_letters_tongue_scales)), (a_t_rows1_letters, .inl (cy 0, n_t_rows1_letters, .inl z_10)), (a_t_letters_sense, .inl (cy 1, n_t_letters_sense, .inl f_t_letters_sense))] H := hP
        have hD : va_D A [(a_t, .inr (1, [.ref a_t_letters, .ref a_t_memory, .ref a_t_rows, .int i_t_law, .int i_t_nonsense, .int i_t_stamp])), (a_t_letters, .inr (3, [.ref a_t_letters_tongue, o_t_letters_tongues, .int i_t_letters_size, o_t_letters_standing, .ref a_t_letters_sense, .ref a_t_letters_worthToOne, .ref a_t_letters_worthToOther])), (a_t_memory, .inl (cy 0, n_t_memory, .inl f_t_memory)), (a_t_letters_worthToOther, .inl (cy 0, n_t_letters_worthToOther, .inl f_t_letters_worthToOther)), (a_t_letters_worthToOne, .inl (cy 0, n_t_letters_worthToOne, .inl f_t_letters_worthToOne)), (a_t_rows, .inl (cy 5, 9, .inr (.inr (.inr (.inr (rfL [x_t_rows0, a_t_rows1, x_t_rows2, x_t_rows3, x_t_rows4, x_t_rows5, x_t_rows6, x_t_rows7, x_t_rows8])))))), (a_t_rows1, .inr (6, [.ref a_t_rows1_letters, .int z_9])), (a_t_letters_tongue, .inr (7, [.int i_t_letters_tongue_length, .int i_t_letters_tongue_words, o_t_letters_tongue_frames, o_t_letters_tongue_pairs, o_t_letters_tongue_kinds, o_t_letters_tongue_worths, o_t_letters_tongue_framed, o_t_letters_tongue_paired, o_t_letters_tongue_pairWorths, .ref a_t_letters_tongue_scales])), (a_t_letters_tongue_scales, .inl (cy 0, 5, .inl f_t_letters_tongue_scales)), (a_t_rows1_letters, .inl (cy 0, n_t_rows1_letters, .inl z_10)), (a_t_letters_sense, .inl (cy 1, n_t_letters_sense, .inl f_t_letters_sense))] := hD
        refine lv_iconst (v := 0) hx hb dX1_look_116 (by decide) ?_
        refine lv_istore (lv' := [(8, .int 0), (7, .ref a_t_rows1), (6, .int r_7), (5, .int p1), (4, .int (((((1 - 1) * 2) + p2) * i_t_letters_size) + p1)), (0, .ref a_t), (1, .int p1), (2, .int p2), (3, .int 1)]) hx hb dX1_look_117 hl (by decide) rfl (fun ls hl => ?_)
        refine L_X1_look_s1_119 l D cy a_t a_t_letters a_t_memory a_t_letters_worthToOther a_t_letters_worthToOne a_t_rows x_t_rows0 x_t_rows2 x_t_rows3 x_t_rows4 x_t_rows5 x_t_rows6 x_t_rows7 x_t_rows8 a_t_rows1 a_t_letters_tongue a_t_letters_tongue_scales a_t_rows1_letters a_t_letters_sense o_t_letters_tongues o_t_letters_standing o_t_letters_tongue_frames o_t_letters_tongue_pairs o_t_letters_tongue_kinds o_t_letters_tongue_worths o_t_letters_tongue_framed o_t_letters_tongue_paired o_t_letters_tongue_pairWorths i_t_law i_t_nonsense i_t_stamp i_t_letters_size n_t_memory n_t_letters_worthToOther f_t_letters_worthToOther n_t_letters_worthToOne f_t_letters_worthToOne i_t_letters_tongue_length i_t_letters_tongue_words f_t_letters_tongue_scales n_t_rows1_letters n_t_letters_sense f_t_letters_sense rv z_f_t_memory z_i_t_rows1_count z_f_t_rows1_letters C0 hA hK hret  FU p2 (((((1 - 1) * 2) + p2) * i_t_letters_size) + p1) p1 r_7 0 f_t_memory z_9 z_10 hf _ _ hP hD hS _ (lv_sub hl [5, 7, 8, 4, 3, 2, 1, 0] rfl)
      · have hf := hb_t hf c_6
        refine lv_aload_n hx hb dX1_look_65 rfl (lv_at hl 1 rfl) ?_
        refine va_get (D := D) (ci := 1) (v := .ref a_t_memory) (C := RX1) (T := TX1) (N := 6) hx hb hts uX1_look_X1 hown hK.1.1 hP 0 rfl rfl 1 (by decide) (hts _ mX1_look_9) (fun _ h9 => h9) rfl dX1_look_66 ?_
        refine lv_iload hx hb dX1_look_69 (lv_at hl 0 rfl) ?_
        obtain ⟨hg_21, hf⟩ := hb_g hf
        refine va_iald hx hb hK.1.1 hP 2 0 rfl rfl (ixb_in hg_21) dX1_look_71 ?_
        refine lv_ldc (v := 65535) hx hb hown (hts _ mX1_look_44) dX1_look_72 ?_
        refine lv_iand hx hb dX1_look_74 ?_
        obtain ⟨e_0, e_1, e_2, e_3⟩ := tu4 hf
        subst e_0; subst e_1; subst e_2; subst e_3
        exact hret _ _ _ _ dX1_look_75 rfl hP hS
    · have hf := hb_f hf c_4
      refine lv_iload_n hx hb dX1_look_46 rfl (lv_at hl 2 rfl) ?_
      obtain ⟨e_0, e_1, e_2, e_3⟩ := tu4 hf
      subst e_0; subst e_1; subst e_2; subst e_3
      exact hret _ _ _ _ dX1_look_47 rfl hP hS
abbrev rmX1_look_s2 : Room := { frames := 4, cells := 0, slots := 0, locals := 104 }
def f_X1_look_s2_L119 (i_t_law : Int32) (i_t_nonsense : Int32) (i_t_stamp : Int32) (i_t_letters_size : Int32) (n_t_memory : Nat) (n_t_letters_worthToOther : Nat) (f_t_letters_worthToOther : Nat → Int32) (n_t_letters_worthToOne : Nat) (f_t_letters_worthToOne : Nat → Int32) (i_t_letters_tongue_length : Int32) (i_t_letters_tongue_words : Int32) (f_t_letters_tongue_scales : Nat → Int32) (n_t_rows2_letters : Nat) (n_t_letters_sense : Nat) (f_t_letters_sense : Nat → Int32) (n_t_rows1_letters : Nat) : Nat → Int32 → Int32 → Int32 → Int32 → Int32 → (Nat → Int32) → Int32 → (Nat → Int32) → Int32 → (Nat → Int32) → Option (Int32 × (Nat → Int32) × Int32 × (Nat → Int32) × Int32 × (Nat → Int32))
  | 0, _, _, _, _, _, _, _, _, _, _ => none
  | n + 1, v2, v4, v5, v6, v8, f_t_memory, i_t_rows2_count, f_t_rows2_letters, i_t_rows1_count, f_t_rows1_letters =>
    if i_t_rows2_count ≤ v8 then
      if ixb v4 n_t_memory = true then
      some (v5, (upd f_t_memory (v4 : Int32).toNatClampNeg ((i_t_stamp <<< (16 &&& 31)) ||| v5)), i_t_rows2_count, f_t_rows2_letters, i_t_rows1_count, f_t_rows1_letters)
      else none
    else
      (f_X6_get i_t_rows2_count n_t_rows2_letters f_t_rows2_letters v8).bind fun r_14 =>
      (f_X1_look_s1 i_t_law i_t_nonsense i_t_stamp i_t_letters_size n_t_memory n_t_letters_worthToOther f_t_letters_worthToOther n_t_letters_worthToOne f_t_letters_worthToOne i_t_letters_tongue_length i_t_letters_tongue_words f_t_letters_tongue_scales n_t_rows1_letters n_t_letters_sense f_t_letters_sense f_t_memory i_t_rows1_count f_t_rows1_letters r_14 (1 - v2)).bind fun (r_16, z_17, z_18, z_19) =>
      (f_X3_worthTo i_t_letters_size n_t_letters_worthToOther f_t_letters_worthToOther n_t_letters_worthToOne f_t_letters_worthToOne v2 (r_16 - r_16 / 4096 * 4096)).bind fun r_21 =>
      if r_21 ≤ v6 then
        f_X1_look_s2_L119 i_t_law i_t_nonsense i_t_stamp i_t_letters_size n_t_memory n_t_letters_worthToOther f_t_letters_worthToOther n_t_letters_worthToOne f_t_letters_worthToOne i_t_letters_tongue_length i_t_letters_tongue_words f_t_letters_tongue_scales n_t_rows2_letters n_t_letters_sense f_t_letters_sense n_t_rows1_letters n v2 v4 v5 v6 (v8 + 1) z_17 i_t_rows2_count f_t_rows2_letters z_18 z_19
      else
        f_X1_look_s2_L119 i_t_law i_t_nonsense i_t_stamp i_t_letters_size n_t_memory n_t_letters_worthToOther f_t_letters_worthToOther n_t_letters_worthToOne f_t_letters_worthToOne i_t_letters_tongue_length i_t_letters_tongue_words f_t_letters_tongue_scales n_t_rows2_letters n_t_letters_sense f_t_letters_sense n_t_rows1_letters n v2 v4 (r_16 + 4096) r_21 (v8 + 1) z_17 i_t_rows2_count f_t_rows2_letters z_18 z_19
set_option maxRecDepth 100000 in
set_option maxHeartbeats 4000000 in
theorem L_X1_look_s2_119 {p : Program} {e : Env} {s : State} {m : MethodId} {args : Array Value} {below : List Frame} {meth : Method} {c : Code} {Q : State → Prop} {A : Nat → Prop} (l : Launch) (D : va_G) (cy : Nat → ClassId) (a_t : Nat) (a_t_letters : Nat) (a_t_memory : Nat) (a_t_letters_worthToOther : Nat) (a_t_letters_worthToOne : Nat) (a_t_rows : Nat) (x_t_rows0 : Nat) (x_t_rows3 : Nat) (x_t_rows4 : Nat) (x_t_rows5 : Nat) (x_t_rows6 : Nat) (x_t_rows7 : Nat) (x_t_rows8 : Nat) (a_t_rows2 : Nat) (a_t_letters_tongue : Nat) (a_t_letters_tongue_scales : Nat) (a_t_rows2_letters : Nat) (a_t_letters_sense : Nat) (a_t_rows1 : Nat) (a_t_rows1_letters : Nat) (o_t_letters_tongues : Value) (o_t_letters_standing : Value) (o_t_letters_tongue_frames : Value) (o_t_letters_tongue_pairs : Value) (o_t_letters_tongue_kinds : Value) (o_t_letters_tongue_worths : Value) (o_t_letters_tongue_framed : Value) (o_t_letters_tongue_paired : Value) (o_t_letters_tongue_pairWorths : Value) (i_t_law : Int32) (i_t_nonsense : Int32) (i_t_stamp : Int32) (i_t_letters_size : Int32) (n_t_memory : Nat) (n_t_letters_worthToOther : Nat) (f_t_letters_worthToOther : Nat → Int32) (n_t_letters_worthToOne : Nat) (f_t_letters_worthToOne : Nat → Int32) (i_t_letters_tongue_length : Int32) (i_t_letters_tongue_words : Int32) (f_t_letters_tongue_scales : Nat → Int32) (n_t_rows2_letters : Nat) (n_t_letters_sense : Nat) (f_t_letters_sense : Nat → Int32) (n_t_rows1_letters : Nat) (rv : Int32) (z_f_t_memory : Nat → Int32) (z_i_t_rows2_count : Int32) (z_f_t_rows2_letters : Nat → Int32) (z_i_t_rows1_count : Int32) (z_f_t_rows1_letters : Nat → Int32) (C0 : CX p s m args meth c cX1_look 11 (some .int) wsX1_look RX1) (hA : ∀ q, s.heap.size ≤ q → A q) (hK : KZ D cy A s) (hret : ∀ (H : Heap) (locs : List Loc) (ls : Array Slot) (pc : Nat), decode cX1_look pc = .ok (.ireturn, 1) → narrow .int (.int rv) = .int rv → va_P D vwCl [(a_t, .inr (1, [.ref a_t_letters, .ref a_t_memory, .ref a_t_rows, .int i_t_law, .int i_t_nonsense, .int i_t_stamp])), (a_t_letters, .inr (3, [.ref a_t_letters_tongue, o_t_letters_tongues, .int i_t_letters_size, o_t_letters_standing, .ref a_t_letters_sense, .ref a_t_letters_worthToOne, .ref a_t_letters_worthToOther])), (a_t_memory, .inl (cy 0, n_t_memory, .inl z_f_t_memory)), (a_t_letters_worthToOther, .inl (cy 0, n_t_letters_worthToOther, .inl f_t_letters_worthToOther)), (a_t_letters_worthToOne, .inl (cy 0, n_t_letters_worthToOne, .inl f_t_letters_worthToOne)), (a_t_rows, .inl (cy 5, 9, .inr (.inr (.inr (.inr (rfL [x_t_rows0, a_t_rows1, a_t_rows2, x_t_rows3, x_t_rows4, x_t_rows5, x_t_rows6, x_t_rows7, x_t_rows8])))))), (a_t_rows2, .inr (6, [.ref a_t_rows2_letters, .int z_i_t_rows2_count])), (a_t_letters_tongue, .inr (7, [.int i_t_letters_tongue_length, .int i_t_letters_tongue_words, o_t_letters_tongue_frames, o_t_letters_tongue_pairs, o_t_letters_tongue_kinds, o_t_letters_tongue_worths, o_t_letters_tongue_framed, o_t_letters_tongue_paired, o_t_letters_tongue_pairWorths, .ref a_t_letters_tongue_scales])), (a_t_letters_tongue_scales, .inl (cy 0, 5, .inl f_t_letters_tongue_scales)), (a_t_rows2_letters, .inl (cy 0, n_t_rows2_letters, .inl z_f_t_rows2_letters)), (a_t_letters_sense, .inl (cy 1, n_t_letters_sense, .inl f_t_letters_sense)), (a_t_rows1, .inr (6, [.ref a_t_rows1_letters, .int z_i_t_rows1_count])), (a_t_rows1_letters, .inl (cy 0, n_t_rows1_letters, .inl z_f_t_rows1_letters))] H → va_S A s.heap H locs → W p l e rmX1_look_s2 s m args below meth c H locs 0 0 Q (F0 m pc ls [.int rv])) : ∀ (n : Nat) (v2 : Int32) (v4 : Int32) (v5 : Int32) (v6 : Int32) (v8 : Int32) (f_t_memory : Nat → Int32) (i_t_rows2_count : Int32) (f_t_rows2_letters : Nat → Int32) (i_t_rows1_count : Int32) (f_t_rows1_letters : Nat → Int32), f_X1_look_s2_L119 i_t_law i_t_nonsense i_t_stamp i_t_letters_size n_t_memory n_t_letters_worthToOther f_t_letters_worthToOther n_t_letters_worthToOne f_t_letters_worthToOne i_t_letters_tongue_length i_t_letters_tongue_words f_t_letters_tongue_scales n_t_rows2_letters n_t_letters_sense f_t_letters_sense n_t_rows1_letters n v2 v4 v5 v6 v8 f_t_memory i_t_rows2_count f_t_rows2_letters i_t_rows1_count f_t_rows1_letters = some (rv, z_f_t_memory, z_i_t_rows2_count, z_f_t_rows2_letters, z_i_t_rows1_count, z_f_t_rows1_letters) → ∀ (H : Heap) (locs : List Loc), va_P D vwCl [(a_t, .inr (1, [.ref a_t_letters, .ref a_t_memory, .ref a_t_rows, .int i_t_law, .int i_t_nonsense, .int i_t_stamp])), (a_t_letters, .inr (3, [.ref a_t_letters_tongue, o_t_letters_tongues, .int i_t_letters_size, o_t_letters_standing, .ref a_t_letters_sense, .ref a_t_letters_worthToOne, .ref a_t_letters_worthToOther])), (a_t_memory, .inl (cy 0, n_t_memory, .inl f_t_memory)), (a_t_letters_worthToOther, .inl (cy 0, n_t_letters_worthToOther, .inl f_t_letters_worthToOther)), (a_t_letters_worthToOne, .inl (cy 0, n_t_letters_worthToOne, .inl f_t_letters_worthToOne)), (a_t_rows, .inl (cy 5, 9, .inr (.inr (.inr (.inr (rfL [x_t_rows0, a_t_rows1, a_t_rows2, x_t_rows3, x_t_rows4, x_t_rows5, x_t_rows6, x_t_rows7, x_t_rows8])))))), (a_t_rows2, .inr (6, [.ref a_t_rows2_letters, .int i_t_rows2_count])), (a_t_letters_tongue, .inr (7, [.int i_t_letters_tongue_length, .int i_t_letters_tongue_words, o_t_letters_tongue_frames, o_t_letters_tongue_pairs, o_t_letters_tongue_kinds, o_t_letters_tongue_worths, o_t_letters_tongue_framed, o_t_letters_tongue_paired, o_t_letters_tongue_pairWorths, .ref a_t_letters_tongue_scales])), (a_t_letters_tongue_scales, .inl (cy 0, 5, .inl f_t_letters_tongue_scales)), (a_t_rows2_letters, .inl (cy 0, n_t_rows2_letters, .inl f_t_rows2_letters)), (a_t_letters_sense, .inl (cy 1, n_t_letters_sense, .inl f_t_letters_sense)), (a_t_rows1, .inr (6, [.ref a_t_rows1_letters, .int i_t_rows1_count])), (a_t_rows1_letters, .inl (cy 0, n_t_rows1_letters, .inl f_t_rows1_letters))] H → va_D A [(a_t, .inr (1, [.ref a_t_letters, .ref a_t_memory, .ref a_t_rows, .int i_t_law, .int i_t_nonsense, .int i_t_stamp])), (a_t_letters, .inr (3, [.ref a_t_letters_tongue, o_t_letters_tongues, .int i_t_letters_size, o_t_letters_standing, .ref a_t_letters_sense, .ref a_t_letters_worthToOne, .ref a_t_letters_worthToOther])), (a_t_memory, .inl (cy 0, n_t_memory, .inl f_t_memory)), (a_t_letters_worthToOther, .inl (cy 0, n_t_letters_worthToOther, .inl f_t_letters_worthToOther)), (a_t_letters_worthToOne, .inl (cy 0, n_t_letters_worthToOne, .inl f_t_letters_worthToOne)), (a_t_rows, .inl (cy 5, 9, .inr (.inr (.inr (.inr (rfL [x_t_rows0, a_t_rows1, a_t_rows2, x_t_rows3, x_t_rows4, x_t_rows5, x_t_rows6, x_t_rows7, x_t_rows8])))))), (a_t_rows2, .inr (6, [.ref a_t_rows2_letters, .int i_t_rows2_count])), (a_t_letters_tongue, .inr (7, [.int i_t_letters_tongue_length, .int i_t_letters_tongue_words, o_t_letters_tongue_frames, o_t_letters_tongue_pairs, o_t_letters_tongue_kinds, o_t_letters_tongue_worths, o_t_letters_tongue_framed, o_t_letters_tongue_paired, o_t_letters_tongue_pairWorths, .ref a_t_letters_tongue_scales])), (a_t_letters_tongue_scales, .inl (cy 0, 5, .inl f_t_letters_tongue_scales)), (a_t_rows2_letters, .inl (cy 0, n_t_rows2_letters, .inl f_t_rows2_letters)), (a_t_letters_sense, .inl (cy 1, n_t_letters_sense, .inl f_t_letters_sense)), (a_t_rows1, .inr (6, [.ref a_t_rows1_letters, .int i_t_rows1_count])), (a_t_rows1_letters, .inl (cy 0, n_t_rows1_letters, .inl f_t_rows1_letters))] → va_S A s.heap H locs → ∀ ls : Array Slot, lv_has ls 11 [(0, .ref a_t), (2, .int v2), (3, .int 2), (4, .int v4), (5, .int v5), (6, .int v6), (7, .ref a_t_rows2), (8, .int v8)] → W p l e rmX1_look_s2 s m args below meth c H locs 0 0 Q (F0 m 119 ls []) := by
  obtain ⟨hx, hb, hr, hml, hown, hts, hlocks⟩ := id C0
  intro n
  induction n with
  | zero => intro _ _ _ _ _ _ _ _ _ _ hf; rw [f_X1_look_s2_L119.eq_1] at hf; cases hf
  | succ n ih =>
    intro v2 v4 v5 v6 v8 f_t_memory i_t_rows2_count f_t_rows2_letters i_t_rows1_count f_t_rows1_letters hf H locs hP hD hS ls hl
    rw [f_X1_look_s2_L119.eq_2] at hf
    refine lv_iload hx hb dX1_look_119 (lv_at hl 7 rfl) ?_
    refine lv_aload hx hb dX1_look_121 (lv_at hl 6 rfl) ?_
    refine va_getN (D := D) (ci := 6) (v := .int i_t_rows2_count) (C := RX6) (T := TX6) (N := 2) hx hb hts uX1_look_X6 hown hK.1.1 hP 6 rfl rfl 1 (by decide) (hK.1.nw _ nw_33) (fun _ h9 => h9) rfl dX1_look_123 ?_
    refine lv_icmp_ge (tgt := 189) hx hb dX1_look_126 (by decide) (fun c_12 => ?_) (fun c_12 => ?_)
    · have hf := hb_t hf c_12
      refine lv_aload_n hx hb dX1_look_189 rfl (lv_at hl 0 rfl) ?_
      refine va_get (D := D) (ci := 1) (v := .ref a_t_memory) (C := RX1) (T := TX1) (N := 6) hx hb hts uX1_look_X1 hown hK.1.1 hP 0 rfl rfl 1 (by decide) (hts _ mX1_look_9) (fun _ h9 => h9) rfl dX1_look_190 ?_
      refine lv_iload hx hb dX1_look_193 (lv_at hl 3 rfl) ?_
      refine lv_aload_n hx hb dX1_look_195 rfl (lv_at hl 0 rfl) ?_
      refine va_get (D := D) (ci := 1) (v := .int i_t_stamp) (C := RX1) (T := TX1) (N := 6) hx hb hts uX1_look_X1 hown hK.1.1 hP 0 rfl rfl 5 (by decide) (hts _ mX1_look_36) (fun _ h9 => h9) rfl dX1_look_196 ?_
      refine lv_bipush (v := 16) hx hb dX1_look_199 (by decide) ?_
      refine lv_ishl hx hb dX1_look_201 ?_
      refine lv_iload hx hb dX1_look_202 (lv_at hl 4 rfl) ?_
      refine lv_ior hx hb dX1_look_204 ?_
      obtain ⟨hg_13, hf⟩ := hb_g hf
      refine va_iast hx hb hK.1.1 hP hD hS 2 0 rfl rfl (ixb_in hg_13) dX1_look_205 (fun H locs hP hD hS => ?_)
      have hP : va_P D vwCl [(a_t, .inr (1, [.ref a_t_letters, .ref a_t_memory, .ref a_t_rows, .int i_t_law, .int i_t_nonsense, .int i_t_stamp])), (a_t_letters, .inr (3, [.ref a_t_letters_tongue, o_t_letters_tongues, .int i_t_letters_size, o_t_letters_standing, .ref a_t_letters_sense, .ref a_t_letters_worthToOne, .ref a_t_letters_worthToOther])), (a_t_memory, .inl (cy 0, n_t_memory, .inl (upd f_t_memory (v4 : Int32).toNatClampNeg ((i_t_stamp <<< (16 &&& 31)) ||| v5)))), (a_t_letters_worthToOther, .inl (cy 0, n_t_letters_worthToOther, .inl f_t_letters_worthToOther)), (a_t_letters_worthToOne, .inl (cy 0, n_t_letters_worthToOne, .inl f_t_letters_worthToOne)), (a_t_rows, .inl (cy 5, 9, .inr (.inr (.inr (.inr (rfL [x_t_rows0, a_t_rows1, a_t_rows2, x_t_rows3, x_t_rows4, x_t_rows5, x_t_rows6, x_t_rows7, x_t_rows8])))))), (a_t_rows2, .inr (6, [.ref a_t_rows2_letters, .int i_t_rows2_count])), (a_t_letters_tongue, .inr (7, [.int i_t_letters_tongue_length, .int i_t_letters_tongue_words, o_t_letters_tongue_frames, o_t_letters_tongue_pairs, o_t_letters_tongue_kinds, o_t_letters_tongue_worths, o_t_letters_tongue_framed, o_t_letters_tongue_paired, o_t_letters_tongue_pairWorths, .ref a_t_letters_tongue_scales])), (a_t_letters_tongue_scales, .inl (cy 0, 5, .inl f_t_letters_tongue_scales)), (a_t_rows2_letters, .inl (cy 0, n_t_rows2_letters, .inl f_t_rows2_letters)), (a_t_letters_sense, .inl (cy 1, n_t_letters_sense, .inl f_t_letters_sense)), (a_t_rows1, .inr (6, [.ref a_t_rows1_letters, .int i_t_rows1_count])), (a_t_rows1_letters, .inl (cy 0, n_t_rows1_letters, .inl f_t_rows1_letters))] H := hP
      have hD : va_D A [(a_t, .inr (1, [.ref a_t_letters, .ref a_t_memory, .ref a_t_rows, .int i_t_law, .int i_t_nonsense, .int i_t_stamp])), (a_t_letters, .inr (3, [.ref a_t_letters_tongue, o_t_letters_tongues, .int i_t_letters_size, o_t_letters_standing, .ref a_t_letters_sense, .ref a_t_letters_worthToOne, .ref a_t_letters_worthToOther])), (a_t_memory, .inl (cy 0, n_t_memory, .inl (upd f_t_memory (v4 : Int32).toNatClampNeg ((i_t_stamp <<< (16 &&& 31)) ||| v5)))), (a_t_letters_worthToOther, .inl (cy 0, n_t_letters_worthToOther, .inl f_t_letters_worthToOther)), (a_t_letters_worthToOne, .inl (cy 0, n_t_letters_worthToOne, .inl f_t_letters_worthToOne)), (a_t_rows, .inl (cy 5, 9, .inr (.inr (.inr (.inr (rfL [x_t_rows0, a_t_rows1, a_t_rows2, x_t_rows3, x_t_rows4, x_t_rows5, x_t_rows6, x_t_rows7, x_t_rows8])))))), (a_t_rows2, .inr (6, [.ref a_t_rows2_letters, .int i_t_rows2_count])), (a_t_letters_tongue, .inr (7, [.int i_t_letters_tongue_length, .int i_t_letters_tongue_words, o_t_letters_tongue_frames, o_t_letters_tongue_pairs, o_t_letters_tongue_kinds, o_t_letters_tongue_worths, o_t_letters_tongue_framed, o_t_letters_tongue_paired, o_t_letters_tongue_pairWorths, .ref a_t_letters_tongue_scales])), (a_t_letters_tongue_scales, .inl (cy 0, 5, .inl f_t_letters_tongue_scales)), (a_t_rows2_letters, .inl (cy 0, n_t_rows2_letters, .inl f_t_rows2_letters)), (a_t_letters_sense, .inl (cy 1, n_t_letters_sense, .inl f_t_letters_sense)), (a_t_rows1, .inr (6, [.ref a_t_rows1_letters, .int i_t_rows1_count])), (a_t_rows1_letters, .inl (cy 0, n_t_rows1_letters, .inl f_t_rows1_letters))] := hD
      refine lv_iload hx hb dX1_look_206 (lv_at hl 4 rfl) ?_
      obtain ⟨e_0, e_1, e_2, e_3, e_4, e_5⟩ := tu6 hf
      subst e_0; subst e_1; subst e_2; subst e_3; subst e_4; subst e_5
      exact hret _ _ _ _ dX1_look_208 rfl hP hS
    · have hf := hb_f hf c_12
      refine lv_aload_n hx hb dX1_look_129 rfl (lv_at hl 0 rfl) ?_
      refine lv_aload hx hb dX1_look_130 (lv_at hl 6 rfl) ?_
      refine lv_iload hx hb dX1_look_132 (lv_at hl 7 rfl) ?_
      obtain ⟨r_14, hc_15, hf⟩ := hb_b hf
      refine cl_Vi (rest := [.ref a_t]) [6, 9] 6 C0 hK hP hD hS hA (c_X6_get l D cy a_t_rows2 a_t_rows2_letters i_t_rows2_count n_t_rows2_letters f_t_rows2_letters v8 r_14 hc_15) (cwV 1 hts gX1_look_X6_get rfl rfl rfl (by decide +kernel) ⟨Nat.le_of_ble_eq_true rfl, Nat.le_of_ble_eq_true rfl⟩) rfl rfl rfl rfl rfl rfl rfl hl.1 rfl (Nat.le_of_ble_eq_true rfl) dX1_look_134 ⟨Nat.zero_le _, Nat.zero_le _⟩ (fun H locs hP hD hS => ?_)
      have hP : va_P D vwCl [(a_t, .inr (1, [.ref a_t_letters, .ref a_t_memory, .ref a_t_rows, .int i_t_law, .int i_t_nonsense, .int i_t_stamp])), (a_t_letters, .inr (3, [.ref a_t_letters_tongue, o_t_letters_tongues, .int i_t_letters_size, o_t_letters_standing, .ref a_t_letters_sense, .ref a_t_letters_worthToOne, .ref a_t_letters_worthToOther])), (a_t_memory, .inl (cy 0, n_t_memory, .inl f_t_memory)), (a_t_letters_worthToOther, .inl (cy 0, n_t_letters_worthToOther, .inl f_t_letters_worthToOther)), (a_t_letters_worthToOne, .inl (cy 0, n_t_letters_worthToOne, .inl f_t_letters_worthToOne)), (a_t_rows, .inl (cy 5, 9, .inr (.inr (.inr (.inr (rfL [x_t_rows0, a_t_rows1, a_t_rows2, x_t_rows3, x_t_rows4, x_t_rows5, x_t_rows6, x_t_rows7, x_t_rows8])))))), (a_t_rows2, .inr (6, [.ref a_t_rows2_letters, .int i_t_rows2_count])), (a_t_letters_tongue, .inr (7, [.int i_t_letters_tongue_length, .int i_t_letters_tongue_words, o_t_letters_tongue_frames, o_t_letters_tongue_pairs, o_t_letters_tongue_kinds, o_t_letters_tongue_worths, o_t_letters_tongue_framed, o_t_letters_tongue_paired, o_t_letters_tongue_pairWorths, .ref a_t_letters_tongue_scales])), (a_t_letters_tongue_scales, .inl (cy 0, 5, .inl f_t_letters_tongue_scales)), (a_t_rows2_letters, .inl (cy 0, n_t_rows2_letters, .inl f_t_rows2_letters)), (a_t_letters_sense, .inl (cy 1, n_t_letters_sense, .inl f_t_letters_sense)), (a_t_rows1, .inr (6, [.ref a_t_rows1_letters, .int i_t_rows1_count])), (a_t_rows1_letters, .inl (cy 0, n_t_rows1_letters, .inl f_t_rows1_letters))] H := hP
      have hD : va_D A [(a_t, .inr (1, [.ref a_t_letters, .ref a_t_memory, .ref a_t_rows, .int i_t_law, .int i_t_nonsense, .int i_t_stamp])), (a_t_letters, .inr (3, [.ref a_t_letters_tongue, o_t_letters_tongues, .int i_t_letters_size, o_t_letters_standing, .ref a_t_letters_sense, .ref a_t_letters_worthToOne, .ref a_t_letters_worthToOther])), (a_t_memory, .inl (cy 0, n_t_memory, .inl f_t_memory)), (a_t_letters_worthToOther, .inl (cy 0, n_t_letters_worthToOther, .inl f_t_letters_worthToOther)), (a_t_letters_worthToOne, .inl (cy 0, n_t_letters_worthToOne, .inl f_t_letters_worthToOne)), (a_t_rows, .inl (cy 5, 9, .inr (.inr (.inr (.inr (rfL [x_t_rows0, a_t_rows1, a_t_rows2, x_t_rows3, x_t_rows4, x_t_rows5, x_t_rows6, x_t_rows7, x_t_rows8])))))), (a_t_rows2, .inr (6, [.ref a_t_rows2_letters, .int i_t_rows2_count])), (a_t_letters_tongue, .inr (7, [.int i_t_letters_tongue_length, .int i_t_letters_tongue_words, o_t_letters_tongue_frames, o_t_letters_tongue_pairs, o_t_letters_tongue_kinds, o_t_letters_tongue_worths, o_t_letters_tongue_framed, o_t_letters_tongue_paired, o_t_letters_tongue_pairWorths, .ref a_t_letters_tongue_scales])), (a_t_letters_tongue_scales, .inl (cy 0, 5, .inl f_t_letters_tongue_scales)), (a_t_rows2_letters, .inl (cy 0, n_t_rows2_letters, .inl f_t_rows2_letters)), (a_t_letters_sense, .inl (cy 1, n_t_letters_sense, .inl f_t_letters_sense)), (a_t_rows1, .inr (6, [.ref a_t_rows1_letters, .int i_t_rows1_count])), (a_t_rows1_letters, .inl (cy 0, n_t_rows1_letters, .inl f_t_rows1_letters))] := hD
      refine lv_iconst (v := 1) hx hb dX1_look_137 (by decide) ?_
      refine lv_iload_n hx hb dX1_look_138 rfl (lv_at hl 1 rfl) ?_
      refine lv_isub hx hb dX1_look_139 ?_
      refine lv_iload_n hx hb dX1_look_140 rfl (lv_at hl 2 rfl) ?_
      refine lv_iconst (v := 1) hx hb dX1_look_141 (by decide) ?_
      refine lv_isub hx hb dX1_look_142 ?_
      obtain ⟨⟨r_16, z_17, z_18, z_19⟩, hc_20, hf⟩ := hb_b hf
      refine cl_Vi (rest := []) [0, 1, 2, 3, 4, 5, 11, 7, 8, 12, 10] 0 C0 hK hP hD hS hA (c_X1_look_s1 l D cy a_t a_t_letters a_t_memory a_t_letters_worthToOther a_t_letters_worthToOne a_t_rows x_t_rows0 a_t_rows2 x_t_rows3 x_t_rows4 x_t_rows5 x_t_rows6 x_t_rows7 x_t_rows8 a_t_rows1 a_t_letters_tongue a_t_letters_tongue_scales a_t_rows1_letters a_t_letters_sense o_t_letters_tongues o_t_letters_standing o_t_letters_tongue_frames o_t_letters_tongue_pairs o_t_letters_tongue_kinds o_t_letters_tongue_worths o_t_letters_tongue_framed o_t_letters_tongue_paired o_t_letters_tongue_pairWorths i_t_law i_t_nonsense i_t_stamp i_t_letters_size n_t_memory n_t_letters_worthToOther f_t_letters_worthToOther n_t_letters_worthToOne f_t_letters_worthToOne i_t_letters_tongue_length i_t_letters_tongue_words f_t_letters_tongue_scales n_t_rows1_letters n_t_letters_sense f_t_letters_sense f_t_memory i_t_rows1_count f_t_rows1_letters r_14 (1 - v2) r_16 z_17 z_18 z_19 hc_20) (cwV 3 hts gX1_look_X1_look rfl rfl rfl (by decide +kernel) ⟨Nat.le_of_ble_eq_true rfl, Nat.le_of_ble_eq_true rfl⟩) rfl rfl rfl rfl rfl rfl rfl hl.1 rfl (Nat.le_of_ble_eq_true rfl) dX1_look_143 ⟨Nat.zero_le _, Nat.zero_le _⟩ (fun H locs hP hD hS => ?_)
      have hP : va_P D vwCl [(a_t, .inr (1, [.ref a_t_letters, .ref a_t_memory, .ref a_t_rows, .int i_t_law, .int i_t_nonsense, .int i_t_stamp])), (a_t_letters, .inr (3, [.ref a_t_letters_tongue, o_t_letters_tongues, .int i_t_letters_size, o_t_letters_standing, .ref a_t_letters_sense, .ref a_t_letters_worthToOne, .ref a_t_letters_worthToOther])), (a_t_memory, .inl (cy 0, n_t_memory, .inl z_17)), (a_t_letters_worthToOther, .inl (cy 0, n_t_letters_worthToOther, .inl f_t_letters_worthToOther)), (a_t_letters_worthToOne, .inl (cy 0, n_t_letters_worthToOne, .inl f_t_letters_worthToOne)), (a_t_rows, .inl (cy 5, 9, .inr (.inr (.inr (.inr (rfL [x_t_rows0, a_t_rows1, a_t_rows2, x_t_rows3, x_t_rows4, x_t_rows5, x_t_rows6, x_t_rows7, x_t_rows8])))))), (a_t_rows2, .inr (6, [.ref a_t_rows2_letters, .int i_t_rows2_count])), (a_t_letters_tongue, .inr (7, [.int i_t_letters_tongue_length, .int i_t_letters_tongue_words, o_t_letters_tongue_frames, o_t_letters_tongue_pairs, o_t_letters_tongue_kinds, o_t_letters_tongue_worths, o_t_letters_tongue_framed, o_t_letters_tongue_paired, o_t_letters_tongue_pairWorths, .ref a_t_letters_tongue_scales])), (a_t_letters_tongue_scales, .inl (cy 0, 5, .inl f_t_letters_tongue_scales)), (a_t_rows2_letters, .inl (cy 0, n_t_rows2_letters, .inl f_t_rows2_letters)), (a_t_letters_sense, .inl (cy 1, n_t_letters_sense, .inl f_t_letters_sense)), (a_t_rows1, .inr (6, [.ref a_t_rows1_letters, .int z_18])), (a_t_rows1_letters, .inl (cy 0, n_t_rows1_letters, .inl z_19))] H := hP
      have hD : va_D A [(a_t, .inr (1, [.ref a_t_letters, .ref a_t_memory, .ref a_t_rows, .int i_t_law, .int i_t_nonsense, .int i_t_stamp])), (a_t_letters, .inr (3, [.ref a_t_letters_tongue, o_t_letters_tongues, .int i_t_letters_size, o_t_letters_standing, .ref a_t_letters_sense, .ref a_t_letters_worthToOne, .ref a_t_letters_worthToOther])), (a_t_memory, .inl (cy 0, n_t_memory, .inl z_17)), (a_t_letters_worthToOther, .inl (cy 0, n_t_letters_worthToOther, .inl f_t_letters_worthToOther)), (a_t_letters_worthToOne, .inl (cy 0, n_t_letters_worthToOne, .inl f_t_letters_worthToOne)), (a_t_rows, .inl (cy 5, 9, .inr (.inr (.inr (.inr (rfL [x_t_rows0, a_t_rows1, a_t_rows2, x_t_rows3, x_t_rows4, x_t_rows5, x_t_rows6, x_t_rows7, x_t_rows8])))))), (a_t_rows2, .inr (6, [.ref a_t_rows2_letters, .int i_t_rows2_count])), (a_t_letters_tongue, .inr (7, [.int i_t_letters_tongue_length, .int i_t_letters_tongue_words, o_t_letters_tongue_frames, o_t_letters_tongue_pairs, o_t_letters_tongue_kinds, o_t_letters_tongue_worths, o_t_letters_tongue_framed, o_t_letters_tongue_paired, o_t_letters_tongue_pairWorths, .ref a_t_letters_tongue_scales])), (a_t_letters_tongue_scales, .inl (cy 0, 5, .inl f_t_letters_tongue_scales)), (a_t_rows2_letters, .inl (cy 0, n_t_rows2_letters, .inl f_t_rows2_letters)), (a_t_letters_sense, .inl (cy 1, n_t_letters_sense, .inl f_t_letters_sense)), (a_t_rows1, .inr (6, [.ref a_t_rows1_letters, .int z_18])), (a_t_rows1_letters, .inl (cy 0, n_t_rows1_letters, .inl z_19))] := hD
      refine lv_istore (lv' := [(9, .int r_16), (0, .ref a_t), (2, .int v2), (3, .int 2), (4, .int v4), (5, .int v5), (6, .int v6), (7, .ref a_t_rows2), (8, .int v8)]) hx hb dX1_look_146 hl (by decide) rfl (fun ls hl => ?_)
      refine lv_aload_n hx hb dX1_look_148 rfl (lv_at hl 1 rfl) ?_
      refine va_get (D := D) (ci := 1) (v := .ref a_t_letters) (C := RX1) (T := TX1) (N := 6) hx hb hts uX1_look_X1 hown hK.1.1 hP 0 rfl rfl 0 (by decide) (hts _ mX1_look_21) (fun _ h9 => h9) rfl dX1_look_149 ?_
      refine lv_iload_n hx hb dX1_look_152 rfl (lv_at hl 2 rfl) ?_
      refine lv_iload hx hb dX1_look_153 (lv_at hl 0 rfl) ?_
      refine lv_sipush (v := 4096) hx hb dX1_look_155 (by decide) ?_
      refine lv_irem hx hb dX1_look_158 (by decide) ?_
      obtain ⟨r_21, hc_22, hf⟩ := hb_b hf
      refine cl_Vi (rest := []) [1, 3, 4] 1 C0 hK hP hD hS hA (c_X3_worthTo l D cy a_t_letters a_t_letters_worthToOther a_t_letters_worthToOne (.ref a_t_letters_tongue) o_t_letters_tongues o_t_letters_standing (.ref a_t_letters_sense) i_t_letters_size n_t_letters_worthToOther f_t_letters_worthToOther n_t_letters_worthToOne f_t_letters_worthToOne v2 (r_16 - r_16 / 4096 * 4096) r_21 hc_22) (cwV 2 hts gX1_look_X3_worthTo rfl rfl rfl (by decide +kernel) ⟨Nat.le_of_ble_eq_true rfl, Nat.le_of_ble_eq_true rfl⟩) rfl rfl rfl rfl rfl rfl rfl hl.1 rfl (Nat.le_of_ble_eq_true rfl) dX1_look_159 ⟨Nat.zero_le _, Nat.zero_le _⟩ (fun H locs hP hD hS => ?_)
      have hP : va_P D vwCl [(a_t, .inr (1, [.ref a_t_letters, .ref a_t_memory, .ref a_t_rows, .int i_t_law, .int i_t_nonsense, .int i_t_stamp])), (a_t_letters, .inr (3, [.ref a_t_letters_tongue, o_t_letters_tongues, .int i_t_letters_size, o_t_letters_standing, .ref a_t_letters_sense, .ref a_t_letters_worthToOne, .ref a_t_letters_worthToOther])), (a_t_memory, .inl (cy 0, n_t_memory, .inl z_17)), (a_t_letters_worthToOther, .inl (cy 0, n_t_letters_worthToOther, .inl f_t_letters_worthToOther)), (a_t_letters_worthToOne, .inl (cy 0, n_t_letters_worthToOne, .inl f_t_letters_worthToOne)), (a_t_rows, .inl (cy 5, 9, .inr (.inr (.inr (.inr (rfL [x_t_rows0, a_t_rows1, a_t_rows2, x_t_rows3, x_t_rows4, x_t_rows5, x_t_rows6, x_t_rows7, x_t_rows8])))))), (a_t_rows2, .inr (6, [.ref a_t_rows2_letters, .int i_t_rows2_count])), (a_t_letters_tongue, .inr (7, [.int i_t_letters_tongue_length, .int i_t_letters_tongue_words, o_t_letters_tongue_frames, o_t_letters_tongue_pairs, o_t_letters_tongue_kinds, o_t_letters_tongue_worths, o_t_letters_tongue_framed, o_t_letters_tongue_paired, o_t_letters_tongue_pairWorths, .ref a_t_letters_tongue_scales])), (a_t_letters_tongue_scales, .inl (cy 0, 5, .inl f_t_letters_tongue_scales)), (a_t_rows2_letters, .inl (cy 0, n_t_rows2_letters, .inl f_t_rows2_letters)), (a_t_letters_sense, .inl (cy 1, n_t_letters_sense, .inl f_t_letters_sense)), (a_t_rows1, .inr (6, [.ref a_t_rows1_letters, .int z_18])), (a_t_rows1_letters, .inl (cy 0, n_t_rows1_letters, .inl z_19))] H := hP
      have hD : va_D A [(a_t, .inr (1, [.ref a_t_letters, .ref a_t_memory, .ref a_t_rows, .int i_t_law, .int i_t_nonsense, .int i_t_stamp])), (a_t_letters, .inr (3, [.ref a_t_letters_tongue, o_t_letters_tongues, .int i_t_letters_size, o_t_letters_standing, .ref a_t_letters_sense, .ref a_t_letters_worthToOne, .ref a_t_letters_worthToOther])), (a_t_memory, .inl (cy 0, n_t_memory, .inl z_17)), (a_t_letters_worthToOther, .inl (cy 0, n_t_letters_worthToOther, .inl f_t_letters_worthToOther)), (a_t_letters_worthToOne, .inl (cy 0, n_t_letters_worthToOne, .inl f_t_letters_worthToOne)), (a_t_rows, .inl (cy 5, 9, .inr (.inr (.inr (.inr (rfL [x_t_rows0, a_t_rows1, a_t_rows2, x_t_rows3, x_t_rows4, x_t_rows5, x_t_rows6, x_t_rows7, x_t_rows8])))))), (a_t_rows2, .inr (6, [.ref a_t_rows2_letters, .int i_t_rows2_count])), (a_t_letters_tongue, .inr (7, [.int i_t_letters_tongue_length, .int i_t_letters_tongue_words, o_t_letters_tongue_frames, o_t_letters_tongue_pairs, o_t_letters_tongue_kinds, o_t_letters_tongue_worths, o_t_letters_tongue_framed, o_t_letters_tongue_paired, o_t_letters_tongue_pairWorths, .ref a_t_letters_tongue_scales])), (a_t_letters_tongue_scales, .inl (cy 0, 5, .inl f_t_letters_tongue_scales)), (a_t_rows2_letters, .inl (cy 0, n_t_rows2_letters, .inl f_t_rows2_letters)), (a_t_letters_sense, .inl (cy 1, n_t_letters_sense, .inl f_t_letters_sense)), (a_t_rows1, .inr (6, [.ref a_t_rows1_letters, .int z_18])), (a_t_rows1_letters, .inl (cy 0, n_t_rows1_letters, .inl z_19))] := hD
      refine lv_istore (lv' := [(10, .int r_21), (9, .int r_16), (0, .ref a_t), (2, .int v2), (3, .int 2), (4, .int v4), (5, .int v5), (6, .int v6), (7, .ref a_t_rows2), (8, .int v8)]) hx hb dX1_look_162 hl (by decide) rfl (fun ls hl => ?_)
      refine lv_iload hx hb dX1_look_164 (lv_at hl 0 rfl) ?_
      refine lv_iload hx hb dX1_look_166 (lv_at hl 7 rfl) ?_
      refine lv_icmp_le (tgt := 183) hx hb dX1_look_168 (by decide) (fun c_23 => ?_) (fun c_23 => ?_)
      · have hf := hb_t hf c_23
        refine lv_iinc (v := (v8 + 1)) (lv' := [(8, .int (v8 + 1)), (10, .int r_21), (9, .int r_16), (0, .ref a_t), (2, .int v2), (3, .int 2), (4, .int v4), (5, .int v5), (6, .int v6), (7, .ref a_t_rows2)]) hx hb dX1_look_183 hl (k := 9) rfl rfl (by decide) rfl (fun ls hl => ?_)
        refine lv_goto (tgt := 119) hx hb dX1_look_186 (by decide) ?_
        exact ih v2 v4 v5 v6 (v8 + 1) z_17 i_t_rows2_count f_t_rows2_letters z_18 z_19 hf _ _ hP hD hS _ (lv_sub hl [3, 4, 5, 6, 7, 8, 9, 0] rfl)
      · have hf := hb_f hf c_23
        refine lv_iload hx hb dX1_look_171 (lv_at hl 0 rfl) ?_
        refine lv_istore (lv' := [(6, .int r_21), (10, .int r_21), (9, .int r_16), (0, .ref a_t), (2, .int v2), (3, .int 2), (4, .int v4), (5, .int v5), (7, .ref a_t_rows2), (8, .int v8)]) hx hb dX1_look_173 hl (by decide) rfl (fun ls hl => ?_)
        refine lv_iload hx hb dX1_look_175 (lv_at hl 2 rfl) ?_
        refine lv_sipush (v := 4096) hx hb dX1_look_177 (by decide) ?_
        refine lv_iadd hx hb dX1_look_180 ?_
        refine lv_istore (lv' := [(5, .int (r_16 + 4096)), (6, .int r_21), (10, .int r_21), (9, .int r_16), (0, .ref a_t), (2, .int v2), (3, .int 2), (4, .int v4), (7, .ref a_t_rows2), (8, .int v8)]) hx hb dX1_look_181 hl (by decide) rfl (fun ls hl => ?_)
        refine lv_iinc (v := (v8 + 1)) (lv' := [(8, .int (v8 + 1)), (5, .int (r_16 + 4096)), (6, .int r_21), (10, .int r_21), (9, .int r_16), (0, .ref a_t), (2, .int v2), (3, .int 2), (4, .int v4), (7, .ref a_t_rows2)]) hx hb dX1_look_183 hl (k := 9) rfl rfl (by decide) rfl (fun ls hl => ?_)
        refine lv_goto (tgt := 119) hx hb dX1_look_186 (by decide) ?_
        exact ih v2 v4 (r_16 + 4096) r_21 (v8 + 1) z_17 i_t_rows2_count f_t_rows2_letters z_18 z_19 hf _ _ hP hD hS _ (lv_sub hl [5, 6, 7, 8, 1, 2, 9, 0] rfl)
def f_X1_look_s2 (i_t_law : Int32) (i_t_nonsense : Int32) (i_t_stamp : Int32) (i_t_letters_size : Int32) (n_t_memory : Nat) (n_t_letters_worthToOther : Nat) (f_t_letters_worthToOther : Nat → Int32) (n_t_letters_worthToOne : Nat) (f_t_letters_worthToOne : Nat → Int32) (i_t_letters_tongue_length : Int32) (i_t_letters_tongue_words : Int32) (f_t_letters_tongue_scales : Nat → Int32) (n_t_rows2_letters : Nat) (n_t_letters_sense : Nat) (f_t_letters_sense : Nat → Int32) (n_t_rows1_letters : Nat) (f_t_memory : Nat → Int32) (i_t_rows2_count : Int32) (f_t_rows2_letters : Nat → Int32) (i_t_rows1_count : Int32) (f_t_rows1_letters : Nat → Int32) (p1 : Int32) (p2 : Int32) : Option (Int32 × (Nat → Int32) × Int32 × (Nat → Int32) × Int32 × (Nat → Int32)) :=
  if (((((2 - 1) * 2) + p2) * i_t_letters_size) + p1) < 0 then
    some (p1, f_t_memory, i_t_rows2_count, f_t_rows2_letters, i_t_rows1_count, f_t_rows1_letters)
  else
    if (((((2 - 1) * 2) + p2) * i_t_letters_size) + p1) < (nI n_t_memory) then
      if ixb (((((2 - 1) * 2) + p2) * i_t_letters_size) + p1) n_t_memory = true then
      if (((f_t_memory ((((((2 - 1) * 2) + p2) * i_t_letters_size) + p1) : Int32).toNatClampNeg).toUInt32 >>> ((16 : Int32).toUInt32 &&& Int32.toUInt32 31)).toInt32) = i_t_stamp then
        if ixb (((((2 - 1) * 2) + p2) * i_t_letters_size) + p1) n_t_memory = true then
        some (((f_t_memory ((((((2 - 1) * 2) + p2) * i_t_letters_size) + p1) : Int32).toNatClampNeg) &&& 65535), f_t_memory, i_t_rows2_count, f_t_rows2_letters, i_t_rows1_count, f_t_rows1_letters)
        else none
      else
        (f_X3_worthTo i_t_letters_size n_t_letters_worthToOther f_t_letters_worthToOther n_t_letters_worthToOne f_t_letters_worthToOne p2 p1).bind fun r_7 =>
        (f_X3_listChanges i_t_letters_size i_t_letters_tongue_length i_t_letters_tongue_words f_t_letters_tongue_scales n_t_rows2_letters n_t_letters_sense f_t_letters_sense i_t_rows2_count f_t_rows2_letters p1 i_t_law i_t_nonsense).bind fun (z_9, z_10) =>
        f_X1_look_s2_L119 i_t_law i_t_nonsense i_t_stamp i_t_letters_size n_t_memory n_t_letters_worthToOther f_t_letters_worthToOther n_t_letters_worthToOne f_t_letters_worthToOne i_t_letters_tongue_length i_t_letters_tongue_words f_t_letters_tongue_scales n_t_rows2_letters n_t_letters_sense f_t_letters_sense n_t_rows1_letters FU p2 (((((2 - 1) * 2) + p2) * i_t_letters_size) + p1) p1 r_7 0 f_t_memory z_9 z_10 i_t_rows1_count f_t_rows1_letters
      else none
    else
      some (p1, f_t_memory, i_t_rows2_count, f_t_rows2_letters, i_t_rows1_count, f_t_rows1_letters)
set_option maxRecDepth 100000 in
set_option maxHeartbeats 4000000 in
theorem c_X1_look_s2 (l : Launch) (D : va_G) (cy : Nat → ClassId) (a_t : Nat) (a_t_letters : Nat) (a_t_memory : Nat) (a_t_letters_worthToOther : Nat) (a_t_letters_worthToOne : Nat) (a_t_rows : Nat) (x_t_rows0 : Nat) (x_t_rows3 : Nat) (x_t_rows4 : Nat) (x_t_rows5 : Nat) (x_t_rows6 : Nat) (x_t_rows7 : Nat) (x_t_rows8 : Nat) (a_t_rows2 : Nat) (a_t_letters_tongue : Nat) (a_t_letters_tongue_scales : Nat) (a_t_rows2_letters : Nat) (a_t_letters_sense : Nat) (a_t_rows1 : Nat) (a_t_rows1_letters : Nat) (o_t_letters_tongues : Value) (o_t_letters_standing : Value) (o_t_letters_tongue_frames : Value) (o_t_letters_tongue_pairs : Value) (o_t_letters_tongue_kinds : Value) (o_t_letters_tongue_worths : Value) (o_t_letters_tongue_framed : Value) (o_t_letters_tongue_paired : Value) (o_t_letters_tongue_pairWorths : Value) (i_t_law : Int32) (i_t_nonsense : Int32) (i_t_stamp : Int32) (i_t_letters_size : Int32) (n_t_memory : Nat) (n_t_letters_worthToOther : Nat) (f_t_letters_worthToOther : Nat → Int32) (n_t_letters_worthToOne : Nat) (f_t_letters_worthToOne : Nat → Int32) (i_t_letters_tongue_length : Int32) (i_t_letters_tongue_words : Int32) (f_t_letters_tongue_scales : Nat → Int32) (n_t_rows2_letters : Nat) (n_t_letters_sense : Nat) (f_t_letters_sense : Nat → Int32) (n_t_rows1_letters : Nat) (f_t_memory : Nat → Int32) (i_t_rows2_count : Int32) (f_t_rows2_letters : Nat → Int32) (i_t_rows1_count : Int32) (f_t_rows1_letters : Nat → Int32) (p1 : Int32) (p2 : Int32) (rv : Int32) (z_f_t_memory : Nat → Int32) (z_i_t_rows2_count : Int32) (z_f_t_rows2_letters : Nat → Int32) (z_i_t_rows1_count : Int32) (z_f_t_rows1_letters : Nat → Int32) (hf : f_X1_look_s2 i_t_law i_t_nonsense i_t_stamp i_t_letters_size n_t_memory n_t_letters_worthToOther f_t_letters_worthToOther n_t_letters_worthToOne f_t_letters_worthToOne i_t_letters_tongue_length i_t_letters_tongue_words f_t_letters_tongue_scales n_t_rows2_letters n_t_letters_sense f_t_letters_sense n_t_rows1_letters f_t_memory i_t_rows2_count f_t_rows2_letters i_t_rows1_count f_t_rows1_letters p1 p2 = some (rv, z_f_t_memory, z_i_t_rows2_count, z_f_t_rows2_letters, z_i_t_rows1_count, z_f_t_rows1_letters)) : MI l D cy yX1_look wsX1_look rmX1_look_s2 [.ref a_t, .int p1, .int p2, .int 2] [(a_t, .inr (1, [.ref a_t_letters, .ref a_t_memory, .ref a_t_rows, .int i_t_law, .int i_t_nonsense, .int i_t_stamp])), (a_t_letters, .inr (3, [.ref a_t_letters_tongue, o_t_letters_tongues, .int i_t_letters_size, o_t_letters_standing, .ref a_t_letters_sense, .ref a_t_letters_worthToOne, .ref a_t_letters_worthToOther])), (a_t_memory, .inl (cy 0, n_t_memory, .inl f_t_memory)), (a_t_letters_worthToOther, .inl (cy 0, n_t_letters_worthToOther, .inl f_t_letters_worthToOther)), (a_t_letters_worthToOne, .inl (cy 0, n_t_letters_worthToOne, .inl f_t_letters_worthToOne)), (a_t_rows, .inl (cy 5, 9, .inr (.inr (.inr (.inr (rfL [x_t_rows0, a_t_rows1, a_t_rows2, x_t_rows3, x_t_rows4, x_t_rows5, x_t_rows6, x_t_rows7, x_t_rows8])))))), (a_t_rows2, .inr (6, [.ref a_t_rows2_letters, .int i_t_rows2_count])), (a_t_letters_tongue, .inr (7, [.int i_t_letters_tongue_length, .int i_t_letters_tongue_words, o_t_letters_tongue_frames, o_t_letters_tongue_pairs, o_t_letters_tongue_kinds, o_t_letters_tongue_worths, o_t_letters_tongue_framed, o_t_letters_tongue_paired, o_t_letters_tongue_pairWorths, .ref a_t_letters_tongue_scales])), (a_t_letters_tongue_scales, .inl (cy 0, 5, .inl f_t_letters_tongue_scales)), (a_t_rows2_letters, .inl (cy 0, n_t_rows2_letters, .inl f_t_rows2_letters)), (a_t_letters_sense, .inl (cy 1, n_t_letters_sense, .inl f_t_letters_sense)), (a_t_rows1, .inr (6, [.ref a_t_rows1_letters, .int i_t_rows1_count])), (a_t_rows1_letters, .inl (cy 0, n_t_rows1_letters, .inl f_t_rows1_letters))] [(a_t, .inr (1, [.ref a_t_letters, .ref a_t_memory, .ref a_t_rows, .int i_t_law, .int i_t_nonsense, .int i_t_stamp])), (a_t_letters, .inr (3, [.ref a_t_letters_tongue, o_t_letters_tongues, .int i_t_letters_size, o_t_letters_standing, .ref a_t_letters_sense, .ref a_t_letters_worthToOne, .ref a_t_letters_worthToOther])), (a_t_memory, .inl (cy 0, n_t_memory, .inl z_f_t_memory)), (a_t_letters_worthToOther, .inl (cy 0, n_t_letters_worthToOther, .inl f_t_letters_worthToOther)), (a_t_letters_worthToOne, .inl (cy 0, n_t_letters_worthToOne, .inl f_t_letters_worthToOne)), (a_t_rows, .inl (cy 5, 9, .inr (.inr (.inr (.inr (rfL [x_t_rows0, a_t_rows1, a_t_rows2, x_t_rows3, x_t_rows4, x_t_rows5, x_t_rows6, x_t_rows7, x_t_rows8])))))), (a_t_rows2, .inr (6, [.ref a_t_rows2_letters, .int z_i_t_rows2_count])), (a_t_letters_tongue, .inr (7, [.int i_t_letters_tongue_length, .int i_t_letters_tongue_words, o_t_letters_tongue_frames, o_t_letters_tongue_pairs, o_t_letters_tongue_kinds, o_t_letters_tongue_worths, o_t_letters_tongue_framed, o_t_letters_tongue_paired, o_t_letters_tongue_pairWorths, .ref a_t_letters_tongue_scales])), (a_t_letters_tongue_scales, .inl (cy 0, 5, .inl f_t_letters_tongue_scales)), (a_t_rows2_letters, .inl (cy 0, n_t_rows2_letters, .inl z_f_t_rows2_letters)), (a_t_letters_sense, .inl (cy 1, n_t_letters_sense, .inl f_t_letters_sense)), (a_t_rows1, .inr (6, [.ref a_t_rows1_letters, .int z_i_t_rows1_count])), (a_t_rows1_letters, .inl (cy 0, n_t_rows1_letters, .inl z_f_t_rows1_letters))] rv := by
  refine st_I (by decide) rfl (Nat.le_of_ble_eq_true rfl) (fun p e s m below meth c A Q ls C0 hA hK hP hD hS hl hret => ?_)
  obtain ⟨hx, hb, hr, hml, hown, hts, hlocks⟩ := id C0
  have hl : lv_has ls 11 [(0, .ref a_t), (1, .int p1), (2, .int p2), (3, .int 2)] := hl
  unfold f_X1_look_s2 at hf
  refine lv_iload_n hx hb dX1_look_0 rfl (lv_at hl 3 rfl) ?_
  refine lv_if_le (tgt := 10) hx hb dX1_look_1 (by decide) (fun c_1 => absurd c_1 (by decide)) (fun c_1 => ?_)
  refine lv_iload_n hx hb dX1_look_4 rfl (lv_at hl 3 rfl) ?_
  refine lv_bipush (v := 8) hx hb dX1_look_5 (by decide) ?_
  refine lv_icmp_le (tgt := 12) hx hb dX1_look_7 (by decide) (fun c_2 => ?_) (fun c_2 => absurd c_2 (by decide))
  refine lv_iload_n hx hb dX1_look_12 rfl (lv_at hl 3 rfl) ?_
  refine lv_iconst (v := 1) hx hb dX1_look_13 (by decide) ?_
  refine lv_isub hx hb dX1_look_14 ?_
  refine lv_iconst (v := 2) hx hb dX1_look_15 (by decide) ?_
  refine lv_imul hx hb dX1_look_16 ?_
  refine lv_iload_n hx hb dX1_look_17 rfl (lv_at hl 2 rfl) ?_
  refine lv_iadd hx hb dX1_look_18 ?_
  refine lv_aload_n hx hb dX1_look_19 rfl (lv_at hl 0 rfl) ?_
  refine va_get (D := D) (ci := 1) (v := .ref a_t_letters) (C := RX1) (T := TX1) (N := 6) hx hb hts uX1_look_X1 hown hK.1.1 hP 0 rfl rfl 0 (by decide) (hts _ mX1_look_21) (fun _ h9 => h9) rfl dX1_look_20 ?_
  refine va_getN (D := D) (ci := 3) (v := .int i_t_letters_size) (C := RX3) (T := TX3) (N := 7) hx hb hts uX1_look_X3 hown hK.1.1 hP 1 rfl rfl 2 (by decide) (hK.1.nw _ nw_21) (fun _ h9 => h9) rfl dX1_look_23 ?_
  refine lv_imul hx hb dX1_look_26 ?_
  refine lv_iload_n hx hb dX1_look_27 rfl (lv_at hl 1 rfl) ?_
  refine lv_iadd hx hb dX1_look_28 ?_
  refine lv_istore (lv' := [(4, .int (((((2 - 1) * 2) + p2) * i_t_letters_size) + p1)), (0, .ref a_t), (1, .int p1), (2, .int p2), (3, .int 2)]) hx hb dX1_look_29 hl (by decide) rfl (fun ls hl => ?_)
  refine lv_iload hx hb dX1_look_31 (lv_at hl 0 rfl) ?_
  refine lv_if_lt (tgt := 46) hx hb dX1_look_33 (by decide) (fun c_3 => ?_) (fun c_3 => ?_)
  · have hf := hb_t hf c_3
    refine lv_iload_n hx hb dX1_look_46 rfl (lv_at hl 2 rfl) ?_
    obtain ⟨e_0, e_1, e_2, e_3, e_4, e_5⟩ := tu6 hf
    subst e_0; subst e_1; subst e_2; subst e_3; subst e_4; subst e_5
    exact hret _ _ _ _ dX1_look_47 rfl hP hS
  · have hf := hb_f hf c_3
    refine lv_iload hx hb dX1_look_36 (lv_at hl 0 rfl) ?_
    refine lv_aload_n hx hb dX1_look_38 rfl (lv_at hl 1 rfl) ?_
    refine va_get (D := D) (ci := 1) (v := .ref a_t_memory) (C := RX1) (T := TX1) (N := 6) hx hb hts uX1_look_X1 hown hK.1.1 hP 0 rfl rfl 1 (by decide) (hts _ mX1_look_9) (fun _ h9 => h9) rfl dX1_look_39 ?_
    refine va_alen (v := nI n_t_memory) (ty := .int) hx hb hK.1.1 hP 2 0 rfl rfl rfl dX1_look_42 ?_
    refine lv_icmp_lt (tgt := 48) hx hb dX1_look_43 (by decide) (fun c_4 => ?_) (fun c_4 => ?_)
    · have hf := hb_t hf c_4
      refine lv_aload_n hx hb dX1_look_48 rfl (lv_at hl 1 rfl) ?_
      refine va_get (D := D) (ci := 1) (v := .ref a_t_memory) (C := RX1) (T := TX1) (N := 6) hx hb hts uX1_look_X1 hown hK.1.1 hP 0 rfl rfl 1 (by decide) (hts _ mX1_look_9) (fun _ h9 => h9) rfl dX1_look_49 ?_
      refine lv_iload hx hb dX1_look_52 (lv_at hl 0 rfl) ?_
      obtain ⟨hg_5, hf⟩ := hb_g hf
      refine va_iald hx hb hK.1.1 hP 2 0 rfl rfl (ixb_in hg_5) dX1_look_54 ?_
      refine lv_bipush (v := 16) hx hb dX1_look_55 (by decide) ?_
      refine lv_iushr (v := ((f_t_memory ((((((2 - 1) * 2) + p2) * i_t_letters_size) + p1) : Int32).toNatClampNeg).toUInt32 >>> ((16 : Int32).toUInt32 &&& Int32.toUInt32 31)).toInt32) hx hb dX1_look_57 rfl ?_
      refine lv_aload_n hx hb dX1_look_58 rfl (lv_at hl 1 rfl) ?_
      refine va_get (D := D) (ci := 1) (v := .int i_t_stamp) (C := RX1) (T := TX1) (N := 6) hx hb hts uX1_look_X1 hown hK.1.1 hP 0 rfl rfl 5 (by decide) (hts _ mX1_look_36) (fun _ h9 => h9) rfl dX1_look_59 ?_
      refine lv_icmp_ne (tgt := 76) hx hb dX1_look_62 (by decide) (fun c_6 => ?_) (fun c_6 => ?_)
      · have hf := hb_f hf c_6
        refine lv_iload_n hx hb dX1_look_76 rfl (lv_at hl 2 rfl) ?_
        refine lv_istore (lv' := [(5, .int p1), (4, .int (((((2 - 1) * 2) + p2) * i_t_letters_size) + p1)), (0, .ref a_t), (1, .int p1), (2, .int p2), (3, .int 2)]) hx hb dX1_look_77 hl (by decide) rfl (fun ls hl => ?_)
        refine lv_aload_n hx hb dX1_look_79 rfl (lv_at hl 2 rfl) ?_
        refine va_get (D := D) (ci := 1) (v := .ref a_t_letters) (C := RX1) (T := TX1) (N := 6) hx hb hts uX1_look_X1 hown hK.1.1 hP 0 rfl rfl 0 (by decide) (hts _ mX1_look_21) (fun _ h9 => h9) rfl dX1_look_80 ?_
        refine lv_iload_n hx hb dX1_look_83 rfl (lv_at hl 4 rfl) ?_
        refine lv_iload_n hx hb dX1_look_84 rfl (lv_at hl 3 rfl) ?_
        obtain ⟨r_7, hc_8, hf⟩ := hb_b hf
        refine cl_Vi (rest := []) [1, 3, 4] 1 C0 hK hP hD hS hA (c_X3_worthTo l D cy a_t_letters a_t_letters_worthToOther a_t_letters_worthToOne (.ref a_t_letters_tongue) o_t_letters_tongues o_t_letters_standing (.ref a_t_letters_sense) i_t_letters_size n_t_letters_worthToOther f_t_letters_worthToOther n_t_letters_worthToOne f_t_letters_worthToOne p2 p1 r_7 hc_8) (cwV 2 hts gX1_look_X3_worthTo rfl rfl rfl (by decide +kernel) ⟨Nat.le_of_ble_eq_true rfl, Nat.le_of_ble_eq_true rfl⟩) rfl rfl rfl rfl rfl rfl rfl hl.1 rfl (Nat.le_of_ble_eq_true rfl) dX1_look_85 ⟨Nat.zero_le _, Nat.zero_le _⟩ (fun H locs hP hD hS => ?_)
        have hP : va_P D vwCl [(a_t, .inr (1, [.ref a_t_letters, .ref a_t_memory, .ref a_t_rows, .int i_t_law, .int i_t_nonsense, .int i_t_stamp])), (a_t_letters, .inr (3, [.ref a_t_letters_tongue, o_t_letters_tongues, .int i_t_letters_size, o_t_letters_standing, .ref a_t_letters_sense, .ref a_t_letters_worthToOne, .ref a_t_letters_worthToOther])), (a_t_memory, .inl (cy 0, n_t_memory, .inl f_t_memory)), (a_t_letters_worthToOther, .inl (cy 0, n_t_letters_worthToOther, .inl f_t_letters_worthToOther)), (a_t_letters_worthToOne, .inl (cy 0, n_t_letters_worthToOne, .inl f_t_letters_worthToOne)), (a_t_rows, .inl (cy 5, 9, .inr (.inr (.inr (.inr (rfL [x_t_rows0, a_t_rows1, a_t_rows2, x_t_rows3, x_t_rows4, x_t_rows5, x_t_rows6, x_t_rows7, x_t_rows8])))))), (a_t_rows2, .inr (6, [.ref a_t_rows2_letters, .int i_t_rows2_count])), (a_t_letters_tongue, .inr (7, [.int i_t_letters_tongue_length, .int i_t_letters_tongue_words, o_t_letters_tongue_frames, o_t_letters_tongue_pairs, o_t_letters_tongue_kinds, o_t_letters_tongue_worths, o_t_letters_tongue_framed, o_t_letters_tongue_paired, o_t_letters_tongue_pairWorths, .ref a_t_letters_tongue_scales])), (a_t_letters_tongue_scales, .inl (cy 0, 5, .inl f_t_letters_tongue_scales)), (a_t_rows2_letters, .inl (cy 0, n_t_rows2_letters, .inl f_t_rows2_letters)), (a_t_letters_sense, .inl (cy 1, n_t_letters_sense, .inl f_t_letters_sense)), (a_t_rows1, .inr (6, [.ref a_t_rows1_letters, .int i_t_rows1_count])), (a_t_rows1_letters, .inl (cy 0, n_t_rows1_letters, .inl f_t_rows1_letters))] H := hP
        have hD : va_D A [(a_t, .inr (1, [.ref a_t_letters, .ref a_t_memory, .ref a_t_rows, .int i_t_law, .int i_t_nonsense, .int i_t_stamp])), (a_t_letters, .inr (3, [.ref a_t_letters_tongue, o_t_letters_tongues, .int i_t_letters_size, o_t_letters_standing, .ref a_t_letters_sense, .ref a_t_letters_worthToOne, .ref a_t_letters_worthToOther])), (a_t_memory, .inl (cy 0, n_t_memory, .inl f_t_memory)), (a_t_letters_worthToOther, .inl (cy 0, n_t_letters_worthToOther, .inl f_t_letters_worthToOther)), (a_t_letters_worthToOne, .inl (cy 0, n_t_letters_worthToOne, .inl f_t_letters_worthToOne)), (a_t_rows, .inl (cy 5, 9, .inr (.inr (.inr (.inr (rfL [x_t_rows0, a_t_rows1, a_t_rows2, x_t_rows3, x_t_rows4, x_t_rows5, x_t_rows6, x_t_rows7, x_t_rows8])))))), (a_t_rows2, .inr (6, [.ref a_t_rows2_letters, .int i_t_rows2_count])), (a_t_letters_tongue, .inr (7, [.int i_t_letters_tongue_length, .int i_t_letters_tongue_words, o_t_letters_tongue_frames, o_t_letters_tongue_pairs, o_t_letters_tongue_kinds, o_t_letters_tongue_worths, o_t_letters_tongue_framed, o_t_letters_tongue_paired, o_t_letters_tongue_pairWorths, .ref a_t_letters_tongue_scales])), (a_t_letters_tongue_scales, .inl (cy 0, 5, .inl f_t_letters_tongue_scales)), (a_t_rows2_letters, .inl (cy 0, n_t_rows2_letters, .inl f_t_rows2_letters)), (a_t_letters_sense, .inl (cy 1, n_t_letters_sense, .inl f_t_letters_sense)), (a_t_rows1, .inr (6, [.ref a_t_rows1_letters, .int i_t_rows1_count])), (a_t_rows1_letters, .inl (cy 0, n_t_rows1_letters, .inl f_t_rows1_letters))] := hD
        refine lv_istore (lv' := [(6, .int r_7), (5, .int p1), (4, .int (((((2 - 1) * 2) + p2) * i_t_letters_size) + p1)), (0, .ref a_t), (1, .int p1), (2, .int p2), (3, .int 2)]) hx hb dX1_look_88 hl (by decide) rfl (fun ls hl => ?_)
        refine lv_aload_n hx hb dX1_look_90 rfl (lv_at hl 3 rfl) ?_
        refine va_get (D := D) (ci := 1) (v := .ref a_t_rows) (C := RX1) (T := TX1) (N := 6) hx hb hts uX1_look_X1 hown hK.1.1 hP 0 rfl rfl 2 (by decide) (hts _ mX1_look_17) (fun _ h9 => h9) rfl dX1_look_91 ?_
        refine lv_iload_n hx hb dX1_look_94 rfl (lv_at hl 6 rfl) ?_
        refine va_aldk (a1 := a_t_rows2) hx hb hK hP 5 5 rfl rfl (by decide) (by decide) rfl dX1_look_95 ?_
        refine lv_astore (lv' := [(7, .ref a_t_rows2), (6, .int r_7), (5, .int p1), (4, .int (((((2 - 1) * 2) + p2) * i_t_letters_size) + p1)), (0, .ref a_t), (1, .int p1), (2, .int p2), (3, .int 2)]) hx hb dX1_look_96 hl (by decide) rfl (fun ls hl => ?_)
        refine lv_aload_n hx hb dX1_look_98 rfl (lv_at hl 4 rfl) ?_
        refine va_get (D := D) (ci := 1) (v := .ref a_t_letters) (C := RX1) (T := TX1) (N := 6) hx hb hts uX1_look_X1 hown hK.1.1 hP 0 rfl rfl 0 (by decide) (hts _ mX1_look_21) (fun _ h9 => h9) rfl dX1_look_99 ?_
        refine lv_iload_n hx hb dX1_look_102 rfl (lv_at hl 5 rfl) ?_
        refine lv_aload_n hx hb dX1_look_103 rfl (lv_at hl 4 rfl) ?_
        refine va_get (D := D) (ci := 1) (v := .int i_t_law) (C := RX1) (T := TX1) (N := 6) hx hb hts uX1_look_X1 hown hK.1.1 hP 0 rfl rfl 3 (by decide) (hts _ mX1_look_28) (fun _ h9 => h9) rfl dX1_look_104 ?_
        refine lv_aload_n hx hb dX1_look_107 rfl (lv_at hl 4 rfl) ?_
        refine va_get (D := D) (ci := 1) (v := .int i_t_nonsense) (C := RX1) (T := TX1) (N := 6) hx hb hts uX1_look_X1 hown hK.1.1 hP 0 rfl rfl 4 (by decide) (hts _ mX1_look_32) (fun _ h9 => h9) rfl dX1_look_108 ?_
        refine lv_aload hx hb dX1_look_111 (lv_at hl 0 rfl) ?_
        obtain ⟨⟨z_9, z_10⟩, hc_11, hf⟩ := hb_b hf
        refine cl_Vv (rest := []) [1, 6, 7, 8, 9, 10] 1 C0 hK hP hD hS hA (c_X3_listChanges l D cy a_t_letters a_t_rows2 a_t_letters_tongue a_t_letters_tongue_scales a_t_rows2_letters a_t_letters_sense o_t_letters_tongues o_t_letters_standing (.ref a_t_letters_worthToOne) (.ref a_t_letters_worthToOther) o_t_letters_tongue_frames o_t_letters_tongue_pairs o_t_letters_tongue_kinds o_t_letters_tongue_worths o_t_letters_tongue_framed o_t_letters_tongue_paired o_t_letters_tongue_pairWorths i_t_letters_size i_t_letters_tongue_length i_t_letters_tongue_words f_t_letters_tongue_scales n_t_rows2_letters n_t_letters_sense f_t_letters_sense i_t_rows2_count f_t_rows2_letters p1 i_t_law i_t_nonsense z_9 z_10 hc_11) (cwV 4 hts gX1_look_X3_listChanges rfl rfl rfl (by decide +kernel) ⟨Nat.le_of_ble_eq_true rfl, Nat.le_of_ble_eq_true rfl⟩) rfl rfl rfl rfl rfl rfl rfl hl.1 rfl (Nat.le_of_ble_eq_true rfl) dX1_look_113 ⟨Nat.zero_le _, Nat.zero_le _⟩ (fun H locs hP hD hS => ?_)
        have hP : va_P D vwCl [(a_t, .inr (1, [.ref a_t_letters, .ref a_t_memory, .ref a_t_rows, .int i_t_law, .int i_t_nonsense, .int i_t_stamp])), (a_t_letters, .inr (3, [.ref a_t_letters_tongue, o_t_letters_tongues, .int i_t_letters_size, o_t_letters_standing, .ref a_t_letters_sense, .ref a_t_letters_worthToOne, .ref a_t_letters_worthToOther])), (a_t_memory, .inl (cy 0, n_t_memory, .inl f_t_memory)), (a_t_letters_worthToOther, .inl (cy 0, n_t_letters_worthToOther, .inl f_t_letters_worthToOther)), (a_t_letters_worthToOne, .inl (cy 0, n_t_letters_worthToOne, .inl f_t_letters_worthToOne)), (a_t_rows, .inl (cy 5, 9, .inr (.inr (.inr (.inr (rfL [x_t_rows0, a_t_rows1, a_t_rows2, x_t_rows3, x_t_rows4, x_t_rows5, x_t_rows6, x_t_rows7, x_t_rows8])))))), (a_t_rows2, .inr (6, [.ref a_t_rows2_letters, .int z_9])), (a_t_letters_tongue, .inr (7, [.int i_t_letters_tongue_length, .int i_t_letters_tongue_words, o_t_letters_tongue_frames, o_t_letters_tongue_pairs, o_t_letters_tongue_kinds, o_t_letters_tongue_worths, o_t_letters_tongue_framed, o_t_letters_tongue_paired, o_t_letters_tongue_pairWorths, .ref a_t_letters_tongue_scales])), (a_t_letters_tongue_scales, .inl (cy 0, 5, .inl f_t_letters_tongue_scales)), (a_t_rows2_letters, .inl (cy 0, n_t_rows2_letters, .inl z_10)), (a_t_letters_sense, .inl (cy 1, n_t_letters_sense, .inl f_t_letters_sense)), (a_t_rows1, .inr (6, [.ref a_t_rows1_letters, .int i_t_rows1_count])), (a_t_rows1_letters, .inl (cy 0, n_t_rows1_letters, .inl f_t_rows1_letters))] H := hP
        have hD : va_D A [(a_t, .inr (1, [.ref a_t_letters, .ref a_t_memory, .ref a_t_rows, .int i_t_law, .int i_t_nonsense, .int i_t_stamp])), (a_t_letters, .inr (3, [.ref a_t_letters_tongue, o_t_letters_tongues, .int i_t_letters_size, o_t_letters_standing, .ref a_t_letters_sense, .ref a_t_letters_worthToOne, .ref a_t_letters_worthToOther])), (a_t_memory, .inl (cy 0, n_t_memory, .inl f_t_memory)), (a_t_letters_worthToOther, .inl (cy 0, n_t_letters_worthToOther, .inl f_t_letters_worthToOther)), (a_t_letters_worthToOne, .inl (cy 0, n_t_letters_worthToOne, .inl f_t_letters_worthToOne)), (a_t_rows, .inl (cy 5, 9, .inr (.inr (.inr (.inr (rfL [x_t_rows0, a_t_rows1, a_t_rows2, x_t_rows3, x_t_rows4, x_t_rows5, x_t_rows6, x_t_rows7, x_t_rows8])))))), (a_t_rows2, .inr (6, [.ref a_t_rows2_letters, .int z_9])), (a_t_letters_tongue, .inr (7, [.int i_t_letters_tongue_length, .int i_t_letters_tongue_words, o_t_letters_tongue_frames, o_t_letters_tongue_pairs, o_t_letters_tongue_kinds, o_t_letters_tongue_worths, o_t_letters_tongue_framed, o_t_letters_tongue_paired, o_t_letters_tongue_pairWorths, .ref a_t_letters_tongue_scales])), (a_t_letters_tongue_scales, .inl (cy 0, 5, .inl f_t_letters_tongue_scales)), (a_t_rows2_letters, .inl (cy 0, n_t_rows2_letters, .inl z_10)), (a_t_letters_sense, .inl (cy 1, n_t_letters_sense, .inl f_t_letters_sense)), (a_t_rows1, .inr (6, [.ref a_t_rows1_letters, .int i_t_rows1_count])), (a_t_rows1_letters, .inl (cy 0, n_t_rows1_letters, .inl f_t_rows1_letters))] := hD
        refine lv_iconst (v := 0) hx hb dX1_look_116 (by decide) ?_
        refine lv_istore (lv' := [(8, .int 0), (7, .ref a_t_rows2), (6, .int r_7), (5, .int p1), (4, .int (((((2 - 1) * 2) + p2) * i_t_letters_size) + p1)), (0, .ref a_t), (1, .int p1), (2, .int p2), (3, .int 2)]) hx hb dX1_look_117 hl (by decide) rfl (fun ls hl => ?_)
        refine L_X1_look_s2_119 l D cy a_t a_t_letters a_t_memory a_t_letters_worthToOther a_t_letters_worthToOne a_t_rows x_t_rows0 x_t_rows3 x_t_rows4 x_t_rows5 x_t_rows6 x_t_rows7 x_t_rows8 a_t_rows2 a_t_letters_tongue a_t_letters_tongue_scales a_t_rows2_letters a_t_letters_sense a_t_rows1 a_t_rows1_letters o_t_letters_tongues o_t_letters_standing o_t_letters_tongue_frames o_t_letters_tongue_pairs o_t_letters_tongue_kinds o_t_letters_tongue_worths o_t_letters_tongue_framed o_t_letters_tongue_paired o_t_letters_tongue_pairWorths i_t_law i_t_nonsense i_t_stamp i_t_letters_size n_t_memory n_t_letters_worthToOther f_t_letters_worthToOther n_t_letters_worthToOne f_t_letters_worthToOne i_t_letters_tongue_length i_t_letters_tongue_words f_t_letters_tongue_scales n_t_rows2_letters n_t_letters_sense f_t_letters_sense n_t_rows1_letters rv z_f_t_memory z_i_t_rows2_count z_f_t_rows2_letters z_i_t_rows1_count z_f_t_rows1_letters C0 hA hK hret  FU p2 (((((2 - 1) * 2) + p2) * i_t_letters_size) + p1) p1 r_7 0 f_t_memory z_9 z_10 i_t_rows1_count f_t_rows1_letters hf _ _ hP hD hS _ (lv_sub hl [5, 7, 8, 4, 3, 2, 1, 0] rfl)
      · have hf := hb_t hf c_6
        refine lv_aload_n hx hb dX1_look_65 rfl (lv_at hl 1 rfl) ?_
        refine va_get (D := D) (ci := 1) (v := .ref a_t_memory) (C := RX1) (T := TX1) (N := 6) hx hb hts uX1_look_X1 hown hK.1.1 hP 0 rfl rfl 1 (by decide) (hts _ mX1_look_9) (fun _ h9 => h9) rfl dX1_look_66 ?_
        refine lv_iload hx hb dX1_look_69 (lv_at hl 0 rfl) ?_
        obtain ⟨hg_24, hf⟩ := hb_g hf
        refine va_iald hx hb hK.1.1 hP 2 0 rfl rfl (ixb_in hg_24) dX1_look_71 ?_
        refine lv_ldc (v := 65535) hx hb hown (hts _ mX1_look_44) dX1_look_72 ?_
        refine lv_iand hx hb dX1_look_74 ?_
        obtain ⟨e_0, e_1, e_2, e_3, e_4, e_5⟩ := tu6 hf
        subst e_0; subst e_1; subst e_2; subst e_3; subst e_4; subst e_5
        exact hret _ _ _ _ dX1_look_75 rfl hP hS
    · have hf := hb_f hf c_4
      refine lv_iload_n hx hb dX1_look_46 rfl (lv_at hl 2 rfl) ?_
      obtain ⟨e_0, e_1, e_2, e_3, e_4, e_5⟩ := tu6 hf
      subst e_0; subst e_1; subst e_2; subst e_3; subst e_4; subst e_5
      exact hret _ _ _ _ dX1_look_47 rfl hP hS
