theorem uX5_readPair_X7 : ∀ w ∈ wsX70, w ∈ wsX5_readPair := fun _ h => List.mem_cons_of_mem _ (List.mem_append_left _ (List.mem_append_right _ h))
theorem mX5_readPair_26 : Cond.fieldLink RX5 26 "OneWordLetters$Reader" "faultNumber" "I" ∈ wsX5_readPair := by decide +kernel
theorem uX5_readPair_X5 : ∀ w ∈ wsX50, w ∈ wsX5_readPair := fun _ h => List.mem_cons_of_mem _ (List.mem_append_right _ h)
abbrev rmX5_readPair : Room := { frames := 2, cells := 0, slots := 0, locals := 46 }
set_option maxRecDepth 100000 in
set_option maxHeartbeats 4000000 in
theorem c_X5_readPair (l : Launch) (D : va_G) (cy : Nat → ClassId) (a_t : Nat) (a_p1 : Nat) (a_t_text : Nat) (a_p1_paired : Nat) (a_p1_pairWorths : Nat) (a_p1_pairWorths0 : Nat) (a_p1_pairWorths1 : Nat) (o_p1_length : Value) (o_p1_frames : Value) (o_p1_kinds : Value) (o_p1_worths : Value) (o_p1_framed : Value) (o_p1_scales : Value) (i_t_length : Int32) (i_p1_words : Int32) (f_t_text : Nat → Int32) (i_t_place : Int32) (i_t_start : Int32) (i_t_faultNumber : Int32) (i_t_faultByte : Int32) (i_p1_pairs : Int32) (f_p1_paired : Nat → Int32) (f_p1_pairWorths0 : Nat → Int32) (f_p1_pairWorths1 : Nat → Int32) (z_i_t_place : Int32) (z_i_t_start : Int32) (z_i_t_faultNumber : Int32) (z_i_t_faultByte : Int32) (z_i_p1_pairs : Int32) (z_f_p1_paired : Nat → Int32) (z_f_p1_pairWorths0 : Nat → Int32) (z_f_p1_pairWorths1 : Nat → Int32) (hf : f_X5_readPair i_t_length i_p1_words f_t_text i_t_place i_t_start i_t_faultNumber i_t_faultByte i_p1_pairs f_p1_paired f_p1_pairWorths0 f_p1_pairWorths1 = some (z_i_t_place, z_i_t_start, z_i_t_faultNumber, z_i_t_faultByte, z_i_p1_pairs, z_f_p1_paired, z_f_p1_pairWorths0, z_f_p1_pairWorths1)) : MV l D cy yX5_readPair wsX5_readPair rmX5_readPair [.ref a_t, .ref a_p1] [(a_t, .inr (5, [.ref a_t_text, .int i_t_length, .int i_t_place, .int i_t_start, .int i_t_faultNumber, .int i_t_faultByte])), (a_p1, .inr (7, [o_p1_length, .int i_p1_words, o_p1_frames, .int i_p1_pairs, o_p1_kinds, o_p1_worths, o_p1_framed, .ref a_p1_paired, .ref a_p1_pairWorths, o_p1_scales])), (a_t_text, .inl (cy 1, 500, .inl f_t_text)), (a_p1_paired, .inl (cy 0, 64, .inl f_p1_paired)), (a_p1_pairWorths, .inl (cy 6, 2, .inr (.inr (.inr (.inr (rfL [a_p1_pairWorths0, a_p1_pairWorths1])))))), (a_p1_pairWorths0, .inl (cy 0, 64, .inl f_p1_pairWorths0)), (a_p1_pairWorths1, .inl (cy 0, 64, .inl f_p1_pairWorths1))] [(a_t, .inr (5, [.ref a_t_text, .int i_t_length, .int z_i_t_place, .int z_i_t_start, .int z_i_t_faultNumber, .int z_i_t_faultByte])), (a_p1, .inr (7, [o_p1_length, .int i_p1_words, o_p1_frames, .int z_i_p1_pairs, o_p1_kinds, o_p1_worths, o_p1_framed, .ref a_p1_paired, .ref a_p1_pairWorths, o_p1_scales])), (a_t_text, .inl (cy 1, 500, .inl f_t_text)), (a_p1_paired, .inl (cy 0, 64, .inl z_f_p1_paired)), (a_p1_pairWorths, .inl (cy 6, 2, .inr (.inr (.inr (.inr (rfL [a_p1_pairWorths0, a_p1_pairWorths1])))))), (a_p1_pairWorths0, .inl (cy 0, 64, .inl z_f_p1_pairWorths0)), (a_p1_pairWorths1, .inl (cy 0, 64, .inl z_f_p1_pairWorths1))] := by
  refine st_V (by decide) rfl (Nat.le_of_ble_eq_true rfl) (fun p e s m below meth c A Q ls C0 hA hK hP hD hS hl hret => ?_)
  obtain ⟨hx, hb, hr, hml, hown, hts, hlocks⟩ := id C0
  have hl : lv_has ls 6 [(0, .ref a_t), (1, .ref a_p1)] := hl
  unfold f_X5_readPair at hf
  refine lv_aload_n hx hb dX5_readPair_0 rfl (lv_at hl 1 rfl) ?_
  refine va_getN (D := D) (ci := 7) (v := .int i_p1_pairs) (C := RX7) (T := TX7) (N := 10) hx hb hts uX5_readPair_X7 hown hK.1.1 hP 1 rfl rfl 3 (by decide) (hK.1.nw _ nw_11) (fun _ h9 => h9) rfl dX5_readPair_1 ?_
  refine lv_bipush (v := 12) hx hb dX5_readPair_4 (by decide) ?_
  refine lv_icmp_lt (tgt := 14) hx hb dX5_readPair_6 (by decide) (fun c_1 => ?_) (fun c_1 => ?_)
  · have hf := hb_t hf c_1
    refine lv_aload_n hx hb dX5_readPair_14 rfl (lv_at hl 0 rfl) ?_
    refine lv_iconst (v := 0) hx hb dX5_readPair_15 (by decide) ?_
    refine lv_aload_n hx hb dX5_readPair_16 rfl (lv_at hl 1 rfl) ?_
    refine va_getN (D := D) (ci := 7) (v := .int i_p1_words) (C := RX7) (T := TX7) (N := 10) hx hb hts uX5_readPair_X7 hown hK.1.1 hP 1 rfl rfl 1 (by decide) (hK.1.nw _ nw_6) (fun _ h9 => h9) rfl dX5_readPair_17 ?_
    refine lv_iconst (v := 1) hx hb dX5_readPair_20 (by decide) ?_
    refine lv_isub hx hb dX5_readPair_21 ?_
    obtain ⟨⟨r_2, z_3, z_4, z_5, z_6⟩, hc_7, hf⟩ := hb_b hf
    refine cl_Vi (rest := []) [0, 2] [some 0, none, some 1, none, none, none, none] 7 0 C0 hK hP hD hS hA (c_X5_nextNumber l D cy a_t a_t_text i_t_length f_t_text i_t_place i_t_start i_t_faultNumber i_t_faultByte 0 (i_p1_words - 1) r_2 z_3 z_4 z_5 z_6 hc_7) (cwV 2 hts gX5_readPair_X5_nextNumber rfl rfl rfl (by decide +kernel) ⟨Nat.le_of_ble_eq_true rfl, Nat.le_of_ble_eq_true rfl⟩) rfl (by decide) rfl rfl rfl rfl rfl rfl rfl hl.1 rfl (Nat.le_of_ble_eq_true rfl) dX5_readPair_22 ⟨Nat.zero_le _, Nat.zero_le _⟩ (fun H locs hP hD hS => ?_)
    have hP : va_P D vwCl [(a_t, .inr (5, [.ref a_t_text, .int i_t_length, .int z_3, .int z_4, .int z_5, .int z_6])), (a_p1, .inr (7, [o_p1_length, .int i_p1_words, o_p1_frames, .int i_p1_pairs, o_p1_kinds, o_p1_worths, o_p1_framed, .ref a_p1_paired, .ref a_p1_pairWorths, o_p1_scales])), (a_t_text, .inl (cy 1, 500, .inl f_t_text)), (a_p1_paired, .inl (cy 0, 64, .inl f_p1_paired)), (a_p1_pairWorths, .inl (cy 6, 2, .inr (.inr (.inr (.inr (rfL [a_p1_pairWorths0, a_p1_pairWorths1])))))), (a_p1_pairWorths0, .inl (cy 0, 64, .inl f_p1_pairWorths0)), (a_p1_pairWorths1, .inl (cy 0, 64, .inl f_p1_pairWorths1))] H := hP
    have hD : va_D A [(a_t, .inr (5, [.ref a_t_text, .int i_t_length, .int z_3, .int z_4, .int z_5, .int z_6])), (a_p1, .inr (7, [o_p1_length, .int i_p1_words, o_p1_frames, .int i_p1_pairs, o_p1_kinds, o_p1_worths, o_p1_framed, .ref a_p1_paired, .ref a_p1_pairWorths, o_p1_scales])), (a_t_text, .inl (cy 1, 500, .inl f_t_text)), (a_p1_paired, .inl (cy 0, 64, .inl f_p1_paired)), (a_p1_pairWorths, .inl (cy 6, 2, .inr (.inr (.inr (.inr (rfL [a_p1_pairWorths0, a_p1_pairWorths1])))))), (a_p1_pairWorths0, .inl (cy 0, 64, .inl f_p1_pairWorths0)), (a_p1_pairWorths1, .inl (cy 0, 64, .inl f_p1_pairWorths1))] := hD
    refine lv_istore_n (lv' := [(2, .int r_2), (0, .ref a_t), (1, .ref a_p1)]) hx hb dX5_readPair_25 rfl hl (by decide) rfl (fun ls hl => ?_)
    refine lv_aload_n hx hb dX5_readPair_26 rfl (lv_at hl 1 rfl) ?_
    refine lv_iconst (v := 0) hx hb dX5_readPair_27 (by decide) ?_
    refine lv_aload_n hx hb dX5_readPair_28 rfl (lv_at hl 2 rfl) ?_
    refine va_getN (D := D) (ci := 7) (v := .int i_p1_words) (C := RX7) (T := TX7) (N := 10) hx hb hts uX5_readPair_X7 hown hK.1.1 hP 1 rfl rfl 1 (by decide) (hK.1.nw _ nw_6) (fun _ h9 => h9) rfl dX5_readPair_29 ?_
    refine lv_iconst (v := 1) hx hb dX5_readPair_32 (by decide) ?_
    refine lv_isub hx hb dX5_readPair_33 ?_
    obtain ⟨⟨r_8, z_9, z_10, z_11, z_12⟩, hc_13, hf⟩ := hb_b hf
    refine cl_Vi (rest := []) [0, 2] [some 0, none, some 1, none, none, none, none] 7 0 C0 hK hP hD hS hA (c_X5_nextNumber l D cy a_t a_t_text i_t_length f_t_text z_3 z_4 z_5 z_6 0 (i_p1_words - 1) r_8 z_9 z_10 z_11 z_12 hc_13) (cwV 2 hts gX5_readPair_X5_nextNumber rfl rfl rfl (by decide +kernel) ⟨Nat.le_of_ble_eq_true rfl, Nat.le_of_ble_eq_true rfl⟩) rfl (by decide) rfl rfl rfl rfl rfl rfl rfl hl.1 rfl (Nat.le_of_ble_eq_true rfl) dX5_readPair_34 ⟨Nat.zero_le _, Nat.zero_le _⟩ (fun H locs hP hD hS => ?_)
    have hP : va_P D vwCl [(a_t, .inr (5, [.ref a_t_text, .int i_t_length, .int z_9, .int z_10, .int z_11, .int z_12])), (a_p1, .inr (7, [o_p1_length, .int i_p1_words, o_p1_frames, .int i_p1_pairs, o_p1_kinds, o_p1_worths, o_p1_framed, .ref a_p1_paired, .ref a_p1_pairWorths, o_p1_scales])), (a_t_text, .inl (cy 1, 500, .inl f_t_text)), (a_p1_paired, .inl (cy 0, 64, .inl f_p1_paired)), (a_p1_pairWorths, .inl (cy 6, 2, .inr (.inr (.inr (.inr (rfL [a_p1_pairWorths0, a_p1_pairWorths1])))))), (a_p1_pairWorths0, .inl (cy 0, 64, .inl f_p1_pairWorths0)), (a_p1_pairWorths1, .inl (cy 0, 64, .inl f_p1_pairWorths1))] H := hP
    have hD : va_D A [(a_t, .inr (5, [.ref a_t_text, .int i_t_length, .int z_9, .int z_10, .int z_11, .int z_12])), (a_p1, .inr (7, [o_p1_length, .int i_p1_words, o_p1_frames, .int i_p1_pairs, o_p1_kinds, o_p1_worths, o_p1_framed, .ref a_p1_paired, .ref a_p1_pairWorths, o_p1_scales])), (a_t_text, .inl (cy 1, 500, .inl f_t_text)), (a_p1_paired, .inl (cy 0, 64, .inl f_p1_paired)), (a_p1_pairWorths, .inl (cy 6, 2, .inr (.inr (.inr (.inr (rfL [a_p1_pairWorths0, a_p1_pairWorths1])))))), (a_p1_pairWorths0, .inl (cy 0, 64, .inl f_p1_pairWorths0)), (a_p1_pairWorths1, .inl (cy 0, 64, .inl f_p1_pairWorths1))] := hD
    refine lv_istore_n (lv' := [(3, .int r_8), (2, .int r_2), (0, .ref a_t), (1, .ref a_p1)]) hx hb dX5_readPair_37 rfl hl (by decide) rfl (fun ls hl => ?_)
    refine lv_aload_n hx hb dX5_readPair_38 rfl (lv_at hl 2 rfl) ?_
    refine va_get (D := D) (ci := 5) (v := .int z_11) (C := RX5) (T := TX5) (N := 6) hx hb hts uX5_readPair_X5 hown hK.1.1 hP 0 rfl rfl 4 (by decide) (hts _ mX5_readPair_26) (fun _ h9 => h9) rfl dX5_readPair_39 ?_
    refine lv_if_ne (tgt := 59) hx hb dX5_readPair_42 (by decide) (fun c_14 => ?_) (fun c_14 => ?_)
    · have hf := hb_f hf c_14
      refine lv_aload_n hx hb dX5_readPair_59 rfl (lv_at hl 2 rfl) ?_
      refine lv_iconst (v := 0) hx hb dX5_readPair_60 (by decide) ?_
      refine lv_bipush (v := 99) hx hb dX5_readPair_61 (by decide) ?_
      obtain ⟨⟨r_15, z_16, z_17, z_18, z_19⟩, hc_20, hf⟩ := hb_b hf
      refine cl_Vi (rest := []) [0, 2] [some 0, none, some 1, none, none, none, none] 7 0 C0 hK hP hD hS hA (c_X5_nextNumber l D cy a_t a_t_text i_t_length f_t_text z_9 z_10 z_11 z_12 0 99 r_15 z_16 z_17 z_18 z_19 hc_20) (cwV 2 hts gX5_readPair_X5_nextNumber rfl rfl rfl (by decide +kernel) ⟨Nat.le_of_ble_eq_true rfl, Nat.le_of_ble_eq_true rfl⟩) rfl (by decide) rfl rfl rfl rfl rfl rfl rfl hl.1 rfl (Nat.le_of_ble_eq_true rfl) dX5_readPair_63 ⟨Nat.zero_le _, Nat.zero_le _⟩ (fun H locs hP hD hS => ?_)
      have hP : va_P D vwCl [(a_t, .inr (5, [.ref a_t_text, .int i_t_length, .int z_16, .int z_17, .int z_18, .int z_19])), (a_p1, .inr (7, [o_p1_length, .int i_p1_words, o_p1_frames, .int i_p1_pairs, o_p1_kinds, o_p1_worths, o_p1_framed, .ref a_p1_paired, .ref a_p1_pairWorths, o_p1_scales])), (a_t_text, .inl (cy 1, 500, .inl f_t_text)), (a_p1_paired, .inl (cy 0, 64, .inl f_p1_paired)), (a_p1_pairWorths, .inl (cy 6, 2, .inr (.inr (.inr (.inr (rfL [a_p1_pairWorths0, a_p1_pairWorths1])))))), (a_p1_pairWorths0, .inl (cy 0, 64, .inl f_p1_pairWorths0)), (a_p1_pairWorths1, .inl (cy 0, 64, .inl f_p1_pairWorths1))] H := hP
      have hD : va_D A [(a_t, .inr (5, [.ref a_t_text, .int i_t_length, .int z_16, .int z_17, .int z_18, .int z_19])), (a_p1, .inr (7, [o_p1_length, .int i_p1_words, o_p1_frames, .int i_p1_pairs, o_p1_kinds, o_p1_worths, o_p1_framed, .ref a_p1_paired, .ref a_p1_pairWorths, o_p1_scales])), (a_t_text, .inl (cy 1, 500, .inl f_t_text)), (a_p1_paired, .inl (cy 0, 64, .inl f_p1_paired)), (a_p1_pairWorths, .inl (cy 6, 2, .inr (.inr (.inr (.inr (rfL [a_p1_pairWorths0, a_p1_pairWorths1])))))), (a_p1_pairWorths0, .inl (cy 0, 64, .inl f_p1_pairWorths0)), (a_p1_pairWorths1, .inl (cy 0, 64, .inl f_p1_pairWorths1))] := hD
      refine lv_bipush (v := 50) hx hb dX5_readPair_66 (by decide) ?_
      refine lv_isub hx hb dX5_readPair_68 ?_
      refine lv_istore (lv' := [(4, .int (r_15 - 50)), (3, .int r_8), (2, .int r_2), (0, .ref a_t), (1, .ref a_p1)]) hx hb dX5_readPair_69 hl (by decide) rfl (fun ls hl => ?_)
      refine lv_aload_n hx hb dX5_readPair_71 rfl (lv_at hl 3 rfl) ?_
      refine lv_iconst (v := 0) hx hb dX5_readPair_72 (by decide) ?_
      refine lv_bipush (v := 99) hx hb dX5_readPair_73 (by decide) ?_
      obtain ⟨⟨r_21, z_22, z_23, z_24, z_25⟩, hc_26, hf⟩ := hb_b hf
      refine cl_Vi (rest := []) [0, 2] [some 0, none, some 1, none, none, none, none] 7 0 C0 hK hP hD hS hA (c_X5_nextNumber l D cy a_t a_t_text i_t_length f_t_text z_16 z_17 z_18 z_19 0 99 r_21 z_22 z_23 z_24 z_25 hc_26) (cwV 2 hts gX5_readPair_X5_nextNumber rfl rfl rfl (by decide +kernel) ⟨Nat.le_of_ble_eq_true rfl, Nat.le_of_ble_eq_true rfl⟩) rfl (by decide) rfl rfl rfl rfl rfl rfl rfl hl.1 rfl (Nat.le_of_ble_eq_true rfl) dX5_readPair_75 ⟨Nat.zero_le _, Nat.zero_le _⟩ (fun H locs hP hD hS => ?_)
      have hP : va_P D vwCl [(a_t, .inr (5, [.ref a_t_text, .int i_t_length, .int z_22, .int z_23, .int z_24, .int z_25])), (a_p1, .inr (7, [o_p1_length, .int i_p1_words, o_p1_frames, .int i_p1_pairs, o_p1_kinds, o_p1_worths, o_p1_framed, .ref a_p1_paired, .ref a_p1_pairWorths, o_p1_scales])), (a_t_text, .inl (cy 1, 500, .inl f_t_text)), (a_p1_paired, .inl (cy 0, 64, .inl f_p1_paired)), (a_p1_pairWorths, .inl (cy 6, 2, .inr (.inr (.inr (.inr (rfL [a_p1_pairWorths0, a_p1_pairWorths1])))))), (a_p1_pairWorths0, .inl (cy 0, 64, .inl f_p1_pairWorths0)), (a_p1_pairWorths1, .inl (cy 0, 64, .inl f_p1_pairWorths1))] H := hP
      have hD : va_D A [(a_t, .inr (5, [.ref a_t_text, .int i_t_length, .int z_22, .int z_23, .int z_24, .int z_25])), (a_p1, .inr (7, [o_p1_length, .int i_p1_words, o_p1_frames, .int i_p1_pairs, o_p1_kinds, o_p1_worths, o_p1_framed, .ref a_p1_paired, .ref a_p1_pairWorths, o_p1_scales])), (a_t_text, .inl (cy 1, 500, .inl f_t_text)), (a_p1_paired, .inl (cy 0, 64, .inl f_p1_paired)), (a_p1_pairWorths, .inl (cy 6, 2, .inr (.inr (.inr (.inr (rfL [a_p1_pairWorths0, a_p1_pairWorths1])))))), (a_p1_pairWorths0, .inl (cy 0, 64, .inl f_p1_pairWorths0)), (a_p1_pairWorths1, .inl (cy 0, 64, .inl f_p1_pairWorths1))] := hD
      refine lv_bipush (v := 50) hx hb dX5_readPair_78 (by decide) ?_
      refine lv_isub hx hb dX5_readPair_80 ?_
      refine lv_istore (lv' := [(5, .int (r_21 - 50)), (4, .int (r_15 - 50)), (3, .int r_8), (2, .int r_2), (0, .ref a_t), (1, .ref a_p1)]) hx hb dX5_readPair_81 hl (by decide) rfl (fun ls hl => ?_)
      refine lv_aload_n hx hb dX5_readPair_83 rfl (lv_at hl 4 rfl) ?_
      refine lv_bipush (v := 59) hx hb dX5_readPair_84 (by decide) ?_
      obtain ⟨⟨z_27, z_28, z_29, z_30⟩, hc_31, hf⟩ := hb_b hf
      refine cl_Vv (rest := []) [0, 2] [some 0, none, some 1, none, none, none, none] 7 0 C0 hK hP hD hS hA (c_X5_nextSign l D cy a_t a_t_text i_t_length f_t_text z_22 z_23 z_24 z_25 59 z_27 z_28 z_29 z_30 hc_31) (cwV 1 hts gX5_readPair_X5_nextSign rfl rfl rfl (by decide +kernel) ⟨Nat.le_of_ble_eq_true rfl, Nat.le_of_ble_eq_true rfl⟩) rfl (by decide) rfl rfl rfl rfl rfl rfl rfl hl.1 rfl (Nat.le_of_ble_eq_true rfl) dX5_readPair_86 ⟨Nat.zero_le _, Nat.zero_le _⟩ (fun H locs hP hD hS => ?_)
      have hP : va_P D vwCl [(a_t, .inr (5, [.ref a_t_text, .int i_t_length, .int z_27, .int z_28, .int z_29, .int z_30])), (a_p1, .inr (7, [o_p1_length, .int i_p1_words, o_p1_frames, .int i_p1_pairs, o_p1_kinds, o_p1_worths, o_p1_framed, .ref a_p1_paired, .ref a_p1_pairWorths, o_p1_scales])), (a_t_text, .inl (cy 1, 500, .inl f_t_text)), (a_p1_paired, .inl (cy 0, 64, .inl f_p1_paired)), (a_p1_pairWorths, .inl (cy 6, 2, .inr (.inr (.inr (.inr (rfL [a_p1_pairWorths0, a_p1_pairWorths1])))))), (a_p1_pairWorths0, .inl (cy 0, 64, .inl f_p1_pairWorths0)), (a_p1_pairWorths1, .inl (cy 0, 64, .inl f_p1_pairWorths1))] H := hP
      have hD : va_D A [(a_t, .inr (5, [.ref a_t_text, .int i_t_length, .int z_27, .int z_28, .int z_29, .int z_30])), (a_p1, .inr (7, [o_p1_length, .int i_p1_words, o_p1_frames, .int i_p1_pairs, o_p1_kinds, o_p1_worths, o_p1_framed, .ref a_p1_paired, .ref a_p1_pairWorths, o_p1_scales])), (a_t_text, .inl (cy 1, 500, .inl f_t_text)), (a_p1_paired, .inl (cy 0, 64, .inl f_p1_paired)), (a_p1_pairWorths, .inl (cy 6, 2, .inr (.inr (.inr (.inr (rfL [a_p1_pairWorths0, a_p1_pairWorths1])))))), (a_p1_pairWorths0, .inl (cy 0, 64, .inl f_p1_pairWorths0)), (a_p1_pairWorths1, .inl (cy 0, 64, .inl f_p1_pairWorths1))] := hD
      refine lv_aload_n hx hb dX5_readPair_89 rfl (lv_at hl 4 rfl) ?_
      refine va_get (D := D) (ci := 5) (v := .int z_29) (C := RX5) (T := TX5) (N := 6) hx hb hts uX5_readPair_X5 hown hK.1.1 hP 0 rfl rfl 4 (by decide) (hts _ mX5_readPair_26) (fun _ h9 => h9) rfl dX5_readPair_90 ?_
      refine lv_if_ne (tgt := 106) hx hb dX5_readPair_93 (by decide) (fun c_32 => ?_) (fun c_32 => ?_)
      · have hf := hb_f hf c_32
        obtain ⟨e_0, e_1, e_2, e_3, e_4, e_5, e_6, e_7⟩ := tu8 hf
        subst e_0; subst e_1; subst e_2; subst e_3; subst e_4; subst e_5; subst e_6; subst e_7
        exact hret _ _ _ _ dX5_readPair_106 hP hS
      · have hf := hb_t hf c_32
        refine lv_aload_n hx hb dX5_readPair_96 rfl (lv_at hl 5 rfl) ?_
        refine lv_iload_n hx hb dX5_readPair_97 rfl (lv_at hl 3 rfl) ?_
        refine lv_iload_n hx hb dX5_readPair_98 rfl (lv_at hl 2 rfl) ?_
        refine lv_iload hx hb dX5_readPair_99 (lv_at hl 1 rfl) ?_
        refine lv_iload hx hb dX5_readPair_101 (lv_at hl 0 rfl) ?_
        obtain ⟨⟨z_33, z_34, z_35, z_36⟩, hc_37, hf⟩ := hb_b hf
        refine cl_Vv (rest := []) [1, 3, 4, 5, 6] [none, some 0, none, some 1, some 2, some 3, some 4] 7 1 C0 hK hP hD hS hA (c_X7_addPair l D cy a_p1 a_p1_paired a_p1_pairWorths a_p1_pairWorths0 a_p1_pairWorths1 o_p1_length (.int i_p1_words) o_p1_frames o_p1_kinds o_p1_worths o_p1_framed o_p1_scales i_p1_pairs f_p1_paired f_p1_pairWorths0 f_p1_pairWorths1 r_2 r_8 (r_15 - 50) (r_21 - 50) z_33 z_34 z_35 z_36 hc_37) (cwV 4 hts gX5_readPair_X7_addPair rfl rfl rfl (by decide +kernel) ⟨Nat.le_of_ble_eq_true rfl, Nat.le_of_ble_eq_true rfl⟩) rfl (by decide) rfl rfl rfl rfl rfl rfl rfl hl.1 rfl (Nat.le_of_ble_eq_true rfl) dX5_readPair_103 ⟨Nat.zero_le _, Nat.zero_le _⟩ (fun H locs hP hD hS => ?_)
        have hP : va_P D vwCl [(a_t, .inr (5, [.ref a_t_text, .int i_t_length, .int z_27, .int z_28, .int z_29, .int z_30])), (a_p1, .inr (7, [o_p1_length, .int i_p1_words, o_p1_frames, .int z_33, o_p1_kinds, o_p1_worths, o_p1_framed, .ref a_p1_paired, .ref a_p1_pairWorths, o_p1_scales])), (a_t_text, .inl (cy 1, 500, .inl f_t_text)), (a_p1_paired, .inl (cy 0, 64, .inl z_34)), (a_p1_pairWorths, .inl (cy 6, 2, .inr (.inr (.inr (.inr (rfL [a_p1_pairWorths0, a_p1_pairWorths1])))))), (a_p1_pairWorths0, .inl (cy 0, 64, .inl z_35)), (a_p1_pairWorths1, .inl (cy 0, 64, .inl z_36))] H := hP
        have hD : va_D A [(a_t, .inr (5, [.ref a_t_text, .int i_t_length, .int z_27, .int z_28, .int z_29, .int z_30])), (a_p1, .inr (7, [o_p1_length, .int i_p1_words, o_p1_frames, .int z_33, o_p1_kinds, o_p1_worths, o_p1_framed, .ref a_p1_paired, .ref a_p1_pairWorths, o_p1_scales])), (a_t_text, .inl (cy 1, 500, .inl f_t_text)), (a_p1_paired, .inl (cy 0, 64, .inl z_34)), (a_p1_pairWorths, .inl (cy 6, 2, .inr (.inr (.inr (.inr (rfL [a_p1_pairWorths0, a_p1_pairWorths1])))))), (a_p1_pairWorths0, .inl (cy 0, 64, .inl z_35)), (a_p1_pairWorths1, .inl (cy 0, 64, .inl z_36))] := hD
        obtain ⟨e_0, e_1, e_2, e_3, e_4, e_5, e_6, e_7⟩ := tu8 hf
        subst e_0; subst e_1; subst e_2; subst e_3; subst e_4; subst e_5; subst e_6; subst e_7
        exact hret _ _ _ _ dX5_readPair_106 hP hS
    · have hf := hb_t hf c_14
      refine lv_aload_n hx hb dX5_readPair_45 rfl (lv_at hl 3 rfl) ?_
      refine lv_iload_n hx hb dX5_readPair_46 rfl (lv_at hl 1 rfl) ?_
      refine lv_iload_n hx hb dX5_readPair_47 rfl (lv_at hl 0 rfl) ?_
      obtain ⟨r_38, hc_39, hf⟩ := hb_b hf
      refine cl_Vi (rest := []) [1, 3] [none, some 0, none, some 1, none, none, none] 7 1 C0 hK hP hD hS hA (c_X7_hasPair l D cy a_p1 a_p1_paired o_p1_length (.int i_p1_words) o_p1_frames (.int i_p1_pairs) o_p1_kinds o_p1_worths o_p1_framed (.ref a_p1_pairWorths) o_p1_scales f_p1_paired r_2 r_8 r_38 hc_39) (cwV 2 hts gX5_readPair_X7_hasPair rfl rfl rfl (by decide +kernel) ⟨Nat.le_of_ble_eq_true rfl, Nat.le_of_ble_eq_true rfl⟩) rfl (by decide) rfl rfl rfl rfl rfl rfl rfl hl.1 rfl (Nat.le_of_ble_eq_true rfl) dX5_readPair_48 ⟨Nat.zero_le _, Nat.zero_le _⟩ (fun H locs hP hD hS => ?_)
      have hP : va_P D vwCl [(a_t, .inr (5, [.ref a_t_text, .int i_t_length, .int z_9, .int z_10, .int z_11, .int z_12])), (a_p1, .inr (7, [o_p1_length, .int i_p1_words, o_p1_frames, .int i_p1_pairs, o_p1_kinds, o_p1_worths, o_p1_framed, .ref a_p1_paired, .ref a_p1_pairWorths, o_p1_scales])), (a_t_text, .inl (cy 1, 500, .inl f_t_text)), (a_p1_paired, .inl (cy 0, 64, .inl f_p1_paired)), (a_p1_pairWorths, .inl (cy 6, 2, .inr (.inr (.inr (.inr (rfL [a_p1_pairWorths0, a_p1_pairWorths1])))))), (a_p1_pairWorths0, .inl (cy 0, 64, .inl f_p1_pairWorths0)), (a_p1_pairWorths1, .inl (cy 0, 64, .inl f_p1_pairWorths1))] H := hP
      have hD : va_D A [(a_t, .inr (5, [.ref a_t_text, .int i_t_length, .int z_9, .int z_10, .int z_11, .int z_12])), (a_p1, .inr (7, [o_p1_length, .int i_p1_words, o_p1_frames, .int i_p1_pairs, o_p1_kinds, o_p1_worths, o_p1_framed, .ref a_p1_paired, .ref a_p1_pairWorths, o_p1_scales])), (a_t_text, .inl (cy 1, 500, .inl f_t_text)), (a_p1_paired, .inl (cy 0, 64, .inl f_p1_paired)), (a_p1_pairWorths, .inl (cy 6, 2, .inr (.inr (.inr (.inr (rfL [a_p1_pairWorths0, a_p1_pairWorths1])))))), (a_p1_pairWorths0, .inl (cy 0, 64, .inl f_p1_pairWorths0)), (a_p1_pairWorths1, .inl (cy 0, 64, .inl f_p1_pairWorths1))] := hD
      refine lv_if_eq (tgt := 59) hx hb dX5_readPair_51 (by decide) (fun c_40 => ?_) (fun c_40 => ?_)
      · have hf := hb_t hf c_40
        refine lv_aload_n hx hb dX5_readPair_59 rfl (lv_at hl 2 rfl) ?_
        refine lv_iconst (v := 0) hx hb dX5_readPair_60 (by decide) ?_
        refine lv_bipush (v := 99) hx hb dX5_readPair_61 (by decide) ?_
        obtain ⟨⟨r_41, z_42, z_43, z_44, z_45⟩, hc_46, hf⟩ := hb_b hf
        refine cl_Vi (rest := []) [0, 2] [some 0, none, some 1, none, none, none, none] 7 0 C0 hK hP hD hS hA (c_X5_nextNumber l D cy a_t a_t_text i_t_length f_t_text z_9 z_10 z_11 z_12 0 99 r_41 z_42 z_43 z_44 z_45 hc_46) (cwV 2 hts gX5_readPair_X5_nextNumber rfl rfl rfl (by decide +kernel) ⟨Nat.le_of_ble_eq_true rfl, Nat.le_of_ble_eq_true rfl⟩) rfl (by decide) rfl rfl rfl rfl rfl rfl rfl hl.1 rfl (Nat.le_of_ble_eq_true rfl) dX5_readPair_63 ⟨Nat.zero_le _, Nat.zero_le _⟩ (fun H locs hP hD hS => ?_)
        have hP : va_P D vwCl [(a_t, .inr (5, [.ref a_t_text, .int i_t_length, .int z_42, .int z_43, .int z_44, .int z_45])), (a_p1, .inr (7, [o_p1_length, .int i_p1_words, o_p1_frames, .int i_p1_pairs, o_p1_kinds, o_p1_worths, o_p1_framed, .ref a_p1_paired, .ref a_p1_pairWorths, o_p1_scales])), (a_t_text, .inl (cy 1, 500, .inl f_t_text)), (a_p1_paired, .inl (cy 0, 64, .inl f_p1_paired)), (a_p1_pairWorths, .inl (cy 6, 2, .inr (.inr (.inr (.inr (rfL [a_p1_pairWorths0, a_p1_pairWorths1])))))), (a_p1_pairWorths0, .inl (cy 0, 64, .inl f_p1_pairWorths0)), (a_p1_pairWorths1, .inl (cy 0, 64, .inl f_p1_pairWorths1))] H := hP
        have hD : va_D A [(a_t, .inr (5, [.ref a_t_text, .int i_t_length, .int z_42, .int z_43, .int z_44, .int z_45])), (a_p1, .inr (7, [o_p1_length, .int i_p1_words, o_p1_frames, .int i_p1_pairs, o_p1_kinds, o_p1_worths, o_p1_framed, .ref a_p1_paired, .ref a_p1_pairWorths, o_p1_scales])), (a_t_text, .inl (cy 1, 500, .inl f_t_text)), (a_p1_paired, .inl (cy 0, 64, .inl f_p1_paired)), (a_p1_pairWorths, .inl (cy 6, 2, .inr (.inr (.inr (.inr (rfL [a_p1_pairWorths0, a_p1_pairWorths1])))))), (a_p1_pairWorths0, .inl (cy 0, 64, .inl f_p1_pairWorths0)), (a_p1_pairWorths1, .inl (cy 0, 64, .inl f_p1_pairWorths1))] := hD
        refine lv_bipush (v := 50) hx hb dX5_readPair_66 (by decide) ?_
        refine lv_isub hx hb dX5_readPair_68 ?_
        refine lv_istore (lv' := [(4, .int (r_41 - 50)), (3, .int r_8), (2, .int r_2), (0, .ref a_t), (1, .ref a_p1)]) hx hb dX5_readPair_69 hl (by decide) rfl (fun ls hl => ?_)
        refine lv_aload_n hx hb dX5_readPair_71 rfl (lv_at hl 3 rfl) ?_
        refine lv_iconst (v := 0) hx hb dX5_readPair_72 (by decide) ?_
        refine lv_bipush (v := 99) hx hb dX5_readPair_73 (by decide) ?_
        obtain ⟨⟨r_47, z_48, z_49, z_50, z_51⟩, hc_52, hf⟩ := hb_b hf
        refine cl_Vi (rest := []) [0, 2] [some 0, none, some 1, none, none, none, none] 7 0 C0 hK hP hD hS hA (c_X5_nextNumber l D cy a_t a_t_text i_t_length f_t_text z_42 z_43 z_44 z_45 0 99 r_47 z_48 z_49 z_50 z_51 hc_52) (cwV 2 hts gX5_readPair_X5_nextNumber rfl rfl rfl (by decide +kernel) ⟨Nat.le_of_ble_eq_true rfl, Nat.le_of_ble_eq_true rfl⟩) rfl (by decide) rfl rfl rfl rfl rfl rfl rfl hl.1 rfl (Nat.le_of_ble_eq_true rfl) dX5_readPair_75 ⟨Nat.zero_le _, Nat.zero_le _⟩ (fun H locs hP hD hS => ?_)
        have hP : va_P D vwCl [(a_t, .inr (5, [.ref a_t_text, .int i_t_length, .int z_48, .int z_49, .int z_50, .int z_51])), (a_p1, .inr (7, [o_p1_length, .int i_p1_words, o_p1_frames, .int i_p1_pairs, o_p1_kinds, o_p1_worths, o_p1_framed, .ref a_p1_paired, .ref a_p1_pairWorths, o_p1_scales])), (a_t_text, .inl (cy 1, 500, .inl f_t_text)), (a_p1_paired, .inl (cy 0, 64, .inl f_p1_paired)), (a_p1_pairWorths, .inl (cy 6, 2, .inr (.inr (.inr (.inr (rfL [a_p1_pairWorths0, a_p1_pairWorths1])))))), (a_p1_pairWorths0, .inl (cy 0, 64, .inl f_p1_pairWorths0)), (a_p1_pairWorths1, .inl (cy 0, 64, .inl f_p1_pairWorths1))] H := hP
        have hD : va_D A [(a_t, .inr (5, [.ref a_t_text, .int i_t_length, .int z_48, .int z_49, .int z_50, .int z_51])), (a_p1, .inr (7, [o_p1_length, .int i_p1_words, o_p1_frames, .int i_p1_pairs, o_p1_kinds, o_p1_worths, o_p1_framed, .ref a_p1_paired, .ref a_p1_pairWorths, o_p1_scales])), (a_t_text, .inl (cy 1, 500, .inl f_t_text)), (a_p1_paired, .inl (cy 0, 64, .inl f_p1_paired)), (a_p1_pairWorths, .inl (cy 6, 2, .inr (.inr (.inr (.inr (rfL [a_p1_pairWorths0, a_p1_pairWorths1])))))), (a_p1_pairWorths0, .inl (cy 0, 64, .inl f_p1_pairWorths0)), (a_p1_pairWorths1, .inl (cy 0, 64, .inl f_p1_pairWorths1))] := hD
        refine lv_bipush (v := 50) hx hb dX5_readPair_78 (by decide) ?_
        refine lv_isub hx hb dX5_readPair_80 ?_
        refine lv_istore (lv' := [(5, .int (r_47 - 50)), (4, .int (r_41 - 50)), (3, .int r_8), (2, .int r_2), (0, .ref a_t), (1, .ref a_p1)]) hx hb dX5_readPair_81 hl (by decide) rfl (fun ls hl => ?_)
        refine lv_aload_n hx hb dX5_readPair_83 rfl (lv_at hl 4 rfl) ?_
        refine lv_bipush (v := 59) hx hb dX5_readPair_84 (by decide) ?_
        obtain ⟨⟨z_53, z_54, z_55, z_56⟩, hc_57, hf⟩ := hb_b hf
        refine cl_Vv (rest := []) [0, 2] [some 0, none, some 1, none, none, none, none] 7 0 C0 hK hP hD hS hA (c_X5_nextSign l D cy a_t a_t_text i_t_length f_t_text z_48 z_49 z_50 z_51 59 z_53 z_54 z_55 z_56 hc_57) (cwV 1 hts gX5_readPair_X5_nextSign rfl rfl rfl (by decide +kernel) ⟨Nat.le_of_ble_eq_true rfl, Nat.le_of_ble_eq_true rfl⟩) rfl (by decide) rfl rfl rfl rfl rfl rfl rfl hl.1 rfl (Nat.le_of_ble_eq_true rfl) dX5_readPair_86 ⟨Nat.zero_le _, Nat.zero_le _⟩ (fun H locs hP hD hS => ?_)
        have hP : va_P D vwCl [(a_t, .inr (5, [.ref a_t_text, .int i_t_length, .int z_53, .int z_54, .int z_55, .int z_56])), (a_p1, .inr (7, [o_p1_length, .int i_p1_words, o_p1_frames, .int i_p1_pairs, o_p1_kinds, o_p1_worths, o_p1_framed, .ref a_p1_paired, .ref a_p1_pairWorths, o_p1_scales])), (a_t_text, .inl (cy 1, 500, .inl f_t_text)), (a_p1_paired, .inl (cy 0, 64, .inl f_p1_paired)), (a_p1_pairWorths, .inl (cy 6, 2, .inr (.inr (.inr (.inr (rfL [a_p1_pairWorths0, a_p1_pairWorths1])))))), (a_p1_pairWorths0, .inl (cy 0, 64, .inl f_p1_pairWorths0)), (a_p1_pairWorths1, .inl (cy 0, 64, .inl f_p1_pairWorths1))] H := hP
        have hD : va_D A [(a_t, .inr (5, [.ref a_t_text, .int i_t_length, .int z_53, .int z_54, .int z_55, .int z_56])), (a_p1, .inr (7, [o_p1_length, .int i_p1_words, o_p1_frames, .int i_p1_pairs, o_p1_kinds, o_p1_worths, o_p1_framed, .ref a_p1_paired, .ref a_p1_pairWorths, o_p1_scales])), (a_t_text, .inl (cy 1, 500, .inl f_t_text)), (a_p1_paired, .inl (cy 0, 64, .inl f_p1_paired)), (a_p1_pairWorths, .inl (cy 6, 2, .inr (.inr (.inr (.inr (rfL [a_p1_pairWorths0, a_p1_pairWorths1])))))), (a_p1_pairWorths0, .inl (cy 0, 64, .inl f_p1_pairWorths0)), (a_p1_pairWorths1, .inl (cy 0, 64, .inl f_p1_pairWorths1))] := hD
        refine lv_aload_n hx hb dX5_readPair_89 rfl (lv_at hl 4 rfl) ?_
        refine va_get (D := D) (ci := 5) (v := .int z_55) (C := RX5) (T := TX5) (N := 6) hx hb hts uX5_readPair_X5 hown hK.1.1 hP 0 rfl rfl 4 (by decide) (hts _ mX5_readPair_26) (fun _ h9 => h9) rfl dX5_readPair_90 ?_
        refine lv_if_ne (tgt := 106) hx hb dX5_readPair_93 (by decide) (fun c_58 => ?_) (fun c_58 => ?_)
        · have hf := hb_f hf c_58
          obtain ⟨e_0, e_1, e_2, e_3, e_4, e_5, e_6, e_7⟩ := tu8 hf
          subst e_0; subst e_1; subst e_2; subst e_3; subst e_4; subst e_5; subst e_6; subst e_7
          exact hret _ _ _ _ dX5_readPair_106 hP hS
        · have hf := hb_t hf c_58
          refine lv_aload_n hx hb dX5_readPair_96 rfl (lv_at hl 5 rfl) ?_
          refine lv_iload_n hx hb dX5_readPair_97 rfl (lv_at hl 3 rfl) ?_
          refine lv_iload_n hx hb dX5_readPair_98 rfl (lv_at hl 2 rfl) ?_
          refine lv_iload hx hb dX5_readPair_99 (lv_at hl 1 rfl) ?_
          refine lv_iload hx hb dX5_readPair_101 (lv_at hl 0 rfl) ?_
          obtain ⟨⟨z_59, z_60, z_61, z_62⟩, hc_63, hf⟩ := hb_b hf
          refine cl_Vv (rest := []) [1, 3, 4, 5, 6] [none, some 0, none, some 1, some 2, some 3, some 4] 7 1 C0 hK hP hD hS hA (c_X7_addPair l D cy a_p1 a_p1_paired a_p1_pairWorths a_p1_pairWorths0 a_p1_pairWorths1 o_p1_length (.int i_p1_words) o_p1_frames o_p1_kinds o_p1_worths o_p1_framed o_p1_scales i_p1_pairs f_p1_paired f_p1_pairWorths0 f_p1_pairWorths1 r_2 r_8 (r_41 - 50) (r_47 - 50) z_59 z_60 z_61 z_62 hc_63) (cwV 4 hts gX5_readPair_X7_addPair rfl rfl rfl (by decide +kernel) ⟨Nat.le_of_ble_eq_true rfl, Nat.le_of_ble_eq_true rfl⟩) rfl (by decide) rfl rfl rfl rfl rfl rfl rfl hl.1 rfl (Nat.le_of_ble_eq_true rfl) dX5_readPair_103 ⟨Nat.zero_le _, Nat.zero_le _⟩ (fun H locs hP hD hS => ?_)
          have hP : va_P D vwCl [(a_t, .inr (5, [.ref a_t_text, .int i_t_length, .int z_53, .int z_54, .int z_55, .int z_56])), (a_p1, .inr (7, [o_p1_length, .int i_p1_words, o_p1_frames, .int z_59, o_p1_kinds, o_p1_worths, o_p1_framed, .ref a_p1_paired, .ref a_p1_pairWorths, o_p1_scales])), (a_t_text, .inl (cy 1, 500, .inl f_t_text)), (a_p1_paired, .inl (cy 0, 64, .inl z_60)), (a_p1_pairWorths, .inl (cy 6, 2, .inr (.inr (.inr (.inr (rfL [a_p1_pairWorths0, a_p1_pairWorths1])))))), (a_p1_pairWorths0, .inl (cy 0, 64, .inl z_61)), (a_p1_pairWorths1, .inl (cy 0, 64, .inl z_62))] H := hP
          have hD : va_D A [(a_t, .inr (5, [.ref a_t_text, .int i_t_length, .int z_53, .int z_54, .int z_55, .int z_56])), (a_p1, .inr (7, [o_p1_length, .int i_p1_words, o_p1_frames, .int z_59, o_p1_kinds, o_p1_worths, o_p1_framed, .ref a_p1_paired, .ref a_p1_pairWorths, o_p1_scales])), (a_t_text, .inl (cy 1, 500, .inl f_t_text)), (a_p1_paired, .inl (cy 0, 64, .inl z_60)), (a_p1_pairWorths, .inl (cy 6, 2, .inr (.inr (.inr (.inr (rfL [a_p1_pairWorths0, a_p1_pairWorths1])))))), (a_p1_pairWorths0, .inl (cy 0, 64, .inl z_61)), (a_p1_pairWorths1, .inl (cy 0, 64, .inl z_62))] := hD
          obtain ⟨e_0, e_1, e_2, e_3, e_4, e_5, e_6, e_7⟩ := tu8 hf
          subst e_0; subst e_1; subst e_2; subst e_3; subst e_4; subst e_5; subst e_6; subst e_7
          exact hret _ _ _ _ dX5_readPair_106 hP hS
      · have hf := hb_f hf c_40
        refine lv_aload_n hx hb dX5_readPair_54 rfl (lv_at hl 2 rfl) ?_
        refine lv_iconst (v := 4) hx hb dX5_readPair_55 (by decide) ?_
        obtain ⟨⟨z_64, z_65⟩, hc_66, hf⟩ := hb_b hf
        refine cl_Vv (rest := []) [0] [some 0, none, none, none, none, none, none] 7 0 C0 hK hP hD hS hA (c_X5_fail l D cy a_t (.ref a_t_text) (.int i_t_length) (.int z_9) z_10 z_11 z_12 4 z_64 z_65 hc_66) (cwV 1 hts gX5_readPair_X5_fail rfl rfl rfl (by decide +kernel) ⟨Nat.le_of_ble_eq_true rfl, Nat.le_of_ble_eq_true rfl⟩) rfl (by decide) rfl rfl rfl rfl rfl rfl rfl hl.1 rfl (Nat.le_of_ble_eq_true rfl) dX5_readPair_56 ⟨Nat.zero_le _, Nat.zero_le _⟩ (fun H locs hP hD hS => ?_)
        have hP : va_P D vwCl [(a_t, .inr (5, [.ref a_t_text, .int i_t_length, .int z_9, .int z_10, .int z_64, .int z_65])), (a_p1, .inr (7, [o_p1_length, .int i_p1_words, o_p1_frames, .int i_p1_pairs, o_p1_kinds, o_p1_worths, o_p1_framed, .ref a_p1_paired, .ref a_p1_pairWorths, o_p1_scales])), (a_t_text, .inl (cy 1, 500, .inl f_t_text)), (a_p1_paired, .inl (cy 0, 64, .inl f_p1_paired)), (a_p1_pairWorths, .inl (cy 6, 2, .inr (.inr (.inr (.inr (rfL [a_p1_pairWorths0, a_p1_pairWorths1])))))), (a_p1_pairWorths0, .inl (cy 0, 64, .inl f_p1_pairWorths0)), (a_p1_pairWorths1, .inl (cy 0, 64, .inl f_p1_pairWorths1))] H := hP
        have hD : va_D A [(a_t, .inr (5, [.ref a_t_text, .int i_t_length, .int z_9, .int z_10, .int z_64, .int z_65])), (a_p1, .inr (7, [o_p1_length, .int i_p1_words, o_p1_frames, .int i_p1_pairs, o_p1_kinds, o_p1_worths, o_p1_framed, .ref a_p1_paired, .ref a_p1_pairWorths, o_p1_scales])), (a_t_text, .inl (cy 1, 500, .inl f_t_text)), (a_p1_paired, .inl (cy 0, 64, .inl f_p1_paired)), (a_p1_pairWorths, .inl (cy 6, 2, .inr (.inr (.inr (.inr (rfL [a_p1_pairWorths0, a_p1_pairWorths1])))))), (a_p1_pairWorths0, .inl (cy 0, 64, .inl f_p1_pairWorths0)), (a_p1_pairWorths1, .inl (cy 0, 64, .inl f_p1_pairWorths1))] := hD
        refine lv_aload_n hx hb dX5_readPair_59 rfl (lv_at hl 2 rfl) ?_
        refine lv_iconst (v := 0) hx hb dX5_readPair_60 (by decide) ?_
        refine lv_bipush (v := 99) hx hb dX5_readPair_61 (by decide) ?_
        obtain ⟨⟨r_67, z_68, z_69, z_70, z_71⟩, hc_72, hf⟩ := hb_b hf
        refine cl_Vi (rest := []) [0, 2] [some 0, none, some 1, none, none, none, none] 7 0 C0 hK hP hD hS hA (c_X5_nextNumber l D cy a_t a_t_text i_t_length f_t_text z_9 z_10 z_64 z_65 0 99 r_67 z_68 z_69 z_70 z_71 hc_72) (cwV 2 hts gX5_readPair_X5_nextNumber rfl rfl rfl (by decide +kernel) ⟨Nat.le_of_ble_eq_true rfl, Nat.le_of_ble_eq_true rfl⟩) rfl (by decide) rfl rfl rfl rfl rfl rfl rfl hl.1 rfl (Nat.le_of_ble_eq_true rfl) dX5_readPair_63 ⟨Nat.zero_le _, Nat.zero_le _⟩ (fun H locs hP hD hS => ?_)
        have hP : va_P D vwCl [(a_t, .inr (5, [.ref a_t_text, .int i_t_length, .int z_68, .int z_69, .int z_70, .int z_71])), (a_p1, .inr (7, [o_p1_length, .int i_p1_words, o_p1_frames, .int i_p1_pairs, o_p1_kinds, o_p1_worths, o_p1_framed, .ref a_p1_paired, .ref a_p1_pairWorths, o_p1_scales])), (a_t_text, .inl (cy 1, 500, .inl f_t_text)), (a_p1_paired, .inl (cy 0, 64, .inl f_p1_paired)), (a_p1_pairWorths, .inl (cy 6, 2, .inr (.inr (.inr (.inr (rfL [a_p1_pairWorths0, a_p1_pairWorths1])))))), (a_p1_pairWorths0, .inl (cy 0, 64, .inl f_p1_pairWorths0)), (a_p1_pairWorths1, .inl (cy 0, 64, .inl f_p1_pairWorths1))] H := hP
        have hD : va_D A [(a_t, .inr (5, [.ref a_t_text, .int i_t_length, .int z_68, .int z_69, .int z_70, .int z_71])), (a_p1, .inr (7, [o_p1_length, .int i_p1_words, o_p1_frames, .int i_p1_pairs, o_p1_kinds, o_p1_worths, o_p1_framed, .ref a_p1_paired, .ref a_p1_pairWorths, o_p1_scales])), (a_t_text, .inl (cy 1, 500, .inl f_t_text)), (a_p1_paired, .inl (cy 0, 64, .inl f_p1_paired)), (a_p1_pairWorths, .inl (cy 6, 2, .inr (.inr (.inr (.inr (rfL [a_p1_pairWorths0, a_p1_pairWorths1])))))), (a_p1_pairWorths0, .inl (cy 0, 64, .inl f_p1_pairWorths0)), (a_p1_pairWorths1, .inl (cy 0, 64, .inl f_p1_pairWorths1))] := hD
        refine lv_bipush (v := 50) hx hb dX5_readPair_66 (by decide) ?_
        refine lv_isub hx hb dX5_readPair_68 ?_
        refine lv_istore (lv' := [(4, .int (r_67 - 50)), (3, .int r_8), (2, .int r_2), (0, .ref a_t), (1, .ref a_p1)]) hx hb dX5_readPair_69 hl (by decide) rfl (fun ls hl => ?_)
        refine lv_aload_n hx hb dX5_readPair_71 rfl (lv_at hl 3 rfl) ?_
        refine lv_iconst (v := 0) hx hb dX5_readPair_72 (by decide) ?_
        refine lv_bipush (v := 99) hx hb dX5_readPair_73 (by decide) ?_
        obtain ⟨⟨r_73, z_74, z_75, z_76, z_77⟩, hc_78, hf⟩ := hb_b hf
        refine cl_Vi (rest := []) [0, 2] [some 0, none, some 1, none, none, none, none] 7 0 C0 hK hP hD hS hA (c_X5_nextNumber l D cy a_t a_t_text i_t_length f_t_text z_68 z_69 z_70 z_71 0 99 r_73 z_74 z_75 z_76 z_77 hc_78) (cwV 2 hts gX5_readPair_X5_nextNumber rfl rfl rfl (by decide +kernel) ⟨Nat.le_of_ble_eq_true rfl, Nat.le_of_ble_eq_true rfl⟩) rfl (by decide) rfl rfl rfl rfl rfl rfl rfl hl.1 rfl (Nat.le_of_ble_eq_true rfl) dX5_readPair_75 ⟨Nat.zero_le _, Nat.zero_le _⟩ (fun H locs hP hD hS => ?_)
        have hP : va_P D vwCl [(a_t, .inr (5, [.ref a_t_text, .int i_t_length, .int z_74, .int z_75, .int z_76, .int z_77])), (a_p1, .inr (7, [o_p1_length, .int i_p1_words, o_p1_frames, .int i_p1_pairs, o_p1_kinds, o_p1_worths, o_p1_framed, .ref a_p1_paired, .ref a_p1_pairWorths, o_p1_scales])), (a_t_text, .inl (cy 1, 500, .inl f_t_text)), (a_p1_paired, .inl (cy 0, 64, .inl f_p1_paired)), (a_p1_pairWorths, .inl (cy 6, 2, .inr (.inr (.inr (.inr (rfL [a_p1_pairWorths0, a_p1_pairWorths1])))))), (a_p1_pairWorths0, .inl (cy 0, 64, .inl f_p1_pairWorths0)), (a_p1_pairWorths1, .inl (cy 0, 64, .inl f_p1_pairWorths1))] H := hP
        have hD : va_D A [(a_t, .inr (5, [.ref a_t_text, .int i_t_length, .int z_74, .int z_75, .int z_76, .int z_77])), (a_p1, .inr (7, [o_p1_length, .int i_p1_words, o_p1_frames, .int i_p1_pairs, o_p1_kinds, o_p1_worths, o_p1_framed, .ref a_p1_paired, .ref a_p1_pairWorths, o_p1_scales])), (a_t_text, .inl (cy 1, 500, .inl f_t_text)), (a_p1_paired, .inl (cy 0, 64, .inl f_p1_paired)), (a_p1_pairWorths, .inl (cy 6, 2, .inr (.inr (.inr (.inr (rfL [a_p1_pairWorths0, a_p1_pairWorths1])))))), (a_p1_pairWorths0, .inl (cy 0, 64, .inl f_p1_pairWorths0)), (a_p1_pairWorths1, .inl (cy 0, 64, .inl f_p1_pairWorths1))] := hD
        refine lv_bipush (v := 50) hx hb dX5_readPair_78 (by decide) ?_
        refine lv_isub hx hb dX5_readPair_80 ?_
        refine lv_istore (lv' := [(5, .int (r_73 - 50)), (4, .int (r_67 - 50)), (3, .int r_8), (2, .int r_2), (0, .ref a_t), (1, .ref a_p1)]) hx hb dX5_readPair_81 hl (by decide) rfl (fun ls hl => ?_)
        refine lv_aload_n hx hb dX5_readPair_83 rfl (lv_at hl 4 rfl) ?_
        refine lv_bipush (v := 59) hx hb dX5_readPair_84 (by decide) ?_
        obtain ⟨⟨z_79, z_80, z_81, z_82⟩, hc_83, hf⟩ := hb_b hf
        refine cl_Vv (rest := []) [0, 2] [some 0, none, some 1, none, none, none, none] 7 0 C0 hK hP hD hS hA (c_X5_nextSign l D cy a_t a_t_text i_t_length f_t_text z_74 z_75 z_76 z_77 59 z_79 z_80 z_81 z_82 hc_83) (cwV 1 hts gX5_readPair_X5_nextSign rfl rfl rfl (by decide +kernel) ⟨Nat.le_of_ble_eq_true rfl, Nat.le_of_ble_eq_true rfl⟩) rfl (by decide) rfl rfl rfl rfl rfl rfl rfl hl.1 rfl (Nat.le_of_ble_eq_true rfl) dX5_readPair_86 ⟨Nat.zero_le _, Nat.zero_le _⟩ (fun H locs hP hD hS => ?_)
        have hP : va_P D vwCl [(a_t, .inr (5, [.ref a_t_text, .int i_t_length, .int z_79, .int z_80, .int z_81, .int z_82])), (a_p1, .inr (7, [o_p1_length, .int i_p1_words, o_p1_frames, .int i_p1_pairs, o_p1_kinds, o_p1_worths, o_p1_framed, .ref a_p1_paired, .ref a_p1_pairWorths, o_p1_scales])), (a_t_text, .inl (cy 1, 500, .inl f_t_text)), (a_p1_paired, .inl (cy 0, 64, .inl f_p1_paired)), (a_p1_pairWorths, .inl (cy 6, 2, .inr (.inr (.inr (.inr (rfL [a_p1_pairWorths0, a_p1_pairWorths1])))))), (a_p1_pairWorths0, .inl (cy 0, 64, .inl f_p1_pairWorths0)), (a_p1_pairWorths1, .inl (cy 0, 64, .inl f_p1_pairWorths1))] H := hP
        have hD : va_D A [(a_t, .inr (5, [.ref a_t_text, .int i_t_length, .int z_79, .int z_80, .int z_81, .int z_82])), (a_p1, .inr (7, [o_p1_length, .int i_p1_words, o_p1_frames, .int i_p1_pairs, o_p1_kinds, o_p1_worths, o_p1_framed, .ref a_p1_paired, .ref a_p1_pairWorths, o_p1_scales])), (a_t_text, .inl (cy 1, 500, .inl f_t_text)), (a_p1_paired, .inl (cy 0, 64, .inl f_p1_paired)), (a_p1_pairWorths, .inl (cy 6, 2, .inr (.inr (.inr (.inr (rfL [a_p1_pairWorths0, a_p1_pairWorths1])))))), (a_p1_pairWorths0, .inl (cy 0, 64, .inl f_p1_pairWorths0)), (a_p1_pairWorths1, .inl (cy 0, 64, .inl f_p1_pairWorths1))] := hD
        refine lv_aload_n hx hb dX5_readPair_89 rfl (lv_at hl 4 rfl) ?_
        refine va_get (D := D) (ci := 5) (v := .int z_81) (C := RX5) (T := TX5) (N := 6) hx hb hts uX5_readPair_X5 hown hK.1.1 hP 0 rfl rfl 4 (by decide) (hts _ mX5_readPair_26) (fun _ h9 => h9) rfl dX5_readPair_90 ?_
        refine lv_if_ne (tgt := 106) hx hb dX5_readPair_93 (by decide) (fun c_84 => ?_) (fun c_84 => ?_)
        · have hf := hb_f hf c_84
          obtain ⟨e_0, e_1, e_2, e_3, e_4, e_5, e_6, e_7⟩ := tu8 hf
          subst e_0; subst e_1; subst e_2; subst e_3; subst e_4; subst e_5; subst e_6; subst e_7
          exact hret _ _ _ _ dX5_readPair_106 hP hS
        · have hf := hb_t hf c_84
          refine lv_aload_n hx hb dX5_readPair_96 rfl (lv_at hl 5 rfl) ?_
          refine lv_iload_n hx hb dX5_readPair_97 rfl (lv_at hl 3 rfl) ?_
          refine lv_iload_n hx hb dX5_readPair_98 rfl (lv_at hl 2 rfl) ?_
          refine lv_iload hx hb dX5_readPair_99 (lv_at hl 1 rfl) ?_
          refine lv_iload hx hb dX5_readPair_101 (lv_at hl 0 rfl) ?_
          obtain ⟨⟨z_85, z_86, z_87, z_88⟩, hc_89, hf⟩ := hb_b hf
          refine cl_Vv (rest := []) [1, 3, 4, 5, 6] [none, some 0, none, some 1, some 2, some 3, some 4] 7 1 C0 hK hP hD hS hA (c_X7_addPair l D cy a_p1 a_p1_paired a_p1_pairWorths a_p1_pairWorths0 a_p1_pairWorths1 o_p1_length (.int i_p1_words) o_p1_frames o_p1_kinds o_p1_worths o_p1_framed o_p1_scales i_p1_pairs f_p1_paired f_p1_pairWorths0 f_p1_pairWorths1 r_2 r_8 (r_67 - 50) (r_73 - 50) z_85 z_86 z_87 z_88 hc_89) (cwV 4 hts gX5_readPair_X7_addPair rfl rfl rfl (by decide +kernel) ⟨Nat.le_of_ble_eq_true rfl, Nat.le_of_ble_eq_true rfl⟩) rfl (by decide) rfl rfl rfl rfl rfl rfl rfl hl.1 rfl (Nat.le_of_ble_eq_true rfl) dX5_readPair_103 ⟨Nat.zero_le _, Nat.zero_le _⟩ (fun H locs hP hD hS => ?_)
          have hP : va_P D vwCl [(a_t, .inr (5, [.ref a_t_text, .int i_t_length, .int z_79, .int z_80, .int z_81, .int z_82])), (a_p1, .inr (7, [o_p1_length, .int i_p1_words, o_p1_frames, .int z_85, o_p1_kinds, o_p1_worths, o_p1_framed, .ref a_p1_paired, .ref a_p1_pairWorths, o_p1_scales])), (a_t_text, .inl (cy 1, 500, .inl f_t_text)), (a_p1_paired, .inl (cy 0, 64, .inl z_86)), (a_p1_pairWorths, .inl (cy 6, 2, .inr (.inr (.inr (.inr (rfL [a_p1_pairWorths0, a_p1_pairWorths1])))))), (a_p1_pairWorths0, .inl (cy 0, 64, .inl z_87)), (a_p1_pairWorths1, .inl (cy 0, 64, .inl z_88))] H := hP
          have hD : va_D A [(a_t, .inr (5, [.ref a_t_text, .int i_t_length, .int z_79, .int z_80, .int z_81, .int z_82])), (a_p1, .inr (7, [o_p1_length, .int i_p1_words, o_p1_frames, .int z_85, o_p1_kinds, o_p1_worths, o_p1_framed, .ref a_p1_paired, .ref a_p1_pairWorths, o_p1_scales])), (a_t_text, .inl (cy 1, 500, .inl f_t_text)), (a_p1_paired, .inl (cy 0, 64, .inl z_86)), (a_p1_pairWorths, .inl (cy 6, 2, .inr (.inr (.inr (.inr (rfL [a_p1_pairWorths0, a_p1_pairWorths1])))))), (a_p1_pairWorths0, .inl (cy 0, 64, .inl z_87)), (a_p1_pairWorths1, .inl (cy 0, 64, .inl z_88))] := hD
          obtain ⟨e_0, e_1, e_2, e_3, e_4, e_5, e_6, e_7⟩ := tu8 hf
          subst e_0; subst e_1; subst e_2; subst e_3; subst e_4; subst e_5; subst e_6; subst e_7
          exact hret _ _ _ _ dX5_readPair_106 hP hS
  · have hf := hb_f hf c_1
    refine lv_aload_n hx hb dX5_readPair_9 rfl (lv_at hl 0 rfl) ?_
    refine lv_iconst (v := 3) hx hb dX5_readPair_10 (by decide) ?_
    obtain ⟨⟨z_90, z_91⟩, hc_92, hf⟩ := hb_b hf
    refine cl_Vv (rest := []) [0] [some 0, none, none, none, none, none, none] 7 0 C0 hK hP hD hS hA (c_X5_fail l D cy a_t (.ref a_t_text) (.int i_t_length) (.int i_t_place) i_t_start i_t_faultNumber i_t_faultByte 3 z_90 z_91 hc_92) (cwV 1 hts gX5_readPair_X5_fail rfl rfl rfl (by decide +kernel) ⟨Nat.le_of_ble_eq_true rfl, Nat.le_of_ble_eq_true rfl⟩) rfl (by decide) rfl rfl rfl rfl rfl rfl rfl hl.1 rfl (Nat.le_of_ble_eq_true rfl) dX5_readPair_11 ⟨Nat.zero_le _, Nat.zero_le _⟩ (fun H locs hP hD hS => ?_)
    have hP : va_P D vwCl [(a_t, .inr (5, [.ref a_t_text, .int i_t_length, .int i_t_place, .int i_t_start, .int z_90, .int z_91])), (a_p1, .inr (7, [o_p1_length, .int i_p1_words, o_p1_frames, .int i_p1_pairs, o_p1_kinds, o_p1_worths, o_p1_framed, .ref a_p1_paired, .ref a_p1_pairWorths, o_p1_scales])), (a_t_text, .inl (cy 1, 500, .inl f_t_text)), (a_p1_paired, .inl (cy 0, 64, .inl f_p1_paired)), (a_p1_pairWorths, .inl (cy 6, 2, .inr (.inr (.inr (.inr (rfL [a_p1_pairWorths0, a_p1_pairWorths1])))))), (a_p1_pairWorths0, .inl (cy 0, 64, .inl f_p1_pairWorths0)), (a_p1_pairWorths1, .inl (cy 0, 64, .inl f_p1_pairWorths1))] H := hP
    have hD : va_D A [(a_t, .inr (5, [.ref a_t_text, .int i_t_length, .int i_t_place, .int i_t_start, .int z_90, .int z_91])), (a_p1, .inr (7, [o_p1_length, .int i_p1_words, o_p1_frames, .int i_p1_pairs, o_p1_kinds, o_p1_worths, o_p1_framed, .ref a_p1_paired, .ref a_p1_pairWorths, o_p1_scales])), (a_t_text, .inl (cy 1, 500, .inl f_t_text)), (a_p1_paired, .inl (cy 0, 64, .inl f_p1_paired)), (a_p1_pairWorths, .inl (cy 6, 2, .inr (.inr (.inr (.inr (rfL [a_p1_pairWorths0, a_p1_pairWorths1])))))), (a_p1_pairWorths0, .inl (cy 0, 64, .inl f_p1_pairWorths0)), (a_p1_pairWorths1, .inl (cy 0, 64, .inl f_p1_pairWorths1))] := hD
    refine lv_aload_n hx hb dX5_readPair_14 rfl (lv_at hl 0 rfl) ?_
    refine lv_iconst (v := 0) hx hb dX5_readPair_15 (by decide) ?_
    refine lv_aload_n hx hb dX5_readPair_16 rfl (lv_at hl 1 rfl) ?_
    refine va_getN (D := D) (ci := 7) (v := .int i_p1_words) (C := RX7) (T := TX7) (N := 10) hx hb hts uX5_readPair_X7 hown hK.1.1 hP 1 rfl rfl 1 (by decide) (hK.1.nw _ nw_6) (fun _ h9 => h9) rfl dX5_readPair_17 ?_
    refine lv_iconst (v := 1) hx hb dX5_readPair_20 (by decide) ?_
    refine lv_isub hx hb dX5_readPair_21 ?_
    obtain ⟨⟨r_93, z_94, z_95, z_96, z_97⟩, hc_98, hf⟩ := hb_b hf
    refine cl_Vi (rest := []) [0, 2] [some 0, none, some 1, none, none, none, none] 7 0 C0 hK hP hD hS hA (c_X5_nextNumber l D cy a_t a_t_text i_t_length f_t_text i_t_place i_t_start z_90 z_91 0 (i_p1_words - 1) r_93 z_94 z_95 z_96 z_97 hc_98) (cwV 2 hts gX5_readPair_X5_nextNumber rfl rfl rfl (by decide +kernel) ⟨Nat.le_of_ble_eq_true rfl, Nat.le_of_ble_eq_true rfl⟩) rfl (by decide) rfl rfl rfl rfl rfl rfl rfl hl.1 rfl (Nat.le_of_ble_eq_true rfl) dX5_readPair_22 ⟨Nat.zero_le _, Nat.zero_le _⟩ (fun H locs hP hD hS => ?_)
    have hP : va_P D vwCl [(a_t, .inr (5, [.ref a_t_text, .int i_t_length, .int z_94, .int z_95, .int z_96, .int z_97])), (a_p1, .inr (7, [o_p1_length, .int i_p1_words, o_p1_frames, .int i_p1_pairs, o_p1_kinds, o_p1_worths, o_p1_framed, .ref a_p1_paired, .ref a_p1_pairWorths, o_p1_scales])), (a_t_text, .inl (cy 1, 500, .inl f_t_text)), (a_p1_paired, .inl (cy 0, 64, .inl f_p1_paired)), (a_p1_pairWorths, .inl (cy 6, 2, .inr (.inr (.inr (.inr (rfL [a_p1_pairWorths0, a_p1_pairWorths1])))))), (a_p1_pairWorths0, .inl (cy 0, 64, .inl f_p1_pairWorths0)), (a_p1_pairWorths1, .inl (cy 0, 64, .inl f_p1_pairWorths1))] H := hP
    have hD : va_D A [(a_t, .inr (5, [.ref a_t_text, .int i_t_length, .int z_94, .int z_95, .int z_96, .int z_97])), (a_p1, .inr (7, [o_p1_length, .int i_p1_words, o_p1_frames, .int i_p1_pairs, o_p1_kinds, o_p1_worths, o_p1_framed, .ref a_p1_paired, .ref a_p1_pairWorths, o_p1_scales])), (a_t_text, .inl (cy 1, 500, .inl f_t_text)), (a_p1_paired, .inl (cy 0, 64, .inl f_p1_paired)), (a_p1_pairWorths, .inl (cy 6, 2, .inr (.inr (.inr (.inr (rfL [a_p1_pairWorths0, a_p1_pairWorths1])))))), (a_p1_pairWorths0, .inl (cy 0, 64, .inl f_p1_pairWorths0)), (a_p1_pairWorths1, .inl (cy 0, 64, .inl f_p1_pairWorths1))] := hD
    refine lv_istore_n (lv' := [(2, .int r_93), (0, .ref a_t), (1, .ref a_p1)]) hx hb dX5_readPair_25 rfl hl (by decide) rfl (fun ls hl => ?_)
    refine lv_aload_n hx hb dX5_readPair_26 rfl (lv_at hl 1 rfl) ?_
    refine lv_iconst (v := 0) hx hb dX5_readPair_27 (by decide) ?_
    refine lv_aload_n hx hb dX5_readPair_28 rfl (lv_at hl 2 rfl) ?_
    refine va_getN (D := D) (ci := 7) (v := .int i_p1_words) (C := RX7) (T := TX7) (N := 10) hx hb hts uX5_readPair_X7 hown hK.1.1 hP 1 rfl rfl 1 (by decide) (hK.1.nw _ nw_6) (fun _ h9 => h9) rfl dX5_readPair_29 ?_
    refine lv_iconst (v := 1) hx hb dX5_readPair_32 (by decide) ?_
    refine lv_isub hx hb dX5_readPair_33 ?_
    obtain ⟨⟨r_99, z_100, z_101, z_102, z_103⟩, hc_104, hf⟩ := hb_b hf
    refine cl_Vi (rest := []) [0, 2] [some 0, none, some 1, none, none, none, none] 7 0 C0 hK hP hD hS hA (c_X5_nextNumber l D cy a_t a_t_text i_t_length f_t_text z_94 z_95 z_96 z_97 0 (i_p1_words - 1) r_99 z_100 z_101 z_102 z_103 hc_104) (cwV 2 hts gX5_readPair_X5_nextNumber rfl rfl rfl (by decide +kernel) ⟨Nat.le_of_ble_eq_true rfl, Nat.le_of_ble_eq_true rfl⟩) rfl (by decide) rfl rfl rfl rfl rfl rfl rfl hl.1 rfl (Nat.le_of_ble_eq_true rfl) dX5_readPair_34 ⟨Nat.zero_le _, Nat.zero_le _⟩ (fun H locs hP hD hS => ?_)
    have hP : va_P D vwCl [(a_t, .inr (5, [.ref a_t_text, .int i_t_length, .int z_100, .int z_101, .int z_102, .int z_103])), (a_p1, .inr (7, [o_p1_length, .int i_p1_words, o_p1_frames, .int i_p1_pairs, o_p1_kinds, o_p1_worths, o_p1_framed, .ref a_p1_paired, .ref a_p1_pairWorths, o_p1_scales])), (a_t_text, .inl (cy 1, 500, .inl f_t_text)), (a_p1_paired, .inl (cy 0, 64, .inl f_p1_paired)), (a_p1_pairWorths, .inl (cy 6, 2, .inr (.inr (.inr (.inr (rfL [a_p1_pairWorths0, a_p1_pairWorths1])))))), (a_p1_pairWorths0, .inl (cy 0, 64, .inl f_p1_pairWorths0)), (a_p1_pairWorths1, .inl (cy 0, 64, .inl f_p1_pairWorths1))] H := hP
    have hD : va_D A [(a_t, .inr (5, [.ref a_t_text, .int i_t_length, .int z_100, .int z_101, .int z_102, .int z_103])), (a_p1, .inr (7, [o_p1_length, .int i_p1_words, o_p1_frames, .int i_p1_pairs, o_p1_kinds, o_p1_worths, o_p1_framed, .ref a_p1_paired, .ref a_p1_pairWorths, o_p1_scales])), (a_t_text, .inl (cy 1, 500, .inl f_t_text)), (a_p1_paired, .inl (cy 0, 64, .inl f_p1_paired)), (a_p1_pairWorths, .inl (cy 6, 2, .inr (.inr (.inr (.inr (rfL [a_p1_pairWorths0, a_p1_pairWorths1])))))), (a_p1_pairWorths0, .inl (cy 0, 64, .inl f_p1_pairWorths0)), (a_p1_pairWorths1, .inl (cy 0, 64, .inl f_p1_pairWorths1))] := hD
    refine lv_istore_n (lv' := [(3, .int r_99), (2, .int r_93), (0, .ref a_t), (1, .ref a_p1)]) hx hb dX5_readPair_37 rfl hl (by decide) rfl (fun ls hl => ?_)
    refine lv_aload_n hx hb dX5_readPair_38 rfl (lv_at hl 2 rfl) ?_
    refine va_get (D := D) (ci := 5) (v := .int z_102) (C := RX5) (T := TX5) (N := 6) hx hb hts uX5_readPair_X5 hown hK.1.1 hP 0 rfl rfl 4 (by decide) (hts _ mX5_readPair_26) (fun _ h9 => h9) rfl dX5_readPair_39 ?_
    refine lv_if_ne (tgt := 59) hx hb dX5_readPair_42 (by decide) (fun c_105 => ?_) (fun c_105 => ?_)
    · have hf := hb_f hf c_105
      refine lv_aload_n hx hb dX5_readPair_59 rfl (lv_at hl 2 rfl) ?_
      refine lv_iconst (v := 0) hx hb dX5_readPair_60 (by decide) ?_
      refine lv_bipush (v := 99) hx hb dX5_readPair_61 (by decide) ?_
      obtain ⟨⟨r_106, z_107, z_108, z_109, z_110⟩, hc_111, hf⟩ := hb_b hf
      refine cl_Vi (rest := []) [0, 2] [some 0, none, some 1, none, none, none, none] 7 0 C0 hK hP hD hS hA (c_X5_nextNumber l D cy a_t a_t_text i_t_length f_t_text z_100 z_101 z_102 z_103 0 99 r_106 z_107 z_108 z_109 z_110 hc_111) (cwV 2 hts gX5_readPair_X5_nextNumber rfl rfl rfl (by decide +kernel) ⟨Nat.le_of_ble_eq_true rfl, Nat.le_of_ble_eq_true rfl⟩) rfl (by decide) rfl rfl rfl rfl rfl rfl rfl hl.1 rfl (Nat.le_of_ble_eq_true rfl) dX5_readPair_63 ⟨Nat.zero_le _, Nat.zero_le _⟩ (fun H locs hP hD hS => ?_)
      have hP : va_P D vwCl [(a_t, .inr (5, [.ref a_t_text, .int i_t_length, .int z_107, .int z_108, .int z_109, .int z_110])), (a_p1, .inr (7, [o_p1_length, .int i_p1_words, o_p1_frames, .int i_p1_pairs, o_p1_kinds, o_p1_worths, o_p1_framed, .ref a_p1_paired, .ref a_p1_pairWorths, o_p1_scales])), (a_t_text, .inl (cy 1, 500, .inl f_t_text)), (a_p1_paired, .inl (cy 0, 64, .inl f_p1_paired)), (a_p1_pairWorths, .inl (cy 6, 2, .inr (.inr (.inr (.inr (rfL [a_p1_pairWorths0, a_p1_pairWorths1])))))), (a_p1_pairWorths0, .inl (cy 0, 64, .inl f_p1_pairWorths0)), (a_p1_pairWorths1, .inl (cy 0, 64, .inl f_p1_pairWorths1))] H := hP
      have hD : va_D A [(a_t, .inr (5, [.ref a_t_text, .int i_t_length, .int z_107, .int z_108, .int z_109, .int z_110])), (a_p1, .inr (7, [o_p1_length, .int i_p1_words, o_p1_frames, .int i_p1_pairs, o_p1_kinds, o_p1_worths, o_p1_framed, .ref a_p1_paired, .ref a_p1_pairWorths, o_p1_scales])), (a_t_text, .inl (cy 1, 500, .inl f_t_text)), (a_p1_paired, .inl (cy 0, 64, .inl f_p1_paired)), (a_p1_pairWorths, .inl (cy 6, 2, .inr (.inr (.inr (.inr (rfL [a_p1_pairWorths0, a_p1_pairWorths1])))))), (a_p1_pairWorths0, .inl (cy 0, 64, .inl f_p1_pairWorths0)), (a_p1_pairWorths1, .inl (cy 0, 64, .inl f_p1_pairWorths1))] := hD
      refine lv_bipush (v := 50) hx hb dX5_readPair_66 (by decide) ?_
      refine lv_isub hx hb dX5_readPair_68 ?_
      refine lv_istore (lv' := [(4, .int (r_106 - 50)), (3, .int r_99), (2, .int r_93), (0, .ref a_t), (1, .ref a_p1)]) hx hb dX5_readPair_69 hl (by decide) rfl (fun ls hl => ?_)
      refine lv_aload_n hx hb dX5_readPair_71 rfl (lv_at hl 3 rfl) ?_
      refine lv_iconst (v := 0) hx hb dX5_readPair_72 (by decide) ?_
      refine lv_bipush (v := 99) hx hb dX5_readPair_73 (by decide) ?_
      obtain ⟨⟨r_112, z_113, z_114, z_115, z_116⟩, hc_117, hf⟩ := hb_b hf
      refine cl_Vi (rest := []) [0, 2] [some 0, none, some 1, none, none, none, none] 7 0 C0 hK hP hD hS hA (c_X5_nextNumber l D cy a_t a_t_text i_t_length f_t_text z_107 z_108 z_109 z_110 0 99 r_112 z_113 z_114 z_115 z_116 hc_117) (cwV 2 hts gX5_readPair_X5_nextNumber rfl rfl rfl (by decide +kernel) ⟨Nat.le_of_ble_eq_true rfl, Nat.le_of_ble_eq_true rfl⟩) rfl (by decide) rfl rfl rfl rfl rfl rfl rfl hl.1 rfl (Nat.le_of_ble_eq_true rfl) dX5_readPair_75 ⟨Nat.zero_le _, Nat.zero_le _⟩ (fun H locs hP hD hS => ?_)
      have hP : va_P D vwCl [(a_t, .inr (5, [.ref a_t_text, .int i_t_length, .int z_113, .int z_114, .int z_115, .int z_116])), (a_p1, .inr (7, [o_p1_length, .int i_p1_words, o_p1_frames, .int i_p1_pairs, o_p1_kinds, o_p1_worths, o_p1_framed, .ref a_p1_paired, .ref a_p1_pairWorths, o_p1_scales])), (a_t_text, .inl (cy 1, 500, .inl f_t_text)), (a_p1_paired, .inl (cy 0, 64, .inl f_p1_paired)), (a_p1_pairWorths, .inl (cy 6, 2, .inr (.inr (.inr (.inr (rfL [a_p1_pairWorths0, a_p1_pairWorths1])))))), (a_p1_pairWorths0, .inl (cy 0, 64, .inl f_p1_pairWorths0)), (a_p1_pairWorths1, .inl (cy 0, 64, .inl f_p1_pairWorths1))] H := hP
      have hD : va_D A [(a_t, .inr (5, [.ref a_t_text, .int i_t_length, .int z_113, .int z_114, .int z_115, .int z_116])), (a_p1, .inr (7, [o_p1_length, .int i_p1_words, o_p1_frames, .int i_p1_pairs, o_p1_kinds, o_p1_worths, o_p1_framed, .ref a_p1_paired, .ref a_p1_pairWorths, o_p1_scales])), (a_t_text, .inl (cy 1, 500, .inl f_t_text)), (a_p1_paired, .inl (cy 0, 64, .inl f_p1_paired)), (a_p1_pairWorths, .inl (cy 6, 2, .inr (.inr (.inr (.inr (rfL [a_p1_pairWorths0, a_p1_pairWorths1])))))), (a_p1_pairWorths0, .inl (cy 0, 64, .inl f_p1_pairWorths0)), (a_p1_pairWorths1, .inl (cy 0, 64, .inl f_p1_pairWorths1))] := hD
      refine lv_bipush (v := 50) hx hb dX5_readPair_78 (by decide) ?_
      refine lv_isub hx hb dX5_readPair_80 ?_
      refine lv_istore (lv' := [(5, .int (r_112 - 50)), (4, .int (r_106 - 50)), (3, .int r_99), (2, .int r_93), (0, .ref a_t), (1, .ref a_p1)]) hx hb dX5_readPair_81 hl (by decide) rfl (fun ls hl => ?_)
      refine lv_aload_n hx hb dX5_readPair_83 rfl (lv_at hl 4 rfl) ?_
      refine lv_bipush (v := 59) hx hb dX5_readPair_84 (by decide) ?_
      obtain ⟨⟨z_118, z_119, z_120, z_121⟩, hc_122, hf⟩ := hb_b hf
      refine cl_Vv (rest := []) [0, 2] [some 0, none, some 1, none, none, none, none] 7 0 C0 hK hP hD hS hA (c_X5_nextSign l D cy a_t a_t_text i_t_length f_t_text z_113 z_114 z_115 z_116 59 z_118 z_119 z_120 z_121 hc_122) (cwV 1 hts gX5_readPair_X5_nextSign rfl rfl rfl (by decide +kernel) ⟨Nat.le_of_ble_eq_true rfl, Nat.le_of_ble_eq_true rfl⟩) rfl (by decide) rfl rfl rfl rfl rfl rfl rfl hl.1 rfl (Nat.le_of_ble_eq_true rfl) dX5_readPair_86 ⟨Nat.zero_le _, Nat.zero_le _⟩ (fun H locs hP hD hS => ?_)
      have hP : va_P D vwCl [(a_t, .inr (5, [.ref a_t_text, .int i_t_length, .int z_118, .int z_119, .int z_120, .int z_121])), (a_p1, .inr (7, [o_p1_length, .int i_p1_words, o_p1_frames, .int i_p1_pairs, o_p1_kinds, o_p1_worths, o_p1_framed, .ref a_p1_paired, .ref a_p1_pairWorths, o_p1_scales])), (a_t_text, .inl (cy 1, 500, .inl f_t_text)), (a_p1_paired, .inl (cy 0, 64, .inl f_p1_paired)), (a_p1_pairWorths, .inl (cy 6, 2, .inr (.inr (.inr (.inr (rfL [a_p1_pairWorths0, a_p1_pairWorths1])))))), (a_p1_pairWorths0, .inl (cy 0, 64, .inl f_p1_pairWorths0)), (a_p1_pairWorths1, .inl (cy 0, 64, .inl f_p1_pairWorths1))] H := hP
      have hD : va_D A [(a_t, .inr (5, [.ref a_t_text, .int i_t_length, .int z_118, .int z_119, .int z_120, .int z_121])), (a_p1, .inr (7, [o_p1_length, .int i_p1_words, o_p1_frames, .int i_p1_pairs, o_p1_kinds, o_p1_worths, o_p1_framed, .ref a_p1_paired, .ref a_p1_pairWorths, o_p1_scales])), (a_t_text, .inl (cy 1, 500, .inl f_t_text)), (a_p1_paired, .inl (cy 0, 64, .inl f_p1_paired)), (a_p1_pairWorths, .inl (cy 6, 2, .inr (.inr (.inr (.inr (rfL [a_p1_pairWorths0, a_p1_pairWorths1])))))), (a_p1_pairWorths0, .inl (cy 0, 64, .inl f_p1_pairWorths0)), (a_p1_pairWorths1, .inl (cy 0, 64, .inl f_p1_pairWorths1))] := hD
      refine lv_aload_n hx hb dX5_readPair_89 rfl (lv_at hl 4 rfl) ?_
      refine va_get (D := D) (ci := 5) (v := .int z_120) (C := RX5) (T := TX5) (N := 6) hx hb hts uX5_readPair_X5 hown hK.1.1 hP 0 rfl rfl 4 (by decide) (hts _ mX5_readPair_26) (fun _ h9 => h9) rfl dX5_readPair_90 ?_
      refine lv_if_ne (tgt := 106) hx hb dX5_readPair_93 (by decide) (fun c_123 => ?_) (fun c_123 => ?_)
      · have hf := hb_f hf c_123
        obtain ⟨e_0, e_1, e_2, e_3, e_4, e_5, e_6, e_7⟩ := tu8 hf
        subst e_0; subst e_1; subst e_2; subst e_3; subst e_4; subst e_5; subst e_6; subst e_7
        exact hret _ _ _ _ dX5_readPair_106 hP hS
      · have hf := hb_t hf c_123
        refine lv_aload_n hx hb dX5_readPair_96 rfl (lv_at hl 5 rfl) ?_
        refine lv_iload_n hx hb dX5_readPair_97 rfl (lv_at hl 3 rfl) ?_
        refine lv_iload_n hx hb dX5_readPair_98 rfl (lv_at hl 2 rfl) ?_
        refine lv_iload hx hb dX5_readPair_99 (lv_at hl 1 rfl) ?_
        refine lv_iload hx hb dX5_readPair_101 (lv_at hl 0 rfl) ?_
        obtain ⟨⟨z_124, z_125, z_126, z_127⟩, hc_128, hf⟩ := hb_b hf
        refine cl_Vv (rest := []) [1, 3, 4, 5, 6] [none, some 0, none, some 1, some 2, some 3, some 4] 7 1 C0 hK hP hD hS hA (c_X7_addPair l D cy a_p1 a_p1_paired a_p1_pairWorths a_p1_pairWorths0 a_p1_pairWorths1 o_p1_length (.int i_p1_words) o_p1_frames o_p1_kinds o_p1_worths o_p1_framed o_p1_scales i_p1_pairs f_p1_paired f_p1_pairWorths0 f_p1_pairWorths1 r_93 r_99 (r_106 - 50) (r_112 - 50) z_124 z_125 z_126 z_127 hc_128) (cwV 4 hts gX5_readPair_X7_addPair rfl rfl rfl (by decide +kernel) ⟨Nat.le_of_ble_eq_true rfl, Nat.le_of_ble_eq_true rfl⟩) rfl (by decide) rfl rfl rfl rfl rfl rfl rfl hl.1 rfl (Nat.le_of_ble_eq_true rfl) dX5_readPair_103 ⟨Nat.zero_le _, Nat.zero_le _⟩ (fun H locs hP hD hS => ?_)
        have hP : va_P D vwCl [(a_t, .inr (5, [.ref a_t_text, .int i_t_length, .int z_118, .int z_119, .int z_120, .int z_121])), (a_p1, .inr (7, [o_p1_length, .int i_p1_words, o_p1_frames, .int z_124, o_p1_kinds, o_p1_worths, o_p1_framed, .ref a_p1_paired, .ref a_p1_pairWorths, o_p1_scales])), (a_t_text, .inl (cy 1, 500, .inl f_t_text)), (a_p1_paired, .inl (cy 0, 64, .inl z_125)), (a_p1_pairWorths, .inl (cy 6, 2, .inr (.inr (.inr (.inr (rfL [a_p1_pairWorths0, a_p1_pairWorths1])))))), (a_p1_pairWorths0, .inl (cy 0, 64, .inl z_126)), (a_p1_pairWorths1, .inl (cy 0, 64, .inl z_127))] H := hP
        have hD : va_D A [(a_t, .inr (5, [.ref a_t_text, .int i_t_length, .int z_118, .int z_119, .int z_120, .int z_121])), (a_p1, .inr (7, [o_p1_length, .int i_p1_words, o_p1_frames, .int z_124, o_p1_kinds, o_p1_worths, o_p1_framed, .ref a_p1_paired, .ref a_p1_pairWorths, o_p1_scales])), (a_t_text, .inl (cy 1, 500, .inl f_t_text)), (a_p1_paired, .inl (cy 0, 64, .inl z_125)), (a_p1_pairWorths, .inl (cy 6, 2, .inr (.inr (.inr (.inr (rfL [a_p1_pairWorths0, a_p1_pairWorths1])))))), (a_p1_pairWorths0, .inl (cy 0, 64, .inl z_126)), (a_p1_pairWorths1, .inl (cy 0, 64, .inl z_127))] := hD
        obtain ⟨e_0, e_1, e_2, e_3, e_4, e_5, e_6, e_7⟩ := tu8 hf
        subst e_0; subst e_1; subst e_2; subst e_3; subst e_4; subst e_5; subst e_6; subst e_7
        exact hret _ _ _ _ dX5_readPair_106 hP hS
    · have hf := hb_t hf c_105
      refine lv_aload_n hx hb dX5_readPair_45 rfl (lv_at hl 3 rfl) ?_
      refine lv_iload_n hx hb dX5_readPair_46 rfl (lv_at hl 1 rfl) ?_
      refine lv_iload_n hx hb dX5_readPair_47 rfl (lv_at hl 0 rfl) ?_
      obtain ⟨r_129, hc_130, hf⟩ := hb_b hf
      refine cl_Vi (rest := []) [1, 3] [none, some 0, none, some 1, none, none, none] 7 1 C0 hK hP hD hS hA (c_X7_hasPair l D cy a_p1 a_p1_paired o_p1_length (.int i_p1_words) o_p1_frames (.int i_p1_pairs) o_p1_kinds o_p1_worths o_p1_framed (.ref a_p1_pairWorths) o_p1_scales f_p1_paired r_93 r_99 r_129 hc_130) (cwV 2 hts gX5_readPair_X7_hasPair rfl rfl rfl (by decide +kernel) ⟨Nat.le_of_ble_eq_true rfl, Nat.le_of_ble_eq_true rfl⟩) rfl (by decide) rfl rfl rfl rfl rfl rfl rfl hl.1 rfl (Nat.le_of_ble_eq_true rfl) dX5_readPair_48 ⟨Nat.zero_le _, Nat.zero_le _⟩ (fun H locs hP hD hS => ?_)
      have hP : va_P D vwCl [(a_t, .inr (5, [.ref a_t_text, .int i_t_length, .int z_100, .int z_101, .int z_102, .int z_103])), (a_p1, .inr (7, [o_p1_length, .int i_p1_words, o_p1_frames, .int i_p1_pairs, o_p1_kinds, o_p1_worths, o_p1_framed, .ref a_p1_paired, .ref a_p1_pairWorths, o_p1_scales])), (a_t_text, .inl (cy 1, 500, .inl f_t_text)), (a_p1_paired, .inl (cy 0, 64, .inl f_p1_paired)), (a_p1_pairWorths, .inl (cy 6, 2, .inr (.inr (.inr (.inr (rfL [a_p1_pairWorths0, a_p1_pairWorths1])))))), (a_p1_pairWorths0, .inl (cy 0, 64, .inl f_p1_pairWorths0)), (a_p1_pairWorths1, .inl (cy 0, 64, .inl f_p1_pairWorths1))] H := hP
      have hD : va_D A [(a_t, .inr (5, [.ref a_t_text, .int i_t_length, .int z_100, .int z_101, .int z_102, .int z_103])), (a_p1, .inr (7, [o_p1_length, .int i_p1_words, o_p1_frames, .int i_p1_pairs, o_p1_kinds, o_p1_worths, o_p1_framed, .ref a_p1_paired, .ref a_p1_pairWorths, o_p1_scales])), (a_t_text, .inl (cy 1, 500, .inl f_t_text)), (a_p1_paired, .inl (cy 0, 64, .inl f_p1_paired)), (a_p1_pairWorths, .inl (cy 6, 2, .inr (.inr (.inr (.inr (rfL [a_p1_pairWorths0, a_p1_pairWorths1])))))), (a_p1_pairWorths0, .inl (cy 0, 64, .inl f_p1_pairWorths0)), (a_p1_pairWorths1, .inl (cy 0, 64, .inl f_p1_pairWorths1))] := hD
      refine lv_if_eq (tgt := 59) hx hb dX5_readPair_51 (by decide) (fun c_131 => ?_) (fun c_131 => ?_)
      · have hf := hb_t hf c_131
        refine lv_aload_n hx hb dX5_readPair_59 rfl (lv_at hl 2 rfl) ?_
        refine lv_iconst (v := 0) hx hb dX5_readPair_60 (by decide) ?_
        refine lv_bipush (v := 99) hx hb dX5_readPair_61 (by decide) ?_
        obtain ⟨⟨r_132, z_133, z_134, z_135, z_136⟩, hc_137, hf⟩ := hb_b hf
        refine cl_Vi (rest := []) [0, 2] [some 0, none, some 1, none, none, none, none] 7 0 C0 hK hP hD hS hA (c_X5_nextNumber l D cy a_t a_t_text i_t_length f_t_text z_100 z_101 z_102 z_103 0 99 r_132 z_133 z_134 z_135 z_136 hc_137) (cwV 2 hts gX5_readPair_X5_nextNumber rfl rfl rfl (by decide +kernel) ⟨Nat.le_of_ble_eq_true rfl, Nat.le_of_ble_eq_true rfl⟩) rfl (by decide) rfl rfl rfl rfl rfl rfl rfl hl.1 rfl (Nat.le_of_ble_eq_true rfl) dX5_readPair_63 ⟨Nat.zero_le _, Nat.zero_le _⟩ (fun H locs hP hD hS => ?_)
        have hP : va_P D vwCl [(a_t, .inr (5, [.ref a_t_text, .int i_t_length, .int z_133, .int z_134, .int z_135, .int z_136])), (a_p1, .inr (7, [o_p1_length, .int i_p1_words, o_p1_frames, .int i_p1_pairs, o_p1_kinds, o_p1_worths, o_p1_framed, .ref a_p1_paired, .ref a_p1_pairWorths, o_p1_scales])), (a_t_text, .inl (cy 1, 500, .inl f_t_text)), (a_p1_paired, .inl (cy 0, 64, .inl f_p1_paired)), (a_p1_pairWorths, .inl (cy 6, 2, .inr (.inr (.inr (.inr (rfL [a_p1_pairWorths0, a_p1_pairWorths1])))))), (a_p1_pairWorths0, .inl (cy 0, 64, .inl f_p1_pairWorths0)), (a_p1_pairWorths1, .inl (cy 0, 64, .inl f_p1_pairWorths1))] H := hP
        have hD : va_D A [(a_t, .inr (5, [.ref a_t_text, .int i_t_length, .int z_133, .int z_134, .int z_135, .int z_136])), (a_p1, .inr (7, [o_p1_length, .int i_p1_words, o_p1_frames, .int i_p1_pairs, o_p1_kinds, o_p1_worths, o_p1_framed, .ref a_p1_paired, .ref a_p1_pairWorths, o_p1_scales])), (a_t_text, .inl (cy 1, 500, .inl f_t_text)), (a_p1_paired, .inl (cy 0, 64, .inl f_p1_paired)), (a_p1_pairWorths, .inl (cy 6, 2, .inr (.inr (.inr (.inr (rfL [a_p1_pairWorths0, a_p1_pairWorths1])))))), (a_p1_pairWorths0, .inl (cy 0, 64, .inl f_p1_pairWorths0)), (a_p1_pairWorths1, .inl (cy 0, 64, .inl f_p1_pairWorths1))] := hD
        refine lv_bipush (v := 50) hx hb dX5_readPair_66 (by decide) ?_
        refine lv_isub hx hb dX5_readPair_68 ?_
        refine lv_istore (lv' := [(4, .int (r_132 - 50)), (3, .int r_99), (2, .int r_93), (0, .ref a_t), (1, .ref a_p1)]) hx hb dX5_readPair_69 hl (by decide) rfl (fun ls hl => ?_)
        refine lv_aload_n hx hb dX5_readPair_71 rfl (lv_at hl 3 rfl) ?_
        refine lv_iconst (v := 0) hx hb dX5_readPair_72 (by decide) ?_
        refine lv_bipush (v := 99) hx hb dX5_readPair_73 (by decide) ?_
        obtain ⟨⟨r_138, z_139, z_140, z_141, z_142⟩, hc_143, hf⟩ := hb_b hf
        refine cl_Vi (rest := []) [0, 2] [some 0, none, some 1, none, none, none, none] 7 0 C0 hK hP hD hS hA (c_X5_nextNumber l D cy a_t a_t_text i_t_length f_t_text z_133 z_134 z_135 z_136 0 99 r_138 z_139 z_140 z_141 z_142 hc_143) (cwV 2 hts gX5_readPair_X5_nextNumber rfl rfl rfl (by decide +kernel) ⟨Nat.le_of_ble_eq_true rfl, Nat.le_of_ble_eq_true rfl⟩) rfl (by decide) rfl rfl rfl rfl rfl rfl rfl hl.1 rfl (Nat.le_of_ble_eq_true rfl) dX5_readPair_75 ⟨Nat.zero_le _, Nat.zero_le _⟩ (fun H locs hP hD hS => ?_)
        have hP : va_P D vwCl [(a_t, .inr (5, [.ref a_t_text, .int i_t_length, .int z_139, .int z_140, .int z_141, .int z_142])), (a_p1, .inr (7, [o_p1_length, .int i_p1_words, o_p1_frames, .int i_p1_pairs, o_p1_kinds, o_p1_worths, o_p1_framed, .ref a_p1_paired, .ref a_p1_pairWorths, o_p1_scales])), (a_t_text, .inl (cy 1, 500, .inl f_t_text)), (a_p1_paired, .inl (cy 0, 64, .inl f_p1_paired)), (a_p1_pairWorths, .inl (cy 6, 2, .inr (.inr (.inr (.inr (rfL [a_p1_pairWorths0, a_p1_pairWorths1])))))), (a_p1_pairWorths0, .inl (cy 0, 64, .inl f_p1_pairWorths0)), (a_p1_pairWorths1, .inl (cy 0, 64, .inl f_p1_pairWorths1))] H := hP
        have hD : va_D A [(a_t, .inr (5, [.ref a_t_text, .int i_t_length, .int z_139, .int z_140, .int z_141, .int z_142])), (a_p1, .inr (7, [o_p1_length, .int i_p1_words, o_p1_frames, .int i_p1_pairs, o_p1_kinds, o_p1_worths, o_p1_framed, .ref a_p1_paired, .ref a_p1_pairWorths, o_p1_scales])), (a_t_text, .inl (cy 1, 500, .inl f_t_text)), (a_p1_paired, .inl (cy 0, 64, .inl f_p1_paired)), (a_p1_pairWorths, .inl (cy 6, 2, .inr (.inr (.inr (.inr (rfL [a_p1_pairWorths0, a_p1_pairWorths1])))))), (a_p1_pairWorths0, .inl (cy 0, 64, .inl f_p1_pairWorths0)), (a_p1_pairWorths1, .inl (cy 0, 64, .inl f_p1_pairWorths1))] := hD
        refine lv_bipush (v := 50) hx hb dX5_readPair_78 (by decide) ?_
        refine lv_isub hx hb dX5_readPair_80 ?_
        refine lv_istore (lv' := [(5, .int (r_138 - 50)), (4, .int (r_132 - 50)), (3, .int r_99), (2, .int r_93), (0, .ref a_t), (1, .ref a_p1)]) hx hb dX5_readPair_81 hl (by decide) rfl (fun ls hl => ?_)
        refine lv_aload_n hx hb dX5_readPair_83 rfl (lv_at hl 4 rfl) ?_
        refine lv_bipush (v := 59) hx hb dX5_readPair_84 (by decide) ?_
        obtain ⟨⟨z_144, z_145, z_146, z_147⟩, hc_148, hf⟩ := hb_b hf
        refine cl_Vv (rest := []) [0, 2] [some 0, none, some 1, none, none, none, none] 7 0 C0 hK hP hD hS hA (c_X5_nextSign l D cy a_t a_t_text i_t_length f_t_text z_139 z_140 z_141 z_142 59 z_144 z_145 z_146 z_147 hc_148) (cwV 1 hts gX5_readPair_X5_nextSign rfl rfl rfl (by decide +kernel) ⟨Nat.le_of_ble_eq_true rfl, Nat.le_of_ble_eq_true rfl⟩) rfl (by decide) rfl rfl rfl rfl rfl rfl rfl hl.1 rfl (Nat.le_of_ble_eq_true rfl) dX5_readPair_86 ⟨Nat.zero_le _, Nat.zero_le _⟩ (fun H locs hP hD hS => ?_)
        have hP : va_P D vwCl [(a_t, .inr (5, [.ref a_t_text, .int i_t_length, .int z_144, .int z_145, .int z_146, .int z_147])), (a_p1, .inr (7, [o_p1_length, .int i_p1_words, o_p1_frames, .int i_p1_pairs, o_p1_kinds, o_p1_worths, o_p1_framed, .ref a_p1_paired, .ref a_p1_pairWorths, o_p1_scales])), (a_t_text, .inl (cy 1, 500, .inl f_t_text)), (a_p1_paired, .inl (cy 0, 64, .inl f_p1_paired)), (a_p1_pairWorths, .inl (cy 6, 2, .inr (.inr (.inr (.inr (rfL [a_p1_pairWorths0, a_p1_pairWorths1])))))), (a_p1_pairWorths0, .inl (cy 0, 64, .inl f_p1_pairWorths0)), (a_p1_pairWorths1, .inl (cy 0, 64, .inl f_p1_pairWorths1))] H := hP
        have hD : va_D A [(a_t, .inr (5, [.ref a_t_text, .int i_t_length, .int z_144, .int z_145, .int z_146, .int z_147])), (a_p1, .inr (7, [o_p1_length, .int i_p1_words, o_p1_frames, .int i_p1_pairs, o_p1_kinds, o_p1_worths, o_p1_framed, .ref a_p1_paired, .ref a_p1_pairWorths, o_p1_scales])), (a_t_text, .inl (cy 1, 500, .inl f_t_text)), (a_p1_paired, .inl (cy 0, 64, .inl f_p1_paired)), (a_p1_pairWorths, .inl (cy 6, 2, .inr (.inr (.inr (.inr (rfL [a_p1_pairWorths0, a_p1_pairWorths1])))))), (a_p1_pairWorths0, .inl (cy 0, 64, .inl f_p1_pairWorths0)), (a_p1_pairWorths1, .inl (cy 0, 64, .inl f_p1_pairWorths1))] := hD
        refine lv_aload_n hx hb dX5_readPair_89 rfl (lv_at hl 4 rfl) ?_
        refine va_get (D := D) (ci := 5) (v := .int z_146) (C := RX5) (T := TX5) (N := 6) hx hb hts uX5_readPair_X5 hown hK.1.1 hP 0 rfl rfl 4 (by decide) (hts _ mX5_readPair_26) (fun _ h9 => h9) rfl dX5_readPair_90 ?_
        refine lv_if_ne (tgt := 106) hx hb dX5_readPair_93 (by decide) (fun c_149 => ?_) (fun c_149 => ?_)
        · have hf := hb_f hf c_149
          obtain ⟨e_0, e_1, e_2, e_3, e_4, e_5, e_6, e_7⟩ := tu8 hf
          subst e_0; subst e_1; subst e_2; subst e_3; subst e_4; subst e_5; subst e_6; subst e_7
          exact hret _ _ _ _ dX5_readPair_106 hP hS
        · have hf := hb_t hf c_149
          refine lv_aload_n hx hb dX5_readPair_96 rfl (lv_at hl 5 rfl) ?_
          refine lv_iload_n hx hb dX5_readPair_97 rfl (lv_at hl 3 rfl) ?_
          refine lv_iload_n hx hb dX5_readPair_98 rfl (lv_at hl 2 rfl) ?_
          refine lv_iload hx hb dX5_readPair_99 (lv_at hl 1 rfl) ?_
          refine lv_iload hx hb dX5_readPair_101 (lv_at hl 0 rfl) ?_
          obtain ⟨⟨z_150, z_151, z_152, z_153⟩, hc_154, hf⟩ := hb_b hf
          refine cl_Vv (rest := []) [1, 3, 4, 5, 6] [none, some 0, none, some 1, some 2, some 3, some 4] 7 1 C0 hK hP hD hS hA (c_X7_addPair l D cy a_p1 a_p1_paired a_p1_pairWorths a_p1_pairWorths0 a_p1_pairWorths1 o_p1_length (.int i_p1_words) o_p1_frames o_p1_kinds o_p1_worths o_p1_framed o_p1_scales i_p1_pairs f_p1_paired f_p1_pairWorths0 f_p1_pairWorths1 r_93 r_99 (r_132 - 50) (r_138 - 50) z_150 z_151 z_152 z_153 hc_154) (cwV 4 hts gX5_readPair_X7_addPair rfl rfl rfl (by decide +kernel) ⟨Nat.le_of_ble_eq_true rfl, Nat.le_of_ble_eq_true rfl⟩) rfl (by decide) rfl rfl rfl rfl rfl rfl rfl hl.1 rfl (Nat.le_of_ble_eq_true rfl) dX5_readPair_103 ⟨Nat.zero_le _, Nat.zero_le _⟩ (fun H locs hP hD hS => ?_)
          have hP : va_P D vwCl [(a_t, .inr (5, [.ref a_t_text, .int i_t_length, .int z_144, .int z_145, .int z_146, .int z_147])), (a_p1, .inr (7, [o_p1_length, .int i_p1_words, o_p1_frames, .int z_150, o_p1_kinds, o_p1_worths, o_p1_framed, .ref a_p1_paired, .ref a_p1_pairWorths, o_p1_scales])), (a_t_text, .inl (cy 1, 500, .inl f_t_text)), (a_p1_paired, .inl (cy 0, 64, .inl z_151)), (a_p1_pairWorths, .inl (cy 6, 2, .inr (.inr (.inr (.inr (rfL [a_p1_pairWorths0, a_p1_pairWorths1])))))), (a_p1_pairWorths0, .inl (cy 0, 64, .inl z_152)), (a_p1_pairWorths1, .inl (cy 0, 64, .inl z_153))] H := hP
          have hD : va_D A [(a_t, .inr (5, [.ref a_t_text, .int i_t_length, .int z_144, .int z_145, .int z_146, .int z_147])), (a_p1, .inr (7, [o_p1_length, .int i_p1_words, o_p1_frames, .int z_150, o_p1_kinds, o_p1_worths, o_p1_framed, .ref a_p1_paired, .ref a_p1_pairWorths, o_p1_scales])), (a_t_text, .inl (cy 1, 500, .inl f_t_text)), (a_p1_paired, .inl (cy 0, 64, .inl z_151)), (a_p1_pairWorths, .inl (cy 6, 2, .inr (.inr (.inr (.inr (rfL [a_p1_pairWorths0, a_p1_pairWorths1])))))), (a_p1_pairWorths0, .inl (cy 0, 64, .inl z_152)), (a_p1_pairWorths1, .inl (cy 0, 64, .inl z_153))] := hD
          obtain ⟨e_0, e_1, e_2, e_3, e_4, e_5, e_6, e_7⟩ := tu8 hf
          subst e_0; subst e_1; subst e_2; subst e_3; subst e_4; subst e_5; subst e_6; subst e_7
          exact hret _ _ _ _ dX5_readPair_106 hP hS
      · have hf := hb_f hf c_131
        refine lv_aload_n hx hb dX5_readPair_54 rfl (lv_at hl 2 rfl) ?_
        refine lv_iconst (v := 4) hx hb dX5_readPair_55 (by decide) ?_
        obtain ⟨⟨z_155, z_156⟩, hc_157, hf⟩ := hb_b hf
        refine cl_Vv (rest := []) [0] [some 0, none, none, none, none, none, none] 7 0 C0 hK hP hD hS hA (c_X5_fail l D cy a_t (.ref a_t_text) (.int i_t_length) (.int z_100) z_101 z_102 z_103 4 z_155 z_156 hc_157) (cwV 1 hts gX5_readPair_X5_fail rfl rfl rfl (by decide +kernel) ⟨Nat.le_of_ble_eq_true rfl, Nat.le_of_ble_eq_true rfl⟩) rfl (by decide) rfl rfl rfl rfl rfl rfl rfl hl.1 rfl (Nat.le_of_ble_eq_true rfl) dX5_readPair_56 ⟨Nat.zero_le _, Nat.zero_le _⟩ (fun H locs hP hD hS => ?_)
        have hP : va_P D vwCl [(a_t, .inr (5, [.ref a_t_text, .int i_t_length, .int z_100, .int z_101, .int z_155, .int z_156])), (a_p1, .inr (7, [o_p1_length, .int i_p1_words, o_p1_frames, .int i_p1_pairs, o_p1_kinds, o_p1_worths, o_p1_framed, .ref a_p1_paired, .ref a_p1_pairWorths, o_p1_scales])), (a_t_text, .inl (cy 1, 500, .inl f_t_text)), (a_p1_paired, .inl (cy 0, 64, .inl f_p1_paired)), (a_p1_pairWorths, .inl (cy 6, 2, .inr (.inr (.inr (.inr (rfL [a_p1_pairWorths0, a_p1_pairWorths1])))))), (a_p1_pairWorths0, .inl (cy 0, 64, .inl f_p1_pairWorths0)), (a_p1_pairWorths1, .inl (cy 0, 64, .inl f_p1_pairWorths1))] H := hP
        have hD : va_D A [(a_t, .inr (5, [.ref a_t_text, .int i_t_length, .int z_100, .int z_101, .int z_155, .int z_156])), (a_p1, .inr (7, [o_p1_length, .int i_p1_words, o_p1_frames, .int i_p1_pairs, o_p1_kinds, o_p1_worths, o_p1_framed, .ref a_p1_paired, .ref a_p1_pairWorths, o_p1_scales])), (a_t_text, .inl (cy 1, 500, .inl f_t_text)), (a_p1_paired, .inl (cy 0, 64, .inl f_p1_paired)), (a_p1_pairWorths, .inl (cy 6, 2, .inr (.inr (.inr (.inr (rfL [a_p1_pairWorths0, a_p1_pairWorths1])))))), (a_p1_pairWorths0, .inl (cy 0, 64, .inl f_p1_pairWorths0)), (a_p1_pairWorths1, .inl (cy 0, 64, .inl f_p1_pairWorths1))] := hD
        refine lv_aload_n hx hb dX5_readPair_59 rfl (lv_at hl 2 rfl) ?_
        refine lv_iconst (v := 0) hx hb dX5_readPair_60 (by decide) ?_
        refine lv_bipush (v := 99) hx hb dX5_readPair_61 (by decide) ?_
        obtain ⟨⟨r_158, z_159, z_160, z_161, z_162⟩, hc_163, hf⟩ := hb_b hf
        refine cl_Vi (rest := []) [0, 2] [some 0, none, some 1, none, none, none, none] 7 0 C0 hK hP hD hS hA (c_X5_nextNumber l D cy a_t a_t_text i_t_length f_t_text z_100 z_101 z_155 z_156 0 99 r_158 z_159 z_160 z_161 z_162 hc_163) (cwV 2 hts gX5_readPair_X5_nextNumber rfl rfl rfl (by decide +kernel) ⟨Nat.le_of_ble_eq_true rfl, Nat.le_of_ble_eq_true rfl⟩) rfl (by decide) rfl rfl rfl rfl rfl rfl rfl hl.1 rfl (Nat.le_of_ble_eq_true rfl) dX5_readPair_63 ⟨Nat.zero_le _, Nat.zero_le _⟩ (fun H locs hP hD hS => ?_)
        have hP : va_P D vwCl [(a_t, .inr (5, [.ref a_t_text, .int i_t_length, .int z_159, .int z_160, .int z_161, .int z_162])), (a_p1, .inr (7, [o_p1_length, .int i_p1_words, o_p1_frames, .int i_p1_pairs, o_p1_kinds, o_p1_worths, o_p1_framed, .ref a_p1_paired, .ref a_p1_pairWorths, o_p1_scales])), (a_t_text, .inl (cy 1, 500, .inl f_t_text)), (a_p1_paired, .inl (cy 0, 64, .inl f_p1_paired)), (a_p1_pairWorths, .inl (cy 6, 2, .inr (.inr (.inr (.inr (rfL [a_p1_pairWorths0, a_p1_pairWorths1])))))), (a_p1_pairWorths0, .inl (cy 0, 64, .inl f_p1_pairWorths0)), (a_p1_pairWorths1, .inl (cy 0, 64, .inl f_p1_pairWorths1))] H := hP
        have hD : va_D A [(a_t, .inr (5, [.ref a_t_text, .int i_t_length, .int z_159, .int z_160, .int z_161, .int z_162])), (a_p1, .inr (7, [o_p1_length, .int i_p1_words, o_p1_frames, .int i_p1_pairs, o_p1_kinds, o_p1_worths, o_p1_framed, .ref a_p1_paired, .ref a_p1_pairWorths, o_p1_scales])), (a_t_text, .inl (cy 1, 500, .inl f_t_text)), (a_p1_paired, .inl (cy 0, 64, .inl f_p1_paired)), (a_p1_pairWorths, .inl (cy 6, 2, .inr (.inr (.inr (.inr (rfL [a_p1_pairWorths0, a_p1_pairWorths1])))))), (a_p1_pairWorths0, .inl (cy 0, 64, .inl f_p1_pairWorths0)), (a_p1_pairWorths1, .inl (cy 0, 64, .inl f_p1_pairWorths1))] := hD
        refine lv_bipush (v := 50) hx hb dX5_readPair_66 (by decide) ?_
        refine lv_isub hx hb dX5_readPair_68 ?_
        refine lv_istore (lv' := [(4, .int (r_158 - 50)), (3, .int r_99), (2, .int r_93), (0, .ref a_t), (1, .ref a_p1)]) hx hb dX5_readPair_69 hl (by decide) rfl (fun ls hl => ?_)
        refine lv_aload_n hx hb dX5_readPair_71 rfl (lv_at hl 3 rfl) ?_
        refine lv_iconst (v := 0) hx hb dX5_readPair_72 (by decide) ?_
        refine lv_bipush (v := 99) hx hb dX5_readPair_73 (by decide) ?_
        obtain ⟨⟨r_164, z_165, z_166, z_167, z_168⟩, hc_169, hf⟩ := hb_b hf
        refine cl_Vi (rest := []) [0, 2] [some 0, none, some 1, none, none, none, none] 7 0 C0 hK hP hD hS hA (c_X5_nextNumber l D cy a_t a_t_text i_t_length f_t_text z_159 z_160 z_161 z_162 0 99 r_164 z_165 z_166 z_167 z_168 hc_169) (cwV 2 hts gX5_readPair_X5_nextNumber rfl rfl rfl (by decide +kernel) ⟨Nat.le_of_ble_eq_true rfl, Nat.le_of_ble_eq_true rfl⟩) rfl (by decide) rfl rfl rfl rfl rfl rfl rfl hl.1 rfl (Nat.le_of_ble_eq_true rfl) dX5_readPair_75 ⟨Nat.zero_le _, Nat.zero_le _⟩ (fun H locs hP hD hS => ?_)
        have hP : va_P D vwCl [(a_t, .inr (5, [.ref a_t_text, .int i_t_length, .int z_165, .int z_166, .int z_167, .int z_168])), (a_p1, .inr (7, [o_p1_length, .int i_p1_words, o_p1_frames, .int i_p1_pairs, o_p1_kinds, o_p1_worths, o_p1_framed, .ref a_p1_paired, .ref a_p1_pairWorths, o_p1_scales])), (a_t_text, .inl (cy 1, 500, .inl f_t_text)), (a_p1_paired, .inl (cy 0, 64, .inl f_p1_paired)), (a_p1_pairWorths, .inl (cy 6, 2, .inr (.inr (.inr (.inr (rfL [a_p1_pairWorths0, a_p1_pairWorths1])))))), (a_p1_pairWorths0, .inl (cy 0, 64, .inl f_p1_pairWorths0)), (a_p1_pairWorths1, .inl (cy 0, 64, .inl f_p1_pairWorths1))] H := hP
        have hD : va_D A [(a_t, .inr (5, [.ref a_t_text, .int i_t_length, .int z_165, .int z_166, .int z_167, .int z_168])), (a_p1, .inr (7, [o_p1_length, .int i_p1_words, o_p1_frames, .int i_p1_pairs, o_p1_kinds, o_p1_worths, o_p1_framed, .ref a_p1_paired, .ref a_p1_pairWorths, o_p1_scales])), (a_t_text, .inl (cy 1, 500, .inl f_t_text)), (a_p1_paired, .inl (cy 0, 64, .inl f_p1_paired)), (a_p1_pairWorths, .inl (cy 6, 2, .inr (.inr (.inr (.inr (rfL [a_p1_pairWorths0, a_p1_pairWorths1])))))), (a_p1_pairWorths0, .inl (cy 0, 64, .inl f_p1_pairWorths0)), (a_p1_pairWorths1, .inl (cy 0, 64, .inl f_p1_pairWorths1))] := hD
        refine lv_bipush (v := 50) hx hb dX5_readPair_78 (by decide) ?_
        refine lv_isub hx hb dX5_readPair_80 ?_
        refine lv_istore (lv' := [(5, .int (r_164 - 50)), (4, .int (r_158 - 50)), (3, .int r_99), (2, .int r_93), (0, .ref a_t), (1, .ref a_p1)]) hx hb dX5_readPair_81 hl (by decide) rfl (fun ls hl => ?_)
        refine lv_aload_n hx hb dX5_readPair_83 rfl (lv_at hl 4 rfl) ?_
        refine lv_bipush (v := 59) hx hb dX5_readPair_84 (by decide) ?_
        obtain ⟨⟨z_170, z_171, z_172, z_173⟩, hc_174, hf⟩ := hb_b hf
        refine cl_Vv (rest := []) [0, 2] [some 0, none, some 1, none, none, none, none] 7 0 C0 hK hP hD hS hA (c_X5_nextSign l D cy a_t a_t_text i_t_length f_t_text z_165 z_166 z_167 z_168 59 z_170 z_171 z_172 z_173 hc_174) (cwV 1 hts gX5_readPair_X5_nextSign rfl rfl rfl (by decide +kernel) ⟨Nat.le_of_ble_eq_true rfl, Nat.le_of_ble_eq_true rfl⟩) rfl (by decide) rfl rfl rfl rfl rfl rfl rfl hl.1 rfl (Nat.le_of_ble_eq_true rfl) dX5_readPair_86 ⟨Nat.zero_le _, Nat.zero_le _⟩ (fun H locs hP hD hS => ?_)
        have hP : va_P D vwCl [(a_t, .inr (5, [.ref a_t_text, .int i_t_length, .int z_170, .int z_171, .int z_172, .int z_173])), (a_p1, .inr (7, [o_p1_length, .int i_p1_words, o_p1_frames, .int i_p1_pairs, o_p1_kinds, o_p1_worths, o_p1_framed, .ref a_p1_paired, .ref a_p1_pairWorths, o_p1_scales])), (a_t_text, .inl (cy 1, 500, .inl f_t_text)), (a_p1_paired, .inl (cy 0, 64, .inl f_p1_paired)), (a_p1_pairWorths, .inl (cy 6, 2, .inr (.inr (.inr (.inr (rfL [a_p1_pairWorths0, a_p1_pairWorths1])))))), (a_p1_pairWorths0, .inl (cy 0, 64, .inl f_p1_pairWorths0)), (a_p1_pairWorths1, .inl (cy 0, 64, .inl f_p1_pairWorths1))] H := hP
        have hD : va_D A [(a_t, .inr (5, [.ref a_t_text, .int i_t_length, .int z_170, .int z_171, .int z_172, .int z_173])), (a_p1, .inr (7, [o_p1_length, .int i_p1_words, o_p1_frames, .int i_p1_pairs, o_p1_kinds, o_p1_worths, o_p1_framed, .ref a_p1_paired, .ref a_p1_pairWorths, o_p1_scales])), (a_t_text, .inl (cy 1, 500, .inl f_t_text)), (a_p1_paired, .inl (cy 0, 64, .inl f_p1_paired)), (a_p1_pairWorths, .inl (cy 6, 2, .inr (.inr (.inr (.inr (rfL [a_p1_pairWorths0, a_p1_pairWorths1])))))), (a_p1_pairWorths0, .inl (cy 0, 64, .inl f_p1_pairWorths0)), (a_p1_pairWorths1, .inl (cy 0, 64, .inl f_p1_pairWorths1))] := hD
        refine lv_aload_n hx hb dX5_readPair_89 rfl (lv_at hl 4 rfl) ?_
        refine va_get (D := D) (ci := 5) (v := .int z_172) (C := RX5) (T := TX5) (N := 6) hx hb hts uX5_readPair_X5 hown hK.1.1 hP 0 rfl rfl 4 (by decide) (hts _ mX5_readPair_26) (fun _ h9 => h9) rfl dX5_readPair_90 ?_
        refine lv_if_ne (tgt := 106) hx hb dX5_readPair_93 (by decide) (fun c_175 => ?_) (fun c_175 => ?_)
        · have hf := hb_f hf c_175
          obtain ⟨e_0, e_1, e_2, e_3, e_4, e_5, e_6, e_7⟩ := tu8 hf
          subst e_0; subst e_1; subst e_2; subst e_3; subst e_4; subst e_5; subst e_6; subst e_7
          exact hret _ _ _ _ dX5_readPair_106 hP hS
        · have hf := hb_t hf c_175
          refine lv_aload_n hx hb dX5_readPair_96 rfl (lv_at hl 5 rfl) ?_
          refine lv_iload_n hx hb dX5_readPair_97 rfl (lv_at hl 3 rfl) ?_
          refine lv_iload_n hx hb dX5_readPair_98 rfl (lv_at hl 2 rfl) ?_
          refine lv_iload hx hb dX5_readPair_99 (lv_at hl 1 rfl) ?_
          refine lv_iload hx hb dX5_readPair_101 (lv_at hl 0 rfl) ?_
          obtain ⟨⟨z_176, z_177, z_178, z_179⟩, hc_180, hf⟩ := hb_b hf
          refine cl_Vv (rest := []) [1, 3, 4, 5, 6] [none, some 0, none, some 1, some 2, some 3, some 4] 7 1 C0 hK hP hD hS hA (c_X7_addPair l D cy a_p1 a_p1_paired a_p1_pairWorths a_p1_pairWorths0 a_p1_pairWorths1 o_p1_length (.int i_p1_words) o_p1_frames o_p1_kinds o_p1_worths o_p1_framed o_p1_scales i_p1_pairs f_p1_paired f_p1_pairWorths0 f_p1_pairWorths1 r_93 r_99 (r_158 - 50) (r_164 - 50) z_176 z_177 z_178 z_179 hc_180) (cwV 4 hts gX5_readPair_X7_addPair rfl rfl rfl (by decide +kernel) ⟨Nat.le_of_ble_eq_true rfl, Nat.le_of_ble_eq_true rfl⟩) rfl (by decide) rfl rfl rfl rfl rfl rfl rfl hl.1 rfl (Nat.le_of_ble_eq_true rfl) dX5_readPair_103 ⟨Nat.zero_le _, Nat.zero_le _⟩ (fun H locs hP hD hS => ?_)
          have hP : va_P D vwCl [(a_t, .inr (5, [.ref a_t_text, .int i_t_length, .int z_170, .int z_171, .int z_172, .int z_173])), (a_p1, .inr (7, [o_p1_length, .int i_p1_words, o_p1_frames, .int z_176, o_p1_kinds, o_p1_worths, o_p1_framed, .ref a_p1_paired, .ref a_p1_pairWorths, o_p1_scales])), (a_t_text, .inl (cy 1, 500, .inl f_t_text)), (a_p1_paired, .inl (cy 0, 64, .inl z_177)), (a_p1_pairWorths, .inl (cy 6, 2, .inr (.inr (.inr (.inr (rfL [a_p1_pairWorths0, a_p1_pairWorths1])))))), (a_p1_pairWorths0, .inl (cy 0, 64, .inl z_178)), (a_p1_pairWorths1, .inl (cy 0, 64, .inl z_179))] H := hP
          have hD : va_D A [(a_t, .inr (5, [.ref a_t_text, .int i_t_length, .int z_170, .int z_171, .int z_172, .int z_173])), (a_p1, .inr (7, [o_p1_length, .int i_p1_words, o_p1_frames, .int z_176, o_p1_kinds, o_p1_worths, o_p1_framed, .ref a_p1_paired, .ref a_p1_pairWorths, o_p1_scales])), (a_t_text, .inl (cy 1, 500, .inl f_t_text)), (a_p1_paired, .inl (cy 0, 64, .inl z_177)), (a_p1_pairWorths, .inl (cy 6, 2, .inr (.inr (.inr (.inr (rfL [a_p1_pairWorths0, a_p1_pairWorths1])))))), (a_p1_pairWorths0, .inl (cy 0, 64, .inl z_178)), (a_p1_pairWorths1, .inl (cy 0, 64, .inl z_179))] := hD
          obtain ⟨e_0, e_1, e_2, e_3, e_4, e_5, e_6, e_7⟩ := tu8 hf
          subst e_0; subst e_1; subst e_2; subst e_3; subst e_4; subst e_5; subst e_6; subst e_7
          exact hret _ _ _ _ dX5_readPair_106 hP hS
abbrev rmX5_spells_name : Room := { frames := 4, cells := 0, slots := 0, locals := 85 }
set_option maxRecDepth 100000 in
set_option maxHeartbeats 4000000 in
theorem c_X5_spells_name (l : Launch) (D : va_G) (cy : Nat → ClassId) (a_t : Nat) (a_t_text : Nat) (o_t_length : Value) (o_t_faultNumber : Value) (o_t_faultByte : Value) (i_t_place : Int32) (i_t_start : Int32) (f_t_text : Nat → Int32) (rv : Int32) (hf : f_X5_spells_name i_t_place i_t_start f_t_text = some rv) : MI l D cy yX5_spells wsX5_spells rmX5_spells_name [.ref a_t, .ref (cy 104)] [(a_t, .inr (5, [.ref a_t_text, o_t_length, .int i_t_place, .int i_t_start, o_t_faultNumber, o_t_faultByte])), (a_t_text, .inl (cy 1, 500, .inl f_t_text))] [(a_t, .inr (5, [.ref a_t_text, o_t_length, .int i_t_place, .int i_t_start, o_t_faultNumber, o_t_faultByte])), (a_t_text, .inl (cy 1, 500, .inl f_t_text))] rv := by
  refine st_I (by decide) rfl (Nat.le_of_ble_eq_true rfl) (fun p e s m below meth c A Q ls C0 hA hK hP hD hS hl hret => ?_)
  obtain ⟨hx, hb, hr, hml, hown, hts, hlocks⟩ := id C0
  have hl : lv_has ls 3 [(0, .ref a_t), (1, .ref (cy 104))] := hl
  unfold f_X5_spells_name at hf
  refine lv_aload_n hx hb dX5_spells_0 rfl (lv_at hl 0 rfl) ?_
  refine va_get (D := D) (ci := 5) (v := .int i_t_place) (C := RX5) (T := TX5) (N := 6) hx hb hts uX5_spells_X5 hown hK.1.1 hP 0 rfl rfl 2 (by decide) (hts _ mX5_spells_23) (fun _ h9 => h9) rfl dX5_spells_1 ?_
  refine lv_aload_n hx hb dX5_spells_4 rfl (lv_at hl 0 rfl) ?_
  refine va_get (D := D) (ci := 5) (v := .int i_t_start) (C := RX5) (T := TX5) (N := 6) hx hb hts uX5_spells_X5 hown hK.1.1 hP 0 rfl rfl 3 (by decide) (hts _ mX5_spells_121) (fun _ h9 => h9) rfl dX5_spells_5 ?_
  refine lv_isub hx hb dX5_spells_8 ?_
  refine lv_aload_n hx hb dX5_spells_9 rfl (lv_at hl 1 rfl) ?_
  refine cl_Ti (rest := [.int (i_t_place - i_t_start)]) [] [none, none] 2 C0 hK hP hD hS hA (c_J0_length l D cy 4 (by decide)) (cwV 0 hts gX5_spells_J0_length_8abf5 rfl rfl rfl (by decide +kernel) ⟨Nat.le_of_ble_eq_true rfl, Nat.le_of_ble_eq_true rfl⟩) rfl (by decide) rfl rfl rfl (vk_recv (adK := fun i => cy (100 + i)) (i := 4) hK.2.1 (by decide) hS) rfl hl.1 rfl (Nat.le_of_ble_eq_true rfl) dX5_spells_10 ⟨Nat.zero_le _, Nat.zero_le _⟩ (fun H locs hP hD hS => ?_)
  have hP : va_P D vwCl [(a_t, .inr (5, [.ref a_t_text, o_t_length, .int i_t_place, .int i_t_start, o_t_faultNumber, o_t_faultByte])), (a_t_text, .inl (cy 1, 500, .inl f_t_text))] H := hP
  have hD : va_D A [(a_t, .inr (5, [.ref a_t_text, o_t_length, .int i_t_place, .int i_t_start, o_t_faultNumber, o_t_faultByte])), (a_t_text, .inl (cy 1, 500, .inl f_t_text))] := hD
  refine lv_icmp_eq (tgt := 18) hx hb dX5_spells_13 (by decide) (fun c_1 => ?_) (fun c_1 => ?_)
  · have hf := hb_t hf c_1
    refine lv_iconst (v := 0) hx hb dX5_spells_18 (by decide) ?_
    refine lv_istore_n (lv' := [(2, .int 0), (0, .ref a_t), (1, .ref (cy 104))]) hx hb dX5_spells_19 rfl hl (by decide) rfl (fun ls hl => ?_)
    refine lv_iload_n hx hb dX5_spells_20 rfl (lv_at hl 0 rfl) ?_
    refine lv_aload_n hx hb dX5_spells_21 rfl (lv_at hl 2 rfl) ?_
    refine cl_Ti (rest := [.int 0]) [] [none, none] 2 C0 hK hP hD hS hA (c_J0_length l D cy 4 (by decide)) (cwV 0 hts gX5_spells_J0_length_8abf5 rfl rfl rfl (by decide +kernel) ⟨Nat.le_of_ble_eq_true rfl, Nat.le_of_ble_eq_true rfl⟩) rfl (by decide) rfl rfl rfl (vk_recv (adK := fun i => cy (100 + i)) (i := 4) hK.2.1 (by decide) hS) rfl hl.1 rfl (Nat.le_of_ble_eq_true rfl) dX5_spells_22 ⟨Nat.zero_le _, Nat.zero_le _⟩ (fun H locs hP hD hS => ?_)
    have hP : va_P D vwCl [(a_t, .inr (5, [.ref a_t_text, o_t_length, .int i_t_place, .int i_t_start, o_t_faultNumber, o_t_faultByte])), (a_t_text, .inl (cy 1, 500, .inl f_t_text))] H := hP
    have hD : va_D A [(a_t, .inr (5, [.ref a_t_text, o_t_length, .int i_t_place, .int i_t_start, o_t_faultNumber, o_t_faultByte])), (a_t_text, .inl (cy 1, 500, .inl f_t_text))] := hD
    refine lv_icmp_ge (tgt := 55) hx hb dX5_spells_25 (by decide) (fun c_2 => absurd c_2 (by decide)) (fun c_2 => ?_)
    refine lv_aload_n hx hb dX5_spells_28 rfl (lv_at hl 1 rfl) ?_
    refine va_get (D := D) (ci := 5) (v := .ref a_t_text) (C := RX5) (T := TX5) (N := 6) hx hb hts uX5_spells_X5 hown hK.1.1 hP 0 rfl rfl 0 (by decide) (hts _ mX5_spells_9) (fun _ h9 => h9) rfl dX5_spells_29 ?_
    refine lv_aload_n hx hb dX5_spells_32 rfl (lv_at hl 1 rfl) ?_
    refine va_get (D := D) (ci := 5) (v := .int i_t_start) (C := RX5) (T := TX5) (N := 6) hx hb hts uX5_spells_X5 hown hK.1.1 hP 0 rfl rfl 3 (by decide) (hts _ mX5_spells_121) (fun _ h9 => h9) rfl dX5_spells_33 ?_
    refine lv_iload_n hx hb dX5_spells_36 rfl (lv_at hl 0 rfl) ?_
    refine lv_iadd hx hb dX5_spells_37 ?_
    obtain ⟨hg_3, hf⟩ := hb_g hf
    refine va_bald hx hb hK.1.1 hP 1 1 rfl rfl (ixb_in hg_3) dX5_spells_38 ?_
    refine lv_aload_n hx hb dX5_spells_39 rfl (lv_at hl 2 rfl) ?_
    refine lv_iload_n hx hb dX5_spells_40 rfl (lv_at hl 0 rfl) ?_
    refine cl_Ti (As := [.int 0]) (rest := [.int (f_t_text ((i_t_start + 0) : Int32).toNatClampNeg)]) [] [none, none] 2 C0 hK hP hD hS hA (c_J0_charAt l D cy 4 (by decide) 0 (by decide)) (cwV 1 hts gX5_spells_J0_charAt_5068e rfl rfl rfl (by decide +kernel) ⟨Nat.le_of_ble_eq_true rfl, Nat.le_of_ble_eq_true rfl⟩) rfl (by decide) rfl rfl rfl (vk_recv (adK := fun i => cy (100 + i)) (i := 4) hK.2.1 (by decide) hS) rfl hl.1 rfl (Nat.le_of_ble_eq_true rfl) dX5_spells_41 ⟨Nat.zero_le _, Nat.zero_le _⟩ (fun H locs hP hD hS => ?_)
    have hP : va_P D vwCl [(a_t, .inr (5, [.ref a_t_text, o_t_length, .int i_t_place, .int i_t_start, o_t_faultNumber, o_t_faultByte])), (a_t_text, .inl (cy 1, 500, .inl f_t_text))] H := hP
    have hD : va_D A [(a_t, .inr (5, [.ref a_t_text, o_t_length, .int i_t_place, .int i_t_start, o_t_faultNumber, o_t_faultByte])), (a_t_text, .inl (cy 1, 500, .inl f_t_text))] := hD
    refine lv_icmp_eq (tgt := 49) hx hb dX5_spells_44 (by decide) (fun c_4 => ?_) (fun c_4 => ?_)
    · have hf := hb_t hf c_4
      refine lv_iinc (v := (0 + 1)) (lv' := [(2, .int (0 + 1)), (0, .ref a_t), (1, .ref (cy 104))]) hx hb dX5_spells_49 hl (k := 0) rfl rfl (by decide) rfl (fun ls hl => ?_)
      refine lv_goto (tgt := 20) hx hb dX5_spells_52 (by decide) ?_
      refine lv_iload_n hx hb dX5_spells_20 rfl (lv_at hl 0 rfl) ?_
      refine lv_aload_n hx hb dX5_spells_21 rfl (lv_at hl 2 rfl) ?_
      refine cl_Ti (rest := [.int (0 + 1)]) [] [none, none] 2 C0 hK hP hD hS hA (c_J0_length l D cy 4 (by decide)) (cwV 0 hts gX5_spells_J0_length_8abf5 rfl rfl rfl (by decide +kernel) ⟨Nat.le_of_ble_eq_true rfl, Nat.le_of_ble_eq_true rfl⟩) rfl (by decide) rfl rfl rfl (vk_recv (adK := fun i => cy (100 + i)) (i := 4) hK.2.1 (by decide) hS) rfl hl.1 rfl (Nat.le_of_ble_eq_true rfl) dX5_spells_22 ⟨Nat.zero_le _, Nat.zero_le _⟩ (fun H locs hP hD hS => ?_)
      have hP : va_P D vwCl [(a_t, .inr (5, [.ref a_t_text, o_t_length, .int i_t_place, .int i_t_start, o_t_faultNumber, o_t_faultByte])), (a_t_text, .inl (cy 1, 500, .inl f_t_text))] H := hP
      have hD : va_D A [(a_t, .inr (5, [.ref a_t_text, o_t_length, .int i_t_place, .int i_t_start, o_t_faultNumber, o_t_faultByte])), (a_t_text, .inl (cy 1, 500, .inl f_t_text))] := hD
      refine lv_icmp_ge (tgt := 55) hx hb dX5_spells_25 (by decide) (fun c_5 => absurd c_5 (by decide)) (fun c_5 => ?_)
      refine lv_aload_n hx hb dX5_spells_28 rfl (lv_at hl 1 rfl) ?_
      refine va_get (D := D) (ci := 5) (v := .ref a_t_text) (C := RX5) (T := TX5) (N := 6) hx hb hts uX5_spells_X5 hown hK.1.1 hP 0 rfl rfl 0 (by decide) (hts _ mX5_spells_9) (fun _ h9 => h9) rfl dX5_spells_29 ?_
      refine lv_aload_n hx hb dX5_spells_32 rfl (lv_at hl 1 rfl) ?_
      refine va_get (D := D) (ci := 5) (v := .int i_t_start) (C := RX5) (T := TX5) (N := 6) hx hb hts uX5_spells_X5 hown hK.1.1 hP 0 rfl rfl 3 (by decide) (hts _ mX5_spells_121) (fun _ h9 => h9) rfl dX5_spells_33 ?_
      refine lv_iload_n hx hb dX5_spells_36 rfl (lv_at hl 0 rfl) ?_
      refine lv_iadd hx hb dX5_spells_37 ?_
      obtain ⟨hg_6, hf⟩ := hb_g hf
      refine va_bald hx hb hK.1.1 hP 1 1 rfl rfl (ixb_in hg_6) dX5_spells_38 ?_
      refine lv_aload_n hx hb dX5_spells_39 rfl (lv_at hl 2 rfl) ?_
      refine lv_iload_n hx hb dX5_spells_40 rfl (lv_at hl 0 rfl) ?_
      refine cl_Ti (As := [.int (0 + 1)]) (rest := [.int (f_t_text ((i_t_start + (0 + 1)) : Int32).toNatClampNeg)]) [] [none, none] 2 C0 hK hP hD hS hA (c_J0_charAt l D cy 4 (by decide) 1 (by decide)) (cwV 1 hts gX5_spells_J0_charAt_5068e rfl rfl rfl (by decide +kernel) ⟨Nat.le_of_ble_eq_true rfl, Nat.le_of_ble_eq_true rfl⟩) rfl (by decide) rfl rfl rfl (vk_recv (adK := fun i => cy (100 + i)) (i := 4) hK.2.1 (by decide) hS) rfl hl.1 rfl (Nat.le_of_ble_eq_true rfl) dX5_spells_41 ⟨Nat.zero_le _, Nat.zero_le _⟩ (fun H locs hP hD hS => ?_)
      have hP : va_P D vwCl [(a_t, .inr (5, [.ref a_t_text, o_t_length, .int i_t_place, .int i_t_start, o_t_faultNumber, o_t_faultByte])), (a_t_text, .inl (cy 1, 500, .inl f_t_text))] H := hP
      have hD : va_D A [(a_t, .inr (5, [.ref a_t_text, o_t_length, .int i_t_place, .int i_t_start, o_t_faultNumber, o_t_faultByte])), (a_t_text, .inl (cy 1, 500, .inl f_t_text))] := hD
      refine lv_icmp_eq (tgt := 49) hx hb dX5_spells_44 (by decide) (fun c_7 => ?_) (fun c_7 => ?_)
      · have hf := hb_t hf c_7
        refine lv_iinc (v := ((0 + 1) + 1)) (lv' := [(2, .int ((0 + 1) + 1)), (0, .ref a_t), (1, .ref (cy 104))]) hx hb dX5_spells_49 hl (k := 0) rfl rfl (by decide) rfl (fun ls hl => ?_)
        refine lv_goto (tgt := 20) hx hb dX5_spells_52 (by decide) ?_
        refine lv_iload_n hx hb dX5_spells_20 rfl (lv_at hl 0 rfl) ?_
        refine lv_aload_n hx hb dX5_spells_21 rfl (lv_at hl 2 rfl) ?_
        refine cl_Ti (rest := [.int ((0 + 1) + 1)]) [] [none, none] 2 C0 hK hP hD hS hA (c_J0_length l D cy 4 (by decide)) (cwV 0 hts gX5_spells_J0_length_8abf5 rfl rfl rfl (by decide +kernel) ⟨Nat.le_of_ble_eq_true rfl, Nat.le_of_ble_eq_true rfl⟩) rfl (by decide) rfl rfl rfl (vk_recv (adK := fun i => cy (100 + i)) (i := 4) hK.2.1 (by decide) hS) rfl hl.1 rfl (Nat.le_of_ble_eq_true rfl) dX5_spells_22 ⟨Nat.zero_le _, Nat.zero_le _⟩ (fun H locs hP hD hS => ?_)
        have hP : va_P D vwCl [(a_t, .inr (5, [.ref a_t_text, o_t_length, .int i_t_place, .int i_t_start, o_t_faultNumber, o_t_faultByte])), (a_t_text, .inl (cy 1, 500, .inl f_t_text))] H := hP
        have hD : va_D A [(a_t, .inr (5, [.ref a_t_text, o_t_length, .int i_t_place, .int i_t_start, o_t_faultNumber, o_t_faultByte])), (a_t_text, .inl (cy 1, 500, .inl f_t_text))] := hD
        refine lv_icmp_ge (tgt := 55) hx hb dX5_spells_25 (by decide) (fun c_8 => absurd c_8 (by decide)) (fun c_8 => ?_)
        refine lv_aload_n hx hb dX5_spells_28 rfl (lv_at hl 1 rfl) ?_
        refine va_get (D := D) (ci := 5) (v := .ref a_t_text) (C := RX5) (T := TX5) (N := 6) hx hb hts uX5_spells_X5 hown hK.1.1 hP 0 rfl rfl 0 (by decide) (hts _ mX5_spells_9) (fun _ h9 => h9) rfl dX5_spells_29 ?_
        refine lv_aload_n hx hb dX5_spells_32 rfl (lv_at hl 1 rfl) ?_
        refine va_get (D := D) (ci := 5) (v := .int i_t_start) (C := RX5) (T := TX5) (N := 6) hx hb hts uX5_spells_X5 hown hK.1.1 hP 0 rfl rfl 3 (by decide) (hts _ mX5_spells_121) (fun _ h9 => h9) rfl dX5_spells_33 ?_
        refine lv_iload_n hx hb dX5_spells_36 rfl (lv_at hl 0 rfl) ?_
        refine lv_iadd hx hb dX5_spells_37 ?_
        obtain ⟨hg_9, hf⟩ := hb_g hf
        refine va_bald hx hb hK.1.1 hP 1 1 rfl rfl (ixb_in hg_9) dX5_spells_38 ?_
        refine lv_aload_n hx hb dX5_spells_39 rfl (lv_at hl 2 rfl) ?_
        refine lv_iload_n hx hb dX5_spells_40 rfl (lv_at hl 0 rfl) ?_
        refine cl_Ti (As := [.int ((0 + 1) + 1)]) (rest := [.int (f_t_text ((i_t_start + ((0 + 1) + 1)) : Int32).toNatClampNeg)]) [] [none, none] 2 C0 hK hP hD hS hA (c_J0_charAt l D cy 4 (by decide) 2 (by decide)) (cwV 1 hts gX5_spells_J0_charAt_5068e rfl rfl rfl (by decide +kernel) ⟨Nat.le_of_ble_eq_true rfl, Nat.le_of_ble_eq_true rfl⟩) rfl (by decide) rfl rfl rfl (vk_recv (adK := fun i => cy (100 + i)) (i := 4) hK.2.1 (by decide) hS) rfl hl.1 rfl (Nat.le_of_ble_eq_true rfl) dX5_spells_41 ⟨Nat.zero_le _, Nat.zero_le _⟩ (fun H locs hP hD hS => ?_)
        have hP : va_P D vwCl [(a_t, .inr (5, [.ref a_t_text, o_t_length, .int i_t_place, .int i_t_start, o_t_faultNumber, o_t_faultByte])), (a_t_text, .inl (cy 1, 500, .inl f_t_text))] H := hP
        have hD : va_D A [(a_t, .inr (5, [.ref a_t_text, o_t_length, .int i_t_place, .int i_t_start, o_t_faultNumber, o_t_faultByte])), (a_t_text, .inl (cy 1, 500, .inl f_t_text))] := hD
        refine lv_icmp_eq (tgt := 49) hx hb dX5_spells_44 (by decide) (fun c_10 => ?_) (fun c_10 => ?_)
        · have hf := hb_t hf c_10
          refine lv_iinc (v := (((0 + 1) + 1) + 1)) (lv' := [(2, .int (((0 + 1) + 1) + 1)), (0, .ref a_t), (1, .ref (cy 104))]) hx hb dX5_spells_49 hl (k := 0) rfl rfl (by decide) rfl (fun ls hl => ?_)
          refine lv_goto (tgt := 20) hx hb dX5_spells_52 (by decide) ?_
          refine lv_iload_n hx hb dX5_spells_20 rfl (lv_at hl 0 rfl) ?_
          refine lv_aload_n hx hb dX5_spells_21 rfl (lv_at hl 2 rfl) ?_
          refine cl_Ti (rest := [.int (((0 + 1) + 1) + 1)]) [] [none, none] 2 C0 hK hP hD hS hA (c_J0_length l D cy 4 (by decide)) (cwV 0 hts gX5_spells_J0_length_8abf5 rfl rfl rfl (by decide +kernel) ⟨Nat.le_of_ble_eq_true rfl, Nat.le_of_ble_eq_true rfl⟩) rfl (by decide) rfl rfl rfl (vk_recv (adK := fun i => cy (100 + i)) (i := 4) hK.2.1 (by decide) hS) rfl hl.1 rfl (Nat.le_of_ble_eq_true rfl) dX5_spells_22 ⟨Nat.zero_le _, Nat.zero_le _⟩ (fun H locs hP hD hS => ?_)
          have hP : va_P D vwCl [(a_t, .inr (5, [.ref a_t_text, o_t_length, .int i_t_place, .int i_t_start, o_t_faultNumber, o_t_faultByte])), (a_t_text, .inl (cy 1, 500, .inl f_t_text))] H := hP
          have hD : va_D A [(a_t, .inr (5, [.ref a_t_text, o_t_length, .int i_t_place, .int i_t_start, o_t_faultNumber, o_t_faultByte])), (a_t_text, .inl (cy 1, 500, .inl f_t_text))] := hD
          refine lv_icmp_ge (tgt := 55) hx hb dX5_spells_25 (by decide) (fun c_11 => absurd c_11 (by decide)) (fun c_11 => ?_)
          refine lv_aload_n hx hb dX5_spells_28 rfl (lv_at hl 1 rfl) ?_
          refine va_get (D := D) (ci := 5) (v := .ref a_t_text) (C := RX5) (T := TX5) (N := 6) hx hb hts uX5_spells_X5 hown hK.1.1 hP 0 rfl rfl 0 (by decide) (hts _ mX5_spells_9) (fun _ h9 => h9) rfl dX5_spells_29 ?_
          refine lv_aload_n hx hb dX5_spells_32 rfl (lv_at hl 1 rfl) ?_
          refine va_get (D := D) (ci := 5) (v := .int i_t_start) (C := RX5) (T := TX5) (N := 6) hx hb hts uX5_spells_X5 hown hK.1.1 hP 0 rfl rfl 3 (by decide) (hts _ mX5_spells_121) (fun _ h9 => h9) rfl dX5_spells_33 ?_
          refine lv_iload_n hx hb dX5_spells_36 rfl (lv_at hl 0 rfl) ?_
          refine lv_iadd hx hb dX5_spells_37 ?_
          obtain ⟨hg_12, hf⟩ := hb_g hf
          refine va_bald hx hb hK.1.1 hP 1 1 rfl rfl (ixb_in hg_12) dX5_spells_38 ?_
          refine lv_aload_n hx hb dX5_spells_39 rfl (lv_at hl 2 rfl) ?_
          refine lv_iload_n hx hb dX5_spells_40 rfl (lv_at hl 0 rfl) ?_
          refine cl_Ti (As := [.int (((0 + 1) + 1) + 1)]) (rest := [.int (f_t_text ((i_t_start + (((0 + 1) + 1) + 1)) : Int32).toNatClampNeg)]) [] [none, none] 2 C0 hK hP hD hS hA (c_J0_charAt l D cy 4 (by decide) 3 (by decide)) (cwV 1 hts gX5_spells_J0_charAt_5068e rfl rfl rfl (by decide +kernel) ⟨Nat.le_of_ble_eq_true rfl, Nat.le_of_ble_eq_true rfl⟩) rfl (by decide) rfl rfl rfl (vk_recv (adK := fun i => cy (100 + i)) (i := 4) hK.2.1 (by decide) hS) rfl hl.1 rfl (Nat.le_of_ble_eq_true rfl) dX5_spells_41 ⟨Nat.zero_le _, Nat.zero_le _⟩ (fun H locs hP hD hS => ?_)
          have hP : va_P D vwCl [(a_t, .inr (5, [.ref a_t_text, o_t_length, .int i_t_place, .int i_t_start, o_t_faultNumber, o_t_faultByte])), (a_t_text, .inl (cy 1, 500, .inl f_t_text))] H := hP
          have hD : va_D A [(a_t, .inr (5, [.ref a_t_text, o_t_length, .int i_t_place, .int i_t_start, o_t_faultNumber, o_t_faultByte])), (a_t_text, .inl (cy 1, 500, .inl f_t_text))] := hD
          refine lv_icmp_eq (tgt := 49) hx hb dX5_spells_44 (by decide) (fun c_13 => ?_) (fun c_13 => ?_)
          · have hf := hb_t hf c_13
            refine lv_iinc (v := ((((0 + 1) + 1) + 1) + 1)) (lv' := [(2, .int ((((0 + 1) + 1) + 1) + 1)), (0, .ref a_t), (1, .ref (cy 104))]) hx hb dX5_spells_49 hl (k := 0) rfl rfl (by decide) rfl (fun ls hl => ?_)
            refine lv_goto (tgt := 20) hx hb dX5_spells_52 (by decide) ?_
            refine lv_iload_n hx hb dX5_spells_20 rfl (lv_at hl 0 rfl) ?_
            refine lv_aload_n hx hb dX5_spells_21 rfl (lv_at hl 2 rfl) ?_
            refine cl_Ti (rest := [.int ((((0 + 1) + 1) + 1) + 1)]) [] [none, none] 2 C0 hK hP hD hS hA (c_J0_length l D cy 4 (by decide)) (cwV 0 hts gX5_spells_J0_length_8abf5 rfl rfl rfl (by decide +kernel) ⟨Nat.le_of_ble_eq_true rfl, Nat.le_of_ble_eq_true rfl⟩) rfl (by decide) rfl rfl rfl (vk_recv (adK := fun i => cy (100 + i)) (i := 4) hK.2.1 (by decide) hS) rfl hl.1 rfl (Nat.le_of_ble_eq_true rfl) dX5_spells_22 ⟨Nat.zero_le _, Nat.zero_le _⟩ (fun H locs hP hD hS => ?_)
            have hP : va_P D vwCl [(a_t, .inr (5, [.ref a_t_text, o_t_length, .int i_t_place, .int i_t_start, o_t_faultNumber, o_t_faultByte])), (a_t_text, .inl (cy 1, 500, .inl f_t_text))] H := hP
            have hD : va_D A [(a_t, .inr (5, [.ref a_t_text, o_t_length, .int i_t_place, .int i_t_start, o_t_faultNumber, o_t_faultByte])), (a_t_text, .inl (cy 1, 500, .inl f_t_text))] := hD
            refine lv_icmp_ge (tgt := 55) hx hb dX5_spells_25 (by decide) (fun c_14 => ?_) (fun c_14 => absurd c_14 (by decide))
            refine lv_iconst (v := 1) hx hb dX5_spells_55 (by decide) ?_
            have hf := Option.some.inj hf
            subst hf
            exact hret _ _ _ _ dX5_spells_56 rfl hP hS
          · have hf := hb_f hf c_13
            refine lv_iconst (v := 0) hx hb dX5_spells_47 (by decide) ?_
            have hf := Option.some.inj hf
            subst hf
            exact hret _ _ _ _ dX5_spells_48 rfl hP hS
        · have hf := hb_f hf c_10
          refine lv_iconst (v := 0) hx hb dX5_spells_47 (by decide) ?_
          have hf := Option.some.inj hf
          subst hf
          exact hret _ _ _ _ dX5_spells_48 rfl hP hS
      · have hf := hb_f hf c_7
        refine lv_iconst (v := 0) hx hb dX5_spells_47 (by decide) ?_
        have hf := Option.some.inj hf
        subst hf
        exact hret _ _ _ _ dX5_spells_48 rfl hP hS
    · have hf := hb_f hf c_4
      refine lv_iconst (v := 0) hx hb dX5_spells_47 (by decide) ?_
      have hf := Option.some.inj hf
      subst hf
      exact hret _ _ _ _ dX5_spells_48 rfl hP hS
  · have hf := hb_f hf c_1
    refine lv_iconst (v := 0) hx hb dX5_spells_16 (by decide) ?_
    have hf := Option.some.inj hf
    subst hf
    exact hret _ _ _ _ dX5_spells_17 rfl hP hS
abbrev rmX5_spells_deed : Room := { frames := 4, cells := 0, slots := 0, locals := 85 }
set_option maxRecDepth 100000 in
set_option maxHeartbeats 4000000 in
theorem c_X5_spells_deed (l : Launch) (D : va_G) (cy : Nat → ClassId) (a_t : Nat) (a_t_text : Nat) (o_t_length : Value) (o_t_faultNumber : Value) (o_t_faultByte : Value) (i_t_place : Int32) (i_t_start : Int32) (f_t_text : Nat → Int32) (rv : Int32) (hf : f_X5_spells_deed i_t_place i_t_start f_t_text = some rv) : MI l D cy yX5_spells wsX5_spells rmX5_spells_deed [.ref a_t, .ref (cy 105)] [(a_t, .inr (5, [.ref a_t_text, o_t_length, .int i_t_place, .int i_t_start, o_t_faultNumber, o_t_faultByte])), (a_t_text, .inl (cy 1, 500, .inl f_t_text))] [(a_t, .inr (5, [.ref a_t_text, o_t_length, .int i_t_place, .int i_t_start, o_t_faultNumber, o_t_faultByte])), (a_t_text, .inl (cy 1, 500, .inl f_t_text))] rv := by
  refine st_I (by decide) rfl (Nat.le_of_ble_eq_true rfl) (fun p e s m below meth c A Q ls C0 hA hK hP hD hS hl hret => ?_)
  obtain ⟨hx, hb, hr, hml, hown, hts, hlocks⟩ := id C0
  have hl : lv_has ls 3 [(0, .ref a_t), (1, .ref (cy 105))] := hl
  unfold f_X5_spells_deed at hf
  refine lv_aload_n hx hb dX5_spells_0 rfl (lv_at hl 0 rfl) ?_
  refine va_get (D := D) (ci := 5) (v := .int i_t_place) (C := RX5) (T := TX5) (N := 6) hx hb hts uX5_spells_X5 hown hK.1.1 hP 0 rfl rfl 2 (by decide) (hts _ mX5_spells_23) (fun _ h9 => h9) rfl dX5_spells_1 ?_
  refine lv_aload_n hx hb dX5_spells_4 rfl (lv_at hl 0 rfl) ?_
  refine va_get (D := D) (ci := 5) (v := .int i_t_start) (C := RX5) (T := TX5) (N := 6) hx hb hts uX5_spells_X5 hown hK.1.1 hP 0 rfl rfl 3 (by decide) (hts _ mX5_spells_121) (fun _ h9 => h9) rfl dX5_spells_5 ?_
  refine lv_isub hx hb dX5_spells_8 ?_
  refine lv_aload_n hx hb dX5_spells_9 rfl (lv_at hl 1 rfl) ?_
  refine cl_Ti (rest := [.int (i_t_place - i_t_start)]) [] [none, none] 2 C0 hK hP hD hS hA (c_J0_length l D cy 5 (by decide)) (cwV 0 hts gX5_spells_J0_length_8abf5 rfl rfl rfl (by decide +kernel) ⟨Nat.le_of_ble_eq_true rfl, Nat.le_of_ble_eq_true rfl⟩) rfl (by decide) rfl rfl rfl (vk_recv (adK := fun i => cy (100 + i)) (i := 5) hK.2.1 (by decide) hS) rfl hl.1 rfl (Nat.le_of_ble_eq_true rfl) dX5_spells_10 ⟨Nat.zero_le _, Nat.zero_le _⟩ (fun H locs hP hD hS => ?_)
  have hP : va_P D vwCl [(a_t, .inr (5, [.ref a_t_text, o_t_length, .int i_t_place, .int i_t_start, o_t_faultNumber, o_t_faultByte])), (a_t_text, .inl (cy 1, 500, .inl f_t_text))] H := hP
  have hD : va_D A [(a_t, .inr (5, [.ref a_t_text, o_t_length, .int i_t_place, .int i_t_start, o_t_faultNumber, o_t_faultByte])), (a_t_text, .inl (cy 1, 500, .inl f_t_text))] := hD
  refine lv_icmp_eq (tgt := 18) hx hb dX5_spells_13 (by decide) (fun c_1 => ?_) (fun c_1 => ?_)
  · have hf := hb_t hf c_1
    refine lv_iconst (v := 0) hx hb dX5_spells_18 (by decide) ?_
    refine lv_istore_n (lv' := [(2, .int 0), (0, .ref a_t), (1, .ref (cy 105))]) hx hb dX5_spells_19 rfl hl (by decide) rfl (fun ls hl => ?_)
    refine lv_iload_n hx hb dX5_spells_20 rfl (lv_at hl 0 rfl) ?_
    refine lv_aload_n hx hb dX5_spells_21 rfl (lv_at hl 2 rfl) ?_
    refine cl_Ti (rest := [.int 0]) [] [none, none] 2 C0 hK hP hD hS hA (c_J0_length l D cy 5 (by decide)) (cwV 0 hts gX5_spells_J0_length_8abf5 rfl rfl rfl (by decide +kernel) ⟨Nat.le_of_ble_eq_true rfl, Nat.le_of_ble_eq_true rfl⟩) rfl (by decide) rfl rfl rfl (vk_recv (adK := fun i => cy (100 + i)) (i := 5) hK.2.1 (by decide) hS) rfl hl.1 rfl (Nat.le_of_ble_eq_true rfl) dX5_spells_22 ⟨Nat.zero_le _, Nat.zero_le _⟩ (fun H locs hP hD hS => ?_)
    have hP : va_P D vwCl [(a_t, .inr (5, [.ref a_t_text, o_t_length, .int i_t_place, .int i_t_start, o_t_faultNumber, o_t_faultByte])), (a_t_text, .inl (cy 1, 500, .inl f_t_text))] H := hP
    have hD : va_D A [(a_t, .inr (5, [.ref a_t_text, o_t_length, .int i_t_place, .int i_t_start, o_t_faultNumber, o_t_faultByte])), (a_t_text, .inl (cy 1, 500, .inl f_t_text))] := hD
    refine lv_icmp_ge (tgt := 55) hx hb dX5_spells_25 (by decide) (fun c_2 => absurd c_2 (by decide)) (fun c_2 => ?_)
    refine lv_aload_n hx hb dX5_spells_28 rfl (lv_at hl 1 rfl) ?_
    refine va_get (D := D) (ci := 5) (v := .ref a_t_text) (C := RX5) (T := TX5) (N := 6) hx hb hts uX5_spells_X5 hown hK.1.1 hP 0 rfl rfl 0 (by decide) (hts _ mX5_spells_9) (fun _ h9 => h9) rfl dX5_spells_29 ?_
    refine lv_aload_n hx hb dX5_spells_32 rfl (lv_at hl 1 rfl) ?_
    refine va_get (D := D) (ci := 5) (v := .int i_t_start) (C := RX5) (T := TX5) (N := 6) hx hb hts uX5_spells_X5 hown hK.1.1 hP 0 rfl rfl 3 (by decide) (hts _ mX5_spells_121) (fun _ h9 => h9) rfl dX5_spells_33 ?_
    refine lv_iload_n hx hb dX5_spells_36 rfl (lv_at hl 0 rfl) ?_
    refine lv_iadd hx hb dX5_spells_37 ?_
    obtain ⟨hg_3, hf⟩ := hb_g hf
    refine va_bald hx hb hK.1.1 hP 1 1 rfl rfl (ixb_in hg_3) dX5_spells_38 ?_
    refine lv_aload_n hx hb dX5_spells_39 rfl (lv_at hl 2 rfl) ?_
    refine lv_iload_n hx hb dX5_spells_40 rfl (lv_at hl 0 rfl) ?_
    refine cl_Ti (As := [.int 0]) (rest := [.int (f_t_text ((i_t_start + 0) : Int32).toNatClampNeg)]) [] [none, none] 2 C0 hK hP hD hS hA (c_J0_charAt l D cy 5 (by decide) 0 (by decide)) (cwV 1 hts gX5_spells_J0_charAt_5068e rfl rfl rfl (by decide +kernel) ⟨Nat.le_of_ble_eq_true rfl, Nat.le_of_ble_eq_true rfl⟩) rfl (by decide) rfl rfl rfl (vk_recv (adK := fun i => cy (100 + i)) (i := 5) hK.2.1 (by decide) hS) rfl hl.1 rfl (Nat.le_of_ble_eq_true rfl) dX5_spells_41 ⟨Nat.zero_le _, Nat.zero_le _⟩ (fun H locs hP hD hS => ?_)
    have hP : va_P D vwCl [(a_t, .inr (5, [.ref a_t_text, o_t_length, .int i_t_place, .int i_t_start, o_t_faultNumber, o_t_faultByte])), (a_t_text, .inl (cy 1, 500, .inl f_t_text))] H := hP
    have hD : va_D A [(a_t, .inr (5, [.ref a_t_text, o_t_length, .int i_t_place, .int i_t_start, o_t_faultNumber, o_t_faultByte])), (a_t_text, .inl (cy 1, 500, .inl f_t_text))] := hD
    refine lv_icmp_eq (tgt := 49) hx hb dX5_spells_44 (by decide) (fun c_4 => ?_) (fun c_4 => ?_)
    · have hf := hb_t hf c_4
      refine lv_iinc (v := (0 + 1)) (lv' := [(2, .int (0 + 1)), (0, .ref a_t), (1, .ref (cy 105))]) hx hb dX5_spells_49 hl (k := 0) rfl rfl (by decide) rfl (fun ls hl => ?_)
      refine lv_goto (tgt := 20) hx hb dX5_spells_52 (by decide) ?_
      refine lv_iload_n hx hb dX5_spells_20 rfl (lv_at hl 0 rfl) ?_
      refine lv_aload_n hx hb dX5_spells_21 rfl (lv_at hl 2 rfl) ?_
      refine cl_Ti (rest := [.int (0 + 1)]) [] [none, none] 2 C0 hK hP hD hS hA (c_J0_length l D cy 5 (by decide)) (cwV 0 hts gX5_spells_J0_length_8abf5 rfl rfl rfl (by decide +kernel) ⟨Nat.le_of_ble_eq_true rfl, Nat.le_of_ble_eq_true rfl⟩) rfl (by decide) rfl rfl rfl (vk_recv (adK := fun i => cy (100 + i)) (i := 5) hK.2.1 (by decide) hS) rfl hl.1 rfl (Nat.le_of_ble_eq_true rfl) dX5_spells_22 ⟨Nat.zero_le _, Nat.zero_le _⟩ (fun H locs hP hD hS => ?_)
      have hP : va_P D vwCl [(a_t, .inr (5, [.ref a_t_text, o_t_length, .int i_t_place, .int i_t_start, o_t_faultNumber, o_t_faultByte])), (a_t_text, .inl (cy 1, 500, .inl f_t_text))] H := hP
      have hD : va_D A [(a_t, .inr (5, [.ref a_t_text, o_t_length, .int i_t_place, .int i_t_start, o_t_faultNumber, o_t_faultByte])), (a_t_text, .inl (cy 1, 500, .inl f_t_text))] := hD
      refine lv_icmp_ge (tgt := 55) hx hb dX5_spells_25 (by decide) (fun c_5 => absurd c_5 (by decide)) (fun c_5 => ?_)
      refine lv_aload_n hx hb dX5_spells_28 rfl (lv_at hl 1 rfl) ?_
      refine va_get (D := D) (ci := 5) (v := .ref a_t_text) (C := RX5) (T := TX5) (N := 6) hx hb hts uX5_spells_X5 hown hK.1.1 hP 0 rfl rfl 0 (by decide) (hts _ mX5_spells_9) (fun _ h9 => h9) rfl dX5_spells_29 ?_
      refine lv_aload_n hx hb dX5_spells_32 rfl (lv_at hl 1 rfl) ?_
      refine va_get (D := D) (ci := 5) (v := .int i_t_start) (C := RX5) (T := TX5) (N := 6) hx hb hts uX5_spells_X5 hown hK.1.1 hP 0 rfl rfl 3 (by decide) (hts _ mX5_spells_121) (fun _ h9 => h9) rfl dX5_spells_33 ?_
      refine lv_iload_n hx hb dX5_spells_36 rfl (lv_at hl 0 rfl) ?_
      refine lv_iadd hx hb dX5_spells_37 ?_
      obtain ⟨hg_6, hf⟩ := hb_g hf
      refine va_bald hx hb hK.1.1 hP 1 1 rfl rfl (ixb_in hg_6) dX5_spells_38 ?_
      refine lv_aload_n hx hb dX5_spells_39 rfl (lv_at hl 2 rfl) ?_
      refine lv_iload_n hx hb dX5_spells_40 rfl (lv_at hl 0 rfl) ?_
      refine cl_Ti (As := [.int (0 + 1)]) (rest := [.int (f_t_text ((i_t_start + (0 + 1)) : Int32).toNatClampNeg)]) [] [none, none] 2 C0 hK hP hD hS hA (c_J0_charAt l D cy 5 (by decide) 1 (by decide)) (cwV 1 hts gX5_spells_J0_charAt_5068e rfl rfl rfl (by decide +kernel) ⟨Nat.le_of_ble_eq_true rfl, Nat.le_of_ble_eq_true rfl⟩) rfl (by decide) rfl rfl rfl (vk_recv (adK := fun i => cy (100 + i)) (i := 5) hK.2.1 (by decide) hS) rfl hl.1 rfl (Nat.le_of_ble_eq_true rfl) dX5_spells_41 ⟨Nat.zero_le _, Nat.zero_le _⟩ (fun H locs hP hD hS => ?_)
      have hP : va_P D vwCl [(a_t, .inr (5, [.ref a_t_text, o_t_length, .int i_t_place, .int i_t_start, o_t_faultNumber, o_t_faultByte])), (a_t_text, .inl (cy 1, 500, .inl f_t_text))] H := hP
      have hD : va_D A [(a_t, .inr (5, [.ref a_t_text, o_t_length, .int i_t_place, .int i_t_start, o_t_faultNumber, o_t_faultByte])), (a_t_text, .inl (cy 1, 500, .inl f_t_text))] := hD
      refine lv_icmp_eq (tgt := 49) hx hb dX5_spells_44 (by decide) (fun c_7 => ?_) (fun c_7 => ?_)
      · have hf := hb_t hf c_7
        refine lv_iinc (v := ((0 + 1) + 1)) (lv' := [(2, .int ((0 + 1) + 1)), (0, .ref a_t), (1, .ref (cy 105))]) hx hb dX5_spells_49 hl (k := 0) rfl rfl (by decide) rfl (fun ls hl => ?_)
        refine lv_goto (tgt := 20) hx hb dX5_spells_52 (by decide) ?_
        refine lv_iload_n hx hb dX5_spells_20 rfl (lv_at hl 0 rfl) ?_
        refine lv_aload_n hx hb dX5_spells_21 rfl (lv_at hl 2 rfl) ?_
        refine cl_Ti (rest := [.int ((0 + 1) + 1)]) [] [none, none] 2 C0 hK hP hD hS hA (c_J0_length l D cy 5 (by decide)) (cwV 0 hts gX5_spells_J0_length_8abf5 rfl rfl rfl (by decide +kernel) ⟨Nat.le_of_ble_eq_true rfl, Nat.le_of_ble_eq_true rfl⟩) rfl (by decide) rfl rfl rfl (vk_recv (adK := fun i => cy (100 + i)) (i := 5) hK.2.1 (by decide) hS) rfl hl.1 rfl (Nat.le_of_ble_eq_true rfl) dX5_spells_22 ⟨Nat.zero_le _, Nat.zero_le _⟩ (fun H locs hP hD hS => ?_)
        have hP : va_P D vwCl [(a_t, .inr (5, [.ref a_t_text, o_t_length, .int i_t_place, .int i_t_start, o_t_faultNumber, o_t_faultByte])), (a_t_text, .inl (cy 1, 500, .inl f_t_text))] H := hP
        have hD : va_D A [(a_t, .inr (5, [.ref a_t_text, o_t_length, .int i_t_place, .int i_t_start, o_t_faultNumber, o_t_faultByte])), (a_t_text, .inl (cy 1, 500, .inl f_t_text))] := hD
        refine lv_icmp_ge (tgt := 55) hx hb dX5_spells_25 (by decide) (fun c_8 => absurd c_8 (by decide)) (fun c_8 => ?_)
        refine lv_aload_n hx hb dX5_spells_28 rfl (lv_at hl 1 rfl) ?_
        refine va_get (D := D) (ci := 5) (v := .ref a_t_text) (C := RX5) (T := TX5) (N := 6) hx hb hts uX5_spells_X5 hown hK.1.1 hP 0 rfl rfl 0 (by decide) (hts _ mX5_spells_9) (fun _ h9 => h9) rfl dX5_spells_29 ?_
        refine lv_aload_n hx hb dX5_spells_32 rfl (lv_at hl 1 rfl) ?_
        refine va_get (D := D) (ci := 5) (v := .int i_t_start) (C := RX5) (T := TX5) (N := 6) hx hb hts uX5_spells_X5 hown hK.1.1 hP 0 rfl rfl 3 (by decide) (hts _ mX5_spells_121) (fun _ h9 => h9) rfl dX5_spells_33 ?_
        refine lv_iload_n hx hb dX5_spells_36 rfl (lv_at hl 0 rfl) ?_
        refine lv_iadd hx hb dX5_spells_37 ?_
        obtain ⟨hg_9, hf⟩ := hb_g hf
        refine va_bald hx hb hK.1.1 hP 1 1 rfl rfl (ixb_in hg_9) dX5_spells_38 ?_
        refine lv_aload_n hx hb dX5_spells_39 rfl (lv_at hl 2 rfl) ?_
        refine lv_iload_n hx hb dX5_spells_40 rfl (lv_at hl 0 rfl) ?_
        refine cl_Ti (As := [.int ((0 + 1) + 1)]) (rest := [.int (f_t_text ((i_t_start + ((0 + 1) + 1)) : Int32).toNatClampNeg)]) [] [none, none] 2 C0 hK hP hD hS hA (c_J0_charAt l D cy 5 (by decide) 2 (by decide)) (cwV 1 hts gX5_spells_J0_charAt_5068e rfl rfl rfl (by decide +kernel) ⟨Nat.le_of_ble_eq_true rfl, Nat.le_of_ble_eq_true rfl⟩) rfl (by decide) rfl rfl rfl (vk_recv (adK := fun i => cy (100 + i)) (i := 5) hK.2.1 (by decide) hS) rfl hl.1 rfl (Nat.le_of_ble_eq_true rfl) dX5_spells_41 ⟨Nat.zero_le _, Nat.zero_le _⟩ (fun H locs hP hD hS => ?_)
        have hP : va_P D vwCl [(a_t, .inr (5, [.ref a_t_text, o_t_length, .int i_t_place, .int i_t_start, o_t_faultNumber, o_t_faultByte])), (a_t_text, .inl (cy 1, 500, .inl f_t_text))] H := hP
        have hD : va_D A [(a_t, .inr (5, [.ref a_t_text, o_t_length, .int i_t_place, .int i_t_start, o_t_faultNumber, o_t_faultByte])), (a_t_text, .inl (cy 1, 500, .inl f_t_text))] := hD
        refine lv_icmp_eq (tgt := 49) hx hb dX5_spells_44 (by decide) (fun c_10 => ?_) (fun c_10 => ?_)
        · have hf := hb_t hf c_10
          refine lv_iinc (v := (((0 + 1) + 1) + 1)) (lv' := [(2, .int (((0 + 1) + 1) + 1)), (0, .ref a_t), (1, .ref (cy 105))]) hx hb dX5_spells_49 hl (k := 0) rfl rfl (by decide) rfl (fun ls hl => ?_)
          refine lv_goto (tgt := 20) hx hb dX5_spells_52 (by decide) ?_
          refine lv_iload_n hx hb dX5_spells_20 rfl (lv_at hl 0 rfl) ?_
          refine lv_aload_n hx hb dX5_spells_21 rfl (lv_at hl 2 rfl) ?_
          refine cl_Ti (rest := [.int (((0 + 1) + 1) + 1)]) [] [none, none] 2 C0 hK hP hD hS hA (c_J0_length l D cy 5 (by decide)) (cwV 0 hts gX5_spells_J0_length_8abf5 rfl rfl rfl (by decide +kernel) ⟨Nat.le_of_ble_eq_true rfl, Nat.le_of_ble_eq_true rfl⟩) rfl (by decide) rfl rfl rfl (vk_recv (adK := fun i => cy (100 + i)) (i := 5) hK.2.1 (by decide) hS) rfl hl.1 rfl (Nat.le_of_ble_eq_true rfl) dX5_spells_22 ⟨Nat.zero_le _, Nat.zero_le _⟩ (fun H locs hP hD hS => ?_)
          have hP : va_P D vwCl [(a_t, .inr (5, [.ref a_t_text, o_t_length, .int i_t_place, .int i_t_start, o_t_faultNumber, o_t_faultByte])), (a_t_text, .inl (cy 1, 500, .inl f_t_text))] H := hP
          have hD : va_D A [(a_t, .inr (5, [.ref a_t_text, o_t_length, .int i_t_place, .int i_t_start, o_t_faultNumber, o_t_faultByte])), (a_t_text, .inl (cy 1, 500, .inl f_t_text))] := hD
          refine lv_icmp_ge (tgt := 55) hx hb dX5_spells_25 (by decide) (fun c_11 => absurd c_11 (by decide)) (fun c_11 => ?_)
          refine lv_aload_n hx hb dX5_spells_28 rfl (lv_at hl 1 rfl) ?_
          refine va_get (D := D) (ci := 5) (v := .ref a_t_text) (C := RX5) (T := TX5) (N := 6) hx hb hts uX5_spells_X5 hown hK.1.1 hP 0 rfl rfl 0 (by decide) (hts _ mX5_spells_9) (fun _ h9 => h9) rfl dX5_spells_29 ?_
          refine lv_aload_n hx hb dX5_spells_32 rfl (lv_at hl 1 rfl) ?_
          refine va_get (D := D) (ci := 5) (v := .int i_t_start) (C := RX5) (T := TX5) (N := 6) hx hb hts uX5_spells_X5 hown hK.1.1 hP 0 rfl rfl 3 (by decide) (hts _ mX5_spells_121) (fun _ h9 => h9) rfl dX5_spells_33 ?_
          refine lv_iload_n hx hb dX5_spells_36 rfl (lv_at hl 0 rfl) ?_
          refine lv_iadd hx hb dX5_spells_37 ?_
          obtain ⟨hg_12, hf⟩ := hb_g hf
          refine va_bald hx hb hK.1.1 hP 1 1 rfl rfl (ixb_in hg_12) dX5_spells_38 ?_
          refine lv_aload_n hx hb dX5_spells_39 rfl (lv_at hl 2 rfl) ?_
          refine lv_iload_n hx hb dX5_spells_40 rfl (lv_at hl 0 rfl) ?_
          refine cl_Ti (As := [.int (((0 + 1) + 1) + 1)]) (rest := [.int (f_t_text ((i_t_start + (((0 + 1) + 1) + 1)) : Int32).toNatClampNeg)]) [] [none, none] 2 C0 hK hP hD hS hA (c_J0_charAt l D cy 5 (by decide) 3 (by decide)) (cwV 1 hts gX5_spells_J0_charAt_5068e rfl rfl rfl (by decide +kernel) ⟨Nat.le_of_ble_eq_true rfl, Nat.le_of_ble_eq_true rfl⟩) rfl (by decide) rfl rfl rfl (vk_recv (adK := fun i => cy (100 + i)) (i := 5) hK.2.1 (by decide) hS) rfl hl.1 rfl (Nat.le_of_ble_eq_true rfl) dX5_spells_41 ⟨Nat.zero_le _, Nat.zero_le _⟩ (fun H locs hP hD hS => ?_)
          have hP : va_P D vwCl [(a_t, .inr (5, [.ref a_t_text, o_t_length, .int i_t_place, .int i_t_start, o_t_faultNumber, o_t_faultByte])), (a_t_text, .inl (cy 1, 500, .inl f_t_text))] H := hP
          have hD : va_D A [(a_t, .inr (5, [.ref a_t_text, o_t_length, .int i_t_place, .int i_t_start, o_t_faultNumber, o_t_faultByte])), (a_t_text, .inl (cy 1, 500, .inl f_t_text))] := hD
          refine lv_icmp_eq (tgt := 49) hx hb dX5_spells_44 (by decide) (fun c_13 => ?_) (fun c_13 => ?_)
          · have hf := hb_t hf c_13
            refine lv_iinc (v := ((((0 + 1) + 1) + 1) + 1)) (lv' := [(2, .int ((((0 + 1) + 1) + 1) + 1)), (0, .ref a_t), (1, .ref (cy 105))]) hx hb dX5_spells_49 hl (k := 0) rfl rfl (by decide) rfl (fun ls hl => ?_)
            refine lv_goto (tgt := 20) hx hb dX5_spells_52 (by decide) ?_
            refine lv_iload_n hx hb dX5_spells_20 rfl (lv_at hl 0 rfl) ?_
            refine lv_aload_n hx hb dX5_spells_21 rfl (lv_at hl 2 rfl) ?_
            refine cl_Ti (rest := [.int ((((0 + 1) + 1) + 1) + 1)]) [] [none, none] 2 C0 hK hP hD hS hA (c_J0_length l D cy 5 (by decide)) (cwV 0 hts gX5_spells_J0_length_8abf5 rfl rfl rfl (by decide +kernel) ⟨Nat.le_of_ble_eq_true rfl, Nat.le_of_ble_eq_true rfl⟩) rfl (by decide) rfl rfl rfl (vk_recv (adK := fun i => cy (100 + i)) (i := 5) hK.2.1 (by decide) hS) rfl hl.1 rfl (Nat.le_of_ble_eq_true rfl) dX5_spells_22 ⟨Nat.zero_le _, Nat.zero_le _⟩ (fun H locs hP hD hS => ?_)
            have hP : va_P D vwCl [(a_t, .inr (5, [.ref a_t_text, o_t_length, .int i_t_place, .int i_t_start, o_t_faultNumber, o_t_faultByte])), (a_t_text, .inl (cy 1, 500, .inl f_t_text))] H := hP
            have hD : va_D A [(a_t, .inr (5, [.ref a_t_text, o_t_length, .int i_t_place, .int i_t_start, o_t_faultNumber, o_t_faultByte])), (a_t_text, .inl (cy 1, 500, .inl f_t_text))] := hD
            refine lv_icmp_ge (tgt := 55) hx hb dX5_spells_25 (by decide) (fun c_14 => ?_) (fun c_14 => absurd c_14 (by decide))
            refine lv_iconst (v := 1) hx hb dX5_spells_55 (by decide) ?_
            have hf := Option.some.inj hf
            subst hf
            exact hret _ _ _ _ dX5_spells_56 rfl hP hS
          · have hf := hb_f hf c_13
            refine lv_iconst (v := 0) hx hb dX5_spells_47 (by decide) ?_
            have hf := Option.some.inj hf
            subst hf
            exact hret _ _ _ _ dX5_spells_48 rfl hP hS
        · have hf := hb_f hf c_10
          refine lv_iconst (v := 0) hx hb dX5_spells_47 (by decide) ?_
          have hf := Option.some.inj hf
          subst hf
          exact hret _ _ _ _ dX5_spells_48 rfl hP hS
      · have hf := hb_f hf c_7
        refine lv_iconst (v := 0) hx hb dX5_spells_47 (by decide) ?_
        have hf := Option.some.inj hf
        subst hf
        exact hret _ _ _ _ dX5_spells_48 rfl hP hS
    · have hf := hb_f hf c_4
      refine lv_iconst (v := 0) hx hb dX5_spells_47 (by decide) ?_
      have hf := Option.some.inj hf
      subst hf
      exact hret _ _ _ _ dX5_spells_48 rfl hP hS
  · have hf := hb_f hf c_1
    refine lv_iconst (v := 0) hx hb dX5_spells_16 (by decide) ?_
    have hf := Option.some.inj hf
    subst hf
    exact hret _ _ _ _ dX5_spells_17 rfl hP hS
abbrev rmX5_spells_link : Room := { frames := 4, cells := 0, slots := 0, locals := 85 }
set_option maxRecDepth 100000 in
set_option maxHeartbeats 4000000 in
theorem c_X5_spells_link (l : Launch) (D : va_G) (cy : Nat → ClassId) (a_t : Nat) (a_t_text : Nat) (o_t_length : Value) (o_t_faultNumber : Value) (o_t_faultByte : Value) (i_t_place : Int32) (i_t_start : Int32) (f_t_text : Nat → Int32) (rv : Int32) (hf : f_X5_spells_link i_t_place i_t_start f_t_text = some rv) : MI l D cy yX5_spells wsX5_spells rmX5_spells_link [.ref a_t, .ref (cy 106)] [(a_t, .inr (5, [.ref a_t_text, o_t_length, .int i_t_place, .int i_t_start, o_t_faultNumber, o_t_faultByte])), (a_t_text, .inl (cy 1, 500, .inl f_t_text))] [(a_t, .inr (5, [.ref a_t_text, o_t_length, .int i_t_place, .int i_t_start, o_t_faultNumber, o_t_faultByte])), (a_t_text, .inl (cy 1, 500, .inl f_t_text))] rv := by
  refine st_I (by decide) rfl (Nat.le_of_ble_eq_true rfl) (fun p e s m below meth c A Q ls C0 hA hK hP hD hS hl hret => ?_)
  obtain ⟨hx, hb, hr, hml, hown, hts, hlocks⟩ := id C0
  have hl : lv_has ls 3 [(0, .ref a_t), (1, .ref (cy 106))] := hl
  unfold f_X5_spells_link at hf
  refine lv_aload_n hx hb dX5_spells_0 rfl (lv_at hl 0 rfl) ?_
  refine va_get (D := D) (ci := 5) (v := .int i_t_place) (C := RX5) (T := TX5) (N := 6) hx hb hts uX5_spells_X5 hown hK.1.1 hP 0 rfl rfl 2 (by decide) (hts _ mX5_spells_23) (fun _ h9 => h9) rfl dX5_spells_1 ?_
  refine lv_aload_n hx hb dX5_spells_4 rfl (lv_at hl 0 rfl) ?_
  refine va_get (D := D) (ci := 5) (v := .int i_t_start) (C := RX5) (T := TX5) (N := 6) hx hb hts uX5_spells_X5 hown hK.1.1 hP 0 rfl rfl 3 (by decide) (hts _ mX5_spells_121) (fun _ h9 => h9) rfl dX5_spells_5 ?_
  refine lv_isub hx hb dX5_spells_8 ?_
  refine lv_aload_n hx hb dX5_spells_9 rfl (lv_at hl 1 rfl) ?_
  refine cl_Ti (rest := [.int (i_t_place - i_t_start)]) [] [none, none] 2 C0 hK hP hD hS hA (c_J0_length l D cy 6 (by decide)) (cwV 0 hts gX5_spells_J0_length_8abf5 rfl rfl rfl (by decide +kernel) ⟨Nat.le_of_ble_eq_true rfl, Nat.le_of_ble_eq_true rfl⟩) rfl (by decide) rfl rfl rfl (vk_recv (adK := fun i => cy (100 + i)) (i := 6) hK.2.1 (by decide) hS) rfl hl.1 rfl (Nat.le_of_ble_eq_true rfl) dX5_spells_10 ⟨Nat.zero_le _, Nat.zero_le _⟩ (fun H locs hP hD hS => ?_)
  have hP : va_P D vwCl [(a_t, .inr (5, [.ref a_t_text, o_t_length, .int i_t_place, .int i_t_start, o_t_faultNumber, o_t_faultByte])), (a_t_text, .inl (cy 1, 500, .inl f_t_text))] H := hP
  have hD : va_D A [(a_t, .inr (5, [.ref a_t_text, o_t_length, .int i_t_place, .int i_t_start, o_t_faultNumber, o_t_faultByte])), (a_t_text, .inl (cy 1, 500, .inl f_t_text))] := hD
  refine lv_icmp_eq (tgt := 18) hx hb dX5_spells_13 (by decide) (fun c_1 => ?_) (fun c_1 => ?_)
  · have hf := hb_t hf c_1
    refine lv_iconst (v := 0) hx hb dX5_spells_18 (by decide) ?_
    refine lv_istore_n (lv' := [(2, .int 0), (0, .ref a_t), (1, .ref (cy 106))]) hx hb dX5_spells_19 rfl hl (by decide) rfl (fun ls hl => ?_)
    refine lv_iload_n hx hb dX5_spells_20 rfl (lv_at hl 0 rfl) ?_
    refine lv_aload_n hx hb dX5_spells_21 rfl (lv_at hl 2 rfl) ?_
    refine cl_Ti (rest := [.int 0]) [] [none, none] 2 C0 hK hP hD hS hA (c_J0_length l D cy 6 (by decide)) (cwV 0 hts gX5_spells_J0_length_8abf5 rfl rfl rfl (by decide +kernel) ⟨Nat.le_of_ble_eq_true rfl, Nat.le_of_ble_eq_true rfl⟩) rfl (by decide) rfl rfl rfl (vk_recv (adK := fun i => cy (100 + i)) (i := 6) hK.2.1 (by decide) hS) rfl hl.1 rfl (Nat.le_of_ble_eq_true rfl) dX5_spells_22 ⟨Nat.zero_le _, Nat.zero_le _⟩ (fun H locs hP hD hS => ?_)
    have hP : va_P D vwCl [(a_t, .inr (5, [.ref a_t_text, o_t_length, .int i_t_place, .int i_t_start, o_t_faultNumber, o_t_faultByte])), (a_t_text, .inl (cy 1, 500, .inl f_t_text))] H := hP
    have hD : va_D A [(a_t, .inr (5, [.ref a_t_text, o_t_length, .int i_t_place, .int i_t_start, o_t_faultNumber, o_t_faultByte])), (a_t_text, .inl (cy 1, 500, .inl f_t_text))] := hD
    refine lv_icmp_ge (tgt := 55) hx hb dX5_spells_25 (by decide) (fun c_2 => absurd c_2 (by decide)) (fun c_2 => ?_)
    refine lv_aload_n hx hb dX5_spells_28 rfl (lv_at hl 1 rfl) ?_
    refine va_get (D := D) (ci := 5) (v := .ref a_t_text) (C := RX5) (T := TX5) (N := 6) hx hb hts uX5_spells_X5 hown hK.1.1 hP 0 rfl rfl 0 (by decide) (hts _ mX5_spells_9) (fun _ h9 => h9) rfl dX5_spells_29 ?_
    refine lv_aload_n hx hb dX5_spells_32 rfl (lv_at hl 1 rfl) ?_
    refine va_get (D := D) (ci := 5) (v := .int i_t_start) (C := RX5) (T := TX5) (N := 6) hx hb hts uX5_spells_X5 hown hK.1.1 hP 0 rfl rfl 3 (by decide) (hts _ mX5_spells_121) (fun _ h9 => h9) rfl dX5_spells_33 ?_
    refine lv_iload_n hx hb dX5_spells_36 rfl (lv_at hl 0 rfl) ?_
    refine lv_iadd hx hb dX5_spells_37 ?_
    obtain ⟨hg_3, hf⟩ := hb_g hf
    refine va_bald hx hb hK.1.1 hP 1 1 rfl rfl (ixb_in hg_3) dX5_spells_38 ?_
    refine lv_aload_n hx hb dX5_spells_39 rfl (lv_at hl 2 rfl) ?_
    refine lv_iload_n hx hb dX5_spells_40 rfl (lv_at hl 0 rfl) ?_
    refine cl_Ti (As := [.int 0]) (rest := [.int (f_t_text ((i_t_start + 0) : Int32).toNatClampNeg)]) [] [none, none] 2 C0 hK hP hD hS hA (c_J0_charAt l D cy 6 (by decide) 0 (by decide)) (cwV 1 hts gX5_spells_J0_charAt_5068e rfl rfl rfl (by decide +kernel) ⟨Nat.le_of_ble_eq_true rfl, Nat.le_of_ble_eq_true rfl⟩) rfl (by decide) rfl rfl rfl (vk_recv (adK := fun i => cy (100 + i)) (i := 6) hK.2.1 (by decide) hS) rfl hl.1 rfl (Nat.le_of_ble_eq_true rfl) dX5_spells_41 ⟨Nat.zero_le _, Nat.zero_le _⟩ (fun H locs hP hD hS => ?_)
    have hP : va_P D vwCl [(a_t, .inr (5, [.ref a_t_text, o_t_length, .int i_t_place, .int i_t_start, o_t_faultNumber, o_t_faultByte])), (a_t_text, .inl (cy 1, 500, .inl f_t_text))] H := hP
    have hD : va_D A [(a_t, .inr (5, [.ref a_t_text, o_t_length, .int i_t_place, .int i_t_start, o_t_faultNumber, o_t_faultByte])), (a_t_text, .inl (cy 1, 500, .inl f_t_text))] := hD
    refine lv_icmp_eq (tgt := 49) hx hb dX5_spells_44 (by decide) (fun c_4 => ?_) (fun c_4 => ?_)
    · have hf := hb_t hf c_4
      refine lv_iinc (v := (0 + 1)) (lv' := [(2, .int (0 + 1)), (0, .ref a_t), (1, .ref (cy 106))]) hx hb dX5_spells_49 hl (k := 0) rfl rfl (by decide) rfl (fun ls hl => ?_)
      refine lv_goto (tgt := 20) hx hb dX5_spells_52 (by decide) ?_
      refine lv_iload_n hx hb dX5_spells_20 rfl (lv_at hl 0 rfl) ?_
      refine lv_aload_n hx hb dX5_spells_21 rfl (lv_at hl 2 rfl) ?_
      refine cl_Ti (rest := [.int (0 + 1)]) [] [none, none] 2 C0 hK hP hD hS hA (c_J0_length l D cy 6 (by decide)) (cwV 0 hts gX5_spells_J0_length_8abf5 rfl rfl rfl (by decide +kernel) ⟨Nat.le_of_ble_eq_true rfl, Nat.le_of_ble_eq_true rfl⟩) rfl (by decide) rfl rfl rfl (vk_recv (adK := fun i => cy (100 + i)) (i := 6) hK.2.1 (by decide) hS) rfl hl.1 rfl (Nat.le_of_ble_eq_true rfl) dX5_spells_22 ⟨Nat.zero_le _, Nat.zero_le _⟩ (fun H locs hP hD hS => ?_)
      have hP : va_P D vwCl [(a_t, .inr (5, [.ref a_t_text, o_t_length, .int i_t_place, .int i_t_start, o_t_faultNumber, o_t_faultByte])), (a_t_text, .inl (cy 1, 500, .inl f_t_text))] H := hP
      have hD : va_D A [(a_t, .inr (5, [.ref a_t_text, o_t_length, .int i_t_place, .int i_t_start, o_t_faultNumber, o_t_faultByte])), (a_t_text, .inl (cy 1, 500, .inl f_t_text))] := hD
      refine lv_icmp_ge (tgt := 55) hx hb dX5_spells_25 (by decide) (fun c_5 => absurd c_5 (by decide)) (fun c_5 => ?_)
      refine lv_aload_n hx hb dX5_spells_28 rfl (lv_at hl 1 rfl) ?_
      refine va_get (D := D) (ci := 5) (v := .ref a_t_text) (C := RX5) (T := TX5) (N := 6) hx hb hts uX5_spells_X5 hown hK.1.1 hP 0 rfl rfl 0 (by decide) (hts _ mX5_spells_9) (fun _ h9 => h9) rfl dX5_spells_29 ?_
      refine lv_aload_n hx hb dX5_spells_32 rfl (lv_at hl 1 rfl) ?_
      refine va_get (D := D) (ci := 5) (v := .int i_t_start) (C := RX5) (T := TX5) (N := 6) hx hb hts uX5_spells_X5 hown hK.1.1 hP 0 rfl rfl 3 (by decide) (hts _ mX5_spells_121) (fun _ h9 => h9) rfl dX5_spells_33 ?_
      refine lv_iload_n hx hb dX5_spells_36 rfl (lv_at hl 0 rfl) ?_
      refine lv_iadd hx hb dX5_spells_37 ?_
      obtain ⟨hg_6, hf⟩ := hb_g hf
      refine va_bald hx hb hK.1.1 hP 1 1 rfl rfl (ixb_in hg_6) dX5_spells_38 ?_
      refine lv_aload_n hx hb dX5_spells_39 rfl (lv_at hl 2 rfl) ?_
      refine lv_iload_n hx hb dX5_spells_40 rfl (lv_at hl 0 rfl) ?_
      refine cl_Ti (As := [.int (0 + 1)]) (rest := [.int (f_t_text ((i_t_start + (0 + 1)) : Int32).toNatClampNeg)]) [] [none, none] 2 C0 hK hP hD hS hA (c_J0_charAt l D cy 6 (by decide) 1 (by decide)) (cwV 1 hts gX5_spells_J0_charAt_5068e rfl rfl rfl (by decide +kernel) ⟨Nat.le_of_ble_eq_true rfl, Nat.le_of_ble_eq_true rfl⟩) rfl (by decide) rfl rfl rfl (vk_recv (adK := fun i => cy (100 + i)) (i := 6) hK.2.1 (by decide) hS) rfl hl.1 rfl (Nat.le_of_ble_eq_true rfl) dX5_spells_41 ⟨Nat.zero_le _, Nat.zero_le _⟩ (fun H locs hP hD hS => ?_)
      have hP : va_P D vwCl [(a_t, .inr (5, [.ref a_t_text, o_t_length, .int i_t_place, .int i_t_start, o_t_faultNumber, o_t_faultByte])), (a_t_text, .inl (cy 1, 500, .inl f_t_text))] H := hP
      have hD : va_D A [(a_t, .inr (5, [.ref a_t_text, o_t_length, .int i_t_place, .int i_t_start, o_t_faultNumber, o_t_faultByte])), (a_t_text, .inl (cy 1, 500, .inl f_t_text))] := hD
      refine lv_icmp_eq (tgt := 49) hx hb dX5_spells_44 (by decide) (fun c_7 => ?_) (fun c_7 => ?_)
      · have hf := hb_t hf c_7
        refine lv_iinc (v := ((0 + 1) + 1)) (lv' := [(2, .int ((0 + 1) + 1)), (0, .ref a_t), (1, .ref (cy 106))]) hx hb dX5_spells_49 hl (k := 0) rfl rfl (by decide) rfl (fun ls hl => ?_)
        refine lv_goto (tgt := 20) hx hb dX5_spells_52 (by decide) ?_
        refine lv_iload_n hx hb dX5_spells_20 rfl (lv_at hl 0 rfl) ?_
        refine lv_aload_n hx hb dX5_spells_21 rfl (lv_at hl 2 rfl) ?_
        refine cl_Ti (rest := [.int ((0 + 1) + 1)]) [] [none, none] 2 C0 hK hP hD hS hA (c_J0_length l D cy 6 (by decide)) (cwV 0 hts gX5_spells_J0_length_8abf5 rfl rfl rfl (by decide +kernel) ⟨Nat.le_of_ble_eq_true rfl, Nat.le_of_ble_eq_true rfl⟩) rfl (by decide) rfl rfl rfl (vk_recv (adK := fun i => cy (100 + i)) (i := 6) hK.2.1 (by decide) hS) rfl hl.1 rfl (Nat.le_of_ble_eq_true rfl) dX5_spells_22 ⟨Nat.zero_le _, Nat.zero_le _⟩ (fun H locs hP hD hS => ?_)
        have hP : va_P D vwCl [(a_t, .inr (5, [.ref a_t_text, o_t_length, .int i_t_place, .int i_t_start, o_t_faultNumber, o_t_faultByte])), (a_t_text, .inl (cy 1, 500, .inl f_t_text))] H := hP
        have hD : va_D A [(a_t, .inr (5, [.ref a_t_text, o_t_length, .int i_t_place, .int i_t_start, o_t_faultNumber, o_t_faultByte])), (a_t_text, .inl (cy 1, 500, .inl f_t_text))] := hD
        refine lv_icmp_ge (tgt := 55) hx hb dX5_spells_25 (by decide) (fun c_8 => absurd c_8 (by decide)) (fun c_8 => ?_)
        refine lv_aload_n hx hb dX5_spells_28 rfl (lv_at hl 1 rfl) ?_
        refine va_get (D := D) (ci := 5) (v := .ref a_t_text) (C := RX5) (T := TX5) (N := 6) hx hb hts uX5_spells_X5 hown hK.1.1 hP 0 rfl rfl 0 (by decide) (hts _ mX5_spells_9) (fun _ h9 => h9) rfl dX5_spells_29 ?_
        refine lv_aload_n hx hb dX5_spells_32 rfl (lv_at hl 1 rfl) ?_
        refine va_get (D := D) (ci := 5) (v := .int i_t_start) (C := RX5) (T := TX5) (N := 6) hx hb hts uX5_spells_X5 hown hK.1.1 hP 0 rfl rfl 3 (by decide) (hts _ mX5_spells_121) (fun _ h9 => h9) rfl dX5_spells_33 ?_
        refine lv_iload_n hx hb dX5_spells_36 rfl (lv_at hl 0 rfl) ?_
        refine lv_iadd hx hb dX5_spells_37 ?_
        obtain ⟨hg_9, hf⟩ := hb_g hf
        refine va_bald hx hb hK.1.1 hP 1 1 rfl rfl (ixb_in hg_9) dX5_spells_38 ?_
        refine lv_aload_n hx hb dX5_spells_39 rfl (lv_at hl 2 rfl) ?_
        refine lv_iload_n hx hb dX5_spells_40 rfl (lv_at hl 0 rfl) ?_
        refine cl_Ti (As := [.int ((0 + 1) + 1)]) (rest := [.int (f_t_text ((i_t_start + ((0 + 1) + 1)) : Int32).toNatClampNeg)]) [] [none, none] 2 C0 hK hP hD hS hA (c_J0_charAt l D cy 6 (by decide) 2 (by decide)) (cwV 1 hts gX5_spells_J0_charAt_5068e rfl rfl rfl (by decide +kernel) ⟨Nat.le_of_ble_eq_true rfl, Nat.le_of_ble_eq_true rfl⟩) rfl (by decide) rfl rfl rfl (vk_recv (adK := fun i => cy (100 + i)) (i := 6) hK.2.1 (by decide) hS) rfl hl.1 rfl (Nat.le_of_ble_eq_true rfl) dX5_spells_41 ⟨Nat.zero_le _, Nat.zero_le _⟩ (fun H locs hP hD hS => ?_)
        have hP : va_P D vwCl [(a_t, .inr (5, [.ref a_t_text, o_t_length, .int i_t_place, .int i_t_start, o_t_faultNumber, o_t_faultByte])), (a_t_text, .inl (cy 1, 500, .inl f_t_text))] H := hP
        have hD : va_D A [(a_t, .inr (5, [.ref a_t_text, o_t_length, .int i_t_place, .int i_t_start, o_t_faultNumber, o_t_faultByte])), (a_t_text, .inl (cy 1, 500, .inl f_t_text))] := hD
        refine lv_icmp_eq (tgt := 49) hx hb dX5_spells_44 (by decide) (fun c_10 => ?_) (fun c_10 => ?_)
        · have hf := hb_t hf c_10
          refine lv_iinc (v := (((0 + 1) + 1) + 1)) (lv' := [(2, .int (((0 + 1) + 1) + 1)), (0, .ref a_t), (1, .ref (cy 106))]) hx hb dX5_spells_49 hl (k := 0) rfl rfl (by decide) rfl (fun ls hl => ?_)
          refine lv_goto (tgt := 20) hx hb dX5_spells_52 (by decide) ?_
          refine lv_iload_n hx hb dX5_spells_20 rfl (lv_at hl 0 rfl) ?_
          refine lv_aload_n hx hb dX5_spells_21 rfl (lv_at hl 2 rfl) ?_
          refine cl_Ti (rest := [.int (((0 + 1) + 1) + 1)]) [] [none, none] 2 C0 hK hP hD hS hA (c_J0_length l D cy 6 (by decide)) (cwV 0 hts gX5_spells_J0_length_8abf5 rfl rfl rfl (by decide +kernel) ⟨Nat.le_of_ble_eq_true rfl, Nat.le_of_ble_eq_true rfl⟩) rfl (by decide) rfl rfl rfl (vk_recv (adK := fun i => cy (100 + i)) (i := 6) hK.2.1 (by decide) hS) rfl hl.1 rfl (Nat.le_of_ble_eq_true rfl) dX5_spells_22 ⟨Nat.zero_le _, Nat.zero_le _⟩ (fun H locs hP hD hS => ?_)
          have hP : va_P D vwCl [(a_t, .inr (5, [.ref a_t_text, o_t_length, .int i_t_place, .int i_t_start, o_t_faultNumber, o_t_faultByte])), (a_t_text, .inl (cy 1, 500, .inl f_t_text))] H := hP
          have hD : va_D A [(a_t, .inr (5, [.ref a_t_text, o_t_length, .int i_t_place, .int i_t_start, o_t_faultNumber, o_t_faultByte])), (a_t_text, .inl (cy 1, 500, .inl f_t_text))] := hD
          refine lv_icmp_ge (tgt := 55) hx hb dX5_spells_25 (by decide) (fun c_11 => absurd c_11 (by decide)) (fun c_11 => ?_)
          refine lv_aload_n hx hb dX5_spells_28 rfl (lv_at hl 1 rfl) ?_
          refine va_get (D := D) (ci := 5) (v := .ref a_t_text) (C := RX5) (T := TX5) (N := 6) hx hb hts uX5_spells_X5 hown hK.1.1 hP 0 rfl rfl 0 (by decide) (hts _ mX5_spells_9) (fun _ h9 => h9) rfl dX5_spells_29 ?_
          refine lv_aload_n hx hb dX5_spells_32 rfl (lv_at hl 1 rfl) ?_
          refine va_get (D := D) (ci := 5) (v := .int i_t_start) (C := RX5) (T := TX5) (N := 6) hx hb hts uX5_spells_X5 hown hK.1.1 hP 0 rfl rfl 3 (by decide) (hts _ mX5_spells_121) (fun _ h9 => h9) rfl dX5_spells_33 ?_
          refine lv_iload_n hx hb dX5_spells_36 rfl (lv_at hl 0 rfl) ?_
          refine lv_iadd hx hb dX5_spells_37 ?_
          obtain ⟨hg_12, hf⟩ := hb_g hf
          refine va_bald hx hb hK.1.1 hP 1 1 rfl rfl (ixb_in hg_12) dX5_spells_38 ?_
          refine lv_aload_n hx hb dX5_spells_39 rfl (lv_at hl 2 rfl) ?_
          refine lv_iload_n hx hb dX5_spells_40 rfl (lv_at hl 0 rfl) ?_
          refine cl_Ti (As := [.int (((0 + 1) + 1) + 1)]) (rest := [.int (f_t_text ((i_t_start + (((0 + 1) + 1) + 1)) : Int32).toNatClampNeg)]) [] [none, none] 2 C0 hK hP hD hS hA (c_J0_charAt l D cy 6 (by decide) 3 (by decide)) (cwV 1 hts gX5_spells_J0_charAt_5068e rfl rfl rfl (by decide +kernel) ⟨Nat.le_of_ble_eq_true rfl, Nat.le_of_ble_eq_true rfl⟩) rfl (by decide) rfl rfl rfl (vk_recv (adK := fun i => cy (100 + i)) (i := 6) hK.2.1 (by decide) hS) rfl hl.1 rfl (Nat.le_of_ble_eq_true rfl) dX5_spells_41 ⟨Nat.zero_le _, Nat.zero_le _⟩ (fun H locs hP hD hS => ?_)
          have hP : va_P D vwCl [(a_t, .inr (5, [.ref a_t_text, o_t_length, .int i_t_place, .int i_t_start, o_t_faultNumber, o_t_faultByte])), (a_t_text, .inl (cy 1, 500, .inl f_t_text))] H := hP
          have hD : va_D A [(a_t, .inr (5, [.ref a_t_text, o_t_length, .int i_t_place, .int i_t_start, o_t_faultNumber, o_t_faultByte])), (a_t_text, .inl (cy 1, 500, .inl f_t_text))] := hD
          refine lv_icmp_eq (tgt := 49) hx hb dX5_spells_44 (by decide) (fun c_13 => ?_) (fun c_13 => ?_)
          · have hf := hb_t hf c_13
            refine lv_iinc (v := ((((0 + 1) + 1) + 1) + 1)) (lv' := [(2, .int ((((0 + 1) + 1) + 1) + 1)), (0, .ref a_t), (1, .ref (cy 106))]) hx hb dX5_spells_49 hl (k := 0) rfl rfl (by decide) rfl (fun ls hl => ?_)
            refine lv_goto (tgt := 20) hx hb dX5_spells_52 (by decide) ?_
            refine lv_iload_n hx hb dX5_spells_20 rfl (lv_at hl 0 rfl) ?_
            refine lv_aload_n hx hb dX5_spells_21 rfl (lv_at hl 2 rfl) ?_
            refine cl_Ti (rest := [.int ((((0 + 1) + 1) + 1) + 1)]) [] [none, none] 2 C0 hK hP hD hS hA (c_J0_length l D cy 6 (by decide)) (cwV 0 hts gX5_spells_J0_length_8abf5 rfl rfl rfl (by decide +kernel) ⟨Nat.le_of_ble_eq_true rfl, Nat.le_of_ble_eq_true rfl⟩) rfl (by decide) rfl rfl rfl (vk_recv (adK := fun i => cy (100 + i)) (i := 6) hK.2.1 (by decide) hS) rfl hl.1 rfl (Nat.le_of_ble_eq_true rfl) dX5_spells_22 ⟨Nat.zero_le _, Nat.zero_le _⟩ (fun H locs hP hD hS => ?_)
            have hP : va_P D vwCl [(a_t, .inr (5, [.ref a_t_text, o_t_length, .int i_t_place, .int i_t_start, o_t_faultNumber, o_t_faultByte])), (a_t_text, .inl (cy 1, 500, .inl f_t_text))] H := hP
            have hD : va_D A [(a_t, .inr (5, [.ref a_t_text, o_t_length, .int i_t_place, .int i_t_start, o_t_faultNumber, o_t_faultByte])), (a_t_text, .inl (cy 1, 500, .inl f_t_text))] := hD
            refine lv_icmp_ge (tgt := 55) hx hb dX5_spells_25 (by decide) (fun c_14 => ?_) (fun c_14 => absurd c_14 (by decide))
            refine lv_iconst (v := 1) hx hb dX5_spells_55 (by decide) ?_
            have hf := Option.some.inj hf
            subst hf
            exact hret _ _ _ _ dX5_spells_56 rfl hP hS
          · have hf := hb_f hf c_13
            refine lv_iconst (v := 0) hx hb dX5_spells_47 (by decide) ?_
            have hf := Option.some.inj hf
            subst hf
            exact hret _ _ _ _ dX5_spells_48 rfl hP hS
        · have hf := hb_f hf c_10
          refine lv_iconst (v := 0) hx hb dX5_spells_47 (by decide) ?_
          have hf := Option.some.inj hf
          subst hf
          exact hret _ _ _ _ dX5_spells_48 rfl hP hS
      · have hf := hb_f hf c_7
        refine lv_iconst (v := 0) hx hb dX5_spells_47 (by decide) ?_
        have hf := Option.some.inj hf
        subst hf
        exact hret _ _ _ _ dX5_spells_48 rfl hP hS
    · have hf := hb_f hf c_4
      refine lv_iconst (v := 0) hx hb dX5_spells_47 (by decide) ?_
      have hf := Option.some.inj hf
      subst hf
      exact hret _ _ _ _ dX5_spells_48 rfl hP hS
  · have hf := hb_f hf c_1
    refine lv_iconst (v := 0) hx hb dX5_spells_16 (by decide) ?_
    have hf := Option.some.inj hf
    subst hf
    exact hret _ _ _ _ dX5_spells_17 rfl hP hS
abbrev rmX5_spells_turn : Room := { frames := 4, cells := 0, slots := 0, locals := 85 }
set_option maxRecDepth 100000 in
set_option maxHeartbeats 4000000 in
theorem c_X5_spells_turn (l : Launch) (D : va_G) (cy : Nat → ClassId) (a_t : Nat) (a_t_text : Nat) (o_t_length : Value) (o_t_faultNumber : Value) (o_t_faultByte : Value) (i_t_place : Int32) (i_t_start : Int32) (f_t_text : Nat → Int32) (rv : Int32) (hf : f_X5_spells_turn i_t_place i_t_start f_t_text = some rv) : MI l D cy yX5_spells wsX5_spells rmX5_spells_turn [.ref a_t, .ref (cy 107)] [(a_t, .inr (5, [.ref a_t_text, o_t_length, .int i_t_place, .int i_t_start, o_t_faultNumber, o_t_faultByte])), (a_t_text, .inl (cy 1, 500, .inl f_t_text))] [(a_t, .inr (5, [.ref a_t_text, o_t_length, .int i_t_place, .int i_t_start, o_t_faultNumber, o_t_faultByte])), (a_t_text, .inl (cy 1, 500, .inl f_t_text))] rv := by
  refine st_I (by decide) rfl (Nat.le_of_ble_eq_true rfl) (fun p e s m below meth c A Q ls C0 hA hK hP hD hS hl hret => ?_)
  obtain ⟨hx, hb, hr, hml, hown, hts, hlocks⟩ := id C0
  have hl : lv_has ls 3 [(0, .ref a_t), (1, .ref (cy 107))] := hl
  unfold f_X5_spells_turn at hf
  refine lv_aload_n hx hb dX5_spells_0 rfl (lv_at hl 0 rfl) ?_
  refine va_get (D := D) (ci := 5) (v := .int i_t_place) (C := RX5) (T := TX5) (N := 6) hx hb hts uX5_spells_X5 hown hK.1.1 hP 0 rfl rfl 2 (by decide) (hts _ mX5_spells_23) (fun _ h9 => h9) rfl dX5_spells_1 ?_
  refine lv_aload_n hx hb dX5_spells_4 rfl (lv_at hl 0 rfl) ?_
  refine va_get (D := D) (ci := 5) (v := .int i_t_start) (C := RX5) (T := TX5) (N := 6) hx hb hts uX5_spells_X5 hown hK.1.1 hP 0 rfl rfl 3 (by decide) (hts _ mX5_spells_121) (fun _ h9 => h9) rfl dX5_spells_5 ?_
  refine lv_isub hx hb dX5_spells_8 ?_
  refine lv_aload_n hx hb dX5_spells_9 rfl (lv_at hl 1 rfl) ?_
  refine cl_Ti (rest := [.int (i_t_place - i_t_start)]) [] [none, none] 2 C0 hK hP hD hS hA (c_J0_length l D cy 7 (by decide)) (cwV 0 hts gX5_spells_J0_length_8abf5 rfl rfl rfl (by decide +kernel) ⟨Nat.le_of_ble_eq_true rfl, Nat.le_of_ble_eq_true rfl⟩) rfl (by decide) rfl rfl rfl (vk_recv (adK := fun i => cy (100 + i)) (i := 7) hK.2.1 (by decide) hS) rfl hl.1 rfl (Nat.le_of_ble_eq_true rfl) dX5_spells_10 ⟨Nat.zero_le _, Nat.zero_le _⟩ (fun H locs hP hD hS => ?_)
  have hP : va_P D vwCl [(a_t, .inr (5, [.ref a_t_text, o_t_length, .int i_t_place, .int i_t_start, o_t_faultNumber, o_t_faultByte])), (a_t_text, .inl (cy 1, 500, .inl f_t_text))] H := hP
  have hD : va_D A [(a_t, .inr (5, [.ref a_t_text, o_t_length, .int i_t_place, .int i_t_start, o_t_faultNumber, o_t_faultByte])), (a_t_text, .inl (cy 1, 500, .inl f_t_text))] := hD
  refine lv_icmp_eq (tgt := 18) hx hb dX5_spells_13 (by decide) (fun c_1 => ?_) (fun c_1 => ?_)
  · have hf := hb_t hf c_1
    refine lv_iconst (v := 0) hx hb dX5_spells_18 (by decide) ?_
    refine lv_istore_n (lv' := [(2, .int 0), (0, .ref a_t), (1, .ref (cy 107))]) hx hb dX5_spells_19 rfl hl (by decide) rfl (fun ls hl => ?_)
    refine lv_iload_n hx hb dX5_spells_20 rfl (lv_at hl 0 rfl) ?_
    refine lv_aload_n hx hb dX5_spells_21 rfl (lv_at hl 2 rfl) ?_
    refine cl_Ti (rest := [.int 0]) [] [none, none] 2 C0 hK hP hD hS hA (c_J0_length l D cy 7 (by decide)) (cwV 0 hts gX5_spells_J0_length_8abf5 rfl rfl rfl (by decide +kernel) ⟨Nat.le_of_ble_eq_true rfl, Nat.le_of_ble_eq_true rfl⟩) rfl (by decide) rfl rfl rfl (vk_recv (adK := fun i => cy (100 + i)) (i := 7) hK.2.1 (by decide) hS) rfl hl.1 rfl (Nat.le_of_ble_eq_true rfl) dX5_spells_22 ⟨Nat.zero_le _, Nat.zero_le _⟩ (fun H locs hP hD hS => ?_)
    have hP : va_P D vwCl [(a_t, .inr (5, [.ref a_t_text, o_t_length, .int i_t_place, .int i_t_start, o_t_faultNumber, o_t_faultByte])), (a_t_text, .inl (cy 1, 500, .inl f_t_text))] H := hP
    have hD : va_D A [(a_t, .inr (5, [.ref a_t_text, o_t_length, .int i_t_place, .int i_t_start, o_t_faultNumber, o_t_faultByte])), (a_t_text, .inl (cy 1, 500, .inl f_t_text))] := hD
    refine lv_icmp_ge (tgt := 55) hx hb dX5_spells_25 (by decide) (fun c_2 => absurd c_2 (by decide)) (fun c_2 => ?_)
    refine lv_aload_n hx hb dX5_spells_28 rfl (lv_at hl 1 rfl) ?_
    refine va_get (D := D) (ci := 5) (v := .ref a_t_text) (C := RX5) (T := TX5) (N := 6) hx hb hts uX5_spells_X5 hown hK.1.1 hP 0 rfl rfl 0 (by decide) (hts _ mX5_spells_9) (fun _ h9 => h9) rfl dX5_spells_29 ?_
    refine lv_aload_n hx hb dX5_spells_32 rfl (lv_at hl 1 rfl) ?_
    refine va_get (D := D) (ci := 5) (v := .int i_t_start) (C := RX5) (T := TX5) (N := 6) hx hb hts uX5_spells_X5 hown hK.1.1 hP 0 rfl rfl 3 (by decide) (hts _ mX5_spells_121) (fun _ h9 => h9) rfl dX5_spells_33 ?_
    refine lv_iload_n hx hb dX5_spells_36 rfl (lv_at hl 0 rfl) ?_
    refine lv_iadd hx hb dX5_spells_37 ?_
    obtain ⟨hg_3, hf⟩ := hb_g hf
    refine va_bald hx hb hK.1.1 hP 1 1 rfl rfl (ixb_in hg_3) dX5_spells_38 ?_
    refine lv_aload_n hx hb dX5_spells_39 rfl (lv_at hl 2 rfl) ?_
    refine lv_iload_n hx hb dX5_spells_40 rfl (lv_at hl 0 rfl) ?_
    refine cl_Ti (As := [.int 0]) (rest := [.int (f_t_text ((i_t_start + 0) : Int32).toNatClampNeg)]) [] [none, none] 2 C0 hK hP hD hS hA (c_J0_charAt l D cy 7 (by decide) 0 (by decide)) (cwV 1 hts gX5_spells_J0_charAt_5068e rfl rfl rfl (by decide +kernel) ⟨Nat.le_of_ble_eq_true rfl, Nat.le_of_ble_eq_true rfl⟩) rfl (by decide) rfl rfl rfl (vk_recv (adK := fun i => cy (100 + i)) (i := 7) hK.2.1 (by decide) hS) rfl hl.1 rfl (Nat.le_of_ble_eq_true rfl) dX5_spells_41 ⟨Nat.zero_le _, Nat.zero_le _⟩ (fun H locs hP hD hS => ?_)
    have hP : va_P D vwCl [(a_t, .inr (5, [.ref a_t_text, o_t_length, .int i_t_place, .int i_t_start, o_t_faultNumber, o_t_faultByte])), (a_t_text, .inl (cy 1, 500, .inl f_t_text))] H := hP
    have hD : va_D A [(a_t, .inr (5, [.ref a_t_text, o_t_length, .int i_t_place, .int i_t_start, o_t_faultNumber, o_t_faultByte])), (a_t_text, .inl (cy 1, 500, .inl f_t_text))] := hD
    refine lv_icmp_eq (tgt := 49) hx hb dX5_spells_44 (by decide) (fun c_4 => ?_) (fun c_4 => ?_)
    · have hf := hb_t hf c_4
      refine lv_iinc (v := (0 + 1)) (lv' := [(2, .int (0 + 1)), (0, .ref a_t), (1, .ref (cy 107))]) hx hb dX5_spells_49 hl (k := 0) rfl rfl (by decide) rfl (fun ls hl => ?_)
      refine lv_goto (tgt := 20) hx hb dX5_spells_52 (by decide) ?_
      refine lv_iload_n hx hb dX5_spells_20 rfl (lv_at hl 0 rfl) ?_
      refine lv_aload_n hx hb dX5_spells_21 rfl (lv_at hl 2 rfl) ?_
      refine cl_Ti (rest := [.int (0 + 1)]) [] [none, none] 2 C0 hK hP hD hS hA (c_J0_length l D cy 7 (by decide)) (cwV 0 hts gX5_spells_J0_length_8abf5 rfl rfl rfl (by decide +kernel) ⟨Nat.le_of_ble_eq_true rfl, Nat.le_of_ble_eq_true rfl⟩) rfl (by decide) rfl rfl rfl (vk_recv (adK := fun i => cy (100 + i)) (i := 7) hK.2.1 (by decide) hS) rfl hl.1 rfl (Nat.le_of_ble_eq_true rfl) dX5_spells_22 ⟨Nat.zero_le _, Nat.zero_le _⟩ (fun H locs hP hD hS => ?_)
      have hP : va_P D vwCl [(a_t, .inr (5, [.ref a_t_text, o_t_length, .int i_t_place, .int i_t_start, o_t_faultNumber, o_t_faultByte])), (a_t_text, .inl (cy 1, 500, .inl f_t_text))] H := hP
      have hD : va_D A [(a_t, .inr (5, [.ref a_t_text, o_t_length, .int i_t_place, .int i_t_start, o_t_faultNumber, o_t_faultByte])), (a_t_text, .inl (cy 1, 500, .inl f_t_text))] := hD
      refine lv_icmp_ge (tgt := 55) hx hb dX5_spells_25 (by decide) (fun c_5 => absurd c_5 (by decide)) (fun c_5 => ?_)
      refine lv_aload_n hx hb dX5_spells_28 rfl (lv_at hl 1 rfl) ?_
      refine va_get (D := D) (ci := 5) (v := .ref a_t_text) (C := RX5) (T := TX5) (N := 6) hx hb hts uX5_spells_X5 hown hK.1.1 hP 0 rfl rfl 0 (by decide) (hts _ mX5_spells_9) (fun _ h9 => h9) rfl dX5_spells_29 ?_
      refine lv_aload_n hx hb dX5_spells_32 rfl (lv_at hl 1 rfl) ?_
      refine va_get (D := D) (ci := 5) (v := .int i_t_start) (C := RX5) (T := TX5) (N := 6) hx hb hts uX5_spells_X5 hown hK.1.1 hP 0 rfl rfl 3 (by decide) (hts _ mX5_spells_121) (fun _ h9 => h9) rfl dX5_spells_33 ?_
      refine lv_iload_n hx hb dX5_spells_36 rfl (lv_at hl 0 rfl) ?_
      refine lv_iadd hx hb dX5_spells_37 ?_
      obtain ⟨hg_6, hf⟩ := hb_g hf
      refine va_bald hx hb hK.1.1 hP 1 1 rfl rfl (ixb_in hg_6) dX5_spells_38 ?_
      refine lv_aload_n hx hb dX5_spells_39 rfl (lv_at hl 2 rfl) ?_
      refine lv_iload_n hx hb dX5_spells_40 rfl (lv_at hl 0 rfl) ?_
      refine cl_Ti (As := [.int (0 + 1)]) (rest := [.int (f_t_text ((i_t_start + (0 + 1)) : Int32).toNatClampNeg)]) [] [none, none] 2 C0 hK hP hD hS hA (c_J0_charAt l D cy 7 (by decide) 1 (by decide)) (cwV 1 hts gX5_spells_J0_charAt_5068e rfl rfl rfl (by decide +kernel) ⟨Nat.le_of_ble_eq_true rfl, Nat.le_of_ble_eq_true rfl⟩) rfl (by decide) rfl rfl rfl (vk_recv (adK := fun i => cy (100 + i)) (i := 7) hK.2.1 (by decide) hS) rfl hl.1 rfl (Nat.le_of_ble_eq_true rfl) dX5_spells_41 ⟨Nat.zero_le _, Nat.zero_le _⟩ (fun H locs hP hD hS => ?_)
      have hP : va_P D vwCl [(a_t, .inr (5, [.ref a_t_text, o_t_length, .int i_t_place, .int i_t_start, o_t_faultNumber, o_t_faultByte])), (a_t_text, .inl (cy 1, 500, .inl f_t_text))] H := hP
      have hD : va_D A [(a_t, .inr (5, [.ref a_t_text, o_t_length, .int i_t_place, .int i_t_start, o_t_faultNumber, o_t_faultByte])), (a_t_text, .inl (cy 1, 500, .inl f_t_text))] := hD
      refine lv_icmp_eq (tgt := 49) hx hb dX5_spells_44 (by decide) (fun c_7 => ?_) (fun c_7 => ?_)
      · have hf := hb_t hf c_7
        refine lv_iinc (v := ((0 + 1) + 1)) (lv' := [(2, .int ((0 + 1) + 1)), (0, .ref a_t), (1, .ref (cy 107))]) hx hb dX5_spells_49 hl (k := 0) rfl rfl (by decide) rfl (fun ls hl => ?_)
        refine lv_goto (tgt := 20) hx hb dX5_spells_52 (by decide) ?_
        refine lv_iload_n hx hb dX5_spells_20 rfl (lv_at hl 0 rfl) ?_
        refine lv_aload_n hx hb dX5_spells_21 rfl (lv_at hl 2 rfl) ?_
        refine cl_Ti (rest := [.int ((0 + 1) + 1)]) [] [none, none] 2 C0 hK hP hD hS hA (c_J0_length l D cy 7 (by decide)) (cwV 0 hts gX5_spells_J0_length_8abf5 rfl rfl rfl (by decide +kernel) ⟨Nat.le_of_ble_eq_true rfl, Nat.le_of_ble_eq_true rfl⟩) rfl (by decide) rfl rfl rfl (vk_recv (adK := fun i => cy (100 + i)) (i := 7) hK.2.1 (by decide) hS) rfl hl.1 rfl (Nat.le_of_ble_eq_true rfl) dX5_spells_22 ⟨Nat.zero_le _, Nat.zero_le _⟩ (fun H locs hP hD hS => ?_)
        have hP : va_P D vwCl [(a_t, .inr (5, [.ref a_t_text, o_t_length, .int i_t_place, .int i_t_start, o_t_faultNumber, o_t_faultByte])), (a_t_text, .inl (cy 1, 500, .inl f_t_text))] H := hP
        have hD : va_D A [(a_t, .inr (5, [.ref a_t_text, o_t_length, .int i_t_place, .int i_t_start, o_t_faultNumber, o_t_faultByte])), (a_t_text, .inl (cy 1, 500, .inl f_t_text))] := hD
        refine lv_icmp_ge (tgt := 55) hx hb dX5_spells_25 (by decide) (fun c_8 => absurd c_8 (by decide)) (fun c_8 => ?_)
        refine lv_aload_n hx hb dX5_spells_28 rfl (lv_at hl 1 rfl) ?_
        refine va_get (D := D) (ci := 5) (v := .ref a_t_text) (C := RX5) (T := TX5) (N := 6) hx hb hts uX5_spells_X5 hown hK.1.1 hP 0 rfl rfl 0 (by decide) (hts _ mX5_spells_9) (fun _ h9 => h9) rfl dX5_spells_29 ?_
        refine lv_aload_n hx hb dX5_spells_32 rfl (lv_at hl 1 rfl) ?_
        refine va_get (D := D) (ci := 5) (v := .int i_t_start) (C := RX5) (T := TX5) (N := 6) hx hb hts uX5_spells_X5 hown hK.1.1 hP 0 rfl rfl 3 (by decide) (hts _ mX5_spells_121) (fun _ h9 => h9) rfl dX5_spells_33 ?_
        refine lv_iload_n hx hb dX5_spells_36 rfl (lv_at hl 0 rfl) ?_
        refine lv_iadd hx hb dX5_spells_37 ?_
        obtain ⟨hg_9, hf⟩ := hb_g hf
        refine va_bald hx hb hK.1.1 hP 1 1 rfl rfl (ixb_in hg_9) dX5_spells_38 ?_
        refine lv_aload_n hx hb dX5_spells_39 rfl (lv_at hl 2 rfl) ?_
        refine lv_iload_n hx hb dX5_spells_40 rfl (lv_at hl 0 rfl) ?_
        refine cl_Ti (As := [.int ((0 + 1) + 1)]) (rest := [.int (f_t_text ((i_t_start + ((0 + 1) + 1)) : Int32).toNatClampNeg)]) [] [none, none] 2 C0 hK hP hD hS hA (c_J0_charAt l D cy 7 (by decide) 2 (by decide)) (cwV 1 hts gX5_spells_J0_charAt_5068e rfl rfl rfl (by decide +kernel) ⟨Nat.le_of_ble_eq_true rfl, Nat.le_of_ble_eq_true rfl⟩) rfl (by decide) rfl rfl rfl (vk_recv (adK := fun i => cy (100 + i)) (i := 7) hK.2.1 (by decide) hS) rfl hl.1 rfl (Nat.le_of_ble_eq_true rfl) dX5_spells_41 ⟨Nat.zero_le _, Nat.zero_le _⟩ (fun H locs hP hD hS => ?_)
        have hP : va_P D vwCl [(a_t, .inr (5, [.ref a_t_text, o_t_length, .int i_t_place, .int i_t_start, o_t_faultNumber, o_t_faultByte])), (a_t_text, .inl (cy 1, 500, .inl f_t_text))] H := hP
        have hD : va_D A [(a_t, .inr (5, [.ref a_t_text, o_t_length, .int i_t_place, .int i_t_start, o_t_faultNumber, o_t_faultByte])), (a_t_text, .inl (cy 1, 500, .inl f_t_text))] := hD
        refine lv_icmp_eq (tgt := 49) hx hb dX5_spells_44 (by decide) (fun c_10 => ?_) (fun c_10 => ?_)
        · have hf := hb_t hf c_10
          refine lv_iinc (v := (((0 + 1) + 1) + 1)) (lv' := [(2, .int (((0 + 1) + 1) + 1)), (0, .ref a_t), (1, .ref (cy 107))]) hx hb dX5_spells_49 hl (k := 0) rfl rfl (by decide) rfl (fun ls hl => ?_)
          refine lv_goto (tgt := 20) hx hb dX5_spells_52 (by decide) ?_
          refine lv_iload_n hx hb dX5_spells_20 rfl (lv_at hl 0 rfl) ?_
          refine lv_aload_n hx hb dX5_spells_21 rfl (lv_at hl 2 rfl) ?_
          refine cl_Ti (rest := [.int (((0 + 1) + 1) + 1)]) [] [none, none] 2 C0 hK hP hD hS hA (c_J0_length l D cy 7 (by decide)) (cwV 0 hts gX5_spells_J0_length_8abf5 rfl rfl rfl (by decide +kernel) ⟨Nat.le_of_ble_eq_true rfl, Nat.le_of_ble_eq_true rfl⟩) rfl (by decide) rfl rfl rfl (vk_recv (adK := fun i => cy (100 + i)) (i := 7) hK.2.1 (by decide) hS) rfl hl.1 rfl (Nat.le_of_ble_eq_true rfl) dX5_spells_22 ⟨Nat.zero_le _, Nat.zero_le _⟩ (fun H locs hP hD hS => ?_)
          have hP : va_P D vwCl [(a_t, .inr (5, [.ref a_t_text, o_t_length, .int i_t_place, .int i_t_start, o_t_faultNumber, o_t_faultByte])), (a_t_text, .inl (cy 1, 500, .inl f_t_text))] H := hP
          have hD : va_D A [(a_t, .inr (5, [.ref a_t_text, o_t_length, .int i_t_place, .int i_t_start, o_t_faultNumber, o_t_faultByte])), (a_t_text, .inl (cy 1, 500, .inl f_t_text))] := hD
          refine lv_icmp_ge (tgt := 55) hx hb dX5_spells_25 (by decide) (fun c_11 => absurd c_11 (by decide)) (fun c_11 => ?_)
          refine lv_aload_n hx hb dX5_spells_28 rfl (lv_at hl 1 rfl) ?_
          refine va_get (D := D) (ci := 5) (v := .ref a_t_text) (C := RX5) (T := TX5) (N := 6) hx hb hts uX5_spells_X5 hown hK.1.1 hP 0 rfl rfl 0 (by decide) (hts _ mX5_spells_9) (fun _ h9 => h9) rfl dX5_spells_29 ?_
          refine lv_aload_n hx hb dX5_spells_32 rfl (lv_at hl 1 rfl) ?_
          refine va_get (D := D) (ci := 5) (v := .int i_t_start) (C := RX5) (T := TX5) (N := 6) hx hb hts uX5_spells_X5 hown hK.1.1 hP 0 rfl rfl 3 (by decide) (hts _ mX5_spells_121) (fun _ h9 => h9) rfl dX5_spells_33 ?_
          refine lv_iload_n hx hb dX5_spells_36 rfl (lv_at hl 0 rfl) ?_
          refine lv_iadd hx hb dX5_spells_37 ?_
          obtain ⟨hg_12, hf⟩ := hb_g hf
          refine va_bald hx hb hK.1.1 hP 1 1 rfl rfl (ixb_in hg_12) dX5_spells_38 ?_
          refine lv_aload_n hx hb dX5_spells_39 rfl (lv_at hl 2 rfl) ?_
          refine lv_iload_n hx hb dX5_spells_40 rfl (lv_at hl 0 rfl) ?_
          refine cl_Ti (As := [.int (((0 + 1) + 1) + 1)]) (rest := [.int (f_t_text ((i_t_start + (((0 + 1) + 1) + 1)) : Int32).toNatClampNeg)]) [] [none, none] 2 C0 hK hP hD hS hA (c_J0_charAt l D cy 7 (by decide) 3 (by decide)) (cwV 1 hts gX5_spells_J0_charAt_5068e rfl rfl rfl (by decide +kernel) ⟨Nat.le_of_ble_eq_true rfl, Nat.le_of_ble_eq_true rfl⟩) rfl (by decide) rfl rfl rfl (vk_recv (adK := fun i => cy (100 + i)) (i := 7) hK.2.1 (by decide) hS) rfl hl.1 rfl (Nat.le_of_ble_eq_true rfl) dX5_spells_41 ⟨Nat.zero_le _, Nat.zero_le _⟩ (fun H locs hP hD hS => ?_)
          have hP : va_P D vwCl [(a_t, .inr (5, [.ref a_t_text, o_t_length, .int i_t_place, .int i_t_start, o_t_faultNumber, o_t_faultByte])), (a_t_text, .inl (cy 1, 500, .inl f_t_text))] H := hP
          have hD : va_D A [(a_t, .inr (5, [.ref a_t_text, o_t_length, .int i_t_place, .int i_t_start, o_t_faultNumber, o_t_faultByte])), (a_t_text, .inl (cy 1, 500, .inl f_t_text))] := hD
          refine lv_icmp_eq (tgt := 49) hx hb dX5_spells_44 (by decide) (fun c_13 => ?_) (fun c_13 => ?_)
          · have hf := hb_t hf c_13
            refine lv_iinc (v := ((((0 + 1) + 1) + 1) + 1)) (lv' := [(2, .int ((((0 + 1) + 1) + 1) + 1)), (0, .ref a_t), (1, .ref (cy 107))]) hx hb dX5_spells_49 hl (k := 0) rfl rfl (by decide) rfl (fun ls hl => ?_)
            refine lv_goto (tgt := 20) hx hb dX5_spells_52 (by decide) ?_
            refine lv_iload_n hx hb dX5_spells_20 rfl (lv_at hl 0 rfl) ?_
            refine lv_aload_n hx hb dX5_spells_21 rfl (lv_at hl 2 rfl) ?_
            refine cl_Ti (rest := [.int ((((0 + 1) + 1) + 1) + 1)]) [] [none, none] 2 C0 hK hP hD hS hA (c_J0_length l D cy 7 (by decide)) (cwV 0 hts gX5_spells_J0_length_8abf5 rfl rfl rfl (by decide +kernel) ⟨Nat.le_of_ble_eq_true rfl, Nat.le_of_ble_eq_true rfl⟩) rfl (by decide) rfl rfl rfl (vk_recv (adK := fun i => cy (100 + i)) (i := 7) hK.2.1 (by decide) hS) rfl hl.1 rfl (Nat.le_of_ble_eq_true rfl) dX5_spells_22 ⟨Nat.zero_le _, Nat.zero_le _⟩ (fun H locs hP hD hS => ?_)
            have hP : va_P D vwCl [(a_t, .inr (5, [.ref a_t_text, o_t_length, .int i_t_place, .int i_t_start, o_t_faultNumber, o_t_faultByte])), (a_t_text, .inl (cy 1, 500, .inl f_t_text))] H := hP
            have hD : va_D A [(a_t, .inr (5, [.ref a_t_text, o_t_length, .int i_t_place, .int i_t_start, o_t_faultNumber, o_t_faultByte])), (a_t_text, .inl (cy 1, 500, .inl f_t_text))] := hD
            refine lv_icmp_ge (tgt := 55) hx hb dX5_spells_25 (by decide) (fun c_14 => ?_) (fun c_14 => absurd c_14 (by decide))
            refine lv_iconst (v := 1) hx hb dX5_spells_55 (by decide) ?_
            have hf := Option.some.inj hf
            subst hf
            exact hret _ _ _ _ dX5_spells_56 rfl hP hS
          · have hf := hb_f hf c_13
            refine lv_iconst (v := 0) hx hb dX5_spells_47 (by decide) ?_
            have hf := Option.some.inj hf
            subst hf
            exact hret _ _ _ _ dX5_spells_48 rfl hP hS
        · have hf := hb_f hf c_10
          refine lv_iconst (v := 0) hx hb dX5_spells_47 (by decide) ?_
          have hf := Option.some.inj hf
          subst hf
          exact hret _ _ _ _ dX5_spells_48 rfl hP hS
      · have hf := hb_f hf c_7
        refine lv_iconst (v := 0) hx hb dX5_spells_47 (by decide) ?_
        have hf := Option.some.inj hf
        subst hf
        exact hret _ _ _ _ dX5_spells_48 rfl hP hS
    · have hf := hb_f hf c_4
      refine lv_iconst (v := 0) hx hb dX5_spells_47 (by decide) ?_
      have hf := Option.some.inj hf
      subst hf
      exact hret _ _ _ _ dX5_spells_48 rfl hP hS
  · have hf := hb_f hf c_1
    refine lv_iconst (v := 0) hx hb dX5_spells_16 (by decide) ?_
    have hf := Option.some.inj hf
    subst hf
    exact hret _ _ _ _ dX5_spells_17 rfl hP hS
abbrev rmX5_nextKind : Room := { frames := 5, cells := 0, slots := 0, locals := 107 }
set_option maxRecDepth 100000 in
set_option maxHeartbeats 4000000 in
theorem c_X5_nextKind (l : Launch) (D : va_G) (cy : Nat → ClassId) (a_t : Nat) (a_t_text : Nat) (i_t_length : Int32) (f_t_text : Nat → Int32) (i_t_place : Int32) (i_t_start : Int32) (i_t_faultNumber : Int32) (i_t_faultByte : Int32) (rv : Int32) (z_i_t_place : Int32) (z_i_t_start : Int32) (z_i_t_faultNumber : Int32) (z_i_t_faultByte : Int32) (hf : f_X5_nextKind i_t_length f_t_text i_t_place i_t_start i_t_faultNumber i_t_faultByte = some (rv, z_i_t_place, z_i_t_start, z_i_t_faultNumber, z_i_t_faultByte)) : MI l D cy yX5_nextKind wsX5_nextKind rmX5_nextKind [.ref a_t] [(a_t, .inr (5, [.ref a_t_text, .int i_t_length, .int i_t_place, .int i_t_start, .int i_t_faultNumber, .int i_t_faultByte])), (a_t_text, .inl (cy 1, 500, .inl f_t_text))] [(a_t, .inr (5, [.ref a_t_text, .int i_t_length, .int z_i_t_place, .int z_i_t_start, .int z_i_t_faultNumber, .int z_i_t_faultByte])), (a_t_text, .inl (cy 1, 500, .inl f_t_text))] rv := by
  refine st_I (by decide) rfl (Nat.le_of_ble_eq_true rfl) (fun p e s m below meth c A Q ls C0 hA hK hP hD hS hl hret => ?_)
  obtain ⟨hx, hb, hr, hml, hown, hts, hlocks⟩ := id C0
  have hl : lv_has ls 1 [(0, .ref a_t)] := hl
  unfold f_X5_nextKind at hf
  refine lv_aload_n hx hb dX5_nextKind_0 rfl (lv_at hl 0 rfl) ?_
  obtain ⟨⟨z_1, z_2⟩, hc_3, hf⟩ := hb_b hf
  refine cl_Vv (rest := []) [0, 1] [some 0, some 1] 2 0 C0 hK hP hD hS hA (c_X5_nextWord l D cy a_t a_t_text (.int i_t_faultNumber) (.int i_t_faultByte) i_t_length f_t_text i_t_place i_t_start z_1 z_2 hc_3) (cwV 0 hts gX5_nextKind_X5_nextWord rfl rfl rfl (by decide +kernel) ⟨Nat.le_of_ble_eq_true rfl, Nat.le_of_ble_eq_true rfl⟩) rfl (by decide) rfl rfl rfl rfl rfl rfl rfl hl.1 rfl (Nat.le_of_ble_eq_true rfl) dX5_nextKind_1 ⟨Nat.zero_le _, Nat.zero_le _⟩ (fun H locs hP hD hS => ?_)
  have hP : va_P D vwCl [(a_t, .inr (5, [.ref a_t_text, .int i_t_length, .int z_1, .int z_2, .int i_t_faultNumber, .int i_t_faultByte])), (a_t_text, .inl (cy 1, 500, .inl f_t_text))] H := hP
  have hD : va_D A [(a_t, .inr (5, [.ref a_t_text, .int i_t_length, .int z_1, .int z_2, .int i_t_faultNumber, .int i_t_faultByte])), (a_t_text, .inl (cy 1, 500, .inl f_t_text))] := hD
  refine lv_aload_n hx hb dX5_nextKind_4 rfl (lv_at hl 0 rfl) ?_
  refine va_ldcS (own := "OneWordLetters$Reader") (tx := "name") (q := cy 104) hx hb hown (hK.1.2.2.1 4 (by decide)) dX5_nextKind_5 ?_
  obtain ⟨r_4, hc_5, hf⟩ := hb_b hf
  refine cl_Vi (rest := []) [0, 1] [some 0, some 1] 2 0 C0 hK hP hD hS hA (c_X5_spells_name l D cy a_t a_t_text (.int i_t_length) (.int i_t_faultNumber) (.int i_t_faultByte) z_1 z_2 f_t_text r_4 hc_5) (cwV 1 hts gX5_nextKind_X5_spells rfl rfl rfl (by decide +kernel) ⟨Nat.le_of_ble_eq_true rfl, Nat.le_of_ble_eq_true rfl⟩) rfl (by decide) rfl rfl rfl rfl rfl rfl rfl hl.1 rfl (Nat.le_of_ble_eq_true rfl) dX5_nextKind_7 ⟨Nat.zero_le _, Nat.zero_le _⟩ (fun H locs hP hD hS => ?_)
  have hP : va_P D vwCl [(a_t, .inr (5, [.ref a_t_text, .int i_t_length, .int z_1, .int z_2, .int i_t_faultNumber, .int i_t_faultByte])), (a_t_text, .inl (cy 1, 500, .inl f_t_text))] H := hP
  have hD : va_D A [(a_t, .inr (5, [.ref a_t_text, .int i_t_length, .int z_1, .int z_2, .int i_t_faultNumber, .int i_t_faultByte])), (a_t_text, .inl (cy 1, 500, .inl f_t_text))] := hD
  refine lv_if_eq (tgt := 15) hx hb dX5_nextKind_10 (by decide) (fun c_6 => ?_) (fun c_6 => ?_)
  · have hf := hb_t hf c_6
    refine lv_aload_n hx hb dX5_nextKind_15 rfl (lv_at hl 0 rfl) ?_
    refine va_ldcS (own := "OneWordLetters$Reader") (tx := "deed") (q := cy 105) hx hb hown (hK.1.2.2.1 5 (by decide)) dX5_nextKind_16 ?_
    obtain ⟨r_7, hc_8, hf⟩ := hb_b hf
    refine cl_Vi (rest := []) [0, 1] [some 0, some 1] 2 0 C0 hK hP hD hS hA (c_X5_spells_deed l D cy a_t a_t_text (.int i_t_length) (.int i_t_faultNumber) (.int i_t_faultByte) z_1 z_2 f_t_text r_7 hc_8) (cwV 1 hts gX5_nextKind_X5_spells rfl rfl rfl (by decide +kernel) ⟨Nat.le_of_ble_eq_true rfl, Nat.le_of_ble_eq_true rfl⟩) rfl (by decide) rfl rfl rfl rfl rfl rfl rfl hl.1 rfl (Nat.le_of_ble_eq_true rfl) dX5_nextKind_18 ⟨Nat.zero_le _, Nat.zero_le _⟩ (fun H locs hP hD hS => ?_)
    have hP : va_P D vwCl [(a_t, .inr (5, [.ref a_t_text, .int i_t_length, .int z_1, .int z_2, .int i_t_faultNumber, .int i_t_faultByte])), (a_t_text, .inl (cy 1, 500, .inl f_t_text))] H := hP
    have hD : va_D A [(a_t, .inr (5, [.ref a_t_text, .int i_t_length, .int z_1, .int z_2, .int i_t_faultNumber, .int i_t_faultByte])), (a_t_text, .inl (cy 1, 500, .inl f_t_text))] := hD
    refine lv_if_eq (tgt := 26) hx hb dX5_nextKind_21 (by decide) (fun c_9 => ?_) (fun c_9 => ?_)
    · have hf := hb_t hf c_9
      refine lv_aload_n hx hb dX5_nextKind_26 rfl (lv_at hl 0 rfl) ?_
      refine va_ldcS (own := "OneWordLetters$Reader") (tx := "link") (q := cy 106) hx hb hown (hK.1.2.2.1 6 (by decide)) dX5_nextKind_27 ?_
      obtain ⟨r_10, hc_11, hf⟩ := hb_b hf
      refine cl_Vi (rest := []) [0, 1] [some 0, some 1] 2 0 C0 hK hP hD hS hA (c_X5_spells_link l D cy a_t a_t_text (.int i_t_length) (.int i_t_faultNumber) (.int i_t_faultByte) z_1 z_2 f_t_text r_10 hc_11) (cwV 1 hts gX5_nextKind_X5_spells rfl rfl rfl (by decide +kernel) ⟨Nat.le_of_ble_eq_true rfl, Nat.le_of_ble_eq_true rfl⟩) rfl (by decide) rfl rfl rfl rfl rfl rfl rfl hl.1 rfl (Nat.le_of_ble_eq_true rfl) dX5_nextKind_29 ⟨Nat.zero_le _, Nat.zero_le _⟩ (fun H locs hP hD hS => ?_)
      have hP : va_P D vwCl [(a_t, .inr (5, [.ref a_t_text, .int i_t_length, .int z_1, .int z_2, .int i_t_faultNumber, .int i_t_faultByte])), (a_t_text, .inl (cy 1, 500, .inl f_t_text))] H := hP
      have hD : va_D A [(a_t, .inr (5, [.ref a_t_text, .int i_t_length, .int z_1, .int z_2, .int i_t_faultNumber, .int i_t_faultByte])), (a_t_text, .inl (cy 1, 500, .inl f_t_text))] := hD
      refine lv_if_eq (tgt := 37) hx hb dX5_nextKind_32 (by decide) (fun c_12 => ?_) (fun c_12 => ?_)
      · have hf := hb_t hf c_12
        refine lv_aload_n hx hb dX5_nextKind_37 rfl (lv_at hl 0 rfl) ?_
        refine va_ldcS (own := "OneWordLetters$Reader") (tx := "turn") (q := cy 107) hx hb hown (hK.1.2.2.1 7 (by decide)) dX5_nextKind_38 ?_
        obtain ⟨r_13, hc_14, hf⟩ := hb_b hf
        refine cl_Vi (rest := []) [0, 1] [some 0, some 1] 2 0 C0 hK hP hD hS hA (c_X5_spells_turn l D cy a_t a_t_text (.int i_t_length) (.int i_t_faultNumber) (.int i_t_faultByte) z_1 z_2 f_t_text r_13 hc_14) (cwV 1 hts gX5_nextKind_X5_spells rfl rfl rfl (by decide +kernel) ⟨Nat.le_of_ble_eq_true rfl, Nat.le_of_ble_eq_true rfl⟩) rfl (by decide) rfl rfl rfl rfl rfl rfl rfl hl.1 rfl (Nat.le_of_ble_eq_true rfl) dX5_nextKind_40 ⟨Nat.zero_le _, Nat.zero_le _⟩ (fun H locs hP hD hS => ?_)
        have hP : va_P D vwCl [(a_t, .inr (5, [.ref a_t_text, .int i_t_length, .int z_1, .int z_2, .int i_t_faultNumber, .int i_t_faultByte])), (a_t_text, .inl (cy 1, 500, .inl f_t_text))] H := hP
        have hD : va_D A [(a_t, .inr (5, [.ref a_t_text, .int i_t_length, .int z_1, .int z_2, .int i_t_faultNumber, .int i_t_faultByte])), (a_t_text, .inl (cy 1, 500, .inl f_t_text))] := hD
        refine lv_if_eq (tgt := 48) hx hb dX5_nextKind_43 (by decide) (fun c_15 => ?_) (fun c_15 => ?_)
        · have hf := hb_t hf c_15
          refine lv_aload_n hx hb dX5_nextKind_48 rfl (lv_at hl 0 rfl) ?_
          refine lv_iconst (v := 1) hx hb dX5_nextKind_49 (by decide) ?_
          obtain ⟨⟨z_16, z_17⟩, hc_18, hf⟩ := hb_b hf
          refine cl_Vv (rest := []) [0] [some 0, none] 2 0 C0 hK hP hD hS hA (c_X5_fail l D cy a_t (.ref a_t_text) (.int i_t_length) (.int z_1) z_2 i_t_faultNumber i_t_faultByte 1 z_16 z_17 hc_18) (cwV 1 hts gX5_nextKind_X5_fail rfl rfl rfl (by decide +kernel) ⟨Nat.le_of_ble_eq_true rfl, Nat.le_of_ble_eq_true rfl⟩) rfl (by decide) rfl rfl rfl rfl rfl rfl rfl hl.1 rfl (Nat.le_of_ble_eq_true rfl) dX5_nextKind_50 ⟨Nat.zero_le _, Nat.zero_le _⟩ (fun H locs hP hD hS => ?_)
          have hP : va_P D vwCl [(a_t, .inr (5, [.ref a_t_text, .int i_t_length, .int z_1, .int z_2, .int z_16, .int z_17])), (a_t_text, .inl (cy 1, 500, .inl f_t_text))] H := hP
          have hD : va_D A [(a_t, .inr (5, [.ref a_t_text, .int i_t_length, .int z_1, .int z_2, .int z_16, .int z_17])), (a_t_text, .inl (cy 1, 500, .inl f_t_text))] := hD
          refine lv_iconst (v := 0) hx hb dX5_nextKind_53 (by decide) ?_
          obtain ⟨e_0, e_1, e_2, e_3, e_4⟩ := tu5 hf
          subst e_0; subst e_1; subst e_2; subst e_3; subst e_4
          exact hret _ _ _ _ dX5_nextKind_54 rfl hP hS
        · have hf := hb_f hf c_15
          refine lv_iconst (v := 3) hx hb dX5_nextKind_46 (by decide) ?_
          obtain ⟨e_0, e_1, e_2, e_3, e_4⟩ := tu5 hf
          subst e_0; subst e_1; subst e_2; subst e_3; subst e_4
          exact hret _ _ _ _ dX5_nextKind_47 rfl hP hS
      · have hf := hb_f hf c_12
        refine lv_iconst (v := 2) hx hb dX5_nextKind_35 (by decide) ?_
        obtain ⟨e_0, e_1, e_2, e_3, e_4⟩ := tu5 hf
        subst e_0; subst e_1; subst e_2; subst e_3; subst e_4
        exact hret _ _ _ _ dX5_nextKind_36 rfl hP hS
    · have hf := hb_f hf c_9
      refine lv_iconst (v := 1) hx hb dX5_nextKind_24 (by decide) ?_
      obtain ⟨e_0, e_1, e_2, e_3, e_4⟩ := tu5 hf
      subst e_0; subst e_1; subst e_2; subst e_3; subst e_4
      exact hret _ _ _ _ dX5_nextKind_25 rfl hP hS
  · have hf := hb_f hf c_6
    refine lv_iconst (v := 0) hx hb dX5_nextKind_13 (by decide) ?_
    obtain ⟨e_0, e_1, e_2, e_3, e_4⟩ := tu5 hf
    subst e_0; subst e_1; subst e_2; subst e_3; subst e_4
    exact hret _ _ _ _ dX5_nextKind_14 rfl hP hS
theorem uX5_readFrame_X7 : ∀ w ∈ wsX70, w ∈ wsX5_readFrame := fun _ h => List.mem_cons_of_mem _ (List.mem_append_left _ (List.mem_append_right _ h))
theorem mX5_readFrame_26 : Cond.fieldLink RX5 26 "OneWordLetters$Reader" "faultNumber" "I" ∈ wsX5_readFrame := by decide +kernel
theorem uX5_readFrame_X5 : ∀ w ∈ wsX50, w ∈ wsX5_readFrame := fun _ h => List.mem_cons_of_mem _ (List.mem_append_right _ h)
abbrev rmX5_readFrame : Room := { frames := 6, cells := 0, slots := 0, locals := 127 }
set_option maxRecDepth 100000 in
set_option maxHeartbeats 4000000 in
theorem L_X5_readFrame_21 {p : Program} {e : Env} {s : State} {m : MethodId} {args : Array Value} {below : List Frame} {meth : Method} {c : Code} {Q : State → Prop} {A : Nat → Prop} (l : Launch) (D : va_G) (cy : Nat → ClassId) (a_t : Nat) (a_p1 : Nat) (a_p1_framed : Nat) (a_t_text : Nat) (o_p1_words : Value) (o_p1_pairs : Value) (o_p1_kinds : Value) (o_p1_worths : Value) (o_p1_paired : Value) (o_p1_pairWorths : Value) (o_p1_scales : Value) (i_t_length : Int32) (i_p1_length : Int32) (f_t_text : Nat → Int32) (z_i_t_place : Int32) (z_i_t_start : Int32) (z_i_t_faultNumber : Int32) (z_i_t_faultByte : Int32) (z_i_p1_frames : Int32) (z_f_p1_framed : Nat → Int32) (C0 : CX p s m args meth c cX5_readFrame 5 none wsX5_readFrame RX5) (hA : ∀ q, s.heap.size ≤ q → A q) (hK : KZ D cy A s) (hret : ∀ (H : Heap) (locs : List Loc) (ls : Array Slot) (pc : Nat), decode cX5_readFrame pc = .ok (.return_, 1) → va_P D vwCl [(a_t, .inr (5, [.ref a_t_text, .int i_t_length, .int z_i_t_place, .int z_i_t_start, .int z_i_t_faultNumber, .int z_i_t_faultByte])), (a_p1, .inr (7, [.int i_p1_length, o_p1_words, .int z_i_p1_frames, o_p1_pairs, o_p1_kinds, o_p1_worths, .ref a_p1_framed, o_p1_paired, o_p1_pairWorths, o_p1_scales])), (a_p1_framed, .inl (cy 0, 256, .inl z_f_p1_framed)), (a_t_text, .inl (cy 1, 500, .inl f_t_text))] H → va_S A s.heap H locs → W p l e rmX5_readFrame s m args below meth c H locs 0 0 Q (F0 m pc ls [])) : ∀ (n : Nat) (v2 : Int32) (v3 : Int32) (v4 : Int32) (i_t_place : Int32) (i_t_start : Int32) (i_t_faultNumber : Int32) (i_t_faultByte : Int32) (i_p1_frames : Int32) (f_p1_framed : Nat → Int32), f_X5_readFrame_L21 i_t_length i_p1_length f_t_text n v2 v3 v4 i_t_place i_t_start i_t_faultNumber i_t_faultByte i_p1_frames f_p1_framed = some (z_i_t_place, z_i_t_start, z_i_t_faultNumber, z_i_t_faultByte, z_i_p1_frames, z_f_p1_framed) → ∀ (H : Heap) (locs : List Loc), va_P D vwCl [(a_t, .inr (5, [.ref a_t_text, .int i_t_length, .int i_t_place, .int i_t_start, .int i_t_faultNumber, .int i_t_faultByte])), (a_p1, .inr (7, [.int i_p1_length, o_p1_words, .int i_p1_frames, o_p1_pairs, o_p1_kinds, o_p1_worths, .ref a_p1_framed, o_p1_paired, o_p1_pairWorths, o_p1_scales])), (a_p1_framed, .inl (cy 0, 256, .inl f_p1_framed)), (a_t_text, .inl (cy 1, 500, .inl f_t_text))] H → va_D A [(a_t, .inr (5, [.ref a_t_text, .int i_t_length, .int i_t_place, .int i_t_start, .int i_t_faultNumber, .int i_t_faultByte])), (a_p1, .inr (7, [.int i_p1_length, o_p1_words, .int i_p1_frames, o_p1_pairs, o_p1_kinds, o_p1_worths, .ref a_p1_framed, o_p1_paired, o_p1_pairWorths, o_p1_scales])), (a_p1_framed, .inl (cy 0, 256, .inl f_p1_framed)), (a_t_text, .inl (cy 1, 500, .inl f_t_text))] → va_S A s.heap H locs → ∀ ls : Array Slot, lv_has ls 5 [(0, .ref a_t), (1, .ref a_p1), (2, .int v2), (3, .int v3), (4, .int v4)] → W p l e rmX5_readFrame s m args below meth c H locs 0 0 Q (F0 m 21 ls []) := by
  obtain ⟨hx, hb, hr, hml, hown, hts, hlocks⟩ := id C0
  intro n
  induction n with
  | zero => intro _ _ _ _ _ _ _ _ _ hf; rw [f_X5_readFrame_L21.eq_1] at hf; cases hf
  | succ n ih =>
    intro v2 v3 v4 i_t_place i_t_start i_t_faultNumber i_t_faultByte i_p1_frames f_p1_framed hf H locs hP hD hS ls hl
    rw [f_X5_readFrame_L21.eq_2] at hf
    refine lv_iload hx hb dX5_readFrame_21 (lv_at hl 4 rfl) ?_
    refine lv_aload_n hx hb dX5_readFrame_23 rfl (lv_at hl 1 rfl) ?_
    refine va_getN (D := D) (ci := 7) (v := .int i_p1_length) (C := RX7) (T := TX7) (N := 10) hx hb hts uX5_readFrame_X7 hown hK.1.1 hP 1 rfl rfl 0 (by decide) (hK.1.nw _ nw_2) (fun _ h9 => h9) rfl dX5_readFrame_24 ?_
    refine lv_icmp_gt (tgt := 69) hx hb dX5_readFrame_27 (by decide) (fun c_2 => ?_) (fun c_2 => ?_)
    · have hf := hb_t hf c_2
      refine lv_aload_n hx hb dX5_readFrame_69 rfl (lv_at hl 0 rfl) ?_
      refine va_get (D := D) (ci := 5) (v := .int i_t_faultNumber) (C := RX5) (T := TX5) (N := 6) hx hb hts uX5_readFrame_X5 hown hK.1.1 hP 0 rfl rfl 4 (by decide) (hts _ mX5_readFrame_26) (fun _ h9 => h9) rfl dX5_readFrame_70 ?_
      refine lv_if_ne (tgt := 81) hx hb dX5_readFrame_73 (by decide) (fun c_3 => ?_) (fun c_3 => ?_)
      · have hf := hb_f hf c_3
        obtain ⟨e_0, e_1, e_2, e_3, e_4, e_5⟩ := tu6 hf
        subst e_0; subst e_1; subst e_2; subst e_3; subst e_4; subst e_5
        exact hret _ _ _ _ dX5_readFrame_81 hP hS
      · have hf := hb_t hf c_3
        refine lv_aload_n hx hb dX5_readFrame_76 rfl (lv_at hl 1 rfl) ?_
        refine lv_iload_n hx hb dX5_readFrame_77 rfl (lv_at hl 2 rfl) ?_
        obtain ⟨⟨z_4, z_5⟩, hc_6, hf⟩ := hb_b hf
        refine cl_Vv (rest := []) [1, 2] [none, some 0, some 1, none] 4 1 C0 hK hP hD hS hA (c_X7_addFrame l D cy a_p1 a_p1_framed (.int i_p1_length) o_p1_words o_p1_pairs o_p1_kinds o_p1_worths o_p1_paired o_p1_pairWorths o_p1_scales i_p1_frames f_p1_framed v2 z_4 z_5 hc_6) (cwV 1 hts gX5_readFrame_X7_addFrame rfl rfl rfl (by decide +kernel) ⟨Nat.le_of_ble_eq_true rfl, Nat.le_of_ble_eq_true rfl⟩) rfl (by decide) rfl rfl rfl rfl rfl rfl rfl hl.1 rfl (Nat.le_of_ble_eq_true rfl) dX5_readFrame_78 ⟨Nat.zero_le _, Nat.zero_le _⟩ (fun H locs hP hD hS => ?_)
        have hP : va_P D vwCl [(a_t, .inr (5, [.ref a_t_text, .int i_t_length, .int i_t_place, .int i_t_start, .int i_t_faultNumber, .int i_t_faultByte])), (a_p1, .inr (7, [.int i_p1_length, o_p1_words, .int z_4, o_p1_pairs, o_p1_kinds, o_p1_worths, .ref a_p1_framed, o_p1_paired, o_p1_pairWorths, o_p1_scales])), (a_p1_framed, .inl (cy 0, 256, .inl z_5)), (a_t_text, .inl (cy 1, 500, .inl f_t_text))] H := hP
        have hD : va_D A [(a_t, .inr (5, [.ref a_t_text, .int i_t_length, .int i_t_place, .int i_t_start, .int i_t_faultNumber, .int i_t_faultByte])), (a_p1, .inr (7, [.int i_p1_length, o_p1_words, .int z_4, o_p1_pairs, o_p1_kinds, o_p1_worths, .ref a_p1_framed, o_p1_paired, o_p1_pairWorths, o_p1_scales])), (a_p1_framed, .inl (cy 0, 256, .inl z_5)), (a_t_text, .inl (cy 1, 500, .inl f_t_text))] := hD
        obtain ⟨e_0, e_1, e_2, e_3, e_4, e_5⟩ := tu6 hf
        subst e_0; subst e_1; subst e_2; subst e_3; subst e_4; subst e_5
        exact hret _ _ _ _ dX5_readFrame_81 hP hS
    · have hf := hb_f hf c_2
      refine lv_iload_n hx hb dX5_readFrame_30 rfl (lv_at hl 2 rfl) ?_
      refine lv_aload_n hx hb dX5_readFrame_31 rfl (lv_at hl 0 rfl) ?_
      obtain ⟨⟨r_7, z_8, z_9, z_10, z_11⟩, hc_12, hf⟩ := hb_b hf
      refine cl_Vi (rest := [.int v2]) [0, 3] [some 0, none, none, some 1] 4 0 C0 hK hP hD hS hA (c_X5_nextKind l D cy a_t a_t_text i_t_length f_t_text i_t_place i_t_start i_t_faultNumber i_t_faultByte r_7 z_8 z_9 z_10 z_11 hc_12) (cwV 0 hts gX5_readFrame_X5_nextKind rfl rfl rfl (by decide +kernel) ⟨Nat.le_of_ble_eq_true rfl, Nat.le_of_ble_eq_true rfl⟩) rfl (by decide) rfl rfl rfl rfl rfl rfl rfl hl.1 rfl (Nat.le_of_ble_eq_true rfl) dX5_readFrame_32 ⟨Nat.zero_le _, Nat.zero_le _⟩ (fun H locs hP hD hS => ?_)
      have hP : va_P D vwCl [(a_t, .inr (5, [.ref a_t_text, .int i_t_length, .int z_8, .int z_9, .int z_10, .int z_11])), (a_p1, .inr (7, [.int i_p1_length, o_p1_words, .int i_p1_frames, o_p1_pairs, o_p1_kinds, o_p1_worths, .ref a_p1_framed, o_p1_paired, o_p1_pairWorths, o_p1_scales])), (a_p1_framed, .inl (cy 0, 256, .inl f_p1_framed)), (a_t_text, .inl (cy 1, 500, .inl f_t_text))] H := hP
      have hD : va_D A [(a_t, .inr (5, [.ref a_t_text, .int i_t_length, .int z_8, .int z_9, .int z_10, .int z_11])), (a_p1, .inr (7, [.int i_p1_length, o_p1_words, .int i_p1_frames, o_p1_pairs, o_p1_kinds, o_p1_worths, .ref a_p1_framed, o_p1_paired, o_p1_pairWorths, o_p1_scales])), (a_p1_framed, .inl (cy 0, 256, .inl f_p1_framed)), (a_t_text, .inl (cy 1, 500, .inl f_t_text))] := hD
      refine lv_iload_n hx hb dX5_readFrame_35 rfl (lv_at hl 3 rfl) ?_
      refine lv_imul hx hb dX5_readFrame_36 ?_
      refine lv_iadd hx hb dX5_readFrame_37 ?_
      refine lv_istore_n (lv' := [(2, .int (v2 + (r_7 * v3))), (0, .ref a_t), (1, .ref a_p1), (3, .int v3), (4, .int v4)]) hx hb dX5_readFrame_38 rfl hl (by decide) rfl (fun ls hl => ?_)
      refine lv_iload_n hx hb dX5_readFrame_39 rfl (lv_at hl 3 rfl) ?_
      refine lv_iconst (v := 4) hx hb dX5_readFrame_40 (by decide) ?_
      refine lv_imul hx hb dX5_readFrame_41 ?_
      refine lv_istore_n (lv' := [(3, .int (v3 * 4)), (2, .int (v2 + (r_7 * v3))), (0, .ref a_t), (1, .ref a_p1), (4, .int v4)]) hx hb dX5_readFrame_42 rfl hl (by decide) rfl (fun ls hl => ?_)
      refine lv_aload_n hx hb dX5_readFrame_43 rfl (lv_at hl 2 rfl) ?_
      refine lv_iload hx hb dX5_readFrame_44 (lv_at hl 4 rfl) ?_
      refine lv_aload_n hx hb dX5_readFrame_46 rfl (lv_at hl 3 rfl) ?_
      refine va_getN (D := D) (ci := 7) (v := .int i_p1_length) (C := RX7) (T := TX7) (N := 10) hx hb hts uX5_readFrame_X7 hown hK.1.1 hP 1 rfl rfl 0 (by decide) (hK.1.nw _ nw_2) (fun _ h9 => h9) rfl dX5_readFrame_47 ?_
      refine lv_icmp_ge (tgt := 58) hx hb dX5_readFrame_50 (by decide) (fun c_13 => ?_) (fun c_13 => ?_)
      · have hf := hb_t hf c_13
        refine lv_bipush (v := 59) hx hb dX5_readFrame_58 (by decide) ?_
        obtain ⟨⟨z_14, z_15, z_16, z_17⟩, hc_18, hf⟩ := hb_b hf
        refine cl_Vv (rest := []) [0, 3] [some 0, none, none, some 1] 4 0 C0 hK hP hD hS hA (c_X5_nextSign l D cy a_t a_t_text i_t_length f_t_text z_8 z_9 z_10 z_11 59 z_14 z_15 z_16 z_17 hc_18) (cwV 1 hts gX5_readFrame_X5_nextSign rfl rfl rfl (by decide +kernel) ⟨Nat.le_of_ble_eq_true rfl, Nat.le_of_ble_eq_true rfl⟩) rfl (by decide) rfl rfl rfl rfl rfl rfl rfl hl.1 rfl (Nat.le_of_ble_eq_true rfl) dX5_readFrame_60 ⟨Nat.zero_le _, Nat.zero_le _⟩ (fun H locs hP hD hS => ?_)
        have hP : va_P D vwCl [(a_t, .inr (5, [.ref a_t_text, .int i_t_length, .int z_14, .int z_15, .int z_16, .int z_17])), (a_p1, .inr (7, [.int i_p1_length, o_p1_words, .int i_p1_frames, o_p1_pairs, o_p1_kinds, o_p1_worths, .ref a_p1_framed, o_p1_paired, o_p1_pairWorths, o_p1_scales])), (a_p1_framed, .inl (cy 0, 256, .inl f_p1_framed)), (a_t_text, .inl (cy 1, 500, .inl f_t_text))] H := hP
        have hD : va_D A [(a_t, .inr (5, [.ref a_t_text, .int i_t_length, .int z_14, .int z_15, .int z_16, .int z_17])), (a_p1, .inr (7, [.int i_p1_length, o_p1_words, .int i_p1_frames, o_p1_pairs, o_p1_kinds, o_p1_worths, .ref a_p1_framed, o_p1_paired, o_p1_pairWorths, o_p1_scales])), (a_p1_framed, .inl (cy 0, 256, .inl f_p1_framed)), (a_t_text, .inl (cy 1, 500, .inl f_t_text))] := hD
        refine lv_iinc (v := (v4 + 1)) (lv' := [(4, .int (v4 + 1)), (3, .int (v3 * 4)), (2, .int (v2 + (r_7 * v3))), (0, .ref a_t), (1, .ref a_p1)]) hx hb dX5_readFrame_63 hl (k := 4) rfl rfl (by decide) rfl (fun ls hl => ?_)
        refine lv_goto (tgt := 21) hx hb dX5_readFrame_66 (by decide) ?_
        exact ih (v2 + (r_7 * v3)) (v3 * 4) (v4 + 1) z_14 z_15 z_16 z_17 i_p1_frames f_p1_framed hf _ _ hP hD hS _ (lv_sub hl [3, 4, 2, 1, 0] rfl)
      · have hf := hb_f hf c_13
        refine lv_bipush (v := 44) hx hb dX5_readFrame_53 (by decide) ?_
        refine lv_goto (tgt := 60) hx hb dX5_readFrame_55 (by decide) ?_
        obtain ⟨⟨z_19, z_20, z_21, z_22⟩, hc_23, hf⟩ := hb_b hf
        refine cl_Vv (rest := []) [0, 3] [some 0, none, none, some 1] 4 0 C0 hK hP hD hS hA (c_X5_nextSign l D cy a_t a_t_text i_t_length f_t_text z_8 z_9 z_10 z_11 44 z_19 z_20 z_21 z_22 hc_23) (cwV 1 hts gX5_readFrame_X5_nextSign rfl rfl rfl (by decide +kernel) ⟨Nat.le_of_ble_eq_true rfl, Nat.le_of_ble_eq_true rfl⟩) rfl (by decide) rfl rfl rfl rfl rfl rfl rfl hl.1 rfl (Nat.le_of_ble_eq_true rfl) dX5_readFrame_60 ⟨Nat.zero_le _, Nat.zero_le _⟩ (fun H locs hP hD hS => ?_)
        have hP : va_P D vwCl [(a_t, .inr (5, [.ref a_t_text, .int i_t_length, .int z_19, .int z_20, .int z_21, .int z_22])), (a_p1, .inr (7, [.int i_p1_length, o_p1_words, .int i_p1_frames, o_p1_pairs, o_p1_kinds, o_p1_worths, .ref a_p1_framed, o_p1_paired, o_p1_pairWorths, o_p1_scales])), (a_p1_framed, .inl (cy 0, 256, .inl f_p1_framed)), (a_t_text, .inl (cy 1, 500, .inl f_t_text))] H := hP
        have hD : va_D A [(a_t, .inr (5, [.ref a_t_text, .int i_t_length, .int z_19, .int z_20, .int z_21, .int z_22])), (a_p1, .inr (7, [.int i_p1_length, o_p1_words, .int i_p1_frames, o_p1_pairs, o_p1_kinds, o_p1_worths, .ref a_p1_framed, o_p1_paired, o_p1_pairWorths, o_p1_scales])), (a_p1_framed, .inl (cy 0, 256, .inl f_p1_framed)), (a_t_text, .inl (cy 1, 500, .inl f_t_text))] := hD
        refine lv_iinc (v := (v4 + 1)) (lv' := [(4, .int (v4 + 1)), (3, .int (v3 * 4)), (2, .int (v2 + (r_7 * v3))), (0, .ref a_t), (1, .ref a_p1)]) hx hb dX5_readFrame_63 hl (k := 4) rfl rfl (by decide) rfl (fun ls hl => ?_)
        refine lv_goto (tgt := 21) hx hb dX5_readFrame_66 (by decide) ?_
        exact ih (v2 + (r_7 * v3)) (v3 * 4) (v4 + 1) z_19 z_20 z_21 z_22 i_p1_frames f_p1_framed hf _ _ hP hD hS _ (lv_sub hl [3, 4, 2, 1, 0] rfl)
set_option maxRecDepth 100000 in
set_option maxHeartbeats 4000000 in
theorem c_X5_readFrame (l : Launch) (D : va_G) (cy : Nat → ClassId) (a_t : Nat) (a_p1 : Nat) (a_p1_framed : Nat) (a_t_text : Nat) (o_p1_words : Value) (o_p1_pairs : Value) (o_p1_kinds : Value) (o_p1_worths : Value) (o_p1_paired : Value) (o_p1_pairWorths : Value) (o_p1_scales : Value) (i_t_length : Int32) (i_p1_length : Int32) (f_t_text : Nat → Int32) (i_t_place : Int32) (i_t_start : Int32) (i_t_faultNumber : Int32) (i_t_faultByte : Int32) (i_p1_frames : Int32) (f_p1_framed : Nat → Int32) (z_i_t_place : Int32) (z_i_t_start : Int32) (z_i_t_faultNumber : Int32) (z_i_t_faultByte : Int32) (z_i_p1_frames : Int32) (z_f_p1_framed : Nat → Int32) (hf : f_X5_readFrame i_t_length i_p1_length f_t_text i_t_place i_t_start i_t_faultNumber i_t_faultByte i_p1_frames f_p1_framed = some (z_i_t_place, z_i_t_start, z_i_t_faultNumber, z_i_t_faultByte, z_i_p1_frames, z_f_p1_framed)) : MV l D cy yX5_readFrame wsX5_readFrame rmX5_readFrame [.ref a_t, .ref a_p1] [(a_t, .inr (5, [.ref a_t_text, .int i_t_length, .int i_t_place, .int i_t_start, .int i_t_faultNumber, .int i_t_faultByte])), (a_p1, .inr (7, [.int i_p1_length, o_p1_words, .int i_p1_frames, o_p1_pairs, o_p1_kinds, o_p1_worths, .ref a_p1_framed, o_p1_paired, o_p1_pairWorths, o_p1_scales])), (a_p1_framed, .inl (cy 0, 256, .inl f_p1_framed)), (a_t_text, .inl (cy 1, 500, .inl f_t_text))] [(a_t, .inr (5, [.ref a_t_text, .int i_t_length, .int z_i_t_place, .int z_i_t_start, .int z_i_t_faultNumber, .int z_i_t_faultByte])), (a_p1, .inr (7, [.int i_p1_length, o_p1_words, .int z_i_p1_frames, o_p1_pairs, o_p1_kinds, o_p1_worths, .ref a_p1_framed, o_p1_paired, o_p1_pairWorths, o_p1_scales])), (a_p1_framed, .inl (cy 0, 256, .inl z_f_p1_framed)), (a_t_text, .inl (cy 1, 500, .inl f_t_text))] := by
  refine st_V (by decide) rfl (Nat.le_of_ble_eq_true rfl) (fun p e s m below meth c A Q ls C0 hA hK hP hD hS hl hret => ?_)
  obtain ⟨hx, hb, hr, hml, hown, hts, hlocks⟩ := id C0
  have hl : lv_has ls 5 [(0, .ref a_t), (1, .ref a_p1)] := hl
  unfold f_X5_readFrame at hf
  refine lv_aload_n hx hb dX5_readFrame_0 rfl (lv_at hl 1 rfl) ?_
  refine va_getN (D := D) (ci := 7) (v := .int i_p1_frames) (C := RX7) (T := TX7) (N := 10) hx hb hts uX5_readFrame_X7 hown hK.1.1 hP 1 rfl rfl 2 (by decide) (hK.1.nw _ nw_9) (fun _ h9 => h9) rfl dX5_readFrame_1 ?_
  refine lv_bipush (v := 8) hx hb dX5_readFrame_4 (by decide) ?_
  refine lv_icmp_lt (tgt := 14) hx hb dX5_readFrame_6 (by decide) (fun c_1 => ?_) (fun c_1 => ?_)
  · have hf := hb_t hf c_1
    refine lv_iconst (v := 0) hx hb dX5_readFrame_14 (by decide) ?_
    refine lv_istore_n (lv' := [(2, .int 0), (0, .ref a_t), (1, .ref a_p1)]) hx hb dX5_readFrame_15 rfl hl (by decide) rfl (fun ls hl => ?_)
    refine lv_iconst (v := 1) hx hb dX5_readFrame_16 (by decide) ?_
    refine lv_istore_n (lv' := [(3, .int 1), (2, .int 0), (0, .ref a_t), (1, .ref a_p1)]) hx hb dX5_readFrame_17 rfl hl (by decide) rfl (fun ls hl => ?_)
    refine lv_iconst (v := 1) hx hb dX5_readFrame_18 (by decide) ?_
    refine lv_istore (lv' := [(4, .int 1), (3, .int 1), (2, .int 0), (0, .ref a_t), (1, .ref a_p1)]) hx hb dX5_readFrame_19 hl (by decide) rfl (fun ls hl => ?_)
    refine L_X5_readFrame_21 l D cy a_t a_p1 a_p1_framed a_t_text o_p1_words o_p1_pairs o_p1_kinds o_p1_worths o_p1_paired o_p1_pairWorths o_p1_scales i_t_length i_p1_length f_t_text z_i_t_place z_i_t_start z_i_t_faultNumber z_i_t_faultByte z_i_p1_frames z_f_p1_framed C0 hA hK hret  FU 0 1 1 i_t_place i_t_start i_t_faultNumber i_t_faultByte i_p1_frames f_p1_framed hf _ _ hP hD hS _ (lv_sub hl [3, 4, 2, 1, 0] rfl)
  · have hf := hb_f hf c_1
    refine lv_aload_n hx hb dX5_readFrame_9 rfl (lv_at hl 0 rfl) ?_
    refine lv_iconst (v := 3) hx hb dX5_readFrame_10 (by decide) ?_
    obtain ⟨⟨z_24, z_25⟩, hc_26, hf⟩ := hb_b hf
    refine cl_Vv (rest := []) [0] [some 0, none, none, none] 4 0 C0 hK hP hD hS hA (c_X5_fail l D cy a_t (.ref a_t_text) (.int i_t_length) (.int i_t_place) i_t_start i_t_faultNumber i_t_faultByte 3 z_24 z_25 hc_26) (cwV 1 hts gX5_readFrame_X5_fail rfl rfl rfl (by decide +kernel) ⟨Nat.le_of_ble_eq_true rfl, Nat.le_of_ble_eq_true rfl⟩) rfl (by decide) rfl rfl rfl rfl rfl rfl rfl hl.1 rfl (Nat.le_of_ble_eq_true rfl) dX5_readFrame_11 ⟨Nat.zero_le _, Nat.zero_le _⟩ (fun H locs hP hD hS => ?_)
    have hP : va_P D vwCl [(a_t, .inr (5, [.ref a_t_text, .int i_t_length, .int i_t_place, .int i_t_start, .int z_24, .int z_25])), (a_p1, .inr (7, [.int i_p1_length, o_p1_words, .int i_p1_frames, o_p1_pairs, o_p1_kinds, o_p1_worths, .ref a_p1_framed, o_p1_paired, o_p1_pairWorths, o_p1_scales])), (a_p1_framed, .inl (cy 0, 256, .inl f_p1_framed)), (a_t_text, .inl (cy 1, 500, .inl f_t_text))] H := hP
    have hD : va_D A [(a_t, .inr (5, [.ref a_t_text, .int i_t_length, .int i_t_place, .int i_t_start, .int z_24, .int z_25])), (a_p1, .inr (7, [.int i_p1_length, o_p1_words, .int i_p1_frames, o_p1_pairs, o_p1_kinds, o_p1_worths, .ref a_p1_framed, o_p1_paired, o_p1_pairWorths, o_p1_scales])), (a_p1_framed, .inl (cy 0, 256, .inl f_p1_framed)), (a_t_text, .inl (cy 1, 500, .inl f_t_text))] := hD
    refine lv_iconst (v := 0) hx hb dX5_readFrame_14 (by decide) ?_
    refine lv_istore_n (lv' := [(2, .int 0), (0, .ref a_t), (1, .ref a_p1)]) hx hb dX5_readFrame_15 rfl hl (by decide) rfl (fun ls hl => ?_)
    refine lv_iconst (v := 1) hx hb dX5_readFrame_16 (by decide) ?_
    refine lv_istore_n (lv' := [(3, .int 1), (2, .int 0), (0, .ref a_t), (1, .ref a_p1)]) hx hb dX5_readFrame_17 rfl hl (by decide) rfl (fun ls hl => ?_)
    refine lv_iconst (v := 1) hx hb dX5_readFrame_18 (by decide) ?_
    refine lv_istore (lv' := [(4, .int 1), (3, .int 1), (2, .int 0), (0, .ref a_t), (1, .ref a_p1)]) hx hb dX5_readFrame_19 hl (by decide) rfl (fun ls hl => ?_)
    refine L_X5_readFrame_21 l D cy a_t a_p1 a_p1_framed a_t_text o_p1_words o_p1_pairs o_p1_kinds o_p1_worths o_p1_paired o_p1_pairWorths o_p1_scales i_t_length i_p1_length f_t_text z_i_t_place z_i_t_start z_i_t_faultNumber z_i_t_faultByte z_i_p1_frames z_f_p1_framed C0 hA hK hret  FU 0 1 1 i_t_place i_t_start z_24 z_25 i_p1_frames f_p1_framed hf _ _ hP hD hS _ (lv_sub hl [3, 4, 2, 1, 0] rfl)
theorem uX5_readWord_X7 : ∀ w ∈ wsX70, w ∈ wsX5_readWord := fun _ h => List.mem_cons_of_mem _ (List.mem_append_left _ (List.mem_append_right _ h))
theorem mX5_readWord_26 : Cond.fieldLink RX5 26 "OneWordLetters$Reader" "faultNumber" "I" ∈ wsX5_readWord := by decide +kernel
theorem uX5_readWord_X5 : ∀ w ∈ wsX50, w ∈ wsX5_readWord := fun _ h => List.mem_cons_of_mem _ (List.mem_append_right _ h)
abbrev rmX5_readWord : Room := { frames := 6, cells := 0, slots := 0, locals := 127 }
set_option maxRecDepth 100000 in
set_option maxHeartbeats 4000000 in
theorem c_X5_readWord (l : Launch) (D : va_G) (cy : Nat → ClassId) (a_t : Nat) (a_p1 : Nat) (a_t_text : Nat) (a_p1_kinds : Nat) (a_p1_worths : Nat) (a_p1_worths0 : Nat) (a_p1_worths1 : Nat) (o_p1_length : Value) (o_p1_frames : Value) (o_p1_pairs : Value) (o_p1_framed : Value) (o_p1_paired : Value) (o_p1_pairWorths : Value) (o_p1_scales : Value) (i_t_length : Int32) (f_t_text : Nat → Int32) (i_t_place : Int32) (i_t_start : Int32) (i_t_faultNumber : Int32) (i_t_faultByte : Int32) (i_p1_words : Int32) (f_p1_kinds : Nat → Int32) (f_p1_worths0 : Nat → Int32) (f_p1_worths1 : Nat → Int32) (z_i_t_place : Int32) (z_i_t_start : Int32) (z_i_t_faultNumber : Int32) (z_i_t_faultByte : Int32) (z_i_p1_words : Int32) (z_f_p1_kinds : Nat → Int32) (z_f_p1_worths0 : Nat → Int32) (z_f_p1_worths1 : Nat → Int32) (hf : f_X5_readWord i_t_length f_t_text i_t_place i_t_start i_t_faultNumber i_t_faultByte i_p1_words f_p1_kinds f_p1_worths0 f_p1_worths1 = some (z_i_t_place, z_i_t_start, z_i_t_faultNumber, z_i_t_faultByte, z_i_p1_words, z_f_p1_kinds, z_f_p1_worths0, z_f_p1_worths1)) : MV l D cy yX5_readWord wsX5_readWord rmX5_readWord [.ref a_t, .ref a_p1] [(a_t, .inr (5, [.ref a_t_text, .int i_t_length, .int i_t_place, .int i_t_start, .int i_t_faultNumber, .int i_t_faultByte])), (a_p1, .inr (7, [o_p1_length, .int i_p1_words, o_p1_frames, o_p1_pairs, .ref a_p1_kinds, .ref a_p1_worths, o_p1_framed, o_p1_paired, o_p1_pairWorths, o_p1_scales])), (a_t_text, .inl (cy 1, 500, .inl f_t_text)), (a_p1_kinds, .inl (cy 0, 8, .inl f_p1_kinds)), (a_p1_worths, .inl (cy 6, 2, .inr (.inr (.inr (.inr (rfL [a_p1_worths0, a_p1_worths1])))))), (a_p1_worths0, .inl (cy 0, 8, .inl f_p1_worths0)), (a_p1_worths1, .inl (cy 0, 8, .inl f_p1_worths1))] [(a_t, .inr (5, [.ref a_t_text, .int i_t_length, .int z_i_t_place, .int z_i_t_start, .int z_i_t_faultNumber, .int z_i_t_faultByte])), (a_p1, .inr (7, [o_p1_length, .int z_i_p1_words, o_p1_frames, o_p1_pairs, .ref a_p1_kinds, .ref a_p1_worths, o_p1_framed, o_p1_paired, o_p1_pairWorths, o_p1_scales])), (a_t_text, .inl (cy 1, 500, .inl f_t_text)), (a_p1_kinds, .inl (cy 0, 8, .inl z_f_p1_kinds)), (a_p1_worths, .inl (cy 6, 2, .inr (.inr (.inr (.inr (rfL [a_p1_worths0, a_p1_worths1])))))), (a_p1_worths0, .inl (cy 0, 8, .inl z_f_p1_worths0)), (a_p1_worths1, .inl (cy 0, 8, .inl z_f_p1_worths1))] := by
  refine st_V (by decide) rfl (Nat.le_of_ble_eq_true rfl) (fun p e s m below meth c A Q ls C0 hA hK hP hD hS hl hret => ?_)
  obtain ⟨hx, hb, hr, hml, hown, hts, hlocks⟩ := id C0
  have hl : lv_has ls 5 [(0, .ref a_t), (1, .ref a_p1)] := hl
  unfold f_X5_readWord at hf
  refine lv_aload_n hx hb dX5_readWord_0 rfl (lv_at hl 1 rfl) ?_
  refine va_getN (D := D) (ci := 7) (v := .int i_p1_words) (C := RX7) (T := TX7) (N := 10) hx hb hts uX5_readWord_X7 hown hK.1.1 hP 1 rfl rfl 1 (by decide) (hK.1.nw _ nw_6) (fun _ h9 => h9) rfl dX5_readWord_1 ?_
  refine lv_bipush (v := 8) hx hb dX5_readWord_4 (by decide) ?_
  refine lv_icmp_lt (tgt := 14) hx hb dX5_readWord_6 (by decide) (fun c_1 => ?_) (fun c_1 => ?_)
  · have hf := hb_t hf c_1
    refine lv_aload_n hx hb dX5_readWord_14 rfl (lv_at hl 0 rfl) ?_
    obtain ⟨⟨r_2, z_3, z_4, z_5, z_6⟩, hc_7, hf⟩ := hb_b hf
    refine cl_Vi (rest := []) [0, 2] [some 0, none, some 1, none, none, none, none] 7 0 C0 hK hP hD hS hA (c_X5_nextKind l D cy a_t a_t_text i_t_length f_t_text i_t_place i_t_start i_t_faultNumber i_t_faultByte r_2 z_3 z_4 z_5 z_6 hc_7) (cwV 0 hts gX5_readWord_X5_nextKind rfl rfl rfl (by decide +kernel) ⟨Nat.le_of_ble_eq_true rfl, Nat.le_of_ble_eq_true rfl⟩) rfl (by decide) rfl rfl rfl rfl rfl rfl rfl hl.1 rfl (Nat.le_of_ble_eq_true rfl) dX5_readWord_15 ⟨Nat.zero_le _, Nat.zero_le _⟩ (fun H locs hP hD hS => ?_)
    have hP : va_P D vwCl [(a_t, .inr (5, [.ref a_t_text, .int i_t_length, .int z_3, .int z_4, .int z_5, .int z_6])), (a_p1, .inr (7, [o_p1_length, .int i_p1_words, o_p1_frames, o_p1_pairs, .ref a_p1_kinds, .ref a_p1_worths, o_p1_framed, o_p1_paired, o_p1_pairWorths, o_p1_scales])), (a_t_text, .inl (cy 1, 500, .inl f_t_text)), (a_p1_kinds, .inl (cy 0, 8, .inl f_p1_kinds)), (a_p1_worths, .inl (cy 6, 2, .inr (.inr (.inr (.inr (rfL [a_p1_worths0, a_p1_worths1])))))), (a_p1_worths0, .inl (cy 0, 8, .inl f_p1_worths0)), (a_p1_worths1, .inl (cy 0, 8, .inl f_p1_worths1))] H := hP
    have hD : va_D A [(a_t, .inr (5, [.ref a_t_text, .int i_t_length, .int z_3, .int z_4, .int z_5, .int z_6])), (a_p1, .inr (7, [o_p1_length, .int i_p1_words, o_p1_frames, o_p1_pairs, .ref a_p1_kinds, .ref a_p1_worths, o_p1_framed, o_p1_paired, o_p1_pairWorths, o_p1_scales])), (a_t_text, .inl (cy 1, 500, .inl f_t_text)), (a_p1_kinds, .inl (cy 0, 8, .inl f_p1_kinds)), (a_p1_worths, .inl (cy 6, 2, .inr (.inr (.inr (.inr (rfL [a_p1_worths0, a_p1_worths1])))))), (a_p1_worths0, .inl (cy 0, 8, .inl f_p1_worths0)), (a_p1_worths1, .inl (cy 0, 8, .inl f_p1_worths1))] := hD
    refine lv_istore_n (lv' := [(2, .int r_2), (0, .ref a_t), (1, .ref a_p1)]) hx hb dX5_readWord_18 rfl hl (by decide) rfl (fun ls hl => ?_)
    refine lv_aload_n hx hb dX5_readWord_19 rfl (lv_at hl 1 rfl) ?_
    refine lv_iconst (v := 0) hx hb dX5_readWord_20 (by decide) ?_
    refine lv_bipush (v := 99) hx hb dX5_readWord_21 (by decide) ?_
    obtain ⟨⟨r_8, z_9, z_10, z_11, z_12⟩, hc_13, hf⟩ := hb_b hf
    refine cl_Vi (rest := []) [0, 2] [some 0, none, some 1, none, none, none, none] 7 0 C0 hK hP hD hS hA (c_X5_nextNumber l D cy a_t a_t_text i_t_length f_t_text z_3 z_4 z_5 z_6 0 99 r_8 z_9 z_10 z_11 z_12 hc_13) (cwV 2 hts gX5_readWord_X5_nextNumber rfl rfl rfl (by decide +kernel) ⟨Nat.le_of_ble_eq_true rfl, Nat.le_of_ble_eq_true rfl⟩) rfl (by decide) rfl rfl rfl rfl rfl rfl rfl hl.1 rfl (Nat.le_of_ble_eq_true rfl) dX5_readWord_23 ⟨Nat.zero_le _, Nat.zero_le _⟩ (fun H locs hP hD hS => ?_)
    have hP : va_P D vwCl [(a_t, .inr (5, [.ref a_t_text, .int i_t_length, .int z_9, .int z_10, .int z_11, .int z_12])), (a_p1, .inr (7, [o_p1_length, .int i_p1_words, o_p1_frames, o_p1_pairs, .ref a_p1_kinds, .ref a_p1_worths, o_p1_framed, o_p1_paired, o_p1_pairWorths, o_p1_scales])), (a_t_text, .inl (cy 1, 500, .inl f_t_text)), (a_p1_kinds, .inl (cy 0, 8, .inl f_p1_kinds)), (a_p1_worths, .inl (cy 6, 2, .inr (.inr (.inr (.inr (rfL [a_p1_worths0, a_p1_worths1])))))), (a_p1_worths0, .inl (cy 0, 8, .inl f_p1_worths0)), (a_p1_worths1, .inl (cy 0, 8, .inl f_p1_worths1))] H := hP
    have hD : va_D A [(a_t, .inr (5, [.ref a_t_text, .int i_t_length, .int z_9, .int z_10, .int z_11, .int z_12])), (a_p1, .inr (7, [o_p1_length, .int i_p1_words, o_p1_frames, o_p1_pairs, .ref a_p1_kinds, .ref a_p1_worths, o_p1_framed, o_p1_paired, o_p1_pairWorths, o_p1_scales])), (a_t_text, .inl (cy 1, 500, .inl f_t_text)), (a_p1_kinds, .inl (cy 0, 8, .inl f_p1_kinds)), (a_p1_worths, .inl (cy 6, 2, .inr (.inr (.inr (.inr (rfL [a_p1_worths0, a_p1_worths1])))))), (a_p1_worths0, .inl (cy 0, 8, .inl f_p1_worths0)), (a_p1_worths1, .inl (cy 0, 8, .inl f_p1_worths1))] := hD
    refine lv_bipush (v := 50) hx hb dX5_readWord_26 (by decide) ?_
    refine lv_isub hx hb dX5_readWord_28 ?_
    refine lv_istore_n (lv' := [(3, .int (r_8 - 50)), (2, .int r_2), (0, .ref a_t), (1, .ref a_p1)]) hx hb dX5_readWord_29 rfl hl (by decide) rfl (fun ls hl => ?_)
    refine lv_aload_n hx hb dX5_readWord_30 rfl (lv_at hl 2 rfl) ?_
    refine lv_iconst (v := 0) hx hb dX5_readWord_31 (by decide) ?_
    refine lv_bipush (v := 99) hx hb dX5_readWord_32 (by decide) ?_
    obtain ⟨⟨r_14, z_15, z_16, z_17, z_18⟩, hc_19, hf⟩ := hb_b hf
    refine cl_Vi (rest := []) [0, 2] [some 0, none, some 1, none, none, none, none] 7 0 C0 hK hP hD hS hA (c_X5_nextNumber l D cy a_t a_t_text i_t_length f_t_text z_9 z_10 z_11 z_12 0 99 r_14 z_15 z_16 z_17 z_18 hc_19) (cwV 2 hts gX5_readWord_X5_nextNumber rfl rfl rfl (by decide +kernel) ⟨Nat.le_of_ble_eq_true rfl, Nat.le_of_ble_eq_true rfl⟩) rfl (by decide) rfl rfl rfl rfl rfl rfl rfl hl.1 rfl (Nat.le_of_ble_eq_true rfl) dX5_readWord_34 ⟨Nat.zero_le _, Nat.zero_le _⟩ (fun H locs hP hD hS => ?_)
    have hP : va_P D vwCl [(a_t, .inr (5, [.ref a_t_text, .int i_t_length, .int z_15, .int z_16, .int z_17, .int z_18])), (a_p1, .inr (7, [o_p1_length, .int i_p1_words, o_p1_frames, o_p1_pairs, .ref a_p1_kinds, .ref a_p1_worths, o_p1_framed, o_p1_paired, o_p1_pairWorths, o_p1_scales])), (a_t_text, .inl (cy 1, 500, .inl f_t_text)), (a_p1_kinds, .inl (cy 0, 8, .inl f_p1_kinds)), (a_p1_worths, .inl (cy 6, 2, .inr (.inr (.inr (.inr (rfL [a_p1_worths0, a_p1_worths1])))))), (a_p1_worths0, .inl (cy 0, 8, .inl f_p1_worths0)), (a_p1_worths1, .inl (cy 0, 8, .inl f_p1_worths1))] H := hP
    have hD : va_D A [(a_t, .inr (5, [.ref a_t_text, .int i_t_length, .int z_15, .int z_16, .int z_17, .int z_18])), (a_p1, .inr (7, [o_p1_length, .int i_p1_words, o_p1_frames, o_p1_pairs, .ref a_p1_kinds, .ref a_p1_worths, o_p1_framed, o_p1_paired, o_p1_pairWorths, o_p1_scales])), (a_t_text, .inl (cy 1, 500, .inl f_t_text)), (a_p1_kinds, .inl (cy 0, 8, .inl f_p1_kinds)), (a_p1_worths, .inl (cy 6, 2, .inr (.inr (.inr (.inr (rfL [a_p1_worths0, a_p1_worths1])))))), (a_p1_worths0, .inl (cy 0, 8, .inl f_p1_worths0)), (a_p1_worths1, .inl (cy 0, 8, .inl f_p1_worths1))] := hD
    refine lv_bipush (v := 50) hx hb dX5_readWord_37 (by decide) ?_
    refine lv_isub hx hb dX5_readWord_39 ?_
    refine lv_istore (lv' := [(4, .int (r_14 - 50)), (3, .int (r_8 - 50)), (2, .int r_2), (0, .ref a_t), (1, .ref a_p1)]) hx hb dX5_readWord_40 hl (by decide) rfl (fun ls hl => ?_)
    refine lv_aload_n hx hb dX5_readWord_42 rfl (lv_at hl 3 rfl) ?_
    refine lv_bipush (v := 59) hx hb dX5_readWord_43 (by decide) ?_
    obtain ⟨⟨z_20, z_21, z_22, z_23⟩, hc_24, hf⟩ := hb_b hf
    refine cl_Vv (rest := []) [0, 2] [some 0, none, some 1, none, none, none, none] 7 0 C0 hK hP hD hS hA (c_X5_nextSign l D cy a_t a_t_text i_t_length f_t_text z_15 z_16 z_17 z_18 59 z_20 z_21 z_22 z_23 hc_24) (cwV 1 hts gX5_readWord_X5_nextSign rfl rfl rfl (by decide +kernel) ⟨Nat.le_of_ble_eq_true rfl, Nat.le_of_ble_eq_true rfl⟩) rfl (by decide) rfl rfl rfl rfl rfl rfl rfl hl.1 rfl (Nat.le_of_ble_eq_true rfl) dX5_readWord_45 ⟨Nat.zero_le _, Nat.zero_le _⟩ (fun H locs hP hD hS => ?_)
    have hP : va_P D vwCl [(a_t, .inr (5, [.ref a_t_text, .int i_t_length, .int z_20, .int z_21, .int z_22, .int z_23])), (a_p1, .inr (7, [o_p1_length, .int i_p1_words, o_p1_frames, o_p1_pairs, .ref a_p1_kinds, .ref a_p1_worths, o_p1_framed, o_p1_paired, o_p1_pairWorths, o_p1_scales])), (a_t_text, .inl (cy 1, 500, .inl f_t_text)), (a_p1_kinds, .inl (cy 0, 8, .inl f_p1_kinds)), (a_p1_worths, .inl (cy 6, 2, .inr (.inr (.inr (.inr (rfL [a_p1_worths0, a_p1_worths1])))))), (a_p1_worths0, .inl (cy 0, 8, .inl f_p1_worths0)), (a_p1_worths1, .inl (cy 0, 8, .inl f_p1_worths1))] H := hP
    have hD : va_D A [(a_t, .inr (5, [.ref a_t_text, .int i_t_length, .int z_20, .int z_21, .int z_22, .int z_23])), (a_p1, .inr (7, [o_p1_length, .int i_p1_words, o_p1_frames, o_p1_pairs, .ref a_p1_kinds, .ref a_p1_worths, o_p1_framed, o_p1_paired, o_p1_pairWorths, o_p1_scales])), (a_t_text, .inl (cy 1, 500, .inl f_t_text)), (a_p1_kinds, .inl (cy 0, 8, .inl f_p1_kinds)), (a_p1_worths, .inl (cy 6, 2, .inr (.inr (.inr (.inr (rfL [a_p1_worths0, a_p1_worths1])))))), (a_p1_worths0, .inl (cy 0, 8, .inl f_p1_worths0)), (a_p1_worths1, .inl (cy 0, 8, .inl f_p1_worths1))] := hD
    refine lv_aload_n hx hb dX5_readWord_48 rfl (lv_at hl 3 rfl) ?_
    refine va_get (D := D) (ci := 5) (v := .int z_22) (C := RX5) (T := TX5) (N := 6) hx hb hts uX5_readWord_X5 hown hK.1.1 hP 0 rfl rfl 4 (by decide) (hts _ mX5_readWord_26) (fun _ h9 => h9) rfl dX5_readWord_49 ?_
    refine lv_if_ne (tgt := 63) hx hb dX5_readWord_52 (by decide) (fun c_25 => ?_) (fun c_25 => ?_)
    · have hf := hb_f hf c_25
      obtain ⟨e_0, e_1, e_2, e_3, e_4, e_5, e_6, e_7⟩ := tu8 hf
      subst e_0; subst e_1; subst e_2; subst e_3; subst e_4; subst e_5; subst e_6; subst e_7
      exact hret _ _ _ _ dX5_readWord_63 hP hS
    · have hf := hb_t hf c_25
      refine lv_aload_n hx hb dX5_readWord_55 rfl (lv_at hl 4 rfl) ?_
      refine lv_iload_n hx hb dX5_readWord_56 rfl (lv_at hl 2 rfl) ?_
      refine lv_iload_n hx hb dX5_readWord_57 rfl (lv_at hl 1 rfl) ?_
      refine lv_iload hx hb dX5_readWord_58 (lv_at hl 0 rfl) ?_
      obtain ⟨⟨z_26, z_27, z_28, z_29⟩, hc_30, hf⟩ := hb_b hf
      refine cl_Vv (rest := []) [1, 3, 4, 5, 6] [none, some 0, none, some 1, some 2, some 3, some 4] 7 1 C0 hK hP hD hS hA (c_X7_addWord l D cy a_p1 a_p1_kinds a_p1_worths a_p1_worths0 a_p1_worths1 o_p1_length o_p1_frames o_p1_pairs o_p1_framed o_p1_paired o_p1_pairWorths o_p1_scales i_p1_words f_p1_kinds f_p1_worths0 f_p1_worths1 r_2 (r_8 - 50) (r_14 - 50) z_26 z_27 z_28 z_29 hc_30) (cwV 3 hts gX5_readWord_X7_addWord rfl rfl rfl (by decide +kernel) ⟨Nat.le_of_ble_eq_true rfl, Nat.le_of_ble_eq_true rfl⟩) rfl (by decide) rfl rfl rfl rfl rfl rfl rfl hl.1 rfl (Nat.le_of_ble_eq_true rfl) dX5_readWord_60 ⟨Nat.zero_le _, Nat.zero_le _⟩ (fun H locs hP hD hS => ?_)
      have hP : va_P D vwCl [(a_t, .inr (5, [.ref a_t_text, .int i_t_length, .int z_20, .int z_21, .int z_22, .int z_23])), (a_p1, .inr (7, [o_p1_length, .int z_26, o_p1_frames, o_p1_pairs, .ref a_p1_kinds, .ref a_p1_worths, o_p1_framed, o_p1_paired, o_p1_pairWorths, o_p1_scales])), (a_t_text, .inl (cy 1, 500, .inl f_t_text)), (a_p1_kinds, .inl (cy 0, 8, .inl z_27)), (a_p1_worths, .inl (cy 6, 2, .inr (.inr (.inr (.inr (rfL [a_p1_worths0, a_p1_worths1])))))), (a_p1_worths0, .inl (cy 0, 8, .inl z_28)), (a_p1_worths1, .inl (cy 0, 8, .inl z_29))] H := hP
      have hD : va_D A [(a_t, .inr (5, [.ref a_t_text, .int i_t_length, .int z_20, .int z_21, .int z_22, .int z_23])), (a_p1, .inr (7, [o_p1_length, .int z_26, o_p1_frames, o_p1_pairs, .ref a_p1_kinds, .ref a_p1_worths, o_p1_framed, o_p1_paired, o_p1_pairWorths, o_p1_scales])), (a_t_text, .inl (cy 1, 500, .inl f_t_text)), (a_p1_kinds, .inl (cy 0, 8, .inl z_27)), (a_p1_worths, .inl (cy 6, 2, .inr (.inr (.inr (.inr (rfL [a_p1_worths0, a_p1_worths1])))))), (a_p1_worths0, .inl (cy 0, 8, .inl z_28)), (a_p1_worths1, .inl (cy 0, 8, .inl z_29))] := hD
      obtain ⟨e_0, e_1, e_2, e_3, e_4, e_5, e_6, e_7⟩ := tu8 hf
      subst e_0; subst e_1; subst e_2; subst e_3; subst e_4; subst e_5; subst e_6; subst e_7
      exact hret _ _ _ _ dX5_readWord_63 hP hS
  · have hf := hb_f hf c_1
    refine lv_aload_n hx hb dX5_readWord_9 rfl (lv_at hl 0 rfl) ?_
    refine lv_iconst (v := 3) hx hb dX5_readWord_10 (by decide) ?_
    obtain ⟨⟨z_31, z_32⟩, hc_33, hf⟩ := hb_b hf
    refine cl_Vv (rest := []) [0] [some 0, none, none, none, none, none, none] 7 0 C0 hK hP hD hS hA (c_X5_fail l D cy a_t (.ref a_t_text) (.int i_t_length) (.int i_t_place) i_t_start i_t_faultNumber i_t_faultByte 3 z_31 z_32 hc_33) (cwV 1 hts gX5_readWord_X5_fail rfl rfl rfl (by decide +kernel) ⟨Nat.le_of_ble_eq_true rfl, Nat.le_of_ble_eq_true rfl⟩) rfl (by decide) rfl rfl rfl rfl rfl rfl rfl hl.1 rfl (Nat.le_of_ble_eq_true rfl) dX5_readWord_11 ⟨Nat.zero_le _, Nat.zero_le _⟩ (fun H locs hP hD hS => ?_)
    have hP : va_P D vwCl [(a_t, .inr (5, [.ref a_t_text, .int i_t_length, .int i_t_place, .int i_t_start, .int z_31, .int z_32])), (a_p1, .inr (7, [o_p1_length, .int i_p1_words, o_p1_frames, o_p1_pairs, .ref a_p1_kinds, .ref a_p1_worths, o_p1_framed, o_p1_paired, o_p1_pairWorths, o_p1_scales])), (a_t_text, .inl (cy 1, 500, .inl f_t_text)), (a_p1_kinds, .inl (cy 0, 8, .inl f_p1_kinds)), (a_p1_worths, .inl (cy 6, 2, .inr (.inr (.inr (.inr (rfL [a_p1_worths0, a_p1_worths1])))))), (a_p1_worths0, .inl (cy 0, 8, .inl f_p1_worths0)), (a_p1_worths1, .inl (cy 0, 8, .inl f_p1_worths1))] H := hP
    have hD : va_D A [(a_t, .inr (5, [.ref a_t_text, .int i_t_length, .int i_t_place, .int i_t_start, .int z_31, .int z_32])), (a_p1, .inr (7, [o_p1_length, .int i_p1_words, o_p1_frames, o_p1_pairs, .ref a_p1_kinds, .ref a_p1_worths, o_p1_framed, o_p1_paired, o_p1_pairWorths, o_p1_scales])), (a_t_text, .inl (cy 1, 500, .inl f_t_text)), (a_p1_kinds, .inl (cy 0, 8, .inl f_p1_kinds)), (a_p1_worths, .inl (cy 6, 2, .inr (.inr (.inr (.inr (rfL [a_p1_worths0, a_p1_worths1])))))), (a_p1_worths0, .inl (cy 0, 8, .inl f_p1_worths0)), (a_p1_worths1, .inl (cy 0, 8, .inl f_p1_worths1))] := hD
    refine lv_aload_n hx hb dX5_readWord_14 rfl (lv_at hl 0 rfl) ?_
    obtain ⟨⟨r_34, z_35, z_36, z_37, z_38⟩, hc_39, hf⟩ := hb_b hf
    refine cl_Vi (rest := []) [0, 2] [some 0, none, some 1, none, none, none, none] 7 0 C0 hK hP hD hS hA (c_X5_nextKind l D cy a_t a_t_text i_t_length f_t_text i_t_place i_t_start z_31 z_32 r_34 z_35 z_36 z_37 z_38 hc_39) (cwV 0 hts gX5_readWord_X5_nextKind rfl rfl rfl (by decide +kernel) ⟨Nat.le_of_ble_eq_true rfl, Nat.le_of_ble_eq_true rfl⟩) rfl (by decide) rfl rfl rfl rfl rfl rfl rfl hl.1 rfl (Nat.le_of_ble_eq_true rfl) dX5_readWord_15 ⟨Nat.zero_le _, Nat.zero_le _⟩ (fun H locs hP hD hS => ?_)
    have hP : va_P D vwCl [(a_t, .inr (5, [.ref a_t_text, .int i_t_length, .int z_35, .int z_36, .int z_37, .int z_38])), (a_p1, .inr (7, [o_p1_length, .int i_p1_words, o_p1_frames, o_p1_pairs, .ref a_p1_kinds, .ref a_p1_worths, o_p1_framed, o_p1_paired, o_p1_pairWorths, o_p1_scales])), (a_t_text, .inl (cy 1, 500, .inl f_t_text)), (a_p1_kinds, .inl (cy 0, 8, .inl f_p1_kinds)), (a_p1_worths, .inl (cy 6, 2, .inr (.inr (.inr (.inr (rfL [a_p1_worths0, a_p1_worths1])))))), (a_p1_worths0, .inl (cy 0, 8, .inl f_p1_worths0)), (a_p1_worths1, .inl (cy 0, 8, .inl f_p1_worths1))] H := hP
    have hD : va_D A [(a_t, .inr (5, [.ref a_t_text, .int i_t_length, .int z_35, .int z_36, .int z_37, .int z_38])), (a_p1, .inr (7, [o_p1_length, .int i_p1_words, o_p1_frames, o_p1_pairs, .ref a_p1_kinds, .ref a_p1_worths, o_p1_framed, o_p1_paired, o_p1_pairWorths, o_p1_scales])), (a_t_text, .inl (cy 1, 500, .inl f_t_text)), (a_p1_kinds, .inl (cy 0, 8, .inl f_p1_kinds)), (a_p1_worths, .inl (cy 6, 2, .inr (.inr (.inr (.inr (rfL [a_p1_worths0, a_p1_worths1])))))), (a_p1_worths0, .inl (cy 0, 8, .inl f_p1_worths0)), (a_p1_worths1, .inl (cy 0, 8, .inl f_p1_worths1))] := hD
    refine lv_istore_n (lv' := [(2, .int r_34), (0, .ref a_t), (1, .ref a_p1)]) hx hb dX5_readWord_18 rfl hl (by decide) rfl (fun ls hl => ?_)
    refine lv_aload_n hx hb dX5_readWord_19 rfl (lv_at hl 1 rfl) ?_
    refine lv_iconst (v := 0) hx hb dX5_readWord_20 (by decide) ?_
    refine lv_bipush (v := 99) hx hb dX5_readWord_21 (by decide) ?_
    obtain ⟨⟨r_40, z_41, z_42, z_43, z_44⟩, hc_45, hf⟩ := hb_b hf
    refine cl_Vi (rest := []) [0, 2] [some 0, none, some 1, none, none, none, none] 7 0 C0 hK hP hD hS hA (c_X5_nextNumber l D cy a_t a_t_text i_t_length f_t_text z_35 z_36 z_37 z_38 0 99 r_40 z_41 z_42 z_43 z_44 hc_45) (cwV 2 hts gX5_readWord_X5_nextNumber rfl rfl rfl (by decide +kernel) ⟨Nat.le_of_ble_eq_true rfl, Nat.le_of_ble_eq_true rfl⟩) rfl (by decide) rfl rfl rfl rfl rfl rfl rfl hl.1 rfl (Nat.le_of_ble_eq_true rfl) dX5_readWord_23 ⟨Nat.zero_le _, Nat.zero_le _⟩ (fun H locs hP hD hS => ?_)
    have hP : va_P D vwCl [(a_t, .inr (5, [.ref a_t_text, .int i_t_length, .int z_41, .int z_42, .int z_43, .int z_44])), (a_p1, .inr (7, [o_p1_length, .int i_p1_words, o_p1_frames, o_p1_pairs, .ref a_p1_kinds, .ref a_p1_worths, o_p1_framed, o_p1_paired, o_p1_pairWorths, o_p1_scales])), (a_t_text, .inl (cy 1, 500, .inl f_t_text)), (a_p1_kinds, .inl (cy 0, 8, .inl f_p1_kinds)), (a_p1_worths, .inl (cy 6, 2, .inr (.inr (.inr (.inr (rfL [a_p1_worths0, a_p1_worths1])))))), (a_p1_worths0, .inl (cy 0, 8, .inl f_p1_worths0)), (a_p1_worths1, .inl (cy 0, 8, .inl f_p1_worths1))] H := hP
    have hD : va_D A [(a_t, .inr (5, [.ref a_t_text, .int i_t_length, .int z_41, .int z_42, .int z_43, .int z_44])), (a_p1, .inr (7, [o_p1_length, .int i_p1_words, o_p1_frames, o_p1_pairs, .ref a_p1_kinds, .ref a_p1_worths, o_p1_framed, o_p1_paired, o_p1_pairWorths, o_p1_scales])), (a_t_text, .inl (cy 1, 500, .inl f_t_text)), (a_p1_kinds, .inl (cy 0, 8, .inl f_p1_kinds)), (a_p1_worths, .inl (cy 6, 2, .inr (.inr (.inr (.inr (rfL [a_p1_worths0, a_p1_worths1])))))), (a_p1_worths0, .inl (cy 0, 8, .inl f_p1_worths0)), (a_p1_worths1, .inl (cy 0, 8, .inl f_p1_worths1))] := hD
    refine lv_bipush (v := 50) hx hb dX5_readWord_26 (by decide) ?_
    refine lv_isub hx hb dX5_readWord_28 ?_
    refine lv_istore_n (lv' := [(3, .int (r_40 - 50)), (2, .int r_34), (0, .ref a_t), (1, .ref a_p1)]) hx hb dX5_readWord_29 rfl hl (by decide) rfl (fun ls hl => ?_)
    refine lv_aload_n hx hb dX5_readWord_30 rfl (lv_at hl 2 rfl) ?_
    refine lv_iconst (v := 0) hx hb dX5_readWord_31 (by decide) ?_
    refine lv_bipush (v := 99) hx hb dX5_readWord_32 (by decide) ?_
    obtain ⟨⟨r_46, z_47, z_48, z_49, z_50⟩, hc_51, hf⟩ := hb_b hf
    refine cl_Vi (rest := []) [0, 2] [some 0, none, some 1, none, none, none, none] 7 0 C0 hK hP hD hS hA (c_X5_nextNumber l D cy a_t a_t_text i_t_length f_t_text z_41 z_42 z_43 z_44 0 99 r_46 z_47 z_48 z_49 z_50 hc_51) (cwV 2 hts gX5_readWord_X5_nextNumber rfl rfl rfl (by decide +kernel) ⟨Nat.le_of_ble_eq_true rfl, Nat.le_of_ble_eq_true rfl⟩) rfl (by decide) rfl rfl rfl rfl rfl rfl rfl hl.1 rfl (Nat.le_of_ble_eq_true rfl) dX5_readWord_34 ⟨Nat.zero_le _, Nat.zero_le _⟩ (fun H locs hP hD hS => ?_)
    have hP : va_P D vwCl [(a_t, .inr (5, [.ref a_t_text, .int i_t_length, .int z_47, .int z_48, .int z_49, .int z_50])), (a_p1, .inr (7, [o_p1_length, .int i_p1_words, o_p1_frames, o_p1_pairs, .ref a_p1_kinds, .ref a_p1_worths, o_p1_framed, o_p1_paired, o_p1_pairWorths, o_p1_scales])), (a_t_text, .inl (cy 1, 500, .inl f_t_text)), (a_p1_kinds, .inl (cy 0, 8, .inl f_p1_kinds)), (a_p1_worths, .inl (cy 6, 2, .inr (.inr (.inr (.inr (rfL [a_p1_worths0, a_p1_worths1])))))), (a_p1_worths0, .inl (cy 0, 8, .inl f_p1_worths0)), (a_p1_worths1, .inl (cy 0, 8, .inl f_p1_worths1))] H := hP
    have hD : va_D A [(a_t, .inr (5, [.ref a_t_text, .int i_t_length, .int z_47, .int z_48, .int z_49, .int z_50])), (a_p1, .inr (7, [o_p1_length, .int i_p1_words, o_p1_frames, o_p1_pairs, .ref a_p1_kinds, .ref a_p1_worths, o_p1_framed, o_p1_paired, o_p1_pairWorths, o_p1_scales])), (a_t_text, .inl (cy 1, 500, .inl f_t_text)), (a_p1_kinds, .inl (cy 0, 8, .inl f_p1_kinds)), (a_p1_worths, .inl (cy 6, 2, .inr (.inr (.inr (.inr (rfL [a_p1_worths0, a_p1_worths1])))))), (a_p1_worths0, .inl (cy 0, 8, .inl f_p1_worths0)), (a_p1_worths1, .inl (cy 0, 8, .inl f_p1_worths1))] := hD
    refine lv_bipush (v := 50) hx hb dX5_readWord_37 (by decide) ?_
    refine lv_isub hx hb dX5_readWord_39 ?_
    refine lv_istore (lv' := [(4, .int (r_46 - 50)), (3, .int (r_40 - 50)), (2, .int r_34), (0, .ref a_t), (1, .ref a_p1)]) hx hb dX5_readWord_40 hl (by decide) rfl (fun ls hl => ?_)
    refine lv_aload_n hx hb dX5_readWord_42 rfl (lv_at hl 3 rfl) ?_
    refine lv_bipush (v := 59) hx hb dX5_readWord_43 (by decide) ?_
    obtain ⟨⟨z_52, z_53, z_54, z_55⟩, hc_56, hf⟩ := hb_b hf
    refine cl_Vv (rest := []) [0, 2] [some 0, none, some 1, none, none, none, none] 7 0 C0 hK hP hD hS hA (c_X5_nextSign l D cy a_t a_t_text i_t_length f_t_text z_47 z_48 z_49 z_50 59 z_52 z_53 z_54 z_55 hc_56) (cwV 1 hts gX5_readWord_X5_nextSign rfl rfl rfl (by decide +kernel) ⟨Nat.le_of_ble_eq_true rfl, Nat.le_of_ble_eq_true rfl⟩) rfl (by decide) rfl rfl rfl rfl rfl rfl rfl hl.1 rfl (Nat.le_of_ble_eq_true rfl) dX5_readWord_45 ⟨Nat.zero_le _, Nat.zero_le _⟩ (fun H locs hP hD hS => ?_)
    have hP : va_P D vwCl [(a_t, .inr (5, [.ref a_t_text, .int i_t_length, .int z_52, .int z_53, .int z_54, .int z_55])), (a_p1, .inr (7, [o_p1_length, .int i_p1_words, o_p1_frames, o_p1_pairs, .ref a_p1_kinds, .ref a_p1_worths, o_p1_framed, o_p1_paired, o_p1_pairWorths, o_p1_scales])), (a_t_text, .inl (cy 1, 500, .inl f_t_text)), (a_p1_kinds, .inl (cy 0, 8, .inl f_p1_kinds)), (a_p1_worths, .inl (cy 6, 2, .inr (.inr (.inr (.inr (rfL [a_p1_worths0, a_p1_worths1])))))), (a_p1_worths0, .inl (cy 0, 8, .inl f_p1_worths0)), (a_p1_worths1, .inl (cy 0, 8, .inl f_p1_worths1))] H := hP
    have hD : va_D A [(a_t, .inr (5, [.ref a_t_text, .int i_t_length, .int z_52, .int z_53, .int z_54, .int z_55])), (a_p1, .inr (7, [o_p1_length, .int i_p1_words, o_p1_frames, o_p1_pairs, .ref a_p1_kinds, .ref a_p1_worths, o_p1_framed, o_p1_paired, o_p1_pairWorths, o_p1_scales])), (a_t_text, .inl (cy 1, 500, .inl f_t_text)), (a_p1_kinds, .inl (cy 0, 8, .inl f_p1_kinds)), (a_p1_worths, .inl (cy 6, 2, .inr (.inr (.inr (.inr (rfL [a_p1_worths0, a_p1_worths1])))))), (a_p1_worths0, .inl (cy 0, 8, .inl f_p1_worths0)), (a_p1_worths1, .inl (cy 0, 8, .inl f_p1_worths1))] := hD
    refine lv_aload_n hx hb dX5_readWord_48 rfl (lv_at hl 3 rfl) ?_
    refine va_get (D := D) (ci := 5) (v := .int z_54) (C := RX5) (T := TX5) (N := 6) hx hb hts uX5_readWord_X5 hown hK.1.1 hP 0 rfl rfl 4 (by decide) (hts _ mX5_readWord_26) (fun _ h9 => h9) rfl dX5_readWord_49 ?_
    refine lv_if_ne (tgt := 63) hx hb dX5_readWord_52 (by decide) (fun c_57 => ?_) (fun c_57 => ?_)
    · have hf := hb_f hf c_57
      obtain ⟨e_0, e_1, e_2, e_3, e_4, e_5, e_6, e_7⟩ := tu8 hf
      subst e_0; subst e_1; subst e_2; subst e_3; subst e_4; subst e_5; subst e_6; subst e_7
      exact hret _ _ _ _ dX5_readWord_63 hP hS
    · have hf := hb_t hf c_57
      refine lv_aload_n hx hb dX5_readWord_55 rfl (lv_at hl 4 rfl) ?_
      refine lv_iload_n hx hb dX5_readWord_56 rfl (lv_at hl 2 rfl) ?_
      refine lv_iload_n hx hb dX5_readWord_57 rfl (lv_at hl 1 rfl) ?_
      refine lv_iload hx hb dX5_readWord_58 (lv_at hl 0 rfl) ?_
      obtain ⟨⟨z_58, z_59, z_60, z_61⟩, hc_62, hf⟩ := hb_b hf
      refine cl_Vv (rest := []) [1, 3, 4, 5, 6] [none, some 0, none, some 1, some 2, some 3, some 4] 7 1 C0 hK hP hD hS hA (c_X7_addWord l D cy a_p1 a_p1_kinds a_p1_worths a_p1_worths0 a_p1_worths1 o_p1_length o_p1_frames o_p1_pairs o_p1_framed o_p1_paired o_p1_pairWorths o_p1_scales i_p1_words f_p1_kinds f_p1_worths0 f_p1_worths1 r_34 (r_40 - 50) (r_46 - 50) z_58 z_59 z_60 z_61 hc_62) (cwV 3 hts gX5_readWord_X7_addWord rfl rfl rfl (by decide +kernel) ⟨Nat.le_of_ble_eq_true rfl, Nat.le_of_ble_eq_true rfl⟩) rfl (by decide) rfl rfl rfl rfl rfl rfl rfl hl.1 rfl (Nat.le_of_ble_eq_true rfl) dX5_readWord_60 ⟨Nat.zero_le _, Nat.zero_le _⟩ (fun H locs hP hD hS => ?_)
      have hP : va_P D vwCl [(a_t, .inr (5, [.ref a_t_text, .int i_t_length, .int z_52, .int z_53, .int z_54, .int z_55])), (a_p1, .inr (7, [o_p1_length, .int z_58, o_p1_frames, o_p1_pairs, .ref a_p1_kinds, .ref a_p1_worths, o_p1_framed, o_p1_paired, o_p1_pairWorths, o_p1_scales])), (a_t_text, .inl (cy 1, 500, .inl f_t_text)), (a_p1_kinds, .inl (cy 0, 8, .inl z_59)), (a_p1_worths, .inl (cy 6, 2, .inr (.inr (.inr (.inr (rfL [a_p1_worths0, a_p1_worths1])))))), (a_p1_worths0, .inl (cy 0, 8, .inl z_60)), (a_p1_worths1, .inl (cy 0, 8, .inl z_61))] H := hP
      have hD : va_D A [(a_t, .inr (5, [.ref a_t_text, .int i_t_length, .int z_52, .int z_53, .int z_54, .int z_55])), (a_p1, .inr (7, [o_p1_length, .int z_58, o_p1_frames, o_p1_pairs, .ref a_p1_kinds, .ref a_p1_worths, o_p1_framed, o_p1_paired, o_p1_pairWorths, o_p1_scales])), (a_t_text, .inl (cy 1, 500, .inl f_t_text)), (a_p1_kinds, .inl (cy 0, 8, .inl z_59)), (a_p1_worths, .inl (cy 6, 2, .inr (.inr (.inr (.inr (rfL [a_p1_worths0, a_p1_worths1])))))), (a_p1_worths0, .inl (cy 0, 8, .inl z_60)), (a_p1_worths1, .inl (cy 0, 8, .inl z_61))] := hD
      obtain ⟨e_0, e_1, e_2, e_3, e_4, e_5, e_6, e_7⟩ := tu8 hf
      subst e_0; subst e_1; subst e_2; subst e_3; subst e_4; subst e_5; subst e_6; subst e_7
      exact hret _ _ _ _ dX5_readWord_63 hP hS
