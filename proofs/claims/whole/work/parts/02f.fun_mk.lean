def f_X3_makeRoom (i_t_size : Int32) (n_t_sense : Nat) (f_t_sense : Nat → Int32) (n_t_worthToOne : Nat) (f_t_worthToOne : Nat → Int32) (n_t_worthToOther : Nat) (f_t_worthToOther : Nat → Int32) : Option (Nat × (Nat → Int32) × Nat × (Nat → Int32) × Nat × (Nat → Int32)) :=
  if i_t_size ≤ (nI n_t_sense) then
    some (n_t_sense, f_t_sense, n_t_worthToOne, f_t_worthToOne, n_t_worthToOther, f_t_worthToOther)
  else
    if szb i_t_size = true then
    if szb i_t_size = true then
    if szb i_t_size = true then
    some (((i_t_size : Int32).toNatClampNeg), (fun _ => 0), ((i_t_size : Int32).toNatClampNeg), (fun _ => 0), ((i_t_size : Int32).toNatClampNeg), (fun _ => 0))
    else none
    else none
    else none
def f_X4_makeRoom (n_t_steps : Nat) (f_t_steps : Nat → Int32) (i_t_queue_count : Int32) (n_t_queue_letters : Nat) (f_t_queue_letters : Nat → Int32) (p1 : Int32) : Option (Nat × (Nat → Int32) × Int32 × Nat × (Nat → Int32)) :=
  if p1 ≤ (nI n_t_steps) then
    some (n_t_steps, f_t_steps, i_t_queue_count, n_t_queue_letters, f_t_queue_letters)
  else
    if szb p1 = true then
    if szb p1 = true then
    some (((p1 : Int32).toNatClampNeg), (fun _ => 0), 0, ((p1 : Int32).toNatClampNeg), (fun _ => 0))
    else none
    else none
def f_X1_makeRoom (n_t_memory : Nat) (f_t_memory : Nat → Int32) (p1 : Int32) : Option (Nat × (Nat → Int32)) :=
  if ((p1 * 2) * 8) ≤ (nI n_t_memory) then
    some (n_t_memory, f_t_memory)
  else
    if szb ((p1 * 2) * 8) = true then
    some (((((p1 * 2) * 8) : Int32).toNatClampNeg), (fun _ => 0))
    else none
def f_X8_makeRoom (i_t_stillOnes_count : Int32) (n_t_stillOnes_letters : Nat) (f_t_stillOnes_letters : Nat → Int32) (n_t_paths_steps : Nat) (f_t_paths_steps : Nat → Int32) (i_t_paths_queue_count : Int32) (n_t_paths_queue_letters : Nat) (f_t_paths_queue_letters : Nat → Int32) (n_t_foresight_memory : Nat) (f_t_foresight_memory : Nat → Int32) (p1 : Int32) : Option (Int32 × Nat × (Nat → Int32) × Nat × (Nat → Int32) × Int32 × Nat × (Nat → Int32) × Nat × (Nat → Int32)) :=
  (f_X4_makeRoom n_t_paths_steps f_t_paths_steps i_t_paths_queue_count n_t_paths_queue_letters f_t_paths_queue_letters p1).bind fun (z_1, z_2, z_3, z_4, z_5) =>
  (f_X1_makeRoom n_t_foresight_memory f_t_foresight_memory p1).bind fun (z_8, z_9) =>
  if p1 ≤ (nI n_t_stillOnes_letters) then
    some (i_t_stillOnes_count, n_t_stillOnes_letters, f_t_stillOnes_letters, z_1, z_2, z_3, z_4, z_5, z_8, z_9)
  else
    if szb p1 = true then
    some (0, ((p1 : Int32).toNatClampNeg), (fun _ => 0), z_1, z_2, z_3, z_4, z_5, z_8, z_9)
    else none
def f_X3_lay_L34 (i_p1_length : Int32) (i_p1_words : Int32) (i_p1_frames : Int32) (i_p1_pairs : Int32) (f_p1_kinds : Nat → Int32) (f_p1_worths0 : Nat → Int32) (f_p1_worths1 : Nat → Int32) (f_p1_framed : Nat → Int32) (f_p1_paired : Nat → Int32) (f_p1_pairWorths0 : Nat → Int32) (f_p1_pairWorths1 : Nat → Int32) : Nat → Int32 → Int32 → Int32 → Int32 → Nat → (Nat → Int32) → Nat → (Nat → Int32) → Nat → (Nat → Int32) → (Nat → Int32) → Option (Int32 × Int32 × Int32 × Nat × (Nat → Int32) × Nat × (Nat → Int32) × Nat × (Nat → Int32) × (Nat → Int32))
  | 0, _, _, _, _, _, _, _, _, _, _, _ => none
  | n + 1, v2, i_t_tongues, i_t_size, i_t_standing, n_t_sense, f_t_sense, n_t_worthToOne, f_t_worthToOne, n_t_worthToOther, f_t_worthToOther, f_p1_scales =>
    if i_t_size ≤ v2 then
      some (i_t_tongues, i_t_size, i_t_standing, n_t_sense, f_t_sense, n_t_worthToOne, f_t_worthToOne, n_t_worthToOther, f_t_worthToOther, f_p1_scales)
    else
      (f_X7_isFramed i_p1_length i_p1_words f_p1_kinds f_p1_scales f_p1_framed v2).bind fun r_13 =>
      if r_13 = 0 then
        if ixb v2 n_t_sense = true then
        if r_13 = 0 then
          if ixb v2 n_t_worthToOne = true then
          if r_13 = 0 then
            if ixb v2 n_t_worthToOther = true then
            if ixb v2 n_t_sense = true then
            f_X3_lay_L34 i_p1_length i_p1_words i_p1_frames i_p1_pairs f_p1_kinds f_p1_worths0 f_p1_worths1 f_p1_framed f_p1_paired f_p1_pairWorths0 f_p1_pairWorths1 n (v2 + 1) i_t_tongues i_t_size (i_t_standing + ((upd f_t_sense (v2 : Int32).toNatClampNeg (vp_nar .byte ((0 : Int32).toInt8.toInt32))) (v2 : Int32).toNatClampNeg)) n_t_sense (upd f_t_sense (v2 : Int32).toNatClampNeg (vp_nar .byte ((0 : Int32).toInt8.toInt32))) n_t_worthToOne (upd f_t_worthToOne (v2 : Int32).toNatClampNeg 0) n_t_worthToOther (upd f_t_worthToOther (v2 : Int32).toNatClampNeg 0) f_p1_scales
            else none
            else none
          else
            (f_X7_weigh i_p1_length i_p1_words 8 f_p1_worths1 64 f_p1_pairWorths1 f_p1_scales f_p1_kinds v2).bind fun r_22 =>
            if ixb v2 n_t_worthToOther = true then
            if ixb v2 n_t_sense = true then
            f_X3_lay_L34 i_p1_length i_p1_words i_p1_frames i_p1_pairs f_p1_kinds f_p1_worths0 f_p1_worths1 f_p1_framed f_p1_paired f_p1_pairWorths0 f_p1_pairWorths1 n (v2 + 1) i_t_tongues i_t_size (i_t_standing + ((upd f_t_sense (v2 : Int32).toNatClampNeg (vp_nar .byte ((0 : Int32).toInt8.toInt32))) (v2 : Int32).toNatClampNeg)) n_t_sense (upd f_t_sense (v2 : Int32).toNatClampNeg (vp_nar .byte ((0 : Int32).toInt8.toInt32))) n_t_worthToOne (upd f_t_worthToOne (v2 : Int32).toNatClampNeg 0) n_t_worthToOther (upd f_t_worthToOther (v2 : Int32).toNatClampNeg r_22) f_p1_scales
            else none
            else none
          else none
        else
          (f_X7_weigh i_p1_length i_p1_words 8 f_p1_worths0 64 f_p1_pairWorths0 f_p1_scales f_p1_kinds v2).bind fun r_26 =>
          if ixb v2 n_t_worthToOne = true then
          if r_13 = 0 then
            if ixb v2 n_t_worthToOther = true then
            if ixb v2 n_t_sense = true then
            f_X3_lay_L34 i_p1_length i_p1_words i_p1_frames i_p1_pairs f_p1_kinds f_p1_worths0 f_p1_worths1 f_p1_framed f_p1_paired f_p1_pairWorths0 f_p1_pairWorths1 n (v2 + 1) i_t_tongues i_t_size (i_t_standing + ((upd f_t_sense (v2 : Int32).toNatClampNeg (vp_nar .byte ((0 : Int32).toInt8.toInt32))) (v2 : Int32).toNatClampNeg)) n_t_sense (upd f_t_sense (v2 : Int32).toNatClampNeg (vp_nar .byte ((0 : Int32).toInt8.toInt32))) n_t_worthToOne (upd f_t_worthToOne (v2 : Int32).toNatClampNeg r_26) n_t_worthToOther (upd f_t_worthToOther (v2 : Int32).toNatClampNeg 0) f_p1_scales
            else none
            else none
          else
            (f_X7_weigh i_p1_length i_p1_words 8 f_p1_worths1 64 f_p1_pairWorths1 f_p1_scales f_p1_kinds v2).bind fun r_32 =>
            if ixb v2 n_t_worthToOther = true then
            if ixb v2 n_t_sense = true then
            f_X3_lay_L34 i_p1_length i_p1_words i_p1_frames i_p1_pairs f_p1_kinds f_p1_worths0 f_p1_worths1 f_p1_framed f_p1_paired f_p1_pairWorths0 f_p1_pairWorths1 n (v2 + 1) i_t_tongues i_t_size (i_t_standing + ((upd f_t_sense (v2 : Int32).toNatClampNeg (vp_nar .byte ((0 : Int32).toInt8.toInt32))) (v2 : Int32).toNatClampNeg)) n_t_sense (upd f_t_sense (v2 : Int32).toNatClampNeg (vp_nar .byte ((0 : Int32).toInt8.toInt32))) n_t_worthToOne (upd f_t_worthToOne (v2 : Int32).toNatClampNeg r_26) n_t_worthToOther (upd f_t_worthToOther (v2 : Int32).toNatClampNeg r_32) f_p1_scales
            else none
            else none
          else none
        else none
      else
        if ixb v2 n_t_sense = true then
        if r_13 = 0 then
          if ixb v2 n_t_worthToOne = true then
          if r_13 = 0 then
            if ixb v2 n_t_worthToOther = true then
            if ixb v2 n_t_sense = true then
            f_X3_lay_L34 i_p1_length i_p1_words i_p1_frames i_p1_pairs f_p1_kinds f_p1_worths0 f_p1_worths1 f_p1_framed f_p1_paired f_p1_pairWorths0 f_p1_pairWorths1 n (v2 + 1) i_t_tongues i_t_size (i_t_standing + ((upd f_t_sense (v2 : Int32).toNatClampNeg (vp_nar .byte ((1 : Int32).toInt8.toInt32))) (v2 : Int32).toNatClampNeg)) n_t_sense (upd f_t_sense (v2 : Int32).toNatClampNeg (vp_nar .byte ((1 : Int32).toInt8.toInt32))) n_t_worthToOne (upd f_t_worthToOne (v2 : Int32).toNatClampNeg 0) n_t_worthToOther (upd f_t_worthToOther (v2 : Int32).toNatClampNeg 0) f_p1_scales
            else none
            else none
          else
            (f_X7_weigh i_p1_length i_p1_words 8 f_p1_worths1 64 f_p1_pairWorths1 f_p1_scales f_p1_kinds v2).bind fun r_42 =>
            if ixb v2 n_t_worthToOther = true then
            if ixb v2 n_t_sense = true then
            f_X3_lay_L34 i_p1_length i_p1_words i_p1_frames i_p1_pairs f_p1_kinds f_p1_worths0 f_p1_worths1 f_p1_framed f_p1_paired f_p1_pairWorths0 f_p1_pairWorths1 n (v2 + 1) i_t_tongues i_t_size (i_t_standing + ((upd f_t_sense (v2 : Int32).toNatClampNeg (vp_nar .byte ((1 : Int32).toInt8.toInt32))) (v2 : Int32).toNatClampNeg)) n_t_sense (upd f_t_sense (v2 : Int32).toNatClampNeg (vp_nar .byte ((1 : Int32).toInt8.toInt32))) n_t_worthToOne (upd f_t_worthToOne (v2 : Int32).toNatClampNeg 0) n_t_worthToOther (upd f_t_worthToOther (v2 : Int32).toNatClampNeg r_42) f_p1_scales
            else none
            else none
          else none
        else
          (f_X7_weigh i_p1_length i_p1_words 8 f_p1_worths0 64 f_p1_pairWorths0 f_p1_scales f_p1_kinds v2).bind fun r_46 =>
          if ixb v2 n_t_worthToOne = true then
          if r_13 = 0 then
            if ixb v2 n_t_worthToOther = true then
            if ixb v2 n_t_sense = true then
            f_X3_lay_L34 i_p1_length i_p1_words i_p1_frames i_p1_pairs f_p1_kinds f_p1_worths0 f_p1_worths1 f_p1_framed f_p1_paired f_p1_pairWorths0 f_p1_pairWorths1 n (v2 + 1) i_t_tongues i_t_size (i_t_standing + ((upd f_t_sense (v2 : Int32).toNatClampNeg (vp_nar .byte ((1 : Int32).toInt8.toInt32))) (v2 : Int32).toNatClampNeg)) n_t_sense (upd f_t_sense (v2 : Int32).toNatClampNeg (vp_nar .byte ((1 : Int32).toInt8.toInt32))) n_t_worthToOne (upd f_t_worthToOne (v2 : Int32).toNatClampNeg r_46) n_t_worthToOther (upd f_t_worthToOther (v2 : Int32).toNatClampNeg 0) f_p1_scales
            else none
            else none
          else
            (f_X7_weigh i_p1_length i_p1_words 8 f_p1_worths1 64 f_p1_pairWorths1 f_p1_scales f_p1_kinds v2).bind fun r_52 =>
            if ixb v2 n_t_worthToOther = true then
            if ixb v2 n_t_sense = true then
            f_X3_lay_L34 i_p1_length i_p1_words i_p1_frames i_p1_pairs f_p1_kinds f_p1_worths0 f_p1_worths1 f_p1_framed f_p1_paired f_p1_pairWorths0 f_p1_pairWorths1 n (v2 + 1) i_t_tongues i_t_size (i_t_standing + ((upd f_t_sense (v2 : Int32).toNatClampNeg (vp_nar .byte ((1 : Int32).toInt8.toInt32))) (v2 : Int32).toNatClampNeg)) n_t_sense (upd f_t_sense (v2 : Int32).toNatClampNeg (vp_nar .byte ((1 : Int32).toInt8.toInt32))) n_t_worthToOne (upd f_t_worthToOne (v2 : Int32).toNatClampNeg r_46) n_t_worthToOther (upd f_t_worthToOther (v2 : Int32).toNatClampNeg r_52) f_p1_scales
            else none
            else none
          else none
        else none
def f_X3_lay (i_p1_length : Int32) (i_p1_words : Int32) (i_p1_frames : Int32) (i_p1_pairs : Int32) (f_p1_kinds : Nat → Int32) (f_p1_worths0 : Nat → Int32) (f_p1_worths1 : Nat → Int32) (f_p1_framed : Nat → Int32) (f_p1_paired : Nat → Int32) (f_p1_pairWorths0 : Nat → Int32) (f_p1_pairWorths1 : Nat → Int32) (i_t_tongues : Int32) (i_t_size : Int32) (i_t_standing : Int32) (n_t_sense : Nat) (f_t_sense : Nat → Int32) (n_t_worthToOne : Nat) (f_t_worthToOne : Nat → Int32) (n_t_worthToOther : Nat) (f_t_worthToOther : Nat → Int32) (f_p1_scales : Nat → Int32) : Option (Int32 × Int32 × Int32 × Nat × (Nat → Int32) × Nat × (Nat → Int32) × Nat × (Nat → Int32) × (Nat → Int32)) :=
  (f_X7_countLetters i_p1_length i_p1_words f_p1_scales).bind fun (r_1, z_2) =>
  (f_X3_makeRoom r_1 n_t_sense f_t_sense n_t_worthToOne f_t_worthToOne n_t_worthToOther f_t_worthToOther).bind fun (z_4, z_5, z_6, z_7, z_8, z_9) =>
  f_X3_lay_L34 i_p1_length i_p1_words i_p1_frames i_p1_pairs f_p1_kinds f_p1_worths0 f_p1_worths1 f_p1_framed f_p1_paired f_p1_pairWorths0 f_p1_pairWorths1 FU 0 (i_t_tongues + 1) r_1 0 z_4 z_5 z_6 z_7 z_8 z_9 z_2
def f_X8_tongue (f_t_reader_text : Nat → Int32) (i_t_guessCount : Int32) (i_t_spoken_length : Int32) (i_t_spoken_words : Int32) (i_t_spoken_frames : Int32) (i_t_spoken_pairs : Int32) (i_t_spare_length : Int32) (i_t_spare_words : Int32) (i_t_spare_frames : Int32) (i_t_spare_pairs : Int32) (f_t_spoken_kinds : Nat → Int32) (f_t_spoken_worths0 : Nat → Int32) (f_t_spoken_worths1 : Nat → Int32) (f_t_spoken_framed : Nat → Int32) (f_t_spoken_paired : Nat → Int32) (f_t_spoken_pairWorths0 : Nat → Int32) (f_t_spoken_pairWorths1 : Nat → Int32) (f_t_spoken_scales : Nat → Int32) (f_t_spare_kinds : Nat → Int32) (f_t_spare_worths0 : Nat → Int32) (f_t_spare_worths1 : Nat → Int32) (f_t_spare_framed : Nat → Int32) (f_t_spare_paired : Nat → Int32) (f_t_spare_pairWorths0 : Nat → Int32) (f_t_spare_pairWorths1 : Nat → Int32) (f_t_spare_scales : Nat → Int32) (i_t_letters_tongues : Int32) (i_t_letters_size : Int32) (i_t_letters_standing : Int32) (i_t_reader_length : Int32) (i_t_reader_place : Int32) (i_t_reader_start : Int32) (i_t_reader_faultNumber : Int32) (i_t_reader_faultByte : Int32) (n_t_letters_sense : Nat) (f_t_letters_sense : Nat → Int32) (n_t_letters_worthToOne : Nat) (f_t_letters_worthToOne : Nat → Int32) (n_t_letters_worthToOther : Nat) (f_t_letters_worthToOther : Nat → Int32) (i_t_stillOnes_count : Int32) (n_t_stillOnes_letters : Nat) (f_t_stillOnes_letters : Nat → Int32) (n_t_paths_steps : Nat) (f_t_paths_steps : Nat → Int32) (i_t_paths_queue_count : Int32) (n_t_paths_queue_letters : Nat) (f_t_paths_queue_letters : Nat → Int32) (n_t_foresight_memory : Nat) (f_t_foresight_memory : Nat → Int32) (i_t_now_letter : Int32) (i_t_now_turn : Int32) (i_t_now_settled : Int32) (i_t_now_sent : Int32) (f_t_now_gained : Nat → Int32) (i_t_book_count : Int32) (f_t_kept : Nat → Int32) : Option (Int32 × Int32 × Int32 × Int32 × Int32 × Int32 × Int32 × Int32 × Int32 × Int32 × (Nat → Int32) × (Nat → Int32) × (Nat → Int32) × (Nat → Int32) × (Nat → Int32) × (Nat → Int32) × (Nat → Int32) × (Nat → Int32) × (Nat → Int32) × (Nat → Int32) × (Nat → Int32) × (Nat → Int32) × (Nat → Int32) × (Nat → Int32) × (Nat → Int32) × (Nat → Int32) × Int32 × Int32 × Int32 × Int32 × Int32 × Int32 × Int32 × Int32 × Nat × (Nat → Int32) × Nat × (Nat → Int32) × Nat × (Nat → Int32) × Int32 × Nat × (Nat → Int32) × Nat × (Nat → Int32) × Int32 × Nat × (Nat → Int32) × Nat × (Nat → Int32) × Int32 × Int32 × Int32 × Int32 × (Nat → Int32) × Int32 × (Nat → Int32)) :=
  (f_X5_read f_t_reader_text i_t_reader_length i_t_reader_place i_t_reader_start i_t_reader_faultNumber i_t_reader_faultByte i_t_spare_length i_t_spare_words i_t_spare_frames i_t_spare_pairs f_t_spare_framed f_t_spare_paired f_t_spare_pairWorths0 f_t_spare_pairWorths1 f_t_spare_kinds f_t_spare_worths0 f_t_spare_worths1).bind fun (r_1, z_2, z_3, z_4, z_5, z_6, z_7, z_8, z_9, z_10, z_11, z_12, z_13, z_14, z_15, z_16, z_17) =>
  if r_1 = 0 then
    (f_X3_lay z_7 z_8 z_9 z_10 z_15 z_16 z_17 z_11 z_12 z_13 z_14 i_t_letters_tongues i_t_letters_size i_t_letters_standing n_t_letters_sense f_t_letters_sense n_t_letters_worthToOne f_t_letters_worthToOne n_t_letters_worthToOther f_t_letters_worthToOther f_t_spare_scales).bind fun (z_20, z_21, z_22, z_23, z_24, z_25, z_26, z_27, z_28, z_29) =>
    (f_X8_makeRoom i_t_stillOnes_count n_t_stillOnes_letters f_t_stillOnes_letters n_t_paths_steps f_t_paths_steps i_t_paths_queue_count n_t_paths_queue_letters f_t_paths_queue_letters n_t_foresight_memory f_t_foresight_memory z_21).bind fun (z_32, z_33, z_34, z_35, z_36, z_37, z_38, z_39, z_40, z_41) =>
    (f_X0_restart i_t_now_letter i_t_now_turn i_t_now_settled i_t_now_sent f_t_now_gained).bind fun (z_44, z_45, z_46, z_47, z_48) =>
    (f_X6_empty i_t_book_count).bind fun z_50 =>
    (f_J7_fill_53178 2 f_t_kept 0).bind fun z_52 =>
    some (z_21, 0, z_7, z_8, z_9, z_10, i_t_spoken_length, i_t_spoken_words, i_t_spoken_frames, i_t_spoken_pairs, z_15, z_16, z_17, z_11, z_12, z_13, z_14, z_29, f_t_spoken_kinds, f_t_spoken_worths0, f_t_spoken_worths1, f_t_spoken_framed, f_t_spoken_paired, f_t_spoken_pairWorths0, f_t_spoken_pairWorths1, f_t_spoken_scales, z_20, z_21, z_22, z_2, z_3, z_4, z_5, z_6, z_23, z_24, z_25, z_26, z_27, z_28, z_32, z_33, z_34, z_35, z_36, z_37, z_38, z_39, z_40, z_41, z_44, z_45, z_46, z_47, z_48, z_50, z_52)
  else
    some (((-10) - r_1), i_t_guessCount, i_t_spoken_length, i_t_spoken_words, i_t_spoken_frames, i_t_spoken_pairs, z_7, z_8, z_9, z_10, f_t_spoken_kinds, f_t_spoken_worths0, f_t_spoken_worths1, f_t_spoken_framed, f_t_spoken_paired, f_t_spoken_pairWorths0, f_t_spoken_pairWorths1, f_t_spoken_scales, z_15, z_16, z_17, z_11, z_12, z_13, z_14, f_t_spare_scales, i_t_letters_tongues, i_t_letters_size, i_t_letters_standing, z_2, z_3, z_4, z_5, z_6, n_t_letters_sense, f_t_letters_sense, n_t_letters_worthToOne, f_t_letters_worthToOne, n_t_letters_worthToOther, f_t_letters_worthToOther, i_t_stillOnes_count, n_t_stillOnes_letters, f_t_stillOnes_letters, n_t_paths_steps, f_t_paths_steps, i_t_paths_queue_count, n_t_paths_queue_letters, f_t_paths_queue_letters, n_t_foresight_memory, f_t_foresight_memory, i_t_now_letter, i_t_now_turn, i_t_now_settled, i_t_now_sent, f_t_now_gained, i_t_book_count, f_t_kept)
