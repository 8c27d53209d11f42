def f_X8_feed (i_t_reader_length : Int32) (f_t_reader_text : Nat → Int32) (p1 : Int32) (p2 : Int64) : Option (Int32 × Int32 × (Nat → Int32)) :=
  if p1 < 1 then
    some ((-1000000002), i_t_reader_length, f_t_reader_text)
  else
    if p1 ≤ 8 then
      (f_X5_take i_t_reader_length f_t_reader_text p1 p2).bind fun (r_3, z_4, z_5) =>
      some (r_3, z_4, z_5)
    else
      some ((-1000000002), i_t_reader_length, f_t_reader_text)
def f_X8_fault (i_t_reader_faultByte : Int32) : Option (Int32) :=
  some i_t_reader_faultByte
def f_X8_told (i_t_guessCount : Int32) (i_t_spoken_length : Int32) (i_t_spoken_words : Int32) (i_t_spoken_frames : Int32) (i_t_spoken_pairs : Int32) (i_t_reader_length : Int32) (i_t_now_letter : Int32) (i_t_now_turn : Int32) (i_t_now_settled : Int32) (i_t_now_sent : Int32) (i_t_now_law : Int32) (i_t_now_way : Int32) (i_t_book_count : Int32) (i_t_letters_standing : Int32) (p1 : Int32) : Option (Int32) :=
  if p1 = 0 then
    some i_t_spoken_length
  else
    if p1 = 1 then
      some i_t_spoken_words
    else
      if p1 = 2 then
        some i_t_spoken_frames
      else
        if p1 = 3 then
          some i_t_spoken_pairs
        else
          if p1 = 4 then
            some i_t_reader_length
          else
            if p1 = 5 then
              some i_t_now_law
            else
              if p1 = 6 then
                some i_t_now_way
              else
                if p1 = 7 then
                  some i_t_now_letter
                else
                  if p1 = 8 then
                    some i_t_now_turn
                  else
                    if p1 = 9 then
                      if i_t_now_settled = 0 then
                        some 0
                      else
                        some 1
                    else
                      if p1 = 10 then
                        some i_t_now_sent
                      else
                        if p1 = 11 then
                          some i_t_guessCount
                        else
                          if p1 = 12 then
                            some i_t_book_count
                          else
                            if p1 = 13 then
                              some i_t_letters_standing
                            else
                              some (-1000000002)
def f_X8_isWord (i_t_spoken_words : Int32) (p1 : Int32) : Option (Int32) :=
  if p1 < 0 then
    some 0
  else
    if i_t_spoken_words ≤ p1 then
      some 0
    else
      some 1
def f_X8_word (i_t_spoken_words : Int32) (f_t_spoken_worths0 : Nat → Int32) (f_t_spoken_worths1 : Nat → Int32) (f_t_spoken_kinds : Nat → Int32) (p1 : Int32) (p2 : Int32) : Option (Int32) :=
  (f_X8_isWord i_t_spoken_words p1).bind fun r_1 =>
  if r_1 = 0 then
    some (-1000000001)
  else
    if p2 < 0 then
      some (-1000000002)
    else
      if p2 ≤ 2 then
        if p2 = 0 then
          if ixb p1 8 = true then
          some (f_t_spoken_kinds (p1 : Int32).toNatClampNeg)
          else none
        else
          if (p2 - 1) = 0 then
            if ixb p1 8 = true then
            some (f_t_spoken_worths0 (p1 : Int32).toNatClampNeg)
            else none
          else
            if (p2 - 1) = 1 then
              if ixb p1 8 = true then
              some (f_t_spoken_worths1 (p1 : Int32).toNatClampNeg)
              else none
            else
              none
      else
        some (-1000000002)
def f_X8_isLetter (i_t_letters_size : Int32) (p1 : Int32) : Option (Int32) :=
  if p1 < 0 then
    some 0
  else
    if i_t_letters_size ≤ p1 then
      some 0
    else
      some 1
def f_X8_at (i_t_letters_size : Int32) (i_t_spoken_length : Int32) (i_t_spoken_words : Int32) (f_t_spoken_scales : Nat → Int32) (p1 : Int32) (p2 : Int32) : Option (Int32) :=
  (f_X8_isLetter i_t_letters_size p1).bind fun r_1 =>
  if r_1 = 0 then
    some (-1000000002)
  else
    if p2 < 0 then
      some (-1000000002)
    else
      if p2 < i_t_spoken_length then
        (f_X7_wordAt i_t_spoken_length i_t_spoken_words f_t_spoken_scales p1 p2).bind fun r_6 =>
        some r_6
      else
        some (-1000000002)
def f_X8_stands (i_t_letters_size : Int32) (n_t_letters_sense : Nat) (f_t_letters_sense : Nat → Int32) (p1 : Int32) : Option (Int32) :=
  (f_X8_isLetter i_t_letters_size p1).bind fun r_1 =>
  if r_1 = 0 then
    some (-1000000002)
  else
    (f_X3_isSense i_t_letters_size n_t_letters_sense f_t_letters_sense p1).bind fun r_4 =>
    if r_4 = 0 then
      some 0
    else
      some 1
def f_X8_isHouse (p1 : Int32) : Option (Int32) :=
  if p1 < 0 then
    some 0
  else
    if 2 ≤ p1 then
      some 0
    else
      some 1
def f_X8_worth (i_t_letters_size : Int32) (n_t_letters_worthToOther : Nat) (f_t_letters_worthToOther : Nat → Int32) (n_t_letters_worthToOne : Nat) (f_t_letters_worthToOne : Nat → Int32) (p1 : Int32) (p2 : Int32) : Option (Int32) :=
  (f_X8_isHouse p1).bind fun r_1 =>
  if r_1 = 0 then
    some (-1000000001)
  else
    (f_X8_isLetter i_t_letters_size p2).bind fun r_4 =>
    if r_4 = 0 then
      some (-1000000002)
    else
      (f_X3_worthTo i_t_letters_size n_t_letters_worthToOther f_t_letters_worthToOther n_t_letters_worthToOne f_t_letters_worthToOne p1 p2).bind fun r_7 =>
      some r_7
def f_X8_law (i_t_now_law : Int32) (p1 : Int32) : Option (Int32 × Int32) :=
  if p1 < 0 then
    some ((-1000000002), i_t_now_law)
  else
    if p1 ≤ 2 then
      some (i_t_now_law, p1)
    else
      some ((-1000000002), i_t_now_law)
def f_X8_way (i_t_now_way : Int32) (p1 : Int32) : Option (Int32 × Int32) :=
  if p1 < 0 then
    some ((-1000000002), i_t_now_way)
  else
    if p1 ≤ 1 then
      some (i_t_now_way, p1)
    else
      some ((-1000000002), i_t_now_way)
def f_X8_listChanges (i_t_letters_size : Int32) (i_t_now_law : Int32) (i_t_now_way : Int32) (i_t_spoken_length : Int32) (i_t_spoken_words : Int32) (f_t_spoken_scales : Nat → Int32) (n_t_changes_letters : Nat) (n_t_letters_sense : Nat) (f_t_letters_sense : Nat → Int32) (i_t_changes_count : Int32) (f_t_changes_letters : Nat → Int32) (p1 : Int32) : Option (Int32 × (Nat → Int32)) :=
  if i_t_now_way = 1 then
    (f_X3_listChanges i_t_letters_size i_t_spoken_length i_t_spoken_words f_t_spoken_scales n_t_changes_letters n_t_letters_sense f_t_letters_sense i_t_changes_count f_t_changes_letters p1 i_t_now_law 1).bind fun (z_5, z_6) =>
    some (z_5, z_6)
  else
    (f_X3_listChanges i_t_letters_size i_t_spoken_length i_t_spoken_words f_t_spoken_scales n_t_changes_letters n_t_letters_sense f_t_letters_sense i_t_changes_count f_t_changes_letters p1 i_t_now_law 0).bind fun (z_2, z_3) =>
    some (z_2, z_3)
def f_X8_change (i_t_letters_size : Int32) (i_t_now_law : Int32) (i_t_now_way : Int32) (i_t_spoken_length : Int32) (i_t_spoken_words : Int32) (f_t_spoken_scales : Nat → Int32) (n_t_changes_letters : Nat) (n_t_letters_sense : Nat) (f_t_letters_sense : Nat → Int32) (i_t_changes_count : Int32) (f_t_changes_letters : Nat → Int32) (p1 : Int32) (p2 : Int32) : Option (Int32 × Int32 × (Nat → Int32)) :=
  (f_X8_isLetter i_t_letters_size p1).bind fun r_1 =>
  if r_1 = 0 then
    some ((-1000000002), i_t_changes_count, f_t_changes_letters)
  else
    (f_X8_listChanges i_t_letters_size i_t_now_law i_t_now_way i_t_spoken_length i_t_spoken_words f_t_spoken_scales n_t_changes_letters n_t_letters_sense f_t_letters_sense i_t_changes_count f_t_changes_letters p1).bind fun (z_4, z_5) =>
    (f_X6_countOrGet z_4 n_t_changes_letters z_5 p2).bind fun r_7 =>
    some (r_7, z_4, z_5)
def f_X8_begin (i_t_letters_size : Int32) (i_t_now_letter : Int32) (i_t_now_turn : Int32) (i_t_now_settled : Int32) (p1 : Int32) (p2 : Int32) : Option (Int32 × Int32 × Int32 × Int32) :=
  (f_X8_isHouse p2).bind fun r_1 =>
  if r_1 = 0 then
    some ((-1000000001), i_t_now_letter, i_t_now_turn, i_t_now_settled)
  else
    (f_X8_isLetter i_t_letters_size p1).bind fun r_4 =>
    if r_4 = 0 then
      some ((-1000000002), i_t_now_letter, i_t_now_turn, i_t_now_settled)
    else
      some (i_t_now_letter, p1, p2, 0)
def f_X8_isChange (i_t_letters_size : Int32) (i_t_now_law : Int32) (i_t_now_way : Int32) (i_t_spoken_length : Int32) (i_t_spoken_words : Int32) (f_t_spoken_scales : Nat → Int32) (n_t_changes_letters : Nat) (n_t_letters_sense : Nat) (f_t_letters_sense : Nat → Int32) (i_t_changes_count : Int32) (f_t_changes_letters : Nat → Int32) (p1 : Int32) (p2 : Int32) : Option (Int32 × Int32 × (Nat → Int32)) :=
  (f_X8_listChanges i_t_letters_size i_t_now_law i_t_now_way i_t_spoken_length i_t_spoken_words f_t_spoken_scales n_t_changes_letters n_t_letters_sense f_t_letters_sense i_t_changes_count f_t_changes_letters p1).bind fun (z_1, z_2) =>
  (f_X6_has z_1 n_t_changes_letters z_2 p2).bind fun r_4 =>
  if zb r_4 = true then
  some (r_4, z_1, z_2)
  else none
def f_X8_send (i_t_letters_size : Int32) (i_t_now_settled : Int32) (i_t_now_law : Int32) (i_t_now_way : Int32) (i_t_spoken_length : Int32) (i_t_spoken_words : Int32) (f_t_spoken_scales : Nat → Int32) (n_t_changes_letters : Nat) (n_t_letters_sense : Nat) (f_t_letters_sense : Nat → Int32) (i_t_now_letter : Int32) (i_t_now_turn : Int32) (i_t_now_sent : Int32) (i_t_changes_count : Int32) (f_t_changes_letters : Nat → Int32) (f_t_now_entries : Nat → Int32) (p1 : Int32) : Option (Int32 × Int32 × Int32 × Int32 × Int32 × (Nat → Int32) × (Nat → Int32)) :=
  (f_X8_isLetter i_t_letters_size p1).bind fun r_1 =>
  if r_1 = 0 then
    some ((-1000000002), i_t_now_letter, i_t_now_turn, i_t_now_sent, i_t_changes_count, f_t_changes_letters, f_t_now_entries)
  else
    if i_t_now_settled = 0 then
      (f_X8_isChange i_t_letters_size i_t_now_law i_t_now_way i_t_spoken_length i_t_spoken_words f_t_spoken_scales n_t_changes_letters n_t_letters_sense f_t_letters_sense i_t_changes_count f_t_changes_letters i_t_now_letter p1).bind fun (r_5, z_6, z_7) =>
      if r_5 = 0 then
        some ((-1000000003), i_t_now_letter, i_t_now_turn, i_t_now_sent, z_6, z_7, f_t_now_entries)
      else
        if i_t_now_sent < 60 then
          (f_X0_pass i_t_now_letter i_t_now_turn i_t_now_sent f_t_now_entries p1).bind fun (z_11, z_12, z_13, z_14) =>
          some (z_12, z_11, z_12, z_13, z_6, z_7, z_14)
        else
          some ((-1000000004), i_t_now_letter, i_t_now_turn, i_t_now_sent, z_6, z_7, f_t_now_entries)
    else
      some ((-1000000003), i_t_now_letter, i_t_now_turn, i_t_now_sent, i_t_changes_count, f_t_changes_letters, f_t_now_entries)
def f_X8_giveBoth_L2 (i_t_now_letter : Int32) (i_t_letters_size : Int32) (n_t_letters_worthToOther : Nat) (f_t_letters_worthToOther : Nat → Int32) (n_t_letters_worthToOne : Nat) (f_t_letters_worthToOne : Nat → Int32) : Nat → Int32 → (Nat → Int32) → Option ((Nat → Int32))
  | 0, _, _ => none
  | n + 1, v1, f_t_now_gained =>
    if 2 ≤ v1 then
      some f_t_now_gained
    else
      if ixb v1 2 = true then
      (f_X3_worthTo i_t_letters_size n_t_letters_worthToOther f_t_letters_worthToOther n_t_letters_worthToOne f_t_letters_worthToOne v1 i_t_now_letter).bind fun r_3 =>
      if ixb v1 2 = true then
      f_X8_giveBoth_L2 i_t_now_letter i_t_letters_size n_t_letters_worthToOther f_t_letters_worthToOther n_t_letters_worthToOne f_t_letters_worthToOne n (v1 + 1) (upd f_t_now_gained (v1 : Int32).toNatClampNeg ((f_t_now_gained (v1 : Int32).toNatClampNeg) + r_3))
      else none
      else none
def f_X8_giveBoth (i_t_now_letter : Int32) (i_t_letters_size : Int32) (n_t_letters_worthToOther : Nat) (f_t_letters_worthToOther : Nat → Int32) (n_t_letters_worthToOne : Nat) (f_t_letters_worthToOne : Nat → Int32) (f_t_now_gained : Nat → Int32) : Option ((Nat → Int32)) :=
  f_X8_giveBoth_L2 i_t_now_letter i_t_letters_size n_t_letters_worthToOther f_t_letters_worthToOther n_t_letters_worthToOne f_t_letters_worthToOne FU 0 f_t_now_gained
def f_X8_settle (i_t_now_letter : Int32) (i_t_now_turn : Int32) (i_t_letters_size : Int32) (n_t_letters_worthToOther : Nat) (f_t_letters_worthToOther : Nat → Int32) (n_t_letters_worthToOne : Nat) (f_t_letters_worthToOne : Nat → Int32) (i_t_now_settled : Int32) (f_t_now_gained : Nat → Int32) : Option (Int32 × Int32 × (Nat → Int32)) :=
  if i_t_now_settled = 0 then
    if i_t_letters_size = 0 then
      some ((-1000000003), i_t_now_settled, f_t_now_gained)
    else
      (f_X8_giveBoth i_t_now_letter i_t_letters_size n_t_letters_worthToOther f_t_letters_worthToOther n_t_letters_worthToOne f_t_letters_worthToOne f_t_now_gained).bind fun z_3 =>
      (f_X3_worthTo i_t_letters_size n_t_letters_worthToOther f_t_letters_worthToOther n_t_letters_worthToOne f_t_letters_worthToOne i_t_now_turn i_t_now_letter).bind fun r_5 =>
      some (r_5, 1, z_3)
  else
    some ((-1000000003), i_t_now_settled, f_t_now_gained)
def f_X8_had (f_t_now_gained : Nat → Int32) (p1 : Int32) : Option (Int32) :=
  (f_X8_isHouse p1).bind fun r_1 =>
  if r_1 = 0 then
    some (-1000000001)
  else
    if ixb p1 2 = true then
    some (f_t_now_gained (p1 : Int32).toNatClampNeg)
    else none
def f_X8_log (i_t_now_sent : Int32) (f_t_now_entries : Nat → Int32) (p1 : Int32) (p2 : Int32) : Option (Int32) :=
  if p2 < 0 then
    some (-1000000002)
  else
    if p2 ≤ 2 then
      (f_X0_entry i_t_now_sent f_t_now_entries p1 p2).bind fun r_3 =>
      some r_3
    else
      some (-1000000002)
def f_X8_fewest (i_t_letters_size : Int32) (i_t_now_law : Int32) (n_t_paths_steps : Nat) (n_t_paths_queue_letters : Nat) (i_t_spoken_length : Int32) (i_t_spoken_words : Int32) (f_t_spoken_scales : Nat → Int32) (n_t_paths_changes_letters : Nat) (n_t_letters_sense : Nat) (f_t_letters_sense : Nat → Int32) (f_t_paths_steps : Nat → Int32) (i_t_paths_queue_count : Int32) (f_t_paths_queue_letters : Nat → Int32) (i_t_paths_changes_count : Int32) (f_t_paths_changes_letters : Nat → Int32) (p1 : Int32) (p2 : Int32) (p3 : Int32) : Option (Int32 × (Nat → Int32) × Int32 × (Nat → Int32) × Int32 × (Nat → Int32)) :=
  (f_X8_isLetter i_t_letters_size p1).bind fun r_1 =>
  if r_1 = 0 then
    some ((-1000000002), f_t_paths_steps, i_t_paths_queue_count, f_t_paths_queue_letters, i_t_paths_changes_count, f_t_paths_changes_letters)
  else
    (f_X8_isLetter i_t_letters_size p2).bind fun r_4 =>
    if r_4 = 0 then
      some ((-1000000002), f_t_paths_steps, i_t_paths_queue_count, f_t_paths_queue_letters, i_t_paths_changes_count, f_t_paths_changes_letters)
    else
      (f_X4_shortest n_t_paths_steps n_t_paths_queue_letters i_t_letters_size i_t_spoken_length i_t_spoken_words f_t_spoken_scales n_t_paths_changes_letters n_t_letters_sense f_t_letters_sense f_t_paths_steps i_t_paths_queue_count f_t_paths_queue_letters i_t_paths_changes_count f_t_paths_changes_letters i_t_now_law p1 p2 p3).bind fun (r_7, z_8, z_9, z_10, z_11, z_12) =>
      some (r_7, z_8, z_9, z_10, z_11, z_12)
def f_X8_stamp (i_t_letters_tongues : Int32) (i_t_now_law : Int32) (i_t_now_way : Int32) : Option (Int32) :=
  some (((i_t_letters_tongues * 6) + (i_t_now_law * 2)) + i_t_now_way)
def f_X8_neitherWouldChange_L25 (i_t_letters_size : Int32) (i_t_now_law : Int32) (i_t_now_way : Int32) (i_t_spoken_length : Int32) (i_t_spoken_words : Int32) (f_t_spoken_scales : Nat → Int32) (n_t_changes_letters : Nat) (n_t_letters_sense : Nat) (f_t_letters_sense : Nat → Int32) (n_t_letters_worthToOther : Nat) (f_t_letters_worthToOther : Nat → Int32) (n_t_letters_worthToOne : Nat) (f_t_letters_worthToOne : Nat → Int32) (K0 : Int32 → Int32 → Int32 → (Nat → Int32) → Option (Int32 × Int32 × (Nat → Int32))) : Nat → Int32 → Int32 → Int32 → Int32 → Int32 → (Nat → Int32) → Option (Int32 × Int32 × (Nat → Int32))
  | 0, _, _, _, _, _, _ => none
  | n + 1, v1, v2, v3, v4, i_t_changes_count, f_t_changes_letters =>
    if i_t_changes_count ≤ v4 then
      K0 v1 v2 i_t_changes_count f_t_changes_letters
    else
      (f_X6_get i_t_changes_count n_t_changes_letters f_t_changes_letters v4).bind fun r_8 =>
      (f_X3_worthTo i_t_letters_size n_t_letters_worthToOther f_t_letters_worthToOther n_t_letters_worthToOne f_t_letters_worthToOne v2 r_8).bind fun r_10 =>
      if r_10 ≤ v3 then
        f_X8_neitherWouldChange_L25 i_t_letters_size i_t_now_law i_t_now_way i_t_spoken_length i_t_spoken_words f_t_spoken_scales n_t_changes_letters n_t_letters_sense f_t_letters_sense n_t_letters_worthToOther f_t_letters_worthToOther n_t_letters_worthToOne f_t_letters_worthToOne K0 n v1 v2 v3 (v4 + 1) i_t_changes_count f_t_changes_letters
      else
        some (0, i_t_changes_count, f_t_changes_letters)
def f_X8_neitherWouldChange_L7 (i_t_letters_size : Int32) (i_t_now_law : Int32) (i_t_now_way : Int32) (i_t_spoken_length : Int32) (i_t_spoken_words : Int32) (f_t_spoken_scales : Nat → Int32) (n_t_changes_letters : Nat) (n_t_letters_sense : Nat) (f_t_letters_sense : Nat → Int32) (n_t_letters_worthToOther : Nat) (f_t_letters_worthToOther : Nat → Int32) (n_t_letters_worthToOne : Nat) (f_t_letters_worthToOne : Nat → Int32) : Nat → Int32 → Int32 → Int32 → (Nat → Int32) → Option (Int32 × Int32 × (Nat → Int32))
  | 0, _, _, _, _ => none
  | n + 1, v1, v2, i_t_changes_count, f_t_changes_letters =>
    if 2 ≤ v2 then
      some (1, i_t_changes_count, f_t_changes_letters)
    else
      (f_X3_worthTo i_t_letters_size n_t_letters_worthToOther f_t_letters_worthToOther n_t_letters_worthToOne f_t_letters_worthToOne v2 v1).bind fun r_5 =>
      f_X8_neitherWouldChange_L25 i_t_letters_size i_t_now_law i_t_now_way i_t_spoken_length i_t_spoken_words f_t_spoken_scales n_t_changes_letters n_t_letters_sense f_t_letters_sense n_t_letters_worthToOther f_t_letters_worthToOther n_t_letters_worthToOne f_t_letters_worthToOne (fun (v1_13 : Int32) (v2_14 : Int32) (z_15 : Int32) (z_16 : Nat → Int32) =>
        f_X8_neitherWouldChange_L7 i_t_letters_size i_t_now_law i_t_now_way i_t_spoken_length i_t_spoken_words f_t_spoken_scales n_t_changes_letters n_t_letters_sense f_t_letters_sense n_t_letters_worthToOther f_t_letters_worthToOther n_t_letters_worthToOne f_t_letters_worthToOne n v1_13 (v2_14 + 1) z_15 z_16) FU v1 v2 r_5 0 i_t_changes_count f_t_changes_letters
def f_X8_neitherWouldChange (i_t_letters_size : Int32) (i_t_now_law : Int32) (i_t_now_way : Int32) (i_t_spoken_length : Int32) (i_t_spoken_words : Int32) (f_t_spoken_scales : Nat → Int32) (n_t_changes_letters : Nat) (n_t_letters_sense : Nat) (f_t_letters_sense : Nat → Int32) (n_t_letters_worthToOther : Nat) (f_t_letters_worthToOther : Nat → Int32) (n_t_letters_worthToOne : Nat) (f_t_letters_worthToOne : Nat → Int32) (i_t_changes_count : Int32) (f_t_changes_letters : Nat → Int32) (p1 : Int32) : Option (Int32 × Int32 × (Nat → Int32)) :=
  (f_X8_listChanges i_t_letters_size i_t_now_law i_t_now_way i_t_spoken_length i_t_spoken_words f_t_spoken_scales n_t_changes_letters n_t_letters_sense f_t_letters_sense i_t_changes_count f_t_changes_letters p1).bind fun (z_1, z_2) =>
  f_X8_neitherWouldChange_L7 i_t_letters_size i_t_now_law i_t_now_way i_t_spoken_length i_t_spoken_words f_t_spoken_scales n_t_changes_letters n_t_letters_sense f_t_letters_sense n_t_letters_worthToOther f_t_letters_worthToOther n_t_letters_worthToOne f_t_letters_worthToOne FU p1 0 z_1 z_2
def f_X8_listStill_L9 (i_t_letters_size : Int32) (n_t_letters_sense : Nat) (f_t_letters_sense : Nat → Int32) (i_t_now_law : Int32) (i_t_now_way : Int32) (i_t_spoken_length : Int32) (i_t_spoken_words : Int32) (f_t_spoken_scales : Nat → Int32) (n_t_changes_letters : Nat) (n_t_letters_worthToOther : Nat) (f_t_letters_worthToOther : Nat → Int32) (n_t_letters_worthToOne : Nat) (f_t_letters_worthToOne : Nat → Int32) (n_t_stillOnes_letters : Nat) : Nat → Int32 → Int32 → Int32 → (Nat → Int32) → (Nat → Int32) → Option (Int32 × Int32 × (Nat → Int32) × (Nat → Int32))
  | 0, _, _, _, _, _ => none
  | n + 1, v1, i_t_stillOnes_count, i_t_changes_count, f_t_changes_letters, f_t_stillOnes_letters =>
    if i_t_letters_size ≤ v1 then
      some (i_t_stillOnes_count, i_t_changes_count, f_t_changes_letters, f_t_stillOnes_letters)
    else
      (f_X3_isSense i_t_letters_size n_t_letters_sense f_t_letters_sense v1).bind fun r_4 =>
      if r_4 = 0 then
        f_X8_listStill_L9 i_t_letters_size n_t_letters_sense f_t_letters_sense i_t_now_law i_t_now_way i_t_spoken_length i_t_spoken_words f_t_spoken_scales n_t_changes_letters n_t_letters_worthToOther f_t_letters_worthToOther n_t_letters_worthToOne f_t_letters_worthToOne n_t_stillOnes_letters n (v1 + 1) i_t_stillOnes_count i_t_changes_count f_t_changes_letters f_t_stillOnes_letters
      else
        (f_X8_neitherWouldChange i_t_letters_size i_t_now_law i_t_now_way i_t_spoken_length i_t_spoken_words f_t_spoken_scales n_t_changes_letters n_t_letters_sense f_t_letters_sense n_t_letters_worthToOther f_t_letters_worthToOther n_t_letters_worthToOne f_t_letters_worthToOne i_t_changes_count f_t_changes_letters v1).bind fun (r_7, z_8, z_9) =>
        if r_7 = 0 then
          f_X8_listStill_L9 i_t_letters_size n_t_letters_sense f_t_letters_sense i_t_now_law i_t_now_way i_t_spoken_length i_t_spoken_words f_t_spoken_scales n_t_changes_letters n_t_letters_worthToOther f_t_letters_worthToOther n_t_letters_worthToOne f_t_letters_worthToOne n_t_stillOnes_letters n (v1 + 1) i_t_stillOnes_count z_8 z_9 f_t_stillOnes_letters
        else
          (f_X6_add n_t_stillOnes_letters i_t_stillOnes_count f_t_stillOnes_letters v1).bind fun (z_12, z_13) =>
          f_X8_listStill_L9 i_t_letters_size n_t_letters_sense f_t_letters_sense i_t_now_law i_t_now_way i_t_spoken_length i_t_spoken_words f_t_spoken_scales n_t_changes_letters n_t_letters_worthToOther f_t_letters_worthToOther n_t_letters_worthToOne f_t_letters_worthToOne n_t_stillOnes_letters n (v1 + 1) z_12 z_8 z_9 z_13
def f_X8_listStill (i_t_letters_size : Int32) (n_t_letters_sense : Nat) (f_t_letters_sense : Nat → Int32) (i_t_now_law : Int32) (i_t_now_way : Int32) (i_t_spoken_length : Int32) (i_t_spoken_words : Int32) (f_t_spoken_scales : Nat → Int32) (n_t_changes_letters : Nat) (n_t_letters_worthToOther : Nat) (f_t_letters_worthToOther : Nat → Int32) (n_t_letters_worthToOne : Nat) (f_t_letters_worthToOne : Nat → Int32) (n_t_stillOnes_letters : Nat) (i_t_stillOnes_count : Int32) (i_t_changes_count : Int32) (f_t_changes_letters : Nat → Int32) (f_t_stillOnes_letters : Nat → Int32) : Option (Int32 × Int32 × (Nat → Int32) × (Nat → Int32)) :=
  (f_X6_empty i_t_stillOnes_count).bind fun z_1 =>
  f_X8_listStill_L9 i_t_letters_size n_t_letters_sense f_t_letters_sense i_t_now_law i_t_now_way i_t_spoken_length i_t_spoken_words f_t_spoken_scales n_t_changes_letters n_t_letters_worthToOther f_t_letters_worthToOther n_t_letters_worthToOne f_t_letters_worthToOne n_t_stillOnes_letters FU 0 z_1 i_t_changes_count f_t_changes_letters f_t_stillOnes_letters
def f_X8_still (i_t_letters_tongues : Int32) (i_t_letters_size : Int32) (i_t_now_law : Int32) (i_t_now_way : Int32) (n_t_stillOnes_letters : Nat) (n_t_letters_sense : Nat) (f_t_letters_sense : Nat → Int32) (i_t_spoken_length : Int32) (i_t_spoken_words : Int32) (f_t_spoken_scales : Nat → Int32) (n_t_changes_letters : Nat) (n_t_letters_worthToOther : Nat) (f_t_letters_worthToOther : Nat → Int32) (n_t_letters_worthToOne : Nat) (f_t_letters_worthToOne : Nat → Int32) (i_t_stillStamp : Int32) (i_t_stillOnes_count : Int32) (f_t_stillOnes_letters : Nat → Int32) (i_t_changes_count : Int32) (f_t_changes_letters : Nat → Int32) (p1 : Int32) : Option (Int32 × Int32 × Int32 × (Nat → Int32) × Int32 × (Nat → Int32)) :=
  (f_X8_stamp i_t_letters_tongues i_t_now_law i_t_now_way).bind fun r_1 =>
  if i_t_stillStamp = r_1 then
    (f_X6_countOrGet i_t_stillOnes_count n_t_stillOnes_letters f_t_stillOnes_letters p1).bind fun r_4 =>
    some (r_4, i_t_stillStamp, i_t_stillOnes_count, f_t_stillOnes_letters, i_t_changes_count, f_t_changes_letters)
  else
    (f_X8_listStill i_t_letters_size n_t_letters_sense f_t_letters_sense i_t_now_law i_t_now_way i_t_spoken_length i_t_spoken_words f_t_spoken_scales n_t_changes_letters n_t_letters_worthToOther f_t_letters_worthToOther n_t_letters_worthToOne f_t_letters_worthToOne n_t_stillOnes_letters i_t_stillOnes_count i_t_changes_count f_t_changes_letters f_t_stillOnes_letters).bind fun (z_6, z_7, z_8, z_9) =>
    (f_X8_stamp i_t_letters_tongues i_t_now_law i_t_now_way).bind fun r_11 =>
    (f_X6_countOrGet z_6 n_t_stillOnes_letters z_9 p1).bind fun r_13 =>
    some (r_13, r_11, z_6, z_9, z_7, z_8)
def f_X8_isMoves (p1 : Int32) : Option (Int32) :=
  if p1 < 0 then
    some 0
  else
    if 8 < p1 then
      some 0
    else
      some 1
def f_X8_carrier_L34 (i_t_letters_size : Int32) (i_t_now_law : Int32) (i_t_now_way : Int32) (i_t_spoken_length : Int32) (i_t_spoken_words : Int32) (f_t_spoken_scales : Nat → Int32) (n_t_changes_letters : Nat) (n_t_letters_sense : Nat) (f_t_letters_sense : Nat → Int32) (n_t_found_letters : Nat) : Nat → Int32 → Int32 → Int32 → Int32 → (Nat → Int32) → Int32 → (Nat → Int32) → Option (Int32 × Int32 × (Nat → Int32) × Int32 × (Nat → Int32))
  | 0, _, _, _, _, _, _, _ => none
  | n + 1, v2, v3, v4, i_t_changes_count, f_t_changes_letters, i_t_found_count, f_t_found_letters =>
    if i_t_changes_count ≤ v4 then
      (f_X6_countOrGet i_t_found_count n_t_found_letters f_t_found_letters v3).bind fun r_13 =>
      some (r_13, i_t_changes_count, f_t_changes_letters, i_t_found_count, f_t_found_letters)
    else
      (f_X6_get i_t_changes_count n_t_changes_letters f_t_changes_letters v4).bind fun r_15 =>
      (f_X7_wordsApart i_t_spoken_length i_t_spoken_words f_t_spoken_scales r_15 v2).bind fun r_17 =>
      if 1 < r_17 then
        f_X8_carrier_L34 i_t_letters_size i_t_now_law i_t_now_way i_t_spoken_length i_t_spoken_words f_t_spoken_scales n_t_changes_letters n_t_letters_sense f_t_letters_sense n_t_found_letters n v2 v3 (v4 + 1) i_t_changes_count f_t_changes_letters i_t_found_count f_t_found_letters
      else
        (f_X6_get i_t_changes_count n_t_changes_letters f_t_changes_letters v4).bind fun r_20 =>
        (f_X6_add n_t_found_letters i_t_found_count f_t_found_letters r_20).bind fun (z_22, z_23) =>
        f_X8_carrier_L34 i_t_letters_size i_t_now_law i_t_now_way i_t_spoken_length i_t_spoken_words f_t_spoken_scales n_t_changes_letters n_t_letters_sense f_t_letters_sense n_t_found_letters n v2 v3 (v4 + 1) i_t_changes_count f_t_changes_letters z_22 z_23
def f_X8_carrier (i_t_letters_size : Int32) (i_t_now_law : Int32) (i_t_now_way : Int32) (i_t_spoken_length : Int32) (i_t_spoken_words : Int32) (f_t_spoken_scales : Nat → Int32) (n_t_changes_letters : Nat) (n_t_letters_sense : Nat) (f_t_letters_sense : Nat → Int32) (n_t_found_letters : Nat) (i_t_changes_count : Int32) (f_t_changes_letters : Nat → Int32) (i_t_found_count : Int32) (f_t_found_letters : Nat → Int32) (p1 : Int32) (p2 : Int32) (p3 : Int32) : Option (Int32 × Int32 × (Nat → Int32) × Int32 × (Nat → Int32)) :=
  (f_X8_isLetter i_t_letters_size p1).bind fun r_1 =>
  if r_1 = 0 then
    some ((-1000000002), i_t_changes_count, f_t_changes_letters, i_t_found_count, f_t_found_letters)
  else
    (f_X8_isLetter i_t_letters_size p2).bind fun r_4 =>
    if r_4 = 0 then
      some ((-1000000002), i_t_changes_count, f_t_changes_letters, i_t_found_count, f_t_found_letters)
    else
      (f_X8_listChanges i_t_letters_size i_t_now_law i_t_now_way i_t_spoken_length i_t_spoken_words f_t_spoken_scales n_t_changes_letters n_t_letters_sense f_t_letters_sense i_t_changes_count f_t_changes_letters p1).bind fun (z_7, z_8) =>
      (f_X6_empty i_t_found_count).bind fun z_10 =>
      f_X8_carrier_L34 i_t_letters_size i_t_now_law i_t_now_way i_t_spoken_length i_t_spoken_words f_t_spoken_scales n_t_changes_letters n_t_letters_sense f_t_letters_sense n_t_found_letters FU p2 p3 0 z_7 z_8 z_10 f_t_found_letters
def f_X8_guess (i_t_guessCount : Int32) (i_t_guesses0_house : Int32) (i_t_guesses1_house : Int32) (i_t_guesses2_house : Int32) (i_t_guesses3_house : Int32) (i_t_guesses4_house : Int32) (i_t_guesses5_house : Int32) (f_t_guesses0_worths : Nat → Int32) (f_t_guesses1_worths : Nat → Int32) (f_t_guesses2_worths : Nat → Int32) (f_t_guesses3_worths : Nat → Int32) (f_t_guesses4_worths : Nat → Int32) (f_t_guesses5_worths : Nat → Int32) (p1 : Int32) : Option (Int32 × Int32 × Int32 × Int32 × Int32 × Int32 × Int32 × Int32 × (Nat → Int32) × (Nat → Int32) × (Nat → Int32) × (Nat → Int32) × (Nat → Int32) × (Nat → Int32)) :=
  (f_X8_isHouse p1).bind fun r_1 =>
  if r_1 = 0 then
    some ((-1000000001), i_t_guessCount, i_t_guesses0_house, i_t_guesses1_house, i_t_guesses2_house, i_t_guesses3_house, i_t_guesses4_house, i_t_guesses5_house, f_t_guesses0_worths, f_t_guesses1_worths, f_t_guesses2_worths, f_t_guesses3_worths, f_t_guesses4_worths, f_t_guesses5_worths)
  else
    if i_t_guessCount < 6 then
      if i_t_guessCount = 0 then
        (f_X2_restart i_t_guesses0_house f_t_guesses0_worths p1).bind fun (z_6, z_7) =>
        some (((i_t_guessCount + 1) - 1), (i_t_guessCount + 1), z_6, i_t_guesses1_house, i_t_guesses2_house, i_t_guesses3_house, i_t_guesses4_house, i_t_guesses5_house, z_7, f_t_guesses1_worths, f_t_guesses2_worths, f_t_guesses3_worths, f_t_guesses4_worths, f_t_guesses5_worths)
      else
        if i_t_guessCount = 1 then
          (f_X2_restart i_t_guesses1_house f_t_guesses1_worths p1).bind fun (z_10, z_11) =>
          some (((i_t_guessCount + 1) - 1), (i_t_guessCount + 1), i_t_guesses0_house, z_10, i_t_guesses2_house, i_t_guesses3_house, i_t_guesses4_house, i_t_guesses5_house, f_t_guesses0_worths, z_11, f_t_guesses2_worths, f_t_guesses3_worths, f_t_guesses4_worths, f_t_guesses5_worths)
        else
          if i_t_guessCount = 2 then
            (f_X2_restart i_t_guesses2_house f_t_guesses2_worths p1).bind fun (z_14, z_15) =>
            some (((i_t_guessCount + 1) - 1), (i_t_guessCount + 1), i_t_guesses0_house, i_t_guesses1_house, z_14, i_t_guesses3_house, i_t_guesses4_house, i_t_guesses5_house, f_t_guesses0_worths, f_t_guesses1_worths, z_15, f_t_guesses3_worths, f_t_guesses4_worths, f_t_guesses5_worths)
          else
            if i_t_guessCount = 3 then
              (f_X2_restart i_t_guesses3_house f_t_guesses3_worths p1).bind fun (z_18, z_19) =>
              some (((i_t_guessCount + 1) - 1), (i_t_guessCount + 1), i_t_guesses0_house, i_t_guesses1_house, i_t_guesses2_house, z_18, i_t_guesses4_house, i_t_guesses5_house, f_t_guesses0_worths, f_t_guesses1_worths, f_t_guesses2_worths, z_19, f_t_guesses4_worths, f_t_guesses5_worths)
            else
              if i_t_guessCount = 4 then
                (f_X2_restart i_t_guesses4_house f_t_guesses4_worths p1).bind fun (z_22, z_23) =>
                some (((i_t_guessCount + 1) - 1), (i_t_guessCount + 1), i_t_guesses0_house, i_t_guesses1_house, i_t_guesses2_house, i_t_guesses3_house, z_22, i_t_guesses5_house, f_t_guesses0_worths, f_t_guesses1_worths, f_t_guesses2_worths, f_t_guesses3_worths, z_23, f_t_guesses5_worths)
              else
                if i_t_guessCount = 5 then
                  (f_X2_restart i_t_guesses5_house f_t_guesses5_worths p1).bind fun (z_26, z_27) =>
                  some (((i_t_guessCount + 1) - 1), (i_t_guessCount + 1), i_t_guesses0_house, i_t_guesses1_house, i_t_guesses2_house, i_t_guesses3_house, i_t_guesses4_house, z_26, f_t_guesses0_worths, f_t_guesses1_worths, f_t_guesses2_worths, f_t_guesses3_worths, f_t_guesses4_worths, z_27)
                else
                  none
    else
      some ((-1000000004), i_t_guessCount, i_t_guesses0_house, i_t_guesses1_house, i_t_guesses2_house, i_t_guesses3_house, i_t_guesses4_house, i_t_guesses5_house, f_t_guesses0_worths, f_t_guesses1_worths, f_t_guesses2_worths, f_t_guesses3_worths, f_t_guesses4_worths, f_t_guesses5_worths)
def f_X8_isGuess (i_t_guessCount : Int32) (p1 : Int32) : Option (Int32) :=
  if p1 < 0 then
    some 0
  else
    if i_t_guessCount ≤ p1 then
      some 0
    else
      some 1
def f_X8_mean (i_t_guessCount : Int32) (i_t_spoken_words : Int32) (f_t_guesses0_worths : Nat → Int32) (f_t_guesses1_worths : Nat → Int32) (f_t_guesses2_worths : Nat → Int32) (f_t_guesses3_worths : Nat → Int32) (f_t_guesses4_worths : Nat → Int32) (f_t_guesses5_worths : Nat → Int32) (p1 : Int32) (p2 : Int32) (p3 : Int32) : Option (Int32 × (Nat → Int32) × (Nat → Int32) × (Nat → Int32) × (Nat → Int32) × (Nat → Int32) × (Nat → Int32)) :=
  (f_X8_isGuess i_t_guessCount p1).bind fun r_1 =>
  if r_1 = 0 then
    some ((-1000000001), f_t_guesses0_worths, f_t_guesses1_worths, f_t_guesses2_worths, f_t_guesses3_worths, f_t_guesses4_worths, f_t_guesses5_worths)
  else
    (f_X8_isWord i_t_spoken_words p2).bind fun r_4 =>
    if r_4 = 0 then
      some ((-1000000001), f_t_guesses0_worths, f_t_guesses1_worths, f_t_guesses2_worths, f_t_guesses3_worths, f_t_guesses4_worths, f_t_guesses5_worths)
    else
      if p3 < (-50) then
        some ((-1000000002), f_t_guesses0_worths, f_t_guesses1_worths, f_t_guesses2_worths, f_t_guesses3_worths, f_t_guesses4_worths, f_t_guesses5_worths)
      else
        if p3 ≤ 49 then
          if p1 = 0 then
            if ixb p2 8 = true then
            if ixb p2 8 = true then
            some ((f_t_guesses0_worths (p2 : Int32).toNatClampNeg), (upd f_t_guesses0_worths (p2 : Int32).toNatClampNeg p3), f_t_guesses1_worths, f_t_guesses2_worths, f_t_guesses3_worths, f_t_guesses4_worths, f_t_guesses5_worths)
            else none
            else none
          else
            if p1 = 1 then
              if ixb p2 8 = true then
              if ixb p2 8 = true then
              some ((f_t_guesses1_worths (p2 : Int32).toNatClampNeg), f_t_guesses0_worths, (upd f_t_guesses1_worths (p2 : Int32).toNatClampNeg p3), f_t_guesses2_worths, f_t_guesses3_worths, f_t_guesses4_worths, f_t_guesses5_worths)
              else none
              else none
            else
              if p1 = 2 then
                if ixb p2 8 = true then
                if ixb p2 8 = true then
                some ((f_t_guesses2_worths (p2 : Int32).toNatClampNeg), f_t_guesses0_worths, f_t_guesses1_worths, (upd f_t_guesses2_worths (p2 : Int32).toNatClampNeg p3), f_t_guesses3_worths, f_t_guesses4_worths, f_t_guesses5_worths)
                else none
                else none
              else
                if p1 = 3 then
                  if ixb p2 8 = true then
                  if ixb p2 8 = true then
                  some ((f_t_guesses3_worths (p2 : Int32).toNatClampNeg), f_t_guesses0_worths, f_t_guesses1_worths, f_t_guesses2_worths, (upd f_t_guesses3_worths (p2 : Int32).toNatClampNeg p3), f_t_guesses4_worths, f_t_guesses5_worths)
                  else none
                  else none
                else
                  if p1 = 4 then
                    if ixb p2 8 = true then
                    if ixb p2 8 = true then
                    some ((f_t_guesses4_worths (p2 : Int32).toNatClampNeg), f_t_guesses0_worths, f_t_guesses1_worths, f_t_guesses2_worths, f_t_guesses3_worths, (upd f_t_guesses4_worths (p2 : Int32).toNatClampNeg p3), f_t_guesses5_worths)
                    else none
                    else none
                  else
                    if p1 = 5 then
                      if ixb p2 8 = true then
                      if ixb p2 8 = true then
                      some ((f_t_guesses5_worths (p2 : Int32).toNatClampNeg), f_t_guesses0_worths, f_t_guesses1_worths, f_t_guesses2_worths, f_t_guesses3_worths, f_t_guesses4_worths, (upd f_t_guesses5_worths (p2 : Int32).toNatClampNeg p3))
                      else none
                      else none
                    else
                      none
        else
          some ((-1000000002), f_t_guesses0_worths, f_t_guesses1_worths, f_t_guesses2_worths, f_t_guesses3_worths, f_t_guesses4_worths, f_t_guesses5_worths)
def f_X8_guessedWorth (i_p1_house : Int32) (i_t_letters_size : Int32) (n_t_letters_sense : Nat) (f_t_letters_sense : Nat → Int32) (i_t_spoken_length : Int32) (i_t_spoken_words : Int32) (f_p1_worths : Nat → Int32) (f_t_spoken_pairWorths0 : Nat → Int32) (f_t_spoken_pairWorths1 : Nat → Int32) (f_t_spoken_scales : Nat → Int32) (f_t_spoken_kinds : Nat → Int32) (p2 : Int32) : Option (Int32) :=
  (f_X3_isSense i_t_letters_size n_t_letters_sense f_t_letters_sense p2).bind fun r_1 =>
  if r_1 = 0 then
    some 0
  else
    (f_X8_isHouse i_p1_house).bind fun r_4 =>
    if r_4 = 0 then
      some 0
    else
      if i_p1_house = 0 then
        (f_X7_weigh i_t_spoken_length i_t_spoken_words 8 f_p1_worths 64 f_t_spoken_pairWorths0 f_t_spoken_scales f_t_spoken_kinds p2).bind fun r_8 =>
        some r_8
      else
        if i_p1_house = 1 then
          (f_X7_weigh i_t_spoken_length i_t_spoken_words 8 f_p1_worths 64 f_t_spoken_pairWorths1 f_t_spoken_scales f_t_spoken_kinds p2).bind fun r_11 =>
          some r_11
        else
          none
def f_X8_explains_L29 (i_p1_house : Int32) (i_t_letters_size : Int32) (n_t_letters_sense : Nat) (f_t_letters_sense : Nat → Int32) (i_t_spoken_length : Int32) (i_t_spoken_words : Int32) (f_p1_worths : Nat → Int32) (f_t_spoken_pairWorths0 : Nat → Int32) (f_t_spoken_pairWorths1 : Nat → Int32) (f_t_spoken_scales : Nat → Int32) (f_t_spoken_kinds : Nat → Int32) (i_t_now_law : Int32) (i_t_now_way : Int32) (n_t_changes_letters : Nat) : Nat → Int32 → Int32 → Int32 → (Nat → Int32) → Option (Int32 × Int32 × (Nat → Int32))
  | 0, _, _, _, _ => none
  | n + 1, v4, v5, i_t_changes_count, f_t_changes_letters =>
    if i_t_changes_count ≤ v5 then
      some (1, i_t_changes_count, f_t_changes_letters)
    else
      (f_X6_get i_t_changes_count n_t_changes_letters f_t_changes_letters v5).bind fun r_10 =>
      (f_X8_guessedWorth i_p1_house i_t_letters_size n_t_letters_sense f_t_letters_sense i_t_spoken_length i_t_spoken_words f_p1_worths f_t_spoken_pairWorths0 f_t_spoken_pairWorths1 f_t_spoken_scales f_t_spoken_kinds r_10).bind fun r_12 =>
      if r_12 ≤ v4 then
        f_X8_explains_L29 i_p1_house i_t_letters_size n_t_letters_sense f_t_letters_sense i_t_spoken_length i_t_spoken_words f_p1_worths f_t_spoken_pairWorths0 f_t_spoken_pairWorths1 f_t_spoken_scales f_t_spoken_kinds i_t_now_law i_t_now_way n_t_changes_letters n v4 (v5 + 1) i_t_changes_count f_t_changes_letters
      else
        some (0, i_t_changes_count, f_t_changes_letters)
def f_X8_explains (i_p1_house : Int32) (i_t_letters_size : Int32) (n_t_letters_sense : Nat) (f_t_letters_sense : Nat → Int32) (i_t_spoken_length : Int32) (i_t_spoken_words : Int32) (f_p1_worths : Nat → Int32) (f_t_spoken_pairWorths0 : Nat → Int32) (f_t_spoken_pairWorths1 : Nat → Int32) (f_t_spoken_scales : Nat → Int32) (f_t_spoken_kinds : Nat → Int32) (i_t_now_law : Int32) (i_t_now_way : Int32) (n_t_changes_letters : Nat) (i_t_changes_count : Int32) (f_t_changes_letters : Nat → Int32) (p2 : Int32) (p3 : Int32) : Option (Int32 × Int32 × (Nat → Int32)) :=
  (f_X8_guessedWorth i_p1_house i_t_letters_size n_t_letters_sense f_t_letters_sense i_t_spoken_length i_t_spoken_words f_p1_worths f_t_spoken_pairWorths0 f_t_spoken_pairWorths1 f_t_spoken_scales f_t_spoken_kinds p3).bind fun r_1 =>
  (f_X8_guessedWorth i_p1_house i_t_letters_size n_t_letters_sense f_t_letters_sense i_t_spoken_length i_t_spoken_words f_p1_worths f_t_spoken_pairWorths0 f_t_spoken_pairWorths1 f_t_spoken_scales f_t_spoken_kinds p2).bind fun r_3 =>
  if r_3 ≤ r_1 then
    (f_X8_listChanges i_t_letters_size i_t_now_law i_t_now_way i_t_spoken_length i_t_spoken_words f_t_spoken_scales n_t_changes_letters n_t_letters_sense f_t_letters_sense i_t_changes_count f_t_changes_letters p2).bind fun (z_6, z_7) =>
    f_X8_explains_L29 i_p1_house i_t_letters_size n_t_letters_sense f_t_letters_sense i_t_spoken_length i_t_spoken_words f_p1_worths f_t_spoken_pairWorths0 f_t_spoken_pairWorths1 f_t_spoken_scales f_t_spoken_kinds i_t_now_law i_t_now_way n_t_changes_letters FU r_1 0 z_6 z_7
  else
    some (0, i_t_changes_count, f_t_changes_letters)
def f_X8_fits_L20 (i_t_guessCount : Int32) (i_t_guesses0_house : Int32) (i_t_guesses1_house : Int32) (i_t_guesses2_house : Int32) (i_t_guesses3_house : Int32) (i_t_guesses4_house : Int32) (i_t_guesses5_house : Int32) (i_t_now_sent : Int32) (i_t_now_law : Int32) (i_t_now_way : Int32) (f_t_now_entries : Nat → Int32) (i_t_letters_size : Int32) (n_t_letters_sense : Nat) (f_t_letters_sense : Nat → Int32) (i_t_spoken_length : Int32) (i_t_spoken_words : Int32) (f_t_guesses0_worths : Nat → Int32) (f_t_spoken_pairWorths0 : Nat → Int32) (f_t_spoken_pairWorths1 : Nat → Int32) (f_t_spoken_scales : Nat → Int32) (f_t_spoken_kinds : Nat → Int32) (n_t_changes_letters : Nat) (f_t_guesses1_worths : Nat → Int32) (f_t_guesses2_worths : Nat → Int32) (f_t_guesses3_worths : Nat → Int32) (f_t_guesses4_worths : Nat → Int32) (f_t_guesses5_worths : Nat → Int32) : Nat → Int32 → Int32 → (Nat → Int32) → Option (Int32 × Int32 × (Nat → Int32))
  | 0, _, _, _ => none
  | n + 1, v3, i_t_changes_count, f_t_changes_letters =>
    if i_t_now_sent ≤ v3 then
      some (1, i_t_changes_count, f_t_changes_letters)
    else
      (f_X0_entry i_t_now_sent f_t_now_entries v3 0).bind fun r_6 =>
      if r_6 = i_t_guesses0_house then
        (f_X0_entry i_t_now_sent f_t_now_entries v3 1).bind fun r_9 =>
        (f_X0_entry i_t_now_sent f_t_now_entries v3 2).bind fun r_11 =>
        (f_X8_explains i_t_guesses0_house i_t_letters_size n_t_letters_sense f_t_letters_sense i_t_spoken_length i_t_spoken_words f_t_guesses0_worths f_t_spoken_pairWorths0 f_t_spoken_pairWorths1 f_t_spoken_scales f_t_spoken_kinds i_t_now_law i_t_now_way n_t_changes_letters i_t_changes_count f_t_changes_letters r_9 r_11).bind fun (r_13, z_14, z_15) =>
        if r_13 = 0 then
          some (0, z_14, z_15)
        else
          f_X8_fits_L20 i_t_guessCount i_t_guesses0_house i_t_guesses1_house i_t_guesses2_house i_t_guesses3_house i_t_guesses4_house i_t_guesses5_house i_t_now_sent i_t_now_law i_t_now_way f_t_now_entries i_t_letters_size n_t_letters_sense f_t_letters_sense i_t_spoken_length i_t_spoken_words f_t_guesses0_worths f_t_spoken_pairWorths0 f_t_spoken_pairWorths1 f_t_spoken_scales f_t_spoken_kinds n_t_changes_letters f_t_guesses1_worths f_t_guesses2_worths f_t_guesses3_worths f_t_guesses4_worths f_t_guesses5_worths n (v3 + 1) z_14 z_15
      else
        f_X8_fits_L20 i_t_guessCount i_t_guesses0_house i_t_guesses1_house i_t_guesses2_house i_t_guesses3_house i_t_guesses4_house i_t_guesses5_house i_t_now_sent i_t_now_law i_t_now_way f_t_now_entries i_t_letters_size n_t_letters_sense f_t_letters_sense i_t_spoken_length i_t_spoken_words f_t_guesses0_worths f_t_spoken_pairWorths0 f_t_spoken_pairWorths1 f_t_spoken_scales f_t_spoken_kinds n_t_changes_letters f_t_guesses1_worths f_t_guesses2_worths f_t_guesses3_worths f_t_guesses4_worths f_t_guesses5_worths n (v3 + 1) i_t_changes_count f_t_changes_letters
def f_X8_fits_L20b (i_t_guessCount : Int32) (i_t_guesses0_house : Int32) (i_t_guesses1_house : Int32) (i_t_guesses2_house : Int32) (i_t_guesses3_house : Int32) (i_t_guesses4_house : Int32) (i_t_guesses5_house : Int32) (i_t_now_sent : Int32) (i_t_now_law : Int32) (i_t_now_way : Int32) (f_t_now_entries : Nat → Int32) (i_t_letters_size : Int32) (n_t_letters_sense : Nat) (f_t_letters_sense : Nat → Int32) (i_t_spoken_length : Int32) (i_t_spoken_words : Int32) (f_t_guesses0_worths : Nat → Int32) (f_t_spoken_pairWorths0 : Nat → Int32) (f_t_spoken_pairWorths1 : Nat → Int32) (f_t_spoken_scales : Nat → Int32) (f_t_spoken_kinds : Nat → Int32) (n_t_changes_letters : Nat) (f_t_guesses1_worths : Nat → Int32) (f_t_guesses2_worths : Nat → Int32) (f_t_guesses3_worths : Nat → Int32) (f_t_guesses4_worths : Nat → Int32) (f_t_guesses5_worths : Nat → Int32) : Nat → Int32 → Int32 → (Nat → Int32) → Option (Int32 × Int32 × (Nat → Int32))
  | 0, _, _, _ => none
  | n + 1, v3, i_t_changes_count, f_t_changes_letters =>
    if i_t_now_sent ≤ v3 then
      some (1, i_t_changes_count, f_t_changes_letters)
    else
      (f_X0_entry i_t_now_sent f_t_now_entries v3 0).bind fun r_20 =>
      if r_20 = i_t_guesses1_house then
        (f_X0_entry i_t_now_sent f_t_now_entries v3 1).bind fun r_23 =>
        (f_X0_entry i_t_now_sent f_t_now_entries v3 2).bind fun r_25 =>
        (f_X8_explains i_t_guesses1_house i_t_letters_size n_t_letters_sense f_t_letters_sense i_t_spoken_length i_t_spoken_words f_t_guesses1_worths f_t_spoken_pairWorths0 f_t_spoken_pairWorths1 f_t_spoken_scales f_t_spoken_kinds i_t_now_law i_t_now_way n_t_changes_letters i_t_changes_count f_t_changes_letters r_23 r_25).bind fun (r_27, z_28, z_29) =>
        if r_27 = 0 then
          some (0, z_28, z_29)
        else
          f_X8_fits_L20b i_t_guessCount i_t_guesses0_house i_t_guesses1_house i_t_guesses2_house i_t_guesses3_house i_t_guesses4_house i_t_guesses5_house i_t_now_sent i_t_now_law i_t_now_way f_t_now_entries i_t_letters_size n_t_letters_sense f_t_letters_sense i_t_spoken_length i_t_spoken_words f_t_guesses0_worths f_t_spoken_pairWorths0 f_t_spoken_pairWorths1 f_t_spoken_scales f_t_spoken_kinds n_t_changes_letters f_t_guesses1_worths f_t_guesses2_worths f_t_guesses3_worths f_t_guesses4_worths f_t_guesses5_worths n (v3 + 1) z_28 z_29
      else
        f_X8_fits_L20b i_t_guessCount i_t_guesses0_house i_t_guesses1_house i_t_guesses2_house i_t_guesses3_house i_t_guesses4_house i_t_guesses5_house i_t_now_sent i_t_now_law i_t_now_way f_t_now_entries i_t_letters_size n_t_letters_sense f_t_letters_sense i_t_spoken_length i_t_spoken_words f_t_guesses0_worths f_t_spoken_pairWorths0 f_t_spoken_pairWorths1 f_t_spoken_scales f_t_spoken_kinds n_t_changes_letters f_t_guesses1_worths f_t_guesses2_worths f_t_guesses3_worths f_t_guesses4_worths f_t_guesses5_worths n (v3 + 1) i_t_changes_count f_t_changes_letters
def f_X8_fits_L20c (i_t_guessCount : Int32) (i_t_guesses0_house : Int32) (i_t_guesses1_house : Int32) (i_t_guesses2_house : Int32) (i_t_guesses3_house : Int32) (i_t_guesses4_house : Int32) (i_t_guesses5_house : Int32) (i_t_now_sent : Int32) (i_t_now_law : Int32) (i_t_now_way : Int32) (f_t_now_entries : Nat → Int32) (i_t_letters_size : Int32) (n_t_letters_sense : Nat) (f_t_letters_sense : Nat → Int32) (i_t_spoken_length : Int32) (i_t_spoken_words : Int32) (f_t_guesses0_worths : Nat → Int32) (f_t_spoken_pairWorths0 : Nat → Int32) (f_t_spoken_pairWorths1 : Nat → Int32) (f_t_spoken_scales : Nat → Int32) (f_t_spoken_kinds : Nat → Int32) (n_t_changes_letters : Nat) (f_t_guesses1_worths : Nat → Int32) (f_t_guesses2_worths : Nat → Int32) (f_t_guesses3_worths : Nat → Int32) (f_t_guesses4_worths : Nat → Int32) (f_t_guesses5_worths : Nat → Int32) : Nat → Int32 → Int32 → (Nat → Int32) → Option (Int32 × Int32 × (Nat → Int32))
  | 0, _, _, _ => none
  | n + 1, v3, i_t_changes_count, f_t_changes_letters =>
    if i_t_now_sent ≤ v3 then
      some (1, i_t_changes_count, f_t_changes_letters)
    else
      (f_X0_entry i_t_now_sent f_t_now_entries v3 0).bind fun r_34 =>
      if r_34 = i_t_guesses2_house then
        (f_X0_entry i_t_now_sent f_t_now_entries v3 1).bind fun r_37 =>
        (f_X0_entry i_t_now_sent f_t_now_entries v3 2).bind fun r_39 =>
        (f_X8_explains i_t_guesses2_house i_t_letters_size n_t_letters_sense f_t_letters_sense i_t_spoken_length i_t_spoken_words f_t_guesses2_worths f_t_spoken_pairWorths0 f_t_spoken_pairWorths1 f_t_spoken_scales f_t_spoken_kinds i_t_now_law i_t_now_way n_t_changes_letters i_t_changes_count f_t_changes_letters r_37 r_39).bind fun (r_41, z_42, z_43) =>
        if r_41 = 0 then
          some (0, z_42, z_43)
        else
          f_X8_fits_L20c i_t_guessCount i_t_guesses0_house i_t_guesses1_house i_t_guesses2_house i_t_guesses3_house i_t_guesses4_house i_t_guesses5_house i_t_now_sent i_t_now_law i_t_now_way f_t_now_entries i_t_letters_size n_t_letters_sense f_t_letters_sense i_t_spoken_length i_t_spoken_words f_t_guesses0_worths f_t_spoken_pairWorths0 f_t_spoken_pairWorths1 f_t_spoken_scales f_t_spoken_kinds n_t_changes_letters f_t_guesses1_worths f_t_guesses2_worths f_t_guesses3_worths f_t_guesses4_worths f_t_guesses5_worths n (v3 + 1) z_42 z_43
      else
        f_X8_fits_L20c i_t_guessCount i_t_guesses0_house i_t_guesses1_house i_t_guesses2_house i_t_guesses3_house i_t_guesses4_house i_t_guesses5_house i_t_now_sent i_t_now_law i_t_now_way f_t_now_entries i_t_letters_size n_t_letters_sense f_t_letters_sense i_t_spoken_length i_t_spoken_words f_t_guesses0_worths f_t_spoken_pairWorths0 f_t_spoken_pairWorths1 f_t_spoken_scales f_t_spoken_kinds n_t_changes_letters f_t_guesses1_worths f_t_guesses2_worths f_t_guesses3_worths f_t_guesses4_worths f_t_guesses5_worths n (v3 + 1) i_t_changes_count f_t_changes_letters
def f_X8_fits_L20d (i_t_guessCount : Int32) (i_t_guesses0_house : Int32) (i_t_guesses1_house : Int32) (i_t_guesses2_house : Int32) (i_t_guesses3_house : Int32) (i_t_guesses4_house : Int32) (i_t_guesses5_house : Int32) (i_t_now_sent : Int32) (i_t_now_law : Int32) (i_t_now_way : Int32) (f_t_now_entries : Nat → Int32) (i_t_letters_size : Int32) (n_t_letters_sense : Nat) (f_t_letters_sense : Nat → Int32) (i_t_spoken_length : Int32) (i_t_spoken_words : Int32) (f_t_guesses0_worths : Nat → Int32) (f_t_spoken_pairWorths0 : Nat → Int32) (f_t_spoken_pairWorths1 : Nat → Int32) (f_t_spoken_scales : Nat → Int32) (f_t_spoken_kinds : Nat → Int32) (n_t_changes_letters : Nat) (f_t_guesses1_worths : Nat → Int32) (f_t_guesses2_worths : Nat → Int32) (f_t_guesses3_worths : Nat → Int32) (f_t_guesses4_worths : Nat → Int32) (f_t_guesses5_worths : Nat → Int32) : Nat → Int32 → Int32 → (Nat → Int32) → Option (Int32 × Int32 × (Nat → Int32))
  | 0, _, _, _ => none
  | n + 1, v3, i_t_changes_count, f_t_changes_letters =>
    if i_t_now_sent ≤ v3 then
      some (1, i_t_changes_count, f_t_changes_letters)
    else
      (f_X0_entry i_t_now_sent f_t_now_entries v3 0).bind fun r_48 =>
      if r_48 = i_t_guesses3_house then
        (f_X0_entry i_t_now_sent f_t_now_entries v3 1).bind fun r_51 =>
        (f_X0_entry i_t_now_sent f_t_now_entries v3 2).bind fun r_53 =>
        (f_X8_explains i_t_guesses3_house i_t_letters_size n_t_letters_sense f_t_letters_sense i_t_spoken_length i_t_spoken_words f_t_guesses3_worths f_t_spoken_pairWorths0 f_t_spoken_pairWorths1 f_t_spoken_scales f_t_spoken_kinds i_t_now_law i_t_now_way n_t_changes_letters i_t_changes_count f_t_changes_letters r_51 r_53).bind fun (r_55, z_56, z_57) =>
        if r_55 = 0 then
          some (0, z_56, z_57)
        else
          f_X8_fits_L20d i_t_guessCount i_t_guesses0_house i_t_guesses1_house i_t_guesses2_house i_t_guesses3_house i_t_guesses4_house i_t_guesses5_house i_t_now_sent i_t_now_law i_t_now_way f_t_now_entries i_t_letters_size n_t_letters_sense f_t_letters_sense i_t_spoken_length i_t_spoken_words f_t_guesses0_worths f_t_spoken_pairWorths0 f_t_spoken_pairWorths1 f_t_spoken_scales f_t_spoken_kinds n_t_changes_letters f_t_guesses1_worths f_t_guesses2_worths f_t_guesses3_worths f_t_guesses4_worths f_t_guesses5_worths n (v3 + 1) z_56 z_57
      else
        f_X8_fits_L20d i_t_guessCount i_t_guesses0_house i_t_guesses1_house i_t_guesses2_house i_t_guesses3_house i_t_guesses4_house i_t_guesses5_house i_t_now_sent i_t_now_law i_t_now_way f_t_now_entries i_t_letters_size n_t_letters_sense f_t_letters_sense i_t_spoken_length i_t_spoken_words f_t_guesses0_worths f_t_spoken_pairWorths0 f_t_spoken_pairWorths1 f_t_spoken_scales f_t_spoken_kinds n_t_changes_letters f_t_guesses1_worths f_t_guesses2_worths f_t_guesses3_worths f_t_guesses4_worths f_t_guesses5_worths n (v3 + 1) i_t_changes_count f_t_changes_letters
def f_X8_fits_L20e (i_t_guessCount : Int32) (i_t_guesses0_house : Int32) (i_t_guesses1_house : Int32) (i_t_guesses2_house : Int32) (i_t_guesses3_house : Int32) (i_t_guesses4_house : Int32) (i_t_guesses5_house : Int32) (i_t_now_sent : Int32) (i_t_now_law : Int32) (i_t_now_way : Int32) (f_t_now_entries : Nat → Int32) (i_t_letters_size : Int32) (n_t_letters_sense : Nat) (f_t_letters_sense : Nat → Int32) (i_t_spoken_length : Int32) (i_t_spoken_words : Int32) (f_t_guesses0_worths : Nat → Int32) (f_t_spoken_pairWorths0 : Nat → Int32) (f_t_spoken_pairWorths1 : Nat → Int32) (f_t_spoken_scales : Nat → Int32) (f_t_spoken_kinds : Nat → Int32) (n_t_changes_letters : Nat) (f_t_guesses1_worths : Nat → Int32) (f_t_guesses2_worths : Nat → Int32) (f_t_guesses3_worths : Nat → Int32) (f_t_guesses4_worths : Nat → Int32) (f_t_guesses5_worths : Nat → Int32) : Nat → Int32 → Int32 → (Nat → Int32) → Option (Int32 × Int32 × (Nat → Int32))
  | 0, _, _, _ => none
  | n + 1, v3, i_t_changes_count, f_t_changes_letters =>
    if i_t_now_sent ≤ v3 then
      some (1, i_t_changes_count, f_t_changes_letters)
    else
      (f_X0_entry i_t_now_sent f_t_now_entries v3 0).bind fun r_62 =>
      if r_62 = i_t_guesses4_house then
        (f_X0_entry i_t_now_sent f_t_now_entries v3 1).bind fun r_65 =>
        (f_X0_entry i_t_now_sent f_t_now_entries v3 2).bind fun r_67 =>
        (f_X8_explains i_t_guesses4_house i_t_letters_size n_t_letters_sense f_t_letters_sense i_t_spoken_length i_t_spoken_words f_t_guesses4_worths f_t_spoken_pairWorths0 f_t_spoken_pairWorths1 f_t_spoken_scales f_t_spoken_kinds i_t_now_law i_t_now_way n_t_changes_letters i_t_changes_count f_t_changes_letters r_65 r_67).bind fun (r_69, z_70, z_71) =>
        if r_69 = 0 then
          some (0, z_70, z_71)
        else
          f_X8_fits_L20e i_t_guessCount i_t_guesses0_house i_t_guesses1_house i_t_guesses2_house i_t_guesses3_house i_t_guesses4_house i_t_guesses5_house i_t_now_sent i_t_now_law i_t_now_way f_t_now_entries i_t_letters_size n_t_letters_sense f_t_letters_sense i_t_spoken_length i_t_spoken_words f_t_guesses0_worths f_t_spoken_pairWorths0 f_t_spoken_pairWorths1 f_t_spoken_scales f_t_spoken_kinds n_t_changes_letters f_t_guesses1_worths f_t_guesses2_worths f_t_guesses3_worths f_t_guesses4_worths f_t_guesses5_worths n (v3 + 1) z_70 z_71
      else
        f_X8_fits_L20e i_t_guessCount i_t_guesses0_house i_t_guesses1_house i_t_guesses2_house i_t_guesses3_house i_t_guesses4_house i_t_guesses5_house i_t_now_sent i_t_now_law i_t_now_way f_t_now_entries i_t_letters_size n_t_letters_sense f_t_letters_sense i_t_spoken_length i_t_spoken_words f_t_guesses0_worths f_t_spoken_pairWorths0 f_t_spoken_pairWorths1 f_t_spoken_scales f_t_spoken_kinds n_t_changes_letters f_t_guesses1_worths f_t_guesses2_worths f_t_guesses3_worths f_t_guesses4_worths f_t_guesses5_worths n (v3 + 1) i_t_changes_count f_t_changes_letters
def f_X8_fits_L20f (i_t_guessCount : Int32) (i_t_guesses0_house : Int32) (i_t_guesses1_house : Int32) (i_t_guesses2_house : Int32) (i_t_guesses3_house : Int32) (i_t_guesses4_house : Int32) (i_t_guesses5_house : Int32) (i_t_now_sent : Int32) (i_t_now_law : Int32) (i_t_now_way : Int32) (f_t_now_entries : Nat → Int32) (i_t_letters_size : Int32) (n_t_letters_sense : Nat) (f_t_letters_sense : Nat → Int32) (i_t_spoken_length : Int32) (i_t_spoken_words : Int32) (f_t_guesses0_worths : Nat → Int32) (f_t_spoken_pairWorths0 : Nat → Int32) (f_t_spoken_pairWorths1 : Nat → Int32) (f_t_spoken_scales : Nat → Int32) (f_t_spoken_kinds : Nat → Int32) (n_t_changes_letters : Nat) (f_t_guesses1_worths : Nat → Int32) (f_t_guesses2_worths : Nat → Int32) (f_t_guesses3_worths : Nat → Int32) (f_t_guesses4_worths : Nat → Int32) (f_t_guesses5_worths : Nat → Int32) : Nat → Int32 → Int32 → (Nat → Int32) → Option (Int32 × Int32 × (Nat → Int32))
  | 0, _, _, _ => none
  | n + 1, v3, i_t_changes_count, f_t_changes_letters =>
    if i_t_now_sent ≤ v3 then
      some (1, i_t_changes_count, f_t_changes_letters)
    else
      (f_X0_entry i_t_now_sent f_t_now_entries v3 0).bind fun r_76 =>
      if r_76 = i_t_guesses5_house then
        (f_X0_entry i_t_now_sent f_t_now_entries v3 1).bind fun r_79 =>
        (f_X0_entry i_t_now_sent f_t_now_entries v3 2).bind fun r_81 =>
        (f_X8_explains i_t_guesses5_house i_t_letters_size n_t_letters_sense f_t_letters_sense i_t_spoken_length i_t_spoken_words f_t_guesses5_worths f_t_spoken_pairWorths0 f_t_spoken_pairWorths1 f_t_spoken_scales f_t_spoken_kinds i_t_now_law i_t_now_way n_t_changes_letters i_t_changes_count f_t_changes_letters r_79 r_81).bind fun (r_83, z_84, z_85) =>
        if r_83 = 0 then
          some (0, z_84, z_85)
        else
          f_X8_fits_L20f i_t_guessCount i_t_guesses0_house i_t_guesses1_house i_t_guesses2_house i_t_guesses3_house i_t_guesses4_house i_t_guesses5_house i_t_now_sent i_t_now_law i_t_now_way f_t_now_entries i_t_letters_size n_t_letters_sense f_t_letters_sense i_t_spoken_length i_t_spoken_words f_t_guesses0_worths f_t_spoken_pairWorths0 f_t_spoken_pairWorths1 f_t_spoken_scales f_t_spoken_kinds n_t_changes_letters f_t_guesses1_worths f_t_guesses2_worths f_t_guesses3_worths f_t_guesses4_worths f_t_guesses5_worths n (v3 + 1) z_84 z_85
      else
        f_X8_fits_L20f i_t_guessCount i_t_guesses0_house i_t_guesses1_house i_t_guesses2_house i_t_guesses3_house i_t_guesses4_house i_t_guesses5_house i_t_now_sent i_t_now_law i_t_now_way f_t_now_entries i_t_letters_size n_t_letters_sense f_t_letters_sense i_t_spoken_length i_t_spoken_words f_t_guesses0_worths f_t_spoken_pairWorths0 f_t_spoken_pairWorths1 f_t_spoken_scales f_t_spoken_kinds n_t_changes_letters f_t_guesses1_worths f_t_guesses2_worths f_t_guesses3_worths f_t_guesses4_worths f_t_guesses5_worths n (v3 + 1) i_t_changes_count f_t_changes_letters
def f_X8_fits (i_t_guessCount : Int32) (i_t_guesses0_house : Int32) (i_t_guesses1_house : Int32) (i_t_guesses2_house : Int32) (i_t_guesses3_house : Int32) (i_t_guesses4_house : Int32) (i_t_guesses5_house : Int32) (i_t_now_sent : Int32) (i_t_now_law : Int32) (i_t_now_way : Int32) (f_t_now_entries : Nat → Int32) (i_t_letters_size : Int32) (n_t_letters_sense : Nat) (f_t_letters_sense : Nat → Int32) (i_t_spoken_length : Int32) (i_t_spoken_words : Int32) (f_t_guesses0_worths : Nat → Int32) (f_t_spoken_pairWorths0 : Nat → Int32) (f_t_spoken_pairWorths1 : Nat → Int32) (f_t_spoken_scales : Nat → Int32) (f_t_spoken_kinds : Nat → Int32) (n_t_changes_letters : Nat) (f_t_guesses1_worths : Nat → Int32) (f_t_guesses2_worths : Nat → Int32) (f_t_guesses3_worths : Nat → Int32) (f_t_guesses4_worths : Nat → Int32) (f_t_guesses5_worths : Nat → Int32) (i_t_changes_count : Int32) (f_t_changes_letters : Nat → Int32) (p1 : Int32) : Option (Int32 × Int32 × (Nat → Int32)) :=
  (f_X8_isGuess i_t_guessCount p1).bind fun r_1 =>
  if r_1 = 0 then
    some ((-1000000001), i_t_changes_count, f_t_changes_letters)
  else
    if p1 = 0 then
      f_X8_fits_L20 i_t_guessCount i_t_guesses0_house i_t_guesses1_house i_t_guesses2_house i_t_guesses3_house i_t_guesses4_house i_t_guesses5_house i_t_now_sent i_t_now_law i_t_now_way f_t_now_entries i_t_letters_size n_t_letters_sense f_t_letters_sense i_t_spoken_length i_t_spoken_words f_t_guesses0_worths f_t_spoken_pairWorths0 f_t_spoken_pairWorths1 f_t_spoken_scales f_t_spoken_kinds n_t_changes_letters f_t_guesses1_worths f_t_guesses2_worths f_t_guesses3_worths f_t_guesses4_worths f_t_guesses5_worths FU 0 i_t_changes_count f_t_changes_letters
    else
      if p1 = 1 then
        f_X8_fits_L20b i_t_guessCount i_t_guesses0_house i_t_guesses1_house i_t_guesses2_house i_t_guesses3_house i_t_guesses4_house i_t_guesses5_house i_t_now_sent i_t_now_law i_t_now_way f_t_now_entries i_t_letters_size n_t_letters_sense f_t_letters_sense i_t_spoken_length i_t_spoken_words f_t_guesses0_worths f_t_spoken_pairWorths0 f_t_spoken_pairWorths1 f_t_spoken_scales f_t_spoken_kinds n_t_changes_letters f_t_guesses1_worths f_t_guesses2_worths f_t_guesses3_worths f_t_guesses4_worths f_t_guesses5_worths FU 0 i_t_changes_count f_t_changes_letters
      else
        if p1 = 2 then
          f_X8_fits_L20c i_t_guessCount i_t_guesses0_house i_t_guesses1_house i_t_guesses2_house i_t_guesses3_house i_t_guesses4_house i_t_guesses5_house i_t_now_sent i_t_now_law i_t_now_way f_t_now_entries i_t_letters_size n_t_letters_sense f_t_letters_sense i_t_spoken_length i_t_spoken_words f_t_guesses0_worths f_t_spoken_pairWorths0 f_t_spoken_pairWorths1 f_t_spoken_scales f_t_spoken_kinds n_t_changes_letters f_t_guesses1_worths f_t_guesses2_worths f_t_guesses3_worths f_t_guesses4_worths f_t_guesses5_worths FU 0 i_t_changes_count f_t_changes_letters
        else
          if p1 = 3 then
            f_X8_fits_L20d i_t_guessCount i_t_guesses0_house i_t_guesses1_house i_t_guesses2_house i_t_guesses3_house i_t_guesses4_house i_t_guesses5_house i_t_now_sent i_t_now_law i_t_now_way f_t_now_entries i_t_letters_size n_t_letters_sense f_t_letters_sense i_t_spoken_length i_t_spoken_words f_t_guesses0_worths f_t_spoken_pairWorths0 f_t_spoken_pairWorths1 f_t_spoken_scales f_t_spoken_kinds n_t_changes_letters f_t_guesses1_worths f_t_guesses2_worths f_t_guesses3_worths f_t_guesses4_worths f_t_guesses5_worths FU 0 i_t_changes_count f_t_changes_letters
          else
            if p1 = 4 then
              f_X8_fits_L20e i_t_guessCount i_t_guesses0_house i_t_guesses1_house i_t_guesses2_house i_t_guesses3_house i_t_guesses4_house i_t_guesses5_house i_t_now_sent i_t_now_law i_t_now_way f_t_now_entries i_t_letters_size n_t_letters_sense f_t_letters_sense i_t_spoken_length i_t_spoken_words f_t_guesses0_worths f_t_spoken_pairWorths0 f_t_spoken_pairWorths1 f_t_spoken_scales f_t_spoken_kinds n_t_changes_letters f_t_guesses1_worths f_t_guesses2_worths f_t_guesses3_worths f_t_guesses4_worths f_t_guesses5_worths FU 0 i_t_changes_count f_t_changes_letters
            else
              if p1 = 5 then
                f_X8_fits_L20f i_t_guessCount i_t_guesses0_house i_t_guesses1_house i_t_guesses2_house i_t_guesses3_house i_t_guesses4_house i_t_guesses5_house i_t_now_sent i_t_now_law i_t_now_way f_t_now_entries i_t_letters_size n_t_letters_sense f_t_letters_sense i_t_spoken_length i_t_spoken_words f_t_guesses0_worths f_t_spoken_pairWorths0 f_t_spoken_pairWorths1 f_t_spoken_scales f_t_spoken_kinds n_t_changes_letters f_t_guesses1_worths f_t_guesses2_worths f_t_guesses3_worths f_t_guesses4_worths f_t_guesses5_worths FU 0 i_t_changes_count f_t_changes_letters
              else
                none
def f_X8_write (i_t_letters_size : Int32) (n_t_book_letters : Nat) (i_t_book_count : Int32) (f_t_book_letters : Nat → Int32) (p1 : Int32) : Option (Int32 × Int32 × (Nat → Int32)) :=
  (f_X8_isLetter i_t_letters_size p1).bind fun r_1 =>
  if r_1 = 0 then
    some ((-1000000002), i_t_book_count, f_t_book_letters)
  else
    if i_t_book_count < 30 then
      (f_X6_add n_t_book_letters i_t_book_count f_t_book_letters p1).bind fun (z_5, z_6) =>
      some (z_5, z_5, z_6)
    else
      some ((-1000000004), i_t_book_count, f_t_book_letters)
def f_X8_tear (i_t_guessCount : Int32) (i_t_book_count : Int32) : Option (Int32 × Int32 × Int32) :=
  (f_X6_empty i_t_book_count).bind fun z_1 =>
  some ((i_t_book_count + i_t_guessCount), 0, z_1)
def f_X8_judge_L2 (i_t_book_count : Int32) (n_t_book_letters : Nat) (f_t_book_letters : Nat → Int32) (i_t_letters_size : Int32) (i_t_now_law : Int32) (i_t_now_way : Int32) (i_t_spoken_length : Int32) (i_t_spoken_words : Int32) (f_t_spoken_scales : Nat → Int32) (n_t_changes_letters : Nat) (n_t_letters_sense : Nat) (f_t_letters_sense : Nat → Int32) : Nat → Int32 → Int32 → (Nat → Int32) → Option (Int32 × Int32 × (Nat → Int32))
  | 0, _, _, _ => none
  | n + 1, v1, i_t_changes_count, f_t_changes_letters =>
    if i_t_book_count ≤ v1 then
      some ((-1), i_t_changes_count, f_t_changes_letters)
    else
      (f_X6_get i_t_book_count n_t_book_letters f_t_book_letters (v1 - 1)).bind fun r_2 =>
      (f_X6_get i_t_book_count n_t_book_letters f_t_book_letters v1).bind fun r_4 =>
      (f_X8_isChange i_t_letters_size i_t_now_law i_t_now_way i_t_spoken_length i_t_spoken_words f_t_spoken_scales n_t_changes_letters n_t_letters_sense f_t_letters_sense i_t_changes_count f_t_changes_letters r_2 r_4).bind fun (r_6, z_7, z_8) =>
      if r_6 = 0 then
        some (v1, z_7, z_8)
      else
        f_X8_judge_L2 i_t_book_count n_t_book_letters f_t_book_letters i_t_letters_size i_t_now_law i_t_now_way i_t_spoken_length i_t_spoken_words f_t_spoken_scales n_t_changes_letters n_t_letters_sense f_t_letters_sense n (v1 + 1) z_7 z_8
def f_X8_judge (i_t_book_count : Int32) (n_t_book_letters : Nat) (f_t_book_letters : Nat → Int32) (i_t_letters_size : Int32) (i_t_now_law : Int32) (i_t_now_way : Int32) (i_t_spoken_length : Int32) (i_t_spoken_words : Int32) (f_t_spoken_scales : Nat → Int32) (n_t_changes_letters : Nat) (n_t_letters_sense : Nat) (f_t_letters_sense : Nat → Int32) (i_t_changes_count : Int32) (f_t_changes_letters : Nat → Int32) : Option (Int32 × Int32 × (Nat → Int32)) :=
  f_X8_judge_L2 i_t_book_count n_t_book_letters f_t_book_letters i_t_letters_size i_t_now_law i_t_now_way i_t_spoken_length i_t_spoken_words f_t_spoken_scales n_t_changes_letters n_t_letters_sense f_t_letters_sense FU 1 i_t_changes_count f_t_changes_letters
def f_X8_sendWhatPays (i_t_foresight_law : Int32) (i_t_foresight_nonsense : Int32) (i_t_foresight_stamp : Int32) (i_t_letters_size : Int32) (n_t_foresight_memory : Nat) (n_t_letters_worthToOther : Nat) (f_t_letters_worthToOther : Nat → Int32) (n_t_letters_worthToOne : Nat) (f_t_letters_worthToOne : Nat → Int32) (i_t_spoken_length : Int32) (i_t_spoken_words : Int32) (f_t_spoken_scales : Nat → Int32) (n_t_foresight_rows2_letters : Nat) (n_t_letters_sense : Nat) (f_t_letters_sense : Nat → Int32) (n_t_foresight_rows1_letters : Nat) (i_t_now_letter : Int32) (i_t_now_turn : Int32) (i_t_now_sent : Int32) (f_t_foresight_memory : Nat → Int32) (i_t_foresight_rows2_count : Int32) (f_t_foresight_rows2_letters : Nat → Int32) (i_t_foresight_rows1_count : Int32) (f_t_foresight_rows1_letters : Nat → Int32) (f_t_now_entries : Nat → Int32) (f_t_now_gained : Nat → Int32) : Option (Int32 × Int32 × Int32 × (Nat → Int32) × Int32 × (Nat → Int32) × Int32 × (Nat → Int32) × (Nat → Int32) × (Nat → Int32)) :=
  (f_X1_firstSent_s2 i_t_foresight_law i_t_foresight_nonsense i_t_foresight_stamp i_t_letters_size n_t_foresight_memory n_t_letters_worthToOther f_t_letters_worthToOther n_t_letters_worthToOne f_t_letters_worthToOne i_t_spoken_length i_t_spoken_words f_t_spoken_scales n_t_foresight_rows2_letters n_t_letters_sense f_t_letters_sense n_t_foresight_rows1_letters f_t_foresight_memory i_t_foresight_rows2_count f_t_foresight_rows2_letters i_t_foresight_rows1_count f_t_foresight_rows1_letters i_t_now_letter i_t_now_turn).bind fun (r_1, z_2, z_3, z_4, z_5, z_6) =>
  if r_1 = (-1) then
    (f_X8_giveBoth i_t_now_letter i_t_letters_size n_t_letters_worthToOther f_t_letters_worthToOther n_t_letters_worthToOne f_t_letters_worthToOne f_t_now_gained).bind fun z_14 =>
    some (i_t_now_letter, (1 - i_t_now_turn), i_t_now_sent, z_2, z_3, z_4, z_5, z_6, f_t_now_entries, z_14)
  else
    (f_X0_pass i_t_now_letter i_t_now_turn i_t_now_sent f_t_now_entries r_1).bind fun (z_9, z_10, z_11, z_12) =>
    some (z_9, z_10, z_11, z_2, z_3, z_4, z_5, z_6, z_12, f_t_now_gained)
def f_X8_sendAnyChange (i_t_now_law : Int32) (i_t_now_way : Int32) (i_t_letters_size : Int32) (i_t_spoken_length : Int32) (i_t_spoken_words : Int32) (f_t_spoken_scales : Nat → Int32) (n_t_changes_letters : Nat) (n_t_letters_sense : Nat) (f_t_letters_sense : Nat → Int32) (i_t_now_letter : Int32) (i_t_now_turn : Int32) (i_t_now_sent : Int32) (i_t_now_seed : Int32) (i_t_changes_count : Int32) (f_t_changes_letters : Nat → Int32) (f_t_now_entries : Nat → Int32) : Option (Int32 × Int32 × Int32 × Int32 × Int32 × (Nat → Int32) × (Nat → Int32)) :=
  (f_X8_listChanges i_t_letters_size i_t_now_law i_t_now_way i_t_spoken_length i_t_spoken_words f_t_spoken_scales n_t_changes_letters n_t_letters_sense f_t_letters_sense i_t_changes_count f_t_changes_letters i_t_now_letter).bind fun (z_1, z_2) =>
  if z_1 ≤ 0 then
    some (i_t_now_letter, i_t_now_turn, i_t_now_sent, i_t_now_seed, z_1, z_2, f_t_now_entries)
  else
    (f_X0_draw i_t_now_seed z_1).bind fun (r_5, z_6) =>
    (f_X6_get z_1 n_t_changes_letters z_2 r_5).bind fun r_8 =>
    (f_X0_pass i_t_now_letter i_t_now_turn i_t_now_sent f_t_now_entries r_8).bind fun (z_10, z_11, z_12, z_13) =>
    some (z_10, z_11, z_12, z_6, z_1, z_2, z_13)
def f_X8_drift_L73 (i_t_letters_tongues : Int32) (i_t_letters_size : Int32) (i_t_now_settled : Int32) (i_t_now_law : Int32) (i_t_now_way : Int32) (n_t_foresight_memory : Nat) (n_t_letters_worthToOther : Nat) (f_t_letters_worthToOther : Nat → Int32) (n_t_letters_worthToOne : Nat) (f_t_letters_worthToOne : Nat → Int32) (i_t_spoken_length : Int32) (i_t_spoken_words : Int32) (f_t_spoken_scales : Nat → Int32) (n_t_foresight_rows2_letters : Nat) (n_t_letters_sense : Nat) (f_t_letters_sense : Nat → Int32) (n_t_foresight_rows1_letters : Nat) (n_t_changes_letters : Nat) : Nat → Int32 → Int32 → Int32 → Int32 → Int32 → Int32 → Int32 → Int32 → Int32 → (Nat → Int32) → Int32 → (Nat → Int32) → Int32 → (Nat → Int32) → (Nat → Int32) → (Nat → Int32) → Int32 → (Nat → Int32) → Option (Int32 × Int32 × Int32 × Int32 × Int32 × Int32 × Int32 × Int32 × (Nat → Int32) × Int32 × (Nat → Int32) × Int32 × (Nat → Int32) × (Nat → Int32) × (Nat → Int32) × Int32 × (Nat → Int32))
  | 0, _, _, _, _, _, _, _, _, _, _, _, _, _, _, _, _, _, _ => none
  | n + 1, v1, v2, i_t_now_letter, i_t_now_turn, i_t_now_sent, i_t_now_seed, i_t_foresight_law, i_t_foresight_nonsense, i_t_foresight_stamp, f_t_foresight_memory, i_t_foresight_rows2_count, f_t_foresight_rows2_letters, i_t_foresight_rows1_count, f_t_foresight_rows1_letters, f_t_now_entries, f_t_now_gained, i_t_changes_count, f_t_changes_letters =>
    if v1 ≤ v2 then
      some (i_t_now_letter, i_t_now_letter, i_t_now_turn, i_t_now_sent, i_t_now_seed, i_t_foresight_law, i_t_foresight_nonsense, i_t_foresight_stamp, f_t_foresight_memory, i_t_foresight_rows2_count, f_t_foresight_rows2_letters, i_t_foresight_rows1_count, f_t_foresight_rows1_letters, f_t_now_entries, f_t_now_gained, i_t_changes_count, f_t_changes_letters)
    else
      (f_X0_draw i_t_now_seed 4).bind fun (r_13, z_14) =>
      if r_13 = 0 then
        (f_X8_sendAnyChange i_t_now_law i_t_now_way i_t_letters_size i_t_spoken_length i_t_spoken_words f_t_spoken_scales n_t_changes_letters n_t_letters_sense f_t_letters_sense i_t_now_letter i_t_now_turn i_t_now_sent z_14 i_t_changes_count f_t_changes_letters f_t_now_entries).bind fun (z_28, z_29, z_30, z_31, z_32, z_33, z_34) =>
        f_X8_drift_L73 i_t_letters_tongues i_t_letters_size i_t_now_settled i_t_now_law i_t_now_way n_t_foresight_memory n_t_letters_worthToOther f_t_letters_worthToOther n_t_letters_worthToOne f_t_letters_worthToOne i_t_spoken_length i_t_spoken_words f_t_spoken_scales n_t_foresight_rows2_letters n_t_letters_sense f_t_letters_sense n_t_foresight_rows1_letters n_t_changes_letters n v1 (v2 + 1) z_28 z_29 z_30 z_31 i_t_foresight_law i_t_foresight_nonsense i_t_foresight_stamp f_t_foresight_memory i_t_foresight_rows2_count f_t_foresight_rows2_letters i_t_foresight_rows1_count f_t_foresight_rows1_letters z_34 f_t_now_gained z_32 z_33
      else
        (f_X8_sendWhatPays i_t_foresight_law i_t_foresight_nonsense i_t_foresight_stamp i_t_letters_size n_t_foresight_memory n_t_letters_worthToOther f_t_letters_worthToOther n_t_letters_worthToOne f_t_letters_worthToOne i_t_spoken_length i_t_spoken_words f_t_spoken_scales n_t_foresight_rows2_letters n_t_letters_sense f_t_letters_sense n_t_foresight_rows1_letters i_t_now_letter i_t_now_turn i_t_now_sent f_t_foresight_memory i_t_foresight_rows2_count f_t_foresight_rows2_letters i_t_foresight_rows1_count f_t_foresight_rows1_letters f_t_now_entries f_t_now_gained).bind fun (z_17, z_18, z_19, z_20, z_21, z_22, z_23, z_24, z_25, z_26) =>
        f_X8_drift_L73 i_t_letters_tongues i_t_letters_size i_t_now_settled i_t_now_law i_t_now_way n_t_foresight_memory n_t_letters_worthToOther f_t_letters_worthToOther n_t_letters_worthToOne f_t_letters_worthToOne i_t_spoken_length i_t_spoken_words f_t_spoken_scales n_t_foresight_rows2_letters n_t_letters_sense f_t_letters_sense n_t_foresight_rows1_letters n_t_changes_letters n v1 (v2 + 1) z_17 z_18 z_19 z_14 i_t_foresight_law i_t_foresight_nonsense i_t_foresight_stamp z_20 z_21 z_22 z_23 z_24 z_25 z_26 i_t_changes_count f_t_changes_letters
def f_X8_drift (i_t_letters_tongues : Int32) (i_t_letters_size : Int32) (i_t_now_settled : Int32) (i_t_now_law : Int32) (i_t_now_way : Int32) (n_t_foresight_memory : Nat) (n_t_letters_worthToOther : Nat) (f_t_letters_worthToOther : Nat → Int32) (n_t_letters_worthToOne : Nat) (f_t_letters_worthToOne : Nat → Int32) (i_t_spoken_length : Int32) (i_t_spoken_words : Int32) (f_t_spoken_scales : Nat → Int32) (n_t_foresight_rows2_letters : Nat) (n_t_letters_sense : Nat) (f_t_letters_sense : Nat → Int32) (n_t_foresight_rows1_letters : Nat) (n_t_changes_letters : Nat) (i_t_now_letter : Int32) (i_t_now_turn : Int32) (i_t_now_sent : Int32) (i_t_now_seed : Int32) (i_t_foresight_law : Int32) (i_t_foresight_nonsense : Int32) (i_t_foresight_stamp : Int32) (f_t_foresight_memory : Nat → Int32) (i_t_foresight_rows2_count : Int32) (f_t_foresight_rows2_letters : Nat → Int32) (i_t_foresight_rows1_count : Int32) (f_t_foresight_rows1_letters : Nat → Int32) (f_t_now_entries : Nat → Int32) (f_t_now_gained : Nat → Int32) (i_t_changes_count : Int32) (f_t_changes_letters : Nat → Int32) (p1 : Int32) : Option (Int32 × Int32 × Int32 × Int32 × Int32 × Int32 × Int32 × Int32 × (Nat → Int32) × Int32 × (Nat → Int32) × Int32 × (Nat → Int32) × (Nat → Int32) × (Nat → Int32) × Int32 × (Nat → Int32)) :=
  if p1 < 1 then
    some ((-1000000002), i_t_now_letter, i_t_now_turn, i_t_now_sent, i_t_now_seed, i_t_foresight_law, i_t_foresight_nonsense, i_t_foresight_stamp, f_t_foresight_memory, i_t_foresight_rows2_count, f_t_foresight_rows2_letters, i_t_foresight_rows1_count, f_t_foresight_rows1_letters, f_t_now_entries, f_t_now_gained, i_t_changes_count, f_t_changes_letters)
  else
    if p1 ≤ 40 then
      if i_t_letters_size = 0 then
        some ((-1000000003), i_t_now_letter, i_t_now_turn, i_t_now_sent, i_t_now_seed, i_t_foresight_law, i_t_foresight_nonsense, i_t_foresight_stamp, f_t_foresight_memory, i_t_foresight_rows2_count, f_t_foresight_rows2_letters, i_t_foresight_rows1_count, f_t_foresight_rows1_letters, f_t_now_entries, f_t_now_gained, i_t_changes_count, f_t_changes_letters)
      else
        if i_t_now_settled = 0 then
          if i_t_now_way = 1 then
            (f_X8_stamp i_t_letters_tongues i_t_now_law i_t_now_way).bind fun r_36 =>
            (f_X1_useRules i_t_foresight_law i_t_foresight_nonsense i_t_foresight_stamp i_t_now_law 1 r_36).bind fun (z_38, z_39, z_40) =>
            f_X8_drift_L73 i_t_letters_tongues i_t_letters_size i_t_now_settled i_t_now_law i_t_now_way n_t_foresight_memory n_t_letters_worthToOther f_t_letters_worthToOther n_t_letters_worthToOne f_t_letters_worthToOne i_t_spoken_length i_t_spoken_words f_t_spoken_scales n_t_foresight_rows2_letters n_t_letters_sense f_t_letters_sense n_t_foresight_rows1_letters n_t_changes_letters FU p1 0 i_t_now_letter i_t_now_turn i_t_now_sent i_t_now_seed z_38 z_39 z_40 f_t_foresight_memory i_t_foresight_rows2_count f_t_foresight_rows2_letters i_t_foresight_rows1_count f_t_foresight_rows1_letters f_t_now_entries f_t_now_gained i_t_changes_count f_t_changes_letters
          else
            (f_X8_stamp i_t_letters_tongues i_t_now_law i_t_now_way).bind fun r_6 =>
            (f_X1_useRules i_t_foresight_law i_t_foresight_nonsense i_t_foresight_stamp i_t_now_law 0 r_6).bind fun (z_8, z_9, z_10) =>
            f_X8_drift_L73 i_t_letters_tongues i_t_letters_size i_t_now_settled i_t_now_law i_t_now_way n_t_foresight_memory n_t_letters_worthToOther f_t_letters_worthToOther n_t_letters_worthToOne f_t_letters_worthToOne i_t_spoken_length i_t_spoken_words f_t_spoken_scales n_t_foresight_rows2_letters n_t_letters_sense f_t_letters_sense n_t_foresight_rows1_letters n_t_changes_letters FU p1 0 i_t_now_letter i_t_now_turn i_t_now_sent i_t_now_seed z_8 z_9 z_10 f_t_foresight_memory i_t_foresight_rows2_count f_t_foresight_rows2_letters i_t_foresight_rows1_count f_t_foresight_rows1_letters f_t_now_entries f_t_now_gained i_t_changes_count f_t_changes_letters
        else
          some ((-1000000003), i_t_now_letter, i_t_now_turn, i_t_now_sent, i_t_now_seed, i_t_foresight_law, i_t_foresight_nonsense, i_t_foresight_stamp, f_t_foresight_memory, i_t_foresight_rows2_count, f_t_foresight_rows2_letters, i_t_foresight_rows1_count, f_t_foresight_rows1_letters, f_t_now_entries, f_t_now_gained, i_t_changes_count, f_t_changes_letters)
    else
      some ((-1000000002), i_t_now_letter, i_t_now_turn, i_t_now_sent, i_t_now_seed, i_t_foresight_law, i_t_foresight_nonsense, i_t_foresight_stamp, f_t_foresight_memory, i_t_foresight_rows2_count, f_t_foresight_rows2_letters, i_t_foresight_rows1_count, f_t_foresight_rows1_letters, f_t_now_entries, f_t_now_gained, i_t_changes_count, f_t_changes_letters)
def f_X8_seed (i_t_now_seed : Int32) (p1 : Int32) : Option (Int32 × Int32) :=
  if 0 ≤ p1 then
    some (i_t_now_seed, p1)
  else
    some ((-1000000002), i_t_now_seed)
def f_X8_isImage (p1 : Int32) : Option (Int32) :=
  if p1 < 0 then
    some 0
  else
    if 2 ≤ p1 then
      some 0
    else
      some 1
def f_X8_keep (i_t_now_letter : Int32) (i_t_now_turn : Int32) (i_t_now_settled : Int32) (i_t_now_sent : Int32) (i_t_now_law : Int32) (i_t_now_way : Int32) (i_t_now_seed : Int32) (f_t_now_gained : Nat → Int32) (f_t_now_entries : Nat → Int32) (i_t_images0_letter : Int32) (i_t_images0_turn : Int32) (i_t_images0_settled : Int32) (i_t_images0_sent : Int32) (i_t_images0_law : Int32) (i_t_images0_way : Int32) (i_t_images0_seed : Int32) (i_t_images1_letter : Int32) (i_t_images1_turn : Int32) (i_t_images1_settled : Int32) (i_t_images1_sent : Int32) (i_t_images1_law : Int32) (i_t_images1_way : Int32) (i_t_images1_seed : Int32) (f_t_images0_gained : Nat → Int32) (f_t_images0_entries : Nat → Int32) (f_t_kept : Nat → Int32) (f_t_images1_gained : Nat → Int32) (f_t_images1_entries : Nat → Int32) (p1 : Int32) : Option (Int32 × Int32 × Int32 × Int32 × Int32 × Int32 × Int32 × Int32 × Int32 × Int32 × Int32 × Int32 × Int32 × Int32 × Int32 × (Nat → Int32) × (Nat → Int32) × (Nat → Int32) × (Nat → Int32) × (Nat → Int32)) :=
  (f_X8_isImage p1).bind fun r_1 =>
  if r_1 = 0 then
    some ((-1000000001), i_t_images0_letter, i_t_images0_turn, i_t_images0_settled, i_t_images0_sent, i_t_images0_law, i_t_images0_way, i_t_images0_seed, i_t_images1_letter, i_t_images1_turn, i_t_images1_settled, i_t_images1_sent, i_t_images1_law, i_t_images1_way, i_t_images1_seed, f_t_images0_gained, f_t_images0_entries, f_t_kept, f_t_images1_gained, f_t_images1_entries)
  else
    if p1 = 0 then
      (f_X0_become i_t_now_letter i_t_now_turn i_t_now_settled i_t_now_sent i_t_now_law i_t_now_way i_t_now_seed f_t_now_gained f_t_now_entries i_t_images0_letter i_t_images0_turn i_t_images0_settled i_t_images0_sent i_t_images0_law i_t_images0_way i_t_images0_seed f_t_images0_gained f_t_images0_entries).bind fun (z_5, z_6, z_7, z_8, z_9, z_10, z_11, z_12, z_13) =>
      if ixb 0 2 = true then
      some (1, z_5, z_6, z_7, z_8, z_9, z_10, z_11, i_t_images1_letter, i_t_images1_turn, i_t_images1_settled, i_t_images1_sent, i_t_images1_law, i_t_images1_way, i_t_images1_seed, z_12, z_13, (upd f_t_kept (0 : Int32).toNatClampNeg 1), f_t_images1_gained, f_t_images1_entries)
      else none
    else
      if p1 = 1 then
        (f_X0_become i_t_now_letter i_t_now_turn i_t_now_settled i_t_now_sent i_t_now_law i_t_now_way i_t_now_seed f_t_now_gained f_t_now_entries i_t_images1_letter i_t_images1_turn i_t_images1_settled i_t_images1_sent i_t_images1_law i_t_images1_way i_t_images1_seed f_t_images1_gained f_t_images1_entries).bind fun (z_17, z_18, z_19, z_20, z_21, z_22, z_23, z_24, z_25) =>
        if ixb 1 2 = true then
        some (1, i_t_images0_letter, i_t_images0_turn, i_t_images0_settled, i_t_images0_sent, i_t_images0_law, i_t_images0_way, i_t_images0_seed, z_17, z_18, z_19, z_20, z_21, z_22, z_23, f_t_images0_gained, f_t_images0_entries, (upd f_t_kept (1 : Int32).toNatClampNeg 1), z_24, z_25)
        else none
      else
        none
def f_X8_goBack (f_t_kept : Nat → Int32) (i_t_images0_letter : Int32) (i_t_images0_turn : Int32) (i_t_images0_settled : Int32) (i_t_images0_sent : Int32) (i_t_images0_law : Int32) (i_t_images0_way : Int32) (i_t_images0_seed : Int32) (i_t_images1_letter : Int32) (i_t_images1_turn : Int32) (i_t_images1_settled : Int32) (i_t_images1_sent : Int32) (i_t_images1_law : Int32) (i_t_images1_way : Int32) (i_t_images1_seed : Int32) (f_t_images0_gained : Nat → Int32) (f_t_images0_entries : Nat → Int32) (f_t_images1_gained : Nat → Int32) (f_t_images1_entries : Nat → Int32) (i_t_now_letter : Int32) (i_t_now_turn : Int32) (i_t_now_settled : Int32) (i_t_now_sent : Int32) (i_t_now_law : Int32) (i_t_now_way : Int32) (i_t_now_seed : Int32) (f_t_now_gained : Nat → Int32) (f_t_now_entries : Nat → Int32) (p1 : Int32) : Option (Int32 × Int32 × Int32 × Int32 × Int32 × Int32 × Int32 × Int32 × (Nat → Int32) × (Nat → Int32)) :=
  (f_X8_isImage p1).bind fun r_1 =>
  if r_1 = 0 then
    some ((-1000000001), i_t_now_letter, i_t_now_turn, i_t_now_settled, i_t_now_sent, i_t_now_law, i_t_now_way, i_t_now_seed, f_t_now_gained, f_t_now_entries)
  else
    if ixb p1 2 = true then
    if (f_t_kept (p1 : Int32).toNatClampNeg) = 0 then
      some ((-1000000003), i_t_now_letter, i_t_now_turn, i_t_now_settled, i_t_now_sent, i_t_now_law, i_t_now_way, i_t_now_seed, f_t_now_gained, f_t_now_entries)
    else
      if p1 = 0 then
        (f_X0_become i_t_images0_letter i_t_images0_turn i_t_images0_settled i_t_images0_sent i_t_images0_law i_t_images0_way i_t_images0_seed f_t_images0_gained f_t_images0_entries i_t_now_letter i_t_now_turn i_t_now_settled i_t_now_sent i_t_now_law i_t_now_way i_t_now_seed f_t_now_gained f_t_now_entries).bind fun (z_7, z_8, z_9, z_10, z_11, z_12, z_13, z_14, z_15) =>
        some (1, z_7, z_8, z_9, z_10, z_11, z_12, z_13, z_14, z_15)
      else
        if p1 = 1 then
          (f_X0_become i_t_images1_letter i_t_images1_turn i_t_images1_settled i_t_images1_sent i_t_images1_law i_t_images1_way i_t_images1_seed f_t_images1_gained f_t_images1_entries i_t_now_letter i_t_now_turn i_t_now_settled i_t_now_sent i_t_now_law i_t_now_way i_t_now_seed f_t_now_gained f_t_now_entries).bind fun (z_18, z_19, z_20, z_21, z_22, z_23, z_24, z_25, z_26) =>
          some (1, z_18, z_19, z_20, z_21, z_22, z_23, z_24, z_25, z_26)
        else
          none
    else none
