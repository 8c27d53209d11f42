def f_X8_feed (i_t_reader_length : Int32) (f_t_reader_text : Nat → Int32) (p1 : Int32) (p2 : Int64) : Option (Int32 × Int32 × (Nat → Int32)) :=
  if p1 < 1 then
    some ((-1000000002), i_t_reader_length, f_t_reader_text)
  else
    if p1 ≤ 8 then
      (f_X5_take i_t_reader_length f_t_reader_text p1 p2).bind fun (r_3, z_4, z_5) =>
      some (r_3, z_4, z_5)
    else
      some ((-1000000002), i_t_reader_length, f_t_reader_text)
def f_X8_fault (i_t_reader_faultByte : Int32) : Option (Int32) :=
  some i_t_reader_faultByte
def f_X8_told (i_t_guessCount : Int32) (i_t_spoken_length : Int32) (i_t_spoken_words : Int32) (i_t_spoken_frames : Int32) (i_t_spoken_pairs : Int32) (i_t_reader_length : Int32) (i_t_now_letter : Int32) (i_t_now_turn : Int32) (i_t_now_settled : Int32) (i_t_now_sent : Int32) (i_t_now_law : Int32) (i_t_now_way : Int32) (i_t_book_count : Int32) (i_t_letters_standing : Int32) (p1 : Int32) : Option (Int32) :=
  if p1 = 0 then
    some i_t_spoken_length
  else
    if p1 = 1 then
      some i_t_spoken_words
    else
      if p1 = 2 then
        some i_t_spoken_frames
      else
        if p1 = 3 then
          some i_t_spoken_pairs
        else
          if p1 = 4 then
            some i_t_reader_length
          else
            if p1 = 5 then
              some i_t_now_law
            else
              if p1 = 6 then
                some i_t_now_way
              else
                if p1 = 7 then
                  some i_t_now_letter
                else
                  if p1 = 8 then
                    some i_t_now_turn
                  else
                    if p1 = 9 then
                      if i_t_now_settled = 0 then
                        some 0
                      else
                        some 1
                    else
                      if p1 = 10 then
                        some i_t_now_sent
                      else
                        if p1 = 11 then
                          some i_t_guessCount
                        else
                          if p1 = 12 then
                            some i_t_book_count
                          else
                            if p1 = 13 then
                              some i_t_letters_standing
                            else
                              some (-1000000002)
def f_X8_isWord (i_t_spoken_words : Int32) (p1 : Int32) : Option (Int32) :=
  if p1 < 0 then
    some 0
  else
    if i_t_spoken_words ≤ p1 then
      some 0
    else
      some 1
def f_X8_word (i_t_spoken_words : Int32) (f_t_spoken_worths0 : Nat → Int32) (f_t_spoken_worths1 : Nat → Int32) (f_t_spoken_kinds : Nat → Int32) (p1 : Int32) (p2 : Int32) : Option (Int32) :=
  (f_X8_isWord i_t_spoken_words p1).bind fun r_1 =>
  if r_1 = 0 then
    some (-1000000001)
  else
    if p2 < 0 then
      some (-1000000002)
    else
      if p2 ≤ 2 then
        if p2 = 0 then
          if ixb p1 8 = true then
          some (f_t_spoken_kinds (p1 : Int32).toNatClampNeg)
          else none
        else
          if (p2 - 1) = 0 then
            if ixb p1 8 = true then
            some (f_t_spoken_worths0 (p1 : Int32).toNatClampNeg)
            else none
          else
            if (p2 - 1) = 1 then
              if ixb p1 8 = true then
              some (f_t_spoken_worths1 (p1 : Int32).toNatClampNeg)
              else none
            else
              none
      else
        some (-1000000002)
def f_X8_isLetter (i_t_letters_size : Int32) (p1 : Int32) : Option (Int32) :=
  if p1 < 0 then
    some 0
  else
    if i_t_letters_size ≤ p1 then
      some 0
    else
      some 1
def f_X8_at (i_t_letters_size : Int32) (i_t_spoken_length : Int32) (i_t_spoken_words : Int32) (f_t_spoken_scales : Nat → Int32) (p1 : Int32) (p2 : Int32) : Option (Int32) :=
  (f_X8_isLetter i_t_letters_size p1).bind fun r_1 =>
  if r_1 = 0 then
    some (-1000000002)
  else
    if p2 < 0 then
      some (-1000000002)
    else
      if p2 < i_t_spoken_length then
        (f_X7_wordAt i_t_spoken_length i_t_spoken_words f_t_spoken_scales p1 p2).bind fun r_6 =>
        some r_6
      else
        some (-1000000002)
def f_X8_stands (i_t_letters_size : Int32) (n_t_letters_sense : Nat) (f_t_letters_sense : Nat → Int32) (p1 : Int32) : Option (Int32) :=
  (f_X8_isLetter i_t_letters_size p1).bind fun r_1 =>
  if r_1 = 0 then
    some (-1000000002)
  else
    (f_X3_isSense i_t_letters_size n_t_letters_sense f_t_letters_sense p1).bind fun r_4 =>
    if r_4 = 0 then
      some 0
    else
      some 1
def f_X8_isHouse (p1 : Int32) : Option (Int32) :=
  if p1 < 0 then
    some 0
  else
    if 2 ≤ p1 then
      some 0
    else
      some 1
def f_X8_worth (i_t_letters_size : Int32) (n_t_letters_worthToOther : Nat) (f_t_letters_worthToOther : Nat → Int32) (n_t_letters_worthToOne : Nat) (f_t_letters_worthToOne : Nat → Int32) (p1 : Int32) (p2 : Int32) : Option (Int32) :=
  (f_X8_isHouse p1).bind fun r_1 =>
  if r_1 = 0 then
    some (-1000000001)
  else
    (f_X8_isLetter i_t_letters_size p2).bind fun r_4 =>
    if r_4 = 0 then
      some (-1000000002)
    else
      (f_X3_worthTo i_t_letters_size n_t_letters_worthToOther f_t_letters_worthToOther n_t_letters_worthToOne f_t_letters_worthToOne p1 p2).bind fun r_7 =>
      some r_7
def f_X8_law (i_t_now_law : Int32) (p1 : Int32) : Option (Int32 × Int32) :=
  if p1 < 0 then
    some ((-1000000002), i_t_now_law)
  else
    if p1 ≤ 2 then
      some (i_t_now_law, p1)
    else
      some ((-1000000002), i_t_now_law)
def f_X8_way (i_t_now_way : Int32) (p1 : Int32) : Option (Int32 × Int32) :=
  if p1 < 0 then
    some ((-1000000002), i_t_now_way)
  else
    if p1 ≤ 1 then
      some (i_t_now_way, p1)
    else
      some ((-1000000002), i_t_now_way)
def f_X8_listChanges (i_t_letters_size : Int32) (i_t_now_law : Int32) (i_t_now_way : Int32) (i_t_spoken_length : Int32) (i_t_spoken_words : Int32) (f_t_spoken_scales : Nat → Int32) (n_t_changes_letters : Nat) (n_t_letters_sense : Nat) (f_t_letters_sense : Nat → Int32) (i_t_changes_count : Int32) (f_t_changes_letters : Nat → Int32) (p1 : Int32) : Option (Int32 × (Nat → Int32)) :=
  if i_t_now_way = 1 then
    (f_X3_listChanges i_t_letters_size i_t_spoken_length i_t_spoken_words f_t_spoken_scales n_t_changes_letters n_t_letters_sense f_t_letters_sense i_t_changes_count f_t_changes_letters p1 i_t_now_law 1).bind fun (z_5, z_6) =>
    some (z_5, z_6)
  else
    (f_X3_listChanges i_t_letters_size i_t_spoken_length i_t_spoken_words f_t_spoken_scales n_t_changes_letters n_t_letters_sense f_t_letters_sense i_t_changes_count f_t_changes_letters p1 i_t_now_law 0).bind fun (z_2, z_3) =>
    some (z_2, z_3)
def f_X8_change (i_t_letters_size : Int32) (i_t_now_law : Int32) (i_t_now_way : Int32) (i_t_spoken_length : Int32) (i_t_spoken_words : Int32) (f_t_spoken_scales : Nat → Int32) (n_t_changes_letters : Nat) (n_t_letters_sense : Nat) (f_t_letters_sense : Nat → Int32) (i_t_changes_count : Int32) (f_t_changes_letters : Nat → Int32) (p1 : Int32) (p2 : Int32) : Option (Int32 × Int32 × (Nat → Int32)) :=
  (f_X8_isLetter i_t_letters_size p1).bind fun r_1 =>
  if r_1 = 0 then
    some ((-1000000002), i_t_changes_count, f_t_changes_letters)
  else
    (f_X8_listChanges i_t_letters_size i_t_now_law i_t_now_way i_t_spoken_length i_t_spoken_words f_t_spoken_scales n_t_changes_letters n_t_letters_sense f_t_letters_sense i_t_changes_count f_t_changes_letters p1).bind fun (z_4, z_5) =>
    (f_X6_countOrGet z_4 n_t_changes_letters z_5 p2).bind fun r_7 =>
    some (r_7, z_4, z_5)
def f_X8_begin (i_t_letters_size : Int32) (i_t_now_letter : Int32) (i_t_now_turn : Int32) (i_t_now_settled : Int32) (p1 : Int32) (p2 : Int32) : Option (Int32 × Int32 × Int32 × Int32) :=
  (f_X8_isHouse p2).bind fun r_1 =>
  if r_1 = 0 then
    some ((-1000000001), i_t_now_letter, i_t_now_turn, i_t_now_settled)
  else
    (f_X8_isLetter i_t_letters_size p1).bind fun r_4 =>
    if r_4 = 0 then
      some ((-1000000002), i_t_now_letter, i_t_now_turn, i_t_now_settled)
    else
      some (i_t_now_letter, p1, p2, 0)
def f_X8_isChange (i_t_letters_size : Int32) (i_t_now_law : Int32) (i_t_now_way : Int32) (i_t_spoken_length : Int32) (i_t_spoken_words : Int32) (f_t_spoken_scales : Nat → Int32) (n_t_changes_letters : Nat) (n_t_letters_sense : Nat) (f_t_letters_sense : Nat → Int32) (i_t_changes_count : Int32) (f_t_changes_letters : Nat → Int32) (p1 : Int32) (p2 : Int32) : Option (Int32 × Int32 × (Nat → Int32)) :=
  (f_X8_listChanges i_t_letters_size i_t_now_law i_t_now_way i_t_spoken_length i_t_spoken_words f_t_spoken_scales n_t_changes_letters n_t_letters_sense f_t_letters_sense i_t_changes_count f_t_changes_letters p1).bind fun (z_1, z_2) =>
  (f_X6_has z_1 n_t_changes_letters z_2 p2).bind fun r_4 =>
  if zb r_4 = true then
  some (r_4, z_1, z_2)
  else none
def f_X8_send (i_t_letters_size : Int32) (i_t_now_settled : Int32) (i_t_now_law : Int32) (i_t_now_way : Int32) (i_t_spoken_length : Int32) (i_t_spoken_words : Int32) (f_t_spoken_scales : Nat → Int32) (n_t_changes_letters : Nat) (n_t_letters_sense : Nat) (f_t_letters_sense : Nat → Int32) (i_t_now_letter : Int32) (i_t_now_turn : Int32) (i_t_now_sent : Int32) (i_t_changes_count : Int32) (f_t_changes_letters : Nat → Int32) (f_t_now_entries : Nat → Int32) (p1 : Int32) : Option (Int32 × Int32 × Int32 × Int32 × Int32 × (Nat → Int32) × (Nat → Int32)) :=
  (f_X8_isLetter i_t_letters_size p1).bind fun r_1 =>
  if r_1 = 0 then
    some ((-1000000002), i_t_now_letter, i_t_now_turn, i_t_now_sent, i_t_changes_count, f_t_changes_letters, f_t_now_entries)
  else
    if i_t_now_settled = 0 then
      (f_X8_isChange i_t_letters_size i_t_now_law i_t_now_way i_t_spoken_length i_t_spoken_words f_t_spoken_scales n_t_changes_letters n_t_letters_sense f_t_letters_sense i_t_changes_count f_t_changes_letters i_t_now_letter p1).bind fun (r_5, z_6, z_7) =>
      if r_5 = 0 then
        some ((-1000000003), i_t_now_letter, i_t_now_turn, i_t_now_sent, z_6, z_7, f_t_now_entries)
      else
        if i_t_now_sent < 60 then
          (f_X0_pass i_t_now_letter i_t_now_turn i_t_now_sent f_t_now_entries p1).bind fun (z_11, z_12, z_13, z_14) =>
          some (z_12, z_11, z_12, z_13, z_6, z_7, z_14)
        else
          some ((-1000000004), i_t_now_letter, i_t_now_turn, i_t_now_sent, z_6, z_7, f_t_now_entries)
    else
      some ((-1000000003), i_t_now_letter, i_t_now_turn, i_t_now_sent, i_t_changes_count, f_t_changes_letters, f_t_now_entries)
def f_X8_giveBoth_L2 (i_t_now_letter : Int32) (i_t_letters_size : Int32) (n_t_letters_worthToOther : Nat) (f_t_letters_worthToOther : Nat → Int32) (n_t_letters_worthToOne : Nat) (f_t_letters_worthToOne : Nat → Int32) : Nat → Int32 → (Nat → Int32) → Option ((Nat → Int32))
  | 0, _, _ => none
  | n + 1, v1, f_t_now_gained =>
    if 2 ≤ v1 then
      some f_t_now_gained
    else
      if ixb v1 2 = true then
      (f_X3_worthTo i_t_letters_size n_t_letters_worthToOther f_t_letters_worthToOther n_t_letters_worthToOne f_t_letters_worthToOne v1 i_t_now_letter).bind fun r_3 =>
      if ixb v1 2 = true then
      f_X8_giveBoth_L2 i_t_now_letter i_t_letters_size n_t_letters_worthToOther f_t_letters_worthToOther n_t_letters_worthToOne f_t_letters_worthToOne n (v1 + 1) (upd f_t_now_gained (v1 : Int32).toNatClampNeg ((f_t_now_gained (v1 : Int32).toNatClampNeg) + r_3))
      else none
      else none
def f_X8_giveBoth (i_t_now_letter : Int32) (i_t_letters_size : Int32) (n_t_letters_worthToOther : Nat) (f_t_letters_worthToOther : Nat → Int32) (n_t_letters_worthToOne : Nat) (f_t_letters_worthToOne : Nat → Int32) (f_t_now_gained : Nat → Int32) : Option ((Nat → Int32)) :=
  f_X8_giveBoth_L2 i_t_now_letter i_t_letters_size n_t_letters_worthToOther f_t_letters_worthToOther n_t_letters_worthToOne f_t_letters_worthToOne FU 0 f_t_now_gained
def f_X8_settle (i_t_now_letter : Int32) (i_t_now_turn : Int32) (i_t_letters_size : Int32) (n_t_letters_worthToOther : Nat) (f_t_letters_worthToOther : Nat → Int32) (n_t_letters_worthToOne : Nat) (f_t_letters_worthToOne : Nat → Int32) (i_t_now_settled : Int32) (f_t_now_gained : Nat → Int32) : Option (Int32 × Int32 × (Nat → Int32)) :=
  if i_t_now_settled = 0 then
    if i_t_letters_size = 0 then
      some ((-1000000003), i_t_now_settled, f_t_now_gained)
    else
      (f_X8_giveBoth i_t_now_letter i_t_letters_size n_t_letters_worthToOther f_t_letters_worthToOther n_t_letters_worthToOne f_t_letters_worthToOne f_t_now_gained).bind fun z_3 =>
      (f_X3_worthTo i_t_letters_size n_t_letters_worthToOther f_t_letters_worthToOther n_t_letters_worthToOne f_t_letters_worthToOne i_t_now_turn i_t_now_letter).bind fun r_5 =>
      some (r_5, 1, z_3)
  else
    some ((-1000000003), i_t_now_settled, f_t_now_gained)
def f_X8_had (f_t_now_gained : Nat → Int32) (p1 : Int32) : Option (Int32) :=
  (f_X8_isHouse p1).bind fun r_1 =>
  if r_1 = 0 then
    some (-1000000001)
  else
    if ixb p1 2 = true then
    some (f_t_now_gained (p1 : Int32).toNatClampNeg)
    else none
def f_X8_log (i_t_now_sent : Int32) (f_t_now_entries : Nat → Int32) (p1 : Int32) (p2 : Int32) : Option (Int32) :=
  if p2 < 0 then
    some (-1000000002)
  else
    if p2 ≤ 2 then
      (f_X0_entry i_t_now_sent f_t_now_entries p1 p2).bind fun r_3 =>
      some r_3
    else
      some (-1000000002)
def f_X8_fewest (i_t_letters_size : Int32) (i_t_now_law : Int32) (n_t_paths_steps : Nat) (n_t_paths_queue_letters : Nat) (i_t_spoken_length : Int32) (i_t_spoken_words : Int32) (f_t_spoken_scales : Nat → Int32) (n_t_paths_changes_letters : Nat) (n_t_letters_sense : Nat) (f_t_letters_sense : Nat → Int32) (f_t_paths_steps : Nat → Int32) (i_t_paths_queue_count : Int32) (f_t_paths_queue_letters : Nat → Int32) (i_t_paths_changes_count : Int32) (f_t_paths_changes_letters : Nat → Int32) (p1 : Int32) (p2 : Int32) (p3 : Int32) : Option (Int32 × (Nat → Int32) × Int32 × (Nat → Int32) × Int32 × (Nat → Int32)) :=
  (f_X8_isLetter i_t_letters_size p1).bind fun r_1 =>
  if r_1 = 0 then
    some ((-1000000002), f_t_paths_steps, i_t_paths_queue_count, f_t_paths_queue_letters, i_t_paths_changes_count, f_t_paths_changes_letters)
  else
    (f_X8_isLetter i_t_letters_size p2).bind fun r_4 =>
    if r_4 = 0 then
      some ((-1000000002), f_t_paths_steps, i_t_paths_queue_count, f_t_paths_queue_letters, i_t_paths_changes_count, f_t_paths_changes_letters)
    else
      (f_X4_shortest n_t_paths_steps n_t_paths_queue_letters i_t_letters_size i_t_spoken_length i_t_spoken_words f_t_spoken_scales n_t_paths_changes_letters n_t_letters_sense f_t_letters_sense f_t_paths_steps i_t_paths_queue_count f_t_paths_queue_letters i_t_paths_changes_count f_t_paths_changes_letters i_t_now_law p1 p2 p3).bind fun (r_7, z_8, z_9, z_10, z_11, z_12) =>
      some (r_7, z_8, z_9, z_10, z_11, z_12)
def f_X8_stamp (i_t_letters_tongues : Int32) (i_t_now_law : Int32) (i_t_now_way : Int32) : Option (Int32) :=
  some (((i_t_letters_tongues * 6) + (i_t_now_law * 2)) + i_t_now_way)
def f_X8_neitherWouldChange_L25 (i_t_letters_size : Int32) (i_t_now_law : Int32) (i_t_now_way : Int32) (i_t_spoken_length : Int32) (i_t_spoken_words : Int32) (f_t_spoken_scales : Nat → Int32) (n_t_changes_letters : Nat) (n_t_letters_sense : Nat) (f_t_letters_sense : Nat → Int32) (n_t_letters_worthToOther : Nat) (f_t_letters_worthToOther : Nat → Int32) (n_t_letters_worthToOne : Nat) (f_t_letters_worthToOne : Nat → Int32) (K0 : Int32 → Int32 → Int32 → (Nat → Int32) → Option (Int32 × Int32 × (Nat → Int32))) : Nat → Int32 → Int32 → Int32 → Int32 → Int32 → (Nat → Int32) → Option (Int32 × Int32 × (Nat → Int32))
  | 0, _, _, _, _, _, _ => none
  | n + 1, v1, v2, v3, v4, i_t_changes_count, f_t_changes_letters =>
    if i_t_changes_count ≤ v4 then
      K0 v1 v2 i_t_changes_count f_t_changes_letters
    else
      (f_X6_get i_t_changes_count n_t_changes_letters f_t_changes_letters v4).bind fun r_8 =>
      (f_X3_worthTo i_t_letters_size n_t_letters_worthToOther f_t_letters_worthToOther n_t_letters_worthToOne f_t_letters_worthToOne v2 r_8).bind fun r_10 =>
      if r_10 ≤ v3 then
        f_X8_neitherWouldChange_L25 i_t_letters_size i_t_now_law i_t_now_way i_t_spoken_length i_t_spoken_words f_t_spoken_scales n_t_changes_letters n_t_letters_sense f_t_letters_sense n_t_letters_worthToOther f_t_letters_worthToOther n_t_letters_worthToOne f_t_letters_worthToOne K0 n v1 v2 v3 (v4 + 1) i_t_changes_count f_t_changes_letters
      else
        some (0, i_t_changes_count, f_t_changes_letters)
def f_X8_neitherWouldChange_L7 (i_t_letters_size : Int32) (i_t_now_law : Int32) (i_t_now_way : Int32) (i_t_spoken_length : Int32) (i_t_spoken_words : Int32) (f_t_spoken_scales : Nat → Int32) (n_t_changes_letters : Nat) (n_t_letters_sense : Nat) (f_t_letters_sense : Nat → Int32) (n_t_letters_worthToOther : Nat) (f_t_letters_worthToOther : Nat → Int32) (n_t_letters_worthToOne : Nat) (f_t_letters_worthToOne : Nat → Int32) : Nat → Int32 → Int32 → Int32 → (Nat → Int32) → Option (Int32 × Int32 × (Nat → Int32))
  | 0, _, _, _, _ => none
  | n + 1, v1, v2, i_t_changes_count, f_t_changes_letters =>
    if 2 ≤ v2 then
      some (1, i_t_changes_count, f_t_changes_letters)
    else
      (f_X3_worthTo i_t_letters_size n_t_letters_worthToOther f_t_letters_worthToOther n_t_letters_worthToOne f_t_letters_worthToOne v2 v1).bind fun r_5 =>
      f_X8_neitherWouldChange_L25 i_t_letters_size i_t_now_law i_t_now_way i_t_spoken_length i_t_spoken_words f_t_spoken_scales n_t_changes_letters n_t_letters_sense f_t_letters_sense n_t_letters_worthToOther f_t_letters_worthToOther n_t_letters_worthToOne f_t_letters_worthToOne (fun (v1_13 : Int32) (v2_14 : Int32) (z_15 : Int32) (z_16 : Nat → Int32) =>
        f_X8_neitherWouldChange_L7 i_t_letters_size i_t_now_law i_t_now_way i_t_spoken_length i_t_spoken_words f_t_spoken_scales n_t_changes_letters n_t_letters_sense f_t_letters_sense n_t_letters_worthToOther f_t_letters_worthToOther n_t_letters_worthToOne f_t_letters_worthToOne n v1_13 (v2_14 + 1) z_15 z_16) FU v1 v2 r_5 0 i_t_changes_count f_t_changes_letters
def f_X8_neitherWouldChange (i_t_letters_size : Int32) (i_t_now_law : Int32) (i_t_now_way : Int32) (i_t_spoken_length : Int32) (i_t_spoken_words : Int32) (f_t_spoken_scales : Nat → Int32) (n_t_changes_letters : Nat) (n_t_letters_sense : Nat) (f_t_letters_sense : Nat → Int32) (n_t_letters_worthToOther : Nat) (f_t_letters_worthToOther : Nat → Int32) (n_t_letters_worthToOne : Nat) (f_t_letters_worthToOne : Nat → Int32) (i_t_changes_count : Int32) (f_t_changes_letters : Nat → Int32) (p1 : Int32) : Option (Int32 × Int32 × (Nat → Int32)) :=
  (f_X8_listChanges i_t_letters_size i_t_now_law i_t_now_way i_t_spoken_length i_t_spoken_words f_t_spoken_scales n_t_changes_letters n_t_letters_sense f_t_letters_sense i_t_changes_count f_t_changes_letters p1).bind fun (z_1, z_2) =>
  f_X8_neitherWouldChange_L7 i_t_letters_size i_t_now_law i_t_now_way i_t_spoken_length i_t_spoken_words f_t_spoken_scales n_t_changes_letters n_t_letters_sense f_t_letters_sense n_t_letters_worthToOther f_t_letters_worthToOther n_t_letters_worthToOne f_t_letters_worthToOne FU p1 0 z_1 z_2
def f_X8_listStill_L9 (i_t_letters_size : Int32) (n_t_letters_sense : Nat) (f_t_letters_sense : Nat → Int32) (i_t_now_law : Int32) (i_t_now_way : Int32) (i_t_spoken_length : Int32) (i_t_spoken_words : Int32) (f_t_spoken_scales : Nat → Int32) (n_t_changes_letters : Nat) (n_t_letters_worthToOther : Nat) (f_t_letters_worthToOther : Nat → Int32) (n_t_letters_worthToOne : Nat) (f_t_letters_worthToOne : Nat → Int32) (n_t_stillOnes_letters : Nat) : Nat → Int32 → Int32 → Int32 → (Nat → Int32) → (Nat → Int32) → Option (Int32 × Int32 × (Nat → Int32) × (Nat → Int32))
  | 0, _, _, _, _, _ => none
  | n + 1, v1, i_t_stillOnes_count, i_t_changes_count, f_t_changes_letters, f_t_stillOnes_letters =>
    if i_t_letters_size ≤ v1 then
      some (i_t_stillOnes_count, i_t_changes_count, f_t_changes_letters, f_t_stillOnes_letters)
    else
      (f_X3_isSense i_t_letters_size n_t_letters_sense f_t_letters_sense v1).bind fun r_4 =>
      if r_4 = 0 then
        f_X8_listStill_L9 i_t_letters_size n_t_letters_sense f_t_letters_sense i_t_now_law i_t_now_way i_t_spoken_length i_t_spoken_words f_t_spoken_scales n_t_changes_letters n_t_letters_worthToOther f_t_letters_worthToOther n_t_letters_worthToOne f_t_letters_worthToOne n_t_stillOnes_letters n (v1 + 1) i_t_stillOnes_count i_t_changes_count f_t_changes_letters f_t_stillOnes_letters
      else
        (f_X8_neitherWouldChange i_t_letters_size i_t_now_law i_t_now_way i_t_spoken_length i_t_spoken_words f_t_spoken_scales n_t_changes_letters n_t_letters_sense f_t_letters_sense n_t_letters_worthToOther f_t_letters_worthToOther n_t_letters_worthToOne f_t_letters_worthToOne i_t_changes_count f_t_changes_letters v1).bind fun (r_7, z_8, z_9) =>
        if r_7 = 0 then
          f_X8_listStill_L9 i_t_letters_size n_t_letters_sense f_t_letters_sense i_t_now_law i_t_now_way i_t_spoken_length i_t_spoken_words f_t_spoken_scales n_t_changes_letters n_t_letters_worthToOther f_t_letters_worthToOther n_t_letters_worthToOne f_t_letters_worthToOne n_t_stillOnes_letters n (v1 + 1) i_t_stillOnes_count z_8 z_9 f_t_stillOnes_letters
        else
          (f_X6_add n_t_stillOnes_letters i_t_stillOnes_count f_t_stillOnes_letters v1).bind fun (z_12, z_13) =>
          f_X8_listStill_L9 i_t_letters_size n_t_letters_sense f_t_letters_sense i_t_now_law i_t_now_way i_t_spoken_length i_t_spoken_words f_t_spoken_scales n_t_changes_letters n_t_letters_worthToOther f_t_letters_worthToOther n_t_letters_worthToOne f_t_letters_worthToOne n_t_stillOnes_letters n (v1 + 1) z_12 z_8 z_9 z_13
def f_X8_listStill (i_t_letters_size : Int32) (n_t_letters_sense : Nat) (f_t_letters_sense : Nat → Int32) (i_t_now_law : Int32) (i_t_now_way : Int32) (i_t_spoken_length : Int32) (i_t_spoken_words : Int32) (f_t_spoken_scales : Nat → Int32) (n_t_changes_letters : Nat) (n_t_letters_worthToOther : Nat) (f_t_letters_worthToOther : Nat → Int32) (n_t_letters_worthToOne : Nat) (f_t_letters_worthToOne : Nat → Int32) (n_t_stillOnes_letters : Nat) (i_t_stillOnes_count : Int32) (i_t_changes_count : Int32) (f_t_changes_letters : Nat → Int32) (f_t_stillOnes_letters : Nat → Int32) : Option (Int32 × Int32 × (Nat → Int32) × (Nat → Int32)) :=
  (f_X6_empty i_t_stillOnes_count).bind fun z_1 =>
  f_X8_listStill_L9 i_t_letters_size n_t_letters_sense f_t_letters_sense i_t_now_law i_t_now_way i_t_spoken_length i_t_spoken_words f_t_spoken_scales n_t_changes_letters n_t_letters_worthToOther f_t_letters_worthToOther n_t_letters_worthToOne f_t_letters_worthToOne n_t_stillOnes_letters FU 0 z_1 i_t_changes_count f_t_changes_letters f_t_stillOnes_letters
def f_X8_still (i_t_letters_tongues : Int32) (i_t_letters_size : Int32) (i_t_now_law : Int32) (i_t_now_way : Int32) (n_t_stillOnes_letters : Nat) (n_t_letters_sense : Nat) (f_t_letters_sense : Nat → Int32) (i_t_spoken_length : Int32) (i_t_spoken_words : Int32) (f_t_spoken_scales : Nat → Int32) (n_t_changes_letters : Nat) (n_t_letters_worthToOther : Nat) (f_t_letters_worthToOther : Nat → Int32) (n_t_letters_worthToOne : Nat) (f_t_letters_worthToOne : Nat → Int32) (i_t_stillStamp : Int32) (i_t_stillOnes_count : Int32) (f_t_stillOnes_letters : Nat → Int32) (i_t_changes_count : Int32) (f_t_changes_letters : Nat → Int32) (p1 : Int32) : Option (Int32 × Int32 × Int32 × (Nat → Int32) × Int32 × (Nat → Int32)) :=
  (f_X8_stamp i_t_letters_tongues i_t_now_law i_t_now_way).bind fun r_1 =>
  if i_t_stillStamp = r_1 then
    (f_X6_countOrGet i_t_stillOnes_count n_t_stillOnes_letters f_t_stillOnes_letters p1).bind fun r_4 =>
    some (r_4, i_t_stillStamp, i_t_stillOnes_count, f_t_stillOnes_letters, i_t_changes_count, f_t_changes_letters)
  else
    (f_X8_listStill i_t_letters_size n_t_letters_sense f_t_letters_sense i_t_now_law i_t_now_way i_t_spoken_length i_t_spoken_words f_t_spoken_scales n_t_changes_letters n_t_letters_worthToOther f_t_letters_worthToOther n_t_letters_worthToOne f_t_letters_worthToOne n_t_stillOnes_letters i_t_stillOnes_count i_t_changes_count f_t_changes_letters f_t_stillOnes_letters).bind fun (z_6, z_7, z_8, z_9) =>
    (f_X8_stamp i_t_letters_tongues i_t_now_law i_t_now_way).bind fun r_11 =>
    (f_X6_countOrGet z_6 n_t_stillOnes_letters z_9 p1).bind fun r_13 =>
    some (r_13, r_11, z_6, z_9, z_7, z_8)
def f_X8_isMoves (p1 : Int32) : Option (Int32) :=
  if p1 < 0 then
    some 0
  else
    if 8 < p1 then
      some 0
    else
      some 1
def f_X8_ahead (i_t_letters_tongues : Int32) (i_t_letters_size : Int32) (i_t_now_law : Int32) (i_t_now_way : Int32) (n_t_letters_worthToOther : Nat) (f_t_letters_worthToOther : Nat → Int32) (n_t_letters_worthToOne : Nat) (f_t_letters_worthToOne : Nat → Int32) (n_t_foresight_memory : Nat) (i_t_spoken_length : Int32) (i_t_spoken_words : Int32) (f_t_spoken_scales : Nat → Int32) (n_t_foresight_rows1_letters : Nat) (n_t_letters_sense : Nat) (f_t_letters_sense : Nat → Int32) (n_t_foresight_rows2_letters : Nat) (n_t_foresight_rows3_letters : Nat) (n_t_foresight_rows4_letters : Nat) (n_t_foresight_rows5_letters : Nat) (n_t_foresight_rows6_letters : Nat) (n_t_foresight_rows7_letters : Nat) (n_t_foresight_rows8_letters : Nat) (n_t_foresight_rows0_letters : Nat) (i_t_foresight_law : Int32) (i_t_foresight_nonsense : Int32) (i_t_foresight_stamp : Int32) (f_t_foresight_memory : Nat → Int32) (i_t_foresight_rows1_count : Int32) (f_t_foresight_rows1_letters : Nat → Int32) (i_t_foresight_rows2_count : Int32) (f_t_foresight_rows2_letters : Nat → Int32) (i_t_foresight_rows3_count : Int32) (f_t_foresight_rows3_letters : Nat → Int32) (i_t_foresight_rows4_count : Int32) (f_t_foresight_rows4_letters : Nat → Int32) (i_t_foresight_rows5_count : Int32) (f_t_foresight_rows5_letters : Nat → Int32) (i_t_foresight_rows6_count : Int32) (f_t_foresight_rows6_letters : Nat → Int32) (i_t_foresight_rows7_count : Int32) (f_t_foresight_rows7_letters : Nat → Int32) (i_t_foresight_rows8_count : Int32) (f_t_foresight_rows8_letters : Nat → Int32) (i_t_foresight_rows0_count : Int32) (f_t_foresight_rows0_letters : Nat → Int32) (p1 : Int32) (p2 : Int32) (p3 : Int32) (p4 : Int32) : Option (Int32 × Int32 × Int32 × Int32 × (Nat → Int32) × Int32 × (Nat → Int32) × Int32 × (Nat → Int32) × Int32 × (Nat → Int32) × Int32 × (Nat → Int32) × Int32 × (Nat → Int32) × Int32 × (Nat → Int32) × Int32 × (Nat → Int32) × Int32 × (Nat → Int32) × Int32 × (Nat → Int32)) :=
  (f_X8_isHouse p2).bind fun r_1 =>
  if r_1 = 0 then
    some ((-1000000001), i_t_foresight_law, i_t_foresight_nonsense, i_t_foresight_stamp, f_t_foresight_memory, i_t_foresight_rows1_count, f_t_foresight_rows1_letters, i_t_foresight_rows2_count, f_t_foresight_rows2_letters, i_t_foresight_rows3_count, f_t_foresight_rows3_letters, i_t_foresight_rows4_count, f_t_foresight_rows4_letters, i_t_foresight_rows5_count, f_t_foresight_rows5_letters, i_t_foresight_rows6_count, f_t_foresight_rows6_letters, i_t_foresight_rows7_count, f_t_foresight_rows7_letters, i_t_foresight_rows8_count, f_t_foresight_rows8_letters, i_t_foresight_rows0_count, f_t_foresight_rows0_letters)
  else
    (f_X8_isLetter i_t_letters_size p1).bind fun r_4 =>
    if r_4 = 0 then
      some ((-1000000002), i_t_foresight_law, i_t_foresight_nonsense, i_t_foresight_stamp, f_t_foresight_memory, i_t_foresight_rows1_count, f_t_foresight_rows1_letters, i_t_foresight_rows2_count, f_t_foresight_rows2_letters, i_t_foresight_rows3_count, f_t_foresight_rows3_letters, i_t_foresight_rows4_count, f_t_foresight_rows4_letters, i_t_foresight_rows5_count, f_t_foresight_rows5_letters, i_t_foresight_rows6_count, f_t_foresight_rows6_letters, i_t_foresight_rows7_count, f_t_foresight_rows7_letters, i_t_foresight_rows8_count, f_t_foresight_rows8_letters, i_t_foresight_rows0_count, f_t_foresight_rows0_letters)
    else
      (f_X8_isMoves p3).bind fun r_7 =>
      if r_7 = 0 then
        some ((-1000000002), i_t_foresight_law, i_t_foresight_nonsense, i_t_foresight_stamp, f_t_foresight_memory, i_t_foresight_rows1_count, f_t_foresight_rows1_letters, i_t_foresight_rows2_count, f_t_foresight_rows2_letters, i_t_foresight_rows3_count, f_t_foresight_rows3_letters, i_t_foresight_rows4_count, f_t_foresight_rows4_letters, i_t_foresight_rows5_count, f_t_foresight_rows5_letters, i_t_foresight_rows6_count, f_t_foresight_rows6_letters, i_t_foresight_rows7_count, f_t_foresight_rows7_letters, i_t_foresight_rows8_count, f_t_foresight_rows8_letters, i_t_foresight_rows0_count, f_t_foresight_rows0_letters)
      else
        if p4 < 0 then
          some ((-1000000002), i_t_foresight_law, i_t_foresight_nonsense, i_t_foresight_stamp, f_t_foresight_memory, i_t_foresight_rows1_count, f_t_foresight_rows1_letters, i_t_foresight_rows2_count, f_t_foresight_rows2_letters, i_t_foresight_rows3_count, f_t_foresight_rows3_letters, i_t_foresight_rows4_count, f_t_foresight_rows4_letters, i_t_foresight_rows5_count, f_t_foresight_rows5_letters, i_t_foresight_rows6_count, f_t_foresight_rows6_letters, i_t_foresight_rows7_count, f_t_foresight_rows7_letters, i_t_foresight_rows8_count, f_t_foresight_rows8_letters, i_t_foresight_rows0_count, f_t_foresight_rows0_letters)
        else
          if p4 ≤ 4 then
            if i_t_now_way = 1 then
              (f_X8_stamp i_t_letters_tongues i_t_now_law i_t_now_way).bind fun r_272 =>
              (f_X1_useRules i_t_foresight_law i_t_foresight_nonsense i_t_foresight_stamp i_t_now_law 1 r_272).bind fun (z_274, z_275, z_276) =>
              if p4 = 4 then
                if p3 = 0 then
                  (f_X1_firstSent_s0 z_274 z_275 i_t_letters_size n_t_letters_worthToOther f_t_letters_worthToOther n_t_letters_worthToOne f_t_letters_worthToOne i_t_spoken_length i_t_spoken_words f_t_spoken_scales n_t_foresight_rows0_letters n_t_letters_sense f_t_letters_sense i_t_foresight_rows0_count f_t_foresight_rows0_letters p1 p2).bind fun (r_423, z_424, z_425) =>
                  some (r_423, z_274, z_275, z_276, f_t_foresight_memory, i_t_foresight_rows1_count, f_t_foresight_rows1_letters, i_t_foresight_rows2_count, f_t_foresight_rows2_letters, i_t_foresight_rows3_count, f_t_foresight_rows3_letters, i_t_foresight_rows4_count, f_t_foresight_rows4_letters, i_t_foresight_rows5_count, f_t_foresight_rows5_letters, i_t_foresight_rows6_count, f_t_foresight_rows6_letters, i_t_foresight_rows7_count, f_t_foresight_rows7_letters, i_t_foresight_rows8_count, f_t_foresight_rows8_letters, z_424, z_425)
                else
                  if p3 = 1 then
                    (f_X1_firstSent_s1 z_274 z_275 z_276 i_t_letters_size n_t_foresight_memory n_t_letters_worthToOther f_t_letters_worthToOther n_t_letters_worthToOne f_t_letters_worthToOne i_t_spoken_length i_t_spoken_words f_t_spoken_scales n_t_foresight_rows1_letters n_t_letters_sense f_t_letters_sense f_t_foresight_memory i_t_foresight_rows1_count f_t_foresight_rows1_letters p1 p2).bind fun (r_428, z_429, z_430, z_431) =>
                    some (r_428, z_274, z_275, z_276, z_429, z_430, z_431, i_t_foresight_rows2_count, f_t_foresight_rows2_letters, i_t_foresight_rows3_count, f_t_foresight_rows3_letters, i_t_foresight_rows4_count, f_t_foresight_rows4_letters, i_t_foresight_rows5_count, f_t_foresight_rows5_letters, i_t_foresight_rows6_count, f_t_foresight_rows6_letters, i_t_foresight_rows7_count, f_t_foresight_rows7_letters, i_t_foresight_rows8_count, f_t_foresight_rows8_letters, i_t_foresight_rows0_count, f_t_foresight_rows0_letters)
                  else
                    if p3 = 2 then
                      (f_X1_firstSent_s2 z_274 z_275 z_276 i_t_letters_size n_t_foresight_memory n_t_letters_worthToOther f_t_letters_worthToOther n_t_letters_worthToOne f_t_letters_worthToOne i_t_spoken_length i_t_spoken_words f_t_spoken_scales n_t_foresight_rows2_letters n_t_letters_sense f_t_letters_sense n_t_foresight_rows1_letters f_t_foresight_memory i_t_foresight_rows2_count f_t_foresight_rows2_letters i_t_foresight_rows1_count f_t_foresight_rows1_letters p1 p2).bind fun (r_434, z_435, z_436, z_437, z_438, z_439) =>
                      some (r_434, z_274, z_275, z_276, z_435, z_438, z_439, z_436, z_437, i_t_foresight_rows3_count, f_t_foresight_rows3_letters, i_t_foresight_rows4_count, f_t_foresight_rows4_letters, i_t_foresight_rows5_count, f_t_foresight_rows5_letters, i_t_foresight_rows6_count, f_t_foresight_rows6_letters, i_t_foresight_rows7_count, f_t_foresight_rows7_letters, i_t_foresight_rows8_count, f_t_foresight_rows8_letters, i_t_foresight_rows0_count, f_t_foresight_rows0_letters)
                    else
                      if p3 = 3 then
                        (f_X1_firstSent_s3 z_274 z_275 z_276 i_t_letters_size n_t_foresight_memory n_t_letters_worthToOther f_t_letters_worthToOther n_t_letters_worthToOne f_t_letters_worthToOne i_t_spoken_length i_t_spoken_words f_t_spoken_scales n_t_foresight_rows3_letters n_t_letters_sense f_t_letters_sense n_t_foresight_rows2_letters n_t_foresight_rows1_letters f_t_foresight_memory i_t_foresight_rows3_count f_t_foresight_rows3_letters i_t_foresight_rows2_count f_t_foresight_rows2_letters i_t_foresight_rows1_count f_t_foresight_rows1_letters p1 p2).bind fun (r_442, z_443, z_444, z_445, z_446, z_447, z_448, z_449) =>
                        some (r_442, z_274, z_275, z_276, z_443, z_448, z_449, z_446, z_447, z_444, z_445, i_t_foresight_rows4_count, f_t_foresight_rows4_letters, i_t_foresight_rows5_count, f_t_foresight_rows5_letters, i_t_foresight_rows6_count, f_t_foresight_rows6_letters, i_t_foresight_rows7_count, f_t_foresight_rows7_letters, i_t_foresight_rows8_count, f_t_foresight_rows8_letters, i_t_foresight_rows0_count, f_t_foresight_rows0_letters)
                      else
                        if p3 = 4 then
                          (f_X1_firstSent_s4 z_274 z_275 z_276 i_t_letters_size n_t_foresight_memory n_t_letters_worthToOther f_t_letters_worthToOther n_t_letters_worthToOne f_t_letters_worthToOne i_t_spoken_length i_t_spoken_words f_t_spoken_scales n_t_foresight_rows4_letters n_t_letters_sense f_t_letters_sense n_t_foresight_rows3_letters n_t_foresight_rows2_letters n_t_foresight_rows1_letters f_t_foresight_memory i_t_foresight_rows4_count f_t_foresight_rows4_letters i_t_foresight_rows3_count f_t_foresight_rows3_letters i_t_foresight_rows2_count f_t_foresight_rows2_letters i_t_foresight_rows1_count f_t_foresight_rows1_letters p1 p2).bind fun (r_452, z_453, z_454, z_455, z_456, z_457, z_458, z_459, z_460, z_461) =>
                          some (r_452, z_274, z_275, z_276, z_453, z_460, z_461, z_458, z_459, z_456, z_457, z_454, z_455, i_t_foresight_rows5_count, f_t_foresight_rows5_letters, i_t_foresight_rows6_count, f_t_foresight_rows6_letters, i_t_foresight_rows7_count, f_t_foresight_rows7_letters, i_t_foresight_rows8_count, f_t_foresight_rows8_letters, i_t_foresight_rows0_count, f_t_foresight_rows0_letters)
                        else
                          if p3 = 5 then
                            (f_X1_firstSent_s5 z_274 z_275 z_276 i_t_letters_size n_t_foresight_memory n_t_letters_worthToOther f_t_letters_worthToOther n_t_letters_worthToOne f_t_letters_worthToOne i_t_spoken_length i_t_spoken_words f_t_spoken_scales n_t_foresight_rows5_letters n_t_letters_sense f_t_letters_sense n_t_foresight_rows4_letters n_t_foresight_rows3_letters n_t_foresight_rows2_letters n_t_foresight_rows1_letters f_t_foresight_memory i_t_foresight_rows5_count f_t_foresight_rows5_letters i_t_foresight_rows4_count f_t_foresight_rows4_letters i_t_foresight_rows3_count f_t_foresight_rows3_letters i_t_foresight_rows2_count f_t_foresight_rows2_letters i_t_foresight_rows1_count f_t_foresight_rows1_letters p1 p2).bind fun (r_464, z_465, z_466, z_467, z_468, z_469, z_470, z_471, z_472, z_473, z_474, z_475) =>
                            some (r_464, z_274, z_275, z_276, z_465, z_474, z_475, z_472, z_473, z_470, z_471, z_468, z_469, z_466, z_467, i_t_foresight_rows6_count, f_t_foresight_rows6_letters, i_t_foresight_rows7_count, f_t_foresight_rows7_letters, i_t_foresight_rows8_count, f_t_foresight_rows8_letters, i_t_foresight_rows0_count, f_t_foresight_rows0_letters)
                          else
                            if p3 = 6 then
                              (f_X1_firstSent_s6 z_274 z_275 z_276 i_t_letters_size n_t_foresight_memory n_t_letters_worthToOther f_t_letters_worthToOther n_t_letters_worthToOne f_t_letters_worthToOne i_t_spoken_length i_t_spoken_words f_t_spoken_scales n_t_foresight_rows6_letters n_t_letters_sense f_t_letters_sense n_t_foresight_rows5_letters n_t_foresight_rows4_letters n_t_foresight_rows3_letters n_t_foresight_rows2_letters n_t_foresight_rows1_letters f_t_foresight_memory i_t_foresight_rows6_count f_t_foresight_rows6_letters i_t_foresight_rows5_count f_t_foresight_rows5_letters i_t_foresight_rows4_count f_t_foresight_rows4_letters i_t_foresight_rows3_count f_t_foresight_rows3_letters i_t_foresight_rows2_count f_t_foresight_rows2_letters i_t_foresight_rows1_count f_t_foresight_rows1_letters p1 p2).bind fun (r_478, z_479, z_480, z_481, z_482, z_483, z_484, z_485, z_486, z_487, z_488, z_489, z_490, z_491) =>
                              some (r_478, z_274, z_275, z_276, z_479, z_490, z_491, z_488, z_489, z_486, z_487, z_484, z_485, z_482, z_483, z_480, z_481, i_t_foresight_rows7_count, f_t_foresight_rows7_letters, i_t_foresight_rows8_count, f_t_foresight_rows8_letters, i_t_foresight_rows0_count, f_t_foresight_rows0_letters)
                            else
                              if p3 = 7 then
                                (f_X1_firstSent_s7 z_274 z_275 z_276 i_t_letters_size n_t_foresight_memory n_t_letters_worthToOther f_t_letters_worthToOther n_t_letters_worthToOne f_t_letters_worthToOne i_t_spoken_length i_t_spoken_words f_t_spoken_scales n_t_foresight_rows7_letters n_t_letters_sense f_t_letters_sense n_t_foresight_rows6_letters n_t_foresight_rows5_letters n_t_foresight_rows4_letters n_t_foresight_rows3_letters n_t_foresight_rows2_letters n_t_foresight_rows1_letters f_t_foresight_memory i_t_foresight_rows7_count f_t_foresight_rows7_letters i_t_foresight_rows6_count f_t_foresight_rows6_letters i_t_foresight_rows5_count f_t_foresight_rows5_letters i_t_foresight_rows4_count f_t_foresight_rows4_letters i_t_foresight_rows3_count f_t_foresight_rows3_letters i_t_foresight_rows2_count f_t_foresight_rows2_letters i_t_foresight_rows1_count f_t_foresight_rows1_letters p1 p2).bind fun (r_494, z_495, z_496, z_497, z_498, z_499, z_500, z_501, z_502, z_503, z_504, z_505, z_506, z_507, z_508, z_509) =>
                                some (r_494, z_274, z_275, z_276, z_495, z_508, z_509, z_506, z_507, z_504, z_505, z_502, z_503, z_500, z_501, z_498, z_499, z_496, z_497, i_t_foresight_rows8_count, f_t_foresight_rows8_letters, i_t_foresight_rows0_count, f_t_foresight_rows0_letters)
                              else
                                if p3 = 8 then
                                  (f_X1_firstSent_s8 z_274 z_275 z_276 i_t_letters_size n_t_foresight_memory n_t_letters_worthToOther f_t_letters_worthToOther n_t_letters_worthToOne f_t_letters_worthToOne i_t_spoken_length i_t_spoken_words f_t_spoken_scales n_t_foresight_rows8_letters n_t_letters_sense f_t_letters_sense n_t_foresight_rows7_letters n_t_foresight_rows6_letters n_t_foresight_rows5_letters n_t_foresight_rows4_letters n_t_foresight_rows3_letters n_t_foresight_rows2_letters n_t_foresight_rows1_letters f_t_foresight_memory i_t_foresight_rows8_count f_t_foresight_rows8_letters i_t_foresight_rows7_count f_t_foresight_rows7_letters i_t_foresight_rows6_count f_t_foresight_rows6_letters i_t_foresight_rows5_count f_t_foresight_rows5_letters i_t_foresight_rows4_count f_t_foresight_rows4_letters i_t_foresight_rows3_count f_t_foresight_rows3_letters i_t_foresight_rows2_count f_t_foresight_rows2_letters i_t_foresight_rows1_count f_t_foresight_rows1_letters p1 p2).bind fun (r_512, z_513, z_514, z_515, z_516, z_517, z_518, z_519, z_520, z_521, z_522, z_523, z_524, z_525, z_526, z_527, z_528, z_529) =>
                                  some (r_512, z_274, z_275, z_276, z_513, z_528, z_529, z_526, z_527, z_524, z_525, z_522, z_523, z_520, z_521, z_518, z_519, z_516, z_517, z_514, z_515, i_t_foresight_rows0_count, f_t_foresight_rows0_letters)
                                else
                                  none
              else
                if p3 = 0 then
                  (f_X1_look_s0 p1 p2).bind fun r_280 =>
                  if p4 = 2 then
                    some ((r_280 - r_280 / 4096 * 4096), z_274, z_275, z_276, f_t_foresight_memory, i_t_foresight_rows1_count, f_t_foresight_rows1_letters, i_t_foresight_rows2_count, f_t_foresight_rows2_letters, i_t_foresight_rows3_count, f_t_foresight_rows3_letters, i_t_foresight_rows4_count, f_t_foresight_rows4_letters, i_t_foresight_rows5_count, f_t_foresight_rows5_letters, i_t_foresight_rows6_count, f_t_foresight_rows6_letters, i_t_foresight_rows7_count, f_t_foresight_rows7_letters, i_t_foresight_rows8_count, f_t_foresight_rows8_letters, i_t_foresight_rows0_count, f_t_foresight_rows0_letters)
                  else
                    if p4 = 3 then
                      some ((r_280 / 4096), z_274, z_275, z_276, f_t_foresight_memory, i_t_foresight_rows1_count, f_t_foresight_rows1_letters, i_t_foresight_rows2_count, f_t_foresight_rows2_letters, i_t_foresight_rows3_count, f_t_foresight_rows3_letters, i_t_foresight_rows4_count, f_t_foresight_rows4_letters, i_t_foresight_rows5_count, f_t_foresight_rows5_letters, i_t_foresight_rows6_count, f_t_foresight_rows6_letters, i_t_foresight_rows7_count, f_t_foresight_rows7_letters, i_t_foresight_rows8_count, f_t_foresight_rows8_letters, i_t_foresight_rows0_count, f_t_foresight_rows0_letters)
                    else
                      (f_X3_worthTo i_t_letters_size n_t_letters_worthToOther f_t_letters_worthToOther n_t_letters_worthToOne f_t_letters_worthToOne p4 (r_280 - r_280 / 4096 * 4096)).bind fun r_284 =>
                      some (r_284, z_274, z_275, z_276, f_t_foresight_memory, i_t_foresight_rows1_count, f_t_foresight_rows1_letters, i_t_foresight_rows2_count, f_t_foresight_rows2_letters, i_t_foresight_rows3_count, f_t_foresight_rows3_letters, i_t_foresight_rows4_count, f_t_foresight_rows4_letters, i_t_foresight_rows5_count, f_t_foresight_rows5_letters, i_t_foresight_rows6_count, f_t_foresight_rows6_letters, i_t_foresight_rows7_count, f_t_foresight_rows7_letters, i_t_foresight_rows8_count, f_t_foresight_rows8_letters, i_t_foresight_rows0_count, f_t_foresight_rows0_letters)
                else
                  if p3 = 1 then
                    (f_X1_look_s1 z_274 z_275 z_276 i_t_letters_size n_t_foresight_memory n_t_letters_worthToOther f_t_letters_worthToOther n_t_letters_worthToOne f_t_letters_worthToOne i_t_spoken_length i_t_spoken_words f_t_spoken_scales n_t_foresight_rows1_letters n_t_letters_sense f_t_letters_sense f_t_foresight_memory i_t_foresight_rows1_count f_t_foresight_rows1_letters p1 p2).bind fun (r_287, z_288, z_289, z_290) =>
                    if p4 = 2 then
                      some ((r_287 - r_287 / 4096 * 4096), z_274, z_275, z_276, z_288, z_289, z_290, i_t_foresight_rows2_count, f_t_foresight_rows2_letters, i_t_foresight_rows3_count, f_t_foresight_rows3_letters, i_t_foresight_rows4_count, f_t_foresight_rows4_letters, i_t_foresight_rows5_count, f_t_foresight_rows5_letters, i_t_foresight_rows6_count, f_t_foresight_rows6_letters, i_t_foresight_rows7_count, f_t_foresight_rows7_letters, i_t_foresight_rows8_count, f_t_foresight_rows8_letters, i_t_foresight_rows0_count, f_t_foresight_rows0_letters)
                    else
                      if p4 = 3 then
                        some ((r_287 / 4096), z_274, z_275, z_276, z_288, z_289, z_290, i_t_foresight_rows2_count, f_t_foresight_rows2_letters, i_t_foresight_rows3_count, f_t_foresight_rows3_letters, i_t_foresight_rows4_count, f_t_foresight_rows4_letters, i_t_foresight_rows5_count, f_t_foresight_rows5_letters, i_t_foresight_rows6_count, f_t_foresight_rows6_letters, i_t_foresight_rows7_count, f_t_foresight_rows7_letters, i_t_foresight_rows8_count, f_t_foresight_rows8_letters, i_t_foresight_rows0_count, f_t_foresight_rows0_letters)
                      else
                        (f_X3_worthTo i_t_letters_size n_t_letters_worthToOther f_t_letters_worthToOther n_t_letters_worthToOne f_t_letters_worthToOne p4 (r_287 - r_287 / 4096 * 4096)).bind fun r_294 =>
                        some (r_294, z_274, z_275, z_276, z_288, z_289, z_290, i_t_foresight_rows2_count, f_t_foresight_rows2_letters, i_t_foresight_rows3_count, f_t_foresight_rows3_letters, i_t_foresight_rows4_count, f_t_foresight_rows4_letters, i_t_foresight_rows5_count, f_t_foresight_rows5_letters, i_t_foresight_rows6_count, f_t_foresight_rows6_letters, i_t_foresight_rows7_count, f_t_foresight_rows7_letters, i_t_foresight_rows8_count, f_t_foresight_rows8_letters, i_t_foresight_rows0_count, f_t_foresight_rows0_letters)
                  else
                    if p3 = 2 then
                      (f_X1_look_s2 z_274 z_275 z_276 i_t_letters_size n_t_foresight_memory n_t_letters_worthToOther f_t_letters_worthToOther n_t_letters_worthToOne f_t_letters_worthToOne i_t_spoken_length i_t_spoken_words f_t_spoken_scales n_t_foresight_rows2_letters n_t_letters_sense f_t_letters_sense n_t_foresight_rows1_letters f_t_foresight_memory i_t_foresight_rows2_count f_t_foresight_rows2_letters i_t_foresight_rows1_count f_t_foresight_rows1_letters p1 p2).bind fun (r_297, z_298, z_299, z_300, z_301, z_302) =>
                      if p4 = 2 then
                        some ((r_297 - r_297 / 4096 * 4096), z_274, z_275, z_276, z_298, z_301, z_302, z_299, z_300, i_t_foresight_rows3_count, f_t_foresight_rows3_letters, i_t_foresight_rows4_count, f_t_foresight_rows4_letters, i_t_foresight_rows5_count, f_t_foresight_rows5_letters, i_t_foresight_rows6_count, f_t_foresight_rows6_letters, i_t_foresight_rows7_count, f_t_foresight_rows7_letters, i_t_foresight_rows8_count, f_t_foresight_rows8_letters, i_t_foresight_rows0_count, f_t_foresight_rows0_letters)
                      else
                        if p4 = 3 then
                          some ((r_297 / 4096), z_274, z_275, z_276, z_298, z_301, z_302, z_299, z_300, i_t_foresight_rows3_count, f_t_foresight_rows3_letters, i_t_foresight_rows4_count, f_t_foresight_rows4_letters, i_t_foresight_rows5_count, f_t_foresight_rows5_letters, i_t_foresight_rows6_count, f_t_foresight_rows6_letters, i_t_foresight_rows7_count, f_t_foresight_rows7_letters, i_t_foresight_rows8_count, f_t_foresight_rows8_letters, i_t_foresight_rows0_count, f_t_foresight_rows0_letters)
                        else
                          (f_X3_worthTo i_t_letters_size n_t_letters_worthToOther f_t_letters_worthToOther n_t_letters_worthToOne f_t_letters_worthToOne p4 (r_297 - r_297 / 4096 * 4096)).bind fun r_306 =>
                          some (r_306, z_274, z_275, z_276, z_298, z_301, z_302, z_299, z_300, i_t_foresight_rows3_count, f_t_foresight_rows3_letters, i_t_foresight_rows4_count, f_t_foresight_rows4_letters, i_t_foresight_rows5_count, f_t_foresight_rows5_letters, i_t_foresight_rows6_count, f_t_foresight_rows6_letters, i_t_foresight_rows7_count, f_t_foresight_rows7_letters, i_t_foresight_rows8_count, f_t_foresight_rows8_letters, i_t_foresight_rows0_count, f_t_foresight_rows0_letters)
                    else
                      if p3 = 3 then
                        (f_X1_look_s3 z_274 z_275 z_276 i_t_letters_size n_t_foresight_memory n_t_letters_worthToOther f_t_letters_worthToOther n_t_letters_worthToOne f_t_letters_worthToOne i_t_spoken_length i_t_spoken_words f_t_spoken_scales n_t_foresight_rows3_letters n_t_letters_sense f_t_letters_sense n_t_foresight_rows2_letters n_t_foresight_rows1_letters f_t_foresight_memory i_t_foresight_rows3_count f_t_foresight_rows3_letters i_t_foresight_rows2_count f_t_foresight_rows2_letters i_t_foresight_rows1_count f_t_foresight_rows1_letters p1 p2).bind fun (r_309, z_310, z_311, z_312, z_313, z_314, z_315, z_316) =>
                        if p4 = 2 then
                          some ((r_309 - r_309 / 4096 * 4096), z_274, z_275, z_276, z_310, z_315, z_316, z_313, z_314, z_311, z_312, i_t_foresight_rows4_count, f_t_foresight_rows4_letters, i_t_foresight_rows5_count, f_t_foresight_rows5_letters, i_t_foresight_rows6_count, f_t_foresight_rows6_letters, i_t_foresight_rows7_count, f_t_foresight_rows7_letters, i_t_foresight_rows8_count, f_t_foresight_rows8_letters, i_t_foresight_rows0_count, f_t_foresight_rows0_letters)
                        else
                          if p4 = 3 then
                            some ((r_309 / 4096), z_274, z_275, z_276, z_310, z_315, z_316, z_313, z_314, z_311, z_312, i_t_foresight_rows4_count, f_t_foresight_rows4_letters, i_t_foresight_rows5_count, f_t_foresight_rows5_letters, i_t_foresight_rows6_count, f_t_foresight_rows6_letters, i_t_foresight_rows7_count, f_t_foresight_rows7_letters, i_t_foresight_rows8_count, f_t_foresight_rows8_letters, i_t_foresight_rows0_count, f_t_foresight_rows0_letters)
                          else
                            (f_X3_worthTo i_t_letters_size n_t_letters_worthToOther f_t_letters_worthToOther n_t_letters_worthToOne f_t_letters_worthToOne p4 (r_309 - r_309 / 4096 * 4096)).bind fun r_320 =>
                            some (r_320, z_274, z_275, z_276, z_310, z_315, z_316, z_313, z_314, z_311, z_312, i_t_foresight_rows4_count, f_t_foresight_rows4_letters, i_t_foresight_rows5_count, f_t_foresight_rows5_letters, i_t_foresight_rows6_count, f_t_foresight_rows6_letters, i_t_foresight_rows7_count, f_t_foresight_rows7_letters, i_t_foresight_rows8_count, f_t_foresight_rows8_letters, i_t_foresight_rows0_count, f_t_foresight_rows0_letters)
                      else
                        if p3 = 4 then
                          (f_X1_look_s4 z_274 z_275 z_276 i_t_letters_size n_t_foresight_memory n_t_letters_worthToOther f_t_letters_worthToOther n_t_letters_worthToOne f_t_letters_worthToOne i_t_spoken_length i_t_spoken_words f_t_spoken_scales n_t_foresight_rows4_letters n_t_letters_sense f_t_letters_sense n_t_foresight_rows3_letters n_t_foresight_rows2_letters n_t_foresight_rows1_letters f_t_foresight_memory i_t_foresight_rows4_count f_t_foresight_rows4_letters i_t_foresight_rows3_count f_t_foresight_rows3_letters i_t_foresight_rows2_count f_t_foresight_rows2_letters i_t_foresight_rows1_count f_t_foresight_rows1_letters p1 p2).bind fun (r_323, z_324, z_325, z_326, z_327, z_328, z_329, z_330, z_331, z_332) =>
                          if p4 = 2 then
                            some ((r_323 - r_323 / 4096 * 4096), z_274, z_275, z_276, z_324, z_331, z_332, z_329, z_330, z_327, z_328, z_325, z_326, i_t_foresight_rows5_count, f_t_foresight_rows5_letters, i_t_foresight_rows6_count, f_t_foresight_rows6_letters, i_t_foresight_rows7_count, f_t_foresight_rows7_letters, i_t_foresight_rows8_count, f_t_foresight_rows8_letters, i_t_foresight_rows0_count, f_t_foresight_rows0_letters)
                          else
                            if p4 = 3 then
                              some ((r_323 / 4096), z_274, z_275, z_276, z_324, z_331, z_332, z_329, z_330, z_327, z_328, z_325, z_326, i_t_foresight_rows5_count, f_t_foresight_rows5_letters, i_t_foresight_rows6_count, f_t_foresight_rows6_letters, i_t_foresight_rows7_count, f_t_foresight_rows7_letters, i_t_foresight_rows8_count, f_t_foresight_rows8_letters, i_t_foresight_rows0_count, f_t_foresight_rows0_letters)
                            else
                              (f_X3_worthTo i_t_letters_size n_t_letters_worthToOther f_t_letters_worthToOther n_t_letters_worthToOne f_t_letters_worthToOne p4 (r_323 - r_323 / 4096 * 4096)).bind fun r_336 =>
                              some (r_336, z_274, z_275, z_276, z_324, z_331, z_332, z_329, z_330, z_327, z_328, z_325, z_326, i_t_foresight_rows5_count, f_t_foresight_rows5_letters, i_t_foresight_rows6_count, f_t_foresight_rows6_letters, i_t_foresight_rows7_count, f_t_foresight_rows7_letters, i_t_foresight_rows8_count, f_t_foresight_rows8_letters, i_t_foresight_rows0_count, f_t_foresight_rows0_letters)
                        else
                          if p3 = 5 then
                            (f_X1_look_s5 z_274 z_275 z_276 i_t_letters_size n_t_foresight_memory n_t_letters_worthToOther f_t_letters_worthToOther n_t_letters_worthToOne f_t_letters_worthToOne i_t_spoken_length i_t_spoken_words f_t_spoken_scales n_t_foresight_rows5_letters n_t_letters_sense f_t_letters_sense n_t_foresight_rows4_letters n_t_foresight_rows3_letters n_t_foresight_rows2_letters n_t_foresight_rows1_letters f_t_foresight_memory i_t_foresight_rows5_count f_t_foresight_rows5_letters i_t_foresight_rows4_count f_t_foresight_rows4_letters i_t_foresight_rows3_count f_t_foresight_rows3_letters i_t_foresight_rows2_count f_t_foresight_rows2_letters i_t_foresight_rows1_count f_t_foresight_rows1_letters p1 p2).bind fun (r_339, z_340, z_341, z_342, z_343, z_344, z_345, z_346, z_347, z_348, z_349, z_350) =>
                            if p4 = 2 then
                              some ((r_339 - r_339 / 4096 * 4096), z_274, z_275, z_276, z_340, z_349, z_350, z_347, z_348, z_345, z_346, z_343, z_344, z_341, z_342, i_t_foresight_rows6_count, f_t_foresight_rows6_letters, i_t_foresight_rows7_count, f_t_foresight_rows7_letters, i_t_foresight_rows8_count, f_t_foresight_rows8_letters, i_t_foresight_rows0_count, f_t_foresight_rows0_letters)
                            else
                              if p4 = 3 then
                                some ((r_339 / 4096), z_274, z_275, z_276, z_340, z_349, z_350, z_347, z_348, z_345, z_346, z_343, z_344, z_341, z_342, i_t_foresight_rows6_count, f_t_foresight_rows6_letters, i_t_foresight_rows7_count, f_t_foresight_rows7_letters, i_t_foresight_rows8_count, f_t_foresight_rows8_letters, i_t_foresight_rows0_count, f_t_foresight_rows0_letters)
                              else
                                (f_X3_worthTo i_t_letters_size n_t_letters_worthToOther f_t_letters_worthToOther n_t_letters_worthToOne f_t_letters_worthToOne p4 (r_339 - r_339 / 4096 * 4096)).bind fun r_354 =>
                                some (r_354, z_274, z_275, z_276, z_340, z_349, z_350, z_347, z_348, z_345, z_346, z_343, z_344, z_341, z_342, i_t_foresight_rows6_count, f_t_foresight_rows6_letters, i_t_foresight_rows7_count, f_t_foresight_rows7_letters, i_t_foresight_rows8_count, f_t_foresight_rows8_letters, i_t_foresight_rows0_count, f_t_foresight_rows0_letters)
                          else
                            if p3 = 6 then
                              (f_X1_look_s6 z_274 z_275 z_276 i_t_letters_size n_t_foresight_memory n_t_letters_worthToOther f_t_letters_worthToOther n_t_letters_worthToOne f_t_letters_worthToOne i_t_spoken_length i_t_spoken_words f_t_spoken_scales n_t_foresight_rows6_letters n_t_letters_sense f_t_letters_sense n_t_foresight_rows5_letters n_t_foresight_rows4_letters n_t_foresight_rows3_letters n_t_foresight_rows2_letters n_t_foresight_rows1_letters f_t_foresight_memory i_t_foresight_rows6_count f_t_foresight_rows6_letters i_t_foresight_rows5_count f_t_foresight_rows5_letters i_t_foresight_rows4_count f_t_foresight_rows4_letters i_t_foresight_rows3_count f_t_foresight_rows3_letters i_t_foresight_rows2_count f_t_foresight_rows2_letters i_t_foresight_rows1_count f_t_foresight_rows1_letters p1 p2).bind fun (r_357, z_358, z_359, z_360, z_361, z_362, z_363, z_364, z_365, z_366, z_367, z_368, z_369, z_370) =>
                              if p4 = 2 then
                                some ((r_357 - r_357 / 4096 * 4096), z_274, z_275, z_276, z_358, z_369, z_370, z_367, z_368, z_365, z_366, z_363, z_364, z_361, z_362, z_359, z_360, i_t_foresight_rows7_count, f_t_foresight_rows7_letters, i_t_foresight_rows8_count, f_t_foresight_rows8_letters, i_t_foresight_rows0_count, f_t_foresight_rows0_letters)
                              else
                                if p4 = 3 then
                                  some ((r_357 / 4096), z_274, z_275, z_276, z_358, z_369, z_370, z_367, z_368, z_365, z_366, z_363, z_364, z_361, z_362, z_359, z_360, i_t_foresight_rows7_count, f_t_foresight_rows7_letters, i_t_foresight_rows8_count, f_t_foresight_rows8_letters, i_t_foresight_rows0_count, f_t_foresight_rows0_letters)
                                else
                                  (f_X3_worthTo i_t_letters_size n_t_letters_worthToOther f_t_letters_worthToOther n_t_letters_worthToOne f_t_letters_worthToOne p4 (r_357 - r_357 / 4096 * 4096)).bind fun r_374 =>
                                  some (r_374, z_274, z_275, z_276, z_358, z_369, z_370, z_367, z_368, z_365, z_366, z_363, z_364, z_361, z_362, z_359, z_360, i_t_foresight_rows7_count, f_t_foresight_rows7_letters, i_t_foresight_rows8_count, f_t_foresight_rows8_letters, i_t_foresight_rows0_count, f_t_foresight_rows0_letters)
                            else
                              if p3 = 7 then
                                (f_X1_look_s7 z_274 z_275 z_276 i_t_letters_size n_t_foresight_memory n_t_letters_worthToOther f_t_letters_worthToOther n_t_letters_worthToOne f_t_letters_worthToOne i_t_spoken_length i_t_spoken_words f_t_spoken_scales n_t_foresight_rows7_letters n_t_letters_sense f_t_letters_sense n_t_foresight_rows6_letters n_t_foresight_rows5_letters n_t_foresight_rows4_letters n_t_foresight_rows3_letters n_t_foresight_rows2_letters n_t_foresight_rows1_letters f_t_foresight_memory i_t_foresight_rows7_count f_t_foresight_rows7_letters i_t_foresight_rows6_count f_t_foresight_rows6_letters i_t_foresight_rows5_count f_t_foresight_rows5_letters i_t_foresight_rows4_count f_t_foresight_rows4_letters i_t_foresight_rows3_count f_t_foresight_rows3_letters i_t_foresight_rows2_count f_t_foresight_rows2_letters i_t_foresight_rows1_count f_t_foresight_rows1_letters p1 p2).bind fun (r_377, z_378, z_379, z_380, z_381, z_382, z_383, z_384, z_385, z_386, z_387, z_388, z_389, z_390, z_391, z_392) =>
                                if p4 = 2 then
                                  some ((r_377 - r_377 / 4096 * 4096), z_274, z_275, z_276, z_378, z_391, z_392, z_389, z_390, z_387, z_388, z_385, z_386, z_383, z_384, z_381, z_382, z_379, z_380, i_t_foresight_rows8_count, f_t_foresight_rows8_letters, i_t_foresight_rows0_count, f_t_foresight_rows0_letters)
                                else
                                  if p4 = 3 then
                                    some ((r_377 / 4096), z_274, z_275, z_276, z_378, z_391, z_392, z_389, z_390, z_387, z_388, z_385, z_386, z_383, z_384, z_381, z_382, z_379, z_380, i_t_foresight_rows8_count, f_t_foresight_rows8_letters, i_t_foresight_rows0_count, f_t_foresight_rows0_letters)
                                  else
                                    (f_X3_worthTo i_t_letters_size n_t_letters_worthToOther f_t_letters_worthToOther n_t_letters_worthToOne f_t_letters_worthToOne p4 (r_377 - r_377 / 4096 * 4096)).bind fun r_396 =>
                                    some (r_396, z_274, z_275, z_276, z_378, z_391, z_392, z_389, z_390, z_387, z_388, z_385, z_386, z_383, z_384, z_381, z_382, z_379, z_380, i_t_foresight_rows8_count, f_t_foresight_rows8_letters, i_t_foresight_rows0_count, f_t_foresight_rows0_letters)
                              else
                                if p3 = 8 then
                                  (f_X1_look_s8 z_274 z_275 z_276 i_t_letters_size n_t_foresight_memory n_t_letters_worthToOther f_t_letters_worthToOther n_t_letters_worthToOne f_t_letters_worthToOne i_t_spoken_length i_t_spoken_words f_t_spoken_scales n_t_foresight_rows8_letters n_t_letters_sense f_t_letters_sense n_t_foresight_rows7_letters n_t_foresight_rows6_letters n_t_foresight_rows5_letters n_t_foresight_rows4_letters n_t_foresight_rows3_letters n_t_foresight_rows2_letters n_t_foresight_rows1_letters f_t_foresight_memory i_t_foresight_rows8_count f_t_foresight_rows8_letters i_t_foresight_rows7_count f_t_foresight_rows7_letters i_t_foresight_rows6_count f_t_foresight_rows6_letters i_t_foresight_rows5_count f_t_foresight_rows5_letters i_t_foresight_rows4_count f_t_foresight_rows4_letters i_t_foresight_rows3_count f_t_foresight_rows3_letters i_t_foresight_rows2_count f_t_foresight_rows2_letters i_t_foresight_rows1_count f_t_foresight_rows1_letters p1 p2).bind fun (r_399, z_400, z_401, z_402, z_403, z_404, z_405, z_406, z_407, z_408, z_409, z_410, z_411, z_412, z_413, z_414, z_415, z_416) =>
                                  if p4 = 2 then
                                    some ((r_399 - r_399 / 4096 * 4096), z_274, z_275, z_276, z_400, z_415, z_416, z_413, z_414, z_411, z_412, z_409, z_410, z_407, z_408, z_405, z_406, z_403, z_404, z_401, z_402, i_t_foresight_rows0_count, f_t_foresight_rows0_letters)
                                  else
                                    if p4 = 3 then
                                      some ((r_399 / 4096), z_274, z_275, z_276, z_400, z_415, z_416, z_413, z_414, z_411, z_412, z_409, z_410, z_407, z_408, z_405, z_406, z_403, z_404, z_401, z_402, i_t_foresight_rows0_count, f_t_foresight_rows0_letters)
                                    else
                                      (f_X3_worthTo i_t_letters_size n_t_letters_worthToOther f_t_letters_worthToOther n_t_letters_worthToOne f_t_letters_worthToOne p4 (r_399 - r_399 / 4096 * 4096)).bind fun r_420 =>
                                      some (r_420, z_274, z_275, z_276, z_400, z_415, z_416, z_413, z_414, z_411, z_412, z_409, z_410, z_407, z_408, z_405, z_406, z_403, z_404, z_401, z_402, i_t_foresight_rows0_count, f_t_foresight_rows0_letters)
                                else
                                  none
            else
              (f_X8_stamp i_t_letters_tongues i_t_now_law i_t_now_way).bind fun r_13 =>
              (f_X1_useRules i_t_foresight_law i_t_foresight_nonsense i_t_foresight_stamp i_t_now_law 0 r_13).bind fun (z_15, z_16, z_17) =>
              if p4 = 4 then
                if p3 = 0 then
                  (f_X1_firstSent_s0 z_15 z_16 i_t_letters_size n_t_letters_worthToOther f_t_letters_worthToOther n_t_letters_worthToOne f_t_letters_worthToOne i_t_spoken_length i_t_spoken_words f_t_spoken_scales n_t_foresight_rows0_letters n_t_letters_sense f_t_letters_sense i_t_foresight_rows0_count f_t_foresight_rows0_letters p1 p2).bind fun (r_164, z_165, z_166) =>
                  some (r_164, z_15, z_16, z_17, f_t_foresight_memory, i_t_foresight_rows1_count, f_t_foresight_rows1_letters, i_t_foresight_rows2_count, f_t_foresight_rows2_letters, i_t_foresight_rows3_count, f_t_foresight_rows3_letters, i_t_foresight_rows4_count, f_t_foresight_rows4_letters, i_t_foresight_rows5_count, f_t_foresight_rows5_letters, i_t_foresight_rows6_count, f_t_foresight_rows6_letters, i_t_foresight_rows7_count, f_t_foresight_rows7_letters, i_t_foresight_rows8_count, f_t_foresight_rows8_letters, z_165, z_166)
                else
                  if p3 = 1 then
                    (f_X1_firstSent_s1 z_15 z_16 z_17 i_t_letters_size n_t_foresight_memory n_t_letters_worthToOther f_t_letters_worthToOther n_t_letters_worthToOne f_t_letters_worthToOne i_t_spoken_length i_t_spoken_words f_t_spoken_scales n_t_foresight_rows1_letters n_t_letters_sense f_t_letters_sense f_t_foresight_memory i_t_foresight_rows1_count f_t_foresight_rows1_letters p1 p2).bind fun (r_169, z_170, z_171, z_172) =>
                    some (r_169, z_15, z_16, z_17, z_170, z_171, z_172, i_t_foresight_rows2_count, f_t_foresight_rows2_letters, i_t_foresight_rows3_count, f_t_foresight_rows3_letters, i_t_foresight_rows4_count, f_t_foresight_rows4_letters, i_t_foresight_rows5_count, f_t_foresight_rows5_letters, i_t_foresight_rows6_count, f_t_foresight_rows6_letters, i_t_foresight_rows7_count, f_t_foresight_rows7_letters, i_t_foresight_rows8_count, f_t_foresight_rows8_letters, i_t_foresight_rows0_count, f_t_foresight_rows0_letters)
                  else
                    if p3 = 2 then
                      (f_X1_firstSent_s2 z_15 z_16 z_17 i_t_letters_size n_t_foresight_memory n_t_letters_worthToOther f_t_letters_worthToOther n_t_letters_worthToOne f_t_letters_worthToOne i_t_spoken_length i_t_spoken_words f_t_spoken_scales n_t_foresight_rows2_letters n_t_letters_sense f_t_letters_sense n_t_foresight_rows1_letters f_t_foresight_memory i_t_foresight_rows2_count f_t_foresight_rows2_letters i_t_foresight_rows1_count f_t_foresight_rows1_letters p1 p2).bind fun (r_175, z_176, z_177, z_178, z_179, z_180) =>
                      some (r_175, z_15, z_16, z_17, z_176, z_179, z_180, z_177, z_178, i_t_foresight_rows3_count, f_t_foresight_rows3_letters, i_t_foresight_rows4_count, f_t_foresight_rows4_letters, i_t_foresight_rows5_count, f_t_foresight_rows5_letters, i_t_foresight_rows6_count, f_t_foresight_rows6_letters, i_t_foresight_rows7_count, f_t_foresight_rows7_letters, i_t_foresight_rows8_count, f_t_foresight_rows8_letters, i_t_foresight_rows0_count, f_t_foresight_rows0_letters)
                    else
                      if p3 = 3 then
                        (f_X1_firstSent_s3 z_15 z_16 z_17 i_t_letters_size n_t_foresight_memory n_t_letters_worthToOther f_t_letters_worthToOther n_t_letters_worthToOne f_t_letters_worthToOne i_t_spoken_length i_t_spoken_words f_t_spoken_scales n_t_foresight_rows3_letters n_t_letters_sense f_t_letters_sense n_t_foresight_rows2_letters n_t_foresight_rows1_letters f_t_foresight_memory i_t_foresight_rows3_count f_t_foresight_rows3_letters i_t_foresight_rows2_count f_t_foresight_rows2_letters i_t_foresight_rows1_count f_t_foresight_rows1_letters p1 p2).bind fun (r_183, z_184, z_185, z_186, z_187, z_188, z_189, z_190) =>
                        some (r_183, z_15, z_16, z_17, z_184, z_189, z_190, z_187, z_188, z_185, z_186, i_t_foresight_rows4_count, f_t_foresight_rows4_letters, i_t_foresight_rows5_count, f_t_foresight_rows5_letters, i_t_foresight_rows6_count, f_t_foresight_rows6_letters, i_t_foresight_rows7_count, f_t_foresight_rows7_letters, i_t_foresight_rows8_count, f_t_foresight_rows8_letters, i_t_foresight_rows0_count, f_t_foresight_rows0_letters)
                      else
                        if p3 = 4 then
                          (f_X1_firstSent_s4 z_15 z_16 z_17 i_t_letters_size n_t_foresight_memory n_t_letters_worthToOther f_t_letters_worthToOther n_t_letters_worthToOne f_t_letters_worthToOne i_t_spoken_length i_t_spoken_words f_t_spoken_scales n_t_foresight_rows4_letters n_t_letters_sense f_t_letters_sense n_t_foresight_rows3_letters n_t_foresight_rows2_letters n_t_foresight_rows1_letters f_t_foresight_memory i_t_foresight_rows4_count f_t_foresight_rows4_letters i_t_foresight_rows3_count f_t_foresight_rows3_letters i_t_foresight_rows2_count f_t_foresight_rows2_letters i_t_foresight_rows1_count f_t_foresight_rows1_letters p1 p2).bind fun (r_193, z_194, z_195, z_196, z_197, z_198, z_199, z_200, z_201, z_202) =>
                          some (r_193, z_15, z_16, z_17, z_194, z_201, z_202, z_199, z_200, z_197, z_198, z_195, z_196, i_t_foresight_rows5_count, f_t_foresight_rows5_letters, i_t_foresight_rows6_count, f_t_foresight_rows6_letters, i_t_foresight_rows7_count, f_t_foresight_rows7_letters, i_t_foresight_rows8_count, f_t_foresight_rows8_letters, i_t_foresight_rows0_count, f_t_foresight_rows0_letters)
                        else
                          if p3 = 5 then
                            (f_X1_firstSent_s5 z_15 z_16 z_17 i_t_letters_size n_t_foresight_memory n_t_letters_worthToOther f_t_letters_worthToOther n_t_letters_worthToOne f_t_letters_worthToOne i_t_spoken_length i_t_spoken_words f_t_spoken_scales n_t_foresight_rows5_letters n_t_letters_sense f_t_letters_sense n_t_foresight_rows4_letters n_t_foresight_rows3_letters n_t_foresight_rows2_letters n_t_foresight_rows1_letters f_t_foresight_memory i_t_foresight_rows5_count f_t_foresight_rows5_letters i_t_foresight_rows4_count f_t_foresight_rows4_letters i_t_foresight_rows3_count f_t_foresight_rows3_letters i_t_foresight_rows2_count f_t_foresight_rows2_letters i_t_foresight_rows1_count f_t_foresight_rows1_letters p1 p2).bind fun (r_205, z_206, z_207, z_208, z_209, z_210, z_211, z_212, z_213, z_214, z_215, z_216) =>
                            some (r_205, z_15, z_16, z_17, z_206, z_215, z_216, z_213, z_214, z_211, z_212, z_209, z_210, z_207, z_208, i_t_foresight_rows6_count, f_t_foresight_rows6_letters, i_t_foresight_rows7_count, f_t_foresight_rows7_letters, i_t_foresight_rows8_count, f_t_foresight_rows8_letters, i_t_foresight_rows0_count, f_t_foresight_rows0_letters)
                          else
                            if p3 = 6 then
                              (f_X1_firstSent_s6 z_15 z_16 z_17 i_t_letters_size n_t_foresight_memory n_t_letters_worthToOther f_t_letters_worthToOther n_t_letters_worthToOne f_t_letters_worthToOne i_t_spoken_length i_t_spoken_words f_t_spoken_scales n_t_foresight_rows6_letters n_t_letters_sense f_t_letters_sense n_t_foresight_rows5_letters n_t_foresight_rows4_letters n_t_foresight_rows3_letters n_t_foresight_rows2_letters n_t_foresight_rows1_letters f_t_foresight_memory i_t_foresight_rows6_count f_t_foresight_rows6_letters i_t_foresight_rows5_count f_t_foresight_rows5_letters i_t_foresight_rows4_count f_t_foresight_rows4_letters i_t_foresight_rows3_count f_t_foresight_rows3_letters i_t_foresight_rows2_count f_t_foresight_rows2_letters i_t_foresight_rows1_count f_t_foresight_rows1_letters p1 p2).bind fun (r_219, z_220, z_221, z_222, z_223, z_224, z_225, z_226, z_227, z_228, z_229, z_230, z_231, z_232) =>
                              some (r_219, z_15, z_16, z_17, z_220, z_231, z_232, z_229, z_230, z_227, z_228, z_225, z_226, z_223, z_224, z_221, z_222, i_t_foresight_rows7_count, f_t_foresight_rows7_letters, i_t_foresight_rows8_count, f_t_foresight_rows8_letters, i_t_foresight_rows0_count, f_t_foresight_rows0_letters)
                            else
                              if p3 = 7 then
                                (f_X1_firstSent_s7 z_15 z_16 z_17 i_t_letters_size n_t_foresight_memory n_t_letters_worthToOther f_t_letters_worthToOther n_t_letters_worthToOne f_t_letters_worthToOne i_t_spoken_length i_t_spoken_words f_t_spoken_scales n_t_foresight_rows7_letters n_t_letters_sense f_t_letters_sense n_t_foresight_rows6_letters n_t_foresight_rows5_letters n_t_foresight_rows4_letters n_t_foresight_rows3_letters n_t_foresight_rows2_letters n_t_foresight_rows1_letters f_t_foresight_memory i_t_foresight_rows7_count f_t_foresight_rows7_letters i_t_foresight_rows6_count f_t_foresight_rows6_letters i_t_foresight_rows5_count f_t_foresight_rows5_letters i_t_foresight_rows4_count f_t_foresight_rows4_letters i_t_foresight_rows3_count f_t_foresight_rows3_letters i_t_foresight_rows2_count f_t_foresight_rows2_letters i_t_foresight_rows1_count f_t_foresight_rows1_letters p1 p2).bind fun (r_235, z_236, z_237, z_238, z_239, z_240, z_241, z_242, z_243, z_244, z_245, z_246, z_247, z_248, z_249, z_250) =>
                                some (r_235, z_15, z_16, z_17, z_236, z_249, z_250, z_247, z_248, z_245, z_246, z_243, z_244, z_241, z_242, z_239, z_240, z_237, z_238, i_t_foresight_rows8_count, f_t_foresight_rows8_letters, i_t_foresight_rows0_count, f_t_foresight_rows0_letters)
                              else
                                if p3 = 8 then
                                  (f_X1_firstSent_s8 z_15 z_16 z_17 i_t_letters_size n_t_foresight_memory n_t_letters_worthToOther f_t_letters_worthToOther n_t_letters_worthToOne f_t_letters_worthToOne i_t_spoken_length i_t_spoken_words f_t_spoken_scales n_t_foresight_rows8_letters n_t_letters_sense f_t_letters_sense n_t_foresight_rows7_letters n_t_foresight_rows6_letters n_t_foresight_rows5_letters n_t_foresight_rows4_letters n_t_foresight_rows3_letters n_t_foresight_rows2_letters n_t_foresight_rows1_letters f_t_foresight_memory i_t_foresight_rows8_count f_t_foresight_rows8_letters i_t_foresight_rows7_count f_t_foresight_rows7_letters i_t_foresight_rows6_count f_t_foresight_rows6_letters i_t_foresight_rows5_count f_t_foresight_rows5_letters i_t_foresight_rows4_count f_t_foresight_rows4_letters i_t_foresight_rows3_count f_t_foresight_rows3_letters i_t_foresight_rows2_count f_t_foresight_rows2_letters i_t_foresight_rows1_count f_t_foresight_rows1_letters p1 p2).bind fun (r_253, z_254, z_255, z_256, z_257, z_258, z_259, z_260, z_261, z_262, z_263, z_264, z_265, z_266, z_267, z_268, z_269, z_270) =>
                                  some (r_253, z_15, z_16, z_17, z_254, z_269, z_270, z_267, z_268, z_265, z_266, z_263, z_264, z_261, z_262, z_259, z_260, z_257, z_258, z_255, z_256, i_t_foresight_rows0_count, f_t_foresight_rows0_letters)
                                else
                                  none
              else
                if p3 = 0 then
                  (f_X1_look_s0 p1 p2).bind fun r_21 =>
                  if p4 = 2 then
                    some ((r_21 - r_21 / 4096 * 4096), z_15, z_16, z_17, f_t_foresight_memory, i_t_foresight_rows1_count, f_t_foresight_rows1_letters, i_t_foresight_rows2_count, f_t_foresight_rows2_letters, i_t_foresight_rows3_count, f_t_foresight_rows3_letters, i_t_foresight_rows4_count, f_t_foresight_rows4_letters, i_t_foresight_rows5_count, f_t_foresight_rows5_letters, i_t_foresight_rows6_count, f_t_foresight_rows6_letters, i_t_foresight_rows7_count, f_t_foresight_rows7_letters, i_t_foresight_rows8_count, f_t_foresight_rows8_letters, i_t_foresight_rows0_count, f_t_foresight_rows0_letters)
                  else
                    if p4 = 3 then
                      some ((r_21 / 4096), z_15, z_16, z_17, f_t_foresight_memory, i_t_foresight_rows1_count, f_t_foresight_rows1_letters, i_t_foresight_rows2_count, f_t_foresight_rows2_letters, i_t_foresight_rows3_count, f_t_foresight_rows3_letters, i_t_foresight_rows4_count, f_t_foresight_rows4_letters, i_t_foresight_rows5_count, f_t_foresight_rows5_letters, i_t_foresight_rows6_count, f_t_foresight_rows6_letters, i_t_foresight_rows7_count, f_t_foresight_rows7_letters, i_t_foresight_rows8_count, f_t_foresight_rows8_letters, i_t_foresight_rows0_count, f_t_foresight_rows0_letters)
                    else
                      (f_X3_worthTo i_t_letters_size n_t_letters_worthToOther f_t_letters_worthToOther n_t_letters_worthToOne f_t_letters_worthToOne p4 (r_21 - r_21 / 4096 * 4096)).bind fun r_25 =>
                      some (r_25, z_15, z_16, z_17, f_t_foresight_memory, i_t_foresight_rows1_count, f_t_foresight_rows1_letters, i_t_foresight_rows2_count, f_t_foresight_rows2_letters, i_t_foresight_rows3_count, f_t_foresight_rows3_letters, i_t_foresight_rows4_count, f_t_foresight_rows4_letters, i_t_foresight_rows5_count, f_t_foresight_rows5_letters, i_t_foresight_rows6_count, f_t_foresight_rows6_letters, i_t_foresight_rows7_count, f_t_foresight_rows7_letters, i_t_foresight_rows8_count, f_t_foresight_rows8_letters, i_t_foresight_rows0_count, f_t_foresight_rows0_letters)
                else
                  if p3 = 1 then
                    (f_X1_look_s1 z_15 z_16 z_17 i_t_letters_size n_t_foresight_memory n_t_letters_worthToOther f_t_letters_worthToOther n_t_letters_worthToOne f_t_letters_worthToOne i_t_spoken_length i_t_spoken_words f_t_spoken_scales n_t_foresight_rows1_letters n_t_letters_sense f_t_letters_sense f_t_foresight_memory i_t_foresight_rows1_count f_t_foresight_rows1_letters p1 p2).bind fun (r_28, z_29, z_30, z_31) =>
                    if p4 = 2 then
                      some ((r_28 - r_28 / 4096 * 4096), z_15, z_16, z_17, z_29, z_30, z_31, i_t_foresight_rows2_count, f_t_foresight_rows2_letters, i_t_foresight_rows3_count, f_t_foresight_rows3_letters, i_t_foresight_rows4_count, f_t_foresight_rows4_letters, i_t_foresight_rows5_count, f_t_foresight_rows5_letters, i_t_foresight_rows6_count, f_t_foresight_rows6_letters, i_t_foresight_rows7_count, f_t_foresight_rows7_letters, i_t_foresight_rows8_count, f_t_foresight_rows8_letters, i_t_foresight_rows0_count, f_t_foresight_rows0_letters)
                    else
                      if p4 = 3 then
                        some ((r_28 / 4096), z_15, z_16, z_17, z_29, z_30, z_31, i_t_foresight_rows2_count, f_t_foresight_rows2_letters, i_t_foresight_rows3_count, f_t_foresight_rows3_letters, i_t_foresight_rows4_count, f_t_foresight_rows4_letters, i_t_foresight_rows5_count, f_t_foresight_rows5_letters, i_t_foresight_rows6_count, f_t_foresight_rows6_letters, i_t_foresight_rows7_count, f_t_foresight_rows7_letters, i_t_foresight_rows8_count, f_t_foresight_rows8_letters, i_t_foresight_rows0_count, f_t_foresight_rows0_letters)
                      else
                        (f_X3_worthTo i_t_letters_size n_t_letters_worthToOther f_t_letters_worthToOther n_t_letters_worthToOne f_t_letters_worthToOne p4 (r_28 - r_28 / 4096 * 4096)).bind fun r_35 =>
                        some (r_35, z_15, z_16, z_17, z_29, z_30, z_31, i_t_foresight_rows2_count, f_t_foresight_rows2_letters, i_t_foresight_rows3_count, f_t_foresight_rows3_letters, i_t_foresight_rows4_count, f_t_foresight_rows4_letters, i_t_foresight_rows5_count, f_t_foresight_rows5_letters, i_t_foresight_rows6_count, f_t_foresight_rows6_letters, i_t_foresight_rows7_count, f_t_foresight_rows7_letters, i_t_foresight_rows8_count, f_t_foresight_rows8_letters, i_t_foresight_rows0_count, f_t_foresight_rows0_letters)
                  else
                    if p3 = 2 then
                      (f_X1_look_s2 z_15 z_16 z_17 i_t_letters_size n_t_foresight_memory n_t_letters_worthToOther f_t_letters_worthToOther n_t_letters_worthToOne f_t_letters_worthToOne i_t_spoken_length i_t_spoken_words f_t_spoken_scales n_t_foresight_rows2_letters n_t_letters_sense f_t_letters_sense n_t_foresight_rows1_letters f_t_foresight_memory i_t_foresight_rows2_count f_t_foresight_rows2_letters i_t_foresight_rows1_count f_t_foresight_rows1_letters p1 p2).bind fun (r_38, z_39, z_40, z_41, z_42, z_43) =>
                      if p4 = 2 then
                        some ((r_38 - r_38 / 4096 * 4096), z_15, z_16, z_17, z_39, z_42, z_43, z_40, z_41, i_t_foresight_rows3_count, f_t_foresight_rows3_letters, i_t_foresight_rows4_count, f_t_foresight_rows4_letters, i_t_foresight_rows5_count, f_t_foresight_rows5_letters, i_t_foresight_rows6_count, f_t_foresight_rows6_letters, i_t_foresight_rows7_count, f_t_foresight_rows7_letters, i_t_foresight_rows8_count, f_t_foresight_rows8_letters, i_t_foresight_rows0_count, f_t_foresight_rows0_letters)
                      else
                        if p4 = 3 then
                          some ((r_38 / 4096), z_15, z_16, z_17, z_39, z_42, z_43, z_40, z_41, i_t_foresight_rows3_count, f_t_foresight_rows3_letters, i_t_foresight_rows4_count, f_t_foresight_rows4_letters, i_t_foresight_rows5_count, f_t_foresight_rows5_letters, i_t_foresight_rows6_count, f_t_foresight_rows6_letters, i_t_foresight_rows7_count, f_t_foresight_rows7_letters, i_t_foresight_rows8_count, f_t_foresight_rows8_letters, i_t_foresight_rows0_count, f_t_foresight_rows0_letters)
                        else
                          (f_X3_worthTo i_t_letters_size n_t_letters_worthToOther f_t_letters_worthToOther n_t_letters_worthToOne f_t_letters_worthToOne p4 (r_38 - r_38 / 4096 * 4096)).bind fun r_47 =>
                          some (r_47, z_15, z_16, z_17, z_39, z_42, z_43, z_40, z_41, i_t_foresight_rows3_count, f_t_foresight_rows3_letters, i_t_foresight_rows4_count, f_t_foresight_rows4_letters, i_t_foresight_rows5_count, f_t_foresight_rows5_letters, i_t_foresight_rows6_count, f_t_foresight_rows6_letters, i_t_foresight_rows7_count, f_t_foresight_rows7_letters, i_t_foresight_rows8_count, f_t_foresight_rows8_letters, i_t_foresight_rows0_count, f_t_foresight_rows0_letters)
                    else
                      if p3 = 3 then
                        (f_X1_look_s3 z_15 z_16 z_17 i_t_letters_size n_t_foresight_memory n_t_letters_worthToOther f_t_letters_worthToOther n_t_letters_worthToOne f_t_letters_worthToOne i_t_spoken_length i_t_spoken_words f_t_spoken_scales n_t_foresight_rows3_letters n_t_letters_sense f_t_letters_sense n_t_foresight_rows2_letters n_t_foresight_rows1_letters f_t_foresight_memory i_t_foresight_rows3_count f_t_foresight_rows3_letters i_t_foresight_rows2_count f_t_foresight_rows2_letters i_t_foresight_rows1_count f_t_foresight_rows1_letters p1 p2).bind fun (r_50, z_51, z_52, z_53, z_54, z_55, z_56, z_57) =>
                        if p4 = 2 then
                          some ((r_50 - r_50 / 4096 * 4096), z_15, z_16, z_17, z_51, z_56, z_57, z_54, z_55, z_52, z_53, i_t_foresight_rows4_count, f_t_foresight_rows4_letters, i_t_foresight_rows5_count, f_t_foresight_rows5_letters, i_t_foresight_rows6_count, f_t_foresight_rows6_letters, i_t_foresight_rows7_count, f_t_foresight_rows7_letters, i_t_foresight_rows8_count, f_t_foresight_rows8_letters, i_t_foresight_rows0_count, f_t_foresight_rows0_letters)
                        else
                          if p4 = 3 then
                            some ((r_50 / 4096), z_15, z_16, z_17, z_51, z_56, z_57, z_54, z_55, z_52, z_53, i_t_foresight_rows4_count, f_t_foresight_rows4_letters, i_t_foresight_rows5_count, f_t_foresight_rows5_letters, i_t_foresight_rows6_count, f_t_foresight_rows6_letters, i_t_foresight_rows7_count, f_t_foresight_rows7_letters, i_t_foresight_rows8_count, f_t_foresight_rows8_letters, i_t_foresight_rows0_count, f_t_foresight_rows0_letters)
                          else
                            (f_X3_worthTo i_t_letters_size n_t_letters_worthToOther f_t_letters_worthToOther n_t_letters_worthToOne f_t_letters_worthToOne p4 (r_50 - r_50 / 4096 * 4096)).bind fun r_61 =>
                            some (r_61, z_15, z_16, z_17, z_51, z_56, z_57, z_54, z_55, z_52, z_53, i_t_foresight_rows4_count, f_t_foresight_rows4_letters, i_t_foresight_rows5_count, f_t_foresight_rows5_letters, i_t_foresight_rows6_count, f_t_foresight_rows6_letters, i_t_foresight_rows7_count, f_t_foresight_rows7_letters, i_t_foresight_rows8_count, f_t_foresight_rows8_letters, i_t_foresight_rows0_count, f_t_foresight_rows0_letters)
                      else
                        if p3 = 4 then
                          (f_X1_look_s4 z_15 z_16 z_17 i_t_letters_size n_t_foresight_memory n_t_letters_worthToOther f_t_letters_worthToOther n_t_letters_worthToOne f_t_letters_worthToOne i_t_spoken_length i_t_spoken_words f_t_spoken_scales n_t_foresight_rows4_letters n_t_letters_sense f_t_letters_sense n_t_foresight_rows3_letters n_t_foresight_rows2_letters n_t_foresight_rows1_letters f_t_foresight_memory i_t_foresight_rows4_count f_t_foresight_rows4_letters i_t_foresight_rows3_count f_t_foresight_rows3_letters i_t_foresight_rows2_count f_t_foresight_rows2_letters i_t_foresight_rows1_count f_t_foresight_rows1_letters p1 p2).bind fun (r_64, z_65, z_66, z_67, z_68, z_69, z_70, z_71, z_72, z_73) =>
                          if p4 = 2 then
                            some ((r_64 - r_64 / 4096 * 4096), z_15, z_16, z_17, z_65, z_72, z_73, z_70, z_71, z_68, z_69, z_66, z_67, i_t_foresight_rows5_count, f_t_foresight_rows5_letters, i_t_foresight_rows6_count, f_t_foresight_rows6_letters, i_t_foresight_rows7_count, f_t_foresight_rows7_letters, i_t_foresight_rows8_count, f_t_foresight_rows8_letters, i_t_foresight_rows0_count, f_t_foresight_rows0_letters)
                          else
                            if p4 = 3 then
                              some ((r_64 / 4096), z_15, z_16, z_17, z_65, z_72, z_73, z_70, z_71, z_68, z_69, z_66, z_67, i_t_foresight_rows5_count, f_t_foresight_rows5_letters, i_t_foresight_rows6_count, f_t_foresight_rows6_letters, i_t_foresight_rows7_count, f_t_foresight_rows7_letters, i_t_foresight_rows8_count, f_t_foresight_rows8_letters, i_t_foresight_rows0_count, f_t_foresight_rows0_letters)
                            else
                              (f_X3_worthTo i_t_letters_size n_t_letters_worthToOther f_t_letters_worthToOther n_t_letters_worthToOne f_t_letters_worthToOne p4 (r_64 - r_64 / 4096 * 4096)).bind fun r_77 =>
                              some (r_77, z_15, z_16, z_17, z_65, z_72, z_73, z_70, z_71, z_68, z_69, z_66, z_67, i_t_foresight_rows5_count, f_t_foresight_rows5_letters, i_t_foresight_rows6_count, f_t_foresight_rows6_letters, i_t_foresight_rows7_count, f_t_foresight_rows7_letters, i_t_foresight_rows8_count, f_t_foresight_rows8_letters, i_t_foresight_rows0_count, f_t_foresight_rows0_letters)
                        else
                          if p3 = 5 then
                            (f_X1_look_s5 z_15 z_16 z_17 i_t_letters_size n_t_foresight_memory n_t_letters_worthToOther f_t_letters_worthToOther n_t_letters_worthToOne f_t_letters_worthToOne i_t_spoken_length i_t_spoken_words f_t_spoken_scales n_t_foresight_rows5_letters n_t_letters_sense f_t_letters_sense n_t_foresight_rows4_letters n_t_foresight_rows3_letters n_t_foresight_rows2_letters n_t_foresight_rows1_letters f_t_foresight_memory i_t_foresight_rows5_count f_t_foresight_rows5_letters i_t_foresight_rows4_count f_t_foresight_rows4_letters i_t_foresight_rows3_count f_t_foresight_rows3_letters i_t_foresight_rows2_count f_t_foresight_rows2_letters i_t_foresight_rows1_count f_t_foresight_rows1_letters p1 p2).bind fun (r_80, z_81, z_82, z_83, z_84, z_85, z_86, z_87, z_88, z_89, z_90, z_91) =>
                            if p4 = 2 then
                              some ((r_80 - r_80 / 4096 * 4096), z_15, z_16, z_17, z_81, z_90, z_91, z_88, z_89, z_86, z_87, z_84, z_85, z_82, z_83, i_t_foresight_rows6_count, f_t_foresight_rows6_letters, i_t_foresight_rows7_count, f_t_foresight_rows7_letters, i_t_foresight_rows8_count, f_t_foresight_rows8_letters, i_t_foresight_rows0_count, f_t_foresight_rows0_letters)
                            else
                              if p4 = 3 then
                                some ((r_80 / 4096), z_15, z_16, z_17, z_81, z_90, z_91, z_88, z_89, z_86, z_87, z_84, z_85, z_82, z_83, i_t_foresight_rows6_count, f_t_foresight_rows6_letters, i_t_foresight_rows7_count, f_t_foresight_rows7_letters, i_t_foresight_rows8_count, f_t_foresight_rows8_letters, i_t_foresight_rows0_count, f_t_foresight_rows0_letters)
                              else
                                (f_X3_worthTo i_t_letters_size n_t_letters_worthToOther f_t_letters_worthToOther n_t_letters_worthToOne f_t_letters_worthToOne p4 (r_80 - r_80 / 4096 * 4096)).bind fun r_95 =>
                                some (r_95, z_15, z_16, z_17, z_81, z_90, z_91, z_88, z_89, z_86, z_87, z_84, z_85, z_82, z_83, i_t_foresight_rows6_count, f_t_foresight_rows6_letters, i_t_foresight_rows7_count, f_t_foresight_rows7_letters, i_t_foresight_rows8_count, f_t_foresight_rows8_letters, i_t_foresight_rows0_count, f_t_foresight_rows0_letters)
                          else
                            if p3 = 6 then
                              (f_X1_look_s6 z_15 z_16 z_17 i_t_letters_size n_t_foresight_memory n_t_letters_worthToOther f_t_letters_worthToOther n_t_letters_worthToOne f_t_letters_worthToOne i_t_spoken_length i_t_spoken_words f_t_spoken_scales n_t_foresight_rows6_letters n_t_letters_sense f_t_letters_sense n_t_foresight_rows5_letters n_t_foresight_rows4_letters n_t_foresight_rows3_letters n_t_foresight_rows2_letters n_t_foresight_rows1_letters f_t_foresight_memory i_t_foresight_rows6_count f_t_foresight_rows6_letters i_t_foresight_rows5_count f_t_foresight_rows5_letters i_t_foresight_rows4_count f_t_foresight_rows4_letters i_t_foresight_rows3_count f_t_foresight_rows3_letters i_t_foresight_rows2_count f_t_foresight_rows2_letters i_t_foresight_rows1_count f_t_foresight_rows1_letters p1 p2).bind fun (r_98, z_99, z_100, z_101, z_102, z_103, z_104, z_105, z_106, z_107, z_108, z_109, z_110, z_111) =>
                              if p4 = 2 then
                                some ((r_98 - r_98 / 4096 * 4096), z_15, z_16, z_17, z_99, z_110, z_111, z_108, z_109, z_106, z_107, z_104, z_105, z_102, z_103, z_100, z_101, i_t_foresight_rows7_count, f_t_foresight_rows7_letters, i_t_foresight_rows8_count, f_t_foresight_rows8_letters, i_t_foresight_rows0_count, f_t_foresight_rows0_letters)
                              else
                                if p4 = 3 then
                                  some ((r_98 / 4096), z_15, z_16, z_17, z_99, z_110, z_111, z_108, z_109, z_106, z_107, z_104, z_105, z_102, z_103, z_100, z_101, i_t_foresight_rows7_count, f_t_foresight_rows7_letters, i_t_foresight_rows8_count, f_t_foresight_rows8_letters, i_t_foresight_rows0_count, f_t_foresight_rows0_letters)
                                else
                                  (f_X3_worthTo i_t_letters_size n_t_letters_worthToOther f_t_letters_worthToOther n_t_letters_worthToOne f_t_letters_worthToOne p4 (r_98 - r_98 / 4096 * 4096)).bind fun r_115 =>
                                  some (r_115, z_15, z_16, z_17, z_99, z_110, z_111, z_108, z_109, z_106, z_107, z_104, z_105, z_102, z_103, z_100, z_101, i_t_foresight_rows7_count, f_t_foresight_rows7_letters, i_t_foresight_rows8_count, f_t_foresight_rows8_letters, i_t_foresight_rows0_count, f_t_foresight_rows0_letters)
                            else
                              if p3 = 7 then
                                (f_X1_look_s7 z_15 z_16 z_17 i_t_letters_size n_t_foresight_memory n_t_letters_worthToOther f_t_letters_worthToOther n_t_letters_worthToOne f_t_letters_worthToOne i_t_spoken_length i_t_spoken_words f_t_spoken_scales n_t_foresight_rows7_letters n_t_letters_sense f_t_letters_sense n_t_foresight_rows6_letters n_t_foresight_rows5_letters n_t_foresight_rows4_letters n_t_foresight_rows3_letters n_t_foresight_rows2_letters n_t_foresight_rows1_letters f_t_foresight_memory i_t_foresight_rows7_count f_t_foresight_rows7_letters i_t_foresight_rows6_count f_t_foresight_rows6_letters i_t_foresight_rows5_count f_t_foresight_rows5_letters i_t_foresight_rows4_count f_t_foresight_rows4_letters i_t_foresight_rows3_count f_t_foresight_rows3_letters i_t_foresight_rows2_count f_t_foresight_rows2_letters i_t_foresight_rows1_count f_t_foresight_rows1_letters p1 p2).bind fun (r_118, z_119, z_120, z_121, z_122, z_123, z_124, z_125, z_126, z_127, z_128, z_129, z_130, z_131, z_132, z_133) =>
                                if p4 = 2 then
                                  some ((r_118 - r_118 / 4096 * 4096), z_15, z_16, z_17, z_119, z_132, z_133, z_130, z_131, z_128, z_129, z_126, z_127, z_124, z_125, z_122, z_123, z_120, z_121, i_t_foresight_rows8_count, f_t_foresight_rows8_letters, i_t_foresight_rows0_count, f_t_foresight_rows0_letters)
                                else
                                  if p4 = 3 then
                                    some ((r_118 / 4096), z_15, z_16, z_17, z_119, z_132, z_133, z_130, z_131, z_128, z_129, z_126, z_127, z_124, z_125, z_122, z_123, z_120, z_121, i_t_foresight_rows8_count, f_t_foresight_rows8_letters, i_t_foresight_rows0_count, f_t_foresight_rows0_letters)
                                  else
                                    (f_X3_worthTo i_t_letters_size n_t_letters_worthToOther f_t_letters_worthToOther n_t_letters_worthToOne f_t_letters_worthToOne p4 (r_118 - r_118 / 4096 * 4096)).bind fun r_137 =>
                                    some (r_137, z_15, z_16, z_17, z_119, z_132, z_133, z_130, z_131, z_128, z_129, z_126, z_127, z_124, z_125, z_122, z_123, z_120, z_121, i_t_foresight_rows8_count, f_t_foresight_rows8_letters, i_t_foresight_rows0_count, f_t_foresight_rows0_letters)
                              else
                                if p3 = 8 then
                                  (f_X1_look_s8 z_15 z_16 z_17 i_t_letters_size n_t_foresight_memory n_t_letters_worthToOther f_t_letters_worthToOther n_t_letters_worthToOne f_t_letters_worthToOne i_t_spoken_length i_t_spoken_words f_t_spoken_scales n_t_foresight_rows8_letters n_t_letters_sense f_t_letters_sense n_t_foresight_rows7_letters n_t_foresight_rows6_letters n_t_foresight_rows5_letters n_t_foresight_rows4_letters n_t_foresight_rows3_letters n_t_foresight_rows2_letters n_t_foresight_rows1_letters f_t_foresight_memory i_t_foresight_rows8_count f_t_foresight_rows8_letters i_t_foresight_rows7_count f_t_foresight_rows7_letters i_t_foresight_rows6_count f_t_foresight_rows6_letters i_t_foresight_rows5_count f_t_foresight_rows5_letters i_t_foresight_rows4_count f_t_foresight_rows4_letters i_t_foresight_rows3_count f_t_foresight_rows3_letters i_t_foresight_rows2_count f_t_foresight_rows2_letters i_t_foresight_rows1_count f_t_foresight_rows1_letters p1 p2).bind fun (r_140, z_141, z_142, z_143, z_144, z_145, z_146, z_147, z_148, z_149, z_150, z_151, z_152, z_153, z_154, z_155, z_156, z_157) =>
                                  if p4 = 2 then
                                    some ((r_140 - r_140 / 4096 * 4096), z_15, z_16, z_17, z_141, z_156, z_157, z_154, z_155, z_152, z_153, z_150, z_151, z_148, z_149, z_146, z_147, z_144, z_145, z_142, z_143, i_t_foresight_rows0_count, f_t_foresight_rows0_letters)
                                  else
                                    if p4 = 3 then
                                      some ((r_140 / 4096), z_15, z_16, z_17, z_141, z_156, z_157, z_154, z_155, z_152, z_153, z_150, z_151, z_148, z_149, z_146, z_147, z_144, z_145, z_142, z_143, i_t_foresight_rows0_count, f_t_foresight_rows0_letters)
                                    else
                                      (f_X3_worthTo i_t_letters_size n_t_letters_worthToOther f_t_letters_worthToOther n_t_letters_worthToOne f_t_letters_worthToOne p4 (r_140 - r_140 / 4096 * 4096)).bind fun r_161 =>
                                      some (r_161, z_15, z_16, z_17, z_141, z_156, z_157, z_154, z_155, z_152, z_153, z_150, z_151, z_148, z_149, z_146, z_147, z_144, z_145, z_142, z_143, i_t_foresight_rows0_count, f_t_foresight_rows0_letters)
                                else
                                  none
          else
            some ((-1000000002), i_t_foresight_law, i_t_foresight_nonsense, i_t_foresight_stamp, f_t_foresight_memory, i_t_foresight_rows1_count, f_t_foresight_rows1_letters, i_t_foresight_rows2_count, f_t_foresight_rows2_letters, i_t_foresight_rows3_count, f_t_foresight_rows3_letters, i_t_foresight_rows4_count, f_t_foresight_rows4_letters, i_t_foresight_rows5_count, f_t_foresight_rows5_letters, i_t_foresight_rows6_count, f_t_foresight_rows6_letters, i_t_foresight_rows7_count, f_t_foresight_rows7_letters, i_t_foresight_rows8_count, f_t_foresight_rows8_letters, i_t_foresight_rows0_count, f_t_foresight_rows0_letters)
def f_X8_first (i_t_letters_tongues : Int32) (i_t_letters_size : Int32) (i_t_now_law : Int32) (i_t_now_way : Int32) (n_t_letters_worthToOther : Nat) (f_t_letters_worthToOther : Nat → Int32) (n_t_letters_worthToOne : Nat) (f_t_letters_worthToOne : Nat → Int32) (n_t_foresight_memory : Nat) (i_t_spoken_length : Int32) (i_t_spoken_words : Int32) (f_t_spoken_scales : Nat → Int32) (n_t_foresight_rows1_letters : Nat) (n_t_letters_sense : Nat) (f_t_letters_sense : Nat → Int32) (n_t_foresight_rows2_letters : Nat) (n_t_foresight_rows3_letters : Nat) (n_t_foresight_rows4_letters : Nat) (n_t_foresight_rows5_letters : Nat) (n_t_foresight_rows6_letters : Nat) (n_t_foresight_rows7_letters : Nat) (n_t_foresight_rows8_letters : Nat) (i_t_foresight_law : Int32) (i_t_foresight_nonsense : Int32) (i_t_foresight_stamp : Int32) (f_t_foresight_memory : Nat → Int32) (i_t_foresight_rows1_count : Int32) (f_t_foresight_rows1_letters : Nat → Int32) (i_t_foresight_rows2_count : Int32) (f_t_foresight_rows2_letters : Nat → Int32) (i_t_foresight_rows3_count : Int32) (f_t_foresight_rows3_letters : Nat → Int32) (i_t_foresight_rows4_count : Int32) (f_t_foresight_rows4_letters : Nat → Int32) (i_t_foresight_rows5_count : Int32) (f_t_foresight_rows5_letters : Nat → Int32) (i_t_foresight_rows6_count : Int32) (f_t_foresight_rows6_letters : Nat → Int32) (i_t_foresight_rows7_count : Int32) (f_t_foresight_rows7_letters : Nat → Int32) (i_t_foresight_rows8_count : Int32) (f_t_foresight_rows8_letters : Nat → Int32) (p1 : Int32) (p2 : Int32) : Option (Int32 × Int32 × Int32 × Int32 × (Nat → Int32) × Int32 × (Nat → Int32) × Int32 × (Nat → Int32) × Int32 × (Nat → Int32) × Int32 × (Nat → Int32) × Int32 × (Nat → Int32) × Int32 × (Nat → Int32) × Int32 × (Nat → Int32) × Int32 × (Nat → Int32)) :=
  (f_X8_isLetter i_t_letters_size p1).bind fun r_1 =>
  if r_1 = 0 then
    some ((-1000000002), i_t_foresight_law, i_t_foresight_nonsense, i_t_foresight_stamp, f_t_foresight_memory, i_t_foresight_rows1_count, f_t_foresight_rows1_letters, i_t_foresight_rows2_count, f_t_foresight_rows2_letters, i_t_foresight_rows3_count, f_t_foresight_rows3_letters, i_t_foresight_rows4_count, f_t_foresight_rows4_letters, i_t_foresight_rows5_count, f_t_foresight_rows5_letters, i_t_foresight_rows6_count, f_t_foresight_rows6_letters, i_t_foresight_rows7_count, f_t_foresight_rows7_letters, i_t_foresight_rows8_count, f_t_foresight_rows8_letters)
  else
    (f_X8_isMoves p2).bind fun r_4 =>
    if r_4 = 0 then
      some ((-1000000002), i_t_foresight_law, i_t_foresight_nonsense, i_t_foresight_stamp, f_t_foresight_memory, i_t_foresight_rows1_count, f_t_foresight_rows1_letters, i_t_foresight_rows2_count, f_t_foresight_rows2_letters, i_t_foresight_rows3_count, f_t_foresight_rows3_letters, i_t_foresight_rows4_count, f_t_foresight_rows4_letters, i_t_foresight_rows5_count, f_t_foresight_rows5_letters, i_t_foresight_rows6_count, f_t_foresight_rows6_letters, i_t_foresight_rows7_count, f_t_foresight_rows7_letters, i_t_foresight_rows8_count, f_t_foresight_rows8_letters)
    else
      if i_t_now_way = 1 then
        (f_X8_stamp i_t_letters_tongues i_t_now_law i_t_now_way).bind fun r_255 =>
        (f_X1_useRules i_t_foresight_law i_t_foresight_nonsense i_t_foresight_stamp i_t_now_law 1 r_255).bind fun (z_257, z_258, z_259) =>
        if p2 = 0 then
          (f_X1_look_s0 p1 0).bind fun r_262 =>
          (f_X1_look_s0 p1 1).bind fun r_264 =>
          (f_X3_worthTo i_t_letters_size n_t_letters_worthToOther f_t_letters_worthToOther n_t_letters_worthToOne f_t_letters_worthToOne 0 (r_262 - r_262 / 4096 * 4096)).bind fun r_266 =>
          (f_X3_worthTo i_t_letters_size n_t_letters_worthToOther f_t_letters_worthToOther n_t_letters_worthToOne f_t_letters_worthToOne 0 (r_264 - r_264 / 4096 * 4096)).bind fun r_268 =>
          some ((r_266 - r_268), z_257, z_258, z_259, f_t_foresight_memory, i_t_foresight_rows1_count, f_t_foresight_rows1_letters, i_t_foresight_rows2_count, f_t_foresight_rows2_letters, i_t_foresight_rows3_count, f_t_foresight_rows3_letters, i_t_foresight_rows4_count, f_t_foresight_rows4_letters, i_t_foresight_rows5_count, f_t_foresight_rows5_letters, i_t_foresight_rows6_count, f_t_foresight_rows6_letters, i_t_foresight_rows7_count, f_t_foresight_rows7_letters, i_t_foresight_rows8_count, f_t_foresight_rows8_letters)
        else
          if p2 = 1 then
            (f_X1_look_s1 z_257 z_258 z_259 i_t_letters_size n_t_foresight_memory n_t_letters_worthToOther f_t_letters_worthToOther n_t_letters_worthToOne f_t_letters_worthToOne i_t_spoken_length i_t_spoken_words f_t_spoken_scales n_t_foresight_rows1_letters n_t_letters_sense f_t_letters_sense f_t_foresight_memory i_t_foresight_rows1_count f_t_foresight_rows1_letters p1 0).bind fun (r_271, z_272, z_273, z_274) =>
            (f_X1_look_s1 z_257 z_258 z_259 i_t_letters_size n_t_foresight_memory n_t_letters_worthToOther f_t_letters_worthToOther n_t_letters_worthToOne f_t_letters_worthToOne i_t_spoken_length i_t_spoken_words f_t_spoken_scales n_t_foresight_rows1_letters n_t_letters_sense f_t_letters_sense z_272 z_273 z_274 p1 1).bind fun (r_276, z_277, z_278, z_279) =>
            (f_X3_worthTo i_t_letters_size n_t_letters_worthToOther f_t_letters_worthToOther n_t_letters_worthToOne f_t_letters_worthToOne 0 (r_271 - r_271 / 4096 * 4096)).bind fun r_281 =>
            (f_X3_worthTo i_t_letters_size n_t_letters_worthToOther f_t_letters_worthToOther n_t_letters_worthToOne f_t_letters_worthToOne 0 (r_276 - r_276 / 4096 * 4096)).bind fun r_283 =>
            some ((r_281 - r_283), z_257, z_258, z_259, z_277, z_278, z_279, i_t_foresight_rows2_count, f_t_foresight_rows2_letters, i_t_foresight_rows3_count, f_t_foresight_rows3_letters, i_t_foresight_rows4_count, f_t_foresight_rows4_letters, i_t_foresight_rows5_count, f_t_foresight_rows5_letters, i_t_foresight_rows6_count, f_t_foresight_rows6_letters, i_t_foresight_rows7_count, f_t_foresight_rows7_letters, i_t_foresight_rows8_count, f_t_foresight_rows8_letters)
          else
            if p2 = 2 then
              (f_X1_look_s2 z_257 z_258 z_259 i_t_letters_size n_t_foresight_memory n_t_letters_worthToOther f_t_letters_worthToOther n_t_letters_worthToOne f_t_letters_worthToOne i_t_spoken_length i_t_spoken_words f_t_spoken_scales n_t_foresight_rows2_letters n_t_letters_sense f_t_letters_sense n_t_foresight_rows1_letters f_t_foresight_memory i_t_foresight_rows2_count f_t_foresight_rows2_letters i_t_foresight_rows1_count f_t_foresight_rows1_letters p1 0).bind fun (r_286, z_287, z_288, z_289, z_290, z_291) =>
              (f_X1_look_s2 z_257 z_258 z_259 i_t_letters_size n_t_foresight_memory n_t_letters_worthToOther f_t_letters_worthToOther n_t_letters_worthToOne f_t_letters_worthToOne i_t_spoken_length i_t_spoken_words f_t_spoken_scales n_t_foresight_rows2_letters n_t_letters_sense f_t_letters_sense n_t_foresight_rows1_letters z_287 z_288 z_289 z_290 z_291 p1 1).bind fun (r_293, z_294, z_295, z_296, z_297, z_298) =>
              (f_X3_worthTo i_t_letters_size n_t_letters_worthToOther f_t_letters_worthToOther n_t_letters_worthToOne f_t_letters_worthToOne 0 (r_286 - r_286 / 4096 * 4096)).bind fun r_300 =>
              (f_X3_worthTo i_t_letters_size n_t_letters_worthToOther f_t_letters_worthToOther n_t_letters_worthToOne f_t_letters_worthToOne 0 (r_293 - r_293 / 4096 * 4096)).bind fun r_302 =>
              some ((r_300 - r_302), z_257, z_258, z_259, z_294, z_297, z_298, z_295, z_296, i_t_foresight_rows3_count, f_t_foresight_rows3_letters, i_t_foresight_rows4_count, f_t_foresight_rows4_letters, i_t_foresight_rows5_count, f_t_foresight_rows5_letters, i_t_foresight_rows6_count, f_t_foresight_rows6_letters, i_t_foresight_rows7_count, f_t_foresight_rows7_letters, i_t_foresight_rows8_count, f_t_foresight_rows8_letters)
            else
              if p2 = 3 then
                (f_X1_look_s3 z_257 z_258 z_259 i_t_letters_size n_t_foresight_memory n_t_letters_worthToOther f_t_letters_worthToOther n_t_letters_worthToOne f_t_letters_worthToOne i_t_spoken_length i_t_spoken_words f_t_spoken_scales n_t_foresight_rows3_letters n_t_letters_sense f_t_letters_sense n_t_foresight_rows2_letters n_t_foresight_rows1_letters f_t_foresight_memory i_t_foresight_rows3_count f_t_foresight_rows3_letters i_t_foresight_rows2_count f_t_foresight_rows2_letters i_t_foresight_rows1_count f_t_foresight_rows1_letters p1 0).bind fun (r_305, z_306, z_307, z_308, z_309, z_310, z_311, z_312) =>
                (f_X1_look_s3 z_257 z_258 z_259 i_t_letters_size n_t_foresight_memory n_t_letters_worthToOther f_t_letters_worthToOther n_t_letters_worthToOne f_t_letters_worthToOne i_t_spoken_length i_t_spoken_words f_t_spoken_scales n_t_foresight_rows3_letters n_t_letters_sense f_t_letters_sense n_t_foresight_rows2_letters n_t_foresight_rows1_letters z_306 z_307 z_308 z_309 z_310 z_311 z_312 p1 1).bind fun (r_314, z_315, z_316, z_317, z_318, z_319, z_320, z_321) =>
                (f_X3_worthTo i_t_letters_size n_t_letters_worthToOther f_t_letters_worthToOther n_t_letters_worthToOne f_t_letters_worthToOne 0 (r_305 - r_305 / 4096 * 4096)).bind fun r_323 =>
                (f_X3_worthTo i_t_letters_size n_t_letters_worthToOther f_t_letters_worthToOther n_t_letters_worthToOne f_t_letters_worthToOne 0 (r_314 - r_314 / 4096 * 4096)).bind fun r_325 =>
                some ((r_323 - r_325), z_257, z_258, z_259, z_315, z_320, z_321, z_318, z_319, z_316, z_317, i_t_foresight_rows4_count, f_t_foresight_rows4_letters, i_t_foresight_rows5_count, f_t_foresight_rows5_letters, i_t_foresight_rows6_count, f_t_foresight_rows6_letters, i_t_foresight_rows7_count, f_t_foresight_rows7_letters, i_t_foresight_rows8_count, f_t_foresight_rows8_letters)
              else
                if p2 = 4 then
                  (f_X1_look_s4 z_257 z_258 z_259 i_t_letters_size n_t_foresight_memory n_t_letters_worthToOther f_t_letters_worthToOther n_t_letters_worthToOne f_t_letters_worthToOne i_t_spoken_length i_t_spoken_words f_t_spoken_scales n_t_foresight_rows4_letters n_t_letters_sense f_t_letters_sense n_t_foresight_rows3_letters n_t_foresight_rows2_letters n_t_foresight_rows1_letters f_t_foresight_memory i_t_foresight_rows4_count f_t_foresight_rows4_letters i_t_foresight_rows3_count f_t_foresight_rows3_letters i_t_foresight_rows2_count f_t_foresight_rows2_letters i_t_foresight_rows1_count f_t_foresight_rows1_letters p1 0).bind fun (r_328, z_329, z_330, z_331, z_332, z_333, z_334, z_335, z_336, z_337) =>
                  (f_X1_look_s4 z_257 z_258 z_259 i_t_letters_size n_t_foresight_memory n_t_letters_worthToOther f_t_letters_worthToOther n_t_letters_worthToOne f_t_letters_worthToOne i_t_spoken_length i_t_spoken_words f_t_spoken_scales n_t_foresight_rows4_letters n_t_letters_sense f_t_letters_sense n_t_foresight_rows3_letters n_t_foresight_rows2_letters n_t_foresight_rows1_letters z_329 z_330 z_331 z_332 z_333 z_334 z_335 z_336 z_337 p1 1).bind fun (r_339, z_340, z_341, z_342, z_343, z_344, z_345, z_346, z_347, z_348) =>
                  (f_X3_worthTo i_t_letters_size n_t_letters_worthToOther f_t_letters_worthToOther n_t_letters_worthToOne f_t_letters_worthToOne 0 (r_328 - r_328 / 4096 * 4096)).bind fun r_350 =>
                  (f_X3_worthTo i_t_letters_size n_t_letters_worthToOther f_t_letters_worthToOther n_t_letters_worthToOne f_t_letters_worthToOne 0 (r_339 - r_339 / 4096 * 4096)).bind fun r_352 =>
                  some ((r_350 - r_352), z_257, z_258, z_259, z_340, z_347, z_348, z_345, z_346, z_343, z_344, z_341, z_342, i_t_foresight_rows5_count, f_t_foresight_rows5_letters, i_t_foresight_rows6_count, f_t_foresight_rows6_letters, i_t_foresight_rows7_count, f_t_foresight_rows7_letters, i_t_foresight_rows8_count, f_t_foresight_rows8_letters)
                else
                  if p2 = 5 then
                    (f_X1_look_s5 z_257 z_258 z_259 i_t_letters_size n_t_foresight_memory n_t_letters_worthToOther f_t_letters_worthToOther n_t_letters_worthToOne f_t_letters_worthToOne i_t_spoken_length i_t_spoken_words f_t_spoken_scales n_t_foresight_rows5_letters n_t_letters_sense f_t_letters_sense n_t_foresight_rows4_letters n_t_foresight_rows3_letters n_t_foresight_rows2_letters n_t_foresight_rows1_letters f_t_foresight_memory i_t_foresight_rows5_count f_t_foresight_rows5_letters i_t_foresight_rows4_count f_t_foresight_rows4_letters i_t_foresight_rows3_count f_t_foresight_rows3_letters i_t_foresight_rows2_count f_t_foresight_rows2_letters i_t_foresight_rows1_count f_t_foresight_rows1_letters p1 0).bind fun (r_355, z_356, z_357, z_358, z_359, z_360, z_361, z_362, z_363, z_364, z_365, z_366) =>
                    (f_X1_look_s5 z_257 z_258 z_259 i_t_letters_size n_t_foresight_memory n_t_letters_worthToOther f_t_letters_worthToOther n_t_letters_worthToOne f_t_letters_worthToOne i_t_spoken_length i_t_spoken_words f_t_spoken_scales n_t_foresight_rows5_letters n_t_letters_sense f_t_letters_sense n_t_foresight_rows4_letters n_t_foresight_rows3_letters n_t_foresight_rows2_letters n_t_foresight_rows1_letters z_356 z_357 z_358 z_359 z_360 z_361 z_362 z_363 z_364 z_365 z_366 p1 1).bind fun (r_368, z_369, z_370, z_371, z_372, z_373, z_374, z_375, z_376, z_377, z_378, z_379) =>
                    (f_X3_worthTo i_t_letters_size n_t_letters_worthToOther f_t_letters_worthToOther n_t_letters_worthToOne f_t_letters_worthToOne 0 (r_355 - r_355 / 4096 * 4096)).bind fun r_381 =>
                    (f_X3_worthTo i_t_letters_size n_t_letters_worthToOther f_t_letters_worthToOther n_t_letters_worthToOne f_t_letters_worthToOne 0 (r_368 - r_368 / 4096 * 4096)).bind fun r_383 =>
                    some ((r_381 - r_383), z_257, z_258, z_259, z_369, z_378, z_379, z_376, z_377, z_374, z_375, z_372, z_373, z_370, z_371, i_t_foresight_rows6_count, f_t_foresight_rows6_letters, i_t_foresight_rows7_count, f_t_foresight_rows7_letters, i_t_foresight_rows8_count, f_t_foresight_rows8_letters)
                  else
                    if p2 = 6 then
                      (f_X1_look_s6 z_257 z_258 z_259 i_t_letters_size n_t_foresight_memory n_t_letters_worthToOther f_t_letters_worthToOther n_t_letters_worthToOne f_t_letters_worthToOne i_t_spoken_length i_t_spoken_words f_t_spoken_scales n_t_foresight_rows6_letters n_t_letters_sense f_t_letters_sense n_t_foresight_rows5_letters n_t_foresight_rows4_letters n_t_foresight_rows3_letters n_t_foresight_rows2_letters n_t_foresight_rows1_letters f_t_foresight_memory i_t_foresight_rows6_count f_t_foresight_rows6_letters i_t_foresight_rows5_count f_t_foresight_rows5_letters i_t_foresight_rows4_count f_t_foresight_rows4_letters i_t_foresight_rows3_count f_t_foresight_rows3_letters i_t_foresight_rows2_count f_t_foresight_rows2_letters i_t_foresight_rows1_count f_t_foresight_rows1_letters p1 0).bind fun (r_386, z_387, z_388, z_389, z_390, z_391, z_392, z_393, z_394, z_395, z_396, z_397, z_398, z_399) =>
                      (f_X1_look_s6 z_257 z_258 z_259 i_t_letters_size n_t_foresight_memory n_t_letters_worthToOther f_t_letters_worthToOther n_t_letters_worthToOne f_t_letters_worthToOne i_t_spoken_length i_t_spoken_words f_t_spoken_scales n_t_foresight_rows6_letters n_t_letters_sense f_t_letters_sense n_t_foresight_rows5_letters n_t_foresight_rows4_letters n_t_foresight_rows3_letters n_t_foresight_rows2_letters n_t_foresight_rows1_letters z_387 z_388 z_389 z_390 z_391 z_392 z_393 z_394 z_395 z_396 z_397 z_398 z_399 p1 1).bind fun (r_401, z_402, z_403, z_404, z_405, z_406, z_407, z_408, z_409, z_410, z_411, z_412, z_413, z_414) =>
                      (f_X3_worthTo i_t_letters_size n_t_letters_worthToOther f_t_letters_worthToOther n_t_letters_worthToOne f_t_letters_worthToOne 0 (r_386 - r_386 / 4096 * 4096)).bind fun r_416 =>
                      (f_X3_worthTo i_t_letters_size n_t_letters_worthToOther f_t_letters_worthToOther n_t_letters_worthToOne f_t_letters_worthToOne 0 (r_401 - r_401 / 4096 * 4096)).bind fun r_418 =>
                      some ((r_416 - r_418), z_257, z_258, z_259, z_402, z_413, z_414, z_411, z_412, z_409, z_410, z_407, z_408, z_405, z_406, z_403, z_404, i_t_foresight_rows7_count, f_t_foresight_rows7_letters, i_t_foresight_rows8_count, f_t_foresight_rows8_letters)
                    else
                      if p2 = 7 then
                        (f_X1_look_s7 z_257 z_258 z_259 i_t_letters_size n_t_foresight_memory n_t_letters_worthToOther f_t_letters_worthToOther n_t_letters_worthToOne f_t_letters_worthToOne i_t_spoken_length i_t_spoken_words f_t_spoken_scales n_t_foresight_rows7_letters n_t_letters_sense f_t_letters_sense n_t_foresight_rows6_letters n_t_foresight_rows5_letters n_t_foresight_rows4_letters n_t_foresight_rows3_letters n_t_foresight_rows2_letters n_t_foresight_rows1_letters f_t_foresight_memory i_t_foresight_rows7_count f_t_foresight_rows7_letters i_t_foresight_rows6_count f_t_foresight_rows6_letters i_t_foresight_rows5_count f_t_foresight_rows5_letters i_t_foresight_rows4_count f_t_foresight_rows4_letters i_t_foresight_rows3_count f_t_foresight_rows3_letters i_t_foresight_rows2_count f_t_foresight_rows2_letters i_t_foresight_rows1_count f_t_foresight_rows1_letters p1 0).bind fun (r_421, z_422, z_423, z_424, z_425, z_426, z_427, z_428, z_429, z_430, z_431, z_432, z_433, z_434, z_435, z_436) =>
                        (f_X1_look_s7 z_257 z_258 z_259 i_t_letters_size n_t_foresight_memory n_t_letters_worthToOther f_t_letters_worthToOther n_t_letters_worthToOne f_t_letters_worthToOne i_t_spoken_length i_t_spoken_words f_t_spoken_scales n_t_foresight_rows7_letters n_t_letters_sense f_t_letters_sense n_t_foresight_rows6_letters n_t_foresight_rows5_letters n_t_foresight_rows4_letters n_t_foresight_rows3_letters n_t_foresight_rows2_letters n_t_foresight_rows1_letters z_422 z_423 z_424 z_425 z_426 z_427 z_428 z_429 z_430 z_431 z_432 z_433 z_434 z_435 z_436 p1 1).bind fun (r_438, z_439, z_440, z_441, z_442, z_443, z_444, z_445, z_446, z_447, z_448, z_449, z_450, z_451, z_452, z_453) =>
                        (f_X3_worthTo i_t_letters_size n_t_letters_worthToOther f_t_letters_worthToOther n_t_letters_worthToOne f_t_letters_worthToOne 0 (r_421 - r_421 / 4096 * 4096)).bind fun r_455 =>
                        (f_X3_worthTo i_t_letters_size n_t_letters_worthToOther f_t_letters_worthToOther n_t_letters_worthToOne f_t_letters_worthToOne 0 (r_438 - r_438 / 4096 * 4096)).bind fun r_457 =>
                        some ((r_455 - r_457), z_257, z_258, z_259, z_439, z_452, z_453, z_450, z_451, z_448, z_449, z_446, z_447, z_444, z_445, z_442, z_443, z_440, z_441, i_t_foresight_rows8_count, f_t_foresight_rows8_letters)
                      else
                        if p2 = 8 then
                          (f_X1_look_s8 z_257 z_258 z_259 i_t_letters_size n_t_foresight_memory n_t_letters_worthToOther f_t_letters_worthToOther n_t_letters_worthToOne f_t_letters_worthToOne i_t_spoken_length i_t_spoken_words f_t_spoken_scales n_t_foresight_rows8_letters n_t_letters_sense f_t_letters_sense n_t_foresight_rows7_letters n_t_foresight_rows6_letters n_t_foresight_rows5_letters n_t_foresight_rows4_letters n_t_foresight_rows3_letters n_t_foresight_rows2_letters n_t_foresight_rows1_letters f_t_foresight_memory i_t_foresight_rows8_count f_t_foresight_rows8_letters i_t_foresight_rows7_count f_t_foresight_rows7_letters i_t_foresight_rows6_count f_t_foresight_rows6_letters i_t_foresight_rows5_count f_t_foresight_rows5_letters i_t_foresight_rows4_count f_t_foresight_rows4_letters i_t_foresight_rows3_count f_t_foresight_rows3_letters i_t_foresight_rows2_count f_t_foresight_rows2_letters i_t_foresight_rows1_count f_t_foresight_rows1_letters p1 0).bind fun (r_460, z_461, z_462, z_463, z_464, z_465, z_466, z_467, z_468, z_469, z_470, z_471, z_472, z_473, z_474, z_475, z_476, z_477) =>
                          (f_X1_look_s8 z_257 z_258 z_259 i_t_letters_size n_t_foresight_memory n_t_letters_worthToOther f_t_letters_worthToOther n_t_letters_worthToOne f_t_letters_worthToOne i_t_spoken_length i_t_spoken_words f_t_spoken_scales n_t_foresight_rows8_letters n_t_letters_sense f_t_letters_sense n_t_foresight_rows7_letters n_t_foresight_rows6_letters n_t_foresight_rows5_letters n_t_foresight_rows4_letters n_t_foresight_rows3_letters n_t_foresight_rows2_letters n_t_foresight_rows1_letters z_461 z_462 z_463 z_464 z_465 z_466 z_467 z_468 z_469 z_470 z_471 z_472 z_473 z_474 z_475 z_476 z_477 p1 1).bind fun (r_479, z_480, z_481, z_482, z_483, z_484, z_485, z_486, z_487, z_488, z_489, z_490, z_491, z_492, z_493, z_494, z_495, z_496) =>
                          (f_X3_worthTo i_t_letters_size n_t_letters_worthToOther f_t_letters_worthToOther n_t_letters_worthToOne f_t_letters_worthToOne 0 (r_460 - r_460 / 4096 * 4096)).bind fun r_498 =>
                          (f_X3_worthTo i_t_letters_size n_t_letters_worthToOther f_t_letters_worthToOther n_t_letters_worthToOne f_t_letters_worthToOne 0 (r_479 - r_479 / 4096 * 4096)).bind fun r_500 =>
                          some ((r_498 - r_500), z_257, z_258, z_259, z_480, z_495, z_496, z_493, z_494, z_491, z_492, z_489, z_490, z_487, z_488, z_485, z_486, z_483, z_484, z_481, z_482)
                        else
                          none
      else
        (f_X8_stamp i_t_letters_tongues i_t_now_law i_t_now_way).bind fun r_8 =>
        (f_X1_useRules i_t_foresight_law i_t_foresight_nonsense i_t_foresight_stamp i_t_now_law 0 r_8).bind fun (z_10, z_11, z_12) =>
        if p2 = 0 then
          (f_X1_look_s0 p1 0).bind fun r_15 =>
          (f_X1_look_s0 p1 1).bind fun r_17 =>
          (f_X3_worthTo i_t_letters_size n_t_letters_worthToOther f_t_letters_worthToOther n_t_letters_worthToOne f_t_letters_worthToOne 0 (r_15 - r_15 / 4096 * 4096)).bind fun r_19 =>
          (f_X3_worthTo i_t_letters_size n_t_letters_worthToOther f_t_letters_worthToOther n_t_letters_worthToOne f_t_letters_worthToOne 0 (r_17 - r_17 / 4096 * 4096)).bind fun r_21 =>
          some ((r_19 - r_21), z_10, z_11, z_12, f_t_foresight_memory, i_t_foresight_rows1_count, f_t_foresight_rows1_letters, i_t_foresight_rows2_count, f_t_foresight_rows2_letters, i_t_foresight_rows3_count, f_t_foresight_rows3_letters, i_t_foresight_rows4_count, f_t_foresight_rows4_letters, i_t_foresight_rows5_count, f_t_foresight_rows5_letters, i_t_foresight_rows6_count, f_t_foresight_rows6_letters, i_t_foresight_rows7_count, f_t_foresight_rows7_letters, i_t_foresight_rows8_count, f_t_foresight_rows8_letters)
        else
          if p2 = 1 then
            (f_X1_look_s1 z_10 z_11 z_12 i_t_letters_size n_t_foresight_memory n_t_letters_worthToOther f_t_letters_worthToOther n_t_letters_worthToOne f_t_letters_worthToOne i_t_spoken_length i_t_spoken_words f_t_spoken_scales n_t_foresight_rows1_letters n_t_letters_sense f_t_letters_sense f_t_foresight_memory i_t_foresight_rows1_count f_t_foresight_rows1_letters p1 0).bind fun (r_24, z_25, z_26, z_27) =>
            (f_X1_look_s1 z_10 z_11 z_12 i_t_letters_size n_t_foresight_memory n_t_letters_worthToOther f_t_letters_worthToOther n_t_letters_worthToOne f_t_letters_worthToOne i_t_spoken_length i_t_spoken_words f_t_spoken_scales n_t_foresight_rows1_letters n_t_letters_sense f_t_letters_sense z_25 z_26 z_27 p1 1).bind fun (r_29, z_30, z_31, z_32) =>
            (f_X3_worthTo i_t_letters_size n_t_letters_worthToOther f_t_letters_worthToOther n_t_letters_worthToOne f_t_letters_worthToOne 0 (r_24 - r_24 / 4096 * 4096)).bind fun r_34 =>
            (f_X3_worthTo i_t_letters_size n_t_letters_worthToOther f_t_letters_worthToOther n_t_letters_worthToOne f_t_letters_worthToOne 0 (r_29 - r_29 / 4096 * 4096)).bind fun r_36 =>
            some ((r_34 - r_36), z_10, z_11, z_12, z_30, z_31, z_32, i_t_foresight_rows2_count, f_t_foresight_rows2_letters, i_t_foresight_rows3_count, f_t_foresight_rows3_letters, i_t_foresight_rows4_count, f_t_foresight_rows4_letters, i_t_foresight_rows5_count, f_t_foresight_rows5_letters, i_t_foresight_rows6_count, f_t_foresight_rows6_letters, i_t_foresight_rows7_count, f_t_foresight_rows7_letters, i_t_foresight_rows8_count, f_t_foresight_rows8_letters)
          else
            if p2 = 2 then
              (f_X1_look_s2 z_10 z_11 z_12 i_t_letters_size n_t_foresight_memory n_t_letters_worthToOther f_t_letters_worthToOther n_t_letters_worthToOne f_t_letters_worthToOne i_t_spoken_length i_t_spoken_words f_t_spoken_scales n_t_foresight_rows2_letters n_t_letters_sense f_t_letters_sense n_t_foresight_rows1_letters f_t_foresight_memory i_t_foresight_rows2_count f_t_foresight_rows2_letters i_t_foresight_rows1_count f_t_foresight_rows1_letters p1 0).bind fun (r_39, z_40, z_41, z_42, z_43, z_44) =>
              (f_X1_look_s2 z_10 z_11 z_12 i_t_letters_size n_t_foresight_memory n_t_letters_worthToOther f_t_letters_worthToOther n_t_letters_worthToOne f_t_letters_worthToOne i_t_spoken_length i_t_spoken_words f_t_spoken_scales n_t_foresight_rows2_letters n_t_letters_sense f_t_letters_sense n_t_foresight_rows1_letters z_40 z_41 z_42 z_43 z_44 p1 1).bind fun (r_46, z_47, z_48, z_49, z_50, z_51) =>
              (f_X3_worthTo i_t_letters_size n_t_letters_worthToOther f_t_letters_worthToOther n_t_letters_worthToOne f_t_letters_worthToOne 0 (r_39 - r_39 / 4096 * 4096)).bind fun r_53 =>
              (f_X3_worthTo i_t_letters_size n_t_letters_worthToOther f_t_letters_worthToOther n_t_letters_worthToOne f_t_letters_worthToOne 0 (r_46 - r_46 / 4096 * 4096)).bind fun r_55 =>
              some ((r_53 - r_55), z_10, z_11, z_12, z_47, z_50, z_51, z_48, z_49, i_t_foresight_rows3_count, f_t_foresight_rows3_letters, i_t_foresight_rows4_count, f_t_foresight_rows4_letters, i_t_foresight_rows5_count, f_t_foresight_rows5_letters, i_t_foresight_rows6_count, f_t_foresight_rows6_letters, i_t_foresight_rows7_count, f_t_foresight_rows7_letters, i_t_foresight_rows8_count, f_t_foresight_rows8_letters)
            else
              if p2 = 3 then
                (f_X1_look_s3 z_10 z_11 z_12 i_t_letters_size n_t_foresight_memory n_t_letters_worthToOther f_t_letters_worthToOther n_t_letters_worthToOne f_t_letters_worthToOne i_t_spoken_length i_t_spoken_words f_t_spoken_scales n_t_foresight_rows3_letters n_t_letters_sense f_t_letters_sense n_t_foresight_rows2_letters n_t_foresight_rows1_letters f_t_foresight_memory i_t_foresight_rows3_count f_t_foresight_rows3_letters i_t_foresight_rows2_count f_t_foresight_rows2_letters i_t_foresight_rows1_count f_t_foresight_rows1_letters p1 0).bind fun (r_58, z_59, z_60, z_61, z_62, z_63, z_64, z_65) =>
                (f_X1_look_s3 z_10 z_11 z_12 i_t_letters_size n_t_foresight_memory n_t_letters_worthToOther f_t_letters_worthToOther n_t_letters_worthToOne f_t_letters_worthToOne i_t_spoken_length i_t_spoken_words f_t_spoken_scales n_t_foresight_rows3_letters n_t_letters_sense f_t_letters_sense n_t_foresight_rows2_letters n_t_foresight_rows1_letters z_59 z_60 z_61 z_62 z_63 z_64 z_65 p1 1).bind fun (r_67, z_68, z_69, z_70, z_71, z_72, z_73, z_74) =>
                (f_X3_worthTo i_t_letters_size n_t_letters_worthToOther f_t_letters_worthToOther n_t_letters_worthToOne f_t_letters_worthToOne 0 (r_58 - r_58 / 4096 * 4096)).bind fun r_76 =>
                (f_X3_worthTo i_t_letters_size n_t_letters_worthToOther f_t_letters_worthToOther n_t_letters_worthToOne f_t_letters_worthToOne 0 (r_67 - r_67 / 4096 * 4096)).bind fun r_78 =>
                some ((r_76 - r_78), z_10, z_11, z_12, z_68, z_73, z_74, z_71, z_72, z_69, z_70, i_t_foresight_rows4_count, f_t_foresight_rows4_letters, i_t_foresight_rows5_count, f_t_foresight_rows5_letters, i_t_foresight_rows6_count, f_t_foresight_rows6_letters, i_t_foresight_rows7_count, f_t_foresight_rows7_letters, i_t_foresight_rows8_count, f_t_foresight_rows8_letters)
              else
                if p2 = 4 then
                  (f_X1_look_s4 z_10 z_11 z_12 i_t_letters_size n_t_foresight_memory n_t_letters_worthToOther f_t_letters_worthToOther n_t_letters_worthToOne f_t_letters_worthToOne i_t_spoken_length i_t_spoken_words f_t_spoken_scales n_t_foresight_rows4_letters n_t_letters_sense f_t_letters_sense n_t_foresight_rows3_letters n_t_foresight_rows2_letters n_t_foresight_rows1_letters f_t_foresight_memory i_t_foresight_rows4_count f_t_foresight_rows4_letters i_t_foresight_rows3_count f_t_foresight_rows3_letters i_t_foresight_rows2_count f_t_foresight_rows2_letters i_t_foresight_rows1_count f_t_foresight_rows1_letters p1 0).bind fun (r_81, z_82, z_83, z_84, z_85, z_86, z_87, z_88, z_89, z_90) =>
                  (f_X1_look_s4 z_10 z_11 z_12 i_t_letters_size n_t_foresight_memory n_t_letters_worthToOther f_t_letters_worthToOther n_t_letters_worthToOne f_t_letters_worthToOne i_t_spoken_length i_t_spoken_words f_t_spoken_scales n_t_foresight_rows4_letters n_t_letters_sense f_t_letters_sense n_t_foresight_rows3_letters n_t_foresight_rows2_letters n_t_foresight_rows1_letters z_82 z_83 z_84 z_85 z_86 z_87 z_88 z_89 z_90 p1 1).bind fun (r_92, z_93, z_94, z_95, z_96, z_97, z_98, z_99, z_100, z_101) =>
                  (f_X3_worthTo i_t_letters_size n_t_letters_worthToOther f_t_letters_worthToOther n_t_letters_worthToOne f_t_letters_worthToOne 0 (r_81 - r_81 / 4096 * 4096)).bind fun r_103 =>
                  (f_X3_worthTo i_t_letters_size n_t_letters_worthToOther f_t_letters_worthToOther n_t_letters_worthToOne f_t_letters_worthToOne 0 (r_92 - r_92 / 4096 * 4096)).bind fun r_105 =>
                  some ((r_103 - r_105), z_10, z_11, z_12, z_93, z_100, z_101, z_98, z_99, z_96, z_97, z_94, z_95, i_t_foresight_rows5_count, f_t_foresight_rows5_letters, i_t_foresight_rows6_count, f_t_foresight_rows6_letters, i_t_foresight_rows7_count, f_t_foresight_rows7_letters, i_t_foresight_rows8_count, f_t_foresight_rows8_letters)
                else
                  if p2 = 5 then
                    (f_X1_look_s5 z_10 z_11 z_12 i_t_letters_size n_t_foresight_memory n_t_letters_worthToOther f_t_letters_worthToOther n_t_letters_worthToOne f_t_letters_worthToOne i_t_spoken_length i_t_spoken_words f_t_spoken_scales n_t_foresight_rows5_letters n_t_letters_sense f_t_letters_sense n_t_foresight_rows4_letters n_t_foresight_rows3_letters n_t_foresight_rows2_letters n_t_foresight_rows1_letters f_t_foresight_memory i_t_foresight_rows5_count f_t_foresight_rows5_letters i_t_foresight_rows4_count f_t_foresight_rows4_letters i_t_foresight_rows3_count f_t_foresight_rows3_letters i_t_foresight_rows2_count f_t_foresight_rows2_letters i_t_foresight_rows1_count f_t_foresight_rows1_letters p1 0).bind fun (r_108, z_109, z_110, z_111, z_112, z_113, z_114, z_115, z_116, z_117, z_118, z_119) =>
                    (f_X1_look_s5 z_10 z_11 z_12 i_t_letters_size n_t_foresight_memory n_t_letters_worthToOther f_t_letters_worthToOther n_t_letters_worthToOne f_t_letters_worthToOne i_t_spoken_length i_t_spoken_words f_t_spoken_scales n_t_foresight_rows5_letters n_t_letters_sense f_t_letters_sense n_t_foresight_rows4_letters n_t_foresight_rows3_letters n_t_foresight_rows2_letters n_t_foresight_rows1_letters z_109 z_110 z_111 z_112 z_113 z_114 z_115 z_116 z_117 z_118 z_119 p1 1).bind fun (r_121, z_122, z_123, z_124, z_125, z_126, z_127, z_128, z_129, z_130, z_131, z_132) =>
                    (f_X3_worthTo i_t_letters_size n_t_letters_worthToOther f_t_letters_worthToOther n_t_letters_worthToOne f_t_letters_worthToOne 0 (r_108 - r_108 / 4096 * 4096)).bind fun r_134 =>
                    (f_X3_worthTo i_t_letters_size n_t_letters_worthToOther f_t_letters_worthToOther n_t_letters_worthToOne f_t_letters_worthToOne 0 (r_121 - r_121 / 4096 * 4096)).bind fun r_136 =>
                    some ((r_134 - r_136), z_10, z_11, z_12, z_122, z_131, z_132, z_129, z_130, z_127, z_128, z_125, z_126, z_123, z_124, i_t_foresight_rows6_count, f_t_foresight_rows6_letters, i_t_foresight_rows7_count, f_t_foresight_rows7_letters, i_t_foresight_rows8_count, f_t_foresight_rows8_letters)
                  else
                    if p2 = 6 then
                      (f_X1_look_s6 z_10 z_11 z_12 i_t_letters_size n_t_foresight_memory n_t_letters_worthToOther f_t_letters_worthToOther n_t_letters_worthToOne f_t_letters_worthToOne i_t_spoken_length i_t_spoken_words f_t_spoken_scales n_t_foresight_rows6_letters n_t_letters_sense f_t_letters_sense n_t_foresight_rows5_letters n_t_foresight_rows4_letters n_t_foresight_rows3_letters n_t_foresight_rows2_letters n_t_foresight_rows1_letters f_t_foresight_memory i_t_foresight_rows6_count f_t_foresight_rows6_letters i_t_foresight_rows5_count f_t_foresight_rows5_letters i_t_foresight_rows4_count f_t_foresight_rows4_letters i_t_foresight_rows3_count f_t_foresight_rows3_letters i_t_foresight_rows2_count f_t_foresight_rows2_letters i_t_foresight_rows1_count f_t_foresight_rows1_letters p1 0).bind fun (r_139, z_140, z_141, z_142, z_143, z_144, z_145, z_146, z_147, z_148, z_149, z_150, z_151, z_152) =>
                      (f_X1_look_s6 z_10 z_11 z_12 i_t_letters_size n_t_foresight_memory n_t_letters_worthToOther f_t_letters_worthToOther n_t_letters_worthToOne f_t_letters_worthToOne i_t_spoken_length i_t_spoken_words f_t_spoken_scales n_t_foresight_rows6_letters n_t_letters_sense f_t_letters_sense n_t_foresight_rows5_letters n_t_foresight_rows4_letters n_t_foresight_rows3_letters n_t_foresight_rows2_letters n_t_foresight_rows1_letters z_140 z_141 z_142 z_143 z_144 z_145 z_146 z_147 z_148 z_149 z_150 z_151 z_152 p1 1).bind fun (r_154, z_155, z_156, z_157, z_158, z_159, z_160, z_161, z_162, z_163, z_164, z_165, z_166, z_167) =>
                      (f_X3_worthTo i_t_letters_size n_t_letters_worthToOther f_t_letters_worthToOther n_t_letters_worthToOne f_t_letters_worthToOne 0 (r_139 - r_139 / 4096 * 4096)).bind fun r_169 =>
                      (f_X3_worthTo i_t_letters_size n_t_letters_worthToOther f_t_letters_worthToOther n_t_letters_worthToOne f_t_letters_worthToOne 0 (r_154 - r_154 / 4096 * 4096)).bind fun r_171 =>
                      some ((r_169 - r_171), z_10, z_11, z_12, z_155, z_166, z_167, z_164, z_165, z_162, z_163, z_160, z_161, z_158, z_159, z_156, z_157, i_t_foresight_rows7_count, f_t_foresight_rows7_letters, i_t_foresight_rows8_count, f_t_foresight_rows8_letters)
                    else
                      if p2 = 7 then
                        (f_X1_look_s7 z_10 z_11 z_12 i_t_letters_size n_t_foresight_memory n_t_letters_worthToOther f_t_letters_worthToOther n_t_letters_worthToOne f_t_letters_worthToOne i_t_spoken_length i_t_spoken_words f_t_spoken_scales n_t_foresight_rows7_letters n_t_letters_sense f_t_letters_sense n_t_foresight_rows6_letters n_t_foresight_rows5_letters n_t_foresight_rows4_letters n_t_foresight_rows3_letters n_t_foresight_rows2_letters n_t_foresight_rows1_letters f_t_foresight_memory i_t_foresight_rows7_count f_t_foresight_rows7_letters i_t_foresight_rows6_count f_t_foresight_rows6_letters i_t_foresight_rows5_count f_t_foresight_rows5_letters i_t_foresight_rows4_count f_t_foresight_rows4_letters i_t_foresight_rows3_count f_t_foresight_rows3_letters i_t_foresight_rows2_count f_t_foresight_rows2_letters i_t_foresight_rows1_count f_t_foresight_rows1_letters p1 0).bind fun (r_174, z_175, z_176, z_177, z_178, z_179, z_180, z_181, z_182, z_183, z_184, z_185, z_186, z_187, z_188, z_189) =>
                        (f_X1_look_s7 z_10 z_11 z_12 i_t_letters_size n_t_foresight_memory n_t_letters_worthToOther f_t_letters_worthToOther n_t_letters_worthToOne f_t_letters_worthToOne i_t_spoken_length i_t_spoken_words f_t_spoken_scales n_t_foresight_rows7_letters n_t_letters_sense f_t_letters_sense n_t_foresight_rows6_letters n_t_foresight_rows5_letters n_t_foresight_rows4_letters n_t_foresight_rows3_letters n_t_foresight_rows2_letters n_t_foresight_rows1_letters z_175 z_176 z_177 z_178 z_179 z_180 z_181 z_182 z_183 z_184 z_185 z_186 z_187 z_188 z_189 p1 1).bind fun (r_191, z_192, z_193, z_194, z_195, z_196, z_197, z_198, z_199, z_200, z_201, z_202, z_203, z_204, z_205, z_206) =>
                        (f_X3_worthTo i_t_letters_size n_t_letters_worthToOther f_t_letters_worthToOther n_t_letters_worthToOne f_t_letters_worthToOne 0 (r_174 - r_174 / 4096 * 4096)).bind fun r_208 =>
                        (f_X3_worthTo i_t_letters_size n_t_letters_worthToOther f_t_letters_worthToOther n_t_letters_worthToOne f_t_letters_worthToOne 0 (r_191 - r_191 / 4096 * 4096)).bind fun r_210 =>
                        some ((r_208 - r_210), z_10, z_11, z_12, z_192, z_205, z_206, z_203, z_204, z_201, z_202, z_199, z_200, z_197, z_198, z_195, z_196, z_193, z_194, i_t_foresight_rows8_count, f_t_foresight_rows8_letters)
                      else
                        if p2 = 8 then
                          (f_X1_look_s8 z_10 z_11 z_12 i_t_letters_size n_t_foresight_memory n_t_letters_worthToOther f_t_letters_worthToOther n_t_letters_worthToOne f_t_letters_worthToOne i_t_spoken_length i_t_spoken_words f_t_spoken_scales n_t_foresight_rows8_letters n_t_letters_sense f_t_letters_sense n_t_foresight_rows7_letters n_t_foresight_rows6_letters n_t_foresight_rows5_letters n_t_foresight_rows4_letters n_t_foresight_rows3_letters n_t_foresight_rows2_letters n_t_foresight_rows1_letters f_t_foresight_memory i_t_foresight_rows8_count f_t_foresight_rows8_letters i_t_foresight_rows7_count f_t_foresight_rows7_letters i_t_foresight_rows6_count f_t_foresight_rows6_letters i_t_foresight_rows5_count f_t_foresight_rows5_letters i_t_foresight_rows4_count f_t_foresight_rows4_letters i_t_foresight_rows3_count f_t_foresight_rows3_letters i_t_foresight_rows2_count f_t_foresight_rows2_letters i_t_foresight_rows1_count f_t_foresight_rows1_letters p1 0).bind fun (r_213, z_214, z_215, z_216, z_217, z_218, z_219, z_220, z_221, z_222, z_223, z_224, z_225, z_226, z_227, z_228, z_229, z_230) =>
                          (f_X1_look_s8 z_10 z_11 z_12 i_t_letters_size n_t_foresight_memory n_t_letters_worthToOther f_t_letters_worthToOther n_t_letters_worthToOne f_t_letters_worthToOne i_t_spoken_length i_t_spoken_words f_t_spoken_scales n_t_foresight_rows8_letters n_t_letters_sense f_t_letters_sense n_t_foresight_rows7_letters n_t_foresight_rows6_letters n_t_foresight_rows5_letters n_t_foresight_rows4_letters n_t_foresight_rows3_letters n_t_foresight_rows2_letters n_t_foresight_rows1_letters z_214 z_215 z_216 z_217 z_218 z_219 z_220 z_221 z_222 z_223 z_224 z_225 z_226 z_227 z_228 z_229 z_230 p1 1).bind fun (r_232, z_233, z_234, z_235, z_236, z_237, z_238, z_239, z_240, z_241, z_242, z_243, z_244, z_245, z_246, z_247, z_248, z_249) =>
                          (f_X3_worthTo i_t_letters_size n_t_letters_worthToOther f_t_letters_worthToOther n_t_letters_worthToOne f_t_letters_worthToOne 0 (r_213 - r_213 / 4096 * 4096)).bind fun r_251 =>
                          (f_X3_worthTo i_t_letters_size n_t_letters_worthToOther f_t_letters_worthToOther n_t_letters_worthToOne f_t_letters_worthToOne 0 (r_232 - r_232 / 4096 * 4096)).bind fun r_253 =>
                          some ((r_251 - r_253), z_10, z_11, z_12, z_233, z_248, z_249, z_246, z_247, z_244, z_245, z_242, z_243, z_240, z_241, z_238, z_239, z_236, z_237, z_234, z_235)
                        else
                          none
def f_X8_carrier_L34 (i_t_letters_size : Int32) (i_t_now_law : Int32) (i_t_now_way : Int32) (i_t_spoken_length : Int32) (i_t_spoken_words : Int32) (f_t_spoken_scales : Nat → Int32) (n_t_changes_letters : Nat) (n_t_letters_sense : Nat) (f_t_letters_sense : Nat → Int32) (n_t_found_letters : Nat) : Nat → Int32 → Int32 → Int32 → Int32 → (Nat → Int32) → Int32 → (Nat → Int32) → Option (Int32 × Int32 × (Nat → Int32) × Int32 × (Nat → Int32))
  | 0, _, _, _, _, _, _, _ => none
  | n + 1, v2, v3, v4, i_t_changes_count, f_t_changes_letters, i_t_found_count, f_t_found_letters =>
    if i_t_changes_count ≤ v4 then
      (f_X6_countOrGet i_t_found_count n_t_found_letters f_t_found_letters v3).bind fun r_13 =>
      some (r_13, i_t_changes_count, f_t_changes_letters, i_t_found_count, f_t_found_letters)
    else
      (f_X6_get i_t_changes_count n_t_changes_letters f_t_changes_letters v4).bind fun r_15 =>
      (f_X7_wordsApart i_t_spoken_length i_t_spoken_words f_t_spoken_scales r_15 v2).bind fun r_17 =>
      if 1 < r_17 then
        f_X8_carrier_L34 i_t_letters_size i_t_now_law i_t_now_way i_t_spoken_length i_t_spoken_words f_t_spoken_scales n_t_changes_letters n_t_letters_sense f_t_letters_sense n_t_found_letters n v2 v3 (v4 + 1) i_t_changes_count f_t_changes_letters i_t_found_count f_t_found_letters
      else
        (f_X6_get i_t_changes_count n_t_changes_letters f_t_changes_letters v4).bind fun r_20 =>
        (f_X6_add n_t_found_letters i_t_found_count f_t_found_letters r_20).bind fun (z_22, z_23) =>
        f_X8_carrier_L34 i_t_letters_size i_t_now_law i_t_now_way i_t_spoken_length i_t_spoken_words f_t_spoken_scales n_t_changes_letters n_t_letters_sense f_t_letters_sense n_t_found_letters n v2 v3 (v4 + 1) i_t_changes_count f_t_changes_letters z_22 z_23
def f_X8_carrier (i_t_letters_size : Int32) (i_t_now_law : Int32) (i_t_now_way : Int32) (i_t_spoken_length : Int32) (i_t_spoken_words : Int32) (f_t_spoken_scales : Nat → Int32) (n_t_changes_letters : Nat) (n_t_letters_sense : Nat) (f_t_letters_sense : Nat → Int32) (n_t_found_letters : Nat) (i_t_changes_count : Int32) (f_t_changes_letters : Nat → Int32) (i_t_found_count : Int32) (f_t_found_letters : Nat → Int32) (p1 : Int32) (p2 : Int32) (p3 : Int32) : Option (Int32 × Int32 × (Nat → Int32) × Int32 × (Nat → Int32)) :=
  (f_X8_isLetter i_t_letters_size p1).bind fun r_1 =>
  if r_1 = 0 then
    some ((-1000000002), i_t_changes_count, f_t_changes_letters, i_t_found_count, f_t_found_letters)
  else
    (f_X8_isLetter i_t_letters_size p2).bind fun r_4 =>
    if r_4 = 0 then
      some ((-1000000002), i_t_changes_count, f_t_changes_letters, i_t_found_count, f_t_found_letters)
    else
      (f_X8_listChanges i_t_letters_size i_t_now_law i_t_now_way i_t_spoken_length i_t_spoken_words f_t_spoken_scales n_t_changes_letters n_t_letters_sense f_t_letters_sense i_t_changes_count f_t_changes_letters p1).bind fun (z_7, z_8) =>
      (f_X6_empty i_t_found_count).bind fun z_10 =>
      f_X8_carrier_L34 i_t_letters_size i_t_now_law i_t_now_way i_t_spoken_length i_t_spoken_words f_t_spoken_scales n_t_changes_letters n_t_letters_sense f_t_letters_sense n_t_found_letters FU p2 p3 0 z_7 z_8 z_10 f_t_found_letters
def f_X8_guess (i_t_guessCount : Int32) (i_t_guesses0_house : Int32) (i_t_guesses1_house : Int32) (i_t_guesses2_house : Int32) (i_t_guesses3_house : Int32) (i_t_guesses4_house : Int32) (i_t_guesses5_house : Int32) (f_t_guesses0_worths : Nat → Int32) (f_t_guesses1_worths : Nat → Int32) (f_t_guesses2_worths : Nat → Int32) (f_t_guesses3_worths : Nat → Int32) (f_t_guesses4_worths : Nat → Int32) (f_t_guesses5_worths : Nat → Int32) (p1 : Int32) : Option (Int32 × Int32 × Int32 × Int32 × Int32 × Int32 × Int32 × Int32 × (Nat → Int32) × (Nat → Int32) × (Nat → Int32) × (Nat → Int32) × (Nat → Int32) × (Nat → Int32)) :=
  (f_X8_isHouse p1).bind fun r_1 =>
  if r_1 = 0 then
    some ((-1000000001), i_t_guessCount, i_t_guesses0_house, i_t_guesses1_house, i_t_guesses2_house, i_t_guesses3_house, i_t_guesses4_house, i_t_guesses5_house, f_t_guesses0_worths, f_t_guesses1_worths, f_t_guesses2_worths, f_t_guesses3_worths, f_t_guesses4_worths, f_t_guesses5_worths)
  else
    if i_t_guessCount < 6 then
      if i_t_guessCount = 0 then
        (f_X2_restart i_t_guesses0_house f_t_guesses0_worths p1).bind fun (z_6, z_7) =>
        some (((i_t_guessCount + 1) - 1), (i_t_guessCount + 1), z_6, i_t_guesses1_house, i_t_guesses2_house, i_t_guesses3_house, i_t_guesses4_house, i_t_guesses5_house, z_7, f_t_guesses1_worths, f_t_guesses2_worths, f_t_guesses3_worths, f_t_guesses4_worths, f_t_guesses5_worths)
      else
        if i_t_guessCount = 1 then
          (f_X2_restart i_t_guesses1_house f_t_guesses1_worths p1).bind fun (z_10, z_11) =>
          some (((i_t_guessCount + 1) - 1), (i_t_guessCount + 1), i_t_guesses0_house, z_10, i_t_guesses2_house, i_t_guesses3_house, i_t_guesses4_house, i_t_guesses5_house, f_t_guesses0_worths, z_11, f_t_guesses2_worths, f_t_guesses3_worths, f_t_guesses4_worths, f_t_guesses5_worths)
        else
          if i_t_guessCount = 2 then
            (f_X2_restart i_t_guesses2_house f_t_guesses2_worths p1).bind fun (z_14, z_15) =>
            some (((i_t_guessCount + 1) - 1), (i_t_guessCount + 1), i_t_guesses0_house, i_t_guesses1_house, z_14, i_t_guesses3_house, i_t_guesses4_house, i_t_guesses5_house, f_t_guesses0_worths, f_t_guesses1_worths, z_15, f_t_guesses3_worths, f_t_guesses4_worths, f_t_guesses5_worths)
          else
            if i_t_guessCount = 3 then
              (f_X2_restart i_t_guesses3_house f_t_guesses3_worths p1).bind fun (z_18, z_19) =>
              some (((i_t_guessCount + 1) - 1), (i_t_guessCount + 1), i_t_guesses0_house, i_t_guesses1_house, i_t_guesses2_house, z_18, i_t_guesses4_house, i_t_guesses5_house, f_t_guesses0_worths, f_t_guesses1_worths, f_t_guesses2_worths, z_19, f_t_guesses4_worths, f_t_guesses5_worths)
            else
              if i_t_guessCount = 4 then
                (f_X2_restart i_t_guesses4_house f_t_guesses4_worths p1).bind fun (z_22, z_23) =>
                some (((i_t_guessCount + 1) - 1), (i_t_guessCount + 1), i_t_guesses0_house, i_t_guesses1_house, i_t_guesses2_house, i_t_guesses3_house, z_22, i_t_guesses5_house, f_t_guesses0_worths, f_t_guesses1_worths, f_t_guesses2_worths, f_t_guesses3_worths, z_23, f_t_guesses5_worths)
              else
                if i_t_guessCount = 5 then
                  (f_X2_restart i_t_guesses5_house f_t_guesses5_worths p1).bind fun (z_26, z_27) =>
                  some (((i_t_guessCount + 1) - 1), (i_t_guessCount + 1), i_t_guesses0_house, i_t_guesses1_house, i_t_guesses2_house, i_t_guesses3_house, i_t_guesses4_house, z_26, f_t_guesses0_worths, f_t_guesses1_worths, f_t_guesses2_worths, f_t_guesses3_worths, f_t_guesses4_worths, z_27)
                else
                  none
    else
      some ((-1000000004), i_t_guessCount, i_t_guesses0_house, i_t_guesses1_house, i_t_guesses2_house, i_t_guesses3_house, i_t_guesses4_house, i_t_guesses5_house, f_t_guesses0_worths, f_t_guesses1_worths, f_t_guesses2_worths, f_t_guesses3_worths, f_t_guesses4_worths, f_t_guesses5_worths)
def f_X8_isGuess (i_t_guessCount : Int32) (p1 : Int32) : Option (Int32) :=
  if p1 < 0 then
    some 0
  else
    if i_t_guessCount ≤ p1 then
      some 0
    else
      some 1
def f_X8_mean (i_t_guessCount : Int32) (i_t_spoken_words : Int32) (f_t_guesses0_worths : Nat → Int32) (f_t_guesses1_worths : Nat → Int32) (f_t_guesses2_worths : Nat → Int32) (f_t_guesses3_worths : Nat → Int32) (f_t_guesses4_worths : Nat → Int32) (f_t_guesses5_worths : Nat → Int32) (p1 : Int32) (p2 : Int32) (p3 : Int32) : Option (Int32 × (Nat → Int32) × (Nat → Int32) × (Nat → Int32) × (Nat → Int32) × (Nat → Int32) × (Nat → Int32)) :=
  (f_X8_isGuess i_t_guessCount p1).bind fun r_1 =>
  if r_1 = 0 then
    some ((-1000000001), f_t_guesses0_worths, f_t_guesses1_worths, f_t_guesses2_worths, f_t_guesses3_worths, f_t_guesses4_worths, f_t_guesses5_worths)
  else
    (f_X8_isWord i_t_spoken_words p2).bind fun r_4 =>
    if r_4 = 0 then
      some ((-1000000001), f_t_guesses0_worths, f_t_guesses1_worths, f_t_guesses2_worths, f_t_guesses3_worths, f_t_guesses4_worths, f_t_guesses5_worths)
    else
      if p3 < (-50) then
        some ((-1000000002), f_t_guesses0_worths, f_t_guesses1_worths, f_t_guesses2_worths, f_t_guesses3_worths, f_t_guesses4_worths, f_t_guesses5_worths)
      else
        if p3 ≤ 49 then
          if p1 = 0 then
            if ixb p2 8 = true then
            if ixb p2 8 = true then
            some ((f_t_guesses0_worths (p2 : Int32).toNatClampNeg), (upd f_t_guesses0_worths (p2 : Int32).toNatClampNeg p3), f_t_guesses1_worths, f_t_guesses2_worths, f_t_guesses3_worths, f_t_guesses4_worths, f_t_guesses5_worths)
            else none
            else none
          else
            if p1 = 1 then
              if ixb p2 8 = true then
              if ixb p2 8 = true then
              some ((f_t_guesses1_worths (p2 : Int32).toNatClampNeg), f_t_guesses0_worths, (upd f_t_guesses1_worths (p2 : Int32).toNatClampNeg p3), f_t_guesses2_worths, f_t_guesses3_worths, f_t_guesses4_worths, f_t_guesses5_worths)
              else none
              else none
            else
              if p1 = 2 then
                if ixb p2 8 = true then
                if ixb p2 8 = true then
                some ((f_t_guesses2_worths (p2 : Int32).toNatClampNeg), f_t_guesses0_worths, f_t_guesses1_worths, (upd f_t_guesses2_worths (p2 : Int32).toNatClampNeg p3), f_t_guesses3_worths, f_t_guesses4_worths, f_t_guesses5_worths)
                else none
                else none
              else
                if p1 = 3 then
                  if ixb p2 8 = true then
                  if ixb p2 8 = true then
                  some ((f_t_guesses3_worths (p2 : Int32).toNatClampNeg), f_t_guesses0_worths, f_t_guesses1_worths, f_t_guesses2_worths, (upd f_t_guesses3_worths (p2 : Int32).toNatClampNeg p3), f_t_guesses4_worths, f_t_guesses5_worths)
                  else none
                  else none
                else
                  if p1 = 4 then
                    if ixb p2 8 = true then
                    if ixb p2 8 = true then
                    some ((f_t_guesses4_worths (p2 : Int32).toNatClampNeg), f_t_guesses0_worths, f_t_guesses1_worths, f_t_guesses2_worths, f_t_guesses3_worths, (upd f_t_guesses4_worths (p2 : Int32).toNatClampNeg p3), f_t_guesses5_worths)
                    else none
                    else none
                  else
                    if p1 = 5 then
                      if ixb p2 8 = true then
                      if ixb p2 8 = true then
                      some ((f_t_guesses5_worths (p2 : Int32).toNatClampNeg), f_t_guesses0_worths, f_t_guesses1_worths, f_t_guesses2_worths, f_t_guesses3_worths, f_t_guesses4_worths, (upd f_t_guesses5_worths (p2 : Int32).toNatClampNeg p3))
                      else none
                      else none
                    else
                      none
        else
          some ((-1000000002), f_t_guesses0_worths, f_t_guesses1_worths, f_t_guesses2_worths, f_t_guesses3_worths, f_t_guesses4_worths, f_t_guesses5_worths)
def f_X8_guessedWorth (i_p1_house : Int32) (i_t_letters_size : Int32) (n_t_letters_sense : Nat) (f_t_letters_sense : Nat → Int32) (i_t_spoken_length : Int32) (i_t_spoken_words : Int32) (f_p1_worths : Nat → Int32) (f_t_spoken_pairWorths0 : Nat → Int32) (f_t_spoken_pairWorths1 : Nat → Int32) (f_t_spoken_scales : Nat → Int32) (f_t_spoken_kinds : Nat → Int32) (p2 : Int32) : Option (Int32) :=
  (f_X3_isSense i_t_letters_size n_t_letters_sense f_t_letters_sense p2).bind fun r_1 =>
  if r_1 = 0 then
    some 0
  else
    (f_X8_isHouse i_p1_house).bind fun r_4 =>
    if r_4 = 0 then
      some 0
    else
      if i_p1_house = 0 then
        (f_X7_weigh i_t_spoken_length i_t_spoken_words 8 f_p1_worths 64 f_t_spoken_pairWorths0 f_t_spoken_scales f_t_spoken_kinds p2).bind fun r_8 =>
        some r_8
      else
        if i_p1_house = 1 then
          (f_X7_weigh i_t_spoken_length i_t_spoken_words 8 f_p1_worths 64 f_t_spoken_pairWorths1 f_t_spoken_scales f_t_spoken_kinds p2).bind fun r_11 =>
          some r_11
        else
          none
def f_X8_explains_L29 (i_p1_house : Int32) (i_t_letters_size : Int32) (n_t_letters_sense : Nat) (f_t_letters_sense : Nat → Int32) (i_t_spoken_length : Int32) (i_t_spoken_words : Int32) (f_p1_worths : Nat → Int32) (f_t_spoken_pairWorths0 : Nat → Int32) (f_t_spoken_pairWorths1 : Nat → Int32) (f_t_spoken_scales : Nat → Int32) (f_t_spoken_kinds : Nat → Int32) (i_t_now_law : Int32) (i_t_now_way : Int32) (n_t_changes_letters : Nat) : Nat → Int32 → Int32 → Int32 → (Nat → Int32) → Option (Int32 × Int32 × (Nat → Int32))
  | 0, _, _, _, _ => none
  | n + 1, v4, v5, i_t_changes_count, f_t_changes_letters =>
    if i_t_changes_count ≤ v5 then
      some (1, i_t_changes_count, f_t_changes_letters)
    else
      (f_X6_get i_t_changes_count n_t_changes_letters f_t_changes_letters v5).bind fun r_10 =>
      (f_X8_guessedWorth i_p1_house i_t_letters_size n_t_letters_sense f_t_letters_sense i_t_spoken_length i_t_spoken_words f_p1_worths f_t_spoken_pairWorths0 f_t_spoken_pairWorths1 f_t_spoken_scales f_t_spoken_kinds r_10).bind fun r_12 =>
      if r_12 ≤ v4 then
        f_X8_explains_L29 i_p1_house i_t_letters_size n_t_letters_sense f_t_letters_sense i_t_spoken_length i_t_spoken_words f_p1_worths f_t_spoken_pairWorths0 f_t_spoken_pairWorths1 f_t_spoken_scales f_t_spoken_kinds i_t_now_law i_t_now_way n_t_changes_letters n v4 (v5 + 1) i_t_changes_count f_t_changes_letters
      else
        some (0, i_t_changes_count, f_t_changes_letters)
def f_X8_explains (i_p1_house : Int32) (i_t_letters_size : Int32) (n_t_letters_sense : Nat) (f_t_letters_sense : Nat → Int32) (i_t_spoken_length : Int32) (i_t_spoken_words : Int32) (f_p1_worths : Nat → Int32) (f_t_spoken_pairWorths0 : Nat → Int32) (f_t_spoken_pairWorths1 : Nat → Int32) (f_t_spoken_scales : Nat → Int32) (f_t_spoken_kinds : Nat → Int32) (i_t_now_law : Int32) (i_t_now_way : Int32) (n_t_changes_letters : Nat) (i_t_changes_count : Int32) (f_t_changes_letters : Nat → Int32) (p2 : Int32) (p3 : Int32) : Option (Int32 × Int32 × (Nat → Int32)) :=
  (f_X8_guessedWorth i_p1_house i_t_letters_size n_t_letters_sense f_t_letters_sense i_t_spoken_length i_t_spoken_words f_p1_worths f_t_spoken_pairWorths0 f_t_spoken_pairWorths1 f_t_spoken_scales f_t_spoken_kinds p3).bind fun r_1 =>
  (f_X8_guessedWorth i_p1_house i_t_letters_size n_t_letters_sense f_t_letters_sense i_t_spoken_length i_t_spoken_words f_p1_worths f_t_spoken_pairWorths0 f_t_spoken_pairWorths1 f_t_spoken_scales f_t_spoken_kinds p2).bind fun r_3 =>
  if r_3 ≤ r_1 then
    (f_X8_listChanges i_t_letters_size i_t_now_law i_t_now_way i_t_spoken_length i_t_spoken_words f_t_spoken_scales n_t_changes_letters n_t_letters_sense f_t_letters_sense i_t_changes_count f_t_changes_letters p2).bind fun (z_6, z_7) =>
    f_X8_explains_L29 i_p1_house i_t_letters_size n_t_letters_sense f_t_letters_sense i_t_spoken_length i_t_spoken_words f_p1_worths f_t_spoken_pairWorths0 f_t_spoken_pairWorths1 f_t_spoken_scales f_t_spoken_kinds i_t_now_law i_t_now_way n_t_changes_letters FU r_1 0 z_6 z_7
  else
    some (0, i_t_changes_count, f_t_changes_letters)
def f_X8_fits_L20 (i_t_guessCount : Int32) (i_t_guesses0_house : Int32) (i_t_guesses1_house : Int32) (i_t_guesses2_house : Int32) (i_t_guesses3_house : Int32) (i_t_guesses4_house : Int32) (i_t_guesses5_house : Int32) (i_t_now_sent : Int32) (i_t_now_law : Int32) (i_t_now_way : Int32) (f_t_now_entries : Nat → Int32) (i_t_letters_size : Int32) (n_t_letters_sense : Nat) (f_t_letters_sense : Nat → Int32) (i_t_spoken_length : Int32) (i_t_spoken_words : Int32) (f_t_guesses0_worths : Nat → Int32) (f_t_spoken_pairWorths0 : Nat → Int32) (f_t_spoken_pairWorths1 : Nat → Int32) (f_t_spoken_scales : Nat → Int32) (f_t_spoken_kinds : Nat → Int32) (n_t_changes_letters : Nat) (f_t_guesses1_worths : Nat → Int32) (f_t_guesses2_worths : Nat → Int32) (f_t_guesses3_worths : Nat → Int32) (f_t_guesses4_worths : Nat → Int32) (f_t_guesses5_worths : Nat → Int32) : Nat → Int32 → Int32 → (Nat → Int32) → Option (Int32 × Int32 × (Nat → Int32))
  | 0, _, _, _ => none
  | n + 1, v3, i_t_changes_count, f_t_changes_letters =>
    if i_t_now_sent ≤ v3 then
      some (1, i_t_changes_count, f_t_changes_letters)
    else
      (f_X0_entry i_t_now_sent f_t_now_entries v3 0).bind fun r_6 =>
      if r_6 = i_t_guesses0_house then
        (f_X0_entry i_t_now_sent f_t_now_entries v3 1).bind fun r_9 =>
        (f_X0_entry i_t_now_sent f_t_now_entries v3 2).bind fun r_11 =>
        (f_X8_explains i_t_guesses0_house i_t_letters_size n_t_letters_sense f_t_letters_sense i_t_spoken_length i_t_spoken_words f_t_guesses0_worths f_t_spoken_pairWorths0 f_t_spoken_pairWorths1 f_t_spoken_scales f_t_spoken_kinds i_t_now_law i_t_now_way n_t_changes_letters i_t_changes_count f_t_changes_letters r_9 r_11).bind fun (r_13, z_14, z_15) =>
        if r_13 = 0 then
          some (0, z_14, z_15)
        else
          f_X8_fits_L20 i_t_guessCount i_t_guesses0_house i_t_guesses1_house i_t_guesses2_house i_t_guesses3_house i_t_guesses4_house i_t_guesses5_house i_t_now_sent i_t_now_law i_t_now_way f_t_now_entries i_t_letters_size n_t_letters_sense f_t_letters_sense i_t_spoken_length i_t_spoken_words f_t_guesses0_worths f_t_spoken_pairWorths0 f_t_spoken_pairWorths1 f_t_spoken_scales f_t_spoken_kinds n_t_changes_letters f_t_guesses1_worths f_t_guesses2_worths f_t_guesses3_worths f_t_guesses4_worths f_t_guesses5_worths n (v3 + 1) z_14 z_15
      else
        f_X8_fits_L20 i_t_guessCount i_t_guesses0_house i_t_guesses1_house i_t_guesses2_house i_t_guesses3_house i_t_guesses4_house i_t_guesses5_house i_t_now_sent i_t_now_law i_t_now_way f_t_now_entries i_t_letters_size n_t_letters_sense f_t_letters_sense i_t_spoken_length i_t_spoken_words f_t_guesses0_worths f_t_spoken_pairWorths0 f_t_spoken_pairWorths1 f_t_spoken_scales f_t_spoken_kinds n_t_changes_letters f_t_guesses1_worths f_t_guesses2_worths f_t_guesses3_worths f_t_guesses4_worths f_t_guesses5_worths n (v3 + 1) i_t_changes_count f_t_changes_letters
def f_X8_fits_L20b (i_t_guessCount : Int32) (i_t_guesses0_house : Int32) (i_t_guesses1_house : Int32) (i_t_guesses2_house : Int32) (i_t_guesses3_house : Int32) (i_t_guesses4_house : Int32) (i_t_guesses5_house : Int32) (i_t_now_sent : Int32) (i_t_now_law : Int32) (i_t_now_way : Int32) (f_t_now_entries : Nat → Int32) (i_t_letters_size : Int32) (n_t_letters_sense : Nat) (f_t_letters_sense : Nat → Int32) (i_t_spoken_length : Int32) (i_t_spoken_words : Int32) (f_t_guesses0_worths : Nat → Int32) (f_t_spoken_pairWorths0 : Nat → Int32) (f_t_spoken_pairWorths1 : Nat → Int32) (f_t_spoken_scales : Nat → Int32) (f_t_spoken_kinds : Nat → Int32) (n_t_changes_letters : Nat) (f_t_guesses1_worths : Nat → Int32) (f_t_guesses2_worths : Nat → Int32) (f_t_guesses3_worths : Nat → Int32) (f_t_guesses4_worths : Nat → Int32) (f_t_guesses5_worths : Nat → Int32) : Nat → Int32 → Int32 → (Nat → Int32) → Option (Int32 × Int32 × (Nat → Int32))
  | 0, _, _, _ => none
  | n + 1, v3, i_t_changes_count, f_t_changes_letters =>
    if i_t_now_sent ≤ v3 then
      some (1, i_t_changes_count, f_t_changes_letters)
    else
      (f_X0_entry i_t_now_sent f_t_now_entries v3 0).bind fun r_20 =>
      if r_20 = i_t_guesses1_house then
        (f_X0_entry i_t_now_sent f_t_now_entries v3 1).bind fun r_23 =>
        (f_X0_entry i_t_now_sent f_t_now_entries v3 2).bind fun r_25 =>
        (f_X8_explains i_t_guesses1_house i_t_letters_size n_t_letters_sense f_t_letters_sense i_t_spoken_length i_t_spoken_words f_t_guesses1_worths f_t_spoken_pairWorths0 f_t_spoken_pairWorths1 f_t_spoken_scales f_t_spoken_kinds i_t_now_law i_t_now_way n_t_changes_letters i_t_changes_count f_t_changes_letters r_23 r_25).bind fun (r_27, z_28, z_29) =>
        if r_27 = 0 then
          some (0, z_28, z_29)
        else
          f_X8_fits_L20b i_t_guessCount i_t_guesses0_house i_t_guesses1_house i_t_guesses2_house i_t_guesses3_house i_t_guesses4_house i_t_guesses5_house i_t_now_sent i_t_now_law i_t_now_way f_t_now_entries i_t_letters_size n_t_letters_sense f_t_letters_sense i_t_spoken_length i_t_spoken_words f_t_guesses0_worths f_t_spoken_pairWorths0 f_t_spoken_pairWorths1 f_t_spoken_scales f_t_spoken_kinds n_t_changes_letters f_t_guesses1_worths f_t_guesses2_worths f_t_guesses3_worths f_t_guesses4_worths f_t_guesses5_worths n (v3 + 1) z_28 z_29
      else
        f_X8_fits_L20b i_t_guessCount i_t_guesses0_house i_t_guesses1_house i_t_guesses2_house i_t_guesses3_house i_t_guesses4_house i_t_guesses5_house i_t_now_sent i_t_now_law i_t_now_way f_t_now_entries i_t_letters_size n_t_letters_sense f_t_letters_sense i_t_spoken_length i_t_spoken_words f_t_guesses0_worths f_t_spoken_pairWorths0 f_t_spoken_pairWorths1 f_t_spoken_scales f_t_spoken_kinds n_t_changes_letters f_t_guesses1_worths f_t_guesses2_worths f_t_guesses3_worths f_t_guesses4_worths f_t_guesses5_worths n (v3 + 1) i_t_changes_count f_t_changes_letters
def f_X8_fits_L20c (i_t_guessCount : Int32) (i_t_guesses0_house : Int32) (i_t_guesses1_house : Int32) (i_t_guesses2_house : Int32) (i_t_guesses3_house : Int32) (i_t_guesses4_house : Int32) (i_t_guesses5_house : Int32) (i_t_now_sent : Int32) (i_t_now_law : Int32) (i_t_now_way : Int32) (f_t_now_entries : Nat → Int32) (i_t_letters_size : Int32) (n_t_letters_sense : Nat) (f_t_letters_sense : Nat → Int32) (i_t_spoken_length : Int32) (i_t_spoken_words : Int32) (f_t_guesses0_worths : Nat → Int32) (f_t_spoken_pairWorths0 : Nat → Int32) (f_t_spoken_pairWorths1 : Nat → Int32) (f_t_spoken_scales : Nat → Int32) (f_t_spoken_kinds : Nat → Int32) (n_t_changes_letters : Nat) (f_t_guesses1_worths : Nat → Int32) (f_t_guesses2_worths : Nat → Int32) (f_t_guesses3_worths : Nat → Int32) (f_t_guesses4_worths : Nat → Int32) (f_t_guesses5_worths : Nat → Int32) : Nat → Int32 → Int32 → (Nat → Int32) → Option (Int32 × Int32 × (Nat → Int32))
  | 0, _, _, _ => none
  | n + 1, v3, i_t_changes_count, f_t_changes_letters =>
    if i_t_now_sent ≤ v3 then
      some (1, i_t_changes_count, f_t_changes_letters)
    else
      (f_X0_entry i_t_now_sent f_t_now_entries v3 0).bind fun r_34 =>
      if r_34 = i_t_guesses2_house then
        (f_X0_entry i_t_now_sent f_t_now_entries v3 1).bind fun r_37 =>
        (f_X0_entry i_t_now_sent f_t_now_entries v3 2).bind fun r_39 =>
        (f_X8_explains i_t_guesses2_house i_t_letters_size n_t_letters_sense f_t_letters_sense i_t_spoken_length i_t_spoken_words f_t_guesses2_worths f_t_spoken_pairWorths0 f_t_spoken_pairWorths1 f_t_spoken_scales f_t_spoken_kinds i_t_now_law i_t_now_way n_t_changes_letters i_t_changes_count f_t_changes_letters r_37 r_39).bind fun (r_41, z_42, z_43) =>
        if r_41 = 0 then
          some (0, z_42, z_43)
        else
          f_X8_fits_L20c i_t_guessCount i_t_guesses0_house i_t_guesses1_house i_t_guesses2_house i_t_guesses3_house i_t_guesses4_house i_t_guesses5_house i_t_now_sent i_t_now_law i_t_now_way f_t_now_entries i_t_letters_size n_t_letters_sense f_t_letters_sense i_t_spoken_length i_t_spoken_words f_t_guesses0_worths f_t_spoken_pairWorths0 f_t_spoken_pairWorths1 f_t_spoken_scales f_t_spoken_kinds n_t_changes_letters f_t_guesses1_worths f_t_guesses2_worths f_t_guesses3_worths f_t_guesses4_worths f_t_guesses5_worths n (v3 + 1) z_42 z_43
      else
        f_X8_fits_L20c i_t_guessCount i_t_guesses0_house i_t_guesses1_house i_t_guesses2_house i_t_guesses3_house i_t_guesses4_house i_t_guesses5_house i_t_now_sent i_t_now_law i_t_now_way f_t_now_entries i_t_letters_size n_t_letters_sense f_t_letters_sense i_t_spoken_length i_t_spoken_words f_t_guesses0_worths f_t_spoken_pairWorths0 f_t_spoken_pairWorths1 f_t_spoken_scales f_t_spoken_kinds n_t_changes_letters f_t_guesses1_worths f_t_guesses2_worths f_t_guesses3_worths f_t_guesses4_worths f_t_guesses5_worths n (v3 + 1) i_t_changes_count f_t_changes_letters
def f_X8_fits_L20d (i_t_guessCount : Int32) (i_t_guesses0_house : Int32) (i_t_guesses1_house : Int32) (i_t_guesses2_house : Int32) (i_t_guesses3_house : Int32) (i_t_guesses4_house : Int32) (i_t_guesses5_house : Int32) (i_t_now_sent : Int32) (i_t_now_law : Int32) (i_t_now_way : Int32) (f_t_now_entries : Nat → Int32) (i_t_letters_size : Int32) (n_t_letters_sense : Nat) (f_t_letters_sense : Nat → Int32) (i_t_spoken_length : Int32) (i_t_spoken_words : Int32) (f_t_guesses0_worths : Nat → Int32) (f_t_spoken_pairWorths0 : Nat → Int32) (f_t_spoken_pairWorths1 : Nat → Int32) (f_t_spoken_scales : Nat → Int32) (f_t_spoken_kinds : Nat → Int32) (n_t_changes_letters : Nat) (f_t_guesses1_worths : Nat → Int32) (f_t_guesses2_worths : Nat → Int32) (f_t_guesses3_worths : Nat → Int32) (f_t_guesses4_worths : Nat → Int32) (f_t_guesses5_worths : Nat → Int32) : Nat → Int32 → Int32 → (Nat → Int32) → Option (Int32 × Int32 × (Nat → Int32))
  | 0, _, _, _ => none
  | n + 1, v3, i_t_changes_count, f_t_changes_letters =>
    if i_t_now_sent ≤ v3 then
      some (1, i_t_changes_count, f_t_changes_letters)
    else
      (f_X0_entry i_t_now_sent f_t_now_entries v3 0).bind fun r_48 =>
      if r_48 = i_t_guesses3_house then
        (f_X0_entry i_t_now_sent f_t_now_entries v3 1).bind fun r_51 =>
        (f_X0_entry i_t_now_sent f_t_now_entries v3 2).bind fun r_53 =>
        (f_X8_explains i_t_guesses3_house i_t_letters_size n_t_letters_sense f_t_letters_sense i_t_spoken_length i_t_spoken_words f_t_guesses3_worths f_t_spoken_pairWorths0 f_t_spoken_pairWorths1 f_t_spoken_scales f_t_spoken_kinds i_t_now_law i_t_now_way n_t_changes_letters i_t_changes_count f_t_changes_letters r_51 r_53).bind fun (r_55, z_56, z_57) =>
        if r_55 = 0 then
          some (0, z_56, z_57)
        else
          f_X8_fits_L20d i_t_guessCount i_t_guesses0_house i_t_guesses1_house i_t_guesses2_house i_t_guesses3_house i_t_guesses4_house i_t_guesses5_house i_t_now_sent i_t_now_law i_t_now_way f_t_now_entries i_t_letters_size n_t_letters_sense f_t_letters_sense i_t_spoken_length i_t_spoken_words f_t_guesses0_worths f_t_spoken_pairWorths0 f_t_spoken_pairWorths1 f_t_spoken_scales f_t_spoken_kinds n_t_changes_letters f_t_guesses1_worths f_t_guesses2_worths f_t_guesses3_worths f_t_guesses4_worths f_t_guesses5_worths n (v3 + 1) z_56 z_57
      else
        f_X8_fits_L20d i_t_guessCount i_t_guesses0_house i_t_guesses1_house i_t_guesses2_house i_t_guesses3_house i_t_guesses4_house i_t_guesses5_house i_t_now_sent i_t_now_law i_t_now_way f_t_now_entries i_t_letters_size n_t_letters_sense f_t_letters_sense i_t_spoken_length i_t_spoken_words f_t_guesses0_worths f_t_spoken_pairWorths0 f_t_spoken_pairWorths1 f_t_spoken_scales f_t_spoken_kinds n_t_changes_letters f_t_guesses1_worths f_t_guesses2_worths f_t_guesses3_worths f_t_guesses4_worths f_t_guesses5_worths n (v3 + 1) i_t_changes_count f_t_changes_letters
def f_X8_fits_L20e (i_t_guessCount : Int32) (i_t_guesses0_house : Int32) (i_t_guesses1_house : Int32) (i_t_guesses2_house : Int32) (i_t_guesses3_house : Int32) (i_t_guesses4_house : Int32) (i_t_guesses5_house : Int32) (i_t_now_sent : Int32) (i_t_now_law : Int32) (i_t_now_way : Int32) (f_t_now_entries : Nat → Int32) (i_t_letters_size : Int32) (n_t_letters_sense : Nat) (f_t_letters_sense : Nat → Int32) (i_t_spoken_length : Int32) (i_t_spoken_words : Int32) (f_t_guesses0_worths : Nat → Int32) (f_t_spoken_pairWorths0 : Nat → Int32) (f_t_spoken_pairWorths1 : Nat → Int32) (f_t_spoken_scales : Nat → Int32) (f_t_spoken_kinds : Nat → Int32) (n_t_changes_letters : Nat) (f_t_guesses1_worths : Nat → Int32) (f_t_guesses2_worths : Nat → Int32) (f_t_guesses3_worths : Nat → Int32) (f_t_guesses4_worths : Nat → Int32) (f_t_guesses5_worths : Nat → Int32) : Nat → Int32 → Int32 → (Nat → Int32) → Option (Int32 × Int32 × (Nat → Int32))
  | 0, _, _, _ => none
  | n + 1, v3, i_t_changes_count, f_t_changes_letters =>
    if i_t_now_sent ≤ v3 then
      some (1, i_t_changes_count, f_t_changes_letters)
    else
      (f_X0_entry i_t_now_sent f_t_now_entries v3 0).bind fun r_62 =>
      if r_62 = i_t_guesses4_house then
        (f_X0_entry i_t_now_sent f_t_now_entries v3 1).bind fun r_65 =>
        (f_X0_entry i_t_now_sent f_t_now_entries v3 2).bind fun r_67 =>
        (f_X8_explains i_t_guesses4_house i_t_letters_size n_t_letters_sense f_t_letters_sense i_t_spoken_length i_t_spoken_words f_t_guesses4_worths f_t_spoken_pairWorths0 f_t_spoken_pairWorths1 f_t_spoken_scales f_t_spoken_kinds i_t_now_law i_t_now_way n_t_changes_letters i_t_changes_count f_t_changes_letters r_65 r_67).bind fun (r_69, z_70, z_71) =>
        if r_69 = 0 then
          some (0, z_70, z_71)
        else
          f_X8_fits_L20e i_t_guessCount i_t_guesses0_house i_t_guesses1_house i_t_guesses2_house i_t_guesses3_house i_t_guesses4_house i_t_guesses5_house i_t_now_sent i_t_now_law i_t_now_way f_t_now_entries i_t_letters_size n_t_letters_sense f_t_letters_sense i_t_spoken_length i_t_spoken_words f_t_guesses0_worths f_t_spoken_pairWorths0 f_t_spoken_pairWorths1 f_t_spoken_scales f_t_spoken_kinds n_t_changes_letters f_t_guesses1_worths f_t_guesses2_worths f_t_guesses3_worths f_t_guesses4_worths f_t_guesses5_worths n (v3 + 1) z_70 z_71
      else
        f_X8_fits_L20e i_t_guessCount i_t_guesses0_house i_t_guesses1_house i_t_guesses2_house i_t_guesses3_house i_t_guesses4_house i_t_guesses5_house i_t_now_sent i_t_now_law i_t_now_way f_t_now_entries i_t_letters_size n_t_letters_sense f_t_letters_sense i_t_spoken_length i_t_spoken_words f_t_guesses0_worths f_t_spoken_pairWorths0 f_t_spoken_pairWorths1 f_t_spoken_scales f_t_spoken_kinds n_t_changes_letters f_t_guesses1_worths f_t_guesses2_worths f_t_guesses3_worths f_t_guesses4_worths f_t_guesses5_worths n (v3 + 1) i_t_changes_count f_t_changes_letters
def f_X8_fits_L20f (i_t_guessCount : Int32) (i_t_guesses0_house : Int32) (i_t_guesses1_house : Int32) (i_t_guesses2_house : Int32) (i_t_guesses3_house : Int32) (i_t_guesses4_house : Int32) (i_t_guesses5_house : Int32) (i_t_now_sent : Int32) (i_t_now_law : Int32) (i_t_now_way : Int32) (f_t_now_entries : Nat → Int32) (i_t_letters_size : Int32) (n_t_letters_sense : Nat) (f_t_letters_sense : Nat → Int32) (i_t_spoken_length : Int32) (i_t_spoken_words : Int32) (f_t_guesses0_worths : Nat → Int32) (f_t_spoken_pairWorths0 : Nat → Int32) (f_t_spoken_pairWorths1 : Nat → Int32) (f_t_spoken_scales : Nat → Int32) (f_t_spoken_kinds : Nat → Int32) (n_t_changes_letters : Nat) (f_t_guesses1_worths : Nat → Int32) (f_t_guesses2_worths : Nat → Int32) (f_t_guesses3_worths : Nat → Int32) (f_t_guesses4_worths : Nat → Int32) (f_t_guesses5_worths : Nat → Int32) : Nat → Int32 → Int32 → (Nat → Int32) → Option (Int32 × Int32 × (Nat → Int32))
  | 0, _, _, _ => none
  | n + 1, v3, i_t_changes_count, f_t_changes_letters =>
    if i_t_now_sent ≤ v3 then
      some (1, i_t_changes_count, f_t_changes_letters)
    else
      (f_X0_entry i_t_now_sent f_t_now_entries v3 0).bind fun r_76 =>
      if r_76 = i_t_guesses5_house then
        (f_X0_entry i_t_now_sent f_t_now_entries v3 1).bind fun r_79 =>
        (f_X0_entry i_t_now_sent f_t_now_entries v3 2).bind fun r_81 =>
        (f_X8_explains i_t_guesses5_house i_t_letters_size n_t_letters_sense f_t_letters_sense i_t_spoken_length i_t_spoken_words f_t_guesses5_worths f_t_spoken_pairWorths0 f_t_spoken_pairWorths1 f_t_spoken_scales f_t_spoken_kinds i_t_now_law i_t_now_way n_t_changes_letters i_t_changes_count f_t_changes_letters r_79 r_81).bind fun (r_83, z_84, z_85) =>
        if r_83 = 0 then
          some (0, z_84, z_85)
        else
          f_X8_fits_L20f i_t_guessCount i_t_guesses0_house i_t_guesses1_house i_t_guesses2_house i_t_guesses3_house i_t_guesses4_house i_t_guesses5_house i_t_now_sent i_t_now_law i_t_now_way f_t_now_entries i_t_letters_size n_t_letters_sense f_t_letters_sense i_t_spoken_length i_t_spoken_words f_t_guesses0_worths f_t_spoken_pairWorths0 f_t_spoken_pairWorths1 f_t_spoken_scales f_t_spoken_kinds n_t_changes_letters f_t_guesses1_worths f_t_guesses2_worths f_t_guesses3_worths f_t_guesses4_worths f_t_guesses5_worths n (v3 + 1) z_84 z_85
      else
        f_X8_fits_L20f i_t_guessCount i_t_guesses0_house i_t_guesses1_house i_t_guesses2_house i_t_guesses3_house i_t_guesses4_house i_t_guesses5_house i_t_now_sent i_t_now_law i_t_now_way f_t_now_entries i_t_letters_size n_t_letters_sense f_t_letters_sense i_t_spoken_length i_t_spoken_words f_t_guesses0_worths f_t_spoken_pairWorths0 f_t_spoken_pairWorths1 f_t_spoken_scales f_t_spoken_kinds n_t_changes_letters f_t_guesses1_worths f_t_guesses2_worths f_t_guesses3_worths f_t_guesses4_worths f_t_guesses5_worths n (v3 + 1) i_t_changes_count f_t_changes_letters
def f_X8_fits (i_t_guessCount : Int32) (i_t_guesses0_house : Int32) (i_t_guesses1_house : Int32) (i_t_guesses2_house : Int32) (i_t_guesses3_house : Int32) (i_t_guesses4_house : Int32) (i_t_guesses5_house : Int32) (i_t_now_sent : Int32) (i_t_now_law : Int32) (i_t_now_way : Int32) (f_t_now_entries : Nat → Int32) (i_t_letters_size : Int32) (n_t_letters_sense : Nat) (f_t_letters_sense : Nat → Int32) (i_t_spoken_length : Int32) (i_t_spoken_words : Int32) (f_t_guesses0_worths : Nat → Int32) (f_t_spoken_pairWorths0 : Nat → Int32) (f_t_spoken_pairWorths1 : Nat → Int32) (f_t_spoken_scales : Nat → Int32) (f_t_spoken_kinds : Nat → Int32) (n_t_changes_letters : Nat) (f_t_guesses1_worths : Nat → Int32) (f_t_guesses2_worths : Nat → Int32) (f_t_guesses3_worths : Nat → Int32) (f_t_guesses4_worths : Nat → Int32) (f_t_guesses5_worths : Nat → Int32) (i_t_changes_count : Int32) (f_t_changes_letters : Nat → Int32) (p1 : Int32) : Option (Int32 × Int32 × (Nat → Int32)) :=
  (f_X8_isGuess i_t_guessCount p1).bind fun r_1 =>
  if r_1 = 0 then
    some ((-1000000001), i_t_changes_count, f_t_changes_letters)
  else
    if p1 = 0 then
      f_X8_fits_L20 i_t_guessCount i_t_guesses0_house i_t_guesses1_house i_t_guesses2_house i_t_guesses3_house i_t_guesses4_house i_t_guesses5_house i_t_now_sent i_t_now_law i_t_now_way f_t_now_entries i_t_letters_size n_t_letters_sense f_t_letters_sense i_t_spoken_length i_t_spoken_words f_t_guesses0_worths f_t_spoken_pairWorths0 f_t_spoken_pairWorths1 f_t_spoken_scales f_t_spoken_kinds n_t_changes_letters f_t_guesses1_worths f_t_guesses2_worths f_t_guesses3_worths f_t_guesses4_worths f_t_guesses5_worths FU 0 i_t_changes_count f_t_changes_letters
    else
      if p1 = 1 then
        f_X8_fits_L20b i_t_guessCount i_t_guesses0_house i_t_guesses1_house i_t_guesses2_house i_t_guesses3_house i_t_guesses4_house i_t_guesses5_house i_t_now_sent i_t_now_law i_t_now_way f_t_now_entries i_t_letters_size n_t_letters_sense f_t_letters_sense i_t_spoken_length i_t_spoken_words f_t_guesses0_worths f_t_spoken_pairWorths0 f_t_spoken_pairWorths1 f_t_spoken_scales f_t_spoken_kinds n_t_changes_letters f_t_guesses1_worths f_t_guesses2_worths f_t_guesses3_worths f_t_guesses4_worths f_t_guesses5_worths FU 0 i_t_changes_count f_t_changes_letters
      else
        if p1 = 2 then
          f_X8_fits_L20c i_t_guessCount i_t_guesses0_house i_t_guesses1_house i_t_guesses2_house i_t_guesses3_house i_t_guesses4_house i_t_guesses5_house i_t_now_sent i_t_now_law i_t_now_way f_t_now_entries i_t_letters_size n_t_letters_sense f_t_letters_sense i_t_spoken_length i_t_spoken_words f_t_guesses0_worths f_t_spoken_pairWorths0 f_t_spoken_pairWorths1 f_t_spoken_scales f_t_spoken_kinds n_t_changes_letters f_t_guesses1_worths f_t_guesses2_worths f_t_guesses3_worths f_t_guesses4_worths f_t_guesses5_worths FU 0 i_t_changes_count f_t_changes_letters
        else
          if p1 = 3 then
            f_X8_fits_L20d i_t_guessCount i_t_guesses0_house i_t_guesses1_house i_t_guesses2_house i_t_guesses3_house i_t_guesses4_house i_t_guesses5_house i_t_now_sent i_t_now_law i_t_now_way f_t_now_entries i_t_letters_size n_t_letters_sense f_t_letters_sense i_t_spoken_length i_t_spoken_words f_t_guesses0_worths f_t_spoken_pairWorths0 f_t_spoken_pairWorths1 f_t_spoken_scales f_t_spoken_kinds n_t_changes_letters f_t_guesses1_worths f_t_guesses2_worths f_t_guesses3_worths f_t_guesses4_worths f_t_guesses5_worths FU 0 i_t_changes_count f_t_changes_letters
          else
            if p1 = 4 then
              f_X8_fits_L20e i_t_guessCount i_t_guesses0_house i_t_guesses1_house i_t_guesses2_house i_t_guesses3_house i_t_guesses4_house i_t_guesses5_house i_t_now_sent i_t_now_law i_t_now_way f_t_now_entries i_t_letters_size n_t_letters_sense f_t_letters_sense i_t_spoken_length i_t_spoken_words f_t_guesses0_worths f_t_spoken_pairWorths0 f_t_spoken_pairWorths1 f_t_spoken_scales f_t_spoken_kinds n_t_changes_letters f_t_guesses1_worths f_t_guesses2_worths f_t_guesses3_worths f_t_guesses4_worths f_t_guesses5_worths FU 0 i_t_changes_count f_t_changes_letters
            else
              if p1 = 5 then
                f_X8_fits_L20f i_t_guessCount i_t_guesses0_house i_t_guesses1_house i_t_guesses2_house i_t_guesses3_house i_t_guesses4_house i_t_guesses5_house i_t_now_sent i_t_now_law i_t_now_way f_t_now_entries i_t_letters_size n_t_letters_sense f_t_letters_sense i_t_spoken_length i_t_spoken_words f_t_guesses0_worths f_t_spoken_pairWorths0 f_t_spoken_pairWorths1 f_t_spoken_scales f_t_spoken_kinds n_t_changes_letters f_t_guesses1_worths f_t_guesses2_worths f_t_guesses3_worths f_t_guesses4_worths f_t_guesses5_worths FU 0 i_t_changes_count f_t_changes_letters
              else
                none
def f_X8_write (i_t_letters_size : Int32) (n_t_book_letters : Nat) (i_t_book_count : Int32) (f_t_book_letters : Nat → Int32) (p1 : Int32) : Option (Int32 × Int32 × (Nat → Int32)) :=
  (f_X8_isLetter i_t_letters_size p1).bind fun r_1 =>
  if r_1 = 0 then
    some ((-1000000002), i_t_book_count, f_t_book_letters)
  else
    if i_t_book_count < 30 then
      (f_X6_add n_t_book_letters i_t_book_count f_t_book_letters p1).bind fun (z_5, z_6) =>
      some (z_5, z_5, z_6)
    else
      some ((-1000000004), i_t_book_count, f_t_book_letters)
def f_X8_tear (i_t_guessCount : Int32) (i_t_book_count : Int32) : Option (Int32 × Int32 × Int32) :=
  (f_X6_empty i_t_book_count).bind fun z_1 =>
  some ((i_t_book_count + i_t_guessCount), 0, z_1)
def f_X8_judge_L2 (i_t_book_count : Int32) (n_t_book_letters : Nat) (f_t_book_letters : Nat → Int32) (i_t_letters_size : Int32) (i_t_now_law : Int32) (i_t_now_way : Int32) (i_t_spoken_length : Int32) (i_t_spoken_words : Int32) (f_t_spoken_scales : Nat → Int32) (n_t_changes_letters : Nat) (n_t_letters_sense : Nat) (f_t_letters_sense : Nat → Int32) : Nat → Int32 → Int32 → (Nat → Int32) → Option (Int32 × Int32 × (Nat → Int32))
  | 0, _, _, _ => none
  | n + 1, v1, i_t_changes_count, f_t_changes_letters =>
    if i_t_book_count ≤ v1 then
      some ((-1), i_t_changes_count, f_t_changes_letters)
    else
      (f_X6_get i_t_book_count n_t_book_letters f_t_book_letters (v1 - 1)).bind fun r_2 =>
      (f_X6_get i_t_book_count n_t_book_letters f_t_book_letters v1).bind fun r_4 =>
      (f_X8_isChange i_t_letters_size i_t_now_law i_t_now_way i_t_spoken_length i_t_spoken_words f_t_spoken_scales n_t_changes_letters n_t_letters_sense f_t_letters_sense i_t_changes_count f_t_changes_letters r_2 r_4).bind fun (r_6, z_7, z_8) =>
      if r_6 = 0 then
        some (v1, z_7, z_8)
      else
        f_X8_judge_L2 i_t_book_count n_t_book_letters f_t_book_letters i_t_letters_size i_t_now_law i_t_now_way i_t_spoken_length i_t_spoken_words f_t_spoken_scales n_t_changes_letters n_t_letters_sense f_t_letters_sense n (v1 + 1) z_7 z_8
def f_X8_judge (i_t_book_count : Int32) (n_t_book_letters : Nat) (f_t_book_letters : Nat → Int32) (i_t_letters_size : Int32) (i_t_now_law : Int32) (i_t_now_way : Int32) (i_t_spoken_length : Int32) (i_t_spoken_words : Int32) (f_t_spoken_scales : Nat → Int32) (n_t_changes_letters : Nat) (n_t_letters_sense : Nat) (f_t_letters_sense : Nat → Int32) (i_t_changes_count : Int32) (f_t_changes_letters : Nat → Int32) : Option (Int32 × Int32 × (Nat → Int32)) :=
  f_X8_judge_L2 i_t_book_count n_t_book_letters f_t_book_letters i_t_letters_size i_t_now_law i_t_now_way i_t_spoken_length i_t_spoken_words f_t_spoken_scales n_t_changes_letters n_t_letters_sense f_t_letters_sense FU 1 i_t_changes_count f_t_changes_letters
def f_X8_sendWhatPays (i_t_foresight_law : Int32) (i_t_foresight_nonsense : Int32) (i_t_foresight_stamp : Int32) (i_t_letters_size : Int32) (n_t_foresight_memory : Nat) (n_t_letters_worthToOther : Nat) (f_t_letters_worthToOther : Nat → Int32) (n_t_letters_worthToOne : Nat) (f_t_letters_worthToOne : Nat → Int32) (i_t_spoken_length : Int32) (i_t_spoken_words : Int32) (f_t_spoken_scales : Nat → Int32) (n_t_foresight_rows2_letters : Nat) (n_t_letters_sense : Nat) (f_t_letters_sense : Nat → Int32) (n_t_foresight_rows1_letters : Nat) (i_t_now_letter : Int32) (i_t_now_turn : Int32) (i_t_now_sent : Int32) (f_t_foresight_memory : Nat → Int32) (i_t_foresight_rows2_count : Int32) (f_t_foresight_rows2_letters : Nat → Int32) (i_t_foresight_rows1_count : Int32) (f_t_foresight_rows1_letters : Nat → Int32) (f_t_now_entries : Nat → Int32) (f_t_now_gained : Nat → Int32) : Option (Int32 × Int32 × Int32 × (Nat → Int32) × Int32 × (Nat → Int32) × Int32 × (Nat → Int32) × (Nat → Int32) × (Nat → Int32)) :=
  (f_X1_firstSent_s2 i_t_foresight_law i_t_foresight_nonsense i_t_foresight_stamp i_t_letters_size n_t_foresight_memory n_t_letters_worthToOther f_t_letters_worthToOther n_t_letters_worthToOne f_t_letters_worthToOne i_t_spoken_length i_t_spoken_words f_t_spoken_scales n_t_foresight_rows2_letters n_t_letters_sense f_t_letters_sense n_t_foresight_rows1_letters f_t_foresight_memory i_t_foresight_rows2_count f_t_foresight_rows2_letters i_t_foresight_rows1_count f_t_foresight_rows1_letters i_t_now_letter i_t_now_turn).bind fun (r_1, z_2, z_3, z_4, z_5, z_6) =>
  if r_1 = (-1) then
    (f_X8_giveBoth i_t_now_letter i_t_letters_size n_t_letters_worthToOther f_t_letters_worthToOther n_t_letters_worthToOne f_t_letters_worthToOne f_t_now_gained).bind fun z_14 =>
    some (i_t_now_letter, (1 - i_t_now_turn), i_t_now_sent, z_2, z_3, z_4, z_5, z_6, f_t_now_entries, z_14)
  else
    (f_X0_pass i_t_now_letter i_t_now_turn i_t_now_sent f_t_now_entries r_1).bind fun (z_9, z_10, z_11, z_12) =>
    some (z_9, z_10, z_11, z_2, z_3, z_4, z_5, z_6, z_12, f_t_now_gained)
def f_X8_sendAnyChange (i_t_now_law : Int32) (i_t_now_way : Int32) (i_t_letters_size : Int32) (i_t_spoken_length : Int32) (i_t_spoken_words : Int32) (f_t_spoken_scales : Nat → Int32) (n_t_changes_letters : Nat) (n_t_letters_sense : Nat) (f_t_letters_sense : Nat → Int32) (i_t_now_letter : Int32) (i_t_now_turn : Int32) (i_t_now_sent : Int32) (i_t_now_seed : Int32) (i_t_changes_count : Int32) (f_t_changes_letters : Nat → Int32) (f_t_now_entries : Nat → Int32) : Option (Int32 × Int32 × Int32 × Int32 × Int32 × (Nat → Int32) × (Nat → Int32)) :=
  (f_X8_listChanges i_t_letters_size i_t_now_law i_t_now_way i_t_spoken_length i_t_spoken_words f_t_spoken_scales n_t_changes_letters n_t_letters_sense f_t_letters_sense i_t_changes_count f_t_changes_letters i_t_now_letter).bind fun (z_1, z_2) =>
  if z_1 ≤ 0 then
    some (i_t_now_letter, i_t_now_turn, i_t_now_sent, i_t_now_seed, z_1, z_2, f_t_now_entries)
  else
    (f_X0_draw i_t_now_seed z_1).bind fun (r_5, z_6) =>
    (f_X6_get z_1 n_t_changes_letters z_2 r_5).bind fun r_8 =>
    (f_X0_pass i_t_now_letter i_t_now_turn i_t_now_sent f_t_now_entries r_8).bind fun (z_10, z_11, z_12, z_13) =>
    some (z_10, z_11, z_12, z_6, z_1, z_2, z_13)
def f_X8_drift_L73 (i_t_letters_tongues : Int32) (i_t_letters_size : Int32) (i_t_now_settled : Int32) (i_t_now_law : Int32) (i_t_now_way : Int32) (n_t_foresight_memory : Nat) (n_t_letters_worthToOther : Nat) (f_t_letters_worthToOther : Nat → Int32) (n_t_letters_worthToOne : Nat) (f_t_letters_worthToOne : Nat → Int32) (i_t_spoken_length : Int32) (i_t_spoken_words : Int32) (f_t_spoken_scales : Nat → Int32) (n_t_foresight_rows2_letters : Nat) (n_t_letters_sense : Nat) (f_t_letters_sense : Nat → Int32) (n_t_foresight_rows1_letters : Nat) (n_t_changes_letters : Nat) : Nat → Int32 → Int32 → Int32 → Int32 → Int32 → Int32 → Int32 → Int32 → Int32 → (Nat → Int32) → Int32 → (Nat → Int32) → Int32 → (Nat → Int32) → (Nat → Int32) → (Nat → Int32) → Int32 → (Nat → Int32) → Option (Int32 × Int32 × Int32 × Int32 × Int32 × Int32 × Int32 × Int32 × (Nat → Int32) × Int32 × (Nat → Int32) × Int32 × (Nat → Int32) × (Nat → Int32) × (Nat → Int32) × Int32 × (Nat → Int32))
  | 0, _, _, _, _, _, _, _, _, _, _, _, _, _, _, _, _, _, _ => none
  | n + 1, v1, v2, i_t_now_letter, i_t_now_turn, i_t_now_sent, i_t_now_seed, i_t_foresight_law, i_t_foresight_nonsense, i_t_foresight_stamp, f_t_foresight_memory, i_t_foresight_rows2_count, f_t_foresight_rows2_letters, i_t_foresight_rows1_count, f_t_foresight_rows1_letters, f_t_now_entries, f_t_now_gained, i_t_changes_count, f_t_changes_letters =>
    if v1 ≤ v2 then
      some (i_t_now_letter, i_t_now_letter, i_t_now_turn, i_t_now_sent, i_t_now_seed, i_t_foresight_law, i_t_foresight_nonsense, i_t_foresight_stamp, f_t_foresight_memory, i_t_foresight_rows2_count, f_t_foresight_rows2_letters, i_t_foresight_rows1_count, f_t_foresight_rows1_letters, f_t_now_entries, f_t_now_gained, i_t_changes_count, f_t_changes_letters)
    else
      (f_X0_draw i_t_now_seed 4).bind fun (r_13, z_14) =>
      if r_13 = 0 then
        (f_X8_sendAnyChange i_t_now_law i_t_now_way i_t_letters_size i_t_spoken_length i_t_spoken_words f_t_spoken_scales n_t_changes_letters n_t_letters_sense f_t_letters_sense i_t_now_letter i_t_now_turn i_t_now_sent z_14 i_t_changes_count f_t_changes_letters f_t_now_entries).bind fun (z_28, z_29, z_30, z_31, z_32, z_33, z_34) =>
        f_X8_drift_L73 i_t_letters_tongues i_t_letters_size i_t_now_settled i_t_now_law i_t_now_way n_t_foresight_memory n_t_letters_worthToOther f_t_letters_worthToOther n_t_letters_worthToOne f_t_letters_worthToOne i_t_spoken_length i_t_spoken_words f_t_spoken_scales n_t_foresight_rows2_letters n_t_letters_sense f_t_letters_sense n_t_foresight_rows1_letters n_t_changes_letters n v1 (v2 + 1) z_28 z_29 z_30 z_31 i_t_foresight_law i_t_foresight_nonsense i_t_foresight_stamp f_t_foresight_memory i_t_foresight_rows2_count f_t_foresight_rows2_letters i_t_foresight_rows1_count f_t_foresight_rows1_letters z_34 f_t_now_gained z_32 z_33
      else
        (f_X8_sendWhatPays i_t_foresight_law i_t_foresight_nonsense i_t_foresight_stamp i_t_letters_size n_t_foresight_memory n_t_letters_worthToOther f_t_letters_worthToOther n_t_letters_worthToOne f_t_letters_worthToOne i_t_spoken_length i_t_spoken_words f_t_spoken_scales n_t_foresight_rows2_letters n_t_letters_sense f_t_letters_sense n_t_foresight_rows1_letters i_t_now_letter i_t_now_turn i_t_now_sent f_t_foresight_memory i_t_foresight_rows2_count f_t_foresight_rows2_letters i_t_foresight_rows1_count f_t_foresight_rows1_letters f_t_now_entries f_t_now_gained).bind fun (z_17, z_18, z_19, z_20, z_21, z_22, z_23, z_24, z_25, z_26) =>
        f_X8_drift_L73 i_t_letters_tongues i_t_letters_size i_t_now_settled i_t_now_law i_t_now_way n_t_foresight_memory n_t_letters_worthToOther f_t_letters_worthToOther n_t_letters_worthToOne f_t_letters_worthToOne i_t_spoken_length i_t_spoken_words f_t_spoken_scales n_t_foresight_rows2_letters n_t_letters_sense f_t_letters_sense n_t_foresight_rows1_letters n_t_changes_letters n v1 (v2 + 1) z_17 z_18 z_19 z_14 i_t_foresight_law i_t_foresight_nonsense i_t_foresight_stamp z_20 z_21 z_22 z_23 z_24 z_25 z_26 i_t_changes_count f_t_changes_letters
def f_X8_drift (i_t_letters_tongues : Int32) (i_t_letters_size : Int32) (i_t_now_settled : Int32) (i_t_now_law : Int32) (i_t_now_way : Int32) (n_t_foresight_memory : Nat) (n_t_letters_worthToOther : Nat) (f_t_letters_worthToOther : Nat → Int32) (n_t_letters_worthToOne : Nat) (f_t_letters_worthToOne : Nat → Int32) (i_t_spoken_length : Int32) (i_t_spoken_words : Int32) (f_t_spoken_scales : Nat → Int32) (n_t_foresight_rows2_letters : Nat) (n_t_letters_sense : Nat) (f_t_letters_sense : Nat → Int32) (n_t_foresight_rows1_letters : Nat) (n_t_changes_letters : Nat) (i_t_now_letter : Int32) (i_t_now_turn : Int32) (i_t_now_sent : Int32) (i_t_now_seed : Int32) (i_t_foresight_law : Int32) (i_t_foresight_nonsense : Int32) (i_t_foresight_stamp : Int32) (f_t_foresight_memory : Nat → Int32) (i_t_foresight_rows2_count : Int32) (f_t_foresight_rows2_letters : Nat → Int32) (i_t_foresight_rows1_count : Int32) (f_t_foresight_rows1_letters : Nat → Int32) (f_t_now_entries : Nat → Int32) (f_t_now_gained : Nat → Int32) (i_t_changes_count : Int32) (f_t_changes_letters : Nat → Int32) (p1 : Int32) : Option (Int32 × Int32 × Int32 × Int32 × Int32 × Int32 × Int32 × Int32 × (Nat → Int32) × Int32 × (Nat → Int32) × Int32 × (Nat → Int32) × (Nat → Int32) × (Nat → Int32) × Int32 × (Nat → Int32)) :=
  if p1 < 1 then
    some ((-1000000002), i_t_now_letter, i_t_now_turn, i_t_now_sent, i_t_now_seed, i_t_foresight_law, i_t_foresight_nonsense, i_t_foresight_stamp, f_t_foresight_memory, i_t_foresight_rows2_count, f_t_foresight_rows2_letters, i_t_foresight_rows1_count, f_t_foresight_rows1_letters, f_t_now_entries, f_t_now_gained, i_t_changes_count, f_t_changes_letters)
  else
    if p1 ≤ 40 then
      if i_t_letters_size = 0 then
        some ((-1000000003), i_t_now_letter, i_t_now_turn, i_t_now_sent, i_t_now_seed, i_t_foresight_law, i_t_foresight_nonsense, i_t_foresight_stamp, f_t_foresight_memory, i_t_foresight_rows2_count, f_t_foresight_rows2_letters, i_t_foresight_rows1_count, f_t_foresight_rows1_letters, f_t_now_entries, f_t_now_gained, i_t_changes_count, f_t_changes_letters)
      else
        if i_t_now_settled = 0 then
          if i_t_now_way = 1 then
            (f_X8_stamp i_t_letters_tongues i_t_now_law i_t_now_way).bind fun r_36 =>
            (f_X1_useRules i_t_foresight_law i_t_foresight_nonsense i_t_foresight_stamp i_t_now_law 1 r_36).bind fun (z_38, z_39, z_40) =>
            f_X8_drift_L73 i_t_letters_tongues i_t_letters_size i_t_now_settled i_t_now_law i_t_now_way n_t_foresight_memory n_t_letters_worthToOther f_t_letters_worthToOther n_t_letters_worthToOne f_t_letters_worthToOne i_t_spoken_length i_t_spoken_words f_t_spoken_scales n_t_foresight_rows2_letters n_t_letters_sense f_t_letters_sense n_t_foresight_rows1_letters n_t_changes_letters FU p1 0 i_t_now_letter i_t_now_turn i_t_now_sent i_t_now_seed z_38 z_39 z_40 f_t_foresight_memory i_t_foresight_rows2_count f_t_foresight_rows2_letters i_t_foresight_rows1_count f_t_foresight_rows1_letters f_t_now_entries f_t_now_gained i_t_changes_count f_t_changes_letters
          else
            (f_X8_stamp i_t_letters_tongues i_t_now_law i_t_now_way).bind fun r_6 =>
            (f_X1_useRules i_t_foresight_law i_t_foresight_nonsense i_t_foresight_stamp i_t_now_law 0 r_6).bind fun (z_8, z_9, z_10) =>
            f_X8_drift_L73 i_t_letters_tongues i_t_letters_size i_t_now_settled i_t_now_law i_t_now_way n_t_foresight_memory n_t_letters_worthToOther f_t_letters_worthToOther n_t_letters_worthToOne f_t_letters_worthToOne i_t_spoken_length i_t_spoken_words f_t_spoken_scales n_t_foresight_rows2_letters n_t_letters_sense f_t_letters_sense n_t_foresight_rows1_letters n_t_changes_letters FU p1 0 i_t_now_letter i_t_now_turn i_t_now_sent i_t_now_seed z_8 z_9 z_10 f_t_foresight_memory i_t_foresight_rows2_count f_t_foresight_rows2_letters i_t_foresight_rows1_count f_t_foresight_rows1_letters f_t_now_entries f_t_now_gained i_t_changes_count f_t_changes_letters
        else
          some ((-1000000003), i_t_now_letter, i_t_now_turn, i_t_now_sent, i_t_now_seed, i_t_foresight_law, i_t_foresight_nonsense, i_t_foresight_stamp, f_t_foresight_memory, i_t_foresight_rows2_count, f_t_foresight_rows2_letters, i_t_foresight_rows1_count, f_t_foresight_rows1_letters, f_t_now_entries, f_t_now_gained, i_t_changes_count, f_t_changes_letters)
    else
      some ((-1000000002), i_t_now_letter, i_t_now_turn, i_t_now_sent, i_t_now_seed, i_t_foresight_law, i_t_foresight_nonsense, i_t_foresight_stamp, f_t_foresight_memory, i_t_foresight_rows2_count, f_t_foresight_rows2_letters, i_t_foresight_rows1_count, f_t_foresight_rows1_letters, f_t_now_entries, f_t_now_gained, i_t_changes_count, f_t_changes_letters)
def f_X8_seed (i_t_now_seed : Int32) (p1 : Int32) : Option (Int32 × Int32) :=
  if 0 ≤ p1 then
    some (i_t_now_seed, p1)
  else
    some ((-1000000002), i_t_now_seed)
def f_X8_isImage (p1 : Int32) : Option (Int32) :=
  if p1 < 0 then
    some 0
  else
    if 2 ≤ p1 then
      some 0
    else
      some 1
def f_X8_keep (i_t_now_letter : Int32) (i_t_now_turn : Int32) (i_t_now_settled : Int32) (i_t_now_sent : Int32) (i_t_now_law : Int32) (i_t_now_way : Int32) (i_t_now_seed : Int32) (f_t_now_gained : Nat → Int32) (f_t_now_entries : Nat → Int32) (i_t_images0_letter : Int32) (i_t_images0_turn : Int32) (i_t_images0_settled : Int32) (i_t_images0_sent : Int32) (i_t_images0_law : Int32) (i_t_images0_way : Int32) (i_t_images0_seed : Int32) (i_t_images1_letter : Int32) (i_t_images1_turn : Int32) (i_t_images1_settled : Int32) (i_t_images1_sent : Int32) (i_t_images1_law : Int32) (i_t_images1_way : Int32) (i_t_images1_seed : Int32) (f_t_images0_gained : Nat → Int32) (f_t_images0_entries : Nat → Int32) (f_t_kept : Nat → Int32) (f_t_images1_gained : Nat → Int32) (f_t_images1_entries : Nat → Int32) (p1 : Int32) : Option (Int32 × Int32 × Int32 × Int32 × Int32 × Int32 × Int32 × Int32 × Int32 × Int32 × Int32 × Int32 × Int32 × Int32 × Int32 × (Nat → Int32) × (Nat → Int32) × (Nat → Int32) × (Nat → Int32) × (Nat → Int32)) :=
  (f_X8_isImage p1).bind fun r_1 =>
  if r_1 = 0 then
    some ((-1000000001), i_t_images0_letter, i_t_images0_turn, i_t_images0_settled, i_t_images0_sent, i_t_images0_law, i_t_images0_way, i_t_images0_seed, i_t_images1_letter, i_t_images1_turn, i_t_images1_settled, i_t_images1_sent, i_t_images1_law, i_t_images1_way, i_t_images1_seed, f_t_images0_gained, f_t_images0_entries, f_t_kept, f_t_images1_gained, f_t_images1_entries)
  else
    if p1 = 0 then
      (f_X0_become i_t_now_letter i_t_now_turn i_t_now_settled i_t_now_sent i_t_now_law i_t_now_way i_t_now_seed f_t_now_gained f_t_now_entries i_t_images0_letter i_t_images0_turn i_t_images0_settled i_t_images0_sent i_t_images0_law i_t_images0_way i_t_images0_seed f_t_images0_gained f_t_images0_entries).bind fun (z_5, z_6, z_7, z_8, z_9, z_10, z_11, z_12, z_13) =>
      if ixb 0 2 = true then
      some (1, z_5, z_6, z_7, z_8, z_9, z_10, z_11, i_t_images1_letter, i_t_images1_turn, i_t_images1_settled, i_t_images1_sent, i_t_images1_law, i_t_images1_way, i_t_images1_seed, z_12, z_13, (upd f_t_kept (0 : Int32).toNatClampNeg 1), f_t_images1_gained, f_t_images1_entries)
      else none
    else
      if p1 = 1 then
        (f_X0_become i_t_now_letter i_t_now_turn i_t_now_settled i_t_now_sent i_t_now_law i_t_now_way i_t_now_seed f_t_now_gained f_t_now_entries i_t_images1_letter i_t_images1_turn i_t_images1_settled i_t_images1_sent i_t_images1_law i_t_images1_way i_t_images1_seed f_t_images1_gained f_t_images1_entries).bind fun (z_17, z_18, z_19, z_20, z_21, z_22, z_23, z_24, z_25) =>
        if ixb 1 2 = true then
        some (1, i_t_images0_letter, i_t_images0_turn, i_t_images0_settled, i_t_images0_sent, i_t_images0_law, i_t_images0_way, i_t_images0_seed, z_17, z_18, z_19, z_20, z_21, z_22, z_23, f_t_images0_gained, f_t_images0_entries, (upd f_t_kept (1 : Int32).toNatClampNeg 1), z_24, z_25)
        else none
      else
        none
def f_X8_goBack (f_t_kept : Nat → Int32) (i_t_images0_letter : Int32) (i_t_images0_turn : Int32) (i_t_images0_settled : Int32) (i_t_images0_sent : Int32) (i_t_images0_law : Int32) (i_t_images0_way : Int32) (i_t_images0_seed : Int32) (i_t_images1_letter : Int32) (i_t_images1_turn : Int32) (i_t_images1_settled : Int32) (i_t_images1_sent : Int32) (i_t_images1_law : Int32) (i_t_images1_way : Int32) (i_t_images1_seed : Int32) (f_t_images0_gained : Nat → Int32) (f_t_images0_entries : Nat → Int32) (f_t_images1_gained : Nat → Int32) (f_t_images1_entries : Nat → Int32) (i_t_now_letter : Int32) (i_t_now_turn : Int32) (i_t_now_settled : Int32) (i_t_now_sent : Int32) (i_t_now_law : Int32) (i_t_now_way : Int32) (i_t_now_seed : Int32) (f_t_now_gained : Nat → Int32) (f_t_now_entries : Nat → Int32) (p1 : Int32) : Option (Int32 × Int32 × Int32 × Int32 × Int32 × Int32 × Int32 × Int32 × (Nat → Int32) × (Nat → Int32)) :=
  (f_X8_isImage p1).bind fun r_1 =>
  if r_1 = 0 then
    some ((-1000000001), i_t_now_letter, i_t_now_turn, i_t_now_settled, i_t_now_sent, i_t_now_law, i_t_now_way, i_t_now_seed, f_t_now_gained, f_t_now_entries)
  else
    if ixb p1 2 = true then
    if (f_t_kept (p1 : Int32).toNatClampNeg) = 0 then
      some ((-1000000003), i_t_now_letter, i_t_now_turn, i_t_now_settled, i_t_now_sent, i_t_now_law, i_t_now_way, i_t_now_seed, f_t_now_gained, f_t_now_entries)
    else
      if p1 = 0 then
        (f_X0_become i_t_images0_letter i_t_images0_turn i_t_images0_settled i_t_images0_sent i_t_images0_law i_t_images0_way i_t_images0_seed f_t_images0_gained f_t_images0_entries i_t_now_letter i_t_now_turn i_t_now_settled i_t_now_sent i_t_now_law i_t_now_way i_t_now_seed f_t_now_gained f_t_now_entries).bind fun (z_7, z_8, z_9, z_10, z_11, z_12, z_13, z_14, z_15) =>
        some (1, z_7, z_8, z_9, z_10, z_11, z_12, z_13, z_14, z_15)
      else
        if p1 = 1 then
          (f_X0_become i_t_images1_letter i_t_images1_turn i_t_images1_settled i_t_images1_sent i_t_images1_law i_t_images1_way i_t_images1_seed f_t_images1_gained f_t_images1_entries i_t_now_letter i_t_now_turn i_t_now_settled i_t_now_sent i_t_now_law i_t_now_way i_t_now_seed f_t_now_gained f_t_now_entries).bind fun (z_18, z_19, z_20, z_21, z_22, z_23, z_24, z_25, z_26) =>
          some (1, z_18, z_19, z_20, z_21, z_22, z_23, z_24, z_25, z_26)
        else
          none
    else none
