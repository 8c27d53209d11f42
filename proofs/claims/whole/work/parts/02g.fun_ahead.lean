def f_X8_ahead (i_t_letters_tongues : Int32) (i_t_letters_size : Int32) (i_t_now_law : Int32) (i_t_now_way : Int32) (i_t_foresight_law : Int32) (i_t_foresight_nonsense : Int32) (i_t_foresight_stamp : Int32) (p1 : Int32) (p2 : Int32) (p3 : Int32) (p4 : Int32) : Option (Int32 × Int32 × Int32 × Int32) :=
  (f_X8_isHouse p2).bind fun r_1 =>
  if r_1 = 0 then
    some ((-1000000001), i_t_foresight_law, i_t_foresight_nonsense, i_t_foresight_stamp)
  else
    (f_X8_isLetter i_t_letters_size p1).bind fun r_4 =>
    if r_4 = 0 then
      some ((-1000000002), i_t_foresight_law, i_t_foresight_nonsense, i_t_foresight_stamp)
    else
      (f_X8_isMoves p3).bind fun r_7 =>
      if r_7 = 0 then
        some ((-1000000002), i_t_foresight_law, i_t_foresight_nonsense, i_t_foresight_stamp)
      else
        if p4 < 0 then
          some ((-1000000002), i_t_foresight_law, i_t_foresight_nonsense, i_t_foresight_stamp)
        else
          if p4 ≤ 4 then
            if i_t_now_way = 1 then
              (f_X8_stamp i_t_letters_tongues i_t_now_law i_t_now_way).bind fun r_20 =>
              (f_X1_useRules i_t_foresight_law i_t_foresight_nonsense i_t_foresight_stamp i_t_now_law 1 r_20).bind fun (z_22, z_23, z_24) =>
              if p4 = 4 then
                none
              else
                none
            else
              (f_X8_stamp i_t_letters_tongues i_t_now_law i_t_now_way).bind fun r_13 =>
              (f_X1_useRules i_t_foresight_law i_t_foresight_nonsense i_t_foresight_stamp i_t_now_law 0 r_13).bind fun (z_15, z_16, z_17) =>
              if p4 = 4 then
                none
              else
                none
          else
            some ((-1000000002), i_t_foresight_law, i_t_foresight_nonsense, i_t_foresight_stamp)
def f_X8_ahead_s0 (i_t_letters_tongues : Int32) (i_t_letters_size : Int32) (i_t_now_law : Int32) (i_t_now_way : Int32) (n_t_letters_worthToOther : Nat) (f_t_letters_worthToOther : Nat → Int32) (n_t_letters_worthToOne : Nat) (f_t_letters_worthToOne : Nat → Int32) (i_t_spoken_length : Int32) (i_t_spoken_words : Int32) (f_t_spoken_scales : Nat → Int32) (n_t_foresight_rows0_letters : Nat) (n_t_letters_sense : Nat) (f_t_letters_sense : Nat → Int32) (i_t_foresight_law : Int32) (i_t_foresight_nonsense : Int32) (i_t_foresight_stamp : Int32) (i_t_foresight_rows0_count : Int32) (f_t_foresight_rows0_letters : Nat → Int32) (p1 : Int32) (p2 : Int32) (p4 : Int32) : Option (Int32 × Int32 × Int32 × Int32 × Int32 × (Nat → Int32)) :=
  (f_X8_isHouse p2).bind fun r_1 =>
  if r_1 = 0 then
    some ((-1000000001), i_t_foresight_law, i_t_foresight_nonsense, i_t_foresight_stamp, i_t_foresight_rows0_count, f_t_foresight_rows0_letters)
  else
    (f_X8_isLetter i_t_letters_size p1).bind fun r_4 =>
    if r_4 = 0 then
      some ((-1000000002), i_t_foresight_law, i_t_foresight_nonsense, i_t_foresight_stamp, i_t_foresight_rows0_count, f_t_foresight_rows0_letters)
    else
      (f_X8_isMoves 0).bind fun r_7 =>
      if r_7 = 0 then
        some ((-1000000002), i_t_foresight_law, i_t_foresight_nonsense, i_t_foresight_stamp, i_t_foresight_rows0_count, f_t_foresight_rows0_letters)
      else
        if p4 < 0 then
          some ((-1000000002), i_t_foresight_law, i_t_foresight_nonsense, i_t_foresight_stamp, i_t_foresight_rows0_count, f_t_foresight_rows0_letters)
        else
          if p4 ≤ 4 then
            if i_t_now_way = 1 then
              (f_X8_stamp i_t_letters_tongues i_t_now_law i_t_now_way).bind fun r_30 =>
              (f_X1_useRules i_t_foresight_law i_t_foresight_nonsense i_t_foresight_stamp i_t_now_law 1 r_30).bind fun (z_32, z_33, z_34) =>
              if p4 = 4 then
                (f_X1_firstSent_s0 z_32 z_33 i_t_letters_size n_t_letters_worthToOther f_t_letters_worthToOther n_t_letters_worthToOne f_t_letters_worthToOne i_t_spoken_length i_t_spoken_words f_t_spoken_scales n_t_foresight_rows0_letters n_t_letters_sense f_t_letters_sense i_t_foresight_rows0_count f_t_foresight_rows0_letters p1 p2).bind fun (r_43, z_44, z_45) =>
                some (r_43, z_32, z_33, z_34, z_44, z_45)
              else
                (f_X1_look_s0 p1 p2).bind fun r_37 =>
                if p4 = 2 then
                  some ((r_37 - r_37 / 4096 * 4096), z_32, z_33, z_34, i_t_foresight_rows0_count, f_t_foresight_rows0_letters)
                else
                  if p4 = 3 then
                    some ((r_37 / 4096), z_32, z_33, z_34, i_t_foresight_rows0_count, f_t_foresight_rows0_letters)
                  else
                    (f_X3_worthTo i_t_letters_size n_t_letters_worthToOther f_t_letters_worthToOther n_t_letters_worthToOne f_t_letters_worthToOne p4 (r_37 - r_37 / 4096 * 4096)).bind fun r_41 =>
                    some (r_41, z_32, z_33, z_34, i_t_foresight_rows0_count, f_t_foresight_rows0_letters)
            else
              (f_X8_stamp i_t_letters_tongues i_t_now_law i_t_now_way).bind fun r_13 =>
              (f_X1_useRules i_t_foresight_law i_t_foresight_nonsense i_t_foresight_stamp i_t_now_law 0 r_13).bind fun (z_15, z_16, z_17) =>
              if p4 = 4 then
                (f_X1_firstSent_s0 z_15 z_16 i_t_letters_size n_t_letters_worthToOther f_t_letters_worthToOther n_t_letters_worthToOne f_t_letters_worthToOne i_t_spoken_length i_t_spoken_words f_t_spoken_scales n_t_foresight_rows0_letters n_t_letters_sense f_t_letters_sense i_t_foresight_rows0_count f_t_foresight_rows0_letters p1 p2).bind fun (r_26, z_27, z_28) =>
                some (r_26, z_15, z_16, z_17, z_27, z_28)
              else
                (f_X1_look_s0 p1 p2).bind fun r_20 =>
                if p4 = 2 then
                  some ((r_20 - r_20 / 4096 * 4096), z_15, z_16, z_17, i_t_foresight_rows0_count, f_t_foresight_rows0_letters)
                else
                  if p4 = 3 then
                    some ((r_20 / 4096), z_15, z_16, z_17, i_t_foresight_rows0_count, f_t_foresight_rows0_letters)
                  else
                    (f_X3_worthTo i_t_letters_size n_t_letters_worthToOther f_t_letters_worthToOther n_t_letters_worthToOne f_t_letters_worthToOne p4 (r_20 - r_20 / 4096 * 4096)).bind fun r_24 =>
                    some (r_24, z_15, z_16, z_17, i_t_foresight_rows0_count, f_t_foresight_rows0_letters)
          else
            some ((-1000000002), i_t_foresight_law, i_t_foresight_nonsense, i_t_foresight_stamp, i_t_foresight_rows0_count, f_t_foresight_rows0_letters)
def f_X8_ahead_s1 (i_t_letters_tongues : Int32) (i_t_letters_size : Int32) (i_t_now_law : Int32) (i_t_now_way : Int32) (n_t_foresight_memory : Nat) (n_t_letters_worthToOther : Nat) (f_t_letters_worthToOther : Nat → Int32) (n_t_letters_worthToOne : Nat) (f_t_letters_worthToOne : Nat → Int32) (i_t_spoken_length : Int32) (i_t_spoken_words : Int32) (f_t_spoken_scales : Nat → Int32) (n_t_foresight_rows1_letters : Nat) (n_t_letters_sense : Nat) (f_t_letters_sense : Nat → Int32) (i_t_foresight_law : Int32) (i_t_foresight_nonsense : Int32) (i_t_foresight_stamp : Int32) (f_t_foresight_memory : Nat → Int32) (i_t_foresight_rows1_count : Int32) (f_t_foresight_rows1_letters : Nat → Int32) (p1 : Int32) (p2 : Int32) (p4 : Int32) : Option (Int32 × Int32 × Int32 × Int32 × (Nat → Int32) × Int32 × (Nat → Int32)) :=
  (f_X8_isHouse p2).bind fun r_1 =>
  if r_1 = 0 then
    some ((-1000000001), i_t_foresight_law, i_t_foresight_nonsense, i_t_foresight_stamp, f_t_foresight_memory, i_t_foresight_rows1_count, f_t_foresight_rows1_letters)
  else
    (f_X8_isLetter i_t_letters_size p1).bind fun r_4 =>
    if r_4 = 0 then
      some ((-1000000002), i_t_foresight_law, i_t_foresight_nonsense, i_t_foresight_stamp, f_t_foresight_memory, i_t_foresight_rows1_count, f_t_foresight_rows1_letters)
    else
      (f_X8_isMoves 1).bind fun r_7 =>
      if r_7 = 0 then
        some ((-1000000002), i_t_foresight_law, i_t_foresight_nonsense, i_t_foresight_stamp, f_t_foresight_memory, i_t_foresight_rows1_count, f_t_foresight_rows1_letters)
      else
        if p4 < 0 then
          some ((-1000000002), i_t_foresight_law, i_t_foresight_nonsense, i_t_foresight_stamp, f_t_foresight_memory, i_t_foresight_rows1_count, f_t_foresight_rows1_letters)
        else
          if p4 ≤ 4 then
            if i_t_now_way = 1 then
              (f_X8_stamp i_t_letters_tongues i_t_now_law i_t_now_way).bind fun r_34 =>
              (f_X1_useRules i_t_foresight_law i_t_foresight_nonsense i_t_foresight_stamp i_t_now_law 1 r_34).bind fun (z_36, z_37, z_38) =>
              if p4 = 4 then
                (f_X1_firstSent_s1 z_36 z_37 z_38 i_t_letters_size n_t_foresight_memory n_t_letters_worthToOther f_t_letters_worthToOther n_t_letters_worthToOne f_t_letters_worthToOne i_t_spoken_length i_t_spoken_words f_t_spoken_scales n_t_foresight_rows1_letters n_t_letters_sense f_t_letters_sense f_t_foresight_memory i_t_foresight_rows1_count f_t_foresight_rows1_letters p1 p2).bind fun (r_50, z_51, z_52, z_53) =>
                some (r_50, z_36, z_37, z_38, z_51, z_52, z_53)
              else
                (f_X1_look_s1 z_36 z_37 z_38 i_t_letters_size n_t_foresight_memory n_t_letters_worthToOther f_t_letters_worthToOther n_t_letters_worthToOne f_t_letters_worthToOne i_t_spoken_length i_t_spoken_words f_t_spoken_scales n_t_foresight_rows1_letters n_t_letters_sense f_t_letters_sense f_t_foresight_memory i_t_foresight_rows1_count f_t_foresight_rows1_letters p1 p2).bind fun (r_41, z_42, z_43, z_44) =>
                if p4 = 2 then
                  some ((r_41 - r_41 / 4096 * 4096), z_36, z_37, z_38, z_42, z_43, z_44)
                else
                  if p4 = 3 then
                    some ((r_41 / 4096), z_36, z_37, z_38, z_42, z_43, z_44)
                  else
                    (f_X3_worthTo i_t_letters_size n_t_letters_worthToOther f_t_letters_worthToOther n_t_letters_worthToOne f_t_letters_worthToOne p4 (r_41 - r_41 / 4096 * 4096)).bind fun r_48 =>
                    some (r_48, z_36, z_37, z_38, z_42, z_43, z_44)
            else
              (f_X8_stamp i_t_letters_tongues i_t_now_law i_t_now_way).bind fun r_13 =>
              (f_X1_useRules i_t_foresight_law i_t_foresight_nonsense i_t_foresight_stamp i_t_now_law 0 r_13).bind fun (z_15, z_16, z_17) =>
              if p4 = 4 then
                (f_X1_firstSent_s1 z_15 z_16 z_17 i_t_letters_size n_t_foresight_memory n_t_letters_worthToOther f_t_letters_worthToOther n_t_letters_worthToOne f_t_letters_worthToOne i_t_spoken_length i_t_spoken_words f_t_spoken_scales n_t_foresight_rows1_letters n_t_letters_sense f_t_letters_sense f_t_foresight_memory i_t_foresight_rows1_count f_t_foresight_rows1_letters p1 p2).bind fun (r_29, z_30, z_31, z_32) =>
                some (r_29, z_15, z_16, z_17, z_30, z_31, z_32)
              else
                (f_X1_look_s1 z_15 z_16 z_17 i_t_letters_size n_t_foresight_memory n_t_letters_worthToOther f_t_letters_worthToOther n_t_letters_worthToOne f_t_letters_worthToOne i_t_spoken_length i_t_spoken_words f_t_spoken_scales n_t_foresight_rows1_letters n_t_letters_sense f_t_letters_sense f_t_foresight_memory i_t_foresight_rows1_count f_t_foresight_rows1_letters p1 p2).bind fun (r_20, z_21, z_22, z_23) =>
                if p4 = 2 then
                  some ((r_20 - r_20 / 4096 * 4096), z_15, z_16, z_17, z_21, z_22, z_23)
                else
                  if p4 = 3 then
                    some ((r_20 / 4096), z_15, z_16, z_17, z_21, z_22, z_23)
                  else
                    (f_X3_worthTo i_t_letters_size n_t_letters_worthToOther f_t_letters_worthToOther n_t_letters_worthToOne f_t_letters_worthToOne p4 (r_20 - r_20 / 4096 * 4096)).bind fun r_27 =>
                    some (r_27, z_15, z_16, z_17, z_21, z_22, z_23)
          else
            some ((-1000000002), i_t_foresight_law, i_t_foresight_nonsense, i_t_foresight_stamp, f_t_foresight_memory, i_t_foresight_rows1_count, f_t_foresight_rows1_letters)
def f_X8_ahead_s2 (i_t_letters_tongues : Int32) (i_t_letters_size : Int32) (i_t_now_law : Int32) (i_t_now_way : Int32) (n_t_foresight_memory : Nat) (n_t_letters_worthToOther : Nat) (f_t_letters_worthToOther : Nat → Int32) (n_t_letters_worthToOne : Nat) (f_t_letters_worthToOne : Nat → Int32) (i_t_spoken_length : Int32) (i_t_spoken_words : Int32) (f_t_spoken_scales : Nat → Int32) (n_t_foresight_rows2_letters : Nat) (n_t_letters_sense : Nat) (f_t_letters_sense : Nat → Int32) (n_t_foresight_rows1_letters : Nat) (i_t_foresight_law : Int32) (i_t_foresight_nonsense : Int32) (i_t_foresight_stamp : Int32) (f_t_foresight_memory : Nat → Int32) (i_t_foresight_rows2_count : Int32) (f_t_foresight_rows2_letters : Nat → Int32) (i_t_foresight_rows1_count : Int32) (f_t_foresight_rows1_letters : Nat → Int32) (p1 : Int32) (p2 : Int32) (p4 : Int32) : Option (Int32 × Int32 × Int32 × Int32 × (Nat → Int32) × Int32 × (Nat → Int32) × Int32 × (Nat → Int32)) :=
  (f_X8_isHouse p2).bind fun r_1 =>
  if r_1 = 0 then
    some ((-1000000001), i_t_foresight_law, i_t_foresight_nonsense, i_t_foresight_stamp, f_t_foresight_memory, i_t_foresight_rows2_count, f_t_foresight_rows2_letters, i_t_foresight_rows1_count, f_t_foresight_rows1_letters)
  else
    (f_X8_isLetter i_t_letters_size p1).bind fun r_4 =>
    if r_4 = 0 then
      some ((-1000000002), i_t_foresight_law, i_t_foresight_nonsense, i_t_foresight_stamp, f_t_foresight_memory, i_t_foresight_rows2_count, f_t_foresight_rows2_letters, i_t_foresight_rows1_count, f_t_foresight_rows1_letters)
    else
      (f_X8_isMoves 2).bind fun r_7 =>
      if r_7 = 0 then
        some ((-1000000002), i_t_foresight_law, i_t_foresight_nonsense, i_t_foresight_stamp, f_t_foresight_memory, i_t_foresight_rows2_count, f_t_foresight_rows2_letters, i_t_foresight_rows1_count, f_t_foresight_rows1_letters)
      else
        if p4 < 0 then
          some ((-1000000002), i_t_foresight_law, i_t_foresight_nonsense, i_t_foresight_stamp, f_t_foresight_memory, i_t_foresight_rows2_count, f_t_foresight_rows2_letters, i_t_foresight_rows1_count, f_t_foresight_rows1_letters)
        else
          if p4 ≤ 4 then
            if i_t_now_way = 1 then
              (f_X8_stamp i_t_letters_tongues i_t_now_law i_t_now_way).bind fun r_38 =>
              (f_X1_useRules i_t_foresight_law i_t_foresight_nonsense i_t_foresight_stamp i_t_now_law 1 r_38).bind fun (z_40, z_41, z_42) =>
              if p4 = 4 then
                (f_X1_firstSent_s2 z_40 z_41 z_42 i_t_letters_size n_t_foresight_memory n_t_letters_worthToOther f_t_letters_worthToOther n_t_letters_worthToOne f_t_letters_worthToOne i_t_spoken_length i_t_spoken_words f_t_spoken_scales n_t_foresight_rows2_letters n_t_letters_sense f_t_letters_sense n_t_foresight_rows1_letters f_t_foresight_memory i_t_foresight_rows2_count f_t_foresight_rows2_letters i_t_foresight_rows1_count f_t_foresight_rows1_letters p1 p2).bind fun (r_56, z_57, z_58, z_59, z_60, z_61) =>
                some (r_56, z_40, z_41, z_42, z_57, z_58, z_59, z_60, z_61)
              else
                (f_X1_look_s2 z_40 z_41 z_42 i_t_letters_size n_t_foresight_memory n_t_letters_worthToOther f_t_letters_worthToOther n_t_letters_worthToOne f_t_letters_worthToOne i_t_spoken_length i_t_spoken_words f_t_spoken_scales n_t_foresight_rows2_letters n_t_letters_sense f_t_letters_sense n_t_foresight_rows1_letters f_t_foresight_memory i_t_foresight_rows2_count f_t_foresight_rows2_letters i_t_foresight_rows1_count f_t_foresight_rows1_letters p1 p2).bind fun (r_45, z_46, z_47, z_48, z_49, z_50) =>
                if p4 = 2 then
                  some ((r_45 - r_45 / 4096 * 4096), z_40, z_41, z_42, z_46, z_47, z_48, z_49, z_50)
                else
                  if p4 = 3 then
                    some ((r_45 / 4096), z_40, z_41, z_42, z_46, z_47, z_48, z_49, z_50)
                  else
                    (f_X3_worthTo i_t_letters_size n_t_letters_worthToOther f_t_letters_worthToOther n_t_letters_worthToOne f_t_letters_worthToOne p4 (r_45 - r_45 / 4096 * 4096)).bind fun r_54 =>
                    some (r_54, z_40, z_41, z_42, z_46, z_47, z_48, z_49, z_50)
            else
              (f_X8_stamp i_t_letters_tongues i_t_now_law i_t_now_way).bind fun r_13 =>
              (f_X1_useRules i_t_foresight_law i_t_foresight_nonsense i_t_foresight_stamp i_t_now_law 0 r_13).bind fun (z_15, z_16, z_17) =>
              if p4 = 4 then
                (f_X1_firstSent_s2 z_15 z_16 z_17 i_t_letters_size n_t_foresight_memory n_t_letters_worthToOther f_t_letters_worthToOther n_t_letters_worthToOne f_t_letters_worthToOne i_t_spoken_length i_t_spoken_words f_t_spoken_scales n_t_foresight_rows2_letters n_t_letters_sense f_t_letters_sense n_t_foresight_rows1_letters f_t_foresight_memory i_t_foresight_rows2_count f_t_foresight_rows2_letters i_t_foresight_rows1_count f_t_foresight_rows1_letters p1 p2).bind fun (r_31, z_32, z_33, z_34, z_35, z_36) =>
                some (r_31, z_15, z_16, z_17, z_32, z_33, z_34, z_35, z_36)
              else
                (f_X1_look_s2 z_15 z_16 z_17 i_t_letters_size n_t_foresight_memory n_t_letters_worthToOther f_t_letters_worthToOther n_t_letters_worthToOne f_t_letters_worthToOne i_t_spoken_length i_t_spoken_words f_t_spoken_scales n_t_foresight_rows2_letters n_t_letters_sense f_t_letters_sense n_t_foresight_rows1_letters f_t_foresight_memory i_t_foresight_rows2_count f_t_foresight_rows2_letters i_t_foresight_rows1_count f_t_foresight_rows1_letters p1 p2).bind fun (r_20, z_21, z_22, z_23, z_24, z_25) =>
                if p4 = 2 then
                  some ((r_20 - r_20 / 4096 * 4096), z_15, z_16, z_17, z_21, z_22, z_23, z_24, z_25)
                else
                  if p4 = 3 then
                    some ((r_20 / 4096), z_15, z_16, z_17, z_21, z_22, z_23, z_24, z_25)
                  else
                    (f_X3_worthTo i_t_letters_size n_t_letters_worthToOther f_t_letters_worthToOther n_t_letters_worthToOne f_t_letters_worthToOne p4 (r_20 - r_20 / 4096 * 4096)).bind fun r_29 =>
                    some (r_29, z_15, z_16, z_17, z_21, z_22, z_23, z_24, z_25)
          else
            some ((-1000000002), i_t_foresight_law, i_t_foresight_nonsense, i_t_foresight_stamp, f_t_foresight_memory, i_t_foresight_rows2_count, f_t_foresight_rows2_letters, i_t_foresight_rows1_count, f_t_foresight_rows1_letters)
def f_X8_ahead_s3 (i_t_letters_tongues : Int32) (i_t_letters_size : Int32) (i_t_now_law : Int32) (i_t_now_way : Int32) (n_t_foresight_memory : Nat) (n_t_letters_worthToOther : Nat) (f_t_letters_worthToOther : Nat → Int32) (n_t_letters_worthToOne : Nat) (f_t_letters_worthToOne : Nat → Int32) (i_t_spoken_length : Int32) (i_t_spoken_words : Int32) (f_t_spoken_scales : Nat → Int32) (n_t_foresight_rows3_letters : Nat) (n_t_letters_sense : Nat) (f_t_letters_sense : Nat → Int32) (n_t_foresight_rows2_letters : Nat) (n_t_foresight_rows1_letters : Nat) (i_t_foresight_law : Int32) (i_t_foresight_nonsense : Int32) (i_t_foresight_stamp : Int32) (f_t_foresight_memory : Nat → Int32) (i_t_foresight_rows3_count : Int32) (f_t_foresight_rows3_letters : Nat → Int32) (i_t_foresight_rows2_count : Int32) (f_t_foresight_rows2_letters : Nat → Int32) (i_t_foresight_rows1_count : Int32) (f_t_foresight_rows1_letters : Nat → Int32) (p1 : Int32) (p2 : Int32) (p4 : Int32) : Option (Int32 × Int32 × Int32 × Int32 × (Nat → Int32) × Int32 × (Nat → Int32) × Int32 × (Nat → Int32) × Int32 × (Nat → Int32)) :=
  (f_X8_isHouse p2).bind fun r_1 =>
  if r_1 = 0 then
    some ((-1000000001), i_t_foresight_law, i_t_foresight_nonsense, i_t_foresight_stamp, f_t_foresight_memory, i_t_foresight_rows3_count, f_t_foresight_rows3_letters, i_t_foresight_rows2_count, f_t_foresight_rows2_letters, i_t_foresight_rows1_count, f_t_foresight_rows1_letters)
  else
    (f_X8_isLetter i_t_letters_size p1).bind fun r_4 =>
    if r_4 = 0 then
      some ((-1000000002), i_t_foresight_law, i_t_foresight_nonsense, i_t_foresight_stamp, f_t_foresight_memory, i_t_foresight_rows3_count, f_t_foresight_rows3_letters, i_t_foresight_rows2_count, f_t_foresight_rows2_letters, i_t_foresight_rows1_count, f_t_foresight_rows1_letters)
    else
      (f_X8_isMoves 3).bind fun r_7 =>
      if r_7 = 0 then
        some ((-1000000002), i_t_foresight_law, i_t_foresight_nonsense, i_t_foresight_stamp, f_t_foresight_memory, i_t_foresight_rows3_count, f_t_foresight_rows3_letters, i_t_foresight_rows2_count, f_t_foresight_rows2_letters, i_t_foresight_rows1_count, f_t_foresight_rows1_letters)
      else
        if p4 < 0 then
          some ((-1000000002), i_t_foresight_law, i_t_foresight_nonsense, i_t_foresight_stamp, f_t_foresight_memory, i_t_foresight_rows3_count, f_t_foresight_rows3_letters, i_t_foresight_rows2_count, f_t_foresight_rows2_letters, i_t_foresight_rows1_count, f_t_foresight_rows1_letters)
        else
          if p4 ≤ 4 then
            if i_t_now_way = 1 then
              (f_X8_stamp i_t_letters_tongues i_t_now_law i_t_now_way).bind fun r_42 =>
              (f_X1_useRules i_t_foresight_law i_t_foresight_nonsense i_t_foresight_stamp i_t_now_law 1 r_42).bind fun (z_44, z_45, z_46) =>
              if p4 = 4 then
                (f_X1_firstSent_s3 z_44 z_45 z_46 i_t_letters_size n_t_foresight_memory n_t_letters_worthToOther f_t_letters_worthToOther n_t_letters_worthToOne f_t_letters_worthToOne i_t_spoken_length i_t_spoken_words f_t_spoken_scales n_t_foresight_rows3_letters n_t_letters_sense f_t_letters_sense n_t_foresight_rows2_letters n_t_foresight_rows1_letters f_t_foresight_memory i_t_foresight_rows3_count f_t_foresight_rows3_letters i_t_foresight_rows2_count f_t_foresight_rows2_letters i_t_foresight_rows1_count f_t_foresight_rows1_letters p1 p2).bind fun (r_62, z_63, z_64, z_65, z_66, z_67, z_68, z_69) =>
                some (r_62, z_44, z_45, z_46, z_63, z_64, z_65, z_66, z_67, z_68, z_69)
              else
                (f_X1_look_s3 z_44 z_45 z_46 i_t_letters_size n_t_foresight_memory n_t_letters_worthToOther f_t_letters_worthToOther n_t_letters_worthToOne f_t_letters_worthToOne i_t_spoken_length i_t_spoken_words f_t_spoken_scales n_t_foresight_rows3_letters n_t_letters_sense f_t_letters_sense n_t_foresight_rows2_letters n_t_foresight_rows1_letters f_t_foresight_memory i_t_foresight_rows3_count f_t_foresight_rows3_letters i_t_foresight_rows2_count f_t_foresight_rows2_letters i_t_foresight_rows1_count f_t_foresight_rows1_letters p1 p2).bind fun (r_49, z_50, z_51, z_52, z_53, z_54, z_55, z_56) =>
                if p4 = 2 then
                  some ((r_49 - r_49 / 4096 * 4096), z_44, z_45, z_46, z_50, z_51, z_52, z_53, z_54, z_55, z_56)
                else
                  if p4 = 3 then
                    some ((r_49 / 4096), z_44, z_45, z_46, z_50, z_51, z_52, z_53, z_54, z_55, z_56)
                  else
                    (f_X3_worthTo i_t_letters_size n_t_letters_worthToOther f_t_letters_worthToOther n_t_letters_worthToOne f_t_letters_worthToOne p4 (r_49 - r_49 / 4096 * 4096)).bind fun r_60 =>
                    some (r_60, z_44, z_45, z_46, z_50, z_51, z_52, z_53, z_54, z_55, z_56)
            else
              (f_X8_stamp i_t_letters_tongues i_t_now_law i_t_now_way).bind fun r_13 =>
              (f_X1_useRules i_t_foresight_law i_t_foresight_nonsense i_t_foresight_stamp i_t_now_law 0 r_13).bind fun (z_15, z_16, z_17) =>
              if p4 = 4 then
                (f_X1_firstSent_s3 z_15 z_16 z_17 i_t_letters_size n_t_foresight_memory n_t_letters_worthToOther f_t_letters_worthToOther n_t_letters_worthToOne f_t_letters_worthToOne i_t_spoken_length i_t_spoken_words f_t_spoken_scales n_t_foresight_rows3_letters n_t_letters_sense f_t_letters_sense n_t_foresight_rows2_letters n_t_foresight_rows1_letters f_t_foresight_memory i_t_foresight_rows3_count f_t_foresight_rows3_letters i_t_foresight_rows2_count f_t_foresight_rows2_letters i_t_foresight_rows1_count f_t_foresight_rows1_letters p1 p2).bind fun (r_33, z_34, z_35, z_36, z_37, z_38, z_39, z_40) =>
                some (r_33, z_15, z_16, z_17, z_34, z_35, z_36, z_37, z_38, z_39, z_40)
              else
                (f_X1_look_s3 z_15 z_16 z_17 i_t_letters_size n_t_foresight_memory n_t_letters_worthToOther f_t_letters_worthToOther n_t_letters_worthToOne f_t_letters_worthToOne i_t_spoken_length i_t_spoken_words f_t_spoken_scales n_t_foresight_rows3_letters n_t_letters_sense f_t_letters_sense n_t_foresight_rows2_letters n_t_foresight_rows1_letters f_t_foresight_memory i_t_foresight_rows3_count f_t_foresight_rows3_letters i_t_foresight_rows2_count f_t_foresight_rows2_letters i_t_foresight_rows1_count f_t_foresight_rows1_letters p1 p2).bind fun (r_20, z_21, z_22, z_23, z_24, z_25, z_26, z_27) =>
                if p4 = 2 then
                  some ((r_20 - r_20 / 4096 * 4096), z_15, z_16, z_17, z_21, z_22, z_23, z_24, z_25, z_26, z_27)
                else
                  if p4 = 3 then
                    some ((r_20 / 4096), z_15, z_16, z_17, z_21, z_22, z_23, z_24, z_25, z_26, z_27)
                  else
                    (f_X3_worthTo i_t_letters_size n_t_letters_worthToOther f_t_letters_worthToOther n_t_letters_worthToOne f_t_letters_worthToOne p4 (r_20 - r_20 / 4096 * 4096)).bind fun r_31 =>
                    some (r_31, z_15, z_16, z_17, z_21, z_22, z_23, z_24, z_25, z_26, z_27)
          else
            some ((-1000000002), i_t_foresight_law, i_t_foresight_nonsense, i_t_foresight_stamp, f_t_foresight_memory, i_t_foresight_rows3_count, f_t_foresight_rows3_letters, i_t_foresight_rows2_count, f_t_foresight_rows2_letters, i_t_foresight_rows1_count, f_t_foresight_rows1_letters)
def f_X8_ahead_s4 (i_t_letters_tongues : Int32) (i_t_letters_size : Int32) (i_t_now_law : Int32) (i_t_now_way : Int32) (n_t_foresight_memory : Nat) (n_t_letters_worthToOther : Nat) (f_t_letters_worthToOther : Nat → Int32) (n_t_letters_worthToOne : Nat) (f_t_letters_worthToOne : Nat → Int32) (i_t_spoken_length : Int32) (i_t_spoken_words : Int32) (f_t_spoken_scales : Nat → Int32) (n_t_foresight_rows4_letters : Nat) (n_t_letters_sense : Nat) (f_t_letters_sense : Nat → Int32) (n_t_foresight_rows3_letters : Nat) (n_t_foresight_rows2_letters : Nat) (n_t_foresight_rows1_letters : Nat) (i_t_foresight_law : Int32) (i_t_foresight_nonsense : Int32) (i_t_foresight_stamp : Int32) (f_t_foresight_memory : Nat → Int32) (i_t_foresight_rows4_count : Int32) (f_t_foresight_rows4_letters : Nat → Int32) (i_t_foresight_rows3_count : Int32) (f_t_foresight_rows3_letters : Nat → Int32) (i_t_foresight_rows2_count : Int32) (f_t_foresight_rows2_letters : Nat → Int32) (i_t_foresight_rows1_count : Int32) (f_t_foresight_rows1_letters : Nat → Int32) (p1 : Int32) (p2 : Int32) (p4 : Int32) : Option (Int32 × Int32 × Int32 × Int32 × (Nat → Int32) × Int32 × (Nat → Int32) × Int32 × (Nat → Int32) × Int32 × (Nat → Int32) × Int32 × (Nat → Int32)) :=
  (f_X8_isHouse p2).bind fun r_1 =>
  if r_1 = 0 then
    some ((-1000000001), i_t_foresight_law, i_t_foresight_nonsense, i_t_foresight_stamp, f_t_foresight_memory, i_t_foresight_rows4_count, f_t_foresight_rows4_letters, i_t_foresight_rows3_count, f_t_foresight_rows3_letters, i_t_foresight_rows2_count, f_t_foresight_rows2_letters, i_t_foresight_rows1_count, f_t_foresight_rows1_letters)
  else
    (f_X8_isLetter i_t_letters_size p1).bind fun r_4 =>
    if r_4 = 0 then
      some ((-1000000002), i_t_foresight_law, i_t_foresight_nonsense, i_t_foresight_stamp, f_t_foresight_memory, i_t_foresight_rows4_count, f_t_foresight_rows4_letters, i_t_foresight_rows3_count, f_t_foresight_rows3_letters, i_t_foresight_rows2_count, f_t_foresight_rows2_letters, i_t_foresight_rows1_count, f_t_foresight_rows1_letters)
    else
      (f_X8_isMoves 4).bind fun r_7 =>
      if r_7 = 0 then
        some ((-1000000002), i_t_foresight_law, i_t_foresight_nonsense, i_t_foresight_stamp, f_t_foresight_memory, i_t_foresight_rows4_count, f_t_foresight_rows4_letters, i_t_foresight_rows3_count, f_t_foresight_rows3_letters, i_t_foresight_rows2_count, f_t_foresight_rows2_letters, i_t_foresight_rows1_count, f_t_foresight_rows1_letters)
      else
        if p4 < 0 then
          some ((-1000000002), i_t_foresight_law, i_t_foresight_nonsense, i_t_foresight_stamp, f_t_foresight_memory, i_t_foresight_rows4_count, f_t_foresight_rows4_letters, i_t_foresight_rows3_count, f_t_foresight_rows3_letters, i_t_foresight_rows2_count, f_t_foresight_rows2_letters, i_t_foresight_rows1_count, f_t_foresight_rows1_letters)
        else
          if p4 ≤ 4 then
            if i_t_now_way = 1 then
              (f_X8_stamp i_t_letters_tongues i_t_now_law i_t_now_way).bind fun r_46 =>
              (f_X1_useRules i_t_foresight_law i_t_foresight_nonsense i_t_foresight_stamp i_t_now_law 1 r_46).bind fun (z_48, z_49, z_50) =>
              if p4 = 4 then
                (f_X1_firstSent_s4 z_48 z_49 z_50 i_t_letters_size n_t_foresight_memory n_t_letters_worthToOther f_t_letters_worthToOther n_t_letters_worthToOne f_t_letters_worthToOne i_t_spoken_length i_t_spoken_words f_t_spoken_scales n_t_foresight_rows4_letters n_t_letters_sense f_t_letters_sense n_t_foresight_rows3_letters n_t_foresight_rows2_letters n_t_foresight_rows1_letters f_t_foresight_memory i_t_foresight_rows4_count f_t_foresight_rows4_letters i_t_foresight_rows3_count f_t_foresight_rows3_letters i_t_foresight_rows2_count f_t_foresight_rows2_letters i_t_foresight_rows1_count f_t_foresight_rows1_letters p1 p2).bind fun (r_68, z_69, z_70, z_71, z_72, z_73, z_74, z_75, z_76, z_77) =>
                some (r_68, z_48, z_49, z_50, z_69, z_70, z_71, z_72, z_73, z_74, z_75, z_76, z_77)
              else
                (f_X1_look_s4 z_48 z_49 z_50 i_t_letters_size n_t_foresight_memory n_t_letters_worthToOther f_t_letters_worthToOther n_t_letters_worthToOne f_t_letters_worthToOne i_t_spoken_length i_t_spoken_words f_t_spoken_scales n_t_foresight_rows4_letters n_t_letters_sense f_t_letters_sense n_t_foresight_rows3_letters n_t_foresight_rows2_letters n_t_foresight_rows1_letters f_t_foresight_memory i_t_foresight_rows4_count f_t_foresight_rows4_letters i_t_foresight_rows3_count f_t_foresight_rows3_letters i_t_foresight_rows2_count f_t_foresight_rows2_letters i_t_foresight_rows1_count f_t_foresight_rows1_letters p1 p2).bind fun (r_53, z_54, z_55, z_56, z_57, z_58, z_59, z_60, z_61, z_62) =>
                if p4 = 2 then
                  some ((r_53 - r_53 / 4096 * 4096), z_48, z_49, z_50, z_54, z_55, z_56, z_57, z_58, z_59, z_60, z_61, z_62)
                else
                  if p4 = 3 then
                    some ((r_53 / 4096), z_48, z_49, z_50, z_54, z_55, z_56, z_57, z_58, z_59, z_60, z_61, z_62)
                  else
                    (f_X3_worthTo i_t_letters_size n_t_letters_worthToOther f_t_letters_worthToOther n_t_letters_worthToOne f_t_letters_worthToOne p4 (r_53 - r_53 / 4096 * 4096)).bind fun r_66 =>
                    some (r_66, z_48, z_49, z_50, z_54, z_55, z_56, z_57, z_58, z_59, z_60, z_61, z_62)
            else
              (f_X8_stamp i_t_letters_tongues i_t_now_law i_t_now_way).bind fun r_13 =>
              (f_X1_useRules i_t_foresight_law i_t_foresight_nonsense i_t_foresight_stamp i_t_now_law 0 r_13).bind fun (z_15, z_16, z_17) =>
              if p4 = 4 then
                (f_X1_firstSent_s4 z_15 z_16 z_17 i_t_letters_size n_t_foresight_memory n_t_letters_worthToOther f_t_letters_worthToOther n_t_letters_worthToOne f_t_letters_worthToOne i_t_spoken_length i_t_spoken_words f_t_spoken_scales n_t_foresight_rows4_letters n_t_letters_sense f_t_letters_sense n_t_foresight_rows3_letters n_t_foresight_rows2_letters n_t_foresight_rows1_letters f_t_foresight_memory i_t_foresight_rows4_count f_t_foresight_rows4_letters i_t_foresight_rows3_count f_t_foresight_rows3_letters i_t_foresight_rows2_count f_t_foresight_rows2_letters i_t_foresight_rows1_count f_t_foresight_rows1_letters p1 p2).bind fun (r_35, z_36, z_37, z_38, z_39, z_40, z_41, z_42, z_43, z_44) =>
                some (r_35, z_15, z_16, z_17, z_36, z_37, z_38, z_39, z_40, z_41, z_42, z_43, z_44)
              else
                (f_X1_look_s4 z_15 z_16 z_17 i_t_letters_size n_t_foresight_memory n_t_letters_worthToOther f_t_letters_worthToOther n_t_letters_worthToOne f_t_letters_worthToOne i_t_spoken_length i_t_spoken_words f_t_spoken_scales n_t_foresight_rows4_letters n_t_letters_sense f_t_letters_sense n_t_foresight_rows3_letters n_t_foresight_rows2_letters n_t_foresight_rows1_letters f_t_foresight_memory i_t_foresight_rows4_count f_t_foresight_rows4_letters i_t_foresight_rows3_count f_t_foresight_rows3_letters i_t_foresight_rows2_count f_t_foresight_rows2_letters i_t_foresight_rows1_count f_t_foresight_rows1_letters p1 p2).bind fun (r_20, z_21, z_22, z_23, z_24, z_25, z_26, z_27, z_28, z_29) =>
                if p4 = 2 then
                  some ((r_20 - r_20 / 4096 * 4096), z_15, z_16, z_17, z_21, z_22, z_23, z_24, z_25, z_26, z_27, z_28, z_29)
                else
                  if p4 = 3 then
                    some ((r_20 / 4096), z_15, z_16, z_17, z_21, z_22, z_23, z_24, z_25, z_26, z_27, z_28, z_29)
                  else
                    (f_X3_worthTo i_t_letters_size n_t_letters_worthToOther f_t_letters_worthToOther n_t_letters_worthToOne f_t_letters_worthToOne p4 (r_20 - r_20 / 4096 * 4096)).bind fun r_33 =>
                    some (r_33, z_15, z_16, z_17, z_21, z_22, z_23, z_24, z_25, z_26, z_27, z_28, z_29)
          else
            some ((-1000000002), i_t_foresight_law, i_t_foresight_nonsense, i_t_foresight_stamp, f_t_foresight_memory, i_t_foresight_rows4_count, f_t_foresight_rows4_letters, i_t_foresight_rows3_count, f_t_foresight_rows3_letters, i_t_foresight_rows2_count, f_t_foresight_rows2_letters, i_t_foresight_rows1_count, f_t_foresight_rows1_letters)
def f_X8_ahead_s5 (i_t_letters_tongues : Int32) (i_t_letters_size : Int32) (i_t_now_law : Int32) (i_t_now_way : Int32) (n_t_foresight_memory : Nat) (n_t_letters_worthToOther : Nat) (f_t_letters_worthToOther : Nat → Int32) (n_t_letters_worthToOne : Nat) (f_t_letters_worthToOne : Nat → Int32) (i_t_spoken_length : Int32) (i_t_spoken_words : Int32) (f_t_spoken_scales : Nat → Int32) (n_t_foresight_rows5_letters : Nat) (n_t_letters_sense : Nat) (f_t_letters_sense : Nat → Int32) (n_t_foresight_rows4_letters : Nat) (n_t_foresight_rows3_letters : Nat) (n_t_foresight_rows2_letters : Nat) (n_t_foresight_rows1_letters : Nat) (i_t_foresight_law : Int32) (i_t_foresight_nonsense : Int32) (i_t_foresight_stamp : Int32) (f_t_foresight_memory : Nat → Int32) (i_t_foresight_rows5_count : Int32) (f_t_foresight_rows5_letters : Nat → Int32) (i_t_foresight_rows4_count : Int32) (f_t_foresight_rows4_letters : Nat → Int32) (i_t_foresight_rows3_count : Int32) (f_t_foresight_rows3_letters : Nat → Int32) (i_t_foresight_rows2_count : Int32) (f_t_foresight_rows2_letters : Nat → Int32) (i_t_foresight_rows1_count : Int32) (f_t_foresight_rows1_letters : Nat → Int32) (p1 : Int32) (p2 : Int32) (p4 : Int32) : Option (Int32 × Int32 × Int32 × Int32 × (Nat → Int32) × Int32 × (Nat → Int32) × Int32 × (Nat → Int32) × Int32 × (Nat → Int32) × Int32 × (Nat → Int32) × Int32 × (Nat → Int32)) :=
  (f_X8_isHouse p2).bind fun r_1 =>
  if r_1 = 0 then
    some ((-1000000001), i_t_foresight_law, i_t_foresight_nonsense, i_t_foresight_stamp, f_t_foresight_memory, i_t_foresight_rows5_count, f_t_foresight_rows5_letters, i_t_foresight_rows4_count, f_t_foresight_rows4_letters, i_t_foresight_rows3_count, f_t_foresight_rows3_letters, i_t_foresight_rows2_count, f_t_foresight_rows2_letters, i_t_foresight_rows1_count, f_t_foresight_rows1_letters)
  else
    (f_X8_isLetter i_t_letters_size p1).bind fun r_4 =>
    if r_4 = 0 then
      some ((-1000000002), i_t_foresight_law, i_t_foresight_nonsense, i_t_foresight_stamp, f_t_foresight_memory, i_t_foresight_rows5_count, f_t_foresight_rows5_letters, i_t_foresight_rows4_count, f_t_foresight_rows4_letters, i_t_foresight_rows3_count, f_t_foresight_rows3_letters, i_t_foresight_rows2_count, f_t_foresight_rows2_letters, i_t_foresight_rows1_count, f_t_foresight_rows1_letters)
    else
      (f_X8_isMoves 5).bind fun r_7 =>
      if r_7 = 0 then
        some ((-1000000002), i_t_foresight_law, i_t_foresight_nonsense, i_t_foresight_stamp, f_t_foresight_memory, i_t_foresight_rows5_count, f_t_foresight_rows5_letters, i_t_foresight_rows4_count, f_t_foresight_rows4_letters, i_t_foresight_rows3_count, f_t_foresight_rows3_letters, i_t_foresight_rows2_count, f_t_foresight_rows2_letters, i_t_foresight_rows1_count, f_t_foresight_rows1_letters)
      else
        if p4 < 0 then
          some ((-1000000002), i_t_foresight_law, i_t_foresight_nonsense, i_t_foresight_stamp, f_t_foresight_memory, i_t_foresight_rows5_count, f_t_foresight_rows5_letters, i_t_foresight_rows4_count, f_t_foresight_rows4_letters, i_t_foresight_rows3_count, f_t_foresight_rows3_letters, i_t_foresight_rows2_count, f_t_foresight_rows2_letters, i_t_foresight_rows1_count, f_t_foresight_rows1_letters)
        else
          if p4 ≤ 4 then
            if i_t_now_way = 1 then
              (f_X8_stamp i_t_letters_tongues i_t_now_law i_t_now_way).bind fun r_50 =>
              (f_X1_useRules i_t_foresight_law i_t_foresight_nonsense i_t_foresight_stamp i_t_now_law 1 r_50).bind fun (z_52, z_53, z_54) =>
              if p4 = 4 then
                (f_X1_firstSent_s5 z_52 z_53 z_54 i_t_letters_size n_t_foresight_memory n_t_letters_worthToOther f_t_letters_worthToOther n_t_letters_worthToOne f_t_letters_worthToOne i_t_spoken_length i_t_spoken_words f_t_spoken_scales n_t_foresight_rows5_letters n_t_letters_sense f_t_letters_sense n_t_foresight_rows4_letters n_t_foresight_rows3_letters n_t_foresight_rows2_letters n_t_foresight_rows1_letters f_t_foresight_memory i_t_foresight_rows5_count f_t_foresight_rows5_letters i_t_foresight_rows4_count f_t_foresight_rows4_letters i_t_foresight_rows3_count f_t_foresight_rows3_letters i_t_foresight_rows2_count f_t_foresight_rows2_letters i_t_foresight_rows1_count f_t_foresight_rows1_letters p1 p2).bind fun (r_74, z_75, z_76, z_77, z_78, z_79, z_80, z_81, z_82, z_83, z_84, z_85) =>
                some (r_74, z_52, z_53, z_54, z_75, z_76, z_77, z_78, z_79, z_80, z_81, z_82, z_83, z_84, z_85)
              else
                (f_X1_look_s5 z_52 z_53 z_54 i_t_letters_size n_t_foresight_memory n_t_letters_worthToOther f_t_letters_worthToOther n_t_letters_worthToOne f_t_letters_worthToOne i_t_spoken_length i_t_spoken_words f_t_spoken_scales n_t_foresight_rows5_letters n_t_letters_sense f_t_letters_sense n_t_foresight_rows4_letters n_t_foresight_rows3_letters n_t_foresight_rows2_letters n_t_foresight_rows1_letters f_t_foresight_memory i_t_foresight_rows5_count f_t_foresight_rows5_letters i_t_foresight_rows4_count f_t_foresight_rows4_letters i_t_foresight_rows3_count f_t_foresight_rows3_letters i_t_foresight_rows2_count f_t_foresight_rows2_letters i_t_foresight_rows1_count f_t_foresight_rows1_letters p1 p2).bind fun (r_57, z_58, z_59, z_60, z_61, z_62, z_63, z_64, z_65, z_66, z_67, z_68) =>
                if p4 = 2 then
                  some ((r_57 - r_57 / 4096 * 4096), z_52, z_53, z_54, z_58, z_59, z_60, z_61, z_62, z_63, z_64, z_65, z_66, z_67, z_68)
                else
                  if p4 = 3 then
                    some ((r_57 / 4096), z_52, z_53, z_54, z_58, z_59, z_60, z_61, z_62, z_63, z_64, z_65, z_66, z_67, z_68)
                  else
                    (f_X3_worthTo i_t_letters_size n_t_letters_worthToOther f_t_letters_worthToOther n_t_letters_worthToOne f_t_letters_worthToOne p4 (r_57 - r_57 / 4096 * 4096)).bind fun r_72 =>
                    some (r_72, z_52, z_53, z_54, z_58, z_59, z_60, z_61, z_62, z_63, z_64, z_65, z_66, z_67, z_68)
            else
              (f_X8_stamp i_t_letters_tongues i_t_now_law i_t_now_way).bind fun r_13 =>
              (f_X1_useRules i_t_foresight_law i_t_foresight_nonsense i_t_foresight_stamp i_t_now_law 0 r_13).bind fun (z_15, z_16, z_17) =>
              if p4 = 4 then
                (f_X1_firstSent_s5 z_15 z_16 z_17 i_t_letters_size n_t_foresight_memory n_t_letters_worthToOther f_t_letters_worthToOther n_t_letters_worthToOne f_t_letters_worthToOne i_t_spoken_length i_t_spoken_words f_t_spoken_scales n_t_foresight_rows5_letters n_t_letters_sense f_t_letters_sense n_t_foresight_rows4_letters n_t_foresight_rows3_letters n_t_foresight_rows2_letters n_t_foresight_rows1_letters f_t_foresight_memory i_t_foresight_rows5_count f_t_foresight_rows5_letters i_t_foresight_rows4_count f_t_foresight_rows4_letters i_t_foresight_rows3_count f_t_foresight_rows3_letters i_t_foresight_rows2_count f_t_foresight_rows2_letters i_t_foresight_rows1_count f_t_foresight_rows1_letters p1 p2).bind fun (r_37, z_38, z_39, z_40, z_41, z_42, z_43, z_44, z_45, z_46, z_47, z_48) =>
                some (r_37, z_15, z_16, z_17, z_38, z_39, z_40, z_41, z_42, z_43, z_44, z_45, z_46, z_47, z_48)
              else
                (f_X1_look_s5 z_15 z_16 z_17 i_t_letters_size n_t_foresight_memory n_t_letters_worthToOther f_t_letters_worthToOther n_t_letters_worthToOne f_t_letters_worthToOne i_t_spoken_length i_t_spoken_words f_t_spoken_scales n_t_foresight_rows5_letters n_t_letters_sense f_t_letters_sense n_t_foresight_rows4_letters n_t_foresight_rows3_letters n_t_foresight_rows2_letters n_t_foresight_rows1_letters f_t_foresight_memory i_t_foresight_rows5_count f_t_foresight_rows5_letters i_t_foresight_rows4_count f_t_foresight_rows4_letters i_t_foresight_rows3_count f_t_foresight_rows3_letters i_t_foresight_rows2_count f_t_foresight_rows2_letters i_t_foresight_rows1_count f_t_foresight_rows1_letters p1 p2).bind fun (r_20, z_21, z_22, z_23, z_24, z_25, z_26, z_27, z_28, z_29, z_30, z_31) =>
                if p4 = 2 then
                  some ((r_20 - r_20 / 4096 * 4096), z_15, z_16, z_17, z_21, z_22, z_23, z_24, z_25, z_26, z_27, z_28, z_29, z_30, z_31)
                else
                  if p4 = 3 then
                    some ((r_20 / 4096), z_15, z_16, z_17, z_21, z_22, z_23, z_24, z_25, z_26, z_27, z_28, z_29, z_30, z_31)
                  else
                    (f_X3_worthTo i_t_letters_size n_t_letters_worthToOther f_t_letters_worthToOther n_t_letters_worthToOne f_t_letters_worthToOne p4 (r_20 - r_20 / 4096 * 4096)).bind fun r_35 =>
                    some (r_35, z_15, z_16, z_17, z_21, z_22, z_23, z_24, z_25, z_26, z_27, z_28, z_29, z_30, z_31)
          else
            some ((-1000000002), i_t_foresight_law, i_t_foresight_nonsense, i_t_foresight_stamp, f_t_foresight_memory, i_t_foresight_rows5_count, f_t_foresight_rows5_letters, i_t_foresight_rows4_count, f_t_foresight_rows4_letters, i_t_foresight_rows3_count, f_t_foresight_rows3_letters, i_t_foresight_rows2_count, f_t_foresight_rows2_letters, i_t_foresight_rows1_count, f_t_foresight_rows1_letters)
def f_X8_ahead_s6 (i_t_letters_tongues : Int32) (i_t_letters_size : Int32) (i_t_now_law : Int32) (i_t_now_way : Int32) (n_t_foresight_memory : Nat) (n_t_letters_worthToOther : Nat) (f_t_letters_worthToOther : Nat → Int32) (n_t_letters_worthToOne : Nat) (f_t_letters_worthToOne : Nat → Int32) (i_t_spoken_length : Int32) (i_t_spoken_words : Int32) (f_t_spoken_scales : Nat → Int32) (n_t_foresight_rows6_letters : Nat) (n_t_letters_sense : Nat) (f_t_letters_sense : Nat → Int32) (n_t_foresight_rows5_letters : Nat) (n_t_foresight_rows4_letters : Nat) (n_t_foresight_rows3_letters : Nat) (n_t_foresight_rows2_letters : Nat) (n_t_foresight_rows1_letters : Nat) (i_t_foresight_law : Int32) (i_t_foresight_nonsense : Int32) (i_t_foresight_stamp : Int32) (f_t_foresight_memory : Nat → Int32) (i_t_foresight_rows6_count : Int32) (f_t_foresight_rows6_letters : Nat → Int32) (i_t_foresight_rows5_count : Int32) (f_t_foresight_rows5_letters : Nat → Int32) (i_t_foresight_rows4_count : Int32) (f_t_foresight_rows4_letters : Nat → Int32) (i_t_foresight_rows3_count : Int32) (f_t_foresight_rows3_letters : Nat → Int32) (i_t_foresight_rows2_count : Int32) (f_t_foresight_rows2_letters : Nat → Int32) (i_t_foresight_rows1_count : Int32) (f_t_foresight_rows1_letters : Nat → Int32) (p1 : Int32) (p2 : Int32) (p4 : Int32) : Option (Int32 × Int32 × Int32 × Int32 × (Nat → Int32) × Int32 × (Nat → Int32) × Int32 × (Nat → Int32) × Int32 × (Nat → Int32) × Int32 × (Nat → Int32) × Int32 × (Nat → Int32) × Int32 × (Nat → Int32)) :=
  (f_X8_isHouse p2).bind fun r_1 =>
  if r_1 = 0 then
    some ((-1000000001), i_t_foresight_law, i_t_foresight_nonsense, i_t_foresight_stamp, f_t_foresight_memory, i_t_foresight_rows6_count, f_t_foresight_rows6_letters, i_t_foresight_rows5_count, f_t_foresight_rows5_letters, i_t_foresight_rows4_count, f_t_foresight_rows4_letters, i_t_foresight_rows3_count, f_t_foresight_rows3_letters, i_t_foresight_rows2_count, f_t_foresight_rows2_letters, i_t_foresight_rows1_count, f_t_foresight_rows1_letters)
  else
    (f_X8_isLetter i_t_letters_size p1).bind fun r_4 =>
    if r_4 = 0 then
      some ((-1000000002), i_t_foresight_law, i_t_foresight_nonsense, i_t_foresight_stamp, f_t_foresight_memory, i_t_foresight_rows6_count, f_t_foresight_rows6_letters, i_t_foresight_rows5_count, f_t_foresight_rows5_letters, i_t_foresight_rows4_count, f_t_foresight_rows4_letters, i_t_foresight_rows3_count, f_t_foresight_rows3_letters, i_t_foresight_rows2_count, f_t_foresight_rows2_letters, i_t_foresight_rows1_count, f_t_foresight_rows1_letters)
    else
      (f_X8_isMoves 6).bind fun r_7 =>
      if r_7 = 0 then
        some ((-1000000002), i_t_foresight_law, i_t_foresight_nonsense, i_t_foresight_stamp, f_t_foresight_memory, i_t_foresight_rows6_count, f_t_foresight_rows6_letters, i_t_foresight_rows5_count, f_t_foresight_rows5_letters, i_t_foresight_rows4_count, f_t_foresight_rows4_letters, i_t_foresight_rows3_count, f_t_foresight_rows3_letters, i_t_foresight_rows2_count, f_t_foresight_rows2_letters, i_t_foresight_rows1_count, f_t_foresight_rows1_letters)
      else
        if p4 < 0 then
          some ((-1000000002), i_t_foresight_law, i_t_foresight_nonsense, i_t_foresight_stamp, f_t_foresight_memory, i_t_foresight_rows6_count, f_t_foresight_rows6_letters, i_t_foresight_rows5_count, f_t_foresight_rows5_letters, i_t_foresight_rows4_count, f_t_foresight_rows4_letters, i_t_foresight_rows3_count, f_t_foresight_rows3_letters, i_t_foresight_rows2_count, f_t_foresight_rows2_letters, i_t_foresight_rows1_count, f_t_foresight_rows1_letters)
        else
          if p4 ≤ 4 then
            if i_t_now_way = 1 then
              (f_X8_stamp i_t_letters_tongues i_t_now_law i_t_now_way).bind fun r_54 =>
              (f_X1_useRules i_t_foresight_law i_t_foresight_nonsense i_t_foresight_stamp i_t_now_law 1 r_54).bind fun (z_56, z_57, z_58) =>
              if p4 = 4 then
                (f_X1_firstSent_s6 z_56 z_57 z_58 i_t_letters_size n_t_foresight_memory n_t_letters_worthToOther f_t_letters_worthToOther n_t_letters_worthToOne f_t_letters_worthToOne i_t_spoken_length i_t_spoken_words f_t_spoken_scales n_t_foresight_rows6_letters n_t_letters_sense f_t_letters_sense n_t_foresight_rows5_letters n_t_foresight_rows4_letters n_t_foresight_rows3_letters n_t_foresight_rows2_letters n_t_foresight_rows1_letters f_t_foresight_memory i_t_foresight_rows6_count f_t_foresight_rows6_letters i_t_foresight_rows5_count f_t_foresight_rows5_letters i_t_foresight_rows4_count f_t_foresight_rows4_letters i_t_foresight_rows3_count f_t_foresight_rows3_letters i_t_foresight_rows2_count f_t_foresight_rows2_letters i_t_foresight_rows1_count f_t_foresight_rows1_letters p1 p2).bind fun (r_80, z_81, z_82, z_83, z_84, z_85, z_86, z_87, z_88, z_89, z_90, z_91, z_92, z_93) =>
                some (r_80, z_56, z_57, z_58, z_81, z_82, z_83, z_84, z_85, z_86, z_87, z_88, z_89, z_90, z_91, z_92, z_93)
              else
                (f_X1_look_s6 z_56 z_57 z_58 i_t_letters_size n_t_foresight_memory n_t_letters_worthToOther f_t_letters_worthToOther n_t_letters_worthToOne f_t_letters_worthToOne i_t_spoken_length i_t_spoken_words f_t_spoken_scales n_t_foresight_rows6_letters n_t_letters_sense f_t_letters_sense n_t_foresight_rows5_letters n_t_foresight_rows4_letters n_t_foresight_rows3_letters n_t_foresight_rows2_letters n_t_foresight_rows1_letters f_t_foresight_memory i_t_foresight_rows6_count f_t_foresight_rows6_letters i_t_foresight_rows5_count f_t_foresight_rows5_letters i_t_foresight_rows4_count f_t_foresight_rows4_letters i_t_foresight_rows3_count f_t_foresight_rows3_letters i_t_foresight_rows2_count f_t_foresight_rows2_letters i_t_foresight_rows1_count f_t_foresight_rows1_letters p1 p2).bind fun (r_61, z_62, z_63, z_64, z_65, z_66, z_67, z_68, z_69, z_70, z_71, z_72, z_73, z_74) =>
                if p4 = 2 then
                  some ((r_61 - r_61 / 4096 * 4096), z_56, z_57, z_58, z_62, z_63, z_64, z_65, z_66, z_67, z_68, z_69, z_70, z_71, z_72, z_73, z_74)
                else
                  if p4 = 3 then
                    some ((r_61 / 4096), z_56, z_57, z_58, z_62, z_63, z_64, z_65, z_66, z_67, z_68, z_69, z_70, z_71, z_72, z_73, z_74)
                  else
                    (f_X3_worthTo i_t_letters_size n_t_letters_worthToOther f_t_letters_worthToOther n_t_letters_worthToOne f_t_letters_worthToOne p4 (r_61 - r_61 / 4096 * 4096)).bind fun r_78 =>
                    some (r_78, z_56, z_57, z_58, z_62, z_63, z_64, z_65, z_66, z_67, z_68, z_69, z_70, z_71, z_72, z_73, z_74)
            else
              (f_X8_stamp i_t_letters_tongues i_t_now_law i_t_now_way).bind fun r_13 =>
              (f_X1_useRules i_t_foresight_law i_t_foresight_nonsense i_t_foresight_stamp i_t_now_law 0 r_13).bind fun (z_15, z_16, z_17) =>
              if p4 = 4 then
                (f_X1_firstSent_s6 z_15 z_16 z_17 i_t_letters_size n_t_foresight_memory n_t_letters_worthToOther f_t_letters_worthToOther n_t_letters_worthToOne f_t_letters_worthToOne i_t_spoken_length i_t_spoken_words f_t_spoken_scales n_t_foresight_rows6_letters n_t_letters_sense f_t_letters_sense n_t_foresight_rows5_letters n_t_foresight_rows4_letters n_t_foresight_rows3_letters n_t_foresight_rows2_letters n_t_foresight_rows1_letters f_t_foresight_memory i_t_foresight_rows6_count f_t_foresight_rows6_letters i_t_foresight_rows5_count f_t_foresight_rows5_letters i_t_foresight_rows4_count f_t_foresight_rows4_letters i_t_foresight_rows3_count f_t_foresight_rows3_letters i_t_foresight_rows2_count f_t_foresight_rows2_letters i_t_foresight_rows1_count f_t_foresight_rows1_letters p1 p2).bind fun (r_39, z_40, z_41, z_42, z_43, z_44, z_45, z_46, z_47, z_48, z_49, z_50, z_51, z_52) =>
                some (r_39, z_15, z_16, z_17, z_40, z_41, z_42, z_43, z_44, z_45, z_46, z_47, z_48, z_49, z_50, z_51, z_52)
              else
                (f_X1_look_s6 z_15 z_16 z_17 i_t_letters_size n_t_foresight_memory n_t_letters_worthToOther f_t_letters_worthToOther n_t_letters_worthToOne f_t_letters_worthToOne i_t_spoken_length i_t_spoken_words f_t_spoken_scales n_t_foresight_rows6_letters n_t_letters_sense f_t_letters_sense n_t_foresight_rows5_letters n_t_foresight_rows4_letters n_t_foresight_rows3_letters n_t_foresight_rows2_letters n_t_foresight_rows1_letters f_t_foresight_memory i_t_foresight_rows6_count f_t_foresight_rows6_letters i_t_foresight_rows5_count f_t_foresight_rows5_letters i_t_foresight_rows4_count f_t_foresight_rows4_letters i_t_foresight_rows3_count f_t_foresight_rows3_letters i_t_foresight_rows2_count f_t_foresight_rows2_letters i_t_foresight_rows1_count f_t_foresight_rows1_letters p1 p2).bind fun (r_20, z_21, z_22, z_23, z_24, z_25, z_26, z_27, z_28, z_29, z_30, z_31, z_32, z_33) =>
                if p4 = 2 then
                  some ((r_20 - r_20 / 4096 * 4096), z_15, z_16, z_17, z_21, z_22, z_23, z_24, z_25, z_26, z_27, z_28, z_29, z_30, z_31, z_32, z_33)
                else
                  if p4 = 3 then
                    some ((r_20 / 4096), z_15, z_16, z_17, z_21, z_22, z_23, z_24, z_25, z_26, z_27, z_28, z_29, z_30, z_31, z_32, z_33)
                  else
                    (f_X3_worthTo i_t_letters_size n_t_letters_worthToOther f_t_letters_worthToOther n_t_letters_worthToOne f_t_letters_worthToOne p4 (r_20 - r_20 / 4096 * 4096)).bind fun r_37 =>
                    some (r_37, z_15, z_16, z_17, z_21, z_22, z_23, z_24, z_25, z_26, z_27, z_28, z_29, z_30, z_31, z_32, z_33)
          else
            some ((-1000000002), i_t_foresight_law, i_t_foresight_nonsense, i_t_foresight_stamp, f_t_foresight_memory, i_t_foresight_rows6_count, f_t_foresight_rows6_letters, i_t_foresight_rows5_count, f_t_foresight_rows5_letters, i_t_foresight_rows4_count, f_t_foresight_rows4_letters, i_t_foresight_rows3_count, f_t_foresight_rows3_letters, i_t_foresight_rows2_count, f_t_foresight_rows2_letters, i_t_foresight_rows1_count, f_t_foresight_rows1_letters)
def f_X8_ahead_s7 (i_t_letters_tongues : Int32) (i_t_letters_size : Int32) (i_t_now_law : Int32) (i_t_now_way : Int32) (n_t_foresight_memory : Nat) (n_t_letters_worthToOther : Nat) (f_t_letters_worthToOther : Nat → Int32) (n_t_letters_worthToOne : Nat) (f_t_letters_worthToOne : Nat → Int32) (i_t_spoken_length : Int32) (i_t_spoken_words : Int32) (f_t_spoken_scales : Nat → Int32) (n_t_foresight_rows7_letters : Nat) (n_t_letters_sense : Nat) (f_t_letters_sense : Nat → Int32) (n_t_foresight_rows6_letters : Nat) (n_t_foresight_rows5_letters : Nat) (n_t_foresight_rows4_letters : Nat) (n_t_foresight_rows3_letters : Nat) (n_t_foresight_rows2_letters : Nat) (n_t_foresight_rows1_letters : Nat) (i_t_foresight_law : Int32) (i_t_foresight_nonsense : Int32) (i_t_foresight_stamp : Int32) (f_t_foresight_memory : Nat → Int32) (i_t_foresight_rows7_count : Int32) (f_t_foresight_rows7_letters : Nat → Int32) (i_t_foresight_rows6_count : Int32) (f_t_foresight_rows6_letters : Nat → Int32) (i_t_foresight_rows5_count : Int32) (f_t_foresight_rows5_letters : Nat → Int32) (i_t_foresight_rows4_count : Int32) (f_t_foresight_rows4_letters : Nat → Int32) (i_t_foresight_rows3_count : Int32) (f_t_foresight_rows3_letters : Nat → Int32) (i_t_foresight_rows2_count : Int32) (f_t_foresight_rows2_letters : Nat → Int32) (i_t_foresight_rows1_count : Int32) (f_t_foresight_rows1_letters : Nat → Int32) (p1 : Int32) (p2 : Int32) (p4 : Int32) : Option (Int32 × Int32 × Int32 × Int32 × (Nat → Int32) × Int32 × (Nat → Int32) × Int32 × (Nat → Int32) × Int32 × (Nat → Int32) × Int32 × (Nat → Int32) × Int32 × (Nat → Int32) × Int32 × (Nat → Int32) × Int32 × (Nat → Int32)) :=
  (f_X8_isHouse p2).bind fun r_1 =>
  if r_1 = 0 then
    some ((-1000000001), i_t_foresight_law, i_t_foresight_nonsense, i_t_foresight_stamp, f_t_foresight_memory, i_t_foresight_rows7_count, f_t_foresight_rows7_letters, i_t_foresight_rows6_count, f_t_foresight_rows6_letters, i_t_foresight_rows5_count, f_t_foresight_rows5_letters, i_t_foresight_rows4_count, f_t_foresight_rows4_letters, i_t_foresight_rows3_count, f_t_foresight_rows3_letters, i_t_foresight_rows2_count, f_t_foresight_rows2_letters, i_t_foresight_rows1_count, f_t_foresight_rows1_letters)
  else
    (f_X8_isLetter i_t_letters_size p1).bind fun r_4 =>
    if r_4 = 0 then
      some ((-1000000002), i_t_foresight_law, i_t_foresight_nonsense, i_t_foresight_stamp, f_t_foresight_memory, i_t_foresight_rows7_count, f_t_foresight_rows7_letters, i_t_foresight_rows6_count, f_t_foresight_rows6_letters, i_t_foresight_rows5_count, f_t_foresight_rows5_letters, i_t_foresight_rows4_count, f_t_foresight_rows4_letters, i_t_foresight_rows3_count, f_t_foresight_rows3_letters, i_t_foresight_rows2_count, f_t_foresight_rows2_letters, i_t_foresight_rows1_count, f_t_foresight_rows1_letters)
    else
      (f_X8_isMoves 7).bind fun r_7 =>
      if r_7 = 0 then
        some ((-1000000002), i_t_foresight_law, i_t_foresight_nonsense, i_t_foresight_stamp, f_t_foresight_memory, i_t_foresight_rows7_count, f_t_foresight_rows7_letters, i_t_foresight_rows6_count, f_t_foresight_rows6_letters, i_t_foresight_rows5_count, f_t_foresight_rows5_letters, i_t_foresight_rows4_count, f_t_foresight_rows4_letters, i_t_foresight_rows3_count, f_t_foresight_rows3_letters, i_t_foresight_rows2_count, f_t_foresight_rows2_letters, i_t_foresight_rows1_count, f_t_foresight_rows1_letters)
      else
        if p4 < 0 then
          some ((-1000000002), i_t_foresight_law, i_t_foresight_nonsense, i_t_foresight_stamp, f_t_foresight_memory, i_t_foresight_rows7_count, f_t_foresight_rows7_letters, i_t_foresight_rows6_count, f_t_foresight_rows6_letters, i_t_foresight_rows5_count, f_t_foresight_rows5_letters, i_t_foresight_rows4_count, f_t_foresight_rows4_letters, i_t_foresight_rows3_count, f_t_foresight_rows3_letters, i_t_foresight_rows2_count, f_t_foresight_rows2_letters, i_t_foresight_rows1_count, f_t_foresight_rows1_letters)
        else
          if p4 ≤ 4 then
            if i_t_now_way = 1 then
              (f_X8_stamp i_t_letters_tongues i_t_now_law i_t_now_way).bind fun r_58 =>
              (f_X1_useRules i_t_foresight_law i_t_foresight_nonsense i_t_foresight_stamp i_t_now_law 1 r_58).bind fun (z_60, z_61, z_62) =>
              if p4 = 4 then
                (f_X1_firstSent_s7 z_60 z_61 z_62 i_t_letters_size n_t_foresight_memory n_t_letters_worthToOther f_t_letters_worthToOther n_t_letters_worthToOne f_t_letters_worthToOne i_t_spoken_length i_t_spoken_words f_t_spoken_scales n_t_foresight_rows7_letters n_t_letters_sense f_t_letters_sense n_t_foresight_rows6_letters n_t_foresight_rows5_letters n_t_foresight_rows4_letters n_t_foresight_rows3_letters n_t_foresight_rows2_letters n_t_foresight_rows1_letters f_t_foresight_memory i_t_foresight_rows7_count f_t_foresight_rows7_letters i_t_foresight_rows6_count f_t_foresight_rows6_letters i_t_foresight_rows5_count f_t_foresight_rows5_letters i_t_foresight_rows4_count f_t_foresight_rows4_letters i_t_foresight_rows3_count f_t_foresight_rows3_letters i_t_foresight_rows2_count f_t_foresight_rows2_letters i_t_foresight_rows1_count f_t_foresight_rows1_letters p1 p2).bind fun (r_86, z_87, z_88, z_89, z_90, z_91, z_92, z_93, z_94, z_95, z_96, z_97, z_98, z_99, z_100, z_101) =>
                some (r_86, z_60, z_61, z_62, z_87, z_88, z_89, z_90, z_91, z_92, z_93, z_94, z_95, z_96, z_97, z_98, z_99, z_100, z_101)
              else
                (f_X1_look_s7 z_60 z_61 z_62 i_t_letters_size n_t_foresight_memory n_t_letters_worthToOther f_t_letters_worthToOther n_t_letters_worthToOne f_t_letters_worthToOne i_t_spoken_length i_t_spoken_words f_t_spoken_scales n_t_foresight_rows7_letters n_t_letters_sense f_t_letters_sense n_t_foresight_rows6_letters n_t_foresight_rows5_letters n_t_foresight_rows4_letters n_t_foresight_rows3_letters n_t_foresight_rows2_letters n_t_foresight_rows1_letters f_t_foresight_memory i_t_foresight_rows7_count f_t_foresight_rows7_letters i_t_foresight_rows6_count f_t_foresight_rows6_letters i_t_foresight_rows5_count f_t_foresight_rows5_letters i_t_foresight_rows4_count f_t_foresight_rows4_letters i_t_foresight_rows3_count f_t_foresight_rows3_letters i_t_foresight_rows2_count f_t_foresight_rows2_letters i_t_foresight_rows1_count f_t_foresight_rows1_letters p1 p2).bind fun (r_65, z_66, z_67, z_68, z_69, z_70, z_71, z_72, z_73, z_74, z_75, z_76, z_77, z_78, z_79, z_80) =>
                if p4 = 2 then
                  some ((r_65 - r_65 / 4096 * 4096), z_60, z_61, z_62, z_66, z_67, z_68, z_69, z_70, z_71, z_72, z_73, z_74, z_75, z_76, z_77, z_78, z_79, z_80)
                else
                  if p4 = 3 then
                    some ((r_65 / 4096), z_60, z_61, z_62, z_66, z_67, z_68, z_69, z_70, z_71, z_72, z_73, z_74, z_75, z_76, z_77, z_78, z_79, z_80)
                  else
                    (f_X3_worthTo i_t_letters_size n_t_letters_worthToOther f_t_letters_worthToOther n_t_letters_worthToOne f_t_letters_worthToOne p4 (r_65 - r_65 / 4096 * 4096)).bind fun r_84 =>
                    some (r_84, z_60, z_61, z_62, z_66, z_67, z_68, z_69, z_70, z_71, z_72, z_73, z_74, z_75, z_76, z_77, z_78, z_79, z_80)
            else
              (f_X8_stamp i_t_letters_tongues i_t_now_law i_t_now_way).bind fun r_13 =>
              (f_X1_useRules i_t_foresight_law i_t_foresight_nonsense i_t_foresight_stamp i_t_now_law 0 r_13).bind fun (z_15, z_16, z_17) =>
              if p4 = 4 then
                (f_X1_firstSent_s7 z_15 z_16 z_17 i_t_letters_size n_t_foresight_memory n_t_letters_worthToOther f_t_letters_worthToOther n_t_letters_worthToOne f_t_letters_worthToOne i_t_spoken_length i_t_spoken_words f_t_spoken_scales n_t_foresight_rows7_letters n_t_letters_sense f_t_letters_sense n_t_foresight_rows6_letters n_t_foresight_rows5_letters n_t_foresight_rows4_letters n_t_foresight_rows3_letters n_t_foresight_rows2_letters n_t_foresight_rows1_letters f_t_foresight_memory i_t_foresight_rows7_count f_t_foresight_rows7_letters i_t_foresight_rows6_count f_t_foresight_rows6_letters i_t_foresight_rows5_count f_t_foresight_rows5_letters i_t_foresight_rows4_count f_t_foresight_rows4_letters i_t_foresight_rows3_count f_t_foresight_rows3_letters i_t_foresight_rows2_count f_t_foresight_rows2_letters i_t_foresight_rows1_count f_t_foresight_rows1_letters p1 p2).bind fun (r_41, z_42, z_43, z_44, z_45, z_46, z_47, z_48, z_49, z_50, z_51, z_52, z_53, z_54, z_55, z_56) =>
                some (r_41, z_15, z_16, z_17, z_42, z_43, z_44, z_45, z_46, z_47, z_48, z_49, z_50, z_51, z_52, z_53, z_54, z_55, z_56)
              else
                (f_X1_look_s7 z_15 z_16 z_17 i_t_letters_size n_t_foresight_memory n_t_letters_worthToOther f_t_letters_worthToOther n_t_letters_worthToOne f_t_letters_worthToOne i_t_spoken_length i_t_spoken_words f_t_spoken_scales n_t_foresight_rows7_letters n_t_letters_sense f_t_letters_sense n_t_foresight_rows6_letters n_t_foresight_rows5_letters n_t_foresight_rows4_letters n_t_foresight_rows3_letters n_t_foresight_rows2_letters n_t_foresight_rows1_letters f_t_foresight_memory i_t_foresight_rows7_count f_t_foresight_rows7_letters i_t_foresight_rows6_count f_t_foresight_rows6_letters i_t_foresight_rows5_count f_t_foresight_rows5_letters i_t_foresight_rows4_count f_t_foresight_rows4_letters i_t_foresight_rows3_count f_t_foresight_rows3_letters i_t_foresight_rows2_count f_t_foresight_rows2_letters i_t_foresight_rows1_count f_t_foresight_rows1_letters p1 p2).bind fun (r_20, z_21, z_22, z_23, z_24, z_25, z_26, z_27, z_28, z_29, z_30, z_31, z_32, z_33, z_34, z_35) =>
                if p4 = 2 then
                  some ((r_20 - r_20 / 4096 * 4096), z_15, z_16, z_17, z_21, z_22, z_23, z_24, z_25, z_26, z_27, z_28, z_29, z_30, z_31, z_32, z_33, z_34, z_35)
                else
                  if p4 = 3 then
                    some ((r_20 / 4096), z_15, z_16, z_17, z_21, z_22, z_23, z_24, z_25, z_26, z_27, z_28, z_29, z_30, z_31, z_32, z_33, z_34, z_35)
                  else
                    (f_X3_worthTo i_t_letters_size n_t_letters_worthToOther f_t_letters_worthToOther n_t_letters_worthToOne f_t_letters_worthToOne p4 (r_20 - r_20 / 4096 * 4096)).bind fun r_39 =>
                    some (r_39, z_15, z_16, z_17, z_21, z_22, z_23, z_24, z_25, z_26, z_27, z_28, z_29, z_30, z_31, z_32, z_33, z_34, z_35)
          else
            some ((-1000000002), i_t_foresight_law, i_t_foresight_nonsense, i_t_foresight_stamp, f_t_foresight_memory, i_t_foresight_rows7_count, f_t_foresight_rows7_letters, i_t_foresight_rows6_count, f_t_foresight_rows6_letters, i_t_foresight_rows5_count, f_t_foresight_rows5_letters, i_t_foresight_rows4_count, f_t_foresight_rows4_letters, i_t_foresight_rows3_count, f_t_foresight_rows3_letters, i_t_foresight_rows2_count, f_t_foresight_rows2_letters, i_t_foresight_rows1_count, f_t_foresight_rows1_letters)
def f_X8_ahead_s8 (i_t_letters_tongues : Int32) (i_t_letters_size : Int32) (i_t_now_law : Int32) (i_t_now_way : Int32) (n_t_foresight_memory : Nat) (n_t_letters_worthToOther : Nat) (f_t_letters_worthToOther : Nat → Int32) (n_t_letters_worthToOne : Nat) (f_t_letters_worthToOne : Nat → Int32) (i_t_spoken_length : Int32) (i_t_spoken_words : Int32) (f_t_spoken_scales : Nat → Int32) (n_t_foresight_rows8_letters : Nat) (n_t_letters_sense : Nat) (f_t_letters_sense : Nat → Int32) (n_t_foresight_rows7_letters : Nat) (n_t_foresight_rows6_letters : Nat) (n_t_foresight_rows5_letters : Nat) (n_t_foresight_rows4_letters : Nat) (n_t_foresight_rows3_letters : Nat) (n_t_foresight_rows2_letters : Nat) (n_t_foresight_rows1_letters : Nat) (i_t_foresight_law : Int32) (i_t_foresight_nonsense : Int32) (i_t_foresight_stamp : Int32) (f_t_foresight_memory : Nat → Int32) (i_t_foresight_rows8_count : Int32) (f_t_foresight_rows8_letters : Nat → Int32) (i_t_foresight_rows7_count : Int32) (f_t_foresight_rows7_letters : Nat → Int32) (i_t_foresight_rows6_count : Int32) (f_t_foresight_rows6_letters : Nat → Int32) (i_t_foresight_rows5_count : Int32) (f_t_foresight_rows5_letters : Nat → Int32) (i_t_foresight_rows4_count : Int32) (f_t_foresight_rows4_letters : Nat → Int32) (i_t_foresight_rows3_count : Int32) (f_t_foresight_rows3_letters : Nat → Int32) (i_t_foresight_rows2_count : Int32) (f_t_foresight_rows2_letters : Nat → Int32) (i_t_foresight_rows1_count : Int32) (f_t_foresight_rows1_letters : Nat → Int32) (p1 : Int32) (p2 : Int32) (p4 : Int32) : Option (Int32 × Int32 × Int32 × Int32 × (Nat → Int32) × Int32 × (Nat → Int32) × Int32 × (Nat → Int32) × Int32 × (Nat → Int32) × Int32 × (Nat → Int32) × Int32 × (Nat → Int32) × Int32 × (Nat → Int32) × Int32 × (Nat → Int32) × Int32 × (Nat → Int32)) :=
  (f_X8_isHouse p2).bind fun r_1 =>
  if r_1 = 0 then
    some ((-1000000001), i_t_foresight_law, i_t_foresight_nonsense, i_t_foresight_stamp, f_t_foresight_memory, i_t_foresight_rows8_count, f_t_foresight_rows8_letters, i_t_foresight_rows7_count, f_t_foresight_rows7_letters, i_t_foresight_rows6_count, f_t_foresight_rows6_letters, i_t_foresight_rows5_count, f_t_foresight_rows5_letters, i_t_foresight_rows4_count, f_t_foresight_rows4_letters, i_t_foresight_rows3_count, f_t_foresight_rows3_letters, i_t_foresight_rows2_count, f_t_foresight_rows2_letters, i_t_foresight_rows1_count, f_t_foresight_rows1_letters)
  else
    (f_X8_isLetter i_t_letters_size p1).bind fun r_4 =>
    if r_4 = 0 then
      some ((-1000000002), i_t_foresight_law, i_t_foresight_nonsense, i_t_foresight_stamp, f_t_foresight_memory, i_t_foresight_rows8_count, f_t_foresight_rows8_letters, i_t_foresight_rows7_count, f_t_foresight_rows7_letters, i_t_foresight_rows6_count, f_t_foresight_rows6_letters, i_t_foresight_rows5_count, f_t_foresight_rows5_letters, i_t_foresight_rows4_count, f_t_foresight_rows4_letters, i_t_foresight_rows3_count, f_t_foresight_rows3_letters, i_t_foresight_rows2_count, f_t_foresight_rows2_letters, i_t_foresight_rows1_count, f_t_foresight_rows1_letters)
    else
      (f_X8_isMoves 8).bind fun r_7 =>
      if r_7 = 0 then
        some ((-1000000002), i_t_foresight_law, i_t_foresight_nonsense, i_t_foresight_stamp, f_t_foresight_memory, i_t_foresight_rows8_count, f_t_foresight_rows8_letters, i_t_foresight_rows7_count, f_t_foresight_rows7_letters, i_t_foresight_rows6_count, f_t_foresight_rows6_letters, i_t_foresight_rows5_count, f_t_foresight_rows5_letters, i_t_foresight_rows4_count, f_t_foresight_rows4_letters, i_t_foresight_rows3_count, f_t_foresight_rows3_letters, i_t_foresight_rows2_count, f_t_foresight_rows2_letters, i_t_foresight_rows1_count, f_t_foresight_rows1_letters)
      else
        if p4 < 0 then
          some ((-1000000002), i_t_foresight_law, i_t_foresight_nonsense, i_t_foresight_stamp, f_t_foresight_memory, i_t_foresight_rows8_count, f_t_foresight_rows8_letters, i_t_foresight_rows7_count, f_t_foresight_rows7_letters, i_t_foresight_rows6_count, f_t_foresight_rows6_letters, i_t_foresight_rows5_count, f_t_foresight_rows5_letters, i_t_foresight_rows4_count, f_t_foresight_rows4_letters, i_t_foresight_rows3_count, f_t_foresight_rows3_letters, i_t_foresight_rows2_count, f_t_foresight_rows2_letters, i_t_foresight_rows1_count, f_t_foresight_rows1_letters)
        else
          if p4 ≤ 4 then
            if i_t_now_way = 1 then
              (f_X8_stamp i_t_letters_tongues i_t_now_law i_t_now_way).bind fun r_62 =>
              (f_X1_useRules i_t_foresight_law i_t_foresight_nonsense i_t_foresight_stamp i_t_now_law 1 r_62).bind fun (z_64, z_65, z_66) =>
              if p4 = 4 then
                (f_X1_firstSent_s8 z_64 z_65 z_66 i_t_letters_size n_t_foresight_memory n_t_letters_worthToOther f_t_letters_worthToOther n_t_letters_worthToOne f_t_letters_worthToOne i_t_spoken_length i_t_spoken_words f_t_spoken_scales n_t_foresight_rows8_letters n_t_letters_sense f_t_letters_sense n_t_foresight_rows7_letters n_t_foresight_rows6_letters n_t_foresight_rows5_letters n_t_foresight_rows4_letters n_t_foresight_rows3_letters n_t_foresight_rows2_letters n_t_foresight_rows1_letters f_t_foresight_memory i_t_foresight_rows8_count f_t_foresight_rows8_letters i_t_foresight_rows7_count f_t_foresight_rows7_letters i_t_foresight_rows6_count f_t_foresight_rows6_letters i_t_foresight_rows5_count f_t_foresight_rows5_letters i_t_foresight_rows4_count f_t_foresight_rows4_letters i_t_foresight_rows3_count f_t_foresight_rows3_letters i_t_foresight_rows2_count f_t_foresight_rows2_letters i_t_foresight_rows1_count f_t_foresight_rows1_letters p1 p2).bind fun (r_92, z_93, z_94, z_95, z_96, z_97, z_98, z_99, z_100, z_101, z_102, z_103, z_104, z_105, z_106, z_107, z_108, z_109) =>
                some (r_92, z_64, z_65, z_66, z_93, z_94, z_95, z_96, z_97, z_98, z_99, z_100, z_101, z_102, z_103, z_104, z_105, z_106, z_107, z_108, z_109)
              else
                (f_X1_look_s8 z_64 z_65 z_66 i_t_letters_size n_t_foresight_memory n_t_letters_worthToOther f_t_letters_worthToOther n_t_letters_worthToOne f_t_letters_worthToOne i_t_spoken_length i_t_spoken_words f_t_spoken_scales n_t_foresight_rows8_letters n_t_letters_sense f_t_letters_sense n_t_foresight_rows7_letters n_t_foresight_rows6_letters n_t_foresight_rows5_letters n_t_foresight_rows4_letters n_t_foresight_rows3_letters n_t_foresight_rows2_letters n_t_foresight_rows1_letters f_t_foresight_memory i_t_foresight_rows8_count f_t_foresight_rows8_letters i_t_foresight_rows7_count f_t_foresight_rows7_letters i_t_foresight_rows6_count f_t_foresight_rows6_letters i_t_foresight_rows5_count f_t_foresight_rows5_letters i_t_foresight_rows4_count f_t_foresight_rows4_letters i_t_foresight_rows3_count f_t_foresight_rows3_letters i_t_foresight_rows2_count f_t_foresight_rows2_letters i_t_foresight_rows1_count f_t_foresight_rows1_letters p1 p2).bind fun (r_69, z_70, z_71, z_72, z_73, z_74, z_75, z_76, z_77, z_78, z_79, z_80, z_81, z_82, z_83, z_84, z_85, z_86) =>
                if p4 = 2 then
                  some ((r_69 - r_69 / 4096 * 4096), z_64, z_65, z_66, z_70, z_71, z_72, z_73, z_74, z_75, z_76, z_77, z_78, z_79, z_80, z_81, z_82, z_83, z_84, z_85, z_86)
                else
                  if p4 = 3 then
                    some ((r_69 / 4096), z_64, z_65, z_66, z_70, z_71, z_72, z_73, z_74, z_75, z_76, z_77, z_78, z_79, z_80, z_81, z_82, z_83, z_84, z_85, z_86)
                  else
                    (f_X3_worthTo i_t_letters_size n_t_letters_worthToOther f_t_letters_worthToOther n_t_letters_worthToOne f_t_letters_worthToOne p4 (r_69 - r_69 / 4096 * 4096)).bind fun r_90 =>
                    some (r_90, z_64, z_65, z_66, z_70, z_71, z_72, z_73, z_74, z_75, z_76, z_77, z_78, z_79, z_80, z_81, z_82, z_83, z_84, z_85, z_86)
            else
              (f_X8_stamp i_t_letters_tongues i_t_now_law i_t_now_way).bind fun r_13 =>
              (f_X1_useRules i_t_foresight_law i_t_foresight_nonsense i_t_foresight_stamp i_t_now_law 0 r_13).bind fun (z_15, z_16, z_17) =>
              if p4 = 4 then
                (f_X1_firstSent_s8 z_15 z_16 z_17 i_t_letters_size n_t_foresight_memory n_t_letters_worthToOther f_t_letters_worthToOther n_t_letters_worthToOne f_t_letters_worthToOne i_t_spoken_length i_t_spoken_words f_t_spoken_scales n_t_foresight_rows8_letters n_t_letters_sense f_t_letters_sense n_t_foresight_rows7_letters n_t_foresight_rows6_letters n_t_foresight_rows5_letters n_t_foresight_rows4_letters n_t_foresight_rows3_letters n_t_foresight_rows2_letters n_t_foresight_rows1_letters f_t_foresight_memory i_t_foresight_rows8_count f_t_foresight_rows8_letters i_t_foresight_rows7_count f_t_foresight_rows7_letters i_t_foresight_rows6_count f_t_foresight_rows6_letters i_t_foresight_rows5_count f_t_foresight_rows5_letters i_t_foresight_rows4_count f_t_foresight_rows4_letters i_t_foresight_rows3_count f_t_foresight_rows3_letters i_t_foresight_rows2_count f_t_foresight_rows2_letters i_t_foresight_rows1_count f_t_foresight_rows1_letters p1 p2).bind fun (r_43, z_44, z_45, z_46, z_47, z_48, z_49, z_50, z_51, z_52, z_53, z_54, z_55, z_56, z_57, z_58, z_59, z_60) =>
                some (r_43, z_15, z_16, z_17, z_44, z_45, z_46, z_47, z_48, z_49, z_50, z_51, z_52, z_53, z_54, z_55, z_56, z_57, z_58, z_59, z_60)
              else
                (f_X1_look_s8 z_15 z_16 z_17 i_t_letters_size n_t_foresight_memory n_t_letters_worthToOther f_t_letters_worthToOther n_t_letters_worthToOne f_t_letters_worthToOne i_t_spoken_length i_t_spoken_words f_t_spoken_scales n_t_foresight_rows8_letters n_t_letters_sense f_t_letters_sense n_t_foresight_rows7_letters n_t_foresight_rows6_letters n_t_foresight_rows5_letters n_t_foresight_rows4_letters n_t_foresight_rows3_letters n_t_foresight_rows2_letters n_t_foresight_rows1_letters f_t_foresight_memory i_t_foresight_rows8_count f_t_foresight_rows8_letters i_t_foresight_rows7_count f_t_foresight_rows7_letters i_t_foresight_rows6_count f_t_foresight_rows6_letters i_t_foresight_rows5_count f_t_foresight_rows5_letters i_t_foresight_rows4_count f_t_foresight_rows4_letters i_t_foresight_rows3_count f_t_foresight_rows3_letters i_t_foresight_rows2_count f_t_foresight_rows2_letters i_t_foresight_rows1_count f_t_foresight_rows1_letters p1 p2).bind fun (r_20, z_21, z_22, z_23, z_24, z_25, z_26, z_27, z_28, z_29, z_30, z_31, z_32, z_33, z_34, z_35, z_36, z_37) =>
                if p4 = 2 then
                  some ((r_20 - r_20 / 4096 * 4096), z_15, z_16, z_17, z_21, z_22, z_23, z_24, z_25, z_26, z_27, z_28, z_29, z_30, z_31, z_32, z_33, z_34, z_35, z_36, z_37)
                else
                  if p4 = 3 then
                    some ((r_20 / 4096), z_15, z_16, z_17, z_21, z_22, z_23, z_24, z_25, z_26, z_27, z_28, z_29, z_30, z_31, z_32, z_33, z_34, z_35, z_36, z_37)
                  else
                    (f_X3_worthTo i_t_letters_size n_t_letters_worthToOther f_t_letters_worthToOther n_t_letters_worthToOne f_t_letters_worthToOne p4 (r_20 - r_20 / 4096 * 4096)).bind fun r_41 =>
                    some (r_41, z_15, z_16, z_17, z_21, z_22, z_23, z_24, z_25, z_26, z_27, z_28, z_29, z_30, z_31, z_32, z_33, z_34, z_35, z_36, z_37)
          else
            some ((-1000000002), i_t_foresight_law, i_t_foresight_nonsense, i_t_foresight_stamp, f_t_foresight_memory, i_t_foresight_rows8_count, f_t_foresight_rows8_letters, i_t_foresight_rows7_count, f_t_foresight_rows7_letters, i_t_foresight_rows6_count, f_t_foresight_rows6_letters, i_t_foresight_rows5_count, f_t_foresight_rows5_letters, i_t_foresight_rows4_count, f_t_foresight_rows4_letters, i_t_foresight_rows3_count, f_t_foresight_rows3_letters, i_t_foresight_rows2_count, f_t_foresight_rows2_letters, i_t_foresight_rows1_count, f_t_foresight_rows1_letters)
