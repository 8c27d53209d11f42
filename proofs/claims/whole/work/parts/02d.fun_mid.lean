def f_X1_useRules (i_t_law : Int32) (i_t_nonsense : Int32) (i_t_stamp : Int32) (p1 : Int32) (p2 : Int32) (p3 : Int32) : Option (Int32 × Int32 × Int32) :=
  if zb p2 = true then
  some (p1, p2, (p3 &&& 65535))
  else none
def f_X1_look_s0 (p1 : Int32) (p2 : Int32) : Option (Int32) :=
  some p1
def f_X3_worthTo (i_t_size : Int32) (n_t_worthToOther : Nat) (f_t_worthToOther : Nat → Int32) (n_t_worthToOne : Nat) (f_t_worthToOne : Nat → Int32) (p1 : Int32) (p2 : Int32) : Option (Int32) :=
  if p2 < 0 then
    some 0
  else
    if p2 < i_t_size then
      if p1 = 0 then
        if ixb p2 n_t_worthToOne = true then
        some (f_t_worthToOne (p2 : Int32).toNatClampNeg)
        else none
      else
        if ixb p2 n_t_worthToOther = true then
        some (f_t_worthToOther (p2 : Int32).toNatClampNeg)
        else none
    else
      some 0
def f_X3_isSense (i_t_size : Int32) (n_t_sense : Nat) (f_t_sense : Nat → Int32) (p1 : Int32) : Option (Int32) :=
  if p1 < 0 then
    some 0
  else
    if i_t_size ≤ p1 then
      some 0
    else
      if ixb p1 n_t_sense = true then
      if (f_t_sense (p1 : Int32).toNatClampNeg) = 1 then
        some 1
      else
        some 0
      else none
def f_X3_listTurnsAbout_L3 (i_t_size : Int32) (i_t_tongue_length : Int32) (i_t_tongue_words : Int32) (f_t_tongue_scales : Nat → Int32) (n_p3_letters : Nat) (n_t_sense : Nat) (f_t_sense : Nat → Int32) : Nat → Int32 → Int32 → Int32 → Int32 → (Nat → Int32) → Option (Int32 × (Nat → Int32))
  | 0, _, _, _, _, _ => none
  | n + 1, v1, v2, v4, i_p3_count, f_p3_letters =>
    if i_t_tongue_length ≤ (v4 + 1) then
      some (i_p3_count, f_p3_letters)
    else
      (f_X7_wordAt i_t_tongue_length i_t_tongue_words f_t_tongue_scales v1 (v4 + 1)).bind fun r_2 =>
      (f_X7_wordAt i_t_tongue_length i_t_tongue_words f_t_tongue_scales v1 v4).bind fun r_4 =>
      if ixb v4 5 = true then
      if ixb (v4 + 1) 5 = true then
      if (r_2 - r_4) = 0 then
        f_X3_listTurnsAbout_L3 i_t_size i_t_tongue_length i_t_tongue_words f_t_tongue_scales n_p3_letters n_t_sense f_t_sense n v1 v2 (v4 + 1) i_p3_count f_p3_letters
      else
        if v2 = 0 then
          (f_X3_isSense i_t_size n_t_sense f_t_sense (v1 + ((r_2 - r_4) * ((f_t_tongue_scales (v4 : Int32).toNatClampNeg) - (f_t_tongue_scales ((v4 + 1) : Int32).toNatClampNeg))))).bind fun r_13 =>
          if r_13 = 0 then
            f_X3_listTurnsAbout_L3 i_t_size i_t_tongue_length i_t_tongue_words f_t_tongue_scales n_p3_letters n_t_sense f_t_sense n v1 v2 (v4 + 1) i_p3_count f_p3_letters
          else
            (f_X6_add n_p3_letters i_p3_count f_p3_letters (v1 + ((r_2 - r_4) * ((f_t_tongue_scales (v4 : Int32).toNatClampNeg) - (f_t_tongue_scales ((v4 + 1) : Int32).toNatClampNeg))))).bind fun (z_16, z_17) =>
            f_X3_listTurnsAbout_L3 i_t_size i_t_tongue_length i_t_tongue_words f_t_tongue_scales n_p3_letters n_t_sense f_t_sense n v1 v2 (v4 + 1) z_16 z_17
        else
          (f_X6_add n_p3_letters i_p3_count f_p3_letters (v1 + ((r_2 - r_4) * ((f_t_tongue_scales (v4 : Int32).toNatClampNeg) - (f_t_tongue_scales ((v4 + 1) : Int32).toNatClampNeg))))).bind fun (z_10, z_11) =>
          f_X3_listTurnsAbout_L3 i_t_size i_t_tongue_length i_t_tongue_words f_t_tongue_scales n_p3_letters n_t_sense f_t_sense n v1 v2 (v4 + 1) z_10 z_11
      else none
      else none
def f_X3_listTurnsAbout (i_t_size : Int32) (i_t_tongue_length : Int32) (i_t_tongue_words : Int32) (f_t_tongue_scales : Nat → Int32) (n_p3_letters : Nat) (n_t_sense : Nat) (f_t_sense : Nat → Int32) (i_p3_count : Int32) (f_p3_letters : Nat → Int32) (p1 : Int32) (p2 : Int32) : Option (Int32 × (Nat → Int32)) :=
  f_X3_listTurnsAbout_L3 i_t_size i_t_tongue_length i_t_tongue_words f_t_tongue_scales n_p3_letters n_t_sense f_t_sense FU p1 p2 0 i_p3_count f_p3_letters
def f_X3_listOtherWords_L42 (i_t_size : Int32) (i_t_tongue_length : Int32) (i_t_tongue_words : Int32) (f_t_tongue_scales : Nat → Int32) (n_p3_letters : Nat) (n_t_sense : Nat) (f_t_sense : Nat → Int32) (K0 : Int32 → Int32 → Int32 → Int32 → (Nat → Int32) → Option (Int32 × (Nat → Int32))) : Nat → Int32 → Int32 → Int32 → Int32 → Int32 → Int32 → Int32 → (Nat → Int32) → Option (Int32 × (Nat → Int32))
  | 0, _, _, _, _, _, _, _, _ => none
  | n + 1, v1, v2, v4, v5, v6, v7, i_p3_count, f_p3_letters =>
    if i_t_tongue_words ≤ v7 then
      K0 v1 v2 v4 i_p3_count f_p3_letters
    else
      if v7 = v6 then
        f_X3_listOtherWords_L42 i_t_size i_t_tongue_length i_t_tongue_words f_t_tongue_scales n_p3_letters n_t_sense f_t_sense K0 n v1 v2 v4 v5 v6 (v7 + 1) i_p3_count f_p3_letters
      else
        if v2 = 0 then
          (f_X3_isSense i_t_size n_t_sense f_t_sense (v1 + ((v7 - v6) * v5))).bind fun r_11 =>
          if r_11 = 0 then
            f_X3_listOtherWords_L42 i_t_size i_t_tongue_length i_t_tongue_words f_t_tongue_scales n_p3_letters n_t_sense f_t_sense K0 n v1 v2 v4 v5 v6 (v7 + 1) i_p3_count f_p3_letters
          else
            (f_X6_add n_p3_letters i_p3_count f_p3_letters (v1 + ((v7 - v6) * v5))).bind fun (z_14, z_15) =>
            f_X3_listOtherWords_L42 i_t_size i_t_tongue_length i_t_tongue_words f_t_tongue_scales n_p3_letters n_t_sense f_t_sense K0 n v1 v2 v4 v5 v6 (v7 + 1) z_14 z_15
        else
          (f_X6_add n_p3_letters i_p3_count f_p3_letters (v1 + ((v7 - v6) * v5))).bind fun (z_8, z_9) =>
          f_X3_listOtherWords_L42 i_t_size i_t_tongue_length i_t_tongue_words f_t_tongue_scales n_p3_letters n_t_sense f_t_sense K0 n v1 v2 v4 v5 v6 (v7 + 1) z_8 z_9
def f_X3_listOtherWords_L3 (i_t_size : Int32) (i_t_tongue_length : Int32) (i_t_tongue_words : Int32) (f_t_tongue_scales : Nat → Int32) (n_p3_letters : Nat) (n_t_sense : Nat) (f_t_sense : Nat → Int32) : Nat → Int32 → Int32 → Int32 → Int32 → (Nat → Int32) → Option (Int32 × (Nat → Int32))
  | 0, _, _, _, _, _ => none
  | n + 1, v1, v2, v4, i_p3_count, f_p3_letters =>
    if i_t_tongue_length ≤ v4 then
      some (i_p3_count, f_p3_letters)
    else
      if ixb v4 5 = true then
      (f_X7_wordAt i_t_tongue_length i_t_tongue_words f_t_tongue_scales v1 v4).bind fun r_3 =>
      f_X3_listOtherWords_L42 i_t_size i_t_tongue_length i_t_tongue_words f_t_tongue_scales n_p3_letters n_t_sense f_t_sense (fun (v1_17 : Int32) (v2_18 : Int32) (v4_19 : Int32) (z_20 : Int32) (z_21 : Nat → Int32) =>
        f_X3_listOtherWords_L3 i_t_size i_t_tongue_length i_t_tongue_words f_t_tongue_scales n_p3_letters n_t_sense f_t_sense n v1_17 v2_18 (v4_19 + 1) z_20 z_21) FU v1 v2 v4 (f_t_tongue_scales (v4 : Int32).toNatClampNeg) r_3 0 i_p3_count f_p3_letters
      else none
def f_X3_listOtherWords (i_t_size : Int32) (i_t_tongue_length : Int32) (i_t_tongue_words : Int32) (f_t_tongue_scales : Nat → Int32) (n_p3_letters : Nat) (n_t_sense : Nat) (f_t_sense : Nat → Int32) (i_p3_count : Int32) (f_p3_letters : Nat → Int32) (p1 : Int32) (p2 : Int32) : Option (Int32 × (Nat → Int32)) :=
  f_X3_listOtherWords_L3 i_t_size i_t_tongue_length i_t_tongue_words f_t_tongue_scales n_p3_letters n_t_sense f_t_sense FU p1 p2 0 i_p3_count f_p3_letters
def f_X3_listChanges (i_t_size : Int32) (i_t_tongue_length : Int32) (i_t_tongue_words : Int32) (f_t_tongue_scales : Nat → Int32) (n_p4_letters : Nat) (n_t_sense : Nat) (f_t_sense : Nat → Int32) (i_p4_count : Int32) (f_p4_letters : Nat → Int32) (p1 : Int32) (p2 : Int32) (p3 : Int32) : Option (Int32 × (Nat → Int32)) :=
  (f_X6_empty i_p4_count).bind fun z_1 =>
  if p2 = 1 then
    if p2 = 0 then
      some (z_1, f_p4_letters)
    else
      (f_X3_listTurnsAbout i_t_size i_t_tongue_length i_t_tongue_words f_t_tongue_scales n_p4_letters n_t_sense f_t_sense z_1 f_p4_letters p1 p3).bind fun (z_5, z_6) =>
      some (z_5, z_6)
  else
    (f_X3_listOtherWords i_t_size i_t_tongue_length i_t_tongue_words f_t_tongue_scales n_p4_letters n_t_sense f_t_sense z_1 f_p4_letters p1 p3).bind fun (z_8, z_9) =>
    if p2 = 0 then
      some (z_8, z_9)
    else
      (f_X3_listTurnsAbout i_t_size i_t_tongue_length i_t_tongue_words f_t_tongue_scales n_p4_letters n_t_sense f_t_sense z_8 z_9 p1 p3).bind fun (z_12, z_13) =>
      some (z_12, z_13)
def f_X1_look_s1_L119 (i_t_law : Int32) (i_t_nonsense : Int32) (i_t_stamp : Int32) (i_t_letters_size : Int32) (n_t_memory : Nat) (n_t_letters_worthToOther : Nat) (f_t_letters_worthToOther : Nat → Int32) (n_t_letters_worthToOne : Nat) (f_t_letters_worthToOne : Nat → Int32) (i_t_letters_tongue_length : Int32) (i_t_letters_tongue_words : Int32) (f_t_letters_tongue_scales : Nat → Int32) (n_t_rows1_letters : Nat) (n_t_letters_sense : Nat) (f_t_letters_sense : Nat → Int32) : Nat → Int32 → Int32 → Int32 → Int32 → Int32 → (Nat → Int32) → Int32 → (Nat → Int32) → Option (Int32 × (Nat → Int32) × Int32 × (Nat → Int32))
  | 0, _, _, _, _, _, _, _, _ => none
  | n + 1, v2, v4, v5, v6, v8, f_t_memory, i_t_rows1_count, f_t_rows1_letters =>
    if i_t_rows1_count ≤ v8 then
      if ixb v4 n_t_memory = true then
      some (v5, (upd f_t_memory (v4 : Int32).toNatClampNeg ((i_t_stamp <<< (16 &&& 31)) ||| v5)), i_t_rows1_count, f_t_rows1_letters)
      else none
    else
      (f_X6_get i_t_rows1_count n_t_rows1_letters f_t_rows1_letters v8).bind fun r_14 =>
      (f_X1_look_s0 r_14 (1 - v2)).bind fun r_16 =>
      (f_X3_worthTo i_t_letters_size n_t_letters_worthToOther f_t_letters_worthToOther n_t_letters_worthToOne f_t_letters_worthToOne v2 (r_16 - r_16 / 4096 * 4096)).bind fun r_18 =>
      if r_18 ≤ v6 then
        f_X1_look_s1_L119 i_t_law i_t_nonsense i_t_stamp i_t_letters_size n_t_memory n_t_letters_worthToOther f_t_letters_worthToOther n_t_letters_worthToOne f_t_letters_worthToOne i_t_letters_tongue_length i_t_letters_tongue_words f_t_letters_tongue_scales n_t_rows1_letters n_t_letters_sense f_t_letters_sense n v2 v4 v5 v6 (v8 + 1) f_t_memory i_t_rows1_count f_t_rows1_letters
      else
        f_X1_look_s1_L119 i_t_law i_t_nonsense i_t_stamp i_t_letters_size n_t_memory n_t_letters_worthToOther f_t_letters_worthToOther n_t_letters_worthToOne f_t_letters_worthToOne i_t_letters_tongue_length i_t_letters_tongue_words f_t_letters_tongue_scales n_t_rows1_letters n_t_letters_sense f_t_letters_sense n v2 v4 (r_16 + 4096) r_18 (v8 + 1) f_t_memory i_t_rows1_count f_t_rows1_letters
def f_X1_look_s1 (i_t_law : Int32) (i_t_nonsense : Int32) (i_t_stamp : Int32) (i_t_letters_size : Int32) (n_t_memory : Nat) (n_t_letters_worthToOther : Nat) (f_t_letters_worthToOther : Nat → Int32) (n_t_letters_worthToOne : Nat) (f_t_letters_worthToOne : Nat → Int32) (i_t_letters_tongue_length : Int32) (i_t_letters_tongue_words : Int32) (f_t_letters_tongue_scales : Nat → Int32) (n_t_rows1_letters : Nat) (n_t_letters_sense : Nat) (f_t_letters_sense : Nat → Int32) (f_t_memory : Nat → Int32) (i_t_rows1_count : Int32) (f_t_rows1_letters : Nat → Int32) (p1 : Int32) (p2 : Int32) : Option (Int32 × (Nat → Int32) × Int32 × (Nat → Int32)) :=
  if (((((1 - 1) * 2) + p2) * i_t_letters_size) + p1) < 0 then
    some (p1, f_t_memory, i_t_rows1_count, f_t_rows1_letters)
  else
    if (((((1 - 1) * 2) + p2) * i_t_letters_size) + p1) < (nI n_t_memory) then
      if ixb (((((1 - 1) * 2) + p2) * i_t_letters_size) + p1) n_t_memory = true then
      if (((f_t_memory ((((((1 - 1) * 2) + p2) * i_t_letters_size) + p1) : Int32).toNatClampNeg).toUInt32 >>> ((16 : Int32).toUInt32 &&& Int32.toUInt32 31)).toInt32) = i_t_stamp then
        if ixb (((((1 - 1) * 2) + p2) * i_t_letters_size) + p1) n_t_memory = true then
        some (((f_t_memory ((((((1 - 1) * 2) + p2) * i_t_letters_size) + p1) : Int32).toNatClampNeg) &&& 65535), f_t_memory, i_t_rows1_count, f_t_rows1_letters)
        else none
      else
        (f_X3_worthTo i_t_letters_size n_t_letters_worthToOther f_t_letters_worthToOther n_t_letters_worthToOne f_t_letters_worthToOne p2 p1).bind fun r_7 =>
        (f_X3_listChanges i_t_letters_size i_t_letters_tongue_length i_t_letters_tongue_words f_t_letters_tongue_scales n_t_rows1_letters n_t_letters_sense f_t_letters_sense i_t_rows1_count f_t_rows1_letters p1 i_t_law i_t_nonsense).bind fun (z_9, z_10) =>
        f_X1_look_s1_L119 i_t_law i_t_nonsense i_t_stamp i_t_letters_size n_t_memory n_t_letters_worthToOther f_t_letters_worthToOther n_t_letters_worthToOne f_t_letters_worthToOne i_t_letters_tongue_length i_t_letters_tongue_words f_t_letters_tongue_scales n_t_rows1_letters n_t_letters_sense f_t_letters_sense FU p2 (((((1 - 1) * 2) + p2) * i_t_letters_size) + p1) p1 r_7 0 f_t_memory z_9 z_10
      else none
    else
      some (p1, f_t_memory, i_t_rows1_count, f_t_rows1_letters)
def f_X1_look_s2_L119 (i_t_law : Int32) (i_t_nonsense : Int32) (i_t_stamp : Int32) (i_t_letters_size : Int32) (n_t_memory : Nat) (n_t_letters_worthToOther : Nat) (f_t_letters_worthToOther : Nat → Int32) (n_t_letters_worthToOne : Nat) (f_t_letters_worthToOne : Nat → Int32) (i_t_letters_tongue_length : Int32) (i_t_letters_tongue_words : Int32) (f_t_letters_tongue_scales : Nat → Int32) (n_t_rows2_letters : Nat) (n_t_letters_sense : Nat) (f_t_letters_sense : Nat → Int32) (n_t_rows1_letters : Nat) : Nat → Int32 → Int32 → Int32 → Int32 → Int32 → (Nat → Int32) → Int32 → (Nat → Int32) → Int32 → (Nat → Int32) → Option (Int32 × (Nat → Int32) × Int32 × (Nat → Int32) × Int32 × (Nat → Int32))
  | 0, _, _, _, _, _, _, _, _, _, _ => none
  | n + 1, v2, v4, v5, v6, v8, f_t_memory, i_t_rows2_count, f_t_rows2_letters, i_t_rows1_count, f_t_rows1_letters =>
    if i_t_rows2_count ≤ v8 then
      if ixb v4 n_t_memory = true then
      some (v5, (upd f_t_memory (v4 : Int32).toNatClampNeg ((i_t_stamp <<< (16 &&& 31)) ||| v5)), i_t_rows2_count, f_t_rows2_letters, i_t_rows1_count, f_t_rows1_letters)
      else none
    else
      (f_X6_get i_t_rows2_count n_t_rows2_letters f_t_rows2_letters v8).bind fun r_14 =>
      (f_X1_look_s1 i_t_law i_t_nonsense i_t_stamp i_t_letters_size n_t_memory n_t_letters_worthToOther f_t_letters_worthToOther n_t_letters_worthToOne f_t_letters_worthToOne i_t_letters_tongue_length i_t_letters_tongue_words f_t_letters_tongue_scales n_t_rows1_letters n_t_letters_sense f_t_letters_sense f_t_memory i_t_rows1_count f_t_rows1_letters r_14 (1 - v2)).bind fun (r_16, z_17, z_18, z_19) =>
      (f_X3_worthTo i_t_letters_size n_t_letters_worthToOther f_t_letters_worthToOther n_t_letters_worthToOne f_t_letters_worthToOne v2 (r_16 - r_16 / 4096 * 4096)).bind fun r_21 =>
      if r_21 ≤ v6 then
        f_X1_look_s2_L119 i_t_law i_t_nonsense i_t_stamp i_t_letters_size n_t_memory n_t_letters_worthToOther f_t_letters_worthToOther n_t_letters_worthToOne f_t_letters_worthToOne i_t_letters_tongue_length i_t_letters_tongue_words f_t_letters_tongue_scales n_t_rows2_letters n_t_letters_sense f_t_letters_sense n_t_rows1_letters n v2 v4 v5 v6 (v8 + 1) z_17 i_t_rows2_count f_t_rows2_letters z_18 z_19
      else
        f_X1_look_s2_L119 i_t_law i_t_nonsense i_t_stamp i_t_letters_size n_t_memory n_t_letters_worthToOther f_t_letters_worthToOther n_t_letters_worthToOne f_t_letters_worthToOne i_t_letters_tongue_length i_t_letters_tongue_words f_t_letters_tongue_scales n_t_rows2_letters n_t_letters_sense f_t_letters_sense n_t_rows1_letters n v2 v4 (r_16 + 4096) r_21 (v8 + 1) z_17 i_t_rows2_count f_t_rows2_letters z_18 z_19
def f_X1_look_s2 (i_t_law : Int32) (i_t_nonsense : Int32) (i_t_stamp : Int32) (i_t_letters_size : Int32) (n_t_memory : Nat) (n_t_letters_worthToOther : Nat) (f_t_letters_worthToOther : Nat → Int32) (n_t_letters_worthToOne : Nat) (f_t_letters_worthToOne : Nat → Int32) (i_t_letters_tongue_length : Int32) (i_t_letters_tongue_words : Int32) (f_t_letters_tongue_scales : Nat → Int32) (n_t_rows2_letters : Nat) (n_t_letters_sense : Nat) (f_t_letters_sense : Nat → Int32) (n_t_rows1_letters : Nat) (f_t_memory : Nat → Int32) (i_t_rows2_count : Int32) (f_t_rows2_letters : Nat → Int32) (i_t_rows1_count : Int32) (f_t_rows1_letters : Nat → Int32) (p1 : Int32) (p2 : Int32) : Option (Int32 × (Nat → Int32) × Int32 × (Nat → Int32) × Int32 × (Nat → Int32)) :=
  if (((((2 - 1) * 2) + p2) * i_t_letters_size) + p1) < 0 then
    some (p1, f_t_memory, i_t_rows2_count, f_t_rows2_letters, i_t_rows1_count, f_t_rows1_letters)
  else
    if (((((2 - 1) * 2) + p2) * i_t_letters_size) + p1) < (nI n_t_memory) then
      if ixb (((((2 - 1) * 2) + p2) * i_t_letters_size) + p1) n_t_memory = true then
      if (((f_t_memory ((((((2 - 1) * 2) + p2) * i_t_letters_size) + p1) : Int32).toNatClampNeg).toUInt32 >>> ((16 : Int32).toUInt32 &&& Int32.toUInt32 31)).toInt32) = i_t_stamp then
        if ixb (((((2 - 1) * 2) + p2) * i_t_letters_size) + p1) n_t_memory = true then
        some (((f_t_memory ((((((2 - 1) * 2) + p2) * i_t_letters_size) + p1) : Int32).toNatClampNeg) &&& 65535), f_t_memory, i_t_rows2_count, f_t_rows2_letters, i_t_rows1_count, f_t_rows1_letters)
        else none
      else
        (f_X3_worthTo i_t_letters_size n_t_letters_worthToOther f_t_letters_worthToOther n_t_letters_worthToOne f_t_letters_worthToOne p2 p1).bind fun r_7 =>
        (f_X3_listChanges i_t_letters_size i_t_letters_tongue_length i_t_letters_tongue_words f_t_letters_tongue_scales n_t_rows2_letters n_t_letters_sense f_t_letters_sense i_t_rows2_count f_t_rows2_letters p1 i_t_law i_t_nonsense).bind fun (z_9, z_10) =>
        f_X1_look_s2_L119 i_t_law i_t_nonsense i_t_stamp i_t_letters_size n_t_memory n_t_letters_worthToOther f_t_letters_worthToOther n_t_letters_worthToOne f_t_letters_worthToOne i_t_letters_tongue_length i_t_letters_tongue_words f_t_letters_tongue_scales n_t_rows2_letters n_t_letters_sense f_t_letters_sense n_t_rows1_letters FU p2 (((((2 - 1) * 2) + p2) * i_t_letters_size) + p1) p1 r_7 0 f_t_memory z_9 z_10 i_t_rows1_count f_t_rows1_letters
      else none
    else
      some (p1, f_t_memory, i_t_rows2_count, f_t_rows2_letters, i_t_rows1_count, f_t_rows1_letters)
def f_X1_look_s3_L119 (i_t_law : Int32) (i_t_nonsense : Int32) (i_t_stamp : Int32) (i_t_letters_size : Int32) (n_t_memory : Nat) (n_t_letters_worthToOther : Nat) (f_t_letters_worthToOther : Nat → Int32) (n_t_letters_worthToOne : Nat) (f_t_letters_worthToOne : Nat → Int32) (i_t_letters_tongue_length : Int32) (i_t_letters_tongue_words : Int32) (f_t_letters_tongue_scales : Nat → Int32) (n_t_rows3_letters : Nat) (n_t_letters_sense : Nat) (f_t_letters_sense : Nat → Int32) (n_t_rows2_letters : Nat) (n_t_rows1_letters : Nat) : Nat → Int32 → Int32 → Int32 → Int32 → Int32 → (Nat → Int32) → Int32 → (Nat → Int32) → Int32 → (Nat → Int32) → Int32 → (Nat → Int32) → Option (Int32 × (Nat → Int32) × Int32 × (Nat → Int32) × Int32 × (Nat → Int32) × Int32 × (Nat → Int32))
  | 0, _, _, _, _, _, _, _, _, _, _, _, _ => none
  | n + 1, v2, v4, v5, v6, v8, f_t_memory, i_t_rows3_count, f_t_rows3_letters, i_t_rows2_count, f_t_rows2_letters, i_t_rows1_count, f_t_rows1_letters =>
    if i_t_rows3_count ≤ v8 then
      if ixb v4 n_t_memory = true then
      some (v5, (upd f_t_memory (v4 : Int32).toNatClampNeg ((i_t_stamp <<< (16 &&& 31)) ||| v5)), i_t_rows3_count, f_t_rows3_letters, i_t_rows2_count, f_t_rows2_letters, i_t_rows1_count, f_t_rows1_letters)
      else none
    else
      (f_X6_get i_t_rows3_count n_t_rows3_letters f_t_rows3_letters v8).bind fun r_14 =>
      (f_X1_look_s2 i_t_law i_t_nonsense i_t_stamp i_t_letters_size n_t_memory n_t_letters_worthToOther f_t_letters_worthToOther n_t_letters_worthToOne f_t_letters_worthToOne i_t_letters_tongue_length i_t_letters_tongue_words f_t_letters_tongue_scales n_t_rows2_letters n_t_letters_sense f_t_letters_sense n_t_rows1_letters f_t_memory i_t_rows2_count f_t_rows2_letters i_t_rows1_count f_t_rows1_letters r_14 (1 - v2)).bind fun (r_16, z_17, z_18, z_19, z_20, z_21) =>
      (f_X3_worthTo i_t_letters_size n_t_letters_worthToOther f_t_letters_worthToOther n_t_letters_worthToOne f_t_letters_worthToOne v2 (r_16 - r_16 / 4096 * 4096)).bind fun r_23 =>
      if r_23 ≤ v6 then
        f_X1_look_s3_L119 i_t_law i_t_nonsense i_t_stamp i_t_letters_size n_t_memory n_t_letters_worthToOther f_t_letters_worthToOther n_t_letters_worthToOne f_t_letters_worthToOne i_t_letters_tongue_length i_t_letters_tongue_words f_t_letters_tongue_scales n_t_rows3_letters n_t_letters_sense f_t_letters_sense n_t_rows2_letters n_t_rows1_letters n v2 v4 v5 v6 (v8 + 1) z_17 i_t_rows3_count f_t_rows3_letters z_18 z_19 z_20 z_21
      else
        f_X1_look_s3_L119 i_t_law i_t_nonsense i_t_stamp i_t_letters_size n_t_memory n_t_letters_worthToOther f_t_letters_worthToOther n_t_letters_worthToOne f_t_letters_worthToOne i_t_letters_tongue_length i_t_letters_tongue_words f_t_letters_tongue_scales n_t_rows3_letters n_t_letters_sense f_t_letters_sense n_t_rows2_letters n_t_rows1_letters n v2 v4 (r_16 + 4096) r_23 (v8 + 1) z_17 i_t_rows3_count f_t_rows3_letters z_18 z_19 z_20 z_21
def f_X1_look_s3 (i_t_law : Int32) (i_t_nonsense : Int32) (i_t_stamp : Int32) (i_t_letters_size : Int32) (n_t_memory : Nat) (n_t_letters_worthToOther : Nat) (f_t_letters_worthToOther : Nat → Int32) (n_t_letters_worthToOne : Nat) (f_t_letters_worthToOne : Nat → Int32) (i_t_letters_tongue_length : Int32) (i_t_letters_tongue_words : Int32) (f_t_letters_tongue_scales : Nat → Int32) (n_t_rows3_letters : Nat) (n_t_letters_sense : Nat) (f_t_letters_sense : Nat → Int32) (n_t_rows2_letters : Nat) (n_t_rows1_letters : Nat) (f_t_memory : Nat → Int32) (i_t_rows3_count : Int32) (f_t_rows3_letters : Nat → Int32) (i_t_rows2_count : Int32) (f_t_rows2_letters : Nat → Int32) (i_t_rows1_count : Int32) (f_t_rows1_letters : Nat → Int32) (p1 : Int32) (p2 : Int32) : Option (Int32 × (Nat → Int32) × Int32 × (Nat → Int32) × Int32 × (Nat → Int32) × Int32 × (Nat → Int32)) :=
  if (((((3 - 1) * 2) + p2) * i_t_letters_size) + p1) < 0 then
    some (p1, f_t_memory, i_t_rows3_count, f_t_rows3_letters, i_t_rows2_count, f_t_rows2_letters, i_t_rows1_count, f_t_rows1_letters)
  else
    if (((((3 - 1) * 2) + p2) * i_t_letters_size) + p1) < (nI n_t_memory) then
      if ixb (((((3 - 1) * 2) + p2) * i_t_letters_size) + p1) n_t_memory = true then
      if (((f_t_memory ((((((3 - 1) * 2) + p2) * i_t_letters_size) + p1) : Int32).toNatClampNeg).toUInt32 >>> ((16 : Int32).toUInt32 &&& Int32.toUInt32 31)).toInt32) = i_t_stamp then
        if ixb (((((3 - 1) * 2) + p2) * i_t_letters_size) + p1) n_t_memory = true then
        some (((f_t_memory ((((((3 - 1) * 2) + p2) * i_t_letters_size) + p1) : Int32).toNatClampNeg) &&& 65535), f_t_memory, i_t_rows3_count, f_t_rows3_letters, i_t_rows2_count, f_t_rows2_letters, i_t_rows1_count, f_t_rows1_letters)
        else none
      else
        (f_X3_worthTo i_t_letters_size n_t_letters_worthToOther f_t_letters_worthToOther n_t_letters_worthToOne f_t_letters_worthToOne p2 p1).bind fun r_7 =>
        (f_X3_listChanges i_t_letters_size i_t_letters_tongue_length i_t_letters_tongue_words f_t_letters_tongue_scales n_t_rows3_letters n_t_letters_sense f_t_letters_sense i_t_rows3_count f_t_rows3_letters p1 i_t_law i_t_nonsense).bind fun (z_9, z_10) =>
        f_X1_look_s3_L119 i_t_law i_t_nonsense i_t_stamp i_t_letters_size n_t_memory n_t_letters_worthToOther f_t_letters_worthToOther n_t_letters_worthToOne f_t_letters_worthToOne i_t_letters_tongue_length i_t_letters_tongue_words f_t_letters_tongue_scales n_t_rows3_letters n_t_letters_sense f_t_letters_sense n_t_rows2_letters n_t_rows1_letters FU p2 (((((3 - 1) * 2) + p2) * i_t_letters_size) + p1) p1 r_7 0 f_t_memory z_9 z_10 i_t_rows2_count f_t_rows2_letters i_t_rows1_count f_t_rows1_letters
      else none
    else
      some (p1, f_t_memory, i_t_rows3_count, f_t_rows3_letters, i_t_rows2_count, f_t_rows2_letters, i_t_rows1_count, f_t_rows1_letters)
def f_X1_look_s4_L119 (i_t_law : Int32) (i_t_nonsense : Int32) (i_t_stamp : Int32) (i_t_letters_size : Int32) (n_t_memory : Nat) (n_t_letters_worthToOther : Nat) (f_t_letters_worthToOther : Nat → Int32) (n_t_letters_worthToOne : Nat) (f_t_letters_worthToOne : Nat → Int32) (i_t_letters_tongue_length : Int32) (i_t_letters_tongue_words : Int32) (f_t_letters_tongue_scales : Nat → Int32) (n_t_rows4_letters : Nat) (n_t_letters_sense : Nat) (f_t_letters_sense : Nat → Int32) (n_t_rows3_letters : Nat) (n_t_rows2_letters : Nat) (n_t_rows1_letters : Nat) : Nat → Int32 → Int32 → Int32 → Int32 → Int32 → (Nat → Int32) → Int32 → (Nat → Int32) → Int32 → (Nat → Int32) → Int32 → (Nat → Int32) → Int32 → (Nat → Int32) → Option (Int32 × (Nat → Int32) × Int32 × (Nat → Int32) × Int32 × (Nat → Int32) × Int32 × (Nat → Int32) × Int32 × (Nat → Int32))
  | 0, _, _, _, _, _, _, _, _, _, _, _, _, _, _ => none
  | n + 1, v2, v4, v5, v6, v8, f_t_memory, i_t_rows4_count, f_t_rows4_letters, i_t_rows3_count, f_t_rows3_letters, i_t_rows2_count, f_t_rows2_letters, i_t_rows1_count, f_t_rows1_letters =>
    if i_t_rows4_count ≤ v8 then
      if ixb v4 n_t_memory = true then
      some (v5, (upd f_t_memory (v4 : Int32).toNatClampNeg ((i_t_stamp <<< (16 &&& 31)) ||| v5)), i_t_rows4_count, f_t_rows4_letters, i_t_rows3_count, f_t_rows3_letters, i_t_rows2_count, f_t_rows2_letters, i_t_rows1_count, f_t_rows1_letters)
      else none
    else
      (f_X6_get i_t_rows4_count n_t_rows4_letters f_t_rows4_letters v8).bind fun r_14 =>
      (f_X1_look_s3 i_t_law i_t_nonsense i_t_stamp i_t_letters_size n_t_memory n_t_letters_worthToOther f_t_letters_worthToOther n_t_letters_worthToOne f_t_letters_worthToOne i_t_letters_tongue_length i_t_letters_tongue_words f_t_letters_tongue_scales n_t_rows3_letters n_t_letters_sense f_t_letters_sense n_t_rows2_letters n_t_rows1_letters f_t_memory i_t_rows3_count f_t_rows3_letters i_t_rows2_count f_t_rows2_letters i_t_rows1_count f_t_rows1_letters r_14 (1 - v2)).bind fun (r_16, z_17, z_18, z_19, z_20, z_21, z_22, z_23) =>
      (f_X3_worthTo i_t_letters_size n_t_letters_worthToOther f_t_letters_worthToOther n_t_letters_worthToOne f_t_letters_worthToOne v2 (r_16 - r_16 / 4096 * 4096)).bind fun r_25 =>
      if r_25 ≤ v6 then
        f_X1_look_s4_L119 i_t_law i_t_nonsense i_t_stamp i_t_letters_size n_t_memory n_t_letters_worthToOther f_t_letters_worthToOther n_t_letters_worthToOne f_t_letters_worthToOne i_t_letters_tongue_length i_t_letters_tongue_words f_t_letters_tongue_scales n_t_rows4_letters n_t_letters_sense f_t_letters_sense n_t_rows3_letters n_t_rows2_letters n_t_rows1_letters n v2 v4 v5 v6 (v8 + 1) z_17 i_t_rows4_count f_t_rows4_letters z_18 z_19 z_20 z_21 z_22 z_23
      else
        f_X1_look_s4_L119 i_t_law i_t_nonsense i_t_stamp i_t_letters_size n_t_memory n_t_letters_worthToOther f_t_letters_worthToOther n_t_letters_worthToOne f_t_letters_worthToOne i_t_letters_tongue_length i_t_letters_tongue_words f_t_letters_tongue_scales n_t_rows4_letters n_t_letters_sense f_t_letters_sense n_t_rows3_letters n_t_rows2_letters n_t_rows1_letters n v2 v4 (r_16 + 4096) r_25 (v8 + 1) z_17 i_t_rows4_count f_t_rows4_letters z_18 z_19 z_20 z_21 z_22 z_23
def f_X1_look_s4 (i_t_law : Int32) (i_t_nonsense : Int32) (i_t_stamp : Int32) (i_t_letters_size : Int32) (n_t_memory : Nat) (n_t_letters_worthToOther : Nat) (f_t_letters_worthToOther : Nat → Int32) (n_t_letters_worthToOne : Nat) (f_t_letters_worthToOne : Nat → Int32) (i_t_letters_tongue_length : Int32) (i_t_letters_tongue_words : Int32) (f_t_letters_tongue_scales : Nat → Int32) (n_t_rows4_letters : Nat) (n_t_letters_sense : Nat) (f_t_letters_sense : Nat → Int32) (n_t_rows3_letters : Nat) (n_t_rows2_letters : Nat) (n_t_rows1_letters : Nat) (f_t_memory : Nat → Int32) (i_t_rows4_count : Int32) (f_t_rows4_letters : Nat → Int32) (i_t_rows3_count : Int32) (f_t_rows3_letters : Nat → Int32) (i_t_rows2_count : Int32) (f_t_rows2_letters : Nat → Int32) (i_t_rows1_count : Int32) (f_t_rows1_letters : Nat → Int32) (p1 : Int32) (p2 : Int32) : Option (Int32 × (Nat → Int32) × Int32 × (Nat → Int32) × Int32 × (Nat → Int32) × Int32 × (Nat → Int32) × Int32 × (Nat → Int32)) :=
  if (((((4 - 1) * 2) + p2) * i_t_letters_size) + p1) < 0 then
    some (p1, f_t_memory, i_t_rows4_count, f_t_rows4_letters, i_t_rows3_count, f_t_rows3_letters, i_t_rows2_count, f_t_rows2_letters, i_t_rows1_count, f_t_rows1_letters)
  else
    if (((((4 - 1) * 2) + p2) * i_t_letters_size) + p1) < (nI n_t_memory) then
      if ixb (((((4 - 1) * 2) + p2) * i_t_letters_size) + p1) n_t_memory = true then
      if (((f_t_memory ((((((4 - 1) * 2) + p2) * i_t_letters_size) + p1) : Int32).toNatClampNeg).toUInt32 >>> ((16 : Int32).toUInt32 &&& Int32.toUInt32 31)).toInt32) = i_t_stamp then
        if ixb (((((4 - 1) * 2) + p2) * i_t_letters_size) + p1) n_t_memory = true then
        some (((f_t_memory ((((((4 - 1) * 2) + p2) * i_t_letters_size) + p1) : Int32).toNatClampNeg) &&& 65535), f_t_memory, i_t_rows4_count, f_t_rows4_letters, i_t_rows3_count, f_t_rows3_letters, i_t_rows2_count, f_t_rows2_letters, i_t_rows1_count, f_t_rows1_letters)
        else none
      else
        (f_X3_worthTo i_t_letters_size n_t_letters_worthToOther f_t_letters_worthToOther n_t_letters_worthToOne f_t_letters_worthToOne p2 p1).bind fun r_7 =>
        (f_X3_listChanges i_t_letters_size i_t_letters_tongue_length i_t_letters_tongue_words f_t_letters_tongue_scales n_t_rows4_letters n_t_letters_sense f_t_letters_sense i_t_rows4_count f_t_rows4_letters p1 i_t_law i_t_nonsense).bind fun (z_9, z_10) =>
        f_X1_look_s4_L119 i_t_law i_t_nonsense i_t_stamp i_t_letters_size n_t_memory n_t_letters_worthToOther f_t_letters_worthToOther n_t_letters_worthToOne f_t_letters_worthToOne i_t_letters_tongue_length i_t_letters_tongue_words f_t_letters_tongue_scales n_t_rows4_letters n_t_letters_sense f_t_letters_sense n_t_rows3_letters n_t_rows2_letters n_t_rows1_letters FU p2 (((((4 - 1) * 2) + p2) * i_t_letters_size) + p1) p1 r_7 0 f_t_memory z_9 z_10 i_t_rows3_count f_t_rows3_letters i_t_rows2_count f_t_rows2_letters i_t_rows1_count f_t_rows1_letters
      else none
    else
      some (p1, f_t_memory, i_t_rows4_count, f_t_rows4_letters, i_t_rows3_count, f_t_rows3_letters, i_t_rows2_count, f_t_rows2_letters, i_t_rows1_count, f_t_rows1_letters)
def f_X1_look_s5_L119 (i_t_law : Int32) (i_t_nonsense : Int32) (i_t_stamp : Int32) (i_t_letters_size : Int32) (n_t_memory : Nat) (n_t_letters_worthToOther : Nat) (f_t_letters_worthToOther : Nat → Int32) (n_t_letters_worthToOne : Nat) (f_t_letters_worthToOne : Nat → Int32) (i_t_letters_tongue_length : Int32) (i_t_letters_tongue_words : Int32) (f_t_letters_tongue_scales : Nat → Int32) (n_t_rows5_letters : Nat) (n_t_letters_sense : Nat) (f_t_letters_sense : Nat → Int32) (n_t_rows4_letters : Nat) (n_t_rows3_letters : Nat) (n_t_rows2_letters : Nat) (n_t_rows1_letters : Nat) : Nat → Int32 → Int32 → Int32 → Int32 → Int32 → (Nat → Int32) → Int32 → (Nat → Int32) → Int32 → (Nat → Int32) → Int32 → (Nat → Int32) → Int32 → (Nat → Int32) → Int32 → (Nat → Int32) → Option (Int32 × (Nat → Int32) × Int32 × (Nat → Int32) × Int32 × (Nat → Int32) × Int32 × (Nat → Int32) × Int32 × (Nat → Int32) × Int32 × (Nat → Int32))
  | 0, _, _, _, _, _, _, _, _, _, _, _, _, _, _, _, _ => none
  | n + 1, v2, v4, v5, v6, v8, f_t_memory, i_t_rows5_count, f_t_rows5_letters, i_t_rows4_count, f_t_rows4_letters, i_t_rows3_count, f_t_rows3_letters, i_t_rows2_count, f_t_rows2_letters, i_t_rows1_count, f_t_rows1_letters =>
    if i_t_rows5_count ≤ v8 then
      if ixb v4 n_t_memory = true then
      some (v5, (upd f_t_memory (v4 : Int32).toNatClampNeg ((i_t_stamp <<< (16 &&& 31)) ||| v5)), i_t_rows5_count, f_t_rows5_letters, i_t_rows4_count, f_t_rows4_letters, i_t_rows3_count, f_t_rows3_letters, i_t_rows2_count, f_t_rows2_letters, i_t_rows1_count, f_t_rows1_letters)
      else none
    else
      (f_X6_get i_t_rows5_count n_t_rows5_letters f_t_rows5_letters v8).bind fun r_14 =>
      (f_X1_look_s4 i_t_law i_t_nonsense i_t_stamp i_t_letters_size n_t_memory n_t_letters_worthToOther f_t_letters_worthToOther n_t_letters_worthToOne f_t_letters_worthToOne i_t_letters_tongue_length i_t_letters_tongue_words f_t_letters_tongue_scales n_t_rows4_letters n_t_letters_sense f_t_letters_sense n_t_rows3_letters n_t_rows2_letters n_t_rows1_letters f_t_memory i_t_rows4_count f_t_rows4_letters i_t_rows3_count f_t_rows3_letters i_t_rows2_count f_t_rows2_letters i_t_rows1_count f_t_rows1_letters r_14 (1 - v2)).bind fun (r_16, z_17, z_18, z_19, z_20, z_21, z_22, z_23, z_24, z_25) =>
      (f_X3_worthTo i_t_letters_size n_t_letters_worthToOther f_t_letters_worthToOther n_t_letters_worthToOne f_t_letters_worthToOne v2 (r_16 - r_16 / 4096 * 4096)).bind fun r_27 =>
      if r_27 ≤ v6 then
        f_X1_look_s5_L119 i_t_law i_t_nonsense i_t_stamp i_t_letters_size n_t_memory n_t_letters_worthToOther f_t_letters_worthToOther n_t_letters_worthToOne f_t_letters_worthToOne i_t_letters_tongue_length i_t_letters_tongue_words f_t_letters_tongue_scales n_t_rows5_letters n_t_letters_sense f_t_letters_sense n_t_rows4_letters n_t_rows3_letters n_t_rows2_letters n_t_rows1_letters n v2 v4 v5 v6 (v8 + 1) z_17 i_t_rows5_count f_t_rows5_letters z_18 z_19 z_20 z_21 z_22 z_23 z_24 z_25
      else
        f_X1_look_s5_L119 i_t_law i_t_nonsense i_t_stamp i_t_letters_size n_t_memory n_t_letters_worthToOther f_t_letters_worthToOther n_t_letters_worthToOne f_t_letters_worthToOne i_t_letters_tongue_length i_t_letters_tongue_words f_t_letters_tongue_scales n_t_rows5_letters n_t_letters_sense f_t_letters_sense n_t_rows4_letters n_t_rows3_letters n_t_rows2_letters n_t_rows1_letters n v2 v4 (r_16 + 4096) r_27 (v8 + 1) z_17 i_t_rows5_count f_t_rows5_letters z_18 z_19 z_20 z_21 z_22 z_23 z_24 z_25
def f_X1_look_s5 (i_t_law : Int32) (i_t_nonsense : Int32) (i_t_stamp : Int32) (i_t_letters_size : Int32) (n_t_memory : Nat) (n_t_letters_worthToOther : Nat) (f_t_letters_worthToOther : Nat → Int32) (n_t_letters_worthToOne : Nat) (f_t_letters_worthToOne : Nat → Int32) (i_t_letters_tongue_length : Int32) (i_t_letters_tongue_words : Int32) (f_t_letters_tongue_scales : Nat → Int32) (n_t_rows5_letters : Nat) (n_t_letters_sense : Nat) (f_t_letters_sense : Nat → Int32) (n_t_rows4_letters : Nat) (n_t_rows3_letters : Nat) (n_t_rows2_letters : Nat) (n_t_rows1_letters : Nat) (f_t_memory : Nat → Int32) (i_t_rows5_count : Int32) (f_t_rows5_letters : Nat → Int32) (i_t_rows4_count : Int32) (f_t_rows4_letters : Nat → Int32) (i_t_rows3_count : Int32) (f_t_rows3_letters : Nat → Int32) (i_t_rows2_count : Int32) (f_t_rows2_letters : Nat → Int32) (i_t_rows1_count : Int32) (f_t_rows1_letters : Nat → Int32) (p1 : Int32) (p2 : Int32) : Option (Int32 × (Nat → Int32) × Int32 × (Nat → Int32) × Int32 × (Nat → Int32) × Int32 × (Nat → Int32) × Int32 × (Nat → Int32) × Int32 × (Nat → Int32)) :=
  if (((((5 - 1) * 2) + p2) * i_t_letters_size) + p1) < 0 then
    some (p1, f_t_memory, i_t_rows5_count, f_t_rows5_letters, i_t_rows4_count, f_t_rows4_letters, i_t_rows3_count, f_t_rows3_letters, i_t_rows2_count, f_t_rows2_letters, i_t_rows1_count, f_t_rows1_letters)
  else
    if (((((5 - 1) * 2) + p2) * i_t_letters_size) + p1) < (nI n_t_memory) then
      if ixb (((((5 - 1) * 2) + p2) * i_t_letters_size) + p1) n_t_memory = true then
      if (((f_t_memory ((((((5 - 1) * 2) + p2) * i_t_letters_size) + p1) : Int32).toNatClampNeg).toUInt32 >>> ((16 : Int32).toUInt32 &&& Int32.toUInt32 31)).toInt32) = i_t_stamp then
        if ixb (((((5 - 1) * 2) + p2) * i_t_letters_size) + p1) n_t_memory = true then
        some (((f_t_memory ((((((5 - 1) * 2) + p2) * i_t_letters_size) + p1) : Int32).toNatClampNeg) &&& 65535), f_t_memory, i_t_rows5_count, f_t_rows5_letters, i_t_rows4_count, f_t_rows4_letters, i_t_rows3_count, f_t_rows3_letters, i_t_rows2_count, f_t_rows2_letters, i_t_rows1_count, f_t_rows1_letters)
        else none
      else
        (f_X3_worthTo i_t_letters_size n_t_letters_worthToOther f_t_letters_worthToOther n_t_letters_worthToOne f_t_letters_worthToOne p2 p1).bind fun r_7 =>
        (f_X3_listChanges i_t_letters_size i_t_letters_tongue_length i_t_letters_tongue_words f_t_letters_tongue_scales n_t_rows5_letters n_t_letters_sense f_t_letters_sense i_t_rows5_count f_t_rows5_letters p1 i_t_law i_t_nonsense).bind fun (z_9, z_10) =>
        f_X1_look_s5_L119 i_t_law i_t_nonsense i_t_stamp i_t_letters_size n_t_memory n_t_letters_worthToOther f_t_letters_worthToOther n_t_letters_worthToOne f_t_letters_worthToOne i_t_letters_tongue_length i_t_letters_tongue_words f_t_letters_tongue_scales n_t_rows5_letters n_t_letters_sense f_t_letters_sense n_t_rows4_letters n_t_rows3_letters n_t_rows2_letters n_t_rows1_letters FU p2 (((((5 - 1) * 2) + p2) * i_t_letters_size) + p1) p1 r_7 0 f_t_memory z_9 z_10 i_t_rows4_count f_t_rows4_letters i_t_rows3_count f_t_rows3_letters i_t_rows2_count f_t_rows2_letters i_t_rows1_count f_t_rows1_letters
      else none
    else
      some (p1, f_t_memory, i_t_rows5_count, f_t_rows5_letters, i_t_rows4_count, f_t_rows4_letters, i_t_rows3_count, f_t_rows3_letters, i_t_rows2_count, f_t_rows2_letters, i_t_rows1_count, f_t_rows1_letters)
def f_X1_look_s6_L119 (i_t_law : Int32) (i_t_nonsense : Int32) (i_t_stamp : Int32) (i_t_letters_size : Int32) (n_t_memory : Nat) (n_t_letters_worthToOther : Nat) (f_t_letters_worthToOther : Nat → Int32) (n_t_letters_worthToOne : Nat) (f_t_letters_worthToOne : Nat → Int32) (i_t_letters_tongue_length : Int32) (i_t_letters_tongue_words : Int32) (f_t_letters_tongue_scales : Nat → Int32) (n_t_rows6_letters : Nat) (n_t_letters_sense : Nat) (f_t_letters_sense : Nat → Int32) (n_t_rows5_letters : Nat) (n_t_rows4_letters : Nat) (n_t_rows3_letters : Nat) (n_t_rows2_letters : Nat) (n_t_rows1_letters : Nat) : Nat → Int32 → Int32 → Int32 → Int32 → Int32 → (Nat → Int32) → Int32 → (Nat → Int32) → Int32 → (Nat → Int32) → Int32 → (Nat → Int32) → Int32 → (Nat → Int32) → Int32 → (Nat → Int32) → Int32 → (Nat → Int32) → Option (Int32 × (Nat → Int32) × Int32 × (Nat → Int32) × Int32 × (Nat → Int32) × Int32 × (Nat → Int32) × Int32 × (Nat → Int32) × Int32 × (Nat → Int32) × Int32 × (Nat → Int32))
  | 0, _, _, _, _, _, _, _, _, _, _, _, _, _, _, _, _, _, _ => none
  | n + 1, v2, v4, v5, v6, v8, f_t_memory, i_t_rows6_count, f_t_rows6_letters, i_t_rows5_count, f_t_rows5_letters, i_t_rows4_count, f_t_rows4_letters, i_t_rows3_count, f_t_rows3_letters, i_t_rows2_count, f_t_rows2_letters, i_t_rows1_count, f_t_rows1_letters =>
    if i_t_rows6_count ≤ v8 then
      if ixb v4 n_t_memory = true then
      some (v5, (upd f_t_memory (v4 : Int32).toNatClampNeg ((i_t_stamp <<< (16 &&& 31)) ||| v5)), i_t_rows6_count, f_t_rows6_letters, i_t_rows5_count, f_t_rows5_letters, i_t_rows4_count, f_t_rows4_letters, i_t_rows3_count, f_t_rows3_letters, i_t_rows2_count, f_t_rows2_letters, i_t_rows1_count, f_t_rows1_letters)
      else none
    else
      (f_X6_get i_t_rows6_count n_t_rows6_letters f_t_rows6_letters v8).bind fun r_14 =>
      (f_X1_look_s5 i_t_law i_t_nonsense i_t_stamp i_t_letters_size n_t_memory n_t_letters_worthToOther f_t_letters_worthToOther n_t_letters_worthToOne f_t_letters_worthToOne i_t_letters_tongue_length i_t_letters_tongue_words f_t_letters_tongue_scales n_t_rows5_letters n_t_letters_sense f_t_letters_sense n_t_rows4_letters n_t_rows3_letters n_t_rows2_letters n_t_rows1_letters f_t_memory i_t_rows5_count f_t_rows5_letters i_t_rows4_count f_t_rows4_letters i_t_rows3_count f_t_rows3_letters i_t_rows2_count f_t_rows2_letters i_t_rows1_count f_t_rows1_letters r_14 (1 - v2)).bind fun (r_16, z_17, z_18, z_19, z_20, z_21, z_22, z_23, z_24, z_25, z_26, z_27) =>
      (f_X3_worthTo i_t_letters_size n_t_letters_worthToOther f_t_letters_worthToOther n_t_letters_worthToOne f_t_letters_worthToOne v2 (r_16 - r_16 / 4096 * 4096)).bind fun r_29 =>
      if r_29 ≤ v6 then
        f_X1_look_s6_L119 i_t_law i_t_nonsense i_t_stamp i_t_letters_size n_t_memory n_t_letters_worthToOther f_t_letters_worthToOther n_t_letters_worthToOne f_t_letters_worthToOne i_t_letters_tongue_length i_t_letters_tongue_words f_t_letters_tongue_scales n_t_rows6_letters n_t_letters_sense f_t_letters_sense n_t_rows5_letters n_t_rows4_letters n_t_rows3_letters n_t_rows2_letters n_t_rows1_letters n v2 v4 v5 v6 (v8 + 1) z_17 i_t_rows6_count f_t_rows6_letters z_18 z_19 z_20 z_21 z_22 z_23 z_24 z_25 z_26 z_27
      else
        f_X1_look_s6_L119 i_t_law i_t_nonsense i_t_stamp i_t_letters_size n_t_memory n_t_letters_worthToOther f_t_letters_worthToOther n_t_letters_worthToOne f_t_letters_worthToOne i_t_letters_tongue_length i_t_letters_tongue_words f_t_letters_tongue_scales n_t_rows6_letters n_t_letters_sense f_t_letters_sense n_t_rows5_letters n_t_rows4_letters n_t_rows3_letters n_t_rows2_letters n_t_rows1_letters n v2 v4 (r_16 + 4096) r_29 (v8 + 1) z_17 i_t_rows6_count f_t_rows6_letters z_18 z_19 z_20 z_21 z_22 z_23 z_24 z_25 z_26 z_27
def f_X1_look_s6 (i_t_law : Int32) (i_t_nonsense : Int32) (i_t_stamp : Int32) (i_t_letters_size : Int32) (n_t_memory : Nat) (n_t_letters_worthToOther : Nat) (f_t_letters_worthToOther : Nat → Int32) (n_t_letters_worthToOne : Nat) (f_t_letters_worthToOne : Nat → Int32) (i_t_letters_tongue_length : Int32) (i_t_letters_tongue_words : Int32) (f_t_letters_tongue_scales : Nat → Int32) (n_t_rows6_letters : Nat) (n_t_letters_sense : Nat) (f_t_letters_sense : Nat → Int32) (n_t_rows5_letters : Nat) (n_t_rows4_letters : Nat) (n_t_rows3_letters : Nat) (n_t_rows2_letters : Nat) (n_t_rows1_letters : Nat) (f_t_memory : Nat → Int32) (i_t_rows6_count : Int32) (f_t_rows6_letters : Nat → Int32) (i_t_rows5_count : Int32) (f_t_rows5_letters : Nat → Int32) (i_t_rows4_count : Int32) (f_t_rows4_letters : Nat → Int32) (i_t_rows3_count : Int32) (f_t_rows3_letters : Nat → Int32) (i_t_rows2_count : Int32) (f_t_rows2_letters : Nat → Int32) (i_t_rows1_count : Int32) (f_t_rows1_letters : Nat → Int32) (p1 : Int32) (p2 : Int32) : Option (Int32 × (Nat → Int32) × Int32 × (Nat → Int32) × Int32 × (Nat → Int32) × Int32 × (Nat → Int32) × Int32 × (Nat → Int32) × Int32 × (Nat → Int32) × Int32 × (Nat → Int32)) :=
  if (((((6 - 1) * 2) + p2) * i_t_letters_size) + p1) < 0 then
    some (p1, f_t_memory, i_t_rows6_count, f_t_rows6_letters, i_t_rows5_count, f_t_rows5_letters, i_t_rows4_count, f_t_rows4_letters, i_t_rows3_count, f_t_rows3_letters, i_t_rows2_count, f_t_rows2_letters, i_t_rows1_count, f_t_rows1_letters)
  else
    if (((((6 - 1) * 2) + p2) * i_t_letters_size) + p1) < (nI n_t_memory) then
      if ixb (((((6 - 1) * 2) + p2) * i_t_letters_size) + p1) n_t_memory = true then
      if (((f_t_memory ((((((6 - 1) * 2) + p2) * i_t_letters_size) + p1) : Int32).toNatClampNeg).toUInt32 >>> ((16 : Int32).toUInt32 &&& Int32.toUInt32 31)).toInt32) = i_t_stamp then
        if ixb (((((6 - 1) * 2) + p2) * i_t_letters_size) + p1) n_t_memory = true then
        some (((f_t_memory ((((((6 - 1) * 2) + p2) * i_t_letters_size) + p1) : Int32).toNatClampNeg) &&& 65535), f_t_memory, i_t_rows6_count, f_t_rows6_letters, i_t_rows5_count, f_t_rows5_letters, i_t_rows4_count, f_t_rows4_letters, i_t_rows3_count, f_t_rows3_letters, i_t_rows2_count, f_t_rows2_letters, i_t_rows1_count, f_t_rows1_letters)
        else none
      else
        (f_X3_worthTo i_t_letters_size n_t_letters_worthToOther f_t_letters_worthToOther n_t_letters_worthToOne f_t_letters_worthToOne p2 p1).bind fun r_7 =>
        (f_X3_listChanges i_t_letters_size i_t_letters_tongue_length i_t_letters_tongue_words f_t_letters_tongue_scales n_t_rows6_letters n_t_letters_sense f_t_letters_sense i_t_rows6_count f_t_rows6_letters p1 i_t_law i_t_nonsense).bind fun (z_9, z_10) =>
        f_X1_look_s6_L119 i_t_law i_t_nonsense i_t_stamp i_t_letters_size n_t_memory n_t_letters_worthToOther f_t_letters_worthToOther n_t_letters_worthToOne f_t_letters_worthToOne i_t_letters_tongue_length i_t_letters_tongue_words f_t_letters_tongue_scales n_t_rows6_letters n_t_letters_sense f_t_letters_sense n_t_rows5_letters n_t_rows4_letters n_t_rows3_letters n_t_rows2_letters n_t_rows1_letters FU p2 (((((6 - 1) * 2) + p2) * i_t_letters_size) + p1) p1 r_7 0 f_t_memory z_9 z_10 i_t_rows5_count f_t_rows5_letters i_t_rows4_count f_t_rows4_letters i_t_rows3_count f_t_rows3_letters i_t_rows2_count f_t_rows2_letters i_t_rows1_count f_t_rows1_letters
      else none
    else
      some (p1, f_t_memory, i_t_rows6_count, f_t_rows6_letters, i_t_rows5_count, f_t_rows5_letters, i_t_rows4_count, f_t_rows4_letters, i_t_rows3_count, f_t_rows3_letters, i_t_rows2_count, f_t_rows2_letters, i_t_rows1_count, f_t_rows1_letters)
def f_X1_look_s7_L119 (i_t_law : Int32) (i_t_nonsense : Int32) (i_t_stamp : Int32) (i_t_letters_size : Int32) (n_t_memory : Nat) (n_t_letters_worthToOther : Nat) (f_t_letters_worthToOther : Nat → Int32) (n_t_letters_worthToOne : Nat) (f_t_letters_worthToOne : Nat → Int32) (i_t_letters_tongue_length : Int32) (i_t_letters_tongue_words : Int32) (f_t_letters_tongue_scales : Nat → Int32) (n_t_rows7_letters : Nat) (n_t_letters_sense : Nat) (f_t_letters_sense : Nat → Int32) (n_t_rows6_letters : Nat) (n_t_rows5_letters : Nat) (n_t_rows4_letters : Nat) (n_t_rows3_letters : Nat) (n_t_rows2_letters : Nat) (n_t_rows1_letters : Nat) : Nat → Int32 → Int32 → Int32 → Int32 → Int32 → (Nat → Int32) → Int32 → (Nat → Int32) → Int32 → (Nat → Int32) → Int32 → (Nat → Int32) → Int32 → (Nat → Int32) → Int32 → (Nat → Int32) → Int32 → (Nat → Int32) → Int32 → (Nat → Int32) → Option (Int32 × (Nat → Int32) × Int32 × (Nat → Int32) × Int32 × (Nat → Int32) × Int32 × (Nat → Int32) × Int32 × (Nat → Int32) × Int32 × (Nat → Int32) × Int32 × (Nat → Int32) × Int32 × (Nat → Int32))
  | 0, _, _, _, _, _, _, _, _, _, _, _, _, _, _, _, _, _, _, _, _ => none
  | n + 1, v2, v4, v5, v6, v8, f_t_memory, i_t_rows7_count, f_t_rows7_letters, i_t_rows6_count, f_t_rows6_letters, i_t_rows5_count, f_t_rows5_letters, i_t_rows4_count, f_t_rows4_letters, i_t_rows3_count, f_t_rows3_letters, i_t_rows2_count, f_t_rows2_letters, i_t_rows1_count, f_t_rows1_letters =>
    if i_t_rows7_count ≤ v8 then
      if ixb v4 n_t_memory = true then
      some (v5, (upd f_t_memory (v4 : Int32).toNatClampNeg ((i_t_stamp <<< (16 &&& 31)) ||| v5)), i_t_rows7_count, f_t_rows7_letters, i_t_rows6_count, f_t_rows6_letters, i_t_rows5_count, f_t_rows5_letters, i_t_rows4_count, f_t_rows4_letters, i_t_rows3_count, f_t_rows3_letters, i_t_rows2_count, f_t_rows2_letters, i_t_rows1_count, f_t_rows1_letters)
      else none
    else
      (f_X6_get i_t_rows7_count n_t_rows7_letters f_t_rows7_letters v8).bind fun r_14 =>
      (f_X1_look_s6 i_t_law i_t_nonsense i_t_stamp i_t_letters_size n_t_memory n_t_letters_worthToOther f_t_letters_worthToOther n_t_letters_worthToOne f_t_letters_worthToOne i_t_letters_tongue_length i_t_letters_tongue_words f_t_letters_tongue_scales n_t_rows6_letters n_t_letters_sense f_t_letters_sense n_t_rows5_letters n_t_rows4_letters n_t_rows3_letters n_t_rows2_letters n_t_rows1_letters f_t_memory i_t_rows6_count f_t_rows6_letters i_t_rows5_count f_t_rows5_letters i_t_rows4_count f_t_rows4_letters i_t_rows3_count f_t_rows3_letters i_t_rows2_count f_t_rows2_letters i_t_rows1_count f_t_rows1_letters r_14 (1 - v2)).bind fun (r_16, z_17, z_18, z_19, z_20, z_21, z_22, z_23, z_24, z_25, z_26, z_27, z_28, z_29) =>
      (f_X3_worthTo i_t_letters_size n_t_letters_worthToOther f_t_letters_worthToOther n_t_letters_worthToOne f_t_letters_worthToOne v2 (r_16 - r_16 / 4096 * 4096)).bind fun r_31 =>
      if r_31 ≤ v6 then
        f_X1_look_s7_L119 i_t_law i_t_nonsense i_t_stamp i_t_letters_size n_t_memory n_t_letters_worthToOther f_t_letters_worthToOther n_t_letters_worthToOne f_t_letters_worthToOne i_t_letters_tongue_length i_t_letters_tongue_words f_t_letters_tongue_scales n_t_rows7_letters n_t_letters_sense f_t_letters_sense n_t_rows6_letters n_t_rows5_letters n_t_rows4_letters n_t_rows3_letters n_t_rows2_letters n_t_rows1_letters n v2 v4 v5 v6 (v8 + 1) z_17 i_t_rows7_count f_t_rows7_letters z_18 z_19 z_20 z_21 z_22 z_23 z_24 z_25 z_26 z_27 z_28 z_29
      else
        f_X1_look_s7_L119 i_t_law i_t_nonsense i_t_stamp i_t_letters_size n_t_memory n_t_letters_worthToOther f_t_letters_worthToOther n_t_letters_worthToOne f_t_letters_worthToOne i_t_letters_tongue_length i_t_letters_tongue_words f_t_letters_tongue_scales n_t_rows7_letters n_t_letters_sense f_t_letters_sense n_t_rows6_letters n_t_rows5_letters n_t_rows4_letters n_t_rows3_letters n_t_rows2_letters n_t_rows1_letters n v2 v4 (r_16 + 4096) r_31 (v8 + 1) z_17 i_t_rows7_count f_t_rows7_letters z_18 z_19 z_20 z_21 z_22 z_23 z_24 z_25 z_26 z_27 z_28 z_29
def f_X1_look_s7 (i_t_law : Int32) (i_t_nonsense : Int32) (i_t_stamp : Int32) (i_t_letters_size : Int32) (n_t_memory : Nat) (n_t_letters_worthToOther : Nat) (f_t_letters_worthToOther : Nat → Int32) (n_t_letters_worthToOne : Nat) (f_t_letters_worthToOne : Nat → Int32) (i_t_letters_tongue_length : Int32) (i_t_letters_tongue_words : Int32) (f_t_letters_tongue_scales : Nat → Int32) (n_t_rows7_letters : Nat) (n_t_letters_sense : Nat) (f_t_letters_sense : Nat → Int32) (n_t_rows6_letters : Nat) (n_t_rows5_letters : Nat) (n_t_rows4_letters : Nat) (n_t_rows3_letters : Nat) (n_t_rows2_letters : Nat) (n_t_rows1_letters : Nat) (f_t_memory : Nat → Int32) (i_t_rows7_count : Int32) (f_t_rows7_letters : Nat → Int32) (i_t_rows6_count : Int32) (f_t_rows6_letters : Nat → Int32) (i_t_rows5_count : Int32) (f_t_rows5_letters : Nat → Int32) (i_t_rows4_count : Int32) (f_t_rows4_letters : Nat → Int32) (i_t_rows3_count : Int32) (f_t_rows3_letters : Nat → Int32) (i_t_rows2_count : Int32) (f_t_rows2_letters : Nat → Int32) (i_t_rows1_count : Int32) (f_t_rows1_letters : Nat → Int32) (p1 : Int32) (p2 : Int32) : Option (Int32 × (Nat → Int32) × Int32 × (Nat → Int32) × Int32 × (Nat → Int32) × Int32 × (Nat → Int32) × Int32 × (Nat → Int32) × Int32 × (Nat → Int32) × Int32 × (Nat → Int32) × Int32 × (Nat → Int32)) :=
  if (((((7 - 1) * 2) + p2) * i_t_letters_size) + p1) < 0 then
    some (p1, f_t_memory, i_t_rows7_count, f_t_rows7_letters, i_t_rows6_count, f_t_rows6_letters, i_t_rows5_count, f_t_rows5_letters, i_t_rows4_count, f_t_rows4_letters, i_t_rows3_count, f_t_rows3_letters, i_t_rows2_count, f_t_rows2_letters, i_t_rows1_count, f_t_rows1_letters)
  else
    if (((((7 - 1) * 2) + p2) * i_t_letters_size) + p1) < (nI n_t_memory) then
      if ixb (((((7 - 1) * 2) + p2) * i_t_letters_size) + p1) n_t_memory = true then
      if (((f_t_memory ((((((7 - 1) * 2) + p2) * i_t_letters_size) + p1) : Int32).toNatClampNeg).toUInt32 >>> ((16 : Int32).toUInt32 &&& Int32.toUInt32 31)).toInt32) = i_t_stamp then
        if ixb (((((7 - 1) * 2) + p2) * i_t_letters_size) + p1) n_t_memory = true then
        some (((f_t_memory ((((((7 - 1) * 2) + p2) * i_t_letters_size) + p1) : Int32).toNatClampNeg) &&& 65535), f_t_memory, i_t_rows7_count, f_t_rows7_letters, i_t_rows6_count, f_t_rows6_letters, i_t_rows5_count, f_t_rows5_letters, i_t_rows4_count, f_t_rows4_letters, i_t_rows3_count, f_t_rows3_letters, i_t_rows2_count, f_t_rows2_letters, i_t_rows1_count, f_t_rows1_letters)
        else none
      else
        (f_X3_worthTo i_t_letters_size n_t_letters_worthToOther f_t_letters_worthToOther n_t_letters_worthToOne f_t_letters_worthToOne p2 p1).bind fun r_7 =>
        (f_X3_listChanges i_t_letters_size i_t_letters_tongue_length i_t_letters_tongue_words f_t_letters_tongue_scales n_t_rows7_letters n_t_letters_sense f_t_letters_sense i_t_rows7_count f_t_rows7_letters p1 i_t_law i_t_nonsense).bind fun (z_9, z_10) =>
        f_X1_look_s7_L119 i_t_law i_t_nonsense i_t_stamp i_t_letters_size n_t_memory n_t_letters_worthToOther f_t_letters_worthToOther n_t_letters_worthToOne f_t_letters_worthToOne i_t_letters_tongue_length i_t_letters_tongue_words f_t_letters_tongue_scales n_t_rows7_letters n_t_letters_sense f_t_letters_sense n_t_rows6_letters n_t_rows5_letters n_t_rows4_letters n_t_rows3_letters n_t_rows2_letters n_t_rows1_letters FU p2 (((((7 - 1) * 2) + p2) * i_t_letters_size) + p1) p1 r_7 0 f_t_memory z_9 z_10 i_t_rows6_count f_t_rows6_letters i_t_rows5_count f_t_rows5_letters i_t_rows4_count f_t_rows4_letters i_t_rows3_count f_t_rows3_letters i_t_rows2_count f_t_rows2_letters i_t_rows1_count f_t_rows1_letters
      else none
    else
      some (p1, f_t_memory, i_t_rows7_count, f_t_rows7_letters, i_t_rows6_count, f_t_rows6_letters, i_t_rows5_count, f_t_rows5_letters, i_t_rows4_count, f_t_rows4_letters, i_t_rows3_count, f_t_rows3_letters, i_t_rows2_count, f_t_rows2_letters, i_t_rows1_count, f_t_rows1_letters)
def f_X1_look_s8_L119 (i_t_law : Int32) (i_t_nonsense : Int32) (i_t_stamp : Int32) (i_t_letters_size : Int32) (n_t_memory : Nat) (n_t_letters_worthToOther : Nat) (f_t_letters_worthToOther : Nat → Int32) (n_t_letters_worthToOne : Nat) (f_t_letters_worthToOne : Nat → Int32) (i_t_letters_tongue_length : Int32) (i_t_letters_tongue_words : Int32) (f_t_letters_tongue_scales : Nat → Int32) (n_t_rows8_letters : Nat) (n_t_letters_sense : Nat) (f_t_letters_sense : Nat → Int32) (n_t_rows7_letters : Nat) (n_t_rows6_letters : Nat) (n_t_rows5_letters : Nat) (n_t_rows4_letters : Nat) (n_t_rows3_letters : Nat) (n_t_rows2_letters : Nat) (n_t_rows1_letters : Nat) : Nat → Int32 → Int32 → Int32 → Int32 → Int32 → (Nat → Int32) → Int32 → (Nat → Int32) → Int32 → (Nat → Int32) → Int32 → (Nat → Int32) → Int32 → (Nat → Int32) → Int32 → (Nat → Int32) → Int32 → (Nat → Int32) → Int32 → (Nat → Int32) → Int32 → (Nat → Int32) → Option (Int32 × (Nat → Int32) × Int32 × (Nat → Int32) × Int32 × (Nat → Int32) × Int32 × (Nat → Int32) × Int32 × (Nat → Int32) × Int32 × (Nat → Int32) × Int32 × (Nat → Int32) × Int32 × (Nat → Int32) × Int32 × (Nat → Int32))
  | 0, _, _, _, _, _, _, _, _, _, _, _, _, _, _, _, _, _, _, _, _, _, _ => none
  | n + 1, v2, v4, v5, v6, v8, f_t_memory, i_t_rows8_count, f_t_rows8_letters, i_t_rows7_count, f_t_rows7_letters, i_t_rows6_count, f_t_rows6_letters, i_t_rows5_count, f_t_rows5_letters, i_t_rows4_count, f_t_rows4_letters, i_t_rows3_count, f_t_rows3_letters, i_t_rows2_count, f_t_rows2_letters, i_t_rows1_count, f_t_rows1_letters =>
    if i_t_rows8_count ≤ v8 then
      if ixb v4 n_t_memory = true then
      some (v5, (upd f_t_memory (v4 : Int32).toNatClampNeg ((i_t_stamp <<< (16 &&& 31)) ||| v5)), i_t_rows8_count, f_t_rows8_letters, i_t_rows7_count, f_t_rows7_letters, i_t_rows6_count, f_t_rows6_letters, i_t_rows5_count, f_t_rows5_letters, i_t_rows4_count, f_t_rows4_letters, i_t_rows3_count, f_t_rows3_letters, i_t_rows2_count, f_t_rows2_letters, i_t_rows1_count, f_t_rows1_letters)
      else none
    else
      (f_X6_get i_t_rows8_count n_t_rows8_letters f_t_rows8_letters v8).bind fun r_14 =>
      (f_X1_look_s7 i_t_law i_t_nonsense i_t_stamp i_t_letters_size n_t_memory n_t_letters_worthToOther f_t_letters_worthToOther n_t_letters_worthToOne f_t_letters_worthToOne i_t_letters_tongue_length i_t_letters_tongue_words f_t_letters_tongue_scales n_t_rows7_letters n_t_letters_sense f_t_letters_sense n_t_rows6_letters n_t_rows5_letters n_t_rows4_letters n_t_rows3_letters n_t_rows2_letters n_t_rows1_letters f_t_memory i_t_rows7_count f_t_rows7_letters i_t_rows6_count f_t_rows6_letters i_t_rows5_count f_t_rows5_letters i_t_rows4_count f_t_rows4_letters i_t_rows3_count f_t_rows3_letters i_t_rows2_count f_t_rows2_letters i_t_rows1_count f_t_rows1_letters r_14 (1 - v2)).bind fun (r_16, z_17, z_18, z_19, z_20, z_21, z_22, z_23, z_24, z_25, z_26, z_27, z_28, z_29, z_30, z_31) =>
      (f_X3_worthTo i_t_letters_size n_t_letters_worthToOther f_t_letters_worthToOther n_t_letters_worthToOne f_t_letters_worthToOne v2 (r_16 - r_16 / 4096 * 4096)).bind fun r_33 =>
      if r_33 ≤ v6 then
        f_X1_look_s8_L119 i_t_law i_t_nonsense i_t_stamp i_t_letters_size n_t_memory n_t_letters_worthToOther f_t_letters_worthToOther n_t_letters_worthToOne f_t_letters_worthToOne i_t_letters_tongue_length i_t_letters_tongue_words f_t_letters_tongue_scales n_t_rows8_letters n_t_letters_sense f_t_letters_sense n_t_rows7_letters n_t_rows6_letters n_t_rows5_letters n_t_rows4_letters n_t_rows3_letters n_t_rows2_letters n_t_rows1_letters n v2 v4 v5 v6 (v8 + 1) z_17 i_t_rows8_count f_t_rows8_letters z_18 z_19 z_20 z_21 z_22 z_23 z_24 z_25 z_26 z_27 z_28 z_29 z_30 z_31
      else
        f_X1_look_s8_L119 i_t_law i_t_nonsense i_t_stamp i_t_letters_size n_t_memory n_t_letters_worthToOther f_t_letters_worthToOther n_t_letters_worthToOne f_t_letters_worthToOne i_t_letters_tongue_length i_t_letters_tongue_words f_t_letters_tongue_scales n_t_rows8_letters n_t_letters_sense f_t_letters_sense n_t_rows7_letters n_t_rows6_letters n_t_rows5_letters n_t_rows4_letters n_t_rows3_letters n_t_rows2_letters n_t_rows1_letters n v2 v4 (r_16 + 4096) r_33 (v8 + 1) z_17 i_t_rows8_count f_t_rows8_letters z_18 z_19 z_20 z_21 z_22 z_23 z_24 z_25 z_26 z_27 z_28 z_29 z_30 z_31
def f_X1_look_s8 (i_t_law : Int32) (i_t_nonsense : Int32) (i_t_stamp : Int32) (i_t_letters_size : Int32) (n_t_memory : Nat) (n_t_letters_worthToOther : Nat) (f_t_letters_worthToOther : Nat → Int32) (n_t_letters_worthToOne : Nat) (f_t_letters_worthToOne : Nat → Int32) (i_t_letters_tongue_length : Int32) (i_t_letters_tongue_words : Int32) (f_t_letters_tongue_scales : Nat → Int32) (n_t_rows8_letters : Nat) (n_t_letters_sense : Nat) (f_t_letters_sense : Nat → Int32) (n_t_rows7_letters : Nat) (n_t_rows6_letters : Nat) (n_t_rows5_letters : Nat) (n_t_rows4_letters : Nat) (n_t_rows3_letters : Nat) (n_t_rows2_letters : Nat) (n_t_rows1_letters : Nat) (f_t_memory : Nat → Int32) (i_t_rows8_count : Int32) (f_t_rows8_letters : Nat → Int32) (i_t_rows7_count : Int32) (f_t_rows7_letters : Nat → Int32) (i_t_rows6_count : Int32) (f_t_rows6_letters : Nat → Int32) (i_t_rows5_count : Int32) (f_t_rows5_letters : Nat → Int32) (i_t_rows4_count : Int32) (f_t_rows4_letters : Nat → Int32) (i_t_rows3_count : Int32) (f_t_rows3_letters : Nat → Int32) (i_t_rows2_count : Int32) (f_t_rows2_letters : Nat → Int32) (i_t_rows1_count : Int32) (f_t_rows1_letters : Nat → Int32) (p1 : Int32) (p2 : Int32) : Option (Int32 × (Nat → Int32) × Int32 × (Nat → Int32) × Int32 × (Nat → Int32) × Int32 × (Nat → Int32) × Int32 × (Nat → Int32) × Int32 × (Nat → Int32) × Int32 × (Nat → Int32) × Int32 × (Nat → Int32) × Int32 × (Nat → Int32)) :=
  if (((((8 - 1) * 2) + p2) * i_t_letters_size) + p1) < 0 then
    some (p1, f_t_memory, i_t_rows8_count, f_t_rows8_letters, i_t_rows7_count, f_t_rows7_letters, i_t_rows6_count, f_t_rows6_letters, i_t_rows5_count, f_t_rows5_letters, i_t_rows4_count, f_t_rows4_letters, i_t_rows3_count, f_t_rows3_letters, i_t_rows2_count, f_t_rows2_letters, i_t_rows1_count, f_t_rows1_letters)
  else
    if (((((8 - 1) * 2) + p2) * i_t_letters_size) + p1) < (nI n_t_memory) then
      if ixb (((((8 - 1) * 2) + p2) * i_t_letters_size) + p1) n_t_memory = true then
      if (((f_t_memory ((((((8 - 1) * 2) + p2) * i_t_letters_size) + p1) : Int32).toNatClampNeg).toUInt32 >>> ((16 : Int32).toUInt32 &&& Int32.toUInt32 31)).toInt32) = i_t_stamp then
        if ixb (((((8 - 1) * 2) + p2) * i_t_letters_size) + p1) n_t_memory = true then
        some (((f_t_memory ((((((8 - 1) * 2) + p2) * i_t_letters_size) + p1) : Int32).toNatClampNeg) &&& 65535), f_t_memory, i_t_rows8_count, f_t_rows8_letters, i_t_rows7_count, f_t_rows7_letters, i_t_rows6_count, f_t_rows6_letters, i_t_rows5_count, f_t_rows5_letters, i_t_rows4_count, f_t_rows4_letters, i_t_rows3_count, f_t_rows3_letters, i_t_rows2_count, f_t_rows2_letters, i_t_rows1_count, f_t_rows1_letters)
        else none
      else
        (f_X3_worthTo i_t_letters_size n_t_letters_worthToOther f_t_letters_worthToOther n_t_letters_worthToOne f_t_letters_worthToOne p2 p1).bind fun r_7 =>
        (f_X3_listChanges i_t_letters_size i_t_letters_tongue_length i_t_letters_tongue_words f_t_letters_tongue_scales n_t_rows8_letters n_t_letters_sense f_t_letters_sense i_t_rows8_count f_t_rows8_letters p1 i_t_law i_t_nonsense).bind fun (z_9, z_10) =>
        f_X1_look_s8_L119 i_t_law i_t_nonsense i_t_stamp i_t_letters_size n_t_memory n_t_letters_worthToOther f_t_letters_worthToOther n_t_letters_worthToOne f_t_letters_worthToOne i_t_letters_tongue_length i_t_letters_tongue_words f_t_letters_tongue_scales n_t_rows8_letters n_t_letters_sense f_t_letters_sense n_t_rows7_letters n_t_rows6_letters n_t_rows5_letters n_t_rows4_letters n_t_rows3_letters n_t_rows2_letters n_t_rows1_letters FU p2 (((((8 - 1) * 2) + p2) * i_t_letters_size) + p1) p1 r_7 0 f_t_memory z_9 z_10 i_t_rows7_count f_t_rows7_letters i_t_rows6_count f_t_rows6_letters i_t_rows5_count f_t_rows5_letters i_t_rows4_count f_t_rows4_letters i_t_rows3_count f_t_rows3_letters i_t_rows2_count f_t_rows2_letters i_t_rows1_count f_t_rows1_letters
      else none
    else
      some (p1, f_t_memory, i_t_rows8_count, f_t_rows8_letters, i_t_rows7_count, f_t_rows7_letters, i_t_rows6_count, f_t_rows6_letters, i_t_rows5_count, f_t_rows5_letters, i_t_rows4_count, f_t_rows4_letters, i_t_rows3_count, f_t_rows3_letters, i_t_rows2_count, f_t_rows2_letters, i_t_rows1_count, f_t_rows1_letters)
def f_X1_look_sm1 (p1 : Int32) (p2 : Int32) : Option (Int32) :=
  some p1
def f_X1_firstSent_s0_L74 (i_t_law : Int32) (i_t_nonsense : Int32) (i_t_letters_size : Int32) (n_t_letters_worthToOther : Nat) (f_t_letters_worthToOther : Nat → Int32) (n_t_letters_worthToOne : Nat) (f_t_letters_worthToOne : Nat → Int32) (i_t_letters_tongue_length : Int32) (i_t_letters_tongue_words : Int32) (f_t_letters_tongue_scales : Nat → Int32) (n_t_rows0_letters : Nat) (n_t_letters_sense : Nat) (f_t_letters_sense : Nat → Int32) : Nat → Int32 → Int32 → Int32 → Int32 → (Nat → Int32) → Option (Int32 × Int32 × (Nat → Int32))
  | 0, _, _, _, _, _ => none
  | n + 1, v2, v5, v7, i_t_rows0_count, f_t_rows0_letters =>
    if i_t_rows0_count ≤ v7 then
      some ((-1), i_t_rows0_count, f_t_rows0_letters)
    else
      (f_X6_get i_t_rows0_count n_t_rows0_letters f_t_rows0_letters v7).bind fun r_12 =>
      (f_X1_look_sm1 r_12 (1 - v2)).bind fun r_14 =>
      (f_X3_worthTo i_t_letters_size n_t_letters_worthToOther f_t_letters_worthToOther n_t_letters_worthToOne f_t_letters_worthToOne v2 (r_14 - r_14 / 4096 * 4096)).bind fun r_16 =>
      if r_16 = v5 then
        (f_X6_get i_t_rows0_count n_t_rows0_letters f_t_rows0_letters v7).bind fun r_19 =>
        some (r_19, i_t_rows0_count, f_t_rows0_letters)
      else
        f_X1_firstSent_s0_L74 i_t_law i_t_nonsense i_t_letters_size n_t_letters_worthToOther f_t_letters_worthToOther n_t_letters_worthToOne f_t_letters_worthToOne i_t_letters_tongue_length i_t_letters_tongue_words f_t_letters_tongue_scales n_t_rows0_letters n_t_letters_sense f_t_letters_sense n v2 v5 (v7 + 1) i_t_rows0_count f_t_rows0_letters
def f_X1_firstSent_s0 (i_t_law : Int32) (i_t_nonsense : Int32) (i_t_letters_size : Int32) (n_t_letters_worthToOther : Nat) (f_t_letters_worthToOther : Nat → Int32) (n_t_letters_worthToOne : Nat) (f_t_letters_worthToOne : Nat → Int32) (i_t_letters_tongue_length : Int32) (i_t_letters_tongue_words : Int32) (f_t_letters_tongue_scales : Nat → Int32) (n_t_rows0_letters : Nat) (n_t_letters_sense : Nat) (f_t_letters_sense : Nat → Int32) (i_t_rows0_count : Int32) (f_t_rows0_letters : Nat → Int32) (p1 : Int32) (p2 : Int32) : Option (Int32 × Int32 × (Nat → Int32)) :=
  (f_X1_look_s0 p1 p2).bind fun r_1 =>
  if 4096 ≤ r_1 then
    (f_X3_worthTo i_t_letters_size n_t_letters_worthToOther f_t_letters_worthToOther n_t_letters_worthToOne f_t_letters_worthToOne p2 (r_1 - r_1 / 4096 * 4096)).bind fun r_6 =>
    (f_X3_listChanges i_t_letters_size i_t_letters_tongue_length i_t_letters_tongue_words f_t_letters_tongue_scales n_t_rows0_letters n_t_letters_sense f_t_letters_sense i_t_rows0_count f_t_rows0_letters p1 i_t_law i_t_nonsense).bind fun (z_8, z_9) =>
    f_X1_firstSent_s0_L74 i_t_law i_t_nonsense i_t_letters_size n_t_letters_worthToOther f_t_letters_worthToOther n_t_letters_worthToOne f_t_letters_worthToOne i_t_letters_tongue_length i_t_letters_tongue_words f_t_letters_tongue_scales n_t_rows0_letters n_t_letters_sense f_t_letters_sense FU p2 r_6 0 z_8 z_9
  else
    some ((-1), i_t_rows0_count, f_t_rows0_letters)
def f_X1_firstSent_s1_L74 (i_t_law : Int32) (i_t_nonsense : Int32) (i_t_stamp : Int32) (i_t_letters_size : Int32) (n_t_memory : Nat) (n_t_letters_worthToOther : Nat) (f_t_letters_worthToOther : Nat → Int32) (n_t_letters_worthToOne : Nat) (f_t_letters_worthToOne : Nat → Int32) (i_t_letters_tongue_length : Int32) (i_t_letters_tongue_words : Int32) (f_t_letters_tongue_scales : Nat → Int32) (n_t_rows1_letters : Nat) (n_t_letters_sense : Nat) (f_t_letters_sense : Nat → Int32) : Nat → Int32 → Int32 → Int32 → (Nat → Int32) → Int32 → (Nat → Int32) → Option (Int32 × (Nat → Int32) × Int32 × (Nat → Int32))
  | 0, _, _, _, _, _, _ => none
  | n + 1, v2, v5, v7, f_t_memory, i_t_rows1_count, f_t_rows1_letters =>
    if i_t_rows1_count ≤ v7 then
      some ((-1), f_t_memory, i_t_rows1_count, f_t_rows1_letters)
    else
      (f_X6_get i_t_rows1_count n_t_rows1_letters f_t_rows1_letters v7).bind fun r_15 =>
      (f_X1_look_s0 r_15 (1 - v2)).bind fun r_17 =>
      (f_X3_worthTo i_t_letters_size n_t_letters_worthToOther f_t_letters_worthToOther n_t_letters_worthToOne f_t_letters_worthToOne v2 (r_17 - r_17 / 4096 * 4096)).bind fun r_19 =>
      if r_19 = v5 then
        (f_X6_get i_t_rows1_count n_t_rows1_letters f_t_rows1_letters v7).bind fun r_22 =>
        some (r_22, f_t_memory, i_t_rows1_count, f_t_rows1_letters)
      else
        f_X1_firstSent_s1_L74 i_t_law i_t_nonsense i_t_stamp i_t_letters_size n_t_memory n_t_letters_worthToOther f_t_letters_worthToOther n_t_letters_worthToOne f_t_letters_worthToOne i_t_letters_tongue_length i_t_letters_tongue_words f_t_letters_tongue_scales n_t_rows1_letters n_t_letters_sense f_t_letters_sense n v2 v5 (v7 + 1) f_t_memory i_t_rows1_count f_t_rows1_letters
def f_X1_firstSent_s1 (i_t_law : Int32) (i_t_nonsense : Int32) (i_t_stamp : Int32) (i_t_letters_size : Int32) (n_t_memory : Nat) (n_t_letters_worthToOther : Nat) (f_t_letters_worthToOther : Nat → Int32) (n_t_letters_worthToOne : Nat) (f_t_letters_worthToOne : Nat → Int32) (i_t_letters_tongue_length : Int32) (i_t_letters_tongue_words : Int32) (f_t_letters_tongue_scales : Nat → Int32) (n_t_rows1_letters : Nat) (n_t_letters_sense : Nat) (f_t_letters_sense : Nat → Int32) (f_t_memory : Nat → Int32) (i_t_rows1_count : Int32) (f_t_rows1_letters : Nat → Int32) (p1 : Int32) (p2 : Int32) : Option (Int32 × (Nat → Int32) × Int32 × (Nat → Int32)) :=
  (f_X1_look_s1 i_t_law i_t_nonsense i_t_stamp i_t_letters_size n_t_memory n_t_letters_worthToOther f_t_letters_worthToOther n_t_letters_worthToOne f_t_letters_worthToOne i_t_letters_tongue_length i_t_letters_tongue_words f_t_letters_tongue_scales n_t_rows1_letters n_t_letters_sense f_t_letters_sense f_t_memory i_t_rows1_count f_t_rows1_letters p1 p2).bind fun (r_1, z_2, z_3, z_4) =>
  if 4096 ≤ r_1 then
    (f_X3_worthTo i_t_letters_size n_t_letters_worthToOther f_t_letters_worthToOther n_t_letters_worthToOne f_t_letters_worthToOne p2 (r_1 - r_1 / 4096 * 4096)).bind fun r_9 =>
    (f_X3_listChanges i_t_letters_size i_t_letters_tongue_length i_t_letters_tongue_words f_t_letters_tongue_scales n_t_rows1_letters n_t_letters_sense f_t_letters_sense z_3 z_4 p1 i_t_law i_t_nonsense).bind fun (z_11, z_12) =>
    f_X1_firstSent_s1_L74 i_t_law i_t_nonsense i_t_stamp i_t_letters_size n_t_memory n_t_letters_worthToOther f_t_letters_worthToOther n_t_letters_worthToOne f_t_letters_worthToOne i_t_letters_tongue_length i_t_letters_tongue_words f_t_letters_tongue_scales n_t_rows1_letters n_t_letters_sense f_t_letters_sense FU p2 r_9 0 z_2 z_11 z_12
  else
    some ((-1), z_2, z_3, z_4)
def f_X1_firstSent_s2_L74 (i_t_law : Int32) (i_t_nonsense : Int32) (i_t_stamp : Int32) (i_t_letters_size : Int32) (n_t_memory : Nat) (n_t_letters_worthToOther : Nat) (f_t_letters_worthToOther : Nat → Int32) (n_t_letters_worthToOne : Nat) (f_t_letters_worthToOne : Nat → Int32) (i_t_letters_tongue_length : Int32) (i_t_letters_tongue_words : Int32) (f_t_letters_tongue_scales : Nat → Int32) (n_t_rows2_letters : Nat) (n_t_letters_sense : Nat) (f_t_letters_sense : Nat → Int32) (n_t_rows1_letters : Nat) : Nat → Int32 → Int32 → Int32 → (Nat → Int32) → Int32 → (Nat → Int32) → Int32 → (Nat → Int32) → Option (Int32 × (Nat → Int32) × Int32 × (Nat → Int32) × Int32 × (Nat → Int32))
  | 0, _, _, _, _, _, _, _, _ => none
  | n + 1, v2, v5, v7, f_t_memory, i_t_rows2_count, f_t_rows2_letters, i_t_rows1_count, f_t_rows1_letters =>
    if i_t_rows2_count ≤ v7 then
      some ((-1), f_t_memory, i_t_rows2_count, f_t_rows2_letters, i_t_rows1_count, f_t_rows1_letters)
    else
      (f_X6_get i_t_rows2_count n_t_rows2_letters f_t_rows2_letters v7).bind fun r_17 =>
      (f_X1_look_s1 i_t_law i_t_nonsense i_t_stamp i_t_letters_size n_t_memory n_t_letters_worthToOther f_t_letters_worthToOther n_t_letters_worthToOne f_t_letters_worthToOne i_t_letters_tongue_length i_t_letters_tongue_words f_t_letters_tongue_scales n_t_rows1_letters n_t_letters_sense f_t_letters_sense f_t_memory i_t_rows1_count f_t_rows1_letters r_17 (1 - v2)).bind fun (r_19, z_20, z_21, z_22) =>
      (f_X3_worthTo i_t_letters_size n_t_letters_worthToOther f_t_letters_worthToOther n_t_letters_worthToOne f_t_letters_worthToOne v2 (r_19 - r_19 / 4096 * 4096)).bind fun r_24 =>
      if r_24 = v5 then
        (f_X6_get i_t_rows2_count n_t_rows2_letters f_t_rows2_letters v7).bind fun r_27 =>
        some (r_27, z_20, i_t_rows2_count, f_t_rows2_letters, z_21, z_22)
      else
        f_X1_firstSent_s2_L74 i_t_law i_t_nonsense i_t_stamp i_t_letters_size n_t_memory n_t_letters_worthToOther f_t_letters_worthToOther n_t_letters_worthToOne f_t_letters_worthToOne i_t_letters_tongue_length i_t_letters_tongue_words f_t_letters_tongue_scales n_t_rows2_letters n_t_letters_sense f_t_letters_sense n_t_rows1_letters n v2 v5 (v7 + 1) z_20 i_t_rows2_count f_t_rows2_letters z_21 z_22
def f_X1_firstSent_s2 (i_t_law : Int32) (i_t_nonsense : Int32) (i_t_stamp : Int32) (i_t_letters_size : Int32) (n_t_memory : Nat) (n_t_letters_worthToOther : Nat) (f_t_letters_worthToOther : Nat → Int32) (n_t_letters_worthToOne : Nat) (f_t_letters_worthToOne : Nat → Int32) (i_t_letters_tongue_length : Int32) (i_t_letters_tongue_words : Int32) (f_t_letters_tongue_scales : Nat → Int32) (n_t_rows2_letters : Nat) (n_t_letters_sense : Nat) (f_t_letters_sense : Nat → Int32) (n_t_rows1_letters : Nat) (f_t_memory : Nat → Int32) (i_t_rows2_count : Int32) (f_t_rows2_letters : Nat → Int32) (i_t_rows1_count : Int32) (f_t_rows1_letters : Nat → Int32) (p1 : Int32) (p2 : Int32) : Option (Int32 × (Nat → Int32) × Int32 × (Nat → Int32) × Int32 × (Nat → Int32)) :=
  (f_X1_look_s2 i_t_law i_t_nonsense i_t_stamp i_t_letters_size n_t_memory n_t_letters_worthToOther f_t_letters_worthToOther n_t_letters_worthToOne f_t_letters_worthToOne i_t_letters_tongue_length i_t_letters_tongue_words f_t_letters_tongue_scales n_t_rows2_letters n_t_letters_sense f_t_letters_sense n_t_rows1_letters f_t_memory i_t_rows2_count f_t_rows2_letters i_t_rows1_count f_t_rows1_letters p1 p2).bind fun (r_1, z_2, z_3, z_4, z_5, z_6) =>
  if 4096 ≤ r_1 then
    (f_X3_worthTo i_t_letters_size n_t_letters_worthToOther f_t_letters_worthToOther n_t_letters_worthToOne f_t_letters_worthToOne p2 (r_1 - r_1 / 4096 * 4096)).bind fun r_11 =>
    (f_X3_listChanges i_t_letters_size i_t_letters_tongue_length i_t_letters_tongue_words f_t_letters_tongue_scales n_t_rows2_letters n_t_letters_sense f_t_letters_sense z_3 z_4 p1 i_t_law i_t_nonsense).bind fun (z_13, z_14) =>
    f_X1_firstSent_s2_L74 i_t_law i_t_nonsense i_t_stamp i_t_letters_size n_t_memory n_t_letters_worthToOther f_t_letters_worthToOther n_t_letters_worthToOne f_t_letters_worthToOne i_t_letters_tongue_length i_t_letters_tongue_words f_t_letters_tongue_scales n_t_rows2_letters n_t_letters_sense f_t_letters_sense n_t_rows1_letters FU p2 r_11 0 z_2 z_13 z_14 z_5 z_6
  else
    some ((-1), z_2, z_3, z_4, z_5, z_6)
def f_X1_firstSent_s3_L74 (i_t_law : Int32) (i_t_nonsense : Int32) (i_t_stamp : Int32) (i_t_letters_size : Int32) (n_t_memory : Nat) (n_t_letters_worthToOther : Nat) (f_t_letters_worthToOther : Nat → Int32) (n_t_letters_worthToOne : Nat) (f_t_letters_worthToOne : Nat → Int32) (i_t_letters_tongue_length : Int32) (i_t_letters_tongue_words : Int32) (f_t_letters_tongue_scales : Nat → Int32) (n_t_rows3_letters : Nat) (n_t_letters_sense : Nat) (f_t_letters_sense : Nat → Int32) (n_t_rows2_letters : Nat) (n_t_rows1_letters : Nat) : Nat → Int32 → Int32 → Int32 → (Nat → Int32) → Int32 → (Nat → Int32) → Int32 → (Nat → Int32) → Int32 → (Nat → Int32) → Option (Int32 × (Nat → Int32) × Int32 × (Nat → Int32) × Int32 × (Nat → Int32) × Int32 × (Nat → Int32))
  | 0, _, _, _, _, _, _, _, _, _, _ => none
  | n + 1, v2, v5, v7, f_t_memory, i_t_rows3_count, f_t_rows3_letters, i_t_rows2_count, f_t_rows2_letters, i_t_rows1_count, f_t_rows1_letters =>
    if i_t_rows3_count ≤ v7 then
      some ((-1), f_t_memory, i_t_rows3_count, f_t_rows3_letters, i_t_rows2_count, f_t_rows2_letters, i_t_rows1_count, f_t_rows1_letters)
    else
      (f_X6_get i_t_rows3_count n_t_rows3_letters f_t_rows3_letters v7).bind fun r_19 =>
      (f_X1_look_s2 i_t_law i_t_nonsense i_t_stamp i_t_letters_size n_t_memory n_t_letters_worthToOther f_t_letters_worthToOther n_t_letters_worthToOne f_t_letters_worthToOne i_t_letters_tongue_length i_t_letters_tongue_words f_t_letters_tongue_scales n_t_rows2_letters n_t_letters_sense f_t_letters_sense n_t_rows1_letters f_t_memory i_t_rows2_count f_t_rows2_letters i_t_rows1_count f_t_rows1_letters r_19 (1 - v2)).bind fun (r_21, z_22, z_23, z_24, z_25, z_26) =>
      (f_X3_worthTo i_t_letters_size n_t_letters_worthToOther f_t_letters_worthToOther n_t_letters_worthToOne f_t_letters_worthToOne v2 (r_21 - r_21 / 4096 * 4096)).bind fun r_28 =>
      if r_28 = v5 then
        (f_X6_get i_t_rows3_count n_t_rows3_letters f_t_rows3_letters v7).bind fun r_31 =>
        some (r_31, z_22, i_t_rows3_count, f_t_rows3_letters, z_23, z_24, z_25, z_26)
      else
        f_X1_firstSent_s3_L74 i_t_law i_t_nonsense i_t_stamp i_t_letters_size n_t_memory n_t_letters_worthToOther f_t_letters_worthToOther n_t_letters_worthToOne f_t_letters_worthToOne i_t_letters_tongue_length i_t_letters_tongue_words f_t_letters_tongue_scales n_t_rows3_letters n_t_letters_sense f_t_letters_sense n_t_rows2_letters n_t_rows1_letters n v2 v5 (v7 + 1) z_22 i_t_rows3_count f_t_rows3_letters z_23 z_24 z_25 z_26
def f_X1_firstSent_s3 (i_t_law : Int32) (i_t_nonsense : Int32) (i_t_stamp : Int32) (i_t_letters_size : Int32) (n_t_memory : Nat) (n_t_letters_worthToOther : Nat) (f_t_letters_worthToOther : Nat → Int32) (n_t_letters_worthToOne : Nat) (f_t_letters_worthToOne : Nat → Int32) (i_t_letters_tongue_length : Int32) (i_t_letters_tongue_words : Int32) (f_t_letters_tongue_scales : Nat → Int32) (n_t_rows3_letters : Nat) (n_t_letters_sense : Nat) (f_t_letters_sense : Nat → Int32) (n_t_rows2_letters : Nat) (n_t_rows1_letters : Nat) (f_t_memory : Nat → Int32) (i_t_rows3_count : Int32) (f_t_rows3_letters : Nat → Int32) (i_t_rows2_count : Int32) (f_t_rows2_letters : Nat → Int32) (i_t_rows1_count : Int32) (f_t_rows1_letters : Nat → Int32) (p1 : Int32) (p2 : Int32) : Option (Int32 × (Nat → Int32) × Int32 × (Nat → Int32) × Int32 × (Nat → Int32) × Int32 × (Nat → Int32)) :=
  (f_X1_look_s3 i_t_law i_t_nonsense i_t_stamp i_t_letters_size n_t_memory n_t_letters_worthToOther f_t_letters_worthToOther n_t_letters_worthToOne f_t_letters_worthToOne i_t_letters_tongue_length i_t_letters_tongue_words f_t_letters_tongue_scales n_t_rows3_letters n_t_letters_sense f_t_letters_sense n_t_rows2_letters n_t_rows1_letters f_t_memory i_t_rows3_count f_t_rows3_letters i_t_rows2_count f_t_rows2_letters i_t_rows1_count f_t_rows1_letters p1 p2).bind fun (r_1, z_2, z_3, z_4, z_5, z_6, z_7, z_8) =>
  if 4096 ≤ r_1 then
    (f_X3_worthTo i_t_letters_size n_t_letters_worthToOther f_t_letters_worthToOther n_t_letters_worthToOne f_t_letters_worthToOne p2 (r_1 - r_1 / 4096 * 4096)).bind fun r_13 =>
    (f_X3_listChanges i_t_letters_size i_t_letters_tongue_length i_t_letters_tongue_words f_t_letters_tongue_scales n_t_rows3_letters n_t_letters_sense f_t_letters_sense z_3 z_4 p1 i_t_law i_t_nonsense).bind fun (z_15, z_16) =>
    f_X1_firstSent_s3_L74 i_t_law i_t_nonsense i_t_stamp i_t_letters_size n_t_memory n_t_letters_worthToOther f_t_letters_worthToOther n_t_letters_worthToOne f_t_letters_worthToOne i_t_letters_tongue_length i_t_letters_tongue_words f_t_letters_tongue_scales n_t_rows3_letters n_t_letters_sense f_t_letters_sense n_t_rows2_letters n_t_rows1_letters FU p2 r_13 0 z_2 z_15 z_16 z_5 z_6 z_7 z_8
  else
    some ((-1), z_2, z_3, z_4, z_5, z_6, z_7, z_8)
def f_X1_firstSent_s4_L74 (i_t_law : Int32) (i_t_nonsense : Int32) (i_t_stamp : Int32) (i_t_letters_size : Int32) (n_t_memory : Nat) (n_t_letters_worthToOther : Nat) (f_t_letters_worthToOther : Nat → Int32) (n_t_letters_worthToOne : Nat) (f_t_letters_worthToOne : Nat → Int32) (i_t_letters_tongue_length : Int32) (i_t_letters_tongue_words : Int32) (f_t_letters_tongue_scales : Nat → Int32) (n_t_rows4_letters : Nat) (n_t_letters_sense : Nat) (f_t_letters_sense : Nat → Int32) (n_t_rows3_letters : Nat) (n_t_rows2_letters : Nat) (n_t_rows1_letters : Nat) : Nat → Int32 → Int32 → Int32 → (Nat → Int32) → Int32 → (Nat → Int32) → Int32 → (Nat → Int32) → Int32 → (Nat → Int32) → Int32 → (Nat → Int32) → Option (Int32 × (Nat → Int32) × Int32 × (Nat → Int32) × Int32 × (Nat → Int32) × Int32 × (Nat → Int32) × Int32 × (Nat → Int32))
  | 0, _, _, _, _, _, _, _, _, _, _, _, _ => none
  | n + 1, v2, v5, v7, f_t_memory, i_t_rows4_count, f_t_rows4_letters, i_t_rows3_count, f_t_rows3_letters, i_t_rows2_count, f_t_rows2_letters, i_t_rows1_count, f_t_rows1_letters =>
    if i_t_rows4_count ≤ v7 then
      some ((-1), f_t_memory, i_t_rows4_count, f_t_rows4_letters, i_t_rows3_count, f_t_rows3_letters, i_t_rows2_count, f_t_rows2_letters, i_t_rows1_count, f_t_rows1_letters)
    else
      (f_X6_get i_t_rows4_count n_t_rows4_letters f_t_rows4_letters v7).bind fun r_21 =>
      (f_X1_look_s3 i_t_law i_t_nonsense i_t_stamp i_t_letters_size n_t_memory n_t_letters_worthToOther f_t_letters_worthToOther n_t_letters_worthToOne f_t_letters_worthToOne i_t_letters_tongue_length i_t_letters_tongue_words f_t_letters_tongue_scales n_t_rows3_letters n_t_letters_sense f_t_letters_sense n_t_rows2_letters n_t_rows1_letters f_t_memory i_t_rows3_count f_t_rows3_letters i_t_rows2_count f_t_rows2_letters i_t_rows1_count f_t_rows1_letters r_21 (1 - v2)).bind fun (r_23, z_24, z_25, z_26, z_27, z_28, z_29, z_30) =>
      (f_X3_worthTo i_t_letters_size n_t_letters_worthToOther f_t_letters_worthToOther n_t_letters_worthToOne f_t_letters_worthToOne v2 (r_23 - r_23 / 4096 * 4096)).bind fun r_32 =>
      if r_32 = v5 then
        (f_X6_get i_t_rows4_count n_t_rows4_letters f_t_rows4_letters v7).bind fun r_35 =>
        some (r_35, z_24, i_t_rows4_count, f_t_rows4_letters, z_25, z_26, z_27, z_28, z_29, z_30)
      else
        f_X1_firstSent_s4_L74 i_t_law i_t_nonsense i_t_stamp i_t_letters_size n_t_memory n_t_letters_worthToOther f_t_letters_worthToOther n_t_letters_worthToOne f_t_letters_worthToOne i_t_letters_tongue_length i_t_letters_tongue_words f_t_letters_tongue_scales n_t_rows4_letters n_t_letters_sense f_t_letters_sense n_t_rows3_letters n_t_rows2_letters n_t_rows1_letters n v2 v5 (v7 + 1) z_24 i_t_rows4_count f_t_rows4_letters z_25 z_26 z_27 z_28 z_29 z_30
def f_X1_firstSent_s4 (i_t_law : Int32) (i_t_nonsense : Int32) (i_t_stamp : Int32) (i_t_letters_size : Int32) (n_t_memory : Nat) (n_t_letters_worthToOther : Nat) (f_t_letters_worthToOther : Nat → Int32) (n_t_letters_worthToOne : Nat) (f_t_letters_worthToOne : Nat → Int32) (i_t_letters_tongue_length : Int32) (i_t_letters_tongue_words : Int32) (f_t_letters_tongue_scales : Nat → Int32) (n_t_rows4_letters : Nat) (n_t_letters_sense : Nat) (f_t_letters_sense : Nat → Int32) (n_t_rows3_letters : Nat) (n_t_rows2_letters : Nat) (n_t_rows1_letters : Nat) (f_t_memory : Nat → Int32) (i_t_rows4_count : Int32) (f_t_rows4_letters : Nat → Int32) (i_t_rows3_count : Int32) (f_t_rows3_letters : Nat → Int32) (i_t_rows2_count : Int32) (f_t_rows2_letters : Nat → Int32) (i_t_rows1_count : Int32) (f_t_rows1_letters : Nat → Int32) (p1 : Int32) (p2 : Int32) : Option (Int32 × (Nat → Int32) × Int32 × (Nat → Int32) × Int32 × (Nat → Int32) × Int32 × (Nat → Int32) × Int32 × (Nat → Int32)) :=
  (f_X1_look_s4 i_t_law i_t_nonsense i_t_stamp i_t_letters_size n_t_memory n_t_letters_worthToOther f_t_letters_worthToOther n_t_letters_worthToOne f_t_letters_worthToOne i_t_letters_tongue_length i_t_letters_tongue_words f_t_letters_tongue_scales n_t_rows4_letters n_t_letters_sense f_t_letters_sense n_t_rows3_letters n_t_rows2_letters n_t_rows1_letters f_t_memory i_t_rows4_count f_t_rows4_letters i_t_rows3_count f_t_rows3_letters i_t_rows2_count f_t_rows2_letters i_t_rows1_count f_t_rows1_letters p1 p2).bind fun (r_1, z_2, z_3, z_4, z_5, z_6, z_7, z_8, z_9, z_10) =>
  if 4096 ≤ r_1 then
    (f_X3_worthTo i_t_letters_size n_t_letters_worthToOther f_t_letters_worthToOther n_t_letters_worthToOne f_t_letters_worthToOne p2 (r_1 - r_1 / 4096 * 4096)).bind fun r_15 =>
    (f_X3_listChanges i_t_letters_size i_t_letters_tongue_length i_t_letters_tongue_words f_t_letters_tongue_scales n_t_rows4_letters n_t_letters_sense f_t_letters_sense z_3 z_4 p1 i_t_law i_t_nonsense).bind fun (z_17, z_18) =>
    f_X1_firstSent_s4_L74 i_t_law i_t_nonsense i_t_stamp i_t_letters_size n_t_memory n_t_letters_worthToOther f_t_letters_worthToOther n_t_letters_worthToOne f_t_letters_worthToOne i_t_letters_tongue_length i_t_letters_tongue_words f_t_letters_tongue_scales n_t_rows4_letters n_t_letters_sense f_t_letters_sense n_t_rows3_letters n_t_rows2_letters n_t_rows1_letters FU p2 r_15 0 z_2 z_17 z_18 z_5 z_6 z_7 z_8 z_9 z_10
  else
    some ((-1), z_2, z_3, z_4, z_5, z_6, z_7, z_8, z_9, z_10)
def f_X1_firstSent_s5_L74 (i_t_law : Int32) (i_t_nonsense : Int32) (i_t_stamp : Int32) (i_t_letters_size : Int32) (n_t_memory : Nat) (n_t_letters_worthToOther : Nat) (f_t_letters_worthToOther : Nat → Int32) (n_t_letters_worthToOne : Nat) (f_t_letters_worthToOne : Nat → Int32) (i_t_letters_tongue_length : Int32) (i_t_letters_tongue_words : Int32) (f_t_letters_tongue_scales : Nat → Int32) (n_t_rows5_letters : Nat) (n_t_letters_sense : Nat) (f_t_letters_sense : Nat → Int32) (n_t_rows4_letters : Nat) (n_t_rows3_letters : Nat) (n_t_rows2_letters : Nat) (n_t_rows1_letters : Nat) : Nat → Int32 → Int32 → Int32 → (Nat → Int32) → Int32 → (Nat → Int32) → Int32 → (Nat → Int32) → Int32 → (Nat → Int32) → Int32 → (Nat → Int32) → Int32 → (Nat → Int32) → Option (Int32 × (Nat → Int32) × Int32 × (Nat → Int32) × Int32 × (Nat → Int32) × Int32 × (Nat → Int32) × Int32 × (Nat → Int32) × Int32 × (Nat → Int32))
  | 0, _, _, _, _, _, _, _, _, _, _, _, _, _, _ => none
  | n + 1, v2, v5, v7, f_t_memory, i_t_rows5_count, f_t_rows5_letters, i_t_rows4_count, f_t_rows4_letters, i_t_rows3_count, f_t_rows3_letters, i_t_rows2_count, f_t_rows2_letters, i_t_rows1_count, f_t_rows1_letters =>
    if i_t_rows5_count ≤ v7 then
      some ((-1), f_t_memory, i_t_rows5_count, f_t_rows5_letters, i_t_rows4_count, f_t_rows4_letters, i_t_rows3_count, f_t_rows3_letters, i_t_rows2_count, f_t_rows2_letters, i_t_rows1_count, f_t_rows1_letters)
    else
      (f_X6_get i_t_rows5_count n_t_rows5_letters f_t_rows5_letters v7).bind fun r_23 =>
      (f_X1_look_s4 i_t_law i_t_nonsense i_t_stamp i_t_letters_size n_t_memory n_t_letters_worthToOther f_t_letters_worthToOther n_t_letters_worthToOne f_t_letters_worthToOne i_t_letters_tongue_length i_t_letters_tongue_words f_t_letters_tongue_scales n_t_rows4_letters n_t_letters_sense f_t_letters_sense n_t_rows3_letters n_t_rows2_letters n_t_rows1_letters f_t_memory i_t_rows4_count f_t_rows4_letters i_t_rows3_count f_t_rows3_letters i_t_rows2_count f_t_rows2_letters i_t_rows1_count f_t_rows1_letters r_23 (1 - v2)).bind fun (r_25, z_26, z_27, z_28, z_29, z_30, z_31, z_32, z_33, z_34) =>
      (f_X3_worthTo i_t_letters_size n_t_letters_worthToOther f_t_letters_worthToOther n_t_letters_worthToOne f_t_letters_worthToOne v2 (r_25 - r_25 / 4096 * 4096)).bind fun r_36 =>
      if r_36 = v5 then
        (f_X6_get i_t_rows5_count n_t_rows5_letters f_t_rows5_letters v7).bind fun r_39 =>
        some (r_39, z_26, i_t_rows5_count, f_t_rows5_letters, z_27, z_28, z_29, z_30, z_31, z_32, z_33, z_34)
      else
        f_X1_firstSent_s5_L74 i_t_law i_t_nonsense i_t_stamp i_t_letters_size n_t_memory n_t_letters_worthToOther f_t_letters_worthToOther n_t_letters_worthToOne f_t_letters_worthToOne i_t_letters_tongue_length i_t_letters_tongue_words f_t_letters_tongue_scales n_t_rows5_letters n_t_letters_sense f_t_letters_sense n_t_rows4_letters n_t_rows3_letters n_t_rows2_letters n_t_rows1_letters n v2 v5 (v7 + 1) z_26 i_t_rows5_count f_t_rows5_letters z_27 z_28 z_29 z_30 z_31 z_32 z_33 z_34
def f_X1_firstSent_s5 (i_t_law : Int32) (i_t_nonsense : Int32) (i_t_stamp : Int32) (i_t_letters_size : Int32) (n_t_memory : Nat) (n_t_letters_worthToOther : Nat) (f_t_letters_worthToOther : Nat → Int32) (n_t_letters_worthToOne : Nat) (f_t_letters_worthToOne : Nat → Int32) (i_t_letters_tongue_length : Int32) (i_t_letters_tongue_words : Int32) (f_t_letters_tongue_scales : Nat → Int32) (n_t_rows5_letters : Nat) (n_t_letters_sense : Nat) (f_t_letters_sense : Nat → Int32) (n_t_rows4_letters : Nat) (n_t_rows3_letters : Nat) (n_t_rows2_letters : Nat) (n_t_rows1_letters : Nat) (f_t_memory : Nat → Int32) (i_t_rows5_count : Int32) (f_t_rows5_letters : Nat → Int32) (i_t_rows4_count : Int32) (f_t_rows4_letters : Nat → Int32) (i_t_rows3_count : Int32) (f_t_rows3_letters : Nat → Int32) (i_t_rows2_count : Int32) (f_t_rows2_letters : Nat → Int32) (i_t_rows1_count : Int32) (f_t_rows1_letters : Nat → Int32) (p1 : Int32) (p2 : Int32) : Option (Int32 × (Nat → Int32) × Int32 × (Nat → Int32) × Int32 × (Nat → Int32) × Int32 × (Nat → Int32) × Int32 × (Nat → Int32) × Int32 × (Nat → Int32)) :=
  (f_X1_look_s5 i_t_law i_t_nonsense i_t_stamp i_t_letters_size n_t_memory n_t_letters_worthToOther f_t_letters_worthToOther n_t_letters_worthToOne f_t_letters_worthToOne i_t_letters_tongue_length i_t_letters_tongue_words f_t_letters_tongue_scales n_t_rows5_letters n_t_letters_sense f_t_letters_sense n_t_rows4_letters n_t_rows3_letters n_t_rows2_letters n_t_rows1_letters f_t_memory i_t_rows5_count f_t_rows5_letters i_t_rows4_count f_t_rows4_letters i_t_rows3_count f_t_rows3_letters i_t_rows2_count f_t_rows2_letters i_t_rows1_count f_t_rows1_letters p1 p2).bind fun (r_1, z_2, z_3, z_4, z_5, z_6, z_7, z_8, z_9, z_10, z_11, z_12) =>
  if 4096 ≤ r_1 then
    (f_X3_worthTo i_t_letters_size n_t_letters_worthToOther f_t_letters_worthToOther n_t_letters_worthToOne f_t_letters_worthToOne p2 (r_1 - r_1 / 4096 * 4096)).bind fun r_17 =>
    (f_X3_listChanges i_t_letters_size i_t_letters_tongue_length i_t_letters_tongue_words f_t_letters_tongue_scales n_t_rows5_letters n_t_letters_sense f_t_letters_sense z_3 z_4 p1 i_t_law i_t_nonsense).bind fun (z_19, z_20) =>
    f_X1_firstSent_s5_L74 i_t_law i_t_nonsense i_t_stamp i_t_letters_size n_t_memory n_t_letters_worthToOther f_t_letters_worthToOther n_t_letters_worthToOne f_t_letters_worthToOne i_t_letters_tongue_length i_t_letters_tongue_words f_t_letters_tongue_scales n_t_rows5_letters n_t_letters_sense f_t_letters_sense n_t_rows4_letters n_t_rows3_letters n_t_rows2_letters n_t_rows1_letters FU p2 r_17 0 z_2 z_19 z_20 z_5 z_6 z_7 z_8 z_9 z_10 z_11 z_12
  else
    some ((-1), z_2, z_3, z_4, z_5, z_6, z_7, z_8, z_9, z_10, z_11, z_12)
def f_X1_firstSent_s6_L74 (i_t_law : Int32) (i_t_nonsense : Int32) (i_t_stamp : Int32) (i_t_letters_size : Int32) (n_t_memory : Nat) (n_t_letters_worthToOther : Nat) (f_t_letters_worthToOther : Nat → Int32) (n_t_letters_worthToOne : Nat) (f_t_letters_worthToOne : Nat → Int32) (i_t_letters_tongue_length : Int32) (i_t_letters_tongue_words : Int32) (f_t_letters_tongue_scales : Nat → Int32) (n_t_rows6_letters : Nat) (n_t_letters_sense : Nat) (f_t_letters_sense : Nat → Int32) (n_t_rows5_letters : Nat) (n_t_rows4_letters : Nat) (n_t_rows3_letters : Nat) (n_t_rows2_letters : Nat) (n_t_rows1_letters : Nat) : Nat → Int32 → Int32 → Int32 → (Nat → Int32) → Int32 → (Nat → Int32) → Int32 → (Nat → Int32) → Int32 → (Nat → Int32) → Int32 → (Nat → Int32) → Int32 → (Nat → Int32) → Int32 → (Nat → Int32) → Option (Int32 × (Nat → Int32) × Int32 × (Nat → Int32) × Int32 × (Nat → Int32) × Int32 × (Nat → Int32) × Int32 × (Nat → Int32) × Int32 × (Nat → Int32) × Int32 × (Nat → Int32))
  | 0, _, _, _, _, _, _, _, _, _, _, _, _, _, _, _, _ => none
  | n + 1, v2, v5, v7, f_t_memory, i_t_rows6_count, f_t_rows6_letters, i_t_rows5_count, f_t_rows5_letters, i_t_rows4_count, f_t_rows4_letters, i_t_rows3_count, f_t_rows3_letters, i_t_rows2_count, f_t_rows2_letters, i_t_rows1_count, f_t_rows1_letters =>
    if i_t_rows6_count ≤ v7 then
      some ((-1), f_t_memory, i_t_rows6_count, f_t_rows6_letters, i_t_rows5_count, f_t_rows5_letters, i_t_rows4_count, f_t_rows4_letters, i_t_rows3_count, f_t_rows3_letters, i_t_rows2_count, f_t_rows2_letters, i_t_rows1_count, f_t_rows1_letters)
    else
      (f_X6_get i_t_rows6_count n_t_rows6_letters f_t_rows6_letters v7).bind fun r_25 =>
      (f_X1_look_s5 i_t_law i_t_nonsense i_t_stamp i_t_letters_size n_t_memory n_t_letters_worthToOther f_t_letters_worthToOther n_t_letters_worthToOne f_t_letters_worthToOne i_t_letters_tongue_length i_t_letters_tongue_words f_t_letters_tongue_scales n_t_rows5_letters n_t_letters_sense f_t_letters_sense n_t_rows4_letters n_t_rows3_letters n_t_rows2_letters n_t_rows1_letters f_t_memory i_t_rows5_count f_t_rows5_letters i_t_rows4_count f_t_rows4_letters i_t_rows3_count f_t_rows3_letters i_t_rows2_count f_t_rows2_letters i_t_rows1_count f_t_rows1_letters r_25 (1 - v2)).bind fun (r_27, z_28, z_29, z_30, z_31, z_32, z_33, z_34, z_35, z_36, z_37, z_38) =>
      (f_X3_worthTo i_t_letters_size n_t_letters_worthToOther f_t_letters_worthToOther n_t_letters_worthToOne f_t_letters_worthToOne v2 (r_27 - r_27 / 4096 * 4096)).bind fun r_40 =>
      if r_40 = v5 then
        (f_X6_get i_t_rows6_count n_t_rows6_letters f_t_rows6_letters v7).bind fun r_43 =>
        some (r_43, z_28, i_t_rows6_count, f_t_rows6_letters, z_29, z_30, z_31, z_32, z_33, z_34, z_35, z_36, z_37, z_38)
      else
        f_X1_firstSent_s6_L74 i_t_law i_t_nonsense i_t_stamp i_t_letters_size n_t_memory n_t_letters_worthToOther f_t_letters_worthToOther n_t_letters_worthToOne f_t_letters_worthToOne i_t_letters_tongue_length i_t_letters_tongue_words f_t_letters_tongue_scales n_t_rows6_letters n_t_letters_sense f_t_letters_sense n_t_rows5_letters n_t_rows4_letters n_t_rows3_letters n_t_rows2_letters n_t_rows1_letters n v2 v5 (v7 + 1) z_28 i_t_rows6_count f_t_rows6_letters z_29 z_30 z_31 z_32 z_33 z_34 z_35 z_36 z_37 z_38
def f_X1_firstSent_s6 (i_t_law : Int32) (i_t_nonsense : Int32) (i_t_stamp : Int32) (i_t_letters_size : Int32) (n_t_memory : Nat) (n_t_letters_worthToOther : Nat) (f_t_letters_worthToOther : Nat → Int32) (n_t_letters_worthToOne : Nat) (f_t_letters_worthToOne : Nat → Int32) (i_t_letters_tongue_length : Int32) (i_t_letters_tongue_words : Int32) (f_t_letters_tongue_scales : Nat → Int32) (n_t_rows6_letters : Nat) (n_t_letters_sense : Nat) (f_t_letters_sense : Nat → Int32) (n_t_rows5_letters : Nat) (n_t_rows4_letters : Nat) (n_t_rows3_letters : Nat) (n_t_rows2_letters : Nat) (n_t_rows1_letters : Nat) (f_t_memory : Nat → Int32) (i_t_rows6_count : Int32) (f_t_rows6_letters : Nat → Int32) (i_t_rows5_count : Int32) (f_t_rows5_letters : Nat → Int32) (i_t_rows4_count : Int32) (f_t_rows4_letters : Nat → Int32) (i_t_rows3_count : Int32) (f_t_rows3_letters : Nat → Int32) (i_t_rows2_count : Int32) (f_t_rows2_letters : Nat → Int32) (i_t_rows1_count : Int32) (f_t_rows1_letters : Nat → Int32) (p1 : Int32) (p2 : Int32) : Option (Int32 × (Nat → Int32) × Int32 × (Nat → Int32) × Int32 × (Nat → Int32) × Int32 × (Nat → Int32) × Int32 × (Nat → Int32) × Int32 × (Nat → Int32) × Int32 × (Nat → Int32)) :=
  (f_X1_look_s6 i_t_law i_t_nonsense i_t_stamp i_t_letters_size n_t_memory n_t_letters_worthToOther f_t_letters_worthToOther n_t_letters_worthToOne f_t_letters_worthToOne i_t_letters_tongue_length i_t_letters_tongue_words f_t_letters_tongue_scales n_t_rows6_letters n_t_letters_sense f_t_letters_sense n_t_rows5_letters n_t_rows4_letters n_t_rows3_letters n_t_rows2_letters n_t_rows1_letters f_t_memory i_t_rows6_count f_t_rows6_letters i_t_rows5_count f_t_rows5_letters i_t_rows4_count f_t_rows4_letters i_t_rows3_count f_t_rows3_letters i_t_rows2_count f_t_rows2_letters i_t_rows1_count f_t_rows1_letters p1 p2).bind fun (r_1, z_2, z_3, z_4, z_5, z_6, z_7, z_8, z_9, z_10, z_11, z_12, z_13, z_14) =>
  if 4096 ≤ r_1 then
    (f_X3_worthTo i_t_letters_size n_t_letters_worthToOther f_t_letters_worthToOther n_t_letters_worthToOne f_t_letters_worthToOne p2 (r_1 - r_1 / 4096 * 4096)).bind fun r_19 =>
    (f_X3_listChanges i_t_letters_size i_t_letters_tongue_length i_t_letters_tongue_words f_t_letters_tongue_scales n_t_rows6_letters n_t_letters_sense f_t_letters_sense z_3 z_4 p1 i_t_law i_t_nonsense).bind fun (z_21, z_22) =>
    f_X1_firstSent_s6_L74 i_t_law i_t_nonsense i_t_stamp i_t_letters_size n_t_memory n_t_letters_worthToOther f_t_letters_worthToOther n_t_letters_worthToOne f_t_letters_worthToOne i_t_letters_tongue_length i_t_letters_tongue_words f_t_letters_tongue_scales n_t_rows6_letters n_t_letters_sense f_t_letters_sense n_t_rows5_letters n_t_rows4_letters n_t_rows3_letters n_t_rows2_letters n_t_rows1_letters FU p2 r_19 0 z_2 z_21 z_22 z_5 z_6 z_7 z_8 z_9 z_10 z_11 z_12 z_13 z_14
  else
    some ((-1), z_2, z_3, z_4, z_5, z_6, z_7, z_8, z_9, z_10, z_11, z_12, z_13, z_14)
def f_X1_firstSent_s7_L74 (i_t_law : Int32) (i_t_nonsense : Int32) (i_t_stamp : Int32) (i_t_letters_size : Int32) (n_t_memory : Nat) (n_t_letters_worthToOther : Nat) (f_t_letters_worthToOther : Nat → Int32) (n_t_letters_worthToOne : Nat) (f_t_letters_worthToOne : Nat → Int32) (i_t_letters_tongue_length : Int32) (i_t_letters_tongue_words : Int32) (f_t_letters_tongue_scales : Nat → Int32) (n_t_rows7_letters : Nat) (n_t_letters_sense : Nat) (f_t_letters_sense : Nat → Int32) (n_t_rows6_letters : Nat) (n_t_rows5_letters : Nat) (n_t_rows4_letters : Nat) (n_t_rows3_letters : Nat) (n_t_rows2_letters : Nat) (n_t_rows1_letters : Nat) : Nat → Int32 → Int32 → Int32 → (Nat → Int32) → Int32 → (Nat → Int32) → Int32 → (Nat → Int32) → Int32 → (Nat → Int32) → Int32 → (Nat → Int32) → Int32 → (Nat → Int32) → Int32 → (Nat → Int32) → Int32 → (Nat → Int32) → Option (Int32 × (Nat → Int32) × Int32 × (Nat → Int32) × Int32 × (Nat → Int32) × Int32 × (Nat → Int32) × Int32 × (Nat → Int32) × Int32 × (Nat → Int32) × Int32 × (Nat → Int32) × Int32 × (Nat → Int32))
  | 0, _, _, _, _, _, _, _, _, _, _, _, _, _, _, _, _, _, _ => none
  | n + 1, v2, v5, v7, f_t_memory, i_t_rows7_count, f_t_rows7_letters, i_t_rows6_count, f_t_rows6_letters, i_t_rows5_count, f_t_rows5_letters, i_t_rows4_count, f_t_rows4_letters, i_t_rows3_count, f_t_rows3_letters, i_t_rows2_count, f_t_rows2_letters, i_t_rows1_count, f_t_rows1_letters =>
    if i_t_rows7_count ≤ v7 then
      some ((-1), f_t_memory, i_t_rows7_count, f_t_rows7_letters, i_t_rows6_count, f_t_rows6_letters, i_t_rows5_count, f_t_rows5_letters, i_t_rows4_count, f_t_rows4_letters, i_t_rows3_count, f_t_rows3_letters, i_t_rows2_count, f_t_rows2_letters, i_t_rows1_count, f_t_rows1_letters)
    else
      (f_X6_get i_t_rows7_count n_t_rows7_letters f_t_rows7_letters v7).bind fun r_27 =>
      (f_X1_look_s6 i_t_law i_t_nonsense i_t_stamp i_t_letters_size n_t_memory n_t_letters_worthToOther f_t_letters_worthToOther n_t_letters_worthToOne f_t_letters_worthToOne i_t_letters_tongue_length i_t_letters_tongue_words f_t_letters_tongue_scales n_t_rows6_letters n_t_letters_sense f_t_letters_sense n_t_rows5_letters n_t_rows4_letters n_t_rows3_letters n_t_rows2_letters n_t_rows1_letters f_t_memory i_t_rows6_count f_t_rows6_letters i_t_rows5_count f_t_rows5_letters i_t_rows4_count f_t_rows4_letters i_t_rows3_count f_t_rows3_letters i_t_rows2_count f_t_rows2_letters i_t_rows1_count f_t_rows1_letters r_27 (1 - v2)).bind fun (r_29, z_30, z_31, z_32, z_33, z_34, z_35, z_36, z_37, z_38, z_39, z_40, z_41, z_42) =>
      (f_X3_worthTo i_t_letters_size n_t_letters_worthToOther f_t_letters_worthToOther n_t_letters_worthToOne f_t_letters_worthToOne v2 (r_29 - r_29 / 4096 * 4096)).bind fun r_44 =>
      if r_44 = v5 then
        (f_X6_get i_t_rows7_count n_t_rows7_letters f_t_rows7_letters v7).bind fun r_47 =>
        some (r_47, z_30, i_t_rows7_count, f_t_rows7_letters, z_31, z_32, z_33, z_34, z_35, z_36, z_37, z_38, z_39, z_40, z_41, z_42)
      else
        f_X1_firstSent_s7_L74 i_t_law i_t_nonsense i_t_stamp i_t_letters_size n_t_memory n_t_letters_worthToOther f_t_letters_worthToOther n_t_letters_worthToOne f_t_letters_worthToOne i_t_letters_tongue_length i_t_letters_tongue_words f_t_letters_tongue_scales n_t_rows7_letters n_t_letters_sense f_t_letters_sense n_t_rows6_letters n_t_rows5_letters n_t_rows4_letters n_t_rows3_letters n_t_rows2_letters n_t_rows1_letters n v2 v5 (v7 + 1) z_30 i_t_rows7_count f_t_rows7_letters z_31 z_32 z_33 z_34 z_35 z_36 z_37 z_38 z_39 z_40 z_41 z_42
def f_X1_firstSent_s7 (i_t_law : Int32) (i_t_nonsense : Int32) (i_t_stamp : Int32) (i_t_letters_size : Int32) (n_t_memory : Nat) (n_t_letters_worthToOther : Nat) (f_t_letters_worthToOther : Nat → Int32) (n_t_letters_worthToOne : Nat) (f_t_letters_worthToOne : Nat → Int32) (i_t_letters_tongue_length : Int32) (i_t_letters_tongue_words : Int32) (f_t_letters_tongue_scales : Nat → Int32) (n_t_rows7_letters : Nat) (n_t_letters_sense : Nat) (f_t_letters_sense : Nat → Int32) (n_t_rows6_letters : Nat) (n_t_rows5_letters : Nat) (n_t_rows4_letters : Nat) (n_t_rows3_letters : Nat) (n_t_rows2_letters : Nat) (n_t_rows1_letters : Nat) (f_t_memory : Nat → Int32) (i_t_rows7_count : Int32) (f_t_rows7_letters : Nat → Int32) (i_t_rows6_count : Int32) (f_t_rows6_letters : Nat → Int32) (i_t_rows5_count : Int32) (f_t_rows5_letters : Nat → Int32) (i_t_rows4_count : Int32) (f_t_rows4_letters : Nat → Int32) (i_t_rows3_count : Int32) (f_t_rows3_letters : Nat → Int32) (i_t_rows2_count : Int32) (f_t_rows2_letters : Nat → Int32) (i_t_rows1_count : Int32) (f_t_rows1_letters : Nat → Int32) (p1 : Int32) (p2 : Int32) : Option (Int32 × (Nat → Int32) × Int32 × (Nat → Int32) × Int32 × (Nat → Int32) × Int32 × (Nat → Int32) × Int32 × (Nat → Int32) × Int32 × (Nat → Int32) × Int32 × (Nat → Int32) × Int32 × (Nat → Int32)) :=
  (f_X1_look_s7 i_t_law i_t_nonsense i_t_stamp i_t_letters_size n_t_memory n_t_letters_worthToOther f_t_letters_worthToOther n_t_letters_worthToOne f_t_letters_worthToOne i_t_letters_tongue_length i_t_letters_tongue_words f_t_letters_tongue_scales n_t_rows7_letters n_t_letters_sense f_t_letters_sense n_t_rows6_letters n_t_rows5_letters n_t_rows4_letters n_t_rows3_letters n_t_rows2_letters n_t_rows1_letters f_t_memory i_t_rows7_count f_t_rows7_letters i_t_rows6_count f_t_rows6_letters i_t_rows5_count f_t_rows5_letters i_t_rows4_count f_t_rows4_letters i_t_rows3_count f_t_rows3_letters i_t_rows2_count f_t_rows2_letters i_t_rows1_count f_t_rows1_letters p1 p2).bind fun (r_1, z_2, z_3, z_4, z_5, z_6, z_7, z_8, z_9, z_10, z_11, z_12, z_13, z_14, z_15, z_16) =>
  if 4096 ≤ r_1 then
    (f_X3_worthTo i_t_letters_size n_t_letters_worthToOther f_t_letters_worthToOther n_t_letters_worthToOne f_t_letters_worthToOne p2 (r_1 - r_1 / 4096 * 4096)).bind fun r_21 =>
    (f_X3_listChanges i_t_letters_size i_t_letters_tongue_length i_t_letters_tongue_words f_t_letters_tongue_scales n_t_rows7_letters n_t_letters_sense f_t_letters_sense z_3 z_4 p1 i_t_law i_t_nonsense).bind fun (z_23, z_24) =>
    f_X1_firstSent_s7_L74 i_t_law i_t_nonsense i_t_stamp i_t_letters_size n_t_memory n_t_letters_worthToOther f_t_letters_worthToOther n_t_letters_worthToOne f_t_letters_worthToOne i_t_letters_tongue_length i_t_letters_tongue_words f_t_letters_tongue_scales n_t_rows7_letters n_t_letters_sense f_t_letters_sense n_t_rows6_letters n_t_rows5_letters n_t_rows4_letters n_t_rows3_letters n_t_rows2_letters n_t_rows1_letters FU p2 r_21 0 z_2 z_23 z_24 z_5 z_6 z_7 z_8 z_9 z_10 z_11 z_12 z_13 z_14 z_15 z_16
  else
    some ((-1), z_2, z_3, z_4, z_5, z_6, z_7, z_8, z_9, z_10, z_11, z_12, z_13, z_14, z_15, z_16)
def f_X1_firstSent_s8_L74 (i_t_law : Int32) (i_t_nonsense : Int32) (i_t_stamp : Int32) (i_t_letters_size : Int32) (n_t_memory : Nat) (n_t_letters_worthToOther : Nat) (f_t_letters_worthToOther : Nat → Int32) (n_t_letters_worthToOne : Nat) (f_t_letters_worthToOne : Nat → Int32) (i_t_letters_tongue_length : Int32) (i_t_letters_tongue_words : Int32) (f_t_letters_tongue_scales : Nat → Int32) (n_t_rows8_letters : Nat) (n_t_letters_sense : Nat) (f_t_letters_sense : Nat → Int32) (n_t_rows7_letters : Nat) (n_t_rows6_letters : Nat) (n_t_rows5_letters : Nat) (n_t_rows4_letters : Nat) (n_t_rows3_letters : Nat) (n_t_rows2_letters : Nat) (n_t_rows1_letters : Nat) : Nat → Int32 → Int32 → Int32 → (Nat → Int32) → Int32 → (Nat → Int32) → Int32 → (Nat → Int32) → Int32 → (Nat → Int32) → Int32 → (Nat → Int32) → Int32 → (Nat → Int32) → Int32 → (Nat → Int32) → Int32 → (Nat → Int32) → Int32 → (Nat → Int32) → Option (Int32 × (Nat → Int32) × Int32 × (Nat → Int32) × Int32 × (Nat → Int32) × Int32 × (Nat → Int32) × Int32 × (Nat → Int32) × Int32 × (Nat → Int32) × Int32 × (Nat → Int32) × Int32 × (Nat → Int32) × Int32 × (Nat → Int32))
  | 0, _, _, _, _, _, _, _, _, _, _, _, _, _, _, _, _, _, _, _, _ => none
  | n + 1, v2, v5, v7, f_t_memory, i_t_rows8_count, f_t_rows8_letters, i_t_rows7_count, f_t_rows7_letters, i_t_rows6_count, f_t_rows6_letters, i_t_rows5_count, f_t_rows5_letters, i_t_rows4_count, f_t_rows4_letters, i_t_rows3_count, f_t_rows3_letters, i_t_rows2_count, f_t_rows2_letters, i_t_rows1_count, f_t_rows1_letters =>
    if i_t_rows8_count ≤ v7 then
      some ((-1), f_t_memory, i_t_rows8_count, f_t_rows8_letters, i_t_rows7_count, f_t_rows7_letters, i_t_rows6_count, f_t_rows6_letters, i_t_rows5_count, f_t_rows5_letters, i_t_rows4_count, f_t_rows4_letters, i_t_rows3_count, f_t_rows3_letters, i_t_rows2_count, f_t_rows2_letters, i_t_rows1_count, f_t_rows1_letters)
    else
      (f_X6_get i_t_rows8_count n_t_rows8_letters f_t_rows8_letters v7).bind fun r_29 =>
      (f_X1_look_s7 i_t_law i_t_nonsense i_t_stamp i_t_letters_size n_t_memory n_t_letters_worthToOther f_t_letters_worthToOther n_t_letters_worthToOne f_t_letters_worthToOne i_t_letters_tongue_length i_t_letters_tongue_words f_t_letters_tongue_scales n_t_rows7_letters n_t_letters_sense f_t_letters_sense n_t_rows6_letters n_t_rows5_letters n_t_rows4_letters n_t_rows3_letters n_t_rows2_letters n_t_rows1_letters f_t_memory i_t_rows7_count f_t_rows7_letters i_t_rows6_count f_t_rows6_letters i_t_rows5_count f_t_rows5_letters i_t_rows4_count f_t_rows4_letters i_t_rows3_count f_t_rows3_letters i_t_rows2_count f_t_rows2_letters i_t_rows1_count f_t_rows1_letters r_29 (1 - v2)).bind fun (r_31, z_32, z_33, z_34, z_35, z_36, z_37, z_38, z_39, z_40, z_41, z_42, z_43, z_44, z_45, z_46) =>
      (f_X3_worthTo i_t_letters_size n_t_letters_worthToOther f_t_letters_worthToOther n_t_letters_worthToOne f_t_letters_worthToOne v2 (r_31 - r_31 / 4096 * 4096)).bind fun r_48 =>
      if r_48 = v5 then
        (f_X6_get i_t_rows8_count n_t_rows8_letters f_t_rows8_letters v7).bind fun r_51 =>
        some (r_51, z_32, i_t_rows8_count, f_t_rows8_letters, z_33, z_34, z_35, z_36, z_37, z_38, z_39, z_40, z_41, z_42, z_43, z_44, z_45, z_46)
      else
        f_X1_firstSent_s8_L74 i_t_law i_t_nonsense i_t_stamp i_t_letters_size n_t_memory n_t_letters_worthToOther f_t_letters_worthToOther n_t_letters_worthToOne f_t_letters_worthToOne i_t_letters_tongue_length i_t_letters_tongue_words f_t_letters_tongue_scales n_t_rows8_letters n_t_letters_sense f_t_letters_sense n_t_rows7_letters n_t_rows6_letters n_t_rows5_letters n_t_rows4_letters n_t_rows3_letters n_t_rows2_letters n_t_rows1_letters n v2 v5 (v7 + 1) z_32 i_t_rows8_count f_t_rows8_letters z_33 z_34 z_35 z_36 z_37 z_38 z_39 z_40 z_41 z_42 z_43 z_44 z_45 z_46
def f_X1_firstSent_s8 (i_t_law : Int32) (i_t_nonsense : Int32) (i_t_stamp : Int32) (i_t_letters_size : Int32) (n_t_memory : Nat) (n_t_letters_worthToOther : Nat) (f_t_letters_worthToOther : Nat → Int32) (n_t_letters_worthToOne : Nat) (f_t_letters_worthToOne : Nat → Int32) (i_t_letters_tongue_length : Int32) (i_t_letters_tongue_words : Int32) (f_t_letters_tongue_scales : Nat → Int32) (n_t_rows8_letters : Nat) (n_t_letters_sense : Nat) (f_t_letters_sense : Nat → Int32) (n_t_rows7_letters : Nat) (n_t_rows6_letters : Nat) (n_t_rows5_letters : Nat) (n_t_rows4_letters : Nat) (n_t_rows3_letters : Nat) (n_t_rows2_letters : Nat) (n_t_rows1_letters : Nat) (f_t_memory : Nat → Int32) (i_t_rows8_count : Int32) (f_t_rows8_letters : Nat → Int32) (i_t_rows7_count : Int32) (f_t_rows7_letters : Nat → Int32) (i_t_rows6_count : Int32) (f_t_rows6_letters : Nat → Int32) (i_t_rows5_count : Int32) (f_t_rows5_letters : Nat → Int32) (i_t_rows4_count : Int32) (f_t_rows4_letters : Nat → Int32) (i_t_rows3_count : Int32) (f_t_rows3_letters : Nat → Int32) (i_t_rows2_count : Int32) (f_t_rows2_letters : Nat → Int32) (i_t_rows1_count : Int32) (f_t_rows1_letters : Nat → Int32) (p1 : Int32) (p2 : Int32) : Option (Int32 × (Nat → Int32) × Int32 × (Nat → Int32) × Int32 × (Nat → Int32) × Int32 × (Nat → Int32) × Int32 × (Nat → Int32) × Int32 × (Nat → Int32) × Int32 × (Nat → Int32) × Int32 × (Nat → Int32) × Int32 × (Nat → Int32)) :=
  (f_X1_look_s8 i_t_law i_t_nonsense i_t_stamp i_t_letters_size n_t_memory n_t_letters_worthToOther f_t_letters_worthToOther n_t_letters_worthToOne f_t_letters_worthToOne i_t_letters_tongue_length i_t_letters_tongue_words f_t_letters_tongue_scales n_t_rows8_letters n_t_letters_sense f_t_letters_sense n_t_rows7_letters n_t_rows6_letters n_t_rows5_letters n_t_rows4_letters n_t_rows3_letters n_t_rows2_letters n_t_rows1_letters f_t_memory i_t_rows8_count f_t_rows8_letters i_t_rows7_count f_t_rows7_letters i_t_rows6_count f_t_rows6_letters i_t_rows5_count f_t_rows5_letters i_t_rows4_count f_t_rows4_letters i_t_rows3_count f_t_rows3_letters i_t_rows2_count f_t_rows2_letters i_t_rows1_count f_t_rows1_letters p1 p2).bind fun (r_1, z_2, z_3, z_4, z_5, z_6, z_7, z_8, z_9, z_10, z_11, z_12, z_13, z_14, z_15, z_16, z_17, z_18) =>
  if 4096 ≤ r_1 then
    (f_X3_worthTo i_t_letters_size n_t_letters_worthToOther f_t_letters_worthToOther n_t_letters_worthToOne f_t_letters_worthToOne p2 (r_1 - r_1 / 4096 * 4096)).bind fun r_23 =>
    (f_X3_listChanges i_t_letters_size i_t_letters_tongue_length i_t_letters_tongue_words f_t_letters_tongue_scales n_t_rows8_letters n_t_letters_sense f_t_letters_sense z_3 z_4 p1 i_t_law i_t_nonsense).bind fun (z_25, z_26) =>
    f_X1_firstSent_s8_L74 i_t_law i_t_nonsense i_t_stamp i_t_letters_size n_t_memory n_t_letters_worthToOther f_t_letters_worthToOther n_t_letters_worthToOne f_t_letters_worthToOne i_t_letters_tongue_length i_t_letters_tongue_words f_t_letters_tongue_scales n_t_rows8_letters n_t_letters_sense f_t_letters_sense n_t_rows7_letters n_t_rows6_letters n_t_rows5_letters n_t_rows4_letters n_t_rows3_letters n_t_rows2_letters n_t_rows1_letters FU p2 r_23 0 z_2 z_25 z_26 z_5 z_6 z_7 z_8 z_9 z_10 z_11 z_12 z_13 z_14 z_15 z_16 z_17 z_18
  else
    some ((-1), z_2, z_3, z_4, z_5, z_6, z_7, z_8, z_9, z_10, z_11, z_12, z_13, z_14, z_15, z_16, z_17, z_18)
def f_X4_reach (n_t_steps : Nat) (n_t_queue_letters : Nat) (f_t_steps : Nat → Int32) (i_t_queue_count : Int32) (f_t_queue_letters : Nat → Int32) (p1 : Int32) (p2 : Int32) : Option ((Nat → Int32) × Int32 × (Nat → Int32)) :=
  if p1 < 0 then
    some (f_t_steps, i_t_queue_count, f_t_queue_letters)
  else
    if (nI n_t_steps) ≤ p1 then
      some (f_t_steps, i_t_queue_count, f_t_queue_letters)
    else
      if ixb p1 n_t_steps = true then
      if (f_t_steps (p1 : Int32).toNatClampNeg) = (-1) then
        if ixb p1 n_t_steps = true then
        (f_X6_add n_t_queue_letters i_t_queue_count f_t_queue_letters p1).bind fun (z_6, z_7) =>
        some ((upd f_t_steps (p1 : Int32).toNatClampNeg p2), z_6, z_7)
        else none
      else
        some (f_t_steps, i_t_queue_count, f_t_queue_letters)
      else none
def f_X4_shortest_L109 (n_t_steps : Nat) (n_t_queue_letters : Nat) (i_t_letters_size : Int32) (i_t_letters_tongue_length : Int32) (i_t_letters_tongue_words : Int32) (f_t_letters_tongue_scales : Nat → Int32) (n_t_changes_letters : Nat) (n_t_letters_sense : Nat) (f_t_letters_sense : Nat → Int32) (K0 : Int32 → Int32 → Int32 → Int32 → (Nat → Int32) → Int32 → (Nat → Int32) → Int32 → (Nat → Int32) → Option (Int32 × (Nat → Int32) × Int32 × (Nat → Int32) × Int32 × (Nat → Int32))) : Nat → Int32 → Int32 → Int32 → Int32 → Int32 → Int32 → (Nat → Int32) → Int32 → (Nat → Int32) → Int32 → (Nat → Int32) → Option (Int32 × (Nat → Int32) × Int32 × (Nat → Int32) × Int32 × (Nat → Int32))
  | 0, _, _, _, _, _, _, _, _, _, _, _ => none
  | n + 1, v1, v3, v4, v5, v7, v8, f_t_steps, i_t_queue_count, f_t_queue_letters, i_t_changes_count, f_t_changes_letters =>
    if i_t_changes_count ≤ v8 then
      K0 v1 v3 v4 v5 f_t_steps i_t_queue_count f_t_queue_letters i_t_changes_count f_t_changes_letters
    else
      if v4 = 0 then
        (f_X6_get i_t_changes_count n_t_changes_letters f_t_changes_letters v8).bind fun r_29 =>
        (f_X3_isSense i_t_letters_size n_t_letters_sense f_t_letters_sense r_29).bind fun r_31 =>
        if r_31 = 0 then
          f_X4_shortest_L109 n_t_steps n_t_queue_letters i_t_letters_size i_t_letters_tongue_length i_t_letters_tongue_words f_t_letters_tongue_scales n_t_changes_letters n_t_letters_sense f_t_letters_sense K0 n v1 v3 v4 v5 v7 (v8 + 1) f_t_steps i_t_queue_count f_t_queue_letters i_t_changes_count f_t_changes_letters
        else
          (f_X6_get i_t_changes_count n_t_changes_letters f_t_changes_letters v8).bind fun r_34 =>
          (f_X4_reach n_t_steps n_t_queue_letters f_t_steps i_t_queue_count f_t_queue_letters r_34 v7).bind fun (z_36, z_37, z_38) =>
          f_X4_shortest_L109 n_t_steps n_t_queue_letters i_t_letters_size i_t_letters_tongue_length i_t_letters_tongue_words f_t_letters_tongue_scales n_t_changes_letters n_t_letters_sense f_t_letters_sense K0 n v1 v3 v4 v5 v7 (v8 + 1) z_36 z_37 z_38 i_t_changes_count f_t_changes_letters
      else
        (f_X6_get i_t_changes_count n_t_changes_letters f_t_changes_letters v8).bind fun r_23 =>
        (f_X4_reach n_t_steps n_t_queue_letters f_t_steps i_t_queue_count f_t_queue_letters r_23 v7).bind fun (z_25, z_26, z_27) =>
        f_X4_shortest_L109 n_t_steps n_t_queue_letters i_t_letters_size i_t_letters_tongue_length i_t_letters_tongue_words f_t_letters_tongue_scales n_t_changes_letters n_t_letters_sense f_t_letters_sense K0 n v1 v3 v4 v5 v7 (v8 + 1) z_25 z_26 z_27 i_t_changes_count f_t_changes_letters
def f_X4_shortest_L31 (n_t_steps : Nat) (n_t_queue_letters : Nat) (i_t_letters_size : Int32) (i_t_letters_tongue_length : Int32) (i_t_letters_tongue_words : Int32) (f_t_letters_tongue_scales : Nat → Int32) (n_t_changes_letters : Nat) (n_t_letters_sense : Nat) (f_t_letters_sense : Nat → Int32) : Nat → Int32 → Int32 → Int32 → Int32 → (Nat → Int32) → Int32 → (Nat → Int32) → Int32 → (Nat → Int32) → Option (Int32 × (Nat → Int32) × Int32 × (Nat → Int32) × Int32 × (Nat → Int32))
  | 0, _, _, _, _, _, _, _, _, _ => none
  | n + 1, v1, v3, v4, v5, f_t_steps, i_t_queue_count, f_t_queue_letters, i_t_changes_count, f_t_changes_letters =>
    if i_t_letters_size ≤ v5 then
      some ((-1), f_t_steps, i_t_queue_count, f_t_queue_letters, i_t_changes_count, f_t_changes_letters)
    else
      if i_t_queue_count ≤ v5 then
        some ((-1), f_t_steps, i_t_queue_count, f_t_queue_letters, i_t_changes_count, f_t_changes_letters)
      else
        (f_X6_get i_t_queue_count n_t_queue_letters f_t_queue_letters v5).bind fun r_12 =>
        if ixb r_12 n_t_steps = true then
        (f_X3_listChanges i_t_letters_size i_t_letters_tongue_length i_t_letters_tongue_words f_t_letters_tongue_scales n_t_changes_letters n_t_letters_sense f_t_letters_sense i_t_changes_count f_t_changes_letters r_12 v1 1).bind fun (z_15, z_16) =>
        (f_X6_has z_15 n_t_changes_letters z_16 v3).bind fun r_18 =>
        if r_18 = 0 then
          f_X4_shortest_L109 n_t_steps n_t_queue_letters i_t_letters_size i_t_letters_tongue_length i_t_letters_tongue_words f_t_letters_tongue_scales n_t_changes_letters n_t_letters_sense f_t_letters_sense (fun (v1_40 : Int32) (v3_41 : Int32) (v4_42 : Int32) (v5_43 : Int32) (z_44 : Nat → Int32) (z_45 : Int32) (z_46 : Nat → Int32) (z_47 : Int32) (z_48 : Nat → Int32) =>
            f_X4_shortest_L31 n_t_steps n_t_queue_letters i_t_letters_size i_t_letters_tongue_length i_t_letters_tongue_words f_t_letters_tongue_scales n_t_changes_letters n_t_letters_sense f_t_letters_sense n v1_40 v3_41 v4_42 (v5_43 + 1) z_44 z_45 z_46 z_47 z_48) FU v1 v3 v4 v5 ((f_t_steps (r_12 : Int32).toNatClampNeg) + 1) 0 f_t_steps i_t_queue_count f_t_queue_letters z_15 z_16
        else
          some (((f_t_steps (r_12 : Int32).toNatClampNeg) + 1), f_t_steps, i_t_queue_count, f_t_queue_letters, z_15, z_16)
        else none
def f_X4_shortest (n_t_steps : Nat) (n_t_queue_letters : Nat) (i_t_letters_size : Int32) (i_t_letters_tongue_length : Int32) (i_t_letters_tongue_words : Int32) (f_t_letters_tongue_scales : Nat → Int32) (n_t_changes_letters : Nat) (n_t_letters_sense : Nat) (f_t_letters_sense : Nat → Int32) (f_t_steps : Nat → Int32) (i_t_queue_count : Int32) (f_t_queue_letters : Nat → Int32) (i_t_changes_count : Int32) (f_t_changes_letters : Nat → Int32) (p1 : Int32) (p2 : Int32) (p3 : Int32) (p4 : Int32) : Option (Int32 × (Nat → Int32) × Int32 × (Nat → Int32) × Int32 × (Nat → Int32)) :=
  if p2 = p3 then
    some (0, f_t_steps, i_t_queue_count, f_t_queue_letters, i_t_changes_count, f_t_changes_letters)
  else
    (f_J7_fill_53178 n_t_steps f_t_steps (-1)).bind fun z_2 =>
    (f_X6_empty i_t_queue_count).bind fun z_4 =>
    (f_X4_reach n_t_steps n_t_queue_letters z_2 z_4 f_t_queue_letters p2 0).bind fun (z_6, z_7, z_8) =>
    f_X4_shortest_L31 n_t_steps n_t_queue_letters i_t_letters_size i_t_letters_tongue_length i_t_letters_tongue_words f_t_letters_tongue_scales n_t_changes_letters n_t_letters_sense f_t_letters_sense FU p1 p3 p4 0 z_6 z_7 z_8 i_t_changes_count f_t_changes_letters
