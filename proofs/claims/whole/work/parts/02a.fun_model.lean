def f_X9_in (p1 : Int64) (p2 : Int64) (p3 : Int64) : Option (Int32) :=
  if (lg_cmp p1 p2) < 0 then
    some 0
  else
    if 0 < (lg_cmp p1 p3) then
      some 0
    else
      some 1
def f_X9_isLetter (i_t_letters : Int32) (p1 : Int32) : Option (Int32) :=
  (f_X9_in ((p1 : Int32).toInt64) 0 (((i_t_letters - 1) : Int32).toInt64)).bind fun r_1 =>
  if zb r_1 = true then
  some r_1
  else none
def f_X9_isHouse (p1 : Int32) : Option (Int32) :=
  (f_X9_in ((p1 : Int32).toInt64) 0 1).bind fun r_1 =>
  if zb r_1 = true then
  some r_1
  else none
def f_X9_isWord (i_t_words : Int32) (p1 : Int32) : Option (Int32) :=
  (f_X9_in ((p1 : Int32).toInt64) 0 (((i_t_words - 1) : Int32).toInt64)).bind fun r_1 =>
  if zb r_1 = true then
  some r_1
  else none
def f_X9_unit_L4 (i_t_words : Int32) : Nat → Int32 → Int32 → Int32 → Option (Int32)
  | 0, _, _, _ => none
  | n + 1, v1, v2, v3 =>
    if v1 ≤ v3 then
      some v2
    else
      f_X9_unit_L4 i_t_words n v1 (v2 * i_t_words) (v3 + 1)
def f_X9_unit (i_t_words : Int32) (p1 : Int32) : Option (Int32) :=
  f_X9_unit_L4 i_t_words FU p1 1 0
def f_X9_wordAt (i_t_words : Int32) (p1 : Int32) (p2 : Int32) : Option (Int32) :=
  (f_X9_unit i_t_words p2).bind fun r_1 =>
  if ¬ r_1 = 0 then
  if ¬ i_t_words = 0 then
  some ((p1 / r_1) - (p1 / r_1) / i_t_words * i_t_words)
  else none
  else none
def f_X9_feed_L35 : Nat → Int64 → Int32 → Int32 → (Nat → Int32) → Option (Int32 × Int32 × (Nat → Int32))
  | 0, _, _, _, _ => none
  | n + 1, v2, v4, i_t_texted, f_t_text =>
    if v4 < 0 then
      some (i_t_texted, i_t_texted, f_t_text)
    else
      if ixb i_t_texted 500 = true then
      f_X9_feed_L35 n v2 (v4 + (-1)) (i_t_texted + 1) (upd f_t_text (i_t_texted : Int32).toNatClampNeg ((((v2 >>> (((8 * v4) : Int32).toInt64 &&& 63)) &&& 255) : Int64).toInt32))
      else none
def f_X9_feed (i_t_texted : Int32) (f_t_text : Nat → Int32) (p1 : Int32) (p2 : Int64) : Option (Int32 × Int32 × (Nat → Int32)) :=
  (f_X9_in ((p1 : Int32).toInt64) 1 8).bind fun r_1 =>
  if r_1 = 0 then
    some ((-1000000002), i_t_texted, f_t_text)
  else
    if (i_t_texted + p1) ≤ 500 then
      f_X9_feed_L35 FU p2 (p1 - 1) i_t_texted f_t_text
    else
      some ((-1000000004), i_t_texted, f_t_text)
def f_X9_here_L0 (i_t_texted : Int32) (f_t_text : Nat → Int32) : Nat → Int32 → Option (Int32 × Int32)
  | 0, _ => none
  | n + 1, i_t_at0 =>
    if i_t_texted ≤ i_t_at0 then
      if i_t_texted ≤ i_t_at0 then
        some ((-1), i_t_at0)
      else
        if ixb i_t_at0 500 = true then
        some ((f_t_text (i_t_at0 : Int32).toNatClampNeg), i_t_at0)
        else none
    else
      if ixb i_t_at0 500 = true then
      if (f_t_text (i_t_at0 : Int32).toNatClampNeg) = 32 then
        f_X9_here_L0 i_t_texted f_t_text n (i_t_at0 + 1)
      else
        if i_t_texted ≤ i_t_at0 then
          some ((-1), i_t_at0)
        else
          if ixb i_t_at0 500 = true then
          some ((f_t_text (i_t_at0 : Int32).toNatClampNeg), i_t_at0)
          else none
      else none
def f_X9_here (i_t_texted : Int32) (f_t_text : Nat → Int32) (i_t_at0 : Int32) : Option (Int32 × Int32) :=
  f_X9_here_L0 i_t_texted f_t_text FU i_t_at0
def f_X9_fails (i_t_faultPlace : Int32) (p1 : Int32) (p2 : Int32) : Option (Int32 × Int32) :=
  some (p1, p2)
def f_X9_readWord_L18 (i_t_texted : Int32) (f_t_text : Nat → Int32) : Nat → Int32 → Int64 → Int32 → Option (Int32 × Int64 × Int32)
  | 0, _, _, _ => none
  | n + 1, i_t_at0, i_t_said, i_t_wordEnd =>
    if i_t_texted ≤ i_t_wordEnd then
      some (i_t_at0, i_t_said, i_t_wordEnd)
    else
      if ixb i_t_wordEnd 500 = true then
      (f_X9_in (((f_t_text (i_t_wordEnd : Int32).toNatClampNeg) : Int32).toInt64) 97 122).bind fun r_6 =>
      if r_6 = 0 then
        some (i_t_at0, i_t_said, i_t_wordEnd)
      else
        if (lg_cmp i_t_said 1000000000000) ≤ 0 then
          if ixb i_t_wordEnd 500 = true then
          f_X9_readWord_L18 i_t_texted f_t_text n i_t_at0 (((27 * i_t_said) + (((f_t_text (i_t_wordEnd : Int32).toNatClampNeg) : Int32).toInt64)) - 96) (i_t_wordEnd + 1)
          else none
        else
          f_X9_readWord_L18 i_t_texted f_t_text n i_t_at0 2000000000000 (i_t_wordEnd + 1)
      else none
def f_X9_readWord (i_t_texted : Int32) (f_t_text : Nat → Int32) (i_t_at0 : Int32) (i_t_said : Int64) (i_t_wordEnd : Int32) : Option (Int32 × Int64 × Int32) :=
  (f_X9_here i_t_texted f_t_text i_t_at0).bind fun (r_1, z_2) =>
  f_X9_readWord_L18 i_t_texted f_t_text FU z_2 0 z_2
def f_X9_code (p1 : Int32) (p2 : Int32) (p3 : Int32) (p4 : Int32) : Option (Int64) :=
  some (((27 * (((27 * (((27 * (((p1 : Int32).toInt64) - 96)) + ((p2 : Int32).toInt64)) - 96)) + ((p3 : Int32).toInt64)) - 96)) + ((p4 : Int32).toInt64)) - 96)
def f_X9_longer (p1 : Int64) (p2 : Int32) : Option (Int64) :=
  some (((27 * p1) + ((p2 : Int32).toInt64)) - 96)
def f_X9_takeNumber_L42 (i_t_texted : Int32) (f_t_text : Nat → Int32) (K0 : Int32 → Int32 → Int32 → Int32 → Int32 → Int32 → Option (Int32 × Int32 × Int32 × Int32 × Int32)) : Nat → Int32 → Int32 → Int32 → Int32 → Int32 → Int32 → Option (Int32 × Int32 × Int32 × Int32 × Int32)
  | 0, _, _, _, _, _, _ => none
  | n + 1, v1, v2, i_t_faultPlace, i_t_at0, i_t_number, i_t_numberAt =>
    if i_t_texted ≤ i_t_at0 then
      K0 v1 v2 i_t_faultPlace i_t_at0 i_t_number i_t_numberAt
    else
      if ixb i_t_at0 500 = true then
      (f_X9_in (((f_t_text (i_t_at0 : Int32).toNatClampNeg) : Int32).toInt64) 48 57).bind fun r_9 =>
      if r_9 = 0 then
        K0 v1 v2 i_t_faultPlace i_t_at0 i_t_number i_t_numberAt
      else
        if i_t_number ≤ 10000 then
          if ixb i_t_at0 500 = true then
          f_X9_takeNumber_L42 i_t_texted f_t_text K0 n v1 v2 i_t_faultPlace (i_t_at0 + 1) (((10 * i_t_number) + (f_t_text (i_t_at0 : Int32).toNatClampNeg)) - 48) i_t_numberAt
          else none
        else
          f_X9_takeNumber_L42 i_t_texted f_t_text K0 n v1 v2 i_t_faultPlace (i_t_at0 + 1) i_t_number i_t_numberAt
      else none
def f_X9_takeNumber (i_t_texted : Int32) (f_t_text : Nat → Int32) (i_t_faultPlace : Int32) (i_t_at0 : Int32) (i_t_number : Int32) (i_t_numberAt : Int32) (p1 : Int32) (p2 : Int32) : Option (Int32 × Int32 × Int32 × Int32 × Int32) :=
  (f_X9_here i_t_texted f_t_text i_t_at0).bind fun (r_1, z_2) =>
  (f_X9_in ((r_1 : Int32).toInt64) 48 57).bind fun r_4 =>
  if r_4 = 0 then
    (f_X9_fails i_t_faultPlace 1 z_2).bind fun (r_30, z_31) =>
    some (r_30, z_31, z_2, i_t_number, i_t_numberAt)
  else
    f_X9_takeNumber_L42 i_t_texted f_t_text (fun (v1_14 : Int32) (v2_15 : Int32) (z_16 : Int32) (z_17 : Int32) (z_18 : Int32) (z_19 : Int32) =>
      if 3 < (z_17 - z_19) then
        (f_X9_fails z_16 2 z_19).bind fun (r_21, z_22) =>
        some (r_21, z_22, z_17, z_18, z_19)
      else
        (f_X9_in ((z_18 : Int32).toInt64) ((v1_14 : Int32).toInt64) ((v2_15 : Int32).toInt64)).bind fun r_24 =>
        if r_24 = 0 then
          (f_X9_fails z_16 2 z_19).bind fun (r_27, z_28) =>
          some (r_27, z_28, z_17, z_18, z_19)
        else
          some (0, z_16, z_17, z_18, z_19)) FU p1 p2 i_t_faultPlace z_2 0 z_2
def f_X9_takeKind (i_t_texted : Int32) (n_p1 : Nat) (f_t_text : Nat → Int32) (i_t_faultPlace : Int32) (i_t_at0 : Int32) (i_t_said : Int64) (i_t_wordEnd : Int32) (f_p1 : Nat → Int32) (p2 : Int32) : Option (Int32 × Int32 × Int32 × Int64 × Int32 × (Nat → Int32)) :=
  (f_X9_readWord i_t_texted f_t_text i_t_at0 i_t_said i_t_wordEnd).bind fun (z_1, z_2, z_3) =>
  (f_X9_code 110 97 109 101).bind fun r_5 =>
  if (lg_cmp z_2 r_5) = 0 then
    if ixb p2 n_p1 = true then
    some (0, i_t_faultPlace, z_3, z_2, z_3, (upd f_p1 (p2 : Int32).toNatClampNeg 0))
    else none
  else
    (f_X9_code 100 101 101 100).bind fun r_8 =>
    if (lg_cmp z_2 r_8) = 0 then
      if ixb p2 n_p1 = true then
      some (0, i_t_faultPlace, z_3, z_2, z_3, (upd f_p1 (p2 : Int32).toNatClampNeg 1))
      else none
    else
      (f_X9_code 108 105 110 107).bind fun r_11 =>
      if (lg_cmp z_2 r_11) = 0 then
        if ixb p2 n_p1 = true then
        some (0, i_t_faultPlace, z_3, z_2, z_3, (upd f_p1 (p2 : Int32).toNatClampNeg 2))
        else none
      else
        (f_X9_code 116 117 114 110).bind fun r_14 =>
        if (lg_cmp z_2 r_14) = 0 then
          if ixb p2 n_p1 = true then
          some (0, i_t_faultPlace, z_3, z_2, z_3, (upd f_p1 (p2 : Int32).toNatClampNeg 3))
          else none
        else
          (f_X9_fails i_t_faultPlace 1 z_1).bind fun (r_18, z_19) =>
          some (r_18, z_19, z_1, z_2, z_3, f_p1)
def f_X9_takeTwo (i_t_texted : Int32) (n_p1 : Nat) (f_t_text : Nat → Int32) (i_t_faultPlace : Int32) (i_t_at0 : Int32) (i_t_number : Int32) (i_t_numberAt : Int32) (f_p1 : Nat → Int32) (p2 : Int32) : Option (Int32 × Int32 × Int32 × Int32 × Int32 × (Nat → Int32)) :=
  (f_X9_takeNumber i_t_texted f_t_text i_t_faultPlace i_t_at0 i_t_number i_t_numberAt 0 99).bind fun (r_1, z_2, z_3, z_4, z_5) =>
  if ixb p2 n_p1 = true then
  if r_1 ≤ 0 then
    (f_X9_takeNumber i_t_texted f_t_text z_2 z_3 z_4 z_5 0 99).bind fun (r_9, z_10, z_11, z_12, z_13) =>
    if ixb (p2 + 1) n_p1 = true then
    some (r_9, z_10, z_11, z_12, z_13, (upd (upd f_p1 (p2 : Int32).toNatClampNeg (z_4 - 50)) ((p2 + 1) : Int32).toNatClampNeg (z_12 - 50)))
    else none
  else
    if ixb (p2 + 1) n_p1 = true then
    some (r_1, z_2, z_3, z_4, z_5, (upd (upd f_p1 (p2 : Int32).toNatClampNeg (z_4 - 50)) ((p2 + 1) : Int32).toNatClampNeg (z_4 - 50)))
    else none
  else none
def f_X9_takeWordClause (i_t_texted : Int32) (f_t_text : Nat → Int32) (i_t_faultPlace : Int32) (i_t_at0 : Int32) (i_t_said : Int64) (i_t_wordEnd : Int32) (i_t_number : Int32) (i_t_numberAt : Int32) (i_t_readWords : Int32) (f_t_readKind : Nat → Int32) (f_t_readWorth : Nat → Int32) : Option (Int32 × Int32 × Int32 × Int64 × Int32 × Int32 × Int32 × Int32 × (Nat → Int32) × (Nat → Int32)) :=
  (f_X9_takeKind i_t_texted 8 f_t_text i_t_faultPlace i_t_at0 i_t_said i_t_wordEnd f_t_readKind i_t_readWords).bind fun (r_1, z_2, z_3, z_4, z_5, z_6) =>
  if r_1 ≤ 0 then
    (f_X9_takeTwo i_t_texted 16 f_t_text z_2 z_3 i_t_number i_t_numberAt f_t_readWorth (2 * i_t_readWords)).bind fun (r_9, z_10, z_11, z_12, z_13, z_14) =>
    some (r_9, z_10, z_11, z_4, z_5, z_12, z_13, (i_t_readWords + 1), z_6, z_14)
  else
    some (r_1, z_2, z_3, z_4, z_5, i_t_number, i_t_numberAt, (i_t_readWords + 1), z_6, f_t_readWorth)
def f_X9_takeFrame_L21 (i_t_texted : Int32) (i_t_readPlaces : Int32) (f_t_text : Nat → Int32) : Nat → Int32 → Int32 → Int32 → Int32 → Int32 → Int64 → Int32 → Int32 → (Nat → Int32) → Option (Int32 × Int32 × Int32 × Int64 × Int32 × Int32 × (Nat → Int32))
  | 0, _, _, _, _, _, _, _, _, _ => none
  | n + 1, v1, v2, v3, i_t_faultPlace, i_t_at0, i_t_said, i_t_wordEnd, i_t_readFrames, f_t_readFrame =>
    if i_t_readPlaces ≤ v3 then
      some (v2, i_t_faultPlace, i_t_at0, i_t_said, i_t_wordEnd, i_t_readFrames, f_t_readFrame)
    else
      if v2 = 0 then
        if v3 ≤ 0 then
          if v2 ≤ 0 then
            (f_X9_takeKind i_t_texted 32 f_t_text i_t_faultPlace i_t_at0 i_t_said i_t_wordEnd f_t_readFrame (v1 + v3)).bind fun (r_5, z_6, z_7, z_8, z_9, z_10) =>
            f_X9_takeFrame_L21 i_t_texted i_t_readPlaces f_t_text n v1 r_5 (v3 + 1) z_6 z_7 z_8 z_9 i_t_readFrames z_10
          else
            f_X9_takeFrame_L21 i_t_texted i_t_readPlaces f_t_text n v1 v2 (v3 + 1) i_t_faultPlace i_t_at0 i_t_said i_t_wordEnd i_t_readFrames f_t_readFrame
        else
          (f_X9_here i_t_texted f_t_text i_t_at0).bind fun (r_12, z_13) =>
          if r_12 = 44 then
            (f_X9_takeKind i_t_texted 32 f_t_text i_t_faultPlace (z_13 + 1) i_t_said i_t_wordEnd f_t_readFrame (v1 + v3)).bind fun (r_38, z_39, z_40, z_41, z_42, z_43) =>
            f_X9_takeFrame_L21 i_t_texted i_t_readPlaces f_t_text n v1 r_38 (v3 + 1) z_39 z_40 z_41 z_42 i_t_readFrames z_43
          else
            (f_X9_fails i_t_faultPlace 1 z_13).bind fun (r_16, z_17) =>
            if r_16 = 0 then
              if r_16 ≤ 0 then
                (f_X9_takeKind i_t_texted 32 f_t_text z_17 (z_13 + 1) i_t_said i_t_wordEnd f_t_readFrame (v1 + v3)).bind fun (r_29, z_30, z_31, z_32, z_33, z_34) =>
                f_X9_takeFrame_L21 i_t_texted i_t_readPlaces f_t_text n v1 r_29 (v3 + 1) z_30 z_31 z_32 z_33 i_t_readFrames z_34
              else
                f_X9_takeFrame_L21 i_t_texted i_t_readPlaces f_t_text n v1 r_16 (v3 + 1) z_17 (z_13 + 1) i_t_said i_t_wordEnd i_t_readFrames f_t_readFrame
            else
              if r_16 ≤ 0 then
                (f_X9_takeKind i_t_texted 32 f_t_text z_17 (z_13 + 0) i_t_said i_t_wordEnd f_t_readFrame (v1 + v3)).bind fun (r_21, z_22, z_23, z_24, z_25, z_26) =>
                f_X9_takeFrame_L21 i_t_texted i_t_readPlaces f_t_text n v1 r_21 (v3 + 1) z_22 z_23 z_24 z_25 i_t_readFrames z_26
              else
                f_X9_takeFrame_L21 i_t_texted i_t_readPlaces f_t_text n v1 r_16 (v3 + 1) z_17 (z_13 + 0) i_t_said i_t_wordEnd i_t_readFrames f_t_readFrame
      else
        some (v2, i_t_faultPlace, i_t_at0, i_t_said, i_t_wordEnd, i_t_readFrames, f_t_readFrame)
def f_X9_takeFrame (i_t_texted : Int32) (i_t_readPlaces : Int32) (f_t_text : Nat → Int32) (i_t_faultPlace : Int32) (i_t_at0 : Int32) (i_t_said : Int64) (i_t_wordEnd : Int32) (i_t_readFrames : Int32) (f_t_readFrame : Nat → Int32) : Option (Int32 × Int32 × Int32 × Int64 × Int32 × Int32 × (Nat → Int32)) :=
  f_X9_takeFrame_L21 i_t_texted i_t_readPlaces f_t_text FU (4 * i_t_readFrames) 0 0 i_t_faultPlace i_t_at0 i_t_said i_t_wordEnd (i_t_readFrames + 1) f_t_readFrame
def f_X9_takePair_L69 (i_t_texted : Int32) (i_t_readWords : Int32) (f_t_text : Nat → Int32) : Nat → Int32 → Int32 → Int32 → Int32 → Int32 → Int32 → Int32 → (Nat → Int32) → Option (Int32 × Int32 × Int32 × Int32 × Int32 × Int32 × (Nat → Int32))
  | 0, _, _, _, _, _, _, _, _ => none
  | n + 1, v1, v3, i_t_faultPlace, i_t_at0, i_t_number, i_t_numberAt, i_t_readPairs, f_t_readPair =>
    if i_t_readPairs ≤ v3 then
      (f_X9_takeTwo i_t_texted 48 f_t_text i_t_faultPlace i_t_at0 i_t_number i_t_numberAt f_t_readPair (v1 + 2)).bind fun (r_18, z_19, z_20, z_21, z_22, z_23) =>
      some (r_18, z_19, z_20, z_21, z_22, (i_t_readPairs + 1), z_23)
    else
      if ixb (4 * v3) 48 = true then
      if ixb v1 48 = true then
      if (f_t_readPair ((4 * v3) : Int32).toNatClampNeg) = (f_t_readPair (v1 : Int32).toNatClampNeg) then
        if ixb ((4 * v3) + 1) 48 = true then
        if (f_t_readPair (((4 * v3) + 1) : Int32).toNatClampNeg) = i_t_number then
          (f_X9_fails i_t_faultPlace 4 i_t_numberAt).bind fun (r_30, z_31) =>
          some (r_30, z_31, i_t_at0, i_t_number, i_t_numberAt, i_t_readPairs, f_t_readPair)
        else
          f_X9_takePair_L69 i_t_texted i_t_readWords f_t_text n v1 (v3 + 1) i_t_faultPlace i_t_at0 i_t_number i_t_numberAt i_t_readPairs f_t_readPair
        else none
      else
        f_X9_takePair_L69 i_t_texted i_t_readWords f_t_text n v1 (v3 + 1) i_t_faultPlace i_t_at0 i_t_number i_t_numberAt i_t_readPairs f_t_readPair
      else none
      else none
def f_X9_takePair (i_t_texted : Int32) (i_t_readWords : Int32) (f_t_text : Nat → Int32) (i_t_faultPlace : Int32) (i_t_at0 : Int32) (i_t_number : Int32) (i_t_numberAt : Int32) (i_t_readPairs : Int32) (f_t_readPair : Nat → Int32) : Option (Int32 × Int32 × Int32 × Int32 × Int32 × Int32 × (Nat → Int32)) :=
  (f_X9_takeNumber i_t_texted f_t_text i_t_faultPlace i_t_at0 i_t_number i_t_numberAt 0 (i_t_readWords - 1)).bind fun (r_1, z_2, z_3, z_4, z_5) =>
  if ixb (4 * i_t_readPairs) 48 = true then
  if r_1 ≤ 0 then
    (f_X9_takeNumber i_t_texted f_t_text z_2 z_3 z_4 z_5 0 (i_t_readWords - 1)).bind fun (r_9, z_10, z_11, z_12, z_13) =>
    if r_9 ≤ 0 then
      if ixb ((4 * i_t_readPairs) + 1) 48 = true then
      f_X9_takePair_L69 i_t_texted i_t_readWords f_t_text FU (4 * i_t_readPairs) 0 z_10 z_11 z_12 z_13 i_t_readPairs (upd (upd f_t_readPair ((4 * i_t_readPairs) : Int32).toNatClampNeg z_4) (((4 * i_t_readPairs) + 1) : Int32).toNatClampNeg z_12)
      else none
    else
      some (r_9, z_10, z_11, z_12, z_13, i_t_readPairs, (upd f_t_readPair ((4 * i_t_readPairs) : Int32).toNatClampNeg z_4))
  else
    if r_1 ≤ 0 then
      if ixb ((4 * i_t_readPairs) + 1) 48 = true then
      f_X9_takePair_L69 i_t_texted i_t_readWords f_t_text FU (4 * i_t_readPairs) 0 z_2 z_3 z_4 z_5 i_t_readPairs (upd (upd f_t_readPair ((4 * i_t_readPairs) : Int32).toNatClampNeg z_4) (((4 * i_t_readPairs) + 1) : Int32).toNatClampNeg z_4)
      else none
    else
      some (r_1, z_2, z_3, z_4, z_5, i_t_readPairs, (upd f_t_readPair ((4 * i_t_readPairs) : Int32).toNatClampNeg z_4))
  else none
def f_X9_takeClause (i_t_texted : Int32) (f_t_text : Nat → Int32) (i_t_faultPlace : Int32) (i_t_at0 : Int32) (i_t_said : Int64) (i_t_wordEnd : Int32) (i_t_number : Int32) (i_t_numberAt : Int32) (i_t_readPlaces : Int32) (i_t_readWords : Int32) (i_t_readFrames : Int32) (i_t_readPairs : Int32) (f_t_readPair : Nat → Int32) (f_t_readFrame : Nat → Int32) (f_t_readKind : Nat → Int32) (f_t_readWorth : Nat → Int32) : Option (Int32 × Int32 × Int32 × Int64 × Int32 × Int32 × Int32 × Int32 × Int32 × Int32 × Int32 × (Nat → Int32) × (Nat → Int32) × (Nat → Int32) × (Nat → Int32)) :=
  (f_X9_readWord i_t_texted f_t_text i_t_at0 i_t_said i_t_wordEnd).bind fun (z_1, z_2, z_3) =>
  (f_X9_code 108 101 116 116).bind fun r_5 =>
  (f_X9_longer r_5 101).bind fun r_7 =>
  (f_X9_longer r_7 114).bind fun r_9 =>
  if (lg_cmp z_2 r_9) = 0 then
    if i_t_readPlaces ≤ 0 then
      (f_X9_takeNumber i_t_texted f_t_text i_t_faultPlace z_3 i_t_number i_t_numberAt 2 4).bind fun (r_132, z_133, z_134, z_135, z_136) =>
      if r_132 = 0 then
        (f_X9_here i_t_texted f_t_text z_134).bind fun (r_139, z_140) =>
        if r_139 = 59 then
          some (r_132, z_133, (z_140 + 1), z_2, z_3, z_135, z_136, z_135, i_t_readWords, i_t_readFrames, i_t_readPairs, f_t_readPair, f_t_readFrame, f_t_readKind, f_t_readWorth)
        else
          (f_X9_fails z_133 1 z_140).bind fun (r_143, z_144) =>
          some (r_143, z_144, z_140, z_2, z_3, z_135, z_136, z_135, i_t_readWords, i_t_readFrames, i_t_readPairs, f_t_readPair, f_t_readFrame, f_t_readKind, f_t_readWorth)
      else
        some (r_132, z_133, (z_134 + 1), z_2, z_3, z_135, z_136, z_135, i_t_readWords, i_t_readFrames, i_t_readPairs, f_t_readPair, f_t_readFrame, f_t_readKind, f_t_readWorth)
    else
      (f_X9_fails i_t_faultPlace 3 z_1).bind fun (r_146, z_147) =>
      some (r_146, z_147, z_1, z_2, z_3, i_t_number, i_t_numberAt, i_t_readPlaces, i_t_readWords, i_t_readFrames, i_t_readPairs, f_t_readPair, f_t_readFrame, f_t_readKind, f_t_readWorth)
  else
    (f_X9_code 119 111 114 100).bind fun r_12 =>
    if (lg_cmp z_2 r_12) = 0 then
      if i_t_readPlaces = 0 then
        (f_X9_fails i_t_faultPlace 1 z_1).bind fun (r_123, z_124) =>
        some (r_123, z_124, z_1, z_2, z_3, i_t_number, i_t_numberAt, i_t_readPlaces, i_t_readWords, i_t_readFrames, i_t_readPairs, f_t_readPair, f_t_readFrame, f_t_readKind, f_t_readWorth)
      else
        if i_t_readWords = 8 then
          (f_X9_fails i_t_faultPlace 3 z_1).bind fun (r_120, z_121) =>
          some (r_120, z_121, z_1, z_2, z_3, i_t_number, i_t_numberAt, i_t_readPlaces, i_t_readWords, i_t_readFrames, i_t_readPairs, f_t_readPair, f_t_readFrame, f_t_readKind, f_t_readWorth)
        else
          (f_X9_takeWordClause i_t_texted f_t_text i_t_faultPlace z_3 z_2 z_3 i_t_number i_t_numberAt i_t_readWords f_t_readKind f_t_readWorth).bind fun (r_101, z_102, z_103, z_104, z_105, z_106, z_107, z_108, z_109, z_110) =>
          if r_101 = 0 then
            (f_X9_here i_t_texted f_t_text z_103).bind fun (r_113, z_114) =>
            if r_113 = 59 then
              some (r_101, z_102, (z_114 + 1), z_104, z_105, z_106, z_107, i_t_readPlaces, z_108, i_t_readFrames, i_t_readPairs, f_t_readPair, f_t_readFrame, z_109, z_110)
            else
              (f_X9_fails z_102 1 z_114).bind fun (r_117, z_118) =>
              some (r_117, z_118, z_114, z_104, z_105, z_106, z_107, i_t_readPlaces, z_108, i_t_readFrames, i_t_readPairs, f_t_readPair, f_t_readFrame, z_109, z_110)
          else
            some (r_101, z_102, (z_103 + 1), z_104, z_105, z_106, z_107, i_t_readPlaces, z_108, i_t_readFrames, i_t_readPairs, f_t_readPair, f_t_readFrame, z_109, z_110)
    else
      (f_X9_code 102 114 97 109).bind fun r_16 =>
      (f_X9_longer r_16 101).bind fun r_18 =>
      if (lg_cmp z_2 r_18) = 0 then
        if i_t_readPlaces = 0 then
          (f_X9_fails i_t_faultPlace 1 z_1).bind fun (r_89, z_90) =>
          some (r_89, z_90, z_1, z_2, z_3, i_t_number, i_t_numberAt, i_t_readPlaces, i_t_readWords, i_t_readFrames, i_t_readPairs, f_t_readPair, f_t_readFrame, f_t_readKind, f_t_readWorth)
        else
          if i_t_readFrames = 8 then
            (f_X9_fails i_t_faultPlace 3 z_1).bind fun (r_86, z_87) =>
            some (r_86, z_87, z_1, z_2, z_3, i_t_number, i_t_numberAt, i_t_readPlaces, i_t_readWords, i_t_readFrames, i_t_readPairs, f_t_readPair, f_t_readFrame, f_t_readKind, f_t_readWorth)
          else
            (f_X9_takeFrame i_t_texted i_t_readPlaces f_t_text i_t_faultPlace z_3 z_2 z_3 i_t_readFrames f_t_readFrame).bind fun (r_70, z_71, z_72, z_73, z_74, z_75, z_76) =>
            if r_70 = 0 then
              (f_X9_here i_t_texted f_t_text z_72).bind fun (r_79, z_80) =>
              if r_79 = 59 then
                some (r_70, z_71, (z_80 + 1), z_73, z_74, i_t_number, i_t_numberAt, i_t_readPlaces, i_t_readWords, z_75, i_t_readPairs, f_t_readPair, z_76, f_t_readKind, f_t_readWorth)
              else
                (f_X9_fails z_71 1 z_80).bind fun (r_83, z_84) =>
                some (r_83, z_84, z_80, z_73, z_74, i_t_number, i_t_numberAt, i_t_readPlaces, i_t_readWords, z_75, i_t_readPairs, f_t_readPair, z_76, f_t_readKind, f_t_readWorth)
            else
              some (r_70, z_71, (z_72 + 1), z_73, z_74, i_t_number, i_t_numberAt, i_t_readPlaces, i_t_readWords, z_75, i_t_readPairs, f_t_readPair, z_76, f_t_readKind, f_t_readWorth)
      else
        (f_X9_code 112 97 105 114).bind fun r_21 =>
        if (lg_cmp z_2 r_21) = 0 then
          if i_t_readPlaces = 0 then
            (f_X9_fails i_t_faultPlace 1 z_1).bind fun (r_57, z_58) =>
            some (r_57, z_58, z_1, z_2, z_3, i_t_number, i_t_numberAt, i_t_readPlaces, i_t_readWords, i_t_readFrames, i_t_readPairs, f_t_readPair, f_t_readFrame, f_t_readKind, f_t_readWorth)
          else
            if i_t_readPairs = 12 then
              (f_X9_fails i_t_faultPlace 3 z_1).bind fun (r_54, z_55) =>
              some (r_54, z_55, z_1, z_2, z_3, i_t_number, i_t_numberAt, i_t_readPlaces, i_t_readWords, i_t_readFrames, i_t_readPairs, f_t_readPair, f_t_readFrame, f_t_readKind, f_t_readWorth)
            else
              (f_X9_takePair i_t_texted i_t_readWords f_t_text i_t_faultPlace z_3 i_t_number i_t_numberAt i_t_readPairs f_t_readPair).bind fun (r_38, z_39, z_40, z_41, z_42, z_43, z_44) =>
              if r_38 = 0 then
                (f_X9_here i_t_texted f_t_text z_40).bind fun (r_47, z_48) =>
                if r_47 = 59 then
                  some (r_38, z_39, (z_48 + 1), z_2, z_3, z_41, z_42, i_t_readPlaces, i_t_readWords, i_t_readFrames, z_43, z_44, f_t_readFrame, f_t_readKind, f_t_readWorth)
                else
                  (f_X9_fails z_39 1 z_48).bind fun (r_51, z_52) =>
                  some (r_51, z_52, z_48, z_2, z_3, z_41, z_42, i_t_readPlaces, i_t_readWords, i_t_readFrames, z_43, z_44, f_t_readFrame, f_t_readKind, f_t_readWorth)
              else
                some (r_38, z_39, (z_40 + 1), z_2, z_3, z_41, z_42, i_t_readPlaces, i_t_readWords, i_t_readFrames, z_43, z_44, f_t_readFrame, f_t_readKind, f_t_readWorth)
        else
          (f_X9_fails i_t_faultPlace 1 z_1).bind fun (r_25, z_26) =>
          some (r_25, z_26, z_1, z_2, z_3, i_t_number, i_t_numberAt, i_t_readPlaces, i_t_readWords, i_t_readFrames, i_t_readPairs, f_t_readPair, f_t_readFrame, f_t_readKind, f_t_readWorth)
def f_X9_isFramed_L15 (i_t_places : Int32) (i_t_words : Int32) (i_t_frames : Int32) (f_t_frame : Nat → Int32) (f_t_kind : Nat → Int32) (K0 : Int32 → Int32 → Int32 → Option (Int32)) : Nat → Int32 → Int32 → Int32 → Int32 → Option (Int32)
  | 0, _, _, _, _ => none
  | n + 1, v1, v2, v3, v4 =>
    if i_t_places ≤ v4 then
      K0 v1 v2 v3
    else
      if v3 = 0 then
        f_X9_isFramed_L15 i_t_places i_t_words i_t_frames f_t_frame f_t_kind K0 n v1 v2 0 (v4 + 1)
      else
        if ixb ((4 * v2) + v4) 32 = true then
        (f_X9_wordAt i_t_words v1 v4).bind fun r_5 =>
        if ixb r_5 8 = true then
        if (f_t_frame (((4 * v2) + v4) : Int32).toNatClampNeg) = (f_t_kind (r_5 : Int32).toNatClampNeg) then
          f_X9_isFramed_L15 i_t_places i_t_words i_t_frames f_t_frame f_t_kind K0 n v1 v2 1 (v4 + 1)
        else
          f_X9_isFramed_L15 i_t_places i_t_words i_t_frames f_t_frame f_t_kind K0 n v1 v2 0 (v4 + 1)
        else none
        else none
def f_X9_isFramed_L2 (i_t_places : Int32) (i_t_words : Int32) (i_t_frames : Int32) (f_t_frame : Nat → Int32) (f_t_kind : Nat → Int32) : Nat → Int32 → Int32 → Option (Int32)
  | 0, _, _ => none
  | n + 1, v1, v2 =>
    if i_t_frames ≤ v2 then
      some 0
    else
      f_X9_isFramed_L15 i_t_places i_t_words i_t_frames f_t_frame f_t_kind (fun (v1_9 : Int32) (v2_10 : Int32) (v3_11 : Int32) =>
        if v3_11 = 0 then
          f_X9_isFramed_L2 i_t_places i_t_words i_t_frames f_t_frame f_t_kind n v1_9 (v2_10 + 1)
        else
          some 1) FU v1 v2 1 0
def f_X9_isFramed (i_t_places : Int32) (i_t_words : Int32) (i_t_frames : Int32) (f_t_frame : Nat → Int32) (f_t_kind : Nat → Int32) (p1 : Int32) : Option (Int32) :=
  f_X9_isFramed_L2 i_t_places i_t_words i_t_frames f_t_frame f_t_kind FU p1 0
def f_X9_worthBy_L87 (i_t_places : Int32) (i_t_words : Int32) (i_t_pairs : Int32) (n_p2 : Nat) (f_p2 : Nat → Int32) (f_t_pair : Nat → Int32) (f_t_kind : Nat → Int32) (K0 : Int32 → Int32 → Int32 → Int32 → Int32 → Int32 → Option (Int32)) : Nat → Int32 → Int32 → Int32 → Int32 → Int32 → Int32 → Int32 → Int32 → Int32 → Option (Int32)
  | 0, _, _, _, _, _, _, _, _, _ => none
  | n + 1, v1, v3, v4, v5, v6, v7, v8, v10, v11 =>
    if i_t_pairs ≤ v11 then
      K0 v1 v3 v4 v5 v6 v7
    else
      if v7 ≤ 0 then
        K0 v1 v3 v4 v5 v6 v7
      else
        if ixb (4 * v11) 48 = true then
        if (f_t_pair ((4 * v11) : Int32).toNatClampNeg) = v10 then
          if ixb ((4 * v11) + 1) 48 = true then
          if (f_t_pair (((4 * v11) + 1) : Int32).toNatClampNeg) = v8 then
            if ixb (((4 * v11) + 2) + v5) 48 = true then
            f_X9_worthBy_L87 i_t_places i_t_words i_t_pairs n_p2 f_p2 f_t_pair f_t_kind K0 n v1 v3 v4 v5 (v6 + (f_t_pair ((((4 * v11) + 2) + v5) : Int32).toNatClampNeg)) v7 v8 v10 (v11 + 1)
            else none
          else
            f_X9_worthBy_L87 i_t_places i_t_words i_t_pairs n_p2 f_p2 f_t_pair f_t_kind K0 n v1 v3 v4 v5 (v6 + 0) v7 v8 v10 (v11 + 1)
          else none
        else
          f_X9_worthBy_L87 i_t_places i_t_words i_t_pairs n_p2 f_p2 f_t_pair f_t_kind K0 n v1 v3 v4 v5 (v6 + 0) v7 v8 v10 (v11 + 1)
        else none
def f_X9_worthBy_L6 (i_t_places : Int32) (i_t_words : Int32) (i_t_pairs : Int32) (n_p2 : Nat) (f_p2 : Nat → Int32) (f_t_pair : Nat → Int32) (f_t_kind : Nat → Int32) : Nat → Int32 → Int32 → Int32 → Int32 → Int32 → Int32 → Option (Int32)
  | 0, _, _, _, _, _, _ => none
  | n + 1, v1, v3, v4, v5, v6, v7 =>
    if i_t_places ≤ v7 then
      some v6
    else
      (f_X9_wordAt i_t_words v1 v7).bind fun r_2 =>
      if ixb ((v3 * r_2) + v4) n_p2 = true then
      if v7 = 0 then
        f_X9_worthBy_L87 i_t_places i_t_words i_t_pairs n_p2 f_p2 f_t_pair f_t_kind (fun (v1_37 : Int32) (v3_38 : Int32) (v4_39 : Int32) (v5_40 : Int32) (v6_41 : Int32) (v7_42 : Int32) =>
          f_X9_worthBy_L6 i_t_places i_t_words i_t_pairs n_p2 f_p2 f_t_pair f_t_kind n v1_37 v3_38 v4_39 v5_40 v6_41 (v7_42 + 1)) FU v1 v3 v4 v5 (v6 + (f_p2 (((v3 * r_2) + v4) : Int32).toNatClampNeg)) v7 r_2 (-1) 0
      else
        (f_X9_wordAt i_t_words v1 (v7 - 1)).bind fun r_6 =>
        if r_6 < 0 then
          f_X9_worthBy_L87 i_t_places i_t_words i_t_pairs n_p2 f_p2 f_t_pair f_t_kind (fun (v1_16 : Int32) (v3_17 : Int32) (v4_18 : Int32) (v5_19 : Int32) (v6_20 : Int32) (v7_21 : Int32) =>
            f_X9_worthBy_L6 i_t_places i_t_words i_t_pairs n_p2 f_p2 f_t_pair f_t_kind n v1_16 v3_17 v4_18 v5_19 v6_20 (v7_21 + 1)) FU v1 v3 v4 v5 (v6 + (f_p2 (((v3 * r_2) + v4) : Int32).toNatClampNeg)) v7 r_2 r_6 0
        else
          if ixb r_6 8 = true then
          if (f_t_kind (r_6 : Int32).toNatClampNeg) = 3 then
            f_X9_worthBy_L87 i_t_places i_t_words i_t_pairs n_p2 f_p2 f_t_pair f_t_kind (fun (v1_30 : Int32) (v3_31 : Int32) (v4_32 : Int32) (v5_33 : Int32) (v6_34 : Int32) (v7_35 : Int32) =>
              f_X9_worthBy_L6 i_t_places i_t_words i_t_pairs n_p2 f_p2 f_t_pair f_t_kind n v1_30 v3_31 v4_32 v5_33 v6_34 (v7_35 + 1)) FU v1 v3 v4 v5 (v6 + (-(f_p2 (((v3 * r_2) + v4) : Int32).toNatClampNeg))) v7 r_2 r_6 0
          else
            f_X9_worthBy_L87 i_t_places i_t_words i_t_pairs n_p2 f_p2 f_t_pair f_t_kind (fun (v1_24 : Int32) (v3_25 : Int32) (v4_26 : Int32) (v5_27 : Int32) (v6_28 : Int32) (v7_29 : Int32) =>
              f_X9_worthBy_L6 i_t_places i_t_words i_t_pairs n_p2 f_p2 f_t_pair f_t_kind n v1_24 v3_25 v4_26 v5_27 v6_28 (v7_29 + 1)) FU v1 v3 v4 v5 (v6 + (f_p2 (((v3 * r_2) + v4) : Int32).toNatClampNeg)) v7 r_2 r_6 0
          else none
      else none
def f_X9_worthBy (i_t_places : Int32) (i_t_words : Int32) (i_t_pairs : Int32) (n_p2 : Nat) (f_p2 : Nat → Int32) (f_t_pair : Nat → Int32) (f_t_kind : Nat → Int32) (p1 : Int32) (p3 : Int32) (p4 : Int32) (p5 : Int32) : Option (Int32) :=
  f_X9_worthBy_L6 i_t_places i_t_words i_t_pairs n_p2 f_p2 f_t_pair f_t_kind FU p1 p3 p4 p5 0 0
def f_X9_findLetters_L30 (i_t_places : Int32) (i_t_words : Int32) (i_t_frames : Int32) (i_t_pairs : Int32) (f_t_frame : Nat → Int32) (f_t_kind : Nat → Int32) (f_t_worths : Nat → Int32) (f_t_pair : Nat → Int32) : Nat → Int32 → Int32 → Int32 → (Nat → Int32) → (Nat → Int32) → Option (Int32 × Int32 × (Nat → Int32) × (Nat → Int32))
  | 0, _, _, _, _, _ => none
  | n + 1, v1, i_t_letters, i_t_standing, f_t_isStanding, f_t_worthOf =>
    if i_t_letters ≤ v1 then
      some (i_t_letters, i_t_standing, f_t_isStanding, f_t_worthOf)
    else
      (f_X9_isFramed i_t_places i_t_words i_t_frames f_t_frame f_t_kind v1).bind fun r_5 =>
      if ixb v1 4096 = true then
      if ixb v1 4096 = true then
      if ((upd f_t_isStanding (v1 : Int32).toNatClampNeg (vp_nar .boolean r_5)) (v1 : Int32).toNatClampNeg) = 0 then
        if ixb v1 4096 = true then
        if ((upd f_t_isStanding (v1 : Int32).toNatClampNeg (vp_nar .boolean r_5)) (v1 : Int32).toNatClampNeg) = 0 then
          if ixb (2 * v1) 8192 = true then
          if ixb v1 4096 = true then
          if ((upd f_t_isStanding (v1 : Int32).toNatClampNeg (vp_nar .boolean r_5)) (v1 : Int32).toNatClampNeg) = 0 then
            if ixb ((2 * v1) + 1) 8192 = true then
            f_X9_findLetters_L30 i_t_places i_t_words i_t_frames i_t_pairs f_t_frame f_t_kind f_t_worths f_t_pair n (v1 + 1) i_t_letters (i_t_standing + 0) (upd f_t_isStanding (v1 : Int32).toNatClampNeg (vp_nar .boolean r_5)) (upd (upd f_t_worthOf ((2 * v1) : Int32).toNatClampNeg 0) (((2 * v1) + 1) : Int32).toNatClampNeg 0)
            else none
          else
            (f_X9_worthBy i_t_places i_t_words i_t_pairs 16 f_t_worths f_t_pair f_t_kind v1 2 1 1).bind fun r_16 =>
            if ixb ((2 * v1) + 1) 8192 = true then
            f_X9_findLetters_L30 i_t_places i_t_words i_t_frames i_t_pairs f_t_frame f_t_kind f_t_worths f_t_pair n (v1 + 1) i_t_letters (i_t_standing + 0) (upd f_t_isStanding (v1 : Int32).toNatClampNeg (vp_nar .boolean r_5)) (upd (upd f_t_worthOf ((2 * v1) : Int32).toNatClampNeg 0) (((2 * v1) + 1) : Int32).toNatClampNeg r_16)
            else none
          else none
          else none
        else
          (f_X9_worthBy i_t_places i_t_words i_t_pairs 16 f_t_worths f_t_pair f_t_kind v1 2 0 0).bind fun r_19 =>
          if ixb (2 * v1) 8192 = true then
          if ixb v1 4096 = true then
          if ((upd f_t_isStanding (v1 : Int32).toNatClampNeg (vp_nar .boolean r_5)) (v1 : Int32).toNatClampNeg) = 0 then
            if ixb ((2 * v1) + 1) 8192 = true then
            f_X9_findLetters_L30 i_t_places i_t_words i_t_frames i_t_pairs f_t_frame f_t_kind f_t_worths f_t_pair n (v1 + 1) i_t_letters (i_t_standing + 0) (upd f_t_isStanding (v1 : Int32).toNatClampNeg (vp_nar .boolean r_5)) (upd (upd f_t_worthOf ((2 * v1) : Int32).toNatClampNeg r_19) (((2 * v1) + 1) : Int32).toNatClampNeg 0)
            else none
          else
            (f_X9_worthBy i_t_places i_t_words i_t_pairs 16 f_t_worths f_t_pair f_t_kind v1 2 1 1).bind fun r_25 =>
            if ixb ((2 * v1) + 1) 8192 = true then
            f_X9_findLetters_L30 i_t_places i_t_words i_t_frames i_t_pairs f_t_frame f_t_kind f_t_worths f_t_pair n (v1 + 1) i_t_letters (i_t_standing + 0) (upd f_t_isStanding (v1 : Int32).toNatClampNeg (vp_nar .boolean r_5)) (upd (upd f_t_worthOf ((2 * v1) : Int32).toNatClampNeg r_19) (((2 * v1) + 1) : Int32).toNatClampNeg r_25)
            else none
          else none
          else none
        else none
      else
        if ixb v1 4096 = true then
        if ((upd f_t_isStanding (v1 : Int32).toNatClampNeg (vp_nar .boolean r_5)) (v1 : Int32).toNatClampNeg) = 0 then
          if ixb (2 * v1) 8192 = true then
          if ixb v1 4096 = true then
          if ((upd f_t_isStanding (v1 : Int32).toNatClampNeg (vp_nar .boolean r_5)) (v1 : Int32).toNatClampNeg) = 0 then
            if ixb ((2 * v1) + 1) 8192 = true then
            f_X9_findLetters_L30 i_t_places i_t_words i_t_frames i_t_pairs f_t_frame f_t_kind f_t_worths f_t_pair n (v1 + 1) i_t_letters (i_t_standing + 1) (upd f_t_isStanding (v1 : Int32).toNatClampNeg (vp_nar .boolean r_5)) (upd (upd f_t_worthOf ((2 * v1) : Int32).toNatClampNeg 0) (((2 * v1) + 1) : Int32).toNatClampNeg 0)
            else none
          else
            (f_X9_worthBy i_t_places i_t_words i_t_pairs 16 f_t_worths f_t_pair f_t_kind v1 2 1 1).bind fun r_34 =>
            if ixb ((2 * v1) + 1) 8192 = true then
            f_X9_findLetters_L30 i_t_places i_t_words i_t_frames i_t_pairs f_t_frame f_t_kind f_t_worths f_t_pair n (v1 + 1) i_t_letters (i_t_standing + 1) (upd f_t_isStanding (v1 : Int32).toNatClampNeg (vp_nar .boolean r_5)) (upd (upd f_t_worthOf ((2 * v1) : Int32).toNatClampNeg 0) (((2 * v1) + 1) : Int32).toNatClampNeg r_34)
            else none
          else none
          else none
        else
          (f_X9_worthBy i_t_places i_t_words i_t_pairs 16 f_t_worths f_t_pair f_t_kind v1 2 0 0).bind fun r_37 =>
          if ixb (2 * v1) 8192 = true then
          if ixb v1 4096 = true then
          if ((upd f_t_isStanding (v1 : Int32).toNatClampNeg (vp_nar .boolean r_5)) (v1 : Int32).toNatClampNeg) = 0 then
            if ixb ((2 * v1) + 1) 8192 = true then
            f_X9_findLetters_L30 i_t_places i_t_words i_t_frames i_t_pairs f_t_frame f_t_kind f_t_worths f_t_pair n (v1 + 1) i_t_letters (i_t_standing + 1) (upd f_t_isStanding (v1 : Int32).toNatClampNeg (vp_nar .boolean r_5)) (upd (upd f_t_worthOf ((2 * v1) : Int32).toNatClampNeg r_37) (((2 * v1) + 1) : Int32).toNatClampNeg 0)
            else none
          else
            (f_X9_worthBy i_t_places i_t_words i_t_pairs 16 f_t_worths f_t_pair f_t_kind v1 2 1 1).bind fun r_43 =>
            if ixb ((2 * v1) + 1) 8192 = true then
            f_X9_findLetters_L30 i_t_places i_t_words i_t_frames i_t_pairs f_t_frame f_t_kind f_t_worths f_t_pair n (v1 + 1) i_t_letters (i_t_standing + 1) (upd f_t_isStanding (v1 : Int32).toNatClampNeg (vp_nar .boolean r_5)) (upd (upd f_t_worthOf ((2 * v1) : Int32).toNatClampNeg r_37) (((2 * v1) + 1) : Int32).toNatClampNeg r_43)
            else none
          else none
          else none
        else none
      else none
      else none
def f_X9_findLetters (i_t_places : Int32) (i_t_words : Int32) (i_t_frames : Int32) (i_t_pairs : Int32) (f_t_frame : Nat → Int32) (f_t_kind : Nat → Int32) (f_t_worths : Nat → Int32) (f_t_pair : Nat → Int32) (i_t_letters : Int32) (i_t_standing : Int32) (f_t_isStanding : Nat → Int32) (f_t_worthOf : Nat → Int32) : Option (Int32 × Int32 × (Nat → Int32) × (Nat → Int32)) :=
  if i_t_words = 0 then
    f_X9_findLetters_L30 i_t_places i_t_words i_t_frames i_t_pairs f_t_frame f_t_kind f_t_worths f_t_pair FU 0 0 0 f_t_isStanding f_t_worthOf
  else
    (f_X9_unit i_t_words i_t_places).bind fun r_2 =>
    f_X9_findLetters_L30 i_t_places i_t_words i_t_frames i_t_pairs f_t_frame f_t_kind f_t_worths f_t_pair FU 0 r_2 0 f_t_isStanding f_t_worthOf
def f_X9_tongue_L32 (f_t_text : Nat → Int32) (K0 : Int32 → Int32 → Int32 → Int32 → Int32 → Int32 → Int32 → Int32 → Int32 → Int32 → Int32 → Int32 → Int32 → Int32 → Int64 → Int32 → Int32 → Int32 → Int32 → Int32 → Int32 → Int32 → Int32 → Int32 → (Nat → Int32) → (Nat → Int32) → (Nat → Int32) → (Nat → Int32) → (Nat → Int32) → (Nat → Int32) → (Nat → Int32) → (Nat → Int32) → (Nat → Int32) → (Nat → Int32) → (Nat → Int32) → (Nat → Int32) → Option (Int32 × Int32 × Int32 × Int32 × Int32 × Int32 × Int32 × Int32 × Int32 × Int32 × Int32 × Int32 × Int32 × Int32 × Int64 × Int32 × Int32 × Int32 × Int32 × Int32 × Int32 × Int32 × Int32 × Int32 × (Nat → Int32) × (Nat → Int32) × (Nat → Int32) × (Nat → Int32) × (Nat → Int32) × (Nat → Int32) × (Nat → Int32) × (Nat → Int32) × (Nat → Int32) × (Nat → Int32) × (Nat → Int32) × (Nat → Int32))) : Nat → Int32 → Int32 → Int32 → Int32 → Int32 → Int32 → Int32 → Int32 → Int32 → Int32 → Int32 → Int32 → Int32 → Int32 → Int64 → Int32 → Int32 → Int32 → Int32 → Int32 → Int32 → Int32 → Int32 → Int32 → (Nat → Int32) → (Nat → Int32) → (Nat → Int32) → (Nat → Int32) → (Nat → Int32) → (Nat → Int32) → (Nat → Int32) → (Nat → Int32) → (Nat → Int32) → (Nat → Int32) → (Nat → Int32) → (Nat → Int32) → Option (Int32 × Int32 × Int32 × Int32 × Int32 × Int32 × Int32 × Int32 × Int32 × Int32 × Int32 × Int32 × Int32 × Int32 × Int64 × Int32 × Int32 × Int32 × Int32 × Int32 × Int32 × Int32 × Int32 × Int32 × (Nat → Int32) × (Nat → Int32) × (Nat → Int32) × (Nat → Int32) × (Nat → Int32) × (Nat → Int32) × (Nat → Int32) × (Nat → Int32) × (Nat → Int32) × (Nat → Int32) × (Nat → Int32) × (Nat → Int32))
  | 0, _, _, _, _, _, _, _, _, _, _, _, _, _, _, _, _, _, _, _, _, _, _, _, _, _, _, _, _, _, _, _, _, _, _, _, _ => none
  | n + 1, v1, i_t_places, i_t_words, i_t_frames, i_t_pairs, i_t_letters, i_t_standing, i_t_letter, i_t_turn, i_t_isSettled, i_t_logged, i_t_texted, i_t_faultPlace, i_t_at0, i_t_said, i_t_wordEnd, i_t_number, i_t_numberAt, i_t_readPlaces, i_t_readWords, i_t_readFrames, i_t_readPairs, i_t_guesses, i_t_booked, f_t_readPair, f_t_readFrame, f_t_readKind, f_t_readWorth, f_t_kind, f_t_worths, f_t_frame, f_t_pair, f_t_isStanding, f_t_worthOf, f_t_had, f_t_isKept =>
    if v1 = 0 then
      (f_X9_here i_t_texted f_t_text i_t_at0).bind fun (r_2, z_3) =>
      if r_2 < 0 then
        K0 v1 i_t_places i_t_words i_t_frames i_t_pairs i_t_letters i_t_standing i_t_letter i_t_turn i_t_isSettled i_t_logged i_t_texted i_t_faultPlace z_3 i_t_said i_t_wordEnd i_t_number i_t_numberAt i_t_readPlaces i_t_readWords i_t_readFrames i_t_readPairs i_t_guesses i_t_booked f_t_readPair f_t_readFrame f_t_readKind f_t_readWorth f_t_kind f_t_worths f_t_frame f_t_pair f_t_isStanding f_t_worthOf f_t_had f_t_isKept
      else
        (f_X9_takeClause i_t_texted f_t_text i_t_faultPlace z_3 i_t_said i_t_wordEnd i_t_number i_t_numberAt i_t_readPlaces i_t_readWords i_t_readFrames i_t_readPairs f_t_readPair f_t_readFrame f_t_readKind f_t_readWorth).bind fun (r_6, z_7, z_8, z_9, z_10, z_11, z_12, z_13, z_14, z_15, z_16, z_17, z_18, z_19, z_20) =>
        f_X9_tongue_L32 f_t_text K0 n r_6 i_t_places i_t_words i_t_frames i_t_pairs i_t_letters i_t_standing i_t_letter i_t_turn i_t_isSettled i_t_logged i_t_texted z_7 z_8 z_9 z_10 z_11 z_12 z_13 z_14 z_15 z_16 i_t_guesses i_t_booked z_17 z_18 z_19 z_20 f_t_kind f_t_worths f_t_frame f_t_pair f_t_isStanding f_t_worthOf f_t_had f_t_isKept
    else
      K0 v1 i_t_places i_t_words i_t_frames i_t_pairs i_t_letters i_t_standing i_t_letter i_t_turn i_t_isSettled i_t_logged i_t_texted i_t_faultPlace i_t_at0 i_t_said i_t_wordEnd i_t_number i_t_numberAt i_t_readPlaces i_t_readWords i_t_readFrames i_t_readPairs i_t_guesses i_t_booked f_t_readPair f_t_readFrame f_t_readKind f_t_readWorth f_t_kind f_t_worths f_t_frame f_t_pair f_t_isStanding f_t_worthOf f_t_had f_t_isKept
def f_X9_tongue_L99 (f_t_text : Nat → Int32) (K0 : Int32 → Int32 → Int32 → Int32 → Int32 → Int32 → Int32 → Int32 → Int32 → Int32 → Int32 → Int32 → Int32 → Int64 → Int32 → Int32 → Int32 → Int32 → Int32 → Int32 → Int32 → Int32 → Int32 → (Nat → Int32) → (Nat → Int32) → (Nat → Int32) → (Nat → Int32) → (Nat → Int32) → (Nat → Int32) → (Nat → Int32) → (Nat → Int32) → (Nat → Int32) → (Nat → Int32) → (Nat → Int32) → (Nat → Int32) → Option (Int32 × Int32 × Int32 × Int32 × Int32 × Int32 × Int32 × Int32 × Int32 × Int32 × Int32 × Int32 × Int32 × Int32 × Int64 × Int32 × Int32 × Int32 × Int32 × Int32 × Int32 × Int32 × Int32 × Int32 × (Nat → Int32) × (Nat → Int32) × (Nat → Int32) × (Nat → Int32) × (Nat → Int32) × (Nat → Int32) × (Nat → Int32) × (Nat → Int32) × (Nat → Int32) × (Nat → Int32) × (Nat → Int32) × (Nat → Int32))) : Nat → Int32 → Int32 → Int32 → Int32 → Int32 → Int32 → Int32 → Int32 → Int32 → Int32 → Int32 → Int32 → Int32 → Int32 → Int64 → Int32 → Int32 → Int32 → Int32 → Int32 → Int32 → Int32 → Int32 → Int32 → (Nat → Int32) → (Nat → Int32) → (Nat → Int32) → (Nat → Int32) → (Nat → Int32) → (Nat → Int32) → (Nat → Int32) → (Nat → Int32) → (Nat → Int32) → (Nat → Int32) → (Nat → Int32) → (Nat → Int32) → Option (Int32 × Int32 × Int32 × Int32 × Int32 × Int32 × Int32 × Int32 × Int32 × Int32 × Int32 × Int32 × Int32 × Int32 × Int64 × Int32 × Int32 × Int32 × Int32 × Int32 × Int32 × Int32 × Int32 × Int32 × (Nat → Int32) × (Nat → Int32) × (Nat → Int32) × (Nat → Int32) × (Nat → Int32) × (Nat → Int32) × (Nat → Int32) × (Nat → Int32) × (Nat → Int32) × (Nat → Int32) × (Nat → Int32) × (Nat → Int32))
  | 0, _, _, _, _, _, _, _, _, _, _, _, _, _, _, _, _, _, _, _, _, _, _, _, _, _, _, _, _, _, _, _, _, _, _, _, _ => none
  | n + 1, v2, i_t_places, i_t_words, i_t_frames, i_t_pairs, i_t_letters, i_t_standing, i_t_letter, i_t_turn, i_t_isSettled, i_t_logged, i_t_texted, i_t_faultPlace, i_t_at0, i_t_said, i_t_wordEnd, i_t_number, i_t_numberAt, i_t_readPlaces, i_t_readWords, i_t_readFrames, i_t_readPairs, i_t_guesses, i_t_booked, f_t_readPair, f_t_readFrame, f_t_readKind, f_t_readWorth, f_t_kind, f_t_worths, f_t_frame, f_t_pair, f_t_isStanding, f_t_worthOf, f_t_had, f_t_isKept =>
    if 48 ≤ v2 then
      K0 i_t_places i_t_words i_t_frames i_t_pairs i_t_letters i_t_standing i_t_letter i_t_turn i_t_isSettled i_t_logged i_t_texted i_t_faultPlace i_t_at0 i_t_said i_t_wordEnd i_t_number i_t_numberAt i_t_readPlaces i_t_readWords i_t_readFrames i_t_readPairs i_t_guesses i_t_booked f_t_readPair f_t_readFrame f_t_readKind f_t_readWorth f_t_kind f_t_worths f_t_frame f_t_pair f_t_isStanding f_t_worthOf f_t_had f_t_isKept
    else
      if ixb (v2 - v2 / 8 * 8) 8 = true then
      if ixb (v2 - v2 / 8 * 8) 8 = true then
      if ixb (v2 - v2 / 16 * 16) 16 = true then
      if ixb (v2 - v2 / 16 * 16) 16 = true then
      if ixb (v2 - v2 / 32 * 32) 32 = true then
      if ixb (v2 - v2 / 32 * 32) 32 = true then
      if ixb v2 48 = true then
      if ixb v2 48 = true then
      f_X9_tongue_L99 f_t_text K0 n (v2 + 1) i_t_places i_t_words i_t_frames i_t_pairs i_t_letters i_t_standing i_t_letter i_t_turn i_t_isSettled i_t_logged i_t_texted i_t_faultPlace i_t_at0 i_t_said i_t_wordEnd i_t_number i_t_numberAt i_t_readPlaces i_t_readWords i_t_readFrames i_t_readPairs i_t_guesses i_t_booked f_t_readPair f_t_readFrame f_t_readKind f_t_readWorth (upd f_t_kind ((v2 - v2 / 8 * 8) : Int32).toNatClampNeg (f_t_readKind ((v2 - v2 / 8 * 8) : Int32).toNatClampNeg)) (upd f_t_worths ((v2 - v2 / 16 * 16) : Int32).toNatClampNeg (f_t_readWorth ((v2 - v2 / 16 * 16) : Int32).toNatClampNeg)) (upd f_t_frame ((v2 - v2 / 32 * 32) : Int32).toNatClampNeg (f_t_readFrame ((v2 - v2 / 32 * 32) : Int32).toNatClampNeg)) (upd f_t_pair (v2 : Int32).toNatClampNeg (f_t_readPair (v2 : Int32).toNatClampNeg)) f_t_isStanding f_t_worthOf f_t_had f_t_isKept
      else none
      else none
      else none
      else none
      else none
      else none
      else none
      else none
def f_X9_tongue (f_t_text : Nat → Int32) (i_t_places : Int32) (i_t_words : Int32) (i_t_frames : Int32) (i_t_pairs : Int32) (i_t_letters : Int32) (i_t_standing : Int32) (i_t_letter : Int32) (i_t_turn : Int32) (i_t_isSettled : Int32) (i_t_logged : Int32) (i_t_texted : Int32) (i_t_faultPlace : Int32) (i_t_at0 : Int32) (i_t_said : Int64) (i_t_wordEnd : Int32) (i_t_number : Int32) (i_t_numberAt : Int32) (i_t_readPlaces : Int32) (i_t_readWords : Int32) (i_t_readFrames : Int32) (i_t_readPairs : Int32) (i_t_guesses : Int32) (i_t_booked : Int32) (f_t_readPair : Nat → Int32) (f_t_readFrame : Nat → Int32) (f_t_readKind : Nat → Int32) (f_t_readWorth : Nat → Int32) (f_t_kind : Nat → Int32) (f_t_worths : Nat → Int32) (f_t_frame : Nat → Int32) (f_t_pair : Nat → Int32) (f_t_isStanding : Nat → Int32) (f_t_worthOf : Nat → Int32) (f_t_had : Nat → Int32) (f_t_isKept : Nat → Int32) : Option (Int32 × Int32 × Int32 × Int32 × Int32 × Int32 × Int32 × Int32 × Int32 × Int32 × Int32 × Int32 × Int32 × Int32 × Int64 × Int32 × Int32 × Int32 × Int32 × Int32 × Int32 × Int32 × Int32 × Int32 × (Nat → Int32) × (Nat → Int32) × (Nat → Int32) × (Nat → Int32) × (Nat → Int32) × (Nat → Int32) × (Nat → Int32) × (Nat → Int32) × (Nat → Int32) × (Nat → Int32) × (Nat → Int32) × (Nat → Int32)) :=
  f_X9_tongue_L32 f_t_text (fun (v1_22 : Int32) (z_23 : Int32) (z_24 : Int32) (z_25 : Int32) (z_26 : Int32) (z_27 : Int32) (z_28 : Int32) (z_29 : Int32) (z_30 : Int32) (z_31 : Int32) (z_32 : Int32) (z_33 : Int32) (z_34 : Int32) (z_35 : Int32) (z_36 : Int64) (z_37 : Int32) (z_38 : Int32) (z_39 : Int32) (z_40 : Int32) (z_41 : Int32) (z_42 : Int32) (z_43 : Int32) (z_44 : Int32) (z_45 : Int32) (z_46 : Nat → Int32) (z_47 : Nat → Int32) (z_48 : Nat → Int32) (z_49 : Nat → Int32) (z_50 : Nat → Int32) (z_51 : Nat → Int32) (z_52 : Nat → Int32) (z_53 : Nat → Int32) (z_54 : Nat → Int32) (z_55 : Nat → Int32) (z_56 : Nat → Int32) (z_57 : Nat → Int32) =>
    if v1_22 ≤ 0 then
      f_X9_tongue_L99 f_t_text (fun (z_68 : Int32) (z_69 : Int32) (z_70 : Int32) (z_71 : Int32) (z_72 : Int32) (z_73 : Int32) (z_74 : Int32) (z_75 : Int32) (z_76 : Int32) (z_77 : Int32) (z_78 : Int32) (z_79 : Int32) (z_80 : Int32) (z_81 : Int64) (z_82 : Int32) (z_83 : Int32) (z_84 : Int32) (z_85 : Int32) (z_86 : Int32) (z_87 : Int32) (z_88 : Int32) (z_89 : Int32) (z_90 : Int32) (z_91 : Nat → Int32) (z_92 : Nat → Int32) (z_93 : Nat → Int32) (z_94 : Nat → Int32) (z_95 : Nat → Int32) (z_96 : Nat → Int32) (z_97 : Nat → Int32) (z_98 : Nat → Int32) (z_99 : Nat → Int32) (z_100 : Nat → Int32) (z_101 : Nat → Int32) (z_102 : Nat → Int32) =>
        (f_X9_findLetters z_68 z_69 z_70 z_71 z_97 z_95 z_96 z_98 z_72 z_73 z_99 z_100).bind fun (z_103, z_104, z_105, z_106) =>
        if ixb 0 2 = true then
        if ixb 1 2 = true then
        if ixb 0 2 = true then
        if ixb 1 2 = true then
        some (z_103, z_68, z_69, z_70, z_71, z_103, z_104, 0, 0, 0, 0, z_78, z_79, z_80, z_81, z_82, z_83, z_84, z_85, z_86, z_87, z_88, 0, 0, z_91, z_92, z_93, z_94, z_95, z_96, z_97, z_98, z_105, z_106, (upd (upd z_101 (0 : Int32).toNatClampNeg 0) (1 : Int32).toNatClampNeg 0), (upd (upd z_102 (0 : Int32).toNatClampNeg (vp_nar .boolean 0)) (1 : Int32).toNatClampNeg (vp_nar .boolean 0)))
        else none
        else none
        else none
        else none) FU 0 z_40 z_41 z_42 z_43 z_27 z_28 z_29 z_30 z_31 z_32 0 z_34 z_35 z_36 z_37 z_38 z_39 z_40 z_41 z_42 z_43 z_44 z_45 z_46 z_47 z_48 z_49 z_50 z_51 z_52 z_53 z_54 z_55 z_56 z_57
    else
      some (((-10) - v1_22), z_23, z_24, z_25, z_26, z_27, z_28, z_29, z_30, z_31, z_32, 0, z_34, z_35, z_36, z_37, z_38, z_39, z_40, z_41, z_42, z_43, z_44, z_45, z_46, z_47, z_48, z_49, z_50, z_51, z_52, z_53, z_54, z_55, z_56, z_57)) FU 0 i_t_places i_t_words i_t_frames i_t_pairs i_t_letters i_t_standing i_t_letter i_t_turn i_t_isSettled i_t_logged i_t_texted (-1) 0 i_t_said i_t_wordEnd i_t_number i_t_numberAt 0 0 0 0 i_t_guesses i_t_booked f_t_readPair f_t_readFrame f_t_readKind f_t_readWorth f_t_kind f_t_worths f_t_frame f_t_pair f_t_isStanding f_t_worthOf f_t_had f_t_isKept
def f_X9_fault (i_t_faultPlace : Int32) : Option (Int32) :=
  some i_t_faultPlace
def f_X9_told (i_t_places : Int32) (i_t_words : Int32) (i_t_frames : Int32) (i_t_pairs : Int32) (i_t_standing : Int32) (i_t_law : Int32) (i_t_way : Int32) (i_t_letter : Int32) (i_t_turn : Int32) (i_t_isSettled : Int32) (i_t_logged : Int32) (i_t_texted : Int32) (i_t_guesses : Int32) (i_t_booked : Int32) (p1 : Int32) : Option (Int32) :=
  if p1 = 0 then
    some i_t_places
  else
    if p1 = 1 then
      some i_t_words
    else
      if p1 = 2 then
        some i_t_frames
      else
        if p1 = 3 then
          some i_t_pairs
        else
          if p1 = 4 then
            some i_t_texted
          else
            if p1 = 5 then
              some i_t_law
            else
              if p1 = 6 then
                some i_t_way
              else
                if p1 = 7 then
                  some i_t_letter
                else
                  if p1 = 8 then
                    some i_t_turn
                  else
                    if p1 = 9 then
                      if i_t_isSettled = 0 then
                        some 0
                      else
                        some 1
                    else
                      if p1 = 10 then
                        some i_t_logged
                      else
                        if p1 = 11 then
                          some i_t_guesses
                        else
                          if p1 = 12 then
                            some i_t_booked
                          else
                            if p1 = 13 then
                              some i_t_standing
                            else
                              some (-1000000002)
def f_X9_word (i_t_words : Int32) (f_t_worths : Nat → Int32) (f_t_kind : Nat → Int32) (p1 : Int32) (p2 : Int32) : Option (Int32) :=
  (f_X9_isWord i_t_words p1).bind fun r_1 =>
  if r_1 = 0 then
    some (-1000000001)
  else
    if p2 = 0 then
      if ixb p1 8 = true then
      some (f_t_kind (p1 : Int32).toNatClampNeg)
      else none
    else
      if p2 = 1 then
        if ixb (2 * p1) 16 = true then
        some (f_t_worths ((2 * p1) : Int32).toNatClampNeg)
        else none
      else
        if p2 = 2 then
          if ixb ((2 * p1) + 1) 16 = true then
          some (f_t_worths (((2 * p1) + 1) : Int32).toNatClampNeg)
          else none
        else
          some (-1000000002)
def f_X9_at (i_t_places : Int32) (i_t_words : Int32) (i_t_letters : Int32) (p1 : Int32) (p2 : Int32) : Option (Int32) :=
  (f_X9_isLetter i_t_letters p1).bind fun r_1 =>
  if r_1 = 0 then
    some (-1000000002)
  else
    (f_X9_in ((p2 : Int32).toInt64) 0 (((i_t_places - 1) : Int32).toInt64)).bind fun r_4 =>
    if r_4 = 0 then
      some (-1000000002)
    else
      (f_X9_wordAt i_t_words p1 p2).bind fun r_7 =>
      some r_7
def f_X9_stands (i_t_letters : Int32) (f_t_isStanding : Nat → Int32) (p1 : Int32) : Option (Int32) :=
  (f_X9_isLetter i_t_letters p1).bind fun r_1 =>
  if r_1 = 0 then
    some (-1000000002)
  else
    if ixb p1 4096 = true then
    if (f_t_isStanding (p1 : Int32).toNatClampNeg) = 0 then
      some 0
    else
      some 1
    else none
def f_X9_worth (i_t_letters : Int32) (f_t_worthOf : Nat → Int32) (p1 : Int32) (p2 : Int32) : Option (Int32) :=
  (f_X9_isHouse p1).bind fun r_1 =>
  if r_1 = 0 then
    some (-1000000001)
  else
    (f_X9_isLetter i_t_letters p2).bind fun r_4 =>
    if r_4 = 0 then
      some (-1000000002)
    else
      if ixb ((2 * p2) + p1) 8192 = true then
      some (f_t_worthOf (((2 * p2) + p1) : Int32).toNatClampNeg)
      else none
def f_X9_law (i_t_law : Int32) (p1 : Int32) : Option (Int32 × Int32) :=
  (f_X9_in ((p1 : Int32).toInt64) 0 2).bind fun r_1 =>
  if r_1 = 0 then
    some ((-1000000002), i_t_law)
  else
    some (i_t_law, p1)
def f_X9_way (i_t_way : Int32) (p1 : Int32) : Option (Int32 × Int32) :=
  (f_X9_in ((p1 : Int32).toInt64) 0 1).bind fun r_1 =>
  if r_1 = 0 then
    some ((-1000000002), i_t_way)
  else
    some (i_t_way, p1)
def f_X9_addChange (f_t_isStanding : Nat → Int32) (i_t_changes : Int32) (f_t_change : Nat → Int32) (p1 : Int32) (p2 : Int32) : Option (Int32 × (Nat → Int32)) :=
  if p2 = 0 then
    if ixb p1 4096 = true then
    if (f_t_isStanding (p1 : Int32).toNatClampNeg) = 0 then
      some (i_t_changes, f_t_change)
    else
      if ixb i_t_changes 40 = true then
      some ((i_t_changes + 1), (upd f_t_change (i_t_changes : Int32).toNatClampNeg p1))
      else none
    else none
  else
    if ixb i_t_changes 40 = true then
    some ((i_t_changes + 1), (upd f_t_change (i_t_changes : Int32).toNatClampNeg p1))
    else none
def f_X9_findChanges_L34 (i_t_places : Int32) (i_t_words : Int32) (i_t_law : Int32) (f_t_isStanding : Nat → Int32) (K0 : Int32 → Int32 → Int32 → Int32 → (Nat → Int32) → Option (Int32 × (Nat → Int32))) : Nat → Int32 → Int32 → Int32 → Int32 → Int32 → Int32 → (Nat → Int32) → Option (Int32 × (Nat → Int32))
  | 0, _, _, _, _, _, _, _ => none
  | n + 1, v1, v2, v3, v4, v5, i_t_changes, f_t_change =>
    if i_t_words ≤ v5 then
      K0 v1 v2 v3 i_t_changes f_t_change
    else
      if v5 = v4 then
        f_X9_findChanges_L34 i_t_places i_t_words i_t_law f_t_isStanding K0 n v1 v2 v3 v4 (v5 + 1) i_t_changes f_t_change
      else
        (f_X9_unit i_t_words v3).bind fun r_7 =>
        (f_X9_addChange f_t_isStanding i_t_changes f_t_change (v1 + ((v5 - v4) * r_7)) v2).bind fun (z_9, z_10) =>
        f_X9_findChanges_L34 i_t_places i_t_words i_t_law f_t_isStanding K0 n v1 v2 v3 v4 (v5 + 1) z_9 z_10
def f_X9_findChanges_L7 (i_t_places : Int32) (i_t_words : Int32) (i_t_law : Int32) (f_t_isStanding : Nat → Int32) (K0 : Int32 → Int32 → Int32 → (Nat → Int32) → Option (Int32 × (Nat → Int32))) : Nat → Int32 → Int32 → Int32 → Int32 → (Nat → Int32) → Option (Int32 × (Nat → Int32))
  | 0, _, _, _, _, _ => none
  | n + 1, v1, v2, v3, i_t_changes, f_t_change =>
    if i_t_places ≤ v3 then
      K0 v1 v2 i_t_changes f_t_change
    else
      if i_t_law = 1 then
        K0 v1 v2 i_t_changes f_t_change
      else
        (f_X9_wordAt i_t_words v1 v3).bind fun r_3 =>
        f_X9_findChanges_L34 i_t_places i_t_words i_t_law f_t_isStanding (fun (v1_12 : Int32) (v2_13 : Int32) (v3_14 : Int32) (z_15 : Int32) (z_16 : Nat → Int32) =>
          f_X9_findChanges_L7 i_t_places i_t_words i_t_law f_t_isStanding K0 n v1_12 v2_13 (v3_14 + 1) z_15 z_16) FU v1 v2 v3 r_3 0 i_t_changes f_t_change
def f_X9_findChanges_L82 (i_t_places : Int32) (i_t_words : Int32) (i_t_law : Int32) (f_t_isStanding : Nat → Int32) : Nat → Int32 → Int32 → Int32 → Int32 → (Nat → Int32) → Option (Int32 × (Nat → Int32))
  | 0, _, _, _, _, _ => none
  | n + 1, v1, v2, v3, i_t_changes, f_t_change =>
    if (i_t_places - 1) ≤ v3 then
      some (i_t_changes, f_t_change)
    else
      if i_t_law = 0 then
        some (i_t_changes, f_t_change)
      else
        (f_X9_wordAt i_t_words v1 v3).bind fun r_23 =>
        (f_X9_wordAt i_t_words v1 (v3 + 1)).bind fun r_25 =>
        if r_23 = r_25 then
          f_X9_findChanges_L82 i_t_places i_t_words i_t_law f_t_isStanding n v1 v2 (v3 + 1) i_t_changes f_t_change
        else
          (f_X9_unit i_t_words v3).bind fun r_28 =>
          (f_X9_unit i_t_words (v3 + 1)).bind fun r_30 =>
          (f_X9_addChange f_t_isStanding i_t_changes f_t_change ((v1 + ((r_25 - r_23) * r_28)) + ((r_23 - r_25) * r_30)) v2).bind fun (z_32, z_33) =>
          f_X9_findChanges_L82 i_t_places i_t_words i_t_law f_t_isStanding n v1 v2 (v3 + 1) z_32 z_33
def f_X9_findChanges (i_t_places : Int32) (i_t_words : Int32) (i_t_law : Int32) (f_t_isStanding : Nat → Int32) (i_t_changes : Int32) (f_t_change : Nat → Int32) (p1 : Int32) (p2 : Int32) : Option (Int32 × (Nat → Int32)) :=
  f_X9_findChanges_L7 i_t_places i_t_words i_t_law f_t_isStanding (fun (v1_17 : Int32) (v2_18 : Int32) (z_19 : Int32) (z_20 : Nat → Int32) =>
    f_X9_findChanges_L82 i_t_places i_t_words i_t_law f_t_isStanding FU v1_17 v2_18 0 z_19 z_20) FU p1 p2 0 0 f_t_change
def f_X9_placeOf_L4 (i_t_changes : Int32) (f_t_change : Nat → Int32) : Nat → Int32 → Int32 → Int32 → Option (Int32)
  | 0, _, _, _ => none
  | n + 1, v1, v2, v3 =>
    if i_t_changes ≤ v3 then
      some v2
    else
      if ixb v3 40 = true then
      if (f_t_change (v3 : Int32).toNatClampNeg) = v1 then
        if 0 ≤ v2 then
          f_X9_placeOf_L4 i_t_changes f_t_change n v1 v2 (v3 + 1)
        else
          f_X9_placeOf_L4 i_t_changes f_t_change n v1 v3 (v3 + 1)
      else
        f_X9_placeOf_L4 i_t_changes f_t_change n v1 v2 (v3 + 1)
      else none
def f_X9_placeOf (i_t_changes : Int32) (f_t_change : Nat → Int32) (p1 : Int32) : Option (Int32) :=
  f_X9_placeOf_L4 i_t_changes f_t_change FU p1 (-1) 0
def f_X9_change (i_t_places : Int32) (i_t_words : Int32) (i_t_letters : Int32) (i_t_law : Int32) (i_t_way : Int32) (f_t_isStanding : Nat → Int32) (i_t_changes : Int32) (f_t_change : Nat → Int32) (p1 : Int32) (p2 : Int32) : Option (Int32 × Int32 × (Nat → Int32)) :=
  (f_X9_isLetter i_t_letters p1).bind fun r_1 =>
  if r_1 = 0 then
    some ((-1000000002), i_t_changes, f_t_change)
  else
    if i_t_way = 1 then
      (f_X9_findChanges i_t_places i_t_words i_t_law f_t_isStanding i_t_changes f_t_change p1 1).bind fun (z_13, z_14) =>
      if p2 = (-1) then
        some (z_13, z_13, z_14)
      else
        (f_X9_in ((p2 : Int32).toInt64) 0 (((z_13 - 1) : Int32).toInt64)).bind fun r_17 =>
        if r_17 = 0 then
          some ((-1), z_13, z_14)
        else
          if ixb p2 40 = true then
          some ((z_14 (p2 : Int32).toNatClampNeg), z_13, z_14)
          else none
    else
      (f_X9_findChanges i_t_places i_t_words i_t_law f_t_isStanding i_t_changes f_t_change p1 0).bind fun (z_5, z_6) =>
      if p2 = (-1) then
        some (z_5, z_5, z_6)
      else
        (f_X9_in ((p2 : Int32).toInt64) 0 (((z_5 - 1) : Int32).toInt64)).bind fun r_9 =>
        if r_9 = 0 then
          some ((-1), z_5, z_6)
        else
          if ixb p2 40 = true then
          some ((z_6 (p2 : Int32).toNatClampNeg), z_5, z_6)
          else none
def f_X9_begin (i_t_letters : Int32) (i_t_letter : Int32) (i_t_turn : Int32) (i_t_isSettled : Int32) (p1 : Int32) (p2 : Int32) : Option (Int32 × Int32 × Int32 × Int32) :=
  (f_X9_isHouse p2).bind fun r_1 =>
  if r_1 = 0 then
    some ((-1000000001), i_t_letter, i_t_turn, i_t_isSettled)
  else
    (f_X9_isLetter i_t_letters p1).bind fun r_4 =>
    if r_4 = 0 then
      some ((-1000000002), i_t_letter, i_t_turn, i_t_isSettled)
    else
      some (i_t_letter, p1, p2, 0)
def f_X9_sendNow (i_t_letter : Int32) (i_t_turn : Int32) (i_t_logged : Int32) (f_t_logWho : Nat → Int32) (f_t_logFrom : Nat → Int32) (f_t_logTo : Nat → Int32) (p1 : Int32) : Option (Int32 × Int32 × Int32 × (Nat → Int32) × (Nat → Int32) × (Nat → Int32)) :=
  if 60 ≤ i_t_logged then
    some (p1, (1 - i_t_turn), i_t_logged, f_t_logWho, f_t_logFrom, f_t_logTo)
  else
    if ixb i_t_logged 60 = true then
    if ixb i_t_logged 60 = true then
    if ixb i_t_logged 60 = true then
    some (p1, (1 - i_t_turn), (i_t_logged + 1), (upd f_t_logWho (i_t_logged : Int32).toNatClampNeg i_t_turn), (upd f_t_logFrom (i_t_logged : Int32).toNatClampNeg i_t_letter), (upd f_t_logTo (i_t_logged : Int32).toNatClampNeg p1))
    else none
    else none
    else none
def f_X9_send (i_t_places : Int32) (i_t_words : Int32) (i_t_letters : Int32) (i_t_law : Int32) (i_t_way : Int32) (i_t_isSettled : Int32) (f_t_isStanding : Nat → Int32) (i_t_letter : Int32) (i_t_turn : Int32) (i_t_logged : Int32) (i_t_changes : Int32) (f_t_change : Nat → Int32) (f_t_logWho : Nat → Int32) (f_t_logFrom : Nat → Int32) (f_t_logTo : Nat → Int32) (p1 : Int32) : Option (Int32 × Int32 × Int32 × Int32 × Int32 × (Nat → Int32) × (Nat → Int32) × (Nat → Int32) × (Nat → Int32)) :=
  (f_X9_isLetter i_t_letters p1).bind fun r_1 =>
  if r_1 = 0 then
    some ((-1000000002), i_t_letter, i_t_turn, i_t_logged, i_t_changes, f_t_change, f_t_logWho, f_t_logFrom, f_t_logTo)
  else
    if i_t_way = 1 then
      (f_X9_findChanges i_t_places i_t_words i_t_law f_t_isStanding i_t_changes f_t_change i_t_letter 1).bind fun (z_20, z_21) =>
      if i_t_isSettled = 0 then
        (f_X9_placeOf z_20 z_21 p1).bind fun r_24 =>
        if 0 ≤ r_24 then
          if i_t_logged = 60 then
            some ((-1000000004), i_t_letter, i_t_turn, i_t_logged, z_20, z_21, f_t_logWho, f_t_logFrom, f_t_logTo)
          else
            (f_X9_sendNow i_t_letter i_t_turn i_t_logged f_t_logWho f_t_logFrom f_t_logTo p1).bind fun (z_28, z_29, z_30, z_31, z_32, z_33) =>
            some (z_29, z_28, z_29, z_30, z_20, z_21, z_31, z_32, z_33)
        else
          some ((-1000000003), i_t_letter, i_t_turn, i_t_logged, z_20, z_21, f_t_logWho, f_t_logFrom, f_t_logTo)
      else
        some ((-1000000003), i_t_letter, i_t_turn, i_t_logged, z_20, z_21, f_t_logWho, f_t_logFrom, f_t_logTo)
    else
      (f_X9_findChanges i_t_places i_t_words i_t_law f_t_isStanding i_t_changes f_t_change i_t_letter 0).bind fun (z_5, z_6) =>
      if i_t_isSettled = 0 then
        (f_X9_placeOf z_5 z_6 p1).bind fun r_9 =>
        if 0 ≤ r_9 then
          if i_t_logged = 60 then
            some ((-1000000004), i_t_letter, i_t_turn, i_t_logged, z_5, z_6, f_t_logWho, f_t_logFrom, f_t_logTo)
          else
            (f_X9_sendNow i_t_letter i_t_turn i_t_logged f_t_logWho f_t_logFrom f_t_logTo p1).bind fun (z_13, z_14, z_15, z_16, z_17, z_18) =>
            some (z_14, z_13, z_14, z_15, z_5, z_6, z_16, z_17, z_18)
        else
          some ((-1000000003), i_t_letter, i_t_turn, i_t_logged, z_5, z_6, f_t_logWho, f_t_logFrom, f_t_logTo)
      else
        some ((-1000000003), i_t_letter, i_t_turn, i_t_logged, z_5, z_6, f_t_logWho, f_t_logFrom, f_t_logTo)
def f_X9_haveBoth (i_t_letter : Int32) (f_t_worthOf : Nat → Int32) (f_t_had : Nat → Int32) : Option ((Nat → Int32)) :=
  if ixb 0 2 = true then
  if ixb (2 * i_t_letter) 8192 = true then
  if ixb 0 2 = true then
  if ixb 1 2 = true then
  if ixb ((2 * i_t_letter) + 1) 8192 = true then
  if ixb 1 2 = true then
  some (upd (upd f_t_had (0 : Int32).toNatClampNeg ((f_t_had (0 : Int32).toNatClampNeg) + (f_t_worthOf ((2 * i_t_letter) : Int32).toNatClampNeg))) (1 : Int32).toNatClampNeg (((upd f_t_had (0 : Int32).toNatClampNeg ((f_t_had (0 : Int32).toNatClampNeg) + (f_t_worthOf ((2 * i_t_letter) : Int32).toNatClampNeg))) (1 : Int32).toNatClampNeg) + (f_t_worthOf (((2 * i_t_letter) + 1) : Int32).toNatClampNeg)))
  else none
  else none
  else none
  else none
  else none
  else none
def f_X9_settle (i_t_letters : Int32) (i_t_letter : Int32) (i_t_turn : Int32) (f_t_worthOf : Nat → Int32) (i_t_isSettled : Int32) (f_t_had : Nat → Int32) : Option (Int32 × Int32 × (Nat → Int32)) :=
  if i_t_isSettled = 0 then
    if i_t_letters = 0 then
      some ((-1000000003), i_t_isSettled, f_t_had)
    else
      (f_X9_haveBoth i_t_letter f_t_worthOf f_t_had).bind fun z_3 =>
      if ixb ((2 * i_t_letter) + i_t_turn) 8192 = true then
      some ((f_t_worthOf (((2 * i_t_letter) + i_t_turn) : Int32).toNatClampNeg), 1, z_3)
      else none
  else
    some ((-1000000003), i_t_isSettled, f_t_had)
def f_X9_had (f_t_had : Nat → Int32) (p1 : Int32) : Option (Int32) :=
  (f_X9_isHouse p1).bind fun r_1 =>
  if r_1 = 0 then
    some (-1000000001)
  else
    if ixb p1 2 = true then
    some (f_t_had (p1 : Int32).toNatClampNeg)
    else none
def f_X9_log (i_t_logged : Int32) (f_t_logTo : Nat → Int32) (f_t_logFrom : Nat → Int32) (f_t_logWho : Nat → Int32) (p1 : Int32) (p2 : Int32) : Option (Int32) :=
  (f_X9_in ((p2 : Int32).toInt64) 0 2).bind fun r_1 =>
  if r_1 = 0 then
    some (-1000000002)
  else
    (f_X9_in ((p1 : Int32).toInt64) 0 (((i_t_logged - 1) : Int32).toInt64)).bind fun r_4 =>
    if r_4 = 0 then
      some (-1)
    else
      if p2 = 0 then
        if ixb p1 60 = true then
        some (f_t_logWho (p1 : Int32).toNatClampNeg)
        else none
      else
        if p2 = 1 then
          if ixb p1 60 = true then
          some (f_t_logFrom (p1 : Int32).toNatClampNeg)
          else none
        else
          if ixb p1 60 = true then
          some (f_t_logTo (p1 : Int32).toNatClampNeg)
          else none
def f_X9_fewest_L22 (i_t_places : Int32) (i_t_words : Int32) (i_t_letters : Int32) (i_t_law : Int32) (f_t_isStanding : Nat → Int32) (K0 : Int32 → Int32 → Int32 → Int32 → (Nat → Int32) → (Nat → Int32) → (Nat → Int32) → Option (Int32 × Int32 × (Nat → Int32) × (Nat → Int32) × (Nat → Int32))) : Nat → Int32 → Int32 → Int32 → Int32 → Int32 → (Nat → Int32) → (Nat → Int32) → (Nat → Int32) → Option (Int32 × Int32 × (Nat → Int32) × (Nat → Int32) × (Nat → Int32))
  | 0, _, _, _, _, _, _, _, _ => none
  | n + 1, v1, v2, v3, v4, i_t_changes, f_t_steps, f_t_queue, f_t_change =>
    if i_t_letters ≤ v4 then
      K0 v1 v2 v3 i_t_changes f_t_steps f_t_queue f_t_change
    else
      if ixb v4 4096 = true then
      f_X9_fewest_L22 i_t_places i_t_words i_t_letters i_t_law f_t_isStanding K0 n v1 v2 v3 (v4 + 1) i_t_changes (upd f_t_steps (v4 : Int32).toNatClampNeg (-1)) f_t_queue f_t_change
      else none
def f_X9_fewest_L135 (i_t_places : Int32) (i_t_words : Int32) (i_t_letters : Int32) (i_t_law : Int32) (f_t_isStanding : Nat → Int32) (K0 : Int32 → Int32 → Int32 → Int32 → Int32 → Int32 → (Nat → Int32) → (Nat → Int32) → (Nat → Int32) → Option (Int32 × Int32 × (Nat → Int32) × (Nat → Int32) × (Nat → Int32))) : Nat → Int32 → Int32 → Int32 → Int32 → Int32 → Int32 → Int32 → Int32 → Int32 → (Nat → Int32) → (Nat → Int32) → (Nat → Int32) → Option (Int32 × Int32 × (Nat → Int32) × (Nat → Int32) × (Nat → Int32))
  | 0, _, _, _, _, _, _, _, _, _, _, _, _ => none
  | n + 1, v1, v2, v3, v4, v5, v6, v7, v8, i_t_changes, f_t_steps, f_t_queue, f_t_change =>
    if i_t_changes ≤ v8 then
      K0 v1 v2 v3 v4 v5 i_t_changes f_t_steps f_t_queue f_t_change
    else
      if v7 = 0 then
        K0 v1 v2 v3 v4 v5 i_t_changes f_t_steps f_t_queue f_t_change
      else
        if ixb v8 40 = true then
        if ixb (f_t_change (v8 : Int32).toNatClampNeg) 4096 = true then
        if 0 ≤ (f_t_steps ((f_t_change (v8 : Int32).toNatClampNeg) : Int32).toNatClampNeg) then
          f_X9_fewest_L135 i_t_places i_t_words i_t_letters i_t_law f_t_isStanding K0 n v1 v2 v3 v4 v5 v6 v7 (v8 + 1) i_t_changes f_t_steps f_t_queue f_t_change
        else
          if ixb v8 40 = true then
          if ixb v6 4096 = true then
          if ixb (f_t_change (v8 : Int32).toNatClampNeg) 4096 = true then
          if ixb v8 40 = true then
          if ixb v5 4096 = true then
          f_X9_fewest_L135 i_t_places i_t_words i_t_letters i_t_law f_t_isStanding K0 n v1 v2 v3 v4 (v5 + 1) v6 v7 (v8 + 1) i_t_changes (upd f_t_steps ((f_t_change (v8 : Int32).toNatClampNeg) : Int32).toNatClampNeg ((f_t_steps (v6 : Int32).toNatClampNeg) + 1)) (upd f_t_queue (v5 : Int32).toNatClampNeg (f_t_change (v8 : Int32).toNatClampNeg)) f_t_change
          else none
          else none
          else none
          else none
          else none
        else none
        else none
def f_X9_fewest_L65 (i_t_places : Int32) (i_t_words : Int32) (i_t_letters : Int32) (i_t_law : Int32) (f_t_isStanding : Nat → Int32) : Nat → Int32 → Int32 → Int32 → Int32 → Int32 → Int32 → (Nat → Int32) → (Nat → Int32) → (Nat → Int32) → Option (Int32 × Int32 × (Nat → Int32) × (Nat → Int32) × (Nat → Int32))
  | 0, _, _, _, _, _, _, _, _, _ => none
  | n + 1, v1, v2, v3, v4, v5, i_t_changes, f_t_steps, f_t_queue, f_t_change =>
    if v5 ≤ v4 then
      some ((-1), i_t_changes, f_t_steps, f_t_queue, f_t_change)
    else
      if ixb v4 4096 = true then
      if (f_t_queue (v4 : Int32).toNatClampNeg) = v1 then
        if (f_t_queue (v4 : Int32).toNatClampNeg) = v2 then
          if ixb (f_t_queue (v4 : Int32).toNatClampNeg) 4096 = true then
          some ((f_t_steps ((f_t_queue (v4 : Int32).toNatClampNeg) : Int32).toNatClampNeg), i_t_changes, f_t_steps, f_t_queue, f_t_change)
          else none
        else
          (f_X9_findChanges i_t_places i_t_words i_t_law f_t_isStanding i_t_changes f_t_change (f_t_queue (v4 : Int32).toNatClampNeg) 1).bind fun (z_22, z_23) =>
          f_X9_fewest_L135 i_t_places i_t_words i_t_letters i_t_law f_t_isStanding (fun (v1_35 : Int32) (v2_36 : Int32) (v3_37 : Int32) (v4_38 : Int32) (v5_39 : Int32) (z_40 : Int32) (z_41 : Nat → Int32) (z_42 : Nat → Int32) (z_43 : Nat → Int32) =>
            f_X9_fewest_L65 i_t_places i_t_words i_t_letters i_t_law f_t_isStanding n v1_35 v2_36 v3_37 v4_38 v5_39 z_40 z_41 z_42 z_43) FU v1 v2 v3 (v4 + 1) v5 (f_t_queue (v4 : Int32).toNatClampNeg) 1 0 z_22 f_t_steps f_t_queue z_23
      else
        if v3 = 0 then
          if ixb (f_t_queue (v4 : Int32).toNatClampNeg) 4096 = true then
          if (f_t_isStanding ((f_t_queue (v4 : Int32).toNatClampNeg) : Int32).toNatClampNeg) = 0 then
            if (f_t_queue (v4 : Int32).toNatClampNeg) = v2 then
              if ixb (f_t_queue (v4 : Int32).toNatClampNeg) 4096 = true then
              some ((f_t_steps ((f_t_queue (v4 : Int32).toNatClampNeg) : Int32).toNatClampNeg), i_t_changes, f_t_steps, f_t_queue, f_t_change)
              else none
            else
              (f_X9_findChanges i_t_places i_t_words i_t_law f_t_isStanding i_t_changes f_t_change (f_t_queue (v4 : Int32).toNatClampNeg) 1).bind fun (z_63, z_64) =>
              f_X9_fewest_L135 i_t_places i_t_words i_t_letters i_t_law f_t_isStanding (fun (v1_66 : Int32) (v2_67 : Int32) (v3_68 : Int32) (v4_69 : Int32) (v5_70 : Int32) (z_71 : Int32) (z_72 : Nat → Int32) (z_73 : Nat → Int32) (z_74 : Nat → Int32) =>
                f_X9_fewest_L65 i_t_places i_t_words i_t_letters i_t_law f_t_isStanding n v1_66 v2_67 v3_68 v4_69 v5_70 z_71 z_72 z_73 z_74) FU v1 v2 v3 (v4 + 1) v5 (f_t_queue (v4 : Int32).toNatClampNeg) 0 0 z_63 f_t_steps f_t_queue z_64
          else
            if (f_t_queue (v4 : Int32).toNatClampNeg) = v2 then
              if ixb (f_t_queue (v4 : Int32).toNatClampNeg) 4096 = true then
              some ((f_t_steps ((f_t_queue (v4 : Int32).toNatClampNeg) : Int32).toNatClampNeg), i_t_changes, f_t_steps, f_t_queue, f_t_change)
              else none
            else
              (f_X9_findChanges i_t_places i_t_words i_t_law f_t_isStanding i_t_changes f_t_change (f_t_queue (v4 : Int32).toNatClampNeg) 1).bind fun (z_77, z_78) =>
              f_X9_fewest_L135 i_t_places i_t_words i_t_letters i_t_law f_t_isStanding (fun (v1_80 : Int32) (v2_81 : Int32) (v3_82 : Int32) (v4_83 : Int32) (v5_84 : Int32) (z_85 : Int32) (z_86 : Nat → Int32) (z_87 : Nat → Int32) (z_88 : Nat → Int32) =>
                f_X9_fewest_L65 i_t_places i_t_words i_t_letters i_t_law f_t_isStanding n v1_80 v2_81 v3_82 v4_83 v5_84 z_85 z_86 z_87 z_88) FU v1 v2 v3 (v4 + 1) v5 (f_t_queue (v4 : Int32).toNatClampNeg) 1 0 z_77 f_t_steps f_t_queue z_78
          else none
        else
          if (f_t_queue (v4 : Int32).toNatClampNeg) = v2 then
            if ixb (f_t_queue (v4 : Int32).toNatClampNeg) 4096 = true then
            some ((f_t_steps ((f_t_queue (v4 : Int32).toNatClampNeg) : Int32).toNatClampNeg), i_t_changes, f_t_steps, f_t_queue, f_t_change)
            else none
          else
            (f_X9_findChanges i_t_places i_t_words i_t_law f_t_isStanding i_t_changes f_t_change (f_t_queue (v4 : Int32).toNatClampNeg) 1).bind fun (z_47, z_48) =>
            f_X9_fewest_L135 i_t_places i_t_words i_t_letters i_t_law f_t_isStanding (fun (v1_50 : Int32) (v2_51 : Int32) (v3_52 : Int32) (v4_53 : Int32) (v5_54 : Int32) (z_55 : Int32) (z_56 : Nat → Int32) (z_57 : Nat → Int32) (z_58 : Nat → Int32) =>
              f_X9_fewest_L65 i_t_places i_t_words i_t_letters i_t_law f_t_isStanding n v1_50 v2_51 v3_52 v4_53 v5_54 z_55 z_56 z_57 z_58) FU v1 v2 v3 (v4 + 1) v5 (f_t_queue (v4 : Int32).toNatClampNeg) 1 0 z_47 f_t_steps f_t_queue z_48
      else none
def f_X9_fewest (i_t_places : Int32) (i_t_words : Int32) (i_t_letters : Int32) (i_t_law : Int32) (f_t_isStanding : Nat → Int32) (i_t_changes : Int32) (f_t_steps : Nat → Int32) (f_t_queue : Nat → Int32) (f_t_change : Nat → Int32) (p1 : Int32) (p2 : Int32) (p3 : Int32) : Option (Int32 × Int32 × (Nat → Int32) × (Nat → Int32) × (Nat → Int32)) :=
  (f_X9_isLetter i_t_letters p1).bind fun r_1 =>
  if r_1 = 0 then
    some ((-1000000002), i_t_changes, f_t_steps, f_t_queue, f_t_change)
  else
    (f_X9_isLetter i_t_letters p2).bind fun r_4 =>
    if r_4 = 0 then
      some ((-1000000002), i_t_changes, f_t_steps, f_t_queue, f_t_change)
    else
      f_X9_fewest_L22 i_t_places i_t_words i_t_letters i_t_law f_t_isStanding (fun (v1_9 : Int32) (v2_10 : Int32) (v3_11 : Int32) (z_12 : Int32) (z_13 : Nat → Int32) (z_14 : Nat → Int32) (z_15 : Nat → Int32) =>
        if ixb v1_9 4096 = true then
        if ixb 0 4096 = true then
        f_X9_fewest_L65 i_t_places i_t_words i_t_letters i_t_law f_t_isStanding FU v1_9 v2_10 v3_11 0 1 z_12 (upd z_13 (v1_9 : Int32).toNatClampNeg 0) (upd z_14 (0 : Int32).toNatClampNeg v1_9) z_15
        else none
        else none) FU p1 p2 p3 0 i_t_changes f_t_steps f_t_queue f_t_change
def f_X9_isStill_L27 (i_t_places : Int32) (i_t_words : Int32) (i_t_law : Int32) (i_t_way : Int32) (f_t_isStanding : Nat → Int32) (f_t_worthOf : Nat → Int32) : Nat → Int32 → Int32 → Int32 → Int32 → (Nat → Int32) → Option (Int32 × Int32 × (Nat → Int32))
  | 0, _, _, _, _, _ => none
  | n + 1, v1, v2, v3, i_t_changes, f_t_change =>
    if i_t_changes ≤ v3 then
      if zb v2 = true then
      some (v2, i_t_changes, f_t_change)
      else none
    else
      if v2 = 0 then
        f_X9_isStill_L27 i_t_places i_t_words i_t_law i_t_way f_t_isStanding f_t_worthOf n v1 0 (v3 + 1) i_t_changes f_t_change
      else
        if ixb v3 40 = true then
        if ixb (2 * (f_t_change (v3 : Int32).toNatClampNeg)) 8192 = true then
        if ixb (2 * v1) 8192 = true then
        if (f_t_worthOf ((2 * v1) : Int32).toNatClampNeg) < (f_t_worthOf ((2 * (f_t_change (v3 : Int32).toNatClampNeg)) : Int32).toNatClampNeg) then
          f_X9_isStill_L27 i_t_places i_t_words i_t_law i_t_way f_t_isStanding f_t_worthOf n v1 0 (v3 + 1) i_t_changes f_t_change
        else
          if ixb v3 40 = true then
          if ixb ((2 * (f_t_change (v3 : Int32).toNatClampNeg)) + 1) 8192 = true then
          if ixb ((2 * v1) + 1) 8192 = true then
          if (f_t_worthOf (((2 * v1) + 1) : Int32).toNatClampNeg) < (f_t_worthOf (((2 * (f_t_change (v3 : Int32).toNatClampNeg)) + 1) : Int32).toNatClampNeg) then
            f_X9_isStill_L27 i_t_places i_t_words i_t_law i_t_way f_t_isStanding f_t_worthOf n v1 0 (v3 + 1) i_t_changes f_t_change
          else
            f_X9_isStill_L27 i_t_places i_t_words i_t_law i_t_way f_t_isStanding f_t_worthOf n v1 1 (v3 + 1) i_t_changes f_t_change
          else none
          else none
          else none
        else none
        else none
        else none
def f_X9_isStill (i_t_places : Int32) (i_t_words : Int32) (i_t_law : Int32) (i_t_way : Int32) (f_t_isStanding : Nat → Int32) (f_t_worthOf : Nat → Int32) (i_t_changes : Int32) (f_t_change : Nat → Int32) (p1 : Int32) : Option (Int32 × Int32 × (Nat → Int32)) :=
  if i_t_way = 1 then
    (f_X9_findChanges i_t_places i_t_words i_t_law f_t_isStanding i_t_changes f_t_change p1 1).bind fun (z_17, z_18) =>
    if ixb p1 4096 = true then
    f_X9_isStill_L27 i_t_places i_t_words i_t_law i_t_way f_t_isStanding f_t_worthOf FU p1 (f_t_isStanding (p1 : Int32).toNatClampNeg) 0 z_17 z_18
    else none
  else
    (f_X9_findChanges i_t_places i_t_words i_t_law f_t_isStanding i_t_changes f_t_change p1 0).bind fun (z_2, z_3) =>
    if ixb p1 4096 = true then
    f_X9_isStill_L27 i_t_places i_t_words i_t_law i_t_way f_t_isStanding f_t_worthOf FU p1 (f_t_isStanding (p1 : Int32).toNatClampNeg) 0 z_2 z_3
    else none
def f_X9_still_L4 (i_t_places : Int32) (i_t_words : Int32) (i_t_letters : Int32) (i_t_law : Int32) (i_t_way : Int32) (f_t_isStanding : Nat → Int32) (f_t_worthOf : Nat → Int32) : Nat → Int32 → Int32 → Int32 → Int32 → (Nat → Int32) → Option (Int32 × Int32 × (Nat → Int32))
  | 0, _, _, _, _, _ => none
  | n + 1, v1, v2, v3, i_t_changes, f_t_change =>
    if i_t_letters ≤ v3 then
      if v1 = (-1) then
        some (v2, i_t_changes, f_t_change)
      else
        some ((-1), i_t_changes, f_t_change)
    else
      (f_X9_isStill i_t_places i_t_words i_t_law i_t_way f_t_isStanding f_t_worthOf i_t_changes f_t_change v3).bind fun (r_3, z_4, z_5) =>
      if r_3 = 0 then
        f_X9_still_L4 i_t_places i_t_words i_t_letters i_t_law i_t_way f_t_isStanding f_t_worthOf n v1 v2 (v3 + 1) z_4 z_5
      else
        if v2 = v1 then
          some (v3, z_4, z_5)
        else
          f_X9_still_L4 i_t_places i_t_words i_t_letters i_t_law i_t_way f_t_isStanding f_t_worthOf n v1 (v2 + 1) (v3 + 1) z_4 z_5
def f_X9_still (i_t_places : Int32) (i_t_words : Int32) (i_t_letters : Int32) (i_t_law : Int32) (i_t_way : Int32) (f_t_isStanding : Nat → Int32) (f_t_worthOf : Nat → Int32) (i_t_changes : Int32) (f_t_change : Nat → Int32) (p1 : Int32) : Option (Int32 × Int32 × (Nat → Int32)) :=
  f_X9_still_L4 i_t_places i_t_words i_t_letters i_t_law i_t_way f_t_isStanding f_t_worthOf FU p1 0 0 i_t_changes f_t_change
def f_X9_lookAt_L38 (i_t_changes : Int32) (f_t_worthOf : Nat → Int32) (f_t_change : Nat → Int32) (f_t_wasEnd : Nat → Int32) (f_t_wasSent : Nat → Int32) : Nat → Int32 → Int32 → Int32 → Int32 → (Nat → Int32) → (Nat → Int32) → (Nat → Int32) → Option ((Nat → Int32) × (Nat → Int32) × (Nat → Int32))
  | 0, _, _, _, _, _, _, _ => none
  | n + 1, v2, v3, v4, v5, f_t_end, f_t_sent, f_t_firstSent =>
    if i_t_changes ≤ v5 then
      some (f_t_end, f_t_sent, f_t_firstSent)
    else
      if ixb v5 40 = true then
      if ixb (((2 * (f_t_change (v5 : Int32).toNatClampNeg)) + 1) - v2) 8192 = true then
      if ixb ((2 * (f_t_wasEnd ((((2 * (f_t_change (v5 : Int32).toNatClampNeg)) + 1) - v2) : Int32).toNatClampNeg)) + v2) 8192 = true then
      if (f_t_worthOf (((2 * (f_t_wasEnd ((((2 * (f_t_change (v5 : Int32).toNatClampNeg)) + 1) - v2) : Int32).toNatClampNeg)) + v2) : Int32).toNatClampNeg) ≤ v4 then
        f_X9_lookAt_L38 i_t_changes f_t_worthOf f_t_change f_t_wasEnd f_t_wasSent n v2 v3 v4 (v5 + 1) f_t_end f_t_sent f_t_firstSent
      else
        if ixb (((2 * (f_t_change (v5 : Int32).toNatClampNeg)) + 1) - v2) 8192 = true then
        if ixb v3 8192 = true then
        if ixb (((2 * (f_t_change (v5 : Int32).toNatClampNeg)) + 1) - v2) 8192 = true then
        if ixb v3 8192 = true then
        if ixb v5 40 = true then
        if ixb v3 8192 = true then
        f_X9_lookAt_L38 i_t_changes f_t_worthOf f_t_change f_t_wasEnd f_t_wasSent n v2 v3 (f_t_worthOf (((2 * (f_t_wasEnd ((((2 * (f_t_change (v5 : Int32).toNatClampNeg)) + 1) - v2) : Int32).toNatClampNeg)) + v2) : Int32).toNatClampNeg) (v5 + 1) (upd f_t_end (v3 : Int32).toNatClampNeg (f_t_wasEnd ((((2 * (f_t_change (v5 : Int32).toNatClampNeg)) + 1) - v2) : Int32).toNatClampNeg)) (upd f_t_sent (v3 : Int32).toNatClampNeg ((f_t_wasSent ((((2 * (f_t_change (v5 : Int32).toNatClampNeg)) + 1) - v2) : Int32).toNatClampNeg) + 1)) (upd f_t_firstSent (v3 : Int32).toNatClampNeg (f_t_change (v5 : Int32).toNatClampNeg))
        else none
        else none
        else none
        else none
        else none
        else none
      else none
      else none
      else none
def f_X9_lookAt (i_t_changes : Int32) (f_t_worthOf : Nat → Int32) (f_t_change : Nat → Int32) (f_t_wasEnd : Nat → Int32) (f_t_wasSent : Nat → Int32) (f_t_end : Nat → Int32) (f_t_sent : Nat → Int32) (f_t_firstSent : Nat → Int32) (p1 : Int32) (p2 : Int32) : Option ((Nat → Int32) × (Nat → Int32) × (Nat → Int32)) :=
  if ixb ((2 * p1) + p2) 8192 = true then
  if ixb ((2 * p1) + p2) 8192 = true then
  if ixb ((2 * p1) + p2) 8192 = true then
  if ixb ((2 * p1) + p2) 8192 = true then
  f_X9_lookAt_L38 i_t_changes f_t_worthOf f_t_change f_t_wasEnd f_t_wasSent FU p2 ((2 * p1) + p2) (f_t_worthOf (((2 * p1) + p2) : Int32).toNatClampNeg) 0 (upd f_t_end (((2 * p1) + p2) : Int32).toNatClampNeg p1) (upd f_t_sent (((2 * p1) + p2) : Int32).toNatClampNeg 0) (upd f_t_firstSent (((2 * p1) + p2) : Int32).toNatClampNeg (-1))
  else none
  else none
  else none
  else none
def f_X9_lookAhead_L2 (i_t_places : Int32) (i_t_words : Int32) (i_t_letters : Int32) (i_t_law : Int32) (i_t_way : Int32) (f_t_isStanding : Nat → Int32) (f_t_worthOf : Nat → Int32) (K0 : Int32 → Int32 → (Nat → Int32) → (Nat → Int32) → (Nat → Int32) → (Nat → Int32) → (Nat → Int32) → (Nat → Int32) → Option (Int32 × (Nat → Int32) × (Nat → Int32) × (Nat → Int32) × (Nat → Int32) × (Nat → Int32) × (Nat → Int32))) : Nat → Int32 → Int32 → Int32 → (Nat → Int32) → (Nat → Int32) → (Nat → Int32) → (Nat → Int32) → (Nat → Int32) → (Nat → Int32) → Option (Int32 × (Nat → Int32) × (Nat → Int32) × (Nat → Int32) × (Nat → Int32) × (Nat → Int32) × (Nat → Int32))
  | 0, _, _, _, _, _, _, _, _, _ => none
  | n + 1, v1, v2, i_t_changes, f_t_end, f_t_sent, f_t_firstSent, f_t_wasEnd, f_t_wasSent, f_t_change =>
    if (2 * i_t_letters) ≤ v2 then
      K0 v1 i_t_changes f_t_end f_t_sent f_t_firstSent f_t_wasEnd f_t_wasSent f_t_change
    else
      if ixb v2 8192 = true then
      if ixb v2 8192 = true then
      if ixb v2 8192 = true then
      f_X9_lookAhead_L2 i_t_places i_t_words i_t_letters i_t_law i_t_way f_t_isStanding f_t_worthOf K0 n v1 (v2 + 1) i_t_changes (upd f_t_end (v2 : Int32).toNatClampNeg (v2 / 2)) (upd f_t_sent (v2 : Int32).toNatClampNeg 0) (upd f_t_firstSent (v2 : Int32).toNatClampNeg (-1)) f_t_wasEnd f_t_wasSent f_t_change
      else none
      else none
      else none
def f_X9_lookAhead_L50 (i_t_places : Int32) (i_t_words : Int32) (i_t_letters : Int32) (i_t_law : Int32) (i_t_way : Int32) (f_t_isStanding : Nat → Int32) (f_t_worthOf : Nat → Int32) (K0 : Int32 → Int32 → Int32 → (Nat → Int32) → (Nat → Int32) → (Nat → Int32) → (Nat → Int32) → (Nat → Int32) → (Nat → Int32) → Option (Int32 × (Nat → Int32) × (Nat → Int32) × (Nat → Int32) × (Nat → Int32) × (Nat → Int32) × (Nat → Int32))) : Nat → Int32 → Int32 → Int32 → Int32 → (Nat → Int32) → (Nat → Int32) → (Nat → Int32) → (Nat → Int32) → (Nat → Int32) → (Nat → Int32) → Option (Int32 × (Nat → Int32) × (Nat → Int32) × (Nat → Int32) × (Nat → Int32) × (Nat → Int32) × (Nat → Int32))
  | 0, _, _, _, _, _, _, _, _, _, _ => none
  | n + 1, v1, v2, v3, i_t_changes, f_t_end, f_t_sent, f_t_firstSent, f_t_wasEnd, f_t_wasSent, f_t_change =>
    if (2 * i_t_letters) ≤ v3 then
      K0 v1 v2 i_t_changes f_t_end f_t_sent f_t_firstSent f_t_wasEnd f_t_wasSent f_t_change
    else
      if ixb v3 8192 = true then
      if ixb v3 8192 = true then
      if ixb v3 8192 = true then
      if ixb v3 8192 = true then
      f_X9_lookAhead_L50 i_t_places i_t_words i_t_letters i_t_law i_t_way f_t_isStanding f_t_worthOf K0 n v1 v2 (v3 + 1) i_t_changes f_t_end f_t_sent f_t_firstSent (upd f_t_wasEnd (v3 : Int32).toNatClampNeg (f_t_end (v3 : Int32).toNatClampNeg)) (upd f_t_wasSent (v3 : Int32).toNatClampNeg (f_t_sent (v3 : Int32).toNatClampNeg)) f_t_change
      else none
      else none
      else none
      else none
def f_X9_lookAhead_L92 (i_t_places : Int32) (i_t_words : Int32) (i_t_letters : Int32) (i_t_law : Int32) (i_t_way : Int32) (f_t_isStanding : Nat → Int32) (f_t_worthOf : Nat → Int32) (K0 : Int32 → Int32 → Int32 → (Nat → Int32) → (Nat → Int32) → (Nat → Int32) → (Nat → Int32) → (Nat → Int32) → (Nat → Int32) → Option (Int32 × (Nat → Int32) × (Nat → Int32) × (Nat → Int32) × (Nat → Int32) × (Nat → Int32) × (Nat → Int32))) : Nat → Int32 → Int32 → Int32 → Int32 → (Nat → Int32) → (Nat → Int32) → (Nat → Int32) → (Nat → Int32) → (Nat → Int32) → (Nat → Int32) → Option (Int32 × (Nat → Int32) × (Nat → Int32) × (Nat → Int32) × (Nat → Int32) × (Nat → Int32) × (Nat → Int32))
  | 0, _, _, _, _, _, _, _, _, _, _ => none
  | n + 1, v1, v2, v3, i_t_changes, f_t_end, f_t_sent, f_t_firstSent, f_t_wasEnd, f_t_wasSent, f_t_change =>
    if i_t_letters ≤ v3 then
      K0 v1 v2 i_t_changes f_t_end f_t_sent f_t_firstSent f_t_wasEnd f_t_wasSent f_t_change
    else
      if i_t_way = 1 then
        (f_X9_findChanges i_t_places i_t_words i_t_law f_t_isStanding i_t_changes f_t_change v3 1).bind fun (z_41, z_42) =>
        (f_X9_lookAt z_41 f_t_worthOf z_42 f_t_wasEnd f_t_wasSent f_t_end f_t_sent f_t_firstSent v3 0).bind fun (z_44, z_45, z_46) =>
        (f_X9_lookAt z_41 f_t_worthOf z_42 f_t_wasEnd f_t_wasSent z_44 z_45 z_46 v3 1).bind fun (z_48, z_49, z_50) =>
        f_X9_lookAhead_L92 i_t_places i_t_words i_t_letters i_t_law i_t_way f_t_isStanding f_t_worthOf K0 n v1 v2 (v3 + 1) z_41 z_48 z_49 z_50 f_t_wasEnd f_t_wasSent z_42
      else
        (f_X9_findChanges i_t_places i_t_words i_t_law f_t_isStanding i_t_changes f_t_change v3 0).bind fun (z_30, z_31) =>
        (f_X9_lookAt z_30 f_t_worthOf z_31 f_t_wasEnd f_t_wasSent f_t_end f_t_sent f_t_firstSent v3 0).bind fun (z_33, z_34, z_35) =>
        (f_X9_lookAt z_30 f_t_worthOf z_31 f_t_wasEnd f_t_wasSent z_33 z_34 z_35 v3 1).bind fun (z_37, z_38, z_39) =>
        f_X9_lookAhead_L92 i_t_places i_t_words i_t_letters i_t_law i_t_way f_t_isStanding f_t_worthOf K0 n v1 v2 (v3 + 1) z_30 z_37 z_38 z_39 f_t_wasEnd f_t_wasSent z_31
def f_X9_lookAhead_L43 (i_t_places : Int32) (i_t_words : Int32) (i_t_letters : Int32) (i_t_law : Int32) (i_t_way : Int32) (f_t_isStanding : Nat → Int32) (f_t_worthOf : Nat → Int32) : Nat → Int32 → Int32 → Int32 → (Nat → Int32) → (Nat → Int32) → (Nat → Int32) → (Nat → Int32) → (Nat → Int32) → (Nat → Int32) → Option (Int32 × (Nat → Int32) × (Nat → Int32) × (Nat → Int32) × (Nat → Int32) × (Nat → Int32) × (Nat → Int32))
  | 0, _, _, _, _, _, _, _, _, _ => none
  | n + 1, v1, v2, i_t_changes, f_t_end, f_t_sent, f_t_firstSent, f_t_wasEnd, f_t_wasSent, f_t_change =>
    if v1 ≤ v2 then
      some (i_t_changes, f_t_end, f_t_sent, f_t_firstSent, f_t_wasEnd, f_t_wasSent, f_t_change)
    else
      f_X9_lookAhead_L50 i_t_places i_t_words i_t_letters i_t_law i_t_way f_t_isStanding f_t_worthOf (fun (v1_19 : Int32) (v2_20 : Int32) (z_21 : Int32) (z_22 : Nat → Int32) (z_23 : Nat → Int32) (z_24 : Nat → Int32) (z_25 : Nat → Int32) (z_26 : Nat → Int32) (z_27 : Nat → Int32) =>
        f_X9_lookAhead_L92 i_t_places i_t_words i_t_letters i_t_law i_t_way f_t_isStanding f_t_worthOf (fun (v1_52 : Int32) (v2_53 : Int32) (z_54 : Int32) (z_55 : Nat → Int32) (z_56 : Nat → Int32) (z_57 : Nat → Int32) (z_58 : Nat → Int32) (z_59 : Nat → Int32) (z_60 : Nat → Int32) =>
          f_X9_lookAhead_L43 i_t_places i_t_words i_t_letters i_t_law i_t_way f_t_isStanding f_t_worthOf n v1_52 (v2_53 + 1) z_54 z_55 z_56 z_57 z_58 z_59 z_60) FU v1_19 v2_20 0 z_21 z_22 z_23 z_24 z_25 z_26 z_27) FU v1 v2 0 i_t_changes f_t_end f_t_sent f_t_firstSent f_t_wasEnd f_t_wasSent f_t_change
def f_X9_lookAhead (i_t_places : Int32) (i_t_words : Int32) (i_t_letters : Int32) (i_t_law : Int32) (i_t_way : Int32) (f_t_isStanding : Nat → Int32) (f_t_worthOf : Nat → Int32) (i_t_changes : Int32) (f_t_end : Nat → Int32) (f_t_sent : Nat → Int32) (f_t_firstSent : Nat → Int32) (f_t_wasEnd : Nat → Int32) (f_t_wasSent : Nat → Int32) (f_t_change : Nat → Int32) (p1 : Int32) : Option (Int32 × (Nat → Int32) × (Nat → Int32) × (Nat → Int32) × (Nat → Int32) × (Nat → Int32) × (Nat → Int32)) :=
  f_X9_lookAhead_L2 i_t_places i_t_words i_t_letters i_t_law i_t_way f_t_isStanding f_t_worthOf (fun (v1_5 : Int32) (z_6 : Int32) (z_7 : Nat → Int32) (z_8 : Nat → Int32) (z_9 : Nat → Int32) (z_10 : Nat → Int32) (z_11 : Nat → Int32) (z_12 : Nat → Int32) =>
    f_X9_lookAhead_L43 i_t_places i_t_words i_t_letters i_t_law i_t_way f_t_isStanding f_t_worthOf FU v1_5 0 z_6 z_7 z_8 z_9 z_10 z_11 z_12) FU p1 0 i_t_changes f_t_end f_t_sent f_t_firstSent f_t_wasEnd f_t_wasSent f_t_change
def f_X9_ahead (i_t_places : Int32) (i_t_words : Int32) (i_t_letters : Int32) (i_t_law : Int32) (i_t_way : Int32) (f_t_isStanding : Nat → Int32) (f_t_worthOf : Nat → Int32) (i_t_changes : Int32) (f_t_end : Nat → Int32) (f_t_sent : Nat → Int32) (f_t_firstSent : Nat → Int32) (f_t_wasEnd : Nat → Int32) (f_t_wasSent : Nat → Int32) (f_t_change : Nat → Int32) (p1 : Int32) (p2 : Int32) (p3 : Int32) (p4 : Int32) : Option (Int32 × Int32 × (Nat → Int32) × (Nat → Int32) × (Nat → Int32) × (Nat → Int32) × (Nat → Int32) × (Nat → Int32)) :=
  (f_X9_isHouse p2).bind fun r_1 =>
  if r_1 = 0 then
    some ((-1000000001), i_t_changes, f_t_end, f_t_sent, f_t_firstSent, f_t_wasEnd, f_t_wasSent, f_t_change)
  else
    (f_X9_isLetter i_t_letters p1).bind fun r_4 =>
    if r_4 = 0 then
      some ((-1000000002), i_t_changes, f_t_end, f_t_sent, f_t_firstSent, f_t_wasEnd, f_t_wasSent, f_t_change)
    else
      (f_X9_in ((p3 : Int32).toInt64) 0 8).bind fun r_7 =>
      if r_7 = 0 then
        some ((-1000000002), i_t_changes, f_t_end, f_t_sent, f_t_firstSent, f_t_wasEnd, f_t_wasSent, f_t_change)
      else
        (f_X9_in ((p4 : Int32).toInt64) 0 4).bind fun r_10 =>
        if r_10 = 0 then
          some ((-1000000002), i_t_changes, f_t_end, f_t_sent, f_t_firstSent, f_t_wasEnd, f_t_wasSent, f_t_change)
        else
          (f_X9_lookAhead i_t_places i_t_words i_t_letters i_t_law i_t_way f_t_isStanding f_t_worthOf i_t_changes f_t_end f_t_sent f_t_firstSent f_t_wasEnd f_t_wasSent f_t_change p3).bind fun (z_13, z_14, z_15, z_16, z_17, z_18, z_19) =>
          if 2 ≤ p4 then
            if p4 = 2 then
              if ixb ((2 * p1) + p2) 8192 = true then
              some ((z_14 (((2 * p1) + p2) : Int32).toNatClampNeg), z_13, z_14, z_15, z_16, z_17, z_18, z_19)
              else none
            else
              if p4 = 3 then
                if ixb ((2 * p1) + p2) 8192 = true then
                some ((z_15 (((2 * p1) + p2) : Int32).toNatClampNeg), z_13, z_14, z_15, z_16, z_17, z_18, z_19)
                else none
              else
                if ixb ((2 * p1) + p2) 8192 = true then
                some ((z_16 (((2 * p1) + p2) : Int32).toNatClampNeg), z_13, z_14, z_15, z_16, z_17, z_18, z_19)
                else none
          else
            if ixb ((2 * p1) + p2) 8192 = true then
            if ixb ((2 * (z_14 (((2 * p1) + p2) : Int32).toNatClampNeg)) + p4) 8192 = true then
            some ((f_t_worthOf (((2 * (z_14 (((2 * p1) + p2) : Int32).toNatClampNeg)) + p4) : Int32).toNatClampNeg), z_13, z_14, z_15, z_16, z_17, z_18, z_19)
            else none
            else none
def f_X9_first (i_t_places : Int32) (i_t_words : Int32) (i_t_letters : Int32) (i_t_law : Int32) (i_t_way : Int32) (f_t_isStanding : Nat → Int32) (f_t_worthOf : Nat → Int32) (i_t_changes : Int32) (f_t_end : Nat → Int32) (f_t_sent : Nat → Int32) (f_t_firstSent : Nat → Int32) (f_t_wasEnd : Nat → Int32) (f_t_wasSent : Nat → Int32) (f_t_change : Nat → Int32) (p1 : Int32) (p2 : Int32) : Option (Int32 × Int32 × (Nat → Int32) × (Nat → Int32) × (Nat → Int32) × (Nat → Int32) × (Nat → Int32) × (Nat → Int32)) :=
  (f_X9_isLetter i_t_letters p1).bind fun r_1 =>
  if r_1 = 0 then
    some ((-1000000002), i_t_changes, f_t_end, f_t_sent, f_t_firstSent, f_t_wasEnd, f_t_wasSent, f_t_change)
  else
    (f_X9_in ((p2 : Int32).toInt64) 0 8).bind fun r_4 =>
    if r_4 = 0 then
      some ((-1000000002), i_t_changes, f_t_end, f_t_sent, f_t_firstSent, f_t_wasEnd, f_t_wasSent, f_t_change)
    else
      (f_X9_lookAhead i_t_places i_t_words i_t_letters i_t_law i_t_way f_t_isStanding f_t_worthOf i_t_changes f_t_end f_t_sent f_t_firstSent f_t_wasEnd f_t_wasSent f_t_change p2).bind fun (z_7, z_8, z_9, z_10, z_11, z_12, z_13) =>
      if ixb (2 * p1) 8192 = true then
      if ixb (2 * (z_8 ((2 * p1) : Int32).toNatClampNeg)) 8192 = true then
      if ixb ((2 * p1) + 1) 8192 = true then
      if ixb (2 * (z_8 (((2 * p1) + 1) : Int32).toNatClampNeg)) 8192 = true then
      some (((f_t_worthOf ((2 * (z_8 ((2 * p1) : Int32).toNatClampNeg)) : Int32).toNatClampNeg) - (f_t_worthOf ((2 * (z_8 (((2 * p1) + 1) : Int32).toNatClampNeg)) : Int32).toNatClampNeg)), z_7, z_8, z_9, z_10, z_11, z_12, z_13)
      else none
      else none
      else none
      else none
def f_X9_unlike_L5 (i_t_places : Int32) (i_t_words : Int32) : Nat → Int32 → Int32 → Int32 → Int32 → Option (Int32)
  | 0, _, _, _, _ => none
  | n + 1, v1, v2, v3, v4 =>
    if i_t_places ≤ v4 then
      some v3
    else
      (f_X9_wordAt i_t_words v1 v4).bind fun r_2 =>
      (f_X9_wordAt i_t_words v2 v4).bind fun r_4 =>
      if r_2 = r_4 then
        f_X9_unlike_L5 i_t_places i_t_words n v1 v2 (v3 + 0) (v4 + 1)
      else
        f_X9_unlike_L5 i_t_places i_t_words n v1 v2 (v3 + 1) (v4 + 1)
def f_X9_unlike (i_t_places : Int32) (i_t_words : Int32) (p1 : Int32) (p2 : Int32) : Option (Int32) :=
  f_X9_unlike_L5 i_t_places i_t_words FU p1 p2 0 0
def f_X9_carrier_L43 (i_t_places : Int32) (i_t_words : Int32) (i_t_letters : Int32) (i_t_law : Int32) (i_t_way : Int32) (f_t_isStanding : Nat → Int32) : Nat → Int32 → Int32 → Int32 → Int32 → Int32 → (Nat → Int32) → Option (Int32 × Int32 × (Nat → Int32))
  | 0, _, _, _, _, _, _ => none
  | n + 1, v2, v3, v4, v5, i_t_changes, f_t_change =>
    if i_t_changes ≤ v5 then
      if v3 = (-1) then
        some (v4, i_t_changes, f_t_change)
      else
        some ((-1), i_t_changes, f_t_change)
    else
      if ixb v5 40 = true then
      (f_X9_unlike i_t_places i_t_words (f_t_change (v5 : Int32).toNatClampNeg) v2).bind fun r_14 =>
      if 2 ≤ r_14 then
        f_X9_carrier_L43 i_t_places i_t_words i_t_letters i_t_law i_t_way f_t_isStanding n v2 v3 v4 (v5 + 1) i_t_changes f_t_change
      else
        if v4 = v3 then
          if ixb v5 40 = true then
          some ((f_t_change (v5 : Int32).toNatClampNeg), i_t_changes, f_t_change)
          else none
        else
          f_X9_carrier_L43 i_t_places i_t_words i_t_letters i_t_law i_t_way f_t_isStanding n v2 v3 (v4 + 1) (v5 + 1) i_t_changes f_t_change
      else none
def f_X9_carrier (i_t_places : Int32) (i_t_words : Int32) (i_t_letters : Int32) (i_t_law : Int32) (i_t_way : Int32) (f_t_isStanding : Nat → Int32) (i_t_changes : Int32) (f_t_change : Nat → Int32) (p1 : Int32) (p2 : Int32) (p3 : Int32) : Option (Int32 × Int32 × (Nat → Int32)) :=
  (f_X9_isLetter i_t_letters p1).bind fun r_1 =>
  if r_1 = 0 then
    some ((-1000000002), i_t_changes, f_t_change)
  else
    (f_X9_isLetter i_t_letters p2).bind fun r_4 =>
    if r_4 = 0 then
      some ((-1000000002), i_t_changes, f_t_change)
    else
      if i_t_way = 1 then
        (f_X9_findChanges i_t_places i_t_words i_t_law f_t_isStanding i_t_changes f_t_change p1 1).bind fun (z_19, z_20) =>
        f_X9_carrier_L43 i_t_places i_t_words i_t_letters i_t_law i_t_way f_t_isStanding FU p2 p3 0 0 z_19 z_20
      else
        (f_X9_findChanges i_t_places i_t_words i_t_law f_t_isStanding i_t_changes f_t_change p1 0).bind fun (z_8, z_9) =>
        f_X9_carrier_L43 i_t_places i_t_words i_t_letters i_t_law i_t_way f_t_isStanding FU p2 p3 0 0 z_8 z_9
def f_X9_guess_L35 : Nat → Int32 → Int32 → (Nat → Int32) → (Nat → Int32) → Option (Int32 × Int32 × (Nat → Int32) × (Nat → Int32))
  | 0, _, _, _, _ => none
  | n + 1, v2, i_t_guesses, f_t_guessHouse, f_t_guessWorth =>
    if 8 ≤ v2 then
      some (((i_t_guesses + 1) - 1), (i_t_guesses + 1), f_t_guessHouse, f_t_guessWorth)
    else
      if ixb ((8 * i_t_guesses) + v2) 48 = true then
      f_X9_guess_L35 n (v2 + 1) i_t_guesses f_t_guessHouse (upd f_t_guessWorth (((8 * i_t_guesses) + v2) : Int32).toNatClampNeg 0)
      else none
def f_X9_guess (i_t_guesses : Int32) (f_t_guessHouse : Nat → Int32) (f_t_guessWorth : Nat → Int32) (p1 : Int32) : Option (Int32 × Int32 × (Nat → Int32) × (Nat → Int32)) :=
  (f_X9_isHouse p1).bind fun r_1 =>
  if r_1 = 0 then
    some ((-1000000001), i_t_guesses, f_t_guessHouse, f_t_guessWorth)
  else
    if i_t_guesses = 6 then
      some ((-1000000004), i_t_guesses, f_t_guessHouse, f_t_guessWorth)
    else
      if ixb i_t_guesses 6 = true then
      f_X9_guess_L35 FU 0 i_t_guesses (upd f_t_guessHouse (i_t_guesses : Int32).toNatClampNeg p1) f_t_guessWorth
      else none
def f_X9_mean (i_t_words : Int32) (i_t_guesses : Int32) (f_t_guessWorth : Nat → Int32) (p1 : Int32) (p2 : Int32) (p3 : Int32) : Option (Int32 × (Nat → Int32)) :=
  (f_X9_in ((p1 : Int32).toInt64) 0 (((i_t_guesses - 1) : Int32).toInt64)).bind fun r_1 =>
  if r_1 = 0 then
    some ((-1000000001), f_t_guessWorth)
  else
    (f_X9_isWord i_t_words p2).bind fun r_4 =>
    if r_4 = 0 then
      some ((-1000000001), f_t_guessWorth)
    else
      (f_X9_in ((p3 : Int32).toInt64) (-50) 49).bind fun r_7 =>
      if r_7 = 0 then
        some ((-1000000002), f_t_guessWorth)
      else
        if ixb ((8 * p1) + p2) 48 = true then
        if ixb ((8 * p1) + p2) 48 = true then
        some ((f_t_guessWorth (((8 * p1) + p2) : Int32).toNatClampNeg), (upd f_t_guessWorth (((8 * p1) + p2) : Int32).toNatClampNeg p3))
        else none
        else none
def f_X9_guessOf (i_t_places : Int32) (i_t_words : Int32) (i_t_pairs : Int32) (f_t_isStanding : Nat → Int32) (f_t_guessWorth : Nat → Int32) (f_t_guessHouse : Nat → Int32) (f_t_pair : Nat → Int32) (f_t_kind : Nat → Int32) (p1 : Int32) (p2 : Int32) : Option (Int32) :=
  if ixb p2 4096 = true then
  if (f_t_isStanding (p2 : Int32).toNatClampNeg) = 0 then
    some 0
  else
    if ixb p1 6 = true then
    (f_X9_worthBy i_t_places i_t_words i_t_pairs 48 f_t_guessWorth f_t_pair f_t_kind p2 1 (8 * p1) (f_t_guessHouse (p1 : Int32).toNatClampNeg)).bind fun r_4 =>
    some r_4
    else none
  else none
def f_X9_fits_L108 (i_t_places : Int32) (i_t_words : Int32) (i_t_pairs : Int32) (i_t_law : Int32) (i_t_way : Int32) (i_t_logged : Int32) (i_t_guesses : Int32) (f_t_logWho : Nat → Int32) (f_t_guessHouse : Nat → Int32) (f_t_logFrom : Nat → Int32) (f_t_isStanding : Nat → Int32) (f_t_logTo : Nat → Int32) (f_t_guessWorth : Nat → Int32) (f_t_pair : Nat → Int32) (f_t_kind : Nat → Int32) (K0 : Int32 → Int32 → Int32 → Int32 → (Nat → Int32) → Option (Int32 × Int32 × (Nat → Int32))) : Nat → Int32 → Int32 → Int32 → Int32 → Int32 → Int32 → (Nat → Int32) → Option (Int32 × Int32 × (Nat → Int32))
  | 0, _, _, _, _, _, _, _ => none
  | n + 1, v1, v2, v3, v4, v5, i_t_changes, f_t_change =>
    if i_t_changes ≤ v5 then
      K0 v1 v2 v3 i_t_changes f_t_change
    else
      if ixb v5 40 = true then
      (f_X9_guessOf i_t_places i_t_words i_t_pairs f_t_isStanding f_t_guessWorth f_t_guessHouse f_t_pair f_t_kind v1 (f_t_change (v5 : Int32).toNatClampNeg)).bind fun r_22 =>
      if r_22 ≤ v4 then
        f_X9_fits_L108 i_t_places i_t_words i_t_pairs i_t_law i_t_way i_t_logged i_t_guesses f_t_logWho f_t_guessHouse f_t_logFrom f_t_isStanding f_t_logTo f_t_guessWorth f_t_pair f_t_kind K0 n v1 v2 v3 v4 (v5 + 1) i_t_changes f_t_change
      else
        f_X9_fits_L108 i_t_places i_t_words i_t_pairs i_t_law i_t_way i_t_logged i_t_guesses f_t_logWho f_t_guessHouse f_t_logFrom f_t_isStanding f_t_logTo f_t_guessWorth f_t_pair f_t_kind K0 n v1 0 v3 v4 (v5 + 1) i_t_changes f_t_change
      else none
def f_X9_fits_L24 (i_t_places : Int32) (i_t_words : Int32) (i_t_pairs : Int32) (i_t_law : Int32) (i_t_way : Int32) (i_t_logged : Int32) (i_t_guesses : Int32) (f_t_logWho : Nat → Int32) (f_t_guessHouse : Nat → Int32) (f_t_logFrom : Nat → Int32) (f_t_isStanding : Nat → Int32) (f_t_logTo : Nat → Int32) (f_t_guessWorth : Nat → Int32) (f_t_pair : Nat → Int32) (f_t_kind : Nat → Int32) : Nat → Int32 → Int32 → Int32 → Int32 → (Nat → Int32) → Option (Int32 × Int32 × (Nat → Int32))
  | 0, _, _, _, _, _ => none
  | n + 1, v1, v2, v3, i_t_changes, f_t_change =>
    if i_t_logged ≤ v3 then
      some (v2, i_t_changes, f_t_change)
    else
      if ixb v3 60 = true then
      if ixb v1 6 = true then
      if (f_t_logWho (v3 : Int32).toNatClampNeg) = (f_t_guessHouse (v1 : Int32).toNatClampNeg) then
        if ixb v3 60 = true then
        if i_t_way = 1 then
          (f_X9_findChanges i_t_places i_t_words i_t_law f_t_isStanding i_t_changes f_t_change (f_t_logFrom (v3 : Int32).toNatClampNeg) 1).bind fun (z_35, z_36) =>
          if ixb v3 60 = true then
          (f_X9_guessOf i_t_places i_t_words i_t_pairs f_t_isStanding f_t_guessWorth f_t_guessHouse f_t_pair f_t_kind v1 (f_t_logTo (v3 : Int32).toNatClampNeg)).bind fun r_39 =>
          if ixb v3 60 = true then
          (f_X9_guessOf i_t_places i_t_words i_t_pairs f_t_isStanding f_t_guessWorth f_t_guessHouse f_t_pair f_t_kind v1 (f_t_logFrom (v3 : Int32).toNatClampNeg)).bind fun r_42 =>
          if r_42 ≤ r_39 then
            f_X9_fits_L108 i_t_places i_t_words i_t_pairs i_t_law i_t_way i_t_logged i_t_guesses f_t_logWho f_t_guessHouse f_t_logFrom f_t_isStanding f_t_logTo f_t_guessWorth f_t_pair f_t_kind (fun (v1_45 : Int32) (v2_46 : Int32) (v3_47 : Int32) (z_48 : Int32) (z_49 : Nat → Int32) =>
              f_X9_fits_L24 i_t_places i_t_words i_t_pairs i_t_law i_t_way i_t_logged i_t_guesses f_t_logWho f_t_guessHouse f_t_logFrom f_t_isStanding f_t_logTo f_t_guessWorth f_t_pair f_t_kind n v1_45 v2_46 (v3_47 + 1) z_48 z_49) FU v1 v2 v3 r_39 0 z_35 z_36
          else
            f_X9_fits_L108 i_t_places i_t_words i_t_pairs i_t_law i_t_way i_t_logged i_t_guesses f_t_logWho f_t_guessHouse f_t_logFrom f_t_isStanding f_t_logTo f_t_guessWorth f_t_pair f_t_kind (fun (v1_50 : Int32) (v2_51 : Int32) (v3_52 : Int32) (z_53 : Int32) (z_54 : Nat → Int32) =>
              f_X9_fits_L24 i_t_places i_t_words i_t_pairs i_t_law i_t_way i_t_logged i_t_guesses f_t_logWho f_t_guessHouse f_t_logFrom f_t_isStanding f_t_logTo f_t_guessWorth f_t_pair f_t_kind n v1_50 v2_51 (v3_52 + 1) z_53 z_54) FU v1 0 v3 r_39 0 z_35 z_36
          else none
          else none
        else
          (f_X9_findChanges i_t_places i_t_words i_t_law f_t_isStanding i_t_changes f_t_change (f_t_logFrom (v3 : Int32).toNatClampNeg) 0).bind fun (z_10, z_11) =>
          if ixb v3 60 = true then
          (f_X9_guessOf i_t_places i_t_words i_t_pairs f_t_isStanding f_t_guessWorth f_t_guessHouse f_t_pair f_t_kind v1 (f_t_logTo (v3 : Int32).toNatClampNeg)).bind fun r_14 =>
          if ixb v3 60 = true then
          (f_X9_guessOf i_t_places i_t_words i_t_pairs f_t_isStanding f_t_guessWorth f_t_guessHouse f_t_pair f_t_kind v1 (f_t_logFrom (v3 : Int32).toNatClampNeg)).bind fun r_17 =>
          if r_17 ≤ r_14 then
            f_X9_fits_L108 i_t_places i_t_words i_t_pairs i_t_law i_t_way i_t_logged i_t_guesses f_t_logWho f_t_guessHouse f_t_logFrom f_t_isStanding f_t_logTo f_t_guessWorth f_t_pair f_t_kind (fun (v1_25 : Int32) (v2_26 : Int32) (v3_27 : Int32) (z_28 : Int32) (z_29 : Nat → Int32) =>
              f_X9_fits_L24 i_t_places i_t_words i_t_pairs i_t_law i_t_way i_t_logged i_t_guesses f_t_logWho f_t_guessHouse f_t_logFrom f_t_isStanding f_t_logTo f_t_guessWorth f_t_pair f_t_kind n v1_25 v2_26 (v3_27 + 1) z_28 z_29) FU v1 v2 v3 r_14 0 z_10 z_11
          else
            f_X9_fits_L108 i_t_places i_t_words i_t_pairs i_t_law i_t_way i_t_logged i_t_guesses f_t_logWho f_t_guessHouse f_t_logFrom f_t_isStanding f_t_logTo f_t_guessWorth f_t_pair f_t_kind (fun (v1_30 : Int32) (v2_31 : Int32) (v3_32 : Int32) (z_33 : Int32) (z_34 : Nat → Int32) =>
              f_X9_fits_L24 i_t_places i_t_words i_t_pairs i_t_law i_t_way i_t_logged i_t_guesses f_t_logWho f_t_guessHouse f_t_logFrom f_t_isStanding f_t_logTo f_t_guessWorth f_t_pair f_t_kind n v1_30 v2_31 (v3_32 + 1) z_33 z_34) FU v1 0 v3 r_14 0 z_10 z_11
          else none
          else none
        else none
      else
        f_X9_fits_L24 i_t_places i_t_words i_t_pairs i_t_law i_t_way i_t_logged i_t_guesses f_t_logWho f_t_guessHouse f_t_logFrom f_t_isStanding f_t_logTo f_t_guessWorth f_t_pair f_t_kind n v1 v2 (v3 + 1) i_t_changes f_t_change
      else none
      else none
def f_X9_fits (i_t_places : Int32) (i_t_words : Int32) (i_t_pairs : Int32) (i_t_law : Int32) (i_t_way : Int32) (i_t_logged : Int32) (i_t_guesses : Int32) (f_t_logWho : Nat → Int32) (f_t_guessHouse : Nat → Int32) (f_t_logFrom : Nat → Int32) (f_t_isStanding : Nat → Int32) (f_t_logTo : Nat → Int32) (f_t_guessWorth : Nat → Int32) (f_t_pair : Nat → Int32) (f_t_kind : Nat → Int32) (i_t_changes : Int32) (f_t_change : Nat → Int32) (p1 : Int32) : Option (Int32 × Int32 × (Nat → Int32)) :=
  (f_X9_in ((p1 : Int32).toInt64) 0 (((i_t_guesses - 1) : Int32).toInt64)).bind fun r_1 =>
  if r_1 = 0 then
    some ((-1000000001), i_t_changes, f_t_change)
  else
    f_X9_fits_L24 i_t_places i_t_words i_t_pairs i_t_law i_t_way i_t_logged i_t_guesses f_t_logWho f_t_guessHouse f_t_logFrom f_t_isStanding f_t_logTo f_t_guessWorth f_t_pair f_t_kind FU p1 1 0 i_t_changes f_t_change
def f_X9_write (i_t_letters : Int32) (i_t_booked : Int32) (f_t_book : Nat → Int32) (p1 : Int32) : Option (Int32 × Int32 × (Nat → Int32)) :=
  (f_X9_isLetter i_t_letters p1).bind fun r_1 =>
  if r_1 = 0 then
    some ((-1000000002), i_t_booked, f_t_book)
  else
    if i_t_booked = 30 then
      some ((-1000000004), i_t_booked, f_t_book)
    else
      if ixb i_t_booked 30 = true then
      some ((i_t_booked + 1), (i_t_booked + 1), (upd f_t_book (i_t_booked : Int32).toNatClampNeg p1))
      else none
def f_X9_tear (i_t_guesses : Int32) (i_t_booked : Int32) : Option (Int32 × Int32 × Int32) :=
  some ((i_t_booked + i_t_guesses), 0, 0)
def f_X9_judge_L2 (i_t_places : Int32) (i_t_words : Int32) (i_t_law : Int32) (i_t_way : Int32) (i_t_booked : Int32) (f_t_book : Nat → Int32) (f_t_isStanding : Nat → Int32) : Nat → Int32 → Int32 → (Nat → Int32) → Option (Int32 × Int32 × (Nat → Int32))
  | 0, _, _, _ => none
  | n + 1, v1, i_t_changes, f_t_change =>
    if i_t_booked ≤ v1 then
      some ((-1), i_t_changes, f_t_change)
    else
      if ixb (v1 - 1) 30 = true then
      if i_t_way = 1 then
        (f_X9_findChanges i_t_places i_t_words i_t_law f_t_isStanding i_t_changes f_t_change (f_t_book ((v1 - 1) : Int32).toNatClampNeg) 1).bind fun (z_11, z_12) =>
        if ixb v1 30 = true then
        (f_X9_placeOf z_11 z_12 (f_t_book (v1 : Int32).toNatClampNeg)).bind fun r_15 =>
        if 0 ≤ r_15 then
          f_X9_judge_L2 i_t_places i_t_words i_t_law i_t_way i_t_booked f_t_book f_t_isStanding n (v1 + 1) z_11 z_12
        else
          some (v1, z_11, z_12)
        else none
      else
        (f_X9_findChanges i_t_places i_t_words i_t_law f_t_isStanding i_t_changes f_t_change (f_t_book ((v1 - 1) : Int32).toNatClampNeg) 0).bind fun (z_4, z_5) =>
        if ixb v1 30 = true then
        (f_X9_placeOf z_4 z_5 (f_t_book (v1 : Int32).toNatClampNeg)).bind fun r_8 =>
        if 0 ≤ r_8 then
          f_X9_judge_L2 i_t_places i_t_words i_t_law i_t_way i_t_booked f_t_book f_t_isStanding n (v1 + 1) z_4 z_5
        else
          some (v1, z_4, z_5)
        else none
      else none
def f_X9_judge (i_t_places : Int32) (i_t_words : Int32) (i_t_law : Int32) (i_t_way : Int32) (i_t_booked : Int32) (f_t_book : Nat → Int32) (f_t_isStanding : Nat → Int32) (i_t_changes : Int32) (f_t_change : Nat → Int32) : Option (Int32 × Int32 × (Nat → Int32)) :=
  f_X9_judge_L2 i_t_places i_t_words i_t_law i_t_way i_t_booked f_t_book f_t_isStanding FU 1 i_t_changes f_t_change
def f_X9_draw (i_t_seed : Int32) (p1 : Int32) : Option (Int32 × Int32) :=
  if ¬ p1 = 0 then
  some ((((((((((i_t_seed : Int32).toInt64) * 1103515245) + 12345) - ((((i_t_seed : Int32).toInt64) * 1103515245) + 12345) / 2147483648 * 2147483648) : Int64).toInt32) / 65536) - ((((((((i_t_seed : Int32).toInt64) * 1103515245) + 12345) - ((((i_t_seed : Int32).toInt64) * 1103515245) + 12345) / 2147483648 * 2147483648) : Int64).toInt32) / 65536) / p1 * p1), (((((((i_t_seed : Int32).toInt64) * 1103515245) + 12345) - ((((i_t_seed : Int32).toInt64) * 1103515245) + 12345) / 2147483648 * 2147483648) : Int64).toInt32))
  else none
def f_X9_driftNow (i_t_places : Int32) (i_t_words : Int32) (i_t_letters : Int32) (i_t_law : Int32) (i_t_way : Int32) (f_t_isStanding : Nat → Int32) (f_t_worthOf : Nat → Int32) (i_t_letter : Int32) (i_t_turn : Int32) (i_t_logged : Int32) (i_t_seed : Int32) (i_t_changes : Int32) (f_t_end : Nat → Int32) (f_t_sent : Nat → Int32) (f_t_firstSent : Nat → Int32) (f_t_wasEnd : Nat → Int32) (f_t_wasSent : Nat → Int32) (f_t_change : Nat → Int32) (f_t_had : Nat → Int32) (f_t_logWho : Nat → Int32) (f_t_logFrom : Nat → Int32) (f_t_logTo : Nat → Int32) : Option (Int32 × Int32 × Int32 × Int32 × Int32 × (Nat → Int32) × (Nat → Int32) × (Nat → Int32) × (Nat → Int32) × (Nat → Int32) × (Nat → Int32) × (Nat → Int32) × (Nat → Int32) × (Nat → Int32) × (Nat → Int32)) :=
  (f_X9_draw i_t_seed 4).bind fun (r_1, z_2) =>
  if r_1 = 0 then
    if i_t_way = 1 then
      (f_X9_findChanges i_t_places i_t_words i_t_law f_t_isStanding i_t_changes f_t_change i_t_letter 1).bind fun (z_40, z_41) =>
      if z_40 ≤ 0 then
        some (i_t_letter, i_t_turn, i_t_logged, z_2, z_40, f_t_end, f_t_sent, f_t_firstSent, f_t_wasEnd, f_t_wasSent, z_41, f_t_had, f_t_logWho, f_t_logFrom, f_t_logTo)
      else
        (f_X9_draw z_2 z_40).bind fun (r_44, z_45) =>
        if ixb r_44 40 = true then
        (f_X9_sendNow i_t_letter i_t_turn i_t_logged f_t_logWho f_t_logFrom f_t_logTo (z_41 (r_44 : Int32).toNatClampNeg)).bind fun (z_48, z_49, z_50, z_51, z_52, z_53) =>
        some (z_48, z_49, z_50, z_45, z_40, f_t_end, f_t_sent, f_t_firstSent, f_t_wasEnd, f_t_wasSent, z_41, f_t_had, z_51, z_52, z_53)
        else none
    else
      (f_X9_findChanges i_t_places i_t_words i_t_law f_t_isStanding i_t_changes f_t_change i_t_letter 0).bind fun (z_25, z_26) =>
      if z_25 ≤ 0 then
        some (i_t_letter, i_t_turn, i_t_logged, z_2, z_25, f_t_end, f_t_sent, f_t_firstSent, f_t_wasEnd, f_t_wasSent, z_26, f_t_had, f_t_logWho, f_t_logFrom, f_t_logTo)
      else
        (f_X9_draw z_2 z_25).bind fun (r_29, z_30) =>
        if ixb r_29 40 = true then
        (f_X9_sendNow i_t_letter i_t_turn i_t_logged f_t_logWho f_t_logFrom f_t_logTo (z_26 (r_29 : Int32).toNatClampNeg)).bind fun (z_33, z_34, z_35, z_36, z_37, z_38) =>
        some (z_33, z_34, z_35, z_30, z_25, f_t_end, f_t_sent, f_t_firstSent, f_t_wasEnd, f_t_wasSent, z_26, f_t_had, z_36, z_37, z_38)
        else none
  else
    (f_X9_lookAhead i_t_places i_t_words i_t_letters i_t_law i_t_way f_t_isStanding f_t_worthOf i_t_changes f_t_end f_t_sent f_t_firstSent f_t_wasEnd f_t_wasSent f_t_change 2).bind fun (z_5, z_6, z_7, z_8, z_9, z_10, z_11) =>
    if ixb ((2 * i_t_letter) + i_t_turn) 8192 = true then
    if (z_8 (((2 * i_t_letter) + i_t_turn) : Int32).toNatClampNeg) < 0 then
      (f_X9_haveBoth i_t_letter f_t_worthOf f_t_had).bind fun z_15 =>
      some (i_t_letter, (1 - i_t_turn), i_t_logged, z_2, z_5, z_6, z_7, z_8, z_9, z_10, z_11, z_15, f_t_logWho, f_t_logFrom, f_t_logTo)
    else
      (f_X9_sendNow i_t_letter i_t_turn i_t_logged f_t_logWho f_t_logFrom f_t_logTo (z_8 (((2 * i_t_letter) + i_t_turn) : Int32).toNatClampNeg)).bind fun (z_17, z_18, z_19, z_20, z_21, z_22) =>
      some (z_17, z_18, z_19, z_2, z_5, z_6, z_7, z_8, z_9, z_10, z_11, f_t_had, z_20, z_21, z_22)
    else none
def f_X9_drift_L35 (i_t_places : Int32) (i_t_words : Int32) (i_t_letters : Int32) (i_t_law : Int32) (i_t_way : Int32) (i_t_isSettled : Int32) (f_t_isStanding : Nat → Int32) (f_t_worthOf : Nat → Int32) : Nat → Int32 → Int32 → Int32 → Int32 → Int32 → Int32 → Int32 → (Nat → Int32) → (Nat → Int32) → (Nat → Int32) → (Nat → Int32) → (Nat → Int32) → (Nat → Int32) → (Nat → Int32) → (Nat → Int32) → (Nat → Int32) → (Nat → Int32) → Option (Int32 × Int32 × Int32 × Int32 × Int32 × Int32 × (Nat → Int32) × (Nat → Int32) × (Nat → Int32) × (Nat → Int32) × (Nat → Int32) × (Nat → Int32) × (Nat → Int32) × (Nat → Int32) × (Nat → Int32) × (Nat → Int32))
  | 0, _, _, _, _, _, _, _, _, _, _, _, _, _, _, _, _, _ => none
  | n + 1, v1, v2, i_t_letter, i_t_turn, i_t_logged, i_t_seed, i_t_changes, f_t_end, f_t_sent, f_t_firstSent, f_t_wasEnd, f_t_wasSent, f_t_change, f_t_had, f_t_logWho, f_t_logFrom, f_t_logTo =>
    if v1 ≤ v2 then
      some (i_t_letter, i_t_letter, i_t_turn, i_t_logged, i_t_seed, i_t_changes, f_t_end, f_t_sent, f_t_firstSent, f_t_wasEnd, f_t_wasSent, f_t_change, f_t_had, f_t_logWho, f_t_logFrom, f_t_logTo)
    else
      (f_X9_driftNow i_t_places i_t_words i_t_letters i_t_law i_t_way f_t_isStanding f_t_worthOf i_t_letter i_t_turn i_t_logged i_t_seed i_t_changes f_t_end f_t_sent f_t_firstSent f_t_wasEnd f_t_wasSent f_t_change f_t_had f_t_logWho f_t_logFrom f_t_logTo).bind fun (z_7, z_8, z_9, z_10, z_11, z_12, z_13, z_14, z_15, z_16, z_17, z_18, z_19, z_20, z_21) =>
      f_X9_drift_L35 i_t_places i_t_words i_t_letters i_t_law i_t_way i_t_isSettled f_t_isStanding f_t_worthOf n v1 (v2 + 1) z_7 z_8 z_9 z_10 z_11 z_12 z_13 z_14 z_15 z_16 z_17 z_18 z_19 z_20 z_21
def f_X9_drift (i_t_places : Int32) (i_t_words : Int32) (i_t_letters : Int32) (i_t_law : Int32) (i_t_way : Int32) (i_t_isSettled : Int32) (f_t_isStanding : Nat → Int32) (f_t_worthOf : Nat → Int32) (i_t_letter : Int32) (i_t_turn : Int32) (i_t_logged : Int32) (i_t_seed : Int32) (i_t_changes : Int32) (f_t_end : Nat → Int32) (f_t_sent : Nat → Int32) (f_t_firstSent : Nat → Int32) (f_t_wasEnd : Nat → Int32) (f_t_wasSent : Nat → Int32) (f_t_change : Nat → Int32) (f_t_had : Nat → Int32) (f_t_logWho : Nat → Int32) (f_t_logFrom : Nat → Int32) (f_t_logTo : Nat → Int32) (p1 : Int32) : Option (Int32 × Int32 × Int32 × Int32 × Int32 × Int32 × (Nat → Int32) × (Nat → Int32) × (Nat → Int32) × (Nat → Int32) × (Nat → Int32) × (Nat → Int32) × (Nat → Int32) × (Nat → Int32) × (Nat → Int32) × (Nat → Int32)) :=
  (f_X9_in ((p1 : Int32).toInt64) 1 40).bind fun r_1 =>
  if r_1 = 0 then
    some ((-1000000002), i_t_letter, i_t_turn, i_t_logged, i_t_seed, i_t_changes, f_t_end, f_t_sent, f_t_firstSent, f_t_wasEnd, f_t_wasSent, f_t_change, f_t_had, f_t_logWho, f_t_logFrom, f_t_logTo)
  else
    if i_t_letters = 0 then
      some ((-1000000003), i_t_letter, i_t_turn, i_t_logged, i_t_seed, i_t_changes, f_t_end, f_t_sent, f_t_firstSent, f_t_wasEnd, f_t_wasSent, f_t_change, f_t_had, f_t_logWho, f_t_logFrom, f_t_logTo)
    else
      if i_t_isSettled = 0 then
        f_X9_drift_L35 i_t_places i_t_words i_t_letters i_t_law i_t_way i_t_isSettled f_t_isStanding f_t_worthOf FU p1 0 i_t_letter i_t_turn i_t_logged i_t_seed i_t_changes f_t_end f_t_sent f_t_firstSent f_t_wasEnd f_t_wasSent f_t_change f_t_had f_t_logWho f_t_logFrom f_t_logTo
      else
        some ((-1000000003), i_t_letter, i_t_turn, i_t_logged, i_t_seed, i_t_changes, f_t_end, f_t_sent, f_t_firstSent, f_t_wasEnd, f_t_wasSent, f_t_change, f_t_had, f_t_logWho, f_t_logFrom, f_t_logTo)
def f_X9_seed (i_t_seed : Int32) (p1 : Int32) : Option (Int32 × Int32) :=
  if 0 ≤ p1 then
    some (i_t_seed, p1)
  else
    some ((-1000000002), i_t_seed)
def f_X9_keep_L143 (i_t_law : Int32) (i_t_way : Int32) (i_t_letter : Int32) (i_t_turn : Int32) (i_t_isSettled : Int32) (i_t_logged : Int32) (i_t_seed : Int32) (f_t_had : Nat → Int32) (f_t_logWho : Nat → Int32) (f_t_logFrom : Nat → Int32) (f_t_logTo : Nat → Int32) : Nat → Int32 → Int32 → Int32 → (Nat → Int32) → (Nat → Int32) → Option (Int32 × (Nat → Int32) × (Nat → Int32))
  | 0, _, _, _, _, _ => none
  | n + 1, v1, v2, v3, f_t_images, f_t_isKept =>
    if 60 ≤ v3 then
      if ixb v1 2 = true then
      some (1, f_t_images, (upd f_t_isKept (v1 : Int32).toNatClampNeg (vp_nar .boolean 1)))
      else none
    else
      if ixb v3 60 = true then
      if ixb ((v2 + 10) + v3) 400 = true then
      if ixb v3 60 = true then
      if ixb ((v2 + 70) + v3) 400 = true then
      if ixb v3 60 = true then
      if ixb ((v2 + 130) + v3) 400 = true then
      f_X9_keep_L143 i_t_law i_t_way i_t_letter i_t_turn i_t_isSettled i_t_logged i_t_seed f_t_had f_t_logWho f_t_logFrom f_t_logTo n v1 v2 (v3 + 1) (upd (upd (upd f_t_images (((v2 + 10) + v3) : Int32).toNatClampNeg (f_t_logWho (v3 : Int32).toNatClampNeg)) (((v2 + 70) + v3) : Int32).toNatClampNeg (f_t_logFrom (v3 : Int32).toNatClampNeg)) (((v2 + 130) + v3) : Int32).toNatClampNeg (f_t_logTo (v3 : Int32).toNatClampNeg)) f_t_isKept
      else none
      else none
      else none
      else none
      else none
      else none
def f_X9_keep (i_t_law : Int32) (i_t_way : Int32) (i_t_letter : Int32) (i_t_turn : Int32) (i_t_isSettled : Int32) (i_t_logged : Int32) (i_t_seed : Int32) (f_t_had : Nat → Int32) (f_t_logWho : Nat → Int32) (f_t_logFrom : Nat → Int32) (f_t_logTo : Nat → Int32) (f_t_images : Nat → Int32) (f_t_isKept : Nat → Int32) (p1 : Int32) : Option (Int32 × (Nat → Int32) × (Nat → Int32)) :=
  (f_X9_in ((p1 : Int32).toInt64) 0 1).bind fun r_1 =>
  if r_1 = 0 then
    some ((-1000000001), f_t_images, f_t_isKept)
  else
    if ixb (200 * p1) 400 = true then
    if ixb ((200 * p1) + 1) 400 = true then
    if i_t_isSettled = 0 then
      if ixb ((200 * p1) + 2) 400 = true then
      if ixb 0 2 = true then
      if ixb ((200 * p1) + 3) 400 = true then
      if ixb 1 2 = true then
      if ixb ((200 * p1) + 4) 400 = true then
      if ixb ((200 * p1) + 5) 400 = true then
      if ixb ((200 * p1) + 6) 400 = true then
      if ixb ((200 * p1) + 7) 400 = true then
      if ixb ((200 * p1) + 8) 400 = true then
      f_X9_keep_L143 i_t_law i_t_way i_t_letter i_t_turn i_t_isSettled i_t_logged i_t_seed f_t_had f_t_logWho f_t_logFrom f_t_logTo FU p1 (200 * p1) 0 (upd (upd (upd (upd (upd (upd (upd (upd (upd f_t_images ((200 * p1) : Int32).toNatClampNeg i_t_letter) (((200 * p1) + 1) : Int32).toNatClampNeg i_t_turn) (((200 * p1) + 2) : Int32).toNatClampNeg 0) (((200 * p1) + 3) : Int32).toNatClampNeg (f_t_had (0 : Int32).toNatClampNeg)) (((200 * p1) + 4) : Int32).toNatClampNeg (f_t_had (1 : Int32).toNatClampNeg)) (((200 * p1) + 5) : Int32).toNatClampNeg i_t_logged) (((200 * p1) + 6) : Int32).toNatClampNeg i_t_law) (((200 * p1) + 7) : Int32).toNatClampNeg i_t_way) (((200 * p1) + 8) : Int32).toNatClampNeg i_t_seed) f_t_isKept
      else none
      else none
      else none
      else none
      else none
      else none
      else none
      else none
      else none
    else
      if ixb ((200 * p1) + 2) 400 = true then
      if ixb 0 2 = true then
      if ixb ((200 * p1) + 3) 400 = true then
      if ixb 1 2 = true then
      if ixb ((200 * p1) + 4) 400 = true then
      if ixb ((200 * p1) + 5) 400 = true then
      if ixb ((200 * p1) + 6) 400 = true then
      if ixb ((200 * p1) + 7) 400 = true then
      if ixb ((200 * p1) + 8) 400 = true then
      f_X9_keep_L143 i_t_law i_t_way i_t_letter i_t_turn i_t_isSettled i_t_logged i_t_seed f_t_had f_t_logWho f_t_logFrom f_t_logTo FU p1 (200 * p1) 0 (upd (upd (upd (upd (upd (upd (upd (upd (upd f_t_images ((200 * p1) : Int32).toNatClampNeg i_t_letter) (((200 * p1) + 1) : Int32).toNatClampNeg i_t_turn) (((200 * p1) + 2) : Int32).toNatClampNeg 1) (((200 * p1) + 3) : Int32).toNatClampNeg (f_t_had (0 : Int32).toNatClampNeg)) (((200 * p1) + 4) : Int32).toNatClampNeg (f_t_had (1 : Int32).toNatClampNeg)) (((200 * p1) + 5) : Int32).toNatClampNeg i_t_logged) (((200 * p1) + 6) : Int32).toNatClampNeg i_t_law) (((200 * p1) + 7) : Int32).toNatClampNeg i_t_way) (((200 * p1) + 8) : Int32).toNatClampNeg i_t_seed) f_t_isKept
      else none
      else none
      else none
      else none
      else none
      else none
      else none
      else none
      else none
    else none
    else none
def f_X9_goBack_L157 (f_t_isKept : Nat → Int32) (f_t_images : Nat → Int32) : Nat → Int32 → Int32 → Int32 → Int32 → Int32 → Int32 → Int32 → Int32 → Int32 → (Nat → Int32) → (Nat → Int32) → (Nat → Int32) → (Nat → Int32) → Option (Int32 × Int32 × Int32 × Int32 × Int32 × Int32 × Int32 × Int32 × (Nat → Int32) × (Nat → Int32) × (Nat → Int32) × (Nat → Int32))
  | 0, _, _, _, _, _, _, _, _, _, _, _, _, _ => none
  | n + 1, v2, v3, i_t_law, i_t_way, i_t_letter, i_t_turn, i_t_isSettled, i_t_logged, i_t_seed, f_t_had, f_t_logWho, f_t_logFrom, f_t_logTo =>
    if 60 ≤ v3 then
      some (1, i_t_law, i_t_way, i_t_letter, i_t_turn, i_t_isSettled, i_t_logged, i_t_seed, f_t_had, f_t_logWho, f_t_logFrom, f_t_logTo)
    else
      if ixb ((v2 + 10) + v3) 400 = true then
      if ixb v3 60 = true then
      if ixb ((v2 + 70) + v3) 400 = true then
      if ixb v3 60 = true then
      if ixb ((v2 + 130) + v3) 400 = true then
      if ixb v3 60 = true then
      f_X9_goBack_L157 f_t_isKept f_t_images n v2 (v3 + 1) i_t_law i_t_way i_t_letter i_t_turn i_t_isSettled i_t_logged i_t_seed f_t_had (upd f_t_logWho (v3 : Int32).toNatClampNeg (f_t_images (((v2 + 10) + v3) : Int32).toNatClampNeg)) (upd f_t_logFrom (v3 : Int32).toNatClampNeg (f_t_images (((v2 + 70) + v3) : Int32).toNatClampNeg)) (upd f_t_logTo (v3 : Int32).toNatClampNeg (f_t_images (((v2 + 130) + v3) : Int32).toNatClampNeg))
      else none
      else none
      else none
      else none
      else none
      else none
def f_X9_goBack (f_t_isKept : Nat → Int32) (f_t_images : Nat → Int32) (i_t_law : Int32) (i_t_way : Int32) (i_t_letter : Int32) (i_t_turn : Int32) (i_t_isSettled : Int32) (i_t_logged : Int32) (i_t_seed : Int32) (f_t_had : Nat → Int32) (f_t_logWho : Nat → Int32) (f_t_logFrom : Nat → Int32) (f_t_logTo : Nat → Int32) (p1 : Int32) : Option (Int32 × Int32 × Int32 × Int32 × Int32 × Int32 × Int32 × Int32 × (Nat → Int32) × (Nat → Int32) × (Nat → Int32) × (Nat → Int32)) :=
  (f_X9_in ((p1 : Int32).toInt64) 0 1).bind fun r_1 =>
  if r_1 = 0 then
    some ((-1000000001), i_t_law, i_t_way, i_t_letter, i_t_turn, i_t_isSettled, i_t_logged, i_t_seed, f_t_had, f_t_logWho, f_t_logFrom, f_t_logTo)
  else
    if ixb p1 2 = true then
    if (f_t_isKept (p1 : Int32).toNatClampNeg) = 0 then
      some ((-1000000003), i_t_law, i_t_way, i_t_letter, i_t_turn, i_t_isSettled, i_t_logged, i_t_seed, f_t_had, f_t_logWho, f_t_logFrom, f_t_logTo)
    else
      if ixb (200 * p1) 400 = true then
      if ixb ((200 * p1) + 1) 400 = true then
      if ixb ((200 * p1) + 2) 400 = true then
      if (f_t_images (((200 * p1) + 2) : Int32).toNatClampNeg) = 1 then
        if ixb ((200 * p1) + 3) 400 = true then
        if ixb 0 2 = true then
        if ixb ((200 * p1) + 4) 400 = true then
        if ixb 1 2 = true then
        if ixb ((200 * p1) + 5) 400 = true then
        if ixb ((200 * p1) + 6) 400 = true then
        if ixb ((200 * p1) + 7) 400 = true then
        if ixb ((200 * p1) + 8) 400 = true then
        f_X9_goBack_L157 f_t_isKept f_t_images FU (200 * p1) 0 (f_t_images (((200 * p1) + 6) : Int32).toNatClampNeg) (f_t_images (((200 * p1) + 7) : Int32).toNatClampNeg) (f_t_images ((200 * p1) : Int32).toNatClampNeg) (f_t_images (((200 * p1) + 1) : Int32).toNatClampNeg) 1 (f_t_images (((200 * p1) + 5) : Int32).toNatClampNeg) (f_t_images (((200 * p1) + 8) : Int32).toNatClampNeg) (upd (upd f_t_had (0 : Int32).toNatClampNeg (f_t_images (((200 * p1) + 3) : Int32).toNatClampNeg)) (1 : Int32).toNatClampNeg (f_t_images (((200 * p1) + 4) : Int32).toNatClampNeg)) f_t_logWho f_t_logFrom f_t_logTo
        else none
        else none
        else none
        else none
        else none
        else none
        else none
        else none
      else
        if ixb ((200 * p1) + 3) 400 = true then
        if ixb 0 2 = true then
        if ixb ((200 * p1) + 4) 400 = true then
        if ixb 1 2 = true then
        if ixb ((200 * p1) + 5) 400 = true then
        if ixb ((200 * p1) + 6) 400 = true then
        if ixb ((200 * p1) + 7) 400 = true then
        if ixb ((200 * p1) + 8) 400 = true then
        f_X9_goBack_L157 f_t_isKept f_t_images FU (200 * p1) 0 (f_t_images (((200 * p1) + 6) : Int32).toNatClampNeg) (f_t_images (((200 * p1) + 7) : Int32).toNatClampNeg) (f_t_images ((200 * p1) : Int32).toNatClampNeg) (f_t_images (((200 * p1) + 1) : Int32).toNatClampNeg) 0 (f_t_images (((200 * p1) + 5) : Int32).toNatClampNeg) (f_t_images (((200 * p1) + 8) : Int32).toNatClampNeg) (upd (upd f_t_had (0 : Int32).toNatClampNeg (f_t_images (((200 * p1) + 3) : Int32).toNatClampNeg)) (1 : Int32).toNatClampNeg (f_t_images (((200 * p1) + 4) : Int32).toNatClampNeg)) f_t_logWho f_t_logFrom f_t_logTo
        else none
        else none
        else none
        else none
        else none
        else none
        else none
        else none
      else none
      else none
      else none
    else none
