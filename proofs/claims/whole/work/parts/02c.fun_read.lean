def f_X5_take_L20 : Nat → Int64 → Int32 → Int32 → (Nat → Int32) → Option (Int32 × Int32 × (Nat → Int32))
  | 0, _, _, _, _ => none
  | n + 1, v2, v4, i_t_length, f_t_text =>
    if v4 < 0 then
      some (i_t_length, i_t_length, f_t_text)
    else
      if ixb i_t_length 500 = true then
      f_X5_take_L20 n v2 (v4 + (-1)) (i_t_length + 1) (upd f_t_text (i_t_length : Int32).toNatClampNeg (vp_nar .byte ((((((v2.toUInt64 >>> (((8 * v4) : Int32).toInt64.toUInt64 &&& Int64.toUInt64 63)).toInt64) : Int64).toInt32) : Int32).toInt8.toInt32)))
      else none
def f_X5_take (i_t_length : Int32) (f_t_text : Nat → Int32) (p1 : Int32) (p2 : Int64) : Option (Int32 × Int32 × (Nat → Int32)) :=
  if (i_t_length + p1) ≤ 500 then
    f_X5_take_L20 FU p2 (p1 - 1) i_t_length f_t_text
  else
    some ((-1000000004), i_t_length, f_t_text)
def f_X5_skipBlanks_L0 (i_t_length : Int32) (f_t_text : Nat → Int32) : Nat → Int32 → Option (Int32)
  | 0, _ => none
  | n + 1, i_t_place =>
    if i_t_length ≤ i_t_place then
      some i_t_place
    else
      if ixb i_t_place 500 = true then
      if (f_t_text (i_t_place : Int32).toNatClampNeg) = 32 then
        f_X5_skipBlanks_L0 i_t_length f_t_text n (i_t_place + 1)
      else
        some i_t_place
      else none
def f_X5_skipBlanks (i_t_length : Int32) (f_t_text : Nat → Int32) (i_t_place : Int32) : Option (Int32) :=
  f_X5_skipBlanks_L0 i_t_length f_t_text FU i_t_place
def f_X5_isMore (i_t_length : Int32) (f_t_text : Nat → Int32) (i_t_place : Int32) : Option (Int32 × Int32) :=
  (f_X5_skipBlanks i_t_length f_t_text i_t_place).bind fun z_1 =>
  if i_t_length ≤ z_1 then
    some (0, z_1)
  else
    some (1, z_1)
def f_X5_nextWord_L12 (i_t_length : Int32) (f_t_text : Nat → Int32) : Nat → Int32 → Int32 → Option (Int32 × Int32)
  | 0, _, _ => none
  | n + 1, i_t_place, i_t_start =>
    if i_t_length ≤ i_t_place then
      some (i_t_place, i_t_start)
    else
      if ixb i_t_place 500 = true then
      if (f_t_text (i_t_place : Int32).toNatClampNeg) < 97 then
        some (i_t_place, i_t_start)
      else
        if ixb i_t_place 500 = true then
        if 122 < (f_t_text (i_t_place : Int32).toNatClampNeg) then
          some (i_t_place, i_t_start)
        else
          f_X5_nextWord_L12 i_t_length f_t_text n (i_t_place + 1) i_t_start
        else none
      else none
def f_X5_nextWord (i_t_length : Int32) (f_t_text : Nat → Int32) (i_t_place : Int32) (i_t_start : Int32) : Option (Int32 × Int32) :=
  (f_X5_skipBlanks i_t_length f_t_text i_t_place).bind fun z_1 =>
  f_X5_nextWord_L12 i_t_length f_t_text FU z_1 z_1
def f_X5_spells_word (i_t_place : Int32) (i_t_start : Int32) (f_t_text : Nat → Int32) : Option (Int32) :=
  if (i_t_place - i_t_start) = (nI 4) then
    if ixb (i_t_start + 0) 500 = true then
    if (f_t_text ((i_t_start + 0) : Int32).toNatClampNeg) = 119 then
      if ixb (i_t_start + (0 + 1)) 500 = true then
      if (f_t_text ((i_t_start + (0 + 1)) : Int32).toNatClampNeg) = 111 then
        if ixb (i_t_start + ((0 + 1) + 1)) 500 = true then
        if (f_t_text ((i_t_start + ((0 + 1) + 1)) : Int32).toNatClampNeg) = 114 then
          if ixb (i_t_start + (((0 + 1) + 1) + 1)) 500 = true then
          if (f_t_text ((i_t_start + (((0 + 1) + 1) + 1)) : Int32).toNatClampNeg) = 100 then
            some 1
          else
            some 0
          else none
        else
          some 0
        else none
      else
        some 0
      else none
    else
      some 0
    else none
  else
    some 0
def f_X5_spells_frame (i_t_place : Int32) (i_t_start : Int32) (f_t_text : Nat → Int32) : Option (Int32) :=
  if (i_t_place - i_t_start) = (nI 5) then
    if ixb (i_t_start + 0) 500 = true then
    if (f_t_text ((i_t_start + 0) : Int32).toNatClampNeg) = 102 then
      if ixb (i_t_start + (0 + 1)) 500 = true then
      if (f_t_text ((i_t_start + (0 + 1)) : Int32).toNatClampNeg) = 114 then
        if ixb (i_t_start + ((0 + 1) + 1)) 500 = true then
        if (f_t_text ((i_t_start + ((0 + 1) + 1)) : Int32).toNatClampNeg) = 97 then
          if ixb (i_t_start + (((0 + 1) + 1) + 1)) 500 = true then
          if (f_t_text ((i_t_start + (((0 + 1) + 1) + 1)) : Int32).toNatClampNeg) = 109 then
            if ixb (i_t_start + ((((0 + 1) + 1) + 1) + 1)) 500 = true then
            if (f_t_text ((i_t_start + ((((0 + 1) + 1) + 1) + 1)) : Int32).toNatClampNeg) = 101 then
              some 1
            else
              some 0
            else none
          else
            some 0
          else none
        else
          some 0
        else none
      else
        some 0
      else none
    else
      some 0
    else none
  else
    some 0
def f_X5_spells_pair (i_t_place : Int32) (i_t_start : Int32) (f_t_text : Nat → Int32) : Option (Int32) :=
  if (i_t_place - i_t_start) = (nI 4) then
    if ixb (i_t_start + 0) 500 = true then
    if (f_t_text ((i_t_start + 0) : Int32).toNatClampNeg) = 112 then
      if ixb (i_t_start + (0 + 1)) 500 = true then
      if (f_t_text ((i_t_start + (0 + 1)) : Int32).toNatClampNeg) = 97 then
        if ixb (i_t_start + ((0 + 1) + 1)) 500 = true then
        if (f_t_text ((i_t_start + ((0 + 1) + 1)) : Int32).toNatClampNeg) = 105 then
          if ixb (i_t_start + (((0 + 1) + 1) + 1)) 500 = true then
          if (f_t_text ((i_t_start + (((0 + 1) + 1) + 1)) : Int32).toNatClampNeg) = 114 then
            some 1
          else
            some 0
          else none
        else
          some 0
        else none
      else
        some 0
      else none
    else
      some 0
    else none
  else
    some 0
def f_X5_spells_letter (i_t_place : Int32) (i_t_start : Int32) (f_t_text : Nat → Int32) : Option (Int32) :=
  if (i_t_place - i_t_start) = (nI 6) then
    if ixb (i_t_start + 0) 500 = true then
    if (f_t_text ((i_t_start + 0) : Int32).toNatClampNeg) = 108 then
      if ixb (i_t_start + (0 + 1)) 500 = true then
      if (f_t_text ((i_t_start + (0 + 1)) : Int32).toNatClampNeg) = 101 then
        if ixb (i_t_start + ((0 + 1) + 1)) 500 = true then
        if (f_t_text ((i_t_start + ((0 + 1) + 1)) : Int32).toNatClampNeg) = 116 then
          if ixb (i_t_start + (((0 + 1) + 1) + 1)) 500 = true then
          if (f_t_text ((i_t_start + (((0 + 1) + 1) + 1)) : Int32).toNatClampNeg) = 116 then
            if ixb (i_t_start + ((((0 + 1) + 1) + 1) + 1)) 500 = true then
            if (f_t_text ((i_t_start + ((((0 + 1) + 1) + 1) + 1)) : Int32).toNatClampNeg) = 101 then
              if ixb (i_t_start + (((((0 + 1) + 1) + 1) + 1) + 1)) 500 = true then
              if (f_t_text ((i_t_start + (((((0 + 1) + 1) + 1) + 1) + 1)) : Int32).toNatClampNeg) = 114 then
                some 1
              else
                some 0
              else none
            else
              some 0
            else none
          else
            some 0
          else none
        else
          some 0
        else none
      else
        some 0
      else none
    else
      some 0
    else none
  else
    some 0
def f_X5_fail (i_t_start : Int32) (i_t_faultNumber : Int32) (i_t_faultByte : Int32) (p1 : Int32) : Option (Int32 × Int32) :=
  if i_t_faultNumber = 0 then
    some (p1, i_t_start)
  else
    some (i_t_faultNumber, i_t_faultByte)
def f_X5_nextNumber_L14 (i_t_length : Int32) (f_t_text : Nat → Int32) (K0 : Int32 → Int32 → Int32 → Int32 → Int32 → Int32 → Int32 → Option (Int32 × Int32 × Int32 × Int32 × Int32)) : Nat → Int32 → Int32 → Int32 → Int32 → Int32 → Int32 → Int32 → Option (Int32 × Int32 × Int32 × Int32 × Int32)
  | 0, _, _, _, _, _, _, _ => none
  | n + 1, v1, v2, v3, i_t_place, i_t_start, i_t_faultNumber, i_t_faultByte =>
    if i_t_length ≤ i_t_place then
      K0 v1 v2 v3 i_t_place i_t_start i_t_faultNumber i_t_faultByte
    else
      if ixb i_t_place 500 = true then
      if (f_t_text (i_t_place : Int32).toNatClampNeg) < 48 then
        K0 v1 v2 v3 i_t_place i_t_start i_t_faultNumber i_t_faultByte
      else
        if ixb i_t_place 500 = true then
        if 57 < (f_t_text (i_t_place : Int32).toNatClampNeg) then
          K0 v1 v2 v3 i_t_place i_t_start i_t_faultNumber i_t_faultByte
        else
          if 3 ≤ (i_t_place - i_t_start) then
            f_X5_nextNumber_L14 i_t_length f_t_text K0 n v1 v2 v3 (i_t_place + 1) i_t_start i_t_faultNumber i_t_faultByte
          else
            if ixb i_t_place 500 = true then
            f_X5_nextNumber_L14 i_t_length f_t_text K0 n v1 v2 (((v3 * 10) + (f_t_text (i_t_place : Int32).toNatClampNeg)) - 48) (i_t_place + 1) i_t_start i_t_faultNumber i_t_faultByte
            else none
        else none
      else none
def f_X5_nextNumber (i_t_length : Int32) (f_t_text : Nat → Int32) (i_t_place : Int32) (i_t_start : Int32) (i_t_faultNumber : Int32) (i_t_faultByte : Int32) (p1 : Int32) (p2 : Int32) : Option (Int32 × Int32 × Int32 × Int32 × Int32) :=
  (f_X5_skipBlanks i_t_length f_t_text i_t_place).bind fun z_1 =>
  f_X5_nextNumber_L14 i_t_length f_t_text (fun (v1_10 : Int32) (v2_11 : Int32) (v3_12 : Int32) (z_13 : Int32) (z_14 : Int32) (z_15 : Int32) (z_16 : Int32) =>
    if z_13 = z_14 then
      (f_X5_fail z_14 z_15 z_16 1).bind fun (z_30, z_31) =>
      some (v3_12, z_13, z_14, z_30, z_31)
    else
      if 3 < (z_13 - z_14) then
        (f_X5_fail z_14 z_15 z_16 2).bind fun (z_19, z_20) =>
        some (v3_12, z_13, z_14, z_19, z_20)
      else
        if v3_12 < v1_10 then
          (f_X5_fail z_14 z_15 z_16 2).bind fun (z_23, z_24) =>
          some (v3_12, z_13, z_14, z_23, z_24)
        else
          if v3_12 ≤ v2_11 then
            some (v3_12, z_13, z_14, z_15, z_16)
          else
            (f_X5_fail z_14 z_15 z_16 2).bind fun (z_27, z_28) =>
            some (v3_12, z_13, z_14, z_27, z_28)) FU p1 p2 0 z_1 z_1 i_t_faultNumber i_t_faultByte
def f_X5_nextSign (i_t_length : Int32) (f_t_text : Nat → Int32) (i_t_place : Int32) (i_t_start : Int32) (i_t_faultNumber : Int32) (i_t_faultByte : Int32) (p1 : Int32) : Option (Int32 × Int32 × Int32 × Int32) :=
  (f_X5_skipBlanks i_t_length f_t_text i_t_place).bind fun z_1 =>
  if i_t_length ≤ z_1 then
    (f_X5_fail z_1 i_t_faultNumber i_t_faultByte 1).bind fun (z_4, z_5) =>
    some (z_1, z_1, z_4, z_5)
  else
    if ixb z_1 500 = true then
    if (f_t_text (z_1 : Int32).toNatClampNeg) = p1 then
      some ((z_1 + 1), z_1, i_t_faultNumber, i_t_faultByte)
    else
      (f_X5_fail z_1 i_t_faultNumber i_t_faultByte 1).bind fun (z_9, z_10) =>
      some (z_1, z_1, z_9, z_10)
    else none
def f_X5_readPair (i_t_length : Int32) (i_p1_words : Int32) (f_t_text : Nat → Int32) (i_t_place : Int32) (i_t_start : Int32) (i_t_faultNumber : Int32) (i_t_faultByte : Int32) (i_p1_pairs : Int32) (f_p1_paired : Nat → Int32) (f_p1_pairWorths0 : Nat → Int32) (f_p1_pairWorths1 : Nat → Int32) : Option (Int32 × Int32 × Int32 × Int32 × Int32 × (Nat → Int32) × (Nat → Int32) × (Nat → Int32)) :=
  if i_p1_pairs < 12 then
    (f_X5_nextNumber i_t_length f_t_text i_t_place i_t_start i_t_faultNumber i_t_faultByte 0 (i_p1_words - 1)).bind fun (r_2, z_3, z_4, z_5, z_6) =>
    (f_X5_nextNumber i_t_length f_t_text z_3 z_4 z_5 z_6 0 (i_p1_words - 1)).bind fun (r_8, z_9, z_10, z_11, z_12) =>
    if z_11 = 0 then
      (f_X7_hasPair f_p1_paired r_2 r_8).bind fun r_38 =>
      if r_38 = 0 then
        (f_X5_nextNumber i_t_length f_t_text z_9 z_10 z_11 z_12 0 99).bind fun (r_41, z_42, z_43, z_44, z_45) =>
        (f_X5_nextNumber i_t_length f_t_text z_42 z_43 z_44 z_45 0 99).bind fun (r_47, z_48, z_49, z_50, z_51) =>
        (f_X5_nextSign i_t_length f_t_text z_48 z_49 z_50 z_51 59).bind fun (z_53, z_54, z_55, z_56) =>
        if z_55 = 0 then
          (f_X7_addPair i_p1_pairs f_p1_paired f_p1_pairWorths0 f_p1_pairWorths1 r_2 r_8 (r_41 - 50) (r_47 - 50)).bind fun (z_59, z_60, z_61, z_62) =>
          some (z_53, z_54, z_55, z_56, z_59, z_60, z_61, z_62)
        else
          some (z_53, z_54, z_55, z_56, i_p1_pairs, f_p1_paired, f_p1_pairWorths0, f_p1_pairWorths1)
      else
        (f_X5_fail z_10 z_11 z_12 4).bind fun (z_64, z_65) =>
        (f_X5_nextNumber i_t_length f_t_text z_9 z_10 z_64 z_65 0 99).bind fun (r_67, z_68, z_69, z_70, z_71) =>
        (f_X5_nextNumber i_t_length f_t_text z_68 z_69 z_70 z_71 0 99).bind fun (r_73, z_74, z_75, z_76, z_77) =>
        (f_X5_nextSign i_t_length f_t_text z_74 z_75 z_76 z_77 59).bind fun (z_79, z_80, z_81, z_82) =>
        if z_81 = 0 then
          (f_X7_addPair i_p1_pairs f_p1_paired f_p1_pairWorths0 f_p1_pairWorths1 r_2 r_8 (r_67 - 50) (r_73 - 50)).bind fun (z_85, z_86, z_87, z_88) =>
          some (z_79, z_80, z_81, z_82, z_85, z_86, z_87, z_88)
        else
          some (z_79, z_80, z_81, z_82, i_p1_pairs, f_p1_paired, f_p1_pairWorths0, f_p1_pairWorths1)
    else
      (f_X5_nextNumber i_t_length f_t_text z_9 z_10 z_11 z_12 0 99).bind fun (r_15, z_16, z_17, z_18, z_19) =>
      (f_X5_nextNumber i_t_length f_t_text z_16 z_17 z_18 z_19 0 99).bind fun (r_21, z_22, z_23, z_24, z_25) =>
      (f_X5_nextSign i_t_length f_t_text z_22 z_23 z_24 z_25 59).bind fun (z_27, z_28, z_29, z_30) =>
      if z_29 = 0 then
        (f_X7_addPair i_p1_pairs f_p1_paired f_p1_pairWorths0 f_p1_pairWorths1 r_2 r_8 (r_15 - 50) (r_21 - 50)).bind fun (z_33, z_34, z_35, z_36) =>
        some (z_27, z_28, z_29, z_30, z_33, z_34, z_35, z_36)
      else
        some (z_27, z_28, z_29, z_30, i_p1_pairs, f_p1_paired, f_p1_pairWorths0, f_p1_pairWorths1)
  else
    (f_X5_fail i_t_start i_t_faultNumber i_t_faultByte 3).bind fun (z_90, z_91) =>
    (f_X5_nextNumber i_t_length f_t_text i_t_place i_t_start z_90 z_91 0 (i_p1_words - 1)).bind fun (r_93, z_94, z_95, z_96, z_97) =>
    (f_X5_nextNumber i_t_length f_t_text z_94 z_95 z_96 z_97 0 (i_p1_words - 1)).bind fun (r_99, z_100, z_101, z_102, z_103) =>
    if z_102 = 0 then
      (f_X7_hasPair f_p1_paired r_93 r_99).bind fun r_129 =>
      if r_129 = 0 then
        (f_X5_nextNumber i_t_length f_t_text z_100 z_101 z_102 z_103 0 99).bind fun (r_132, z_133, z_134, z_135, z_136) =>
        (f_X5_nextNumber i_t_length f_t_text z_133 z_134 z_135 z_136 0 99).bind fun (r_138, z_139, z_140, z_141, z_142) =>
        (f_X5_nextSign i_t_length f_t_text z_139 z_140 z_141 z_142 59).bind fun (z_144, z_145, z_146, z_147) =>
        if z_146 = 0 then
          (f_X7_addPair i_p1_pairs f_p1_paired f_p1_pairWorths0 f_p1_pairWorths1 r_93 r_99 (r_132 - 50) (r_138 - 50)).bind fun (z_150, z_151, z_152, z_153) =>
          some (z_144, z_145, z_146, z_147, z_150, z_151, z_152, z_153)
        else
          some (z_144, z_145, z_146, z_147, i_p1_pairs, f_p1_paired, f_p1_pairWorths0, f_p1_pairWorths1)
      else
        (f_X5_fail z_101 z_102 z_103 4).bind fun (z_155, z_156) =>
        (f_X5_nextNumber i_t_length f_t_text z_100 z_101 z_155 z_156 0 99).bind fun (r_158, z_159, z_160, z_161, z_162) =>
        (f_X5_nextNumber i_t_length f_t_text z_159 z_160 z_161 z_162 0 99).bind fun (r_164, z_165, z_166, z_167, z_168) =>
        (f_X5_nextSign i_t_length f_t_text z_165 z_166 z_167 z_168 59).bind fun (z_170, z_171, z_172, z_173) =>
        if z_172 = 0 then
          (f_X7_addPair i_p1_pairs f_p1_paired f_p1_pairWorths0 f_p1_pairWorths1 r_93 r_99 (r_158 - 50) (r_164 - 50)).bind fun (z_176, z_177, z_178, z_179) =>
          some (z_170, z_171, z_172, z_173, z_176, z_177, z_178, z_179)
        else
          some (z_170, z_171, z_172, z_173, i_p1_pairs, f_p1_paired, f_p1_pairWorths0, f_p1_pairWorths1)
    else
      (f_X5_nextNumber i_t_length f_t_text z_100 z_101 z_102 z_103 0 99).bind fun (r_106, z_107, z_108, z_109, z_110) =>
      (f_X5_nextNumber i_t_length f_t_text z_107 z_108 z_109 z_110 0 99).bind fun (r_112, z_113, z_114, z_115, z_116) =>
      (f_X5_nextSign i_t_length f_t_text z_113 z_114 z_115 z_116 59).bind fun (z_118, z_119, z_120, z_121) =>
      if z_120 = 0 then
        (f_X7_addPair i_p1_pairs f_p1_paired f_p1_pairWorths0 f_p1_pairWorths1 r_93 r_99 (r_106 - 50) (r_112 - 50)).bind fun (z_124, z_125, z_126, z_127) =>
        some (z_118, z_119, z_120, z_121, z_124, z_125, z_126, z_127)
      else
        some (z_118, z_119, z_120, z_121, i_p1_pairs, f_p1_paired, f_p1_pairWorths0, f_p1_pairWorths1)
def f_X5_spells_name (i_t_place : Int32) (i_t_start : Int32) (f_t_text : Nat → Int32) : Option (Int32) :=
  if (i_t_place - i_t_start) = (nI 4) then
    if ixb (i_t_start + 0) 500 = true then
    if (f_t_text ((i_t_start + 0) : Int32).toNatClampNeg) = 110 then
      if ixb (i_t_start + (0 + 1)) 500 = true then
      if (f_t_text ((i_t_start + (0 + 1)) : Int32).toNatClampNeg) = 97 then
        if ixb (i_t_start + ((0 + 1) + 1)) 500 = true then
        if (f_t_text ((i_t_start + ((0 + 1) + 1)) : Int32).toNatClampNeg) = 109 then
          if ixb (i_t_start + (((0 + 1) + 1) + 1)) 500 = true then
          if (f_t_text ((i_t_start + (((0 + 1) + 1) + 1)) : Int32).toNatClampNeg) = 101 then
            some 1
          else
            some 0
          else none
        else
          some 0
        else none
      else
        some 0
      else none
    else
      some 0
    else none
  else
    some 0
def f_X5_spells_deed (i_t_place : Int32) (i_t_start : Int32) (f_t_text : Nat → Int32) : Option (Int32) :=
  if (i_t_place - i_t_start) = (nI 4) then
    if ixb (i_t_start + 0) 500 = true then
    if (f_t_text ((i_t_start + 0) : Int32).toNatClampNeg) = 100 then
      if ixb (i_t_start + (0 + 1)) 500 = true then
      if (f_t_text ((i_t_start + (0 + 1)) : Int32).toNatClampNeg) = 101 then
        if ixb (i_t_start + ((0 + 1) + 1)) 500 = true then
        if (f_t_text ((i_t_start + ((0 + 1) + 1)) : Int32).toNatClampNeg) = 101 then
          if ixb (i_t_start + (((0 + 1) + 1) + 1)) 500 = true then
          if (f_t_text ((i_t_start + (((0 + 1) + 1) + 1)) : Int32).toNatClampNeg) = 100 then
            some 1
          else
            some 0
          else none
        else
          some 0
        else none
      else
        some 0
      else none
    else
      some 0
    else none
  else
    some 0
def f_X5_spells_link (i_t_place : Int32) (i_t_start : Int32) (f_t_text : Nat → Int32) : Option (Int32) :=
  if (i_t_place - i_t_start) = (nI 4) then
    if ixb (i_t_start + 0) 500 = true then
    if (f_t_text ((i_t_start + 0) : Int32).toNatClampNeg) = 108 then
      if ixb (i_t_start + (0 + 1)) 500 = true then
      if (f_t_text ((i_t_start + (0 + 1)) : Int32).toNatClampNeg) = 105 then
        if ixb (i_t_start + ((0 + 1) + 1)) 500 = true then
        if (f_t_text ((i_t_start + ((0 + 1) + 1)) : Int32).toNatClampNeg) = 110 then
          if ixb (i_t_start + (((0 + 1) + 1) + 1)) 500 = true then
          if (f_t_text ((i_t_start + (((0 + 1) + 1) + 1)) : Int32).toNatClampNeg) = 107 then
            some 1
          else
            some 0
          else none
        else
          some 0
        else none
      else
        some 0
      else none
    else
      some 0
    else none
  else
    some 0
def f_X5_spells_turn (i_t_place : Int32) (i_t_start : Int32) (f_t_text : Nat → Int32) : Option (Int32) :=
  if (i_t_place - i_t_start) = (nI 4) then
    if ixb (i_t_start + 0) 500 = true then
    if (f_t_text ((i_t_start + 0) : Int32).toNatClampNeg) = 116 then
      if ixb (i_t_start + (0 + 1)) 500 = true then
      if (f_t_text ((i_t_start + (0 + 1)) : Int32).toNatClampNeg) = 117 then
        if ixb (i_t_start + ((0 + 1) + 1)) 500 = true then
        if (f_t_text ((i_t_start + ((0 + 1) + 1)) : Int32).toNatClampNeg) = 114 then
          if ixb (i_t_start + (((0 + 1) + 1) + 1)) 500 = true then
          if (f_t_text ((i_t_start + (((0 + 1) + 1) + 1)) : Int32).toNatClampNeg) = 110 then
            some 1
          else
            some 0
          else none
        else
          some 0
        else none
      else
        some 0
      else none
    else
      some 0
    else none
  else
    some 0
def f_X5_nextKind (i_t_length : Int32) (f_t_text : Nat → Int32) (i_t_place : Int32) (i_t_start : Int32) (i_t_faultNumber : Int32) (i_t_faultByte : Int32) : Option (Int32 × Int32 × Int32 × Int32 × Int32) :=
  (f_X5_nextWord i_t_length f_t_text i_t_place i_t_start).bind fun (z_1, z_2) =>
  (f_X5_spells_name z_1 z_2 f_t_text).bind fun r_4 =>
  if r_4 = 0 then
    (f_X5_spells_deed z_1 z_2 f_t_text).bind fun r_7 =>
    if r_7 = 0 then
      (f_X5_spells_link z_1 z_2 f_t_text).bind fun r_10 =>
      if r_10 = 0 then
        (f_X5_spells_turn z_1 z_2 f_t_text).bind fun r_13 =>
        if r_13 = 0 then
          (f_X5_fail z_2 i_t_faultNumber i_t_faultByte 1).bind fun (z_16, z_17) =>
          some (0, z_1, z_2, z_16, z_17)
        else
          some (3, z_1, z_2, i_t_faultNumber, i_t_faultByte)
      else
        some (2, z_1, z_2, i_t_faultNumber, i_t_faultByte)
    else
      some (1, z_1, z_2, i_t_faultNumber, i_t_faultByte)
  else
    some (0, z_1, z_2, i_t_faultNumber, i_t_faultByte)
def f_X5_readFrame_L21 (i_t_length : Int32) (i_p1_length : Int32) (f_t_text : Nat → Int32) : Nat → Int32 → Int32 → Int32 → Int32 → Int32 → Int32 → Int32 → Int32 → (Nat → Int32) → Option (Int32 × Int32 × Int32 × Int32 × Int32 × (Nat → Int32))
  | 0, _, _, _, _, _, _, _, _, _ => none
  | n + 1, v2, v3, v4, i_t_place, i_t_start, i_t_faultNumber, i_t_faultByte, i_p1_frames, f_p1_framed =>
    if i_p1_length < v4 then
      if i_t_faultNumber = 0 then
        (f_X7_addFrame i_p1_frames f_p1_framed v2).bind fun (z_4, z_5) =>
        some (i_t_place, i_t_start, i_t_faultNumber, i_t_faultByte, z_4, z_5)
      else
        some (i_t_place, i_t_start, i_t_faultNumber, i_t_faultByte, i_p1_frames, f_p1_framed)
    else
      (f_X5_nextKind i_t_length f_t_text i_t_place i_t_start i_t_faultNumber i_t_faultByte).bind fun (r_7, z_8, z_9, z_10, z_11) =>
      if i_p1_length ≤ v4 then
        (f_X5_nextSign i_t_length f_t_text z_8 z_9 z_10 z_11 59).bind fun (z_14, z_15, z_16, z_17) =>
        f_X5_readFrame_L21 i_t_length i_p1_length f_t_text n (v2 + (r_7 * v3)) (v3 * 4) (v4 + 1) z_14 z_15 z_16 z_17 i_p1_frames f_p1_framed
      else
        (f_X5_nextSign i_t_length f_t_text z_8 z_9 z_10 z_11 44).bind fun (z_19, z_20, z_21, z_22) =>
        f_X5_readFrame_L21 i_t_length i_p1_length f_t_text n (v2 + (r_7 * v3)) (v3 * 4) (v4 + 1) z_19 z_20 z_21 z_22 i_p1_frames f_p1_framed
def f_X5_readFrame (i_t_length : Int32) (i_p1_length : Int32) (f_t_text : Nat → Int32) (i_t_place : Int32) (i_t_start : Int32) (i_t_faultNumber : Int32) (i_t_faultByte : Int32) (i_p1_frames : Int32) (f_p1_framed : Nat → Int32) : Option (Int32 × Int32 × Int32 × Int32 × Int32 × (Nat → Int32)) :=
  if i_p1_frames < 8 then
    f_X5_readFrame_L21 i_t_length i_p1_length f_t_text FU 0 1 1 i_t_place i_t_start i_t_faultNumber i_t_faultByte i_p1_frames f_p1_framed
  else
    (f_X5_fail i_t_start i_t_faultNumber i_t_faultByte 3).bind fun (z_24, z_25) =>
    f_X5_readFrame_L21 i_t_length i_p1_length f_t_text FU 0 1 1 i_t_place i_t_start z_24 z_25 i_p1_frames f_p1_framed
def f_X5_readWord (i_t_length : Int32) (f_t_text : Nat → Int32) (i_t_place : Int32) (i_t_start : Int32) (i_t_faultNumber : Int32) (i_t_faultByte : Int32) (i_p1_words : Int32) (f_p1_kinds : Nat → Int32) (f_p1_worths0 : Nat → Int32) (f_p1_worths1 : Nat → Int32) : Option (Int32 × Int32 × Int32 × Int32 × Int32 × (Nat → Int32) × (Nat → Int32) × (Nat → Int32)) :=
  if i_p1_words < 8 then
    (f_X5_nextKind i_t_length f_t_text i_t_place i_t_start i_t_faultNumber i_t_faultByte).bind fun (r_2, z_3, z_4, z_5, z_6) =>
    (f_X5_nextNumber i_t_length f_t_text z_3 z_4 z_5 z_6 0 99).bind fun (r_8, z_9, z_10, z_11, z_12) =>
    (f_X5_nextNumber i_t_length f_t_text z_9 z_10 z_11 z_12 0 99).bind fun (r_14, z_15, z_16, z_17, z_18) =>
    (f_X5_nextSign i_t_length f_t_text z_15 z_16 z_17 z_18 59).bind fun (z_20, z_21, z_22, z_23) =>
    if z_22 = 0 then
      (f_X7_addWord i_p1_words f_p1_kinds f_p1_worths0 f_p1_worths1 r_2 (r_8 - 50) (r_14 - 50)).bind fun (z_26, z_27, z_28, z_29) =>
      some (z_20, z_21, z_22, z_23, z_26, z_27, z_28, z_29)
    else
      some (z_20, z_21, z_22, z_23, i_p1_words, f_p1_kinds, f_p1_worths0, f_p1_worths1)
  else
    (f_X5_fail i_t_start i_t_faultNumber i_t_faultByte 3).bind fun (z_31, z_32) =>
    (f_X5_nextKind i_t_length f_t_text i_t_place i_t_start z_31 z_32).bind fun (r_34, z_35, z_36, z_37, z_38) =>
    (f_X5_nextNumber i_t_length f_t_text z_35 z_36 z_37 z_38 0 99).bind fun (r_40, z_41, z_42, z_43, z_44) =>
    (f_X5_nextNumber i_t_length f_t_text z_41 z_42 z_43 z_44 0 99).bind fun (r_46, z_47, z_48, z_49, z_50) =>
    (f_X5_nextSign i_t_length f_t_text z_47 z_48 z_49 z_50 59).bind fun (z_52, z_53, z_54, z_55) =>
    if z_54 = 0 then
      (f_X7_addWord i_p1_words f_p1_kinds f_p1_worths0 f_p1_worths1 r_34 (r_40 - 50) (r_46 - 50)).bind fun (z_58, z_59, z_60, z_61) =>
      some (z_52, z_53, z_54, z_55, z_58, z_59, z_60, z_61)
    else
      some (z_52, z_53, z_54, z_55, i_p1_words, f_p1_kinds, f_p1_worths0, f_p1_worths1)
def f_X5_readStatement (i_t_length : Int32) (i_p1_length : Int32) (f_t_text : Nat → Int32) (i_t_place : Int32) (i_t_start : Int32) (i_t_faultNumber : Int32) (i_t_faultByte : Int32) (i_p1_words : Int32) (i_p1_frames : Int32) (i_p1_pairs : Int32) (f_p1_paired : Nat → Int32) (f_p1_pairWorths0 : Nat → Int32) (f_p1_pairWorths1 : Nat → Int32) (f_p1_framed : Nat → Int32) (f_p1_kinds : Nat → Int32) (f_p1_worths0 : Nat → Int32) (f_p1_worths1 : Nat → Int32) : Option (Int32 × Int32 × Int32 × Int32 × Int32 × Int32 × Int32 × (Nat → Int32) × (Nat → Int32) × (Nat → Int32) × (Nat → Int32) × (Nat → Int32) × (Nat → Int32) × (Nat → Int32)) :=
  (f_X5_nextWord i_t_length f_t_text i_t_place i_t_start).bind fun (z_1, z_2) =>
  (f_X5_spells_word z_1 z_2 f_t_text).bind fun r_4 =>
  if r_4 = 0 then
    (f_X5_spells_frame z_1 z_2 f_t_text).bind fun r_7 =>
    if r_7 = 0 then
      (f_X5_spells_pair z_1 z_2 f_t_text).bind fun r_10 =>
      if r_10 = 0 then
        (f_X5_spells_letter z_1 z_2 f_t_text).bind fun r_13 =>
        if r_13 = 0 then
          (f_X5_fail z_2 i_t_faultNumber i_t_faultByte 1).bind fun (z_16, z_17) =>
          some (z_1, z_2, z_16, z_17, i_p1_words, i_p1_frames, i_p1_pairs, f_p1_paired, f_p1_pairWorths0, f_p1_pairWorths1, f_p1_framed, f_p1_kinds, f_p1_worths0, f_p1_worths1)
        else
          (f_X5_fail z_2 i_t_faultNumber i_t_faultByte 3).bind fun (z_19, z_20) =>
          some (z_1, z_2, z_19, z_20, i_p1_words, i_p1_frames, i_p1_pairs, f_p1_paired, f_p1_pairWorths0, f_p1_pairWorths1, f_p1_framed, f_p1_kinds, f_p1_worths0, f_p1_worths1)
      else
        (f_X5_readPair i_t_length i_p1_words f_t_text z_1 z_2 i_t_faultNumber i_t_faultByte i_p1_pairs f_p1_paired f_p1_pairWorths0 f_p1_pairWorths1).bind fun (z_22, z_23, z_24, z_25, z_26, z_27, z_28, z_29) =>
        some (z_22, z_23, z_24, z_25, i_p1_words, i_p1_frames, z_26, z_27, z_28, z_29, f_p1_framed, f_p1_kinds, f_p1_worths0, f_p1_worths1)
    else
      (f_X5_readFrame i_t_length i_p1_length f_t_text z_1 z_2 i_t_faultNumber i_t_faultByte i_p1_frames f_p1_framed).bind fun (z_31, z_32, z_33, z_34, z_35, z_36) =>
      some (z_31, z_32, z_33, z_34, i_p1_words, z_35, i_p1_pairs, f_p1_paired, f_p1_pairWorths0, f_p1_pairWorths1, z_36, f_p1_kinds, f_p1_worths0, f_p1_worths1)
  else
    (f_X5_readWord i_t_length f_t_text z_1 z_2 i_t_faultNumber i_t_faultByte i_p1_words f_p1_kinds f_p1_worths0 f_p1_worths1).bind fun (z_38, z_39, z_40, z_41, z_42, z_43, z_44, z_45) =>
    some (z_38, z_39, z_40, z_41, z_42, i_p1_frames, i_p1_pairs, f_p1_paired, f_p1_pairWorths0, f_p1_pairWorths1, f_p1_framed, z_43, z_44, z_45)
def f_X5_readHead (i_t_length : Int32) (f_t_text : Nat → Int32) (i_t_place : Int32) (i_t_start : Int32) (i_t_faultNumber : Int32) (i_t_faultByte : Int32) (i_p1_length : Int32) : Option (Int32 × Int32 × Int32 × Int32 × Int32) :=
  (f_X5_nextWord i_t_length f_t_text i_t_place i_t_start).bind fun (z_1, z_2) =>
  (f_X5_spells_letter z_1 z_2 f_t_text).bind fun r_4 =>
  if r_4 = 0 then
    (f_X5_fail z_2 i_t_faultNumber i_t_faultByte 1).bind fun (z_18, z_19) =>
    (f_X5_nextNumber i_t_length f_t_text z_1 z_2 z_18 z_19 2 4).bind fun (r_21, z_22, z_23, z_24, z_25) =>
    (f_X5_nextSign i_t_length f_t_text z_22 z_23 z_24 z_25 59).bind fun (z_27, z_28, z_29, z_30) =>
    some (z_27, z_28, z_29, z_30, r_21)
  else
    (f_X5_nextNumber i_t_length f_t_text z_1 z_2 i_t_faultNumber i_t_faultByte 2 4).bind fun (r_7, z_8, z_9, z_10, z_11) =>
    (f_X5_nextSign i_t_length f_t_text z_8 z_9 z_10 z_11 59).bind fun (z_13, z_14, z_15, z_16) =>
    some (z_13, z_14, z_15, z_16, r_7)
def f_X5_read_L33 (f_t_text : Nat → Int32) : Nat → Int32 → Int32 → Int32 → Int32 → Int32 → Int32 → Int32 → Int32 → Int32 → Int32 → (Nat → Int32) → (Nat → Int32) → (Nat → Int32) → (Nat → Int32) → (Nat → Int32) → (Nat → Int32) → (Nat → Int32) → Option (Int32 × Int32 × Int32 × Int32 × Int32 × Int32 × Int32 × Int32 × Int32 × Int32 × (Nat → Int32) × (Nat → Int32) × (Nat → Int32) × (Nat → Int32) × (Nat → Int32) × (Nat → Int32) × (Nat → Int32))
  | 0, _, _, _, _, _, _, _, _, _, _, _, _, _, _, _, _, _ => none
  | n + 1, v2, i_t_length, i_t_place, i_t_start, i_t_faultNumber, i_t_faultByte, i_p1_length, i_p1_words, i_p1_frames, i_p1_pairs, f_p1_framed, f_p1_paired, f_p1_pairWorths0, f_p1_pairWorths1, f_p1_kinds, f_p1_worths0, f_p1_worths1 =>
    if 500 ≤ v2 then
      some (i_t_faultNumber, 0, i_t_place, i_t_start, i_t_faultNumber, i_t_faultByte, i_p1_length, i_p1_words, i_p1_frames, i_p1_pairs, f_p1_framed, f_p1_paired, f_p1_pairWorths0, f_p1_pairWorths1, f_p1_kinds, f_p1_worths0, f_p1_worths1)
    else
      if i_t_faultNumber = 0 then
        (f_X5_isMore i_t_length f_t_text i_t_place).bind fun (r_16, z_17) =>
        if r_16 = 0 then
          some (i_t_faultNumber, 0, z_17, i_t_start, i_t_faultNumber, i_t_faultByte, i_p1_length, i_p1_words, i_p1_frames, i_p1_pairs, f_p1_framed, f_p1_paired, f_p1_pairWorths0, f_p1_pairWorths1, f_p1_kinds, f_p1_worths0, f_p1_worths1)
        else
          (f_X5_readStatement i_t_length i_p1_length f_t_text z_17 i_t_start i_t_faultNumber i_t_faultByte i_p1_words i_p1_frames i_p1_pairs f_p1_paired f_p1_pairWorths0 f_p1_pairWorths1 f_p1_framed f_p1_kinds f_p1_worths0 f_p1_worths1).bind fun (z_20, z_21, z_22, z_23, z_24, z_25, z_26, z_27, z_28, z_29, z_30, z_31, z_32, z_33) =>
          f_X5_read_L33 f_t_text n (v2 + 1) i_t_length z_20 z_21 z_22 z_23 i_p1_length z_24 z_25 z_26 z_30 z_27 z_28 z_29 z_31 z_32 z_33
      else
        some (i_t_faultNumber, 0, i_t_place, i_t_start, i_t_faultNumber, i_t_faultByte, i_p1_length, i_p1_words, i_p1_frames, i_p1_pairs, f_p1_framed, f_p1_paired, f_p1_pairWorths0, f_p1_pairWorths1, f_p1_kinds, f_p1_worths0, f_p1_worths1)
def f_X5_read (f_t_text : Nat → Int32) (i_t_length : Int32) (i_t_place : Int32) (i_t_start : Int32) (i_t_faultNumber : Int32) (i_t_faultByte : Int32) (i_p1_length : Int32) (i_p1_words : Int32) (i_p1_frames : Int32) (i_p1_pairs : Int32) (f_p1_framed : Nat → Int32) (f_p1_paired : Nat → Int32) (f_p1_pairWorths0 : Nat → Int32) (f_p1_pairWorths1 : Nat → Int32) (f_p1_kinds : Nat → Int32) (f_p1_worths0 : Nat → Int32) (f_p1_worths1 : Nat → Int32) : Option (Int32 × Int32 × Int32 × Int32 × Int32 × Int32 × Int32 × Int32 × Int32 × Int32 × (Nat → Int32) × (Nat → Int32) × (Nat → Int32) × (Nat → Int32) × (Nat → Int32) × (Nat → Int32) × (Nat → Int32)) :=
  (f_X7_clear i_p1_length i_p1_words i_p1_frames i_p1_pairs f_p1_framed f_p1_paired f_p1_pairWorths0 f_p1_pairWorths1).bind fun (z_1, z_2, z_3, z_4, z_5, z_6, z_7, z_8) =>
  (f_X5_isMore i_t_length f_t_text 0).bind fun (r_10, z_11) =>
  if r_10 = 0 then
    f_X5_read_L33 f_t_text FU 0 i_t_length z_11 i_t_start 0 (-1) z_1 z_2 z_3 z_4 z_5 z_6 z_7 z_8 f_p1_kinds f_p1_worths0 f_p1_worths1
  else
    (f_X5_readHead i_t_length f_t_text z_11 i_t_start 0 (-1) z_1).bind fun (z_35, z_36, z_37, z_38, z_39) =>
    f_X5_read_L33 f_t_text FU 0 i_t_length z_35 z_36 z_37 z_38 z_39 z_2 z_3 z_4 z_5 z_6 z_7 z_8 f_p1_kinds f_p1_worths0 f_p1_worths1
