def f_J7_fill_53178_L5 (n_p1 : Nat) : Nat → Int32 → Int32 → Int32 → (Nat → Int32) → Option ((Nat → Int32))
  | 0, _, _, _, _ => none
  | n + 1, v1, v2, v3, f_p1 =>
    if v3 ≤ v2 then
      some f_p1
    else
      if ixb v2 n_p1 = true then
      f_J7_fill_53178_L5 n_p1 n v1 (v2 + 1) v3 (upd f_p1 (v2 : Int32).toNatClampNeg v1)
      else none
def f_J7_fill_53178 (n_p1 : Nat) (f_p1 : Nat → Int32) (p2 : Int32) : Option ((Nat → Int32)) :=
  f_J7_fill_53178_L5 n_p1 FU p2 0 (nI n_p1) f_p1
def f_X0_restart (i_t_letter : Int32) (i_t_turn : Int32) (i_t_settled : Int32) (i_t_sent : Int32) (f_t_gained : Nat → Int32) : Option (Int32 × Int32 × Int32 × Int32 × (Nat → Int32)) :=
  (f_J7_fill_53178 2 f_t_gained 0).bind fun z_1 =>
  some (0, 0, 0, 0, z_1)
def f_X0_become (i_p1_letter : Int32) (i_p1_turn : Int32) (i_p1_settled : Int32) (i_p1_sent : Int32) (i_p1_law : Int32) (i_p1_way : Int32) (i_p1_seed : Int32) (f_p1_gained : Nat → Int32) (f_p1_entries : Nat → Int32) (i_t_letter : Int32) (i_t_turn : Int32) (i_t_settled : Int32) (i_t_sent : Int32) (i_t_law : Int32) (i_t_way : Int32) (i_t_seed : Int32) (f_t_gained : Nat → Int32) (f_t_entries : Nat → Int32) : Option (Int32 × Int32 × Int32 × Int32 × Int32 × Int32 × Int32 × (Nat → Int32) × (Nat → Int32)) :=
  if zb i_p1_settled = true then
  some (i_p1_letter, i_p1_turn, i_p1_settled, i_p1_sent, i_p1_law, i_p1_way, i_p1_seed, (va_cpy f_p1_gained f_t_gained (0 : Int32).toNatClampNeg (0 : Int32).toNatClampNeg (2 : Int32).toNatClampNeg), (va_cpy f_p1_entries f_t_entries (0 : Int32).toNatClampNeg (0 : Int32).toNatClampNeg (180 : Int32).toNatClampNeg))
  else none
def f_X0_pass (i_t_letter : Int32) (i_t_turn : Int32) (i_t_sent : Int32) (f_t_entries : Nat → Int32) (p1 : Int32) : Option (Int32 × Int32 × Int32 × (Nat → Int32)) :=
  if 60 ≤ i_t_sent then
    some (p1, (1 - i_t_turn), i_t_sent, f_t_entries)
  else
    if ixb (i_t_sent * 3) 180 = true then
    if ixb ((i_t_sent * 3) + 1) 180 = true then
    if ixb ((i_t_sent * 3) + 2) 180 = true then
    some (p1, (1 - i_t_turn), (i_t_sent + 1), (upd (upd (upd f_t_entries ((i_t_sent * 3) : Int32).toNatClampNeg i_t_turn) (((i_t_sent * 3) + 1) : Int32).toNatClampNeg i_t_letter) (((i_t_sent * 3) + 2) : Int32).toNatClampNeg p1))
    else none
    else none
    else none
def f_X0_entry (i_t_sent : Int32) (f_t_entries : Nat → Int32) (p1 : Int32) (p2 : Int32) : Option (Int32) :=
  if p1 < 0 then
    some (-1)
  else
    if i_t_sent ≤ p1 then
      some (-1)
    else
      if p2 < 0 then
        some (-1)
      else
        if p2 < 3 then
          if ixb ((p1 * 3) + p2) 180 = true then
          some (f_t_entries (((p1 * 3) + p2) : Int32).toNatClampNeg)
          else none
        else
          some (-1)
def f_X0_draw (i_t_seed : Int32) (p1 : Int32) : Option (Int32 × Int32) :=
  if p1 ≤ 0 then
    some (0, (((i_t_seed * 1103515245) + 12345) &&& 2147483647))
  else
    if ¬ p1 = 0 then
    some ((((((i_t_seed * 1103515245) + 12345) &&& 2147483647) / 65536) - ((((i_t_seed * 1103515245) + 12345) &&& 2147483647) / 65536) / p1 * p1), (((i_t_seed * 1103515245) + 12345) &&& 2147483647))
    else none
def f_X2_restart (i_t_house : Int32) (f_t_worths : Nat → Int32) (p1 : Int32) : Option (Int32 × (Nat → Int32)) :=
  (f_J7_fill_53178 8 f_t_worths 0).bind fun z_1 =>
  some (p1, z_1)
def f_X6_empty (i_t_count : Int32) : Option (Int32) :=
  some 0
def f_X6_add (n_t_letters : Nat) (i_t_count : Int32) (f_t_letters : Nat → Int32) (p1 : Int32) : Option (Int32 × (Nat → Int32)) :=
  if (nI n_t_letters) ≤ i_t_count then
    some (i_t_count, f_t_letters)
  else
    if ixb i_t_count n_t_letters = true then
    some ((i_t_count + 1), (upd f_t_letters (i_t_count : Int32).toNatClampNeg p1))
    else none
def f_X6_get (i_t_count : Int32) (n_t_letters : Nat) (f_t_letters : Nat → Int32) (p1 : Int32) : Option (Int32) :=
  if p1 < 0 then
    some (-1)
  else
    if i_t_count ≤ p1 then
      some (-1)
    else
      if ixb p1 n_t_letters = true then
      some (f_t_letters (p1 : Int32).toNatClampNeg)
      else none
def f_X6_countOrGet (i_t_count : Int32) (n_t_letters : Nat) (f_t_letters : Nat → Int32) (p1 : Int32) : Option (Int32) :=
  if p1 = (-1) then
    some i_t_count
  else
    (f_X6_get i_t_count n_t_letters f_t_letters p1).bind fun r_2 =>
    some r_2
def f_X6_has_L2 (i_t_count : Int32) (n_t_letters : Nat) (f_t_letters : Nat → Int32) : Nat → Int32 → Int32 → Option (Int32)
  | 0, _, _ => none
  | n + 1, v1, v2 =>
    if i_t_count ≤ v2 then
      some 0
    else
      if ixb v2 n_t_letters = true then
      if (f_t_letters (v2 : Int32).toNatClampNeg) = v1 then
        some 1
      else
        f_X6_has_L2 i_t_count n_t_letters f_t_letters n v1 (v2 + 1)
      else none
def f_X6_has (i_t_count : Int32) (n_t_letters : Nat) (f_t_letters : Nat → Int32) (p1 : Int32) : Option (Int32) :=
  f_X6_has_L2 i_t_count n_t_letters f_t_letters FU p1 0
def f_X7_clear_L38 : Nat → Int32 → Int32 → Int32 → Int32 → Int32 → (Nat → Int32) → (Nat → Int32) → (Nat → Int32) → (Nat → Int32) → Option (Int32 × Int32 × Int32 × Int32 × (Nat → Int32) × (Nat → Int32) × (Nat → Int32) × (Nat → Int32))
  | 0, _, _, _, _, _, _, _, _, _ => none
  | n + 1, v1, i_t_length, i_t_words, i_t_frames, i_t_pairs, f_t_framed, f_t_paired, f_t_pairWorths0, f_t_pairWorths1 =>
    if 2 ≤ v1 then
      some (i_t_length, i_t_words, i_t_frames, i_t_pairs, f_t_framed, f_t_paired, f_t_pairWorths0, f_t_pairWorths1)
    else
      if v1 = 0 then
        (f_J7_fill_53178 64 f_t_pairWorths0 0).bind fun z_7 =>
        f_X7_clear_L38 n (v1 + 1) i_t_length i_t_words i_t_frames i_t_pairs f_t_framed f_t_paired z_7 f_t_pairWorths1
      else
        if v1 = 1 then
          (f_J7_fill_53178 64 f_t_pairWorths1 0).bind fun z_10 =>
          f_X7_clear_L38 n (v1 + 1) i_t_length i_t_words i_t_frames i_t_pairs f_t_framed f_t_paired f_t_pairWorths0 z_10
        else
          none
def f_X7_clear (i_t_length : Int32) (i_t_words : Int32) (i_t_frames : Int32) (i_t_pairs : Int32) (f_t_framed : Nat → Int32) (f_t_paired : Nat → Int32) (f_t_pairWorths0 : Nat → Int32) (f_t_pairWorths1 : Nat → Int32) : Option (Int32 × Int32 × Int32 × Int32 × (Nat → Int32) × (Nat → Int32) × (Nat → Int32) × (Nat → Int32)) :=
  (f_J7_fill_53178 256 f_t_framed 0).bind fun z_1 =>
  (f_J7_fill_53178 64 f_t_paired 0).bind fun z_3 =>
  f_X7_clear_L38 FU 0 0 0 0 0 z_1 z_3 f_t_pairWorths0 f_t_pairWorths1
def f_X7_addWord (i_t_words : Int32) (f_t_kinds : Nat → Int32) (f_t_worths0 : Nat → Int32) (f_t_worths1 : Nat → Int32) (p1 : Int32) (p2 : Int32) (p3 : Int32) : Option (Int32 × (Nat → Int32) × (Nat → Int32) × (Nat → Int32)) :=
  if 8 ≤ i_t_words then
    some (i_t_words, f_t_kinds, f_t_worths0, f_t_worths1)
  else
    if ixb i_t_words 8 = true then
    if ixb i_t_words 8 = true then
    if ixb i_t_words 8 = true then
    some ((i_t_words + 1), (upd f_t_kinds (i_t_words : Int32).toNatClampNeg p1), (upd f_t_worths0 (i_t_words : Int32).toNatClampNeg p2), (upd f_t_worths1 (i_t_words : Int32).toNatClampNeg p3))
    else none
    else none
    else none
def f_X7_addFrame (i_t_frames : Int32) (f_t_framed : Nat → Int32) (p1 : Int32) : Option (Int32 × (Nat → Int32)) :=
  if p1 < 0 then
    some (i_t_frames, f_t_framed)
  else
    if (nI 256) ≤ p1 then
      some (i_t_frames, f_t_framed)
    else
      if ixb p1 256 = true then
      some ((i_t_frames + 1), (upd f_t_framed (p1 : Int32).toNatClampNeg 1))
      else none
def f_X7_spotOf (p1 : Int32) (p2 : Int32) : Option (Int32) :=
  some (((p1 &&& 7) * 8) + (p2 &&& 7))
def f_X7_addPair (i_t_pairs : Int32) (f_t_paired : Nat → Int32) (f_t_pairWorths0 : Nat → Int32) (f_t_pairWorths1 : Nat → Int32) (p1 : Int32) (p2 : Int32) (p3 : Int32) (p4 : Int32) : Option (Int32 × (Nat → Int32) × (Nat → Int32) × (Nat → Int32)) :=
  (f_X7_spotOf p1 p2).bind fun r_1 =>
  if ixb r_1 64 = true then
  if ixb r_1 64 = true then
  if ixb r_1 64 = true then
  some ((i_t_pairs + 1), (upd f_t_paired (r_1 : Int32).toNatClampNeg 1), (upd f_t_pairWorths0 (r_1 : Int32).toNatClampNeg p3), (upd f_t_pairWorths1 (r_1 : Int32).toNatClampNeg p4))
  else none
  else none
  else none
def f_X7_hasPair (f_t_paired : Nat → Int32) (p1 : Int32) (p2 : Int32) : Option (Int32) :=
  (f_X7_spotOf p1 p2).bind fun r_1 =>
  if ixb r_1 64 = true then
  if (f_t_paired (r_1 : Int32).toNatClampNeg) = 1 then
    some 1
  else
    some 0
  else none
def f_X7_countLetters_L4 (i_t_length : Int32) (i_t_words : Int32) (K0 : (Nat → Int32) → Option (Int32 × (Nat → Int32))) : Nat → Int32 → Int32 → (Nat → Int32) → Option (Int32 × (Nat → Int32))
  | 0, _, _, _ => none
  | n + 1, v1, v2, f_t_scales =>
    if 4 < v2 then
      K0 f_t_scales
    else
      if ixb v2 5 = true then
      f_X7_countLetters_L4 i_t_length i_t_words K0 n (v1 * i_t_words) (v2 + 1) (upd f_t_scales (v2 : Int32).toNatClampNeg v1)
      else none
def f_X7_countLetters (i_t_length : Int32) (i_t_words : Int32) (f_t_scales : Nat → Int32) : Option (Int32 × (Nat → Int32)) :=
  f_X7_countLetters_L4 i_t_length i_t_words (fun (z_3 : Nat → Int32) =>
    if i_t_words ≤ 0 then
      some (0, z_3)
    else
      if 4 < i_t_length then
        some (0, z_3)
      else
        if ixb i_t_length 5 = true then
        some ((z_3 (i_t_length : Int32).toNatClampNeg), z_3)
        else none) FU 1 0 f_t_scales
def f_X7_wordAt (i_t_length : Int32) (i_t_words : Int32) (f_t_scales : Nat → Int32) (p1 : Int32) (p2 : Int32) : Option (Int32) :=
  if i_t_words ≤ 0 then
    some 0
  else
    if p2 < 0 then
      some 0
    else
      if i_t_length ≤ p2 then
        some 0
      else
        if ixb p2 5 = true then
        if 0 < (f_t_scales (p2 : Int32).toNatClampNeg) then
          if ixb p2 5 = true then
          if ¬ (f_t_scales (p2 : Int32).toNatClampNeg) = 0 then
          if ¬ i_t_words = 0 then
          some ((p1 / (f_t_scales (p2 : Int32).toNatClampNeg)) - (p1 / (f_t_scales (p2 : Int32).toNatClampNeg)) / i_t_words * i_t_words)
          else none
          else none
          else none
        else
          some 0
        else none
def f_X7_isFramed_L9 (i_t_length : Int32) (i_t_words : Int32) (f_t_kinds : Nat → Int32) (f_t_scales : Nat → Int32) (f_t_framed : Nat → Int32) (K0 : Int32 → Option (Int32)) : Nat → Int32 → Int32 → Int32 → Option (Int32)
  | 0, _, _, _ => none
  | n + 1, v1, v2, v3 =>
    if v3 < 0 then
      K0 v2
    else
      (f_X7_wordAt i_t_length i_t_words f_t_scales v1 v3).bind fun r_2 =>
      if ixb r_2 8 = true then
      f_X7_isFramed_L9 i_t_length i_t_words f_t_kinds f_t_scales f_t_framed K0 n v1 ((v2 * 4) + (f_t_kinds (r_2 : Int32).toNatClampNeg)) (v3 + (-1))
      else none
def f_X7_isFramed (i_t_length : Int32) (i_t_words : Int32) (f_t_kinds : Nat → Int32) (f_t_scales : Nat → Int32) (f_t_framed : Nat → Int32) (p1 : Int32) : Option (Int32) :=
  f_X7_isFramed_L9 i_t_length i_t_words f_t_kinds f_t_scales f_t_framed (fun (v2_5 : Int32) =>
    if ixb (v2_5 &&& ((nI 256) - 1)) 256 = true then
    if (f_t_framed ((v2_5 &&& ((nI 256) - 1)) : Int32).toNatClampNeg) = 1 then
      some 1
    else
      some 0
    else none) FU p1 0 (i_t_length - 1)
def f_X7_weigh_L17 (i_t_length : Int32) (i_t_words : Int32) (n_p2 : Nat) (f_p2 : Nat → Int32) (n_p3 : Nat) (f_p3 : Nat → Int32) (f_t_scales : Nat → Int32) (f_t_kinds : Nat → Int32) : Nat → Int32 → Int32 → Int32 → Int32 → Option (Int32)
  | 0, _, _, _, _ => none
  | n + 1, v1, v4, v5, v6 =>
    if i_t_length ≤ v6 then
      some v5
    else
      (f_X7_wordAt i_t_length i_t_words f_t_scales v1 v6).bind fun r_5 =>
      if ixb v4 8 = true then
      if (f_t_kinds (v4 : Int32).toNatClampNeg) = 3 then
        if ixb r_5 n_p2 = true then
        (f_X7_spotOf v4 r_5).bind fun r_14 =>
        if ixb r_14 n_p3 = true then
        f_X7_weigh_L17 i_t_length i_t_words n_p2 f_p2 n_p3 f_p3 f_t_scales f_t_kinds n v1 r_5 ((v5 + (-(f_p2 (r_5 : Int32).toNatClampNeg))) + (f_p3 (r_14 : Int32).toNatClampNeg)) (v6 + 1)
        else none
        else none
      else
        if ixb r_5 n_p2 = true then
        (f_X7_spotOf v4 r_5).bind fun r_10 =>
        if ixb r_10 n_p3 = true then
        f_X7_weigh_L17 i_t_length i_t_words n_p2 f_p2 n_p3 f_p3 f_t_scales f_t_kinds n v1 r_5 ((v5 + (f_p2 (r_5 : Int32).toNatClampNeg)) + (f_p3 (r_10 : Int32).toNatClampNeg)) (v6 + 1)
        else none
        else none
      else none
def f_X7_weigh (i_t_length : Int32) (i_t_words : Int32) (n_p2 : Nat) (f_p2 : Nat → Int32) (n_p3 : Nat) (f_p3 : Nat → Int32) (f_t_scales : Nat → Int32) (f_t_kinds : Nat → Int32) (p1 : Int32) : Option (Int32) :=
  (f_X7_wordAt i_t_length i_t_words f_t_scales p1 0).bind fun r_1 =>
  if ixb r_1 n_p2 = true then
  f_X7_weigh_L17 i_t_length i_t_words n_p2 f_p2 n_p3 f_p3 f_t_scales f_t_kinds FU p1 r_1 (f_p2 (r_1 : Int32).toNatClampNeg) 1
  else none
def f_X7_wordsApart_L5 (i_t_length : Int32) (i_t_words : Int32) (f_t_scales : Nat → Int32) : Nat → Int32 → Int32 → Int32 → Int32 → Option (Int32)
  | 0, _, _, _, _ => none
  | n + 1, v1, v2, v3, v4 =>
    if i_t_length ≤ v4 then
      some v3
    else
      (f_X7_wordAt i_t_length i_t_words f_t_scales v1 v4).bind fun r_2 =>
      (f_X7_wordAt i_t_length i_t_words f_t_scales v2 v4).bind fun r_4 =>
      if r_2 = r_4 then
        f_X7_wordsApart_L5 i_t_length i_t_words f_t_scales n v1 v2 v3 (v4 + 1)
      else
        f_X7_wordsApart_L5 i_t_length i_t_words f_t_scales n v1 v2 (v3 + 1) (v4 + 1)
def f_X7_wordsApart (i_t_length : Int32) (i_t_words : Int32) (f_t_scales : Nat → Int32) (p1 : Int32) (p2 : Int32) : Option (Int32) :=
  f_X7_wordsApart_L5 i_t_length i_t_words f_t_scales FU p1 p2 0 0
