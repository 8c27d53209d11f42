abbrev rmX9_in : Room := { frames := 0, cells := 0, slots := 0, locals := 0 }
def f_X9_in (p1 : Int64) (p2 : Int64) (p3 : Int64) : Option (Int32) :=
  if (lg_cmp p1 p2) < 0 then
    some 0
  else
    if 0 < (lg_cmp p1 p3) then
      some 0
    else
      some 1
set_option maxRecDepth 100000 in
set_option maxHeartbeats 4000000 in
theorem c_X9_in (l : Launch) (D : va_G) (cy : Nat → ClassId) (p1 : Int64) (p2 : Int64) (p3 : Int64) (rv : Int32) (hf : f_X9_in p1 p2 p3 = some rv) : MI l D cy yX9_in wsX9_in rmX9_in [.long p1, .long p2, .long p3] [] [] rv := by
  refine st_I (by decide) rfl (Nat.le_of_ble_eq_true rfl) (fun p e s m below meth c A Q ls C0 hA hK hP hD hS hl hret => ?_)
  obtain ⟨hx, hb, hr, hml, hown, hts, hlocks⟩ := id C0
  have hl : lv_has ls 6 [(0, .long p1), (2, .long p2), (4, .long p3)] := hl
  unfold f_X9_in at hf
  refine lv_lload_n hx hb dX9_in_0 rfl (lv_at hl 0 rfl) ?_
  refine lv_lload_n hx hb dX9_in_1 rfl (lv_at hl 1 rfl) ?_
  refine W.lcmp hx hb dX9_in_2 ?_
  refine lv_if_lt (tgt := 17) hx hb dX9_in_3 (by decide) (fun c_1 => ?_) (fun c_1 => ?_)
  · have hf := hb_t hf c_1
    refine lv_iconst (v := 0) hx hb dX9_in_17 (by decide) ?_
    have hf := Option.some.inj hf
    subst hf
    exact hret _ _ _ _ dX9_in_18 rfl hP hS
  · have hf := hb_f hf c_1
    refine lv_lload_n hx hb dX9_in_6 rfl (lv_at hl 0 rfl) ?_
    refine lv_lload hx hb dX9_in_7 (lv_at hl 2 rfl) ?_
    refine W.lcmp hx hb dX9_in_9 ?_
    refine lv_if_gt (tgt := 17) hx hb dX9_in_10 (by decide) (fun c_2 => ?_) (fun c_2 => ?_)
    · have hf := hb_t hf c_2
      refine lv_iconst (v := 0) hx hb dX9_in_17 (by decide) ?_
      have hf := Option.some.inj hf
      subst hf
      exact hret _ _ _ _ dX9_in_18 rfl hP hS
    · have hf := hb_f hf c_2
      refine lv_iconst (v := 1) hx hb dX9_in_13 (by decide) ?_
      refine lv_goto (tgt := 18) hx hb dX9_in_14 (by decide) ?_
      have hf := Option.some.inj hf
      subst hf
      exact hret _ _ _ _ dX9_in_18 rfl hP hS
theorem mX9_isLetter_102 : Cond.fieldLink RX9 102 "OneWordLettersModel" "letters" "I" ∈ wsX9_isLetter := by decide +kernel
theorem uX9_isLetter_X9 : ∀ w ∈ wsX90, w ∈ wsX9_isLetter := fun _ h => List.mem_cons_of_mem _ (List.mem_append_right _ h)
abbrev rmX9_isLetter : Room := { frames := 1, cells := 0, slots := 0, locals := 25 }
def f_X9_isLetter (i_t_letters : Int32) (p1 : Int32) : Option (Int32) :=
  (f_X9_in ((p1 : Int32).toInt64) 0 (((i_t_letters - 1) : Int32).toInt64)).bind fun r_1 =>
  if zb r_1 = true then
  some r_1
  else none
set_option maxRecDepth 100000 in
set_option maxHeartbeats 4000000 in
theorem c_X9_isLetter (l : Launch) (D : va_G) (cy : Nat → ClassId) (a_t : Nat) (o_t_places : Value) (o_t_words : Value) (o_t_kind : Value) (o_t_worths : Value) (o_t_frames : Value) (o_t_frame : Value) (o_t_pairs : Value) (o_t_pair : Value) (o_t_standing : Value) (o_t_isStanding : Value) (o_t_worthOf : Value) (o_t_law : Value) (o_t_way : Value) (o_t_letter : Value) (o_t_turn : Value) (o_t_isSettled : Value) (o_t_had : Value) (o_t_logged : Value) (o_t_logWho : Value) (o_t_logFrom : Value) (o_t_logTo : Value) (o_t_seed : Value) (o_t_text : Value) (o_t_texted : Value) (o_t_faultPlace : Value) (o_t_at0 : Value) (o_t_said : Value) (o_t_wordEnd : Value) (o_t_number : Value) (o_t_numberAt : Value) (o_t_readPlaces : Value) (o_t_readWords : Value) (o_t_readKind : Value) (o_t_readWorth : Value) (o_t_readFrames : Value) (o_t_readFrame : Value) (o_t_readPairs : Value) (o_t_readPair : Value) (o_t_changes : Value) (o_t_change : Value) (o_t_queue : Value) (o_t_steps : Value) (o_t_end : Value) (o_t_sent : Value) (o_t_firstSent : Value) (o_t_wasEnd : Value) (o_t_wasSent : Value) (o_t_guesses : Value) (o_t_guessHouse : Value) (o_t_guessWorth : Value) (o_t_booked : Value) (o_t_book : Value) (o_t_images : Value) (o_t_isKept : Value) (i_t_letters : Int32) (p1 : Int32) (rv : Int32) (hf : f_X9_isLetter i_t_letters p1 = some rv) : MI l D cy yX9_isLetter wsX9_isLetter rmX9_isLetter [.ref a_t, .int p1] [(a_t, .inr (9, [o_t_places, o_t_words, o_t_kind, o_t_worths, o_t_frames, o_t_frame, o_t_pairs, o_t_pair, .int i_t_letters, o_t_standing, o_t_isStanding, o_t_worthOf, o_t_law, o_t_way, o_t_letter, o_t_turn, o_t_isSettled, o_t_had, o_t_logged, o_t_logWho, o_t_logFrom, o_t_logTo, o_t_seed, o_t_text, o_t_texted, o_t_faultPlace, o_t_at0, o_t_said, o_t_wordEnd, o_t_number, o_t_numberAt, o_t_readPlaces, o_t_readWords, o_t_readKind, o_t_readWorth, o_t_readFrames, o_t_readFrame, o_t_readPairs, o_t_readPair, o_t_changes, o_t_change, o_t_queue, o_t_steps, o_t_end, o_t_sent, o_t_firstSent, o_t_wasEnd, o_t_wasSent, o_t_guesses, o_t_guessHouse, o_t_guessWorth, o_t_booked, o_t_book, o_t_images, o_t_isKept]))] [(a_t, .inr (9, [o_t_places, o_t_words, o_t_kind, o_t_worths, o_t_frames, o_t_frame, o_t_pairs, o_t_pair, .int i_t_letters, o_t_standing, o_t_isStanding, o_t_worthOf, o_t_law, o_t_way, o_t_letter, o_t_turn, o_t_isSettled, o_t_had, o_t_logged, o_t_logWho, o_t_logFrom, o_t_logTo, o_t_seed, o_t_text, o_t_texted, o_t_faultPlace, o_t_at0, o_t_said, o_t_wordEnd, o_t_number, o_t_numberAt, o_t_readPlaces, o_t_readWords, o_t_readKind, o_t_readWorth, o_t_readFrames, o_t_readFrame, o_t_readPairs, o_t_readPair, o_t_changes, o_t_change, o_t_queue, o_t_steps, o_t_end, o_t_sent, o_t_firstSent, o_t_wasEnd, o_t_wasSent, o_t_guesses, o_t_guessHouse, o_t_guessWorth, o_t_booked, o_t_book, o_t_images, o_t_isKept]))] rv := by
  refine st_I (by decide) rfl (Nat.le_of_ble_eq_true rfl) (fun p e s m below meth c A Q ls C0 hA hK hP hD hS hl hret => ?_)
  obtain ⟨hx, hb, hr, hml, hown, hts, hlocks⟩ := id C0
  have hl : lv_has ls 2 [(0, .ref a_t), (1, .int p1)] := hl
  unfold f_X9_isLetter at hf
  refine lv_iload_n hx hb dX9_isLetter_0 rfl (lv_at hl 1 rfl) ?_
  refine lv_i2l (v := ((p1 : Int32).toInt64)) hx hb dX9_isLetter_1 rfl ?_
  refine lv_lconst (v := 0) hx hb dX9_isLetter_2 (by decide) ?_
  refine lv_aload_n hx hb dX9_isLetter_3 rfl (lv_at hl 0 rfl) ?_
  refine va_get (D := D) (ci := 9) (v := .int i_t_letters) (C := RX9) (T := TX9) (N := 55) hx hb hts uX9_isLetter_X9 hown hK.1.1 hP 0 rfl rfl 8 (by decide) (hts _ mX9_isLetter_102) (fun _ h9 => h9) rfl dX9_isLetter_4 ?_
  refine lv_iconst (v := 1) hx hb dX9_isLetter_7 (by decide) ?_
  refine lv_isub hx hb dX9_isLetter_8 ?_
  refine lv_i2l (v := (((i_t_letters - 1) : Int32).toInt64)) hx hb dX9_isLetter_9 rfl ?_
  obtain ⟨r_1, hc_2, hf⟩ := hb_b hf
  refine cl_Si (rest := []) [] C0 hK hP hD hS hA (c_X9_in l D cy ((p1 : Int32).toInt64) 0 (((i_t_letters - 1) : Int32).toInt64) r_1 hc_2) (va_cwS 3 hts gX9_isLetter_X9_in rfl rfl rfl (by decide +kernel) ⟨Nat.le_of_ble_eq_true rfl, Nat.le_of_ble_eq_true rfl⟩) rfl rfl rfl rfl hl.1 rfl (Nat.le_of_ble_eq_true rfl) dX9_isLetter_10 ⟨Nat.zero_le _, Nat.zero_le _⟩ (fun H locs hP hD hS => ?_)
  have hP : va_P D vwCl [(a_t, .inr (9, [o_t_places, o_t_words, o_t_kind, o_t_worths, o_t_frames, o_t_frame, o_t_pairs, o_t_pair, .int i_t_letters, o_t_standing, o_t_isStanding, o_t_worthOf, o_t_law, o_t_way, o_t_letter, o_t_turn, o_t_isSettled, o_t_had, o_t_logged, o_t_logWho, o_t_logFrom, o_t_logTo, o_t_seed, o_t_text, o_t_texted, o_t_faultPlace, o_t_at0, o_t_said, o_t_wordEnd, o_t_number, o_t_numberAt, o_t_readPlaces, o_t_readWords, o_t_readKind, o_t_readWorth, o_t_readFrames, o_t_readFrame, o_t_readPairs, o_t_readPair, o_t_changes, o_t_change, o_t_queue, o_t_steps, o_t_end, o_t_sent, o_t_firstSent, o_t_wasEnd, o_t_wasSent, o_t_guesses, o_t_guessHouse, o_t_guessWorth, o_t_booked, o_t_book, o_t_images, o_t_isKept]))] H := hP
  have hD : va_D A [(a_t, .inr (9, [o_t_places, o_t_words, o_t_kind, o_t_worths, o_t_frames, o_t_frame, o_t_pairs, o_t_pair, .int i_t_letters, o_t_standing, o_t_isStanding, o_t_worthOf, o_t_law, o_t_way, o_t_letter, o_t_turn, o_t_isSettled, o_t_had, o_t_logged, o_t_logWho, o_t_logFrom, o_t_logTo, o_t_seed, o_t_text, o_t_texted, o_t_faultPlace, o_t_at0, o_t_said, o_t_wordEnd, o_t_number, o_t_numberAt, o_t_readPlaces, o_t_readWords, o_t_readKind, o_t_readWorth, o_t_readFrames, o_t_readFrame, o_t_readPairs, o_t_readPair, o_t_changes, o_t_change, o_t_queue, o_t_steps, o_t_end, o_t_sent, o_t_firstSent, o_t_wasEnd, o_t_wasSent, o_t_guesses, o_t_guessHouse, o_t_guessWorth, o_t_booked, o_t_book, o_t_images, o_t_isKept]))] := hD
  obtain ⟨hg_3, hf⟩ := hb_g hf
  have hf := Option.some.inj hf
  subst hf
  exact hret _ _ _ _ dX9_isLetter_13 (zb_n hg_3) hP hS
abbrev rmX9_isHouse : Room := { frames := 1, cells := 0, slots := 0, locals := 25 }
def f_X9_isHouse (p1 : Int32) : Option (Int32) :=
  (f_X9_in ((p1 : Int32).toInt64) 0 1).bind fun r_1 =>
  if zb r_1 = true then
  some r_1
  else none
set_option maxRecDepth 100000 in
set_option maxHeartbeats 4000000 in
theorem c_X9_isHouse (l : Launch) (D : va_G) (cy : Nat → ClassId) (p1 : Int32) (rv : Int32) (hf : f_X9_isHouse p1 = some rv) : MI l D cy yX9_isHouse wsX9_isHouse rmX9_isHouse [.int p1] [] [] rv := by
  refine st_I (by decide) rfl (Nat.le_of_ble_eq_true rfl) (fun p e s m below meth c A Q ls C0 hA hK hP hD hS hl hret => ?_)
  obtain ⟨hx, hb, hr, hml, hown, hts, hlocks⟩ := id C0
  have hl : lv_has ls 1 [(0, .int p1)] := hl
  unfold f_X9_isHouse at hf
  refine lv_iload_n hx hb dX9_isHouse_0 rfl (lv_at hl 0 rfl) ?_
  refine lv_i2l (v := ((p1 : Int32).toInt64)) hx hb dX9_isHouse_1 rfl ?_
  refine lv_lconst (v := 0) hx hb dX9_isHouse_2 (by decide) ?_
  refine lv_lconst (v := 1) hx hb dX9_isHouse_3 (by decide) ?_
  obtain ⟨r_1, hc_2, hf⟩ := hb_b hf
  refine cl_Si (rest := []) [] C0 hK hP hD hS hA (c_X9_in l D cy ((p1 : Int32).toInt64) 0 1 r_1 hc_2) (va_cwS 3 hts gX9_isHouse_X9_in rfl rfl rfl (by decide +kernel) ⟨Nat.le_of_ble_eq_true rfl, Nat.le_of_ble_eq_true rfl⟩) rfl rfl rfl rfl hl.1 rfl (Nat.le_of_ble_eq_true rfl) dX9_isHouse_4 ⟨Nat.zero_le _, Nat.zero_le _⟩ (fun H locs hP hD hS => ?_)
  have hP : va_P D vwCl [] H := hP
  have hD : va_D A [] := hD
  obtain ⟨hg_3, hf⟩ := hb_g hf
  have hf := Option.some.inj hf
  subst hf
  exact hret _ _ _ _ dX9_isHouse_7 (zb_n hg_3) hP hS
theorem mX9_isWord_109 : Cond.fieldLink RX9 109 "OneWordLettersModel" "words" "I" ∈ wsX9_isWord := by decide +kernel
theorem uX9_isWord_X9 : ∀ w ∈ wsX90, w ∈ wsX9_isWord := fun _ h => List.mem_cons_of_mem _ (List.mem_append_right _ h)
abbrev rmX9_isWord : Room := { frames := 1, cells := 0, slots := 0, locals := 25 }
def f_X9_isWord (i_t_words : Int32) (p1 : Int32) : Option (Int32) :=
  (f_X9_in ((p1 : Int32).toInt64) 0 (((i_t_words - 1) : Int32).toInt64)).bind fun r_1 =>
  if zb r_1 = true then
  some r_1
  else none
set_option maxRecDepth 100000 in
set_option maxHeartbeats 4000000 in
theorem c_X9_isWord (l : Launch) (D : va_G) (cy : Nat → ClassId) (a_t : Nat) (o_t_places : Value) (o_t_kind : Value) (o_t_worths : Value) (o_t_frames : Value) (o_t_frame : Value) (o_t_pairs : Value) (o_t_pair : Value) (o_t_letters : Value) (o_t_standing : Value) (o_t_isStanding : Value) (o_t_worthOf : Value) (o_t_law : Value) (o_t_way : Value) (o_t_letter : Value) (o_t_turn : Value) (o_t_isSettled : Value) (o_t_had : Value) (o_t_logged : Value) (o_t_logWho : Value) (o_t_logFrom : Value) (o_t_logTo : Value) (o_t_seed : Value) (o_t_text : Value) (o_t_texted : Value) (o_t_faultPlace : Value) (o_t_at0 : Value) (o_t_said : Value) (o_t_wordEnd : Value) (o_t_number : Value) (o_t_numberAt : Value) (o_t_readPlaces : Value) (o_t_readWords : Value) (o_t_readKind : Value) (o_t_readWorth : Value) (o_t_readFrames : Value) (o_t_readFrame : Value) (o_t_readPairs : Value) (o_t_readPair : Value) (o_t_changes : Value) (o_t_change : Value) (o_t_queue : Value) (o_t_steps : Value) (o_t_end : Value) (o_t_sent : Value) (o_t_firstSent : Value) (o_t_wasEnd : Value) (o_t_wasSent : Value) (o_t_guesses : Value) (o_t_guessHouse : Value) (o_t_guessWorth : Value) (o_t_booked : Value) (o_t_book : Value) (o_t_images : Value) (o_t_isKept : Value) (i_t_words : Int32) (p1 : Int32) (rv : Int32) (hf : f_X9_isWord i_t_words p1 = some rv) : MI l D cy yX9_isWord wsX9_isWord rmX9_isWord [.ref a_t, .int p1] [(a_t, .inr (9, [o_t_places, .int i_t_words, o_t_kind, o_t_worths, o_t_frames, o_t_frame, o_t_pairs, o_t_pair, o_t_letters, o_t_standing, o_t_isStanding, o_t_worthOf, o_t_law, o_t_way, o_t_letter, o_t_turn, o_t_isSettled, o_t_had, o_t_logged, o_t_logWho, o_t_logFrom, o_t_logTo, o_t_seed, o_t_text, o_t_texted, o_t_faultPlace, o_t_at0, o_t_said, o_t_wordEnd, o_t_number, o_t_numberAt, o_t_readPlaces, o_t_readWords, o_t_readKind, o_t_readWorth, o_t_readFrames, o_t_readFrame, o_t_readPairs, o_t_readPair, o_t_changes, o_t_change, o_t_queue, o_t_steps, o_t_end, o_t_sent, o_t_firstSent, o_t_wasEnd, o_t_wasSent, o_t_guesses, o_t_guessHouse, o_t_guessWorth, o_t_booked, o_t_book, o_t_images, o_t_isKept]))] [(a_t, .inr (9, [o_t_places, .int i_t_words, o_t_kind, o_t_worths, o_t_frames, o_t_frame, o_t_pairs, o_t_pair, o_t_letters, o_t_standing, o_t_isStanding, o_t_worthOf, o_t_law, o_t_way, o_t_letter, o_t_turn, o_t_isSettled, o_t_had, o_t_logged, o_t_logWho, o_t_logFrom, o_t_logTo, o_t_seed, o_t_text, o_t_texted, o_t_faultPlace, o_t_at0, o_t_said, o_t_wordEnd, o_t_number, o_t_numberAt, o_t_readPlaces, o_t_readWords, o_t_readKind, o_t_readWorth, o_t_readFrames, o_t_readFrame, o_t_readPairs, o_t_readPair, o_t_changes, o_t_change, o_t_queue, o_t_steps, o_t_end, o_t_sent, o_t_firstSent, o_t_wasEnd, o_t_wasSent, o_t_guesses, o_t_guessHouse, o_t_guessWorth, o_t_booked, o_t_book, o_t_images, o_t_isKept]))] rv := by
  refine st_I (by decide) rfl (Nat.le_of_ble_eq_true rfl) (fun p e s m below meth c A Q ls C0 hA hK hP hD hS hl hret => ?_)
  obtain ⟨hx, hb, hr, hml, hown, hts, hlocks⟩ := id C0
  have hl : lv_has ls 2 [(0, .ref a_t), (1, .int p1)] := hl
  unfold f_X9_isWord at hf
  refine lv_iload_n hx hb dX9_isWord_0 rfl (lv_at hl 1 rfl) ?_
  refine lv_i2l (v := ((p1 : Int32).toInt64)) hx hb dX9_isWord_1 rfl ?_
  refine lv_lconst (v := 0) hx hb dX9_isWord_2 (by decide) ?_
  refine lv_aload_n hx hb dX9_isWord_3 rfl (lv_at hl 0 rfl) ?_
  refine va_get (D := D) (ci := 9) (v := .int i_t_words) (C := RX9) (T := TX9) (N := 55) hx hb hts uX9_isWord_X9 hown hK.1.1 hP 0 rfl rfl 1 (by decide) (hts _ mX9_isWord_109) (fun _ h9 => h9) rfl dX9_isWord_4 ?_
  refine lv_iconst (v := 1) hx hb dX9_isWord_7 (by decide) ?_
  refine lv_isub hx hb dX9_isWord_8 ?_
  refine lv_i2l (v := (((i_t_words - 1) : Int32).toInt64)) hx hb dX9_isWord_9 rfl ?_
  obtain ⟨r_1, hc_2, hf⟩ := hb_b hf
  refine cl_Si (rest := []) [] C0 hK hP hD hS hA (c_X9_in l D cy ((p1 : Int32).toInt64) 0 (((i_t_words - 1) : Int32).toInt64) r_1 hc_2) (va_cwS 3 hts gX9_isWord_X9_in rfl rfl rfl (by decide +kernel) ⟨Nat.le_of_ble_eq_true rfl, Nat.le_of_ble_eq_true rfl⟩) rfl rfl rfl rfl hl.1 rfl (Nat.le_of_ble_eq_true rfl) dX9_isWord_10 ⟨Nat.zero_le _, Nat.zero_le _⟩ (fun H locs hP hD hS => ?_)
  have hP : va_P D vwCl [(a_t, .inr (9, [o_t_places, .int i_t_words, o_t_kind, o_t_worths, o_t_frames, o_t_frame, o_t_pairs, o_t_pair, o_t_letters, o_t_standing, o_t_isStanding, o_t_worthOf, o_t_law, o_t_way, o_t_letter, o_t_turn, o_t_isSettled, o_t_had, o_t_logged, o_t_logWho, o_t_logFrom, o_t_logTo, o_t_seed, o_t_text, o_t_texted, o_t_faultPlace, o_t_at0, o_t_said, o_t_wordEnd, o_t_number, o_t_numberAt, o_t_readPlaces, o_t_readWords, o_t_readKind, o_t_readWorth, o_t_readFrames, o_t_readFrame, o_t_readPairs, o_t_readPair, o_t_changes, o_t_change, o_t_queue, o_t_steps, o_t_end, o_t_sent, o_t_firstSent, o_t_wasEnd, o_t_wasSent, o_t_guesses, o_t_guessHouse, o_t_guessWorth, o_t_booked, o_t_book, o_t_images, o_t_isKept]))] H := hP
  have hD : va_D A [(a_t, .inr (9, [o_t_places, .int i_t_words, o_t_kind, o_t_worths, o_t_frames, o_t_frame, o_t_pairs, o_t_pair, o_t_letters, o_t_standing, o_t_isStanding, o_t_worthOf, o_t_law, o_t_way, o_t_letter, o_t_turn, o_t_isSettled, o_t_had, o_t_logged, o_t_logWho, o_t_logFrom, o_t_logTo, o_t_seed, o_t_text, o_t_texted, o_t_faultPlace, o_t_at0, o_t_said, o_t_wordEnd, o_t_number, o_t_numberAt, o_t_readPlaces, o_t_readWords, o_t_readKind, o_t_readWorth, o_t_readFrames, o_t_readFrame, o_t_readPairs, o_t_readPair, o_t_changes, o_t_change, o_t_queue, o_t_steps, o_t_end, o_t_sent, o_t_firstSent, o_t_wasEnd, o_t_wasSent, o_t_guesses, o_t_guessHouse, o_t_guessWorth, o_t_booked, o_t_book, o_t_images, o_t_isKept]))] := hD
  obtain ⟨hg_3, hf⟩ := hb_g hf
  have hf := Option.some.inj hf
  subst hf
  exact hret _ _ _ _ dX9_isWord_13 (zb_n hg_3) hP hS
theorem mX9_unit_109 : Cond.fieldLink RX9 109 "OneWordLettersModel" "words" "I" ∈ wsX9_unit := by decide +kernel
theorem uX9_unit_X9 : ∀ w ∈ wsX90, w ∈ wsX9_unit := fun _ h => List.mem_cons_of_mem _ (List.mem_append_right _ h)
abbrev rmX9_unit : Room := { frames := 0, cells := 0, slots := 0, locals := 0 }
def f_X9_unit_L4 (i_t_words : Int32) : Nat → Int32 → Int32 → Int32 → Option (Int32)
  | 0, _, _, _ => none
  | n + 1, v1, v2, v3 =>
    if v1 ≤ v3 then
      some v2
    else
      f_X9_unit_L4 i_t_words n v1 (v2 * i_t_words) (v3 + 1)
set_option maxRecDepth 100000 in
set_option maxHeartbeats 4000000 in
theorem L_X9_unit_4 {p : Program} {e : Env} {s : State} {m : MethodId} {args : Array Value} {below : List Frame} {meth : Method} {c : Code} {Q : State → Prop} {A : Nat → Prop} (l : Launch) (D : va_G) (cy : Nat → ClassId) (a_t : Nat) (o_t_places : Value) (o_t_kind : Value) (o_t_worths : Value) (o_t_frames : Value) (o_t_frame : Value) (o_t_pairs : Value) (o_t_pair : Value) (o_t_letters : Value) (o_t_standing : Value) (o_t_isStanding : Value) (o_t_worthOf : Value) (o_t_law : Value) (o_t_way : Value) (o_t_letter : Value) (o_t_turn : Value) (o_t_isSettled : Value) (o_t_had : Value) (o_t_logged : Value) (o_t_logWho : Value) (o_t_logFrom : Value) (o_t_logTo : Value) (o_t_seed : Value) (o_t_text : Value) (o_t_texted : Value) (o_t_faultPlace : Value) (o_t_at0 : Value) (o_t_said : Value) (o_t_wordEnd : Value) (o_t_number : Value) (o_t_numberAt : Value) (o_t_readPlaces : Value) (o_t_readWords : Value) (o_t_readKind : Value) (o_t_readWorth : Value) (o_t_readFrames : Value) (o_t_readFrame : Value) (o_t_readPairs : Value) (o_t_readPair : Value) (o_t_changes : Value) (o_t_change : Value) (o_t_queue : Value) (o_t_steps : Value) (o_t_end : Value) (o_t_sent : Value) (o_t_firstSent : Value) (o_t_wasEnd : Value) (o_t_wasSent : Value) (o_t_guesses : Value) (o_t_guessHouse : Value) (o_t_guessWorth : Value) (o_t_booked : Value) (o_t_book : Value) (o_t_images : Value) (o_t_isKept : Value) (i_t_words : Int32) (rv : Int32) (C0 : CX p s m args meth c cX9_unit 4 (some .int) wsX9_unit RX9) (hA : ∀ q, s.heap.size ≤ q → A q) (hK : KZ D cy A s) (hret : ∀ (H : Heap) (locs : List Loc) (ls : Array Slot) (pc : Nat), decode cX9_unit pc = .ok (.ireturn, 1) → narrow .int (.int rv) = .int rv → va_P D vwCl [(a_t, .inr (9, [o_t_places, .int i_t_words, o_t_kind, o_t_worths, o_t_frames, o_t_frame, o_t_pairs, o_t_pair, o_t_letters, o_t_standing, o_t_isStanding, o_t_worthOf, o_t_law, o_t_way, o_t_letter, o_t_turn, o_t_isSettled, o_t_had, o_t_logged, o_t_logWho, o_t_logFrom, o_t_logTo, o_t_seed, o_t_text, o_t_texted, o_t_faultPlace, o_t_at0, o_t_said, o_t_wordEnd, o_t_number, o_t_numberAt, o_t_readPlaces, o_t_readWords, o_t_readKind, o_t_readWorth, o_t_readFrames, o_t_readFrame, o_t_readPairs, o_t_readPair, o_t_changes, o_t_change, o_t_queue, o_t_steps, o_t_end, o_t_sent, o_t_firstSent, o_t_wasEnd, o_t_wasSent, o_t_guesses, o_t_guessHouse, o_t_guessWorth, o_t_booked, o_t_book, o_t_images, o_t_isKept]))] H → va_S A s.heap H locs → W p l e rmX9_unit s m args below meth c H locs 0 0 Q (F0 m pc ls [.int rv])) : ∀ (n : Nat) (v1 : Int32) (v2 : Int32) (v3 : Int32), f_X9_unit_L4 i_t_words n v1 v2 v3 = some rv → ∀ (H : Heap) (locs : List Loc), va_P D vwCl [(a_t, .inr (9, [o_t_places, .int i_t_words, o_t_kind, o_t_worths, o_t_frames, o_t_frame, o_t_pairs, o_t_pair, o_t_letters, o_t_standing, o_t_isStanding, o_t_worthOf, o_t_law, o_t_way, o_t_letter, o_t_turn, o_t_isSettled, o_t_had, o_t_logged, o_t_logWho, o_t_logFrom, o_t_logTo, o_t_seed, o_t_text, o_t_texted, o_t_faultPlace, o_t_at0, o_t_said, o_t_wordEnd, o_t_number, o_t_numberAt, o_t_readPlaces, o_t_readWords, o_t_readKind, o_t_readWorth, o_t_readFrames, o_t_readFrame, o_t_readPairs, o_t_readPair, o_t_changes, o_t_change, o_t_queue, o_t_steps, o_t_end, o_t_sent, o_t_firstSent, o_t_wasEnd, o_t_wasSent, o_t_guesses, o_t_guessHouse, o_t_guessWorth, o_t_booked, o_t_book, o_t_images, o_t_isKept]))] H → va_D A [(a_t, .inr (9, [o_t_places, .int i_t_words, o_t_kind, o_t_worths, o_t_frames, o_t_frame, o_t_pairs, o_t_pair, o_t_letters, o_t_standing, o_t_isStanding, o_t_worthOf, o_t_law, o_t_way, o_t_letter, o_t_turn, o_t_isSettled, o_t_had, o_t_logged, o_t_logWho, o_t_logFrom, o_t_logTo, o_t_seed, o_t_text, o_t_texted, o_t_faultPlace, o_t_at0, o_t_said, o_t_wordEnd, o_t_number, o_t_numberAt, o_t_readPlaces, o_t_readWords, o_t_readKind, o_t_readWorth, o_t_readFrames, o_t_readFrame, o_t_readPairs, o_t_readPair, o_t_changes, o_t_change, o_t_queue, o_t_steps, o_t_end, o_t_sent, o_t_firstSent, o_t_wasEnd, o_t_wasSent, o_t_guesses, o_t_guessHouse, o_t_guessWorth, o_t_booked, o_t_book, o_t_images, o_t_isKept]))] → va_S A s.heap H locs → ∀ ls : Array Slot, lv_has ls 4 [(0, .ref a_t), (1, .int v1), (2, .int v2), (3, .int v3)] → W p l e rmX9_unit s m args below meth c H locs 0 0 Q (F0 m 4 ls []) := by
  obtain ⟨hx, hb, hr, hml, hown, hts, hlocks⟩ := id C0
  intro n
  induction n with
  | zero => intro _ _ _ hf; rw [f_X9_unit_L4.eq_1] at hf; cases hf
  | succ n ih =>
    intro v1 v2 v3 hf H locs hP hD hS ls hl
    rw [f_X9_unit_L4.eq_2] at hf
    refine lv_iload_n hx hb dX9_unit_4 rfl (lv_at hl 3 rfl) ?_
    refine lv_iload_n hx hb dX9_unit_5 rfl (lv_at hl 1 rfl) ?_
    refine lv_icmp_ge (tgt := 22) hx hb dX9_unit_6 (by decide) (fun c_1 => ?_) (fun c_1 => ?_)
    · have hf := hb_t hf c_1
      refine lv_iload_n hx hb dX9_unit_22 rfl (lv_at hl 2 rfl) ?_
      have hf := Option.some.inj hf
      subst hf
      exact hret _ _ _ _ dX9_unit_23 rfl hP hS
    · have hf := hb_f hf c_1
      refine lv_iload_n hx hb dX9_unit_9 rfl (lv_at hl 2 rfl) ?_
      refine lv_aload_n hx hb dX9_unit_10 rfl (lv_at hl 0 rfl) ?_
      refine va_get (D := D) (ci := 9) (v := .int i_t_words) (C := RX9) (T := TX9) (N := 55) hx hb hts uX9_unit_X9 hown hK.1.1 hP 0 rfl rfl 1 (by decide) (hts _ mX9_unit_109) (fun _ h9 => h9) rfl dX9_unit_11 ?_
      refine lv_imul hx hb dX9_unit_14 ?_
      refine lv_istore_n (lv' := [(2, .int (v2 * i_t_words)), (0, .ref a_t), (1, .int v1), (3, .int v3)]) hx hb dX9_unit_15 rfl hl (by decide) rfl (fun ls hl => ?_)
      refine lv_iinc (v := (v3 + 1)) (lv' := [(3, .int (v3 + 1)), (2, .int (v2 * i_t_words)), (0, .ref a_t), (1, .int v1)]) hx hb dX9_unit_16 hl (k := 3) rfl rfl (by decide) rfl (fun ls hl => ?_)
      refine lv_goto (tgt := 4) hx hb dX9_unit_19 (by decide) ?_
      exact ih v1 (v2 * i_t_words) (v3 + 1) hf _ _ hP hD hS _ (lv_sub hl [2, 3, 1, 0] rfl)
def f_X9_unit (i_t_words : Int32) (p1 : Int32) : Option (Int32) :=
  f_X9_unit_L4 i_t_words FU p1 1 0
set_option maxRecDepth 100000 in
set_option maxHeartbeats 4000000 in
theorem c_X9_unit (l : Launch) (D : va_G) (cy : Nat → ClassId) (a_t : Nat) (o_t_places : Value) (o_t_kind : Value) (o_t_worths : Value) (o_t_frames : Value) (o_t_frame : Value) (o_t_pairs : Value) (o_t_pair : Value) (o_t_letters : Value) (o_t_standing : Value) (o_t_isStanding : Value) (o_t_worthOf : Value) (o_t_law : Value) (o_t_way : Value) (o_t_letter : Value) (o_t_turn : Value) (o_t_isSettled : Value) (o_t_had : Value) (o_t_logged : Value) (o_t_logWho : Value) (o_t_logFrom : Value) (o_t_logTo : Value) (o_t_seed : Value) (o_t_text : Value) (o_t_texted : Value) (o_t_faultPlace : Value) (o_t_at0 : Value) (o_t_said : Value) (o_t_wordEnd : Value) (o_t_number : Value) (o_t_numberAt : Value) (o_t_readPlaces : Value) (o_t_readWords : Value) (o_t_readKind : Value) (o_t_readWorth : Value) (o_t_readFrames : Value) (o_t_readFrame : Value) (o_t_readPairs : Value) (o_t_readPair : Value) (o_t_changes : Value) (o_t_change : Value) (o_t_queue : Value) (o_t_steps : Value) (o_t_end : Value) (o_t_sent : Value) (o_t_firstSent : Value) (o_t_wasEnd : Value) (o_t_wasSent : Value) (o_t_guesses : Value) (o_t_guessHouse : Value) (o_t_guessWorth : Value) (o_t_booked : Value) (o_t_book : Value) (o_t_images : Value) (o_t_isKept : Value) (i_t_words : Int32) (p1 : Int32) (rv : Int32) (hf : f_X9_unit i_t_words p1 = some rv) : MI l D cy yX9_unit wsX9_unit rmX9_unit [.ref a_t, .int p1] [(a_t, .inr (9, [o_t_places, .int i_t_words, o_t_kind, o_t_worths, o_t_frames, o_t_frame, o_t_pairs, o_t_pair, o_t_letters, o_t_standing, o_t_isStanding, o_t_worthOf, o_t_law, o_t_way, o_t_letter, o_t_turn, o_t_isSettled, o_t_had, o_t_logged, o_t_logWho, o_t_logFrom, o_t_logTo, o_t_seed, o_t_text, o_t_texted, o_t_faultPlace, o_t_at0, o_t_said, o_t_wordEnd, o_t_number, o_t_numberAt, o_t_readPlaces, o_t_readWords, o_t_readKind, o_t_readWorth, o_t_readFrames, o_t_readFrame, o_t_readPairs, o_t_readPair, o_t_changes, o_t_change, o_t_queue, o_t_steps, o_t_end, o_t_sent, o_t_firstSent, o_t_wasEnd, o_t_wasSent, o_t_guesses, o_t_guessHouse, o_t_guessWorth, o_t_booked, o_t_book, o_t_images, o_t_isKept]))] [(a_t, .inr (9, [o_t_places, .int i_t_words, o_t_kind, o_t_worths, o_t_frames, o_t_frame, o_t_pairs, o_t_pair, o_t_letters, o_t_standing, o_t_isStanding, o_t_worthOf, o_t_law, o_t_way, o_t_letter, o_t_turn, o_t_isSettled, o_t_had, o_t_logged, o_t_logWho, o_t_logFrom, o_t_logTo, o_t_seed, o_t_text, o_t_texted, o_t_faultPlace, o_t_at0, o_t_said, o_t_wordEnd, o_t_number, o_t_numberAt, o_t_readPlaces, o_t_readWords, o_t_readKind, o_t_readWorth, o_t_readFrames, o_t_readFrame, o_t_readPairs, o_t_readPair, o_t_changes, o_t_change, o_t_queue, o_t_steps, o_t_end, o_t_sent, o_t_firstSent, o_t_wasEnd, o_t_wasSent, o_t_guesses, o_t_guessHouse, o_t_guessWorth, o_t_booked, o_t_book, o_t_images, o_t_isKept]))] rv := by
  refine st_I (by decide) rfl (Nat.le_of_ble_eq_true rfl) (fun p e s m below meth c A Q ls C0 hA hK hP hD hS hl hret => ?_)
  obtain ⟨hx, hb, hr, hml, hown, hts, hlocks⟩ := id C0
  have hl : lv_has ls 4 [(0, .ref a_t), (1, .int p1)] := hl
  unfold f_X9_unit at hf
  refine lv_iconst (v := 1) hx hb dX9_unit_0 (by decide) ?_
  refine lv_istore_n (lv' := [(2, .int 1), (0, .ref a_t), (1, .int p1)]) hx hb dX9_unit_1 rfl hl (by decide) rfl (fun ls hl => ?_)
  refine lv_iconst (v := 0) hx hb dX9_unit_2 (by decide) ?_
  refine lv_istore_n (lv' := [(3, .int 0), (2, .int 1), (0, .ref a_t), (1, .int p1)]) hx hb dX9_unit_3 rfl hl (by decide) rfl (fun ls hl => ?_)
  refine L_X9_unit_4 l D cy a_t o_t_places o_t_kind o_t_worths o_t_frames o_t_frame o_t_pairs o_t_pair o_t_letters o_t_standing o_t_isStanding o_t_worthOf o_t_law o_t_way o_t_letter o_t_turn o_t_isSettled o_t_had o_t_logged o_t_logWho o_t_logFrom o_t_logTo o_t_seed o_t_text o_t_texted o_t_faultPlace o_t_at0 o_t_said o_t_wordEnd o_t_number o_t_numberAt o_t_readPlaces o_t_readWords o_t_readKind o_t_readWorth o_t_readFrames o_t_readFrame o_t_readPairs o_t_readPair o_t_changes o_t_change o_t_queue o_t_steps o_t_end o_t_sent o_t_firstSent o_t_wasEnd o_t_wasSent o_t_guesses o_t_guessHouse o_t_guessWorth o_t_booked o_t_book o_t_images o_t_isKept i_t_words rv C0 hA hK hret  FU p1 1 0 hf _ _ hP hD hS _ (lv_sub hl [2, 3, 1, 0] rfl)
theorem mX9_wordAt_109 : Cond.fieldLink RX9 109 "OneWordLettersModel" "words" "I" ∈ wsX9_wordAt := by decide +kernel
theorem uX9_wordAt_X9 : ∀ w ∈ wsX90, w ∈ wsX9_wordAt := fun _ h => List.mem_cons_of_mem _ (List.mem_append_right _ h)
abbrev rmX9_wordAt : Room := { frames := 1, cells := 0, slots := 0, locals := 23 }
def f_X9_wordAt (i_t_words : Int32) (p1 : Int32) (p2 : Int32) : Option (Int32) :=
  (f_X9_unit i_t_words p2).bind fun r_1 =>
  if ¬ r_1 = 0 then
  if ¬ i_t_words = 0 then
  some ((p1 / r_1) - (p1 / r_1) / i_t_words * i_t_words)
  else none
  else none
set_option maxRecDepth 100000 in
set_option maxHeartbeats 4000000 in
theorem c_X9_wordAt (l : Launch) (D : va_G) (cy : Nat → ClassId) (a_t : Nat) (o_t_places : Value) (o_t_kind : Value) (o_t_worths : Value) (o_t_frames : Value) (o_t_frame : Value) (o_t_pairs : Value) (o_t_pair : Value) (o_t_letters : Value) (o_t_standing : Value) (o_t_isStanding : Value) (o_t_worthOf : Value) (o_t_law : Value) (o_t_way : Value) (o_t_letter : Value) (o_t_turn : Value) (o_t_isSettled : Value) (o_t_had : Value) (o_t_logged : Value) (o_t_logWho : Value) (o_t_logFrom : Value) (o_t_logTo : Value) (o_t_seed : Value) (o_t_text : Value) (o_t_texted : Value) (o_t_faultPlace : Value) (o_t_at0 : Value) (o_t_said : Value) (o_t_wordEnd : Value) (o_t_number : Value) (o_t_numberAt : Value) (o_t_readPlaces : Value) (o_t_readWords : Value) (o_t_readKind : Value) (o_t_readWorth : Value) (o_t_readFrames : Value) (o_t_readFrame : Value) (o_t_readPairs : Value) (o_t_readPair : Value) (o_t_changes : Value) (o_t_change : Value) (o_t_queue : Value) (o_t_steps : Value) (o_t_end : Value) (o_t_sent : Value) (o_t_firstSent : Value) (o_t_wasEnd : Value) (o_t_wasSent : Value) (o_t_guesses : Value) (o_t_guessHouse : Value) (o_t_guessWorth : Value) (o_t_booked : Value) (o_t_book : Value) (o_t_images : Value) (o_t_isKept : Value) (i_t_words : Int32) (p1 : Int32) (p2 : Int32) (rv : Int32) (hf : f_X9_wordAt i_t_words p1 p2 = some rv) : MI l D cy yX9_wordAt wsX9_wordAt rmX9_wordAt [.ref a_t, .int p1, .int p2] [(a_t, .inr (9, [o_t_places, .int i_t_words, o_t_kind, o_t_worths, o_t_frames, o_t_frame, o_t_pairs, o_t_pair, o_t_letters, o_t_standing, o_t_isStanding, o_t_worthOf, o_t_law, o_t_way, o_t_letter, o_t_turn, o_t_isSettled, o_t_had, o_t_logged, o_t_logWho, o_t_logFrom, o_t_logTo, o_t_seed, o_t_text, o_t_texted, o_t_faultPlace, o_t_at0, o_t_said, o_t_wordEnd, o_t_number, o_t_numberAt, o_t_readPlaces, o_t_readWords, o_t_readKind, o_t_readWorth, o_t_readFrames, o_t_readFrame, o_t_readPairs, o_t_readPair, o_t_changes, o_t_change, o_t_queue, o_t_steps, o_t_end, o_t_sent, o_t_firstSent, o_t_wasEnd, o_t_wasSent, o_t_guesses, o_t_guessHouse, o_t_guessWorth, o_t_booked, o_t_book, o_t_images, o_t_isKept]))] [(a_t, .inr (9, [o_t_places, .int i_t_words, o_t_kind, o_t_worths, o_t_frames, o_t_frame, o_t_pairs, o_t_pair, o_t_letters, o_t_standing, o_t_isStanding, o_t_worthOf, o_t_law, o_t_way, o_t_letter, o_t_turn, o_t_isSettled, o_t_had, o_t_logged, o_t_logWho, o_t_logFrom, o_t_logTo, o_t_seed, o_t_text, o_t_texted, o_t_faultPlace, o_t_at0, o_t_said, o_t_wordEnd, o_t_number, o_t_numberAt, o_t_readPlaces, o_t_readWords, o_t_readKind, o_t_readWorth, o_t_readFrames, o_t_readFrame, o_t_readPairs, o_t_readPair, o_t_changes, o_t_change, o_t_queue, o_t_steps, o_t_end, o_t_sent, o_t_firstSent, o_t_wasEnd, o_t_wasSent, o_t_guesses, o_t_guessHouse, o_t_guessWorth, o_t_booked, o_t_book, o_t_images, o_t_isKept]))] rv := by
  refine st_I (by decide) rfl (Nat.le_of_ble_eq_true rfl) (fun p e s m below meth c A Q ls C0 hA hK hP hD hS hl hret => ?_)
  obtain ⟨hx, hb, hr, hml, hown, hts, hlocks⟩ := id C0
  have hl : lv_has ls 3 [(0, .ref a_t), (1, .int p1), (2, .int p2)] := hl
  unfold f_X9_wordAt at hf
  refine lv_iload_n hx hb dX9_wordAt_0 rfl (lv_at hl 1 rfl) ?_
  refine lv_aload_n hx hb dX9_wordAt_1 rfl (lv_at hl 0 rfl) ?_
  refine lv_iload_n hx hb dX9_wordAt_2 rfl (lv_at hl 2 rfl) ?_
  obtain ⟨r_1, hc_2, hf⟩ := hb_b hf
  refine cl_Vi (rest := [.int p1]) [0] 0 C0 hK hP hD hS hA (c_X9_unit l D cy a_t o_t_places o_t_kind o_t_worths o_t_frames o_t_frame o_t_pairs o_t_pair o_t_letters o_t_standing o_t_isStanding o_t_worthOf o_t_law o_t_way o_t_letter o_t_turn o_t_isSettled o_t_had o_t_logged o_t_logWho o_t_logFrom o_t_logTo o_t_seed o_t_text o_t_texted o_t_faultPlace o_t_at0 o_t_said o_t_wordEnd o_t_number o_t_numberAt o_t_readPlaces o_t_readWords o_t_readKind o_t_readWorth o_t_readFrames o_t_readFrame o_t_readPairs o_t_readPair o_t_changes o_t_change o_t_queue o_t_steps o_t_end o_t_sent o_t_firstSent o_t_wasEnd o_t_wasSent o_t_guesses o_t_guessHouse o_t_guessWorth o_t_booked o_t_book o_t_images o_t_isKept i_t_words p2 r_1 hc_2) (cwV 1 hts gX9_wordAt_X9_unit rfl rfl rfl (by decide +kernel) ⟨Nat.le_of_ble_eq_true rfl, Nat.le_of_ble_eq_true rfl⟩) rfl rfl rfl rfl rfl rfl rfl hl.1 rfl (Nat.le_of_ble_eq_true rfl) dX9_wordAt_3 ⟨Nat.zero_le _, Nat.zero_le _⟩ (fun H locs hP hD hS => ?_)
  have hP : va_P D vwCl [(a_t, .inr (9, [o_t_places, .int i_t_words, o_t_kind, o_t_worths, o_t_frames, o_t_frame, o_t_pairs, o_t_pair, o_t_letters, o_t_standing, o_t_isStanding, o_t_worthOf, o_t_law, o_t_way, o_t_letter, o_t_turn, o_t_isSettled, o_t_had, o_t_logged, o_t_logWho, o_t_logFrom, o_t_logTo, o_t_seed, o_t_text, o_t_texted, o_t_faultPlace, o_t_at0, o_t_said, o_t_wordEnd, o_t_number, o_t_numberAt, o_t_readPlaces, o_t_readWords, o_t_readKind, o_t_readWorth, o_t_readFrames, o_t_readFrame, o_t_readPairs, o_t_readPair, o_t_changes, o_t_change, o_t_queue, o_t_steps, o_t_end, o_t_sent, o_t_firstSent, o_t_wasEnd, o_t_wasSent, o_t_guesses, o_t_guessHouse, o_t_guessWorth, o_t_booked, o_t_book, o_t_images, o_t_isKept]))] H := hP
  have hD : va_D A [(a_t, .inr (9, [o_t_places, .int i_t_words, o_t_kind, o_t_worths, o_t_frames, o_t_frame, o_t_pairs, o_t_pair, o_t_letters, o_t_standing, o_t_isStanding, o_t_worthOf, o_t_law, o_t_way, o_t_letter, o_t_turn, o_t_isSettled, o_t_had, o_t_logged, o_t_logWho, o_t_logFrom, o_t_logTo, o_t_seed, o_t_text, o_t_texted, o_t_faultPlace, o_t_at0, o_t_said, o_t_wordEnd, o_t_number, o_t_numberAt, o_t_readPlaces, o_t_readWords, o_t_readKind, o_t_readWorth, o_t_readFrames, o_t_readFrame, o_t_readPairs, o_t_readPair, o_t_changes, o_t_change, o_t_queue, o_t_steps, o_t_end, o_t_sent, o_t_firstSent, o_t_wasEnd, o_t_wasSent, o_t_guesses, o_t_guessHouse, o_t_guessWorth, o_t_booked, o_t_book, o_t_images, o_t_isKept]))] := hD
  obtain ⟨hg_3, hf⟩ := hb_g hf
  refine lv_idiv hx hb dX9_wordAt_6 hg_3 ?_
  refine lv_aload_n hx hb dX9_wordAt_7 rfl (lv_at hl 0 rfl) ?_
  refine va_get (D := D) (ci := 9) (v := .int i_t_words) (C := RX9) (T := TX9) (N := 55) hx hb hts uX9_wordAt_X9 hown hK.1.1 hP 0 rfl rfl 1 (by decide) (hts _ mX9_wordAt_109) (fun _ h9 => h9) rfl dX9_wordAt_8 ?_
  obtain ⟨hg_4, hf⟩ := hb_g hf
  refine lv_irem hx hb dX9_wordAt_11 hg_4 ?_
  have hf := Option.some.inj hf
  subst hf
  exact hret _ _ _ _ dX9_wordAt_12 rfl hP hS
theorem mX9_feed_116 : Cond.constantLong RX9 116 (8) ∈ wsX9_feed := by decide +kernel
theorem mX9_feed_119 : Cond.fieldLink RX9 119 "OneWordLettersModel" "texted" "I" ∈ wsX9_feed := by decide +kernel
theorem uX9_feed_X9 : ∀ w ∈ wsX90, w ∈ wsX9_feed := fun _ h => List.mem_cons_of_mem _ (List.mem_append_right _ h)
theorem mX9_feed_41 : Cond.fieldLink RX9 41 "OneWordLettersModel" "text" "[I" ∈ wsX9_feed := by decide +kernel
theorem mX9_feed_123 : Cond.constantLong RX9 123 (255) ∈ wsX9_feed := by decide +kernel
theorem mX9_feed_122 : Cond.constant RX9 122 (-1000000004) ∈ wsX9_feed := by decide +kernel
theorem mX9_feed_118 : Cond.constant RX9 118 (-1000000002) ∈ wsX9_feed := by decide +kernel
abbrev rmX9_feed : Room := { frames := 1, cells := 0, slots := 0, locals := 25 }
def f_X9_feed_L35 : Nat → Int64 → Int32 → Int32 → (Nat → Int32) → Option (Int32 × Int32 × (Nat → Int32))
  | 0, _, _, _, _ => none
  | n + 1, v2, v4, i_t_texted, f_t_text =>
    if v4 < 0 then
      some (i_t_texted, i_t_texted, f_t_text)
    else
      if ixb i_t_texted 500 = true then
      f_X9_feed_L35 n v2 (v4 + (-1)) (i_t_texted + 1) (upd f_t_text (i_t_texted : Int32).toNatClampNeg ((((v2 >>> (((8 * v4) : Int32).toInt64 &&& 63)) &&& 255) : Int64).toInt32))
      else none
set_option maxRecDepth 100000 in
set_option maxHeartbeats 4000000 in
theorem L_X9_feed_35 {p : Program} {e : Env} {s : State} {m : MethodId} {args : Array Value} {below : List Frame} {meth : Method} {c : Code} {Q : State → Prop} {A : Nat → Prop} (l : Launch) (D : va_G) (cy : Nat → ClassId) (a_t : Nat) (a_t_text : Nat) (o_t_places : Value) (o_t_words : Value) (o_t_kind : Value) (o_t_worths : Value) (o_t_frames : Value) (o_t_frame : Value) (o_t_pairs : Value) (o_t_pair : Value) (o_t_letters : Value) (o_t_standing : Value) (o_t_isStanding : Value) (o_t_worthOf : Value) (o_t_law : Value) (o_t_way : Value) (o_t_letter : Value) (o_t_turn : Value) (o_t_isSettled : Value) (o_t_had : Value) (o_t_logged : Value) (o_t_logWho : Value) (o_t_logFrom : Value) (o_t_logTo : Value) (o_t_seed : Value) (o_t_faultPlace : Value) (o_t_at0 : Value) (o_t_said : Value) (o_t_wordEnd : Value) (o_t_number : Value) (o_t_numberAt : Value) (o_t_readPlaces : Value) (o_t_readWords : Value) (o_t_readKind : Value) (o_t_readWorth : Value) (o_t_readFrames : Value) (o_t_readFrame : Value) (o_t_readPairs : Value) (o_t_readPair : Value) (o_t_changes : Value) (o_t_change : Value) (o_t_queue : Value) (o_t_steps : Value) (o_t_end : Value) (o_t_sent : Value) (o_t_firstSent : Value) (o_t_wasEnd : Value) (o_t_wasSent : Value) (o_t_guesses : Value) (o_t_guessHouse : Value) (o_t_guessWorth : Value) (o_t_booked : Value) (o_t_book : Value) (o_t_images : Value) (o_t_isKept : Value) (rv : Int32) (z_i_t_texted : Int32) (z_f_t_text : Nat → Int32) (C0 : CX p s m args meth c cX9_feed 5 (some .int) wsX9_feed RX9) (hA : ∀ q, s.heap.size ≤ q → A q) (hK : KZ D cy A s) (hret : ∀ (H : Heap) (locs : List Loc) (ls : Array Slot) (pc : Nat), decode cX9_feed pc = .ok (.ireturn, 1) → narrow .int (.int rv) = .int rv → va_P D vwCl [(a_t, .inr (9, [o_t_places, o_t_words, o_t_kind, o_t_worths, o_t_frames, o_t_frame, o_t_pairs, o_t_pair, o_t_letters, o_t_standing, o_t_isStanding, o_t_worthOf, o_t_law, o_t_way, o_t_letter, o_t_turn, o_t_isSettled, o_t_had, o_t_logged, o_t_logWho, o_t_logFrom, o_t_logTo, o_t_seed, .ref a_t_text, .int z_i_t_texted, o_t_faultPlace, o_t_at0, o_t_said, o_t_wordEnd, o_t_number, o_t_numberAt, o_t_readPlaces, o_t_readWords, o_t_readKind, o_t_readWorth, o_t_readFrames, o_t_readFrame, o_t_readPairs, o_t_readPair, o_t_changes, o_t_change, o_t_queue, o_t_steps, o_t_end, o_t_sent, o_t_firstSent, o_t_wasEnd, o_t_wasSent, o_t_guesses, o_t_guessHouse, o_t_guessWorth, o_t_booked, o_t_book, o_t_images, o_t_isKept])), (a_t_text, .inl (cy 0, 500, .inl z_f_t_text))] H → va_S A s.heap H locs → W p l e rmX9_feed s m args below meth c H locs 0 0 Q (F0 m pc ls [.int rv])) : ∀ (n : Nat) (v2 : Int64) (v4 : Int32) (i_t_texted : Int32) (f_t_text : Nat → Int32), f_X9_feed_L35 n v2 v4 i_t_texted f_t_text = some (rv, z_i_t_texted, z_f_t_text) → ∀ (H : Heap) (locs : List Loc), va_P D vwCl [(a_t, .inr (9, [o_t_places, o_t_words, o_t_kind, o_t_worths, o_t_frames, o_t_frame, o_t_pairs, o_t_pair, o_t_letters, o_t_standing, o_t_isStanding, o_t_worthOf, o_t_law, o_t_way, o_t_letter, o_t_turn, o_t_isSettled, o_t_had, o_t_logged, o_t_logWho, o_t_logFrom, o_t_logTo, o_t_seed, .ref a_t_text, .int i_t_texted, o_t_faultPlace, o_t_at0, o_t_said, o_t_wordEnd, o_t_number, o_t_numberAt, o_t_readPlaces, o_t_readWords, o_t_readKind, o_t_readWorth, o_t_readFrames, o_t_readFrame, o_t_readPairs, o_t_readPair, o_t_changes, o_t_change, o_t_queue, o_t_steps, o_t_end, o_t_sent, o_t_firstSent, o_t_wasEnd, o_t_wasSent, o_t_guesses, o_t_guessHouse, o_t_guessWorth, o_t_booked, o_t_book, o_t_images, o_t_isKept])), (a_t_text, .inl (cy 0, 500, .inl f_t_text))] H → va_D A [(a_t, .inr (9, [o_t_places, o_t_words, o_t_kind, o_t_worths, o_t_frames, o_t_frame, o_t_pairs, o_t_pair, o_t_letters, o_t_standing, o_t_isStanding, o_t_worthOf, o_t_law, o_t_way, o_t_letter, o_t_turn, o_t_isSettled, o_t_had, o_t_logged, o_t_logWho, o_t_logFrom, o_t_logTo, o_t_seed, .ref a_t_text, .int i_t_texted, o_t_faultPlace, o_t_at0, o_t_said, o_t_wordEnd, o_t_number, o_t_numberAt, o_t_readPlaces, o_t_readWords, o_t_readKind, o_t_readWorth, o_t_readFrames, o_t_readFrame, o_t_readPairs, o_t_readPair, o_t_changes, o_t_change, o_t_queue, o_t_steps, o_t_end, o_t_sent, o_t_firstSent, o_t_wasEnd, o_t_wasSent, o_t_guesses, o_t_guessHouse, o_t_guessWorth, o_t_booked, o_t_book, o_t_images, o_t_isKept])), (a_t_text, .inl (cy 0, 500, .inl f_t_text))] → va_S A s.heap H locs → ∀ ls : Array Slot, lv_has ls 5 [(0, .ref a_t), (2, .long v2), (4, .int v4)] → W p l e rmX9_feed s m args below meth c H locs 0 0 Q (F0 m 35 ls []) := by
  obtain ⟨hx, hb, hr, hml, hown, hts, hlocks⟩ := id C0
  intro n
  induction n with
  | zero => intro _ _ _ _ hf; rw [f_X9_feed_L35.eq_1] at hf; cases hf
  | succ n ih =>
    intro v2 v4 i_t_texted f_t_text hf H locs hP hD hS ls hl
    rw [f_X9_feed_L35.eq_2] at hf
    refine lv_iload hx hb dX9_feed_35 (lv_at hl 2 rfl) ?_
    refine lv_if_lt (tgt := 77) hx hb dX9_feed_37 (by decide) (fun c_5 => ?_) (fun c_5 => ?_)
    · have hf := hb_t hf c_5
      refine lv_aload_n hx hb dX9_feed_77 rfl (lv_at hl 0 rfl) ?_
      refine va_get (D := D) (ci := 9) (v := .int i_t_texted) (C := RX9) (T := TX9) (N := 55) hx hb hts uX9_feed_X9 hown hK.1.1 hP 0 rfl rfl 24 (by decide) (hts _ mX9_feed_119) (fun _ h9 => h9) rfl dX9_feed_78 ?_
      obtain ⟨e_0, e_1, e_2⟩ := tu3 hf
      subst e_0; subst e_1; subst e_2
      exact hret _ _ _ _ dX9_feed_81 rfl hP hS
    · have hf := hb_f hf c_5
      refine lv_aload_n hx hb dX9_feed_40 rfl (lv_at hl 0 rfl) ?_
      refine va_get (D := D) (ci := 9) (v := .ref a_t_text) (C := RX9) (T := TX9) (N := 55) hx hb hts uX9_feed_X9 hown hK.1.1 hP 0 rfl rfl 23 (by decide) (hts _ mX9_feed_41) (fun _ h9 => h9) rfl dX9_feed_41 ?_
      refine lv_aload_n hx hb dX9_feed_44 rfl (lv_at hl 0 rfl) ?_
      refine va_get (D := D) (ci := 9) (v := .int i_t_texted) (C := RX9) (T := TX9) (N := 55) hx hb hts uX9_feed_X9 hown hK.1.1 hP 0 rfl rfl 24 (by decide) (hts _ mX9_feed_119) (fun _ h9 => h9) rfl dX9_feed_45 ?_
      refine lv_lload_n hx hb dX9_feed_48 rfl (lv_at hl 1 rfl) ?_
      refine lv_bipush (v := 8) hx hb dX9_feed_49 (by decide) ?_
      refine lv_iload hx hb dX9_feed_51 (lv_at hl 2 rfl) ?_
      refine lv_imul hx hb dX9_feed_53 ?_
      refine lv_lshr (v := (v2 >>> (((8 * v4) : Int32).toInt64 &&& 63))) hx hb dX9_feed_54 rfl ?_
      refine lv_ldc2 (v := 255) hx hb hown (hts _ mX9_feed_123) dX9_feed_55 ?_
      refine lv_land hx hb dX9_feed_58 ?_
      refine lv_l2i (v := ((((v2 >>> (((8 * v4) : Int32).toInt64 &&& 63)) &&& 255) : Int64).toInt32)) hx hb dX9_feed_59 rfl ?_
      obtain ⟨hg_6, hf⟩ := hb_g hf
      refine va_iast hx hb hK.1.1 hP hD hS 1 0 rfl rfl (ixb_in hg_6) dX9_feed_60 (fun H locs hP hD hS => ?_)
      have hP : va_P D vwCl [(a_t, .inr (9, [o_t_places, o_t_words, o_t_kind, o_t_worths, o_t_frames, o_t_frame, o_t_pairs, o_t_pair, o_t_letters, o_t_standing, o_t_isStanding, o_t_worthOf, o_t_law, o_t_way, o_t_letter, o_t_turn, o_t_isSettled, o_t_had, o_t_logged, o_t_logWho, o_t_logFrom, o_t_logTo, o_t_seed, .ref a_t_text, .int i_t_texted, o_t_faultPlace, o_t_at0, o_t_said, o_t_wordEnd, o_t_number, o_t_numberAt, o_t_readPlaces, o_t_readWords, o_t_readKind, o_t_readWorth, o_t_readFrames, o_t_readFrame, o_t_readPairs, o_t_readPair, o_t_changes, o_t_change, o_t_queue, o_t_steps, o_t_end, o_t_sent, o_t_firstSent, o_t_wasEnd, o_t_wasSent, o_t_guesses, o_t_guessHouse, o_t_guessWorth, o_t_booked, o_t_book, o_t_images, o_t_isKept])), (a_t_text, .inl (cy 0, 500, .inl (upd f_t_text (i_t_texted : Int32).toNatClampNeg ((((v2 >>> (((8 * v4) : Int32).toInt64 &&& 63)) &&& 255) : Int64).toInt32))))] H := hP
      have hD : va_D A [(a_t, .inr (9, [o_t_places, o_t_words, o_t_kind, o_t_worths, o_t_frames, o_t_frame, o_t_pairs, o_t_pair, o_t_letters, o_t_standing, o_t_isStanding, o_t_worthOf, o_t_law, o_t_way, o_t_letter, o_t_turn, o_t_isSettled, o_t_had, o_t_logged, o_t_logWho, o_t_logFrom, o_t_logTo, o_t_seed, .ref a_t_text, .int i_t_texted, o_t_faultPlace, o_t_at0, o_t_said, o_t_wordEnd, o_t_number, o_t_numberAt, o_t_readPlaces, o_t_readWords, o_t_readKind, o_t_readWorth, o_t_readFrames, o_t_readFrame, o_t_readPairs, o_t_readPair, o_t_changes, o_t_change, o_t_queue, o_t_steps, o_t_end, o_t_sent, o_t_firstSent, o_t_wasEnd, o_t_wasSent, o_t_guesses, o_t_guessHouse, o_t_guessWorth, o_t_booked, o_t_book, o_t_images, o_t_isKept])), (a_t_text, .inl (cy 0, 500, .inl (upd f_t_text (i_t_texted : Int32).toNatClampNeg ((((v2 >>> (((8 * v4) : Int32).toInt64 &&& 63)) &&& 255) : Int64).toInt32))))] := hD
      refine lv_aload_n hx hb dX9_feed_61 rfl (lv_at hl 0 rfl) ?_
      refine lv_dup hx hb dX9_feed_62 rfl ?_
      refine va_get (D := D) (ci := 9) (v := .int i_t_texted) (C := RX9) (T := TX9) (N := 55) hx hb hts uX9_feed_X9 hown hK.1.1 hP 0 rfl rfl 24 (by decide) (hts _ mX9_feed_119) (fun _ h9 => h9) rfl dX9_feed_63 ?_
      refine lv_iconst (v := 1) hx hb dX9_feed_66 (by decide) ?_
      refine lv_iadd hx hb dX9_feed_67 ?_
      refine va_put (D := D) (ci := 9) (v := .int (i_t_texted + 1)) (ty := .int) (C := RX9) (T := TX9) (N := 55) hx hb hts uX9_feed_X9 tyX9 tyX9_ok nmX9 hown hK.1.1 hP hD hS 0 rfl rfl 24 (by decide) (hts _ mX9_feed_119) (fun _ h9 => h9) rfl (by decide +kernel) rfl rfl (Nat.le_of_ble_eq_true rfl) dX9_feed_68 (fun H locs hP hD hS => ?_)
      have hP : va_P D vwCl [(a_t, .inr (9, [o_t_places, o_t_words, o_t_kind, o_t_worths, o_t_frames, o_t_frame, o_t_pairs, o_t_pair, o_t_letters, o_t_standing, o_t_isStanding, o_t_worthOf, o_t_law, o_t_way, o_t_letter, o_t_turn, o_t_isSettled, o_t_had, o_t_logged, o_t_logWho, o_t_logFrom, o_t_logTo, o_t_seed, .ref a_t_text, .int (i_t_texted + 1), o_t_faultPlace, o_t_at0, o_t_said, o_t_wordEnd, o_t_number, o_t_numberAt, o_t_readPlaces, o_t_readWords, o_t_readKind, o_t_readWorth, o_t_readFrames, o_t_readFrame, o_t_readPairs, o_t_readPair, o_t_changes, o_t_change, o_t_queue, o_t_steps, o_t_end, o_t_sent, o_t_firstSent, o_t_wasEnd, o_t_wasSent, o_t_guesses, o_t_guessHouse, o_t_guessWorth, o_t_booked, o_t_book, o_t_images, o_t_isKept])), (a_t_text, .inl (cy 0, 500, .inl (upd f_t_text (i_t_texted : Int32).toNatClampNeg ((((v2 >>> (((8 * v4) : Int32).toInt64 &&& 63)) &&& 255) : Int64).toInt32))))] H := hP
      have hD : va_D A [(a_t, .inr (9, [o_t_places, o_t_words, o_t_kind, o_t_worths, o_t_frames, o_t_frame, o_t_pairs, o_t_pair, o_t_letters, o_t_standing, o_t_isStanding, o_t_worthOf, o_t_law, o_t_way, o_t_letter, o_t_turn, o_t_isSettled, o_t_had, o_t_logged, o_t_logWho, o_t_logFrom, o_t_logTo, o_t_seed, .ref a_t_text, .int (i_t_texted + 1), o_t_faultPlace, o_t_at0, o_t_said, o_t_wordEnd, o_t_number, o_t_numberAt, o_t_readPlaces, o_t_readWords, o_t_readKind, o_t_readWorth, o_t_readFrames, o_t_readFrame, o_t_readPairs, o_t_readPair, o_t_changes, o_t_change, o_t_queue, o_t_steps, o_t_end, o_t_sent, o_t_firstSent, o_t_wasEnd, o_t_wasSent, o_t_guesses, o_t_guessHouse, o_t_guessWorth, o_t_booked, o_t_book, o_t_images, o_t_isKept])), (a_t_text, .inl (cy 0, 500, .inl (upd f_t_text (i_t_texted : Int32).toNatClampNeg ((((v2 >>> (((8 * v4) : Int32).toInt64 &&& 63)) &&& 255) : Int64).toInt32))))] := hD
      refine lv_iinc (v := (v4 + (-1))) (lv' := [(4, .int (v4 + (-1))), (0, .ref a_t), (2, .long v2)]) hx hb dX9_feed_71 hl (k := 2) rfl rfl (by decide) rfl (fun ls hl => ?_)
      refine lv_goto (tgt := 35) hx hb dX9_feed_74 (by decide) ?_
      exact ih v2 (v4 + (-1)) (i_t_texted + 1) (upd f_t_text (i_t_texted : Int32).toNatClampNeg ((((v2 >>> (((8 * v4) : Int32).toInt64 &&& 63)) &&& 255) : Int64).toInt32)) hf _ _ hP hD hS _ (lv_sub hl [1, 2, 0] rfl)
def f_X9_feed (i_t_texted : Int32) (f_t_text : Nat → Int32) (p1 : Int32) (p2 : Int64) : Option (Int32 × Int32 × (Nat → Int32)) :=
  (f_X9_in ((p1 : Int32).toInt64) 1 8).bind fun r_1 =>
  if r_1 = 0 then
    some ((-1000000002), i_t_texted, f_t_text)
  else
    if (i_t_texted + p1) ≤ 500 then
      f_X9_feed_L35 FU p2 (p1 - 1) i_t_texted f_t_text
    else
      some ((-1000000004), i_t_texted, f_t_text)
set_option maxRecDepth 100000 in
set_option maxHeartbeats 4000000 in
theorem c_X9_feed (l : Launch) (D : va_G) (cy : Nat → ClassId) (a_t : Nat) (a_t_text : Nat) (o_t_places : Value) (o_t_words : Value) (o_t_kind : Value) (o_t_worths : Value) (o_t_frames : Value) (o_t_frame : Value) (o_t_pairs : Value) (o_t_pair : Value) (o_t_letters : Value) (o_t_standing : Value) (o_t_isStanding : Value) (o_t_worthOf : Value) (o_t_law : Value) (o_t_way : Value) (o_t_letter : Value) (o_t_turn : Value) (o_t_isSettled : Value) (o_t_had : Value) (o_t_logged : Value) (o_t_logWho : Value) (o_t_logFrom : Value) (o_t_logTo : Value) (o_t_seed : Value) (o_t_faultPlace : Value) (o_t_at0 : Value) (o_t_said : Value) (o_t_wordEnd : Value) (o_t_number : Value) (o_t_numberAt : Value) (o_t_readPlaces : Value) (o_t_readWords : Value) (o_t_readKind : Value) (o_t_readWorth : Value) (o_t_readFrames : Value) (o_t_readFrame : Value) (o_t_readPairs : Value) (o_t_readPair : Value) (o_t_changes : Value) (o_t_change : Value) (o_t_queue : Value) (o_t_steps : Value) (o_t_end : Value) (o_t_sent : Value) (o_t_firstSent : Value) (o_t_wasEnd : Value) (o_t_wasSent : Value) (o_t_guesses : Value) (o_t_guessHouse : Value) (o_t_guessWorth : Value) (o_t_booked : Value) (o_t_book : Value) (o_t_images : Value) (o_t_isKept : Value) (i_t_texted : Int32) (f_t_text : Nat → Int32) (p1 : Int32) (p2 : Int64) (rv : Int32) (z_i_t_texted : Int32) (z_f_t_text : Nat → Int32) (hf : f_X9_feed i_t_texted f_t_text p1 p2 = some (rv, z_i_t_texted, z_f_t_text)) : MI l D cy yX9_feed wsX9_feed rmX9_feed [.ref a_t, .int p1, .long p2] [(a_t, .inr (9, [o_t_places, o_t_words, o_t_kind, o_t_worths, o_t_frames, o_t_frame, o_t_pairs, o_t_pair, o_t_letters, o_t_standing, o_t_isStanding, o_t_worthOf, o_t_law, o_t_way, o_t_letter, o_t_turn, o_t_isSettled, o_t_had, o_t_logged, o_t_logWho, o_t_logFrom, o_t_logTo, o_t_seed, .ref a_t_text, .int i_t_texted, o_t_faultPlace, o_t_at0, o_t_said, o_t_wordEnd, o_t_number, o_t_numberAt, o_t_readPlaces, o_t_readWords, o_t_readKind, o_t_readWorth, o_t_readFrames, o_t_readFrame, o_t_readPairs, o_t_readPair, o_t_changes, o_t_change, o_t_queue, o_t_steps, o_t_end, o_t_sent, o_t_firstSent, o_t_wasEnd, o_t_wasSent, o_t_guesses, o_t_guessHouse, o_t_guessWorth, o_t_booked, o_t_book, o_t_images, o_t_isKept])), (a_t_text, .inl (cy 0, 500, .inl f_t_text))] [(a_t, .inr (9, [o_t_places, o_t_words, o_t_kind, o_t_worths, o_t_frames, o_t_frame, o_t_pairs, o_t_pair, o_t_letters, o_t_standing, o_t_isStanding, o_t_worthOf, o_t_law, o_t_way, o_t_letter, o_t_turn, o_t_isSettled, o_t_had, o_t_logged, o_t_logWho, o_t_logFrom, o_t_logTo, o_t_seed, .ref a_t_text, .int z_i_t_texted, o_t_faultPlace, o_t_at0, o_t_said, o_t_wordEnd, o_t_number, o_t_numberAt, o_t_readPlaces, o_t_readWords, o_t_readKind, o_t_readWorth, o_t_readFrames, o_t_readFrame, o_t_readPairs, o_t_readPair, o_t_changes, o_t_change, o_t_queue, o_t_steps, o_t_end, o_t_sent, o_t_firstSent, o_t_wasEnd, o_t_wasSent, o_t_guesses, o_t_guessHouse, o_t_guessWorth, o_t_booked, o_t_book, o_t_images, o_t_isKept])), (a_t_text, .inl (cy 0, 500, .inl z_f_t_text))] rv := by
  refine st_I (by decide) rfl (Nat.le_of_ble_eq_true rfl) (fun p e s m below meth c A Q ls C0 hA hK hP hD hS hl hret => ?_)
  obtain ⟨hx, hb, hr, hml, hown, hts, hlocks⟩ := id C0
  have hl : lv_has ls 5 [(0, .ref a_t), (1, .int p1), (2, .long p2)] := hl
  unfold f_X9_feed at hf
  refine lv_iload_n hx hb dX9_feed_0 rfl (lv_at hl 1 rfl) ?_
  refine lv_i2l (v := ((p1 : Int32).toInt64)) hx hb dX9_feed_1 rfl ?_
  refine lv_lconst (v := 1) hx hb dX9_feed_2 (by decide) ?_
  refine lv_ldc2 (v := 8) hx hb hown (hts _ mX9_feed_116) dX9_feed_3 ?_
  obtain ⟨r_1, hc_2, hf⟩ := hb_b hf
  refine cl_Si (rest := []) [] C0 hK hP hD hS hA (c_X9_in l D cy ((p1 : Int32).toInt64) 1 8 r_1 hc_2) (va_cwS 3 hts gX9_feed_X9_in rfl rfl rfl (by decide +kernel) ⟨Nat.le_of_ble_eq_true rfl, Nat.le_of_ble_eq_true rfl⟩) rfl rfl rfl rfl hl.1 rfl (Nat.le_of_ble_eq_true rfl) dX9_feed_6 ⟨Nat.zero_le _, Nat.zero_le _⟩ (fun H locs hP hD hS => ?_)
  have hP : va_P D vwCl [(a_t, .inr (9, [o_t_places, o_t_words, o_t_kind, o_t_worths, o_t_frames, o_t_frame, o_t_pairs, o_t_pair, o_t_letters, o_t_standing, o_t_isStanding, o_t_worthOf, o_t_law, o_t_way, o_t_letter, o_t_turn, o_t_isSettled, o_t_had, o_t_logged, o_t_logWho, o_t_logFrom, o_t_logTo, o_t_seed, .ref a_t_text, .int i_t_texted, o_t_faultPlace, o_t_at0, o_t_said, o_t_wordEnd, o_t_number, o_t_numberAt, o_t_readPlaces, o_t_readWords, o_t_readKind, o_t_readWorth, o_t_readFrames, o_t_readFrame, o_t_readPairs, o_t_readPair, o_t_changes, o_t_change, o_t_queue, o_t_steps, o_t_end, o_t_sent, o_t_firstSent, o_t_wasEnd, o_t_wasSent, o_t_guesses, o_t_guessHouse, o_t_guessWorth, o_t_booked, o_t_book, o_t_images, o_t_isKept])), (a_t_text, .inl (cy 0, 500, .inl f_t_text))] H := hP
  have hD : va_D A [(a_t, .inr (9, [o_t_places, o_t_words, o_t_kind, o_t_worths, o_t_frames, o_t_frame, o_t_pairs, o_t_pair, o_t_letters, o_t_standing, o_t_isStanding, o_t_worthOf, o_t_law, o_t_way, o_t_letter, o_t_turn, o_t_isSettled, o_t_had, o_t_logged, o_t_logWho, o_t_logFrom, o_t_logTo, o_t_seed, .ref a_t_text, .int i_t_texted, o_t_faultPlace, o_t_at0, o_t_said, o_t_wordEnd, o_t_number, o_t_numberAt, o_t_readPlaces, o_t_readWords, o_t_readKind, o_t_readWorth, o_t_readFrames, o_t_readFrame, o_t_readPairs, o_t_readPair, o_t_changes, o_t_change, o_t_queue, o_t_steps, o_t_end, o_t_sent, o_t_firstSent, o_t_wasEnd, o_t_wasSent, o_t_guesses, o_t_guessHouse, o_t_guessWorth, o_t_booked, o_t_book, o_t_images, o_t_isKept])), (a_t_text, .inl (cy 0, 500, .inl f_t_text))] := hD
  refine lv_if_ne (tgt := 15) hx hb dX9_feed_9 (by decide) (fun c_3 => ?_) (fun c_3 => ?_)
  · have hf := hb_f hf c_3
    refine lv_aload_n hx hb dX9_feed_15 rfl (lv_at hl 0 rfl) ?_
    refine va_get (D := D) (ci := 9) (v := .int i_t_texted) (C := RX9) (T := TX9) (N := 55) hx hb hts uX9_feed_X9 hown hK.1.1 hP 0 rfl rfl 24 (by decide) (hts _ mX9_feed_119) (fun _ h9 => h9) rfl dX9_feed_16 ?_
    refine lv_iload_n hx hb dX9_feed_19 rfl (lv_at hl 1 rfl) ?_
    refine lv_iadd hx hb dX9_feed_20 ?_
    refine lv_sipush (v := 500) hx hb dX9_feed_21 (by decide) ?_
    refine lv_icmp_le (tgt := 30) hx hb dX9_feed_24 (by decide) (fun c_4 => ?_) (fun c_4 => ?_)
    · have hf := hb_t hf c_4
      refine lv_iload_n hx hb dX9_feed_30 rfl (lv_at hl 1 rfl) ?_
      refine lv_iconst (v := 1) hx hb dX9_feed_31 (by decide) ?_
      refine lv_isub hx hb dX9_feed_32 ?_
      refine lv_istore (lv' := [(4, .int (p1 - 1)), (0, .ref a_t), (1, .int p1), (2, .long p2)]) hx hb dX9_feed_33 hl (by decide) rfl (fun ls hl => ?_)
      refine L_X9_feed_35 l D cy a_t a_t_text o_t_places o_t_words o_t_kind o_t_worths o_t_frames o_t_frame o_t_pairs o_t_pair o_t_letters o_t_standing o_t_isStanding o_t_worthOf o_t_law o_t_way o_t_letter o_t_turn o_t_isSettled o_t_had o_t_logged o_t_logWho o_t_logFrom o_t_logTo o_t_seed o_t_faultPlace o_t_at0 o_t_said o_t_wordEnd o_t_number o_t_numberAt o_t_readPlaces o_t_readWords o_t_readKind o_t_readWorth o_t_readFrames o_t_readFrame o_t_readPairs o_t_readPair o_t_changes o_t_change o_t_queue o_t_steps o_t_end o_t_sent o_t_firstSent o_t_wasEnd o_t_wasSent o_t_guesses o_t_guessHouse o_t_guessWorth o_t_booked o_t_book o_t_images o_t_isKept rv z_i_t_texted z_f_t_text C0 hA hK hret  FU p2 (p1 - 1) i_t_texted f_t_text hf _ _ hP hD hS _ (lv_sub hl [1, 3, 0] rfl)
    · have hf := hb_f hf c_4
      refine lv_ldc (v := (-1000000004)) hx hb hown (hts _ mX9_feed_122) dX9_feed_27 ?_
      obtain ⟨e_0, e_1, e_2⟩ := tu3 hf
      subst e_0; subst e_1; subst e_2
      exact hret _ _ _ _ dX9_feed_29 rfl hP hS
  · have hf := hb_t hf c_3
    refine lv_ldc (v := (-1000000002)) hx hb hown (hts _ mX9_feed_118) dX9_feed_12 ?_
    obtain ⟨e_0, e_1, e_2⟩ := tu3 hf
    subst e_0; subst e_1; subst e_2
    exact hret _ _ _ _ dX9_feed_14 rfl hP hS
theorem mX9_here_125 : Cond.fieldLink RX9 125 "OneWordLettersModel" "at0" "I" ∈ wsX9_here := by decide +kernel
theorem uX9_here_X9 : ∀ w ∈ wsX90, w ∈ wsX9_here := fun _ h => List.mem_cons_of_mem _ (List.mem_append_right _ h)
theorem mX9_here_119 : Cond.fieldLink RX9 119 "OneWordLettersModel" "texted" "I" ∈ wsX9_here := by decide +kernel
theorem mX9_here_41 : Cond.fieldLink RX9 41 "OneWordLettersModel" "text" "[I" ∈ wsX9_here := by decide +kernel
abbrev rmX9_here : Room := { frames := 0, cells := 0, slots := 0, locals := 0 }
def f_X9_here_L0 (i_t_texted : Int32) (f_t_text : Nat → Int32) : Nat → Int32 → Option (Int32 × Int32)
  | 0, _ => none
  | n + 1, i_t_at0 =>
    if i_t_texted ≤ i_t_at0 then
      if i_t_texted ≤ i_t_at0 then
        some ((-1), i_t_at0)
      else
        if ixb i_t_at0 500 = true then
        some ((f_t_text (i_t_at0 : Int32).toNatClampNeg), i_t_at0)
        else none
    else
      if ixb i_t_at0 500 = true then
      if (f_t_text (i_t_at0 : Int32).toNatClampNeg) = 32 then
        f_X9_here_L0 i_t_texted f_t_text n (i_t_at0 + 1)
      else
        if i_t_texted ≤ i_t_at0 then
          some ((-1), i_t_at0)
        else
          if ixb i_t_at0 500 = true then
          some ((f_t_text (i_t_at0 : Int32).toNatClampNeg), i_t_at0)
          else none
      else none
set_option maxRecDepth 100000 in
set_option maxHeartbeats 4000000 in
theorem L_X9_here_0 {p : Program} {e : Env} {s : State} {m : MethodId} {args : Array Value} {below : List Frame} {meth : Method} {c : Code} {Q : State → Prop} {A : Nat → Prop} (l : Launch) (D : va_G) (cy : Nat → ClassId) (a_t : Nat) (a_t_text : Nat) (o_t_places : Value) (o_t_words : Value) (o_t_kind : Value) (o_t_worths : Value) (o_t_frames : Value) (o_t_frame : Value) (o_t_pairs : Value) (o_t_pair : Value) (o_t_letters : Value) (o_t_standing : Value) (o_t_isStanding : Value) (o_t_worthOf : Value) (o_t_law : Value) (o_t_way : Value) (o_t_letter : Value) (o_t_turn : Value) (o_t_isSettled : Value) (o_t_had : Value) (o_t_logged : Value) (o_t_logWho : Value) (o_t_logFrom : Value) (o_t_logTo : Value) (o_t_seed : Value) (o_t_faultPlace : Value) (o_t_said : Value) (o_t_wordEnd : Value) (o_t_number : Value) (o_t_numberAt : Value) (o_t_readPlaces : Value) (o_t_readWords : Value) (o_t_readKind : Value) (o_t_readWorth : Value) (o_t_readFrames : Value) (o_t_readFrame : Value) (o_t_readPairs : Value) (o_t_readPair : Value) (o_t_changes : Value) (o_t_change : Value) (o_t_queue : Value) (o_t_steps : Value) (o_t_end : Value) (o_t_sent : Value) (o_t_firstSent : Value) (o_t_wasEnd : Value) (o_t_wasSent : Value) (o_t_guesses : Value) (o_t_guessHouse : Value) (o_t_guessWorth : Value) (o_t_booked : Value) (o_t_book : Value) (o_t_images : Value) (o_t_isKept : Value) (i_t_texted : Int32) (f_t_text : Nat → Int32) (rv : Int32) (z_i_t_at0 : Int32) (C0 : CX p s m args meth c cX9_here 1 (some .int) wsX9_here RX9) (hA : ∀ q, s.heap.size ≤ q → A q) (hK : KZ D cy A s) (hret : ∀ (H : Heap) (locs : List Loc) (ls : Array Slot) (pc : Nat), decode cX9_here pc = .ok (.ireturn, 1) → narrow .int (.int rv) = .int rv → va_P D vwCl [(a_t, .inr (9, [o_t_places, o_t_words, o_t_kind, o_t_worths, o_t_frames, o_t_frame, o_t_pairs, o_t_pair, o_t_letters, o_t_standing, o_t_isStanding, o_t_worthOf, o_t_law, o_t_way, o_t_letter, o_t_turn, o_t_isSettled, o_t_had, o_t_logged, o_t_logWho, o_t_logFrom, o_t_logTo, o_t_seed, .ref a_t_text, .int i_t_texted, o_t_faultPlace, .int z_i_t_at0, o_t_said, o_t_wordEnd, o_t_number, o_t_numberAt, o_t_readPlaces, o_t_readWords, o_t_readKind, o_t_readWorth, o_t_readFrames, o_t_readFrame, o_t_readPairs, o_t_readPair, o_t_changes, o_t_change, o_t_queue, o_t_steps, o_t_end, o_t_sent, o_t_firstSent, o_t_wasEnd, o_t_wasSent, o_t_guesses, o_t_guessHouse, o_t_guessWorth, o_t_booked, o_t_book, o_t_images, o_t_isKept])), (a_t_text, .inl (cy 0, 500, .inl f_t_text))] H → va_S A s.heap H locs → W p l e rmX9_here s m args below meth c H locs 0 0 Q (F0 m pc ls [.int rv])) : ∀ (n : Nat) (i_t_at0 : Int32), f_X9_here_L0 i_t_texted f_t_text n i_t_at0 = some (rv, z_i_t_at0) → ∀ (H : Heap) (locs : List Loc), va_P D vwCl [(a_t, .inr (9, [o_t_places, o_t_words, o_t_kind, o_t_worths, o_t_frames, o_t_frame, o_t_pairs, o_t_pair, o_t_letters, o_t_standing, o_t_isStanding, o_t_worthOf, o_t_law, o_t_way, o_t_letter, o_t_turn, o_t_isSettled, o_t_had, o_t_logged, o_t_logWho, o_t_logFrom, o_t_logTo, o_t_seed, .ref a_t_text, .int i_t_texted, o_t_faultPlace, .int i_t_at0, o_t_said, o_t_wordEnd, o_t_number, o_t_numberAt, o_t_readPlaces, o_t_readWords, o_t_readKind, o_t_readWorth, o_t_readFrames, o_t_readFrame, o_t_readPairs, o_t_readPair, o_t_changes, o_t_change, o_t_queue, o_t_steps, o_t_end, o_t_sent, o_t_firstSent, o_t_wasEnd, o_t_wasSent, o_t_guesses, o_t_guessHouse, o_t_guessWorth, o_t_booked, o_t_book, o_t_images, o_t_isKept])), (a_t_text, .inl (cy 0, 500, .inl f_t_text))] H → va_D A [(a_t, .inr (9, [o_t_places, o_t_words, o_t_kind, o_t_worths, o_t_frames, o_t_frame, o_t_pairs, o_t_pair, o_t_letters, o_t_standing, o_t_isStanding, o_t_worthOf, o_t_law, o_t_way, o_t_letter, o_t_turn, o_t_isSettled, o_t_had, o_t_logged, o_t_logWho, o_t_logFrom, o_t_logTo, o_t_seed, .ref a_t_text, .int i_t_texted, o_t_faultPlace, .int i_t_at0, o_t_said, o_t_wordEnd, o_t_number, o_t_numberAt, o_t_readPlaces, o_t_readWords, o_t_readKind, o_t_readWorth, o_t_readFrames, o_t_readFrame, o_t_readPairs, o_t_readPair, o_t_changes, o_t_change, o_t_queue, o_t_steps, o_t_end, o_t_sent, o_t_firstSent, o_t_wasEnd, o_t_wasSent, o_t_guesses, o_t_guessHouse, o_t_guessWorth, o_t_booked, o_t_book, o_t_images, o_t_isKept])), (a_t_text, .inl (cy 0, 500, .inl f_t_text))] → va_S A s.heap H locs → ∀ ls : Array Slot, lv_has ls 1 [(0, .ref a_t)] → W p l e rmX9_here s m args below meth c H locs 0 0 Q (F0 m 0 ls []) := by
  obtain ⟨hx, hb, hr, hml, hown, hts, hlocks⟩ := id C0
  intro n
  induction n with
  | zero => intro _ hf; rw [f_X9_here_L0.eq_1] at hf; cases hf
  | succ n ih =>
    intro i_t_at0 hf H locs hP hD hS ls hl
    rw [f_X9_here_L0.eq_2] at hf
    refine lv_aload_n hx hb dX9_here_0 rfl (lv_at hl 0 rfl) ?_
    refine va_get (D := D) (ci := 9) (v := .int i_t_at0) (C := RX9) (T := TX9) (N := 55) hx hb hts uX9_here_X9 hown hK.1.1 hP 0 rfl rfl 26 (by decide) (hts _ mX9_here_125) (fun _ h9 => h9) rfl dX9_here_1 ?_
    refine lv_aload_n hx hb dX9_here_4 rfl (lv_at hl 0 rfl) ?_
    refine va_get (D := D) (ci := 9) (v := .int i_t_texted) (C := RX9) (T := TX9) (N := 55) hx hb hts uX9_here_X9 hown hK.1.1 hP 0 rfl rfl 24 (by decide) (hts _ mX9_here_119) (fun _ h9 => h9) rfl dX9_here_5 ?_
    refine lv_icmp_ge (tgt := 38) hx hb dX9_here_8 (by decide) (fun c_1 => ?_) (fun c_1 => ?_)
    · have hf := hb_t hf c_1
      refine lv_aload_n hx hb dX9_here_38 rfl (lv_at hl 0 rfl) ?_
      refine va_get (D := D) (ci := 9) (v := .int i_t_at0) (C := RX9) (T := TX9) (N := 55) hx hb hts uX9_here_X9 hown hK.1.1 hP 0 rfl rfl 26 (by decide) (hts _ mX9_here_125) (fun _ h9 => h9) rfl dX9_here_39 ?_
      refine lv_aload_n hx hb dX9_here_42 rfl (lv_at hl 0 rfl) ?_
      refine va_get (D := D) (ci := 9) (v := .int i_t_texted) (C := RX9) (T := TX9) (N := 55) hx hb hts uX9_here_X9 hown hK.1.1 hP 0 rfl rfl 24 (by decide) (hts _ mX9_here_119) (fun _ h9 => h9) rfl dX9_here_43 ?_
      refine lv_icmp_ge (tgt := 61) hx hb dX9_here_46 (by decide) (fun c_2 => ?_) (fun c_2 => ?_)
      · have hf := hb_t hf c_2
        refine lv_iconst (v := (-1)) hx hb dX9_here_61 (by decide) ?_
        obtain ⟨e_0, e_1⟩ := tu2 hf
        subst e_0; subst e_1
        exact hret _ _ _ _ dX9_here_62 rfl hP hS
      · have hf := hb_f hf c_2
        refine lv_aload_n hx hb dX9_here_49 rfl (lv_at hl 0 rfl) ?_
        refine va_get (D := D) (ci := 9) (v := .ref a_t_text) (C := RX9) (T := TX9) (N := 55) hx hb hts uX9_here_X9 hown hK.1.1 hP 0 rfl rfl 23 (by decide) (hts _ mX9_here_41) (fun _ h9 => h9) rfl dX9_here_50 ?_
        refine lv_aload_n hx hb dX9_here_53 rfl (lv_at hl 0 rfl) ?_
        refine va_get (D := D) (ci := 9) (v := .int i_t_at0) (C := RX9) (T := TX9) (N := 55) hx hb hts uX9_here_X9 hown hK.1.1 hP 0 rfl rfl 26 (by decide) (hts _ mX9_here_125) (fun _ h9 => h9) rfl dX9_here_54 ?_
        obtain ⟨hg_3, hf⟩ := hb_g hf
        refine va_iald hx hb hK.1.1 hP 1 0 rfl rfl (ixb_in hg_3) dX9_here_57 ?_
        refine lv_goto (tgt := 62) hx hb dX9_here_58 (by decide) ?_
        obtain ⟨e_0, e_1⟩ := tu2 hf
        subst e_0; subst e_1
        exact hret _ _ _ _ dX9_here_62 rfl hP hS
    · have hf := hb_f hf c_1
      refine lv_aload_n hx hb dX9_here_11 rfl (lv_at hl 0 rfl) ?_
      refine va_get (D := D) (ci := 9) (v := .ref a_t_text) (C := RX9) (T := TX9) (N := 55) hx hb hts uX9_here_X9 hown hK.1.1 hP 0 rfl rfl 23 (by decide) (hts _ mX9_here_41) (fun _ h9 => h9) rfl dX9_here_12 ?_
      refine lv_aload_n hx hb dX9_here_15 rfl (lv_at hl 0 rfl) ?_
      refine va_get (D := D) (ci := 9) (v := .int i_t_at0) (C := RX9) (T := TX9) (N := 55) hx hb hts uX9_here_X9 hown hK.1.1 hP 0 rfl rfl 26 (by decide) (hts _ mX9_here_125) (fun _ h9 => h9) rfl dX9_here_16 ?_
      obtain ⟨hg_4, hf⟩ := hb_g hf
      refine va_iald hx hb hK.1.1 hP 1 0 rfl rfl (ixb_in hg_4) dX9_here_19 ?_
      refine lv_bipush (v := 32) hx hb dX9_here_20 (by decide) ?_
      refine lv_icmp_ne (tgt := 38) hx hb dX9_here_22 (by decide) (fun c_5 => ?_) (fun c_5 => ?_)
      · have hf := hb_f hf c_5
        refine lv_aload_n hx hb dX9_here_38 rfl (lv_at hl 0 rfl) ?_
        refine va_get (D := D) (ci := 9) (v := .int i_t_at0) (C := RX9) (T := TX9) (N := 55) hx hb hts uX9_here_X9 hown hK.1.1 hP 0 rfl rfl 26 (by decide) (hts _ mX9_here_125) (fun _ h9 => h9) rfl dX9_here_39 ?_
        refine lv_aload_n hx hb dX9_here_42 rfl (lv_at hl 0 rfl) ?_
        refine va_get (D := D) (ci := 9) (v := .int i_t_texted) (C := RX9) (T := TX9) (N := 55) hx hb hts uX9_here_X9 hown hK.1.1 hP 0 rfl rfl 24 (by decide) (hts _ mX9_here_119) (fun _ h9 => h9) rfl dX9_here_43 ?_
        refine lv_icmp_ge (tgt := 61) hx hb dX9_here_46 (by decide) (fun c_6 => ?_) (fun c_6 => ?_)
        · have hf := hb_t hf c_6
          refine lv_iconst (v := (-1)) hx hb dX9_here_61 (by decide) ?_
          obtain ⟨e_0, e_1⟩ := tu2 hf
          subst e_0; subst e_1
          exact hret _ _ _ _ dX9_here_62 rfl hP hS
        · have hf := hb_f hf c_6
          refine lv_aload_n hx hb dX9_here_49 rfl (lv_at hl 0 rfl) ?_
          refine va_get (D := D) (ci := 9) (v := .ref a_t_text) (C := RX9) (T := TX9) (N := 55) hx hb hts uX9_here_X9 hown hK.1.1 hP 0 rfl rfl 23 (by decide) (hts _ mX9_here_41) (fun _ h9 => h9) rfl dX9_here_50 ?_
          refine lv_aload_n hx hb dX9_here_53 rfl (lv_at hl 0 rfl) ?_
          refine va_get (D := D) (ci := 9) (v := .int i_t_at0) (C := RX9) (T := TX9) (N := 55) hx hb hts uX9_here_X9 hown hK.1.1 hP 0 rfl rfl 26 (by decide) (hts _ mX9_here_125) (fun _ h9 => h9) rfl dX9_here_54 ?_
          obtain ⟨hg_7, hf⟩ := hb_g hf
          refine va_iald hx hb hK.1.1 hP 1 0 rfl rfl (ixb_in hg_7) dX9_here_57 ?_
          refine lv_goto (tgt := 62) hx hb dX9_here_58 (by decide) ?_
          obtain ⟨e_0, e_1⟩ := tu2 hf
          subst e_0; subst e_1
          exact hret _ _ _ _ dX9_here_62 rfl hP hS
      · have hf := hb_t hf c_5
        refine lv_aload_n hx hb dX9_here_25 rfl (lv_at hl 0 rfl) ?_
        refine lv_dup hx hb dX9_here_26 rfl ?_
        refine va_get (D := D) (ci := 9) (v := .int i_t_at0) (C := RX9) (T := TX9) (N := 55) hx hb hts uX9_here_X9 hown hK.1.1 hP 0 rfl rfl 26 (by decide) (hts _ mX9_here_125) (fun _ h9 => h9) rfl dX9_here_27 ?_
        refine lv_iconst (v := 1) hx hb dX9_here_30 (by decide) ?_
        refine lv_iadd hx hb dX9_here_31 ?_
        refine va_put (D := D) (ci := 9) (v := .int (i_t_at0 + 1)) (ty := .int) (C := RX9) (T := TX9) (N := 55) hx hb hts uX9_here_X9 tyX9 tyX9_ok nmX9 hown hK.1.1 hP hD hS 0 rfl rfl 26 (by decide) (hts _ mX9_here_125) (fun _ h9 => h9) rfl (by decide +kernel) rfl rfl (Nat.le_of_ble_eq_true rfl) dX9_here_32 (fun H locs hP hD hS => ?_)
        have hP : va_P D vwCl [(a_t, .inr (9, [o_t_places, o_t_words, o_t_kind, o_t_worths, o_t_frames, o_t_frame, o_t_pairs, o_t_pair, o_t_letters, o_t_standing, o_t_isStanding, o_t_worthOf, o_t_law, o_t_way, o_t_letter, o_t_turn, o_t_isSettled, o_t_had, o_t_logged, o_t_logWho, o_t_logFrom, o_t_logTo, o_t_seed, .ref a_t_text, .int i_t_texted, o_t_faultPlace, .int (i_t_at0 + 1), o_t_said, o_t_wordEnd, o_t_number, o_t_numberAt, o_t_readPlaces, o_t_readWords, o_t_readKind, o_t_readWorth, o_t_readFrames, o_t_readFrame, o_t_readPairs, o_t_readPair, o_t_changes, o_t_change, o_t_queue, o_t_steps, o_t_end, o_t_sent, o_t_firstSent, o_t_wasEnd, o_t_wasSent, o_t_guesses, o_t_guessHouse, o_t_guessWorth, o_t_booked, o_t_book, o_t_images, o_t_isKept])), (a_t_text, .inl (cy 0, 500, .inl f_t_text))] H := hP
        have hD : va_D A [(a_t, .inr (9, [o_t_places, o_t_words, o_t_kind, o_t_worths, o_t_frames, o_t_frame, o_t_pairs, o_t_pair, o_t_letters, o_t_standing, o_t_isStanding, o_t_worthOf, o_t_law, o_t_way, o_t_letter, o_t_turn, o_t_isSettled, o_t_had, o_t_logged, o_t_logWho, o_t_logFrom, o_t_logTo, o_t_seed, .ref a_t_text, .int i_t_texted, o_t_faultPlace, .int (i_t_at0 + 1), o_t_said, o_t_wordEnd, o_t_number, o_t_numberAt, o_t_readPlaces, o_t_readWords, o_t_readKind, o_t_readWorth, o_t_readFrames, o_t_readFrame, o_t_readPairs, o_t_readPair, o_t_changes, o_t_change, o_t_queue, o_t_steps, o_t_end, o_t_sent, o_t_firstSent, o_t_wasEnd, o_t_wasSent, o_t_guesses, o_t_guessHouse, o_t_guessWorth, o_t_booked, o_t_book, o_t_images, o_t_isKept])), (a_t_text, .inl (cy 0, 500, .inl f_t_text))] := hD
        refine lv_goto (tgt := 0) hx hb dX9_here_35 (by decide) ?_
        exact ih (i_t_at0 + 1) hf _ _ hP hD hS _ (lv_sub hl [0] rfl)
def f_X9_here (i_t_texted : Int32) (f_t_text : Nat → Int32) (i_t_at0 : Int32) : Option (Int32 × Int32) :=
  f_X9_here_L0 i_t_texted f_t_text FU i_t_at0
set_option maxRecDepth 100000 in
set_option maxHeartbeats 4000000 in
theorem c_X9_here (l : Launch) (D : va_G) (cy : Nat → ClassId) (a_t : Nat) (a_t_text : Nat) (o_t_places : Value) (o_t_words : Value) (o_t_kind : Value) (o_t_worths : Value) (o_t_frames : Value) (o_t_frame : Value) (o_t_pairs : Value) (o_t_pair : Value) (o_t_letters : Value) (o_t_standing : Value) (o_t_isStanding : Value) (o_t_worthOf : Value) (o_t_law : Value) (o_t_way : Value) (o_t_letter : Value) (o_t_turn : Value) (o_t_isSettled : Value) (o_t_had : Value) (o_t_logged : Value) (o_t_logWho : Value) (o_t_logFrom : Value) (o_t_logTo : Value) (o_t_seed : Value) (o_t_faultPlace : Value) (o_t_said : Value) (o_t_wordEnd : Value) (o_t_number : Value) (o_t_numberAt : Value) (o_t_readPlaces : Value) (o_t_readWords : Value) (o_t_readKind : Value) (o_t_readWorth : Value) (o_t_readFrames : Value) (o_t_readFrame : Value) (o_t_readPairs : Value) (o_t_readPair : Value) (o_t_changes : Value) (o_t_change : Value) (o_t_queue : Value) (o_t_steps : Value) (o_t_end : Value) (o_t_sent : Value) (o_t_firstSent : Value) (o_t_wasEnd : Value) (o_t_wasSent : Value) (o_t_guesses : Value) (o_t_guessHouse : Value) (o_t_guessWorth : Value) (o_t_booked : Value) (o_t_book : Value) (o_t_images : Value) (o_t_isKept : Value) (i_t_texted : Int32) (f_t_text : Nat → Int32) (i_t_at0 : Int32) (rv : Int32) (z_i_t_at0 : Int32) (hf : f_X9_here i_t_texted f_t_text i_t_at0 = some (rv, z_i_t_at0)) : MI l D cy yX9_here wsX9_here rmX9_here [.ref a_t] [(a_t, .inr (9, [o_t_places, o_t_words, o_t_kind, o_t_worths, o_t_frames, o_t_frame, o_t_pairs, o_t_pair, o_t_letters, o_t_standing, o_t_isStanding, o_t_worthOf, o_t_law, o_t_way, o_t_letter, o_t_turn, o_t_isSettled, o_t_had, o_t_logged, o_t_logWho, o_t_logFrom, o_t_logTo, o_t_seed, .ref a_t_text, .int i_t_texted, o_t_faultPlace, .int i_t_at0, o_t_said, o_t_wordEnd, o_t_number, o_t_numberAt, o_t_readPlaces, o_t_readWords, o_t_readKind, o_t_readWorth, o_t_readFrames, o_t_readFrame, o_t_readPairs, o_t_readPair, o_t_changes, o_t_change, o_t_queue, o_t_steps, o_t_end, o_t_sent, o_t_firstSent, o_t_wasEnd, o_t_wasSent, o_t_guesses, o_t_guessHouse, o_t_guessWorth, o_t_booked, o_t_book, o_t_images, o_t_isKept])), (a_t_text, .inl (cy 0, 500, .inl f_t_text))] [(a_t, .inr (9, [o_t_places, o_t_words, o_t_kind, o_t_worths, o_t_frames, o_t_frame, o_t_pairs, o_t_pair, o_t_letters, o_t_standing, o_t_isStanding, o_t_worthOf, o_t_law, o_t_way, o_t_letter, o_t_turn, o_t_isSettled, o_t_had, o_t_logged, o_t_logWho, o_t_logFrom, o_t_logTo, o_t_seed, .ref a_t_text, .int i_t_texted, o_t_faultPlace, .int z_i_t_at0, o_t_said, o_t_wordEnd, o_t_number, o_t_numberAt, o_t_readPlaces, o_t_readWords, o_t_readKind, o_t_readWorth, o_t_readFrames, o_t_readFrame, o_t_readPairs, o_t_readPair, o_t_changes, o_t_change, o_t_queue, o_t_steps, o_t_end, o_t_sent, o_t_firstSent, o_t_wasEnd, o_t_wasSent, o_t_guesses, o_t_guessHouse, o_t_guessWorth, o_t_booked, o_t_book, o_t_images, o_t_isKept])), (a_t_text, .inl (cy 0, 500, .inl f_t_text))] rv := by
  refine st_I (by decide) rfl (Nat.le_of_ble_eq_true rfl) (fun p e s m below meth c A Q ls C0 hA hK hP hD hS hl hret => ?_)
  obtain ⟨hx, hb, hr, hml, hown, hts, hlocks⟩ := id C0
  have hl : lv_has ls 1 [(0, .ref a_t)] := hl
  unfold f_X9_here at hf
  refine L_X9_here_0 l D cy a_t a_t_text o_t_places o_t_words o_t_kind o_t_worths o_t_frames o_t_frame o_t_pairs o_t_pair o_t_letters o_t_standing o_t_isStanding o_t_worthOf o_t_law o_t_way o_t_letter o_t_turn o_t_isSettled o_t_had o_t_logged o_t_logWho o_t_logFrom o_t_logTo o_t_seed o_t_faultPlace o_t_said o_t_wordEnd o_t_number o_t_numberAt o_t_readPlaces o_t_readWords o_t_readKind o_t_readWorth o_t_readFrames o_t_readFrame o_t_readPairs o_t_readPair o_t_changes o_t_change o_t_queue o_t_steps o_t_end o_t_sent o_t_firstSent o_t_wasEnd o_t_wasSent o_t_guesses o_t_guessHouse o_t_guessWorth o_t_booked o_t_book o_t_images o_t_isKept i_t_texted f_t_text rv z_i_t_at0 C0 hA hK hret  FU i_t_at0 hf _ _ hP hD hS _ (lv_sub hl [0] rfl)
theorem mX9_fails_44 : Cond.fieldLink RX9 44 "OneWordLettersModel" "faultPlace" "I" ∈ wsX9_fails := by decide +kernel
theorem uX9_fails_X9 : ∀ w ∈ wsX90, w ∈ wsX9_fails := fun _ h => List.mem_cons_of_mem _ (List.mem_append_right _ h)
abbrev rmX9_fails : Room := { frames := 0, cells := 0, slots := 0, locals := 0 }
def f_X9_fails (i_t_faultPlace : Int32) (p1 : Int32) (p2 : Int32) : Option (Int32 × Int32) :=
  some (p1, p2)
set_option maxRecDepth 100000 in
set_option maxHeartbeats 4000000 in
theorem c_X9_fails (l : Launch) (D : va_G) (cy : Nat → ClassId) (a_t : Nat) (o_t_places : Value) (o_t_words : Value) (o_t_kind : Value) (o_t_worths : Value) (o_t_frames : Value) (o_t_frame : Value) (o_t_pairs : Value) (o_t_pair : Value) (o_t_letters : Value) (o_t_standing : Value) (o_t_isStanding : Value) (o_t_worthOf : Value) (o_t_law : Value) (o_t_way : Value) (o_t_letter : Value) (o_t_turn : Value) (o_t_isSettled : Value) (o_t_had : Value) (o_t_logged : Value) (o_t_logWho : Value) (o_t_logFrom : Value) (o_t_logTo : Value) (o_t_seed : Value) (o_t_text : Value) (o_t_texted : Value) (o_t_at0 : Value) (o_t_said : Value) (o_t_wordEnd : Value) (o_t_number : Value) (o_t_numberAt : Value) (o_t_readPlaces : Value) (o_t_readWords : Value) (o_t_readKind : Value) (o_t_readWorth : Value) (o_t_readFrames : Value) (o_t_readFrame : Value) (o_t_readPairs : Value) (o_t_readPair : Value) (o_t_changes : Value) (o_t_change : Value) (o_t_queue : Value) (o_t_steps : Value) (o_t_end : Value) (o_t_sent : Value) (o_t_firstSent : Value) (o_t_wasEnd : Value) (o_t_wasSent : Value) (o_t_guesses : Value) (o_t_guessHouse : Value) (o_t_guessWorth : Value) (o_t_booked : Value) (o_t_book : Value) (o_t_images : Value) (o_t_isKept : Value) (i_t_faultPlace : Int32) (p1 : Int32) (p2 : Int32) (rv : Int32) (z_i_t_faultPlace : Int32) (hf : f_X9_fails i_t_faultPlace p1 p2 = some (rv, z_i_t_faultPlace)) : MI l D cy yX9_fails wsX9_fails rmX9_fails [.ref a_t, .int p1, .int p2] [(a_t, .inr (9, [o_t_places, o_t_words, o_t_kind, o_t_worths, o_t_frames, o_t_frame, o_t_pairs, o_t_pair, o_t_letters, o_t_standing, o_t_isStanding, o_t_worthOf, o_t_law, o_t_way, o_t_letter, o_t_turn, o_t_isSettled, o_t_had, o_t_logged, o_t_logWho, o_t_logFrom, o_t_logTo, o_t_seed, o_t_text, o_t_texted, .int i_t_faultPlace, o_t_at0, o_t_said, o_t_wordEnd, o_t_number, o_t_numberAt, o_t_readPlaces, o_t_readWords, o_t_readKind, o_t_readWorth, o_t_readFrames, o_t_readFrame, o_t_readPairs, o_t_readPair, o_t_changes, o_t_change, o_t_queue, o_t_steps, o_t_end, o_t_sent, o_t_firstSent, o_t_wasEnd, o_t_wasSent, o_t_guesses, o_t_guessHouse, o_t_guessWorth, o_t_booked, o_t_book, o_t_images, o_t_isKept]))] [(a_t, .inr (9, [o_t_places, o_t_words, o_t_kind, o_t_worths, o_t_frames, o_t_frame, o_t_pairs, o_t_pair, o_t_letters, o_t_standing, o_t_isStanding, o_t_worthOf, o_t_law, o_t_way, o_t_letter, o_t_turn, o_t_isSettled, o_t_had, o_t_logged, o_t_logWho, o_t_logFrom, o_t_logTo, o_t_seed, o_t_text, o_t_texted, .int z_i_t_faultPlace, o_t_at0, o_t_said, o_t_wordEnd, o_t_number, o_t_numberAt, o_t_readPlaces, o_t_readWords, o_t_readKind, o_t_readWorth, o_t_readFrames, o_t_readFrame, o_t_readPairs, o_t_readPair, o_t_changes, o_t_change, o_t_queue, o_t_steps, o_t_end, o_t_sent, o_t_firstSent, o_t_wasEnd, o_t_wasSent, o_t_guesses, o_t_guessHouse, o_t_guessWorth, o_t_booked, o_t_book, o_t_images, o_t_isKept]))] rv := by
  refine st_I (by decide) rfl (Nat.le_of_ble_eq_true rfl) (fun p e s m below meth c A Q ls C0 hA hK hP hD hS hl hret => ?_)
  obtain ⟨hx, hb, hr, hml, hown, hts, hlocks⟩ := id C0
  have hl : lv_has ls 3 [(0, .ref a_t), (1, .int p1), (2, .int p2)] := hl
  unfold f_X9_fails at hf
  refine lv_aload_n hx hb dX9_fails_0 rfl (lv_at hl 0 rfl) ?_
  refine lv_iload_n hx hb dX9_fails_1 rfl (lv_at hl 2 rfl) ?_
  refine va_put (D := D) (ci := 9) (v := .int p2) (ty := .int) (C := RX9) (T := TX9) (N := 55) hx hb hts uX9_fails_X9 tyX9 tyX9_ok nmX9 hown hK.1.1 hP hD hS 0 rfl rfl 25 (by decide) (hts _ mX9_fails_44) (fun _ h9 => h9) rfl (by decide +kernel) rfl rfl (Nat.le_of_ble_eq_true rfl) dX9_fails_2 (fun H locs hP hD hS => ?_)
  have hP : va_P D vwCl [(a_t, .inr (9, [o_t_places, o_t_words, o_t_kind, o_t_worths, o_t_frames, o_t_frame, o_t_pairs, o_t_pair, o_t_letters, o_t_standing, o_t_isStanding, o_t_worthOf, o_t_law, o_t_way, o_t_letter, o_t_turn, o_t_isSettled, o_t_had, o_t_logged, o_t_logWho, o_t_logFrom, o_t_logTo, o_t_seed, o_t_text, o_t_texted, .int p2, o_t_at0, o_t_said, o_t_wordEnd, o_t_number, o_t_numberAt, o_t_readPlaces, o_t_readWords, o_t_readKind, o_t_readWorth, o_t_readFrames, o_t_readFrame, o_t_readPairs, o_t_readPair, o_t_changes, o_t_change, o_t_queue, o_t_steps, o_t_end, o_t_sent, o_t_firstSent, o_t_wasEnd, o_t_wasSent, o_t_guesses, o_t_guessHouse, o_t_guessWorth, o_t_booked, o_t_book, o_t_images, o_t_isKept]))] H := hP
  have hD : va_D A [(a_t, .inr (9, [o_t_places, o_t_words, o_t_kind, o_t_worths, o_t_frames, o_t_frame, o_t_pairs, o_t_pair, o_t_letters, o_t_standing, o_t_isStanding, o_t_worthOf, o_t_law, o_t_way, o_t_letter, o_t_turn, o_t_isSettled, o_t_had, o_t_logged, o_t_logWho, o_t_logFrom, o_t_logTo, o_t_seed, o_t_text, o_t_texted, .int p2, o_t_at0, o_t_said, o_t_wordEnd, o_t_number, o_t_numberAt, o_t_readPlaces, o_t_readWords, o_t_readKind, o_t_readWorth, o_t_readFrames, o_t_readFrame, o_t_readPairs, o_t_readPair, o_t_changes, o_t_change, o_t_queue, o_t_steps, o_t_end, o_t_sent, o_t_firstSent, o_t_wasEnd, o_t_wasSent, o_t_guesses, o_t_guessHouse, o_t_guessWorth, o_t_booked, o_t_book, o_t_images, o_t_isKept]))] := hD
  refine lv_iload_n hx hb dX9_fails_5 rfl (lv_at hl 1 rfl) ?_
  obtain ⟨e_0, e_1⟩ := tu2 hf
  subst e_0; subst e_1
  exact hret _ _ _ _ dX9_fails_6 rfl hP hS
theorem mX9_readWord_132 : Cond.fieldLink RX9 132 "OneWordLettersModel" "said" "J" ∈ wsX9_readWord := by decide +kernel
theorem uX9_readWord_X9 : ∀ w ∈ wsX90, w ∈ wsX9_readWord := fun _ h => List.mem_cons_of_mem _ (List.mem_append_right _ h)
theorem mX9_readWord_125 : Cond.fieldLink RX9 125 "OneWordLettersModel" "at0" "I" ∈ wsX9_readWord := by decide +kernel
theorem mX9_readWord_136 : Cond.fieldLink RX9 136 "OneWordLettersModel" "wordEnd" "I" ∈ wsX9_readWord := by decide +kernel
theorem mX9_readWord_119 : Cond.fieldLink RX9 119 "OneWordLettersModel" "texted" "I" ∈ wsX9_readWord := by decide +kernel
theorem mX9_readWord_41 : Cond.fieldLink RX9 41 "OneWordLettersModel" "text" "[I" ∈ wsX9_readWord := by decide +kernel
theorem mX9_readWord_139 : Cond.constantLong RX9 139 (97) ∈ wsX9_readWord := by decide +kernel
theorem mX9_readWord_141 : Cond.constantLong RX9 141 (122) ∈ wsX9_readWord := by decide +kernel
theorem mX9_readWord_143 : Cond.constantLong RX9 143 (1000000000000) ∈ wsX9_readWord := by decide +kernel
theorem mX9_readWord_147 : Cond.constantLong RX9 147 (27) ∈ wsX9_readWord := by decide +kernel
theorem mX9_readWord_149 : Cond.constantLong RX9 149 (96) ∈ wsX9_readWord := by decide +kernel
theorem mX9_readWord_145 : Cond.constantLong RX9 145 (2000000000000) ∈ wsX9_readWord := by decide +kernel
abbrev rmX9_readWord : Room := { frames := 1, cells := 0, slots := 0, locals := 25 }
def f_X9_readWord_L18 (i_t_texted : Int32) (f_t_text : Nat → Int32) : Nat → Int32 → Int64 → Int32 → Option (Int32 × Int64 × Int32)
  | 0, _, _, _ => none
  | n + 1, i_t_at0, i_t_said, i_t_wordEnd =>
    if i_t_texted ≤ i_t_wordEnd then
      some (i_t_at0, i_t_said, i_t_wordEnd)
    else
      if ixb i_t_wordEnd 500 = true then
      (f_X9_in (((f_t_text (i_t_wordEnd : Int32).toNatClampNeg) : Int32).toInt64) 97 122).bind fun r_6 =>
      if r_6 = 0 then
        some (i_t_at0, i_t_said, i_t_wordEnd)
      else
        if (lg_cmp i_t_said 1000000000000) ≤ 0 then
          if ixb i_t_wordEnd 500 = true then
          f_X9_readWord_L18 i_t_texted f_t_text n i_t_at0 (((27 * i_t_said) + (((f_t_text (i_t_wordEnd : Int32).toNatClampNeg) : Int32).toInt64)) - 96) (i_t_wordEnd + 1)
          else none
        else
          f_X9_readWord_L18 i_t_texted f_t_text n i_t_at0 2000000000000 (i_t_wordEnd + 1)
      else none
set_option maxRecDepth 100000 in
set_option maxHeartbeats 4000000 in
theorem L_X9_readWord_18 {p : Program} {e : Env} {s : State} {m : MethodId} {args : Array Value} {below : List Frame} {meth : Method} {c : Code} {Q : State → Prop} {A : Nat → Prop} (l : Launch) (D : va_G) (cy : Nat → ClassId) (a_t : Nat) (a_t_text : Nat) (o_t_places : Value) (o_t_words : Value) (o_t_kind : Value) (o_t_worths : Value) (o_t_frames : Value) (o_t_frame : Value) (o_t_pairs : Value) (o_t_pair : Value) (o_t_letters : Value) (o_t_standing : Value) (o_t_isStanding : Value) (o_t_worthOf : Value) (o_t_law : Value) (o_t_way : Value) (o_t_letter : Value) (o_t_turn : Value) (o_t_isSettled : Value) (o_t_had : Value) (o_t_logged : Value) (o_t_logWho : Value) (o_t_logFrom : Value) (o_t_logTo : Value) (o_t_seed : Value) (o_t_faultPlace : Value) (o_t_number : Value) (o_t_numberAt : Value) (o_t_readPlaces : Value) (o_t_readWords : Value) (o_t_readKind : Value) (o_t_readWorth : Value) (o_t_readFrames : Value) (o_t_readFrame : Value) (o_t_readPairs : Value) (o_t_readPair : Value) (o_t_changes : Value) (o_t_change : Value) (o_t_queue : Value) (o_t_steps : Value) (o_t_end : Value) (o_t_sent : Value) (o_t_firstSent : Value) (o_t_wasEnd : Value) (o_t_wasSent : Value) (o_t_guesses : Value) (o_t_guessHouse : Value) (o_t_guessWorth : Value) (o_t_booked : Value) (o_t_book : Value) (o_t_images : Value) (o_t_isKept : Value) (i_t_texted : Int32) (f_t_text : Nat → Int32) (z_i_t_at0 : Int32) (z_i_t_said : Int64) (z_i_t_wordEnd : Int32) (C0 : CX p s m args meth c cX9_readWord 2 none wsX9_readWord RX9) (hA : ∀ q, s.heap.size ≤ q → A q) (hK : KZ D cy A s) (hret : ∀ (H : Heap) (locs : List Loc) (ls : Array Slot) (pc : Nat), decode cX9_readWord pc = .ok (.return_, 1) → va_P D vwCl [(a_t, .inr (9, [o_t_places, o_t_words, o_t_kind, o_t_worths, o_t_frames, o_t_frame, o_t_pairs, o_t_pair, o_t_letters, o_t_standing, o_t_isStanding, o_t_worthOf, o_t_law, o_t_way, o_t_letter, o_t_turn, o_t_isSettled, o_t_had, o_t_logged, o_t_logWho, o_t_logFrom, o_t_logTo, o_t_seed, .ref a_t_text, .int i_t_texted, o_t_faultPlace, .int z_i_t_at0, .long z_i_t_said, .int z_i_t_wordEnd, o_t_number, o_t_numberAt, o_t_readPlaces, o_t_readWords, o_t_readKind, o_t_readWorth, o_t_readFrames, o_t_readFrame, o_t_readPairs, o_t_readPair, o_t_changes, o_t_change, o_t_queue, o_t_steps, o_t_end, o_t_sent, o_t_firstSent, o_t_wasEnd, o_t_wasSent, o_t_guesses, o_t_guessHouse, o_t_guessWorth, o_t_booked, o_t_book, o_t_images, o_t_isKept])), (a_t_text, .inl (cy 0, 500, .inl f_t_text))] H → va_S A s.heap H locs → W p l e rmX9_readWord s m args below meth c H locs 0 0 Q (F0 m pc ls [])) : ∀ (n : Nat) (i_t_at0 : Int32) (i_t_said : Int64) (i_t_wordEnd : Int32), f_X9_readWord_L18 i_t_texted f_t_text n i_t_at0 i_t_said i_t_wordEnd = some (z_i_t_at0, z_i_t_said, z_i_t_wordEnd) → ∀ (H : Heap) (locs : List Loc), va_P D vwCl [(a_t, .inr (9, [o_t_places, o_t_words, o_t_kind, o_t_worths, o_t_frames, o_t_frame, o_t_pairs, o_t_pair, o_t_letters, o_t_standing, o_t_isStanding, o_t_worthOf, o_t_law, o_t_way, o_t_letter, o_t_turn, o_t_isSettled, o_t_had, o_t_logged, o_t_logWho, o_t_logFrom, o_t_logTo, o_t_seed, .ref a_t_text, .int i_t_texted, o_t_faultPlace, .int i_t_at0, .long i_t_said, .int i_t_wordEnd, o_t_number, o_t_numberAt, o_t_readPlaces, o_t_readWords, o_t_readKind, o_t_readWorth, o_t_readFrames, o_t_readFrame, o_t_readPairs, o_t_readPair, o_t_changes, o_t_change, o_t_queue, o_t_steps, o_t_end, o_t_sent, o_t_firstSent, o_t_wasEnd, o_t_wasSent, o_t_guesses, o_t_guessHouse, o_t_guessWorth, o_t_booked, o_t_book, o_t_images, o_t_isKept])), (a_t_text, .inl (cy 0, 500, .inl f_t_text))] H → va_D A [(a_t, .inr (9, [o_t_places, o_t_words, o_t_kind, o_t_worths, o_t_frames, o_t_frame, o_t_pairs, o_t_pair, o_t_letters, o_t_standing, o_t_isStanding, o_t_worthOf, o_t_law, o_t_way, o_t_letter, o_t_turn, o_t_isSettled, o_t_had, o_t_logged, o_t_logWho, o_t_logFrom, o_t_logTo, o_t_seed, .ref a_t_text, .int i_t_texted, o_t_faultPlace, .int i_t_at0, .long i_t_said, .int i_t_wordEnd, o_t_number, o_t_numberAt, o_t_readPlaces, o_t_readWords, o_t_readKind, o_t_readWorth, o_t_readFrames, o_t_readFrame, o_t_readPairs, o_t_readPair, o_t_changes, o_t_change, o_t_queue, o_t_steps, o_t_end, o_t_sent, o_t_firstSent, o_t_wasEnd, o_t_wasSent, o_t_guesses, o_t_guessHouse, o_t_guessWorth, o_t_booked, o_t_book, o_t_images, o_t_isKept])), (a_t_text, .inl (cy 0, 500, .inl f_t_text))] → va_S A s.heap H locs → ∀ ls : Array Slot, lv_has ls 2 [(0, .ref a_t)] → W p l e rmX9_readWord s m args below meth c H locs 0 0 Q (F0 m 18 ls []) := by
  obtain ⟨hx, hb, hr, hml, hown, hts, hlocks⟩ := id C0
  intro n
  induction n with
  | zero => intro _ _ _ hf; rw [f_X9_readWord_L18.eq_1] at hf; cases hf
  | succ n ih =>
    intro i_t_at0 i_t_said i_t_wordEnd hf H locs hP hD hS ls hl
    rw [f_X9_readWord_L18.eq_2] at hf
    refine lv_aload_n hx hb dX9_readWord_18 rfl (lv_at hl 0 rfl) ?_
    refine va_get (D := D) (ci := 9) (v := .int i_t_wordEnd) (C := RX9) (T := TX9) (N := 55) hx hb hts uX9_readWord_X9 hown hK.1.1 hP 0 rfl rfl 28 (by decide) (hts _ mX9_readWord_136) (fun _ h9 => h9) rfl dX9_readWord_19 ?_
    refine lv_aload_n hx hb dX9_readWord_22 rfl (lv_at hl 0 rfl) ?_
    refine va_get (D := D) (ci := 9) (v := .int i_t_texted) (C := RX9) (T := TX9) (N := 55) hx hb hts uX9_readWord_X9 hown hK.1.1 hP 0 rfl rfl 24 (by decide) (hts _ mX9_readWord_119) (fun _ h9 => h9) rfl dX9_readWord_23 ?_
    refine lv_icmp_ge (tgt := 108) hx hb dX9_readWord_26 (by decide) (fun c_4 => ?_) (fun c_4 => ?_)
    · have hf := hb_t hf c_4
      obtain ⟨e_0, e_1, e_2⟩ := tu3 hf
      subst e_0; subst e_1; subst e_2
      exact hret _ _ _ _ dX9_readWord_108 hP hS
    · have hf := hb_f hf c_4
      refine lv_aload_n hx hb dX9_readWord_29 rfl (lv_at hl 0 rfl) ?_
      refine va_get (D := D) (ci := 9) (v := .ref a_t_text) (C := RX9) (T := TX9) (N := 55) hx hb hts uX9_readWord_X9 hown hK.1.1 hP 0 rfl rfl 23 (by decide) (hts _ mX9_readWord_41) (fun _ h9 => h9) rfl dX9_readWord_30 ?_
      refine lv_aload_n hx hb dX9_readWord_33 rfl (lv_at hl 0 rfl) ?_
      refine va_get (D := D) (ci := 9) (v := .int i_t_wordEnd) (C := RX9) (T := TX9) (N := 55) hx hb hts uX9_readWord_X9 hown hK.1.1 hP 0 rfl rfl 28 (by decide) (hts _ mX9_readWord_136) (fun _ h9 => h9) rfl dX9_readWord_34 ?_
      obtain ⟨hg_5, hf⟩ := hb_g hf
      refine va_iald hx hb hK.1.1 hP 1 0 rfl rfl (ixb_in hg_5) dX9_readWord_37 ?_
      refine lv_i2l (v := (((f_t_text (i_t_wordEnd : Int32).toNatClampNeg) : Int32).toInt64)) hx hb dX9_readWord_38 rfl ?_
      refine lv_ldc2 (v := 97) hx hb hown (hts _ mX9_readWord_139) dX9_readWord_39 ?_
      refine lv_ldc2 (v := 122) hx hb hown (hts _ mX9_readWord_141) dX9_readWord_42 ?_
      obtain ⟨r_6, hc_7, hf⟩ := hb_b hf
      refine cl_Si (rest := []) [] C0 hK hP hD hS hA (c_X9_in l D cy (((f_t_text (i_t_wordEnd : Int32).toNatClampNeg) : Int32).toInt64) 97 122 r_6 hc_7) (va_cwS 3 hts gX9_readWord_X9_in rfl rfl rfl (by decide +kernel) ⟨Nat.le_of_ble_eq_true rfl, Nat.le_of_ble_eq_true rfl⟩) rfl rfl rfl rfl hl.1 rfl (Nat.le_of_ble_eq_true rfl) dX9_readWord_45 ⟨Nat.zero_le _, Nat.zero_le _⟩ (fun H locs hP hD hS => ?_)
      have hP : va_P D vwCl [(a_t, .inr (9, [o_t_places, o_t_words, o_t_kind, o_t_worths, o_t_frames, o_t_frame, o_t_pairs, o_t_pair, o_t_letters, o_t_standing, o_t_isStanding, o_t_worthOf, o_t_law, o_t_way, o_t_letter, o_t_turn, o_t_isSettled, o_t_had, o_t_logged, o_t_logWho, o_t_logFrom, o_t_logTo, o_t_seed, .ref a_t_text, .int i_t_texted, o_t_faultPlace, .int i_t_at0, .long i_t_said, .int i_t_wordEnd, o_t_number, o_t_numberAt, o_t_readPlaces, o_t_readWords, o_t_readKind, o_t_readWorth, o_t_readFrames, o_t_readFrame, o_t_readPairs, o_t_readPair, o_t_changes, o_t_change, o_t_queue, o_t_steps, o_t_end, o_t_sent, o_t_firstSent, o_t_wasEnd, o_t_wasSent, o_t_guesses, o_t_guessHouse, o_t_guessWorth, o_t_booked, o_t_book, o_t_images, o_t_isKept])), (a_t_text, .inl (cy 0, 500, .inl f_t_text))] H := hP
      have hD : va_D A [(a_t, .inr (9, [o_t_places, o_t_words, o_t_kind, o_t_worths, o_t_frames, o_t_frame, o_t_pairs, o_t_pair, o_t_letters, o_t_standing, o_t_isStanding, o_t_worthOf, o_t_law, o_t_way, o_t_letter, o_t_turn, o_t_isSettled, o_t_had, o_t_logged, o_t_logWho, o_t_logFrom, o_t_logTo, o_t_seed, .ref a_t_text, .int i_t_texted, o_t_faultPlace, .int i_t_at0, .long i_t_said, .int i_t_wordEnd, o_t_number, o_t_numberAt, o_t_readPlaces, o_t_readWords, o_t_readKind, o_t_readWorth, o_t_readFrames, o_t_readFrame, o_t_readPairs, o_t_readPair, o_t_changes, o_t_change, o_t_queue, o_t_steps, o_t_end, o_t_sent, o_t_firstSent, o_t_wasEnd, o_t_wasSent, o_t_guesses, o_t_guessHouse, o_t_guessWorth, o_t_booked, o_t_book, o_t_images, o_t_isKept])), (a_t_text, .inl (cy 0, 500, .inl f_t_text))] := hD
      refine lv_if_eq (tgt := 108) hx hb dX9_readWord_48 (by decide) (fun c_8 => ?_) (fun c_8 => ?_)
      · have hf := hb_t hf c_8
        obtain ⟨e_0, e_1, e_2⟩ := tu3 hf
        subst e_0; subst e_1; subst e_2
        exact hret _ _ _ _ dX9_readWord_108 hP hS
      · have hf := hb_f hf c_8
        refine lv_aload_n hx hb dX9_readWord_51 rfl (lv_at hl 0 rfl) ?_
        refine lv_aload_n hx hb dX9_readWord_52 rfl (lv_at hl 0 rfl) ?_
        refine va_get (D := D) (ci := 9) (v := .long i_t_said) (C := RX9) (T := TX9) (N := 55) hx hb hts uX9_readWord_X9 hown hK.1.1 hP 0 rfl rfl 27 (by decide) (hts _ mX9_readWord_132) (fun _ h9 => h9) rfl dX9_readWord_53 ?_
        refine lv_ldc2 (v := 1000000000000) hx hb hown (hts _ mX9_readWord_143) dX9_readWord_56 ?_
        refine W.lcmp hx hb dX9_readWord_59 ?_
        refine lv_if_le (tgt := 69) hx hb dX9_readWord_60 (by decide) (fun c_9 => ?_) (fun c_9 => ?_)
        · have hf := hb_t hf c_9
          refine lv_ldc2 (v := 27) hx hb hown (hts _ mX9_readWord_147) dX9_readWord_69 ?_
          refine lv_aload_n hx hb dX9_readWord_72 rfl (lv_at hl 0 rfl) ?_
          refine va_get (D := D) (ci := 9) (v := .long i_t_said) (C := RX9) (T := TX9) (N := 55) hx hb hts uX9_readWord_X9 hown hK.1.1 hP 0 rfl rfl 27 (by decide) (hts _ mX9_readWord_132) (fun _ h9 => h9) rfl dX9_readWord_73 ?_
          refine lv_lmul hx hb dX9_readWord_76 ?_
          refine lv_aload_n hx hb dX9_readWord_77 rfl (lv_at hl 0 rfl) ?_
          refine va_get (D := D) (ci := 9) (v := .ref a_t_text) (C := RX9) (T := TX9) (N := 55) hx hb hts uX9_readWord_X9 hown hK.1.1 hP 0 rfl rfl 23 (by decide) (hts _ mX9_readWord_41) (fun _ h9 => h9) rfl dX9_readWord_78 ?_
          refine lv_aload_n hx hb dX9_readWord_81 rfl (lv_at hl 0 rfl) ?_
          refine va_get (D := D) (ci := 9) (v := .int i_t_wordEnd) (C := RX9) (T := TX9) (N := 55) hx hb hts uX9_readWord_X9 hown hK.1.1 hP 0 rfl rfl 28 (by decide) (hts _ mX9_readWord_136) (fun _ h9 => h9) rfl dX9_readWord_82 ?_
          obtain ⟨hg_10, hf⟩ := hb_g hf
          refine va_iald hx hb hK.1.1 hP 1 0 rfl rfl (ixb_in hg_10) dX9_readWord_85 ?_
          refine lv_i2l (v := (((f_t_text (i_t_wordEnd : Int32).toNatClampNeg) : Int32).toInt64)) hx hb dX9_readWord_86 rfl ?_
          refine lv_ladd hx hb dX9_readWord_87 ?_
          refine lv_ldc2 (v := 96) hx hb hown (hts _ mX9_readWord_149) dX9_readWord_88 ?_
          refine lv_lsub hx hb dX9_readWord_91 ?_
          refine va_put (D := D) (ci := 9) (v := .long (((27 * i_t_said) + (((f_t_text (i_t_wordEnd : Int32).toNatClampNeg) : Int32).toInt64)) - 96)) (ty := .long) (C := RX9) (T := TX9) (N := 55) hx hb hts uX9_readWord_X9 tyX9 tyX9_ok nmX9 hown hK.1.1 hP hD hS 0 rfl rfl 27 (by decide) (hts _ mX9_readWord_132) (fun _ h9 => h9) rfl (by decide +kernel) rfl rfl (Nat.le_of_ble_eq_true rfl) dX9_readWord_92 (fun H locs hP hD hS => ?_)
          have hP : va_P D vwCl [(a_t, .inr (9, [o_t_places, o_t_words, o_t_kind, o_t_worths, o_t_frames, o_t_frame, o_t_pairs, o_t_pair, o_t_letters, o_t_standing, o_t_isStanding, o_t_worthOf, o_t_law, o_t_way, o_t_letter, o_t_turn, o_t_isSettled, o_t_had, o_t_logged, o_t_logWho, o_t_logFrom, o_t_logTo, o_t_seed, .ref a_t_text, .int i_t_texted, o_t_faultPlace, .int i_t_at0, .long (((27 * i_t_said) + (((f_t_text (i_t_wordEnd : Int32).toNatClampNeg) : Int32).toInt64)) - 96), .int i_t_wordEnd, o_t_number, o_t_numberAt, o_t_readPlaces, o_t_readWords, o_t_readKind, o_t_readWorth, o_t_readFrames, o_t_readFrame, o_t_readPairs, o_t_readPair, o_t_changes, o_t_change, o_t_queue, o_t_steps, o_t_end, o_t_sent, o_t_firstSent, o_t_wasEnd, o_t_wasSent, o_t_guesses, o_t_guessHouse, o_t_guessWorth, o_t_booked, o_t_book, o_t_images, o_t_isKept])), (a_t_text, .inl (cy 0, 500, .inl f_t_text))] H := hP
          have hD : va_D A [(a_t, .inr (9, [o_t_places, o_t_words, o_t_kind, o_t_worths, o_t_frames, o_t_frame, o_t_pairs, o_t_pair, o_t_letters, o_t_standing, o_t_isStanding, o_t_worthOf, o_t_law, o_t_way, o_t_letter, o_t_turn, o_t_isSettled, o_t_had, o_t_logged, o_t_logWho, o_t_logFrom, o_t_logTo, o_t_seed, .ref a_t_text, .int i_t_texted, o_t_faultPlace, .int i_t_at0, .long (((27 * i_t_said) + (((f_t_text (i_t_wordEnd : Int32).toNatClampNeg) : Int32).toInt64)) - 96), .int i_t_wordEnd, o_t_number, o_t_numberAt, o_t_readPlaces, o_t_readWords, o_t_readKind, o_t_readWorth, o_t_readFrames, o_t_readFrame, o_t_readPairs, o_t_readPair, o_t_changes, o_t_change, o_t_queue, o_t_steps, o_t_end, o_t_sent, o_t_firstSent, o_t_wasEnd, o_t_wasSent, o_t_guesses, o_t_guessHouse, o_t_guessWorth, o_t_booked, o_t_book, o_t_images, o_t_isKept])), (a_t_text, .inl (cy 0, 500, .inl f_t_text))] := hD
          refine lv_aload_n hx hb dX9_readWord_95 rfl (lv_at hl 0 rfl) ?_
          refine lv_dup hx hb dX9_readWord_96 rfl ?_
          refine va_get (D := D) (ci := 9) (v := .int i_t_wordEnd) (C := RX9) (T := TX9) (N := 55) hx hb hts uX9_readWord_X9 hown hK.1.1 hP 0 rfl rfl 28 (by decide) (hts _ mX9_readWord_136) (fun _ h9 => h9) rfl dX9_readWord_97 ?_
          refine lv_iconst (v := 1) hx hb dX9_readWord_100 (by decide) ?_
          refine lv_iadd hx hb dX9_readWord_101 ?_
          refine va_put (D := D) (ci := 9) (v := .int (i_t_wordEnd + 1)) (ty := .int) (C := RX9) (T := TX9) (N := 55) hx hb hts uX9_readWord_X9 tyX9 tyX9_ok nmX9 hown hK.1.1 hP hD hS 0 rfl rfl 28 (by decide) (hts _ mX9_readWord_136) (fun _ h9 => h9) rfl (by decide +kernel) rfl rfl (Nat.le_of_ble_eq_true rfl) dX9_readWord_102 (fun H locs hP hD hS => ?_)
          have hP : va_P D vwCl [(a_t, .inr (9, [o_t_places, o_t_words, o_t_kind, o_t_worths, o_t_frames, o_t_frame, o_t_pairs, o_t_pair, o_t_letters, o_t_standing, o_t_isStanding, o_t_worthOf, o_t_law, o_t_way, o_t_letter, o_t_turn, o_t_isSettled, o_t_had, o_t_logged, o_t_logWho, o_t_logFrom, o_t_logTo, o_t_seed, .ref a_t_text, .int i_t_texted, o_t_faultPlace, .int i_t_at0, .long (((27 * i_t_said) + (((f_t_text (i_t_wordEnd : Int32).toNatClampNeg) : Int32).toInt64)) - 96), .int (i_t_wordEnd + 1), o_t_number, o_t_numberAt, o_t_readPlaces, o_t_readWords, o_t_readKind, o_t_readWorth, o_t_readFrames, o_t_readFrame, o_t_readPairs, o_t_readPair, o_t_changes, o_t_change, o_t_queue, o_t_steps, o_t_end, o_t_sent, o_t_firstSent, o_t_wasEnd, o_t_wasSent, o_t_guesses, o_t_guessHouse, o_t_guessWorth, o_t_booked, o_t_book, o_t_images, o_t_isKept])), (a_t_text, .inl (cy 0, 500, .inl f_t_text))] H := hP
          have hD : va_D A [(a_t, .inr (9, [o_t_places, o_t_words, o_t_kind, o_t_worths, o_t_frames, o_t_frame, o_t_pairs, o_t_pair, o_t_letters, o_t_standing, o_t_isStanding, o_t_worthOf, o_t_law, o_t_way, o_t_letter, o_t_turn, o_t_isSettled, o_t_had, o_t_logged, o_t_logWho, o_t_logFrom, o_t_logTo, o_t_seed, .ref a_t_text, .int i_t_texted, o_t_faultPlace, .int i_t_at0, .long (((27 * i_t_said) + (((f_t_text (i_t_wordEnd : Int32).toNatClampNeg) : Int32).toInt64)) - 96), .int (i_t_wordEnd + 1), o_t_number, o_t_numberAt, o_t_readPlaces, o_t_readWords, o_t_readKind, o_t_readWorth, o_t_readFrames, o_t_readFrame, o_t_readPairs, o_t_readPair, o_t_changes, o_t_change, o_t_queue, o_t_steps, o_t_end, o_t_sent, o_t_firstSent, o_t_wasEnd, o_t_wasSent, o_t_guesses, o_t_guessHouse, o_t_guessWorth, o_t_booked, o_t_book, o_t_images, o_t_isKept])), (a_t_text, .inl (cy 0, 500, .inl f_t_text))] := hD
          refine lv_goto (tgt := 18) hx hb dX9_readWord_105 (by decide) ?_
          exact ih i_t_at0 (((27 * i_t_said) + (((f_t_text (i_t_wordEnd : Int32).toNatClampNeg) : Int32).toInt64)) - 96) (i_t_wordEnd + 1) hf _ _ hP hD hS _ (lv_sub hl [0] rfl)
        · have hf := hb_f hf c_9
          refine lv_ldc2 (v := 2000000000000) hx hb hown (hts _ mX9_readWord_145) dX9_readWord_63 ?_
          refine lv_goto (tgt := 92) hx hb dX9_readWord_66 (by decide) ?_
          refine va_put (D := D) (ci := 9) (v := .long 2000000000000) (ty := .long) (C := RX9) (T := TX9) (N := 55) hx hb hts uX9_readWord_X9 tyX9 tyX9_ok nmX9 hown hK.1.1 hP hD hS 0 rfl rfl 27 (by decide) (hts _ mX9_readWord_132) (fun _ h9 => h9) rfl (by decide +kernel) rfl rfl (Nat.le_of_ble_eq_true rfl) dX9_readWord_92 (fun H locs hP hD hS => ?_)
          have hP : va_P D vwCl [(a_t, .inr (9, [o_t_places, o_t_words, o_t_kind, o_t_worths, o_t_frames, o_t_frame, o_t_pairs, o_t_pair, o_t_letters, o_t_standing, o_t_isStanding, o_t_worthOf, o_t_law, o_t_way, o_t_letter, o_t_turn, o_t_isSettled, o_t_had, o_t_logged, o_t_logWho, o_t_logFrom, o_t_logTo, o_t_seed, .ref a_t_text, .int i_t_texted, o_t_faultPlace, .int i_t_at0, .long 2000000000000, .int i_t_wordEnd, o_t_number, o_t_numberAt, o_t_readPlaces, o_t_readWords, o_t_readKind, o_t_readWorth, o_t_readFrames, o_t_readFrame, o_t_readPairs, o_t_readPair, o_t_changes, o_t_change, o_t_queue, o_t_steps, o_t_end, o_t_sent, o_t_firstSent, o_t_wasEnd, o_t_wasSent, o_t_guesses, o_t_guessHouse, o_t_guessWorth, o_t_booked, o_t_book, o_t_images, o_t_isKept])), (a_t_text, .inl (cy 0, 500, .inl f_t_text))] H := hP
          have hD : va_D A [(a_t, .inr (9, [o_t_places, o_t_words, o_t_kind, o_t_worths, o_t_frames, o_t_frame, o_t_pairs, o_t_pair, o_t_letters, o_t_standing, o_t_isStanding, o_t_worthOf, o_t_law, o_t_way, o_t_letter, o_t_turn, o_t_isSettled, o_t_had, o_t_logged, o_t_logWho, o_t_logFrom, o_t_logTo, o_t_seed, .ref a_t_text, .int i_t_texted, o_t_faultPlace, .int i_t_at0, .long 2000000000000, .int i_t_wordEnd, o_t_number, o_t_numberAt, o_t_readPlaces, o_t_readWords, o_t_readKind, o_t_readWorth, o_t_readFrames, o_t_readFrame, o_t_readPairs, o_t_readPair, o_t_changes, o_t_change, o_t_queue, o_t_steps, o_t_end, o_t_sent, o_t_firstSent, o_t_wasEnd, o_t_wasSent, o_t_guesses, o_t_guessHouse, o_t_guessWorth, o_t_booked, o_t_book, o_t_images, o_t_isKept])), (a_t_text, .inl (cy 0, 500, .inl f_t_text))] := hD
          refine lv_aload_n hx hb dX9_readWord_95 rfl (lv_at hl 0 rfl) ?_
          refine lv_dup hx hb dX9_readWord_96 rfl ?_
          refine va_get (D := D) (ci := 9) (v := .int i_t_wordEnd) (C := RX9) (T := TX9) (N := 55) hx hb hts uX9_readWord_X9 hown hK.1.1 hP 0 rfl rfl 28 (by decide) (hts _ mX9_readWord_136) (fun _ h9 => h9) rfl dX9_readWord_97 ?_
          refine lv_iconst (v := 1) hx hb dX9_readWord_100 (by decide) ?_
          refine lv_iadd hx hb dX9_readWord_101 ?_
          refine va_put (D := D) (ci := 9) (v := .int (i_t_wordEnd + 1)) (ty := .int) (C := RX9) (T := TX9) (N := 55) hx hb hts uX9_readWord_X9 tyX9 tyX9_ok nmX9 hown hK.1.1 hP hD hS 0 rfl rfl 28 (by decide) (hts _ mX9_readWord_136) (fun _ h9 => h9) rfl (by decide +kernel) rfl rfl (Nat.le_of_ble_eq_true rfl) dX9_readWord_102 (fun H locs hP hD hS => ?_)
          have hP : va_P D vwCl [(a_t, .inr (9, [o_t_places, o_t_words, o_t_kind, o_t_worths, o_t_frames, o_t_frame, o_t_pairs, o_t_pair, o_t_letters, o_t_standing, o_t_isStanding, o_t_worthOf, o_t_law, o_t_way, o_t_letter, o_t_turn, o_t_isSettled, o_t_had, o_t_logged, o_t_logWho, o_t_logFrom, o_t_logTo, o_t_seed, .ref a_t_text, .int i_t_texted, o_t_faultPlace, .int i_t_at0, .long 2000000000000, .int (i_t_wordEnd + 1), o_t_number, o_t_numberAt, o_t_readPlaces, o_t_readWords, o_t_readKind, o_t_readWorth, o_t_readFrames, o_t_readFrame, o_t_readPairs, o_t_readPair, o_t_changes, o_t_change, o_t_queue, o_t_steps, o_t_end, o_t_sent, o_t_firstSent, o_t_wasEnd, o_t_wasSent, o_t_guesses, o_t_guessHouse, o_t_guessWorth, o_t_booked, o_t_book, o_t_images, o_t_isKept])), (a_t_text, .inl (cy 0, 500, .inl f_t_text))] H := hP
          have hD : va_D A [(a_t, .inr (9, [o_t_places, o_t_words, o_t_kind, o_t_worths, o_t_frames, o_t_frame, o_t_pairs, o_t_pair, o_t_letters, o_t_standing, o_t_isStanding, o_t_worthOf, o_t_law, o_t_way, o_t_letter, o_t_turn, o_t_isSettled, o_t_had, o_t_logged, o_t_logWho, o_t_logFrom, o_t_logTo, o_t_seed, .ref a_t_text, .int i_t_texted, o_t_faultPlace, .int i_t_at0, .long 2000000000000, .int (i_t_wordEnd + 1), o_t_number, o_t_numberAt, o_t_readPlaces, o_t_readWords, o_t_readKind, o_t_readWorth, o_t_readFrames, o_t_readFrame, o_t_readPairs, o_t_readPair, o_t_changes, o_t_change, o_t_queue, o_t_steps, o_t_end, o_t_sent, o_t_firstSent, o_t_wasEnd, o_t_wasSent, o_t_guesses, o_t_guessHouse, o_t_guessWorth, o_t_booked, o_t_book, o_t_images, o_t_isKept])), (a_t_text, .inl (cy 0, 500, .inl f_t_text))] := hD
          refine lv_goto (tgt := 18) hx hb dX9_readWord_105 (by decide) ?_
          exact ih i_t_at0 2000000000000 (i_t_wordEnd + 1) hf _ _ hP hD hS _ (lv_sub hl [0] rfl)
def f_X9_readWord (i_t_texted : Int32) (f_t_text : Nat → Int32) (i_t_at0 : Int32) (i_t_said : Int64) (i_t_wordEnd : Int32) : Option (Int32 × Int64 × Int32) :=
  (f_X9_here i_t_texted f_t_text i_t_at0).bind fun (r_1, z_2) =>
  f_X9_readWord_L18 i_t_texted f_t_text FU z_2 0 z_2
set_option maxRecDepth 100000 in
set_option maxHeartbeats 4000000 in
theorem c_X9_readWord (l : Launch) (D : va_G) (cy : Nat → ClassId) (a_t : Nat) (a_t_text : Nat) (o_t_places : Value) (o_t_words : Value) (o_t_kind : Value) (o_t_worths : Value) (o_t_frames : Value) (o_t_frame : Value) (o_t_pairs : Value) (o_t_pair : Value) (o_t_letters : Value) (o_t_standing : Value) (o_t_isStanding : Value) (o_t_worthOf : Value) (o_t_law : Value) (o_t_way : Value) (o_t_letter : Value) (o_t_turn : Value) (o_t_isSettled : Value) (o_t_had : Value) (o_t_logged : Value) (o_t_logWho : Value) (o_t_logFrom : Value) (o_t_logTo : Value) (o_t_seed : Value) (o_t_faultPlace : Value) (o_t_number : Value) (o_t_numberAt : Value) (o_t_readPlaces : Value) (o_t_readWords : Value) (o_t_readKind : Value) (o_t_readWorth : Value) (o_t_readFrames : Value) (o_t_readFrame : Value) (o_t_readPairs : Value) (o_t_readPair : Value) (o_t_changes : Value) (o_t_change : Value) (o_t_queue : Value) (o_t_steps : Value) (o_t_end : Value) (o_t_sent : Value) (o_t_firstSent : Value) (o_t_wasEnd : Value) (o_t_wasSent : Value) (o_t_guesses : Value) (o_t_guessHouse : Value) (o_t_guessWorth : Value) (o_t_booked : Value) (o_t_book : Value) (o_t_images : Value) (o_t_isKept : Value) (i_t_texted : Int32) (f_t_text : Nat → Int32) (i_t_at0 : Int32) (i_t_said : Int64) (i_t_wordEnd : Int32) (z_i_t_at0 : Int32) (z_i_t_said : Int64) (z_i_t_wordEnd : Int32) (hf : f_X9_readWord i_t_texted f_t_text i_t_at0 i_t_said i_t_wordEnd = some (z_i_t_at0, z_i_t_said, z_i_t_wordEnd)) : MV l D cy yX9_readWord wsX9_readWord rmX9_readWord [.ref a_t] [(a_t, .inr (9, [o_t_places, o_t_words, o_t_kind, o_t_worths, o_t_frames, o_t_frame, o_t_pairs, o_t_pair, o_t_letters, o_t_standing, o_t_isStanding, o_t_worthOf, o_t_law, o_t_way, o_t_letter, o_t_turn, o_t_isSettled, o_t_had, o_t_logged, o_t_logWho, o_t_logFrom, o_t_logTo, o_t_seed, .ref a_t_text, .int i_t_texted, o_t_faultPlace, .int i_t_at0, .long i_t_said, .int i_t_wordEnd, o_t_number, o_t_numberAt, o_t_readPlaces, o_t_readWords, o_t_readKind, o_t_readWorth, o_t_readFrames, o_t_readFrame, o_t_readPairs, o_t_readPair, o_t_changes, o_t_change, o_t_queue, o_t_steps, o_t_end, o_t_sent, o_t_firstSent, o_t_wasEnd, o_t_wasSent, o_t_guesses, o_t_guessHouse, o_t_guessWorth, o_t_booked, o_t_book, o_t_images, o_t_isKept])), (a_t_text, .inl (cy 0, 500, .inl f_t_text))] [(a_t, .inr (9, [o_t_places, o_t_words, o_t_kind, o_t_worths, o_t_frames, o_t_frame, o_t_pairs, o_t_pair, o_t_letters, o_t_standing, o_t_isStanding, o_t_worthOf, o_t_law, o_t_way, o_t_letter, o_t_turn, o_t_isSettled, o_t_had, o_t_logged, o_t_logWho, o_t_logFrom, o_t_logTo, o_t_seed, .ref a_t_text, .int i_t_texted, o_t_faultPlace, .int z_i_t_at0, .long z_i_t_said, .int z_i_t_wordEnd, o_t_number, o_t_numberAt, o_t_readPlaces, o_t_readWords, o_t_readKind, o_t_readWorth, o_t_readFrames, o_t_readFrame, o_t_readPairs, o_t_readPair, o_t_changes, o_t_change, o_t_queue, o_t_steps, o_t_end, o_t_sent, o_t_firstSent, o_t_wasEnd, o_t_wasSent, o_t_guesses, o_t_guessHouse, o_t_guessWorth, o_t_booked, o_t_book, o_t_images, o_t_isKept])), (a_t_text, .inl (cy 0, 500, .inl f_t_text))] := by
  refine st_V (by decide) rfl (Nat.le_of_ble_eq_true rfl) (fun p e s m below meth c A Q ls C0 hA hK hP hD hS hl hret => ?_)
  obtain ⟨hx, hb, hr, hml, hown, hts, hlocks⟩ := id C0
  have hl : lv_has ls 2 [(0, .ref a_t)] := hl
  unfold f_X9_readWord at hf
  refine lv_aload_n hx hb dX9_readWord_0 rfl (lv_at hl 0 rfl) ?_
  obtain ⟨⟨r_1, z_2⟩, hc_3, hf⟩ := hb_b hf
  refine cl_Vi (rest := []) [0, 1] 0 C0 hK hP hD hS hA (c_X9_here l D cy a_t a_t_text o_t_places o_t_words o_t_kind o_t_worths o_t_frames o_t_frame o_t_pairs o_t_pair o_t_letters o_t_standing o_t_isStanding o_t_worthOf o_t_law o_t_way o_t_letter o_t_turn o_t_isSettled o_t_had o_t_logged o_t_logWho o_t_logFrom o_t_logTo o_t_seed o_t_faultPlace (.long i_t_said) (.int i_t_wordEnd) o_t_number o_t_numberAt o_t_readPlaces o_t_readWords o_t_readKind o_t_readWorth o_t_readFrames o_t_readFrame o_t_readPairs o_t_readPair o_t_changes o_t_change o_t_queue o_t_steps o_t_end o_t_sent o_t_firstSent o_t_wasEnd o_t_wasSent o_t_guesses o_t_guessHouse o_t_guessWorth o_t_booked o_t_book o_t_images o_t_isKept i_t_texted f_t_text i_t_at0 r_1 z_2 hc_3) (cwV 0 hts gX9_readWord_X9_here rfl rfl rfl (by decide +kernel) ⟨Nat.le_of_ble_eq_true rfl, Nat.le_of_ble_eq_true rfl⟩) rfl rfl rfl rfl rfl rfl rfl hl.1 rfl (Nat.le_of_ble_eq_true rfl) dX9_readWord_1 ⟨Nat.zero_le _, Nat.zero_le _⟩ (fun H locs hP hD hS => ?_)
  have hP : va_P D vwCl [(a_t, .inr (9, [o_t_places, o_t_words, o_t_kind, o_t_worths, o_t_frames, o_t_frame, o_t_pairs, o_t_pair, o_t_letters, o_t_standing, o_t_isStanding, o_t_worthOf, o_t_law, o_t_way, o_t_letter, o_t_turn, o_t_isSettled, o_t_had, o_t_logged, o_t_logWho, o_t_logFrom, o_t_logTo, o_t_seed, .ref a_t_text, .int i_t_texted, o_t_faultPlace, .int z_2, .long i_t_said, .int i_t_wordEnd, o_t_number, o_t_numberAt, o_t_readPlaces, o_t_readWords, o_t_readKind, o_t_readWorth, o_t_readFrames, o_t_readFrame, o_t_readPairs, o_t_readPair, o_t_changes, o_t_change, o_t_queue, o_t_steps, o_t_end, o_t_sent, o_t_firstSent, o_t_wasEnd, o_t_wasSent, o_t_guesses, o_t_guessHouse, o_t_guessWorth, o_t_booked, o_t_book, o_t_images, o_t_isKept])), (a_t_text, .inl (cy 0, 500, .inl f_t_text))] H := hP
  have hD : va_D A [(a_t, .inr (9, [o_t_places, o_t_words, o_t_kind, o_t_worths, o_t_frames, o_t_frame, o_t_pairs, o_t_pair, o_t_letters, o_t_standing, o_t_isStanding, o_t_worthOf, o_t_law, o_t_way, o_t_letter, o_t_turn, o_t_isSettled, o_t_had, o_t_logged, o_t_logWho, o_t_logFrom, o_t_logTo, o_t_seed, .ref a_t_text, .int i_t_texted, o_t_faultPlace, .int z_2, .long i_t_said, .int i_t_wordEnd, o_t_number, o_t_numberAt, o_t_readPlaces, o_t_readWords, o_t_readKind, o_t_readWorth, o_t_readFrames, o_t_readFrame, o_t_readPairs, o_t_readPair, o_t_changes, o_t_change, o_t_queue, o_t_steps, o_t_end, o_t_sent, o_t_firstSent, o_t_wasEnd, o_t_wasSent, o_t_guesses, o_t_guessHouse, o_t_guessWorth, o_t_booked, o_t_book, o_t_images, o_t_isKept])), (a_t_text, .inl (cy 0, 500, .inl f_t_text))] := hD
  refine lv_istore_n (lv' := [(1, .int r_1), (0, .ref a_t)]) hx hb dX9_readWord_4 rfl hl (by decide) rfl (fun ls hl => ?_)
  refine lv_aload_n hx hb dX9_readWord_5 rfl (lv_at hl 1 rfl) ?_
  refine lv_lconst (v := 0) hx hb dX9_readWord_6 (by decide) ?_
  refine va_put (D := D) (ci := 9) (v := .long 0) (ty := .long) (C := RX9) (T := TX9) (N := 55) hx hb hts uX9_readWord_X9 tyX9 tyX9_ok nmX9 hown hK.1.1 hP hD hS 0 rfl rfl 27 (by decide) (hts _ mX9_readWord_132) (fun _ h9 => h9) rfl (by decide +kernel) rfl rfl (Nat.le_of_ble_eq_true rfl) dX9_readWord_7 (fun H locs hP hD hS => ?_)
  have hP : va_P D vwCl [(a_t, .inr (9, [o_t_places, o_t_words, o_t_kind, o_t_worths, o_t_frames, o_t_frame, o_t_pairs, o_t_pair, o_t_letters, o_t_standing, o_t_isStanding, o_t_worthOf, o_t_law, o_t_way, o_t_letter, o_t_turn, o_t_isSettled, o_t_had, o_t_logged, o_t_logWho, o_t_logFrom, o_t_logTo, o_t_seed, .ref a_t_text, .int i_t_texted, o_t_faultPlace, .int z_2, .long 0, .int i_t_wordEnd, o_t_number, o_t_numberAt, o_t_readPlaces, o_t_readWords, o_t_readKind, o_t_readWorth, o_t_readFrames, o_t_readFrame, o_t_readPairs, o_t_readPair, o_t_changes, o_t_change, o_t_queue, o_t_steps, o_t_end, o_t_sent, o_t_firstSent, o_t_wasEnd, o_t_wasSent, o_t_guesses, o_t_guessHouse, o_t_guessWorth, o_t_booked, o_t_book, o_t_images, o_t_isKept])), (a_t_text, .inl (cy 0, 500, .inl f_t_text))] H := hP
  have hD : va_D A [(a_t, .inr (9, [o_t_places, o_t_words, o_t_kind, o_t_worths, o_t_frames, o_t_frame, o_t_pairs, o_t_pair, o_t_letters, o_t_standing, o_t_isStanding, o_t_worthOf, o_t_law, o_t_way, o_t_letter, o_t_turn, o_t_isSettled, o_t_had, o_t_logged, o_t_logWho, o_t_logFrom, o_t_logTo, o_t_seed, .ref a_t_text, .int i_t_texted, o_t_faultPlace, .int z_2, .long 0, .int i_t_wordEnd, o_t_number, o_t_numberAt, o_t_readPlaces, o_t_readWords, o_t_readKind, o_t_readWorth, o_t_readFrames, o_t_readFrame, o_t_readPairs, o_t_readPair, o_t_changes, o_t_change, o_t_queue, o_t_steps, o_t_end, o_t_sent, o_t_firstSent, o_t_wasEnd, o_t_wasSent, o_t_guesses, o_t_guessHouse, o_t_guessWorth, o_t_booked, o_t_book, o_t_images, o_t_isKept])), (a_t_text, .inl (cy 0, 500, .inl f_t_text))] := hD
  refine lv_aload_n hx hb dX9_readWord_10 rfl (lv_at hl 1 rfl) ?_
  refine lv_aload_n hx hb dX9_readWord_11 rfl (lv_at hl 1 rfl) ?_
  refine va_get (D := D) (ci := 9) (v := .int z_2) (C := RX9) (T := TX9) (N := 55) hx hb hts uX9_readWord_X9 hown hK.1.1 hP 0 rfl rfl 26 (by decide) (hts _ mX9_readWord_125) (fun _ h9 => h9) rfl dX9_readWord_12 ?_
  refine va_put (D := D) (ci := 9) (v := .int z_2) (ty := .int) (C := RX9) (T := TX9) (N := 55) hx hb hts uX9_readWord_X9 tyX9 tyX9_ok nmX9 hown hK.1.1 hP hD hS 0 rfl rfl 28 (by decide) (hts _ mX9_readWord_136) (fun _ h9 => h9) rfl (by decide +kernel) rfl rfl (Nat.le_of_ble_eq_true rfl) dX9_readWord_15 (fun H locs hP hD hS => ?_)
  have hP : va_P D vwCl [(a_t, .inr (9, [o_t_places, o_t_words, o_t_kind, o_t_worths, o_t_frames, o_t_frame, o_t_pairs, o_t_pair, o_t_letters, o_t_standing, o_t_isStanding, o_t_worthOf, o_t_law, o_t_way, o_t_letter, o_t_turn, o_t_isSettled, o_t_had, o_t_logged, o_t_logWho, o_t_logFrom, o_t_logTo, o_t_seed, .ref a_t_text, .int i_t_texted, o_t_faultPlace, .int z_2, .long 0, .int z_2, o_t_number, o_t_numberAt, o_t_readPlaces, o_t_readWords, o_t_readKind, o_t_readWorth, o_t_readFrames, o_t_readFrame, o_t_readPairs, o_t_readPair, o_t_changes, o_t_change, o_t_queue, o_t_steps, o_t_end, o_t_sent, o_t_firstSent, o_t_wasEnd, o_t_wasSent, o_t_guesses, o_t_guessHouse, o_t_guessWorth, o_t_booked, o_t_book, o_t_images, o_t_isKept])), (a_t_text, .inl (cy 0, 500, .inl f_t_text))] H := hP
  have hD : va_D A [(a_t, .inr (9, [o_t_places, o_t_words, o_t_kind, o_t_worths, o_t_frames, o_t_frame, o_t_pairs, o_t_pair, o_t_letters, o_t_standing, o_t_isStanding, o_t_worthOf, o_t_law, o_t_way, o_t_letter, o_t_turn, o_t_isSettled, o_t_had, o_t_logged, o_t_logWho, o_t_logFrom, o_t_logTo, o_t_seed, .ref a_t_text, .int i_t_texted, o_t_faultPlace, .int z_2, .long 0, .int z_2, o_t_number, o_t_numberAt, o_t_readPlaces, o_t_readWords, o_t_readKind, o_t_readWorth, o_t_readFrames, o_t_readFrame, o_t_readPairs, o_t_readPair, o_t_changes, o_t_change, o_t_queue, o_t_steps, o_t_end, o_t_sent, o_t_firstSent, o_t_wasEnd, o_t_wasSent, o_t_guesses, o_t_guessHouse, o_t_guessWorth, o_t_booked, o_t_book, o_t_images, o_t_isKept])), (a_t_text, .inl (cy 0, 500, .inl f_t_text))] := hD
  refine L_X9_readWord_18 l D cy a_t a_t_text o_t_places o_t_words o_t_kind o_t_worths o_t_frames o_t_frame o_t_pairs o_t_pair o_t_letters o_t_standing o_t_isStanding o_t_worthOf o_t_law o_t_way o_t_letter o_t_turn o_t_isSettled o_t_had o_t_logged o_t_logWho o_t_logFrom o_t_logTo o_t_seed o_t_faultPlace o_t_number o_t_numberAt o_t_readPlaces o_t_readWords o_t_readKind o_t_readWorth o_t_readFrames o_t_readFrame o_t_readPairs o_t_readPair o_t_changes o_t_change o_t_queue o_t_steps o_t_end o_t_sent o_t_firstSent o_t_wasEnd o_t_wasSent o_t_guesses o_t_guessHouse o_t_guessWorth o_t_booked o_t_book o_t_images o_t_isKept i_t_texted f_t_text z_i_t_at0 z_i_t_said z_i_t_wordEnd C0 hA hK hret  FU z_2 0 z_2 hf _ _ hP hD hS _ (lv_sub hl [1] rfl)
theorem mX9_code_147 : Cond.constantLong RX9 147 (27) ∈ wsX9_code := by decide +kernel
theorem mX9_code_149 : Cond.constantLong RX9 149 (96) ∈ wsX9_code := by decide +kernel
abbrev rmX9_code : Room := { frames := 0, cells := 0, slots := 0, locals := 0 }
def f_X9_code (p1 : Int32) (p2 : Int32) (p3 : Int32) (p4 : Int32) : Option (Int64) :=
  some (((27 * (((27 * (((27 * (((p1 : Int32).toInt64) - 96)) + ((p2 : Int32).toInt64)) - 96)) + ((p3 : Int32).toInt64)) - 96)) + ((p4 : Int32).toInt64)) - 96)
set_option maxRecDepth 100000 in
set_option maxHeartbeats 4000000 in
theorem c_X9_code (l : Launch) (D : va_G) (cy : Nat → ClassId) (p1 : Int32) (p2 : Int32) (p3 : Int32) (p4 : Int32) (rv : Int64) (hf : f_X9_code p1 p2 p3 p4 = some rv) : ML l D cy yX9_code wsX9_code rmX9_code [.int p1, .int p2, .int p3, .int p4] [] [] rv := by
  refine st_L (by decide) rfl (Nat.le_of_ble_eq_true rfl) (fun p e s m below meth c A Q ls C0 hA hK hP hD hS hl hret => ?_)
  obtain ⟨hx, hb, hr, hml, hown, hts, hlocks⟩ := id C0
  have hl : lv_has ls 4 [(0, .int p1), (1, .int p2), (2, .int p3), (3, .int p4)] := hl
  unfold f_X9_code at hf
  refine lv_ldc2 (v := 27) hx hb hown (hts _ mX9_code_147) dX9_code_0 ?_
  refine lv_ldc2 (v := 27) hx hb hown (hts _ mX9_code_147) dX9_code_3 ?_
  refine lv_ldc2 (v := 27) hx hb hown (hts _ mX9_code_147) dX9_code_6 ?_
  refine lv_iload_n hx hb dX9_code_9 rfl (lv_at hl 0 rfl) ?_
  refine lv_i2l (v := ((p1 : Int32).toInt64)) hx hb dX9_code_10 rfl ?_
  refine lv_ldc2 (v := 96) hx hb hown (hts _ mX9_code_149) dX9_code_11 ?_
  refine lv_lsub hx hb dX9_code_14 ?_
  refine lv_lmul hx hb dX9_code_15 ?_
  refine lv_iload_n hx hb dX9_code_16 rfl (lv_at hl 1 rfl) ?_
  refine lv_i2l (v := ((p2 : Int32).toInt64)) hx hb dX9_code_17 rfl ?_
  refine lv_ladd hx hb dX9_code_18 ?_
  refine lv_ldc2 (v := 96) hx hb hown (hts _ mX9_code_149) dX9_code_19 ?_
  refine lv_lsub hx hb dX9_code_22 ?_
  refine lv_lmul hx hb dX9_code_23 ?_
  refine lv_iload_n hx hb dX9_code_24 rfl (lv_at hl 2 rfl) ?_
  refine lv_i2l (v := ((p3 : Int32).toInt64)) hx hb dX9_code_25 rfl ?_
  refine lv_ladd hx hb dX9_code_26 ?_
  refine lv_ldc2 (v := 96) hx hb hown (hts _ mX9_code_149) dX9_code_27 ?_
  refine lv_lsub hx hb dX9_code_30 ?_
  refine lv_lmul hx hb dX9_code_31 ?_
  refine lv_iload_n hx hb dX9_code_32 rfl (lv_at hl 3 rfl) ?_
  refine lv_i2l (v := ((p4 : Int32).toInt64)) hx hb dX9_code_33 rfl ?_
  refine lv_ladd hx hb dX9_code_34 ?_
  refine lv_ldc2 (v := 96) hx hb hown (hts _ mX9_code_149) dX9_code_35 ?_
  refine lv_lsub hx hb dX9_code_38 ?_
  have hf := Option.some.inj hf
  subst hf
  exact hret _ _ _ _ dX9_code_39 hP hS
theorem mX9_longer_147 : Cond.constantLong RX9 147 (27) ∈ wsX9_longer := by decide +kernel
theorem mX9_longer_149 : Cond.constantLong RX9 149 (96) ∈ wsX9_longer := by decide +kernel
abbrev rmX9_longer : Room := { frames := 0, cells := 0, slots := 0, locals := 0 }
def f_X9_longer (p1 : Int64) (p2 : Int32) : Option (Int64) :=
  some (((27 * p1) + ((p2 : Int32).toInt64)) - 96)
set_option maxRecDepth 100000 in
set_option maxHeartbeats 4000000 in
theorem c_X9_longer (l : Launch) (D : va_G) (cy : Nat → ClassId) (p1 : Int64) (p2 : Int32) (rv : Int64) (hf : f_X9_longer p1 p2 = some rv) : ML l D cy yX9_longer wsX9_longer rmX9_longer [.long p1, .int p2] [] [] rv := by
  refine st_L (by decide) rfl (Nat.le_of_ble_eq_true rfl) (fun p e s m below meth c A Q ls C0 hA hK hP hD hS hl hret => ?_)
  obtain ⟨hx, hb, hr, hml, hown, hts, hlocks⟩ := id C0
  have hl : lv_has ls 3 [(0, .long p1), (2, .int p2)] := hl
  unfold f_X9_longer at hf
  refine lv_ldc2 (v := 27) hx hb hown (hts _ mX9_longer_147) dX9_longer_0 ?_
  refine lv_lload_n hx hb dX9_longer_3 rfl (lv_at hl 0 rfl) ?_
  refine lv_lmul hx hb dX9_longer_4 ?_
  refine lv_iload_n hx hb dX9_longer_5 rfl (lv_at hl 1 rfl) ?_
  refine lv_i2l (v := ((p2 : Int32).toInt64)) hx hb dX9_longer_6 rfl ?_
  refine lv_ladd hx hb dX9_longer_7 ?_
  refine lv_ldc2 (v := 96) hx hb hown (hts _ mX9_longer_149) dX9_longer_8 ?_
  refine lv_lsub hx hb dX9_longer_11 ?_
  have hf := Option.some.inj hf
  subst hf
  exact hret _ _ _ _ dX9_longer_12 hP hS
theorem mX9_takeNumber_151 : Cond.constantLong RX9 151 (48) ∈ wsX9_takeNumber := by decide +kernel
theorem mX9_takeNumber_153 : Cond.constantLong RX9 153 (57) ∈ wsX9_takeNumber := by decide +kernel
theorem mX9_takeNumber_125 : Cond.fieldLink RX9 125 "OneWordLettersModel" "at0" "I" ∈ wsX9_takeNumber := by decide +kernel
theorem uX9_takeNumber_X9 : ∀ w ∈ wsX90, w ∈ wsX9_takeNumber := fun _ h => List.mem_cons_of_mem _ (List.mem_append_right _ h)
theorem mX9_takeNumber_159 : Cond.fieldLink RX9 159 "OneWordLettersModel" "numberAt" "I" ∈ wsX9_takeNumber := by decide +kernel
theorem mX9_takeNumber_162 : Cond.fieldLink RX9 162 "OneWordLettersModel" "number" "I" ∈ wsX9_takeNumber := by decide +kernel
theorem mX9_takeNumber_119 : Cond.fieldLink RX9 119 "OneWordLettersModel" "texted" "I" ∈ wsX9_takeNumber := by decide +kernel
theorem mX9_takeNumber_41 : Cond.fieldLink RX9 41 "OneWordLettersModel" "text" "[I" ∈ wsX9_takeNumber := by decide +kernel
abbrev rmX9_takeNumber : Room := { frames := 1, cells := 0, slots := 0, locals := 25 }
def f_X9_takeNumber_L42 (i_t_texted : Int32) (f_t_text : Nat → Int32) (K0 : Int32 → Int32 → Int32 → Int32 → Int32 → Int32 → Option (Int32 × Int32 × Int32 × Int32 × Int32)) : Nat → Int32 → Int32 → Int32 → Int32 → Int32 → Int32 → Option (Int32 × Int32 × Int32 × Int32 × Int32)
  | 0, _, _, _, _, _, _ => none
  | n + 1, v1, v2, i_t_faultPlace, i_t_at0, i_t_number, i_t_numberAt =>
    if i_t_texted ≤ i_t_at0 then
      K0 v1 v2 i_t_faultPlace i_t_at0 i_t_number i_t_numberAt
    else
      if ixb i_t_at0 500 = true then
      (f_X9_in (((f_t_text (i_t_at0 : Int32).toNatClampNeg) : Int32).toInt64) 48 57).bind fun r_9 =>
      if r_9 = 0 then
        K0 v1 v2 i_t_faultPlace i_t_at0 i_t_number i_t_numberAt
      else
        if i_t_number ≤ 10000 then
          if ixb i_t_at0 500 = true then
          f_X9_takeNumber_L42 i_t_texted f_t_text K0 n v1 v2 i_t_faultPlace (i_t_at0 + 1) (((10 * i_t_number) + (f_t_text (i_t_at0 : Int32).toNatClampNeg)) - 48) i_t_numberAt
          else none
        else
          f_X9_takeNumber_L42 i_t_texted f_t_text K0 n v1 v2 i_t_faultPlace (i_t_at0 + 1) i_t_number i_t_numberAt
      else none
set_option maxRecDepth 100000 in
set_option maxHeartbeats 4000000 in
theorem L_X9_takeNumber_42 {p : Program} {e : Env} {s : State} {m : MethodId} {args : Array Value} {below : List Frame} {meth : Method} {c : Code} {Q : State → Prop} {A : Nat → Prop} (l : Launch) (D : va_G) (cy : Nat → ClassId) (a_t : Nat) (a_t_text : Nat) (o_t_places : Value) (o_t_words : Value) (o_t_kind : Value) (o_t_worths : Value) (o_t_frames : Value) (o_t_frame : Value) (o_t_pairs : Value) (o_t_pair : Value) (o_t_letters : Value) (o_t_standing : Value) (o_t_isStanding : Value) (o_t_worthOf : Value) (o_t_law : Value) (o_t_way : Value) (o_t_letter : Value) (o_t_turn : Value) (o_t_isSettled : Value) (o_t_had : Value) (o_t_logged : Value) (o_t_logWho : Value) (o_t_logFrom : Value) (o_t_logTo : Value) (o_t_seed : Value) (o_t_said : Value) (o_t_wordEnd : Value) (o_t_readPlaces : Value) (o_t_readWords : Value) (o_t_readKind : Value) (o_t_readWorth : Value) (o_t_readFrames : Value) (o_t_readFrame : Value) (o_t_readPairs : Value) (o_t_readPair : Value) (o_t_changes : Value) (o_t_change : Value) (o_t_queue : Value) (o_t_steps : Value) (o_t_end : Value) (o_t_sent : Value) (o_t_firstSent : Value) (o_t_wasEnd : Value) (o_t_wasSent : Value) (o_t_guesses : Value) (o_t_guessHouse : Value) (o_t_guessWorth : Value) (o_t_booked : Value) (o_t_book : Value) (o_t_images : Value) (o_t_isKept : Value) (i_t_texted : Int32) (f_t_text : Nat → Int32) {K0 : Int32 → Int32 → Int32 → Int32 → Int32 → Int32 → Option (Int32 × Int32 × Int32 × Int32 × Int32)} (rv : Int32) (z_i_t_faultPlace : Int32) (z_i_t_at0 : Int32) (z_i_t_number : Int32) (z_i_t_numberAt : Int32) (C0 : CX p s m args meth c cX9_takeNumber 4 (some .int) wsX9_takeNumber RX9) (hA : ∀ q, s.heap.size ≤ q → A q) (hK : KZ D cy A s) (hk0 : ∀ (v1 : Int32) (v2 : Int32) (y_i_t_faultPlace : Int32) (y_i_t_at0 : Int32) (y_i_t_number : Int32) (y_i_t_numberAt : Int32) (H : Heap) (locs : List Loc), K0 v1 v2 y_i_t_faultPlace y_i_t_at0 y_i_t_number y_i_t_numberAt = some (rv, z_i_t_faultPlace, z_i_t_at0, z_i_t_number, z_i_t_numberAt) → va_P D vwCl [(a_t, .inr (9, [o_t_places, o_t_words, o_t_kind, o_t_worths, o_t_frames, o_t_frame, o_t_pairs, o_t_pair, o_t_letters, o_t_standing, o_t_isStanding, o_t_worthOf, o_t_law, o_t_way, o_t_letter, o_t_turn, o_t_isSettled, o_t_had, o_t_logged, o_t_logWho, o_t_logFrom, o_t_logTo, o_t_seed, .ref a_t_text, .int i_t_texted, .int y_i_t_faultPlace, .int y_i_t_at0, o_t_said, o_t_wordEnd, .int y_i_t_number, .int y_i_t_numberAt, o_t_readPlaces, o_t_readWords, o_t_readKind, o_t_readWorth, o_t_readFrames, o_t_readFrame, o_t_readPairs, o_t_readPair, o_t_changes, o_t_change, o_t_queue, o_t_steps, o_t_end, o_t_sent, o_t_firstSent, o_t_wasEnd, o_t_wasSent, o_t_guesses, o_t_guessHouse, o_t_guessWorth, o_t_booked, o_t_book, o_t_images, o_t_isKept])), (a_t_text, .inl (cy 0, 500, .inl f_t_text))] H → va_D A [(a_t, .inr (9, [o_t_places, o_t_words, o_t_kind, o_t_worths, o_t_frames, o_t_frame, o_t_pairs, o_t_pair, o_t_letters, o_t_standing, o_t_isStanding, o_t_worthOf, o_t_law, o_t_way, o_t_letter, o_t_turn, o_t_isSettled, o_t_had, o_t_logged, o_t_logWho, o_t_logFrom, o_t_logTo, o_t_seed, .ref a_t_text, .int i_t_texted, .int y_i_t_faultPlace, .int y_i_t_at0, o_t_said, o_t_wordEnd, .int y_i_t_number, .int y_i_t_numberAt, o_t_readPlaces, o_t_readWords, o_t_readKind, o_t_readWorth, o_t_readFrames, o_t_readFrame, o_t_readPairs, o_t_readPair, o_t_changes, o_t_change, o_t_queue, o_t_steps, o_t_end, o_t_sent, o_t_firstSent, o_t_wasEnd, o_t_wasSent, o_t_guesses, o_t_guessHouse, o_t_guessWorth, o_t_booked, o_t_book, o_t_images, o_t_isKept])), (a_t_text, .inl (cy 0, 500, .inl f_t_text))] → va_S A s.heap H locs → ∀ ls : Array Slot, lv_has ls 4 [(0, .ref a_t), (1, .int v1), (2, .int v2)] → W p l e rmX9_takeNumber s m args below meth c H locs 0 0 Q (F0 m 129 ls [])) : ∀ (n : Nat) (v1 : Int32) (v2 : Int32) (i_t_faultPlace : Int32) (i_t_at0 : Int32) (i_t_number : Int32) (i_t_numberAt : Int32), f_X9_takeNumber_L42 i_t_texted f_t_text K0 n v1 v2 i_t_faultPlace i_t_at0 i_t_number i_t_numberAt = some (rv, z_i_t_faultPlace, z_i_t_at0, z_i_t_number, z_i_t_numberAt) → ∀ (H : Heap) (locs : List Loc), va_P D vwCl [(a_t, .inr (9, [o_t_places, o_t_words, o_t_kind, o_t_worths, o_t_frames, o_t_frame, o_t_pairs, o_t_pair, o_t_letters, o_t_standing, o_t_isStanding, o_t_worthOf, o_t_law, o_t_way, o_t_letter, o_t_turn, o_t_isSettled, o_t_had, o_t_logged, o_t_logWho, o_t_logFrom, o_t_logTo, o_t_seed, .ref a_t_text, .int i_t_texted, .int i_t_faultPlace, .int i_t_at0, o_t_said, o_t_wordEnd, .int i_t_number, .int i_t_numberAt, o_t_readPlaces, o_t_readWords, o_t_readKind, o_t_readWorth, o_t_readFrames, o_t_readFrame, o_t_readPairs, o_t_readPair, o_t_changes, o_t_change, o_t_queue, o_t_steps, o_t_end, o_t_sent, o_t_firstSent, o_t_wasEnd, o_t_wasSent, o_t_guesses, o_t_guessHouse, o_t_guessWorth, o_t_booked, o_t_book, o_t_images, o_t_isKept])), (a_t_text, .inl (cy 0, 500, .inl f_t_text))] H → va_D A [(a_t, .inr (9, [o_t_places, o_t_words, o_t_kind, o_t_worths, o_t_frames, o_t_frame, o_t_pairs, o_t_pair, o_t_letters, o_t_standing, o_t_isStanding, o_t_worthOf, o_t_law, o_t_way, o_t_letter, o_t_turn, o_t_isSettled, o_t_had, o_t_logged, o_t_logWho, o_t_logFrom, o_t_logTo, o_t_seed, .ref a_t_text, .int i_t_texted, .int i_t_faultPlace, .int i_t_at0, o_t_said, o_t_wordEnd, .int i_t_number, .int i_t_numberAt, o_t_readPlaces, o_t_readWords, o_t_readKind, o_t_readWorth, o_t_readFrames, o_t_readFrame, o_t_readPairs, o_t_readPair, o_t_changes, o_t_change, o_t_queue, o_t_steps, o_t_end, o_t_sent, o_t_firstSent, o_t_wasEnd, o_t_wasSent, o_t_guesses, o_t_guessHouse, o_t_guessWorth, o_t_booked, o_t_book, o_t_images, o_t_isKept])), (a_t_text, .inl (cy 0, 500, .inl f_t_text))] → va_S A s.heap H locs → ∀ ls : Array Slot, lv_has ls 4 [(0, .ref a_t), (1, .int v1), (2, .int v2)] → W p l e rmX9_takeNumber s m args below meth c H locs 0 0 Q (F0 m 42 ls []) := by
  obtain ⟨hx, hb, hr, hml, hown, hts, hlocks⟩ := id C0
  intro n
  induction n with
  | zero => intro _ _ _ _ _ _ hf; rw [f_X9_takeNumber_L42.eq_1] at hf; cases hf
  | succ n ih =>
    intro v1 v2 i_t_faultPlace i_t_at0 i_t_number i_t_numberAt hf H locs hP hD hS ls hl
    rw [f_X9_takeNumber_L42.eq_2] at hf
    refine lv_aload_n hx hb dX9_takeNumber_42 rfl (lv_at hl 0 rfl) ?_
    refine va_get (D := D) (ci := 9) (v := .int i_t_at0) (C := RX9) (T := TX9) (N := 55) hx hb hts uX9_takeNumber_X9 hown hK.1.1 hP 0 rfl rfl 26 (by decide) (hts _ mX9_takeNumber_125) (fun _ h9 => h9) rfl dX9_takeNumber_43 ?_
    refine lv_aload_n hx hb dX9_takeNumber_46 rfl (lv_at hl 0 rfl) ?_
    refine va_get (D := D) (ci := 9) (v := .int i_t_texted) (C := RX9) (T := TX9) (N := 55) hx hb hts uX9_takeNumber_X9 hown hK.1.1 hP 0 rfl rfl 24 (by decide) (hts _ mX9_takeNumber_119) (fun _ h9 => h9) rfl dX9_takeNumber_47 ?_
    refine lv_icmp_ge (tgt := 129) hx hb dX9_takeNumber_50 (by decide) (fun c_7 => ?_) (fun c_7 => ?_)
    · have hf := hb_t hf c_7
      exact hk0 v1 v2 i_t_faultPlace i_t_at0 i_t_number i_t_numberAt _ _ hf hP hD hS _ (lv_sub hl [0, 1, 2] rfl)
    · have hf := hb_f hf c_7
      refine lv_aload_n hx hb dX9_takeNumber_53 rfl (lv_at hl 0 rfl) ?_
      refine va_get (D := D) (ci := 9) (v := .ref a_t_text) (C := RX9) (T := TX9) (N := 55) hx hb hts uX9_takeNumber_X9 hown hK.1.1 hP 0 rfl rfl 23 (by decide) (hts _ mX9_takeNumber_41) (fun _ h9 => h9) rfl dX9_takeNumber_54 ?_
      refine lv_aload_n hx hb dX9_takeNumber_57 rfl (lv_at hl 0 rfl) ?_
      refine va_get (D := D) (ci := 9) (v := .int i_t_at0) (C := RX9) (T := TX9) (N := 55) hx hb hts uX9_takeNumber_X9 hown hK.1.1 hP 0 rfl rfl 26 (by decide) (hts _ mX9_takeNumber_125) (fun _ h9 => h9) rfl dX9_takeNumber_58 ?_
      obtain ⟨hg_8, hf⟩ := hb_g hf
      refine va_iald hx hb hK.1.1 hP 1 0 rfl rfl (ixb_in hg_8) dX9_takeNumber_61 ?_
      refine lv_i2l (v := (((f_t_text (i_t_at0 : Int32).toNatClampNeg) : Int32).toInt64)) hx hb dX9_takeNumber_62 rfl ?_
      refine lv_ldc2 (v := 48) hx hb hown (hts _ mX9_takeNumber_151) dX9_takeNumber_63 ?_
      refine lv_ldc2 (v := 57) hx hb hown (hts _ mX9_takeNumber_153) dX9_takeNumber_66 ?_
      obtain ⟨r_9, hc_10, hf⟩ := hb_b hf
      refine cl_Si (rest := []) [] C0 hK hP hD hS hA (c_X9_in l D cy (((f_t_text (i_t_at0 : Int32).toNatClampNeg) : Int32).toInt64) 48 57 r_9 hc_10) (va_cwS 3 hts gX9_takeNumber_X9_in rfl rfl rfl (by decide +kernel) ⟨Nat.le_of_ble_eq_true rfl, Nat.le_of_ble_eq_true rfl⟩) rfl rfl rfl rfl hl.1 rfl (Nat.le_of_ble_eq_true rfl) dX9_takeNumber_69 ⟨Nat.zero_le _, Nat.zero_le _⟩ (fun H locs hP hD hS => ?_)
      have hP : va_P D vwCl [(a_t, .inr (9, [o_t_places, o_t_words, o_t_kind, o_t_worths, o_t_frames, o_t_frame, o_t_pairs, o_t_pair, o_t_letters, o_t_standing, o_t_isStanding, o_t_worthOf, o_t_law, o_t_way, o_t_letter, o_t_turn, o_t_isSettled, o_t_had, o_t_logged, o_t_logWho, o_t_logFrom, o_t_logTo, o_t_seed, .ref a_t_text, .int i_t_texted, .int i_t_faultPlace, .int i_t_at0, o_t_said, o_t_wordEnd, .int i_t_number, .int i_t_numberAt, o_t_readPlaces, o_t_readWords, o_t_readKind, o_t_readWorth, o_t_readFrames, o_t_readFrame, o_t_readPairs, o_t_readPair, o_t_changes, o_t_change, o_t_queue, o_t_steps, o_t_end, o_t_sent, o_t_firstSent, o_t_wasEnd, o_t_wasSent, o_t_guesses, o_t_guessHouse, o_t_guessWorth, o_t_booked, o_t_book, o_t_images, o_t_isKept])), (a_t_text, .inl (cy 0, 500, .inl f_t_text))] H := hP
      have hD : va_D A [(a_t, .inr (9, [o_t_places, o_t_words, o_t_kind, o_t_worths, o_t_frames, o_t_frame, o_t_pairs, o_t_pair, o_t_letters, o_t_standing, o_t_isStanding, o_t_worthOf, o_t_law, o_t_way, o_t_letter, o_t_turn, o_t_isSettled, o_t_had, o_t_logged, o_t_logWho, o_t_logFrom, o_t_logTo, o_t_seed, .ref a_t_text, .int i_t_texted, .int i_t_faultPlace, .int i_t_at0, o_t_said, o_t_wordEnd, .int i_t_number, .int i_t_numberAt, o_t_readPlaces, o_t_readWords, o_t_readKind, o_t_readWorth, o_t_readFrames, o_t_readFrame, o_t_readPairs, o_t_readPair, o_t_changes, o_t_change, o_t_queue, o_t_steps, o_t_end, o_t_sent, o_t_firstSent, o_t_wasEnd, o_t_wasSent, o_t_guesses, o_t_guessHouse, o_t_guessWorth, o_t_booked, o_t_book, o_t_images, o_t_isKept])), (a_t_text, .inl (cy 0, 500, .inl f_t_text))] := hD
      refine lv_if_eq (tgt := 129) hx hb dX9_takeNumber_72 (by decide) (fun c_11 => ?_) (fun c_11 => ?_)
      · have hf := hb_t hf c_11
        exact hk0 v1 v2 i_t_faultPlace i_t_at0 i_t_number i_t_numberAt _ _ hf hP hD hS _ (lv_sub hl [0, 1, 2] rfl)
      · have hf := hb_f hf c_11
        refine lv_aload_n hx hb dX9_takeNumber_75 rfl (lv_at hl 0 rfl) ?_
        refine lv_aload_n hx hb dX9_takeNumber_76 rfl (lv_at hl 0 rfl) ?_
        refine va_get (D := D) (ci := 9) (v := .int i_t_number) (C := RX9) (T := TX9) (N := 55) hx hb hts uX9_takeNumber_X9 hown hK.1.1 hP 0 rfl rfl 29 (by decide) (hts _ mX9_takeNumber_162) (fun _ h9 => h9) rfl dX9_takeNumber_77 ?_
        refine lv_sipush (v := 10000) hx hb dX9_takeNumber_80 (by decide) ?_
        refine lv_icmp_le (tgt := 93) hx hb dX9_takeNumber_83 (by decide) (fun c_12 => ?_) (fun c_12 => ?_)
        · have hf := hb_t hf c_12
          refine lv_bipush (v := 10) hx hb dX9_takeNumber_93 (by decide) ?_
          refine lv_aload_n hx hb dX9_takeNumber_95 rfl (lv_at hl 0 rfl) ?_
          refine va_get (D := D) (ci := 9) (v := .int i_t_number) (C := RX9) (T := TX9) (N := 55) hx hb hts uX9_takeNumber_X9 hown hK.1.1 hP 0 rfl rfl 29 (by decide) (hts _ mX9_takeNumber_162) (fun _ h9 => h9) rfl dX9_takeNumber_96 ?_
          refine lv_imul hx hb dX9_takeNumber_99 ?_
          refine lv_aload_n hx hb dX9_takeNumber_100 rfl (lv_at hl 0 rfl) ?_
          refine va_get (D := D) (ci := 9) (v := .ref a_t_text) (C := RX9) (T := TX9) (N := 55) hx hb hts uX9_takeNumber_X9 hown hK.1.1 hP 0 rfl rfl 23 (by decide) (hts _ mX9_takeNumber_41) (fun _ h9 => h9) rfl dX9_takeNumber_101 ?_
          refine lv_aload_n hx hb dX9_takeNumber_104 rfl (lv_at hl 0 rfl) ?_
          refine va_get (D := D) (ci := 9) (v := .int i_t_at0) (C := RX9) (T := TX9) (N := 55) hx hb hts uX9_takeNumber_X9 hown hK.1.1 hP 0 rfl rfl 26 (by decide) (hts _ mX9_takeNumber_125) (fun _ h9 => h9) rfl dX9_takeNumber_105 ?_
          obtain ⟨hg_13, hf⟩ := hb_g hf
          refine va_iald hx hb hK.1.1 hP 1 0 rfl rfl (ixb_in hg_13) dX9_takeNumber_108 ?_
          refine lv_iadd hx hb dX9_takeNumber_109 ?_
          refine lv_bipush (v := 48) hx hb dX9_takeNumber_110 (by decide) ?_
          refine lv_isub hx hb dX9_takeNumber_112 ?_
          refine va_put (D := D) (ci := 9) (v := .int (((10 * i_t_number) + (f_t_text (i_t_at0 : Int32).toNatClampNeg)) - 48)) (ty := .int) (C := RX9) (T := TX9) (N := 55) hx hb hts uX9_takeNumber_X9 tyX9 tyX9_ok nmX9 hown hK.1.1 hP hD hS 0 rfl rfl 29 (by decide) (hts _ mX9_takeNumber_162) (fun _ h9 => h9) rfl (by decide +kernel) rfl rfl (Nat.le_of_ble_eq_true rfl) dX9_takeNumber_113 (fun H locs hP hD hS => ?_)
          have hP : va_P D vwCl [(a_t, .inr (9, [o_t_places, o_t_words, o_t_kind, o_t_worths, o_t_frames, o_t_frame, o_t_pairs, o_t_pair, o_t_letters, o_t_standing, o_t_isStanding, o_t_worthOf, o_t_law, o_t_way, o_t_letter, o_t_turn, o_t_isSettled, o_t_had, o_t_logged, o_t_logWho, o_t_logFrom, o_t_logTo, o_t_seed, .ref a_t_text, .int i_t_texted, .int i_t_faultPlace, .int i_t_at0, o_t_said, o_t_wordEnd, .int (((10 * i_t_number) + (f_t_text (i_t_at0 : Int32).toNatClampNeg)) - 48), .int i_t_numberAt, o_t_readPlaces, o_t_readWords, o_t_readKind, o_t_readWorth, o_t_readFrames, o_t_readFrame, o_t_readPairs, o_t_readPair, o_t_changes, o_t_change, o_t_queue, o_t_steps, o_t_end, o_t_sent, o_t_firstSent, o_t_wasEnd, o_t_wasSent, o_t_guesses, o_t_guessHouse, o_t_guessWorth, o_t_booked, o_t_book, o_t_images, o_t_isKept])), (a_t_text, .inl (cy 0, 500, .inl f_t_text))] H := hP
          have hD : va_D A [(a_t, .inr (9, [o_t_places, o_t_words, o_t_kind, o_t_worths, o_t_frames, o_t_frame, o_t_pairs, o_t_pair, o_t_letters, o_t_standing, o_t_isStanding, o_t_worthOf, o_t_law, o_t_way, o_t_letter, o_t_turn, o_t_isSettled, o_t_had, o_t_logged, o_t_logWho, o_t_logFrom, o_t_logTo, o_t_seed, .ref a_t_text, .int i_t_texted, .int i_t_faultPlace, .int i_t_at0, o_t_said, o_t_wordEnd, .int (((10 * i_t_number) + (f_t_text (i_t_at0 : Int32).toNatClampNeg)) - 48), .int i_t_numberAt, o_t_readPlaces, o_t_readWords, o_t_readKind, o_t_readWorth, o_t_readFrames, o_t_readFrame, o_t_readPairs, o_t_readPair, o_t_changes, o_t_change, o_t_queue, o_t_steps, o_t_end, o_t_sent, o_t_firstSent, o_t_wasEnd, o_t_wasSent, o_t_guesses, o_t_guessHouse, o_t_guessWorth, o_t_booked, o_t_book, o_t_images, o_t_isKept])), (a_t_text, .inl (cy 0, 500, .inl f_t_text))] := hD
          refine lv_aload_n hx hb dX9_takeNumber_116 rfl (lv_at hl 0 rfl) ?_
          refine lv_dup hx hb dX9_takeNumber_117 rfl ?_
          refine va_get (D := D) (ci := 9) (v := .int i_t_at0) (C := RX9) (T := TX9) (N := 55) hx hb hts uX9_takeNumber_X9 hown hK.1.1 hP 0 rfl rfl 26 (by decide) (hts _ mX9_takeNumber_125) (fun _ h9 => h9) rfl dX9_takeNumber_118 ?_
          refine lv_iconst (v := 1) hx hb dX9_takeNumber_121 (by decide) ?_
          refine lv_iadd hx hb dX9_takeNumber_122 ?_
          refine va_put (D := D) (ci := 9) (v := .int (i_t_at0 + 1)) (ty := .int) (C := RX9) (T := TX9) (N := 55) hx hb hts uX9_takeNumber_X9 tyX9 tyX9_ok nmX9 hown hK.1.1 hP hD hS 0 rfl rfl 26 (by decide) (hts _ mX9_takeNumber_125) (fun _ h9 => h9) rfl (by decide +kernel) rfl rfl (Nat.le_of_ble_eq_true rfl) dX9_takeNumber_123 (fun H locs hP hD hS => ?_)
          have hP : va_P D vwCl [(a_t, .inr (9, [o_t_places, o_t_words, o_t_kind, o_t_worths, o_t_frames, o_t_frame, o_t_pairs, o_t_pair, o_t_letters, o_t_standing, o_t_isStanding, o_t_worthOf, o_t_law, o_t_way, o_t_letter, o_t_turn, o_t_isSettled, o_t_had, o_t_logged, o_t_logWho, o_t_logFrom, o_t_logTo, o_t_seed, .ref a_t_text, .int i_t_texted, .int i_t_faultPlace, .int (i_t_at0 + 1), o_t_said, o_t_wordEnd, .int (((10 * i_t_number) + (f_t_text (i_t_at0 : Int32).toNatClampNeg)) - 48), .int i_t_numberAt, o_t_readPlaces, o_t_readWords, o_t_readKind, o_t_readWorth, o_t_readFrames, o_t_readFrame, o_t_readPairs, o_t_readPair, o_t_changes, o_t_change, o_t_queue, o_t_steps, o_t_end, o_t_sent, o_t_firstSent, o_t_wasEnd, o_t_wasSent, o_t_guesses, o_t_guessHouse, o_t_guessWorth, o_t_booked, o_t_book, o_t_images, o_t_isKept])), (a_t_text, .inl (cy 0, 500, .inl f_t_text))] H := hP
          have hD : va_D A [(a_t, .inr (9, [o_t_places, o_t_words, o_t_kind, o_t_worths, o_t_frames, o_t_frame, o_t_pairs, o_t_pair, o_t_letters, o_t_standing, o_t_isStanding, o_t_worthOf, o_t_law, o_t_way, o_t_letter, o_t_turn, o_t_isSettled, o_t_had, o_t_logged, o_t_logWho, o_t_logFrom, o_t_logTo, o_t_seed, .ref a_t_text, .int i_t_texted, .int i_t_faultPlace, .int (i_t_at0 + 1), o_t_said, o_t_wordEnd, .int (((10 * i_t_number) + (f_t_text (i_t_at0 : Int32).toNatClampNeg)) - 48), .int i_t_numberAt, o_t_readPlaces, o_t_readWords, o_t_readKind, o_t_readWorth, o_t_readFrames, o_t_readFrame, o_t_readPairs, o_t_readPair, o_t_changes, o_t_change, o_t_queue, o_t_steps, o_t_end, o_t_sent, o_t_firstSent, o_t_wasEnd, o_t_wasSent, o_t_guesses, o_t_guessHouse, o_t_guessWorth, o_t_booked, o_t_book, o_t_images, o_t_isKept])), (a_t_text, .inl (cy 0, 500, .inl f_t_text))] := hD
          refine lv_goto (tgt := 42) hx hb dX9_takeNumber_126 (by decide) ?_
          exact ih v1 v2 i_t_faultPlace (i_t_at0 + 1) (((10 * i_t_number) + (f_t_text (i_t_at0 : Int32).toNatClampNeg)) - 48) i_t_numberAt hf _ _ hP hD hS _ (lv_sub hl [0, 1, 2] rfl)
        · have hf := hb_f hf c_12
          refine lv_aload_n hx hb dX9_takeNumber_86 rfl (lv_at hl 0 rfl) ?_
          refine va_get (D := D) (ci := 9) (v := .int i_t_number) (C := RX9) (T := TX9) (N := 55) hx hb hts uX9_takeNumber_X9 hown hK.1.1 hP 0 rfl rfl 29 (by decide) (hts _ mX9_takeNumber_162) (fun _ h9 => h9) rfl dX9_takeNumber_87 ?_
          refine lv_goto (tgt := 113) hx hb dX9_takeNumber_90 (by decide) ?_
          refine va_put (D := D) (ci := 9) (v := .int i_t_number) (ty := .int) (C := RX9) (T := TX9) (N := 55) hx hb hts uX9_takeNumber_X9 tyX9 tyX9_ok nmX9 hown hK.1.1 hP hD hS 0 rfl rfl 29 (by decide) (hts _ mX9_takeNumber_162) (fun _ h9 => h9) rfl (by decide +kernel) rfl rfl (Nat.le_of_ble_eq_true rfl) dX9_takeNumber_113 (fun H locs hP hD hS => ?_)
          have hP : va_P D vwCl [(a_t, .inr (9, [o_t_places, o_t_words, o_t_kind, o_t_worths, o_t_frames, o_t_frame, o_t_pairs, o_t_pair, o_t_letters, o_t_standing, o_t_isStanding, o_t_worthOf, o_t_law, o_t_way, o_t_letter, o_t_turn, o_t_isSettled, o_t_had, o_t_logged, o_t_logWho, o_t_logFrom, o_t_logTo, o_t_seed, .ref a_t_text, .int i_t_texted, .int i_t_faultPlace, .int i_t_at0, o_t_said, o_t_wordEnd, .int i_t_number, .int i_t_numberAt, o_t_readPlaces, o_t_readWords, o_t_readKind, o_t_readWorth, o_t_readFrames, o_t_readFrame, o_t_readPairs, o_t_readPair, o_t_changes, o_t_change, o_t_queue, o_t_steps, o_t_end, o_t_sent, o_t_firstSent, o_t_wasEnd, o_t_wasSent, o_t_guesses, o_t_guessHouse, o_t_guessWorth, o_t_booked, o_t_book, o_t_images, o_t_isKept])), (a_t_text, .inl (cy 0, 500, .inl f_t_text))] H := hP
          have hD : va_D A [(a_t, .inr (9, [o_t_places, o_t_words, o_t_kind, o_t_worths, o_t_frames, o_t_frame, o_t_pairs, o_t_pair, o_t_letters, o_t_standing, o_t_isStanding, o_t_worthOf, o_t_law, o_t_way, o_t_letter, o_t_turn, o_t_isSettled, o_t_had, o_t_logged, o_t_logWho, o_t_logFrom, o_t_logTo, o_t_seed, .ref a_t_text, .int i_t_texted, .int i_t_faultPlace, .int i_t_at0, o_t_said, o_t_wordEnd, .int i_t_number, .int i_t_numberAt, o_t_readPlaces, o_t_readWords, o_t_readKind, o_t_readWorth, o_t_readFrames, o_t_readFrame, o_t_readPairs, o_t_readPair, o_t_changes, o_t_change, o_t_queue, o_t_steps, o_t_end, o_t_sent, o_t_firstSent, o_t_wasEnd, o_t_wasSent, o_t_guesses, o_t_guessHouse, o_t_guessWorth, o_t_booked, o_t_book, o_t_images, o_t_isKept])), (a_t_text, .inl (cy 0, 500, .inl f_t_text))] := hD
          refine lv_aload_n hx hb dX9_takeNumber_116 rfl (lv_at hl 0 rfl) ?_
          refine lv_dup hx hb dX9_takeNumber_117 rfl ?_
          refine va_get (D := D) (ci := 9) (v := .int i_t_at0) (C := RX9) (T := TX9) (N := 55) hx hb hts uX9_takeNumber_X9 hown hK.1.1 hP 0 rfl rfl 26 (by decide) (hts _ mX9_takeNumber_125) (fun _ h9 => h9) rfl dX9_takeNumber_118 ?_
          refine lv_iconst (v := 1) hx hb dX9_takeNumber_121 (by decide) ?_
          refine lv_iadd hx hb dX9_takeNumber_122 ?_
          refine va_put (D := D) (ci := 9) (v := .int (i_t_at0 + 1)) (ty := .int) (C := RX9) (T := TX9) (N := 55) hx hb hts uX9_takeNumber_X9 tyX9 tyX9_ok nmX9 hown hK.1.1 hP hD hS 0 rfl rfl 26 (by decide) (hts _ mX9_takeNumber_125) (fun _ h9 => h9) rfl (by decide +kernel) rfl rfl (Nat.le_of_ble_eq_true rfl) dX9_takeNumber_123 (fun H locs hP hD hS => ?_)
          have hP : va_P D vwCl [(a_t, .inr (9, [o_t_places, o_t_words, o_t_kind, o_t_worths, o_t_frames, o_t_frame, o_t_pairs, o_t_pair, o_t_letters, o_t_standing, o_t_isStanding, o_t_worthOf, o_t_law, o_t_way, o_t_letter, o_t_turn, o_t_isSettled, o_t_had, o_t_logged, o_t_logWho, o_t_logFrom, o_t_logTo, o_t_seed, .ref a_t_text, .int i_t_texted, .int i_t_faultPlace, .int (i_t_at0 + 1), o_t_said, o_t_wordEnd, .int i_t_number, .int i_t_numberAt, o_t_readPlaces, o_t_readWords, o_t_readKind, o_t_readWorth, o_t_readFrames, o_t_readFrame, o_t_readPairs, o_t_readPair, o_t_changes, o_t_change, o_t_queue, o_t_steps, o_t_end, o_t_sent, o_t_firstSent, o_t_wasEnd, o_t_wasSent, o_t_guesses, o_t_guessHouse, o_t_guessWorth, o_t_booked, o_t_book, o_t_images, o_t_isKept])), (a_t_text, .inl (cy 0, 500, .inl f_t_text))] H := hP
          have hD : va_D A [(a_t, .inr (9, [o_t_places, o_t_words, o_t_kind, o_t_worths, o_t_frames, o_t_frame, o_t_pairs, o_t_pair, o_t_letters, o_t_standing, o_t_isStanding, o_t_worthOf, o_t_law, o_t_way, o_t_letter, o_t_turn, o_t_isSettled, o_t_had, o_t_logged, o_t_logWho, o_t_logFrom, o_t_logTo, o_t_seed, .ref a_t_text, .int i_t_texted, .int i_t_faultPlace, .int (i_t_at0 + 1), o_t_said, o_t_wordEnd, .int i_t_number, .int i_t_numberAt, o_t_readPlaces, o_t_readWords, o_t_readKind, o_t_readWorth, o_t_readFrames, o_t_readFrame, o_t_readPairs, o_t_readPair, o_t_changes, o_t_change, o_t_queue, o_t_steps, o_t_end, o_t_sent, o_t_firstSent, o_t_wasEnd, o_t_wasSent, o_t_guesses, o_t_guessHouse, o_t_guessWorth, o_t_booked, o_t_book, o_t_images, o_t_isKept])), (a_t_text, .inl (cy 0, 500, .inl f_t_text))] := hD
          refine lv_goto (tgt := 42) hx hb dX9_takeNumber_126 (by decide) ?_
          exact ih v1 v2 i_t_faultPlace (i_t_at0 + 1) i_t_number i_t_numberAt hf _ _ hP hD hS _ (lv_sub hl [0, 1, 2] rfl)
def f_X9_takeNumber (i_t_texted : Int32) (f_t_text : Nat → Int32) (i_t_faultPlace : Int32) (i_t_at0 : Int32) (i_t_number : Int32) (i_t_numberAt : Int32) (p1 : Int32) (p2 : Int32) : Option (Int32 × Int32 × Int32 × Int32 × Int32) :=
  (f_X9_here i_t_texted f_t_text i_t_at0).bind fun (r_1, z_2) =>
  (f_X9_in ((r_1 : Int32).toInt64) 48 57).bind fun r_4 =>
  if r_4 = 0 then
    (f_X9_fails i_t_faultPlace 1 z_2).bind fun (r_30, z_31) =>
    some (r_30, z_31, z_2, i_t_number, i_t_numberAt)
  else
    f_X9_takeNumber_L42 i_t_texted f_t_text (fun (v1_14 : Int32) (v2_15 : Int32) (z_16 : Int32) (z_17 : Int32) (z_18 : Int32) (z_19 : Int32) =>
      if 3 < (z_17 - z_19) then
        (f_X9_fails z_16 2 z_19).bind fun (r_21, z_22) =>
        some (r_21, z_22, z_17, z_18, z_19)
      else
        (f_X9_in ((z_18 : Int32).toInt64) ((v1_14 : Int32).toInt64) ((v2_15 : Int32).toInt64)).bind fun r_24 =>
        if r_24 = 0 then
          (f_X9_fails z_16 2 z_19).bind fun (r_27, z_28) =>
          some (r_27, z_28, z_17, z_18, z_19)
        else
          some (0, z_16, z_17, z_18, z_19)) FU p1 p2 i_t_faultPlace z_2 0 z_2
set_option maxRecDepth 100000 in
set_option maxHeartbeats 4000000 in
theorem c_X9_takeNumber (l : Launch) (D : va_G) (cy : Nat → ClassId) (a_t : Nat) (a_t_text : Nat) (o_t_places : Value) (o_t_words : Value) (o_t_kind : Value) (o_t_worths : Value) (o_t_frames : Value) (o_t_frame : Value) (o_t_pairs : Value) (o_t_pair : Value) (o_t_letters : Value) (o_t_standing : Value) (o_t_isStanding : Value) (o_t_worthOf : Value) (o_t_law : Value) (o_t_way : Value) (o_t_letter : Value) (o_t_turn : Value) (o_t_isSettled : Value) (o_t_had : Value) (o_t_logged : Value) (o_t_logWho : Value) (o_t_logFrom : Value) (o_t_logTo : Value) (o_t_seed : Value) (o_t_said : Value) (o_t_wordEnd : Value) (o_t_readPlaces : Value) (o_t_readWords : Value) (o_t_readKind : Value) (o_t_readWorth : Value) (o_t_readFrames : Value) (o_t_readFrame : Value) (o_t_readPairs : Value) (o_t_readPair : Value) (o_t_changes : Value) (o_t_change : Value) (o_t_queue : Value) (o_t_steps : Value) (o_t_end : Value) (o_t_sent : Value) (o_t_firstSent : Value) (o_t_wasEnd : Value) (o_t_wasSent : Value) (o_t_guesses : Value) (o_t_guessHouse : Value) (o_t_guessWorth : Value) (o_t_booked : Value) (o_t_book : Value) (o_t_images : Value) (o_t_isKept : Value) (i_t_texted : Int32) (f_t_text : Nat → Int32) (i_t_faultPlace : Int32) (i_t_at0 : Int32) (i_t_number : Int32) (i_t_numberAt : Int32) (p1 : Int32) (p2 : Int32) (rv : Int32) (z_i_t_faultPlace : Int32) (z_i_t_at0 : Int32) (z_i_t_number : Int32) (z_i_t_numberAt : Int32) (hf : f_X9_takeNumber i_t_texted f_t_text i_t_faultPlace i_t_at0 i_t_number i_t_numberAt p1 p2 = some (rv, z_i_t_faultPlace, z_i_t_at0, z_i_t_number, z_i_t_numberAt)) : MI l D cy yX9_takeNumber wsX9_takeNumber rmX9_takeNumber [.ref a_t, .int p1, .int p2] [(a_t, .inr (9, [o_t_places, o_t_words, o_t_kind, o_t_worths, o_t_frames, o_t_frame, o_t_pairs, o_t_pair, o_t_letters, o_t_standing, o_t_isStanding, o_t_worthOf, o_t_law, o_t_way, o_t_letter, o_t_turn, o_t_isSettled, o_t_had, o_t_logged, o_t_logWho, o_t_logFrom, o_t_logTo, o_t_seed, .ref a_t_text, .int i_t_texted, .int i_t_faultPlace, .int i_t_at0, o_t_said, o_t_wordEnd, .int i_t_number, .int i_t_numberAt, o_t_readPlaces, o_t_readWords, o_t_readKind, o_t_readWorth, o_t_readFrames, o_t_readFrame, o_t_readPairs, o_t_readPair, o_t_changes, o_t_change, o_t_queue, o_t_steps, o_t_end, o_t_sent, o_t_firstSent, o_t_wasEnd, o_t_wasSent, o_t_guesses, o_t_guessHouse, o_t_guessWorth, o_t_booked, o_t_book, o_t_images, o_t_isKept])), (a_t_text, .inl (cy 0, 500, .inl f_t_text))] [(a_t, .inr (9, [o_t_places, o_t_words, o_t_kind, o_t_worths, o_t_frames, o_t_frame, o_t_pairs, o_t_pair, o_t_letters, o_t_standing, o_t_isStanding, o_t_worthOf, o_t_law, o_t_way, o_t_letter, o_t_turn, o_t_isSettled, o_t_had, o_t_logged, o_t_logWho, o_t_logFrom, o_t_logTo, o_t_seed, .ref a_t_text, .int i_t_texted, .int z_i_t_faultPlace, .int z_i_t_at0, o_t_said, o_t_wordEnd, .int z_i_t_number, .int z_i_t_numberAt, o_t_readPlaces, o_t_readWords, o_t_readKind, o_t_readWorth, o_t_readFrames, o_t_readFrame, o_t_readPairs, o_t_readPair, o_t_changes, o_t_change, o_t_queue, o_t_steps, o_t_end, o_t_sent, o_t_firstSent, o_t_wasEnd, o_t_wasSent, o_t_guesses, o_t_guessHouse, o_t_guessWorth, o_t_booked, o_t_book, o_t_images, o_t_isKept])), (a_t_text, .inl (cy 0, 500, .inl f_t_text))] rv := by
  refine st_I (by decide) rfl (Nat.le_of_ble_eq_true rfl) (fun p e s m below meth c A Q ls C0 hA hK hP hD hS hl hret => ?_)
  obtain ⟨hx, hb, hr, hml, hown, hts, hlocks⟩ := id C0
  have hl : lv_has ls 4 [(0, .ref a_t), (1, .int p1), (2, .int p2)] := hl
  unfold f_X9_takeNumber at hf
  refine lv_aload_n hx hb dX9_takeNumber_0 rfl (lv_at hl 0 rfl) ?_
  obtain ⟨⟨r_1, z_2⟩, hc_3, hf⟩ := hb_b hf
  refine cl_Vi (rest := []) [0, 1] 0 C0 hK hP hD hS hA (c_X9_here l D cy a_t a_t_text o_t_places o_t_words o_t_kind o_t_worths o_t_frames o_t_frame o_t_pairs o_t_pair o_t_letters o_t_standing o_t_isStanding o_t_worthOf o_t_law o_t_way o_t_letter o_t_turn o_t_isSettled o_t_had o_t_logged o_t_logWho o_t_logFrom o_t_logTo o_t_seed (.int i_t_faultPlace) o_t_said o_t_wordEnd (.int i_t_number) (.int i_t_numberAt) o_t_readPlaces o_t_readWords o_t_readKind o_t_readWorth o_t_readFrames o_t_readFrame o_t_readPairs o_t_readPair o_t_changes o_t_change o_t_queue o_t_steps o_t_end o_t_sent o_t_firstSent o_t_wasEnd o_t_wasSent o_t_guesses o_t_guessHouse o_t_guessWorth o_t_booked o_t_book o_t_images o_t_isKept i_t_texted f_t_text i_t_at0 r_1 z_2 hc_3) (cwV 0 hts gX9_takeNumber_X9_here rfl rfl rfl (by decide +kernel) ⟨Nat.le_of_ble_eq_true rfl, Nat.le_of_ble_eq_true rfl⟩) rfl rfl rfl rfl rfl rfl rfl hl.1 rfl (Nat.le_of_ble_eq_true rfl) dX9_takeNumber_1 ⟨Nat.zero_le _, Nat.zero_le _⟩ (fun H locs hP hD hS => ?_)
  have hP : va_P D vwCl [(a_t, .inr (9, [o_t_places, o_t_words, o_t_kind, o_t_worths, o_t_frames, o_t_frame, o_t_pairs, o_t_pair, o_t_letters, o_t_standing, o_t_isStanding, o_t_worthOf, o_t_law, o_t_way, o_t_letter, o_t_turn, o_t_isSettled, o_t_had, o_t_logged, o_t_logWho, o_t_logFrom, o_t_logTo, o_t_seed, .ref a_t_text, .int i_t_texted, .int i_t_faultPlace, .int z_2, o_t_said, o_t_wordEnd, .int i_t_number, .int i_t_numberAt, o_t_readPlaces, o_t_readWords, o_t_readKind, o_t_readWorth, o_t_readFrames, o_t_readFrame, o_t_readPairs, o_t_readPair, o_t_changes, o_t_change, o_t_queue, o_t_steps, o_t_end, o_t_sent, o_t_firstSent, o_t_wasEnd, o_t_wasSent, o_t_guesses, o_t_guessHouse, o_t_guessWorth, o_t_booked, o_t_book, o_t_images, o_t_isKept])), (a_t_text, .inl (cy 0, 500, .inl f_t_text))] H := hP
  have hD : va_D A [(a_t, .inr (9, [o_t_places, o_t_words, o_t_kind, o_t_worths, o_t_frames, o_t_frame, o_t_pairs, o_t_pair, o_t_letters, o_t_standing, o_t_isStanding, o_t_worthOf, o_t_law, o_t_way, o_t_letter, o_t_turn, o_t_isSettled, o_t_had, o_t_logged, o_t_logWho, o_t_logFrom, o_t_logTo, o_t_seed, .ref a_t_text, .int i_t_texted, .int i_t_faultPlace, .int z_2, o_t_said, o_t_wordEnd, .int i_t_number, .int i_t_numberAt, o_t_readPlaces, o_t_readWords, o_t_readKind, o_t_readWorth, o_t_readFrames, o_t_readFrame, o_t_readPairs, o_t_readPair, o_t_changes, o_t_change, o_t_queue, o_t_steps, o_t_end, o_t_sent, o_t_firstSent, o_t_wasEnd, o_t_wasSent, o_t_guesses, o_t_guessHouse, o_t_guessWorth, o_t_booked, o_t_book, o_t_images, o_t_isKept])), (a_t_text, .inl (cy 0, 500, .inl f_t_text))] := hD
  refine lv_istore_n (lv' := [(3, .int r_1), (0, .ref a_t), (1, .int p1), (2, .int p2)]) hx hb dX9_takeNumber_4 rfl hl (by decide) rfl (fun ls hl => ?_)
  refine lv_iload_n hx hb dX9_takeNumber_5 rfl (lv_at hl 0 rfl) ?_
  refine lv_i2l (v := ((r_1 : Int32).toInt64)) hx hb dX9_takeNumber_6 rfl ?_
  refine lv_ldc2 (v := 48) hx hb hown (hts _ mX9_takeNumber_151) dX9_takeNumber_7 ?_
  refine lv_ldc2 (v := 57) hx hb hown (hts _ mX9_takeNumber_153) dX9_takeNumber_10 ?_
  obtain ⟨r_4, hc_5, hf⟩ := hb_b hf
  refine cl_Si (rest := []) [] C0 hK hP hD hS hA (c_X9_in l D cy ((r_1 : Int32).toInt64) 48 57 r_4 hc_5) (va_cwS 3 hts gX9_takeNumber_X9_in rfl rfl rfl (by decide +kernel) ⟨Nat.le_of_ble_eq_true rfl, Nat.le_of_ble_eq_true rfl⟩) rfl rfl rfl rfl hl.1 rfl (Nat.le_of_ble_eq_true rfl) dX9_takeNumber_13 ⟨Nat.zero_le _, Nat.zero_le _⟩ (fun H locs hP hD hS => ?_)
  have hP : va_P D vwCl [(a_t, .inr (9, [o_t_places, o_t_words, o_t_kind, o_t_worths, o_t_frames, o_t_frame, o_t_pairs, o_t_pair, o_t_letters, o_t_standing, o_t_isStanding, o_t_worthOf, o_t_law, o_t_way, o_t_letter, o_t_turn, o_t_isSettled, o_t_had, o_t_logged, o_t_logWho, o_t_logFrom, o_t_logTo, o_t_seed, .ref a_t_text, .int i_t_texted, .int i_t_faultPlace, .int z_2, o_t_said, o_t_wordEnd, .int i_t_number, .int i_t_numberAt, o_t_readPlaces, o_t_readWords, o_t_readKind, o_t_readWorth, o_t_readFrames, o_t_readFrame, o_t_readPairs, o_t_readPair, o_t_changes, o_t_change, o_t_queue, o_t_steps, o_t_end, o_t_sent, o_t_firstSent, o_t_wasEnd, o_t_wasSent, o_t_guesses, o_t_guessHouse, o_t_guessWorth, o_t_booked, o_t_book, o_t_images, o_t_isKept])), (a_t_text, .inl (cy 0, 500, .inl f_t_text))] H := hP
  have hD : va_D A [(a_t, .inr (9, [o_t_places, o_t_words, o_t_kind, o_t_worths, o_t_frames, o_t_frame, o_t_pairs, o_t_pair, o_t_letters, o_t_standing, o_t_isStanding, o_t_worthOf, o_t_law, o_t_way, o_t_letter, o_t_turn, o_t_isSettled, o_t_had, o_t_logged, o_t_logWho, o_t_logFrom, o_t_logTo, o_t_seed, .ref a_t_text, .int i_t_texted, .int i_t_faultPlace, .int z_2, o_t_said, o_t_wordEnd, .int i_t_number, .int i_t_numberAt, o_t_readPlaces, o_t_readWords, o_t_readKind, o_t_readWorth, o_t_readFrames, o_t_readFrame, o_t_readPairs, o_t_readPair, o_t_changes, o_t_change, o_t_queue, o_t_steps, o_t_end, o_t_sent, o_t_firstSent, o_t_wasEnd, o_t_wasSent, o_t_guesses, o_t_guessHouse, o_t_guessWorth, o_t_booked, o_t_book, o_t_images, o_t_isKept])), (a_t_text, .inl (cy 0, 500, .inl f_t_text))] := hD
  refine lv_if_ne (tgt := 29) hx hb dX9_takeNumber_16 (by decide) (fun c_6 => ?_) (fun c_6 => ?_)
  · have hf := hb_f hf c_6
    refine lv_aload_n hx hb dX9_takeNumber_29 rfl (lv_at hl 1 rfl) ?_
    refine lv_aload_n hx hb dX9_takeNumber_30 rfl (lv_at hl 1 rfl) ?_
    refine va_get (D := D) (ci := 9) (v := .int z_2) (C := RX9) (T := TX9) (N := 55) hx hb hts uX9_takeNumber_X9 hown hK.1.1 hP 0 rfl rfl 26 (by decide) (hts _ mX9_takeNumber_125) (fun _ h9 => h9) rfl dX9_takeNumber_31 ?_
    refine va_put (D := D) (ci := 9) (v := .int z_2) (ty := .int) (C := RX9) (T := TX9) (N := 55) hx hb hts uX9_takeNumber_X9 tyX9 tyX9_ok nmX9 hown hK.1.1 hP hD hS 0 rfl rfl 30 (by decide) (hts _ mX9_takeNumber_159) (fun _ h9 => h9) rfl (by decide +kernel) rfl rfl (Nat.le_of_ble_eq_true rfl) dX9_takeNumber_34 (fun H locs hP hD hS => ?_)
    have hP : va_P D vwCl [(a_t, .inr (9, [o_t_places, o_t_words, o_t_kind, o_t_worths, o_t_frames, o_t_frame, o_t_pairs, o_t_pair, o_t_letters, o_t_standing, o_t_isStanding, o_t_worthOf, o_t_law, o_t_way, o_t_letter, o_t_turn, o_t_isSettled, o_t_had, o_t_logged, o_t_logWho, o_t_logFrom, o_t_logTo, o_t_seed, .ref a_t_text, .int i_t_texted, .int i_t_faultPlace, .int z_2, o_t_said, o_t_wordEnd, .int i_t_number, .int z_2, o_t_readPlaces, o_t_readWords, o_t_readKind, o_t_readWorth, o_t_readFrames, o_t_readFrame, o_t_readPairs, o_t_readPair, o_t_changes, o_t_change, o_t_queue, o_t_steps, o_t_end, o_t_sent, o_t_firstSent, o_t_wasEnd, o_t_wasSent, o_t_guesses, o_t_guessHouse, o_t_guessWorth, o_t_booked, o_t_book, o_t_images, o_t_isKept])), (a_t_text, .inl (cy 0, 500, .inl f_t_text))] H := hP
    have hD : va_D A [(a_t, .inr (9, [o_t_places, o_t_words, o_t_kind, o_t_worths, o_t_frames, o_t_frame, o_t_pairs, o_t_pair, o_t_letters, o_t_standing, o_t_isStanding, o_t_worthOf, o_t_law, o_t_way, o_t_letter, o_t_turn, o_t_isSettled, o_t_had, o_t_logged, o_t_logWho, o_t_logFrom, o_t_logTo, o_t_seed, .ref a_t_text, .int i_t_texted, .int i_t_faultPlace, .int z_2, o_t_said, o_t_wordEnd, .int i_t_number, .int z_2, o_t_readPlaces, o_t_readWords, o_t_readKind, o_t_readWorth, o_t_readFrames, o_t_readFrame, o_t_readPairs, o_t_readPair, o_t_changes, o_t_change, o_t_queue, o_t_steps, o_t_end, o_t_sent, o_t_firstSent, o_t_wasEnd, o_t_wasSent, o_t_guesses, o_t_guessHouse, o_t_guessWorth, o_t_booked, o_t_book, o_t_images, o_t_isKept])), (a_t_text, .inl (cy 0, 500, .inl f_t_text))] := hD
    refine lv_aload_n hx hb dX9_takeNumber_37 rfl (lv_at hl 1 rfl) ?_
    refine lv_iconst (v := 0) hx hb dX9_takeNumber_38 (by decide) ?_
    refine va_put (D := D) (ci := 9) (v := .int 0) (ty := .int) (C := RX9) (T := TX9) (N := 55) hx hb hts uX9_takeNumber_X9 tyX9 tyX9_ok nmX9 hown hK.1.1 hP hD hS 0 rfl rfl 29 (by decide) (hts _ mX9_takeNumber_162) (fun _ h9 => h9) rfl (by decide +kernel) rfl rfl (Nat.le_of_ble_eq_true rfl) dX9_takeNumber_39 (fun H locs hP hD hS => ?_)
    have hP : va_P D vwCl [(a_t, .inr (9, [o_t_places, o_t_words, o_t_kind, o_t_worths, o_t_frames, o_t_frame, o_t_pairs, o_t_pair, o_t_letters, o_t_standing, o_t_isStanding, o_t_worthOf, o_t_law, o_t_way, o_t_letter, o_t_turn, o_t_isSettled, o_t_had, o_t_logged, o_t_logWho, o_t_logFrom, o_t_logTo, o_t_seed, .ref a_t_text, .int i_t_texted, .int i_t_faultPlace, .int z_2, o_t_said, o_t_wordEnd, .int 0, .int z_2, o_t_readPlaces, o_t_readWords, o_t_readKind, o_t_readWorth, o_t_readFrames, o_t_readFrame, o_t_readPairs, o_t_readPair, o_t_changes, o_t_change, o_t_queue, o_t_steps, o_t_end, o_t_sent, o_t_firstSent, o_t_wasEnd, o_t_wasSent, o_t_guesses, o_t_guessHouse, o_t_guessWorth, o_t_booked, o_t_book, o_t_images, o_t_isKept])), (a_t_text, .inl (cy 0, 500, .inl f_t_text))] H := hP
    have hD : va_D A [(a_t, .inr (9, [o_t_places, o_t_words, o_t_kind, o_t_worths, o_t_frames, o_t_frame, o_t_pairs, o_t_pair, o_t_letters, o_t_standing, o_t_isStanding, o_t_worthOf, o_t_law, o_t_way, o_t_letter, o_t_turn, o_t_isSettled, o_t_had, o_t_logged, o_t_logWho, o_t_logFrom, o_t_logTo, o_t_seed, .ref a_t_text, .int i_t_texted, .int i_t_faultPlace, .int z_2, o_t_said, o_t_wordEnd, .int 0, .int z_2, o_t_readPlaces, o_t_readWords, o_t_readKind, o_t_readWorth, o_t_readFrames, o_t_readFrame, o_t_readPairs, o_t_readPair, o_t_changes, o_t_change, o_t_queue, o_t_steps, o_t_end, o_t_sent, o_t_firstSent, o_t_wasEnd, o_t_wasSent, o_t_guesses, o_t_guessHouse, o_t_guessWorth, o_t_booked, o_t_book, o_t_images, o_t_isKept])), (a_t_text, .inl (cy 0, 500, .inl f_t_text))] := hD
    refine L_X9_takeNumber_42 l D cy a_t a_t_text o_t_places o_t_words o_t_kind o_t_worths o_t_frames o_t_frame o_t_pairs o_t_pair o_t_letters o_t_standing o_t_isStanding o_t_worthOf o_t_law o_t_way o_t_letter o_t_turn o_t_isSettled o_t_had o_t_logged o_t_logWho o_t_logFrom o_t_logTo o_t_seed o_t_said o_t_wordEnd o_t_readPlaces o_t_readWords o_t_readKind o_t_readWorth o_t_readFrames o_t_readFrame o_t_readPairs o_t_readPair o_t_changes o_t_change o_t_queue o_t_steps o_t_end o_t_sent o_t_firstSent o_t_wasEnd o_t_wasSent o_t_guesses o_t_guessHouse o_t_guessWorth o_t_booked o_t_book o_t_images o_t_isKept i_t_texted f_t_text rv z_i_t_faultPlace z_i_t_at0 z_i_t_number z_i_t_numberAt C0 hA hK (fun v1_14 v2_15 z_16 z_17 z_18 z_19 H locs hf hP hD hS ls hl => ?_) FU p1 p2 i_t_faultPlace z_2 0 z_2 hf _ _ hP hD hS _ (lv_sub hl [1, 2, 3] rfl)
    refine lv_aload_n hx hb dX9_takeNumber_129 rfl (lv_at hl 0 rfl) ?_
    refine va_get (D := D) (ci := 9) (v := .int z_17) (C := RX9) (T := TX9) (N := 55) hx hb hts uX9_takeNumber_X9 hown hK.1.1 hP 0 rfl rfl 26 (by decide) (hts _ mX9_takeNumber_125) (fun _ h9 => h9) rfl dX9_takeNumber_130 ?_
    refine lv_aload_n hx hb dX9_takeNumber_133 rfl (lv_at hl 0 rfl) ?_
    refine va_get (D := D) (ci := 9) (v := .int z_19) (C := RX9) (T := TX9) (N := 55) hx hb hts uX9_takeNumber_X9 hown hK.1.1 hP 0 rfl rfl 30 (by decide) (hts _ mX9_takeNumber_159) (fun _ h9 => h9) rfl dX9_takeNumber_134 ?_
    refine lv_isub hx hb dX9_takeNumber_137 ?_
    refine lv_iconst (v := 3) hx hb dX9_takeNumber_138 (by decide) ?_
    refine lv_icmp_gt (tgt := 157) hx hb dX9_takeNumber_139 (by decide) (fun c_20 => ?_) (fun c_20 => ?_)
    · have hf := hb_t hf c_20
      refine lv_aload_n hx hb dX9_takeNumber_157 rfl (lv_at hl 0 rfl) ?_
      refine lv_iconst (v := 2) hx hb dX9_takeNumber_158 (by decide) ?_
      refine lv_aload_n hx hb dX9_takeNumber_159 rfl (lv_at hl 0 rfl) ?_
      refine va_get (D := D) (ci := 9) (v := .int z_19) (C := RX9) (T := TX9) (N := 55) hx hb hts uX9_takeNumber_X9 hown hK.1.1 hP 0 rfl rfl 30 (by decide) (hts _ mX9_takeNumber_159) (fun _ h9 => h9) rfl dX9_takeNumber_160 ?_
      obtain ⟨⟨r_21, z_22⟩, hc_23, hf⟩ := hb_b hf
      refine cl_Vi (rest := []) [0] 0 C0 hK hP hD hS hA (c_X9_fails l D cy a_t o_t_places o_t_words o_t_kind o_t_worths o_t_frames o_t_frame o_t_pairs o_t_pair o_t_letters o_t_standing o_t_isStanding o_t_worthOf o_t_law o_t_way o_t_letter o_t_turn o_t_isSettled o_t_had o_t_logged o_t_logWho o_t_logFrom o_t_logTo o_t_seed (.ref a_t_text) (.int i_t_texted) (.int z_17) o_t_said o_t_wordEnd (.int z_18) (.int z_19) o_t_readPlaces o_t_readWords o_t_readKind o_t_readWorth o_t_readFrames o_t_readFrame o_t_readPairs o_t_readPair o_t_changes o_t_change o_t_queue o_t_steps o_t_end o_t_sent o_t_firstSent o_t_wasEnd o_t_wasSent o_t_guesses o_t_guessHouse o_t_guessWorth o_t_booked o_t_book o_t_images o_t_isKept z_16 2 z_19 r_21 z_22 hc_23) (cwV 2 hts gX9_takeNumber_X9_fails rfl rfl rfl (by decide +kernel) ⟨Nat.le_of_ble_eq_true rfl, Nat.le_of_ble_eq_true rfl⟩) rfl rfl rfl rfl rfl rfl rfl hl.1 rfl (Nat.le_of_ble_eq_true rfl) dX9_takeNumber_163 ⟨Nat.zero_le _, Nat.zero_le _⟩ (fun H locs hP hD hS => ?_)
      have hP : va_P D vwCl [(a_t, .inr (9, [o_t_places, o_t_words, o_t_kind, o_t_worths, o_t_frames, o_t_frame, o_t_pairs, o_t_pair, o_t_letters, o_t_standing, o_t_isStanding, o_t_worthOf, o_t_law, o_t_way, o_t_letter, o_t_turn, o_t_isSettled, o_t_had, o_t_logged, o_t_logWho, o_t_logFrom, o_t_logTo, o_t_seed, .ref a_t_text, .int i_t_texted, .int z_22, .int z_17, o_t_said, o_t_wordEnd, .int z_18, .int z_19, o_t_readPlaces, o_t_readWords, o_t_readKind, o_t_readWorth, o_t_readFrames, o_t_readFrame, o_t_readPairs, o_t_readPair, o_t_changes, o_t_change, o_t_queue, o_t_steps, o_t_end, o_t_sent, o_t_firstSent, o_t_wasEnd, o_t_wasSent, o_t_guesses, o_t_guessHouse, o_t_guessWorth, o_t_booked, o_t_book, o_t_images, o_t_isKept])), (a_t_text, .inl (cy 0, 500, .inl f_t_text))] H := hP
      have hD : va_D A [(a_t, .inr (9, [o_t_places, o_t_words, o_t_kind, o_t_worths, o_t_frames, o_t_frame, o_t_pairs, o_t_pair, o_t_letters, o_t_standing, o_t_isStanding, o_t_worthOf, o_t_law, o_t_way, o_t_letter, o_t_turn, o_t_isSettled, o_t_had, o_t_logged, o_t_logWho, o_t_logFrom, o_t_logTo, o_t_seed, .ref a_t_text, .int i_t_texted, .int z_22, .int z_17, o_t_said, o_t_wordEnd, .int z_18, .int z_19, o_t_readPlaces, o_t_readWords, o_t_readKind, o_t_readWorth, o_t_readFrames, o_t_readFrame, o_t_readPairs, o_t_readPair, o_t_changes, o_t_change, o_t_queue, o_t_steps, o_t_end, o_t_sent, o_t_firstSent, o_t_wasEnd, o_t_wasSent, o_t_guesses, o_t_guessHouse, o_t_guessWorth, o_t_booked, o_t_book, o_t_images, o_t_isKept])), (a_t_text, .inl (cy 0, 500, .inl f_t_text))] := hD
      refine lv_goto (tgt := 170) hx hb dX9_takeNumber_166 (by decide) ?_
      obtain ⟨e_0, e_1, e_2, e_3, e_4⟩ := tu5 hf
      subst e_0; subst e_1; subst e_2; subst e_3; subst e_4
      exact hret _ _ _ _ dX9_takeNumber_170 rfl hP hS
    · have hf := hb_f hf c_20
      refine lv_aload_n hx hb dX9_takeNumber_142 rfl (lv_at hl 0 rfl) ?_
      refine va_get (D := D) (ci := 9) (v := .int z_18) (C := RX9) (T := TX9) (N := 55) hx hb hts uX9_takeNumber_X9 hown hK.1.1 hP 0 rfl rfl 29 (by decide) (hts _ mX9_takeNumber_162) (fun _ h9 => h9) rfl dX9_takeNumber_143 ?_
      refine lv_i2l (v := ((z_18 : Int32).toInt64)) hx hb dX9_takeNumber_146 rfl ?_
      refine lv_iload_n hx hb dX9_takeNumber_147 rfl (lv_at hl 1 rfl) ?_
      refine lv_i2l (v := ((v1_14 : Int32).toInt64)) hx hb dX9_takeNumber_148 rfl ?_
      refine lv_iload_n hx hb dX9_takeNumber_149 rfl (lv_at hl 2 rfl) ?_
      refine lv_i2l (v := ((v2_15 : Int32).toInt64)) hx hb dX9_takeNumber_150 rfl ?_
      obtain ⟨r_24, hc_25, hf⟩ := hb_b hf
      refine cl_Si (rest := []) [] C0 hK hP hD hS hA (c_X9_in l D cy ((z_18 : Int32).toInt64) ((v1_14 : Int32).toInt64) ((v2_15 : Int32).toInt64) r_24 hc_25) (va_cwS 3 hts gX9_takeNumber_X9_in rfl rfl rfl (by decide +kernel) ⟨Nat.le_of_ble_eq_true rfl, Nat.le_of_ble_eq_true rfl⟩) rfl rfl rfl rfl hl.1 rfl (Nat.le_of_ble_eq_true rfl) dX9_takeNumber_151 ⟨Nat.zero_le _, Nat.zero_le _⟩ (fun H locs hP hD hS => ?_)
      have hP : va_P D vwCl [(a_t, .inr (9, [o_t_places, o_t_words, o_t_kind, o_t_worths, o_t_frames, o_t_frame, o_t_pairs, o_t_pair, o_t_letters, o_t_standing, o_t_isStanding, o_t_worthOf, o_t_law, o_t_way, o_t_letter, o_t_turn, o_t_isSettled, o_t_had, o_t_logged, o_t_logWho, o_t_logFrom, o_t_logTo, o_t_seed, .ref a_t_text, .int i_t_texted, .int z_16, .int z_17, o_t_said, o_t_wordEnd, .int z_18, .int z_19, o_t_readPlaces, o_t_readWords, o_t_readKind, o_t_readWorth, o_t_readFrames, o_t_readFrame, o_t_readPairs, o_t_readPair, o_t_changes, o_t_change, o_t_queue, o_t_steps, o_t_end, o_t_sent, o_t_firstSent, o_t_wasEnd, o_t_wasSent, o_t_guesses, o_t_guessHouse, o_t_guessWorth, o_t_booked, o_t_book, o_t_images, o_t_isKept])), (a_t_text, .inl (cy 0, 500, .inl f_t_text))] H := hP
      have hD : va_D A [(a_t, .inr (9, [o_t_places, o_t_words, o_t_kind, o_t_worths, o_t_frames, o_t_frame, o_t_pairs, o_t_pair, o_t_letters, o_t_standing, o_t_isStanding, o_t_worthOf, o_t_law, o_t_way, o_t_letter, o_t_turn, o_t_isSettled, o_t_had, o_t_logged, o_t_logWho, o_t_logFrom, o_t_logTo, o_t_seed, .ref a_t_text, .int i_t_texted, .int z_16, .int z_17, o_t_said, o_t_wordEnd, .int z_18, .int z_19, o_t_readPlaces, o_t_readWords, o_t_readKind, o_t_readWorth, o_t_readFrames, o_t_readFrame, o_t_readPairs, o_t_readPair, o_t_changes, o_t_change, o_t_queue, o_t_steps, o_t_end, o_t_sent, o_t_firstSent, o_t_wasEnd, o_t_wasSent, o_t_guesses, o_t_guessHouse, o_t_guessWorth, o_t_booked, o_t_book, o_t_images, o_t_isKept])), (a_t_text, .inl (cy 0, 500, .inl f_t_text))] := hD
      refine lv_if_ne (tgt := 169) hx hb dX9_takeNumber_154 (by decide) (fun c_26 => ?_) (fun c_26 => ?_)
      · have hf := hb_f hf c_26
        refine lv_iconst (v := 0) hx hb dX9_takeNumber_169 (by decide) ?_
        obtain ⟨e_0, e_1, e_2, e_3, e_4⟩ := tu5 hf
        subst e_0; subst e_1; subst e_2; subst e_3; subst e_4
        exact hret _ _ _ _ dX9_takeNumber_170 rfl hP hS
      · have hf := hb_t hf c_26
        refine lv_aload_n hx hb dX9_takeNumber_157 rfl (lv_at hl 0 rfl) ?_
        refine lv_iconst (v := 2) hx hb dX9_takeNumber_158 (by decide) ?_
        refine lv_aload_n hx hb dX9_takeNumber_159 rfl (lv_at hl 0 rfl) ?_
        refine va_get (D := D) (ci := 9) (v := .int z_19) (C := RX9) (T := TX9) (N := 55) hx hb hts uX9_takeNumber_X9 hown hK.1.1 hP 0 rfl rfl 30 (by decide) (hts _ mX9_takeNumber_159) (fun _ h9 => h9) rfl dX9_takeNumber_160 ?_
        obtain ⟨⟨r_27, z_28⟩, hc_29, hf⟩ := hb_b hf
        refine cl_Vi (rest := []) [0] 0 C0 hK hP hD hS hA (c_X9_fails l D cy a_t o_t_places o_t_words o_t_kind o_t_worths o_t_frames o_t_frame o_t_pairs o_t_pair o_t_letters o_t_standing o_t_isStanding o_t_worthOf o_t_law o_t_way o_t_letter o_t_turn o_t_isSettled o_t_had o_t_logged o_t_logWho o_t_logFrom o_t_logTo o_t_seed (.ref a_t_text) (.int i_t_texted) (.int z_17) o_t_said o_t_wordEnd (.int z_18) (.int z_19) o_t_readPlaces o_t_readWords o_t_readKind o_t_readWorth o_t_readFrames o_t_readFrame o_t_readPairs o_t_readPair o_t_changes o_t_change o_t_queue o_t_steps o_t_end o_t_sent o_t_firstSent o_t_wasEnd o_t_wasSent o_t_guesses o_t_guessHouse o_t_guessWorth o_t_booked o_t_book o_t_images o_t_isKept z_16 2 z_19 r_27 z_28 hc_29) (cwV 2 hts gX9_takeNumber_X9_fails rfl rfl rfl (by decide +kernel) ⟨Nat.le_of_ble_eq_true rfl, Nat.le_of_ble_eq_true rfl⟩) rfl rfl rfl rfl rfl rfl rfl hl.1 rfl (Nat.le_of_ble_eq_true rfl) dX9_takeNumber_163 ⟨Nat.zero_le _, Nat.zero_le _⟩ (fun H locs hP hD hS => ?_)
        have hP : va_P D vwCl [(a_t, .inr (9, [o_t_places, o_t_words, o_t_kind, o_t_worths, o_t_frames, o_t_frame, o_t_pairs, o_t_pair, o_t_letters, o_t_standing, o_t_isStanding, o_t_worthOf, o_t_law, o_t_way, o_t_letter, o_t_turn, o_t_isSettled, o_t_had, o_t_logged, o_t_logWho, o_t_logFrom, o_t_logTo, o_t_seed, .ref a_t_text, .int i_t_texted, .int z_28, .int z_17, o_t_said, o_t_wordEnd, .int z_18, .int z_19, o_t_readPlaces, o_t_readWords, o_t_readKind, o_t_readWorth, o_t_readFrames, o_t_readFrame, o_t_readPairs, o_t_readPair, o_t_changes, o_t_change, o_t_queue, o_t_steps, o_t_end, o_t_sent, o_t_firstSent, o_t_wasEnd, o_t_wasSent, o_t_guesses, o_t_guessHouse, o_t_guessWorth, o_t_booked, o_t_book, o_t_images, o_t_isKept])), (a_t_text, .inl (cy 0, 500, .inl f_t_text))] H := hP
        have hD : va_D A [(a_t, .inr (9, [o_t_places, o_t_words, o_t_kind, o_t_worths, o_t_frames, o_t_frame, o_t_pairs, o_t_pair, o_t_letters, o_t_standing, o_t_isStanding, o_t_worthOf, o_t_law, o_t_way, o_t_letter, o_t_turn, o_t_isSettled, o_t_had, o_t_logged, o_t_logWho, o_t_logFrom, o_t_logTo, o_t_seed, .ref a_t_text, .int i_t_texted, .int z_28, .int z_17, o_t_said, o_t_wordEnd, .int z_18, .int z_19, o_t_readPlaces, o_t_readWords, o_t_readKind, o_t_readWorth, o_t_readFrames, o_t_readFrame, o_t_readPairs, o_t_readPair, o_t_changes, o_t_change, o_t_queue, o_t_steps, o_t_end, o_t_sent, o_t_firstSent, o_t_wasEnd, o_t_wasSent, o_t_guesses, o_t_guessHouse, o_t_guessWorth, o_t_booked, o_t_book, o_t_images, o_t_isKept])), (a_t_text, .inl (cy 0, 500, .inl f_t_text))] := hD
        refine lv_goto (tgt := 170) hx hb dX9_takeNumber_166 (by decide) ?_
        obtain ⟨e_0, e_1, e_2, e_3, e_4⟩ := tu5 hf
        subst e_0; subst e_1; subst e_2; subst e_3; subst e_4
        exact hret _ _ _ _ dX9_takeNumber_170 rfl hP hS
  · have hf := hb_t hf c_6
    refine lv_aload_n hx hb dX9_takeNumber_19 rfl (lv_at hl 1 rfl) ?_
    refine lv_iconst (v := 1) hx hb dX9_takeNumber_20 (by decide) ?_
    refine lv_aload_n hx hb dX9_takeNumber_21 rfl (lv_at hl 1 rfl) ?_
    refine va_get (D := D) (ci := 9) (v := .int z_2) (C := RX9) (T := TX9) (N := 55) hx hb hts uX9_takeNumber_X9 hown hK.1.1 hP 0 rfl rfl 26 (by decide) (hts _ mX9_takeNumber_125) (fun _ h9 => h9) rfl dX9_takeNumber_22 ?_
    obtain ⟨⟨r_30, z_31⟩, hc_32, hf⟩ := hb_b hf
    refine cl_Vi (rest := []) [0] 0 C0 hK hP hD hS hA (c_X9_fails l D cy a_t o_t_places o_t_words o_t_kind o_t_worths o_t_frames o_t_frame o_t_pairs o_t_pair o_t_letters o_t_standing o_t_isStanding o_t_worthOf o_t_law o_t_way o_t_letter o_t_turn o_t_isSettled o_t_had o_t_logged o_t_logWho o_t_logFrom o_t_logTo o_t_seed (.ref a_t_text) (.int i_t_texted) (.int z_2) o_t_said o_t_wordEnd (.int i_t_number) (.int i_t_numberAt) o_t_readPlaces o_t_readWords o_t_readKind o_t_readWorth o_t_readFrames o_t_readFrame o_t_readPairs o_t_readPair o_t_changes o_t_change o_t_queue o_t_steps o_t_end o_t_sent o_t_firstSent o_t_wasEnd o_t_wasSent o_t_guesses o_t_guessHouse o_t_guessWorth o_t_booked o_t_book o_t_images o_t_isKept i_t_faultPlace 1 z_2 r_30 z_31 hc_32) (cwV 2 hts gX9_takeNumber_X9_fails rfl rfl rfl (by decide +kernel) ⟨Nat.le_of_ble_eq_true rfl, Nat.le_of_ble_eq_true rfl⟩) rfl rfl rfl rfl rfl rfl rfl hl.1 rfl (Nat.le_of_ble_eq_true rfl) dX9_takeNumber_25 ⟨Nat.zero_le _, Nat.zero_le _⟩ (fun H locs hP hD hS => ?_)
    have hP : va_P D vwCl [(a_t, .inr (9, [o_t_places, o_t_words, o_t_kind, o_t_worths, o_t_frames, o_t_frame, o_t_pairs, o_t_pair, o_t_letters, o_t_standing, o_t_isStanding, o_t_worthOf, o_t_law, o_t_way, o_t_letter, o_t_turn, o_t_isSettled, o_t_had, o_t_logged, o_t_logWho, o_t_logFrom, o_t_logTo, o_t_seed, .ref a_t_text, .int i_t_texted, .int z_31, .int z_2, o_t_said, o_t_wordEnd, .int i_t_number, .int i_t_numberAt, o_t_readPlaces, o_t_readWords, o_t_readKind, o_t_readWorth, o_t_readFrames, o_t_readFrame, o_t_readPairs, o_t_readPair, o_t_changes, o_t_change, o_t_queue, o_t_steps, o_t_end, o_t_sent, o_t_firstSent, o_t_wasEnd, o_t_wasSent, o_t_guesses, o_t_guessHouse, o_t_guessWorth, o_t_booked, o_t_book, o_t_images, o_t_isKept])), (a_t_text, .inl (cy 0, 500, .inl f_t_text))] H := hP
    have hD : va_D A [(a_t, .inr (9, [o_t_places, o_t_words, o_t_kind, o_t_worths, o_t_frames, o_t_frame, o_t_pairs, o_t_pair, o_t_letters, o_t_standing, o_t_isStanding, o_t_worthOf, o_t_law, o_t_way, o_t_letter, o_t_turn, o_t_isSettled, o_t_had, o_t_logged, o_t_logWho, o_t_logFrom, o_t_logTo, o_t_seed, .ref a_t_text, .int i_t_texted, .int z_31, .int z_2, o_t_said, o_t_wordEnd, .int i_t_number, .int i_t_numberAt, o_t_readPlaces, o_t_readWords, o_t_readKind, o_t_readWorth, o_t_readFrames, o_t_readFrame, o_t_readPairs, o_t_readPair, o_t_changes, o_t_change, o_t_queue, o_t_steps, o_t_end, o_t_sent, o_t_firstSent, o_t_wasEnd, o_t_wasSent, o_t_guesses, o_t_guessHouse, o_t_guessWorth, o_t_booked, o_t_book, o_t_images, o_t_isKept])), (a_t_text, .inl (cy 0, 500, .inl f_t_text))] := hD
    obtain ⟨e_0, e_1, e_2, e_3, e_4⟩ := tu5 hf
    subst e_0; subst e_1; subst e_2; subst e_3; subst e_4
    exact hret _ _ _ _ dX9_takeNumber_28 rfl hP hS
theorem mX9_takeKind_132 : Cond.fieldLink RX9 132 "OneWordLettersModel" "said" "J" ∈ wsX9_takeKind := by decide +kernel
theorem uX9_takeKind_X9 : ∀ w ∈ wsX90, w ∈ wsX9_takeKind := fun _ h => List.mem_cons_of_mem _ (List.mem_append_right _ h)
theorem mX9_takeKind_125 : Cond.fieldLink RX9 125 "OneWordLettersModel" "at0" "I" ∈ wsX9_takeKind := by decide +kernel
theorem mX9_takeKind_136 : Cond.fieldLink RX9 136 "OneWordLettersModel" "wordEnd" "I" ∈ wsX9_takeKind := by decide +kernel
abbrev rmX9_takeKind : Room := { frames := 2, cells := 0, slots := 0, locals := 46 }
def f_X9_takeKind (i_t_texted : Int32) (n_p1 : Nat) (f_t_text : Nat → Int32) (i_t_faultPlace : Int32) (i_t_at0 : Int32) (i_t_said : Int64) (i_t_wordEnd : Int32) (f_p1 : Nat → Int32) (p2 : Int32) : Option (Int32 × Int32 × Int32 × Int64 × Int32 × (Nat → Int32)) :=
  (f_X9_readWord i_t_texted f_t_text i_t_at0 i_t_said i_t_wordEnd).bind fun (z_1, z_2, z_3) =>
  (f_X9_code 110 97 109 101).bind fun r_5 =>
  if (lg_cmp z_2 r_5) = 0 then
    if ixb p2 n_p1 = true then
    some (0, i_t_faultPlace, z_3, z_2, z_3, (upd f_p1 (p2 : Int32).toNatClampNeg 0))
    else none
  else
    (f_X9_code 100 101 101 100).bind fun r_8 =>
    if (lg_cmp z_2 r_8) = 0 then
      if ixb p2 n_p1 = true then
      some (0, i_t_faultPlace, z_3, z_2, z_3, (upd f_p1 (p2 : Int32).toNatClampNeg 1))
      else none
    else
      (f_X9_code 108 105 110 107).bind fun r_11 =>
      if (lg_cmp z_2 r_11) = 0 then
        if ixb p2 n_p1 = true then
        some (0, i_t_faultPlace, z_3, z_2, z_3, (upd f_p1 (p2 : Int32).toNatClampNeg 2))
        else none
      else
        (f_X9_code 116 117 114 110).bind fun r_14 =>
        if (lg_cmp z_2 r_14) = 0 then
          if ixb p2 n_p1 = true then
          some (0, i_t_faultPlace, z_3, z_2, z_3, (upd f_p1 (p2 : Int32).toNatClampNeg 3))
          else none
        else
          (f_X9_fails i_t_faultPlace 1 z_1).bind fun (r_18, z_19) =>
          some (r_18, z_19, z_1, z_2, z_3, f_p1)
set_option maxRecDepth 100000 in
set_option maxHeartbeats 4000000 in
theorem c_X9_takeKind (l : Launch) (D : va_G) (cy : Nat → ClassId) (a_t : Nat) (a_p1 : Nat) (a_t_text : Nat) (o_t_places : Value) (o_t_words : Value) (o_t_kind : Value) (o_t_worths : Value) (o_t_frames : Value) (o_t_frame : Value) (o_t_pairs : Value) (o_t_pair : Value) (o_t_letters : Value) (o_t_standing : Value) (o_t_isStanding : Value) (o_t_worthOf : Value) (o_t_law : Value) (o_t_way : Value) (o_t_letter : Value) (o_t_turn : Value) (o_t_isSettled : Value) (o_t_had : Value) (o_t_logged : Value) (o_t_logWho : Value) (o_t_logFrom : Value) (o_t_logTo : Value) (o_t_seed : Value) (o_t_number : Value) (o_t_numberAt : Value) (o_t_readPlaces : Value) (o_t_readWords : Value) (o_t_readKind : Value) (o_t_readWorth : Value) (o_t_readFrames : Value) (o_t_readFrame : Value) (o_t_readPairs : Value) (o_t_readPair : Value) (o_t_changes : Value) (o_t_change : Value) (o_t_queue : Value) (o_t_steps : Value) (o_t_end : Value) (o_t_sent : Value) (o_t_firstSent : Value) (o_t_wasEnd : Value) (o_t_wasSent : Value) (o_t_guesses : Value) (o_t_guessHouse : Value) (o_t_guessWorth : Value) (o_t_booked : Value) (o_t_book : Value) (o_t_images : Value) (o_t_isKept : Value) (i_t_texted : Int32) (n_p1 : Nat) (f_t_text : Nat → Int32) (i_t_faultPlace : Int32) (i_t_at0 : Int32) (i_t_said : Int64) (i_t_wordEnd : Int32) (f_p1 : Nat → Int32) (p2 : Int32) (rv : Int32) (z_i_t_faultPlace : Int32) (z_i_t_at0 : Int32) (z_i_t_said : Int64) (z_i_t_wordEnd : Int32) (z_f_p1 : Nat → Int32) (hf : f_X9_takeKind i_t_texted n_p1 f_t_text i_t_faultPlace i_t_at0 i_t_said i_t_wordEnd f_p1 p2 = some (rv, z_i_t_faultPlace, z_i_t_at0, z_i_t_said, z_i_t_wordEnd, z_f_p1)) : MI l D cy yX9_takeKind wsX9_takeKind rmX9_takeKind [.ref a_t, .ref a_p1, .int p2] [(a_t, .inr (9, [o_t_places, o_t_words, o_t_kind, o_t_worths, o_t_frames, o_t_frame, o_t_pairs, o_t_pair, o_t_letters, o_t_standing, o_t_isStanding, o_t_worthOf, o_t_law, o_t_way, o_t_letter, o_t_turn, o_t_isSettled, o_t_had, o_t_logged, o_t_logWho, o_t_logFrom, o_t_logTo, o_t_seed, .ref a_t_text, .int i_t_texted, .int i_t_faultPlace, .int i_t_at0, .long i_t_said, .int i_t_wordEnd, o_t_number, o_t_numberAt, o_t_readPlaces, o_t_readWords, o_t_readKind, o_t_readWorth, o_t_readFrames, o_t_readFrame, o_t_readPairs, o_t_readPair, o_t_changes, o_t_change, o_t_queue, o_t_steps, o_t_end, o_t_sent, o_t_firstSent, o_t_wasEnd, o_t_wasSent, o_t_guesses, o_t_guessHouse, o_t_guessWorth, o_t_booked, o_t_book, o_t_images, o_t_isKept])), (a_p1, .inl (cy 0, n_p1, .inl f_p1)), (a_t_text, .inl (cy 0, 500, .inl f_t_text))] [(a_t, .inr (9, [o_t_places, o_t_words, o_t_kind, o_t_worths, o_t_frames, o_t_frame, o_t_pairs, o_t_pair, o_t_letters, o_t_standing, o_t_isStanding, o_t_worthOf, o_t_law, o_t_way, o_t_letter, o_t_turn, o_t_isSettled, o_t_had, o_t_logged, o_t_logWho, o_t_logFrom, o_t_logTo, o_t_seed, .ref a_t_text, .int i_t_texted, .int z_i_t_faultPlace, .int z_i_t_at0, .long z_i_t_said, .int z_i_t_wordEnd, o_t_number, o_t_numberAt, o_t_readPlaces, o_t_readWords, o_t_readKind, o_t_readWorth, o_t_readFrames, o_t_readFrame, o_t_readPairs, o_t_readPair, o_t_changes, o_t_change, o_t_queue, o_t_steps, o_t_end, o_t_sent, o_t_firstSent, o_t_wasEnd, o_t_wasSent, o_t_guesses, o_t_guessHouse, o_t_guessWorth, o_t_booked, o_t_book, o_t_images, o_t_isKept])), (a_p1, .inl (cy 0, n_p1, .inl z_f_p1)), (a_t_text, .inl (cy 0, 500, .inl f_t_text))] rv := by
  refine st_I (by decide) rfl (Nat.le_of_ble_eq_true rfl) (fun p e s m below meth c A Q ls C0 hA hK hP hD hS hl hret => ?_)
  obtain ⟨hx, hb, hr, hml, hown, hts, hlocks⟩ := id C0
  have hl : lv_has ls 4 [(0, .ref a_t), (1, .ref a_p1), (2, .int p2)] := hl
  unfold f_X9_takeKind at hf
  refine lv_aload_n hx hb dX9_takeKind_0 rfl (lv_at hl 0 rfl) ?_
  obtain ⟨⟨z_1, z_2, z_3⟩, hc_4, hf⟩ := hb_b hf
  refine cl_Vv (rest := []) [0, 2] 0 C0 hK hP hD hS hA (c_X9_readWord l D cy a_t a_t_text o_t_places o_t_words o_t_kind o_t_worths o_t_frames o_t_frame o_t_pairs o_t_pair o_t_letters o_t_standing o_t_isStanding o_t_worthOf o_t_law o_t_way o_t_letter o_t_turn o_t_isSettled o_t_had o_t_logged o_t_logWho o_t_logFrom o_t_logTo o_t_seed (.int i_t_faultPlace) o_t_number o_t_numberAt o_t_readPlaces o_t_readWords o_t_readKind o_t_readWorth o_t_readFrames o_t_readFrame o_t_readPairs o_t_readPair o_t_changes o_t_change o_t_queue o_t_steps o_t_end o_t_sent o_t_firstSent o_t_wasEnd o_t_wasSent o_t_guesses o_t_guessHouse o_t_guessWorth o_t_booked o_t_book o_t_images o_t_isKept i_t_texted f_t_text i_t_at0 i_t_said i_t_wordEnd z_1 z_2 z_3 hc_4) (cwV 0 hts gX9_takeKind_X9_readWord rfl rfl rfl (by decide +kernel) ⟨Nat.le_of_ble_eq_true rfl, Nat.le_of_ble_eq_true rfl⟩) rfl rfl rfl rfl rfl rfl rfl hl.1 rfl (Nat.le_of_ble_eq_true rfl) dX9_takeKind_1 ⟨Nat.zero_le _, Nat.zero_le _⟩ (fun H locs hP hD hS => ?_)
  have hP : va_P D vwCl [(a_t, .inr (9, [o_t_places, o_t_words, o_t_kind, o_t_worths, o_t_frames, o_t_frame, o_t_pairs, o_t_pair, o_t_letters, o_t_standing, o_t_isStanding, o_t_worthOf, o_t_law, o_t_way, o_t_letter, o_t_turn, o_t_isSettled, o_t_had, o_t_logged, o_t_logWho, o_t_logFrom, o_t_logTo, o_t_seed, .ref a_t_text, .int i_t_texted, .int i_t_faultPlace, .int z_1, .long z_2, .int z_3, o_t_number, o_t_numberAt, o_t_readPlaces, o_t_readWords, o_t_readKind, o_t_readWorth, o_t_readFrames, o_t_readFrame, o_t_readPairs, o_t_readPair, o_t_changes, o_t_change, o_t_queue, o_t_steps, o_t_end, o_t_sent, o_t_firstSent, o_t_wasEnd, o_t_wasSent, o_t_guesses, o_t_guessHouse, o_t_guessWorth, o_t_booked, o_t_book, o_t_images, o_t_isKept])), (a_p1, .inl (cy 0, n_p1, .inl f_p1)), (a_t_text, .inl (cy 0, 500, .inl f_t_text))] H := hP
  have hD : va_D A [(a_t, .inr (9, [o_t_places, o_t_words, o_t_kind, o_t_worths, o_t_frames, o_t_frame, o_t_pairs, o_t_pair, o_t_letters, o_t_standing, o_t_isStanding, o_t_worthOf, o_t_law, o_t_way, o_t_letter, o_t_turn, o_t_isSettled, o_t_had, o_t_logged, o_t_logWho, o_t_logFrom, o_t_logTo, o_t_seed, .ref a_t_text, .int i_t_texted, .int i_t_faultPlace, .int z_1, .long z_2, .int z_3, o_t_number, o_t_numberAt, o_t_readPlaces, o_t_readWords, o_t_readKind, o_t_readWorth, o_t_readFrames, o_t_readFrame, o_t_readPairs, o_t_readPair, o_t_changes, o_t_change, o_t_queue, o_t_steps, o_t_end, o_t_sent, o_t_firstSent, o_t_wasEnd, o_t_wasSent, o_t_guesses, o_t_guessHouse, o_t_guessWorth, o_t_booked, o_t_book, o_t_images, o_t_isKept])), (a_p1, .inl (cy 0, n_p1, .inl f_p1)), (a_t_text, .inl (cy 0, 500, .inl f_t_text))] := hD
  refine lv_aload_n hx hb dX9_takeKind_4 rfl (lv_at hl 0 rfl) ?_
  refine va_get (D := D) (ci := 9) (v := .long z_2) (C := RX9) (T := TX9) (N := 55) hx hb hts uX9_takeKind_X9 hown hK.1.1 hP 0 rfl rfl 27 (by decide) (hts _ mX9_takeKind_132) (fun _ h9 => h9) rfl dX9_takeKind_5 ?_
  refine lv_bipush (v := 110) hx hb dX9_takeKind_8 (by decide) ?_
  refine lv_bipush (v := 97) hx hb dX9_takeKind_10 (by decide) ?_
  refine lv_bipush (v := 109) hx hb dX9_takeKind_12 (by decide) ?_
  refine lv_bipush (v := 101) hx hb dX9_takeKind_14 (by decide) ?_
  obtain ⟨r_5, hc_6, hf⟩ := hb_b hf
  refine cl_Sl (rest := [.long z_2]) [] C0 hK hP hD hS hA (c_X9_code l D cy 110 97 109 101 r_5 hc_6) (va_cwS 4 hts gX9_takeKind_X9_code rfl rfl rfl (by decide +kernel) ⟨Nat.le_of_ble_eq_true rfl, Nat.le_of_ble_eq_true rfl⟩) rfl rfl rfl rfl hl.1 rfl (Nat.le_of_ble_eq_true rfl) dX9_takeKind_16 ⟨Nat.zero_le _, Nat.zero_le _⟩ (fun H locs hP hD hS => ?_)
  have hP : va_P D vwCl [(a_t, .inr (9, [o_t_places, o_t_words, o_t_kind, o_t_worths, o_t_frames, o_t_frame, o_t_pairs, o_t_pair, o_t_letters, o_t_standing, o_t_isStanding, o_t_worthOf, o_t_law, o_t_way, o_t_letter, o_t_turn, o_t_isSettled, o_t_had, o_t_logged, o_t_logWho, o_t_logFrom, o_t_logTo, o_t_seed, .ref a_t_text, .int i_t_texted, .int i_t_faultPlace, .int z_1, .long z_2, .int z_3, o_t_number, o_t_numberAt, o_t_readPlaces, o_t_readWords, o_t_readKind, o_t_readWorth, o_t_readFrames, o_t_readFrame, o_t_readPairs, o_t_readPair, o_t_changes, o_t_change, o_t_queue, o_t_steps, o_t_end, o_t_sent, o_t_firstSent, o_t_wasEnd, o_t_wasSent, o_t_guesses, o_t_guessHouse, o_t_guessWorth, o_t_booked, o_t_book, o_t_images, o_t_isKept])), (a_p1, .inl (cy 0, n_p1, .inl f_p1)), (a_t_text, .inl (cy 0, 500, .inl f_t_text))] H := hP
  have hD : va_D A [(a_t, .inr (9, [o_t_places, o_t_words, o_t_kind, o_t_worths, o_t_frames, o_t_frame, o_t_pairs, o_t_pair, o_t_letters, o_t_standing, o_t_isStanding, o_t_worthOf, o_t_law, o_t_way, o_t_letter, o_t_turn, o_t_isSettled, o_t_had, o_t_logged, o_t_logWho, o_t_logFrom, o_t_logTo, o_t_seed, .ref a_t_text, .int i_t_texted, .int i_t_faultPlace, .int z_1, .long z_2, .int z_3, o_t_number, o_t_numberAt, o_t_readPlaces, o_t_readWords, o_t_readKind, o_t_readWorth, o_t_readFrames, o_t_readFrame, o_t_readPairs, o_t_readPair, o_t_changes, o_t_change, o_t_queue, o_t_steps, o_t_end, o_t_sent, o_t_firstSent, o_t_wasEnd, o_t_wasSent, o_t_guesses, o_t_guessHouse, o_t_guessWorth, o_t_booked, o_t_book, o_t_images, o_t_isKept])), (a_p1, .inl (cy 0, n_p1, .inl f_p1)), (a_t_text, .inl (cy 0, 500, .inl f_t_text))] := hD
  refine W.lcmp hx hb dX9_takeKind_19 ?_
  refine lv_if_ne (tgt := 27) hx hb dX9_takeKind_20 (by decide) (fun c_7 => ?_) (fun c_7 => ?_)
  · have hf := hb_f hf c_7
    refine lv_aload_n hx hb dX9_takeKind_27 rfl (lv_at hl 0 rfl) ?_
    refine va_get (D := D) (ci := 9) (v := .long z_2) (C := RX9) (T := TX9) (N := 55) hx hb hts uX9_takeKind_X9 hown hK.1.1 hP 0 rfl rfl 27 (by decide) (hts _ mX9_takeKind_132) (fun _ h9 => h9) rfl dX9_takeKind_28 ?_
    refine lv_bipush (v := 100) hx hb dX9_takeKind_31 (by decide) ?_
    refine lv_bipush (v := 101) hx hb dX9_takeKind_33 (by decide) ?_
    refine lv_bipush (v := 101) hx hb dX9_takeKind_35 (by decide) ?_
    refine lv_bipush (v := 100) hx hb dX9_takeKind_37 (by decide) ?_
    obtain ⟨r_8, hc_9, hf⟩ := hb_b hf
    refine cl_Sl (rest := [.long z_2]) [] C0 hK hP hD hS hA (c_X9_code l D cy 100 101 101 100 r_8 hc_9) (va_cwS 4 hts gX9_takeKind_X9_code rfl rfl rfl (by decide +kernel) ⟨Nat.le_of_ble_eq_true rfl, Nat.le_of_ble_eq_true rfl⟩) rfl rfl rfl rfl hl.1 rfl (Nat.le_of_ble_eq_true rfl) dX9_takeKind_39 ⟨Nat.zero_le _, Nat.zero_le _⟩ (fun H locs hP hD hS => ?_)
    have hP : va_P D vwCl [(a_t, .inr (9, [o_t_places, o_t_words, o_t_kind, o_t_worths, o_t_frames, o_t_frame, o_t_pairs, o_t_pair, o_t_letters, o_t_standing, o_t_isStanding, o_t_worthOf, o_t_law, o_t_way, o_t_letter, o_t_turn, o_t_isSettled, o_t_had, o_t_logged, o_t_logWho, o_t_logFrom, o_t_logTo, o_t_seed, .ref a_t_text, .int i_t_texted, .int i_t_faultPlace, .int z_1, .long z_2, .int z_3, o_t_number, o_t_numberAt, o_t_readPlaces, o_t_readWords, o_t_readKind, o_t_readWorth, o_t_readFrames, o_t_readFrame, o_t_readPairs, o_t_readPair, o_t_changes, o_t_change, o_t_queue, o_t_steps, o_t_end, o_t_sent, o_t_firstSent, o_t_wasEnd, o_t_wasSent, o_t_guesses, o_t_guessHouse, o_t_guessWorth, o_t_booked, o_t_book, o_t_images, o_t_isKept])), (a_p1, .inl (cy 0, n_p1, .inl f_p1)), (a_t_text, .inl (cy 0, 500, .inl f_t_text))] H := hP
    have hD : va_D A [(a_t, .inr (9, [o_t_places, o_t_words, o_t_kind, o_t_worths, o_t_frames, o_t_frame, o_t_pairs, o_t_pair, o_t_letters, o_t_standing, o_t_isStanding, o_t_worthOf, o_t_law, o_t_way, o_t_letter, o_t_turn, o_t_isSettled, o_t_had, o_t_logged, o_t_logWho, o_t_logFrom, o_t_logTo, o_t_seed, .ref a_t_text, .int i_t_texted, .int i_t_faultPlace, .int z_1, .long z_2, .int z_3, o_t_number, o_t_numberAt, o_t_readPlaces, o_t_readWords, o_t_readKind, o_t_readWorth, o_t_readFrames, o_t_readFrame, o_t_readPairs, o_t_readPair, o_t_changes, o_t_change, o_t_queue, o_t_steps, o_t_end, o_t_sent, o_t_firstSent, o_t_wasEnd, o_t_wasSent, o_t_guesses, o_t_guessHouse, o_t_guessWorth, o_t_booked, o_t_book, o_t_images, o_t_isKept])), (a_p1, .inl (cy 0, n_p1, .inl f_p1)), (a_t_text, .inl (cy 0, 500, .inl f_t_text))] := hD
    refine W.lcmp hx hb dX9_takeKind_42 ?_
    refine lv_if_ne (tgt := 50) hx hb dX9_takeKind_43 (by decide) (fun c_10 => ?_) (fun c_10 => ?_)
    · have hf := hb_f hf c_10
      refine lv_aload_n hx hb dX9_takeKind_50 rfl (lv_at hl 0 rfl) ?_
      refine va_get (D := D) (ci := 9) (v := .long z_2) (C := RX9) (T := TX9) (N := 55) hx hb hts uX9_takeKind_X9 hown hK.1.1 hP 0 rfl rfl 27 (by decide) (hts _ mX9_takeKind_132) (fun _ h9 => h9) rfl dX9_takeKind_51 ?_
      refine lv_bipush (v := 108) hx hb dX9_takeKind_54 (by decide) ?_
      refine lv_bipush (v := 105) hx hb dX9_takeKind_56 (by decide) ?_
      refine lv_bipush (v := 110) hx hb dX9_takeKind_58 (by decide) ?_
      refine lv_bipush (v := 107) hx hb dX9_takeKind_60 (by decide) ?_
      obtain ⟨r_11, hc_12, hf⟩ := hb_b hf
      refine cl_Sl (rest := [.long z_2]) [] C0 hK hP hD hS hA (c_X9_code l D cy 108 105 110 107 r_11 hc_12) (va_cwS 4 hts gX9_takeKind_X9_code rfl rfl rfl (by decide +kernel) ⟨Nat.le_of_ble_eq_true rfl, Nat.le_of_ble_eq_true rfl⟩) rfl rfl rfl rfl hl.1 rfl (Nat.le_of_ble_eq_true rfl) dX9_takeKind_62 ⟨Nat.zero_le _, Nat.zero_le _⟩ (fun H locs hP hD hS => ?_)
      have hP : va_P D vwCl [(a_t, .inr (9, [o_t_places, o_t_words, o_t_kind, o_t_worths, o_t_frames, o_t_frame, o_t_pairs, o_t_pair, o_t_letters, o_t_standing, o_t_isStanding, o_t_worthOf, o_t_law, o_t_way, o_t_letter, o_t_turn, o_t_isSettled, o_t_had, o_t_logged, o_t_logWho, o_t_logFrom, o_t_logTo, o_t_seed, .ref a_t_text, .int i_t_texted, .int i_t_faultPlace, .int z_1, .long z_2, .int z_3, o_t_number, o_t_numberAt, o_t_readPlaces, o_t_readWords, o_t_readKind, o_t_readWorth, o_t_readFrames, o_t_readFrame, o_t_readPairs, o_t_readPair, o_t_changes, o_t_change, o_t_queue, o_t_steps, o_t_end, o_t_sent, o_t_firstSent, o_t_wasEnd, o_t_wasSent, o_t_guesses, o_t_guessHouse, o_t_guessWorth, o_t_booked, o_t_book, o_t_images, o_t_isKept])), (a_p1, .inl (cy 0, n_p1, .inl f_p1)), (a_t_text, .inl (cy 0, 500, .inl f_t_text))] H := hP
      have hD : va_D A [(a_t, .inr (9, [o_t_places, o_t_words, o_t_kind, o_t_worths, o_t_frames, o_t_frame, o_t_pairs, o_t_pair, o_t_letters, o_t_standing, o_t_isStanding, o_t_worthOf, o_t_law, o_t_way, o_t_letter, o_t_turn, o_t_isSettled, o_t_had, o_t_logged, o_t_logWho, o_t_logFrom, o_t_logTo, o_t_seed, .ref a_t_text, .int i_t_texted, .int i_t_faultPlace, .int z_1, .long z_2, .int z_3, o_t_number, o_t_numberAt, o_t_readPlaces, o_t_readWords, o_t_readKind, o_t_readWorth, o_t_readFrames, o_t_readFrame, o_t_readPairs, o_t_readPair, o_t_changes, o_t_change, o_t_queue, o_t_steps, o_t_end, o_t_sent, o_t_firstSent, o_t_wasEnd, o_t_wasSent, o_t_guesses, o_t_guessHouse, o_t_guessWorth, o_t_booked, o_t_book, o_t_images, o_t_isKept])), (a_p1, .inl (cy 0, n_p1, .inl f_p1)), (a_t_text, .inl (cy 0, 500, .inl f_t_text))] := hD
      refine W.lcmp hx hb dX9_takeKind_65 ?_
      refine lv_if_ne (tgt := 73) hx hb dX9_takeKind_66 (by decide) (fun c_13 => ?_) (fun c_13 => ?_)
      · have hf := hb_f hf c_13
        refine lv_aload_n hx hb dX9_takeKind_73 rfl (lv_at hl 0 rfl) ?_
        refine va_get (D := D) (ci := 9) (v := .long z_2) (C := RX9) (T := TX9) (N := 55) hx hb hts uX9_takeKind_X9 hown hK.1.1 hP 0 rfl rfl 27 (by decide) (hts _ mX9_takeKind_132) (fun _ h9 => h9) rfl dX9_takeKind_74 ?_
        refine lv_bipush (v := 116) hx hb dX9_takeKind_77 (by decide) ?_
        refine lv_bipush (v := 117) hx hb dX9_takeKind_79 (by decide) ?_
        refine lv_bipush (v := 114) hx hb dX9_takeKind_81 (by decide) ?_
        refine lv_bipush (v := 110) hx hb dX9_takeKind_83 (by decide) ?_
        obtain ⟨r_14, hc_15, hf⟩ := hb_b hf
        refine cl_Sl (rest := [.long z_2]) [] C0 hK hP hD hS hA (c_X9_code l D cy 116 117 114 110 r_14 hc_15) (va_cwS 4 hts gX9_takeKind_X9_code rfl rfl rfl (by decide +kernel) ⟨Nat.le_of_ble_eq_true rfl, Nat.le_of_ble_eq_true rfl⟩) rfl rfl rfl rfl hl.1 rfl (Nat.le_of_ble_eq_true rfl) dX9_takeKind_85 ⟨Nat.zero_le _, Nat.zero_le _⟩ (fun H locs hP hD hS => ?_)
        have hP : va_P D vwCl [(a_t, .inr (9, [o_t_places, o_t_words, o_t_kind, o_t_worths, o_t_frames, o_t_frame, o_t_pairs, o_t_pair, o_t_letters, o_t_standing, o_t_isStanding, o_t_worthOf, o_t_law, o_t_way, o_t_letter, o_t_turn, o_t_isSettled, o_t_had, o_t_logged, o_t_logWho, o_t_logFrom, o_t_logTo, o_t_seed, .ref a_t_text, .int i_t_texted, .int i_t_faultPlace, .int z_1, .long z_2, .int z_3, o_t_number, o_t_numberAt, o_t_readPlaces, o_t_readWords, o_t_readKind, o_t_readWorth, o_t_readFrames, o_t_readFrame, o_t_readPairs, o_t_readPair, o_t_changes, o_t_change, o_t_queue, o_t_steps, o_t_end, o_t_sent, o_t_firstSent, o_t_wasEnd, o_t_wasSent, o_t_guesses, o_t_guessHouse, o_t_guessWorth, o_t_booked, o_t_book, o_t_images, o_t_isKept])), (a_p1, .inl (cy 0, n_p1, .inl f_p1)), (a_t_text, .inl (cy 0, 500, .inl f_t_text))] H := hP
        have hD : va_D A [(a_t, .inr (9, [o_t_places, o_t_words, o_t_kind, o_t_worths, o_t_frames, o_t_frame, o_t_pairs, o_t_pair, o_t_letters, o_t_standing, o_t_isStanding, o_t_worthOf, o_t_law, o_t_way, o_t_letter, o_t_turn, o_t_isSettled, o_t_had, o_t_logged, o_t_logWho, o_t_logFrom, o_t_logTo, o_t_seed, .ref a_t_text, .int i_t_texted, .int i_t_faultPlace, .int z_1, .long z_2, .int z_3, o_t_number, o_t_numberAt, o_t_readPlaces, o_t_readWords, o_t_readKind, o_t_readWorth, o_t_readFrames, o_t_readFrame, o_t_readPairs, o_t_readPair, o_t_changes, o_t_change, o_t_queue, o_t_steps, o_t_end, o_t_sent, o_t_firstSent, o_t_wasEnd, o_t_wasSent, o_t_guesses, o_t_guessHouse, o_t_guessWorth, o_t_booked, o_t_book, o_t_images, o_t_isKept])), (a_p1, .inl (cy 0, n_p1, .inl f_p1)), (a_t_text, .inl (cy 0, 500, .inl f_t_text))] := hD
        refine W.lcmp hx hb dX9_takeKind_88 ?_
        refine lv_if_ne (tgt := 96) hx hb dX9_takeKind_89 (by decide) (fun c_16 => ?_) (fun c_16 => ?_)
        · have hf := hb_f hf c_16
          refine lv_iconst (v := (-1)) hx hb dX9_takeKind_96 (by decide) ?_
          refine lv_istore_n (lv' := [(3, .int (-1)), (0, .ref a_t), (1, .ref a_p1), (2, .int p2)]) hx hb dX9_takeKind_97 rfl hl (by decide) rfl (fun ls hl => ?_)
          refine lv_iload_n hx hb dX9_takeKind_98 rfl (lv_at hl 0 rfl) ?_
          refine lv_if_ge (tgt := 112) hx hb dX9_takeKind_99 (by decide) (fun c_17 => absurd c_17 (by decide)) (fun c_17 => ?_)
          refine lv_aload_n hx hb dX9_takeKind_102 rfl (lv_at hl 1 rfl) ?_
          refine lv_iconst (v := 1) hx hb dX9_takeKind_103 (by decide) ?_
          refine lv_aload_n hx hb dX9_takeKind_104 rfl (lv_at hl 1 rfl) ?_
          refine va_get (D := D) (ci := 9) (v := .int z_1) (C := RX9) (T := TX9) (N := 55) hx hb hts uX9_takeKind_X9 hown hK.1.1 hP 0 rfl rfl 26 (by decide) (hts _ mX9_takeKind_125) (fun _ h9 => h9) rfl dX9_takeKind_105 ?_
          obtain ⟨⟨r_18, z_19⟩, hc_20, hf⟩ := hb_b hf
          refine cl_Vi (rest := []) [0] 0 C0 hK hP hD hS hA (c_X9_fails l D cy a_t o_t_places o_t_words o_t_kind o_t_worths o_t_frames o_t_frame o_t_pairs o_t_pair o_t_letters o_t_standing o_t_isStanding o_t_worthOf o_t_law o_t_way o_t_letter o_t_turn o_t_isSettled o_t_had o_t_logged o_t_logWho o_t_logFrom o_t_logTo o_t_seed (.ref a_t_text) (.int i_t_texted) (.int z_1) (.long z_2) (.int z_3) o_t_number o_t_numberAt o_t_readPlaces o_t_readWords o_t_readKind o_t_readWorth o_t_readFrames o_t_readFrame o_t_readPairs o_t_readPair o_t_changes o_t_change o_t_queue o_t_steps o_t_end o_t_sent o_t_firstSent o_t_wasEnd o_t_wasSent o_t_guesses o_t_guessHouse o_t_guessWorth o_t_booked o_t_book o_t_images o_t_isKept i_t_faultPlace 1 z_1 r_18 z_19 hc_20) (cwV 2 hts gX9_takeKind_X9_fails rfl rfl rfl (by decide +kernel) ⟨Nat.le_of_ble_eq_true rfl, Nat.le_of_ble_eq_true rfl⟩) rfl rfl rfl rfl rfl rfl rfl hl.1 rfl (Nat.le_of_ble_eq_true rfl) dX9_takeKind_108 ⟨Nat.zero_le _, Nat.zero_le _⟩ (fun H locs hP hD hS => ?_)
          have hP : va_P D vwCl [(a_t, .inr (9, [o_t_places, o_t_words, o_t_kind, o_t_worths, o_t_frames, o_t_frame, o_t_pairs, o_t_pair, o_t_letters, o_t_standing, o_t_isStanding, o_t_worthOf, o_t_law, o_t_way, o_t_letter, o_t_turn, o_t_isSettled, o_t_had, o_t_logged, o_t_logWho, o_t_logFrom, o_t_logTo, o_t_seed, .ref a_t_text, .int i_t_texted, .int z_19, .int z_1, .long z_2, .int z_3, o_t_number, o_t_numberAt, o_t_readPlaces, o_t_readWords, o_t_readKind, o_t_readWorth, o_t_readFrames, o_t_readFrame, o_t_readPairs, o_t_readPair, o_t_changes, o_t_change, o_t_queue, o_t_steps, o_t_end, o_t_sent, o_t_firstSent, o_t_wasEnd, o_t_wasSent, o_t_guesses, o_t_guessHouse, o_t_guessWorth, o_t_booked, o_t_book, o_t_images, o_t_isKept])), (a_p1, .inl (cy 0, n_p1, .inl f_p1)), (a_t_text, .inl (cy 0, 500, .inl f_t_text))] H := hP
          have hD : va_D A [(a_t, .inr (9, [o_t_places, o_t_words, o_t_kind, o_t_worths, o_t_frames, o_t_frame, o_t_pairs, o_t_pair, o_t_letters, o_t_standing, o_t_isStanding, o_t_worthOf, o_t_law, o_t_way, o_t_letter, o_t_turn, o_t_isSettled, o_t_had, o_t_logged, o_t_logWho, o_t_logFrom, o_t_logTo, o_t_seed, .ref a_t_text, .int i_t_texted, .int z_19, .int z_1, .long z_2, .int z_3, o_t_number, o_t_numberAt, o_t_readPlaces, o_t_readWords, o_t_readKind, o_t_readWorth, o_t_readFrames, o_t_readFrame, o_t_readPairs, o_t_readPair, o_t_changes, o_t_change, o_t_queue, o_t_steps, o_t_end, o_t_sent, o_t_firstSent, o_t_wasEnd, o_t_wasSent, o_t_guesses, o_t_guessHouse, o_t_guessWorth, o_t_booked, o_t_book, o_t_images, o_t_isKept])), (a_p1, .inl (cy 0, n_p1, .inl f_p1)), (a_t_text, .inl (cy 0, 500, .inl f_t_text))] := hD
          obtain ⟨e_0, e_1, e_2, e_3, e_4, e_5⟩ := tu6 hf
          subst e_0; subst e_1; subst e_2; subst e_3; subst e_4; subst e_5
          exact hret _ _ _ _ dX9_takeKind_111 rfl hP hS
        · have hf := hb_t hf c_16
          refine lv_iconst (v := 3) hx hb dX9_takeKind_92 (by decide) ?_
          refine lv_goto (tgt := 97) hx hb dX9_takeKind_93 (by decide) ?_
          refine lv_istore_n (lv' := [(3, .int 3), (0, .ref a_t), (1, .ref a_p1), (2, .int p2)]) hx hb dX9_takeKind_97 rfl hl (by decide) rfl (fun ls hl => ?_)
          refine lv_iload_n hx hb dX9_takeKind_98 rfl (lv_at hl 0 rfl) ?_
          refine lv_if_ge (tgt := 112) hx hb dX9_takeKind_99 (by decide) (fun c_21 => ?_) (fun c_21 => absurd c_21 (by decide))
          refine lv_aload_n hx hb dX9_takeKind_112 rfl (lv_at hl 2 rfl) ?_
          refine lv_iload_n hx hb dX9_takeKind_113 rfl (lv_at hl 3 rfl) ?_
          refine lv_iload_n hx hb dX9_takeKind_114 rfl (lv_at hl 0 rfl) ?_
          obtain ⟨hg_22, hf⟩ := hb_g hf
          refine va_iast hx hb hK.1.1 hP hD hS 1 0 rfl rfl (ixb_in hg_22) dX9_takeKind_115 (fun H locs hP hD hS => ?_)
          have hP : va_P D vwCl [(a_t, .inr (9, [o_t_places, o_t_words, o_t_kind, o_t_worths, o_t_frames, o_t_frame, o_t_pairs, o_t_pair, o_t_letters, o_t_standing, o_t_isStanding, o_t_worthOf, o_t_law, o_t_way, o_t_letter, o_t_turn, o_t_isSettled, o_t_had, o_t_logged, o_t_logWho, o_t_logFrom, o_t_logTo, o_t_seed, .ref a_t_text, .int i_t_texted, .int i_t_faultPlace, .int z_1, .long z_2, .int z_3, o_t_number, o_t_numberAt, o_t_readPlaces, o_t_readWords, o_t_readKind, o_t_readWorth, o_t_readFrames, o_t_readFrame, o_t_readPairs, o_t_readPair, o_t_changes, o_t_change, o_t_queue, o_t_steps, o_t_end, o_t_sent, o_t_firstSent, o_t_wasEnd, o_t_wasSent, o_t_guesses, o_t_guessHouse, o_t_guessWorth, o_t_booked, o_t_book, o_t_images, o_t_isKept])), (a_p1, .inl (cy 0, n_p1, .inl (upd f_p1 (p2 : Int32).toNatClampNeg 3))), (a_t_text, .inl (cy 0, 500, .inl f_t_text))] H := hP
          have hD : va_D A [(a_t, .inr (9, [o_t_places, o_t_words, o_t_kind, o_t_worths, o_t_frames, o_t_frame, o_t_pairs, o_t_pair, o_t_letters, o_t_standing, o_t_isStanding, o_t_worthOf, o_t_law, o_t_way, o_t_letter, o_t_turn, o_t_isSettled, o_t_had, o_t_logged, o_t_logWho, o_t_logFrom, o_t_logTo, o_t_seed, .ref a_t_text, .int i_t_texted, .int i_t_faultPlace, .int z_1, .long z_2, .int z_3, o_t_number, o_t_numberAt, o_t_readPlaces, o_t_readWords, o_t_readKind, o_t_readWorth, o_t_readFrames, o_t_readFrame, o_t_readPairs, o_t_readPair, o_t_changes, o_t_change, o_t_queue, o_t_steps, o_t_end, o_t_sent, o_t_firstSent, o_t_wasEnd, o_t_wasSent, o_t_guesses, o_t_guessHouse, o_t_guessWorth, o_t_booked, o_t_book, o_t_images, o_t_isKept])), (a_p1, .inl (cy 0, n_p1, .inl (upd f_p1 (p2 : Int32).toNatClampNeg 3))), (a_t_text, .inl (cy 0, 500, .inl f_t_text))] := hD
          refine lv_aload_n hx hb dX9_takeKind_116 rfl (lv_at hl 1 rfl) ?_
          refine lv_aload_n hx hb dX9_takeKind_117 rfl (lv_at hl 1 rfl) ?_
          refine va_get (D := D) (ci := 9) (v := .int z_3) (C := RX9) (T := TX9) (N := 55) hx hb hts uX9_takeKind_X9 hown hK.1.1 hP 0 rfl rfl 28 (by decide) (hts _ mX9_takeKind_136) (fun _ h9 => h9) rfl dX9_takeKind_118 ?_
          refine va_put (D := D) (ci := 9) (v := .int z_3) (ty := .int) (C := RX9) (T := TX9) (N := 55) hx hb hts uX9_takeKind_X9 tyX9 tyX9_ok nmX9 hown hK.1.1 hP hD hS 0 rfl rfl 26 (by decide) (hts _ mX9_takeKind_125) (fun _ h9 => h9) rfl (by decide +kernel) rfl rfl (Nat.le_of_ble_eq_true rfl) dX9_takeKind_121 (fun H locs hP hD hS => ?_)
          have hP : va_P D vwCl [(a_t, .inr (9, [o_t_places, o_t_words, o_t_kind, o_t_worths, o_t_frames, o_t_frame, o_t_pairs, o_t_pair, o_t_letters, o_t_standing, o_t_isStanding, o_t_worthOf, o_t_law, o_t_way, o_t_letter, o_t_turn, o_t_isSettled, o_t_had, o_t_logged, o_t_logWho, o_t_logFrom, o_t_logTo, o_t_seed, .ref a_t_text, .int i_t_texted, .int i_t_faultPlace, .int z_3, .long z_2, .int z_3, o_t_number, o_t_numberAt, o_t_readPlaces, o_t_readWords, o_t_readKind, o_t_readWorth, o_t_readFrames, o_t_readFrame, o_t_readPairs, o_t_readPair, o_t_changes, o_t_change, o_t_queue, o_t_steps, o_t_end, o_t_sent, o_t_firstSent, o_t_wasEnd, o_t_wasSent, o_t_guesses, o_t_guessHouse, o_t_guessWorth, o_t_booked, o_t_book, o_t_images, o_t_isKept])), (a_p1, .inl (cy 0, n_p1, .inl (upd f_p1 (p2 : Int32).toNatClampNeg 3))), (a_t_text, .inl (cy 0, 500, .inl f_t_text))] H := hP
          have hD : va_D A [(a_t, .inr (9, [o_t_places, o_t_words, o_t_kind, o_t_worths, o_t_frames, o_t_frame, o_t_pairs, o_t_pair, o_t_letters, o_t_standing, o_t_isStanding, o_t_worthOf, o_t_law, o_t_way, o_t_letter, o_t_turn, o_t_isSettled, o_t_had, o_t_logged, o_t_logWho, o_t_logFrom, o_t_logTo, o_t_seed, .ref a_t_text, .int i_t_texted, .int i_t_faultPlace, .int z_3, .long z_2, .int z_3, o_t_number, o_t_numberAt, o_t_readPlaces, o_t_readWords, o_t_readKind, o_t_readWorth, o_t_readFrames, o_t_readFrame, o_t_readPairs, o_t_readPair, o_t_changes, o_t_change, o_t_queue, o_t_steps, o_t_end, o_t_sent, o_t_firstSent, o_t_wasEnd, o_t_wasSent, o_t_guesses, o_t_guessHouse, o_t_guessWorth, o_t_booked, o_t_book, o_t_images, o_t_isKept])), (a_p1, .inl (cy 0, n_p1, .inl (upd f_p1 (p2 : Int32).toNatClampNeg 3))), (a_t_text, .inl (cy 0, 500, .inl f_t_text))] := hD
          refine lv_iconst (v := 0) hx hb dX9_takeKind_124 (by decide) ?_
          obtain ⟨e_0, e_1, e_2, e_3, e_4, e_5⟩ := tu6 hf
          subst e_0; subst e_1; subst e_2; subst e_3; subst e_4; subst e_5
          exact hret _ _ _ _ dX9_takeKind_125 rfl hP hS
      · have hf := hb_t hf c_13
        refine lv_iconst (v := 2) hx hb dX9_takeKind_69 (by decide) ?_
        refine lv_goto (tgt := 97) hx hb dX9_takeKind_70 (by decide) ?_
        refine lv_istore_n (lv' := [(3, .int 2), (0, .ref a_t), (1, .ref a_p1), (2, .int p2)]) hx hb dX9_takeKind_97 rfl hl (by decide) rfl (fun ls hl => ?_)
        refine lv_iload_n hx hb dX9_takeKind_98 rfl (lv_at hl 0 rfl) ?_
        refine lv_if_ge (tgt := 112) hx hb dX9_takeKind_99 (by decide) (fun c_23 => ?_) (fun c_23 => absurd c_23 (by decide))
        refine lv_aload_n hx hb dX9_takeKind_112 rfl (lv_at hl 2 rfl) ?_
        refine lv_iload_n hx hb dX9_takeKind_113 rfl (lv_at hl 3 rfl) ?_
        refine lv_iload_n hx hb dX9_takeKind_114 rfl (lv_at hl 0 rfl) ?_
        obtain ⟨hg_24, hf⟩ := hb_g hf
        refine va_iast hx hb hK.1.1 hP hD hS 1 0 rfl rfl (ixb_in hg_24) dX9_takeKind_115 (fun H locs hP hD hS => ?_)
        have hP : va_P D vwCl [(a_t, .inr (9, [o_t_places, o_t_words, o_t_kind, o_t_worths, o_t_frames, o_t_frame, o_t_pairs, o_t_pair, o_t_letters, o_t_standing, o_t_isStanding, o_t_worthOf, o_t_law, o_t_way, o_t_letter, o_t_turn, o_t_isSettled, o_t_had, o_t_logged, o_t_logWho, o_t_logFrom, o_t_logTo, o_t_seed, .ref a_t_text, .int i_t_texted, .int i_t_faultPlace, .int z_1, .long z_2, .int z_3, o_t_number, o_t_numberAt, o_t_readPlaces, o_t_readWords, o_t_readKind, o_t_readWorth, o_t_readFrames, o_t_readFrame, o_t_readPairs, o_t_readPair, o_t_changes, o_t_change, o_t_queue, o_t_steps, o_t_end, o_t_sent, o_t_firstSent, o_t_wasEnd, o_t_wasSent, o_t_guesses, o_t_guessHouse, o_t_guessWorth, o_t_booked, o_t_book, o_t_images, o_t_isKept])), (a_p1, .inl (cy 0, n_p1, .inl (upd f_p1 (p2 : Int32).toNatClampNeg 2))), (a_t_text, .inl (cy 0, 500, .inl f_t_text))] H := hP
        have hD : va_D A [(a_t, .inr (9, [o_t_places, o_t_words, o_t_kind, o_t_worths, o_t_frames, o_t_frame, o_t_pairs, o_t_pair, o_t_letters, o_t_standing, o_t_isStanding, o_t_worthOf, o_t_law, o_t_way, o_t_letter, o_t_turn, o_t_isSettled, o_t_had, o_t_logged, o_t_logWho, o_t_logFrom, o_t_logTo, o_t_seed, .ref a_t_text, .int i_t_texted, .int i_t_faultPlace, .int z_1, .long z_2, .int z_3, o_t_number, o_t_numberAt, o_t_readPlaces, o_t_readWords, o_t_readKind, o_t_readWorth, o_t_readFrames, o_t_readFrame, o_t_readPairs, o_t_readPair, o_t_changes, o_t_change, o_t_queue, o_t_steps, o_t_end, o_t_sent, o_t_firstSent, o_t_wasEnd, o_t_wasSent, o_t_guesses, o_t_guessHouse, o_t_guessWorth, o_t_booked, o_t_book, o_t_images, o_t_isKept])), (a_p1, .inl (cy 0, n_p1, .inl (upd f_p1 (p2 : Int32).toNatClampNeg 2))), (a_t_text, .inl (cy 0, 500, .inl f_t_text))] := hD
        refine lv_aload_n hx hb dX9_takeKind_116 rfl (lv_at hl 1 rfl) ?_
        refine lv_aload_n hx hb dX9_takeKind_117 rfl (lv_at hl 1 rfl) ?_
        refine va_get (D := D) (ci := 9) (v := .int z_3) (C := RX9) (T := TX9) (N := 55) hx hb hts uX9_takeKind_X9 hown hK.1.1 hP 0 rfl rfl 28 (by decide) (hts _ mX9_takeKind_136) (fun _ h9 => h9) rfl dX9_takeKind_118 ?_
        refine va_put (D := D) (ci := 9) (v := .int z_3) (ty := .int) (C := RX9) (T := TX9) (N := 55) hx hb hts uX9_takeKind_X9 tyX9 tyX9_ok nmX9 hown hK.1.1 hP hD hS 0 rfl rfl 26 (by decide) (hts _ mX9_takeKind_125) (fun _ h9 => h9) rfl (by decide +kernel) rfl rfl (Nat.le_of_ble_eq_true rfl) dX9_takeKind_121 (fun H locs hP hD hS => ?_)
        have hP : va_P D vwCl [(a_t, .inr (9, [o_t_places, o_t_words, o_t_kind, o_t_worths, o_t_frames, o_t_frame, o_t_pairs, o_t_pair, o_t_letters, o_t_standing, o_t_isStanding, o_t_worthOf, o_t_law, o_t_way, o_t_letter, o_t_turn, o_t_isSettled, o_t_had, o_t_logged, o_t_logWho, o_t_logFrom, o_t_logTo, o_t_seed, .ref a_t_text, .int i_t_texted, .int i_t_faultPlace, .int z_3, .long z_2, .int z_3, o_t_number, o_t_numberAt, o_t_readPlaces, o_t_readWords, o_t_readKind, o_t_readWorth, o_t_readFrames, o_t_readFrame, o_t_readPairs, o_t_readPair, o_t_changes, o_t_change, o_t_queue, o_t_steps, o_t_end, o_t_sent, o_t_firstSent, o_t_wasEnd, o_t_wasSent, o_t_guesses, o_t_guessHouse, o_t_guessWorth, o_t_booked, o_t_book, o_t_images, o_t_isKept])), (a_p1, .inl (cy 0, n_p1, .inl (upd f_p1 (p2 : Int32).toNatClampNeg 2))), (a_t_text, .inl (cy 0, 500, .inl f_t_text))] H := hP
        have hD : va_D A [(a_t, .inr (9, [o_t_places, o_t_words, o_t_kind, o_t_worths, o_t_frames, o_t_frame, o_t_pairs, o_t_pair, o_t_letters, o_t_standing, o_t_isStanding, o_t_worthOf, o_t_law, o_t_way, o_t_letter, o_t_turn, o_t_isSettled, o_t_had, o_t_logged, o_t_logWho, o_t_logFrom, o_t_logTo, o_t_seed, .ref a_t_text, .int i_t_texted, .int i_t_faultPlace, .int z_3, .long z_2, .int z_3, o_t_number, o_t_numberAt, o_t_readPlaces, o_t_readWords, o_t_readKind, o_t_readWorth, o_t_readFrames, o_t_readFrame, o_t_readPairs, o_t_readPair, o_t_changes, o_t_change, o_t_queue, o_t_steps, o_t_end, o_t_sent, o_t_firstSent, o_t_wasEnd, o_t_wasSent, o_t_guesses, o_t_guessHouse, o_t_guessWorth, o_t_booked, o_t_book, o_t_images, o_t_isKept])), (a_p1, .inl (cy 0, n_p1, .inl (upd f_p1 (p2 : Int32).toNatClampNeg 2))), (a_t_text, .inl (cy 0, 500, .inl f_t_text))] := hD
        refine lv_iconst (v := 0) hx hb dX9_takeKind_124 (by decide) ?_
        obtain ⟨e_0, e_1, e_2, e_3, e_4, e_5⟩ := tu6 hf
        subst e_0; subst e_1; subst e_2; subst e_3; subst e_4; subst e_5
        exact hret _ _ _ _ dX9_takeKind_125 rfl hP hS
    · have hf := hb_t hf c_10
      refine lv_iconst (v := 1) hx hb dX9_takeKind_46 (by decide) ?_
      refine lv_goto (tgt := 97) hx hb dX9_takeKind_47 (by decide) ?_
      refine lv_istore_n (lv' := [(3, .int 1), (0, .ref a_t), (1, .ref a_p1), (2, .int p2)]) hx hb dX9_takeKind_97 rfl hl (by decide) rfl (fun ls hl => ?_)
      refine lv_iload_n hx hb dX9_takeKind_98 rfl (lv_at hl 0 rfl) ?_
      refine lv_if_ge (tgt := 112) hx hb dX9_takeKind_99 (by decide) (fun c_25 => ?_) (fun c_25 => absurd c_25 (by decide))
      refine lv_aload_n hx hb dX9_takeKind_112 rfl (lv_at hl 2 rfl) ?_
      refine lv_iload_n hx hb dX9_takeKind_113 rfl (lv_at hl 3 rfl) ?_
      refine lv_iload_n hx hb dX9_takeKind_114 rfl (lv_at hl 0 rfl) ?_
      obtain ⟨hg_26, hf⟩ := hb_g hf
      refine va_iast hx hb hK.1.1 hP hD hS 1 0 rfl rfl (ixb_in hg_26) dX9_takeKind_115 (fun H locs hP hD hS => ?_)
      have hP : va_P D vwCl [(a_t, .inr (9, [o_t_places, o_t_words, o_t_kind, o_t_worths, o_t_frames, o_t_frame, o_t_pairs, o_t_pair, o_t_letters, o_t_standing, o_t_isStanding, o_t_worthOf, o_t_law, o_t_way, o_t_letter, o_t_turn, o_t_isSettled, o_t_had, o_t_logged, o_t_logWho, o_t_logFrom, o_t_logTo, o_t_seed, .ref a_t_text, .int i_t_texted, .int i_t_faultPlace, .int z_1, .long z_2, .int z_3, o_t_number, o_t_numberAt, o_t_readPlaces, o_t_readWords, o_t_readKind, o_t_readWorth, o_t_readFrames, o_t_readFrame, o_t_readPairs, o_t_readPair, o_t_changes, o_t_change, o_t_queue, o_t_steps, o_t_end, o_t_sent, o_t_firstSent, o_t_wasEnd, o_t_wasSent, o_t_guesses, o_t_guessHouse, o_t_guessWorth, o_t_booked, o_t_book, o_t_images, o_t_isKept])), (a_p1, .inl (cy 0, n_p1, .inl (upd f_p1 (p2 : Int32).toNatClampNeg 1))), (a_t_text, .inl (cy 0, 500, .inl f_t_text))] H := hP
      have hD : va_D A [(a_t, .inr (9, [o_t_places, o_t_words, o_t_kind, o_t_worths, o_t_frames, o_t_frame, o_t_pairs, o_t_pair, o_t_letters, o_t_standing, o_t_isStanding, o_t_worthOf, o_t_law, o_t_way, o_t_letter, o_t_turn, o_t_isSettled, o_t_had, o_t_logged, o_t_logWho, o_t_logFrom, o_t_logTo, o_t_seed, .ref a_t_text, .int i_t_texted, .int i_t_faultPlace, .int z_1, .long z_2, .int z_3, o_t_number, o_t_numberAt, o_t_readPlaces, o_t_readWords, o_t_readKind, o_t_readWorth, o_t_readFrames, o_t_readFrame, o_t_readPairs, o_t_readPair, o_t_changes, o_t_change, o_t_queue, o_t_steps, o_t_end, o_t_sent, o_t_firstSent, o_t_wasEnd, o_t_wasSent, o_t_guesses, o_t_guessHouse, o_t_guessWorth, o_t_booked, o_t_book, o_t_images, o_t_isKept])), (a_p1, .inl (cy 0, n_p1, .inl (upd f_p1 (p2 : Int32).toNatClampNeg 1))), (a_t_text, .inl (cy 0, 500, .inl f_t_text))] := hD
      refine lv_aload_n hx hb dX9_takeKind_116 rfl (lv_at hl 1 rfl) ?_
      refine lv_aload_n hx hb dX9_takeKind_117 rfl (lv_at hl 1 rfl) ?_
      refine va_get (D := D) (ci := 9) (v := .int z_3) (C := RX9) (T := TX9) (N := 55) hx hb hts uX9_takeKind_X9 hown hK.1.1 hP 0 rfl rfl 28 (by decide) (hts _ mX9_takeKind_136) (fun _ h9 => h9) rfl dX9_takeKind_118 ?_
      refine va_put (D := D) (ci := 9) (v := .int z_3) (ty := .int) (C := RX9) (T := TX9) (N := 55) hx hb hts uX9_takeKind_X9 tyX9 tyX9_ok nmX9 hown hK.1.1 hP hD hS 0 rfl rfl 26 (by decide) (hts _ mX9_takeKind_125) (fun _ h9 => h9) rfl (by decide +kernel) rfl rfl (Nat.le_of_ble_eq_true rfl) dX9_takeKind_121 (fun H locs hP hD hS => ?_)
      have hP : va_P D vwCl [(a_t, .inr (9, [o_t_places, o_t_words, o_t_kind, o_t_worths, o_t_frames, o_t_frame, o_t_pairs, o_t_pair, o_t_letters, o_t_standing, o_t_isStanding, o_t_worthOf, o_t_law, o_t_way, o_t_letter, o_t_turn, o_t_isSettled, o_t_had, o_t_logged, o_t_logWho, o_t_logFrom, o_t_logTo, o_t_seed, .ref a_t_text, .int i_t_texted, .int i_t_faultPlace, .int z_3, .long z_2, .int z_3, o_t_number, o_t_numberAt, o_t_readPlaces, o_t_readWords, o_t_readKind, o_t_readWorth, o_t_readFrames, o_t_readFrame, o_t_readPairs, o_t_readPair, o_t_changes, o_t_change, o_t_queue, o_t_steps, o_t_end, o_t_sent, o_t_firstSent, o_t_wasEnd, o_t_wasSent, o_t_guesses, o_t_guessHouse, o_t_guessWorth, o_t_booked, o_t_book, o_t_images, o_t_isKept])), (a_p1, .inl (cy 0, n_p1, .inl (upd f_p1 (p2 : Int32).toNatClampNeg 1))), (a_t_text, .inl (cy 0, 500, .inl f_t_text))] H := hP
      have hD : va_D A [(a_t, .inr (9, [o_t_places, o_t_words, o_t_kind, o_t_worths, o_t_frames, o_t_frame, o_t_pairs, o_t_pair, o_t_letters, o_t_standing, o_t_isStanding, o_t_worthOf, o_t_law, o_t_way, o_t_letter, o_t_turn, o_t_isSettled, o_t_had, o_t_logged, o_t_logWho, o_t_logFrom, o_t_logTo, o_t_seed, .ref a_t_text, .int i_t_texted, .int i_t_faultPlace, .int z_3, .long z_2, .int z_3, o_t_number, o_t_numberAt, o_t_readPlaces, o_t_readWords, o_t_readKind, o_t_readWorth, o_t_readFrames, o_t_readFrame, o_t_readPairs, o_t_readPair, o_t_changes, o_t_change, o_t_queue, o_t_steps, o_t_end, o_t_sent, o_t_firstSent, o_t_wasEnd, o_t_wasSent, o_t_guesses, o_t_guessHouse, o_t_guessWorth, o_t_booked, o_t_book, o_t_images, o_t_isKept])), (a_p1, .inl (cy 0, n_p1, .inl (upd f_p1 (p2 : Int32).toNatClampNeg 1))), (a_t_text, .inl (cy 0, 500, .inl f_t_text))] := hD
      refine lv_iconst (v := 0) hx hb dX9_takeKind_124 (by decide) ?_
      obtain ⟨e_0, e_1, e_2, e_3, e_4, e_5⟩ := tu6 hf
      subst e_0; subst e_1; subst e_2; subst e_3; subst e_4; subst e_5
      exact hret _ _ _ _ dX9_takeKind_125 rfl hP hS
  · have hf := hb_t hf c_7
    refine lv_iconst (v := 0) hx hb dX9_takeKind_23 (by decide) ?_
    refine lv_goto (tgt := 97) hx hb dX9_takeKind_24 (by decide) ?_
    refine lv_istore_n (lv' := [(3, .int 0), (0, .ref a_t), (1, .ref a_p1), (2, .int p2)]) hx hb dX9_takeKind_97 rfl hl (by decide) rfl (fun ls hl => ?_)
    refine lv_iload_n hx hb dX9_takeKind_98 rfl (lv_at hl 0 rfl) ?_
    refine lv_if_ge (tgt := 112) hx hb dX9_takeKind_99 (by decide) (fun c_27 => ?_) (fun c_27 => absurd c_27 (by decide))
    refine lv_aload_n hx hb dX9_takeKind_112 rfl (lv_at hl 2 rfl) ?_
    refine lv_iload_n hx hb dX9_takeKind_113 rfl (lv_at hl 3 rfl) ?_
    refine lv_iload_n hx hb dX9_takeKind_114 rfl (lv_at hl 0 rfl) ?_
    obtain ⟨hg_28, hf⟩ := hb_g hf
    refine va_iast hx hb hK.1.1 hP hD hS 1 0 rfl rfl (ixb_in hg_28) dX9_takeKind_115 (fun H locs hP hD hS => ?_)
    have hP : va_P D vwCl [(a_t, .inr (9, [o_t_places, o_t_words, o_t_kind, o_t_worths, o_t_frames, o_t_frame, o_t_pairs, o_t_pair, o_t_letters, o_t_standing, o_t_isStanding, o_t_worthOf, o_t_law, o_t_way, o_t_letter, o_t_turn, o_t_isSettled, o_t_had, o_t_logged, o_t_logWho, o_t_logFrom, o_t_logTo, o_t_seed, .ref a_t_text, .int i_t_texted, .int i_t_faultPlace, .int z_1, .long z_2, .int z_3, o_t_number, o_t_numberAt, o_t_readPlaces, o_t_readWords, o_t_readKind, o_t_readWorth, o_t_readFrames, o_t_readFrame, o_t_readPairs, o_t_readPair, o_t_changes, o_t_change, o_t_queue, o_t_steps, o_t_end, o_t_sent, o_t_firstSent, o_t_wasEnd, o_t_wasSent, o_t_guesses, o_t_guessHouse, o_t_guessWorth, o_t_booked, o_t_book, o_t_images, o_t_isKept])), (a_p1, .inl (cy 0, n_p1, .inl (upd f_p1 (p2 : Int32).toNatClampNeg 0))), (a_t_text, .inl (cy 0, 500, .inl f_t_text))] H := hP
    have hD : va_D A [(a_t, .inr (9, [o_t_places, o_t_words, o_t_kind, o_t_worths, o_t_frames, o_t_frame, o_t_pairs, o_t_pair, o_t_letters, o_t_standing, o_t_isStanding, o_t_worthOf, o_t_law, o_t_way, o_t_letter, o_t_turn, o_t_isSettled, o_t_had, o_t_logged, o_t_logWho, o_t_logFrom, o_t_logTo, o_t_seed, .ref a_t_text, .int i_t_texted, .int i_t_faultPlace, .int z_1, .long z_2, .int z_3, o_t_number, o_t_numberAt, o_t_readPlaces, o_t_readWords, o_t_readKind, o_t_readWorth, o_t_readFrames, o_t_readFrame, o_t_readPairs, o_t_readPair, o_t_changes, o_t_change, o_t_queue, o_t_steps, o_t_end, o_t_sent, o_t_firstSent, o_t_wasEnd, o_t_wasSent, o_t_guesses, o_t_guessHouse, o_t_guessWorth, o_t_booked, o_t_book, o_t_images, o_t_isKept])), (a_p1, .inl (cy 0, n_p1, .inl (upd f_p1 (p2 : Int32).toNatClampNeg 0))), (a_t_text, .inl (cy 0, 500, .inl f_t_text))] := hD
    refine lv_aload_n hx hb dX9_takeKind_116 rfl (lv_at hl 1 rfl) ?_
    refine lv_aload_n hx hb dX9_takeKind_117 rfl (lv_at hl 1 rfl) ?_
    refine va_get (D := D) (ci := 9) (v := .int z_3) (C := RX9) (T := TX9) (N := 55) hx hb hts uX9_takeKind_X9 hown hK.1.1 hP 0 rfl rfl 28 (by decide) (hts _ mX9_takeKind_136) (fun _ h9 => h9) rfl dX9_takeKind_118 ?_
    refine va_put (D := D) (ci := 9) (v := .int z_3) (ty := .int) (C := RX9) (T := TX9) (N := 55) hx hb hts uX9_takeKind_X9 tyX9 tyX9_ok nmX9 hown hK.1.1 hP hD hS 0 rfl rfl 26 (by decide) (hts _ mX9_takeKind_125) (fun _ h9 => h9) rfl (by decide +kernel) rfl rfl (Nat.le_of_ble_eq_true rfl) dX9_takeKind_121 (fun H locs hP hD hS => ?_)
    have hP : va_P D vwCl [(a_t, .inr (9, [o_t_places, o_t_words, o_t_kind, o_t_worths, o_t_frames, o_t_frame, o_t_pairs, o_t_pair, o_t_letters, o_t_standing, o_t_isStanding, o_t_worthOf, o_t_law, o_t_way, o_t_letter, o_t_turn, o_t_isSettled, o_t_had, o_t_logged, o_t_logWho, o_t_logFrom, o_t_logTo, o_t_seed, .ref a_t_text, .int i_t_texted, .int i_t_faultPlace, .int z_3, .long z_2, .int z_3, o_t_number, o_t_numberAt, o_t_readPlaces, o_t_readWords, o_t_readKind, o_t_readWorth, o_t_readFrames, o_t_readFrame, o_t_readPairs, o_t_readPair, o_t_changes, o_t_change, o_t_queue, o_t_steps, o_t_end, o_t_sent, o_t_firstSent, o_t_wasEnd, o_t_wasSent, o_t_guesses, o_t_guessHouse, o_t_guessWorth, o_t_booked, o_t_book, o_t_images, o_t_isKept])), (a_p1, .inl (cy 0, n_p1, .inl (upd f_p1 (p2 : Int32).toNatClampNeg 0))), (a_t_text, .inl (cy 0, 500, .inl f_t_text))] H := hP
    have hD : va_D A [(a_t, .inr (9, [o_t_places, o_t_words, o_t_kind, o_t_worths, o_t_frames, o_t_frame, o_t_pairs, o_t_pair, o_t_letters, o_t_standing, o_t_isStanding, o_t_worthOf, o_t_law, o_t_way, o_t_letter, o_t_turn, o_t_isSettled, o_t_had, o_t_logged, o_t_logWho, o_t_logFrom, o_t_logTo, o_t_seed, .ref a_t_text, .int i_t_texted, .int i_t_faultPlace, .int z_3, .long z_2, .int z_3, o_t_number, o_t_numberAt, o_t_readPlaces, o_t_readWords, o_t_readKind, o_t_readWorth, o_t_readFrames, o_t_readFrame, o_t_readPairs, o_t_readPair, o_t_changes, o_t_change, o_t_queue, o_t_steps, o_t_end, o_t_sent, o_t_firstSent, o_t_wasEnd, o_t_wasSent, o_t_guesses, o_t_guessHouse, o_t_guessWorth, o_t_booked, o_t_book, o_t_images, o_t_isKept])), (a_p1, .inl (cy 0, n_p1, .inl (upd f_p1 (p2 : Int32).toNatClampNeg 0))), (a_t_text, .inl (cy 0, 500, .inl f_t_text))] := hD
    refine lv_iconst (v := 0) hx hb dX9_takeKind_124 (by decide) ?_
    obtain ⟨e_0, e_1, e_2, e_3, e_4, e_5⟩ := tu6 hf
    subst e_0; subst e_1; subst e_2; subst e_3; subst e_4; subst e_5
    exact hret _ _ _ _ dX9_takeKind_125 rfl hP hS
