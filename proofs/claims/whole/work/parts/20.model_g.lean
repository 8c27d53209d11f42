theorem mX9_send_219 : Cond.fieldLink RX9 219 "OneWordLettersModel" "letter" "I" ∈ wsX9_send := by decide +kernel
theorem uX9_send_X9 : ∀ w ∈ wsX90, w ∈ wsX9_send := fun _ h => List.mem_cons_of_mem _ (List.mem_append_right _ h)
theorem mX9_send_255 : Cond.fieldLink RX9 255 "OneWordLettersModel" "way" "I" ∈ wsX9_send := by decide +kernel
theorem mX9_send_225 : Cond.fieldLink RX9 225 "OneWordLettersModel" "isSettled" "Z" ∈ wsX9_send := by decide +kernel
theorem mX9_send_283 : Cond.constant RX9 283 (-1000000003) ∈ wsX9_send := by decide +kernel
theorem mX9_send_229 : Cond.fieldLink RX9 229 "OneWordLettersModel" "logged" "I" ∈ wsX9_send := by decide +kernel
theorem mX9_send_222 : Cond.fieldLink RX9 222 "OneWordLettersModel" "turn" "I" ∈ wsX9_send := by decide +kernel
theorem mX9_send_122 : Cond.constant RX9 122 (-1000000004) ∈ wsX9_send := by decide +kernel
theorem mX9_send_118 : Cond.constant RX9 118 (-1000000002) ∈ wsX9_send := by decide +kernel
abbrev rmX9_send : Room := { frames := 3, cells := 0, slots := 0, locals := 70 }
def f_X9_send (i_t_places : Int32) (i_t_words : Int32) (i_t_letters : Int32) (i_t_law : Int32) (i_t_way : Int32) (i_t_isSettled : Int32) (f_t_isStanding : Nat → Int32) (i_t_letter : Int32) (i_t_turn : Int32) (i_t_logged : Int32) (i_t_changes : Int32) (f_t_change : Nat → Int32) (f_t_logWho : Nat → Int32) (f_t_logFrom : Nat → Int32) (f_t_logTo : Nat → Int32) (p1 : Int32) : Option (Int32 × Int32 × Int32 × Int32 × Int32 × (Nat → Int32) × (Nat → Int32) × (Nat → Int32) × (Nat → Int32)) :=
  (f_X9_isLetter i_t_letters p1).bind fun r_1 =>
  if r_1 = 0 then
    some ((-1000000002), i_t_letter, i_t_turn, i_t_logged, i_t_changes, f_t_change, f_t_logWho, f_t_logFrom, f_t_logTo)
  else
    if i_t_way = 1 then
      (f_X9_findChanges i_t_places i_t_words i_t_law f_t_isStanding i_t_changes f_t_change i_t_letter 1).bind fun (z_20, z_21) =>
      if i_t_isSettled = 0 then
        (f_X9_placeOf z_20 z_21 p1).bind fun r_24 =>
        if 0 ≤ r_24 then
          if i_t_logged = 60 then
            some ((-1000000004), i_t_letter, i_t_turn, i_t_logged, z_20, z_21, f_t_logWho, f_t_logFrom, f_t_logTo)
          else
            (f_X9_sendNow i_t_letter i_t_turn i_t_logged f_t_logWho f_t_logFrom f_t_logTo p1).bind fun (z_28, z_29, z_30, z_31, z_32, z_33) =>
            some (z_29, z_28, z_29, z_30, z_20, z_21, z_31, z_32, z_33)
        else
          some ((-1000000003), i_t_letter, i_t_turn, i_t_logged, z_20, z_21, f_t_logWho, f_t_logFrom, f_t_logTo)
      else
        some ((-1000000003), i_t_letter, i_t_turn, i_t_logged, z_20, z_21, f_t_logWho, f_t_logFrom, f_t_logTo)
    else
      (f_X9_findChanges i_t_places i_t_words i_t_law f_t_isStanding i_t_changes f_t_change i_t_letter 0).bind fun (z_5, z_6) =>
      if i_t_isSettled = 0 then
        (f_X9_placeOf z_5 z_6 p1).bind fun r_9 =>
        if 0 ≤ r_9 then
          if i_t_logged = 60 then
            some ((-1000000004), i_t_letter, i_t_turn, i_t_logged, z_5, z_6, f_t_logWho, f_t_logFrom, f_t_logTo)
          else
            (f_X9_sendNow i_t_letter i_t_turn i_t_logged f_t_logWho f_t_logFrom f_t_logTo p1).bind fun (z_13, z_14, z_15, z_16, z_17, z_18) =>
            some (z_14, z_13, z_14, z_15, z_5, z_6, z_16, z_17, z_18)
        else
          some ((-1000000003), i_t_letter, i_t_turn, i_t_logged, z_5, z_6, f_t_logWho, f_t_logFrom, f_t_logTo)
      else
        some ((-1000000003), i_t_letter, i_t_turn, i_t_logged, z_5, z_6, f_t_logWho, f_t_logFrom, f_t_logTo)
set_option maxRecDepth 100000 in
set_option maxHeartbeats 4000000 in
theorem c_X9_send (l : Launch) (D : va_G) (cy : Nat → ClassId) (a_t : Nat) (a_t_change : Nat) (a_t_isStanding : Nat) (a_t_logWho : Nat) (a_t_logFrom : Nat) (a_t_logTo : Nat) (o_t_kind : Value) (o_t_worths : Value) (o_t_frames : Value) (o_t_frame : Value) (o_t_pairs : Value) (o_t_pair : Value) (o_t_standing : Value) (o_t_worthOf : Value) (o_t_had : Value) (o_t_seed : Value) (o_t_text : Value) (o_t_texted : Value) (o_t_faultPlace : Value) (o_t_at0 : Value) (o_t_said : Value) (o_t_wordEnd : Value) (o_t_number : Value) (o_t_numberAt : Value) (o_t_readPlaces : Value) (o_t_readWords : Value) (o_t_readKind : Value) (o_t_readWorth : Value) (o_t_readFrames : Value) (o_t_readFrame : Value) (o_t_readPairs : Value) (o_t_readPair : Value) (o_t_queue : Value) (o_t_steps : Value) (o_t_end : Value) (o_t_sent : Value) (o_t_firstSent : Value) (o_t_wasEnd : Value) (o_t_wasSent : Value) (o_t_guesses : Value) (o_t_guessHouse : Value) (o_t_guessWorth : Value) (o_t_booked : Value) (o_t_book : Value) (o_t_images : Value) (o_t_isKept : Value) (i_t_places : Int32) (i_t_words : Int32) (i_t_letters : Int32) (i_t_law : Int32) (i_t_way : Int32) (i_t_isSettled : Int32) (f_t_isStanding : Nat → Int32) (i_t_letter : Int32) (i_t_turn : Int32) (i_t_logged : Int32) (i_t_changes : Int32) (f_t_change : Nat → Int32) (f_t_logWho : Nat → Int32) (f_t_logFrom : Nat → Int32) (f_t_logTo : Nat → Int32) (p1 : Int32) (rv : Int32) (z_i_t_letter : Int32) (z_i_t_turn : Int32) (z_i_t_logged : Int32) (z_i_t_changes : Int32) (z_f_t_change : Nat → Int32) (z_f_t_logWho : Nat → Int32) (z_f_t_logFrom : Nat → Int32) (z_f_t_logTo : Nat → Int32) (hf : f_X9_send i_t_places i_t_words i_t_letters i_t_law i_t_way i_t_isSettled f_t_isStanding i_t_letter i_t_turn i_t_logged i_t_changes f_t_change f_t_logWho f_t_logFrom f_t_logTo p1 = some (rv, z_i_t_letter, z_i_t_turn, z_i_t_logged, z_i_t_changes, z_f_t_change, z_f_t_logWho, z_f_t_logFrom, z_f_t_logTo)) : MI l D cy yX9_send wsX9_send rmX9_send [.ref a_t, .int p1] [(a_t, .inr (9, [.int i_t_places, .int i_t_words, o_t_kind, o_t_worths, o_t_frames, o_t_frame, o_t_pairs, o_t_pair, .int i_t_letters, o_t_standing, .ref a_t_isStanding, o_t_worthOf, .int i_t_law, .int i_t_way, .int i_t_letter, .int i_t_turn, .int i_t_isSettled, o_t_had, .int i_t_logged, .ref a_t_logWho, .ref a_t_logFrom, .ref a_t_logTo, o_t_seed, o_t_text, o_t_texted, o_t_faultPlace, o_t_at0, o_t_said, o_t_wordEnd, o_t_number, o_t_numberAt, o_t_readPlaces, o_t_readWords, o_t_readKind, o_t_readWorth, o_t_readFrames, o_t_readFrame, o_t_readPairs, o_t_readPair, .int i_t_changes, .ref a_t_change, o_t_queue, o_t_steps, o_t_end, o_t_sent, o_t_firstSent, o_t_wasEnd, o_t_wasSent, o_t_guesses, o_t_guessHouse, o_t_guessWorth, o_t_booked, o_t_book, o_t_images, o_t_isKept])), (a_t_change, .inl (cy 0, 40, .inl f_t_change)), (a_t_isStanding, .inl (cy 2, 4096, .inl f_t_isStanding)), (a_t_logWho, .inl (cy 0, 60, .inl f_t_logWho)), (a_t_logFrom, .inl (cy 0, 60, .inl f_t_logFrom)), (a_t_logTo, .inl (cy 0, 60, .inl f_t_logTo))] [(a_t, .inr (9, [.int i_t_places, .int i_t_words, o_t_kind, o_t_worths, o_t_frames, o_t_frame, o_t_pairs, o_t_pair, .int i_t_letters, o_t_standing, .ref a_t_isStanding, o_t_worthOf, .int i_t_law, .int i_t_way, .int z_i_t_letter, .int z_i_t_turn, .int i_t_isSettled, o_t_had, .int z_i_t_logged, .ref a_t_logWho, .ref a_t_logFrom, .ref a_t_logTo, o_t_seed, o_t_text, o_t_texted, o_t_faultPlace, o_t_at0, o_t_said, o_t_wordEnd, o_t_number, o_t_numberAt, o_t_readPlaces, o_t_readWords, o_t_readKind, o_t_readWorth, o_t_readFrames, o_t_readFrame, o_t_readPairs, o_t_readPair, .int z_i_t_changes, .ref a_t_change, o_t_queue, o_t_steps, o_t_end, o_t_sent, o_t_firstSent, o_t_wasEnd, o_t_wasSent, o_t_guesses, o_t_guessHouse, o_t_guessWorth, o_t_booked, o_t_book, o_t_images, o_t_isKept])), (a_t_change, .inl (cy 0, 40, .inl z_f_t_change)), (a_t_isStanding, .inl (cy 2, 4096, .inl f_t_isStanding)), (a_t_logWho, .inl (cy 0, 60, .inl z_f_t_logWho)), (a_t_logFrom, .inl (cy 0, 60, .inl z_f_t_logFrom)), (a_t_logTo, .inl (cy 0, 60, .inl z_f_t_logTo))] rv := by
  refine st_I (by decide) rfl (Nat.le_of_ble_eq_true rfl) (fun p e s m below meth c A Q ls C0 hA hK hP hD hS hl hret => ?_)
  obtain ⟨hx, hb, hr, hml, hown, hts, hlocks⟩ := id C0
  have hl : lv_has ls 2 [(0, .ref a_t), (1, .int p1)] := hl
  unfold f_X9_send at hf
  refine lv_aload_n hx hb dX9_send_0 rfl (lv_at hl 0 rfl) ?_
  refine lv_iload_n hx hb dX9_send_1 rfl (lv_at hl 1 rfl) ?_
  obtain ⟨r_1, hc_2, hf⟩ := hb_b hf
  refine cl_Vi (rest := []) [0] 0 C0 hK hP hD hS hA (c_X9_isLetter l D cy a_t (.int i_t_places) (.int i_t_words) o_t_kind o_t_worths o_t_frames o_t_frame o_t_pairs o_t_pair o_t_standing (.ref a_t_isStanding) o_t_worthOf (.int i_t_law) (.int i_t_way) (.int i_t_letter) (.int i_t_turn) (.int i_t_isSettled) o_t_had (.int i_t_logged) (.ref a_t_logWho) (.ref a_t_logFrom) (.ref a_t_logTo) o_t_seed o_t_text o_t_texted o_t_faultPlace o_t_at0 o_t_said o_t_wordEnd o_t_number o_t_numberAt o_t_readPlaces o_t_readWords o_t_readKind o_t_readWorth o_t_readFrames o_t_readFrame o_t_readPairs o_t_readPair (.int i_t_changes) (.ref a_t_change) o_t_queue o_t_steps o_t_end o_t_sent o_t_firstSent o_t_wasEnd o_t_wasSent o_t_guesses o_t_guessHouse o_t_guessWorth o_t_booked o_t_book o_t_images o_t_isKept i_t_letters p1 r_1 hc_2) (cwV 1 hts gX9_send_X9_isLetter rfl rfl rfl (by decide +kernel) ⟨Nat.le_of_ble_eq_true rfl, Nat.le_of_ble_eq_true rfl⟩) rfl rfl rfl rfl rfl rfl rfl hl.1 rfl (Nat.le_of_ble_eq_true rfl) dX9_send_2 ⟨Nat.zero_le _, Nat.zero_le _⟩ (fun H locs hP hD hS => ?_)
  have hP : va_P D vwCl [(a_t, .inr (9, [.int i_t_places, .int i_t_words, o_t_kind, o_t_worths, o_t_frames, o_t_frame, o_t_pairs, o_t_pair, .int i_t_letters, o_t_standing, .ref a_t_isStanding, o_t_worthOf, .int i_t_law, .int i_t_way, .int i_t_letter, .int i_t_turn, .int i_t_isSettled, o_t_had, .int i_t_logged, .ref a_t_logWho, .ref a_t_logFrom, .ref a_t_logTo, o_t_seed, o_t_text, o_t_texted, o_t_faultPlace, o_t_at0, o_t_said, o_t_wordEnd, o_t_number, o_t_numberAt, o_t_readPlaces, o_t_readWords, o_t_readKind, o_t_readWorth, o_t_readFrames, o_t_readFrame, o_t_readPairs, o_t_readPair, .int i_t_changes, .ref a_t_change, o_t_queue, o_t_steps, o_t_end, o_t_sent, o_t_firstSent, o_t_wasEnd, o_t_wasSent, o_t_guesses, o_t_guessHouse, o_t_guessWorth, o_t_booked, o_t_book, o_t_images, o_t_isKept])), (a_t_change, .inl (cy 0, 40, .inl f_t_change)), (a_t_isStanding, .inl (cy 2, 4096, .inl f_t_isStanding)), (a_t_logWho, .inl (cy 0, 60, .inl f_t_logWho)), (a_t_logFrom, .inl (cy 0, 60, .inl f_t_logFrom)), (a_t_logTo, .inl (cy 0, 60, .inl f_t_logTo))] H := hP
  have hD : va_D A [(a_t, .inr (9, [.int i_t_places, .int i_t_words, o_t_kind, o_t_worths, o_t_frames, o_t_frame, o_t_pairs, o_t_pair, .int i_t_letters, o_t_standing, .ref a_t_isStanding, o_t_worthOf, .int i_t_law, .int i_t_way, .int i_t_letter, .int i_t_turn, .int i_t_isSettled, o_t_had, .int i_t_logged, .ref a_t_logWho, .ref a_t_logFrom, .ref a_t_logTo, o_t_seed, o_t_text, o_t_texted, o_t_faultPlace, o_t_at0, o_t_said, o_t_wordEnd, o_t_number, o_t_numberAt, o_t_readPlaces, o_t_readWords, o_t_readKind, o_t_readWorth, o_t_readFrames, o_t_readFrame, o_t_readPairs, o_t_readPair, .int i_t_changes, .ref a_t_change, o_t_queue, o_t_steps, o_t_end, o_t_sent, o_t_firstSent, o_t_wasEnd, o_t_wasSent, o_t_guesses, o_t_guessHouse, o_t_guessWorth, o_t_booked, o_t_book, o_t_images, o_t_isKept])), (a_t_change, .inl (cy 0, 40, .inl f_t_change)), (a_t_isStanding, .inl (cy 2, 4096, .inl f_t_isStanding)), (a_t_logWho, .inl (cy 0, 60, .inl f_t_logWho)), (a_t_logFrom, .inl (cy 0, 60, .inl f_t_logFrom)), (a_t_logTo, .inl (cy 0, 60, .inl f_t_logTo))] := hD
  refine lv_if_ne (tgt := 11) hx hb dX9_send_5 (by decide) (fun c_3 => ?_) (fun c_3 => ?_)
  · have hf := hb_f hf c_3
    refine lv_aload_n hx hb dX9_send_11 rfl (lv_at hl 0 rfl) ?_
    refine lv_aload_n hx hb dX9_send_12 rfl (lv_at hl 0 rfl) ?_
    refine va_get (D := D) (ci := 9) (v := .int i_t_letter) (C := RX9) (T := TX9) (N := 55) hx hb hts uX9_send_X9 hown hK.1.1 hP 0 rfl rfl 14 (by decide) (hts _ mX9_send_219) (fun _ h9 => h9) rfl dX9_send_13 ?_
    refine lv_aload_n hx hb dX9_send_16 rfl (lv_at hl 0 rfl) ?_
    refine va_get (D := D) (ci := 9) (v := .int i_t_way) (C := RX9) (T := TX9) (N := 55) hx hb hts uX9_send_X9 hown hK.1.1 hP 0 rfl rfl 13 (by decide) (hts _ mX9_send_255) (fun _ h9 => h9) rfl dX9_send_17 ?_
    refine lv_iconst (v := 1) hx hb dX9_send_20 (by decide) ?_
    refine lv_icmp_ne (tgt := 28) hx hb dX9_send_21 (by decide) (fun c_4 => ?_) (fun c_4 => ?_)
    · have hf := hb_f hf c_4
      refine lv_iconst (v := 0) hx hb dX9_send_28 (by decide) ?_
      obtain ⟨⟨z_5, z_6⟩, hc_7, hf⟩ := hb_b hf
      refine cl_Vv (rest := []) [0, 1, 2] 0 C0 hK hP hD hS hA (c_X9_findChanges l D cy a_t a_t_change a_t_isStanding o_t_kind o_t_worths o_t_frames o_t_frame o_t_pairs o_t_pair (.int i_t_letters) o_t_standing o_t_worthOf (.int i_t_way) (.int i_t_letter) (.int i_t_turn) (.int i_t_isSettled) o_t_had (.int i_t_logged) (.ref a_t_logWho) (.ref a_t_logFrom) (.ref a_t_logTo) o_t_seed o_t_text o_t_texted o_t_faultPlace o_t_at0 o_t_said o_t_wordEnd o_t_number o_t_numberAt o_t_readPlaces o_t_readWords o_t_readKind o_t_readWorth o_t_readFrames o_t_readFrame o_t_readPairs o_t_readPair o_t_queue o_t_steps o_t_end o_t_sent o_t_firstSent o_t_wasEnd o_t_wasSent o_t_guesses o_t_guessHouse o_t_guessWorth o_t_booked o_t_book o_t_images o_t_isKept i_t_places i_t_words i_t_law f_t_isStanding i_t_changes f_t_change i_t_letter 0 z_5 z_6 hc_7) (cwV 2 hts gX9_send_X9_findChanges rfl rfl rfl (by decide +kernel) ⟨Nat.le_of_ble_eq_true rfl, Nat.le_of_ble_eq_true rfl⟩) rfl rfl rfl rfl rfl rfl rfl hl.1 rfl (Nat.le_of_ble_eq_true rfl) dX9_send_29 ⟨Nat.zero_le _, Nat.zero_le _⟩ (fun H locs hP hD hS => ?_)
      have hP : va_P D vwCl [(a_t, .inr (9, [.int i_t_places, .int i_t_words, o_t_kind, o_t_worths, o_t_frames, o_t_frame, o_t_pairs, o_t_pair, .int i_t_letters, o_t_standing, .ref a_t_isStanding, o_t_worthOf, .int i_t_law, .int i_t_way, .int i_t_letter, .int i_t_turn, .int i_t_isSettled, o_t_had, .int i_t_logged, .ref a_t_logWho, .ref a_t_logFrom, .ref a_t_logTo, o_t_seed, o_t_text, o_t_texted, o_t_faultPlace, o_t_at0, o_t_said, o_t_wordEnd, o_t_number, o_t_numberAt, o_t_readPlaces, o_t_readWords, o_t_readKind, o_t_readWorth, o_t_readFrames, o_t_readFrame, o_t_readPairs, o_t_readPair, .int z_5, .ref a_t_change, o_t_queue, o_t_steps, o_t_end, o_t_sent, o_t_firstSent, o_t_wasEnd, o_t_wasSent, o_t_guesses, o_t_guessHouse, o_t_guessWorth, o_t_booked, o_t_book, o_t_images, o_t_isKept])), (a_t_change, .inl (cy 0, 40, .inl z_6)), (a_t_isStanding, .inl (cy 2, 4096, .inl f_t_isStanding)), (a_t_logWho, .inl (cy 0, 60, .inl f_t_logWho)), (a_t_logFrom, .inl (cy 0, 60, .inl f_t_logFrom)), (a_t_logTo, .inl (cy 0, 60, .inl f_t_logTo))] H := hP
      have hD : va_D A [(a_t, .inr (9, [.int i_t_places, .int i_t_words, o_t_kind, o_t_worths, o_t_frames, o_t_frame, o_t_pairs, o_t_pair, .int i_t_letters, o_t_standing, .ref a_t_isStanding, o_t_worthOf, .int i_t_law, .int i_t_way, .int i_t_letter, .int i_t_turn, .int i_t_isSettled, o_t_had, .int i_t_logged, .ref a_t_logWho, .ref a_t_logFrom, .ref a_t_logTo, o_t_seed, o_t_text, o_t_texted, o_t_faultPlace, o_t_at0, o_t_said, o_t_wordEnd, o_t_number, o_t_numberAt, o_t_readPlaces, o_t_readWords, o_t_readKind, o_t_readWorth, o_t_readFrames, o_t_readFrame, o_t_readPairs, o_t_readPair, .int z_5, .ref a_t_change, o_t_queue, o_t_steps, o_t_end, o_t_sent, o_t_firstSent, o_t_wasEnd, o_t_wasSent, o_t_guesses, o_t_guessHouse, o_t_guessWorth, o_t_booked, o_t_book, o_t_images, o_t_isKept])), (a_t_change, .inl (cy 0, 40, .inl z_6)), (a_t_isStanding, .inl (cy 2, 4096, .inl f_t_isStanding)), (a_t_logWho, .inl (cy 0, 60, .inl f_t_logWho)), (a_t_logFrom, .inl (cy 0, 60, .inl f_t_logFrom)), (a_t_logTo, .inl (cy 0, 60, .inl f_t_logTo))] := hD
      refine lv_aload_n hx hb dX9_send_32 rfl (lv_at hl 0 rfl) ?_
      refine va_get (D := D) (ci := 9) (v := .int i_t_isSettled) (C := RX9) (T := TX9) (N := 55) hx hb hts uX9_send_X9 hown hK.1.1 hP 0 rfl rfl 16 (by decide) (hts _ mX9_send_225) (fun _ h9 => h9) rfl dX9_send_33 ?_
      refine lv_if_ne (tgt := 47) hx hb dX9_send_36 (by decide) (fun c_8 => ?_) (fun c_8 => ?_)
      · have hf := hb_f hf c_8
        refine lv_ldcw (v := (-1000000003)) hx hb hown (hts _ mX9_send_283) dX9_send_47 ?_
        obtain ⟨e_0, e_1, e_2, e_3, e_4, e_5, e_6, e_7, e_8⟩ := tu9 hf
        subst e_0; subst e_1; subst e_2; subst e_3; subst e_4; subst e_5; subst e_6; subst e_7; subst e_8
        exact hret _ _ _ _ dX9_send_50 rfl hP hS
      · have hf := hb_t hf c_8
        refine lv_aload_n hx hb dX9_send_39 rfl (lv_at hl 0 rfl) ?_
        refine lv_iload_n hx hb dX9_send_40 rfl (lv_at hl 1 rfl) ?_
        obtain ⟨r_9, hc_10, hf⟩ := hb_b hf
        refine cl_Vi (rest := []) [0, 1] 0 C0 hK hP hD hS hA (c_X9_placeOf l D cy a_t a_t_change (.int i_t_places) (.int i_t_words) o_t_kind o_t_worths o_t_frames o_t_frame o_t_pairs o_t_pair (.int i_t_letters) o_t_standing (.ref a_t_isStanding) o_t_worthOf (.int i_t_law) (.int i_t_way) (.int i_t_letter) (.int i_t_turn) (.int i_t_isSettled) o_t_had (.int i_t_logged) (.ref a_t_logWho) (.ref a_t_logFrom) (.ref a_t_logTo) o_t_seed o_t_text o_t_texted o_t_faultPlace o_t_at0 o_t_said o_t_wordEnd o_t_number o_t_numberAt o_t_readPlaces o_t_readWords o_t_readKind o_t_readWorth o_t_readFrames o_t_readFrame o_t_readPairs o_t_readPair o_t_queue o_t_steps o_t_end o_t_sent o_t_firstSent o_t_wasEnd o_t_wasSent o_t_guesses o_t_guessHouse o_t_guessWorth o_t_booked o_t_book o_t_images o_t_isKept z_5 z_6 p1 r_9 hc_10) (cwV 1 hts gX9_send_X9_placeOf rfl rfl rfl (by decide +kernel) ⟨Nat.le_of_ble_eq_true rfl, Nat.le_of_ble_eq_true rfl⟩) rfl rfl rfl rfl rfl rfl rfl hl.1 rfl (Nat.le_of_ble_eq_true rfl) dX9_send_41 ⟨Nat.zero_le _, Nat.zero_le _⟩ (fun H locs hP hD hS => ?_)
        have hP : va_P D vwCl [(a_t, .inr (9, [.int i_t_places, .int i_t_words, o_t_kind, o_t_worths, o_t_frames, o_t_frame, o_t_pairs, o_t_pair, .int i_t_letters, o_t_standing, .ref a_t_isStanding, o_t_worthOf, .int i_t_law, .int i_t_way, .int i_t_letter, .int i_t_turn, .int i_t_isSettled, o_t_had, .int i_t_logged, .ref a_t_logWho, .ref a_t_logFrom, .ref a_t_logTo, o_t_seed, o_t_text, o_t_texted, o_t_faultPlace, o_t_at0, o_t_said, o_t_wordEnd, o_t_number, o_t_numberAt, o_t_readPlaces, o_t_readWords, o_t_readKind, o_t_readWorth, o_t_readFrames, o_t_readFrame, o_t_readPairs, o_t_readPair, .int z_5, .ref a_t_change, o_t_queue, o_t_steps, o_t_end, o_t_sent, o_t_firstSent, o_t_wasEnd, o_t_wasSent, o_t_guesses, o_t_guessHouse, o_t_guessWorth, o_t_booked, o_t_book, o_t_images, o_t_isKept])), (a_t_change, .inl (cy 0, 40, .inl z_6)), (a_t_isStanding, .inl (cy 2, 4096, .inl f_t_isStanding)), (a_t_logWho, .inl (cy 0, 60, .inl f_t_logWho)), (a_t_logFrom, .inl (cy 0, 60, .inl f_t_logFrom)), (a_t_logTo, .inl (cy 0, 60, .inl f_t_logTo))] H := hP
        have hD : va_D A [(a_t, .inr (9, [.int i_t_places, .int i_t_words, o_t_kind, o_t_worths, o_t_frames, o_t_frame, o_t_pairs, o_t_pair, .int i_t_letters, o_t_standing, .ref a_t_isStanding, o_t_worthOf, .int i_t_law, .int i_t_way, .int i_t_letter, .int i_t_turn, .int i_t_isSettled, o_t_had, .int i_t_logged, .ref a_t_logWho, .ref a_t_logFrom, .ref a_t_logTo, o_t_seed, o_t_text, o_t_texted, o_t_faultPlace, o_t_at0, o_t_said, o_t_wordEnd, o_t_number, o_t_numberAt, o_t_readPlaces, o_t_readWords, o_t_readKind, o_t_readWorth, o_t_readFrames, o_t_readFrame, o_t_readPairs, o_t_readPair, .int z_5, .ref a_t_change, o_t_queue, o_t_steps, o_t_end, o_t_sent, o_t_firstSent, o_t_wasEnd, o_t_wasSent, o_t_guesses, o_t_guessHouse, o_t_guessWorth, o_t_booked, o_t_book, o_t_images, o_t_isKept])), (a_t_change, .inl (cy 0, 40, .inl z_6)), (a_t_isStanding, .inl (cy 2, 4096, .inl f_t_isStanding)), (a_t_logWho, .inl (cy 0, 60, .inl f_t_logWho)), (a_t_logFrom, .inl (cy 0, 60, .inl f_t_logFrom)), (a_t_logTo, .inl (cy 0, 60, .inl f_t_logTo))] := hD
        refine lv_if_ge (tgt := 51) hx hb dX9_send_44 (by decide) (fun c_11 => ?_) (fun c_11 => ?_)
        · have hf := hb_t hf c_11
          refine lv_aload_n hx hb dX9_send_51 rfl (lv_at hl 0 rfl) ?_
          refine va_get (D := D) (ci := 9) (v := .int i_t_logged) (C := RX9) (T := TX9) (N := 55) hx hb hts uX9_send_X9 hown hK.1.1 hP 0 rfl rfl 18 (by decide) (hts _ mX9_send_229) (fun _ h9 => h9) rfl dX9_send_52 ?_
          refine lv_bipush (v := 60) hx hb dX9_send_55 (by decide) ?_
          refine lv_icmp_ne (tgt := 63) hx hb dX9_send_57 (by decide) (fun c_12 => ?_) (fun c_12 => ?_)
          · have hf := hb_f hf c_12
            refine lv_aload_n hx hb dX9_send_63 rfl (lv_at hl 0 rfl) ?_
            refine lv_iload_n hx hb dX9_send_64 rfl (lv_at hl 1 rfl) ?_
            obtain ⟨⟨z_13, z_14, z_15, z_16, z_17, z_18⟩, hc_19, hf⟩ := hb_b hf
            refine cl_Vv (rest := []) [0, 3, 4, 5] 0 C0 hK hP hD hS hA (c_X9_sendNow l D cy a_t a_t_logWho a_t_logFrom a_t_logTo (.int i_t_places) (.int i_t_words) o_t_kind o_t_worths o_t_frames o_t_frame o_t_pairs o_t_pair (.int i_t_letters) o_t_standing (.ref a_t_isStanding) o_t_worthOf (.int i_t_law) (.int i_t_way) (.int i_t_isSettled) o_t_had o_t_seed o_t_text o_t_texted o_t_faultPlace o_t_at0 o_t_said o_t_wordEnd o_t_number o_t_numberAt o_t_readPlaces o_t_readWords o_t_readKind o_t_readWorth o_t_readFrames o_t_readFrame o_t_readPairs o_t_readPair (.int z_5) (.ref a_t_change) o_t_queue o_t_steps o_t_end o_t_sent o_t_firstSent o_t_wasEnd o_t_wasSent o_t_guesses o_t_guessHouse o_t_guessWorth o_t_booked o_t_book o_t_images o_t_isKept i_t_letter i_t_turn i_t_logged f_t_logWho f_t_logFrom f_t_logTo p1 z_13 z_14 z_15 z_16 z_17 z_18 hc_19) (cwV 1 hts gX9_send_X9_sendNow rfl rfl rfl (by decide +kernel) ⟨Nat.le_of_ble_eq_true rfl, Nat.le_of_ble_eq_true rfl⟩) rfl rfl rfl rfl rfl rfl rfl hl.1 rfl (Nat.le_of_ble_eq_true rfl) dX9_send_65 ⟨Nat.zero_le _, Nat.zero_le _⟩ (fun H locs hP hD hS => ?_)
            have hP : va_P D vwCl [(a_t, .inr (9, [.int i_t_places, .int i_t_words, o_t_kind, o_t_worths, o_t_frames, o_t_frame, o_t_pairs, o_t_pair, .int i_t_letters, o_t_standing, .ref a_t_isStanding, o_t_worthOf, .int i_t_law, .int i_t_way, .int z_13, .int z_14, .int i_t_isSettled, o_t_had, .int z_15, .ref a_t_logWho, .ref a_t_logFrom, .ref a_t_logTo, o_t_seed, o_t_text, o_t_texted, o_t_faultPlace, o_t_at0, o_t_said, o_t_wordEnd, o_t_number, o_t_numberAt, o_t_readPlaces, o_t_readWords, o_t_readKind, o_t_readWorth, o_t_readFrames, o_t_readFrame, o_t_readPairs, o_t_readPair, .int z_5, .ref a_t_change, o_t_queue, o_t_steps, o_t_end, o_t_sent, o_t_firstSent, o_t_wasEnd, o_t_wasSent, o_t_guesses, o_t_guessHouse, o_t_guessWorth, o_t_booked, o_t_book, o_t_images, o_t_isKept])), (a_t_change, .inl (cy 0, 40, .inl z_6)), (a_t_isStanding, .inl (cy 2, 4096, .inl f_t_isStanding)), (a_t_logWho, .inl (cy 0, 60, .inl z_16)), (a_t_logFrom, .inl (cy 0, 60, .inl z_17)), (a_t_logTo, .inl (cy 0, 60, .inl z_18))] H := hP
            have hD : va_D A [(a_t, .inr (9, [.int i_t_places, .int i_t_words, o_t_kind, o_t_worths, o_t_frames, o_t_frame, o_t_pairs, o_t_pair, .int i_t_letters, o_t_standing, .ref a_t_isStanding, o_t_worthOf, .int i_t_law, .int i_t_way, .int z_13, .int z_14, .int i_t_isSettled, o_t_had, .int z_15, .ref a_t_logWho, .ref a_t_logFrom, .ref a_t_logTo, o_t_seed, o_t_text, o_t_texted, o_t_faultPlace, o_t_at0, o_t_said, o_t_wordEnd, o_t_number, o_t_numberAt, o_t_readPlaces, o_t_readWords, o_t_readKind, o_t_readWorth, o_t_readFrames, o_t_readFrame, o_t_readPairs, o_t_readPair, .int z_5, .ref a_t_change, o_t_queue, o_t_steps, o_t_end, o_t_sent, o_t_firstSent, o_t_wasEnd, o_t_wasSent, o_t_guesses, o_t_guessHouse, o_t_guessWorth, o_t_booked, o_t_book, o_t_images, o_t_isKept])), (a_t_change, .inl (cy 0, 40, .inl z_6)), (a_t_isStanding, .inl (cy 2, 4096, .inl f_t_isStanding)), (a_t_logWho, .inl (cy 0, 60, .inl z_16)), (a_t_logFrom, .inl (cy 0, 60, .inl z_17)), (a_t_logTo, .inl (cy 0, 60, .inl z_18))] := hD
            refine lv_aload_n hx hb dX9_send_68 rfl (lv_at hl 0 rfl) ?_
            refine va_get (D := D) (ci := 9) (v := .int z_14) (C := RX9) (T := TX9) (N := 55) hx hb hts uX9_send_X9 hown hK.1.1 hP 0 rfl rfl 15 (by decide) (hts _ mX9_send_222) (fun _ h9 => h9) rfl dX9_send_69 ?_
            obtain ⟨e_0, e_1, e_2, e_3, e_4, e_5, e_6, e_7, e_8⟩ := tu9 hf
            subst e_0; subst e_1; subst e_2; subst e_3; subst e_4; subst e_5; subst e_6; subst e_7; subst e_8
            exact hret _ _ _ _ dX9_send_72 rfl hP hS
          · have hf := hb_t hf c_12
            refine lv_ldc (v := (-1000000004)) hx hb hown (hts _ mX9_send_122) dX9_send_60 ?_
            obtain ⟨e_0, e_1, e_2, e_3, e_4, e_5, e_6, e_7, e_8⟩ := tu9 hf
            subst e_0; subst e_1; subst e_2; subst e_3; subst e_4; subst e_5; subst e_6; subst e_7; subst e_8
            exact hret _ _ _ _ dX9_send_62 rfl hP hS
        · have hf := hb_f hf c_11
          refine lv_ldcw (v := (-1000000003)) hx hb hown (hts _ mX9_send_283) dX9_send_47 ?_
          obtain ⟨e_0, e_1, e_2, e_3, e_4, e_5, e_6, e_7, e_8⟩ := tu9 hf
          subst e_0; subst e_1; subst e_2; subst e_3; subst e_4; subst e_5; subst e_6; subst e_7; subst e_8
          exact hret _ _ _ _ dX9_send_50 rfl hP hS
    · have hf := hb_t hf c_4
      refine lv_iconst (v := 1) hx hb dX9_send_24 (by decide) ?_
      refine lv_goto (tgt := 29) hx hb dX9_send_25 (by decide) ?_
      obtain ⟨⟨z_20, z_21⟩, hc_22, hf⟩ := hb_b hf
      refine cl_Vv (rest := []) [0, 1, 2] 0 C0 hK hP hD hS hA (c_X9_findChanges l D cy a_t a_t_change a_t_isStanding o_t_kind o_t_worths o_t_frames o_t_frame o_t_pairs o_t_pair (.int i_t_letters) o_t_standing o_t_worthOf (.int i_t_way) (.int i_t_letter) (.int i_t_turn) (.int i_t_isSettled) o_t_had (.int i_t_logged) (.ref a_t_logWho) (.ref a_t_logFrom) (.ref a_t_logTo) o_t_seed o_t_text o_t_texted o_t_faultPlace o_t_at0 o_t_said o_t_wordEnd o_t_number o_t_numberAt o_t_readPlaces o_t_readWords o_t_readKind o_t_readWorth o_t_readFrames o_t_readFrame o_t_readPairs o_t_readPair o_t_queue o_t_steps o_t_end o_t_sent o_t_firstSent o_t_wasEnd o_t_wasSent o_t_guesses o_t_guessHouse o_t_guessWorth o_t_booked o_t_book o_t_images o_t_isKept i_t_places i_t_words i_t_law f_t_isStanding i_t_changes f_t_change i_t_letter 1 z_20 z_21 hc_22) (cwV 2 hts gX9_send_X9_findChanges rfl rfl rfl (by decide +kernel) ⟨Nat.le_of_ble_eq_true rfl, Nat.le_of_ble_eq_true rfl⟩) rfl rfl rfl rfl rfl rfl rfl hl.1 rfl (Nat.le_of_ble_eq_true rfl) dX9_send_29 ⟨Nat.zero_le _, Nat.zero_le _⟩ (fun H locs hP hD hS => ?_)
      have hP : va_P D vwCl [(a_t, .inr (9, [.int i_t_places, .int i_t_words, o_t_kind, o_t_worths, o_t_frames, o_t_frame, o_t_pairs, o_t_pair, .int i_t_letters, o_t_standing, .ref a_t_isStanding, o_t_worthOf, .int i_t_law, .int i_t_way, .int i_t_letter, .int i_t_turn, .int i_t_isSettled, o_t_had, .int i_t_logged, .ref a_t_logWho, .ref a_t_logFrom, .ref a_t_logTo, o_t_seed, o_t_text, o_t_texted, o_t_faultPlace, o_t_at0, o_t_said, o_t_wordEnd, o_t_number, o_t_numberAt, o_t_readPlaces, o_t_readWords, o_t_readKind, o_t_readWorth, o_t_readFrames, o_t_readFrame, o_t_readPairs, o_t_readPair, .int z_20, .ref a_t_change, o_t_queue, o_t_steps, o_t_end, o_t_sent, o_t_firstSent, o_t_wasEnd, o_t_wasSent, o_t_guesses, o_t_guessHouse, o_t_guessWorth, o_t_booked, o_t_book, o_t_images, o_t_isKept])), (a_t_change, .inl (cy 0, 40, .inl z_21)), (a_t_isStanding, .inl (cy 2, 4096, .inl f_t_isStanding)), (a_t_logWho, .inl (cy 0, 60, .inl f_t_logWho)), (a_t_logFrom, .inl (cy 0, 60, .inl f_t_logFrom)), (a_t_logTo, .inl (cy 0, 60, .inl f_t_logTo))] H := hP
      have hD : va_D A [(a_t, .inr (9, [.int i_t_places, .int i_t_words, o_t_kind, o_t_worths, o_t_frames, o_t_frame, o_t_pairs, o_t_pair, .int i_t_letters, o_t_standing, .ref a_t_isStanding, o_t_worthOf, .int i_t_law, .int i_t_way, .int i_t_letter, .int i_t_turn, .int i_t_isSettled, o_t_had, .int i_t_logged, .ref a_t_logWho, .ref a_t_logFrom, .ref a_t_logTo, o_t_seed, o_t_text, o_t_texted, o_t_faultPlace, o_t_at0, o_t_said, o_t_wordEnd, o_t_number, o_t_numberAt, o_t_readPlaces, o_t_readWords, o_t_readKind, o_t_readWorth, o_t_readFrames, o_t_readFrame, o_t_readPairs, o_t_readPair, .int z_20, .ref a_t_change, o_t_queue, o_t_steps, o_t_end, o_t_sent, o_t_firstSent, o_t_wasEnd, o_t_wasSent, o_t_guesses, o_t_guessHouse, o_t_guessWorth, o_t_booked, o_t_book, o_t_images, o_t_isKept])), (a_t_change, .inl (cy 0, 40, .inl z_21)), (a_t_isStanding, .inl (cy 2, 4096, .inl f_t_isStanding)), (a_t_logWho, .inl (cy 0, 60, .inl f_t_logWho)), (a_t_logFrom, .inl (cy 0, 60, .inl f_t_logFrom)), (a_t_logTo, .inl (cy 0, 60, .inl f_t_logTo))] := hD
      refine lv_aload_n hx hb dX9_send_32 rfl (lv_at hl 0 rfl) ?_
      refine va_get (D := D) (ci := 9) (v := .int i_t_isSettled) (C := RX9) (T := TX9) (N := 55) hx hb hts uX9_send_X9 hown hK.1.1 hP 0 rfl rfl 16 (by decide) (hts _ mX9_send_225) (fun _ h9 => h9) rfl dX9_send_33 ?_
      refine lv_if_ne (tgt := 47) hx hb dX9_send_36 (by decide) (fun c_23 => ?_) (fun c_23 => ?_)
      · have hf := hb_f hf c_23
        refine lv_ldcw (v := (-1000000003)) hx hb hown (hts _ mX9_send_283) dX9_send_47 ?_
        obtain ⟨e_0, e_1, e_2, e_3, e_4, e_5, e_6, e_7, e_8⟩ := tu9 hf
        subst e_0; subst e_1; subst e_2; subst e_3; subst e_4; subst e_5; subst e_6; subst e_7; subst e_8
        exact hret _ _ _ _ dX9_send_50 rfl hP hS
      · have hf := hb_t hf c_23
        refine lv_aload_n hx hb dX9_send_39 rfl (lv_at hl 0 rfl) ?_
        refine lv_iload_n hx hb dX9_send_40 rfl (lv_at hl 1 rfl) ?_
        obtain ⟨r_24, hc_25, hf⟩ := hb_b hf
        refine cl_Vi (rest := []) [0, 1] 0 C0 hK hP hD hS hA (c_X9_placeOf l D cy a_t a_t_change (.int i_t_places) (.int i_t_words) o_t_kind o_t_worths o_t_frames o_t_frame o_t_pairs o_t_pair (.int i_t_letters) o_t_standing (.ref a_t_isStanding) o_t_worthOf (.int i_t_law) (.int i_t_way) (.int i_t_letter) (.int i_t_turn) (.int i_t_isSettled) o_t_had (.int i_t_logged) (.ref a_t_logWho) (.ref a_t_logFrom) (.ref a_t_logTo) o_t_seed o_t_text o_t_texted o_t_faultPlace o_t_at0 o_t_said o_t_wordEnd o_t_number o_t_numberAt o_t_readPlaces o_t_readWords o_t_readKind o_t_readWorth o_t_readFrames o_t_readFrame o_t_readPairs o_t_readPair o_t_queue o_t_steps o_t_end o_t_sent o_t_firstSent o_t_wasEnd o_t_wasSent o_t_guesses o_t_guessHouse o_t_guessWorth o_t_booked o_t_book o_t_images o_t_isKept z_20 z_21 p1 r_24 hc_25) (cwV 1 hts gX9_send_X9_placeOf rfl rfl rfl (by decide +kernel) ⟨Nat.le_of_ble_eq_true rfl, Nat.le_of_ble_eq_true rfl⟩) rfl rfl rfl rfl rfl rfl rfl hl.1 rfl (Nat.le_of_ble_eq_true rfl) dX9_send_41 ⟨Nat.zero_le _, Nat.zero_le _⟩ (fun H locs hP hD hS => ?_)
        have hP : va_P D vwCl [(a_t, .inr (9, [.int i_t_places, .int i_t_words, o_t_kind, o_t_worths, o_t_frames, o_t_frame, o_t_pairs, o_t_pair, .int i_t_letters, o_t_standing, .ref a_t_isStanding, o_t_worthOf, .int i_t_law, .int i_t_way, .int i_t_letter, .int i_t_turn, .int i_t_isSettled, o_t_had, .int i_t_logged, .ref a_t_logWho, .ref a_t_logFrom, .ref a_t_logTo, o_t_seed, o_t_text, o_t_texted, o_t_faultPlace, o_t_at0, o_t_said, o_t_wordEnd, o_t_number, o_t_numberAt, o_t_readPlaces, o_t_readWords, o_t_readKind, o_t_readWorth, o_t_readFrames, o_t_readFrame, o_t_readPairs, o_t_readPair, .int z_20, .ref a_t_change, o_t_queue, o_t_steps, o_t_end, o_t_sent, o_t_firstSent, o_t_wasEnd, o_t_wasSent, o_t_guesses, o_t_guessHouse, o_t_guessWorth, o_t_booked, o_t_book, o_t_images, o_t_isKept])), (a_t_change, .inl (cy 0, 40, .inl z_21)), (a_t_isStanding, .inl (cy 2, 4096, .inl f_t_isStanding)), (a_t_logWho, .inl (cy 0, 60, .inl f_t_logWho)), (a_t_logFrom, .inl (cy 0, 60, .inl f_t_logFrom)), (a_t_logTo, .inl (cy 0, 60, .inl f_t_logTo))] H := hP
        have hD : va_D A [(a_t, .inr (9, [.int i_t_places, .int i_t_words, o_t_kind, o_t_worths, o_t_frames, o_t_frame, o_t_pairs, o_t_pair, .int i_t_letters, o_t_standing, .ref a_t_isStanding, o_t_worthOf, .int i_t_law, .int i_t_way, .int i_t_letter, .int i_t_turn, .int i_t_isSettled, o_t_had, .int i_t_logged, .ref a_t_logWho, .ref a_t_logFrom, .ref a_t_logTo, o_t_seed, o_t_text, o_t_texted, o_t_faultPlace, o_t_at0, o_t_said, o_t_wordEnd, o_t_number, o_t_numberAt, o_t_readPlaces, o_t_readWords, o_t_readKind, o_t_readWorth, o_t_readFrames, o_t_readFrame, o_t_readPairs, o_t_readPair, .int z_20, .ref a_t_change, o_t_queue, o_t_steps, o_t_end, o_t_sent, o_t_firstSent, o_t_wasEnd, o_t_wasSent, o_t_guesses, o_t_guessHouse, o_t_guessWorth, o_t_booked, o_t_book, o_t_images, o_t_isKept])), (a_t_change, .inl (cy 0, 40, .inl z_21)), (a_t_isStanding, .inl (cy 2, 4096, .inl f_t_isStanding)), (a_t_logWho, .inl (cy 0, 60, .inl f_t_logWho)), (a_t_logFrom, .inl (cy 0, 60, .inl f_t_logFrom)), (a_t_logTo, .inl (cy 0, 60, .inl f_t_logTo))] := hD
        refine lv_if_ge (tgt := 51) hx hb dX9_send_44 (by decide) (fun c_26 => ?_) (fun c_26 => ?_)
        · have hf := hb_t hf c_26
          refine lv_aload_n hx hb dX9_send_51 rfl (lv_at hl 0 rfl) ?_
          refine va_get (D := D) (ci := 9) (v := .int i_t_logged) (C := RX9) (T := TX9) (N := 55) hx hb hts uX9_send_X9 hown hK.1.1 hP 0 rfl rfl 18 (by decide) (hts _ mX9_send_229) (fun _ h9 => h9) rfl dX9_send_52 ?_
          refine lv_bipush (v := 60) hx hb dX9_send_55 (by decide) ?_
          refine lv_icmp_ne (tgt := 63) hx hb dX9_send_57 (by decide) (fun c_27 => ?_) (fun c_27 => ?_)
          · have hf := hb_f hf c_27
            refine lv_aload_n hx hb dX9_send_63 rfl (lv_at hl 0 rfl) ?_
            refine lv_iload_n hx hb dX9_send_64 rfl (lv_at hl 1 rfl) ?_
            obtain ⟨⟨z_28, z_29, z_30, z_31, z_32, z_33⟩, hc_34, hf⟩ := hb_b hf
            refine cl_Vv (rest := []) [0, 3, 4, 5] 0 C0 hK hP hD hS hA (c_X9_sendNow l D cy a_t a_t_logWho a_t_logFrom a_t_logTo (.int i_t_places) (.int i_t_words) o_t_kind o_t_worths o_t_frames o_t_frame o_t_pairs o_t_pair (.int i_t_letters) o_t_standing (.ref a_t_isStanding) o_t_worthOf (.int i_t_law) (.int i_t_way) (.int i_t_isSettled) o_t_had o_t_seed o_t_text o_t_texted o_t_faultPlace o_t_at0 o_t_said o_t_wordEnd o_t_number o_t_numberAt o_t_readPlaces o_t_readWords o_t_readKind o_t_readWorth o_t_readFrames o_t_readFrame o_t_readPairs o_t_readPair (.int z_20) (.ref a_t_change) o_t_queue o_t_steps o_t_end o_t_sent o_t_firstSent o_t_wasEnd o_t_wasSent o_t_guesses o_t_guessHouse o_t_guessWorth o_t_booked o_t_book o_t_images o_t_isKept i_t_letter i_t_turn i_t_logged f_t_logWho f_t_logFrom f_t_logTo p1 z_28 z_29 z_30 z_31 z_32 z_33 hc_34) (cwV 1 hts gX9_send_X9_sendNow rfl rfl rfl (by decide +kernel) ⟨Nat.le_of_ble_eq_true rfl, Nat.le_of_ble_eq_true rfl⟩) rfl rfl rfl rfl rfl rfl rfl hl.1 rfl (Nat.le_of_ble_eq_true rfl) dX9_send_65 ⟨Nat.zero_le _, Nat.zero_le _⟩ (fun H locs hP hD hS => ?_)
            have hP : va_P D vwCl [(a_t, .inr (9, [.int i_t_places, .int i_t_words, o_t_kind, o_t_worths, o_t_frames, o_t_frame, o_t_pairs, o_t_pair, .int i_t_letters, o_t_standing, .ref a_t_isStanding, o_t_worthOf, .int i_t_law, .int i_t_way, .int z_28, .int z_29, .int i_t_isSettled, o_t_had, .int z_30, .ref a_t_logWho, .ref a_t_logFrom, .ref a_t_logTo, o_t_seed, o_t_text, o_t_texted, o_t_faultPlace, o_t_at0, o_t_said, o_t_wordEnd, o_t_number, o_t_numberAt, o_t_readPlaces, o_t_readWords, o_t_readKind, o_t_readWorth, o_t_readFrames, o_t_readFrame, o_t_readPairs, o_t_readPair, .int z_20, .ref a_t_change, o_t_queue, o_t_steps, o_t_end, o_t_sent, o_t_firstSent, o_t_wasEnd, o_t_wasSent, o_t_guesses, o_t_guessHouse, o_t_guessWorth, o_t_booked, o_t_book, o_t_images, o_t_isKept])), (a_t_change, .inl (cy 0, 40, .inl z_21)), (a_t_isStanding, .inl (cy 2, 4096, .inl f_t_isStanding)), (a_t_logWho, .inl (cy 0, 60, .inl z_31)), (a_t_logFrom, .inl (cy 0, 60, .inl z_32)), (a_t_logTo, .inl (cy 0, 60, .inl z_33))] H := hP
            have hD : va_D A [(a_t, .inr (9, [.int i_t_places, .int i_t_words, o_t_kind, o_t_worths, o_t_frames, o_t_frame, o_t_pairs, o_t_pair, .int i_t_letters, o_t_standing, .ref a_t_isStanding, o_t_worthOf, .int i_t_law, .int i_t_way, .int z_28, .int z_29, .int i_t_isSettled, o_t_had, .int z_30, .ref a_t_logWho, .ref a_t_logFrom, .ref a_t_logTo, o_t_seed, o_t_text, o_t_texted, o_t_faultPlace, o_t_at0, o_t_said, o_t_wordEnd, o_t_number, o_t_numberAt, o_t_readPlaces, o_t_readWords, o_t_readKind, o_t_readWorth, o_t_readFrames, o_t_readFrame, o_t_readPairs, o_t_readPair, .int z_20, .ref a_t_change, o_t_queue, o_t_steps, o_t_end, o_t_sent, o_t_firstSent, o_t_wasEnd, o_t_wasSent, o_t_guesses, o_t_guessHouse, o_t_guessWorth, o_t_booked, o_t_book, o_t_images, o_t_isKept])), (a_t_change, .inl (cy 0, 40, .inl z_21)), (a_t_isStanding, .inl (cy 2, 4096, .inl f_t_isStanding)), (a_t_logWho, .inl (cy 0, 60, .inl z_31)), (a_t_logFrom, .inl (cy 0, 60, .inl z_32)), (a_t_logTo, .inl (cy 0, 60, .inl z_33))] := hD
            refine lv_aload_n hx hb dX9_send_68 rfl (lv_at hl 0 rfl) ?_
            refine va_get (D := D) (ci := 9) (v := .int z_29) (C := RX9) (T := TX9) (N := 55) hx hb hts uX9_send_X9 hown hK.1.1 hP 0 rfl rfl 15 (by decide) (hts _ mX9_send_222) (fun _ h9 => h9) rfl dX9_send_69 ?_
            obtain ⟨e_0, e_1, e_2, e_3, e_4, e_5, e_6, e_7, e_8⟩ := tu9 hf
            subst e_0; subst e_1; subst e_2; subst e_3; subst e_4; subst e_5; subst e_6; subst e_7; subst e_8
            exact hret _ _ _ _ dX9_send_72 rfl hP hS
          · have hf := hb_t hf c_27
            refine lv_ldc (v := (-1000000004)) hx hb hown (hts _ mX9_send_122) dX9_send_60 ?_
            obtain ⟨e_0, e_1, e_2, e_3, e_4, e_5, e_6, e_7, e_8⟩ := tu9 hf
            subst e_0; subst e_1; subst e_2; subst e_3; subst e_4; subst e_5; subst e_6; subst e_7; subst e_8
            exact hret _ _ _ _ dX9_send_62 rfl hP hS
        · have hf := hb_f hf c_26
          refine lv_ldcw (v := (-1000000003)) hx hb hown (hts _ mX9_send_283) dX9_send_47 ?_
          obtain ⟨e_0, e_1, e_2, e_3, e_4, e_5, e_6, e_7, e_8⟩ := tu9 hf
          subst e_0; subst e_1; subst e_2; subst e_3; subst e_4; subst e_5; subst e_6; subst e_7; subst e_8
          exact hret _ _ _ _ dX9_send_50 rfl hP hS
  · have hf := hb_t hf c_3
    refine lv_ldc (v := (-1000000002)) hx hb hown (hts _ mX9_send_118) dX9_send_8 ?_
    obtain ⟨e_0, e_1, e_2, e_3, e_4, e_5, e_6, e_7, e_8⟩ := tu9 hf
    subst e_0; subst e_1; subst e_2; subst e_3; subst e_4; subst e_5; subst e_6; subst e_7; subst e_8
    exact hret _ _ _ _ dX9_send_10 rfl hP hS
theorem mX9_haveBoth_29 : Cond.fieldLink RX9 29 "OneWordLettersModel" "had" "[I" ∈ wsX9_haveBoth := by decide +kernel
theorem uX9_haveBoth_X9 : ∀ w ∈ wsX90, w ∈ wsX9_haveBoth := fun _ h => List.mem_cons_of_mem _ (List.mem_append_right _ h)
theorem mX9_haveBoth_26 : Cond.fieldLink RX9 26 "OneWordLettersModel" "worthOf" "[I" ∈ wsX9_haveBoth := by decide +kernel
theorem mX9_haveBoth_219 : Cond.fieldLink RX9 219 "OneWordLettersModel" "letter" "I" ∈ wsX9_haveBoth := by decide +kernel
abbrev rmX9_haveBoth : Room := { frames := 0, cells := 0, slots := 0, locals := 0 }
def f_X9_haveBoth (i_t_letter : Int32) (f_t_worthOf : Nat → Int32) (f_t_had : Nat → Int32) : Option ((Nat → Int32)) :=
  if ixb 0 2 = true then
  if ixb (2 * i_t_letter) 8192 = true then
  if ixb 0 2 = true then
  if ixb 1 2 = true then
  if ixb ((2 * i_t_letter) + 1) 8192 = true then
  if ixb 1 2 = true then
  some (upd (upd f_t_had (0 : Int32).toNatClampNeg ((f_t_had (0 : Int32).toNatClampNeg) + (f_t_worthOf ((2 * i_t_letter) : Int32).toNatClampNeg))) (1 : Int32).toNatClampNeg (((upd f_t_had (0 : Int32).toNatClampNeg ((f_t_had (0 : Int32).toNatClampNeg) + (f_t_worthOf ((2 * i_t_letter) : Int32).toNatClampNeg))) (1 : Int32).toNatClampNeg) + (f_t_worthOf (((2 * i_t_letter) + 1) : Int32).toNatClampNeg)))
  else none
  else none
  else none
  else none
  else none
  else none
set_option maxRecDepth 100000 in
set_option maxHeartbeats 4000000 in
theorem c_X9_haveBoth (l : Launch) (D : va_G) (cy : Nat → ClassId) (a_t : Nat) (a_t_had : Nat) (a_t_worthOf : Nat) (o_t_places : Value) (o_t_words : Value) (o_t_kind : Value) (o_t_worths : Value) (o_t_frames : Value) (o_t_frame : Value) (o_t_pairs : Value) (o_t_pair : Value) (o_t_letters : Value) (o_t_standing : Value) (o_t_isStanding : Value) (o_t_law : Value) (o_t_way : Value) (o_t_turn : Value) (o_t_isSettled : Value) (o_t_logged : Value) (o_t_logWho : Value) (o_t_logFrom : Value) (o_t_logTo : Value) (o_t_seed : Value) (o_t_text : Value) (o_t_texted : Value) (o_t_faultPlace : Value) (o_t_at0 : Value) (o_t_said : Value) (o_t_wordEnd : Value) (o_t_number : Value) (o_t_numberAt : Value) (o_t_readPlaces : Value) (o_t_readWords : Value) (o_t_readKind : Value) (o_t_readWorth : Value) (o_t_readFrames : Value) (o_t_readFrame : Value) (o_t_readPairs : Value) (o_t_readPair : Value) (o_t_changes : Value) (o_t_change : Value) (o_t_queue : Value) (o_t_steps : Value) (o_t_end : Value) (o_t_sent : Value) (o_t_firstSent : Value) (o_t_wasEnd : Value) (o_t_wasSent : Value) (o_t_guesses : Value) (o_t_guessHouse : Value) (o_t_guessWorth : Value) (o_t_booked : Value) (o_t_book : Value) (o_t_images : Value) (o_t_isKept : Value) (i_t_letter : Int32) (f_t_worthOf : Nat → Int32) (f_t_had : Nat → Int32) (z_f_t_had : Nat → Int32) (hf : f_X9_haveBoth i_t_letter f_t_worthOf f_t_had = some z_f_t_had) : MV l D cy yX9_haveBoth wsX9_haveBoth rmX9_haveBoth [.ref a_t] [(a_t, .inr (9, [o_t_places, o_t_words, o_t_kind, o_t_worths, o_t_frames, o_t_frame, o_t_pairs, o_t_pair, o_t_letters, o_t_standing, o_t_isStanding, .ref a_t_worthOf, o_t_law, o_t_way, .int i_t_letter, o_t_turn, o_t_isSettled, .ref a_t_had, o_t_logged, o_t_logWho, o_t_logFrom, o_t_logTo, o_t_seed, o_t_text, o_t_texted, o_t_faultPlace, o_t_at0, o_t_said, o_t_wordEnd, o_t_number, o_t_numberAt, o_t_readPlaces, o_t_readWords, o_t_readKind, o_t_readWorth, o_t_readFrames, o_t_readFrame, o_t_readPairs, o_t_readPair, o_t_changes, o_t_change, o_t_queue, o_t_steps, o_t_end, o_t_sent, o_t_firstSent, o_t_wasEnd, o_t_wasSent, o_t_guesses, o_t_guessHouse, o_t_guessWorth, o_t_booked, o_t_book, o_t_images, o_t_isKept])), (a_t_had, .inl (cy 0, 2, .inl f_t_had)), (a_t_worthOf, .inl (cy 0, 8192, .inl f_t_worthOf))] [(a_t, .inr (9, [o_t_places, o_t_words, o_t_kind, o_t_worths, o_t_frames, o_t_frame, o_t_pairs, o_t_pair, o_t_letters, o_t_standing, o_t_isStanding, .ref a_t_worthOf, o_t_law, o_t_way, .int i_t_letter, o_t_turn, o_t_isSettled, .ref a_t_had, o_t_logged, o_t_logWho, o_t_logFrom, o_t_logTo, o_t_seed, o_t_text, o_t_texted, o_t_faultPlace, o_t_at0, o_t_said, o_t_wordEnd, o_t_number, o_t_numberAt, o_t_readPlaces, o_t_readWords, o_t_readKind, o_t_readWorth, o_t_readFrames, o_t_readFrame, o_t_readPairs, o_t_readPair, o_t_changes, o_t_change, o_t_queue, o_t_steps, o_t_end, o_t_sent, o_t_firstSent, o_t_wasEnd, o_t_wasSent, o_t_guesses, o_t_guessHouse, o_t_guessWorth, o_t_booked, o_t_book, o_t_images, o_t_isKept])), (a_t_had, .inl (cy 0, 2, .inl z_f_t_had)), (a_t_worthOf, .inl (cy 0, 8192, .inl f_t_worthOf))] := by
  refine st_V (by decide) rfl (Nat.le_of_ble_eq_true rfl) (fun p e s m below meth c A Q ls C0 hA hK hP hD hS hl hret => ?_)
  obtain ⟨hx, hb, hr, hml, hown, hts, hlocks⟩ := id C0
  have hl : lv_has ls 1 [(0, .ref a_t)] := hl
  unfold f_X9_haveBoth at hf
  refine lv_aload_n hx hb dX9_haveBoth_0 rfl (lv_at hl 0 rfl) ?_
  refine va_get (D := D) (ci := 9) (v := .ref a_t_had) (C := RX9) (T := TX9) (N := 55) hx hb hts uX9_haveBoth_X9 hown hK.1.1 hP 0 rfl rfl 17 (by decide) (hts _ mX9_haveBoth_29) (fun _ h9 => h9) rfl dX9_haveBoth_1 ?_
  refine lv_iconst (v := 0) hx hb dX9_haveBoth_4 (by decide) ?_
  refine lv_dup2_11 hx hb dX9_haveBoth_5 rfl rfl ?_
  obtain ⟨hg_1, hf⟩ := hb_g hf
  refine va_iald hx hb hK.1.1 hP 1 0 rfl rfl (ixb_in hg_1) dX9_haveBoth_6 ?_
  refine lv_aload_n hx hb dX9_haveBoth_7 rfl (lv_at hl 0 rfl) ?_
  refine va_get (D := D) (ci := 9) (v := .ref a_t_worthOf) (C := RX9) (T := TX9) (N := 55) hx hb hts uX9_haveBoth_X9 hown hK.1.1 hP 0 rfl rfl 11 (by decide) (hts _ mX9_haveBoth_26) (fun _ h9 => h9) rfl dX9_haveBoth_8 ?_
  refine lv_iconst (v := 2) hx hb dX9_haveBoth_11 (by decide) ?_
  refine lv_aload_n hx hb dX9_haveBoth_12 rfl (lv_at hl 0 rfl) ?_
  refine va_get (D := D) (ci := 9) (v := .int i_t_letter) (C := RX9) (T := TX9) (N := 55) hx hb hts uX9_haveBoth_X9 hown hK.1.1 hP 0 rfl rfl 14 (by decide) (hts _ mX9_haveBoth_219) (fun _ h9 => h9) rfl dX9_haveBoth_13 ?_
  refine lv_imul hx hb dX9_haveBoth_16 ?_
  obtain ⟨hg_2, hf⟩ := hb_g hf
  refine va_iald hx hb hK.1.1 hP 2 0 rfl rfl (ixb_in hg_2) dX9_haveBoth_17 ?_
  refine lv_iadd hx hb dX9_haveBoth_18 ?_
  obtain ⟨hg_3, hf⟩ := hb_g hf
  refine va_iast hx hb hK.1.1 hP hD hS 1 0 rfl rfl (ixb_in hg_3) dX9_haveBoth_19 (fun H locs hP hD hS => ?_)
  have hP : va_P D vwCl [(a_t, .inr (9, [o_t_places, o_t_words, o_t_kind, o_t_worths, o_t_frames, o_t_frame, o_t_pairs, o_t_pair, o_t_letters, o_t_standing, o_t_isStanding, .ref a_t_worthOf, o_t_law, o_t_way, .int i_t_letter, o_t_turn, o_t_isSettled, .ref a_t_had, o_t_logged, o_t_logWho, o_t_logFrom, o_t_logTo, o_t_seed, o_t_text, o_t_texted, o_t_faultPlace, o_t_at0, o_t_said, o_t_wordEnd, o_t_number, o_t_numberAt, o_t_readPlaces, o_t_readWords, o_t_readKind, o_t_readWorth, o_t_readFrames, o_t_readFrame, o_t_readPairs, o_t_readPair, o_t_changes, o_t_change, o_t_queue, o_t_steps, o_t_end, o_t_sent, o_t_firstSent, o_t_wasEnd, o_t_wasSent, o_t_guesses, o_t_guessHouse, o_t_guessWorth, o_t_booked, o_t_book, o_t_images, o_t_isKept])), (a_t_had, .inl (cy 0, 2, .inl (upd f_t_had (0 : Int32).toNatClampNeg ((f_t_had (0 : Int32).toNatClampNeg) + (f_t_worthOf ((2 * i_t_letter) : Int32).toNatClampNeg))))), (a_t_worthOf, .inl (cy 0, 8192, .inl f_t_worthOf))] H := hP
  have hD : va_D A [(a_t, .inr (9, [o_t_places, o_t_words, o_t_kind, o_t_worths, o_t_frames, o_t_frame, o_t_pairs, o_t_pair, o_t_letters, o_t_standing, o_t_isStanding, .ref a_t_worthOf, o_t_law, o_t_way, .int i_t_letter, o_t_turn, o_t_isSettled, .ref a_t_had, o_t_logged, o_t_logWho, o_t_logFrom, o_t_logTo, o_t_seed, o_t_text, o_t_texted, o_t_faultPlace, o_t_at0, o_t_said, o_t_wordEnd, o_t_number, o_t_numberAt, o_t_readPlaces, o_t_readWords, o_t_readKind, o_t_readWorth, o_t_readFrames, o_t_readFrame, o_t_readPairs, o_t_readPair, o_t_changes, o_t_change, o_t_queue, o_t_steps, o_t_end, o_t_sent, o_t_firstSent, o_t_wasEnd, o_t_wasSent, o_t_guesses, o_t_guessHouse, o_t_guessWorth, o_t_booked, o_t_book, o_t_images, o_t_isKept])), (a_t_had, .inl (cy 0, 2, .inl (upd f_t_had (0 : Int32).toNatClampNeg ((f_t_had (0 : Int32).toNatClampNeg) + (f_t_worthOf ((2 * i_t_letter) : Int32).toNatClampNeg))))), (a_t_worthOf, .inl (cy 0, 8192, .inl f_t_worthOf))] := hD
  refine lv_aload_n hx hb dX9_haveBoth_20 rfl (lv_at hl 0 rfl) ?_
  refine va_get (D := D) (ci := 9) (v := .ref a_t_had) (C := RX9) (T := TX9) (N := 55) hx hb hts uX9_haveBoth_X9 hown hK.1.1 hP 0 rfl rfl 17 (by decide) (hts _ mX9_haveBoth_29) (fun _ h9 => h9) rfl dX9_haveBoth_21 ?_
  refine lv_iconst (v := 1) hx hb dX9_haveBoth_24 (by decide) ?_
  refine lv_dup2_11 hx hb dX9_haveBoth_25 rfl rfl ?_
  obtain ⟨hg_4, hf⟩ := hb_g hf
  refine va_iald hx hb hK.1.1 hP 1 0 rfl rfl (ixb_in hg_4) dX9_haveBoth_26 ?_
  refine lv_aload_n hx hb dX9_haveBoth_27 rfl (lv_at hl 0 rfl) ?_
  refine va_get (D := D) (ci := 9) (v := .ref a_t_worthOf) (C := RX9) (T := TX9) (N := 55) hx hb hts uX9_haveBoth_X9 hown hK.1.1 hP 0 rfl rfl 11 (by decide) (hts _ mX9_haveBoth_26) (fun _ h9 => h9) rfl dX9_haveBoth_28 ?_
  refine lv_iconst (v := 2) hx hb dX9_haveBoth_31 (by decide) ?_
  refine lv_aload_n hx hb dX9_haveBoth_32 rfl (lv_at hl 0 rfl) ?_
  refine va_get (D := D) (ci := 9) (v := .int i_t_letter) (C := RX9) (T := TX9) (N := 55) hx hb hts uX9_haveBoth_X9 hown hK.1.1 hP 0 rfl rfl 14 (by decide) (hts _ mX9_haveBoth_219) (fun _ h9 => h9) rfl dX9_haveBoth_33 ?_
  refine lv_imul hx hb dX9_haveBoth_36 ?_
  refine lv_iconst (v := 1) hx hb dX9_haveBoth_37 (by decide) ?_
  refine lv_iadd hx hb dX9_haveBoth_38 ?_
  obtain ⟨hg_5, hf⟩ := hb_g hf
  refine va_iald hx hb hK.1.1 hP 2 0 rfl rfl (ixb_in hg_5) dX9_haveBoth_39 ?_
  refine lv_iadd hx hb dX9_haveBoth_40 ?_
  obtain ⟨hg_6, hf⟩ := hb_g hf
  refine va_iast hx hb hK.1.1 hP hD hS 1 0 rfl rfl (ixb_in hg_6) dX9_haveBoth_41 (fun H locs hP hD hS => ?_)
  have hP : va_P D vwCl [(a_t, .inr (9, [o_t_places, o_t_words, o_t_kind, o_t_worths, o_t_frames, o_t_frame, o_t_pairs, o_t_pair, o_t_letters, o_t_standing, o_t_isStanding, .ref a_t_worthOf, o_t_law, o_t_way, .int i_t_letter, o_t_turn, o_t_isSettled, .ref a_t_had, o_t_logged, o_t_logWho, o_t_logFrom, o_t_logTo, o_t_seed, o_t_text, o_t_texted, o_t_faultPlace, o_t_at0, o_t_said, o_t_wordEnd, o_t_number, o_t_numberAt, o_t_readPlaces, o_t_readWords, o_t_readKind, o_t_readWorth, o_t_readFrames, o_t_readFrame, o_t_readPairs, o_t_readPair, o_t_changes, o_t_change, o_t_queue, o_t_steps, o_t_end, o_t_sent, o_t_firstSent, o_t_wasEnd, o_t_wasSent, o_t_guesses, o_t_guessHouse, o_t_guessWorth, o_t_booked, o_t_book, o_t_images, o_t_isKept])), (a_t_had, .inl (cy 0, 2, .inl (upd (upd f_t_had (0 : Int32).toNatClampNeg ((f_t_had (0 : Int32).toNatClampNeg) + (f_t_worthOf ((2 * i_t_letter) : Int32).toNatClampNeg))) (1 : Int32).toNatClampNeg (((upd f_t_had (0 : Int32).toNatClampNeg ((f_t_had (0 : Int32).toNatClampNeg) + (f_t_worthOf ((2 * i_t_letter) : Int32).toNatClampNeg))) (1 : Int32).toNatClampNeg) + (f_t_worthOf (((2 * i_t_letter) + 1) : Int32).toNatClampNeg))))), (a_t_worthOf, .inl (cy 0, 8192, .inl f_t_worthOf))] H := hP
  have hD : va_D A [(a_t, .inr (9, [o_t_places, o_t_words, o_t_kind, o_t_worths, o_t_frames, o_t_frame, o_t_pairs, o_t_pair, o_t_letters, o_t_standing, o_t_isStanding, .ref a_t_worthOf, o_t_law, o_t_way, .int i_t_letter, o_t_turn, o_t_isSettled, .ref a_t_had, o_t_logged, o_t_logWho, o_t_logFrom, o_t_logTo, o_t_seed, o_t_text, o_t_texted, o_t_faultPlace, o_t_at0, o_t_said, o_t_wordEnd, o_t_number, o_t_numberAt, o_t_readPlaces, o_t_readWords, o_t_readKind, o_t_readWorth, o_t_readFrames, o_t_readFrame, o_t_readPairs, o_t_readPair, o_t_changes, o_t_change, o_t_queue, o_t_steps, o_t_end, o_t_sent, o_t_firstSent, o_t_wasEnd, o_t_wasSent, o_t_guesses, o_t_guessHouse, o_t_guessWorth, o_t_booked, o_t_book, o_t_images, o_t_isKept])), (a_t_had, .inl (cy 0, 2, .inl (upd (upd f_t_had (0 : Int32).toNatClampNeg ((f_t_had (0 : Int32).toNatClampNeg) + (f_t_worthOf ((2 * i_t_letter) : Int32).toNatClampNeg))) (1 : Int32).toNatClampNeg (((upd f_t_had (0 : Int32).toNatClampNeg ((f_t_had (0 : Int32).toNatClampNeg) + (f_t_worthOf ((2 * i_t_letter) : Int32).toNatClampNeg))) (1 : Int32).toNatClampNeg) + (f_t_worthOf (((2 * i_t_letter) + 1) : Int32).toNatClampNeg))))), (a_t_worthOf, .inl (cy 0, 8192, .inl f_t_worthOf))] := hD
  have hf := Option.some.inj hf
  subst hf
  exact hret _ _ _ _ dX9_haveBoth_42 hP hS
theorem mX9_settle_225 : Cond.fieldLink RX9 225 "OneWordLettersModel" "isSettled" "Z" ∈ wsX9_settle := by decide +kernel
theorem uX9_settle_X9 : ∀ w ∈ wsX90, w ∈ wsX9_settle := fun _ h => List.mem_cons_of_mem _ (List.mem_append_right _ h)
theorem mX9_settle_283 : Cond.constant RX9 283 (-1000000003) ∈ wsX9_settle := by decide +kernel
theorem mX9_settle_102 : Cond.fieldLink RX9 102 "OneWordLettersModel" "letters" "I" ∈ wsX9_settle := by decide +kernel
theorem mX9_settle_26 : Cond.fieldLink RX9 26 "OneWordLettersModel" "worthOf" "[I" ∈ wsX9_settle := by decide +kernel
theorem mX9_settle_219 : Cond.fieldLink RX9 219 "OneWordLettersModel" "letter" "I" ∈ wsX9_settle := by decide +kernel
theorem mX9_settle_222 : Cond.fieldLink RX9 222 "OneWordLettersModel" "turn" "I" ∈ wsX9_settle := by decide +kernel
abbrev rmX9_settle : Room := { frames := 1, cells := 0, slots := 0, locals := 20 }
def f_X9_settle (i_t_letters : Int32) (i_t_letter : Int32) (i_t_turn : Int32) (f_t_worthOf : Nat → Int32) (i_t_isSettled : Int32) (f_t_had : Nat → Int32) : Option (Int32 × Int32 × (Nat → Int32)) :=
  if i_t_isSettled = 0 then
    if i_t_letters = 0 then
      some ((-1000000003), i_t_isSettled, f_t_had)
    else
      (f_X9_haveBoth i_t_letter f_t_worthOf f_t_had).bind fun z_3 =>
      if ixb ((2 * i_t_letter) + i_t_turn) 8192 = true then
      some ((f_t_worthOf (((2 * i_t_letter) + i_t_turn) : Int32).toNatClampNeg), 1, z_3)
      else none
  else
    some ((-1000000003), i_t_isSettled, f_t_had)
set_option maxRecDepth 100000 in
set_option maxHeartbeats 4000000 in
theorem c_X9_settle (l : Launch) (D : va_G) (cy : Nat → ClassId) (a_t : Nat) (a_t_had : Nat) (a_t_worthOf : Nat) (o_t_places : Value) (o_t_words : Value) (o_t_kind : Value) (o_t_worths : Value) (o_t_frames : Value) (o_t_frame : Value) (o_t_pairs : Value) (o_t_pair : Value) (o_t_standing : Value) (o_t_isStanding : Value) (o_t_law : Value) (o_t_way : Value) (o_t_logged : Value) (o_t_logWho : Value) (o_t_logFrom : Value) (o_t_logTo : Value) (o_t_seed : Value) (o_t_text : Value) (o_t_texted : Value) (o_t_faultPlace : Value) (o_t_at0 : Value) (o_t_said : Value) (o_t_wordEnd : Value) (o_t_number : Value) (o_t_numberAt : Value) (o_t_readPlaces : Value) (o_t_readWords : Value) (o_t_readKind : Value) (o_t_readWorth : Value) (o_t_readFrames : Value) (o_t_readFrame : Value) (o_t_readPairs : Value) (o_t_readPair : Value) (o_t_changes : Value) (o_t_change : Value) (o_t_queue : Value) (o_t_steps : Value) (o_t_end : Value) (o_t_sent : Value) (o_t_firstSent : Value) (o_t_wasEnd : Value) (o_t_wasSent : Value) (o_t_guesses : Value) (o_t_guessHouse : Value) (o_t_guessWorth : Value) (o_t_booked : Value) (o_t_book : Value) (o_t_images : Value) (o_t_isKept : Value) (i_t_letters : Int32) (i_t_letter : Int32) (i_t_turn : Int32) (f_t_worthOf : Nat → Int32) (i_t_isSettled : Int32) (f_t_had : Nat → Int32) (rv : Int32) (z_i_t_isSettled : Int32) (z_f_t_had : Nat → Int32) (hf : f_X9_settle i_t_letters i_t_letter i_t_turn f_t_worthOf i_t_isSettled f_t_had = some (rv, z_i_t_isSettled, z_f_t_had)) : MI l D cy yX9_settle wsX9_settle rmX9_settle [.ref a_t] [(a_t, .inr (9, [o_t_places, o_t_words, o_t_kind, o_t_worths, o_t_frames, o_t_frame, o_t_pairs, o_t_pair, .int i_t_letters, o_t_standing, o_t_isStanding, .ref a_t_worthOf, o_t_law, o_t_way, .int i_t_letter, .int i_t_turn, .int i_t_isSettled, .ref a_t_had, o_t_logged, o_t_logWho, o_t_logFrom, o_t_logTo, o_t_seed, o_t_text, o_t_texted, o_t_faultPlace, o_t_at0, o_t_said, o_t_wordEnd, o_t_number, o_t_numberAt, o_t_readPlaces, o_t_readWords, o_t_readKind, o_t_readWorth, o_t_readFrames, o_t_readFrame, o_t_readPairs, o_t_readPair, o_t_changes, o_t_change, o_t_queue, o_t_steps, o_t_end, o_t_sent, o_t_firstSent, o_t_wasEnd, o_t_wasSent, o_t_guesses, o_t_guessHouse, o_t_guessWorth, o_t_booked, o_t_book, o_t_images, o_t_isKept])), (a_t_had, .inl (cy 0, 2, .inl f_t_had)), (a_t_worthOf, .inl (cy 0, 8192, .inl f_t_worthOf))] [(a_t, .inr (9, [o_t_places, o_t_words, o_t_kind, o_t_worths, o_t_frames, o_t_frame, o_t_pairs, o_t_pair, .int i_t_letters, o_t_standing, o_t_isStanding, .ref a_t_worthOf, o_t_law, o_t_way, .int i_t_letter, .int i_t_turn, .int z_i_t_isSettled, .ref a_t_had, o_t_logged, o_t_logWho, o_t_logFrom, o_t_logTo, o_t_seed, o_t_text, o_t_texted, o_t_faultPlace, o_t_at0, o_t_said, o_t_wordEnd, o_t_number, o_t_numberAt, o_t_readPlaces, o_t_readWords, o_t_readKind, o_t_readWorth, o_t_readFrames, o_t_readFrame, o_t_readPairs, o_t_readPair, o_t_changes, o_t_change, o_t_queue, o_t_steps, o_t_end, o_t_sent, o_t_firstSent, o_t_wasEnd, o_t_wasSent, o_t_guesses, o_t_guessHouse, o_t_guessWorth, o_t_booked, o_t_book, o_t_images, o_t_isKept])), (a_t_had, .inl (cy 0, 2, .inl z_f_t_had)), (a_t_worthOf, .inl (cy 0, 8192, .inl f_t_worthOf))] rv := by
  refine st_I (by decide) rfl (Nat.le_of_ble_eq_true rfl) (fun p e s m below meth c A Q ls C0 hA hK hP hD hS hl hret => ?_)
  obtain ⟨hx, hb, hr, hml, hown, hts, hlocks⟩ := id C0
  have hl : lv_has ls 1 [(0, .ref a_t)] := hl
  unfold f_X9_settle at hf
  refine lv_aload_n hx hb dX9_settle_0 rfl (lv_at hl 0 rfl) ?_
  refine va_get (D := D) (ci := 9) (v := .int i_t_isSettled) (C := RX9) (T := TX9) (N := 55) hx hb hts uX9_settle_X9 hown hK.1.1 hP 0 rfl rfl 16 (by decide) (hts _ mX9_settle_225) (fun _ h9 => h9) rfl dX9_settle_1 ?_
  refine lv_if_ne (tgt := 14) hx hb dX9_settle_4 (by decide) (fun c_1 => ?_) (fun c_1 => ?_)
  · have hf := hb_f hf c_1
    refine lv_ldcw (v := (-1000000003)) hx hb hown (hts _ mX9_settle_283) dX9_settle_14 ?_
    obtain ⟨e_0, e_1, e_2⟩ := tu3 hf
    subst e_0; subst e_1; subst e_2
    exact hret _ _ _ _ dX9_settle_17 rfl hP hS
  · have hf := hb_t hf c_1
    refine lv_aload_n hx hb dX9_settle_7 rfl (lv_at hl 0 rfl) ?_
    refine va_get (D := D) (ci := 9) (v := .int i_t_letters) (C := RX9) (T := TX9) (N := 55) hx hb hts uX9_settle_X9 hown hK.1.1 hP 0 rfl rfl 8 (by decide) (hts _ mX9_settle_102) (fun _ h9 => h9) rfl dX9_settle_8 ?_
    refine lv_if_ne (tgt := 18) hx hb dX9_settle_11 (by decide) (fun c_2 => ?_) (fun c_2 => ?_)
    · have hf := hb_f hf c_2
      refine lv_aload_n hx hb dX9_settle_18 rfl (lv_at hl 0 rfl) ?_
      obtain ⟨z_3, hc_4, hf⟩ := hb_b hf
      refine cl_Vv (rest := []) [0, 1, 2] 0 C0 hK hP hD hS hA (c_X9_haveBoth l D cy a_t a_t_had a_t_worthOf o_t_places o_t_words o_t_kind o_t_worths o_t_frames o_t_frame o_t_pairs o_t_pair (.int i_t_letters) o_t_standing o_t_isStanding o_t_law o_t_way (.int i_t_turn) (.int i_t_isSettled) o_t_logged o_t_logWho o_t_logFrom o_t_logTo o_t_seed o_t_text o_t_texted o_t_faultPlace o_t_at0 o_t_said o_t_wordEnd o_t_number o_t_numberAt o_t_readPlaces o_t_readWords o_t_readKind o_t_readWorth o_t_readFrames o_t_readFrame o_t_readPairs o_t_readPair o_t_changes o_t_change o_t_queue o_t_steps o_t_end o_t_sent o_t_firstSent o_t_wasEnd o_t_wasSent o_t_guesses o_t_guessHouse o_t_guessWorth o_t_booked o_t_book o_t_images o_t_isKept i_t_letter f_t_worthOf f_t_had z_3 hc_4) (cwV 0 hts gX9_settle_X9_haveBoth rfl rfl rfl (by decide +kernel) ⟨Nat.le_of_ble_eq_true rfl, Nat.le_of_ble_eq_true rfl⟩) rfl rfl rfl rfl rfl rfl rfl hl.1 rfl (Nat.le_of_ble_eq_true rfl) dX9_settle_19 ⟨Nat.zero_le _, Nat.zero_le _⟩ (fun H locs hP hD hS => ?_)
      have hP : va_P D vwCl [(a_t, .inr (9, [o_t_places, o_t_words, o_t_kind, o_t_worths, o_t_frames, o_t_frame, o_t_pairs, o_t_pair, .int i_t_letters, o_t_standing, o_t_isStanding, .ref a_t_worthOf, o_t_law, o_t_way, .int i_t_letter, .int i_t_turn, .int i_t_isSettled, .ref a_t_had, o_t_logged, o_t_logWho, o_t_logFrom, o_t_logTo, o_t_seed, o_t_text, o_t_texted, o_t_faultPlace, o_t_at0, o_t_said, o_t_wordEnd, o_t_number, o_t_numberAt, o_t_readPlaces, o_t_readWords, o_t_readKind, o_t_readWorth, o_t_readFrames, o_t_readFrame, o_t_readPairs, o_t_readPair, o_t_changes, o_t_change, o_t_queue, o_t_steps, o_t_end, o_t_sent, o_t_firstSent, o_t_wasEnd, o_t_wasSent, o_t_guesses, o_t_guessHouse, o_t_guessWorth, o_t_booked, o_t_book, o_t_images, o_t_isKept])), (a_t_had, .inl (cy 0, 2, .inl z_3)), (a_t_worthOf, .inl (cy 0, 8192, .inl f_t_worthOf))] H := hP
      have hD : va_D A [(a_t, .inr (9, [o_t_places, o_t_words, o_t_kind, o_t_worths, o_t_frames, o_t_frame, o_t_pairs, o_t_pair, .int i_t_letters, o_t_standing, o_t_isStanding, .ref a_t_worthOf, o_t_law, o_t_way, .int i_t_letter, .int i_t_turn, .int i_t_isSettled, .ref a_t_had, o_t_logged, o_t_logWho, o_t_logFrom, o_t_logTo, o_t_seed, o_t_text, o_t_texted, o_t_faultPlace, o_t_at0, o_t_said, o_t_wordEnd, o_t_number, o_t_numberAt, o_t_readPlaces, o_t_readWords, o_t_readKind, o_t_readWorth, o_t_readFrames, o_t_readFrame, o_t_readPairs, o_t_readPair, o_t_changes, o_t_change, o_t_queue, o_t_steps, o_t_end, o_t_sent, o_t_firstSent, o_t_wasEnd, o_t_wasSent, o_t_guesses, o_t_guessHouse, o_t_guessWorth, o_t_booked, o_t_book, o_t_images, o_t_isKept])), (a_t_had, .inl (cy 0, 2, .inl z_3)), (a_t_worthOf, .inl (cy 0, 8192, .inl f_t_worthOf))] := hD
      refine lv_aload_n hx hb dX9_settle_22 rfl (lv_at hl 0 rfl) ?_
      refine lv_iconst (v := 1) hx hb dX9_settle_23 (by decide) ?_
      refine va_put (D := D) (ci := 9) (v := .int 1) (ty := .boolean) (C := RX9) (T := TX9) (N := 55) hx hb hts uX9_settle_X9 tyX9 tyX9_ok nmX9 hown hK.1.1 hP hD hS 0 rfl rfl 16 (by decide) (hts _ mX9_settle_225) (fun _ h9 => h9) rfl (by decide +kernel) rfl rfl (Nat.le_of_ble_eq_true rfl) dX9_settle_24 (fun H locs hP hD hS => ?_)
      have hP : va_P D vwCl [(a_t, .inr (9, [o_t_places, o_t_words, o_t_kind, o_t_worths, o_t_frames, o_t_frame, o_t_pairs, o_t_pair, .int i_t_letters, o_t_standing, o_t_isStanding, .ref a_t_worthOf, o_t_law, o_t_way, .int i_t_letter, .int i_t_turn, .int 1, .ref a_t_had, o_t_logged, o_t_logWho, o_t_logFrom, o_t_logTo, o_t_seed, o_t_text, o_t_texted, o_t_faultPlace, o_t_at0, o_t_said, o_t_wordEnd, o_t_number, o_t_numberAt, o_t_readPlaces, o_t_readWords, o_t_readKind, o_t_readWorth, o_t_readFrames, o_t_readFrame, o_t_readPairs, o_t_readPair, o_t_changes, o_t_change, o_t_queue, o_t_steps, o_t_end, o_t_sent, o_t_firstSent, o_t_wasEnd, o_t_wasSent, o_t_guesses, o_t_guessHouse, o_t_guessWorth, o_t_booked, o_t_book, o_t_images, o_t_isKept])), (a_t_had, .inl (cy 0, 2, .inl z_3)), (a_t_worthOf, .inl (cy 0, 8192, .inl f_t_worthOf))] H := hP
      have hD : va_D A [(a_t, .inr (9, [o_t_places, o_t_words, o_t_kind, o_t_worths, o_t_frames, o_t_frame, o_t_pairs, o_t_pair, .int i_t_letters, o_t_standing, o_t_isStanding, .ref a_t_worthOf, o_t_law, o_t_way, .int i_t_letter, .int i_t_turn, .int 1, .ref a_t_had, o_t_logged, o_t_logWho, o_t_logFrom, o_t_logTo, o_t_seed, o_t_text, o_t_texted, o_t_faultPlace, o_t_at0, o_t_said, o_t_wordEnd, o_t_number, o_t_numberAt, o_t_readPlaces, o_t_readWords, o_t_readKind, o_t_readWorth, o_t_readFrames, o_t_readFrame, o_t_readPairs, o_t_readPair, o_t_changes, o_t_change, o_t_queue, o_t_steps, o_t_end, o_t_sent, o_t_firstSent, o_t_wasEnd, o_t_wasSent, o_t_guesses, o_t_guessHouse, o_t_guessWorth, o_t_booked, o_t_book, o_t_images, o_t_isKept])), (a_t_had, .inl (cy 0, 2, .inl z_3)), (a_t_worthOf, .inl (cy 0, 8192, .inl f_t_worthOf))] := hD
      refine lv_aload_n hx hb dX9_settle_27 rfl (lv_at hl 0 rfl) ?_
      refine va_get (D := D) (ci := 9) (v := .ref a_t_worthOf) (C := RX9) (T := TX9) (N := 55) hx hb hts uX9_settle_X9 hown hK.1.1 hP 0 rfl rfl 11 (by decide) (hts _ mX9_settle_26) (fun _ h9 => h9) rfl dX9_settle_28 ?_
      refine lv_iconst (v := 2) hx hb dX9_settle_31 (by decide) ?_
      refine lv_aload_n hx hb dX9_settle_32 rfl (lv_at hl 0 rfl) ?_
      refine va_get (D := D) (ci := 9) (v := .int i_t_letter) (C := RX9) (T := TX9) (N := 55) hx hb hts uX9_settle_X9 hown hK.1.1 hP 0 rfl rfl 14 (by decide) (hts _ mX9_settle_219) (fun _ h9 => h9) rfl dX9_settle_33 ?_
      refine lv_imul hx hb dX9_settle_36 ?_
      refine lv_aload_n hx hb dX9_settle_37 rfl (lv_at hl 0 rfl) ?_
      refine va_get (D := D) (ci := 9) (v := .int i_t_turn) (C := RX9) (T := TX9) (N := 55) hx hb hts uX9_settle_X9 hown hK.1.1 hP 0 rfl rfl 15 (by decide) (hts _ mX9_settle_222) (fun _ h9 => h9) rfl dX9_settle_38 ?_
      refine lv_iadd hx hb dX9_settle_41 ?_
      obtain ⟨hg_5, hf⟩ := hb_g hf
      refine va_iald hx hb hK.1.1 hP 2 0 rfl rfl (ixb_in hg_5) dX9_settle_42 ?_
      obtain ⟨e_0, e_1, e_2⟩ := tu3 hf
      subst e_0; subst e_1; subst e_2
      exact hret _ _ _ _ dX9_settle_43 rfl hP hS
    · have hf := hb_t hf c_2
      refine lv_ldcw (v := (-1000000003)) hx hb hown (hts _ mX9_settle_283) dX9_settle_14 ?_
      obtain ⟨e_0, e_1, e_2⟩ := tu3 hf
      subst e_0; subst e_1; subst e_2
      exact hret _ _ _ _ dX9_settle_17 rfl hP hS
theorem mX9_had_261 : Cond.constant RX9 261 (-1000000001) ∈ wsX9_had := by decide +kernel
theorem mX9_had_29 : Cond.fieldLink RX9 29 "OneWordLettersModel" "had" "[I" ∈ wsX9_had := by decide +kernel
theorem uX9_had_X9 : ∀ w ∈ wsX90, w ∈ wsX9_had := fun _ h => List.mem_cons_of_mem _ (List.mem_append_right _ h)
abbrev rmX9_had : Room := { frames := 2, cells := 0, slots := 0, locals := 45 }
def f_X9_had (f_t_had : Nat → Int32) (p1 : Int32) : Option (Int32) :=
  (f_X9_isHouse p1).bind fun r_1 =>
  if r_1 = 0 then
    some (-1000000001)
  else
    if ixb p1 2 = true then
    some (f_t_had (p1 : Int32).toNatClampNeg)
    else none
set_option maxRecDepth 100000 in
set_option maxHeartbeats 4000000 in
theorem c_X9_had (l : Launch) (D : va_G) (cy : Nat → ClassId) (a_t : Nat) (a_t_had : Nat) (o_t_places : Value) (o_t_words : Value) (o_t_kind : Value) (o_t_worths : Value) (o_t_frames : Value) (o_t_frame : Value) (o_t_pairs : Value) (o_t_pair : Value) (o_t_letters : Value) (o_t_standing : Value) (o_t_isStanding : Value) (o_t_worthOf : Value) (o_t_law : Value) (o_t_way : Value) (o_t_letter : Value) (o_t_turn : Value) (o_t_isSettled : Value) (o_t_logged : Value) (o_t_logWho : Value) (o_t_logFrom : Value) (o_t_logTo : Value) (o_t_seed : Value) (o_t_text : Value) (o_t_texted : Value) (o_t_faultPlace : Value) (o_t_at0 : Value) (o_t_said : Value) (o_t_wordEnd : Value) (o_t_number : Value) (o_t_numberAt : Value) (o_t_readPlaces : Value) (o_t_readWords : Value) (o_t_readKind : Value) (o_t_readWorth : Value) (o_t_readFrames : Value) (o_t_readFrame : Value) (o_t_readPairs : Value) (o_t_readPair : Value) (o_t_changes : Value) (o_t_change : Value) (o_t_queue : Value) (o_t_steps : Value) (o_t_end : Value) (o_t_sent : Value) (o_t_firstSent : Value) (o_t_wasEnd : Value) (o_t_wasSent : Value) (o_t_guesses : Value) (o_t_guessHouse : Value) (o_t_guessWorth : Value) (o_t_booked : Value) (o_t_book : Value) (o_t_images : Value) (o_t_isKept : Value) (f_t_had : Nat → Int32) (p1 : Int32) (rv : Int32) (hf : f_X9_had f_t_had p1 = some rv) : MI l D cy yX9_had wsX9_had rmX9_had [.ref a_t, .int p1] [(a_t, .inr (9, [o_t_places, o_t_words, o_t_kind, o_t_worths, o_t_frames, o_t_frame, o_t_pairs, o_t_pair, o_t_letters, o_t_standing, o_t_isStanding, o_t_worthOf, o_t_law, o_t_way, o_t_letter, o_t_turn, o_t_isSettled, .ref a_t_had, o_t_logged, o_t_logWho, o_t_logFrom, o_t_logTo, o_t_seed, o_t_text, o_t_texted, o_t_faultPlace, o_t_at0, o_t_said, o_t_wordEnd, o_t_number, o_t_numberAt, o_t_readPlaces, o_t_readWords, o_t_readKind, o_t_readWorth, o_t_readFrames, o_t_readFrame, o_t_readPairs, o_t_readPair, o_t_changes, o_t_change, o_t_queue, o_t_steps, o_t_end, o_t_sent, o_t_firstSent, o_t_wasEnd, o_t_wasSent, o_t_guesses, o_t_guessHouse, o_t_guessWorth, o_t_booked, o_t_book, o_t_images, o_t_isKept])), (a_t_had, .inl (cy 0, 2, .inl f_t_had))] [(a_t, .inr (9, [o_t_places, o_t_words, o_t_kind, o_t_worths, o_t_frames, o_t_frame, o_t_pairs, o_t_pair, o_t_letters, o_t_standing, o_t_isStanding, o_t_worthOf, o_t_law, o_t_way, o_t_letter, o_t_turn, o_t_isSettled, .ref a_t_had, o_t_logged, o_t_logWho, o_t_logFrom, o_t_logTo, o_t_seed, o_t_text, o_t_texted, o_t_faultPlace, o_t_at0, o_t_said, o_t_wordEnd, o_t_number, o_t_numberAt, o_t_readPlaces, o_t_readWords, o_t_readKind, o_t_readWorth, o_t_readFrames, o_t_readFrame, o_t_readPairs, o_t_readPair, o_t_changes, o_t_change, o_t_queue, o_t_steps, o_t_end, o_t_sent, o_t_firstSent, o_t_wasEnd, o_t_wasSent, o_t_guesses, o_t_guessHouse, o_t_guessWorth, o_t_booked, o_t_book, o_t_images, o_t_isKept])), (a_t_had, .inl (cy 0, 2, .inl f_t_had))] rv := by
  refine st_I (by decide) rfl (Nat.le_of_ble_eq_true rfl) (fun p e s m below meth c A Q ls C0 hA hK hP hD hS hl hret => ?_)
  obtain ⟨hx, hb, hr, hml, hown, hts, hlocks⟩ := id C0
  have hl : lv_has ls 2 [(0, .ref a_t), (1, .int p1)] := hl
  unfold f_X9_had at hf
  refine lv_iload_n hx hb dX9_had_0 rfl (lv_at hl 1 rfl) ?_
  obtain ⟨r_1, hc_2, hf⟩ := hb_b hf
  refine cl_Si (rest := []) [] C0 hK hP hD hS hA (c_X9_isHouse l D cy p1 r_1 hc_2) (va_cwS 1 hts gX9_had_X9_isHouse rfl rfl rfl (by decide +kernel) ⟨Nat.le_of_ble_eq_true rfl, Nat.le_of_ble_eq_true rfl⟩) rfl rfl rfl rfl hl.1 rfl (Nat.le_of_ble_eq_true rfl) dX9_had_1 ⟨Nat.zero_le _, Nat.zero_le _⟩ (fun H locs hP hD hS => ?_)
  have hP : va_P D vwCl [(a_t, .inr (9, [o_t_places, o_t_words, o_t_kind, o_t_worths, o_t_frames, o_t_frame, o_t_pairs, o_t_pair, o_t_letters, o_t_standing, o_t_isStanding, o_t_worthOf, o_t_law, o_t_way, o_t_letter, o_t_turn, o_t_isSettled, .ref a_t_had, o_t_logged, o_t_logWho, o_t_logFrom, o_t_logTo, o_t_seed, o_t_text, o_t_texted, o_t_faultPlace, o_t_at0, o_t_said, o_t_wordEnd, o_t_number, o_t_numberAt, o_t_readPlaces, o_t_readWords, o_t_readKind, o_t_readWorth, o_t_readFrames, o_t_readFrame, o_t_readPairs, o_t_readPair, o_t_changes, o_t_change, o_t_queue, o_t_steps, o_t_end, o_t_sent, o_t_firstSent, o_t_wasEnd, o_t_wasSent, o_t_guesses, o_t_guessHouse, o_t_guessWorth, o_t_booked, o_t_book, o_t_images, o_t_isKept])), (a_t_had, .inl (cy 0, 2, .inl f_t_had))] H := hP
  have hD : va_D A [(a_t, .inr (9, [o_t_places, o_t_words, o_t_kind, o_t_worths, o_t_frames, o_t_frame, o_t_pairs, o_t_pair, o_t_letters, o_t_standing, o_t_isStanding, o_t_worthOf, o_t_law, o_t_way, o_t_letter, o_t_turn, o_t_isSettled, .ref a_t_had, o_t_logged, o_t_logWho, o_t_logFrom, o_t_logTo, o_t_seed, o_t_text, o_t_texted, o_t_faultPlace, o_t_at0, o_t_said, o_t_wordEnd, o_t_number, o_t_numberAt, o_t_readPlaces, o_t_readWords, o_t_readKind, o_t_readWorth, o_t_readFrames, o_t_readFrame, o_t_readPairs, o_t_readPair, o_t_changes, o_t_change, o_t_queue, o_t_steps, o_t_end, o_t_sent, o_t_firstSent, o_t_wasEnd, o_t_wasSent, o_t_guesses, o_t_guessHouse, o_t_guessWorth, o_t_booked, o_t_book, o_t_images, o_t_isKept])), (a_t_had, .inl (cy 0, 2, .inl f_t_had))] := hD
  refine lv_if_eq (tgt := 16) hx hb dX9_had_4 (by decide) (fun c_3 => ?_) (fun c_3 => ?_)
  · have hf := hb_t hf c_3
    refine lv_ldcw (v := (-1000000001)) hx hb hown (hts _ mX9_had_261) dX9_had_16 ?_
    have hf := Option.some.inj hf
    subst hf
    exact hret _ _ _ _ dX9_had_19 rfl hP hS
  · have hf := hb_f hf c_3
    refine lv_aload_n hx hb dX9_had_7 rfl (lv_at hl 0 rfl) ?_
    refine va_get (D := D) (ci := 9) (v := .ref a_t_had) (C := RX9) (T := TX9) (N := 55) hx hb hts uX9_had_X9 hown hK.1.1 hP 0 rfl rfl 17 (by decide) (hts _ mX9_had_29) (fun _ h9 => h9) rfl dX9_had_8 ?_
    refine lv_iload_n hx hb dX9_had_11 rfl (lv_at hl 1 rfl) ?_
    obtain ⟨hg_4, hf⟩ := hb_g hf
    refine va_iald hx hb hK.1.1 hP 1 0 rfl rfl (ixb_in hg_4) dX9_had_12 ?_
    refine lv_goto (tgt := 19) hx hb dX9_had_13 (by decide) ?_
    have hf := Option.some.inj hf
    subst hf
    exact hret _ _ _ _ dX9_had_19 rfl hP hS
theorem mX9_log_268 : Cond.constantLong RX9 268 (2) ∈ wsX9_log := by decide +kernel
theorem mX9_log_229 : Cond.fieldLink RX9 229 "OneWordLettersModel" "logged" "I" ∈ wsX9_log := by decide +kernel
theorem uX9_log_X9 : ∀ w ∈ wsX90, w ∈ wsX9_log := fun _ h => List.mem_cons_of_mem _ (List.mem_append_right _ h)
theorem mX9_log_38 : Cond.fieldLink RX9 38 "OneWordLettersModel" "logTo" "[I" ∈ wsX9_log := by decide +kernel
theorem mX9_log_35 : Cond.fieldLink RX9 35 "OneWordLettersModel" "logFrom" "[I" ∈ wsX9_log := by decide +kernel
theorem mX9_log_32 : Cond.fieldLink RX9 32 "OneWordLettersModel" "logWho" "[I" ∈ wsX9_log := by decide +kernel
theorem mX9_log_118 : Cond.constant RX9 118 (-1000000002) ∈ wsX9_log := by decide +kernel
abbrev rmX9_log : Room := { frames := 1, cells := 0, slots := 0, locals := 25 }
def f_X9_log (i_t_logged : Int32) (f_t_logTo : Nat → Int32) (f_t_logFrom : Nat → Int32) (f_t_logWho : Nat → Int32) (p1 : Int32) (p2 : Int32) : Option (Int32) :=
  (f_X9_in ((p2 : Int32).toInt64) 0 2).bind fun r_1 =>
  if r_1 = 0 then
    some (-1000000002)
  else
    (f_X9_in ((p1 : Int32).toInt64) 0 (((i_t_logged - 1) : Int32).toInt64)).bind fun r_4 =>
    if r_4 = 0 then
      some (-1)
    else
      if p2 = 0 then
        if ixb p1 60 = true then
        some (f_t_logWho (p1 : Int32).toNatClampNeg)
        else none
      else
        if p2 = 1 then
          if ixb p1 60 = true then
          some (f_t_logFrom (p1 : Int32).toNatClampNeg)
          else none
        else
          if ixb p1 60 = true then
          some (f_t_logTo (p1 : Int32).toNatClampNeg)
          else none
set_option maxRecDepth 100000 in
set_option maxHeartbeats 4000000 in
theorem c_X9_log (l : Launch) (D : va_G) (cy : Nat → ClassId) (a_t : Nat) (a_t_logTo : Nat) (a_t_logFrom : Nat) (a_t_logWho : Nat) (o_t_places : Value) (o_t_words : Value) (o_t_kind : Value) (o_t_worths : Value) (o_t_frames : Value) (o_t_frame : Value) (o_t_pairs : Value) (o_t_pair : Value) (o_t_letters : Value) (o_t_standing : Value) (o_t_isStanding : Value) (o_t_worthOf : Value) (o_t_law : Value) (o_t_way : Value) (o_t_letter : Value) (o_t_turn : Value) (o_t_isSettled : Value) (o_t_had : Value) (o_t_seed : Value) (o_t_text : Value) (o_t_texted : Value) (o_t_faultPlace : Value) (o_t_at0 : Value) (o_t_said : Value) (o_t_wordEnd : Value) (o_t_number : Value) (o_t_numberAt : Value) (o_t_readPlaces : Value) (o_t_readWords : Value) (o_t_readKind : Value) (o_t_readWorth : Value) (o_t_readFrames : Value) (o_t_readFrame : Value) (o_t_readPairs : Value) (o_t_readPair : Value) (o_t_changes : Value) (o_t_change : Value) (o_t_queue : Value) (o_t_steps : Value) (o_t_end : Value) (o_t_sent : Value) (o_t_firstSent : Value) (o_t_wasEnd : Value) (o_t_wasSent : Value) (o_t_guesses : Value) (o_t_guessHouse : Value) (o_t_guessWorth : Value) (o_t_booked : Value) (o_t_book : Value) (o_t_images : Value) (o_t_isKept : Value) (i_t_logged : Int32) (f_t_logTo : Nat → Int32) (f_t_logFrom : Nat → Int32) (f_t_logWho : Nat → Int32) (p1 : Int32) (p2 : Int32) (rv : Int32) (hf : f_X9_log i_t_logged f_t_logTo f_t_logFrom f_t_logWho p1 p2 = some rv) : MI l D cy yX9_log wsX9_log rmX9_log [.ref a_t, .int p1, .int p2] [(a_t, .inr (9, [o_t_places, o_t_words, o_t_kind, o_t_worths, o_t_frames, o_t_frame, o_t_pairs, o_t_pair, o_t_letters, o_t_standing, o_t_isStanding, o_t_worthOf, o_t_law, o_t_way, o_t_letter, o_t_turn, o_t_isSettled, o_t_had, .int i_t_logged, .ref a_t_logWho, .ref a_t_logFrom, .ref a_t_logTo, o_t_seed, o_t_text, o_t_texted, o_t_faultPlace, o_t_at0, o_t_said, o_t_wordEnd, o_t_number, o_t_numberAt, o_t_readPlaces, o_t_readWords, o_t_readKind, o_t_readWorth, o_t_readFrames, o_t_readFrame, o_t_readPairs, o_t_readPair, o_t_changes, o_t_change, o_t_queue, o_t_steps, o_t_end, o_t_sent, o_t_firstSent, o_t_wasEnd, o_t_wasSent, o_t_guesses, o_t_guessHouse, o_t_guessWorth, o_t_booked, o_t_book, o_t_images, o_t_isKept])), (a_t_logTo, .inl (cy 0, 60, .inl f_t_logTo)), (a_t_logFrom, .inl (cy 0, 60, .inl f_t_logFrom)), (a_t_logWho, .inl (cy 0, 60, .inl f_t_logWho))] [(a_t, .inr (9, [o_t_places, o_t_words, o_t_kind, o_t_worths, o_t_frames, o_t_frame, o_t_pairs, o_t_pair, o_t_letters, o_t_standing, o_t_isStanding, o_t_worthOf, o_t_law, o_t_way, o_t_letter, o_t_turn, o_t_isSettled, o_t_had, .int i_t_logged, .ref a_t_logWho, .ref a_t_logFrom, .ref a_t_logTo, o_t_seed, o_t_text, o_t_texted, o_t_faultPlace, o_t_at0, o_t_said, o_t_wordEnd, o_t_number, o_t_numberAt, o_t_readPlaces, o_t_readWords, o_t_readKind, o_t_readWorth, o_t_readFrames, o_t_readFrame, o_t_readPairs, o_t_readPair, o_t_changes, o_t_change, o_t_queue, o_t_steps, o_t_end, o_t_sent, o_t_firstSent, o_t_wasEnd, o_t_wasSent, o_t_guesses, o_t_guessHouse, o_t_guessWorth, o_t_booked, o_t_book, o_t_images, o_t_isKept])), (a_t_logTo, .inl (cy 0, 60, .inl f_t_logTo)), (a_t_logFrom, .inl (cy 0, 60, .inl f_t_logFrom)), (a_t_logWho, .inl (cy 0, 60, .inl f_t_logWho))] rv := by
  refine st_I (by decide) rfl (Nat.le_of_ble_eq_true rfl) (fun p e s m below meth c A Q ls C0 hA hK hP hD hS hl hret => ?_)
  obtain ⟨hx, hb, hr, hml, hown, hts, hlocks⟩ := id C0
  have hl : lv_has ls 3 [(0, .ref a_t), (1, .int p1), (2, .int p2)] := hl
  unfold f_X9_log at hf
  refine lv_iload_n hx hb dX9_log_0 rfl (lv_at hl 2 rfl) ?_
  refine lv_i2l (v := ((p2 : Int32).toInt64)) hx hb dX9_log_1 rfl ?_
  refine lv_lconst (v := 0) hx hb dX9_log_2 (by decide) ?_
  refine lv_ldc2 (v := 2) hx hb hown (hts _ mX9_log_268) dX9_log_3 ?_
  obtain ⟨r_1, hc_2, hf⟩ := hb_b hf
  refine cl_Si (rest := []) [] C0 hK hP hD hS hA (c_X9_in l D cy ((p2 : Int32).toInt64) 0 2 r_1 hc_2) (va_cwS 3 hts gX9_log_X9_in rfl rfl rfl (by decide +kernel) ⟨Nat.le_of_ble_eq_true rfl, Nat.le_of_ble_eq_true rfl⟩) rfl rfl rfl rfl hl.1 rfl (Nat.le_of_ble_eq_true rfl) dX9_log_6 ⟨Nat.zero_le _, Nat.zero_le _⟩ (fun H locs hP hD hS => ?_)
  have hP : va_P D vwCl [(a_t, .inr (9, [o_t_places, o_t_words, o_t_kind, o_t_worths, o_t_frames, o_t_frame, o_t_pairs, o_t_pair, o_t_letters, o_t_standing, o_t_isStanding, o_t_worthOf, o_t_law, o_t_way, o_t_letter, o_t_turn, o_t_isSettled, o_t_had, .int i_t_logged, .ref a_t_logWho, .ref a_t_logFrom, .ref a_t_logTo, o_t_seed, o_t_text, o_t_texted, o_t_faultPlace, o_t_at0, o_t_said, o_t_wordEnd, o_t_number, o_t_numberAt, o_t_readPlaces, o_t_readWords, o_t_readKind, o_t_readWorth, o_t_readFrames, o_t_readFrame, o_t_readPairs, o_t_readPair, o_t_changes, o_t_change, o_t_queue, o_t_steps, o_t_end, o_t_sent, o_t_firstSent, o_t_wasEnd, o_t_wasSent, o_t_guesses, o_t_guessHouse, o_t_guessWorth, o_t_booked, o_t_book, o_t_images, o_t_isKept])), (a_t_logTo, .inl (cy 0, 60, .inl f_t_logTo)), (a_t_logFrom, .inl (cy 0, 60, .inl f_t_logFrom)), (a_t_logWho, .inl (cy 0, 60, .inl f_t_logWho))] H := hP
  have hD : va_D A [(a_t, .inr (9, [o_t_places, o_t_words, o_t_kind, o_t_worths, o_t_frames, o_t_frame, o_t_pairs, o_t_pair, o_t_letters, o_t_standing, o_t_isStanding, o_t_worthOf, o_t_law, o_t_way, o_t_letter, o_t_turn, o_t_isSettled, o_t_had, .int i_t_logged, .ref a_t_logWho, .ref a_t_logFrom, .ref a_t_logTo, o_t_seed, o_t_text, o_t_texted, o_t_faultPlace, o_t_at0, o_t_said, o_t_wordEnd, o_t_number, o_t_numberAt, o_t_readPlaces, o_t_readWords, o_t_readKind, o_t_readWorth, o_t_readFrames, o_t_readFrame, o_t_readPairs, o_t_readPair, o_t_changes, o_t_change, o_t_queue, o_t_steps, o_t_end, o_t_sent, o_t_firstSent, o_t_wasEnd, o_t_wasSent, o_t_guesses, o_t_guessHouse, o_t_guessWorth, o_t_booked, o_t_book, o_t_images, o_t_isKept])), (a_t_logTo, .inl (cy 0, 60, .inl f_t_logTo)), (a_t_logFrom, .inl (cy 0, 60, .inl f_t_logFrom)), (a_t_logWho, .inl (cy 0, 60, .inl f_t_logWho))] := hD
  refine lv_if_ne (tgt := 15) hx hb dX9_log_9 (by decide) (fun c_3 => ?_) (fun c_3 => ?_)
  · have hf := hb_f hf c_3
    refine lv_iload_n hx hb dX9_log_15 rfl (lv_at hl 1 rfl) ?_
    refine lv_i2l (v := ((p1 : Int32).toInt64)) hx hb dX9_log_16 rfl ?_
    refine lv_lconst (v := 0) hx hb dX9_log_17 (by decide) ?_
    refine lv_aload_n hx hb dX9_log_18 rfl (lv_at hl 0 rfl) ?_
    refine va_get (D := D) (ci := 9) (v := .int i_t_logged) (C := RX9) (T := TX9) (N := 55) hx hb hts uX9_log_X9 hown hK.1.1 hP 0 rfl rfl 18 (by decide) (hts _ mX9_log_229) (fun _ h9 => h9) rfl dX9_log_19 ?_
    refine lv_iconst (v := 1) hx hb dX9_log_22 (by decide) ?_
    refine lv_isub hx hb dX9_log_23 ?_
    refine lv_i2l (v := (((i_t_logged - 1) : Int32).toInt64)) hx hb dX9_log_24 rfl ?_
    obtain ⟨r_4, hc_5, hf⟩ := hb_b hf
    refine cl_Si (rest := []) [] C0 hK hP hD hS hA (c_X9_in l D cy ((p1 : Int32).toInt64) 0 (((i_t_logged - 1) : Int32).toInt64) r_4 hc_5) (va_cwS 3 hts gX9_log_X9_in rfl rfl rfl (by decide +kernel) ⟨Nat.le_of_ble_eq_true rfl, Nat.le_of_ble_eq_true rfl⟩) rfl rfl rfl rfl hl.1 rfl (Nat.le_of_ble_eq_true rfl) dX9_log_25 ⟨Nat.zero_le _, Nat.zero_le _⟩ (fun H locs hP hD hS => ?_)
    have hP : va_P D vwCl [(a_t, .inr (9, [o_t_places, o_t_words, o_t_kind, o_t_worths, o_t_frames, o_t_frame, o_t_pairs, o_t_pair, o_t_letters, o_t_standing, o_t_isStanding, o_t_worthOf, o_t_law, o_t_way, o_t_letter, o_t_turn, o_t_isSettled, o_t_had, .int i_t_logged, .ref a_t_logWho, .ref a_t_logFrom, .ref a_t_logTo, o_t_seed, o_t_text, o_t_texted, o_t_faultPlace, o_t_at0, o_t_said, o_t_wordEnd, o_t_number, o_t_numberAt, o_t_readPlaces, o_t_readWords, o_t_readKind, o_t_readWorth, o_t_readFrames, o_t_readFrame, o_t_readPairs, o_t_readPair, o_t_changes, o_t_change, o_t_queue, o_t_steps, o_t_end, o_t_sent, o_t_firstSent, o_t_wasEnd, o_t_wasSent, o_t_guesses, o_t_guessHouse, o_t_guessWorth, o_t_booked, o_t_book, o_t_images, o_t_isKept])), (a_t_logTo, .inl (cy 0, 60, .inl f_t_logTo)), (a_t_logFrom, .inl (cy 0, 60, .inl f_t_logFrom)), (a_t_logWho, .inl (cy 0, 60, .inl f_t_logWho))] H := hP
    have hD : va_D A [(a_t, .inr (9, [o_t_places, o_t_words, o_t_kind, o_t_worths, o_t_frames, o_t_frame, o_t_pairs, o_t_pair, o_t_letters, o_t_standing, o_t_isStanding, o_t_worthOf, o_t_law, o_t_way, o_t_letter, o_t_turn, o_t_isSettled, o_t_had, .int i_t_logged, .ref a_t_logWho, .ref a_t_logFrom, .ref a_t_logTo, o_t_seed, o_t_text, o_t_texted, o_t_faultPlace, o_t_at0, o_t_said, o_t_wordEnd, o_t_number, o_t_numberAt, o_t_readPlaces, o_t_readWords, o_t_readKind, o_t_readWorth, o_t_readFrames, o_t_readFrame, o_t_readPairs, o_t_readPair, o_t_changes, o_t_change, o_t_queue, o_t_steps, o_t_end, o_t_sent, o_t_firstSent, o_t_wasEnd, o_t_wasSent, o_t_guesses, o_t_guessHouse, o_t_guessWorth, o_t_booked, o_t_book, o_t_images, o_t_isKept])), (a_t_logTo, .inl (cy 0, 60, .inl f_t_logTo)), (a_t_logFrom, .inl (cy 0, 60, .inl f_t_logFrom)), (a_t_logWho, .inl (cy 0, 60, .inl f_t_logWho))] := hD
    refine lv_if_ne (tgt := 35) hx hb dX9_log_28 (by decide) (fun c_6 => ?_) (fun c_6 => ?_)
    · have hf := hb_f hf c_6
      refine lv_iload_n hx hb dX9_log_35 rfl (lv_at hl 2 rfl) ?_
      refine lv_if_ne (tgt := 48) hx hb dX9_log_36 (by decide) (fun c_7 => ?_) (fun c_7 => ?_)
      · have hf := hb_f hf c_7
        refine lv_iload_n hx hb dX9_log_48 rfl (lv_at hl 2 rfl) ?_
        refine lv_iconst (v := 1) hx hb dX9_log_49 (by decide) ?_
        refine lv_icmp_ne (tgt := 62) hx hb dX9_log_50 (by decide) (fun c_8 => ?_) (fun c_8 => ?_)
        · have hf := hb_f hf c_8
          refine lv_aload_n hx hb dX9_log_62 rfl (lv_at hl 0 rfl) ?_
          refine va_get (D := D) (ci := 9) (v := .ref a_t_logTo) (C := RX9) (T := TX9) (N := 55) hx hb hts uX9_log_X9 hown hK.1.1 hP 0 rfl rfl 21 (by decide) (hts _ mX9_log_38) (fun _ h9 => h9) rfl dX9_log_63 ?_
          refine lv_iload_n hx hb dX9_log_66 rfl (lv_at hl 1 rfl) ?_
          obtain ⟨hg_9, hf⟩ := hb_g hf
          refine va_iald hx hb hK.1.1 hP 1 0 rfl rfl (ixb_in hg_9) dX9_log_67 ?_
          have hf := Option.some.inj hf
          subst hf
          exact hret _ _ _ _ dX9_log_68 rfl hP hS
        · have hf := hb_t hf c_8
          refine lv_aload_n hx hb dX9_log_53 rfl (lv_at hl 0 rfl) ?_
          refine va_get (D := D) (ci := 9) (v := .ref a_t_logFrom) (C := RX9) (T := TX9) (N := 55) hx hb hts uX9_log_X9 hown hK.1.1 hP 0 rfl rfl 20 (by decide) (hts _ mX9_log_35) (fun _ h9 => h9) rfl dX9_log_54 ?_
          refine lv_iload_n hx hb dX9_log_57 rfl (lv_at hl 1 rfl) ?_
          obtain ⟨hg_10, hf⟩ := hb_g hf
          refine va_iald hx hb hK.1.1 hP 2 0 rfl rfl (ixb_in hg_10) dX9_log_58 ?_
          refine lv_goto (tgt := 68) hx hb dX9_log_59 (by decide) ?_
          have hf := Option.some.inj hf
          subst hf
          exact hret _ _ _ _ dX9_log_68 rfl hP hS
      · have hf := hb_t hf c_7
        refine lv_aload_n hx hb dX9_log_39 rfl (lv_at hl 0 rfl) ?_
        refine va_get (D := D) (ci := 9) (v := .ref a_t_logWho) (C := RX9) (T := TX9) (N := 55) hx hb hts uX9_log_X9 hown hK.1.1 hP 0 rfl rfl 19 (by decide) (hts _ mX9_log_32) (fun _ h9 => h9) rfl dX9_log_40 ?_
        refine lv_iload_n hx hb dX9_log_43 rfl (lv_at hl 1 rfl) ?_
        obtain ⟨hg_11, hf⟩ := hb_g hf
        refine va_iald hx hb hK.1.1 hP 3 0 rfl rfl (ixb_in hg_11) dX9_log_44 ?_
        refine lv_goto (tgt := 68) hx hb dX9_log_45 (by decide) ?_
        have hf := Option.some.inj hf
        subst hf
        exact hret _ _ _ _ dX9_log_68 rfl hP hS
    · have hf := hb_t hf c_6
      refine lv_iconst (v := (-1)) hx hb dX9_log_31 (by decide) ?_
      refine lv_goto (tgt := 68) hx hb dX9_log_32 (by decide) ?_
      have hf := Option.some.inj hf
      subst hf
      exact hret _ _ _ _ dX9_log_68 rfl hP hS
  · have hf := hb_t hf c_3
    refine lv_ldc (v := (-1000000002)) hx hb hown (hts _ mX9_log_118) dX9_log_12 ?_
    have hf := Option.some.inj hf
    subst hf
    exact hret _ _ _ _ dX9_log_14 rfl hP hS
theorem mX9_fewest_118 : Cond.constant RX9 118 (-1000000002) ∈ wsX9_fewest := by decide +kernel
theorem mX9_fewest_102 : Cond.fieldLink RX9 102 "OneWordLettersModel" "letters" "I" ∈ wsX9_fewest := by decide +kernel
theorem uX9_fewest_X9 : ∀ w ∈ wsX90, w ∈ wsX9_fewest := fun _ h => List.mem_cons_of_mem _ (List.mem_append_right _ h)
theorem mX9_fewest_66 : Cond.fieldLink RX9 66 "OneWordLettersModel" "steps" "[I" ∈ wsX9_fewest := by decide +kernel
theorem mX9_fewest_63 : Cond.fieldLink RX9 63 "OneWordLettersModel" "queue" "[I" ∈ wsX9_fewest := by decide +kernel
theorem mX9_fewest_270 : Cond.fieldLink RX9 270 "OneWordLettersModel" "changes" "I" ∈ wsX9_fewest := by decide +kernel
theorem mX9_fewest_60 : Cond.fieldLink RX9 60 "OneWordLettersModel" "change" "[I" ∈ wsX9_fewest := by decide +kernel
theorem mX9_fewest_22 : Cond.fieldLink RX9 22 "OneWordLettersModel" "isStanding" "[Z" ∈ wsX9_fewest := by decide +kernel
abbrev rmX9_fewest : Room := { frames := 3, cells := 0, slots := 0, locals := 70 }
def f_X9_fewest_L22 (i_t_places : Int32) (i_t_words : Int32) (i_t_letters : Int32) (i_t_law : Int32) (f_t_isStanding : Nat → Int32) (K0 : Int32 → Int32 → Int32 → Int32 → (Nat → Int32) → (Nat → Int32) → (Nat → Int32) → Option (Int32 × Int32 × (Nat → Int32) × (Nat → Int32) × (Nat → Int32))) : Nat → Int32 → Int32 → Int32 → Int32 → Int32 → (Nat → Int32) → (Nat → Int32) → (Nat → Int32) → Option (Int32 × Int32 × (Nat → Int32) × (Nat → Int32) × (Nat → Int32))
  | 0, _, _, _, _, _, _, _, _ => none
  | n + 1, v1, v2, v3, v4, i_t_changes, f_t_steps, f_t_queue, f_t_change =>
    if i_t_letters ≤ v4 then
      K0 v1 v2 v3 i_t_changes f_t_steps f_t_queue f_t_change
    else
      if ixb v4 4096 = true then
      f_X9_fewest_L22 i_t_places i_t_words i_t_letters i_t_law f_t_isStanding K0 n v1 v2 v3 (v4 + 1) i_t_changes (upd f_t_steps (v4 : Int32).toNatClampNeg (-1)) f_t_queue f_t_change
      else none
set_option maxRecDepth 100000 in
set_option maxHeartbeats 4000000 in
theorem L_X9_fewest_22 {p : Program} {e : Env} {s : State} {m : MethodId} {args : Array Value} {below : List Frame} {meth : Method} {c : Code} {Q : State → Prop} {A : Nat → Prop} (l : Launch) (D : va_G) (cy : Nat → ClassId) (a_t : Nat) (a_t_steps : Nat) (a_t_queue : Nat) (a_t_change : Nat) (a_t_isStanding : Nat) (o_t_kind : Value) (o_t_worths : Value) (o_t_frames : Value) (o_t_frame : Value) (o_t_pairs : Value) (o_t_pair : Value) (o_t_standing : Value) (o_t_worthOf : Value) (o_t_way : Value) (o_t_letter : Value) (o_t_turn : Value) (o_t_isSettled : Value) (o_t_had : Value) (o_t_logged : Value) (o_t_logWho : Value) (o_t_logFrom : Value) (o_t_logTo : Value) (o_t_seed : Value) (o_t_text : Value) (o_t_texted : Value) (o_t_faultPlace : Value) (o_t_at0 : Value) (o_t_said : Value) (o_t_wordEnd : Value) (o_t_number : Value) (o_t_numberAt : Value) (o_t_readPlaces : Value) (o_t_readWords : Value) (o_t_readKind : Value) (o_t_readWorth : Value) (o_t_readFrames : Value) (o_t_readFrame : Value) (o_t_readPairs : Value) (o_t_readPair : Value) (o_t_end : Value) (o_t_sent : Value) (o_t_firstSent : Value) (o_t_wasEnd : Value) (o_t_wasSent : Value) (o_t_guesses : Value) (o_t_guessHouse : Value) (o_t_guessWorth : Value) (o_t_booked : Value) (o_t_book : Value) (o_t_images : Value) (o_t_isKept : Value) (i_t_places : Int32) (i_t_words : Int32) (i_t_letters : Int32) (i_t_law : Int32) (f_t_isStanding : Nat → Int32) {K0 : Int32 → Int32 → Int32 → Int32 → (Nat → Int32) → (Nat → Int32) → (Nat → Int32) → Option (Int32 × Int32 × (Nat → Int32) × (Nat → Int32) × (Nat → Int32))} (rv : Int32) (z_i_t_changes : Int32) (z_f_t_steps : Nat → Int32) (z_f_t_queue : Nat → Int32) (z_f_t_change : Nat → Int32) (C0 : CX p s m args meth c cX9_fewest 9 (some .int) wsX9_fewest RX9) (hA : ∀ q, s.heap.size ≤ q → A q) (hK : KZ D cy A s) (hk0 : ∀ (v1 : Int32) (v2 : Int32) (v3 : Int32) (y_i_t_changes : Int32) (y_f_t_steps : Nat → Int32) (y_f_t_queue : Nat → Int32) (y_f_t_change : Nat → Int32) (H : Heap) (locs : List Loc), K0 v1 v2 v3 y_i_t_changes y_f_t_steps y_f_t_queue y_f_t_change = some (rv, z_i_t_changes, z_f_t_steps, z_f_t_queue, z_f_t_change) → va_P D vwCl [(a_t, .inr (9, [.int i_t_places, .int i_t_words, o_t_kind, o_t_worths, o_t_frames, o_t_frame, o_t_pairs, o_t_pair, .int i_t_letters, o_t_standing, .ref a_t_isStanding, o_t_worthOf, .int i_t_law, o_t_way, o_t_letter, o_t_turn, o_t_isSettled, o_t_had, o_t_logged, o_t_logWho, o_t_logFrom, o_t_logTo, o_t_seed, o_t_text, o_t_texted, o_t_faultPlace, o_t_at0, o_t_said, o_t_wordEnd, o_t_number, o_t_numberAt, o_t_readPlaces, o_t_readWords, o_t_readKind, o_t_readWorth, o_t_readFrames, o_t_readFrame, o_t_readPairs, o_t_readPair, .int y_i_t_changes, .ref a_t_change, .ref a_t_queue, .ref a_t_steps, o_t_end, o_t_sent, o_t_firstSent, o_t_wasEnd, o_t_wasSent, o_t_guesses, o_t_guessHouse, o_t_guessWorth, o_t_booked, o_t_book, o_t_images, o_t_isKept])), (a_t_steps, .inl (cy 0, 4096, .inl y_f_t_steps)), (a_t_queue, .inl (cy 0, 4096, .inl y_f_t_queue)), (a_t_change, .inl (cy 0, 40, .inl y_f_t_change)), (a_t_isStanding, .inl (cy 2, 4096, .inl f_t_isStanding))] H → va_D A [(a_t, .inr (9, [.int i_t_places, .int i_t_words, o_t_kind, o_t_worths, o_t_frames, o_t_frame, o_t_pairs, o_t_pair, .int i_t_letters, o_t_standing, .ref a_t_isStanding, o_t_worthOf, .int i_t_law, o_t_way, o_t_letter, o_t_turn, o_t_isSettled, o_t_had, o_t_logged, o_t_logWho, o_t_logFrom, o_t_logTo, o_t_seed, o_t_text, o_t_texted, o_t_faultPlace, o_t_at0, o_t_said, o_t_wordEnd, o_t_number, o_t_numberAt, o_t_readPlaces, o_t_readWords, o_t_readKind, o_t_readWorth, o_t_readFrames, o_t_readFrame, o_t_readPairs, o_t_readPair, .int y_i_t_changes, .ref a_t_change, .ref a_t_queue, .ref a_t_steps, o_t_end, o_t_sent, o_t_firstSent, o_t_wasEnd, o_t_wasSent, o_t_guesses, o_t_guessHouse, o_t_guessWorth, o_t_booked, o_t_book, o_t_images, o_t_isKept])), (a_t_steps, .inl (cy 0, 4096, .inl y_f_t_steps)), (a_t_queue, .inl (cy 0, 4096, .inl y_f_t_queue)), (a_t_change, .inl (cy 0, 40, .inl y_f_t_change)), (a_t_isStanding, .inl (cy 2, 4096, .inl f_t_isStanding))] → va_S A s.heap H locs → ∀ ls : Array Slot, lv_has ls 9 [(0, .ref a_t), (1, .int v1), (2, .int v2), (3, .int v3)] → W p l e rmX9_fewest s m args below meth c H locs 0 0 Q (F0 m 45 ls [])) : ∀ (n : Nat) (v1 : Int32) (v2 : Int32) (v3 : Int32) (v4 : Int32) (i_t_changes : Int32) (f_t_steps : Nat → Int32) (f_t_queue : Nat → Int32) (f_t_change : Nat → Int32), f_X9_fewest_L22 i_t_places i_t_words i_t_letters i_t_law f_t_isStanding K0 n v1 v2 v3 v4 i_t_changes f_t_steps f_t_queue f_t_change = some (rv, z_i_t_changes, z_f_t_steps, z_f_t_queue, z_f_t_change) → ∀ (H : Heap) (locs : List Loc), va_P D vwCl [(a_t, .inr (9, [.int i_t_places, .int i_t_words, o_t_kind, o_t_worths, o_t_frames, o_t_frame, o_t_pairs, o_t_pair, .int i_t_letters, o_t_standing, .ref a_t_isStanding, o_t_worthOf, .int i_t_law, o_t_way, o_t_letter, o_t_turn, o_t_isSettled, o_t_had, o_t_logged, o_t_logWho, o_t_logFrom, o_t_logTo, o_t_seed, o_t_text, o_t_texted, o_t_faultPlace, o_t_at0, o_t_said, o_t_wordEnd, o_t_number, o_t_numberAt, o_t_readPlaces, o_t_readWords, o_t_readKind, o_t_readWorth, o_t_readFrames, o_t_readFrame, o_t_readPairs, o_t_readPair, .int i_t_changes, .ref a_t_change, .ref a_t_queue, .ref a_t_steps, o_t_end, o_t_sent, o_t_firstSent, o_t_wasEnd, o_t_wasSent, o_t_guesses, o_t_guessHouse, o_t_guessWorth, o_t_booked, o_t_book, o_t_images, o_t_isKept])), (a_t_steps, .inl (cy 0, 4096, .inl f_t_steps)), (a_t_queue, .inl (cy 0, 4096, .inl f_t_queue)), (a_t_change, .inl (cy 0, 40, .inl f_t_change)), (a_t_isStanding, .inl (cy 2, 4096, .inl f_t_isStanding))] H → va_D A [(a_t, .inr (9, [.int i_t_places, .int i_t_words, o_t_kind, o_t_worths, o_t_frames, o_t_frame, o_t_pairs, o_t_pair, .int i_t_letters, o_t_standing, .ref a_t_isStanding, o_t_worthOf, .int i_t_law, o_t_way, o_t_letter, o_t_turn, o_t_isSettled, o_t_had, o_t_logged, o_t_logWho, o_t_logFrom, o_t_logTo, o_t_seed, o_t_text, o_t_texted, o_t_faultPlace, o_t_at0, o_t_said, o_t_wordEnd, o_t_number, o_t_numberAt, o_t_readPlaces, o_t_readWords, o_t_readKind, o_t_readWorth, o_t_readFrames, o_t_readFrame, o_t_readPairs, o_t_readPair, .int i_t_changes, .ref a_t_change, .ref a_t_queue, .ref a_t_steps, o_t_end, o_t_sent, o_t_firstSent, o_t_wasEnd, o_t_wasSent, o_t_guesses, o_t_guessHouse, o_t_guessWorth, o_t_booked, o_t_book, o_t_images, o_t_isKept])), (a_t_steps, .inl (cy 0, 4096, .inl f_t_steps)), (a_t_queue, .inl (cy 0, 4096, .inl f_t_queue)), (a_t_change, .inl (cy 0, 40, .inl f_t_change)), (a_t_isStanding, .inl (cy 2, 4096, .inl f_t_isStanding))] → va_S A s.heap H locs → ∀ ls : Array Slot, lv_has ls 9 [(0, .ref a_t), (1, .int v1), (2, .int v2), (3, .int v3), (4, .int v4)] → W p l e rmX9_fewest s m args below meth c H locs 0 0 Q (F0 m 22 ls []) := by
  obtain ⟨hx, hb, hr, hml, hown, hts, hlocks⟩ := id C0
  intro n
  induction n with
  | zero => intro _ _ _ _ _ _ _ _ hf; rw [f_X9_fewest_L22.eq_1] at hf; cases hf
  | succ n ih =>
    intro v1 v2 v3 v4 i_t_changes f_t_steps f_t_queue f_t_change hf H locs hP hD hS ls hl
    rw [f_X9_fewest_L22.eq_2] at hf
    refine lv_iload hx hb dX9_fewest_22 (lv_at hl 4 rfl) ?_
    refine lv_aload_n hx hb dX9_fewest_24 rfl (lv_at hl 0 rfl) ?_
    refine va_get (D := D) (ci := 9) (v := .int i_t_letters) (C := RX9) (T := TX9) (N := 55) hx hb hts uX9_fewest_X9 hown hK.1.1 hP 0 rfl rfl 8 (by decide) (hts _ mX9_fewest_102) (fun _ h9 => h9) rfl dX9_fewest_25 ?_
    refine lv_icmp_ge (tgt := 45) hx hb dX9_fewest_28 (by decide) (fun c_7 => ?_) (fun c_7 => ?_)
    · have hf := hb_t hf c_7
      exact hk0 v1 v2 v3 i_t_changes f_t_steps f_t_queue f_t_change _ _ hf hP hD hS _ (lv_sub hl [0, 1, 2, 3] rfl)
    · have hf := hb_f hf c_7
      refine lv_aload_n hx hb dX9_fewest_31 rfl (lv_at hl 0 rfl) ?_
      refine va_get (D := D) (ci := 9) (v := .ref a_t_steps) (C := RX9) (T := TX9) (N := 55) hx hb hts uX9_fewest_X9 hown hK.1.1 hP 0 rfl rfl 42 (by decide) (hts _ mX9_fewest_66) (fun _ h9 => h9) rfl dX9_fewest_32 ?_
      refine lv_iload hx hb dX9_fewest_35 (lv_at hl 4 rfl) ?_
      refine lv_iconst (v := (-1)) hx hb dX9_fewest_37 (by decide) ?_
      obtain ⟨hg_8, hf⟩ := hb_g hf
      refine va_iast hx hb hK.1.1 hP hD hS 1 0 rfl rfl (ixb_in hg_8) dX9_fewest_38 (fun H locs hP hD hS => ?_)
      have hP : va_P D vwCl [(a_t, .inr (9, [.int i_t_places, .int i_t_words, o_t_kind, o_t_worths, o_t_frames, o_t_frame, o_t_pairs, o_t_pair, .int i_t_letters, o_t_standing, .ref a_t_isStanding, o_t_worthOf, .int i_t_law, o_t_way, o_t_letter, o_t_turn, o_t_isSettled, o_t_had, o_t_logged, o_t_logWho, o_t_logFrom, o_t_logTo, o_t_seed, o_t_text, o_t_texted, o_t_faultPlace, o_t_at0, o_t_said, o_t_wordEnd, o_t_number, o_t_numberAt, o_t_readPlaces, o_t_readWords, o_t_readKind, o_t_readWorth, o_t_readFrames, o_t_readFrame, o_t_readPairs, o_t_readPair, .int i_t_changes, .ref a_t_change, .ref a_t_queue, .ref a_t_steps, o_t_end, o_t_sent, o_t_firstSent, o_t_wasEnd, o_t_wasSent, o_t_guesses, o_t_guessHouse, o_t_guessWorth, o_t_booked, o_t_book, o_t_images, o_t_isKept])), (a_t_steps, .inl (cy 0, 4096, .inl (upd f_t_steps (v4 : Int32).toNatClampNeg (-1)))), (a_t_queue, .inl (cy 0, 4096, .inl f_t_queue)), (a_t_change, .inl (cy 0, 40, .inl f_t_change)), (a_t_isStanding, .inl (cy 2, 4096, .inl f_t_isStanding))] H := hP
      have hD : va_D A [(a_t, .inr (9, [.int i_t_places, .int i_t_words, o_t_kind, o_t_worths, o_t_frames, o_t_frame, o_t_pairs, o_t_pair, .int i_t_letters, o_t_standing, .ref a_t_isStanding, o_t_worthOf, .int i_t_law, o_t_way, o_t_letter, o_t_turn, o_t_isSettled, o_t_had, o_t_logged, o_t_logWho, o_t_logFrom, o_t_logTo, o_t_seed, o_t_text, o_t_texted, o_t_faultPlace, o_t_at0, o_t_said, o_t_wordEnd, o_t_number, o_t_numberAt, o_t_readPlaces, o_t_readWords, o_t_readKind, o_t_readWorth, o_t_readFrames, o_t_readFrame, o_t_readPairs, o_t_readPair, .int i_t_changes, .ref a_t_change, .ref a_t_queue, .ref a_t_steps, o_t_end, o_t_sent, o_t_firstSent, o_t_wasEnd, o_t_wasSent, o_t_guesses, o_t_guessHouse, o_t_guessWorth, o_t_booked, o_t_book, o_t_images, o_t_isKept])), (a_t_steps, .inl (cy 0, 4096, .inl (upd f_t_steps (v4 : Int32).toNatClampNeg (-1)))), (a_t_queue, .inl (cy 0, 4096, .inl f_t_queue)), (a_t_change, .inl (cy 0, 40, .inl f_t_change)), (a_t_isStanding, .inl (cy 2, 4096, .inl f_t_isStanding))] := hD
      refine lv_iinc (v := (v4 + 1)) (lv' := [(4, .int (v4 + 1)), (0, .ref a_t), (1, .int v1), (2, .int v2), (3, .int v3)]) hx hb dX9_fewest_39 hl (k := 4) rfl rfl (by decide) rfl (fun ls hl => ?_)
      refine lv_goto (tgt := 22) hx hb dX9_fewest_42 (by decide) ?_
      exact ih v1 v2 v3 (v4 + 1) i_t_changes (upd f_t_steps (v4 : Int32).toNatClampNeg (-1)) f_t_queue f_t_change hf _ _ hP hD hS _ (lv_sub hl [1, 2, 3, 4, 0] rfl)
def f_X9_fewest_L135 (i_t_places : Int32) (i_t_words : Int32) (i_t_letters : Int32) (i_t_law : Int32) (f_t_isStanding : Nat → Int32) (K0 : Int32 → Int32 → Int32 → Int32 → Int32 → Int32 → (Nat → Int32) → (Nat → Int32) → (Nat → Int32) → Option (Int32 × Int32 × (Nat → Int32) × (Nat → Int32) × (Nat → Int32))) : Nat → Int32 → Int32 → Int32 → Int32 → Int32 → Int32 → Int32 → Int32 → Int32 → (Nat → Int32) → (Nat → Int32) → (Nat → Int32) → Option (Int32 × Int32 × (Nat → Int32) × (Nat → Int32) × (Nat → Int32))
  | 0, _, _, _, _, _, _, _, _, _, _, _, _ => none
  | n + 1, v1, v2, v3, v4, v5, v6, v7, v8, i_t_changes, f_t_steps, f_t_queue, f_t_change =>
    if i_t_changes ≤ v8 then
      K0 v1 v2 v3 v4 v5 i_t_changes f_t_steps f_t_queue f_t_change
    else
      if v7 = 0 then
        K0 v1 v2 v3 v4 v5 i_t_changes f_t_steps f_t_queue f_t_change
      else
        if ixb v8 40 = true then
        if ixb (f_t_change (v8 : Int32).toNatClampNeg) 4096 = true then
        if 0 ≤ (f_t_steps ((f_t_change (v8 : Int32).toNatClampNeg) : Int32).toNatClampNeg) then
          f_X9_fewest_L135 i_t_places i_t_words i_t_letters i_t_law f_t_isStanding K0 n v1 v2 v3 v4 v5 v6 v7 (v8 + 1) i_t_changes f_t_steps f_t_queue f_t_change
        else
          if ixb v8 40 = true then
          if ixb v6 4096 = true then
          if ixb (f_t_change (v8 : Int32).toNatClampNeg) 4096 = true then
          if ixb v8 40 = true then
          if ixb v5 4096 = true then
          f_X9_fewest_L135 i_t_places i_t_words i_t_letters i_t_law f_t_isStanding K0 n v1 v2 v3 v4 (v5 + 1) v6 v7 (v8 + 1) i_t_changes (upd f_t_steps ((f_t_change (v8 : Int32).toNatClampNeg) : Int32).toNatClampNeg ((f_t_steps (v6 : Int32).toNatClampNeg) + 1)) (upd f_t_queue (v5 : Int32).toNatClampNeg (f_t_change (v8 : Int32).toNatClampNeg)) f_t_change
          else none
          else none
          else none
          else none
          else none
        else none
        else none
set_option maxRecDepth 100000 in
set_option maxHeartbeats 4000000 in
theorem L_X9_fewest_135 {p : Program} {e : Env} {s : State} {m : MethodId} {args : Array Value} {below : List Frame} {meth : Method} {c : Code} {Q : State → Prop} {A : Nat → Prop} (l : Launch) (D : va_G) (cy : Nat → ClassId) (a_t : Nat) (a_t_steps : Nat) (a_t_queue : Nat) (a_t_change : Nat) (a_t_isStanding : Nat) (o_t_kind : Value) (o_t_worths : Value) (o_t_frames : Value) (o_t_frame : Value) (o_t_pairs : Value) (o_t_pair : Value) (o_t_standing : Value) (o_t_worthOf : Value) (o_t_way : Value) (o_t_letter : Value) (o_t_turn : Value) (o_t_isSettled : Value) (o_t_had : Value) (o_t_logged : Value) (o_t_logWho : Value) (o_t_logFrom : Value) (o_t_logTo : Value) (o_t_seed : Value) (o_t_text : Value) (o_t_texted : Value) (o_t_faultPlace : Value) (o_t_at0 : Value) (o_t_said : Value) (o_t_wordEnd : Value) (o_t_number : Value) (o_t_numberAt : Value) (o_t_readPlaces : Value) (o_t_readWords : Value) (o_t_readKind : Value) (o_t_readWorth : Value) (o_t_readFrames : Value) (o_t_readFrame : Value) (o_t_readPairs : Value) (o_t_readPair : Value) (o_t_end : Value) (o_t_sent : Value) (o_t_firstSent : Value) (o_t_wasEnd : Value) (o_t_wasSent : Value) (o_t_guesses : Value) (o_t_guessHouse : Value) (o_t_guessWorth : Value) (o_t_booked : Value) (o_t_book : Value) (o_t_images : Value) (o_t_isKept : Value) (i_t_places : Int32) (i_t_words : Int32) (i_t_letters : Int32) (i_t_law : Int32) (f_t_isStanding : Nat → Int32) {K0 : Int32 → Int32 → Int32 → Int32 → Int32 → Int32 → (Nat → Int32) → (Nat → Int32) → (Nat → Int32) → Option (Int32 × Int32 × (Nat → Int32) × (Nat → Int32) × (Nat → Int32))} (rv : Int32) (z_i_t_changes : Int32) (z_f_t_steps : Nat → Int32) (z_f_t_queue : Nat → Int32) (z_f_t_change : Nat → Int32) (C0 : CX p s m args meth c cX9_fewest 9 (some .int) wsX9_fewest RX9) (hA : ∀ q, s.heap.size ≤ q → A q) (hK : KZ D cy A s) (hk0 : ∀ (v1 : Int32) (v2 : Int32) (v3 : Int32) (v4 : Int32) (v5 : Int32) (y_i_t_changes : Int32) (y_f_t_steps : Nat → Int32) (y_f_t_queue : Nat → Int32) (y_f_t_change : Nat → Int32) (H : Heap) (locs : List Loc), K0 v1 v2 v3 v4 v5 y_i_t_changes y_f_t_steps y_f_t_queue y_f_t_change = some (rv, z_i_t_changes, z_f_t_steps, z_f_t_queue, z_f_t_change) → va_P D vwCl [(a_t, .inr (9, [.int i_t_places, .int i_t_words, o_t_kind, o_t_worths, o_t_frames, o_t_frame, o_t_pairs, o_t_pair, .int i_t_letters, o_t_standing, .ref a_t_isStanding, o_t_worthOf, .int i_t_law, o_t_way, o_t_letter, o_t_turn, o_t_isSettled, o_t_had, o_t_logged, o_t_logWho, o_t_logFrom, o_t_logTo, o_t_seed, o_t_text, o_t_texted, o_t_faultPlace, o_t_at0, o_t_said, o_t_wordEnd, o_t_number, o_t_numberAt, o_t_readPlaces, o_t_readWords, o_t_readKind, o_t_readWorth, o_t_readFrames, o_t_readFrame, o_t_readPairs, o_t_readPair, .int y_i_t_changes, .ref a_t_change, .ref a_t_queue, .ref a_t_steps, o_t_end, o_t_sent, o_t_firstSent, o_t_wasEnd, o_t_wasSent, o_t_guesses, o_t_guessHouse, o_t_guessWorth, o_t_booked, o_t_book, o_t_images, o_t_isKept])), (a_t_steps, .inl (cy 0, 4096, .inl y_f_t_steps)), (a_t_queue, .inl (cy 0, 4096, .inl y_f_t_queue)), (a_t_change, .inl (cy 0, 40, .inl y_f_t_change)), (a_t_isStanding, .inl (cy 2, 4096, .inl f_t_isStanding))] H → va_D A [(a_t, .inr (9, [.int i_t_places, .int i_t_words, o_t_kind, o_t_worths, o_t_frames, o_t_frame, o_t_pairs, o_t_pair, .int i_t_letters, o_t_standing, .ref a_t_isStanding, o_t_worthOf, .int i_t_law, o_t_way, o_t_letter, o_t_turn, o_t_isSettled, o_t_had, o_t_logged, o_t_logWho, o_t_logFrom, o_t_logTo, o_t_seed, o_t_text, o_t_texted, o_t_faultPlace, o_t_at0, o_t_said, o_t_wordEnd, o_t_number, o_t_numberAt, o_t_readPlaces, o_t_readWords, o_t_readKind, o_t_readWorth, o_t_readFrames, o_t_readFrame, o_t_readPairs, o_t_readPair, .int y_i_t_changes, .ref a_t_change, .ref a_t_queue, .ref a_t_steps, o_t_end, o_t_sent, o_t_firstSent, o_t_wasEnd, o_t_wasSent, o_t_guesses, o_t_guessHouse, o_t_guessWorth, o_t_booked, o_t_book, o_t_images, o_t_isKept])), (a_t_steps, .inl (cy 0, 4096, .inl y_f_t_steps)), (a_t_queue, .inl (cy 0, 4096, .inl y_f_t_queue)), (a_t_change, .inl (cy 0, 40, .inl y_f_t_change)), (a_t_isStanding, .inl (cy 2, 4096, .inl f_t_isStanding))] → va_S A s.heap H locs → ∀ ls : Array Slot, lv_has ls 9 [(0, .ref a_t), (1, .int v1), (2, .int v2), (3, .int v3), (4, .int v4), (5, .int v5)] → W p l e rmX9_fewest s m args below meth c H locs 0 0 Q (F0 m 208 ls [])) : ∀ (n : Nat) (v1 : Int32) (v2 : Int32) (v3 : Int32) (v4 : Int32) (v5 : Int32) (v6 : Int32) (v7 : Int32) (v8 : Int32) (i_t_changes : Int32) (f_t_steps : Nat → Int32) (f_t_queue : Nat → Int32) (f_t_change : Nat → Int32), f_X9_fewest_L135 i_t_places i_t_words i_t_letters i_t_law f_t_isStanding K0 n v1 v2 v3 v4 v5 v6 v7 v8 i_t_changes f_t_steps f_t_queue f_t_change = some (rv, z_i_t_changes, z_f_t_steps, z_f_t_queue, z_f_t_change) → ∀ (H : Heap) (locs : List Loc), va_P D vwCl [(a_t, .inr (9, [.int i_t_places, .int i_t_words, o_t_kind, o_t_worths, o_t_frames, o_t_frame, o_t_pairs, o_t_pair, .int i_t_letters, o_t_standing, .ref a_t_isStanding, o_t_worthOf, .int i_t_law, o_t_way, o_t_letter, o_t_turn, o_t_isSettled, o_t_had, o_t_logged, o_t_logWho, o_t_logFrom, o_t_logTo, o_t_seed, o_t_text, o_t_texted, o_t_faultPlace, o_t_at0, o_t_said, o_t_wordEnd, o_t_number, o_t_numberAt, o_t_readPlaces, o_t_readWords, o_t_readKind, o_t_readWorth, o_t_readFrames, o_t_readFrame, o_t_readPairs, o_t_readPair, .int i_t_changes, .ref a_t_change, .ref a_t_queue, .ref a_t_steps, o_t_end, o_t_sent, o_t_firstSent, o_t_wasEnd, o_t_wasSent, o_t_guesses, o_t_guessHouse, o_t_guessWorth, o_t_booked, o_t_book, o_t_images, o_t_isKept])), (a_t_steps, .inl (cy 0, 4096, .inl f_t_steps)), (a_t_queue, .inl (cy 0, 4096, .inl f_t_queue)), (a_t_change, .inl (cy 0, 40, .inl f_t_change)), (a_t_isStanding, .inl (cy 2, 4096, .inl f_t_isStanding))] H → va_D A [(a_t, .inr (9, [.int i_t_places, .int i_t_words, o_t_kind, o_t_worths, o_t_frames, o_t_frame, o_t_pairs, o_t_pair, .int i_t_letters, o_t_standing, .ref a_t_isStanding, o_t_worthOf, .int i_t_law, o_t_way, o_t_letter, o_t_turn, o_t_isSettled, o_t_had, o_t_logged, o_t_logWho, o_t_logFrom, o_t_logTo, o_t_seed, o_t_text, o_t_texted, o_t_faultPlace, o_t_at0, o_t_said, o_t_wordEnd, o_t_number, o_t_numberAt, o_t_readPlaces, o_t_readWords, o_t_readKind, o_t_readWorth, o_t_readFrames, o_t_readFrame, o_t_readPairs, o_t_readPair, .int i_t_changes, .ref a_t_change, .ref a_t_queue, .ref a_t_steps, o_t_end, o_t_sent, o_t_firstSent, o_t_wasEnd, o_t_wasSent, o_t_guesses, o_t_guessHouse, o_t_guessWorth, o_t_booked, o_t_book, o_t_images, o_t_isKept])), (a_t_steps, .inl (cy 0, 4096, .inl f_t_steps)), (a_t_queue, .inl (cy 0, 4096, .inl f_t_queue)), (a_t_change, .inl (cy 0, 40, .inl f_t_change)), (a_t_isStanding, .inl (cy 2, 4096, .inl f_t_isStanding))] → va_S A s.heap H locs → ∀ ls : Array Slot, lv_has ls 9 [(0, .ref a_t), (1, .int v1), (2, .int v2), (3, .int v3), (4, .int v4), (5, .int v5), (6, .int v6), (7, .int v7), (8, .int v8)] → W p l e rmX9_fewest s m args below meth c H locs 0 0 Q (F0 m 135 ls []) := by
  obtain ⟨hx, hb, hr, hml, hown, hts, hlocks⟩ := id C0
  intro n
  induction n with
  | zero => intro _ _ _ _ _ _ _ _ _ _ _ _ hf; rw [f_X9_fewest_L135.eq_1] at hf; cases hf
  | succ n ih =>
    intro v1 v2 v3 v4 v5 v6 v7 v8 i_t_changes f_t_steps f_t_queue f_t_change hf H locs hP hD hS ls hl
    rw [f_X9_fewest_L135.eq_2] at hf
    refine lv_iload hx hb dX9_fewest_135 (lv_at hl 8 rfl) ?_
    refine lv_aload_n hx hb dX9_fewest_137 rfl (lv_at hl 0 rfl) ?_
    refine va_get (D := D) (ci := 9) (v := .int i_t_changes) (C := RX9) (T := TX9) (N := 55) hx hb hts uX9_fewest_X9 hown hK.1.1 hP 0 rfl rfl 39 (by decide) (hts _ mX9_fewest_270) (fun _ h9 => h9) rfl dX9_fewest_138 ?_
    refine lv_icmp_ge (tgt := 208) hx hb dX9_fewest_141 (by decide) (fun c_25 => ?_) (fun c_25 => ?_)
    · have hf := hb_t hf c_25
      exact hk0 v1 v2 v3 v4 v5 i_t_changes f_t_steps f_t_queue f_t_change _ _ hf hP hD hS _ (lv_sub hl [0, 1, 2, 3, 4, 5] rfl)
    · have hf := hb_f hf c_25
      refine lv_iload hx hb dX9_fewest_144 (lv_at hl 7 rfl) ?_
      refine lv_if_eq (tgt := 208) hx hb dX9_fewest_146 (by decide) (fun c_26 => ?_) (fun c_26 => ?_)
      · have hf := hb_t hf c_26
        exact hk0 v1 v2 v3 v4 v5 i_t_changes f_t_steps f_t_queue f_t_change _ _ hf hP hD hS _ (lv_sub hl [0, 1, 2, 3, 4, 5] rfl)
      · have hf := hb_f hf c_26
        refine lv_aload_n hx hb dX9_fewest_149 rfl (lv_at hl 0 rfl) ?_
        refine va_get (D := D) (ci := 9) (v := .ref a_t_steps) (C := RX9) (T := TX9) (N := 55) hx hb hts uX9_fewest_X9 hown hK.1.1 hP 0 rfl rfl 42 (by decide) (hts _ mX9_fewest_66) (fun _ h9 => h9) rfl dX9_fewest_150 ?_
        refine lv_aload_n hx hb dX9_fewest_153 rfl (lv_at hl 0 rfl) ?_
        refine va_get (D := D) (ci := 9) (v := .ref a_t_change) (C := RX9) (T := TX9) (N := 55) hx hb hts uX9_fewest_X9 hown hK.1.1 hP 0 rfl rfl 40 (by decide) (hts _ mX9_fewest_60) (fun _ h9 => h9) rfl dX9_fewest_154 ?_
        refine lv_iload hx hb dX9_fewest_157 (lv_at hl 8 rfl) ?_
        obtain ⟨hg_27, hf⟩ := hb_g hf
        refine va_iald hx hb hK.1.1 hP 3 0 rfl rfl (ixb_in hg_27) dX9_fewest_159 ?_
        obtain ⟨hg_28, hf⟩ := hb_g hf
        refine va_iald hx hb hK.1.1 hP 1 0 rfl rfl (ixb_in hg_28) dX9_fewest_160 ?_
        refine lv_if_ge (tgt := 202) hx hb dX9_fewest_161 (by decide) (fun c_29 => ?_) (fun c_29 => ?_)
        · have hf := hb_t hf c_29
          refine lv_iinc (v := (v8 + 1)) (lv' := [(8, .int (v8 + 1)), (0, .ref a_t), (1, .int v1), (2, .int v2), (3, .int v3), (4, .int v4), (5, .int v5), (6, .int v6), (7, .int v7)]) hx hb dX9_fewest_202 hl (k := 8) rfl rfl (by decide) rfl (fun ls hl => ?_)
          refine lv_goto (tgt := 135) hx hb dX9_fewest_205 (by decide) ?_
          exact ih v1 v2 v3 v4 v5 v6 v7 (v8 + 1) i_t_changes f_t_steps f_t_queue f_t_change hf _ _ hP hD hS _ (lv_sub hl [1, 2, 3, 4, 5, 6, 7, 8, 0] rfl)
        · have hf := hb_f hf c_29
          refine lv_aload_n hx hb dX9_fewest_164 rfl (lv_at hl 0 rfl) ?_
          refine va_get (D := D) (ci := 9) (v := .ref a_t_steps) (C := RX9) (T := TX9) (N := 55) hx hb hts uX9_fewest_X9 hown hK.1.1 hP 0 rfl rfl 42 (by decide) (hts _ mX9_fewest_66) (fun _ h9 => h9) rfl dX9_fewest_165 ?_
          refine lv_aload_n hx hb dX9_fewest_168 rfl (lv_at hl 0 rfl) ?_
          refine va_get (D := D) (ci := 9) (v := .ref a_t_change) (C := RX9) (T := TX9) (N := 55) hx hb hts uX9_fewest_X9 hown hK.1.1 hP 0 rfl rfl 40 (by decide) (hts _ mX9_fewest_60) (fun _ h9 => h9) rfl dX9_fewest_169 ?_
          refine lv_iload hx hb dX9_fewest_172 (lv_at hl 8 rfl) ?_
          obtain ⟨hg_30, hf⟩ := hb_g hf
          refine va_iald hx hb hK.1.1 hP 3 0 rfl rfl (ixb_in hg_30) dX9_fewest_174 ?_
          refine lv_aload_n hx hb dX9_fewest_175 rfl (lv_at hl 0 rfl) ?_
          refine va_get (D := D) (ci := 9) (v := .ref a_t_steps) (C := RX9) (T := TX9) (N := 55) hx hb hts uX9_fewest_X9 hown hK.1.1 hP 0 rfl rfl 42 (by decide) (hts _ mX9_fewest_66) (fun _ h9 => h9) rfl dX9_fewest_176 ?_
          refine lv_iload hx hb dX9_fewest_179 (lv_at hl 6 rfl) ?_
          obtain ⟨hg_31, hf⟩ := hb_g hf
          refine va_iald hx hb hK.1.1 hP 1 0 rfl rfl (ixb_in hg_31) dX9_fewest_181 ?_
          refine lv_iconst (v := 1) hx hb dX9_fewest_182 (by decide) ?_
          refine lv_iadd hx hb dX9_fewest_183 ?_
          obtain ⟨hg_32, hf⟩ := hb_g hf
          refine va_iast hx hb hK.1.1 hP hD hS 1 0 rfl rfl (ixb_in hg_32) dX9_fewest_184 (fun H locs hP hD hS => ?_)
          have hP : va_P D vwCl [(a_t, .inr (9, [.int i_t_places, .int i_t_words, o_t_kind, o_t_worths, o_t_frames, o_t_frame, o_t_pairs, o_t_pair, .int i_t_letters, o_t_standing, .ref a_t_isStanding, o_t_worthOf, .int i_t_law, o_t_way, o_t_letter, o_t_turn, o_t_isSettled, o_t_had, o_t_logged, o_t_logWho, o_t_logFrom, o_t_logTo, o_t_seed, o_t_text, o_t_texted, o_t_faultPlace, o_t_at0, o_t_said, o_t_wordEnd, o_t_number, o_t_numberAt, o_t_readPlaces, o_t_readWords, o_t_readKind, o_t_readWorth, o_t_readFrames, o_t_readFrame, o_t_readPairs, o_t_readPair, .int i_t_changes, .ref a_t_change, .ref a_t_queue, .ref a_t_steps, o_t_end, o_t_sent, o_t_firstSent, o_t_wasEnd, o_t_wasSent, o_t_guesses, o_t_guessHouse, o_t_guessWorth, o_t_booked, o_t_book, o_t_images, o_t_isKept])), (a_t_steps, .inl (cy 0, 4096, .inl (upd f_t_steps ((f_t_change (v8 : Int32).toNatClampNeg) : Int32).toNatClampNeg ((f_t_steps (v6 : Int32).toNatClampNeg) + 1)))), (a_t_queue, .inl (cy 0, 4096, .inl f_t_queue)), (a_t_change, .inl (cy 0, 40, .inl f_t_change)), (a_t_isStanding, .inl (cy 2, 4096, .inl f_t_isStanding))] H := hP
          have hD : va_D A [(a_t, .inr (9, [.int i_t_places, .int i_t_words, o_t_kind, o_t_worths, o_t_frames, o_t_frame, o_t_pairs, o_t_pair, .int i_t_letters, o_t_standing, .ref a_t_isStanding, o_t_worthOf, .int i_t_law, o_t_way, o_t_letter, o_t_turn, o_t_isSettled, o_t_had, o_t_logged, o_t_logWho, o_t_logFrom, o_t_logTo, o_t_seed, o_t_text, o_t_texted, o_t_faultPlace, o_t_at0, o_t_said, o_t_wordEnd, o_t_number, o_t_numberAt, o_t_readPlaces, o_t_readWords, o_t_readKind, o_t_readWorth, o_t_readFrames, o_t_readFrame, o_t_readPairs, o_t_readPair, .int i_t_changes, .ref a_t_change, .ref a_t_queue, .ref a_t_steps, o_t_end, o_t_sent, o_t_firstSent, o_t_wasEnd, o_t_wasSent, o_t_guesses, o_t_guessHouse, o_t_guessWorth, o_t_booked, o_t_book, o_t_images, o_t_isKept])), (a_t_steps, .inl (cy 0, 4096, .inl (upd f_t_steps ((f_t_change (v8 : Int32).toNatClampNeg) : Int32).toNatClampNeg ((f_t_steps (v6 : Int32).toNatClampNeg) + 1)))), (a_t_queue, .inl (cy 0, 4096, .inl f_t_queue)), (a_t_change, .inl (cy 0, 40, .inl f_t_change)), (a_t_isStanding, .inl (cy 2, 4096, .inl f_t_isStanding))] := hD
          refine lv_aload_n hx hb dX9_fewest_185 rfl (lv_at hl 0 rfl) ?_
          refine va_get (D := D) (ci := 9) (v := .ref a_t_queue) (C := RX9) (T := TX9) (N := 55) hx hb hts uX9_fewest_X9 hown hK.1.1 hP 0 rfl rfl 41 (by decide) (hts _ mX9_fewest_63) (fun _ h9 => h9) rfl dX9_fewest_186 ?_
          refine lv_iload hx hb dX9_fewest_189 (lv_at hl 5 rfl) ?_
          refine lv_aload_n hx hb dX9_fewest_191 rfl (lv_at hl 0 rfl) ?_
          refine va_get (D := D) (ci := 9) (v := .ref a_t_change) (C := RX9) (T := TX9) (N := 55) hx hb hts uX9_fewest_X9 hown hK.1.1 hP 0 rfl rfl 40 (by decide) (hts _ mX9_fewest_60) (fun _ h9 => h9) rfl dX9_fewest_192 ?_
          refine lv_iload hx hb dX9_fewest_195 (lv_at hl 8 rfl) ?_
          obtain ⟨hg_33, hf⟩ := hb_g hf
          refine va_iald hx hb hK.1.1 hP 3 0 rfl rfl (ixb_in hg_33) dX9_fewest_197 ?_
          obtain ⟨hg_34, hf⟩ := hb_g hf
          refine va_iast hx hb hK.1.1 hP hD hS 2 0 rfl rfl (ixb_in hg_34) dX9_fewest_198 (fun H locs hP hD hS => ?_)
          have hP : va_P D vwCl [(a_t, .inr (9, [.int i_t_places, .int i_t_words, o_t_kind, o_t_worths, o_t_frames, o_t_frame, o_t_pairs, o_t_pair, .int i_t_letters, o_t_standing, .ref a_t_isStanding, o_t_worthOf, .int i_t_law, o_t_way, o_t_letter, o_t_turn, o_t_isSettled, o_t_had, o_t_logged, o_t_logWho, o_t_logFrom, o_t_logTo, o_t_seed, o_t_text, o_t_texted, o_t_faultPlace, o_t_at0, o_t_said, o_t_wordEnd, o_t_number, o_t_numberAt, o_t_readPlaces, o_t_readWords, o_t_readKind, o_t_readWorth, o_t_readFrames, o_t_readFrame, o_t_readPairs, o_t_readPair, .int i_t_changes, .ref a_t_change, .ref a_t_queue, .ref a_t_steps, o_t_end, o_t_sent, o_t_firstSent, o_t_wasEnd, o_t_wasSent, o_t_guesses, o_t_guessHouse, o_t_guessWorth, o_t_booked, o_t_book, o_t_images, o_t_isKept])), (a_t_steps, .inl (cy 0, 4096, .inl (upd f_t_steps ((f_t_change (v8 : Int32).toNatClampNeg) : Int32).toNatClampNeg ((f_t_steps (v6 : Int32).toNatClampNeg) + 1)))), (a_t_queue, .inl (cy 0, 4096, .inl (upd f_t_queue (v5 : Int32).toNatClampNeg (f_t_change (v8 : Int32).toNatClampNeg)))), (a_t_change, .inl (cy 0, 40, .inl f_t_change)), (a_t_isStanding, .inl (cy 2, 4096, .inl f_t_isStanding))] H := hP
          have hD : va_D A [(a_t, .inr (9, [.int i_t_places, .int i_t_words, o_t_kind, o_t_worths, o_t_frames, o_t_frame, o_t_pairs, o_t_pair, .int i_t_letters, o_t_standing, .ref a_t_isStanding, o_t_worthOf, .int i_t_law, o_t_way, o_t_letter, o_t_turn, o_t_isSettled, o_t_had, o_t_logged, o_t_logWho, o_t_logFrom, o_t_logTo, o_t_seed, o_t_text, o_t_texted, o_t_faultPlace, o_t_at0, o_t_said, o_t_wordEnd, o_t_number, o_t_numberAt, o_t_readPlaces, o_t_readWords, o_t_readKind, o_t_readWorth, o_t_readFrames, o_t_readFrame, o_t_readPairs, o_t_readPair, .int i_t_changes, .ref a_t_change, .ref a_t_queue, .ref a_t_steps, o_t_end, o_t_sent, o_t_firstSent, o_t_wasEnd, o_t_wasSent, o_t_guesses, o_t_guessHouse, o_t_guessWorth, o_t_booked, o_t_book, o_t_images, o_t_isKept])), (a_t_steps, .inl (cy 0, 4096, .inl (upd f_t_steps ((f_t_change (v8 : Int32).toNatClampNeg) : Int32).toNatClampNeg ((f_t_steps (v6 : Int32).toNatClampNeg) + 1)))), (a_t_queue, .inl (cy 0, 4096, .inl (upd f_t_queue (v5 : Int32).toNatClampNeg (f_t_change (v8 : Int32).toNatClampNeg)))), (a_t_change, .inl (cy 0, 40, .inl f_t_change)), (a_t_isStanding, .inl (cy 2, 4096, .inl f_t_isStanding))] := hD
          refine lv_iinc (v := (v5 + 1)) (lv' := [(5, .int (v5 + 1)), (0, .ref a_t), (1, .int v1), (2, .int v2), (3, .int v3), (4, .int v4), (6, .int v6), (7, .int v7), (8, .int v8)]) hx hb dX9_fewest_199 hl (k := 5) rfl rfl (by decide) rfl (fun ls hl => ?_)
          refine lv_iinc (v := (v8 + 1)) (lv' := [(8, .int (v8 + 1)), (5, .int (v5 + 1)), (0, .ref a_t), (1, .int v1), (2, .int v2), (3, .int v3), (4, .int v4), (6, .int v6), (7, .int v7)]) hx hb dX9_fewest_202 hl (k := 8) rfl rfl (by decide) rfl (fun ls hl => ?_)
          refine lv_goto (tgt := 135) hx hb dX9_fewest_205 (by decide) ?_
          exact ih v1 v2 v3 v4 (v5 + 1) v6 v7 (v8 + 1) i_t_changes (upd f_t_steps ((f_t_change (v8 : Int32).toNatClampNeg) : Int32).toNatClampNeg ((f_t_steps (v6 : Int32).toNatClampNeg) + 1)) (upd f_t_queue (v5 : Int32).toNatClampNeg (f_t_change (v8 : Int32).toNatClampNeg)) f_t_change hf _ _ hP hD hS _ (lv_sub hl [2, 3, 4, 5, 6, 1, 7, 8, 0] rfl)
def f_X9_fewest_L65 (i_t_places : Int32) (i_t_words : Int32) (i_t_letters : Int32) (i_t_law : Int32) (f_t_isStanding : Nat → Int32) : Nat → Int32 → Int32 → Int32 → Int32 → Int32 → Int32 → (Nat → Int32) → (Nat → Int32) → (Nat → Int32) → Option (Int32 × Int32 × (Nat → Int32) × (Nat → Int32) × (Nat → Int32))
  | 0, _, _, _, _, _, _, _, _, _ => none
  | n + 1, v1, v2, v3, v4, v5, i_t_changes, f_t_steps, f_t_queue, f_t_change =>
    if v5 ≤ v4 then
      some ((-1), i_t_changes, f_t_steps, f_t_queue, f_t_change)
    else
      if ixb v4 4096 = true then
      if (f_t_queue (v4 : Int32).toNatClampNeg) = v1 then
        if (f_t_queue (v4 : Int32).toNatClampNeg) = v2 then
          if ixb (f_t_queue (v4 : Int32).toNatClampNeg) 4096 = true then
          some ((f_t_steps ((f_t_queue (v4 : Int32).toNatClampNeg) : Int32).toNatClampNeg), i_t_changes, f_t_steps, f_t_queue, f_t_change)
          else none
        else
          (f_X9_findChanges i_t_places i_t_words i_t_law f_t_isStanding i_t_changes f_t_change (f_t_queue (v4 : Int32).toNatClampNeg) 1).bind fun (z_22, z_23) =>
          f_X9_fewest_L135 i_t_places i_t_words i_t_letters i_t_law f_t_isStanding (fun (v1_35 : Int32) (v2_36 : Int32) (v3_37 : Int32) (v4_38 : Int32) (v5_39 : Int32) (z_40 : Int32) (z_41 : Nat → Int32) (z_42 : Nat → Int32) (z_43 : Nat → Int32) =>
            f_X9_fewest_L65 i_t_places i_t_words i_t_letters i_t_law f_t_isStanding n v1_35 v2_36 v3_37 v4_38 v5_39 z_40 z_41 z_42 z_43) FU v1 v2 v3 (v4 + 1) v5 (f_t_queue (v4 : Int32).toNatClampNeg) 1 0 z_22 f_t_steps f_t_queue z_23
      else
        if v3 = 0 then
          if ixb (f_t_queue (v4 : Int32).toNatClampNeg) 4096 = true then
          if (f_t_isStanding ((f_t_queue (v4 : Int32).toNatClampNeg) : Int32).toNatClampNeg) = 0 then
            if (f_t_queue (v4 : Int32).toNatClampNeg) = v2 then
              if ixb (f_t_queue (v4 : Int32).toNatClampNeg) 4096 = true then
              some ((f_t_steps ((f_t_queue (v4 : Int32).toNatClampNeg) : Int32).toNatClampNeg), i_t_changes, f_t_steps, f_t_queue, f_t_change)
              else none
            else
              (f_X9_findChanges i_t_places i_t_words i_t_law f_t_isStanding i_t_changes f_t_change (f_t_queue (v4 : Int32).toNatClampNeg) 1).bind fun (z_63, z_64) =>
              f_X9_fewest_L135 i_t_places i_t_words i_t_letters i_t_law f_t_isStanding (fun (v1_66 : Int32) (v2_67 : Int32) (v3_68 : Int32) (v4_69 : Int32) (v5_70 : Int32) (z_71 : Int32) (z_72 : Nat → Int32) (z_73 : Nat → Int32) (z_74 : Nat → Int32) =>
                f_X9_fewest_L65 i_t_places i_t_words i_t_letters i_t_law f_t_isStanding n v1_66 v2_67 v3_68 v4_69 v5_70 z_71 z_72 z_73 z_74) FU v1 v2 v3 (v4 + 1) v5 (f_t_queue (v4 : Int32).toNatClampNeg) 0 0 z_63 f_t_steps f_t_queue z_64
          else
            if (f_t_queue (v4 : Int32).toNatClampNeg) = v2 then
              if ixb (f_t_queue (v4 : Int32).toNatClampNeg) 4096 = true then
              some ((f_t_steps ((f_t_queue (v4 : Int32).toNatClampNeg) : Int32).toNatClampNeg), i_t_changes, f_t_steps, f_t_queue, f_t_change)
              else none
            else
              (f_X9_findChanges i_t_places i_t_words i_t_law f_t_isStanding i_t_changes f_t_change (f_t_queue (v4 : Int32).toNatClampNeg) 1).bind fun (z_77, z_78) =>
              f_X9_fewest_L135 i_t_places i_t_words i_t_letters i_t_law f_t_isStanding (fun (v1_80 : Int32) (v2_81 : Int32) (v3_82 : Int32) (v4_83 : Int32) (v5_84 : Int32) (z_85 : Int32) (z_86 : Nat → Int32) (z_87 : Nat → Int32) (z_88 : Nat → Int32) =>
                f_X9_fewest_L65 i_t_places i_t_words i_t_letters i_t_law f_t_isStanding n v1_80 v2_81 v3_82 v4_83 v5_84 z_85 z_86 z_87 z_88) FU v1 v2 v3 (v4 + 1) v5 (f_t_queue (v4 : Int32).toNatClampNeg) 1 0 z_77 f_t_steps f_t_queue z_78
          else none
        else
          if (f_t_queue (v4 : Int32).toNatClampNeg) = v2 then
            if ixb (f_t_queue (v4 : Int32).toNatClampNeg) 4096 = true then
            some ((f_t_steps ((f_t_queue (v4 : Int32).toNatClampNeg) : Int32).toNatClampNeg), i_t_changes, f_t_steps, f_t_queue, f_t_change)
            else none
          else
            (f_X9_findChanges i_t_places i_t_words i_t_law f_t_isStanding i_t_changes f_t_change (f_t_queue (v4 : Int32).toNatClampNeg) 1).bind fun (z_47, z_48) =>
            f_X9_fewest_L135 i_t_places i_t_words i_t_letters i_t_law f_t_isStanding (fun (v1_50 : Int32) (v2_51 : Int32) (v3_52 : Int32) (v4_53 : Int32) (v5_54 : Int32) (z_55 : Int32) (z_56 : Nat → Int32) (z_57 : Nat → Int32) (z_58 : Nat → Int32) =>
              f_X9_fewest_L65 i_t_places i_t_words i_t_letters i_t_law f_t_isStanding n v1_50 v2_51 v3_52 v4_53 v5_54 z_55 z_56 z_57 z_58) FU v1 v2 v3 (v4 + 1) v5 (f_t_queue (v4 : Int32).toNatClampNeg) 1 0 z_47 f_t_steps f_t_queue z_48
      else none
set_option maxRecDepth 100000 in
set_option maxHeartbeats 4000000 in
theorem L_X9_fewest_65 {p : Program} {e : Env} {s : State} {m : MethodId} {args : Array Value} {below : List Frame} {meth : Method} {c : Code} {Q : State → Prop} {A : Nat → Prop} (l : Launch) (D : va_G) (cy : Nat → ClassId) (a_t : Nat) (a_t_steps : Nat) (a_t_queue : Nat) (a_t_change : Nat) (a_t_isStanding : Nat) (o_t_kind : Value) (o_t_worths : Value) (o_t_frames : Value) (o_t_frame : Value) (o_t_pairs : Value) (o_t_pair : Value) (o_t_standing : Value) (o_t_worthOf : Value) (o_t_way : Value) (o_t_letter : Value) (o_t_turn : Value) (o_t_isSettled : Value) (o_t_had : Value) (o_t_logged : Value) (o_t_logWho : Value) (o_t_logFrom : Value) (o_t_logTo : Value) (o_t_seed : Value) (o_t_text : Value) (o_t_texted : Value) (o_t_faultPlace : Value) (o_t_at0 : Value) (o_t_said : Value) (o_t_wordEnd : Value) (o_t_number : Value) (o_t_numberAt : Value) (o_t_readPlaces : Value) (o_t_readWords : Value) (o_t_readKind : Value) (o_t_readWorth : Value) (o_t_readFrames : Value) (o_t_readFrame : Value) (o_t_readPairs : Value) (o_t_readPair : Value) (o_t_end : Value) (o_t_sent : Value) (o_t_firstSent : Value) (o_t_wasEnd : Value) (o_t_wasSent : Value) (o_t_guesses : Value) (o_t_guessHouse : Value) (o_t_guessWorth : Value) (o_t_booked : Value) (o_t_book : Value) (o_t_images : Value) (o_t_isKept : Value) (i_t_places : Int32) (i_t_words : Int32) (i_t_letters : Int32) (i_t_law : Int32) (f_t_isStanding : Nat → Int32) (rv : Int32) (z_i_t_changes : Int32) (z_f_t_steps : Nat → Int32) (z_f_t_queue : Nat → Int32) (z_f_t_change : Nat → Int32) (C0 : CX p s m args meth c cX9_fewest 9 (some .int) wsX9_fewest RX9) (hA : ∀ q, s.heap.size ≤ q → A q) (hK : KZ D cy A s) (hret : ∀ (H : Heap) (locs : List Loc) (ls : Array Slot) (pc : Nat), decode cX9_fewest pc = .ok (.ireturn, 1) → narrow .int (.int rv) = .int rv → va_P D vwCl [(a_t, .inr (9, [.int i_t_places, .int i_t_words, o_t_kind, o_t_worths, o_t_frames, o_t_frame, o_t_pairs, o_t_pair, .int i_t_letters, o_t_standing, .ref a_t_isStanding, o_t_worthOf, .int i_t_law, o_t_way, o_t_letter, o_t_turn, o_t_isSettled, o_t_had, o_t_logged, o_t_logWho, o_t_logFrom, o_t_logTo, o_t_seed, o_t_text, o_t_texted, o_t_faultPlace, o_t_at0, o_t_said, o_t_wordEnd, o_t_number, o_t_numberAt, o_t_readPlaces, o_t_readWords, o_t_readKind, o_t_readWorth, o_t_readFrames, o_t_readFrame, o_t_readPairs, o_t_readPair, .int z_i_t_changes, .ref a_t_change, .ref a_t_queue, .ref a_t_steps, o_t_end, o_t_sent, o_t_firstSent, o_t_wasEnd, o_t_wasSent, o_t_guesses, o_t_guessHouse, o_t_guessWorth, o_t_booked, o_t_book, o_t_images, o_t_isKept])), (a_t_steps, .inl (cy 0, 4096, .inl z_f_t_steps)), (a_t_queue, .inl (cy 0, 4096, .inl z_f_t_queue)), (a_t_change, .inl (cy 0, 40, .inl z_f_t_change)), (a_t_isStanding, .inl (cy 2, 4096, .inl f_t_isStanding))] H → va_S A s.heap H locs → W p l e rmX9_fewest s m args below meth c H locs 0 0 Q (F0 m pc ls [.int rv])) : ∀ (n : Nat) (v1 : Int32) (v2 : Int32) (v3 : Int32) (v4 : Int32) (v5 : Int32) (i_t_changes : Int32) (f_t_steps : Nat → Int32) (f_t_queue : Nat → Int32) (f_t_change : Nat → Int32), f_X9_fewest_L65 i_t_places i_t_words i_t_letters i_t_law f_t_isStanding n v1 v2 v3 v4 v5 i_t_changes f_t_steps f_t_queue f_t_change = some (rv, z_i_t_changes, z_f_t_steps, z_f_t_queue, z_f_t_change) → ∀ (H : Heap) (locs : List Loc), va_P D vwCl [(a_t, .inr (9, [.int i_t_places, .int i_t_words, o_t_kind, o_t_worths, o_t_frames, o_t_frame, o_t_pairs, o_t_pair, .int i_t_letters, o_t_standing, .ref a_t_isStanding, o_t_worthOf, .int i_t_law, o_t_way, o_t_letter, o_t_turn, o_t_isSettled, o_t_had, o_t_logged, o_t_logWho, o_t_logFrom, o_t_logTo, o_t_seed, o_t_text, o_t_texted, o_t_faultPlace, o_t_at0, o_t_said, o_t_wordEnd, o_t_number, o_t_numberAt, o_t_readPlaces, o_t_readWords, o_t_readKind, o_t_readWorth, o_t_readFrames, o_t_readFrame, o_t_readPairs, o_t_readPair, .int i_t_changes, .ref a_t_change, .ref a_t_queue, .ref a_t_steps, o_t_end, o_t_sent, o_t_firstSent, o_t_wasEnd, o_t_wasSent, o_t_guesses, o_t_guessHouse, o_t_guessWorth, o_t_booked, o_t_book, o_t_images, o_t_isKept])), (a_t_steps, .inl (cy 0, 4096, .inl f_t_steps)), (a_t_queue, .inl (cy 0, 4096, .inl f_t_queue)), (a_t_change, .inl (cy 0, 40, .inl f_t_change)), (a_t_isStanding, .inl (cy 2, 4096, .inl f_t_isStanding))] H → va_D A [(a_t, .inr (9, [.int i_t_places, .int i_t_words, o_t_kind, o_t_worths, o_t_frames, o_t_frame, o_t_pairs, o_t_pair, .int i_t_letters, o_t_standing, .ref a_t_isStanding, o_t_worthOf, .int i_t_law, o_t_way, o_t_letter, o_t_turn, o_t_isSettled, o_t_had, o_t_logged, o_t_logWho, o_t_logFrom, o_t_logTo, o_t_seed, o_t_text, o_t_texted, o_t_faultPlace, o_t_at0, o_t_said, o_t_wordEnd, o_t_number, o_t_numberAt, o_t_readPlaces, o_t_readWords, o_t_readKind, o_t_readWorth, o_t_readFrames, o_t_readFrame, o_t_readPairs, o_t_readPair, .int i_t_changes, .ref a_t_change, .ref a_t_queue, .ref a_t_steps, o_t_end, o_t_sent, o_t_firstSent, o_t_wasEnd, o_t_wasSent, o_t_guesses, o_t_guessHouse, o_t_guessWorth, o_t_booked, o_t_book, o_t_images, o_t_isKept])), (a_t_steps, .inl (cy 0, 4096, .inl f_t_steps)), (a_t_queue, .inl (cy 0, 4096, .inl f_t_queue)), (a_t_change, .inl (cy 0, 40, .inl f_t_change)), (a_t_isStanding, .inl (cy 2, 4096, .inl f_t_isStanding))] → va_S A s.heap H locs → ∀ ls : Array Slot, lv_has ls 9 [(0, .ref a_t), (1, .int v1), (2, .int v2), (3, .int v3), (4, .int v4), (5, .int v5)] → W p l e rmX9_fewest s m args below meth c H locs 0 0 Q (F0 m 65 ls []) := by
  obtain ⟨hx, hb, hr, hml, hown, hts, hlocks⟩ := id C0
  intro n
  induction n with
  | zero => intro _ _ _ _ _ _ _ _ _ hf; rw [f_X9_fewest_L65.eq_1] at hf; cases hf
  | succ n ih =>
    intro v1 v2 v3 v4 v5 i_t_changes f_t_steps f_t_queue f_t_change hf H locs hP hD hS ls hl
    rw [f_X9_fewest_L65.eq_2] at hf
    refine lv_iload hx hb dX9_fewest_65 (lv_at hl 4 rfl) ?_
    refine lv_iload hx hb dX9_fewest_67 (lv_at hl 5 rfl) ?_
    refine lv_icmp_ge (tgt := 211) hx hb dX9_fewest_69 (by decide) (fun c_18 => ?_) (fun c_18 => ?_)
    · have hf := hb_t hf c_18
      refine lv_iconst (v := (-1)) hx hb dX9_fewest_211 (by decide) ?_
      obtain ⟨e_0, e_1, e_2, e_3, e_4⟩ := tu5 hf
      subst e_0; subst e_1; subst e_2; subst e_3; subst e_4
      exact hret _ _ _ _ dX9_fewest_212 rfl hP hS
    · have hf := hb_f hf c_18
      refine lv_aload_n hx hb dX9_fewest_72 rfl (lv_at hl 0 rfl) ?_
      refine va_get (D := D) (ci := 9) (v := .ref a_t_queue) (C := RX9) (T := TX9) (N := 55) hx hb hts uX9_fewest_X9 hown hK.1.1 hP 0 rfl rfl 41 (by decide) (hts _ mX9_fewest_63) (fun _ h9 => h9) rfl dX9_fewest_73 ?_
      refine lv_iload hx hb dX9_fewest_76 (lv_at hl 4 rfl) ?_
      obtain ⟨hg_19, hf⟩ := hb_g hf
      refine va_iald hx hb hK.1.1 hP 2 0 rfl rfl (ixb_in hg_19) dX9_fewest_78 ?_
      refine lv_istore (lv' := [(6, .int (f_t_queue (v4 : Int32).toNatClampNeg)), (0, .ref a_t), (1, .int v1), (2, .int v2), (3, .int v3), (4, .int v4), (5, .int v5)]) hx hb dX9_fewest_79 hl (by decide) rfl (fun ls hl => ?_)
      refine lv_iinc (v := (v4 + 1)) (lv' := [(4, .int (v4 + 1)), (6, .int (f_t_queue (v4 : Int32).toNatClampNeg)), (0, .ref a_t), (1, .int v1), (2, .int v2), (3, .int v3), (5, .int v5)]) hx hb dX9_fewest_81 hl (k := 5) rfl rfl (by decide) rfl (fun ls hl => ?_)
      refine lv_iload hx hb dX9_fewest_84 (lv_at hl 1 rfl) ?_
      refine lv_iload_n hx hb dX9_fewest_86 rfl (lv_at hl 3 rfl) ?_
      refine lv_icmp_eq (tgt := 104) hx hb dX9_fewest_87 (by decide) (fun c_20 => ?_) (fun c_20 => ?_)
      · have hf := hb_t hf c_20
        refine lv_iconst (v := 1) hx hb dX9_fewest_104 (by decide) ?_
        refine lv_goto (tgt := 109) hx hb dX9_fewest_105 (by decide) ?_
        refine lv_istore (lv' := [(7, .int 1), (4, .int (v4 + 1)), (6, .int (f_t_queue (v4 : Int32).toNatClampNeg)), (0, .ref a_t), (1, .int v1), (2, .int v2), (3, .int v3), (5, .int v5)]) hx hb dX9_fewest_109 hl (by decide) rfl (fun ls hl => ?_)
        refine lv_iload hx hb dX9_fewest_111 (lv_at hl 2 rfl) ?_
        refine lv_iload_n hx hb dX9_fewest_113 rfl (lv_at hl 5 rfl) ?_
        refine lv_icmp_ne (tgt := 125) hx hb dX9_fewest_114 (by decide) (fun c_21 => ?_) (fun c_21 => ?_)
        · have hf := hb_f hf c_21
          refine lv_aload_n hx hb dX9_fewest_125 rfl (lv_at hl 3 rfl) ?_
          refine lv_iload hx hb dX9_fewest_126 (lv_at hl 2 rfl) ?_
          refine lv_iconst (v := 1) hx hb dX9_fewest_128 (by decide) ?_
          obtain ⟨⟨z_22, z_23⟩, hc_24, hf⟩ := hb_b hf
          refine cl_Vv (rest := []) [0, 3, 4] 0 C0 hK hP hD hS hA (c_X9_findChanges l D cy a_t a_t_change a_t_isStanding o_t_kind o_t_worths o_t_frames o_t_frame o_t_pairs o_t_pair (.int i_t_letters) o_t_standing o_t_worthOf o_t_way o_t_letter o_t_turn o_t_isSettled o_t_had o_t_logged o_t_logWho o_t_logFrom o_t_logTo o_t_seed o_t_text o_t_texted o_t_faultPlace o_t_at0 o_t_said o_t_wordEnd o_t_number o_t_numberAt o_t_readPlaces o_t_readWords o_t_readKind o_t_readWorth o_t_readFrames o_t_readFrame o_t_readPairs o_t_readPair (.ref a_t_queue) (.ref a_t_steps) o_t_end o_t_sent o_t_firstSent o_t_wasEnd o_t_wasSent o_t_guesses o_t_guessHouse o_t_guessWorth o_t_booked o_t_book o_t_images o_t_isKept i_t_places i_t_words i_t_law f_t_isStanding i_t_changes f_t_change (f_t_queue (v4 : Int32).toNatClampNeg) 1 z_22 z_23 hc_24) (cwV 2 hts gX9_fewest_X9_findChanges rfl rfl rfl (by decide +kernel) ⟨Nat.le_of_ble_eq_true rfl, Nat.le_of_ble_eq_true rfl⟩) rfl rfl rfl rfl rfl rfl rfl hl.1 rfl (Nat.le_of_ble_eq_true rfl) dX9_fewest_129 ⟨Nat.zero_le _, Nat.zero_le _⟩ (fun H locs hP hD hS => ?_)
          have hP : va_P D vwCl [(a_t, .inr (9, [.int i_t_places, .int i_t_words, o_t_kind, o_t_worths, o_t_frames, o_t_frame, o_t_pairs, o_t_pair, .int i_t_letters, o_t_standing, .ref a_t_isStanding, o_t_worthOf, .int i_t_law, o_t_way, o_t_letter, o_t_turn, o_t_isSettled, o_t_had, o_t_logged, o_t_logWho, o_t_logFrom, o_t_logTo, o_t_seed, o_t_text, o_t_texted, o_t_faultPlace, o_t_at0, o_t_said, o_t_wordEnd, o_t_number, o_t_numberAt, o_t_readPlaces, o_t_readWords, o_t_readKind, o_t_readWorth, o_t_readFrames, o_t_readFrame, o_t_readPairs, o_t_readPair, .int z_22, .ref a_t_change, .ref a_t_queue, .ref a_t_steps, o_t_end, o_t_sent, o_t_firstSent, o_t_wasEnd, o_t_wasSent, o_t_guesses, o_t_guessHouse, o_t_guessWorth, o_t_booked, o_t_book, o_t_images, o_t_isKept])), (a_t_steps, .inl (cy 0, 4096, .inl f_t_steps)), (a_t_queue, .inl (cy 0, 4096, .inl f_t_queue)), (a_t_change, .inl (cy 0, 40, .inl z_23)), (a_t_isStanding, .inl (cy 2, 4096, .inl f_t_isStanding))] H := hP
          have hD : va_D A [(a_t, .inr (9, [.int i_t_places, .int i_t_words, o_t_kind, o_t_worths, o_t_frames, o_t_frame, o_t_pairs, o_t_pair, .int i_t_letters, o_t_standing, .ref a_t_isStanding, o_t_worthOf, .int i_t_law, o_t_way, o_t_letter, o_t_turn, o_t_isSettled, o_t_had, o_t_logged, o_t_logWho, o_t_logFrom, o_t_logTo, o_t_seed, o_t_text, o_t_texted, o_t_faultPlace, o_t_at0, o_t_said, o_t_wordEnd, o_t_number, o_t_numberAt, o_t_readPlaces, o_t_readWords, o_t_readKind, o_t_readWorth, o_t_readFrames, o_t_readFrame, o_t_readPairs, o_t_readPair, .int z_22, .ref a_t_change, .ref a_t_queue, .ref a_t_steps, o_t_end, o_t_sent, o_t_firstSent, o_t_wasEnd, o_t_wasSent, o_t_guesses, o_t_guessHouse, o_t_guessWorth, o_t_booked, o_t_book, o_t_images, o_t_isKept])), (a_t_steps, .inl (cy 0, 4096, .inl f_t_steps)), (a_t_queue, .inl (cy 0, 4096, .inl f_t_queue)), (a_t_change, .inl (cy 0, 40, .inl z_23)), (a_t_isStanding, .inl (cy 2, 4096, .inl f_t_isStanding))] := hD
          refine lv_iconst (v := 0) hx hb dX9_fewest_132 (by decide) ?_
          refine lv_istore (lv' := [(8, .int 0), (7, .int 1), (4, .int (v4 + 1)), (6, .int (f_t_queue (v4 : Int32).toNatClampNeg)), (0, .ref a_t), (1, .int v1), (2, .int v2), (3, .int v3), (5, .int v5)]) hx hb dX9_fewest_133 hl (by decide) rfl (fun ls hl => ?_)
          refine L_X9_fewest_135 l D cy a_t a_t_steps a_t_queue a_t_change a_t_isStanding o_t_kind o_t_worths o_t_frames o_t_frame o_t_pairs o_t_pair o_t_standing o_t_worthOf o_t_way o_t_letter o_t_turn o_t_isSettled o_t_had o_t_logged o_t_logWho o_t_logFrom o_t_logTo o_t_seed o_t_text o_t_texted o_t_faultPlace o_t_at0 o_t_said o_t_wordEnd o_t_number o_t_numberAt o_t_readPlaces o_t_readWords o_t_readKind o_t_readWorth o_t_readFrames o_t_readFrame o_t_readPairs o_t_readPair o_t_end o_t_sent o_t_firstSent o_t_wasEnd o_t_wasSent o_t_guesses o_t_guessHouse o_t_guessWorth o_t_booked o_t_book o_t_images o_t_isKept i_t_places i_t_words i_t_letters i_t_law f_t_isStanding rv z_i_t_changes z_f_t_steps z_f_t_queue z_f_t_change C0 hA hK (fun v1_35 v2_36 v3_37 v4_38 v5_39 z_40 z_41 z_42 z_43 H locs hf hP hD hS ls hl => ?_) FU v1 v2 v3 (v4 + 1) v5 (f_t_queue (v4 : Int32).toNatClampNeg) 1 0 z_22 f_t_steps f_t_queue z_23 hf _ _ hP hD hS _ (lv_sub hl [4, 5, 6, 7, 2, 8, 3, 1, 0] rfl)
          refine lv_goto (tgt := 65) hx hb dX9_fewest_208 (by decide) ?_
          exact ih v1_35 v2_36 v3_37 v4_38 v5_39 z_40 z_41 z_42 z_43 hf _ _ hP hD hS _ (lv_sub hl [0, 1, 2, 3, 4, 5] rfl)
        · have hf := hb_t hf c_21
          refine lv_aload_n hx hb dX9_fewest_117 rfl (lv_at hl 3 rfl) ?_
          refine va_get (D := D) (ci := 9) (v := .ref a_t_steps) (C := RX9) (T := TX9) (N := 55) hx hb hts uX9_fewest_X9 hown hK.1.1 hP 0 rfl rfl 42 (by decide) (hts _ mX9_fewest_66) (fun _ h9 => h9) rfl dX9_fewest_118 ?_
          refine lv_iload hx hb dX9_fewest_121 (lv_at hl 2 rfl) ?_
          obtain ⟨hg_44, hf⟩ := hb_g hf
          refine va_iald hx hb hK.1.1 hP 1 0 rfl rfl (ixb_in hg_44) dX9_fewest_123 ?_
          obtain ⟨e_0, e_1, e_2, e_3, e_4⟩ := tu5 hf
          subst e_0; subst e_1; subst e_2; subst e_3; subst e_4
          exact hret _ _ _ _ dX9_fewest_124 rfl hP hS
      · have hf := hb_f hf c_20
        refine lv_iload_n hx hb dX9_fewest_90 rfl (lv_at hl 5 rfl) ?_
        refine lv_if_ne (tgt := 104) hx hb dX9_fewest_91 (by decide) (fun c_45 => ?_) (fun c_45 => ?_)
        · have hf := hb_f hf c_45
          refine lv_iconst (v := 1) hx hb dX9_fewest_104 (by decide) ?_
          refine lv_goto (tgt := 109) hx hb dX9_fewest_105 (by decide) ?_
          refine lv_istore (lv' := [(7, .int 1), (4, .int (v4 + 1)), (6, .int (f_t_queue (v4 : Int32).toNatClampNeg)), (0, .ref a_t), (1, .int v1), (2, .int v2), (3, .int v3), (5, .int v5)]) hx hb dX9_fewest_109 hl (by decide) rfl (fun ls hl => ?_)
          refine lv_iload hx hb dX9_fewest_111 (lv_at hl 2 rfl) ?_
          refine lv_iload_n hx hb dX9_fewest_113 rfl (lv_at hl 5 rfl) ?_
          refine lv_icmp_ne (tgt := 125) hx hb dX9_fewest_114 (by decide) (fun c_46 => ?_) (fun c_46 => ?_)
          · have hf := hb_f hf c_46
            refine lv_aload_n hx hb dX9_fewest_125 rfl (lv_at hl 3 rfl) ?_
            refine lv_iload hx hb dX9_fewest_126 (lv_at hl 2 rfl) ?_
            refine lv_iconst (v := 1) hx hb dX9_fewest_128 (by decide) ?_
            obtain ⟨⟨z_47, z_48⟩, hc_49, hf⟩ := hb_b hf
            refine cl_Vv (rest := []) [0, 3, 4] 0 C0 hK hP hD hS hA (c_X9_findChanges l D cy a_t a_t_change a_t_isStanding o_t_kind o_t_worths o_t_frames o_t_frame o_t_pairs o_t_pair (.int i_t_letters) o_t_standing o_t_worthOf o_t_way o_t_letter o_t_turn o_t_isSettled o_t_had o_t_logged o_t_logWho o_t_logFrom o_t_logTo o_t_seed o_t_text o_t_texted o_t_faultPlace o_t_at0 o_t_said o_t_wordEnd o_t_number o_t_numberAt o_t_readPlaces o_t_readWords o_t_readKind o_t_readWorth o_t_readFrames o_t_readFrame o_t_readPairs o_t_readPair (.ref a_t_queue) (.ref a_t_steps) o_t_end o_t_sent o_t_firstSent o_t_wasEnd o_t_wasSent o_t_guesses o_t_guessHouse o_t_guessWorth o_t_booked o_t_book o_t_images o_t_isKept i_t_places i_t_words i_t_law f_t_isStanding i_t_changes f_t_change (f_t_queue (v4 : Int32).toNatClampNeg) 1 z_47 z_48 hc_49) (cwV 2 hts gX9_fewest_X9_findChanges rfl rfl rfl (by decide +kernel) ⟨Nat.le_of_ble_eq_true rfl, Nat.le_of_ble_eq_true rfl⟩) rfl rfl rfl rfl rfl rfl rfl hl.1 rfl (Nat.le_of_ble_eq_true rfl) dX9_fewest_129 ⟨Nat.zero_le _, Nat.zero_le _⟩ (fun H locs hP hD hS => ?_)
            have hP : va_P D vwCl [(a_t, .inr (9, [.int i_t_places, .int i_t_words, o_t_kind, o_t_worths, o_t_frames, o_t_frame, o_t_pairs, o_t_pair, .int i_t_letters, o_t_standing, .ref a_t_isStanding, o_t_worthOf, .int i_t_law, o_t_way, o_t_letter, o_t_turn, o_t_isSettled, o_t_had, o_t_logged, o_t_logWho, o_t_logFrom, o_t_logTo, o_t_seed, o_t_text, o_t_texted, o_t_faultPlace, o_t_at0, o_t_said, o_t_wordEnd, o_t_number, o_t_numberAt, o_t_readPlaces, o_t_readWords, o_t_readKind, o_t_readWorth, o_t_readFrames, o_t_readFrame, o_t_readPairs, o_t_readPair, .int z_47, .ref a_t_change, .ref a_t_queue, .ref a_t_steps, o_t_end, o_t_sent, o_t_firstSent, o_t_wasEnd, o_t_wasSent, o_t_guesses, o_t_guessHouse, o_t_guessWorth, o_t_booked, o_t_book, o_t_images, o_t_isKept])), (a_t_steps, .inl (cy 0, 4096, .inl f_t_steps)), (a_t_queue, .inl (cy 0, 4096, .inl f_t_queue)), (a_t_change, .inl (cy 0, 40, .inl z_48)), (a_t_isStanding, .inl (cy 2, 4096, .inl f_t_isStanding))] H := hP
            have hD : va_D A [(a_t, .inr (9, [.int i_t_places, .int i_t_words, o_t_kind, o_t_worths, o_t_frames, o_t_frame, o_t_pairs, o_t_pair, .int i_t_letters, o_t_standing, .ref a_t_isStanding, o_t_worthOf, .int i_t_law, o_t_way, o_t_letter, o_t_turn, o_t_isSettled, o_t_had, o_t_logged, o_t_logWho, o_t_logFrom, o_t_logTo, o_t_seed, o_t_text, o_t_texted, o_t_faultPlace, o_t_at0, o_t_said, o_t_wordEnd, o_t_number, o_t_numberAt, o_t_readPlaces, o_t_readWords, o_t_readKind, o_t_readWorth, o_t_readFrames, o_t_readFrame, o_t_readPairs, o_t_readPair, .int z_47, .ref a_t_change, .ref a_t_queue, .ref a_t_steps, o_t_end, o_t_sent, o_t_firstSent, o_t_wasEnd, o_t_wasSent, o_t_guesses, o_t_guessHouse, o_t_guessWorth, o_t_booked, o_t_book, o_t_images, o_t_isKept])), (a_t_steps, .inl (cy 0, 4096, .inl f_t_steps)), (a_t_queue, .inl (cy 0, 4096, .inl f_t_queue)), (a_t_change, .inl (cy 0, 40, .inl z_48)), (a_t_isStanding, .inl (cy 2, 4096, .inl f_t_isStanding))] := hD
            refine lv_iconst (v := 0) hx hb dX9_fewest_132 (by decide) ?_
            refine lv_istore (lv' := [(8, .int 0), (7, .int 1), (4, .int (v4 + 1)), (6, .int (f_t_queue (v4 : Int32).toNatClampNeg)), (0, .ref a_t), (1, .int v1), (2, .int v2), (3, .int v3), (5, .int v5)]) hx hb dX9_fewest_133 hl (by decide) rfl (fun ls hl => ?_)
            refine L_X9_fewest_135 l D cy a_t a_t_steps a_t_queue a_t_change a_t_isStanding o_t_kind o_t_worths o_t_frames o_t_frame o_t_pairs o_t_pair o_t_standing o_t_worthOf o_t_way o_t_letter o_t_turn o_t_isSettled o_t_had o_t_logged o_t_logWho o_t_logFrom o_t_logTo o_t_seed o_t_text o_t_texted o_t_faultPlace o_t_at0 o_t_said o_t_wordEnd o_t_number o_t_numberAt o_t_readPlaces o_t_readWords o_t_readKind o_t_readWorth o_t_readFrames o_t_readFrame o_t_readPairs o_t_readPair o_t_end o_t_sent o_t_firstSent o_t_wasEnd o_t_wasSent o_t_guesses o_t_guessHouse o_t_guessWorth o_t_booked o_t_book o_t_images o_t_isKept i_t_places i_t_words i_t_letters i_t_law f_t_isStanding rv z_i_t_changes z_f_t_steps z_f_t_queue z_f_t_change C0 hA hK (fun v1_50 v2_51 v3_52 v4_53 v5_54 z_55 z_56 z_57 z_58 H locs hf hP hD hS ls hl => ?_) FU v1 v2 v3 (v4 + 1) v5 (f_t_queue (v4 : Int32).toNatClampNeg) 1 0 z_47 f_t_steps f_t_queue z_48 hf _ _ hP hD hS _ (lv_sub hl [4, 5, 6, 7, 2, 8, 3, 1, 0] rfl)
            refine lv_goto (tgt := 65) hx hb dX9_fewest_208 (by decide) ?_
            exact ih v1_50 v2_51 v3_52 v4_53 v5_54 z_55 z_56 z_57 z_58 hf _ _ hP hD hS _ (lv_sub hl [0, 1, 2, 3, 4, 5] rfl)
          · have hf := hb_t hf c_46
            refine lv_aload_n hx hb dX9_fewest_117 rfl (lv_at hl 3 rfl) ?_
            refine va_get (D := D) (ci := 9) (v := .ref a_t_steps) (C := RX9) (T := TX9) (N := 55) hx hb hts uX9_fewest_X9 hown hK.1.1 hP 0 rfl rfl 42 (by decide) (hts _ mX9_fewest_66) (fun _ h9 => h9) rfl dX9_fewest_118 ?_
            refine lv_iload hx hb dX9_fewest_121 (lv_at hl 2 rfl) ?_
            obtain ⟨hg_59, hf⟩ := hb_g hf
            refine va_iald hx hb hK.1.1 hP 1 0 rfl rfl (ixb_in hg_59) dX9_fewest_123 ?_
            obtain ⟨e_0, e_1, e_2, e_3, e_4⟩ := tu5 hf
            subst e_0; subst e_1; subst e_2; subst e_3; subst e_4
            exact hret _ _ _ _ dX9_fewest_124 rfl hP hS
        · have hf := hb_t hf c_45
          refine lv_aload_n hx hb dX9_fewest_94 rfl (lv_at hl 2 rfl) ?_
          refine va_get (D := D) (ci := 9) (v := .ref a_t_isStanding) (C := RX9) (T := TX9) (N := 55) hx hb hts uX9_fewest_X9 hown hK.1.1 hP 0 rfl rfl 10 (by decide) (hts _ mX9_fewest_22) (fun _ h9 => h9) rfl dX9_fewest_95 ?_
          refine lv_iload hx hb dX9_fewest_98 (lv_at hl 1 rfl) ?_
          obtain ⟨hg_60, hf⟩ := hb_g hf
          refine va_zald hx hb hK.1.1 hP 4 2 rfl rfl (ixb_in hg_60) dX9_fewest_100 ?_
          refine lv_if_eq (tgt := 108) hx hb dX9_fewest_101 (by decide) (fun c_61 => ?_) (fun c_61 => ?_)
          · have hf := hb_t hf c_61
            refine lv_iconst (v := 0) hx hb dX9_fewest_108 (by decide) ?_
            refine lv_istore (lv' := [(7, .int 0), (4, .int (v4 + 1)), (6, .int (f_t_queue (v4 : Int32).toNatClampNeg)), (0, .ref a_t), (1, .int v1), (2, .int v2), (3, .int v3), (5, .int v5)]) hx hb dX9_fewest_109 hl (by decide) rfl (fun ls hl => ?_)
            refine lv_iload hx hb dX9_fewest_111 (lv_at hl 2 rfl) ?_
            refine lv_iload_n hx hb dX9_fewest_113 rfl (lv_at hl 5 rfl) ?_
            refine lv_icmp_ne (tgt := 125) hx hb dX9_fewest_114 (by decide) (fun c_62 => ?_) (fun c_62 => ?_)
            · have hf := hb_f hf c_62
              refine lv_aload_n hx hb dX9_fewest_125 rfl (lv_at hl 3 rfl) ?_
              refine lv_iload hx hb dX9_fewest_126 (lv_at hl 2 rfl) ?_
              refine lv_iconst (v := 1) hx hb dX9_fewest_128 (by decide) ?_
              obtain ⟨⟨z_63, z_64⟩, hc_65, hf⟩ := hb_b hf
              refine cl_Vv (rest := []) [0, 3, 4] 0 C0 hK hP hD hS hA (c_X9_findChanges l D cy a_t a_t_change a_t_isStanding o_t_kind o_t_worths o_t_frames o_t_frame o_t_pairs o_t_pair (.int i_t_letters) o_t_standing o_t_worthOf o_t_way o_t_letter o_t_turn o_t_isSettled o_t_had o_t_logged o_t_logWho o_t_logFrom o_t_logTo o_t_seed o_t_text o_t_texted o_t_faultPlace o_t_at0 o_t_said o_t_wordEnd o_t_number o_t_numberAt o_t_readPlaces o_t_readWords o_t_readKind o_t_readWorth o_t_readFrames o_t_readFrame o_t_readPairs o_t_readPair (.ref a_t_queue) (.ref a_t_steps) o_t_end o_t_sent o_t_firstSent o_t_wasEnd o_t_wasSent o_t_guesses o_t_guessHouse o_t_guessWorth o_t_booked o_t_book o_t_images o_t_isKept i_t_places i_t_words i_t_law f_t_isStanding i_t_changes f_t_change (f_t_queue (v4 : Int32).toNatClampNeg) 1 z_63 z_64 hc_65) (cwV 2 hts gX9_fewest_X9_findChanges rfl rfl rfl (by decide +kernel) ⟨Nat.le_of_ble_eq_true rfl, Nat.le_of_ble_eq_true rfl⟩) rfl rfl rfl rfl rfl rfl rfl hl.1 rfl (Nat.le_of_ble_eq_true rfl) dX9_fewest_129 ⟨Nat.zero_le _, Nat.zero_le _⟩ (fun H locs hP hD hS => ?_)
              have hP : va_P D vwCl [(a_t, .inr (9, [.int i_t_places, .int i_t_words, o_t_kind, o_t_worths, o_t_frames, o_t_frame, o_t_pairs, o_t_pair, .int i_t_letters, o_t_standing, .ref a_t_isStanding, o_t_worthOf, .int i_t_law, o_t_way, o_t_letter, o_t_turn, o_t_isSettled, o_t_had, o_t_logged, o_t_logWho, o_t_logFrom, o_t_logTo, o_t_seed, o_t_text, o_t_texted, o_t_faultPlace, o_t_at0, o_t_said, o_t_wordEnd, o_t_number, o_t_numberAt, o_t_readPlaces, o_t_readWords, o_t_readKind, o_t_readWorth, o_t_readFrames, o_t_readFrame, o_t_readPairs, o_t_readPair, .int z_63, .ref a_t_change, .ref a_t_queue, .ref a_t_steps, o_t_end, o_t_sent, o_t_firstSent, o_t_wasEnd, o_t_wasSent, o_t_guesses, o_t_guessHouse, o_t_guessWorth, o_t_booked, o_t_book, o_t_images, o_t_isKept])), (a_t_steps, .inl (cy 0, 4096, .inl f_t_steps)), (a_t_queue, .inl (cy 0, 4096, .inl f_t_queue)), (a_t_change, .inl (cy 0, 40, .inl z_64)), (a_t_isStanding, .inl (cy 2, 4096, .inl f_t_isStanding))] H := hP
              have hD : va_D A [(a_t, .inr (9, [.int i_t_places, .int i_t_words, o_t_kind, o_t_worths, o_t_frames, o_t_frame, o_t_pairs, o_t_pair, .int i_t_letters, o_t_standing, .ref a_t_isStanding, o_t_worthOf, .int i_t_law, o_t_way, o_t_letter, o_t_turn, o_t_isSettled, o_t_had, o_t_logged, o_t_logWho, o_t_logFrom, o_t_logTo, o_t_seed, o_t_text, o_t_texted, o_t_faultPlace, o_t_at0, o_t_said, o_t_wordEnd, o_t_number, o_t_numberAt, o_t_readPlaces, o_t_readWords, o_t_readKind, o_t_readWorth, o_t_readFrames, o_t_readFrame, o_t_readPairs, o_t_readPair, .int z_63, .ref a_t_change, .ref a_t_queue, .ref a_t_steps, o_t_end, o_t_sent, o_t_firstSent, o_t_wasEnd, o_t_wasSent, o_t_guesses, o_t_guessHouse, o_t_guessWorth, o_t_booked, o_t_book, o_t_images, o_t_isKept])), (a_t_steps, .inl (cy 0, 4096, .inl f_t_steps)), (a_t_queue, .inl (cy 0, 4096, .inl f_t_queue)), (a_t_change, .inl (cy 0, 40, .inl z_64)), (a_t_isStanding, .inl (cy 2, 4096, .inl f_t_isStanding))] := hD
              refine lv_iconst (v := 0) hx hb dX9_fewest_132 (by decide) ?_
              refine lv_istore (lv' := [(8, .int 0), (7, .int 0), (4, .int (v4 + 1)), (6, .int (f_t_queue (v4 : Int32).toNatClampNeg)), (0, .ref a_t), (1, .int v1), (2, .int v2), (3, .int v3), (5, .int v5)]) hx hb dX9_fewest_133 hl (by decide) rfl (fun ls hl => ?_)
              refine L_X9_fewest_135 l D cy a_t a_t_steps a_t_queue a_t_change a_t_isStanding o_t_kind o_t_worths o_t_frames o_t_frame o_t_pairs o_t_pair o_t_standing o_t_worthOf o_t_way o_t_letter o_t_turn o_t_isSettled o_t_had o_t_logged o_t_logWho o_t_logFrom o_t_logTo o_t_seed o_t_text o_t_texted o_t_faultPlace o_t_at0 o_t_said o_t_wordEnd o_t_number o_t_numberAt o_t_readPlaces o_t_readWords o_t_readKind o_t_readWorth o_t_readFrames o_t_readFrame o_t_readPairs o_t_readPair o_t_end o_t_sent o_t_firstSent o_t_wasEnd o_t_wasSent o_t_guesses o_t_guessHouse o_t_guessWorth o_t_booked o_t_book o_t_images o_t_isKept i_t_places i_t_words i_t_letters i_t_law f_t_isStanding rv z_i_t_changes z_f_t_steps z_f_t_queue z_f_t_change C0 hA hK (fun v1_66 v2_67 v3_68 v4_69 v5_70 z_71 z_72 z_73 z_74 H locs hf hP hD hS ls hl => ?_) FU v1 v2 v3 (v4 + 1) v5 (f_t_queue (v4 : Int32).toNatClampNeg) 0 0 z_63 f_t_steps f_t_queue z_64 hf _ _ hP hD hS _ (lv_sub hl [4, 5, 6, 7, 2, 8, 3, 1, 0] rfl)
              refine lv_goto (tgt := 65) hx hb dX9_fewest_208 (by decide) ?_
              exact ih v1_66 v2_67 v3_68 v4_69 v5_70 z_71 z_72 z_73 z_74 hf _ _ hP hD hS _ (lv_sub hl [0, 1, 2, 3, 4, 5] rfl)
            · have hf := hb_t hf c_62
              refine lv_aload_n hx hb dX9_fewest_117 rfl (lv_at hl 3 rfl) ?_
              refine va_get (D := D) (ci := 9) (v := .ref a_t_steps) (C := RX9) (T := TX9) (N := 55) hx hb hts uX9_fewest_X9 hown hK.1.1 hP 0 rfl rfl 42 (by decide) (hts _ mX9_fewest_66) (fun _ h9 => h9) rfl dX9_fewest_118 ?_
              refine lv_iload hx hb dX9_fewest_121 (lv_at hl 2 rfl) ?_
              obtain ⟨hg_75, hf⟩ := hb_g hf
              refine va_iald hx hb hK.1.1 hP 1 0 rfl rfl (ixb_in hg_75) dX9_fewest_123 ?_
              obtain ⟨e_0, e_1, e_2, e_3, e_4⟩ := tu5 hf
              subst e_0; subst e_1; subst e_2; subst e_3; subst e_4
              exact hret _ _ _ _ dX9_fewest_124 rfl hP hS
          · have hf := hb_f hf c_61
            refine lv_iconst (v := 1) hx hb dX9_fewest_104 (by decide) ?_
            refine lv_goto (tgt := 109) hx hb dX9_fewest_105 (by decide) ?_
            refine lv_istore (lv' := [(7, .int 1), (4, .int (v4 + 1)), (6, .int (f_t_queue (v4 : Int32).toNatClampNeg)), (0, .ref a_t), (1, .int v1), (2, .int v2), (3, .int v3), (5, .int v5)]) hx hb dX9_fewest_109 hl (by decide) rfl (fun ls hl => ?_)
            refine lv_iload hx hb dX9_fewest_111 (lv_at hl 2 rfl) ?_
            refine lv_iload_n hx hb dX9_fewest_113 rfl (lv_at hl 5 rfl) ?_
            refine lv_icmp_ne (tgt := 125) hx hb dX9_fewest_114 (by decide) (fun c_76 => ?_) (fun c_76 => ?_)
            · have hf := hb_f hf c_76
              refine lv_aload_n hx hb dX9_fewest_125 rfl (lv_at hl 3 rfl) ?_
              refine lv_iload hx hb dX9_fewest_126 (lv_at hl 2 rfl) ?_
              refine lv_iconst (v := 1) hx hb dX9_fewest_128 (by decide) ?_
              obtain ⟨⟨z_77, z_78⟩, hc_79, hf⟩ := hb_b hf
              refine cl_Vv (rest := []) [0, 3, 4] 0 C0 hK hP hD hS hA (c_X9_findChanges l D cy a_t a_t_change a_t_isStanding o_t_kind o_t_worths o_t_frames o_t_frame o_t_pairs o_t_pair (.int i_t_letters) o_t_standing o_t_worthOf o_t_way o_t_letter o_t_turn o_t_isSettled o_t_had o_t_logged o_t_logWho o_t_logFrom o_t_logTo o_t_seed o_t_text o_t_texted o_t_faultPlace o_t_at0 o_t_said o_t_wordEnd o_t_number o_t_numberAt o_t_readPlaces o_t_readWords o_t_readKind o_t_readWorth o_t_readFrames o_t_readFrame o_t_readPairs o_t_readPair (.ref a_t_queue) (.ref a_t_steps) o_t_end o_t_sent o_t_firstSent o_t_wasEnd o_t_wasSent o_t_guesses o_t_guessHouse o_t_guessWorth o_t_booked o_t_book o_t_images o_t_isKept i_t_places i_t_words i_t_law f_t_isStanding i_t_changes f_t_change (f_t_queue (v4 : Int32).toNatClampNeg) 1 z_77 z_78 hc_79) (cwV 2 hts gX9_fewest_X9_findChanges rfl rfl rfl (by decide +kernel) ⟨Nat.le_of_ble_eq_true rfl, Nat.le_of_ble_eq_true rfl⟩) rfl rfl rfl rfl rfl rfl rfl hl.1 rfl (Nat.le_of_ble_eq_true rfl) dX9_fewest_129 ⟨Nat.zero_le _, Nat.zero_le _⟩ (fun H locs hP hD hS => ?_)
              have hP : va_P D vwCl [(a_t, .inr (9, [.int i_t_places, .int i_t_words, o_t_kind, o_t_worths, o_t_frames, o_t_frame, o_t_pairs, o_t_pair, .int i_t_letters, o_t_standing, .ref a_t_isStanding, o_t_worthOf, .int i_t_law, o_t_way, o_t_letter, o_t_turn, o_t_isSettled, o_t_had, o_t_logged, o_t_logWho, o_t_logFrom, o_t_logTo, o_t_seed, o_t_text, o_t_texted, o_t_faultPlace, o_t_at0, o_t_said, o_t_wordEnd, o_t_number, o_t_numberAt, o_t_readPlaces, o_t_readWords, o_t_readKind, o_t_readWorth, o_t_readFrames, o_t_readFrame, o_t_readPairs, o_t_readPair, .int z_77, .ref a_t_change, .ref a_t_queue, .ref a_t_steps, o_t_end, o_t_sent, o_t_firstSent, o_t_wasEnd, o_t_wasSent, o_t_guesses, o_t_guessHouse, o_t_guessWorth, o_t_booked, o_t_book, o_t_images, o_t_isKept])), (a_t_steps, .inl (cy 0, 4096, .inl f_t_steps)), (a_t_queue, .inl (cy 0, 4096, .inl f_t_queue)), (a_t_change, .inl (cy 0, 40, .inl z_78)), (a_t_isStanding, .inl (cy 2, 4096, .inl f_t_isStanding))] H := hP
              have hD : va_D A [(a_t, .inr (9, [.int i_t_places, .int i_t_words, o_t_kind, o_t_worths, o_t_frames, o_t_frame, o_t_pairs, o_t_pair, .int i_t_letters, o_t_standing, .ref a_t_isStanding, o_t_worthOf, .int i_t_law, o_t_way, o_t_letter, o_t_turn, o_t_isSettled, o_t_had, o_t_logged, o_t_logWho, o_t_logFrom, o_t_logTo, o_t_seed, o_t_text, o_t_texted, o_t_faultPlace, o_t_at0, o_t_said, o_t_wordEnd, o_t_number, o_t_numberAt, o_t_readPlaces, o_t_readWords, o_t_readKind, o_t_readWorth, o_t_readFrames, o_t_readFrame, o_t_readPairs, o_t_readPair, .int z_77, .ref a_t_change, .ref a_t_queue, .ref a_t_steps, o_t_end, o_t_sent, o_t_firstSent, o_t_wasEnd, o_t_wasSent, o_t_guesses, o_t_guessHouse, o_t_guessWorth, o_t_booked, o_t_book, o_t_images, o_t_isKept])), (a_t_steps, .inl (cy 0, 4096, .inl f_t_steps)), (a_t_queue, .inl (cy 0, 4096, .inl f_t_queue)), (a_t_change, .inl (cy 0, 40, .inl z_78)), (a_t_isStanding, .inl (cy 2, 4096, .inl f_t_isStanding))] := hD
              refine lv_iconst (v := 0) hx hb dX9_fewest_132 (by decide) ?_
              refine lv_istore (lv' := [(8, .int 0), (7, .int 1), (4, .int (v4 + 1)), (6, .int (f_t_queue (v4 : Int32).toNatClampNeg)), (0, .ref a_t), (1, .int v1), (2, .int v2), (3, .int v3), (5, .int v5)]) hx hb dX9_fewest_133 hl (by decide) rfl (fun ls hl => ?_)
              refine L_X9_fewest_135 l D cy a_t a_t_steps a_t_queue a_t_change a_t_isStanding o_t_kind o_t_worths o_t_frames o_t_frame o_t_pairs o_t_pair o_t_standing o_t_worthOf o_t_way o_t_letter o_t_turn o_t_isSettled o_t_had o_t_logged o_t_logWho o_t_logFrom o_t_logTo o_t_seed o_t_text o_t_texted o_t_faultPlace o_t_at0 o_t_said o_t_wordEnd o_t_number o_t_numberAt o_t_readPlaces o_t_readWords o_t_readKind o_t_readWorth o_t_readFrames o_t_readFrame o_t_readPairs o_t_readPair o_t_end o_t_sent o_t_firstSent o_t_wasEnd o_t_wasSent o_t_guesses o_t_guessHouse o_t_guessWorth o_t_booked o_t_book o_t_images o_t_isKept i_t_places i_t_words i_t_letters i_t_law f_t_isStanding rv z_i_t_changes z_f_t_steps z_f_t_queue z_f_t_change C0 hA hK (fun v1_80 v2_81 v3_82 v4_83 v5_84 z_85 z_86 z_87 z_88 H locs hf hP hD hS ls hl => ?_) FU v1 v2 v3 (v4 + 1) v5 (f_t_queue (v4 : Int32).toNatClampNeg) 1 0 z_77 f_t_steps f_t_queue z_78 hf _ _ hP hD hS _ (lv_sub hl [4, 5, 6, 7, 2, 8, 3, 1, 0] rfl)
              refine lv_goto (tgt := 65) hx hb dX9_fewest_208 (by decide) ?_
              exact ih v1_80 v2_81 v3_82 v4_83 v5_84 z_85 z_86 z_87 z_88 hf _ _ hP hD hS _ (lv_sub hl [0, 1, 2, 3, 4, 5] rfl)
            · have hf := hb_t hf c_76
              refine lv_aload_n hx hb dX9_fewest_117 rfl (lv_at hl 3 rfl) ?_
              refine va_get (D := D) (ci := 9) (v := .ref a_t_steps) (C := RX9) (T := TX9) (N := 55) hx hb hts uX9_fewest_X9 hown hK.1.1 hP 0 rfl rfl 42 (by decide) (hts _ mX9_fewest_66) (fun _ h9 => h9) rfl dX9_fewest_118 ?_
              refine lv_iload hx hb dX9_fewest_121 (lv_at hl 2 rfl) ?_
              obtain ⟨hg_89, hf⟩ := hb_g hf
              refine va_iald hx hb hK.1.1 hP 1 0 rfl rfl (ixb_in hg_89) dX9_fewest_123 ?_
              obtain ⟨e_0, e_1, e_2, e_3, e_4⟩ := tu5 hf
              subst e_0; subst e_1; subst e_2; subst e_3; subst e_4
              exact hret _ _ _ _ dX9_fewest_124 rfl hP hS
def f_X9_fewest (i_t_places : Int32) (i_t_words : Int32) (i_t_letters : Int32) (i_t_law : Int32) (f_t_isStanding : Nat → Int32) (i_t_changes : Int32) (f_t_steps : Nat → Int32) (f_t_queue : Nat → Int32) (f_t_change : Nat → Int32) (p1 : Int32) (p2 : Int32) (p3 : Int32) : Option (Int32 × Int32 × (Nat → Int32) × (Nat → Int32) × (Nat → Int32)) :=
  (f_X9_isLetter i_t_letters p1).bind fun r_1 =>
  if r_1 = 0 then
    some ((-1000000002), i_t_changes, f_t_steps, f_t_queue, f_t_change)
  else
    (f_X9_isLetter i_t_letters p2).bind fun r_4 =>
    if r_4 = 0 then
      some ((-1000000002), i_t_changes, f_t_steps, f_t_queue, f_t_change)
    else
      f_X9_fewest_L22 i_t_places i_t_words i_t_letters i_t_law f_t_isStanding (fun (v1_9 : Int32) (v2_10 : Int32) (v3_11 : Int32) (z_12 : Int32) (z_13 : Nat → Int32) (z_14 : Nat → Int32) (z_15 : Nat → Int32) =>
        if ixb v1_9 4096 = true then
        if ixb 0 4096 = true then
        f_X9_fewest_L65 i_t_places i_t_words i_t_letters i_t_law f_t_isStanding FU v1_9 v2_10 v3_11 0 1 z_12 (upd z_13 (v1_9 : Int32).toNatClampNeg 0) (upd z_14 (0 : Int32).toNatClampNeg v1_9) z_15
        else none
        else none) FU p1 p2 p3 0 i_t_changes f_t_steps f_t_queue f_t_change
set_option maxRecDepth 100000 in
set_option maxHeartbeats 4000000 in
theorem c_X9_fewest (l : Launch) (D : va_G) (cy : Nat → ClassId) (a_t : Nat) (a_t_steps : Nat) (a_t_queue : Nat) (a_t_change : Nat) (a_t_isStanding : Nat) (o_t_kind : Value) (o_t_worths : Value) (o_t_frames : Value) (o_t_frame : Value) (o_t_pairs : Value) (o_t_pair : Value) (o_t_standing : Value) (o_t_worthOf : Value) (o_t_way : Value) (o_t_letter : Value) (o_t_turn : Value) (o_t_isSettled : Value) (o_t_had : Value) (o_t_logged : Value) (o_t_logWho : Value) (o_t_logFrom : Value) (o_t_logTo : Value) (o_t_seed : Value) (o_t_text : Value) (o_t_texted : Value) (o_t_faultPlace : Value) (o_t_at0 : Value) (o_t_said : Value) (o_t_wordEnd : Value) (o_t_number : Value) (o_t_numberAt : Value) (o_t_readPlaces : Value) (o_t_readWords : Value) (o_t_readKind : Value) (o_t_readWorth : Value) (o_t_readFrames : Value) (o_t_readFrame : Value) (o_t_readPairs : Value) (o_t_readPair : Value) (o_t_end : Value) (o_t_sent : Value) (o_t_firstSent : Value) (o_t_wasEnd : Value) (o_t_wasSent : Value) (o_t_guesses : Value) (o_t_guessHouse : Value) (o_t_guessWorth : Value) (o_t_booked : Value) (o_t_book : Value) (o_t_images : Value) (o_t_isKept : Value) (i_t_places : Int32) (i_t_words : Int32) (i_t_letters : Int32) (i_t_law : Int32) (f_t_isStanding : Nat → Int32) (i_t_changes : Int32) (f_t_steps : Nat → Int32) (f_t_queue : Nat → Int32) (f_t_change : Nat → Int32) (p1 : Int32) (p2 : Int32) (p3 : Int32) (rv : Int32) (z_i_t_changes : Int32) (z_f_t_steps : Nat → Int32) (z_f_t_queue : Nat → Int32) (z_f_t_change : Nat → Int32) (hf : f_X9_fewest i_t_places i_t_words i_t_letters i_t_law f_t_isStanding i_t_changes f_t_steps f_t_queue f_t_change p1 p2 p3 = some (rv, z_i_t_changes, z_f_t_steps, z_f_t_queue, z_f_t_change)) : MI l D cy yX9_fewest wsX9_fewest rmX9_fewest [.ref a_t, .int p1, .int p2, .int p3] [(a_t, .inr (9, [.int i_t_places, .int i_t_words, o_t_kind, o_t_worths, o_t_frames, o_t_frame, o_t_pairs, o_t_pair, .int i_t_letters, o_t_standing, .ref a_t_isStanding, o_t_worthOf, .int i_t_law, o_t_way, o_t_letter, o_t_turn, o_t_isSettled, o_t_had, o_t_logged, o_t_logWho, o_t_logFrom, o_t_logTo, o_t_seed, o_t_text, o_t_texted, o_t_faultPlace, o_t_at0, o_t_said, o_t_wordEnd, o_t_number, o_t_numberAt, o_t_readPlaces, o_t_readWords, o_t_readKind, o_t_readWorth, o_t_readFrames, o_t_readFrame, o_t_readPairs, o_t_readPair, .int i_t_changes, .ref a_t_change, .ref a_t_queue, .ref a_t_steps, o_t_end, o_t_sent, o_t_firstSent, o_t_wasEnd, o_t_wasSent, o_t_guesses, o_t_guessHouse, o_t_guessWorth, o_t_booked, o_t_book, o_t_images, o_t_isKept])), (a_t_steps, .inl (cy 0, 4096, .inl f_t_steps)), (a_t_queue, .inl (cy 0, 4096, .inl f_t_queue)), (a_t_change, .inl (cy 0, 40, .inl f_t_change)), (a_t_isStanding, .inl (cy 2, 4096, .inl f_t_isStanding))] [(a_t, .inr (9, [.int i_t_places, .int i_t_words, o_t_kind, o_t_worths, o_t_frames, o_t_frame, o_t_pairs, o_t_pair, .int i_t_letters, o_t_standing, .ref a_t_isStanding, o_t_worthOf, .int i_t_law, o_t_way, o_t_letter, o_t_turn, o_t_isSettled, o_t_had, o_t_logged, o_t_logWho, o_t_logFrom, o_t_logTo, o_t_seed, o_t_text, o_t_texted, o_t_faultPlace, o_t_at0, o_t_said, o_t_wordEnd, o_t_number, o_t_numberAt, o_t_readPlaces, o_t_readWords, o_t_readKind, o_t_readWorth, o_t_readFrames, o_t_readFrame, o_t_readPairs, o_t_readPair, .int z_i_t_changes, .ref a_t_change, .ref a_t_queue, .ref a_t_steps, o_t_end, o_t_sent, o_t_firstSent, o_t_wasEnd, o_t_wasSent, o_t_guesses, o_t_guessHouse, o_t_guessWorth, o_t_booked, o_t_book, o_t_images, o_t_isKept])), (a_t_steps, .inl (cy 0, 4096, .inl z_f_t_steps)), (a_t_queue, .inl (cy 0, 4096, .inl z_f_t_queue)), (a_t_change, .inl (cy 0, 40, .inl z_f_t_change)), (a_t_isStanding, .inl (cy 2, 4096, .inl f_t_isStanding))] rv := by
  refine st_I (by decide) rfl (Nat.le_of_ble_eq_true rfl) (fun p e s m below meth c A Q ls C0 hA hK hP hD hS hl hret => ?_)
  obtain ⟨hx, hb, hr, hml, hown, hts, hlocks⟩ := id C0
  have hl : lv_has ls 9 [(0, .ref a_t), (1, .int p1), (2, .int p2), (3, .int p3)] := hl
  unfold f_X9_fewest at hf
  refine lv_aload_n hx hb dX9_fewest_0 rfl (lv_at hl 0 rfl) ?_
  refine lv_iload_n hx hb dX9_fewest_1 rfl (lv_at hl 1 rfl) ?_
  obtain ⟨r_1, hc_2, hf⟩ := hb_b hf
  refine cl_Vi (rest := []) [0] 0 C0 hK hP hD hS hA (c_X9_isLetter l D cy a_t (.int i_t_places) (.int i_t_words) o_t_kind o_t_worths o_t_frames o_t_frame o_t_pairs o_t_pair o_t_standing (.ref a_t_isStanding) o_t_worthOf (.int i_t_law) o_t_way o_t_letter o_t_turn o_t_isSettled o_t_had o_t_logged o_t_logWho o_t_logFrom o_t_logTo o_t_seed o_t_text o_t_texted o_t_faultPlace o_t_at0 o_t_said o_t_wordEnd o_t_number o_t_numberAt o_t_readPlaces o_t_readWords o_t_readKind o_t_readWorth o_t_readFrames o_t_readFrame o_t_readPairs o_t_readPair (.int i_t_changes) (.ref a_t_change) (.ref a_t_queue) (.ref a_t_steps) o_t_end o_t_sent o_t_firstSent o_t_wasEnd o_t_wasSent o_t_guesses o_t_guessHouse o_t_guessWorth o_t_booked o_t_book o_t_images o_t_isKept i_t_letters p1 r_1 hc_2) (cwV 1 hts gX9_fewest_X9_isLetter rfl rfl rfl (by decide +kernel) ⟨Nat.le_of_ble_eq_true rfl, Nat.le_of_ble_eq_true rfl⟩) rfl rfl rfl rfl rfl rfl rfl hl.1 rfl (Nat.le_of_ble_eq_true rfl) dX9_fewest_2 ⟨Nat.zero_le _, Nat.zero_le _⟩ (fun H locs hP hD hS => ?_)
  have hP : va_P D vwCl [(a_t, .inr (9, [.int i_t_places, .int i_t_words, o_t_kind, o_t_worths, o_t_frames, o_t_frame, o_t_pairs, o_t_pair, .int i_t_letters, o_t_standing, .ref a_t_isStanding, o_t_worthOf, .int i_t_law, o_t_way, o_t_letter, o_t_turn, o_t_isSettled, o_t_had, o_t_logged, o_t_logWho, o_t_logFrom, o_t_logTo, o_t_seed, o_t_text, o_t_texted, o_t_faultPlace, o_t_at0, o_t_said, o_t_wordEnd, o_t_number, o_t_numberAt, o_t_readPlaces, o_t_readWords, o_t_readKind, o_t_readWorth, o_t_readFrames, o_t_readFrame, o_t_readPairs, o_t_readPair, .int i_t_changes, .ref a_t_change, .ref a_t_queue, .ref a_t_steps, o_t_end, o_t_sent, o_t_firstSent, o_t_wasEnd, o_t_wasSent, o_t_guesses, o_t_guessHouse, o_t_guessWorth, o_t_booked, o_t_book, o_t_images, o_t_isKept])), (a_t_steps, .inl (cy 0, 4096, .inl f_t_steps)), (a_t_queue, .inl (cy 0, 4096, .inl f_t_queue)), (a_t_change, .inl (cy 0, 40, .inl f_t_change)), (a_t_isStanding, .inl (cy 2, 4096, .inl f_t_isStanding))] H := hP
  have hD : va_D A [(a_t, .inr (9, [.int i_t_places, .int i_t_words, o_t_kind, o_t_worths, o_t_frames, o_t_frame, o_t_pairs, o_t_pair, .int i_t_letters, o_t_standing, .ref a_t_isStanding, o_t_worthOf, .int i_t_law, o_t_way, o_t_letter, o_t_turn, o_t_isSettled, o_t_had, o_t_logged, o_t_logWho, o_t_logFrom, o_t_logTo, o_t_seed, o_t_text, o_t_texted, o_t_faultPlace, o_t_at0, o_t_said, o_t_wordEnd, o_t_number, o_t_numberAt, o_t_readPlaces, o_t_readWords, o_t_readKind, o_t_readWorth, o_t_readFrames, o_t_readFrame, o_t_readPairs, o_t_readPair, .int i_t_changes, .ref a_t_change, .ref a_t_queue, .ref a_t_steps, o_t_end, o_t_sent, o_t_firstSent, o_t_wasEnd, o_t_wasSent, o_t_guesses, o_t_guessHouse, o_t_guessWorth, o_t_booked, o_t_book, o_t_images, o_t_isKept])), (a_t_steps, .inl (cy 0, 4096, .inl f_t_steps)), (a_t_queue, .inl (cy 0, 4096, .inl f_t_queue)), (a_t_change, .inl (cy 0, 40, .inl f_t_change)), (a_t_isStanding, .inl (cy 2, 4096, .inl f_t_isStanding))] := hD
  refine lv_if_eq (tgt := 16) hx hb dX9_fewest_5 (by decide) (fun c_3 => ?_) (fun c_3 => ?_)
  · have hf := hb_t hf c_3
    refine lv_ldc (v := (-1000000002)) hx hb hown (hts _ mX9_fewest_118) dX9_fewest_16 ?_
    obtain ⟨e_0, e_1, e_2, e_3, e_4⟩ := tu5 hf
    subst e_0; subst e_1; subst e_2; subst e_3; subst e_4
    exact hret _ _ _ _ dX9_fewest_18 rfl hP hS
  · have hf := hb_f hf c_3
    refine lv_aload_n hx hb dX9_fewest_8 rfl (lv_at hl 0 rfl) ?_
    refine lv_iload_n hx hb dX9_fewest_9 rfl (lv_at hl 2 rfl) ?_
    obtain ⟨r_4, hc_5, hf⟩ := hb_b hf
    refine cl_Vi (rest := []) [0] 0 C0 hK hP hD hS hA (c_X9_isLetter l D cy a_t (.int i_t_places) (.int i_t_words) o_t_kind o_t_worths o_t_frames o_t_frame o_t_pairs o_t_pair o_t_standing (.ref a_t_isStanding) o_t_worthOf (.int i_t_law) o_t_way o_t_letter o_t_turn o_t_isSettled o_t_had o_t_logged o_t_logWho o_t_logFrom o_t_logTo o_t_seed o_t_text o_t_texted o_t_faultPlace o_t_at0 o_t_said o_t_wordEnd o_t_number o_t_numberAt o_t_readPlaces o_t_readWords o_t_readKind o_t_readWorth o_t_readFrames o_t_readFrame o_t_readPairs o_t_readPair (.int i_t_changes) (.ref a_t_change) (.ref a_t_queue) (.ref a_t_steps) o_t_end o_t_sent o_t_firstSent o_t_wasEnd o_t_wasSent o_t_guesses o_t_guessHouse o_t_guessWorth o_t_booked o_t_book o_t_images o_t_isKept i_t_letters p2 r_4 hc_5) (cwV 1 hts gX9_fewest_X9_isLetter rfl rfl rfl (by decide +kernel) ⟨Nat.le_of_ble_eq_true rfl, Nat.le_of_ble_eq_true rfl⟩) rfl rfl rfl rfl rfl rfl rfl hl.1 rfl (Nat.le_of_ble_eq_true rfl) dX9_fewest_10 ⟨Nat.zero_le _, Nat.zero_le _⟩ (fun H locs hP hD hS => ?_)
    have hP : va_P D vwCl [(a_t, .inr (9, [.int i_t_places, .int i_t_words, o_t_kind, o_t_worths, o_t_frames, o_t_frame, o_t_pairs, o_t_pair, .int i_t_letters, o_t_standing, .ref a_t_isStanding, o_t_worthOf, .int i_t_law, o_t_way, o_t_letter, o_t_turn, o_t_isSettled, o_t_had, o_t_logged, o_t_logWho, o_t_logFrom, o_t_logTo, o_t_seed, o_t_text, o_t_texted, o_t_faultPlace, o_t_at0, o_t_said, o_t_wordEnd, o_t_number, o_t_numberAt, o_t_readPlaces, o_t_readWords, o_t_readKind, o_t_readWorth, o_t_readFrames, o_t_readFrame, o_t_readPairs, o_t_readPair, .int i_t_changes, .ref a_t_change, .ref a_t_queue, .ref a_t_steps, o_t_end, o_t_sent, o_t_firstSent, o_t_wasEnd, o_t_wasSent, o_t_guesses, o_t_guessHouse, o_t_guessWorth, o_t_booked, o_t_book, o_t_images, o_t_isKept])), (a_t_steps, .inl (cy 0, 4096, .inl f_t_steps)), (a_t_queue, .inl (cy 0, 4096, .inl f_t_queue)), (a_t_change, .inl (cy 0, 40, .inl f_t_change)), (a_t_isStanding, .inl (cy 2, 4096, .inl f_t_isStanding))] H := hP
    have hD : va_D A [(a_t, .inr (9, [.int i_t_places, .int i_t_words, o_t_kind, o_t_worths, o_t_frames, o_t_frame, o_t_pairs, o_t_pair, .int i_t_letters, o_t_standing, .ref a_t_isStanding, o_t_worthOf, .int i_t_law, o_t_way, o_t_letter, o_t_turn, o_t_isSettled, o_t_had, o_t_logged, o_t_logWho, o_t_logFrom, o_t_logTo, o_t_seed, o_t_text, o_t_texted, o_t_faultPlace, o_t_at0, o_t_said, o_t_wordEnd, o_t_number, o_t_numberAt, o_t_readPlaces, o_t_readWords, o_t_readKind, o_t_readWorth, o_t_readFrames, o_t_readFrame, o_t_readPairs, o_t_readPair, .int i_t_changes, .ref a_t_change, .ref a_t_queue, .ref a_t_steps, o_t_end, o_t_sent, o_t_firstSent, o_t_wasEnd, o_t_wasSent, o_t_guesses, o_t_guessHouse, o_t_guessWorth, o_t_booked, o_t_book, o_t_images, o_t_isKept])), (a_t_steps, .inl (cy 0, 4096, .inl f_t_steps)), (a_t_queue, .inl (cy 0, 4096, .inl f_t_queue)), (a_t_change, .inl (cy 0, 40, .inl f_t_change)), (a_t_isStanding, .inl (cy 2, 4096, .inl f_t_isStanding))] := hD
    refine lv_if_ne (tgt := 19) hx hb dX9_fewest_13 (by decide) (fun c_6 => ?_) (fun c_6 => ?_)
    · have hf := hb_f hf c_6
      refine lv_iconst (v := 0) hx hb dX9_fewest_19 (by decide) ?_
      refine lv_istore (lv' := [(4, .int 0), (0, .ref a_t), (1, .int p1), (2, .int p2), (3, .int p3)]) hx hb dX9_fewest_20 hl (by decide) rfl (fun ls hl => ?_)
      refine L_X9_fewest_22 l D cy a_t a_t_steps a_t_queue a_t_change a_t_isStanding o_t_kind o_t_worths o_t_frames o_t_frame o_t_pairs o_t_pair o_t_standing o_t_worthOf o_t_way o_t_letter o_t_turn o_t_isSettled o_t_had o_t_logged o_t_logWho o_t_logFrom o_t_logTo o_t_seed o_t_text o_t_texted o_t_faultPlace o_t_at0 o_t_said o_t_wordEnd o_t_number o_t_numberAt o_t_readPlaces o_t_readWords o_t_readKind o_t_readWorth o_t_readFrames o_t_readFrame o_t_readPairs o_t_readPair o_t_end o_t_sent o_t_firstSent o_t_wasEnd o_t_wasSent o_t_guesses o_t_guessHouse o_t_guessWorth o_t_booked o_t_book o_t_images o_t_isKept i_t_places i_t_words i_t_letters i_t_law f_t_isStanding rv z_i_t_changes z_f_t_steps z_f_t_queue z_f_t_change C0 hA hK (fun v1_9 v2_10 v3_11 z_12 z_13 z_14 z_15 H locs hf hP hD hS ls hl => ?_) FU p1 p2 p3 0 i_t_changes f_t_steps f_t_queue f_t_change hf _ _ hP hD hS _ (lv_sub hl [1, 2, 3, 4, 0] rfl)
      refine lv_aload_n hx hb dX9_fewest_45 rfl (lv_at hl 0 rfl) ?_
      refine va_get (D := D) (ci := 9) (v := .ref a_t_steps) (C := RX9) (T := TX9) (N := 55) hx hb hts uX9_fewest_X9 hown hK.1.1 hP 0 rfl rfl 42 (by decide) (hts _ mX9_fewest_66) (fun _ h9 => h9) rfl dX9_fewest_46 ?_
      refine lv_iload_n hx hb dX9_fewest_49 rfl (lv_at hl 1 rfl) ?_
      refine lv_iconst (v := 0) hx hb dX9_fewest_50 (by decide) ?_
      obtain ⟨hg_16, hf⟩ := hb_g hf
      refine va_iast hx hb hK.1.1 hP hD hS 1 0 rfl rfl (ixb_in hg_16) dX9_fewest_51 (fun H locs hP hD hS => ?_)
      have hP : va_P D vwCl [(a_t, .inr (9, [.int i_t_places, .int i_t_words, o_t_kind, o_t_worths, o_t_frames, o_t_frame, o_t_pairs, o_t_pair, .int i_t_letters, o_t_standing, .ref a_t_isStanding, o_t_worthOf, .int i_t_law, o_t_way, o_t_letter, o_t_turn, o_t_isSettled, o_t_had, o_t_logged, o_t_logWho, o_t_logFrom, o_t_logTo, o_t_seed, o_t_text, o_t_texted, o_t_faultPlace, o_t_at0, o_t_said, o_t_wordEnd, o_t_number, o_t_numberAt, o_t_readPlaces, o_t_readWords, o_t_readKind, o_t_readWorth, o_t_readFrames, o_t_readFrame, o_t_readPairs, o_t_readPair, .int z_12, .ref a_t_change, .ref a_t_queue, .ref a_t_steps, o_t_end, o_t_sent, o_t_firstSent, o_t_wasEnd, o_t_wasSent, o_t_guesses, o_t_guessHouse, o_t_guessWorth, o_t_booked, o_t_book, o_t_images, o_t_isKept])), (a_t_steps, .inl (cy 0, 4096, .inl (upd z_13 (v1_9 : Int32).toNatClampNeg 0))), (a_t_queue, .inl (cy 0, 4096, .inl z_14)), (a_t_change, .inl (cy 0, 40, .inl z_15)), (a_t_isStanding, .inl (cy 2, 4096, .inl f_t_isStanding))] H := hP
      have hD : va_D A [(a_t, .inr (9, [.int i_t_places, .int i_t_words, o_t_kind, o_t_worths, o_t_frames, o_t_frame, o_t_pairs, o_t_pair, .int i_t_letters, o_t_standing, .ref a_t_isStanding, o_t_worthOf, .int i_t_law, o_t_way, o_t_letter, o_t_turn, o_t_isSettled, o_t_had, o_t_logged, o_t_logWho, o_t_logFrom, o_t_logTo, o_t_seed, o_t_text, o_t_texted, o_t_faultPlace, o_t_at0, o_t_said, o_t_wordEnd, o_t_number, o_t_numberAt, o_t_readPlaces, o_t_readWords, o_t_readKind, o_t_readWorth, o_t_readFrames, o_t_readFrame, o_t_readPairs, o_t_readPair, .int z_12, .ref a_t_change, .ref a_t_queue, .ref a_t_steps, o_t_end, o_t_sent, o_t_firstSent, o_t_wasEnd, o_t_wasSent, o_t_guesses, o_t_guessHouse, o_t_guessWorth, o_t_booked, o_t_book, o_t_images, o_t_isKept])), (a_t_steps, .inl (cy 0, 4096, .inl (upd z_13 (v1_9 : Int32).toNatClampNeg 0))), (a_t_queue, .inl (cy 0, 4096, .inl z_14)), (a_t_change, .inl (cy 0, 40, .inl z_15)), (a_t_isStanding, .inl (cy 2, 4096, .inl f_t_isStanding))] := hD
      refine lv_aload_n hx hb dX9_fewest_52 rfl (lv_at hl 0 rfl) ?_
      refine va_get (D := D) (ci := 9) (v := .ref a_t_queue) (C := RX9) (T := TX9) (N := 55) hx hb hts uX9_fewest_X9 hown hK.1.1 hP 0 rfl rfl 41 (by decide) (hts _ mX9_fewest_63) (fun _ h9 => h9) rfl dX9_fewest_53 ?_
      refine lv_iconst (v := 0) hx hb dX9_fewest_56 (by decide) ?_
      refine lv_iload_n hx hb dX9_fewest_57 rfl (lv_at hl 1 rfl) ?_
      obtain ⟨hg_17, hf⟩ := hb_g hf
      refine va_iast hx hb hK.1.1 hP hD hS 2 0 rfl rfl (ixb_in hg_17) dX9_fewest_58 (fun H locs hP hD hS => ?_)
      have hP : va_P D vwCl [(a_t, .inr (9, [.int i_t_places, .int i_t_words, o_t_kind, o_t_worths, o_t_frames, o_t_frame, o_t_pairs, o_t_pair, .int i_t_letters, o_t_standing, .ref a_t_isStanding, o_t_worthOf, .int i_t_law, o_t_way, o_t_letter, o_t_turn, o_t_isSettled, o_t_had, o_t_logged, o_t_logWho, o_t_logFrom, o_t_logTo, o_t_seed, o_t_text, o_t_texted, o_t_faultPlace, o_t_at0, o_t_said, o_t_wordEnd, o_t_number, o_t_numberAt, o_t_readPlaces, o_t_readWords, o_t_readKind, o_t_readWorth, o_t_readFrames, o_t_readFrame, o_t_readPairs, o_t_readPair, .int z_12, .ref a_t_change, .ref a_t_queue, .ref a_t_steps, o_t_end, o_t_sent, o_t_firstSent, o_t_wasEnd, o_t_wasSent, o_t_guesses, o_t_guessHouse, o_t_guessWorth, o_t_booked, o_t_book, o_t_images, o_t_isKept])), (a_t_steps, .inl (cy 0, 4096, .inl (upd z_13 (v1_9 : Int32).toNatClampNeg 0))), (a_t_queue, .inl (cy 0, 4096, .inl (upd z_14 (0 : Int32).toNatClampNeg v1_9))), (a_t_change, .inl (cy 0, 40, .inl z_15)), (a_t_isStanding, .inl (cy 2, 4096, .inl f_t_isStanding))] H := hP
      have hD : va_D A [(a_t, .inr (9, [.int i_t_places, .int i_t_words, o_t_kind, o_t_worths, o_t_frames, o_t_frame, o_t_pairs, o_t_pair, .int i_t_letters, o_t_standing, .ref a_t_isStanding, o_t_worthOf, .int i_t_law, o_t_way, o_t_letter, o_t_turn, o_t_isSettled, o_t_had, o_t_logged, o_t_logWho, o_t_logFrom, o_t_logTo, o_t_seed, o_t_text, o_t_texted, o_t_faultPlace, o_t_at0, o_t_said, o_t_wordEnd, o_t_number, o_t_numberAt, o_t_readPlaces, o_t_readWords, o_t_readKind, o_t_readWorth, o_t_readFrames, o_t_readFrame, o_t_readPairs, o_t_readPair, .int z_12, .ref a_t_change, .ref a_t_queue, .ref a_t_steps, o_t_end, o_t_sent, o_t_firstSent, o_t_wasEnd, o_t_wasSent, o_t_guesses, o_t_guessHouse, o_t_guessWorth, o_t_booked, o_t_book, o_t_images, o_t_isKept])), (a_t_steps, .inl (cy 0, 4096, .inl (upd z_13 (v1_9 : Int32).toNatClampNeg 0))), (a_t_queue, .inl (cy 0, 4096, .inl (upd z_14 (0 : Int32).toNatClampNeg v1_9))), (a_t_change, .inl (cy 0, 40, .inl z_15)), (a_t_isStanding, .inl (cy 2, 4096, .inl f_t_isStanding))] := hD
      refine lv_iconst (v := 0) hx hb dX9_fewest_59 (by decide) ?_
      refine lv_istore (lv' := [(4, .int 0), (0, .ref a_t), (1, .int v1_9), (2, .int v2_10), (3, .int v3_11)]) hx hb dX9_fewest_60 hl (by decide) rfl (fun ls hl => ?_)
      refine lv_iconst (v := 1) hx hb dX9_fewest_62 (by decide) ?_
      refine lv_istore (lv' := [(5, .int 1), (4, .int 0), (0, .ref a_t), (1, .int v1_9), (2, .int v2_10), (3, .int v3_11)]) hx hb dX9_fewest_63 hl (by decide) rfl (fun ls hl => ?_)
      refine L_X9_fewest_65 l D cy a_t a_t_steps a_t_queue a_t_change a_t_isStanding o_t_kind o_t_worths o_t_frames o_t_frame o_t_pairs o_t_pair o_t_standing o_t_worthOf o_t_way o_t_letter o_t_turn o_t_isSettled o_t_had o_t_logged o_t_logWho o_t_logFrom o_t_logTo o_t_seed o_t_text o_t_texted o_t_faultPlace o_t_at0 o_t_said o_t_wordEnd o_t_number o_t_numberAt o_t_readPlaces o_t_readWords o_t_readKind o_t_readWorth o_t_readFrames o_t_readFrame o_t_readPairs o_t_readPair o_t_end o_t_sent o_t_firstSent o_t_wasEnd o_t_wasSent o_t_guesses o_t_guessHouse o_t_guessWorth o_t_booked o_t_book o_t_images o_t_isKept i_t_places i_t_words i_t_letters i_t_law f_t_isStanding rv z_i_t_changes z_f_t_steps z_f_t_queue z_f_t_change C0 hA hK hret  FU v1_9 v2_10 v3_11 0 1 z_12 (upd z_13 (v1_9 : Int32).toNatClampNeg 0) (upd z_14 (0 : Int32).toNatClampNeg v1_9) z_15 hf _ _ hP hD hS _ (lv_sub hl [2, 3, 4, 5, 1, 0] rfl)
    · have hf := hb_t hf c_6
      refine lv_ldc (v := (-1000000002)) hx hb hown (hts _ mX9_fewest_118) dX9_fewest_16 ?_
      obtain ⟨e_0, e_1, e_2, e_3, e_4⟩ := tu5 hf
      subst e_0; subst e_1; subst e_2; subst e_3; subst e_4
      exact hret _ _ _ _ dX9_fewest_18 rfl hP hS
theorem mX9_isStill_255 : Cond.fieldLink RX9 255 "OneWordLettersModel" "way" "I" ∈ wsX9_isStill := by decide +kernel
theorem uX9_isStill_X9 : ∀ w ∈ wsX90, w ∈ wsX9_isStill := fun _ h => List.mem_cons_of_mem _ (List.mem_append_right _ h)
theorem mX9_isStill_22 : Cond.fieldLink RX9 22 "OneWordLettersModel" "isStanding" "[Z" ∈ wsX9_isStill := by decide +kernel
theorem mX9_isStill_270 : Cond.fieldLink RX9 270 "OneWordLettersModel" "changes" "I" ∈ wsX9_isStill := by decide +kernel
theorem mX9_isStill_26 : Cond.fieldLink RX9 26 "OneWordLettersModel" "worthOf" "[I" ∈ wsX9_isStill := by decide +kernel
theorem mX9_isStill_60 : Cond.fieldLink RX9 60 "OneWordLettersModel" "change" "[I" ∈ wsX9_isStill := by decide +kernel
abbrev rmX9_isStill : Room := { frames := 3, cells := 0, slots := 0, locals := 70 }
def f_X9_isStill_L27 (i_t_places : Int32) (i_t_words : Int32) (i_t_law : Int32) (i_t_way : Int32) (f_t_isStanding : Nat → Int32) (f_t_worthOf : Nat → Int32) : Nat → Int32 → Int32 → Int32 → Int32 → (Nat → Int32) → Option (Int32 × Int32 × (Nat → Int32))
  | 0, _, _, _, _, _ => none
  | n + 1, v1, v2, v3, i_t_changes, f_t_change =>
    if i_t_changes ≤ v3 then
      if zb v2 = true then
      some (v2, i_t_changes, f_t_change)
      else none
    else
      if v2 = 0 then
        f_X9_isStill_L27 i_t_places i_t_words i_t_law i_t_way f_t_isStanding f_t_worthOf n v1 0 (v3 + 1) i_t_changes f_t_change
      else
        if ixb v3 40 = true then
        if ixb (2 * (f_t_change (v3 : Int32).toNatClampNeg)) 8192 = true then
        if ixb (2 * v1) 8192 = true then
        if (f_t_worthOf ((2 * v1) : Int32).toNatClampNeg) < (f_t_worthOf ((2 * (f_t_change (v3 : Int32).toNatClampNeg)) : Int32).toNatClampNeg) then
          f_X9_isStill_L27 i_t_places i_t_words i_t_law i_t_way f_t_isStanding f_t_worthOf n v1 0 (v3 + 1) i_t_changes f_t_change
        else
          if ixb v3 40 = true then
          if ixb ((2 * (f_t_change (v3 : Int32).toNatClampNeg)) + 1) 8192 = true then
          if ixb ((2 * v1) + 1) 8192 = true then
          if (f_t_worthOf (((2 * v1) + 1) : Int32).toNatClampNeg) < (f_t_worthOf (((2 * (f_t_change (v3 : Int32).toNatClampNeg)) + 1) : Int32).toNatClampNeg) then
            f_X9_isStill_L27 i_t_places i_t_words i_t_law i_t_way f_t_isStanding f_t_worthOf n v1 0 (v3 + 1) i_t_changes f_t_change
          else
            f_X9_isStill_L27 i_t_places i_t_words i_t_law i_t_way f_t_isStanding f_t_worthOf n v1 1 (v3 + 1) i_t_changes f_t_change
          else none
          else none
          else none
        else none
        else none
        else none
set_option maxRecDepth 100000 in
set_option maxHeartbeats 4000000 in
theorem L_X9_isStill_27 {p : Program} {e : Env} {s : State} {m : MethodId} {args : Array Value} {below : List Frame} {meth : Method} {c : Code} {Q : State → Prop} {A : Nat → Prop} (l : Launch) (D : va_G) (cy : Nat → ClassId) (a_t : Nat) (a_t_change : Nat) (a_t_isStanding : Nat) (a_t_worthOf : Nat) (o_t_kind : Value) (o_t_worths : Value) (o_t_frames : Value) (o_t_frame : Value) (o_t_pairs : Value) (o_t_pair : Value) (o_t_letters : Value) (o_t_standing : Value) (o_t_letter : Value) (o_t_turn : Value) (o_t_isSettled : Value) (o_t_had : Value) (o_t_logged : Value) (o_t_logWho : Value) (o_t_logFrom : Value) (o_t_logTo : Value) (o_t_seed : Value) (o_t_text : Value) (o_t_texted : Value) (o_t_faultPlace : Value) (o_t_at0 : Value) (o_t_said : Value) (o_t_wordEnd : Value) (o_t_number : Value) (o_t_numberAt : Value) (o_t_readPlaces : Value) (o_t_readWords : Value) (o_t_readKind : Value) (o_t_readWorth : Value) (o_t_readFrames : Value) (o_t_readFrame : Value) (o_t_readPairs : Value) (o_t_readPair : Value) (o_t_queue : Value) (o_t_steps : Value) (o_t_end : Value) (o_t_sent : Value) (o_t_firstSent : Value) (o_t_wasEnd : Value) (o_t_wasSent : Value) (o_t_guesses : Value) (o_t_guessHouse : Value) (o_t_guessWorth : Value) (o_t_booked : Value) (o_t_book : Value) (o_t_images : Value) (o_t_isKept : Value) (i_t_places : Int32) (i_t_words : Int32) (i_t_law : Int32) (i_t_way : Int32) (f_t_isStanding : Nat → Int32) (f_t_worthOf : Nat → Int32) (rv : Int32) (z_i_t_changes : Int32) (z_f_t_change : Nat → Int32) (C0 : CX p s m args meth c cX9_isStill 4 (some .boolean) wsX9_isStill RX9) (hA : ∀ q, s.heap.size ≤ q → A q) (hK : KZ D cy A s) (hret : ∀ (H : Heap) (locs : List Loc) (ls : Array Slot) (pc : Nat), decode cX9_isStill pc = .ok (.ireturn, 1) → narrow .boolean (.int rv) = .int rv → va_P D vwCl [(a_t, .inr (9, [.int i_t_places, .int i_t_words, o_t_kind, o_t_worths, o_t_frames, o_t_frame, o_t_pairs, o_t_pair, o_t_letters, o_t_standing, .ref a_t_isStanding, .ref a_t_worthOf, .int i_t_law, .int i_t_way, o_t_letter, o_t_turn, o_t_isSettled, o_t_had, o_t_logged, o_t_logWho, o_t_logFrom, o_t_logTo, o_t_seed, o_t_text, o_t_texted, o_t_faultPlace, o_t_at0, o_t_said, o_t_wordEnd, o_t_number, o_t_numberAt, o_t_readPlaces, o_t_readWords, o_t_readKind, o_t_readWorth, o_t_readFrames, o_t_readFrame, o_t_readPairs, o_t_readPair, .int z_i_t_changes, .ref a_t_change, o_t_queue, o_t_steps, o_t_end, o_t_sent, o_t_firstSent, o_t_wasEnd, o_t_wasSent, o_t_guesses, o_t_guessHouse, o_t_guessWorth, o_t_booked, o_t_book, o_t_images, o_t_isKept])), (a_t_change, .inl (cy 0, 40, .inl z_f_t_change)), (a_t_isStanding, .inl (cy 2, 4096, .inl f_t_isStanding)), (a_t_worthOf, .inl (cy 0, 8192, .inl f_t_worthOf))] H → va_S A s.heap H locs → W p l e rmX9_isStill s m args below meth c H locs 0 0 Q (F0 m pc ls [.int rv])) : ∀ (n : Nat) (v1 : Int32) (v2 : Int32) (v3 : Int32) (i_t_changes : Int32) (f_t_change : Nat → Int32), f_X9_isStill_L27 i_t_places i_t_words i_t_law i_t_way f_t_isStanding f_t_worthOf n v1 v2 v3 i_t_changes f_t_change = some (rv, z_i_t_changes, z_f_t_change) → ∀ (H : Heap) (locs : List Loc), va_P D vwCl [(a_t, .inr (9, [.int i_t_places, .int i_t_words, o_t_kind, o_t_worths, o_t_frames, o_t_frame, o_t_pairs, o_t_pair, o_t_letters, o_t_standing, .ref a_t_isStanding, .ref a_t_worthOf, .int i_t_law, .int i_t_way, o_t_letter, o_t_turn, o_t_isSettled, o_t_had, o_t_logged, o_t_logWho, o_t_logFrom, o_t_logTo, o_t_seed, o_t_text, o_t_texted, o_t_faultPlace, o_t_at0, o_t_said, o_t_wordEnd, o_t_number, o_t_numberAt, o_t_readPlaces, o_t_readWords, o_t_readKind, o_t_readWorth, o_t_readFrames, o_t_readFrame, o_t_readPairs, o_t_readPair, .int i_t_changes, .ref a_t_change, o_t_queue, o_t_steps, o_t_end, o_t_sent, o_t_firstSent, o_t_wasEnd, o_t_wasSent, o_t_guesses, o_t_guessHouse, o_t_guessWorth, o_t_booked, o_t_book, o_t_images, o_t_isKept])), (a_t_change, .inl (cy 0, 40, .inl f_t_change)), (a_t_isStanding, .inl (cy 2, 4096, .inl f_t_isStanding)), (a_t_worthOf, .inl (cy 0, 8192, .inl f_t_worthOf))] H → va_D A [(a_t, .inr (9, [.int i_t_places, .int i_t_words, o_t_kind, o_t_worths, o_t_frames, o_t_frame, o_t_pairs, o_t_pair, o_t_letters, o_t_standing, .ref a_t_isStanding, .ref a_t_worthOf, .int i_t_law, .int i_t_way, o_t_letter, o_t_turn, o_t_isSettled, o_t_had, o_t_logged, o_t_logWho, o_t_logFrom, o_t_logTo, o_t_seed, o_t_text, o_t_texted, o_t_faultPlace, o_t_at0, o_t_said, o_t_wordEnd, o_t_number, o_t_numberAt, o_t_readPlaces, o_t_readWords, o_t_readKind, o_t_readWorth, o_t_readFrames, o_t_readFrame, o_t_readPairs, o_t_readPair, .int i_t_changes, .ref a_t_change, o_t_queue, o_t_steps, o_t_end, o_t_sent, o_t_firstSent, o_t_wasEnd, o_t_wasSent, o_t_guesses, o_t_guessHouse, o_t_guessWorth, o_t_booked, o_t_book, o_t_images, o_t_isKept])), (a_t_change, .inl (cy 0, 40, .inl f_t_change)), (a_t_isStanding, .inl (cy 2, 4096, .inl f_t_isStanding)), (a_t_worthOf, .inl (cy 0, 8192, .inl f_t_worthOf))] → va_S A s.heap H locs → ∀ ls : Array Slot, lv_has ls 4 [(0, .ref a_t), (1, .int v1), (2, .int v2), (3, .int v3)] → W p l e rmX9_isStill s m args below meth c H locs 0 0 Q (F0 m 27 ls []) := by
  obtain ⟨hx, hb, hr, hml, hown, hts, hlocks⟩ := id C0
  intro n
  induction n with
  | zero => intro _ _ _ _ _ hf; rw [f_X9_isStill_L27.eq_1] at hf; cases hf
  | succ n ih =>
    intro v1 v2 v3 i_t_changes f_t_change hf H locs hP hD hS ls hl
    rw [f_X9_isStill_L27.eq_2] at hf
    refine lv_iload_n hx hb dX9_isStill_27 rfl (lv_at hl 3 rfl) ?_
    refine lv_aload_n hx hb dX9_isStill_28 rfl (lv_at hl 0 rfl) ?_
    refine va_get (D := D) (ci := 9) (v := .int i_t_changes) (C := RX9) (T := TX9) (N := 55) hx hb hts uX9_isStill_X9 hown hK.1.1 hP 0 rfl rfl 39 (by decide) (hts _ mX9_isStill_270) (fun _ h9 => h9) rfl dX9_isStill_29 ?_
    refine lv_icmp_ge (tgt := 103) hx hb dX9_isStill_32 (by decide) (fun c_6 => ?_) (fun c_6 => ?_)
    · have hf := hb_t hf c_6
      refine lv_iload_n hx hb dX9_isStill_103 rfl (lv_at hl 2 rfl) ?_
      obtain ⟨hg_7, hf⟩ := hb_g hf
      obtain ⟨e_0, e_1, e_2⟩ := tu3 hf
      subst e_0; subst e_1; subst e_2
      exact hret _ _ _ _ dX9_isStill_104 (zb_n hg_7) hP hS
    · have hf := hb_f hf c_6
      refine lv_iload_n hx hb dX9_isStill_35 rfl (lv_at hl 2 rfl) ?_
      refine lv_if_eq (tgt := 95) hx hb dX9_isStill_36 (by decide) (fun c_8 => ?_) (fun c_8 => ?_)
      · have hf := hb_t hf c_8
        refine lv_iconst (v := 0) hx hb dX9_isStill_95 (by decide) ?_
        refine lv_istore_n (lv' := [(2, .int 0), (0, .ref a_t), (1, .int v1), (3, .int v3)]) hx hb dX9_isStill_96 rfl hl (by decide) rfl (fun ls hl => ?_)
        refine lv_iinc (v := (v3 + 1)) (lv' := [(3, .int (v3 + 1)), (2, .int 0), (0, .ref a_t), (1, .int v1)]) hx hb dX9_isStill_97 hl (k := 3) rfl rfl (by decide) rfl (fun ls hl => ?_)
        refine lv_goto (tgt := 27) hx hb dX9_isStill_100 (by decide) ?_
        exact ih v1 0 (v3 + 1) i_t_changes f_t_change hf _ _ hP hD hS _ (lv_sub hl [2, 3, 1, 0] rfl)
      · have hf := hb_f hf c_8
        refine lv_aload_n hx hb dX9_isStill_39 rfl (lv_at hl 0 rfl) ?_
        refine va_get (D := D) (ci := 9) (v := .ref a_t_worthOf) (C := RX9) (T := TX9) (N := 55) hx hb hts uX9_isStill_X9 hown hK.1.1 hP 0 rfl rfl 11 (by decide) (hts _ mX9_isStill_26) (fun _ h9 => h9) rfl dX9_isStill_40 ?_
        refine lv_iconst (v := 2) hx hb dX9_isStill_43 (by decide) ?_
        refine lv_aload_n hx hb dX9_isStill_44 rfl (lv_at hl 0 rfl) ?_
        refine va_get (D := D) (ci := 9) (v := .ref a_t_change) (C := RX9) (T := TX9) (N := 55) hx hb hts uX9_isStill_X9 hown hK.1.1 hP 0 rfl rfl 40 (by decide) (hts _ mX9_isStill_60) (fun _ h9 => h9) rfl dX9_isStill_45 ?_
        refine lv_iload_n hx hb dX9_isStill_48 rfl (lv_at hl 3 rfl) ?_
        obtain ⟨hg_9, hf⟩ := hb_g hf
        refine va_iald hx hb hK.1.1 hP 1 0 rfl rfl (ixb_in hg_9) dX9_isStill_49 ?_
        refine lv_imul hx hb dX9_isStill_50 ?_
        obtain ⟨hg_10, hf⟩ := hb_g hf
        refine va_iald hx hb hK.1.1 hP 3 0 rfl rfl (ixb_in hg_10) dX9_isStill_51 ?_
        refine lv_aload_n hx hb dX9_isStill_52 rfl (lv_at hl 0 rfl) ?_
        refine va_get (D := D) (ci := 9) (v := .ref a_t_worthOf) (C := RX9) (T := TX9) (N := 55) hx hb hts uX9_isStill_X9 hown hK.1.1 hP 0 rfl rfl 11 (by decide) (hts _ mX9_isStill_26) (fun _ h9 => h9) rfl dX9_isStill_53 ?_
        refine lv_iconst (v := 2) hx hb dX9_isStill_56 (by decide) ?_
        refine lv_iload_n hx hb dX9_isStill_57 rfl (lv_at hl 1 rfl) ?_
        refine lv_imul hx hb dX9_isStill_58 ?_
        obtain ⟨hg_11, hf⟩ := hb_g hf
        refine va_iald hx hb hK.1.1 hP 3 0 rfl rfl (ixb_in hg_11) dX9_isStill_59 ?_
        refine lv_icmp_gt (tgt := 95) hx hb dX9_isStill_60 (by decide) (fun c_12 => ?_) (fun c_12 => ?_)
        · have hf := hb_t hf c_12
          refine lv_iconst (v := 0) hx hb dX9_isStill_95 (by decide) ?_
          refine lv_istore_n (lv' := [(2, .int 0), (0, .ref a_t), (1, .int v1), (3, .int v3)]) hx hb dX9_isStill_96 rfl hl (by decide) rfl (fun ls hl => ?_)
          refine lv_iinc (v := (v3 + 1)) (lv' := [(3, .int (v3 + 1)), (2, .int 0), (0, .ref a_t), (1, .int v1)]) hx hb dX9_isStill_97 hl (k := 3) rfl rfl (by decide) rfl (fun ls hl => ?_)
          refine lv_goto (tgt := 27) hx hb dX9_isStill_100 (by decide) ?_
          exact ih v1 0 (v3 + 1) i_t_changes f_t_change hf _ _ hP hD hS _ (lv_sub hl [2, 3, 1, 0] rfl)
        · have hf := hb_f hf c_12
          refine lv_aload_n hx hb dX9_isStill_63 rfl (lv_at hl 0 rfl) ?_
          refine va_get (D := D) (ci := 9) (v := .ref a_t_worthOf) (C := RX9) (T := TX9) (N := 55) hx hb hts uX9_isStill_X9 hown hK.1.1 hP 0 rfl rfl 11 (by decide) (hts _ mX9_isStill_26) (fun _ h9 => h9) rfl dX9_isStill_64 ?_
          refine lv_iconst (v := 2) hx hb dX9_isStill_67 (by decide) ?_
          refine lv_aload_n hx hb dX9_isStill_68 rfl (lv_at hl 0 rfl) ?_
          refine va_get (D := D) (ci := 9) (v := .ref a_t_change) (C := RX9) (T := TX9) (N := 55) hx hb hts uX9_isStill_X9 hown hK.1.1 hP 0 rfl rfl 40 (by decide) (hts _ mX9_isStill_60) (fun _ h9 => h9) rfl dX9_isStill_69 ?_
          refine lv_iload_n hx hb dX9_isStill_72 rfl (lv_at hl 3 rfl) ?_
          obtain ⟨hg_13, hf⟩ := hb_g hf
          refine va_iald hx hb hK.1.1 hP 1 0 rfl rfl (ixb_in hg_13) dX9_isStill_73 ?_
          refine lv_imul hx hb dX9_isStill_74 ?_
          refine lv_iconst (v := 1) hx hb dX9_isStill_75 (by decide) ?_
          refine lv_iadd hx hb dX9_isStill_76 ?_
          obtain ⟨hg_14, hf⟩ := hb_g hf
          refine va_iald hx hb hK.1.1 hP 3 0 rfl rfl (ixb_in hg_14) dX9_isStill_77 ?_
          refine lv_aload_n hx hb dX9_isStill_78 rfl (lv_at hl 0 rfl) ?_
          refine va_get (D := D) (ci := 9) (v := .ref a_t_worthOf) (C := RX9) (T := TX9) (N := 55) hx hb hts uX9_isStill_X9 hown hK.1.1 hP 0 rfl rfl 11 (by decide) (hts _ mX9_isStill_26) (fun _ h9 => h9) rfl dX9_isStill_79 ?_
          refine lv_iconst (v := 2) hx hb dX9_isStill_82 (by decide) ?_
          refine lv_iload_n hx hb dX9_isStill_83 rfl (lv_at hl 1 rfl) ?_
          refine lv_imul hx hb dX9_isStill_84 ?_
          refine lv_iconst (v := 1) hx hb dX9_isStill_85 (by decide) ?_
          refine lv_iadd hx hb dX9_isStill_86 ?_
          obtain ⟨hg_15, hf⟩ := hb_g hf
          refine va_iald hx hb hK.1.1 hP 3 0 rfl rfl (ixb_in hg_15) dX9_isStill_87 ?_
          refine lv_icmp_gt (tgt := 95) hx hb dX9_isStill_88 (by decide) (fun c_16 => ?_) (fun c_16 => ?_)
          · have hf := hb_t hf c_16
            refine lv_iconst (v := 0) hx hb dX9_isStill_95 (by decide) ?_
            refine lv_istore_n (lv' := [(2, .int 0), (0, .ref a_t), (1, .int v1), (3, .int v3)]) hx hb dX9_isStill_96 rfl hl (by decide) rfl (fun ls hl => ?_)
            refine lv_iinc (v := (v3 + 1)) (lv' := [(3, .int (v3 + 1)), (2, .int 0), (0, .ref a_t), (1, .int v1)]) hx hb dX9_isStill_97 hl (k := 3) rfl rfl (by decide) rfl (fun ls hl => ?_)
            refine lv_goto (tgt := 27) hx hb dX9_isStill_100 (by decide) ?_
            exact ih v1 0 (v3 + 1) i_t_changes f_t_change hf _ _ hP hD hS _ (lv_sub hl [2, 3, 1, 0] rfl)
          · have hf := hb_f hf c_16
            refine lv_iconst (v := 1) hx hb dX9_isStill_91 (by decide) ?_
            refine lv_goto (tgt := 96) hx hb dX9_isStill_92 (by decide) ?_
            refine lv_istore_n (lv' := [(2, .int 1), (0, .ref a_t), (1, .int v1), (3, .int v3)]) hx hb dX9_isStill_96 rfl hl (by decide) rfl (fun ls hl => ?_)
            refine lv_iinc (v := (v3 + 1)) (lv' := [(3, .int (v3 + 1)), (2, .int 1), (0, .ref a_t), (1, .int v1)]) hx hb dX9_isStill_97 hl (k := 3) rfl rfl (by decide) rfl (fun ls hl => ?_)
            refine lv_goto (tgt := 27) hx hb dX9_isStill_100 (by decide) ?_
            exact ih v1 1 (v3 + 1) i_t_changes f_t_change hf _ _ hP hD hS _ (lv_sub hl [2, 3, 1, 0] rfl)
def f_X9_isStill (i_t_places : Int32) (i_t_words : Int32) (i_t_law : Int32) (i_t_way : Int32) (f_t_isStanding : Nat → Int32) (f_t_worthOf : Nat → Int32) (i_t_changes : Int32) (f_t_change : Nat → Int32) (p1 : Int32) : Option (Int32 × Int32 × (Nat → Int32)) :=
  if i_t_way = 1 then
    (f_X9_findChanges i_t_places i_t_words i_t_law f_t_isStanding i_t_changes f_t_change p1 1).bind fun (z_17, z_18) =>
    if ixb p1 4096 = true then
    f_X9_isStill_L27 i_t_places i_t_words i_t_law i_t_way f_t_isStanding f_t_worthOf FU p1 (f_t_isStanding (p1 : Int32).toNatClampNeg) 0 z_17 z_18
    else none
  else
    (f_X9_findChanges i_t_places i_t_words i_t_law f_t_isStanding i_t_changes f_t_change p1 0).bind fun (z_2, z_3) =>
    if ixb p1 4096 = true then
    f_X9_isStill_L27 i_t_places i_t_words i_t_law i_t_way f_t_isStanding f_t_worthOf FU p1 (f_t_isStanding (p1 : Int32).toNatClampNeg) 0 z_2 z_3
    else none
set_option maxRecDepth 100000 in
set_option maxHeartbeats 4000000 in
theorem c_X9_isStill (l : Launch) (D : va_G) (cy : Nat → ClassId) (a_t : Nat) (a_t_change : Nat) (a_t_isStanding : Nat) (a_t_worthOf : Nat) (o_t_kind : Value) (o_t_worths : Value) (o_t_frames : Value) (o_t_frame : Value) (o_t_pairs : Value) (o_t_pair : Value) (o_t_letters : Value) (o_t_standing : Value) (o_t_letter : Value) (o_t_turn : Value) (o_t_isSettled : Value) (o_t_had : Value) (o_t_logged : Value) (o_t_logWho : Value) (o_t_logFrom : Value) (o_t_logTo : Value) (o_t_seed : Value) (o_t_text : Value) (o_t_texted : Value) (o_t_faultPlace : Value) (o_t_at0 : Value) (o_t_said : Value) (o_t_wordEnd : Value) (o_t_number : Value) (o_t_numberAt : Value) (o_t_readPlaces : Value) (o_t_readWords : Value) (o_t_readKind : Value) (o_t_readWorth : Value) (o_t_readFrames : Value) (o_t_readFrame : Value) (o_t_readPairs : Value) (o_t_readPair : Value) (o_t_queue : Value) (o_t_steps : Value) (o_t_end : Value) (o_t_sent : Value) (o_t_firstSent : Value) (o_t_wasEnd : Value) (o_t_wasSent : Value) (o_t_guesses : Value) (o_t_guessHouse : Value) (o_t_guessWorth : Value) (o_t_booked : Value) (o_t_book : Value) (o_t_images : Value) (o_t_isKept : Value) (i_t_places : Int32) (i_t_words : Int32) (i_t_law : Int32) (i_t_way : Int32) (f_t_isStanding : Nat → Int32) (f_t_worthOf : Nat → Int32) (i_t_changes : Int32) (f_t_change : Nat → Int32) (p1 : Int32) (rv : Int32) (z_i_t_changes : Int32) (z_f_t_change : Nat → Int32) (hf : f_X9_isStill i_t_places i_t_words i_t_law i_t_way f_t_isStanding f_t_worthOf i_t_changes f_t_change p1 = some (rv, z_i_t_changes, z_f_t_change)) : MI l D cy yX9_isStill wsX9_isStill rmX9_isStill [.ref a_t, .int p1] [(a_t, .inr (9, [.int i_t_places, .int i_t_words, o_t_kind, o_t_worths, o_t_frames, o_t_frame, o_t_pairs, o_t_pair, o_t_letters, o_t_standing, .ref a_t_isStanding, .ref a_t_worthOf, .int i_t_law, .int i_t_way, o_t_letter, o_t_turn, o_t_isSettled, o_t_had, o_t_logged, o_t_logWho, o_t_logFrom, o_t_logTo, o_t_seed, o_t_text, o_t_texted, o_t_faultPlace, o_t_at0, o_t_said, o_t_wordEnd, o_t_number, o_t_numberAt, o_t_readPlaces, o_t_readWords, o_t_readKind, o_t_readWorth, o_t_readFrames, o_t_readFrame, o_t_readPairs, o_t_readPair, .int i_t_changes, .ref a_t_change, o_t_queue, o_t_steps, o_t_end, o_t_sent, o_t_firstSent, o_t_wasEnd, o_t_wasSent, o_t_guesses, o_t_guessHouse, o_t_guessWorth, o_t_booked, o_t_book, o_t_images, o_t_isKept])), (a_t_change, .inl (cy 0, 40, .inl f_t_change)), (a_t_isStanding, .inl (cy 2, 4096, .inl f_t_isStanding)), (a_t_worthOf, .inl (cy 0, 8192, .inl f_t_worthOf))] [(a_t, .inr (9, [.int i_t_places, .int i_t_words, o_t_kind, o_t_worths, o_t_frames, o_t_frame, o_t_pairs, o_t_pair, o_t_letters, o_t_standing, .ref a_t_isStanding, .ref a_t_worthOf, .int i_t_law, .int i_t_way, o_t_letter, o_t_turn, o_t_isSettled, o_t_had, o_t_logged, o_t_logWho, o_t_logFrom, o_t_logTo, o_t_seed, o_t_text, o_t_texted, o_t_faultPlace, o_t_at0, o_t_said, o_t_wordEnd, o_t_number, o_t_numberAt, o_t_readPlaces, o_t_readWords, o_t_readKind, o_t_readWorth, o_t_readFrames, o_t_readFrame, o_t_readPairs, o_t_readPair, .int z_i_t_changes, .ref a_t_change, o_t_queue, o_t_steps, o_t_end, o_t_sent, o_t_firstSent, o_t_wasEnd, o_t_wasSent, o_t_guesses, o_t_guessHouse, o_t_guessWorth, o_t_booked, o_t_book, o_t_images, o_t_isKept])), (a_t_change, .inl (cy 0, 40, .inl z_f_t_change)), (a_t_isStanding, .inl (cy 2, 4096, .inl f_t_isStanding)), (a_t_worthOf, .inl (cy 0, 8192, .inl f_t_worthOf))] rv := by
  refine st_I (by decide) rfl (Nat.le_of_ble_eq_true rfl) (fun p e s m below meth c A Q ls C0 hA hK hP hD hS hl hret => ?_)
  obtain ⟨hx, hb, hr, hml, hown, hts, hlocks⟩ := id C0
  have hl : lv_has ls 4 [(0, .ref a_t), (1, .int p1)] := hl
  unfold f_X9_isStill at hf
  refine lv_aload_n hx hb dX9_isStill_0 rfl (lv_at hl 0 rfl) ?_
  refine lv_iload_n hx hb dX9_isStill_1 rfl (lv_at hl 1 rfl) ?_
  refine lv_aload_n hx hb dX9_isStill_2 rfl (lv_at hl 0 rfl) ?_
  refine va_get (D := D) (ci := 9) (v := .int i_t_way) (C := RX9) (T := TX9) (N := 55) hx hb hts uX9_isStill_X9 hown hK.1.1 hP 0 rfl rfl 13 (by decide) (hts _ mX9_isStill_255) (fun _ h9 => h9) rfl dX9_isStill_3 ?_
  refine lv_iconst (v := 1) hx hb dX9_isStill_6 (by decide) ?_
  refine lv_icmp_ne (tgt := 14) hx hb dX9_isStill_7 (by decide) (fun c_1 => ?_) (fun c_1 => ?_)
  · have hf := hb_f hf c_1
    refine lv_iconst (v := 0) hx hb dX9_isStill_14 (by decide) ?_
    obtain ⟨⟨z_2, z_3⟩, hc_4, hf⟩ := hb_b hf
    refine cl_Vv (rest := []) [0, 1, 2] 0 C0 hK hP hD hS hA (c_X9_findChanges l D cy a_t a_t_change a_t_isStanding o_t_kind o_t_worths o_t_frames o_t_frame o_t_pairs o_t_pair o_t_letters o_t_standing (.ref a_t_worthOf) (.int i_t_way) o_t_letter o_t_turn o_t_isSettled o_t_had o_t_logged o_t_logWho o_t_logFrom o_t_logTo o_t_seed o_t_text o_t_texted o_t_faultPlace o_t_at0 o_t_said o_t_wordEnd o_t_number o_t_numberAt o_t_readPlaces o_t_readWords o_t_readKind o_t_readWorth o_t_readFrames o_t_readFrame o_t_readPairs o_t_readPair o_t_queue o_t_steps o_t_end o_t_sent o_t_firstSent o_t_wasEnd o_t_wasSent o_t_guesses o_t_guessHouse o_t_guessWorth o_t_booked o_t_book o_t_images o_t_isKept i_t_places i_t_words i_t_law f_t_isStanding i_t_changes f_t_change p1 0 z_2 z_3 hc_4) (cwV 2 hts gX9_isStill_X9_findChanges rfl rfl rfl (by decide +kernel) ⟨Nat.le_of_ble_eq_true rfl, Nat.le_of_ble_eq_true rfl⟩) rfl rfl rfl rfl rfl rfl rfl hl.1 rfl (Nat.le_of_ble_eq_true rfl) dX9_isStill_15 ⟨Nat.zero_le _, Nat.zero_le _⟩ (fun H locs hP hD hS => ?_)
    have hP : va_P D vwCl [(a_t, .inr (9, [.int i_t_places, .int i_t_words, o_t_kind, o_t_worths, o_t_frames, o_t_frame, o_t_pairs, o_t_pair, o_t_letters, o_t_standing, .ref a_t_isStanding, .ref a_t_worthOf, .int i_t_law, .int i_t_way, o_t_letter, o_t_turn, o_t_isSettled, o_t_had, o_t_logged, o_t_logWho, o_t_logFrom, o_t_logTo, o_t_seed, o_t_text, o_t_texted, o_t_faultPlace, o_t_at0, o_t_said, o_t_wordEnd, o_t_number, o_t_numberAt, o_t_readPlaces, o_t_readWords, o_t_readKind, o_t_readWorth, o_t_readFrames, o_t_readFrame, o_t_readPairs, o_t_readPair, .int z_2, .ref a_t_change, o_t_queue, o_t_steps, o_t_end, o_t_sent, o_t_firstSent, o_t_wasEnd, o_t_wasSent, o_t_guesses, o_t_guessHouse, o_t_guessWorth, o_t_booked, o_t_book, o_t_images, o_t_isKept])), (a_t_change, .inl (cy 0, 40, .inl z_3)), (a_t_isStanding, .inl (cy 2, 4096, .inl f_t_isStanding)), (a_t_worthOf, .inl (cy 0, 8192, .inl f_t_worthOf))] H := hP
    have hD : va_D A [(a_t, .inr (9, [.int i_t_places, .int i_t_words, o_t_kind, o_t_worths, o_t_frames, o_t_frame, o_t_pairs, o_t_pair, o_t_letters, o_t_standing, .ref a_t_isStanding, .ref a_t_worthOf, .int i_t_law, .int i_t_way, o_t_letter, o_t_turn, o_t_isSettled, o_t_had, o_t_logged, o_t_logWho, o_t_logFrom, o_t_logTo, o_t_seed, o_t_text, o_t_texted, o_t_faultPlace, o_t_at0, o_t_said, o_t_wordEnd, o_t_number, o_t_numberAt, o_t_readPlaces, o_t_readWords, o_t_readKind, o_t_readWorth, o_t_readFrames, o_t_readFrame, o_t_readPairs, o_t_readPair, .int z_2, .ref a_t_change, o_t_queue, o_t_steps, o_t_end, o_t_sent, o_t_firstSent, o_t_wasEnd, o_t_wasSent, o_t_guesses, o_t_guessHouse, o_t_guessWorth, o_t_booked, o_t_book, o_t_images, o_t_isKept])), (a_t_change, .inl (cy 0, 40, .inl z_3)), (a_t_isStanding, .inl (cy 2, 4096, .inl f_t_isStanding)), (a_t_worthOf, .inl (cy 0, 8192, .inl f_t_worthOf))] := hD
    refine lv_aload_n hx hb dX9_isStill_18 rfl (lv_at hl 0 rfl) ?_
    refine va_get (D := D) (ci := 9) (v := .ref a_t_isStanding) (C := RX9) (T := TX9) (N := 55) hx hb hts uX9_isStill_X9 hown hK.1.1 hP 0 rfl rfl 10 (by decide) (hts _ mX9_isStill_22) (fun _ h9 => h9) rfl dX9_isStill_19 ?_
    refine lv_iload_n hx hb dX9_isStill_22 rfl (lv_at hl 1 rfl) ?_
    obtain ⟨hg_5, hf⟩ := hb_g hf
    refine va_zald hx hb hK.1.1 hP 2 2 rfl rfl (ixb_in hg_5) dX9_isStill_23 ?_
    refine lv_istore_n (lv' := [(2, .int (f_t_isStanding (p1 : Int32).toNatClampNeg)), (0, .ref a_t), (1, .int p1)]) hx hb dX9_isStill_24 rfl hl (by decide) rfl (fun ls hl => ?_)
    refine lv_iconst (v := 0) hx hb dX9_isStill_25 (by decide) ?_
    refine lv_istore_n (lv' := [(3, .int 0), (2, .int (f_t_isStanding (p1 : Int32).toNatClampNeg)), (0, .ref a_t), (1, .int p1)]) hx hb dX9_isStill_26 rfl hl (by decide) rfl (fun ls hl => ?_)
    refine L_X9_isStill_27 l D cy a_t a_t_change a_t_isStanding a_t_worthOf o_t_kind o_t_worths o_t_frames o_t_frame o_t_pairs o_t_pair o_t_letters o_t_standing o_t_letter o_t_turn o_t_isSettled o_t_had o_t_logged o_t_logWho o_t_logFrom o_t_logTo o_t_seed o_t_text o_t_texted o_t_faultPlace o_t_at0 o_t_said o_t_wordEnd o_t_number o_t_numberAt o_t_readPlaces o_t_readWords o_t_readKind o_t_readWorth o_t_readFrames o_t_readFrame o_t_readPairs o_t_readPair o_t_queue o_t_steps o_t_end o_t_sent o_t_firstSent o_t_wasEnd o_t_wasSent o_t_guesses o_t_guessHouse o_t_guessWorth o_t_booked o_t_book o_t_images o_t_isKept i_t_places i_t_words i_t_law i_t_way f_t_isStanding f_t_worthOf rv z_i_t_changes z_f_t_change C0 hA hK hret  FU p1 (f_t_isStanding (p1 : Int32).toNatClampNeg) 0 z_2 z_3 hf _ _ hP hD hS _ (lv_sub hl [2, 3, 1, 0] rfl)
  · have hf := hb_t hf c_1
    refine lv_iconst (v := 1) hx hb dX9_isStill_10 (by decide) ?_
    refine lv_goto (tgt := 15) hx hb dX9_isStill_11 (by decide) ?_
    obtain ⟨⟨z_17, z_18⟩, hc_19, hf⟩ := hb_b hf
    refine cl_Vv (rest := []) [0, 1, 2] 0 C0 hK hP hD hS hA (c_X9_findChanges l D cy a_t a_t_change a_t_isStanding o_t_kind o_t_worths o_t_frames o_t_frame o_t_pairs o_t_pair o_t_letters o_t_standing (.ref a_t_worthOf) (.int i_t_way) o_t_letter o_t_turn o_t_isSettled o_t_had o_t_logged o_t_logWho o_t_logFrom o_t_logTo o_t_seed o_t_text o_t_texted o_t_faultPlace o_t_at0 o_t_said o_t_wordEnd o_t_number o_t_numberAt o_t_readPlaces o_t_readWords o_t_readKind o_t_readWorth o_t_readFrames o_t_readFrame o_t_readPairs o_t_readPair o_t_queue o_t_steps o_t_end o_t_sent o_t_firstSent o_t_wasEnd o_t_wasSent o_t_guesses o_t_guessHouse o_t_guessWorth o_t_booked o_t_book o_t_images o_t_isKept i_t_places i_t_words i_t_law f_t_isStanding i_t_changes f_t_change p1 1 z_17 z_18 hc_19) (cwV 2 hts gX9_isStill_X9_findChanges rfl rfl rfl (by decide +kernel) ⟨Nat.le_of_ble_eq_true rfl, Nat.le_of_ble_eq_true rfl⟩) rfl rfl rfl rfl rfl rfl rfl hl.1 rfl (Nat.le_of_ble_eq_true rfl) dX9_isStill_15 ⟨Nat.zero_le _, Nat.zero_le _⟩ (fun H locs hP hD hS => ?_)
    have hP : va_P D vwCl [(a_t, .inr (9, [.int i_t_places, .int i_t_words, o_t_kind, o_t_worths, o_t_frames, o_t_frame, o_t_pairs, o_t_pair, o_t_letters, o_t_standing, .ref a_t_isStanding, .ref a_t_worthOf, .int i_t_law, .int i_t_way, o_t_letter, o_t_turn, o_t_isSettled, o_t_had, o_t_logged, o_t_logWho, o_t_logFrom, o_t_logTo, o_t_seed, o_t_text, o_t_texted, o_t_faultPlace, o_t_at0, o_t_said, o_t_wordEnd, o_t_number, o_t_numberAt, o_t_readPlaces, o_t_readWords, o_t_readKind, o_t_readWorth, o_t_readFrames, o_t_readFrame, o_t_readPairs, o_t_readPair, .int z_17, .ref a_t_change, o_t_queue, o_t_steps, o_t_end, o_t_sent, o_t_firstSent, o_t_wasEnd, o_t_wasSent, o_t_guesses, o_t_guessHouse, o_t_guessWorth, o_t_booked, o_t_book, o_t_images, o_t_isKept])), (a_t_change, .inl (cy 0, 40, .inl z_18)), (a_t_isStanding, .inl (cy 2, 4096, .inl f_t_isStanding)), (a_t_worthOf, .inl (cy 0, 8192, .inl f_t_worthOf))] H := hP
    have hD : va_D A [(a_t, .inr (9, [.int i_t_places, .int i_t_words, o_t_kind, o_t_worths, o_t_frames, o_t_frame, o_t_pairs, o_t_pair, o_t_letters, o_t_standing, .ref a_t_isStanding, .ref a_t_worthOf, .int i_t_law, .int i_t_way, o_t_letter, o_t_turn, o_t_isSettled, o_t_had, o_t_logged, o_t_logWho, o_t_logFrom, o_t_logTo, o_t_seed, o_t_text, o_t_texted, o_t_faultPlace, o_t_at0, o_t_said, o_t_wordEnd, o_t_number, o_t_numberAt, o_t_readPlaces, o_t_readWords, o_t_readKind, o_t_readWorth, o_t_readFrames, o_t_readFrame, o_t_readPairs, o_t_readPair, .int z_17, .ref a_t_change, o_t_queue, o_t_steps, o_t_end, o_t_sent, o_t_firstSent, o_t_wasEnd, o_t_wasSent, o_t_guesses, o_t_guessHouse, o_t_guessWorth, o_t_booked, o_t_book, o_t_images, o_t_isKept])), (a_t_change, .inl (cy 0, 40, .inl z_18)), (a_t_isStanding, .inl (cy 2, 4096, .inl f_t_isStanding)), (a_t_worthOf, .inl (cy 0, 8192, .inl f_t_worthOf))] := hD
    refine lv_aload_n hx hb dX9_isStill_18 rfl (lv_at hl 0 rfl) ?_
    refine va_get (D := D) (ci := 9) (v := .ref a_t_isStanding) (C := RX9) (T := TX9) (N := 55) hx hb hts uX9_isStill_X9 hown hK.1.1 hP 0 rfl rfl 10 (by decide) (hts _ mX9_isStill_22) (fun _ h9 => h9) rfl dX9_isStill_19 ?_
    refine lv_iload_n hx hb dX9_isStill_22 rfl (lv_at hl 1 rfl) ?_
    obtain ⟨hg_20, hf⟩ := hb_g hf
    refine va_zald hx hb hK.1.1 hP 2 2 rfl rfl (ixb_in hg_20) dX9_isStill_23 ?_
    refine lv_istore_n (lv' := [(2, .int (f_t_isStanding (p1 : Int32).toNatClampNeg)), (0, .ref a_t), (1, .int p1)]) hx hb dX9_isStill_24 rfl hl (by decide) rfl (fun ls hl => ?_)
    refine lv_iconst (v := 0) hx hb dX9_isStill_25 (by decide) ?_
    refine lv_istore_n (lv' := [(3, .int 0), (2, .int (f_t_isStanding (p1 : Int32).toNatClampNeg)), (0, .ref a_t), (1, .int p1)]) hx hb dX9_isStill_26 rfl hl (by decide) rfl (fun ls hl => ?_)
    refine L_X9_isStill_27 l D cy a_t a_t_change a_t_isStanding a_t_worthOf o_t_kind o_t_worths o_t_frames o_t_frame o_t_pairs o_t_pair o_t_letters o_t_standing o_t_letter o_t_turn o_t_isSettled o_t_had o_t_logged o_t_logWho o_t_logFrom o_t_logTo o_t_seed o_t_text o_t_texted o_t_faultPlace o_t_at0 o_t_said o_t_wordEnd o_t_number o_t_numberAt o_t_readPlaces o_t_readWords o_t_readKind o_t_readWorth o_t_readFrames o_t_readFrame o_t_readPairs o_t_readPair o_t_queue o_t_steps o_t_end o_t_sent o_t_firstSent o_t_wasEnd o_t_wasSent o_t_guesses o_t_guessHouse o_t_guessWorth o_t_booked o_t_book o_t_images o_t_isKept i_t_places i_t_words i_t_law i_t_way f_t_isStanding f_t_worthOf rv z_i_t_changes z_f_t_change C0 hA hK hret  FU p1 (f_t_isStanding (p1 : Int32).toNatClampNeg) 0 z_17 z_18 hf _ _ hP hD hS _ (lv_sub hl [2, 3, 1, 0] rfl)
