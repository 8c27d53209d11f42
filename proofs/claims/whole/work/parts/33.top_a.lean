theorem mX8_feed_95 : Cond.constant RX8 95 (-1000000002) ∈ wsX8_feed := by decide +kernel
theorem mX8_feed_10 : Cond.fieldLink RX8 10 "OneWordLetters" "reader" "LOneWordLetters$Reader;" ∈ wsX8_feed := by decide +kernel
theorem uX8_feed_X8 : ∀ w ∈ wsX80, w ∈ wsX8_feed := fun _ h => List.mem_cons_of_mem _ (List.mem_append_left _ (List.mem_append_right _ h))
abbrev rmX8_feed : Room := { frames := 1, cells := 0, slots := 0, locals := 24 }
set_option maxRecDepth 100000 in
set_option maxHeartbeats 4000000 in
theorem c_X8_feed (l : Launch) (D : va_G) (cy : Nat → ClassId) (a_t : Nat) (a_t_reader : Nat) (a_t_reader_text : Nat) (o_t_spoken : Value) (o_t_spare : Value) (o_t_letters : Value) (o_t_now : Value) (o_t_images : Value) (o_t_kept : Value) (o_t_guesses : Value) (o_t_guessCount : Value) (o_t_book : Value) (o_t_changes : Value) (o_t_found : Value) (o_t_stillOnes : Value) (o_t_stillStamp : Value) (o_t_paths : Value) (o_t_foresight : Value) (o_t_reader_place : Value) (o_t_reader_start : Value) (o_t_reader_faultNumber : Value) (o_t_reader_faultByte : Value) (i_t_reader_length : Int32) (f_t_reader_text : Nat → Int32) (p1 : Int32) (p2 : Int64) (rv : Int32) (z_i_t_reader_length : Int32) (z_f_t_reader_text : Nat → Int32) (hf : f_X8_feed i_t_reader_length f_t_reader_text p1 p2 = some (rv, z_i_t_reader_length, z_f_t_reader_text)) : MI l D cy yX8_feed wsX8_feed rmX8_feed [.ref a_t, .int p1, .long p2] [(a_t, .inr (8, [.ref a_t_reader, o_t_spoken, o_t_spare, o_t_letters, o_t_now, o_t_images, o_t_kept, o_t_guesses, o_t_guessCount, o_t_book, o_t_changes, o_t_found, o_t_stillOnes, o_t_stillStamp, o_t_paths, o_t_foresight])), (a_t_reader, .inr (5, [.ref a_t_reader_text, .int i_t_reader_length, o_t_reader_place, o_t_reader_start, o_t_reader_faultNumber, o_t_reader_faultByte])), (a_t_reader_text, .inl (cy 1, 500, .inl f_t_reader_text))] [(a_t, .inr (8, [.ref a_t_reader, o_t_spoken, o_t_spare, o_t_letters, o_t_now, o_t_images, o_t_kept, o_t_guesses, o_t_guessCount, o_t_book, o_t_changes, o_t_found, o_t_stillOnes, o_t_stillStamp, o_t_paths, o_t_foresight])), (a_t_reader, .inr (5, [.ref a_t_reader_text, .int z_i_t_reader_length, o_t_reader_place, o_t_reader_start, o_t_reader_faultNumber, o_t_reader_faultByte])), (a_t_reader_text, .inl (cy 1, 500, .inl z_f_t_reader_text))] rv := by
  refine st_I (by decide) rfl (Nat.le_of_ble_eq_true rfl) (fun p e s m below meth c A Q ls C0 hA hK hP hD hS hl hret => ?_)
  obtain ⟨hx, hb, hr, hml, hown, hts, hlocks⟩ := id C0
  have hl : lv_has ls 4 [(0, .ref a_t), (1, .int p1), (2, .long p2)] := hl
  unfold f_X8_feed at hf
  refine lv_iload_n hx hb dX8_feed_0 rfl (lv_at hl 1 rfl) ?_
  refine lv_iconst (v := 1) hx hb dX8_feed_1 (by decide) ?_
  refine lv_icmp_lt (tgt := 11) hx hb dX8_feed_2 (by decide) (fun c_1 => ?_) (fun c_1 => ?_)
  · have hf := hb_t hf c_1
    refine lv_ldc (v := (-1000000002)) hx hb hown (hts _ mX8_feed_95) dX8_feed_11 ?_
    obtain ⟨e_0, e_1, e_2⟩ := tu3 hf
    subst e_0; subst e_1; subst e_2
    exact hret _ _ _ _ dX8_feed_13 rfl hP hS
  · have hf := hb_f hf c_1
    refine lv_iload_n hx hb dX8_feed_5 rfl (lv_at hl 1 rfl) ?_
    refine lv_bipush (v := 8) hx hb dX8_feed_6 (by decide) ?_
    refine lv_icmp_le (tgt := 14) hx hb dX8_feed_8 (by decide) (fun c_2 => ?_) (fun c_2 => ?_)
    · have hf := hb_t hf c_2
      refine lv_aload_n hx hb dX8_feed_14 rfl (lv_at hl 0 rfl) ?_
      refine va_get (D := D) (ci := 8) (v := .ref a_t_reader) (C := RX8) (T := TX8) (N := 16) hx hb hts uX8_feed_X8 hown hK.1.1 hP 0 rfl rfl 0 (by decide) (hts _ mX8_feed_10) (fun _ h9 => h9) rfl dX8_feed_15 ?_
      refine lv_iload_n hx hb dX8_feed_18 rfl (lv_at hl 1 rfl) ?_
      refine lv_lload_n hx hb dX8_feed_19 rfl (lv_at hl 2 rfl) ?_
      obtain ⟨⟨r_3, z_4, z_5⟩, hc_6, hf⟩ := hb_b hf
      refine cl_Vi (rest := []) [1, 2] [none, some 0, some 1] 3 1 C0 hK hP hD hS hA (c_X5_take l D cy a_t_reader a_t_reader_text o_t_reader_place o_t_reader_start o_t_reader_faultNumber o_t_reader_faultByte i_t_reader_length f_t_reader_text p1 p2 r_3 z_4 z_5 hc_6) (cwV 2 hts gX8_feed_X5_take rfl rfl rfl (by decide +kernel) ⟨Nat.le_of_ble_eq_true rfl, Nat.le_of_ble_eq_true rfl⟩) rfl (by decide) rfl rfl rfl rfl rfl rfl rfl hl.1 rfl (Nat.le_of_ble_eq_true rfl) dX8_feed_20 ⟨Nat.zero_le _, Nat.zero_le _⟩ (fun H locs hP hD hS => ?_)
      have hP : va_P D vwCl [(a_t, .inr (8, [.ref a_t_reader, o_t_spoken, o_t_spare, o_t_letters, o_t_now, o_t_images, o_t_kept, o_t_guesses, o_t_guessCount, o_t_book, o_t_changes, o_t_found, o_t_stillOnes, o_t_stillStamp, o_t_paths, o_t_foresight])), (a_t_reader, .inr (5, [.ref a_t_reader_text, .int z_4, o_t_reader_place, o_t_reader_start, o_t_reader_faultNumber, o_t_reader_faultByte])), (a_t_reader_text, .inl (cy 1, 500, .inl z_5))] H := hP
      have hD : va_D A [(a_t, .inr (8, [.ref a_t_reader, o_t_spoken, o_t_spare, o_t_letters, o_t_now, o_t_images, o_t_kept, o_t_guesses, o_t_guessCount, o_t_book, o_t_changes, o_t_found, o_t_stillOnes, o_t_stillStamp, o_t_paths, o_t_foresight])), (a_t_reader, .inr (5, [.ref a_t_reader_text, .int z_4, o_t_reader_place, o_t_reader_start, o_t_reader_faultNumber, o_t_reader_faultByte])), (a_t_reader_text, .inl (cy 1, 500, .inl z_5))] := hD
      obtain ⟨e_0, e_1, e_2⟩ := tu3 hf
      subst e_0; subst e_1; subst e_2
      exact hret _ _ _ _ dX8_feed_23 rfl hP hS
    · have hf := hb_f hf c_2
      refine lv_ldc (v := (-1000000002)) hx hb hown (hts _ mX8_feed_95) dX8_feed_11 ?_
      obtain ⟨e_0, e_1, e_2⟩ := tu3 hf
      subst e_0; subst e_1; subst e_2
      exact hret _ _ _ _ dX8_feed_13 rfl hP hS
theorem mX8_fault_10 : Cond.fieldLink RX8 10 "OneWordLetters" "reader" "LOneWordLetters$Reader;" ∈ wsX8_fault := by decide +kernel
theorem uX8_fault_X8 : ∀ w ∈ wsX80, w ∈ wsX8_fault := fun _ h => List.mem_cons_of_mem _ (List.mem_append_left _ (List.mem_append_right _ h))
theorem uX8_fault_X5 : ∀ w ∈ wsX50, w ∈ wsX8_fault := fun _ h => List.mem_cons_of_mem _ (List.mem_append_right _ h)
abbrev rmX8_fault : Room := { frames := 0, cells := 0, slots := 0, locals := 0 }
set_option maxRecDepth 100000 in
set_option maxHeartbeats 4000000 in
theorem c_X8_fault (l : Launch) (D : va_G) (cy : Nat → ClassId) (a_t : Nat) (a_t_reader : Nat) (o_t_spoken : Value) (o_t_spare : Value) (o_t_letters : Value) (o_t_now : Value) (o_t_images : Value) (o_t_kept : Value) (o_t_guesses : Value) (o_t_guessCount : Value) (o_t_book : Value) (o_t_changes : Value) (o_t_found : Value) (o_t_stillOnes : Value) (o_t_stillStamp : Value) (o_t_paths : Value) (o_t_foresight : Value) (o_t_reader_text : Value) (o_t_reader_length : Value) (o_t_reader_place : Value) (o_t_reader_start : Value) (o_t_reader_faultNumber : Value) (i_t_reader_faultByte : Int32) (rv : Int32) (hf : f_X8_fault i_t_reader_faultByte = some rv) : MI l D cy yX8_fault wsX8_fault rmX8_fault [.ref a_t] [(a_t, .inr (8, [.ref a_t_reader, o_t_spoken, o_t_spare, o_t_letters, o_t_now, o_t_images, o_t_kept, o_t_guesses, o_t_guessCount, o_t_book, o_t_changes, o_t_found, o_t_stillOnes, o_t_stillStamp, o_t_paths, o_t_foresight])), (a_t_reader, .inr (5, [o_t_reader_text, o_t_reader_length, o_t_reader_place, o_t_reader_start, o_t_reader_faultNumber, .int i_t_reader_faultByte]))] [(a_t, .inr (8, [.ref a_t_reader, o_t_spoken, o_t_spare, o_t_letters, o_t_now, o_t_images, o_t_kept, o_t_guesses, o_t_guessCount, o_t_book, o_t_changes, o_t_found, o_t_stillOnes, o_t_stillStamp, o_t_paths, o_t_foresight])), (a_t_reader, .inr (5, [o_t_reader_text, o_t_reader_length, o_t_reader_place, o_t_reader_start, o_t_reader_faultNumber, .int i_t_reader_faultByte]))] rv := by
  refine st_I (by decide) rfl (Nat.le_of_ble_eq_true rfl) (fun p e s m below meth c A Q ls C0 hA hK hP hD hS hl hret => ?_)
  obtain ⟨hx, hb, hr, hml, hown, hts, hlocks⟩ := id C0
  have hl : lv_has ls 1 [(0, .ref a_t)] := hl
  unfold f_X8_fault at hf
  refine lv_aload_n hx hb dX8_fault_0 rfl (lv_at hl 0 rfl) ?_
  refine va_get (D := D) (ci := 8) (v := .ref a_t_reader) (C := RX8) (T := TX8) (N := 16) hx hb hts uX8_fault_X8 hown hK.1.1 hP 0 rfl rfl 0 (by decide) (hts _ mX8_fault_10) (fun _ h9 => h9) rfl dX8_fault_1 ?_
  refine va_getN (D := D) (ci := 5) (v := .int i_t_reader_faultByte) (C := RX5) (T := TX5) (N := 6) hx hb hts uX8_fault_X5 hown hK.1.1 hP 1 rfl rfl 5 (by decide) (hK.1.nw _ nw_1) (fun _ h9 => h9) rfl dX8_fault_4 ?_
  have hf := Option.some.inj hf
  subst hf
  exact hret _ _ _ _ dX8_fault_7 rfl hP hS
theorem mX8_told_19 : Cond.fieldLink RX8 19 "OneWordLetters" "spoken" "LOneWordLetters$Tongue;" ∈ wsX8_told := by decide +kernel
theorem uX8_told_X8 : ∀ w ∈ wsX80, w ∈ wsX8_told := fun _ h => List.mem_cons_of_mem _ (List.mem_append_left _ (List.mem_append_left _ (List.mem_append_left _ (List.mem_append_left _ (List.mem_append_left _ (List.mem_append_right _ h))))))
theorem uX8_told_X7 : ∀ w ∈ wsX70, w ∈ wsX8_told := fun _ h => List.mem_cons_of_mem _ (List.mem_append_left _ (List.mem_append_left _ (List.mem_append_left _ (List.mem_append_left _ (List.mem_append_right _ h)))))
theorem mX8_told_10 : Cond.fieldLink RX8 10 "OneWordLetters" "reader" "LOneWordLetters$Reader;" ∈ wsX8_told := by decide +kernel
theorem uX8_told_X5 : ∀ w ∈ wsX50, w ∈ wsX8_told := fun _ h => List.mem_cons_of_mem _ (List.mem_append_left _ (List.mem_append_left _ (List.mem_append_left _ (List.mem_append_right _ h))))
theorem mX8_told_38 : Cond.fieldLink RX8 38 "OneWordLetters" "now" "LOneWordLetters$Course;" ∈ wsX8_told := by decide +kernel
theorem uX8_told_X0 : ∀ w ∈ wsX00, w ∈ wsX8_told := fun _ h => List.mem_cons_of_mem _ (List.mem_append_left _ (List.mem_append_left _ (List.mem_append_right _ h)))
theorem mX8_told_116 : Cond.fieldLink RX8 116 "OneWordLetters" "guessCount" "I" ∈ wsX8_told := by decide +kernel
theorem mX8_told_61 : Cond.fieldLink RX8 61 "OneWordLetters" "book" "LOneWordLetters$Row;" ∈ wsX8_told := by decide +kernel
theorem uX8_told_X6 : ∀ w ∈ wsX60, w ∈ wsX8_told := fun _ h => List.mem_cons_of_mem _ (List.mem_append_left _ (List.mem_append_right _ h))
theorem mX8_told_31 : Cond.fieldLink RX8 31 "OneWordLetters" "letters" "LOneWordLetters$Letters;" ∈ wsX8_told := by decide +kernel
theorem uX8_told_X3 : ∀ w ∈ wsX30, w ∈ wsX8_told := fun _ h => List.mem_cons_of_mem _ (List.mem_append_right _ h)
theorem mX8_told_95 : Cond.constant RX8 95 (-1000000002) ∈ wsX8_told := by decide +kernel
abbrev rmX8_told : Room := { frames := 0, cells := 0, slots := 0, locals := 0 }
set_option maxRecDepth 100000 in
set_option maxHeartbeats 4000000 in
theorem c_X8_told (l : Launch) (D : va_G) (cy : Nat → ClassId) (a_t : Nat) (a_t_spoken : Nat) (a_t_reader : Nat) (a_t_now : Nat) (a_t_book : Nat) (a_t_letters : Nat) (o_t_spare : Value) (o_t_images : Value) (o_t_kept : Value) (o_t_guesses : Value) (o_t_changes : Value) (o_t_found : Value) (o_t_stillOnes : Value) (o_t_stillStamp : Value) (o_t_paths : Value) (o_t_foresight : Value) (o_t_spoken_kinds : Value) (o_t_spoken_worths : Value) (o_t_spoken_framed : Value) (o_t_spoken_paired : Value) (o_t_spoken_pairWorths : Value) (o_t_spoken_scales : Value) (o_t_reader_text : Value) (o_t_reader_place : Value) (o_t_reader_start : Value) (o_t_reader_faultNumber : Value) (o_t_reader_faultByte : Value) (o_t_now_gained : Value) (o_t_now_entries : Value) (o_t_now_seed : Value) (o_t_book_letters : Value) (o_t_letters_tongue : Value) (o_t_letters_tongues : Value) (o_t_letters_size : Value) (o_t_letters_sense : Value) (o_t_letters_worthToOne : Value) (o_t_letters_worthToOther : Value) (i_t_guessCount : Int32) (i_t_spoken_length : Int32) (i_t_spoken_words : Int32) (i_t_spoken_frames : Int32) (i_t_spoken_pairs : Int32) (i_t_reader_length : Int32) (i_t_now_letter : Int32) (i_t_now_turn : Int32) (i_t_now_settled : Int32) (i_t_now_sent : Int32) (i_t_now_law : Int32) (i_t_now_way : Int32) (i_t_book_count : Int32) (i_t_letters_standing : Int32) (p1 : Int32) (rv : Int32) (hf : f_X8_told i_t_guessCount i_t_spoken_length i_t_spoken_words i_t_spoken_frames i_t_spoken_pairs i_t_reader_length i_t_now_letter i_t_now_turn i_t_now_settled i_t_now_sent i_t_now_law i_t_now_way i_t_book_count i_t_letters_standing p1 = some rv) : MI l D cy yX8_told wsX8_told rmX8_told [.ref a_t, .int p1] [(a_t, .inr (8, [.ref a_t_reader, .ref a_t_spoken, o_t_spare, .ref a_t_letters, .ref a_t_now, o_t_images, o_t_kept, o_t_guesses, .int i_t_guessCount, .ref a_t_book, o_t_changes, o_t_found, o_t_stillOnes, o_t_stillStamp, o_t_paths, o_t_foresight])), (a_t_spoken, .inr (7, [.int i_t_spoken_length, .int i_t_spoken_words, .int i_t_spoken_frames, .int i_t_spoken_pairs, o_t_spoken_kinds, o_t_spoken_worths, o_t_spoken_framed, o_t_spoken_paired, o_t_spoken_pairWorths, o_t_spoken_scales])), (a_t_reader, .inr (5, [o_t_reader_text, .int i_t_reader_length, o_t_reader_place, o_t_reader_start, o_t_reader_faultNumber, o_t_reader_faultByte])), (a_t_now, .inr (0, [.int i_t_now_letter, .int i_t_now_turn, .int i_t_now_settled, o_t_now_gained, o_t_now_entries, .int i_t_now_sent, .int i_t_now_law, .int i_t_now_way, o_t_now_seed])), (a_t_book, .inr (6, [o_t_book_letters, .int i_t_book_count])), (a_t_letters, .inr (3, [o_t_letters_tongue, o_t_letters_tongues, o_t_letters_size, .int i_t_letters_standing, o_t_letters_sense, o_t_letters_worthToOne, o_t_letters_worthToOther]))] [(a_t, .inr (8, [.ref a_t_reader, .ref a_t_spoken, o_t_spare, .ref a_t_letters, .ref a_t_now, o_t_images, o_t_kept, o_t_guesses, .int i_t_guessCount, .ref a_t_book, o_t_changes, o_t_found, o_t_stillOnes, o_t_stillStamp, o_t_paths, o_t_foresight])), (a_t_spoken, .inr (7, [.int i_t_spoken_length, .int i_t_spoken_words, .int i_t_spoken_frames, .int i_t_spoken_pairs, o_t_spoken_kinds, o_t_spoken_worths, o_t_spoken_framed, o_t_spoken_paired, o_t_spoken_pairWorths, o_t_spoken_scales])), (a_t_reader, .inr (5, [o_t_reader_text, .int i_t_reader_length, o_t_reader_place, o_t_reader_start, o_t_reader_faultNumber, o_t_reader_faultByte])), (a_t_now, .inr (0, [.int i_t_now_letter, .int i_t_now_turn, .int i_t_now_settled, o_t_now_gained, o_t_now_entries, .int i_t_now_sent, .int i_t_now_law, .int i_t_now_way, o_t_now_seed])), (a_t_book, .inr (6, [o_t_book_letters, .int i_t_book_count])), (a_t_letters, .inr (3, [o_t_letters_tongue, o_t_letters_tongues, o_t_letters_size, .int i_t_letters_standing, o_t_letters_sense, o_t_letters_worthToOne, o_t_letters_worthToOther]))] rv := by
  refine st_I (by decide) rfl (Nat.le_of_ble_eq_true rfl) (fun p e s m below meth c A Q ls C0 hA hK hP hD hS hl hret => ?_)
  obtain ⟨hx, hb, hr, hml, hown, hts, hlocks⟩ := id C0
  have hl : lv_has ls 2 [(0, .ref a_t), (1, .int p1)] := hl
  unfold f_X8_told at hf
  refine lv_iload_n hx hb dX8_told_0 rfl (lv_at hl 1 rfl) ?_
  by_cases c_1 : p1 = 0
  · have hf := hb_t hf c_1
    refine lv_tableIn (off := 71) (tgt := 72) hx hb dX8_told_1 (by rw [c_1]; decide) (by rw [c_1]; decide) (by rw [c_1]; rfl) (by decide) ?_
    refine lv_aload_n hx hb dX8_told_72 rfl (lv_at hl 0 rfl) ?_
    refine va_get (D := D) (ci := 8) (v := .ref a_t_spoken) (C := RX8) (T := TX8) (N := 16) hx hb hts uX8_told_X8 hown hK.1.1 hP 0 rfl rfl 1 (by decide) (hts _ mX8_told_19) (fun _ h9 => h9) rfl dX8_told_73 ?_
    refine va_getN (D := D) (ci := 7) (v := .int i_t_spoken_length) (C := RX7) (T := TX7) (N := 10) hx hb hts uX8_told_X7 hown hK.1.1 hP 1 rfl rfl 0 (by decide) (hK.1.nw _ nw_3) (fun _ h9 => h9) rfl dX8_told_76 ?_
    have hf := Option.some.inj hf
    subst hf
    exact hret _ _ _ _ dX8_told_79 rfl hP hS
  · have hf := hb_f hf c_1
    by_cases c_2 : p1 = 1
    · have hf := hb_t hf c_2
      refine lv_tableIn (off := 79) (tgt := 80) hx hb dX8_told_1 (by rw [c_2]; decide) (by rw [c_2]; decide) (by rw [c_2]; rfl) (by decide) ?_
      refine lv_aload_n hx hb dX8_told_80 rfl (lv_at hl 0 rfl) ?_
      refine va_get (D := D) (ci := 8) (v := .ref a_t_spoken) (C := RX8) (T := TX8) (N := 16) hx hb hts uX8_told_X8 hown hK.1.1 hP 0 rfl rfl 1 (by decide) (hts _ mX8_told_19) (fun _ h9 => h9) rfl dX8_told_81 ?_
      refine va_getN (D := D) (ci := 7) (v := .int i_t_spoken_words) (C := RX7) (T := TX7) (N := 10) hx hb hts uX8_told_X7 hown hK.1.1 hP 1 rfl rfl 1 (by decide) (hK.1.nw _ nw_5) (fun _ h9 => h9) rfl dX8_told_84 ?_
      have hf := Option.some.inj hf
      subst hf
      exact hret _ _ _ _ dX8_told_87 rfl hP hS
    · have hf := hb_f hf c_2
      by_cases c_3 : p1 = 2
      · have hf := hb_t hf c_3
        refine lv_tableIn (off := 87) (tgt := 88) hx hb dX8_told_1 (by rw [c_3]; decide) (by rw [c_3]; decide) (by rw [c_3]; rfl) (by decide) ?_
        refine lv_aload_n hx hb dX8_told_88 rfl (lv_at hl 0 rfl) ?_
        refine va_get (D := D) (ci := 8) (v := .ref a_t_spoken) (C := RX8) (T := TX8) (N := 16) hx hb hts uX8_told_X8 hown hK.1.1 hP 0 rfl rfl 1 (by decide) (hts _ mX8_told_19) (fun _ h9 => h9) rfl dX8_told_89 ?_
        refine va_getN (D := D) (ci := 7) (v := .int i_t_spoken_frames) (C := RX7) (T := TX7) (N := 10) hx hb hts uX8_told_X7 hown hK.1.1 hP 1 rfl rfl 2 (by decide) (hK.1.nw _ nw_8) (fun _ h9 => h9) rfl dX8_told_92 ?_
        have hf := Option.some.inj hf
        subst hf
        exact hret _ _ _ _ dX8_told_95 rfl hP hS
      · have hf := hb_f hf c_3
        by_cases c_4 : p1 = 3
        · have hf := hb_t hf c_4
          refine lv_tableIn (off := 95) (tgt := 96) hx hb dX8_told_1 (by rw [c_4]; decide) (by rw [c_4]; decide) (by rw [c_4]; rfl) (by decide) ?_
          refine lv_aload_n hx hb dX8_told_96 rfl (lv_at hl 0 rfl) ?_
          refine va_get (D := D) (ci := 8) (v := .ref a_t_spoken) (C := RX8) (T := TX8) (N := 16) hx hb hts uX8_told_X8 hown hK.1.1 hP 0 rfl rfl 1 (by decide) (hts _ mX8_told_19) (fun _ h9 => h9) rfl dX8_told_97 ?_
          refine va_getN (D := D) (ci := 7) (v := .int i_t_spoken_pairs) (C := RX7) (T := TX7) (N := 10) hx hb hts uX8_told_X7 hown hK.1.1 hP 1 rfl rfl 3 (by decide) (hK.1.nw _ nw_10) (fun _ h9 => h9) rfl dX8_told_100 ?_
          have hf := Option.some.inj hf
          subst hf
          exact hret _ _ _ _ dX8_told_103 rfl hP hS
        · have hf := hb_f hf c_4
          by_cases c_5 : p1 = 4
          · have hf := hb_t hf c_5
            refine lv_tableIn (off := 103) (tgt := 104) hx hb dX8_told_1 (by rw [c_5]; decide) (by rw [c_5]; decide) (by rw [c_5]; rfl) (by decide) ?_
            refine lv_aload_n hx hb dX8_told_104 rfl (lv_at hl 0 rfl) ?_
            refine va_get (D := D) (ci := 8) (v := .ref a_t_reader) (C := RX8) (T := TX8) (N := 16) hx hb hts uX8_told_X8 hown hK.1.1 hP 0 rfl rfl 0 (by decide) (hts _ mX8_told_10) (fun _ h9 => h9) rfl dX8_told_105 ?_
            refine va_getN (D := D) (ci := 5) (v := .int i_t_reader_length) (C := RX5) (T := TX5) (N := 6) hx hb hts uX8_told_X5 hown hK.1.1 hP 2 rfl rfl 1 (by decide) (hK.1.nw _ nw_0) (fun _ h9 => h9) rfl dX8_told_108 ?_
            have hf := Option.some.inj hf
            subst hf
            exact hret _ _ _ _ dX8_told_111 rfl hP hS
          · have hf := hb_f hf c_5
            by_cases c_6 : p1 = 5
            · have hf := hb_t hf c_6
              refine lv_tableIn (off := 111) (tgt := 112) hx hb dX8_told_1 (by rw [c_6]; decide) (by rw [c_6]; decide) (by rw [c_6]; rfl) (by decide) ?_
              refine lv_aload_n hx hb dX8_told_112 rfl (lv_at hl 0 rfl) ?_
              refine va_get (D := D) (ci := 8) (v := .ref a_t_now) (C := RX8) (T := TX8) (N := 16) hx hb hts uX8_told_X8 hown hK.1.1 hP 0 rfl rfl 4 (by decide) (hts _ mX8_told_38) (fun _ h9 => h9) rfl dX8_told_113 ?_
              refine va_getN (D := D) (ci := 0) (v := .int i_t_now_law) (C := RX0) (T := TX0) (N := 9) hx hb hts uX8_told_X0 hown hK.1.1 hP 3 rfl rfl 6 (by decide) (hK.1.nw _ nw_28) (fun _ h9 => h9) rfl dX8_told_116 ?_
              have hf := Option.some.inj hf
              subst hf
              exact hret _ _ _ _ dX8_told_119 rfl hP hS
            · have hf := hb_f hf c_6
              by_cases c_7 : p1 = 6
              · have hf := hb_t hf c_7
                refine lv_tableIn (off := 119) (tgt := 120) hx hb dX8_told_1 (by rw [c_7]; decide) (by rw [c_7]; decide) (by rw [c_7]; rfl) (by decide) ?_
                refine lv_aload_n hx hb dX8_told_120 rfl (lv_at hl 0 rfl) ?_
                refine va_get (D := D) (ci := 8) (v := .ref a_t_now) (C := RX8) (T := TX8) (N := 16) hx hb hts uX8_told_X8 hown hK.1.1 hP 0 rfl rfl 4 (by decide) (hts _ mX8_told_38) (fun _ h9 => h9) rfl dX8_told_121 ?_
                refine va_getN (D := D) (ci := 0) (v := .int i_t_now_way) (C := RX0) (T := TX0) (N := 9) hx hb hts uX8_told_X0 hown hK.1.1 hP 3 rfl rfl 7 (by decide) (hK.1.nw _ nw_29) (fun _ h9 => h9) rfl dX8_told_124 ?_
                have hf := Option.some.inj hf
                subst hf
                exact hret _ _ _ _ dX8_told_127 rfl hP hS
              · have hf := hb_f hf c_7
                by_cases c_8 : p1 = 7
                · have hf := hb_t hf c_8
                  refine lv_tableIn (off := 127) (tgt := 128) hx hb dX8_told_1 (by rw [c_8]; decide) (by rw [c_8]; decide) (by rw [c_8]; rfl) (by decide) ?_
                  refine lv_aload_n hx hb dX8_told_128 rfl (lv_at hl 0 rfl) ?_
                  refine va_get (D := D) (ci := 8) (v := .ref a_t_now) (C := RX8) (T := TX8) (N := 16) hx hb hts uX8_told_X8 hown hK.1.1 hP 0 rfl rfl 4 (by decide) (hts _ mX8_told_38) (fun _ h9 => h9) rfl dX8_told_129 ?_
                  refine va_getN (D := D) (ci := 0) (v := .int i_t_now_letter) (C := RX0) (T := TX0) (N := 9) hx hb hts uX8_told_X0 hown hK.1.1 hP 3 rfl rfl 0 (by decide) (hK.1.nw _ nw_23) (fun _ h9 => h9) rfl dX8_told_132 ?_
                  have hf := Option.some.inj hf
                  subst hf
                  exact hret _ _ _ _ dX8_told_135 rfl hP hS
                · have hf := hb_f hf c_8
                  by_cases c_9 : p1 = 8
                  · have hf := hb_t hf c_9
                    refine lv_tableIn (off := 135) (tgt := 136) hx hb dX8_told_1 (by rw [c_9]; decide) (by rw [c_9]; decide) (by rw [c_9]; rfl) (by decide) ?_
                    refine lv_aload_n hx hb dX8_told_136 rfl (lv_at hl 0 rfl) ?_
                    refine va_get (D := D) (ci := 8) (v := .ref a_t_now) (C := RX8) (T := TX8) (N := 16) hx hb hts uX8_told_X8 hown hK.1.1 hP 0 rfl rfl 4 (by decide) (hts _ mX8_told_38) (fun _ h9 => h9) rfl dX8_told_137 ?_
                    refine va_getN (D := D) (ci := 0) (v := .int i_t_now_turn) (C := RX0) (T := TX0) (N := 9) hx hb hts uX8_told_X0 hown hK.1.1 hP 3 rfl rfl 1 (by decide) (hK.1.nw _ nw_24) (fun _ h9 => h9) rfl dX8_told_140 ?_
                    have hf := Option.some.inj hf
                    subst hf
                    exact hret _ _ _ _ dX8_told_143 rfl hP hS
                  · have hf := hb_f hf c_9
                    by_cases c_10 : p1 = 9
                    · have hf := hb_t hf c_10
                      refine lv_tableIn (off := 143) (tgt := 144) hx hb dX8_told_1 (by rw [c_10]; decide) (by rw [c_10]; decide) (by rw [c_10]; rfl) (by decide) ?_
                      refine lv_aload_n hx hb dX8_told_144 rfl (lv_at hl 0 rfl) ?_
                      refine va_get (D := D) (ci := 8) (v := .ref a_t_now) (C := RX8) (T := TX8) (N := 16) hx hb hts uX8_told_X8 hown hK.1.1 hP 0 rfl rfl 4 (by decide) (hts _ mX8_told_38) (fun _ h9 => h9) rfl dX8_told_145 ?_
                      refine va_getN (D := D) (ci := 0) (v := .int i_t_now_settled) (C := RX0) (T := TX0) (N := 9) hx hb hts uX8_told_X0 hown hK.1.1 hP 3 rfl rfl 2 (by decide) (hK.1.nw _ nw_25) (fun _ h9 => h9) rfl dX8_told_148 ?_
                      refine lv_if_eq (tgt := 158) hx hb dX8_told_151 (by decide) (fun c_11 => ?_) (fun c_11 => ?_)
                      · have hf := hb_t hf c_11
                        refine lv_iconst (v := 0) hx hb dX8_told_158 (by decide) ?_
                        have hf := Option.some.inj hf
                        subst hf
                        exact hret _ _ _ _ dX8_told_159 rfl hP hS
                      · have hf := hb_f hf c_11
                        refine lv_iconst (v := 1) hx hb dX8_told_154 (by decide) ?_
                        refine lv_goto (tgt := 159) hx hb dX8_told_155 (by decide) ?_
                        have hf := Option.some.inj hf
                        subst hf
                        exact hret _ _ _ _ dX8_told_159 rfl hP hS
                    · have hf := hb_f hf c_10
                      by_cases c_12 : p1 = 10
                      · have hf := hb_t hf c_12
                        refine lv_tableIn (off := 159) (tgt := 160) hx hb dX8_told_1 (by rw [c_12]; decide) (by rw [c_12]; decide) (by rw [c_12]; rfl) (by decide) ?_
                        refine lv_aload_n hx hb dX8_told_160 rfl (lv_at hl 0 rfl) ?_
                        refine va_get (D := D) (ci := 8) (v := .ref a_t_now) (C := RX8) (T := TX8) (N := 16) hx hb hts uX8_told_X8 hown hK.1.1 hP 0 rfl rfl 4 (by decide) (hts _ mX8_told_38) (fun _ h9 => h9) rfl dX8_told_161 ?_
                        refine va_getN (D := D) (ci := 0) (v := .int i_t_now_sent) (C := RX0) (T := TX0) (N := 9) hx hb hts uX8_told_X0 hown hK.1.1 hP 3 rfl rfl 5 (by decide) (hK.1.nw _ nw_27) (fun _ h9 => h9) rfl dX8_told_164 ?_
                        have hf := Option.some.inj hf
                        subst hf
                        exact hret _ _ _ _ dX8_told_167 rfl hP hS
                      · have hf := hb_f hf c_12
                        by_cases c_13 : p1 = 11
                        · have hf := hb_t hf c_13
                          refine lv_tableIn (off := 167) (tgt := 168) hx hb dX8_told_1 (by rw [c_13]; decide) (by rw [c_13]; decide) (by rw [c_13]; rfl) (by decide) ?_
                          refine lv_aload_n hx hb dX8_told_168 rfl (lv_at hl 0 rfl) ?_
                          refine va_get (D := D) (ci := 8) (v := .int i_t_guessCount) (C := RX8) (T := TX8) (N := 16) hx hb hts uX8_told_X8 hown hK.1.1 hP 0 rfl rfl 8 (by decide) (hts _ mX8_told_116) (fun _ h9 => h9) rfl dX8_told_169 ?_
                          have hf := Option.some.inj hf
                          subst hf
                          exact hret _ _ _ _ dX8_told_172 rfl hP hS
                        · have hf := hb_f hf c_13
                          by_cases c_14 : p1 = 12
                          · have hf := hb_t hf c_14
                            refine lv_tableIn (off := 172) (tgt := 173) hx hb dX8_told_1 (by rw [c_14]; decide) (by rw [c_14]; decide) (by rw [c_14]; rfl) (by decide) ?_
                            refine lv_aload_n hx hb dX8_told_173 rfl (lv_at hl 0 rfl) ?_
                            refine va_get (D := D) (ci := 8) (v := .ref a_t_book) (C := RX8) (T := TX8) (N := 16) hx hb hts uX8_told_X8 hown hK.1.1 hP 0 rfl rfl 9 (by decide) (hts _ mX8_told_61) (fun _ h9 => h9) rfl dX8_told_174 ?_
                            refine va_getN (D := D) (ci := 6) (v := .int i_t_book_count) (C := RX6) (T := TX6) (N := 2) hx hb hts uX8_told_X6 hown hK.1.1 hP 4 rfl rfl 1 (by decide) (hK.1.nw _ nw_34) (fun _ h9 => h9) rfl dX8_told_177 ?_
                            have hf := Option.some.inj hf
                            subst hf
                            exact hret _ _ _ _ dX8_told_180 rfl hP hS
                          · have hf := hb_f hf c_14
                            by_cases c_15 : p1 = 13
                            · have hf := hb_t hf c_15
                              refine lv_tableIn (off := 180) (tgt := 181) hx hb dX8_told_1 (by rw [c_15]; decide) (by rw [c_15]; decide) (by rw [c_15]; rfl) (by decide) ?_
                              refine lv_aload_n hx hb dX8_told_181 rfl (lv_at hl 0 rfl) ?_
                              refine va_get (D := D) (ci := 8) (v := .ref a_t_letters) (C := RX8) (T := TX8) (N := 16) hx hb hts uX8_told_X8 hown hK.1.1 hP 0 rfl rfl 3 (by decide) (hts _ mX8_told_31) (fun _ h9 => h9) rfl dX8_told_182 ?_
                              refine va_getN (D := D) (ci := 3) (v := .int i_t_letters_standing) (C := RX3) (T := TX3) (N := 7) hx hb hts uX8_told_X3 hown hK.1.1 hP 5 rfl rfl 3 (by decide) (hK.1.nw _ nw_22) (fun _ h9 => h9) rfl dX8_told_185 ?_
                              have hf := Option.some.inj hf
                              subst hf
                              exact hret _ _ _ _ dX8_told_188 rfl hP hS
                            · have hf := hb_f hf c_15
                              refine lv_tableOut (tgt := 189) hx hb dX8_told_1 (by have h0 := sw_ne (k := 0) (by decide) c_1; have h1 := sw_ne (k := 1) (by decide) c_2; have h2 := sw_ne (k := 2) (by decide) c_3; have h3 := sw_ne (k := 3) (by decide) c_4; have h4 := sw_ne (k := 4) (by decide) c_5; have h5 := sw_ne (k := 5) (by decide) c_6; have h6 := sw_ne (k := 6) (by decide) c_7; have h7 := sw_ne (k := 7) (by decide) c_8; have h8 := sw_ne (k := 8) (by decide) c_9; have h9 := sw_ne (k := 9) (by decide) c_10; have h10 := sw_ne (k := 10) (by decide) c_12; have h11 := sw_ne (k := 11) (by decide) c_13; have h12 := sw_ne (k := 12) (by decide) c_14; have h13 := sw_ne (k := 13) (by decide) c_15; omega) (by decide) ?_
                              refine lv_ldc (v := (-1000000002)) hx hb hown (hts _ mX8_told_95) dX8_told_189 ?_
                              have hf := Option.some.inj hf
                              subst hf
                              exact hret _ _ _ _ dX8_told_191 rfl hP hS
theorem mX8_isWord_19 : Cond.fieldLink RX8 19 "OneWordLetters" "spoken" "LOneWordLetters$Tongue;" ∈ wsX8_isWord := by decide +kernel
theorem uX8_isWord_X8 : ∀ w ∈ wsX80, w ∈ wsX8_isWord := fun _ h => List.mem_cons_of_mem _ (List.mem_append_left _ (List.mem_append_right _ h))
theorem uX8_isWord_X7 : ∀ w ∈ wsX70, w ∈ wsX8_isWord := fun _ h => List.mem_cons_of_mem _ (List.mem_append_right _ h)
abbrev rmX8_isWord : Room := { frames := 0, cells := 0, slots := 0, locals := 0 }
set_option maxRecDepth 100000 in
set_option maxHeartbeats 4000000 in
theorem c_X8_isWord (l : Launch) (D : va_G) (cy : Nat → ClassId) (a_t : Nat) (a_t_spoken : Nat) (o_t_reader : Value) (o_t_spare : Value) (o_t_letters : Value) (o_t_now : Value) (o_t_images : Value) (o_t_kept : Value) (o_t_guesses : Value) (o_t_guessCount : Value) (o_t_book : Value) (o_t_changes : Value) (o_t_found : Value) (o_t_stillOnes : Value) (o_t_stillStamp : Value) (o_t_paths : Value) (o_t_foresight : Value) (o_t_spoken_length : Value) (o_t_spoken_frames : Value) (o_t_spoken_pairs : Value) (o_t_spoken_kinds : Value) (o_t_spoken_worths : Value) (o_t_spoken_framed : Value) (o_t_spoken_paired : Value) (o_t_spoken_pairWorths : Value) (o_t_spoken_scales : Value) (i_t_spoken_words : Int32) (p1 : Int32) (rv : Int32) (hf : f_X8_isWord i_t_spoken_words p1 = some rv) : MI l D cy yX8_isWord wsX8_isWord rmX8_isWord [.ref a_t, .int p1] [(a_t, .inr (8, [o_t_reader, .ref a_t_spoken, o_t_spare, o_t_letters, o_t_now, o_t_images, o_t_kept, o_t_guesses, o_t_guessCount, o_t_book, o_t_changes, o_t_found, o_t_stillOnes, o_t_stillStamp, o_t_paths, o_t_foresight])), (a_t_spoken, .inr (7, [o_t_spoken_length, .int i_t_spoken_words, o_t_spoken_frames, o_t_spoken_pairs, o_t_spoken_kinds, o_t_spoken_worths, o_t_spoken_framed, o_t_spoken_paired, o_t_spoken_pairWorths, o_t_spoken_scales]))] [(a_t, .inr (8, [o_t_reader, .ref a_t_spoken, o_t_spare, o_t_letters, o_t_now, o_t_images, o_t_kept, o_t_guesses, o_t_guessCount, o_t_book, o_t_changes, o_t_found, o_t_stillOnes, o_t_stillStamp, o_t_paths, o_t_foresight])), (a_t_spoken, .inr (7, [o_t_spoken_length, .int i_t_spoken_words, o_t_spoken_frames, o_t_spoken_pairs, o_t_spoken_kinds, o_t_spoken_worths, o_t_spoken_framed, o_t_spoken_paired, o_t_spoken_pairWorths, o_t_spoken_scales]))] rv := by
  refine st_I (by decide) rfl (Nat.le_of_ble_eq_true rfl) (fun p e s m below meth c A Q ls C0 hA hK hP hD hS hl hret => ?_)
  obtain ⟨hx, hb, hr, hml, hown, hts, hlocks⟩ := id C0
  have hl : lv_has ls 2 [(0, .ref a_t), (1, .int p1)] := hl
  unfold f_X8_isWord at hf
  refine lv_iload_n hx hb dX8_isWord_0 rfl (lv_at hl 1 rfl) ?_
  refine lv_if_lt (tgt := 19) hx hb dX8_isWord_1 (by decide) (fun c_1 => ?_) (fun c_1 => ?_)
  · have hf := hb_t hf c_1
    refine lv_iconst (v := 0) hx hb dX8_isWord_19 (by decide) ?_
    have hf := Option.some.inj hf
    subst hf
    exact hret _ _ _ _ dX8_isWord_20 rfl hP hS
  · have hf := hb_f hf c_1
    refine lv_iload_n hx hb dX8_isWord_4 rfl (lv_at hl 1 rfl) ?_
    refine lv_aload_n hx hb dX8_isWord_5 rfl (lv_at hl 0 rfl) ?_
    refine va_get (D := D) (ci := 8) (v := .ref a_t_spoken) (C := RX8) (T := TX8) (N := 16) hx hb hts uX8_isWord_X8 hown hK.1.1 hP 0 rfl rfl 1 (by decide) (hts _ mX8_isWord_19) (fun _ h9 => h9) rfl dX8_isWord_6 ?_
    refine va_getN (D := D) (ci := 7) (v := .int i_t_spoken_words) (C := RX7) (T := TX7) (N := 10) hx hb hts uX8_isWord_X7 hown hK.1.1 hP 1 rfl rfl 1 (by decide) (hK.1.nw _ nw_5) (fun _ h9 => h9) rfl dX8_isWord_9 ?_
    refine lv_icmp_ge (tgt := 19) hx hb dX8_isWord_12 (by decide) (fun c_2 => ?_) (fun c_2 => ?_)
    · have hf := hb_t hf c_2
      refine lv_iconst (v := 0) hx hb dX8_isWord_19 (by decide) ?_
      have hf := Option.some.inj hf
      subst hf
      exact hret _ _ _ _ dX8_isWord_20 rfl hP hS
    · have hf := hb_f hf c_2
      refine lv_iconst (v := 1) hx hb dX8_isWord_15 (by decide) ?_
      refine lv_goto (tgt := 20) hx hb dX8_isWord_16 (by decide) ?_
      have hf := Option.some.inj hf
      subst hf
      exact hret _ _ _ _ dX8_isWord_20 rfl hP hS
theorem mX8_word_95 : Cond.constant RX8 95 (-1000000002) ∈ wsX8_word := by decide +kernel
theorem mX8_word_19 : Cond.fieldLink RX8 19 "OneWordLetters" "spoken" "LOneWordLetters$Tongue;" ∈ wsX8_word := by decide +kernel
theorem uX8_word_X8 : ∀ w ∈ wsX80, w ∈ wsX8_word := fun _ h => List.mem_cons_of_mem _ (List.mem_append_left _ (List.mem_append_right _ h))
theorem uX8_word_X7 : ∀ w ∈ wsX70, w ∈ wsX8_word := fun _ h => List.mem_cons_of_mem _ (List.mem_append_right _ h)
theorem mX8_word_173 : Cond.constant RX8 173 (-1000000001) ∈ wsX8_word := by decide +kernel
abbrev rmX8_word : Room := { frames := 1, cells := 0, slots := 0, locals := 21 }
set_option maxRecDepth 100000 in
set_option maxHeartbeats 4000000 in
theorem c_X8_word (l : Launch) (D : va_G) (cy : Nat → ClassId) (a_t : Nat) (a_t_spoken : Nat) (a_t_spoken_worths : Nat) (a_t_spoken_worths0 : Nat) (a_t_spoken_worths1 : Nat) (a_t_spoken_kinds : Nat) (o_t_reader : Value) (o_t_spare : Value) (o_t_letters : Value) (o_t_now : Value) (o_t_images : Value) (o_t_kept : Value) (o_t_guesses : Value) (o_t_guessCount : Value) (o_t_book : Value) (o_t_changes : Value) (o_t_found : Value) (o_t_stillOnes : Value) (o_t_stillStamp : Value) (o_t_paths : Value) (o_t_foresight : Value) (o_t_spoken_length : Value) (o_t_spoken_frames : Value) (o_t_spoken_pairs : Value) (o_t_spoken_framed : Value) (o_t_spoken_paired : Value) (o_t_spoken_pairWorths : Value) (o_t_spoken_scales : Value) (i_t_spoken_words : Int32) (f_t_spoken_worths0 : Nat → Int32) (f_t_spoken_worths1 : Nat → Int32) (f_t_spoken_kinds : Nat → Int32) (p1 : Int32) (p2 : Int32) (rv : Int32) (hf : f_X8_word i_t_spoken_words f_t_spoken_worths0 f_t_spoken_worths1 f_t_spoken_kinds p1 p2 = some rv) : MI l D cy yX8_word wsX8_word rmX8_word [.ref a_t, .int p1, .int p2] [(a_t, .inr (8, [o_t_reader, .ref a_t_spoken, o_t_spare, o_t_letters, o_t_now, o_t_images, o_t_kept, o_t_guesses, o_t_guessCount, o_t_book, o_t_changes, o_t_found, o_t_stillOnes, o_t_stillStamp, o_t_paths, o_t_foresight])), (a_t_spoken, .inr (7, [o_t_spoken_length, .int i_t_spoken_words, o_t_spoken_frames, o_t_spoken_pairs, .ref a_t_spoken_kinds, .ref a_t_spoken_worths, o_t_spoken_framed, o_t_spoken_paired, o_t_spoken_pairWorths, o_t_spoken_scales])), (a_t_spoken_worths, .inl (cy 6, 2, .inr (.inr (.inr (.inr (rfL [a_t_spoken_worths0, a_t_spoken_worths1])))))), (a_t_spoken_worths0, .inl (cy 0, 8, .inl f_t_spoken_worths0)), (a_t_spoken_worths1, .inl (cy 0, 8, .inl f_t_spoken_worths1)), (a_t_spoken_kinds, .inl (cy 0, 8, .inl f_t_spoken_kinds))] [(a_t, .inr (8, [o_t_reader, .ref a_t_spoken, o_t_spare, o_t_letters, o_t_now, o_t_images, o_t_kept, o_t_guesses, o_t_guessCount, o_t_book, o_t_changes, o_t_found, o_t_stillOnes, o_t_stillStamp, o_t_paths, o_t_foresight])), (a_t_spoken, .inr (7, [o_t_spoken_length, .int i_t_spoken_words, o_t_spoken_frames, o_t_spoken_pairs, .ref a_t_spoken_kinds, .ref a_t_spoken_worths, o_t_spoken_framed, o_t_spoken_paired, o_t_spoken_pairWorths, o_t_spoken_scales])), (a_t_spoken_worths, .inl (cy 6, 2, .inr (.inr (.inr (.inr (rfL [a_t_spoken_worths0, a_t_spoken_worths1])))))), (a_t_spoken_worths0, .inl (cy 0, 8, .inl f_t_spoken_worths0)), (a_t_spoken_worths1, .inl (cy 0, 8, .inl f_t_spoken_worths1)), (a_t_spoken_kinds, .inl (cy 0, 8, .inl f_t_spoken_kinds))] rv := by
  refine st_I (by decide) rfl (Nat.le_of_ble_eq_true rfl) (fun p e s m below meth c A Q ls C0 hA hK hP hD hS hl hret => ?_)
  obtain ⟨hx, hb, hr, hml, hown, hts, hlocks⟩ := id C0
  have hl : lv_has ls 3 [(0, .ref a_t), (1, .int p1), (2, .int p2)] := hl
  unfold f_X8_word at hf
  refine lv_aload_n hx hb dX8_word_0 rfl (lv_at hl 0 rfl) ?_
  refine lv_iload_n hx hb dX8_word_1 rfl (lv_at hl 1 rfl) ?_
  obtain ⟨r_1, hc_2, hf⟩ := hb_b hf
  refine cl_Vi (rest := []) [0, 1] [some 0, some 1, none, none, none, none] 6 0 C0 hK hP hD hS hA (c_X8_isWord l D cy a_t a_t_spoken o_t_reader o_t_spare o_t_letters o_t_now o_t_images o_t_kept o_t_guesses o_t_guessCount o_t_book o_t_changes o_t_found o_t_stillOnes o_t_stillStamp o_t_paths o_t_foresight o_t_spoken_length o_t_spoken_frames o_t_spoken_pairs (.ref a_t_spoken_kinds) (.ref a_t_spoken_worths) o_t_spoken_framed o_t_spoken_paired o_t_spoken_pairWorths o_t_spoken_scales i_t_spoken_words p1 r_1 hc_2) (cwV 1 hts gX8_word_X8_isWord rfl rfl rfl (by decide +kernel) ⟨Nat.le_of_ble_eq_true rfl, Nat.le_of_ble_eq_true rfl⟩) rfl (by decide) rfl rfl rfl rfl rfl rfl rfl hl.1 rfl (Nat.le_of_ble_eq_true rfl) dX8_word_2 ⟨Nat.zero_le _, Nat.zero_le _⟩ (fun H locs hP hD hS => ?_)
  have hP : va_P D vwCl [(a_t, .inr (8, [o_t_reader, .ref a_t_spoken, o_t_spare, o_t_letters, o_t_now, o_t_images, o_t_kept, o_t_guesses, o_t_guessCount, o_t_book, o_t_changes, o_t_found, o_t_stillOnes, o_t_stillStamp, o_t_paths, o_t_foresight])), (a_t_spoken, .inr (7, [o_t_spoken_length, .int i_t_spoken_words, o_t_spoken_frames, o_t_spoken_pairs, .ref a_t_spoken_kinds, .ref a_t_spoken_worths, o_t_spoken_framed, o_t_spoken_paired, o_t_spoken_pairWorths, o_t_spoken_scales])), (a_t_spoken_worths, .inl (cy 6, 2, .inr (.inr (.inr (.inr (rfL [a_t_spoken_worths0, a_t_spoken_worths1])))))), (a_t_spoken_worths0, .inl (cy 0, 8, .inl f_t_spoken_worths0)), (a_t_spoken_worths1, .inl (cy 0, 8, .inl f_t_spoken_worths1)), (a_t_spoken_kinds, .inl (cy 0, 8, .inl f_t_spoken_kinds))] H := hP
  have hD : va_D A [(a_t, .inr (8, [o_t_reader, .ref a_t_spoken, o_t_spare, o_t_letters, o_t_now, o_t_images, o_t_kept, o_t_guesses, o_t_guessCount, o_t_book, o_t_changes, o_t_found, o_t_stillOnes, o_t_stillStamp, o_t_paths, o_t_foresight])), (a_t_spoken, .inr (7, [o_t_spoken_length, .int i_t_spoken_words, o_t_spoken_frames, o_t_spoken_pairs, .ref a_t_spoken_kinds, .ref a_t_spoken_worths, o_t_spoken_framed, o_t_spoken_paired, o_t_spoken_pairWorths, o_t_spoken_scales])), (a_t_spoken_worths, .inl (cy 6, 2, .inr (.inr (.inr (.inr (rfL [a_t_spoken_worths0, a_t_spoken_worths1])))))), (a_t_spoken_worths0, .inl (cy 0, 8, .inl f_t_spoken_worths0)), (a_t_spoken_worths1, .inl (cy 0, 8, .inl f_t_spoken_worths1)), (a_t_spoken_kinds, .inl (cy 0, 8, .inl f_t_spoken_kinds))] := hD
  refine lv_if_ne (tgt := 11) hx hb dX8_word_5 (by decide) (fun c_3 => ?_) (fun c_3 => ?_)
  · have hf := hb_f hf c_3
    refine lv_iload_n hx hb dX8_word_11 rfl (lv_at hl 2 rfl) ?_
    refine lv_if_lt (tgt := 20) hx hb dX8_word_12 (by decide) (fun c_4 => ?_) (fun c_4 => ?_)
    · have hf := hb_t hf c_4
      refine lv_ldc (v := (-1000000002)) hx hb hown (hts _ mX8_word_95) dX8_word_20 ?_
      have hf := Option.some.inj hf
      subst hf
      exact hret _ _ _ _ dX8_word_22 rfl hP hS
    · have hf := hb_f hf c_4
      refine lv_iload_n hx hb dX8_word_15 rfl (lv_at hl 2 rfl) ?_
      refine lv_iconst (v := 2) hx hb dX8_word_16 (by decide) ?_
      refine lv_icmp_le (tgt := 23) hx hb dX8_word_17 (by decide) (fun c_5 => ?_) (fun c_5 => ?_)
      · have hf := hb_t hf c_5
        refine lv_iload_n hx hb dX8_word_23 rfl (lv_at hl 2 rfl) ?_
        refine lv_if_ne (tgt := 39) hx hb dX8_word_24 (by decide) (fun c_6 => ?_) (fun c_6 => ?_)
        · have hf := hb_f hf c_6
          refine lv_aload_n hx hb dX8_word_39 rfl (lv_at hl 0 rfl) ?_
          refine va_get (D := D) (ci := 8) (v := .ref a_t_spoken) (C := RX8) (T := TX8) (N := 16) hx hb hts uX8_word_X8 hown hK.1.1 hP 0 rfl rfl 1 (by decide) (hts _ mX8_word_19) (fun _ h9 => h9) rfl dX8_word_40 ?_
          refine va_getN (D := D) (ci := 7) (v := .ref a_t_spoken_worths) (C := RX7) (T := TX7) (N := 10) hx hb hts uX8_word_X7 hown hK.1.1 hP 1 rfl rfl 5 (by decide) (hK.1.nw _ nw_14) (fun _ h9 => h9) rfl dX8_word_43 ?_
          refine lv_iload_n hx hb dX8_word_46 rfl (lv_at hl 2 rfl) ?_
          refine lv_iconst (v := 1) hx hb dX8_word_47 (by decide) ?_
          refine lv_isub hx hb dX8_word_48 ?_
          by_cases c_7 : (p2 - 1) = 0
          · have hf := hb_t hf c_7
            refine va_aldk (a1 := a_t_spoken_worths0) hx hb hK hP 2 6 rfl rfl (by decide) (by rw [c_7]; decide) (by rw [c_7]; rfl) dX8_word_49 ?_
            refine lv_iload_n hx hb dX8_word_50 rfl (lv_at hl 1 rfl) ?_
            obtain ⟨hg_8, hf⟩ := hb_g hf
            refine va_iald hx hb hK.1.1 hP 3 0 rfl rfl (ixb_in hg_8) dX8_word_51 ?_
            have hf := Option.some.inj hf
            subst hf
            exact hret _ _ _ _ dX8_word_52 rfl hP hS
          · have hf := hb_f hf c_7
            by_cases c_9 : (p2 - 1) = 1
            · have hf := hb_t hf c_9
              refine va_aldk (a1 := a_t_spoken_worths1) hx hb hK hP 2 6 rfl rfl (by decide) (by rw [c_9]; decide) (by rw [c_9]; rfl) dX8_word_49 ?_
              refine lv_iload_n hx hb dX8_word_50 rfl (lv_at hl 1 rfl) ?_
              obtain ⟨hg_10, hf⟩ := hb_g hf
              refine va_iald hx hb hK.1.1 hP 4 0 rfl rfl (ixb_in hg_10) dX8_word_51 ?_
              have hf := Option.some.inj hf
              subst hf
              exact hret _ _ _ _ dX8_word_52 rfl hP hS
            · have hf := hb_f hf c_9
              cases hf
        · have hf := hb_t hf c_6
          refine lv_aload_n hx hb dX8_word_27 rfl (lv_at hl 0 rfl) ?_
          refine va_get (D := D) (ci := 8) (v := .ref a_t_spoken) (C := RX8) (T := TX8) (N := 16) hx hb hts uX8_word_X8 hown hK.1.1 hP 0 rfl rfl 1 (by decide) (hts _ mX8_word_19) (fun _ h9 => h9) rfl dX8_word_28 ?_
          refine va_getN (D := D) (ci := 7) (v := .ref a_t_spoken_kinds) (C := RX7) (T := TX7) (N := 10) hx hb hts uX8_word_X7 hown hK.1.1 hP 1 rfl rfl 4 (by decide) (hK.1.nw _ nw_12) (fun _ h9 => h9) rfl dX8_word_31 ?_
          refine lv_iload_n hx hb dX8_word_34 rfl (lv_at hl 1 rfl) ?_
          obtain ⟨hg_11, hf⟩ := hb_g hf
          refine va_iald hx hb hK.1.1 hP 5 0 rfl rfl (ixb_in hg_11) dX8_word_35 ?_
          refine lv_goto (tgt := 52) hx hb dX8_word_36 (by decide) ?_
          have hf := Option.some.inj hf
          subst hf
          exact hret _ _ _ _ dX8_word_52 rfl hP hS
      · have hf := hb_f hf c_5
        refine lv_ldc (v := (-1000000002)) hx hb hown (hts _ mX8_word_95) dX8_word_20 ?_
        have hf := Option.some.inj hf
        subst hf
        exact hret _ _ _ _ dX8_word_22 rfl hP hS
  · have hf := hb_t hf c_3
    refine lv_ldc (v := (-1000000001)) hx hb hown (hts _ mX8_word_173) dX8_word_8 ?_
    have hf := Option.some.inj hf
    subst hf
    exact hret _ _ _ _ dX8_word_10 rfl hP hS
theorem mX8_isLetter_31 : Cond.fieldLink RX8 31 "OneWordLetters" "letters" "LOneWordLetters$Letters;" ∈ wsX8_isLetter := by decide +kernel
theorem uX8_isLetter_X8 : ∀ w ∈ wsX80, w ∈ wsX8_isLetter := fun _ h => List.mem_cons_of_mem _ (List.mem_append_left _ (List.mem_append_right _ h))
theorem uX8_isLetter_X3 : ∀ w ∈ wsX30, w ∈ wsX8_isLetter := fun _ h => List.mem_cons_of_mem _ (List.mem_append_right _ h)
abbrev rmX8_isLetter : Room := { frames := 0, cells := 0, slots := 0, locals := 0 }
set_option maxRecDepth 100000 in
set_option maxHeartbeats 4000000 in
theorem c_X8_isLetter (l : Launch) (D : va_G) (cy : Nat → ClassId) (a_t : Nat) (a_t_letters : Nat) (o_t_reader : Value) (o_t_spoken : Value) (o_t_spare : Value) (o_t_now : Value) (o_t_images : Value) (o_t_kept : Value) (o_t_guesses : Value) (o_t_guessCount : Value) (o_t_book : Value) (o_t_changes : Value) (o_t_found : Value) (o_t_stillOnes : Value) (o_t_stillStamp : Value) (o_t_paths : Value) (o_t_foresight : Value) (o_t_letters_tongue : Value) (o_t_letters_tongues : Value) (o_t_letters_standing : Value) (o_t_letters_sense : Value) (o_t_letters_worthToOne : Value) (o_t_letters_worthToOther : Value) (i_t_letters_size : Int32) (p1 : Int32) (rv : Int32) (hf : f_X8_isLetter i_t_letters_size p1 = some rv) : MI l D cy yX8_isLetter wsX8_isLetter rmX8_isLetter [.ref a_t, .int p1] [(a_t, .inr (8, [o_t_reader, o_t_spoken, o_t_spare, .ref a_t_letters, o_t_now, o_t_images, o_t_kept, o_t_guesses, o_t_guessCount, o_t_book, o_t_changes, o_t_found, o_t_stillOnes, o_t_stillStamp, o_t_paths, o_t_foresight])), (a_t_letters, .inr (3, [o_t_letters_tongue, o_t_letters_tongues, .int i_t_letters_size, o_t_letters_standing, o_t_letters_sense, o_t_letters_worthToOne, o_t_letters_worthToOther]))] [(a_t, .inr (8, [o_t_reader, o_t_spoken, o_t_spare, .ref a_t_letters, o_t_now, o_t_images, o_t_kept, o_t_guesses, o_t_guessCount, o_t_book, o_t_changes, o_t_found, o_t_stillOnes, o_t_stillStamp, o_t_paths, o_t_foresight])), (a_t_letters, .inr (3, [o_t_letters_tongue, o_t_letters_tongues, .int i_t_letters_size, o_t_letters_standing, o_t_letters_sense, o_t_letters_worthToOne, o_t_letters_worthToOther]))] rv := by
  refine st_I (by decide) rfl (Nat.le_of_ble_eq_true rfl) (fun p e s m below meth c A Q ls C0 hA hK hP hD hS hl hret => ?_)
  obtain ⟨hx, hb, hr, hml, hown, hts, hlocks⟩ := id C0
  have hl : lv_has ls 2 [(0, .ref a_t), (1, .int p1)] := hl
  unfold f_X8_isLetter at hf
  refine lv_iload_n hx hb dX8_isLetter_0 rfl (lv_at hl 1 rfl) ?_
  refine lv_if_lt (tgt := 19) hx hb dX8_isLetter_1 (by decide) (fun c_1 => ?_) (fun c_1 => ?_)
  · have hf := hb_t hf c_1
    refine lv_iconst (v := 0) hx hb dX8_isLetter_19 (by decide) ?_
    have hf := Option.some.inj hf
    subst hf
    exact hret _ _ _ _ dX8_isLetter_20 rfl hP hS
  · have hf := hb_f hf c_1
    refine lv_iload_n hx hb dX8_isLetter_4 rfl (lv_at hl 1 rfl) ?_
    refine lv_aload_n hx hb dX8_isLetter_5 rfl (lv_at hl 0 rfl) ?_
    refine va_get (D := D) (ci := 8) (v := .ref a_t_letters) (C := RX8) (T := TX8) (N := 16) hx hb hts uX8_isLetter_X8 hown hK.1.1 hP 0 rfl rfl 3 (by decide) (hts _ mX8_isLetter_31) (fun _ h9 => h9) rfl dX8_isLetter_6 ?_
    refine va_getN (D := D) (ci := 3) (v := .int i_t_letters_size) (C := RX3) (T := TX3) (N := 7) hx hb hts uX8_isLetter_X3 hown hK.1.1 hP 1 rfl rfl 2 (by decide) (hK.1.nw _ nw_20) (fun _ h9 => h9) rfl dX8_isLetter_9 ?_
    refine lv_icmp_ge (tgt := 19) hx hb dX8_isLetter_12 (by decide) (fun c_2 => ?_) (fun c_2 => ?_)
    · have hf := hb_t hf c_2
      refine lv_iconst (v := 0) hx hb dX8_isLetter_19 (by decide) ?_
      have hf := Option.some.inj hf
      subst hf
      exact hret _ _ _ _ dX8_isLetter_20 rfl hP hS
    · have hf := hb_f hf c_2
      refine lv_iconst (v := 1) hx hb dX8_isLetter_15 (by decide) ?_
      refine lv_goto (tgt := 20) hx hb dX8_isLetter_16 (by decide) ?_
      have hf := Option.some.inj hf
      subst hf
      exact hret _ _ _ _ dX8_isLetter_20 rfl hP hS
theorem mX8_at_95 : Cond.constant RX8 95 (-1000000002) ∈ wsX8_at := by decide +kernel
theorem mX8_at_19 : Cond.fieldLink RX8 19 "OneWordLetters" "spoken" "LOneWordLetters$Tongue;" ∈ wsX8_at := by decide +kernel
theorem uX8_at_X8 : ∀ w ∈ wsX80, w ∈ wsX8_at := fun _ h => List.mem_cons_of_mem _ (List.mem_append_left _ (List.mem_append_left _ (List.mem_append_right _ h)))
theorem uX8_at_X7 : ∀ w ∈ wsX70, w ∈ wsX8_at := fun _ h => List.mem_cons_of_mem _ (List.mem_append_left _ (List.mem_append_right _ h))
abbrev rmX8_at : Room := { frames := 1, cells := 0, slots := 0, locals := 22 }
set_option maxRecDepth 100000 in
set_option maxHeartbeats 4000000 in
theorem c_X8_at (l : Launch) (D : va_G) (cy : Nat → ClassId) (a_t : Nat) (a_t_letters : Nat) (a_t_spoken : Nat) (a_t_spoken_scales : Nat) (o_t_reader : Value) (o_t_spare : Value) (o_t_now : Value) (o_t_images : Value) (o_t_kept : Value) (o_t_guesses : Value) (o_t_guessCount : Value) (o_t_book : Value) (o_t_changes : Value) (o_t_found : Value) (o_t_stillOnes : Value) (o_t_stillStamp : Value) (o_t_paths : Value) (o_t_foresight : Value) (o_t_letters_tongue : Value) (o_t_letters_tongues : Value) (o_t_letters_standing : Value) (o_t_letters_sense : Value) (o_t_letters_worthToOne : Value) (o_t_letters_worthToOther : Value) (o_t_spoken_frames : Value) (o_t_spoken_pairs : Value) (o_t_spoken_kinds : Value) (o_t_spoken_worths : Value) (o_t_spoken_framed : Value) (o_t_spoken_paired : Value) (o_t_spoken_pairWorths : Value) (i_t_letters_size : Int32) (i_t_spoken_length : Int32) (i_t_spoken_words : Int32) (f_t_spoken_scales : Nat → Int32) (p1 : Int32) (p2 : Int32) (rv : Int32) (hf : f_X8_at i_t_letters_size i_t_spoken_length i_t_spoken_words f_t_spoken_scales p1 p2 = some rv) : MI l D cy yX8_at wsX8_at rmX8_at [.ref a_t, .int p1, .int p2] [(a_t, .inr (8, [o_t_reader, .ref a_t_spoken, o_t_spare, .ref a_t_letters, o_t_now, o_t_images, o_t_kept, o_t_guesses, o_t_guessCount, o_t_book, o_t_changes, o_t_found, o_t_stillOnes, o_t_stillStamp, o_t_paths, o_t_foresight])), (a_t_letters, .inr (3, [o_t_letters_tongue, o_t_letters_tongues, .int i_t_letters_size, o_t_letters_standing, o_t_letters_sense, o_t_letters_worthToOne, o_t_letters_worthToOther])), (a_t_spoken, .inr (7, [.int i_t_spoken_length, .int i_t_spoken_words, o_t_spoken_frames, o_t_spoken_pairs, o_t_spoken_kinds, o_t_spoken_worths, o_t_spoken_framed, o_t_spoken_paired, o_t_spoken_pairWorths, .ref a_t_spoken_scales])), (a_t_spoken_scales, .inl (cy 0, 5, .inl f_t_spoken_scales))] [(a_t, .inr (8, [o_t_reader, .ref a_t_spoken, o_t_spare, .ref a_t_letters, o_t_now, o_t_images, o_t_kept, o_t_guesses, o_t_guessCount, o_t_book, o_t_changes, o_t_found, o_t_stillOnes, o_t_stillStamp, o_t_paths, o_t_foresight])), (a_t_letters, .inr (3, [o_t_letters_tongue, o_t_letters_tongues, .int i_t_letters_size, o_t_letters_standing, o_t_letters_sense, o_t_letters_worthToOne, o_t_letters_worthToOther])), (a_t_spoken, .inr (7, [.int i_t_spoken_length, .int i_t_spoken_words, o_t_spoken_frames, o_t_spoken_pairs, o_t_spoken_kinds, o_t_spoken_worths, o_t_spoken_framed, o_t_spoken_paired, o_t_spoken_pairWorths, .ref a_t_spoken_scales])), (a_t_spoken_scales, .inl (cy 0, 5, .inl f_t_spoken_scales))] rv := by
  refine st_I (by decide) rfl (Nat.le_of_ble_eq_true rfl) (fun p e s m below meth c A Q ls C0 hA hK hP hD hS hl hret => ?_)
  obtain ⟨hx, hb, hr, hml, hown, hts, hlocks⟩ := id C0
  have hl : lv_has ls 3 [(0, .ref a_t), (1, .int p1), (2, .int p2)] := hl
  unfold f_X8_at at hf
  refine lv_aload_n hx hb dX8_at_0 rfl (lv_at hl 0 rfl) ?_
  refine lv_iload_n hx hb dX8_at_1 rfl (lv_at hl 1 rfl) ?_
  obtain ⟨r_1, hc_2, hf⟩ := hb_b hf
  refine cl_Vi (rest := []) [0, 1] [some 0, some 1, none, none] 4 0 C0 hK hP hD hS hA (c_X8_isLetter l D cy a_t a_t_letters o_t_reader (.ref a_t_spoken) o_t_spare o_t_now o_t_images o_t_kept o_t_guesses o_t_guessCount o_t_book o_t_changes o_t_found o_t_stillOnes o_t_stillStamp o_t_paths o_t_foresight o_t_letters_tongue o_t_letters_tongues o_t_letters_standing o_t_letters_sense o_t_letters_worthToOne o_t_letters_worthToOther i_t_letters_size p1 r_1 hc_2) (cwV 1 hts gX8_at_X8_isLetter rfl rfl rfl (by decide +kernel) ⟨Nat.le_of_ble_eq_true rfl, Nat.le_of_ble_eq_true rfl⟩) rfl (by decide) rfl rfl rfl rfl rfl rfl rfl hl.1 rfl (Nat.le_of_ble_eq_true rfl) dX8_at_2 ⟨Nat.zero_le _, Nat.zero_le _⟩ (fun H locs hP hD hS => ?_)
  have hP : va_P D vwCl [(a_t, .inr (8, [o_t_reader, .ref a_t_spoken, o_t_spare, .ref a_t_letters, o_t_now, o_t_images, o_t_kept, o_t_guesses, o_t_guessCount, o_t_book, o_t_changes, o_t_found, o_t_stillOnes, o_t_stillStamp, o_t_paths, o_t_foresight])), (a_t_letters, .inr (3, [o_t_letters_tongue, o_t_letters_tongues, .int i_t_letters_size, o_t_letters_standing, o_t_letters_sense, o_t_letters_worthToOne, o_t_letters_worthToOther])), (a_t_spoken, .inr (7, [.int i_t_spoken_length, .int i_t_spoken_words, o_t_spoken_frames, o_t_spoken_pairs, o_t_spoken_kinds, o_t_spoken_worths, o_t_spoken_framed, o_t_spoken_paired, o_t_spoken_pairWorths, .ref a_t_spoken_scales])), (a_t_spoken_scales, .inl (cy 0, 5, .inl f_t_spoken_scales))] H := hP
  have hD : va_D A [(a_t, .inr (8, [o_t_reader, .ref a_t_spoken, o_t_spare, .ref a_t_letters, o_t_now, o_t_images, o_t_kept, o_t_guesses, o_t_guessCount, o_t_book, o_t_changes, o_t_found, o_t_stillOnes, o_t_stillStamp, o_t_paths, o_t_foresight])), (a_t_letters, .inr (3, [o_t_letters_tongue, o_t_letters_tongues, .int i_t_letters_size, o_t_letters_standing, o_t_letters_sense, o_t_letters_worthToOne, o_t_letters_worthToOther])), (a_t_spoken, .inr (7, [.int i_t_spoken_length, .int i_t_spoken_words, o_t_spoken_frames, o_t_spoken_pairs, o_t_spoken_kinds, o_t_spoken_worths, o_t_spoken_framed, o_t_spoken_paired, o_t_spoken_pairWorths, .ref a_t_spoken_scales])), (a_t_spoken_scales, .inl (cy 0, 5, .inl f_t_spoken_scales))] := hD
  refine lv_if_eq (tgt := 23) hx hb dX8_at_5 (by decide) (fun c_3 => ?_) (fun c_3 => ?_)
  · have hf := hb_t hf c_3
    refine lv_ldc (v := (-1000000002)) hx hb hown (hts _ mX8_at_95) dX8_at_23 ?_
    have hf := Option.some.inj hf
    subst hf
    exact hret _ _ _ _ dX8_at_25 rfl hP hS
  · have hf := hb_f hf c_3
    refine lv_iload_n hx hb dX8_at_8 rfl (lv_at hl 2 rfl) ?_
    refine lv_if_lt (tgt := 23) hx hb dX8_at_9 (by decide) (fun c_4 => ?_) (fun c_4 => ?_)
    · have hf := hb_t hf c_4
      refine lv_ldc (v := (-1000000002)) hx hb hown (hts _ mX8_at_95) dX8_at_23 ?_
      have hf := Option.some.inj hf
      subst hf
      exact hret _ _ _ _ dX8_at_25 rfl hP hS
    · have hf := hb_f hf c_4
      refine lv_iload_n hx hb dX8_at_12 rfl (lv_at hl 2 rfl) ?_
      refine lv_aload_n hx hb dX8_at_13 rfl (lv_at hl 0 rfl) ?_
      refine va_get (D := D) (ci := 8) (v := .ref a_t_spoken) (C := RX8) (T := TX8) (N := 16) hx hb hts uX8_at_X8 hown hK.1.1 hP 0 rfl rfl 1 (by decide) (hts _ mX8_at_19) (fun _ h9 => h9) rfl dX8_at_14 ?_
      refine va_getN (D := D) (ci := 7) (v := .int i_t_spoken_length) (C := RX7) (T := TX7) (N := 10) hx hb hts uX8_at_X7 hown hK.1.1 hP 2 rfl rfl 0 (by decide) (hK.1.nw _ nw_3) (fun _ h9 => h9) rfl dX8_at_17 ?_
      refine lv_icmp_lt (tgt := 26) hx hb dX8_at_20 (by decide) (fun c_5 => ?_) (fun c_5 => ?_)
      · have hf := hb_t hf c_5
        refine lv_aload_n hx hb dX8_at_26 rfl (lv_at hl 0 rfl) ?_
        refine va_get (D := D) (ci := 8) (v := .ref a_t_spoken) (C := RX8) (T := TX8) (N := 16) hx hb hts uX8_at_X8 hown hK.1.1 hP 0 rfl rfl 1 (by decide) (hts _ mX8_at_19) (fun _ h9 => h9) rfl dX8_at_27 ?_
        refine lv_iload_n hx hb dX8_at_30 rfl (lv_at hl 1 rfl) ?_
        refine lv_iload_n hx hb dX8_at_31 rfl (lv_at hl 2 rfl) ?_
        obtain ⟨r_6, hc_7, hf⟩ := hb_b hf
        refine cl_Vi (rest := []) [2, 3] [none, none, some 0, some 1] 4 2 C0 hK hP hD hS hA (c_X7_wordAt l D cy a_t_spoken a_t_spoken_scales o_t_spoken_frames o_t_spoken_pairs o_t_spoken_kinds o_t_spoken_worths o_t_spoken_framed o_t_spoken_paired o_t_spoken_pairWorths i_t_spoken_length i_t_spoken_words f_t_spoken_scales p1 p2 r_6 hc_7) (cwV 2 hts gX8_at_X7_wordAt rfl rfl rfl (by decide +kernel) ⟨Nat.le_of_ble_eq_true rfl, Nat.le_of_ble_eq_true rfl⟩) rfl (by decide) rfl rfl rfl rfl rfl rfl rfl hl.1 rfl (Nat.le_of_ble_eq_true rfl) dX8_at_32 ⟨Nat.zero_le _, Nat.zero_le _⟩ (fun H locs hP hD hS => ?_)
        have hP : va_P D vwCl [(a_t, .inr (8, [o_t_reader, .ref a_t_spoken, o_t_spare, .ref a_t_letters, o_t_now, o_t_images, o_t_kept, o_t_guesses, o_t_guessCount, o_t_book, o_t_changes, o_t_found, o_t_stillOnes, o_t_stillStamp, o_t_paths, o_t_foresight])), (a_t_letters, .inr (3, [o_t_letters_tongue, o_t_letters_tongues, .int i_t_letters_size, o_t_letters_standing, o_t_letters_sense, o_t_letters_worthToOne, o_t_letters_worthToOther])), (a_t_spoken, .inr (7, [.int i_t_spoken_length, .int i_t_spoken_words, o_t_spoken_frames, o_t_spoken_pairs, o_t_spoken_kinds, o_t_spoken_worths, o_t_spoken_framed, o_t_spoken_paired, o_t_spoken_pairWorths, .ref a_t_spoken_scales])), (a_t_spoken_scales, .inl (cy 0, 5, .inl f_t_spoken_scales))] H := hP
        have hD : va_D A [(a_t, .inr (8, [o_t_reader, .ref a_t_spoken, o_t_spare, .ref a_t_letters, o_t_now, o_t_images, o_t_kept, o_t_guesses, o_t_guessCount, o_t_book, o_t_changes, o_t_found, o_t_stillOnes, o_t_stillStamp, o_t_paths, o_t_foresight])), (a_t_letters, .inr (3, [o_t_letters_tongue, o_t_letters_tongues, .int i_t_letters_size, o_t_letters_standing, o_t_letters_sense, o_t_letters_worthToOne, o_t_letters_worthToOther])), (a_t_spoken, .inr (7, [.int i_t_spoken_length, .int i_t_spoken_words, o_t_spoken_frames, o_t_spoken_pairs, o_t_spoken_kinds, o_t_spoken_worths, o_t_spoken_framed, o_t_spoken_paired, o_t_spoken_pairWorths, .ref a_t_spoken_scales])), (a_t_spoken_scales, .inl (cy 0, 5, .inl f_t_spoken_scales))] := hD
        have hf := Option.some.inj hf
        subst hf
        exact hret _ _ _ _ dX8_at_35 rfl hP hS
      · have hf := hb_f hf c_5
        refine lv_ldc (v := (-1000000002)) hx hb hown (hts _ mX8_at_95) dX8_at_23 ?_
        have hf := Option.some.inj hf
        subst hf
        exact hret _ _ _ _ dX8_at_25 rfl hP hS
theorem mX8_stands_31 : Cond.fieldLink RX8 31 "OneWordLetters" "letters" "LOneWordLetters$Letters;" ∈ wsX8_stands := by decide +kernel
theorem uX8_stands_X8 : ∀ w ∈ wsX80, w ∈ wsX8_stands := fun _ h => List.mem_cons_of_mem _ (List.mem_append_left _ (List.mem_append_right _ h))
theorem mX8_stands_95 : Cond.constant RX8 95 (-1000000002) ∈ wsX8_stands := by decide +kernel
abbrev rmX8_stands : Room := { frames := 1, cells := 0, slots := 0, locals := 21 }
set_option maxRecDepth 100000 in
set_option maxHeartbeats 4000000 in
theorem c_X8_stands (l : Launch) (D : va_G) (cy : Nat → ClassId) (a_t : Nat) (a_t_letters : Nat) (a_t_letters_sense : Nat) (o_t_reader : Value) (o_t_spoken : Value) (o_t_spare : Value) (o_t_now : Value) (o_t_images : Value) (o_t_kept : Value) (o_t_guesses : Value) (o_t_guessCount : Value) (o_t_book : Value) (o_t_changes : Value) (o_t_found : Value) (o_t_stillOnes : Value) (o_t_stillStamp : Value) (o_t_paths : Value) (o_t_foresight : Value) (o_t_letters_tongue : Value) (o_t_letters_tongues : Value) (o_t_letters_standing : Value) (o_t_letters_worthToOne : Value) (o_t_letters_worthToOther : Value) (i_t_letters_size : Int32) (n_t_letters_sense : Nat) (f_t_letters_sense : Nat → Int32) (p1 : Int32) (rv : Int32) (hf : f_X8_stands i_t_letters_size n_t_letters_sense f_t_letters_sense p1 = some rv) : MI l D cy yX8_stands wsX8_stands rmX8_stands [.ref a_t, .int p1] [(a_t, .inr (8, [o_t_reader, o_t_spoken, o_t_spare, .ref a_t_letters, o_t_now, o_t_images, o_t_kept, o_t_guesses, o_t_guessCount, o_t_book, o_t_changes, o_t_found, o_t_stillOnes, o_t_stillStamp, o_t_paths, o_t_foresight])), (a_t_letters, .inr (3, [o_t_letters_tongue, o_t_letters_tongues, .int i_t_letters_size, o_t_letters_standing, .ref a_t_letters_sense, o_t_letters_worthToOne, o_t_letters_worthToOther])), (a_t_letters_sense, .inl (cy 1, n_t_letters_sense, .inl f_t_letters_sense))] [(a_t, .inr (8, [o_t_reader, o_t_spoken, o_t_spare, .ref a_t_letters, o_t_now, o_t_images, o_t_kept, o_t_guesses, o_t_guessCount, o_t_book, o_t_changes, o_t_found, o_t_stillOnes, o_t_stillStamp, o_t_paths, o_t_foresight])), (a_t_letters, .inr (3, [o_t_letters_tongue, o_t_letters_tongues, .int i_t_letters_size, o_t_letters_standing, .ref a_t_letters_sense, o_t_letters_worthToOne, o_t_letters_worthToOther])), (a_t_letters_sense, .inl (cy 1, n_t_letters_sense, .inl f_t_letters_sense))] rv := by
  refine st_I (by decide) rfl (Nat.le_of_ble_eq_true rfl) (fun p e s m below meth c A Q ls C0 hA hK hP hD hS hl hret => ?_)
  obtain ⟨hx, hb, hr, hml, hown, hts, hlocks⟩ := id C0
  have hl : lv_has ls 2 [(0, .ref a_t), (1, .int p1)] := hl
  unfold f_X8_stands at hf
  refine lv_aload_n hx hb dX8_stands_0 rfl (lv_at hl 0 rfl) ?_
  refine lv_iload_n hx hb dX8_stands_1 rfl (lv_at hl 1 rfl) ?_
  obtain ⟨r_1, hc_2, hf⟩ := hb_b hf
  refine cl_Vi (rest := []) [0, 1] [some 0, some 1, none] 3 0 C0 hK hP hD hS hA (c_X8_isLetter l D cy a_t a_t_letters o_t_reader o_t_spoken o_t_spare o_t_now o_t_images o_t_kept o_t_guesses o_t_guessCount o_t_book o_t_changes o_t_found o_t_stillOnes o_t_stillStamp o_t_paths o_t_foresight o_t_letters_tongue o_t_letters_tongues o_t_letters_standing (.ref a_t_letters_sense) o_t_letters_worthToOne o_t_letters_worthToOther i_t_letters_size p1 r_1 hc_2) (cwV 1 hts gX8_stands_X8_isLetter rfl rfl rfl (by decide +kernel) ⟨Nat.le_of_ble_eq_true rfl, Nat.le_of_ble_eq_true rfl⟩) rfl (by decide) rfl rfl rfl rfl rfl rfl rfl hl.1 rfl (Nat.le_of_ble_eq_true rfl) dX8_stands_2 ⟨Nat.zero_le _, Nat.zero_le _⟩ (fun H locs hP hD hS => ?_)
  have hP : va_P D vwCl [(a_t, .inr (8, [o_t_reader, o_t_spoken, o_t_spare, .ref a_t_letters, o_t_now, o_t_images, o_t_kept, o_t_guesses, o_t_guessCount, o_t_book, o_t_changes, o_t_found, o_t_stillOnes, o_t_stillStamp, o_t_paths, o_t_foresight])), (a_t_letters, .inr (3, [o_t_letters_tongue, o_t_letters_tongues, .int i_t_letters_size, o_t_letters_standing, .ref a_t_letters_sense, o_t_letters_worthToOne, o_t_letters_worthToOther])), (a_t_letters_sense, .inl (cy 1, n_t_letters_sense, .inl f_t_letters_sense))] H := hP
  have hD : va_D A [(a_t, .inr (8, [o_t_reader, o_t_spoken, o_t_spare, .ref a_t_letters, o_t_now, o_t_images, o_t_kept, o_t_guesses, o_t_guessCount, o_t_book, o_t_changes, o_t_found, o_t_stillOnes, o_t_stillStamp, o_t_paths, o_t_foresight])), (a_t_letters, .inr (3, [o_t_letters_tongue, o_t_letters_tongues, .int i_t_letters_size, o_t_letters_standing, .ref a_t_letters_sense, o_t_letters_worthToOne, o_t_letters_worthToOther])), (a_t_letters_sense, .inl (cy 1, n_t_letters_sense, .inl f_t_letters_sense))] := hD
  refine lv_if_ne (tgt := 11) hx hb dX8_stands_5 (by decide) (fun c_3 => ?_) (fun c_3 => ?_)
  · have hf := hb_f hf c_3
    refine lv_aload_n hx hb dX8_stands_11 rfl (lv_at hl 0 rfl) ?_
    refine va_get (D := D) (ci := 8) (v := .ref a_t_letters) (C := RX8) (T := TX8) (N := 16) hx hb hts uX8_stands_X8 hown hK.1.1 hP 0 rfl rfl 3 (by decide) (hts _ mX8_stands_31) (fun _ h9 => h9) rfl dX8_stands_12 ?_
    refine lv_iload_n hx hb dX8_stands_15 rfl (lv_at hl 1 rfl) ?_
    obtain ⟨r_4, hc_5, hf⟩ := hb_b hf
    refine cl_Vi (rest := []) [1, 2] [none, some 0, some 1] 3 1 C0 hK hP hD hS hA (c_X3_isSense l D cy a_t_letters a_t_letters_sense o_t_letters_tongue o_t_letters_tongues o_t_letters_standing o_t_letters_worthToOne o_t_letters_worthToOther i_t_letters_size n_t_letters_sense f_t_letters_sense p1 r_4 hc_5) (cwV 1 hts gX8_stands_X3_isSense rfl rfl rfl (by decide +kernel) ⟨Nat.le_of_ble_eq_true rfl, Nat.le_of_ble_eq_true rfl⟩) rfl (by decide) rfl rfl rfl rfl rfl rfl rfl hl.1 rfl (Nat.le_of_ble_eq_true rfl) dX8_stands_16 ⟨Nat.zero_le _, Nat.zero_le _⟩ (fun H locs hP hD hS => ?_)
    have hP : va_P D vwCl [(a_t, .inr (8, [o_t_reader, o_t_spoken, o_t_spare, .ref a_t_letters, o_t_now, o_t_images, o_t_kept, o_t_guesses, o_t_guessCount, o_t_book, o_t_changes, o_t_found, o_t_stillOnes, o_t_stillStamp, o_t_paths, o_t_foresight])), (a_t_letters, .inr (3, [o_t_letters_tongue, o_t_letters_tongues, .int i_t_letters_size, o_t_letters_standing, .ref a_t_letters_sense, o_t_letters_worthToOne, o_t_letters_worthToOther])), (a_t_letters_sense, .inl (cy 1, n_t_letters_sense, .inl f_t_letters_sense))] H := hP
    have hD : va_D A [(a_t, .inr (8, [o_t_reader, o_t_spoken, o_t_spare, .ref a_t_letters, o_t_now, o_t_images, o_t_kept, o_t_guesses, o_t_guessCount, o_t_book, o_t_changes, o_t_found, o_t_stillOnes, o_t_stillStamp, o_t_paths, o_t_foresight])), (a_t_letters, .inr (3, [o_t_letters_tongue, o_t_letters_tongues, .int i_t_letters_size, o_t_letters_standing, .ref a_t_letters_sense, o_t_letters_worthToOne, o_t_letters_worthToOther])), (a_t_letters_sense, .inl (cy 1, n_t_letters_sense, .inl f_t_letters_sense))] := hD
    refine lv_if_eq (tgt := 26) hx hb dX8_stands_19 (by decide) (fun c_6 => ?_) (fun c_6 => ?_)
    · have hf := hb_t hf c_6
      refine lv_iconst (v := 0) hx hb dX8_stands_26 (by decide) ?_
      have hf := Option.some.inj hf
      subst hf
      exact hret _ _ _ _ dX8_stands_27 rfl hP hS
    · have hf := hb_f hf c_6
      refine lv_iconst (v := 1) hx hb dX8_stands_22 (by decide) ?_
      refine lv_goto (tgt := 27) hx hb dX8_stands_23 (by decide) ?_
      have hf := Option.some.inj hf
      subst hf
      exact hret _ _ _ _ dX8_stands_27 rfl hP hS
  · have hf := hb_t hf c_3
    refine lv_ldc (v := (-1000000002)) hx hb hown (hts _ mX8_stands_95) dX8_stands_8 ?_
    have hf := Option.some.inj hf
    subst hf
    exact hret _ _ _ _ dX8_stands_10 rfl hP hS
abbrev rmX8_isHouse : Room := { frames := 0, cells := 0, slots := 0, locals := 0 }
set_option maxRecDepth 100000 in
set_option maxHeartbeats 4000000 in
theorem c_X8_isHouse (l : Launch) (D : va_G) (cy : Nat → ClassId) (p1 : Int32) (rv : Int32) (hf : f_X8_isHouse p1 = some rv) : MI l D cy yX8_isHouse wsX8_isHouse rmX8_isHouse [.int p1] [] [] rv := by
  refine st_I (by decide) rfl (Nat.le_of_ble_eq_true rfl) (fun p e s m below meth c A Q ls C0 hA hK hP hD hS hl hret => ?_)
  obtain ⟨hx, hb, hr, hml, hown, hts, hlocks⟩ := id C0
  have hl : lv_has ls 1 [(0, .int p1)] := hl
  unfold f_X8_isHouse at hf
  refine lv_iload_n hx hb dX8_isHouse_0 rfl (lv_at hl 0 rfl) ?_
  refine lv_if_lt (tgt := 13) hx hb dX8_isHouse_1 (by decide) (fun c_1 => ?_) (fun c_1 => ?_)
  · have hf := hb_t hf c_1
    refine lv_iconst (v := 0) hx hb dX8_isHouse_13 (by decide) ?_
    have hf := Option.some.inj hf
    subst hf
    exact hret _ _ _ _ dX8_isHouse_14 rfl hP hS
  · have hf := hb_f hf c_1
    refine lv_iload_n hx hb dX8_isHouse_4 rfl (lv_at hl 0 rfl) ?_
    refine lv_iconst (v := 2) hx hb dX8_isHouse_5 (by decide) ?_
    refine lv_icmp_ge (tgt := 13) hx hb dX8_isHouse_6 (by decide) (fun c_2 => ?_) (fun c_2 => ?_)
    · have hf := hb_t hf c_2
      refine lv_iconst (v := 0) hx hb dX8_isHouse_13 (by decide) ?_
      have hf := Option.some.inj hf
      subst hf
      exact hret _ _ _ _ dX8_isHouse_14 rfl hP hS
    · have hf := hb_f hf c_2
      refine lv_iconst (v := 1) hx hb dX8_isHouse_9 (by decide) ?_
      refine lv_goto (tgt := 14) hx hb dX8_isHouse_10 (by decide) ?_
      have hf := Option.some.inj hf
      subst hf
      exact hret _ _ _ _ dX8_isHouse_14 rfl hP hS
theorem mX8_worth_31 : Cond.fieldLink RX8 31 "OneWordLetters" "letters" "LOneWordLetters$Letters;" ∈ wsX8_worth := by decide +kernel
theorem uX8_worth_X8 : ∀ w ∈ wsX80, w ∈ wsX8_worth := fun _ h => List.mem_cons_of_mem _ (List.mem_append_left _ (List.mem_append_right _ h))
theorem mX8_worth_95 : Cond.constant RX8 95 (-1000000002) ∈ wsX8_worth := by decide +kernel
theorem mX8_worth_173 : Cond.constant RX8 173 (-1000000001) ∈ wsX8_worth := by decide +kernel
abbrev rmX8_worth : Room := { frames := 1, cells := 0, slots := 0, locals := 22 }
set_option maxRecDepth 100000 in
set_option maxHeartbeats 4000000 in
theorem c_X8_worth (l : Launch) (D : va_G) (cy : Nat → ClassId) (a_t : Nat) (a_t_letters : Nat) (a_t_letters_worthToOther : Nat) (a_t_letters_worthToOne : Nat) (o_t_reader : Value) (o_t_spoken : Value) (o_t_spare : Value) (o_t_now : Value) (o_t_images : Value) (o_t_kept : Value) (o_t_guesses : Value) (o_t_guessCount : Value) (o_t_book : Value) (o_t_changes : Value) (o_t_found : Value) (o_t_stillOnes : Value) (o_t_stillStamp : Value) (o_t_paths : Value) (o_t_foresight : Value) (o_t_letters_tongue : Value) (o_t_letters_tongues : Value) (o_t_letters_standing : Value) (o_t_letters_sense : Value) (i_t_letters_size : Int32) (n_t_letters_worthToOther : Nat) (f_t_letters_worthToOther : Nat → Int32) (n_t_letters_worthToOne : Nat) (f_t_letters_worthToOne : Nat → Int32) (p1 : Int32) (p2 : Int32) (rv : Int32) (hf : f_X8_worth i_t_letters_size n_t_letters_worthToOther f_t_letters_worthToOther n_t_letters_worthToOne f_t_letters_worthToOne p1 p2 = some rv) : MI l D cy yX8_worth wsX8_worth rmX8_worth [.ref a_t, .int p1, .int p2] [(a_t, .inr (8, [o_t_reader, o_t_spoken, o_t_spare, .ref a_t_letters, o_t_now, o_t_images, o_t_kept, o_t_guesses, o_t_guessCount, o_t_book, o_t_changes, o_t_found, o_t_stillOnes, o_t_stillStamp, o_t_paths, o_t_foresight])), (a_t_letters, .inr (3, [o_t_letters_tongue, o_t_letters_tongues, .int i_t_letters_size, o_t_letters_standing, o_t_letters_sense, .ref a_t_letters_worthToOne, .ref a_t_letters_worthToOther])), (a_t_letters_worthToOther, .inl (cy 0, n_t_letters_worthToOther, .inl f_t_letters_worthToOther)), (a_t_letters_worthToOne, .inl (cy 0, n_t_letters_worthToOne, .inl f_t_letters_worthToOne))] [(a_t, .inr (8, [o_t_reader, o_t_spoken, o_t_spare, .ref a_t_letters, o_t_now, o_t_images, o_t_kept, o_t_guesses, o_t_guessCount, o_t_book, o_t_changes, o_t_found, o_t_stillOnes, o_t_stillStamp, o_t_paths, o_t_foresight])), (a_t_letters, .inr (3, [o_t_letters_tongue, o_t_letters_tongues, .int i_t_letters_size, o_t_letters_standing, o_t_letters_sense, .ref a_t_letters_worthToOne, .ref a_t_letters_worthToOther])), (a_t_letters_worthToOther, .inl (cy 0, n_t_letters_worthToOther, .inl f_t_letters_worthToOther)), (a_t_letters_worthToOne, .inl (cy 0, n_t_letters_worthToOne, .inl f_t_letters_worthToOne))] rv := by
  refine st_I (by decide) rfl (Nat.le_of_ble_eq_true rfl) (fun p e s m below meth c A Q ls C0 hA hK hP hD hS hl hret => ?_)
  obtain ⟨hx, hb, hr, hml, hown, hts, hlocks⟩ := id C0
  have hl : lv_has ls 3 [(0, .ref a_t), (1, .int p1), (2, .int p2)] := hl
  unfold f_X8_worth at hf
  refine lv_iload_n hx hb dX8_worth_0 rfl (lv_at hl 1 rfl) ?_
  obtain ⟨r_1, hc_2, hf⟩ := hb_b hf
  refine cl_Si (rest := []) [] [none, none, none, none] 4 C0 hK hP hD hS hA (c_X8_isHouse l D cy p1 r_1 hc_2) (va_cwS 1 hts gX8_worth_X8_isHouse rfl rfl rfl (by decide +kernel) ⟨Nat.le_of_ble_eq_true rfl, Nat.le_of_ble_eq_true rfl⟩) rfl (by decide) rfl rfl rfl rfl hl.1 rfl (Nat.le_of_ble_eq_true rfl) dX8_worth_1 ⟨Nat.zero_le _, Nat.zero_le _⟩ (fun H locs hP hD hS => ?_)
  have hP : va_P D vwCl [(a_t, .inr (8, [o_t_reader, o_t_spoken, o_t_spare, .ref a_t_letters, o_t_now, o_t_images, o_t_kept, o_t_guesses, o_t_guessCount, o_t_book, o_t_changes, o_t_found, o_t_stillOnes, o_t_stillStamp, o_t_paths, o_t_foresight])), (a_t_letters, .inr (3, [o_t_letters_tongue, o_t_letters_tongues, .int i_t_letters_size, o_t_letters_standing, o_t_letters_sense, .ref a_t_letters_worthToOne, .ref a_t_letters_worthToOther])), (a_t_letters_worthToOther, .inl (cy 0, n_t_letters_worthToOther, .inl f_t_letters_worthToOther)), (a_t_letters_worthToOne, .inl (cy 0, n_t_letters_worthToOne, .inl f_t_letters_worthToOne))] H := hP
  have hD : va_D A [(a_t, .inr (8, [o_t_reader, o_t_spoken, o_t_spare, .ref a_t_letters, o_t_now, o_t_images, o_t_kept, o_t_guesses, o_t_guessCount, o_t_book, o_t_changes, o_t_found, o_t_stillOnes, o_t_stillStamp, o_t_paths, o_t_foresight])), (a_t_letters, .inr (3, [o_t_letters_tongue, o_t_letters_tongues, .int i_t_letters_size, o_t_letters_standing, o_t_letters_sense, .ref a_t_letters_worthToOne, .ref a_t_letters_worthToOther])), (a_t_letters_worthToOther, .inl (cy 0, n_t_letters_worthToOther, .inl f_t_letters_worthToOther)), (a_t_letters_worthToOne, .inl (cy 0, n_t_letters_worthToOne, .inl f_t_letters_worthToOne))] := hD
  refine lv_if_ne (tgt := 10) hx hb dX8_worth_4 (by decide) (fun c_3 => ?_) (fun c_3 => ?_)
  · have hf := hb_f hf c_3
    refine lv_aload_n hx hb dX8_worth_10 rfl (lv_at hl 0 rfl) ?_
    refine lv_iload_n hx hb dX8_worth_11 rfl (lv_at hl 2 rfl) ?_
    obtain ⟨r_4, hc_5, hf⟩ := hb_b hf
    refine cl_Vi (rest := []) [0, 1] [some 0, some 1, none, none] 4 0 C0 hK hP hD hS hA (c_X8_isLetter l D cy a_t a_t_letters o_t_reader o_t_spoken o_t_spare o_t_now o_t_images o_t_kept o_t_guesses o_t_guessCount o_t_book o_t_changes o_t_found o_t_stillOnes o_t_stillStamp o_t_paths o_t_foresight o_t_letters_tongue o_t_letters_tongues o_t_letters_standing o_t_letters_sense (.ref a_t_letters_worthToOne) (.ref a_t_letters_worthToOther) i_t_letters_size p2 r_4 hc_5) (cwV 1 hts gX8_worth_X8_isLetter rfl rfl rfl (by decide +kernel) ⟨Nat.le_of_ble_eq_true rfl, Nat.le_of_ble_eq_true rfl⟩) rfl (by decide) rfl rfl rfl rfl rfl rfl rfl hl.1 rfl (Nat.le_of_ble_eq_true rfl) dX8_worth_12 ⟨Nat.zero_le _, Nat.zero_le _⟩ (fun H locs hP hD hS => ?_)
    have hP : va_P D vwCl [(a_t, .inr (8, [o_t_reader, o_t_spoken, o_t_spare, .ref a_t_letters, o_t_now, o_t_images, o_t_kept, o_t_guesses, o_t_guessCount, o_t_book, o_t_changes, o_t_found, o_t_stillOnes, o_t_stillStamp, o_t_paths, o_t_foresight])), (a_t_letters, .inr (3, [o_t_letters_tongue, o_t_letters_tongues, .int i_t_letters_size, o_t_letters_standing, o_t_letters_sense, .ref a_t_letters_worthToOne, .ref a_t_letters_worthToOther])), (a_t_letters_worthToOther, .inl (cy 0, n_t_letters_worthToOther, .inl f_t_letters_worthToOther)), (a_t_letters_worthToOne, .inl (cy 0, n_t_letters_worthToOne, .inl f_t_letters_worthToOne))] H := hP
    have hD : va_D A [(a_t, .inr (8, [o_t_reader, o_t_spoken, o_t_spare, .ref a_t_letters, o_t_now, o_t_images, o_t_kept, o_t_guesses, o_t_guessCount, o_t_book, o_t_changes, o_t_found, o_t_stillOnes, o_t_stillStamp, o_t_paths, o_t_foresight])), (a_t_letters, .inr (3, [o_t_letters_tongue, o_t_letters_tongues, .int i_t_letters_size, o_t_letters_standing, o_t_letters_sense, .ref a_t_letters_worthToOne, .ref a_t_letters_worthToOther])), (a_t_letters_worthToOther, .inl (cy 0, n_t_letters_worthToOther, .inl f_t_letters_worthToOther)), (a_t_letters_worthToOne, .inl (cy 0, n_t_letters_worthToOne, .inl f_t_letters_worthToOne))] := hD
    refine lv_if_ne (tgt := 21) hx hb dX8_worth_15 (by decide) (fun c_6 => ?_) (fun c_6 => ?_)
    · have hf := hb_f hf c_6
      refine lv_aload_n hx hb dX8_worth_21 rfl (lv_at hl 0 rfl) ?_
      refine va_get (D := D) (ci := 8) (v := .ref a_t_letters) (C := RX8) (T := TX8) (N := 16) hx hb hts uX8_worth_X8 hown hK.1.1 hP 0 rfl rfl 3 (by decide) (hts _ mX8_worth_31) (fun _ h9 => h9) rfl dX8_worth_22 ?_
      refine lv_iload_n hx hb dX8_worth_25 rfl (lv_at hl 1 rfl) ?_
      refine lv_iload_n hx hb dX8_worth_26 rfl (lv_at hl 2 rfl) ?_
      obtain ⟨r_7, hc_8, hf⟩ := hb_b hf
      refine cl_Vi (rest := []) [1, 2, 3] [none, some 0, some 1, some 2] 4 1 C0 hK hP hD hS hA (c_X3_worthTo l D cy a_t_letters a_t_letters_worthToOther a_t_letters_worthToOne o_t_letters_tongue o_t_letters_tongues o_t_letters_standing o_t_letters_sense i_t_letters_size n_t_letters_worthToOther f_t_letters_worthToOther n_t_letters_worthToOne f_t_letters_worthToOne p1 p2 r_7 hc_8) (cwV 2 hts gX8_worth_X3_worthTo rfl rfl rfl (by decide +kernel) ⟨Nat.le_of_ble_eq_true rfl, Nat.le_of_ble_eq_true rfl⟩) rfl (by decide) rfl rfl rfl rfl rfl rfl rfl hl.1 rfl (Nat.le_of_ble_eq_true rfl) dX8_worth_27 ⟨Nat.zero_le _, Nat.zero_le _⟩ (fun H locs hP hD hS => ?_)
      have hP : va_P D vwCl [(a_t, .inr (8, [o_t_reader, o_t_spoken, o_t_spare, .ref a_t_letters, o_t_now, o_t_images, o_t_kept, o_t_guesses, o_t_guessCount, o_t_book, o_t_changes, o_t_found, o_t_stillOnes, o_t_stillStamp, o_t_paths, o_t_foresight])), (a_t_letters, .inr (3, [o_t_letters_tongue, o_t_letters_tongues, .int i_t_letters_size, o_t_letters_standing, o_t_letters_sense, .ref a_t_letters_worthToOne, .ref a_t_letters_worthToOther])), (a_t_letters_worthToOther, .inl (cy 0, n_t_letters_worthToOther, .inl f_t_letters_worthToOther)), (a_t_letters_worthToOne, .inl (cy 0, n_t_letters_worthToOne, .inl f_t_letters_worthToOne))] H := hP
      have hD : va_D A [(a_t, .inr (8, [o_t_reader, o_t_spoken, o_t_spare, .ref a_t_letters, o_t_now, o_t_images, o_t_kept, o_t_guesses, o_t_guessCount, o_t_book, o_t_changes, o_t_found, o_t_stillOnes, o_t_stillStamp, o_t_paths, o_t_foresight])), (a_t_letters, .inr (3, [o_t_letters_tongue, o_t_letters_tongues, .int i_t_letters_size, o_t_letters_standing, o_t_letters_sense, .ref a_t_letters_worthToOne, .ref a_t_letters_worthToOther])), (a_t_letters_worthToOther, .inl (cy 0, n_t_letters_worthToOther, .inl f_t_letters_worthToOther)), (a_t_letters_worthToOne, .inl (cy 0, n_t_letters_worthToOne, .inl f_t_letters_worthToOne))] := hD
      have hf := Option.some.inj hf
      subst hf
      exact hret _ _ _ _ dX8_worth_30 rfl hP hS
    · have hf := hb_t hf c_6
      refine lv_ldc (v := (-1000000002)) hx hb hown (hts _ mX8_worth_95) dX8_worth_18 ?_
      have hf := Option.some.inj hf
      subst hf
      exact hret _ _ _ _ dX8_worth_20 rfl hP hS
  · have hf := hb_t hf c_3
    refine lv_ldc (v := (-1000000001)) hx hb hown (hts _ mX8_worth_173) dX8_worth_7 ?_
    have hf := Option.some.inj hf
    subst hf
    exact hret _ _ _ _ dX8_worth_9 rfl hP hS
theorem mX8_law_95 : Cond.constant RX8 95 (-1000000002) ∈ wsX8_law := by decide +kernel
theorem mX8_law_38 : Cond.fieldLink RX8 38 "OneWordLetters" "now" "LOneWordLetters$Course;" ∈ wsX8_law := by decide +kernel
theorem uX8_law_X8 : ∀ w ∈ wsX80, w ∈ wsX8_law := fun _ h => List.mem_cons_of_mem _ (List.mem_append_left _ (List.mem_append_right _ h))
theorem uX8_law_X0 : ∀ w ∈ wsX00, w ∈ wsX8_law := fun _ h => List.mem_cons_of_mem _ (List.mem_append_right _ h)
abbrev rmX8_law : Room := { frames := 0, cells := 0, slots := 0, locals := 0 }
set_option maxRecDepth 100000 in
set_option maxHeartbeats 4000000 in
theorem c_X8_law (l : Launch) (D : va_G) (cy : Nat → ClassId) (a_t : Nat) (a_t_now : Nat) (o_t_reader : Value) (o_t_spoken : Value) (o_t_spare : Value) (o_t_letters : Value) (o_t_images : Value) (o_t_kept : Value) (o_t_guesses : Value) (o_t_guessCount : Value) (o_t_book : Value) (o_t_changes : Value) (o_t_found : Value) (o_t_stillOnes : Value) (o_t_stillStamp : Value) (o_t_paths : Value) (o_t_foresight : Value) (o_t_now_letter : Value) (o_t_now_turn : Value) (o_t_now_settled : Value) (o_t_now_gained : Value) (o_t_now_entries : Value) (o_t_now_sent : Value) (o_t_now_way : Value) (o_t_now_seed : Value) (i_t_now_law : Int32) (p1 : Int32) (rv : Int32) (z_i_t_now_law : Int32) (hf : f_X8_law i_t_now_law p1 = some (rv, z_i_t_now_law)) : MI l D cy yX8_law wsX8_law rmX8_law [.ref a_t, .int p1] [(a_t, .inr (8, [o_t_reader, o_t_spoken, o_t_spare, o_t_letters, .ref a_t_now, o_t_images, o_t_kept, o_t_guesses, o_t_guessCount, o_t_book, o_t_changes, o_t_found, o_t_stillOnes, o_t_stillStamp, o_t_paths, o_t_foresight])), (a_t_now, .inr (0, [o_t_now_letter, o_t_now_turn, o_t_now_settled, o_t_now_gained, o_t_now_entries, o_t_now_sent, .int i_t_now_law, o_t_now_way, o_t_now_seed]))] [(a_t, .inr (8, [o_t_reader, o_t_spoken, o_t_spare, o_t_letters, .ref a_t_now, o_t_images, o_t_kept, o_t_guesses, o_t_guessCount, o_t_book, o_t_changes, o_t_found, o_t_stillOnes, o_t_stillStamp, o_t_paths, o_t_foresight])), (a_t_now, .inr (0, [o_t_now_letter, o_t_now_turn, o_t_now_settled, o_t_now_gained, o_t_now_entries, o_t_now_sent, .int z_i_t_now_law, o_t_now_way, o_t_now_seed]))] rv := by
  refine st_I (by decide) rfl (Nat.le_of_ble_eq_true rfl) (fun p e s m below meth c A Q ls C0 hA hK hP hD hS hl hret => ?_)
  obtain ⟨hx, hb, hr, hml, hown, hts, hlocks⟩ := id C0
  have hl : lv_has ls 3 [(0, .ref a_t), (1, .int p1)] := hl
  unfold f_X8_law at hf
  refine lv_iload_n hx hb dX8_law_0 rfl (lv_at hl 1 rfl) ?_
  refine lv_if_lt (tgt := 9) hx hb dX8_law_1 (by decide) (fun c_1 => ?_) (fun c_1 => ?_)
  · have hf := hb_t hf c_1
    refine lv_ldc (v := (-1000000002)) hx hb hown (hts _ mX8_law_95) dX8_law_9 ?_
    obtain ⟨e_0, e_1⟩ := tu2 hf
    subst e_0; subst e_1
    exact hret _ _ _ _ dX8_law_11 rfl hP hS
  · have hf := hb_f hf c_1
    refine lv_iload_n hx hb dX8_law_4 rfl (lv_at hl 1 rfl) ?_
    refine lv_iconst (v := 2) hx hb dX8_law_5 (by decide) ?_
    refine lv_icmp_le (tgt := 12) hx hb dX8_law_6 (by decide) (fun c_2 => ?_) (fun c_2 => ?_)
    · have hf := hb_t hf c_2
      refine lv_aload_n hx hb dX8_law_12 rfl (lv_at hl 0 rfl) ?_
      refine va_get (D := D) (ci := 8) (v := .ref a_t_now) (C := RX8) (T := TX8) (N := 16) hx hb hts uX8_law_X8 hown hK.1.1 hP 0 rfl rfl 4 (by decide) (hts _ mX8_law_38) (fun _ h9 => h9) rfl dX8_law_13 ?_
      refine va_getN (D := D) (ci := 0) (v := .int i_t_now_law) (C := RX0) (T := TX0) (N := 9) hx hb hts uX8_law_X0 hown hK.1.1 hP 1 rfl rfl 6 (by decide) (hK.1.nw _ nw_28) (fun _ h9 => h9) rfl dX8_law_16 ?_
      refine lv_istore_n (lv' := [(2, .int i_t_now_law), (0, .ref a_t), (1, .int p1)]) hx hb dX8_law_19 rfl hl (by decide) rfl (fun ls hl => ?_)
      refine lv_aload_n hx hb dX8_law_20 rfl (lv_at hl 1 rfl) ?_
      refine va_get (D := D) (ci := 8) (v := .ref a_t_now) (C := RX8) (T := TX8) (N := 16) hx hb hts uX8_law_X8 hown hK.1.1 hP 0 rfl rfl 4 (by decide) (hts _ mX8_law_38) (fun _ h9 => h9) rfl dX8_law_21 ?_
      refine lv_iload_n hx hb dX8_law_24 rfl (lv_at hl 2 rfl) ?_
      refine va_putN (D := D) (ci := 0) (v := .int p1) (ty := .int) (C := RX0) (T := TX0) (N := 9) hx hb hts uX8_law_X0 tyX0 tyX0_ok nmX0 hown hK.1.1 hP hD hS 1 rfl rfl 6 (by decide) (hK.1.nw _ nw_28) (fun _ h9 => h9) rfl (by decide +kernel) rfl rfl (Nat.le_of_ble_eq_true rfl) dX8_law_25 (fun H locs hP hD hS => ?_)
      have hP : va_P D vwCl [(a_t, .inr (8, [o_t_reader, o_t_spoken, o_t_spare, o_t_letters, .ref a_t_now, o_t_images, o_t_kept, o_t_guesses, o_t_guessCount, o_t_book, o_t_changes, o_t_found, o_t_stillOnes, o_t_stillStamp, o_t_paths, o_t_foresight])), (a_t_now, .inr (0, [o_t_now_letter, o_t_now_turn, o_t_now_settled, o_t_now_gained, o_t_now_entries, o_t_now_sent, .int p1, o_t_now_way, o_t_now_seed]))] H := hP
      have hD : va_D A [(a_t, .inr (8, [o_t_reader, o_t_spoken, o_t_spare, o_t_letters, .ref a_t_now, o_t_images, o_t_kept, o_t_guesses, o_t_guessCount, o_t_book, o_t_changes, o_t_found, o_t_stillOnes, o_t_stillStamp, o_t_paths, o_t_foresight])), (a_t_now, .inr (0, [o_t_now_letter, o_t_now_turn, o_t_now_settled, o_t_now_gained, o_t_now_entries, o_t_now_sent, .int p1, o_t_now_way, o_t_now_seed]))] := hD
      refine lv_iload_n hx hb dX8_law_28 rfl (lv_at hl 0 rfl) ?_
      obtain ⟨e_0, e_1⟩ := tu2 hf
      subst e_0; subst e_1
      exact hret _ _ _ _ dX8_law_29 rfl hP hS
    · have hf := hb_f hf c_2
      refine lv_ldc (v := (-1000000002)) hx hb hown (hts _ mX8_law_95) dX8_law_9 ?_
      obtain ⟨e_0, e_1⟩ := tu2 hf
      subst e_0; subst e_1
      exact hret _ _ _ _ dX8_law_11 rfl hP hS
theorem mX8_way_95 : Cond.constant RX8 95 (-1000000002) ∈ wsX8_way := by decide +kernel
theorem mX8_way_38 : Cond.fieldLink RX8 38 "OneWordLetters" "now" "LOneWordLetters$Course;" ∈ wsX8_way := by decide +kernel
theorem uX8_way_X8 : ∀ w ∈ wsX80, w ∈ wsX8_way := fun _ h => List.mem_cons_of_mem _ (List.mem_append_left _ (List.mem_append_right _ h))
theorem uX8_way_X0 : ∀ w ∈ wsX00, w ∈ wsX8_way := fun _ h => List.mem_cons_of_mem _ (List.mem_append_right _ h)
abbrev rmX8_way : Room := { frames := 0, cells := 0, slots := 0, locals := 0 }
set_option maxRecDepth 100000 in
set_option maxHeartbeats 4000000 in
theorem c_X8_way (l : Launch) (D : va_G) (cy : Nat → ClassId) (a_t : Nat) (a_t_now : Nat) (o_t_reader : Value) (o_t_spoken : Value) (o_t_spare : Value) (o_t_letters : Value) (o_t_images : Value) (o_t_kept : Value) (o_t_guesses : Value) (o_t_guessCount : Value) (o_t_book : Value) (o_t_changes : Value) (o_t_found : Value) (o_t_stillOnes : Value) (o_t_stillStamp : Value) (o_t_paths : Value) (o_t_foresight : Value) (o_t_now_letter : Value) (o_t_now_turn : Value) (o_t_now_settled : Value) (o_t_now_gained : Value) (o_t_now_entries : Value) (o_t_now_sent : Value) (o_t_now_law : Value) (o_t_now_seed : Value) (i_t_now_way : Int32) (p1 : Int32) (rv : Int32) (z_i_t_now_way : Int32) (hf : f_X8_way i_t_now_way p1 = some (rv, z_i_t_now_way)) : MI l D cy yX8_way wsX8_way rmX8_way [.ref a_t, .int p1] [(a_t, .inr (8, [o_t_reader, o_t_spoken, o_t_spare, o_t_letters, .ref a_t_now, o_t_images, o_t_kept, o_t_guesses, o_t_guessCount, o_t_book, o_t_changes, o_t_found, o_t_stillOnes, o_t_stillStamp, o_t_paths, o_t_foresight])), (a_t_now, .inr (0, [o_t_now_letter, o_t_now_turn, o_t_now_settled, o_t_now_gained, o_t_now_entries, o_t_now_sent, o_t_now_law, .int i_t_now_way, o_t_now_seed]))] [(a_t, .inr (8, [o_t_reader, o_t_spoken, o_t_spare, o_t_letters, .ref a_t_now, o_t_images, o_t_kept, o_t_guesses, o_t_guessCount, o_t_book, o_t_changes, o_t_found, o_t_stillOnes, o_t_stillStamp, o_t_paths, o_t_foresight])), (a_t_now, .inr (0, [o_t_now_letter, o_t_now_turn, o_t_now_settled, o_t_now_gained, o_t_now_entries, o_t_now_sent, o_t_now_law, .int z_i_t_now_way, o_t_now_seed]))] rv := by
  refine st_I (by decide) rfl (Nat.le_of_ble_eq_true rfl) (fun p e s m below meth c A Q ls C0 hA hK hP hD hS hl hret => ?_)
  obtain ⟨hx, hb, hr, hml, hown, hts, hlocks⟩ := id C0
  have hl : lv_has ls 3 [(0, .ref a_t), (1, .int p1)] := hl
  unfold f_X8_way at hf
  refine lv_iload_n hx hb dX8_way_0 rfl (lv_at hl 1 rfl) ?_
  refine lv_if_lt (tgt := 9) hx hb dX8_way_1 (by decide) (fun c_1 => ?_) (fun c_1 => ?_)
  · have hf := hb_t hf c_1
    refine lv_ldc (v := (-1000000002)) hx hb hown (hts _ mX8_way_95) dX8_way_9 ?_
    obtain ⟨e_0, e_1⟩ := tu2 hf
    subst e_0; subst e_1
    exact hret _ _ _ _ dX8_way_11 rfl hP hS
  · have hf := hb_f hf c_1
    refine lv_iload_n hx hb dX8_way_4 rfl (lv_at hl 1 rfl) ?_
    refine lv_iconst (v := 1) hx hb dX8_way_5 (by decide) ?_
    refine lv_icmp_le (tgt := 12) hx hb dX8_way_6 (by decide) (fun c_2 => ?_) (fun c_2 => ?_)
    · have hf := hb_t hf c_2
      refine lv_aload_n hx hb dX8_way_12 rfl (lv_at hl 0 rfl) ?_
      refine va_get (D := D) (ci := 8) (v := .ref a_t_now) (C := RX8) (T := TX8) (N := 16) hx hb hts uX8_way_X8 hown hK.1.1 hP 0 rfl rfl 4 (by decide) (hts _ mX8_way_38) (fun _ h9 => h9) rfl dX8_way_13 ?_
      refine va_getN (D := D) (ci := 0) (v := .int i_t_now_way) (C := RX0) (T := TX0) (N := 9) hx hb hts uX8_way_X0 hown hK.1.1 hP 1 rfl rfl 7 (by decide) (hK.1.nw _ nw_29) (fun _ h9 => h9) rfl dX8_way_16 ?_
      refine lv_istore_n (lv' := [(2, .int i_t_now_way), (0, .ref a_t), (1, .int p1)]) hx hb dX8_way_19 rfl hl (by decide) rfl (fun ls hl => ?_)
      refine lv_aload_n hx hb dX8_way_20 rfl (lv_at hl 1 rfl) ?_
      refine va_get (D := D) (ci := 8) (v := .ref a_t_now) (C := RX8) (T := TX8) (N := 16) hx hb hts uX8_way_X8 hown hK.1.1 hP 0 rfl rfl 4 (by decide) (hts _ mX8_way_38) (fun _ h9 => h9) rfl dX8_way_21 ?_
      refine lv_iload_n hx hb dX8_way_24 rfl (lv_at hl 2 rfl) ?_
      refine va_putN (D := D) (ci := 0) (v := .int p1) (ty := .int) (C := RX0) (T := TX0) (N := 9) hx hb hts uX8_way_X0 tyX0 tyX0_ok nmX0 hown hK.1.1 hP hD hS 1 rfl rfl 7 (by decide) (hK.1.nw _ nw_29) (fun _ h9 => h9) rfl (by decide +kernel) rfl rfl (Nat.le_of_ble_eq_true rfl) dX8_way_25 (fun H locs hP hD hS => ?_)
      have hP : va_P D vwCl [(a_t, .inr (8, [o_t_reader, o_t_spoken, o_t_spare, o_t_letters, .ref a_t_now, o_t_images, o_t_kept, o_t_guesses, o_t_guessCount, o_t_book, o_t_changes, o_t_found, o_t_stillOnes, o_t_stillStamp, o_t_paths, o_t_foresight])), (a_t_now, .inr (0, [o_t_now_letter, o_t_now_turn, o_t_now_settled, o_t_now_gained, o_t_now_entries, o_t_now_sent, o_t_now_law, .int p1, o_t_now_seed]))] H := hP
      have hD : va_D A [(a_t, .inr (8, [o_t_reader, o_t_spoken, o_t_spare, o_t_letters, .ref a_t_now, o_t_images, o_t_kept, o_t_guesses, o_t_guessCount, o_t_book, o_t_changes, o_t_found, o_t_stillOnes, o_t_stillStamp, o_t_paths, o_t_foresight])), (a_t_now, .inr (0, [o_t_now_letter, o_t_now_turn, o_t_now_settled, o_t_now_gained, o_t_now_entries, o_t_now_sent, o_t_now_law, .int p1, o_t_now_seed]))] := hD
      refine lv_iload_n hx hb dX8_way_28 rfl (lv_at hl 0 rfl) ?_
      obtain ⟨e_0, e_1⟩ := tu2 hf
      subst e_0; subst e_1
      exact hret _ _ _ _ dX8_way_29 rfl hP hS
    · have hf := hb_f hf c_2
      refine lv_ldc (v := (-1000000002)) hx hb hown (hts _ mX8_way_95) dX8_way_9 ?_
      obtain ⟨e_0, e_1⟩ := tu2 hf
      subst e_0; subst e_1
      exact hret _ _ _ _ dX8_way_11 rfl hP hS
theorem mX8_listChanges_31 : Cond.fieldLink RX8 31 "OneWordLetters" "letters" "LOneWordLetters$Letters;" ∈ wsX8_listChanges := by decide +kernel
theorem uX8_listChanges_X8 : ∀ w ∈ wsX80, w ∈ wsX8_listChanges := fun _ h => List.mem_cons_of_mem _ (List.mem_append_left _ (List.mem_append_left _ (List.mem_append_left _ (List.mem_append_left _ (List.mem_append_right _ h)))))
theorem mX8_listChanges_38 : Cond.fieldLink RX8 38 "OneWordLetters" "now" "LOneWordLetters$Course;" ∈ wsX8_listChanges := by decide +kernel
theorem uX8_listChanges_X0 : ∀ w ∈ wsX00, w ∈ wsX8_listChanges := fun _ h => List.mem_cons_of_mem _ (List.mem_append_left _ (List.mem_append_left _ (List.mem_append_left _ (List.mem_append_right _ h))))
theorem mX8_listChanges_65 : Cond.fieldLink RX8 65 "OneWordLetters" "changes" "LOneWordLetters$Row;" ∈ wsX8_listChanges := by decide +kernel
abbrev rmX8_listChanges : Room := { frames := 3, cells := 0, slots := 0, locals := 74 }
set_option maxRecDepth 100000 in
set_option maxHeartbeats 4000000 in
theorem c_X8_listChanges (l : Launch) (D : va_G) (cy : Nat → ClassId) (a_t : Nat) (a_t_letters : Nat) (a_t_now : Nat) (a_t_changes : Nat) (a_t_spoken : Nat) (a_t_spoken_scales : Nat) (a_t_changes_letters : Nat) (a_t_letters_sense : Nat) (o_t_reader : Value) (o_t_spoken : Value) (o_t_spare : Value) (o_t_images : Value) (o_t_kept : Value) (o_t_guesses : Value) (o_t_guessCount : Value) (o_t_book : Value) (o_t_found : Value) (o_t_stillOnes : Value) (o_t_stillStamp : Value) (o_t_paths : Value) (o_t_foresight : Value) (o_t_letters_tongues : Value) (o_t_letters_standing : Value) (o_t_letters_worthToOne : Value) (o_t_letters_worthToOther : Value) (o_t_now_letter : Value) (o_t_now_turn : Value) (o_t_now_settled : Value) (o_t_now_gained : Value) (o_t_now_entries : Value) (o_t_now_sent : Value) (o_t_now_seed : Value) (o_t_spoken_frames : Value) (o_t_spoken_pairs : Value) (o_t_spoken_kinds : Value) (o_t_spoken_worths : Value) (o_t_spoken_framed : Value) (o_t_spoken_paired : Value) (o_t_spoken_pairWorths : Value) (i_t_letters_size : Int32) (i_t_now_law : Int32) (i_t_now_way : Int32) (i_t_spoken_length : Int32) (i_t_spoken_words : Int32) (f_t_spoken_scales : Nat → Int32) (n_t_changes_letters : Nat) (n_t_letters_sense : Nat) (f_t_letters_sense : Nat → Int32) (i_t_changes_count : Int32) (f_t_changes_letters : Nat → Int32) (p1 : Int32) (z_i_t_changes_count : Int32) (z_f_t_changes_letters : Nat → Int32) (hf : f_X8_listChanges i_t_letters_size i_t_now_law i_t_now_way i_t_spoken_length i_t_spoken_words f_t_spoken_scales n_t_changes_letters n_t_letters_sense f_t_letters_sense i_t_changes_count f_t_changes_letters p1 = some (z_i_t_changes_count, z_f_t_changes_letters)) : MV l D cy yX8_listChanges wsX8_listChanges rmX8_listChanges [.ref a_t, .int p1] [(a_t, .inr (8, [o_t_reader, o_t_spoken, o_t_spare, .ref a_t_letters, .ref a_t_now, o_t_images, o_t_kept, o_t_guesses, o_t_guessCount, o_t_book, .ref a_t_changes, o_t_found, o_t_stillOnes, o_t_stillStamp, o_t_paths, o_t_foresight])), (a_t_letters, .inr (3, [.ref a_t_spoken, o_t_letters_tongues, .int i_t_letters_size, o_t_letters_standing, .ref a_t_letters_sense, o_t_letters_worthToOne, o_t_letters_worthToOther])), (a_t_now, .inr (0, [o_t_now_letter, o_t_now_turn, o_t_now_settled, o_t_now_gained, o_t_now_entries, o_t_now_sent, .int i_t_now_law, .int i_t_now_way, o_t_now_seed])), (a_t_changes, .inr (6, [.ref a_t_changes_letters, .int i_t_changes_count])), (a_t_spoken, .inr (7, [.int i_t_spoken_length, .int i_t_spoken_words, o_t_spoken_frames, o_t_spoken_pairs, o_t_spoken_kinds, o_t_spoken_worths, o_t_spoken_framed, o_t_spoken_paired, o_t_spoken_pairWorths, .ref a_t_spoken_scales])), (a_t_spoken_scales, .inl (cy 0, 5, .inl f_t_spoken_scales)), (a_t_changes_letters, .inl (cy 0, n_t_changes_letters, .inl f_t_changes_letters)), (a_t_letters_sense, .inl (cy 1, n_t_letters_sense, .inl f_t_letters_sense))] [(a_t, .inr (8, [o_t_reader, o_t_spoken, o_t_spare, .ref a_t_letters, .ref a_t_now, o_t_images, o_t_kept, o_t_guesses, o_t_guessCount, o_t_book, .ref a_t_changes, o_t_found, o_t_stillOnes, o_t_stillStamp, o_t_paths, o_t_foresight])), (a_t_letters, .inr (3, [.ref a_t_spoken, o_t_letters_tongues, .int i_t_letters_size, o_t_letters_standing, .ref a_t_letters_sense, o_t_letters_worthToOne, o_t_letters_worthToOther])), (a_t_now, .inr (0, [o_t_now_letter, o_t_now_turn, o_t_now_settled, o_t_now_gained, o_t_now_entries, o_t_now_sent, .int i_t_now_law, .int i_t_now_way, o_t_now_seed])), (a_t_changes, .inr (6, [.ref a_t_changes_letters, .int z_i_t_changes_count])), (a_t_spoken, .inr (7, [.int i_t_spoken_length, .int i_t_spoken_words, o_t_spoken_frames, o_t_spoken_pairs, o_t_spoken_kinds, o_t_spoken_worths, o_t_spoken_framed, o_t_spoken_paired, o_t_spoken_pairWorths, .ref a_t_spoken_scales])), (a_t_spoken_scales, .inl (cy 0, 5, .inl f_t_spoken_scales)), (a_t_changes_letters, .inl (cy 0, n_t_changes_letters, .inl z_f_t_changes_letters)), (a_t_letters_sense, .inl (cy 1, n_t_letters_sense, .inl f_t_letters_sense))] := by
  refine st_V (by decide) rfl (Nat.le_of_ble_eq_true rfl) (fun p e s m below meth c A Q ls C0 hA hK hP hD hS hl hret => ?_)
  obtain ⟨hx, hb, hr, hml, hown, hts, hlocks⟩ := id C0
  have hl : lv_has ls 2 [(0, .ref a_t), (1, .int p1)] := hl
  unfold f_X8_listChanges at hf
  refine lv_aload_n hx hb dX8_listChanges_0 rfl (lv_at hl 0 rfl) ?_
  refine va_get (D := D) (ci := 8) (v := .ref a_t_letters) (C := RX8) (T := TX8) (N := 16) hx hb hts uX8_listChanges_X8 hown hK.1.1 hP 0 rfl rfl 3 (by decide) (hts _ mX8_listChanges_31) (fun _ h9 => h9) rfl dX8_listChanges_1 ?_
  refine lv_iload_n hx hb dX8_listChanges_4 rfl (lv_at hl 1 rfl) ?_
  refine lv_aload_n hx hb dX8_listChanges_5 rfl (lv_at hl 0 rfl) ?_
  refine va_get (D := D) (ci := 8) (v := .ref a_t_now) (C := RX8) (T := TX8) (N := 16) hx hb hts uX8_listChanges_X8 hown hK.1.1 hP 0 rfl rfl 4 (by decide) (hts _ mX8_listChanges_38) (fun _ h9 => h9) rfl dX8_listChanges_6 ?_
  refine va_getN (D := D) (ci := 0) (v := .int i_t_now_law) (C := RX0) (T := TX0) (N := 9) hx hb hts uX8_listChanges_X0 hown hK.1.1 hP 2 rfl rfl 6 (by decide) (hK.1.nw _ nw_28) (fun _ h9 => h9) rfl dX8_listChanges_9 ?_
  refine lv_aload_n hx hb dX8_listChanges_12 rfl (lv_at hl 0 rfl) ?_
  refine va_get (D := D) (ci := 8) (v := .ref a_t_now) (C := RX8) (T := TX8) (N := 16) hx hb hts uX8_listChanges_X8 hown hK.1.1 hP 0 rfl rfl 4 (by decide) (hts _ mX8_listChanges_38) (fun _ h9 => h9) rfl dX8_listChanges_13 ?_
  refine va_getN (D := D) (ci := 0) (v := .int i_t_now_way) (C := RX0) (T := TX0) (N := 9) hx hb hts uX8_listChanges_X0 hown hK.1.1 hP 2 rfl rfl 7 (by decide) (hK.1.nw _ nw_29) (fun _ h9 => h9) rfl dX8_listChanges_16 ?_
  refine lv_iconst (v := 1) hx hb dX8_listChanges_19 (by decide) ?_
  refine lv_icmp_ne (tgt := 27) hx hb dX8_listChanges_20 (by decide) (fun c_1 => ?_) (fun c_1 => ?_)
  · have hf := hb_f hf c_1
    refine lv_iconst (v := 0) hx hb dX8_listChanges_27 (by decide) ?_
    refine lv_aload_n hx hb dX8_listChanges_28 rfl (lv_at hl 0 rfl) ?_
    refine va_get (D := D) (ci := 8) (v := .ref a_t_changes) (C := RX8) (T := TX8) (N := 16) hx hb hts uX8_listChanges_X8 hown hK.1.1 hP 0 rfl rfl 10 (by decide) (hts _ mX8_listChanges_65) (fun _ h9 => h9) rfl dX8_listChanges_29 ?_
    obtain ⟨⟨z_2, z_3⟩, hc_4, hf⟩ := hb_b hf
    refine cl_Vv (rest := []) [1, 3, 4, 5, 6, 7] [none, some 0, none, some 1, some 2, some 3, some 4, some 5] 8 1 C0 hK hP hD hS hA (c_X3_listChanges l D cy a_t_letters a_t_changes a_t_spoken a_t_spoken_scales a_t_changes_letters a_t_letters_sense o_t_letters_tongues o_t_letters_standing o_t_letters_worthToOne o_t_letters_worthToOther o_t_spoken_frames o_t_spoken_pairs o_t_spoken_kinds o_t_spoken_worths o_t_spoken_framed o_t_spoken_paired o_t_spoken_pairWorths i_t_letters_size i_t_spoken_length i_t_spoken_words f_t_spoken_scales n_t_changes_letters n_t_letters_sense f_t_letters_sense i_t_changes_count f_t_changes_letters p1 i_t_now_law 0 z_2 z_3 hc_4) (cwV 4 hts gX8_listChanges_X3_listChanges rfl rfl rfl (by decide +kernel) ⟨Nat.le_of_ble_eq_true rfl, Nat.le_of_ble_eq_true rfl⟩) rfl (by decide) rfl rfl rfl rfl rfl rfl rfl hl.1 rfl (Nat.le_of_ble_eq_true rfl) dX8_listChanges_32 ⟨Nat.zero_le _, Nat.zero_le _⟩ (fun H locs hP hD hS => ?_)
    have hP : va_P D vwCl [(a_t, .inr (8, [o_t_reader, o_t_spoken, o_t_spare, .ref a_t_letters, .ref a_t_now, o_t_images, o_t_kept, o_t_guesses, o_t_guessCount, o_t_book, .ref a_t_changes, o_t_found, o_t_stillOnes, o_t_stillStamp, o_t_paths, o_t_foresight])), (a_t_letters, .inr (3, [.ref a_t_spoken, o_t_letters_tongues, .int i_t_letters_size, o_t_letters_standing, .ref a_t_letters_sense, o_t_letters_worthToOne, o_t_letters_worthToOther])), (a_t_now, .inr (0, [o_t_now_letter, o_t_now_turn, o_t_now_settled, o_t_now_gained, o_t_now_entries, o_t_now_sent, .int i_t_now_law, .int i_t_now_way, o_t_now_seed])), (a_t_changes, .inr (6, [.ref a_t_changes_letters, .int z_2])), (a_t_spoken, .inr (7, [.int i_t_spoken_length, .int i_t_spoken_words, o_t_spoken_frames, o_t_spoken_pairs, o_t_spoken_kinds, o_t_spoken_worths, o_t_spoken_framed, o_t_spoken_paired, o_t_spoken_pairWorths, .ref a_t_spoken_scales])), (a_t_spoken_scales, .inl (cy 0, 5, .inl f_t_spoken_scales)), (a_t_changes_letters, .inl (cy 0, n_t_changes_letters, .inl z_3)), (a_t_letters_sense, .inl (cy 1, n_t_letters_sense, .inl f_t_letters_sense))] H := hP
    have hD : va_D A [(a_t, .inr (8, [o_t_reader, o_t_spoken, o_t_spare, .ref a_t_letters, .ref a_t_now, o_t_images, o_t_kept, o_t_guesses, o_t_guessCount, o_t_book, .ref a_t_changes, o_t_found, o_t_stillOnes, o_t_stillStamp, o_t_paths, o_t_foresight])), (a_t_letters, .inr (3, [.ref a_t_spoken, o_t_letters_tongues, .int i_t_letters_size, o_t_letters_standing, .ref a_t_letters_sense, o_t_letters_worthToOne, o_t_letters_worthToOther])), (a_t_now, .inr (0, [o_t_now_letter, o_t_now_turn, o_t_now_settled, o_t_now_gained, o_t_now_entries, o_t_now_sent, .int i_t_now_law, .int i_t_now_way, o_t_now_seed])), (a_t_changes, .inr (6, [.ref a_t_changes_letters, .int z_2])), (a_t_spoken, .inr (7, [.int i_t_spoken_length, .int i_t_spoken_words, o_t_spoken_frames, o_t_spoken_pairs, o_t_spoken_kinds, o_t_spoken_worths, o_t_spoken_framed, o_t_spoken_paired, o_t_spoken_pairWorths, .ref a_t_spoken_scales])), (a_t_spoken_scales, .inl (cy 0, 5, .inl f_t_spoken_scales)), (a_t_changes_letters, .inl (cy 0, n_t_changes_letters, .inl z_3)), (a_t_letters_sense, .inl (cy 1, n_t_letters_sense, .inl f_t_letters_sense))] := hD
    obtain ⟨e_0, e_1⟩ := tu2 hf
    subst e_0; subst e_1
    exact hret _ _ _ _ dX8_listChanges_35 hP hS
  · have hf := hb_t hf c_1
    refine lv_iconst (v := 1) hx hb dX8_listChanges_23 (by decide) ?_
    refine lv_goto (tgt := 28) hx hb dX8_listChanges_24 (by decide) ?_
    refine lv_aload_n hx hb dX8_listChanges_28 rfl (lv_at hl 0 rfl) ?_
    refine va_get (D := D) (ci := 8) (v := .ref a_t_changes) (C := RX8) (T := TX8) (N := 16) hx hb hts uX8_listChanges_X8 hown hK.1.1 hP 0 rfl rfl 10 (by decide) (hts _ mX8_listChanges_65) (fun _ h9 => h9) rfl dX8_listChanges_29 ?_
    obtain ⟨⟨z_5, z_6⟩, hc_7, hf⟩ := hb_b hf
    refine cl_Vv (rest := []) [1, 3, 4, 5, 6, 7] [none, some 0, none, some 1, some 2, some 3, some 4, some 5] 8 1 C0 hK hP hD hS hA (c_X3_listChanges l D cy a_t_letters a_t_changes a_t_spoken a_t_spoken_scales a_t_changes_letters a_t_letters_sense o_t_letters_tongues o_t_letters_standing o_t_letters_worthToOne o_t_letters_worthToOther o_t_spoken_frames o_t_spoken_pairs o_t_spoken_kinds o_t_spoken_worths o_t_spoken_framed o_t_spoken_paired o_t_spoken_pairWorths i_t_letters_size i_t_spoken_length i_t_spoken_words f_t_spoken_scales n_t_changes_letters n_t_letters_sense f_t_letters_sense i_t_changes_count f_t_changes_letters p1 i_t_now_law 1 z_5 z_6 hc_7) (cwV 4 hts gX8_listChanges_X3_listChanges rfl rfl rfl (by decide +kernel) ⟨Nat.le_of_ble_eq_true rfl, Nat.le_of_ble_eq_true rfl⟩) rfl (by decide) rfl rfl rfl rfl rfl rfl rfl hl.1 rfl (Nat.le_of_ble_eq_true rfl) dX8_listChanges_32 ⟨Nat.zero_le _, Nat.zero_le _⟩ (fun H locs hP hD hS => ?_)
    have hP : va_P D vwCl [(a_t, .inr (8, [o_t_reader, o_t_spoken, o_t_spare, .ref a_t_letters, .ref a_t_now, o_t_images, o_t_kept, o_t_guesses, o_t_guessCount, o_t_book, .ref a_t_changes, o_t_found, o_t_stillOnes, o_t_stillStamp, o_t_paths, o_t_foresight])), (a_t_letters, .inr (3, [.ref a_t_spoken, o_t_letters_tongues, .int i_t_letters_size, o_t_letters_standing, .ref a_t_letters_sense, o_t_letters_worthToOne, o_t_letters_worthToOther])), (a_t_now, .inr (0, [o_t_now_letter, o_t_now_turn, o_t_now_settled, o_t_now_gained, o_t_now_entries, o_t_now_sent, .int i_t_now_law, .int i_t_now_way, o_t_now_seed])), (a_t_changes, .inr (6, [.ref a_t_changes_letters, .int z_5])), (a_t_spoken, .inr (7, [.int i_t_spoken_length, .int i_t_spoken_words, o_t_spoken_frames, o_t_spoken_pairs, o_t_spoken_kinds, o_t_spoken_worths, o_t_spoken_framed, o_t_spoken_paired, o_t_spoken_pairWorths, .ref a_t_spoken_scales])), (a_t_spoken_scales, .inl (cy 0, 5, .inl f_t_spoken_scales)), (a_t_changes_letters, .inl (cy 0, n_t_changes_letters, .inl z_6)), (a_t_letters_sense, .inl (cy 1, n_t_letters_sense, .inl f_t_letters_sense))] H := hP
    have hD : va_D A [(a_t, .inr (8, [o_t_reader, o_t_spoken, o_t_spare, .ref a_t_letters, .ref a_t_now, o_t_images, o_t_kept, o_t_guesses, o_t_guessCount, o_t_book, .ref a_t_changes, o_t_found, o_t_stillOnes, o_t_stillStamp, o_t_paths, o_t_foresight])), (a_t_letters, .inr (3, [.ref a_t_spoken, o_t_letters_tongues, .int i_t_letters_size, o_t_letters_standing, .ref a_t_letters_sense, o_t_letters_worthToOne, o_t_letters_worthToOther])), (a_t_now, .inr (0, [o_t_now_letter, o_t_now_turn, o_t_now_settled, o_t_now_gained, o_t_now_entries, o_t_now_sent, .int i_t_now_law, .int i_t_now_way, o_t_now_seed])), (a_t_changes, .inr (6, [.ref a_t_changes_letters, .int z_5])), (a_t_spoken, .inr (7, [.int i_t_spoken_length, .int i_t_spoken_words, o_t_spoken_frames, o_t_spoken_pairs, o_t_spoken_kinds, o_t_spoken_worths, o_t_spoken_framed, o_t_spoken_paired, o_t_spoken_pairWorths, .ref a_t_spoken_scales])), (a_t_spoken_scales, .inl (cy 0, 5, .inl f_t_spoken_scales)), (a_t_changes_letters, .inl (cy 0, n_t_changes_letters, .inl z_6)), (a_t_letters_sense, .inl (cy 1, n_t_letters_sense, .inl f_t_letters_sense))] := hD
    obtain ⟨e_0, e_1⟩ := tu2 hf
    subst e_0; subst e_1
    exact hret _ _ _ _ dX8_listChanges_35 hP hS
theorem mX8_change_65 : Cond.fieldLink RX8 65 "OneWordLetters" "changes" "LOneWordLetters$Row;" ∈ wsX8_change := by decide +kernel
theorem uX8_change_X8 : ∀ w ∈ wsX80, w ∈ wsX8_change := fun _ h => List.mem_cons_of_mem _ (List.mem_append_left _ (List.mem_append_left _ (List.mem_append_left _ (List.mem_append_left _ (List.mem_append_right _ h)))))
theorem mX8_change_95 : Cond.constant RX8 95 (-1000000002) ∈ wsX8_change := by decide +kernel
abbrev rmX8_change : Room := { frames := 4, cells := 0, slots := 0, locals := 95 }
set_option maxRecDepth 100000 in
set_option maxHeartbeats 4000000 in
theorem c_X8_change (l : Launch) (D : va_G) (cy : Nat → ClassId) (a_t : Nat) (a_t_letters : Nat) (a_t_now : Nat) (a_t_changes : Nat) (a_t_spoken : Nat) (a_t_spoken_scales : Nat) (a_t_changes_letters : Nat) (a_t_letters_sense : Nat) (o_t_reader : Value) (o_t_spare : Value) (o_t_images : Value) (o_t_kept : Value) (o_t_guesses : Value) (o_t_guessCount : Value) (o_t_book : Value) (o_t_found : Value) (o_t_stillOnes : Value) (o_t_stillStamp : Value) (o_t_paths : Value) (o_t_foresight : Value) (o_t_letters_tongues : Value) (o_t_letters_standing : Value) (o_t_letters_worthToOne : Value) (o_t_letters_worthToOther : Value) (o_t_now_letter : Value) (o_t_now_turn : Value) (o_t_now_settled : Value) (o_t_now_gained : Value) (o_t_now_entries : Value) (o_t_now_sent : Value) (o_t_now_seed : Value) (o_t_spoken_frames : Value) (o_t_spoken_pairs : Value) (o_t_spoken_kinds : Value) (o_t_spoken_worths : Value) (o_t_spoken_framed : Value) (o_t_spoken_paired : Value) (o_t_spoken_pairWorths : Value) (i_t_letters_size : Int32) (i_t_now_law : Int32) (i_t_now_way : Int32) (i_t_spoken_length : Int32) (i_t_spoken_words : Int32) (f_t_spoken_scales : Nat → Int32) (n_t_changes_letters : Nat) (n_t_letters_sense : Nat) (f_t_letters_sense : Nat → Int32) (i_t_changes_count : Int32) (f_t_changes_letters : Nat → Int32) (p1 : Int32) (p2 : Int32) (rv : Int32) (z_i_t_changes_count : Int32) (z_f_t_changes_letters : Nat → Int32) (hf : f_X8_change i_t_letters_size i_t_now_law i_t_now_way i_t_spoken_length i_t_spoken_words f_t_spoken_scales n_t_changes_letters n_t_letters_sense f_t_letters_sense i_t_changes_count f_t_changes_letters p1 p2 = some (rv, z_i_t_changes_count, z_f_t_changes_letters)) : MI l D cy yX8_change wsX8_change rmX8_change [.ref a_t, .int p1, .int p2] [(a_t, .inr (8, [o_t_reader, .ref a_t_spoken, o_t_spare, .ref a_t_letters, .ref a_t_now, o_t_images, o_t_kept, o_t_guesses, o_t_guessCount, o_t_book, .ref a_t_changes, o_t_found, o_t_stillOnes, o_t_stillStamp, o_t_paths, o_t_foresight])), (a_t_letters, .inr (3, [.ref a_t_spoken, o_t_letters_tongues, .int i_t_letters_size, o_t_letters_standing, .ref a_t_letters_sense, o_t_letters_worthToOne, o_t_letters_worthToOther])), (a_t_now, .inr (0, [o_t_now_letter, o_t_now_turn, o_t_now_settled, o_t_now_gained, o_t_now_entries, o_t_now_sent, .int i_t_now_law, .int i_t_now_way, o_t_now_seed])), (a_t_changes, .inr (6, [.ref a_t_changes_letters, .int i_t_changes_count])), (a_t_spoken, .inr (7, [.int i_t_spoken_length, .int i_t_spoken_words, o_t_spoken_frames, o_t_spoken_pairs, o_t_spoken_kinds, o_t_spoken_worths, o_t_spoken_framed, o_t_spoken_paired, o_t_spoken_pairWorths, .ref a_t_spoken_scales])), (a_t_spoken_scales, .inl (cy 0, 5, .inl f_t_spoken_scales)), (a_t_changes_letters, .inl (cy 0, n_t_changes_letters, .inl f_t_changes_letters)), (a_t_letters_sense, .inl (cy 1, n_t_letters_sense, .inl f_t_letters_sense))] [(a_t, .inr (8, [o_t_reader, .ref a_t_spoken, o_t_spare, .ref a_t_letters, .ref a_t_now, o_t_images, o_t_kept, o_t_guesses, o_t_guessCount, o_t_book, .ref a_t_changes, o_t_found, o_t_stillOnes, o_t_stillStamp, o_t_paths, o_t_foresight])), (a_t_letters, .inr (3, [.ref a_t_spoken, o_t_letters_tongues, .int i_t_letters_size, o_t_letters_standing, .ref a_t_letters_sense, o_t_letters_worthToOne, o_t_letters_worthToOther])), (a_t_now, .inr (0, [o_t_now_letter, o_t_now_turn, o_t_now_settled, o_t_now_gained, o_t_now_entries, o_t_now_sent, .int i_t_now_law, .int i_t_now_way, o_t_now_seed])), (a_t_changes, .inr (6, [.ref a_t_changes_letters, .int z_i_t_changes_count])), (a_t_spoken, .inr (7, [.int i_t_spoken_length, .int i_t_spoken_words, o_t_spoken_frames, o_t_spoken_pairs, o_t_spoken_kinds, o_t_spoken_worths, o_t_spoken_framed, o_t_spoken_paired, o_t_spoken_pairWorths, .ref a_t_spoken_scales])), (a_t_spoken_scales, .inl (cy 0, 5, .inl f_t_spoken_scales)), (a_t_changes_letters, .inl (cy 0, n_t_changes_letters, .inl z_f_t_changes_letters)), (a_t_letters_sense, .inl (cy 1, n_t_letters_sense, .inl f_t_letters_sense))] rv := by
  refine st_I (by decide) rfl (Nat.le_of_ble_eq_true rfl) (fun p e s m below meth c A Q ls C0 hA hK hP hD hS hl hret => ?_)
  obtain ⟨hx, hb, hr, hml, hown, hts, hlocks⟩ := id C0
  have hl : lv_has ls 3 [(0, .ref a_t), (1, .int p1), (2, .int p2)] := hl
  unfold f_X8_change at hf
  refine lv_aload_n hx hb dX8_change_0 rfl (lv_at hl 0 rfl) ?_
  refine lv_iload_n hx hb dX8_change_1 rfl (lv_at hl 1 rfl) ?_
  obtain ⟨r_1, hc_2, hf⟩ := hb_b hf
  refine cl_Vi (rest := []) [0, 1] [some 0, some 1, none, none, none, none, none, none] 8 0 C0 hK hP hD hS hA (c_X8_isLetter l D cy a_t a_t_letters o_t_reader (.ref a_t_spoken) o_t_spare (.ref a_t_now) o_t_images o_t_kept o_t_guesses o_t_guessCount o_t_book (.ref a_t_changes) o_t_found o_t_stillOnes o_t_stillStamp o_t_paths o_t_foresight (.ref a_t_spoken) o_t_letters_tongues o_t_letters_standing (.ref a_t_letters_sense) o_t_letters_worthToOne o_t_letters_worthToOther i_t_letters_size p1 r_1 hc_2) (cwV 1 hts gX8_change_X8_isLetter rfl rfl rfl (by decide +kernel) ⟨Nat.le_of_ble_eq_true rfl, Nat.le_of_ble_eq_true rfl⟩) rfl (by decide) rfl rfl rfl rfl rfl rfl rfl hl.1 rfl (Nat.le_of_ble_eq_true rfl) dX8_change_2 ⟨Nat.zero_le _, Nat.zero_le _⟩ (fun H locs hP hD hS => ?_)
  have hP : va_P D vwCl [(a_t, .inr (8, [o_t_reader, .ref a_t_spoken, o_t_spare, .ref a_t_letters, .ref a_t_now, o_t_images, o_t_kept, o_t_guesses, o_t_guessCount, o_t_book, .ref a_t_changes, o_t_found, o_t_stillOnes, o_t_stillStamp, o_t_paths, o_t_foresight])), (a_t_letters, .inr (3, [.ref a_t_spoken, o_t_letters_tongues, .int i_t_letters_size, o_t_letters_standing, .ref a_t_letters_sense, o_t_letters_worthToOne, o_t_letters_worthToOther])), (a_t_now, .inr (0, [o_t_now_letter, o_t_now_turn, o_t_now_settled, o_t_now_gained, o_t_now_entries, o_t_now_sent, .int i_t_now_law, .int i_t_now_way, o_t_now_seed])), (a_t_changes, .inr (6, [.ref a_t_changes_letters, .int i_t_changes_count])), (a_t_spoken, .inr (7, [.int i_t_spoken_length, .int i_t_spoken_words, o_t_spoken_frames, o_t_spoken_pairs, o_t_spoken_kinds, o_t_spoken_worths, o_t_spoken_framed, o_t_spoken_paired, o_t_spoken_pairWorths, .ref a_t_spoken_scales])), (a_t_spoken_scales, .inl (cy 0, 5, .inl f_t_spoken_scales)), (a_t_changes_letters, .inl (cy 0, n_t_changes_letters, .inl f_t_changes_letters)), (a_t_letters_sense, .inl (cy 1, n_t_letters_sense, .inl f_t_letters_sense))] H := hP
  have hD : va_D A [(a_t, .inr (8, [o_t_reader, .ref a_t_spoken, o_t_spare, .ref a_t_letters, .ref a_t_now, o_t_images, o_t_kept, o_t_guesses, o_t_guessCount, o_t_book, .ref a_t_changes, o_t_found, o_t_stillOnes, o_t_stillStamp, o_t_paths, o_t_foresight])), (a_t_letters, .inr (3, [.ref a_t_spoken, o_t_letters_tongues, .int i_t_letters_size, o_t_letters_standing, .ref a_t_letters_sense, o_t_letters_worthToOne, o_t_letters_worthToOther])), (a_t_now, .inr (0, [o_t_now_letter, o_t_now_turn, o_t_now_settled, o_t_now_gained, o_t_now_entries, o_t_now_sent, .int i_t_now_law, .int i_t_now_way, o_t_now_seed])), (a_t_changes, .inr (6, [.ref a_t_changes_letters, .int i_t_changes_count])), (a_t_spoken, .inr (7, [.int i_t_spoken_length, .int i_t_spoken_words, o_t_spoken_frames, o_t_spoken_pairs, o_t_spoken_kinds, o_t_spoken_worths, o_t_spoken_framed, o_t_spoken_paired, o_t_spoken_pairWorths, .ref a_t_spoken_scales])), (a_t_spoken_scales, .inl (cy 0, 5, .inl f_t_spoken_scales)), (a_t_changes_letters, .inl (cy 0, n_t_changes_letters, .inl f_t_changes_letters)), (a_t_letters_sense, .inl (cy 1, n_t_letters_sense, .inl f_t_letters_sense))] := hD
  refine lv_if_ne (tgt := 11) hx hb dX8_change_5 (by decide) (fun c_3 => ?_) (fun c_3 => ?_)
  · have hf := hb_f hf c_3
    refine lv_aload_n hx hb dX8_change_11 rfl (lv_at hl 0 rfl) ?_
    refine lv_iload_n hx hb dX8_change_12 rfl (lv_at hl 1 rfl) ?_
    obtain ⟨⟨z_4, z_5⟩, hc_6, hf⟩ := hb_b hf
    refine cl_Vv (rest := []) [0, 1, 2, 3, 4, 5, 6, 7] [some 0, some 1, some 2, some 3, some 4, some 5, some 6, some 7] 8 0 C0 hK hP hD hS hA (c_X8_listChanges l D cy a_t a_t_letters a_t_now a_t_changes a_t_spoken a_t_spoken_scales a_t_changes_letters a_t_letters_sense o_t_reader (.ref a_t_spoken) o_t_spare o_t_images o_t_kept o_t_guesses o_t_guessCount o_t_book o_t_found o_t_stillOnes o_t_stillStamp o_t_paths o_t_foresight o_t_letters_tongues o_t_letters_standing o_t_letters_worthToOne o_t_letters_worthToOther o_t_now_letter o_t_now_turn o_t_now_settled o_t_now_gained o_t_now_entries o_t_now_sent o_t_now_seed o_t_spoken_frames o_t_spoken_pairs o_t_spoken_kinds o_t_spoken_worths o_t_spoken_framed o_t_spoken_paired o_t_spoken_pairWorths i_t_letters_size i_t_now_law i_t_now_way i_t_spoken_length i_t_spoken_words f_t_spoken_scales n_t_changes_letters n_t_letters_sense f_t_letters_sense i_t_changes_count f_t_changes_letters p1 z_4 z_5 hc_6) (cwV 1 hts gX8_change_X8_listChanges rfl rfl rfl (by decide +kernel) ⟨Nat.le_of_ble_eq_true rfl, Nat.le_of_ble_eq_true rfl⟩) rfl (by decide) rfl rfl rfl rfl rfl rfl rfl hl.1 rfl (Nat.le_of_ble_eq_true rfl) dX8_change_13 ⟨Nat.zero_le _, Nat.zero_le _⟩ (fun H locs hP hD hS => ?_)
    have hP : va_P D vwCl [(a_t, .inr (8, [o_t_reader, .ref a_t_spoken, o_t_spare, .ref a_t_letters, .ref a_t_now, o_t_images, o_t_kept, o_t_guesses, o_t_guessCount, o_t_book, .ref a_t_changes, o_t_found, o_t_stillOnes, o_t_stillStamp, o_t_paths, o_t_foresight])), (a_t_letters, .inr (3, [.ref a_t_spoken, o_t_letters_tongues, .int i_t_letters_size, o_t_letters_standing, .ref a_t_letters_sense, o_t_letters_worthToOne, o_t_letters_worthToOther])), (a_t_now, .inr (0, [o_t_now_letter, o_t_now_turn, o_t_now_settled, o_t_now_gained, o_t_now_entries, o_t_now_sent, .int i_t_now_law, .int i_t_now_way, o_t_now_seed])), (a_t_changes, .inr (6, [.ref a_t_changes_letters, .int z_4])), (a_t_spoken, .inr (7, [.int i_t_spoken_length, .int i_t_spoken_words, o_t_spoken_frames, o_t_spoken_pairs, o_t_spoken_kinds, o_t_spoken_worths, o_t_spoken_framed, o_t_spoken_paired, o_t_spoken_pairWorths, .ref a_t_spoken_scales])), (a_t_spoken_scales, .inl (cy 0, 5, .inl f_t_spoken_scales)), (a_t_changes_letters, .inl (cy 0, n_t_changes_letters, .inl z_5)), (a_t_letters_sense, .inl (cy 1, n_t_letters_sense, .inl f_t_letters_sense))] H := hP
    have hD : va_D A [(a_t, .inr (8, [o_t_reader, .ref a_t_spoken, o_t_spare, .ref a_t_letters, .ref a_t_now, o_t_images, o_t_kept, o_t_guesses, o_t_guessCount, o_t_book, .ref a_t_changes, o_t_found, o_t_stillOnes, o_t_stillStamp, o_t_paths, o_t_foresight])), (a_t_letters, .inr (3, [.ref a_t_spoken, o_t_letters_tongues, .int i_t_letters_size, o_t_letters_standing, .ref a_t_letters_sense, o_t_letters_worthToOne, o_t_letters_worthToOther])), (a_t_now, .inr (0, [o_t_now_letter, o_t_now_turn, o_t_now_settled, o_t_now_gained, o_t_now_entries, o_t_now_sent, .int i_t_now_law, .int i_t_now_way, o_t_now_seed])), (a_t_changes, .inr (6, [.ref a_t_changes_letters, .int z_4])), (a_t_spoken, .inr (7, [.int i_t_spoken_length, .int i_t_spoken_words, o_t_spoken_frames, o_t_spoken_pairs, o_t_spoken_kinds, o_t_spoken_worths, o_t_spoken_framed, o_t_spoken_paired, o_t_spoken_pairWorths, .ref a_t_spoken_scales])), (a_t_spoken_scales, .inl (cy 0, 5, .inl f_t_spoken_scales)), (a_t_changes_letters, .inl (cy 0, n_t_changes_letters, .inl z_5)), (a_t_letters_sense, .inl (cy 1, n_t_letters_sense, .inl f_t_letters_sense))] := hD
    refine lv_aload_n hx hb dX8_change_16 rfl (lv_at hl 0 rfl) ?_
    refine va_get (D := D) (ci := 8) (v := .ref a_t_changes) (C := RX8) (T := TX8) (N := 16) hx hb hts uX8_change_X8 hown hK.1.1 hP 0 rfl rfl 10 (by decide) (hts _ mX8_change_65) (fun _ h9 => h9) rfl dX8_change_17 ?_
    refine lv_iload_n hx hb dX8_change_20 rfl (lv_at hl 2 rfl) ?_
    obtain ⟨r_7, hc_8, hf⟩ := hb_b hf
    refine cl_Vi (rest := []) [3, 6] [none, none, none, some 0, none, none, some 1, none] 8 3 C0 hK hP hD hS hA (c_X6_countOrGet l D cy a_t_changes a_t_changes_letters z_4 n_t_changes_letters z_5 p2 r_7 hc_8) (cwV 1 hts gX8_change_X6_countOrGet rfl rfl rfl (by decide +kernel) ⟨Nat.le_of_ble_eq_true rfl, Nat.le_of_ble_eq_true rfl⟩) rfl (by decide) rfl rfl rfl rfl rfl rfl rfl hl.1 rfl (Nat.le_of_ble_eq_true rfl) dX8_change_21 ⟨Nat.zero_le _, Nat.zero_le _⟩ (fun H locs hP hD hS => ?_)
    have hP : va_P D vwCl [(a_t, .inr (8, [o_t_reader, .ref a_t_spoken, o_t_spare, .ref a_t_letters, .ref a_t_now, o_t_images, o_t_kept, o_t_guesses, o_t_guessCount, o_t_book, .ref a_t_changes, o_t_found, o_t_stillOnes, o_t_stillStamp, o_t_paths, o_t_foresight])), (a_t_letters, .inr (3, [.ref a_t_spoken, o_t_letters_tongues, .int i_t_letters_size, o_t_letters_standing, .ref a_t_letters_sense, o_t_letters_worthToOne, o_t_letters_worthToOther])), (a_t_now, .inr (0, [o_t_now_letter, o_t_now_turn, o_t_now_settled, o_t_now_gained, o_t_now_entries, o_t_now_sent, .int i_t_now_law, .int i_t_now_way, o_t_now_seed])), (a_t_changes, .inr (6, [.ref a_t_changes_letters, .int z_4])), (a_t_spoken, .inr (7, [.int i_t_spoken_length, .int i_t_spoken_words, o_t_spoken_frames, o_t_spoken_pairs, o_t_spoken_kinds, o_t_spoken_worths, o_t_spoken_framed, o_t_spoken_paired, o_t_spoken_pairWorths, .ref a_t_spoken_scales])), (a_t_spoken_scales, .inl (cy 0, 5, .inl f_t_spoken_scales)), (a_t_changes_letters, .inl (cy 0, n_t_changes_letters, .inl z_5)), (a_t_letters_sense, .inl (cy 1, n_t_letters_sense, .inl f_t_letters_sense))] H := hP
    have hD : va_D A [(a_t, .inr (8, [o_t_reader, .ref a_t_spoken, o_t_spare, .ref a_t_letters, .ref a_t_now, o_t_images, o_t_kept, o_t_guesses, o_t_guessCount, o_t_book, .ref a_t_changes, o_t_found, o_t_stillOnes, o_t_stillStamp, o_t_paths, o_t_foresight])), (a_t_letters, .inr (3, [.ref a_t_spoken, o_t_letters_tongues, .int i_t_letters_size, o_t_letters_standing, .ref a_t_letters_sense, o_t_letters_worthToOne, o_t_letters_worthToOther])), (a_t_now, .inr (0, [o_t_now_letter, o_t_now_turn, o_t_now_settled, o_t_now_gained, o_t_now_entries, o_t_now_sent, .int i_t_now_law, .int i_t_now_way, o_t_now_seed])), (a_t_changes, .inr (6, [.ref a_t_changes_letters, .int z_4])), (a_t_spoken, .inr (7, [.int i_t_spoken_length, .int i_t_spoken_words, o_t_spoken_frames, o_t_spoken_pairs, o_t_spoken_kinds, o_t_spoken_worths, o_t_spoken_framed, o_t_spoken_paired, o_t_spoken_pairWorths, .ref a_t_spoken_scales])), (a_t_spoken_scales, .inl (cy 0, 5, .inl f_t_spoken_scales)), (a_t_changes_letters, .inl (cy 0, n_t_changes_letters, .inl z_5)), (a_t_letters_sense, .inl (cy 1, n_t_letters_sense, .inl f_t_letters_sense))] := hD
    obtain ⟨e_0, e_1, e_2⟩ := tu3 hf
    subst e_0; subst e_1; subst e_2
    exact hret _ _ _ _ dX8_change_24 rfl hP hS
  · have hf := hb_t hf c_3
    refine lv_ldc (v := (-1000000002)) hx hb hown (hts _ mX8_change_95) dX8_change_8 ?_
    obtain ⟨e_0, e_1, e_2⟩ := tu3 hf
    subst e_0; subst e_1; subst e_2
    exact hret _ _ _ _ dX8_change_10 rfl hP hS
theorem mX8_begin_38 : Cond.fieldLink RX8 38 "OneWordLetters" "now" "LOneWordLetters$Course;" ∈ wsX8_begin := by decide +kernel
theorem uX8_begin_X8 : ∀ w ∈ wsX80, w ∈ wsX8_begin := fun _ h => List.mem_cons_of_mem _ (List.mem_append_left _ (List.mem_append_left _ (List.mem_append_right _ h)))
theorem uX8_begin_X0 : ∀ w ∈ wsX00, w ∈ wsX8_begin := fun _ h => List.mem_cons_of_mem _ (List.mem_append_left _ (List.mem_append_right _ h))
theorem mX8_begin_95 : Cond.constant RX8 95 (-1000000002) ∈ wsX8_begin := by decide +kernel
theorem mX8_begin_173 : Cond.constant RX8 173 (-1000000001) ∈ wsX8_begin := by decide +kernel
abbrev rmX8_begin : Room := { frames := 1, cells := 0, slots := 0, locals := 21 }
set_option maxRecDepth 100000 in
set_option maxHeartbeats 4000000 in
theorem c_X8_begin (l : Launch) (D : va_G) (cy : Nat → ClassId) (a_t : Nat) (a_t_letters : Nat) (a_t_now : Nat) (o_t_reader : Value) (o_t_spoken : Value) (o_t_spare : Value) (o_t_images : Value) (o_t_kept : Value) (o_t_guesses : Value) (o_t_guessCount : Value) (o_t_book : Value) (o_t_changes : Value) (o_t_found : Value) (o_t_stillOnes : Value) (o_t_stillStamp : Value) (o_t_paths : Value) (o_t_foresight : Value) (o_t_letters_tongue : Value) (o_t_letters_tongues : Value) (o_t_letters_standing : Value) (o_t_letters_sense : Value) (o_t_letters_worthToOne : Value) (o_t_letters_worthToOther : Value) (o_t_now_gained : Value) (o_t_now_entries : Value) (o_t_now_sent : Value) (o_t_now_law : Value) (o_t_now_way : Value) (o_t_now_seed : Value) (i_t_letters_size : Int32) (i_t_now_letter : Int32) (i_t_now_turn : Int32) (i_t_now_settled : Int32) (p1 : Int32) (p2 : Int32) (rv : Int32) (z_i_t_now_letter : Int32) (z_i_t_now_turn : Int32) (z_i_t_now_settled : Int32) (hf : f_X8_begin i_t_letters_size i_t_now_letter i_t_now_turn i_t_now_settled p1 p2 = some (rv, z_i_t_now_letter, z_i_t_now_turn, z_i_t_now_settled)) : MI l D cy yX8_begin wsX8_begin rmX8_begin [.ref a_t, .int p1, .int p2] [(a_t, .inr (8, [o_t_reader, o_t_spoken, o_t_spare, .ref a_t_letters, .ref a_t_now, o_t_images, o_t_kept, o_t_guesses, o_t_guessCount, o_t_book, o_t_changes, o_t_found, o_t_stillOnes, o_t_stillStamp, o_t_paths, o_t_foresight])), (a_t_letters, .inr (3, [o_t_letters_tongue, o_t_letters_tongues, .int i_t_letters_size, o_t_letters_standing, o_t_letters_sense, o_t_letters_worthToOne, o_t_letters_worthToOther])), (a_t_now, .inr (0, [.int i_t_now_letter, .int i_t_now_turn, .int i_t_now_settled, o_t_now_gained, o_t_now_entries, o_t_now_sent, o_t_now_law, o_t_now_way, o_t_now_seed]))] [(a_t, .inr (8, [o_t_reader, o_t_spoken, o_t_spare, .ref a_t_letters, .ref a_t_now, o_t_images, o_t_kept, o_t_guesses, o_t_guessCount, o_t_book, o_t_changes, o_t_found, o_t_stillOnes, o_t_stillStamp, o_t_paths, o_t_foresight])), (a_t_letters, .inr (3, [o_t_letters_tongue, o_t_letters_tongues, .int i_t_letters_size, o_t_letters_standing, o_t_letters_sense, o_t_letters_worthToOne, o_t_letters_worthToOther])), (a_t_now, .inr (0, [.int z_i_t_now_letter, .int z_i_t_now_turn, .int z_i_t_now_settled, o_t_now_gained, o_t_now_entries, o_t_now_sent, o_t_now_law, o_t_now_way, o_t_now_seed]))] rv := by
  refine st_I (by decide) rfl (Nat.le_of_ble_eq_true rfl) (fun p e s m below meth c A Q ls C0 hA hK hP hD hS hl hret => ?_)
  obtain ⟨hx, hb, hr, hml, hown, hts, hlocks⟩ := id C0
  have hl : lv_has ls 4 [(0, .ref a_t), (1, .int p1), (2, .int p2)] := hl
  unfold f_X8_begin at hf
  refine lv_iload_n hx hb dX8_begin_0 rfl (lv_at hl 2 rfl) ?_
  obtain ⟨r_1, hc_2, hf⟩ := hb_b hf
  refine cl_Si (rest := []) [] [none, none, none] 3 C0 hK hP hD hS hA (c_X8_isHouse l D cy p2 r_1 hc_2) (va_cwS 1 hts gX8_begin_X8_isHouse rfl rfl rfl (by decide +kernel) ⟨Nat.le_of_ble_eq_true rfl, Nat.le_of_ble_eq_true rfl⟩) rfl (by decide) rfl rfl rfl rfl hl.1 rfl (Nat.le_of_ble_eq_true rfl) dX8_begin_1 ⟨Nat.zero_le _, Nat.zero_le _⟩ (fun H locs hP hD hS => ?_)
  have hP : va_P D vwCl [(a_t, .inr (8, [o_t_reader, o_t_spoken, o_t_spare, .ref a_t_letters, .ref a_t_now, o_t_images, o_t_kept, o_t_guesses, o_t_guessCount, o_t_book, o_t_changes, o_t_found, o_t_stillOnes, o_t_stillStamp, o_t_paths, o_t_foresight])), (a_t_letters, .inr (3, [o_t_letters_tongue, o_t_letters_tongues, .int i_t_letters_size, o_t_letters_standing, o_t_letters_sense, o_t_letters_worthToOne, o_t_letters_worthToOther])), (a_t_now, .inr (0, [.int i_t_now_letter, .int i_t_now_turn, .int i_t_now_settled, o_t_now_gained, o_t_now_entries, o_t_now_sent, o_t_now_law, o_t_now_way, o_t_now_seed]))] H := hP
  have hD : va_D A [(a_t, .inr (8, [o_t_reader, o_t_spoken, o_t_spare, .ref a_t_letters, .ref a_t_now, o_t_images, o_t_kept, o_t_guesses, o_t_guessCount, o_t_book, o_t_changes, o_t_found, o_t_stillOnes, o_t_stillStamp, o_t_paths, o_t_foresight])), (a_t_letters, .inr (3, [o_t_letters_tongue, o_t_letters_tongues, .int i_t_letters_size, o_t_letters_standing, o_t_letters_sense, o_t_letters_worthToOne, o_t_letters_worthToOther])), (a_t_now, .inr (0, [.int i_t_now_letter, .int i_t_now_turn, .int i_t_now_settled, o_t_now_gained, o_t_now_entries, o_t_now_sent, o_t_now_law, o_t_now_way, o_t_now_seed]))] := hD
  refine lv_if_ne (tgt := 10) hx hb dX8_begin_4 (by decide) (fun c_3 => ?_) (fun c_3 => ?_)
  · have hf := hb_f hf c_3
    refine lv_aload_n hx hb dX8_begin_10 rfl (lv_at hl 0 rfl) ?_
    refine lv_iload_n hx hb dX8_begin_11 rfl (lv_at hl 1 rfl) ?_
    obtain ⟨r_4, hc_5, hf⟩ := hb_b hf
    refine cl_Vi (rest := []) [0, 1] [some 0, some 1, none] 3 0 C0 hK hP hD hS hA (c_X8_isLetter l D cy a_t a_t_letters o_t_reader o_t_spoken o_t_spare (.ref a_t_now) o_t_images o_t_kept o_t_guesses o_t_guessCount o_t_book o_t_changes o_t_found o_t_stillOnes o_t_stillStamp o_t_paths o_t_foresight o_t_letters_tongue o_t_letters_tongues o_t_letters_standing o_t_letters_sense o_t_letters_worthToOne o_t_letters_worthToOther i_t_letters_size p1 r_4 hc_5) (cwV 1 hts gX8_begin_X8_isLetter rfl rfl rfl (by decide +kernel) ⟨Nat.le_of_ble_eq_true rfl, Nat.le_of_ble_eq_true rfl⟩) rfl (by decide) rfl rfl rfl rfl rfl rfl rfl hl.1 rfl (Nat.le_of_ble_eq_true rfl) dX8_begin_12 ⟨Nat.zero_le _, Nat.zero_le _⟩ (fun H locs hP hD hS => ?_)
    have hP : va_P D vwCl [(a_t, .inr (8, [o_t_reader, o_t_spoken, o_t_spare, .ref a_t_letters, .ref a_t_now, o_t_images, o_t_kept, o_t_guesses, o_t_guessCount, o_t_book, o_t_changes, o_t_found, o_t_stillOnes, o_t_stillStamp, o_t_paths, o_t_foresight])), (a_t_letters, .inr (3, [o_t_letters_tongue, o_t_letters_tongues, .int i_t_letters_size, o_t_letters_standing, o_t_letters_sense, o_t_letters_worthToOne, o_t_letters_worthToOther])), (a_t_now, .inr (0, [.int i_t_now_letter, .int i_t_now_turn, .int i_t_now_settled, o_t_now_gained, o_t_now_entries, o_t_now_sent, o_t_now_law, o_t_now_way, o_t_now_seed]))] H := hP
    have hD : va_D A [(a_t, .inr (8, [o_t_reader, o_t_spoken, o_t_spare, .ref a_t_letters, .ref a_t_now, o_t_images, o_t_kept, o_t_guesses, o_t_guessCount, o_t_book, o_t_changes, o_t_found, o_t_stillOnes, o_t_stillStamp, o_t_paths, o_t_foresight])), (a_t_letters, .inr (3, [o_t_letters_tongue, o_t_letters_tongues, .int i_t_letters_size, o_t_letters_standing, o_t_letters_sense, o_t_letters_worthToOne, o_t_letters_worthToOther])), (a_t_now, .inr (0, [.int i_t_now_letter, .int i_t_now_turn, .int i_t_now_settled, o_t_now_gained, o_t_now_entries, o_t_now_sent, o_t_now_law, o_t_now_way, o_t_now_seed]))] := hD
    refine lv_if_ne (tgt := 21) hx hb dX8_begin_15 (by decide) (fun c_6 => ?_) (fun c_6 => ?_)
    · have hf := hb_f hf c_6
      refine lv_aload_n hx hb dX8_begin_21 rfl (lv_at hl 0 rfl) ?_
      refine va_get (D := D) (ci := 8) (v := .ref a_t_now) (C := RX8) (T := TX8) (N := 16) hx hb hts uX8_begin_X8 hown hK.1.1 hP 0 rfl rfl 4 (by decide) (hts _ mX8_begin_38) (fun _ h9 => h9) rfl dX8_begin_22 ?_
      refine va_getN (D := D) (ci := 0) (v := .int i_t_now_letter) (C := RX0) (T := TX0) (N := 9) hx hb hts uX8_begin_X0 hown hK.1.1 hP 2 rfl rfl 0 (by decide) (hK.1.nw _ nw_23) (fun _ h9 => h9) rfl dX8_begin_25 ?_
      refine lv_istore_n (lv' := [(3, .int i_t_now_letter), (0, .ref a_t), (1, .int p1), (2, .int p2)]) hx hb dX8_begin_28 rfl hl (by decide) rfl (fun ls hl => ?_)
      refine lv_aload_n hx hb dX8_begin_29 rfl (lv_at hl 1 rfl) ?_
      refine va_get (D := D) (ci := 8) (v := .ref a_t_now) (C := RX8) (T := TX8) (N := 16) hx hb hts uX8_begin_X8 hown hK.1.1 hP 0 rfl rfl 4 (by decide) (hts _ mX8_begin_38) (fun _ h9 => h9) rfl dX8_begin_30 ?_
      refine lv_iload_n hx hb dX8_begin_33 rfl (lv_at hl 2 rfl) ?_
      refine va_putN (D := D) (ci := 0) (v := .int p1) (ty := .int) (C := RX0) (T := TX0) (N := 9) hx hb hts uX8_begin_X0 tyX0 tyX0_ok nmX0 hown hK.1.1 hP hD hS 2 rfl rfl 0 (by decide) (hK.1.nw _ nw_23) (fun _ h9 => h9) rfl (by decide +kernel) rfl rfl (Nat.le_of_ble_eq_true rfl) dX8_begin_34 (fun H locs hP hD hS => ?_)
      have hP : va_P D vwCl [(a_t, .inr (8, [o_t_reader, o_t_spoken, o_t_spare, .ref a_t_letters, .ref a_t_now, o_t_images, o_t_kept, o_t_guesses, o_t_guessCount, o_t_book, o_t_changes, o_t_found, o_t_stillOnes, o_t_stillStamp, o_t_paths, o_t_foresight])), (a_t_letters, .inr (3, [o_t_letters_tongue, o_t_letters_tongues, .int i_t_letters_size, o_t_letters_standing, o_t_letters_sense, o_t_letters_worthToOne, o_t_letters_worthToOther])), (a_t_now, .inr (0, [.int p1, .int i_t_now_turn, .int i_t_now_settled, o_t_now_gained, o_t_now_entries, o_t_now_sent, o_t_now_law, o_t_now_way, o_t_now_seed]))] H := hP
      have hD : va_D A [(a_t, .inr (8, [o_t_reader, o_t_spoken, o_t_spare, .ref a_t_letters, .ref a_t_now, o_t_images, o_t_kept, o_t_guesses, o_t_guessCount, o_t_book, o_t_changes, o_t_found, o_t_stillOnes, o_t_stillStamp, o_t_paths, o_t_foresight])), (a_t_letters, .inr (3, [o_t_letters_tongue, o_t_letters_tongues, .int i_t_letters_size, o_t_letters_standing, o_t_letters_sense, o_t_letters_worthToOne, o_t_letters_worthToOther])), (a_t_now, .inr (0, [.int p1, .int i_t_now_turn, .int i_t_now_settled, o_t_now_gained, o_t_now_entries, o_t_now_sent, o_t_now_law, o_t_now_way, o_t_now_seed]))] := hD
      refine lv_aload_n hx hb dX8_begin_37 rfl (lv_at hl 1 rfl) ?_
      refine va_get (D := D) (ci := 8) (v := .ref a_t_now) (C := RX8) (T := TX8) (N := 16) hx hb hts uX8_begin_X8 hown hK.1.1 hP 0 rfl rfl 4 (by decide) (hts _ mX8_begin_38) (fun _ h9 => h9) rfl dX8_begin_38 ?_
      refine lv_iload_n hx hb dX8_begin_41 rfl (lv_at hl 3 rfl) ?_
      refine va_putN (D := D) (ci := 0) (v := .int p2) (ty := .int) (C := RX0) (T := TX0) (N := 9) hx hb hts uX8_begin_X0 tyX0 tyX0_ok nmX0 hown hK.1.1 hP hD hS 2 rfl rfl 1 (by decide) (hK.1.nw _ nw_24) (fun _ h9 => h9) rfl (by decide +kernel) rfl rfl (Nat.le_of_ble_eq_true rfl) dX8_begin_42 (fun H locs hP hD hS => ?_)
      have hP : va_P D vwCl [(a_t, .inr (8, [o_t_reader, o_t_spoken, o_t_spare, .ref a_t_letters, .ref a_t_now, o_t_images, o_t_kept, o_t_guesses, o_t_guessCount, o_t_book, o_t_changes, o_t_found, o_t_stillOnes, o_t_stillStamp, o_t_paths, o_t_foresight])), (a_t_letters, .inr (3, [o_t_letters_tongue, o_t_letters_tongues, .int i_t_letters_size, o_t_letters_standing, o_t_letters_sense, o_t_letters_worthToOne, o_t_letters_worthToOther])), (a_t_now, .inr (0, [.int p1, .int p2, .int i_t_now_settled, o_t_now_gained, o_t_now_entries, o_t_now_sent, o_t_now_law, o_t_now_way, o_t_now_seed]))] H := hP
      have hD : va_D A [(a_t, .inr (8, [o_t_reader, o_t_spoken, o_t_spare, .ref a_t_letters, .ref a_t_now, o_t_images, o_t_kept, o_t_guesses, o_t_guessCount, o_t_book, o_t_changes, o_t_found, o_t_stillOnes, o_t_stillStamp, o_t_paths, o_t_foresight])), (a_t_letters, .inr (3, [o_t_letters_tongue, o_t_letters_tongues, .int i_t_letters_size, o_t_letters_standing, o_t_letters_sense, o_t_letters_worthToOne, o_t_letters_worthToOther])), (a_t_now, .inr (0, [.int p1, .int p2, .int i_t_now_settled, o_t_now_gained, o_t_now_entries, o_t_now_sent, o_t_now_law, o_t_now_way, o_t_now_seed]))] := hD
      refine lv_aload_n hx hb dX8_begin_45 rfl (lv_at hl 1 rfl) ?_
      refine va_get (D := D) (ci := 8) (v := .ref a_t_now) (C := RX8) (T := TX8) (N := 16) hx hb hts uX8_begin_X8 hown hK.1.1 hP 0 rfl rfl 4 (by decide) (hts _ mX8_begin_38) (fun _ h9 => h9) rfl dX8_begin_46 ?_
      refine lv_iconst (v := 0) hx hb dX8_begin_49 (by decide) ?_
      refine va_putN (D := D) (ci := 0) (v := .int 0) (ty := .boolean) (C := RX0) (T := TX0) (N := 9) hx hb hts uX8_begin_X0 tyX0 tyX0_ok nmX0 hown hK.1.1 hP hD hS 2 rfl rfl 2 (by decide) (hK.1.nw _ nw_25) (fun _ h9 => h9) rfl (by decide +kernel) rfl rfl (Nat.le_of_ble_eq_true rfl) dX8_begin_50 (fun H locs hP hD hS => ?_)
      have hP : va_P D vwCl [(a_t, .inr (8, [o_t_reader, o_t_spoken, o_t_spare, .ref a_t_letters, .ref a_t_now, o_t_images, o_t_kept, o_t_guesses, o_t_guessCount, o_t_book, o_t_changes, o_t_found, o_t_stillOnes, o_t_stillStamp, o_t_paths, o_t_foresight])), (a_t_letters, .inr (3, [o_t_letters_tongue, o_t_letters_tongues, .int i_t_letters_size, o_t_letters_standing, o_t_letters_sense, o_t_letters_worthToOne, o_t_letters_worthToOther])), (a_t_now, .inr (0, [.int p1, .int p2, .int 0, o_t_now_gained, o_t_now_entries, o_t_now_sent, o_t_now_law, o_t_now_way, o_t_now_seed]))] H := hP
      have hD : va_D A [(a_t, .inr (8, [o_t_reader, o_t_spoken, o_t_spare, .ref a_t_letters, .ref a_t_now, o_t_images, o_t_kept, o_t_guesses, o_t_guessCount, o_t_book, o_t_changes, o_t_found, o_t_stillOnes, o_t_stillStamp, o_t_paths, o_t_foresight])), (a_t_letters, .inr (3, [o_t_letters_tongue, o_t_letters_tongues, .int i_t_letters_size, o_t_letters_standing, o_t_letters_sense, o_t_letters_worthToOne, o_t_letters_worthToOther])), (a_t_now, .inr (0, [.int p1, .int p2, .int 0, o_t_now_gained, o_t_now_entries, o_t_now_sent, o_t_now_law, o_t_now_way, o_t_now_seed]))] := hD
      refine lv_iload_n hx hb dX8_begin_53 rfl (lv_at hl 0 rfl) ?_
      obtain ⟨e_0, e_1, e_2, e_3⟩ := tu4 hf
      subst e_0; subst e_1; subst e_2; subst e_3
      exact hret _ _ _ _ dX8_begin_54 rfl hP hS
    · have hf := hb_t hf c_6
      refine lv_ldc (v := (-1000000002)) hx hb hown (hts _ mX8_begin_95) dX8_begin_18 ?_
      obtain ⟨e_0, e_1, e_2, e_3⟩ := tu4 hf
      subst e_0; subst e_1; subst e_2; subst e_3
      exact hret _ _ _ _ dX8_begin_20 rfl hP hS
  · have hf := hb_t hf c_3
    refine lv_ldc (v := (-1000000001)) hx hb hown (hts _ mX8_begin_173) dX8_begin_7 ?_
    obtain ⟨e_0, e_1, e_2, e_3⟩ := tu4 hf
    subst e_0; subst e_1; subst e_2; subst e_3
    exact hret _ _ _ _ dX8_begin_9 rfl hP hS
theorem mX8_isChange_65 : Cond.fieldLink RX8 65 "OneWordLetters" "changes" "LOneWordLetters$Row;" ∈ wsX8_isChange := by decide +kernel
theorem uX8_isChange_X8 : ∀ w ∈ wsX80, w ∈ wsX8_isChange := fun _ h => List.mem_cons_of_mem _ (List.mem_append_left _ (List.mem_append_left _ (List.mem_append_left _ (List.mem_append_left _ (List.mem_append_right _ h)))))
abbrev rmX8_isChange : Room := { frames := 4, cells := 0, slots := 0, locals := 95 }
set_option maxRecDepth 100000 in
set_option maxHeartbeats 4000000 in
theorem c_X8_isChange (l : Launch) (D : va_G) (cy : Nat → ClassId) (a_t : Nat) (a_t_letters : Nat) (a_t_now : Nat) (a_t_changes : Nat) (a_t_spoken : Nat) (a_t_spoken_scales : Nat) (a_t_changes_letters : Nat) (a_t_letters_sense : Nat) (o_t_reader : Value) (o_t_spare : Value) (o_t_images : Value) (o_t_kept : Value) (o_t_guesses : Value) (o_t_guessCount : Value) (o_t_book : Value) (o_t_found : Value) (o_t_stillOnes : Value) (o_t_stillStamp : Value) (o_t_paths : Value) (o_t_foresight : Value) (o_t_letters_tongues : Value) (o_t_letters_standing : Value) (o_t_letters_worthToOne : Value) (o_t_letters_worthToOther : Value) (o_t_now_letter : Value) (o_t_now_turn : Value) (o_t_now_settled : Value) (o_t_now_gained : Value) (o_t_now_entries : Value) (o_t_now_sent : Value) (o_t_now_seed : Value) (o_t_spoken_frames : Value) (o_t_spoken_pairs : Value) (o_t_spoken_kinds : Value) (o_t_spoken_worths : Value) (o_t_spoken_framed : Value) (o_t_spoken_paired : Value) (o_t_spoken_pairWorths : Value) (i_t_letters_size : Int32) (i_t_now_law : Int32) (i_t_now_way : Int32) (i_t_spoken_length : Int32) (i_t_spoken_words : Int32) (f_t_spoken_scales : Nat → Int32) (n_t_changes_letters : Nat) (n_t_letters_sense : Nat) (f_t_letters_sense : Nat → Int32) (i_t_changes_count : Int32) (f_t_changes_letters : Nat → Int32) (p1 : Int32) (p2 : Int32) (rv : Int32) (z_i_t_changes_count : Int32) (z_f_t_changes_letters : Nat → Int32) (hf : f_X8_isChange i_t_letters_size i_t_now_law i_t_now_way i_t_spoken_length i_t_spoken_words f_t_spoken_scales n_t_changes_letters n_t_letters_sense f_t_letters_sense i_t_changes_count f_t_changes_letters p1 p2 = some (rv, z_i_t_changes_count, z_f_t_changes_letters)) : MI l D cy yX8_isChange wsX8_isChange rmX8_isChange [.ref a_t, .int p1, .int p2] [(a_t, .inr (8, [o_t_reader, .ref a_t_spoken, o_t_spare, .ref a_t_letters, .ref a_t_now, o_t_images, o_t_kept, o_t_guesses, o_t_guessCount, o_t_book, .ref a_t_changes, o_t_found, o_t_stillOnes, o_t_stillStamp, o_t_paths, o_t_foresight])), (a_t_letters, .inr (3, [.ref a_t_spoken, o_t_letters_tongues, .int i_t_letters_size, o_t_letters_standing, .ref a_t_letters_sense, o_t_letters_worthToOne, o_t_letters_worthToOther])), (a_t_now, .inr (0, [o_t_now_letter, o_t_now_turn, o_t_now_settled, o_t_now_gained, o_t_now_entries, o_t_now_sent, .int i_t_now_law, .int i_t_now_way, o_t_now_seed])), (a_t_changes, .inr (6, [.ref a_t_changes_letters, .int i_t_changes_count])), (a_t_spoken, .inr (7, [.int i_t_spoken_length, .int i_t_spoken_words, o_t_spoken_frames, o_t_spoken_pairs, o_t_spoken_kinds, o_t_spoken_worths, o_t_spoken_framed, o_t_spoken_paired, o_t_spoken_pairWorths, .ref a_t_spoken_scales])), (a_t_spoken_scales, .inl (cy 0, 5, .inl f_t_spoken_scales)), (a_t_changes_letters, .inl (cy 0, n_t_changes_letters, .inl f_t_changes_letters)), (a_t_letters_sense, .inl (cy 1, n_t_letters_sense, .inl f_t_letters_sense))] [(a_t, .inr (8, [o_t_reader, .ref a_t_spoken, o_t_spare, .ref a_t_letters, .ref a_t_now, o_t_images, o_t_kept, o_t_guesses, o_t_guessCount, o_t_book, .ref a_t_changes, o_t_found, o_t_stillOnes, o_t_stillStamp, o_t_paths, o_t_foresight])), (a_t_letters, .inr (3, [.ref a_t_spoken, o_t_letters_tongues, .int i_t_letters_size, o_t_letters_standing, .ref a_t_letters_sense, o_t_letters_worthToOne, o_t_letters_worthToOther])), (a_t_now, .inr (0, [o_t_now_letter, o_t_now_turn, o_t_now_settled, o_t_now_gained, o_t_now_entries, o_t_now_sent, .int i_t_now_law, .int i_t_now_way, o_t_now_seed])), (a_t_changes, .inr (6, [.ref a_t_changes_letters, .int z_i_t_changes_count])), (a_t_spoken, .inr (7, [.int i_t_spoken_length, .int i_t_spoken_words, o_t_spoken_frames, o_t_spoken_pairs, o_t_spoken_kinds, o_t_spoken_worths, o_t_spoken_framed, o_t_spoken_paired, o_t_spoken_pairWorths, .ref a_t_spoken_scales])), (a_t_spoken_scales, .inl (cy 0, 5, .inl f_t_spoken_scales)), (a_t_changes_letters, .inl (cy 0, n_t_changes_letters, .inl z_f_t_changes_letters)), (a_t_letters_sense, .inl (cy 1, n_t_letters_sense, .inl f_t_letters_sense))] rv := by
  refine st_I (by decide) rfl (Nat.le_of_ble_eq_true rfl) (fun p e s m below meth c A Q ls C0 hA hK hP hD hS hl hret => ?_)
  obtain ⟨hx, hb, hr, hml, hown, hts, hlocks⟩ := id C0
  have hl : lv_has ls 3 [(0, .ref a_t), (1, .int p1), (2, .int p2)] := hl
  unfold f_X8_isChange at hf
  refine lv_aload_n hx hb dX8_isChange_0 rfl (lv_at hl 0 rfl) ?_
  refine lv_iload_n hx hb dX8_isChange_1 rfl (lv_at hl 1 rfl) ?_
  obtain ⟨⟨z_1, z_2⟩, hc_3, hf⟩ := hb_b hf
  refine cl_Vv (rest := []) [0, 1, 2, 3, 4, 5, 6, 7] [some 0, some 1, some 2, some 3, some 4, some 5, some 6, some 7] 8 0 C0 hK hP hD hS hA (c_X8_listChanges l D cy a_t a_t_letters a_t_now a_t_changes a_t_spoken a_t_spoken_scales a_t_changes_letters a_t_letters_sense o_t_reader (.ref a_t_spoken) o_t_spare o_t_images o_t_kept o_t_guesses o_t_guessCount o_t_book o_t_found o_t_stillOnes o_t_stillStamp o_t_paths o_t_foresight o_t_letters_tongues o_t_letters_standing o_t_letters_worthToOne o_t_letters_worthToOther o_t_now_letter o_t_now_turn o_t_now_settled o_t_now_gained o_t_now_entries o_t_now_sent o_t_now_seed o_t_spoken_frames o_t_spoken_pairs o_t_spoken_kinds o_t_spoken_worths o_t_spoken_framed o_t_spoken_paired o_t_spoken_pairWorths i_t_letters_size i_t_now_law i_t_now_way i_t_spoken_length i_t_spoken_words f_t_spoken_scales n_t_changes_letters n_t_letters_sense f_t_letters_sense i_t_changes_count f_t_changes_letters p1 z_1 z_2 hc_3) (cwV 1 hts gX8_isChange_X8_listChanges rfl rfl rfl (by decide +kernel) ⟨Nat.le_of_ble_eq_true rfl, Nat.le_of_ble_eq_true rfl⟩) rfl (by decide) rfl rfl rfl rfl rfl rfl rfl hl.1 rfl (Nat.le_of_ble_eq_true rfl) dX8_isChange_2 ⟨Nat.zero_le _, Nat.zero_le _⟩ (fun H locs hP hD hS => ?_)
  have hP : va_P D vwCl [(a_t, .inr (8, [o_t_reader, .ref a_t_spoken, o_t_spare, .ref a_t_letters, .ref a_t_now, o_t_images, o_t_kept, o_t_guesses, o_t_guessCount, o_t_book, .ref a_t_changes, o_t_found, o_t_stillOnes, o_t_stillStamp, o_t_paths, o_t_foresight])), (a_t_letters, .inr (3, [.ref a_t_spoken, o_t_letters_tongues, .int i_t_letters_size, o_t_letters_standing, .ref a_t_letters_sense, o_t_letters_worthToOne, o_t_letters_worthToOther])), (a_t_now, .inr (0, [o_t_now_letter, o_t_now_turn, o_t_now_settled, o_t_now_gained, o_t_now_entries, o_t_now_sent, .int i_t_now_law, .int i_t_now_way, o_t_now_seed])), (a_t_changes, .inr (6, [.ref a_t_changes_letters, .int z_1])), (a_t_spoken, .inr (7, [.int i_t_spoken_length, .int i_t_spoken_words, o_t_spoken_frames, o_t_spoken_pairs, o_t_spoken_kinds, o_t_spoken_worths, o_t_spoken_framed, o_t_spoken_paired, o_t_spoken_pairWorths, .ref a_t_spoken_scales])), (a_t_spoken_scales, .inl (cy 0, 5, .inl f_t_spoken_scales)), (a_t_changes_letters, .inl (cy 0, n_t_changes_letters, .inl z_2)), (a_t_letters_sense, .inl (cy 1, n_t_letters_sense, .inl f_t_letters_sense))] H := hP
  have hD : va_D A [(a_t, .inr (8, [o_t_reader, .ref a_t_spoken, o_t_spare, .ref a_t_letters, .ref a_t_now, o_t_images, o_t_kept, o_t_guesses, o_t_guessCount, o_t_book, .ref a_t_changes, o_t_found, o_t_stillOnes, o_t_stillStamp, o_t_paths, o_t_foresight])), (a_t_letters, .inr (3, [.ref a_t_spoken, o_t_letters_tongues, .int i_t_letters_size, o_t_letters_standing, .ref a_t_letters_sense, o_t_letters_worthToOne, o_t_letters_worthToOther])), (a_t_now, .inr (0, [o_t_now_letter, o_t_now_turn, o_t_now_settled, o_t_now_gained, o_t_now_entries, o_t_now_sent, .int i_t_now_law, .int i_t_now_way, o_t_now_seed])), (a_t_changes, .inr (6, [.ref a_t_changes_letters, .int z_1])), (a_t_spoken, .inr (7, [.int i_t_spoken_length, .int i_t_spoken_words, o_t_spoken_frames, o_t_spoken_pairs, o_t_spoken_kinds, o_t_spoken_worths, o_t_spoken_framed, o_t_spoken_paired, o_t_spoken_pairWorths, .ref a_t_spoken_scales])), (a_t_spoken_scales, .inl (cy 0, 5, .inl f_t_spoken_scales)), (a_t_changes_letters, .inl (cy 0, n_t_changes_letters, .inl z_2)), (a_t_letters_sense, .inl (cy 1, n_t_letters_sense, .inl f_t_letters_sense))] := hD
  refine lv_aload_n hx hb dX8_isChange_5 rfl (lv_at hl 0 rfl) ?_
  refine va_get (D := D) (ci := 8) (v := .ref a_t_changes) (C := RX8) (T := TX8) (N := 16) hx hb hts uX8_isChange_X8 hown hK.1.1 hP 0 rfl rfl 10 (by decide) (hts _ mX8_isChange_65) (fun _ h9 => h9) rfl dX8_isChange_6 ?_
  refine lv_iload_n hx hb dX8_isChange_9 rfl (lv_at hl 2 rfl) ?_
  obtain ⟨r_4, hc_5, hf⟩ := hb_b hf
  refine cl_Vi (rest := []) [3, 6] [none, none, none, some 0, none, none, some 1, none] 8 3 C0 hK hP hD hS hA (c_X6_has l D cy a_t_changes a_t_changes_letters z_1 n_t_changes_letters z_2 p2 r_4 hc_5) (cwV 1 hts gX8_isChange_X6_has rfl rfl rfl (by decide +kernel) ⟨Nat.le_of_ble_eq_true rfl, Nat.le_of_ble_eq_true rfl⟩) rfl (by decide) rfl rfl rfl rfl rfl rfl rfl hl.1 rfl (Nat.le_of_ble_eq_true rfl) dX8_isChange_10 ⟨Nat.zero_le _, Nat.zero_le _⟩ (fun H locs hP hD hS => ?_)
  have hP : va_P D vwCl [(a_t, .inr (8, [o_t_reader, .ref a_t_spoken, o_t_spare, .ref a_t_letters, .ref a_t_now, o_t_images, o_t_kept, o_t_guesses, o_t_guessCount, o_t_book, .ref a_t_changes, o_t_found, o_t_stillOnes, o_t_stillStamp, o_t_paths, o_t_foresight])), (a_t_letters, .inr (3, [.ref a_t_spoken, o_t_letters_tongues, .int i_t_letters_size, o_t_letters_standing, .ref a_t_letters_sense, o_t_letters_worthToOne, o_t_letters_worthToOther])), (a_t_now, .inr (0, [o_t_now_letter, o_t_now_turn, o_t_now_settled, o_t_now_gained, o_t_now_entries, o_t_now_sent, .int i_t_now_law, .int i_t_now_way, o_t_now_seed])), (a_t_changes, .inr (6, [.ref a_t_changes_letters, .int z_1])), (a_t_spoken, .inr (7, [.int i_t_spoken_length, .int i_t_spoken_words, o_t_spoken_frames, o_t_spoken_pairs, o_t_spoken_kinds, o_t_spoken_worths, o_t_spoken_framed, o_t_spoken_paired, o_t_spoken_pairWorths, .ref a_t_spoken_scales])), (a_t_spoken_scales, .inl (cy 0, 5, .inl f_t_spoken_scales)), (a_t_changes_letters, .inl (cy 0, n_t_changes_letters, .inl z_2)), (a_t_letters_sense, .inl (cy 1, n_t_letters_sense, .inl f_t_letters_sense))] H := hP
  have hD : va_D A [(a_t, .inr (8, [o_t_reader, .ref a_t_spoken, o_t_spare, .ref a_t_letters, .ref a_t_now, o_t_images, o_t_kept, o_t_guesses, o_t_guessCount, o_t_book, .ref a_t_changes, o_t_found, o_t_stillOnes, o_t_stillStamp, o_t_paths, o_t_foresight])), (a_t_letters, .inr (3, [.ref a_t_spoken, o_t_letters_tongues, .int i_t_letters_size, o_t_letters_standing, .ref a_t_letters_sense, o_t_letters_worthToOne, o_t_letters_worthToOther])), (a_t_now, .inr (0, [o_t_now_letter, o_t_now_turn, o_t_now_settled, o_t_now_gained, o_t_now_entries, o_t_now_sent, .int i_t_now_law, .int i_t_now_way, o_t_now_seed])), (a_t_changes, .inr (6, [.ref a_t_changes_letters, .int z_1])), (a_t_spoken, .inr (7, [.int i_t_spoken_length, .int i_t_spoken_words, o_t_spoken_frames, o_t_spoken_pairs, o_t_spoken_kinds, o_t_spoken_worths, o_t_spoken_framed, o_t_spoken_paired, o_t_spoken_pairWorths, .ref a_t_spoken_scales])), (a_t_spoken_scales, .inl (cy 0, 5, .inl f_t_spoken_scales)), (a_t_changes_letters, .inl (cy 0, n_t_changes_letters, .inl z_2)), (a_t_letters_sense, .inl (cy 1, n_t_letters_sense, .inl f_t_letters_sense))] := hD
  obtain ⟨hg_6, hf⟩ := hb_g hf
  obtain ⟨e_0, e_1, e_2⟩ := tu3 hf
  subst e_0; subst e_1; subst e_2
  exact hret _ _ _ _ dX8_isChange_13 (zb_n hg_6) hP hS
theorem mX8_send_38 : Cond.fieldLink RX8 38 "OneWordLetters" "now" "LOneWordLetters$Course;" ∈ wsX8_send := by decide +kernel
theorem uX8_send_X8 : ∀ w ∈ wsX80, w ∈ wsX8_send := fun _ h => List.mem_cons_of_mem _ (List.mem_append_left _ (List.mem_append_left _ (List.mem_append_left _ (List.mem_append_left _ (List.mem_append_right _ h)))))
theorem uX8_send_X0 : ∀ w ∈ wsX00, w ∈ wsX8_send := fun _ h => List.mem_cons_of_mem _ (List.mem_append_left _ (List.mem_append_left _ (List.mem_append_left _ (List.mem_append_right _ h))))
theorem mX8_send_208 : Cond.constant RX8 208 (-1000000003) ∈ wsX8_send := by decide +kernel
theorem mX8_send_209 : Cond.constant RX8 209 (-1000000004) ∈ wsX8_send := by decide +kernel
theorem mX8_send_95 : Cond.constant RX8 95 (-1000000002) ∈ wsX8_send := by decide +kernel
abbrev rmX8_send : Room := { frames := 5, cells := 0, slots := 0, locals := 117 }
set_option maxRecDepth 100000 in
set_option maxHeartbeats 4000000 in
theorem c_X8_send (l : Launch) (D : va_G) (cy : Nat → ClassId) (a_t : Nat) (a_t_letters : Nat) (a_t_now : Nat) (a_t_changes : Nat) (a_t_spoken : Nat) (a_t_spoken_scales : Nat) (a_t_changes_letters : Nat) (a_t_letters_sense : Nat) (a_t_now_entries : Nat) (o_t_reader : Value) (o_t_spare : Value) (o_t_images : Value) (o_t_kept : Value) (o_t_guesses : Value) (o_t_guessCount : Value) (o_t_book : Value) (o_t_found : Value) (o_t_stillOnes : Value) (o_t_stillStamp : Value) (o_t_paths : Value) (o_t_foresight : Value) (o_t_letters_tongues : Value) (o_t_letters_standing : Value) (o_t_letters_worthToOne : Value) (o_t_letters_worthToOther : Value) (o_t_now_gained : Value) (o_t_now_seed : Value) (o_t_spoken_frames : Value) (o_t_spoken_pairs : Value) (o_t_spoken_kinds : Value) (o_t_spoken_worths : Value) (o_t_spoken_framed : Value) (o_t_spoken_paired : Value) (o_t_spoken_pairWorths : Value) (i_t_letters_size : Int32) (i_t_now_settled : Int32) (i_t_now_law : Int32) (i_t_now_way : Int32) (i_t_spoken_length : Int32) (i_t_spoken_words : Int32) (f_t_spoken_scales : Nat → Int32) (n_t_changes_letters : Nat) (n_t_letters_sense : Nat) (f_t_letters_sense : Nat → Int32) (i_t_now_letter : Int32) (i_t_now_turn : Int32) (i_t_now_sent : Int32) (i_t_changes_count : Int32) (f_t_changes_letters : Nat → Int32) (f_t_now_entries : Nat → Int32) (p1 : Int32) (rv : Int32) (z_i_t_now_letter : Int32) (z_i_t_now_turn : Int32) (z_i_t_now_sent : Int32) (z_i_t_changes_count : Int32) (z_f_t_changes_letters : Nat → Int32) (z_f_t_now_entries : Nat → Int32) (hf : f_X8_send i_t_letters_size i_t_now_settled i_t_now_law i_t_now_way i_t_spoken_length i_t_spoken_words f_t_spoken_scales n_t_changes_letters n_t_letters_sense f_t_letters_sense i_t_now_letter i_t_now_turn i_t_now_sent i_t_changes_count f_t_changes_letters f_t_now_entries p1 = some (rv, z_i_t_now_letter, z_i_t_now_turn, z_i_t_now_sent, z_i_t_changes_count, z_f_t_changes_letters, z_f_t_now_entries)) : MI l D cy yX8_send wsX8_send rmX8_send [.ref a_t, .int p1] [(a_t, .inr (8, [o_t_reader, .ref a_t_spoken, o_t_spare, .ref a_t_letters, .ref a_t_now, o_t_images, o_t_kept, o_t_guesses, o_t_guessCount, o_t_book, .ref a_t_changes, o_t_found, o_t_stillOnes, o_t_stillStamp, o_t_paths, o_t_foresight])), (a_t_letters, .inr (3, [.ref a_t_spoken, o_t_letters_tongues, .int i_t_letters_size, o_t_letters_standing, .ref a_t_letters_sense, o_t_letters_worthToOne, o_t_letters_worthToOther])), (a_t_now, .inr (0, [.int i_t_now_letter, .int i_t_now_turn, .int i_t_now_settled, o_t_now_gained, .ref a_t_now_entries, .int i_t_now_sent, .int i_t_now_law, .int i_t_now_way, o_t_now_seed])), (a_t_changes, .inr (6, [.ref a_t_changes_letters, .int i_t_changes_count])), (a_t_spoken, .inr (7, [.int i_t_spoken_length, .int i_t_spoken_words, o_t_spoken_frames, o_t_spoken_pairs, o_t_spoken_kinds, o_t_spoken_worths, o_t_spoken_framed, o_t_spoken_paired, o_t_spoken_pairWorths, .ref a_t_spoken_scales])), (a_t_spoken_scales, .inl (cy 0, 5, .inl f_t_spoken_scales)), (a_t_changes_letters, .inl (cy 0, n_t_changes_letters, .inl f_t_changes_letters)), (a_t_letters_sense, .inl (cy 1, n_t_letters_sense, .inl f_t_letters_sense)), (a_t_now_entries, .inl (cy 0, 180, .inl f_t_now_entries))] [(a_t, .inr (8, [o_t_reader, .ref a_t_spoken, o_t_spare, .ref a_t_letters, .ref a_t_now, o_t_images, o_t_kept, o_t_guesses, o_t_guessCount, o_t_book, .ref a_t_changes, o_t_found, o_t_stillOnes, o_t_stillStamp, o_t_paths, o_t_foresight])), (a_t_letters, .inr (3, [.ref a_t_spoken, o_t_letters_tongues, .int i_t_letters_size, o_t_letters_standing, .ref a_t_letters_sense, o_t_letters_worthToOne, o_t_letters_worthToOther])), (a_t_now, .inr (0, [.int z_i_t_now_letter, .int z_i_t_now_turn, .int i_t_now_settled, o_t_now_gained, .ref a_t_now_entries, .int z_i_t_now_sent, .int i_t_now_law, .int i_t_now_way, o_t_now_seed])), (a_t_changes, .inr (6, [.ref a_t_changes_letters, .int z_i_t_changes_count])), (a_t_spoken, .inr (7, [.int i_t_spoken_length, .int i_t_spoken_words, o_t_spoken_frames, o_t_spoken_pairs, o_t_spoken_kinds, o_t_spoken_worths, o_t_spoken_framed, o_t_spoken_paired, o_t_spoken_pairWorths, .ref a_t_spoken_scales])), (a_t_spoken_scales, .inl (cy 0, 5, .inl f_t_spoken_scales)), (a_t_changes_letters, .inl (cy 0, n_t_changes_letters, .inl z_f_t_changes_letters)), (a_t_letters_sense, .inl (cy 1, n_t_letters_sense, .inl f_t_letters_sense)), (a_t_now_entries, .inl (cy 0, 180, .inl z_f_t_now_entries))] rv := by
  refine st_I (by decide) rfl (Nat.le_of_ble_eq_true rfl) (fun p e s m below meth c A Q ls C0 hA hK hP hD hS hl hret => ?_)
  obtain ⟨hx, hb, hr, hml, hown, hts, hlocks⟩ := id C0
  have hl : lv_has ls 2 [(0, .ref a_t), (1, .int p1)] := hl
  unfold f_X8_send at hf
  refine lv_aload_n hx hb dX8_send_0 rfl (lv_at hl 0 rfl) ?_
  refine lv_iload_n hx hb dX8_send_1 rfl (lv_at hl 1 rfl) ?_
  obtain ⟨r_1, hc_2, hf⟩ := hb_b hf
  refine cl_Vi (rest := []) [0, 1] [some 0, some 1, none, none, none, none, none, none, none] 9 0 C0 hK hP hD hS hA (c_X8_isLetter l D cy a_t a_t_letters o_t_reader (.ref a_t_spoken) o_t_spare (.ref a_t_now) o_t_images o_t_kept o_t_guesses o_t_guessCount o_t_book (.ref a_t_changes) o_t_found o_t_stillOnes o_t_stillStamp o_t_paths o_t_foresight (.ref a_t_spoken) o_t_letters_tongues o_t_letters_standing (.ref a_t_letters_sense) o_t_letters_worthToOne o_t_letters_worthToOther i_t_letters_size p1 r_1 hc_2) (cwV 1 hts gX8_send_X8_isLetter rfl rfl rfl (by decide +kernel) ⟨Nat.le_of_ble_eq_true rfl, Nat.le_of_ble_eq_true rfl⟩) rfl (by decide) rfl rfl rfl rfl rfl rfl rfl hl.1 rfl (Nat.le_of_ble_eq_true rfl) dX8_send_2 ⟨Nat.zero_le _, Nat.zero_le _⟩ (fun H locs hP hD hS => ?_)
  have hP : va_P D vwCl [(a_t, .inr (8, [o_t_reader, .ref a_t_spoken, o_t_spare, .ref a_t_letters, .ref a_t_now, o_t_images, o_t_kept, o_t_guesses, o_t_guessCount, o_t_book, .ref a_t_changes, o_t_found, o_t_stillOnes, o_t_stillStamp, o_t_paths, o_t_foresight])), (a_t_letters, .inr (3, [.ref a_t_spoken, o_t_letters_tongues, .int i_t_letters_size, o_t_letters_standing, .ref a_t_letters_sense, o_t_letters_worthToOne, o_t_letters_worthToOther])), (a_t_now, .inr (0, [.int i_t_now_letter, .int i_t_now_turn, .int i_t_now_settled, o_t_now_gained, .ref a_t_now_entries, .int i_t_now_sent, .int i_t_now_law, .int i_t_now_way, o_t_now_seed])), (a_t_changes, .inr (6, [.ref a_t_changes_letters, .int i_t_changes_count])), (a_t_spoken, .inr (7, [.int i_t_spoken_length, .int i_t_spoken_words, o_t_spoken_frames, o_t_spoken_pairs, o_t_spoken_kinds, o_t_spoken_worths, o_t_spoken_framed, o_t_spoken_paired, o_t_spoken_pairWorths, .ref a_t_spoken_scales])), (a_t_spoken_scales, .inl (cy 0, 5, .inl f_t_spoken_scales)), (a_t_changes_letters, .inl (cy 0, n_t_changes_letters, .inl f_t_changes_letters)), (a_t_letters_sense, .inl (cy 1, n_t_letters_sense, .inl f_t_letters_sense)), (a_t_now_entries, .inl (cy 0, 180, .inl f_t_now_entries))] H := hP
  have hD : va_D A [(a_t, .inr (8, [o_t_reader, .ref a_t_spoken, o_t_spare, .ref a_t_letters, .ref a_t_now, o_t_images, o_t_kept, o_t_guesses, o_t_guessCount, o_t_book, .ref a_t_changes, o_t_found, o_t_stillOnes, o_t_stillStamp, o_t_paths, o_t_foresight])), (a_t_letters, .inr (3, [.ref a_t_spoken, o_t_letters_tongues, .int i_t_letters_size, o_t_letters_standing, .ref a_t_letters_sense, o_t_letters_worthToOne, o_t_letters_worthToOther])), (a_t_now, .inr (0, [.int i_t_now_letter, .int i_t_now_turn, .int i_t_now_settled, o_t_now_gained, .ref a_t_now_entries, .int i_t_now_sent, .int i_t_now_law, .int i_t_now_way, o_t_now_seed])), (a_t_changes, .inr (6, [.ref a_t_changes_letters, .int i_t_changes_count])), (a_t_spoken, .inr (7, [.int i_t_spoken_length, .int i_t_spoken_words, o_t_spoken_frames, o_t_spoken_pairs, o_t_spoken_kinds, o_t_spoken_worths, o_t_spoken_framed, o_t_spoken_paired, o_t_spoken_pairWorths, .ref a_t_spoken_scales])), (a_t_spoken_scales, .inl (cy 0, 5, .inl f_t_spoken_scales)), (a_t_changes_letters, .inl (cy 0, n_t_changes_letters, .inl f_t_changes_letters)), (a_t_letters_sense, .inl (cy 1, n_t_letters_sense, .inl f_t_letters_sense)), (a_t_now_entries, .inl (cy 0, 180, .inl f_t_now_entries))] := hD
  refine lv_if_ne (tgt := 11) hx hb dX8_send_5 (by decide) (fun c_3 => ?_) (fun c_3 => ?_)
  · have hf := hb_f hf c_3
    refine lv_aload_n hx hb dX8_send_11 rfl (lv_at hl 0 rfl) ?_
    refine va_get (D := D) (ci := 8) (v := .ref a_t_now) (C := RX8) (T := TX8) (N := 16) hx hb hts uX8_send_X8 hown hK.1.1 hP 0 rfl rfl 4 (by decide) (hts _ mX8_send_38) (fun _ h9 => h9) rfl dX8_send_12 ?_
    refine va_getN (D := D) (ci := 0) (v := .int i_t_now_settled) (C := RX0) (T := TX0) (N := 9) hx hb hts uX8_send_X0 hown hK.1.1 hP 2 rfl rfl 2 (by decide) (hK.1.nw _ nw_25) (fun _ h9 => h9) rfl dX8_send_15 ?_
    refine lv_if_ne (tgt := 36) hx hb dX8_send_18 (by decide) (fun c_4 => ?_) (fun c_4 => ?_)
    · have hf := hb_f hf c_4
      refine lv_ldc (v := (-1000000003)) hx hb hown (hts _ mX8_send_208) dX8_send_36 ?_
      obtain ⟨e_0, e_1, e_2, e_3, e_4, e_5, e_6⟩ := tu7 hf
      subst e_0; subst e_1; subst e_2; subst e_3; subst e_4; subst e_5; subst e_6
      exact hret _ _ _ _ dX8_send_38 rfl hP hS
    · have hf := hb_t hf c_4
      refine lv_aload_n hx hb dX8_send_21 rfl (lv_at hl 0 rfl) ?_
      refine lv_aload_n hx hb dX8_send_22 rfl (lv_at hl 0 rfl) ?_
      refine va_get (D := D) (ci := 8) (v := .ref a_t_now) (C := RX8) (T := TX8) (N := 16) hx hb hts uX8_send_X8 hown hK.1.1 hP 0 rfl rfl 4 (by decide) (hts _ mX8_send_38) (fun _ h9 => h9) rfl dX8_send_23 ?_
      refine va_getN (D := D) (ci := 0) (v := .int i_t_now_letter) (C := RX0) (T := TX0) (N := 9) hx hb hts uX8_send_X0 hown hK.1.1 hP 2 rfl rfl 0 (by decide) (hK.1.nw _ nw_23) (fun _ h9 => h9) rfl dX8_send_26 ?_
      refine lv_iload_n hx hb dX8_send_29 rfl (lv_at hl 1 rfl) ?_
      obtain ⟨⟨r_5, z_6, z_7⟩, hc_8, hf⟩ := hb_b hf
      refine cl_Vi (rest := []) [0, 1, 2, 3, 4, 5, 6, 7] [some 0, some 1, some 2, some 3, some 4, some 5, some 6, some 7, none] 9 0 C0 hK hP hD hS hA (c_X8_isChange l D cy a_t a_t_letters a_t_now a_t_changes a_t_spoken a_t_spoken_scales a_t_changes_letters a_t_letters_sense o_t_reader o_t_spare o_t_images o_t_kept o_t_guesses o_t_guessCount o_t_book o_t_found o_t_stillOnes o_t_stillStamp o_t_paths o_t_foresight o_t_letters_tongues o_t_letters_standing o_t_letters_worthToOne o_t_letters_worthToOther (.int i_t_now_letter) (.int i_t_now_turn) (.int i_t_now_settled) o_t_now_gained (.ref a_t_now_entries) (.int i_t_now_sent) o_t_now_seed o_t_spoken_frames o_t_spoken_pairs o_t_spoken_kinds o_t_spoken_worths o_t_spoken_framed o_t_spoken_paired o_t_spoken_pairWorths i_t_letters_size i_t_now_law i_t_now_way i_t_spoken_length i_t_spoken_words f_t_spoken_scales n_t_changes_letters n_t_letters_sense f_t_letters_sense i_t_changes_count f_t_changes_letters i_t_now_letter p1 r_5 z_6 z_7 hc_8) (cwV 2 hts gX8_send_X8_isChange rfl rfl rfl (by decide +kernel) ⟨Nat.le_of_ble_eq_true rfl, Nat.le_of_ble_eq_true rfl⟩) rfl (by decide) rfl rfl rfl rfl rfl rfl rfl hl.1 rfl (Nat.le_of_ble_eq_true rfl) dX8_send_30 ⟨Nat.zero_le _, Nat.zero_le _⟩ (fun H locs hP hD hS => ?_)
      have hP : va_P D vwCl [(a_t, .inr (8, [o_t_reader, .ref a_t_spoken, o_t_spare, .ref a_t_letters, .ref a_t_now, o_t_images, o_t_kept, o_t_guesses, o_t_guessCount, o_t_book, .ref a_t_changes, o_t_found, o_t_stillOnes, o_t_stillStamp, o_t_paths, o_t_foresight])), (a_t_letters, .inr (3, [.ref a_t_spoken, o_t_letters_tongues, .int i_t_letters_size, o_t_letters_standing, .ref a_t_letters_sense, o_t_letters_worthToOne, o_t_letters_worthToOther])), (a_t_now, .inr (0, [.int i_t_now_letter, .int i_t_now_turn, .int i_t_now_settled, o_t_now_gained, .ref a_t_now_entries, .int i_t_now_sent, .int i_t_now_law, .int i_t_now_way, o_t_now_seed])), (a_t_changes, .inr (6, [.ref a_t_changes_letters, .int z_6])), (a_t_spoken, .inr (7, [.int i_t_spoken_length, .int i_t_spoken_words, o_t_spoken_frames, o_t_spoken_pairs, o_t_spoken_kinds, o_t_spoken_worths, o_t_spoken_framed, o_t_spoken_paired, o_t_spoken_pairWorths, .ref a_t_spoken_scales])), (a_t_spoken_scales, .inl (cy 0, 5, .inl f_t_spoken_scales)), (a_t_changes_letters, .inl (cy 0, n_t_changes_letters, .inl z_7)), (a_t_letters_sense, .inl (cy 1, n_t_letters_sense, .inl f_t_letters_sense)), (a_t_now_entries, .inl (cy 0, 180, .inl f_t_now_entries))] H := hP
      have hD : va_D A [(a_t, .inr (8, [o_t_reader, .ref a_t_spoken, o_t_spare, .ref a_t_letters, .ref a_t_now, o_t_images, o_t_kept, o_t_guesses, o_t_guessCount, o_t_book, .ref a_t_changes, o_t_found, o_t_stillOnes, o_t_stillStamp, o_t_paths, o_t_foresight])), (a_t_letters, .inr (3, [.ref a_t_spoken, o_t_letters_tongues, .int i_t_letters_size, o_t_letters_standing, .ref a_t_letters_sense, o_t_letters_worthToOne, o_t_letters_worthToOther])), (a_t_now, .inr (0, [.int i_t_now_letter, .int i_t_now_turn, .int i_t_now_settled, o_t_now_gained, .ref a_t_now_entries, .int i_t_now_sent, .int i_t_now_law, .int i_t_now_way, o_t_now_seed])), (a_t_changes, .inr (6, [.ref a_t_changes_letters, .int z_6])), (a_t_spoken, .inr (7, [.int i_t_spoken_length, .int i_t_spoken_words, o_t_spoken_frames, o_t_spoken_pairs, o_t_spoken_kinds, o_t_spoken_worths, o_t_spoken_framed, o_t_spoken_paired, o_t_spoken_pairWorths, .ref a_t_spoken_scales])), (a_t_spoken_scales, .inl (cy 0, 5, .inl f_t_spoken_scales)), (a_t_changes_letters, .inl (cy 0, n_t_changes_letters, .inl z_7)), (a_t_letters_sense, .inl (cy 1, n_t_letters_sense, .inl f_t_letters_sense)), (a_t_now_entries, .inl (cy 0, 180, .inl f_t_now_entries))] := hD
      refine lv_if_ne (tgt := 39) hx hb dX8_send_33 (by decide) (fun c_9 => ?_) (fun c_9 => ?_)
      · have hf := hb_f hf c_9
        refine lv_aload_n hx hb dX8_send_39 rfl (lv_at hl 0 rfl) ?_
        refine va_get (D := D) (ci := 8) (v := .ref a_t_now) (C := RX8) (T := TX8) (N := 16) hx hb hts uX8_send_X8 hown hK.1.1 hP 0 rfl rfl 4 (by decide) (hts _ mX8_send_38) (fun _ h9 => h9) rfl dX8_send_40 ?_
        refine va_getN (D := D) (ci := 0) (v := .int i_t_now_sent) (C := RX0) (T := TX0) (N := 9) hx hb hts uX8_send_X0 hown hK.1.1 hP 2 rfl rfl 5 (by decide) (hK.1.nw _ nw_27) (fun _ h9 => h9) rfl dX8_send_43 ?_
        refine lv_bipush (v := 60) hx hb dX8_send_46 (by decide) ?_
        refine lv_icmp_lt (tgt := 54) hx hb dX8_send_48 (by decide) (fun c_10 => ?_) (fun c_10 => ?_)
        · have hf := hb_t hf c_10
          refine lv_aload_n hx hb dX8_send_54 rfl (lv_at hl 0 rfl) ?_
          refine va_get (D := D) (ci := 8) (v := .ref a_t_now) (C := RX8) (T := TX8) (N := 16) hx hb hts uX8_send_X8 hown hK.1.1 hP 0 rfl rfl 4 (by decide) (hts _ mX8_send_38) (fun _ h9 => h9) rfl dX8_send_55 ?_
          refine lv_iload_n hx hb dX8_send_58 rfl (lv_at hl 1 rfl) ?_
          obtain ⟨⟨z_11, z_12, z_13, z_14⟩, hc_15, hf⟩ := hb_b hf
          refine cl_Vv (rest := []) [2, 8] [none, none, some 0, none, none, none, none, none, some 1] 9 2 C0 hK hP hD hS hA (c_X0_pass l D cy a_t_now a_t_now_entries (.int i_t_now_settled) o_t_now_gained (.int i_t_now_law) (.int i_t_now_way) o_t_now_seed i_t_now_letter i_t_now_turn i_t_now_sent f_t_now_entries p1 z_11 z_12 z_13 z_14 hc_15) (cwV 1 hts gX8_send_X0_pass rfl rfl rfl (by decide +kernel) ⟨Nat.le_of_ble_eq_true rfl, Nat.le_of_ble_eq_true rfl⟩) rfl (by decide) rfl rfl rfl rfl rfl rfl rfl hl.1 rfl (Nat.le_of_ble_eq_true rfl) dX8_send_59 ⟨Nat.zero_le _, Nat.zero_le _⟩ (fun H locs hP hD hS => ?_)
          have hP : va_P D vwCl [(a_t, .inr (8, [o_t_reader, .ref a_t_spoken, o_t_spare, .ref a_t_letters, .ref a_t_now, o_t_images, o_t_kept, o_t_guesses, o_t_guessCount, o_t_book, .ref a_t_changes, o_t_found, o_t_stillOnes, o_t_stillStamp, o_t_paths, o_t_foresight])), (a_t_letters, .inr (3, [.ref a_t_spoken, o_t_letters_tongues, .int i_t_letters_size, o_t_letters_standing, .ref a_t_letters_sense, o_t_letters_worthToOne, o_t_letters_worthToOther])), (a_t_now, .inr (0, [.int z_11, .int z_12, .int i_t_now_settled, o_t_now_gained, .ref a_t_now_entries, .int z_13, .int i_t_now_law, .int i_t_now_way, o_t_now_seed])), (a_t_changes, .inr (6, [.ref a_t_changes_letters, .int z_6])), (a_t_spoken, .inr (7, [.int i_t_spoken_length, .int i_t_spoken_words, o_t_spoken_frames, o_t_spoken_pairs, o_t_spoken_kinds, o_t_spoken_worths, o_t_spoken_framed, o_t_spoken_paired, o_t_spoken_pairWorths, .ref a_t_spoken_scales])), (a_t_spoken_scales, .inl (cy 0, 5, .inl f_t_spoken_scales)), (a_t_changes_letters, .inl (cy 0, n_t_changes_letters, .inl z_7)), (a_t_letters_sense, .inl (cy 1, n_t_letters_sense, .inl f_t_letters_sense)), (a_t_now_entries, .inl (cy 0, 180, .inl z_14))] H := hP
          have hD : va_D A [(a_t, .inr (8, [o_t_reader, .ref a_t_spoken, o_t_spare, .ref a_t_letters, .ref a_t_now, o_t_images, o_t_kept, o_t_guesses, o_t_guessCount, o_t_book, .ref a_t_changes, o_t_found, o_t_stillOnes, o_t_stillStamp, o_t_paths, o_t_foresight])), (a_t_letters, .inr (3, [.ref a_t_spoken, o_t_letters_tongues, .int i_t_letters_size, o_t_letters_standing, .ref a_t_letters_sense, o_t_letters_worthToOne, o_t_letters_worthToOther])), (a_t_now, .inr (0, [.int z_11, .int z_12, .int i_t_now_settled, o_t_now_gained, .ref a_t_now_entries, .int z_13, .int i_t_now_law, .int i_t_now_way, o_t_now_seed])), (a_t_changes, .inr (6, [.ref a_t_changes_letters, .int z_6])), (a_t_spoken, .inr (7, [.int i_t_spoken_length, .int i_t_spoken_words, o_t_spoken_frames, o_t_spoken_pairs, o_t_spoken_kinds, o_t_spoken_worths, o_t_spoken_framed, o_t_spoken_paired, o_t_spoken_pairWorths, .ref a_t_spoken_scales])), (a_t_spoken_scales, .inl (cy 0, 5, .inl f_t_spoken_scales)), (a_t_changes_letters, .inl (cy 0, n_t_changes_letters, .inl z_7)), (a_t_letters_sense, .inl (cy 1, n_t_letters_sense, .inl f_t_letters_sense)), (a_t_now_entries, .inl (cy 0, 180, .inl z_14))] := hD
          refine lv_aload_n hx hb dX8_send_62 rfl (lv_at hl 0 rfl) ?_
          refine va_get (D := D) (ci := 8) (v := .ref a_t_now) (C := RX8) (T := TX8) (N := 16) hx hb hts uX8_send_X8 hown hK.1.1 hP 0 rfl rfl 4 (by decide) (hts _ mX8_send_38) (fun _ h9 => h9) rfl dX8_send_63 ?_
          refine va_getN (D := D) (ci := 0) (v := .int z_12) (C := RX0) (T := TX0) (N := 9) hx hb hts uX8_send_X0 hown hK.1.1 hP 2 rfl rfl 1 (by decide) (hK.1.nw _ nw_24) (fun _ h9 => h9) rfl dX8_send_66 ?_
          obtain ⟨e_0, e_1, e_2, e_3, e_4, e_5, e_6⟩ := tu7 hf
          subst e_0; subst e_1; subst e_2; subst e_3; subst e_4; subst e_5; subst e_6
          exact hret _ _ _ _ dX8_send_69 rfl hP hS
        · have hf := hb_f hf c_10
          refine lv_ldc (v := (-1000000004)) hx hb hown (hts _ mX8_send_209) dX8_send_51 ?_
          obtain ⟨e_0, e_1, e_2, e_3, e_4, e_5, e_6⟩ := tu7 hf
          subst e_0; subst e_1; subst e_2; subst e_3; subst e_4; subst e_5; subst e_6
          exact hret _ _ _ _ dX8_send_53 rfl hP hS
      · have hf := hb_t hf c_9
        refine lv_ldc (v := (-1000000003)) hx hb hown (hts _ mX8_send_208) dX8_send_36 ?_
        obtain ⟨e_0, e_1, e_2, e_3, e_4, e_5, e_6⟩ := tu7 hf
        subst e_0; subst e_1; subst e_2; subst e_3; subst e_4; subst e_5; subst e_6
        exact hret _ _ _ _ dX8_send_38 rfl hP hS
  · have hf := hb_t hf c_3
    refine lv_ldc (v := (-1000000002)) hx hb hown (hts _ mX8_send_95) dX8_send_8 ?_
    obtain ⟨e_0, e_1, e_2, e_3, e_4, e_5, e_6⟩ := tu7 hf
    subst e_0; subst e_1; subst e_2; subst e_3; subst e_4; subst e_5; subst e_6
    exact hret _ _ _ _ dX8_send_10 rfl hP hS
theorem mX8_giveBoth_38 : Cond.fieldLink RX8 38 "OneWordLetters" "now" "LOneWordLetters$Course;" ∈ wsX8_giveBoth := by decide +kernel
theorem uX8_giveBoth_X8 : ∀ w ∈ wsX80, w ∈ wsX8_giveBoth := fun _ h => List.mem_cons_of_mem _ (List.mem_append_left _ (List.mem_append_left _ (List.mem_append_right _ h)))
theorem uX8_giveBoth_X0 : ∀ w ∈ wsX00, w ∈ wsX8_giveBoth := fun _ h => List.mem_cons_of_mem _ (List.mem_append_left _ (List.mem_append_right _ h))
theorem mX8_giveBoth_31 : Cond.fieldLink RX8 31 "OneWordLetters" "letters" "LOneWordLetters$Letters;" ∈ wsX8_giveBoth := by decide +kernel
abbrev rmX8_giveBoth : Room := { frames := 1, cells := 0, slots := 0, locals := 22 }
set_option maxRecDepth 100000 in
set_option maxHeartbeats 4000000 in
theorem L_X8_giveBoth_2 {p : Program} {e : Env} {s : State} {m : MethodId} {args : Array Value} {below : List Frame} {meth : Method} {c : Code} {Q : State → Prop} {A : Nat → Prop} (l : Launch) (D : va_G) (cy : Nat → ClassId) (a_t : Nat) (a_t_now : Nat) (a_t_now_gained : Nat) (a_t_letters : Nat) (a_t_letters_worthToOther : Nat) (a_t_letters_worthToOne : Nat) (o_t_reader : Value) (o_t_spoken : Value) (o_t_spare : Value) (o_t_images : Value) (o_t_kept : Value) (o_t_guesses : Value) (o_t_guessCount : Value) (o_t_book : Value) (o_t_changes : Value) (o_t_found : Value) (o_t_stillOnes : Value) (o_t_stillStamp : Value) (o_t_paths : Value) (o_t_foresight : Value) (o_t_now_turn : Value) (o_t_now_settled : Value) (o_t_now_entries : Value) (o_t_now_sent : Value) (o_t_now_law : Value) (o_t_now_way : Value) (o_t_now_seed : Value) (o_t_letters_tongue : Value) (o_t_letters_tongues : Value) (o_t_letters_standing : Value) (o_t_letters_sense : Value) (i_t_now_letter : Int32) (i_t_letters_size : Int32) (n_t_letters_worthToOther : Nat) (f_t_letters_worthToOther : Nat → Int32) (n_t_letters_worthToOne : Nat) (f_t_letters_worthToOne : Nat → Int32) (z_f_t_now_gained : Nat → Int32) (C0 : CX p s m args meth c cX8_giveBoth 2 none wsX8_giveBoth RX8) (hA : ∀ q, s.heap.size ≤ q → A q) (hK : KZ D cy A s) (hret : ∀ (H : Heap) (locs : List Loc) (ls : Array Slot) (pc : Nat), decode cX8_giveBoth pc = .ok (.return_, 1) → va_P D vwCl [(a_t, .inr (8, [o_t_reader, o_t_spoken, o_t_spare, .ref a_t_letters, .ref a_t_now, o_t_images, o_t_kept, o_t_guesses, o_t_guessCount, o_t_book, o_t_changes, o_t_found, o_t_stillOnes, o_t_stillStamp, o_t_paths, o_t_foresight])), (a_t_now, .inr (0, [.int i_t_now_letter, o_t_now_turn, o_t_now_settled, .ref a_t_now_gained, o_t_now_entries, o_t_now_sent, o_t_now_law, o_t_now_way, o_t_now_seed])), (a_t_now_gained, .inl (cy 0, 2, .inl z_f_t_now_gained)), (a_t_letters, .inr (3, [o_t_letters_tongue, o_t_letters_tongues, .int i_t_letters_size, o_t_letters_standing, o_t_letters_sense, .ref a_t_letters_worthToOne, .ref a_t_letters_worthToOther])), (a_t_letters_worthToOther, .inl (cy 0, n_t_letters_worthToOther, .inl f_t_letters_worthToOther)), (a_t_letters_worthToOne, .inl (cy 0, n_t_letters_worthToOne, .inl f_t_letters_worthToOne))] H → va_S A s.heap H locs → W p l e rmX8_giveBoth s m args below meth c H locs 0 0 Q (F0 m pc ls [])) : ∀ (n : Nat) (v1 : Int32) (f_t_now_gained : Nat → Int32), f_X8_giveBoth_L2 i_t_now_letter i_t_letters_size n_t_letters_worthToOther f_t_letters_worthToOther n_t_letters_worthToOne f_t_letters_worthToOne n v1 f_t_now_gained = some z_f_t_now_gained → ∀ (H : Heap) (locs : List Loc), va_P D vwCl [(a_t, .inr (8, [o_t_reader, o_t_spoken, o_t_spare, .ref a_t_letters, .ref a_t_now, o_t_images, o_t_kept, o_t_guesses, o_t_guessCount, o_t_book, o_t_changes, o_t_found, o_t_stillOnes, o_t_stillStamp, o_t_paths, o_t_foresight])), (a_t_now, .inr (0, [.int i_t_now_letter, o_t_now_turn, o_t_now_settled, .ref a_t_now_gained, o_t_now_entries, o_t_now_sent, o_t_now_law, o_t_now_way, o_t_now_seed])), (a_t_now_gained, .inl (cy 0, 2, .inl f_t_now_gained)), (a_t_letters, .inr (3, [o_t_letters_tongue, o_t_letters_tongues, .int i_t_letters_size, o_t_letters_standing, o_t_letters_sense, .ref a_t_letters_worthToOne, .ref a_t_letters_worthToOther])), (a_t_letters_worthToOther, .inl (cy 0, n_t_letters_worthToOther, .inl f_t_letters_worthToOther)), (a_t_letters_worthToOne, .inl (cy 0, n_t_letters_worthToOne, .inl f_t_letters_worthToOne))] H → va_D A [(a_t, .inr (8, [o_t_reader, o_t_spoken, o_t_spare, .ref a_t_letters, .ref a_t_now, o_t_images, o_t_kept, o_t_guesses, o_t_guessCount, o_t_book, o_t_changes, o_t_found, o_t_stillOnes, o_t_stillStamp, o_t_paths, o_t_foresight])), (a_t_now, .inr (0, [.int i_t_now_letter, o_t_now_turn, o_t_now_settled, .ref a_t_now_gained, o_t_now_entries, o_t_now_sent, o_t_now_law, o_t_now_way, o_t_now_seed])), (a_t_now_gained, .inl (cy 0, 2, .inl f_t_now_gained)), (a_t_letters, .inr (3, [o_t_letters_tongue, o_t_letters_tongues, .int i_t_letters_size, o_t_letters_standing, o_t_letters_sense, .ref a_t_letters_worthToOne, .ref a_t_letters_worthToOther])), (a_t_letters_worthToOther, .inl (cy 0, n_t_letters_worthToOther, .inl f_t_letters_worthToOther)), (a_t_letters_worthToOne, .inl (cy 0, n_t_letters_worthToOne, .inl f_t_letters_worthToOne))] → va_S A s.heap H locs → ∀ ls : Array Slot, lv_has ls 2 [(0, .ref a_t), (1, .int v1)] → W p l e rmX8_giveBoth s m args below meth c H locs 0 0 Q (F0 m 2 ls []) := by
  obtain ⟨hx, hb, hr, hml, hown, hts, hlocks⟩ := id C0
  intro n
  induction n with
  | zero => intro _ _ hf; rw [f_X8_giveBoth_L2.eq_1] at hf; cases hf
  | succ n ih =>
    intro v1 f_t_now_gained hf H locs hP hD hS ls hl
    rw [f_X8_giveBoth_L2.eq_2] at hf
    refine lv_iload_n hx hb dX8_giveBoth_2 rfl (lv_at hl 1 rfl) ?_
    refine lv_iconst (v := 2) hx hb dX8_giveBoth_3 (by decide) ?_
    refine lv_icmp_ge (tgt := 40) hx hb dX8_giveBoth_4 (by decide) (fun c_1 => ?_) (fun c_1 => ?_)
    · have hf := hb_t hf c_1
      have hf := Option.some.inj hf
      subst hf
      exact hret _ _ _ _ dX8_giveBoth_40 hP hS
    · have hf := hb_f hf c_1
      refine lv_aload_n hx hb dX8_giveBoth_7 rfl (lv_at hl 0 rfl) ?_
      refine va_get (D := D) (ci := 8) (v := .ref a_t_now) (C := RX8) (T := TX8) (N := 16) hx hb hts uX8_giveBoth_X8 hown hK.1.1 hP 0 rfl rfl 4 (by decide) (hts _ mX8_giveBoth_38) (fun _ h9 => h9) rfl dX8_giveBoth_8 ?_
      refine va_getN (D := D) (ci := 0) (v := .ref a_t_now_gained) (C := RX0) (T := TX0) (N := 9) hx hb hts uX8_giveBoth_X0 hown hK.1.1 hP 1 rfl rfl 3 (by decide) (hK.1.nw _ nw_26) (fun _ h9 => h9) rfl dX8_giveBoth_11 ?_
      refine lv_iload_n hx hb dX8_giveBoth_14 rfl (lv_at hl 1 rfl) ?_
      refine lv_dup2_11 hx hb dX8_giveBoth_15 rfl rfl ?_
      obtain ⟨hg_2, hf⟩ := hb_g hf
      refine va_iald hx hb hK.1.1 hP 2 0 rfl rfl (ixb_in hg_2) dX8_giveBoth_16 ?_
      refine lv_aload_n hx hb dX8_giveBoth_17 rfl (lv_at hl 0 rfl) ?_
      refine va_get (D := D) (ci := 8) (v := .ref a_t_letters) (C := RX8) (T := TX8) (N := 16) hx hb hts uX8_giveBoth_X8 hown hK.1.1 hP 0 rfl rfl 3 (by decide) (hts _ mX8_giveBoth_31) (fun _ h9 => h9) rfl dX8_giveBoth_18 ?_
      refine lv_iload_n hx hb dX8_giveBoth_21 rfl (lv_at hl 1 rfl) ?_
      refine lv_aload_n hx hb dX8_giveBoth_22 rfl (lv_at hl 0 rfl) ?_
      refine va_get (D := D) (ci := 8) (v := .ref a_t_now) (C := RX8) (T := TX8) (N := 16) hx hb hts uX8_giveBoth_X8 hown hK.1.1 hP 0 rfl rfl 4 (by decide) (hts _ mX8_giveBoth_38) (fun _ h9 => h9) rfl dX8_giveBoth_23 ?_
      refine va_getN (D := D) (ci := 0) (v := .int i_t_now_letter) (C := RX0) (T := TX0) (N := 9) hx hb hts uX8_giveBoth_X0 hown hK.1.1 hP 1 rfl rfl 0 (by decide) (hK.1.nw _ nw_23) (fun _ h9 => h9) rfl dX8_giveBoth_26 ?_
      obtain ⟨r_3, hc_4, hf⟩ := hb_b hf
      refine cl_Vi (rest := [.int (f_t_now_gained (v1 : Int32).toNatClampNeg), .int v1, .ref a_t_now_gained]) [3, 4, 5] [none, none, none, some 0, some 1, some 2] 6 3 C0 hK hP hD hS hA (c_X3_worthTo l D cy a_t_letters a_t_letters_worthToOther a_t_letters_worthToOne o_t_letters_tongue o_t_letters_tongues o_t_letters_standing o_t_letters_sense i_t_letters_size n_t_letters_worthToOther f_t_letters_worthToOther n_t_letters_worthToOne f_t_letters_worthToOne v1 i_t_now_letter r_3 hc_4) (cwV 2 hts gX8_giveBoth_X3_worthTo rfl rfl rfl (by decide +kernel) ⟨Nat.le_of_ble_eq_true rfl, Nat.le_of_ble_eq_true rfl⟩) rfl (by decide) rfl rfl rfl rfl rfl rfl rfl hl.1 rfl (Nat.le_of_ble_eq_true rfl) dX8_giveBoth_29 ⟨Nat.zero_le _, Nat.zero_le _⟩ (fun H locs hP hD hS => ?_)
      have hP : va_P D vwCl [(a_t, .inr (8, [o_t_reader, o_t_spoken, o_t_spare, .ref a_t_letters, .ref a_t_now, o_t_images, o_t_kept, o_t_guesses, o_t_guessCount, o_t_book, o_t_changes, o_t_found, o_t_stillOnes, o_t_stillStamp, o_t_paths, o_t_foresight])), (a_t_now, .inr (0, [.int i_t_now_letter, o_t_now_turn, o_t_now_settled, .ref a_t_now_gained, o_t_now_entries, o_t_now_sent, o_t_now_law, o_t_now_way, o_t_now_seed])), (a_t_now_gained, .inl (cy 0, 2, .inl f_t_now_gained)), (a_t_letters, .inr (3, [o_t_letters_tongue, o_t_letters_tongues, .int i_t_letters_size, o_t_letters_standing, o_t_letters_sense, .ref a_t_letters_worthToOne, .ref a_t_letters_worthToOther])), (a_t_letters_worthToOther, .inl (cy 0, n_t_letters_worthToOther, .inl f_t_letters_worthToOther)), (a_t_letters_worthToOne, .inl (cy 0, n_t_letters_worthToOne, .inl f_t_letters_worthToOne))] H := hP
      have hD : va_D A [(a_t, .inr (8, [o_t_reader, o_t_spoken, o_t_spare, .ref a_t_letters, .ref a_t_now, o_t_images, o_t_kept, o_t_guesses, o_t_guessCount, o_t_book, o_t_changes, o_t_found, o_t_stillOnes, o_t_stillStamp, o_t_paths, o_t_foresight])), (a_t_now, .inr (0, [.int i_t_now_letter, o_t_now_turn, o_t_now_settled, .ref a_t_now_gained, o_t_now_entries, o_t_now_sent, o_t_now_law, o_t_now_way, o_t_now_seed])), (a_t_now_gained, .inl (cy 0, 2, .inl f_t_now_gained)), (a_t_letters, .inr (3, [o_t_letters_tongue, o_t_letters_tongues, .int i_t_letters_size, o_t_letters_standing, o_t_letters_sense, .ref a_t_letters_worthToOne, .ref a_t_letters_worthToOther])), (a_t_letters_worthToOther, .inl (cy 0, n_t_letters_worthToOther, .inl f_t_letters_worthToOther)), (a_t_letters_worthToOne, .inl (cy 0, n_t_letters_worthToOne, .inl f_t_letters_worthToOne))] := hD
      refine lv_iadd hx hb dX8_giveBoth_32 ?_
      obtain ⟨hg_5, hf⟩ := hb_g hf
      refine va_iast hx hb hK.1.1 hP hD hS 2 0 rfl rfl (ixb_in hg_5) dX8_giveBoth_33 (fun H locs hP hD hS => ?_)
      have hP : va_P D vwCl [(a_t, .inr (8, [o_t_reader, o_t_spoken, o_t_spare, .ref a_t_letters, .ref a_t_now, o_t_images, o_t_kept, o_t_guesses, o_t_guessCount, o_t_book, o_t_changes, o_t_found, o_t_stillOnes, o_t_stillStamp, o_t_paths, o_t_foresight])), (a_t_now, .inr (0, [.int i_t_now_letter, o_t_now_turn, o_t_now_settled, .ref a_t_now_gained, o_t_now_entries, o_t_now_sent, o_t_now_law, o_t_now_way, o_t_now_seed])), (a_t_now_gained, .inl (cy 0, 2, .inl (upd f_t_now_gained (v1 : Int32).toNatClampNeg ((f_t_now_gained (v1 : Int32).toNatClampNeg) + r_3)))), (a_t_letters, .inr (3, [o_t_letters_tongue, o_t_letters_tongues, .int i_t_letters_size, o_t_letters_standing, o_t_letters_sense, .ref a_t_letters_worthToOne, .ref a_t_letters_worthToOther])), (a_t_letters_worthToOther, .inl (cy 0, n_t_letters_worthToOther, .inl f_t_letters_worthToOther)), (a_t_letters_worthToOne, .inl (cy 0, n_t_letters_worthToOne, .inl f_t_letters_worthToOne))] H := hP
      have hD : va_D A [(a_t, .inr (8, [o_t_reader, o_t_spoken, o_t_spare, .ref a_t_letters, .ref a_t_now, o_t_images, o_t_kept, o_t_guesses, o_t_guessCount, o_t_book, o_t_changes, o_t_found, o_t_stillOnes, o_t_stillStamp, o_t_paths, o_t_foresight])), (a_t_now, .inr (0, [.int i_t_now_letter, o_t_now_turn, o_t_now_settled, .ref a_t_now_gained, o_t_now_entries, o_t_now_sent, o_t_now_law, o_t_now_way, o_t_now_seed])), (a_t_now_gained, .inl (cy 0, 2, .inl (upd f_t_now_gained (v1 : Int32).toNatClampNeg ((f_t_now_gained (v1 : Int32).toNatClampNeg) + r_3)))), (a_t_letters, .inr (3, [o_t_letters_tongue, o_t_letters_tongues, .int i_t_letters_size, o_t_letters_standing, o_t_letters_sense, .ref a_t_letters_worthToOne, .ref a_t_letters_worthToOther])), (a_t_letters_worthToOther, .inl (cy 0, n_t_letters_worthToOther, .inl f_t_letters_worthToOther)), (a_t_letters_worthToOne, .inl (cy 0, n_t_letters_worthToOne, .inl f_t_letters_worthToOne))] := hD
      refine lv_iinc (v := (v1 + 1)) (lv' := [(1, .int (v1 + 1)), (0, .ref a_t)]) hx hb dX8_giveBoth_34 hl (k := 1) rfl rfl (by decide) rfl (fun ls hl => ?_)
      refine lv_goto (tgt := 2) hx hb dX8_giveBoth_37 (by decide) ?_
      exact ih (v1 + 1) (upd f_t_now_gained (v1 : Int32).toNatClampNeg ((f_t_now_gained (v1 : Int32).toNatClampNeg) + r_3)) hf _ _ hP hD hS _ (lv_sub hl [1, 0] rfl)
set_option maxRecDepth 100000 in
set_option maxHeartbeats 4000000 in
theorem c_X8_giveBoth (l : Launch) (D : va_G) (cy : Nat → ClassId) (a_t : Nat) (a_t_now : Nat) (a_t_now_gained : Nat) (a_t_letters : Nat) (a_t_letters_worthToOther : Nat) (a_t_letters_worthToOne : Nat) (o_t_reader : Value) (o_t_spoken : Value) (o_t_spare : Value) (o_t_images : Value) (o_t_kept : Value) (o_t_guesses : Value) (o_t_guessCount : Value) (o_t_book : Value) (o_t_changes : Value) (o_t_found : Value) (o_t_stillOnes : Value) (o_t_stillStamp : Value) (o_t_paths : Value) (o_t_foresight : Value) (o_t_now_turn : Value) (o_t_now_settled : Value) (o_t_now_entries : Value) (o_t_now_sent : Value) (o_t_now_law : Value) (o_t_now_way : Value) (o_t_now_seed : Value) (o_t_letters_tongue : Value) (o_t_letters_tongues : Value) (o_t_letters_standing : Value) (o_t_letters_sense : Value) (i_t_now_letter : Int32) (i_t_letters_size : Int32) (n_t_letters_worthToOther : Nat) (f_t_letters_worthToOther : Nat → Int32) (n_t_letters_worthToOne : Nat) (f_t_letters_worthToOne : Nat → Int32) (f_t_now_gained : Nat → Int32) (z_f_t_now_gained : Nat → Int32) (hf : f_X8_giveBoth i_t_now_letter i_t_letters_size n_t_letters_worthToOther f_t_letters_worthToOther n_t_letters_worthToOne f_t_letters_worthToOne f_t_now_gained = some z_f_t_now_gained) : MV l D cy yX8_giveBoth wsX8_giveBoth rmX8_giveBoth [.ref a_t] [(a_t, .inr (8, [o_t_reader, o_t_spoken, o_t_spare, .ref a_t_letters, .ref a_t_now, o_t_images, o_t_kept, o_t_guesses, o_t_guessCount, o_t_book, o_t_changes, o_t_found, o_t_stillOnes, o_t_stillStamp, o_t_paths, o_t_foresight])), (a_t_now, .inr (0, [.int i_t_now_letter, o_t_now_turn, o_t_now_settled, .ref a_t_now_gained, o_t_now_entries, o_t_now_sent, o_t_now_law, o_t_now_way, o_t_now_seed])), (a_t_now_gained, .inl (cy 0, 2, .inl f_t_now_gained)), (a_t_letters, .inr (3, [o_t_letters_tongue, o_t_letters_tongues, .int i_t_letters_size, o_t_letters_standing, o_t_letters_sense, .ref a_t_letters_worthToOne, .ref a_t_letters_worthToOther])), (a_t_letters_worthToOther, .inl (cy 0, n_t_letters_worthToOther, .inl f_t_letters_worthToOther)), (a_t_letters_worthToOne, .inl (cy 0, n_t_letters_worthToOne, .inl f_t_letters_worthToOne))] [(a_t, .inr (8, [o_t_reader, o_t_spoken, o_t_spare, .ref a_t_letters, .ref a_t_now, o_t_images, o_t_kept, o_t_guesses, o_t_guessCount, o_t_book, o_t_changes, o_t_found, o_t_stillOnes, o_t_stillStamp, o_t_paths, o_t_foresight])), (a_t_now, .inr (0, [.int i_t_now_letter, o_t_now_turn, o_t_now_settled, .ref a_t_now_gained, o_t_now_entries, o_t_now_sent, o_t_now_law, o_t_now_way, o_t_now_seed])), (a_t_now_gained, .inl (cy 0, 2, .inl z_f_t_now_gained)), (a_t_letters, .inr (3, [o_t_letters_tongue, o_t_letters_tongues, .int i_t_letters_size, o_t_letters_standing, o_t_letters_sense, .ref a_t_letters_worthToOne, .ref a_t_letters_worthToOther])), (a_t_letters_worthToOther, .inl (cy 0, n_t_letters_worthToOther, .inl f_t_letters_worthToOther)), (a_t_letters_worthToOne, .inl (cy 0, n_t_letters_worthToOne, .inl f_t_letters_worthToOne))] := by
  refine st_V (by decide) rfl (Nat.le_of_ble_eq_true rfl) (fun p e s m below meth c A Q ls C0 hA hK hP hD hS hl hret => ?_)
  obtain ⟨hx, hb, hr, hml, hown, hts, hlocks⟩ := id C0
  have hl : lv_has ls 2 [(0, .ref a_t)] := hl
  unfold f_X8_giveBoth at hf
  refine lv_iconst (v := 0) hx hb dX8_giveBoth_0 (by decide) ?_
  refine lv_istore_n (lv' := [(1, .int 0), (0, .ref a_t)]) hx hb dX8_giveBoth_1 rfl hl (by decide) rfl (fun ls hl => ?_)
  refine L_X8_giveBoth_2 l D cy a_t a_t_now a_t_now_gained a_t_letters a_t_letters_worthToOther a_t_letters_worthToOne o_t_reader o_t_spoken o_t_spare o_t_images o_t_kept o_t_guesses o_t_guessCount o_t_book o_t_changes o_t_found o_t_stillOnes o_t_stillStamp o_t_paths o_t_foresight o_t_now_turn o_t_now_settled o_t_now_entries o_t_now_sent o_t_now_law o_t_now_way o_t_now_seed o_t_letters_tongue o_t_letters_tongues o_t_letters_standing o_t_letters_sense i_t_now_letter i_t_letters_size n_t_letters_worthToOther f_t_letters_worthToOther n_t_letters_worthToOne f_t_letters_worthToOne z_f_t_now_gained C0 hA hK hret  FU 0 f_t_now_gained hf _ _ hP hD hS _ (lv_sub hl [1, 0] rfl)
theorem mX8_settle_38 : Cond.fieldLink RX8 38 "OneWordLetters" "now" "LOneWordLetters$Course;" ∈ wsX8_settle := by decide +kernel
theorem uX8_settle_X8 : ∀ w ∈ wsX80, w ∈ wsX8_settle := fun _ h => List.mem_cons_of_mem _ (List.mem_append_left _ (List.mem_append_left _ (List.mem_append_right _ h)))
theorem uX8_settle_X0 : ∀ w ∈ wsX00, w ∈ wsX8_settle := fun _ h => List.mem_cons_of_mem _ (List.mem_append_left _ (List.mem_append_right _ h))
theorem mX8_settle_208 : Cond.constant RX8 208 (-1000000003) ∈ wsX8_settle := by decide +kernel
theorem mX8_settle_31 : Cond.fieldLink RX8 31 "OneWordLetters" "letters" "LOneWordLetters$Letters;" ∈ wsX8_settle := by decide +kernel
theorem uX8_settle_X3 : ∀ w ∈ wsX30, w ∈ wsX8_settle := fun _ h => List.mem_cons_of_mem _ (List.mem_append_right _ h)
abbrev rmX8_settle : Room := { frames := 2, cells := 0, slots := 0, locals := 43 }
set_option maxRecDepth 100000 in
set_option maxHeartbeats 4000000 in
theorem c_X8_settle (l : Launch) (D : va_G) (cy : Nat → ClassId) (a_t : Nat) (a_t_now : Nat) (a_t_letters : Nat) (a_t_now_gained : Nat) (a_t_letters_worthToOther : Nat) (a_t_letters_worthToOne : Nat) (o_t_reader : Value) (o_t_spoken : Value) (o_t_spare : Value) (o_t_images : Value) (o_t_kept : Value) (o_t_guesses : Value) (o_t_guessCount : Value) (o_t_book : Value) (o_t_changes : Value) (o_t_found : Value) (o_t_stillOnes : Value) (o_t_stillStamp : Value) (o_t_paths : Value) (o_t_foresight : Value) (o_t_now_entries : Value) (o_t_now_sent : Value) (o_t_now_law : Value) (o_t_now_way : Value) (o_t_now_seed : Value) (o_t_letters_tongue : Value) (o_t_letters_tongues : Value) (o_t_letters_standing : Value) (o_t_letters_sense : Value) (i_t_now_letter : Int32) (i_t_now_turn : Int32) (i_t_letters_size : Int32) (n_t_letters_worthToOther : Nat) (f_t_letters_worthToOther : Nat → Int32) (n_t_letters_worthToOne : Nat) (f_t_letters_worthToOne : Nat → Int32) (i_t_now_settled : Int32) (f_t_now_gained : Nat → Int32) (rv : Int32) (z_i_t_now_settled : Int32) (z_f_t_now_gained : Nat → Int32) (hf : f_X8_settle i_t_now_letter i_t_now_turn i_t_letters_size n_t_letters_worthToOther f_t_letters_worthToOther n_t_letters_worthToOne f_t_letters_worthToOne i_t_now_settled f_t_now_gained = some (rv, z_i_t_now_settled, z_f_t_now_gained)) : MI l D cy yX8_settle wsX8_settle rmX8_settle [.ref a_t] [(a_t, .inr (8, [o_t_reader, o_t_spoken, o_t_spare, .ref a_t_letters, .ref a_t_now, o_t_images, o_t_kept, o_t_guesses, o_t_guessCount, o_t_book, o_t_changes, o_t_found, o_t_stillOnes, o_t_stillStamp, o_t_paths, o_t_foresight])), (a_t_now, .inr (0, [.int i_t_now_letter, .int i_t_now_turn, .int i_t_now_settled, .ref a_t_now_gained, o_t_now_entries, o_t_now_sent, o_t_now_law, o_t_now_way, o_t_now_seed])), (a_t_letters, .inr (3, [o_t_letters_tongue, o_t_letters_tongues, .int i_t_letters_size, o_t_letters_standing, o_t_letters_sense, .ref a_t_letters_worthToOne, .ref a_t_letters_worthToOther])), (a_t_now_gained, .inl (cy 0, 2, .inl f_t_now_gained)), (a_t_letters_worthToOther, .inl (cy 0, n_t_letters_worthToOther, .inl f_t_letters_worthToOther)), (a_t_letters_worthToOne, .inl (cy 0, n_t_letters_worthToOne, .inl f_t_letters_worthToOne))] [(a_t, .inr (8, [o_t_reader, o_t_spoken, o_t_spare, .ref a_t_letters, .ref a_t_now, o_t_images, o_t_kept, o_t_guesses, o_t_guessCount, o_t_book, o_t_changes, o_t_found, o_t_stillOnes, o_t_stillStamp, o_t_paths, o_t_foresight])), (a_t_now, .inr (0, [.int i_t_now_letter, .int i_t_now_turn, .int z_i_t_now_settled, .ref a_t_now_gained, o_t_now_entries, o_t_now_sent, o_t_now_law, o_t_now_way, o_t_now_seed])), (a_t_letters, .inr (3, [o_t_letters_tongue, o_t_letters_tongues, .int i_t_letters_size, o_t_letters_standing, o_t_letters_sense, .ref a_t_letters_worthToOne, .ref a_t_letters_worthToOther])), (a_t_now_gained, .inl (cy 0, 2, .inl z_f_t_now_gained)), (a_t_letters_worthToOther, .inl (cy 0, n_t_letters_worthToOther, .inl f_t_letters_worthToOther)), (a_t_letters_worthToOne, .inl (cy 0, n_t_letters_worthToOne, .inl f_t_letters_worthToOne))] rv := by
  refine st_I (by decide) rfl (Nat.le_of_ble_eq_true rfl) (fun p e s m below meth c A Q ls C0 hA hK hP hD hS hl hret => ?_)
  obtain ⟨hx, hb, hr, hml, hown, hts, hlocks⟩ := id C0
  have hl : lv_has ls 1 [(0, .ref a_t)] := hl
  unfold f_X8_settle at hf
  refine lv_aload_n hx hb dX8_settle_0 rfl (lv_at hl 0 rfl) ?_
  refine va_get (D := D) (ci := 8) (v := .ref a_t_now) (C := RX8) (T := TX8) (N := 16) hx hb hts uX8_settle_X8 hown hK.1.1 hP 0 rfl rfl 4 (by decide) (hts _ mX8_settle_38) (fun _ h9 => h9) rfl dX8_settle_1 ?_
  refine va_getN (D := D) (ci := 0) (v := .int i_t_now_settled) (C := RX0) (T := TX0) (N := 9) hx hb hts uX8_settle_X0 hown hK.1.1 hP 1 rfl rfl 2 (by decide) (hK.1.nw _ nw_25) (fun _ h9 => h9) rfl dX8_settle_4 ?_
  refine lv_if_ne (tgt := 20) hx hb dX8_settle_7 (by decide) (fun c_1 => ?_) (fun c_1 => ?_)
  · have hf := hb_f hf c_1
    refine lv_ldc (v := (-1000000003)) hx hb hown (hts _ mX8_settle_208) dX8_settle_20 ?_
    obtain ⟨e_0, e_1, e_2⟩ := tu3 hf
    subst e_0; subst e_1; subst e_2
    exact hret _ _ _ _ dX8_settle_22 rfl hP hS
  · have hf := hb_t hf c_1
    refine lv_aload_n hx hb dX8_settle_10 rfl (lv_at hl 0 rfl) ?_
    refine va_get (D := D) (ci := 8) (v := .ref a_t_letters) (C := RX8) (T := TX8) (N := 16) hx hb hts uX8_settle_X8 hown hK.1.1 hP 0 rfl rfl 3 (by decide) (hts _ mX8_settle_31) (fun _ h9 => h9) rfl dX8_settle_11 ?_
    refine va_getN (D := D) (ci := 3) (v := .int i_t_letters_size) (C := RX3) (T := TX3) (N := 7) hx hb hts uX8_settle_X3 hown hK.1.1 hP 2 rfl rfl 2 (by decide) (hK.1.nw _ nw_20) (fun _ h9 => h9) rfl dX8_settle_14 ?_
    refine lv_if_ne (tgt := 23) hx hb dX8_settle_17 (by decide) (fun c_2 => ?_) (fun c_2 => ?_)
    · have hf := hb_f hf c_2
      refine lv_aload_n hx hb dX8_settle_23 rfl (lv_at hl 0 rfl) ?_
      obtain ⟨z_3, hc_4, hf⟩ := hb_b hf
      refine cl_Vv (rest := []) [0, 1, 3, 2, 4, 5] [some 0, some 1, some 3, some 2, some 4, some 5] 6 0 C0 hK hP hD hS hA (c_X8_giveBoth l D cy a_t a_t_now a_t_now_gained a_t_letters a_t_letters_worthToOther a_t_letters_worthToOne o_t_reader o_t_spoken o_t_spare o_t_images o_t_kept o_t_guesses o_t_guessCount o_t_book o_t_changes o_t_found o_t_stillOnes o_t_stillStamp o_t_paths o_t_foresight (.int i_t_now_turn) (.int i_t_now_settled) o_t_now_entries o_t_now_sent o_t_now_law o_t_now_way o_t_now_seed o_t_letters_tongue o_t_letters_tongues o_t_letters_standing o_t_letters_sense i_t_now_letter i_t_letters_size n_t_letters_worthToOther f_t_letters_worthToOther n_t_letters_worthToOne f_t_letters_worthToOne f_t_now_gained z_3 hc_4) (cwV 0 hts gX8_settle_X8_giveBoth rfl rfl rfl (by decide +kernel) ⟨Nat.le_of_ble_eq_true rfl, Nat.le_of_ble_eq_true rfl⟩) rfl (by decide) rfl rfl rfl rfl rfl rfl rfl hl.1 rfl (Nat.le_of_ble_eq_true rfl) dX8_settle_24 ⟨Nat.zero_le _, Nat.zero_le _⟩ (fun H locs hP hD hS => ?_)
      have hP : va_P D vwCl [(a_t, .inr (8, [o_t_reader, o_t_spoken, o_t_spare, .ref a_t_letters, .ref a_t_now, o_t_images, o_t_kept, o_t_guesses, o_t_guessCount, o_t_book, o_t_changes, o_t_found, o_t_stillOnes, o_t_stillStamp, o_t_paths, o_t_foresight])), (a_t_now, .inr (0, [.int i_t_now_letter, .int i_t_now_turn, .int i_t_now_settled, .ref a_t_now_gained, o_t_now_entries, o_t_now_sent, o_t_now_law, o_t_now_way, o_t_now_seed])), (a_t_letters, .inr (3, [o_t_letters_tongue, o_t_letters_tongues, .int i_t_letters_size, o_t_letters_standing, o_t_letters_sense, .ref a_t_letters_worthToOne, .ref a_t_letters_worthToOther])), (a_t_now_gained, .inl (cy 0, 2, .inl z_3)), (a_t_letters_worthToOther, .inl (cy 0, n_t_letters_worthToOther, .inl f_t_letters_worthToOther)), (a_t_letters_worthToOne, .inl (cy 0, n_t_letters_worthToOne, .inl f_t_letters_worthToOne))] H := hP
      have hD : va_D A [(a_t, .inr (8, [o_t_reader, o_t_spoken, o_t_spare, .ref a_t_letters, .ref a_t_now, o_t_images, o_t_kept, o_t_guesses, o_t_guessCount, o_t_book, o_t_changes, o_t_found, o_t_stillOnes, o_t_stillStamp, o_t_paths, o_t_foresight])), (a_t_now, .inr (0, [.int i_t_now_letter, .int i_t_now_turn, .int i_t_now_settled, .ref a_t_now_gained, o_t_now_entries, o_t_now_sent, o_t_now_law, o_t_now_way, o_t_now_seed])), (a_t_letters, .inr (3, [o_t_letters_tongue, o_t_letters_tongues, .int i_t_letters_size, o_t_letters_standing, o_t_letters_sense, .ref a_t_letters_worthToOne, .ref a_t_letters_worthToOther])), (a_t_now_gained, .inl (cy 0, 2, .inl z_3)), (a_t_letters_worthToOther, .inl (cy 0, n_t_letters_worthToOther, .inl f_t_letters_worthToOther)), (a_t_letters_worthToOne, .inl (cy 0, n_t_letters_worthToOne, .inl f_t_letters_worthToOne))] := hD
      refine lv_aload_n hx hb dX8_settle_27 rfl (lv_at hl 0 rfl) ?_
      refine va_get (D := D) (ci := 8) (v := .ref a_t_now) (C := RX8) (T := TX8) (N := 16) hx hb hts uX8_settle_X8 hown hK.1.1 hP 0 rfl rfl 4 (by decide) (hts _ mX8_settle_38) (fun _ h9 => h9) rfl dX8_settle_28 ?_
      refine lv_iconst (v := 1) hx hb dX8_settle_31 (by decide) ?_
      refine va_putN (D := D) (ci := 0) (v := .int 1) (ty := .boolean) (C := RX0) (T := TX0) (N := 9) hx hb hts uX8_settle_X0 tyX0 tyX0_ok nmX0 hown hK.1.1 hP hD hS 1 rfl rfl 2 (by decide) (hK.1.nw _ nw_25) (fun _ h9 => h9) rfl (by decide +kernel) rfl rfl (Nat.le_of_ble_eq_true rfl) dX8_settle_32 (fun H locs hP hD hS => ?_)
      have hP : va_P D vwCl [(a_t, .inr (8, [o_t_reader, o_t_spoken, o_t_spare, .ref a_t_letters, .ref a_t_now, o_t_images, o_t_kept, o_t_guesses, o_t_guessCount, o_t_book, o_t_changes, o_t_found, o_t_stillOnes, o_t_stillStamp, o_t_paths, o_t_foresight])), (a_t_now, .inr (0, [.int i_t_now_letter, .int i_t_now_turn, .int 1, .ref a_t_now_gained, o_t_now_entries, o_t_now_sent, o_t_now_law, o_t_now_way, o_t_now_seed])), (a_t_letters, .inr (3, [o_t_letters_tongue, o_t_letters_tongues, .int i_t_letters_size, o_t_letters_standing, o_t_letters_sense, .ref a_t_letters_worthToOne, .ref a_t_letters_worthToOther])), (a_t_now_gained, .inl (cy 0, 2, .inl z_3)), (a_t_letters_worthToOther, .inl (cy 0, n_t_letters_worthToOther, .inl f_t_letters_worthToOther)), (a_t_letters_worthToOne, .inl (cy 0, n_t_letters_worthToOne, .inl f_t_letters_worthToOne))] H := hP
      have hD : va_D A [(a_t, .inr (8, [o_t_reader, o_t_spoken, o_t_spare, .ref a_t_letters, .ref a_t_now, o_t_images, o_t_kept, o_t_guesses, o_t_guessCount, o_t_book, o_t_changes, o_t_found, o_t_stillOnes, o_t_stillStamp, o_t_paths, o_t_foresight])), (a_t_now, .inr (0, [.int i_t_now_letter, .int i_t_now_turn, .int 1, .ref a_t_now_gained, o_t_now_entries, o_t_now_sent, o_t_now_law, o_t_now_way, o_t_now_seed])), (a_t_letters, .inr (3, [o_t_letters_tongue, o_t_letters_tongues, .int i_t_letters_size, o_t_letters_standing, o_t_letters_sense, .ref a_t_letters_worthToOne, .ref a_t_letters_worthToOther])), (a_t_now_gained, .inl (cy 0, 2, .inl z_3)), (a_t_letters_worthToOther, .inl (cy 0, n_t_letters_worthToOther, .inl f_t_letters_worthToOther)), (a_t_letters_worthToOne, .inl (cy 0, n_t_letters_worthToOne, .inl f_t_letters_worthToOne))] := hD
      refine lv_aload_n hx hb dX8_settle_35 rfl (lv_at hl 0 rfl) ?_
      refine va_get (D := D) (ci := 8) (v := .ref a_t_letters) (C := RX8) (T := TX8) (N := 16) hx hb hts uX8_settle_X8 hown hK.1.1 hP 0 rfl rfl 3 (by decide) (hts _ mX8_settle_31) (fun _ h9 => h9) rfl dX8_settle_36 ?_
      refine lv_aload_n hx hb dX8_settle_39 rfl (lv_at hl 0 rfl) ?_
      refine va_get (D := D) (ci := 8) (v := .ref a_t_now) (C := RX8) (T := TX8) (N := 16) hx hb hts uX8_settle_X8 hown hK.1.1 hP 0 rfl rfl 4 (by decide) (hts _ mX8_settle_38) (fun _ h9 => h9) rfl dX8_settle_40 ?_
      refine va_getN (D := D) (ci := 0) (v := .int i_t_now_turn) (C := RX0) (T := TX0) (N := 9) hx hb hts uX8_settle_X0 hown hK.1.1 hP 1 rfl rfl 1 (by decide) (hK.1.nw _ nw_24) (fun _ h9 => h9) rfl dX8_settle_43 ?_
      refine lv_aload_n hx hb dX8_settle_46 rfl (lv_at hl 0 rfl) ?_
      refine va_get (D := D) (ci := 8) (v := .ref a_t_now) (C := RX8) (T := TX8) (N := 16) hx hb hts uX8_settle_X8 hown hK.1.1 hP 0 rfl rfl 4 (by decide) (hts _ mX8_settle_38) (fun _ h9 => h9) rfl dX8_settle_47 ?_
      refine va_getN (D := D) (ci := 0) (v := .int i_t_now_letter) (C := RX0) (T := TX0) (N := 9) hx hb hts uX8_settle_X0 hown hK.1.1 hP 1 rfl rfl 0 (by decide) (hK.1.nw _ nw_23) (fun _ h9 => h9) rfl dX8_settle_50 ?_
      obtain ⟨r_5, hc_6, hf⟩ := hb_b hf
      refine cl_Vi (rest := []) [2, 4, 5] [none, none, some 0, none, some 1, some 2] 6 2 C0 hK hP hD hS hA (c_X3_worthTo l D cy a_t_letters a_t_letters_worthToOther a_t_letters_worthToOne o_t_letters_tongue o_t_letters_tongues o_t_letters_standing o_t_letters_sense i_t_letters_size n_t_letters_worthToOther f_t_letters_worthToOther n_t_letters_worthToOne f_t_letters_worthToOne i_t_now_turn i_t_now_letter r_5 hc_6) (cwV 2 hts gX8_settle_X3_worthTo rfl rfl rfl (by decide +kernel) ⟨Nat.le_of_ble_eq_true rfl, Nat.le_of_ble_eq_true rfl⟩) rfl (by decide) rfl rfl rfl rfl rfl rfl rfl hl.1 rfl (Nat.le_of_ble_eq_true rfl) dX8_settle_53 ⟨Nat.zero_le _, Nat.zero_le _⟩ (fun H locs hP hD hS => ?_)
      have hP : va_P D vwCl [(a_t, .inr (8, [o_t_reader, o_t_spoken, o_t_spare, .ref a_t_letters, .ref a_t_now, o_t_images, o_t_kept, o_t_guesses, o_t_guessCount, o_t_book, o_t_changes, o_t_found, o_t_stillOnes, o_t_stillStamp, o_t_paths, o_t_foresight])), (a_t_now, .inr (0, [.int i_t_now_letter, .int i_t_now_turn, .int 1, .ref a_t_now_gained, o_t_now_entries, o_t_now_sent, o_t_now_law, o_t_now_way, o_t_now_seed])), (a_t_letters, .inr (3, [o_t_letters_tongue, o_t_letters_tongues, .int i_t_letters_size, o_t_letters_standing, o_t_letters_sense, .ref a_t_letters_worthToOne, .ref a_t_letters_worthToOther])), (a_t_now_gained, .inl (cy 0, 2, .inl z_3)), (a_t_letters_worthToOther, .inl (cy 0, n_t_letters_worthToOther, .inl f_t_letters_worthToOther)), (a_t_letters_worthToOne, .inl (cy 0, n_t_letters_worthToOne, .inl f_t_letters_worthToOne))] H := hP
      have hD : va_D A [(a_t, .inr (8, [o_t_reader, o_t_spoken, o_t_spare, .ref a_t_letters, .ref a_t_now, o_t_images, o_t_kept, o_t_guesses, o_t_guessCount, o_t_book, o_t_changes, o_t_found, o_t_stillOnes, o_t_stillStamp, o_t_paths, o_t_foresight])), (a_t_now, .inr (0, [.int i_t_now_letter, .int i_t_now_turn, .int 1, .ref a_t_now_gained, o_t_now_entries, o_t_now_sent, o_t_now_law, o_t_now_way, o_t_now_seed])), (a_t_letters, .inr (3, [o_t_letters_tongue, o_t_letters_tongues, .int i_t_letters_size, o_t_letters_standing, o_t_letters_sense, .ref a_t_letters_worthToOne, .ref a_t_letters_worthToOther])), (a_t_now_gained, .inl (cy 0, 2, .inl z_3)), (a_t_letters_worthToOther, .inl (cy 0, n_t_letters_worthToOther, .inl f_t_letters_worthToOther)), (a_t_letters_worthToOne, .inl (cy 0, n_t_letters_worthToOne, .inl f_t_letters_worthToOne))] := hD
      obtain ⟨e_0, e_1, e_2⟩ := tu3 hf
      subst e_0; subst e_1; subst e_2
      exact hret _ _ _ _ dX8_settle_56 rfl hP hS
    · have hf := hb_t hf c_2
      refine lv_ldc (v := (-1000000003)) hx hb hown (hts _ mX8_settle_208) dX8_settle_20 ?_
      obtain ⟨e_0, e_1, e_2⟩ := tu3 hf
      subst e_0; subst e_1; subst e_2
      exact hret _ _ _ _ dX8_settle_22 rfl hP hS
theorem mX8_had_38 : Cond.fieldLink RX8 38 "OneWordLetters" "now" "LOneWordLetters$Course;" ∈ wsX8_had := by decide +kernel
theorem uX8_had_X8 : ∀ w ∈ wsX80, w ∈ wsX8_had := fun _ h => List.mem_cons_of_mem _ (List.mem_append_left _ (List.mem_append_right _ h))
theorem uX8_had_X0 : ∀ w ∈ wsX00, w ∈ wsX8_had := fun _ h => List.mem_cons_of_mem _ (List.mem_append_right _ h)
theorem mX8_had_173 : Cond.constant RX8 173 (-1000000001) ∈ wsX8_had := by decide +kernel
abbrev rmX8_had : Room := { frames := 1, cells := 0, slots := 0, locals := 20 }
set_option maxRecDepth 100000 in
set_option maxHeartbeats 4000000 in
theorem c_X8_had (l : Launch) (D : va_G) (cy : Nat → ClassId) (a_t : Nat) (a_t_now : Nat) (a_t_now_gained : Nat) (o_t_reader : Value) (o_t_spoken : Value) (o_t_spare : Value) (o_t_letters : Value) (o_t_images : Value) (o_t_kept : Value) (o_t_guesses : Value) (o_t_guessCount : Value) (o_t_book : Value) (o_t_changes : Value) (o_t_found : Value) (o_t_stillOnes : Value) (o_t_stillStamp : Value) (o_t_paths : Value) (o_t_foresight : Value) (o_t_now_letter : Value) (o_t_now_turn : Value) (o_t_now_settled : Value) (o_t_now_entries : Value) (o_t_now_sent : Value) (o_t_now_law : Value) (o_t_now_way : Value) (o_t_now_seed : Value) (f_t_now_gained : Nat → Int32) (p1 : Int32) (rv : Int32) (hf : f_X8_had f_t_now_gained p1 = some rv) : MI l D cy yX8_had wsX8_had rmX8_had [.ref a_t, .int p1] [(a_t, .inr (8, [o_t_reader, o_t_spoken, o_t_spare, o_t_letters, .ref a_t_now, o_t_images, o_t_kept, o_t_guesses, o_t_guessCount, o_t_book, o_t_changes, o_t_found, o_t_stillOnes, o_t_stillStamp, o_t_paths, o_t_foresight])), (a_t_now, .inr (0, [o_t_now_letter, o_t_now_turn, o_t_now_settled, .ref a_t_now_gained, o_t_now_entries, o_t_now_sent, o_t_now_law, o_t_now_way, o_t_now_seed])), (a_t_now_gained, .inl (cy 0, 2, .inl f_t_now_gained))] [(a_t, .inr (8, [o_t_reader, o_t_spoken, o_t_spare, o_t_letters, .ref a_t_now, o_t_images, o_t_kept, o_t_guesses, o_t_guessCount, o_t_book, o_t_changes, o_t_found, o_t_stillOnes, o_t_stillStamp, o_t_paths, o_t_foresight])), (a_t_now, .inr (0, [o_t_now_letter, o_t_now_turn, o_t_now_settled, .ref a_t_now_gained, o_t_now_entries, o_t_now_sent, o_t_now_law, o_t_now_way, o_t_now_seed])), (a_t_now_gained, .inl (cy 0, 2, .inl f_t_now_gained))] rv := by
  refine st_I (by decide) rfl (Nat.le_of_ble_eq_true rfl) (fun p e s m below meth c A Q ls C0 hA hK hP hD hS hl hret => ?_)
  obtain ⟨hx, hb, hr, hml, hown, hts, hlocks⟩ := id C0
  have hl : lv_has ls 2 [(0, .ref a_t), (1, .int p1)] := hl
  unfold f_X8_had at hf
  refine lv_iload_n hx hb dX8_had_0 rfl (lv_at hl 1 rfl) ?_
  obtain ⟨r_1, hc_2, hf⟩ := hb_b hf
  refine cl_Si (rest := []) [] [none, none, none] 3 C0 hK hP hD hS hA (c_X8_isHouse l D cy p1 r_1 hc_2) (va_cwS 1 hts gX8_had_X8_isHouse rfl rfl rfl (by decide +kernel) ⟨Nat.le_of_ble_eq_true rfl, Nat.le_of_ble_eq_true rfl⟩) rfl (by decide) rfl rfl rfl rfl hl.1 rfl (Nat.le_of_ble_eq_true rfl) dX8_had_1 ⟨Nat.zero_le _, Nat.zero_le _⟩ (fun H locs hP hD hS => ?_)
  have hP : va_P D vwCl [(a_t, .inr (8, [o_t_reader, o_t_spoken, o_t_spare, o_t_letters, .ref a_t_now, o_t_images, o_t_kept, o_t_guesses, o_t_guessCount, o_t_book, o_t_changes, o_t_found, o_t_stillOnes, o_t_stillStamp, o_t_paths, o_t_foresight])), (a_t_now, .inr (0, [o_t_now_letter, o_t_now_turn, o_t_now_settled, .ref a_t_now_gained, o_t_now_entries, o_t_now_sent, o_t_now_law, o_t_now_way, o_t_now_seed])), (a_t_now_gained, .inl (cy 0, 2, .inl f_t_now_gained))] H := hP
  have hD : va_D A [(a_t, .inr (8, [o_t_reader, o_t_spoken, o_t_spare, o_t_letters, .ref a_t_now, o_t_images, o_t_kept, o_t_guesses, o_t_guessCount, o_t_book, o_t_changes, o_t_found, o_t_stillOnes, o_t_stillStamp, o_t_paths, o_t_foresight])), (a_t_now, .inr (0, [o_t_now_letter, o_t_now_turn, o_t_now_settled, .ref a_t_now_gained, o_t_now_entries, o_t_now_sent, o_t_now_law, o_t_now_way, o_t_now_seed])), (a_t_now_gained, .inl (cy 0, 2, .inl f_t_now_gained))] := hD
  refine lv_if_ne (tgt := 10) hx hb dX8_had_4 (by decide) (fun c_3 => ?_) (fun c_3 => ?_)
  · have hf := hb_f hf c_3
    refine lv_aload_n hx hb dX8_had_10 rfl (lv_at hl 0 rfl) ?_
    refine va_get (D := D) (ci := 8) (v := .ref a_t_now) (C := RX8) (T := TX8) (N := 16) hx hb hts uX8_had_X8 hown hK.1.1 hP 0 rfl rfl 4 (by decide) (hts _ mX8_had_38) (fun _ h9 => h9) rfl dX8_had_11 ?_
    refine va_getN (D := D) (ci := 0) (v := .ref a_t_now_gained) (C := RX0) (T := TX0) (N := 9) hx hb hts uX8_had_X0 hown hK.1.1 hP 1 rfl rfl 3 (by decide) (hK.1.nw _ nw_26) (fun _ h9 => h9) rfl dX8_had_14 ?_
    refine lv_iload_n hx hb dX8_had_17 rfl (lv_at hl 1 rfl) ?_
    obtain ⟨hg_4, hf⟩ := hb_g hf
    refine va_iald hx hb hK.1.1 hP 2 0 rfl rfl (ixb_in hg_4) dX8_had_18 ?_
    have hf := Option.some.inj hf
    subst hf
    exact hret _ _ _ _ dX8_had_19 rfl hP hS
  · have hf := hb_t hf c_3
    refine lv_ldc (v := (-1000000001)) hx hb hown (hts _ mX8_had_173) dX8_had_7 ?_
    have hf := Option.some.inj hf
    subst hf
    exact hret _ _ _ _ dX8_had_9 rfl hP hS
theorem mX8_log_95 : Cond.constant RX8 95 (-1000000002) ∈ wsX8_log := by decide +kernel
theorem mX8_log_38 : Cond.fieldLink RX8 38 "OneWordLetters" "now" "LOneWordLetters$Course;" ∈ wsX8_log := by decide +kernel
theorem uX8_log_X8 : ∀ w ∈ wsX80, w ∈ wsX8_log := fun _ h => List.mem_cons_of_mem _ (List.mem_append_left _ (List.mem_append_right _ h))
abbrev rmX8_log : Room := { frames := 1, cells := 0, slots := 0, locals := 22 }
set_option maxRecDepth 100000 in
set_option maxHeartbeats 4000000 in
theorem c_X8_log (l : Launch) (D : va_G) (cy : Nat → ClassId) (a_t : Nat) (a_t_now : Nat) (a_t_now_entries : Nat) (o_t_reader : Value) (o_t_spoken : Value) (o_t_spare : Value) (o_t_letters : Value) (o_t_images : Value) (o_t_kept : Value) (o_t_guesses : Value) (o_t_guessCount : Value) (o_t_book : Value) (o_t_changes : Value) (o_t_found : Value) (o_t_stillOnes : Value) (o_t_stillStamp : Value) (o_t_paths : Value) (o_t_foresight : Value) (o_t_now_letter : Value) (o_t_now_turn : Value) (o_t_now_settled : Value) (o_t_now_gained : Value) (o_t_now_law : Value) (o_t_now_way : Value) (o_t_now_seed : Value) (i_t_now_sent : Int32) (f_t_now_entries : Nat → Int32) (p1 : Int32) (p2 : Int32) (rv : Int32) (hf : f_X8_log i_t_now_sent f_t_now_entries p1 p2 = some rv) : MI l D cy yX8_log wsX8_log rmX8_log [.ref a_t, .int p1, .int p2] [(a_t, .inr (8, [o_t_reader, o_t_spoken, o_t_spare, o_t_letters, .ref a_t_now, o_t_images, o_t_kept, o_t_guesses, o_t_guessCount, o_t_book, o_t_changes, o_t_found, o_t_stillOnes, o_t_stillStamp, o_t_paths, o_t_foresight])), (a_t_now, .inr (0, [o_t_now_letter, o_t_now_turn, o_t_now_settled, o_t_now_gained, .ref a_t_now_entries, .int i_t_now_sent, o_t_now_law, o_t_now_way, o_t_now_seed])), (a_t_now_entries, .inl (cy 0, 180, .inl f_t_now_entries))] [(a_t, .inr (8, [o_t_reader, o_t_spoken, o_t_spare, o_t_letters, .ref a_t_now, o_t_images, o_t_kept, o_t_guesses, o_t_guessCount, o_t_book, o_t_changes, o_t_found, o_t_stillOnes, o_t_stillStamp, o_t_paths, o_t_foresight])), (a_t_now, .inr (0, [o_t_now_letter, o_t_now_turn, o_t_now_settled, o_t_now_gained, .ref a_t_now_entries, .int i_t_now_sent, o_t_now_law, o_t_now_way, o_t_now_seed])), (a_t_now_entries, .inl (cy 0, 180, .inl f_t_now_entries))] rv := by
  refine st_I (by decide) rfl (Nat.le_of_ble_eq_true rfl) (fun p e s m below meth c A Q ls C0 hA hK hP hD hS hl hret => ?_)
  obtain ⟨hx, hb, hr, hml, hown, hts, hlocks⟩ := id C0
  have hl : lv_has ls 3 [(0, .ref a_t), (1, .int p1), (2, .int p2)] := hl
  unfold f_X8_log at hf
  refine lv_iload_n hx hb dX8_log_0 rfl (lv_at hl 2 rfl) ?_
  refine lv_if_lt (tgt := 9) hx hb dX8_log_1 (by decide) (fun c_1 => ?_) (fun c_1 => ?_)
  · have hf := hb_t hf c_1
    refine lv_ldc (v := (-1000000002)) hx hb hown (hts _ mX8_log_95) dX8_log_9 ?_
    have hf := Option.some.inj hf
    subst hf
    exact hret _ _ _ _ dX8_log_11 rfl hP hS
  · have hf := hb_f hf c_1
    refine lv_iload_n hx hb dX8_log_4 rfl (lv_at hl 2 rfl) ?_
    refine lv_iconst (v := 2) hx hb dX8_log_5 (by decide) ?_
    refine lv_icmp_le (tgt := 12) hx hb dX8_log_6 (by decide) (fun c_2 => ?_) (fun c_2 => ?_)
    · have hf := hb_t hf c_2
      refine lv_aload_n hx hb dX8_log_12 rfl (lv_at hl 0 rfl) ?_
      refine va_get (D := D) (ci := 8) (v := .ref a_t_now) (C := RX8) (T := TX8) (N := 16) hx hb hts uX8_log_X8 hown hK.1.1 hP 0 rfl rfl 4 (by decide) (hts _ mX8_log_38) (fun _ h9 => h9) rfl dX8_log_13 ?_
      refine lv_iload_n hx hb dX8_log_16 rfl (lv_at hl 1 rfl) ?_
      refine lv_iload_n hx hb dX8_log_17 rfl (lv_at hl 2 rfl) ?_
      obtain ⟨r_3, hc_4, hf⟩ := hb_b hf
      refine cl_Vi (rest := []) [1, 2] [none, some 0, some 1] 3 1 C0 hK hP hD hS hA (c_X0_entry l D cy a_t_now a_t_now_entries o_t_now_letter o_t_now_turn o_t_now_settled o_t_now_gained o_t_now_law o_t_now_way o_t_now_seed i_t_now_sent f_t_now_entries p1 p2 r_3 hc_4) (cwV 2 hts gX8_log_X0_entry rfl rfl rfl (by decide +kernel) ⟨Nat.le_of_ble_eq_true rfl, Nat.le_of_ble_eq_true rfl⟩) rfl (by decide) rfl rfl rfl rfl rfl rfl rfl hl.1 rfl (Nat.le_of_ble_eq_true rfl) dX8_log_18 ⟨Nat.zero_le _, Nat.zero_le _⟩ (fun H locs hP hD hS => ?_)
      have hP : va_P D vwCl [(a_t, .inr (8, [o_t_reader, o_t_spoken, o_t_spare, o_t_letters, .ref a_t_now, o_t_images, o_t_kept, o_t_guesses, o_t_guessCount, o_t_book, o_t_changes, o_t_found, o_t_stillOnes, o_t_stillStamp, o_t_paths, o_t_foresight])), (a_t_now, .inr (0, [o_t_now_letter, o_t_now_turn, o_t_now_settled, o_t_now_gained, .ref a_t_now_entries, .int i_t_now_sent, o_t_now_law, o_t_now_way, o_t_now_seed])), (a_t_now_entries, .inl (cy 0, 180, .inl f_t_now_entries))] H := hP
      have hD : va_D A [(a_t, .inr (8, [o_t_reader, o_t_spoken, o_t_spare, o_t_letters, .ref a_t_now, o_t_images, o_t_kept, o_t_guesses, o_t_guessCount, o_t_book, o_t_changes, o_t_found, o_t_stillOnes, o_t_stillStamp, o_t_paths, o_t_foresight])), (a_t_now, .inr (0, [o_t_now_letter, o_t_now_turn, o_t_now_settled, o_t_now_gained, .ref a_t_now_entries, .int i_t_now_sent, o_t_now_law, o_t_now_way, o_t_now_seed])), (a_t_now_entries, .inl (cy 0, 180, .inl f_t_now_entries))] := hD
      have hf := Option.some.inj hf
      subst hf
      exact hret _ _ _ _ dX8_log_21 rfl hP hS
    · have hf := hb_f hf c_2
      refine lv_ldc (v := (-1000000002)) hx hb hown (hts _ mX8_log_95) dX8_log_9 ?_
      have hf := Option.some.inj hf
      subst hf
      exact hret _ _ _ _ dX8_log_11 rfl hP hS
