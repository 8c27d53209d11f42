/-! tongue: class and reference -/
def gZ (cap Z : Nat) : Nat := if Z ≤ cap then 0 else Z
theorem gr_eq {cap Z : Nat} (hc : cap < 2 ^ 31) (hZ : Z < 2 ^ 31) : gr cap (nI Z) = gZ cap Z := by
  unfold gr gZ
  by_cases h : Z ≤ cap
  · rw [if_pos (nI_le h hc), if_pos h]
  · rw [if_neg (nI_ge (by omega) hZ), if_neg h, nI_clamp hZ]
theorem Z16 (Z : Nat) : nI Z * 2 * 8 = nI (16 * Z) := by
  have e : (2 : Int32) = nI 2 := rfl
  have e8 : (8 : Int32) = nI 8 := rfl
  rw [e, e8, pk_mul, pk_mul]
  congr 1
  omega
theorem gS_eq {cap Z : Nat} (hc : cap ≤ 4096) (hZ : Z ≤ 4096) : gq cap (nI Z) + gr (16 * cap) ((nI Z * 2) * 8) + gs cap (nI Z) ≤ 19 * gZ cap Z + (if Z ≤ cap then 0 else 4) := by
  rw [Z16]
  unfold gq gr gs gZ
  by_cases h : Z ≤ cap
  · rw [if_pos (nI_le h (by omega)), if_pos (nI_le (show 16 * Z ≤ 16 * cap by omega) (by omega)), if_pos (nI_le h (by omega)), if_pos h, if_pos h]
    omega
  · rw [if_neg (nI_ge (by omega) (by omega)), if_neg (nI_ge (show 16 * cap < 16 * Z by omega) (by omega)), if_neg (nI_ge (by omega) (by omega)), if_neg h, if_neg h, nI_clamp (by omega), nI_clamp (by omega)]
    omega
theorem szb_nI {Z : Nat} (h : Z ≤ 70000) : szb (nI Z) = true := by
  unfold szb
  rw [nI_toInt (by omega)]
  exact decide_eq_true ⟨by omega, by omega⟩
theorem mr8_eq {cap Z : Nat} {cnt qc : Int32} {ff st qf mem : Nat → Int32} (hc : cap ≤ 4096) (hZ : Z ≤ 4096) : ∃ cnt' ff' st' qc' qf' mem', f_X8_makeRoom cnt cap ff cap st qc cap qf (16 * cap) mem (nI Z) = some (cnt', capN cap Z, ff', capN cap Z, st', qc', capN cap Z, qf', 16 * capN cap Z, mem') ∧ ((Z ≤ cap ∧ mem' = mem) ∨ (cap < Z ∧ mem' = fun _ => 0)) := by
  unfold f_X8_makeRoom f_X4_makeRoom f_X1_makeRoom capN
  rw [Z16]
  by_cases h : Z ≤ cap
  · rw [if_pos (nI_le h (by omega)), if_pos (nI_le (show 16 * Z ≤ 16 * cap by omega) (by omega))]
    simp only [bs]
    rw [if_pos (nI_le h (by omega)), if_pos h]
    exact ⟨_, _, _, _, _, _, rfl, Or.inl ⟨h, rfl⟩⟩
  · rw [if_neg (nI_ge (by omega) (by omega)), if_neg (nI_ge (show 16 * cap < 16 * Z by omega) (by omega))]
    simp only [szb_nI (show Z ≤ 70000 by omega), szb_nI (show 16 * Z ≤ 70000 by omega), if_true, bs]
    rw [if_neg (nI_ge (by omega) (by omega)), if_neg h, nI_clamp (by omega), nI_clamp (by omega)]
    exact ⟨_, _, _, _, _, _, rfl, Or.inr ⟨by omega, rfl⟩⟩
set_option maxHeartbeats 4000000 in
theorem o_tongue {len cap : Nat} {tx : Nat → Nat} {t8 t9 f_t_spoken_kinds f_t_spoken_worths0 f_t_spoken_worths1 f_t_spoken_framed f_t_spoken_paired f_t_spoken_pairWorths0 f_t_spoken_pairWorths1 f_t_spoken_scales f_t_spare_kinds f_t_spare_worths0 f_t_spare_worths1 f_t_spare_framed f_t_spare_paired f_t_spare_pairWorths0 f_t_spare_pairWorths1 f_t_spare_scales f_t_letters_sense f_t_letters_worthToOne f_t_letters_worthToOther f_t_stillOnes_letters f_t_paths_steps f_t_paths_queue_letters f_t_foresight_memory f_t_now_gained f_t_kept rp rf rk rw' kind worths frame pair st wo had ik : Nat → Int32} {i_t_guessCount i_t_spoken_length i_t_spoken_words i_t_spoken_frames i_t_spoken_pairs i_t_spare_length i_t_spare_words i_t_spare_frames i_t_spare_pairs i_t_letters_tongues i_t_letters_size i_t_letters_standing i_t_reader_place i_t_reader_start i_t_reader_faultNumber i_t_reader_faultByte i_t_stillOnes_count i_t_paths_queue_count i_t_now_letter i_t_now_turn i_t_now_settled i_t_now_sent i_t_book_count places words frames pairs letters standing letter turn settled logged fp0 at0 we num na rpl rwd rfr rpr gss bk : Int32} {sd : Int64} (hT : TX len tx t8 t9) (hcap : cap ≤ 4096) : ∃ S0 S1, (∀ (r_1 : Int32) (z_2 : Int32) (z_3 : Int32) (z_4 : Int32) (z_5 : Int32) (z_6 : Int32) (z_7 : Int32) (z_8 : Int32) (z_9 : Int32) (z_10 : Int32) (z_11 : Nat → Int32) (z_12 : Nat → Int32) (z_13 : Nat → Int32) (z_14 : Nat → Int32) (z_15 : Nat → Int32) (z_16 : Nat → Int32) (z_17 : Nat → Int32), (f_X5_read t8 (nI len) i_t_reader_place i_t_reader_start i_t_reader_faultNumber i_t_reader_faultByte i_t_spare_length i_t_spare_words i_t_spare_frames i_t_spare_pairs f_t_spare_framed f_t_spare_paired f_t_spare_pairWorths0 f_t_spare_pairWorths1 f_t_spare_kinds f_t_spare_worths0 f_t_spare_worths1 = some (r_1, z_2, z_3, z_4, z_5, z_6, z_7, z_8, z_9, z_10, z_11, z_12, z_13, z_14, z_15, z_16, z_17)) → (r_1 = 0) → (∀ (r_1 : Int32) (z_2 : Nat → Int32), (f_X7_countLetters z_7 z_8 f_t_spare_scales = some (r_1, z_2)) → 3 * gr cap r_1 ≤ S0)) ∧ (∀ (r_1 : Int32) (z_2 : Int32) (z_3 : Int32) (z_4 : Int32) (z_5 : Int32) (z_6 : Int32) (z_7 : Int32) (z_8 : Int32) (z_9 : Int32) (z_10 : Int32) (z_11 : Nat → Int32) (z_12 : Nat → Int32) (z_13 : Nat → Int32) (z_14 : Nat → Int32) (z_15 : Nat → Int32) (z_16 : Nat → Int32) (z_17 : Nat → Int32) (z_20 : Int32) (z_21 : Int32) (z_22 : Int32) (z_23 : Nat) (z_24 : Nat → Int32) (z_25 : Nat) (z_26 : Nat → Int32) (z_27 : Nat) (z_28 : Nat → Int32) (z_29 : Nat → Int32), (f_X5_read t8 (nI len) i_t_reader_place i_t_reader_start i_t_reader_faultNumber i_t_reader_faultByte i_t_spare_length i_t_spare_words i_t_spare_frames i_t_spare_pairs f_t_spare_framed f_t_spare_paired f_t_spare_pairWorths0 f_t_spare_pairWorths1 f_t_spare_kinds f_t_spare_worths0 f_t_spare_worths1 = some (r_1, z_2, z_3, z_4, z_5, z_6, z_7, z_8, z_9, z_10, z_11, z_12, z_13, z_14, z_15, z_16, z_17)) → (r_1 = 0) → (f_X3_lay z_7 z_8 z_9 z_10 z_15 z_16 z_17 z_11 z_12 z_13 z_14 i_t_letters_tongues i_t_letters_size i_t_letters_standing cap f_t_letters_sense cap f_t_letters_worthToOne cap f_t_letters_worthToOther f_t_spare_scales = some (z_20, z_21, z_22, z_23, z_24, z_25, z_26, z_27, z_28, z_29)) → gq cap z_21 + gr (16 * cap) ((z_21 * 2) * 8) + gs cap z_21 ≤ S1) ∧ ((∃ e b1 b2 b3 b4 kd' w0' w1' fm' pr' pw0' pw1' p8 s8 fb' a' sd' we' num' na' x1 x2 x3 x4 rp' rf' rk' rw'', f_X8_tongue t8 i_t_guessCount i_t_spoken_length i_t_spoken_words i_t_spoken_frames i_t_spoken_pairs i_t_spare_length i_t_spare_words i_t_spare_frames i_t_spare_pairs f_t_spoken_kinds f_t_spoken_worths0 f_t_spoken_worths1 f_t_spoken_framed f_t_spoken_paired f_t_spoken_pairWorths0 f_t_spoken_pairWorths1 f_t_spoken_scales f_t_spare_kinds f_t_spare_worths0 f_t_spare_worths1 f_t_spare_framed f_t_spare_paired f_t_spare_pairWorths0 f_t_spare_pairWorths1 f_t_spare_scales i_t_letters_tongues i_t_letters_size i_t_letters_standing (nI len) i_t_reader_place i_t_reader_start i_t_reader_faultNumber i_t_reader_faultByte cap f_t_letters_sense cap f_t_letters_worthToOne cap f_t_letters_worthToOther i_t_stillOnes_count cap f_t_stillOnes_letters cap f_t_paths_steps i_t_paths_queue_count cap f_t_paths_queue_letters (16 * cap) f_t_foresight_memory i_t_now_letter i_t_now_turn i_t_now_settled i_t_now_sent f_t_now_gained i_t_book_count f_t_kept = some (-10 - nI e, i_t_guessCount, i_t_spoken_length, i_t_spoken_words, i_t_spoken_frames, i_t_spoken_pairs, b1, b2, b3, b4, f_t_spoken_kinds, f_t_spoken_worths0, f_t_spoken_worths1, f_t_spoken_framed, f_t_spoken_paired, f_t_spoken_pairWorths0, f_t_spoken_pairWorths1, f_t_spoken_scales, kd', w0', w1', fm', pr', pw0', pw1', f_t_spare_scales, i_t_letters_tongues, i_t_letters_size, i_t_letters_standing, 0, p8, s8, nI e, fb', cap, f_t_letters_sense, cap, f_t_letters_worthToOne, cap, f_t_letters_worthToOther, i_t_stillOnes_count, cap, f_t_stillOnes_letters, cap, f_t_paths_steps, i_t_paths_queue_count, cap, f_t_paths_queue_letters, 16 * cap, f_t_foresight_memory, i_t_now_letter, i_t_now_turn, i_t_now_settled, i_t_now_sent, f_t_now_gained, i_t_book_count, f_t_kept) ∧ f_X9_tongue t9 places words frames pairs letters standing letter turn settled logged (nI len) fp0 at0 sd we num na rpl rwd rfr rpr gss bk rp rf rk rw' kind worths frame pair st wo had ik = some (-10 - nI e, places, words, frames, pairs, letters, standing, letter, turn, settled, logged, 0, fb', a', sd', we', num', na', x1, x2, x3, x4, gss, bk, rp', rf', rk', rw'', kind, worths, frame, pair, st, wo, had, ik) ∧ S0 = 0 ∧ S1 = 0) ∨ (∃ N L F P Z kd' w0' w1' fm' pr' pw0' pw1' sc' sd8 p8 s8 sense' one' other' cnt' ff' steps' qc' qf' mem' ga' kept' a' sd' we' num' na' rp' rf' rk' rw'' kind' worths' frame' pair' st' wo' had' ik', f_X8_tongue t8 i_t_guessCount i_t_spoken_length i_t_spoken_words i_t_spoken_frames i_t_spoken_pairs i_t_spare_length i_t_spare_words i_t_spare_frames i_t_spare_pairs f_t_spoken_kinds f_t_spoken_worths0 f_t_spoken_worths1 f_t_spoken_framed f_t_spoken_paired f_t_spoken_pairWorths0 f_t_spoken_pairWorths1 f_t_spoken_scales f_t_spare_kinds f_t_spare_worths0 f_t_spare_worths1 f_t_spare_framed f_t_spare_paired f_t_spare_pairWorths0 f_t_spare_pairWorths1 f_t_spare_scales i_t_letters_tongues i_t_letters_size i_t_letters_standing (nI len) i_t_reader_place i_t_reader_start i_t_reader_faultNumber i_t_reader_faultByte cap f_t_letters_sense cap f_t_letters_worthToOne cap f_t_letters_worthToOther i_t_stillOnes_count cap f_t_stillOnes_letters cap f_t_paths_steps i_t_paths_queue_count cap f_t_paths_queue_letters (16 * cap) f_t_foresight_memory i_t_now_letter i_t_now_turn i_t_now_settled i_t_now_sent f_t_now_gained i_t_book_count f_t_kept = some (nI Z, 0, nI L, nI N, nI F, nI P, i_t_spoken_length, i_t_spoken_words, i_t_spoken_frames, i_t_spoken_pairs, kd', w0', w1', fm', pr', pw0', pw1', sc', f_t_spoken_kinds, f_t_spoken_worths0, f_t_spoken_worths1, f_t_spoken_framed, f_t_spoken_paired, f_t_spoken_pairWorths0, f_t_spoken_pairWorths1, f_t_spoken_scales, i_t_letters_tongues + 1, nI Z, sd8, 0, p8, s8, 0, -1, capN cap Z, sense', capN cap Z, one', capN cap Z, other', cnt', capN cap Z, ff', capN cap Z, steps', qc', capN cap Z, qf', 16 * capN cap Z, mem', 0, 0, 0, 0, ga', 0, kept') ∧ f_X9_tongue t9 places words frames pairs letters standing letter turn settled logged (nI len) fp0 at0 sd we num na rpl rwd rfr rpr gss bk rp rf rk rw' kind worths frame pair st wo had ik = some (nI Z, nI L, nI N, nI F, nI P, nI Z, sd8, 0, 0, 0, 0, 0, -1, a', sd', we', num', na', nI L, nI N, nI F, nI P, 0, 0, rp', rf', rk', rw'', kind', worths', frame', pair', st', wo', had', ik') ∧ TG N L F P kd' w0' w1' fm' pr' pw0' pw1' kind' worths' frame' pair' ∧ CT N L Z (capN cap Z) sc' sense' st' ∧ WT Z (capN cap Z) (capN cap Z) one' other' wo' ∧ ((Z ≤ cap ∧ mem' = f_t_foresight_memory) ∨ (cap < Z ∧ mem' = fun _ => 0)) ∧ (had' 0 = ga' 0 ∧ had' 1 = ga' 1) ∧ (∀ i, i < 2 → kept' i = 0 ∧ ik' i = 0) ∧ S0 = 3 * gZ cap Z ∧ S1 = 19 * gZ cap Z + (if Z ≤ cap then 0 else 4))) := by
  obtain ⟨p8, s8, fn', fb', L8, N8, F8, P8, fm', pr', pw0', pw1', kd', w0', w1', r, fp', a', sd', we', num', na', L9, N9, F9, P9, rp', rf', rk', rw'', c1, c2, c3⟩ := rd_all (a := kind) (b := worths) (c := frame) (d := pair) (x := st) (y := wo) (z := had) (w := ik) (v2 := places) (v3 := words) (v4 := frames) (v5 := pairs) (v6 := letters) (v7 := standing) (v8 := letter) (v9 := turn) (v10 := settled) (v11 := logged) (v22 := gss) (v23 := bk) (we := we) (num := num) (na := na) (sd := sd) (rp := rp) (rf := rf) (rk := rk) (rw' := rw') (pl := i_t_reader_place) (st := i_t_reader_start) (fn0 := i_t_reader_faultNumber) (fb0 := i_t_reader_faultByte) (sl := i_t_spare_length) (sw := i_t_spare_words) (sf := i_t_spare_frames) (sp := i_t_spare_pairs) (fm := f_t_spare_framed) (pr := f_t_spare_paired) (pw0 := f_t_spare_pairWorths0) (pw1 := f_t_spare_pairWorths1) (kd := f_t_spare_kinds) (w0 := f_t_spare_worths0) (w1 := f_t_spare_worths1) hT (fun (v1_22 : Int32) (z_23 : Int32) (z_24 : Int32) (z_25 : Int32) (z_26 : Int32) (z_27 : Int32) (z_28 : Int32) (z_29 : Int32) (z_30 : Int32) (z_31 : Int32) (z_32 : Int32) (z_33 : Int32) (z_34 : Int32) (z_35 : Int32) (z_36 : Int64) (z_37 : Int32) (z_38 : Int32) (z_39 : Int32) (z_40 : Int32) (z_41 : Int32) (z_42 : Int32) (z_43 : Int32) (z_44 : Int32) (z_45 : Int32) (z_46 : Nat → Int32) (z_47 : Nat → Int32) (z_48 : Nat → Int32) (z_49 : Nat → Int32) (z_50 : Nat → Int32) (z_51 : Nat → Int32) (z_52 : Nat → Int32) (z_53 : Nat → Int32) (z_54 : Nat → Int32) (z_55 : Nat → Int32) (z_56 : Nat → Int32) (z_57 : Nat → Int32) =>
    if v1_22 ≤ 0 then
      f_X9_tongue_L99 t9 (fun (z_68 : Int32) (z_69 : Int32) (z_70 : Int32) (z_71 : Int32) (z_72 : Int32) (z_73 : Int32) (z_74 : Int32) (z_75 : Int32) (z_76 : Int32) (z_77 : Int32) (z_78 : Int32) (z_79 : Int32) (z_80 : Int32) (z_81 : Int64) (z_82 : Int32) (z_83 : Int32) (z_84 : Int32) (z_85 : Int32) (z_86 : Int32) (z_87 : Int32) (z_88 : Int32) (z_89 : Int32) (z_90 : Int32) (z_91 : Nat → Int32) (z_92 : Nat → Int32) (z_93 : Nat → Int32) (z_94 : Nat → Int32) (z_95 : Nat → Int32) (z_96 : Nat → Int32) (z_97 : Nat → Int32) (z_98 : Nat → Int32) (z_99 : Nat → Int32) (z_100 : Nat → Int32) (z_101 : Nat → Int32) (z_102 : Nat → Int32) =>
        (f_X9_findLetters z_68 z_69 z_70 z_71 z_97 z_95 z_96 z_98 z_72 z_73 z_99 z_100).bind fun (z_103, z_104, z_105, z_106) =>
        if ixb 0 2 = true then
        if ixb 1 2 = true then
        if ixb 0 2 = true then
        if ixb 1 2 = true then
        some (z_103, z_68, z_69, z_70, z_71, z_103, z_104, 0, 0, 0, 0, z_78, z_79, z_80, z_81, z_82, z_83, z_84, z_85, z_86, z_87, z_88, 0, 0, z_91, z_92, z_93, z_94, z_95, z_96, z_97, z_98, z_105, z_106, (upd (upd z_101 (0 : Int32).toNatClampNeg 0) (1 : Int32).toNatClampNeg 0), (upd (upd z_102 (0 : Int32).toNatClampNeg (vp_nar .boolean 0)) (1 : Int32).toNatClampNeg (vp_nar .boolean 0)))
        else none
        else none
        else none
        else none) FU 0 z_40 z_41 z_42 z_43 z_27 z_28 z_29 z_30 z_31 z_32 0 z_34 z_35 z_36 z_37 z_38 z_39 z_40 z_41 z_42 z_43 z_44 z_45 z_46 z_47 z_48 z_49 z_50 z_51 z_52 z_53 z_54 z_55 z_56 z_57
    else
      some (((-10) - v1_22), z_23, z_24, z_25, z_26, z_27, z_28, z_29, z_30, z_31, z_32, 0, z_34, z_35, z_36, z_37, z_38, z_39, z_40, z_41, z_42, z_43, z_44, z_45, z_46, z_47, z_48, z_49, z_50, z_51, z_52, z_53, z_54, z_55, z_56, z_57))
  unfold f_X8_tongue f_X9_tongue
  rw [c1, c2]
  simp only [bs]
  rcases c3 with ⟨e, q1, q2, rfl, rfl, rfl⟩ | ⟨rfl, rfl, rfl, rfl, N, L, F, P, rfl, rfl, rfl, rfl, rfl, rfl, rfl, rfl, hG⟩
  · have hz := nIp (show ¬ e = 0 by omega) q2
    have hp : ¬ nI e ≤ 0 := nI_nle (by omega) (by omega)
    refine ⟨0, 0, ?_, ?_, Or.inl ?_⟩
    · intro r_1 z_2 z_3 z_4 z_5 z_6 z_7 z_8 z_9 z_10 z_11 z_12 z_13 z_14 z_15 z_16 z_17 h0 h1
      have := congrArg Prod.fst (Option.some.inj h0)
      exact absurd (this.trans h1) hz
    · intro r_1 z_2 z_3 z_4 z_5 z_6 z_7 z_8 z_9 z_10 z_11 z_12 z_13 z_14 z_15 z_16 z_17 z_20 z_21 z_22 z_23 z_24 z_25 z_26 z_27 z_28 z_29 h0 h1
      have := congrArg Prod.fst (Option.some.inj h0)
      exact absurd (this.trans h1) hz
    · rw [if_neg hz, if_neg hp]
      exact ⟨_, _, _, _, _, _, _, _, _, _, _, _, _, _, _, _, _, _, _, _, _, _, _, _, _, _, _, _, rfl, rfl, rfl, rfl⟩
  · obtain ⟨kind', worths', frame', pair', d1, d2⟩ := cp_L (t9 := t9) (rk := rk') (rw' := rw'') (rf := rf') (rp := rp') (x := st) (y := wo) (z := had) (w := ik) (v2 := nI L) (v3 := nI N) (v4 := nI F) (v5 := nI P) (v6 := letters) (v7 := standing) (v8 := letter) (v9 := turn) (v10 := settled) (v11 := logged) (v12 := 0) (v13 := -1) (v14 := a') (v15 := sd') (v16 := we') (v17 := num') (v18 := na') (v19 := nI L) (v20 := nI N) (v21 := nI F) (v22 := nI P) (v23 := gss) (v24 := bk) (fun (z_68 : Int32) (z_69 : Int32) (z_70 : Int32) (z_71 : Int32) (z_72 : Int32) (z_73 : Int32) (z_74 : Int32) (z_75 : Int32) (z_76 : Int32) (z_77 : Int32) (z_78 : Int32) (z_79 : Int32) (z_80 : Int32) (z_81 : Int64) (z_82 : Int32) (z_83 : Int32) (z_84 : Int32) (z_85 : Int32) (z_86 : Int32) (z_87 : Int32) (z_88 : Int32) (z_89 : Int32) (z_90 : Int32) (z_91 : Nat → Int32) (z_92 : Nat → Int32) (z_93 : Nat → Int32) (z_94 : Nat → Int32) (z_95 : Nat → Int32) (z_96 : Nat → Int32) (z_97 : Nat → Int32) (z_98 : Nat → Int32) (z_99 : Nat → Int32) (z_100 : Nat → Int32) (z_101 : Nat → Int32) (z_102 : Nat → Int32) =>
        (f_X9_findLetters z_68 z_69 z_70 z_71 z_97 z_95 z_96 z_98 z_72 z_73 z_99 z_100).bind fun (z_103, z_104, z_105, z_106) =>
        if ixb 0 2 = true then
        if ixb 1 2 = true then
        if ixb 0 2 = true then
        if ixb 1 2 = true then
        some (z_103, z_68, z_69, z_70, z_71, z_103, z_104, 0, 0, 0, 0, z_78, z_79, z_80, z_81, z_82, z_83, z_84, z_85, z_86, z_87, z_88, 0, 0, z_91, z_92, z_93, z_94, z_95, z_96, z_97, z_98, z_105, z_106, (upd (upd z_101 (0 : Int32).toNatClampNeg 0) (1 : Int32).toNatClampNeg 0), (upd (upd z_102 (0 : Int32).toNatClampNeg (vp_nar .boolean 0)) (1 : Int32).toNatClampNeg (vp_nar .boolean 0)))
        else none
        else none
        else none
        else none) FU 48 (Nat.le_refl _) (FU_lt (by omega)) kind worths frame pair ⟨fun j _ h => by omega, fun j _ h => by omega, fun j _ h => by omega, fun j _ h => by omega⟩
    have hTG := TG_copy hG d2
    obtain ⟨Z, sd8, sc', sense', one', other', st', wo', eZ, e8, e9, hCT, hWT, hcap2⟩ := ly_eq (tg := i_t_letters_tongues) (sz := i_t_letters_size) (sd8 := i_t_letters_standing) (lz := letters) (sd9 := standing) (sc := f_t_spare_scales) (sense := f_t_letters_sense) (one := f_t_letters_worthToOne) (other := f_t_letters_worthToOther) (st := st) (wo := wo) hTG hcap
    have hZ : Z ≤ 4096 := hCT.Z_le
    obtain ⟨cnt', ff', steps', qc', qf', mem', m1, m2⟩ := mr8_eq (cnt := i_t_stillOnes_count) (ff := f_t_stillOnes_letters) (st := f_t_paths_steps) (qc := i_t_paths_queue_count) (qf := f_t_paths_queue_letters) (mem := f_t_foresight_memory) hcap hZ
    obtain ⟨ga', g1, g2⟩ := fl_eq (nn := 2) (v := 0) (f := f_t_now_gained) (by decide)
    obtain ⟨kept', k1, k2⟩ := fl_eq (nn := 2) (v := 0) (f := f_t_kept) (by decide)
    have z48 : nI (48 - 48) = 0 := rfl
    rw [z48] at d1
    refine ⟨3 * gZ cap Z, 19 * gZ cap Z + (if Z ≤ cap then 0 else 4), ?_, ?_, Or.inr ?_⟩
    · intro r_1 z_2 z_3 z_4 z_5 z_6 z_7 z_8 z_9 z_10 z_11 z_12 z_13 z_14 z_15 z_16 z_17 h0 h1 r_2 z_18 h2
      obtain ⟨sc2, f1, f2⟩ := cl_eq (sc := f_t_spare_scales) hTG.1 hTG.2.1
      have h0 := Option.some.inj h0
      simp only [Prod.mk.injEq] at h0
      obtain ⟨-, -, -, -, -, -, rfl, rfl, -⟩ := h0
      rw [f1] at h2
      have h2 : nI (if N = 0 then 0 else N ^ L) = r_2 := congrArg Prod.fst (Option.some.inj h2)
      rw [← h2, ← eZ]
      show 3 * gr cap (nI Z) ≤ _
      rw [gr_eq (by omega) (by omega)]
      exact Nat.le_refl _
    · intro r_1 z_2 z_3 z_4 z_5 z_6 z_7 z_8 z_9 z_10 z_11 z_12 z_13 z_14 z_15 z_16 z_17 z_20 z_21 z_22 z_23 z_24 z_25 z_26 z_27 z_28 z_29 h0 h1 h2
      have h0 := Option.some.inj h0
      simp only [Prod.mk.injEq] at h0
      obtain ⟨-, -, -, -, -, -, rfl, rfl, rfl, rfl, rfl, rfl, rfl, rfl, rfl, rfl, rfl⟩ := h0
      rw [e8] at h2
      have h2 := Option.some.inj h2
      simp only [Prod.mk.injEq] at h2
      obtain ⟨-, rfl, -⟩ := h2
      exact gS_eq hcap hZ
    · rw [if_pos (rfl : (0 : Int32) = 0), e8]
      simp only [bs]
      rw [m1]
      simp only [bs]
      unfold f_X0_restart f_X6_empty
      rw [g1, k1]
      simp only [bs]
      rw [if_pos (show (0 : Int32) ≤ 0 by decide), d1, e9]
      simp only [bs]
      refine ⟨N, L, F, P, Z, _, _, _, _, _, _, _, _, _, _, _, _, _, _, _, _, _, _, _, _, _, _, _, _, _, _, _, _, _, _, _, _, _, _, _, _, _, _, _, rfl, rfl, hTG, hCT, hWT, m2, ?_, ?_, rfl, rfl⟩
      · rw [g2 0 (by decide), g2 1 (by decide)]
        exact ⟨rfl, rfl⟩
      · intro i hi
        refine ⟨k2 i hi, ?_⟩
        rcases (show i = 0 ∨ i = 1 by omega) with rfl | rfl
        · rfl
        · rfl
