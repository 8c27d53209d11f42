theorem mX5_take_19 : Cond.fieldLink RX5 19 "OneWordLetters$Reader" "length" "I" ∈ wsX5_take := by decide +kernel
theorem uX5_take_X5 : ∀ w ∈ wsX50, w ∈ wsX5_take := fun _ h => List.mem_cons_of_mem _ (List.mem_append_right _ h)
theorem mX5_take_9 : Cond.fieldLink RX5 9 "OneWordLetters$Reader" "text" "[B" ∈ wsX5_take := by decide +kernel
theorem mX5_take_22 : Cond.constant RX5 22 (-1000000004) ∈ wsX5_take := by decide +kernel
abbrev rmX5_take : Room := { frames := 0, cells := 0, slots := 0, locals := 0 }
set_option maxRecDepth 100000 in
set_option maxHeartbeats 4000000 in
theorem L_X5_take_20 {p : Program} {e : Env} {s : State} {m : MethodId} {args : Array Value} {below : List Frame} {meth : Method} {c : Code} {Q : State → Prop} {A : Nat → Prop} (l : Launch) (D : va_G) (cy : Nat → ClassId) (a_t : Nat) (a_t_text : Nat) (o_t_place : Value) (o_t_start : Value) (o_t_faultNumber : Value) (o_t_faultByte : Value) (rv : Int32) (z_i_t_length : Int32) (z_f_t_text : Nat → Int32) (C0 : CX p s m args meth c cX5_take 5 (some .int) wsX5_take RX5) (hA : ∀ q, s.heap.size ≤ q → A q) (hK : KZ D cy A s) (hret : ∀ (H : Heap) (locs : List Loc) (ls : Array Slot) (pc : Nat), decode cX5_take pc = .ok (.ireturn, 1) → narrow .int (.int rv) = .int rv → va_P D vwCl [(a_t, .inr (5, [.ref a_t_text, .int z_i_t_length, o_t_place, o_t_start, o_t_faultNumber, o_t_faultByte])), (a_t_text, .inl (cy 1, 500, .inl z_f_t_text))] H → va_S A s.heap H locs → W p l e rmX5_take s m args below meth c H locs 0 0 Q (F0 m pc ls [.int rv])) : ∀ (n : Nat) (v2 : Int64) (v4 : Int32) (i_t_length : Int32) (f_t_text : Nat → Int32), f_X5_take_L20 n v2 v4 i_t_length f_t_text = some (rv, z_i_t_length, z_f_t_text) → ∀ (H : Heap) (locs : List Loc), va_P D vwCl [(a_t, .inr (5, [.ref a_t_text, .int i_t_length, o_t_place, o_t_start, o_t_faultNumber, o_t_faultByte])), (a_t_text, .inl (cy 1, 500, .inl f_t_text))] H → va_D A [(a_t, .inr (5, [.ref a_t_text, .int i_t_length, o_t_place, o_t_start, o_t_faultNumber, o_t_faultByte])), (a_t_text, .inl (cy 1, 500, .inl f_t_text))] → va_S A s.heap H locs → ∀ ls : Array Slot, lv_has ls 5 [(0, .ref a_t), (2, .long v2), (4, .int v4)] → W p l e rmX5_take s m args below meth c H locs 0 0 Q (F0 m 20 ls []) := by
  obtain ⟨hx, hb, hr, hml, hown, hts, hlocks⟩ := id C0
  intro n
  induction n with
  | zero => intro _ _ _ _ hf; rw [f_X5_take_L20.eq_1] at hf; cases hf
  | succ n ih =>
    intro v2 v4 i_t_length f_t_text hf H locs hP hD hS ls hl
    rw [f_X5_take_L20.eq_2] at hf
    refine lv_iload hx hb dX5_take_20 (lv_at hl 2 rfl) ?_
    refine lv_if_lt (tgt := 59) hx hb dX5_take_22 (by decide) (fun c_2 => ?_) (fun c_2 => ?_)
    · have hf := hb_t hf c_2
      refine lv_aload_n hx hb dX5_take_59 rfl (lv_at hl 0 rfl) ?_
      refine va_get (D := D) (ci := 5) (v := .int i_t_length) (C := RX5) (T := TX5) (N := 6) hx hb hts uX5_take_X5 hown hK.1.1 hP 0 rfl rfl 1 (by decide) (hts _ mX5_take_19) (fun _ h9 => h9) rfl dX5_take_60 ?_
      obtain ⟨e_0, e_1, e_2⟩ := tu3 hf
      subst e_0; subst e_1; subst e_2
      exact hret _ _ _ _ dX5_take_63 rfl hP hS
    · have hf := hb_f hf c_2
      refine lv_aload_n hx hb dX5_take_25 rfl (lv_at hl 0 rfl) ?_
      refine va_get (D := D) (ci := 5) (v := .ref a_t_text) (C := RX5) (T := TX5) (N := 6) hx hb hts uX5_take_X5 hown hK.1.1 hP 0 rfl rfl 0 (by decide) (hts _ mX5_take_9) (fun _ h9 => h9) rfl dX5_take_26 ?_
      refine lv_aload_n hx hb dX5_take_29 rfl (lv_at hl 0 rfl) ?_
      refine va_get (D := D) (ci := 5) (v := .int i_t_length) (C := RX5) (T := TX5) (N := 6) hx hb hts uX5_take_X5 hown hK.1.1 hP 0 rfl rfl 1 (by decide) (hts _ mX5_take_19) (fun _ h9 => h9) rfl dX5_take_30 ?_
      refine lv_lload_n hx hb dX5_take_33 rfl (lv_at hl 1 rfl) ?_
      refine lv_bipush (v := 8) hx hb dX5_take_34 (by decide) ?_
      refine lv_iload hx hb dX5_take_36 (lv_at hl 2 rfl) ?_
      refine lv_imul hx hb dX5_take_38 ?_
      refine lv_lushr (v := (v2.toUInt64 >>> (((8 * v4) : Int32).toInt64.toUInt64 &&& Int64.toUInt64 63)).toInt64) hx hb dX5_take_39 rfl ?_
      refine lv_l2i (v := ((((v2.toUInt64 >>> (((8 * v4) : Int32).toInt64.toUInt64 &&& Int64.toUInt64 63)).toInt64) : Int64).toInt32)) hx hb dX5_take_40 rfl ?_
      refine lv_i2b (v := ((((((v2.toUInt64 >>> (((8 * v4) : Int32).toInt64.toUInt64 &&& Int64.toUInt64 63)).toInt64) : Int64).toInt32) : Int32).toInt8.toInt32)) hx hb dX5_take_41 rfl ?_
      obtain ⟨hg_3, hf⟩ := hb_g hf
      refine va_bast hx hb hK.1.1 hP hD hS 1 1 rfl rfl (ixb_in hg_3) dX5_take_42 (fun H locs hP hD hS => ?_)
      have hP : va_P D vwCl [(a_t, .inr (5, [.ref a_t_text, .int i_t_length, o_t_place, o_t_start, o_t_faultNumber, o_t_faultByte])), (a_t_text, .inl (cy 1, 500, .inl (upd f_t_text (i_t_length : Int32).toNatClampNeg (vp_nar .byte ((((((v2.toUInt64 >>> (((8 * v4) : Int32).toInt64.toUInt64 &&& Int64.toUInt64 63)).toInt64) : Int64).toInt32) : Int32).toInt8.toInt32)))))] H := hP
      have hD : va_D A [(a_t, .inr (5, [.ref a_t_text, .int i_t_length, o_t_place, o_t_start, o_t_faultNumber, o_t_faultByte])), (a_t_text, .inl (cy 1, 500, .inl (upd f_t_text (i_t_length : Int32).toNatClampNeg (vp_nar .byte ((((((v2.toUInt64 >>> (((8 * v4) : Int32).toInt64.toUInt64 &&& Int64.toUInt64 63)).toInt64) : Int64).toInt32) : Int32).toInt8.toInt32)))))] := hD
      refine lv_aload_n hx hb dX5_take_43 rfl (lv_at hl 0 rfl) ?_
      refine lv_dup hx hb dX5_take_44 rfl ?_
      refine va_get (D := D) (ci := 5) (v := .int i_t_length) (C := RX5) (T := TX5) (N := 6) hx hb hts uX5_take_X5 hown hK.1.1 hP 0 rfl rfl 1 (by decide) (hts _ mX5_take_19) (fun _ h9 => h9) rfl dX5_take_45 ?_
      refine lv_iconst (v := 1) hx hb dX5_take_48 (by decide) ?_
      refine lv_iadd hx hb dX5_take_49 ?_
      refine va_put (D := D) (ci := 5) (v := .int (i_t_length + 1)) (ty := .int) (C := RX5) (T := TX5) (N := 6) hx hb hts uX5_take_X5 tyX5 tyX5_ok nmX5 hown hK.1.1 hP hD hS 0 rfl rfl 1 (by decide) (hts _ mX5_take_19) (fun _ h9 => h9) rfl (by decide +kernel) rfl rfl (Nat.le_of_ble_eq_true rfl) dX5_take_50 (fun H locs hP hD hS => ?_)
      have hP : va_P D vwCl [(a_t, .inr (5, [.ref a_t_text, .int (i_t_length + 1), o_t_place, o_t_start, o_t_faultNumber, o_t_faultByte])), (a_t_text, .inl (cy 1, 500, .inl (upd f_t_text (i_t_length : Int32).toNatClampNeg (vp_nar .byte ((((((v2.toUInt64 >>> (((8 * v4) : Int32).toInt64.toUInt64 &&& Int64.toUInt64 63)).toInt64) : Int64).toInt32) : Int32).toInt8.toInt32)))))] H := hP
      have hD : va_D A [(a_t, .inr (5, [.ref a_t_text, .int (i_t_length + 1), o_t_place, o_t_start, o_t_faultNumber, o_t_faultByte])), (a_t_text, .inl (cy 1, 500, .inl (upd f_t_text (i_t_length : Int32).toNatClampNeg (vp_nar .byte ((((((v2.toUInt64 >>> (((8 * v4) : Int32).toInt64.toUInt64 &&& Int64.toUInt64 63)).toInt64) : Int64).toInt32) : Int32).toInt8.toInt32)))))] := hD
      refine lv_iinc (v := (v4 + (-1))) (lv' := [(4, .int (v4 + (-1))), (0, .ref a_t), (2, .long v2)]) hx hb dX5_take_53 hl (k := 2) rfl rfl (by decide) rfl (fun ls hl => ?_)
      refine lv_goto (tgt := 20) hx hb dX5_take_56 (by decide) ?_
      exact ih v2 (v4 + (-1)) (i_t_length + 1) (upd f_t_text (i_t_length : Int32).toNatClampNeg (vp_nar .byte ((((((v2.toUInt64 >>> (((8 * v4) : Int32).toInt64.toUInt64 &&& Int64.toUInt64 63)).toInt64) : Int64).toInt32) : Int32).toInt8.toInt32))) hf _ _ hP hD hS _ (lv_sub hl [1, 2, 0] rfl)
set_option maxRecDepth 100000 in
set_option maxHeartbeats 4000000 in
theorem c_X5_take (l : Launch) (D : va_G) (cy : Nat → ClassId) (a_t : Nat) (a_t_text : Nat) (o_t_place : Value) (o_t_start : Value) (o_t_faultNumber : Value) (o_t_faultByte : Value) (i_t_length : Int32) (f_t_text : Nat → Int32) (p1 : Int32) (p2 : Int64) (rv : Int32) (z_i_t_length : Int32) (z_f_t_text : Nat → Int32) (hf : f_X5_take i_t_length f_t_text p1 p2 = some (rv, z_i_t_length, z_f_t_text)) : MI l D cy yX5_take wsX5_take rmX5_take [.ref a_t, .int p1, .long p2] [(a_t, .inr (5, [.ref a_t_text, .int i_t_length, o_t_place, o_t_start, o_t_faultNumber, o_t_faultByte])), (a_t_text, .inl (cy 1, 500, .inl f_t_text))] [(a_t, .inr (5, [.ref a_t_text, .int z_i_t_length, o_t_place, o_t_start, o_t_faultNumber, o_t_faultByte])), (a_t_text, .inl (cy 1, 500, .inl z_f_t_text))] rv := by
  refine st_I (by decide) rfl (Nat.le_of_ble_eq_true rfl) (fun p e s m below meth c A Q ls C0 hA hK hP hD hS hl hret => ?_)
  obtain ⟨hx, hb, hr, hml, hown, hts, hlocks⟩ := id C0
  have hl : lv_has ls 5 [(0, .ref a_t), (1, .int p1), (2, .long p2)] := hl
  unfold f_X5_take at hf
  refine lv_aload_n hx hb dX5_take_0 rfl (lv_at hl 0 rfl) ?_
  refine va_get (D := D) (ci := 5) (v := .int i_t_length) (C := RX5) (T := TX5) (N := 6) hx hb hts uX5_take_X5 hown hK.1.1 hP 0 rfl rfl 1 (by decide) (hts _ mX5_take_19) (fun _ h9 => h9) rfl dX5_take_1 ?_
  refine lv_iload_n hx hb dX5_take_4 rfl (lv_at hl 1 rfl) ?_
  refine lv_iadd hx hb dX5_take_5 ?_
  refine lv_sipush (v := 500) hx hb dX5_take_6 (by decide) ?_
  refine lv_icmp_le (tgt := 15) hx hb dX5_take_9 (by decide) (fun c_1 => ?_) (fun c_1 => ?_)
  · have hf := hb_t hf c_1
    refine lv_iload_n hx hb dX5_take_15 rfl (lv_at hl 1 rfl) ?_
    refine lv_iconst (v := 1) hx hb dX5_take_16 (by decide) ?_
    refine lv_isub hx hb dX5_take_17 ?_
    refine lv_istore (lv' := [(4, .int (p1 - 1)), (0, .ref a_t), (1, .int p1), (2, .long p2)]) hx hb dX5_take_18 hl (by decide) rfl (fun ls hl => ?_)
    refine L_X5_take_20 l D cy a_t a_t_text o_t_place o_t_start o_t_faultNumber o_t_faultByte rv z_i_t_length z_f_t_text C0 hA hK hret  FU p2 (p1 - 1) i_t_length f_t_text hf _ _ hP hD hS _ (lv_sub hl [1, 3, 0] rfl)
  · have hf := hb_f hf c_1
    refine lv_ldc (v := (-1000000004)) hx hb hown (hts _ mX5_take_22) dX5_take_12 ?_
    obtain ⟨e_0, e_1, e_2⟩ := tu3 hf
    subst e_0; subst e_1; subst e_2
    exact hret _ _ _ _ dX5_take_14 rfl hP hS
theorem mX5_skipBlanks_23 : Cond.fieldLink RX5 23 "OneWordLetters$Reader" "place" "I" ∈ wsX5_skipBlanks := by decide +kernel
theorem uX5_skipBlanks_X5 : ∀ w ∈ wsX50, w ∈ wsX5_skipBlanks := fun _ h => List.mem_cons_of_mem _ (List.mem_append_right _ h)
theorem mX5_skipBlanks_19 : Cond.fieldLink RX5 19 "OneWordLetters$Reader" "length" "I" ∈ wsX5_skipBlanks := by decide +kernel
theorem mX5_skipBlanks_9 : Cond.fieldLink RX5 9 "OneWordLetters$Reader" "text" "[B" ∈ wsX5_skipBlanks := by decide +kernel
abbrev rmX5_skipBlanks : Room := { frames := 0, cells := 0, slots := 0, locals := 0 }
set_option maxRecDepth 100000 in
set_option maxHeartbeats 4000000 in
theorem L_X5_skipBlanks_0 {p : Program} {e : Env} {s : State} {m : MethodId} {args : Array Value} {below : List Frame} {meth : Method} {c : Code} {Q : State → Prop} {A : Nat → Prop} (l : Launch) (D : va_G) (cy : Nat → ClassId) (a_t : Nat) (a_t_text : Nat) (o_t_start : Value) (o_t_faultNumber : Value) (o_t_faultByte : Value) (i_t_length : Int32) (f_t_text : Nat → Int32) (z_i_t_place : Int32) (C0 : CX p s m args meth c cX5_skipBlanks 1 none wsX5_skipBlanks RX5) (hA : ∀ q, s.heap.size ≤ q → A q) (hK : KZ D cy A s) (hret : ∀ (H : Heap) (locs : List Loc) (ls : Array Slot) (pc : Nat), decode cX5_skipBlanks pc = .ok (.return_, 1) → va_P D vwCl [(a_t, .inr (5, [.ref a_t_text, .int i_t_length, .int z_i_t_place, o_t_start, o_t_faultNumber, o_t_faultByte])), (a_t_text, .inl (cy 1, 500, .inl f_t_text))] H → va_S A s.heap H locs → W p l e rmX5_skipBlanks s m args below meth c H locs 0 0 Q (F0 m pc ls [])) : ∀ (n : Nat) (i_t_place : Int32), f_X5_skipBlanks_L0 i_t_length f_t_text n i_t_place = some z_i_t_place → ∀ (H : Heap) (locs : List Loc), va_P D vwCl [(a_t, .inr (5, [.ref a_t_text, .int i_t_length, .int i_t_place, o_t_start, o_t_faultNumber, o_t_faultByte])), (a_t_text, .inl (cy 1, 500, .inl f_t_text))] H → va_D A [(a_t, .inr (5, [.ref a_t_text, .int i_t_length, .int i_t_place, o_t_start, o_t_faultNumber, o_t_faultByte])), (a_t_text, .inl (cy 1, 500, .inl f_t_text))] → va_S A s.heap H locs → ∀ ls : Array Slot, lv_has ls 1 [(0, .ref a_t)] → W p l e rmX5_skipBlanks s m args below meth c H locs 0 0 Q (F0 m 0 ls []) := by
  obtain ⟨hx, hb, hr, hml, hown, hts, hlocks⟩ := id C0
  intro n
  induction n with
  | zero => intro _ hf; rw [f_X5_skipBlanks_L0.eq_1] at hf; cases hf
  | succ n ih =>
    intro i_t_place hf H locs hP hD hS ls hl
    rw [f_X5_skipBlanks_L0.eq_2] at hf
    refine lv_aload_n hx hb dX5_skipBlanks_0 rfl (lv_at hl 0 rfl) ?_
    refine va_get (D := D) (ci := 5) (v := .int i_t_place) (C := RX5) (T := TX5) (N := 6) hx hb hts uX5_skipBlanks_X5 hown hK.1.1 hP 0 rfl rfl 2 (by decide) (hts _ mX5_skipBlanks_23) (fun _ h9 => h9) rfl dX5_skipBlanks_1 ?_
    refine lv_aload_n hx hb dX5_skipBlanks_4 rfl (lv_at hl 0 rfl) ?_
    refine va_get (D := D) (ci := 5) (v := .int i_t_length) (C := RX5) (T := TX5) (N := 6) hx hb hts uX5_skipBlanks_X5 hown hK.1.1 hP 0 rfl rfl 1 (by decide) (hts _ mX5_skipBlanks_19) (fun _ h9 => h9) rfl dX5_skipBlanks_5 ?_
    refine lv_icmp_ge (tgt := 38) hx hb dX5_skipBlanks_8 (by decide) (fun c_1 => ?_) (fun c_1 => ?_)
    · have hf := hb_t hf c_1
      have hf := Option.some.inj hf
      subst hf
      exact hret _ _ _ _ dX5_skipBlanks_38 hP hS
    · have hf := hb_f hf c_1
      refine lv_aload_n hx hb dX5_skipBlanks_11 rfl (lv_at hl 0 rfl) ?_
      refine va_get (D := D) (ci := 5) (v := .ref a_t_text) (C := RX5) (T := TX5) (N := 6) hx hb hts uX5_skipBlanks_X5 hown hK.1.1 hP 0 rfl rfl 0 (by decide) (hts _ mX5_skipBlanks_9) (fun _ h9 => h9) rfl dX5_skipBlanks_12 ?_
      refine lv_aload_n hx hb dX5_skipBlanks_15 rfl (lv_at hl 0 rfl) ?_
      refine va_get (D := D) (ci := 5) (v := .int i_t_place) (C := RX5) (T := TX5) (N := 6) hx hb hts uX5_skipBlanks_X5 hown hK.1.1 hP 0 rfl rfl 2 (by decide) (hts _ mX5_skipBlanks_23) (fun _ h9 => h9) rfl dX5_skipBlanks_16 ?_
      obtain ⟨hg_2, hf⟩ := hb_g hf
      refine va_bald hx hb hK.1.1 hP 1 1 rfl rfl (ixb_in hg_2) dX5_skipBlanks_19 ?_
      refine lv_bipush (v := 32) hx hb dX5_skipBlanks_20 (by decide) ?_
      refine lv_icmp_ne (tgt := 38) hx hb dX5_skipBlanks_22 (by decide) (fun c_3 => ?_) (fun c_3 => ?_)
      · have hf := hb_f hf c_3
        have hf := Option.some.inj hf
        subst hf
        exact hret _ _ _ _ dX5_skipBlanks_38 hP hS
      · have hf := hb_t hf c_3
        refine lv_aload_n hx hb dX5_skipBlanks_25 rfl (lv_at hl 0 rfl) ?_
        refine lv_dup hx hb dX5_skipBlanks_26 rfl ?_
        refine va_get (D := D) (ci := 5) (v := .int i_t_place) (C := RX5) (T := TX5) (N := 6) hx hb hts uX5_skipBlanks_X5 hown hK.1.1 hP 0 rfl rfl 2 (by decide) (hts _ mX5_skipBlanks_23) (fun _ h9 => h9) rfl dX5_skipBlanks_27 ?_
        refine lv_iconst (v := 1) hx hb dX5_skipBlanks_30 (by decide) ?_
        refine lv_iadd hx hb dX5_skipBlanks_31 ?_
        refine va_put (D := D) (ci := 5) (v := .int (i_t_place + 1)) (ty := .int) (C := RX5) (T := TX5) (N := 6) hx hb hts uX5_skipBlanks_X5 tyX5 tyX5_ok nmX5 hown hK.1.1 hP hD hS 0 rfl rfl 2 (by decide) (hts _ mX5_skipBlanks_23) (fun _ h9 => h9) rfl (by decide +kernel) rfl rfl (Nat.le_of_ble_eq_true rfl) dX5_skipBlanks_32 (fun H locs hP hD hS => ?_)
        have hP : va_P D vwCl [(a_t, .inr (5, [.ref a_t_text, .int i_t_length, .int (i_t_place + 1), o_t_start, o_t_faultNumber, o_t_faultByte])), (a_t_text, .inl (cy 1, 500, .inl f_t_text))] H := hP
        have hD : va_D A [(a_t, .inr (5, [.ref a_t_text, .int i_t_length, .int (i_t_place + 1), o_t_start, o_t_faultNumber, o_t_faultByte])), (a_t_text, .inl (cy 1, 500, .inl f_t_text))] := hD
        refine lv_goto (tgt := 0) hx hb dX5_skipBlanks_35 (by decide) ?_
        exact ih (i_t_place + 1) hf _ _ hP hD hS _ (lv_sub hl [0] rfl)
set_option maxRecDepth 100000 in
set_option maxHeartbeats 4000000 in
theorem c_X5_skipBlanks (l : Launch) (D : va_G) (cy : Nat → ClassId) (a_t : Nat) (a_t_text : Nat) (o_t_start : Value) (o_t_faultNumber : Value) (o_t_faultByte : Value) (i_t_length : Int32) (f_t_text : Nat → Int32) (i_t_place : Int32) (z_i_t_place : Int32) (hf : f_X5_skipBlanks i_t_length f_t_text i_t_place = some z_i_t_place) : MV l D cy yX5_skipBlanks wsX5_skipBlanks rmX5_skipBlanks [.ref a_t] [(a_t, .inr (5, [.ref a_t_text, .int i_t_length, .int i_t_place, o_t_start, o_t_faultNumber, o_t_faultByte])), (a_t_text, .inl (cy 1, 500, .inl f_t_text))] [(a_t, .inr (5, [.ref a_t_text, .int i_t_length, .int z_i_t_place, o_t_start, o_t_faultNumber, o_t_faultByte])), (a_t_text, .inl (cy 1, 500, .inl f_t_text))] := by
  refine st_V (by decide) rfl (Nat.le_of_ble_eq_true rfl) (fun p e s m below meth c A Q ls C0 hA hK hP hD hS hl hret => ?_)
  obtain ⟨hx, hb, hr, hml, hown, hts, hlocks⟩ := id C0
  have hl : lv_has ls 1 [(0, .ref a_t)] := hl
  unfold f_X5_skipBlanks at hf
  refine L_X5_skipBlanks_0 l D cy a_t a_t_text o_t_start o_t_faultNumber o_t_faultByte i_t_length f_t_text z_i_t_place C0 hA hK hret  FU i_t_place hf _ _ hP hD hS _ (lv_sub hl [0] rfl)
theorem mX5_isMore_23 : Cond.fieldLink RX5 23 "OneWordLetters$Reader" "place" "I" ∈ wsX5_isMore := by decide +kernel
theorem uX5_isMore_X5 : ∀ w ∈ wsX50, w ∈ wsX5_isMore := fun _ h => List.mem_cons_of_mem _ (List.mem_append_right _ h)
theorem mX5_isMore_19 : Cond.fieldLink RX5 19 "OneWordLetters$Reader" "length" "I" ∈ wsX5_isMore := by decide +kernel
abbrev rmX5_isMore : Room := { frames := 1, cells := 0, slots := 0, locals := 20 }
set_option maxRecDepth 100000 in
set_option maxHeartbeats 4000000 in
theorem c_X5_isMore (l : Launch) (D : va_G) (cy : Nat → ClassId) (a_t : Nat) (a_t_text : Nat) (o_t_start : Value) (o_t_faultNumber : Value) (o_t_faultByte : Value) (i_t_length : Int32) (f_t_text : Nat → Int32) (i_t_place : Int32) (rv : Int32) (z_i_t_place : Int32) (hf : f_X5_isMore i_t_length f_t_text i_t_place = some (rv, z_i_t_place)) : MI l D cy yX5_isMore wsX5_isMore rmX5_isMore [.ref a_t] [(a_t, .inr (5, [.ref a_t_text, .int i_t_length, .int i_t_place, o_t_start, o_t_faultNumber, o_t_faultByte])), (a_t_text, .inl (cy 1, 500, .inl f_t_text))] [(a_t, .inr (5, [.ref a_t_text, .int i_t_length, .int z_i_t_place, o_t_start, o_t_faultNumber, o_t_faultByte])), (a_t_text, .inl (cy 1, 500, .inl f_t_text))] rv := by
  refine st_I (by decide) rfl (Nat.le_of_ble_eq_true rfl) (fun p e s m below meth c A Q ls C0 hA hK hP hD hS hl hret => ?_)
  obtain ⟨hx, hb, hr, hml, hown, hts, hlocks⟩ := id C0
  have hl : lv_has ls 1 [(0, .ref a_t)] := hl
  unfold f_X5_isMore at hf
  refine lv_aload_n hx hb dX5_isMore_0 rfl (lv_at hl 0 rfl) ?_
  obtain ⟨z_1, hc_2, hf⟩ := hb_b hf
  refine cl_Vv (rest := []) [0, 1] [some 0, some 1] 2 0 C0 hK hP hD hS hA (c_X5_skipBlanks l D cy a_t a_t_text o_t_start o_t_faultNumber o_t_faultByte i_t_length f_t_text i_t_place z_1 hc_2) (cwV 0 hts gX5_isMore_X5_skipBlanks rfl rfl rfl (by decide +kernel) ⟨Nat.le_of_ble_eq_true rfl, Nat.le_of_ble_eq_true rfl⟩) rfl (by decide) rfl rfl rfl rfl rfl rfl rfl hl.1 rfl (Nat.le_of_ble_eq_true rfl) dX5_isMore_1 ⟨Nat.zero_le _, Nat.zero_le _⟩ (fun H locs hP hD hS => ?_)
  have hP : va_P D vwCl [(a_t, .inr (5, [.ref a_t_text, .int i_t_length, .int z_1, o_t_start, o_t_faultNumber, o_t_faultByte])), (a_t_text, .inl (cy 1, 500, .inl f_t_text))] H := hP
  have hD : va_D A [(a_t, .inr (5, [.ref a_t_text, .int i_t_length, .int z_1, o_t_start, o_t_faultNumber, o_t_faultByte])), (a_t_text, .inl (cy 1, 500, .inl f_t_text))] := hD
  refine lv_aload_n hx hb dX5_isMore_4 rfl (lv_at hl 0 rfl) ?_
  refine va_get (D := D) (ci := 5) (v := .int z_1) (C := RX5) (T := TX5) (N := 6) hx hb hts uX5_isMore_X5 hown hK.1.1 hP 0 rfl rfl 2 (by decide) (hts _ mX5_isMore_23) (fun _ h9 => h9) rfl dX5_isMore_5 ?_
  refine lv_aload_n hx hb dX5_isMore_8 rfl (lv_at hl 0 rfl) ?_
  refine va_get (D := D) (ci := 5) (v := .int i_t_length) (C := RX5) (T := TX5) (N := 6) hx hb hts uX5_isMore_X5 hown hK.1.1 hP 0 rfl rfl 1 (by decide) (hts _ mX5_isMore_19) (fun _ h9 => h9) rfl dX5_isMore_9 ?_
  refine lv_icmp_ge (tgt := 19) hx hb dX5_isMore_12 (by decide) (fun c_3 => ?_) (fun c_3 => ?_)
  · have hf := hb_t hf c_3
    refine lv_iconst (v := 0) hx hb dX5_isMore_19 (by decide) ?_
    obtain ⟨e_0, e_1⟩ := tu2 hf
    subst e_0; subst e_1
    exact hret _ _ _ _ dX5_isMore_20 rfl hP hS
  · have hf := hb_f hf c_3
    refine lv_iconst (v := 1) hx hb dX5_isMore_15 (by decide) ?_
    refine lv_goto (tgt := 20) hx hb dX5_isMore_16 (by decide) ?_
    obtain ⟨e_0, e_1⟩ := tu2 hf
    subst e_0; subst e_1
    exact hret _ _ _ _ dX5_isMore_20 rfl hP hS
theorem mX5_nextWord_23 : Cond.fieldLink RX5 23 "OneWordLetters$Reader" "place" "I" ∈ wsX5_nextWord := by decide +kernel
theorem uX5_nextWord_X5 : ∀ w ∈ wsX50, w ∈ wsX5_nextWord := fun _ h => List.mem_cons_of_mem _ (List.mem_append_right _ h)
theorem mX5_nextWord_121 : Cond.fieldLink RX5 121 "OneWordLetters$Reader" "start" "I" ∈ wsX5_nextWord := by decide +kernel
theorem mX5_nextWord_19 : Cond.fieldLink RX5 19 "OneWordLetters$Reader" "length" "I" ∈ wsX5_nextWord := by decide +kernel
theorem mX5_nextWord_9 : Cond.fieldLink RX5 9 "OneWordLetters$Reader" "text" "[B" ∈ wsX5_nextWord := by decide +kernel
abbrev rmX5_nextWord : Room := { frames := 1, cells := 0, slots := 0, locals := 20 }
set_option maxRecDepth 100000 in
set_option maxHeartbeats 4000000 in
theorem L_X5_nextWord_12 {p : Program} {e : Env} {s : State} {m : MethodId} {args : Array Value} {below : List Frame} {meth : Method} {c : Code} {Q : State → Prop} {A : Nat → Prop} (l : Launch) (D : va_G) (cy : Nat → ClassId) (a_t : Nat) (a_t_text : Nat) (o_t_faultNumber : Value) (o_t_faultByte : Value) (i_t_length : Int32) (f_t_text : Nat → Int32) (z_i_t_place : Int32) (z_i_t_start : Int32) (C0 : CX p s m args meth c cX5_nextWord 1 none wsX5_nextWord RX5) (hA : ∀ q, s.heap.size ≤ q → A q) (hK : KZ D cy A s) (hret : ∀ (H : Heap) (locs : List Loc) (ls : Array Slot) (pc : Nat), decode cX5_nextWord pc = .ok (.return_, 1) → va_P D vwCl [(a_t, .inr (5, [.ref a_t_text, .int i_t_length, .int z_i_t_place, .int z_i_t_start, o_t_faultNumber, o_t_faultByte])), (a_t_text, .inl (cy 1, 500, .inl f_t_text))] H → va_S A s.heap H locs → W p l e rmX5_nextWord s m args below meth c H locs 0 0 Q (F0 m pc ls [])) : ∀ (n : Nat) (i_t_place : Int32) (i_t_start : Int32), f_X5_nextWord_L12 i_t_length f_t_text n i_t_place i_t_start = some (z_i_t_place, z_i_t_start) → ∀ (H : Heap) (locs : List Loc), va_P D vwCl [(a_t, .inr (5, [.ref a_t_text, .int i_t_length, .int i_t_place, .int i_t_start, o_t_faultNumber, o_t_faultByte])), (a_t_text, .inl (cy 1, 500, .inl f_t_text))] H → va_D A [(a_t, .inr (5, [.ref a_t_text, .int i_t_length, .int i_t_place, .int i_t_start, o_t_faultNumber, o_t_faultByte])), (a_t_text, .inl (cy 1, 500, .inl f_t_text))] → va_S A s.heap H locs → ∀ ls : Array Slot, lv_has ls 1 [(0, .ref a_t)] → W p l e rmX5_nextWord s m args below meth c H locs 0 0 Q (F0 m 12 ls []) := by
  obtain ⟨hx, hb, hr, hml, hown, hts, hlocks⟩ := id C0
  intro n
  induction n with
  | zero => intro _ _ hf; rw [f_X5_nextWord_L12.eq_1] at hf; cases hf
  | succ n ih =>
    intro i_t_place i_t_start hf H locs hP hD hS ls hl
    rw [f_X5_nextWord_L12.eq_2] at hf
    refine lv_aload_n hx hb dX5_nextWord_12 rfl (lv_at hl 0 rfl) ?_
    refine va_get (D := D) (ci := 5) (v := .int i_t_place) (C := RX5) (T := TX5) (N := 6) hx hb hts uX5_nextWord_X5 hown hK.1.1 hP 0 rfl rfl 2 (by decide) (hts _ mX5_nextWord_23) (fun _ h9 => h9) rfl dX5_nextWord_13 ?_
    refine lv_aload_n hx hb dX5_nextWord_16 rfl (lv_at hl 0 rfl) ?_
    refine va_get (D := D) (ci := 5) (v := .int i_t_length) (C := RX5) (T := TX5) (N := 6) hx hb hts uX5_nextWord_X5 hown hK.1.1 hP 0 rfl rfl 1 (by decide) (hts _ mX5_nextWord_19) (fun _ h9 => h9) rfl dX5_nextWord_17 ?_
    refine lv_icmp_ge (tgt := 64) hx hb dX5_nextWord_20 (by decide) (fun c_3 => ?_) (fun c_3 => ?_)
    · have hf := hb_t hf c_3
      obtain ⟨e_0, e_1⟩ := tu2 hf
      subst e_0; subst e_1
      exact hret _ _ _ _ dX5_nextWord_64 hP hS
    · have hf := hb_f hf c_3
      refine lv_aload_n hx hb dX5_nextWord_23 rfl (lv_at hl 0 rfl) ?_
      refine va_get (D := D) (ci := 5) (v := .ref a_t_text) (C := RX5) (T := TX5) (N := 6) hx hb hts uX5_nextWord_X5 hown hK.1.1 hP 0 rfl rfl 0 (by decide) (hts _ mX5_nextWord_9) (fun _ h9 => h9) rfl dX5_nextWord_24 ?_
      refine lv_aload_n hx hb dX5_nextWord_27 rfl (lv_at hl 0 rfl) ?_
      refine va_get (D := D) (ci := 5) (v := .int i_t_place) (C := RX5) (T := TX5) (N := 6) hx hb hts uX5_nextWord_X5 hown hK.1.1 hP 0 rfl rfl 2 (by decide) (hts _ mX5_nextWord_23) (fun _ h9 => h9) rfl dX5_nextWord_28 ?_
      obtain ⟨hg_4, hf⟩ := hb_g hf
      refine va_bald hx hb hK.1.1 hP 1 1 rfl rfl (ixb_in hg_4) dX5_nextWord_31 ?_
      refine lv_bipush (v := 97) hx hb dX5_nextWord_32 (by decide) ?_
      refine lv_icmp_lt (tgt := 64) hx hb dX5_nextWord_34 (by decide) (fun c_5 => ?_) (fun c_5 => ?_)
      · have hf := hb_t hf c_5
        obtain ⟨e_0, e_1⟩ := tu2 hf
        subst e_0; subst e_1
        exact hret _ _ _ _ dX5_nextWord_64 hP hS
      · have hf := hb_f hf c_5
        refine lv_aload_n hx hb dX5_nextWord_37 rfl (lv_at hl 0 rfl) ?_
        refine va_get (D := D) (ci := 5) (v := .ref a_t_text) (C := RX5) (T := TX5) (N := 6) hx hb hts uX5_nextWord_X5 hown hK.1.1 hP 0 rfl rfl 0 (by decide) (hts _ mX5_nextWord_9) (fun _ h9 => h9) rfl dX5_nextWord_38 ?_
        refine lv_aload_n hx hb dX5_nextWord_41 rfl (lv_at hl 0 rfl) ?_
        refine va_get (D := D) (ci := 5) (v := .int i_t_place) (C := RX5) (T := TX5) (N := 6) hx hb hts uX5_nextWord_X5 hown hK.1.1 hP 0 rfl rfl 2 (by decide) (hts _ mX5_nextWord_23) (fun _ h9 => h9) rfl dX5_nextWord_42 ?_
        obtain ⟨hg_6, hf⟩ := hb_g hf
        refine va_bald hx hb hK.1.1 hP 1 1 rfl rfl (ixb_in hg_6) dX5_nextWord_45 ?_
        refine lv_bipush (v := 122) hx hb dX5_nextWord_46 (by decide) ?_
        refine lv_icmp_gt (tgt := 64) hx hb dX5_nextWord_48 (by decide) (fun c_7 => ?_) (fun c_7 => ?_)
        · have hf := hb_t hf c_7
          obtain ⟨e_0, e_1⟩ := tu2 hf
          subst e_0; subst e_1
          exact hret _ _ _ _ dX5_nextWord_64 hP hS
        · have hf := hb_f hf c_7
          refine lv_aload_n hx hb dX5_nextWord_51 rfl (lv_at hl 0 rfl) ?_
          refine lv_dup hx hb dX5_nextWord_52 rfl ?_
          refine va_get (D := D) (ci := 5) (v := .int i_t_place) (C := RX5) (T := TX5) (N := 6) hx hb hts uX5_nextWord_X5 hown hK.1.1 hP 0 rfl rfl 2 (by decide) (hts _ mX5_nextWord_23) (fun _ h9 => h9) rfl dX5_nextWord_53 ?_
          refine lv_iconst (v := 1) hx hb dX5_nextWord_56 (by decide) ?_
          refine lv_iadd hx hb dX5_nextWord_57 ?_
          refine va_put (D := D) (ci := 5) (v := .int (i_t_place + 1)) (ty := .int) (C := RX5) (T := TX5) (N := 6) hx hb hts uX5_nextWord_X5 tyX5 tyX5_ok nmX5 hown hK.1.1 hP hD hS 0 rfl rfl 2 (by decide) (hts _ mX5_nextWord_23) (fun _ h9 => h9) rfl (by decide +kernel) rfl rfl (Nat.le_of_ble_eq_true rfl) dX5_nextWord_58 (fun H locs hP hD hS => ?_)
          have hP : va_P D vwCl [(a_t, .inr (5, [.ref a_t_text, .int i_t_length, .int (i_t_place + 1), .int i_t_start, o_t_faultNumber, o_t_faultByte])), (a_t_text, .inl (cy 1, 500, .inl f_t_text))] H := hP
          have hD : va_D A [(a_t, .inr (5, [.ref a_t_text, .int i_t_length, .int (i_t_place + 1), .int i_t_start, o_t_faultNumber, o_t_faultByte])), (a_t_text, .inl (cy 1, 500, .inl f_t_text))] := hD
          refine lv_goto (tgt := 12) hx hb dX5_nextWord_61 (by decide) ?_
          exact ih (i_t_place + 1) i_t_start hf _ _ hP hD hS _ (lv_sub hl [0] rfl)
set_option maxRecDepth 100000 in
set_option maxHeartbeats 4000000 in
theorem c_X5_nextWord (l : Launch) (D : va_G) (cy : Nat → ClassId) (a_t : Nat) (a_t_text : Nat) (o_t_faultNumber : Value) (o_t_faultByte : Value) (i_t_length : Int32) (f_t_text : Nat → Int32) (i_t_place : Int32) (i_t_start : Int32) (z_i_t_place : Int32) (z_i_t_start : Int32) (hf : f_X5_nextWord i_t_length f_t_text i_t_place i_t_start = some (z_i_t_place, z_i_t_start)) : MV l D cy yX5_nextWord wsX5_nextWord rmX5_nextWord [.ref a_t] [(a_t, .inr (5, [.ref a_t_text, .int i_t_length, .int i_t_place, .int i_t_start, o_t_faultNumber, o_t_faultByte])), (a_t_text, .inl (cy 1, 500, .inl f_t_text))] [(a_t, .inr (5, [.ref a_t_text, .int i_t_length, .int z_i_t_place, .int z_i_t_start, o_t_faultNumber, o_t_faultByte])), (a_t_text, .inl (cy 1, 500, .inl f_t_text))] := by
  refine st_V (by decide) rfl (Nat.le_of_ble_eq_true rfl) (fun p e s m below meth c A Q ls C0 hA hK hP hD hS hl hret => ?_)
  obtain ⟨hx, hb, hr, hml, hown, hts, hlocks⟩ := id C0
  have hl : lv_has ls 1 [(0, .ref a_t)] := hl
  unfold f_X5_nextWord at hf
  refine lv_aload_n hx hb dX5_nextWord_0 rfl (lv_at hl 0 rfl) ?_
  obtain ⟨z_1, hc_2, hf⟩ := hb_b hf
  refine cl_Vv (rest := []) [0, 1] [some 0, some 1] 2 0 C0 hK hP hD hS hA (c_X5_skipBlanks l D cy a_t a_t_text (.int i_t_start) o_t_faultNumber o_t_faultByte i_t_length f_t_text i_t_place z_1 hc_2) (cwV 0 hts gX5_nextWord_X5_skipBlanks rfl rfl rfl (by decide +kernel) ⟨Nat.le_of_ble_eq_true rfl, Nat.le_of_ble_eq_true rfl⟩) rfl (by decide) rfl rfl rfl rfl rfl rfl rfl hl.1 rfl (Nat.le_of_ble_eq_true rfl) dX5_nextWord_1 ⟨Nat.zero_le _, Nat.zero_le _⟩ (fun H locs hP hD hS => ?_)
  have hP : va_P D vwCl [(a_t, .inr (5, [.ref a_t_text, .int i_t_length, .int z_1, .int i_t_start, o_t_faultNumber, o_t_faultByte])), (a_t_text, .inl (cy 1, 500, .inl f_t_text))] H := hP
  have hD : va_D A [(a_t, .inr (5, [.ref a_t_text, .int i_t_length, .int z_1, .int i_t_start, o_t_faultNumber, o_t_faultByte])), (a_t_text, .inl (cy 1, 500, .inl f_t_text))] := hD
  refine lv_aload_n hx hb dX5_nextWord_4 rfl (lv_at hl 0 rfl) ?_
  refine lv_aload_n hx hb dX5_nextWord_5 rfl (lv_at hl 0 rfl) ?_
  refine va_get (D := D) (ci := 5) (v := .int z_1) (C := RX5) (T := TX5) (N := 6) hx hb hts uX5_nextWord_X5 hown hK.1.1 hP 0 rfl rfl 2 (by decide) (hts _ mX5_nextWord_23) (fun _ h9 => h9) rfl dX5_nextWord_6 ?_
  refine va_put (D := D) (ci := 5) (v := .int z_1) (ty := .int) (C := RX5) (T := TX5) (N := 6) hx hb hts uX5_nextWord_X5 tyX5 tyX5_ok nmX5 hown hK.1.1 hP hD hS 0 rfl rfl 3 (by decide) (hts _ mX5_nextWord_121) (fun _ h9 => h9) rfl (by decide +kernel) rfl rfl (Nat.le_of_ble_eq_true rfl) dX5_nextWord_9 (fun H locs hP hD hS => ?_)
  have hP : va_P D vwCl [(a_t, .inr (5, [.ref a_t_text, .int i_t_length, .int z_1, .int z_1, o_t_faultNumber, o_t_faultByte])), (a_t_text, .inl (cy 1, 500, .inl f_t_text))] H := hP
  have hD : va_D A [(a_t, .inr (5, [.ref a_t_text, .int i_t_length, .int z_1, .int z_1, o_t_faultNumber, o_t_faultByte])), (a_t_text, .inl (cy 1, 500, .inl f_t_text))] := hD
  refine L_X5_nextWord_12 l D cy a_t a_t_text o_t_faultNumber o_t_faultByte i_t_length f_t_text z_i_t_place z_i_t_start C0 hA hK hret  FU z_1 z_1 hf _ _ hP hD hS _ (lv_sub hl [0] rfl)
theorem mX5_spells_23 : Cond.fieldLink RX5 23 "OneWordLetters$Reader" "place" "I" ∈ wsX5_spells := by decide +kernel
theorem uX5_spells_X5 : ∀ w ∈ wsX50, w ∈ wsX5_spells := fun _ h => List.mem_cons_of_mem _ (List.mem_append_right _ h)
theorem mX5_spells_121 : Cond.fieldLink RX5 121 "OneWordLetters$Reader" "start" "I" ∈ wsX5_spells := by decide +kernel
theorem mX5_spells_9 : Cond.fieldLink RX5 9 "OneWordLetters$Reader" "text" "[B" ∈ wsX5_spells := by decide +kernel
abbrev rmX5_spells_word : Room := { frames := 4, cells := 0, slots := 0, locals := 85 }
set_option maxRecDepth 100000 in
set_option maxHeartbeats 4000000 in
theorem c_X5_spells_word (l : Launch) (D : va_G) (cy : Nat → ClassId) (a_t : Nat) (a_t_text : Nat) (o_t_length : Value) (o_t_faultNumber : Value) (o_t_faultByte : Value) (i_t_place : Int32) (i_t_start : Int32) (f_t_text : Nat → Int32) (rv : Int32) (hf : f_X5_spells_word i_t_place i_t_start f_t_text = some rv) : MI l D cy yX5_spells wsX5_spells rmX5_spells_word [.ref a_t, .ref (cy 101)] [(a_t, .inr (5, [.ref a_t_text, o_t_length, .int i_t_place, .int i_t_start, o_t_faultNumber, o_t_faultByte])), (a_t_text, .inl (cy 1, 500, .inl f_t_text))] [(a_t, .inr (5, [.ref a_t_text, o_t_length, .int i_t_place, .int i_t_start, o_t_faultNumber, o_t_faultByte])), (a_t_text, .inl (cy 1, 500, .inl f_t_text))] rv := by
  refine st_I (by decide) rfl (Nat.le_of_ble_eq_true rfl) (fun p e s m below meth c A Q ls C0 hA hK hP hD hS hl hret => ?_)
  obtain ⟨hx, hb, hr, hml, hown, hts, hlocks⟩ := id C0
  have hl : lv_has ls 3 [(0, .ref a_t), (1, .ref (cy 101))] := hl
  unfold f_X5_spells_word at hf
  refine lv_aload_n hx hb dX5_spells_0 rfl (lv_at hl 0 rfl) ?_
  refine va_get (D := D) (ci := 5) (v := .int i_t_place) (C := RX5) (T := TX5) (N := 6) hx hb hts uX5_spells_X5 hown hK.1.1 hP 0 rfl rfl 2 (by decide) (hts _ mX5_spells_23) (fun _ h9 => h9) rfl dX5_spells_1 ?_
  refine lv_aload_n hx hb dX5_spells_4 rfl (lv_at hl 0 rfl) ?_
  refine va_get (D := D) (ci := 5) (v := .int i_t_start) (C := RX5) (T := TX5) (N := 6) hx hb hts uX5_spells_X5 hown hK.1.1 hP 0 rfl rfl 3 (by decide) (hts _ mX5_spells_121) (fun _ h9 => h9) rfl dX5_spells_5 ?_
  refine lv_isub hx hb dX5_spells_8 ?_
  refine lv_aload_n hx hb dX5_spells_9 rfl (lv_at hl 1 rfl) ?_
  refine cl_Ti (rest := [.int (i_t_place - i_t_start)]) [] [none, none] 2 C0 hK hP hD hS hA (c_J0_length l D cy 1 (by decide)) (cwV 0 hts gX5_spells_J0_length_8abf5 rfl rfl rfl (by decide +kernel) ⟨Nat.le_of_ble_eq_true rfl, Nat.le_of_ble_eq_true rfl⟩) rfl (by decide) rfl rfl rfl (vk_recv (adK := fun i => cy (100 + i)) (i := 1) hK.2.1 (by decide) hS) rfl hl.1 rfl (Nat.le_of_ble_eq_true rfl) dX5_spells_10 ⟨Nat.zero_le _, Nat.zero_le _⟩ (fun H locs hP hD hS => ?_)
  have hP : va_P D vwCl [(a_t, .inr (5, [.ref a_t_text, o_t_length, .int i_t_place, .int i_t_start, o_t_faultNumber, o_t_faultByte])), (a_t_text, .inl (cy 1, 500, .inl f_t_text))] H := hP
  have hD : va_D A [(a_t, .inr (5, [.ref a_t_text, o_t_length, .int i_t_place, .int i_t_start, o_t_faultNumber, o_t_faultByte])), (a_t_text, .inl (cy 1, 500, .inl f_t_text))] := hD
  refine lv_icmp_eq (tgt := 18) hx hb dX5_spells_13 (by decide) (fun c_1 => ?_) (fun c_1 => ?_)
  · have hf := hb_t hf c_1
    refine lv_iconst (v := 0) hx hb dX5_spells_18 (by decide) ?_
    refine lv_istore_n (lv' := [(2, .int 0), (0, .ref a_t), (1, .ref (cy 101))]) hx hb dX5_spells_19 rfl hl (by decide) rfl (fun ls hl => ?_)
    refine lv_iload_n hx hb dX5_spells_20 rfl (lv_at hl 0 rfl) ?_
    refine lv_aload_n hx hb dX5_spells_21 rfl (lv_at hl 2 rfl) ?_
    refine cl_Ti (rest := [.int 0]) [] [none, none] 2 C0 hK hP hD hS hA (c_J0_length l D cy 1 (by decide)) (cwV 0 hts gX5_spells_J0_length_8abf5 rfl rfl rfl (by decide +kernel) ⟨Nat.le_of_ble_eq_true rfl, Nat.le_of_ble_eq_true rfl⟩) rfl (by decide) rfl rfl rfl (vk_recv (adK := fun i => cy (100 + i)) (i := 1) hK.2.1 (by decide) hS) rfl hl.1 rfl (Nat.le_of_ble_eq_true rfl) dX5_spells_22 ⟨Nat.zero_le _, Nat.zero_le _⟩ (fun H locs hP hD hS => ?_)
    have hP : va_P D vwCl [(a_t, .inr (5, [.ref a_t_text, o_t_length, .int i_t_place, .int i_t_start, o_t_faultNumber, o_t_faultByte])), (a_t_text, .inl (cy 1, 500, .inl f_t_text))] H := hP
    have hD : va_D A [(a_t, .inr (5, [.ref a_t_text, o_t_length, .int i_t_place, .int i_t_start, o_t_faultNumber, o_t_faultByte])), (a_t_text, .inl (cy 1, 500, .inl f_t_text))] := hD
    refine lv_icmp_ge (tgt := 55) hx hb dX5_spells_25 (by decide) (fun c_2 => absurd c_2 (by decide)) (fun c_2 => ?_)
    refine lv_aload_n hx hb dX5_spells_28 rfl (lv_at hl 1 rfl) ?_
    refine va_get (D := D) (ci := 5) (v := .ref a_t_text) (C := RX5) (T := TX5) (N := 6) hx hb hts uX5_spells_X5 hown hK.1.1 hP 0 rfl rfl 0 (by decide) (hts _ mX5_spells_9) (fun _ h9 => h9) rfl dX5_spells_29 ?_
    refine lv_aload_n hx hb dX5_spells_32 rfl (lv_at hl 1 rfl) ?_
    refine va_get (D := D) (ci := 5) (v := .int i_t_start) (C := RX5) (T := TX5) (N := 6) hx hb hts uX5_spells_X5 hown hK.1.1 hP 0 rfl rfl 3 (by decide) (hts _ mX5_spells_121) (fun _ h9 => h9) rfl dX5_spells_33 ?_
    refine lv_iload_n hx hb dX5_spells_36 rfl (lv_at hl 0 rfl) ?_
    refine lv_iadd hx hb dX5_spells_37 ?_
    obtain ⟨hg_3, hf⟩ := hb_g hf
    refine va_bald hx hb hK.1.1 hP 1 1 rfl rfl (ixb_in hg_3) dX5_spells_38 ?_
    refine lv_aload_n hx hb dX5_spells_39 rfl (lv_at hl 2 rfl) ?_
    refine lv_iload_n hx hb dX5_spells_40 rfl (lv_at hl 0 rfl) ?_
    refine cl_Ti (As := [.int 0]) (rest := [.int (f_t_text ((i_t_start + 0) : Int32).toNatClampNeg)]) [] [none, none] 2 C0 hK hP hD hS hA (c_J0_charAt l D cy 1 (by decide) 0 (by decide)) (cwV 1 hts gX5_spells_J0_charAt_5068e rfl rfl rfl (by decide +kernel) ⟨Nat.le_of_ble_eq_true rfl, Nat.le_of_ble_eq_true rfl⟩) rfl (by decide) rfl rfl rfl (vk_recv (adK := fun i => cy (100 + i)) (i := 1) hK.2.1 (by decide) hS) rfl hl.1 rfl (Nat.le_of_ble_eq_true rfl) dX5_spells_41 ⟨Nat.zero_le _, Nat.zero_le _⟩ (fun H locs hP hD hS => ?_)
    have hP : va_P D vwCl [(a_t, .inr (5, [.ref a_t_text, o_t_length, .int i_t_place, .int i_t_start, o_t_faultNumber, o_t_faultByte])), (a_t_text, .inl (cy 1, 500, .inl f_t_text))] H := hP
    have hD : va_D A [(a_t, .inr (5, [.ref a_t_text, o_t_length, .int i_t_place, .int i_t_start, o_t_faultNumber, o_t_faultByte])), (a_t_text, .inl (cy 1, 500, .inl f_t_text))] := hD
    refine lv_icmp_eq (tgt := 49) hx hb dX5_spells_44 (by decide) (fun c_4 => ?_) (fun c_4 => ?_)
    · have hf := hb_t hf c_4
      refine lv_iinc (v := (0 + 1)) (lv' := [(2, .int (0 + 1)), (0, .ref a_t), (1, .ref (cy 101))]) hx hb dX5_spells_49 hl (k := 0) rfl rfl (by decide) rfl (fun ls hl => ?_)
      refine lv_goto (tgt := 20) hx hb dX5_spells_52 (by decide) ?_
      refine lv_iload_n hx hb dX5_spells_20 rfl (lv_at hl 0 rfl) ?_
      refine lv_aload_n hx hb dX5_spells_21 rfl (lv_at hl 2 rfl) ?_
      refine cl_Ti (rest := [.int (0 + 1)]) [] [none, none] 2 C0 hK hP hD hS hA (c_J0_length l D cy 1 (by decide)) (cwV 0 hts gX5_spells_J0_length_8abf5 rfl rfl rfl (by decide +kernel) ⟨Nat.le_of_ble_eq_true rfl, Nat.le_of_ble_eq_true rfl⟩) rfl (by decide) rfl rfl rfl (vk_recv (adK := fun i => cy (100 + i)) (i := 1) hK.2.1 (by decide) hS) rfl hl.1 rfl (Nat.le_of_ble_eq_true rfl) dX5_spells_22 ⟨Nat.zero_le _, Nat.zero_le _⟩ (fun H locs hP hD hS => ?_)
      have hP : va_P D vwCl [(a_t, .inr (5, [.ref a_t_text, o_t_length, .int i_t_place, .int i_t_start, o_t_faultNumber, o_t_faultByte])), (a_t_text, .inl (cy 1, 500, .inl f_t_text))] H := hP
      have hD : va_D A [(a_t, .inr (5, [.ref a_t_text, o_t_length, .int i_t_place, .int i_t_start, o_t_faultNumber, o_t_faultByte])), (a_t_text, .inl (cy 1, 500, .inl f_t_text))] := hD
      refine lv_icmp_ge (tgt := 55) hx hb dX5_spells_25 (by decide) (fun c_5 => absurd c_5 (by decide)) (fun c_5 => ?_)
      refine lv_aload_n hx hb dX5_spells_28 rfl (lv_at hl 1 rfl) ?_
      refine va_get (D := D) (ci := 5) (v := .ref a_t_text) (C := RX5) (T := TX5) (N := 6) hx hb hts uX5_spells_X5 hown hK.1.1 hP 0 rfl rfl 0 (by decide) (hts _ mX5_spells_9) (fun _ h9 => h9) rfl dX5_spells_29 ?_
      refine lv_aload_n hx hb dX5_spells_32 rfl (lv_at hl 1 rfl) ?_
      refine va_get (D := D) (ci := 5) (v := .int i_t_start) (C := RX5) (T := TX5) (N := 6) hx hb hts uX5_spells_X5 hown hK.1.1 hP 0 rfl rfl 3 (by decide) (hts _ mX5_spells_121) (fun _ h9 => h9) rfl dX5_spells_33 ?_
      refine lv_iload_n hx hb dX5_spells_36 rfl (lv_at hl 0 rfl) ?_
      refine lv_iadd hx hb dX5_spells_37 ?_
      obtain ⟨hg_6, hf⟩ := hb_g hf
      refine va_bald hx hb hK.1.1 hP 1 1 rfl rfl (ixb_in hg_6) dX5_spells_38 ?_
      refine lv_aload_n hx hb dX5_spells_39 rfl (lv_at hl 2 rfl) ?_
      refine lv_iload_n hx hb dX5_spells_40 rfl (lv_at hl 0 rfl) ?_
      refine cl_Ti (As := [.int (0 + 1)]) (rest := [.int (f_t_text ((i_t_start + (0 + 1)) : Int32).toNatClampNeg)]) [] [none, none] 2 C0 hK hP hD hS hA (c_J0_charAt l D cy 1 (by decide) 1 (by decide)) (cwV 1 hts gX5_spells_J0_charAt_5068e rfl rfl rfl (by decide +kernel) ⟨Nat.le_of_ble_eq_true rfl, Nat.le_of_ble_eq_true rfl⟩) rfl (by decide) rfl rfl rfl (vk_recv (adK := fun i => cy (100 + i)) (i := 1) hK.2.1 (by decide) hS) rfl hl.1 rfl (Nat.le_of_ble_eq_true rfl) dX5_spells_41 ⟨Nat.zero_le _, Nat.zero_le _⟩ (fun H locs hP hD hS => ?_)
      have hP : va_P D vwCl [(a_t, .inr (5, [.ref a_t_text, o_t_length, .int i_t_place, .int i_t_start, o_t_faultNumber, o_t_faultByte])), (a_t_text, .inl (cy 1, 500, .inl f_t_text))] H := hP
      have hD : va_D A [(a_t, .inr (5, [.ref a_t_text, o_t_length, .int i_t_place, .int i_t_start, o_t_faultNumber, o_t_faultByte])), (a_t_text, .inl (cy 1, 500, .inl f_t_text))] := hD
      refine lv_icmp_eq (tgt := 49) hx hb dX5_spells_44 (by decide) (fun c_7 => ?_) (fun c_7 => ?_)
      · have hf := hb_t hf c_7
        refine lv_iinc (v := ((0 + 1) + 1)) (lv' := [(2, .int ((0 + 1) + 1)), (0, .ref a_t), (1, .ref (cy 101))]) hx hb dX5_spells_49 hl (k := 0) rfl rfl (by decide) rfl (fun ls hl => ?_)
        refine lv_goto (tgt := 20) hx hb dX5_spells_52 (by decide) ?_
        refine lv_iload_n hx hb dX5_spells_20 rfl (lv_at hl 0 rfl) ?_
        refine lv_aload_n hx hb dX5_spells_21 rfl (lv_at hl 2 rfl) ?_
        refine cl_Ti (rest := [.int ((0 + 1) + 1)]) [] [none, none] 2 C0 hK hP hD hS hA (c_J0_length l D cy 1 (by decide)) (cwV 0 hts gX5_spells_J0_length_8abf5 rfl rfl rfl (by decide +kernel) ⟨Nat.le_of_ble_eq_true rfl, Nat.le_of_ble_eq_true rfl⟩) rfl (by decide) rfl rfl rfl (vk_recv (adK := fun i => cy (100 + i)) (i := 1) hK.2.1 (by decide) hS) rfl hl.1 rfl (Nat.le_of_ble_eq_true rfl) dX5_spells_22 ⟨Nat.zero_le _, Nat.zero_le _⟩ (fun H locs hP hD hS => ?_)
        have hP : va_P D vwCl [(a_t, .inr (5, [.ref a_t_text, o_t_length, .int i_t_place, .int i_t_start, o_t_faultNumber, o_t_faultByte])), (a_t_text, .inl (cy 1, 500, .inl f_t_text))] H := hP
        have hD : va_D A [(a_t, .inr (5, [.ref a_t_text, o_t_length, .int i_t_place, .int i_t_start, o_t_faultNumber, o_t_faultByte])), (a_t_text, .inl (cy 1, 500, .inl f_t_text))] := hD
        refine lv_icmp_ge (tgt := 55) hx hb dX5_spells_25 (by decide) (fun c_8 => absurd c_8 (by decide)) (fun c_8 => ?_)
        refine lv_aload_n hx hb dX5_spells_28 rfl (lv_at hl 1 rfl) ?_
        refine va_get (D := D) (ci := 5) (v := .ref a_t_text) (C := RX5) (T := TX5) (N := 6) hx hb hts uX5_spells_X5 hown hK.1.1 hP 0 rfl rfl 0 (by decide) (hts _ mX5_spells_9) (fun _ h9 => h9) rfl dX5_spells_29 ?_
        refine lv_aload_n hx hb dX5_spells_32 rfl (lv_at hl 1 rfl) ?_
        refine va_get (D := D) (ci := 5) (v := .int i_t_start) (C := RX5) (T := TX5) (N := 6) hx hb hts uX5_spells_X5 hown hK.1.1 hP 0 rfl rfl 3 (by decide) (hts _ mX5_spells_121) (fun _ h9 => h9) rfl dX5_spells_33 ?_
        refine lv_iload_n hx hb dX5_spells_36 rfl (lv_at hl 0 rfl) ?_
        refine lv_iadd hx hb dX5_spells_37 ?_
        obtain ⟨hg_9, hf⟩ := hb_g hf
        refine va_bald hx hb hK.1.1 hP 1 1 rfl rfl (ixb_in hg_9) dX5_spells_38 ?_
        refine lv_aload_n hx hb dX5_spells_39 rfl (lv_at hl 2 rfl) ?_
        refine lv_iload_n hx hb dX5_spells_40 rfl (lv_at hl 0 rfl) ?_
        refine cl_Ti (As := [.int ((0 + 1) + 1)]) (rest := [.int (f_t_text ((i_t_start + ((0 + 1) + 1)) : Int32).toNatClampNeg)]) [] [none, none] 2 C0 hK hP hD hS hA (c_J0_charAt l D cy 1 (by decide) 2 (by decide)) (cwV 1 hts gX5_spells_J0_charAt_5068e rfl rfl rfl (by decide +kernel) ⟨Nat.le_of_ble_eq_true rfl, Nat.le_of_ble_eq_true rfl⟩) rfl (by decide) rfl rfl rfl (vk_recv (adK := fun i => cy (100 + i)) (i := 1) hK.2.1 (by decide) hS) rfl hl.1 rfl (Nat.le_of_ble_eq_true rfl) dX5_spells_41 ⟨Nat.zero_le _, Nat.zero_le _⟩ (fun H locs hP hD hS => ?_)
        have hP : va_P D vwCl [(a_t, .inr (5, [.ref a_t_text, o_t_length, .int i_t_place, .int i_t_start, o_t_faultNumber, o_t_faultByte])), (a_t_text, .inl (cy 1, 500, .inl f_t_text))] H := hP
        have hD : va_D A [(a_t, .inr (5, [.ref a_t_text, o_t_length, .int i_t_place, .int i_t_start, o_t_faultNumber, o_t_faultByte])), (a_t_text, .inl (cy 1, 500, .inl f_t_text))] := hD
        refine lv_icmp_eq (tgt := 49) hx hb dX5_spells_44 (by decide) (fun c_10 => ?_) (fun c_10 => ?_)
        · have hf := hb_t hf c_10
          refine lv_iinc (v := (((0 + 1) + 1) + 1)) (lv' := [(2, .int (((0 + 1) + 1) + 1)), (0, .ref a_t), (1, .ref (cy 101))]) hx hb dX5_spells_49 hl (k := 0) rfl rfl (by decide) rfl (fun ls hl => ?_)
          refine lv_goto (tgt := 20) hx hb dX5_spells_52 (by decide) ?_
          refine lv_iload_n hx hb dX5_spells_20 rfl (lv_at hl 0 rfl) ?_
          refine lv_aload_n hx hb dX5_spells_21 rfl (lv_at hl 2 rfl) ?_
          refine cl_Ti (rest := [.int (((0 + 1) + 1) + 1)]) [] [none, none] 2 C0 hK hP hD hS hA (c_J0_length l D cy 1 (by decide)) (cwV 0 hts gX5_spells_J0_length_8abf5 rfl rfl rfl (by decide +kernel) ⟨Nat.le_of_ble_eq_true rfl, Nat.le_of_ble_eq_true rfl⟩) rfl (by decide) rfl rfl rfl (vk_recv (adK := fun i => cy (100 + i)) (i := 1) hK.2.1 (by decide) hS) rfl hl.1 rfl (Nat.le_of_ble_eq_true rfl) dX5_spells_22 ⟨Nat.zero_le _, Nat.zero_le _⟩ (fun H locs hP hD hS => ?_)
          have hP : va_P D vwCl [(a_t, .inr (5, [.ref a_t_text, o_t_length, .int i_t_place, .int i_t_start, o_t_faultNumber, o_t_faultByte])), (a_t_text, .inl (cy 1, 500, .inl f_t_text))] H := hP
          have hD : va_D A [(a_t, .inr (5, [.ref a_t_text, o_t_length, .int i_t_place, .int i_t_start, o_t_faultNumber, o_t_faultByte])), (a_t_text, .inl (cy 1, 500, .inl f_t_text))] := hD
          refine lv_icmp_ge (tgt := 55) hx hb dX5_spells_25 (by decide) (fun c_11 => absurd c_11 (by decide)) (fun c_11 => ?_)
          refine lv_aload_n hx hb dX5_spells_28 rfl (lv_at hl 1 rfl) ?_
          refine va_get (D := D) (ci := 5) (v := .ref a_t_text) (C := RX5) (T := TX5) (N := 6) hx hb hts uX5_spells_X5 hown hK.1.1 hP 0 rfl rfl 0 (by decide) (hts _ mX5_spells_9) (fun _ h9 => h9) rfl dX5_spells_29 ?_
          refine lv_aload_n hx hb dX5_spells_32 rfl (lv_at hl 1 rfl) ?_
          refine va_get (D := D) (ci := 5) (v := .int i_t_start) (C := RX5) (T := TX5) (N := 6) hx hb hts uX5_spells_X5 hown hK.1.1 hP 0 rfl rfl 3 (by decide) (hts _ mX5_spells_121) (fun _ h9 => h9) rfl dX5_spells_33 ?_
          refine lv_iload_n hx hb dX5_spells_36 rfl (lv_at hl 0 rfl) ?_
          refine lv_iadd hx hb dX5_spells_37 ?_
          obtain ⟨hg_12, hf⟩ := hb_g hf
          refine va_bald hx hb hK.1.1 hP 1 1 rfl rfl (ixb_in hg_12) dX5_spells_38 ?_
          refine lv_aload_n hx hb dX5_spells_39 rfl (lv_at hl 2 rfl) ?_
          refine lv_iload_n hx hb dX5_spells_40 rfl (lv_at hl 0 rfl) ?_
          refine cl_Ti (As := [.int (((0 + 1) + 1) + 1)]) (rest := [.int (f_t_text ((i_t_start + (((0 + 1) + 1) + 1)) : Int32).toNatClampNeg)]) [] [none, none] 2 C0 hK hP hD hS hA (c_J0_charAt l D cy 1 (by decide) 3 (by decide)) (cwV 1 hts gX5_spells_J0_charAt_5068e rfl rfl rfl (by decide +kernel) ⟨Nat.le_of_ble_eq_true rfl, Nat.le_of_ble_eq_true rfl⟩) rfl (by decide) rfl rfl rfl (vk_recv (adK := fun i => cy (100 + i)) (i := 1) hK.2.1 (by decide) hS) rfl hl.1 rfl (Nat.le_of_ble_eq_true rfl) dX5_spells_41 ⟨Nat.zero_le _, Nat.zero_le _⟩ (fun H locs hP hD hS => ?_)
          have hP : va_P D vwCl [(a_t, .inr (5, [.ref a_t_text, o_t_length, .int i_t_place, .int i_t_start, o_t_faultNumber, o_t_faultByte])), (a_t_text, .inl (cy 1, 500, .inl f_t_text))] H := hP
          have hD : va_D A [(a_t, .inr (5, [.ref a_t_text, o_t_length, .int i_t_place, .int i_t_start, o_t_faultNumber, o_t_faultByte])), (a_t_text, .inl (cy 1, 500, .inl f_t_text))] := hD
          refine lv_icmp_eq (tgt := 49) hx hb dX5_spells_44 (by decide) (fun c_13 => ?_) (fun c_13 => ?_)
          · have hf := hb_t hf c_13
            refine lv_iinc (v := ((((0 + 1) + 1) + 1) + 1)) (lv' := [(2, .int ((((0 + 1) + 1) + 1) + 1)), (0, .ref a_t), (1, .ref (cy 101))]) hx hb dX5_spells_49 hl (k := 0) rfl rfl (by decide) rfl (fun ls hl => ?_)
            refine lv_goto (tgt := 20) hx hb dX5_spells_52 (by decide) ?_
            refine lv_iload_n hx hb dX5_spells_20 rfl (lv_at hl 0 rfl) ?_
            refine lv_aload_n hx hb dX5_spells_21 rfl (lv_at hl 2 rfl) ?_
            refine cl_Ti (rest := [.int ((((0 + 1) + 1) + 1) + 1)]) [] [none, none] 2 C0 hK hP hD hS hA (c_J0_length l D cy 1 (by decide)) (cwV 0 hts gX5_spells_J0_length_8abf5 rfl rfl rfl (by decide +kernel) ⟨Nat.le_of_ble_eq_true rfl, Nat.le_of_ble_eq_true rfl⟩) rfl (by decide) rfl rfl rfl (vk_recv (adK := fun i => cy (100 + i)) (i := 1) hK.2.1 (by decide) hS) rfl hl.1 rfl (Nat.le_of_ble_eq_true rfl) dX5_spells_22 ⟨Nat.zero_le _, Nat.zero_le _⟩ (fun H locs hP hD hS => ?_)
            have hP : va_P D vwCl [(a_t, .inr (5, [.ref a_t_text, o_t_length, .int i_t_place, .int i_t_start, o_t_faultNumber, o_t_faultByte])), (a_t_text, .inl (cy 1, 500, .inl f_t_text))] H := hP
            have hD : va_D A [(a_t, .inr (5, [.ref a_t_text, o_t_length, .int i_t_place, .int i_t_start, o_t_faultNumber, o_t_faultByte])), (a_t_text, .inl (cy 1, 500, .inl f_t_text))] := hD
            refine lv_icmp_ge (tgt := 55) hx hb dX5_spells_25 (by decide) (fun c_14 => ?_) (fun c_14 => absurd c_14 (by decide))
            refine lv_iconst (v := 1) hx hb dX5_spells_55 (by decide) ?_
            have hf := Option.some.inj hf
            subst hf
            exact hret _ _ _ _ dX5_spells_56 rfl hP hS
          · have hf := hb_f hf c_13
            refine lv_iconst (v := 0) hx hb dX5_spells_47 (by decide) ?_
            have hf := Option.some.inj hf
            subst hf
            exact hret _ _ _ _ dX5_spells_48 rfl hP hS
        · have hf := hb_f hf c_10
          refine lv_iconst (v := 0) hx hb dX5_spells_47 (by decide) ?_
          have hf := Option.some.inj hf
          subst hf
          exact hret _ _ _ _ dX5_spells_48 rfl hP hS
      · have hf := hb_f hf c_7
        refine lv_iconst (v := 0) hx hb dX5_spells_47 (by decide) ?_
        have hf := Option.some.inj hf
        subst hf
        exact hret _ _ _ _ dX5_spells_48 rfl hP hS
    · have hf := hb_f hf c_4
      refine lv_iconst (v := 0) hx hb dX5_spells_47 (by decide) ?_
      have hf := Option.some.inj hf
      subst hf
      exact hret _ _ _ _ dX5_spells_48 rfl hP hS
  · have hf := hb_f hf c_1
    refine lv_iconst (v := 0) hx hb dX5_spells_16 (by decide) ?_
    have hf := Option.some.inj hf
    subst hf
    exact hret _ _ _ _ dX5_spells_17 rfl hP hS
abbrev rmX5_spells_frame : Room := { frames := 4, cells := 0, slots := 0, locals := 85 }
set_option maxRecDepth 100000 in
set_option maxHeartbeats 4000000 in
theorem c_X5_spells_frame (l : Launch) (D : va_G) (cy : Nat → ClassId) (a_t : Nat) (a_t_text : Nat) (o_t_length : Value) (o_t_faultNumber : Value) (o_t_faultByte : Value) (i_t_place : Int32) (i_t_start : Int32) (f_t_text : Nat → Int32) (rv : Int32) (hf : f_X5_spells_frame i_t_place i_t_start f_t_text = some rv) : MI l D cy yX5_spells wsX5_spells rmX5_spells_frame [.ref a_t, .ref (cy 102)] [(a_t, .inr (5, [.ref a_t_text, o_t_length, .int i_t_place, .int i_t_start, o_t_faultNumber, o_t_faultByte])), (a_t_text, .inl (cy 1, 500, .inl f_t_text))] [(a_t, .inr (5, [.ref a_t_text, o_t_length, .int i_t_place, .int i_t_start, o_t_faultNumber, o_t_faultByte])), (a_t_text, .inl (cy 1, 500, .inl f_t_text))] rv := by
  refine st_I (by decide) rfl (Nat.le_of_ble_eq_true rfl) (fun p e s m below meth c A Q ls C0 hA hK hP hD hS hl hret => ?_)
  obtain ⟨hx, hb, hr, hml, hown, hts, hlocks⟩ := id C0
  have hl : lv_has ls 3 [(0, .ref a_t), (1, .ref (cy 102))] := hl
  unfold f_X5_spells_frame at hf
  refine lv_aload_n hx hb dX5_spells_0 rfl (lv_at hl 0 rfl) ?_
  refine va_get (D := D) (ci := 5) (v := .int i_t_place) (C := RX5) (T := TX5) (N := 6) hx hb hts uX5_spells_X5 hown hK.1.1 hP 0 rfl rfl 2 (by decide) (hts _ mX5_spells_23) (fun _ h9 => h9) rfl dX5_spells_1 ?_
  refine lv_aload_n hx hb dX5_spells_4 rfl (lv_at hl 0 rfl) ?_
  refine va_get (D := D) (ci := 5) (v := .int i_t_start) (C := RX5) (T := TX5) (N := 6) hx hb hts uX5_spells_X5 hown hK.1.1 hP 0 rfl rfl 3 (by decide) (hts _ mX5_spells_121) (fun _ h9 => h9) rfl dX5_spells_5 ?_
  refine lv_isub hx hb dX5_spells_8 ?_
  refine lv_aload_n hx hb dX5_spells_9 rfl (lv_at hl 1 rfl) ?_
  refine cl_Ti (rest := [.int (i_t_place - i_t_start)]) [] [none, none] 2 C0 hK hP hD hS hA (c_J0_length l D cy 2 (by decide)) (cwV 0 hts gX5_spells_J0_length_8abf5 rfl rfl rfl (by decide +kernel) ⟨Nat.le_of_ble_eq_true rfl, Nat.le_of_ble_eq_true rfl⟩) rfl (by decide) rfl rfl rfl (vk_recv (adK := fun i => cy (100 + i)) (i := 2) hK.2.1 (by decide) hS) rfl hl.1 rfl (Nat.le_of_ble_eq_true rfl) dX5_spells_10 ⟨Nat.zero_le _, Nat.zero_le _⟩ (fun H locs hP hD hS => ?_)
  have hP : va_P D vwCl [(a_t, .inr (5, [.ref a_t_text, o_t_length, .int i_t_place, .int i_t_start, o_t_faultNumber, o_t_faultByte])), (a_t_text, .inl (cy 1, 500, .inl f_t_text))] H := hP
  have hD : va_D A [(a_t, .inr (5, [.ref a_t_text, o_t_length, .int i_t_place, .int i_t_start, o_t_faultNumber, o_t_faultByte])), (a_t_text, .inl (cy 1, 500, .inl f_t_text))] := hD
  refine lv_icmp_eq (tgt := 18) hx hb dX5_spells_13 (by decide) (fun c_1 => ?_) (fun c_1 => ?_)
  · have hf := hb_t hf c_1
    refine lv_iconst (v := 0) hx hb dX5_spells_18 (by decide) ?_
    refine lv_istore_n (lv' := [(2, .int 0), (0, .ref a_t), (1, .ref (cy 102))]) hx hb dX5_spells_19 rfl hl (by decide) rfl (fun ls hl => ?_)
    refine lv_iload_n hx hb dX5_spells_20 rfl (lv_at hl 0 rfl) ?_
    refine lv_aload_n hx hb dX5_spells_21 rfl (lv_at hl 2 rfl) ?_
    refine cl_Ti (rest := [.int 0]) [] [none, none] 2 C0 hK hP hD hS hA (c_J0_length l D cy 2 (by decide)) (cwV 0 hts gX5_spells_J0_length_8abf5 rfl rfl rfl (by decide +kernel) ⟨Nat.le_of_ble_eq_true rfl, Nat.le_of_ble_eq_true rfl⟩) rfl (by decide) rfl rfl rfl (vk_recv (adK := fun i => cy (100 + i)) (i := 2) hK.2.1 (by decide) hS) rfl hl.1 rfl (Nat.le_of_ble_eq_true rfl) dX5_spells_22 ⟨Nat.zero_le _, Nat.zero_le _⟩ (fun H locs hP hD hS => ?_)
    have hP : va_P D vwCl [(a_t, .inr (5, [.ref a_t_text, o_t_length, .int i_t_place, .int i_t_start, o_t_faultNumber, o_t_faultByte])), (a_t_text, .inl (cy 1, 500, .inl f_t_text))] H := hP
    have hD : va_D A [(a_t, .inr (5, [.ref a_t_text, o_t_length, .int i_t_place, .int i_t_start, o_t_faultNumber, o_t_faultByte])), (a_t_text, .inl (cy 1, 500, .inl f_t_text))] := hD
    refine lv_icmp_ge (tgt := 55) hx hb dX5_spells_25 (by decide) (fun c_2 => absurd c_2 (by decide)) (fun c_2 => ?_)
    refine lv_aload_n hx hb dX5_spells_28 rfl (lv_at hl 1 rfl) ?_
    refine va_get (D := D) (ci := 5) (v := .ref a_t_text) (C := RX5) (T := TX5) (N := 6) hx hb hts uX5_spells_X5 hown hK.1.1 hP 0 rfl rfl 0 (by decide) (hts _ mX5_spells_9) (fun _ h9 => h9) rfl dX5_spells_29 ?_
    refine lv_aload_n hx hb dX5_spells_32 rfl (lv_at hl 1 rfl) ?_
    refine va_get (D := D) (ci := 5) (v := .int i_t_start) (C := RX5) (T := TX5) (N := 6) hx hb hts uX5_spells_X5 hown hK.1.1 hP 0 rfl rfl 3 (by decide) (hts _ mX5_spells_121) (fun _ h9 => h9) rfl dX5_spells_33 ?_
    refine lv_iload_n hx hb dX5_spells_36 rfl (lv_at hl 0 rfl) ?_
    refine lv_iadd hx hb dX5_spells_37 ?_
    obtain ⟨hg_3, hf⟩ := hb_g hf
    refine va_bald hx hb hK.1.1 hP 1 1 rfl rfl (ixb_in hg_3) dX5_spells_38 ?_
    refine lv_aload_n hx hb dX5_spells_39 rfl (lv_at hl 2 rfl) ?_
    refine lv_iload_n hx hb dX5_spells_40 rfl (lv_at hl 0 rfl) ?_
    refine cl_Ti (As := [.int 0]) (rest := [.int (f_t_text ((i_t_start + 0) : Int32).toNatClampNeg)]) [] [none, none] 2 C0 hK hP hD hS hA (c_J0_charAt l D cy 2 (by decide) 0 (by decide)) (cwV 1 hts gX5_spells_J0_charAt_5068e rfl rfl rfl (by decide +kernel) ⟨Nat.le_of_ble_eq_true rfl, Nat.le_of_ble_eq_true rfl⟩) rfl (by decide) rfl rfl rfl (vk_recv (adK := fun i => cy (100 + i)) (i := 2) hK.2.1 (by decide) hS) rfl hl.1 rfl (Nat.le_of_ble_eq_true rfl) dX5_spells_41 ⟨Nat.zero_le _, Nat.zero_le _⟩ (fun H locs hP hD hS => ?_)
    have hP : va_P D vwCl [(a_t, .inr (5, [.ref a_t_text, o_t_length, .int i_t_place, .int i_t_start, o_t_faultNumber, o_t_faultByte])), (a_t_text, .inl (cy 1, 500, .inl f_t_text))] H := hP
    have hD : va_D A [(a_t, .inr (5, [.ref a_t_text, o_t_length, .int i_t_place, .int i_t_start, o_t_faultNumber, o_t_faultByte])), (a_t_text, .inl (cy 1, 500, .inl f_t_text))] := hD
    refine lv_icmp_eq (tgt := 49) hx hb dX5_spells_44 (by decide) (fun c_4 => ?_) (fun c_4 => ?_)
    · have hf := hb_t hf c_4
      refine lv_iinc (v := (0 + 1)) (lv' := [(2, .int (0 + 1)), (0, .ref a_t), (1, .ref (cy 102))]) hx hb dX5_spells_49 hl (k := 0) rfl rfl (by decide) rfl (fun ls hl => ?_)
      refine lv_goto (tgt := 20) hx hb dX5_spells_52 (by decide) ?_
      refine lv_iload_n hx hb dX5_spells_20 rfl (lv_at hl 0 rfl) ?_
      refine lv_aload_n hx hb dX5_spells_21 rfl (lv_at hl 2 rfl) ?_
      refine cl_Ti (rest := [.int (0 + 1)]) [] [none, none] 2 C0 hK hP hD hS hA (c_J0_length l D cy 2 (by decide)) (cwV 0 hts gX5_spells_J0_length_8abf5 rfl rfl rfl (by decide +kernel) ⟨Nat.le_of_ble_eq_true rfl, Nat.le_of_ble_eq_true rfl⟩) rfl (by decide) rfl rfl rfl (vk_recv (adK := fun i => cy (100 + i)) (i := 2) hK.2.1 (by decide) hS) rfl hl.1 rfl (Nat.le_of_ble_eq_true rfl) dX5_spells_22 ⟨Nat.zero_le _, Nat.zero_le _⟩ (fun H locs hP hD hS => ?_)
      have hP : va_P D vwCl [(a_t, .inr (5, [.ref a_t_text, o_t_length, .int i_t_place, .int i_t_start, o_t_faultNumber, o_t_faultByte])), (a_t_text, .inl (cy 1, 500, .inl f_t_text))] H := hP
      have hD : va_D A [(a_t, .inr (5, [.ref a_t_text, o_t_length, .int i_t_place, .int i_t_start, o_t_faultNumber, o_t_faultByte])), (a_t_text, .inl (cy 1, 500, .inl f_t_text))] := hD
      refine lv_icmp_ge (tgt := 55) hx hb dX5_spells_25 (by decide) (fun c_5 => absurd c_5 (by decide)) (fun c_5 => ?_)
      refine lv_aload_n hx hb dX5_spells_28 rfl (lv_at hl 1 rfl) ?_
      refine va_get (D := D) (ci := 5) (v := .ref a_t_text) (C := RX5) (T := TX5) (N := 6) hx hb hts uX5_spells_X5 hown hK.1.1 hP 0 rfl rfl 0 (by decide) (hts _ mX5_spells_9) (fun _ h9 => h9) rfl dX5_spells_29 ?_
      refine lv_aload_n hx hb dX5_spells_32 rfl (lv_at hl 1 rfl) ?_
      refine va_get (D := D) (ci := 5) (v := .int i_t_start) (C := RX5) (T := TX5) (N := 6) hx hb hts uX5_spells_X5 hown hK.1.1 hP 0 rfl rfl 3 (by decide) (hts _ mX5_spells_121) (fun _ h9 => h9) rfl dX5_spells_33 ?_
      refine lv_iload_n hx hb dX5_spells_36 rfl (lv_at hl 0 rfl) ?_
      refine lv_iadd hx hb dX5_spells_37 ?_
      obtain ⟨hg_6, hf⟩ := hb_g hf
      refine va_bald hx hb hK.1.1 hP 1 1 rfl rfl (ixb_in hg_6) dX5_spells_38 ?_
      refine lv_aload_n hx hb dX5_spells_39 rfl (lv_at hl 2 rfl) ?_
      refine lv_iload_n hx hb dX5_spells_40 rfl (lv_at hl 0 rfl) ?_
      refine cl_Ti (As := [.int (0 + 1)]) (rest := [.int (f_t_text ((i_t_start + (0 + 1)) : Int32).toNatClampNeg)]) [] [none, none] 2 C0 hK hP hD hS hA (c_J0_charAt l D cy 2 (by decide) 1 (by decide)) (cwV 1 hts gX5_spells_J0_charAt_5068e rfl rfl rfl (by decide +kernel) ⟨Nat.le_of_ble_eq_true rfl, Nat.le_of_ble_eq_true rfl⟩) rfl (by decide) rfl rfl rfl (vk_recv (adK := fun i => cy (100 + i)) (i := 2) hK.2.1 (by decide) hS) rfl hl.1 rfl (Nat.le_of_ble_eq_true rfl) dX5_spells_41 ⟨Nat.zero_le _, Nat.zero_le _⟩ (fun H locs hP hD hS => ?_)
      have hP : va_P D vwCl [(a_t, .inr (5, [.ref a_t_text, o_t_length, .int i_t_place, .int i_t_start, o_t_faultNumber, o_t_faultByte])), (a_t_text, .inl (cy 1, 500, .inl f_t_text))] H := hP
      have hD : va_D A [(a_t, .inr (5, [.ref a_t_text, o_t_length, .int i_t_place, .int i_t_start, o_t_faultNumber, o_t_faultByte])), (a_t_text, .inl (cy 1, 500, .inl f_t_text))] := hD
      refine lv_icmp_eq (tgt := 49) hx hb dX5_spells_44 (by decide) (fun c_7 => ?_) (fun c_7 => ?_)
      · have hf := hb_t hf c_7
        refine lv_iinc (v := ((0 + 1) + 1)) (lv' := [(2, .int ((0 + 1) + 1)), (0, .ref a_t), (1, .ref (cy 102))]) hx hb dX5_spells_49 hl (k := 0) rfl rfl (by decide) rfl (fun ls hl => ?_)
        refine lv_goto (tgt := 20) hx hb dX5_spells_52 (by decide) ?_
        refine lv_iload_n hx hb dX5_spells_20 rfl (lv_at hl 0 rfl) ?_
        refine lv_aload_n hx hb dX5_spells_21 rfl (lv_at hl 2 rfl) ?_
        refine cl_Ti (rest := [.int ((0 + 1) + 1)]) [] [none, none] 2 C0 hK hP hD hS hA (c_J0_length l D cy 2 (by decide)) (cwV 0 hts gX5_spells_J0_length_8abf5 rfl rfl rfl (by decide +kernel) ⟨Nat.le_of_ble_eq_true rfl, Nat.le_of_ble_eq_true rfl⟩) rfl (by decide) rfl rfl rfl (vk_recv (adK := fun i => cy (100 + i)) (i := 2) hK.2.1 (by decide) hS) rfl hl.1 rfl (Nat.le_of_ble_eq_true rfl) dX5_spells_22 ⟨Nat.zero_le _, Nat.zero_le _⟩ (fun H locs hP hD hS => ?_)
        have hP : va_P D vwCl [(a_t, .inr (5, [.ref a_t_text, o_t_length, .int i_t_place, .int i_t_start, o_t_faultNumber, o_t_faultByte])), (a_t_text, .inl (cy 1, 500, .inl f_t_text))] H := hP
        have hD : va_D A [(a_t, .inr (5, [.ref a_t_text, o_t_length, .int i_t_place, .int i_t_start, o_t_faultNumber, o_t_faultByte])), (a_t_text, .inl (cy 1, 500, .inl f_t_text))] := hD
        refine lv_icmp_ge (tgt := 55) hx hb dX5_spells_25 (by decide) (fun c_8 => absurd c_8 (by decide)) (fun c_8 => ?_)
        refine lv_aload_n hx hb dX5_spells_28 rfl (lv_at hl 1 rfl) ?_
        refine va_get (D := D) (ci := 5) (v := .ref a_t_text) (C := RX5) (T := TX5) (N := 6) hx hb hts uX5_spells_X5 hown hK.1.1 hP 0 rfl rfl 0 (by decide) (hts _ mX5_spells_9) (fun _ h9 => h9) rfl dX5_spells_29 ?_
        refine lv_aload_n hx hb dX5_spells_32 rfl (lv_at hl 1 rfl) ?_
        refine va_get (D := D) (ci := 5) (v := .int i_t_start) (C := RX5) (T := TX5) (N := 6) hx hb hts uX5_spells_X5 hown hK.1.1 hP 0 rfl rfl 3 (by decide) (hts _ mX5_spells_121) (fun _ h9 => h9) rfl dX5_spells_33 ?_
        refine lv_iload_n hx hb dX5_spells_36 rfl (lv_at hl 0 rfl) ?_
        refine lv_iadd hx hb dX5_spells_37 ?_
        obtain ⟨hg_9, hf⟩ := hb_g hf
        refine va_bald hx hb hK.1.1 hP 1 1 rfl rfl (ixb_in hg_9) dX5_spells_38 ?_
        refine lv_aload_n hx hb dX5_spells_39 rfl (lv_at hl 2 rfl) ?_
        refine lv_iload_n hx hb dX5_spells_40 rfl (lv_at hl 0 rfl) ?_
        refine cl_Ti (As := [.int ((0 + 1) + 1)]) (rest := [.int (f_t_text ((i_t_start + ((0 + 1) + 1)) : Int32).toNatClampNeg)]) [] [none, none] 2 C0 hK hP hD hS hA (c_J0_charAt l D cy 2 (by decide) 2 (by decide)) (cwV 1 hts gX5_spells_J0_charAt_5068e rfl rfl rfl (by decide +kernel) ⟨Nat.le_of_ble_eq_true rfl, Nat.le_of_ble_eq_true rfl⟩) rfl (by decide) rfl rfl rfl (vk_recv (adK := fun i => cy (100 + i)) (i := 2) hK.2.1 (by decide) hS) rfl hl.1 rfl (Nat.le_of_ble_eq_true rfl) dX5_spells_41 ⟨Nat.zero_le _, Nat.zero_le _⟩ (fun H locs hP hD hS => ?_)
        have hP : va_P D vwCl [(a_t, .inr (5, [.ref a_t_text, o_t_length, .int i_t_place, .int i_t_start, o_t_faultNumber, o_t_faultByte])), (a_t_text, .inl (cy 1, 500, .inl f_t_text))] H := hP
        have hD : va_D A [(a_t, .inr (5, [.ref a_t_text, o_t_length, .int i_t_place, .int i_t_start, o_t_faultNumber, o_t_faultByte])), (a_t_text, .inl (cy 1, 500, .inl f_t_text))] := hD
        refine lv_icmp_eq (tgt := 49) hx hb dX5_spells_44 (by decide) (fun c_10 => ?_) (fun c_10 => ?_)
        · have hf := hb_t hf c_10
          refine lv_iinc (v := (((0 + 1) + 1) + 1)) (lv' := [(2, .int (((0 + 1) + 1) + 1)), (0, .ref a_t), (1, .ref (cy 102))]) hx hb dX5_spells_49 hl (k := 0) rfl rfl (by decide) rfl (fun ls hl => ?_)
          refine lv_goto (tgt := 20) hx hb dX5_spells_52 (by decide) ?_
          refine lv_iload_n hx hb dX5_spells_20 rfl (lv_at hl 0 rfl) ?_
          refine lv_aload_n hx hb dX5_spells_21 rfl (lv_at hl 2 rfl) ?_
          refine cl_Ti (rest := [.int (((0 + 1) + 1) + 1)]) [] [none, none] 2 C0 hK hP hD hS hA (c_J0_length l D cy 2 (by decide)) (cwV 0 hts gX5_spells_J0_length_8abf5 rfl rfl rfl (by decide +kernel) ⟨Nat.le_of_ble_eq_true rfl, Nat.le_of_ble_eq_true rfl⟩) rfl (by decide) rfl rfl rfl (vk_recv (adK := fun i => cy (100 + i)) (i := 2) hK.2.1 (by decide) hS) rfl hl.1 rfl (Nat.le_of_ble_eq_true rfl) dX5_spells_22 ⟨Nat.zero_le _, Nat.zero_le _⟩ (fun H locs hP hD hS => ?_)
          have hP : va_P D vwCl [(a_t, .inr (5, [.ref a_t_text, o_t_length, .int i_t_place, .int i_t_start, o_t_faultNumber, o_t_faultByte])), (a_t_text, .inl (cy 1, 500, .inl f_t_text))] H := hP
          have hD : va_D A [(a_t, .inr (5, [.ref a_t_text, o_t_length, .int i_t_place, .int i_t_start, o_t_faultNumber, o_t_faultByte])), (a_t_text, .inl (cy 1, 500, .inl f_t_text))] := hD
          refine lv_icmp_ge (tgt := 55) hx hb dX5_spells_25 (by decide) (fun c_11 => absurd c_11 (by decide)) (fun c_11 => ?_)
          refine lv_aload_n hx hb dX5_spells_28 rfl (lv_at hl 1 rfl) ?_
          refine va_get (D := D) (ci := 5) (v := .ref a_t_text) (C := RX5) (T := TX5) (N := 6) hx hb hts uX5_spells_X5 hown hK.1.1 hP 0 rfl rfl 0 (by decide) (hts _ mX5_spells_9) (fun _ h9 => h9) rfl dX5_spells_29 ?_
          refine lv_aload_n hx hb dX5_spells_32 rfl (lv_at hl 1 rfl) ?_
          refine va_get (D := D) (ci := 5) (v := .int i_t_start) (C := RX5) (T := TX5) (N := 6) hx hb hts uX5_spells_X5 hown hK.1.1 hP 0 rfl rfl 3 (by decide) (hts _ mX5_spells_121) (fun _ h9 => h9) rfl dX5_spells_33 ?_
          refine lv_iload_n hx hb dX5_spells_36 rfl (lv_at hl 0 rfl) ?_
          refine lv_iadd hx hb dX5_spells_37 ?_
          obtain ⟨hg_12, hf⟩ := hb_g hf
          refine va_bald hx hb hK.1.1 hP 1 1 rfl rfl (ixb_in hg_12) dX5_spells_38 ?_
          refine lv_aload_n hx hb dX5_spells_39 rfl (lv_at hl 2 rfl) ?_
          refine lv_iload_n hx hb dX5_spells_40 rfl (lv_at hl 0 rfl) ?_
          refine cl_Ti (As := [.int (((0 + 1) + 1) + 1)]) (rest := [.int (f_t_text ((i_t_start + (((0 + 1) + 1) + 1)) : Int32).toNatClampNeg)]) [] [none, none] 2 C0 hK hP hD hS hA (c_J0_charAt l D cy 2 (by decide) 3 (by decide)) (cwV 1 hts gX5_spells_J0_charAt_5068e rfl rfl rfl (by decide +kernel) ⟨Nat.le_of_ble_eq_true rfl, Nat.le_of_ble_eq_true rfl⟩) rfl (by decide) rfl rfl rfl (vk_recv (adK := fun i => cy (100 + i)) (i := 2) hK.2.1 (by decide) hS) rfl hl.1 rfl (Nat.le_of_ble_eq_true rfl) dX5_spells_41 ⟨Nat.zero_le _, Nat.zero_le _⟩ (fun H locs hP hD hS => ?_)
          have hP : va_P D vwCl [(a_t, .inr (5, [.ref a_t_text, o_t_length, .int i_t_place, .int i_t_start, o_t_faultNumber, o_t_faultByte])), (a_t_text, .inl (cy 1, 500, .inl f_t_text))] H := hP
          have hD : va_D A [(a_t, .inr (5, [.ref a_t_text, o_t_length, .int i_t_place, .int i_t_start, o_t_faultNumber, o_t_faultByte])), (a_t_text, .inl (cy 1, 500, .inl f_t_text))] := hD
          refine lv_icmp_eq (tgt := 49) hx hb dX5_spells_44 (by decide) (fun c_13 => ?_) (fun c_13 => ?_)
          · have hf := hb_t hf c_13
            refine lv_iinc (v := ((((0 + 1) + 1) + 1) + 1)) (lv' := [(2, .int ((((0 + 1) + 1) + 1) + 1)), (0, .ref a_t), (1, .ref (cy 102))]) hx hb dX5_spells_49 hl (k := 0) rfl rfl (by decide) rfl (fun ls hl => ?_)
            refine lv_goto (tgt := 20) hx hb dX5_spells_52 (by decide) ?_
            refine lv_iload_n hx hb dX5_spells_20 rfl (lv_at hl 0 rfl) ?_
            refine lv_aload_n hx hb dX5_spells_21 rfl (lv_at hl 2 rfl) ?_
            refine cl_Ti (rest := [.int ((((0 + 1) + 1) + 1) + 1)]) [] [none, none] 2 C0 hK hP hD hS hA (c_J0_length l D cy 2 (by decide)) (cwV 0 hts gX5_spells_J0_length_8abf5 rfl rfl rfl (by decide +kernel) ⟨Nat.le_of_ble_eq_true rfl, Nat.le_of_ble_eq_true rfl⟩) rfl (by decide) rfl rfl rfl (vk_recv (adK := fun i => cy (100 + i)) (i := 2) hK.2.1 (by decide) hS) rfl hl.1 rfl (Nat.le_of_ble_eq_true rfl) dX5_spells_22 ⟨Nat.zero_le _, Nat.zero_le _⟩ (fun H locs hP hD hS => ?_)
            have hP : va_P D vwCl [(a_t, .inr (5, [.ref a_t_text, o_t_length, .int i_t_place, .int i_t_start, o_t_faultNumber, o_t_faultByte])), (a_t_text, .inl (cy 1, 500, .inl f_t_text))] H := hP
            have hD : va_D A [(a_t, .inr (5, [.ref a_t_text, o_t_length, .int i_t_place, .int i_t_start, o_t_faultNumber, o_t_faultByte])), (a_t_text, .inl (cy 1, 500, .inl f_t_text))] := hD
            refine lv_icmp_ge (tgt := 55) hx hb dX5_spells_25 (by decide) (fun c_14 => absurd c_14 (by decide)) (fun c_14 => ?_)
            refine lv_aload_n hx hb dX5_spells_28 rfl (lv_at hl 1 rfl) ?_
            refine va_get (D := D) (ci := 5) (v := .ref a_t_text) (C := RX5) (T := TX5) (N := 6) hx hb hts uX5_spells_X5 hown hK.1.1 hP 0 rfl rfl 0 (by decide) (hts _ mX5_spells_9) (fun _ h9 => h9) rfl dX5_spells_29 ?_
            refine lv_aload_n hx hb dX5_spells_32 rfl (lv_at hl 1 rfl) ?_
            refine va_get (D := D) (ci := 5) (v := .int i_t_start) (C := RX5) (T := TX5) (N := 6) hx hb hts uX5_spells_X5 hown hK.1.1 hP 0 rfl rfl 3 (by decide) (hts _ mX5_spells_121) (fun _ h9 => h9) rfl dX5_spells_33 ?_
            refine lv_iload_n hx hb dX5_spells_36 rfl (lv_at hl 0 rfl) ?_
            refine lv_iadd hx hb dX5_spells_37 ?_
            obtain ⟨hg_15, hf⟩ := hb_g hf
            refine va_bald hx hb hK.1.1 hP 1 1 rfl rfl (ixb_in hg_15) dX5_spells_38 ?_
            refine lv_aload_n hx hb dX5_spells_39 rfl (lv_at hl 2 rfl) ?_
            refine lv_iload_n hx hb dX5_spells_40 rfl (lv_at hl 0 rfl) ?_
            refine cl_Ti (As := [.int ((((0 + 1) + 1) + 1) + 1)]) (rest := [.int (f_t_text ((i_t_start + ((((0 + 1) + 1) + 1) + 1)) : Int32).toNatClampNeg)]) [] [none, none] 2 C0 hK hP hD hS hA (c_J0_charAt l D cy 2 (by decide) 4 (by decide)) (cwV 1 hts gX5_spells_J0_charAt_5068e rfl rfl rfl (by decide +kernel) ⟨Nat.le_of_ble_eq_true rfl, Nat.le_of_ble_eq_true rfl⟩) rfl (by decide) rfl rfl rfl (vk_recv (adK := fun i => cy (100 + i)) (i := 2) hK.2.1 (by decide) hS) rfl hl.1 rfl (Nat.le_of_ble_eq_true rfl) dX5_spells_41 ⟨Nat.zero_le _, Nat.zero_le _⟩ (fun H locs hP hD hS => ?_)
            have hP : va_P D vwCl [(a_t, .inr (5, [.ref a_t_text, o_t_length, .int i_t_place, .int i_t_start, o_t_faultNumber, o_t_faultByte])), (a_t_text, .inl (cy 1, 500, .inl f_t_text))] H := hP
            have hD : va_D A [(a_t, .inr (5, [.ref a_t_text, o_t_length, .int i_t_place, .int i_t_start, o_t_faultNumber, o_t_faultByte])), (a_t_text, .inl (cy 1, 500, .inl f_t_text))] := hD
            refine lv_icmp_eq (tgt := 49) hx hb dX5_spells_44 (by decide) (fun c_16 => ?_) (fun c_16 => ?_)
            · have hf := hb_t hf c_16
              refine lv_iinc (v := (((((0 + 1) + 1) + 1) + 1) + 1)) (lv' := [(2, .int (((((0 + 1) + 1) + 1) + 1) + 1)), (0, .ref a_t), (1, .ref (cy 102))]) hx hb dX5_spells_49 hl (k := 0) rfl rfl (by decide) rfl (fun ls hl => ?_)
              refine lv_goto (tgt := 20) hx hb dX5_spells_52 (by decide) ?_
              refine lv_iload_n hx hb dX5_spells_20 rfl (lv_at hl 0 rfl) ?_
              refine lv_aload_n hx hb dX5_spells_21 rfl (lv_at hl 2 rfl) ?_
              refine cl_Ti (rest := [.int (((((0 + 1) + 1) + 1) + 1) + 1)]) [] [none, none] 2 C0 hK hP hD hS hA (c_J0_length l D cy 2 (by decide)) (cwV 0 hts gX5_spells_J0_length_8abf5 rfl rfl rfl (by decide +kernel) ⟨Nat.le_of_ble_eq_true rfl, Nat.le_of_ble_eq_true rfl⟩) rfl (by decide) rfl rfl rfl (vk_recv (adK := fun i => cy (100 + i)) (i := 2) hK.2.1 (by decide) hS) rfl hl.1 rfl (Nat.le_of_ble_eq_true rfl) dX5_spells_22 ⟨Nat.zero_le _, Nat.zero_le _⟩ (fun H locs hP hD hS => ?_)
              have hP : va_P D vwCl [(a_t, .inr (5, [.ref a_t_text, o_t_length, .int i_t_place, .int i_t_start, o_t_faultNumber, o_t_faultByte])), (a_t_text, .inl (cy 1, 500, .inl f_t_text))] H := hP
              have hD : va_D A [(a_t, .inr (5, [.ref a_t_text, o_t_length, .int i_t_place, .int i_t_start, o_t_faultNumber, o_t_faultByte])), (a_t_text, .inl (cy 1, 500, .inl f_t_text))] := hD
              refine lv_icmp_ge (tgt := 55) hx hb dX5_spells_25 (by decide) (fun c_17 => ?_) (fun c_17 => absurd c_17 (by decide))
              refine lv_iconst (v := 1) hx hb dX5_spells_55 (by decide) ?_
              have hf := Option.some.inj hf
              subst hf
              exact hret _ _ _ _ dX5_spells_56 rfl hP hS
            · have hf := hb_f hf c_16
              refine lv_iconst (v := 0) hx hb dX5_spells_47 (by decide) ?_
              have hf := Option.some.inj hf
              subst hf
              exact hret _ _ _ _ dX5_spells_48 rfl hP hS
          · have hf := hb_f hf c_13
            refine lv_iconst (v := 0) hx hb dX5_spells_47 (by decide) ?_
            have hf := Option.some.inj hf
            subst hf
            exact hret _ _ _ _ dX5_spells_48 rfl hP hS
        · have hf := hb_f hf c_10
          refine lv_iconst (v := 0) hx hb dX5_spells_47 (by decide) ?_
          have hf := Option.some.inj hf
          subst hf
          exact hret _ _ _ _ dX5_spells_48 rfl hP hS
      · have hf := hb_f hf c_7
        refine lv_iconst (v := 0) hx hb dX5_spells_47 (by decide) ?_
        have hf := Option.some.inj hf
        subst hf
        exact hret _ _ _ _ dX5_spells_48 rfl hP hS
    · have hf := hb_f hf c_4
      refine lv_iconst (v := 0) hx hb dX5_spells_47 (by decide) ?_
      have hf := Option.some.inj hf
      subst hf
      exact hret _ _ _ _ dX5_spells_48 rfl hP hS
  · have hf := hb_f hf c_1
    refine lv_iconst (v := 0) hx hb dX5_spells_16 (by decide) ?_
    have hf := Option.some.inj hf
    subst hf
    exact hret _ _ _ _ dX5_spells_17 rfl hP hS
abbrev rmX5_spells_pair : Room := { frames := 4, cells := 0, slots := 0, locals := 85 }
set_option maxRecDepth 100000 in
set_option maxHeartbeats 4000000 in
theorem c_X5_spells_pair (l : Launch) (D : va_G) (cy : Nat → ClassId) (a_t : Nat) (a_t_text : Nat) (o_t_length : Value) (o_t_faultNumber : Value) (o_t_faultByte : Value) (i_t_place : Int32) (i_t_start : Int32) (f_t_text : Nat → Int32) (rv : Int32) (hf : f_X5_spells_pair i_t_place i_t_start f_t_text = some rv) : MI l D cy yX5_spells wsX5_spells rmX5_spells_pair [.ref a_t, .ref (cy 103)] [(a_t, .inr (5, [.ref a_t_text, o_t_length, .int i_t_place, .int i_t_start, o_t_faultNumber, o_t_faultByte])), (a_t_text, .inl (cy 1, 500, .inl f_t_text))] [(a_t, .inr (5, [.ref a_t_text, o_t_length, .int i_t_place, .int i_t_start, o_t_faultNumber, o_t_faultByte])), (a_t_text, .inl (cy 1, 500, .inl f_t_text))] rv := by
  refine st_I (by decide) rfl (Nat.le_of_ble_eq_true rfl) (fun p e s m below meth c A Q ls C0 hA hK hP hD hS hl hret => ?_)
  obtain ⟨hx, hb, hr, hml, hown, hts, hlocks⟩ := id C0
  have hl : lv_has ls 3 [(0, .ref a_t), (1, .ref (cy 103))] := hl
  unfold f_X5_spells_pair at hf
  refine lv_aload_n hx hb dX5_spells_0 rfl (lv_at hl 0 rfl) ?_
  refine va_get (D := D) (ci := 5) (v := .int i_t_place) (C := RX5) (T := TX5) (N := 6) hx hb hts uX5_spells_X5 hown hK.1.1 hP 0 rfl rfl 2 (by decide) (hts _ mX5_spells_23) (fun _ h9 => h9) rfl dX5_spells_1 ?_
  refine lv_aload_n hx hb dX5_spells_4 rfl (lv_at hl 0 rfl) ?_
  refine va_get (D := D) (ci := 5) (v := .int i_t_start) (C := RX5) (T := TX5) (N := 6) hx hb hts uX5_spells_X5 hown hK.1.1 hP 0 rfl rfl 3 (by decide) (hts _ mX5_spells_121) (fun _ h9 => h9) rfl dX5_spells_5 ?_
  refine lv_isub hx hb dX5_spells_8 ?_
  refine lv_aload_n hx hb dX5_spells_9 rfl (lv_at hl 1 rfl) ?_
  refine cl_Ti (rest := [.int (i_t_place - i_t_start)]) [] [none, none] 2 C0 hK hP hD hS hA (c_J0_length l D cy 3 (by decide)) (cwV 0 hts gX5_spells_J0_length_8abf5 rfl rfl rfl (by decide +kernel) ⟨Nat.le_of_ble_eq_true rfl, Nat.le_of_ble_eq_true rfl⟩) rfl (by decide) rfl rfl rfl (vk_recv (adK := fun i => cy (100 + i)) (i := 3) hK.2.1 (by decide) hS) rfl hl.1 rfl (Nat.le_of_ble_eq_true rfl) dX5_spells_10 ⟨Nat.zero_le _, Nat.zero_le _⟩ (fun H locs hP hD hS => ?_)
  have hP : va_P D vwCl [(a_t, .inr (5, [.ref a_t_text, o_t_length, .int i_t_place, .int i_t_start, o_t_faultNumber, o_t_faultByte])), (a_t_text, .inl (cy 1, 500, .inl f_t_text))] H := hP
  have hD : va_D A [(a_t, .inr (5, [.ref a_t_text, o_t_length, .int i_t_place, .int i_t_start, o_t_faultNumber, o_t_faultByte])), (a_t_text, .inl (cy 1, 500, .inl f_t_text))] := hD
  refine lv_icmp_eq (tgt := 18) hx hb dX5_spells_13 (by decide) (fun c_1 => ?_) (fun c_1 => ?_)
  · have hf := hb_t hf c_1
    refine lv_iconst (v := 0) hx hb dX5_spells_18 (by decide) ?_
    refine lv_istore_n (lv' := [(2, .int 0), (0, .ref a_t), (1, .ref (cy 103))]) hx hb dX5_spells_19 rfl hl (by decide) rfl (fun ls hl => ?_)
    refine lv_iload_n hx hb dX5_spells_20 rfl (lv_at hl 0 rfl) ?_
    refine lv_aload_n hx hb dX5_spells_21 rfl (lv_at hl 2 rfl) ?_
    refine cl_Ti (rest := [.int 0]) [] [none, none] 2 C0 hK hP hD hS hA (c_J0_length l D cy 3 (by decide)) (cwV 0 hts gX5_spells_J0_length_8abf5 rfl rfl rfl (by decide +kernel) ⟨Nat.le_of_ble_eq_true rfl, Nat.le_of_ble_eq_true rfl⟩) rfl (by decide) rfl rfl rfl (vk_recv (adK := fun i => cy (100 + i)) (i := 3) hK.2.1 (by decide) hS) rfl hl.1 rfl (Nat.le_of_ble_eq_true rfl) dX5_spells_22 ⟨Nat.zero_le _, Nat.zero_le _⟩ (fun H locs hP hD hS => ?_)
    have hP : va_P D vwCl [(a_t, .inr (5, [.ref a_t_text, o_t_length, .int i_t_place, .int i_t_start, o_t_faultNumber, o_t_faultByte])), (a_t_text, .inl (cy 1, 500, .inl f_t_text))] H := hP
    have hD : va_D A [(a_t, .inr (5, [.ref a_t_text, o_t_length, .int i_t_place, .int i_t_start, o_t_faultNumber, o_t_faultByte])), (a_t_text, .inl (cy 1, 500, .inl f_t_text))] := hD
    refine lv_icmp_ge (tgt := 55) hx hb dX5_spells_25 (by decide) (fun c_2 => absurd c_2 (by decide)) (fun c_2 => ?_)
    refine lv_aload_n hx hb dX5_spells_28 rfl (lv_at hl 1 rfl) ?_
    refine va_get (D := D) (ci := 5) (v := .ref a_t_text) (C := RX5) (T := TX5) (N := 6) hx hb hts uX5_spells_X5 hown hK.1.1 hP 0 rfl rfl 0 (by decide) (hts _ mX5_spells_9) (fun _ h9 => h9) rfl dX5_spells_29 ?_
    refine lv_aload_n hx hb dX5_spells_32 rfl (lv_at hl 1 rfl) ?_
    refine va_get (D := D) (ci := 5) (v := .int i_t_start) (C := RX5) (T := TX5) (N := 6) hx hb hts uX5_spells_X5 hown hK.1.1 hP 0 rfl rfl 3 (by decide) (hts _ mX5_spells_121) (fun _ h9 => h9) rfl dX5_spells_33 ?_
    refine lv_iload_n hx hb dX5_spells_36 rfl (lv_at hl 0 rfl) ?_
    refine lv_iadd hx hb dX5_spells_37 ?_
    obtain ⟨hg_3, hf⟩ := hb_g hf
    refine va_bald hx hb hK.1.1 hP 1 1 rfl rfl (ixb_in hg_3) dX5_spells_38 ?_
    refine lv_aload_n hx hb dX5_spells_39 rfl (lv_at hl 2 rfl) ?_
    refine lv_iload_n hx hb dX5_spells_40 rfl (lv_at hl 0 rfl) ?_
    refine cl_Ti (As := [.int 0]) (rest := [.int (f_t_text ((i_t_start + 0) : Int32).toNatClampNeg)]) [] [none, none] 2 C0 hK hP hD hS hA (c_J0_charAt l D cy 3 (by decide) 0 (by decide)) (cwV 1 hts gX5_spells_J0_charAt_5068e rfl rfl rfl (by decide +kernel) ⟨Nat.le_of_ble_eq_true rfl, Nat.le_of_ble_eq_true rfl⟩) rfl (by decide) rfl rfl rfl (vk_recv (adK := fun i => cy (100 + i)) (i := 3) hK.2.1 (by decide) hS) rfl hl.1 rfl (Nat.le_of_ble_eq_true rfl) dX5_spells_41 ⟨Nat.zero_le _, Nat.zero_le _⟩ (fun H locs hP hD hS => ?_)
    have hP : va_P D vwCl [(a_t, .inr (5, [.ref a_t_text, o_t_length, .int i_t_place, .int i_t_start, o_t_faultNumber, o_t_faultByte])), (a_t_text, .inl (cy 1, 500, .inl f_t_text))] H := hP
    have hD : va_D A [(a_t, .inr (5, [.ref a_t_text, o_t_length, .int i_t_place, .int i_t_start, o_t_faultNumber, o_t_faultByte])), (a_t_text, .inl (cy 1, 500, .inl f_t_text))] := hD
    refine lv_icmp_eq (tgt := 49) hx hb dX5_spells_44 (by decide) (fun c_4 => ?_) (fun c_4 => ?_)
    · have hf := hb_t hf c_4
      refine lv_iinc (v := (0 + 1)) (lv' := [(2, .int (0 + 1)), (0, .ref a_t), (1, .ref (cy 103))]) hx hb dX5_spells_49 hl (k := 0) rfl rfl (by decide) rfl (fun ls hl => ?_)
      refine lv_goto (tgt := 20) hx hb dX5_spells_52 (by decide) ?_
      refine lv_iload_n hx hb dX5_spells_20 rfl (lv_at hl 0 rfl) ?_
      refine lv_aload_n hx hb dX5_spells_21 rfl (lv_at hl 2 rfl) ?_
      refine cl_Ti (rest := [.int (0 + 1)]) [] [none, none] 2 C0 hK hP hD hS hA (c_J0_length l D cy 3 (by decide)) (cwV 0 hts gX5_spells_J0_length_8abf5 rfl rfl rfl (by decide +kernel) ⟨Nat.le_of_ble_eq_true rfl, Nat.le_of_ble_eq_true rfl⟩) rfl (by decide) rfl rfl rfl (vk_recv (adK := fun i => cy (100 + i)) (i := 3) hK.2.1 (by decide) hS) rfl hl.1 rfl (Nat.le_of_ble_eq_true rfl) dX5_spells_22 ⟨Nat.zero_le _, Nat.zero_le _⟩ (fun H locs hP hD hS => ?_)
      have hP : va_P D vwCl [(a_t, .inr (5, [.ref a_t_text, o_t_length, .int i_t_place, .int i_t_start, o_t_faultNumber, o_t_faultByte])), (a_t_text, .inl (cy 1, 500, .inl f_t_text))] H := hP
      have hD : va_D A [(a_t, .inr (5, [.ref a_t_text, o_t_length, .int i_t_place, .int i_t_start, o_t_faultNumber, o_t_faultByte])), (a_t_text, .inl (cy 1, 500, .inl f_t_text))] := hD
      refine lv_icmp_ge (tgt := 55) hx hb dX5_spells_25 (by decide) (fun c_5 => absurd c_5 (by decide)) (fun c_5 => ?_)
      refine lv_aload_n hx hb dX5_spells_28 rfl (lv_at hl 1 rfl) ?_
      refine va_get (D := D) (ci := 5) (v := .ref a_t_text) (C := RX5) (T := TX5) (N := 6) hx hb hts uX5_spells_X5 hown hK.1.1 hP 0 rfl rfl 0 (by decide) (hts _ mX5_spells_9) (fun _ h9 => h9) rfl dX5_spells_29 ?_
      refine lv_aload_n hx hb dX5_spells_32 rfl (lv_at hl 1 rfl) ?_
      refine va_get (D := D) (ci := 5) (v := .int i_t_start) (C := RX5) (T := TX5) (N := 6) hx hb hts uX5_spells_X5 hown hK.1.1 hP 0 rfl rfl 3 (by decide) (hts _ mX5_spells_121) (fun _ h9 => h9) rfl dX5_spells_33 ?_
      refine lv_iload_n hx hb dX5_spells_36 rfl (lv_at hl 0 rfl) ?_
      refine lv_iadd hx hb dX5_spells_37 ?_
      obtain ⟨hg_6, hf⟩ := hb_g hf
      refine va_bald hx hb hK.1.1 hP 1 1 rfl rfl (ixb_in hg_6) dX5_spells_38 ?_
      refine lv_aload_n hx hb dX5_spells_39 rfl (lv_at hl 2 rfl) ?_
      refine lv_iload_n hx hb dX5_spells_40 rfl (lv_at hl 0 rfl) ?_
      refine cl_Ti (As := [.int (0 + 1)]) (rest := [.int (f_t_text ((i_t_start + (0 + 1)) : Int32).toNatClampNeg)]) [] [none, none] 2 C0 hK hP hD hS hA (c_J0_charAt l D cy 3 (by decide) 1 (by decide)) (cwV 1 hts gX5_spells_J0_charAt_5068e rfl rfl rfl (by decide +kernel) ⟨Nat.le_of_ble_eq_true rfl, Nat.le_of_ble_eq_true rfl⟩) rfl (by decide) rfl rfl rfl (vk_recv (adK := fun i => cy (100 + i)) (i := 3) hK.2.1 (by decide) hS) rfl hl.1 rfl (Nat.le_of_ble_eq_true rfl) dX5_spells_41 ⟨Nat.zero_le _, Nat.zero_le _⟩ (fun H locs hP hD hS => ?_)
      have hP : va_P D vwCl [(a_t, .inr (5, [.ref a_t_text, o_t_length, .int i_t_place, .int i_t_start, o_t_faultNumber, o_t_faultByte])), (a_t_text, .inl (cy 1, 500, .inl f_t_text))] H := hP
      have hD : va_D A [(a_t, .inr (5, [.ref a_t_text, o_t_length, .int i_t_place, .int i_t_start, o_t_faultNumber, o_t_faultByte])), (a_t_text, .inl (cy 1, 500, .inl f_t_text))] := hD
      refine lv_icmp_eq (tgt := 49) hx hb dX5_spells_44 (by decide) (fun c_7 => ?_) (fun c_7 => ?_)
      · have hf := hb_t hf c_7
        refine lv_iinc (v := ((0 + 1) + 1)) (lv' := [(2, .int ((0 + 1) + 1)), (0, .ref a_t), (1, .ref (cy 103))]) hx hb dX5_spells_49 hl (k := 0) rfl rfl (by decide) rfl (fun ls hl => ?_)
        refine lv_goto (tgt := 20) hx hb dX5_spells_52 (by decide) ?_
        refine lv_iload_n hx hb dX5_spells_20 rfl (lv_at hl 0 rfl) ?_
        refine lv_aload_n hx hb dX5_spells_21 rfl (lv_at hl 2 rfl) ?_
        refine cl_Ti (rest := [.int ((0 + 1) + 1)]) [] [none, none] 2 C0 hK hP hD hS hA (c_J0_length l D cy 3 (by decide)) (cwV 0 hts gX5_spells_J0_length_8abf5 rfl rfl rfl (by decide +kernel) ⟨Nat.le_of_ble_eq_true rfl, Nat.le_of_ble_eq_true rfl⟩) rfl (by decide) rfl rfl rfl (vk_recv (adK := fun i => cy (100 + i)) (i := 3) hK.2.1 (by decide) hS) rfl hl.1 rfl (Nat.le_of_ble_eq_true rfl) dX5_spells_22 ⟨Nat.zero_le _, Nat.zero_le _⟩ (fun H locs hP hD hS => ?_)
        have hP : va_P D vwCl [(a_t, .inr (5, [.ref a_t_text, o_t_length, .int i_t_place, .int i_t_start, o_t_faultNumber, o_t_faultByte])), (a_t_text, .inl (cy 1, 500, .inl f_t_text))] H := hP
        have hD : va_D A [(a_t, .inr (5, [.ref a_t_text, o_t_length, .int i_t_place, .int i_t_start, o_t_faultNumber, o_t_faultByte])), (a_t_text, .inl (cy 1, 500, .inl f_t_text))] := hD
        refine lv_icmp_ge (tgt := 55) hx hb dX5_spells_25 (by decide) (fun c_8 => absurd c_8 (by decide)) (fun c_8 => ?_)
        refine lv_aload_n hx hb dX5_spells_28 rfl (lv_at hl 1 rfl) ?_
        refine va_get (D := D) (ci := 5) (v := .ref a_t_text) (C := RX5) (T := TX5) (N := 6) hx hb hts uX5_spells_X5 hown hK.1.1 hP 0 rfl rfl 0 (by decide) (hts _ mX5_spells_9) (fun _ h9 => h9) rfl dX5_spells_29 ?_
        refine lv_aload_n hx hb dX5_spells_32 rfl (lv_at hl 1 rfl) ?_
        refine va_get (D := D) (ci := 5) (v := .int i_t_start) (C := RX5) (T := TX5) (N := 6) hx hb hts uX5_spells_X5 hown hK.1.1 hP 0 rfl rfl 3 (by decide) (hts _ mX5_spells_121) (fun _ h9 => h9) rfl dX5_spells_33 ?_
        refine lv_iload_n hx hb dX5_spells_36 rfl (lv_at hl 0 rfl) ?_
        refine lv_iadd hx hb dX5_spells_37 ?_
        obtain ⟨hg_9, hf⟩ := hb_g hf
        refine va_bald hx hb hK.1.1 hP 1 1 rfl rfl (ixb_in hg_9) dX5_spells_38 ?_
        refine lv_aload_n hx hb dX5_spells_39 rfl (lv_at hl 2 rfl) ?_
        refine lv_iload_n hx hb dX5_spells_40 rfl (lv_at hl 0 rfl) ?_
        refine cl_Ti (As := [.int ((0 + 1) + 1)]) (rest := [.int (f_t_text ((i_t_start + ((0 + 1) + 1)) : Int32).toNatClampNeg)]) [] [none, none] 2 C0 hK hP hD hS hA (c_J0_charAt l D cy 3 (by decide) 2 (by decide)) (cwV 1 hts gX5_spells_J0_charAt_5068e rfl rfl rfl (by decide +kernel) ⟨Nat.le_of_ble_eq_true rfl, Nat.le_of_ble_eq_true rfl⟩) rfl (by decide) rfl rfl rfl (vk_recv (adK := fun i => cy (100 + i)) (i := 3) hK.2.1 (by decide) hS) rfl hl.1 rfl (Nat.le_of_ble_eq_true rfl) dX5_spells_41 ⟨Nat.zero_le _, Nat.zero_le _⟩ (fun H locs hP hD hS => ?_)
        have hP : va_P D vwCl [(a_t, .inr (5, [.ref a_t_text, o_t_length, .int i_t_place, .int i_t_start, o_t_faultNumber, o_t_faultByte])), (a_t_text, .inl (cy 1, 500, .inl f_t_text))] H := hP
        have hD : va_D A [(a_t, .inr (5, [.ref a_t_text, o_t_length, .int i_t_place, .int i_t_start, o_t_faultNumber, o_t_faultByte])), (a_t_text, .inl (cy 1, 500, .inl f_t_text))] := hD
        refine lv_icmp_eq (tgt := 49) hx hb dX5_spells_44 (by decide) (fun c_10 => ?_) (fun c_10 => ?_)
        · have hf := hb_t hf c_10
          refine lv_iinc (v := (((0 + 1) + 1) + 1)) (lv' := [(2, .int (((0 + 1) + 1) + 1)), (0, .ref a_t), (1, .ref (cy 103))]) hx hb dX5_spells_49 hl (k := 0) rfl rfl (by decide) rfl (fun ls hl => ?_)
          refine lv_goto (tgt := 20) hx hb dX5_spells_52 (by decide) ?_
          refine lv_iload_n hx hb dX5_spells_20 rfl (lv_at hl 0 rfl) ?_
          refine lv_aload_n hx hb dX5_spells_21 rfl (lv_at hl 2 rfl) ?_
          refine cl_Ti (rest := [.int (((0 + 1) + 1) + 1)]) [] [none, none] 2 C0 hK hP hD hS hA (c_J0_length l D cy 3 (by decide)) (cwV 0 hts gX5_spells_J0_length_8abf5 rfl rfl rfl (by decide +kernel) ⟨Nat.le_of_ble_eq_true rfl, Nat.le_of_ble_eq_true rfl⟩) rfl (by decide) rfl rfl rfl (vk_recv (adK := fun i => cy (100 + i)) (i := 3) hK.2.1 (by decide) hS) rfl hl.1 rfl (Nat.le_of_ble_eq_true rfl) dX5_spells_22 ⟨Nat.zero_le _, Nat.zero_le _⟩ (fun H locs hP hD hS => ?_)
          have hP : va_P D vwCl [(a_t, .inr (5, [.ref a_t_text, o_t_length, .int i_t_place, .int i_t_start, o_t_faultNumber, o_t_faultByte])), (a_t_text, .inl (cy 1, 500, .inl f_t_text))] H := hP
          have hD : va_D A [(a_t, .inr (5, [.ref a_t_text, o_t_length, .int i_t_place, .int i_t_start, o_t_faultNumber, o_t_faultByte])), (a_t_text, .inl (cy 1, 500, .inl f_t_text))] := hD
          refine lv_icmp_ge (tgt := 55) hx hb dX5_spells_25 (by decide) (fun c_11 => absurd c_11 (by decide)) (fun c_11 => ?_)
          refine lv_aload_n hx hb dX5_spells_28 rfl (lv_at hl 1 rfl) ?_
          refine va_get (D := D) (ci := 5) (v := .ref a_t_text) (C := RX5) (T := TX5) (N := 6) hx hb hts uX5_spells_X5 hown hK.1.1 hP 0 rfl rfl 0 (by decide) (hts _ mX5_spells_9) (fun _ h9 => h9) rfl dX5_spells_29 ?_
          refine lv_aload_n hx hb dX5_spells_32 rfl (lv_at hl 1 rfl) ?_
          refine va_get (D := D) (ci := 5) (v := .int i_t_start) (C := RX5) (T := TX5) (N := 6) hx hb hts uX5_spells_X5 hown hK.1.1 hP 0 rfl rfl 3 (by decide) (hts _ mX5_spells_121) (fun _ h9 => h9) rfl dX5_spells_33 ?_
          refine lv_iload_n hx hb dX5_spells_36 rfl (lv_at hl 0 rfl) ?_
          refine lv_iadd hx hb dX5_spells_37 ?_
          obtain ⟨hg_12, hf⟩ := hb_g hf
          refine va_bald hx hb hK.1.1 hP 1 1 rfl rfl (ixb_in hg_12) dX5_spells_38 ?_
          refine lv_aload_n hx hb dX5_spells_39 rfl (lv_at hl 2 rfl) ?_
          refine lv_iload_n hx hb dX5_spells_40 rfl (lv_at hl 0 rfl) ?_
          refine cl_Ti (As := [.int (((0 + 1) + 1) + 1)]) (rest := [.int (f_t_text ((i_t_start + (((0 + 1) + 1) + 1)) : Int32).toNatClampNeg)]) [] [none, none] 2 C0 hK hP hD hS hA (c_J0_charAt l D cy 3 (by decide) 3 (by decide)) (cwV 1 hts gX5_spells_J0_charAt_5068e rfl rfl rfl (by decide +kernel) ⟨Nat.le_of_ble_eq_true rfl, Nat.le_of_ble_eq_true rfl⟩) rfl (by decide) rfl rfl rfl (vk_recv (adK := fun i => cy (100 + i)) (i := 3) hK.2.1 (by decide) hS) rfl hl.1 rfl (Nat.le_of_ble_eq_true rfl) dX5_spells_41 ⟨Nat.zero_le _, Nat.zero_le _⟩ (fun H locs hP hD hS => ?_)
          have hP : va_P D vwCl [(a_t, .inr (5, [.ref a_t_text, o_t_length, .int i_t_place, .int i_t_start, o_t_faultNumber, o_t_faultByte])), (a_t_text, .inl (cy 1, 500, .inl f_t_text))] H := hP
          have hD : va_D A [(a_t, .inr (5, [.ref a_t_text, o_t_length, .int i_t_place, .int i_t_start, o_t_faultNumber, o_t_faultByte])), (a_t_text, .inl (cy 1, 500, .inl f_t_text))] := hD
          refine lv_icmp_eq (tgt := 49) hx hb dX5_spells_44 (by decide) (fun c_13 => ?_) (fun c_13 => ?_)
          · have hf := hb_t hf c_13
            refine lv_iinc (v := ((((0 + 1) + 1) + 1) + 1)) (lv' := [(2, .int ((((0 + 1) + 1) + 1) + 1)), (0, .ref a_t), (1, .ref (cy 103))]) hx hb dX5_spells_49 hl (k := 0) rfl rfl (by decide) rfl (fun ls hl => ?_)
            refine lv_goto (tgt := 20) hx hb dX5_spells_52 (by decide) ?_
            refine lv_iload_n hx hb dX5_spells_20 rfl (lv_at hl 0 rfl) ?_
            refine lv_aload_n hx hb dX5_spells_21 rfl (lv_at hl 2 rfl) ?_
            refine cl_Ti (rest := [.int ((((0 + 1) + 1) + 1) + 1)]) [] [none, none] 2 C0 hK hP hD hS hA (c_J0_length l D cy 3 (by decide)) (cwV 0 hts gX5_spells_J0_length_8abf5 rfl rfl rfl (by decide +kernel) ⟨Nat.le_of_ble_eq_true rfl, Nat.le_of_ble_eq_true rfl⟩) rfl (by decide) rfl rfl rfl (vk_recv (adK := fun i => cy (100 + i)) (i := 3) hK.2.1 (by decide) hS) rfl hl.1 rfl (Nat.le_of_ble_eq_true rfl) dX5_spells_22 ⟨Nat.zero_le _, Nat.zero_le _⟩ (fun H locs hP hD hS => ?_)
            have hP : va_P D vwCl [(a_t, .inr (5, [.ref a_t_text, o_t_length, .int i_t_place, .int i_t_start, o_t_faultNumber, o_t_faultByte])), (a_t_text, .inl (cy 1, 500, .inl f_t_text))] H := hP
            have hD : va_D A [(a_t, .inr (5, [.ref a_t_text, o_t_length, .int i_t_place, .int i_t_start, o_t_faultNumber, o_t_faultByte])), (a_t_text, .inl (cy 1, 500, .inl f_t_text))] := hD
            refine lv_icmp_ge (tgt := 55) hx hb dX5_spells_25 (by decide) (fun c_14 => ?_) (fun c_14 => absurd c_14 (by decide))
            refine lv_iconst (v := 1) hx hb dX5_spells_55 (by decide) ?_
            have hf := Option.some.inj hf
            subst hf
            exact hret _ _ _ _ dX5_spells_56 rfl hP hS
          · have hf := hb_f hf c_13
            refine lv_iconst (v := 0) hx hb dX5_spells_47 (by decide) ?_
            have hf := Option.some.inj hf
            subst hf
            exact hret _ _ _ _ dX5_spells_48 rfl hP hS
        · have hf := hb_f hf c_10
          refine lv_iconst (v := 0) hx hb dX5_spells_47 (by decide) ?_
          have hf := Option.some.inj hf
          subst hf
          exact hret _ _ _ _ dX5_spells_48 rfl hP hS
      · have hf := hb_f hf c_7
        refine lv_iconst (v := 0) hx hb dX5_spells_47 (by decide) ?_
        have hf := Option.some.inj hf
        subst hf
        exact hret _ _ _ _ dX5_spells_48 rfl hP hS
    · have hf := hb_f hf c_4
      refine lv_iconst (v := 0) hx hb dX5_spells_47 (by decide) ?_
      have hf := Option.some.inj hf
      subst hf
      exact hret _ _ _ _ dX5_spells_48 rfl hP hS
  · have hf := hb_f hf c_1
    refine lv_iconst (v := 0) hx hb dX5_spells_16 (by decide) ?_
    have hf := Option.some.inj hf
    subst hf
    exact hret _ _ _ _ dX5_spells_17 rfl hP hS
abbrev rmX5_spells_letter : Room := { frames := 4, cells := 0, slots := 0, locals := 85 }
set_option maxRecDepth 100000 in
set_option maxHeartbeats 4000000 in
theorem c_X5_spells_letter (l : Launch) (D : va_G) (cy : Nat → ClassId) (a_t : Nat) (a_t_text : Nat) (o_t_length : Value) (o_t_faultNumber : Value) (o_t_faultByte : Value) (i_t_place : Int32) (i_t_start : Int32) (f_t_text : Nat → Int32) (rv : Int32) (hf : f_X5_spells_letter i_t_place i_t_start f_t_text = some rv) : MI l D cy yX5_spells wsX5_spells rmX5_spells_letter [.ref a_t, .ref (cy 100)] [(a_t, .inr (5, [.ref a_t_text, o_t_length, .int i_t_place, .int i_t_start, o_t_faultNumber, o_t_faultByte])), (a_t_text, .inl (cy 1, 500, .inl f_t_text))] [(a_t, .inr (5, [.ref a_t_text, o_t_length, .int i_t_place, .int i_t_start, o_t_faultNumber, o_t_faultByte])), (a_t_text, .inl (cy 1, 500, .inl f_t_text))] rv := by
  refine st_I (by decide) rfl (Nat.le_of_ble_eq_true rfl) (fun p e s m below meth c A Q ls C0 hA hK hP hD hS hl hret => ?_)
  obtain ⟨hx, hb, hr, hml, hown, hts, hlocks⟩ := id C0
  have hl : lv_has ls 3 [(0, .ref a_t), (1, .ref (cy 100))] := hl
  unfold f_X5_spells_letter at hf
  refine lv_aload_n hx hb dX5_spells_0 rfl (lv_at hl 0 rfl) ?_
  refine va_get (D := D) (ci := 5) (v := .int i_t_place) (C := RX5) (T := TX5) (N := 6) hx hb hts uX5_spells_X5 hown hK.1.1 hP 0 rfl rfl 2 (by decide) (hts _ mX5_spells_23) (fun _ h9 => h9) rfl dX5_spells_1 ?_
  refine lv_aload_n hx hb dX5_spells_4 rfl (lv_at hl 0 rfl) ?_
  refine va_get (D := D) (ci := 5) (v := .int i_t_start) (C := RX5) (T := TX5) (N := 6) hx hb hts uX5_spells_X5 hown hK.1.1 hP 0 rfl rfl 3 (by decide) (hts _ mX5_spells_121) (fun _ h9 => h9) rfl dX5_spells_5 ?_
  refine lv_isub hx hb dX5_spells_8 ?_
  refine lv_aload_n hx hb dX5_spells_9 rfl (lv_at hl 1 rfl) ?_
  refine cl_Ti (rest := [.int (i_t_place - i_t_start)]) [] [none, none] 2 C0 hK hP hD hS hA (c_J0_length l D cy 0 (by decide)) (cwV 0 hts gX5_spells_J0_length_8abf5 rfl rfl rfl (by decide +kernel) ⟨Nat.le_of_ble_eq_true rfl, Nat.le_of_ble_eq_true rfl⟩) rfl (by decide) rfl rfl rfl (vk_recv (adK := fun i => cy (100 + i)) (i := 0) hK.2.1 (by decide) hS) rfl hl.1 rfl (Nat.le_of_ble_eq_true rfl) dX5_spells_10 ⟨Nat.zero_le _, Nat.zero_le _⟩ (fun H locs hP hD hS => ?_)
  have hP : va_P D vwCl [(a_t, .inr (5, [.ref a_t_text, o_t_length, .int i_t_place, .int i_t_start, o_t_faultNumber, o_t_faultByte])), (a_t_text, .inl (cy 1, 500, .inl f_t_text))] H := hP
  have hD : va_D A [(a_t, .inr (5, [.ref a_t_text, o_t_length, .int i_t_place, .int i_t_start, o_t_faultNumber, o_t_faultByte])), (a_t_text, .inl (cy 1, 500, .inl f_t_text))] := hD
  refine lv_icmp_eq (tgt := 18) hx hb dX5_spells_13 (by decide) (fun c_1 => ?_) (fun c_1 => ?_)
  · have hf := hb_t hf c_1
    refine lv_iconst (v := 0) hx hb dX5_spells_18 (by decide) ?_
    refine lv_istore_n (lv' := [(2, .int 0), (0, .ref a_t), (1, .ref (cy 100))]) hx hb dX5_spells_19 rfl hl (by decide) rfl (fun ls hl => ?_)
    refine lv_iload_n hx hb dX5_spells_20 rfl (lv_at hl 0 rfl) ?_
    refine lv_aload_n hx hb dX5_spells_21 rfl (lv_at hl 2 rfl) ?_
    refine cl_Ti (rest := [.int 0]) [] [none, none] 2 C0 hK hP hD hS hA (c_J0_length l D cy 0 (by decide)) (cwV 0 hts gX5_spells_J0_length_8abf5 rfl rfl rfl (by decide +kernel) ⟨Nat.le_of_ble_eq_true rfl, Nat.le_of_ble_eq_true rfl⟩) rfl (by decide) rfl rfl rfl (vk_recv (adK := fun i => cy (100 + i)) (i := 0) hK.2.1 (by decide) hS) rfl hl.1 rfl (Nat.le_of_ble_eq_true rfl) dX5_spells_22 ⟨Nat.zero_le _, Nat.zero_le _⟩ (fun H locs hP hD hS => ?_)
    have hP : va_P D vwCl [(a_t, .inr (5, [.ref a_t_text, o_t_length, .int i_t_place, .int i_t_start, o_t_faultNumber, o_t_faultByte])), (a_t_text, .inl (cy 1, 500, .inl f_t_text))] H := hP
    have hD : va_D A [(a_t, .inr (5, [.ref a_t_text, o_t_length, .int i_t_place, .int i_t_start, o_t_faultNumber, o_t_faultByte])), (a_t_text, .inl (cy 1, 500, .inl f_t_text))] := hD
    refine lv_icmp_ge (tgt := 55) hx hb dX5_spells_25 (by decide) (fun c_2 => absurd c_2 (by decide)) (fun c_2 => ?_)
    refine lv_aload_n hx hb dX5_spells_28 rfl (lv_at hl 1 rfl) ?_
    refine va_get (D := D) (ci := 5) (v := .ref a_t_text) (C := RX5) (T := TX5) (N := 6) hx hb hts uX5_spells_X5 hown hK.1.1 hP 0 rfl rfl 0 (by decide) (hts _ mX5_spells_9) (fun _ h9 => h9) rfl dX5_spells_29 ?_
    refine lv_aload_n hx hb dX5_spells_32 rfl (lv_at hl 1 rfl) ?_
    refine va_get (D := D) (ci := 5) (v := .int i_t_start) (C := RX5) (T := TX5) (N := 6) hx hb hts uX5_spells_X5 hown hK.1.1 hP 0 rfl rfl 3 (by decide) (hts _ mX5_spells_121) (fun _ h9 => h9) rfl dX5_spells_33 ?_
    refine lv_iload_n hx hb dX5_spells_36 rfl (lv_at hl 0 rfl) ?_
    refine lv_iadd hx hb dX5_spells_37 ?_
    obtain ⟨hg_3, hf⟩ := hb_g hf
    refine va_bald hx hb hK.1.1 hP 1 1 rfl rfl (ixb_in hg_3) dX5_spells_38 ?_
    refine lv_aload_n hx hb dX5_spells_39 rfl (lv_at hl 2 rfl) ?_
    refine lv_iload_n hx hb dX5_spells_40 rfl (lv_at hl 0 rfl) ?_
    refine cl_Ti (As := [.int 0]) (rest := [.int (f_t_text ((i_t_start + 0) : Int32).toNatClampNeg)]) [] [none, none] 2 C0 hK hP hD hS hA (c_J0_charAt l D cy 0 (by decide) 0 (by decide)) (cwV 1 hts gX5_spells_J0_charAt_5068e rfl rfl rfl (by decide +kernel) ⟨Nat.le_of_ble_eq_true rfl, Nat.le_of_ble_eq_true rfl⟩) rfl (by decide) rfl rfl rfl (vk_recv (adK := fun i => cy (100 + i)) (i := 0) hK.2.1 (by decide) hS) rfl hl.1 rfl (Nat.le_of_ble_eq_true rfl) dX5_spells_41 ⟨Nat.zero_le _, Nat.zero_le _⟩ (fun H locs hP hD hS => ?_)
    have hP : va_P D vwCl [(a_t, .inr (5, [.ref a_t_text, o_t_length, .int i_t_place, .int i_t_start, o_t_faultNumber, o_t_faultByte])), (a_t_text, .inl (cy 1, 500, .inl f_t_text))] H := hP
    have hD : va_D A [(a_t, .inr (5, [.ref a_t_text, o_t_length, .int i_t_place, .int i_t_start, o_t_faultNumber, o_t_faultByte])), (a_t_text, .inl (cy 1, 500, .inl f_t_text))] := hD
    refine lv_icmp_eq (tgt := 49) hx hb dX5_spells_44 (by decide) (fun c_4 => ?_) (fun c_4 => ?_)
    · have hf := hb_t hf c_4
      refine lv_iinc (v := (0 + 1)) (lv' := [(2, .int (0 + 1)), (0, .ref a_t), (1, .ref (cy 100))]) hx hb dX5_spells_49 hl (k := 0) rfl rfl (by decide) rfl (fun ls hl => ?_)
      refine lv_goto (tgt := 20) hx hb dX5_spells_52 (by decide) ?_
      refine lv_iload_n hx hb dX5_spells_20 rfl (lv_at hl 0 rfl) ?_
      refine lv_aload_n hx hb dX5_spells_21 rfl (lv_at hl 2 rfl) ?_
      refine cl_Ti (rest := [.int (0 + 1)]) [] [none, none] 2 C0 hK hP hD hS hA (c_J0_length l D cy 0 (by decide)) (cwV 0 hts gX5_spells_J0_length_8abf5 rfl rfl rfl (by decide +kernel) ⟨Nat.le_of_ble_eq_true rfl, Nat.le_of_ble_eq_true rfl⟩) rfl (by decide) rfl rfl rfl (vk_recv (adK := fun i => cy (100 + i)) (i := 0) hK.2.1 (by decide) hS) rfl hl.1 rfl (Nat.le_of_ble_eq_true rfl) dX5_spells_22 ⟨Nat.zero_le _, Nat.zero_le _⟩ (fun H locs hP hD hS => ?_)
      have hP : va_P D vwCl [(a_t, .inr (5, [.ref a_t_text, o_t_length, .int i_t_place, .int i_t_start, o_t_faultNumber, o_t_faultByte])), (a_t_text, .inl (cy 1, 500, .inl f_t_text))] H := hP
      have hD : va_D A [(a_t, .inr (5, [.ref a_t_text, o_t_length, .int i_t_place, .int i_t_start, o_t_faultNumber, o_t_faultByte])), (a_t_text, .inl (cy 1, 500, .inl f_t_text))] := hD
      refine lv_icmp_ge (tgt := 55) hx hb dX5_spells_25 (by decide) (fun c_5 => absurd c_5 (by decide)) (fun c_5 => ?_)
      refine lv_aload_n hx hb dX5_spells_28 rfl (lv_at hl 1 rfl) ?_
      refine va_get (D := D) (ci := 5) (v := .ref a_t_text) (C := RX5) (T := TX5) (N := 6) hx hb hts uX5_spells_X5 hown hK.1.1 hP 0 rfl rfl 0 (by decide) (hts _ mX5_spells_9) (fun _ h9 => h9) rfl dX5_spells_29 ?_
      refine lv_aload_n hx hb dX5_spells_32 rfl (lv_at hl 1 rfl) ?_
      refine va_get (D := D) (ci := 5) (v := .int i_t_start) (C := RX5) (T := TX5) (N := 6) hx hb hts uX5_spells_X5 hown hK.1.1 hP 0 rfl rfl 3 (by decide) (hts _ mX5_spells_121) (fun _ h9 => h9) rfl dX5_spells_33 ?_
      refine lv_iload_n hx hb dX5_spells_36 rfl (lv_at hl 0 rfl) ?_
      refine lv_iadd hx hb dX5_spells_37 ?_
      obtain ⟨hg_6, hf⟩ := hb_g hf
      refine va_bald hx hb hK.1.1 hP 1 1 rfl rfl (ixb_in hg_6) dX5_spells_38 ?_
      refine lv_aload_n hx hb dX5_spells_39 rfl (lv_at hl 2 rfl) ?_
      refine lv_iload_n hx hb dX5_spells_40 rfl (lv_at hl 0 rfl) ?_
      refine cl_Ti (As := [.int (0 + 1)]) (rest := [.int (f_t_text ((i_t_start + (0 + 1)) : Int32).toNatClampNeg)]) [] [none, none] 2 C0 hK hP hD hS hA (c_J0_charAt l D cy 0 (by decide) 1 (by decide)) (cwV 1 hts gX5_spells_J0_charAt_5068e rfl rfl rfl (by decide +kernel) ⟨Nat.le_of_ble_eq_true rfl, Nat.le_of_ble_eq_true rfl⟩) rfl (by decide) rfl rfl rfl (vk_recv (adK := fun i => cy (100 + i)) (i := 0) hK.2.1 (by decide) hS) rfl hl.1 rfl (Nat.le_of_ble_eq_true rfl) dX5_spells_41 ⟨Nat.zero_le _, Nat.zero_le _⟩ (fun H locs hP hD hS => ?_)
      have hP : va_P D vwCl [(a_t, .inr (5, [.ref a_t_text, o_t_length, .int i_t_place, .int i_t_start, o_t_faultNumber, o_t_faultByte])), (a_t_text, .inl (cy 1, 500, .inl f_t_text))] H := hP
      have hD : va_D A [(a_t, .inr (5, [.ref a_t_text, o_t_length, .int i_t_place, .int i_t_start, o_t_faultNumber, o_t_faultByte])), (a_t_text, .inl (cy 1, 500, .inl f_t_text))] := hD
      refine lv_icmp_eq (tgt := 49) hx hb dX5_spells_44 (by decide) (fun c_7 => ?_) (fun c_7 => ?_)
      · have hf := hb_t hf c_7
        refine lv_iinc (v := ((0 + 1) + 1)) (lv' := [(2, .int ((0 + 1) + 1)), (0, .ref a_t), (1, .ref (cy 100))]) hx hb dX5_spells_49 hl (k := 0) rfl rfl (by decide) rfl (fun ls hl => ?_)
        refine lv_goto (tgt := 20) hx hb dX5_spells_52 (by decide) ?_
        refine lv_iload_n hx hb dX5_spells_20 rfl (lv_at hl 0 rfl) ?_
        refine lv_aload_n hx hb dX5_spells_21 rfl (lv_at hl 2 rfl) ?_
        refine cl_Ti (rest := [.int ((0 + 1) + 1)]) [] [none, none] 2 C0 hK hP hD hS hA (c_J0_length l D cy 0 (by decide)) (cwV 0 hts gX5_spells_J0_length_8abf5 rfl rfl rfl (by decide +kernel) ⟨Nat.le_of_ble_eq_true rfl, Nat.le_of_ble_eq_true rfl⟩) rfl (by decide) rfl rfl rfl (vk_recv (adK := fun i => cy (100 + i)) (i := 0) hK.2.1 (by decide) hS) rfl hl.1 rfl (Nat.le_of_ble_eq_true rfl) dX5_spells_22 ⟨Nat.zero_le _, Nat.zero_le _⟩ (fun H locs hP hD hS => ?_)
        have hP : va_P D vwCl [(a_t, .inr (5, [.ref a_t_text, o_t_length, .int i_t_place, .int i_t_start, o_t_faultNumber, o_t_faultByte])), (a_t_text, .inl (cy 1, 500, .inl f_t_text))] H := hP
        have hD : va_D A [(a_t, .inr (5, [.ref a_t_text, o_t_length, .int i_t_place, .int i_t_start, o_t_faultNumber, o_t_faultByte])), (a_t_text, .inl (cy 1, 500, .inl f_t_text))] := hD
        refine lv_icmp_ge (tgt := 55) hx hb dX5_spells_25 (by decide) (fun c_8 => absurd c_8 (by decide)) (fun c_8 => ?_)
        refine lv_aload_n hx hb dX5_spells_28 rfl (lv_at hl 1 rfl) ?_
        refine va_get (D := D) (ci := 5) (v := .ref a_t_text) (C := RX5) (T := TX5) (N := 6) hx hb hts uX5_spells_X5 hown hK.1.1 hP 0 rfl rfl 0 (by decide) (hts _ mX5_spells_9) (fun _ h9 => h9) rfl dX5_spells_29 ?_
        refine lv_aload_n hx hb dX5_spells_32 rfl (lv_at hl 1 rfl) ?_
        refine va_get (D := D) (ci := 5) (v := .int i_t_start) (C := RX5) (T := TX5) (N := 6) hx hb hts uX5_spells_X5 hown hK.1.1 hP 0 rfl rfl 3 (by decide) (hts _ mX5_spells_121) (fun _ h9 => h9) rfl dX5_spells_33 ?_
        refine lv_iload_n hx hb dX5_spells_36 rfl (lv_at hl 0 rfl) ?_
        refine lv_iadd hx hb dX5_spells_37 ?_
        obtain ⟨hg_9, hf⟩ := hb_g hf
        refine va_bald hx hb hK.1.1 hP 1 1 rfl rfl (ixb_in hg_9) dX5_spells_38 ?_
        refine lv_aload_n hx hb dX5_spells_39 rfl (lv_at hl 2 rfl) ?_
        refine lv_iload_n hx hb dX5_spells_40 rfl (lv_at hl 0 rfl) ?_
        refine cl_Ti (As := [.int ((0 + 1) + 1)]) (rest := [.int (f_t_text ((i_t_start + ((0 + 1) + 1)) : Int32).toNatClampNeg)]) [] [none, none] 2 C0 hK hP hD hS hA (c_J0_charAt l D cy 0 (by decide) 2 (by decide)) (cwV 1 hts gX5_spells_J0_charAt_5068e rfl rfl rfl (by decide +kernel) ⟨Nat.le_of_ble_eq_true rfl, Nat.le_of_ble_eq_true rfl⟩) rfl (by decide) rfl rfl rfl (vk_recv (adK := fun i => cy (100 + i)) (i := 0) hK.2.1 (by decide) hS) rfl hl.1 rfl (Nat.le_of_ble_eq_true rfl) dX5_spells_41 ⟨Nat.zero_le _, Nat.zero_le _⟩ (fun H locs hP hD hS => ?_)
        have hP : va_P D vwCl [(a_t, .inr (5, [.ref a_t_text, o_t_length, .int i_t_place, .int i_t_start, o_t_faultNumber, o_t_faultByte])), (a_t_text, .inl (cy 1, 500, .inl f_t_text))] H := hP
        have hD : va_D A [(a_t, .inr (5, [.ref a_t_text, o_t_length, .int i_t_place, .int i_t_start, o_t_faultNumber, o_t_faultByte])), (a_t_text, .inl (cy 1, 500, .inl f_t_text))] := hD
        refine lv_icmp_eq (tgt := 49) hx hb dX5_spells_44 (by decide) (fun c_10 => ?_) (fun c_10 => ?_)
        · have hf := hb_t hf c_10
          refine lv_iinc (v := (((0 + 1) + 1) + 1)) (lv' := [(2, .int (((0 + 1) + 1) + 1)), (0, .ref a_t), (1, .ref (cy 100))]) hx hb dX5_spells_49 hl (k := 0) rfl rfl (by decide) rfl (fun ls hl => ?_)
          refine lv_goto (tgt := 20) hx hb dX5_spells_52 (by decide) ?_
          refine lv_iload_n hx hb dX5_spells_20 rfl (lv_at hl 0 rfl) ?_
          refine lv_aload_n hx hb dX5_spells_21 rfl (lv_at hl 2 rfl) ?_
          refine cl_Ti (rest := [.int (((0 + 1) + 1) + 1)]) [] [none, none] 2 C0 hK hP hD hS hA (c_J0_length l D cy 0 (by decide)) (cwV 0 hts gX5_spells_J0_length_8abf5 rfl rfl rfl (by decide +kernel) ⟨Nat.le_of_ble_eq_true rfl, Nat.le_of_ble_eq_true rfl⟩) rfl (by decide) rfl rfl rfl (vk_recv (adK := fun i => cy (100 + i)) (i := 0) hK.2.1 (by decide) hS) rfl hl.1 rfl (Nat.le_of_ble_eq_true rfl) dX5_spells_22 ⟨Nat.zero_le _, Nat.zero_le _⟩ (fun H locs hP hD hS => ?_)
          have hP : va_P D vwCl [(a_t, .inr (5, [.ref a_t_text, o_t_length, .int i_t_place, .int i_t_start, o_t_faultNumber, o_t_faultByte])), (a_t_text, .inl (cy 1, 500, .inl f_t_text))] H := hP
          have hD : va_D A [(a_t, .inr (5, [.ref a_t_text, o_t_length, .int i_t_place, .int i_t_start, o_t_faultNumber, o_t_faultByte])), (a_t_text, .inl (cy 1, 500, .inl f_t_text))] := hD
          refine lv_icmp_ge (tgt := 55) hx hb dX5_spells_25 (by decide) (fun c_11 => absurd c_11 (by decide)) (fun c_11 => ?_)
          refine lv_aload_n hx hb dX5_spells_28 rfl (lv_at hl 1 rfl) ?_
          refine va_get (D := D) (ci := 5) (v := .ref a_t_text) (C := RX5) (T := TX5) (N := 6) hx hb hts uX5_spells_X5 hown hK.1.1 hP 0 rfl rfl 0 (by decide) (hts _ mX5_spells_9) (fun _ h9 => h9) rfl dX5_spells_29 ?_
          refine lv_aload_n hx hb dX5_spells_32 rfl (lv_at hl 1 rfl) ?_
          refine va_get (D := D) (ci := 5) (v := .int i_t_start) (C := RX5) (T := TX5) (N := 6) hx hb hts uX5_spells_X5 hown hK.1.1 hP 0 rfl rfl 3 (by decide) (hts _ mX5_spells_121) (fun _ h9 => h9) rfl dX5_spells_33 ?_
          refine lv_iload_n hx hb dX5_spells_36 rfl (lv_at hl 0 rfl) ?_
          refine lv_iadd hx hb dX5_spells_37 ?_
          obtain ⟨hg_12, hf⟩ := hb_g hf
          refine va_bald hx hb hK.1.1 hP 1 1 rfl rfl (ixb_in hg_12) dX5_spells_38 ?_
          refine lv_aload_n hx hb dX5_spells_39 rfl (lv_at hl 2 rfl) ?_
          refine lv_iload_n hx hb dX5_spells_40 rfl (lv_at hl 0 rfl) ?_
          refine cl_Ti (As := [.int (((0 + 1) + 1) + 1)]) (rest := [.int (f_t_text ((i_t_start + (((0 + 1) + 1) + 1)) : Int32).toNatClampNeg)]) [] [none, none] 2 C0 hK hP hD hS hA (c_J0_charAt l D cy 0 (by decide) 3 (by decide)) (cwV 1 hts gX5_spells_J0_charAt_5068e rfl rfl rfl (by decide +kernel) ⟨Nat.le_of_ble_eq_true rfl, Nat.le_of_ble_eq_true rfl⟩) rfl (by decide) rfl rfl rfl (vk_recv (adK := fun i => cy (100 + i)) (i := 0) hK.2.1 (by decide) hS) rfl hl.1 rfl (Nat.le_of_ble_eq_true rfl) dX5_spells_41 ⟨Nat.zero_le _, Nat.zero_le _⟩ (fun H locs hP hD hS => ?_)
          have hP : va_P D vwCl [(a_t, .inr (5, [.ref a_t_text, o_t_length, .int i_t_place, .int i_t_start, o_t_faultNumber, o_t_faultByte])), (a_t_text, .inl (cy 1, 500, .inl f_t_text))] H := hP
          have hD : va_D A [(a_t, .inr (5, [.ref a_t_text, o_t_length, .int i_t_place, .int i_t_start, o_t_faultNumber, o_t_faultByte])), (a_t_text, .inl (cy 1, 500, .inl f_t_text))] := hD
          refine lv_icmp_eq (tgt := 49) hx hb dX5_spells_44 (by decide) (fun c_13 => ?_) (fun c_13 => ?_)
          · have hf := hb_t hf c_13
            refine lv_iinc (v := ((((0 + 1) + 1) + 1) + 1)) (lv' := [(2, .int ((((0 + 1) + 1) + 1) + 1)), (0, .ref a_t), (1, .ref (cy 100))]) hx hb dX5_spells_49 hl (k := 0) rfl rfl (by decide) rfl (fun ls hl => ?_)
            refine lv_goto (tgt := 20) hx hb dX5_spells_52 (by decide) ?_
            refine lv_iload_n hx hb dX5_spells_20 rfl (lv_at hl 0 rfl) ?_
            refine lv_aload_n hx hb dX5_spells_21 rfl (lv_at hl 2 rfl) ?_
            refine cl_Ti (rest := [.int ((((0 + 1) + 1) + 1) + 1)]) [] [none, none] 2 C0 hK hP hD hS hA (c_J0_length l D cy 0 (by decide)) (cwV 0 hts gX5_spells_J0_length_8abf5 rfl rfl rfl (by decide +kernel) ⟨Nat.le_of_ble_eq_true rfl, Nat.le_of_ble_eq_true rfl⟩) rfl (by decide) rfl rfl rfl (vk_recv (adK := fun i => cy (100 + i)) (i := 0) hK.2.1 (by decide) hS) rfl hl.1 rfl (Nat.le_of_ble_eq_true rfl) dX5_spells_22 ⟨Nat.zero_le _, Nat.zero_le _⟩ (fun H locs hP hD hS => ?_)
            have hP : va_P D vwCl [(a_t, .inr (5, [.ref a_t_text, o_t_length, .int i_t_place, .int i_t_start, o_t_faultNumber, o_t_faultByte])), (a_t_text, .inl (cy 1, 500, .inl f_t_text))] H := hP
            have hD : va_D A [(a_t, .inr (5, [.ref a_t_text, o_t_length, .int i_t_place, .int i_t_start, o_t_faultNumber, o_t_faultByte])), (a_t_text, .inl (cy 1, 500, .inl f_t_text))] := hD
            refine lv_icmp_ge (tgt := 55) hx hb dX5_spells_25 (by decide) (fun c_14 => absurd c_14 (by decide)) (fun c_14 => ?_)
            refine lv_aload_n hx hb dX5_spells_28 rfl (lv_at hl 1 rfl) ?_
            refine va_get (D := D) (ci := 5) (v := .ref a_t_text) (C := RX5) (T := TX5) (N := 6) hx hb hts uX5_spells_X5 hown hK.1.1 hP 0 rfl rfl 0 (by decide) (hts _ mX5_spells_9) (fun _ h9 => h9) rfl dX5_spells_29 ?_
            refine lv_aload_n hx hb dX5_spells_32 rfl (lv_at hl 1 rfl) ?_
            refine va_get (D := D) (ci := 5) (v := .int i_t_start) (C := RX5) (T := TX5) (N := 6) hx hb hts uX5_spells_X5 hown hK.1.1 hP 0 rfl rfl 3 (by decide) (hts _ mX5_spells_121) (fun _ h9 => h9) rfl dX5_spells_33 ?_
            refine lv_iload_n hx hb dX5_spells_36 rfl (lv_at hl 0 rfl) ?_
            refine lv_iadd hx hb dX5_spells_37 ?_
            obtain ⟨hg_15, hf⟩ := hb_g hf
            refine va_bald hx hb hK.1.1 hP 1 1 rfl rfl (ixb_in hg_15) dX5_spells_38 ?_
            refine lv_aload_n hx hb dX5_spells_39 rfl (lv_at hl 2 rfl) ?_
            refine lv_iload_n hx hb dX5_spells_40 rfl (lv_at hl 0 rfl) ?_
            refine cl_Ti (As := [.int ((((0 + 1) + 1) + 1) + 1)]) (rest := [.int (f_t_text ((i_t_start + ((((0 + 1) + 1) + 1) + 1)) : Int32).toNatClampNeg)]) [] [none, none] 2 C0 hK hP hD hS hA (c_J0_charAt l D cy 0 (by decide) 4 (by decide)) (cwV 1 hts gX5_spells_J0_charAt_5068e rfl rfl rfl (by decide +kernel) ⟨Nat.le_of_ble_eq_true rfl, Nat.le_of_ble_eq_true rfl⟩) rfl (by decide) rfl rfl rfl (vk_recv (adK := fun i => cy (100 + i)) (i := 0) hK.2.1 (by decide) hS) rfl hl.1 rfl (Nat.le_of_ble_eq_true rfl) dX5_spells_41 ⟨Nat.zero_le _, Nat.zero_le _⟩ (fun H locs hP hD hS => ?_)
            have hP : va_P D vwCl [(a_t, .inr (5, [.ref a_t_text, o_t_length, .int i_t_place, .int i_t_start, o_t_faultNumber, o_t_faultByte])), (a_t_text, .inl (cy 1, 500, .inl f_t_text))] H := hP
            have hD : va_D A [(a_t, .inr (5, [.ref a_t_text, o_t_length, .int i_t_place, .int i_t_start, o_t_faultNumber, o_t_faultByte])), (a_t_text, .inl (cy 1, 500, .inl f_t_text))] := hD
            refine lv_icmp_eq (tgt := 49) hx hb dX5_spells_44 (by decide) (fun c_16 => ?_) (fun c_16 => ?_)
            · have hf := hb_t hf c_16
              refine lv_iinc (v := (((((0 + 1) + 1) + 1) + 1) + 1)) (lv' := [(2, .int (((((0 + 1) + 1) + 1) + 1) + 1)), (0, .ref a_t), (1, .ref (cy 100))]) hx hb dX5_spells_49 hl (k := 0) rfl rfl (by decide) rfl (fun ls hl => ?_)
              refine lv_goto (tgt := 20) hx hb dX5_spells_52 (by decide) ?_
              refine lv_iload_n hx hb dX5_spells_20 rfl (lv_at hl 0 rfl) ?_
              refine lv_aload_n hx hb dX5_spells_21 rfl (lv_at hl 2 rfl) ?_
              refine cl_Ti (rest := [.int (((((0 + 1) + 1) + 1) + 1) + 1)]) [] [none, none] 2 C0 hK hP hD hS hA (c_J0_length l D cy 0 (by decide)) (cwV 0 hts gX5_spells_J0_length_8abf5 rfl rfl rfl (by decide +kernel) ⟨Nat.le_of_ble_eq_true rfl, Nat.le_of_ble_eq_true rfl⟩) rfl (by decide) rfl rfl rfl (vk_recv (adK := fun i => cy (100 + i)) (i := 0) hK.2.1 (by decide) hS) rfl hl.1 rfl (Nat.le_of_ble_eq_true rfl) dX5_spells_22 ⟨Nat.zero_le _, Nat.zero_le _⟩ (fun H locs hP hD hS => ?_)
              have hP : va_P D vwCl [(a_t, .inr (5, [.ref a_t_text, o_t_length, .int i_t_place, .int i_t_start, o_t_faultNumber, o_t_faultByte])), (a_t_text, .inl (cy 1, 500, .inl f_t_text))] H := hP
              have hD : va_D A [(a_t, .inr (5, [.ref a_t_text, o_t_length, .int i_t_place, .int i_t_start, o_t_faultNumber, o_t_faultByte])), (a_t_text, .inl (cy 1, 500, .inl f_t_text))] := hD
              refine lv_icmp_ge (tgt := 55) hx hb dX5_spells_25 (by decide) (fun c_17 => absurd c_17 (by decide)) (fun c_17 => ?_)
              refine lv_aload_n hx hb dX5_spells_28 rfl (lv_at hl 1 rfl) ?_
              refine va_get (D := D) (ci := 5) (v := .ref a_t_text) (C := RX5) (T := TX5) (N := 6) hx hb hts uX5_spells_X5 hown hK.1.1 hP 0 rfl rfl 0 (by decide) (hts _ mX5_spells_9) (fun _ h9 => h9) rfl dX5_spells_29 ?_
              refine lv_aload_n hx hb dX5_spells_32 rfl (lv_at hl 1 rfl) ?_
              refine va_get (D := D) (ci := 5) (v := .int i_t_start) (C := RX5) (T := TX5) (N := 6) hx hb hts uX5_spells_X5 hown hK.1.1 hP 0 rfl rfl 3 (by decide) (hts _ mX5_spells_121) (fun _ h9 => h9) rfl dX5_spells_33 ?_
              refine lv_iload_n hx hb dX5_spells_36 rfl (lv_at hl 0 rfl) ?_
              refine lv_iadd hx hb dX5_spells_37 ?_
              obtain ⟨hg_18, hf⟩ := hb_g hf
              refine va_bald hx hb hK.1.1 hP 1 1 rfl rfl (ixb_in hg_18) dX5_spells_38 ?_
              refine lv_aload_n hx hb dX5_spells_39 rfl (lv_at hl 2 rfl) ?_
              refine lv_iload_n hx hb dX5_spells_40 rfl (lv_at hl 0 rfl) ?_
              refine cl_Ti (As := [.int (((((0 + 1) + 1) + 1) + 1) + 1)]) (rest := [.int (f_t_text ((i_t_start + (((((0 + 1) + 1) + 1) + 1) + 1)) : Int32).toNatClampNeg)]) [] [none, none] 2 C0 hK hP hD hS hA (c_J0_charAt l D cy 0 (by decide) 5 (by decide)) (cwV 1 hts gX5_spells_J0_charAt_5068e rfl rfl rfl (by decide +kernel) ⟨Nat.le_of_ble_eq_true rfl, Nat.le_of_ble_eq_true rfl⟩) rfl (by decide) rfl rfl rfl (vk_recv (adK := fun i => cy (100 + i)) (i := 0) hK.2.1 (by decide) hS) rfl hl.1 rfl (Nat.le_of_ble_eq_true rfl) dX5_spells_41 ⟨Nat.zero_le _, Nat.zero_le _⟩ (fun H locs hP hD hS => ?_)
              have hP : va_P D vwCl [(a_t, .inr (5, [.ref a_t_text, o_t_length, .int i_t_place, .int i_t_start, o_t_faultNumber, o_t_faultByte])), (a_t_text, .inl (cy 1, 500, .inl f_t_text))] H := hP
              have hD : va_D A [(a_t, .inr (5, [.ref a_t_text, o_t_length, .int i_t_place, .int i_t_start, o_t_faultNumber, o_t_faultByte])), (a_t_text, .inl (cy 1, 500, .inl f_t_text))] := hD
              refine lv_icmp_eq (tgt := 49) hx hb dX5_spells_44 (by decide) (fun c_19 => ?_) (fun c_19 => ?_)
              · have hf := hb_t hf c_19
                refine lv_iinc (v := ((((((0 + 1) + 1) + 1) + 1) + 1) + 1)) (lv' := [(2, .int ((((((0 + 1) + 1) + 1) + 1) + 1) + 1)), (0, .ref a_t), (1, .ref (cy 100))]) hx hb dX5_spells_49 hl (k := 0) rfl rfl (by decide) rfl (fun ls hl => ?_)
                refine lv_goto (tgt := 20) hx hb dX5_spells_52 (by decide) ?_
                refine lv_iload_n hx hb dX5_spells_20 rfl (lv_at hl 0 rfl) ?_
                refine lv_aload_n hx hb dX5_spells_21 rfl (lv_at hl 2 rfl) ?_
                refine cl_Ti (rest := [.int ((((((0 + 1) + 1) + 1) + 1) + 1) + 1)]) [] [none, none] 2 C0 hK hP hD hS hA (c_J0_length l D cy 0 (by decide)) (cwV 0 hts gX5_spells_J0_length_8abf5 rfl rfl rfl (by decide +kernel) ⟨Nat.le_of_ble_eq_true rfl, Nat.le_of_ble_eq_true rfl⟩) rfl (by decide) rfl rfl rfl (vk_recv (adK := fun i => cy (100 + i)) (i := 0) hK.2.1 (by decide) hS) rfl hl.1 rfl (Nat.le_of_ble_eq_true rfl) dX5_spells_22 ⟨Nat.zero_le _, Nat.zero_le _⟩ (fun H locs hP hD hS => ?_)
                have hP : va_P D vwCl [(a_t, .inr (5, [.ref a_t_text, o_t_length, .int i_t_place, .int i_t_start, o_t_faultNumber, o_t_faultByte])), (a_t_text, .inl (cy 1, 500, .inl f_t_text))] H := hP
                have hD : va_D A [(a_t, .inr (5, [.ref a_t_text, o_t_length, .int i_t_place, .int i_t_start, o_t_faultNumber, o_t_faultByte])), (a_t_text, .inl (cy 1, 500, .inl f_t_text))] := hD
                refine lv_icmp_ge (tgt := 55) hx hb dX5_spells_25 (by decide) (fun c_20 => ?_) (fun c_20 => absurd c_20 (by decide))
                refine lv_iconst (v := 1) hx hb dX5_spells_55 (by decide) ?_
                have hf := Option.some.inj hf
                subst hf
                exact hret _ _ _ _ dX5_spells_56 rfl hP hS
              · have hf := hb_f hf c_19
                refine lv_iconst (v := 0) hx hb dX5_spells_47 (by decide) ?_
                have hf := Option.some.inj hf
                subst hf
                exact hret _ _ _ _ dX5_spells_48 rfl hP hS
            · have hf := hb_f hf c_16
              refine lv_iconst (v := 0) hx hb dX5_spells_47 (by decide) ?_
              have hf := Option.some.inj hf
              subst hf
              exact hret _ _ _ _ dX5_spells_48 rfl hP hS
          · have hf := hb_f hf c_13
            refine lv_iconst (v := 0) hx hb dX5_spells_47 (by decide) ?_
            have hf := Option.some.inj hf
            subst hf
            exact hret _ _ _ _ dX5_spells_48 rfl hP hS
        · have hf := hb_f hf c_10
          refine lv_iconst (v := 0) hx hb dX5_spells_47 (by decide) ?_
          have hf := Option.some.inj hf
          subst hf
          exact hret _ _ _ _ dX5_spells_48 rfl hP hS
      · have hf := hb_f hf c_7
        refine lv_iconst (v := 0) hx hb dX5_spells_47 (by decide) ?_
        have hf := Option.some.inj hf
        subst hf
        exact hret _ _ _ _ dX5_spells_48 rfl hP hS
    · have hf := hb_f hf c_4
      refine lv_iconst (v := 0) hx hb dX5_spells_47 (by decide) ?_
      have hf := Option.some.inj hf
      subst hf
      exact hret _ _ _ _ dX5_spells_48 rfl hP hS
  · have hf := hb_f hf c_1
    refine lv_iconst (v := 0) hx hb dX5_spells_16 (by decide) ?_
    have hf := Option.some.inj hf
    subst hf
    exact hret _ _ _ _ dX5_spells_17 rfl hP hS
theorem mX5_fail_26 : Cond.fieldLink RX5 26 "OneWordLetters$Reader" "faultNumber" "I" ∈ wsX5_fail := by decide +kernel
theorem uX5_fail_X5 : ∀ w ∈ wsX50, w ∈ wsX5_fail := fun _ h => List.mem_cons_of_mem _ (List.mem_append_right _ h)
theorem mX5_fail_121 : Cond.fieldLink RX5 121 "OneWordLetters$Reader" "start" "I" ∈ wsX5_fail := by decide +kernel
theorem mX5_fail_15 : Cond.fieldLink RX5 15 "OneWordLetters$Reader" "faultByte" "I" ∈ wsX5_fail := by decide +kernel
abbrev rmX5_fail : Room := { frames := 0, cells := 0, slots := 0, locals := 0 }
set_option maxRecDepth 100000 in
set_option maxHeartbeats 4000000 in
theorem c_X5_fail (l : Launch) (D : va_G) (cy : Nat → ClassId) (a_t : Nat) (o_t_text : Value) (o_t_length : Value) (o_t_place : Value) (i_t_start : Int32) (i_t_faultNumber : Int32) (i_t_faultByte : Int32) (p1 : Int32) (z_i_t_faultNumber : Int32) (z_i_t_faultByte : Int32) (hf : f_X5_fail i_t_start i_t_faultNumber i_t_faultByte p1 = some (z_i_t_faultNumber, z_i_t_faultByte)) : MV l D cy yX5_fail wsX5_fail rmX5_fail [.ref a_t, .int p1] [(a_t, .inr (5, [o_t_text, o_t_length, o_t_place, .int i_t_start, .int i_t_faultNumber, .int i_t_faultByte]))] [(a_t, .inr (5, [o_t_text, o_t_length, o_t_place, .int i_t_start, .int z_i_t_faultNumber, .int z_i_t_faultByte]))] := by
  refine st_V (by decide) rfl (Nat.le_of_ble_eq_true rfl) (fun p e s m below meth c A Q ls C0 hA hK hP hD hS hl hret => ?_)
  obtain ⟨hx, hb, hr, hml, hown, hts, hlocks⟩ := id C0
  have hl : lv_has ls 2 [(0, .ref a_t), (1, .int p1)] := hl
  unfold f_X5_fail at hf
  refine lv_aload_n hx hb dX5_fail_0 rfl (lv_at hl 0 rfl) ?_
  refine va_get (D := D) (ci := 5) (v := .int i_t_faultNumber) (C := RX5) (T := TX5) (N := 6) hx hb hts uX5_fail_X5 hown hK.1.1 hP 0 rfl rfl 4 (by decide) (hts _ mX5_fail_26) (fun _ h9 => h9) rfl dX5_fail_1 ?_
  refine lv_if_ne (tgt := 20) hx hb dX5_fail_4 (by decide) (fun c_1 => ?_) (fun c_1 => ?_)
  · have hf := hb_f hf c_1
    obtain ⟨e_0, e_1⟩ := tu2 hf
    subst e_0; subst e_1
    exact hret _ _ _ _ dX5_fail_20 hP hS
  · have hf := hb_t hf c_1
    refine lv_aload_n hx hb dX5_fail_7 rfl (lv_at hl 0 rfl) ?_
    refine lv_iload_n hx hb dX5_fail_8 rfl (lv_at hl 1 rfl) ?_
    refine va_put (D := D) (ci := 5) (v := .int p1) (ty := .int) (C := RX5) (T := TX5) (N := 6) hx hb hts uX5_fail_X5 tyX5 tyX5_ok nmX5 hown hK.1.1 hP hD hS 0 rfl rfl 4 (by decide) (hts _ mX5_fail_26) (fun _ h9 => h9) rfl (by decide +kernel) rfl rfl (Nat.le_of_ble_eq_true rfl) dX5_fail_9 (fun H locs hP hD hS => ?_)
    have hP : va_P D vwCl [(a_t, .inr (5, [o_t_text, o_t_length, o_t_place, .int i_t_start, .int p1, .int i_t_faultByte]))] H := hP
    have hD : va_D A [(a_t, .inr (5, [o_t_text, o_t_length, o_t_place, .int i_t_start, .int p1, .int i_t_faultByte]))] := hD
    refine lv_aload_n hx hb dX5_fail_12 rfl (lv_at hl 0 rfl) ?_
    refine lv_aload_n hx hb dX5_fail_13 rfl (lv_at hl 0 rfl) ?_
    refine va_get (D := D) (ci := 5) (v := .int i_t_start) (C := RX5) (T := TX5) (N := 6) hx hb hts uX5_fail_X5 hown hK.1.1 hP 0 rfl rfl 3 (by decide) (hts _ mX5_fail_121) (fun _ h9 => h9) rfl dX5_fail_14 ?_
    refine va_put (D := D) (ci := 5) (v := .int i_t_start) (ty := .int) (C := RX5) (T := TX5) (N := 6) hx hb hts uX5_fail_X5 tyX5 tyX5_ok nmX5 hown hK.1.1 hP hD hS 0 rfl rfl 5 (by decide) (hts _ mX5_fail_15) (fun _ h9 => h9) rfl (by decide +kernel) rfl rfl (Nat.le_of_ble_eq_true rfl) dX5_fail_17 (fun H locs hP hD hS => ?_)
    have hP : va_P D vwCl [(a_t, .inr (5, [o_t_text, o_t_length, o_t_place, .int i_t_start, .int p1, .int i_t_start]))] H := hP
    have hD : va_D A [(a_t, .inr (5, [o_t_text, o_t_length, o_t_place, .int i_t_start, .int p1, .int i_t_start]))] := hD
    obtain ⟨e_0, e_1⟩ := tu2 hf
    subst e_0; subst e_1
    exact hret _ _ _ _ dX5_fail_20 hP hS
theorem mX5_nextNumber_23 : Cond.fieldLink RX5 23 "OneWordLetters$Reader" "place" "I" ∈ wsX5_nextNumber := by decide +kernel
theorem uX5_nextNumber_X5 : ∀ w ∈ wsX50, w ∈ wsX5_nextNumber := fun _ h => List.mem_cons_of_mem _ (List.mem_append_right _ h)
theorem mX5_nextNumber_121 : Cond.fieldLink RX5 121 "OneWordLetters$Reader" "start" "I" ∈ wsX5_nextNumber := by decide +kernel
theorem mX5_nextNumber_19 : Cond.fieldLink RX5 19 "OneWordLetters$Reader" "length" "I" ∈ wsX5_nextNumber := by decide +kernel
theorem mX5_nextNumber_9 : Cond.fieldLink RX5 9 "OneWordLetters$Reader" "text" "[B" ∈ wsX5_nextNumber := by decide +kernel
abbrev rmX5_nextNumber : Room := { frames := 1, cells := 0, slots := 0, locals := 21 }
set_option maxRecDepth 100000 in
set_option maxHeartbeats 4000000 in
theorem L_X5_nextNumber_14 {p : Program} {e : Env} {s : State} {m : MethodId} {args : Array Value} {below : List Frame} {meth : Method} {c : Code} {Q : State → Prop} {A : Nat → Prop} (l : Launch) (D : va_G) (cy : Nat → ClassId) (a_t : Nat) (a_t_text : Nat) (i_t_length : Int32) (f_t_text : Nat → Int32) {K0 : Int32 → Int32 → Int32 → Int32 → Int32 → Int32 → Int32 → Option (Int32 × Int32 × Int32 × Int32 × Int32)} (rv : Int32) (z_i_t_place : Int32) (z_i_t_start : Int32) (z_i_t_faultNumber : Int32) (z_i_t_faultByte : Int32) (C0 : CX p s m args meth c cX5_nextNumber 4 (some .int) wsX5_nextNumber RX5) (hA : ∀ q, s.heap.size ≤ q → A q) (hK : KZ D cy A s) (hk0 : ∀ (v1 : Int32) (v2 : Int32) (v3 : Int32) (y_i_t_place : Int32) (y_i_t_start : Int32) (y_i_t_faultNumber : Int32) (y_i_t_faultByte : Int32) (H : Heap) (locs : List Loc), K0 v1 v2 v3 y_i_t_place y_i_t_start y_i_t_faultNumber y_i_t_faultByte = some (rv, z_i_t_place, z_i_t_start, z_i_t_faultNumber, z_i_t_faultByte) → va_P D vwCl [(a_t, .inr (5, [.ref a_t_text, .int i_t_length, .int y_i_t_place, .int y_i_t_start, .int y_i_t_faultNumber, .int y_i_t_faultByte])), (a_t_text, .inl (cy 1, 500, .inl f_t_text))] H → va_D A [(a_t, .inr (5, [.ref a_t_text, .int i_t_length, .int y_i_t_place, .int y_i_t_start, .int y_i_t_faultNumber, .int y_i_t_faultByte])), (a_t_text, .inl (cy 1, 500, .inl f_t_text))] → va_S A s.heap H locs → ∀ ls : Array Slot, lv_has ls 4 [(0, .ref a_t), (1, .int v1), (2, .int v2), (3, .int v3)] → W p l e rmX5_nextNumber s m args below meth c H locs 0 0 Q (F0 m 97 ls [])) : ∀ (n : Nat) (v1 : Int32) (v2 : Int32) (v3 : Int32) (i_t_place : Int32) (i_t_start : Int32) (i_t_faultNumber : Int32) (i_t_faultByte : Int32), f_X5_nextNumber_L14 i_t_length f_t_text K0 n v1 v2 v3 i_t_place i_t_start i_t_faultNumber i_t_faultByte = some (rv, z_i_t_place, z_i_t_start, z_i_t_faultNumber, z_i_t_faultByte) → ∀ (H : Heap) (locs : List Loc), va_P D vwCl [(a_t, .inr (5, [.ref a_t_text, .int i_t_length, .int i_t_place, .int i_t_start, .int i_t_faultNumber, .int i_t_faultByte])), (a_t_text, .inl (cy 1, 500, .inl f_t_text))] H → va_D A [(a_t, .inr (5, [.ref a_t_text, .int i_t_length, .int i_t_place, .int i_t_start, .int i_t_faultNumber, .int i_t_faultByte])), (a_t_text, .inl (cy 1, 500, .inl f_t_text))] → va_S A s.heap H locs → ∀ ls : Array Slot, lv_has ls 4 [(0, .ref a_t), (1, .int v1), (2, .int v2), (3, .int v3)] → W p l e rmX5_nextNumber s m args below meth c H locs 0 0 Q (F0 m 14 ls []) := by
  obtain ⟨hx, hb, hr, hml, hown, hts, hlocks⟩ := id C0
  intro n
  induction n with
  | zero => intro _ _ _ _ _ _ _ hf; rw [f_X5_nextNumber_L14.eq_1] at hf; cases hf
  | succ n ih =>
    intro v1 v2 v3 i_t_place i_t_start i_t_faultNumber i_t_faultByte hf H locs hP hD hS ls hl
    rw [f_X5_nextNumber_L14.eq_2] at hf
    refine lv_aload_n hx hb dX5_nextNumber_14 rfl (lv_at hl 0 rfl) ?_
    refine va_get (D := D) (ci := 5) (v := .int i_t_place) (C := RX5) (T := TX5) (N := 6) hx hb hts uX5_nextNumber_X5 hown hK.1.1 hP 0 rfl rfl 2 (by decide) (hts _ mX5_nextNumber_23) (fun _ h9 => h9) rfl dX5_nextNumber_15 ?_
    refine lv_aload_n hx hb dX5_nextNumber_18 rfl (lv_at hl 0 rfl) ?_
    refine va_get (D := D) (ci := 5) (v := .int i_t_length) (C := RX5) (T := TX5) (N := 6) hx hb hts uX5_nextNumber_X5 hown hK.1.1 hP 0 rfl rfl 1 (by decide) (hts _ mX5_nextNumber_19) (fun _ h9 => h9) rfl dX5_nextNumber_19 ?_
    refine lv_icmp_ge (tgt := 97) hx hb dX5_nextNumber_22 (by decide) (fun c_3 => ?_) (fun c_3 => ?_)
    · have hf := hb_t hf c_3
      exact hk0 v1 v2 v3 i_t_place i_t_start i_t_faultNumber i_t_faultByte _ _ hf hP hD hS _ (lv_sub hl [0, 1, 2, 3] rfl)
    · have hf := hb_f hf c_3
      refine lv_aload_n hx hb dX5_nextNumber_25 rfl (lv_at hl 0 rfl) ?_
      refine va_get (D := D) (ci := 5) (v := .ref a_t_text) (C := RX5) (T := TX5) (N := 6) hx hb hts uX5_nextNumber_X5 hown hK.1.1 hP 0 rfl rfl 0 (by decide) (hts _ mX5_nextNumber_9) (fun _ h9 => h9) rfl dX5_nextNumber_26 ?_
      refine lv_aload_n hx hb dX5_nextNumber_29 rfl (lv_at hl 0 rfl) ?_
      refine va_get (D := D) (ci := 5) (v := .int i_t_place) (C := RX5) (T := TX5) (N := 6) hx hb hts uX5_nextNumber_X5 hown hK.1.1 hP 0 rfl rfl 2 (by decide) (hts _ mX5_nextNumber_23) (fun _ h9 => h9) rfl dX5_nextNumber_30 ?_
      obtain ⟨hg_4, hf⟩ := hb_g hf
      refine va_bald hx hb hK.1.1 hP 1 1 rfl rfl (ixb_in hg_4) dX5_nextNumber_33 ?_
      refine lv_bipush (v := 48) hx hb dX5_nextNumber_34 (by decide) ?_
      refine lv_icmp_lt (tgt := 97) hx hb dX5_nextNumber_36 (by decide) (fun c_5 => ?_) (fun c_5 => ?_)
      · have hf := hb_t hf c_5
        exact hk0 v1 v2 v3 i_t_place i_t_start i_t_faultNumber i_t_faultByte _ _ hf hP hD hS _ (lv_sub hl [0, 1, 2, 3] rfl)
      · have hf := hb_f hf c_5
        refine lv_aload_n hx hb dX5_nextNumber_39 rfl (lv_at hl 0 rfl) ?_
        refine va_get (D := D) (ci := 5) (v := .ref a_t_text) (C := RX5) (T := TX5) (N := 6) hx hb hts uX5_nextNumber_X5 hown hK.1.1 hP 0 rfl rfl 0 (by decide) (hts _ mX5_nextNumber_9) (fun _ h9 => h9) rfl dX5_nextNumber_40 ?_
        refine lv_aload_n hx hb dX5_nextNumber_43 rfl (lv_at hl 0 rfl) ?_
        refine va_get (D := D) (ci := 5) (v := .int i_t_place) (C := RX5) (T := TX5) (N := 6) hx hb hts uX5_nextNumber_X5 hown hK.1.1 hP 0 rfl rfl 2 (by decide) (hts _ mX5_nextNumber_23) (fun _ h9 => h9) rfl dX5_nextNumber_44 ?_
        obtain ⟨hg_6, hf⟩ := hb_g hf
        refine va_bald hx hb hK.1.1 hP 1 1 rfl rfl (ixb_in hg_6) dX5_nextNumber_47 ?_
        refine lv_bipush (v := 57) hx hb dX5_nextNumber_48 (by decide) ?_
        refine lv_icmp_gt (tgt := 97) hx hb dX5_nextNumber_50 (by decide) (fun c_7 => ?_) (fun c_7 => ?_)
        · have hf := hb_t hf c_7
          exact hk0 v1 v2 v3 i_t_place i_t_start i_t_faultNumber i_t_faultByte _ _ hf hP hD hS _ (lv_sub hl [0, 1, 2, 3] rfl)
        · have hf := hb_f hf c_7
          refine lv_aload_n hx hb dX5_nextNumber_53 rfl (lv_at hl 0 rfl) ?_
          refine va_get (D := D) (ci := 5) (v := .int i_t_place) (C := RX5) (T := TX5) (N := 6) hx hb hts uX5_nextNumber_X5 hown hK.1.1 hP 0 rfl rfl 2 (by decide) (hts _ mX5_nextNumber_23) (fun _ h9 => h9) rfl dX5_nextNumber_54 ?_
          refine lv_aload_n hx hb dX5_nextNumber_57 rfl (lv_at hl 0 rfl) ?_
          refine va_get (D := D) (ci := 5) (v := .int i_t_start) (C := RX5) (T := TX5) (N := 6) hx hb hts uX5_nextNumber_X5 hown hK.1.1 hP 0 rfl rfl 3 (by decide) (hts _ mX5_nextNumber_121) (fun _ h9 => h9) rfl dX5_nextNumber_58 ?_
          refine lv_isub hx hb dX5_nextNumber_61 ?_
          refine lv_iconst (v := 3) hx hb dX5_nextNumber_62 (by decide) ?_
          refine lv_icmp_ge (tgt := 84) hx hb dX5_nextNumber_63 (by decide) (fun c_8 => ?_) (fun c_8 => ?_)
          · have hf := hb_t hf c_8
            refine lv_aload_n hx hb dX5_nextNumber_84 rfl (lv_at hl 0 rfl) ?_
            refine lv_dup hx hb dX5_nextNumber_85 rfl ?_
            refine va_get (D := D) (ci := 5) (v := .int i_t_place) (C := RX5) (T := TX5) (N := 6) hx hb hts uX5_nextNumber_X5 hown hK.1.1 hP 0 rfl rfl 2 (by decide) (hts _ mX5_nextNumber_23) (fun _ h9 => h9) rfl dX5_nextNumber_86 ?_
            refine lv_iconst (v := 1) hx hb dX5_nextNumber_89 (by decide) ?_
            refine lv_iadd hx hb dX5_nextNumber_90 ?_
            refine va_put (D := D) (ci := 5) (v := .int (i_t_place + 1)) (ty := .int) (C := RX5) (T := TX5) (N := 6) hx hb hts uX5_nextNumber_X5 tyX5 tyX5_ok nmX5 hown hK.1.1 hP hD hS 0 rfl rfl 2 (by decide) (hts _ mX5_nextNumber_23) (fun _ h9 => h9) rfl (by decide +kernel) rfl rfl (Nat.le_of_ble_eq_true rfl) dX5_nextNumber_91 (fun H locs hP hD hS => ?_)
            have hP : va_P D vwCl [(a_t, .inr (5, [.ref a_t_text, .int i_t_length, .int (i_t_place + 1), .int i_t_start, .int i_t_faultNumber, .int i_t_faultByte])), (a_t_text, .inl (cy 1, 500, .inl f_t_text))] H := hP
            have hD : va_D A [(a_t, .inr (5, [.ref a_t_text, .int i_t_length, .int (i_t_place + 1), .int i_t_start, .int i_t_faultNumber, .int i_t_faultByte])), (a_t_text, .inl (cy 1, 500, .inl f_t_text))] := hD
            refine lv_goto (tgt := 14) hx hb dX5_nextNumber_94 (by decide) ?_
            exact ih v1 v2 v3 (i_t_place + 1) i_t_start i_t_faultNumber i_t_faultByte hf _ _ hP hD hS _ (lv_sub hl [0, 1, 2, 3] rfl)
          · have hf := hb_f hf c_8
            refine lv_iload_n hx hb dX5_nextNumber_66 rfl (lv_at hl 3 rfl) ?_
            refine lv_bipush (v := 10) hx hb dX5_nextNumber_67 (by decide) ?_
            refine lv_imul hx hb dX5_nextNumber_69 ?_
            refine lv_aload_n hx hb dX5_nextNumber_70 rfl (lv_at hl 0 rfl) ?_
            refine va_get (D := D) (ci := 5) (v := .ref a_t_text) (C := RX5) (T := TX5) (N := 6) hx hb hts uX5_nextNumber_X5 hown hK.1.1 hP 0 rfl rfl 0 (by decide) (hts _ mX5_nextNumber_9) (fun _ h9 => h9) rfl dX5_nextNumber_71 ?_
            refine lv_aload_n hx hb dX5_nextNumber_74 rfl (lv_at hl 0 rfl) ?_
            refine va_get (D := D) (ci := 5) (v := .int i_t_place) (C := RX5) (T := TX5) (N := 6) hx hb hts uX5_nextNumber_X5 hown hK.1.1 hP 0 rfl rfl 2 (by decide) (hts _ mX5_nextNumber_23) (fun _ h9 => h9) rfl dX5_nextNumber_75 ?_
            obtain ⟨hg_9, hf⟩ := hb_g hf
            refine va_bald hx hb hK.1.1 hP 1 1 rfl rfl (ixb_in hg_9) dX5_nextNumber_78 ?_
            refine lv_iadd hx hb dX5_nextNumber_79 ?_
            refine lv_bipush (v := 48) hx hb dX5_nextNumber_80 (by decide) ?_
            refine lv_isub hx hb dX5_nextNumber_82 ?_
            refine lv_istore_n (lv' := [(3, .int (((v3 * 10) + (f_t_text (i_t_place : Int32).toNatClampNeg)) - 48)), (0, .ref a_t), (1, .int v1), (2, .int v2)]) hx hb dX5_nextNumber_83 rfl hl (by decide) rfl (fun ls hl => ?_)
            refine lv_aload_n hx hb dX5_nextNumber_84 rfl (lv_at hl 1 rfl) ?_
            refine lv_dup hx hb dX5_nextNumber_85 rfl ?_
            refine va_get (D := D) (ci := 5) (v := .int i_t_place) (C := RX5) (T := TX5) (N := 6) hx hb hts uX5_nextNumber_X5 hown hK.1.1 hP 0 rfl rfl 2 (by decide) (hts _ mX5_nextNumber_23) (fun _ h9 => h9) rfl dX5_nextNumber_86 ?_
            refine lv_iconst (v := 1) hx hb dX5_nextNumber_89 (by decide) ?_
            refine lv_iadd hx hb dX5_nextNumber_90 ?_
            refine va_put (D := D) (ci := 5) (v := .int (i_t_place + 1)) (ty := .int) (C := RX5) (T := TX5) (N := 6) hx hb hts uX5_nextNumber_X5 tyX5 tyX5_ok nmX5 hown hK.1.1 hP hD hS 0 rfl rfl 2 (by decide) (hts _ mX5_nextNumber_23) (fun _ h9 => h9) rfl (by decide +kernel) rfl rfl (Nat.le_of_ble_eq_true rfl) dX5_nextNumber_91 (fun H locs hP hD hS => ?_)
            have hP : va_P D vwCl [(a_t, .inr (5, [.ref a_t_text, .int i_t_length, .int (i_t_place + 1), .int i_t_start, .int i_t_faultNumber, .int i_t_faultByte])), (a_t_text, .inl (cy 1, 500, .inl f_t_text))] H := hP
            have hD : va_D A [(a_t, .inr (5, [.ref a_t_text, .int i_t_length, .int (i_t_place + 1), .int i_t_start, .int i_t_faultNumber, .int i_t_faultByte])), (a_t_text, .inl (cy 1, 500, .inl f_t_text))] := hD
            refine lv_goto (tgt := 14) hx hb dX5_nextNumber_94 (by decide) ?_
            exact ih v1 v2 (((v3 * 10) + (f_t_text (i_t_place : Int32).toNatClampNeg)) - 48) (i_t_place + 1) i_t_start i_t_faultNumber i_t_faultByte hf _ _ hP hD hS _ (lv_sub hl [1, 2, 3, 0] rfl)
set_option maxRecDepth 100000 in
set_option maxHeartbeats 4000000 in
theorem c_X5_nextNumber (l : Launch) (D : va_G) (cy : Nat → ClassId) (a_t : Nat) (a_t_text : Nat) (i_t_length : Int32) (f_t_text : Nat → Int32) (i_t_place : Int32) (i_t_start : Int32) (i_t_faultNumber : Int32) (i_t_faultByte : Int32) (p1 : Int32) (p2 : Int32) (rv : Int32) (z_i_t_place : Int32) (z_i_t_start : Int32) (z_i_t_faultNumber : Int32) (z_i_t_faultByte : Int32) (hf : f_X5_nextNumber i_t_length f_t_text i_t_place i_t_start i_t_faultNumber i_t_faultByte p1 p2 = some (rv, z_i_t_place, z_i_t_start, z_i_t_faultNumber, z_i_t_faultByte)) : MI l D cy yX5_nextNumber wsX5_nextNumber rmX5_nextNumber [.ref a_t, .int p1, .int p2] [(a_t, .inr (5, [.ref a_t_text, .int i_t_length, .int i_t_place, .int i_t_start, .int i_t_faultNumber, .int i_t_faultByte])), (a_t_text, .inl (cy 1, 500, .inl f_t_text))] [(a_t, .inr (5, [.ref a_t_text, .int i_t_length, .int z_i_t_place, .int z_i_t_start, .int z_i_t_faultNumber, .int z_i_t_faultByte])), (a_t_text, .inl (cy 1, 500, .inl f_t_text))] rv := by
  refine st_I (by decide) rfl (Nat.le_of_ble_eq_true rfl) (fun p e s m below meth c A Q ls C0 hA hK hP hD hS hl hret => ?_)
  obtain ⟨hx, hb, hr, hml, hown, hts, hlocks⟩ := id C0
  have hl : lv_has ls 4 [(0, .ref a_t), (1, .int p1), (2, .int p2)] := hl
  unfold f_X5_nextNumber at hf
  refine lv_aload_n hx hb dX5_nextNumber_0 rfl (lv_at hl 0 rfl) ?_
  obtain ⟨z_1, hc_2, hf⟩ := hb_b hf
  refine cl_Vv (rest := []) [0, 1] [some 0, some 1] 2 0 C0 hK hP hD hS hA (c_X5_skipBlanks l D cy a_t a_t_text (.int i_t_start) (.int i_t_faultNumber) (.int i_t_faultByte) i_t_length f_t_text i_t_place z_1 hc_2) (cwV 0 hts gX5_nextNumber_X5_skipBlanks rfl rfl rfl (by decide +kernel) ⟨Nat.le_of_ble_eq_true rfl, Nat.le_of_ble_eq_true rfl⟩) rfl (by decide) rfl rfl rfl rfl rfl rfl rfl hl.1 rfl (Nat.le_of_ble_eq_true rfl) dX5_nextNumber_1 ⟨Nat.zero_le _, Nat.zero_le _⟩ (fun H locs hP hD hS => ?_)
  have hP : va_P D vwCl [(a_t, .inr (5, [.ref a_t_text, .int i_t_length, .int z_1, .int i_t_start, .int i_t_faultNumber, .int i_t_faultByte])), (a_t_text, .inl (cy 1, 500, .inl f_t_text))] H := hP
  have hD : va_D A [(a_t, .inr (5, [.ref a_t_text, .int i_t_length, .int z_1, .int i_t_start, .int i_t_faultNumber, .int i_t_faultByte])), (a_t_text, .inl (cy 1, 500, .inl f_t_text))] := hD
  refine lv_aload_n hx hb dX5_nextNumber_4 rfl (lv_at hl 0 rfl) ?_
  refine lv_aload_n hx hb dX5_nextNumber_5 rfl (lv_at hl 0 rfl) ?_
  refine va_get (D := D) (ci := 5) (v := .int z_1) (C := RX5) (T := TX5) (N := 6) hx hb hts uX5_nextNumber_X5 hown hK.1.1 hP 0 rfl rfl 2 (by decide) (hts _ mX5_nextNumber_23) (fun _ h9 => h9) rfl dX5_nextNumber_6 ?_
  refine va_put (D := D) (ci := 5) (v := .int z_1) (ty := .int) (C := RX5) (T := TX5) (N := 6) hx hb hts uX5_nextNumber_X5 tyX5 tyX5_ok nmX5 hown hK.1.1 hP hD hS 0 rfl rfl 3 (by decide) (hts _ mX5_nextNumber_121) (fun _ h9 => h9) rfl (by decide +kernel) rfl rfl (Nat.le_of_ble_eq_true rfl) dX5_nextNumber_9 (fun H locs hP hD hS => ?_)
  have hP : va_P D vwCl [(a_t, .inr (5, [.ref a_t_text, .int i_t_length, .int z_1, .int z_1, .int i_t_faultNumber, .int i_t_faultByte])), (a_t_text, .inl (cy 1, 500, .inl f_t_text))] H := hP
  have hD : va_D A [(a_t, .inr (5, [.ref a_t_text, .int i_t_length, .int z_1, .int z_1, .int i_t_faultNumber, .int i_t_faultByte])), (a_t_text, .inl (cy 1, 500, .inl f_t_text))] := hD
  refine lv_iconst (v := 0) hx hb dX5_nextNumber_12 (by decide) ?_
  refine lv_istore_n (lv' := [(3, .int 0), (0, .ref a_t), (1, .int p1), (2, .int p2)]) hx hb dX5_nextNumber_13 rfl hl (by decide) rfl (fun ls hl => ?_)
  refine L_X5_nextNumber_14 l D cy a_t a_t_text i_t_length f_t_text rv z_i_t_place z_i_t_start z_i_t_faultNumber z_i_t_faultByte C0 hA hK (fun v1_10 v2_11 v3_12 z_13 z_14 z_15 z_16 H locs hf hP hD hS ls hl => ?_) FU p1 p2 0 z_1 z_1 i_t_faultNumber i_t_faultByte hf _ _ hP hD hS _ (lv_sub hl [1, 2, 3, 0] rfl)
  refine lv_aload_n hx hb dX5_nextNumber_97 rfl (lv_at hl 0 rfl) ?_
  refine va_get (D := D) (ci := 5) (v := .int z_13) (C := RX5) (T := TX5) (N := 6) hx hb hts uX5_nextNumber_X5 hown hK.1.1 hP 0 rfl rfl 2 (by decide) (hts _ mX5_nextNumber_23) (fun _ h9 => h9) rfl dX5_nextNumber_98 ?_
  refine lv_aload_n hx hb dX5_nextNumber_101 rfl (lv_at hl 0 rfl) ?_
  refine va_get (D := D) (ci := 5) (v := .int z_14) (C := RX5) (T := TX5) (N := 6) hx hb hts uX5_nextNumber_X5 hown hK.1.1 hP 0 rfl rfl 3 (by decide) (hts _ mX5_nextNumber_121) (fun _ h9 => h9) rfl dX5_nextNumber_102 ?_
  refine lv_icmp_ne (tgt := 116) hx hb dX5_nextNumber_105 (by decide) (fun c_17 => ?_) (fun c_17 => ?_)
  · have hf := hb_f hf c_17
    refine lv_aload_n hx hb dX5_nextNumber_116 rfl (lv_at hl 0 rfl) ?_
    refine va_get (D := D) (ci := 5) (v := .int z_13) (C := RX5) (T := TX5) (N := 6) hx hb hts uX5_nextNumber_X5 hown hK.1.1 hP 0 rfl rfl 2 (by decide) (hts _ mX5_nextNumber_23) (fun _ h9 => h9) rfl dX5_nextNumber_117 ?_
    refine lv_aload_n hx hb dX5_nextNumber_120 rfl (lv_at hl 0 rfl) ?_
    refine va_get (D := D) (ci := 5) (v := .int z_14) (C := RX5) (T := TX5) (N := 6) hx hb hts uX5_nextNumber_X5 hown hK.1.1 hP 0 rfl rfl 3 (by decide) (hts _ mX5_nextNumber_121) (fun _ h9 => h9) rfl dX5_nextNumber_121 ?_
    refine lv_isub hx hb dX5_nextNumber_124 ?_
    refine lv_iconst (v := 3) hx hb dX5_nextNumber_125 (by decide) ?_
    refine lv_icmp_gt (tgt := 139) hx hb dX5_nextNumber_126 (by decide) (fun c_18 => ?_) (fun c_18 => ?_)
    · have hf := hb_t hf c_18
      refine lv_aload_n hx hb dX5_nextNumber_139 rfl (lv_at hl 0 rfl) ?_
      refine lv_iconst (v := 2) hx hb dX5_nextNumber_140 (by decide) ?_
      obtain ⟨⟨z_19, z_20⟩, hc_21, hf⟩ := hb_b hf
      refine cl_Vv (rest := []) [0] [some 0, none] 2 0 C0 hK hP hD hS hA (c_X5_fail l D cy a_t (.ref a_t_text) (.int i_t_length) (.int z_13) z_14 z_15 z_16 2 z_19 z_20 hc_21) (cwV 1 hts gX5_nextNumber_X5_fail rfl rfl rfl (by decide +kernel) ⟨Nat.le_of_ble_eq_true rfl, Nat.le_of_ble_eq_true rfl⟩) rfl (by decide) rfl rfl rfl rfl rfl rfl rfl hl.1 rfl (Nat.le_of_ble_eq_true rfl) dX5_nextNumber_141 ⟨Nat.zero_le _, Nat.zero_le _⟩ (fun H locs hP hD hS => ?_)
      have hP : va_P D vwCl [(a_t, .inr (5, [.ref a_t_text, .int i_t_length, .int z_13, .int z_14, .int z_19, .int z_20])), (a_t_text, .inl (cy 1, 500, .inl f_t_text))] H := hP
      have hD : va_D A [(a_t, .inr (5, [.ref a_t_text, .int i_t_length, .int z_13, .int z_14, .int z_19, .int z_20])), (a_t_text, .inl (cy 1, 500, .inl f_t_text))] := hD
      refine lv_iload_n hx hb dX5_nextNumber_144 rfl (lv_at hl 3 rfl) ?_
      obtain ⟨e_0, e_1, e_2, e_3, e_4⟩ := tu5 hf
      subst e_0; subst e_1; subst e_2; subst e_3; subst e_4
      exact hret _ _ _ _ dX5_nextNumber_145 rfl hP hS
    · have hf := hb_f hf c_18
      refine lv_iload_n hx hb dX5_nextNumber_129 rfl (lv_at hl 3 rfl) ?_
      refine lv_iload_n hx hb dX5_nextNumber_130 rfl (lv_at hl 1 rfl) ?_
      refine lv_icmp_lt (tgt := 139) hx hb dX5_nextNumber_131 (by decide) (fun c_22 => ?_) (fun c_22 => ?_)
      · have hf := hb_t hf c_22
        refine lv_aload_n hx hb dX5_nextNumber_139 rfl (lv_at hl 0 rfl) ?_
        refine lv_iconst (v := 2) hx hb dX5_nextNumber_140 (by decide) ?_
        obtain ⟨⟨z_23, z_24⟩, hc_25, hf⟩ := hb_b hf
        refine cl_Vv (rest := []) [0] [some 0, none] 2 0 C0 hK hP hD hS hA (c_X5_fail l D cy a_t (.ref a_t_text) (.int i_t_length) (.int z_13) z_14 z_15 z_16 2 z_23 z_24 hc_25) (cwV 1 hts gX5_nextNumber_X5_fail rfl rfl rfl (by decide +kernel) ⟨Nat.le_of_ble_eq_true rfl, Nat.le_of_ble_eq_true rfl⟩) rfl (by decide) rfl rfl rfl rfl rfl rfl rfl hl.1 rfl (Nat.le_of_ble_eq_true rfl) dX5_nextNumber_141 ⟨Nat.zero_le _, Nat.zero_le _⟩ (fun H locs hP hD hS => ?_)
        have hP : va_P D vwCl [(a_t, .inr (5, [.ref a_t_text, .int i_t_length, .int z_13, .int z_14, .int z_23, .int z_24])), (a_t_text, .inl (cy 1, 500, .inl f_t_text))] H := hP
        have hD : va_D A [(a_t, .inr (5, [.ref a_t_text, .int i_t_length, .int z_13, .int z_14, .int z_23, .int z_24])), (a_t_text, .inl (cy 1, 500, .inl f_t_text))] := hD
        refine lv_iload_n hx hb dX5_nextNumber_144 rfl (lv_at hl 3 rfl) ?_
        obtain ⟨e_0, e_1, e_2, e_3, e_4⟩ := tu5 hf
        subst e_0; subst e_1; subst e_2; subst e_3; subst e_4
        exact hret _ _ _ _ dX5_nextNumber_145 rfl hP hS
      · have hf := hb_f hf c_22
        refine lv_iload_n hx hb dX5_nextNumber_134 rfl (lv_at hl 3 rfl) ?_
        refine lv_iload_n hx hb dX5_nextNumber_135 rfl (lv_at hl 2 rfl) ?_
        refine lv_icmp_le (tgt := 144) hx hb dX5_nextNumber_136 (by decide) (fun c_26 => ?_) (fun c_26 => ?_)
        · have hf := hb_t hf c_26
          refine lv_iload_n hx hb dX5_nextNumber_144 rfl (lv_at hl 3 rfl) ?_
          obtain ⟨e_0, e_1, e_2, e_3, e_4⟩ := tu5 hf
          subst e_0; subst e_1; subst e_2; subst e_3; subst e_4
          exact hret _ _ _ _ dX5_nextNumber_145 rfl hP hS
        · have hf := hb_f hf c_26
          refine lv_aload_n hx hb dX5_nextNumber_139 rfl (lv_at hl 0 rfl) ?_
          refine lv_iconst (v := 2) hx hb dX5_nextNumber_140 (by decide) ?_
          obtain ⟨⟨z_27, z_28⟩, hc_29, hf⟩ := hb_b hf
          refine cl_Vv (rest := []) [0] [some 0, none] 2 0 C0 hK hP hD hS hA (c_X5_fail l D cy a_t (.ref a_t_text) (.int i_t_length) (.int z_13) z_14 z_15 z_16 2 z_27 z_28 hc_29) (cwV 1 hts gX5_nextNumber_X5_fail rfl rfl rfl (by decide +kernel) ⟨Nat.le_of_ble_eq_true rfl, Nat.le_of_ble_eq_true rfl⟩) rfl (by decide) rfl rfl rfl rfl rfl rfl rfl hl.1 rfl (Nat.le_of_ble_eq_true rfl) dX5_nextNumber_141 ⟨Nat.zero_le _, Nat.zero_le _⟩ (fun H locs hP hD hS => ?_)
          have hP : va_P D vwCl [(a_t, .inr (5, [.ref a_t_text, .int i_t_length, .int z_13, .int z_14, .int z_27, .int z_28])), (a_t_text, .inl (cy 1, 500, .inl f_t_text))] H := hP
          have hD : va_D A [(a_t, .inr (5, [.ref a_t_text, .int i_t_length, .int z_13, .int z_14, .int z_27, .int z_28])), (a_t_text, .inl (cy 1, 500, .inl f_t_text))] := hD
          refine lv_iload_n hx hb dX5_nextNumber_144 rfl (lv_at hl 3 rfl) ?_
          obtain ⟨e_0, e_1, e_2, e_3, e_4⟩ := tu5 hf
          subst e_0; subst e_1; subst e_2; subst e_3; subst e_4
          exact hret _ _ _ _ dX5_nextNumber_145 rfl hP hS
  · have hf := hb_t hf c_17
    refine lv_aload_n hx hb dX5_nextNumber_108 rfl (lv_at hl 0 rfl) ?_
    refine lv_iconst (v := 1) hx hb dX5_nextNumber_109 (by decide) ?_
    obtain ⟨⟨z_30, z_31⟩, hc_32, hf⟩ := hb_b hf
    refine cl_Vv (rest := []) [0] [some 0, none] 2 0 C0 hK hP hD hS hA (c_X5_fail l D cy a_t (.ref a_t_text) (.int i_t_length) (.int z_13) z_14 z_15 z_16 1 z_30 z_31 hc_32) (cwV 1 hts gX5_nextNumber_X5_fail rfl rfl rfl (by decide +kernel) ⟨Nat.le_of_ble_eq_true rfl, Nat.le_of_ble_eq_true rfl⟩) rfl (by decide) rfl rfl rfl rfl rfl rfl rfl hl.1 rfl (Nat.le_of_ble_eq_true rfl) dX5_nextNumber_110 ⟨Nat.zero_le _, Nat.zero_le _⟩ (fun H locs hP hD hS => ?_)
    have hP : va_P D vwCl [(a_t, .inr (5, [.ref a_t_text, .int i_t_length, .int z_13, .int z_14, .int z_30, .int z_31])), (a_t_text, .inl (cy 1, 500, .inl f_t_text))] H := hP
    have hD : va_D A [(a_t, .inr (5, [.ref a_t_text, .int i_t_length, .int z_13, .int z_14, .int z_30, .int z_31])), (a_t_text, .inl (cy 1, 500, .inl f_t_text))] := hD
    refine lv_goto (tgt := 144) hx hb dX5_nextNumber_113 (by decide) ?_
    refine lv_iload_n hx hb dX5_nextNumber_144 rfl (lv_at hl 3 rfl) ?_
    obtain ⟨e_0, e_1, e_2, e_3, e_4⟩ := tu5 hf
    subst e_0; subst e_1; subst e_2; subst e_3; subst e_4
    exact hret _ _ _ _ dX5_nextNumber_145 rfl hP hS
theorem mX5_nextSign_23 : Cond.fieldLink RX5 23 "OneWordLetters$Reader" "place" "I" ∈ wsX5_nextSign := by decide +kernel
theorem uX5_nextSign_X5 : ∀ w ∈ wsX50, w ∈ wsX5_nextSign := fun _ h => List.mem_cons_of_mem _ (List.mem_append_right _ h)
theorem mX5_nextSign_121 : Cond.fieldLink RX5 121 "OneWordLetters$Reader" "start" "I" ∈ wsX5_nextSign := by decide +kernel
theorem mX5_nextSign_19 : Cond.fieldLink RX5 19 "OneWordLetters$Reader" "length" "I" ∈ wsX5_nextSign := by decide +kernel
theorem mX5_nextSign_9 : Cond.fieldLink RX5 9 "OneWordLetters$Reader" "text" "[B" ∈ wsX5_nextSign := by decide +kernel
abbrev rmX5_nextSign : Room := { frames := 1, cells := 0, slots := 0, locals := 21 }
set_option maxRecDepth 100000 in
set_option maxHeartbeats 4000000 in
theorem c_X5_nextSign (l : Launch) (D : va_G) (cy : Nat → ClassId) (a_t : Nat) (a_t_text : Nat) (i_t_length : Int32) (f_t_text : Nat → Int32) (i_t_place : Int32) (i_t_start : Int32) (i_t_faultNumber : Int32) (i_t_faultByte : Int32) (p1 : Int32) (z_i_t_place : Int32) (z_i_t_start : Int32) (z_i_t_faultNumber : Int32) (z_i_t_faultByte : Int32) (hf : f_X5_nextSign i_t_length f_t_text i_t_place i_t_start i_t_faultNumber i_t_faultByte p1 = some (z_i_t_place, z_i_t_start, z_i_t_faultNumber, z_i_t_faultByte)) : MV l D cy yX5_nextSign wsX5_nextSign rmX5_nextSign [.ref a_t, .int p1] [(a_t, .inr (5, [.ref a_t_text, .int i_t_length, .int i_t_place, .int i_t_start, .int i_t_faultNumber, .int i_t_faultByte])), (a_t_text, .inl (cy 1, 500, .inl f_t_text))] [(a_t, .inr (5, [.ref a_t_text, .int i_t_length, .int z_i_t_place, .int z_i_t_start, .int z_i_t_faultNumber, .int z_i_t_faultByte])), (a_t_text, .inl (cy 1, 500, .inl f_t_text))] := by
  refine st_V (by decide) rfl (Nat.le_of_ble_eq_true rfl) (fun p e s m below meth c A Q ls C0 hA hK hP hD hS hl hret => ?_)
  obtain ⟨hx, hb, hr, hml, hown, hts, hlocks⟩ := id C0
  have hl : lv_has ls 2 [(0, .ref a_t), (1, .int p1)] := hl
  unfold f_X5_nextSign at hf
  refine lv_aload_n hx hb dX5_nextSign_0 rfl (lv_at hl 0 rfl) ?_
  obtain ⟨z_1, hc_2, hf⟩ := hb_b hf
  refine cl_Vv (rest := []) [0, 1] [some 0, some 1] 2 0 C0 hK hP hD hS hA (c_X5_skipBlanks l D cy a_t a_t_text (.int i_t_start) (.int i_t_faultNumber) (.int i_t_faultByte) i_t_length f_t_text i_t_place z_1 hc_2) (cwV 0 hts gX5_nextSign_X5_skipBlanks rfl rfl rfl (by decide +kernel) ⟨Nat.le_of_ble_eq_true rfl, Nat.le_of_ble_eq_true rfl⟩) rfl (by decide) rfl rfl rfl rfl rfl rfl rfl hl.1 rfl (Nat.le_of_ble_eq_true rfl) dX5_nextSign_1 ⟨Nat.zero_le _, Nat.zero_le _⟩ (fun H locs hP hD hS => ?_)
  have hP : va_P D vwCl [(a_t, .inr (5, [.ref a_t_text, .int i_t_length, .int z_1, .int i_t_start, .int i_t_faultNumber, .int i_t_faultByte])), (a_t_text, .inl (cy 1, 500, .inl f_t_text))] H := hP
  have hD : va_D A [(a_t, .inr (5, [.ref a_t_text, .int i_t_length, .int z_1, .int i_t_start, .int i_t_faultNumber, .int i_t_faultByte])), (a_t_text, .inl (cy 1, 500, .inl f_t_text))] := hD
  refine lv_aload_n hx hb dX5_nextSign_4 rfl (lv_at hl 0 rfl) ?_
  refine lv_aload_n hx hb dX5_nextSign_5 rfl (lv_at hl 0 rfl) ?_
  refine va_get (D := D) (ci := 5) (v := .int z_1) (C := RX5) (T := TX5) (N := 6) hx hb hts uX5_nextSign_X5 hown hK.1.1 hP 0 rfl rfl 2 (by decide) (hts _ mX5_nextSign_23) (fun _ h9 => h9) rfl dX5_nextSign_6 ?_
  refine va_put (D := D) (ci := 5) (v := .int z_1) (ty := .int) (C := RX5) (T := TX5) (N := 6) hx hb hts uX5_nextSign_X5 tyX5 tyX5_ok nmX5 hown hK.1.1 hP hD hS 0 rfl rfl 3 (by decide) (hts _ mX5_nextSign_121) (fun _ h9 => h9) rfl (by decide +kernel) rfl rfl (Nat.le_of_ble_eq_true rfl) dX5_nextSign_9 (fun H locs hP hD hS => ?_)
  have hP : va_P D vwCl [(a_t, .inr (5, [.ref a_t_text, .int i_t_length, .int z_1, .int z_1, .int i_t_faultNumber, .int i_t_faultByte])), (a_t_text, .inl (cy 1, 500, .inl f_t_text))] H := hP
  have hD : va_D A [(a_t, .inr (5, [.ref a_t_text, .int i_t_length, .int z_1, .int z_1, .int i_t_faultNumber, .int i_t_faultByte])), (a_t_text, .inl (cy 1, 500, .inl f_t_text))] := hD
  refine lv_aload_n hx hb dX5_nextSign_12 rfl (lv_at hl 0 rfl) ?_
  refine va_get (D := D) (ci := 5) (v := .int z_1) (C := RX5) (T := TX5) (N := 6) hx hb hts uX5_nextSign_X5 hown hK.1.1 hP 0 rfl rfl 2 (by decide) (hts _ mX5_nextSign_23) (fun _ h9 => h9) rfl dX5_nextSign_13 ?_
  refine lv_aload_n hx hb dX5_nextSign_16 rfl (lv_at hl 0 rfl) ?_
  refine va_get (D := D) (ci := 5) (v := .int i_t_length) (C := RX5) (T := TX5) (N := 6) hx hb hts uX5_nextSign_X5 hown hK.1.1 hP 0 rfl rfl 1 (by decide) (hts _ mX5_nextSign_19) (fun _ h9 => h9) rfl dX5_nextSign_17 ?_
  refine lv_icmp_ge (tgt := 49) hx hb dX5_nextSign_20 (by decide) (fun c_3 => ?_) (fun c_3 => ?_)
  · have hf := hb_t hf c_3
    refine lv_aload_n hx hb dX5_nextSign_49 rfl (lv_at hl 0 rfl) ?_
    refine lv_iconst (v := 1) hx hb dX5_nextSign_50 (by decide) ?_
    obtain ⟨⟨z_4, z_5⟩, hc_6, hf⟩ := hb_b hf
    refine cl_Vv (rest := []) [0] [some 0, none] 2 0 C0 hK hP hD hS hA (c_X5_fail l D cy a_t (.ref a_t_text) (.int i_t_length) (.int z_1) z_1 i_t_faultNumber i_t_faultByte 1 z_4 z_5 hc_6) (cwV 1 hts gX5_nextSign_X5_fail rfl rfl rfl (by decide +kernel) ⟨Nat.le_of_ble_eq_true rfl, Nat.le_of_ble_eq_true rfl⟩) rfl (by decide) rfl rfl rfl rfl rfl rfl rfl hl.1 rfl (Nat.le_of_ble_eq_true rfl) dX5_nextSign_51 ⟨Nat.zero_le _, Nat.zero_le _⟩ (fun H locs hP hD hS => ?_)
    have hP : va_P D vwCl [(a_t, .inr (5, [.ref a_t_text, .int i_t_length, .int z_1, .int z_1, .int z_4, .int z_5])), (a_t_text, .inl (cy 1, 500, .inl f_t_text))] H := hP
    have hD : va_D A [(a_t, .inr (5, [.ref a_t_text, .int i_t_length, .int z_1, .int z_1, .int z_4, .int z_5])), (a_t_text, .inl (cy 1, 500, .inl f_t_text))] := hD
    obtain ⟨e_0, e_1, e_2, e_3⟩ := tu4 hf
    subst e_0; subst e_1; subst e_2; subst e_3
    exact hret _ _ _ _ dX5_nextSign_54 hP hS
  · have hf := hb_f hf c_3
    refine lv_aload_n hx hb dX5_nextSign_23 rfl (lv_at hl 0 rfl) ?_
    refine va_get (D := D) (ci := 5) (v := .ref a_t_text) (C := RX5) (T := TX5) (N := 6) hx hb hts uX5_nextSign_X5 hown hK.1.1 hP 0 rfl rfl 0 (by decide) (hts _ mX5_nextSign_9) (fun _ h9 => h9) rfl dX5_nextSign_24 ?_
    refine lv_aload_n hx hb dX5_nextSign_27 rfl (lv_at hl 0 rfl) ?_
    refine va_get (D := D) (ci := 5) (v := .int z_1) (C := RX5) (T := TX5) (N := 6) hx hb hts uX5_nextSign_X5 hown hK.1.1 hP 0 rfl rfl 2 (by decide) (hts _ mX5_nextSign_23) (fun _ h9 => h9) rfl dX5_nextSign_28 ?_
    obtain ⟨hg_7, hf⟩ := hb_g hf
    refine va_bald hx hb hK.1.1 hP 1 1 rfl rfl (ixb_in hg_7) dX5_nextSign_31 ?_
    refine lv_iload_n hx hb dX5_nextSign_32 rfl (lv_at hl 1 rfl) ?_
    refine lv_icmp_ne (tgt := 49) hx hb dX5_nextSign_33 (by decide) (fun c_8 => ?_) (fun c_8 => ?_)
    · have hf := hb_f hf c_8
      refine lv_aload_n hx hb dX5_nextSign_49 rfl (lv_at hl 0 rfl) ?_
      refine lv_iconst (v := 1) hx hb dX5_nextSign_50 (by decide) ?_
      obtain ⟨⟨z_9, z_10⟩, hc_11, hf⟩ := hb_b hf
      refine cl_Vv (rest := []) [0] [some 0, none] 2 0 C0 hK hP hD hS hA (c_X5_fail l D cy a_t (.ref a_t_text) (.int i_t_length) (.int z_1) z_1 i_t_faultNumber i_t_faultByte 1 z_9 z_10 hc_11) (cwV 1 hts gX5_nextSign_X5_fail rfl rfl rfl (by decide +kernel) ⟨Nat.le_of_ble_eq_true rfl, Nat.le_of_ble_eq_true rfl⟩) rfl (by decide) rfl rfl rfl rfl rfl rfl rfl hl.1 rfl (Nat.le_of_ble_eq_true rfl) dX5_nextSign_51 ⟨Nat.zero_le _, Nat.zero_le _⟩ (fun H locs hP hD hS => ?_)
      have hP : va_P D vwCl [(a_t, .inr (5, [.ref a_t_text, .int i_t_length, .int z_1, .int z_1, .int z_9, .int z_10])), (a_t_text, .inl (cy 1, 500, .inl f_t_text))] H := hP
      have hD : va_D A [(a_t, .inr (5, [.ref a_t_text, .int i_t_length, .int z_1, .int z_1, .int z_9, .int z_10])), (a_t_text, .inl (cy 1, 500, .inl f_t_text))] := hD
      obtain ⟨e_0, e_1, e_2, e_3⟩ := tu4 hf
      subst e_0; subst e_1; subst e_2; subst e_3
      exact hret _ _ _ _ dX5_nextSign_54 hP hS
    · have hf := hb_t hf c_8
      refine lv_aload_n hx hb dX5_nextSign_36 rfl (lv_at hl 0 rfl) ?_
      refine lv_dup hx hb dX5_nextSign_37 rfl ?_
      refine va_get (D := D) (ci := 5) (v := .int z_1) (C := RX5) (T := TX5) (N := 6) hx hb hts uX5_nextSign_X5 hown hK.1.1 hP 0 rfl rfl 2 (by decide) (hts _ mX5_nextSign_23) (fun _ h9 => h9) rfl dX5_nextSign_38 ?_
      refine lv_iconst (v := 1) hx hb dX5_nextSign_41 (by decide) ?_
      refine lv_iadd hx hb dX5_nextSign_42 ?_
      refine va_put (D := D) (ci := 5) (v := .int (z_1 + 1)) (ty := .int) (C := RX5) (T := TX5) (N := 6) hx hb hts uX5_nextSign_X5 tyX5 tyX5_ok nmX5 hown hK.1.1 hP hD hS 0 rfl rfl 2 (by decide) (hts _ mX5_nextSign_23) (fun _ h9 => h9) rfl (by decide +kernel) rfl rfl (Nat.le_of_ble_eq_true rfl) dX5_nextSign_43 (fun H locs hP hD hS => ?_)
      have hP : va_P D vwCl [(a_t, .inr (5, [.ref a_t_text, .int i_t_length, .int (z_1 + 1), .int z_1, .int i_t_faultNumber, .int i_t_faultByte])), (a_t_text, .inl (cy 1, 500, .inl f_t_text))] H := hP
      have hD : va_D A [(a_t, .inr (5, [.ref a_t_text, .int i_t_length, .int (z_1 + 1), .int z_1, .int i_t_faultNumber, .int i_t_faultByte])), (a_t_text, .inl (cy 1, 500, .inl f_t_text))] := hD
      refine lv_goto (tgt := 54) hx hb dX5_nextSign_46 (by decide) ?_
      obtain ⟨e_0, e_1, e_2, e_3⟩ := tu4 hf
      subst e_0; subst e_1; subst e_2; subst e_3
      exact hret _ _ _ _ dX5_nextSign_54 hP hS
