abbrev rmJ7_fill_53178 : Room := { frames := 0, cells := 0, slots := 0, locals := 0 }
set_option maxRecDepth 100000 in
set_option maxHeartbeats 4000000 in
theorem L_J7_fill_53178_5 {p : Program} {e : Env} {s : State} {m : MethodId} {args : Array Value} {below : List Frame} {meth : Method} {c : Code} {Q : State → Prop} {A : Nat → Prop} (l : Launch) (D : va_G) (cy : Nat → ClassId) (a_p1 : Nat) (n_p1 : Nat) (z_f_p1 : Nat → Int32) (C0 : CX p s m args meth c cJ7_fill_53178 4 none wsJ7_fill_53178 RJ7) (hA : ∀ q, s.heap.size ≤ q → A q) (hK : KZ D cy A s) (hret : ∀ (H : Heap) (locs : List Loc) (ls : Array Slot) (pc : Nat), decode cJ7_fill_53178 pc = .ok (.return_, 1) → va_P D vwCl [(a_p1, .inl (cy 0, n_p1, .inl z_f_p1))] H → va_S A s.heap H locs → W p l e rmJ7_fill_53178 s m args below meth c H locs 0 0 Q (F0 m pc ls [])) : ∀ (n : Nat) (v1 : Int32) (v2 : Int32) (v3 : Int32) (f_p1 : Nat → Int32), f_J7_fill_53178_L5 n_p1 n v1 v2 v3 f_p1 = some z_f_p1 → ∀ (H : Heap) (locs : List Loc), va_P D vwCl [(a_p1, .inl (cy 0, n_p1, .inl f_p1))] H → va_D A [(a_p1, .inl (cy 0, n_p1, .inl f_p1))] → va_S A s.heap H locs → ∀ ls : Array Slot, lv_has ls 4 [(0, .ref a_p1), (1, .int v1), (2, .int v2), (3, .int v3)] → W p l e rmJ7_fill_53178 s m args below meth c H locs 0 0 Q (F0 m 5 ls []) := by
  obtain ⟨hx, hb, hr, hml, hown, hts, hlocks⟩ := id C0
  intro n
  induction n with
  | zero => intro _ _ _ _ hf; rw [f_J7_fill_53178_L5.eq_1] at hf; cases hf
  | succ n ih =>
    intro v1 v2 v3 f_p1 hf H locs hP hD hS ls hl
    rw [f_J7_fill_53178_L5.eq_2] at hf
    refine lv_iload_n hx hb dJ7_fill_53178_5 rfl (lv_at hl 2 rfl) ?_
    refine lv_iload_n hx hb dJ7_fill_53178_6 rfl (lv_at hl 3 rfl) ?_
    refine lv_icmp_ge (tgt := 20) hx hb dJ7_fill_53178_7 (by decide) (fun c_1 => ?_) (fun c_1 => ?_)
    · have hf := hb_t hf c_1
      have hf := Option.some.inj hf
      subst hf
      exact hret _ _ _ _ dJ7_fill_53178_20 hP hS
    · have hf := hb_f hf c_1
      refine lv_aload_n hx hb dJ7_fill_53178_10 rfl (lv_at hl 0 rfl) ?_
      refine lv_iload_n hx hb dJ7_fill_53178_11 rfl (lv_at hl 2 rfl) ?_
      refine lv_iload_n hx hb dJ7_fill_53178_12 rfl (lv_at hl 1 rfl) ?_
      obtain ⟨hg_2, hf⟩ := hb_g hf
      refine va_iast hx hb hK.1.1 hP hD hS 0 0 rfl rfl (ixb_in hg_2) dJ7_fill_53178_13 (fun H locs hP hD hS => ?_)
      have hP : va_P D vwCl [(a_p1, .inl (cy 0, n_p1, .inl (upd f_p1 (v2 : Int32).toNatClampNeg v1)))] H := hP
      have hD : va_D A [(a_p1, .inl (cy 0, n_p1, .inl (upd f_p1 (v2 : Int32).toNatClampNeg v1)))] := hD
      refine lv_iinc (v := (v2 + 1)) (lv' := [(2, .int (v2 + 1)), (0, .ref a_p1), (1, .int v1), (3, .int v3)]) hx hb dJ7_fill_53178_14 hl (k := 2) rfl rfl (by decide) rfl (fun ls hl => ?_)
      refine lv_goto (tgt := 5) hx hb dJ7_fill_53178_17 (by decide) ?_
      exact ih v1 (v2 + 1) v3 (upd f_p1 (v2 : Int32).toNatClampNeg v1) hf _ _ hP hD hS _ (lv_sub hl [1, 2, 0, 3] rfl)
set_option maxRecDepth 100000 in
set_option maxHeartbeats 4000000 in
theorem c_J7_fill_53178 (l : Launch) (D : va_G) (cy : Nat → ClassId) (a_p1 : Nat) (n_p1 : Nat) (f_p1 : Nat → Int32) (p2 : Int32) (z_f_p1 : Nat → Int32) (hf : f_J7_fill_53178 n_p1 f_p1 p2 = some z_f_p1) : MV l D cy yJ7_fill_53178 wsJ7_fill_53178 rmJ7_fill_53178 [.ref a_p1, .int p2] [(a_p1, .inl (cy 0, n_p1, .inl f_p1))] [(a_p1, .inl (cy 0, n_p1, .inl z_f_p1))] := by
  refine st_V (by decide) rfl (Nat.le_of_ble_eq_true rfl) (fun p e s m below meth c A Q ls C0 hA hK hP hD hS hl hret => ?_)
  obtain ⟨hx, hb, hr, hml, hown, hts, hlocks⟩ := id C0
  have hl : lv_has ls 4 [(0, .ref a_p1), (1, .int p2)] := hl
  unfold f_J7_fill_53178 at hf
  refine lv_iconst (v := 0) hx hb dJ7_fill_53178_0 (by decide) ?_
  refine lv_istore_n (lv' := [(2, .int 0), (0, .ref a_p1), (1, .int p2)]) hx hb dJ7_fill_53178_1 rfl hl (by decide) rfl (fun ls hl => ?_)
  refine lv_aload_n hx hb dJ7_fill_53178_2 rfl (lv_at hl 1 rfl) ?_
  refine va_alen (v := nI n_p1) (ty := .int) hx hb hK.1.1 hP 0 0 rfl rfl rfl dJ7_fill_53178_3 ?_
  refine lv_istore_n (lv' := [(3, .int (nI n_p1)), (2, .int 0), (0, .ref a_p1), (1, .int p2)]) hx hb dJ7_fill_53178_4 rfl hl (by decide) rfl (fun ls hl => ?_)
  refine L_J7_fill_53178_5 l D cy a_p1 n_p1 z_f_p1 C0 hA hK hret  FU p2 0 (nI n_p1) f_p1 hf _ _ hP hD hS _ (lv_sub hl [2, 3, 1, 0] rfl)
theorem mX0_restart_18 : Cond.fieldLink RX0 18 "OneWordLetters$Course" "letter" "I" ∈ wsX0_restart := by decide +kernel
theorem uX0_restart_X0 : ∀ w ∈ wsX00, w ∈ wsX0_restart := fun _ h => List.mem_cons_of_mem _ (List.mem_append_right _ h)
theorem mX0_restart_22 : Cond.fieldLink RX0 22 "OneWordLetters$Course" "turn" "I" ∈ wsX0_restart := by decide +kernel
theorem mX0_restart_25 : Cond.fieldLink RX0 25 "OneWordLetters$Course" "settled" "Z" ∈ wsX0_restart := by decide +kernel
theorem mX0_restart_9 : Cond.fieldLink RX0 9 "OneWordLetters$Course" "gained" "[I" ∈ wsX0_restart := by decide +kernel
theorem mX0_restart_35 : Cond.fieldLink RX0 35 "OneWordLetters$Course" "sent" "I" ∈ wsX0_restart := by decide +kernel
abbrev rmX0_restart : Room := { frames := 1, cells := 0, slots := 0, locals := 23 }
set_option maxRecDepth 100000 in
set_option maxHeartbeats 4000000 in
theorem c_X0_restart (l : Launch) (D : va_G) (cy : Nat → ClassId) (a_t : Nat) (a_t_gained : Nat) (o_t_entries : Value) (o_t_law : Value) (o_t_way : Value) (o_t_seed : Value) (i_t_letter : Int32) (i_t_turn : Int32) (i_t_settled : Int32) (i_t_sent : Int32) (f_t_gained : Nat → Int32) (z_i_t_letter : Int32) (z_i_t_turn : Int32) (z_i_t_settled : Int32) (z_i_t_sent : Int32) (z_f_t_gained : Nat → Int32) (hf : f_X0_restart i_t_letter i_t_turn i_t_settled i_t_sent f_t_gained = some (z_i_t_letter, z_i_t_turn, z_i_t_settled, z_i_t_sent, z_f_t_gained)) : MV l D cy yX0_restart wsX0_restart rmX0_restart [.ref a_t] [(a_t, .inr (0, [.int i_t_letter, .int i_t_turn, .int i_t_settled, .ref a_t_gained, o_t_entries, .int i_t_sent, o_t_law, o_t_way, o_t_seed])), (a_t_gained, .inl (cy 0, 2, .inl f_t_gained))] [(a_t, .inr (0, [.int z_i_t_letter, .int z_i_t_turn, .int z_i_t_settled, .ref a_t_gained, o_t_entries, .int z_i_t_sent, o_t_law, o_t_way, o_t_seed])), (a_t_gained, .inl (cy 0, 2, .inl z_f_t_gained))] := by
  refine st_V (by decide) rfl (Nat.le_of_ble_eq_true rfl) (fun p e s m below meth c A Q ls C0 hA hK hP hD hS hl hret => ?_)
  obtain ⟨hx, hb, hr, hml, hown, hts, hlocks⟩ := id C0
  have hl : lv_has ls 1 [(0, .ref a_t)] := hl
  unfold f_X0_restart at hf
  refine lv_aload_n hx hb dX0_restart_0 rfl (lv_at hl 0 rfl) ?_
  refine lv_iconst (v := 0) hx hb dX0_restart_1 (by decide) ?_
  refine va_put (D := D) (ci := 0) (v := .int 0) (ty := .int) (C := RX0) (T := TX0) (N := 9) hx hb hts uX0_restart_X0 tyX0 tyX0_ok nmX0 hown hK.1.1 hP hD hS 0 rfl rfl 0 (by decide) (hts _ mX0_restart_18) (fun _ h9 => h9) rfl (by decide +kernel) rfl rfl (Nat.le_of_ble_eq_true rfl) dX0_restart_2 (fun H locs hP hD hS => ?_)
  have hP : va_P D vwCl [(a_t, .inr (0, [.int 0, .int i_t_turn, .int i_t_settled, .ref a_t_gained, o_t_entries, .int i_t_sent, o_t_law, o_t_way, o_t_seed])), (a_t_gained, .inl (cy 0, 2, .inl f_t_gained))] H := hP
  have hD : va_D A [(a_t, .inr (0, [.int 0, .int i_t_turn, .int i_t_settled, .ref a_t_gained, o_t_entries, .int i_t_sent, o_t_law, o_t_way, o_t_seed])), (a_t_gained, .inl (cy 0, 2, .inl f_t_gained))] := hD
  refine lv_aload_n hx hb dX0_restart_5 rfl (lv_at hl 0 rfl) ?_
  refine lv_iconst (v := 0) hx hb dX0_restart_6 (by decide) ?_
  refine va_put (D := D) (ci := 0) (v := .int 0) (ty := .int) (C := RX0) (T := TX0) (N := 9) hx hb hts uX0_restart_X0 tyX0 tyX0_ok nmX0 hown hK.1.1 hP hD hS 0 rfl rfl 1 (by decide) (hts _ mX0_restart_22) (fun _ h9 => h9) rfl (by decide +kernel) rfl rfl (Nat.le_of_ble_eq_true rfl) dX0_restart_7 (fun H locs hP hD hS => ?_)
  have hP : va_P D vwCl [(a_t, .inr (0, [.int 0, .int 0, .int i_t_settled, .ref a_t_gained, o_t_entries, .int i_t_sent, o_t_law, o_t_way, o_t_seed])), (a_t_gained, .inl (cy 0, 2, .inl f_t_gained))] H := hP
  have hD : va_D A [(a_t, .inr (0, [.int 0, .int 0, .int i_t_settled, .ref a_t_gained, o_t_entries, .int i_t_sent, o_t_law, o_t_way, o_t_seed])), (a_t_gained, .inl (cy 0, 2, .inl f_t_gained))] := hD
  refine lv_aload_n hx hb dX0_restart_10 rfl (lv_at hl 0 rfl) ?_
  refine lv_iconst (v := 0) hx hb dX0_restart_11 (by decide) ?_
  refine va_put (D := D) (ci := 0) (v := .int 0) (ty := .boolean) (C := RX0) (T := TX0) (N := 9) hx hb hts uX0_restart_X0 tyX0 tyX0_ok nmX0 hown hK.1.1 hP hD hS 0 rfl rfl 2 (by decide) (hts _ mX0_restart_25) (fun _ h9 => h9) rfl (by decide +kernel) rfl rfl (Nat.le_of_ble_eq_true rfl) dX0_restart_12 (fun H locs hP hD hS => ?_)
  have hP : va_P D vwCl [(a_t, .inr (0, [.int 0, .int 0, .int 0, .ref a_t_gained, o_t_entries, .int i_t_sent, o_t_law, o_t_way, o_t_seed])), (a_t_gained, .inl (cy 0, 2, .inl f_t_gained))] H := hP
  have hD : va_D A [(a_t, .inr (0, [.int 0, .int 0, .int 0, .ref a_t_gained, o_t_entries, .int i_t_sent, o_t_law, o_t_way, o_t_seed])), (a_t_gained, .inl (cy 0, 2, .inl f_t_gained))] := hD
  refine lv_aload_n hx hb dX0_restart_15 rfl (lv_at hl 0 rfl) ?_
  refine va_get (D := D) (ci := 0) (v := .ref a_t_gained) (C := RX0) (T := TX0) (N := 9) hx hb hts uX0_restart_X0 hown hK.1.1 hP 0 rfl rfl 3 (by decide) (hts _ mX0_restart_9) (fun _ h9 => h9) rfl dX0_restart_16 ?_
  refine lv_iconst (v := 0) hx hb dX0_restart_19 (by decide) ?_
  obtain ⟨z_1, hc_2, hf⟩ := hb_b hf
  refine cl_Sv (rest := []) [1] [none, some 0] 2 C0 hK hP hD hS hA (c_J7_fill_53178 l D cy a_t_gained 2 f_t_gained 0 z_1 hc_2) (va_cwS 2 hts gX0_restart_J7_fill_53178 rfl rfl rfl (by decide +kernel) ⟨Nat.le_of_ble_eq_true rfl, Nat.le_of_ble_eq_true rfl⟩) rfl (by decide) rfl rfl rfl rfl hl.1 rfl (Nat.le_of_ble_eq_true rfl) dX0_restart_20 ⟨Nat.zero_le _, Nat.zero_le _⟩ (fun H locs hP hD hS => ?_)
  have hP : va_P D vwCl [(a_t, .inr (0, [.int 0, .int 0, .int 0, .ref a_t_gained, o_t_entries, .int i_t_sent, o_t_law, o_t_way, o_t_seed])), (a_t_gained, .inl (cy 0, 2, .inl z_1))] H := hP
  have hD : va_D A [(a_t, .inr (0, [.int 0, .int 0, .int 0, .ref a_t_gained, o_t_entries, .int i_t_sent, o_t_law, o_t_way, o_t_seed])), (a_t_gained, .inl (cy 0, 2, .inl z_1))] := hD
  refine lv_aload_n hx hb dX0_restart_23 rfl (lv_at hl 0 rfl) ?_
  refine lv_iconst (v := 0) hx hb dX0_restart_24 (by decide) ?_
  refine va_put (D := D) (ci := 0) (v := .int 0) (ty := .int) (C := RX0) (T := TX0) (N := 9) hx hb hts uX0_restart_X0 tyX0 tyX0_ok nmX0 hown hK.1.1 hP hD hS 0 rfl rfl 5 (by decide) (hts _ mX0_restart_35) (fun _ h9 => h9) rfl (by decide +kernel) rfl rfl (Nat.le_of_ble_eq_true rfl) dX0_restart_25 (fun H locs hP hD hS => ?_)
  have hP : va_P D vwCl [(a_t, .inr (0, [.int 0, .int 0, .int 0, .ref a_t_gained, o_t_entries, .int 0, o_t_law, o_t_way, o_t_seed])), (a_t_gained, .inl (cy 0, 2, .inl z_1))] H := hP
  have hD : va_D A [(a_t, .inr (0, [.int 0, .int 0, .int 0, .ref a_t_gained, o_t_entries, .int 0, o_t_law, o_t_way, o_t_seed])), (a_t_gained, .inl (cy 0, 2, .inl z_1))] := hD
  obtain ⟨e_0, e_1, e_2, e_3, e_4⟩ := tu5 hf
  subst e_0; subst e_1; subst e_2; subst e_3; subst e_4
  exact hret _ _ _ _ dX0_restart_28 hP hS
theorem mX0_become_18 : Cond.fieldLink RX0 18 "OneWordLetters$Course" "letter" "I" ∈ wsX0_become := by decide +kernel
theorem uX0_become_X0 : ∀ w ∈ wsX00, w ∈ wsX0_become := fun _ h => List.mem_cons_of_mem _ (List.mem_append_right _ h)
theorem mX0_become_22 : Cond.fieldLink RX0 22 "OneWordLetters$Course" "turn" "I" ∈ wsX0_become := by decide +kernel
theorem mX0_become_25 : Cond.fieldLink RX0 25 "OneWordLetters$Course" "settled" "Z" ∈ wsX0_become := by decide +kernel
theorem mX0_become_9 : Cond.fieldLink RX0 9 "OneWordLetters$Course" "gained" "[I" ∈ wsX0_become := by decide +kernel
theorem mX0_become_38 : Cond.methodLink RX0 38 arraycopyName ∈ wsX0_become := by decide +kernel
theorem mX0_become_nat : Cond.native arraycopyName ∈ wsX0_become := by decide +kernel
theorem mX0_become_sta : Cond.static arraycopyName ∈ wsX0_become := by decide +kernel
theorem mX0_become_isy : Cond.initialized "java/lang/System" ∈ wsX0_become := by decide +kernel
theorem mX0_become_15 : Cond.fieldLink RX0 15 "OneWordLetters$Course" "entries" "[I" ∈ wsX0_become := by decide +kernel
theorem mX0_become_35 : Cond.fieldLink RX0 35 "OneWordLetters$Course" "sent" "I" ∈ wsX0_become := by decide +kernel
theorem mX0_become_44 : Cond.fieldLink RX0 44 "OneWordLetters$Course" "law" "I" ∈ wsX0_become := by decide +kernel
theorem mX0_become_47 : Cond.fieldLink RX0 47 "OneWordLetters$Course" "way" "I" ∈ wsX0_become := by decide +kernel
theorem mX0_become_50 : Cond.fieldLink RX0 50 "OneWordLetters$Course" "seed" "I" ∈ wsX0_become := by decide +kernel
abbrev rmX0_become : Room := { frames := 1, cells := 0, slots := 0, locals := 60 }
set_option maxRecDepth 100000 in
set_option maxHeartbeats 4000000 in
theorem c_X0_become (l : Launch) (D : va_G) (cy : Nat → ClassId) (a_t : Nat) (a_p1 : Nat) (a_p1_gained : Nat) (a_t_gained : Nat) (a_p1_entries : Nat) (a_t_entries : Nat) (i_p1_letter : Int32) (i_p1_turn : Int32) (i_p1_settled : Int32) (i_p1_sent : Int32) (i_p1_law : Int32) (i_p1_way : Int32) (i_p1_seed : Int32) (f_p1_gained : Nat → Int32) (f_p1_entries : Nat → Int32) (i_t_letter : Int32) (i_t_turn : Int32) (i_t_settled : Int32) (i_t_sent : Int32) (i_t_law : Int32) (i_t_way : Int32) (i_t_seed : Int32) (f_t_gained : Nat → Int32) (f_t_entries : Nat → Int32) (z_i_t_letter : Int32) (z_i_t_turn : Int32) (z_i_t_settled : Int32) (z_i_t_sent : Int32) (z_i_t_law : Int32) (z_i_t_way : Int32) (z_i_t_seed : Int32) (z_f_t_gained : Nat → Int32) (z_f_t_entries : Nat → Int32) (hf : f_X0_become i_p1_letter i_p1_turn i_p1_settled i_p1_sent i_p1_law i_p1_way i_p1_seed f_p1_gained f_p1_entries i_t_letter i_t_turn i_t_settled i_t_sent i_t_law i_t_way i_t_seed f_t_gained f_t_entries = some (z_i_t_letter, z_i_t_turn, z_i_t_settled, z_i_t_sent, z_i_t_law, z_i_t_way, z_i_t_seed, z_f_t_gained, z_f_t_entries)) : MV l D cy yX0_become wsX0_become rmX0_become [.ref a_t, .ref a_p1] [(a_t, .inr (0, [.int i_t_letter, .int i_t_turn, .int i_t_settled, .ref a_t_gained, .ref a_t_entries, .int i_t_sent, .int i_t_law, .int i_t_way, .int i_t_seed])), (a_p1, .inr (0, [.int i_p1_letter, .int i_p1_turn, .int i_p1_settled, .ref a_p1_gained, .ref a_p1_entries, .int i_p1_sent, .int i_p1_law, .int i_p1_way, .int i_p1_seed])), (a_p1_gained, .inl (cy 0, 2, .inl f_p1_gained)), (a_t_gained, .inl (cy 0, 2, .inl f_t_gained)), (a_p1_entries, .inl (cy 0, 180, .inl f_p1_entries)), (a_t_entries, .inl (cy 0, 180, .inl f_t_entries))] [(a_t, .inr (0, [.int z_i_t_letter, .int z_i_t_turn, .int z_i_t_settled, .ref a_t_gained, .ref a_t_entries, .int z_i_t_sent, .int z_i_t_law, .int z_i_t_way, .int z_i_t_seed])), (a_p1, .inr (0, [.int i_p1_letter, .int i_p1_turn, .int i_p1_settled, .ref a_p1_gained, .ref a_p1_entries, .int i_p1_sent, .int i_p1_law, .int i_p1_way, .int i_p1_seed])), (a_p1_gained, .inl (cy 0, 2, .inl f_p1_gained)), (a_t_gained, .inl (cy 0, 2, .inl z_f_t_gained)), (a_p1_entries, .inl (cy 0, 180, .inl f_p1_entries)), (a_t_entries, .inl (cy 0, 180, .inl z_f_t_entries))] := by
  refine st_V (by decide) rfl (Nat.le_of_ble_eq_true rfl) (fun p e s m below meth c A Q ls C0 hA hK hP hD hS hl hret => ?_)
  obtain ⟨hx, hb, hr, hml, hown, hts, hlocks⟩ := id C0
  have hl : lv_has ls 2 [(0, .ref a_t), (1, .ref a_p1)] := hl
  unfold f_X0_become at hf
  refine lv_aload_n hx hb dX0_become_0 rfl (lv_at hl 0 rfl) ?_
  refine lv_aload_n hx hb dX0_become_1 rfl (lv_at hl 1 rfl) ?_
  refine va_get (D := D) (ci := 0) (v := .int i_p1_letter) (C := RX0) (T := TX0) (N := 9) hx hb hts uX0_become_X0 hown hK.1.1 hP 1 rfl rfl 0 (by decide) (hts _ mX0_become_18) (fun _ h9 => h9) rfl dX0_become_2 ?_
  refine va_put (D := D) (ci := 0) (v := .int i_p1_letter) (ty := .int) (C := RX0) (T := TX0) (N := 9) hx hb hts uX0_become_X0 tyX0 tyX0_ok nmX0 hown hK.1.1 hP hD hS 0 rfl rfl 0 (by decide) (hts _ mX0_become_18) (fun _ h9 => h9) rfl (by decide +kernel) rfl rfl (Nat.le_of_ble_eq_true rfl) dX0_become_5 (fun H locs hP hD hS => ?_)
  have hP : va_P D vwCl [(a_t, .inr (0, [.int i_p1_letter, .int i_t_turn, .int i_t_settled, .ref a_t_gained, .ref a_t_entries, .int i_t_sent, .int i_t_law, .int i_t_way, .int i_t_seed])), (a_p1, .inr (0, [.int i_p1_letter, .int i_p1_turn, .int i_p1_settled, .ref a_p1_gained, .ref a_p1_entries, .int i_p1_sent, .int i_p1_law, .int i_p1_way, .int i_p1_seed])), (a_p1_gained, .inl (cy 0, 2, .inl f_p1_gained)), (a_t_gained, .inl (cy 0, 2, .inl f_t_gained)), (a_p1_entries, .inl (cy 0, 180, .inl f_p1_entries)), (a_t_entries, .inl (cy 0, 180, .inl f_t_entries))] H := hP
  have hD : va_D A [(a_t, .inr (0, [.int i_p1_letter, .int i_t_turn, .int i_t_settled, .ref a_t_gained, .ref a_t_entries, .int i_t_sent, .int i_t_law, .int i_t_way, .int i_t_seed])), (a_p1, .inr (0, [.int i_p1_letter, .int i_p1_turn, .int i_p1_settled, .ref a_p1_gained, .ref a_p1_entries, .int i_p1_sent, .int i_p1_law, .int i_p1_way, .int i_p1_seed])), (a_p1_gained, .inl (cy 0, 2, .inl f_p1_gained)), (a_t_gained, .inl (cy 0, 2, .inl f_t_gained)), (a_p1_entries, .inl (cy 0, 180, .inl f_p1_entries)), (a_t_entries, .inl (cy 0, 180, .inl f_t_entries))] := hD
  refine lv_aload_n hx hb dX0_become_8 rfl (lv_at hl 0 rfl) ?_
  refine lv_aload_n hx hb dX0_become_9 rfl (lv_at hl 1 rfl) ?_
  refine va_get (D := D) (ci := 0) (v := .int i_p1_turn) (C := RX0) (T := TX0) (N := 9) hx hb hts uX0_become_X0 hown hK.1.1 hP 1 rfl rfl 1 (by decide) (hts _ mX0_become_22) (fun _ h9 => h9) rfl dX0_become_10 ?_
  refine va_put (D := D) (ci := 0) (v := .int i_p1_turn) (ty := .int) (C := RX0) (T := TX0) (N := 9) hx hb hts uX0_become_X0 tyX0 tyX0_ok nmX0 hown hK.1.1 hP hD hS 0 rfl rfl 1 (by decide) (hts _ mX0_become_22) (fun _ h9 => h9) rfl (by decide +kernel) rfl rfl (Nat.le_of_ble_eq_true rfl) dX0_become_13 (fun H locs hP hD hS => ?_)
  have hP : va_P D vwCl [(a_t, .inr (0, [.int i_p1_letter, .int i_p1_turn, .int i_t_settled, .ref a_t_gained, .ref a_t_entries, .int i_t_sent, .int i_t_law, .int i_t_way, .int i_t_seed])), (a_p1, .inr (0, [.int i_p1_letter, .int i_p1_turn, .int i_p1_settled, .ref a_p1_gained, .ref a_p1_entries, .int i_p1_sent, .int i_p1_law, .int i_p1_way, .int i_p1_seed])), (a_p1_gained, .inl (cy 0, 2, .inl f_p1_gained)), (a_t_gained, .inl (cy 0, 2, .inl f_t_gained)), (a_p1_entries, .inl (cy 0, 180, .inl f_p1_entries)), (a_t_entries, .inl (cy 0, 180, .inl f_t_entries))] H := hP
  have hD : va_D A [(a_t, .inr (0, [.int i_p1_letter, .int i_p1_turn, .int i_t_settled, .ref a_t_gained, .ref a_t_entries, .int i_t_sent, .int i_t_law, .int i_t_way, .int i_t_seed])), (a_p1, .inr (0, [.int i_p1_letter, .int i_p1_turn, .int i_p1_settled, .ref a_p1_gained, .ref a_p1_entries, .int i_p1_sent, .int i_p1_law, .int i_p1_way, .int i_p1_seed])), (a_p1_gained, .inl (cy 0, 2, .inl f_p1_gained)), (a_t_gained, .inl (cy 0, 2, .inl f_t_gained)), (a_p1_entries, .inl (cy 0, 180, .inl f_p1_entries)), (a_t_entries, .inl (cy 0, 180, .inl f_t_entries))] := hD
  refine lv_aload_n hx hb dX0_become_16 rfl (lv_at hl 0 rfl) ?_
  refine lv_aload_n hx hb dX0_become_17 rfl (lv_at hl 1 rfl) ?_
  refine va_get (D := D) (ci := 0) (v := .int i_p1_settled) (C := RX0) (T := TX0) (N := 9) hx hb hts uX0_become_X0 hown hK.1.1 hP 1 rfl rfl 2 (by decide) (hts _ mX0_become_25) (fun _ h9 => h9) rfl dX0_become_18 ?_
  obtain ⟨hg_1, hf⟩ := hb_g hf
  refine va_put (D := D) (ci := 0) (v := .int i_p1_settled) (ty := .boolean) (C := RX0) (T := TX0) (N := 9) hx hb hts uX0_become_X0 tyX0 tyX0_ok nmX0 hown hK.1.1 hP hD hS 0 rfl rfl 2 (by decide) (hts _ mX0_become_25) (fun _ h9 => h9) rfl (by decide +kernel) (zb_n hg_1) (zb_f hg_1) (Nat.le_of_ble_eq_true rfl) dX0_become_21 (fun H locs hP hD hS => ?_)
  have hP : va_P D vwCl [(a_t, .inr (0, [.int i_p1_letter, .int i_p1_turn, .int i_p1_settled, .ref a_t_gained, .ref a_t_entries, .int i_t_sent, .int i_t_law, .int i_t_way, .int i_t_seed])), (a_p1, .inr (0, [.int i_p1_letter, .int i_p1_turn, .int i_p1_settled, .ref a_p1_gained, .ref a_p1_entries, .int i_p1_sent, .int i_p1_law, .int i_p1_way, .int i_p1_seed])), (a_p1_gained, .inl (cy 0, 2, .inl f_p1_gained)), (a_t_gained, .inl (cy 0, 2, .inl f_t_gained)), (a_p1_entries, .inl (cy 0, 180, .inl f_p1_entries)), (a_t_entries, .inl (cy 0, 180, .inl f_t_entries))] H := hP
  have hD : va_D A [(a_t, .inr (0, [.int i_p1_letter, .int i_p1_turn, .int i_p1_settled, .ref a_t_gained, .ref a_t_entries, .int i_t_sent, .int i_t_law, .int i_t_way, .int i_t_seed])), (a_p1, .inr (0, [.int i_p1_letter, .int i_p1_turn, .int i_p1_settled, .ref a_p1_gained, .ref a_p1_entries, .int i_p1_sent, .int i_p1_law, .int i_p1_way, .int i_p1_seed])), (a_p1_gained, .inl (cy 0, 2, .inl f_p1_gained)), (a_t_gained, .inl (cy 0, 2, .inl f_t_gained)), (a_p1_entries, .inl (cy 0, 180, .inl f_p1_entries)), (a_t_entries, .inl (cy 0, 180, .inl f_t_entries))] := hD
  refine lv_aload_n hx hb dX0_become_24 rfl (lv_at hl 1 rfl) ?_
  refine va_get (D := D) (ci := 0) (v := .ref a_p1_gained) (C := RX0) (T := TX0) (N := 9) hx hb hts uX0_become_X0 hown hK.1.1 hP 1 rfl rfl 3 (by decide) (hts _ mX0_become_9) (fun _ h9 => h9) rfl dX0_become_25 ?_
  refine lv_iconst (v := 0) hx hb dX0_become_28 (by decide) ?_
  refine lv_aload_n hx hb dX0_become_29 rfl (lv_at hl 0 rfl) ?_
  refine va_get (D := D) (ci := 0) (v := .ref a_t_gained) (C := RX0) (T := TX0) (N := 9) hx hb hts uX0_become_X0 hown hK.1.1 hP 0 rfl rfl 3 (by decide) (hts _ mX0_become_9) (fun _ h9 => h9) rfl dX0_become_30 ?_
  refine lv_iconst (v := 0) hx hb dX0_become_33 (by decide) ?_
  refine lv_iconst (v := 2) hx hb dX0_become_34 (by decide) ?_
  refine va_copyi (rest := []) hx hb (by rw [hml]; exact hl.1.symm) hown (hts _ mX0_become_38) (hts _ mX0_become_nat) (hts _ mX0_become_sta) (hts _ mX0_become_isy) hK.1.1 hP hD hS 2 3 0 0 (ty := .int) rfl rfl rfl rfl rfl (by decide) (by decide) (by decide) (by decide) (by decide) (fun _ _ => rfl) (Nat.le_of_ble_eq_true rfl) (Nat.le_of_ble_eq_true rfl) dX0_become_35 (fun H locs hP hD hS => ?_)
  have hP : va_P D vwCl [(a_t, .inr (0, [.int i_p1_letter, .int i_p1_turn, .int i_p1_settled, .ref a_t_gained, .ref a_t_entries, .int i_t_sent, .int i_t_law, .int i_t_way, .int i_t_seed])), (a_p1, .inr (0, [.int i_p1_letter, .int i_p1_turn, .int i_p1_settled, .ref a_p1_gained, .ref a_p1_entries, .int i_p1_sent, .int i_p1_law, .int i_p1_way, .int i_p1_seed])), (a_p1_gained, .inl (cy 0, 2, .inl f_p1_gained)), (a_t_gained, .inl (cy 0, 2, .inl (va_cpy f_p1_gained f_t_gained (0 : Int32).toNatClampNeg (0 : Int32).toNatClampNeg (2 : Int32).toNatClampNeg))), (a_p1_entries, .inl (cy 0, 180, .inl f_p1_entries)), (a_t_entries, .inl (cy 0, 180, .inl f_t_entries))] H := hP
  have hD : va_D A [(a_t, .inr (0, [.int i_p1_letter, .int i_p1_turn, .int i_p1_settled, .ref a_t_gained, .ref a_t_entries, .int i_t_sent, .int i_t_law, .int i_t_way, .int i_t_seed])), (a_p1, .inr (0, [.int i_p1_letter, .int i_p1_turn, .int i_p1_settled, .ref a_p1_gained, .ref a_p1_entries, .int i_p1_sent, .int i_p1_law, .int i_p1_way, .int i_p1_seed])), (a_p1_gained, .inl (cy 0, 2, .inl f_p1_gained)), (a_t_gained, .inl (cy 0, 2, .inl (va_cpy f_p1_gained f_t_gained (0 : Int32).toNatClampNeg (0 : Int32).toNatClampNeg (2 : Int32).toNatClampNeg))), (a_p1_entries, .inl (cy 0, 180, .inl f_p1_entries)), (a_t_entries, .inl (cy 0, 180, .inl f_t_entries))] := hD
  refine lv_aload_n hx hb dX0_become_38 rfl (lv_at hl 1 rfl) ?_
  refine va_get (D := D) (ci := 0) (v := .ref a_p1_entries) (C := RX0) (T := TX0) (N := 9) hx hb hts uX0_become_X0 hown hK.1.1 hP 1 rfl rfl 4 (by decide) (hts _ mX0_become_15) (fun _ h9 => h9) rfl dX0_become_39 ?_
  refine lv_iconst (v := 0) hx hb dX0_become_42 (by decide) ?_
  refine lv_aload_n hx hb dX0_become_43 rfl (lv_at hl 0 rfl) ?_
  refine va_get (D := D) (ci := 0) (v := .ref a_t_entries) (C := RX0) (T := TX0) (N := 9) hx hb hts uX0_become_X0 hown hK.1.1 hP 0 rfl rfl 4 (by decide) (hts _ mX0_become_15) (fun _ h9 => h9) rfl dX0_become_44 ?_
  refine lv_iconst (v := 0) hx hb dX0_become_47 (by decide) ?_
  refine lv_sipush (v := 180) hx hb dX0_become_48 (by decide) ?_
  refine va_copyi (rest := []) hx hb (by rw [hml]; exact hl.1.symm) hown (hts _ mX0_become_38) (hts _ mX0_become_nat) (hts _ mX0_become_sta) (hts _ mX0_become_isy) hK.1.1 hP hD hS 4 5 0 0 (ty := .int) rfl rfl rfl rfl rfl (by decide) (by decide) (by decide) (by decide) (by decide) (fun _ _ => rfl) (Nat.le_of_ble_eq_true rfl) (Nat.le_of_ble_eq_true rfl) dX0_become_51 (fun H locs hP hD hS => ?_)
  have hP : va_P D vwCl [(a_t, .inr (0, [.int i_p1_letter, .int i_p1_turn, .int i_p1_settled, .ref a_t_gained, .ref a_t_entries, .int i_t_sent, .int i_t_law, .int i_t_way, .int i_t_seed])), (a_p1, .inr (0, [.int i_p1_letter, .int i_p1_turn, .int i_p1_settled, .ref a_p1_gained, .ref a_p1_entries, .int i_p1_sent, .int i_p1_law, .int i_p1_way, .int i_p1_seed])), (a_p1_gained, .inl (cy 0, 2, .inl f_p1_gained)), (a_t_gained, .inl (cy 0, 2, .inl (va_cpy f_p1_gained f_t_gained (0 : Int32).toNatClampNeg (0 : Int32).toNatClampNeg (2 : Int32).toNatClampNeg))), (a_p1_entries, .inl (cy 0, 180, .inl f_p1_entries)), (a_t_entries, .inl (cy 0, 180, .inl (va_cpy f_p1_entries f_t_entries (0 : Int32).toNatClampNeg (0 : Int32).toNatClampNeg (180 : Int32).toNatClampNeg)))] H := hP
  have hD : va_D A [(a_t, .inr (0, [.int i_p1_letter, .int i_p1_turn, .int i_p1_settled, .ref a_t_gained, .ref a_t_entries, .int i_t_sent, .int i_t_law, .int i_t_way, .int i_t_seed])), (a_p1, .inr (0, [.int i_p1_letter, .int i_p1_turn, .int i_p1_settled, .ref a_p1_gained, .ref a_p1_entries, .int i_p1_sent, .int i_p1_law, .int i_p1_way, .int i_p1_seed])), (a_p1_gained, .inl (cy 0, 2, .inl f_p1_gained)), (a_t_gained, .inl (cy 0, 2, .inl (va_cpy f_p1_gained f_t_gained (0 : Int32).toNatClampNeg (0 : Int32).toNatClampNeg (2 : Int32).toNatClampNeg))), (a_p1_entries, .inl (cy 0, 180, .inl f_p1_entries)), (a_t_entries, .inl (cy 0, 180, .inl (va_cpy f_p1_entries f_t_entries (0 : Int32).toNatClampNeg (0 : Int32).toNatClampNeg (180 : Int32).toNatClampNeg)))] := hD
  refine lv_aload_n hx hb dX0_become_54 rfl (lv_at hl 0 rfl) ?_
  refine lv_aload_n hx hb dX0_become_55 rfl (lv_at hl 1 rfl) ?_
  refine va_get (D := D) (ci := 0) (v := .int i_p1_sent) (C := RX0) (T := TX0) (N := 9) hx hb hts uX0_become_X0 hown hK.1.1 hP 1 rfl rfl 5 (by decide) (hts _ mX0_become_35) (fun _ h9 => h9) rfl dX0_become_56 ?_
  refine va_put (D := D) (ci := 0) (v := .int i_p1_sent) (ty := .int) (C := RX0) (T := TX0) (N := 9) hx hb hts uX0_become_X0 tyX0 tyX0_ok nmX0 hown hK.1.1 hP hD hS 0 rfl rfl 5 (by decide) (hts _ mX0_become_35) (fun _ h9 => h9) rfl (by decide +kernel) rfl rfl (Nat.le_of_ble_eq_true rfl) dX0_become_59 (fun H locs hP hD hS => ?_)
  have hP : va_P D vwCl [(a_t, .inr (0, [.int i_p1_letter, .int i_p1_turn, .int i_p1_settled, .ref a_t_gained, .ref a_t_entries, .int i_p1_sent, .int i_t_law, .int i_t_way, .int i_t_seed])), (a_p1, .inr (0, [.int i_p1_letter, .int i_p1_turn, .int i_p1_settled, .ref a_p1_gained, .ref a_p1_entries, .int i_p1_sent, .int i_p1_law, .int i_p1_way, .int i_p1_seed])), (a_p1_gained, .inl (cy 0, 2, .inl f_p1_gained)), (a_t_gained, .inl (cy 0, 2, .inl (va_cpy f_p1_gained f_t_gained (0 : Int32).toNatClampNeg (0 : Int32).toNatClampNeg (2 : Int32).toNatClampNeg))), (a_p1_entries, .inl (cy 0, 180, .inl f_p1_entries)), (a_t_entries, .inl (cy 0, 180, .inl (va_cpy f_p1_entries f_t_entries (0 : Int32).toNatClampNeg (0 : Int32).toNatClampNeg (180 : Int32).toNatClampNeg)))] H := hP
  have hD : va_D A [(a_t, .inr (0, [.int i_p1_letter, .int i_p1_turn, .int i_p1_settled, .ref a_t_gained, .ref a_t_entries, .int i_p1_sent, .int i_t_law, .int i_t_way, .int i_t_seed])), (a_p1, .inr (0, [.int i_p1_letter, .int i_p1_turn, .int i_p1_settled, .ref a_p1_gained, .ref a_p1_entries, .int i_p1_sent, .int i_p1_law, .int i_p1_way, .int i_p1_seed])), (a_p1_gained, .inl (cy 0, 2, .inl f_p1_gained)), (a_t_gained, .inl (cy 0, 2, .inl (va_cpy f_p1_gained f_t_gained (0 : Int32).toNatClampNeg (0 : Int32).toNatClampNeg (2 : Int32).toNatClampNeg))), (a_p1_entries, .inl (cy 0, 180, .inl f_p1_entries)), (a_t_entries, .inl (cy 0, 180, .inl (va_cpy f_p1_entries f_t_entries (0 : Int32).toNatClampNeg (0 : Int32).toNatClampNeg (180 : Int32).toNatClampNeg)))] := hD
  refine lv_aload_n hx hb dX0_become_62 rfl (lv_at hl 0 rfl) ?_
  refine lv_aload_n hx hb dX0_become_63 rfl (lv_at hl 1 rfl) ?_
  refine va_get (D := D) (ci := 0) (v := .int i_p1_law) (C := RX0) (T := TX0) (N := 9) hx hb hts uX0_become_X0 hown hK.1.1 hP 1 rfl rfl 6 (by decide) (hts _ mX0_become_44) (fun _ h9 => h9) rfl dX0_become_64 ?_
  refine va_put (D := D) (ci := 0) (v := .int i_p1_law) (ty := .int) (C := RX0) (T := TX0) (N := 9) hx hb hts uX0_become_X0 tyX0 tyX0_ok nmX0 hown hK.1.1 hP hD hS 0 rfl rfl 6 (by decide) (hts _ mX0_become_44) (fun _ h9 => h9) rfl (by decide +kernel) rfl rfl (Nat.le_of_ble_eq_true rfl) dX0_become_67 (fun H locs hP hD hS => ?_)
  have hP : va_P D vwCl [(a_t, .inr (0, [.int i_p1_letter, .int i_p1_turn, .int i_p1_settled, .ref a_t_gained, .ref a_t_entries, .int i_p1_sent, .int i_p1_law, .int i_t_way, .int i_t_seed])), (a_p1, .inr (0, [.int i_p1_letter, .int i_p1_turn, .int i_p1_settled, .ref a_p1_gained, .ref a_p1_entries, .int i_p1_sent, .int i_p1_law, .int i_p1_way, .int i_p1_seed])), (a_p1_gained, .inl (cy 0, 2, .inl f_p1_gained)), (a_t_gained, .inl (cy 0, 2, .inl (va_cpy f_p1_gained f_t_gained (0 : Int32).toNatClampNeg (0 : Int32).toNatClampNeg (2 : Int32).toNatClampNeg))), (a_p1_entries, .inl (cy 0, 180, .inl f_p1_entries)), (a_t_entries, .inl (cy 0, 180, .inl (va_cpy f_p1_entries f_t_entries (0 : Int32).toNatClampNeg (0 : Int32).toNatClampNeg (180 : Int32).toNatClampNeg)))] H := hP
  have hD : va_D A [(a_t, .inr (0, [.int i_p1_letter, .int i_p1_turn, .int i_p1_settled, .ref a_t_gained, .ref a_t_entries, .int i_p1_sent, .int i_p1_law, .int i_t_way, .int i_t_seed])), (a_p1, .inr (0, [.int i_p1_letter, .int i_p1_turn, .int i_p1_settled, .ref a_p1_gained, .ref a_p1_entries, .int i_p1_sent, .int i_p1_law, .int i_p1_way, .int i_p1_seed])), (a_p1_gained, .inl (cy 0, 2, .inl f_p1_gained)), (a_t_gained, .inl (cy 0, 2, .inl (va_cpy f_p1_gained f_t_gained (0 : Int32).toNatClampNeg (0 : Int32).toNatClampNeg (2 : Int32).toNatClampNeg))), (a_p1_entries, .inl (cy 0, 180, .inl f_p1_entries)), (a_t_entries, .inl (cy 0, 180, .inl (va_cpy f_p1_entries f_t_entries (0 : Int32).toNatClampNeg (0 : Int32).toNatClampNeg (180 : Int32).toNatClampNeg)))] := hD
  refine lv_aload_n hx hb dX0_become_70 rfl (lv_at hl 0 rfl) ?_
  refine lv_aload_n hx hb dX0_become_71 rfl (lv_at hl 1 rfl) ?_
  refine va_get (D := D) (ci := 0) (v := .int i_p1_way) (C := RX0) (T := TX0) (N := 9) hx hb hts uX0_become_X0 hown hK.1.1 hP 1 rfl rfl 7 (by decide) (hts _ mX0_become_47) (fun _ h9 => h9) rfl dX0_become_72 ?_
  refine va_put (D := D) (ci := 0) (v := .int i_p1_way) (ty := .int) (C := RX0) (T := TX0) (N := 9) hx hb hts uX0_become_X0 tyX0 tyX0_ok nmX0 hown hK.1.1 hP hD hS 0 rfl rfl 7 (by decide) (hts _ mX0_become_47) (fun _ h9 => h9) rfl (by decide +kernel) rfl rfl (Nat.le_of_ble_eq_true rfl) dX0_become_75 (fun H locs hP hD hS => ?_)
  have hP : va_P D vwCl [(a_t, .inr (0, [.int i_p1_letter, .int i_p1_turn, .int i_p1_settled, .ref a_t_gained, .ref a_t_entries, .int i_p1_sent, .int i_p1_law, .int i_p1_way, .int i_t_seed])), (a_p1, .inr (0, [.int i_p1_letter, .int i_p1_turn, .int i_p1_settled, .ref a_p1_gained, .ref a_p1_entries, .int i_p1_sent, .int i_p1_law, .int i_p1_way, .int i_p1_seed])), (a_p1_gained, .inl (cy 0, 2, .inl f_p1_gained)), (a_t_gained, .inl (cy 0, 2, .inl (va_cpy f_p1_gained f_t_gained (0 : Int32).toNatClampNeg (0 : Int32).toNatClampNeg (2 : Int32).toNatClampNeg))), (a_p1_entries, .inl (cy 0, 180, .inl f_p1_entries)), (a_t_entries, .inl (cy 0, 180, .inl (va_cpy f_p1_entries f_t_entries (0 : Int32).toNatClampNeg (0 : Int32).toNatClampNeg (180 : Int32).toNatClampNeg)))] H := hP
  have hD : va_D A [(a_t, .inr (0, [.int i_p1_letter, .int i_p1_turn, .int i_p1_settled, .ref a_t_gained, .ref a_t_entries, .int i_p1_sent, .int i_p1_law, .int i_p1_way, .int i_t_seed])), (a_p1, .inr (0, [.int i_p1_letter, .int i_p1_turn, .int i_p1_settled, .ref a_p1_gained, .ref a_p1_entries, .int i_p1_sent, .int i_p1_law, .int i_p1_way, .int i_p1_seed])), (a_p1_gained, .inl (cy 0, 2, .inl f_p1_gained)), (a_t_gained, .inl (cy 0, 2, .inl (va_cpy f_p1_gained f_t_gained (0 : Int32).toNatClampNeg (0 : Int32).toNatClampNeg (2 : Int32).toNatClampNeg))), (a_p1_entries, .inl (cy 0, 180, .inl f_p1_entries)), (a_t_entries, .inl (cy 0, 180, .inl (va_cpy f_p1_entries f_t_entries (0 : Int32).toNatClampNeg (0 : Int32).toNatClampNeg (180 : Int32).toNatClampNeg)))] := hD
  refine lv_aload_n hx hb dX0_become_78 rfl (lv_at hl 0 rfl) ?_
  refine lv_aload_n hx hb dX0_become_79 rfl (lv_at hl 1 rfl) ?_
  refine va_get (D := D) (ci := 0) (v := .int i_p1_seed) (C := RX0) (T := TX0) (N := 9) hx hb hts uX0_become_X0 hown hK.1.1 hP 1 rfl rfl 8 (by decide) (hts _ mX0_become_50) (fun _ h9 => h9) rfl dX0_become_80 ?_
  refine va_put (D := D) (ci := 0) (v := .int i_p1_seed) (ty := .int) (C := RX0) (T := TX0) (N := 9) hx hb hts uX0_become_X0 tyX0 tyX0_ok nmX0 hown hK.1.1 hP hD hS 0 rfl rfl 8 (by decide) (hts _ mX0_become_50) (fun _ h9 => h9) rfl (by decide +kernel) rfl rfl (Nat.le_of_ble_eq_true rfl) dX0_become_83 (fun H locs hP hD hS => ?_)
  have hP : va_P D vwCl [(a_t, .inr (0, [.int i_p1_letter, .int i_p1_turn, .int i_p1_settled, .ref a_t_gained, .ref a_t_entries, .int i_p1_sent, .int i_p1_law, .int i_p1_way, .int i_p1_seed])), (a_p1, .inr (0, [.int i_p1_letter, .int i_p1_turn, .int i_p1_settled, .ref a_p1_gained, .ref a_p1_entries, .int i_p1_sent, .int i_p1_law, .int i_p1_way, .int i_p1_seed])), (a_p1_gained, .inl (cy 0, 2, .inl f_p1_gained)), (a_t_gained, .inl (cy 0, 2, .inl (va_cpy f_p1_gained f_t_gained (0 : Int32).toNatClampNeg (0 : Int32).toNatClampNeg (2 : Int32).toNatClampNeg))), (a_p1_entries, .inl (cy 0, 180, .inl f_p1_entries)), (a_t_entries, .inl (cy 0, 180, .inl (va_cpy f_p1_entries f_t_entries (0 : Int32).toNatClampNeg (0 : Int32).toNatClampNeg (180 : Int32).toNatClampNeg)))] H := hP
  have hD : va_D A [(a_t, .inr (0, [.int i_p1_letter, .int i_p1_turn, .int i_p1_settled, .ref a_t_gained, .ref a_t_entries, .int i_p1_sent, .int i_p1_law, .int i_p1_way, .int i_p1_seed])), (a_p1, .inr (0, [.int i_p1_letter, .int i_p1_turn, .int i_p1_settled, .ref a_p1_gained, .ref a_p1_entries, .int i_p1_sent, .int i_p1_law, .int i_p1_way, .int i_p1_seed])), (a_p1_gained, .inl (cy 0, 2, .inl f_p1_gained)), (a_t_gained, .inl (cy 0, 2, .inl (va_cpy f_p1_gained f_t_gained (0 : Int32).toNatClampNeg (0 : Int32).toNatClampNeg (2 : Int32).toNatClampNeg))), (a_p1_entries, .inl (cy 0, 180, .inl f_p1_entries)), (a_t_entries, .inl (cy 0, 180, .inl (va_cpy f_p1_entries f_t_entries (0 : Int32).toNatClampNeg (0 : Int32).toNatClampNeg (180 : Int32).toNatClampNeg)))] := hD
  obtain ⟨e_0, e_1, e_2, e_3, e_4, e_5, e_6, e_7, e_8⟩ := tu9 hf
  subst e_0; subst e_1; subst e_2; subst e_3; subst e_4; subst e_5; subst e_6; subst e_7; subst e_8
  exact hret _ _ _ _ dX0_become_86 hP hS
theorem mX0_pass_35 : Cond.fieldLink RX0 35 "OneWordLetters$Course" "sent" "I" ∈ wsX0_pass := by decide +kernel
theorem uX0_pass_X0 : ∀ w ∈ wsX00, w ∈ wsX0_pass := fun _ h => List.mem_cons_of_mem _ (List.mem_append_right _ h)
theorem mX0_pass_18 : Cond.fieldLink RX0 18 "OneWordLetters$Course" "letter" "I" ∈ wsX0_pass := by decide +kernel
theorem mX0_pass_22 : Cond.fieldLink RX0 22 "OneWordLetters$Course" "turn" "I" ∈ wsX0_pass := by decide +kernel
theorem mX0_pass_15 : Cond.fieldLink RX0 15 "OneWordLetters$Course" "entries" "[I" ∈ wsX0_pass := by decide +kernel
abbrev rmX0_pass : Room := { frames := 0, cells := 0, slots := 0, locals := 0 }
set_option maxRecDepth 100000 in
set_option maxHeartbeats 4000000 in
theorem c_X0_pass (l : Launch) (D : va_G) (cy : Nat → ClassId) (a_t : Nat) (a_t_entries : Nat) (o_t_settled : Value) (o_t_gained : Value) (o_t_law : Value) (o_t_way : Value) (o_t_seed : Value) (i_t_letter : Int32) (i_t_turn : Int32) (i_t_sent : Int32) (f_t_entries : Nat → Int32) (p1 : Int32) (z_i_t_letter : Int32) (z_i_t_turn : Int32) (z_i_t_sent : Int32) (z_f_t_entries : Nat → Int32) (hf : f_X0_pass i_t_letter i_t_turn i_t_sent f_t_entries p1 = some (z_i_t_letter, z_i_t_turn, z_i_t_sent, z_f_t_entries)) : MV l D cy yX0_pass wsX0_pass rmX0_pass [.ref a_t, .int p1] [(a_t, .inr (0, [.int i_t_letter, .int i_t_turn, o_t_settled, o_t_gained, .ref a_t_entries, .int i_t_sent, o_t_law, o_t_way, o_t_seed])), (a_t_entries, .inl (cy 0, 180, .inl f_t_entries))] [(a_t, .inr (0, [.int z_i_t_letter, .int z_i_t_turn, o_t_settled, o_t_gained, .ref a_t_entries, .int z_i_t_sent, o_t_law, o_t_way, o_t_seed])), (a_t_entries, .inl (cy 0, 180, .inl z_f_t_entries))] := by
  refine st_V (by decide) rfl (Nat.le_of_ble_eq_true rfl) (fun p e s m below meth c A Q ls C0 hA hK hP hD hS hl hret => ?_)
  obtain ⟨hx, hb, hr, hml, hown, hts, hlocks⟩ := id C0
  have hl : lv_has ls 2 [(0, .ref a_t), (1, .int p1)] := hl
  unfold f_X0_pass at hf
  refine lv_aload_n hx hb dX0_pass_0 rfl (lv_at hl 0 rfl) ?_
  refine va_get (D := D) (ci := 0) (v := .int i_t_sent) (C := RX0) (T := TX0) (N := 9) hx hb hts uX0_pass_X0 hown hK.1.1 hP 0 rfl rfl 5 (by decide) (hts _ mX0_pass_35) (fun _ h9 => h9) rfl dX0_pass_1 ?_
  refine lv_bipush (v := 60) hx hb dX0_pass_4 (by decide) ?_
  refine lv_icmp_ge (tgt := 65) hx hb dX0_pass_6 (by decide) (fun c_1 => ?_) (fun c_1 => ?_)
  · have hf := hb_t hf c_1
    refine lv_aload_n hx hb dX0_pass_65 rfl (lv_at hl 0 rfl) ?_
    refine lv_iload_n hx hb dX0_pass_66 rfl (lv_at hl 1 rfl) ?_
    refine va_put (D := D) (ci := 0) (v := .int p1) (ty := .int) (C := RX0) (T := TX0) (N := 9) hx hb hts uX0_pass_X0 tyX0 tyX0_ok nmX0 hown hK.1.1 hP hD hS 0 rfl rfl 0 (by decide) (hts _ mX0_pass_18) (fun _ h9 => h9) rfl (by decide +kernel) rfl rfl (Nat.le_of_ble_eq_true rfl) dX0_pass_67 (fun H locs hP hD hS => ?_)
    have hP : va_P D vwCl [(a_t, .inr (0, [.int p1, .int i_t_turn, o_t_settled, o_t_gained, .ref a_t_entries, .int i_t_sent, o_t_law, o_t_way, o_t_seed])), (a_t_entries, .inl (cy 0, 180, .inl f_t_entries))] H := hP
    have hD : va_D A [(a_t, .inr (0, [.int p1, .int i_t_turn, o_t_settled, o_t_gained, .ref a_t_entries, .int i_t_sent, o_t_law, o_t_way, o_t_seed])), (a_t_entries, .inl (cy 0, 180, .inl f_t_entries))] := hD
    refine lv_aload_n hx hb dX0_pass_70 rfl (lv_at hl 0 rfl) ?_
    refine lv_iconst (v := 1) hx hb dX0_pass_71 (by decide) ?_
    refine lv_aload_n hx hb dX0_pass_72 rfl (lv_at hl 0 rfl) ?_
    refine va_get (D := D) (ci := 0) (v := .int i_t_turn) (C := RX0) (T := TX0) (N := 9) hx hb hts uX0_pass_X0 hown hK.1.1 hP 0 rfl rfl 1 (by decide) (hts _ mX0_pass_22) (fun _ h9 => h9) rfl dX0_pass_73 ?_
    refine lv_isub hx hb dX0_pass_76 ?_
    refine va_put (D := D) (ci := 0) (v := .int (1 - i_t_turn)) (ty := .int) (C := RX0) (T := TX0) (N := 9) hx hb hts uX0_pass_X0 tyX0 tyX0_ok nmX0 hown hK.1.1 hP hD hS 0 rfl rfl 1 (by decide) (hts _ mX0_pass_22) (fun _ h9 => h9) rfl (by decide +kernel) rfl rfl (Nat.le_of_ble_eq_true rfl) dX0_pass_77 (fun H locs hP hD hS => ?_)
    have hP : va_P D vwCl [(a_t, .inr (0, [.int p1, .int (1 - i_t_turn), o_t_settled, o_t_gained, .ref a_t_entries, .int i_t_sent, o_t_law, o_t_way, o_t_seed])), (a_t_entries, .inl (cy 0, 180, .inl f_t_entries))] H := hP
    have hD : va_D A [(a_t, .inr (0, [.int p1, .int (1 - i_t_turn), o_t_settled, o_t_gained, .ref a_t_entries, .int i_t_sent, o_t_law, o_t_way, o_t_seed])), (a_t_entries, .inl (cy 0, 180, .inl f_t_entries))] := hD
    obtain ⟨e_0, e_1, e_2, e_3⟩ := tu4 hf
    subst e_0; subst e_1; subst e_2; subst e_3
    exact hret _ _ _ _ dX0_pass_80 hP hS
  · have hf := hb_f hf c_1
    refine lv_aload_n hx hb dX0_pass_9 rfl (lv_at hl 0 rfl) ?_
    refine va_get (D := D) (ci := 0) (v := .ref a_t_entries) (C := RX0) (T := TX0) (N := 9) hx hb hts uX0_pass_X0 hown hK.1.1 hP 0 rfl rfl 4 (by decide) (hts _ mX0_pass_15) (fun _ h9 => h9) rfl dX0_pass_10 ?_
    refine lv_aload_n hx hb dX0_pass_13 rfl (lv_at hl 0 rfl) ?_
    refine va_get (D := D) (ci := 0) (v := .int i_t_sent) (C := RX0) (T := TX0) (N := 9) hx hb hts uX0_pass_X0 hown hK.1.1 hP 0 rfl rfl 5 (by decide) (hts _ mX0_pass_35) (fun _ h9 => h9) rfl dX0_pass_14 ?_
    refine lv_iconst (v := 3) hx hb dX0_pass_17 (by decide) ?_
    refine lv_imul hx hb dX0_pass_18 ?_
    refine lv_aload_n hx hb dX0_pass_19 rfl (lv_at hl 0 rfl) ?_
    refine va_get (D := D) (ci := 0) (v := .int i_t_turn) (C := RX0) (T := TX0) (N := 9) hx hb hts uX0_pass_X0 hown hK.1.1 hP 0 rfl rfl 1 (by decide) (hts _ mX0_pass_22) (fun _ h9 => h9) rfl dX0_pass_20 ?_
    obtain ⟨hg_2, hf⟩ := hb_g hf
    refine va_iast hx hb hK.1.1 hP hD hS 1 0 rfl rfl (ixb_in hg_2) dX0_pass_23 (fun H locs hP hD hS => ?_)
    have hP : va_P D vwCl [(a_t, .inr (0, [.int i_t_letter, .int i_t_turn, o_t_settled, o_t_gained, .ref a_t_entries, .int i_t_sent, o_t_law, o_t_way, o_t_seed])), (a_t_entries, .inl (cy 0, 180, .inl (upd f_t_entries ((i_t_sent * 3) : Int32).toNatClampNeg i_t_turn)))] H := hP
    have hD : va_D A [(a_t, .inr (0, [.int i_t_letter, .int i_t_turn, o_t_settled, o_t_gained, .ref a_t_entries, .int i_t_sent, o_t_law, o_t_way, o_t_seed])), (a_t_entries, .inl (cy 0, 180, .inl (upd f_t_entries ((i_t_sent * 3) : Int32).toNatClampNeg i_t_turn)))] := hD
    refine lv_aload_n hx hb dX0_pass_24 rfl (lv_at hl 0 rfl) ?_
    refine va_get (D := D) (ci := 0) (v := .ref a_t_entries) (C := RX0) (T := TX0) (N := 9) hx hb hts uX0_pass_X0 hown hK.1.1 hP 0 rfl rfl 4 (by decide) (hts _ mX0_pass_15) (fun _ h9 => h9) rfl dX0_pass_25 ?_
    refine lv_aload_n hx hb dX0_pass_28 rfl (lv_at hl 0 rfl) ?_
    refine va_get (D := D) (ci := 0) (v := .int i_t_sent) (C := RX0) (T := TX0) (N := 9) hx hb hts uX0_pass_X0 hown hK.1.1 hP 0 rfl rfl 5 (by decide) (hts _ mX0_pass_35) (fun _ h9 => h9) rfl dX0_pass_29 ?_
    refine lv_iconst (v := 3) hx hb dX0_pass_32 (by decide) ?_
    refine lv_imul hx hb dX0_pass_33 ?_
    refine lv_iconst (v := 1) hx hb dX0_pass_34 (by decide) ?_
    refine lv_iadd hx hb dX0_pass_35 ?_
    refine lv_aload_n hx hb dX0_pass_36 rfl (lv_at hl 0 rfl) ?_
    refine va_get (D := D) (ci := 0) (v := .int i_t_letter) (C := RX0) (T := TX0) (N := 9) hx hb hts uX0_pass_X0 hown hK.1.1 hP 0 rfl rfl 0 (by decide) (hts _ mX0_pass_18) (fun _ h9 => h9) rfl dX0_pass_37 ?_
    obtain ⟨hg_3, hf⟩ := hb_g hf
    refine va_iast hx hb hK.1.1 hP hD hS 1 0 rfl rfl (ixb_in hg_3) dX0_pass_40 (fun H locs hP hD hS => ?_)
    have hP : va_P D vwCl [(a_t, .inr (0, [.int i_t_letter, .int i_t_turn, o_t_settled, o_t_gained, .ref a_t_entries, .int i_t_sent, o_t_law, o_t_way, o_t_seed])), (a_t_entries, .inl (cy 0, 180, .inl (upd (upd f_t_entries ((i_t_sent * 3) : Int32).toNatClampNeg i_t_turn) (((i_t_sent * 3) + 1) : Int32).toNatClampNeg i_t_letter)))] H := hP
    have hD : va_D A [(a_t, .inr (0, [.int i_t_letter, .int i_t_turn, o_t_settled, o_t_gained, .ref a_t_entries, .int i_t_sent, o_t_law, o_t_way, o_t_seed])), (a_t_entries, .inl (cy 0, 180, .inl (upd (upd f_t_entries ((i_t_sent * 3) : Int32).toNatClampNeg i_t_turn) (((i_t_sent * 3) + 1) : Int32).toNatClampNeg i_t_letter)))] := hD
    refine lv_aload_n hx hb dX0_pass_41 rfl (lv_at hl 0 rfl) ?_
    refine va_get (D := D) (ci := 0) (v := .ref a_t_entries) (C := RX0) (T := TX0) (N := 9) hx hb hts uX0_pass_X0 hown hK.1.1 hP 0 rfl rfl 4 (by decide) (hts _ mX0_pass_15) (fun _ h9 => h9) rfl dX0_pass_42 ?_
    refine lv_aload_n hx hb dX0_pass_45 rfl (lv_at hl 0 rfl) ?_
    refine va_get (D := D) (ci := 0) (v := .int i_t_sent) (C := RX0) (T := TX0) (N := 9) hx hb hts uX0_pass_X0 hown hK.1.1 hP 0 rfl rfl 5 (by decide) (hts _ mX0_pass_35) (fun _ h9 => h9) rfl dX0_pass_46 ?_
    refine lv_iconst (v := 3) hx hb dX0_pass_49 (by decide) ?_
    refine lv_imul hx hb dX0_pass_50 ?_
    refine lv_iconst (v := 2) hx hb dX0_pass_51 (by decide) ?_
    refine lv_iadd hx hb dX0_pass_52 ?_
    refine lv_iload_n hx hb dX0_pass_53 rfl (lv_at hl 1 rfl) ?_
    obtain ⟨hg_4, hf⟩ := hb_g hf
    refine va_iast hx hb hK.1.1 hP hD hS 1 0 rfl rfl (ixb_in hg_4) dX0_pass_54 (fun H locs hP hD hS => ?_)
    have hP : va_P D vwCl [(a_t, .inr (0, [.int i_t_letter, .int i_t_turn, o_t_settled, o_t_gained, .ref a_t_entries, .int i_t_sent, o_t_law, o_t_way, o_t_seed])), (a_t_entries, .inl (cy 0, 180, .inl (upd (upd (upd f_t_entries ((i_t_sent * 3) : Int32).toNatClampNeg i_t_turn) (((i_t_sent * 3) + 1) : Int32).toNatClampNeg i_t_letter) (((i_t_sent * 3) + 2) : Int32).toNatClampNeg p1)))] H := hP
    have hD : va_D A [(a_t, .inr (0, [.int i_t_letter, .int i_t_turn, o_t_settled, o_t_gained, .ref a_t_entries, .int i_t_sent, o_t_law, o_t_way, o_t_seed])), (a_t_entries, .inl (cy 0, 180, .inl (upd (upd (upd f_t_entries ((i_t_sent * 3) : Int32).toNatClampNeg i_t_turn) (((i_t_sent * 3) + 1) : Int32).toNatClampNeg i_t_letter) (((i_t_sent * 3) + 2) : Int32).toNatClampNeg p1)))] := hD
    refine lv_aload_n hx hb dX0_pass_55 rfl (lv_at hl 0 rfl) ?_
    refine lv_dup hx hb dX0_pass_56 rfl ?_
    refine va_get (D := D) (ci := 0) (v := .int i_t_sent) (C := RX0) (T := TX0) (N := 9) hx hb hts uX0_pass_X0 hown hK.1.1 hP 0 rfl rfl 5 (by decide) (hts _ mX0_pass_35) (fun _ h9 => h9) rfl dX0_pass_57 ?_
    refine lv_iconst (v := 1) hx hb dX0_pass_60 (by decide) ?_
    refine lv_iadd hx hb dX0_pass_61 ?_
    refine va_put (D := D) (ci := 0) (v := .int (i_t_sent + 1)) (ty := .int) (C := RX0) (T := TX0) (N := 9) hx hb hts uX0_pass_X0 tyX0 tyX0_ok nmX0 hown hK.1.1 hP hD hS 0 rfl rfl 5 (by decide) (hts _ mX0_pass_35) (fun _ h9 => h9) rfl (by decide +kernel) rfl rfl (Nat.le_of_ble_eq_true rfl) dX0_pass_62 (fun H locs hP hD hS => ?_)
    have hP : va_P D vwCl [(a_t, .inr (0, [.int i_t_letter, .int i_t_turn, o_t_settled, o_t_gained, .ref a_t_entries, .int (i_t_sent + 1), o_t_law, o_t_way, o_t_seed])), (a_t_entries, .inl (cy 0, 180, .inl (upd (upd (upd f_t_entries ((i_t_sent * 3) : Int32).toNatClampNeg i_t_turn) (((i_t_sent * 3) + 1) : Int32).toNatClampNeg i_t_letter) (((i_t_sent * 3) + 2) : Int32).toNatClampNeg p1)))] H := hP
    have hD : va_D A [(a_t, .inr (0, [.int i_t_letter, .int i_t_turn, o_t_settled, o_t_gained, .ref a_t_entries, .int (i_t_sent + 1), o_t_law, o_t_way, o_t_seed])), (a_t_entries, .inl (cy 0, 180, .inl (upd (upd (upd f_t_entries ((i_t_sent * 3) : Int32).toNatClampNeg i_t_turn) (((i_t_sent * 3) + 1) : Int32).toNatClampNeg i_t_letter) (((i_t_sent * 3) + 2) : Int32).toNatClampNeg p1)))] := hD
    refine lv_aload_n hx hb dX0_pass_65 rfl (lv_at hl 0 rfl) ?_
    refine lv_iload_n hx hb dX0_pass_66 rfl (lv_at hl 1 rfl) ?_
    refine va_put (D := D) (ci := 0) (v := .int p1) (ty := .int) (C := RX0) (T := TX0) (N := 9) hx hb hts uX0_pass_X0 tyX0 tyX0_ok nmX0 hown hK.1.1 hP hD hS 0 rfl rfl 0 (by decide) (hts _ mX0_pass_18) (fun _ h9 => h9) rfl (by decide +kernel) rfl rfl (Nat.le_of_ble_eq_true rfl) dX0_pass_67 (fun H locs hP hD hS => ?_)
    have hP : va_P D vwCl [(a_t, .inr (0, [.int p1, .int i_t_turn, o_t_settled, o_t_gained, .ref a_t_entries, .int (i_t_sent + 1), o_t_law, o_t_way, o_t_seed])), (a_t_entries, .inl (cy 0, 180, .inl (upd (upd (upd f_t_entries ((i_t_sent * 3) : Int32).toNatClampNeg i_t_turn) (((i_t_sent * 3) + 1) : Int32).toNatClampNeg i_t_letter) (((i_t_sent * 3) + 2) : Int32).toNatClampNeg p1)))] H := hP
    have hD : va_D A [(a_t, .inr (0, [.int p1, .int i_t_turn, o_t_settled, o_t_gained, .ref a_t_entries, .int (i_t_sent + 1), o_t_law, o_t_way, o_t_seed])), (a_t_entries, .inl (cy 0, 180, .inl (upd (upd (upd f_t_entries ((i_t_sent * 3) : Int32).toNatClampNeg i_t_turn) (((i_t_sent * 3) + 1) : Int32).toNatClampNeg i_t_letter) (((i_t_sent * 3) + 2) : Int32).toNatClampNeg p1)))] := hD
    refine lv_aload_n hx hb dX0_pass_70 rfl (lv_at hl 0 rfl) ?_
    refine lv_iconst (v := 1) hx hb dX0_pass_71 (by decide) ?_
    refine lv_aload_n hx hb dX0_pass_72 rfl (lv_at hl 0 rfl) ?_
    refine va_get (D := D) (ci := 0) (v := .int i_t_turn) (C := RX0) (T := TX0) (N := 9) hx hb hts uX0_pass_X0 hown hK.1.1 hP 0 rfl rfl 1 (by decide) (hts _ mX0_pass_22) (fun _ h9 => h9) rfl dX0_pass_73 ?_
    refine lv_isub hx hb dX0_pass_76 ?_
    refine va_put (D := D) (ci := 0) (v := .int (1 - i_t_turn)) (ty := .int) (C := RX0) (T := TX0) (N := 9) hx hb hts uX0_pass_X0 tyX0 tyX0_ok nmX0 hown hK.1.1 hP hD hS 0 rfl rfl 1 (by decide) (hts _ mX0_pass_22) (fun _ h9 => h9) rfl (by decide +kernel) rfl rfl (Nat.le_of_ble_eq_true rfl) dX0_pass_77 (fun H locs hP hD hS => ?_)
    have hP : va_P D vwCl [(a_t, .inr (0, [.int p1, .int (1 - i_t_turn), o_t_settled, o_t_gained, .ref a_t_entries, .int (i_t_sent + 1), o_t_law, o_t_way, o_t_seed])), (a_t_entries, .inl (cy 0, 180, .inl (upd (upd (upd f_t_entries ((i_t_sent * 3) : Int32).toNatClampNeg i_t_turn) (((i_t_sent * 3) + 1) : Int32).toNatClampNeg i_t_letter) (((i_t_sent * 3) + 2) : Int32).toNatClampNeg p1)))] H := hP
    have hD : va_D A [(a_t, .inr (0, [.int p1, .int (1 - i_t_turn), o_t_settled, o_t_gained, .ref a_t_entries, .int (i_t_sent + 1), o_t_law, o_t_way, o_t_seed])), (a_t_entries, .inl (cy 0, 180, .inl (upd (upd (upd f_t_entries ((i_t_sent * 3) : Int32).toNatClampNeg i_t_turn) (((i_t_sent * 3) + 1) : Int32).toNatClampNeg i_t_letter) (((i_t_sent * 3) + 2) : Int32).toNatClampNeg p1)))] := hD
    obtain ⟨e_0, e_1, e_2, e_3⟩ := tu4 hf
    subst e_0; subst e_1; subst e_2; subst e_3
    exact hret _ _ _ _ dX0_pass_80 hP hS
theorem mX0_entry_35 : Cond.fieldLink RX0 35 "OneWordLetters$Course" "sent" "I" ∈ wsX0_entry := by decide +kernel
theorem uX0_entry_X0 : ∀ w ∈ wsX00, w ∈ wsX0_entry := fun _ h => List.mem_cons_of_mem _ (List.mem_append_right _ h)
theorem mX0_entry_15 : Cond.fieldLink RX0 15 "OneWordLetters$Course" "entries" "[I" ∈ wsX0_entry := by decide +kernel
abbrev rmX0_entry : Room := { frames := 0, cells := 0, slots := 0, locals := 0 }
set_option maxRecDepth 100000 in
set_option maxHeartbeats 4000000 in
theorem c_X0_entry (l : Launch) (D : va_G) (cy : Nat → ClassId) (a_t : Nat) (a_t_entries : Nat) (o_t_letter : Value) (o_t_turn : Value) (o_t_settled : Value) (o_t_gained : Value) (o_t_law : Value) (o_t_way : Value) (o_t_seed : Value) (i_t_sent : Int32) (f_t_entries : Nat → Int32) (p1 : Int32) (p2 : Int32) (rv : Int32) (hf : f_X0_entry i_t_sent f_t_entries p1 p2 = some rv) : MI l D cy yX0_entry wsX0_entry rmX0_entry [.ref a_t, .int p1, .int p2] [(a_t, .inr (0, [o_t_letter, o_t_turn, o_t_settled, o_t_gained, .ref a_t_entries, .int i_t_sent, o_t_law, o_t_way, o_t_seed])), (a_t_entries, .inl (cy 0, 180, .inl f_t_entries))] [(a_t, .inr (0, [o_t_letter, o_t_turn, o_t_settled, o_t_gained, .ref a_t_entries, .int i_t_sent, o_t_law, o_t_way, o_t_seed])), (a_t_entries, .inl (cy 0, 180, .inl f_t_entries))] rv := by
  refine st_I (by decide) rfl (Nat.le_of_ble_eq_true rfl) (fun p e s m below meth c A Q ls C0 hA hK hP hD hS hl hret => ?_)
  obtain ⟨hx, hb, hr, hml, hown, hts, hlocks⟩ := id C0
  have hl : lv_has ls 3 [(0, .ref a_t), (1, .int p1), (2, .int p2)] := hl
  unfold f_X0_entry at hf
  refine lv_iload_n hx hb dX0_entry_0 rfl (lv_at hl 1 rfl) ?_
  refine lv_if_lt (tgt := 21) hx hb dX0_entry_1 (by decide) (fun c_1 => ?_) (fun c_1 => ?_)
  · have hf := hb_t hf c_1
    refine lv_iconst (v := (-1)) hx hb dX0_entry_21 (by decide) ?_
    have hf := Option.some.inj hf
    subst hf
    exact hret _ _ _ _ dX0_entry_22 rfl hP hS
  · have hf := hb_f hf c_1
    refine lv_iload_n hx hb dX0_entry_4 rfl (lv_at hl 1 rfl) ?_
    refine lv_aload_n hx hb dX0_entry_5 rfl (lv_at hl 0 rfl) ?_
    refine va_get (D := D) (ci := 0) (v := .int i_t_sent) (C := RX0) (T := TX0) (N := 9) hx hb hts uX0_entry_X0 hown hK.1.1 hP 0 rfl rfl 5 (by decide) (hts _ mX0_entry_35) (fun _ h9 => h9) rfl dX0_entry_6 ?_
    refine lv_icmp_ge (tgt := 21) hx hb dX0_entry_9 (by decide) (fun c_2 => ?_) (fun c_2 => ?_)
    · have hf := hb_t hf c_2
      refine lv_iconst (v := (-1)) hx hb dX0_entry_21 (by decide) ?_
      have hf := Option.some.inj hf
      subst hf
      exact hret _ _ _ _ dX0_entry_22 rfl hP hS
    · have hf := hb_f hf c_2
      refine lv_iload_n hx hb dX0_entry_12 rfl (lv_at hl 2 rfl) ?_
      refine lv_if_lt (tgt := 21) hx hb dX0_entry_13 (by decide) (fun c_3 => ?_) (fun c_3 => ?_)
      · have hf := hb_t hf c_3
        refine lv_iconst (v := (-1)) hx hb dX0_entry_21 (by decide) ?_
        have hf := Option.some.inj hf
        subst hf
        exact hret _ _ _ _ dX0_entry_22 rfl hP hS
      · have hf := hb_f hf c_3
        refine lv_iload_n hx hb dX0_entry_16 rfl (lv_at hl 2 rfl) ?_
        refine lv_iconst (v := 3) hx hb dX0_entry_17 (by decide) ?_
        refine lv_icmp_lt (tgt := 23) hx hb dX0_entry_18 (by decide) (fun c_4 => ?_) (fun c_4 => ?_)
        · have hf := hb_t hf c_4
          refine lv_aload_n hx hb dX0_entry_23 rfl (lv_at hl 0 rfl) ?_
          refine va_get (D := D) (ci := 0) (v := .ref a_t_entries) (C := RX0) (T := TX0) (N := 9) hx hb hts uX0_entry_X0 hown hK.1.1 hP 0 rfl rfl 4 (by decide) (hts _ mX0_entry_15) (fun _ h9 => h9) rfl dX0_entry_24 ?_
          refine lv_iload_n hx hb dX0_entry_27 rfl (lv_at hl 1 rfl) ?_
          refine lv_iconst (v := 3) hx hb dX0_entry_28 (by decide) ?_
          refine lv_imul hx hb dX0_entry_29 ?_
          refine lv_iload_n hx hb dX0_entry_30 rfl (lv_at hl 2 rfl) ?_
          refine lv_iadd hx hb dX0_entry_31 ?_
          obtain ⟨hg_5, hf⟩ := hb_g hf
          refine va_iald hx hb hK.1.1 hP 1 0 rfl rfl (ixb_in hg_5) dX0_entry_32 ?_
          have hf := Option.some.inj hf
          subst hf
          exact hret _ _ _ _ dX0_entry_33 rfl hP hS
        · have hf := hb_f hf c_4
          refine lv_iconst (v := (-1)) hx hb dX0_entry_21 (by decide) ?_
          have hf := Option.some.inj hf
          subst hf
          exact hret _ _ _ _ dX0_entry_22 rfl hP hS
theorem mX0_draw_50 : Cond.fieldLink RX0 50 "OneWordLetters$Course" "seed" "I" ∈ wsX0_draw := by decide +kernel
theorem uX0_draw_X0 : ∀ w ∈ wsX00, w ∈ wsX0_draw := fun _ h => List.mem_cons_of_mem _ (List.mem_append_right _ h)
theorem mX0_draw_53 : Cond.constant RX0 53 (1103515245) ∈ wsX0_draw := by decide +kernel
theorem mX0_draw_54 : Cond.constant RX0 54 (2147483647) ∈ wsX0_draw := by decide +kernel
theorem mX0_draw_55 : Cond.constant RX0 55 (65536) ∈ wsX0_draw := by decide +kernel
abbrev rmX0_draw : Room := { frames := 0, cells := 0, slots := 0, locals := 0 }
set_option maxRecDepth 100000 in
set_option maxHeartbeats 4000000 in
theorem c_X0_draw (l : Launch) (D : va_G) (cy : Nat → ClassId) (a_t : Nat) (o_t_letter : Value) (o_t_turn : Value) (o_t_settled : Value) (o_t_gained : Value) (o_t_entries : Value) (o_t_sent : Value) (o_t_law : Value) (o_t_way : Value) (i_t_seed : Int32) (p1 : Int32) (rv : Int32) (z_i_t_seed : Int32) (hf : f_X0_draw i_t_seed p1 = some (rv, z_i_t_seed)) : MI l D cy yX0_draw wsX0_draw rmX0_draw [.ref a_t, .int p1] [(a_t, .inr (0, [o_t_letter, o_t_turn, o_t_settled, o_t_gained, o_t_entries, o_t_sent, o_t_law, o_t_way, .int i_t_seed]))] [(a_t, .inr (0, [o_t_letter, o_t_turn, o_t_settled, o_t_gained, o_t_entries, o_t_sent, o_t_law, o_t_way, .int z_i_t_seed]))] rv := by
  refine st_I (by decide) rfl (Nat.le_of_ble_eq_true rfl) (fun p e s m below meth c A Q ls C0 hA hK hP hD hS hl hret => ?_)
  obtain ⟨hx, hb, hr, hml, hown, hts, hlocks⟩ := id C0
  have hl : lv_has ls 2 [(0, .ref a_t), (1, .int p1)] := hl
  unfold f_X0_draw at hf
  refine lv_aload_n hx hb dX0_draw_0 rfl (lv_at hl 0 rfl) ?_
  refine lv_aload_n hx hb dX0_draw_1 rfl (lv_at hl 0 rfl) ?_
  refine va_get (D := D) (ci := 0) (v := .int i_t_seed) (C := RX0) (T := TX0) (N := 9) hx hb hts uX0_draw_X0 hown hK.1.1 hP 0 rfl rfl 8 (by decide) (hts _ mX0_draw_50) (fun _ h9 => h9) rfl dX0_draw_2 ?_
  refine lv_ldc (v := 1103515245) hx hb hown (hts _ mX0_draw_53) dX0_draw_5 ?_
  refine lv_imul hx hb dX0_draw_7 ?_
  refine lv_sipush (v := 12345) hx hb dX0_draw_8 (by decide) ?_
  refine lv_iadd hx hb dX0_draw_11 ?_
  refine lv_ldc (v := 2147483647) hx hb hown (hts _ mX0_draw_54) dX0_draw_12 ?_
  refine lv_iand hx hb dX0_draw_14 ?_
  refine va_put (D := D) (ci := 0) (v := .int (((i_t_seed * 1103515245) + 12345) &&& 2147483647)) (ty := .int) (C := RX0) (T := TX0) (N := 9) hx hb hts uX0_draw_X0 tyX0 tyX0_ok nmX0 hown hK.1.1 hP hD hS 0 rfl rfl 8 (by decide) (hts _ mX0_draw_50) (fun _ h9 => h9) rfl (by decide +kernel) rfl rfl (Nat.le_of_ble_eq_true rfl) dX0_draw_15 (fun H locs hP hD hS => ?_)
  have hP : va_P D vwCl [(a_t, .inr (0, [o_t_letter, o_t_turn, o_t_settled, o_t_gained, o_t_entries, o_t_sent, o_t_law, o_t_way, .int (((i_t_seed * 1103515245) + 12345) &&& 2147483647)]))] H := hP
  have hD : va_D A [(a_t, .inr (0, [o_t_letter, o_t_turn, o_t_settled, o_t_gained, o_t_entries, o_t_sent, o_t_law, o_t_way, .int (((i_t_seed * 1103515245) + 12345) &&& 2147483647)]))] := hD
  refine lv_iload_n hx hb dX0_draw_18 rfl (lv_at hl 1 rfl) ?_
  refine lv_if_le (tgt := 34) hx hb dX0_draw_19 (by decide) (fun c_1 => ?_) (fun c_1 => ?_)
  · have hf := hb_t hf c_1
    refine lv_iconst (v := 0) hx hb dX0_draw_34 (by decide) ?_
    obtain ⟨e_0, e_1⟩ := tu2 hf
    subst e_0; subst e_1
    exact hret _ _ _ _ dX0_draw_35 rfl hP hS
  · have hf := hb_f hf c_1
    refine lv_aload_n hx hb dX0_draw_22 rfl (lv_at hl 0 rfl) ?_
    refine va_get (D := D) (ci := 0) (v := .int (((i_t_seed * 1103515245) + 12345) &&& 2147483647)) (C := RX0) (T := TX0) (N := 9) hx hb hts uX0_draw_X0 hown hK.1.1 hP 0 rfl rfl 8 (by decide) (hts _ mX0_draw_50) (fun _ h9 => h9) rfl dX0_draw_23 ?_
    refine lv_ldc (v := 65536) hx hb hown (hts _ mX0_draw_55) dX0_draw_26 ?_
    refine lv_idiv hx hb dX0_draw_28 (by decide) ?_
    refine lv_iload_n hx hb dX0_draw_29 rfl (lv_at hl 1 rfl) ?_
    obtain ⟨hg_2, hf⟩ := hb_g hf
    refine lv_irem hx hb dX0_draw_30 hg_2 ?_
    refine lv_goto (tgt := 35) hx hb dX0_draw_31 (by decide) ?_
    obtain ⟨e_0, e_1⟩ := tu2 hf
    subst e_0; subst e_1
    exact hret _ _ _ _ dX0_draw_35 rfl hP hS
theorem mX2_restart_15 : Cond.fieldLink RX2 15 "OneWordLetters$Guess" "house" "I" ∈ wsX2_restart := by decide +kernel
theorem uX2_restart_X2 : ∀ w ∈ wsX20, w ∈ wsX2_restart := fun _ h => List.mem_cons_of_mem _ (List.mem_append_right _ h)
theorem mX2_restart_9 : Cond.fieldLink RX2 9 "OneWordLetters$Guess" "worths" "[I" ∈ wsX2_restart := by decide +kernel
abbrev rmX2_restart : Room := { frames := 1, cells := 0, slots := 0, locals := 23 }
set_option maxRecDepth 100000 in
set_option maxHeartbeats 4000000 in
theorem c_X2_restart (l : Launch) (D : va_G) (cy : Nat → ClassId) (a_t : Nat) (a_t_worths : Nat) (i_t_house : Int32) (f_t_worths : Nat → Int32) (p1 : Int32) (z_i_t_house : Int32) (z_f_t_worths : Nat → Int32) (hf : f_X2_restart i_t_house f_t_worths p1 = some (z_i_t_house, z_f_t_worths)) : MV l D cy yX2_restart wsX2_restart rmX2_restart [.ref a_t, .int p1] [(a_t, .inr (2, [.int i_t_house, .ref a_t_worths])), (a_t_worths, .inl (cy 0, 8, .inl f_t_worths))] [(a_t, .inr (2, [.int z_i_t_house, .ref a_t_worths])), (a_t_worths, .inl (cy 0, 8, .inl z_f_t_worths))] := by
  refine st_V (by decide) rfl (Nat.le_of_ble_eq_true rfl) (fun p e s m below meth c A Q ls C0 hA hK hP hD hS hl hret => ?_)
  obtain ⟨hx, hb, hr, hml, hown, hts, hlocks⟩ := id C0
  have hl : lv_has ls 2 [(0, .ref a_t), (1, .int p1)] := hl
  unfold f_X2_restart at hf
  refine lv_aload_n hx hb dX2_restart_0 rfl (lv_at hl 0 rfl) ?_
  refine lv_iload_n hx hb dX2_restart_1 rfl (lv_at hl 1 rfl) ?_
  refine va_put (D := D) (ci := 2) (v := .int p1) (ty := .int) (C := RX2) (T := TX2) (N := 2) hx hb hts uX2_restart_X2 tyX2 tyX2_ok nmX2 hown hK.1.1 hP hD hS 0 rfl rfl 0 (by decide) (hts _ mX2_restart_15) (fun _ h9 => h9) rfl (by decide +kernel) rfl rfl (Nat.le_of_ble_eq_true rfl) dX2_restart_2 (fun H locs hP hD hS => ?_)
  have hP : va_P D vwCl [(a_t, .inr (2, [.int p1, .ref a_t_worths])), (a_t_worths, .inl (cy 0, 8, .inl f_t_worths))] H := hP
  have hD : va_D A [(a_t, .inr (2, [.int p1, .ref a_t_worths])), (a_t_worths, .inl (cy 0, 8, .inl f_t_worths))] := hD
  refine lv_aload_n hx hb dX2_restart_5 rfl (lv_at hl 0 rfl) ?_
  refine va_get (D := D) (ci := 2) (v := .ref a_t_worths) (C := RX2) (T := TX2) (N := 2) hx hb hts uX2_restart_X2 hown hK.1.1 hP 0 rfl rfl 1 (by decide) (hts _ mX2_restart_9) (fun _ h9 => h9) rfl dX2_restart_6 ?_
  refine lv_iconst (v := 0) hx hb dX2_restart_9 (by decide) ?_
  obtain ⟨z_1, hc_2, hf⟩ := hb_b hf
  refine cl_Sv (rest := []) [1] [none, some 0] 2 C0 hK hP hD hS hA (c_J7_fill_53178 l D cy a_t_worths 8 f_t_worths 0 z_1 hc_2) (va_cwS 2 hts gX2_restart_J7_fill_53178 rfl rfl rfl (by decide +kernel) ⟨Nat.le_of_ble_eq_true rfl, Nat.le_of_ble_eq_true rfl⟩) rfl (by decide) rfl rfl rfl rfl hl.1 rfl (Nat.le_of_ble_eq_true rfl) dX2_restart_10 ⟨Nat.zero_le _, Nat.zero_le _⟩ (fun H locs hP hD hS => ?_)
  have hP : va_P D vwCl [(a_t, .inr (2, [.int p1, .ref a_t_worths])), (a_t_worths, .inl (cy 0, 8, .inl z_1))] H := hP
  have hD : va_D A [(a_t, .inr (2, [.int p1, .ref a_t_worths])), (a_t_worths, .inl (cy 0, 8, .inl z_1))] := hD
  obtain ⟨e_0, e_1⟩ := tu2 hf
  subst e_0; subst e_1
  exact hret _ _ _ _ dX2_restart_13 hP hS
theorem mX6_empty_21 : Cond.fieldLink RX6 21 "OneWordLetters$Row" "count" "I" ∈ wsX6_empty := by decide +kernel
theorem uX6_empty_X6 : ∀ w ∈ wsX60, w ∈ wsX6_empty := fun _ h => List.mem_cons_of_mem _ (List.mem_append_right _ h)
abbrev rmX6_empty : Room := { frames := 0, cells := 0, slots := 0, locals := 0 }
set_option maxRecDepth 100000 in
set_option maxHeartbeats 4000000 in
theorem c_X6_empty (l : Launch) (D : va_G) (cy : Nat → ClassId) (a_t : Nat) (o_t_letters : Value) (i_t_count : Int32) (z_i_t_count : Int32) (hf : f_X6_empty i_t_count = some z_i_t_count) : MV l D cy yX6_empty wsX6_empty rmX6_empty [.ref a_t] [(a_t, .inr (6, [o_t_letters, .int i_t_count]))] [(a_t, .inr (6, [o_t_letters, .int z_i_t_count]))] := by
  refine st_V (by decide) rfl (Nat.le_of_ble_eq_true rfl) (fun p e s m below meth c A Q ls C0 hA hK hP hD hS hl hret => ?_)
  obtain ⟨hx, hb, hr, hml, hown, hts, hlocks⟩ := id C0
  have hl : lv_has ls 1 [(0, .ref a_t)] := hl
  unfold f_X6_empty at hf
  refine lv_aload_n hx hb dX6_empty_0 rfl (lv_at hl 0 rfl) ?_
  refine lv_iconst (v := 0) hx hb dX6_empty_1 (by decide) ?_
  refine va_put (D := D) (ci := 6) (v := .int 0) (ty := .int) (C := RX6) (T := TX6) (N := 2) hx hb hts uX6_empty_X6 tyX6 tyX6_ok nmX6 hown hK.1.1 hP hD hS 0 rfl rfl 1 (by decide) (hts _ mX6_empty_21) (fun _ h9 => h9) rfl (by decide +kernel) rfl rfl (Nat.le_of_ble_eq_true rfl) dX6_empty_2 (fun H locs hP hD hS => ?_)
  have hP : va_P D vwCl [(a_t, .inr (6, [o_t_letters, .int 0]))] H := hP
  have hD : va_D A [(a_t, .inr (6, [o_t_letters, .int 0]))] := hD
  have hf := Option.some.inj hf
  subst hf
  exact hret _ _ _ _ dX6_empty_5 hP hS
theorem mX6_add_21 : Cond.fieldLink RX6 21 "OneWordLetters$Row" "count" "I" ∈ wsX6_add := by decide +kernel
theorem uX6_add_X6 : ∀ w ∈ wsX60, w ∈ wsX6_add := fun _ h => List.mem_cons_of_mem _ (List.mem_append_right _ h)
theorem mX6_add_15 : Cond.fieldLink RX6 15 "OneWordLetters$Row" "letters" "[I" ∈ wsX6_add := by decide +kernel
abbrev rmX6_add : Room := { frames := 0, cells := 0, slots := 0, locals := 0 }
set_option maxRecDepth 100000 in
set_option maxHeartbeats 4000000 in
theorem c_X6_add (l : Launch) (D : va_G) (cy : Nat → ClassId) (a_t : Nat) (a_t_letters : Nat) (n_t_letters : Nat) (i_t_count : Int32) (f_t_letters : Nat → Int32) (p1 : Int32) (z_i_t_count : Int32) (z_f_t_letters : Nat → Int32) (hf : f_X6_add n_t_letters i_t_count f_t_letters p1 = some (z_i_t_count, z_f_t_letters)) : MV l D cy yX6_add wsX6_add rmX6_add [.ref a_t, .int p1] [(a_t, .inr (6, [.ref a_t_letters, .int i_t_count])), (a_t_letters, .inl (cy 0, n_t_letters, .inl f_t_letters))] [(a_t, .inr (6, [.ref a_t_letters, .int z_i_t_count])), (a_t_letters, .inl (cy 0, n_t_letters, .inl z_f_t_letters))] := by
  refine st_V (by decide) rfl (Nat.le_of_ble_eq_true rfl) (fun p e s m below meth c A Q ls C0 hA hK hP hD hS hl hret => ?_)
  obtain ⟨hx, hb, hr, hml, hown, hts, hlocks⟩ := id C0
  have hl : lv_has ls 2 [(0, .ref a_t), (1, .int p1)] := hl
  unfold f_X6_add at hf
  refine lv_aload_n hx hb dX6_add_0 rfl (lv_at hl 0 rfl) ?_
  refine va_get (D := D) (ci := 6) (v := .int i_t_count) (C := RX6) (T := TX6) (N := 2) hx hb hts uX6_add_X6 hown hK.1.1 hP 0 rfl rfl 1 (by decide) (hts _ mX6_add_21) (fun _ h9 => h9) rfl dX6_add_1 ?_
  refine lv_aload_n hx hb dX6_add_4 rfl (lv_at hl 0 rfl) ?_
  refine va_get (D := D) (ci := 6) (v := .ref a_t_letters) (C := RX6) (T := TX6) (N := 2) hx hb hts uX6_add_X6 hown hK.1.1 hP 0 rfl rfl 0 (by decide) (hts _ mX6_add_15) (fun _ h9 => h9) rfl dX6_add_5 ?_
  refine va_alen (v := nI n_t_letters) (ty := .int) hx hb hK.1.1 hP 1 0 rfl rfl rfl dX6_add_8 ?_
  refine lv_icmp_ge (tgt := 32) hx hb dX6_add_9 (by decide) (fun c_1 => ?_) (fun c_1 => ?_)
  · have hf := hb_t hf c_1
    obtain ⟨e_0, e_1⟩ := tu2 hf
    subst e_0; subst e_1
    exact hret _ _ _ _ dX6_add_32 hP hS
  · have hf := hb_f hf c_1
    refine lv_aload_n hx hb dX6_add_12 rfl (lv_at hl 0 rfl) ?_
    refine va_get (D := D) (ci := 6) (v := .ref a_t_letters) (C := RX6) (T := TX6) (N := 2) hx hb hts uX6_add_X6 hown hK.1.1 hP 0 rfl rfl 0 (by decide) (hts _ mX6_add_15) (fun _ h9 => h9) rfl dX6_add_13 ?_
    refine lv_aload_n hx hb dX6_add_16 rfl (lv_at hl 0 rfl) ?_
    refine va_get (D := D) (ci := 6) (v := .int i_t_count) (C := RX6) (T := TX6) (N := 2) hx hb hts uX6_add_X6 hown hK.1.1 hP 0 rfl rfl 1 (by decide) (hts _ mX6_add_21) (fun _ h9 => h9) rfl dX6_add_17 ?_
    refine lv_iload_n hx hb dX6_add_20 rfl (lv_at hl 1 rfl) ?_
    obtain ⟨hg_2, hf⟩ := hb_g hf
    refine va_iast hx hb hK.1.1 hP hD hS 1 0 rfl rfl (ixb_in hg_2) dX6_add_21 (fun H locs hP hD hS => ?_)
    have hP : va_P D vwCl [(a_t, .inr (6, [.ref a_t_letters, .int i_t_count])), (a_t_letters, .inl (cy 0, n_t_letters, .inl (upd f_t_letters (i_t_count : Int32).toNatClampNeg p1)))] H := hP
    have hD : va_D A [(a_t, .inr (6, [.ref a_t_letters, .int i_t_count])), (a_t_letters, .inl (cy 0, n_t_letters, .inl (upd f_t_letters (i_t_count : Int32).toNatClampNeg p1)))] := hD
    refine lv_aload_n hx hb dX6_add_22 rfl (lv_at hl 0 rfl) ?_
    refine lv_dup hx hb dX6_add_23 rfl ?_
    refine va_get (D := D) (ci := 6) (v := .int i_t_count) (C := RX6) (T := TX6) (N := 2) hx hb hts uX6_add_X6 hown hK.1.1 hP 0 rfl rfl 1 (by decide) (hts _ mX6_add_21) (fun _ h9 => h9) rfl dX6_add_24 ?_
    refine lv_iconst (v := 1) hx hb dX6_add_27 (by decide) ?_
    refine lv_iadd hx hb dX6_add_28 ?_
    refine va_put (D := D) (ci := 6) (v := .int (i_t_count + 1)) (ty := .int) (C := RX6) (T := TX6) (N := 2) hx hb hts uX6_add_X6 tyX6 tyX6_ok nmX6 hown hK.1.1 hP hD hS 0 rfl rfl 1 (by decide) (hts _ mX6_add_21) (fun _ h9 => h9) rfl (by decide +kernel) rfl rfl (Nat.le_of_ble_eq_true rfl) dX6_add_29 (fun H locs hP hD hS => ?_)
    have hP : va_P D vwCl [(a_t, .inr (6, [.ref a_t_letters, .int (i_t_count + 1)])), (a_t_letters, .inl (cy 0, n_t_letters, .inl (upd f_t_letters (i_t_count : Int32).toNatClampNeg p1)))] H := hP
    have hD : va_D A [(a_t, .inr (6, [.ref a_t_letters, .int (i_t_count + 1)])), (a_t_letters, .inl (cy 0, n_t_letters, .inl (upd f_t_letters (i_t_count : Int32).toNatClampNeg p1)))] := hD
    obtain ⟨e_0, e_1⟩ := tu2 hf
    subst e_0; subst e_1
    exact hret _ _ _ _ dX6_add_32 hP hS
theorem mX6_get_21 : Cond.fieldLink RX6 21 "OneWordLetters$Row" "count" "I" ∈ wsX6_get := by decide +kernel
theorem uX6_get_X6 : ∀ w ∈ wsX60, w ∈ wsX6_get := fun _ h => List.mem_cons_of_mem _ (List.mem_append_right _ h)
theorem mX6_get_15 : Cond.fieldLink RX6 15 "OneWordLetters$Row" "letters" "[I" ∈ wsX6_get := by decide +kernel
abbrev rmX6_get : Room := { frames := 0, cells := 0, slots := 0, locals := 0 }
set_option maxRecDepth 100000 in
set_option maxHeartbeats 4000000 in
theorem c_X6_get (l : Launch) (D : va_G) (cy : Nat → ClassId) (a_t : Nat) (a_t_letters : Nat) (i_t_count : Int32) (n_t_letters : Nat) (f_t_letters : Nat → Int32) (p1 : Int32) (rv : Int32) (hf : f_X6_get i_t_count n_t_letters f_t_letters p1 = some rv) : MI l D cy yX6_get wsX6_get rmX6_get [.ref a_t, .int p1] [(a_t, .inr (6, [.ref a_t_letters, .int i_t_count])), (a_t_letters, .inl (cy 0, n_t_letters, .inl f_t_letters))] [(a_t, .inr (6, [.ref a_t_letters, .int i_t_count])), (a_t_letters, .inl (cy 0, n_t_letters, .inl f_t_letters))] rv := by
  refine st_I (by decide) rfl (Nat.le_of_ble_eq_true rfl) (fun p e s m below meth c A Q ls C0 hA hK hP hD hS hl hret => ?_)
  obtain ⟨hx, hb, hr, hml, hown, hts, hlocks⟩ := id C0
  have hl : lv_has ls 2 [(0, .ref a_t), (1, .int p1)] := hl
  unfold f_X6_get at hf
  refine lv_iload_n hx hb dX6_get_0 rfl (lv_at hl 1 rfl) ?_
  refine lv_if_lt (tgt := 21) hx hb dX6_get_1 (by decide) (fun c_1 => ?_) (fun c_1 => ?_)
  · have hf := hb_t hf c_1
    refine lv_iconst (v := (-1)) hx hb dX6_get_21 (by decide) ?_
    have hf := Option.some.inj hf
    subst hf
    exact hret _ _ _ _ dX6_get_22 rfl hP hS
  · have hf := hb_f hf c_1
    refine lv_iload_n hx hb dX6_get_4 rfl (lv_at hl 1 rfl) ?_
    refine lv_aload_n hx hb dX6_get_5 rfl (lv_at hl 0 rfl) ?_
    refine va_get (D := D) (ci := 6) (v := .int i_t_count) (C := RX6) (T := TX6) (N := 2) hx hb hts uX6_get_X6 hown hK.1.1 hP 0 rfl rfl 1 (by decide) (hts _ mX6_get_21) (fun _ h9 => h9) rfl dX6_get_6 ?_
    refine lv_icmp_ge (tgt := 21) hx hb dX6_get_9 (by decide) (fun c_2 => ?_) (fun c_2 => ?_)
    · have hf := hb_t hf c_2
      refine lv_iconst (v := (-1)) hx hb dX6_get_21 (by decide) ?_
      have hf := Option.some.inj hf
      subst hf
      exact hret _ _ _ _ dX6_get_22 rfl hP hS
    · have hf := hb_f hf c_2
      refine lv_aload_n hx hb dX6_get_12 rfl (lv_at hl 0 rfl) ?_
      refine va_get (D := D) (ci := 6) (v := .ref a_t_letters) (C := RX6) (T := TX6) (N := 2) hx hb hts uX6_get_X6 hown hK.1.1 hP 0 rfl rfl 0 (by decide) (hts _ mX6_get_15) (fun _ h9 => h9) rfl dX6_get_13 ?_
      refine lv_iload_n hx hb dX6_get_16 rfl (lv_at hl 1 rfl) ?_
      obtain ⟨hg_3, hf⟩ := hb_g hf
      refine va_iald hx hb hK.1.1 hP 1 0 rfl rfl (ixb_in hg_3) dX6_get_17 ?_
      refine lv_goto (tgt := 22) hx hb dX6_get_18 (by decide) ?_
      have hf := Option.some.inj hf
      subst hf
      exact hret _ _ _ _ dX6_get_22 rfl hP hS
theorem mX6_countOrGet_21 : Cond.fieldLink RX6 21 "OneWordLetters$Row" "count" "I" ∈ wsX6_countOrGet := by decide +kernel
theorem uX6_countOrGet_X6 : ∀ w ∈ wsX60, w ∈ wsX6_countOrGet := fun _ h => List.mem_cons_of_mem _ (List.mem_append_right _ h)
abbrev rmX6_countOrGet : Room := { frames := 1, cells := 0, slots := 0, locals := 21 }
set_option maxRecDepth 100000 in
set_option maxHeartbeats 4000000 in
theorem c_X6_countOrGet (l : Launch) (D : va_G) (cy : Nat → ClassId) (a_t : Nat) (a_t_letters : Nat) (i_t_count : Int32) (n_t_letters : Nat) (f_t_letters : Nat → Int32) (p1 : Int32) (rv : Int32) (hf : f_X6_countOrGet i_t_count n_t_letters f_t_letters p1 = some rv) : MI l D cy yX6_countOrGet wsX6_countOrGet rmX6_countOrGet [.ref a_t, .int p1] [(a_t, .inr (6, [.ref a_t_letters, .int i_t_count])), (a_t_letters, .inl (cy 0, n_t_letters, .inl f_t_letters))] [(a_t, .inr (6, [.ref a_t_letters, .int i_t_count])), (a_t_letters, .inl (cy 0, n_t_letters, .inl f_t_letters))] rv := by
  refine st_I (by decide) rfl (Nat.le_of_ble_eq_true rfl) (fun p e s m below meth c A Q ls C0 hA hK hP hD hS hl hret => ?_)
  obtain ⟨hx, hb, hr, hml, hown, hts, hlocks⟩ := id C0
  have hl : lv_has ls 2 [(0, .ref a_t), (1, .int p1)] := hl
  unfold f_X6_countOrGet at hf
  refine lv_iload_n hx hb dX6_countOrGet_0 rfl (lv_at hl 1 rfl) ?_
  refine lv_iconst (v := (-1)) hx hb dX6_countOrGet_1 (by decide) ?_
  refine lv_icmp_ne (tgt := 12) hx hb dX6_countOrGet_2 (by decide) (fun c_1 => ?_) (fun c_1 => ?_)
  · have hf := hb_f hf c_1
    refine lv_aload_n hx hb dX6_countOrGet_12 rfl (lv_at hl 0 rfl) ?_
    refine lv_iload_n hx hb dX6_countOrGet_13 rfl (lv_at hl 1 rfl) ?_
    obtain ⟨r_2, hc_3, hf⟩ := hb_b hf
    refine cl_Vi (rest := []) [0, 1] [some 0, some 1] 2 0 C0 hK hP hD hS hA (c_X6_get l D cy a_t a_t_letters i_t_count n_t_letters f_t_letters p1 r_2 hc_3) (cwV 1 hts gX6_countOrGet_X6_get rfl rfl rfl (by decide +kernel) ⟨Nat.le_of_ble_eq_true rfl, Nat.le_of_ble_eq_true rfl⟩) rfl (by decide) rfl rfl rfl rfl rfl rfl rfl hl.1 rfl (Nat.le_of_ble_eq_true rfl) dX6_countOrGet_14 ⟨Nat.zero_le _, Nat.zero_le _⟩ (fun H locs hP hD hS => ?_)
    have hP : va_P D vwCl [(a_t, .inr (6, [.ref a_t_letters, .int i_t_count])), (a_t_letters, .inl (cy 0, n_t_letters, .inl f_t_letters))] H := hP
    have hD : va_D A [(a_t, .inr (6, [.ref a_t_letters, .int i_t_count])), (a_t_letters, .inl (cy 0, n_t_letters, .inl f_t_letters))] := hD
    have hf := Option.some.inj hf
    subst hf
    exact hret _ _ _ _ dX6_countOrGet_17 rfl hP hS
  · have hf := hb_t hf c_1
    refine lv_aload_n hx hb dX6_countOrGet_5 rfl (lv_at hl 0 rfl) ?_
    refine va_get (D := D) (ci := 6) (v := .int i_t_count) (C := RX6) (T := TX6) (N := 2) hx hb hts uX6_countOrGet_X6 hown hK.1.1 hP 0 rfl rfl 1 (by decide) (hts _ mX6_countOrGet_21) (fun _ h9 => h9) rfl dX6_countOrGet_6 ?_
    refine lv_goto (tgt := 17) hx hb dX6_countOrGet_9 (by decide) ?_
    have hf := Option.some.inj hf
    subst hf
    exact hret _ _ _ _ dX6_countOrGet_17 rfl hP hS
theorem mX6_has_21 : Cond.fieldLink RX6 21 "OneWordLetters$Row" "count" "I" ∈ wsX6_has := by decide +kernel
theorem uX6_has_X6 : ∀ w ∈ wsX60, w ∈ wsX6_has := fun _ h => List.mem_cons_of_mem _ (List.mem_append_right _ h)
theorem mX6_has_15 : Cond.fieldLink RX6 15 "OneWordLetters$Row" "letters" "[I" ∈ wsX6_has := by decide +kernel
abbrev rmX6_has : Room := { frames := 0, cells := 0, slots := 0, locals := 0 }
set_option maxRecDepth 100000 in
set_option maxHeartbeats 4000000 in
theorem L_X6_has_2 {p : Program} {e : Env} {s : State} {m : MethodId} {args : Array Value} {below : List Frame} {meth : Method} {c : Code} {Q : State → Prop} {A : Nat → Prop} (l : Launch) (D : va_G) (cy : Nat → ClassId) (a_t : Nat) (a_t_letters : Nat) (i_t_count : Int32) (n_t_letters : Nat) (f_t_letters : Nat → Int32) (rv : Int32) (C0 : CX p s m args meth c cX6_has 3 (some .boolean) wsX6_has RX6) (hA : ∀ q, s.heap.size ≤ q → A q) (hK : KZ D cy A s) (hret : ∀ (H : Heap) (locs : List Loc) (ls : Array Slot) (pc : Nat), decode cX6_has pc = .ok (.ireturn, 1) → narrow .boolean (.int rv) = .int rv → va_P D vwCl [(a_t, .inr (6, [.ref a_t_letters, .int i_t_count])), (a_t_letters, .inl (cy 0, n_t_letters, .inl f_t_letters))] H → va_S A s.heap H locs → W p l e rmX6_has s m args below meth c H locs 0 0 Q (F0 m pc ls [.int rv])) : ∀ (n : Nat) (v1 : Int32) (v2 : Int32), f_X6_has_L2 i_t_count n_t_letters f_t_letters n v1 v2 = some rv → ∀ (H : Heap) (locs : List Loc), va_P D vwCl [(a_t, .inr (6, [.ref a_t_letters, .int i_t_count])), (a_t_letters, .inl (cy 0, n_t_letters, .inl f_t_letters))] H → va_D A [(a_t, .inr (6, [.ref a_t_letters, .int i_t_count])), (a_t_letters, .inl (cy 0, n_t_letters, .inl f_t_letters))] → va_S A s.heap H locs → ∀ ls : Array Slot, lv_has ls 3 [(0, .ref a_t), (1, .int v1), (2, .int v2)] → W p l e rmX6_has s m args below meth c H locs 0 0 Q (F0 m 2 ls []) := by
  obtain ⟨hx, hb, hr, hml, hown, hts, hlocks⟩ := id C0
  intro n
  induction n with
  | zero => intro _ _ hf; rw [f_X6_has_L2.eq_1] at hf; cases hf
  | succ n ih =>
    intro v1 v2 hf H locs hP hD hS ls hl
    rw [f_X6_has_L2.eq_2] at hf
    refine lv_iload_n hx hb dX6_has_2 rfl (lv_at hl 2 rfl) ?_
    refine lv_aload_n hx hb dX6_has_3 rfl (lv_at hl 0 rfl) ?_
    refine va_get (D := D) (ci := 6) (v := .int i_t_count) (C := RX6) (T := TX6) (N := 2) hx hb hts uX6_has_X6 hown hK.1.1 hP 0 rfl rfl 1 (by decide) (hts _ mX6_has_21) (fun _ h9 => h9) rfl dX6_has_4 ?_
    refine lv_icmp_ge (tgt := 28) hx hb dX6_has_7 (by decide) (fun c_1 => ?_) (fun c_1 => ?_)
    · have hf := hb_t hf c_1
      refine lv_iconst (v := 0) hx hb dX6_has_28 (by decide) ?_
      have hf := Option.some.inj hf
      subst hf
      exact hret _ _ _ _ dX6_has_29 rfl hP hS
    · have hf := hb_f hf c_1
      refine lv_aload_n hx hb dX6_has_10 rfl (lv_at hl 0 rfl) ?_
      refine va_get (D := D) (ci := 6) (v := .ref a_t_letters) (C := RX6) (T := TX6) (N := 2) hx hb hts uX6_has_X6 hown hK.1.1 hP 0 rfl rfl 0 (by decide) (hts _ mX6_has_15) (fun _ h9 => h9) rfl dX6_has_11 ?_
      refine lv_iload_n hx hb dX6_has_14 rfl (lv_at hl 2 rfl) ?_
      obtain ⟨hg_2, hf⟩ := hb_g hf
      refine va_iald hx hb hK.1.1 hP 1 0 rfl rfl (ixb_in hg_2) dX6_has_15 ?_
      refine lv_iload_n hx hb dX6_has_16 rfl (lv_at hl 1 rfl) ?_
      refine lv_icmp_ne (tgt := 22) hx hb dX6_has_17 (by decide) (fun c_3 => ?_) (fun c_3 => ?_)
      · have hf := hb_f hf c_3
        refine lv_iinc (v := (v2 + 1)) (lv' := [(2, .int (v2 + 1)), (0, .ref a_t), (1, .int v1)]) hx hb dX6_has_22 hl (k := 2) rfl rfl (by decide) rfl (fun ls hl => ?_)
        refine lv_goto (tgt := 2) hx hb dX6_has_25 (by decide) ?_
        exact ih v1 (v2 + 1) hf _ _ hP hD hS _ (lv_sub hl [1, 2, 0] rfl)
      · have hf := hb_t hf c_3
        refine lv_iconst (v := 1) hx hb dX6_has_20 (by decide) ?_
        have hf := Option.some.inj hf
        subst hf
        exact hret _ _ _ _ dX6_has_21 rfl hP hS
set_option maxRecDepth 100000 in
set_option maxHeartbeats 4000000 in
theorem c_X6_has (l : Launch) (D : va_G) (cy : Nat → ClassId) (a_t : Nat) (a_t_letters : Nat) (i_t_count : Int32) (n_t_letters : Nat) (f_t_letters : Nat → Int32) (p1 : Int32) (rv : Int32) (hf : f_X6_has i_t_count n_t_letters f_t_letters p1 = some rv) : MI l D cy yX6_has wsX6_has rmX6_has [.ref a_t, .int p1] [(a_t, .inr (6, [.ref a_t_letters, .int i_t_count])), (a_t_letters, .inl (cy 0, n_t_letters, .inl f_t_letters))] [(a_t, .inr (6, [.ref a_t_letters, .int i_t_count])), (a_t_letters, .inl (cy 0, n_t_letters, .inl f_t_letters))] rv := by
  refine st_I (by decide) rfl (Nat.le_of_ble_eq_true rfl) (fun p e s m below meth c A Q ls C0 hA hK hP hD hS hl hret => ?_)
  obtain ⟨hx, hb, hr, hml, hown, hts, hlocks⟩ := id C0
  have hl : lv_has ls 3 [(0, .ref a_t), (1, .int p1)] := hl
  unfold f_X6_has at hf
  refine lv_iconst (v := 0) hx hb dX6_has_0 (by decide) ?_
  refine lv_istore_n (lv' := [(2, .int 0), (0, .ref a_t), (1, .int p1)]) hx hb dX6_has_1 rfl hl (by decide) rfl (fun ls hl => ?_)
  refine L_X6_has_2 l D cy a_t a_t_letters i_t_count n_t_letters f_t_letters rv C0 hA hK hret  FU p1 0 hf _ _ hP hD hS _ (lv_sub hl [1, 2, 0] rfl)
theorem mX7_clear_32 : Cond.fieldLink RX7 32 "OneWordLetters$Tongue" "length" "I" ∈ wsX7_clear := by decide +kernel
theorem uX7_clear_X7 : ∀ w ∈ wsX70, w ∈ wsX7_clear := fun _ h => List.mem_cons_of_mem _ (List.mem_append_right _ h)
theorem mX7_clear_36 : Cond.fieldLink RX7 36 "OneWordLetters$Tongue" "words" "I" ∈ wsX7_clear := by decide +kernel
theorem mX7_clear_39 : Cond.fieldLink RX7 39 "OneWordLetters$Tongue" "frames" "I" ∈ wsX7_clear := by decide +kernel
theorem mX7_clear_42 : Cond.fieldLink RX7 42 "OneWordLetters$Tongue" "pairs" "I" ∈ wsX7_clear := by decide +kernel
theorem mX7_clear_20 : Cond.fieldLink RX7 20 "OneWordLetters$Tongue" "framed" "[I" ∈ wsX7_clear := by decide +kernel
theorem mX7_clear_23 : Cond.fieldLink RX7 23 "OneWordLetters$Tongue" "paired" "[I" ∈ wsX7_clear := by decide +kernel
theorem mX7_clear_26 : Cond.fieldLink RX7 26 "OneWordLetters$Tongue" "pairWorths" "[[I" ∈ wsX7_clear := by decide +kernel
abbrev rmX7_clear : Room := { frames := 1, cells := 0, slots := 0, locals := 23 }
set_option maxRecDepth 100000 in
set_option maxHeartbeats 4000000 in
theorem L_X7_clear_38 {p : Program} {e : Env} {s : State} {m : MethodId} {args : Array Value} {below : List Frame} {meth : Method} {c : Code} {Q : State → Prop} {A : Nat → Prop} (l : Launch) (D : va_G) (cy : Nat → ClassId) (a_t : Nat) (a_t_framed : Nat) (a_t_paired : Nat) (a_t_pairWorths : Nat) (a_t_pairWorths0 : Nat) (a_t_pairWorths1 : Nat) (o_t_kinds : Value) (o_t_worths : Value) (o_t_scales : Value) (z_i_t_length : Int32) (z_i_t_words : Int32) (z_i_t_frames : Int32) (z_i_t_pairs : Int32) (z_f_t_framed : Nat → Int32) (z_f_t_paired : Nat → Int32) (z_f_t_pairWorths0 : Nat → Int32) (z_f_t_pairWorths1 : Nat → Int32) (C0 : CX p s m args meth c cX7_clear 2 none wsX7_clear RX7) (hA : ∀ q, s.heap.size ≤ q → A q) (hK : KZ D cy A s) (hret : ∀ (H : Heap) (locs : List Loc) (ls : Array Slot) (pc : Nat), decode cX7_clear pc = .ok (.return_, 1) → va_P D vwCl [(a_t, .inr (7, [.int z_i_t_length, .int z_i_t_words, .int z_i_t_frames, .int z_i_t_pairs, o_t_kinds, o_t_worths, .ref a_t_framed, .ref a_t_paired, .ref a_t_pairWorths, o_t_scales])), (a_t_framed, .inl (cy 0, 256, .inl z_f_t_framed)), (a_t_paired, .inl (cy 0, 64, .inl z_f_t_paired)), (a_t_pairWorths, .inl (cy 6, 2, .inr (.inr (.inr (.inr (rfL [a_t_pairWorths0, a_t_pairWorths1])))))), (a_t_pairWorths0, .inl (cy 0, 64, .inl z_f_t_pairWorths0)), (a_t_pairWorths1, .inl (cy 0, 64, .inl z_f_t_pairWorths1))] H → va_S A s.heap H locs → W p l e rmX7_clear s m args below meth c H locs 0 0 Q (F0 m pc ls [])) : ∀ (n : Nat) (v1 : Int32) (i_t_length : Int32) (i_t_words : Int32) (i_t_frames : Int32) (i_t_pairs : Int32) (f_t_framed : Nat → Int32) (f_t_paired : Nat → Int32) (f_t_pairWorths0 : Nat → Int32) (f_t_pairWorths1 : Nat → Int32), f_X7_clear_L38 n v1 i_t_length i_t_words i_t_frames i_t_pairs f_t_framed f_t_paired f_t_pairWorths0 f_t_pairWorths1 = some (z_i_t_length, z_i_t_words, z_i_t_frames, z_i_t_pairs, z_f_t_framed, z_f_t_paired, z_f_t_pairWorths0, z_f_t_pairWorths1) → ∀ (H : Heap) (locs : List Loc), va_P D vwCl [(a_t, .inr (7, [.int i_t_length, .int i_t_words, .int i_t_frames, .int i_t_pairs, o_t_kinds, o_t_worths, .ref a_t_framed, .ref a_t_paired, .ref a_t_pairWorths, o_t_scales])), (a_t_framed, .inl (cy 0, 256, .inl f_t_framed)), (a_t_paired, .inl (cy 0, 64, .inl f_t_paired)), (a_t_pairWorths, .inl (cy 6, 2, .inr (.inr (.inr (.inr (rfL [a_t_pairWorths0, a_t_pairWorths1])))))), (a_t_pairWorths0, .inl (cy 0, 64, .inl f_t_pairWorths0)), (a_t_pairWorths1, .inl (cy 0, 64, .inl f_t_pairWorths1))] H → va_D A [(a_t, .inr (7, [.int i_t_length, .int i_t_words, .int i_t_frames, .int i_t_pairs, o_t_kinds, o_t_worths, .ref a_t_framed, .ref a_t_paired, .ref a_t_pairWorths, o_t_scales])), (a_t_framed, .inl (cy 0, 256, .inl f_t_framed)), (a_t_paired, .inl (cy 0, 64, .inl f_t_paired)), (a_t_pairWorths, .inl (cy 6, 2, .inr (.inr (.inr (.inr (rfL [a_t_pairWorths0, a_t_pairWorths1])))))), (a_t_pairWorths0, .inl (cy 0, 64, .inl f_t_pairWorths0)), (a_t_pairWorths1, .inl (cy 0, 64, .inl f_t_pairWorths1))] → va_S A s.heap H locs → ∀ ls : Array Slot, lv_has ls 2 [(0, .ref a_t), (1, .int v1)] → W p l e rmX7_clear s m args below meth c H locs 0 0 Q (F0 m 38 ls []) := by
  obtain ⟨hx, hb, hr, hml, hown, hts, hlocks⟩ := id C0
  intro n
  induction n with
  | zero => intro _ _ _ _ _ _ _ _ _ hf; rw [f_X7_clear_L38.eq_1] at hf; cases hf
  | succ n ih =>
    intro v1 i_t_length i_t_words i_t_frames i_t_pairs f_t_framed f_t_paired f_t_pairWorths0 f_t_pairWorths1 hf H locs hP hD hS ls hl
    rw [f_X7_clear_L38.eq_2] at hf
    refine lv_iload_n hx hb dX7_clear_38 rfl (lv_at hl 1 rfl) ?_
    refine lv_iconst (v := 2) hx hb dX7_clear_39 (by decide) ?_
    refine lv_icmp_ge (tgt := 59) hx hb dX7_clear_40 (by decide) (fun c_5 => ?_) (fun c_5 => ?_)
    · have hf := hb_t hf c_5
      obtain ⟨e_0, e_1, e_2, e_3, e_4, e_5, e_6, e_7⟩ := tu8 hf
      subst e_0; subst e_1; subst e_2; subst e_3; subst e_4; subst e_5; subst e_6; subst e_7
      exact hret _ _ _ _ dX7_clear_59 hP hS
    · have hf := hb_f hf c_5
      refine lv_aload_n hx hb dX7_clear_43 rfl (lv_at hl 0 rfl) ?_
      refine va_get (D := D) (ci := 7) (v := .ref a_t_pairWorths) (C := RX7) (T := TX7) (N := 10) hx hb hts uX7_clear_X7 hown hK.1.1 hP 0 rfl rfl 8 (by decide) (hts _ mX7_clear_26) (fun _ h9 => h9) rfl dX7_clear_44 ?_
      refine lv_iload_n hx hb dX7_clear_47 rfl (lv_at hl 1 rfl) ?_
      by_cases c_6 : v1 = 0
      · have hf := hb_t hf c_6
        refine va_aldk (a1 := a_t_pairWorths0) hx hb hK hP 3 6 rfl rfl (by decide) (by rw [c_6]; decide) (by rw [c_6]; rfl) dX7_clear_48 ?_
        refine lv_iconst (v := 0) hx hb dX7_clear_49 (by decide) ?_
        obtain ⟨z_7, hc_8, hf⟩ := hb_b hf
        refine cl_Sv (rest := []) [4] [none, none, none, none, some 0, none] 6 C0 hK hP hD hS hA (c_J7_fill_53178 l D cy a_t_pairWorths0 64 f_t_pairWorths0 0 z_7 hc_8) (va_cwS 2 hts gX7_clear_J7_fill_53178 rfl rfl rfl (by decide +kernel) ⟨Nat.le_of_ble_eq_true rfl, Nat.le_of_ble_eq_true rfl⟩) rfl (by decide) rfl rfl rfl rfl hl.1 rfl (Nat.le_of_ble_eq_true rfl) dX7_clear_50 ⟨Nat.zero_le _, Nat.zero_le _⟩ (fun H locs hP hD hS => ?_)
        have hP : va_P D vwCl [(a_t, .inr (7, [.int i_t_length, .int i_t_words, .int i_t_frames, .int i_t_pairs, o_t_kinds, o_t_worths, .ref a_t_framed, .ref a_t_paired, .ref a_t_pairWorths, o_t_scales])), (a_t_framed, .inl (cy 0, 256, .inl f_t_framed)), (a_t_paired, .inl (cy 0, 64, .inl f_t_paired)), (a_t_pairWorths, .inl (cy 6, 2, .inr (.inr (.inr (.inr (rfL [a_t_pairWorths0, a_t_pairWorths1])))))), (a_t_pairWorths0, .inl (cy 0, 64, .inl z_7)), (a_t_pairWorths1, .inl (cy 0, 64, .inl f_t_pairWorths1))] H := hP
        have hD : va_D A [(a_t, .inr (7, [.int i_t_length, .int i_t_words, .int i_t_frames, .int i_t_pairs, o_t_kinds, o_t_worths, .ref a_t_framed, .ref a_t_paired, .ref a_t_pairWorths, o_t_scales])), (a_t_framed, .inl (cy 0, 256, .inl f_t_framed)), (a_t_paired, .inl (cy 0, 64, .inl f_t_paired)), (a_t_pairWorths, .inl (cy 6, 2, .inr (.inr (.inr (.inr (rfL [a_t_pairWorths0, a_t_pairWorths1])))))), (a_t_pairWorths0, .inl (cy 0, 64, .inl z_7)), (a_t_pairWorths1, .inl (cy 0, 64, .inl f_t_pairWorths1))] := hD
        refine lv_iinc (v := (v1 + 1)) (lv' := [(1, .int (v1 + 1)), (0, .ref a_t)]) hx hb dX7_clear_53 hl (k := 1) rfl rfl (by decide) rfl (fun ls hl => ?_)
        refine lv_goto (tgt := 38) hx hb dX7_clear_56 (by decide) ?_
        exact ih (v1 + 1) i_t_length i_t_words i_t_frames i_t_pairs f_t_framed f_t_paired z_7 f_t_pairWorths1 hf _ _ hP hD hS _ (lv_sub hl [1, 0] rfl)
      · have hf := hb_f hf c_6
        by_cases c_9 : v1 = 1
        · have hf := hb_t hf c_9
          refine va_aldk (a1 := a_t_pairWorths1) hx hb hK hP 3 6 rfl rfl (by decide) (by rw [c_9]; decide) (by rw [c_9]; rfl) dX7_clear_48 ?_
          refine lv_iconst (v := 0) hx hb dX7_clear_49 (by decide) ?_
          obtain ⟨z_10, hc_11, hf⟩ := hb_b hf
          refine cl_Sv (rest := []) [5] [none, none, none, none, none, some 0] 6 C0 hK hP hD hS hA (c_J7_fill_53178 l D cy a_t_pairWorths1 64 f_t_pairWorths1 0 z_10 hc_11) (va_cwS 2 hts gX7_clear_J7_fill_53178 rfl rfl rfl (by decide +kernel) ⟨Nat.le_of_ble_eq_true rfl, Nat.le_of_ble_eq_true rfl⟩) rfl (by decide) rfl rfl rfl rfl hl.1 rfl (Nat.le_of_ble_eq_true rfl) dX7_clear_50 ⟨Nat.zero_le _, Nat.zero_le _⟩ (fun H locs hP hD hS => ?_)
          have hP : va_P D vwCl [(a_t, .inr (7, [.int i_t_length, .int i_t_words, .int i_t_frames, .int i_t_pairs, o_t_kinds, o_t_worths, .ref a_t_framed, .ref a_t_paired, .ref a_t_pairWorths, o_t_scales])), (a_t_framed, .inl (cy 0, 256, .inl f_t_framed)), (a_t_paired, .inl (cy 0, 64, .inl f_t_paired)), (a_t_pairWorths, .inl (cy 6, 2, .inr (.inr (.inr (.inr (rfL [a_t_pairWorths0, a_t_pairWorths1])))))), (a_t_pairWorths0, .inl (cy 0, 64, .inl f_t_pairWorths0)), (a_t_pairWorths1, .inl (cy 0, 64, .inl z_10))] H := hP
          have hD : va_D A [(a_t, .inr (7, [.int i_t_length, .int i_t_words, .int i_t_frames, .int i_t_pairs, o_t_kinds, o_t_worths, .ref a_t_framed, .ref a_t_paired, .ref a_t_pairWorths, o_t_scales])), (a_t_framed, .inl (cy 0, 256, .inl f_t_framed)), (a_t_paired, .inl (cy 0, 64, .inl f_t_paired)), (a_t_pairWorths, .inl (cy 6, 2, .inr (.inr (.inr (.inr (rfL [a_t_pairWorths0, a_t_pairWorths1])))))), (a_t_pairWorths0, .inl (cy 0, 64, .inl f_t_pairWorths0)), (a_t_pairWorths1, .inl (cy 0, 64, .inl z_10))] := hD
          refine lv_iinc (v := (v1 + 1)) (lv' := [(1, .int (v1 + 1)), (0, .ref a_t)]) hx hb dX7_clear_53 hl (k := 1) rfl rfl (by decide) rfl (fun ls hl => ?_)
          refine lv_goto (tgt := 38) hx hb dX7_clear_56 (by decide) ?_
          exact ih (v1 + 1) i_t_length i_t_words i_t_frames i_t_pairs f_t_framed f_t_paired f_t_pairWorths0 z_10 hf _ _ hP hD hS _ (lv_sub hl [1, 0] rfl)
        · have hf := hb_f hf c_9
          cases hf
set_option maxRecDepth 100000 in
set_option maxHeartbeats 4000000 in
theorem c_X7_clear (l : Launch) (D : va_G) (cy : Nat → ClassId) (a_t : Nat) (a_t_framed : Nat) (a_t_paired : Nat) (a_t_pairWorths : Nat) (a_t_pairWorths0 : Nat) (a_t_pairWorths1 : Nat) (o_t_kinds : Value) (o_t_worths : Value) (o_t_scales : Value) (i_t_length : Int32) (i_t_words : Int32) (i_t_frames : Int32) (i_t_pairs : Int32) (f_t_framed : Nat → Int32) (f_t_paired : Nat → Int32) (f_t_pairWorths0 : Nat → Int32) (f_t_pairWorths1 : Nat → Int32) (z_i_t_length : Int32) (z_i_t_words : Int32) (z_i_t_frames : Int32) (z_i_t_pairs : Int32) (z_f_t_framed : Nat → Int32) (z_f_t_paired : Nat → Int32) (z_f_t_pairWorths0 : Nat → Int32) (z_f_t_pairWorths1 : Nat → Int32) (hf : f_X7_clear i_t_length i_t_words i_t_frames i_t_pairs f_t_framed f_t_paired f_t_pairWorths0 f_t_pairWorths1 = some (z_i_t_length, z_i_t_words, z_i_t_frames, z_i_t_pairs, z_f_t_framed, z_f_t_paired, z_f_t_pairWorths0, z_f_t_pairWorths1)) : MV l D cy yX7_clear wsX7_clear rmX7_clear [.ref a_t] [(a_t, .inr (7, [.int i_t_length, .int i_t_words, .int i_t_frames, .int i_t_pairs, o_t_kinds, o_t_worths, .ref a_t_framed, .ref a_t_paired, .ref a_t_pairWorths, o_t_scales])), (a_t_framed, .inl (cy 0, 256, .inl f_t_framed)), (a_t_paired, .inl (cy 0, 64, .inl f_t_paired)), (a_t_pairWorths, .inl (cy 6, 2, .inr (.inr (.inr (.inr (rfL [a_t_pairWorths0, a_t_pairWorths1])))))), (a_t_pairWorths0, .inl (cy 0, 64, .inl f_t_pairWorths0)), (a_t_pairWorths1, .inl (cy 0, 64, .inl f_t_pairWorths1))] [(a_t, .inr (7, [.int z_i_t_length, .int z_i_t_words, .int z_i_t_frames, .int z_i_t_pairs, o_t_kinds, o_t_worths, .ref a_t_framed, .ref a_t_paired, .ref a_t_pairWorths, o_t_scales])), (a_t_framed, .inl (cy 0, 256, .inl z_f_t_framed)), (a_t_paired, .inl (cy 0, 64, .inl z_f_t_paired)), (a_t_pairWorths, .inl (cy 6, 2, .inr (.inr (.inr (.inr (rfL [a_t_pairWorths0, a_t_pairWorths1])))))), (a_t_pairWorths0, .inl (cy 0, 64, .inl z_f_t_pairWorths0)), (a_t_pairWorths1, .inl (cy 0, 64, .inl z_f_t_pairWorths1))] := by
  refine st_V (by decide) rfl (Nat.le_of_ble_eq_true rfl) (fun p e s m below meth c A Q ls C0 hA hK hP hD hS hl hret => ?_)
  obtain ⟨hx, hb, hr, hml, hown, hts, hlocks⟩ := id C0
  have hl : lv_has ls 2 [(0, .ref a_t)] := hl
  unfold f_X7_clear at hf
  refine lv_aload_n hx hb dX7_clear_0 rfl (lv_at hl 0 rfl) ?_
  refine lv_iconst (v := 0) hx hb dX7_clear_1 (by decide) ?_
  refine va_put (D := D) (ci := 7) (v := .int 0) (ty := .int) (C := RX7) (T := TX7) (N := 10) hx hb hts uX7_clear_X7 tyX7 tyX7_ok nmX7 hown hK.1.1 hP hD hS 0 rfl rfl 0 (by decide) (hts _ mX7_clear_32) (fun _ h9 => h9) rfl (by decide +kernel) rfl rfl (Nat.le_of_ble_eq_true rfl) dX7_clear_2 (fun H locs hP hD hS => ?_)
  have hP : va_P D vwCl [(a_t, .inr (7, [.int 0, .int i_t_words, .int i_t_frames, .int i_t_pairs, o_t_kinds, o_t_worths, .ref a_t_framed, .ref a_t_paired, .ref a_t_pairWorths, o_t_scales])), (a_t_framed, .inl (cy 0, 256, .inl f_t_framed)), (a_t_paired, .inl (cy 0, 64, .inl f_t_paired)), (a_t_pairWorths, .inl (cy 6, 2, .inr (.inr (.inr (.inr (rfL [a_t_pairWorths0, a_t_pairWorths1])))))), (a_t_pairWorths0, .inl (cy 0, 64, .inl f_t_pairWorths0)), (a_t_pairWorths1, .inl (cy 0, 64, .inl f_t_pairWorths1))] H := hP
  have hD : va_D A [(a_t, .inr (7, [.int 0, .int i_t_words, .int i_t_frames, .int i_t_pairs, o_t_kinds, o_t_worths, .ref a_t_framed, .ref a_t_paired, .ref a_t_pairWorths, o_t_scales])), (a_t_framed, .inl (cy 0, 256, .inl f_t_framed)), (a_t_paired, .inl (cy 0, 64, .inl f_t_paired)), (a_t_pairWorths, .inl (cy 6, 2, .inr (.inr (.inr (.inr (rfL [a_t_pairWorths0, a_t_pairWorths1])))))), (a_t_pairWorths0, .inl (cy 0, 64, .inl f_t_pairWorths0)), (a_t_pairWorths1, .inl (cy 0, 64, .inl f_t_pairWorths1))] := hD
  refine lv_aload_n hx hb dX7_clear_5 rfl (lv_at hl 0 rfl) ?_
  refine lv_iconst (v := 0) hx hb dX7_clear_6 (by decide) ?_
  refine va_put (D := D) (ci := 7) (v := .int 0) (ty := .int) (C := RX7) (T := TX7) (N := 10) hx hb hts uX7_clear_X7 tyX7 tyX7_ok nmX7 hown hK.1.1 hP hD hS 0 rfl rfl 1 (by decide) (hts _ mX7_clear_36) (fun _ h9 => h9) rfl (by decide +kernel) rfl rfl (Nat.le_of_ble_eq_true rfl) dX7_clear_7 (fun H locs hP hD hS => ?_)
  have hP : va_P D vwCl [(a_t, .inr (7, [.int 0, .int 0, .int i_t_frames, .int i_t_pairs, o_t_kinds, o_t_worths, .ref a_t_framed, .ref a_t_paired, .ref a_t_pairWorths, o_t_scales])), (a_t_framed, .inl (cy 0, 256, .inl f_t_framed)), (a_t_paired, .inl (cy 0, 64, .inl f_t_paired)), (a_t_pairWorths, .inl (cy 6, 2, .inr (.inr (.inr (.inr (rfL [a_t_pairWorths0, a_t_pairWorths1])))))), (a_t_pairWorths0, .inl (cy 0, 64, .inl f_t_pairWorths0)), (a_t_pairWorths1, .inl (cy 0, 64, .inl f_t_pairWorths1))] H := hP
  have hD : va_D A [(a_t, .inr (7, [.int 0, .int 0, .int i_t_frames, .int i_t_pairs, o_t_kinds, o_t_worths, .ref a_t_framed, .ref a_t_paired, .ref a_t_pairWorths, o_t_scales])), (a_t_framed, .inl (cy 0, 256, .inl f_t_framed)), (a_t_paired, .inl (cy 0, 64, .inl f_t_paired)), (a_t_pairWorths, .inl (cy 6, 2, .inr (.inr (.inr (.inr (rfL [a_t_pairWorths0, a_t_pairWorths1])))))), (a_t_pairWorths0, .inl (cy 0, 64, .inl f_t_pairWorths0)), (a_t_pairWorths1, .inl (cy 0, 64, .inl f_t_pairWorths1))] := hD
  refine lv_aload_n hx hb dX7_clear_10 rfl (lv_at hl 0 rfl) ?_
  refine lv_iconst (v := 0) hx hb dX7_clear_11 (by decide) ?_
  refine va_put (D := D) (ci := 7) (v := .int 0) (ty := .int) (C := RX7) (T := TX7) (N := 10) hx hb hts uX7_clear_X7 tyX7 tyX7_ok nmX7 hown hK.1.1 hP hD hS 0 rfl rfl 2 (by decide) (hts _ mX7_clear_39) (fun _ h9 => h9) rfl (by decide +kernel) rfl rfl (Nat.le_of_ble_eq_true rfl) dX7_clear_12 (fun H locs hP hD hS => ?_)
  have hP : va_P D vwCl [(a_t, .inr (7, [.int 0, .int 0, .int 0, .int i_t_pairs, o_t_kinds, o_t_worths, .ref a_t_framed, .ref a_t_paired, .ref a_t_pairWorths, o_t_scales])), (a_t_framed, .inl (cy 0, 256, .inl f_t_framed)), (a_t_paired, .inl (cy 0, 64, .inl f_t_paired)), (a_t_pairWorths, .inl (cy 6, 2, .inr (.inr (.inr (.inr (rfL [a_t_pairWorths0, a_t_pairWorths1])))))), (a_t_pairWorths0, .inl (cy 0, 64, .inl f_t_pairWorths0)), (a_t_pairWorths1, .inl (cy 0, 64, .inl f_t_pairWorths1))] H := hP
  have hD : va_D A [(a_t, .inr (7, [.int 0, .int 0, .int 0, .int i_t_pairs, o_t_kinds, o_t_worths, .ref a_t_framed, .ref a_t_paired, .ref a_t_pairWorths, o_t_scales])), (a_t_framed, .inl (cy 0, 256, .inl f_t_framed)), (a_t_paired, .inl (cy 0, 64, .inl f_t_paired)), (a_t_pairWorths, .inl (cy 6, 2, .inr (.inr (.inr (.inr (rfL [a_t_pairWorths0, a_t_pairWorths1])))))), (a_t_pairWorths0, .inl (cy 0, 64, .inl f_t_pairWorths0)), (a_t_pairWorths1, .inl (cy 0, 64, .inl f_t_pairWorths1))] := hD
  refine lv_aload_n hx hb dX7_clear_15 rfl (lv_at hl 0 rfl) ?_
  refine lv_iconst (v := 0) hx hb dX7_clear_16 (by decide) ?_
  refine va_put (D := D) (ci := 7) (v := .int 0) (ty := .int) (C := RX7) (T := TX7) (N := 10) hx hb hts uX7_clear_X7 tyX7 tyX7_ok nmX7 hown hK.1.1 hP hD hS 0 rfl rfl 3 (by decide) (hts _ mX7_clear_42) (fun _ h9 => h9) rfl (by decide +kernel) rfl rfl (Nat.le_of_ble_eq_true rfl) dX7_clear_17 (fun H locs hP hD hS => ?_)
  have hP : va_P D vwCl [(a_t, .inr (7, [.int 0, .int 0, .int 0, .int 0, o_t_kinds, o_t_worths, .ref a_t_framed, .ref a_t_paired, .ref a_t_pairWorths, o_t_scales])), (a_t_framed, .inl (cy 0, 256, .inl f_t_framed)), (a_t_paired, .inl (cy 0, 64, .inl f_t_paired)), (a_t_pairWorths, .inl (cy 6, 2, .inr (.inr (.inr (.inr (rfL [a_t_pairWorths0, a_t_pairWorths1])))))), (a_t_pairWorths0, .inl (cy 0, 64, .inl f_t_pairWorths0)), (a_t_pairWorths1, .inl (cy 0, 64, .inl f_t_pairWorths1))] H := hP
  have hD : va_D A [(a_t, .inr (7, [.int 0, .int 0, .int 0, .int 0, o_t_kinds, o_t_worths, .ref a_t_framed, .ref a_t_paired, .ref a_t_pairWorths, o_t_scales])), (a_t_framed, .inl (cy 0, 256, .inl f_t_framed)), (a_t_paired, .inl (cy 0, 64, .inl f_t_paired)), (a_t_pairWorths, .inl (cy 6, 2, .inr (.inr (.inr (.inr (rfL [a_t_pairWorths0, a_t_pairWorths1])))))), (a_t_pairWorths0, .inl (cy 0, 64, .inl f_t_pairWorths0)), (a_t_pairWorths1, .inl (cy 0, 64, .inl f_t_pairWorths1))] := hD
  refine lv_aload_n hx hb dX7_clear_20 rfl (lv_at hl 0 rfl) ?_
  refine va_get (D := D) (ci := 7) (v := .ref a_t_framed) (C := RX7) (T := TX7) (N := 10) hx hb hts uX7_clear_X7 hown hK.1.1 hP 0 rfl rfl 6 (by decide) (hts _ mX7_clear_20) (fun _ h9 => h9) rfl dX7_clear_21 ?_
  refine lv_iconst (v := 0) hx hb dX7_clear_24 (by decide) ?_
  obtain ⟨z_1, hc_2, hf⟩ := hb_b hf
  refine cl_Sv (rest := []) [1] [none, some 0, none, none, none, none] 6 C0 hK hP hD hS hA (c_J7_fill_53178 l D cy a_t_framed 256 f_t_framed 0 z_1 hc_2) (va_cwS 2 hts gX7_clear_J7_fill_53178 rfl rfl rfl (by decide +kernel) ⟨Nat.le_of_ble_eq_true rfl, Nat.le_of_ble_eq_true rfl⟩) rfl (by decide) rfl rfl rfl rfl hl.1 rfl (Nat.le_of_ble_eq_true rfl) dX7_clear_25 ⟨Nat.zero_le _, Nat.zero_le _⟩ (fun H locs hP hD hS => ?_)
  have hP : va_P D vwCl [(a_t, .inr (7, [.int 0, .int 0, .int 0, .int 0, o_t_kinds, o_t_worths, .ref a_t_framed, .ref a_t_paired, .ref a_t_pairWorths, o_t_scales])), (a_t_framed, .inl (cy 0, 256, .inl z_1)), (a_t_paired, .inl (cy 0, 64, .inl f_t_paired)), (a_t_pairWorths, .inl (cy 6, 2, .inr (.inr (.inr (.inr (rfL [a_t_pairWorths0, a_t_pairWorths1])))))), (a_t_pairWorths0, .inl (cy 0, 64, .inl f_t_pairWorths0)), (a_t_pairWorths1, .inl (cy 0, 64, .inl f_t_pairWorths1))] H := hP
  have hD : va_D A [(a_t, .inr (7, [.int 0, .int 0, .int 0, .int 0, o_t_kinds, o_t_worths, .ref a_t_framed, .ref a_t_paired, .ref a_t_pairWorths, o_t_scales])), (a_t_framed, .inl (cy 0, 256, .inl z_1)), (a_t_paired, .inl (cy 0, 64, .inl f_t_paired)), (a_t_pairWorths, .inl (cy 6, 2, .inr (.inr (.inr (.inr (rfL [a_t_pairWorths0, a_t_pairWorths1])))))), (a_t_pairWorths0, .inl (cy 0, 64, .inl f_t_pairWorths0)), (a_t_pairWorths1, .inl (cy 0, 64, .inl f_t_pairWorths1))] := hD
  refine lv_aload_n hx hb dX7_clear_28 rfl (lv_at hl 0 rfl) ?_
  refine va_get (D := D) (ci := 7) (v := .ref a_t_paired) (C := RX7) (T := TX7) (N := 10) hx hb hts uX7_clear_X7 hown hK.1.1 hP 0 rfl rfl 7 (by decide) (hts _ mX7_clear_23) (fun _ h9 => h9) rfl dX7_clear_29 ?_
  refine lv_iconst (v := 0) hx hb dX7_clear_32 (by decide) ?_
  obtain ⟨z_3, hc_4, hf⟩ := hb_b hf
  refine cl_Sv (rest := []) [2] [none, none, some 0, none, none, none] 6 C0 hK hP hD hS hA (c_J7_fill_53178 l D cy a_t_paired 64 f_t_paired 0 z_3 hc_4) (va_cwS 2 hts gX7_clear_J7_fill_53178 rfl rfl rfl (by decide +kernel) ⟨Nat.le_of_ble_eq_true rfl, Nat.le_of_ble_eq_true rfl⟩) rfl (by decide) rfl rfl rfl rfl hl.1 rfl (Nat.le_of_ble_eq_true rfl) dX7_clear_33 ⟨Nat.zero_le _, Nat.zero_le _⟩ (fun H locs hP hD hS => ?_)
  have hP : va_P D vwCl [(a_t, .inr (7, [.int 0, .int 0, .int 0, .int 0, o_t_kinds, o_t_worths, .ref a_t_framed, .ref a_t_paired, .ref a_t_pairWorths, o_t_scales])), (a_t_framed, .inl (cy 0, 256, .inl z_1)), (a_t_paired, .inl (cy 0, 64, .inl z_3)), (a_t_pairWorths, .inl (cy 6, 2, .inr (.inr (.inr (.inr (rfL [a_t_pairWorths0, a_t_pairWorths1])))))), (a_t_pairWorths0, .inl (cy 0, 64, .inl f_t_pairWorths0)), (a_t_pairWorths1, .inl (cy 0, 64, .inl f_t_pairWorths1))] H := hP
  have hD : va_D A [(a_t, .inr (7, [.int 0, .int 0, .int 0, .int 0, o_t_kinds, o_t_worths, .ref a_t_framed, .ref a_t_paired, .ref a_t_pairWorths, o_t_scales])), (a_t_framed, .inl (cy 0, 256, .inl z_1)), (a_t_paired, .inl (cy 0, 64, .inl z_3)), (a_t_pairWorths, .inl (cy 6, 2, .inr (.inr (.inr (.inr (rfL [a_t_pairWorths0, a_t_pairWorths1])))))), (a_t_pairWorths0, .inl (cy 0, 64, .inl f_t_pairWorths0)), (a_t_pairWorths1, .inl (cy 0, 64, .inl f_t_pairWorths1))] := hD
  refine lv_iconst (v := 0) hx hb dX7_clear_36 (by decide) ?_
  refine lv_istore_n (lv' := [(1, .int 0), (0, .ref a_t)]) hx hb dX7_clear_37 rfl hl (by decide) rfl (fun ls hl => ?_)
  refine L_X7_clear_38 l D cy a_t a_t_framed a_t_paired a_t_pairWorths a_t_pairWorths0 a_t_pairWorths1 o_t_kinds o_t_worths o_t_scales z_i_t_length z_i_t_words z_i_t_frames z_i_t_pairs z_f_t_framed z_f_t_paired z_f_t_pairWorths0 z_f_t_pairWorths1 C0 hA hK hret  FU 0 0 0 0 0 z_1 z_3 f_t_pairWorths0 f_t_pairWorths1 hf _ _ hP hD hS _ (lv_sub hl [1, 0] rfl)
theorem mX7_addWord_36 : Cond.fieldLink RX7 36 "OneWordLetters$Tongue" "words" "I" ∈ wsX7_addWord := by decide +kernel
theorem uX7_addWord_X7 : ∀ w ∈ wsX70, w ∈ wsX7_addWord := fun _ h => List.mem_cons_of_mem _ (List.mem_append_right _ h)
theorem mX7_addWord_9 : Cond.fieldLink RX7 9 "OneWordLetters$Tongue" "kinds" "[I" ∈ wsX7_addWord := by decide +kernel
theorem mX7_addWord_17 : Cond.fieldLink RX7 17 "OneWordLetters$Tongue" "worths" "[[I" ∈ wsX7_addWord := by decide +kernel
abbrev rmX7_addWord : Room := { frames := 0, cells := 0, slots := 0, locals := 0 }
set_option maxRecDepth 100000 in
set_option maxHeartbeats 4000000 in
theorem c_X7_addWord (l : Launch) (D : va_G) (cy : Nat → ClassId) (a_t : Nat) (a_t_kinds : Nat) (a_t_worths : Nat) (a_t_worths0 : Nat) (a_t_worths1 : Nat) (o_t_length : Value) (o_t_frames : Value) (o_t_pairs : Value) (o_t_framed : Value) (o_t_paired : Value) (o_t_pairWorths : Value) (o_t_scales : Value) (i_t_words : Int32) (f_t_kinds : Nat → Int32) (f_t_worths0 : Nat → Int32) (f_t_worths1 : Nat → Int32) (p1 : Int32) (p2 : Int32) (p3 : Int32) (z_i_t_words : Int32) (z_f_t_kinds : Nat → Int32) (z_f_t_worths0 : Nat → Int32) (z_f_t_worths1 : Nat → Int32) (hf : f_X7_addWord i_t_words f_t_kinds f_t_worths0 f_t_worths1 p1 p2 p3 = some (z_i_t_words, z_f_t_kinds, z_f_t_worths0, z_f_t_worths1)) : MV l D cy yX7_addWord wsX7_addWord rmX7_addWord [.ref a_t, .int p1, .int p2, .int p3] [(a_t, .inr (7, [o_t_length, .int i_t_words, o_t_frames, o_t_pairs, .ref a_t_kinds, .ref a_t_worths, o_t_framed, o_t_paired, o_t_pairWorths, o_t_scales])), (a_t_kinds, .inl (cy 0, 8, .inl f_t_kinds)), (a_t_worths, .inl (cy 6, 2, .inr (.inr (.inr (.inr (rfL [a_t_worths0, a_t_worths1])))))), (a_t_worths0, .inl (cy 0, 8, .inl f_t_worths0)), (a_t_worths1, .inl (cy 0, 8, .inl f_t_worths1))] [(a_t, .inr (7, [o_t_length, .int z_i_t_words, o_t_frames, o_t_pairs, .ref a_t_kinds, .ref a_t_worths, o_t_framed, o_t_paired, o_t_pairWorths, o_t_scales])), (a_t_kinds, .inl (cy 0, 8, .inl z_f_t_kinds)), (a_t_worths, .inl (cy 6, 2, .inr (.inr (.inr (.inr (rfL [a_t_worths0, a_t_worths1])))))), (a_t_worths0, .inl (cy 0, 8, .inl z_f_t_worths0)), (a_t_worths1, .inl (cy 0, 8, .inl z_f_t_worths1))] := by
  refine st_V (by decide) rfl (Nat.le_of_ble_eq_true rfl) (fun p e s m below meth c A Q ls C0 hA hK hP hD hS hl hret => ?_)
  obtain ⟨hx, hb, hr, hml, hown, hts, hlocks⟩ := id C0
  have hl : lv_has ls 4 [(0, .ref a_t), (1, .int p1), (2, .int p2), (3, .int p3)] := hl
  unfold f_X7_addWord at hf
  refine lv_aload_n hx hb dX7_addWord_0 rfl (lv_at hl 0 rfl) ?_
  refine va_get (D := D) (ci := 7) (v := .int i_t_words) (C := RX7) (T := TX7) (N := 10) hx hb hts uX7_addWord_X7 hown hK.1.1 hP 0 rfl rfl 1 (by decide) (hts _ mX7_addWord_36) (fun _ h9 => h9) rfl dX7_addWord_1 ?_
  refine lv_bipush (v := 8) hx hb dX7_addWord_4 (by decide) ?_
  refine lv_icmp_ge (tgt := 53) hx hb dX7_addWord_6 (by decide) (fun c_1 => ?_) (fun c_1 => ?_)
  · have hf := hb_t hf c_1
    obtain ⟨e_0, e_1, e_2, e_3⟩ := tu4 hf
    subst e_0; subst e_1; subst e_2; subst e_3
    exact hret _ _ _ _ dX7_addWord_53 hP hS
  · have hf := hb_f hf c_1
    refine lv_aload_n hx hb dX7_addWord_9 rfl (lv_at hl 0 rfl) ?_
    refine va_get (D := D) (ci := 7) (v := .ref a_t_kinds) (C := RX7) (T := TX7) (N := 10) hx hb hts uX7_addWord_X7 hown hK.1.1 hP 0 rfl rfl 4 (by decide) (hts _ mX7_addWord_9) (fun _ h9 => h9) rfl dX7_addWord_10 ?_
    refine lv_aload_n hx hb dX7_addWord_13 rfl (lv_at hl 0 rfl) ?_
    refine va_get (D := D) (ci := 7) (v := .int i_t_words) (C := RX7) (T := TX7) (N := 10) hx hb hts uX7_addWord_X7 hown hK.1.1 hP 0 rfl rfl 1 (by decide) (hts _ mX7_addWord_36) (fun _ h9 => h9) rfl dX7_addWord_14 ?_
    refine lv_iload_n hx hb dX7_addWord_17 rfl (lv_at hl 1 rfl) ?_
    obtain ⟨hg_2, hf⟩ := hb_g hf
    refine va_iast hx hb hK.1.1 hP hD hS 1 0 rfl rfl (ixb_in hg_2) dX7_addWord_18 (fun H locs hP hD hS => ?_)
    have hP : va_P D vwCl [(a_t, .inr (7, [o_t_length, .int i_t_words, o_t_frames, o_t_pairs, .ref a_t_kinds, .ref a_t_worths, o_t_framed, o_t_paired, o_t_pairWorths, o_t_scales])), (a_t_kinds, .inl (cy 0, 8, .inl (upd f_t_kinds (i_t_words : Int32).toNatClampNeg p1))), (a_t_worths, .inl (cy 6, 2, .inr (.inr (.inr (.inr (rfL [a_t_worths0, a_t_worths1])))))), (a_t_worths0, .inl (cy 0, 8, .inl f_t_worths0)), (a_t_worths1, .inl (cy 0, 8, .inl f_t_worths1))] H := hP
    have hD : va_D A [(a_t, .inr (7, [o_t_length, .int i_t_words, o_t_frames, o_t_pairs, .ref a_t_kinds, .ref a_t_worths, o_t_framed, o_t_paired, o_t_pairWorths, o_t_scales])), (a_t_kinds, .inl (cy 0, 8, .inl (upd f_t_kinds (i_t_words : Int32).toNatClampNeg p1))), (a_t_worths, .inl (cy 6, 2, .inr (.inr (.inr (.inr (rfL [a_t_worths0, a_t_worths1])))))), (a_t_worths0, .inl (cy 0, 8, .inl f_t_worths0)), (a_t_worths1, .inl (cy 0, 8, .inl f_t_worths1))] := hD
    refine lv_aload_n hx hb dX7_addWord_19 rfl (lv_at hl 0 rfl) ?_
    refine va_get (D := D) (ci := 7) (v := .ref a_t_worths) (C := RX7) (T := TX7) (N := 10) hx hb hts uX7_addWord_X7 hown hK.1.1 hP 0 rfl rfl 5 (by decide) (hts _ mX7_addWord_17) (fun _ h9 => h9) rfl dX7_addWord_20 ?_
    refine lv_iconst (v := 0) hx hb dX7_addWord_23 (by decide) ?_
    refine va_aldk (a1 := a_t_worths0) hx hb hK hP 2 6 rfl rfl (by decide) (by decide) rfl dX7_addWord_24 ?_
    refine lv_aload_n hx hb dX7_addWord_25 rfl (lv_at hl 0 rfl) ?_
    refine va_get (D := D) (ci := 7) (v := .int i_t_words) (C := RX7) (T := TX7) (N := 10) hx hb hts uX7_addWord_X7 hown hK.1.1 hP 0 rfl rfl 1 (by decide) (hts _ mX7_addWord_36) (fun _ h9 => h9) rfl dX7_addWord_26 ?_
    refine lv_iload_n hx hb dX7_addWord_29 rfl (lv_at hl 2 rfl) ?_
    obtain ⟨hg_3, hf⟩ := hb_g hf
    refine va_iast hx hb hK.1.1 hP hD hS 3 0 rfl rfl (ixb_in hg_3) dX7_addWord_30 (fun H locs hP hD hS => ?_)
    have hP : va_P D vwCl [(a_t, .inr (7, [o_t_length, .int i_t_words, o_t_frames, o_t_pairs, .ref a_t_kinds, .ref a_t_worths, o_t_framed, o_t_paired, o_t_pairWorths, o_t_scales])), (a_t_kinds, .inl (cy 0, 8, .inl (upd f_t_kinds (i_t_words : Int32).toNatClampNeg p1))), (a_t_worths, .inl (cy 6, 2, .inr (.inr (.inr (.inr (rfL [a_t_worths0, a_t_worths1])))))), (a_t_worths0, .inl (cy 0, 8, .inl (upd f_t_worths0 (i_t_words : Int32).toNatClampNeg p2))), (a_t_worths1, .inl (cy 0, 8, .inl f_t_worths1))] H := hP
    have hD : va_D A [(a_t, .inr (7, [o_t_length, .int i_t_words, o_t_frames, o_t_pairs, .ref a_t_kinds, .ref a_t_worths, o_t_framed, o_t_paired, o_t_pairWorths, o_t_scales])), (a_t_kinds, .inl (cy 0, 8, .inl (upd f_t_kinds (i_t_words : Int32).toNatClampNeg p1))), (a_t_worths, .inl (cy 6, 2, .inr (.inr (.inr (.inr (rfL [a_t_worths0, a_t_worths1])))))), (a_t_worths0, .inl (cy 0, 8, .inl (upd f_t_worths0 (i_t_words : Int32).toNatClampNeg p2))), (a_t_worths1, .inl (cy 0, 8, .inl f_t_worths1))] := hD
    refine lv_aload_n hx hb dX7_addWord_31 rfl (lv_at hl 0 rfl) ?_
    refine va_get (D := D) (ci := 7) (v := .ref a_t_worths) (C := RX7) (T := TX7) (N := 10) hx hb hts uX7_addWord_X7 hown hK.1.1 hP 0 rfl rfl 5 (by decide) (hts _ mX7_addWord_17) (fun _ h9 => h9) rfl dX7_addWord_32 ?_
    refine lv_iconst (v := 1) hx hb dX7_addWord_35 (by decide) ?_
    refine va_aldk (a1 := a_t_worths1) hx hb hK hP 2 6 rfl rfl (by decide) (by decide) rfl dX7_addWord_36 ?_
    refine lv_aload_n hx hb dX7_addWord_37 rfl (lv_at hl 0 rfl) ?_
    refine va_get (D := D) (ci := 7) (v := .int i_t_words) (C := RX7) (T := TX7) (N := 10) hx hb hts uX7_addWord_X7 hown hK.1.1 hP 0 rfl rfl 1 (by decide) (hts _ mX7_addWord_36) (fun _ h9 => h9) rfl dX7_addWord_38 ?_
    refine lv_iload_n hx hb dX7_addWord_41 rfl (lv_at hl 3 rfl) ?_
    obtain ⟨hg_4, hf⟩ := hb_g hf
    refine va_iast hx hb hK.1.1 hP hD hS 4 0 rfl rfl (ixb_in hg_4) dX7_addWord_42 (fun H locs hP hD hS => ?_)
    have hP : va_P D vwCl [(a_t, .inr (7, [o_t_length, .int i_t_words, o_t_frames, o_t_pairs, .ref a_t_kinds, .ref a_t_worths, o_t_framed, o_t_paired, o_t_pairWorths, o_t_scales])), (a_t_kinds, .inl (cy 0, 8, .inl (upd f_t_kinds (i_t_words : Int32).toNatClampNeg p1))), (a_t_worths, .inl (cy 6, 2, .inr (.inr (.inr (.inr (rfL [a_t_worths0, a_t_worths1])))))), (a_t_worths0, .inl (cy 0, 8, .inl (upd f_t_worths0 (i_t_words : Int32).toNatClampNeg p2))), (a_t_worths1, .inl (cy 0, 8, .inl (upd f_t_worths1 (i_t_words : Int32).toNatClampNeg p3)))] H := hP
    have hD : va_D A [(a_t, .inr (7, [o_t_length, .int i_t_words, o_t_frames, o_t_pairs, .ref a_t_kinds, .ref a_t_worths, o_t_framed, o_t_paired, o_t_pairWorths, o_t_scales])), (a_t_kinds, .inl (cy 0, 8, .inl (upd f_t_kinds (i_t_words : Int32).toNatClampNeg p1))), (a_t_worths, .inl (cy 6, 2, .inr (.inr (.inr (.inr (rfL [a_t_worths0, a_t_worths1])))))), (a_t_worths0, .inl (cy 0, 8, .inl (upd f_t_worths0 (i_t_words : Int32).toNatClampNeg p2))), (a_t_worths1, .inl (cy 0, 8, .inl (upd f_t_worths1 (i_t_words : Int32).toNatClampNeg p3)))] := hD
    refine lv_aload_n hx hb dX7_addWord_43 rfl (lv_at hl 0 rfl) ?_
    refine lv_dup hx hb dX7_addWord_44 rfl ?_
    refine va_get (D := D) (ci := 7) (v := .int i_t_words) (C := RX7) (T := TX7) (N := 10) hx hb hts uX7_addWord_X7 hown hK.1.1 hP 0 rfl rfl 1 (by decide) (hts _ mX7_addWord_36) (fun _ h9 => h9) rfl dX7_addWord_45 ?_
    refine lv_iconst (v := 1) hx hb dX7_addWord_48 (by decide) ?_
    refine lv_iadd hx hb dX7_addWord_49 ?_
    refine va_put (D := D) (ci := 7) (v := .int (i_t_words + 1)) (ty := .int) (C := RX7) (T := TX7) (N := 10) hx hb hts uX7_addWord_X7 tyX7 tyX7_ok nmX7 hown hK.1.1 hP hD hS 0 rfl rfl 1 (by decide) (hts _ mX7_addWord_36) (fun _ h9 => h9) rfl (by decide +kernel) rfl rfl (Nat.le_of_ble_eq_true rfl) dX7_addWord_50 (fun H locs hP hD hS => ?_)
    have hP : va_P D vwCl [(a_t, .inr (7, [o_t_length, .int (i_t_words + 1), o_t_frames, o_t_pairs, .ref a_t_kinds, .ref a_t_worths, o_t_framed, o_t_paired, o_t_pairWorths, o_t_scales])), (a_t_kinds, .inl (cy 0, 8, .inl (upd f_t_kinds (i_t_words : Int32).toNatClampNeg p1))), (a_t_worths, .inl (cy 6, 2, .inr (.inr (.inr (.inr (rfL [a_t_worths0, a_t_worths1])))))), (a_t_worths0, .inl (cy 0, 8, .inl (upd f_t_worths0 (i_t_words : Int32).toNatClampNeg p2))), (a_t_worths1, .inl (cy 0, 8, .inl (upd f_t_worths1 (i_t_words : Int32).toNatClampNeg p3)))] H := hP
    have hD : va_D A [(a_t, .inr (7, [o_t_length, .int (i_t_words + 1), o_t_frames, o_t_pairs, .ref a_t_kinds, .ref a_t_worths, o_t_framed, o_t_paired, o_t_pairWorths, o_t_scales])), (a_t_kinds, .inl (cy 0, 8, .inl (upd f_t_kinds (i_t_words : Int32).toNatClampNeg p1))), (a_t_worths, .inl (cy 6, 2, .inr (.inr (.inr (.inr (rfL [a_t_worths0, a_t_worths1])))))), (a_t_worths0, .inl (cy 0, 8, .inl (upd f_t_worths0 (i_t_words : Int32).toNatClampNeg p2))), (a_t_worths1, .inl (cy 0, 8, .inl (upd f_t_worths1 (i_t_words : Int32).toNatClampNeg p3)))] := hD
    obtain ⟨e_0, e_1, e_2, e_3⟩ := tu4 hf
    subst e_0; subst e_1; subst e_2; subst e_3
    exact hret _ _ _ _ dX7_addWord_53 hP hS
theorem mX7_addFrame_20 : Cond.fieldLink RX7 20 "OneWordLetters$Tongue" "framed" "[I" ∈ wsX7_addFrame := by decide +kernel
theorem uX7_addFrame_X7 : ∀ w ∈ wsX70, w ∈ wsX7_addFrame := fun _ h => List.mem_cons_of_mem _ (List.mem_append_right _ h)
theorem mX7_addFrame_39 : Cond.fieldLink RX7 39 "OneWordLetters$Tongue" "frames" "I" ∈ wsX7_addFrame := by decide +kernel
abbrev rmX7_addFrame : Room := { frames := 0, cells := 0, slots := 0, locals := 0 }
set_option maxRecDepth 100000 in
set_option maxHeartbeats 4000000 in
theorem c_X7_addFrame (l : Launch) (D : va_G) (cy : Nat → ClassId) (a_t : Nat) (a_t_framed : Nat) (o_t_length : Value) (o_t_words : Value) (o_t_pairs : Value) (o_t_kinds : Value) (o_t_worths : Value) (o_t_paired : Value) (o_t_pairWorths : Value) (o_t_scales : Value) (i_t_frames : Int32) (f_t_framed : Nat → Int32) (p1 : Int32) (z_i_t_frames : Int32) (z_f_t_framed : Nat → Int32) (hf : f_X7_addFrame i_t_frames f_t_framed p1 = some (z_i_t_frames, z_f_t_framed)) : MV l D cy yX7_addFrame wsX7_addFrame rmX7_addFrame [.ref a_t, .int p1] [(a_t, .inr (7, [o_t_length, o_t_words, .int i_t_frames, o_t_pairs, o_t_kinds, o_t_worths, .ref a_t_framed, o_t_paired, o_t_pairWorths, o_t_scales])), (a_t_framed, .inl (cy 0, 256, .inl f_t_framed))] [(a_t, .inr (7, [o_t_length, o_t_words, .int z_i_t_frames, o_t_pairs, o_t_kinds, o_t_worths, .ref a_t_framed, o_t_paired, o_t_pairWorths, o_t_scales])), (a_t_framed, .inl (cy 0, 256, .inl z_f_t_framed))] := by
  refine st_V (by decide) rfl (Nat.le_of_ble_eq_true rfl) (fun p e s m below meth c A Q ls C0 hA hK hP hD hS hl hret => ?_)
  obtain ⟨hx, hb, hr, hml, hown, hts, hlocks⟩ := id C0
  have hl : lv_has ls 2 [(0, .ref a_t), (1, .int p1)] := hl
  unfold f_X7_addFrame at hf
  refine lv_iload_n hx hb dX7_addFrame_0 rfl (lv_at hl 1 rfl) ?_
  refine lv_if_lt (tgt := 30) hx hb dX7_addFrame_1 (by decide) (fun c_1 => ?_) (fun c_1 => ?_)
  · have hf := hb_t hf c_1
    obtain ⟨e_0, e_1⟩ := tu2 hf
    subst e_0; subst e_1
    exact hret _ _ _ _ dX7_addFrame_30 hP hS
  · have hf := hb_f hf c_1
    refine lv_iload_n hx hb dX7_addFrame_4 rfl (lv_at hl 1 rfl) ?_
    refine lv_aload_n hx hb dX7_addFrame_5 rfl (lv_at hl 0 rfl) ?_
    refine va_get (D := D) (ci := 7) (v := .ref a_t_framed) (C := RX7) (T := TX7) (N := 10) hx hb hts uX7_addFrame_X7 hown hK.1.1 hP 0 rfl rfl 6 (by decide) (hts _ mX7_addFrame_20) (fun _ h9 => h9) rfl dX7_addFrame_6 ?_
    refine va_alen (v := nI 256) (ty := .int) hx hb hK.1.1 hP 1 0 rfl rfl rfl dX7_addFrame_9 ?_
    refine lv_icmp_ge (tgt := 30) hx hb dX7_addFrame_10 (by decide) (fun c_2 => ?_) (fun c_2 => ?_)
    · have hf := hb_t hf c_2
      obtain ⟨e_0, e_1⟩ := tu2 hf
      subst e_0; subst e_1
      exact hret _ _ _ _ dX7_addFrame_30 hP hS
    · have hf := hb_f hf c_2
      refine lv_aload_n hx hb dX7_addFrame_13 rfl (lv_at hl 0 rfl) ?_
      refine va_get (D := D) (ci := 7) (v := .ref a_t_framed) (C := RX7) (T := TX7) (N := 10) hx hb hts uX7_addFrame_X7 hown hK.1.1 hP 0 rfl rfl 6 (by decide) (hts _ mX7_addFrame_20) (fun _ h9 => h9) rfl dX7_addFrame_14 ?_
      refine lv_iload_n hx hb dX7_addFrame_17 rfl (lv_at hl 1 rfl) ?_
      refine lv_iconst (v := 1) hx hb dX7_addFrame_18 (by decide) ?_
      obtain ⟨hg_3, hf⟩ := hb_g hf
      refine va_iast hx hb hK.1.1 hP hD hS 1 0 rfl rfl (ixb_in hg_3) dX7_addFrame_19 (fun H locs hP hD hS => ?_)
      have hP : va_P D vwCl [(a_t, .inr (7, [o_t_length, o_t_words, .int i_t_frames, o_t_pairs, o_t_kinds, o_t_worths, .ref a_t_framed, o_t_paired, o_t_pairWorths, o_t_scales])), (a_t_framed, .inl (cy 0, 256, .inl (upd f_t_framed (p1 : Int32).toNatClampNeg 1)))] H := hP
      have hD : va_D A [(a_t, .inr (7, [o_t_length, o_t_words, .int i_t_frames, o_t_pairs, o_t_kinds, o_t_worths, .ref a_t_framed, o_t_paired, o_t_pairWorths, o_t_scales])), (a_t_framed, .inl (cy 0, 256, .inl (upd f_t_framed (p1 : Int32).toNatClampNeg 1)))] := hD
      refine lv_aload_n hx hb dX7_addFrame_20 rfl (lv_at hl 0 rfl) ?_
      refine lv_dup hx hb dX7_addFrame_21 rfl ?_
      refine va_get (D := D) (ci := 7) (v := .int i_t_frames) (C := RX7) (T := TX7) (N := 10) hx hb hts uX7_addFrame_X7 hown hK.1.1 hP 0 rfl rfl 2 (by decide) (hts _ mX7_addFrame_39) (fun _ h9 => h9) rfl dX7_addFrame_22 ?_
      refine lv_iconst (v := 1) hx hb dX7_addFrame_25 (by decide) ?_
      refine lv_iadd hx hb dX7_addFrame_26 ?_
      refine va_put (D := D) (ci := 7) (v := .int (i_t_frames + 1)) (ty := .int) (C := RX7) (T := TX7) (N := 10) hx hb hts uX7_addFrame_X7 tyX7 tyX7_ok nmX7 hown hK.1.1 hP hD hS 0 rfl rfl 2 (by decide) (hts _ mX7_addFrame_39) (fun _ h9 => h9) rfl (by decide +kernel) rfl rfl (Nat.le_of_ble_eq_true rfl) dX7_addFrame_27 (fun H locs hP hD hS => ?_)
      have hP : va_P D vwCl [(a_t, .inr (7, [o_t_length, o_t_words, .int (i_t_frames + 1), o_t_pairs, o_t_kinds, o_t_worths, .ref a_t_framed, o_t_paired, o_t_pairWorths, o_t_scales])), (a_t_framed, .inl (cy 0, 256, .inl (upd f_t_framed (p1 : Int32).toNatClampNeg 1)))] H := hP
      have hD : va_D A [(a_t, .inr (7, [o_t_length, o_t_words, .int (i_t_frames + 1), o_t_pairs, o_t_kinds, o_t_worths, .ref a_t_framed, o_t_paired, o_t_pairWorths, o_t_scales])), (a_t_framed, .inl (cy 0, 256, .inl (upd f_t_framed (p1 : Int32).toNatClampNeg 1)))] := hD
      obtain ⟨e_0, e_1⟩ := tu2 hf
      subst e_0; subst e_1
      exact hret _ _ _ _ dX7_addFrame_30 hP hS
abbrev rmX7_spotOf : Room := { frames := 0, cells := 0, slots := 0, locals := 0 }
set_option maxRecDepth 100000 in
set_option maxHeartbeats 4000000 in
theorem c_X7_spotOf (l : Launch) (D : va_G) (cy : Nat → ClassId) (p1 : Int32) (p2 : Int32) (rv : Int32) (hf : f_X7_spotOf p1 p2 = some rv) : MI l D cy yX7_spotOf wsX7_spotOf rmX7_spotOf [.int p1, .int p2] [] [] rv := by
  refine st_I (by decide) rfl (Nat.le_of_ble_eq_true rfl) (fun p e s m below meth c A Q ls C0 hA hK hP hD hS hl hret => ?_)
  obtain ⟨hx, hb, hr, hml, hown, hts, hlocks⟩ := id C0
  have hl : lv_has ls 2 [(0, .int p1), (1, .int p2)] := hl
  unfold f_X7_spotOf at hf
  refine lv_iload_n hx hb dX7_spotOf_0 rfl (lv_at hl 0 rfl) ?_
  refine lv_bipush (v := 7) hx hb dX7_spotOf_1 (by decide) ?_
  refine lv_iand hx hb dX7_spotOf_3 ?_
  refine lv_bipush (v := 8) hx hb dX7_spotOf_4 (by decide) ?_
  refine lv_imul hx hb dX7_spotOf_6 ?_
  refine lv_iload_n hx hb dX7_spotOf_7 rfl (lv_at hl 1 rfl) ?_
  refine lv_bipush (v := 7) hx hb dX7_spotOf_8 (by decide) ?_
  refine lv_iand hx hb dX7_spotOf_10 ?_
  refine lv_iadd hx hb dX7_spotOf_11 ?_
  have hf := Option.some.inj hf
  subst hf
  exact hret _ _ _ _ dX7_spotOf_12 rfl hP hS
theorem mX7_addPair_23 : Cond.fieldLink RX7 23 "OneWordLetters$Tongue" "paired" "[I" ∈ wsX7_addPair := by decide +kernel
theorem uX7_addPair_X7 : ∀ w ∈ wsX70, w ∈ wsX7_addPair := fun _ h => List.mem_cons_of_mem _ (List.mem_append_right _ h)
theorem mX7_addPair_26 : Cond.fieldLink RX7 26 "OneWordLetters$Tongue" "pairWorths" "[[I" ∈ wsX7_addPair := by decide +kernel
theorem mX7_addPair_42 : Cond.fieldLink RX7 42 "OneWordLetters$Tongue" "pairs" "I" ∈ wsX7_addPair := by decide +kernel
abbrev rmX7_addPair : Room := { frames := 1, cells := 0, slots := 0, locals := 21 }
set_option maxRecDepth 100000 in
set_option maxHeartbeats 4000000 in
theorem c_X7_addPair (l : Launch) (D : va_G) (cy : Nat → ClassId) (a_t : Nat) (a_t_paired : Nat) (a_t_pairWorths : Nat) (a_t_pairWorths0 : Nat) (a_t_pairWorths1 : Nat) (o_t_length : Value) (o_t_words : Value) (o_t_frames : Value) (o_t_kinds : Value) (o_t_worths : Value) (o_t_framed : Value) (o_t_scales : Value) (i_t_pairs : Int32) (f_t_paired : Nat → Int32) (f_t_pairWorths0 : Nat → Int32) (f_t_pairWorths1 : Nat → Int32) (p1 : Int32) (p2 : Int32) (p3 : Int32) (p4 : Int32) (z_i_t_pairs : Int32) (z_f_t_paired : Nat → Int32) (z_f_t_pairWorths0 : Nat → Int32) (z_f_t_pairWorths1 : Nat → Int32) (hf : f_X7_addPair i_t_pairs f_t_paired f_t_pairWorths0 f_t_pairWorths1 p1 p2 p3 p4 = some (z_i_t_pairs, z_f_t_paired, z_f_t_pairWorths0, z_f_t_pairWorths1)) : MV l D cy yX7_addPair wsX7_addPair rmX7_addPair [.ref a_t, .int p1, .int p2, .int p3, .int p4] [(a_t, .inr (7, [o_t_length, o_t_words, o_t_frames, .int i_t_pairs, o_t_kinds, o_t_worths, o_t_framed, .ref a_t_paired, .ref a_t_pairWorths, o_t_scales])), (a_t_paired, .inl (cy 0, 64, .inl f_t_paired)), (a_t_pairWorths, .inl (cy 6, 2, .inr (.inr (.inr (.inr (rfL [a_t_pairWorths0, a_t_pairWorths1])))))), (a_t_pairWorths0, .inl (cy 0, 64, .inl f_t_pairWorths0)), (a_t_pairWorths1, .inl (cy 0, 64, .inl f_t_pairWorths1))] [(a_t, .inr (7, [o_t_length, o_t_words, o_t_frames, .int z_i_t_pairs, o_t_kinds, o_t_worths, o_t_framed, .ref a_t_paired, .ref a_t_pairWorths, o_t_scales])), (a_t_paired, .inl (cy 0, 64, .inl z_f_t_paired)), (a_t_pairWorths, .inl (cy 6, 2, .inr (.inr (.inr (.inr (rfL [a_t_pairWorths0, a_t_pairWorths1])))))), (a_t_pairWorths0, .inl (cy 0, 64, .inl z_f_t_pairWorths0)), (a_t_pairWorths1, .inl (cy 0, 64, .inl z_f_t_pairWorths1))] := by
  refine st_V (by decide) rfl (Nat.le_of_ble_eq_true rfl) (fun p e s m below meth c A Q ls C0 hA hK hP hD hS hl hret => ?_)
  obtain ⟨hx, hb, hr, hml, hown, hts, hlocks⟩ := id C0
  have hl : lv_has ls 6 [(0, .ref a_t), (1, .int p1), (2, .int p2), (3, .int p3), (4, .int p4)] := hl
  unfold f_X7_addPair at hf
  refine lv_iload_n hx hb dX7_addPair_0 rfl (lv_at hl 1 rfl) ?_
  refine lv_iload_n hx hb dX7_addPair_1 rfl (lv_at hl 2 rfl) ?_
  obtain ⟨r_1, hc_2, hf⟩ := hb_b hf
  refine cl_Si (rest := []) [] [none, none, none, none, none] 5 C0 hK hP hD hS hA (c_X7_spotOf l D cy p1 p2 r_1 hc_2) (va_cwS 2 hts gX7_addPair_X7_spotOf rfl rfl rfl (by decide +kernel) ⟨Nat.le_of_ble_eq_true rfl, Nat.le_of_ble_eq_true rfl⟩) rfl (by decide) rfl rfl rfl rfl hl.1 rfl (Nat.le_of_ble_eq_true rfl) dX7_addPair_2 ⟨Nat.zero_le _, Nat.zero_le _⟩ (fun H locs hP hD hS => ?_)
  have hP : va_P D vwCl [(a_t, .inr (7, [o_t_length, o_t_words, o_t_frames, .int i_t_pairs, o_t_kinds, o_t_worths, o_t_framed, .ref a_t_paired, .ref a_t_pairWorths, o_t_scales])), (a_t_paired, .inl (cy 0, 64, .inl f_t_paired)), (a_t_pairWorths, .inl (cy 6, 2, .inr (.inr (.inr (.inr (rfL [a_t_pairWorths0, a_t_pairWorths1])))))), (a_t_pairWorths0, .inl (cy 0, 64, .inl f_t_pairWorths0)), (a_t_pairWorths1, .inl (cy 0, 64, .inl f_t_pairWorths1))] H := hP
  have hD : va_D A [(a_t, .inr (7, [o_t_length, o_t_words, o_t_frames, .int i_t_pairs, o_t_kinds, o_t_worths, o_t_framed, .ref a_t_paired, .ref a_t_pairWorths, o_t_scales])), (a_t_paired, .inl (cy 0, 64, .inl f_t_paired)), (a_t_pairWorths, .inl (cy 6, 2, .inr (.inr (.inr (.inr (rfL [a_t_pairWorths0, a_t_pairWorths1])))))), (a_t_pairWorths0, .inl (cy 0, 64, .inl f_t_pairWorths0)), (a_t_pairWorths1, .inl (cy 0, 64, .inl f_t_pairWorths1))] := hD
  refine lv_istore (lv' := [(5, .int r_1), (0, .ref a_t), (1, .int p1), (2, .int p2), (3, .int p3), (4, .int p4)]) hx hb dX7_addPair_5 hl (by decide) rfl (fun ls hl => ?_)
  refine lv_aload_n hx hb dX7_addPair_7 rfl (lv_at hl 1 rfl) ?_
  refine va_get (D := D) (ci := 7) (v := .ref a_t_paired) (C := RX7) (T := TX7) (N := 10) hx hb hts uX7_addPair_X7 hown hK.1.1 hP 0 rfl rfl 7 (by decide) (hts _ mX7_addPair_23) (fun _ h9 => h9) rfl dX7_addPair_8 ?_
  refine lv_iload hx hb dX7_addPair_11 (lv_at hl 0 rfl) ?_
  refine lv_iconst (v := 1) hx hb dX7_addPair_13 (by decide) ?_
  obtain ⟨hg_3, hf⟩ := hb_g hf
  refine va_iast hx hb hK.1.1 hP hD hS 1 0 rfl rfl (ixb_in hg_3) dX7_addPair_14 (fun H locs hP hD hS => ?_)
  have hP : va_P D vwCl [(a_t, .inr (7, [o_t_length, o_t_words, o_t_frames, .int i_t_pairs, o_t_kinds, o_t_worths, o_t_framed, .ref a_t_paired, .ref a_t_pairWorths, o_t_scales])), (a_t_paired, .inl (cy 0, 64, .inl (upd f_t_paired (r_1 : Int32).toNatClampNeg 1))), (a_t_pairWorths, .inl (cy 6, 2, .inr (.inr (.inr (.inr (rfL [a_t_pairWorths0, a_t_pairWorths1])))))), (a_t_pairWorths0, .inl (cy 0, 64, .inl f_t_pairWorths0)), (a_t_pairWorths1, .inl (cy 0, 64, .inl f_t_pairWorths1))] H := hP
  have hD : va_D A [(a_t, .inr (7, [o_t_length, o_t_words, o_t_frames, .int i_t_pairs, o_t_kinds, o_t_worths, o_t_framed, .ref a_t_paired, .ref a_t_pairWorths, o_t_scales])), (a_t_paired, .inl (cy 0, 64, .inl (upd f_t_paired (r_1 : Int32).toNatClampNeg 1))), (a_t_pairWorths, .inl (cy 6, 2, .inr (.inr (.inr (.inr (rfL [a_t_pairWorths0, a_t_pairWorths1])))))), (a_t_pairWorths0, .inl (cy 0, 64, .inl f_t_pairWorths0)), (a_t_pairWorths1, .inl (cy 0, 64, .inl f_t_pairWorths1))] := hD
  refine lv_aload_n hx hb dX7_addPair_15 rfl (lv_at hl 1 rfl) ?_
  refine va_get (D := D) (ci := 7) (v := .ref a_t_pairWorths) (C := RX7) (T := TX7) (N := 10) hx hb hts uX7_addPair_X7 hown hK.1.1 hP 0 rfl rfl 8 (by decide) (hts _ mX7_addPair_26) (fun _ h9 => h9) rfl dX7_addPair_16 ?_
  refine lv_iconst (v := 0) hx hb dX7_addPair_19 (by decide) ?_
  refine va_aldk (a1 := a_t_pairWorths0) hx hb hK hP 2 6 rfl rfl (by decide) (by decide) rfl dX7_addPair_20 ?_
  refine lv_iload hx hb dX7_addPair_21 (lv_at hl 0 rfl) ?_
  refine lv_iload_n hx hb dX7_addPair_23 rfl (lv_at hl 4 rfl) ?_
  obtain ⟨hg_4, hf⟩ := hb_g hf
  refine va_iast hx hb hK.1.1 hP hD hS 3 0 rfl rfl (ixb_in hg_4) dX7_addPair_24 (fun H locs hP hD hS => ?_)
  have hP : va_P D vwCl [(a_t, .inr (7, [o_t_length, o_t_words, o_t_frames, .int i_t_pairs, o_t_kinds, o_t_worths, o_t_framed, .ref a_t_paired, .ref a_t_pairWorths, o_t_scales])), (a_t_paired, .inl (cy 0, 64, .inl (upd f_t_paired (r_1 : Int32).toNatClampNeg 1))), (a_t_pairWorths, .inl (cy 6, 2, .inr (.inr (.inr (.inr (rfL [a_t_pairWorths0, a_t_pairWorths1])))))), (a_t_pairWorths0, .inl (cy 0, 64, .inl (upd f_t_pairWorths0 (r_1 : Int32).toNatClampNeg p3))), (a_t_pairWorths1, .inl (cy 0, 64, .inl f_t_pairWorths1))] H := hP
  have hD : va_D A [(a_t, .inr (7, [o_t_length, o_t_words, o_t_frames, .int i_t_pairs, o_t_kinds, o_t_worths, o_t_framed, .ref a_t_paired, .ref a_t_pairWorths, o_t_scales])), (a_t_paired, .inl (cy 0, 64, .inl (upd f_t_paired (r_1 : Int32).toNatClampNeg 1))), (a_t_pairWorths, .inl (cy 6, 2, .inr (.inr (.inr (.inr (rfL [a_t_pairWorths0, a_t_pairWorths1])))))), (a_t_pairWorths0, .inl (cy 0, 64, .inl (upd f_t_pairWorths0 (r_1 : Int32).toNatClampNeg p3))), (a_t_pairWorths1, .inl (cy 0, 64, .inl f_t_pairWorths1))] := hD
  refine lv_aload_n hx hb dX7_addPair_25 rfl (lv_at hl 1 rfl) ?_
  refine va_get (D := D) (ci := 7) (v := .ref a_t_pairWorths) (C := RX7) (T := TX7) (N := 10) hx hb hts uX7_addPair_X7 hown hK.1.1 hP 0 rfl rfl 8 (by decide) (hts _ mX7_addPair_26) (fun _ h9 => h9) rfl dX7_addPair_26 ?_
  refine lv_iconst (v := 1) hx hb dX7_addPair_29 (by decide) ?_
  refine va_aldk (a1 := a_t_pairWorths1) hx hb hK hP 2 6 rfl rfl (by decide) (by decide) rfl dX7_addPair_30 ?_
  refine lv_iload hx hb dX7_addPair_31 (lv_at hl 0 rfl) ?_
  refine lv_iload hx hb dX7_addPair_33 (lv_at hl 5 rfl) ?_
  obtain ⟨hg_5, hf⟩ := hb_g hf
  refine va_iast hx hb hK.1.1 hP hD hS 4 0 rfl rfl (ixb_in hg_5) dX7_addPair_35 (fun H locs hP hD hS => ?_)
  have hP : va_P D vwCl [(a_t, .inr (7, [o_t_length, o_t_words, o_t_frames, .int i_t_pairs, o_t_kinds, o_t_worths, o_t_framed, .ref a_t_paired, .ref a_t_pairWorths, o_t_scales])), (a_t_paired, .inl (cy 0, 64, .inl (upd f_t_paired (r_1 : Int32).toNatClampNeg 1))), (a_t_pairWorths, .inl (cy 6, 2, .inr (.inr (.inr (.inr (rfL [a_t_pairWorths0, a_t_pairWorths1])))))), (a_t_pairWorths0, .inl (cy 0, 64, .inl (upd f_t_pairWorths0 (r_1 : Int32).toNatClampNeg p3))), (a_t_pairWorths1, .inl (cy 0, 64, .inl (upd f_t_pairWorths1 (r_1 : Int32).toNatClampNeg p4)))] H := hP
  have hD : va_D A [(a_t, .inr (7, [o_t_length, o_t_words, o_t_frames, .int i_t_pairs, o_t_kinds, o_t_worths, o_t_framed, .ref a_t_paired, .ref a_t_pairWorths, o_t_scales])), (a_t_paired, .inl (cy 0, 64, .inl (upd f_t_paired (r_1 : Int32).toNatClampNeg 1))), (a_t_pairWorths, .inl (cy 6, 2, .inr (.inr (.inr (.inr (rfL [a_t_pairWorths0, a_t_pairWorths1])))))), (a_t_pairWorths0, .inl (cy 0, 64, .inl (upd f_t_pairWorths0 (r_1 : Int32).toNatClampNeg p3))), (a_t_pairWorths1, .inl (cy 0, 64, .inl (upd f_t_pairWorths1 (r_1 : Int32).toNatClampNeg p4)))] := hD
  refine lv_aload_n hx hb dX7_addPair_36 rfl (lv_at hl 1 rfl) ?_
  refine lv_dup hx hb dX7_addPair_37 rfl ?_
  refine va_get (D := D) (ci := 7) (v := .int i_t_pairs) (C := RX7) (T := TX7) (N := 10) hx hb hts uX7_addPair_X7 hown hK.1.1 hP 0 rfl rfl 3 (by decide) (hts _ mX7_addPair_42) (fun _ h9 => h9) rfl dX7_addPair_38 ?_
  refine lv_iconst (v := 1) hx hb dX7_addPair_41 (by decide) ?_
  refine lv_iadd hx hb dX7_addPair_42 ?_
  refine va_put (D := D) (ci := 7) (v := .int (i_t_pairs + 1)) (ty := .int) (C := RX7) (T := TX7) (N := 10) hx hb hts uX7_addPair_X7 tyX7 tyX7_ok nmX7 hown hK.1.1 hP hD hS 0 rfl rfl 3 (by decide) (hts _ mX7_addPair_42) (fun _ h9 => h9) rfl (by decide +kernel) rfl rfl (Nat.le_of_ble_eq_true rfl) dX7_addPair_43 (fun H locs hP hD hS => ?_)
  have hP : va_P D vwCl [(a_t, .inr (7, [o_t_length, o_t_words, o_t_frames, .int (i_t_pairs + 1), o_t_kinds, o_t_worths, o_t_framed, .ref a_t_paired, .ref a_t_pairWorths, o_t_scales])), (a_t_paired, .inl (cy 0, 64, .inl (upd f_t_paired (r_1 : Int32).toNatClampNeg 1))), (a_t_pairWorths, .inl (cy 6, 2, .inr (.inr (.inr (.inr (rfL [a_t_pairWorths0, a_t_pairWorths1])))))), (a_t_pairWorths0, .inl (cy 0, 64, .inl (upd f_t_pairWorths0 (r_1 : Int32).toNatClampNeg p3))), (a_t_pairWorths1, .inl (cy 0, 64, .inl (upd f_t_pairWorths1 (r_1 : Int32).toNatClampNeg p4)))] H := hP
  have hD : va_D A [(a_t, .inr (7, [o_t_length, o_t_words, o_t_frames, .int (i_t_pairs + 1), o_t_kinds, o_t_worths, o_t_framed, .ref a_t_paired, .ref a_t_pairWorths, o_t_scales])), (a_t_paired, .inl (cy 0, 64, .inl (upd f_t_paired (r_1 : Int32).toNatClampNeg 1))), (a_t_pairWorths, .inl (cy 6, 2, .inr (.inr (.inr (.inr (rfL [a_t_pairWorths0, a_t_pairWorths1])))))), (a_t_pairWorths0, .inl (cy 0, 64, .inl (upd f_t_pairWorths0 (r_1 : Int32).toNatClampNeg p3))), (a_t_pairWorths1, .inl (cy 0, 64, .inl (upd f_t_pairWorths1 (r_1 : Int32).toNatClampNeg p4)))] := hD
  obtain ⟨e_0, e_1, e_2, e_3⟩ := tu4 hf
  subst e_0; subst e_1; subst e_2; subst e_3
  exact hret _ _ _ _ dX7_addPair_46 hP hS
theorem mX7_hasPair_23 : Cond.fieldLink RX7 23 "OneWordLetters$Tongue" "paired" "[I" ∈ wsX7_hasPair := by decide +kernel
theorem uX7_hasPair_X7 : ∀ w ∈ wsX70, w ∈ wsX7_hasPair := fun _ h => List.mem_cons_of_mem _ (List.mem_append_right _ h)
abbrev rmX7_hasPair : Room := { frames := 1, cells := 0, slots := 0, locals := 21 }
set_option maxRecDepth 100000 in
set_option maxHeartbeats 4000000 in
theorem c_X7_hasPair (l : Launch) (D : va_G) (cy : Nat → ClassId) (a_t : Nat) (a_t_paired : Nat) (o_t_length : Value) (o_t_words : Value) (o_t_frames : Value) (o_t_pairs : Value) (o_t_kinds : Value) (o_t_worths : Value) (o_t_framed : Value) (o_t_pairWorths : Value) (o_t_scales : Value) (f_t_paired : Nat → Int32) (p1 : Int32) (p2 : Int32) (rv : Int32) (hf : f_X7_hasPair f_t_paired p1 p2 = some rv) : MI l D cy yX7_hasPair wsX7_hasPair rmX7_hasPair [.ref a_t, .int p1, .int p2] [(a_t, .inr (7, [o_t_length, o_t_words, o_t_frames, o_t_pairs, o_t_kinds, o_t_worths, o_t_framed, .ref a_t_paired, o_t_pairWorths, o_t_scales])), (a_t_paired, .inl (cy 0, 64, .inl f_t_paired))] [(a_t, .inr (7, [o_t_length, o_t_words, o_t_frames, o_t_pairs, o_t_kinds, o_t_worths, o_t_framed, .ref a_t_paired, o_t_pairWorths, o_t_scales])), (a_t_paired, .inl (cy 0, 64, .inl f_t_paired))] rv := by
  refine st_I (by decide) rfl (Nat.le_of_ble_eq_true rfl) (fun p e s m below meth c A Q ls C0 hA hK hP hD hS hl hret => ?_)
  obtain ⟨hx, hb, hr, hml, hown, hts, hlocks⟩ := id C0
  have hl : lv_has ls 3 [(0, .ref a_t), (1, .int p1), (2, .int p2)] := hl
  unfold f_X7_hasPair at hf
  refine lv_aload_n hx hb dX7_hasPair_0 rfl (lv_at hl 0 rfl) ?_
  refine va_get (D := D) (ci := 7) (v := .ref a_t_paired) (C := RX7) (T := TX7) (N := 10) hx hb hts uX7_hasPair_X7 hown hK.1.1 hP 0 rfl rfl 7 (by decide) (hts _ mX7_hasPair_23) (fun _ h9 => h9) rfl dX7_hasPair_1 ?_
  refine lv_iload_n hx hb dX7_hasPair_4 rfl (lv_at hl 1 rfl) ?_
  refine lv_iload_n hx hb dX7_hasPair_5 rfl (lv_at hl 2 rfl) ?_
  obtain ⟨r_1, hc_2, hf⟩ := hb_b hf
  refine cl_Si (rest := [.ref a_t_paired]) [] [none, none] 2 C0 hK hP hD hS hA (c_X7_spotOf l D cy p1 p2 r_1 hc_2) (va_cwS 2 hts gX7_hasPair_X7_spotOf rfl rfl rfl (by decide +kernel) ⟨Nat.le_of_ble_eq_true rfl, Nat.le_of_ble_eq_true rfl⟩) rfl (by decide) rfl rfl rfl rfl hl.1 rfl (Nat.le_of_ble_eq_true rfl) dX7_hasPair_6 ⟨Nat.zero_le _, Nat.zero_le _⟩ (fun H locs hP hD hS => ?_)
  have hP : va_P D vwCl [(a_t, .inr (7, [o_t_length, o_t_words, o_t_frames, o_t_pairs, o_t_kinds, o_t_worths, o_t_framed, .ref a_t_paired, o_t_pairWorths, o_t_scales])), (a_t_paired, .inl (cy 0, 64, .inl f_t_paired))] H := hP
  have hD : va_D A [(a_t, .inr (7, [o_t_length, o_t_words, o_t_frames, o_t_pairs, o_t_kinds, o_t_worths, o_t_framed, .ref a_t_paired, o_t_pairWorths, o_t_scales])), (a_t_paired, .inl (cy 0, 64, .inl f_t_paired))] := hD
  obtain ⟨hg_3, hf⟩ := hb_g hf
  refine va_iald hx hb hK.1.1 hP 1 0 rfl rfl (ixb_in hg_3) dX7_hasPair_9 ?_
  refine lv_iconst (v := 1) hx hb dX7_hasPair_10 (by decide) ?_
  refine lv_icmp_ne (tgt := 18) hx hb dX7_hasPair_11 (by decide) (fun c_4 => ?_) (fun c_4 => ?_)
  · have hf := hb_f hf c_4
    refine lv_iconst (v := 0) hx hb dX7_hasPair_18 (by decide) ?_
    have hf := Option.some.inj hf
    subst hf
    exact hret _ _ _ _ dX7_hasPair_19 rfl hP hS
  · have hf := hb_t hf c_4
    refine lv_iconst (v := 1) hx hb dX7_hasPair_14 (by decide) ?_
    refine lv_goto (tgt := 19) hx hb dX7_hasPair_15 (by decide) ?_
    have hf := Option.some.inj hf
    subst hf
    exact hret _ _ _ _ dX7_hasPair_19 rfl hP hS
theorem mX7_countLetters_29 : Cond.fieldLink RX7 29 "OneWordLetters$Tongue" "scales" "[I" ∈ wsX7_countLetters := by decide +kernel
theorem uX7_countLetters_X7 : ∀ w ∈ wsX70, w ∈ wsX7_countLetters := fun _ h => List.mem_cons_of_mem _ (List.mem_append_right _ h)
theorem mX7_countLetters_36 : Cond.fieldLink RX7 36 "OneWordLetters$Tongue" "words" "I" ∈ wsX7_countLetters := by decide +kernel
theorem mX7_countLetters_32 : Cond.fieldLink RX7 32 "OneWordLetters$Tongue" "length" "I" ∈ wsX7_countLetters := by decide +kernel
abbrev rmX7_countLetters : Room := { frames := 0, cells := 0, slots := 0, locals := 0 }
set_option maxRecDepth 100000 in
set_option maxHeartbeats 4000000 in
theorem L_X7_countLetters_4 {p : Program} {e : Env} {s : State} {m : MethodId} {args : Array Value} {below : List Frame} {meth : Method} {c : Code} {Q : State → Prop} {A : Nat → Prop} (l : Launch) (D : va_G) (cy : Nat → ClassId) (a_t : Nat) (a_t_scales : Nat) (o_t_frames : Value) (o_t_pairs : Value) (o_t_kinds : Value) (o_t_worths : Value) (o_t_framed : Value) (o_t_paired : Value) (o_t_pairWorths : Value) (i_t_length : Int32) (i_t_words : Int32) {K0 : (Nat → Int32) → Option (Int32 × (Nat → Int32))} (rv : Int32) (z_f_t_scales : Nat → Int32) (C0 : CX p s m args meth c cX7_countLetters 3 (some .int) wsX7_countLetters RX7) (hA : ∀ q, s.heap.size ≤ q → A q) (hK : KZ D cy A s) (hk0 : ∀ (y_f_t_scales : Nat → Int32) (H : Heap) (locs : List Loc), K0 y_f_t_scales = some (rv, z_f_t_scales) → va_P D vwCl [(a_t, .inr (7, [.int i_t_length, .int i_t_words, o_t_frames, o_t_pairs, o_t_kinds, o_t_worths, o_t_framed, o_t_paired, o_t_pairWorths, .ref a_t_scales])), (a_t_scales, .inl (cy 0, 5, .inl y_f_t_scales))] H → va_D A [(a_t, .inr (7, [.int i_t_length, .int i_t_words, o_t_frames, o_t_pairs, o_t_kinds, o_t_worths, o_t_framed, o_t_paired, o_t_pairWorths, .ref a_t_scales])), (a_t_scales, .inl (cy 0, 5, .inl y_f_t_scales))] → va_S A s.heap H locs → ∀ ls : Array Slot, lv_has ls 3 [(0, .ref a_t)] → W p l e rmX7_countLetters s m args below meth c H locs 0 0 Q (F0 m 29 ls [])) : ∀ (n : Nat) (v1 : Int32) (v2 : Int32) (f_t_scales : Nat → Int32), f_X7_countLetters_L4 i_t_length i_t_words K0 n v1 v2 f_t_scales = some (rv, z_f_t_scales) → ∀ (H : Heap) (locs : List Loc), va_P D vwCl [(a_t, .inr (7, [.int i_t_length, .int i_t_words, o_t_frames, o_t_pairs, o_t_kinds, o_t_worths, o_t_framed, o_t_paired, o_t_pairWorths, .ref a_t_scales])), (a_t_scales, .inl (cy 0, 5, .inl f_t_scales))] H → va_D A [(a_t, .inr (7, [.int i_t_length, .int i_t_words, o_t_frames, o_t_pairs, o_t_kinds, o_t_worths, o_t_framed, o_t_paired, o_t_pairWorths, .ref a_t_scales])), (a_t_scales, .inl (cy 0, 5, .inl f_t_scales))] → va_S A s.heap H locs → ∀ ls : Array Slot, lv_has ls 3 [(0, .ref a_t), (1, .int v1), (2, .int v2)] → W p l e rmX7_countLetters s m args below meth c H locs 0 0 Q (F0 m 4 ls []) := by
  obtain ⟨hx, hb, hr, hml, hown, hts, hlocks⟩ := id C0
  intro n
  induction n with
  | zero => intro _ _ _ hf; rw [f_X7_countLetters_L4.eq_1] at hf; cases hf
  | succ n ih =>
    intro v1 v2 f_t_scales hf H locs hP hD hS ls hl
    rw [f_X7_countLetters_L4.eq_2] at hf
    refine lv_iload_n hx hb dX7_countLetters_4 rfl (lv_at hl 2 rfl) ?_
    refine lv_iconst (v := 4) hx hb dX7_countLetters_5 (by decide) ?_
    refine lv_icmp_gt (tgt := 29) hx hb dX7_countLetters_6 (by decide) (fun c_1 => ?_) (fun c_1 => ?_)
    · have hf := hb_t hf c_1
      exact hk0 f_t_scales _ _ hf hP hD hS _ (lv_sub hl [0] rfl)
    · have hf := hb_f hf c_1
      refine lv_aload_n hx hb dX7_countLetters_9 rfl (lv_at hl 0 rfl) ?_
      refine va_get (D := D) (ci := 7) (v := .ref a_t_scales) (C := RX7) (T := TX7) (N := 10) hx hb hts uX7_countLetters_X7 hown hK.1.1 hP 0 rfl rfl 9 (by decide) (hts _ mX7_countLetters_29) (fun _ h9 => h9) rfl dX7_countLetters_10 ?_
      refine lv_iload_n hx hb dX7_countLetters_13 rfl (lv_at hl 2 rfl) ?_
      refine lv_iload_n hx hb dX7_countLetters_14 rfl (lv_at hl 1 rfl) ?_
      obtain ⟨hg_2, hf⟩ := hb_g hf
      refine va_iast hx hb hK.1.1 hP hD hS 1 0 rfl rfl (ixb_in hg_2) dX7_countLetters_15 (fun H locs hP hD hS => ?_)
      have hP : va_P D vwCl [(a_t, .inr (7, [.int i_t_length, .int i_t_words, o_t_frames, o_t_pairs, o_t_kinds, o_t_worths, o_t_framed, o_t_paired, o_t_pairWorths, .ref a_t_scales])), (a_t_scales, .inl (cy 0, 5, .inl (upd f_t_scales (v2 : Int32).toNatClampNeg v1)))] H := hP
      have hD : va_D A [(a_t, .inr (7, [.int i_t_length, .int i_t_words, o_t_frames, o_t_pairs, o_t_kinds, o_t_worths, o_t_framed, o_t_paired, o_t_pairWorths, .ref a_t_scales])), (a_t_scales, .inl (cy 0, 5, .inl (upd f_t_scales (v2 : Int32).toNatClampNeg v1)))] := hD
      refine lv_iload_n hx hb dX7_countLetters_16 rfl (lv_at hl 1 rfl) ?_
      refine lv_aload_n hx hb dX7_countLetters_17 rfl (lv_at hl 0 rfl) ?_
      refine va_get (D := D) (ci := 7) (v := .int i_t_words) (C := RX7) (T := TX7) (N := 10) hx hb hts uX7_countLetters_X7 hown hK.1.1 hP 0 rfl rfl 1 (by decide) (hts _ mX7_countLetters_36) (fun _ h9 => h9) rfl dX7_countLetters_18 ?_
      refine lv_imul hx hb dX7_countLetters_21 ?_
      refine lv_istore_n (lv' := [(1, .int (v1 * i_t_words)), (0, .ref a_t), (2, .int v2)]) hx hb dX7_countLetters_22 rfl hl (by decide) rfl (fun ls hl => ?_)
      refine lv_iinc (v := (v2 + 1)) (lv' := [(2, .int (v2 + 1)), (1, .int (v1 * i_t_words)), (0, .ref a_t)]) hx hb dX7_countLetters_23 hl (k := 2) rfl rfl (by decide) rfl (fun ls hl => ?_)
      refine lv_goto (tgt := 4) hx hb dX7_countLetters_26 (by decide) ?_
      exact ih (v1 * i_t_words) (v2 + 1) (upd f_t_scales (v2 : Int32).toNatClampNeg v1) hf _ _ hP hD hS _ (lv_sub hl [2, 1, 0] rfl)
set_option maxRecDepth 100000 in
set_option maxHeartbeats 4000000 in
theorem c_X7_countLetters (l : Launch) (D : va_G) (cy : Nat → ClassId) (a_t : Nat) (a_t_scales : Nat) (o_t_frames : Value) (o_t_pairs : Value) (o_t_kinds : Value) (o_t_worths : Value) (o_t_framed : Value) (o_t_paired : Value) (o_t_pairWorths : Value) (i_t_length : Int32) (i_t_words : Int32) (f_t_scales : Nat → Int32) (rv : Int32) (z_f_t_scales : Nat → Int32) (hf : f_X7_countLetters i_t_length i_t_words f_t_scales = some (rv, z_f_t_scales)) : MI l D cy yX7_countLetters wsX7_countLetters rmX7_countLetters [.ref a_t] [(a_t, .inr (7, [.int i_t_length, .int i_t_words, o_t_frames, o_t_pairs, o_t_kinds, o_t_worths, o_t_framed, o_t_paired, o_t_pairWorths, .ref a_t_scales])), (a_t_scales, .inl (cy 0, 5, .inl f_t_scales))] [(a_t, .inr (7, [.int i_t_length, .int i_t_words, o_t_frames, o_t_pairs, o_t_kinds, o_t_worths, o_t_framed, o_t_paired, o_t_pairWorths, .ref a_t_scales])), (a_t_scales, .inl (cy 0, 5, .inl z_f_t_scales))] rv := by
  refine st_I (by decide) rfl (Nat.le_of_ble_eq_true rfl) (fun p e s m below meth c A Q ls C0 hA hK hP hD hS hl hret => ?_)
  obtain ⟨hx, hb, hr, hml, hown, hts, hlocks⟩ := id C0
  have hl : lv_has ls 3 [(0, .ref a_t)] := hl
  unfold f_X7_countLetters at hf
  refine lv_iconst (v := 1) hx hb dX7_countLetters_0 (by decide) ?_
  refine lv_istore_n (lv' := [(1, .int 1), (0, .ref a_t)]) hx hb dX7_countLetters_1 rfl hl (by decide) rfl (fun ls hl => ?_)
  refine lv_iconst (v := 0) hx hb dX7_countLetters_2 (by decide) ?_
  refine lv_istore_n (lv' := [(2, .int 0), (1, .int 1), (0, .ref a_t)]) hx hb dX7_countLetters_3 rfl hl (by decide) rfl (fun ls hl => ?_)
  refine L_X7_countLetters_4 l D cy a_t a_t_scales o_t_frames o_t_pairs o_t_kinds o_t_worths o_t_framed o_t_paired o_t_pairWorths i_t_length i_t_words rv z_f_t_scales C0 hA hK (fun z_3 H locs hf hP hD hS ls hl => ?_) FU 1 0 f_t_scales hf _ _ hP hD hS _ (lv_sub hl [2, 1, 0] rfl)
  refine lv_aload_n hx hb dX7_countLetters_29 rfl (lv_at hl 0 rfl) ?_
  refine va_get (D := D) (ci := 7) (v := .int i_t_words) (C := RX7) (T := TX7) (N := 10) hx hb hts uX7_countLetters_X7 hown hK.1.1 hP 0 rfl rfl 1 (by decide) (hts _ mX7_countLetters_36) (fun _ h9 => h9) rfl dX7_countLetters_30 ?_
  refine lv_if_le (tgt := 56) hx hb dX7_countLetters_33 (by decide) (fun c_4 => ?_) (fun c_4 => ?_)
  · have hf := hb_t hf c_4
    refine lv_iconst (v := 0) hx hb dX7_countLetters_56 (by decide) ?_
    obtain ⟨e_0, e_1⟩ := tu2 hf
    subst e_0; subst e_1
    exact hret _ _ _ _ dX7_countLetters_57 rfl hP hS
  · have hf := hb_f hf c_4
    refine lv_aload_n hx hb dX7_countLetters_36 rfl (lv_at hl 0 rfl) ?_
    refine va_get (D := D) (ci := 7) (v := .int i_t_length) (C := RX7) (T := TX7) (N := 10) hx hb hts uX7_countLetters_X7 hown hK.1.1 hP 0 rfl rfl 0 (by decide) (hts _ mX7_countLetters_32) (fun _ h9 => h9) rfl dX7_countLetters_37 ?_
    refine lv_iconst (v := 4) hx hb dX7_countLetters_40 (by decide) ?_
    refine lv_icmp_gt (tgt := 56) hx hb dX7_countLetters_41 (by decide) (fun c_5 => ?_) (fun c_5 => ?_)
    · have hf := hb_t hf c_5
      refine lv_iconst (v := 0) hx hb dX7_countLetters_56 (by decide) ?_
      obtain ⟨e_0, e_1⟩ := tu2 hf
      subst e_0; subst e_1
      exact hret _ _ _ _ dX7_countLetters_57 rfl hP hS
    · have hf := hb_f hf c_5
      refine lv_aload_n hx hb dX7_countLetters_44 rfl (lv_at hl 0 rfl) ?_
      refine va_get (D := D) (ci := 7) (v := .ref a_t_scales) (C := RX7) (T := TX7) (N := 10) hx hb hts uX7_countLetters_X7 hown hK.1.1 hP 0 rfl rfl 9 (by decide) (hts _ mX7_countLetters_29) (fun _ h9 => h9) rfl dX7_countLetters_45 ?_
      refine lv_aload_n hx hb dX7_countLetters_48 rfl (lv_at hl 0 rfl) ?_
      refine va_get (D := D) (ci := 7) (v := .int i_t_length) (C := RX7) (T := TX7) (N := 10) hx hb hts uX7_countLetters_X7 hown hK.1.1 hP 0 rfl rfl 0 (by decide) (hts _ mX7_countLetters_32) (fun _ h9 => h9) rfl dX7_countLetters_49 ?_
      obtain ⟨hg_6, hf⟩ := hb_g hf
      refine va_iald hx hb hK.1.1 hP 1 0 rfl rfl (ixb_in hg_6) dX7_countLetters_52 ?_
      refine lv_goto (tgt := 57) hx hb dX7_countLetters_53 (by decide) ?_
      obtain ⟨e_0, e_1⟩ := tu2 hf
      subst e_0; subst e_1
      exact hret _ _ _ _ dX7_countLetters_57 rfl hP hS
theorem mX7_wordAt_36 : Cond.fieldLink RX7 36 "OneWordLetters$Tongue" "words" "I" ∈ wsX7_wordAt := by decide +kernel
theorem uX7_wordAt_X7 : ∀ w ∈ wsX70, w ∈ wsX7_wordAt := fun _ h => List.mem_cons_of_mem _ (List.mem_append_right _ h)
theorem mX7_wordAt_32 : Cond.fieldLink RX7 32 "OneWordLetters$Tongue" "length" "I" ∈ wsX7_wordAt := by decide +kernel
theorem mX7_wordAt_29 : Cond.fieldLink RX7 29 "OneWordLetters$Tongue" "scales" "[I" ∈ wsX7_wordAt := by decide +kernel
abbrev rmX7_wordAt : Room := { frames := 0, cells := 0, slots := 0, locals := 0 }
set_option maxRecDepth 100000 in
set_option maxHeartbeats 4000000 in
theorem c_X7_wordAt (l : Launch) (D : va_G) (cy : Nat → ClassId) (a_t : Nat) (a_t_scales : Nat) (o_t_frames : Value) (o_t_pairs : Value) (o_t_kinds : Value) (o_t_worths : Value) (o_t_framed : Value) (o_t_paired : Value) (o_t_pairWorths : Value) (i_t_length : Int32) (i_t_words : Int32) (f_t_scales : Nat → Int32) (p1 : Int32) (p2 : Int32) (rv : Int32) (hf : f_X7_wordAt i_t_length i_t_words f_t_scales p1 p2 = some rv) : MI l D cy yX7_wordAt wsX7_wordAt rmX7_wordAt [.ref a_t, .int p1, .int p2] [(a_t, .inr (7, [.int i_t_length, .int i_t_words, o_t_frames, o_t_pairs, o_t_kinds, o_t_worths, o_t_framed, o_t_paired, o_t_pairWorths, .ref a_t_scales])), (a_t_scales, .inl (cy 0, 5, .inl f_t_scales))] [(a_t, .inr (7, [.int i_t_length, .int i_t_words, o_t_frames, o_t_pairs, o_t_kinds, o_t_worths, o_t_framed, o_t_paired, o_t_pairWorths, .ref a_t_scales])), (a_t_scales, .inl (cy 0, 5, .inl f_t_scales))] rv := by
  refine st_I (by decide) rfl (Nat.le_of_ble_eq_true rfl) (fun p e s m below meth c A Q ls C0 hA hK hP hD hS hl hret => ?_)
  obtain ⟨hx, hb, hr, hml, hown, hts, hlocks⟩ := id C0
  have hl : lv_has ls 3 [(0, .ref a_t), (1, .int p1), (2, .int p2)] := hl
  unfold f_X7_wordAt at hf
  refine lv_aload_n hx hb dX7_wordAt_0 rfl (lv_at hl 0 rfl) ?_
  refine va_get (D := D) (ci := 7) (v := .int i_t_words) (C := RX7) (T := TX7) (N := 10) hx hb hts uX7_wordAt_X7 hown hK.1.1 hP 0 rfl rfl 1 (by decide) (hts _ mX7_wordAt_36) (fun _ h9 => h9) rfl dX7_wordAt_1 ?_
  refine lv_if_le (tgt := 28) hx hb dX7_wordAt_4 (by decide) (fun c_1 => ?_) (fun c_1 => ?_)
  · have hf := hb_t hf c_1
    refine lv_iconst (v := 0) hx hb dX7_wordAt_28 (by decide) ?_
    have hf := Option.some.inj hf
    subst hf
    exact hret _ _ _ _ dX7_wordAt_29 rfl hP hS
  · have hf := hb_f hf c_1
    refine lv_iload_n hx hb dX7_wordAt_7 rfl (lv_at hl 2 rfl) ?_
    refine lv_if_lt (tgt := 28) hx hb dX7_wordAt_8 (by decide) (fun c_2 => ?_) (fun c_2 => ?_)
    · have hf := hb_t hf c_2
      refine lv_iconst (v := 0) hx hb dX7_wordAt_28 (by decide) ?_
      have hf := Option.some.inj hf
      subst hf
      exact hret _ _ _ _ dX7_wordAt_29 rfl hP hS
    · have hf := hb_f hf c_2
      refine lv_iload_n hx hb dX7_wordAt_11 rfl (lv_at hl 2 rfl) ?_
      refine lv_aload_n hx hb dX7_wordAt_12 rfl (lv_at hl 0 rfl) ?_
      refine va_get (D := D) (ci := 7) (v := .int i_t_length) (C := RX7) (T := TX7) (N := 10) hx hb hts uX7_wordAt_X7 hown hK.1.1 hP 0 rfl rfl 0 (by decide) (hts _ mX7_wordAt_32) (fun _ h9 => h9) rfl dX7_wordAt_13 ?_
      refine lv_icmp_ge (tgt := 28) hx hb dX7_wordAt_16 (by decide) (fun c_3 => ?_) (fun c_3 => ?_)
      · have hf := hb_t hf c_3
        refine lv_iconst (v := 0) hx hb dX7_wordAt_28 (by decide) ?_
        have hf := Option.some.inj hf
        subst hf
        exact hret _ _ _ _ dX7_wordAt_29 rfl hP hS
      · have hf := hb_f hf c_3
        refine lv_aload_n hx hb dX7_wordAt_19 rfl (lv_at hl 0 rfl) ?_
        refine va_get (D := D) (ci := 7) (v := .ref a_t_scales) (C := RX7) (T := TX7) (N := 10) hx hb hts uX7_wordAt_X7 hown hK.1.1 hP 0 rfl rfl 9 (by decide) (hts _ mX7_wordAt_29) (fun _ h9 => h9) rfl dX7_wordAt_20 ?_
        refine lv_iload_n hx hb dX7_wordAt_23 rfl (lv_at hl 2 rfl) ?_
        obtain ⟨hg_4, hf⟩ := hb_g hf
        refine va_iald hx hb hK.1.1 hP 1 0 rfl rfl (ixb_in hg_4) dX7_wordAt_24 ?_
        refine lv_if_gt (tgt := 30) hx hb dX7_wordAt_25 (by decide) (fun c_5 => ?_) (fun c_5 => ?_)
        · have hf := hb_t hf c_5
          refine lv_iload_n hx hb dX7_wordAt_30 rfl (lv_at hl 1 rfl) ?_
          refine lv_aload_n hx hb dX7_wordAt_31 rfl (lv_at hl 0 rfl) ?_
          refine va_get (D := D) (ci := 7) (v := .ref a_t_scales) (C := RX7) (T := TX7) (N := 10) hx hb hts uX7_wordAt_X7 hown hK.1.1 hP 0 rfl rfl 9 (by decide) (hts _ mX7_wordAt_29) (fun _ h9 => h9) rfl dX7_wordAt_32 ?_
          refine lv_iload_n hx hb dX7_wordAt_35 rfl (lv_at hl 2 rfl) ?_
          obtain ⟨hg_6, hf⟩ := hb_g hf
          refine va_iald hx hb hK.1.1 hP 1 0 rfl rfl (ixb_in hg_6) dX7_wordAt_36 ?_
          obtain ⟨hg_7, hf⟩ := hb_g hf
          refine lv_idiv hx hb dX7_wordAt_37 hg_7 ?_
          refine lv_aload_n hx hb dX7_wordAt_38 rfl (lv_at hl 0 rfl) ?_
          refine va_get (D := D) (ci := 7) (v := .int i_t_words) (C := RX7) (T := TX7) (N := 10) hx hb hts uX7_wordAt_X7 hown hK.1.1 hP 0 rfl rfl 1 (by decide) (hts _ mX7_wordAt_36) (fun _ h9 => h9) rfl dX7_wordAt_39 ?_
          obtain ⟨hg_8, hf⟩ := hb_g hf
          refine lv_irem hx hb dX7_wordAt_42 hg_8 ?_
          have hf := Option.some.inj hf
          subst hf
          exact hret _ _ _ _ dX7_wordAt_43 rfl hP hS
        · have hf := hb_f hf c_5
          refine lv_iconst (v := 0) hx hb dX7_wordAt_28 (by decide) ?_
          have hf := Option.some.inj hf
          subst hf
          exact hret _ _ _ _ dX7_wordAt_29 rfl hP hS
theorem mX7_isFramed_32 : Cond.fieldLink RX7 32 "OneWordLetters$Tongue" "length" "I" ∈ wsX7_isFramed := by decide +kernel
theorem uX7_isFramed_X7 : ∀ w ∈ wsX70, w ∈ wsX7_isFramed := fun _ h => List.mem_cons_of_mem _ (List.mem_append_right _ h)
theorem mX7_isFramed_9 : Cond.fieldLink RX7 9 "OneWordLetters$Tongue" "kinds" "[I" ∈ wsX7_isFramed := by decide +kernel
theorem mX7_isFramed_20 : Cond.fieldLink RX7 20 "OneWordLetters$Tongue" "framed" "[I" ∈ wsX7_isFramed := by decide +kernel
abbrev rmX7_isFramed : Room := { frames := 1, cells := 0, slots := 0, locals := 22 }
set_option maxRecDepth 100000 in
set_option maxHeartbeats 4000000 in
theorem L_X7_isFramed_9 {p : Program} {e : Env} {s : State} {m : MethodId} {args : Array Value} {below : List Frame} {meth : Method} {c : Code} {Q : State → Prop} {A : Nat → Prop} (l : Launch) (D : va_G) (cy : Nat → ClassId) (a_t : Nat) (a_t_kinds : Nat) (a_t_scales : Nat) (a_t_framed : Nat) (o_t_frames : Value) (o_t_pairs : Value) (o_t_worths : Value) (o_t_paired : Value) (o_t_pairWorths : Value) (i_t_length : Int32) (i_t_words : Int32) (f_t_kinds : Nat → Int32) (f_t_scales : Nat → Int32) (f_t_framed : Nat → Int32) {K0 : Int32 → Option (Int32)} (rv : Int32) (C0 : CX p s m args meth c cX7_isFramed 4 (some .boolean) wsX7_isFramed RX7) (hA : ∀ q, s.heap.size ≤ q → A q) (hK : KZ D cy A s) (hk0 : ∀ (v2 : Int32) (H : Heap) (locs : List Loc), K0 v2 = some rv → va_P D vwCl [(a_t, .inr (7, [.int i_t_length, .int i_t_words, o_t_frames, o_t_pairs, .ref a_t_kinds, o_t_worths, .ref a_t_framed, o_t_paired, o_t_pairWorths, .ref a_t_scales])), (a_t_kinds, .inl (cy 0, 8, .inl f_t_kinds)), (a_t_scales, .inl (cy 0, 5, .inl f_t_scales)), (a_t_framed, .inl (cy 0, 256, .inl f_t_framed))] H → va_D A [(a_t, .inr (7, [.int i_t_length, .int i_t_words, o_t_frames, o_t_pairs, .ref a_t_kinds, o_t_worths, .ref a_t_framed, o_t_paired, o_t_pairWorths, .ref a_t_scales])), (a_t_kinds, .inl (cy 0, 8, .inl f_t_kinds)), (a_t_scales, .inl (cy 0, 5, .inl f_t_scales)), (a_t_framed, .inl (cy 0, 256, .inl f_t_framed))] → va_S A s.heap H locs → ∀ ls : Array Slot, lv_has ls 4 [(0, .ref a_t), (2, .int v2)] → W p l e rmX7_isFramed s m args below meth c H locs 0 0 Q (F0 m 35 ls [])) : ∀ (n : Nat) (v1 : Int32) (v2 : Int32) (v3 : Int32), f_X7_isFramed_L9 i_t_length i_t_words f_t_kinds f_t_scales f_t_framed K0 n v1 v2 v3 = some rv → ∀ (H : Heap) (locs : List Loc), va_P D vwCl [(a_t, .inr (7, [.int i_t_length, .int i_t_words, o_t_frames, o_t_pairs, .ref a_t_kinds, o_t_worths, .ref a_t_framed, o_t_paired, o_t_pairWorths, .ref a_t_scales])), (a_t_kinds, .inl (cy 0, 8, .inl f_t_kinds)), (a_t_scales, .inl (cy 0, 5, .inl f_t_scales)), (a_t_framed, .inl (cy 0, 256, .inl f_t_framed))] H → va_D A [(a_t, .inr (7, [.int i_t_length, .int i_t_words, o_t_frames, o_t_pairs, .ref a_t_kinds, o_t_worths, .ref a_t_framed, o_t_paired, o_t_pairWorths, .ref a_t_scales])), (a_t_kinds, .inl (cy 0, 8, .inl f_t_kinds)), (a_t_scales, .inl (cy 0, 5, .inl f_t_scales)), (a_t_framed, .inl (cy 0, 256, .inl f_t_framed))] → va_S A s.heap H locs → ∀ ls : Array Slot, lv_has ls 4 [(0, .ref a_t), (1, .int v1), (2, .int v2), (3, .int v3)] → W p l e rmX7_isFramed s m args below meth c H locs 0 0 Q (F0 m 9 ls []) := by
  obtain ⟨hx, hb, hr, hml, hown, hts, hlocks⟩ := id C0
  intro n
  induction n with
  | zero => intro _ _ _ hf; rw [f_X7_isFramed_L9.eq_1] at hf; cases hf
  | succ n ih =>
    intro v1 v2 v3 hf H locs hP hD hS ls hl
    rw [f_X7_isFramed_L9.eq_2] at hf
    refine lv_iload_n hx hb dX7_isFramed_9 rfl (lv_at hl 3 rfl) ?_
    refine lv_if_lt (tgt := 35) hx hb dX7_isFramed_10 (by decide) (fun c_1 => ?_) (fun c_1 => ?_)
    · have hf := hb_t hf c_1
      exact hk0 v2 _ _ hf hP hD hS _ (lv_sub hl [0, 2] rfl)
    · have hf := hb_f hf c_1
      refine lv_iload_n hx hb dX7_isFramed_13 rfl (lv_at hl 2 rfl) ?_
      refine lv_iconst (v := 4) hx hb dX7_isFramed_14 (by decide) ?_
      refine lv_imul hx hb dX7_isFramed_15 ?_
      refine lv_aload_n hx hb dX7_isFramed_16 rfl (lv_at hl 0 rfl) ?_
      refine va_get (D := D) (ci := 7) (v := .ref a_t_kinds) (C := RX7) (T := TX7) (N := 10) hx hb hts uX7_isFramed_X7 hown hK.1.1 hP 0 rfl rfl 4 (by decide) (hts _ mX7_isFramed_9) (fun _ h9 => h9) rfl dX7_isFramed_17 ?_
      refine lv_aload_n hx hb dX7_isFramed_20 rfl (lv_at hl 0 rfl) ?_
      refine lv_iload_n hx hb dX7_isFramed_21 rfl (lv_at hl 1 rfl) ?_
      refine lv_iload_n hx hb dX7_isFramed_22 rfl (lv_at hl 3 rfl) ?_
      obtain ⟨r_2, hc_3, hf⟩ := hb_b hf
      refine cl_Vi (rest := [.ref a_t_kinds, .int (v2 * 4)]) [0, 2] [some 0, none, some 1, none] 4 0 C0 hK hP hD hS hA (c_X7_wordAt l D cy a_t a_t_scales o_t_frames o_t_pairs (.ref a_t_kinds) o_t_worths (.ref a_t_framed) o_t_paired o_t_pairWorths i_t_length i_t_words f_t_scales v1 v3 r_2 hc_3) (cwV 2 hts gX7_isFramed_X7_wordAt rfl rfl rfl (by decide +kernel) ⟨Nat.le_of_ble_eq_true rfl, Nat.le_of_ble_eq_true rfl⟩) rfl (by decide) rfl rfl rfl rfl rfl rfl rfl hl.1 rfl (Nat.le_of_ble_eq_true rfl) dX7_isFramed_23 ⟨Nat.zero_le _, Nat.zero_le _⟩ (fun H locs hP hD hS => ?_)
      have hP : va_P D vwCl [(a_t, .inr (7, [.int i_t_length, .int i_t_words, o_t_frames, o_t_pairs, .ref a_t_kinds, o_t_worths, .ref a_t_framed, o_t_paired, o_t_pairWorths, .ref a_t_scales])), (a_t_kinds, .inl (cy 0, 8, .inl f_t_kinds)), (a_t_scales, .inl (cy 0, 5, .inl f_t_scales)), (a_t_framed, .inl (cy 0, 256, .inl f_t_framed))] H := hP
      have hD : va_D A [(a_t, .inr (7, [.int i_t_length, .int i_t_words, o_t_frames, o_t_pairs, .ref a_t_kinds, o_t_worths, .ref a_t_framed, o_t_paired, o_t_pairWorths, .ref a_t_scales])), (a_t_kinds, .inl (cy 0, 8, .inl f_t_kinds)), (a_t_scales, .inl (cy 0, 5, .inl f_t_scales)), (a_t_framed, .inl (cy 0, 256, .inl f_t_framed))] := hD
      obtain ⟨hg_4, hf⟩ := hb_g hf
      refine va_iald hx hb hK.1.1 hP 1 0 rfl rfl (ixb_in hg_4) dX7_isFramed_26 ?_
      refine lv_iadd hx hb dX7_isFramed_27 ?_
      refine lv_istore_n (lv' := [(2, .int ((v2 * 4) + (f_t_kinds (r_2 : Int32).toNatClampNeg))), (0, .ref a_t), (1, .int v1), (3, .int v3)]) hx hb dX7_isFramed_28 rfl hl (by decide) rfl (fun ls hl => ?_)
      refine lv_iinc (v := (v3 + (-1))) (lv' := [(3, .int (v3 + (-1))), (2, .int ((v2 * 4) + (f_t_kinds (r_2 : Int32).toNatClampNeg))), (0, .ref a_t), (1, .int v1)]) hx hb dX7_isFramed_29 hl (k := 3) rfl rfl (by decide) rfl (fun ls hl => ?_)
      refine lv_goto (tgt := 9) hx hb dX7_isFramed_32 (by decide) ?_
      exact ih v1 ((v2 * 4) + (f_t_kinds (r_2 : Int32).toNatClampNeg)) (v3 + (-1)) hf _ _ hP hD hS _ (lv_sub hl [2, 3, 1, 0] rfl)
set_option maxRecDepth 100000 in
set_option maxHeartbeats 4000000 in
theorem c_X7_isFramed (l : Launch) (D : va_G) (cy : Nat → ClassId) (a_t : Nat) (a_t_kinds : Nat) (a_t_scales : Nat) (a_t_framed : Nat) (o_t_frames : Value) (o_t_pairs : Value) (o_t_worths : Value) (o_t_paired : Value) (o_t_pairWorths : Value) (i_t_length : Int32) (i_t_words : Int32) (f_t_kinds : Nat → Int32) (f_t_scales : Nat → Int32) (f_t_framed : Nat → Int32) (p1 : Int32) (rv : Int32) (hf : f_X7_isFramed i_t_length i_t_words f_t_kinds f_t_scales f_t_framed p1 = some rv) : MI l D cy yX7_isFramed wsX7_isFramed rmX7_isFramed [.ref a_t, .int p1] [(a_t, .inr (7, [.int i_t_length, .int i_t_words, o_t_frames, o_t_pairs, .ref a_t_kinds, o_t_worths, .ref a_t_framed, o_t_paired, o_t_pairWorths, .ref a_t_scales])), (a_t_kinds, .inl (cy 0, 8, .inl f_t_kinds)), (a_t_scales, .inl (cy 0, 5, .inl f_t_scales)), (a_t_framed, .inl (cy 0, 256, .inl f_t_framed))] [(a_t, .inr (7, [.int i_t_length, .int i_t_words, o_t_frames, o_t_pairs, .ref a_t_kinds, o_t_worths, .ref a_t_framed, o_t_paired, o_t_pairWorths, .ref a_t_scales])), (a_t_kinds, .inl (cy 0, 8, .inl f_t_kinds)), (a_t_scales, .inl (cy 0, 5, .inl f_t_scales)), (a_t_framed, .inl (cy 0, 256, .inl f_t_framed))] rv := by
  refine st_I (by decide) rfl (Nat.le_of_ble_eq_true rfl) (fun p e s m below meth c A Q ls C0 hA hK hP hD hS hl hret => ?_)
  obtain ⟨hx, hb, hr, hml, hown, hts, hlocks⟩ := id C0
  have hl : lv_has ls 4 [(0, .ref a_t), (1, .int p1)] := hl
  unfold f_X7_isFramed at hf
  refine lv_iconst (v := 0) hx hb dX7_isFramed_0 (by decide) ?_
  refine lv_istore_n (lv' := [(2, .int 0), (0, .ref a_t), (1, .int p1)]) hx hb dX7_isFramed_1 rfl hl (by decide) rfl (fun ls hl => ?_)
  refine lv_aload_n hx hb dX7_isFramed_2 rfl (lv_at hl 1 rfl) ?_
  refine va_get (D := D) (ci := 7) (v := .int i_t_length) (C := RX7) (T := TX7) (N := 10) hx hb hts uX7_isFramed_X7 hown hK.1.1 hP 0 rfl rfl 0 (by decide) (hts _ mX7_isFramed_32) (fun _ h9 => h9) rfl dX7_isFramed_3 ?_
  refine lv_iconst (v := 1) hx hb dX7_isFramed_6 (by decide) ?_
  refine lv_isub hx hb dX7_isFramed_7 ?_
  refine lv_istore_n (lv' := [(3, .int (i_t_length - 1)), (2, .int 0), (0, .ref a_t), (1, .int p1)]) hx hb dX7_isFramed_8 rfl hl (by decide) rfl (fun ls hl => ?_)
  refine L_X7_isFramed_9 l D cy a_t a_t_kinds a_t_scales a_t_framed o_t_frames o_t_pairs o_t_worths o_t_paired o_t_pairWorths i_t_length i_t_words f_t_kinds f_t_scales f_t_framed rv C0 hA hK (fun v2_5 H locs hf hP hD hS ls hl => ?_) FU p1 0 (i_t_length - 1) hf _ _ hP hD hS _ (lv_sub hl [2, 3, 1, 0] rfl)
  refine lv_aload_n hx hb dX7_isFramed_35 rfl (lv_at hl 0 rfl) ?_
  refine va_get (D := D) (ci := 7) (v := .ref a_t_framed) (C := RX7) (T := TX7) (N := 10) hx hb hts uX7_isFramed_X7 hown hK.1.1 hP 0 rfl rfl 6 (by decide) (hts _ mX7_isFramed_20) (fun _ h9 => h9) rfl dX7_isFramed_36 ?_
  refine lv_iload_n hx hb dX7_isFramed_39 rfl (lv_at hl 1 rfl) ?_
  refine lv_aload_n hx hb dX7_isFramed_40 rfl (lv_at hl 0 rfl) ?_
  refine va_get (D := D) (ci := 7) (v := .ref a_t_framed) (C := RX7) (T := TX7) (N := 10) hx hb hts uX7_isFramed_X7 hown hK.1.1 hP 0 rfl rfl 6 (by decide) (hts _ mX7_isFramed_20) (fun _ h9 => h9) rfl dX7_isFramed_41 ?_
  refine va_alen (v := nI 256) (ty := .int) hx hb hK.1.1 hP 3 0 rfl rfl rfl dX7_isFramed_44 ?_
  refine lv_iconst (v := 1) hx hb dX7_isFramed_45 (by decide) ?_
  refine lv_isub hx hb dX7_isFramed_46 ?_
  refine lv_iand hx hb dX7_isFramed_47 ?_
  obtain ⟨hg_6, hf⟩ := hb_g hf
  refine va_iald hx hb hK.1.1 hP 3 0 rfl rfl (ixb_in hg_6) dX7_isFramed_48 ?_
  refine lv_iconst (v := 1) hx hb dX7_isFramed_49 (by decide) ?_
  refine lv_icmp_ne (tgt := 57) hx hb dX7_isFramed_50 (by decide) (fun c_7 => ?_) (fun c_7 => ?_)
  · have hf := hb_f hf c_7
    refine lv_iconst (v := 0) hx hb dX7_isFramed_57 (by decide) ?_
    have hf := Option.some.inj hf
    subst hf
    exact hret _ _ _ _ dX7_isFramed_58 rfl hP hS
  · have hf := hb_t hf c_7
    refine lv_iconst (v := 1) hx hb dX7_isFramed_53 (by decide) ?_
    refine lv_goto (tgt := 58) hx hb dX7_isFramed_54 (by decide) ?_
    have hf := Option.some.inj hf
    subst hf
    exact hret _ _ _ _ dX7_isFramed_58 rfl hP hS
theorem mX7_weigh_32 : Cond.fieldLink RX7 32 "OneWordLetters$Tongue" "length" "I" ∈ wsX7_weigh := by decide +kernel
theorem uX7_weigh_X7 : ∀ w ∈ wsX70, w ∈ wsX7_weigh := fun _ h => List.mem_cons_of_mem _ (List.mem_append_right _ h)
theorem mX7_weigh_9 : Cond.fieldLink RX7 9 "OneWordLetters$Tongue" "kinds" "[I" ∈ wsX7_weigh := by decide +kernel
abbrev rmX7_weigh : Room := { frames := 1, cells := 0, slots := 0, locals := 22 }
set_option maxRecDepth 100000 in
set_option maxHeartbeats 4000000 in
theorem L_X7_weigh_17 {p : Program} {e : Env} {s : State} {m : MethodId} {args : Array Value} {below : List Frame} {meth : Method} {c : Code} {Q : State → Prop} {A : Nat → Prop} (l : Launch) (D : va_G) (cy : Nat → ClassId) (a_t : Nat) (a_p2 : Nat) (a_p3 : Nat) (a_t_scales : Nat) (a_t_kinds : Nat) (o_t_frames : Value) (o_t_pairs : Value) (o_t_worths : Value) (o_t_framed : Value) (o_t_paired : Value) (o_t_pairWorths : Value) (i_t_length : Int32) (i_t_words : Int32) (n_p2 : Nat) (f_p2 : Nat → Int32) (n_p3 : Nat) (f_p3 : Nat → Int32) (f_t_scales : Nat → Int32) (f_t_kinds : Nat → Int32) (rv : Int32) (C0 : CX p s m args meth c cX7_weigh 8 (some .int) wsX7_weigh RX7) (hA : ∀ q, s.heap.size ≤ q → A q) (hK : KZ D cy A s) (hret : ∀ (H : Heap) (locs : List Loc) (ls : Array Slot) (pc : Nat), decode cX7_weigh pc = .ok (.ireturn, 1) → narrow .int (.int rv) = .int rv → va_P D vwCl [(a_t, .inr (7, [.int i_t_length, .int i_t_words, o_t_frames, o_t_pairs, .ref a_t_kinds, o_t_worths, o_t_framed, o_t_paired, o_t_pairWorths, .ref a_t_scales])), (a_p2, .inl (cy 0, n_p2, .inl f_p2)), (a_p3, .inl (cy 0, n_p3, .inl f_p3)), (a_t_scales, .inl (cy 0, 5, .inl f_t_scales)), (a_t_kinds, .inl (cy 0, 8, .inl f_t_kinds))] H → va_S A s.heap H locs → W p l e rmX7_weigh s m args below meth c H locs 0 0 Q (F0 m pc ls [.int rv])) : ∀ (n : Nat) (v1 : Int32) (v4 : Int32) (v5 : Int32) (v6 : Int32), f_X7_weigh_L17 i_t_length i_t_words n_p2 f_p2 n_p3 f_p3 f_t_scales f_t_kinds n v1 v4 v5 v6 = some rv → ∀ (H : Heap) (locs : List Loc), va_P D vwCl [(a_t, .inr (7, [.int i_t_length, .int i_t_words, o_t_frames, o_t_pairs, .ref a_t_kinds, o_t_worths, o_t_framed, o_t_paired, o_t_pairWorths, .ref a_t_scales])), (a_p2, .inl (cy 0, n_p2, .inl f_p2)), (a_p3, .inl (cy 0, n_p3, .inl f_p3)), (a_t_scales, .inl (cy 0, 5, .inl f_t_scales)), (a_t_kinds, .inl (cy 0, 8, .inl f_t_kinds))] H → va_D A [(a_t, .inr (7, [.int i_t_length, .int i_t_words, o_t_frames, o_t_pairs, .ref a_t_kinds, o_t_worths, o_t_framed, o_t_paired, o_t_pairWorths, .ref a_t_scales])), (a_p2, .inl (cy 0, n_p2, .inl f_p2)), (a_p3, .inl (cy 0, n_p3, .inl f_p3)), (a_t_scales, .inl (cy 0, 5, .inl f_t_scales)), (a_t_kinds, .inl (cy 0, 8, .inl f_t_kinds))] → va_S A s.heap H locs → ∀ ls : Array Slot, lv_has ls 8 [(0, .ref a_t), (1, .int v1), (2, .ref a_p2), (3, .ref a_p3), (4, .int v4), (5, .int v5), (6, .int v6)] → W p l e rmX7_weigh s m args below meth c H locs 0 0 Q (F0 m 17 ls []) := by
  obtain ⟨hx, hb, hr, hml, hown, hts, hlocks⟩ := id C0
  intro n
  induction n with
  | zero => intro _ _ _ _ hf; rw [f_X7_weigh_L17.eq_1] at hf; cases hf
  | succ n ih =>
    intro v1 v4 v5 v6 hf H locs hP hD hS ls hl
    rw [f_X7_weigh_L17.eq_2] at hf
    refine lv_iload hx hb dX7_weigh_17 (lv_at hl 6 rfl) ?_
    refine lv_aload_n hx hb dX7_weigh_19 rfl (lv_at hl 0 rfl) ?_
    refine va_get (D := D) (ci := 7) (v := .int i_t_length) (C := RX7) (T := TX7) (N := 10) hx hb hts uX7_weigh_X7 hown hK.1.1 hP 0 rfl rfl 0 (by decide) (hts _ mX7_weigh_32) (fun _ h9 => h9) rfl dX7_weigh_20 ?_
    refine lv_icmp_ge (tgt := 87) hx hb dX7_weigh_23 (by decide) (fun c_4 => ?_) (fun c_4 => ?_)
    · have hf := hb_t hf c_4
      refine lv_iload hx hb dX7_weigh_87 (lv_at hl 5 rfl) ?_
      have hf := Option.some.inj hf
      subst hf
      exact hret _ _ _ _ dX7_weigh_89 rfl hP hS
    · have hf := hb_f hf c_4
      refine lv_aload_n hx hb dX7_weigh_26 rfl (lv_at hl 0 rfl) ?_
      refine lv_iload_n hx hb dX7_weigh_27 rfl (lv_at hl 1 rfl) ?_
      refine lv_iload hx hb dX7_weigh_28 (lv_at hl 6 rfl) ?_
      obtain ⟨r_5, hc_6, hf⟩ := hb_b hf
      refine cl_Vi (rest := []) [0, 3] [some 0, none, none, some 1, none] 5 0 C0 hK hP hD hS hA (c_X7_wordAt l D cy a_t a_t_scales o_t_frames o_t_pairs (.ref a_t_kinds) o_t_worths o_t_framed o_t_paired o_t_pairWorths i_t_length i_t_words f_t_scales v1 v6 r_5 hc_6) (cwV 2 hts gX7_weigh_X7_wordAt rfl rfl rfl (by decide +kernel) ⟨Nat.le_of_ble_eq_true rfl, Nat.le_of_ble_eq_true rfl⟩) rfl (by decide) rfl rfl rfl rfl rfl rfl rfl hl.1 rfl (Nat.le_of_ble_eq_true rfl) dX7_weigh_30 ⟨Nat.zero_le _, Nat.zero_le _⟩ (fun H locs hP hD hS => ?_)
      have hP : va_P D vwCl [(a_t, .inr (7, [.int i_t_length, .int i_t_words, o_t_frames, o_t_pairs, .ref a_t_kinds, o_t_worths, o_t_framed, o_t_paired, o_t_pairWorths, .ref a_t_scales])), (a_p2, .inl (cy 0, n_p2, .inl f_p2)), (a_p3, .inl (cy 0, n_p3, .inl f_p3)), (a_t_scales, .inl (cy 0, 5, .inl f_t_scales)), (a_t_kinds, .inl (cy 0, 8, .inl f_t_kinds))] H := hP
      have hD : va_D A [(a_t, .inr (7, [.int i_t_length, .int i_t_words, o_t_frames, o_t_pairs, .ref a_t_kinds, o_t_worths, o_t_framed, o_t_paired, o_t_pairWorths, .ref a_t_scales])), (a_p2, .inl (cy 0, n_p2, .inl f_p2)), (a_p3, .inl (cy 0, n_p3, .inl f_p3)), (a_t_scales, .inl (cy 0, 5, .inl f_t_scales)), (a_t_kinds, .inl (cy 0, 8, .inl f_t_kinds))] := hD
      refine lv_istore (lv' := [(7, .int r_5), (0, .ref a_t), (1, .int v1), (2, .ref a_p2), (3, .ref a_p3), (4, .int v4), (5, .int v5), (6, .int v6)]) hx hb dX7_weigh_33 hl (by decide) rfl (fun ls hl => ?_)
      refine lv_iload hx hb dX7_weigh_35 (lv_at hl 6 rfl) ?_
      refine lv_aload_n hx hb dX7_weigh_37 rfl (lv_at hl 1 rfl) ?_
      refine va_get (D := D) (ci := 7) (v := .ref a_t_kinds) (C := RX7) (T := TX7) (N := 10) hx hb hts uX7_weigh_X7 hown hK.1.1 hP 0 rfl rfl 4 (by decide) (hts _ mX7_weigh_9) (fun _ h9 => h9) rfl dX7_weigh_38 ?_
      refine lv_iload hx hb dX7_weigh_41 (lv_at hl 5 rfl) ?_
      obtain ⟨hg_7, hf⟩ := hb_g hf
      refine va_iald hx hb hK.1.1 hP 4 0 rfl rfl (ixb_in hg_7) dX7_weigh_43 ?_
      refine lv_iconst (v := 3) hx hb dX7_weigh_44 (by decide) ?_
      refine lv_icmp_ne (tgt := 56) hx hb dX7_weigh_45 (by decide) (fun c_8 => ?_) (fun c_8 => ?_)
      · have hf := hb_f hf c_8
        refine lv_aload_n hx hb dX7_weigh_56 rfl (lv_at hl 3 rfl) ?_
        refine lv_iload hx hb dX7_weigh_57 (lv_at hl 0 rfl) ?_
        obtain ⟨hg_9, hf⟩ := hb_g hf
        refine va_iald hx hb hK.1.1 hP 1 0 rfl rfl (ixb_in hg_9) dX7_weigh_59 ?_
        refine lv_iadd hx hb dX7_weigh_60 ?_
        refine lv_istore (lv' := [(5, .int (v5 + (f_p2 (r_5 : Int32).toNatClampNeg))), (7, .int r_5), (0, .ref a_t), (1, .int v1), (2, .ref a_p2), (3, .ref a_p3), (4, .int v4), (6, .int v6)]) hx hb dX7_weigh_61 hl (by decide) rfl (fun ls hl => ?_)
        refine lv_iload hx hb dX7_weigh_63 (lv_at hl 0 rfl) ?_
        refine lv_aload_n hx hb dX7_weigh_65 rfl (lv_at hl 5 rfl) ?_
        refine lv_iload hx hb dX7_weigh_66 (lv_at hl 6 rfl) ?_
        refine lv_iload hx hb dX7_weigh_68 (lv_at hl 1 rfl) ?_
        obtain ⟨r_10, hc_11, hf⟩ := hb_b hf
        refine cl_Si (rest := [.ref a_p3, .int (v5 + (f_p2 (r_5 : Int32).toNatClampNeg))]) [] [none, none, none, none, none] 5 C0 hK hP hD hS hA (c_X7_spotOf l D cy v4 r_5 r_10 hc_11) (va_cwS 2 hts gX7_weigh_X7_spotOf rfl rfl rfl (by decide +kernel) ⟨Nat.le_of_ble_eq_true rfl, Nat.le_of_ble_eq_true rfl⟩) rfl (by decide) rfl rfl rfl rfl hl.1 rfl (Nat.le_of_ble_eq_true rfl) dX7_weigh_70 ⟨Nat.zero_le _, Nat.zero_le _⟩ (fun H locs hP hD hS => ?_)
        have hP : va_P D vwCl [(a_t, .inr (7, [.int i_t_length, .int i_t_words, o_t_frames, o_t_pairs, .ref a_t_kinds, o_t_worths, o_t_framed, o_t_paired, o_t_pairWorths, .ref a_t_scales])), (a_p2, .inl (cy 0, n_p2, .inl f_p2)), (a_p3, .inl (cy 0, n_p3, .inl f_p3)), (a_t_scales, .inl (cy 0, 5, .inl f_t_scales)), (a_t_kinds, .inl (cy 0, 8, .inl f_t_kinds))] H := hP
        have hD : va_D A [(a_t, .inr (7, [.int i_t_length, .int i_t_words, o_t_frames, o_t_pairs, .ref a_t_kinds, o_t_worths, o_t_framed, o_t_paired, o_t_pairWorths, .ref a_t_scales])), (a_p2, .inl (cy 0, n_p2, .inl f_p2)), (a_p3, .inl (cy 0, n_p3, .inl f_p3)), (a_t_scales, .inl (cy 0, 5, .inl f_t_scales)), (a_t_kinds, .inl (cy 0, 8, .inl f_t_kinds))] := hD
        obtain ⟨hg_12, hf⟩ := hb_g hf
        refine va_iald hx hb hK.1.1 hP 2 0 rfl rfl (ixb_in hg_12) dX7_weigh_73 ?_
        refine lv_iadd hx hb dX7_weigh_74 ?_
        refine lv_istore (lv' := [(5, .int ((v5 + (f_p2 (r_5 : Int32).toNatClampNeg)) + (f_p3 (r_10 : Int32).toNatClampNeg))), (7, .int r_5), (0, .ref a_t), (1, .int v1), (2, .ref a_p2), (3, .ref a_p3), (4, .int v4), (6, .int v6)]) hx hb dX7_weigh_75 hl (by decide) rfl (fun ls hl => ?_)
        refine lv_iload hx hb dX7_weigh_77 (lv_at hl 1 rfl) ?_
        refine lv_istore (lv' := [(4, .int r_5), (5, .int ((v5 + (f_p2 (r_5 : Int32).toNatClampNeg)) + (f_p3 (r_10 : Int32).toNatClampNeg))), (7, .int r_5), (0, .ref a_t), (1, .int v1), (2, .ref a_p2), (3, .ref a_p3), (6, .int v6)]) hx hb dX7_weigh_79 hl (by decide) rfl (fun ls hl => ?_)
        refine lv_iinc (v := (v6 + 1)) (lv' := [(6, .int (v6 + 1)), (4, .int r_5), (5, .int ((v5 + (f_p2 (r_5 : Int32).toNatClampNeg)) + (f_p3 (r_10 : Int32).toNatClampNeg))), (7, .int r_5), (0, .ref a_t), (1, .int v1), (2, .ref a_p2), (3, .ref a_p3)]) hx hb dX7_weigh_81 hl (k := 7) rfl rfl (by decide) rfl (fun ls hl => ?_)
        refine lv_goto (tgt := 17) hx hb dX7_weigh_84 (by decide) ?_
        exact ih v1 r_5 ((v5 + (f_p2 (r_5 : Int32).toNatClampNeg)) + (f_p3 (r_10 : Int32).toNatClampNeg)) (v6 + 1) hf _ _ hP hD hS _ (lv_sub hl [4, 5, 6, 7, 1, 2, 0] rfl)
      · have hf := hb_t hf c_8
        refine lv_aload_n hx hb dX7_weigh_48 rfl (lv_at hl 3 rfl) ?_
        refine lv_iload hx hb dX7_weigh_49 (lv_at hl 0 rfl) ?_
        obtain ⟨hg_13, hf⟩ := hb_g hf
        refine va_iald hx hb hK.1.1 hP 1 0 rfl rfl (ixb_in hg_13) dX7_weigh_51 ?_
        refine lv_ineg hx hb dX7_weigh_52 ?_
        refine lv_goto (tgt := 60) hx hb dX7_weigh_53 (by decide) ?_
        refine lv_iadd hx hb dX7_weigh_60 ?_
        refine lv_istore (lv' := [(5, .int (v5 + (-(f_p2 (r_5 : Int32).toNatClampNeg)))), (7, .int r_5), (0, .ref a_t), (1, .int v1), (2, .ref a_p2), (3, .ref a_p3), (4, .int v4), (6, .int v6)]) hx hb dX7_weigh_61 hl (by decide) rfl (fun ls hl => ?_)
        refine lv_iload hx hb dX7_weigh_63 (lv_at hl 0 rfl) ?_
        refine lv_aload_n hx hb dX7_weigh_65 rfl (lv_at hl 5 rfl) ?_
        refine lv_iload hx hb dX7_weigh_66 (lv_at hl 6 rfl) ?_
        refine lv_iload hx hb dX7_weigh_68 (lv_at hl 1 rfl) ?_
        obtain ⟨r_14, hc_15, hf⟩ := hb_b hf
        refine cl_Si (rest := [.ref a_p3, .int (v5 + (-(f_p2 (r_5 : Int32).toNatClampNeg)))]) [] [none, none, none, none, none] 5 C0 hK hP hD hS hA (c_X7_spotOf l D cy v4 r_5 r_14 hc_15) (va_cwS 2 hts gX7_weigh_X7_spotOf rfl rfl rfl (by decide +kernel) ⟨Nat.le_of_ble_eq_true rfl, Nat.le_of_ble_eq_true rfl⟩) rfl (by decide) rfl rfl rfl rfl hl.1 rfl (Nat.le_of_ble_eq_true rfl) dX7_weigh_70 ⟨Nat.zero_le _, Nat.zero_le _⟩ (fun H locs hP hD hS => ?_)
        have hP : va_P D vwCl [(a_t, .inr (7, [.int i_t_length, .int i_t_words, o_t_frames, o_t_pairs, .ref a_t_kinds, o_t_worths, o_t_framed, o_t_paired, o_t_pairWorths, .ref a_t_scales])), (a_p2, .inl (cy 0, n_p2, .inl f_p2)), (a_p3, .inl (cy 0, n_p3, .inl f_p3)), (a_t_scales, .inl (cy 0, 5, .inl f_t_scales)), (a_t_kinds, .inl (cy 0, 8, .inl f_t_kinds))] H := hP
        have hD : va_D A [(a_t, .inr (7, [.int i_t_length, .int i_t_words, o_t_frames, o_t_pairs, .ref a_t_kinds, o_t_worths, o_t_framed, o_t_paired, o_t_pairWorths, .ref a_t_scales])), (a_p2, .inl (cy 0, n_p2, .inl f_p2)), (a_p3, .inl (cy 0, n_p3, .inl f_p3)), (a_t_scales, .inl (cy 0, 5, .inl f_t_scales)), (a_t_kinds, .inl (cy 0, 8, .inl f_t_kinds))] := hD
        obtain ⟨hg_16, hf⟩ := hb_g hf
        refine va_iald hx hb hK.1.1 hP 2 0 rfl rfl (ixb_in hg_16) dX7_weigh_73 ?_
        refine lv_iadd hx hb dX7_weigh_74 ?_
        refine lv_istore (lv' := [(5, .int ((v5 + (-(f_p2 (r_5 : Int32).toNatClampNeg))) + (f_p3 (r_14 : Int32).toNatClampNeg))), (7, .int r_5), (0, .ref a_t), (1, .int v1), (2, .ref a_p2), (3, .ref a_p3), (4, .int v4), (6, .int v6)]) hx hb dX7_weigh_75 hl (by decide) rfl (fun ls hl => ?_)
        refine lv_iload hx hb dX7_weigh_77 (lv_at hl 1 rfl) ?_
        refine lv_istore (lv' := [(4, .int r_5), (5, .int ((v5 + (-(f_p2 (r_5 : Int32).toNatClampNeg))) + (f_p3 (r_14 : Int32).toNatClampNeg))), (7, .int r_5), (0, .ref a_t), (1, .int v1), (2, .ref a_p2), (3, .ref a_p3), (6, .int v6)]) hx hb dX7_weigh_79 hl (by decide) rfl (fun ls hl => ?_)
        refine lv_iinc (v := (v6 + 1)) (lv' := [(6, .int (v6 + 1)), (4, .int r_5), (5, .int ((v5 + (-(f_p2 (r_5 : Int32).toNatClampNeg))) + (f_p3 (r_14 : Int32).toNatClampNeg))), (7, .int r_5), (0, .ref a_t), (1, .int v1), (2, .ref a_p2), (3, .ref a_p3)]) hx hb dX7_weigh_81 hl (k := 7) rfl rfl (by decide) rfl (fun ls hl => ?_)
        refine lv_goto (tgt := 17) hx hb dX7_weigh_84 (by decide) ?_
        exact ih v1 r_5 ((v5 + (-(f_p2 (r_5 : Int32).toNatClampNeg))) + (f_p3 (r_14 : Int32).toNatClampNeg)) (v6 + 1) hf _ _ hP hD hS _ (lv_sub hl [4, 5, 6, 7, 1, 2, 0] rfl)
set_option maxRecDepth 100000 in
set_option maxHeartbeats 4000000 in
theorem c_X7_weigh (l : Launch) (D : va_G) (cy : Nat → ClassId) (a_t : Nat) (a_p2 : Nat) (a_p3 : Nat) (a_t_scales : Nat) (a_t_kinds : Nat) (o_t_frames : Value) (o_t_pairs : Value) (o_t_worths : Value) (o_t_framed : Value) (o_t_paired : Value) (o_t_pairWorths : Value) (i_t_length : Int32) (i_t_words : Int32) (n_p2 : Nat) (f_p2 : Nat → Int32) (n_p3 : Nat) (f_p3 : Nat → Int32) (f_t_scales : Nat → Int32) (f_t_kinds : Nat → Int32) (p1 : Int32) (rv : Int32) (hf : f_X7_weigh i_t_length i_t_words n_p2 f_p2 n_p3 f_p3 f_t_scales f_t_kinds p1 = some rv) : MI l D cy yX7_weigh wsX7_weigh rmX7_weigh [.ref a_t, .int p1, .ref a_p2, .ref a_p3] [(a_t, .inr (7, [.int i_t_length, .int i_t_words, o_t_frames, o_t_pairs, .ref a_t_kinds, o_t_worths, o_t_framed, o_t_paired, o_t_pairWorths, .ref a_t_scales])), (a_p2, .inl (cy 0, n_p2, .inl f_p2)), (a_p3, .inl (cy 0, n_p3, .inl f_p3)), (a_t_scales, .inl (cy 0, 5, .inl f_t_scales)), (a_t_kinds, .inl (cy 0, 8, .inl f_t_kinds))] [(a_t, .inr (7, [.int i_t_length, .int i_t_words, o_t_frames, o_t_pairs, .ref a_t_kinds, o_t_worths, o_t_framed, o_t_paired, o_t_pairWorths, .ref a_t_scales])), (a_p2, .inl (cy 0, n_p2, .inl f_p2)), (a_p3, .inl (cy 0, n_p3, .inl f_p3)), (a_t_scales, .inl (cy 0, 5, .inl f_t_scales)), (a_t_kinds, .inl (cy 0, 8, .inl f_t_kinds))] rv := by
  refine st_I (by decide) rfl (Nat.le_of_ble_eq_true rfl) (fun p e s m below meth c A Q ls C0 hA hK hP hD hS hl hret => ?_)
  obtain ⟨hx, hb, hr, hml, hown, hts, hlocks⟩ := id C0
  have hl : lv_has ls 8 [(0, .ref a_t), (1, .int p1), (2, .ref a_p2), (3, .ref a_p3)] := hl
  unfold f_X7_weigh at hf
  refine lv_aload_n hx hb dX7_weigh_0 rfl (lv_at hl 0 rfl) ?_
  refine lv_iload_n hx hb dX7_weigh_1 rfl (lv_at hl 1 rfl) ?_
  refine lv_iconst (v := 0) hx hb dX7_weigh_2 (by decide) ?_
  obtain ⟨r_1, hc_2, hf⟩ := hb_b hf
  refine cl_Vi (rest := []) [0, 3] [some 0, none, none, some 1, none] 5 0 C0 hK hP hD hS hA (c_X7_wordAt l D cy a_t a_t_scales o_t_frames o_t_pairs (.ref a_t_kinds) o_t_worths o_t_framed o_t_paired o_t_pairWorths i_t_length i_t_words f_t_scales p1 0 r_1 hc_2) (cwV 2 hts gX7_weigh_X7_wordAt rfl rfl rfl (by decide +kernel) ⟨Nat.le_of_ble_eq_true rfl, Nat.le_of_ble_eq_true rfl⟩) rfl (by decide) rfl rfl rfl rfl rfl rfl rfl hl.1 rfl (Nat.le_of_ble_eq_true rfl) dX7_weigh_3 ⟨Nat.zero_le _, Nat.zero_le _⟩ (fun H locs hP hD hS => ?_)
  have hP : va_P D vwCl [(a_t, .inr (7, [.int i_t_length, .int i_t_words, o_t_frames, o_t_pairs, .ref a_t_kinds, o_t_worths, o_t_framed, o_t_paired, o_t_pairWorths, .ref a_t_scales])), (a_p2, .inl (cy 0, n_p2, .inl f_p2)), (a_p3, .inl (cy 0, n_p3, .inl f_p3)), (a_t_scales, .inl (cy 0, 5, .inl f_t_scales)), (a_t_kinds, .inl (cy 0, 8, .inl f_t_kinds))] H := hP
  have hD : va_D A [(a_t, .inr (7, [.int i_t_length, .int i_t_words, o_t_frames, o_t_pairs, .ref a_t_kinds, o_t_worths, o_t_framed, o_t_paired, o_t_pairWorths, .ref a_t_scales])), (a_p2, .inl (cy 0, n_p2, .inl f_p2)), (a_p3, .inl (cy 0, n_p3, .inl f_p3)), (a_t_scales, .inl (cy 0, 5, .inl f_t_scales)), (a_t_kinds, .inl (cy 0, 8, .inl f_t_kinds))] := hD
  refine lv_istore (lv' := [(4, .int r_1), (0, .ref a_t), (1, .int p1), (2, .ref a_p2), (3, .ref a_p3)]) hx hb dX7_weigh_6 hl (by decide) rfl (fun ls hl => ?_)
  refine lv_aload_n hx hb dX7_weigh_8 rfl (lv_at hl 3 rfl) ?_
  refine lv_iload hx hb dX7_weigh_9 (lv_at hl 0 rfl) ?_
  obtain ⟨hg_3, hf⟩ := hb_g hf
  refine va_iald hx hb hK.1.1 hP 1 0 rfl rfl (ixb_in hg_3) dX7_weigh_11 ?_
  refine lv_istore (lv' := [(5, .int (f_p2 (r_1 : Int32).toNatClampNeg)), (4, .int r_1), (0, .ref a_t), (1, .int p1), (2, .ref a_p2), (3, .ref a_p3)]) hx hb dX7_weigh_12 hl (by decide) rfl (fun ls hl => ?_)
  refine lv_iconst (v := 1) hx hb dX7_weigh_14 (by decide) ?_
  refine lv_istore (lv' := [(6, .int 1), (5, .int (f_p2 (r_1 : Int32).toNatClampNeg)), (4, .int r_1), (0, .ref a_t), (1, .int p1), (2, .ref a_p2), (3, .ref a_p3)]) hx hb dX7_weigh_15 hl (by decide) rfl (fun ls hl => ?_)
  refine L_X7_weigh_17 l D cy a_t a_p2 a_p3 a_t_scales a_t_kinds o_t_frames o_t_pairs o_t_worths o_t_framed o_t_paired o_t_pairWorths i_t_length i_t_words n_p2 f_p2 n_p3 f_p3 f_t_scales f_t_kinds rv C0 hA hK hret  FU p1 r_1 (f_p2 (r_1 : Int32).toNatClampNeg) 1 hf _ _ hP hD hS _ (lv_sub hl [3, 4, 5, 6, 2, 1, 0] rfl)
theorem mX7_wordsApart_32 : Cond.fieldLink RX7 32 "OneWordLetters$Tongue" "length" "I" ∈ wsX7_wordsApart := by decide +kernel
theorem uX7_wordsApart_X7 : ∀ w ∈ wsX70, w ∈ wsX7_wordsApart := fun _ h => List.mem_cons_of_mem _ (List.mem_append_right _ h)
abbrev rmX7_wordsApart : Room := { frames := 1, cells := 0, slots := 0, locals := 22 }
set_option maxRecDepth 100000 in
set_option maxHeartbeats 4000000 in
theorem L_X7_wordsApart_5 {p : Program} {e : Env} {s : State} {m : MethodId} {args : Array Value} {below : List Frame} {meth : Method} {c : Code} {Q : State → Prop} {A : Nat → Prop} (l : Launch) (D : va_G) (cy : Nat → ClassId) (a_t : Nat) (a_t_scales : Nat) (o_t_frames : Value) (o_t_pairs : Value) (o_t_kinds : Value) (o_t_worths : Value) (o_t_framed : Value) (o_t_paired : Value) (o_t_pairWorths : Value) (i_t_length : Int32) (i_t_words : Int32) (f_t_scales : Nat → Int32) (rv : Int32) (C0 : CX p s m args meth c cX7_wordsApart 5 (some .int) wsX7_wordsApart RX7) (hA : ∀ q, s.heap.size ≤ q → A q) (hK : KZ D cy A s) (hret : ∀ (H : Heap) (locs : List Loc) (ls : Array Slot) (pc : Nat), decode cX7_wordsApart pc = .ok (.ireturn, 1) → narrow .int (.int rv) = .int rv → va_P D vwCl [(a_t, .inr (7, [.int i_t_length, .int i_t_words, o_t_frames, o_t_pairs, o_t_kinds, o_t_worths, o_t_framed, o_t_paired, o_t_pairWorths, .ref a_t_scales])), (a_t_scales, .inl (cy 0, 5, .inl f_t_scales))] H → va_S A s.heap H locs → W p l e rmX7_wordsApart s m args below meth c H locs 0 0 Q (F0 m pc ls [.int rv])) : ∀ (n : Nat) (v1 : Int32) (v2 : Int32) (v3 : Int32) (v4 : Int32), f_X7_wordsApart_L5 i_t_length i_t_words f_t_scales n v1 v2 v3 v4 = some rv → ∀ (H : Heap) (locs : List Loc), va_P D vwCl [(a_t, .inr (7, [.int i_t_length, .int i_t_words, o_t_frames, o_t_pairs, o_t_kinds, o_t_worths, o_t_framed, o_t_paired, o_t_pairWorths, .ref a_t_scales])), (a_t_scales, .inl (cy 0, 5, .inl f_t_scales))] H → va_D A [(a_t, .inr (7, [.int i_t_length, .int i_t_words, o_t_frames, o_t_pairs, o_t_kinds, o_t_worths, o_t_framed, o_t_paired, o_t_pairWorths, .ref a_t_scales])), (a_t_scales, .inl (cy 0, 5, .inl f_t_scales))] → va_S A s.heap H locs → ∀ ls : Array Slot, lv_has ls 5 [(0, .ref a_t), (1, .int v1), (2, .int v2), (3, .int v3), (4, .int v4)] → W p l e rmX7_wordsApart s m args below meth c H locs 0 0 Q (F0 m 5 ls []) := by
  obtain ⟨hx, hb, hr, hml, hown, hts, hlocks⟩ := id C0
  intro n
  induction n with
  | zero => intro _ _ _ _ hf; rw [f_X7_wordsApart_L5.eq_1] at hf; cases hf
  | succ n ih =>
    intro v1 v2 v3 v4 hf H locs hP hD hS ls hl
    rw [f_X7_wordsApart_L5.eq_2] at hf
    refine lv_iload hx hb dX7_wordsApart_5 (lv_at hl 4 rfl) ?_
    refine lv_aload_n hx hb dX7_wordsApart_7 rfl (lv_at hl 0 rfl) ?_
    refine va_get (D := D) (ci := 7) (v := .int i_t_length) (C := RX7) (T := TX7) (N := 10) hx hb hts uX7_wordsApart_X7 hown hK.1.1 hP 0 rfl rfl 0 (by decide) (hts _ mX7_wordsApart_32) (fun _ h9 => h9) rfl dX7_wordsApart_8 ?_
    refine lv_icmp_ge (tgt := 40) hx hb dX7_wordsApart_11 (by decide) (fun c_1 => ?_) (fun c_1 => ?_)
    · have hf := hb_t hf c_1
      refine lv_iload_n hx hb dX7_wordsApart_40 rfl (lv_at hl 3 rfl) ?_
      have hf := Option.some.inj hf
      subst hf
      exact hret _ _ _ _ dX7_wordsApart_41 rfl hP hS
    · have hf := hb_f hf c_1
      refine lv_aload_n hx hb dX7_wordsApart_14 rfl (lv_at hl 0 rfl) ?_
      refine lv_iload_n hx hb dX7_wordsApart_15 rfl (lv_at hl 1 rfl) ?_
      refine lv_iload hx hb dX7_wordsApart_16 (lv_at hl 4 rfl) ?_
      obtain ⟨r_2, hc_3, hf⟩ := hb_b hf
      refine cl_Vi (rest := []) [0, 1] [some 0, some 1] 2 0 C0 hK hP hD hS hA (c_X7_wordAt l D cy a_t a_t_scales o_t_frames o_t_pairs o_t_kinds o_t_worths o_t_framed o_t_paired o_t_pairWorths i_t_length i_t_words f_t_scales v1 v4 r_2 hc_3) (cwV 2 hts gX7_wordsApart_X7_wordAt rfl rfl rfl (by decide +kernel) ⟨Nat.le_of_ble_eq_true rfl, Nat.le_of_ble_eq_true rfl⟩) rfl (by decide) rfl rfl rfl rfl rfl rfl rfl hl.1 rfl (Nat.le_of_ble_eq_true rfl) dX7_wordsApart_18 ⟨Nat.zero_le _, Nat.zero_le _⟩ (fun H locs hP hD hS => ?_)
      have hP : va_P D vwCl [(a_t, .inr (7, [.int i_t_length, .int i_t_words, o_t_frames, o_t_pairs, o_t_kinds, o_t_worths, o_t_framed, o_t_paired, o_t_pairWorths, .ref a_t_scales])), (a_t_scales, .inl (cy 0, 5, .inl f_t_scales))] H := hP
      have hD : va_D A [(a_t, .inr (7, [.int i_t_length, .int i_t_words, o_t_frames, o_t_pairs, o_t_kinds, o_t_worths, o_t_framed, o_t_paired, o_t_pairWorths, .ref a_t_scales])), (a_t_scales, .inl (cy 0, 5, .inl f_t_scales))] := hD
      refine lv_aload_n hx hb dX7_wordsApart_21 rfl (lv_at hl 0 rfl) ?_
      refine lv_iload_n hx hb dX7_wordsApart_22 rfl (lv_at hl 2 rfl) ?_
      refine lv_iload hx hb dX7_wordsApart_23 (lv_at hl 4 rfl) ?_
      obtain ⟨r_4, hc_5, hf⟩ := hb_b hf
      refine cl_Vi (rest := [.int r_2]) [0, 1] [some 0, some 1] 2 0 C0 hK hP hD hS hA (c_X7_wordAt l D cy a_t a_t_scales o_t_frames o_t_pairs o_t_kinds o_t_worths o_t_framed o_t_paired o_t_pairWorths i_t_length i_t_words f_t_scales v2 v4 r_4 hc_5) (cwV 2 hts gX7_wordsApart_X7_wordAt rfl rfl rfl (by decide +kernel) ⟨Nat.le_of_ble_eq_true rfl, Nat.le_of_ble_eq_true rfl⟩) rfl (by decide) rfl rfl rfl rfl rfl rfl rfl hl.1 rfl (Nat.le_of_ble_eq_true rfl) dX7_wordsApart_25 ⟨Nat.zero_le _, Nat.zero_le _⟩ (fun H locs hP hD hS => ?_)
      have hP : va_P D vwCl [(a_t, .inr (7, [.int i_t_length, .int i_t_words, o_t_frames, o_t_pairs, o_t_kinds, o_t_worths, o_t_framed, o_t_paired, o_t_pairWorths, .ref a_t_scales])), (a_t_scales, .inl (cy 0, 5, .inl f_t_scales))] H := hP
      have hD : va_D A [(a_t, .inr (7, [.int i_t_length, .int i_t_words, o_t_frames, o_t_pairs, o_t_kinds, o_t_worths, o_t_framed, o_t_paired, o_t_pairWorths, .ref a_t_scales])), (a_t_scales, .inl (cy 0, 5, .inl f_t_scales))] := hD
      refine lv_icmp_eq (tgt := 34) hx hb dX7_wordsApart_28 (by decide) (fun c_6 => ?_) (fun c_6 => ?_)
      · have hf := hb_t hf c_6
        refine lv_iinc (v := (v4 + 1)) (lv' := [(4, .int (v4 + 1)), (0, .ref a_t), (1, .int v1), (2, .int v2), (3, .int v3)]) hx hb dX7_wordsApart_34 hl (k := 4) rfl rfl (by decide) rfl (fun ls hl => ?_)
        refine lv_goto (tgt := 5) hx hb dX7_wordsApart_37 (by decide) ?_
        exact ih v1 v2 v3 (v4 + 1) hf _ _ hP hD hS _ (lv_sub hl [1, 2, 3, 4, 0] rfl)
      · have hf := hb_f hf c_6
        refine lv_iinc (v := (v3 + 1)) (lv' := [(3, .int (v3 + 1)), (0, .ref a_t), (1, .int v1), (2, .int v2), (4, .int v4)]) hx hb dX7_wordsApart_31 hl (k := 3) rfl rfl (by decide) rfl (fun ls hl => ?_)
        refine lv_iinc (v := (v4 + 1)) (lv' := [(4, .int (v4 + 1)), (3, .int (v3 + 1)), (0, .ref a_t), (1, .int v1), (2, .int v2)]) hx hb dX7_wordsApart_34 hl (k := 4) rfl rfl (by decide) rfl (fun ls hl => ?_)
        refine lv_goto (tgt := 5) hx hb dX7_wordsApart_37 (by decide) ?_
        exact ih v1 v2 (v3 + 1) (v4 + 1) hf _ _ hP hD hS _ (lv_sub hl [2, 3, 4, 1, 0] rfl)
set_option maxRecDepth 100000 in
set_option maxHeartbeats 4000000 in
theorem c_X7_wordsApart (l : Launch) (D : va_G) (cy : Nat → ClassId) (a_t : Nat) (a_t_scales : Nat) (o_t_frames : Value) (o_t_pairs : Value) (o_t_kinds : Value) (o_t_worths : Value) (o_t_framed : Value) (o_t_paired : Value) (o_t_pairWorths : Value) (i_t_length : Int32) (i_t_words : Int32) (f_t_scales : Nat → Int32) (p1 : Int32) (p2 : Int32) (rv : Int32) (hf : f_X7_wordsApart i_t_length i_t_words f_t_scales p1 p2 = some rv) : MI l D cy yX7_wordsApart wsX7_wordsApart rmX7_wordsApart [.ref a_t, .int p1, .int p2] [(a_t, .inr (7, [.int i_t_length, .int i_t_words, o_t_frames, o_t_pairs, o_t_kinds, o_t_worths, o_t_framed, o_t_paired, o_t_pairWorths, .ref a_t_scales])), (a_t_scales, .inl (cy 0, 5, .inl f_t_scales))] [(a_t, .inr (7, [.int i_t_length, .int i_t_words, o_t_frames, o_t_pairs, o_t_kinds, o_t_worths, o_t_framed, o_t_paired, o_t_pairWorths, .ref a_t_scales])), (a_t_scales, .inl (cy 0, 5, .inl f_t_scales))] rv := by
  refine st_I (by decide) rfl (Nat.le_of_ble_eq_true rfl) (fun p e s m below meth c A Q ls C0 hA hK hP hD hS hl hret => ?_)
  obtain ⟨hx, hb, hr, hml, hown, hts, hlocks⟩ := id C0
  have hl : lv_has ls 5 [(0, .ref a_t), (1, .int p1), (2, .int p2)] := hl
  unfold f_X7_wordsApart at hf
  refine lv_iconst (v := 0) hx hb dX7_wordsApart_0 (by decide) ?_
  refine lv_istore_n (lv' := [(3, .int 0), (0, .ref a_t), (1, .int p1), (2, .int p2)]) hx hb dX7_wordsApart_1 rfl hl (by decide) rfl (fun ls hl => ?_)
  refine lv_iconst (v := 0) hx hb dX7_wordsApart_2 (by decide) ?_
  refine lv_istore (lv' := [(4, .int 0), (3, .int 0), (0, .ref a_t), (1, .int p1), (2, .int p2)]) hx hb dX7_wordsApart_3 hl (by decide) rfl (fun ls hl => ?_)
  refine L_X7_wordsApart_5 l D cy a_t a_t_scales o_t_frames o_t_pairs o_t_kinds o_t_worths o_t_framed o_t_paired o_t_pairWorths i_t_length i_t_words f_t_scales rv C0 hA hK hret  FU p1 p2 0 0 hf _ _ hP hD hS _ (lv_sub hl [2, 3, 4, 1, 0] rfl)
