theorem mX6_empty_21 : Cond.fieldLink RX6 21 "OneWordLetters$Row" "count" "I" ∈ wsX6_empty := by decide +kernel
theorem uX6_empty_X6 : ∀ w ∈ wsX60, w ∈ wsX6_empty := fun _ h => List.mem_cons_of_mem _ (List.mem_append_right _ h)
abbrev rmX6_empty : Room := { frames := 0, cells := 0, slots := 0, locals := 0 }
def f_X6_empty (i_t_count : Int32) : Option (Int32) :=
  some 0
set_option maxRecDepth 100000 in
set_option maxHeartbeats 4000000 in
theorem c_X6_empty (l : Launch) (D : va_G) (cy : Nat → ClassId) (a_t : Nat) (o_t_letters : Value) (i_t_count : Int32) (z_i_t_count : Int32) (hf : f_X6_empty i_t_count = some z_i_t_count) : MV l D cy yX6_empty wsX6_empty rmX6_empty [.ref a_t] [(a_t, .inr (6, [o_t_letters, .int i_t_count]))] [(a_t, .inr (6, [o_t_letters, .int z_i_t_count]))] := by
  refine st_V (by decide) rfl (Nat.le_of_ble_eq_true rfl) (fun p e s m below meth c A Q ls C0 hA hK hP hD hS hl hret => ?_)
  obtain ⟨hx, hb, hr, hml, hown, hts, hlocks⟩ := id C0
  have hl : lv_has ls 1 [(0, .ref a_t)] := hl
  unfold f_X6_empty at hf
  refine lv_aload_n hx hb dX6_empty_0 rfl (lv_at hl 0 rfl) ?_
  refine lv_iconst (v := 0) hx hb dX6_empty_1 (by decide) ?_
  refine va_put (D := D) (ci := 6) (v := .int 0) (ty := .int) (C := RX6) (T := TX6) (N := 2) hx hb hts uX6_empty_X6 tyX6 tyX6_ok nmX6 hown hK.1.1 hP hD hS 0 rfl rfl 1 (by decide) (hts _ mX6_empty_21) (fun _ h9 => h9) rfl (by decide +kernel) rfl rfl (Nat.le_of_ble_eq_true rfl) dX6_empty_2 (fun H locs hP hD hS => ?_)
  have hP : va_P D vwCl [(a_t, .inr (6, [o_t_letters, .int 0]))] H := hP
  have hD : va_D A [(a_t, .inr (6, [o_t_letters, .int 0]))] := hD
  have hf : some 0 = some z_i_t_count := hf
  cases hf
  exact hret _ _ _ _ dX6_empty_5 hP hS
theorem mX6_add_21 : Cond.fieldLink RX6 21 "OneWordLetters$Row" "count" "I" ∈ wsX6_add := by decide +kernel
theorem uX6_add_X6 : ∀ w ∈ wsX60, w ∈ wsX6_add := fun _ h => List.mem_cons_of_mem _ (List.mem_append_right _ h)
theorem mX6_add_15 : Cond.fieldLink RX6 15 "OneWordLetters$Row" "letters" "[I" ∈ wsX6_add := by decide +kernel
abbrev rmX6_add : Room := { frames := 0, cells := 0, slots := 0, locals := 0 }
def f_X6_add (n_t_letters : Nat) (i_t_count : Int32) (f_t_letters : Nat → Int32) (p1 : Int32) : Option (Int32 × (Nat → Int32)) :=
  if (nI n_t_letters) ≤ i_t_count then
    some (i_t_count, f_t_letters)
  else
    if ixb i_t_count n_t_letters = true then
    some ((i_t_count + 1), (upd f_t_letters (i_t_count : Int32).toNatClampNeg p1))
    else none
set_option maxRecDepth 100000 in
set_option maxHeartbeats 4000000 in
theorem c_X6_add (l : Launch) (D : va_G) (cy : Nat → ClassId) (a_t : Nat) (a_t_letters : Nat) (n_t_letters : Nat) (i_t_count : Int32) (f_t_letters : Nat → Int32) (p1 : Int32) (z_i_t_count : Int32) (z_f_t_letters : Nat → Int32) (hf : f_X6_add n_t_letters i_t_count f_t_letters p1 = some (z_i_t_count, z_f_t_letters)) : MV l D cy yX6_add wsX6_add rmX6_add [.ref a_t, .int p1] [(a_t, .inr (6, [.ref a_t_letters, .int i_t_count])), (a_t_letters, .inl (cy 0, n_t_letters, .inl f_t_letters))] [(a_t, .inr (6, [.ref a_t_letters, .int z_i_t_count])), (a_t_letters, .inl (cy 0, n_t_letters, .inl z_f_t_letters))] := by
  refine st_V (by decide) rfl (Nat.le_of_ble_eq_true rfl) (fun p e s m below meth c A Q ls C0 hA hK hP hD hS hl hret => ?_)
  obtain ⟨hx, hb, hr, hml, hown, hts, hlocks⟩ := id C0
  have hl : lv_has ls 2 [(0, .ref a_t), (1, .int p1)] := hl
  unfold f_X6_add at hf
  refine lv_aload_n hx hb dX6_add_0 rfl (lv_at hl 0 rfl) ?_
  refine va_get (D := D) (ci := 6) (v := .int i_t_count) (C := RX6) (T := TX6) (N := 2) hx hb hts uX6_add_X6 hown hK.1.1 hP 0 rfl rfl 1 (by decide) (hts _ mX6_add_21) (fun _ h9 => h9) rfl dX6_add_1 ?_
  refine lv_aload_n hx hb dX6_add_4 rfl (lv_at hl 0 rfl) ?_
  refine va_get (D := D) (ci := 6) (v := .ref a_t_letters) (C := RX6) (T := TX6) (N := 2) hx hb hts uX6_add_X6 hown hK.1.1 hP 0 rfl rfl 0 (by decide) (hts _ mX6_add_15) (fun _ h9 => h9) rfl dX6_add_5 ?_
  refine va_alen (v := nI n_t_letters) (ty := .int) hx hb hK.1.1 hP 1 0 rfl rfl rfl dX6_add_8 ?_
  refine lv_icmp_ge (tgt := 32) hx hb dX6_add_9 (by decide) (fun c_1 => ?_) (fun c_1 => ?_)
  · have hf := hb_t hf c_1
    have hf : some (i_t_count, f_t_letters) = some (z_i_t_count, z_f_t_letters) := hf
    cases hf
    exact hret _ _ _ _ dX6_add_32 hP hS
  · have hf := hb_f hf c_1
    refine lv_aload_n hx hb dX6_add_12 rfl (lv_at hl 0 rfl) ?_
    refine va_get (D := D) (ci := 6) (v := .ref a_t_letters) (C := RX6) (T := TX6) (N := 2) hx hb hts uX6_add_X6 hown hK.1.1 hP 0 rfl rfl 0 (by decide) (hts _ mX6_add_15) (fun _ h9 => h9) rfl dX6_add_13 ?_
    refine lv_aload_n hx hb dX6_add_16 rfl (lv_at hl 0 rfl) ?_
    refine va_get (D := D) (ci := 6) (v := .int i_t_count) (C := RX6) (T := TX6) (N := 2) hx hb hts uX6_add_X6 hown hK.1.1 hP 0 rfl rfl 1 (by decide) (hts _ mX6_add_21) (fun _ h9 => h9) rfl dX6_add_17 ?_
    refine lv_iload_n hx hb dX6_add_20 rfl (lv_at hl 1 rfl) ?_
    obtain ⟨hg_2, hf⟩ := hb_g hf
    refine va_iast hx hb hK.1.1 hP hD hS 1 0 rfl rfl (ixb_in hg_2) dX6_add_21 (fun H locs hP hD hS => ?_)
    have hP : va_P D vwCl [(a_t, .inr (6, [.ref a_t_letters, .int i_t_count])), (a_t_letters, .inl (cy 0, n_t_letters, .inl (upd f_t_letters (i_t_count : Int32).toNatClampNeg p1)))] H := hP
    have hD : va_D A [(a_t, .inr (6, [.ref a_t_letters, .int i_t_count])), (a_t_letters, .inl (cy 0, n_t_letters, .inl (upd f_t_letters (i_t_count : Int32).toNatClampNeg p1)))] := hD
    refine lv_aload_n hx hb dX6_add_22 rfl (lv_at hl 0 rfl) ?_
    refine lv_dup hx hb dX6_add_23 rfl ?_
    refine va_get (D := D) (ci := 6) (v := .int i_t_count) (C := RX6) (T := TX6) (N := 2) hx hb hts uX6_add_X6 hown hK.1.1 hP 0 rfl rfl 1 (by decide) (hts _ mX6_add_21) (fun _ h9 => h9) rfl dX6_add_24 ?_
    refine lv_iconst (v := 1) hx hb dX6_add_27 (by decide) ?_
    refine lv_iadd hx hb dX6_add_28 ?_
    refine va_put (D := D) (ci := 6) (v := .int (i_t_count + 1)) (ty := .int) (C := RX6) (T := TX6) (N := 2) hx hb hts uX6_add_X6 tyX6 tyX6_ok nmX6 hown hK.1.1 hP hD hS 0 rfl rfl 1 (by decide) (hts _ mX6_add_21) (fun _ h9 => h9) rfl (by decide +kernel) rfl rfl (Nat.le_of_ble_eq_true rfl) dX6_add_29 (fun H locs hP hD hS => ?_)
    have hP : va_P D vwCl [(a_t, .inr (6, [.ref a_t_letters, .int (i_t_count + 1)])), (a_t_letters, .inl (cy 0, n_t_letters, .inl (upd f_t_letters (i_t_count : Int32).toNatClampNeg p1)))] H := hP
    have hD : va_D A [(a_t, .inr (6, [.ref a_t_letters, .int (i_t_count + 1)])), (a_t_letters, .inl (cy 0, n_t_letters, .inl (upd f_t_letters (i_t_count : Int32).toNatClampNeg p1)))] := hD
    have hf : some ((i_t_count + 1), (upd f_t_letters (i_t_count : Int32).toNatClampNeg p1)) = some (z_i_t_count, z_f_t_letters) := hf
    cases hf
    exact hret _ _ _ _ dX6_add_32 hP hS
theorem mX6_get_21 : Cond.fieldLink RX6 21 "OneWordLetters$Row" "count" "I" ∈ wsX6_get := by decide +kernel
theorem uX6_get_X6 : ∀ w ∈ wsX60, w ∈ wsX6_get := fun _ h => List.mem_cons_of_mem _ (List.mem_append_right _ h)
theorem mX6_get_15 : Cond.fieldLink RX6 15 "OneWordLetters$Row" "letters" "[I" ∈ wsX6_get := by decide +kernel
abbrev rmX6_get : Room := { frames := 0, cells := 0, slots := 0, locals := 0 }
def f_X6_get (i_t_count : Int32) (n_t_letters : Nat) (f_t_letters : Nat → Int32) (p1 : Int32) : Option (Int32) :=
  if p1 < 0 then
    some (-1)
  else
    if i_t_count ≤ p1 then
      some (-1)
    else
      if ixb p1 n_t_letters = true then
      some (f_t_letters (p1 : Int32).toNatClampNeg)
      else none
set_option maxRecDepth 100000 in
set_option maxHeartbeats 4000000 in
theorem c_X6_get (l : Launch) (D : va_G) (cy : Nat → ClassId) (a_t : Nat) (a_t_letters : Nat) (i_t_count : Int32) (n_t_letters : Nat) (f_t_letters : Nat → Int32) (p1 : Int32) (rv : Int32) (hf : f_X6_get i_t_count n_t_letters f_t_letters p1 = some rv) : MI l D cy yX6_get wsX6_get rmX6_get [.ref a_t, .int p1] [(a_t, .inr (6, [.ref a_t_letters, .int i_t_count])), (a_t_letters, .inl (cy 0, n_t_letters, .inl f_t_letters))] [(a_t, .inr (6, [.ref a_t_letters, .int i_t_count])), (a_t_letters, .inl (cy 0, n_t_letters, .inl f_t_letters))] rv := by
  refine st_I (by decide) rfl (Nat.le_of_ble_eq_true rfl) (fun p e s m below meth c A Q ls C0 hA hK hP hD hS hl hret => ?_)
  obtain ⟨hx, hb, hr, hml, hown, hts, hlocks⟩ := id C0
  have hl : lv_has ls 2 [(0, .ref a_t), (1, .int p1)] := hl
  unfold f_X6_get at hf
  refine lv_iload_n hx hb dX6_get_0 rfl (lv_at hl 1 rfl) ?_
  refine lv_if_lt (tgt := 21) hx hb dX6_get_1 (by decide) (fun c_1 => ?_) (fun c_1 => ?_)
  · have hf := hb_t hf c_1
    refine lv_iconst (v := (-1)) hx hb dX6_get_21 (by decide) ?_
    have hf : some (-1) = some rv := hf
    cases hf
    exact hret _ _ _ _ dX6_get_22 rfl hP hS
  · have hf := hb_f hf c_1
    refine lv_iload_n hx hb dX6_get_4 rfl (lv_at hl 1 rfl) ?_
    refine lv_aload_n hx hb dX6_get_5 rfl (lv_at hl 0 rfl) ?_
    refine va_get (D := D) (ci := 6) (v := .int i_t_count) (C := RX6) (T := TX6) (N := 2) hx hb hts uX6_get_X6 hown hK.1.1 hP 0 rfl rfl 1 (by decide) (hts _ mX6_get_21) (fun _ h9 => h9) rfl dX6_get_6 ?_
    refine lv_icmp_ge (tgt := 21) hx hb dX6_get_9 (by decide) (fun c_2 => ?_) (fun c_2 => ?_)
    · have hf := hb_t hf c_2
      refine lv_iconst (v := (-1)) hx hb dX6_get_21 (by decide) ?_
      have hf : some (-1) = some rv := hf
      cases hf
      exact hret _ _ _ _ dX6_get_22 rfl hP hS
    · have hf := hb_f hf c_2
      refine lv_aload_n hx hb dX6_get_12 rfl (lv_at hl 0 rfl) ?_
      refine va_get (D := D) (ci := 6) (v := .ref a_t_letters) (C := RX6) (T := TX6) (N := 2) hx hb hts uX6_get_X6 hown hK.1.1 hP 0 rfl rfl 0 (by decide) (hts _ mX6_get_15) (fun _ h9 => h9) rfl dX6_get_13 ?_
      refine lv_iload_n hx hb dX6_get_16 rfl (lv_at hl 1 rfl) ?_
      obtain ⟨hg_3, hf⟩ := hb_g hf
      refine va_iald hx hb hK.1.1 hP 1 0 rfl rfl (ixb_in hg_3) dX6_get_17 ?_
      refine lv_goto (tgt := 22) hx hb dX6_get_18 (by decide) ?_
      have hf : some (f_t_letters (p1 : Int32).toNatClampNeg) = some rv := hf
      cases hf
      exact hret _ _ _ _ dX6_get_22 rfl hP hS
theorem mX6_countOrGet_21 : Cond.fieldLink RX6 21 "OneWordLetters$Row" "count" "I" ∈ wsX6_countOrGet := by decide +kernel
theorem uX6_countOrGet_X6 : ∀ w ∈ wsX60, w ∈ wsX6_countOrGet := fun _ h => List.mem_cons_of_mem _ (List.mem_append_right _ h)
abbrev rmX6_countOrGet : Room := { frames := 1, cells := 0, slots := 0, locals := 21 }
def f_X6_countOrGet (i_t_count : Int32) (n_t_letters : Nat) (f_t_letters : Nat → Int32) (p1 : Int32) : Option (Int32) :=
  if p1 = (-1) then
    some i_t_count
  else
    (f_X6_get i_t_count n_t_letters f_t_letters p1).bind fun r_2 =>
    some r_2
set_option maxRecDepth 100000 in
set_option maxHeartbeats 4000000 in
theorem c_X6_countOrGet (l : Launch) (D : va_G) (cy : Nat → ClassId) (a_t : Nat) (a_t_letters : Nat) (i_t_count : Int32) (n_t_letters : Nat) (f_t_letters : Nat → Int32) (p1 : Int32) (rv : Int32) (hf : f_X6_countOrGet i_t_count n_t_letters f_t_letters p1 = some rv) : MI l D cy yX6_countOrGet wsX6_countOrGet rmX6_countOrGet [.ref a_t, .int p1] [(a_t, .inr (6, [.ref a_t_letters, .int i_t_count])), (a_t_letters, .inl (cy 0, n_t_letters, .inl f_t_letters))] [(a_t, .inr (6, [.ref a_t_letters, .int i_t_count])), (a_t_letters, .inl (cy 0, n_t_letters, .inl f_t_letters))] rv := by
  refine st_I (by decide) rfl (Nat.le_of_ble_eq_true rfl) (fun p e s m below meth c A Q ls C0 hA hK hP hD hS hl hret => ?_)
  obtain ⟨hx, hb, hr, hml, hown, hts, hlocks⟩ := id C0
  have hl : lv_has ls 2 [(0, .ref a_t), (1, .int p1)] := hl
  unfold f_X6_countOrGet at hf
  refine lv_iload_n hx hb dX6_countOrGet_0 rfl (lv_at hl 1 rfl) ?_
  refine lv_iconst (v := (-1)) hx hb dX6_countOrGet_1 (by decide) ?_
  refine lv_icmp_ne (tgt := 12) hx hb dX6_countOrGet_2 (by decide) (fun c_1 => ?_) (fun c_1 => ?_)
  · have hf := hb_f hf c_1
    refine lv_aload_n hx hb dX6_countOrGet_12 rfl (lv_at hl 0 rfl) ?_
    refine lv_iload_n hx hb dX6_countOrGet_13 rfl (lv_at hl 1 rfl) ?_
    obtain ⟨r_2, hc_3, hf⟩ := hb_b hf
    refine cl_Vi (rest := []) [0, 1] 0 C0 hK hP hD hS hA (c_X6_get l D cy a_t a_t_letters i_t_count n_t_letters f_t_letters p1 r_2 hc_3) (cwV 1 hts gX6_countOrGet_X6_get rfl rfl rfl (by decide +kernel) ⟨Nat.le_of_ble_eq_true rfl, Nat.le_of_ble_eq_true rfl⟩) rfl rfl rfl rfl rfl rfl rfl hl.1 rfl (by decide) dX6_countOrGet_14 ⟨Nat.zero_le _, Nat.zero_le _⟩ (fun H locs hP hD hS => ?_)
    have hP : va_P D vwCl [(a_t, .inr (6, [.ref a_t_letters, .int i_t_count])), (a_t_letters, .inl (cy 0, n_t_letters, .inl f_t_letters))] H := hP
    have hD : va_D A [(a_t, .inr (6, [.ref a_t_letters, .int i_t_count])), (a_t_letters, .inl (cy 0, n_t_letters, .inl f_t_letters))] := hD
    have hf : some r_2 = some rv := hf
    cases hf
    exact hret _ _ _ _ dX6_countOrGet_17 rfl hP hS
  · have hf := hb_t hf c_1
    refine lv_aload_n hx hb dX6_countOrGet_5 rfl (lv_at hl 0 rfl) ?_
    refine va_get (D := D) (ci := 6) (v := .int i_t_count) (C := RX6) (T := TX6) (N := 2) hx hb hts uX6_countOrGet_X6 hown hK.1.1 hP 0 rfl rfl 1 (by decide) (hts _ mX6_countOrGet_21) (fun _ h9 => h9) rfl dX6_countOrGet_6 ?_
    refine lv_goto (tgt := 17) hx hb dX6_countOrGet_9 (by decide) ?_
    have hf : some i_t_count = some rv := hf
    cases hf
    exact hret _ _ _ _ dX6_countOrGet_17 rfl hP hS
theorem mX6_has_21 : Cond.fieldLink RX6 21 "OneWordLetters$Row" "count" "I" ∈ wsX6_has := by decide +kernel
theorem uX6_has_X6 : ∀ w ∈ wsX60, w ∈ wsX6_has := fun _ h => List.mem_cons_of_mem _ (List.mem_append_right _ h)
theorem mX6_has_15 : Cond.fieldLink RX6 15 "OneWordLetters$Row" "letters" "[I" ∈ wsX6_has := by decide +kernel
abbrev rmX6_has : Room := { frames := 0, cells := 0, slots := 0, locals := 0 }
def f_X6_has_L2 (i_t_count : Int32) (n_t_letters : Nat) (f_t_letters : Nat → Int32) : Nat → Int32 → Int32 → Option (Int32)
  | 0, _, _ => none
  | n + 1, v1, v2 =>
    if i_t_count ≤ v2 then
      some 0
    else
      if ixb v2 n_t_letters = true then
      if (f_t_letters (v2 : Int32).toNatClampNeg) = v1 then
        some 1
      else
        f_X6_has_L2 i_t_count n_t_letters f_t_letters n v1 (v2 + 1)
      else none
set_option maxRecDepth 100000 in
set_option maxHeartbeats 4000000 in
theorem L_X6_has_2 {p : Program} {e : Env} {s : State} {m : MethodId} {args : Array Value} {below : List Frame} {meth : Method} {c : Code} {Q : State → Prop} {A : Nat → Prop} (l : Launch) (D : va_G) (cy : Nat → ClassId) (a_t : Nat) (a_t_letters : Nat) (i_t_count : Int32) (n_t_letters : Nat) (f_t_letters : Nat → Int32) (rv : Int32) (C0 : CX p s m args meth c cX6_has 3 (some .boolean) wsX6_has RX6) (hA : ∀ q, s.heap.size ≤ q → A q) (hK : KZ D cy A s) (hret : ∀ (H : Heap) (locs : List Loc) (ls : Array Slot) (pc : Nat), decode cX6_has pc = .ok (.ireturn, 1) → narrow .boolean (.int rv) = .int rv → va_P D vwCl [(a_t, .inr (6, [.ref a_t_letters, .int i_t_count])), (a_t_letters, .inl (cy 0, n_t_letters, .inl f_t_letters))] H → va_S A s.heap H locs → W p l e rmX6_has s m args below meth c H locs 0 0 Q (F0 m pc ls [.int rv])) : ∀ (n : Nat) (v1 : Int32) (v2 : Int32), f_X6_has_L2 i_t_count n_t_letters f_t_letters n v1 v2 = some rv → ∀ (H : Heap) (locs : List Loc), va_P D vwCl [(a_t, .inr (6, [.ref a_t_letters, .int i_t_count])), (a_t_letters, .inl (cy 0, n_t_letters, .inl f_t_letters))] H → va_D A [(a_t, .inr (6, [.ref a_t_letters, .int i_t_count])), (a_t_letters, .inl (cy 0, n_t_letters, .inl f_t_letters))] → va_S A s.heap H locs → ∀ ls : Array Slot, lv_has ls 3 [(0, .ref a_t), (1, .int v1), (2, .int v2)] → W p l e rmX6_has s m args below meth c H locs 0 0 Q (F0 m 2 ls []) := by
  obtain ⟨hx, hb, hr, hml, hown, hts, hlocks⟩ := id C0
  intro n
  induction n with
  | zero => intro _ _ hf; rw [f_X6_has_L2.eq_1] at hf; cases hf
  | succ n ih =>
    intro v1 v2 hf H locs hP hD hS ls hl
    rw [f_X6_has_L2.eq_2] at hf
    refine lv_iload_n hx hb dX6_has_2 rfl (lv_at hl 2 rfl) ?_
    refine lv_aload_n hx hb dX6_has_3 rfl (lv_at hl 0 rfl) ?_
    refine va_get (D := D) (ci := 6) (v := .int i_t_count) (C := RX6) (T := TX6) (N := 2) hx hb hts uX6_has_X6 hown hK.1.1 hP 0 rfl rfl 1 (by decide) (hts _ mX6_has_21) (fun _ h9 => h9) rfl dX6_has_4 ?_
    refine lv_icmp_ge (tgt := 28) hx hb dX6_has_7 (by decide) (fun c_1 => ?_) (fun c_1 => ?_)
    · have hf := hb_t hf c_1
      refine lv_iconst (v := 0) hx hb dX6_has_28 (by decide) ?_
      have hf : some 0 = some rv := hf
      cases hf
      exact hret _ _ _ _ dX6_has_29 rfl hP hS
    · have hf := hb_f hf c_1
      refine lv_aload_n hx hb dX6_has_10 rfl (lv_at hl 0 rfl) ?_
      refine va_get (D := D) (ci := 6) (v := .ref a_t_letters) (C := RX6) (T := TX6) (N := 2) hx hb hts uX6_has_X6 hown hK.1.1 hP 0 rfl rfl 0 (by decide) (hts _ mX6_has_15) (fun _ h9 => h9) rfl dX6_has_11 ?_
      refine lv_iload_n hx hb dX6_has_14 rfl (lv_at hl 2 rfl) ?_
      obtain ⟨hg_2, hf⟩ := hb_g hf
      refine va_iald hx hb hK.1.1 hP 1 0 rfl rfl (ixb_in hg_2) dX6_has_15 ?_
      refine lv_iload_n hx hb dX6_has_16 rfl (lv_at hl 1 rfl) ?_
      refine lv_icmp_ne (tgt := 22) hx hb dX6_has_17 (by decide) (fun c_3 => ?_) (fun c_3 => ?_)
      · have hf := hb_f hf c_3
        refine lv_iinc (v := (v2 + 1)) (lv' := [(2, .int (v2 + 1)), (0, .ref a_t), (1, .int v1)]) hx hb dX6_has_22 hl (k := 2) rfl rfl (by decide) rfl (fun ls hl => ?_)
        refine lv_goto (tgt := 2) hx hb dX6_has_25 (by decide) ?_
        exact ih v1 (v2 + 1) hf _ _ hP hD hS _ (lv_sub hl [1, 2, 0] rfl)
      · have hf := hb_t hf c_3
        refine lv_iconst (v := 1) hx hb dX6_has_20 (by decide) ?_
        have hf : some 1 = some rv := hf
        cases hf
        exact hret _ _ _ _ dX6_has_21 rfl hP hS
def f_X6_has (i_t_count : Int32) (n_t_letters : Nat) (f_t_letters : Nat → Int32) (p1 : Int32) : Option (Int32) :=
  f_X6_has_L2 i_t_count n_t_letters f_t_letters FU p1 0
set_option maxRecDepth 100000 in
set_option maxHeartbeats 4000000 in
theorem c_X6_has (l : Launch) (D : va_G) (cy : Nat → ClassId) (a_t : Nat) (a_t_letters : Nat) (i_t_count : Int32) (n_t_letters : Nat) (f_t_letters : Nat → Int32) (p1 : Int32) (rv : Int32) (hf : f_X6_has i_t_count n_t_letters f_t_letters p1 = some rv) : MI l D cy yX6_has wsX6_has rmX6_has [.ref a_t, .int p1] [(a_t, .inr (6, [.ref a_t_letters, .int i_t_count])), (a_t_letters, .inl (cy 0, n_t_letters, .inl f_t_letters))] [(a_t, .inr (6, [.ref a_t_letters, .int i_t_count])), (a_t_letters, .inl (cy 0, n_t_letters, .inl f_t_letters))] rv := by
  refine st_I (by decide) rfl (Nat.le_of_ble_eq_true rfl) (fun p e s m below meth c A Q ls C0 hA hK hP hD hS hl hret => ?_)
  obtain ⟨hx, hb, hr, hml, hown, hts, hlocks⟩ := id C0
  have hl : lv_has ls 3 [(0, .ref a_t), (1, .int p1)] := hl
  unfold f_X6_has at hf
  refine lv_iconst (v := 0) hx hb dX6_has_0 (by decide) ?_
  refine lv_istore_n (lv' := [(2, .int 0), (0, .ref a_t), (1, .int p1)]) hx hb dX6_has_1 rfl hl (by decide) rfl (fun ls hl => ?_)
  refine L_X6_has_2 l D cy a_t a_t_letters i_t_count n_t_letters f_t_letters rv C0 hA hK hret  FU p1 0 hf _ _ hP hD hS _ (lv_sub hl [1, 2, 0] rfl)
