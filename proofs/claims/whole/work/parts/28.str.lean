/-! the JDK's String members over the constants -/
section CLX
variable {l : Launch} {D : va_G} {cy : Nat → ClassId} {p : Program} {e : Env} {s : State} {m : MethodId} {args : Array Value} {below : List Frame} {meth : Method} {c : Code} {R : Room} {Q : State → Prop} {A : Nat → Prop} {H : Heap} {locs : List Loc} {ls : Array Slot} {pc nL cells slots : Nat} {cc : ByteArray} {ret : Option FieldType} {Ts : List Cond} {own : String} {ws wc w1 : va_W} {y : MethodName} {wsy : List Cond} {rm : Room} {b : Nat} {As rest st : List Value} {C : String} {index maxL n : Nat} {bytes : ByteArray} {rt : Option FieldType}
/-- invokevirtual on a String constant -/
theorem cl_Ti {rv : Int32} (isC : List Nat) (sel : List (Option Nat)) (nw : Nat) (C0 : CX p s m args meth c cc nL ret Ts own) (hK : KZ D cy A s) (hP : va_P D vwCl ws H) (hD : va_D A ws) (hS : va_S A s.heap H locs) (hA : ∀ q, s.heap.size ≤ q → A q) (hM : MI l D cy y wsy rm (.ref b :: As) wc w1 rv) (cw : CallW R s args own C index y bytes maxL rt wsy rm 0 0 n) (hnw : ws.length = nw) (hsel : selOf nw isC = sel) (hC : isC.map (fun i => ws[i]?) = wc.map some) (hnd : va_nd isC = true) (h1 : w1.map (·.1) = wc.map (·.1)) (hrec : ∃ cell : Cell, H[b]? = some cell ∧ cell.vm.isStatics = false ∧ s.vm.findClass C = some cell.cls) (hn : As.length = n) (hsize : ls.size = nL) (hst : st = As.reverse ++ .ref b :: rest) (hcat : (rest.map fun v => v.category).sum ≤ 8) (hdg : decode cc pc = .ok (.invokevirtual index, 3)) (hcs : cells ≤ R.cells ∧ slots ≤ R.slots)
    (kk : ∀ (H1 : Heap) (locs1 : List Loc), va_P D vwCl (mg sel ws w1) H1 → va_D A (mg sel ws w1) → va_S A s.heap H1 locs1 → W p l e R s m args below meth c H1 locs1 cells slots Q (F0 m (pc + 3) ls (.int rv :: rest))) : W p l e R s m args below meth c H locs cells slots Q (F0 m pc ls st) :=
  run_i (va_runV C0.fix (hM H.size) cw ⟨sPre.blind, hrec, fun U hU hW => ⟨rfl, pre_U hK hP hD hS hA isC hC hnd hU hW⟩⟩ rfl hn hsize hst (lv_room hcat) hdg hcs) hP hD hS hA isC (by rw [hnw]; exact hsel) hC h1 kk
end CLX
theorem mJ0_coder_38 : Cond.fieldLink RJ0 38 "java/lang/String" "COMPACT_STRINGS" "Z" ∈ wsJ0_coder_7d493 := by decide +kernel
theorem mJ0_coder_15 : Cond.fieldLink RJ0 15 "java/lang/String" "coder" "B" ∈ wsJ0_coder_7d493 := by decide +kernel
theorem mJ0_isL_38 : Cond.fieldLink RJ0 38 "java/lang/String" "COMPACT_STRINGS" "Z" ∈ wsJ0_isLatin1_aae02 := by decide +kernel
theorem mJ0_isL_15 : Cond.fieldLink RJ0 15 "java/lang/String" "coder" "B" ∈ wsJ0_isLatin1_aae02 := by decide +kernel
theorem mJ0_len_9 : Cond.fieldLink RJ0 9 "java/lang/String" "value" "[B" ∈ wsJ0_length_8abf5 := by decide +kernel
theorem mJ0_chr_9 : Cond.fieldLink RJ0 9 "java/lang/String" "value" "[B" ∈ wsJ0_charAt_5068e := by decide +kernel
theorem mJ0_chk_1053 : Cond.fieldLink RJ0 1053 "jdk/internal/util/Preconditions" "SIOOBE_FORMATTER" "Ljava/util/function/BiFunction;" ∈ wsJ0_checkIndex_df160 := by decide +kernel
set_option maxRecDepth 100000 in
set_option maxHeartbeats 4000000 in
theorem c_J0_coder (l : Launch) (D : va_G) (cy : Nat → ClassId) (i : Nat) (hi : i < 8) : MI l D cy yJ0_coder_7d493 wsJ0_coder_7d493 ({ frames := 0, cells := 0, slots := 0, locals := 0 }) [.ref (cy (100 + i))] [] [] 0 := by
  refine st_I (rt := .byte) (by decide) rfl (Nat.le_of_ble_eq_true rfl) (fun p e s m below meth c A Q ls C0 hA hK hP hD hS hl hret => ?_)
  obtain ⟨hx, hb, hr, hml, hown, hts, hlocks⟩ := id C0
  have hl : lv_has ls 1 [(0, .ref (cy (100 + i)))] := hl
  refine va_gets hx hb hK.2.2.1 hS hown (hts _ mJ0_coder_38) (fun _ h => h) dJ0_coder_7d493_0 ?_
  refine lv_if_eq (tgt := 13) hx hb dJ0_coder_7d493_3 (by decide) (fun c1 => absurd c1 (by decide)) (fun _ => ?_)
  refine lv_aload_n hx hb dJ0_coder_7d493_6 rfl (lv_at hl 0 rfl) ?_
  refine vk_getf hx hb (hK.2.1.1 i hi).2.1 hS hown (hts _ mJ0_coder_15) (fun _ h => h) dJ0_coder_7d493_7 ?_
  refine lv_goto (tgt := 14) hx hb dJ0_coder_7d493_10 (by decide) ?_
  exact hret _ _ _ _ dJ0_coder_7d493_14 rfl hP hS
set_option maxRecDepth 100000 in
set_option maxHeartbeats 4000000 in
theorem c_J0_isLatin1 (l : Launch) (D : va_G) (cy : Nat → ClassId) (i : Nat) (hi : i < 8) : MI l D cy yJ0_isLatin1_aae02 wsJ0_isLatin1_aae02 ({ frames := 0, cells := 0, slots := 0, locals := 0 }) [.ref (cy (100 + i))] [] [] 1 := by
  refine st_I (rt := .boolean) (by decide) rfl (Nat.le_of_ble_eq_true rfl) (fun p e s m below meth c A Q ls C0 hA hK hP hD hS hl hret => ?_)
  obtain ⟨hx, hb, hr, hml, hown, hts, hlocks⟩ := id C0
  have hl : lv_has ls 1 [(0, .ref (cy (100 + i)))] := hl
  refine va_gets hx hb hK.2.2.1 hS hown (hts _ mJ0_isL_38) (fun _ h => h) dJ0_isLatin1_aae02_0 ?_
  refine lv_if_eq (tgt := 17) hx hb dJ0_isLatin1_aae02_3 (by decide) (fun c1 => absurd c1 (by decide)) (fun _ => ?_)
  refine lv_aload_n hx hb dJ0_isLatin1_aae02_6 rfl (lv_at hl 0 rfl) ?_
  refine vk_getf hx hb (hK.2.1.1 i hi).2.1 hS hown (hts _ mJ0_isL_15) (fun _ h => h) dJ0_isLatin1_aae02_7 ?_
  refine lv_if_ne (tgt := 17) hx hb dJ0_isLatin1_aae02_10 (by decide) (fun c1 => absurd rfl c1) (fun _ => ?_)
  refine lv_iconst (v := 1) hx hb dJ0_isLatin1_aae02_13 (by decide) ?_
  refine lv_goto (tgt := 18) hx hb dJ0_isLatin1_aae02_14 (by decide) ?_
  exact hret _ _ _ _ dJ0_isLatin1_aae02_18 rfl hP hS
theorem sk_shr : ∀ i : Nat, i < 8 → (nI (skL.getD i 0)) >>> ((0 : Int32) &&& 31) = nI (skL.getD i 0) := by decide +kernel
set_option maxRecDepth 100000 in
set_option maxHeartbeats 4000000 in
theorem c_J0_length (l : Launch) (D : va_G) (cy : Nat → ClassId) (i : Nat) (hi : i < 8) : MI l D cy yJ0_length_8abf5 wsJ0_length_8abf5 ({ frames := 1, cells := 0, slots := 0, locals := 20 }) [.ref (cy (100 + i))] [] [] (nI (skL.getD i 0)) := by
  refine st_I (rt := .int) (by decide) rfl (Nat.le_of_ble_eq_true rfl) (fun p e s m below meth c A Q ls C0 hA hK hP hD hS hl hret => ?_)
  obtain ⟨hx, hb, hr, hml, hown, hts, hlocks⟩ := id C0
  have hl : lv_has ls 1 [(0, .ref (cy (100 + i)))] := hl
  refine lv_aload_n hx hb dJ0_length_8abf5_0 rfl (lv_at hl 0 rfl) ?_
  refine vk_getf hx hb (hK.2.1.1 i hi).2.2.1 hS hown (hts _ mJ0_len_9) (fun _ h => h) dJ0_length_8abf5_1 ?_
  refine va_tlen (v := nI (skL.getD i 0)) hx hb (hK.2.1.1 i hi).2.2.2 hS rfl dJ0_length_8abf5_4 ?_
  refine lv_aload_n hx hb dJ0_length_8abf5_5 rfl (lv_at hl 0 rfl) ?_
  refine cl_Ti (rest := [.int (nI (skL.getD i 0))]) [] [] 0 C0 hK hP hD hS hA (c_J0_coder l D cy i hi) (cwV 0 hts gJ0_length_8abf5_J0_coder_7d493 rfl rfl rfl (by decide +kernel) ⟨Nat.le_of_ble_eq_true rfl, Nat.le_of_ble_eq_true rfl⟩) rfl (by decide) rfl rfl rfl (vk_recv (adK := fun i => cy (100 + i)) (i := i) hK.2.1 hi hS) rfl hl.1 rfl (Nat.le_of_ble_eq_true rfl) dJ0_length_8abf5_6 ⟨Nat.zero_le _, Nat.zero_le _⟩ (fun H locs hP hD hS => ?_)
  refine lv_ishr hx hb dJ0_length_8abf5_9 ?_
  rw [sk_shr i hi]
  exact hret _ _ _ _ dJ0_length_8abf5_10 rfl hP hS
set_option maxRecDepth 100000 in
set_option maxHeartbeats 4000000 in
theorem c_J3_checkIndex (l : Launch) (D : va_G) (cy : Nat → ClassId) (i n : Int32) (v : Value) (hv : v = .null ∨ ∃ t, v = .ref t) (h0 : ¬ i < 0) (h1 : i < n) : MI l D cy yJ3_checkIndex_8e157 wsJ3_checkIndex_8e157 ({ frames := 0, cells := 0, slots := 0, locals := 0 }) [.int i, .int n, v] [] [] i := by
  have hc : v.category = 1 := by rcases hv with rfl | ⟨t, rfl⟩ <;> rfl
  refine st_I (rt := .int) (by decide) rfl (by rcases hv with rfl | ⟨t, rfl⟩ <;> exact Nat.le_of_ble_eq_true rfl) (fun p e s m below meth c A Q ls C0 hA hK hP hD hS hl hret => ?_)
  obtain ⟨hx, hb, hr, hml, hown, hts, hlocks⟩ := id C0
  have hl : lv_has ls 3 [(0, .int i), (1, .int n), (2, v)] := hl
  refine lv_iload_n hx hb dJ3_checkIndex_8e157_0 rfl (lv_at hl 0 rfl) ?_
  refine lv_if_lt (tgt := 9) hx hb dJ3_checkIndex_8e157_1 (by decide) (fun c1 => absurd c1 h0) (fun _ => ?_)
  refine lv_iload_n hx hb dJ3_checkIndex_8e157_4 rfl (lv_at hl 0 rfl) ?_
  refine lv_iload_n hx hb dJ3_checkIndex_8e157_5 rfl (lv_at hl 1 rfl) ?_
  refine lv_icmp_lt (tgt := 16) hx hb dJ3_checkIndex_8e157_6 (by decide) (fun _ => ?_) (fun c1 => absurd h1 c1)
  refine lv_iload_n hx hb dJ3_checkIndex_8e157_16 rfl (lv_at hl 0 rfl) ?_
  exact hret _ _ _ _ dJ3_checkIndex_8e157_17 rfl hP hS
set_option maxRecDepth 100000 in
set_option maxHeartbeats 4000000 in
theorem c_J0_checkIndex (l : Launch) (D : va_G) (cy : Nat → ClassId) (i n : Int32) (h0 : ¬ i < 0) (h1 : i < n) : MV l D cy yJ0_checkIndex_df160 wsJ0_checkIndex_df160 ({ frames := 1, cells := 0, slots := 0, locals := 22 }) [.int i, .int n] [] [] := by
  refine st_V (by decide) rfl (Nat.le_of_ble_eq_true rfl) (fun p e s m below meth c A Q ls C0 hA hK hP hD hS hl hret => ?_)
  obtain ⟨hx, hb, hr, hml, hown, hts, hlocks⟩ := id C0
  have hl : lv_has ls 2 [(0, .int i), (1, .int n)] := hl
  refine lv_iload_n hx hb dJ0_checkIndex_df160_0 rfl (lv_at hl 0 rfl) ?_
  refine lv_iload_n hx hb dJ0_checkIndex_df160_1 rfl (lv_at hl 1 rfl) ?_
  have key : ∀ v : Value, (v = .null ∨ ∃ t, v = .ref t) → va_Z "jdk/internal/util/Preconditions" "SIOOBE_FORMATTER" "Ljava/util/function/BiFunction;" v A s s.heap → W p l e ({ frames := 1, cells := 0, slots := 0, locals := 22 } : Room) s m [Value.int i, Value.int n].toArray below meth c s.heap [] 0 0 Q (F0 m 2 ls [.int n, .int i]) := by
    intro v hv hZ
    refine va_gets hx hb hZ hS hown (hts _ mJ0_chk_1053) (fun _ h => h) dJ0_checkIndex_df160_2 ?_
    refine cl_Si (rest := []) [] [] 0 C0 hK hP hD hS hA (c_J3_checkIndex l D cy i n v hv h0 h1) (va_cwS 3 hts gJ0_checkIndex_df160_J3_checkIndex_8e157 rfl rfl rfl (by decide +kernel) ⟨Nat.le_of_ble_eq_true rfl, Nat.le_of_ble_eq_true rfl⟩) rfl (by decide) rfl rfl rfl rfl hl.1 rfl (Nat.le_of_ble_eq_true rfl) dJ0_checkIndex_df160_5 ⟨Nat.zero_le _, Nat.zero_le _⟩ (fun H locs hP hD hS => ?_)
    refine lv_pop hx hb dJ0_checkIndex_df160_8 rfl ?_
    exact hret _ _ _ _ dJ0_checkIndex_df160_9 hP hS
  rcases hK.2.2.2 with hZ | ⟨t, hZ⟩
  · exact key _ (Or.inl rfl) hZ
  · exact key _ (Or.inr ⟨t, rfl⟩) hZ
/-- the char at k of constant i -/
def skC (i k : Nat) : Int32 := (skB.getD i []).getD k 0
theorem sk_chr : ∀ i : Nat, i < 8 → ∀ k : Nat, k < skL.getD i 0 → ((((skB.getD i []).getD k 0) &&& 255).toUInt32 % 65536).toInt32 = skC i k ∧ narrow .char (.int (skC i k)) = .int (skC i k) ∧ ¬ nI k < 0 ∧ nI k < nI (skL.getD i 0) ∧ (nI k).toNatClampNeg = k ∧ ixb (nI k) (skL.getD i 0) = true := by decide +kernel
set_option maxRecDepth 100000 in
set_option maxHeartbeats 4000000 in
theorem c_J1_charAt (l : Launch) (D : va_G) (cy : Nat → ClassId) (i : Nat) (hi : i < 8) (k : Nat) (hk : k < skL.getD i 0) : MI l D cy yJ1_charAt_3b067 wsJ1_charAt_3b067 ({ frames := 2, cells := 0, slots := 0, locals := 43 }) [.ref (cy (200 + i)), .int (nI k)] [] [] (skC i k) := by
  obtain ⟨e1, e2, e3, e4, e5, e6⟩ := sk_chr i hi k hk
  refine st_I (rt := .char) (by decide) rfl (Nat.le_of_ble_eq_true rfl) (fun p e s m below meth c A Q ls C0 hA hK hP hD hS hl hret => ?_)
  obtain ⟨hx, hb, hr, hml, hown, hts, hlocks⟩ := id C0
  have hl : lv_has ls 2 [(0, .ref (cy (200 + i))), (1, .int (nI k))] := hl
  refine lv_iload_n hx hb dJ1_charAt_3b067_0 rfl (lv_at hl 1 rfl) ?_
  refine lv_aload_n hx hb dJ1_charAt_3b067_1 rfl (lv_at hl 0 rfl) ?_
  refine va_tlen (v := nI (skL.getD i 0)) hx hb (hK.2.1.1 i hi).2.2.2 hS rfl dJ1_charAt_3b067_2 ?_
  refine cl_Sv (rest := []) [] [] 0 C0 hK hP hD hS hA (c_J0_checkIndex l D cy (nI k) (nI (skL.getD i 0)) e3 e4) (va_cwS 2 hts gJ1_charAt_3b067_J0_checkIndex_df160 rfl rfl rfl (by decide +kernel) ⟨Nat.le_of_ble_eq_true rfl, Nat.le_of_ble_eq_true rfl⟩) rfl (by decide) rfl rfl rfl rfl hl.1 rfl (Nat.le_of_ble_eq_true rfl) dJ1_charAt_3b067_3 ⟨Nat.zero_le _, Nat.zero_le _⟩ (fun H locs hP hD hS => ?_)
  refine lv_aload_n hx hb dJ1_charAt_3b067_6 rfl (lv_at hl 0 rfl) ?_
  refine lv_iload_n hx hb dJ1_charAt_3b067_7 rfl (lv_at hl 1 rfl) ?_
  refine va_tb hx hb (hK.2.1.1 i hi).2.2.2 hS (ixb_in e6) (v := .int ((skB.getD i []).getD k 0)) (by rw [e5]) dJ1_charAt_3b067_8 ?_
  refine lv_sipush (v := 255) hx hb dJ1_charAt_3b067_9 (by decide) ?_
  refine lv_iand hx hb dJ1_charAt_3b067_12 ?_
  refine lv_i2c (v := skC i k) hx hb dJ1_charAt_3b067_13 e1 ?_
  exact hret _ _ _ _ dJ1_charAt_3b067_14 e2 hP hS
set_option maxRecDepth 100000 in
set_option maxHeartbeats 4000000 in
theorem c_J0_charAt (l : Launch) (D : va_G) (cy : Nat → ClassId) (i : Nat) (hi : i < 8) (k : Nat) (hk : k < skL.getD i 0) : MI l D cy yJ0_charAt_5068e wsJ0_charAt_5068e ({ frames := 3, cells := 0, slots := 0, locals := 64 }) [.ref (cy (100 + i)), .int (nI k)] [] [] (skC i k) := by
  obtain ⟨e1, e2, e3, e4, e5, e6⟩ := sk_chr i hi k hk
  refine st_I (rt := .char) (by decide) rfl (Nat.le_of_ble_eq_true rfl) (fun p e s m below meth c A Q ls C0 hA hK hP hD hS hl hret => ?_)
  obtain ⟨hx, hb, hr, hml, hown, hts, hlocks⟩ := id C0
  have hl : lv_has ls 2 [(0, .ref (cy (100 + i))), (1, .int (nI k))] := hl
  refine lv_aload_n hx hb dJ0_charAt_5068e_0 rfl (lv_at hl 0 rfl) ?_
  refine cl_Ti (rest := []) [] [] 0 C0 hK hP hD hS hA (c_J0_isLatin1 l D cy i hi) (cwV 0 hts gJ0_charAt_5068e_J0_isLatin1_aae02 rfl rfl rfl (by decide +kernel) ⟨Nat.le_of_ble_eq_true rfl, Nat.le_of_ble_eq_true rfl⟩) rfl (by decide) rfl rfl rfl (vk_recv (adK := fun i => cy (100 + i)) (i := i) hK.2.1 hi hS) rfl hl.1 rfl (Nat.le_of_ble_eq_true rfl) dJ0_charAt_5068e_1 ⟨Nat.zero_le _, Nat.zero_le _⟩ (fun H locs hP hD hS => ?_)
  refine lv_if_eq (tgt := 16) hx hb dJ0_charAt_5068e_4 (by decide) (fun c1 => absurd c1 (by decide)) (fun _ => ?_)
  refine lv_aload_n hx hb dJ0_charAt_5068e_7 rfl (lv_at hl 0 rfl) ?_
  refine vk_getf hx hb (hK.2.1.1 i hi).2.2.1 hS hown (hts _ mJ0_chr_9) (fun _ h => h) dJ0_charAt_5068e_8 ?_
  refine lv_iload_n hx hb dJ0_charAt_5068e_11 rfl (lv_at hl 1 rfl) ?_
  refine cl_Si (rest := []) [] [] 0 C0 hK hP hD hS hA (c_J1_charAt l D cy i hi k hk) (va_cwS 2 hts gJ0_charAt_5068e_J1_charAt_3b067 rfl rfl rfl (by decide +kernel) ⟨Nat.le_of_ble_eq_true rfl, Nat.le_of_ble_eq_true rfl⟩) rfl (by decide) rfl rfl rfl rfl hl.1 rfl (Nat.le_of_ble_eq_true rfl) dJ0_charAt_5068e_12 ⟨Nat.zero_le _, Nat.zero_le _⟩ (fun H locs hP hD hS => ?_)
  exact hret _ _ _ _ dJ0_charAt_5068e_15 e2 hP hS
