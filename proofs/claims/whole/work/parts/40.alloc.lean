/-! methods that make cells: the world behind them has new addresses -/
/-- behind a call that makes cells -/
theorem sa_joinA {A : Nat → Prop} {D : va_G} {ws wc wa wb : va_W} {H H1 : Heap} (hP : va_P D vwCl ws H) (hD : va_D A ws) {isC : List Nat} (hC : isC.map (fun i => ws[i]?) = wc.map some) (hla : isC.length = wa.length)
    (hk : ∀ q : Nat, q < H.size → ¬ va_A wc H.size q → H1[q]? = H[q]?) (hF : ∀ q, va_A wc H.size q → A q) (hP1 : va_P D vwCl (wa ++ wb) H1) (hD1 : va_D (va_A wc H.size) (wa ++ wb)) : va_P D vwCl (mg (selOf ws.length isC) ws wa ++ wb) H1 ∧ va_D A (mg (selOf ws.length isC) ws wa ++ wb) := by
  have hlen : (mg (selOf ws.length isC) ws wa).length = ws.length := mg_len _ _ _ (selOf_len _ _)
  have at' : ∀ (k : Nat) (q : Nat × va_E), wc[k]? = some q → ∃ i : Nat, isC[k]? = some i ∧ ws[i]? = some q := by
    intro k q hq
    have h1 : (isC.map (fun i => ws[i]?))[k]? = some (some q) := by rw [hC, List.getElem?_map, hq]; rfl
    rw [List.getElem?_map] at h1
    cases hi : isC[k]? with
    | none => rw [hi] at h1; cases h1
    | some i => rw [hi] at h1; exact ⟨i, rfl, Option.some.inj h1⟩
  have apart : ∀ (j : Nat) (q : Nat × va_E), ws[j]? = some q → j ∉ isC → q.1 < H.size ∧ ¬ va_A wc H.size q.1 := by
    intro j q hq hj
    have hl := (hP j q hq).lt
    refine ⟨hl, fun h => ?_⟩
    rcases h with ⟨k2, e, h⟩ | h
    · obtain ⟨i, h3, h4⟩ := at' k2 (q.1, e) h
      have hij := hD.1 j i q (q.1, e) hq h4 rfl
      subst hij
      exact hj (List.mem_of_getElem? h3)
    · omega
  have key : ∀ (j : Nat) (q : Nat × va_E), (mg (selOf ws.length isC) ws wa ++ wb)[j]? = some q → (ws[j]? = some q ∧ j ∉ isC) ∨ ∃ i : Nat, (wa ++ wb)[i]? = some q ∧ ((j < ws.length ∧ isC[i]? = some j) ∨ (ws.length ≤ j ∧ i = wa.length + (j - ws.length))) := by
    intro j q h
    by_cases hl : j < ws.length
    · rw [List.getElem?_append_left (by rw [hlen]; exact hl)] at h
      rcases mg_key hla h with h1 | ⟨i, h1, h2⟩
      · exact Or.inl h1
      · have hi : i < wa.length := (List.getElem?_eq_some_iff.mp h2).1
        exact Or.inr ⟨i, by rw [List.getElem?_append_left hi]; exact h2, Or.inl ⟨hl, h1⟩⟩
    · rw [List.getElem?_append_right (by rw [hlen]; omega), hlen] at h
      refine Or.inr ⟨wa.length + (j - ws.length), ?_, Or.inr ⟨by omega, rfl⟩⟩
      rw [List.getElem?_append_right (by omega)]
      rw [show wa.length + (j - ws.length) - wa.length = j - ws.length by omega]
      exact h
  refine ⟨fun j q h => ?_, fun i j x y hi hj hxy => ?_, fun j q h => ?_⟩
  · rcases key j q h with ⟨a, b⟩ | ⟨i, a, -⟩
    · obtain ⟨g1, g2⟩ := apart j q a b
      exact (hP j q a).kept (hk q.1 g1 g2)
    · exact hP1 i q a
  · rcases key i x hi with ⟨a, b⟩ | ⟨i', a, b⟩ <;> rcases key j y hj with ⟨a2, b2⟩ | ⟨j', a2, b2⟩
    · exact hD.1 i j x y a a2 hxy
    · exact absurd (hD1.2 j' y a2) (by rw [← hxy]; exact (apart i x a b).2)
    · exact absurd (hD1.2 i' x a) (by rw [hxy]; exact (apart j y a2 b2).2)
    · have e := hD1.1 i' j' x y a a2 hxy
      subst e
      rcases b with ⟨l1, b⟩ | ⟨l1, b⟩ <;> rcases b2 with ⟨l2, b2⟩ | ⟨l2, b2⟩
      · rw [b] at b2; exact Option.some.inj b2
      · have : i' < isC.length := (List.getElem?_eq_some_iff.mp b).1
        omega
      · have : i' < isC.length := (List.getElem?_eq_some_iff.mp b2).1
        omega
      · omega
  · rcases key j q h with ⟨a, -⟩ | ⟨i, a, -⟩
    · exact hD.2 j q a
    · exact hF _ (hD1.2 i q a)
def rfO (l : List (Option Nat)) : Nat → Option Nat := fun j => l.getD j none
theorem rfO_new (n : Nat) : (fun _ => none : Nat → Option Nat) = rfO (List.replicate n none) := by
  funext j
  simp [rfO, List.getD_eq_getElem?_getD, List.getElem?_replicate]
  split <;> rfl
theorem rfO_up (l : List (Option Nat)) (k v : Nat) (hk : k < l.length) : va_up (rfO l) k (some v) = rfO (l.set k (some v)) := by
  funext j
  simp only [va_up, rfO, List.getD_eq_getElem?_getD, List.getElem?_set]
  by_cases e : j = k
  · subst e
    simp [hk]
  · simp [e, Ne.symm e]
theorem rfO_end (l : List Nat) : rfO (l.map some) = rfL l := by
  funext j
  simp only [rfO, rfL, List.getD_eq_getElem?_getD, List.getElem?_map]
  cases l[j]? <;> rfl
def adL (l : List Nat) : Nat → Nat := fun k => l.getD k 0
/-- a contract with makings: behind it the cells w1 u, u the addresses -/
def MVa (l : Launch) (D : va_G) (cy : Nat → ClassId) (y : MethodName) (ws : List Cond) (rm : Room) (av : List Value) (wc : va_W) (w1 : (Nat → Nat) → va_W) : Prop := ∀ sz, Met l y ws rm (sPre D cy av wc sz) (va_Qv (fun (_ : Nat → Nat) => True) (fun u t => va_P D vwCl (w1 u) t.heap ∧ va_D (va_A wc sz) (w1 u)) (va_A wc sz)) rm.cells rm.slots (va_A wc sz)
def MIa (l : Launch) (D : va_G) (cy : Nat → ClassId) (y : MethodName) (ws : List Cond) (rm : Room) (av : List Value) (wc : va_W) (w1 : (Nat → Nat) → va_W) (rv : Int32) : Prop := ∀ sz, Met l y ws rm (sPre D cy av wc sz) (va_Qi (fun r (_ : Nat → Nat) => r = rv) (fun u t => va_P D vwCl (w1 u) t.heap ∧ va_D (va_A wc sz) (w1 u)) (va_A wc sz)) rm.cells rm.slots (va_A wc sz)
theorem st_Va {l : Launch} {D : va_G} {cy : Nat → ClassId} {y : MethodName} {ws ws' : List Cond} {rm : Room} {av : List Value} {wc : va_W} {w1 : (Nat → Nat) → va_W} {cc : ByteArray} {maxL : Nat} (hy : plainName y.cls = true) (hw : ws = Cond.code y cc maxL none :: ws') (hlen : (lg_sl av).length ≤ maxL)
    (body : ∀ (p : Program) (e : Env) (s : State) (m : MethodId) (below : List Frame) (meth : Method) (c : Code) (A : Nat → Prop) (Q : State → Prop) (ls : Array Slot), CX p s m av.toArray meth c cc maxL none ws y.cls → meth.name = y.name → (∀ q, s.heap.size ≤ q → A q) → KZ D cy A s → va_P D vwCl wc s.heap → va_D A wc → va_S A s.heap s.heap [] → lv_has ls maxL (lv_args 0 av) →
      (∀ (H : Heap) (locs : List Loc) (ls : Array Slot) (pc : Nat) (u : Nat → Nat), decode cc pc = .ok (.return_, 1) → va_P D vwCl (w1 u) H → va_D A (w1 u) → va_S A s.heap H locs → W p l e rm s m av.toArray below meth c H locs rm.cells rm.slots Q (F0 m pc ls [])) →
      W p l e rm s m av.toArray below meth c s.heap [] 0 0 Q (F0 m 0 ls [])) : MVa l D cy y ws rm av wc w1 := by
  intro sz
  refine Met.ofW (cc := cc) (maxL := maxL) (ret := none) hy hw ?_
  intro p e s m args below meth c s₁ B hml hv
  obtain ⟨rfl, hsz, hP, hK, hD0, hZ⟩ := hv
  subst hsz
  have hts := atoms_spec (ws := ws) B.pre
  have hl := lv_entry av (n := maxL) hlen
  rw [lg_entry_eq]
  refine body p e s m below meth c (va_A wc s.heap.size) _ _ ⟨B.exec, B.bytes, B.returns, hml, findClass_of_methodNamed B.named, hts, B.notSynchronized⟩ (name_of_methodNamed B.named B.method).1 (fun q h => Or.inr h) ⟨hK, hZ⟩ hP (hD0.self (sz := s.heap.size)) va_S.rf hl ?_
  intro H locs ls pc u hd hP1 hD1 hS
  exact W.vret B.exec B.bytes B.returns (fun t ht hW => ⟨⟨u, rfl, trivial, by subst ht; exact ⟨hP1, hD1⟩⟩, hS.F ht⟩) hS.2.2 hd B.notSynchronized
theorem st_Ia {l : Launch} {D : va_G} {cy : Nat → ClassId} {y : MethodName} {ws ws' : List Cond} {rm : Room} {av : List Value} {wc : va_W} {w1 : (Nat → Nat) → va_W} {rv : Int32} {cc : ByteArray} {maxL : Nat} (hy : plainName y.cls = true) (hw : ws = Cond.code y cc maxL (some .int) :: ws') (hlen : (lg_sl av).length ≤ maxL)
    (body : ∀ (p : Program) (e : Env) (s : State) (m : MethodId) (below : List Frame) (meth : Method) (c : Code) (A : Nat → Prop) (Q : State → Prop) (ls : Array Slot), CX p s m av.toArray meth c cc maxL (some .int) ws y.cls → meth.name = y.name → (∀ q, s.heap.size ≤ q → A q) → KZ D cy A s → va_P D vwCl wc s.heap → va_D A wc → va_S A s.heap s.heap [] → lv_has ls maxL (lv_args 0 av) →
      (∀ (H : Heap) (locs : List Loc) (ls : Array Slot) (pc : Nat) (u : Nat → Nat), decode cc pc = .ok (.ireturn, 1) → va_P D vwCl (w1 u) H → va_D A (w1 u) → va_S A s.heap H locs → W p l e rm s m av.toArray below meth c H locs rm.cells rm.slots Q (F0 m pc ls [.int rv])) →
      W p l e rm s m av.toArray below meth c s.heap [] 0 0 Q (F0 m 0 ls [])) : MIa l D cy y ws rm av wc w1 rv := by
  intro sz
  refine Met.ofW (cc := cc) (maxL := maxL) (ret := some .int) hy hw ?_
  intro p e s m args below meth c s₁ B hml hv
  obtain ⟨rfl, hsz, hP, hK, hD0, hZ⟩ := hv
  subst hsz
  have hts := atoms_spec (ws := ws) B.pre
  have hl := lv_entry av (n := maxL) hlen
  rw [lg_entry_eq]
  refine body p e s m below meth c (va_A wc s.heap.size) _ _ ⟨B.exec, B.bytes, B.returns, hml, findClass_of_methodNamed B.named, hts, B.notSynchronized⟩ (name_of_methodNamed B.named B.method).1 (fun q h => Or.inr h) ⟨hK, hZ⟩ hP (hD0.self (sz := s.heap.size)) va_S.rf hl ?_
  intro H locs ls pc u hd hP1 hD1 hS
  exact W.iret (v := rv) B.exec B.bytes B.returns (fun t ht hW => ⟨⟨rv, u, rfl, rfl, by subst ht; exact ⟨hP1, hD1⟩⟩, hS.F ht⟩) hS.2.2 hd B.notSynchronized
section CLA
variable {l : Launch} {D : va_G} {cy : Nat → ClassId} {p : Program} {e : Env} {s : State} {m : MethodId} {args : Array Value} {below : List Frame} {meth : Method} {c : Code} {R : Room} {Q : State → Prop} {A : Nat → Prop} {H : Heap} {locs : List Loc} {ls : Array Slot} {pc nL cells slots : Nat} {cc : ByteArray} {ret : Option FieldType} {Ts : List Cond} {own : String} {ws wc : va_W} {w1 wa wb : (Nat → Nat) → va_W} {y : MethodName} {wsy : List Cond} {rm : Room} {b : Nat} {As rest st : List Value} {C : String} {index maxL n mc ms : Nat} {bytes : ByteArray} {rt : Option FieldType} {sel : List (Option Nat)} {ci k0 : Nat} {fs : List Value} {r : vw_C}
theorem run_va {a : Array Value} (hr : va_Run p l e R s m args below meth c H locs cells slots mc ms (F0 m pc ls st) rest (va_Qv (fun (_ : Nat → Nat) => True) (fun u t => va_P D vwCl (w1 u) t.heap ∧ va_D (va_A wc H.size) (w1 u)) (va_A wc H.size) a) (va_A wc H.size)) (hP : va_P D vwCl ws H) (hD : va_D A ws) (hS : va_S A s.heap H locs) (hA : ∀ q, s.heap.size ≤ q → A q) (isC : List Nat) (hsel : selOf ws.length isC = sel) (hC : isC.map (fun i => ws[i]?) = wc.map some) (hw : ∀ u, w1 u = wa u ++ wb u) (hla : ∀ u, isC.length = (wa u).length)
    (kk : ∀ (u : Nat → Nat) (H1 : Heap) (locs1 : List Loc), va_P D vwCl (mg sel ws (wa u) ++ wb u) H1 → va_D A (mg sel ws (wa u) ++ wb u) → va_S A s.heap H1 locs1 → W p l e R s m args below meth c H1 locs1 (cells + mc) (slots + ms) Q (F0 m (pc + 3) ls rest)) : W p l e R s m args below meth c H locs cells slots Q (F0 m pc ls st) := by
  have hFc := va_free (wc := wc) hD hS hA isC hC
  refine va_callv hr hS (fun q _ h => hFc q h) hFc (fun u t H1 locs1 ht hvm _ hB hz1 hk1 hS => ?_)
  rw [ht] at hB
  rw [hw u] at hB
  obtain ⟨a, b⟩ := sa_joinA hP hD hC (hla u) hk1 hFc hB.1 hB.2
  rw [hsel] at a b
  exact kk u H1 locs1 a b hS
theorem run_ia {rv : Int32} {a : Array Value} (hr : va_Run p l e R s m args below meth c H locs cells slots mc ms (F0 m pc ls st) rest (va_Qi (fun r (_ : Nat → Nat) => r = rv) (fun u t => va_P D vwCl (w1 u) t.heap ∧ va_D (va_A wc H.size) (w1 u)) (va_A wc H.size) a) (va_A wc H.size)) (hP : va_P D vwCl ws H) (hD : va_D A ws) (hS : va_S A s.heap H locs) (hA : ∀ q, s.heap.size ≤ q → A q) (isC : List Nat) (hsel : selOf ws.length isC = sel) (hC : isC.map (fun i => ws[i]?) = wc.map some) (hw : ∀ u, w1 u = wa u ++ wb u) (hla : ∀ u, isC.length = (wa u).length)
    (kk : ∀ (u : Nat → Nat) (H1 : Heap) (locs1 : List Loc), va_P D vwCl (mg sel ws (wa u) ++ wb u) H1 → va_D A (mg sel ws (wa u) ++ wb u) → va_S A s.heap H1 locs1 → W p l e R s m args below meth c H1 locs1 (cells + mc) (slots + ms) Q (F0 m (pc + 3) ls (.int rv :: rest))) : W p l e R s m args below meth c H locs cells slots Q (F0 m pc ls st) := by
  have hFc := va_free (wc := wc) hD hS hA isC hC
  refine va_calli hr hS (fun q _ h => hFc q h) hFc (fun r u t H1 locs1 ht hvm hrv hB hz1 hk1 hS => ?_)
  subst hrv
  rw [ht] at hB
  rw [hw u] at hB
  obtain ⟨a, b⟩ := sa_joinA hP hD hC (hla u) hk1 hFc hB.1 hB.2
  rw [hsel] at a b
  exact kk u H1 locs1 a b hS
/-- invokevirtual of a maker, void -/
theorem cl_VvA (isC : List Nat) (sel : List (Option Nat)) (nw : Nat) (k0 : Nat) (C0 : CX p s m args meth c cc nL ret Ts own) (hK : KZ D cy A s) (hP : va_P D vwCl ws H) (hD : va_D A ws) (hS : va_S A s.heap H locs) (hA : ∀ q, s.heap.size ≤ q → A q) (hM : MVa l D cy y wsy rm (.ref b :: As) wc w1) (cw : CallW R s args own C index y bytes maxL rt wsy rm rm.cells rm.slots n) (hnw : ws.length = nw) (hsel : selOf nw isC = sel) (hC : isC.map (fun i => ws[i]?) = wc.map some) (hnd : va_nd isC = true) (hw : ∀ u, w1 u = wa u ++ wb u) (hla : ∀ u, isC.length = (wa u).length) (hb0 : ws[k0]? = some (b, .inr (ci, fs))) (hci : vwCl[ci]? = some r) (hr : r.1 = C) (hn : As.length = n) (hsize : ls.size = nL) (hst : st = As.reverse ++ .ref b :: rest) (hcat : (rest.map fun v => v.category).sum ≤ 8) (hdg : decode cc pc = .ok (.invokevirtual index, 3)) (hcs : cells + rm.cells ≤ R.cells ∧ slots + rm.slots ≤ R.slots)
    (kk : ∀ (u : Nat → Nat) (H1 : Heap) (locs1 : List Loc), va_P D vwCl (mg sel ws (wa u) ++ wb u) H1 → va_D A (mg sel ws (wa u) ++ wb u) → va_S A s.heap H1 locs1 → W p l e R s m args below meth c H1 locs1 (cells + rm.cells) (slots + rm.slots) Q (F0 m (pc + 3) ls rest)) : W p l e R s m args below meth c H locs cells slots Q (F0 m pc ls st) :=
  run_va (va_runV C0.fix (hM H.size) cw (pre_V hK hP hD hS hA isC hC hnd hb0 hci hr) rfl hn hsize hst (lv_room hcat) hdg hcs) hP hD hS hA isC (by rw [hnw]; exact hsel) hC hw hla kk
theorem cl_ViA {rv : Int32} (isC : List Nat) (sel : List (Option Nat)) (nw : Nat) (k0 : Nat) (C0 : CX p s m args meth c cc nL ret Ts own) (hK : KZ D cy A s) (hP : va_P D vwCl ws H) (hD : va_D A ws) (hS : va_S A s.heap H locs) (hA : ∀ q, s.heap.size ≤ q → A q) (hM : MIa l D cy y wsy rm (.ref b :: As) wc w1 rv) (cw : CallW R s args own C index y bytes maxL rt wsy rm rm.cells rm.slots n) (hnw : ws.length = nw) (hsel : selOf nw isC = sel) (hC : isC.map (fun i => ws[i]?) = wc.map some) (hnd : va_nd isC = true) (hw : ∀ u, w1 u = wa u ++ wb u) (hla : ∀ u, isC.length = (wa u).length) (hb0 : ws[k0]? = some (b, .inr (ci, fs))) (hci : vwCl[ci]? = some r) (hr : r.1 = C) (hn : As.length = n) (hsize : ls.size = nL) (hst : st = As.reverse ++ .ref b :: rest) (hcat : (rest.map fun v => v.category).sum ≤ 8) (hdg : decode cc pc = .ok (.invokevirtual index, 3)) (hcs : cells + rm.cells ≤ R.cells ∧ slots + rm.slots ≤ R.slots)
    (kk : ∀ (u : Nat → Nat) (H1 : Heap) (locs1 : List Loc), va_P D vwCl (mg sel ws (wa u) ++ wb u) H1 → va_D A (mg sel ws (wa u) ++ wb u) → va_S A s.heap H1 locs1 → W p l e R s m args below meth c H1 locs1 (cells + rm.cells) (slots + rm.slots) Q (F0 m (pc + 3) ls (.int rv :: rest))) : W p l e R s m args below meth c H locs cells slots Q (F0 m pc ls st) :=
  run_ia (va_runV C0.fix (hM H.size) cw (pre_V hK hP hD hS hA isC hC hnd hb0 hci hr) rfl hn hsize hst (lv_room hcat) hdg hcs) hP hD hS hA isC (by rw [hnw]; exact hsel) hC hw hla kk
/-- a constructor -/
theorem cl_I (isC : List Nat) (sel : List (Option Nat)) (nw : Nat) (C0 : CX p s m args meth c cc nL ret Ts own) (hK : KZ D cy A s) (hP : va_P D vwCl ws H) (hD : va_D A ws) (hS : va_S A s.heap H locs) (hA : ∀ q, s.heap.size ≤ q → A q) (hM : MVa l D cy y wsy rm (.ref b :: As) wc w1) (cw : CallB R s args own index y bytes maxL none wsy rm rm.cells rm.slots n ∧ y.name = "<init>" ∧ (Cond.instanceMethod y).before args s = true) (hnw : ws.length = nw) (hsel : selOf nw isC = sel) (hC : isC.map (fun i => ws[i]?) = wc.map some) (hnd : va_nd isC = true) (hw : ∀ u, w1 u = wa u ++ wb u) (hla : ∀ u, isC.length = (wa u).length) (hn : As.length = n) (hsize : ls.size = nL) (hst : st = As.reverse ++ .ref b :: rest) (hcat : (rest.map fun v => v.category).sum ≤ 8) (hdg : decode cc pc = .ok (.invokespecial index, 3)) (hcs : cells + rm.cells ≤ R.cells ∧ slots + rm.slots ≤ R.slots)
    (kk : ∀ (u : Nat → Nat) (H1 : Heap) (locs1 : List Loc), va_P D vwCl (mg sel ws (wa u) ++ wb u) H1 → va_D A (mg sel ws (wa u) ++ wb u) → va_S A s.heap H1 locs1 → W p l e R s m args below meth c H1 locs1 (cells + rm.cells) (slots + rm.slots) Q (F0 m (pc + 3) ls rest)) : W p l e R s m args below meth c H locs cells slots Q (F0 m pc ls st) :=
  run_va (va_runI C0.fix (hM H.size) cw (pre_S hK hP hD hS hA isC hC hnd) rfl hn hsize hst (lv_room hcat) hdg hcs) hP hD hS hA isC (by rw [hnw]; exact hsel) hC hw hla kk
theorem cl_IN {host : String} (isC : List Nat) (sel : List (Option Nat)) (nw : Nat) (C0 : CX p s m args meth c cc nL ret Ts own) (hK : KZ D cy A s) (hP : va_P D vwCl ws H) (hD : va_D A ws) (hS : va_S A s.heap H locs) (hA : ∀ q, s.heap.size ≤ q → A q) (hM : MVa l D cy y wsy rm (.ref b :: As) wc w1) (cw : va_CN R s args own index y host bytes maxL none wsy rm rm.cells rm.slots n ∧ y.name = "<init>" ∧ (Cond.instanceMethod y).before args s = true) (hnw : ws.length = nw) (hsel : selOf nw isC = sel) (hC : isC.map (fun i => ws[i]?) = wc.map some) (hnd : va_nd isC = true) (hw : ∀ u, w1 u = wa u ++ wb u) (hla : ∀ u, isC.length = (wa u).length) (hn : As.length = n) (hsize : ls.size = nL) (hst : st = As.reverse ++ .ref b :: rest) (hcat : (rest.map fun v => v.category).sum ≤ 8) (hdg : decode cc pc = .ok (.invokespecial index, 3)) (hcs : cells + rm.cells ≤ R.cells ∧ slots + rm.slots ≤ R.slots)
    (kk : ∀ (u : Nat → Nat) (H1 : Heap) (locs1 : List Loc), va_P D vwCl (mg sel ws (wa u) ++ wb u) H1 → va_D A (mg sel ws (wa u) ++ wb u) → va_S A s.heap H1 locs1 → W p l e R s m args below meth c H1 locs1 (cells + rm.cells) (slots + rm.slots) Q (F0 m (pc + 3) ls rest)) : W p l e R s m args below meth c H locs cells slots Q (F0 m pc ls st) :=
  run_va (va_runIN C0.fix (hM H.size) cw (pre_S hK hP hD hS hA isC hC hnd) rfl hn hsize hst (lv_room hcat) hdg hcs) hP hD hS hA isC (by rw [hnw]; exact hsel) hC hw hla kk
/-- new arrays of numbers -/
theorem newN (t0 : Nat) {ty : FieldType} {atype : ArrayType} (hexec : p.tables.exec = Jvm.exec) (hb : c.code = cc) (hK : KZ D cy A s) (hP : va_P D vwCl ws H) (hD : va_D A ws) (hS : va_S A s.heap H locs) (hA : ∀ q, s.heap.size ≤ q → A q) (harr : (Cond.arrayClass (newarray.typeOf atype)).before args s = true) (hty : newarray.typeOf atype = ty) (ht : (tysG cy)[t0]? = some (cy t0, ty)) (hra : ∀ cA : ClassId, va_RA s cA ty = (s.vm.findClass ("[" ++ ty.toString) = some cA)) (hdv : defaultValue ty = .int 0)
    {x : Int32} {N' : Nat} (hn : ¬ x < 0) (hN : x.toNatClampNeg = N') (hbytes : N' * componentBytes ty ≤ 536870912) (hcells : cells + 1 ≤ R.cells) (hslots : slots + N' ≤ R.slots) (hdg : decode cc pc = .ok (.newarray atype, 2))
    (kk : ∀ (q : Nat) (H1 : Heap), va_P D vwCl (ws ++ [(q, .inl (cy t0, N', .inl (fun _ => 0)))]) H1 → va_D A (ws ++ [(q, .inl (cy t0, N', .inl (fun _ => 0)))]) → va_S A s.heap H1 locs → W p l e R s m args below meth c H1 locs (cells + 1) (slots + N') Q (F0 m (pc + 2) ls (.ref q :: rest))) : W p l e R s m args below meth c H locs cells slots Q (F0 m pc ls (.int x :: rest)) := by
  refine va_newa (a0 := (N', .inl (fun _ => 0))) hexec hb harr hty hK.1.1 hP hD hS hA (fun cA => by rw [vp_cell_i, hdv]) hn hN hbytes hcells hslots hdg (fun q cA H1 hK1 hP1 hD1 hS1 => ?_)
  have h1 : va_RA s cA ty := (hK1.2 (tysG cy).length (cA, ty) (by rw [List.getElem?_append_right (Nat.le_refl _), Nat.sub_self]; rfl)).2
  have h2 : va_RA s (cy t0) ty := (hK.1.1.2 t0 _ ht).2
  rw [hra] at h1 h2
  have e : cA = cy t0 := Option.some.inj (h1.symm.trans h2)
  subst e
  exact kk q H1 hP1 hD1 hS1
/-- new arrays of references -/
theorem newR (t0 : Nat) {own C : String} {index : Nat} (hexec : p.tables.exec = Jvm.exec) (hb : c.code = cc) (hK : KZ D cy A s) (hP : va_P D vwCl ws H) (hD : va_D A ws) (hS : va_S A s.heap H locs) (hA : ∀ q, s.heap.size ≤ q → A q) (hown : s.vm.findClass own = some m.cls) (hclink : (Cond.classLink own index C).before args s = true) (hover : va_AO C s) (ht : (tysG cy)[t0]? = some (cy t0, .object C))
    {x : Int32} {N' : Nat} (hn : ¬ x < 0) (hN : x.toNatClampNeg = N') (hbytes : N' * 4 ≤ 536870912) (hcells : cells + 1 ≤ R.cells) (hslots : slots + N' ≤ R.slots) (hdg : decode cc pc = .ok (.anewarray index, 3))
    (kk : ∀ (q : Nat) (H1 : Heap), va_P D vwCl (ws ++ [(q, .inl (cy t0, N', .inr (.inr (.inr (.inr (rfO (List.replicate N' none)))))))]) H1 → va_D A (ws ++ [(q, .inl (cy t0, N', .inr (.inr (.inr (.inr (rfO (List.replicate N' none)))))))]) → va_S A s.heap H1 locs → W p l e R s m args below meth c H1 locs (cells + 1) (slots + N') Q (F0 m (pc + 3) ls (.ref q :: rest))) : W p l e R s m args below meth c H locs cells slots Q (F0 m pc ls (.int x :: rest)) := by
  refine va_newq hexec hb hown hclink hover hK.1.1 hP hD hS hA hn hN hbytes hcells hslots hdg (fun q cA H1 hK1 hP1 hD1 hS1 => ?_)
  obtain ⟨_, _, _, _, _, h1⟩ := (hK1.2 (tysG cy).length (cA, .object C) (by rw [List.getElem?_append_right (Nat.le_refl _), Nat.sub_self]; rfl)).2
  obtain ⟨_, _, _, _, _, h2⟩ := (hK.1.1.2 t0 _ ht).2
  have e : cA = cy t0 := Option.some.inj (h1.symm.trans h2)
  subst e
  rw [rfO_new N'] at hP1 hD1
  exact kk q H1 hP1 hD1 hS1
/-- a reference into a row that is being filled -/
theorem astK (q0 t0 qk ci k : Nat) {a v n : Nat} {cA : ClassId} {r : vw_C} {vs : List Value} {lo : List (Option Nat)} (hexec : p.tables.exec = Jvm.exec) (hb : c.code = cc) (hK : KZ D cy A s) (hP : va_P D vwCl ws H) (hD : va_D A ws) (hS : va_S A s.heap H locs) (ha : ws[q0]? = some (a, .inl (cA, n, .inr (.inr (.inr (.inr (rfO lo))))))) (ht : (tysG cy)[t0]? = some (cA, .object r.1)) (hv : ws[qk]? = some (v, .inr (ci, vs))) (hc : vwCl[ci]? = some r) {i : Int32} (hin : ixb i n = true) (hi : i.toNatClampNeg = k) (hk : k < lo.length) (hdg : decode cc pc = .ok (.aastore, 1))
    (kk : ∀ (H1 : Heap) (locs1 : List Loc), va_P D vwCl (ws.set q0 (a, .inl (cA, n, .inr (.inr (.inr (.inr (rfO (lo.set k (some v)))))))))  H1 → va_D A (ws.set q0 (a, .inl (cA, n, .inr (.inr (.inr (.inr (rfO (lo.set k (some v))))))))) → va_S A s.heap H1 locs1 → W p l e R s m args below meth c H1 locs1 cells slots Q (F0 m (pc + 1) ls rest)) : W p l e R s m args below meth c H locs cells slots Q (F0 m pc ls (.ref v :: .int i :: .ref a :: rest)) := by
  refine va_astq hexec hb hK.1.1 hP hD hS q0 t0 qk ci ha ht hv hc (ixb_in hin) hdg (fun H1 locs1 hP1 hD1 hS1 => ?_)
  rw [hi, rfO_up lo k v hk] at hP1 hD1
  exact kk H1 locs1 hP1 hD1 hS1
/-- new int[2][K] -/
theorem newII {own : String} {index K' : Nat} (hexec : p.tables.exec = Jvm.exec) (hb : c.code = cc) (hK : KZ D cy A s) (hP : va_P D vwCl ws H) (hD : va_D A ws) (hS : va_S A s.heap H locs) (hA : ∀ q, s.heap.size ≤ q → A q) (hown : s.vm.findClass own = some m.cls) (hclink : (Cond.classLink own index "[[I").before args s = true) (harr : (Cond.arrayClass .int).before args s = true)
    {k : Int32} (hk : ¬ k < 0) (hM : k.toNatClampNeg = K') (hb2 : K' * 4 ≤ 536870912) (hcells : cells + 3 ≤ R.cells) (hslots : slots + (2 + 2 * K') ≤ R.slots) (hdg : decode cc pc = .ok (.multianewarray index 2, 4))
    (kk : ∀ (q r0 r1 : Nat) (H1 : Heap), va_P D vwCl (ws ++ [(q, .inl (cy 6, 2, .inr (.inr (.inr (.inr (rfL [r0, r1])))))), (r0, .inl (cy 0, K', .inl (fun _ => 0))), (r1, .inl (cy 0, K', .inl (fun _ => 0)))]) H1 → va_D A (ws ++ [(q, .inl (cy 6, 2, .inr (.inr (.inr (.inr (rfL [r0, r1])))))), (r0, .inl (cy 0, K', .inl (fun _ => 0))), (r1, .inl (cy 0, K', .inl (fun _ => 0)))]) → va_S A s.heap H1 locs →
      W p l e R s m args below meth c H1 locs (cells + 1 + 2) (slots + 2 + 2 * K') Q (F0 m (pc + 4) ls (.ref q :: rest))) : W p l e R s m args below meth c H locs cells slots Q (F0 m pc ls (.int k :: .int 2 :: rest)) := by
  subst hM
  intro T hT Xs
  have hn2 : (2 : Int32).toNatClampNeg = 2 := by decide
  obtain ⟨vm₁, cA, comp, -, fA, fC, hO, -, X', step⟩ := Xs.multianewarray2F (ty := .int) hexec hown hclink (show (Cond.arrayOver (.array .int)).before args s = true from hK.1.2.2.2.2.2.2) harr (g := F0 m pc ls (.int k :: .int 2 :: rest)) rfl (by rw [hb]; exact hdg) rfl (by decide) hk (by decide) hb2 (by omega) (by decide) (by decide) (by rw [hn2]; omega) (by rw [hn2]; omega)
  have e0 : cy 0 = comp := Option.some.inj ((show s.vm.findClass ("[" ++ (FieldType.int).toString) = some (cy 0) from (hK.1.1.2 0 (cy 0, .int) rfl).2).symm.trans fC)
  have e6 : cy 6 = cA := Option.some.inj ((show s.vm.findClass ("[" ++ (FieldType.array .int).toString) = some (cy 6) from (hK.1.1.2 6 (cy 6, .array .int) rfl).2).symm.trans fA)
  subst e0
  subst e6
  rw [hn2] at X' step
  generalize hF : Jvm.Free.Multi.fill (T.setVm vm₁) (cy 6) (cy 0) 2 k.toNatClampNeg (defaultValue .int) 2 = F at X' step
  have hTh : (T.setVm vm₁).heap = H := hT
  obtain ⟨f1, f2, -, -⟩ := Jvm.Free.Multi.fill_facts (T.setVm vm₁) (cy 6) (cy 0) 2 k.toNatClampNeg (defaultValue .int) 2
  rw [hF, hTh] at f1 f2
  have hold : ∀ x : Nat, x < H.size → F.heap[x]? = H[x]? := fun x hx => by
    have := Jvm.Free.Multi.fill_old (T.setVm vm₁) (cy 6) (cy 0) 2 k.toNatClampNeg (defaultValue .int) (a := x) (by rw [hTh]; exact hx) 2
    rw [hF, hTh] at this
    exact this
  have hrow : ∀ j : Nat, j < 2 → F.heap[H.size + 1 + j]? = some (vp_cell (cy 0) (k.toNatClampNeg, .inl (fun _ => 0))) := fun j hj => by
    have := Jvm.Free.Multi.fill_inner (T.setVm vm₁) (cy 6) (cy 0) 2 k.toNatClampNeg (defaultValue .int) 2 j hj
    rw [hF, hTh] at this
    rw [this]
    show some ({ cls := cy 0, slots := Array.replicate k.toNatClampNeg (.int 0), vm := .none } : Cell) = _
    rw [vp_cell_i, ← arrV_new]
  have hout : Jvm.Free.Multi.outerC (cy 6) 2 H.size 2 = vp_cell (cy 6) (2, .inr (.inr (.inr (.inr (rfL [H.size + 1, H.size + 2]))))) := by
    rw [vp_cell_q]
    show (({ cls := cy 6, slots := Array.replicate 2 .null, vm := .none } : Cell).setSlot 0 (.ref (H.size + 1 + 0))).setSlot 1 (.ref (H.size + 1 + 1)) = _
    rfl
  rw [hout] at f2
  have hP0 : va_P D vwCl ws F.heap := hP.kept (fun k9 x hx => hold x.1 ((hP k9 x hx).lt))
  have hlt : ∀ (k9 : Nat) (x : Nat × va_E), ws[k9]? = some x → x.1 < H.size := fun k9 x hx => (hP k9 x hx).lt
  have hw3 : va_P D vwCl [(H.size, .inl (cy 6, 2, .inr (.inr (.inr (.inr (rfL [H.size + 1, H.size + 2])))))), (H.size + 1, .inl (cy 0, k.toNatClampNeg, .inl (fun _ => 0))), (H.size + 2, .inl (cy 0, k.toNatClampNeg, .inl (fun _ => 0)))] F.heap := by
    intro k9 x hx
    match k9, hx with
    | 0, hx => cases hx; exact f2
    | 1, hx => cases hx; exact hrow 0 (by decide)
    | 2, hx => cases hx; exact hrow 1 (by decide)
    | k9 + 3, hx => simp at hx
  have hd3 : va_D A [(H.size, (.inl (cy 6, 2, .inr (.inr (.inr (.inr (rfL [H.size + 1, H.size + 2]))))) : va_E)), (H.size + 1, .inl (cy 0, k.toNatClampNeg, .inl (fun _ => 0))), (H.size + 2, .inl (cy 0, k.toNatClampNeg, .inl (fun _ => 0)))] := by
    have had : ∀ (k9 : Nat) (x : Nat × va_E), ([(H.size, (.inl (cy 6, 2, .inr (.inr (.inr (.inr (rfL [H.size + 1, H.size + 2]))))) : va_E)), (H.size + 1, .inl (cy 0, k.toNatClampNeg, .inl (fun _ => 0))), (H.size + 2, .inl (cy 0, k.toNatClampNeg, .inl (fun _ => 0)))] : va_W)[k9]? = some x → x.1 = H.size + k9 := by
      intro k9 x hx
      match k9, hx with
      | 0, hx => cases hx; rfl
      | 1, hx => cases hx; rfl
      | 2, hx => cases hx; rfl
      | k9 + 3, hx => simp at hx
    refine ⟨fun i j x y hi hj hxy => ?_, fun k9 x hx => ?_⟩
    · have a := had i x hi
      have b := had j y hj
      omega
    · rw [had k9 x hx]; exact hA _ (Nat.le_trans hS.1 (Nat.le_add_right _ _))
  have hDn : va_D A (ws ++ [(H.size, (.inl (cy 6, 2, .inr (.inr (.inr (.inr (rfL [H.size + 1, H.size + 2]))))) : va_E)), (H.size + 1, .inl (cy 0, k.toNatClampNeg, .inl (fun _ => 0))), (H.size + 2, .inl (cy 0, k.toNatClampNeg, .inl (fun _ => 0)))]) := by
    refine va_D.app hD hd3 (fun i j x y hx hy hxy => ?_)
    have a := hlt i x hx
    match j, hy with
    | 0, hy => cases hy; simp at hxy; omega
    | 1, hy => cases hy; simp at hxy; omega
    | 2, hy => cases hy; simp at hxy; omega
    | j + 3, hy => simp at hy
  have hSn : va_S A s.heap F.heap locs := ⟨by rw [f1]; have := hS.1; omega, fun q h1 h2 => by rw [hold q (Nat.lt_of_lt_of_le h1 hS.1)]; exact hS.2.1 q h1 h2, hS.2.2⟩
  obtain ⟨t, a1, b1⟩ := kk H.size (H.size + 1) (H.size + 2) F.heap (hP0.app hw3) hDn hSn F rfl X'
  exact ⟨t, step t (by rw [hT]; exact a1), b1⟩
end CLA
theorem mX6_init_ml : Cond.methodLink RX6 3 objectInit ∈ wsX6_init := by decide +kernel
theorem mX6_init_im : Cond.instanceMethod objectInit ∈ wsX6_init := by decide +kernel
theorem mX6_init_co : Cond.code objectInit ⟨#[0xb1]⟩ 1 none ∈ wsX6_init := by decide +kernel
theorem mX6_init_m9 : Cond.methodLink RX6 9 Lib.Math.max.name ∈ wsX6_init := by decide +kernel
theorem mX6_init_ms : Cond.static Lib.Math.max.name ∈ wsX6_init := by decide +kernel
theorem mX6_init_mi : Cond.initialized "java/lang/Math" ∈ wsX6_init := by decide +kernel
theorem mX6_init_mc : Cond.code Lib.Math.max.name Lib.Math.max.code 2 (some .int) ∈ wsX6_init := by decide +kernel
theorem mX6_init_ac : Cond.arrayClass .int ∈ wsX6_init := by decide +kernel
theorem mX6_init_15 : Cond.fieldLink RX6 15 "OneWordLetters$Row" "letters" "[I" ∈ wsX6_init := by decide +kernel
theorem uX6_init_X6 : ∀ w ∈ wsX60, w ∈ wsX6_init := fun _ h => List.mem_cons_of_mem _ (List.mem_append_right _ h)
set_option maxRecDepth 100000 in
set_option maxHeartbeats 4000000 in
/-- Row(n) -/
theorem c_X6_init (l : Launch) (D : va_G) (cy : Nat → ClassId) (a_t : Nat) (n : Nat) (hn : n ≤ 100000) : MVa l D cy yX6_init wsX6_init { frames := 1, cells := 1, slots := n, locals := 20 } [.ref a_t, .int (nI n)] [(a_t, .inr (6, [.null, .int 0]))] (fun u => [(a_t, .inr (6, [.ref (u 0), .int 0])), (u 0, .inl (cy 0, n, .inl (fun _ => 0)))]) := by
  refine st_Va (by decide) rfl (Nat.le_of_ble_eq_true rfl) (fun p e s m below meth c A Q ls C0 hnm hA hK hP hD hS hl hret => ?_)
  obtain ⟨hx, hb, hr, hml, hown, hts, hlocks⟩ := id C0
  have hin : meth.name = "<init>" := hnm
  have hl : lv_has ls 2 [(0, .ref a_t), (1, .int (nI n))] := hl
  refine lv_aload_n hx hb dX6_init_0 rfl (lv_at hl 0 rfl) ?_
  refine W.objInit hx hb hown (hts _ mX6_init_ml) (hts _ mX6_init_im) (hts _ mX6_init_co) rfl (by rw [hml]; exact hl.1) rfl dX6_init_1 (Nat.le_of_ble_eq_true rfl) (Nat.le_of_ble_eq_true rfl) ?_
  refine W.eq (g2 := F0 m 4 ls []) rfl ?_
  refine lv_aload_n hx hb dX6_init_4 rfl (lv_at hl 0 rfl) ?_
  refine lv_iload_n hx hb dX6_init_5 rfl (lv_at hl 1 rfl) ?_
  refine lv_iconst (v := 0) hx hb dX6_init_6 (by decide) ?_
  refine va_mmax hx hb (by rw [hml]; exact hl.1.symm) hown (hts _ mX6_init_m9) (hts _ mX6_init_ms) (hts _ mX6_init_mi) (hts _ mX6_init_mc) (Nat.le_of_ble_eq_true rfl) (Nat.le_of_ble_eq_true rfl) (Nat.zero_le _) (Nat.zero_le _) dX6_init_7 ?_
  rw [if_neg (nI_pos (by omega))]
  refine newN (atype := .int) (ty := .int) (N' := n) 0 hx hb hK hP hD hS hA (hts _ mX6_init_ac) rfl rfl (fun _ => rfl) rfl (nI_pos (by omega)) (nI_clamp (by omega)) (by show n * 4 ≤ _; omega) (Nat.le_of_ble_eq_true rfl) (by show 0 + n ≤ n; omega) dX6_init_10 (fun q H hP hD hS => ?_)
  have hP : va_P D vwCl [(a_t, .inr (6, [.null, .int 0])), (q, .inl (cy 0, n, .inl (fun _ => 0)))] H := hP
  have hD : va_D A [(a_t, .inr (6, [.null, .int 0])), (q, .inl (cy 0, n, .inl (fun _ => 0)))] := hD
  refine va_putF (D := D) (ci := 6) (v := .ref q) (ty := .array .int) (C := RX6) (T := TX6) (N := 2) hx hb hts uX6_init_X6 tyX6 tyX6_ok nmX6 hown hK.1.1 hP hD hS 0 rfl rfl 0 (by decide) (hts _ mX6_init_15) (fun _ h9 => h9) rfl hin rfl (by decide +kernel) rfl rfl (Nat.le_of_ble_eq_true rfl) dX6_init_12 (fun H locs hP hD hS => ?_)
  have hP : va_P D vwCl [(a_t, .inr (6, [.ref q, .int 0])), (q, .inl (cy 0, n, .inl (fun _ => 0)))] H := hP
  have hD : va_D A [(a_t, .inr (6, [.ref q, .int 0])), (q, .inl (cy 0, n, .inl (fun _ => 0)))] := hD
  refine W.widen (k := 1) (n := n) (by omega) (by omega) ?_
  exact hret _ _ _ _ (adL [q]) dX6_init_15 hP hD hS
