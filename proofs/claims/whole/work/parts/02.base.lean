/-! base of my own: pure guards, the nest's words, standard contracts, one row a call -/
def ixb (i : Int32) (n : Nat) : Bool := decide (¬ (i < 0 ∨ n ≤ i.toNatClampNeg))
theorem ixb_in {i : Int32} {n : Nat} (h : ixb i n = true) : vp_in i n := of_decide_eq_true (p := ¬ (i < 0 ∨ n ≤ i.toNatClampNeg)) h
def zb (v : Int32) : Bool := decide (v = 0 ∨ v = 1)
theorem zb_n {v : Int32} (h : zb v = true) : narrow .boolean (.int v) = .int v := by
  rcases of_decide_eq_true h with rfl | rfl <;> rfl
theorem zb_f {v : Int32} (h : zb v = true) : fits .boolean (.int v) = true := by
  rcases of_decide_eq_true h with rfl | rfl <;> rfl
def FU : Nat := 10000
theorem hb_t {α : Type} {c : Prop} [Decidable c] {a b : Option α} {r : α} (h : (if c then a else b) = some r) (hc : c) : a = some r := by rw [if_pos hc] at h; exact h
theorem hb_f {α : Type} {c : Prop} [Decidable c] {a b : Option α} {r : α} (h : (if c then a else b) = some r) (hc : ¬ c) : b = some r := by rw [if_neg hc] at h; exact h
theorem hb_g {α : Type} {c : Prop} [Decidable c] {a : Option α} {r : α} (h : (if c then a else none) = some r) : c ∧ a = some r := by
  by_cases hc : c
  · rw [if_pos hc] at h; exact ⟨hc, h⟩
  · rw [if_neg hc] at h; cases h
theorem hb_b {α β : Type} {x : Option α} {k : α → Option β} {r : β} (h : x.bind k = some r) : ∃ y, x = some y ∧ k y = some r := Option.bind_eq_some_iff.mp h
def tysG (cy : Nat → ClassId) : List (ClassId × FieldType) := [(cy 0, .int), (cy 1, .byte), (cy 2, .boolean), (cy 3, .object RX0), (cy 4, .object RX2), (cy 5, .object RX6), (cy 6, .array .int)]
def nestW : List Cond := [.fieldLinkNest "OneWordLetters" 143 "OneWordLetters$Reader" "length" "I" "OneWordLetters", .fieldLinkNest "OneWordLetters" 128 "OneWordLetters$Reader" "faultByte" "I" "OneWordLetters", .fieldLinkNest "OneWordLetters$Reader" 62 "OneWordLetters$Tongue" "length" "I" "OneWordLetters", .fieldLinkNest "OneWordLetters" 131 "OneWordLetters$Tongue" "length" "I" "OneWordLetters", .fieldLinkNest "OneWordLetters$Letters" 72 "OneWordLetters$Tongue" "length" "I" "OneWordLetters", .fieldLinkNest "OneWordLetters" 134 "OneWordLetters$Tongue" "words" "I" "OneWordLetters", .fieldLinkNest "OneWordLetters$Reader" 82 "OneWordLetters$Tongue" "words" "I" "OneWordLetters", .fieldLinkNest "OneWordLetters$Letters" 82 "OneWordLetters$Tongue" "words" "I" "OneWordLetters", .fieldLinkNest "OneWordLetters" 137 "OneWordLetters$Tongue" "frames" "I" "OneWordLetters", .fieldLinkNest "OneWordLetters$Reader" 93 "OneWordLetters$Tongue" "frames" "I" "OneWordLetters", .fieldLinkNest "OneWordLetters" 140 "OneWordLetters$Tongue" "pairs" "I" "OneWordLetters", .fieldLinkNest "OneWordLetters$Reader" 99 "OneWordLetters$Tongue" "pairs" "I" "OneWordLetters", .fieldLinkNest "OneWordLetters" 174 "OneWordLetters$Tongue" "kinds" "[I" "OneWordLetters", .fieldLinkNest "OneWordLetters$Letters" 49 "OneWordLetters$Tongue" "worths" "[[I" "OneWordLetters", .fieldLinkNest "OneWordLetters" 177 "OneWordLetters$Tongue" "worths" "[[I" "OneWordLetters", .fieldLinkNest "OneWordLetters$Letters" 53 "OneWordLetters$Tongue" "pairWorths" "[[I" "OneWordLetters", .fieldLinkNest "OneWordLetters" 309 "OneWordLetters$Tongue" "pairWorths" "[[I" "OneWordLetters", .fieldLinkNest "OneWordLetters$Letters" 75 "OneWordLetters$Tongue" "scales" "[I" "OneWordLetters", .fieldLinkNest "OneWordLetters" 295 "OneWordLetters$Letters" "tongues" "I" "OneWordLetters", .fieldLinkNest "OneWordLetters$Paths" 44 "OneWordLetters$Letters" "size" "I" "OneWordLetters", .fieldLinkNest "OneWordLetters" 107 "OneWordLetters$Letters" "size" "I" "OneWordLetters", .fieldLinkNest "OneWordLetters$Foresight" 39 "OneWordLetters$Letters" "size" "I" "OneWordLetters", .fieldLinkNest "OneWordLetters" 166 "OneWordLetters$Letters" "standing" "I" "OneWordLetters", .fieldLinkNest "OneWordLetters" 150 "OneWordLetters$Course" "letter" "I" "OneWordLetters", .fieldLinkNest "OneWordLetters" 153 "OneWordLetters$Course" "turn" "I" "OneWordLetters", .fieldLinkNest "OneWordLetters" 156 "OneWordLetters$Course" "settled" "Z" "OneWordLetters", .fieldLinkNest "OneWordLetters" 216 "OneWordLetters$Course" "gained" "[I" "OneWordLetters", .fieldLinkNest "OneWordLetters" 160 "OneWordLetters$Course" "sent" "I" "OneWordLetters", .fieldLinkNest "OneWordLetters" 144 "OneWordLetters$Course" "law" "I" "OneWordLetters", .fieldLinkNest "OneWordLetters" 147 "OneWordLetters$Course" "way" "I" "OneWordLetters", .fieldLinkNest "OneWordLetters" 279 "OneWordLetters$Course" "seed" "I" "OneWordLetters", .fieldLinkNest "OneWordLetters" 300 "OneWordLetters$Row" "letters" "[I" "OneWordLetters", .fieldLinkNest "OneWordLetters$Paths" 50 "OneWordLetters$Row" "count" "I" "OneWordLetters", .fieldLinkNest "OneWordLetters$Foresight" 53 "OneWordLetters$Row" "count" "I" "OneWordLetters", .fieldLinkNest "OneWordLetters" 163 "OneWordLetters$Row" "count" "I" "OneWordLetters", .fieldLinkNest "OneWordLetters" 263 "OneWordLetters$Guess" "house" "I" "OneWordLetters", .fieldLinkNest "OneWordLetters" 261 "OneWordLetters$Guess" "worths" "[I" "OneWordLetters", .methodLinkNest "OneWordLetters" 9 ⟨"OneWordLetters$Reader", "<init>", "()V"⟩ "OneWordLetters", .methodLinkNest "OneWordLetters" 18 ⟨"OneWordLetters$Tongue", "<init>", "()V"⟩ "OneWordLetters", .methodLinkNest "OneWordLetters" 37 ⟨"OneWordLetters$Course", "<init>", "()V"⟩ "OneWordLetters", .methodLinkNest "OneWordLetters" 94 ⟨"OneWordLetters$Guess", "<init>", "()V"⟩ "OneWordLetters", .methodLinkNest "OneWordLetters" 244 ⟨"OneWordLetters$Foresight", "look", "(III)I"⟩ "OneWordLetters"]
def isNest : Cond → Bool
  | .fieldLinkNest _ _ _ _ _ _ => true
  | .methodLinkNest _ _ _ _ => true
  | _ => false
theorem nestW_all : ∀ w ∈ nestW, isNest w = true := by
  have h : nestW.all isNest = true := by decide +kernel
  exact fun w hw => List.all_eq_true.mp h w hw
theorem nest_onT {w : Cond} (h : isNest w = true) : w.onTables = true := by
  cases w <;> first | rfl | cases h
theorem nest_warm {w : Cond} (hn : isNest w = true) {s U : State} (hW : s.WarmedH U.vm) (h : va_Nw w s) : va_Nw w U := by
  cases w <;> first | exact va_Nw.warmF hW h | exact va_Nw.warmM hW h | cases hn
def skI : List Nat := [48, 67, 72, 77, 110, 112, 114, 116]
def skT : List String := ["letter", "word", "frame", "pair", "name", "deed", "link", "turn"]
def skL : List Nat := [6, 4, 5, 4, 4, 4, 4, 4]
def skB : List (List Int32) := [[108, 101, 116, 116, 101, 114], [119, 111, 114, 100], [102, 114, 97, 109, 101], [112, 97, 105, 114], [110, 97, 109, 101], [100, 101, 101, 100], [108, 105, 110, 107], [116, 117, 114, 110]]
def KW (D : va_G) (cy : Nat → ClassId) (U : State) : Prop := va_K D vwCl (tysG cy) U ∧ (∀ w ∈ nestW, va_Nw w U) ∧ ∀ i : Nat, i < 8 → vk_R "OneWordLetters$Reader" (skI.getD i 0) (skT.getD i "") (cy (100 + i)) U
theorem KW.warm {D : va_G} {cy : Nat → ClassId} {s U : State} (h : KW D cy s) (hW : s.WarmedH U.vm) : KW D cy U :=
  ⟨va_K.moved hW.alike h.1, fun w hw => nest_warm (nestW_all w hw) hW (h.2.1 w hw), fun i hi => (h.2.2 i hi).warm hW⟩
theorem KW.call {D : va_G} {cy : Nat → ClassId} {U : State} {g : JFrame} {mk : MethodId} {a : Array Value} (h : KW D cy U) : KW D cy (U.calling g mk a) :=
  ⟨va_K.moved (u := U) (U := U.calling g mk a) (Vm.Alike.refl U.vm) h.1, fun w hw => va_Nw.same (u := U) (U := U.calling g mk a) (nest_onT (nestW_all w hw)) rfl (h.2.1 w hw), fun i hi => vk_R.same (u := U) (U := U.calling g mk a) rfl (h.2.2 i hi)⟩
theorem KW.nw {D : va_G} {cy : Nat → ClassId} {U : State} (h : KW D cy U) (A : Array Value) {w : Cond} (hw : w ∈ nestW) : w.before A U = true := va_Nw.use (nest_onT (nestW_all w hw)) (h.2.1 w hw)
/-- the String constants and String's own static, outside A -/
def SK (cy : Nat → ClassId) (A : Nat → Prop) (U : State) (H : Heap) : Prop := vk_S 8 skL skB (fun i => cy (100 + i)) (fun i => cy (200 + i)) A U H ∧ va_Z "java/lang/String" "COMPACT_STRINGS" "Z" (.int 1) A U H ∧ va_Zq "jdk/internal/util/Preconditions" "SIOOBE_FORMATTER" "Ljava/util/function/BiFunction;" A U H
theorem SK.moved {cy : Nat → ClassId} {A : Nat → Prop} {u U : State} {H : Heap} (hvm : u.vm.Alike U.vm) (h : SK cy A u H) : SK cy A U H := ⟨h.1.moved hvm, h.2.1.moved hvm, h.2.2.moved hvm⟩
theorem SK.kept {cy : Nat → ClassId} {A : Nat → Prop} {U : State} {H H1 : Heap} (h : SK cy A U H) (hq : ∀ a : Nat, a < H.size → ¬ A a → H1[a]? = H[a]?) : SK cy A U H1 := ⟨h.1.kept hq, h.2.1.kept hq, h.2.2.kept hq⟩
theorem SK.narrow {cy : Nat → ClassId} {A B : Nat → Prop} {U : State} {H : Heap} (h : SK cy A U H) (hAB : ∀ q, B q → A q) : SK cy B U H := ⟨h.1.narrow hAB, h.2.1.narrow hAB, h.2.2.narrow hAB⟩
def KZ (D : va_G) (cy : Nat → ClassId) (A : Nat → Prop) (s : State) : Prop := KW D cy s ∧ SK cy A s s.heap
def sPre (D : va_G) (cy : Nat → ClassId) (av : List Value) (wc : va_W) (sz : Nat) : Array Value → State → Prop := va_Pc av (fun U => U.heap.size = sz ∧ va_P D vwCl wc U.heap ∧ KW D cy U ∧ va_D (fun _ => True) wc ∧ SK cy (va_A wc sz) U U.heap)
theorem sPre.blind {D : va_G} {cy : Nat → ClassId} {av : List Value} {wc : va_W} {sz : Nat} : FrameBlind (sPre D cy av wc sz) := fun a U g mk q => ⟨q.1, q.2.1, q.2.2.1, KW.call q.2.2.2.1, q.2.2.2.2.1, SK.moved (u := U) (U := U.calling g mk a) (Vm.Alike.refl U.vm) q.2.2.2.2.2⟩
def sQi (D : va_G) (rv : Int32) (wc w1 : va_W) (sz : Nat) : Array Value → State → Outcome → State → Prop := va_Qi (fun r (_ : Unit) => r = rv) (fun _ t => va_P D vwCl w1 t.heap) (va_A wc sz)
def sQl (D : va_G) (rv : Int64) (wc w1 : va_W) (sz : Nat) : Array Value → State → Outcome → State → Prop := va_Ql (fun r (_ : Unit) => r = rv) (fun _ t => va_P D vwCl w1 t.heap) (va_A wc sz)
def sQv (D : va_G) (wc w1 : va_W) (sz : Nat) : Array Value → State → Outcome → State → Prop := va_Qv (fun (_ : Unit) => True) (fun _ t => va_P D vwCl w1 t.heap) (va_A wc sz)
/-- a contract: on the cells wc the method answers rv and leaves w1 there; nothing is made -/
def MI (l : Launch) (D : va_G) (cy : Nat → ClassId) (y : MethodName) (ws : List Cond) (rm : Room) (av : List Value) (wc w1 : va_W) (rv : Int32) : Prop := ∀ sz, Met l y ws rm (sPre D cy av wc sz) (sQi D rv wc w1 sz) 0 0 (va_A wc sz)
def ML (l : Launch) (D : va_G) (cy : Nat → ClassId) (y : MethodName) (ws : List Cond) (rm : Room) (av : List Value) (wc w1 : va_W) (rv : Int64) : Prop := ∀ sz, Met l y ws rm (sPre D cy av wc sz) (sQl D rv wc w1 sz) 0 0 (va_A wc sz)
def MV (l : Launch) (D : va_G) (cy : Nat → ClassId) (y : MethodName) (ws : List Cond) (rm : Room) (av : List Value) (wc w1 : va_W) : Prop := ∀ sz, Met l y ws rm (sPre D cy av wc sz) (sQv D wc w1 sz) 0 0 (va_A wc sz)
def CX (p : Program) (s : State) (m : MethodId) (args : Array Value) (meth : Method) (c : Code) (cc : ByteArray) (nL : Nat) (ret : Option FieldType) (ws : List Cond) (own : String) : Prop :=
  p.tables.exec = Jvm.exec ∧ c.code = cc ∧ meth.sig.returnType = ret ∧ c.maxLocals = nL ∧ s.vm.findClass own = some m.cls ∧ (∀ w ∈ ws, w.before args s = true) ∧ meth.locks = false
theorem CX.fix {p : Program} {s : State} {m : MethodId} {args : Array Value} {meth : Method} {c : Code} {cc : ByteArray} {nL : Nat} {ret : Option FieldType} {ws : List Cond} {own : String} (h : CX p s m args meth c cc nL ret ws own) : CallFix p m c cc nL s args ws own := ⟨h.1, h.2.1, h.2.2.2.1, h.2.2.2.2.1, h.2.2.2.2.2.1⟩
theorem st_I {l : Launch} {D : va_G} {cy : Nat → ClassId} {y : MethodName} {ws ws' : List Cond} {rm : Room} {av : List Value} {wc w1 : va_W} {rv : Int32} {cc : ByteArray} {maxL : Nat} {rt : FieldType} (hy : plainName y.cls = true) (hw : ws = Cond.code y cc maxL (some rt) :: ws') (hlen : (lg_sl av).length ≤ maxL)
    (body : ∀ (p : Program) (e : Env) (s : State) (m : MethodId) (below : List Frame) (meth : Method) (c : Code) (A : Nat → Prop) (Q : State → Prop) (ls : Array Slot), CX p s m av.toArray meth c cc maxL (some rt) ws y.cls → (∀ q, s.heap.size ≤ q → A q) → KZ D cy A s → va_P D vwCl wc s.heap → va_D A wc → va_S A s.heap s.heap [] → lv_has ls maxL (lv_args 0 av) →
      (∀ (H : Heap) (locs : List Loc) (ls : Array Slot) (pc : Nat), decode cc pc = .ok (.ireturn, 1) → narrow rt (.int rv) = .int rv → va_P D vwCl w1 H → va_S A s.heap H locs → W p l e rm s m av.toArray below meth c H locs 0 0 Q (F0 m pc ls [.int rv])) →
      W p l e rm s m av.toArray below meth c s.heap [] 0 0 Q (F0 m 0 ls [])) : MI l D cy y ws rm av wc w1 rv := by
  intro sz
  refine Met.ofW (cc := cc) (maxL := maxL) (ret := some rt) hy hw ?_
  intro p e s m args below meth c s₁ B hml hv
  obtain ⟨rfl, hsz, hP, hK, hD0, hZ⟩ := hv
  subst hsz
  have hts := atoms_spec (ws := ws) B.pre
  have hl := lv_entry av (n := maxL) hlen
  rw [lg_entry_eq]
  refine body p e s m below meth c (va_A wc s.heap.size) _ _ ⟨B.exec, B.bytes, B.returns, hml, findClass_of_methodNamed B.named, hts, B.notSynchronized⟩ (fun q h => Or.inr h) ⟨hK, hZ⟩ hP (hD0.self (sz := s.heap.size)) va_S.rf hl ?_
  intro H locs ls pc hd hn hP1 hS
  exact W.zret (v := rv) B.exec B.bytes B.returns hn (fun t ht hW => ⟨⟨rv, (), rfl, rfl, by subst ht; exact hP1⟩, hS.F ht⟩) hS.2.2 hd B.notSynchronized
theorem st_L {l : Launch} {D : va_G} {cy : Nat → ClassId} {y : MethodName} {ws ws' : List Cond} {rm : Room} {av : List Value} {wc w1 : va_W} {rv : Int64} {cc : ByteArray} {maxL : Nat} (hy : plainName y.cls = true) (hw : ws = Cond.code y cc maxL (some .long) :: ws') (hlen : (lg_sl av).length ≤ maxL)
    (body : ∀ (p : Program) (e : Env) (s : State) (m : MethodId) (below : List Frame) (meth : Method) (c : Code) (A : Nat → Prop) (Q : State → Prop) (ls : Array Slot), CX p s m av.toArray meth c cc maxL (some .long) ws y.cls → (∀ q, s.heap.size ≤ q → A q) → KZ D cy A s → va_P D vwCl wc s.heap → va_D A wc → va_S A s.heap s.heap [] → lv_has ls maxL (lv_args 0 av) →
      (∀ (H : Heap) (locs : List Loc) (ls : Array Slot) (pc : Nat), decode cc pc = .ok (.lreturn, 1) → va_P D vwCl w1 H → va_S A s.heap H locs → W p l e rm s m av.toArray below meth c H locs 0 0 Q (F0 m pc ls [.long rv])) →
      W p l e rm s m av.toArray below meth c s.heap [] 0 0 Q (F0 m 0 ls [])) : ML l D cy y ws rm av wc w1 rv := by
  intro sz
  refine Met.ofW (cc := cc) (maxL := maxL) (ret := some .long) hy hw ?_
  intro p e s m args below meth c s₁ B hml hv
  obtain ⟨rfl, hsz, hP, hK, hD0, hZ⟩ := hv
  subst hsz
  have hts := atoms_spec (ws := ws) B.pre
  have hl := lv_entry av (n := maxL) hlen
  rw [lg_entry_eq]
  refine body p e s m below meth c (va_A wc s.heap.size) _ _ ⟨B.exec, B.bytes, B.returns, hml, findClass_of_methodNamed B.named, hts, B.notSynchronized⟩ (fun q h => Or.inr h) ⟨hK, hZ⟩ hP (hD0.self (sz := s.heap.size)) va_S.rf hl ?_
  intro H locs ls pc hd hP1 hS
  exact W.lret (v := rv) B.exec B.bytes B.returns (fun t ht hW => ⟨⟨rv, (), rfl, rfl, by subst ht; exact hP1⟩, hS.F ht⟩) hS.2.2 hd B.notSynchronized
theorem st_V {l : Launch} {D : va_G} {cy : Nat → ClassId} {y : MethodName} {ws ws' : List Cond} {rm : Room} {av : List Value} {wc w1 : va_W} {cc : ByteArray} {maxL : Nat} (hy : plainName y.cls = true) (hw : ws = Cond.code y cc maxL none :: ws') (hlen : (lg_sl av).length ≤ maxL)
    (body : ∀ (p : Program) (e : Env) (s : State) (m : MethodId) (below : List Frame) (meth : Method) (c : Code) (A : Nat → Prop) (Q : State → Prop) (ls : Array Slot), CX p s m av.toArray meth c cc maxL none ws y.cls → (∀ q, s.heap.size ≤ q → A q) → KZ D cy A s → va_P D vwCl wc s.heap → va_D A wc → va_S A s.heap s.heap [] → lv_has ls maxL (lv_args 0 av) →
      (∀ (H : Heap) (locs : List Loc) (ls : Array Slot) (pc : Nat), decode cc pc = .ok (.return_, 1) → va_P D vwCl w1 H → va_S A s.heap H locs → W p l e rm s m av.toArray below meth c H locs 0 0 Q (F0 m pc ls [])) →
      W p l e rm s m av.toArray below meth c s.heap [] 0 0 Q (F0 m 0 ls [])) : MV l D cy y ws rm av wc w1 := by
  intro sz
  refine Met.ofW (cc := cc) (maxL := maxL) (ret := none) hy hw ?_
  intro p e s m args below meth c s₁ B hml hv
  obtain ⟨rfl, hsz, hP, hK, hD0, hZ⟩ := hv
  subst hsz
  have hts := atoms_spec (ws := ws) B.pre
  have hl := lv_entry av (n := maxL) hlen
  rw [lg_entry_eq]
  refine body p e s m below meth c (va_A wc s.heap.size) _ _ ⟨B.exec, B.bytes, B.returns, hml, findClass_of_methodNamed B.named, hts, B.notSynchronized⟩ (fun q h => Or.inr h) ⟨hK, hZ⟩ hP (hD0.self (sz := s.heap.size)) va_S.rf hl ?_
  intro H locs ls pc hd hP1 hS
  exact W.vret B.exec B.bytes B.returns (fun t ht hW => ⟨⟨(), rfl, trivial, by subst ht; exact hP1⟩, hS.F ht⟩) hS.2.2 hd B.notSynchronized
/-- some places of a world anew -/
def setAll : va_W → List Nat → va_W → va_W
  | ws, k :: ks, c :: cs => setAll (ws.set k c) ks cs
  | ws, [], _ => ws
  | ws, _ :: _, [] => ws
theorem setAll_key : ∀ (ks : List Nat) (cs ws : va_W), ks.length = cs.length → ∀ (j : Nat) (q : Nat × va_E), (setAll ws ks cs)[j]? = some q → (ws[j]? = some q ∧ j ∉ ks) ∨ q ∈ cs
  | [], cs, ws, _, j, q, h => by
    rw [setAll] at h
    exact Or.inl ⟨h, List.not_mem_nil⟩
  | k :: ks, [], ws, hl, j, q, h => by cases hl
  | k :: ks, c :: cs, ws, hl, j, q, h => by
    rw [setAll] at h
    rcases setAll_key ks cs (ws.set k c) (Nat.succ.inj hl) j q h with ⟨h1, h2⟩ | h1
    · by_cases e : j = k
      · subst e
        rw [List.getElem?_set] at h1
        simp only [if_true] at h1
        split at h1
        · cases h1; exact Or.inr List.mem_cons_self
        · cases h1
      · rw [List.getElem?_set_ne (Ne.symm e)] at h1
        exact Or.inl ⟨h1, by simp [e, h2]⟩
    · exact Or.inr (List.mem_cons_of_mem _ h1)
theorem setAll_adr : ∀ (ks : List Nat) (cs ws : va_W), ks.map (fun i => (ws[i]?).map (·.1)) = cs.map (fun c => some c.1) → (setAll ws ks cs).map (·.1) = ws.map (·.1)
  | [], cs, ws, _ => by rw [setAll]
  | k :: ks, [], ws, h => by cases h
  | k :: ks, c :: cs, ws, h => by
    rw [List.map_cons, List.map_cons] at h
    obtain ⟨h1, h2⟩ := List.cons.inj h
    have e : (ws.set k c).map (·.1) = ws.map (·.1) := by
      rw [List.map_set]
      refine List.ext_getElem? fun i => ?_
      rw [List.getElem?_set]
      split
      · rename_i hk
        subst hk
        rw [List.length_map, List.getElem?_map]
        cases hw : ws[k]? with
        | none => rw [hw] at h1; cases h1
        | some q =>
          rw [hw] at h1
          have : k < ws.length := (List.getElem?_eq_some_iff.mp hw).1
          rw [if_pos this]
          exact h1.symm
      · rfl
    rw [setAll, setAll_adr ks cs (ws.set k c) ?_, e]
    rw [← h2]
    refine List.map_congr_left fun i _ => ?_
    rw [← List.getElem?_map, ← List.getElem?_map, e]
theorem va_D.adr {A : Nat → Prop} {ws ws' : va_W} (hD : va_D A ws) (h : ws'.map (·.1) = ws.map (·.1)) : va_D A ws' := by
  have key : ∀ (k : Nat) (q : Nat × va_E), ws'[k]? = some q → ∃ q0, ws[k]? = some q0 ∧ q0.1 = q.1 := by
    intro k q hk
    have h1 : (ws.map (·.1))[k]? = some q.1 := by rw [← h, List.getElem?_map, hk]; rfl
    rw [List.getElem?_map] at h1
    cases hw : ws[k]? with
    | none => rw [hw] at h1; cases h1
    | some q0 => rw [hw] at h1; exact ⟨q0, rfl, Option.some.inj h1⟩
  refine ⟨fun i j x y hi hj hxy => ?_, fun k q hk => ?_⟩
  · obtain ⟨x0, h1, h2⟩ := key i x hi
    obtain ⟨y0, h3, h4⟩ := key j y hj
    exact hD.1 i j x0 y0 h1 h3 (h2.trans (hxy.trans h4.symm))
  · obtain ⟨q0, h1, h2⟩ := key k q hk
    rw [← h2]
    exact hD.2 k q0 h1
/-- behind a call: the world with the callee's cells anew -/
theorem sa_join {A : Nat → Prop} {D : va_G} {ws wc w1 : va_W} {H H1 : Heap} (hP : va_P D vwCl ws H) (hD : va_D A ws) (isC : List Nat) (hC : isC.map (fun i => ws[i]?) = wc.map some) (h1 : w1.map (·.1) = wc.map (·.1))
    (hk : ∀ q : Nat, q < H.size → ¬ va_A wc H.size q → H1[q]? = H[q]?) (hP1 : va_P D vwCl w1 H1) : va_P D vwCl (setAll ws isC w1) H1 ∧ va_D A (setAll ws isC w1) := by
  have hlen : isC.length = w1.length := by
    have a := congrArg List.length hC
    have b := congrArg List.length h1
    rw [List.length_map, List.length_map] at a b
    omega
  have at' : ∀ (k : Nat) (q : Nat × va_E), wc[k]? = some q → ∃ i, isC[k]? = some i ∧ ws[i]? = some q := by
    intro k q hq
    have h1 : (isC.map (fun i => ws[i]?))[k]? = some (some q) := by rw [hC, List.getElem?_map, hq]; rfl
    rw [List.getElem?_map] at h1
    cases hi : isC[k]? with
    | none => rw [hi] at h1; cases h1
    | some i => rw [hi] at h1; exact ⟨i, rfl, Option.some.inj h1⟩
  refine ⟨fun j q hq => ?_, hD.adr (setAll_adr isC w1 ws ?_)⟩
  · rcases setAll_key isC w1 ws hlen j q hq with ⟨a, b⟩ | a
    · have hl := (hP j q a).lt
      refine (hP j q a).kept (hk q.1 hl (fun h => ?_))
      rcases h with ⟨k2, e, h⟩ | h
      · obtain ⟨i, h3, h4⟩ := at' k2 (q.1, e) h
        have hij := hD.1 j i q (q.1, e) a h4 rfl
        subst hij
        exact b (List.mem_of_getElem? h3)
      · omega
    · obtain ⟨i, hi⟩ := List.getElem?_of_mem a
      exact hP1 i q hi
  · have e1 : isC.map (fun i => (ws[i]?).map (·.1)) = (isC.map (fun i => ws[i]?)).map (Option.map (·.1)) := by rw [List.map_map]; rfl
    rw [e1, hC, List.map_map]
    have e2 : (wc.map (Option.map (fun x : Nat × va_E => x.1) ∘ some)) = (wc.map (·.1)).map some := by rw [List.map_map]; rfl
    rw [e2, ← h1, List.map_map]; rfl
theorem sa_sub {A : Nat → Prop} {D : va_G} {ws wc : va_W} {H : Heap} (hP : va_P D vwCl ws H) (isC : List Nat) (hC : isC.map (fun i => ws[i]?) = wc.map some) : va_P D vwCl wc H := by
  intro k q hq
  have h1 : (isC.map (fun i => ws[i]?))[k]? = some (some q) := by rw [hC, List.getElem?_map, hq]; rfl
  rw [List.getElem?_map] at h1
  cases hi : isC[k]? with
  | none => rw [hi] at h1; cases h1
  | some i => rw [hi] at h1; exact hP i q (Option.some.inj h1)
section CLS
variable {l : Launch} {D : va_G} {cy : Nat → ClassId} {p : Program} {e : Env} {s : State} {m : MethodId} {args : Array Value} {below : List Frame} {meth : Method} {c : Code} {R : Room} {Q : State → Prop} {A : Nat → Prop} {H : Heap} {locs : List Loc} {ls : Array Slot} {pc nL cells slots : Nat} {cc : ByteArray} {ret : Option FieldType} {Ts : List Cond} {own : String} {ws wc w1 : va_W} {y : MethodName} {wsy : List Cond} {rm : Room} {b : Nat} {As rest st : List Value} {C : String} {index maxL n : Nat} {bytes : ByteArray} {rt : Option FieldType} {ci k0 : Nat} {fs : List Value} {r : vw_C}
theorem pre_U (hK : KZ D cy A s) (hP : va_P D vwCl ws H) (hD : va_D A ws) (hS : va_S A s.heap H locs) (hA : ∀ q, s.heap.size ≤ q → A q) (isC : List Nat) (hC : isC.map (fun i => ws[i]?) = wc.map some) (hnd : va_nd isC = true) {U : State} (hU : U.heap = H) (hW : s.WarmedH U.vm) : U.heap.size = H.size ∧ va_P D vwCl wc U.heap ∧ KW D cy U ∧ va_D (fun _ => True) wc ∧ SK cy (va_A wc H.size) U U.heap := by
  refine ⟨by rw [hU], by rw [hU]; exact sa_sub (A := A) hP isC hC, hK.1.warm hW, (hD.sub isC hnd hC).weaken (fun _ _ _ _ => trivial), ?_⟩
  rw [hU]
  exact ((hK.2.kept hS.2.1).narrow (va_free hD hS hA isC hC)).moved hW.alike
theorem pre_V (hK : KZ D cy A s) (hP : va_P D vwCl ws H) (hD : va_D A ws) (hS : va_S A s.heap H locs) (hA : ∀ q, s.heap.size ≤ q → A q) (isC : List Nat) (hC : isC.map (fun i => ws[i]?) = wc.map some) (hnd : va_nd isC = true) (hb0 : ws[k0]? = some (b, .inr (ci, fs))) (hci : vwCl[ci]? = some r) (hr : r.1 = C) : PreV s H C b (sPre D cy (.ref b :: As) wc H.size) As := by
  subst hr
  exact ⟨sPre.blind, va_recv hK.1.1 hP hci hb0, fun U hU hW => ⟨rfl, pre_U hK hP hD hS hA isC hC hnd hU hW⟩⟩
theorem pre_S (hK : KZ D cy A s) (hP : va_P D vwCl ws H) (hD : va_D A ws) (hS : va_S A s.heap H locs) (hA : ∀ q, s.heap.size ≤ q → A q) (isC : List Nat) (hC : isC.map (fun i => ws[i]?) = wc.map some) (hnd : va_nd isC = true) : PreS s H (sPre D cy As wc H.size) As :=
  ⟨sPre.blind, fun U hU hW => ⟨rfl, pre_U hK hP hD hS hA isC hC hnd hU hW⟩⟩
/-- what comes behind a call that answers an int -/
theorem run_i {rv : Int32} {a : Array Value} (hr : va_Run p l e R s m args below meth c H locs cells slots 0 0 (F0 m pc ls st) rest (sQi D rv wc w1 H.size a) (va_A wc H.size)) (hP : va_P D vwCl ws H) (hD : va_D A ws) (hS : va_S A s.heap H locs) (hA : ∀ q, s.heap.size ≤ q → A q) (isC : List Nat) (hC : isC.map (fun i => ws[i]?) = wc.map some) (h1 : w1.map (·.1) = wc.map (·.1))
    (kk : ∀ (H1 : Heap) (locs1 : List Loc), va_P D vwCl (setAll ws isC w1) H1 → va_D A (setAll ws isC w1) → va_S A s.heap H1 locs1 → W p l e R s m args below meth c H1 locs1 cells slots Q (F0 m (pc + 3) ls (.int rv :: rest))) : W p l e R s m args below meth c H locs cells slots Q (F0 m pc ls st) := by
  have hFc := va_free (wc := wc) hD hS hA isC hC
  refine va_calli hr hS (fun q _ h => hFc q h) hFc (fun r u t H1 locs1 ht hvm hw hB hz1 hk1 hS => ?_)
  subst hw
  rw [ht] at hB
  obtain ⟨a, b⟩ := sa_join hP hD isC hC h1 hk1 hB
  exact kk H1 locs1 a b hS
theorem run_l {rv : Int64} {a : Array Value} (hr : va_Run p l e R s m args below meth c H locs cells slots 0 0 (F0 m pc ls st) rest (sQl D rv wc w1 H.size a) (va_A wc H.size)) (hP : va_P D vwCl ws H) (hD : va_D A ws) (hS : va_S A s.heap H locs) (hA : ∀ q, s.heap.size ≤ q → A q) (isC : List Nat) (hC : isC.map (fun i => ws[i]?) = wc.map some) (h1 : w1.map (·.1) = wc.map (·.1))
    (kk : ∀ (H1 : Heap) (locs1 : List Loc), va_P D vwCl (setAll ws isC w1) H1 → va_D A (setAll ws isC w1) → va_S A s.heap H1 locs1 → W p l e R s m args below meth c H1 locs1 cells slots Q (F0 m (pc + 3) ls (.long rv :: rest))) : W p l e R s m args below meth c H locs cells slots Q (F0 m pc ls st) := by
  have hFc := va_free (wc := wc) hD hS hA isC hC
  refine va_calll hr hS (fun q _ h => hFc q h) hFc (fun r u t H1 locs1 ht hvm hw hB hz1 hk1 hS => ?_)
  subst hw
  rw [ht] at hB
  obtain ⟨a, b⟩ := sa_join hP hD isC hC h1 hk1 hB
  exact kk H1 locs1 a b hS
theorem run_v {a : Array Value} (hr : va_Run p l e R s m args below meth c H locs cells slots 0 0 (F0 m pc ls st) rest (sQv D wc w1 H.size a) (va_A wc H.size)) (hP : va_P D vwCl ws H) (hD : va_D A ws) (hS : va_S A s.heap H locs) (hA : ∀ q, s.heap.size ≤ q → A q) (isC : List Nat) (hC : isC.map (fun i => ws[i]?) = wc.map some) (h1 : w1.map (·.1) = wc.map (·.1))
    (kk : ∀ (H1 : Heap) (locs1 : List Loc), va_P D vwCl (setAll ws isC w1) H1 → va_D A (setAll ws isC w1) → va_S A s.heap H1 locs1 → W p l e R s m args below meth c H1 locs1 cells slots Q (F0 m (pc + 3) ls rest)) : W p l e R s m args below meth c H locs cells slots Q (F0 m pc ls st) := by
  have hFc := va_free (wc := wc) hD hS hA isC hC
  refine va_callv hr hS (fun q _ h => hFc q h) hFc (fun u t H1 locs1 ht hvm hw hB hz1 hk1 hS => ?_)
  rw [ht] at hB
  obtain ⟨a, b⟩ := sa_join hP hD isC hC h1 hk1 hB
  exact kk H1 locs1 a b hS
/-- one row a call: invokevirtual, int -/
theorem cl_Vi {rv : Int32} (isC : List Nat) (k0 : Nat) (C0 : CX p s m args meth c cc nL ret Ts own) (hK : KZ D cy A s) (hP : va_P D vwCl ws H) (hD : va_D A ws) (hS : va_S A s.heap H locs) (hA : ∀ q, s.heap.size ≤ q → A q) (hM : MI l D cy y wsy rm (.ref b :: As) wc w1 rv) (cw : CallW R s args own C index y bytes maxL rt wsy rm 0 0 n) (hC : isC.map (fun i => ws[i]?) = wc.map some) (hnd : va_nd isC = true) (h1 : w1.map (·.1) = wc.map (·.1)) (hb0 : ws[k0]? = some (b, .inr (ci, fs))) (hci : vwCl[ci]? = some r) (hr : r.1 = C) (hn : As.length = n) (hsize : ls.size = nL) (hst : st = As.reverse ++ .ref b :: rest) (hcat : (rest.map fun v => v.category).sum ≤ 8) (hdg : decode cc pc = .ok (.invokevirtual index, 3)) (hcs : cells ≤ R.cells ∧ slots ≤ R.slots)
    (kk : ∀ (H1 : Heap) (locs1 : List Loc), va_P D vwCl (setAll ws isC w1) H1 → va_D A (setAll ws isC w1) → va_S A s.heap H1 locs1 → W p l e R s m args below meth c H1 locs1 cells slots Q (F0 m (pc + 3) ls (.int rv :: rest))) : W p l e R s m args below meth c H locs cells slots Q (F0 m pc ls st) :=
  run_i (va_runV C0.fix (hM H.size) cw (pre_V hK hP hD hS hA isC hC hnd hb0 hci hr) rfl hn hsize hst (lv_room hcat) hdg hcs) hP hD hS hA isC hC h1 kk
theorem cl_Vv (isC : List Nat) (k0 : Nat) (C0 : CX p s m args meth c cc nL ret Ts own) (hK : KZ D cy A s) (hP : va_P D vwCl ws H) (hD : va_D A ws) (hS : va_S A s.heap H locs) (hA : ∀ q, s.heap.size ≤ q → A q) (hM : MV l D cy y wsy rm (.ref b :: As) wc w1) (cw : CallW R s args own C index y bytes maxL rt wsy rm 0 0 n) (hC : isC.map (fun i => ws[i]?) = wc.map some) (hnd : va_nd isC = true) (h1 : w1.map (·.1) = wc.map (·.1)) (hb0 : ws[k0]? = some (b, .inr (ci, fs))) (hci : vwCl[ci]? = some r) (hr : r.1 = C) (hn : As.length = n) (hsize : ls.size = nL) (hst : st = As.reverse ++ .ref b :: rest) (hcat : (rest.map fun v => v.category).sum ≤ 8) (hdg : decode cc pc = .ok (.invokevirtual index, 3)) (hcs : cells ≤ R.cells ∧ slots ≤ R.slots)
    (kk : ∀ (H1 : Heap) (locs1 : List Loc), va_P D vwCl (setAll ws isC w1) H1 → va_D A (setAll ws isC w1) → va_S A s.heap H1 locs1 → W p l e R s m args below meth c H1 locs1 cells slots Q (F0 m (pc + 3) ls rest)) : W p l e R s m args below meth c H locs cells slots Q (F0 m pc ls st) :=
  run_v (va_runV C0.fix (hM H.size) cw (pre_V hK hP hD hS hA isC hC hnd hb0 hci hr) rfl hn hsize hst (lv_room hcat) hdg hcs) hP hD hS hA isC hC h1 kk
theorem cl_Ni {rv : Int32} {host : String} (isC : List Nat) (k0 : Nat) (C0 : CX p s m args meth c cc nL ret Ts own) (hK : KZ D cy A s) (hP : va_P D vwCl ws H) (hD : va_D A ws) (hS : va_S A s.heap H locs) (hA : ∀ q, s.heap.size ≤ q → A q) (hM : MI l D cy y wsy rm (.ref b :: As) wc w1 rv) (cw : va_CN R s args own index y host bytes maxL rt wsy rm 0 0 n ∧ (Cond.instanceMethod y).before args s = true ∧ (Cond.selects C y y).before args s = true) (hC : isC.map (fun i => ws[i]?) = wc.map some) (hnd : va_nd isC = true) (h1 : w1.map (·.1) = wc.map (·.1)) (hb0 : ws[k0]? = some (b, .inr (ci, fs))) (hci : vwCl[ci]? = some r) (hr : r.1 = C) (hn : As.length = n) (hsize : ls.size = nL) (hst : st = As.reverse ++ .ref b :: rest) (hcat : (rest.map fun v => v.category).sum ≤ 8) (hdg : decode cc pc = .ok (.invokevirtual index, 3)) (hcs : cells ≤ R.cells ∧ slots ≤ R.slots)
    (kk : ∀ (H1 : Heap) (locs1 : List Loc), va_P D vwCl (setAll ws isC w1) H1 → va_D A (setAll ws isC w1) → va_S A s.heap H1 locs1 → W p l e R s m args below meth c H1 locs1 cells slots Q (F0 m (pc + 3) ls (.int rv :: rest))) : W p l e R s m args below meth c H locs cells slots Q (F0 m pc ls st) :=
  run_i (va_runVN C0.fix (hM H.size) cw (pre_V hK hP hD hS hA isC hC hnd hb0 hci hr) rfl hn hsize hst (lv_room hcat) hdg hcs) hP hD hS hA isC hC h1 kk
theorem cl_Si {rv : Int32} (isC : List Nat) (C0 : CX p s m args meth c cc nL ret Ts own) (hK : KZ D cy A s) (hP : va_P D vwCl ws H) (hD : va_D A ws) (hS : va_S A s.heap H locs) (hA : ∀ q, s.heap.size ≤ q → A q) (hM : MI l D cy y wsy rm As wc w1 rv) (cw : CallB R s args own index y bytes maxL rt wsy rm 0 0 n ∧ (Cond.static y).before args s = true) (hC : isC.map (fun i => ws[i]?) = wc.map some) (hnd : va_nd isC = true) (h1 : w1.map (·.1) = wc.map (·.1)) (hn : As.length = n) (hsize : ls.size = nL) (hst : st = As.reverse ++ rest) (hcat : (rest.map fun v => v.category).sum ≤ 8) (hdg : decode cc pc = .ok (.invokestatic index, 3)) (hcs : cells ≤ R.cells ∧ slots ≤ R.slots)
    (kk : ∀ (H1 : Heap) (locs1 : List Loc), va_P D vwCl (setAll ws isC w1) H1 → va_D A (setAll ws isC w1) → va_S A s.heap H1 locs1 → W p l e R s m args below meth c H1 locs1 cells slots Q (F0 m (pc + 3) ls (.int rv :: rest))) : W p l e R s m args below meth c H locs cells slots Q (F0 m pc ls st) :=
  run_i (va_runS C0.fix (hM H.size) cw (pre_S hK hP hD hS hA isC hC hnd) rfl hn hsize hst (lv_room hcat) hdg hcs) hP hD hS hA isC hC h1 kk
theorem cl_Sv (isC : List Nat) (C0 : CX p s m args meth c cc nL ret Ts own) (hK : KZ D cy A s) (hP : va_P D vwCl ws H) (hD : va_D A ws) (hS : va_S A s.heap H locs) (hA : ∀ q, s.heap.size ≤ q → A q) (hM : MV l D cy y wsy rm As wc w1) (cw : CallB R s args own index y bytes maxL rt wsy rm 0 0 n ∧ (Cond.static y).before args s = true) (hC : isC.map (fun i => ws[i]?) = wc.map some) (hnd : va_nd isC = true) (h1 : w1.map (·.1) = wc.map (·.1)) (hn : As.length = n) (hsize : ls.size = nL) (hst : st = As.reverse ++ rest) (hcat : (rest.map fun v => v.category).sum ≤ 8) (hdg : decode cc pc = .ok (.invokestatic index, 3)) (hcs : cells ≤ R.cells ∧ slots ≤ R.slots)
    (kk : ∀ (H1 : Heap) (locs1 : List Loc), va_P D vwCl (setAll ws isC w1) H1 → va_D A (setAll ws isC w1) → va_S A s.heap H1 locs1 → W p l e R s m args below meth c H1 locs1 cells slots Q (F0 m (pc + 3) ls rest)) : W p l e R s m args below meth c H locs cells slots Q (F0 m pc ls st) :=
  run_v (va_runS C0.fix (hM H.size) cw (pre_S hK hP hD hS hA isC hC hnd) rfl hn hsize hst (lv_room hcat) hdg hcs) hP hD hS hA isC hC h1 kk
theorem cl_Sl {rv : Int64} (isC : List Nat) (C0 : CX p s m args meth c cc nL ret Ts own) (hK : KZ D cy A s) (hP : va_P D vwCl ws H) (hD : va_D A ws) (hS : va_S A s.heap H locs) (hA : ∀ q, s.heap.size ≤ q → A q) (hM : ML l D cy y wsy rm As wc w1 rv) (cw : CallB R s args own index y bytes maxL rt wsy rm 0 0 n ∧ (Cond.static y).before args s = true) (hC : isC.map (fun i => ws[i]?) = wc.map some) (hnd : va_nd isC = true) (h1 : w1.map (·.1) = wc.map (·.1)) (hn : As.length = n) (hsize : ls.size = nL) (hst : st = As.reverse ++ rest) (hcat : (rest.map fun v => v.category).sum ≤ 8) (hdg : decode cc pc = .ok (.invokestatic index, 3)) (hcs : cells ≤ R.cells ∧ slots ≤ R.slots)
    (kk : ∀ (H1 : Heap) (locs1 : List Loc), va_P D vwCl (setAll ws isC w1) H1 → va_D A (setAll ws isC w1) → va_S A s.heap H1 locs1 → W p l e R s m args below meth c H1 locs1 cells slots Q (F0 m (pc + 3) ls (.long rv :: rest))) : W p l e R s m args below meth c H locs cells slots Q (F0 m pc ls st) :=
  run_l (va_runS C0.fix (hM H.size) cw (pre_S hK hP hD hS hA isC hC hnd) rfl hn hsize hst (lv_room hcat) hdg hcs) hP hD hS hA isC hC h1 kk
end CLS
/-- rows of an array by their places -/
def rfL (l : List Nat) : Nat → Option Nat := fun j => l[j]?
section CLT
variable {D : va_G} {cy : Nat → ClassId} {p : Program} {l : Launch} {e : Env} {s : State} {m : MethodId} {args : Array Value} {below : List Frame} {meth : Method} {c : Code} {R : Room} {Q : State → Prop} {A : Nat → Prop} {H : Heap} {locs : List Loc} {ls : Array Slot} {pc cells slots : Nat} {cc : ByteArray} {ws : va_W} {rest : List Value}
/-- a known row of an array of references -/
theorem va_aldk (hexec : p.tables.exec = Jvm.exec) (hb : c.code = cc) (hK : KZ D cy A s) (hP : va_P D vwCl ws H) (q0 t0 : Nat) {a a1 n : Nat} {cA : ClassId} {ty : FieldType} {f : Nat → Option Nat} (ha : ws[q0]? = some (a, .inl (cA, n, .inr (.inr (.inr (.inr f)))))) (ht : (tysG cy)[t0]? = some (cA, ty)) (href : ty.isReference = true) {i : Int32} (hin : ixb i n = true) (hv : f i.toNatClampNeg = some a1) (hdg : decode cc pc = .ok (.aaload, 1))
    (kk : W p l e R s m args below meth c H locs cells slots Q (F0 m (pc + 1) ls (.ref a1 :: rest))) : W p l e R s m args below meth c H locs cells slots Q (F0 m pc ls (.int i :: .ref a :: rest)) := by
  have hin := ixb_in hin
  have hlt : i.toNatClampNeg < n := Nat.not_le.mp fun q => hin (Or.inr q)
  refine W.aald (v := .ref a1) (ty := ty) hexec hb (hP q0 _ ha) ((hK.1.1.2 t0 (cA, ty) ht).1 n (fun j => va_rf (f j))) href (fun q => by cases q) (by show ¬ (i < 0 ∨ (arrV _ _ _).slots.size ≤ _); rw [arrV_size]; exact hin) ?_ rfl rfl hdg kk
  show (arrV _ _ _).slots[_]? = _
  rw [arrV_read _ _ hlt, hv]
  rfl
end CLT
theorem nw_0 : Cond.fieldLinkNest "OneWordLetters" 143 "OneWordLetters$Reader" "length" "I" "OneWordLetters" ∈ nestW := List.mem_of_getElem? (i := 0) rfl
theorem nw_1 : Cond.fieldLinkNest "OneWordLetters" 128 "OneWordLetters$Reader" "faultByte" "I" "OneWordLetters" ∈ nestW := List.mem_of_getElem? (i := 1) rfl
theorem nw_2 : Cond.fieldLinkNest "OneWordLetters$Reader" 62 "OneWordLetters$Tongue" "length" "I" "OneWordLetters" ∈ nestW := List.mem_of_getElem? (i := 2) rfl
theorem nw_3 : Cond.fieldLinkNest "OneWordLetters" 131 "OneWordLetters$Tongue" "length" "I" "OneWordLetters" ∈ nestW := List.mem_of_getElem? (i := 3) rfl
theorem nw_4 : Cond.fieldLinkNest "OneWordLetters$Letters" 72 "OneWordLetters$Tongue" "length" "I" "OneWordLetters" ∈ nestW := List.mem_of_getElem? (i := 4) rfl
theorem nw_5 : Cond.fieldLinkNest "OneWordLetters" 134 "OneWordLetters$Tongue" "words" "I" "OneWordLetters" ∈ nestW := List.mem_of_getElem? (i := 5) rfl
theorem nw_6 : Cond.fieldLinkNest "OneWordLetters$Reader" 82 "OneWordLetters$Tongue" "words" "I" "OneWordLetters" ∈ nestW := List.mem_of_getElem? (i := 6) rfl
theorem nw_7 : Cond.fieldLinkNest "OneWordLetters$Letters" 82 "OneWordLetters$Tongue" "words" "I" "OneWordLetters" ∈ nestW := List.mem_of_getElem? (i := 7) rfl
theorem nw_8 : Cond.fieldLinkNest "OneWordLetters" 137 "OneWordLetters$Tongue" "frames" "I" "OneWordLetters" ∈ nestW := List.mem_of_getElem? (i := 8) rfl
theorem nw_9 : Cond.fieldLinkNest "OneWordLetters$Reader" 93 "OneWordLetters$Tongue" "frames" "I" "OneWordLetters" ∈ nestW := List.mem_of_getElem? (i := 9) rfl
theorem nw_10 : Cond.fieldLinkNest "OneWordLetters" 140 "OneWordLetters$Tongue" "pairs" "I" "OneWordLetters" ∈ nestW := List.mem_of_getElem? (i := 10) rfl
theorem nw_11 : Cond.fieldLinkNest "OneWordLetters$Reader" 99 "OneWordLetters$Tongue" "pairs" "I" "OneWordLetters" ∈ nestW := List.mem_of_getElem? (i := 11) rfl
theorem nw_12 : Cond.fieldLinkNest "OneWordLetters" 174 "OneWordLetters$Tongue" "kinds" "[I" "OneWordLetters" ∈ nestW := List.mem_of_getElem? (i := 12) rfl
theorem nw_13 : Cond.fieldLinkNest "OneWordLetters$Letters" 49 "OneWordLetters$Tongue" "worths" "[[I" "OneWordLetters" ∈ nestW := List.mem_of_getElem? (i := 13) rfl
theorem nw_14 : Cond.fieldLinkNest "OneWordLetters" 177 "OneWordLetters$Tongue" "worths" "[[I" "OneWordLetters" ∈ nestW := List.mem_of_getElem? (i := 14) rfl
theorem nw_15 : Cond.fieldLinkNest "OneWordLetters$Letters" 53 "OneWordLetters$Tongue" "pairWorths" "[[I" "OneWordLetters" ∈ nestW := List.mem_of_getElem? (i := 15) rfl
theorem nw_16 : Cond.fieldLinkNest "OneWordLetters" 309 "OneWordLetters$Tongue" "pairWorths" "[[I" "OneWordLetters" ∈ nestW := List.mem_of_getElem? (i := 16) rfl
theorem nw_17 : Cond.fieldLinkNest "OneWordLetters$Letters" 75 "OneWordLetters$Tongue" "scales" "[I" "OneWordLetters" ∈ nestW := List.mem_of_getElem? (i := 17) rfl
theorem nw_18 : Cond.fieldLinkNest "OneWordLetters" 295 "OneWordLetters$Letters" "tongues" "I" "OneWordLetters" ∈ nestW := List.mem_of_getElem? (i := 18) rfl
theorem nw_19 : Cond.fieldLinkNest "OneWordLetters$Paths" 44 "OneWordLetters$Letters" "size" "I" "OneWordLetters" ∈ nestW := List.mem_of_getElem? (i := 19) rfl
theorem nw_20 : Cond.fieldLinkNest "OneWordLetters" 107 "OneWordLetters$Letters" "size" "I" "OneWordLetters" ∈ nestW := List.mem_of_getElem? (i := 20) rfl
theorem nw_21 : Cond.fieldLinkNest "OneWordLetters$Foresight" 39 "OneWordLetters$Letters" "size" "I" "OneWordLetters" ∈ nestW := List.mem_of_getElem? (i := 21) rfl
theorem nw_22 : Cond.fieldLinkNest "OneWordLetters" 166 "OneWordLetters$Letters" "standing" "I" "OneWordLetters" ∈ nestW := List.mem_of_getElem? (i := 22) rfl
theorem nw_23 : Cond.fieldLinkNest "OneWordLetters" 150 "OneWordLetters$Course" "letter" "I" "OneWordLetters" ∈ nestW := List.mem_of_getElem? (i := 23) rfl
theorem nw_24 : Cond.fieldLinkNest "OneWordLetters" 153 "OneWordLetters$Course" "turn" "I" "OneWordLetters" ∈ nestW := List.mem_of_getElem? (i := 24) rfl
theorem nw_25 : Cond.fieldLinkNest "OneWordLetters" 156 "OneWordLetters$Course" "settled" "Z" "OneWordLetters" ∈ nestW := List.mem_of_getElem? (i := 25) rfl
theorem nw_26 : Cond.fieldLinkNest "OneWordLetters" 216 "OneWordLetters$Course" "gained" "[I" "OneWordLetters" ∈ nestW := List.mem_of_getElem? (i := 26) rfl
theorem nw_27 : Cond.fieldLinkNest "OneWordLetters" 160 "OneWordLetters$Course" "sent" "I" "OneWordLetters" ∈ nestW := List.mem_of_getElem? (i := 27) rfl
theorem nw_28 : Cond.fieldLinkNest "OneWordLetters" 144 "OneWordLetters$Course" "law" "I" "OneWordLetters" ∈ nestW := List.mem_of_getElem? (i := 28) rfl
theorem nw_29 : Cond.fieldLinkNest "OneWordLetters" 147 "OneWordLetters$Course" "way" "I" "OneWordLetters" ∈ nestW := List.mem_of_getElem? (i := 29) rfl
theorem nw_30 : Cond.fieldLinkNest "OneWordLetters" 279 "OneWordLetters$Course" "seed" "I" "OneWordLetters" ∈ nestW := List.mem_of_getElem? (i := 30) rfl
theorem nw_31 : Cond.fieldLinkNest "OneWordLetters" 300 "OneWordLetters$Row" "letters" "[I" "OneWordLetters" ∈ nestW := List.mem_of_getElem? (i := 31) rfl
theorem nw_32 : Cond.fieldLinkNest "OneWordLetters$Paths" 50 "OneWordLetters$Row" "count" "I" "OneWordLetters" ∈ nestW := List.mem_of_getElem? (i := 32) rfl
theorem nw_33 : Cond.fieldLinkNest "OneWordLetters$Foresight" 53 "OneWordLetters$Row" "count" "I" "OneWordLetters" ∈ nestW := List.mem_of_getElem? (i := 33) rfl
theorem nw_34 : Cond.fieldLinkNest "OneWordLetters" 163 "OneWordLetters$Row" "count" "I" "OneWordLetters" ∈ nestW := List.mem_of_getElem? (i := 34) rfl
theorem nw_35 : Cond.fieldLinkNest "OneWordLetters" 263 "OneWordLetters$Guess" "house" "I" "OneWordLetters" ∈ nestW := List.mem_of_getElem? (i := 35) rfl
theorem nw_36 : Cond.fieldLinkNest "OneWordLetters" 261 "OneWordLetters$Guess" "worths" "[I" "OneWordLetters" ∈ nestW := List.mem_of_getElem? (i := 36) rfl
theorem nw_37 : Cond.methodLinkNest "OneWordLetters" 9 ⟨"OneWordLetters$Reader", "<init>", "()V"⟩ "OneWordLetters" ∈ nestW := List.mem_of_getElem? (i := 37) rfl
theorem nw_38 : Cond.methodLinkNest "OneWordLetters" 18 ⟨"OneWordLetters$Tongue", "<init>", "()V"⟩ "OneWordLetters" ∈ nestW := List.mem_of_getElem? (i := 38) rfl
theorem nw_39 : Cond.methodLinkNest "OneWordLetters" 37 ⟨"OneWordLetters$Course", "<init>", "()V"⟩ "OneWordLetters" ∈ nestW := List.mem_of_getElem? (i := 39) rfl
theorem nw_40 : Cond.methodLinkNest "OneWordLetters" 94 ⟨"OneWordLetters$Guess", "<init>", "()V"⟩ "OneWordLetters" ∈ nestW := List.mem_of_getElem? (i := 40) rfl
theorem nw_41 : Cond.methodLinkNest "OneWordLetters" 244 ⟨"OneWordLetters$Foresight", "look", "(III)I"⟩ "OneWordLetters" ∈ nestW := List.mem_of_getElem? (i := 41) rfl
theorem sw_ne {x v : Int32} {k : Int} (hv : v.toInt = k) (h : ¬ x = v) : x.toInt ≠ k := fun e => h (Int32.toInt_inj.mp (e.trans hv.symm))
theorem tu1 {A0 : Type} {x0 y0 : A0} (h : some (x0) = some (y0)) : x0 = y0 := by cases h; exact rfl
theorem tu2 {A0 : Type} {A1 : Type} {x0 y0 : A0} {x1 y1 : A1} (h : some (x0, x1) = some (y0, y1)) : x0 = y0 ∧ x1 = y1 := by cases h; exact ⟨rfl, rfl⟩
theorem tu3 {A0 : Type} {A1 : Type} {A2 : Type} {x0 y0 : A0} {x1 y1 : A1} {x2 y2 : A2} (h : some (x0, x1, x2) = some (y0, y1, y2)) : x0 = y0 ∧ x1 = y1 ∧ x2 = y2 := by cases h; exact ⟨rfl, rfl, rfl⟩
theorem tu4 {A0 : Type} {A1 : Type} {A2 : Type} {A3 : Type} {x0 y0 : A0} {x1 y1 : A1} {x2 y2 : A2} {x3 y3 : A3} (h : some (x0, x1, x2, x3) = some (y0, y1, y2, y3)) : x0 = y0 ∧ x1 = y1 ∧ x2 = y2 ∧ x3 = y3 := by cases h; exact ⟨rfl, rfl, rfl, rfl⟩
theorem tu5 {A0 : Type} {A1 : Type} {A2 : Type} {A3 : Type} {A4 : Type} {x0 y0 : A0} {x1 y1 : A1} {x2 y2 : A2} {x3 y3 : A3} {x4 y4 : A4} (h : some (x0, x1, x2, x3, x4) = some (y0, y1, y2, y3, y4)) : x0 = y0 ∧ x1 = y1 ∧ x2 = y2 ∧ x3 = y3 ∧ x4 = y4 := by cases h; exact ⟨rfl, rfl, rfl, rfl, rfl⟩
theorem tu6 {A0 : Type} {A1 : Type} {A2 : Type} {A3 : Type} {A4 : Type} {A5 : Type} {x0 y0 : A0} {x1 y1 : A1} {x2 y2 : A2} {x3 y3 : A3} {x4 y4 : A4} {x5 y5 : A5} (h : some (x0, x1, x2, x3, x4, x5) = some (y0, y1, y2, y3, y4, y5)) : x0 = y0 ∧ x1 = y1 ∧ x2 = y2 ∧ x3 = y3 ∧ x4 = y4 ∧ x5 = y5 := by cases h; exact ⟨rfl, rfl, rfl, rfl, rfl, rfl⟩
theorem tu7 {A0 : Type} {A1 : Type} {A2 : Type} {A3 : Type} {A4 : Type} {A5 : Type} {A6 : Type} {x0 y0 : A0} {x1 y1 : A1} {x2 y2 : A2} {x3 y3 : A3} {x4 y4 : A4} {x5 y5 : A5} {x6 y6 : A6} (h : some (x0, x1, x2, x3, x4, x5, x6) = some (y0, y1, y2, y3, y4, y5, y6)) : x0 = y0 ∧ x1 = y1 ∧ x2 = y2 ∧ x3 = y3 ∧ x4 = y4 ∧ x5 = y5 ∧ x6 = y6 := by cases h; exact ⟨rfl, rfl, rfl, rfl, rfl, rfl, rfl⟩
theorem tu8 {A0 : Type} {A1 : Type} {A2 : Type} {A3 : Type} {A4 : Type} {A5 : Type} {A6 : Type} {A7 : Type} {x0 y0 : A0} {x1 y1 : A1} {x2 y2 : A2} {x3 y3 : A3} {x4 y4 : A4} {x5 y5 : A5} {x6 y6 : A6} {x7 y7 : A7} (h : some (x0, x1, x2, x3, x4, x5, x6, x7) = some (y0, y1, y2, y3, y4, y5, y6, y7)) : x0 = y0 ∧ x1 = y1 ∧ x2 = y2 ∧ x3 = y3 ∧ x4 = y4 ∧ x5 = y5 ∧ x6 = y6 ∧ x7 = y7 := by cases h; exact ⟨rfl, rfl, rfl, rfl, rfl, rfl, rfl, rfl⟩
theorem tu9 {A0 : Type} {A1 : Type} {A2 : Type} {A3 : Type} {A4 : Type} {A5 : Type} {A6 : Type} {A7 : Type} {A8 : Type} {x0 y0 : A0} {x1 y1 : A1} {x2 y2 : A2} {x3 y3 : A3} {x4 y4 : A4} {x5 y5 : A5} {x6 y6 : A6} {x7 y7 : A7} {x8 y8 : A8} (h : some (x0, x1, x2, x3, x4, x5, x6, x7, x8) = some (y0, y1, y2, y3, y4, y5, y6, y7, y8)) : x0 = y0 ∧ x1 = y1 ∧ x2 = y2 ∧ x3 = y3 ∧ x4 = y4 ∧ x5 = y5 ∧ x6 = y6 ∧ x7 = y7 ∧ x8 = y8 := by cases h; exact ⟨rfl, rfl, rfl, rfl, rfl, rfl, rfl, rfl, rfl⟩
theorem tu10 {A0 : Type} {A1 : Type} {A2 : Type} {A3 : Type} {A4 : Type} {A5 : Type} {A6 : Type} {A7 : Type} {A8 : Type} {A9 : Type} {x0 y0 : A0} {x1 y1 : A1} {x2 y2 : A2} {x3 y3 : A3} {x4 y4 : A4} {x5 y5 : A5} {x6 y6 : A6} {x7 y7 : A7} {x8 y8 : A8} {x9 y9 : A9} (h : some (x0, x1, x2, x3, x4, x5, x6, x7, x8, x9) = some (y0, y1, y2, y3, y4, y5, y6, y7, y8, y9)) : x0 = y0 ∧ x1 = y1 ∧ x2 = y2 ∧ x3 = y3 ∧ x4 = y4 ∧ x5 = y5 ∧ x6 = y6 ∧ x7 = y7 ∧ x8 = y8 ∧ x9 = y9 := by cases h; exact ⟨rfl, rfl, rfl, rfl, rfl, rfl, rfl, rfl, rfl, rfl⟩
theorem tu11 {A0 : Type} {A1 : Type} {A2 : Type} {A3 : Type} {A4 : Type} {A5 : Type} {A6 : Type} {A7 : Type} {A8 : Type} {A9 : Type} {A10 : Type} {x0 y0 : A0} {x1 y1 : A1} {x2 y2 : A2} {x3 y3 : A3} {x4 y4 : A4} {x5 y5 : A5} {x6 y6 : A6} {x7 y7 : A7} {x8 y8 : A8} {x9 y9 : A9} {x10 y10 : A10} (h : some (x0, x1, x2, x3, x4, x5, x6, x7, x8, x9, x10) = some (y0, y1, y2, y3, y4, y5, y6, y7, y8, y9, y10)) : x0 = y0 ∧ x1 = y1 ∧ x2 = y2 ∧ x3 = y3 ∧ x4 = y4 ∧ x5 = y5 ∧ x6 = y6 ∧ x7 = y7 ∧ x8 = y8 ∧ x9 = y9 ∧ x10 = y10 := by cases h; exact ⟨rfl, rfl, rfl, rfl, rfl, rfl, rfl, rfl, rfl, rfl, rfl⟩
theorem tu12 {A0 : Type} {A1 : Type} {A2 : Type} {A3 : Type} {A4 : Type} {A5 : Type} {A6 : Type} {A7 : Type} {A8 : Type} {A9 : Type} {A10 : Type} {A11 : Type} {x0 y0 : A0} {x1 y1 : A1} {x2 y2 : A2} {x3 y3 : A3} {x4 y4 : A4} {x5 y5 : A5} {x6 y6 : A6} {x7 y7 : A7} {x8 y8 : A8} {x9 y9 : A9} {x10 y10 : A10} {x11 y11 : A11} (h : some (x0, x1, x2, x3, x4, x5, x6, x7, x8, x9, x10, x11) = some (y0, y1, y2, y3, y4, y5, y6, y7, y8, y9, y10, y11)) : x0 = y0 ∧ x1 = y1 ∧ x2 = y2 ∧ x3 = y3 ∧ x4 = y4 ∧ x5 = y5 ∧ x6 = y6 ∧ x7 = y7 ∧ x8 = y8 ∧ x9 = y9 ∧ x10 = y10 ∧ x11 = y11 := by cases h; exact ⟨rfl, rfl, rfl, rfl, rfl, rfl, rfl, rfl, rfl, rfl, rfl, rfl⟩
theorem tu13 {A0 : Type} {A1 : Type} {A2 : Type} {A3 : Type} {A4 : Type} {A5 : Type} {A6 : Type} {A7 : Type} {A8 : Type} {A9 : Type} {A10 : Type} {A11 : Type} {A12 : Type} {x0 y0 : A0} {x1 y1 : A1} {x2 y2 : A2} {x3 y3 : A3} {x4 y4 : A4} {x5 y5 : A5} {x6 y6 : A6} {x7 y7 : A7} {x8 y8 : A8} {x9 y9 : A9} {x10 y10 : A10} {x11 y11 : A11} {x12 y12 : A12} (h : some (x0, x1, x2, x3, x4, x5, x6, x7, x8, x9, x10, x11, x12) = some (y0, y1, y2, y3, y4, y5, y6, y7, y8, y9, y10, y11, y12)) : x0 = y0 ∧ x1 = y1 ∧ x2 = y2 ∧ x3 = y3 ∧ x4 = y4 ∧ x5 = y5 ∧ x6 = y6 ∧ x7 = y7 ∧ x8 = y8 ∧ x9 = y9 ∧ x10 = y10 ∧ x11 = y11 ∧ x12 = y12 := by cases h; exact ⟨rfl, rfl, rfl, rfl, rfl, rfl, rfl, rfl, rfl, rfl, rfl, rfl, rfl⟩
theorem tu14 {A0 : Type} {A1 : Type} {A2 : Type} {A3 : Type} {A4 : Type} {A5 : Type} {A6 : Type} {A7 : Type} {A8 : Type} {A9 : Type} {A10 : Type} {A11 : Type} {A12 : Type} {A13 : Type} {x0 y0 : A0} {x1 y1 : A1} {x2 y2 : A2} {x3 y3 : A3} {x4 y4 : A4} {x5 y5 : A5} {x6 y6 : A6} {x7 y7 : A7} {x8 y8 : A8} {x9 y9 : A9} {x10 y10 : A10} {x11 y11 : A11} {x12 y12 : A12} {x13 y13 : A13} (h : some (x0, x1, x2, x3, x4, x5, x6, x7, x8, x9, x10, x11, x12, x13) = some (y0, y1, y2, y3, y4, y5, y6, y7, y8, y9, y10, y11, y12, y13)) : x0 = y0 ∧ x1 = y1 ∧ x2 = y2 ∧ x3 = y3 ∧ x4 = y4 ∧ x5 = y5 ∧ x6 = y6 ∧ x7 = y7 ∧ x8 = y8 ∧ x9 = y9 ∧ x10 = y10 ∧ x11 = y11 ∧ x12 = y12 ∧ x13 = y13 := by cases h; exact ⟨rfl, rfl, rfl, rfl, rfl, rfl, rfl, rfl, rfl, rfl, rfl, rfl, rfl, rfl⟩
theorem tu15 {A0 : Type} {A1 : Type} {A2 : Type} {A3 : Type} {A4 : Type} {A5 : Type} {A6 : Type} {A7 : Type} {A8 : Type} {A9 : Type} {A10 : Type} {A11 : Type} {A12 : Type} {A13 : Type} {A14 : Type} {x0 y0 : A0} {x1 y1 : A1} {x2 y2 : A2} {x3 y3 : A3} {x4 y4 : A4} {x5 y5 : A5} {x6 y6 : A6} {x7 y7 : A7} {x8 y8 : A8} {x9 y9 : A9} {x10 y10 : A10} {x11 y11 : A11} {x12 y12 : A12} {x13 y13 : A13} {x14 y14 : A14} (h : some (x0, x1, x2, x3, x4, x5, x6, x7, x8, x9, x10, x11, x12, x13, x14) = some (y0, y1, y2, y3, y4, y5, y6, y7, y8, y9, y10, y11, y12, y13, y14)) : x0 = y0 ∧ x1 = y1 ∧ x2 = y2 ∧ x3 = y3 ∧ x4 = y4 ∧ x5 = y5 ∧ x6 = y6 ∧ x7 = y7 ∧ x8 = y8 ∧ x9 = y9 ∧ x10 = y10 ∧ x11 = y11 ∧ x12 = y12 ∧ x13 = y13 ∧ x14 = y14 := by cases h; exact ⟨rfl, rfl, rfl, rfl, rfl, rfl, rfl, rfl, rfl, rfl, rfl, rfl, rfl, rfl, rfl⟩
theorem tu16 {A0 : Type} {A1 : Type} {A2 : Type} {A3 : Type} {A4 : Type} {A5 : Type} {A6 : Type} {A7 : Type} {A8 : Type} {A9 : Type} {A10 : Type} {A11 : Type} {A12 : Type} {A13 : Type} {A14 : Type} {A15 : Type} {x0 y0 : A0} {x1 y1 : A1} {x2 y2 : A2} {x3 y3 : A3} {x4 y4 : A4} {x5 y5 : A5} {x6 y6 : A6} {x7 y7 : A7} {x8 y8 : A8} {x9 y9 : A9} {x10 y10 : A10} {x11 y11 : A11} {x12 y12 : A12} {x13 y13 : A13} {x14 y14 : A14} {x15 y15 : A15} (h : some (x0, x1, x2, x3, x4, x5, x6, x7, x8, x9, x10, x11, x12, x13, x14, x15) = some (y0, y1, y2, y3, y4, y5, y6, y7, y8, y9, y10, y11, y12, y13, y14, y15)) : x0 = y0 ∧ x1 = y1 ∧ x2 = y2 ∧ x3 = y3 ∧ x4 = y4 ∧ x5 = y5 ∧ x6 = y6 ∧ x7 = y7 ∧ x8 = y8 ∧ x9 = y9 ∧ x10 = y10 ∧ x11 = y11 ∧ x12 = y12 ∧ x13 = y13 ∧ x14 = y14 ∧ x15 = y15 := by cases h; exact ⟨rfl, rfl, rfl, rfl, rfl, rfl, rfl, rfl, rfl, rfl, rfl, rfl, rfl, rfl, rfl, rfl⟩
theorem tu17 {A0 : Type} {A1 : Type} {A2 : Type} {A3 : Type} {A4 : Type} {A5 : Type} {A6 : Type} {A7 : Type} {A8 : Type} {A9 : Type} {A10 : Type} {A11 : Type} {A12 : Type} {A13 : Type} {A14 : Type} {A15 : Type} {A16 : Type} {x0 y0 : A0} {x1 y1 : A1} {x2 y2 : A2} {x3 y3 : A3} {x4 y4 : A4} {x5 y5 : A5} {x6 y6 : A6} {x7 y7 : A7} {x8 y8 : A8} {x9 y9 : A9} {x10 y10 : A10} {x11 y11 : A11} {x12 y12 : A12} {x13 y13 : A13} {x14 y14 : A14} {x15 y15 : A15} {x16 y16 : A16} (h : some (x0, x1, x2, x3, x4, x5, x6, x7, x8, x9, x10, x11, x12, x13, x14, x15, x16) = some (y0, y1, y2, y3, y4, y5, y6, y7, y8, y9, y10, y11, y12, y13, y14, y15, y16)) : x0 = y0 ∧ x1 = y1 ∧ x2 = y2 ∧ x3 = y3 ∧ x4 = y4 ∧ x5 = y5 ∧ x6 = y6 ∧ x7 = y7 ∧ x8 = y8 ∧ x9 = y9 ∧ x10 = y10 ∧ x11 = y11 ∧ x12 = y12 ∧ x13 = y13 ∧ x14 = y14 ∧ x15 = y15 ∧ x16 = y16 := by cases h; exact ⟨rfl, rfl, rfl, rfl, rfl, rfl, rfl, rfl, rfl, rfl, rfl, rfl, rfl, rfl, rfl, rfl, rfl⟩
theorem tu18 {A0 : Type} {A1 : Type} {A2 : Type} {A3 : Type} {A4 : Type} {A5 : Type} {A6 : Type} {A7 : Type} {A8 : Type} {A9 : Type} {A10 : Type} {A11 : Type} {A12 : Type} {A13 : Type} {A14 : Type} {A15 : Type} {A16 : Type} {A17 : Type} {x0 y0 : A0} {x1 y1 : A1} {x2 y2 : A2} {x3 y3 : A3} {x4 y4 : A4} {x5 y5 : A5} {x6 y6 : A6} {x7 y7 : A7} {x8 y8 : A8} {x9 y9 : A9} {x10 y10 : A10} {x11 y11 : A11} {x12 y12 : A12} {x13 y13 : A13} {x14 y14 : A14} {x15 y15 : A15} {x16 y16 : A16} {x17 y17 : A17} (h : some (x0, x1, x2, x3, x4, x5, x6, x7, x8, x9, x10, x11, x12, x13, x14, x15, x16, x17) = some (y0, y1, y2, y3, y4, y5, y6, y7, y8, y9, y10, y11, y12, y13, y14, y15, y16, y17)) : x0 = y0 ∧ x1 = y1 ∧ x2 = y2 ∧ x3 = y3 ∧ x4 = y4 ∧ x5 = y5 ∧ x6 = y6 ∧ x7 = y7 ∧ x8 = y8 ∧ x9 = y9 ∧ x10 = y10 ∧ x11 = y11 ∧ x12 = y12 ∧ x13 = y13 ∧ x14 = y14 ∧ x15 = y15 ∧ x16 = y16 ∧ x17 = y17 := by cases h; exact ⟨rfl, rfl, rfl, rfl, rfl, rfl, rfl, rfl, rfl, rfl, rfl, rfl, rfl, rfl, rfl, rfl, rfl, rfl⟩
theorem tu19 {A0 : Type} {A1 : Type} {A2 : Type} {A3 : Type} {A4 : Type} {A5 : Type} {A6 : Type} {A7 : Type} {A8 : Type} {A9 : Type} {A10 : Type} {A11 : Type} {A12 : Type} {A13 : Type} {A14 : Type} {A15 : Type} {A16 : Type} {A17 : Type} {A18 : Type} {x0 y0 : A0} {x1 y1 : A1} {x2 y2 : A2} {x3 y3 : A3} {x4 y4 : A4} {x5 y5 : A5} {x6 y6 : A6} {x7 y7 : A7} {x8 y8 : A8} {x9 y9 : A9} {x10 y10 : A10} {x11 y11 : A11} {x12 y12 : A12} {x13 y13 : A13} {x14 y14 : A14} {x15 y15 : A15} {x16 y16 : A16} {x17 y17 : A17} {x18 y18 : A18} (h : some (x0, x1, x2, x3, x4, x5, x6, x7, x8, x9, x10, x11, x12, x13, x14, x15, x16, x17, x18) = some (y0, y1, y2, y3, y4, y5, y6, y7, y8, y9, y10, y11, y12, y13, y14, y15, y16, y17, y18)) : x0 = y0 ∧ x1 = y1 ∧ x2 = y2 ∧ x3 = y3 ∧ x4 = y4 ∧ x5 = y5 ∧ x6 = y6 ∧ x7 = y7 ∧ x8 = y8 ∧ x9 = y9 ∧ x10 = y10 ∧ x11 = y11 ∧ x12 = y12 ∧ x13 = y13 ∧ x14 = y14 ∧ x15 = y15 ∧ x16 = y16 ∧ x17 = y17 ∧ x18 = y18 := by cases h; exact ⟨rfl, rfl, rfl, rfl, rfl, rfl, rfl, rfl, rfl, rfl, rfl, rfl, rfl, rfl, rfl, rfl, rfl, rfl, rfl⟩
theorem tu20 {A0 : Type} {A1 : Type} {A2 : Type} {A3 : Type} {A4 : Type} {A5 : Type} {A6 : Type} {A7 : Type} {A8 : Type} {A9 : Type} {A10 : Type} {A11 : Type} {A12 : Type} {A13 : Type} {A14 : Type} {A15 : Type} {A16 : Type} {A17 : Type} {A18 : Type} {A19 : Type} {x0 y0 : A0} {x1 y1 : A1} {x2 y2 : A2} {x3 y3 : A3} {x4 y4 : A4} {x5 y5 : A5} {x6 y6 : A6} {x7 y7 : A7} {x8 y8 : A8} {x9 y9 : A9} {x10 y10 : A10} {x11 y11 : A11} {x12 y12 : A12} {x13 y13 : A13} {x14 y14 : A14} {x15 y15 : A15} {x16 y16 : A16} {x17 y17 : A17} {x18 y18 : A18} {x19 y19 : A19} (h : some (x0, x1, x2, x3, x4, x5, x6, x7, x8, x9, x10, x11, x12, x13, x14, x15, x16, x17, x18, x19) = some (y0, y1, y2, y3, y4, y5, y6, y7, y8, y9, y10, y11, y12, y13, y14, y15, y16, y17, y18, y19)) : x0 = y0 ∧ x1 = y1 ∧ x2 = y2 ∧ x3 = y3 ∧ x4 = y4 ∧ x5 = y5 ∧ x6 = y6 ∧ x7 = y7 ∧ x8 = y8 ∧ x9 = y9 ∧ x10 = y10 ∧ x11 = y11 ∧ x12 = y12 ∧ x13 = y13 ∧ x14 = y14 ∧ x15 = y15 ∧ x16 = y16 ∧ x17 = y17 ∧ x18 = y18 ∧ x19 = y19 := by cases h; exact ⟨rfl, rfl, rfl, rfl, rfl, rfl, rfl, rfl, rfl, rfl, rfl, rfl, rfl, rfl, rfl, rfl, rfl, rfl, rfl, rfl⟩
theorem tu21 {A0 : Type} {A1 : Type} {A2 : Type} {A3 : Type} {A4 : Type} {A5 : Type} {A6 : Type} {A7 : Type} {A8 : Type} {A9 : Type} {A10 : Type} {A11 : Type} {A12 : Type} {A13 : Type} {A14 : Type} {A15 : Type} {A16 : Type} {A17 : Type} {A18 : Type} {A19 : Type} {A20 : Type} {x0 y0 : A0} {x1 y1 : A1} {x2 y2 : A2} {x3 y3 : A3} {x4 y4 : A4} {x5 y5 : A5} {x6 y6 : A6} {x7 y7 : A7} {x8 y8 : A8} {x9 y9 : A9} {x10 y10 : A10} {x11 y11 : A11} {x12 y12 : A12} {x13 y13 : A13} {x14 y14 : A14} {x15 y15 : A15} {x16 y16 : A16} {x17 y17 : A17} {x18 y18 : A18} {x19 y19 : A19} {x20 y20 : A20} (h : some (x0, x1, x2, x3, x4, x5, x6, x7, x8, x9, x10, x11, x12, x13, x14, x15, x16, x17, x18, x19, x20) = some (y0, y1, y2, y3, y4, y5, y6, y7, y8, y9, y10, y11, y12, y13, y14, y15, y16, y17, y18, y19, y20)) : x0 = y0 ∧ x1 = y1 ∧ x2 = y2 ∧ x3 = y3 ∧ x4 = y4 ∧ x5 = y5 ∧ x6 = y6 ∧ x7 = y7 ∧ x8 = y8 ∧ x9 = y9 ∧ x10 = y10 ∧ x11 = y11 ∧ x12 = y12 ∧ x13 = y13 ∧ x14 = y14 ∧ x15 = y15 ∧ x16 = y16 ∧ x17 = y17 ∧ x18 = y18 ∧ x19 = y19 ∧ x20 = y20 := by cases h; exact ⟨rfl, rfl, rfl, rfl, rfl, rfl, rfl, rfl, rfl, rfl, rfl, rfl, rfl, rfl, rfl, rfl, rfl, rfl, rfl, rfl, rfl⟩
theorem tu22 {A0 : Type} {A1 : Type} {A2 : Type} {A3 : Type} {A4 : Type} {A5 : Type} {A6 : Type} {A7 : Type} {A8 : Type} {A9 : Type} {A10 : Type} {A11 : Type} {A12 : Type} {A13 : Type} {A14 : Type} {A15 : Type} {A16 : Type} {A17 : Type} {A18 : Type} {A19 : Type} {A20 : Type} {A21 : Type} {x0 y0 : A0} {x1 y1 : A1} {x2 y2 : A2} {x3 y3 : A3} {x4 y4 : A4} {x5 y5 : A5} {x6 y6 : A6} {x7 y7 : A7} {x8 y8 : A8} {x9 y9 : A9} {x10 y10 : A10} {x11 y11 : A11} {x12 y12 : A12} {x13 y13 : A13} {x14 y14 : A14} {x15 y15 : A15} {x16 y16 : A16} {x17 y17 : A17} {x18 y18 : A18} {x19 y19 : A19} {x20 y20 : A20} {x21 y21 : A21} (h : some (x0, x1, x2, x3, x4, x5, x6, x7, x8, x9, x10, x11, x12, x13, x14, x15, x16, x17, x18, x19, x20, x21) = some (y0, y1, y2, y3, y4, y5, y6, y7, y8, y9, y10, y11, y12, y13, y14, y15, y16, y17, y18, y19, y20, y21)) : x0 = y0 ∧ x1 = y1 ∧ x2 = y2 ∧ x3 = y3 ∧ x4 = y4 ∧ x5 = y5 ∧ x6 = y6 ∧ x7 = y7 ∧ x8 = y8 ∧ x9 = y9 ∧ x10 = y10 ∧ x11 = y11 ∧ x12 = y12 ∧ x13 = y13 ∧ x14 = y14 ∧ x15 = y15 ∧ x16 = y16 ∧ x17 = y17 ∧ x18 = y18 ∧ x19 = y19 ∧ x20 = y20 ∧ x21 = y21 := by cases h; exact ⟨rfl, rfl, rfl, rfl, rfl, rfl, rfl, rfl, rfl, rfl, rfl, rfl, rfl, rfl, rfl, rfl, rfl, rfl, rfl, rfl, rfl, rfl⟩
theorem tu23 {A0 : Type} {A1 : Type} {A2 : Type} {A3 : Type} {A4 : Type} {A5 : Type} {A6 : Type} {A7 : Type} {A8 : Type} {A9 : Type} {A10 : Type} {A11 : Type} {A12 : Type} {A13 : Type} {A14 : Type} {A15 : Type} {A16 : Type} {A17 : Type} {A18 : Type} {A19 : Type} {A20 : Type} {A21 : Type} {A22 : Type} {x0 y0 : A0} {x1 y1 : A1} {x2 y2 : A2} {x3 y3 : A3} {x4 y4 : A4} {x5 y5 : A5} {x6 y6 : A6} {x7 y7 : A7} {x8 y8 : A8} {x9 y9 : A9} {x10 y10 : A10} {x11 y11 : A11} {x12 y12 : A12} {x13 y13 : A13} {x14 y14 : A14} {x15 y15 : A15} {x16 y16 : A16} {x17 y17 : A17} {x18 y18 : A18} {x19 y19 : A19} {x20 y20 : A20} {x21 y21 : A21} {x22 y22 : A22} (h : some (x0, x1, x2, x3, x4, x5, x6, x7, x8, x9, x10, x11, x12, x13, x14, x15, x16, x17, x18, x19, x20, x21, x22) = some (y0, y1, y2, y3, y4, y5, y6, y7, y8, y9, y10, y11, y12, y13, y14, y15, y16, y17, y18, y19, y20, y21, y22)) : x0 = y0 ∧ x1 = y1 ∧ x2 = y2 ∧ x3 = y3 ∧ x4 = y4 ∧ x5 = y5 ∧ x6 = y6 ∧ x7 = y7 ∧ x8 = y8 ∧ x9 = y9 ∧ x10 = y10 ∧ x11 = y11 ∧ x12 = y12 ∧ x13 = y13 ∧ x14 = y14 ∧ x15 = y15 ∧ x16 = y16 ∧ x17 = y17 ∧ x18 = y18 ∧ x19 = y19 ∧ x20 = y20 ∧ x21 = y21 ∧ x22 = y22 := by cases h; exact ⟨rfl, rfl, rfl, rfl, rfl, rfl, rfl, rfl, rfl, rfl, rfl, rfl, rfl, rfl, rfl, rfl, rfl, rfl, rfl, rfl, rfl, rfl, rfl⟩
theorem tu24 {A0 : Type} {A1 : Type} {A2 : Type} {A3 : Type} {A4 : Type} {A5 : Type} {A6 : Type} {A7 : Type} {A8 : Type} {A9 : Type} {A10 : Type} {A11 : Type} {A12 : Type} {A13 : Type} {A14 : Type} {A15 : Type} {A16 : Type} {A17 : Type} {A18 : Type} {A19 : Type} {A20 : Type} {A21 : Type} {A22 : Type} {A23 : Type} {x0 y0 : A0} {x1 y1 : A1} {x2 y2 : A2} {x3 y3 : A3} {x4 y4 : A4} {x5 y5 : A5} {x6 y6 : A6} {x7 y7 : A7} {x8 y8 : A8} {x9 y9 : A9} {x10 y10 : A10} {x11 y11 : A11} {x12 y12 : A12} {x13 y13 : A13} {x14 y14 : A14} {x15 y15 : A15} {x16 y16 : A16} {x17 y17 : A17} {x18 y18 : A18} {x19 y19 : A19} {x20 y20 : A20} {x21 y21 : A21} {x22 y22 : A22} {x23 y23 : A23} (h : some (x0, x1, x2, x3, x4, x5, x6, x7, x8, x9, x10, x11, x12, x13, x14, x15, x16, x17, x18, x19, x20, x21, x22, x23) = some (y0, y1, y2, y3, y4, y5, y6, y7, y8, y9, y10, y11, y12, y13, y14, y15, y16, y17, y18, y19, y20, y21, y22, y23)) : x0 = y0 ∧ x1 = y1 ∧ x2 = y2 ∧ x3 = y3 ∧ x4 = y4 ∧ x5 = y5 ∧ x6 = y6 ∧ x7 = y7 ∧ x8 = y8 ∧ x9 = y9 ∧ x10 = y10 ∧ x11 = y11 ∧ x12 = y12 ∧ x13 = y13 ∧ x14 = y14 ∧ x15 = y15 ∧ x16 = y16 ∧ x17 = y17 ∧ x18 = y18 ∧ x19 = y19 ∧ x20 = y20 ∧ x21 = y21 ∧ x22 = y22 ∧ x23 = y23 := by cases h; exact ⟨rfl, rfl, rfl, rfl, rfl, rfl, rfl, rfl, rfl, rfl, rfl, rfl, rfl, rfl, rfl, rfl, rfl, rfl, rfl, rfl, rfl, rfl, rfl, rfl⟩
theorem tu25 {A0 : Type} {A1 : Type} {A2 : Type} {A3 : Type} {A4 : Type} {A5 : Type} {A6 : Type} {A7 : Type} {A8 : Type} {A9 : Type} {A10 : Type} {A11 : Type} {A12 : Type} {A13 : Type} {A14 : Type} {A15 : Type} {A16 : Type} {A17 : Type} {A18 : Type} {A19 : Type} {A20 : Type} {A21 : Type} {A22 : Type} {A23 : Type} {A24 : Type} {x0 y0 : A0} {x1 y1 : A1} {x2 y2 : A2} {x3 y3 : A3} {x4 y4 : A4} {x5 y5 : A5} {x6 y6 : A6} {x7 y7 : A7} {x8 y8 : A8} {x9 y9 : A9} {x10 y10 : A10} {x11 y11 : A11} {x12 y12 : A12} {x13 y13 : A13} {x14 y14 : A14} {x15 y15 : A15} {x16 y16 : A16} {x17 y17 : A17} {x18 y18 : A18} {x19 y19 : A19} {x20 y20 : A20} {x21 y21 : A21} {x22 y22 : A22} {x23 y23 : A23} {x24 y24 : A24} (h : some (x0, x1, x2, x3, x4, x5, x6, x7, x8, x9, x10, x11, x12, x13, x14, x15, x16, x17, x18, x19, x20, x21, x22, x23, x24) = some (y0, y1, y2, y3, y4, y5, y6, y7, y8, y9, y10, y11, y12, y13, y14, y15, y16, y17, y18, y19, y20, y21, y22, y23, y24)) : x0 = y0 ∧ x1 = y1 ∧ x2 = y2 ∧ x3 = y3 ∧ x4 = y4 ∧ x5 = y5 ∧ x6 = y6 ∧ x7 = y7 ∧ x8 = y8 ∧ x9 = y9 ∧ x10 = y10 ∧ x11 = y11 ∧ x12 = y12 ∧ x13 = y13 ∧ x14 = y14 ∧ x15 = y15 ∧ x16 = y16 ∧ x17 = y17 ∧ x18 = y18 ∧ x19 = y19 ∧ x20 = y20 ∧ x21 = y21 ∧ x22 = y22 ∧ x23 = y23 ∧ x24 = y24 := by cases h; exact ⟨rfl, rfl, rfl, rfl, rfl, rfl, rfl, rfl, rfl, rfl, rfl, rfl, rfl, rfl, rfl, rfl, rfl, rfl, rfl, rfl, rfl, rfl, rfl, rfl, rfl⟩
theorem tu26 {A0 : Type} {A1 : Type} {A2 : Type} {A3 : Type} {A4 : Type} {A5 : Type} {A6 : Type} {A7 : Type} {A8 : Type} {A9 : Type} {A10 : Type} {A11 : Type} {A12 : Type} {A13 : Type} {A14 : Type} {A15 : Type} {A16 : Type} {A17 : Type} {A18 : Type} {A19 : Type} {A20 : Type} {A21 : Type} {A22 : Type} {A23 : Type} {A24 : Type} {A25 : Type} {x0 y0 : A0} {x1 y1 : A1} {x2 y2 : A2} {x3 y3 : A3} {x4 y4 : A4} {x5 y5 : A5} {x6 y6 : A6} {x7 y7 : A7} {x8 y8 : A8} {x9 y9 : A9} {x10 y10 : A10} {x11 y11 : A11} {x12 y12 : A12} {x13 y13 : A13} {x14 y14 : A14} {x15 y15 : A15} {x16 y16 : A16} {x17 y17 : A17} {x18 y18 : A18} {x19 y19 : A19} {x20 y20 : A20} {x21 y21 : A21} {x22 y22 : A22} {x23 y23 : A23} {x24 y24 : A24} {x25 y25 : A25} (h : some (x0, x1, x2, x3, x4, x5, x6, x7, x8, x9, x10, x11, x12, x13, x14, x15, x16, x17, x18, x19, x20, x21, x22, x23, x24, x25) = some (y0, y1, y2, y3, y4, y5, y6, y7, y8, y9, y10, y11, y12, y13, y14, y15, y16, y17, y18, y19, y20, y21, y22, y23, y24, y25)) : x0 = y0 ∧ x1 = y1 ∧ x2 = y2 ∧ x3 = y3 ∧ x4 = y4 ∧ x5 = y5 ∧ x6 = y6 ∧ x7 = y7 ∧ x8 = y8 ∧ x9 = y9 ∧ x10 = y10 ∧ x11 = y11 ∧ x12 = y12 ∧ x13 = y13 ∧ x14 = y14 ∧ x15 = y15 ∧ x16 = y16 ∧ x17 = y17 ∧ x18 = y18 ∧ x19 = y19 ∧ x20 = y20 ∧ x21 = y21 ∧ x22 = y22 ∧ x23 = y23 ∧ x24 = y24 ∧ x25 = y25 := by cases h; exact ⟨rfl, rfl, rfl, rfl, rfl, rfl, rfl, rfl, rfl, rfl, rfl, rfl, rfl, rfl, rfl, rfl, rfl, rfl, rfl, rfl, rfl, rfl, rfl, rfl, rfl, rfl⟩
theorem tu27 {A0 : Type} {A1 : Type} {A2 : Type} {A3 : Type} {A4 : Type} {A5 : Type} {A6 : Type} {A7 : Type} {A8 : Type} {A9 : Type} {A10 : Type} {A11 : Type} {A12 : Type} {A13 : Type} {A14 : Type} {A15 : Type} {A16 : Type} {A17 : Type} {A18 : Type} {A19 : Type} {A20 : Type} {A21 : Type} {A22 : Type} {A23 : Type} {A24 : Type} {A25 : Type} {A26 : Type} {x0 y0 : A0} {x1 y1 : A1} {x2 y2 : A2} {x3 y3 : A3} {x4 y4 : A4} {x5 y5 : A5} {x6 y6 : A6} {x7 y7 : A7} {x8 y8 : A8} {x9 y9 : A9} {x10 y10 : A10} {x11 y11 : A11} {x12 y12 : A12} {x13 y13 : A13} {x14 y14 : A14} {x15 y15 : A15} {x16 y16 : A16} {x17 y17 : A17} {x18 y18 : A18} {x19 y19 : A19} {x20 y20 : A20} {x21 y21 : A21} {x22 y22 : A22} {x23 y23 : A23} {x24 y24 : A24} {x25 y25 : A25} {x26 y26 : A26} (h : some (x0, x1, x2, x3, x4, x5, x6, x7, x8, x9, x10, x11, x12, x13, x14, x15, x16, x17, x18, x19, x20, x21, x22, x23, x24, x25, x26) = some (y0, y1, y2, y3, y4, y5, y6, y7, y8, y9, y10, y11, y12, y13, y14, y15, y16, y17, y18, y19, y20, y21, y22, y23, y24, y25, y26)) : x0 = y0 ∧ x1 = y1 ∧ x2 = y2 ∧ x3 = y3 ∧ x4 = y4 ∧ x5 = y5 ∧ x6 = y6 ∧ x7 = y7 ∧ x8 = y8 ∧ x9 = y9 ∧ x10 = y10 ∧ x11 = y11 ∧ x12 = y12 ∧ x13 = y13 ∧ x14 = y14 ∧ x15 = y15 ∧ x16 = y16 ∧ x17 = y17 ∧ x18 = y18 ∧ x19 = y19 ∧ x20 = y20 ∧ x21 = y21 ∧ x22 = y22 ∧ x23 = y23 ∧ x24 = y24 ∧ x25 = y25 ∧ x26 = y26 := by cases h; exact ⟨rfl, rfl, rfl, rfl, rfl, rfl, rfl, rfl, rfl, rfl, rfl, rfl, rfl, rfl, rfl, rfl, rfl, rfl, rfl, rfl, rfl, rfl, rfl, rfl, rfl, rfl, rfl⟩
theorem tu28 {A0 : Type} {A1 : Type} {A2 : Type} {A3 : Type} {A4 : Type} {A5 : Type} {A6 : Type} {A7 : Type} {A8 : Type} {A9 : Type} {A10 : Type} {A11 : Type} {A12 : Type} {A13 : Type} {A14 : Type} {A15 : Type} {A16 : Type} {A17 : Type} {A18 : Type} {A19 : Type} {A20 : Type} {A21 : Type} {A22 : Type} {A23 : Type} {A24 : Type} {A25 : Type} {A26 : Type} {A27 : Type} {x0 y0 : A0} {x1 y1 : A1} {x2 y2 : A2} {x3 y3 : A3} {x4 y4 : A4} {x5 y5 : A5} {x6 y6 : A6} {x7 y7 : A7} {x8 y8 : A8} {x9 y9 : A9} {x10 y10 : A10} {x11 y11 : A11} {x12 y12 : A12} {x13 y13 : A13} {x14 y14 : A14} {x15 y15 : A15} {x16 y16 : A16} {x17 y17 : A17} {x18 y18 : A18} {x19 y19 : A19} {x20 y20 : A20} {x21 y21 : A21} {x22 y22 : A22} {x23 y23 : A23} {x24 y24 : A24} {x25 y25 : A25} {x26 y26 : A26} {x27 y27 : A27} (h : some (x0, x1, x2, x3, x4, x5, x6, x7, x8, x9, x10, x11, x12, x13, x14, x15, x16, x17, x18, x19, x20, x21, x22, x23, x24, x25, x26, x27) = some (y0, y1, y2, y3, y4, y5, y6, y7, y8, y9, y10, y11, y12, y13, y14, y15, y16, y17, y18, y19, y20, y21, y22, y23, y24, y25, y26, y27)) : x0 = y0 ∧ x1 = y1 ∧ x2 = y2 ∧ x3 = y3 ∧ x4 = y4 ∧ x5 = y5 ∧ x6 = y6 ∧ x7 = y7 ∧ x8 = y8 ∧ x9 = y9 ∧ x10 = y10 ∧ x11 = y11 ∧ x12 = y12 ∧ x13 = y13 ∧ x14 = y14 ∧ x15 = y15 ∧ x16 = y16 ∧ x17 = y17 ∧ x18 = y18 ∧ x19 = y19 ∧ x20 = y20 ∧ x21 = y21 ∧ x22 = y22 ∧ x23 = y23 ∧ x24 = y24 ∧ x25 = y25 ∧ x26 = y26 ∧ x27 = y27 := by cases h; exact ⟨rfl, rfl, rfl, rfl, rfl, rfl, rfl, rfl, rfl, rfl, rfl, rfl, rfl, rfl, rfl, rfl, rfl, rfl, rfl, rfl, rfl, rfl, rfl, rfl, rfl, rfl, rfl, rfl⟩
theorem tu29 {A0 : Type} {A1 : Type} {A2 : Type} {A3 : Type} {A4 : Type} {A5 : Type} {A6 : Type} {A7 : Type} {A8 : Type} {A9 : Type} {A10 : Type} {A11 : Type} {A12 : Type} {A13 : Type} {A14 : Type} {A15 : Type} {A16 : Type} {A17 : Type} {A18 : Type} {A19 : Type} {A20 : Type} {A21 : Type} {A22 : Type} {A23 : Type} {A24 : Type} {A25 : Type} {A26 : Type} {A27 : Type} {A28 : Type} {x0 y0 : A0} {x1 y1 : A1} {x2 y2 : A2} {x3 y3 : A3} {x4 y4 : A4} {x5 y5 : A5} {x6 y6 : A6} {x7 y7 : A7} {x8 y8 : A8} {x9 y9 : A9} {x10 y10 : A10} {x11 y11 : A11} {x12 y12 : A12} {x13 y13 : A13} {x14 y14 : A14} {x15 y15 : A15} {x16 y16 : A16} {x17 y17 : A17} {x18 y18 : A18} {x19 y19 : A19} {x20 y20 : A20} {x21 y21 : A21} {x22 y22 : A22} {x23 y23 : A23} {x24 y24 : A24} {x25 y25 : A25} {x26 y26 : A26} {x27 y27 : A27} {x28 y28 : A28} (h : some (x0, x1, x2, x3, x4, x5, x6, x7, x8, x9, x10, x11, x12, x13, x14, x15, x16, x17, x18, x19, x20, x21, x22, x23, x24, x25, x26, x27, x28) = some (y0, y1, y2, y3, y4, y5, y6, y7, y8, y9, y10, y11, y12, y13, y14, y15, y16, y17, y18, y19, y20, y21, y22, y23, y24, y25, y26, y27, y28)) : x0 = y0 ∧ x1 = y1 ∧ x2 = y2 ∧ x3 = y3 ∧ x4 = y4 ∧ x5 = y5 ∧ x6 = y6 ∧ x7 = y7 ∧ x8 = y8 ∧ x9 = y9 ∧ x10 = y10 ∧ x11 = y11 ∧ x12 = y12 ∧ x13 = y13 ∧ x14 = y14 ∧ x15 = y15 ∧ x16 = y16 ∧ x17 = y17 ∧ x18 = y18 ∧ x19 = y19 ∧ x20 = y20 ∧ x21 = y21 ∧ x22 = y22 ∧ x23 = y23 ∧ x24 = y24 ∧ x25 = y25 ∧ x26 = y26 ∧ x27 = y27 ∧ x28 = y28 := by cases h; exact ⟨rfl, rfl, rfl, rfl, rfl, rfl, rfl, rfl, rfl, rfl, rfl, rfl, rfl, rfl, rfl, rfl, rfl, rfl, rfl, rfl, rfl, rfl, rfl, rfl, rfl, rfl, rfl, rfl, rfl⟩
theorem tu30 {A0 : Type} {A1 : Type} {A2 : Type} {A3 : Type} {A4 : Type} {A5 : Type} {A6 : Type} {A7 : Type} {A8 : Type} {A9 : Type} {A10 : Type} {A11 : Type} {A12 : Type} {A13 : Type} {A14 : Type} {A15 : Type} {A16 : Type} {A17 : Type} {A18 : Type} {A19 : Type} {A20 : Type} {A21 : Type} {A22 : Type} {A23 : Type} {A24 : Type} {A25 : Type} {A26 : Type} {A27 : Type} {A28 : Type} {A29 : Type} {x0 y0 : A0} {x1 y1 : A1} {x2 y2 : A2} {x3 y3 : A3} {x4 y4 : A4} {x5 y5 : A5} {x6 y6 : A6} {x7 y7 : A7} {x8 y8 : A8} {x9 y9 : A9} {x10 y10 : A10} {x11 y11 : A11} {x12 y12 : A12} {x13 y13 : A13} {x14 y14 : A14} {x15 y15 : A15} {x16 y16 : A16} {x17 y17 : A17} {x18 y18 : A18} {x19 y19 : A19} {x20 y20 : A20} {x21 y21 : A21} {x22 y22 : A22} {x23 y23 : A23} {x24 y24 : A24} {x25 y25 : A25} {x26 y26 : A26} {x27 y27 : A27} {x28 y28 : A28} {x29 y29 : A29} (h : some (x0, x1, x2, x3, x4, x5, x6, x7, x8, x9, x10, x11, x12, x13, x14, x15, x16, x17, x18, x19, x20, x21, x22, x23, x24, x25, x26, x27, x28, x29) = some (y0, y1, y2, y3, y4, y5, y6, y7, y8, y9, y10, y11, y12, y13, y14, y15, y16, y17, y18, y19, y20, y21, y22, y23, y24, y25, y26, y27, y28, y29)) : x0 = y0 ∧ x1 = y1 ∧ x2 = y2 ∧ x3 = y3 ∧ x4 = y4 ∧ x5 = y5 ∧ x6 = y6 ∧ x7 = y7 ∧ x8 = y8 ∧ x9 = y9 ∧ x10 = y10 ∧ x11 = y11 ∧ x12 = y12 ∧ x13 = y13 ∧ x14 = y14 ∧ x15 = y15 ∧ x16 = y16 ∧ x17 = y17 ∧ x18 = y18 ∧ x19 = y19 ∧ x20 = y20 ∧ x21 = y21 ∧ x22 = y22 ∧ x23 = y23 ∧ x24 = y24 ∧ x25 = y25 ∧ x26 = y26 ∧ x27 = y27 ∧ x28 = y28 ∧ x29 = y29 := by cases h; exact ⟨rfl, rfl, rfl, rfl, rfl, rfl, rfl, rfl, rfl, rfl, rfl, rfl, rfl, rfl, rfl, rfl, rfl, rfl, rfl, rfl, rfl, rfl, rfl, rfl, rfl, rfl, rfl, rfl, rfl, rfl⟩
