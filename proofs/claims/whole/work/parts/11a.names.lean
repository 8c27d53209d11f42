/-! ===== BEGIN words of one list among another's, by their places ===== -/
theorem goodIn_r {big : List Cond} (ws : List Cond) (ps : List Nat) (hp : ws = ps.filterMap (fun i => big[i]?)) (h : ws.all goodWord = true) : GoodIn big ws := by
  intro w hw
  have h1 := List.all_eq_true.mp h w hw
  rw [hp] at hw
  obtain ⟨i, -, hi⟩ := List.mem_filterMap.mp hw
  have hm : w ∈ big := by first | exact List.mem_of_getElem? hi | exact List.getElem?_mem hi
  exact ⟨hm, good_of_word h1⟩
theorem goodIn_app {big a b : List Cond} (ha : GoodIn big a) (hb : GoodIn big b) : GoodIn big (a ++ b) := fun w h => (List.mem_append.mp h).elim (ha w) (hb w)
theorem goodIn_ca {big a b : List Cond} {c : Cond} (ha : GoodIn big (c :: a)) (hb : GoodIn big b) : GoodIn big (c :: (a ++ b)) := fun w h => (List.mem_cons.mp h).elim (fun e => ha w (List.mem_cons.mpr (Or.inl e))) (fun h => (List.mem_append.mp h).elim (fun h => ha w (List.mem_cons.mpr (Or.inr h))) (hb w))
theorem goodIn_sub {big ws : List Cond} (hm : ∀ w ∈ ws, w ∈ big) (h : ws.all goodWord = true) : GoodIn big ws := fun w hw => ⟨hm w hw, good_of_word (List.all_eq_true.mp h w hw)⟩
/-! ===== END ===== -/

/-! ===== BEGIN printed: names, fields, word lists, decode rows ===== -/
def RX0 : String := "OneWordLetters$Course"
def TX0 : u_T := fun k => match k with
  | 0 => ("OneWordLetters$Course", "letter", "I", false)
  | 1 => ("OneWordLetters$Course", "turn", "I", false)
  | 2 => ("OneWordLetters$Course", "settled", "Z", false)
  | 3 => ("OneWordLetters$Course", "gained", "[I", true)
  | 4 => ("OneWordLetters$Course", "entries", "[I", true)
  | 5 => ("OneWordLetters$Course", "sent", "I", false)
  | 6 => ("OneWordLetters$Course", "law", "I", false)
  | 7 => ("OneWordLetters$Course", "way", "I", false)
  | _ => ("OneWordLetters$Course", "seed", "I", false)
def tyX0 : Nat → FieldType := fun k => match k with
  | 0 => .int
  | 1 => .int
  | 2 => .boolean
  | 3 => .array .int
  | 4 => .array .int
  | 5 => .int
  | 6 => .int
  | 7 => .int
  | _ => .int
abbrev wsX00 : List Cond := u_ws RX0 TX0 9
theorem nmX0 : ∀ a, a < 9 → ∀ b, b < 9 → a ≠ b → (TX0 a).2.1 ≠ (TX0 b).2.1 := by decide +kernel
theorem tyX0_ok : ∀ k, k < 9 → parseFieldDescriptor (TX0 k).2.2.1 = some (tyX0 k) := by decide +kernel
abbrev cX0_init : ByteArray := prog_2_method_1_code
def yX0_init : MethodName := ⟨RX0, "<init>", "()V"⟩
abbrev cX0_restart : ByteArray := prog_2_method_2_code
def yX0_restart : MethodName := ⟨RX0, "restart", "()V"⟩
abbrev cX0_become : ByteArray := prog_2_method_3_code
def yX0_become : MethodName := ⟨RX0, "become", "(LOneWordLetters$Course;)V"⟩
abbrev cX0_pass : ByteArray := prog_2_method_4_code
def yX0_pass : MethodName := ⟨RX0, "pass", "(I)V"⟩
abbrev cX0_entry : ByteArray := prog_2_method_5_code
def yX0_entry : MethodName := ⟨RX0, "entry", "(II)I"⟩
abbrev cX0_draw : ByteArray := prog_2_method_6_code
def yX0_draw : MethodName := ⟨RX0, "draw", "(I)I"⟩
def RX1 : String := "OneWordLetters$Foresight"
def TX1 : u_T := fun k => match k with
  | 0 => ("OneWordLetters$Foresight", "letters", "LOneWordLetters$Letters;", true)
  | 1 => ("OneWordLetters$Foresight", "memory", "[I", false)
  | 2 => ("OneWordLetters$Foresight", "rows", "[LOneWordLetters$Row;", true)
  | 3 => ("OneWordLetters$Foresight", "law", "I", false)
  | 4 => ("OneWordLetters$Foresight", "nonsense", "Z", false)
  | _ => ("OneWordLetters$Foresight", "stamp", "I", false)
def tyX1 : Nat → FieldType := fun k => match k with
  | 0 => .object "OneWordLetters$Letters"
  | 1 => .array .int
  | 2 => .array (.object "OneWordLetters$Row")
  | 3 => .int
  | 4 => .boolean
  | _ => .int
abbrev wsX10 : List Cond := u_ws RX1 TX1 6
theorem nmX1 : ∀ a, a < 6 → ∀ b, b < 6 → a ≠ b → (TX1 a).2.1 ≠ (TX1 b).2.1 := by decide +kernel
theorem tyX1_ok : ∀ k, k < 6 → parseFieldDescriptor (TX1 k).2.2.1 = some (tyX1 k) := by decide +kernel
abbrev cX1_init : ByteArray := prog_3_method_1_code
def yX1_init : MethodName := ⟨RX1, "<init>", "(LOneWordLetters$Letters;)V"⟩
abbrev cX1_makeRoom : ByteArray := prog_3_method_2_code
def yX1_makeRoom : MethodName := ⟨RX1, "makeRoom", "(I)V"⟩
abbrev cX1_useRules : ByteArray := prog_3_method_3_code
def yX1_useRules : MethodName := ⟨RX1, "useRules", "(IZI)V"⟩
abbrev cX1_look : ByteArray := prog_3_method_4_code
def yX1_look : MethodName := ⟨RX1, "look", "(III)I"⟩
abbrev cX1_firstSent : ByteArray := prog_3_method_5_code
def yX1_firstSent : MethodName := ⟨RX1, "firstSent", "(III)I"⟩
def RX2 : String := "OneWordLetters$Guess"
def TX2 : u_T := fun k => match k with
  | 0 => ("OneWordLetters$Guess", "house", "I", false)
  | _ => ("OneWordLetters$Guess", "worths", "[I", true)
def tyX2 : Nat → FieldType := fun k => match k with
  | 0 => .int
  | _ => .array .int
abbrev wsX20 : List Cond := u_ws RX2 TX2 2
theorem nmX2 : ∀ a, a < 2 → ∀ b, b < 2 → a ≠ b → (TX2 a).2.1 ≠ (TX2 b).2.1 := by decide +kernel
theorem tyX2_ok : ∀ k, k < 2 → parseFieldDescriptor (TX2 k).2.2.1 = some (tyX2 k) := by decide +kernel
abbrev cX2_init : ByteArray := prog_4_method_1_code
def yX2_init : MethodName := ⟨RX2, "<init>", "()V"⟩
abbrev cX2_restart : ByteArray := prog_4_method_2_code
def yX2_restart : MethodName := ⟨RX2, "restart", "(I)V"⟩
def RX3 : String := "OneWordLetters$Letters"
def TX3 : u_T := fun k => match k with
  | 0 => ("OneWordLetters$Letters", "tongue", "LOneWordLetters$Tongue;", false)
  | 1 => ("OneWordLetters$Letters", "tongues", "I", false)
  | 2 => ("OneWordLetters$Letters", "size", "I", false)
  | 3 => ("OneWordLetters$Letters", "standing", "I", false)
  | 4 => ("OneWordLetters$Letters", "sense", "[B", false)
  | 5 => ("OneWordLetters$Letters", "worthToOne", "[I", false)
  | _ => ("OneWordLetters$Letters", "worthToOther", "[I", false)
def tyX3 : Nat → FieldType := fun k => match k with
  | 0 => .object "OneWordLetters$Tongue"
  | 1 => .int
  | 2 => .int
  | 3 => .int
  | 4 => .array .byte
  | 5 => .array .int
  | _ => .array .int
abbrev wsX30 : List Cond := u_ws RX3 TX3 7
theorem nmX3 : ∀ a, a < 7 → ∀ b, b < 7 → a ≠ b → (TX3 a).2.1 ≠ (TX3 b).2.1 := by decide +kernel
theorem tyX3_ok : ∀ k, k < 7 → parseFieldDescriptor (TX3 k).2.2.1 = some (tyX3 k) := by decide +kernel
abbrev cX3_init : ByteArray := prog_5_method_1_code
def yX3_init : MethodName := ⟨RX3, "<init>", "(LOneWordLetters$Tongue;)V"⟩
abbrev cX3_lay : ByteArray := prog_5_method_2_code
def yX3_lay : MethodName := ⟨RX3, "lay", "(LOneWordLetters$Tongue;)V"⟩
abbrev cX3_makeRoom : ByteArray := prog_5_method_3_code
def yX3_makeRoom : MethodName := ⟨RX3, "makeRoom", "()V"⟩
abbrev cX3_isSense : ByteArray := prog_5_method_4_code
def yX3_isSense : MethodName := ⟨RX3, "isSense", "(I)Z"⟩
abbrev cX3_worthTo : ByteArray := prog_5_method_5_code
def yX3_worthTo : MethodName := ⟨RX3, "worthTo", "(II)I"⟩
abbrev cX3_listChanges : ByteArray := prog_5_method_6_code
def yX3_listChanges : MethodName := ⟨RX3, "listChanges", "(IIZLOneWordLetters$Row;)V"⟩
abbrev cX3_listOtherWords : ByteArray := prog_5_method_7_code
def yX3_listOtherWords : MethodName := ⟨RX3, "listOtherWords", "(IZLOneWordLetters$Row;)V"⟩
abbrev cX3_listTurnsAbout : ByteArray := prog_5_method_8_code
def yX3_listTurnsAbout : MethodName := ⟨RX3, "listTurnsAbout", "(IZLOneWordLetters$Row;)V"⟩
def RX4 : String := "OneWordLetters$Paths"
def TX4 : u_T := fun k => match k with
  | 0 => ("OneWordLetters$Paths", "letters", "LOneWordLetters$Letters;", true)
  | 1 => ("OneWordLetters$Paths", "steps", "[I", false)
  | 2 => ("OneWordLetters$Paths", "queue", "LOneWordLetters$Row;", false)
  | _ => ("OneWordLetters$Paths", "changes", "LOneWordLetters$Row;", true)
def tyX4 : Nat → FieldType := fun k => match k with
  | 0 => .object "OneWordLetters$Letters"
  | 1 => .array .int
  | 2 => .object "OneWordLetters$Row"
  | _ => .object "OneWordLetters$Row"
abbrev wsX40 : List Cond := u_ws RX4 TX4 4
theorem nmX4 : ∀ a, a < 4 → ∀ b, b < 4 → a ≠ b → (TX4 a).2.1 ≠ (TX4 b).2.1 := by decide +kernel
theorem tyX4_ok : ∀ k, k < 4 → parseFieldDescriptor (TX4 k).2.2.1 = some (tyX4 k) := by decide +kernel
abbrev cX4_init : ByteArray := prog_6_method_1_code
def yX4_init : MethodName := ⟨RX4, "<init>", "(LOneWordLetters$Letters;)V"⟩
abbrev cX4_makeRoom : ByteArray := prog_6_method_2_code
def yX4_makeRoom : MethodName := ⟨RX4, "makeRoom", "(I)V"⟩
abbrev cX4_shortest : ByteArray := prog_6_method_3_code
def yX4_shortest : MethodName := ⟨RX4, "shortest", "(IIIZ)I"⟩
abbrev cX4_reach : ByteArray := prog_6_method_4_code
def yX4_reach : MethodName := ⟨RX4, "reach", "(II)V"⟩
def RX5 : String := "OneWordLetters$Reader"
def TX5 : u_T := fun k => match k with
  | 0 => ("OneWordLetters$Reader", "text", "[B", true)
  | 1 => ("OneWordLetters$Reader", "length", "I", false)
  | 2 => ("OneWordLetters$Reader", "place", "I", false)
  | 3 => ("OneWordLetters$Reader", "start", "I", false)
  | 4 => ("OneWordLetters$Reader", "faultNumber", "I", false)
  | _ => ("OneWordLetters$Reader", "faultByte", "I", false)
def tyX5 : Nat → FieldType := fun k => match k with
  | 0 => .array .byte
  | 1 => .int
  | 2 => .int
  | 3 => .int
  | 4 => .int
  | _ => .int
abbrev wsX50 : List Cond := u_ws RX5 TX5 6
theorem nmX5 : ∀ a, a < 6 → ∀ b, b < 6 → a ≠ b → (TX5 a).2.1 ≠ (TX5 b).2.1 := by decide +kernel
theorem tyX5_ok : ∀ k, k < 6 → parseFieldDescriptor (TX5 k).2.2.1 = some (tyX5 k) := by decide +kernel
abbrev cX5_init : ByteArray := prog_7_method_1_code
def yX5_init : MethodName := ⟨RX5, "<init>", "()V"⟩
abbrev cX5_take : ByteArray := prog_7_method_2_code
def yX5_take : MethodName := ⟨RX5, "take", "(IJ)I"⟩
abbrev cX5_read : ByteArray := prog_7_method_3_code
def yX5_read : MethodName := ⟨RX5, "read", "(LOneWordLetters$Tongue;)I"⟩
abbrev cX5_readHead : ByteArray := prog_7_method_4_code
def yX5_readHead : MethodName := ⟨RX5, "readHead", "(LOneWordLetters$Tongue;)V"⟩
abbrev cX5_readStatement : ByteArray := prog_7_method_5_code
def yX5_readStatement : MethodName := ⟨RX5, "readStatement", "(LOneWordLetters$Tongue;)V"⟩
abbrev cX5_readWord : ByteArray := prog_7_method_6_code
def yX5_readWord : MethodName := ⟨RX5, "readWord", "(LOneWordLetters$Tongue;)V"⟩
abbrev cX5_readFrame : ByteArray := prog_7_method_7_code
def yX5_readFrame : MethodName := ⟨RX5, "readFrame", "(LOneWordLetters$Tongue;)V"⟩
abbrev cX5_readPair : ByteArray := prog_7_method_8_code
def yX5_readPair : MethodName := ⟨RX5, "readPair", "(LOneWordLetters$Tongue;)V"⟩
abbrev cX5_nextKind : ByteArray := prog_7_method_9_code
def yX5_nextKind : MethodName := ⟨RX5, "nextKind", "()I"⟩
abbrev cX5_nextNumber : ByteArray := prog_7_method_10_code
def yX5_nextNumber : MethodName := ⟨RX5, "nextNumber", "(II)I"⟩
abbrev cX5_nextWord : ByteArray := prog_7_method_11_code
def yX5_nextWord : MethodName := ⟨RX5, "nextWord", "()V"⟩
abbrev cX5_nextSign : ByteArray := prog_7_method_12_code
def yX5_nextSign : MethodName := ⟨RX5, "nextSign", "(C)V"⟩
abbrev cX5_spells : ByteArray := prog_7_method_13_code
def yX5_spells : MethodName := ⟨RX5, "spells", "(Ljava/lang/String;)Z"⟩
abbrev cX5_isMore : ByteArray := prog_7_method_14_code
def yX5_isMore : MethodName := ⟨RX5, "isMore", "()Z"⟩
abbrev cX5_skipBlanks : ByteArray := prog_7_method_15_code
def yX5_skipBlanks : MethodName := ⟨RX5, "skipBlanks", "()V"⟩
abbrev cX5_fail : ByteArray := prog_7_method_16_code
def yX5_fail : MethodName := ⟨RX5, "fail", "(I)V"⟩
def RX6 : String := "OneWordLetters$Row"
def TX6 : u_T := fun k => match k with
  | 0 => ("OneWordLetters$Row", "letters", "[I", true)
  | _ => ("OneWordLetters$Row", "count", "I", false)
def tyX6 : Nat → FieldType := fun k => match k with
  | 0 => .array .int
  | _ => .int
abbrev wsX60 : List Cond := u_ws RX6 TX6 2
theorem nmX6 : ∀ a, a < 2 → ∀ b, b < 2 → a ≠ b → (TX6 a).2.1 ≠ (TX6 b).2.1 := by decide +kernel
theorem tyX6_ok : ∀ k, k < 2 → parseFieldDescriptor (TX6 k).2.2.1 = some (tyX6 k) := by decide +kernel
abbrev cX6_init : ByteArray := prog_8_method_1_code
def yX6_init : MethodName := ⟨RX6, "<init>", "(I)V"⟩
abbrev cX6_empty : ByteArray := prog_8_method_2_code
def yX6_empty : MethodName := ⟨RX6, "empty", "()V"⟩
abbrev cX6_add : ByteArray := prog_8_method_3_code
def yX6_add : MethodName := ⟨RX6, "add", "(I)V"⟩
abbrev cX6_get : ByteArray := prog_8_method_4_code
def yX6_get : MethodName := ⟨RX6, "get", "(I)I"⟩
abbrev cX6_countOrGet : ByteArray := prog_8_method_5_code
def yX6_countOrGet : MethodName := ⟨RX6, "countOrGet", "(I)I"⟩
abbrev cX6_has : ByteArray := prog_8_method_6_code
def yX6_has : MethodName := ⟨RX6, "has", "(I)Z"⟩
def RX7 : String := "OneWordLetters$Tongue"
def TX7 : u_T := fun k => match k with
  | 0 => ("OneWordLetters$Tongue", "length", "I", false)
  | 1 => ("OneWordLetters$Tongue", "words", "I", false)
  | 2 => ("OneWordLetters$Tongue", "frames", "I", false)
  | 3 => ("OneWordLetters$Tongue", "pairs", "I", false)
  | 4 => ("OneWordLetters$Tongue", "kinds", "[I", true)
  | 5 => ("OneWordLetters$Tongue", "worths", "[[I", true)
  | 6 => ("OneWordLetters$Tongue", "framed", "[I", true)
  | 7 => ("OneWordLetters$Tongue", "paired", "[I", true)
  | 8 => ("OneWordLetters$Tongue", "pairWorths", "[[I", true)
  | _ => ("OneWordLetters$Tongue", "scales", "[I", true)
def tyX7 : Nat → FieldType := fun k => match k with
  | 0 => .int
  | 1 => .int
  | 2 => .int
  | 3 => .int
  | 4 => .array .int
  | 5 => .array (.array .int)
  | 6 => .array .int
  | 7 => .array .int
  | 8 => .array (.array .int)
  | _ => .array .int
abbrev wsX70 : List Cond := u_ws RX7 TX7 10
theorem nmX7 : ∀ a, a < 10 → ∀ b, b < 10 → a ≠ b → (TX7 a).2.1 ≠ (TX7 b).2.1 := by decide +kernel
theorem tyX7_ok : ∀ k, k < 10 → parseFieldDescriptor (TX7 k).2.2.1 = some (tyX7 k) := by decide +kernel
abbrev cX7_init : ByteArray := prog_9_method_1_code
def yX7_init : MethodName := ⟨RX7, "<init>", "()V"⟩
abbrev cX7_clear : ByteArray := prog_9_method_2_code
def yX7_clear : MethodName := ⟨RX7, "clear", "()V"⟩
abbrev cX7_addWord : ByteArray := prog_9_method_3_code
def yX7_addWord : MethodName := ⟨RX7, "addWord", "(III)V"⟩
abbrev cX7_addFrame : ByteArray := prog_9_method_4_code
def yX7_addFrame : MethodName := ⟨RX7, "addFrame", "(I)V"⟩
abbrev cX7_addPair : ByteArray := prog_9_method_5_code
def yX7_addPair : MethodName := ⟨RX7, "addPair", "(IIII)V"⟩
abbrev cX7_hasPair : ByteArray := prog_9_method_6_code
def yX7_hasPair : MethodName := ⟨RX7, "hasPair", "(II)Z"⟩
abbrev cX7_spotOf : ByteArray := prog_9_method_7_code
def yX7_spotOf : MethodName := ⟨RX7, "spotOf", "(II)I"⟩
abbrev cX7_countLetters : ByteArray := prog_9_method_8_code
def yX7_countLetters : MethodName := ⟨RX7, "countLetters", "()I"⟩
abbrev cX7_wordAt : ByteArray := prog_9_method_9_code
def yX7_wordAt : MethodName := ⟨RX7, "wordAt", "(II)I"⟩
abbrev cX7_isFramed : ByteArray := prog_9_method_10_code
def yX7_isFramed : MethodName := ⟨RX7, "isFramed", "(I)Z"⟩
abbrev cX7_weigh : ByteArray := prog_9_method_11_code
def yX7_weigh : MethodName := ⟨RX7, "weigh", "(I[I[I)I"⟩
abbrev cX7_wordsApart : ByteArray := prog_9_method_12_code
def yX7_wordsApart : MethodName := ⟨RX7, "wordsApart", "(II)I"⟩
def RX8 : String := "OneWordLetters"
def TX8 : u_T := fun k => match k with
  | 0 => ("OneWordLetters", "reader", "LOneWordLetters$Reader;", true)
  | 1 => ("OneWordLetters", "spoken", "LOneWordLetters$Tongue;", false)
  | 2 => ("OneWordLetters", "spare", "LOneWordLetters$Tongue;", false)
  | 3 => ("OneWordLetters", "letters", "LOneWordLetters$Letters;", true)
  | 4 => ("OneWordLetters", "now", "LOneWordLetters$Course;", true)
  | 5 => ("OneWordLetters", "images", "[LOneWordLetters$Course;", true)
  | 6 => ("OneWordLetters", "kept", "[I", true)
  | 7 => ("OneWordLetters", "guesses", "[LOneWordLetters$Guess;", true)
  | 8 => ("OneWordLetters", "guessCount", "I", false)
  | 9 => ("OneWordLetters", "book", "LOneWordLetters$Row;", true)
  | 10 => ("OneWordLetters", "changes", "LOneWordLetters$Row;", true)
  | 11 => ("OneWordLetters", "found", "LOneWordLetters$Row;", true)
  | 12 => ("OneWordLetters", "stillOnes", "LOneWordLetters$Row;", false)
  | 13 => ("OneWordLetters", "stillStamp", "I", false)
  | 14 => ("OneWordLetters", "paths", "LOneWordLetters$Paths;", true)
  | _ => ("OneWordLetters", "foresight", "LOneWordLetters$Foresight;", true)
def tyX8 : Nat → FieldType := fun k => match k with
  | 0 => .object "OneWordLetters$Reader"
  | 1 => .object "OneWordLetters$Tongue"
  | 2 => .object "OneWordLetters$Tongue"
  | 3 => .object "OneWordLetters$Letters"
  | 4 => .object "OneWordLetters$Course"
  | 5 => .array (.object "OneWordLetters$Course")
  | 6 => .array .int
  | 7 => .array (.object "OneWordLetters$Guess")
  | 8 => .int
  | 9 => .object "OneWordLetters$Row"
  | 10 => .object "OneWordLetters$Row"
  | 11 => .object "OneWordLetters$Row"
  | 12 => .object "OneWordLetters$Row"
  | 13 => .int
  | 14 => .object "OneWordLetters$Paths"
  | _ => .object "OneWordLetters$Foresight"
abbrev wsX80 : List Cond := u_ws RX8 TX8 16
theorem nmX8 : ∀ a, a < 16 → ∀ b, b < 16 → a ≠ b → (TX8 a).2.1 ≠ (TX8 b).2.1 := by decide +kernel
theorem tyX8_ok : ∀ k, k < 16 → parseFieldDescriptor (TX8 k).2.2.1 = some (tyX8 k) := by decide +kernel
abbrev cX8_init : ByteArray := prog_1_method_1_code
def yX8_init : MethodName := ⟨RX8, "<init>", "()V"⟩
abbrev cX8_feed : ByteArray := prog_1_method_2_code
def yX8_feed : MethodName := ⟨RX8, "feed", "(IJ)I"⟩
abbrev cX8_tongue : ByteArray := prog_1_method_3_code
def yX8_tongue : MethodName := ⟨RX8, "tongue", "()I"⟩
abbrev cX8_fault : ByteArray := prog_1_method_4_code
def yX8_fault : MethodName := ⟨RX8, "fault", "()I"⟩
abbrev cX8_told : ByteArray := prog_1_method_5_code
def yX8_told : MethodName := ⟨RX8, "told", "(I)I"⟩
abbrev cX8_word : ByteArray := prog_1_method_6_code
def yX8_word : MethodName := ⟨RX8, "word", "(II)I"⟩
abbrev cX8_at : ByteArray := prog_1_method_7_code
def yX8_at : MethodName := ⟨RX8, "at", "(II)I"⟩
abbrev cX8_stands : ByteArray := prog_1_method_8_code
def yX8_stands : MethodName := ⟨RX8, "stands", "(I)I"⟩
abbrev cX8_worth : ByteArray := prog_1_method_9_code
def yX8_worth : MethodName := ⟨RX8, "worth", "(II)I"⟩
abbrev cX8_law : ByteArray := prog_1_method_10_code
def yX8_law : MethodName := ⟨RX8, "law", "(I)I"⟩
abbrev cX8_way : ByteArray := prog_1_method_11_code
def yX8_way : MethodName := ⟨RX8, "way", "(I)I"⟩
abbrev cX8_change : ByteArray := prog_1_method_12_code
def yX8_change : MethodName := ⟨RX8, "change", "(II)I"⟩
abbrev cX8_begin : ByteArray := prog_1_method_13_code
def yX8_begin : MethodName := ⟨RX8, "begin", "(II)I"⟩
abbrev cX8_send : ByteArray := prog_1_method_14_code
def yX8_send : MethodName := ⟨RX8, "send", "(I)I"⟩
abbrev cX8_settle : ByteArray := prog_1_method_15_code
def yX8_settle : MethodName := ⟨RX8, "settle", "()I"⟩
abbrev cX8_had : ByteArray := prog_1_method_16_code
def yX8_had : MethodName := ⟨RX8, "had", "(I)I"⟩
abbrev cX8_log : ByteArray := prog_1_method_17_code
def yX8_log : MethodName := ⟨RX8, "log", "(II)I"⟩
abbrev cX8_fewest : ByteArray := prog_1_method_18_code
def yX8_fewest : MethodName := ⟨RX8, "fewest", "(IIZ)I"⟩
abbrev cX8_still : ByteArray := prog_1_method_19_code
def yX8_still : MethodName := ⟨RX8, "still", "(I)I"⟩
abbrev cX8_ahead : ByteArray := prog_1_method_20_code
def yX8_ahead : MethodName := ⟨RX8, "ahead", "(IIII)I"⟩
abbrev cX8_first : ByteArray := prog_1_method_21_code
def yX8_first : MethodName := ⟨RX8, "first", "(II)I"⟩
abbrev cX8_carrier : ByteArray := prog_1_method_22_code
def yX8_carrier : MethodName := ⟨RX8, "carrier", "(III)I"⟩
abbrev cX8_guess : ByteArray := prog_1_method_23_code
def yX8_guess : MethodName := ⟨RX8, "guess", "(I)I"⟩
abbrev cX8_mean : ByteArray := prog_1_method_24_code
def yX8_mean : MethodName := ⟨RX8, "mean", "(III)I"⟩
abbrev cX8_fits : ByteArray := prog_1_method_25_code
def yX8_fits : MethodName := ⟨RX8, "fits", "(I)I"⟩
abbrev cX8_write : ByteArray := prog_1_method_26_code
def yX8_write : MethodName := ⟨RX8, "write", "(I)I"⟩
abbrev cX8_tear : ByteArray := prog_1_method_27_code
def yX8_tear : MethodName := ⟨RX8, "tear", "()I"⟩
abbrev cX8_judge : ByteArray := prog_1_method_28_code
def yX8_judge : MethodName := ⟨RX8, "judge", "()I"⟩
abbrev cX8_drift : ByteArray := prog_1_method_29_code
def yX8_drift : MethodName := ⟨RX8, "drift", "(I)I"⟩
abbrev cX8_seed : ByteArray := prog_1_method_30_code
def yX8_seed : MethodName := ⟨RX8, "seed", "(I)I"⟩
abbrev cX8_keep : ByteArray := prog_1_method_31_code
def yX8_keep : MethodName := ⟨RX8, "keep", "(I)I"⟩
abbrev cX8_goBack : ByteArray := prog_1_method_32_code
def yX8_goBack : MethodName := ⟨RX8, "goBack", "(I)I"⟩
abbrev cX8_isHouse : ByteArray := prog_1_method_33_code
def yX8_isHouse : MethodName := ⟨RX8, "isHouse", "(I)Z"⟩
abbrev cX8_isImage : ByteArray := prog_1_method_34_code
def yX8_isImage : MethodName := ⟨RX8, "isImage", "(I)Z"⟩
abbrev cX8_isMoves : ByteArray := prog_1_method_35_code
def yX8_isMoves : MethodName := ⟨RX8, "isMoves", "(I)Z"⟩
abbrev cX8_isWord : ByteArray := prog_1_method_36_code
def yX8_isWord : MethodName := ⟨RX8, "isWord", "(I)Z"⟩
abbrev cX8_isLetter : ByteArray := prog_1_method_37_code
def yX8_isLetter : MethodName := ⟨RX8, "isLetter", "(I)Z"⟩
abbrev cX8_isGuess : ByteArray := prog_1_method_38_code
def yX8_isGuess : MethodName := ⟨RX8, "isGuess", "(I)Z"⟩
abbrev cX8_listChanges : ByteArray := prog_1_method_39_code
def yX8_listChanges : MethodName := ⟨RX8, "listChanges", "(I)V"⟩
abbrev cX8_isChange : ByteArray := prog_1_method_40_code
def yX8_isChange : MethodName := ⟨RX8, "isChange", "(II)Z"⟩
abbrev cX8_stamp : ByteArray := prog_1_method_41_code
def yX8_stamp : MethodName := ⟨RX8, "stamp", "()I"⟩
abbrev cX8_makeRoom : ByteArray := prog_1_method_42_code
def yX8_makeRoom : MethodName := ⟨RX8, "makeRoom", "(I)V"⟩
abbrev cX8_listStill : ByteArray := prog_1_method_43_code
def yX8_listStill : MethodName := ⟨RX8, "listStill", "()V"⟩
abbrev cX8_neitherWouldChange : ByteArray := prog_1_method_44_code
def yX8_neitherWouldChange : MethodName := ⟨RX8, "neitherWouldChange", "(I)Z"⟩
abbrev cX8_explains : ByteArray := prog_1_method_45_code
def yX8_explains : MethodName := ⟨RX8, "explains", "(LOneWordLetters$Guess;II)Z"⟩
abbrev cX8_guessedWorth : ByteArray := prog_1_method_46_code
def yX8_guessedWorth : MethodName := ⟨RX8, "guessedWorth", "(LOneWordLetters$Guess;I)I"⟩
abbrev cX8_giveBoth : ByteArray := prog_1_method_47_code
def yX8_giveBoth : MethodName := ⟨RX8, "giveBoth", "()V"⟩
abbrev cX8_sendAnyChange : ByteArray := prog_1_method_48_code
def yX8_sendAnyChange : MethodName := ⟨RX8, "sendAnyChange", "()V"⟩
abbrev cX8_sendWhatPays : ByteArray := prog_1_method_49_code
def yX8_sendWhatPays : MethodName := ⟨RX8, "sendWhatPays", "()V"⟩
def RX9 : String := "OneWordLettersModel"
def TX9 : u_T := fun k => match k with
  | 0 => ("OneWordLettersModel", "places", "I", false)
  | 1 => ("OneWordLettersModel", "words", "I", false)
  | 2 => ("OneWordLettersModel", "kind", "[I", true)
  | 3 => ("OneWordLettersModel", "worths", "[I", true)
  | 4 => ("OneWordLettersModel", "frames", "I", false)
  | 5 => ("OneWordLettersModel", "frame", "[I", true)
  | 6 => ("OneWordLettersModel", "pairs", "I", false)
  | 7 => ("OneWordLettersModel", "pair", "[I", true)
  | 8 => ("OneWordLettersModel", "letters", "I", false)
  | 9 => ("OneWordLettersModel", "standing", "I", false)
  | 10 => ("OneWordLettersModel", "isStanding", "[Z", true)
  | 11 => ("OneWordLettersModel", "worthOf", "[I", true)
  | 12 => ("OneWordLettersModel", "law", "I", false)
  | 13 => ("OneWordLettersModel", "way", "I", false)
  | 14 => ("OneWordLettersModel", "letter", "I", false)
  | 15 => ("OneWordLettersModel", "turn", "I", false)
  | 16 => ("OneWordLettersModel", "isSettled", "Z", false)
  | 17 => ("OneWordLettersModel", "had", "[I", true)
  | 18 => ("OneWordLettersModel", "logged", "I", false)
  | 19 => ("OneWordLettersModel", "logWho", "[I", true)
  | 20 => ("OneWordLettersModel", "logFrom", "[I", true)
  | 21 => ("OneWordLettersModel", "logTo", "[I", true)
  | 22 => ("OneWordLettersModel", "seed", "I", false)
  | 23 => ("OneWordLettersModel", "text", "[I", true)
  | 24 => ("OneWordLettersModel", "texted", "I", false)
  | 25 => ("OneWordLettersModel", "faultPlace", "I", false)
  | 26 => ("OneWordLettersModel", "at0", "I", false)
  | 27 => ("OneWordLettersModel", "said", "J", false)
  | 28 => ("OneWordLettersModel", "wordEnd", "I", false)
  | 29 => ("OneWordLettersModel", "number", "I", false)
  | 30 => ("OneWordLettersModel", "numberAt", "I", false)
  | 31 => ("OneWordLettersModel", "readPlaces", "I", false)
  | 32 => ("OneWordLettersModel", "readWords", "I", false)
  | 33 => ("OneWordLettersModel", "readKind", "[I", true)
  | 34 => ("OneWordLettersModel", "readWorth", "[I", true)
  | 35 => ("OneWordLettersModel", "readFrames", "I", false)
  | 36 => ("OneWordLettersModel", "readFrame", "[I", true)
  | 37 => ("OneWordLettersModel", "readPairs", "I", false)
  | 38 => ("OneWordLettersModel", "readPair", "[I", true)
  | 39 => ("OneWordLettersModel", "changes", "I", false)
  | 40 => ("OneWordLettersModel", "change", "[I", true)
  | 41 => ("OneWordLettersModel", "queue", "[I", true)
  | 42 => ("OneWordLettersModel", "steps", "[I", true)
  | 43 => ("OneWordLettersModel", "end", "[I", true)
  | 44 => ("OneWordLettersModel", "sent", "[I", true)
  | 45 => ("OneWordLettersModel", "firstSent", "[I", true)
  | 46 => ("OneWordLettersModel", "wasEnd", "[I", true)
  | 47 => ("OneWordLettersModel", "wasSent", "[I", true)
  | 48 => ("OneWordLettersModel", "guesses", "I", false)
  | 49 => ("OneWordLettersModel", "guessHouse", "[I", true)
  | 50 => ("OneWordLettersModel", "guessWorth", "[I", true)
  | 51 => ("OneWordLettersModel", "booked", "I", false)
  | 52 => ("OneWordLettersModel", "book", "[I", true)
  | 53 => ("OneWordLettersModel", "images", "[I", true)
  | _ => ("OneWordLettersModel", "isKept", "[Z", true)
def tyX9 : Nat → FieldType := fun k => match k with
  | 0 => .int
  | 1 => .int
  | 2 => .array .int
  | 3 => .array .int
  | 4 => .int
  | 5 => .array .int
  | 6 => .int
  | 7 => .array .int
  | 8 => .int
  | 9 => .int
  | 10 => .array .boolean
  | 11 => .array .int
  | 12 => .int
  | 13 => .int
  | 14 => .int
  | 15 => .int
  | 16 => .boolean
  | 17 => .array .int
  | 18 => .int
  | 19 => .array .int
  | 20 => .array .int
  | 21 => .array .int
  | 22 => .int
  | 23 => .array .int
  | 24 => .int
  | 25 => .int
  | 26 => .int
  | 27 => .long
  | 28 => .int
  | 29 => .int
  | 30 => .int
  | 31 => .int
  | 32 => .int
  | 33 => .array .int
  | 34 => .array .int
  | 35 => .int
  | 36 => .array .int
  | 37 => .int
  | 38 => .array .int
  | 39 => .int
  | 40 => .array .int
  | 41 => .array .int
  | 42 => .array .int
  | 43 => .array .int
  | 44 => .array .int
  | 45 => .array .int
  | 46 => .array .int
  | 47 => .array .int
  | 48 => .int
  | 49 => .array .int
  | 50 => .array .int
  | 51 => .int
  | 52 => .array .int
  | 53 => .array .int
  | _ => .array .boolean
abbrev wsX90 : List Cond := u_ws RX9 TX9 55
theorem nmX9 : ∀ a, a < 55 → ∀ b, b < 55 → a ≠ b → (TX9 a).2.1 ≠ (TX9 b).2.1 := by decide +kernel
theorem tyX9_ok : ∀ k, k < 55 → parseFieldDescriptor (TX9 k).2.2.1 = some (tyX9 k) := by decide +kernel
abbrev cX9_init : ByteArray := prog_11_method_1_code
def yX9_init : MethodName := ⟨RX9, "<init>", "()V"⟩
abbrev cX9_in : ByteArray := prog_11_method_3_code
def yX9_in : MethodName := ⟨RX9, "in", "(JJJ)Z"⟩
abbrev cX9_isLetter : ByteArray := prog_11_method_4_code
def yX9_isLetter : MethodName := ⟨RX9, "isLetter", "(I)Z"⟩
abbrev cX9_isHouse : ByteArray := prog_11_method_5_code
def yX9_isHouse : MethodName := ⟨RX9, "isHouse", "(I)Z"⟩
abbrev cX9_isWord : ByteArray := prog_11_method_6_code
def yX9_isWord : MethodName := ⟨RX9, "isWord", "(I)Z"⟩
abbrev cX9_unit : ByteArray := prog_11_method_7_code
def yX9_unit : MethodName := ⟨RX9, "unit", "(I)I"⟩
abbrev cX9_wordAt : ByteArray := prog_11_method_8_code
def yX9_wordAt : MethodName := ⟨RX9, "wordAt", "(II)I"⟩
abbrev cX9_feed : ByteArray := prog_11_method_9_code
def yX9_feed : MethodName := ⟨RX9, "feed", "(IJ)I"⟩
abbrev cX9_here : ByteArray := prog_11_method_10_code
def yX9_here : MethodName := ⟨RX9, "here", "()I"⟩
abbrev cX9_fails : ByteArray := prog_11_method_11_code
def yX9_fails : MethodName := ⟨RX9, "fails", "(II)I"⟩
abbrev cX9_readWord : ByteArray := prog_11_method_12_code
def yX9_readWord : MethodName := ⟨RX9, "readWord", "()V"⟩
abbrev cX9_code : ByteArray := prog_11_method_13_code
def yX9_code : MethodName := ⟨RX9, "code", "(IIII)J"⟩
abbrev cX9_longer : ByteArray := prog_11_method_14_code
def yX9_longer : MethodName := ⟨RX9, "longer", "(JI)J"⟩
abbrev cX9_takeNumber : ByteArray := prog_11_method_15_code
def yX9_takeNumber : MethodName := ⟨RX9, "takeNumber", "(II)I"⟩
abbrev cX9_takeKind : ByteArray := prog_11_method_16_code
def yX9_takeKind : MethodName := ⟨RX9, "takeKind", "([II)I"⟩
abbrev cX9_takeTwo : ByteArray := prog_11_method_17_code
def yX9_takeTwo : MethodName := ⟨RX9, "takeTwo", "([II)I"⟩
abbrev cX9_takeWordClause : ByteArray := prog_11_method_18_code
def yX9_takeWordClause : MethodName := ⟨RX9, "takeWordClause", "()I"⟩
abbrev cX9_takeFrame : ByteArray := prog_11_method_19_code
def yX9_takeFrame : MethodName := ⟨RX9, "takeFrame", "()I"⟩
abbrev cX9_takePair : ByteArray := prog_11_method_20_code
def yX9_takePair : MethodName := ⟨RX9, "takePair", "()I"⟩
abbrev cX9_takeClause : ByteArray := prog_11_method_21_code
def yX9_takeClause : MethodName := ⟨RX9, "takeClause", "()I"⟩
abbrev cX9_tongue : ByteArray := prog_11_method_22_code
def yX9_tongue : MethodName := ⟨RX9, "tongue", "()I"⟩
abbrev cX9_fault : ByteArray := prog_11_method_23_code
def yX9_fault : MethodName := ⟨RX9, "fault", "()I"⟩
abbrev cX9_isFramed : ByteArray := prog_11_method_24_code
def yX9_isFramed : MethodName := ⟨RX9, "isFramed", "(I)Z"⟩
abbrev cX9_worthBy : ByteArray := prog_11_method_25_code
def yX9_worthBy : MethodName := ⟨RX9, "worthBy", "(I[IIII)I"⟩
abbrev cX9_findLetters : ByteArray := prog_11_method_26_code
def yX9_findLetters : MethodName := ⟨RX9, "findLetters", "()V"⟩
abbrev cX9_told : ByteArray := prog_11_method_27_code
def yX9_told : MethodName := ⟨RX9, "told", "(I)I"⟩
abbrev cX9_word : ByteArray := prog_11_method_28_code
def yX9_word : MethodName := ⟨RX9, "word", "(II)I"⟩
abbrev cX9_at : ByteArray := prog_11_method_29_code
def yX9_at : MethodName := ⟨RX9, "at", "(II)I"⟩
abbrev cX9_stands : ByteArray := prog_11_method_30_code
def yX9_stands : MethodName := ⟨RX9, "stands", "(I)I"⟩
abbrev cX9_worth : ByteArray := prog_11_method_31_code
def yX9_worth : MethodName := ⟨RX9, "worth", "(II)I"⟩
abbrev cX9_law : ByteArray := prog_11_method_32_code
def yX9_law : MethodName := ⟨RX9, "law", "(I)I"⟩
abbrev cX9_way : ByteArray := prog_11_method_33_code
def yX9_way : MethodName := ⟨RX9, "way", "(I)I"⟩
abbrev cX9_addChange : ByteArray := prog_11_method_34_code
def yX9_addChange : MethodName := ⟨RX9, "addChange", "(IZ)V"⟩
abbrev cX9_findChanges : ByteArray := prog_11_method_35_code
def yX9_findChanges : MethodName := ⟨RX9, "findChanges", "(IZ)V"⟩
abbrev cX9_placeOf : ByteArray := prog_11_method_36_code
def yX9_placeOf : MethodName := ⟨RX9, "placeOf", "(I)I"⟩
abbrev cX9_change : ByteArray := prog_11_method_37_code
def yX9_change : MethodName := ⟨RX9, "change", "(II)I"⟩
abbrev cX9_begin : ByteArray := prog_11_method_38_code
def yX9_begin : MethodName := ⟨RX9, "begin", "(II)I"⟩
abbrev cX9_sendNow : ByteArray := prog_11_method_39_code
def yX9_sendNow : MethodName := ⟨RX9, "sendNow", "(I)V"⟩
abbrev cX9_send : ByteArray := prog_11_method_40_code
def yX9_send : MethodName := ⟨RX9, "send", "(I)I"⟩
abbrev cX9_haveBoth : ByteArray := prog_11_method_41_code
def yX9_haveBoth : MethodName := ⟨RX9, "haveBoth", "()V"⟩
abbrev cX9_settle : ByteArray := prog_11_method_42_code
def yX9_settle : MethodName := ⟨RX9, "settle", "()I"⟩
abbrev cX9_had : ByteArray := prog_11_method_43_code
def yX9_had : MethodName := ⟨RX9, "had", "(I)I"⟩
abbrev cX9_log : ByteArray := prog_11_method_44_code
def yX9_log : MethodName := ⟨RX9, "log", "(II)I"⟩
abbrev cX9_fewest : ByteArray := prog_11_method_45_code
def yX9_fewest : MethodName := ⟨RX9, "fewest", "(IIZ)I"⟩
abbrev cX9_isStill : ByteArray := prog_11_method_46_code
def yX9_isStill : MethodName := ⟨RX9, "isStill", "(I)Z"⟩
abbrev cX9_still : ByteArray := prog_11_method_47_code
def yX9_still : MethodName := ⟨RX9, "still", "(I)I"⟩
abbrev cX9_lookAt : ByteArray := prog_11_method_48_code
def yX9_lookAt : MethodName := ⟨RX9, "lookAt", "(II)V"⟩
abbrev cX9_lookAhead : ByteArray := prog_11_method_49_code
def yX9_lookAhead : MethodName := ⟨RX9, "lookAhead", "(I)V"⟩
abbrev cX9_ahead : ByteArray := prog_11_method_50_code
def yX9_ahead : MethodName := ⟨RX9, "ahead", "(IIII)I"⟩
abbrev cX9_first : ByteArray := prog_11_method_51_code
def yX9_first : MethodName := ⟨RX9, "first", "(II)I"⟩
abbrev cX9_unlike : ByteArray := prog_11_method_52_code
def yX9_unlike : MethodName := ⟨RX9, "unlike", "(II)I"⟩
abbrev cX9_carrier : ByteArray := prog_11_method_53_code
def yX9_carrier : MethodName := ⟨RX9, "carrier", "(III)I"⟩
abbrev cX9_guess : ByteArray := prog_11_method_54_code
def yX9_guess : MethodName := ⟨RX9, "guess", "(I)I"⟩
abbrev cX9_mean : ByteArray := prog_11_method_55_code
def yX9_mean : MethodName := ⟨RX9, "mean", "(III)I"⟩
abbrev cX9_guessOf : ByteArray := prog_11_method_56_code
def yX9_guessOf : MethodName := ⟨RX9, "guessOf", "(II)I"⟩
abbrev cX9_fits : ByteArray := prog_11_method_57_code
def yX9_fits : MethodName := ⟨RX9, "fits", "(I)I"⟩
abbrev cX9_write : ByteArray := prog_11_method_58_code
def yX9_write : MethodName := ⟨RX9, "write", "(I)I"⟩
abbrev cX9_tear : ByteArray := prog_11_method_59_code
def yX9_tear : MethodName := ⟨RX9, "tear", "()I"⟩
abbrev cX9_judge : ByteArray := prog_11_method_60_code
def yX9_judge : MethodName := ⟨RX9, "judge", "()I"⟩
abbrev cX9_draw : ByteArray := prog_11_method_61_code
def yX9_draw : MethodName := ⟨RX9, "draw", "(I)I"⟩
abbrev cX9_driftNow : ByteArray := prog_11_method_62_code
def yX9_driftNow : MethodName := ⟨RX9, "driftNow", "()V"⟩
abbrev cX9_drift : ByteArray := prog_11_method_63_code
def yX9_drift : MethodName := ⟨RX9, "drift", "(I)I"⟩
abbrev cX9_seed : ByteArray := prog_11_method_64_code
def yX9_seed : MethodName := ⟨RX9, "seed", "(I)I"⟩
abbrev cX9_keep : ByteArray := prog_11_method_65_code
def yX9_keep : MethodName := ⟨RX9, "keep", "(I)I"⟩
abbrev cX9_goBack : ByteArray := prog_11_method_66_code
def yX9_goBack : MethodName := ⟨RX9, "goBack", "(I)I"⟩
def RJx145de : String := "java/io/Serializable"
def TJx145de : u_T := fun k => match k with
  | _ => ("", "", "", false)
def tyJx145de : Nat → FieldType := fun k => match k with
  | _ => .int
abbrev wsJx145de0 : List Cond := u_ws RJx145de TJx145de 0
theorem nmJx145de : ∀ a, a < 0 → ∀ b, b < 0 → a ≠ b → (TJx145de a).2.1 ≠ (TJx145de b).2.1 := by decide +kernel
theorem tyJx145de_ok : ∀ k, k < 0 → parseFieldDescriptor (TJx145de k).2.2.1 = some (tyJx145de k) := by decide +kernel
def RJx9f9b0 : String := "java/lang/CharSequence"
def TJx9f9b0 : u_T := fun k => match k with
  | _ => ("", "", "", false)
def tyJx9f9b0 : Nat → FieldType := fun k => match k with
  | _ => .int
abbrev wsJx9f9b00 : List Cond := u_ws RJx9f9b0 TJx9f9b0 0
theorem nmJx9f9b0 : ∀ a, a < 0 → ∀ b, b < 0 → a ≠ b → (TJx9f9b0 a).2.1 ≠ (TJx9f9b0 b).2.1 := by decide +kernel
theorem tyJx9f9b0_ok : ∀ k, k < 0 → parseFieldDescriptor (TJx9f9b0 k).2.2.1 = some (tyJx9f9b0 k) := by decide +kernel
def RJxb160c : String := "java/lang/Comparable"
def TJxb160c : u_T := fun k => match k with
  | _ => ("", "", "", false)
def tyJxb160c : Nat → FieldType := fun k => match k with
  | _ => .int
abbrev wsJxb160c0 : List Cond := u_ws RJxb160c TJxb160c 0
theorem nmJxb160c : ∀ a, a < 0 → ∀ b, b < 0 → a ≠ b → (TJxb160c a).2.1 ≠ (TJxb160c b).2.1 := by decide +kernel
theorem tyJxb160c_ok : ∀ k, k < 0 → parseFieldDescriptor (TJxb160c k).2.2.1 = some (tyJxb160c k) := by decide +kernel
def RJ9 : String := "java/lang/Math"
def TJ9 : u_T := fun k => match k with
  | _ => ("", "", "", false)
def tyJ9 : Nat → FieldType := fun k => match k with
  | _ => .int
abbrev wsJ90 : List Cond := u_ws RJ9 TJ9 0
theorem nmJ9 : ∀ a, a < 0 → ∀ b, b < 0 → a ≠ b → (TJ9 a).2.1 ≠ (TJ9 b).2.1 := by decide +kernel
theorem tyJ9_ok : ∀ k, k < 0 → parseFieldDescriptor (TJ9 k).2.2.1 = some (tyJ9 k) := by decide +kernel
abbrev cJ9_max_7cf53 : ByteArray := prog_12_method_65_code
def yJ9_max_7cf53 : MethodName := ⟨RJ9, "max", "(II)I"⟩
def RJ0 : String := "java/lang/String"
def TJ0 : u_T := fun k => match k with
  | _ => ("", "", "", false)
def tyJ0 : Nat → FieldType := fun k => match k with
  | _ => .int
abbrev wsJ00 : List Cond := u_ws RJ0 TJ0 0
theorem nmJ0 : ∀ a, a < 0 → ∀ b, b < 0 → a ≠ b → (TJ0 a).2.1 ≠ (TJ0 b).2.1 := by decide +kernel
theorem tyJ0_ok : ∀ k, k < 0 → parseFieldDescriptor (TJ0 k).2.2.1 = some (tyJ0 k) := by decide +kernel
abbrev cJ0_length_8abf5 : ByteArray := prog_13_method_54_code
def yJ0_length_8abf5 : MethodName := ⟨RJ0, "length", "()I"⟩
abbrev cJ0_charAt_5068e : ByteArray := prog_13_method_56_code
def yJ0_charAt_5068e : MethodName := ⟨RJ0, "charAt", "(I)C"⟩
abbrev cJ0_coder_7d493 : ByteArray := prog_13_method_152_code
def yJ0_coder_7d493 : MethodName := ⟨RJ0, "coder", "()B"⟩
abbrev cJ0_isLatin1_aae02 : ByteArray := prog_13_method_154_code
def yJ0_isLatin1_aae02 : MethodName := ⟨RJ0, "isLatin1", "()Z"⟩
abbrev cJ0_checkIndex_df160 : ByteArray := prog_13_method_155_code
def yJ0_checkIndex_df160 : MethodName := ⟨RJ0, "checkIndex", "(II)V"⟩
def RJ1 : String := "java/lang/StringLatin1"
def TJ1 : u_T := fun k => match k with
  | _ => ("", "", "", false)
def tyJ1 : Nat → FieldType := fun k => match k with
  | _ => .int
abbrev wsJ10 : List Cond := u_ws RJ1 TJ1 0
theorem nmJ1 : ∀ a, a < 0 → ∀ b, b < 0 → a ≠ b → (TJ1 a).2.1 ≠ (TJ1 b).2.1 := by decide +kernel
theorem tyJ1_ok : ∀ k, k < 0 → parseFieldDescriptor (TJ1 k).2.2.1 = some (tyJ1 k) := by decide +kernel
abbrev cJ1_charAt_3b067 : ByteArray := prog_14_method_2_code
def yJ1_charAt_3b067 : MethodName := ⟨RJ1, "charAt", "([BI)C"⟩
def RJ2 : String := "java/lang/StringUTF16"
def TJ2 : u_T := fun k => match k with
  | _ => ("", "", "", false)
def tyJ2 : Nat → FieldType := fun k => match k with
  | _ => .int
abbrev wsJ20 : List Cond := u_ws RJ2 TJ2 0
theorem nmJ2 : ∀ a, a < 0 → ∀ b, b < 0 → a ≠ b → (TJ2 a).2.1 ≠ (TJ2 b).2.1 := by decide +kernel
theorem tyJ2_ok : ∀ k, k < 0 → parseFieldDescriptor (TJ2 k).2.2.1 = some (tyJ2 k) := by decide +kernel
abbrev cJ2_getChar_3b067 : ByteArray := prog_15_method_5_code
def yJ2_getChar_3b067 : MethodName := ⟨RJ2, "getChar", "([BI)C"⟩
abbrev cJ2_length_9d52b : ByteArray := prog_15_method_6_code
def yJ2_length_9d52b : MethodName := ⟨RJ2, "length", "([B)I"⟩
abbrev cJ2_charAt_3b067 : ByteArray := prog_15_method_83_code
def yJ2_charAt_3b067 : MethodName := ⟨RJ2, "charAt", "([BI)C"⟩
abbrev cJ2_checkIndex_2214a : ByteArray := prog_15_method_91_code
def yJ2_checkIndex_2214a : MethodName := ⟨RJ2, "checkIndex", "(I[B)V"⟩
def RJ10 : String := "java/lang/System"
def TJ10 : u_T := fun k => match k with
  | _ => ("", "", "", false)
def tyJ10 : Nat → FieldType := fun k => match k with
  | _ => .int
abbrev wsJ100 : List Cond := u_ws RJ10 TJ10 0
theorem nmJ10 : ∀ a, a < 0 → ∀ b, b < 0 → a ≠ b → (TJ10 a).2.1 ≠ (TJ10 b).2.1 := by decide +kernel
theorem tyJ10_ok : ∀ k, k < 0 → parseFieldDescriptor (TJ10 k).2.2.1 = some (tyJ10 k) := by decide +kernel
def RJxfd54e : String := "java/lang/constant/Constable"
def TJxfd54e : u_T := fun k => match k with
  | _ => ("", "", "", false)
def tyJxfd54e : Nat → FieldType := fun k => match k with
  | _ => .int
abbrev wsJxfd54e0 : List Cond := u_ws RJxfd54e TJxfd54e 0
theorem nmJxfd54e : ∀ a, a < 0 → ∀ b, b < 0 → a ≠ b → (TJxfd54e a).2.1 ≠ (TJxfd54e b).2.1 := by decide +kernel
theorem tyJxfd54e_ok : ∀ k, k < 0 → parseFieldDescriptor (TJxfd54e k).2.2.1 = some (tyJxfd54e k) := by decide +kernel
def RJx3cf43 : String := "java/lang/constant/ConstantDesc"
def TJx3cf43 : u_T := fun k => match k with
  | _ => ("", "", "", false)
def tyJx3cf43 : Nat → FieldType := fun k => match k with
  | _ => .int
abbrev wsJx3cf430 : List Cond := u_ws RJx3cf43 TJx3cf43 0
theorem nmJx3cf43 : ∀ a, a < 0 → ∀ b, b < 0 → a ≠ b → (TJx3cf43 a).2.1 ≠ (TJx3cf43 b).2.1 := by decide +kernel
theorem tyJx3cf43_ok : ∀ k, k < 0 → parseFieldDescriptor (TJx3cf43 k).2.2.1 = some (tyJx3cf43 k) := by decide +kernel
def RJ7 : String := "java/util/Arrays"
def TJ7 : u_T := fun k => match k with
  | _ => ("", "", "", false)
def tyJ7 : Nat → FieldType := fun k => match k with
  | _ => .int
abbrev wsJ70 : List Cond := u_ws RJ7 TJ7 0
theorem nmJ7 : ∀ a, a < 0 → ∀ b, b < 0 → a ≠ b → (TJ7 a).2.1 ≠ (TJ7 b).2.1 := by decide +kernel
theorem tyJ7_ok : ∀ k, k < 0 → parseFieldDescriptor (TJ7 k).2.2.1 = some (tyJ7 k) := by decide +kernel
abbrev cJ7_fill_53178 : ByteArray := prog_17_method_103_code
def yJ7_fill_53178 : MethodName := ⟨RJ7, "fill", "([II)V"⟩
def RJ3 : String := "jdk/internal/util/Preconditions"
def TJ3 : u_T := fun k => match k with
  | _ => ("", "", "", false)
def tyJ3 : Nat → FieldType := fun k => match k with
  | _ => .int
abbrev wsJ30 : List Cond := u_ws RJ3 TJ3 0
theorem nmJ3 : ∀ a, a < 0 → ∀ b, b < 0 → a ≠ b → (TJ3 a).2.1 ≠ (TJ3 b).2.1 := by decide +kernel
theorem tyJ3_ok : ∀ k, k < 0 → parseFieldDescriptor (TJ3 k).2.2.1 = some (tyJ3 k) := by decide +kernel
abbrev cJ3_checkIndex_8e157 : ByteArray := prog_18_method_11_code
def yJ3_checkIndex_8e157 : MethodName := ⟨RJ3, "checkIndex", "(IILjava/util/function/BiFunction;)I"⟩
def RL : String := "OneWordLettersLaw"
abbrev cL_law : ByteArray := code
def yL_law : MethodName := ⟨RL, "law", "([I)Z"⟩

