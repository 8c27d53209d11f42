def adX (l : List Nat) : Nat → Nat := fun k => l.getD k 0
theorem fl_39 : (Jvm.Cond.exactly (Jvm.Term.string "OneWordLetters$Reader" (48 : Nat)) "java/lang/String") ∈ flatC (Jvm.Cond.and given_1 narrow_1) := List.mem_of_getElem? (i := 39) (by decide +kernel)
theorem fl_49 : (Jvm.Cond.exactly (Jvm.Term.string "OneWordLetters$Reader" (67 : Nat)) "java/lang/String") ∈ flatC (Jvm.Cond.and given_1 narrow_1) := List.mem_of_getElem? (i := 49) (by decide +kernel)
theorem fl_104 : (Jvm.Cond.exactly (Jvm.Term.string "OneWordLetters$Reader" (72 : Nat)) "java/lang/String") ∈ flatC (Jvm.Cond.and given_1 narrow_1) := List.mem_of_getElem? (i := 104) (by decide +kernel)
theorem fl_119 : (Jvm.Cond.exactly (Jvm.Term.string "OneWordLetters$Reader" (77 : Nat)) "java/lang/String") ∈ flatC (Jvm.Cond.and given_1 narrow_1) := List.mem_of_getElem? (i := 119) (by decide +kernel)
theorem fl_58 : (Jvm.Cond.exactly (Jvm.Term.string "OneWordLetters$Reader" (110 : Nat)) "java/lang/String") ∈ flatC (Jvm.Cond.and given_1 narrow_1) := List.mem_of_getElem? (i := 58) (by decide +kernel)
theorem fl_68 : (Jvm.Cond.exactly (Jvm.Term.string "OneWordLetters$Reader" (112 : Nat)) "java/lang/String") ∈ flatC (Jvm.Cond.and given_1 narrow_1) := List.mem_of_getElem? (i := 68) (by decide +kernel)
theorem fl_79 : (Jvm.Cond.exactly (Jvm.Term.string "OneWordLetters$Reader" (114 : Nat)) "java/lang/String") ∈ flatC (Jvm.Cond.and given_1 narrow_1) := List.mem_of_getElem? (i := 79) (by decide +kernel)
theorem fl_91 : (Jvm.Cond.exactly (Jvm.Term.string "OneWordLetters$Reader" (116 : Nat)) "java/lang/String") ∈ flatC (Jvm.Cond.and given_1 narrow_1) := List.mem_of_getElem? (i := 91) (by decide +kernel)
theorem fl_40 : (Jvm.Cond.eq (Jvm.Term.field (Jvm.Term.string "OneWordLetters$Reader" (48 : Nat)) "java/lang/String" "coder" "B") (Jvm.Term.int (0 : Int32))) ∈ flatC (Jvm.Cond.and given_1 narrow_1) := List.mem_of_getElem? (i := 40) (by decide +kernel)
theorem fl_50 : (Jvm.Cond.eq (Jvm.Term.field (Jvm.Term.string "OneWordLetters$Reader" (67 : Nat)) "java/lang/String" "coder" "B") (Jvm.Term.int (0 : Int32))) ∈ flatC (Jvm.Cond.and given_1 narrow_1) := List.mem_of_getElem? (i := 50) (by decide +kernel)
theorem fl_105 : (Jvm.Cond.eq (Jvm.Term.field (Jvm.Term.string "OneWordLetters$Reader" (72 : Nat)) "java/lang/String" "coder" "B") (Jvm.Term.int (0 : Int32))) ∈ flatC (Jvm.Cond.and given_1 narrow_1) := List.mem_of_getElem? (i := 105) (by decide +kernel)
theorem fl_120 : (Jvm.Cond.eq (Jvm.Term.field (Jvm.Term.string "OneWordLetters$Reader" (77 : Nat)) "java/lang/String" "coder" "B") (Jvm.Term.int (0 : Int32))) ∈ flatC (Jvm.Cond.and given_1 narrow_1) := List.mem_of_getElem? (i := 120) (by decide +kernel)
theorem fl_59 : (Jvm.Cond.eq (Jvm.Term.field (Jvm.Term.string "OneWordLetters$Reader" (110 : Nat)) "java/lang/String" "coder" "B") (Jvm.Term.int (0 : Int32))) ∈ flatC (Jvm.Cond.and given_1 narrow_1) := List.mem_of_getElem? (i := 59) (by decide +kernel)
theorem fl_69 : (Jvm.Cond.eq (Jvm.Term.field (Jvm.Term.string "OneWordLetters$Reader" (112 : Nat)) "java/lang/String" "coder" "B") (Jvm.Term.int (0 : Int32))) ∈ flatC (Jvm.Cond.and given_1 narrow_1) := List.mem_of_getElem? (i := 69) (by decide +kernel)
theorem fl_80 : (Jvm.Cond.eq (Jvm.Term.field (Jvm.Term.string "OneWordLetters$Reader" (114 : Nat)) "java/lang/String" "coder" "B") (Jvm.Term.int (0 : Int32))) ∈ flatC (Jvm.Cond.and given_1 narrow_1) := List.mem_of_getElem? (i := 80) (by decide +kernel)
theorem fl_92 : (Jvm.Cond.eq (Jvm.Term.field (Jvm.Term.string "OneWordLetters$Reader" (116 : Nat)) "java/lang/String" "coder" "B") (Jvm.Term.int (0 : Int32))) ∈ flatC (Jvm.Cond.and given_1 narrow_1) := List.mem_of_getElem? (i := 92) (by decide +kernel)
theorem fl_41 : (Jvm.Cond.arrayOf (Jvm.Term.field (Jvm.Term.string "OneWordLetters$Reader" (48 : Nat)) "java/lang/String" "value" "[B") Jvm.ClassFile.FieldType.byte) ∈ flatC (Jvm.Cond.and given_1 narrow_1) := List.mem_of_getElem? (i := 41) (by decide +kernel)
theorem fl_51 : (Jvm.Cond.arrayOf (Jvm.Term.field (Jvm.Term.string "OneWordLetters$Reader" (67 : Nat)) "java/lang/String" "value" "[B") Jvm.ClassFile.FieldType.byte) ∈ flatC (Jvm.Cond.and given_1 narrow_1) := List.mem_of_getElem? (i := 51) (by decide +kernel)
theorem fl_106 : (Jvm.Cond.arrayOf (Jvm.Term.field (Jvm.Term.string "OneWordLetters$Reader" (72 : Nat)) "java/lang/String" "value" "[B") Jvm.ClassFile.FieldType.byte) ∈ flatC (Jvm.Cond.and given_1 narrow_1) := List.mem_of_getElem? (i := 106) (by decide +kernel)
theorem fl_121 : (Jvm.Cond.arrayOf (Jvm.Term.field (Jvm.Term.string "OneWordLetters$Reader" (77 : Nat)) "java/lang/String" "value" "[B") Jvm.ClassFile.FieldType.byte) ∈ flatC (Jvm.Cond.and given_1 narrow_1) := List.mem_of_getElem? (i := 121) (by decide +kernel)
theorem fl_60 : (Jvm.Cond.arrayOf (Jvm.Term.field (Jvm.Term.string "OneWordLetters$Reader" (110 : Nat)) "java/lang/String" "value" "[B") Jvm.ClassFile.FieldType.byte) ∈ flatC (Jvm.Cond.and given_1 narrow_1) := List.mem_of_getElem? (i := 60) (by decide +kernel)
theorem fl_70 : (Jvm.Cond.arrayOf (Jvm.Term.field (Jvm.Term.string "OneWordLetters$Reader" (112 : Nat)) "java/lang/String" "value" "[B") Jvm.ClassFile.FieldType.byte) ∈ flatC (Jvm.Cond.and given_1 narrow_1) := List.mem_of_getElem? (i := 70) (by decide +kernel)
theorem fl_81 : (Jvm.Cond.arrayOf (Jvm.Term.field (Jvm.Term.string "OneWordLetters$Reader" (114 : Nat)) "java/lang/String" "value" "[B") Jvm.ClassFile.FieldType.byte) ∈ flatC (Jvm.Cond.and given_1 narrow_1) := List.mem_of_getElem? (i := 81) (by decide +kernel)
theorem fl_93 : (Jvm.Cond.arrayOf (Jvm.Term.field (Jvm.Term.string "OneWordLetters$Reader" (116 : Nat)) "java/lang/String" "value" "[B") Jvm.ClassFile.FieldType.byte) ∈ flatC (Jvm.Cond.and given_1 narrow_1) := List.mem_of_getElem? (i := 93) (by decide +kernel)
theorem fl_42 : (Jvm.Cond.eq (Jvm.Term.length (Jvm.Term.field (Jvm.Term.string "OneWordLetters$Reader" (48 : Nat)) "java/lang/String" "value" "[B")) (Jvm.Term.int (6 : Int32))) ∈ flatC (Jvm.Cond.and given_1 narrow_1) := List.mem_of_getElem? (i := 42) (by decide +kernel)
theorem fl_52 : (Jvm.Cond.eq (Jvm.Term.length (Jvm.Term.field (Jvm.Term.string "OneWordLetters$Reader" (67 : Nat)) "java/lang/String" "value" "[B")) (Jvm.Term.int (4 : Int32))) ∈ flatC (Jvm.Cond.and given_1 narrow_1) := List.mem_of_getElem? (i := 52) (by decide +kernel)
theorem fl_107 : (Jvm.Cond.eq (Jvm.Term.length (Jvm.Term.field (Jvm.Term.string "OneWordLetters$Reader" (72 : Nat)) "java/lang/String" "value" "[B")) (Jvm.Term.int (5 : Int32))) ∈ flatC (Jvm.Cond.and given_1 narrow_1) := List.mem_of_getElem? (i := 107) (by decide +kernel)
theorem fl_122 : (Jvm.Cond.eq (Jvm.Term.length (Jvm.Term.field (Jvm.Term.string "OneWordLetters$Reader" (77 : Nat)) "java/lang/String" "value" "[B")) (Jvm.Term.int (4 : Int32))) ∈ flatC (Jvm.Cond.and given_1 narrow_1) := List.mem_of_getElem? (i := 122) (by decide +kernel)
theorem fl_61 : (Jvm.Cond.eq (Jvm.Term.length (Jvm.Term.field (Jvm.Term.string "OneWordLetters$Reader" (110 : Nat)) "java/lang/String" "value" "[B")) (Jvm.Term.int (4 : Int32))) ∈ flatC (Jvm.Cond.and given_1 narrow_1) := List.mem_of_getElem? (i := 61) (by decide +kernel)
theorem fl_71 : (Jvm.Cond.eq (Jvm.Term.length (Jvm.Term.field (Jvm.Term.string "OneWordLetters$Reader" (112 : Nat)) "java/lang/String" "value" "[B")) (Jvm.Term.int (4 : Int32))) ∈ flatC (Jvm.Cond.and given_1 narrow_1) := List.mem_of_getElem? (i := 71) (by decide +kernel)
theorem fl_82 : (Jvm.Cond.eq (Jvm.Term.length (Jvm.Term.field (Jvm.Term.string "OneWordLetters$Reader" (114 : Nat)) "java/lang/String" "value" "[B")) (Jvm.Term.int (4 : Int32))) ∈ flatC (Jvm.Cond.and given_1 narrow_1) := List.mem_of_getElem? (i := 82) (by decide +kernel)
theorem fl_94 : (Jvm.Cond.eq (Jvm.Term.length (Jvm.Term.field (Jvm.Term.string "OneWordLetters$Reader" (116 : Nat)) "java/lang/String" "value" "[B")) (Jvm.Term.int (4 : Int32))) ∈ flatC (Jvm.Cond.and given_1 narrow_1) := List.mem_of_getElem? (i := 94) (by decide +kernel)
theorem fl_43 : (Jvm.Cond.eq (Jvm.Term.elem (Jvm.Term.field (Jvm.Term.string "OneWordLetters$Reader" (48 : Nat)) "java/lang/String" "value" "[B") (Jvm.Term.int (0 : Int32))) (Jvm.Term.int (108 : Int32))) ∈ flatC (Jvm.Cond.and given_1 narrow_1) := List.mem_of_getElem? (i := 43) (by decide +kernel)
theorem fl_44 : (Jvm.Cond.eq (Jvm.Term.elem (Jvm.Term.field (Jvm.Term.string "OneWordLetters$Reader" (48 : Nat)) "java/lang/String" "value" "[B") (Jvm.Term.int (1 : Int32))) (Jvm.Term.int (101 : Int32))) ∈ flatC (Jvm.Cond.and given_1 narrow_1) := List.mem_of_getElem? (i := 44) (by decide +kernel)
theorem fl_45 : (Jvm.Cond.eq (Jvm.Term.elem (Jvm.Term.field (Jvm.Term.string "OneWordLetters$Reader" (48 : Nat)) "java/lang/String" "value" "[B") (Jvm.Term.int (2 : Int32))) (Jvm.Term.int (116 : Int32))) ∈ flatC (Jvm.Cond.and given_1 narrow_1) := List.mem_of_getElem? (i := 45) (by decide +kernel)
theorem fl_46 : (Jvm.Cond.eq (Jvm.Term.elem (Jvm.Term.field (Jvm.Term.string "OneWordLetters$Reader" (48 : Nat)) "java/lang/String" "value" "[B") (Jvm.Term.int (3 : Int32))) (Jvm.Term.int (116 : Int32))) ∈ flatC (Jvm.Cond.and given_1 narrow_1) := List.mem_of_getElem? (i := 46) (by decide +kernel)
theorem fl_47 : (Jvm.Cond.eq (Jvm.Term.elem (Jvm.Term.field (Jvm.Term.string "OneWordLetters$Reader" (48 : Nat)) "java/lang/String" "value" "[B") (Jvm.Term.int (4 : Int32))) (Jvm.Term.int (101 : Int32))) ∈ flatC (Jvm.Cond.and given_1 narrow_1) := List.mem_of_getElem? (i := 47) (by decide +kernel)
theorem fl_48 : (Jvm.Cond.eq (Jvm.Term.elem (Jvm.Term.field (Jvm.Term.string "OneWordLetters$Reader" (48 : Nat)) "java/lang/String" "value" "[B") (Jvm.Term.int (5 : Int32))) (Jvm.Term.int (114 : Int32))) ∈ flatC (Jvm.Cond.and given_1 narrow_1) := List.mem_of_getElem? (i := 48) (by decide +kernel)
theorem fl_53 : (Jvm.Cond.eq (Jvm.Term.elem (Jvm.Term.field (Jvm.Term.string "OneWordLetters$Reader" (67 : Nat)) "java/lang/String" "value" "[B") (Jvm.Term.int (0 : Int32))) (Jvm.Term.int (119 : Int32))) ∈ flatC (Jvm.Cond.and given_1 narrow_1) := List.mem_of_getElem? (i := 53) (by decide +kernel)
theorem fl_54 : (Jvm.Cond.eq (Jvm.Term.elem (Jvm.Term.field (Jvm.Term.string "OneWordLetters$Reader" (67 : Nat)) "java/lang/String" "value" "[B") (Jvm.Term.int (1 : Int32))) (Jvm.Term.int (111 : Int32))) ∈ flatC (Jvm.Cond.and given_1 narrow_1) := List.mem_of_getElem? (i := 54) (by decide +kernel)
theorem fl_55 : (Jvm.Cond.eq (Jvm.Term.elem (Jvm.Term.field (Jvm.Term.string "OneWordLetters$Reader" (67 : Nat)) "java/lang/String" "value" "[B") (Jvm.Term.int (2 : Int32))) (Jvm.Term.int (114 : Int32))) ∈ flatC (Jvm.Cond.and given_1 narrow_1) := List.mem_of_getElem? (i := 55) (by decide +kernel)
theorem fl_56 : (Jvm.Cond.eq (Jvm.Term.elem (Jvm.Term.field (Jvm.Term.string "OneWordLetters$Reader" (67 : Nat)) "java/lang/String" "value" "[B") (Jvm.Term.int (3 : Int32))) (Jvm.Term.int (100 : Int32))) ∈ flatC (Jvm.Cond.and given_1 narrow_1) := List.mem_of_getElem? (i := 56) (by decide +kernel)
theorem fl_108 : (Jvm.Cond.eq (Jvm.Term.elem (Jvm.Term.field (Jvm.Term.string "OneWordLetters$Reader" (72 : Nat)) "java/lang/String" "value" "[B") (Jvm.Term.int (0 : Int32))) (Jvm.Term.int (102 : Int32))) ∈ flatC (Jvm.Cond.and given_1 narrow_1) := List.mem_of_getElem? (i := 108) (by decide +kernel)
theorem fl_109 : (Jvm.Cond.eq (Jvm.Term.elem (Jvm.Term.field (Jvm.Term.string "OneWordLetters$Reader" (72 : Nat)) "java/lang/String" "value" "[B") (Jvm.Term.int (1 : Int32))) (Jvm.Term.int (114 : Int32))) ∈ flatC (Jvm.Cond.and given_1 narrow_1) := List.mem_of_getElem? (i := 109) (by decide +kernel)
theorem fl_110 : (Jvm.Cond.eq (Jvm.Term.elem (Jvm.Term.field (Jvm.Term.string "OneWordLetters$Reader" (72 : Nat)) "java/lang/String" "value" "[B") (Jvm.Term.int (2 : Int32))) (Jvm.Term.int (97 : Int32))) ∈ flatC (Jvm.Cond.and given_1 narrow_1) := List.mem_of_getElem? (i := 110) (by decide +kernel)
theorem fl_111 : (Jvm.Cond.eq (Jvm.Term.elem (Jvm.Term.field (Jvm.Term.string "OneWordLetters$Reader" (72 : Nat)) "java/lang/String" "value" "[B") (Jvm.Term.int (3 : Int32))) (Jvm.Term.int (109 : Int32))) ∈ flatC (Jvm.Cond.and given_1 narrow_1) := List.mem_of_getElem? (i := 111) (by decide +kernel)
theorem fl_112 : (Jvm.Cond.eq (Jvm.Term.elem (Jvm.Term.field (Jvm.Term.string "OneWordLetters$Reader" (72 : Nat)) "java/lang/String" "value" "[B") (Jvm.Term.int (4 : Int32))) (Jvm.Term.int (101 : Int32))) ∈ flatC (Jvm.Cond.and given_1 narrow_1) := List.mem_of_getElem? (i := 112) (by decide +kernel)
theorem fl_123 : (Jvm.Cond.eq (Jvm.Term.elem (Jvm.Term.field (Jvm.Term.string "OneWordLetters$Reader" (77 : Nat)) "java/lang/String" "value" "[B") (Jvm.Term.int (0 : Int32))) (Jvm.Term.int (112 : Int32))) ∈ flatC (Jvm.Cond.and given_1 narrow_1) := List.mem_of_getElem? (i := 123) (by decide +kernel)
theorem fl_124 : (Jvm.Cond.eq (Jvm.Term.elem (Jvm.Term.field (Jvm.Term.string "OneWordLetters$Reader" (77 : Nat)) "java/lang/String" "value" "[B") (Jvm.Term.int (1 : Int32))) (Jvm.Term.int (97 : Int32))) ∈ flatC (Jvm.Cond.and given_1 narrow_1) := List.mem_of_getElem? (i := 124) (by decide +kernel)
theorem fl_125 : (Jvm.Cond.eq (Jvm.Term.elem (Jvm.Term.field (Jvm.Term.string "OneWordLetters$Reader" (77 : Nat)) "java/lang/String" "value" "[B") (Jvm.Term.int (2 : Int32))) (Jvm.Term.int (105 : Int32))) ∈ flatC (Jvm.Cond.and given_1 narrow_1) := List.mem_of_getElem? (i := 125) (by decide +kernel)
theorem fl_126 : (Jvm.Cond.eq (Jvm.Term.elem (Jvm.Term.field (Jvm.Term.string "OneWordLetters$Reader" (77 : Nat)) "java/lang/String" "value" "[B") (Jvm.Term.int (3 : Int32))) (Jvm.Term.int (114 : Int32))) ∈ flatC (Jvm.Cond.and given_1 narrow_1) := List.mem_of_getElem? (i := 126) (by decide +kernel)
theorem fl_62 : (Jvm.Cond.eq (Jvm.Term.elem (Jvm.Term.field (Jvm.Term.string "OneWordLetters$Reader" (110 : Nat)) "java/lang/String" "value" "[B") (Jvm.Term.int (0 : Int32))) (Jvm.Term.int (110 : Int32))) ∈ flatC (Jvm.Cond.and given_1 narrow_1) := List.mem_of_getElem? (i := 62) (by decide +kernel)
theorem fl_63 : (Jvm.Cond.eq (Jvm.Term.elem (Jvm.Term.field (Jvm.Term.string "OneWordLetters$Reader" (110 : Nat)) "java/lang/String" "value" "[B") (Jvm.Term.int (1 : Int32))) (Jvm.Term.int (97 : Int32))) ∈ flatC (Jvm.Cond.and given_1 narrow_1) := List.mem_of_getElem? (i := 63) (by decide +kernel)
theorem fl_64 : (Jvm.Cond.eq (Jvm.Term.elem (Jvm.Term.field (Jvm.Term.string "OneWordLetters$Reader" (110 : Nat)) "java/lang/String" "value" "[B") (Jvm.Term.int (2 : Int32))) (Jvm.Term.int (109 : Int32))) ∈ flatC (Jvm.Cond.and given_1 narrow_1) := List.mem_of_getElem? (i := 64) (by decide +kernel)
theorem fl_65 : (Jvm.Cond.eq (Jvm.Term.elem (Jvm.Term.field (Jvm.Term.string "OneWordLetters$Reader" (110 : Nat)) "java/lang/String" "value" "[B") (Jvm.Term.int (3 : Int32))) (Jvm.Term.int (101 : Int32))) ∈ flatC (Jvm.Cond.and given_1 narrow_1) := List.mem_of_getElem? (i := 65) (by decide +kernel)
theorem fl_72 : (Jvm.Cond.eq (Jvm.Term.elem (Jvm.Term.field (Jvm.Term.string "OneWordLetters$Reader" (112 : Nat)) "java/lang/String" "value" "[B") (Jvm.Term.int (0 : Int32))) (Jvm.Term.int (100 : Int32))) ∈ flatC (Jvm.Cond.and given_1 narrow_1) := List.mem_of_getElem? (i := 72) (by decide +kernel)
theorem fl_73 : (Jvm.Cond.eq (Jvm.Term.elem (Jvm.Term.field (Jvm.Term.string "OneWordLetters$Reader" (112 : Nat)) "java/lang/String" "value" "[B") (Jvm.Term.int (1 : Int32))) (Jvm.Term.int (101 : Int32))) ∈ flatC (Jvm.Cond.and given_1 narrow_1) := List.mem_of_getElem? (i := 73) (by decide +kernel)
theorem fl_74 : (Jvm.Cond.eq (Jvm.Term.elem (Jvm.Term.field (Jvm.Term.string "OneWordLetters$Reader" (112 : Nat)) "java/lang/String" "value" "[B") (Jvm.Term.int (2 : Int32))) (Jvm.Term.int (101 : Int32))) ∈ flatC (Jvm.Cond.and given_1 narrow_1) := List.mem_of_getElem? (i := 74) (by decide +kernel)
theorem fl_75 : (Jvm.Cond.eq (Jvm.Term.elem (Jvm.Term.field (Jvm.Term.string "OneWordLetters$Reader" (112 : Nat)) "java/lang/String" "value" "[B") (Jvm.Term.int (3 : Int32))) (Jvm.Term.int (100 : Int32))) ∈ flatC (Jvm.Cond.and given_1 narrow_1) := List.mem_of_getElem? (i := 75) (by decide +kernel)
theorem fl_83 : (Jvm.Cond.eq (Jvm.Term.elem (Jvm.Term.field (Jvm.Term.string "OneWordLetters$Reader" (114 : Nat)) "java/lang/String" "value" "[B") (Jvm.Term.int (0 : Int32))) (Jvm.Term.int (108 : Int32))) ∈ flatC (Jvm.Cond.and given_1 narrow_1) := List.mem_of_getElem? (i := 83) (by decide +kernel)
theorem fl_84 : (Jvm.Cond.eq (Jvm.Term.elem (Jvm.Term.field (Jvm.Term.string "OneWordLetters$Reader" (114 : Nat)) "java/lang/String" "value" "[B") (Jvm.Term.int (1 : Int32))) (Jvm.Term.int (105 : Int32))) ∈ flatC (Jvm.Cond.and given_1 narrow_1) := List.mem_of_getElem? (i := 84) (by decide +kernel)
theorem fl_85 : (Jvm.Cond.eq (Jvm.Term.elem (Jvm.Term.field (Jvm.Term.string "OneWordLetters$Reader" (114 : Nat)) "java/lang/String" "value" "[B") (Jvm.Term.int (2 : Int32))) (Jvm.Term.int (110 : Int32))) ∈ flatC (Jvm.Cond.and given_1 narrow_1) := List.mem_of_getElem? (i := 85) (by decide +kernel)
theorem fl_86 : (Jvm.Cond.eq (Jvm.Term.elem (Jvm.Term.field (Jvm.Term.string "OneWordLetters$Reader" (114 : Nat)) "java/lang/String" "value" "[B") (Jvm.Term.int (3 : Int32))) (Jvm.Term.int (107 : Int32))) ∈ flatC (Jvm.Cond.and given_1 narrow_1) := List.mem_of_getElem? (i := 86) (by decide +kernel)
theorem fl_95 : (Jvm.Cond.eq (Jvm.Term.elem (Jvm.Term.field (Jvm.Term.string "OneWordLetters$Reader" (116 : Nat)) "java/lang/String" "value" "[B") (Jvm.Term.int (0 : Int32))) (Jvm.Term.int (116 : Int32))) ∈ flatC (Jvm.Cond.and given_1 narrow_1) := List.mem_of_getElem? (i := 95) (by decide +kernel)
theorem fl_96 : (Jvm.Cond.eq (Jvm.Term.elem (Jvm.Term.field (Jvm.Term.string "OneWordLetters$Reader" (116 : Nat)) "java/lang/String" "value" "[B") (Jvm.Term.int (1 : Int32))) (Jvm.Term.int (117 : Int32))) ∈ flatC (Jvm.Cond.and given_1 narrow_1) := List.mem_of_getElem? (i := 96) (by decide +kernel)
theorem fl_97 : (Jvm.Cond.eq (Jvm.Term.elem (Jvm.Term.field (Jvm.Term.string "OneWordLetters$Reader" (116 : Nat)) "java/lang/String" "value" "[B") (Jvm.Term.int (2 : Int32))) (Jvm.Term.int (114 : Int32))) ∈ flatC (Jvm.Cond.and given_1 narrow_1) := List.mem_of_getElem? (i := 97) (by decide +kernel)
theorem fl_98 : (Jvm.Cond.eq (Jvm.Term.elem (Jvm.Term.field (Jvm.Term.string "OneWordLetters$Reader" (116 : Nat)) "java/lang/String" "value" "[B") (Jvm.Term.int (3 : Int32))) (Jvm.Term.int (110 : Int32))) ∈ flatC (Jvm.Cond.and given_1 narrow_1) := List.mem_of_getElem? (i := 98) (by decide +kernel)
theorem fl_57 : (Jvm.Cond.not (Jvm.Cond.eq (Jvm.Term.string "OneWordLetters$Reader" (48 : Nat)) (Jvm.Term.string "OneWordLetters$Reader" (67 : Nat)))) ∈ flatC (Jvm.Cond.and given_1 narrow_1) := List.mem_of_getElem? (i := 57) (by decide +kernel)
theorem fl_113 : (Jvm.Cond.not (Jvm.Cond.eq (Jvm.Term.string "OneWordLetters$Reader" (48 : Nat)) (Jvm.Term.string "OneWordLetters$Reader" (72 : Nat)))) ∈ flatC (Jvm.Cond.and given_1 narrow_1) := List.mem_of_getElem? (i := 113) (by decide +kernel)
theorem fl_127 : (Jvm.Cond.not (Jvm.Cond.eq (Jvm.Term.string "OneWordLetters$Reader" (48 : Nat)) (Jvm.Term.string "OneWordLetters$Reader" (77 : Nat)))) ∈ flatC (Jvm.Cond.and given_1 narrow_1) := List.mem_of_getElem? (i := 127) (by decide +kernel)
theorem fl_66 : (Jvm.Cond.not (Jvm.Cond.eq (Jvm.Term.string "OneWordLetters$Reader" (48 : Nat)) (Jvm.Term.string "OneWordLetters$Reader" (110 : Nat)))) ∈ flatC (Jvm.Cond.and given_1 narrow_1) := List.mem_of_getElem? (i := 66) (by decide +kernel)
theorem fl_76 : (Jvm.Cond.not (Jvm.Cond.eq (Jvm.Term.string "OneWordLetters$Reader" (48 : Nat)) (Jvm.Term.string "OneWordLetters$Reader" (112 : Nat)))) ∈ flatC (Jvm.Cond.and given_1 narrow_1) := List.mem_of_getElem? (i := 76) (by decide +kernel)
theorem fl_87 : (Jvm.Cond.not (Jvm.Cond.eq (Jvm.Term.string "OneWordLetters$Reader" (48 : Nat)) (Jvm.Term.string "OneWordLetters$Reader" (114 : Nat)))) ∈ flatC (Jvm.Cond.and given_1 narrow_1) := List.mem_of_getElem? (i := 87) (by decide +kernel)
theorem fl_99 : (Jvm.Cond.not (Jvm.Cond.eq (Jvm.Term.string "OneWordLetters$Reader" (48 : Nat)) (Jvm.Term.string "OneWordLetters$Reader" (116 : Nat)))) ∈ flatC (Jvm.Cond.and given_1 narrow_1) := List.mem_of_getElem? (i := 99) (by decide +kernel)
theorem fl_114 : (Jvm.Cond.not (Jvm.Cond.eq (Jvm.Term.string "OneWordLetters$Reader" (67 : Nat)) (Jvm.Term.string "OneWordLetters$Reader" (72 : Nat)))) ∈ flatC (Jvm.Cond.and given_1 narrow_1) := List.mem_of_getElem? (i := 114) (by decide +kernel)
theorem fl_128 : (Jvm.Cond.not (Jvm.Cond.eq (Jvm.Term.string "OneWordLetters$Reader" (67 : Nat)) (Jvm.Term.string "OneWordLetters$Reader" (77 : Nat)))) ∈ flatC (Jvm.Cond.and given_1 narrow_1) := List.mem_of_getElem? (i := 128) (by decide +kernel)
theorem fl_67 : (Jvm.Cond.not (Jvm.Cond.eq (Jvm.Term.string "OneWordLetters$Reader" (67 : Nat)) (Jvm.Term.string "OneWordLetters$Reader" (110 : Nat)))) ∈ flatC (Jvm.Cond.and given_1 narrow_1) := List.mem_of_getElem? (i := 67) (by decide +kernel)
theorem fl_77 : (Jvm.Cond.not (Jvm.Cond.eq (Jvm.Term.string "OneWordLetters$Reader" (67 : Nat)) (Jvm.Term.string "OneWordLetters$Reader" (112 : Nat)))) ∈ flatC (Jvm.Cond.and given_1 narrow_1) := List.mem_of_getElem? (i := 77) (by decide +kernel)
theorem fl_88 : (Jvm.Cond.not (Jvm.Cond.eq (Jvm.Term.string "OneWordLetters$Reader" (67 : Nat)) (Jvm.Term.string "OneWordLetters$Reader" (114 : Nat)))) ∈ flatC (Jvm.Cond.and given_1 narrow_1) := List.mem_of_getElem? (i := 88) (by decide +kernel)
theorem fl_100 : (Jvm.Cond.not (Jvm.Cond.eq (Jvm.Term.string "OneWordLetters$Reader" (67 : Nat)) (Jvm.Term.string "OneWordLetters$Reader" (116 : Nat)))) ∈ flatC (Jvm.Cond.and given_1 narrow_1) := List.mem_of_getElem? (i := 100) (by decide +kernel)
theorem fl_133 : (Jvm.Cond.not (Jvm.Cond.eq (Jvm.Term.string "OneWordLetters$Reader" (72 : Nat)) (Jvm.Term.string "OneWordLetters$Reader" (77 : Nat)))) ∈ flatC (Jvm.Cond.and given_1 narrow_1) := List.mem_of_getElem? (i := 133) (by decide +kernel)
theorem fl_115 : (Jvm.Cond.not (Jvm.Cond.eq (Jvm.Term.string "OneWordLetters$Reader" (110 : Nat)) (Jvm.Term.string "OneWordLetters$Reader" (72 : Nat)))) ∈ flatC (Jvm.Cond.and given_1 narrow_1) := List.mem_of_getElem? (i := 115) (by decide +kernel)
theorem fl_116 : (Jvm.Cond.not (Jvm.Cond.eq (Jvm.Term.string "OneWordLetters$Reader" (112 : Nat)) (Jvm.Term.string "OneWordLetters$Reader" (72 : Nat)))) ∈ flatC (Jvm.Cond.and given_1 narrow_1) := List.mem_of_getElem? (i := 116) (by decide +kernel)
theorem fl_117 : (Jvm.Cond.not (Jvm.Cond.eq (Jvm.Term.string "OneWordLetters$Reader" (114 : Nat)) (Jvm.Term.string "OneWordLetters$Reader" (72 : Nat)))) ∈ flatC (Jvm.Cond.and given_1 narrow_1) := List.mem_of_getElem? (i := 117) (by decide +kernel)
theorem fl_118 : (Jvm.Cond.not (Jvm.Cond.eq (Jvm.Term.string "OneWordLetters$Reader" (116 : Nat)) (Jvm.Term.string "OneWordLetters$Reader" (72 : Nat)))) ∈ flatC (Jvm.Cond.and given_1 narrow_1) := List.mem_of_getElem? (i := 118) (by decide +kernel)
theorem fl_129 : (Jvm.Cond.not (Jvm.Cond.eq (Jvm.Term.string "OneWordLetters$Reader" (110 : Nat)) (Jvm.Term.string "OneWordLetters$Reader" (77 : Nat)))) ∈ flatC (Jvm.Cond.and given_1 narrow_1) := List.mem_of_getElem? (i := 129) (by decide +kernel)
theorem fl_130 : (Jvm.Cond.not (Jvm.Cond.eq (Jvm.Term.string "OneWordLetters$Reader" (112 : Nat)) (Jvm.Term.string "OneWordLetters$Reader" (77 : Nat)))) ∈ flatC (Jvm.Cond.and given_1 narrow_1) := List.mem_of_getElem? (i := 130) (by decide +kernel)
theorem fl_131 : (Jvm.Cond.not (Jvm.Cond.eq (Jvm.Term.string "OneWordLetters$Reader" (114 : Nat)) (Jvm.Term.string "OneWordLetters$Reader" (77 : Nat)))) ∈ flatC (Jvm.Cond.and given_1 narrow_1) := List.mem_of_getElem? (i := 131) (by decide +kernel)
theorem fl_132 : (Jvm.Cond.not (Jvm.Cond.eq (Jvm.Term.string "OneWordLetters$Reader" (116 : Nat)) (Jvm.Term.string "OneWordLetters$Reader" (77 : Nat)))) ∈ flatC (Jvm.Cond.and given_1 narrow_1) := List.mem_of_getElem? (i := 132) (by decide +kernel)
theorem fl_78 : (Jvm.Cond.not (Jvm.Cond.eq (Jvm.Term.string "OneWordLetters$Reader" (110 : Nat)) (Jvm.Term.string "OneWordLetters$Reader" (112 : Nat)))) ∈ flatC (Jvm.Cond.and given_1 narrow_1) := List.mem_of_getElem? (i := 78) (by decide +kernel)
theorem fl_89 : (Jvm.Cond.not (Jvm.Cond.eq (Jvm.Term.string "OneWordLetters$Reader" (110 : Nat)) (Jvm.Term.string "OneWordLetters$Reader" (114 : Nat)))) ∈ flatC (Jvm.Cond.and given_1 narrow_1) := List.mem_of_getElem? (i := 89) (by decide +kernel)
theorem fl_101 : (Jvm.Cond.not (Jvm.Cond.eq (Jvm.Term.string "OneWordLetters$Reader" (110 : Nat)) (Jvm.Term.string "OneWordLetters$Reader" (116 : Nat)))) ∈ flatC (Jvm.Cond.and given_1 narrow_1) := List.mem_of_getElem? (i := 101) (by decide +kernel)
theorem fl_90 : (Jvm.Cond.not (Jvm.Cond.eq (Jvm.Term.string "OneWordLetters$Reader" (112 : Nat)) (Jvm.Term.string "OneWordLetters$Reader" (114 : Nat)))) ∈ flatC (Jvm.Cond.and given_1 narrow_1) := List.mem_of_getElem? (i := 90) (by decide +kernel)
theorem fl_102 : (Jvm.Cond.not (Jvm.Cond.eq (Jvm.Term.string "OneWordLetters$Reader" (112 : Nat)) (Jvm.Term.string "OneWordLetters$Reader" (116 : Nat)))) ∈ flatC (Jvm.Cond.and given_1 narrow_1) := List.mem_of_getElem? (i := 102) (by decide +kernel)
theorem fl_103 : (Jvm.Cond.not (Jvm.Cond.eq (Jvm.Term.string "OneWordLetters$Reader" (114 : Nat)) (Jvm.Term.string "OneWordLetters$Reader" (116 : Nat)))) ∈ flatC (Jvm.Cond.and given_1 narrow_1) := List.mem_of_getElem? (i := 103) (by decide +kernel)
theorem fl_4 : (Jvm.Cond.eq (Jvm.Term.static "java/lang/String" "COMPACT_STRINGS" "Z") (Jvm.Term.int (1 : Int32))) ∈ flatC (Jvm.Cond.and given_1 narrow_1) := List.mem_of_getElem? (i := 4) (by decide +kernel)
theorem fl_5 : (Jvm.Cond.isRef (Jvm.Term.static "jdk/internal/util/Preconditions" "SIOOBE_FORMATTER" "Ljava/util/function/BiFunction;")) ∈ flatC (Jvm.Cond.and given_1 narrow_1) := List.mem_of_getElem? (i := 5) (by decide +kernel)
set_option maxRecDepth 20000 in
theorem nest_in : ∀ w ∈ nestW, w ∈ lw_tbl := mem_r _ [95, 100, 124, 125, 126, 128, 129, 130, 132, 133, 135, 136, 138, 140, 141, 145, 146, 148, 179, 181, 182, 183, 185, 211, 213, 215, 217, 220, 222, 224, 226, 259, 261, 262, 263, 324, 326, 89, 117, 206, 319, 769] (by decide +kernel)
theorem nest_all {s : State} {args : Array Value} (hts : ∀ w ∈ lw_tbl, w.before args s = true) : ∀ w ∈ nestW, va_Nw w s := fun w hw => va_Nw.of (nest_onT (nestW_all w hw)) (hts w (nest_in w hw))
theorem vk_S_congr {N : Nat} {len : List Nat} {byt : List (List Int32)} {adK adV adK2 adV2 : Nat → Nat} {A : Nat → Prop} {U : State} {H : Heap} (h : vk_S N len byt adK adV A U H) (hk : ∀ i, i < N → adK2 i = adK i) (hv : ∀ i, i < N → adV2 i = adV i) : vk_S N len byt adK2 adV2 A U H := by
  refine ⟨fun i hi => ?_, fun i j hi hj e => h.2 i j hi hj ?_⟩
  · rw [hk i hi, hv i hi]
    exact h.1 i hi
  · rw [← hk i hi, ← hk j hj]
    exact e
set_option maxHeartbeats 4000000 in
set_option maxRecDepth 100000 in
theorem kz_of {s : State} {b : Nat} (hts : ∀ w ∈ lw_tbl, w.before #[Value.ref b] s = true) (hgv : (Jvm.Cond.and given_1 narrow_1).before #[Value.ref b] s = true) : ∃ (D : va_G) (cy : Nat → ClassId), KZ D cy (fun q => s.heap.size ≤ q) s := by
  have hs := flat_of_before _ hgv
  have hA : ∀ a : Nat, a < s.heap.size → ¬ (fun q => s.heap.size ≤ q) a := fun a h => Nat.not_le.mpr h
  obtain ⟨c0, i0, k0⟩ := u_known (C := RX0) (T := TX0) (N := 9) (n := 9) hts inX0 (hts (.instantiable RX0 9) (List.mem_of_getElem? (i := 205) (by decide +kernel)))
  obtain ⟨c1, i1, k1⟩ := u_known (C := RX1) (T := TX1) (N := 6) (n := 6) hts inX1 (hts (.instantiable RX1 6) (List.mem_of_getElem? (i := 291) (by decide +kernel)))
  obtain ⟨c2, i2, k2⟩ := u_known (C := RX2) (T := TX2) (N := 2) (n := 2) hts inX2 (hts (.instantiable RX2 2) (List.mem_of_getElem? (i := 318) (by decide +kernel)))
  obtain ⟨c3, i3, k3⟩ := u_known (C := RX3) (T := TX3) (N := 7) (n := 7) hts inX3 (hts (.instantiable RX3 7) (List.mem_of_getElem? (i := 172) (by decide +kernel)))
  obtain ⟨c4, i4, k4⟩ := u_known (C := RX4) (T := TX4) (N := 4) (n := 4) hts inX4 (hts (.instantiable RX4 4) (List.mem_of_getElem? (i := 270) (by decide +kernel)))
  obtain ⟨c5, i5, k5⟩ := u_known (C := RX5) (T := TX5) (N := 6) (n := 6) hts inX5 (hts (.instantiable RX5 6) (List.mem_of_getElem? (i := 88) (by decide +kernel)))
  obtain ⟨c6, i6, k6⟩ := u_known (C := RX6) (T := TX6) (N := 2) (n := 2) hts inX6 (hts (.instantiable RX6 2) (List.mem_of_getElem? (i := 250) (by decide +kernel)))
  obtain ⟨c7, i7, k7⟩ := u_known (C := RX7) (T := TX7) (N := 10) (n := 10) hts inX7 (hts (.instantiable RX7 10) (List.mem_of_getElem? (i := 116) (by decide +kernel)))
  obtain ⟨c8, i8, k8⟩ := u_known (C := RX8) (T := TX8) (N := 16) (n := 16) hts inX8 (hts (.instantiable RX8 16) (List.mem_of_getElem? (i := 80) (by decide +kernel)))
  obtain ⟨c9, i9, k9⟩ := u_known (C := RX9) (T := TX9) (N := 55) (n := 55) hts inX9 (hts (.instantiable RX9 55) (List.mem_of_getElem? (i := 866) (by decide +kernel)))
  obtain ⟨t0, y0, z0, fa0, fb0, fc0⟩ := Cond.arrayClass_spec (hts (.arrayClass .int) (List.mem_of_getElem? (i := 170) (by decide +kernel)))
  obtain ⟨t1, y1, z1, fa1, fb1, fc1⟩ := Cond.arrayClass_spec (hts (.arrayClass .byte) (List.mem_of_getElem? (i := 114) (by decide +kernel)))
  obtain ⟨t2, y2, z2, fa2, fb2, fc2⟩ := Cond.arrayClass_spec (hts (.arrayClass .boolean) (List.mem_of_getElem? (i := 1037) (by decide +kernel)))
  have ao0 : va_AO RX0 s := va_AO.of (hts (.arrayOver (.object RX0)) (List.mem_of_getElem? (i := 246) (by decide +kernel)))
  obtain ⟨q3, t3, z3, fd3, -, fb3, fc3, fa3⟩ := Cond.arrayOver_spec ao0
  have ao2 : va_AO RX2 s := va_AO.of (hts (.arrayOver (.object RX2)) (List.mem_of_getElem? (i := 248) (by decide +kernel)))
  obtain ⟨q4, t4, z4, fd4, -, fb4, fc4, fa4⟩ := Cond.arrayOver_spec ao2
  have ao6 : va_AO RX6 s := va_AO.of (hts (.arrayOver (.object RX6)) (List.mem_of_getElem? (i := 297) (by decide +kernel)))
  obtain ⟨q5, t5, z5, fd5, -, fb5, fc5, fa5⟩ := Cond.arrayOver_spec ao6
  have aoi : va_AOI s := hts (.arrayOver (.array .int)) (List.mem_of_getElem? (i := 122) (by decide +kernel))
  obtain ⟨q6, t6, z6, fd6, -, fb6, fc6, fa6⟩ := arrayOver_specB aoi
  have hex : ∀ i : Nat, i < 8 → (Cond.exactly (Term.string "OneWordLetters$Reader" (skI.getD i 0)) "java/lang/String").before #[Value.ref b] s = true := by
    intro i hi
    rcases (show i = 0 ∨ i = 1 ∨ i = 2 ∨ i = 3 ∨ i = 4 ∨ i = 5 ∨ i = 6 ∨ i = 7 by omega) with rfl | rfl | rfl | rfl | rfl | rfl | rfl | rfl
    · exact hs _ fl_39
    · exact hs _ fl_49
    · exact hs _ fl_104
    · exact hs _ fl_119
    · exact hs _ fl_58
    · exact hs _ fl_68
    · exact hs _ fl_79
    · exact hs _ fl_91
  have hco : ∀ i : Nat, i < 8 → (Cond.eq (.field (Term.string "OneWordLetters$Reader" (skI.getD i 0)) "java/lang/String" "coder" "B") (.int 0)).before #[Value.ref b] s = true := by
    intro i hi
    rcases (show i = 0 ∨ i = 1 ∨ i = 2 ∨ i = 3 ∨ i = 4 ∨ i = 5 ∨ i = 6 ∨ i = 7 by omega) with rfl | rfl | rfl | rfl | rfl | rfl | rfl | rfl
    · exact hs _ fl_40
    · exact hs _ fl_50
    · exact hs _ fl_105
    · exact hs _ fl_120
    · exact hs _ fl_59
    · exact hs _ fl_69
    · exact hs _ fl_80
    · exact hs _ fl_92
  have har : ∀ i : Nat, i < 8 → (Cond.arrayOf (.field (Term.string "OneWordLetters$Reader" (skI.getD i 0)) "java/lang/String" "value" "[B") .byte).before #[Value.ref b] s = true := by
    intro i hi
    rcases (show i = 0 ∨ i = 1 ∨ i = 2 ∨ i = 3 ∨ i = 4 ∨ i = 5 ∨ i = 6 ∨ i = 7 by omega) with rfl | rfl | rfl | rfl | rfl | rfl | rfl | rfl
    · exact hs _ fl_41
    · exact hs _ fl_51
    · exact hs _ fl_106
    · exact hs _ fl_121
    · exact hs _ fl_60
    · exact hs _ fl_70
    · exact hs _ fl_81
    · exact hs _ fl_93
  have hle : ∀ i : Nat, i < 8 → (Cond.eq (.length (.field (Term.string "OneWordLetters$Reader" (skI.getD i 0)) "java/lang/String" "value" "[B")) (.int (Int32.ofNat (skL.getD i 0)))).before #[Value.ref b] s = true := by
    intro i hi
    rcases (show i = 0 ∨ i = 1 ∨ i = 2 ∨ i = 3 ∨ i = 4 ∨ i = 5 ∨ i = 6 ∨ i = 7 by omega) with rfl | rfl | rfl | rfl | rfl | rfl | rfl | rfl
    · exact hs _ fl_42
    · exact hs _ fl_52
    · exact hs _ fl_107
    · exact hs _ fl_122
    · exact hs _ fl_61
    · exact hs _ fl_71
    · exact hs _ fl_82
    · exact hs _ fl_94
  have hel : ∀ i : Nat, i < 8 → ∀ j : Nat, j < skL.getD i 0 → (Cond.eq (.elem (.field (Term.string "OneWordLetters$Reader" (skI.getD i 0)) "java/lang/String" "value" "[B") (.int (Int32.ofNat j))) (.int ((skB.getD i []).getD j 0))).before #[Value.ref b] s = true := by
    intro i hi j hj
    rcases (show i = 0 ∨ i = 1 ∨ i = 2 ∨ i = 3 ∨ i = 4 ∨ i = 5 ∨ i = 6 ∨ i = 7 by omega) with rfl | rfl | rfl | rfl | rfl | rfl | rfl | rfl
    · have hj : j < 6 := hj
      rcases (show j = 0 ∨ j = 1 ∨ j = 2 ∨ j = 3 ∨ j = 4 ∨ j = 5 by omega) with rfl | rfl | rfl | rfl | rfl | rfl
      · exact hs _ fl_43
      · exact hs _ fl_44
      · exact hs _ fl_45
      · exact hs _ fl_46
      · exact hs _ fl_47
      · exact hs _ fl_48
    · have hj : j < 4 := hj
      rcases (show j = 0 ∨ j = 1 ∨ j = 2 ∨ j = 3 by omega) with rfl | rfl | rfl | rfl
      · exact hs _ fl_53
      · exact hs _ fl_54
      · exact hs _ fl_55
      · exact hs _ fl_56
    · have hj : j < 5 := hj
      rcases (show j = 0 ∨ j = 1 ∨ j = 2 ∨ j = 3 ∨ j = 4 by omega) with rfl | rfl | rfl | rfl | rfl
      · exact hs _ fl_108
      · exact hs _ fl_109
      · exact hs _ fl_110
      · exact hs _ fl_111
      · exact hs _ fl_112
    · have hj : j < 4 := hj
      rcases (show j = 0 ∨ j = 1 ∨ j = 2 ∨ j = 3 by omega) with rfl | rfl | rfl | rfl
      · exact hs _ fl_123
      · exact hs _ fl_124
      · exact hs _ fl_125
      · exact hs _ fl_126
    · have hj : j < 4 := hj
      rcases (show j = 0 ∨ j = 1 ∨ j = 2 ∨ j = 3 by omega) with rfl | rfl | rfl | rfl
      · exact hs _ fl_62
      · exact hs _ fl_63
      · exact hs _ fl_64
      · exact hs _ fl_65
    · have hj : j < 4 := hj
      rcases (show j = 0 ∨ j = 1 ∨ j = 2 ∨ j = 3 by omega) with rfl | rfl | rfl | rfl
      · exact hs _ fl_72
      · exact hs _ fl_73
      · exact hs _ fl_74
      · exact hs _ fl_75
    · have hj : j < 4 := hj
      rcases (show j = 0 ∨ j = 1 ∨ j = 2 ∨ j = 3 by omega) with rfl | rfl | rfl | rfl
      · exact hs _ fl_83
      · exact hs _ fl_84
      · exact hs _ fl_85
      · exact hs _ fl_86
    · have hj : j < 4 := hj
      rcases (show j = 0 ∨ j = 1 ∨ j = 2 ∨ j = 3 by omega) with rfl | rfl | rfl | rfl
      · exact hs _ fl_95
      · exact hs _ fl_96
      · exact hs _ fl_97
      · exact hs _ fl_98
  have hne : ∀ i j : Nat, i < 8 → j < 8 → i ≠ j → (Cond.not (Cond.eq (Term.string "OneWordLetters$Reader" (skI.getD i 0)) (Term.string "OneWordLetters$Reader" (skI.getD j 0)))).before #[Value.ref b] s = true ∨ (Cond.not (Cond.eq (Term.string "OneWordLetters$Reader" (skI.getD j 0)) (Term.string "OneWordLetters$Reader" (skI.getD i 0)))).before #[Value.ref b] s = true := by
    intro i j hi hj hij
    rcases (show i = 0 ∨ i = 1 ∨ i = 2 ∨ i = 3 ∨ i = 4 ∨ i = 5 ∨ i = 6 ∨ i = 7 by omega) with rfl | rfl | rfl | rfl | rfl | rfl | rfl | rfl
    · rcases (show j = 0 ∨ j = 1 ∨ j = 2 ∨ j = 3 ∨ j = 4 ∨ j = 5 ∨ j = 6 ∨ j = 7 by omega) with rfl | rfl | rfl | rfl | rfl | rfl | rfl | rfl
      · exact absurd rfl hij
      · exact Or.inl (hs _ fl_57)
      · exact Or.inl (hs _ fl_113)
      · exact Or.inl (hs _ fl_127)
      · exact Or.inl (hs _ fl_66)
      · exact Or.inl (hs _ fl_76)
      · exact Or.inl (hs _ fl_87)
      · exact Or.inl (hs _ fl_99)
    · rcases (show j = 0 ∨ j = 1 ∨ j = 2 ∨ j = 3 ∨ j = 4 ∨ j = 5 ∨ j = 6 ∨ j = 7 by omega) with rfl | rfl | rfl | rfl | rfl | rfl | rfl | rfl
      · exact Or.inr (hs _ fl_57)
      · exact absurd rfl hij
      · exact Or.inl (hs _ fl_114)
      · exact Or.inl (hs _ fl_128)
      · exact Or.inl (hs _ fl_67)
      · exact Or.inl (hs _ fl_77)
      · exact Or.inl (hs _ fl_88)
      · exact Or.inl (hs _ fl_100)
    · rcases (show j = 0 ∨ j = 1 ∨ j = 2 ∨ j = 3 ∨ j = 4 ∨ j = 5 ∨ j = 6 ∨ j = 7 by omega) with rfl | rfl | rfl | rfl | rfl | rfl | rfl | rfl
      · exact Or.inr (hs _ fl_113)
      · exact Or.inr (hs _ fl_114)
      · exact absurd rfl hij
      · exact Or.inl (hs _ fl_133)
      · exact Or.inr (hs _ fl_115)
      · exact Or.inr (hs _ fl_116)
      · exact Or.inr (hs _ fl_117)
      · exact Or.inr (hs _ fl_118)
    · rcases (show j = 0 ∨ j = 1 ∨ j = 2 ∨ j = 3 ∨ j = 4 ∨ j = 5 ∨ j = 6 ∨ j = 7 by omega) with rfl | rfl | rfl | rfl | rfl | rfl | rfl | rfl
      · exact Or.inr (hs _ fl_127)
      · exact Or.inr (hs _ fl_128)
      · exact Or.inr (hs _ fl_133)
      · exact absurd rfl hij
      · exact Or.inr (hs _ fl_129)
      · exact Or.inr (hs _ fl_130)
      · exact Or.inr (hs _ fl_131)
      · exact Or.inr (hs _ fl_132)
    · rcases (show j = 0 ∨ j = 1 ∨ j = 2 ∨ j = 3 ∨ j = 4 ∨ j = 5 ∨ j = 6 ∨ j = 7 by omega) with rfl | rfl | rfl | rfl | rfl | rfl | rfl | rfl
      · exact Or.inr (hs _ fl_66)
      · exact Or.inr (hs _ fl_67)
      · exact Or.inl (hs _ fl_115)
      · exact Or.inl (hs _ fl_129)
      · exact absurd rfl hij
      · exact Or.inl (hs _ fl_78)
      · exact Or.inl (hs _ fl_89)
      · exact Or.inl (hs _ fl_101)
    · rcases (show j = 0 ∨ j = 1 ∨ j = 2 ∨ j = 3 ∨ j = 4 ∨ j = 5 ∨ j = 6 ∨ j = 7 by omega) with rfl | rfl | rfl | rfl | rfl | rfl | rfl | rfl
      · exact Or.inr (hs _ fl_76)
      · exact Or.inr (hs _ fl_77)
      · exact Or.inl (hs _ fl_116)
      · exact Or.inl (hs _ fl_130)
      · exact Or.inr (hs _ fl_78)
      · exact absurd rfl hij
      · exact Or.inl (hs _ fl_90)
      · exact Or.inl (hs _ fl_102)
    · rcases (show j = 0 ∨ j = 1 ∨ j = 2 ∨ j = 3 ∨ j = 4 ∨ j = 5 ∨ j = 6 ∨ j = 7 by omega) with rfl | rfl | rfl | rfl | rfl | rfl | rfl | rfl
      · exact Or.inr (hs _ fl_87)
      · exact Or.inr (hs _ fl_88)
      · exact Or.inl (hs _ fl_117)
      · exact Or.inl (hs _ fl_131)
      · exact Or.inr (hs _ fl_89)
      · exact Or.inr (hs _ fl_90)
      · exact absurd rfl hij
      · exact Or.inl (hs _ fl_103)
    · rcases (show j = 0 ∨ j = 1 ∨ j = 2 ∨ j = 3 ∨ j = 4 ∨ j = 5 ∨ j = 6 ∨ j = 7 by omega) with rfl | rfl | rfl | rfl | rfl | rfl | rfl | rfl
      · exact Or.inr (hs _ fl_99)
      · exact Or.inr (hs _ fl_100)
      · exact Or.inl (hs _ fl_118)
      · exact Or.inl (hs _ fl_132)
      · exact Or.inr (hs _ fl_101)
      · exact Or.inr (hs _ fl_102)
      · exact Or.inr (hs _ fl_103)
      · exact absurd rfl hij
  obtain ⟨adK, adV, hE, hV⟩ := vk_Sof (args := #[Value.ref b]) (s := s) (N := 8) (tm := fun i => Term.string "OneWordLetters$Reader" (skI.getD i 0)) (len := skL) (byt := skB) (A := fun q => s.heap.size ≤ q) (by decide) hex hco har hle hel hne hA
  have hcs : (Term.static "java/lang/String" "COMPACT_STRINGS" "Z").eval #[Value.ref b] s none [] s = some (.int 1) := Cond.eq_int (hs _ fl_4) rfl
  have hz1 := va_Zof (A := fun q => s.heap.size ≤ q) (hts (.laysStatic "java/lang/String" "COMPACT_STRINGS" "Z") (List.mem_of_getElem? (i := 436) (by decide +kernel))) (hts (.initialized "java/lang/String") (List.mem_of_getElem? (i := 74) (by decide +kernel))) hcs hA
  have hz2 := va_Zqof (A := fun q => s.heap.size ≤ q) (hts (.laysStatic "jdk/internal/util/Preconditions" "SIOOBE_FORMATTER" "Ljava/util/function/BiFunction;") (List.mem_of_getElem? (i := 452) (by decide +kernel))) (hts (.initialized "jdk/internal/util/Preconditions") (List.mem_of_getElem? (i := 76) (by decide +kernel))) (hs _ fl_5) hA
  obtain ⟨cy, h0, h1, h2, h3, h4, h5, h6, hcyK, hcyV⟩ : ∃ cy : Nat → ClassId, cy 0 = t0 ∧ cy 1 = t1 ∧ cy 2 = t2 ∧ cy 3 = t3 ∧ cy 4 = t4 ∧ cy 5 = t5 ∧ cy 6 = t6 ∧ (∀ i, i < 8 → cy (100 + i) = adK i) ∧ ∀ i, i < 8 → cy (200 + i) = adV i := by
    refine ⟨fun k => if k < 100 then adX [t0, t1, t2, t3, t4, t5, t6] k else if k < 200 then adK (k - 100) else adV (k - 200), rfl, rfl, rfl, rfl, rfl, rfl, rfl, fun i hi => ?_, fun i hi => ?_⟩
    · show (if 100 + i < 100 then _ else if 100 + i < 200 then adK (100 + i - 100) else _) = adK i
      rw [if_neg (by omega), if_pos (by omega), Nat.add_sub_cancel_left]
    · show (if 200 + i < 100 then _ else if 200 + i < 200 then _ else adV (200 + i - 200)) = adV i
      rw [if_neg (by omega), if_neg (by omega), Nat.add_sub_cancel_left]
  refine ⟨(adX [c0, c1, c2, c3, c4, c5, c6, c7, c8, c9], fun k => ([i0, i1, i2, i3, i4, i5, i6, i7, i8, i9] : List (Nat → Nat)).getD k i0), cy, ⟨⟨?_, ?_⟩, nest_all hts, ?_, ao0, ao2, ao6, aoi⟩, vk_S_congr hE hcyK hcyV, hz1, hz2⟩
  · intro k q hq
    match k, hq with
    | 0, hq => cases hq; exact k0
    | 1, hq => cases hq; exact k1
    | 2, hq => cases hq; exact k2
    | 3, hq => cases hq; exact k3
    | 4, hq => cases hq; exact k4
    | 5, hq => cases hq; exact k5
    | 6, hq => cases hq; exact k6
    | 7, hq => cases hq; exact k7
    | 8, hq => cases hq; exact k8
    | 9, hq => cases hq; exact k9
    | k + 10, hq => simp [vwCl] at hq
  · intro k q hq
    match k, hq with
    | 0, hq =>
      cases hq
      show ArrOfT s (cy 0) .int ∧ va_RA s (cy 0) .int
      rw [h0]
      exact ⟨fun n z => ⟨fun k h => (by cases h), y0, fb0, z0, fc0⟩, fa0⟩
    | 1, hq =>
      cases hq
      show ArrOfT s (cy 1) .byte ∧ va_RA s (cy 1) .byte
      rw [h1]
      exact ⟨fun n z => ⟨fun k h => (by cases h), y1, fb1, z1, fc1⟩, fa1⟩
    | 2, hq =>
      cases hq
      show ArrOfT s (cy 2) .boolean ∧ va_RA s (cy 2) .boolean
      rw [h2]
      exact ⟨fun n z => ⟨fun k h => (by cases h), y2, fb2, z2, fc2⟩, fa2⟩
    | 3, hq =>
      cases hq
      show ArrOfT s (cy 3) (.object RX0) ∧ va_RA s (cy 3) (.object RX0)
      rw [h3]
      exact ⟨fun n z => ⟨fun k h => (by cases h), z3, fb3, q3, fc3⟩, z3, q3, fb3, fc3, fd3, fa3⟩
    | 4, hq =>
      cases hq
      show ArrOfT s (cy 4) (.object RX2) ∧ va_RA s (cy 4) (.object RX2)
      rw [h4]
      exact ⟨fun n z => ⟨fun k h => (by cases h), z4, fb4, q4, fc4⟩, z4, q4, fb4, fc4, fd4, fa4⟩
    | 5, hq =>
      cases hq
      show ArrOfT s (cy 5) (.object RX6) ∧ va_RA s (cy 5) (.object RX6)
      rw [h5]
      exact ⟨fun n z => ⟨fun k h => (by cases h), z5, fb5, q5, fc5⟩, z5, q5, fb5, fc5, fd5, fa5⟩
    | 6, hq =>
      cases hq
      show ArrOfT s (cy 6) (.array .int) ∧ va_RA s (cy 6) (.array .int)
      rw [h6]
      exact ⟨fun n z => ⟨fun k h => (by cases h), z6, fb6, q6, fc6⟩, fa6⟩
    | k + 7, hq => simp [tysG] at hq
  · intro i hi
    rw [hcyK i hi]
    rcases (show i = 0 ∨ i = 1 ∨ i = 2 ∨ i = 3 ∨ i = 4 ∨ i = 5 ∨ i = 6 ∨ i = 7 by omega) with rfl | rfl | rfl | rfl | rfl | rfl | rfl | rfl
    · exact vk_R.of (hts (.stringRef "OneWordLetters$Reader" 48 "letter") (List.mem_of_getElem? (i := 422) (by decide +kernel))) (hV 0 (by omega))
    · exact vk_R.of (hts (.stringRef "OneWordLetters$Reader" 67 "word") (List.mem_of_getElem? (i := 491) (by decide +kernel))) (hV 1 (by omega))
    · exact vk_R.of (hts (.stringRef "OneWordLetters$Reader" 72 "frame") (List.mem_of_getElem? (i := 508) (by decide +kernel))) (hV 2 (by omega))
    · exact vk_R.of (hts (.stringRef "OneWordLetters$Reader" 77 "pair") (List.mem_of_getElem? (i := 517) (by decide +kernel))) (hV 3 (by omega))
    · exact vk_R.of (hts (.stringRef "OneWordLetters$Reader" 110 "name") (List.mem_of_getElem? (i := 500) (by decide +kernel))) (hV 4 (by omega))
    · exact vk_R.of (hts (.stringRef "OneWordLetters$Reader" 112 "deed") (List.mem_of_getElem? (i := 501) (by decide +kernel))) (hV 5 (by omega))
    · exact vk_R.of (hts (.stringRef "OneWordLetters$Reader" 114 "link") (List.mem_of_getElem? (i := 502) (by decide +kernel))) (hV 6 (by omega))
    · exact vk_R.of (hts (.stringRef "OneWordLetters$Reader" 116 "turn") (List.mem_of_getElem? (i := 503) (by decide +kernel))) (hV 7 (by omega))
