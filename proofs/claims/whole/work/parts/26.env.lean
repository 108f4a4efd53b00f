/-! THE ENVIRONMENT HOLDS AT THE LAW'S START: printed by wip/whole/gen_env.py -/
theorem na_37 {args : Array Value} {s : State} (h : ∀ c ∈ flatC (Jvm.Cond.and given_1 narrow_1), c.before args s = true) : (Cond.exactly (Term.string "RodDips$Text" (28 : Nat)) "java/lang/String").before args s = true := h _ (List.mem_of_getElem? (i := 39) (by decide +kernel))
theorem na_38 {args : Array Value} {s : State} (h : ∀ c ∈ flatC (Jvm.Cond.and given_1 narrow_1), c.before args s = true) : (Cond.eq (Term.field (Term.string "RodDips$Text" (28 : Nat)) "java/lang/String" "coder" "B") (Term.int (0 : Int32))).before args s = true := h _ (List.mem_of_getElem? (i := 40) (by decide +kernel))
theorem na_39 {args : Array Value} {s : State} (h : ∀ c ∈ flatC (Jvm.Cond.and given_1 narrow_1), c.before args s = true) : (Cond.arrayOf (Term.field (Term.string "RodDips$Text" (28 : Nat)) "java/lang/String" "value" "[B") FieldType.byte).before args s = true := h _ (List.mem_of_getElem? (i := 41) (by decide +kernel))
theorem na_40 {args : Array Value} {s : State} (h : ∀ c ∈ flatC (Jvm.Cond.and given_1 narrow_1), c.before args s = true) : (Cond.eq (Term.length (Term.field (Term.string "RodDips$Text" (28 : Nat)) "java/lang/String" "value" "[B")) (Term.int (5 : Int32))).before args s = true := h _ (List.mem_of_getElem? (i := 42) (by decide +kernel))
theorem na_41 {args : Array Value} {s : State} (h : ∀ c ∈ flatC (Jvm.Cond.and given_1 narrow_1), c.before args s = true) : (Cond.eq (Term.elem (Term.field (Term.string "RodDips$Text" (28 : Nat)) "java/lang/String" "value" "[B") (Term.int (0 : Int32))) (Term.int (112 : Int32))).before args s = true := h _ (List.mem_of_getElem? (i := 43) (by decide +kernel))
theorem na_42 {args : Array Value} {s : State} (h : ∀ c ∈ flatC (Jvm.Cond.and given_1 narrow_1), c.before args s = true) : (Cond.eq (Term.elem (Term.field (Term.string "RodDips$Text" (28 : Nat)) "java/lang/String" "value" "[B") (Term.int (1 : Int32))) (Term.int (100 : Int32))).before args s = true := h _ (List.mem_of_getElem? (i := 44) (by decide +kernel))
theorem na_43 {args : Array Value} {s : State} (h : ∀ c ∈ flatC (Jvm.Cond.and given_1 narrow_1), c.before args s = true) : (Cond.eq (Term.elem (Term.field (Term.string "RodDips$Text" (28 : Nat)) "java/lang/String" "value" "[B") (Term.int (2 : Int32))) (Term.int (107 : Int32))).before args s = true := h _ (List.mem_of_getElem? (i := 45) (by decide +kernel))
theorem na_44 {args : Array Value} {s : State} (h : ∀ c ∈ flatC (Jvm.Cond.and given_1 narrow_1), c.before args s = true) : (Cond.eq (Term.elem (Term.field (Term.string "RodDips$Text" (28 : Nat)) "java/lang/String" "value" "[B") (Term.int (3 : Int32))) (Term.int (109 : Int32))).before args s = true := h _ (List.mem_of_getElem? (i := 46) (by decide +kernel))
theorem na_45 {args : Array Value} {s : State} (h : ∀ c ∈ flatC (Jvm.Cond.and given_1 narrow_1), c.before args s = true) : (Cond.eq (Term.elem (Term.field (Term.string "RodDips$Text" (28 : Nat)) "java/lang/String" "value" "[B") (Term.int (4 : Int32))) (Term.int (108 : Int32))).before args s = true := h _ (List.mem_of_getElem? (i := 47) (by decide +kernel))
theorem na_46 {args : Array Value} {s : State} (h : ∀ c ∈ flatC (Jvm.Cond.and given_1 narrow_1), c.before args s = true) : (Cond.exactly (Term.string "RodDips$Text" (30 : Nat)) "java/lang/String").before args s = true := h _ (List.mem_of_getElem? (i := 48) (by decide +kernel))
theorem na_47 {args : Array Value} {s : State} (h : ∀ c ∈ flatC (Jvm.Cond.and given_1 narrow_1), c.before args s = true) : (Cond.eq (Term.field (Term.string "RodDips$Text" (30 : Nat)) "java/lang/String" "coder" "B") (Term.int (0 : Int32))).before args s = true := h _ (List.mem_of_getElem? (i := 49) (by decide +kernel))
theorem na_48 {args : Array Value} {s : State} (h : ∀ c ∈ flatC (Jvm.Cond.and given_1 narrow_1), c.before args s = true) : (Cond.arrayOf (Term.field (Term.string "RodDips$Text" (30 : Nat)) "java/lang/String" "value" "[B") FieldType.byte).before args s = true := h _ (List.mem_of_getElem? (i := 50) (by decide +kernel))
theorem na_49 {args : Array Value} {s : State} (h : ∀ c ∈ flatC (Jvm.Cond.and given_1 narrow_1), c.before args s = true) : (Cond.eq (Term.length (Term.field (Term.string "RodDips$Text" (30 : Nat)) "java/lang/String" "value" "[B")) (Term.int (7 : Int32))).before args s = true := h _ (List.mem_of_getElem? (i := 51) (by decide +kernel))
theorem na_50 {args : Array Value} {s : State} (h : ∀ c ∈ flatC (Jvm.Cond.and given_1 narrow_1), c.before args s = true) : (Cond.eq (Term.elem (Term.field (Term.string "RodDips$Text" (30 : Nat)) "java/lang/String" "value" "[B") (Term.int (0 : Int32))) (Term.int (109 : Int32))).before args s = true := h _ (List.mem_of_getElem? (i := 52) (by decide +kernel))
theorem na_51 {args : Array Value} {s : State} (h : ∀ c ∈ flatC (Jvm.Cond.and given_1 narrow_1), c.before args s = true) : (Cond.eq (Term.elem (Term.field (Term.string "RodDips$Text" (30 : Nat)) "java/lang/String" "value" "[B") (Term.int (1 : Int32))) (Term.int (100 : Int32))).before args s = true := h _ (List.mem_of_getElem? (i := 53) (by decide +kernel))
theorem na_52 {args : Array Value} {s : State} (h : ∀ c ∈ flatC (Jvm.Cond.and given_1 narrow_1), c.before args s = true) : (Cond.eq (Term.elem (Term.field (Term.string "RodDips$Text" (30 : Nat)) "java/lang/String" "value" "[B") (Term.int (2 : Int32))) (Term.int (107 : Int32))).before args s = true := h _ (List.mem_of_getElem? (i := 54) (by decide +kernel))
theorem na_53 {args : Array Value} {s : State} (h : ∀ c ∈ flatC (Jvm.Cond.and given_1 narrow_1), c.before args s = true) : (Cond.eq (Term.elem (Term.field (Term.string "RodDips$Text" (30 : Nat)) "java/lang/String" "value" "[B") (Term.int (3 : Int32))) (Term.int (120 : Int32))).before args s = true := h _ (List.mem_of_getElem? (i := 55) (by decide +kernel))
theorem na_54 {args : Array Value} {s : State} (h : ∀ c ∈ flatC (Jvm.Cond.and given_1 narrow_1), c.before args s = true) : (Cond.eq (Term.elem (Term.field (Term.string "RodDips$Text" (30 : Nat)) "java/lang/String" "value" "[B") (Term.int (4 : Int32))) (Term.int (116 : Int32))).before args s = true := h _ (List.mem_of_getElem? (i := 56) (by decide +kernel))
theorem na_55 {args : Array Value} {s : State} (h : ∀ c ∈ flatC (Jvm.Cond.and given_1 narrow_1), c.before args s = true) : (Cond.eq (Term.elem (Term.field (Term.string "RodDips$Text" (30 : Nat)) "java/lang/String" "value" "[B") (Term.int (5 : Int32))) (Term.int (115 : Int32))).before args s = true := h _ (List.mem_of_getElem? (i := 57) (by decide +kernel))
theorem na_56 {args : Array Value} {s : State} (h : ∀ c ∈ flatC (Jvm.Cond.and given_1 narrow_1), c.before args s = true) : (Cond.eq (Term.elem (Term.field (Term.string "RodDips$Text" (30 : Nat)) "java/lang/String" "value" "[B") (Term.int (6 : Int32))) (Term.int (110 : Int32))).before args s = true := h _ (List.mem_of_getElem? (i := 58) (by decide +kernel))
theorem na_58 {args : Array Value} {s : State} (h : ∀ c ∈ flatC (Jvm.Cond.and given_1 narrow_1), c.before args s = true) : (Cond.exactly (Term.string "RodDips$Text" (52 : Nat)) "java/lang/String").before args s = true := h _ (List.mem_of_getElem? (i := 60) (by decide +kernel))
theorem na_59 {args : Array Value} {s : State} (h : ∀ c ∈ flatC (Jvm.Cond.and given_1 narrow_1), c.before args s = true) : (Cond.eq (Term.field (Term.string "RodDips$Text" (52 : Nat)) "java/lang/String" "coder" "B") (Term.int (0 : Int32))).before args s = true := h _ (List.mem_of_getElem? (i := 61) (by decide +kernel))
theorem na_60 {args : Array Value} {s : State} (h : ∀ c ∈ flatC (Jvm.Cond.and given_1 narrow_1), c.before args s = true) : (Cond.arrayOf (Term.field (Term.string "RodDips$Text" (52 : Nat)) "java/lang/String" "value" "[B") FieldType.byte).before args s = true := h _ (List.mem_of_getElem? (i := 62) (by decide +kernel))
theorem na_61 {args : Array Value} {s : State} (h : ∀ c ∈ flatC (Jvm.Cond.and given_1 narrow_1), c.before args s = true) : (Cond.eq (Term.length (Term.field (Term.string "RodDips$Text" (52 : Nat)) "java/lang/String" "value" "[B")) (Term.int (0 : Int32))).before args s = true := h _ (List.mem_of_getElem? (i := 63) (by decide +kernel))
theorem na_64 {args : Array Value} {s : State} (h : ∀ c ∈ flatC (Jvm.Cond.and given_1 narrow_1), c.before args s = true) : (Cond.exactly (Term.string "RodDips$Text" (54 : Nat)) "java/lang/String").before args s = true := h _ (List.mem_of_getElem? (i := 66) (by decide +kernel))
theorem na_65 {args : Array Value} {s : State} (h : ∀ c ∈ flatC (Jvm.Cond.and given_1 narrow_1), c.before args s = true) : (Cond.eq (Term.field (Term.string "RodDips$Text" (54 : Nat)) "java/lang/String" "coder" "B") (Term.int (0 : Int32))).before args s = true := h _ (List.mem_of_getElem? (i := 67) (by decide +kernel))
theorem na_66 {args : Array Value} {s : State} (h : ∀ c ∈ flatC (Jvm.Cond.and given_1 narrow_1), c.before args s = true) : (Cond.arrayOf (Term.field (Term.string "RodDips$Text" (54 : Nat)) "java/lang/String" "value" "[B") FieldType.byte).before args s = true := h _ (List.mem_of_getElem? (i := 68) (by decide +kernel))
theorem na_67 {args : Array Value} {s : State} (h : ∀ c ∈ flatC (Jvm.Cond.and given_1 narrow_1), c.before args s = true) : (Cond.eq (Term.length (Term.field (Term.string "RodDips$Text" (54 : Nat)) "java/lang/String" "value" "[B")) (Term.int (4 : Int32))).before args s = true := h _ (List.mem_of_getElem? (i := 69) (by decide +kernel))
theorem na_68 {args : Array Value} {s : State} (h : ∀ c ∈ flatC (Jvm.Cond.and given_1 narrow_1), c.before args s = true) : (Cond.eq (Term.elem (Term.field (Term.string "RodDips$Text" (54 : Nat)) "java/lang/String" "value" "[B") (Term.int (0 : Int32))) (Term.int (104 : Int32))).before args s = true := h _ (List.mem_of_getElem? (i := 70) (by decide +kernel))
theorem na_69 {args : Array Value} {s : State} (h : ∀ c ∈ flatC (Jvm.Cond.and given_1 narrow_1), c.before args s = true) : (Cond.eq (Term.elem (Term.field (Term.string "RodDips$Text" (54 : Nat)) "java/lang/String" "value" "[B") (Term.int (1 : Int32))) (Term.int (105 : Int32))).before args s = true := h _ (List.mem_of_getElem? (i := 71) (by decide +kernel))
theorem na_70 {args : Array Value} {s : State} (h : ∀ c ∈ flatC (Jvm.Cond.and given_1 narrow_1), c.before args s = true) : (Cond.eq (Term.elem (Term.field (Term.string "RodDips$Text" (54 : Nat)) "java/lang/String" "value" "[B") (Term.int (2 : Int32))) (Term.int (116 : Int32))).before args s = true := h _ (List.mem_of_getElem? (i := 72) (by decide +kernel))
theorem na_71 {args : Array Value} {s : State} (h : ∀ c ∈ flatC (Jvm.Cond.and given_1 narrow_1), c.before args s = true) : (Cond.eq (Term.elem (Term.field (Term.string "RodDips$Text" (54 : Nat)) "java/lang/String" "value" "[B") (Term.int (3 : Int32))) (Term.int (32 : Int32))).before args s = true := h _ (List.mem_of_getElem? (i := 73) (by decide +kernel))
theorem na_75 {args : Array Value} {s : State} (h : ∀ c ∈ flatC (Jvm.Cond.and given_1 narrow_1), c.before args s = true) : (Cond.exactly (Term.string "RodDips$Text" (56 : Nat)) "java/lang/String").before args s = true := h _ (List.mem_of_getElem? (i := 77) (by decide +kernel))
theorem na_76 {args : Array Value} {s : State} (h : ∀ c ∈ flatC (Jvm.Cond.and given_1 narrow_1), c.before args s = true) : (Cond.eq (Term.field (Term.string "RodDips$Text" (56 : Nat)) "java/lang/String" "coder" "B") (Term.int (0 : Int32))).before args s = true := h _ (List.mem_of_getElem? (i := 78) (by decide +kernel))
theorem na_77 {args : Array Value} {s : State} (h : ∀ c ∈ flatC (Jvm.Cond.and given_1 narrow_1), c.before args s = true) : (Cond.arrayOf (Term.field (Term.string "RodDips$Text" (56 : Nat)) "java/lang/String" "value" "[B") FieldType.byte).before args s = true := h _ (List.mem_of_getElem? (i := 79) (by decide +kernel))
theorem na_78 {args : Array Value} {s : State} (h : ∀ c ∈ flatC (Jvm.Cond.and given_1 narrow_1), c.before args s = true) : (Cond.eq (Term.length (Term.field (Term.string "RodDips$Text" (56 : Nat)) "java/lang/String" "value" "[B")) (Term.int (5 : Int32))).before args s = true := h _ (List.mem_of_getElem? (i := 80) (by decide +kernel))
theorem na_79 {args : Array Value} {s : State} (h : ∀ c ∈ flatC (Jvm.Cond.and given_1 narrow_1), c.before args s = true) : (Cond.eq (Term.elem (Term.field (Term.string "RodDips$Text" (56 : Nat)) "java/lang/String" "value" "[B") (Term.int (0 : Int32))) (Term.int (110 : Int32))).before args s = true := h _ (List.mem_of_getElem? (i := 81) (by decide +kernel))
theorem na_80 {args : Array Value} {s : State} (h : ∀ c ∈ flatC (Jvm.Cond.and given_1 narrow_1), c.before args s = true) : (Cond.eq (Term.elem (Term.field (Term.string "RodDips$Text" (56 : Nat)) "java/lang/String" "value" "[B") (Term.int (1 : Int32))) (Term.int (101 : Int32))).before args s = true := h _ (List.mem_of_getElem? (i := 82) (by decide +kernel))
theorem na_81 {args : Array Value} {s : State} (h : ∀ c ∈ flatC (Jvm.Cond.and given_1 narrow_1), c.before args s = true) : (Cond.eq (Term.elem (Term.field (Term.string "RodDips$Text" (56 : Nat)) "java/lang/String" "value" "[B") (Term.int (2 : Int32))) (Term.int (97 : Int32))).before args s = true := h _ (List.mem_of_getElem? (i := 83) (by decide +kernel))
theorem na_82 {args : Array Value} {s : State} (h : ∀ c ∈ flatC (Jvm.Cond.and given_1 narrow_1), c.before args s = true) : (Cond.eq (Term.elem (Term.field (Term.string "RodDips$Text" (56 : Nat)) "java/lang/String" "value" "[B") (Term.int (3 : Int32))) (Term.int (114 : Int32))).before args s = true := h _ (List.mem_of_getElem? (i := 84) (by decide +kernel))
theorem na_83 {args : Array Value} {s : State} (h : ∀ c ∈ flatC (Jvm.Cond.and given_1 narrow_1), c.before args s = true) : (Cond.eq (Term.elem (Term.field (Term.string "RodDips$Text" (56 : Nat)) "java/lang/String" "value" "[B") (Term.int (4 : Int32))) (Term.int (32 : Int32))).before args s = true := h _ (List.mem_of_getElem? (i := 85) (by decide +kernel))
theorem na_88 {args : Array Value} {s : State} (h : ∀ c ∈ flatC (Jvm.Cond.and given_1 narrow_1), c.before args s = true) : (Cond.exactly (Term.string "RodDips$Text" (58 : Nat)) "java/lang/String").before args s = true := h _ (List.mem_of_getElem? (i := 90) (by decide +kernel))
theorem na_89 {args : Array Value} {s : State} (h : ∀ c ∈ flatC (Jvm.Cond.and given_1 narrow_1), c.before args s = true) : (Cond.eq (Term.field (Term.string "RodDips$Text" (58 : Nat)) "java/lang/String" "coder" "B") (Term.int (0 : Int32))).before args s = true := h _ (List.mem_of_getElem? (i := 91) (by decide +kernel))
theorem na_90 {args : Array Value} {s : State} (h : ∀ c ∈ flatC (Jvm.Cond.and given_1 narrow_1), c.before args s = true) : (Cond.arrayOf (Term.field (Term.string "RodDips$Text" (58 : Nat)) "java/lang/String" "value" "[B") FieldType.byte).before args s = true := h _ (List.mem_of_getElem? (i := 92) (by decide +kernel))
theorem na_91 {args : Array Value} {s : State} (h : ∀ c ∈ flatC (Jvm.Cond.and given_1 narrow_1), c.before args s = true) : (Cond.eq (Term.length (Term.field (Term.string "RodDips$Text" (58 : Nat)) "java/lang/String" "value" "[B")) (Term.int (5 : Int32))).before args s = true := h _ (List.mem_of_getElem? (i := 93) (by decide +kernel))
theorem na_92 {args : Array Value} {s : State} (h : ∀ c ∈ flatC (Jvm.Cond.and given_1 narrow_1), c.before args s = true) : (Cond.eq (Term.elem (Term.field (Term.string "RodDips$Text" (58 : Nat)) "java/lang/String" "value" "[B") (Term.int (0 : Int32))) (Term.int (110 : Int32))).before args s = true := h _ (List.mem_of_getElem? (i := 94) (by decide +kernel))
theorem na_93 {args : Array Value} {s : State} (h : ∀ c ∈ flatC (Jvm.Cond.and given_1 narrow_1), c.before args s = true) : (Cond.eq (Term.elem (Term.field (Term.string "RodDips$Text" (58 : Nat)) "java/lang/String" "value" "[B") (Term.int (1 : Int32))) (Term.int (101 : Int32))).before args s = true := h _ (List.mem_of_getElem? (i := 95) (by decide +kernel))
theorem na_94 {args : Array Value} {s : State} (h : ∀ c ∈ flatC (Jvm.Cond.and given_1 narrow_1), c.before args s = true) : (Cond.eq (Term.elem (Term.field (Term.string "RodDips$Text" (58 : Nat)) "java/lang/String" "value" "[B") (Term.int (2 : Int32))) (Term.int (101 : Int32))).before args s = true := h _ (List.mem_of_getElem? (i := 96) (by decide +kernel))
theorem na_95 {args : Array Value} {s : State} (h : ∀ c ∈ flatC (Jvm.Cond.and given_1 narrow_1), c.before args s = true) : (Cond.eq (Term.elem (Term.field (Term.string "RodDips$Text" (58 : Nat)) "java/lang/String" "value" "[B") (Term.int (3 : Int32))) (Term.int (100 : Int32))).before args s = true := h _ (List.mem_of_getElem? (i := 97) (by decide +kernel))
theorem na_96 {args : Array Value} {s : State} (h : ∀ c ∈ flatC (Jvm.Cond.and given_1 narrow_1), c.before args s = true) : (Cond.eq (Term.elem (Term.field (Term.string "RodDips$Text" (58 : Nat)) "java/lang/String" "value" "[B") (Term.int (4 : Int32))) (Term.int (32 : Int32))).before args s = true := h _ (List.mem_of_getElem? (i := 98) (by decide +kernel))
theorem na_102 {args : Array Value} {s : State} (h : ∀ c ∈ flatC (Jvm.Cond.and given_1 narrow_1), c.before args s = true) : (Cond.exactly (Term.string "RodDips$Text" (60 : Nat)) "java/lang/String").before args s = true := h _ (List.mem_of_getElem? (i := 104) (by decide +kernel))
theorem na_103 {args : Array Value} {s : State} (h : ∀ c ∈ flatC (Jvm.Cond.and given_1 narrow_1), c.before args s = true) : (Cond.eq (Term.field (Term.string "RodDips$Text" (60 : Nat)) "java/lang/String" "coder" "B") (Term.int (0 : Int32))).before args s = true := h _ (List.mem_of_getElem? (i := 105) (by decide +kernel))
theorem na_104 {args : Array Value} {s : State} (h : ∀ c ∈ flatC (Jvm.Cond.and given_1 narrow_1), c.before args s = true) : (Cond.arrayOf (Term.field (Term.string "RodDips$Text" (60 : Nat)) "java/lang/String" "value" "[B") FieldType.byte).before args s = true := h _ (List.mem_of_getElem? (i := 106) (by decide +kernel))
theorem na_105 {args : Array Value} {s : State} (h : ∀ c ∈ flatC (Jvm.Cond.and given_1 narrow_1), c.before args s = true) : (Cond.eq (Term.length (Term.field (Term.string "RodDips$Text" (60 : Nat)) "java/lang/String" "value" "[B")) (Term.int (5 : Int32))).before args s = true := h _ (List.mem_of_getElem? (i := 107) (by decide +kernel))
theorem na_106 {args : Array Value} {s : State} (h : ∀ c ∈ flatC (Jvm.Cond.and given_1 narrow_1), c.before args s = true) : (Cond.eq (Term.elem (Term.field (Term.string "RodDips$Text" (60 : Nat)) "java/lang/String" "value" "[B") (Term.int (0 : Int32))) (Term.int (116 : Int32))).before args s = true := h _ (List.mem_of_getElem? (i := 108) (by decide +kernel))
theorem na_107 {args : Array Value} {s : State} (h : ∀ c ∈ flatC (Jvm.Cond.and given_1 narrow_1), c.before args s = true) : (Cond.eq (Term.elem (Term.field (Term.string "RodDips$Text" (60 : Nat)) "java/lang/String" "value" "[B") (Term.int (1 : Int32))) (Term.int (97 : Int32))).before args s = true := h _ (List.mem_of_getElem? (i := 109) (by decide +kernel))
theorem na_108 {args : Array Value} {s : State} (h : ∀ c ∈ flatC (Jvm.Cond.and given_1 narrow_1), c.before args s = true) : (Cond.eq (Term.elem (Term.field (Term.string "RodDips$Text" (60 : Nat)) "java/lang/String" "value" "[B") (Term.int (2 : Int32))) (Term.int (107 : Int32))).before args s = true := h _ (List.mem_of_getElem? (i := 110) (by decide +kernel))
theorem na_109 {args : Array Value} {s : State} (h : ∀ c ∈ flatC (Jvm.Cond.and given_1 narrow_1), c.before args s = true) : (Cond.eq (Term.elem (Term.field (Term.string "RodDips$Text" (60 : Nat)) "java/lang/String" "value" "[B") (Term.int (3 : Int32))) (Term.int (101 : Int32))).before args s = true := h _ (List.mem_of_getElem? (i := 111) (by decide +kernel))
theorem na_110 {args : Array Value} {s : State} (h : ∀ c ∈ flatC (Jvm.Cond.and given_1 narrow_1), c.before args s = true) : (Cond.eq (Term.elem (Term.field (Term.string "RodDips$Text" (60 : Nat)) "java/lang/String" "value" "[B") (Term.int (4 : Int32))) (Term.int (32 : Int32))).before args s = true := h _ (List.mem_of_getElem? (i := 112) (by decide +kernel))
theorem na_117 {args : Array Value} {s : State} (h : ∀ c ∈ flatC (Jvm.Cond.and given_1 narrow_1), c.before args s = true) : (Cond.exactly (Term.string "RodDips$Text" (62 : Nat)) "java/lang/String").before args s = true := h _ (List.mem_of_getElem? (i := 119) (by decide +kernel))
theorem na_118 {args : Array Value} {s : State} (h : ∀ c ∈ flatC (Jvm.Cond.and given_1 narrow_1), c.before args s = true) : (Cond.eq (Term.field (Term.string "RodDips$Text" (62 : Nat)) "java/lang/String" "coder" "B") (Term.int (0 : Int32))).before args s = true := h _ (List.mem_of_getElem? (i := 120) (by decide +kernel))
theorem na_119 {args : Array Value} {s : State} (h : ∀ c ∈ flatC (Jvm.Cond.and given_1 narrow_1), c.before args s = true) : (Cond.arrayOf (Term.field (Term.string "RodDips$Text" (62 : Nat)) "java/lang/String" "value" "[B") FieldType.byte).before args s = true := h _ (List.mem_of_getElem? (i := 121) (by decide +kernel))
theorem na_120 {args : Array Value} {s : State} (h : ∀ c ∈ flatC (Jvm.Cond.and given_1 narrow_1), c.before args s = true) : (Cond.eq (Term.length (Term.field (Term.string "RodDips$Text" (62 : Nat)) "java/lang/String" "value" "[B")) (Term.int (5 : Int32))).before args s = true := h _ (List.mem_of_getElem? (i := 122) (by decide +kernel))
theorem na_121 {args : Array Value} {s : State} (h : ∀ c ∈ flatC (Jvm.Cond.and given_1 narrow_1), c.before args s = true) : (Cond.eq (Term.elem (Term.field (Term.string "RodDips$Text" (62 : Nat)) "java/lang/String" "value" "[B") (Term.int (0 : Int32))) (Term.int (100 : Int32))).before args s = true := h _ (List.mem_of_getElem? (i := 123) (by decide +kernel))
theorem na_122 {args : Array Value} {s : State} (h : ∀ c ∈ flatC (Jvm.Cond.and given_1 narrow_1), c.before args s = true) : (Cond.eq (Term.elem (Term.field (Term.string "RodDips$Text" (62 : Nat)) "java/lang/String" "value" "[B") (Term.int (1 : Int32))) (Term.int (114 : Int32))).before args s = true := h _ (List.mem_of_getElem? (i := 124) (by decide +kernel))
theorem na_123 {args : Array Value} {s : State} (h : ∀ c ∈ flatC (Jvm.Cond.and given_1 narrow_1), c.before args s = true) : (Cond.eq (Term.elem (Term.field (Term.string "RodDips$Text" (62 : Nat)) "java/lang/String" "value" "[B") (Term.int (2 : Int32))) (Term.int (111 : Int32))).before args s = true := h _ (List.mem_of_getElem? (i := 125) (by decide +kernel))
theorem na_124 {args : Array Value} {s : State} (h : ∀ c ∈ flatC (Jvm.Cond.and given_1 narrow_1), c.before args s = true) : (Cond.eq (Term.elem (Term.field (Term.string "RodDips$Text" (62 : Nat)) "java/lang/String" "value" "[B") (Term.int (3 : Int32))) (Term.int (112 : Int32))).before args s = true := h _ (List.mem_of_getElem? (i := 126) (by decide +kernel))
theorem na_125 {args : Array Value} {s : State} (h : ∀ c ∈ flatC (Jvm.Cond.and given_1 narrow_1), c.before args s = true) : (Cond.eq (Term.elem (Term.field (Term.string "RodDips$Text" (62 : Nat)) "java/lang/String" "value" "[B") (Term.int (4 : Int32))) (Term.int (32 : Int32))).before args s = true := h _ (List.mem_of_getElem? (i := 127) (by decide +kernel))
theorem na_133 {args : Array Value} {s : State} (h : ∀ c ∈ flatC (Jvm.Cond.and given_1 narrow_1), c.before args s = true) : (Cond.exactly (Term.string "RodDips$Text" (64 : Nat)) "java/lang/String").before args s = true := h _ (List.mem_of_getElem? (i := 135) (by decide +kernel))
theorem na_134 {args : Array Value} {s : State} (h : ∀ c ∈ flatC (Jvm.Cond.and given_1 narrow_1), c.before args s = true) : (Cond.eq (Term.field (Term.string "RodDips$Text" (64 : Nat)) "java/lang/String" "coder" "B") (Term.int (0 : Int32))).before args s = true := h _ (List.mem_of_getElem? (i := 136) (by decide +kernel))
theorem na_135 {args : Array Value} {s : State} (h : ∀ c ∈ flatC (Jvm.Cond.and given_1 narrow_1), c.before args s = true) : (Cond.arrayOf (Term.field (Term.string "RodDips$Text" (64 : Nat)) "java/lang/String" "value" "[B") FieldType.byte).before args s = true := h _ (List.mem_of_getElem? (i := 137) (by decide +kernel))
theorem na_136 {args : Array Value} {s : State} (h : ∀ c ∈ flatC (Jvm.Cond.and given_1 narrow_1), c.before args s = true) : (Cond.eq (Term.length (Term.field (Term.string "RodDips$Text" (64 : Nat)) "java/lang/String" "value" "[B")) (Term.int (3 : Int32))).before args s = true := h _ (List.mem_of_getElem? (i := 138) (by decide +kernel))
theorem na_137 {args : Array Value} {s : State} (h : ∀ c ∈ flatC (Jvm.Cond.and given_1 narrow_1), c.before args s = true) : (Cond.eq (Term.elem (Term.field (Term.string "RodDips$Text" (64 : Nat)) "java/lang/String" "value" "[B") (Term.int (0 : Int32))) (Term.int (97 : Int32))).before args s = true := h _ (List.mem_of_getElem? (i := 139) (by decide +kernel))
theorem na_138 {args : Array Value} {s : State} (h : ∀ c ∈ flatC (Jvm.Cond.and given_1 narrow_1), c.before args s = true) : (Cond.eq (Term.elem (Term.field (Term.string "RodDips$Text" (64 : Nat)) "java/lang/String" "value" "[B") (Term.int (1 : Int32))) (Term.int (116 : Int32))).before args s = true := h _ (List.mem_of_getElem? (i := 140) (by decide +kernel))
theorem na_139 {args : Array Value} {s : State} (h : ∀ c ∈ flatC (Jvm.Cond.and given_1 narrow_1), c.before args s = true) : (Cond.eq (Term.elem (Term.field (Term.string "RodDips$Text" (64 : Nat)) "java/lang/String" "value" "[B") (Term.int (2 : Int32))) (Term.int (32 : Int32))).before args s = true := h _ (List.mem_of_getElem? (i := 141) (by decide +kernel))
theorem na_148 {args : Array Value} {s : State} (h : ∀ c ∈ flatC (Jvm.Cond.and given_1 narrow_1), c.before args s = true) : (Cond.exactly (Term.string "RodDips$Text" (66 : Nat)) "java/lang/String").before args s = true := h _ (List.mem_of_getElem? (i := 150) (by decide +kernel))
theorem na_149 {args : Array Value} {s : State} (h : ∀ c ∈ flatC (Jvm.Cond.and given_1 narrow_1), c.before args s = true) : (Cond.eq (Term.field (Term.string "RodDips$Text" (66 : Nat)) "java/lang/String" "coder" "B") (Term.int (0 : Int32))).before args s = true := h _ (List.mem_of_getElem? (i := 151) (by decide +kernel))
theorem na_150 {args : Array Value} {s : State} (h : ∀ c ∈ flatC (Jvm.Cond.and given_1 narrow_1), c.before args s = true) : (Cond.arrayOf (Term.field (Term.string "RodDips$Text" (66 : Nat)) "java/lang/String" "value" "[B") FieldType.byte).before args s = true := h _ (List.mem_of_getElem? (i := 152) (by decide +kernel))
theorem na_151 {args : Array Value} {s : State} (h : ∀ c ∈ flatC (Jvm.Cond.and given_1 narrow_1), c.before args s = true) : (Cond.eq (Term.length (Term.field (Term.string "RodDips$Text" (66 : Nat)) "java/lang/String" "value" "[B")) (Term.int (3 : Int32))).before args s = true := h _ (List.mem_of_getElem? (i := 153) (by decide +kernel))
theorem na_152 {args : Array Value} {s : State} (h : ∀ c ∈ flatC (Jvm.Cond.and given_1 narrow_1), c.before args s = true) : (Cond.eq (Term.elem (Term.field (Term.string "RodDips$Text" (66 : Nat)) "java/lang/String" "value" "[B") (Term.int (0 : Int32))) (Term.int (98 : Int32))).before args s = true := h _ (List.mem_of_getElem? (i := 154) (by decide +kernel))
theorem na_153 {args : Array Value} {s : State} (h : ∀ c ∈ flatC (Jvm.Cond.and given_1 narrow_1), c.before args s = true) : (Cond.eq (Term.elem (Term.field (Term.string "RodDips$Text" (66 : Nat)) "java/lang/String" "value" "[B") (Term.int (1 : Int32))) (Term.int (121 : Int32))).before args s = true := h _ (List.mem_of_getElem? (i := 155) (by decide +kernel))
theorem na_154 {args : Array Value} {s : State} (h : ∀ c ∈ flatC (Jvm.Cond.and given_1 narrow_1), c.before args s = true) : (Cond.eq (Term.elem (Term.field (Term.string "RodDips$Text" (66 : Nat)) "java/lang/String" "value" "[B") (Term.int (2 : Int32))) (Term.int (32 : Int32))).before args s = true := h _ (List.mem_of_getElem? (i := 156) (by decide +kernel))
theorem na_164 {args : Array Value} {s : State} (h : ∀ c ∈ flatC (Jvm.Cond.and given_1 narrow_1), c.before args s = true) : (Cond.exactly (Term.string "RodDips$Text" (68 : Nat)) "java/lang/String").before args s = true := h _ (List.mem_of_getElem? (i := 166) (by decide +kernel))
theorem na_165 {args : Array Value} {s : State} (h : ∀ c ∈ flatC (Jvm.Cond.and given_1 narrow_1), c.before args s = true) : (Cond.eq (Term.field (Term.string "RodDips$Text" (68 : Nat)) "java/lang/String" "coder" "B") (Term.int (0 : Int32))).before args s = true := h _ (List.mem_of_getElem? (i := 167) (by decide +kernel))
theorem na_166 {args : Array Value} {s : State} (h : ∀ c ∈ flatC (Jvm.Cond.and given_1 narrow_1), c.before args s = true) : (Cond.arrayOf (Term.field (Term.string "RodDips$Text" (68 : Nat)) "java/lang/String" "value" "[B") FieldType.byte).before args s = true := h _ (List.mem_of_getElem? (i := 168) (by decide +kernel))
theorem na_167 {args : Array Value} {s : State} (h : ∀ c ∈ flatC (Jvm.Cond.and given_1 narrow_1), c.before args s = true) : (Cond.eq (Term.length (Term.field (Term.string "RodDips$Text" (68 : Nat)) "java/lang/String" "value" "[B")) (Term.int (4 : Int32))).before args s = true := h _ (List.mem_of_getElem? (i := 169) (by decide +kernel))
theorem na_168 {args : Array Value} {s : State} (h : ∀ c ∈ flatC (Jvm.Cond.and given_1 narrow_1), c.before args s = true) : (Cond.eq (Term.elem (Term.field (Term.string "RodDips$Text" (68 : Nat)) "java/lang/String" "value" "[B") (Term.int (0 : Int32))) (Term.int (111 : Int32))).before args s = true := h _ (List.mem_of_getElem? (i := 170) (by decide +kernel))
theorem na_169 {args : Array Value} {s : State} (h : ∀ c ∈ flatC (Jvm.Cond.and given_1 narrow_1), c.before args s = true) : (Cond.eq (Term.elem (Term.field (Term.string "RodDips$Text" (68 : Nat)) "java/lang/String" "value" "[B") (Term.int (1 : Int32))) (Term.int (102 : Int32))).before args s = true := h _ (List.mem_of_getElem? (i := 171) (by decide +kernel))
theorem na_170 {args : Array Value} {s : State} (h : ∀ c ∈ flatC (Jvm.Cond.and given_1 narrow_1), c.before args s = true) : (Cond.eq (Term.elem (Term.field (Term.string "RodDips$Text" (68 : Nat)) "java/lang/String" "value" "[B") (Term.int (2 : Int32))) (Term.int (102 : Int32))).before args s = true := h _ (List.mem_of_getElem? (i := 172) (by decide +kernel))
theorem na_171 {args : Array Value} {s : State} (h : ∀ c ∈ flatC (Jvm.Cond.and given_1 narrow_1), c.before args s = true) : (Cond.eq (Term.elem (Term.field (Term.string "RodDips$Text" (68 : Nat)) "java/lang/String" "value" "[B") (Term.int (3 : Int32))) (Term.int (32 : Int32))).before args s = true := h _ (List.mem_of_getElem? (i := 173) (by decide +kernel))
theorem na_182 {args : Array Value} {s : State} (h : ∀ c ∈ flatC (Jvm.Cond.and given_1 narrow_1), c.before args s = true) : (Cond.exactly (Term.string "RodDips$Tape" (76 : Nat)) "java/lang/String").before args s = true := h _ (List.mem_of_getElem? (i := 184) (by decide +kernel))
theorem na_183 {args : Array Value} {s : State} (h : ∀ c ∈ flatC (Jvm.Cond.and given_1 narrow_1), c.before args s = true) : (Cond.eq (Term.field (Term.string "RodDips$Tape" (76 : Nat)) "java/lang/String" "coder" "B") (Term.int (0 : Int32))).before args s = true := h _ (List.mem_of_getElem? (i := 185) (by decide +kernel))
theorem na_184 {args : Array Value} {s : State} (h : ∀ c ∈ flatC (Jvm.Cond.and given_1 narrow_1), c.before args s = true) : (Cond.arrayOf (Term.field (Term.string "RodDips$Tape" (76 : Nat)) "java/lang/String" "value" "[B") FieldType.byte).before args s = true := h _ (List.mem_of_getElem? (i := 186) (by decide +kernel))
theorem na_185 {args : Array Value} {s : State} (h : ∀ c ∈ flatC (Jvm.Cond.and given_1 narrow_1), c.before args s = true) : (Cond.eq (Term.length (Term.field (Term.string "RodDips$Tape" (76 : Nat)) "java/lang/String" "value" "[B")) (Term.int (1 : Int32))).before args s = true := h _ (List.mem_of_getElem? (i := 187) (by decide +kernel))
theorem na_186 {args : Array Value} {s : State} (h : ∀ c ∈ flatC (Jvm.Cond.and given_1 narrow_1), c.before args s = true) : (Cond.eq (Term.elem (Term.field (Term.string "RodDips$Tape" (76 : Nat)) "java/lang/String" "value" "[B") (Term.int (0 : Int32))) (Term.int (32 : Int32))).before args s = true := h _ (List.mem_of_getElem? (i := 188) (by decide +kernel))
theorem na_198 {args : Array Value} {s : State} (h : ∀ c ∈ flatC (Jvm.Cond.and given_1 narrow_1), c.before args s = true) : (Cond.exactly (Term.string "RodDips$Tape" (112 : Nat)) "java/lang/String").before args s = true := h _ (List.mem_of_getElem? (i := 200) (by decide +kernel))
theorem na_199 {args : Array Value} {s : State} (h : ∀ c ∈ flatC (Jvm.Cond.and given_1 narrow_1), c.before args s = true) : (Cond.eq (Term.field (Term.string "RodDips$Tape" (112 : Nat)) "java/lang/String" "coder" "B") (Term.int (0 : Int32))).before args s = true := h _ (List.mem_of_getElem? (i := 201) (by decide +kernel))
theorem na_200 {args : Array Value} {s : State} (h : ∀ c ∈ flatC (Jvm.Cond.and given_1 narrow_1), c.before args s = true) : (Cond.arrayOf (Term.field (Term.string "RodDips$Tape" (112 : Nat)) "java/lang/String" "value" "[B") FieldType.byte).before args s = true := h _ (List.mem_of_getElem? (i := 202) (by decide +kernel))
theorem na_201 {args : Array Value} {s : State} (h : ∀ c ∈ flatC (Jvm.Cond.and given_1 narrow_1), c.before args s = true) : (Cond.eq (Term.length (Term.field (Term.string "RodDips$Tape" (112 : Nat)) "java/lang/String" "value" "[B")) (Term.int (3 : Int32))).before args s = true := h _ (List.mem_of_getElem? (i := 203) (by decide +kernel))
theorem na_202 {args : Array Value} {s : State} (h : ∀ c ∈ flatC (Jvm.Cond.and given_1 narrow_1), c.before args s = true) : (Cond.eq (Term.elem (Term.field (Term.string "RodDips$Tape" (112 : Nat)) "java/lang/String" "value" "[B") (Term.int (0 : Int32))) (Term.int (60 : Int32))).before args s = true := h _ (List.mem_of_getElem? (i := 204) (by decide +kernel))
theorem na_203 {args : Array Value} {s : State} (h : ∀ c ∈ flatC (Jvm.Cond.and given_1 narrow_1), c.before args s = true) : (Cond.eq (Term.elem (Term.field (Term.string "RodDips$Tape" (112 : Nat)) "java/lang/String" "value" "[B") (Term.int (1 : Int32))) (Term.int (61 : Int32))).before args s = true := h _ (List.mem_of_getElem? (i := 205) (by decide +kernel))
theorem na_204 {args : Array Value} {s : State} (h : ∀ c ∈ flatC (Jvm.Cond.and given_1 narrow_1), c.before args s = true) : (Cond.eq (Term.elem (Term.field (Term.string "RodDips$Tape" (112 : Nat)) "java/lang/String" "value" "[B") (Term.int (2 : Int32))) (Term.int (62 : Int32))).before args s = true := h _ (List.mem_of_getElem? (i := 206) (by decide +kernel))
theorem na_217 {args : Array Value} {s : State} (h : ∀ c ∈ flatC (Jvm.Cond.and given_1 narrow_1), c.before args s = true) : (Cond.exactly (Term.string "RodDips$Tape" (102 : Nat)) "java/lang/String").before args s = true := h _ (List.mem_of_getElem? (i := 219) (by decide +kernel))
theorem na_218 {args : Array Value} {s : State} (h : ∀ c ∈ flatC (Jvm.Cond.and given_1 narrow_1), c.before args s = true) : (Cond.eq (Term.field (Term.string "RodDips$Tape" (102 : Nat)) "java/lang/String" "coder" "B") (Term.int (0 : Int32))).before args s = true := h _ (List.mem_of_getElem? (i := 220) (by decide +kernel))
theorem na_219 {args : Array Value} {s : State} (h : ∀ c ∈ flatC (Jvm.Cond.and given_1 narrow_1), c.before args s = true) : (Cond.arrayOf (Term.field (Term.string "RodDips$Tape" (102 : Nat)) "java/lang/String" "value" "[B") FieldType.byte).before args s = true := h _ (List.mem_of_getElem? (i := 221) (by decide +kernel))
theorem na_220 {args : Array Value} {s : State} (h : ∀ c ∈ flatC (Jvm.Cond.and given_1 narrow_1), c.before args s = true) : (Cond.eq (Term.length (Term.field (Term.string "RodDips$Tape" (102 : Nat)) "java/lang/String" "value" "[B")) (Term.int (1 : Int32))).before args s = true := h _ (List.mem_of_getElem? (i := 222) (by decide +kernel))
theorem na_221 {args : Array Value} {s : State} (h : ∀ c ∈ flatC (Jvm.Cond.and given_1 narrow_1), c.before args s = true) : (Cond.eq (Term.elem (Term.field (Term.string "RodDips$Tape" (102 : Nat)) "java/lang/String" "value" "[B") (Term.int (0 : Int32))) (Term.int (41 : Int32))).before args s = true := h _ (List.mem_of_getElem? (i := 223) (by decide +kernel))
theorem na_334 {args : Array Value} {s : State} (h : ∀ c ∈ flatC (Jvm.Cond.and given_1 narrow_1), c.before args s = true) : (Cond.exactly (Term.string "RodDipsModel" (106 : Nat)) "java/lang/String").before args s = true := h _ (List.mem_of_getElem? (i := 336) (by decide +kernel))
theorem na_335 {args : Array Value} {s : State} (h : ∀ c ∈ flatC (Jvm.Cond.and given_1 narrow_1), c.before args s = true) : (Cond.eq (Term.field (Term.string "RodDipsModel" (106 : Nat)) "java/lang/String" "coder" "B") (Term.int (0 : Int32))).before args s = true := h _ (List.mem_of_getElem? (i := 337) (by decide +kernel))
theorem na_336 {args : Array Value} {s : State} (h : ∀ c ∈ flatC (Jvm.Cond.and given_1 narrow_1), c.before args s = true) : (Cond.arrayOf (Term.field (Term.string "RodDipsModel" (106 : Nat)) "java/lang/String" "value" "[B") FieldType.byte).before args s = true := h _ (List.mem_of_getElem? (i := 338) (by decide +kernel))
theorem na_337 {args : Array Value} {s : State} (h : ∀ c ∈ flatC (Jvm.Cond.and given_1 narrow_1), c.before args s = true) : (Cond.eq (Term.length (Term.field (Term.string "RodDipsModel" (106 : Nat)) "java/lang/String" "value" "[B")) (Term.int (5 : Int32))).before args s = true := h _ (List.mem_of_getElem? (i := 339) (by decide +kernel))
theorem na_338 {args : Array Value} {s : State} (h : ∀ c ∈ flatC (Jvm.Cond.and given_1 narrow_1), c.before args s = true) : (Cond.eq (Term.elem (Term.field (Term.string "RodDipsModel" (106 : Nat)) "java/lang/String" "value" "[B") (Term.int (0 : Int32))) (Term.int (109 : Int32))).before args s = true := h _ (List.mem_of_getElem? (i := 340) (by decide +kernel))
theorem na_339 {args : Array Value} {s : State} (h : ∀ c ∈ flatC (Jvm.Cond.and given_1 narrow_1), c.before args s = true) : (Cond.eq (Term.elem (Term.field (Term.string "RodDipsModel" (106 : Nat)) "java/lang/String" "value" "[B") (Term.int (1 : Int32))) (Term.int (100 : Int32))).before args s = true := h _ (List.mem_of_getElem? (i := 341) (by decide +kernel))
theorem na_340 {args : Array Value} {s : State} (h : ∀ c ∈ flatC (Jvm.Cond.and given_1 narrow_1), c.before args s = true) : (Cond.eq (Term.elem (Term.field (Term.string "RodDipsModel" (106 : Nat)) "java/lang/String" "value" "[B") (Term.int (2 : Int32))) (Term.int (107 : Int32))).before args s = true := h _ (List.mem_of_getElem? (i := 342) (by decide +kernel))
theorem na_341 {args : Array Value} {s : State} (h : ∀ c ∈ flatC (Jvm.Cond.and given_1 narrow_1), c.before args s = true) : (Cond.eq (Term.elem (Term.field (Term.string "RodDipsModel" (106 : Nat)) "java/lang/String" "value" "[B") (Term.int (3 : Int32))) (Term.int (112 : Int32))).before args s = true := h _ (List.mem_of_getElem? (i := 343) (by decide +kernel))
theorem na_342 {args : Array Value} {s : State} (h : ∀ c ∈ flatC (Jvm.Cond.and given_1 narrow_1), c.before args s = true) : (Cond.eq (Term.elem (Term.field (Term.string "RodDipsModel" (106 : Nat)) "java/lang/String" "value" "[B") (Term.int (4 : Int32))) (Term.int (108 : Int32))).before args s = true := h _ (List.mem_of_getElem? (i := 344) (by decide +kernel))
theorem na_57 {args : Array Value} {s : State} (h : ∀ c ∈ flatC (Jvm.Cond.and given_1 narrow_1), c.before args s = true) : (Cond.not (Cond.eq (Term.string "RodDips$Text" (28 : Nat)) (Term.string "RodDips$Text" (30 : Nat)))).before args s = true := h _ (List.mem_of_getElem? (i := 59) (by decide +kernel))
theorem na_62 {args : Array Value} {s : State} (h : ∀ c ∈ flatC (Jvm.Cond.and given_1 narrow_1), c.before args s = true) : (Cond.not (Cond.eq (Term.string "RodDips$Text" (28 : Nat)) (Term.string "RodDips$Text" (52 : Nat)))).before args s = true := h _ (List.mem_of_getElem? (i := 64) (by decide +kernel))
theorem na_72 {args : Array Value} {s : State} (h : ∀ c ∈ flatC (Jvm.Cond.and given_1 narrow_1), c.before args s = true) : (Cond.not (Cond.eq (Term.string "RodDips$Text" (28 : Nat)) (Term.string "RodDips$Text" (54 : Nat)))).before args s = true := h _ (List.mem_of_getElem? (i := 74) (by decide +kernel))
theorem na_84 {args : Array Value} {s : State} (h : ∀ c ∈ flatC (Jvm.Cond.and given_1 narrow_1), c.before args s = true) : (Cond.not (Cond.eq (Term.string "RodDips$Text" (28 : Nat)) (Term.string "RodDips$Text" (56 : Nat)))).before args s = true := h _ (List.mem_of_getElem? (i := 86) (by decide +kernel))
theorem na_97 {args : Array Value} {s : State} (h : ∀ c ∈ flatC (Jvm.Cond.and given_1 narrow_1), c.before args s = true) : (Cond.not (Cond.eq (Term.string "RodDips$Text" (28 : Nat)) (Term.string "RodDips$Text" (58 : Nat)))).before args s = true := h _ (List.mem_of_getElem? (i := 99) (by decide +kernel))
theorem na_111 {args : Array Value} {s : State} (h : ∀ c ∈ flatC (Jvm.Cond.and given_1 narrow_1), c.before args s = true) : (Cond.not (Cond.eq (Term.string "RodDips$Text" (28 : Nat)) (Term.string "RodDips$Text" (60 : Nat)))).before args s = true := h _ (List.mem_of_getElem? (i := 113) (by decide +kernel))
theorem na_126 {args : Array Value} {s : State} (h : ∀ c ∈ flatC (Jvm.Cond.and given_1 narrow_1), c.before args s = true) : (Cond.not (Cond.eq (Term.string "RodDips$Text" (28 : Nat)) (Term.string "RodDips$Text" (62 : Nat)))).before args s = true := h _ (List.mem_of_getElem? (i := 128) (by decide +kernel))
theorem na_140 {args : Array Value} {s : State} (h : ∀ c ∈ flatC (Jvm.Cond.and given_1 narrow_1), c.before args s = true) : (Cond.not (Cond.eq (Term.string "RodDips$Text" (28 : Nat)) (Term.string "RodDips$Text" (64 : Nat)))).before args s = true := h _ (List.mem_of_getElem? (i := 142) (by decide +kernel))
theorem na_155 {args : Array Value} {s : State} (h : ∀ c ∈ flatC (Jvm.Cond.and given_1 narrow_1), c.before args s = true) : (Cond.not (Cond.eq (Term.string "RodDips$Text" (28 : Nat)) (Term.string "RodDips$Text" (66 : Nat)))).before args s = true := h _ (List.mem_of_getElem? (i := 157) (by decide +kernel))
theorem na_172 {args : Array Value} {s : State} (h : ∀ c ∈ flatC (Jvm.Cond.and given_1 narrow_1), c.before args s = true) : (Cond.not (Cond.eq (Term.string "RodDips$Text" (28 : Nat)) (Term.string "RodDips$Text" (68 : Nat)))).before args s = true := h _ (List.mem_of_getElem? (i := 174) (by decide +kernel))
theorem na_187 {args : Array Value} {s : State} (h : ∀ c ∈ flatC (Jvm.Cond.and given_1 narrow_1), c.before args s = true) : (Cond.not (Cond.eq (Term.string "RodDips$Text" (28 : Nat)) (Term.string "RodDips$Tape" (76 : Nat)))).before args s = true := h _ (List.mem_of_getElem? (i := 189) (by decide +kernel))
theorem na_205 {args : Array Value} {s : State} (h : ∀ c ∈ flatC (Jvm.Cond.and given_1 narrow_1), c.before args s = true) : (Cond.not (Cond.eq (Term.string "RodDips$Text" (28 : Nat)) (Term.string "RodDips$Tape" (112 : Nat)))).before args s = true := h _ (List.mem_of_getElem? (i := 207) (by decide +kernel))
theorem na_222 {args : Array Value} {s : State} (h : ∀ c ∈ flatC (Jvm.Cond.and given_1 narrow_1), c.before args s = true) : (Cond.not (Cond.eq (Term.string "RodDips$Text" (28 : Nat)) (Term.string "RodDips$Tape" (102 : Nat)))).before args s = true := h _ (List.mem_of_getElem? (i := 224) (by decide +kernel))
theorem na_343 {args : Array Value} {s : State} (h : ∀ c ∈ flatC (Jvm.Cond.and given_1 narrow_1), c.before args s = true) : (Cond.not (Cond.eq (Term.string "RodDips$Text" (28 : Nat)) (Term.string "RodDipsModel" (106 : Nat)))).before args s = true := h _ (List.mem_of_getElem? (i := 345) (by decide +kernel))
theorem na_63 {args : Array Value} {s : State} (h : ∀ c ∈ flatC (Jvm.Cond.and given_1 narrow_1), c.before args s = true) : (Cond.not (Cond.eq (Term.string "RodDips$Text" (30 : Nat)) (Term.string "RodDips$Text" (52 : Nat)))).before args s = true := h _ (List.mem_of_getElem? (i := 65) (by decide +kernel))
theorem na_73 {args : Array Value} {s : State} (h : ∀ c ∈ flatC (Jvm.Cond.and given_1 narrow_1), c.before args s = true) : (Cond.not (Cond.eq (Term.string "RodDips$Text" (30 : Nat)) (Term.string "RodDips$Text" (54 : Nat)))).before args s = true := h _ (List.mem_of_getElem? (i := 75) (by decide +kernel))
theorem na_85 {args : Array Value} {s : State} (h : ∀ c ∈ flatC (Jvm.Cond.and given_1 narrow_1), c.before args s = true) : (Cond.not (Cond.eq (Term.string "RodDips$Text" (30 : Nat)) (Term.string "RodDips$Text" (56 : Nat)))).before args s = true := h _ (List.mem_of_getElem? (i := 87) (by decide +kernel))
theorem na_98 {args : Array Value} {s : State} (h : ∀ c ∈ flatC (Jvm.Cond.and given_1 narrow_1), c.before args s = true) : (Cond.not (Cond.eq (Term.string "RodDips$Text" (30 : Nat)) (Term.string "RodDips$Text" (58 : Nat)))).before args s = true := h _ (List.mem_of_getElem? (i := 100) (by decide +kernel))
theorem na_112 {args : Array Value} {s : State} (h : ∀ c ∈ flatC (Jvm.Cond.and given_1 narrow_1), c.before args s = true) : (Cond.not (Cond.eq (Term.string "RodDips$Text" (30 : Nat)) (Term.string "RodDips$Text" (60 : Nat)))).before args s = true := h _ (List.mem_of_getElem? (i := 114) (by decide +kernel))
theorem na_127 {args : Array Value} {s : State} (h : ∀ c ∈ flatC (Jvm.Cond.and given_1 narrow_1), c.before args s = true) : (Cond.not (Cond.eq (Term.string "RodDips$Text" (30 : Nat)) (Term.string "RodDips$Text" (62 : Nat)))).before args s = true := h _ (List.mem_of_getElem? (i := 129) (by decide +kernel))
theorem na_141 {args : Array Value} {s : State} (h : ∀ c ∈ flatC (Jvm.Cond.and given_1 narrow_1), c.before args s = true) : (Cond.not (Cond.eq (Term.string "RodDips$Text" (30 : Nat)) (Term.string "RodDips$Text" (64 : Nat)))).before args s = true := h _ (List.mem_of_getElem? (i := 143) (by decide +kernel))
theorem na_156 {args : Array Value} {s : State} (h : ∀ c ∈ flatC (Jvm.Cond.and given_1 narrow_1), c.before args s = true) : (Cond.not (Cond.eq (Term.string "RodDips$Text" (30 : Nat)) (Term.string "RodDips$Text" (66 : Nat)))).before args s = true := h _ (List.mem_of_getElem? (i := 158) (by decide +kernel))
theorem na_173 {args : Array Value} {s : State} (h : ∀ c ∈ flatC (Jvm.Cond.and given_1 narrow_1), c.before args s = true) : (Cond.not (Cond.eq (Term.string "RodDips$Text" (30 : Nat)) (Term.string "RodDips$Text" (68 : Nat)))).before args s = true := h _ (List.mem_of_getElem? (i := 175) (by decide +kernel))
theorem na_188 {args : Array Value} {s : State} (h : ∀ c ∈ flatC (Jvm.Cond.and given_1 narrow_1), c.before args s = true) : (Cond.not (Cond.eq (Term.string "RodDips$Text" (30 : Nat)) (Term.string "RodDips$Tape" (76 : Nat)))).before args s = true := h _ (List.mem_of_getElem? (i := 190) (by decide +kernel))
theorem na_206 {args : Array Value} {s : State} (h : ∀ c ∈ flatC (Jvm.Cond.and given_1 narrow_1), c.before args s = true) : (Cond.not (Cond.eq (Term.string "RodDips$Text" (30 : Nat)) (Term.string "RodDips$Tape" (112 : Nat)))).before args s = true := h _ (List.mem_of_getElem? (i := 208) (by decide +kernel))
theorem na_223 {args : Array Value} {s : State} (h : ∀ c ∈ flatC (Jvm.Cond.and given_1 narrow_1), c.before args s = true) : (Cond.not (Cond.eq (Term.string "RodDips$Text" (30 : Nat)) (Term.string "RodDips$Tape" (102 : Nat)))).before args s = true := h _ (List.mem_of_getElem? (i := 225) (by decide +kernel))
theorem na_344 {args : Array Value} {s : State} (h : ∀ c ∈ flatC (Jvm.Cond.and given_1 narrow_1), c.before args s = true) : (Cond.not (Cond.eq (Term.string "RodDips$Text" (30 : Nat)) (Term.string "RodDipsModel" (106 : Nat)))).before args s = true := h _ (List.mem_of_getElem? (i := 346) (by decide +kernel))
theorem na_74 {args : Array Value} {s : State} (h : ∀ c ∈ flatC (Jvm.Cond.and given_1 narrow_1), c.before args s = true) : (Cond.not (Cond.eq (Term.string "RodDips$Text" (52 : Nat)) (Term.string "RodDips$Text" (54 : Nat)))).before args s = true := h _ (List.mem_of_getElem? (i := 76) (by decide +kernel))
theorem na_86 {args : Array Value} {s : State} (h : ∀ c ∈ flatC (Jvm.Cond.and given_1 narrow_1), c.before args s = true) : (Cond.not (Cond.eq (Term.string "RodDips$Text" (52 : Nat)) (Term.string "RodDips$Text" (56 : Nat)))).before args s = true := h _ (List.mem_of_getElem? (i := 88) (by decide +kernel))
theorem na_99 {args : Array Value} {s : State} (h : ∀ c ∈ flatC (Jvm.Cond.and given_1 narrow_1), c.before args s = true) : (Cond.not (Cond.eq (Term.string "RodDips$Text" (52 : Nat)) (Term.string "RodDips$Text" (58 : Nat)))).before args s = true := h _ (List.mem_of_getElem? (i := 101) (by decide +kernel))
theorem na_113 {args : Array Value} {s : State} (h : ∀ c ∈ flatC (Jvm.Cond.and given_1 narrow_1), c.before args s = true) : (Cond.not (Cond.eq (Term.string "RodDips$Text" (52 : Nat)) (Term.string "RodDips$Text" (60 : Nat)))).before args s = true := h _ (List.mem_of_getElem? (i := 115) (by decide +kernel))
theorem na_128 {args : Array Value} {s : State} (h : ∀ c ∈ flatC (Jvm.Cond.and given_1 narrow_1), c.before args s = true) : (Cond.not (Cond.eq (Term.string "RodDips$Text" (52 : Nat)) (Term.string "RodDips$Text" (62 : Nat)))).before args s = true := h _ (List.mem_of_getElem? (i := 130) (by decide +kernel))
theorem na_142 {args : Array Value} {s : State} (h : ∀ c ∈ flatC (Jvm.Cond.and given_1 narrow_1), c.before args s = true) : (Cond.not (Cond.eq (Term.string "RodDips$Text" (52 : Nat)) (Term.string "RodDips$Text" (64 : Nat)))).before args s = true := h _ (List.mem_of_getElem? (i := 144) (by decide +kernel))
theorem na_157 {args : Array Value} {s : State} (h : ∀ c ∈ flatC (Jvm.Cond.and given_1 narrow_1), c.before args s = true) : (Cond.not (Cond.eq (Term.string "RodDips$Text" (52 : Nat)) (Term.string "RodDips$Text" (66 : Nat)))).before args s = true := h _ (List.mem_of_getElem? (i := 159) (by decide +kernel))
theorem na_174 {args : Array Value} {s : State} (h : ∀ c ∈ flatC (Jvm.Cond.and given_1 narrow_1), c.before args s = true) : (Cond.not (Cond.eq (Term.string "RodDips$Text" (52 : Nat)) (Term.string "RodDips$Text" (68 : Nat)))).before args s = true := h _ (List.mem_of_getElem? (i := 176) (by decide +kernel))
theorem na_189 {args : Array Value} {s : State} (h : ∀ c ∈ flatC (Jvm.Cond.and given_1 narrow_1), c.before args s = true) : (Cond.not (Cond.eq (Term.string "RodDips$Text" (52 : Nat)) (Term.string "RodDips$Tape" (76 : Nat)))).before args s = true := h _ (List.mem_of_getElem? (i := 191) (by decide +kernel))
theorem na_207 {args : Array Value} {s : State} (h : ∀ c ∈ flatC (Jvm.Cond.and given_1 narrow_1), c.before args s = true) : (Cond.not (Cond.eq (Term.string "RodDips$Text" (52 : Nat)) (Term.string "RodDips$Tape" (112 : Nat)))).before args s = true := h _ (List.mem_of_getElem? (i := 209) (by decide +kernel))
theorem na_224 {args : Array Value} {s : State} (h : ∀ c ∈ flatC (Jvm.Cond.and given_1 narrow_1), c.before args s = true) : (Cond.not (Cond.eq (Term.string "RodDips$Text" (52 : Nat)) (Term.string "RodDips$Tape" (102 : Nat)))).before args s = true := h _ (List.mem_of_getElem? (i := 226) (by decide +kernel))
theorem na_345 {args : Array Value} {s : State} (h : ∀ c ∈ flatC (Jvm.Cond.and given_1 narrow_1), c.before args s = true) : (Cond.not (Cond.eq (Term.string "RodDips$Text" (52 : Nat)) (Term.string "RodDipsModel" (106 : Nat)))).before args s = true := h _ (List.mem_of_getElem? (i := 347) (by decide +kernel))
theorem na_87 {args : Array Value} {s : State} (h : ∀ c ∈ flatC (Jvm.Cond.and given_1 narrow_1), c.before args s = true) : (Cond.not (Cond.eq (Term.string "RodDips$Text" (54 : Nat)) (Term.string "RodDips$Text" (56 : Nat)))).before args s = true := h _ (List.mem_of_getElem? (i := 89) (by decide +kernel))
theorem na_100 {args : Array Value} {s : State} (h : ∀ c ∈ flatC (Jvm.Cond.and given_1 narrow_1), c.before args s = true) : (Cond.not (Cond.eq (Term.string "RodDips$Text" (54 : Nat)) (Term.string "RodDips$Text" (58 : Nat)))).before args s = true := h _ (List.mem_of_getElem? (i := 102) (by decide +kernel))
theorem na_114 {args : Array Value} {s : State} (h : ∀ c ∈ flatC (Jvm.Cond.and given_1 narrow_1), c.before args s = true) : (Cond.not (Cond.eq (Term.string "RodDips$Text" (54 : Nat)) (Term.string "RodDips$Text" (60 : Nat)))).before args s = true := h _ (List.mem_of_getElem? (i := 116) (by decide +kernel))
theorem na_129 {args : Array Value} {s : State} (h : ∀ c ∈ flatC (Jvm.Cond.and given_1 narrow_1), c.before args s = true) : (Cond.not (Cond.eq (Term.string "RodDips$Text" (54 : Nat)) (Term.string "RodDips$Text" (62 : Nat)))).before args s = true := h _ (List.mem_of_getElem? (i := 131) (by decide +kernel))
theorem na_143 {args : Array Value} {s : State} (h : ∀ c ∈ flatC (Jvm.Cond.and given_1 narrow_1), c.before args s = true) : (Cond.not (Cond.eq (Term.string "RodDips$Text" (54 : Nat)) (Term.string "RodDips$Text" (64 : Nat)))).before args s = true := h _ (List.mem_of_getElem? (i := 145) (by decide +kernel))
theorem na_158 {args : Array Value} {s : State} (h : ∀ c ∈ flatC (Jvm.Cond.and given_1 narrow_1), c.before args s = true) : (Cond.not (Cond.eq (Term.string "RodDips$Text" (54 : Nat)) (Term.string "RodDips$Text" (66 : Nat)))).before args s = true := h _ (List.mem_of_getElem? (i := 160) (by decide +kernel))
theorem na_175 {args : Array Value} {s : State} (h : ∀ c ∈ flatC (Jvm.Cond.and given_1 narrow_1), c.before args s = true) : (Cond.not (Cond.eq (Term.string "RodDips$Text" (54 : Nat)) (Term.string "RodDips$Text" (68 : Nat)))).before args s = true := h _ (List.mem_of_getElem? (i := 177) (by decide +kernel))
theorem na_190 {args : Array Value} {s : State} (h : ∀ c ∈ flatC (Jvm.Cond.and given_1 narrow_1), c.before args s = true) : (Cond.not (Cond.eq (Term.string "RodDips$Text" (54 : Nat)) (Term.string "RodDips$Tape" (76 : Nat)))).before args s = true := h _ (List.mem_of_getElem? (i := 192) (by decide +kernel))
theorem na_208 {args : Array Value} {s : State} (h : ∀ c ∈ flatC (Jvm.Cond.and given_1 narrow_1), c.before args s = true) : (Cond.not (Cond.eq (Term.string "RodDips$Text" (54 : Nat)) (Term.string "RodDips$Tape" (112 : Nat)))).before args s = true := h _ (List.mem_of_getElem? (i := 210) (by decide +kernel))
theorem na_225 {args : Array Value} {s : State} (h : ∀ c ∈ flatC (Jvm.Cond.and given_1 narrow_1), c.before args s = true) : (Cond.not (Cond.eq (Term.string "RodDips$Text" (54 : Nat)) (Term.string "RodDips$Tape" (102 : Nat)))).before args s = true := h _ (List.mem_of_getElem? (i := 227) (by decide +kernel))
theorem na_346 {args : Array Value} {s : State} (h : ∀ c ∈ flatC (Jvm.Cond.and given_1 narrow_1), c.before args s = true) : (Cond.not (Cond.eq (Term.string "RodDips$Text" (54 : Nat)) (Term.string "RodDipsModel" (106 : Nat)))).before args s = true := h _ (List.mem_of_getElem? (i := 348) (by decide +kernel))
theorem na_101 {args : Array Value} {s : State} (h : ∀ c ∈ flatC (Jvm.Cond.and given_1 narrow_1), c.before args s = true) : (Cond.not (Cond.eq (Term.string "RodDips$Text" (56 : Nat)) (Term.string "RodDips$Text" (58 : Nat)))).before args s = true := h _ (List.mem_of_getElem? (i := 103) (by decide +kernel))
theorem na_115 {args : Array Value} {s : State} (h : ∀ c ∈ flatC (Jvm.Cond.and given_1 narrow_1), c.before args s = true) : (Cond.not (Cond.eq (Term.string "RodDips$Text" (56 : Nat)) (Term.string "RodDips$Text" (60 : Nat)))).before args s = true := h _ (List.mem_of_getElem? (i := 117) (by decide +kernel))
theorem na_130 {args : Array Value} {s : State} (h : ∀ c ∈ flatC (Jvm.Cond.and given_1 narrow_1), c.before args s = true) : (Cond.not (Cond.eq (Term.string "RodDips$Text" (56 : Nat)) (Term.string "RodDips$Text" (62 : Nat)))).before args s = true := h _ (List.mem_of_getElem? (i := 132) (by decide +kernel))
theorem na_144 {args : Array Value} {s : State} (h : ∀ c ∈ flatC (Jvm.Cond.and given_1 narrow_1), c.before args s = true) : (Cond.not (Cond.eq (Term.string "RodDips$Text" (56 : Nat)) (Term.string "RodDips$Text" (64 : Nat)))).before args s = true := h _ (List.mem_of_getElem? (i := 146) (by decide +kernel))
theorem na_159 {args : Array Value} {s : State} (h : ∀ c ∈ flatC (Jvm.Cond.and given_1 narrow_1), c.before args s = true) : (Cond.not (Cond.eq (Term.string "RodDips$Text" (56 : Nat)) (Term.string "RodDips$Text" (66 : Nat)))).before args s = true := h _ (List.mem_of_getElem? (i := 161) (by decide +kernel))
theorem na_176 {args : Array Value} {s : State} (h : ∀ c ∈ flatC (Jvm.Cond.and given_1 narrow_1), c.before args s = true) : (Cond.not (Cond.eq (Term.string "RodDips$Text" (56 : Nat)) (Term.string "RodDips$Text" (68 : Nat)))).before args s = true := h _ (List.mem_of_getElem? (i := 178) (by decide +kernel))
theorem na_191 {args : Array Value} {s : State} (h : ∀ c ∈ flatC (Jvm.Cond.and given_1 narrow_1), c.before args s = true) : (Cond.not (Cond.eq (Term.string "RodDips$Text" (56 : Nat)) (Term.string "RodDips$Tape" (76 : Nat)))).before args s = true := h _ (List.mem_of_getElem? (i := 193) (by decide +kernel))
theorem na_209 {args : Array Value} {s : State} (h : ∀ c ∈ flatC (Jvm.Cond.and given_1 narrow_1), c.before args s = true) : (Cond.not (Cond.eq (Term.string "RodDips$Text" (56 : Nat)) (Term.string "RodDips$Tape" (112 : Nat)))).before args s = true := h _ (List.mem_of_getElem? (i := 211) (by decide +kernel))
theorem na_226 {args : Array Value} {s : State} (h : ∀ c ∈ flatC (Jvm.Cond.and given_1 narrow_1), c.before args s = true) : (Cond.not (Cond.eq (Term.string "RodDips$Text" (56 : Nat)) (Term.string "RodDips$Tape" (102 : Nat)))).before args s = true := h _ (List.mem_of_getElem? (i := 228) (by decide +kernel))
theorem na_347 {args : Array Value} {s : State} (h : ∀ c ∈ flatC (Jvm.Cond.and given_1 narrow_1), c.before args s = true) : (Cond.not (Cond.eq (Term.string "RodDips$Text" (56 : Nat)) (Term.string "RodDipsModel" (106 : Nat)))).before args s = true := h _ (List.mem_of_getElem? (i := 349) (by decide +kernel))
theorem na_116 {args : Array Value} {s : State} (h : ∀ c ∈ flatC (Jvm.Cond.and given_1 narrow_1), c.before args s = true) : (Cond.not (Cond.eq (Term.string "RodDips$Text" (58 : Nat)) (Term.string "RodDips$Text" (60 : Nat)))).before args s = true := h _ (List.mem_of_getElem? (i := 118) (by decide +kernel))
theorem na_131 {args : Array Value} {s : State} (h : ∀ c ∈ flatC (Jvm.Cond.and given_1 narrow_1), c.before args s = true) : (Cond.not (Cond.eq (Term.string "RodDips$Text" (58 : Nat)) (Term.string "RodDips$Text" (62 : Nat)))).before args s = true := h _ (List.mem_of_getElem? (i := 133) (by decide +kernel))
theorem na_145 {args : Array Value} {s : State} (h : ∀ c ∈ flatC (Jvm.Cond.and given_1 narrow_1), c.before args s = true) : (Cond.not (Cond.eq (Term.string "RodDips$Text" (58 : Nat)) (Term.string "RodDips$Text" (64 : Nat)))).before args s = true := h _ (List.mem_of_getElem? (i := 147) (by decide +kernel))
theorem na_160 {args : Array Value} {s : State} (h : ∀ c ∈ flatC (Jvm.Cond.and given_1 narrow_1), c.before args s = true) : (Cond.not (Cond.eq (Term.string "RodDips$Text" (58 : Nat)) (Term.string "RodDips$Text" (66 : Nat)))).before args s = true := h _ (List.mem_of_getElem? (i := 162) (by decide +kernel))
theorem na_177 {args : Array Value} {s : State} (h : ∀ c ∈ flatC (Jvm.Cond.and given_1 narrow_1), c.before args s = true) : (Cond.not (Cond.eq (Term.string "RodDips$Text" (58 : Nat)) (Term.string "RodDips$Text" (68 : Nat)))).before args s = true := h _ (List.mem_of_getElem? (i := 179) (by decide +kernel))
theorem na_192 {args : Array Value} {s : State} (h : ∀ c ∈ flatC (Jvm.Cond.and given_1 narrow_1), c.before args s = true) : (Cond.not (Cond.eq (Term.string "RodDips$Text" (58 : Nat)) (Term.string "RodDips$Tape" (76 : Nat)))).before args s = true := h _ (List.mem_of_getElem? (i := 194) (by decide +kernel))
theorem na_210 {args : Array Value} {s : State} (h : ∀ c ∈ flatC (Jvm.Cond.and given_1 narrow_1), c.before args s = true) : (Cond.not (Cond.eq (Term.string "RodDips$Text" (58 : Nat)) (Term.string "RodDips$Tape" (112 : Nat)))).before args s = true := h _ (List.mem_of_getElem? (i := 212) (by decide +kernel))
theorem na_227 {args : Array Value} {s : State} (h : ∀ c ∈ flatC (Jvm.Cond.and given_1 narrow_1), c.before args s = true) : (Cond.not (Cond.eq (Term.string "RodDips$Text" (58 : Nat)) (Term.string "RodDips$Tape" (102 : Nat)))).before args s = true := h _ (List.mem_of_getElem? (i := 229) (by decide +kernel))
theorem na_348 {args : Array Value} {s : State} (h : ∀ c ∈ flatC (Jvm.Cond.and given_1 narrow_1), c.before args s = true) : (Cond.not (Cond.eq (Term.string "RodDips$Text" (58 : Nat)) (Term.string "RodDipsModel" (106 : Nat)))).before args s = true := h _ (List.mem_of_getElem? (i := 350) (by decide +kernel))
theorem na_132 {args : Array Value} {s : State} (h : ∀ c ∈ flatC (Jvm.Cond.and given_1 narrow_1), c.before args s = true) : (Cond.not (Cond.eq (Term.string "RodDips$Text" (60 : Nat)) (Term.string "RodDips$Text" (62 : Nat)))).before args s = true := h _ (List.mem_of_getElem? (i := 134) (by decide +kernel))
theorem na_146 {args : Array Value} {s : State} (h : ∀ c ∈ flatC (Jvm.Cond.and given_1 narrow_1), c.before args s = true) : (Cond.not (Cond.eq (Term.string "RodDips$Text" (60 : Nat)) (Term.string "RodDips$Text" (64 : Nat)))).before args s = true := h _ (List.mem_of_getElem? (i := 148) (by decide +kernel))
theorem na_161 {args : Array Value} {s : State} (h : ∀ c ∈ flatC (Jvm.Cond.and given_1 narrow_1), c.before args s = true) : (Cond.not (Cond.eq (Term.string "RodDips$Text" (60 : Nat)) (Term.string "RodDips$Text" (66 : Nat)))).before args s = true := h _ (List.mem_of_getElem? (i := 163) (by decide +kernel))
theorem na_178 {args : Array Value} {s : State} (h : ∀ c ∈ flatC (Jvm.Cond.and given_1 narrow_1), c.before args s = true) : (Cond.not (Cond.eq (Term.string "RodDips$Text" (60 : Nat)) (Term.string "RodDips$Text" (68 : Nat)))).before args s = true := h _ (List.mem_of_getElem? (i := 180) (by decide +kernel))
theorem na_193 {args : Array Value} {s : State} (h : ∀ c ∈ flatC (Jvm.Cond.and given_1 narrow_1), c.before args s = true) : (Cond.not (Cond.eq (Term.string "RodDips$Text" (60 : Nat)) (Term.string "RodDips$Tape" (76 : Nat)))).before args s = true := h _ (List.mem_of_getElem? (i := 195) (by decide +kernel))
theorem na_211 {args : Array Value} {s : State} (h : ∀ c ∈ flatC (Jvm.Cond.and given_1 narrow_1), c.before args s = true) : (Cond.not (Cond.eq (Term.string "RodDips$Text" (60 : Nat)) (Term.string "RodDips$Tape" (112 : Nat)))).before args s = true := h _ (List.mem_of_getElem? (i := 213) (by decide +kernel))
theorem na_228 {args : Array Value} {s : State} (h : ∀ c ∈ flatC (Jvm.Cond.and given_1 narrow_1), c.before args s = true) : (Cond.not (Cond.eq (Term.string "RodDips$Text" (60 : Nat)) (Term.string "RodDips$Tape" (102 : Nat)))).before args s = true := h _ (List.mem_of_getElem? (i := 230) (by decide +kernel))
theorem na_349 {args : Array Value} {s : State} (h : ∀ c ∈ flatC (Jvm.Cond.and given_1 narrow_1), c.before args s = true) : (Cond.not (Cond.eq (Term.string "RodDips$Text" (60 : Nat)) (Term.string "RodDipsModel" (106 : Nat)))).before args s = true := h _ (List.mem_of_getElem? (i := 351) (by decide +kernel))
theorem na_147 {args : Array Value} {s : State} (h : ∀ c ∈ flatC (Jvm.Cond.and given_1 narrow_1), c.before args s = true) : (Cond.not (Cond.eq (Term.string "RodDips$Text" (62 : Nat)) (Term.string "RodDips$Text" (64 : Nat)))).before args s = true := h _ (List.mem_of_getElem? (i := 149) (by decide +kernel))
theorem na_162 {args : Array Value} {s : State} (h : ∀ c ∈ flatC (Jvm.Cond.and given_1 narrow_1), c.before args s = true) : (Cond.not (Cond.eq (Term.string "RodDips$Text" (62 : Nat)) (Term.string "RodDips$Text" (66 : Nat)))).before args s = true := h _ (List.mem_of_getElem? (i := 164) (by decide +kernel))
theorem na_179 {args : Array Value} {s : State} (h : ∀ c ∈ flatC (Jvm.Cond.and given_1 narrow_1), c.before args s = true) : (Cond.not (Cond.eq (Term.string "RodDips$Text" (62 : Nat)) (Term.string "RodDips$Text" (68 : Nat)))).before args s = true := h _ (List.mem_of_getElem? (i := 181) (by decide +kernel))
theorem na_194 {args : Array Value} {s : State} (h : ∀ c ∈ flatC (Jvm.Cond.and given_1 narrow_1), c.before args s = true) : (Cond.not (Cond.eq (Term.string "RodDips$Text" (62 : Nat)) (Term.string "RodDips$Tape" (76 : Nat)))).before args s = true := h _ (List.mem_of_getElem? (i := 196) (by decide +kernel))
theorem na_212 {args : Array Value} {s : State} (h : ∀ c ∈ flatC (Jvm.Cond.and given_1 narrow_1), c.before args s = true) : (Cond.not (Cond.eq (Term.string "RodDips$Text" (62 : Nat)) (Term.string "RodDips$Tape" (112 : Nat)))).before args s = true := h _ (List.mem_of_getElem? (i := 214) (by decide +kernel))
theorem na_229 {args : Array Value} {s : State} (h : ∀ c ∈ flatC (Jvm.Cond.and given_1 narrow_1), c.before args s = true) : (Cond.not (Cond.eq (Term.string "RodDips$Text" (62 : Nat)) (Term.string "RodDips$Tape" (102 : Nat)))).before args s = true := h _ (List.mem_of_getElem? (i := 231) (by decide +kernel))
theorem na_350 {args : Array Value} {s : State} (h : ∀ c ∈ flatC (Jvm.Cond.and given_1 narrow_1), c.before args s = true) : (Cond.not (Cond.eq (Term.string "RodDips$Text" (62 : Nat)) (Term.string "RodDipsModel" (106 : Nat)))).before args s = true := h _ (List.mem_of_getElem? (i := 352) (by decide +kernel))
theorem na_163 {args : Array Value} {s : State} (h : ∀ c ∈ flatC (Jvm.Cond.and given_1 narrow_1), c.before args s = true) : (Cond.not (Cond.eq (Term.string "RodDips$Text" (64 : Nat)) (Term.string "RodDips$Text" (66 : Nat)))).before args s = true := h _ (List.mem_of_getElem? (i := 165) (by decide +kernel))
theorem na_180 {args : Array Value} {s : State} (h : ∀ c ∈ flatC (Jvm.Cond.and given_1 narrow_1), c.before args s = true) : (Cond.not (Cond.eq (Term.string "RodDips$Text" (64 : Nat)) (Term.string "RodDips$Text" (68 : Nat)))).before args s = true := h _ (List.mem_of_getElem? (i := 182) (by decide +kernel))
theorem na_195 {args : Array Value} {s : State} (h : ∀ c ∈ flatC (Jvm.Cond.and given_1 narrow_1), c.before args s = true) : (Cond.not (Cond.eq (Term.string "RodDips$Text" (64 : Nat)) (Term.string "RodDips$Tape" (76 : Nat)))).before args s = true := h _ (List.mem_of_getElem? (i := 197) (by decide +kernel))
theorem na_213 {args : Array Value} {s : State} (h : ∀ c ∈ flatC (Jvm.Cond.and given_1 narrow_1), c.before args s = true) : (Cond.not (Cond.eq (Term.string "RodDips$Text" (64 : Nat)) (Term.string "RodDips$Tape" (112 : Nat)))).before args s = true := h _ (List.mem_of_getElem? (i := 215) (by decide +kernel))
theorem na_230 {args : Array Value} {s : State} (h : ∀ c ∈ flatC (Jvm.Cond.and given_1 narrow_1), c.before args s = true) : (Cond.not (Cond.eq (Term.string "RodDips$Text" (64 : Nat)) (Term.string "RodDips$Tape" (102 : Nat)))).before args s = true := h _ (List.mem_of_getElem? (i := 232) (by decide +kernel))
theorem na_351 {args : Array Value} {s : State} (h : ∀ c ∈ flatC (Jvm.Cond.and given_1 narrow_1), c.before args s = true) : (Cond.not (Cond.eq (Term.string "RodDips$Text" (64 : Nat)) (Term.string "RodDipsModel" (106 : Nat)))).before args s = true := h _ (List.mem_of_getElem? (i := 353) (by decide +kernel))
theorem na_181 {args : Array Value} {s : State} (h : ∀ c ∈ flatC (Jvm.Cond.and given_1 narrow_1), c.before args s = true) : (Cond.not (Cond.eq (Term.string "RodDips$Text" (66 : Nat)) (Term.string "RodDips$Text" (68 : Nat)))).before args s = true := h _ (List.mem_of_getElem? (i := 183) (by decide +kernel))
theorem na_196 {args : Array Value} {s : State} (h : ∀ c ∈ flatC (Jvm.Cond.and given_1 narrow_1), c.before args s = true) : (Cond.not (Cond.eq (Term.string "RodDips$Text" (66 : Nat)) (Term.string "RodDips$Tape" (76 : Nat)))).before args s = true := h _ (List.mem_of_getElem? (i := 198) (by decide +kernel))
theorem na_214 {args : Array Value} {s : State} (h : ∀ c ∈ flatC (Jvm.Cond.and given_1 narrow_1), c.before args s = true) : (Cond.not (Cond.eq (Term.string "RodDips$Text" (66 : Nat)) (Term.string "RodDips$Tape" (112 : Nat)))).before args s = true := h _ (List.mem_of_getElem? (i := 216) (by decide +kernel))
theorem na_231 {args : Array Value} {s : State} (h : ∀ c ∈ flatC (Jvm.Cond.and given_1 narrow_1), c.before args s = true) : (Cond.not (Cond.eq (Term.string "RodDips$Text" (66 : Nat)) (Term.string "RodDips$Tape" (102 : Nat)))).before args s = true := h _ (List.mem_of_getElem? (i := 233) (by decide +kernel))
theorem na_352 {args : Array Value} {s : State} (h : ∀ c ∈ flatC (Jvm.Cond.and given_1 narrow_1), c.before args s = true) : (Cond.not (Cond.eq (Term.string "RodDips$Text" (66 : Nat)) (Term.string "RodDipsModel" (106 : Nat)))).before args s = true := h _ (List.mem_of_getElem? (i := 354) (by decide +kernel))
theorem na_197 {args : Array Value} {s : State} (h : ∀ c ∈ flatC (Jvm.Cond.and given_1 narrow_1), c.before args s = true) : (Cond.not (Cond.eq (Term.string "RodDips$Text" (68 : Nat)) (Term.string "RodDips$Tape" (76 : Nat)))).before args s = true := h _ (List.mem_of_getElem? (i := 199) (by decide +kernel))
theorem na_215 {args : Array Value} {s : State} (h : ∀ c ∈ flatC (Jvm.Cond.and given_1 narrow_1), c.before args s = true) : (Cond.not (Cond.eq (Term.string "RodDips$Text" (68 : Nat)) (Term.string "RodDips$Tape" (112 : Nat)))).before args s = true := h _ (List.mem_of_getElem? (i := 217) (by decide +kernel))
theorem na_232 {args : Array Value} {s : State} (h : ∀ c ∈ flatC (Jvm.Cond.and given_1 narrow_1), c.before args s = true) : (Cond.not (Cond.eq (Term.string "RodDips$Text" (68 : Nat)) (Term.string "RodDips$Tape" (102 : Nat)))).before args s = true := h _ (List.mem_of_getElem? (i := 234) (by decide +kernel))
theorem na_353 {args : Array Value} {s : State} (h : ∀ c ∈ flatC (Jvm.Cond.and given_1 narrow_1), c.before args s = true) : (Cond.not (Cond.eq (Term.string "RodDips$Text" (68 : Nat)) (Term.string "RodDipsModel" (106 : Nat)))).before args s = true := h _ (List.mem_of_getElem? (i := 355) (by decide +kernel))
theorem na_216 {args : Array Value} {s : State} (h : ∀ c ∈ flatC (Jvm.Cond.and given_1 narrow_1), c.before args s = true) : (Cond.not (Cond.eq (Term.string "RodDips$Tape" (76 : Nat)) (Term.string "RodDips$Tape" (112 : Nat)))).before args s = true := h _ (List.mem_of_getElem? (i := 218) (by decide +kernel))
theorem na_233 {args : Array Value} {s : State} (h : ∀ c ∈ flatC (Jvm.Cond.and given_1 narrow_1), c.before args s = true) : (Cond.not (Cond.eq (Term.string "RodDips$Tape" (76 : Nat)) (Term.string "RodDips$Tape" (102 : Nat)))).before args s = true := h _ (List.mem_of_getElem? (i := 235) (by decide +kernel))
theorem na_354 {args : Array Value} {s : State} (h : ∀ c ∈ flatC (Jvm.Cond.and given_1 narrow_1), c.before args s = true) : (Cond.not (Cond.eq (Term.string "RodDips$Tape" (76 : Nat)) (Term.string "RodDipsModel" (106 : Nat)))).before args s = true := h _ (List.mem_of_getElem? (i := 356) (by decide +kernel))
theorem na_234 {args : Array Value} {s : State} (h : ∀ c ∈ flatC (Jvm.Cond.and given_1 narrow_1), c.before args s = true) : (Cond.not (Cond.eq (Term.string "RodDips$Tape" (112 : Nat)) (Term.string "RodDips$Tape" (102 : Nat)))).before args s = true := h _ (List.mem_of_getElem? (i := 236) (by decide +kernel))
theorem na_355 {args : Array Value} {s : State} (h : ∀ c ∈ flatC (Jvm.Cond.and given_1 narrow_1), c.before args s = true) : (Cond.not (Cond.eq (Term.string "RodDips$Tape" (112 : Nat)) (Term.string "RodDipsModel" (106 : Nat)))).before args s = true := h _ (List.mem_of_getElem? (i := 357) (by decide +kernel))
theorem na_356 {args : Array Value} {s : State} (h : ∀ c ∈ flatC (Jvm.Cond.and given_1 narrow_1), c.before args s = true) : (Cond.not (Cond.eq (Term.string "RodDips$Tape" (102 : Nat)) (Term.string "RodDipsModel" (106 : Nat)))).before args s = true := h _ (List.mem_of_getElem? (i := 358) (by decide +kernel))
theorem na_246 {args : Array Value} {s : State} (h : ∀ c ∈ flatC (Jvm.Cond.and given_1 narrow_1), c.before args s = true) : (Cond.eq (Term.string "RodDips$Text" (54 : Nat)) (Term.string "RodDipsModel" (124 : Nat))).before args s = true := h _ (List.mem_of_getElem? (i := 248) (by decide +kernel))
theorem na_271 {args : Array Value} {s : State} (h : ∀ c ∈ flatC (Jvm.Cond.and given_1 narrow_1), c.before args s = true) : (Cond.eq (Term.string "RodDips$Text" (58 : Nat)) (Term.string "RodDipsModel" (130 : Nat))).before args s = true := h _ (List.mem_of_getElem? (i := 273) (by decide +kernel))
theorem na_296 {args : Array Value} {s : State} (h : ∀ c ∈ flatC (Jvm.Cond.and given_1 narrow_1), c.before args s = true) : (Cond.eq (Term.string "RodDips$Text" (60 : Nat)) (Term.string "RodDipsModel" (132 : Nat))).before args s = true := h _ (List.mem_of_getElem? (i := 298) (by decide +kernel))
theorem na_318 {args : Array Value} {s : State} (h : ∀ c ∈ flatC (Jvm.Cond.and given_1 narrow_1), c.before args s = true) : (Cond.eq (Term.string "RodDips$Text" (30 : Nat)) (Term.string "RodDipsModel" (104 : Nat))).before args s = true := h _ (List.mem_of_getElem? (i := 320) (by decide +kernel))
theorem na_380 {args : Array Value} {s : State} (h : ∀ c ∈ flatC (Jvm.Cond.and given_1 narrow_1), c.before args s = true) : (Cond.eq (Term.string "RodDips$Tape" (112 : Nat)) (Term.string "RodDipsModel" (112 : Nat))).before args s = true := h _ (List.mem_of_getElem? (i := 382) (by decide +kernel))
theorem na_403 {args : Array Value} {s : State} (h : ∀ c ∈ flatC (Jvm.Cond.and given_1 narrow_1), c.before args s = true) : (Cond.eq (Term.string "RodDips$Text" (62 : Nat)) (Term.string "RodDipsModel" (137 : Nat))).before args s = true := h _ (List.mem_of_getElem? (i := 405) (by decide +kernel))
theorem na_431 {args : Array Value} {s : State} (h : ∀ c ∈ flatC (Jvm.Cond.and given_1 narrow_1), c.before args s = true) : (Cond.eq (Term.string "RodDips$Text" (64 : Nat)) (Term.string "RodDipsModel" (139 : Nat))).before args s = true := h _ (List.mem_of_getElem? (i := 433) (by decide +kernel))
theorem na_460 {args : Array Value} {s : State} (h : ∀ c ∈ flatC (Jvm.Cond.and given_1 narrow_1), c.before args s = true) : (Cond.eq (Term.string "RodDips$Text" (66 : Nat)) (Term.string "RodDipsModel" (144 : Nat))).before args s = true := h _ (List.mem_of_getElem? (i := 462) (by decide +kernel))
theorem na_491 {args : Array Value} {s : State} (h : ∀ c ∈ flatC (Jvm.Cond.and given_1 narrow_1), c.before args s = true) : (Cond.eq (Term.string "RodDips$Text" (68 : Nat)) (Term.string "RodDipsModel" (146 : Nat))).before args s = true := h _ (List.mem_of_getElem? (i := 493) (by decide +kernel))
theorem na_517 {args : Array Value} {s : State} (h : ∀ c ∈ flatC (Jvm.Cond.and given_1 narrow_1), c.before args s = true) : (Cond.eq (Term.string "RodDips$Text" (56 : Nat)) (Term.string "RodDipsModel" (148 : Nat))).before args s = true := h _ (List.mem_of_getElem? (i := 519) (by decide +kernel))
theorem na_2 {args : Array Value} {s : State} (h : ∀ c ∈ flatC (Jvm.Cond.and given_1 narrow_1), c.before args s = true) : (Cond.eq (Term.static "java/lang/String" "COMPACT_STRINGS" "Z") (Term.int (1 : Int32))).before args s = true := h _ (List.mem_of_getElem? (i := 4) (by decide +kernel))
theorem na_3 {args : Array Value} {s : State} (h : ∀ c ∈ flatC (Jvm.Cond.and given_1 narrow_1), c.before args s = true) : (Cond.isRef (Term.static "jdk/internal/util/Preconditions" "SIOOBE_FORMATTER" "Ljava/util/function/BiFunction;")).before args s = true := h _ (List.mem_of_getElem? (i := 5) (by decide +kernel))
theorem na_8 {args : Array Value} {s : State} (h : ∀ c ∈ flatC (Jvm.Cond.and given_1 narrow_1), c.before args s = true) : (Cond.arrayOf (Term.static "RodDips" "KIND_ABOVE" "[I") FieldType.int).before args s = true := h _ (List.mem_of_getElem? (i := 10) (by decide +kernel))
theorem na_9 {args : Array Value} {s : State} (h : ∀ c ∈ flatC (Jvm.Cond.and given_1 narrow_1), c.before args s = true) : (Cond.eq (Term.length (Term.static "RodDips" "KIND_ABOVE" "[I")) (Term.int (7 : Int32))).before args s = true := h _ (List.mem_of_getElem? (i := 11) (by decide +kernel))
theorem na_10 {args : Array Value} {s : State} (h : ∀ c ∈ flatC (Jvm.Cond.and given_1 narrow_1), c.before args s = true) : (Cond.eq (Term.elem (Term.static "RodDips" "KIND_ABOVE" "[I") (Term.int (0 : Int32))) (Term.int (-1 : Int32))).before args s = true := h _ (List.mem_of_getElem? (i := 12) (by decide +kernel))
theorem na_11 {args : Array Value} {s : State} (h : ∀ c ∈ flatC (Jvm.Cond.and given_1 narrow_1), c.before args s = true) : (Cond.eq (Term.elem (Term.static "RodDips" "KIND_ABOVE" "[I") (Term.int (1 : Int32))) (Term.int (0 : Int32))).before args s = true := h _ (List.mem_of_getElem? (i := 13) (by decide +kernel))
theorem na_12 {args : Array Value} {s : State} (h : ∀ c ∈ flatC (Jvm.Cond.and given_1 narrow_1), c.before args s = true) : (Cond.eq (Term.elem (Term.static "RodDips" "KIND_ABOVE" "[I") (Term.int (2 : Int32))) (Term.int (0 : Int32))).before args s = true := h _ (List.mem_of_getElem? (i := 14) (by decide +kernel))
theorem na_13 {args : Array Value} {s : State} (h : ∀ c ∈ flatC (Jvm.Cond.and given_1 narrow_1), c.before args s = true) : (Cond.eq (Term.elem (Term.static "RodDips" "KIND_ABOVE" "[I") (Term.int (3 : Int32))) (Term.int (0 : Int32))).before args s = true := h _ (List.mem_of_getElem? (i := 15) (by decide +kernel))
theorem na_14 {args : Array Value} {s : State} (h : ∀ c ∈ flatC (Jvm.Cond.and given_1 narrow_1), c.before args s = true) : (Cond.eq (Term.elem (Term.static "RodDips" "KIND_ABOVE" "[I") (Term.int (4 : Int32))) (Term.int (2 : Int32))).before args s = true := h _ (List.mem_of_getElem? (i := 16) (by decide +kernel))
theorem na_15 {args : Array Value} {s : State} (h : ∀ c ∈ flatC (Jvm.Cond.and given_1 narrow_1), c.before args s = true) : (Cond.eq (Term.elem (Term.static "RodDips" "KIND_ABOVE" "[I") (Term.int (5 : Int32))) (Term.int (2 : Int32))).before args s = true := h _ (List.mem_of_getElem? (i := 17) (by decide +kernel))
theorem na_16 {args : Array Value} {s : State} (h : ∀ c ∈ flatC (Jvm.Cond.and given_1 narrow_1), c.before args s = true) : (Cond.eq (Term.elem (Term.static "RodDips" "KIND_ABOVE" "[I") (Term.int (6 : Int32))) (Term.int (3 : Int32))).before args s = true := h _ (List.mem_of_getElem? (i := 18) (by decide +kernel))
theorem env_arrspec {args : Array Value} {s : State} {ty : FieldType} (h : (Cond.arrayClass ty).before args s = true) : ∃ (cA : ClassId) (kA : Class) (comp : ClassId), s.vm.findClass ("[" ++ ty.toString) = some cA ∧ s.vm.classes[cA]? = some kA ∧ kA.kind = .array comp ty := by
  obtain ⟨cA, kA, comp, h1, h2, h3⟩ := Cond.arrayClass_spec h
  exact ⟨cA, kA, comp, h1, h2, h3⟩
def tmST : Nat → Term := fun i => match i with
  | 0 => .string "RodDips$Text" 28
  | 1 => .string "RodDips$Text" 30
  | 2 => .string "RodDips$Text" 52
  | 3 => .string "RodDips$Text" 54
  | 4 => .string "RodDips$Text" 56
  | 5 => .string "RodDips$Text" 58
  | 6 => .string "RodDips$Text" 60
  | 7 => .string "RodDips$Text" 62
  | 8 => .string "RodDips$Text" 64
  | 9 => .string "RodDips$Text" 66
  | 10 => .string "RodDips$Text" 68
  | 11 => .string "RodDips$Tape" 76
  | 12 => .string "RodDips$Tape" 112
  | 13 => .string "RodDips$Tape" 102
  | 14 => .string "RodDipsModel" 106
  | _ => .int 0
theorem env_ex {args : Array Value} {s : State} (h : ∀ c ∈ flatC (Jvm.Cond.and given_1 narrow_1), c.before args s = true) : ∀ i : Nat, i < nST → (Cond.exactly (tmST i) "java/lang/String").before args s = true := by
  intro i hi
  have hi : i < 15 := hi
  rcases (show i = 0 ∨ i = 1 ∨ i = 2 ∨ i = 3 ∨ i = 4 ∨ i = 5 ∨ i = 6 ∨ i = 7 ∨ i = 8 ∨ i = 9 ∨ i = 10 ∨ i = 11 ∨ i = 12 ∨ i = 13 ∨ i = 14 by omega) with rfl | rfl | rfl | rfl | rfl | rfl | rfl | rfl | rfl | rfl | rfl | rfl | rfl | rfl | rfl
  · exact na_37 h
  · exact na_46 h
  · exact na_58 h
  · exact na_64 h
  · exact na_75 h
  · exact na_88 h
  · exact na_102 h
  · exact na_117 h
  · exact na_133 h
  · exact na_148 h
  · exact na_164 h
  · exact na_182 h
  · exact na_198 h
  · exact na_217 h
  · exact na_334 h
theorem env_co {args : Array Value} {s : State} (h : ∀ c ∈ flatC (Jvm.Cond.and given_1 narrow_1), c.before args s = true) : ∀ i : Nat, i < nST → (Cond.eq (.field (tmST i) "java/lang/String" "coder" "B") (.int 0)).before args s = true := by
  intro i hi
  have hi : i < 15 := hi
  rcases (show i = 0 ∨ i = 1 ∨ i = 2 ∨ i = 3 ∨ i = 4 ∨ i = 5 ∨ i = 6 ∨ i = 7 ∨ i = 8 ∨ i = 9 ∨ i = 10 ∨ i = 11 ∨ i = 12 ∨ i = 13 ∨ i = 14 by omega) with rfl | rfl | rfl | rfl | rfl | rfl | rfl | rfl | rfl | rfl | rfl | rfl | rfl | rfl | rfl
  · exact na_38 h
  · exact na_47 h
  · exact na_59 h
  · exact na_65 h
  · exact na_76 h
  · exact na_89 h
  · exact na_103 h
  · exact na_118 h
  · exact na_134 h
  · exact na_149 h
  · exact na_165 h
  · exact na_183 h
  · exact na_199 h
  · exact na_218 h
  · exact na_335 h
theorem env_ar {args : Array Value} {s : State} (h : ∀ c ∈ flatC (Jvm.Cond.and given_1 narrow_1), c.before args s = true) : ∀ i : Nat, i < nST → (Cond.arrayOf (.field (tmST i) "java/lang/String" "value" "[B") .byte).before args s = true := by
  intro i hi
  have hi : i < 15 := hi
  rcases (show i = 0 ∨ i = 1 ∨ i = 2 ∨ i = 3 ∨ i = 4 ∨ i = 5 ∨ i = 6 ∨ i = 7 ∨ i = 8 ∨ i = 9 ∨ i = 10 ∨ i = 11 ∨ i = 12 ∨ i = 13 ∨ i = 14 by omega) with rfl | rfl | rfl | rfl | rfl | rfl | rfl | rfl | rfl | rfl | rfl | rfl | rfl | rfl | rfl
  · exact na_39 h
  · exact na_48 h
  · exact na_60 h
  · exact na_66 h
  · exact na_77 h
  · exact na_90 h
  · exact na_104 h
  · exact na_119 h
  · exact na_135 h
  · exact na_150 h
  · exact na_166 h
  · exact na_184 h
  · exact na_200 h
  · exact na_219 h
  · exact na_336 h
theorem env_le {args : Array Value} {s : State} (h : ∀ c ∈ flatC (Jvm.Cond.and given_1 narrow_1), c.before args s = true) : ∀ i : Nat, i < nST → (Cond.eq (.length (.field (tmST i) "java/lang/String" "value" "[B")) (.int (Int32.ofNat (lenST.getD i 0)))).before args s = true := by
  intro i hi
  have hi : i < 15 := hi
  rcases (show i = 0 ∨ i = 1 ∨ i = 2 ∨ i = 3 ∨ i = 4 ∨ i = 5 ∨ i = 6 ∨ i = 7 ∨ i = 8 ∨ i = 9 ∨ i = 10 ∨ i = 11 ∨ i = 12 ∨ i = 13 ∨ i = 14 by omega) with rfl | rfl | rfl | rfl | rfl | rfl | rfl | rfl | rfl | rfl | rfl | rfl | rfl | rfl | rfl
  · exact na_40 h
  · exact na_49 h
  · exact na_61 h
  · exact na_67 h
  · exact na_78 h
  · exact na_91 h
  · exact na_105 h
  · exact na_120 h
  · exact na_136 h
  · exact na_151 h
  · exact na_167 h
  · exact na_185 h
  · exact na_201 h
  · exact na_220 h
  · exact na_337 h
theorem env_el {args : Array Value} {s : State} (h : ∀ c ∈ flatC (Jvm.Cond.and given_1 narrow_1), c.before args s = true) : ∀ i : Nat, i < nST → ∀ j : Nat, j < lenST.getD i 0 → (Cond.eq (.elem (.field (tmST i) "java/lang/String" "value" "[B") (.int (Int32.ofNat j))) (.int ((bytST.getD i []).getD j 0))).before args s = true := by
  intro i hi
  have hi : i < 15 := hi
  rcases (show i = 0 ∨ i = 1 ∨ i = 2 ∨ i = 3 ∨ i = 4 ∨ i = 5 ∨ i = 6 ∨ i = 7 ∨ i = 8 ∨ i = 9 ∨ i = 10 ∨ i = 11 ∨ i = 12 ∨ i = 13 ∨ i = 14 by omega) with rfl | rfl | rfl | rfl | rfl | rfl | rfl | rfl | rfl | rfl | rfl | rfl | rfl | rfl | rfl
  · intro j hj
    have hj : j < 5 := hj
    rcases (show j = 0 ∨ j = 1 ∨ j = 2 ∨ j = 3 ∨ j = 4 by omega) with rfl | rfl | rfl | rfl | rfl
    · exact na_41 h
    · exact na_42 h
    · exact na_43 h
    · exact na_44 h
    · exact na_45 h
  · intro j hj
    have hj : j < 7 := hj
    rcases (show j = 0 ∨ j = 1 ∨ j = 2 ∨ j = 3 ∨ j = 4 ∨ j = 5 ∨ j = 6 by omega) with rfl | rfl | rfl | rfl | rfl | rfl | rfl
    · exact na_50 h
    · exact na_51 h
    · exact na_52 h
    · exact na_53 h
    · exact na_54 h
    · exact na_55 h
    · exact na_56 h
  · intro j hj; exact absurd hj (Nat.not_lt_zero j)
  · intro j hj
    have hj : j < 4 := hj
    rcases (show j = 0 ∨ j = 1 ∨ j = 2 ∨ j = 3 by omega) with rfl | rfl | rfl | rfl
    · exact na_68 h
    · exact na_69 h
    · exact na_70 h
    · exact na_71 h
  · intro j hj
    have hj : j < 5 := hj
    rcases (show j = 0 ∨ j = 1 ∨ j = 2 ∨ j = 3 ∨ j = 4 by omega) with rfl | rfl | rfl | rfl | rfl
    · exact na_79 h
    · exact na_80 h
    · exact na_81 h
    · exact na_82 h
    · exact na_83 h
  · intro j hj
    have hj : j < 5 := hj
    rcases (show j = 0 ∨ j = 1 ∨ j = 2 ∨ j = 3 ∨ j = 4 by omega) with rfl | rfl | rfl | rfl | rfl
    · exact na_92 h
    · exact na_93 h
    · exact na_94 h
    · exact na_95 h
    · exact na_96 h
  · intro j hj
    have hj : j < 5 := hj
    rcases (show j = 0 ∨ j = 1 ∨ j = 2 ∨ j = 3 ∨ j = 4 by omega) with rfl | rfl | rfl | rfl | rfl
    · exact na_106 h
    · exact na_107 h
    · exact na_108 h
    · exact na_109 h
    · exact na_110 h
  · intro j hj
    have hj : j < 5 := hj
    rcases (show j = 0 ∨ j = 1 ∨ j = 2 ∨ j = 3 ∨ j = 4 by omega) with rfl | rfl | rfl | rfl | rfl
    · exact na_121 h
    · exact na_122 h
    · exact na_123 h
    · exact na_124 h
    · exact na_125 h
  · intro j hj
    have hj : j < 3 := hj
    rcases (show j = 0 ∨ j = 1 ∨ j = 2 by omega) with rfl | rfl | rfl
    · exact na_137 h
    · exact na_138 h
    · exact na_139 h
  · intro j hj
    have hj : j < 3 := hj
    rcases (show j = 0 ∨ j = 1 ∨ j = 2 by omega) with rfl | rfl | rfl
    · exact na_152 h
    · exact na_153 h
    · exact na_154 h
  · intro j hj
    have hj : j < 4 := hj
    rcases (show j = 0 ∨ j = 1 ∨ j = 2 ∨ j = 3 by omega) with rfl | rfl | rfl | rfl
    · exact na_168 h
    · exact na_169 h
    · exact na_170 h
    · exact na_171 h
  · intro j hj
    have hj : j < 1 := hj
    rcases (show j = 0 by omega) with rfl
    · exact na_186 h
  · intro j hj
    have hj : j < 3 := hj
    rcases (show j = 0 ∨ j = 1 ∨ j = 2 by omega) with rfl | rfl | rfl
    · exact na_202 h
    · exact na_203 h
    · exact na_204 h
  · intro j hj
    have hj : j < 1 := hj
    rcases (show j = 0 by omega) with rfl
    · exact na_221 h
  · intro j hj
    have hj : j < 5 := hj
    rcases (show j = 0 ∨ j = 1 ∨ j = 2 ∨ j = 3 ∨ j = 4 by omega) with rfl | rfl | rfl | rfl | rfl
    · exact na_338 h
    · exact na_339 h
    · exact na_340 h
    · exact na_341 h
    · exact na_342 h
theorem env_ne {args : Array Value} {s : State} (h : ∀ c ∈ flatC (Jvm.Cond.and given_1 narrow_1), c.before args s = true) : ∀ i j : Nat, i < nST → j < nST → i ≠ j → (Cond.not (Cond.eq (tmST i) (tmST j))).before args s = true ∨ (Cond.not (Cond.eq (tmST j) (tmST i))).before args s = true := by
  intro i j hi
  have hi : i < 15 := hi
  rcases (show i = 0 ∨ i = 1 ∨ i = 2 ∨ i = 3 ∨ i = 4 ∨ i = 5 ∨ i = 6 ∨ i = 7 ∨ i = 8 ∨ i = 9 ∨ i = 10 ∨ i = 11 ∨ i = 12 ∨ i = 13 ∨ i = 14 by omega) with rfl | rfl | rfl | rfl | rfl | rfl | rfl | rfl | rfl | rfl | rfl | rfl | rfl | rfl | rfl
  · intro hj hij
    have hj : j < 15 := hj
    rcases (show j = 0 ∨ j = 1 ∨ j = 2 ∨ j = 3 ∨ j = 4 ∨ j = 5 ∨ j = 6 ∨ j = 7 ∨ j = 8 ∨ j = 9 ∨ j = 10 ∨ j = 11 ∨ j = 12 ∨ j = 13 ∨ j = 14 by omega) with rfl | rfl | rfl | rfl | rfl | rfl | rfl | rfl | rfl | rfl | rfl | rfl | rfl | rfl | rfl
    · exact absurd rfl hij
    · exact Or.inl (na_57 h)
    · exact Or.inl (na_62 h)
    · exact Or.inl (na_72 h)
    · exact Or.inl (na_84 h)
    · exact Or.inl (na_97 h)
    · exact Or.inl (na_111 h)
    · exact Or.inl (na_126 h)
    · exact Or.inl (na_140 h)
    · exact Or.inl (na_155 h)
    · exact Or.inl (na_172 h)
    · exact Or.inl (na_187 h)
    · exact Or.inl (na_205 h)
    · exact Or.inl (na_222 h)
    · exact Or.inl (na_343 h)
  · intro hj hij
    have hj : j < 15 := hj
    rcases (show j = 0 ∨ j = 1 ∨ j = 2 ∨ j = 3 ∨ j = 4 ∨ j = 5 ∨ j = 6 ∨ j = 7 ∨ j = 8 ∨ j = 9 ∨ j = 10 ∨ j = 11 ∨ j = 12 ∨ j = 13 ∨ j = 14 by omega) with rfl | rfl | rfl | rfl | rfl | rfl | rfl | rfl | rfl | rfl | rfl | rfl | rfl | rfl | rfl
    · exact Or.inr (na_57 h)
    · exact absurd rfl hij
    · exact Or.inl (na_63 h)
    · exact Or.inl (na_73 h)
    · exact Or.inl (na_85 h)
    · exact Or.inl (na_98 h)
    · exact Or.inl (na_112 h)
    · exact Or.inl (na_127 h)
    · exact Or.inl (na_141 h)
    · exact Or.inl (na_156 h)
    · exact Or.inl (na_173 h)
    · exact Or.inl (na_188 h)
    · exact Or.inl (na_206 h)
    · exact Or.inl (na_223 h)
    · exact Or.inl (na_344 h)
  · intro hj hij
    have hj : j < 15 := hj
    rcases (show j = 0 ∨ j = 1 ∨ j = 2 ∨ j = 3 ∨ j = 4 ∨ j = 5 ∨ j = 6 ∨ j = 7 ∨ j = 8 ∨ j = 9 ∨ j = 10 ∨ j = 11 ∨ j = 12 ∨ j = 13 ∨ j = 14 by omega) with rfl | rfl | rfl | rfl | rfl | rfl | rfl | rfl | rfl | rfl | rfl | rfl | rfl | rfl | rfl
    · exact Or.inr (na_62 h)
    · exact Or.inr (na_63 h)
    · exact absurd rfl hij
    · exact Or.inl (na_74 h)
    · exact Or.inl (na_86 h)
    · exact Or.inl (na_99 h)
    · exact Or.inl (na_113 h)
    · exact Or.inl (na_128 h)
    · exact Or.inl (na_142 h)
    · exact Or.inl (na_157 h)
    · exact Or.inl (na_174 h)
    · exact Or.inl (na_189 h)
    · exact Or.inl (na_207 h)
    · exact Or.inl (na_224 h)
    · exact Or.inl (na_345 h)
  · intro hj hij
    have hj : j < 15 := hj
    rcases (show j = 0 ∨ j = 1 ∨ j = 2 ∨ j = 3 ∨ j = 4 ∨ j = 5 ∨ j = 6 ∨ j = 7 ∨ j = 8 ∨ j = 9 ∨ j = 10 ∨ j = 11 ∨ j = 12 ∨ j = 13 ∨ j = 14 by omega) with rfl | rfl | rfl | rfl | rfl | rfl | rfl | rfl | rfl | rfl | rfl | rfl | rfl | rfl | rfl
    · exact Or.inr (na_72 h)
    · exact Or.inr (na_73 h)
    · exact Or.inr (na_74 h)
    · exact absurd rfl hij
    · exact Or.inl (na_87 h)
    · exact Or.inl (na_100 h)
    · exact Or.inl (na_114 h)
    · exact Or.inl (na_129 h)
    · exact Or.inl (na_143 h)
    · exact Or.inl (na_158 h)
    · exact Or.inl (na_175 h)
    · exact Or.inl (na_190 h)
    · exact Or.inl (na_208 h)
    · exact Or.inl (na_225 h)
    · exact Or.inl (na_346 h)
  · intro hj hij
    have hj : j < 15 := hj
    rcases (show j = 0 ∨ j = 1 ∨ j = 2 ∨ j = 3 ∨ j = 4 ∨ j = 5 ∨ j = 6 ∨ j = 7 ∨ j = 8 ∨ j = 9 ∨ j = 10 ∨ j = 11 ∨ j = 12 ∨ j = 13 ∨ j = 14 by omega) with rfl | rfl | rfl | rfl | rfl | rfl | rfl | rfl | rfl | rfl | rfl | rfl | rfl | rfl | rfl
    · exact Or.inr (na_84 h)
    · exact Or.inr (na_85 h)
    · exact Or.inr (na_86 h)
    · exact Or.inr (na_87 h)
    · exact absurd rfl hij
    · exact Or.inl (na_101 h)
    · exact Or.inl (na_115 h)
    · exact Or.inl (na_130 h)
    · exact Or.inl (na_144 h)
    · exact Or.inl (na_159 h)
    · exact Or.inl (na_176 h)
    · exact Or.inl (na_191 h)
    · exact Or.inl (na_209 h)
    · exact Or.inl (na_226 h)
    · exact Or.inl (na_347 h)
  · intro hj hij
    have hj : j < 15 := hj
    rcases (show j = 0 ∨ j = 1 ∨ j = 2 ∨ j = 3 ∨ j = 4 ∨ j = 5 ∨ j = 6 ∨ j = 7 ∨ j = 8 ∨ j = 9 ∨ j = 10 ∨ j = 11 ∨ j = 12 ∨ j = 13 ∨ j = 14 by omega) with rfl | rfl | rfl | rfl | rfl | rfl | rfl | rfl | rfl | rfl | rfl | rfl | rfl | rfl | rfl
    · exact Or.inr (na_97 h)
    · exact Or.inr (na_98 h)
    · exact Or.inr (na_99 h)
    · exact Or.inr (na_100 h)
    · exact Or.inr (na_101 h)
    · exact absurd rfl hij
    · exact Or.inl (na_116 h)
    · exact Or.inl (na_131 h)
    · exact Or.inl (na_145 h)
    · exact Or.inl (na_160 h)
    · exact Or.inl (na_177 h)
    · exact Or.inl (na_192 h)
    · exact Or.inl (na_210 h)
    · exact Or.inl (na_227 h)
    · exact Or.inl (na_348 h)
  · intro hj hij
    have hj : j < 15 := hj
    rcases (show j = 0 ∨ j = 1 ∨ j = 2 ∨ j = 3 ∨ j = 4 ∨ j = 5 ∨ j = 6 ∨ j = 7 ∨ j = 8 ∨ j = 9 ∨ j = 10 ∨ j = 11 ∨ j = 12 ∨ j = 13 ∨ j = 14 by omega) with rfl | rfl | rfl | rfl | rfl | rfl | rfl | rfl | rfl | rfl | rfl | rfl | rfl | rfl | rfl
    · exact Or.inr (na_111 h)
    · exact Or.inr (na_112 h)
    · exact Or.inr (na_113 h)
    · exact Or.inr (na_114 h)
    · exact Or.inr (na_115 h)
    · exact Or.inr (na_116 h)
    · exact absurd rfl hij
    · exact Or.inl (na_132 h)
    · exact Or.inl (na_146 h)
    · exact Or.inl (na_161 h)
    · exact Or.inl (na_178 h)
    · exact Or.inl (na_193 h)
    · exact Or.inl (na_211 h)
    · exact Or.inl (na_228 h)
    · exact Or.inl (na_349 h)
  · intro hj hij
    have hj : j < 15 := hj
    rcases (show j = 0 ∨ j = 1 ∨ j = 2 ∨ j = 3 ∨ j = 4 ∨ j = 5 ∨ j = 6 ∨ j = 7 ∨ j = 8 ∨ j = 9 ∨ j = 10 ∨ j = 11 ∨ j = 12 ∨ j = 13 ∨ j = 14 by omega) with rfl | rfl | rfl | rfl | rfl | rfl | rfl | rfl | rfl | rfl | rfl | rfl | rfl | rfl | rfl
    · exact Or.inr (na_126 h)
    · exact Or.inr (na_127 h)
    · exact Or.inr (na_128 h)
    · exact Or.inr (na_129 h)
    · exact Or.inr (na_130 h)
    · exact Or.inr (na_131 h)
    · exact Or.inr (na_132 h)
    · exact absurd rfl hij
    · exact Or.inl (na_147 h)
    · exact Or.inl (na_162 h)
    · exact Or.inl (na_179 h)
    · exact Or.inl (na_194 h)
    · exact Or.inl (na_212 h)
    · exact Or.inl (na_229 h)
    · exact Or.inl (na_350 h)
  · intro hj hij
    have hj : j < 15 := hj
    rcases (show j = 0 ∨ j = 1 ∨ j = 2 ∨ j = 3 ∨ j = 4 ∨ j = 5 ∨ j = 6 ∨ j = 7 ∨ j = 8 ∨ j = 9 ∨ j = 10 ∨ j = 11 ∨ j = 12 ∨ j = 13 ∨ j = 14 by omega) with rfl | rfl | rfl | rfl | rfl | rfl | rfl | rfl | rfl | rfl | rfl | rfl | rfl | rfl | rfl
    · exact Or.inr (na_140 h)
    · exact Or.inr (na_141 h)
    · exact Or.inr (na_142 h)
    · exact Or.inr (na_143 h)
    · exact Or.inr (na_144 h)
    · exact Or.inr (na_145 h)
    · exact Or.inr (na_146 h)
    · exact Or.inr (na_147 h)
    · exact absurd rfl hij
    · exact Or.inl (na_163 h)
    · exact Or.inl (na_180 h)
    · exact Or.inl (na_195 h)
    · exact Or.inl (na_213 h)
    · exact Or.inl (na_230 h)
    · exact Or.inl (na_351 h)
  · intro hj hij
    have hj : j < 15 := hj
    rcases (show j = 0 ∨ j = 1 ∨ j = 2 ∨ j = 3 ∨ j = 4 ∨ j = 5 ∨ j = 6 ∨ j = 7 ∨ j = 8 ∨ j = 9 ∨ j = 10 ∨ j = 11 ∨ j = 12 ∨ j = 13 ∨ j = 14 by omega) with rfl | rfl | rfl | rfl | rfl | rfl | rfl | rfl | rfl | rfl | rfl | rfl | rfl | rfl | rfl
    · exact Or.inr (na_155 h)
    · exact Or.inr (na_156 h)
    · exact Or.inr (na_157 h)
    · exact Or.inr (na_158 h)
    · exact Or.inr (na_159 h)
    · exact Or.inr (na_160 h)
    · exact Or.inr (na_161 h)
    · exact Or.inr (na_162 h)
    · exact Or.inr (na_163 h)
    · exact absurd rfl hij
    · exact Or.inl (na_181 h)
    · exact Or.inl (na_196 h)
    · exact Or.inl (na_214 h)
    · exact Or.inl (na_231 h)
    · exact Or.inl (na_352 h)
  · intro hj hij
    have hj : j < 15 := hj
    rcases (show j = 0 ∨ j = 1 ∨ j = 2 ∨ j = 3 ∨ j = 4 ∨ j = 5 ∨ j = 6 ∨ j = 7 ∨ j = 8 ∨ j = 9 ∨ j = 10 ∨ j = 11 ∨ j = 12 ∨ j = 13 ∨ j = 14 by omega) with rfl | rfl | rfl | rfl | rfl | rfl | rfl | rfl | rfl | rfl | rfl | rfl | rfl | rfl | rfl
    · exact Or.inr (na_172 h)
    · exact Or.inr (na_173 h)
    · exact Or.inr (na_174 h)
    · exact Or.inr (na_175 h)
    · exact Or.inr (na_176 h)
    · exact Or.inr (na_177 h)
    · exact Or.inr (na_178 h)
    · exact Or.inr (na_179 h)
    · exact Or.inr (na_180 h)
    · exact Or.inr (na_181 h)
    · exact absurd rfl hij
    · exact Or.inl (na_197 h)
    · exact Or.inl (na_215 h)
    · exact Or.inl (na_232 h)
    · exact Or.inl (na_353 h)
  · intro hj hij
    have hj : j < 15 := hj
    rcases (show j = 0 ∨ j = 1 ∨ j = 2 ∨ j = 3 ∨ j = 4 ∨ j = 5 ∨ j = 6 ∨ j = 7 ∨ j = 8 ∨ j = 9 ∨ j = 10 ∨ j = 11 ∨ j = 12 ∨ j = 13 ∨ j = 14 by omega) with rfl | rfl | rfl | rfl | rfl | rfl | rfl | rfl | rfl | rfl | rfl | rfl | rfl | rfl | rfl
    · exact Or.inr (na_187 h)
    · exact Or.inr (na_188 h)
    · exact Or.inr (na_189 h)
    · exact Or.inr (na_190 h)
    · exact Or.inr (na_191 h)
    · exact Or.inr (na_192 h)
    · exact Or.inr (na_193 h)
    · exact Or.inr (na_194 h)
    · exact Or.inr (na_195 h)
    · exact Or.inr (na_196 h)
    · exact Or.inr (na_197 h)
    · exact absurd rfl hij
    · exact Or.inl (na_216 h)
    · exact Or.inl (na_233 h)
    · exact Or.inl (na_354 h)
  · intro hj hij
    have hj : j < 15 := hj
    rcases (show j = 0 ∨ j = 1 ∨ j = 2 ∨ j = 3 ∨ j = 4 ∨ j = 5 ∨ j = 6 ∨ j = 7 ∨ j = 8 ∨ j = 9 ∨ j = 10 ∨ j = 11 ∨ j = 12 ∨ j = 13 ∨ j = 14 by omega) with rfl | rfl | rfl | rfl | rfl | rfl | rfl | rfl | rfl | rfl | rfl | rfl | rfl | rfl | rfl
    · exact Or.inr (na_205 h)
    · exact Or.inr (na_206 h)
    · exact Or.inr (na_207 h)
    · exact Or.inr (na_208 h)
    · exact Or.inr (na_209 h)
    · exact Or.inr (na_210 h)
    · exact Or.inr (na_211 h)
    · exact Or.inr (na_212 h)
    · exact Or.inr (na_213 h)
    · exact Or.inr (na_214 h)
    · exact Or.inr (na_215 h)
    · exact Or.inr (na_216 h)
    · exact absurd rfl hij
    · exact Or.inl (na_234 h)
    · exact Or.inl (na_355 h)
  · intro hj hij
    have hj : j < 15 := hj
    rcases (show j = 0 ∨ j = 1 ∨ j = 2 ∨ j = 3 ∨ j = 4 ∨ j = 5 ∨ j = 6 ∨ j = 7 ∨ j = 8 ∨ j = 9 ∨ j = 10 ∨ j = 11 ∨ j = 12 ∨ j = 13 ∨ j = 14 by omega) with rfl | rfl | rfl | rfl | rfl | rfl | rfl | rfl | rfl | rfl | rfl | rfl | rfl | rfl | rfl
    · exact Or.inr (na_222 h)
    · exact Or.inr (na_223 h)
    · exact Or.inr (na_224 h)
    · exact Or.inr (na_225 h)
    · exact Or.inr (na_226 h)
    · exact Or.inr (na_227 h)
    · exact Or.inr (na_228 h)
    · exact Or.inr (na_229 h)
    · exact Or.inr (na_230 h)
    · exact Or.inr (na_231 h)
    · exact Or.inr (na_232 h)
    · exact Or.inr (na_233 h)
    · exact Or.inr (na_234 h)
    · exact absurd rfl hij
    · exact Or.inl (na_356 h)
  · intro hj hij
    have hj : j < 15 := hj
    rcases (show j = 0 ∨ j = 1 ∨ j = 2 ∨ j = 3 ∨ j = 4 ∨ j = 5 ∨ j = 6 ∨ j = 7 ∨ j = 8 ∨ j = 9 ∨ j = 10 ∨ j = 11 ∨ j = 12 ∨ j = 13 ∨ j = 14 by omega) with rfl | rfl | rfl | rfl | rfl | rfl | rfl | rfl | rfl | rfl | rfl | rfl | rfl | rfl | rfl
    · exact Or.inr (na_343 h)
    · exact Or.inr (na_344 h)
    · exact Or.inr (na_345 h)
    · exact Or.inr (na_346 h)
    · exact Or.inr (na_347 h)
    · exact Or.inr (na_348 h)
    · exact Or.inr (na_349 h)
    · exact Or.inr (na_350 h)
    · exact Or.inr (na_351 h)
    · exact Or.inr (na_352 h)
    · exact Or.inr (na_353 h)
    · exact Or.inr (na_354 h)
    · exact Or.inr (na_355 h)
    · exact Or.inr (na_356 h)
    · exact absurd rfl hij
theorem env_refs {args : Array Value} {s : State} (h : ∀ c ∈ flatC (Jvm.Cond.and given_1 narrow_1), c.before args s = true) (hts : ∀ w ∈ lw_tbl, w.before args s = true) {ad : Nat → Nat} (ha : ∀ i : Nat, i < nST → (tmST i).eval args s none [] s = some (.ref (ad i))) : ∀ q ∈ refST, vk_R q.1 q.2.1 q.2.2.1 (ad q.2.2.2) s := by
  intro q hq
  have hm : ∀ {w : Cond} (i : Nat), tables_1[i]? = some w → w.before args s = true := fun i hi => hts _ (List.mem_append_right _ (List.mem_of_getElem? hi))
  simp only [refST, List.mem_cons, List.not_mem_nil, or_false] at hq
  rcases hq with rfl | rfl | rfl | rfl | rfl | rfl | rfl | rfl | rfl | rfl | rfl | rfl | rfl | rfl | rfl | rfl | rfl | rfl | rfl | rfl | rfl | rfl | rfl | rfl | rfl
  · exact vk_R.of (hm 91 (by decide +kernel)) (ha 0 (by decide))
  · exact vk_R.of (hm 92 (by decide +kernel)) (ha 1 (by decide))
  · exact vk_R.of (hm 394 (by decide +kernel)) (ha 2 (by decide))
  · exact vk_R.of (hm 395 (by decide +kernel)) (ha 3 (by decide))
  · exact vk_R.of (hm 396 (by decide +kernel)) (ha 4 (by decide))
  · exact vk_R.of (hm 397 (by decide +kernel)) (ha 5 (by decide))
  · exact vk_R.of (hm 398 (by decide +kernel)) (ha 6 (by decide))
  · exact vk_R.of (hm 399 (by decide +kernel)) (ha 7 (by decide))
  · exact vk_R.of (hm 400 (by decide +kernel)) (ha 8 (by decide))
  · exact vk_R.of (hm 401 (by decide +kernel)) (ha 9 (by decide))
  · exact vk_R.of (hm 402 (by decide +kernel)) (ha 10 (by decide))
  · exact vk_R.of (hm 471 (by decide +kernel)) (ha 11 (by decide))
  · exact vk_R.of (hm 547 (by decide +kernel)) (ha 12 (by decide))
  · exact vk_R.of (hm 552 (by decide +kernel)) (ha 13 (by decide))
  · exact vk_R.of (hm 1064 (by decide +kernel)) (va_eqR (na_246 h) (ha 3 (by decide)))
  · exact vk_R.of (hm 1083 (by decide +kernel)) (va_eqR (na_271 h) (ha 5 (by decide)))
  · exact vk_R.of (hm 1084 (by decide +kernel)) (va_eqR (na_296 h) (ha 6 (by decide)))
  · exact vk_R.of (hm 1105 (by decide +kernel)) (va_eqR (na_318 h) (ha 1 (by decide)))
  · exact vk_R.of (hm 1106 (by decide +kernel)) (ha 14 (by decide))
  · exact vk_R.of (hm 1111 (by decide +kernel)) (va_eqR (na_380 h) (ha 12 (by decide)))
  · exact vk_R.of (hm 1112 (by decide +kernel)) (va_eqR (na_403 h) (ha 7 (by decide)))
  · exact vk_R.of (hm 1117 (by decide +kernel)) (va_eqR (na_431 h) (ha 8 (by decide)))
  · exact vk_R.of (hm 1122 (by decide +kernel)) (va_eqR (na_460 h) (ha 9 (by decide)))
  · exact vk_R.of (hm 1123 (by decide +kernel)) (va_eqR (na_491 h) (ha 10 (by decide)))
  · exact vk_R.of (hm 1124 (by decide +kernel)) (va_eqR (na_517 h) (ha 4 (by decide)))

def rhoOk (ρ : Nat → Nat) : Prop := (∀ i j : Nat, i < nST → j < nST → ρ i = ρ j → i = j) ∧ ∀ i j : Nat, i < nST → j < nST → ρ (100 + i) = ρ (100 + j) → i = j
theorem texts_apart : ∀ i, i < 15 → ∀ j, j < 15 → lenST.getD i 0 = lenST.getD j 0 → (∀ k, k < lenST.getD i 0 → (bytST.getD i []).getD k 0 = (bytST.getD j []).getD k 0) → i = j := by decide +kernel
theorem env_classes {args : Array Value} {s : State} (hts : ∀ w ∈ lwG, w.before args s = true) : ∃ D : va_G, ∀ (k : Nat) (q : vw_C), vwCl[k]? = some q → u_Kn s q.1 q.2.1 q.2.2 (D.1 k) (D.2 k) := by
  have h : ∀ k : Nat, ∃ q : ClassId × (Nat → Nat), ∀ r : vw_C, vwCl[k]? = some r → u_Kn s r.1 r.2.1 r.2.2 q.1 q.2 := by
    intro k
    by_cases hk : k < 13
    · rcases (show k = 0 ∨ k = 1 ∨ k = 2 ∨ k = 3 ∨ k = 4 ∨ k = 5 ∨ k = 6 ∨ k = 7 ∨ k = 8 ∨ k = 9 ∨ k = 10 ∨ k = 11 ∨ k = 12 by omega) with rfl | rfl | rfl | rfl | rfl | rfl | rfl | rfl | rfl | rfl | rfl | rfl | rfl
      · obtain ⟨c, i, g⟩ := u_known (C := RX0) (T := TX0) (N := 9) (n := 9) hts inG0 (hts _ kw_256)
        exact ⟨(c, i), fun r hr => by cases hr; exact g⟩
      · obtain ⟨c, i, g⟩ := u_known (C := RX1) (T := TX1) (N := 9) (n := 9) hts inG1 (hts _ kw_304)
        exact ⟨(c, i), fun r hr => by cases hr; exact g⟩
      · obtain ⟨c, i, g⟩ := u_known (C := RX2) (T := TX2) (N := 9) (n := 9) hts inG2 (hts _ kw_210)
        exact ⟨(c, i), fun r hr => by cases hr; exact g⟩
      · obtain ⟨c, i, g⟩ := u_known (C := RX3) (T := TX3) (N := 9) (n := 9) hts inG3 (hts _ kw_288)
        exact ⟨(c, i), fun r hr => by cases hr; exact g⟩
      · obtain ⟨c, i, g⟩ := u_known (C := RX4) (T := TX4) (N := 3) (n := 3) hts inG4 (hts _ kw_54)
        exact ⟨(c, i), fun r hr => by cases hr; exact g⟩
      · obtain ⟨c, i, g⟩ := u_known (C := RX5) (T := TX5) (N := 9) (n := 9) hts inG5 (hts _ kw_272)
        exact ⟨(c, i), fun r hr => by cases hr; exact g⟩
      · obtain ⟨c, i, g⟩ := u_known (C := RX6) (T := TX6) (N := 3) (n := 3) hts inG6 (hts _ kw_34)
        exact ⟨(c, i), fun r hr => by cases hr; exact g⟩
      · obtain ⟨c, i, g⟩ := u_known (C := RX7) (T := TX7) (N := 11) (n := 11) hts inG7 (hts _ kw_86)
        exact ⟨(c, i), fun r hr => by cases hr; exact g⟩
      · obtain ⟨c, i, g⟩ := u_known (C := RX8) (T := TX8) (N := 2) (n := 2) hts inG8 (hts _ kw_72)
        exact ⟨(c, i), fun r hr => by cases hr; exact g⟩
      · obtain ⟨c, i, g⟩ := u_known (C := RX9) (T := TX9) (N := 9) (n := 9) hts inG9 (hts _ kw_335)
        exact ⟨(c, i), fun r hr => by cases hr; exact g⟩
      · obtain ⟨c, i, g⟩ := u_known (C := RX10) (T := TX10) (N := 9) (n := 9) hts inG10 (hts _ kw_320)
        exact ⟨(c, i), fun r hr => by cases hr; exact g⟩
      · obtain ⟨c, i, g⟩ := u_known (C := RX11) (T := TX11) (N := 18) (n := 18) hts inG11 (hts _ kw_24)
        exact ⟨(c, i), fun r hr => by cases hr; exact g⟩
      · obtain ⟨c, i, g⟩ := u_known (C := RX12) (T := TX12) (N := 20) (n := 20) hts inG12 (hts _ kw_940)
        exact ⟨(c, i), fun r hr => by cases hr; exact g⟩
    · exact ⟨(0, fun _ => 0), fun r hr => absurd (List.getElem?_eq_some_iff.mp hr).1 (by show ¬ k < 13; exact hk)⟩
  obtain ⟨f, hf⟩ := Classical.axiomOfChoice h
  exact ⟨(fun k => (f k).1, fun k => (f k).2), hf⟩
theorem env_arr {args : Array Value} {s : State} {ty : FieldType} (hty : ty = .int ∨ ty = .byte ∨ ty = .boolean ∨ ty = .long) (h : (Cond.arrayClass ty).before args s = true) : ∃ c : ClassId, ArrOfT s c ty ∧ va_RA s c ty := by
  obtain ⟨cA, kA, comp, h1, h2, h3⟩ := env_arrspec h
  refine ⟨cA, fun N z => ⟨(fun k q => by cases q), kA, h2, comp, h3⟩, ?_⟩
  rcases hty with rfl | rfl | rfl | rfl <;> exact h1
theorem env_ao {args : Array Value} {s : State} {C : String} (h : (Cond.arrayOver (.object C)).before args s = true) : ∃ c : ClassId, ArrOfT s c (.object C) ∧ va_RA s c (.object C) := by
  obtain ⟨comp, c, k, h1, h2, h3, h4, h5⟩ := Cond.arrayOver_spec h
  exact ⟨c, fun N z => ⟨(fun k q => by cases q), k, h3, comp, h4⟩, k, comp, h3, h4, h1, h5⟩
theorem env_ok {p : Program} {s : State} {m : MethodId} {meth : Method} {c : Code} {b L : Nat} {xs : Nat → Int32} (C0 : lw_At p s m meth c b L xs) : ∃ (D : va_G) (kA ρ : Nat → Nat), hqE D kA ρ s.heap s ∧ hqH D kA s.heap (fun _ => none, s.heap.size) s.heap ∧ rhoOk ρ := by
  obtain ⟨-, -, -, -, -, hts0, -, -, -, hgv⟩ := C0
  have hts : ∀ w ∈ lwG, w.before #[Value.ref b] s = true := fun w hw => hts0 w (lwG_tbl hw)
  have hm : ∀ {w : Cond} (i : Nat), tables_1[i]? = some w → w.before #[Value.ref b] s = true := fun i hi => hts0 _ (List.mem_append_right _ (List.mem_of_getElem? hi))
  have h := flat_of_before _ hgv
  have hA : ∀ a : Nat, a < s.heap.size → ¬ hFree s.heap a := fun a ha => Nat.not_le.mpr ha
  obtain ⟨D, hD⟩ := env_classes hts
  obtain ⟨k0, g0⟩ := env_arr (Or.inl rfl) (hts _ kw_85)
  obtain ⟨k1, g1⟩ := env_arr (Or.inr (Or.inl rfl)) (hts _ kw_50)
  obtain ⟨k2, g2⟩ := env_arr (Or.inr (Or.inr (Or.inl rfl))) (hts _ kw_1005)
  obtain ⟨k3, g3⟩ := env_arr (Or.inr (Or.inr (Or.inr rfl))) (hts _ kw_70)
  obtain ⟨k4, g4⟩ := env_ao (C := "RodDips$Try") (hm 32 (by decide +kernel))
  obtain ⟨k5, g5⟩ := env_ao (C := "RodDips$Text") (hm 52 (by decide +kernel))
  obtain ⟨adK, adV, hS, hev⟩ := vk_Sof (N := nST) (tm := tmST) (len := lenST) (byt := bytST) (A := hFree s.heap) (by decide +kernel) (env_ex h) (env_co h) (env_ar h) (env_le h) (env_el h) (env_ne h) hA
  obtain ⟨tK, hK1, hK2⟩ := va_Tof (N := 7) (f := fun j => .int (([-1, 0, 0, 0, 2, 2, 3] : List Int32).getD j 0)) (A := hFree s.heap) (by decide) (na_8 h) (va_eqt (na_9 h)) (by
    intro j hj
    rcases (show j = 0 ∨ j = 1 ∨ j = 2 ∨ j = 3 ∨ j = 4 ∨ j = 5 ∨ j = 6 by omega) with rfl | rfl | rfl | rfl | rfl | rfl | rfl
    · exact va_eqt (na_10 h)
    · exact va_eqt (na_11 h)
    · exact va_eqt (na_12 h)
    · exact va_eqt (na_13 h)
    · exact va_eqt (na_14 h)
    · exact va_eqt (na_15 h)
    · exact va_eqt (na_16 h)) hA
  let kA : Nat → ClassId := fun t => if t = 0 then k0 else if t = 1 then k1 else if t = 2 then k2 else if t = 3 then k3 else if t = 4 then k4 else k5
  let ρ : Nat → Nat := fun n => if n < 100 then adK n else if n < 200 then adV (n - 100) else tK
  have e1 : ∀ i : Nat, i < nST → ρ i = adK i := fun i hi => if_pos (by have : nST = 15 := rfl; omega)
  have e2 : ∀ i : Nat, i < nST → ρ (100 + i) = adV i := fun i hi => by
    have : nST = 15 := rfl
    show (if 100 + i < 100 then adK (100 + i) else if 100 + i < 200 then adV (100 + i - 100) else tK) = adV i
    rw [if_neg (by omega), if_pos (by omega), show 100 + i - 100 = i by omega]
  have hSr : vk_S nST lenST bytST ρ (fun i => ρ (100 + i)) (hFree s.heap) s s.heap := by
    refine ⟨fun i hi => ?_, fun i j hi hj e => hS.2 i j hi hj (by rw [← e1 i hi, ← e1 j hj]; exact e)⟩
    show va_O "java/lang/String" (ρ i) _ _ _ ∧ va_OF "java/lang/String" "coder" "B" (.int 0) (ρ i) _ _ _ ∧ va_OF "java/lang/String" "value" "[B" (.ref (ρ (100 + i))) (ρ i) _ _ _ ∧ va_T .byte (ρ (100 + i)) _ _ _ _ _
    rw [e1 i hi, e2 i hi]
    exact hS.1 i hi
  refine ⟨D, kA, ρ, ⟨⟨hD, ?_⟩, ?_, va_AO.of (hm 32 (by decide +kernel)), va_AO.of (hm 52 (by decide +kernel)), hSr, env_refs h hts0 (fun i hi => by rw [e1 i hi]; exact hev i hi), va_Zof (hm 420 (by decide +kernel)) (hts _ kw_15) (va_eqi (na_2 h)) hA, va_Zqof (hm 436 (by decide +kernel)) (hts _ kw_17) (na_3 h) hA, va_Zof (hm 918 (by decide +kernel)) (hts _ kw_1) hK1 hA, hK2⟩, ⟨rfl, fun _ _ => rfl, Nat.le_refl _, fun a e q => by cases q⟩, hSr.2, ?_⟩
  · intro k q hk
    have hl : k < 6 := (List.getElem?_eq_some_iff.mp hk).1
    rcases (show k = 0 ∨ k = 1 ∨ k = 2 ∨ k = 3 ∨ k = 4 ∨ k = 5 by omega) with rfl | rfl | rfl | rfl | rfl | rfl
    · cases hk; exact g0
    · cases hk; exact g1
    · cases hk; exact g2
    · cases hk; exact g3
    · cases hk; exact g4
    · cases hk; exact g5
  · intro w hw
    have hw1 := (List.mem_filter.mp hw).1
    have hw2 := (List.mem_filter.mp hw).2
    have hb := hts0 w (List.mem_append_right _ hw1)
    cases w <;> first | (simp [isNest] at hw2; done) | exact va_Nw.of rfl hb
  · intro i j hi hj e
    rw [e2 i hi, e2 j hj] at e
    obtain ⟨c1, q1, -, -, q4, q5, q6, -⟩ := (hS.1 i hi).2.2.2
    obtain ⟨c2, r1, -, -, r4, r5, r6, -⟩ := (hS.1 j hj).2.2.2
    rw [e] at q1
    cases q1.symm.trans r1
    have hlt : ∀ i, i < 15 → lenST.getD i 0 < 100 := by decide +kernel
    have hle : lenST.getD i 0 = lenST.getD j 0 := by
      have z := q5.symm.trans r5
      exact (nI_eq (Nat.lt_trans (hlt i hi) (by decide)) (Nat.lt_trans (hlt j hj) (by decide))).mp z
    refine texts_apart i hi j hj hle (fun k hk => ?_)
    have z := (q6 k hk).symm.trans (r6 k (by rw [← hle]; exact hk))
    exact Value.int.inj (Option.some.inj z)
