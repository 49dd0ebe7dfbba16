theorem q_0 : (Jvm.Cond.initialized "ForgeHeatsLaw") ∈ lw_T := lw_T_of (lw_in 0 (by decide +kernel)) rfl
theorem q_17 : (Jvm.Cond.classLink "ForgeHeatsLaw" (8 : Nat) "ForgeHeats") ∈ lw_T := lw_T_of (lw_in 17 (by decide +kernel)) rfl
theorem q_18 : (Jvm.Cond.instantiable "ForgeHeats" (5 : Nat)) ∈ lw_T := lw_T_of (lw_in 18 (by decide +kernel)) rfl
theorem q_19 : (Jvm.Cond.methodLink "ForgeHeatsLaw" (87 : Nat) ({ cls := "ForgeHeats", name := "<init>", desc := "()V" } : Jvm.MethodName)) ∈ lw_T := lw_T_of (lw_in 19 (by decide +kernel)) rfl
theorem q_20 : (Jvm.Cond.instanceMethod ({ cls := "ForgeHeats", name := "<init>", desc := "()V" } : Jvm.MethodName)) ∈ lw_T := lw_T_of (lw_in 20 (by decide +kernel)) rfl
theorem q_21 : (Jvm.Cond.code ({ cls := "ForgeHeats", name := "<init>", desc := "()V" } : Jvm.MethodName) prog_1_method_1_code (2 : Nat) (Option.none : Option Jvm.ClassFile.FieldType)) ∈ lw_T := lw_T_of (lw_in 21 (by decide +kernel)) rfl
theorem q_285 : (Jvm.Cond.methodLink "ForgeHeatsLaw" (131 : Nat) ({ cls := "ForgeHeats", name := "clearBuffer", desc := "()I" } : Jvm.MethodName)) ∈ lw_T := lw_T_of (lw_in 285 (by decide +kernel)) rfl
theorem q_286 : (Jvm.Cond.instanceMethod ({ cls := "ForgeHeats", name := "clearBuffer", desc := "()I" } : Jvm.MethodName)) ∈ lw_T := lw_T_of (lw_in 286 (by decide +kernel)) rfl
theorem q_287 : (Jvm.Cond.selects "ForgeHeats" ({ cls := "ForgeHeats", name := "clearBuffer", desc := "()I" } : Jvm.MethodName) ({ cls := "ForgeHeats", name := "clearBuffer", desc := "()I" } : Jvm.MethodName)) ∈ lw_T := lw_T_of (lw_in 287 (by decide +kernel)) rfl
theorem q_288 : (Jvm.Cond.code ({ cls := "ForgeHeats", name := "clearBuffer", desc := "()I" } : Jvm.MethodName) prog_1_method_12_code (1 : Nat) (Option.some Jvm.ClassFile.FieldType.int)) ∈ lw_T := lw_T_of (lw_in 288 (by decide +kernel)) rfl
theorem q_293 : (Jvm.Cond.methodLink "ForgeHeatsLaw" (135 : Nat) ({ cls := "ForgeHeats", name := "firstError", desc := "()I" } : Jvm.MethodName)) ∈ lw_T := lw_T_of (lw_in 293 (by decide +kernel)) rfl
theorem q_294 : (Jvm.Cond.instanceMethod ({ cls := "ForgeHeats", name := "firstError", desc := "()I" } : Jvm.MethodName)) ∈ lw_T := lw_T_of (lw_in 294 (by decide +kernel)) rfl
theorem q_295 : (Jvm.Cond.selects "ForgeHeats" ({ cls := "ForgeHeats", name := "firstError", desc := "()I" } : Jvm.MethodName) ({ cls := "ForgeHeats", name := "firstError", desc := "()I" } : Jvm.MethodName)) ∈ lw_T := lw_T_of (lw_in 295 (by decide +kernel)) rfl
theorem q_296 : (Jvm.Cond.code ({ cls := "ForgeHeats", name := "firstError", desc := "()I" } : Jvm.MethodName) prog_1_method_13_code (1 : Nat) (Option.some Jvm.ClassFile.FieldType.int)) ∈ lw_T := lw_T_of (lw_in 296 (by decide +kernel)) rfl
theorem q_329 : (Jvm.Cond.methodLink "ForgeHeatsLaw" (176 : Nat) ({ cls := "ForgeHeats", name := "saved", desc := "()D" } : Jvm.MethodName)) ∈ lw_T := lw_T_of (lw_in 329 (by decide +kernel)) rfl
theorem q_330 : (Jvm.Cond.instanceMethod ({ cls := "ForgeHeats", name := "saved", desc := "()D" } : Jvm.MethodName)) ∈ lw_T := lw_T_of (lw_in 330 (by decide +kernel)) rfl
theorem q_331 : (Jvm.Cond.selects "ForgeHeats" ({ cls := "ForgeHeats", name := "saved", desc := "()D" } : Jvm.MethodName) ({ cls := "ForgeHeats", name := "saved", desc := "()D" } : Jvm.MethodName)) ∈ lw_T := lw_T_of (lw_in 331 (by decide +kernel)) rfl
theorem q_332 : (Jvm.Cond.code ({ cls := "ForgeHeats", name := "saved", desc := "()D" } : Jvm.MethodName) prog_1_method_26_code (1 : Nat) (Option.some Jvm.ClassFile.FieldType.double)) ∈ lw_T := lw_T_of (lw_in 332 (by decide +kernel)) rfl
theorem q_349 : (Jvm.Cond.methodLink "ForgeHeatsLaw" (181 : Nat) ({ cls := "ForgeHeats", name := "digest", desc := "()J" } : Jvm.MethodName)) ∈ lw_T := lw_T_of (lw_in 349 (by decide +kernel)) rfl
theorem q_350 : (Jvm.Cond.instanceMethod ({ cls := "ForgeHeats", name := "digest", desc := "()J" } : Jvm.MethodName)) ∈ lw_T := lw_T_of (lw_in 350 (by decide +kernel)) rfl
theorem q_351 : (Jvm.Cond.selects "ForgeHeats" ({ cls := "ForgeHeats", name := "digest", desc := "()J" } : Jvm.MethodName) ({ cls := "ForgeHeats", name := "digest", desc := "()J" } : Jvm.MethodName)) ∈ lw_T := lw_T_of (lw_in 351 (by decide +kernel)) rfl
theorem q_352 : (Jvm.Cond.code ({ cls := "ForgeHeats", name := "digest", desc := "()J" } : Jvm.MethodName) prog_1_method_27_code (4 : Nat) (Option.some Jvm.ClassFile.FieldType.long)) ∈ lw_T := lw_T_of (lw_in 352 (by decide +kernel)) rfl
theorem q_582 : (Jvm.Cond.methodLink "ForgeHeatsLaw" (91 : Nat) ({ cls := "ForgeHeatsLaw", name := "stock", desc := "(LForgeHeats;II[J)I" } : Jvm.MethodName)) ∈ lw_T := lw_T_of (lw_in 582 (by decide +kernel)) rfl
theorem q_583 : (Jvm.Cond.static ({ cls := "ForgeHeatsLaw", name := "stock", desc := "(LForgeHeats;II[J)I" } : Jvm.MethodName)) ∈ lw_T := lw_T_of (lw_in 583 (by decide +kernel)) rfl
theorem q_584 : (Jvm.Cond.codeWith ({ cls := "ForgeHeatsLaw", name := "stock", desc := "(LForgeHeats;II[J)I" } : Jvm.MethodName) method_3_code (5 : Nat) (Option.some Jvm.ClassFile.FieldType.int) [((0 : Nat), (10 : Nat), (13 : Nat), (13 : Nat)), ((0 : Nat), (10 : Nat), (17 : Nat), (15 : Nat)), ((0 : Nat), (10 : Nat), (21 : Nat), (17 : Nat))]) ∈ lw_T := lw_T_of (lw_in 584 (by decide +kernel)) rfl
theorem q_708 : (Jvm.Cond.methodLink "ForgeHeatsLaw" (100 : Nat) ({ cls := "ForgeHeatsLaw", name := "range", desc := "(LForgeHeats;III[J)I" } : Jvm.MethodName)) ∈ lw_T := lw_T_of (lw_in 708 (by decide +kernel)) rfl
theorem q_709 : (Jvm.Cond.static ({ cls := "ForgeHeatsLaw", name := "range", desc := "(LForgeHeats;III[J)I" } : Jvm.MethodName)) ∈ lw_T := lw_T_of (lw_in 709 (by decide +kernel)) rfl
theorem q_710 : (Jvm.Cond.codeWith ({ cls := "ForgeHeatsLaw", name := "range", desc := "(LForgeHeats;III[J)I" } : Jvm.MethodName) method_4_code (6 : Nat) (Option.some Jvm.ClassFile.FieldType.int) [((0 : Nat), (12 : Nat), (15 : Nat), (13 : Nat)), ((0 : Nat), (12 : Nat), (19 : Nat), (15 : Nat))]) ∈ lw_T := lw_T_of (lw_in 710 (by decide +kernel)) rfl
theorem q_716 : (Jvm.Cond.methodLink "ForgeHeatsLaw" (104 : Nat) ({ cls := "ForgeHeatsLaw", name := "die", desc := "(LForgeHeats;III[J)I" } : Jvm.MethodName)) ∈ lw_T := lw_T_of (lw_in 716 (by decide +kernel)) rfl
theorem q_717 : (Jvm.Cond.static ({ cls := "ForgeHeatsLaw", name := "die", desc := "(LForgeHeats;III[J)I" } : Jvm.MethodName)) ∈ lw_T := lw_T_of (lw_in 717 (by decide +kernel)) rfl
theorem q_718 : (Jvm.Cond.codeWith ({ cls := "ForgeHeatsLaw", name := "die", desc := "(LForgeHeats;III[J)I" } : Jvm.MethodName) method_5_code (6 : Nat) (Option.some Jvm.ClassFile.FieldType.int) [((0 : Nat), (12 : Nat), (15 : Nat), (13 : Nat)), ((0 : Nat), (12 : Nat), (19 : Nat), (15 : Nat)), ((0 : Nat), (12 : Nat), (23 : Nat), (17 : Nat))]) ∈ lw_T := lw_T_of (lw_in 718 (by decide +kernel)) rfl
theorem q_727 : (Jvm.Cond.methodLink "ForgeHeatsLaw" (107 : Nat) ({ cls := "ForgeHeatsLaw", name := "grind", desc := "(LForgeHeats;I[J)I" } : Jvm.MethodName)) ∈ lw_T := lw_T_of (lw_in 727 (by decide +kernel)) rfl
theorem q_728 : (Jvm.Cond.static ({ cls := "ForgeHeatsLaw", name := "grind", desc := "(LForgeHeats;I[J)I" } : Jvm.MethodName)) ∈ lw_T := lw_T_of (lw_in 728 (by decide +kernel)) rfl
theorem q_729 : (Jvm.Cond.codeWith ({ cls := "ForgeHeatsLaw", name := "grind", desc := "(LForgeHeats;I[J)I" } : Jvm.MethodName) method_6_code (4 : Nat) (Option.some Jvm.ClassFile.FieldType.int) [((0 : Nat), (9 : Nat), (12 : Nat), (13 : Nat)), ((0 : Nat), (9 : Nat), (15 : Nat), (17 : Nat))]) ∈ lw_T := lw_T_of (lw_in 729 (by decide +kernel)) rfl
theorem q_735 : (Jvm.Cond.methodLink "ForgeHeatsLaw" (111 : Nat) ({ cls := "ForgeHeatsLaw", name := "job", desc := "(LForgeHeats;IIIIZ[J)I" } : Jvm.MethodName)) ∈ lw_T := lw_T_of (lw_in 735 (by decide +kernel)) rfl
theorem q_736 : (Jvm.Cond.static ({ cls := "ForgeHeatsLaw", name := "job", desc := "(LForgeHeats;IIIIZ[J)I" } : Jvm.MethodName)) ∈ lw_T := lw_T_of (lw_in 736 (by decide +kernel)) rfl
theorem q_737 : (Jvm.Cond.codeWith ({ cls := "ForgeHeatsLaw", name := "job", desc := "(LForgeHeats;IIIIZ[J)I" } : Jvm.MethodName) method_7_code (8 : Nat) (Option.some Jvm.ClassFile.FieldType.int) [((0 : Nat), (16 : Nat), (19 : Nat), (13 : Nat)), ((0 : Nat), (16 : Nat), (23 : Nat), (15 : Nat)), ((0 : Nat), (16 : Nat), (27 : Nat), (17 : Nat))]) ∈ lw_T := lw_T_of (lw_in 737 (by decide +kernel)) rfl
theorem q_749 : (Jvm.Cond.methodLink "ForgeHeatsLaw" (115 : Nat) ({ cls := "ForgeHeatsLaw", name := "cancel", desc := "(LForgeHeats;I[J)I" } : Jvm.MethodName)) ∈ lw_T := lw_T_of (lw_in 749 (by decide +kernel)) rfl
theorem q_750 : (Jvm.Cond.static ({ cls := "ForgeHeatsLaw", name := "cancel", desc := "(LForgeHeats;I[J)I" } : Jvm.MethodName)) ∈ lw_T := lw_T_of (lw_in 750 (by decide +kernel)) rfl
theorem q_751 : (Jvm.Cond.codeWith ({ cls := "ForgeHeatsLaw", name := "cancel", desc := "(LForgeHeats;I[J)I" } : Jvm.MethodName) method_8_code (4 : Nat) (Option.some Jvm.ClassFile.FieldType.int) [((0 : Nat), (9 : Nat), (12 : Nat), (13 : Nat))]) ∈ lw_T := lw_T_of (lw_in 751 (by decide +kernel)) rfl
theorem q_761 : (Jvm.Cond.methodLink "ForgeHeatsLaw" (118 : Nat) ({ cls := "ForgeHeatsLaw", name := "rush", desc := "(LForgeHeats;IZ[J)I" } : Jvm.MethodName)) ∈ lw_T := lw_T_of (lw_in 761 (by decide +kernel)) rfl
theorem q_762 : (Jvm.Cond.static ({ cls := "ForgeHeatsLaw", name := "rush", desc := "(LForgeHeats;IZ[J)I" } : Jvm.MethodName)) ∈ lw_T := lw_T_of (lw_in 762 (by decide +kernel)) rfl
theorem q_763 : (Jvm.Cond.codeWith ({ cls := "ForgeHeatsLaw", name := "rush", desc := "(LForgeHeats;IZ[J)I" } : Jvm.MethodName) method_9_code (5 : Nat) (Option.some Jvm.ClassFile.FieldType.int) [((0 : Nat), (10 : Nat), (13 : Nat), (13 : Nat))]) ∈ lw_T := lw_T_of (lw_in 763 (by decide +kernel)) rfl
theorem q_768 : (Jvm.Cond.methodLink "ForgeHeatsLaw" (122 : Nat) ({ cls := "ForgeHeatsLaw", name := "set", desc := "(LForgeHeats;II[J)I" } : Jvm.MethodName)) ∈ lw_T := lw_T_of (lw_in 768 (by decide +kernel)) rfl
theorem q_769 : (Jvm.Cond.static ({ cls := "ForgeHeatsLaw", name := "set", desc := "(LForgeHeats;II[J)I" } : Jvm.MethodName)) ∈ lw_T := lw_T_of (lw_in 769 (by decide +kernel)) rfl
theorem q_770 : (Jvm.Cond.codeWith ({ cls := "ForgeHeatsLaw", name := "set", desc := "(LForgeHeats;II[J)I" } : Jvm.MethodName) method_10_code (5 : Nat) (Option.some Jvm.ClassFile.FieldType.int) [((0 : Nat), (10 : Nat), (13 : Nat), (13 : Nat)), ((0 : Nat), (10 : Nat), (17 : Nat), (15 : Nat))]) ∈ lw_T := lw_T_of (lw_in 770 (by decide +kernel)) rfl
theorem q_787 : (Jvm.Cond.methodLink "ForgeHeatsLaw" (125 : Nat) ({ cls := "ForgeHeatsLaw", name := "pass", desc := "(LForgeHeats;I[J)I" } : Jvm.MethodName)) ∈ lw_T := lw_T_of (lw_in 787 (by decide +kernel)) rfl
theorem q_788 : (Jvm.Cond.static ({ cls := "ForgeHeatsLaw", name := "pass", desc := "(LForgeHeats;I[J)I" } : Jvm.MethodName)) ∈ lw_T := lw_T_of (lw_in 788 (by decide +kernel)) rfl
theorem q_789 : (Jvm.Cond.codeWith ({ cls := "ForgeHeatsLaw", name := "pass", desc := "(LForgeHeats;I[J)I" } : Jvm.MethodName) method_11_code (4 : Nat) (Option.some Jvm.ClassFile.FieldType.int) [((0 : Nat), (9 : Nat), (12 : Nat), (15 : Nat)), ((0 : Nat), (9 : Nat), (15 : Nat), (17 : Nat))]) ∈ lw_T := lw_T_of (lw_in 789 (by decide +kernel)) rfl
theorem q_796 : (Jvm.Cond.methodLink "ForgeHeatsLaw" (128 : Nat) ({ cls := "ForgeHeatsLaw", name := "append", desc := "(LForgeHeats;I[J)I" } : Jvm.MethodName)) ∈ lw_T := lw_T_of (lw_in 796 (by decide +kernel)) rfl
theorem q_797 : (Jvm.Cond.static ({ cls := "ForgeHeatsLaw", name := "append", desc := "(LForgeHeats;I[J)I" } : Jvm.MethodName)) ∈ lw_T := lw_T_of (lw_in 797 (by decide +kernel)) rfl
theorem q_798 : (Jvm.Cond.codeWith ({ cls := "ForgeHeatsLaw", name := "append", desc := "(LForgeHeats;I[J)I" } : Jvm.MethodName) method_12_code (4 : Nat) (Option.some Jvm.ClassFile.FieldType.int) [((0 : Nat), (9 : Nat), (12 : Nat), (15 : Nat)), ((0 : Nat), (9 : Nat), (15 : Nat), (17 : Nat))]) ∈ lw_T := lw_T_of (lw_in 798 (by decide +kernel)) rfl
theorem q_813 : (Jvm.Cond.methodLink "ForgeHeatsLaw" (139 : Nat) ({ cls := "ForgeHeatsLaw", name := "addAll", desc := "(LForgeHeats;[J)I" } : Jvm.MethodName)) ∈ lw_T := lw_T_of (lw_in 813 (by decide +kernel)) rfl
theorem q_814 : (Jvm.Cond.static ({ cls := "ForgeHeatsLaw", name := "addAll", desc := "(LForgeHeats;[J)I" } : Jvm.MethodName)) ∈ lw_T := lw_T_of (lw_in 814 (by decide +kernel)) rfl
theorem q_815 : (Jvm.Cond.codeWith ({ cls := "ForgeHeatsLaw", name := "addAll", desc := "(LForgeHeats;[J)I" } : Jvm.MethodName) method_13_code (3 : Nat) (Option.some Jvm.ClassFile.FieldType.int) [((0 : Nat), (8 : Nat), (11 : Nat), (15 : Nat)), ((0 : Nat), (8 : Nat), (14 : Nat), (17 : Nat))]) ∈ lw_T := lw_T_of (lw_in 815 (by decide +kernel)) rfl
theorem q_835 : (Jvm.Cond.methodLink "ForgeHeatsLaw" (143 : Nat) ({ cls := "ForgeHeatsLaw", name := "undo", desc := "(LForgeHeats;[J)I" } : Jvm.MethodName)) ∈ lw_T := lw_T_of (lw_in 835 (by decide +kernel)) rfl
theorem q_836 : (Jvm.Cond.static ({ cls := "ForgeHeatsLaw", name := "undo", desc := "(LForgeHeats;[J)I" } : Jvm.MethodName)) ∈ lw_T := lw_T_of (lw_in 836 (by decide +kernel)) rfl
theorem q_837 : (Jvm.Cond.codeWith ({ cls := "ForgeHeatsLaw", name := "undo", desc := "(LForgeHeats;[J)I" } : Jvm.MethodName) method_14_code (3 : Nat) (Option.some Jvm.ClassFile.FieldType.int) [((0 : Nat), (8 : Nat), (11 : Nat), (17 : Nat))]) ∈ lw_T := lw_T_of (lw_in 837 (by decide +kernel)) rfl
theorem q_843 : (Jvm.Cond.methodLink "ForgeHeatsLaw" (146 : Nat) ({ cls := "ForgeHeatsLaw", name := "heat", desc := "(LForgeHeats;II[J)I" } : Jvm.MethodName)) ∈ lw_T := lw_T_of (lw_in 843 (by decide +kernel)) rfl
theorem q_844 : (Jvm.Cond.static ({ cls := "ForgeHeatsLaw", name := "heat", desc := "(LForgeHeats;II[J)I" } : Jvm.MethodName)) ∈ lw_T := lw_T_of (lw_in 844 (by decide +kernel)) rfl
theorem q_845 : (Jvm.Cond.codeWith ({ cls := "ForgeHeatsLaw", name := "heat", desc := "(LForgeHeats;II[J)I" } : Jvm.MethodName) method_15_code (5 : Nat) (Option.some Jvm.ClassFile.FieldType.int) [((0 : Nat), (10 : Nat), (13 : Nat), (13 : Nat)), ((0 : Nat), (10 : Nat), (17 : Nat), (15 : Nat))]) ∈ lw_T := lw_T_of (lw_in 845 (by decide +kernel)) rfl
theorem q_851 : (Jvm.Cond.methodLink "ForgeHeatsLaw" (149 : Nat) ({ cls := "ForgeHeatsLaw", name := "dieOf", desc := "(LForgeHeats;II[J)I" } : Jvm.MethodName)) ∈ lw_T := lw_T_of (lw_in 851 (by decide +kernel)) rfl
theorem q_852 : (Jvm.Cond.static ({ cls := "ForgeHeatsLaw", name := "dieOf", desc := "(LForgeHeats;II[J)I" } : Jvm.MethodName)) ∈ lw_T := lw_T_of (lw_in 852 (by decide +kernel)) rfl
theorem q_853 : (Jvm.Cond.codeWith ({ cls := "ForgeHeatsLaw", name := "dieOf", desc := "(LForgeHeats;II[J)I" } : Jvm.MethodName) method_16_code (5 : Nat) (Option.some Jvm.ClassFile.FieldType.int) [((0 : Nat), (10 : Nat), (13 : Nat), (13 : Nat)), ((0 : Nat), (10 : Nat), (17 : Nat), (15 : Nat))]) ∈ lw_T := lw_T_of (lw_in 853 (by decide +kernel)) rfl
theorem q_858 : (Jvm.Cond.methodLink "ForgeHeatsLaw" (152 : Nat) ({ cls := "ForgeHeatsLaw", name := "jobOf", desc := "(LForgeHeats;II[J)I" } : Jvm.MethodName)) ∈ lw_T := lw_T_of (lw_in 858 (by decide +kernel)) rfl
theorem q_859 : (Jvm.Cond.static ({ cls := "ForgeHeatsLaw", name := "jobOf", desc := "(LForgeHeats;II[J)I" } : Jvm.MethodName)) ∈ lw_T := lw_T_of (lw_in 859 (by decide +kernel)) rfl
theorem q_860 : (Jvm.Cond.codeWith ({ cls := "ForgeHeatsLaw", name := "jobOf", desc := "(LForgeHeats;II[J)I" } : Jvm.MethodName) method_17_code (5 : Nat) (Option.some Jvm.ClassFile.FieldType.int) [((0 : Nat), (10 : Nat), (13 : Nat), (15 : Nat))]) ∈ lw_T := lw_T_of (lw_in 860 (by decide +kernel)) rfl
theorem q_866 : (Jvm.Cond.methodLink "ForgeHeatsLaw" (155 : Nat) ({ cls := "ForgeHeatsLaw", name := "billet", desc := "(LForgeHeats;II[J)I" } : Jvm.MethodName)) ∈ lw_T := lw_T_of (lw_in 866 (by decide +kernel)) rfl
theorem q_867 : (Jvm.Cond.static ({ cls := "ForgeHeatsLaw", name := "billet", desc := "(LForgeHeats;II[J)I" } : Jvm.MethodName)) ∈ lw_T := lw_T_of (lw_in 867 (by decide +kernel)) rfl
theorem q_868 : (Jvm.Cond.codeWith ({ cls := "ForgeHeatsLaw", name := "billet", desc := "(LForgeHeats;II[J)I" } : Jvm.MethodName) method_18_code (5 : Nat) (Option.some Jvm.ClassFile.FieldType.int) [((0 : Nat), (10 : Nat), (13 : Nat), (13 : Nat)), ((0 : Nat), (10 : Nat), (17 : Nat), (15 : Nat))]) ∈ lw_T := lw_T_of (lw_in 868 (by decide +kernel)) rfl
theorem q_874 : (Jvm.Cond.methodLink "ForgeHeatsLaw" (158 : Nat) ({ cls := "ForgeHeatsLaw", name := "count", desc := "(LForgeHeats;I[J)I" } : Jvm.MethodName)) ∈ lw_T := lw_T_of (lw_in 874 (by decide +kernel)) rfl
theorem q_875 : (Jvm.Cond.static ({ cls := "ForgeHeatsLaw", name := "count", desc := "(LForgeHeats;I[J)I" } : Jvm.MethodName)) ∈ lw_T := lw_T_of (lw_in 875 (by decide +kernel)) rfl
theorem q_876 : (Jvm.Cond.codeWith ({ cls := "ForgeHeatsLaw", name := "count", desc := "(LForgeHeats;I[J)I" } : Jvm.MethodName) method_19_code (4 : Nat) (Option.some Jvm.ClassFile.FieldType.int) [((0 : Nat), (9 : Nat), (12 : Nat), (15 : Nat))]) ∈ lw_T := lw_T_of (lw_in 876 (by decide +kernel)) rfl
theorem q_882 : (Jvm.Cond.methodLink "ForgeHeatsLaw" (161 : Nat) ({ cls := "ForgeHeatsLaw", name := "setting", desc := "(LForgeHeats;I[J)I" } : Jvm.MethodName)) ∈ lw_T := lw_T_of (lw_in 882 (by decide +kernel)) rfl
theorem q_883 : (Jvm.Cond.static ({ cls := "ForgeHeatsLaw", name := "setting", desc := "(LForgeHeats;I[J)I" } : Jvm.MethodName)) ∈ lw_T := lw_T_of (lw_in 883 (by decide +kernel)) rfl
theorem q_884 : (Jvm.Cond.codeWith ({ cls := "ForgeHeatsLaw", name := "setting", desc := "(LForgeHeats;I[J)I" } : Jvm.MethodName) method_20_code (4 : Nat) (Option.some Jvm.ClassFile.FieldType.int) [((0 : Nat), (9 : Nat), (12 : Nat), (13 : Nat))]) ∈ lw_T := lw_T_of (lw_in 884 (by decide +kernel)) rfl
theorem q_889 : (Jvm.Cond.methodLink "ForgeHeatsLaw" (164 : Nat) ({ cls := "ForgeHeatsLaw", name := "ifPassed", desc := "(LForgeHeats;II[J)I" } : Jvm.MethodName)) ∈ lw_T := lw_T_of (lw_in 889 (by decide +kernel)) rfl
theorem q_890 : (Jvm.Cond.static ({ cls := "ForgeHeatsLaw", name := "ifPassed", desc := "(LForgeHeats;II[J)I" } : Jvm.MethodName)) ∈ lw_T := lw_T_of (lw_in 890 (by decide +kernel)) rfl
theorem q_891 : (Jvm.Cond.codeWith ({ cls := "ForgeHeatsLaw", name := "ifPassed", desc := "(LForgeHeats;II[J)I" } : Jvm.MethodName) method_21_code (5 : Nat) (Option.some Jvm.ClassFile.FieldType.int) [((0 : Nat), (10 : Nat), (13 : Nat), (15 : Nat))]) ∈ lw_T := lw_T_of (lw_in 891 (by decide +kernel)) rfl
theorem q_897 : (Jvm.Cond.methodLink "ForgeHeatsLaw" (167 : Nat) ({ cls := "ForgeHeatsLaw", name := "doneIn", desc := "(LForgeHeats;I[J)I" } : Jvm.MethodName)) ∈ lw_T := lw_T_of (lw_in 897 (by decide +kernel)) rfl
theorem q_898 : (Jvm.Cond.static ({ cls := "ForgeHeatsLaw", name := "doneIn", desc := "(LForgeHeats;I[J)I" } : Jvm.MethodName)) ∈ lw_T := lw_T_of (lw_in 898 (by decide +kernel)) rfl
theorem q_899 : (Jvm.Cond.codeWith ({ cls := "ForgeHeatsLaw", name := "doneIn", desc := "(LForgeHeats;I[J)I" } : Jvm.MethodName) method_22_code (4 : Nat) (Option.some Jvm.ClassFile.FieldType.int) [((0 : Nat), (9 : Nat), (12 : Nat), (13 : Nat))]) ∈ lw_T := lw_T_of (lw_in 899 (by decide +kernel)) rfl
theorem q_904 : (Jvm.Cond.methodLink "ForgeHeatsLaw" (170 : Nat) ({ cls := "ForgeHeatsLaw", name := "ifRush", desc := "(LForgeHeats;I[J)I" } : Jvm.MethodName)) ∈ lw_T := lw_T_of (lw_in 904 (by decide +kernel)) rfl
theorem q_905 : (Jvm.Cond.static ({ cls := "ForgeHeatsLaw", name := "ifRush", desc := "(LForgeHeats;I[J)I" } : Jvm.MethodName)) ∈ lw_T := lw_T_of (lw_in 905 (by decide +kernel)) rfl
theorem q_906 : (Jvm.Cond.codeWith ({ cls := "ForgeHeatsLaw", name := "ifRush", desc := "(LForgeHeats;I[J)I" } : Jvm.MethodName) method_23_code (4 : Nat) (Option.some Jvm.ClassFile.FieldType.int) [((0 : Nat), (9 : Nat), (12 : Nat), (13 : Nat))]) ∈ lw_T := lw_T_of (lw_in 906 (by decide +kernel)) rfl
theorem q_911 : (Jvm.Cond.methodLink "ForgeHeatsLaw" (173 : Nat) ({ cls := "ForgeHeatsLaw", name := "bestReheats", desc := "(LForgeHeats;I[J)I" } : Jvm.MethodName)) ∈ lw_T := lw_T_of (lw_in 911 (by decide +kernel)) rfl
theorem q_912 : (Jvm.Cond.static ({ cls := "ForgeHeatsLaw", name := "bestReheats", desc := "(LForgeHeats;I[J)I" } : Jvm.MethodName)) ∈ lw_T := lw_T_of (lw_in 912 (by decide +kernel)) rfl
theorem q_913 : (Jvm.Cond.codeWith ({ cls := "ForgeHeatsLaw", name := "bestReheats", desc := "(LForgeHeats;I[J)I" } : Jvm.MethodName) method_24_code (4 : Nat) (Option.some Jvm.ClassFile.FieldType.int) [((0 : Nat), (9 : Nat), (12 : Nat), (15 : Nat))]) ∈ lw_T := lw_T_of (lw_in 913 (by decide +kernel)) rfl
theorem q_918 : (Jvm.Cond.classLink "ForgeHeatsLaw" (88 : Nat) "ForgeHeatsModel") ∈ lw_T := lw_T_of (lw_in 918 (by decide +kernel)) rfl
theorem q_919 : (Jvm.Cond.instantiable "ForgeHeatsModel" (12 : Nat)) ∈ lw_T := lw_T_of (lw_in 919 (by decide +kernel)) rfl
theorem q_920 : (Jvm.Cond.methodLink "ForgeHeatsLaw" (90 : Nat) ({ cls := "ForgeHeatsModel", name := "<init>", desc := "()V" } : Jvm.MethodName)) ∈ lw_T := lw_T_of (lw_in 920 (by decide +kernel)) rfl
theorem q_921 : (Jvm.Cond.instanceMethod ({ cls := "ForgeHeatsModel", name := "<init>", desc := "()V" } : Jvm.MethodName)) ∈ lw_T := lw_T_of (lw_in 921 (by decide +kernel)) rfl
theorem q_922 : (Jvm.Cond.code ({ cls := "ForgeHeatsModel", name := "<init>", desc := "()V" } : Jvm.MethodName) prog_9_method_1_code (2 : Nat) (Option.none : Option Jvm.ClassFile.FieldType)) ∈ lw_T := lw_T_of (lw_in 922 (by decide +kernel)) rfl
theorem q_962 : (Jvm.Cond.methodLink "ForgeHeatsLaw" (97 : Nat) ({ cls := "ForgeHeatsModel", name := "thrown", desc := "()I" } : Jvm.MethodName)) ∈ lw_T := lw_T_of (lw_in 962 (by decide +kernel)) rfl
theorem q_963 : (Jvm.Cond.instanceMethod ({ cls := "ForgeHeatsModel", name := "thrown", desc := "()I" } : Jvm.MethodName)) ∈ lw_T := lw_T_of (lw_in 963 (by decide +kernel)) rfl
theorem q_964 : (Jvm.Cond.selects "ForgeHeatsModel" ({ cls := "ForgeHeatsModel", name := "thrown", desc := "()I" } : Jvm.MethodName) ({ cls := "ForgeHeatsModel", name := "thrown", desc := "()I" } : Jvm.MethodName)) ∈ lw_T := lw_T_of (lw_in 964 (by decide +kernel)) rfl
theorem q_965 : (Jvm.Cond.code ({ cls := "ForgeHeatsModel", name := "thrown", desc := "()I" } : Jvm.MethodName) prog_9_method_2_code (1 : Nat) (Option.some Jvm.ClassFile.FieldType.int)) ∈ lw_T := lw_T_of (lw_in 965 (by decide +kernel)) rfl
theorem q_966 : (Jvm.Cond.methodLink "ForgeHeatsLaw" (96 : Nat) ({ cls := "ForgeHeatsModel", name := "stock", desc := "(II)I" } : Jvm.MethodName)) ∈ lw_T := lw_T_of (lw_in 966 (by decide +kernel)) rfl
theorem q_967 : (Jvm.Cond.instanceMethod ({ cls := "ForgeHeatsModel", name := "stock", desc := "(II)I" } : Jvm.MethodName)) ∈ lw_T := lw_T_of (lw_in 967 (by decide +kernel)) rfl
theorem q_968 : (Jvm.Cond.selects "ForgeHeatsModel" ({ cls := "ForgeHeatsModel", name := "stock", desc := "(II)I" } : Jvm.MethodName) ({ cls := "ForgeHeatsModel", name := "stock", desc := "(II)I" } : Jvm.MethodName)) ∈ lw_T := lw_T_of (lw_in 968 (by decide +kernel)) rfl
theorem q_969 : (Jvm.Cond.code ({ cls := "ForgeHeatsModel", name := "stock", desc := "(II)I" } : Jvm.MethodName) prog_9_method_41_code (3 : Nat) (Option.some Jvm.ClassFile.FieldType.int)) ∈ lw_T := lw_T_of (lw_in 969 (by decide +kernel)) rfl
theorem q_988 : (Jvm.Cond.methodLink "ForgeHeatsLaw" (103 : Nat) ({ cls := "ForgeHeatsModel", name := "range", desc := "(III)I" } : Jvm.MethodName)) ∈ lw_T := lw_T_of (lw_in 988 (by decide +kernel)) rfl
theorem q_989 : (Jvm.Cond.instanceMethod ({ cls := "ForgeHeatsModel", name := "range", desc := "(III)I" } : Jvm.MethodName)) ∈ lw_T := lw_T_of (lw_in 989 (by decide +kernel)) rfl
theorem q_990 : (Jvm.Cond.selects "ForgeHeatsModel" ({ cls := "ForgeHeatsModel", name := "range", desc := "(III)I" } : Jvm.MethodName) ({ cls := "ForgeHeatsModel", name := "range", desc := "(III)I" } : Jvm.MethodName)) ∈ lw_T := lw_T_of (lw_in 990 (by decide +kernel)) rfl
theorem q_991 : (Jvm.Cond.code ({ cls := "ForgeHeatsModel", name := "range", desc := "(III)I" } : Jvm.MethodName) prog_9_method_42_code (5 : Nat) (Option.some Jvm.ClassFile.FieldType.int)) ∈ lw_T := lw_T_of (lw_in 991 (by decide +kernel)) rfl
theorem q_992 : (Jvm.Cond.methodLink "ForgeHeatsLaw" (106 : Nat) ({ cls := "ForgeHeatsModel", name := "die", desc := "(III)I" } : Jvm.MethodName)) ∈ lw_T := lw_T_of (lw_in 992 (by decide +kernel)) rfl
theorem q_993 : (Jvm.Cond.instanceMethod ({ cls := "ForgeHeatsModel", name := "die", desc := "(III)I" } : Jvm.MethodName)) ∈ lw_T := lw_T_of (lw_in 993 (by decide +kernel)) rfl
theorem q_994 : (Jvm.Cond.selects "ForgeHeatsModel" ({ cls := "ForgeHeatsModel", name := "die", desc := "(III)I" } : Jvm.MethodName) ({ cls := "ForgeHeatsModel", name := "die", desc := "(III)I" } : Jvm.MethodName)) ∈ lw_T := lw_T_of (lw_in 994 (by decide +kernel)) rfl
theorem q_995 : (Jvm.Cond.code ({ cls := "ForgeHeatsModel", name := "die", desc := "(III)I" } : Jvm.MethodName) prog_9_method_43_code (5 : Nat) (Option.some Jvm.ClassFile.FieldType.int)) ∈ lw_T := lw_T_of (lw_in 995 (by decide +kernel)) rfl
theorem q_1007 : (Jvm.Cond.methodLink "ForgeHeatsLaw" (110 : Nat) ({ cls := "ForgeHeatsModel", name := "grind", desc := "(I)I" } : Jvm.MethodName)) ∈ lw_T := lw_T_of (lw_in 1007 (by decide +kernel)) rfl
theorem q_1008 : (Jvm.Cond.instanceMethod ({ cls := "ForgeHeatsModel", name := "grind", desc := "(I)I" } : Jvm.MethodName)) ∈ lw_T := lw_T_of (lw_in 1008 (by decide +kernel)) rfl
theorem q_1009 : (Jvm.Cond.selects "ForgeHeatsModel" ({ cls := "ForgeHeatsModel", name := "grind", desc := "(I)I" } : Jvm.MethodName) ({ cls := "ForgeHeatsModel", name := "grind", desc := "(I)I" } : Jvm.MethodName)) ∈ lw_T := lw_T_of (lw_in 1009 (by decide +kernel)) rfl
theorem q_1010 : (Jvm.Cond.code ({ cls := "ForgeHeatsModel", name := "grind", desc := "(I)I" } : Jvm.MethodName) prog_9_method_44_code (2 : Nat) (Option.some Jvm.ClassFile.FieldType.int)) ∈ lw_T := lw_T_of (lw_in 1010 (by decide +kernel)) rfl
theorem q_1015 : (Jvm.Cond.methodLink "ForgeHeatsLaw" (114 : Nat) ({ cls := "ForgeHeatsModel", name := "job", desc := "(IIIIZ)I" } : Jvm.MethodName)) ∈ lw_T := lw_T_of (lw_in 1015 (by decide +kernel)) rfl
theorem q_1016 : (Jvm.Cond.instanceMethod ({ cls := "ForgeHeatsModel", name := "job", desc := "(IIIIZ)I" } : Jvm.MethodName)) ∈ lw_T := lw_T_of (lw_in 1016 (by decide +kernel)) rfl
theorem q_1017 : (Jvm.Cond.selects "ForgeHeatsModel" ({ cls := "ForgeHeatsModel", name := "job", desc := "(IIIIZ)I" } : Jvm.MethodName) ({ cls := "ForgeHeatsModel", name := "job", desc := "(IIIIZ)I" } : Jvm.MethodName)) ∈ lw_T := lw_T_of (lw_in 1017 (by decide +kernel)) rfl
theorem q_1018 : (Jvm.Cond.code ({ cls := "ForgeHeatsModel", name := "job", desc := "(IIIIZ)I" } : Jvm.MethodName) prog_9_method_46_code (6 : Nat) (Option.some Jvm.ClassFile.FieldType.int)) ∈ lw_T := lw_T_of (lw_in 1018 (by decide +kernel)) rfl
theorem q_1023 : (Jvm.Cond.methodLink "ForgeHeatsLaw" (117 : Nat) ({ cls := "ForgeHeatsModel", name := "cancel", desc := "(I)I" } : Jvm.MethodName)) ∈ lw_T := lw_T_of (lw_in 1023 (by decide +kernel)) rfl
theorem q_1024 : (Jvm.Cond.instanceMethod ({ cls := "ForgeHeatsModel", name := "cancel", desc := "(I)I" } : Jvm.MethodName)) ∈ lw_T := lw_T_of (lw_in 1024 (by decide +kernel)) rfl
theorem q_1025 : (Jvm.Cond.selects "ForgeHeatsModel" ({ cls := "ForgeHeatsModel", name := "cancel", desc := "(I)I" } : Jvm.MethodName) ({ cls := "ForgeHeatsModel", name := "cancel", desc := "(I)I" } : Jvm.MethodName)) ∈ lw_T := lw_T_of (lw_in 1025 (by decide +kernel)) rfl
theorem q_1026 : (Jvm.Cond.code ({ cls := "ForgeHeatsModel", name := "cancel", desc := "(I)I" } : Jvm.MethodName) prog_9_method_47_code (5 : Nat) (Option.some Jvm.ClassFile.FieldType.int)) ∈ lw_T := lw_T_of (lw_in 1026 (by decide +kernel)) rfl
theorem q_1059 : (Jvm.Cond.methodLink "ForgeHeatsLaw" (121 : Nat) ({ cls := "ForgeHeatsModel", name := "rush", desc := "(IZ)I" } : Jvm.MethodName)) ∈ lw_T := lw_T_of (lw_in 1059 (by decide +kernel)) rfl
theorem q_1060 : (Jvm.Cond.instanceMethod ({ cls := "ForgeHeatsModel", name := "rush", desc := "(IZ)I" } : Jvm.MethodName)) ∈ lw_T := lw_T_of (lw_in 1060 (by decide +kernel)) rfl
theorem q_1061 : (Jvm.Cond.selects "ForgeHeatsModel" ({ cls := "ForgeHeatsModel", name := "rush", desc := "(IZ)I" } : Jvm.MethodName) ({ cls := "ForgeHeatsModel", name := "rush", desc := "(IZ)I" } : Jvm.MethodName)) ∈ lw_T := lw_T_of (lw_in 1061 (by decide +kernel)) rfl
theorem q_1062 : (Jvm.Cond.code ({ cls := "ForgeHeatsModel", name := "rush", desc := "(IZ)I" } : Jvm.MethodName) prog_9_method_48_code (4 : Nat) (Option.some Jvm.ClassFile.FieldType.int)) ∈ lw_T := lw_T_of (lw_in 1062 (by decide +kernel)) rfl
theorem q_1071 : (Jvm.Cond.methodLink "ForgeHeatsLaw" (124 : Nat) ({ cls := "ForgeHeatsModel", name := "set", desc := "(II)I" } : Jvm.MethodName)) ∈ lw_T := lw_T_of (lw_in 1071 (by decide +kernel)) rfl
theorem q_1072 : (Jvm.Cond.instanceMethod ({ cls := "ForgeHeatsModel", name := "set", desc := "(II)I" } : Jvm.MethodName)) ∈ lw_T := lw_T_of (lw_in 1072 (by decide +kernel)) rfl
theorem q_1073 : (Jvm.Cond.selects "ForgeHeatsModel" ({ cls := "ForgeHeatsModel", name := "set", desc := "(II)I" } : Jvm.MethodName) ({ cls := "ForgeHeatsModel", name := "set", desc := "(II)I" } : Jvm.MethodName)) ∈ lw_T := lw_T_of (lw_in 1073 (by decide +kernel)) rfl
theorem q_1074 : (Jvm.Cond.code ({ cls := "ForgeHeatsModel", name := "set", desc := "(II)I" } : Jvm.MethodName) prog_9_method_50_code (4 : Nat) (Option.some Jvm.ClassFile.FieldType.int)) ∈ lw_T := lw_T_of (lw_in 1074 (by decide +kernel)) rfl
theorem q_1078 : (Jvm.Cond.methodLink "ForgeHeatsLaw" (127 : Nat) ({ cls := "ForgeHeatsModel", name := "pass", desc := "(I)I" } : Jvm.MethodName)) ∈ lw_T := lw_T_of (lw_in 1078 (by decide +kernel)) rfl
theorem q_1079 : (Jvm.Cond.instanceMethod ({ cls := "ForgeHeatsModel", name := "pass", desc := "(I)I" } : Jvm.MethodName)) ∈ lw_T := lw_T_of (lw_in 1079 (by decide +kernel)) rfl
theorem q_1080 : (Jvm.Cond.selects "ForgeHeatsModel" ({ cls := "ForgeHeatsModel", name := "pass", desc := "(I)I" } : Jvm.MethodName) ({ cls := "ForgeHeatsModel", name := "pass", desc := "(I)I" } : Jvm.MethodName)) ∈ lw_T := lw_T_of (lw_in 1080 (by decide +kernel)) rfl
theorem q_1081 : (Jvm.Cond.code ({ cls := "ForgeHeatsModel", name := "pass", desc := "(I)I" } : Jvm.MethodName) prog_9_method_51_code (2 : Nat) (Option.some Jvm.ClassFile.FieldType.int)) ∈ lw_T := lw_T_of (lw_in 1081 (by decide +kernel)) rfl
theorem q_1150 : (Jvm.Cond.methodLink "ForgeHeatsLaw" (130 : Nat) ({ cls := "ForgeHeatsModel", name := "append", desc := "(I)I" } : Jvm.MethodName)) ∈ lw_T := lw_T_of (lw_in 1150 (by decide +kernel)) rfl
theorem q_1151 : (Jvm.Cond.instanceMethod ({ cls := "ForgeHeatsModel", name := "append", desc := "(I)I" } : Jvm.MethodName)) ∈ lw_T := lw_T_of (lw_in 1151 (by decide +kernel)) rfl
theorem q_1152 : (Jvm.Cond.selects "ForgeHeatsModel" ({ cls := "ForgeHeatsModel", name := "append", desc := "(I)I" } : Jvm.MethodName) ({ cls := "ForgeHeatsModel", name := "append", desc := "(I)I" } : Jvm.MethodName)) ∈ lw_T := lw_T_of (lw_in 1152 (by decide +kernel)) rfl
theorem q_1153 : (Jvm.Cond.code ({ cls := "ForgeHeatsModel", name := "append", desc := "(I)I" } : Jvm.MethodName) prog_9_method_52_code (2 : Nat) (Option.some Jvm.ClassFile.FieldType.int)) ∈ lw_T := lw_T_of (lw_in 1153 (by decide +kernel)) rfl
theorem q_1154 : (Jvm.Cond.methodLink "ForgeHeatsLaw" (134 : Nat) ({ cls := "ForgeHeatsModel", name := "clearBuffer", desc := "()I" } : Jvm.MethodName)) ∈ lw_T := lw_T_of (lw_in 1154 (by decide +kernel)) rfl
theorem q_1155 : (Jvm.Cond.instanceMethod ({ cls := "ForgeHeatsModel", name := "clearBuffer", desc := "()I" } : Jvm.MethodName)) ∈ lw_T := lw_T_of (lw_in 1155 (by decide +kernel)) rfl
theorem q_1156 : (Jvm.Cond.selects "ForgeHeatsModel" ({ cls := "ForgeHeatsModel", name := "clearBuffer", desc := "()I" } : Jvm.MethodName) ({ cls := "ForgeHeatsModel", name := "clearBuffer", desc := "()I" } : Jvm.MethodName)) ∈ lw_T := lw_T_of (lw_in 1156 (by decide +kernel)) rfl
theorem q_1157 : (Jvm.Cond.code ({ cls := "ForgeHeatsModel", name := "clearBuffer", desc := "()I" } : Jvm.MethodName) prog_9_method_53_code (2 : Nat) (Option.some Jvm.ClassFile.FieldType.int)) ∈ lw_T := lw_T_of (lw_in 1157 (by decide +kernel)) rfl
theorem q_1158 : (Jvm.Cond.methodLink "ForgeHeatsLaw" (138 : Nat) ({ cls := "ForgeHeatsModel", name := "firstError", desc := "()I" } : Jvm.MethodName)) ∈ lw_T := lw_T_of (lw_in 1158 (by decide +kernel)) rfl
theorem q_1159 : (Jvm.Cond.instanceMethod ({ cls := "ForgeHeatsModel", name := "firstError", desc := "()I" } : Jvm.MethodName)) ∈ lw_T := lw_T_of (lw_in 1159 (by decide +kernel)) rfl
theorem q_1160 : (Jvm.Cond.selects "ForgeHeatsModel" ({ cls := "ForgeHeatsModel", name := "firstError", desc := "()I" } : Jvm.MethodName) ({ cls := "ForgeHeatsModel", name := "firstError", desc := "()I" } : Jvm.MethodName)) ∈ lw_T := lw_T_of (lw_in 1160 (by decide +kernel)) rfl
theorem q_1161 : (Jvm.Cond.code ({ cls := "ForgeHeatsModel", name := "firstError", desc := "()I" } : Jvm.MethodName) prog_9_method_59_code (1 : Nat) (Option.some Jvm.ClassFile.FieldType.int)) ∈ lw_T := lw_T_of (lw_in 1161 (by decide +kernel)) rfl
theorem q_1182 : (Jvm.Cond.methodLink "ForgeHeatsLaw" (142 : Nat) ({ cls := "ForgeHeatsModel", name := "addAll", desc := "()I" } : Jvm.MethodName)) ∈ lw_T := lw_T_of (lw_in 1182 (by decide +kernel)) rfl
theorem q_1183 : (Jvm.Cond.instanceMethod ({ cls := "ForgeHeatsModel", name := "addAll", desc := "()I" } : Jvm.MethodName)) ∈ lw_T := lw_T_of (lw_in 1183 (by decide +kernel)) rfl
theorem q_1184 : (Jvm.Cond.selects "ForgeHeatsModel" ({ cls := "ForgeHeatsModel", name := "addAll", desc := "()I" } : Jvm.MethodName) ({ cls := "ForgeHeatsModel", name := "addAll", desc := "()I" } : Jvm.MethodName)) ∈ lw_T := lw_T_of (lw_in 1184 (by decide +kernel)) rfl
theorem q_1185 : (Jvm.Cond.code ({ cls := "ForgeHeatsModel", name := "addAll", desc := "()I" } : Jvm.MethodName) prog_9_method_60_code (2 : Nat) (Option.some Jvm.ClassFile.FieldType.int)) ∈ lw_T := lw_T_of (lw_in 1185 (by decide +kernel)) rfl
theorem q_1186 : (Jvm.Cond.methodLink "ForgeHeatsLaw" (145 : Nat) ({ cls := "ForgeHeatsModel", name := "undo", desc := "()I" } : Jvm.MethodName)) ∈ lw_T := lw_T_of (lw_in 1186 (by decide +kernel)) rfl
theorem q_1187 : (Jvm.Cond.instanceMethod ({ cls := "ForgeHeatsModel", name := "undo", desc := "()I" } : Jvm.MethodName)) ∈ lw_T := lw_T_of (lw_in 1187 (by decide +kernel)) rfl
theorem q_1188 : (Jvm.Cond.selects "ForgeHeatsModel" ({ cls := "ForgeHeatsModel", name := "undo", desc := "()I" } : Jvm.MethodName) ({ cls := "ForgeHeatsModel", name := "undo", desc := "()I" } : Jvm.MethodName)) ∈ lw_T := lw_T_of (lw_in 1188 (by decide +kernel)) rfl
theorem q_1189 : (Jvm.Cond.code ({ cls := "ForgeHeatsModel", name := "undo", desc := "()I" } : Jvm.MethodName) prog_9_method_61_code (2 : Nat) (Option.some Jvm.ClassFile.FieldType.int)) ∈ lw_T := lw_T_of (lw_in 1189 (by decide +kernel)) rfl
theorem q_1190 : (Jvm.Cond.methodLink "ForgeHeatsLaw" (148 : Nat) ({ cls := "ForgeHeatsModel", name := "heat", desc := "(II)I" } : Jvm.MethodName)) ∈ lw_T := lw_T_of (lw_in 1190 (by decide +kernel)) rfl
theorem q_1191 : (Jvm.Cond.instanceMethod ({ cls := "ForgeHeatsModel", name := "heat", desc := "(II)I" } : Jvm.MethodName)) ∈ lw_T := lw_T_of (lw_in 1191 (by decide +kernel)) rfl
theorem q_1192 : (Jvm.Cond.selects "ForgeHeatsModel" ({ cls := "ForgeHeatsModel", name := "heat", desc := "(II)I" } : Jvm.MethodName) ({ cls := "ForgeHeatsModel", name := "heat", desc := "(II)I" } : Jvm.MethodName)) ∈ lw_T := lw_T_of (lw_in 1192 (by decide +kernel)) rfl
theorem q_1193 : (Jvm.Cond.code ({ cls := "ForgeHeatsModel", name := "heat", desc := "(II)I" } : Jvm.MethodName) prog_9_method_65_code (3 : Nat) (Option.some Jvm.ClassFile.FieldType.int)) ∈ lw_T := lw_T_of (lw_in 1193 (by decide +kernel)) rfl
theorem q_1206 : (Jvm.Cond.methodLink "ForgeHeatsLaw" (151 : Nat) ({ cls := "ForgeHeatsModel", name := "dieOf", desc := "(II)I" } : Jvm.MethodName)) ∈ lw_T := lw_T_of (lw_in 1206 (by decide +kernel)) rfl
theorem q_1207 : (Jvm.Cond.instanceMethod ({ cls := "ForgeHeatsModel", name := "dieOf", desc := "(II)I" } : Jvm.MethodName)) ∈ lw_T := lw_T_of (lw_in 1207 (by decide +kernel)) rfl
theorem q_1208 : (Jvm.Cond.selects "ForgeHeatsModel" ({ cls := "ForgeHeatsModel", name := "dieOf", desc := "(II)I" } : Jvm.MethodName) ({ cls := "ForgeHeatsModel", name := "dieOf", desc := "(II)I" } : Jvm.MethodName)) ∈ lw_T := lw_T_of (lw_in 1208 (by decide +kernel)) rfl
theorem q_1209 : (Jvm.Cond.code ({ cls := "ForgeHeatsModel", name := "dieOf", desc := "(II)I" } : Jvm.MethodName) prog_9_method_67_code (3 : Nat) (Option.some Jvm.ClassFile.FieldType.int)) ∈ lw_T := lw_T_of (lw_in 1209 (by decide +kernel)) rfl
theorem q_1214 : (Jvm.Cond.methodLink "ForgeHeatsLaw" (154 : Nat) ({ cls := "ForgeHeatsModel", name := "jobOf", desc := "(II)I" } : Jvm.MethodName)) ∈ lw_T := lw_T_of (lw_in 1214 (by decide +kernel)) rfl
theorem q_1215 : (Jvm.Cond.instanceMethod ({ cls := "ForgeHeatsModel", name := "jobOf", desc := "(II)I" } : Jvm.MethodName)) ∈ lw_T := lw_T_of (lw_in 1215 (by decide +kernel)) rfl
theorem q_1216 : (Jvm.Cond.selects "ForgeHeatsModel" ({ cls := "ForgeHeatsModel", name := "jobOf", desc := "(II)I" } : Jvm.MethodName) ({ cls := "ForgeHeatsModel", name := "jobOf", desc := "(II)I" } : Jvm.MethodName)) ∈ lw_T := lw_T_of (lw_in 1216 (by decide +kernel)) rfl
theorem q_1217 : (Jvm.Cond.code ({ cls := "ForgeHeatsModel", name := "jobOf", desc := "(II)I" } : Jvm.MethodName) prog_9_method_70_code (3 : Nat) (Option.some Jvm.ClassFile.FieldType.int)) ∈ lw_T := lw_T_of (lw_in 1217 (by decide +kernel)) rfl
theorem q_1226 : (Jvm.Cond.methodLink "ForgeHeatsLaw" (157 : Nat) ({ cls := "ForgeHeatsModel", name := "billet", desc := "(II)I" } : Jvm.MethodName)) ∈ lw_T := lw_T_of (lw_in 1226 (by decide +kernel)) rfl
theorem q_1227 : (Jvm.Cond.instanceMethod ({ cls := "ForgeHeatsModel", name := "billet", desc := "(II)I" } : Jvm.MethodName)) ∈ lw_T := lw_T_of (lw_in 1227 (by decide +kernel)) rfl
theorem q_1228 : (Jvm.Cond.selects "ForgeHeatsModel" ({ cls := "ForgeHeatsModel", name := "billet", desc := "(II)I" } : Jvm.MethodName) ({ cls := "ForgeHeatsModel", name := "billet", desc := "(II)I" } : Jvm.MethodName)) ∈ lw_T := lw_T_of (lw_in 1228 (by decide +kernel)) rfl
theorem q_1229 : (Jvm.Cond.code ({ cls := "ForgeHeatsModel", name := "billet", desc := "(II)I" } : Jvm.MethodName) prog_9_method_72_code (3 : Nat) (Option.some Jvm.ClassFile.FieldType.int)) ∈ lw_T := lw_T_of (lw_in 1229 (by decide +kernel)) rfl
theorem q_1234 : (Jvm.Cond.methodLink "ForgeHeatsLaw" (160 : Nat) ({ cls := "ForgeHeatsModel", name := "count", desc := "(I)I" } : Jvm.MethodName)) ∈ lw_T := lw_T_of (lw_in 1234 (by decide +kernel)) rfl
theorem q_1235 : (Jvm.Cond.instanceMethod ({ cls := "ForgeHeatsModel", name := "count", desc := "(I)I" } : Jvm.MethodName)) ∈ lw_T := lw_T_of (lw_in 1235 (by decide +kernel)) rfl
theorem q_1236 : (Jvm.Cond.selects "ForgeHeatsModel" ({ cls := "ForgeHeatsModel", name := "count", desc := "(I)I" } : Jvm.MethodName) ({ cls := "ForgeHeatsModel", name := "count", desc := "(I)I" } : Jvm.MethodName)) ∈ lw_T := lw_T_of (lw_in 1236 (by decide +kernel)) rfl
theorem q_1237 : (Jvm.Cond.code ({ cls := "ForgeHeatsModel", name := "count", desc := "(I)I" } : Jvm.MethodName) prog_9_method_76_code (2 : Nat) (Option.some Jvm.ClassFile.FieldType.int)) ∈ lw_T := lw_T_of (lw_in 1237 (by decide +kernel)) rfl
theorem q_1250 : (Jvm.Cond.methodLink "ForgeHeatsLaw" (163 : Nat) ({ cls := "ForgeHeatsModel", name := "setting", desc := "(I)I" } : Jvm.MethodName)) ∈ lw_T := lw_T_of (lw_in 1250 (by decide +kernel)) rfl
theorem q_1251 : (Jvm.Cond.instanceMethod ({ cls := "ForgeHeatsModel", name := "setting", desc := "(I)I" } : Jvm.MethodName)) ∈ lw_T := lw_T_of (lw_in 1251 (by decide +kernel)) rfl
theorem q_1252 : (Jvm.Cond.selects "ForgeHeatsModel" ({ cls := "ForgeHeatsModel", name := "setting", desc := "(I)I" } : Jvm.MethodName) ({ cls := "ForgeHeatsModel", name := "setting", desc := "(I)I" } : Jvm.MethodName)) ∈ lw_T := lw_T_of (lw_in 1252 (by decide +kernel)) rfl
theorem q_1253 : (Jvm.Cond.code ({ cls := "ForgeHeatsModel", name := "setting", desc := "(I)I" } : Jvm.MethodName) prog_9_method_77_code (2 : Nat) (Option.some Jvm.ClassFile.FieldType.int)) ∈ lw_T := lw_T_of (lw_in 1253 (by decide +kernel)) rfl
theorem q_1254 : (Jvm.Cond.methodLink "ForgeHeatsLaw" (166 : Nat) ({ cls := "ForgeHeatsModel", name := "ifPassed", desc := "(II)I" } : Jvm.MethodName)) ∈ lw_T := lw_T_of (lw_in 1254 (by decide +kernel)) rfl
theorem q_1255 : (Jvm.Cond.instanceMethod ({ cls := "ForgeHeatsModel", name := "ifPassed", desc := "(II)I" } : Jvm.MethodName)) ∈ lw_T := lw_T_of (lw_in 1255 (by decide +kernel)) rfl
theorem q_1256 : (Jvm.Cond.selects "ForgeHeatsModel" ({ cls := "ForgeHeatsModel", name := "ifPassed", desc := "(II)I" } : Jvm.MethodName) ({ cls := "ForgeHeatsModel", name := "ifPassed", desc := "(II)I" } : Jvm.MethodName)) ∈ lw_T := lw_T_of (lw_in 1256 (by decide +kernel)) rfl
theorem q_1257 : (Jvm.Cond.code ({ cls := "ForgeHeatsModel", name := "ifPassed", desc := "(II)I" } : Jvm.MethodName) prog_9_method_79_code (3 : Nat) (Option.some Jvm.ClassFile.FieldType.int)) ∈ lw_T := lw_T_of (lw_in 1257 (by decide +kernel)) rfl
theorem q_1270 : (Jvm.Cond.methodLink "ForgeHeatsLaw" (169 : Nat) ({ cls := "ForgeHeatsModel", name := "doneIn", desc := "(I)I" } : Jvm.MethodName)) ∈ lw_T := lw_T_of (lw_in 1270 (by decide +kernel)) rfl
theorem q_1271 : (Jvm.Cond.instanceMethod ({ cls := "ForgeHeatsModel", name := "doneIn", desc := "(I)I" } : Jvm.MethodName)) ∈ lw_T := lw_T_of (lw_in 1271 (by decide +kernel)) rfl
theorem q_1272 : (Jvm.Cond.selects "ForgeHeatsModel" ({ cls := "ForgeHeatsModel", name := "doneIn", desc := "(I)I" } : Jvm.MethodName) ({ cls := "ForgeHeatsModel", name := "doneIn", desc := "(I)I" } : Jvm.MethodName)) ∈ lw_T := lw_T_of (lw_in 1272 (by decide +kernel)) rfl
theorem q_1273 : (Jvm.Cond.code ({ cls := "ForgeHeatsModel", name := "doneIn", desc := "(I)I" } : Jvm.MethodName) prog_9_method_81_code (2 : Nat) (Option.some Jvm.ClassFile.FieldType.int)) ∈ lw_T := lw_T_of (lw_in 1273 (by decide +kernel)) rfl
theorem q_1278 : (Jvm.Cond.methodLink "ForgeHeatsLaw" (172 : Nat) ({ cls := "ForgeHeatsModel", name := "ifRush", desc := "(I)I" } : Jvm.MethodName)) ∈ lw_T := lw_T_of (lw_in 1278 (by decide +kernel)) rfl
theorem q_1279 : (Jvm.Cond.instanceMethod ({ cls := "ForgeHeatsModel", name := "ifRush", desc := "(I)I" } : Jvm.MethodName)) ∈ lw_T := lw_T_of (lw_in 1279 (by decide +kernel)) rfl
theorem q_1280 : (Jvm.Cond.selects "ForgeHeatsModel" ({ cls := "ForgeHeatsModel", name := "ifRush", desc := "(I)I" } : Jvm.MethodName) ({ cls := "ForgeHeatsModel", name := "ifRush", desc := "(I)I" } : Jvm.MethodName)) ∈ lw_T := lw_T_of (lw_in 1280 (by decide +kernel)) rfl
theorem q_1281 : (Jvm.Cond.code ({ cls := "ForgeHeatsModel", name := "ifRush", desc := "(I)I" } : Jvm.MethodName) prog_9_method_83_code (2 : Nat) (Option.some Jvm.ClassFile.FieldType.int)) ∈ lw_T := lw_T_of (lw_in 1281 (by decide +kernel)) rfl
theorem q_1286 : (Jvm.Cond.methodLink "ForgeHeatsLaw" (175 : Nat) ({ cls := "ForgeHeatsModel", name := "bestReheats", desc := "(I)I" } : Jvm.MethodName)) ∈ lw_T := lw_T_of (lw_in 1286 (by decide +kernel)) rfl
theorem q_1287 : (Jvm.Cond.instanceMethod ({ cls := "ForgeHeatsModel", name := "bestReheats", desc := "(I)I" } : Jvm.MethodName)) ∈ lw_T := lw_T_of (lw_in 1287 (by decide +kernel)) rfl
theorem q_1288 : (Jvm.Cond.selects "ForgeHeatsModel" ({ cls := "ForgeHeatsModel", name := "bestReheats", desc := "(I)I" } : Jvm.MethodName) ({ cls := "ForgeHeatsModel", name := "bestReheats", desc := "(I)I" } : Jvm.MethodName)) ∈ lw_T := lw_T_of (lw_in 1288 (by decide +kernel)) rfl
theorem q_1289 : (Jvm.Cond.code ({ cls := "ForgeHeatsModel", name := "bestReheats", desc := "(I)I" } : Jvm.MethodName) prog_9_method_85_code (2 : Nat) (Option.some Jvm.ClassFile.FieldType.int)) ∈ lw_T := lw_T_of (lw_in 1289 (by decide +kernel)) rfl
theorem q_1294 : (Jvm.Cond.methodLink "ForgeHeatsLaw" (180 : Nat) ({ cls := "ForgeHeatsModel", name := "saved", desc := "()D" } : Jvm.MethodName)) ∈ lw_T := lw_T_of (lw_in 1294 (by decide +kernel)) rfl
theorem q_1298 : (Jvm.Cond.methodLink "ForgeHeatsLaw" (185 : Nat) ({ cls := "ForgeHeatsModel", name := "digest", desc := "()J" } : Jvm.MethodName)) ∈ lw_T := lw_T_of (lw_in 1298 (by decide +kernel)) rfl
theorem q_1299 : (Jvm.Cond.instanceMethod ({ cls := "ForgeHeatsModel", name := "digest", desc := "()J" } : Jvm.MethodName)) ∈ lw_T := lw_T_of (lw_in 1299 (by decide +kernel)) rfl
theorem q_1300 : (Jvm.Cond.selects "ForgeHeatsModel" ({ cls := "ForgeHeatsModel", name := "digest", desc := "()J" } : Jvm.MethodName) ({ cls := "ForgeHeatsModel", name := "digest", desc := "()J" } : Jvm.MethodName)) ∈ lw_T := lw_T_of (lw_in 1300 (by decide +kernel)) rfl
theorem q_1301 : (Jvm.Cond.code ({ cls := "ForgeHeatsModel", name := "digest", desc := "()J" } : Jvm.MethodName) prog_9_method_89_code (3 : Nat) (Option.some Jvm.ClassFile.FieldType.long)) ∈ lw_T := lw_T_of (lw_in 1301 (by decide +kernel)) rfl
theorem q_1323 : (Jvm.Cond.arrayClass Jvm.ClassFile.FieldType.long) ∈ lw_T := lw_T_of (lw_in 1323 (by decide +kernel)) rfl
theorem yd_X6_init : yX6_init.cls ≠ "java/lang/invoke/MethodHandle" ∧ yX6_init.cls ≠ "java/lang/invoke/VarHandle" ∧ (parseMethodDescriptor yX6_init.desc).map (fun d => d.parameters.length) = some 0 := by decide +kernel
theorem yd_X7_init : yX7_init.cls ≠ "java/lang/invoke/MethodHandle" ∧ yX7_init.cls ≠ "java/lang/invoke/VarHandle" ∧ (parseMethodDescriptor yX7_init.desc).map (fun d => d.parameters.length) = some 0 := by decide +kernel
/-! THE CLAIM OUT OF ONE WALK OF THE LAW'S BODY. Your part is whole_start (and what it stands on); all else here is the same for every law, but numbers. -/
def R_law : String := "ForgeHeatsLaw"
def lw_P (b : Addr) (xs : List Int32) (args : Array Value) (s : State) : Prop := args = #[.ref b] ∧ s.IntsAt b xs ∧ xs.length ≤ 3072 ∧ (Jvm.Cond.and given_1 narrow_1).before args s = true
/-- what a walk over the start with the record d0 says of its end, said of the start itself -/
theorem lw_closed {s t : State} {o : Outcome} {d0 : Drawn} {L : List Loc} {k n : Nat} (hd0 : s.drawn.sameBut d0 lw_cs) (hv : ∃ v, o = .returned v) (hW : (s.setDrawn d0).WarmedH t.vm) (hs : (s.setDrawn d0).sameButNew ({ t with vm := s.vm } : State) L k n) : State.butDraws s t lw_cs (fun t1 => Framed s o t1 L k n) := by
  have h2 : t.drawn = d0 := congrArg State.drawn hs.1
  refine ⟨⟨hv, hW, State.sameButNew.setDrawn hs s.drawn⟩, ?_, by decide⟩
  rw [h2]
  exact hd0
def lw_Q (_ : Array Value) (s : State) (o : Outcome) (t : State) : Prop := o = .returned (some (.int 1)) ∧ State.butDraws s t lw_cs (fun t1 => Framed s o t1 [] 601024 7293034)
def lw_Z (below : List Frame) (a : Array Value) (s : State) : State → Prop := fun t => ∃ o, t.status = .running ∧ Ended t below o ∧ lw_Q a s o t
/-- the law's own end, with 1 on the stack, nothing written that was there before, its room as the claim has it; d0: the record of draws at this point (at the entry s.drawn: begin with 'refine W.base ?_' and 'have hd0 := Drawn.sameBut.refl s.drawn lw_cs') -/
theorem lw_ret {p : Program} {l : Launch} {e : Env} {s : State} {m : MethodId} {below : List Frame} {meth : Method} {c : Code} {b : Nat} {d0 : Drawn} (hd0 : s.drawn.sameBut d0 lw_cs) (hx : p.tables.exec = Jvm.exec) (hb : c.code = code) (hr : meth.sig.returnType = ret) (hlocks : meth.locks = false) {pc : Nat} {H : Heap} {ls : Array Slot} (hdg : decode code pc = .ok (.ireturn, 1)) : W p l e room_1 (s.setDrawn d0) m #[Value.ref b] below meth c H [] 601024 7293034 (lw_Z below #[Value.ref b] s) (F0 m pc ls [.int 1]) := by
  intro T hT X
  obtain ⟨fs, hret, hrun, hended, hW, hframe⟩ := X.leave (v := some (.int 1)) (hlocks := hlocks) (fun h => by rw [hr] at h; cases h)
  have hmeth' : T.vm.method? m = some meth := X.method'
  refine ⟨T.setFrames fs, ?_, .returned (some (.int 1)), hrun, hended, rfl, lw_closed hd0 ⟨_, rfl⟩ hW hframe⟩
  jvm_step X.here [X.here.top, hx, hb, hdg, hmeth', hr, ret, narrow_b1]
  (try refine ⟨rfl, ?_⟩); (try refine ⟨rfl, ?_⟩)
  first | (intro acts; rw [hret _ acts rfl rfl rfl]) | rw [hret _ _ rfl rfl rfl]
  exact Steps.refl _
/-- what holds at the law's entry: the machine, the code, the tables' words (any of lw_tbl by 'hts w (by decide +kernel)'), the script of L ints xs at the cell b, what the Statement gives of the start (any of its parts by flat_of_before) -/
def lw_At (p : Program) (s : State) (m : MethodId) (meth : Method) (c : Code) (b L : Nat) (xs : Nat → Int32) : Prop :=
  p.tables.exec = Jvm.exec ∧ c.code = code ∧ meth.sig.returnType = ret ∧ c.maxLocals = 9 ∧ s.vm.findClass R_law = some m.cls ∧ (∀ w ∈ lw_tbl, w.before #[Value.ref b] s = true) ∧ va_X b L xs s s.heap ∧ b < s.heap.size ∧ meth.locks = false ∧ (Jvm.Cond.and given_1 narrow_1).before #[Value.ref b] s = true
def wpB_L_law_23 (xs : Nat → Int32) (L : Nat) (R_ : Nat → Mem → Int32 → Prop) (k : Nat) (M : Mem) (x4 : Int32) : Prop := ((((Int32.ofNat L) - 6) < x4 → True) ∧ (¬ ((Int32.ofNat L) - 6) < x4 → vp_in x4 L ∧ (((((xs x4.toNatClampNeg) &&& 31) = 0 → vp_in (x4 + 1) L ∧ (vp_in (x4 + 2) L ∧ ((k + 1) ≤ 6000 ∧ (wp_L_stock 283 M 0 (xs (x4 + 1).toNatClampNeg) (xs (x4 + 2).toNatClampNeg) 282 (fun r6 M5 => vp_in (x4 + 1) L ∧ (vp_in (x4 + 2) L ∧ (m_tp 283 276 7 ∧ (wp_X7_stock 283 M5 276 (xs (x4 + 1).toNatClampNeg) (xs (x4 + 2).toNatClampNeg) (fun r11 M9 => wp_X7_thrown 283 M9 276 (fun r13 M12 => ((r13 = r6 → ((¬ r6 = 0 → ∀ v14 : Int32, v14 = x4 + 6 → (R_ (k + 1) M12 v14)) ∧ (r6 = 0 → m_tp 283 282 10 ∧ (vp_in 0 (m_len 282) ∧ ((((lg_cmp (M12.2.2 282 (0 : Int32).toNatClampNeg) ((r11).toInt64)) = 0 → ∀ v17 : Int32, v17 = x4 + 6 → (R_ (k + 1) M12 v17)) ∧ (¬ (lg_cmp (M12.2.2 282 (0 : Int32).toNatClampNeg) ((r11).toInt64)) = 0 → False))))))) ∧ (¬ r13 = r6 → False)))))))))))) ∧ (¬ ((xs x4.toNatClampNeg) &&& 31) = 0 → ((((xs x4.toNatClampNeg) &&& 31) = 1 → vp_in (x4 + 1) L ∧ (vp_in (x4 + 2) L ∧ (vp_in (x4 + 3) L ∧ ((k + 1) ≤ 6000 ∧ (wp_L_range 283 M 0 (xs (x4 + 1).toNatClampNeg) (xs (x4 + 2).toNatClampNeg) (xs (x4 + 3).toNatClampNeg) 282 (fun r23 M22 => vp_in (x4 + 1) L ∧ (vp_in (x4 + 2) L ∧ (vp_in (x4 + 3) L ∧ (m_tp 283 276 7 ∧ (wp_X7_range 283 M22 276 (xs (x4 + 1).toNatClampNeg) (xs (x4 + 2).toNatClampNeg) (xs (x4 + 3).toNatClampNeg) (fun r29 M27 => wp_X7_thrown 283 M27 276 (fun r31 M30 => ((r31 = r23 → ((¬ r23 = 0 → ∀ v32 : Int32, v32 = x4 + 6 → (R_ (k + 1) M30 v32)) ∧ (r23 = 0 → m_tp 283 282 10 ∧ (vp_in 0 (m_len 282) ∧ ((((lg_cmp (M30.2.2 282 (0 : Int32).toNatClampNeg) ((r29).toInt64)) = 0 → ∀ v35 : Int32, v35 = x4 + 6 → (R_ (k + 1) M30 v35)) ∧ (¬ (lg_cmp (M30.2.2 282 (0 : Int32).toNatClampNeg) ((r29).toInt64)) = 0 → False))))))) ∧ (¬ r31 = r23 → False)))))))))))))) ∧ (¬ ((xs x4.toNatClampNeg) &&& 31) = 1 → ((((xs x4.toNatClampNeg) &&& 31) = 2 → vp_in (x4 + 1) L ∧ (vp_in (x4 + 2) L ∧ (vp_in (x4 + 3) L ∧ ((k + 1) ≤ 6000 ∧ (wp_L_die 283 M 0 (xs (x4 + 1).toNatClampNeg) (xs (x4 + 2).toNatClampNeg) (xs (x4 + 3).toNatClampNeg) 282 (fun r41 M40 => vp_in (x4 + 1) L ∧ (vp_in (x4 + 2) L ∧ (vp_in (x4 + 3) L ∧ (m_tp 283 276 7 ∧ (wp_X7_die 283 M40 276 (xs (x4 + 1).toNatClampNeg) (xs (x4 + 2).toNatClampNeg) (xs (x4 + 3).toNatClampNeg) (fun r47 M45 => wp_X7_thrown 283 M45 276 (fun r49 M48 => ((r49 = r41 → ((¬ r41 = 0 → ∀ v50 : Int32, v50 = x4 + 6 → (R_ (k + 1) M48 v50)) ∧ (r41 = 0 → m_tp 283 282 10 ∧ (vp_in 0 (m_len 282) ∧ ((((lg_cmp (M48.2.2 282 (0 : Int32).toNatClampNeg) ((r47).toInt64)) = 0 → ∀ v53 : Int32, v53 = x4 + 6 → (R_ (k + 1) M48 v53)) ∧ (¬ (lg_cmp (M48.2.2 282 (0 : Int32).toNatClampNeg) ((r47).toInt64)) = 0 → False))))))) ∧ (¬ r49 = r41 → False)))))))))))))) ∧ (¬ ((xs x4.toNatClampNeg) &&& 31) = 2 → ((((xs x4.toNatClampNeg) &&& 31) = 3 → vp_in (x4 + 1) L ∧ ((k + 1) ≤ 6000 ∧ (wp_L_grind 283 M 0 (xs (x4 + 1).toNatClampNeg) 282 (fun r57 M56 => vp_in (x4 + 1) L ∧ (m_tp 283 276 7 ∧ (wp_X7_grind 283 M56 276 (xs (x4 + 1).toNatClampNeg) (fun r61 M59 => wp_X7_thrown 283 M59 276 (fun r63 M62 => ((r63 = r57 → ((¬ r57 = 0 → ∀ v64 : Int32, v64 = x4 + 6 → (R_ (k + 1) M62 v64)) ∧ (r57 = 0 → m_tp 283 282 10 ∧ (vp_in 0 (m_len 282) ∧ ((((lg_cmp (M62.2.2 282 (0 : Int32).toNatClampNeg) ((r61).toInt64)) = 0 → ∀ v67 : Int32, v67 = x4 + 6 → (R_ (k + 1) M62 v67)) ∧ (¬ (lg_cmp (M62.2.2 282 (0 : Int32).toNatClampNeg) ((r61).toInt64)) = 0 → False))))))) ∧ (¬ r63 = r57 → False)))))))))) ∧ (¬ ((xs x4.toNatClampNeg) &&& 31) = 3 → ((((xs x4.toNatClampNeg) &&& 31) = 4 → vp_in (x4 + 1) L ∧ (vp_in (x4 + 2) L ∧ (vp_in (x4 + 3) L ∧ (vp_in (x4 + 4) L ∧ (vp_in (x4 + 5) L ∧ ((k + 1) ≤ 6000 ∧ (wp_L_job 283 M 0 (xs (x4 + 1).toNatClampNeg) (xs (x4 + 2).toNatClampNeg) (xs (x4 + 3).toNatClampNeg) (xs (x4 + 4).toNatClampNeg) (if (xs (x4 + 5).toNatClampNeg) = 0 then false else true) 282 (fun r75 M74 => vp_in (x4 + 1) L ∧ (vp_in (x4 + 2) L ∧ (vp_in (x4 + 3) L ∧ (vp_in (x4 + 4) L ∧ (vp_in (x4 + 5) L ∧ (m_tp 283 276 7 ∧ (wp_X7_job 283 M74 276 (xs (x4 + 1).toNatClampNeg) (xs (x4 + 2).toNatClampNeg) (xs (x4 + 3).toNatClampNeg) (xs (x4 + 4).toNatClampNeg) (if (xs (x4 + 5).toNatClampNeg) = 0 then false else true) (fun r83 M81 => wp_X7_thrown 283 M81 276 (fun r85 M84 => ((r85 = r75 → ((¬ r75 = 0 → ∀ v86 : Int32, v86 = x4 + 6 → (R_ (k + 1) M84 v86)) ∧ (r75 = 0 → m_tp 283 282 10 ∧ (vp_in 0 (m_len 282) ∧ ((((lg_cmp (M84.2.2 282 (0 : Int32).toNatClampNeg) ((r83).toInt64)) = 0 → ∀ v89 : Int32, v89 = x4 + 6 → (R_ (k + 1) M84 v89)) ∧ (¬ (lg_cmp (M84.2.2 282 (0 : Int32).toNatClampNeg) ((r83).toInt64)) = 0 → False))))))) ∧ (¬ r85 = r75 → False)))))))))))))))))) ∧ (¬ ((xs x4.toNatClampNeg) &&& 31) = 4 → ((((xs x4.toNatClampNeg) &&& 31) = 5 → vp_in (x4 + 1) L ∧ ((k + 1) ≤ 6000 ∧ (wp_L_cancel 283 M 0 (xs (x4 + 1).toNatClampNeg) 282 (fun r93 M92 => vp_in (x4 + 1) L ∧ (m_tp 283 276 7 ∧ (wp_X7_cancel 283 M92 276 (xs (x4 + 1).toNatClampNeg) (fun r97 M95 => wp_X7_thrown 283 M95 276 (fun r99 M98 => ((r99 = r93 → ((¬ r93 = 0 → ∀ v100 : Int32, v100 = x4 + 6 → (R_ (k + 1) M98 v100)) ∧ (r93 = 0 → m_tp 283 282 10 ∧ (vp_in 0 (m_len 282) ∧ ((((lg_cmp (M98.2.2 282 (0 : Int32).toNatClampNeg) ((r97).toInt64)) = 0 → ∀ v103 : Int32, v103 = x4 + 6 → (R_ (k + 1) M98 v103)) ∧ (¬ (lg_cmp (M98.2.2 282 (0 : Int32).toNatClampNeg) ((r97).toInt64)) = 0 → False))))))) ∧ (¬ r99 = r93 → False)))))))))) ∧ (¬ ((xs x4.toNatClampNeg) &&& 31) = 5 → ((((xs x4.toNatClampNeg) &&& 31) = 6 → vp_in (x4 + 1) L ∧ (vp_in (x4 + 2) L ∧ ((k + 1) ≤ 6000 ∧ (wp_L_rush 283 M 0 (xs (x4 + 1).toNatClampNeg) (if (xs (x4 + 2).toNatClampNeg) = 0 then false else true) 282 (fun r108 M107 => vp_in (x4 + 1) L ∧ (vp_in (x4 + 2) L ∧ (m_tp 283 276 7 ∧ (wp_X7_rush 283 M107 276 (xs (x4 + 1).toNatClampNeg) (if (xs (x4 + 2).toNatClampNeg) = 0 then false else true) (fun r113 M111 => wp_X7_thrown 283 M111 276 (fun r115 M114 => ((r115 = r108 → ((¬ r108 = 0 → ∀ v116 : Int32, v116 = x4 + 6 → (R_ (k + 1) M114 v116)) ∧ (r108 = 0 → m_tp 283 282 10 ∧ (vp_in 0 (m_len 282) ∧ ((((lg_cmp (M114.2.2 282 (0 : Int32).toNatClampNeg) ((r113).toInt64)) = 0 → ∀ v119 : Int32, v119 = x4 + 6 → (R_ (k + 1) M114 v119)) ∧ (¬ (lg_cmp (M114.2.2 282 (0 : Int32).toNatClampNeg) ((r113).toInt64)) = 0 → False))))))) ∧ (¬ r115 = r108 → False)))))))))))) ∧ (¬ ((xs x4.toNatClampNeg) &&& 31) = 6 → ((((xs x4.toNatClampNeg) &&& 31) = 7 → vp_in (x4 + 1) L ∧ (vp_in (x4 + 2) L ∧ ((k + 1) ≤ 6000 ∧ (wp_L_set 283 M 0 (xs (x4 + 1).toNatClampNeg) (xs (x4 + 2).toNatClampNeg) 282 (fun r124 M123 => vp_in (x4 + 1) L ∧ (vp_in (x4 + 2) L ∧ (m_tp 283 276 7 ∧ (wp_X7_set 283 M123 276 (xs (x4 + 1).toNatClampNeg) (xs (x4 + 2).toNatClampNeg) (fun r129 M127 => wp_X7_thrown 283 M127 276 (fun r131 M130 => ((r131 = r124 → ((¬ r124 = 0 → ∀ v132 : Int32, v132 = x4 + 6 → (R_ (k + 1) M130 v132)) ∧ (r124 = 0 → m_tp 283 282 10 ∧ (vp_in 0 (m_len 282) ∧ ((((lg_cmp (M130.2.2 282 (0 : Int32).toNatClampNeg) ((r129).toInt64)) = 0 → ∀ v135 : Int32, v135 = x4 + 6 → (R_ (k + 1) M130 v135)) ∧ (¬ (lg_cmp (M130.2.2 282 (0 : Int32).toNatClampNeg) ((r129).toInt64)) = 0 → False))))))) ∧ (¬ r131 = r124 → False)))))))))))) ∧ (¬ ((xs x4.toNatClampNeg) &&& 31) = 7 → ((((xs x4.toNatClampNeg) &&& 31) = 8 → vp_in (x4 + 1) L ∧ ((k + 1) ≤ 6000 ∧ (wp_L_pass 283 M 0 (xs (x4 + 1).toNatClampNeg) 282 (fun r139 M138 => vp_in (x4 + 1) L ∧ (m_tp 283 276 7 ∧ (wp_X7_pass 283 M138 276 (xs (x4 + 1).toNatClampNeg) (fun r143 M141 => wp_X7_thrown 283 M141 276 (fun r145 M144 => ((r145 = r139 → ((¬ r139 = 0 → ∀ v146 : Int32, v146 = x4 + 6 → (R_ (k + 1) M144 v146)) ∧ (r139 = 0 → m_tp 283 282 10 ∧ (vp_in 0 (m_len 282) ∧ ((((lg_cmp (M144.2.2 282 (0 : Int32).toNatClampNeg) ((r143).toInt64)) = 0 → ∀ v149 : Int32, v149 = x4 + 6 → (R_ (k + 1) M144 v149)) ∧ (¬ (lg_cmp (M144.2.2 282 (0 : Int32).toNatClampNeg) ((r143).toInt64)) = 0 → False))))))) ∧ (¬ r145 = r139 → False)))))))))) ∧ (¬ ((xs x4.toNatClampNeg) &&& 31) = 8 → ((((xs x4.toNatClampNeg) &&& 31) = 9 → vp_in (x4 + 1) L ∧ ((k + 1) ≤ 6000 ∧ (wp_L_append 283 M 0 (xs (x4 + 1).toNatClampNeg) 282 (fun r153 M152 => vp_in (x4 + 1) L ∧ (m_tp 283 276 7 ∧ (wp_X7_append 283 M152 276 (xs (x4 + 1).toNatClampNeg) (fun r157 M155 => wp_X7_thrown 283 M155 276 (fun r159 M158 => ((r159 = r153 → ((¬ r153 = 0 → ∀ v160 : Int32, v160 = x4 + 6 → (R_ (k + 1) M158 v160)) ∧ (r153 = 0 → m_tp 283 282 10 ∧ (vp_in 0 (m_len 282) ∧ ((((lg_cmp (M158.2.2 282 (0 : Int32).toNatClampNeg) ((r157).toInt64)) = 0 → ∀ v163 : Int32, v163 = x4 + 6 → (R_ (k + 1) M158 v163)) ∧ (¬ (lg_cmp (M158.2.2 282 (0 : Int32).toNatClampNeg) ((r157).toInt64)) = 0 → False))))))) ∧ (¬ r159 = r153 → False)))))))))) ∧ (¬ ((xs x4.toNatClampNeg) &&& 31) = 9 → ((((xs x4.toNatClampNeg) &&& 31) = 10 → m_tp 283 0 6 ∧ (wp_X6_clearBuffer 283 M 0 (fun r166 M164 => m_tp 283 276 7 ∧ (wp_X7_clearBuffer 283 M164 276 (fun r169 M167 => ((r166 = r169 → ∀ v170 : Int32, v170 = x4 + 6 → (R_ k M167 v170)) ∧ (¬ r166 = r169 → False))))))) ∧ (¬ ((xs x4.toNatClampNeg) &&& 31) = 10 → ((((xs x4.toNatClampNeg) &&& 31) = 11 → m_tp 283 0 6 ∧ (wp_X6_firstError 283 M 0 (fun r173 M171 => m_tp 283 276 7 ∧ (wp_X7_firstError 283 M171 276 (fun r176 M174 => ((r173 = r176 → ∀ v177 : Int32, v177 = x4 + 6 → (R_ k M174 v177)) ∧ (¬ r173 = r176 → False))))))) ∧ (¬ ((xs x4.toNatClampNeg) &&& 31) = 11 → ((((xs x4.toNatClampNeg) &&& 31) = 12 → (k + 1) ≤ 6000 ∧ (wp_L_addAll 283 M 0 282 (fun r180 M179 => m_tp 283 276 7 ∧ (wp_X7_addAll 283 M179 276 (fun r183 M181 => wp_X7_thrown 283 M181 276 (fun r185 M184 => ((r185 = r180 → ((¬ r180 = 0 → ∀ v186 : Int32, v186 = x4 + 6 → (R_ (k + 1) M184 v186)) ∧ (r180 = 0 → m_tp 283 282 10 ∧ (vp_in 0 (m_len 282) ∧ ((((lg_cmp (M184.2.2 282 (0 : Int32).toNatClampNeg) ((r183).toInt64)) = 0 → ∀ v189 : Int32, v189 = x4 + 6 → (R_ (k + 1) M184 v189)) ∧ (¬ (lg_cmp (M184.2.2 282 (0 : Int32).toNatClampNeg) ((r183).toInt64)) = 0 → False))))))) ∧ (¬ r185 = r180 → False)))))))) ∧ (¬ ((xs x4.toNatClampNeg) &&& 31) = 12 → ((((xs x4.toNatClampNeg) &&& 31) = 13 → (k + 1) ≤ 6000 ∧ (wp_L_undo 283 M 0 282 (fun r192 M191 => m_tp 283 276 7 ∧ (wp_X7_undo 283 M191 276 (fun r195 M193 => wp_X7_thrown 283 M193 276 (fun r197 M196 => ((r197 = r192 → ((¬ r192 = 0 → ∀ v198 : Int32, v198 = x4 + 6 → (R_ (k + 1) M196 v198)) ∧ (r192 = 0 → m_tp 283 282 10 ∧ (vp_in 0 (m_len 282) ∧ ((((lg_cmp (M196.2.2 282 (0 : Int32).toNatClampNeg) ((r195).toInt64)) = 0 → ∀ v201 : Int32, v201 = x4 + 6 → (R_ (k + 1) M196 v201)) ∧ (¬ (lg_cmp (M196.2.2 282 (0 : Int32).toNatClampNeg) ((r195).toInt64)) = 0 → False))))))) ∧ (¬ r197 = r192 → False)))))))) ∧ (¬ ((xs x4.toNatClampNeg) &&& 31) = 13 → ((((xs x4.toNatClampNeg) &&& 31) = 14 → vp_in (x4 + 1) L ∧ (vp_in (x4 + 2) L ∧ ((k + 1) ≤ 6000 ∧ (wp_L_heat 283 M 0 (xs (x4 + 1).toNatClampNeg) (xs (x4 + 2).toNatClampNeg) 282 (fun r206 M205 => vp_in (x4 + 1) L ∧ (vp_in (x4 + 2) L ∧ (m_tp 283 276 7 ∧ (wp_X7_heat 283 M205 276 (xs (x4 + 1).toNatClampNeg) (xs (x4 + 2).toNatClampNeg) (fun r211 M209 => wp_X7_thrown 283 M209 276 (fun r213 M212 => ((r213 = r206 → ((¬ r206 = 0 → ∀ v214 : Int32, v214 = x4 + 6 → (R_ (k + 1) M212 v214)) ∧ (r206 = 0 → m_tp 283 282 10 ∧ (vp_in 0 (m_len 282) ∧ ((((lg_cmp (M212.2.2 282 (0 : Int32).toNatClampNeg) ((r211).toInt64)) = 0 → ∀ v217 : Int32, v217 = x4 + 6 → (R_ (k + 1) M212 v217)) ∧ (¬ (lg_cmp (M212.2.2 282 (0 : Int32).toNatClampNeg) ((r211).toInt64)) = 0 → False))))))) ∧ (¬ r213 = r206 → False)))))))))))) ∧ (¬ ((xs x4.toNatClampNeg) &&& 31) = 14 → ((((xs x4.toNatClampNeg) &&& 31) = 15 → vp_in (x4 + 1) L ∧ (vp_in (x4 + 2) L ∧ ((k + 1) ≤ 6000 ∧ (wp_L_dieOf 283 M 0 (xs (x4 + 1).toNatClampNeg) (xs (x4 + 2).toNatClampNeg) 282 (fun r222 M221 => vp_in (x4 + 1) L ∧ (vp_in (x4 + 2) L ∧ (m_tp 283 276 7 ∧ (wp_X7_dieOf 283 M221 276 (xs (x4 + 1).toNatClampNeg) (xs (x4 + 2).toNatClampNeg) (fun r227 M225 => wp_X7_thrown 283 M225 276 (fun r229 M228 => ((r229 = r222 → ((¬ r222 = 0 → ∀ v230 : Int32, v230 = x4 + 6 → (R_ (k + 1) M228 v230)) ∧ (r222 = 0 → m_tp 283 282 10 ∧ (vp_in 0 (m_len 282) ∧ ((((lg_cmp (M228.2.2 282 (0 : Int32).toNatClampNeg) ((r227).toInt64)) = 0 → ∀ v233 : Int32, v233 = x4 + 6 → (R_ (k + 1) M228 v233)) ∧ (¬ (lg_cmp (M228.2.2 282 (0 : Int32).toNatClampNeg) ((r227).toInt64)) = 0 → False))))))) ∧ (¬ r229 = r222 → False)))))))))))) ∧ (¬ ((xs x4.toNatClampNeg) &&& 31) = 15 → ((((xs x4.toNatClampNeg) &&& 31) = 16 → vp_in (x4 + 1) L ∧ (vp_in (x4 + 2) L ∧ ((k + 1) ≤ 6000 ∧ (wp_L_jobOf 283 M 0 (xs (x4 + 1).toNatClampNeg) (xs (x4 + 2).toNatClampNeg) 282 (fun r238 M237 => vp_in (x4 + 1) L ∧ (vp_in (x4 + 2) L ∧ (m_tp 283 276 7 ∧ (wp_X7_jobOf 283 M237 276 (xs (x4 + 1).toNatClampNeg) (xs (x4 + 2).toNatClampNeg) (fun r243 M241 => wp_X7_thrown 283 M241 276 (fun r245 M244 => ((r245 = r238 → ((¬ r238 = 0 → ∀ v246 : Int32, v246 = x4 + 6 → (R_ (k + 1) M244 v246)) ∧ (r238 = 0 → m_tp 283 282 10 ∧ (vp_in 0 (m_len 282) ∧ ((((lg_cmp (M244.2.2 282 (0 : Int32).toNatClampNeg) ((r243).toInt64)) = 0 → ∀ v249 : Int32, v249 = x4 + 6 → (R_ (k + 1) M244 v249)) ∧ (¬ (lg_cmp (M244.2.2 282 (0 : Int32).toNatClampNeg) ((r243).toInt64)) = 0 → False))))))) ∧ (¬ r245 = r238 → False)))))))))))) ∧ (¬ ((xs x4.toNatClampNeg) &&& 31) = 16 → ((((xs x4.toNatClampNeg) &&& 31) = 17 → vp_in (x4 + 1) L ∧ (vp_in (x4 + 2) L ∧ ((k + 1) ≤ 6000 ∧ (wp_L_billet 283 M 0 (xs (x4 + 1).toNatClampNeg) (xs (x4 + 2).toNatClampNeg) 282 (fun r254 M253 => vp_in (x4 + 1) L ∧ (vp_in (x4 + 2) L ∧ (m_tp 283 276 7 ∧ (wp_X7_billet 283 M253 276 (xs (x4 + 1).toNatClampNeg) (xs (x4 + 2).toNatClampNeg) (fun r259 M257 => wp_X7_thrown 283 M257 276 (fun r261 M260 => ((r261 = r254 → ((¬ r254 = 0 → ∀ v262 : Int32, v262 = x4 + 6 → (R_ (k + 1) M260 v262)) ∧ (r254 = 0 → m_tp 283 282 10 ∧ (vp_in 0 (m_len 282) ∧ ((((lg_cmp (M260.2.2 282 (0 : Int32).toNatClampNeg) ((r259).toInt64)) = 0 → ∀ v265 : Int32, v265 = x4 + 6 → (R_ (k + 1) M260 v265)) ∧ (¬ (lg_cmp (M260.2.2 282 (0 : Int32).toNatClampNeg) ((r259).toInt64)) = 0 → False))))))) ∧ (¬ r261 = r254 → False)))))))))))) ∧ (¬ ((xs x4.toNatClampNeg) &&& 31) = 17 → ((((xs x4.toNatClampNeg) &&& 31) = 18 → vp_in (x4 + 1) L ∧ ((k + 1) ≤ 6000 ∧ (wp_L_count 283 M 0 (xs (x4 + 1).toNatClampNeg) 282 (fun r269 M268 => vp_in (x4 + 1) L ∧ (m_tp 283 276 7 ∧ (wp_X7_count 283 M268 276 (xs (x4 + 1).toNatClampNeg) (fun r273 M271 => wp_X7_thrown 283 M271 276 (fun r275 M274 => ((r275 = r269 → ((¬ r269 = 0 → ∀ v276 : Int32, v276 = x4 + 6 → (R_ (k + 1) M274 v276)) ∧ (r269 = 0 → m_tp 283 282 10 ∧ (vp_in 0 (m_len 282) ∧ ((((lg_cmp (M274.2.2 282 (0 : Int32).toNatClampNeg) ((r273).toInt64)) = 0 → ∀ v279 : Int32, v279 = x4 + 6 → (R_ (k + 1) M274 v279)) ∧ (¬ (lg_cmp (M274.2.2 282 (0 : Int32).toNatClampNeg) ((r273).toInt64)) = 0 → False))))))) ∧ (¬ r275 = r269 → False)))))))))) ∧ (¬ ((xs x4.toNatClampNeg) &&& 31) = 18 → ((((xs x4.toNatClampNeg) &&& 31) = 19 → vp_in (x4 + 1) L ∧ ((k + 1) ≤ 6000 ∧ (wp_L_setting 283 M 0 (xs (x4 + 1).toNatClampNeg) 282 (fun r283 M282 => vp_in (x4 + 1) L ∧ (m_tp 283 276 7 ∧ (wp_X7_setting 283 M282 276 (xs (x4 + 1).toNatClampNeg) (fun r287 M285 => wp_X7_thrown 283 M285 276 (fun r289 M288 => ((r289 = r283 → ((¬ r283 = 0 → ∀ v290 : Int32, v290 = x4 + 6 → (R_ (k + 1) M288 v290)) ∧ (r283 = 0 → m_tp 283 282 10 ∧ (vp_in 0 (m_len 282) ∧ ((((lg_cmp (M288.2.2 282 (0 : Int32).toNatClampNeg) ((r287).toInt64)) = 0 → ∀ v293 : Int32, v293 = x4 + 6 → (R_ (k + 1) M288 v293)) ∧ (¬ (lg_cmp (M288.2.2 282 (0 : Int32).toNatClampNeg) ((r287).toInt64)) = 0 → False))))))) ∧ (¬ r289 = r283 → False)))))))))) ∧ (¬ ((xs x4.toNatClampNeg) &&& 31) = 19 → ((((xs x4.toNatClampNeg) &&& 31) = 20 → vp_in (x4 + 1) L ∧ (vp_in (x4 + 2) L ∧ ((k + 1) ≤ 6000 ∧ (wp_L_ifPassed 283 M 0 (xs (x4 + 1).toNatClampNeg) (xs (x4 + 2).toNatClampNeg) 282 (fun r298 M297 => vp_in (x4 + 1) L ∧ (vp_in (x4 + 2) L ∧ (m_tp 283 276 7 ∧ (wp_X7_ifPassed 283 M297 276 (xs (x4 + 1).toNatClampNeg) (xs (x4 + 2).toNatClampNeg) (fun r303 M301 => wp_X7_thrown 283 M301 276 (fun r305 M304 => ((r305 = r298 → ((¬ r298 = 0 → ∀ v306 : Int32, v306 = x4 + 6 → (R_ (k + 1) M304 v306)) ∧ (r298 = 0 → m_tp 283 282 10 ∧ (vp_in 0 (m_len 282) ∧ ((((lg_cmp (M304.2.2 282 (0 : Int32).toNatClampNeg) ((r303).toInt64)) = 0 → ∀ v309 : Int32, v309 = x4 + 6 → (R_ (k + 1) M304 v309)) ∧ (¬ (lg_cmp (M304.2.2 282 (0 : Int32).toNatClampNeg) ((r303).toInt64)) = 0 → False))))))) ∧ (¬ r305 = r298 → False)))))))))))) ∧ (¬ ((xs x4.toNatClampNeg) &&& 31) = 20 → ((((xs x4.toNatClampNeg) &&& 31) = 21 → vp_in (x4 + 1) L ∧ ((k + 1) ≤ 6000 ∧ (wp_L_doneIn 283 M 0 (xs (x4 + 1).toNatClampNeg) 282 (fun r313 M312 => vp_in (x4 + 1) L ∧ (m_tp 283 276 7 ∧ (wp_X7_doneIn 283 M312 276 (xs (x4 + 1).toNatClampNeg) (fun r317 M315 => wp_X7_thrown 283 M315 276 (fun r319 M318 => ((r319 = r313 → ((¬ r313 = 0 → ∀ v320 : Int32, v320 = x4 + 6 → (R_ (k + 1) M318 v320)) ∧ (r313 = 0 → m_tp 283 282 10 ∧ (vp_in 0 (m_len 282) ∧ ((((lg_cmp (M318.2.2 282 (0 : Int32).toNatClampNeg) ((r317).toInt64)) = 0 → ∀ v323 : Int32, v323 = x4 + 6 → (R_ (k + 1) M318 v323)) ∧ (¬ (lg_cmp (M318.2.2 282 (0 : Int32).toNatClampNeg) ((r317).toInt64)) = 0 → False))))))) ∧ (¬ r319 = r313 → False)))))))))) ∧ (¬ ((xs x4.toNatClampNeg) &&& 31) = 21 → ((((xs x4.toNatClampNeg) &&& 31) = 22 → vp_in (x4 + 1) L ∧ ((k + 1) ≤ 6000 ∧ (wp_L_ifRush 283 M 0 (xs (x4 + 1).toNatClampNeg) 282 (fun r327 M326 => vp_in (x4 + 1) L ∧ (m_tp 283 276 7 ∧ (wp_X7_ifRush 283 M326 276 (xs (x4 + 1).toNatClampNeg) (fun r331 M329 => wp_X7_thrown 283 M329 276 (fun r333 M332 => ((r333 = r327 → ((¬ r327 = 0 → ∀ v334 : Int32, v334 = x4 + 6 → (R_ (k + 1) M332 v334)) ∧ (r327 = 0 → m_tp 283 282 10 ∧ (vp_in 0 (m_len 282) ∧ ((((lg_cmp (M332.2.2 282 (0 : Int32).toNatClampNeg) ((r331).toInt64)) = 0 → ∀ v337 : Int32, v337 = x4 + 6 → (R_ (k + 1) M332 v337)) ∧ (¬ (lg_cmp (M332.2.2 282 (0 : Int32).toNatClampNeg) ((r331).toInt64)) = 0 → False))))))) ∧ (¬ r333 = r327 → False)))))))))) ∧ (¬ ((xs x4.toNatClampNeg) &&& 31) = 22 → ((((xs x4.toNatClampNeg) &&& 31) = 23 → vp_in (x4 + 1) L ∧ ((k + 1) ≤ 6000 ∧ (wp_L_bestReheats 283 M 0 (xs (x4 + 1).toNatClampNeg) 282 (fun r341 M340 => vp_in (x4 + 1) L ∧ (m_tp 283 276 7 ∧ (wp_X7_bestReheats 283 M340 276 (xs (x4 + 1).toNatClampNeg) (fun r345 M343 => wp_X7_thrown 283 M343 276 (fun r347 M346 => ((r347 = r341 → ((¬ r341 = 0 → ∀ v348 : Int32, v348 = x4 + 6 → (R_ (k + 1) M346 v348)) ∧ (r341 = 0 → m_tp 283 282 10 ∧ (vp_in 0 (m_len 282) ∧ ((((lg_cmp (M346.2.2 282 (0 : Int32).toNatClampNeg) ((r345).toInt64)) = 0 → ∀ v351 : Int32, v351 = x4 + 6 → (R_ (k + 1) M346 v351)) ∧ (¬ (lg_cmp (M346.2.2 282 (0 : Int32).toNatClampNeg) ((r345).toInt64)) = 0 → False))))))) ∧ (¬ r347 = r341 → False)))))))))) ∧ (¬ ((xs x4.toNatClampNeg) &&& 31) = 23 → ((((xs x4.toNatClampNeg) &&& 31) = 24 → m_tp 283 0 6 ∧ (wp_X6_saved 283 M 0 (fun r354 M352 => m_tp 283 276 7 ∧ (wp_X7_saved 283 M352 276 (fun r357 M355 => (((Op.cmpValue (FP.dcmp r354 r357) .l) = 0 → ∀ v358 : Int32, v358 = x4 + 6 → (R_ k M355 v358)) ∧ (¬ (Op.cmpValue (FP.dcmp r354 r357) .l) = 0 → (((Op.cmpValue (FP.dcmp r354 r354) .l) = 0 → False) ∧ (¬ (Op.cmpValue (FP.dcmp r354 r354) .l) = 0 → ((¬ (Op.cmpValue (FP.dcmp r357 r357) .l) = 0 → ∀ v359 : Int32, v359 = x4 + 6 → (R_ k M355 v359)) ∧ ((Op.cmpValue (FP.dcmp r357 r357) .l) = 0 → False))))))))))) ∧ (¬ ((xs x4.toNatClampNeg) &&& 31) = 24 → ((((xs x4.toNatClampNeg) &&& 31) = 25 → m_tp 283 0 6 ∧ (wp_X6_digest 283 M 0 (fun r362 M360 => m_tp 283 276 7 ∧ (wp_X7_digest 283 M360 276 (fun r365 M363 => (((lg_cmp r362 r365) = 0 → ∀ v366 : Int32, v366 = x4 + 6 → (R_ k M363 v366)) ∧ (¬ (lg_cmp r362 r365) = 0 → False))))))) ∧ (¬ ((xs x4.toNatClampNeg) &&& 31) = 25 → ∀ v367 : Int32, v367 = x4 + 6 → (R_ k M v367))))))))))))))))))))))))))))))))))))))))))))))))))))))))
def wpL_L_law_23 (xs : Nat → Int32) (L : Nat) : Nat → Nat → Mem → Int32 → Prop
  | 0 => fun _ _ _ => False
  | f + 1 => fun k M x4 => wpB_L_law_23 xs L (wpL_L_law_23 xs L f) k M x4
set_option maxHeartbeats 16000000 in
set_option maxRecDepth 100000 in
theorem law_loop {p : Program} {l : Launch} (hlt : l.stackTraces = false) {e : Env} {s : State} {m : MethodId} {below : List Frame} {meth : Method} {c : Code} {D : va_G} {cA : Nat → ClassId} {b sb L : Nat} {xs : Nat → Int32} (C0 : lw_At p s m meth c sb L xs) (hbs : s.heap.size = b) (hK : m_K D cA s) (hZ : m_Z b s) :
    ∀ f : Nat, ∀ (k : Nat) (M : Mem) (H : Heap) (locs : List Loc) (ls : Array Slot) (x4 : Int32), k ≤ 6000 → wpL_L_law_23 xs L f k M x4 → m_H D cA b 283 M H → va_S (m_A b) s.heap H locs → lv_has ls 9 [(0, .ref sb), (1, .ref (b + 0)), (2, .ref (b + 276)), (3, .ref (b + 282)), (4, .int x4)] → W p l e room_1 s m #[Value.ref sb] below meth c H locs k (1000 * k) (lw_Z below #[Value.ref sb] s) (F0 m 23 ls []) := by
  obtain ⟨hx, hb, hr, hml, hown, hts, hX, hbl, hlocks, hgv⟩ := C0
  have hbA : ¬ m_A b sb := by
    show ¬ b ≤ sb
    omega
  have C : CallFix p m c cL_law 9 s #[Value.ref sb] lw_T RL := ⟨hx, hb, hml, hown, fun w hw => hts w (List.mem_filter.mp hw).1⟩
  intro f
  induction f with
  | zero => intro k M H locs ls x4 _ h; exact h.elim
  | succ f ih =>
    intro k M H locs ls x4 hk h hP hS hl
    have h : wpB_L_law_23 xs L (wpL_L_law_23 xs L f) k M x4 := h
    unfold wpB_L_law_23 at h
    refine lv_iload (pc := 23) hx hb dL_law_23 (lv_at hl 4 rfl) ?_
    refine lv_aload_n (pc := 25) hx hb dL_law_25 rfl (lv_at hl 0 rfl) ?_
    refine va_slen (pc := 26) hx hb hX hbl hbA hS dL_law_26 ?_
    refine lv_bipush (v := 6) (pc := 27) hx hb dL_law_27 (by decide) ?_
    refine lv_isub (pc := 29) hx hb dL_law_29 ?_
    refine lv_icmp_gt (tgt := 1679) (pc := 30) hx hb dL_law_30 (by decide) (fun c30 => ?_) (fun c30 => ?_)
    · replace h := h.1 c30
      refine lv_iconst (v := 1) (pc := 1679) hx hb dL_law_1679 (by decide) ?_
      refine va_forget (fun q hq => by rw [hbs]; exact hS.2.2 q hq) ?_
      refine W.widen (k := 601024) (n := 7293034) (Nat.le_trans hk (Nat.le_of_ble_eq_true rfl)) (Nat.le_trans (Nat.mul_le_mul_left 1000 hk) (Nat.le_of_ble_eq_true rfl)) ?_
      exact lw_ret (d0 := s.drawn) (Drawn.sameBut.refl s.drawn lw_cs) hx hb hr hlocks dL_law_1680
    · replace h := h.2 c30
      refine lv_aload_n (pc := 33) hx hb dL_law_33 rfl (lv_at hl 0 rfl) ?_
      refine lv_iload (pc := 34) hx hb dL_law_34 (lv_at hl 4 rfl) ?_
      obtain ⟨hi1, h⟩ := h
      refine va_sld (pc := 36) hx hb hX hbl hbA hS hi1 dL_law_36 ?_
      refine lv_bipush (v := 31) (pc := 37) hx hb dL_law_37 (by decide) ?_
      refine lv_iand (pc := 39) hx hb dL_law_39 ?_
      by_cases n40_0 : ((xs x4.toNatClampNeg) &&& 31) = 0
      · replace h := h.1 n40_0
        refine m_case (v := 0) (off := 120) (tgt := 160) (pc := 40) hx hb n40_0 dL_law_40 (by decide) (by decide) (by decide) (by decide) ?_
        refine lv_aload_n (pc := 160) hx hb dL_law_160 rfl (lv_at hl 1 rfl) ?_
        refine lv_aload_n (pc := 161) hx hb dL_law_161 rfl (lv_at hl 0 rfl) ?_
        refine lv_iload (pc := 162) hx hb dL_law_162 (lv_at hl 4 rfl) ?_
        refine lv_iconst (v := 1) (pc := 164) hx hb dL_law_164 (by decide) ?_
        refine lv_iadd (pc := 165) hx hb dL_law_165 ?_
        obtain ⟨hi2, h⟩ := h
        refine va_sld (pc := 166) hx hb hX hbl hbA hS hi2 dL_law_166 ?_
        refine lv_aload_n (pc := 167) hx hb dL_law_167 rfl (lv_at hl 0 rfl) ?_
        refine lv_iload (pc := 168) hx hb dL_law_168 (lv_at hl 4 rfl) ?_
        refine lv_iconst (v := 2) (pc := 170) hx hb dL_law_170 (by decide) ?_
        refine lv_iadd (pc := 171) hx hb dL_law_171 ?_
        obtain ⟨hi3, h⟩ := h
        refine va_sld (pc := 172) hx hb hX hbl hbA hS hi3 dL_law_172 ?_
        refine lv_aload_n (pc := 173) hx hb dL_law_173 rfl (lv_at hl 3 rfl) ?_
        obtain ⟨hk4, h⟩ := h
        refine m_callY (pc := 174) (y := yL_stock) (np := 4) (As := [.ref (b + 0), .int (xs (x4 + 1).toNatClampNeg), .int (xs (x4 + 2).toNatClampNeg), .ref (b + 282)]) (rest := []) C hK hZ hP hS hl.1 ⟨Nat.le_trans hk4 (Nat.le_of_ble_eq_true rfl), Nat.le_trans (Nat.add_le_add_left (by decide : 6 ≤ 1000) _) (Nat.le_trans (Nat.mul_le_mul_left 1000 hk4) (Nat.le_of_ble_eq_true rfl))⟩ (c_L_stock hlt h) rfl rfl q_582 q_583 q_0 q_584 ⟨rfl, rfl⟩ yd_L_stock ⟨Nat.le_of_ble_eq_true rfl, Nat.le_of_ble_eq_true rfl⟩ (Nat.le_of_ble_eq_true rfl) dL_law_174 (fun v9 M5 H locs hv9 hP hS => ?_)
        obtain ⟨r6, rfl, h⟩ := hv9
        refine W.widen (k := (k + 1)) (n := 1000 * (k + 1)) (Nat.le_refl _) (by omega) ?_
        refine lv_istore (lv' := [(5, .int r6), (0, .ref sb), (1, .ref (b + 0)), (2, .ref (b + 276)), (3, .ref (b + 282)), (4, .int x4)]) (pc := 177) hx hb dL_law_177 hl (by decide) rfl (fun ls hl => ?_)
        refine lv_aload_n (pc := 179) hx hb dL_law_179 rfl (lv_at hl 3 rfl) ?_
        refine lv_aload_n (pc := 180) hx hb dL_law_180 rfl (lv_at hl 1 rfl) ?_
        refine lv_iload (pc := 181) hx hb dL_law_181 (lv_at hl 5 rfl) ?_
        refine lv_iconst (v := 1) (pc := 183) hx hb dL_law_183 (by decide) ?_
        refine lv_iadd (pc := 184) hx hb dL_law_184 ?_
        obtain ⟨hi7, h⟩ := h
        refine va_sld (pc := 185) hx hb hX hbl hbA hS hi7 dL_law_185 ?_
        refine lv_aload_n (pc := 186) hx hb dL_law_186 rfl (lv_at hl 1 rfl) ?_
        refine lv_iload (pc := 187) hx hb dL_law_187 (lv_at hl 5 rfl) ?_
        refine lv_iconst (v := 2) (pc := 189) hx hb dL_law_189 (by decide) ?_
        refine lv_iadd (pc := 190) hx hb dL_law_190 ?_
        obtain ⟨hi8, h⟩ := h
        refine va_sld (pc := 191) hx hb hX hbl hbA hS hi8 dL_law_191 ?_
        obtain ⟨hk10, h⟩ := h
        refine m_callVI (pc := 192) (y := yX7_stock) (κ := 7) (As := [.int (xs (x4 + 1).toNatClampNeg), .int (xs (x4 + 2).toNatClampNeg)]) (rest := []) C hK hP hS hl.1 ⟨Nat.le_trans hk4 (Nat.le_of_ble_eq_true rfl), Nat.le_trans (Nat.mul_le_mul_left 1000 hk4) (Nat.le_of_ble_eq_true rfl)⟩ (c_X7_stock h) rfl rfl hk10 (by decide) rfl q_966 q_967 q_968 q_8 q_969 ⟨rfl, rfl⟩ yd_X7_stock ⟨Nat.le_of_ble_eq_true rfl, Nat.le_of_ble_eq_true rfl⟩ (Nat.le_of_ble_eq_true rfl) dL_law_192 (fun r11 M9 H locs h hP hS => ?_)
        refine lv_istore (lv' := [(6, .int r11), (5, .int r6), (0, .ref sb), (1, .ref (b + 0)), (2, .ref (b + 276)), (3, .ref (b + 282)), (4, .int x4)]) (pc := 195) hx hb dL_law_195 hl (by decide) rfl (fun ls hl => ?_)
        refine lv_aload_n (pc := 197) hx hb dL_law_197 rfl (lv_at hl 4 rfl) ?_
        refine m_callVI (pc := 198) (y := yX7_thrown) (κ := 7) (As := []) (rest := []) C hK hP hS hl.1 ⟨Nat.le_trans hk4 (Nat.le_of_ble_eq_true rfl), Nat.le_trans (Nat.mul_le_mul_left 1000 hk4) (Nat.le_of_ble_eq_true rfl)⟩ (c_X7_thrown h) rfl rfl hk10 (by decide) rfl q_962 q_963 q_964 q_8 q_965 ⟨rfl, rfl⟩ yd_X7_thrown ⟨Nat.le_of_ble_eq_true rfl, Nat.le_of_ble_eq_true rfl⟩ (Nat.le_of_ble_eq_true rfl) dL_law_198 (fun r13 M12 H locs h hP hS => ?_)
        refine lv_iload (pc := 201) hx hb dL_law_201 (lv_at hl 1 rfl) ?_
        refine lv_icmp_eq (tgt := 208) (pc := 203) hx hb dL_law_203 (by decide) (fun c203 => ?_) (fun c203 => ?_)
        · replace h := h.1 c203
          refine lv_iload (pc := 208) hx hb dL_law_208 (lv_at hl 1 rfl) ?_
          refine lv_if_ne (tgt := 225) (pc := 210) hx hb dL_law_210 (by decide) (fun c210 => ?_) (fun c210 => ?_)
          · replace h := h.1 c210
            refine lv_goto (tgt := 1673) (pc := 225) hx hb dL_law_225 (by decide) ?_
            obtain ⟨v14, ev14⟩ : ∃ y : Int32, y = x4 + 6 := ⟨_, rfl⟩
            replace h := h v14 ev14
            refine lv_iinc (v := v14) (lv' := [(4, .int v14), (6, .int r11), (5, .int r6), (0, .ref sb), (1, .ref (b + 0)), (2, .ref (b + 276)), (3, .ref (b + 282))]) (pc := 1673) hx hb dL_law_1673 hl (k := 6) rfl (by rw [ev14]; rfl) (by decide) rfl (fun ls hl => ?_)
            refine lv_goto (tgt := 23) (pc := 1676) hx hb dL_law_1676 (by decide) ?_
            exact ih _ _ _ _ _ _ hk4 h hP hS (lv_sub hl [3, 4, 5, 6, 0] rfl)
          · replace h := h.2 c210
            refine lv_aload_n (pc := 213) hx hb dL_law_213 rfl (lv_at hl 5 rfl) ?_
            refine lv_iconst (v := 0) (pc := 214) hx hb dL_law_214 (by decide) ?_
            obtain ⟨hk15, h⟩ := h
            obtain ⟨hi16, h⟩ := h
            refine m_lald (pc := 215) C hK hP hk15 hi16 dL_law_215 ?_
            refine lv_iload (pc := 216) hx hb dL_law_216 (lv_at hl 0 rfl) ?_
            refine lv_i2l (pc := 218) hx hb dL_law_218 rfl ?_
            refine W.lcmp (pc := 219) hx hb dL_law_219 ?_
            refine lv_if_eq (tgt := 225) (pc := 220) hx hb dL_law_220 (by decide) (fun c220 => ?_) (fun c220 => ?_)
            · replace h := h.1 c220
              refine lv_goto (tgt := 1673) (pc := 225) hx hb dL_law_225 (by decide) ?_
              obtain ⟨v17, ev17⟩ : ∃ y : Int32, y = x4 + 6 := ⟨_, rfl⟩
              replace h := h v17 ev17
              refine lv_iinc (v := v17) (lv' := [(4, .int v17), (6, .int r11), (5, .int r6), (0, .ref sb), (1, .ref (b + 0)), (2, .ref (b + 276)), (3, .ref (b + 282))]) (pc := 1673) hx hb dL_law_1673 hl (k := 6) rfl (by rw [ev17]; rfl) (by decide) rfl (fun ls hl => ?_)
              refine lv_goto (tgt := 23) (pc := 1676) hx hb dL_law_1676 (by decide) ?_
              exact ih _ _ _ _ _ _ hk4 h hP hS (lv_sub hl [3, 4, 5, 6, 0] rfl)
            · replace h := h.2 c220
              refine lv_iconst (v := 0) (pc := 223) hx hb dL_law_223 (by decide) ?_
              exact h.elim
        · replace h := h.2 c203
          refine lv_iconst (v := 0) (pc := 206) hx hb dL_law_206 (by decide) ?_
          exact h.elim
      · replace h := h.2 n40_0
        by_cases n40_1 : ((xs x4.toNatClampNeg) &&& 31) = 1
        · replace h := h.1 n40_1
          refine m_case (v := 1) (off := 188) (tgt := 228) (pc := 40) hx hb n40_1 dL_law_40 (by decide) (by decide) (by decide) (by decide) ?_
          refine lv_aload_n (pc := 228) hx hb dL_law_228 rfl (lv_at hl 1 rfl) ?_
          refine lv_aload_n (pc := 229) hx hb dL_law_229 rfl (lv_at hl 0 rfl) ?_
          refine lv_iload (pc := 230) hx hb dL_law_230 (lv_at hl 4 rfl) ?_
          refine lv_iconst (v := 1) (pc := 232) hx hb dL_law_232 (by decide) ?_
          refine lv_iadd (pc := 233) hx hb dL_law_233 ?_
          obtain ⟨hi18, h⟩ := h
          refine va_sld (pc := 234) hx hb hX hbl hbA hS hi18 dL_law_234 ?_
          refine lv_aload_n (pc := 235) hx hb dL_law_235 rfl (lv_at hl 0 rfl) ?_
          refine lv_iload (pc := 236) hx hb dL_law_236 (lv_at hl 4 rfl) ?_
          refine lv_iconst (v := 2) (pc := 238) hx hb dL_law_238 (by decide) ?_
          refine lv_iadd (pc := 239) hx hb dL_law_239 ?_
          obtain ⟨hi19, h⟩ := h
          refine va_sld (pc := 240) hx hb hX hbl hbA hS hi19 dL_law_240 ?_
          refine lv_aload_n (pc := 241) hx hb dL_law_241 rfl (lv_at hl 0 rfl) ?_
          refine lv_iload (pc := 242) hx hb dL_law_242 (lv_at hl 4 rfl) ?_
          refine lv_iconst (v := 3) (pc := 244) hx hb dL_law_244 (by decide) ?_
          refine lv_iadd (pc := 245) hx hb dL_law_245 ?_
          obtain ⟨hi20, h⟩ := h
          refine va_sld (pc := 246) hx hb hX hbl hbA hS hi20 dL_law_246 ?_
          refine lv_aload_n (pc := 247) hx hb dL_law_247 rfl (lv_at hl 3 rfl) ?_
          obtain ⟨hk21, h⟩ := h
          refine m_callY (pc := 248) (y := yL_range) (np := 5) (As := [.ref (b + 0), .int (xs (x4 + 1).toNatClampNeg), .int (xs (x4 + 2).toNatClampNeg), .int (xs (x4 + 3).toNatClampNeg), .ref (b + 282)]) (rest := []) C hK hZ hP hS hl.1 ⟨Nat.le_trans hk21 (Nat.le_of_ble_eq_true rfl), Nat.le_trans (Nat.add_le_add_left (by decide : 6 ≤ 1000) _) (Nat.le_trans (Nat.mul_le_mul_left 1000 hk21) (Nat.le_of_ble_eq_true rfl))⟩ (c_L_range hlt h) rfl rfl q_708 q_709 q_0 q_710 ⟨rfl, rfl⟩ yd_L_range ⟨Nat.le_of_ble_eq_true rfl, Nat.le_of_ble_eq_true rfl⟩ (Nat.le_of_ble_eq_true rfl) dL_law_248 (fun v9 M22 H locs hv9 hP hS => ?_)
          obtain ⟨r23, rfl, h⟩ := hv9
          refine W.widen (k := (k + 1)) (n := 1000 * (k + 1)) (Nat.le_refl _) (by omega) ?_
          refine lv_istore (lv' := [(5, .int r23), (0, .ref sb), (1, .ref (b + 0)), (2, .ref (b + 276)), (3, .ref (b + 282)), (4, .int x4)]) (pc := 251) hx hb dL_law_251 hl (by decide) rfl (fun ls hl => ?_)
          refine lv_aload_n (pc := 253) hx hb dL_law_253 rfl (lv_at hl 3 rfl) ?_
          refine lv_aload_n (pc := 254) hx hb dL_law_254 rfl (lv_at hl 1 rfl) ?_
          refine lv_iload (pc := 255) hx hb dL_law_255 (lv_at hl 5 rfl) ?_
          refine lv_iconst (v := 1) (pc := 257) hx hb dL_law_257 (by decide) ?_
          refine lv_iadd (pc := 258) hx hb dL_law_258 ?_
          obtain ⟨hi24, h⟩ := h
          refine va_sld (pc := 259) hx hb hX hbl hbA hS hi24 dL_law_259 ?_
          refine lv_aload_n (pc := 260) hx hb dL_law_260 rfl (lv_at hl 1 rfl) ?_
          refine lv_iload (pc := 261) hx hb dL_law_261 (lv_at hl 5 rfl) ?_
          refine lv_iconst (v := 2) (pc := 263) hx hb dL_law_263 (by decide) ?_
          refine lv_iadd (pc := 264) hx hb dL_law_264 ?_
          obtain ⟨hi25, h⟩ := h
          refine va_sld (pc := 265) hx hb hX hbl hbA hS hi25 dL_law_265 ?_
          refine lv_aload_n (pc := 266) hx hb dL_law_266 rfl (lv_at hl 1 rfl) ?_
          refine lv_iload (pc := 267) hx hb dL_law_267 (lv_at hl 5 rfl) ?_
          refine lv_iconst (v := 3) (pc := 269) hx hb dL_law_269 (by decide) ?_
          refine lv_iadd (pc := 270) hx hb dL_law_270 ?_
          obtain ⟨hi26, h⟩ := h
          refine va_sld (pc := 271) hx hb hX hbl hbA hS hi26 dL_law_271 ?_
          obtain ⟨hk28, h⟩ := h
          refine m_callVI (pc := 272) (y := yX7_range) (κ := 7) (As := [.int (xs (x4 + 1).toNatClampNeg), .int (xs (x4 + 2).toNatClampNeg), .int (xs (x4 + 3).toNatClampNeg)]) (rest := []) C hK hP hS hl.1 ⟨Nat.le_trans hk21 (Nat.le_of_ble_eq_true rfl), Nat.le_trans (Nat.mul_le_mul_left 1000 hk21) (Nat.le_of_ble_eq_true rfl)⟩ (c_X7_range h) rfl rfl hk28 (by decide) rfl q_988 q_989 q_990 q_8 q_991 ⟨rfl, rfl⟩ yd_X7_range ⟨Nat.le_of_ble_eq_true rfl, Nat.le_of_ble_eq_true rfl⟩ (Nat.le_of_ble_eq_true rfl) dL_law_272 (fun r29 M27 H locs h hP hS => ?_)
          refine lv_istore (lv' := [(6, .int r29), (5, .int r23), (0, .ref sb), (1, .ref (b + 0)), (2, .ref (b + 276)), (3, .ref (b + 282)), (4, .int x4)]) (pc := 275) hx hb dL_law_275 hl (by decide) rfl (fun ls hl => ?_)
          refine lv_aload_n (pc := 277) hx hb dL_law_277 rfl (lv_at hl 4 rfl) ?_
          refine m_callVI (pc := 278) (y := yX7_thrown) (κ := 7) (As := []) (rest := []) C hK hP hS hl.1 ⟨Nat.le_trans hk21 (Nat.le_of_ble_eq_true rfl), Nat.le_trans (Nat.mul_le_mul_left 1000 hk21) (Nat.le_of_ble_eq_true rfl)⟩ (c_X7_thrown h) rfl rfl hk28 (by decide) rfl q_962 q_963 q_964 q_8 q_965 ⟨rfl, rfl⟩ yd_X7_thrown ⟨Nat.le_of_ble_eq_true rfl, Nat.le_of_ble_eq_true rfl⟩ (Nat.le_of_ble_eq_true rfl) dL_law_278 (fun r31 M30 H locs h hP hS => ?_)
          refine lv_iload (pc := 281) hx hb dL_law_281 (lv_at hl 1 rfl) ?_
          refine lv_icmp_eq (tgt := 288) (pc := 283) hx hb dL_law_283 (by decide) (fun c283 => ?_) (fun c283 => ?_)
          · replace h := h.1 c283
            refine lv_iload (pc := 288) hx hb dL_law_288 (lv_at hl 1 rfl) ?_
            refine lv_if_ne (tgt := 305) (pc := 290) hx hb dL_law_290 (by decide) (fun c290 => ?_) (fun c290 => ?_)
            · replace h := h.1 c290
              refine lv_goto (tgt := 1673) (pc := 305) hx hb dL_law_305 (by decide) ?_
              obtain ⟨v32, ev32⟩ : ∃ y : Int32, y = x4 + 6 := ⟨_, rfl⟩
              replace h := h v32 ev32
              refine lv_iinc (v := v32) (lv' := [(4, .int v32), (6, .int r29), (5, .int r23), (0, .ref sb), (1, .ref (b + 0)), (2, .ref (b + 276)), (3, .ref (b + 282))]) (pc := 1673) hx hb dL_law_1673 hl (k := 6) rfl (by rw [ev32]; rfl) (by decide) rfl (fun ls hl => ?_)
              refine lv_goto (tgt := 23) (pc := 1676) hx hb dL_law_1676 (by decide) ?_
              exact ih _ _ _ _ _ _ hk21 h hP hS (lv_sub hl [3, 4, 5, 6, 0] rfl)
            · replace h := h.2 c290
              refine lv_aload_n (pc := 293) hx hb dL_law_293 rfl (lv_at hl 5 rfl) ?_
              refine lv_iconst (v := 0) (pc := 294) hx hb dL_law_294 (by decide) ?_
              obtain ⟨hk33, h⟩ := h
              obtain ⟨hi34, h⟩ := h
              refine m_lald (pc := 295) C hK hP hk33 hi34 dL_law_295 ?_
              refine lv_iload (pc := 296) hx hb dL_law_296 (lv_at hl 0 rfl) ?_
              refine lv_i2l (pc := 298) hx hb dL_law_298 rfl ?_
              refine W.lcmp (pc := 299) hx hb dL_law_299 ?_
              refine lv_if_eq (tgt := 305) (pc := 300) hx hb dL_law_300 (by decide) (fun c300 => ?_) (fun c300 => ?_)
              · replace h := h.1 c300
                refine lv_goto (tgt := 1673) (pc := 305) hx hb dL_law_305 (by decide) ?_
                obtain ⟨v35, ev35⟩ : ∃ y : Int32, y = x4 + 6 := ⟨_, rfl⟩
                replace h := h v35 ev35
                refine lv_iinc (v := v35) (lv' := [(4, .int v35), (6, .int r29), (5, .int r23), (0, .ref sb), (1, .ref (b + 0)), (2, .ref (b + 276)), (3, .ref (b + 282))]) (pc := 1673) hx hb dL_law_1673 hl (k := 6) rfl (by rw [ev35]; rfl) (by decide) rfl (fun ls hl => ?_)
                refine lv_goto (tgt := 23) (pc := 1676) hx hb dL_law_1676 (by decide) ?_
                exact ih _ _ _ _ _ _ hk21 h hP hS (lv_sub hl [3, 4, 5, 6, 0] rfl)
              · replace h := h.2 c300
                refine lv_iconst (v := 0) (pc := 303) hx hb dL_law_303 (by decide) ?_
                exact h.elim
          · replace h := h.2 c283
            refine lv_iconst (v := 0) (pc := 286) hx hb dL_law_286 (by decide) ?_
            exact h.elim
        · replace h := h.2 n40_1
          by_cases n40_2 : ((xs x4.toNatClampNeg) &&& 31) = 2
          · replace h := h.1 n40_2
            refine m_case (v := 2) (off := 268) (tgt := 308) (pc := 40) hx hb n40_2 dL_law_40 (by decide) (by decide) (by decide) (by decide) ?_
            refine lv_aload_n (pc := 308) hx hb dL_law_308 rfl (lv_at hl 1 rfl) ?_
            refine lv_aload_n (pc := 309) hx hb dL_law_309 rfl (lv_at hl 0 rfl) ?_
            refine lv_iload (pc := 310) hx hb dL_law_310 (lv_at hl 4 rfl) ?_
            refine lv_iconst (v := 1) (pc := 312) hx hb dL_law_312 (by decide) ?_
            refine lv_iadd (pc := 313) hx hb dL_law_313 ?_
            obtain ⟨hi36, h⟩ := h
            refine va_sld (pc := 314) hx hb hX hbl hbA hS hi36 dL_law_314 ?_
            refine lv_aload_n (pc := 315) hx hb dL_law_315 rfl (lv_at hl 0 rfl) ?_
            refine lv_iload (pc := 316) hx hb dL_law_316 (lv_at hl 4 rfl) ?_
            refine lv_iconst (v := 2) (pc := 318) hx hb dL_law_318 (by decide) ?_
            refine lv_iadd (pc := 319) hx hb dL_law_319 ?_
            obtain ⟨hi37, h⟩ := h
            refine va_sld (pc := 320) hx hb hX hbl hbA hS hi37 dL_law_320 ?_
            refine lv_aload_n (pc := 321) hx hb dL_law_321 rfl (lv_at hl 0 rfl) ?_
            refine lv_iload (pc := 322) hx hb dL_law_322 (lv_at hl 4 rfl) ?_
            refine lv_iconst (v := 3) (pc := 324) hx hb dL_law_324 (by decide) ?_
            refine lv_iadd (pc := 325) hx hb dL_law_325 ?_
            obtain ⟨hi38, h⟩ := h
            refine va_sld (pc := 326) hx hb hX hbl hbA hS hi38 dL_law_326 ?_
            refine lv_aload_n (pc := 327) hx hb dL_law_327 rfl (lv_at hl 3 rfl) ?_
            obtain ⟨hk39, h⟩ := h
            refine m_callY (pc := 328) (y := yL_die) (np := 5) (As := [.ref (b + 0), .int (xs (x4 + 1).toNatClampNeg), .int (xs (x4 + 2).toNatClampNeg), .int (xs (x4 + 3).toNatClampNeg), .ref (b + 282)]) (rest := []) C hK hZ hP hS hl.1 ⟨Nat.le_trans hk39 (Nat.le_of_ble_eq_true rfl), Nat.le_trans (Nat.add_le_add_left (by decide : 6 ≤ 1000) _) (Nat.le_trans (Nat.mul_le_mul_left 1000 hk39) (Nat.le_of_ble_eq_true rfl))⟩ (c_L_die hlt h) rfl rfl q_716 q_717 q_0 q_718 ⟨rfl, rfl⟩ yd_L_die ⟨Nat.le_of_ble_eq_true rfl, Nat.le_of_ble_eq_true rfl⟩ (Nat.le_of_ble_eq_true rfl) dL_law_328 (fun v9 M40 H locs hv9 hP hS => ?_)
            obtain ⟨r41, rfl, h⟩ := hv9
            refine W.widen (k := (k + 1)) (n := 1000 * (k + 1)) (Nat.le_refl _) (by omega) ?_
            refine lv_istore (lv' := [(5, .int r41), (0, .ref sb), (1, .ref (b + 0)), (2, .ref (b + 276)), (3, .ref (b + 282)), (4, .int x4)]) (pc := 331) hx hb dL_law_331 hl (by decide) rfl (fun ls hl => ?_)
            refine lv_aload_n (pc := 333) hx hb dL_law_333 rfl (lv_at hl 3 rfl) ?_
            refine lv_aload_n (pc := 334) hx hb dL_law_334 rfl (lv_at hl 1 rfl) ?_
            refine lv_iload (pc := 335) hx hb dL_law_335 (lv_at hl 5 rfl) ?_
            refine lv_iconst (v := 1) (pc := 337) hx hb dL_law_337 (by decide) ?_
            refine lv_iadd (pc := 338) hx hb dL_law_338 ?_
            obtain ⟨hi42, h⟩ := h
            refine va_sld (pc := 339) hx hb hX hbl hbA hS hi42 dL_law_339 ?_
            refine lv_aload_n (pc := 340) hx hb dL_law_340 rfl (lv_at hl 1 rfl) ?_
            refine lv_iload (pc := 341) hx hb dL_law_341 (lv_at hl 5 rfl) ?_
            refine lv_iconst (v := 2) (pc := 343) hx hb dL_law_343 (by decide) ?_
            refine lv_iadd (pc := 344) hx hb dL_law_344 ?_
            obtain ⟨hi43, h⟩ := h
            refine va_sld (pc := 345) hx hb hX hbl hbA hS hi43 dL_law_345 ?_
            refine lv_aload_n (pc := 346) hx hb dL_law_346 rfl (lv_at hl 1 rfl) ?_
            refine lv_iload (pc := 347) hx hb dL_law_347 (lv_at hl 5 rfl) ?_
            refine lv_iconst (v := 3) (pc := 349) hx hb dL_law_349 (by decide) ?_
            refine lv_iadd (pc := 350) hx hb dL_law_350 ?_
            obtain ⟨hi44, h⟩ := h
            refine va_sld (pc := 351) hx hb hX hbl hbA hS hi44 dL_law_351 ?_
            obtain ⟨hk46, h⟩ := h
            refine m_callVI (pc := 352) (y := yX7_die) (κ := 7) (As := [.int (xs (x4 + 1).toNatClampNeg), .int (xs (x4 + 2).toNatClampNeg), .int (xs (x4 + 3).toNatClampNeg)]) (rest := []) C hK hP hS hl.1 ⟨Nat.le_trans hk39 (Nat.le_of_ble_eq_true rfl), Nat.le_trans (Nat.mul_le_mul_left 1000 hk39) (Nat.le_of_ble_eq_true rfl)⟩ (c_X7_die h) rfl rfl hk46 (by decide) rfl q_992 q_993 q_994 q_8 q_995 ⟨rfl, rfl⟩ yd_X7_die ⟨Nat.le_of_ble_eq_true rfl, Nat.le_of_ble_eq_true rfl⟩ (Nat.le_of_ble_eq_true rfl) dL_law_352 (fun r47 M45 H locs h hP hS => ?_)
            refine lv_istore (lv' := [(6, .int r47), (5, .int r41), (0, .ref sb), (1, .ref (b + 0)), (2, .ref (b + 276)), (3, .ref (b + 282)), (4, .int x4)]) (pc := 355) hx hb dL_law_355 hl (by decide) rfl (fun ls hl => ?_)
            refine lv_aload_n (pc := 357) hx hb dL_law_357 rfl (lv_at hl 4 rfl) ?_
            refine m_callVI (pc := 358) (y := yX7_thrown) (κ := 7) (As := []) (rest := []) C hK hP hS hl.1 ⟨Nat.le_trans hk39 (Nat.le_of_ble_eq_true rfl), Nat.le_trans (Nat.mul_le_mul_left 1000 hk39) (Nat.le_of_ble_eq_true rfl)⟩ (c_X7_thrown h) rfl rfl hk46 (by decide) rfl q_962 q_963 q_964 q_8 q_965 ⟨rfl, rfl⟩ yd_X7_thrown ⟨Nat.le_of_ble_eq_true rfl, Nat.le_of_ble_eq_true rfl⟩ (Nat.le_of_ble_eq_true rfl) dL_law_358 (fun r49 M48 H locs h hP hS => ?_)
            refine lv_iload (pc := 361) hx hb dL_law_361 (lv_at hl 1 rfl) ?_
            refine lv_icmp_eq (tgt := 368) (pc := 363) hx hb dL_law_363 (by decide) (fun c363 => ?_) (fun c363 => ?_)
            · replace h := h.1 c363
              refine lv_iload (pc := 368) hx hb dL_law_368 (lv_at hl 1 rfl) ?_
              refine lv_if_ne (tgt := 385) (pc := 370) hx hb dL_law_370 (by decide) (fun c370 => ?_) (fun c370 => ?_)
              · replace h := h.1 c370
                refine lv_goto (tgt := 1673) (pc := 385) hx hb dL_law_385 (by decide) ?_
                obtain ⟨v50, ev50⟩ : ∃ y : Int32, y = x4 + 6 := ⟨_, rfl⟩
                replace h := h v50 ev50
                refine lv_iinc (v := v50) (lv' := [(4, .int v50), (6, .int r47), (5, .int r41), (0, .ref sb), (1, .ref (b + 0)), (2, .ref (b + 276)), (3, .ref (b + 282))]) (pc := 1673) hx hb dL_law_1673 hl (k := 6) rfl (by rw [ev50]; rfl) (by decide) rfl (fun ls hl => ?_)
                refine lv_goto (tgt := 23) (pc := 1676) hx hb dL_law_1676 (by decide) ?_
                exact ih _ _ _ _ _ _ hk39 h hP hS (lv_sub hl [3, 4, 5, 6, 0] rfl)
              · replace h := h.2 c370
                refine lv_aload_n (pc := 373) hx hb dL_law_373 rfl (lv_at hl 5 rfl) ?_
                refine lv_iconst (v := 0) (pc := 374) hx hb dL_law_374 (by decide) ?_
                obtain ⟨hk51, h⟩ := h
                obtain ⟨hi52, h⟩ := h
                refine m_lald (pc := 375) C hK hP hk51 hi52 dL_law_375 ?_
                refine lv_iload (pc := 376) hx hb dL_law_376 (lv_at hl 0 rfl) ?_
                refine lv_i2l (pc := 378) hx hb dL_law_378 rfl ?_
                refine W.lcmp (pc := 379) hx hb dL_law_379 ?_
                refine lv_if_eq (tgt := 385) (pc := 380) hx hb dL_law_380 (by decide) (fun c380 => ?_) (fun c380 => ?_)
                · replace h := h.1 c380
                  refine lv_goto (tgt := 1673) (pc := 385) hx hb dL_law_385 (by decide) ?_
                  obtain ⟨v53, ev53⟩ : ∃ y : Int32, y = x4 + 6 := ⟨_, rfl⟩
                  replace h := h v53 ev53
                  refine lv_iinc (v := v53) (lv' := [(4, .int v53), (6, .int r47), (5, .int r41), (0, .ref sb), (1, .ref (b + 0)), (2, .ref (b + 276)), (3, .ref (b + 282))]) (pc := 1673) hx hb dL_law_1673 hl (k := 6) rfl (by rw [ev53]; rfl) (by decide) rfl (fun ls hl => ?_)
                  refine lv_goto (tgt := 23) (pc := 1676) hx hb dL_law_1676 (by decide) ?_
                  exact ih _ _ _ _ _ _ hk39 h hP hS (lv_sub hl [3, 4, 5, 6, 0] rfl)
                · replace h := h.2 c380
                  refine lv_iconst (v := 0) (pc := 383) hx hb dL_law_383 (by decide) ?_
                  exact h.elim
            · replace h := h.2 c363
              refine lv_iconst (v := 0) (pc := 366) hx hb dL_law_366 (by decide) ?_
              exact h.elim
          · replace h := h.2 n40_2
            by_cases n40_3 : ((xs x4.toNatClampNeg) &&& 31) = 3
            · replace h := h.1 n40_3
              refine m_case (v := 3) (off := 348) (tgt := 388) (pc := 40) hx hb n40_3 dL_law_40 (by decide) (by decide) (by decide) (by decide) ?_
              refine lv_aload_n (pc := 388) hx hb dL_law_388 rfl (lv_at hl 1 rfl) ?_
              refine lv_aload_n (pc := 389) hx hb dL_law_389 rfl (lv_at hl 0 rfl) ?_
              refine lv_iload (pc := 390) hx hb dL_law_390 (lv_at hl 4 rfl) ?_
              refine lv_iconst (v := 1) (pc := 392) hx hb dL_law_392 (by decide) ?_
              refine lv_iadd (pc := 393) hx hb dL_law_393 ?_
              obtain ⟨hi54, h⟩ := h
              refine va_sld (pc := 394) hx hb hX hbl hbA hS hi54 dL_law_394 ?_
              refine lv_aload_n (pc := 395) hx hb dL_law_395 rfl (lv_at hl 3 rfl) ?_
              obtain ⟨hk55, h⟩ := h
              refine m_callY (pc := 396) (y := yL_grind) (np := 3) (As := [.ref (b + 0), .int (xs (x4 + 1).toNatClampNeg), .ref (b + 282)]) (rest := []) C hK hZ hP hS hl.1 ⟨Nat.le_trans hk55 (Nat.le_of_ble_eq_true rfl), Nat.le_trans (Nat.add_le_add_left (by decide : 6 ≤ 1000) _) (Nat.le_trans (Nat.mul_le_mul_left 1000 hk55) (Nat.le_of_ble_eq_true rfl))⟩ (c_L_grind hlt h) rfl rfl q_727 q_728 q_0 q_729 ⟨rfl, rfl⟩ yd_L_grind ⟨Nat.le_of_ble_eq_true rfl, Nat.le_of_ble_eq_true rfl⟩ (Nat.le_of_ble_eq_true rfl) dL_law_396 (fun v9 M56 H locs hv9 hP hS => ?_)
              obtain ⟨r57, rfl, h⟩ := hv9
              refine W.widen (k := (k + 1)) (n := 1000 * (k + 1)) (Nat.le_refl _) (by omega) ?_
              refine lv_istore (lv' := [(5, .int r57), (0, .ref sb), (1, .ref (b + 0)), (2, .ref (b + 276)), (3, .ref (b + 282)), (4, .int x4)]) (pc := 399) hx hb dL_law_399 hl (by decide) rfl (fun ls hl => ?_)
              refine lv_aload_n (pc := 401) hx hb dL_law_401 rfl (lv_at hl 3 rfl) ?_
              refine lv_aload_n (pc := 402) hx hb dL_law_402 rfl (lv_at hl 1 rfl) ?_
              refine lv_iload (pc := 403) hx hb dL_law_403 (lv_at hl 5 rfl) ?_
              refine lv_iconst (v := 1) (pc := 405) hx hb dL_law_405 (by decide) ?_
              refine lv_iadd (pc := 406) hx hb dL_law_406 ?_
              obtain ⟨hi58, h⟩ := h
              refine va_sld (pc := 407) hx hb hX hbl hbA hS hi58 dL_law_407 ?_
              obtain ⟨hk60, h⟩ := h
              refine m_callVI (pc := 408) (y := yX7_grind) (κ := 7) (As := [.int (xs (x4 + 1).toNatClampNeg)]) (rest := []) C hK hP hS hl.1 ⟨Nat.le_trans hk55 (Nat.le_of_ble_eq_true rfl), Nat.le_trans (Nat.mul_le_mul_left 1000 hk55) (Nat.le_of_ble_eq_true rfl)⟩ (c_X7_grind h) rfl rfl hk60 (by decide) rfl q_1007 q_1008 q_1009 q_8 q_1010 ⟨rfl, rfl⟩ yd_X7_grind ⟨Nat.le_of_ble_eq_true rfl, Nat.le_of_ble_eq_true rfl⟩ (Nat.le_of_ble_eq_true rfl) dL_law_408 (fun r61 M59 H locs h hP hS => ?_)
              refine lv_istore (lv' := [(6, .int r61), (5, .int r57), (0, .ref sb), (1, .ref (b + 0)), (2, .ref (b + 276)), (3, .ref (b + 282)), (4, .int x4)]) (pc := 411) hx hb dL_law_411 hl (by decide) rfl (fun ls hl => ?_)
              refine lv_aload_n (pc := 413) hx hb dL_law_413 rfl (lv_at hl 4 rfl) ?_
              refine m_callVI (pc := 414) (y := yX7_thrown) (κ := 7) (As := []) (rest := []) C hK hP hS hl.1 ⟨Nat.le_trans hk55 (Nat.le_of_ble_eq_true rfl), Nat.le_trans (Nat.mul_le_mul_left 1000 hk55) (Nat.le_of_ble_eq_true rfl)⟩ (c_X7_thrown h) rfl rfl hk60 (by decide) rfl q_962 q_963 q_964 q_8 q_965 ⟨rfl, rfl⟩ yd_X7_thrown ⟨Nat.le_of_ble_eq_true rfl, Nat.le_of_ble_eq_true rfl⟩ (Nat.le_of_ble_eq_true rfl) dL_law_414 (fun r63 M62 H locs h hP hS => ?_)
              refine lv_iload (pc := 417) hx hb dL_law_417 (lv_at hl 1 rfl) ?_
              refine lv_icmp_eq (tgt := 424) (pc := 419) hx hb dL_law_419 (by decide) (fun c419 => ?_) (fun c419 => ?_)
              · replace h := h.1 c419
                refine lv_iload (pc := 424) hx hb dL_law_424 (lv_at hl 1 rfl) ?_
                refine lv_if_ne (tgt := 441) (pc := 426) hx hb dL_law_426 (by decide) (fun c426 => ?_) (fun c426 => ?_)
                · replace h := h.1 c426
                  refine lv_goto (tgt := 1673) (pc := 441) hx hb dL_law_441 (by decide) ?_
                  obtain ⟨v64, ev64⟩ : ∃ y : Int32, y = x4 + 6 := ⟨_, rfl⟩
                  replace h := h v64 ev64
                  refine lv_iinc (v := v64) (lv' := [(4, .int v64), (6, .int r61), (5, .int r57), (0, .ref sb), (1, .ref (b + 0)), (2, .ref (b + 276)), (3, .ref (b + 282))]) (pc := 1673) hx hb dL_law_1673 hl (k := 6) rfl (by rw [ev64]; rfl) (by decide) rfl (fun ls hl => ?_)
                  refine lv_goto (tgt := 23) (pc := 1676) hx hb dL_law_1676 (by decide) ?_
                  exact ih _ _ _ _ _ _ hk55 h hP hS (lv_sub hl [3, 4, 5, 6, 0] rfl)
                · replace h := h.2 c426
                  refine lv_aload_n (pc := 429) hx hb dL_law_429 rfl (lv_at hl 5 rfl) ?_
                  refine lv_iconst (v := 0) (pc := 430) hx hb dL_law_430 (by decide) ?_
                  obtain ⟨hk65, h⟩ := h
                  obtain ⟨hi66, h⟩ := h
                  refine m_lald (pc := 431) C hK hP hk65 hi66 dL_law_431 ?_
                  refine lv_iload (pc := 432) hx hb dL_law_432 (lv_at hl 0 rfl) ?_
                  refine lv_i2l (pc := 434) hx hb dL_law_434 rfl ?_
                  refine W.lcmp (pc := 435) hx hb dL_law_435 ?_
                  refine lv_if_eq (tgt := 441) (pc := 436) hx hb dL_law_436 (by decide) (fun c436 => ?_) (fun c436 => ?_)
                  · replace h := h.1 c436
                    refine lv_goto (tgt := 1673) (pc := 441) hx hb dL_law_441 (by decide) ?_
                    obtain ⟨v67, ev67⟩ : ∃ y : Int32, y = x4 + 6 := ⟨_, rfl⟩
                    replace h := h v67 ev67
                    refine lv_iinc (v := v67) (lv' := [(4, .int v67), (6, .int r61), (5, .int r57), (0, .ref sb), (1, .ref (b + 0)), (2, .ref (b + 276)), (3, .ref (b + 282))]) (pc := 1673) hx hb dL_law_1673 hl (k := 6) rfl (by rw [ev67]; rfl) (by decide) rfl (fun ls hl => ?_)
                    refine lv_goto (tgt := 23) (pc := 1676) hx hb dL_law_1676 (by decide) ?_
                    exact ih _ _ _ _ _ _ hk55 h hP hS (lv_sub hl [3, 4, 5, 6, 0] rfl)
                  · replace h := h.2 c436
                    refine lv_iconst (v := 0) (pc := 439) hx hb dL_law_439 (by decide) ?_
                    exact h.elim
              · replace h := h.2 c419
                refine lv_iconst (v := 0) (pc := 422) hx hb dL_law_422 (by decide) ?_
                exact h.elim
            · replace h := h.2 n40_3
              by_cases n40_4 : ((xs x4.toNatClampNeg) &&& 31) = 4
              · replace h := h.1 n40_4
                refine m_case (v := 4) (off := 404) (tgt := 444) (pc := 40) hx hb n40_4 dL_law_40 (by decide) (by decide) (by decide) (by decide) ?_
                refine lv_aload_n (pc := 444) hx hb dL_law_444 rfl (lv_at hl 1 rfl) ?_
                refine lv_aload_n (pc := 445) hx hb dL_law_445 rfl (lv_at hl 0 rfl) ?_
                refine lv_iload (pc := 446) hx hb dL_law_446 (lv_at hl 4 rfl) ?_
                refine lv_iconst (v := 1) (pc := 448) hx hb dL_law_448 (by decide) ?_
                refine lv_iadd (pc := 449) hx hb dL_law_449 ?_
                obtain ⟨hi68, h⟩ := h
                refine va_sld (pc := 450) hx hb hX hbl hbA hS hi68 dL_law_450 ?_
                refine lv_aload_n (pc := 451) hx hb dL_law_451 rfl (lv_at hl 0 rfl) ?_
                refine lv_iload (pc := 452) hx hb dL_law_452 (lv_at hl 4 rfl) ?_
                refine lv_iconst (v := 2) (pc := 454) hx hb dL_law_454 (by decide) ?_
                refine lv_iadd (pc := 455) hx hb dL_law_455 ?_
                obtain ⟨hi69, h⟩ := h
                refine va_sld (pc := 456) hx hb hX hbl hbA hS hi69 dL_law_456 ?_
                refine lv_aload_n (pc := 457) hx hb dL_law_457 rfl (lv_at hl 0 rfl) ?_
                refine lv_iload (pc := 458) hx hb dL_law_458 (lv_at hl 4 rfl) ?_
                refine lv_iconst (v := 3) (pc := 460) hx hb dL_law_460 (by decide) ?_
                refine lv_iadd (pc := 461) hx hb dL_law_461 ?_
                obtain ⟨hi70, h⟩ := h
                refine va_sld (pc := 462) hx hb hX hbl hbA hS hi70 dL_law_462 ?_
                refine lv_aload_n (pc := 463) hx hb dL_law_463 rfl (lv_at hl 0 rfl) ?_
                refine lv_iload (pc := 464) hx hb dL_law_464 (lv_at hl 4 rfl) ?_
                refine lv_iconst (v := 4) (pc := 466) hx hb dL_law_466 (by decide) ?_
                refine lv_iadd (pc := 467) hx hb dL_law_467 ?_
                obtain ⟨hi71, h⟩ := h
                refine va_sld (pc := 468) hx hb hX hbl hbA hS hi71 dL_law_468 ?_
                refine lv_aload_n (pc := 469) hx hb dL_law_469 rfl (lv_at hl 0 rfl) ?_
                refine lv_iload (pc := 470) hx hb dL_law_470 (lv_at hl 4 rfl) ?_
                refine lv_iconst (v := 5) (pc := 472) hx hb dL_law_472 (by decide) ?_
                refine lv_iadd (pc := 473) hx hb dL_law_473 ?_
                obtain ⟨hi72, h⟩ := h
                refine va_sld (pc := 474) hx hb hX hbl hbA hS hi72 dL_law_474 ?_
                refine m_joinZ (z := if (xs (x4 + 5).toNatClampNeg) = 0 then false else true) (jp := 483) (rest := [.int (xs (x4 + 4).toNatClampNeg), .int (xs (x4 + 3).toNatClampNeg), .int (xs (x4 + 2).toNatClampNeg), .int (xs (x4 + 1).toNatClampNeg), .ref (b + 0)]) ?_ (fun hJ => ?_)
                rotate_left
                · skip
                  refine lv_if_eq (tgt := 482) (pc := 475) hx hb dL_law_475 (by decide) (fun c475 => ?_) (fun c475 => ?_)
                  · skip
                    refine lv_iconst (v := 0) (pc := 482) hx hb dL_law_482 (by decide) ?_
                    exact hJ _ false rfl (by rw [if_pos c475])
                  · skip
                    refine lv_iconst (v := 1) (pc := 478) hx hb dL_law_478 (by decide) ?_
                    refine lv_goto (tgt := 483) (pc := 479) hx hb dL_law_479 (by decide) ?_
                    exact hJ _ true rfl (by rw [if_neg c475])
                refine lv_aload_n (pc := 483) hx hb dL_law_483 rfl (lv_at hl 3 rfl) ?_
                obtain ⟨hk73, h⟩ := h
                refine m_callY (pc := 484) (y := yL_job) (np := 7) (As := [.ref (b + 0), .int (xs (x4 + 1).toNatClampNeg), .int (xs (x4 + 2).toNatClampNeg), .int (xs (x4 + 3).toNatClampNeg), .int (xs (x4 + 4).toNatClampNeg), .int (bI (if (xs (x4 + 5).toNatClampNeg) = 0 then false else true)), .ref (b + 282)]) (rest := []) C hK hZ hP hS hl.1 ⟨Nat.le_trans hk73 (Nat.le_of_ble_eq_true rfl), Nat.le_trans (Nat.add_le_add_left (by decide : 6 ≤ 1000) _) (Nat.le_trans (Nat.mul_le_mul_left 1000 hk73) (Nat.le_of_ble_eq_true rfl))⟩ (c_L_job hlt h) rfl rfl q_735 q_736 q_0 q_737 ⟨rfl, rfl⟩ yd_L_job ⟨Nat.le_of_ble_eq_true rfl, Nat.le_of_ble_eq_true rfl⟩ (Nat.le_of_ble_eq_true rfl) dL_law_484 (fun v9 M74 H locs hv9 hP hS => ?_)
                obtain ⟨r75, rfl, h⟩ := hv9
                refine W.widen (k := (k + 1)) (n := 1000 * (k + 1)) (Nat.le_refl _) (by omega) ?_
                refine lv_istore (lv' := [(5, .int r75), (0, .ref sb), (1, .ref (b + 0)), (2, .ref (b + 276)), (3, .ref (b + 282)), (4, .int x4)]) (pc := 487) hx hb dL_law_487 hl (by decide) rfl (fun ls hl => ?_)
                refine lv_aload_n (pc := 489) hx hb dL_law_489 rfl (lv_at hl 3 rfl) ?_
                refine lv_aload_n (pc := 490) hx hb dL_law_490 rfl (lv_at hl 1 rfl) ?_
                refine lv_iload (pc := 491) hx hb dL_law_491 (lv_at hl 5 rfl) ?_
                refine lv_iconst (v := 1) (pc := 493) hx hb dL_law_493 (by decide) ?_
                refine lv_iadd (pc := 494) hx hb dL_law_494 ?_
                obtain ⟨hi76, h⟩ := h
                refine va_sld (pc := 495) hx hb hX hbl hbA hS hi76 dL_law_495 ?_
                refine lv_aload_n (pc := 496) hx hb dL_law_496 rfl (lv_at hl 1 rfl) ?_
                refine lv_iload (pc := 497) hx hb dL_law_497 (lv_at hl 5 rfl) ?_
                refine lv_iconst (v := 2) (pc := 499) hx hb dL_law_499 (by decide) ?_
                refine lv_iadd (pc := 500) hx hb dL_law_500 ?_
                obtain ⟨hi77, h⟩ := h
                refine va_sld (pc := 501) hx hb hX hbl hbA hS hi77 dL_law_501 ?_
                refine lv_aload_n (pc := 502) hx hb dL_law_502 rfl (lv_at hl 1 rfl) ?_
                refine lv_iload (pc := 503) hx hb dL_law_503 (lv_at hl 5 rfl) ?_
                refine lv_iconst (v := 3) (pc := 505) hx hb dL_law_505 (by decide) ?_
                refine lv_iadd (pc := 506) hx hb dL_law_506 ?_
                obtain ⟨hi78, h⟩ := h
                refine va_sld (pc := 507) hx hb hX hbl hbA hS hi78 dL_law_507 ?_
                refine lv_aload_n (pc := 508) hx hb dL_law_508 rfl (lv_at hl 1 rfl) ?_
                refine lv_iload (pc := 509) hx hb dL_law_509 (lv_at hl 5 rfl) ?_
                refine lv_iconst (v := 4) (pc := 511) hx hb dL_law_511 (by decide) ?_
                refine lv_iadd (pc := 512) hx hb dL_law_512 ?_
                obtain ⟨hi79, h⟩ := h
                refine va_sld (pc := 513) hx hb hX hbl hbA hS hi79 dL_law_513 ?_
                refine lv_aload_n (pc := 514) hx hb dL_law_514 rfl (lv_at hl 1 rfl) ?_
                refine lv_iload (pc := 515) hx hb dL_law_515 (lv_at hl 5 rfl) ?_
                refine lv_iconst (v := 5) (pc := 517) hx hb dL_law_517 (by decide) ?_
                refine lv_iadd (pc := 518) hx hb dL_law_518 ?_
                obtain ⟨hi80, h⟩ := h
                refine va_sld (pc := 519) hx hb hX hbl hbA hS hi80 dL_law_519 ?_
                refine m_joinZ (z := if (xs (x4 + 5).toNatClampNeg) = 0 then false else true) (jp := 528) (rest := [.int (xs (x4 + 4).toNatClampNeg), .int (xs (x4 + 3).toNatClampNeg), .int (xs (x4 + 2).toNatClampNeg), .int (xs (x4 + 1).toNatClampNeg), .ref (b + 276)]) ?_ (fun hJ => ?_)
                rotate_left
                · skip
                  refine lv_if_eq (tgt := 527) (pc := 520) hx hb dL_law_520 (by decide) (fun c520 => ?_) (fun c520 => ?_)
                  · skip
                    refine lv_iconst (v := 0) (pc := 527) hx hb dL_law_527 (by decide) ?_
                    exact hJ _ false rfl (by rw [if_pos c520])
                  · skip
                    refine lv_iconst (v := 1) (pc := 523) hx hb dL_law_523 (by decide) ?_
                    refine lv_goto (tgt := 528) (pc := 524) hx hb dL_law_524 (by decide) ?_
                    exact hJ _ true rfl (by rw [if_neg c520])
                obtain ⟨hk82, h⟩ := h
                refine m_callVI (pc := 528) (y := yX7_job) (κ := 7) (As := [.int (xs (x4 + 1).toNatClampNeg), .int (xs (x4 + 2).toNatClampNeg), .int (xs (x4 + 3).toNatClampNeg), .int (xs (x4 + 4).toNatClampNeg), .int (bI (if (xs (x4 + 5).toNatClampNeg) = 0 then false else true))]) (rest := []) C hK hP hS hl.1 ⟨Nat.le_trans hk73 (Nat.le_of_ble_eq_true rfl), Nat.le_trans (Nat.mul_le_mul_left 1000 hk73) (Nat.le_of_ble_eq_true rfl)⟩ (c_X7_job h) rfl rfl hk82 (by decide) rfl q_1015 q_1016 q_1017 q_8 q_1018 ⟨rfl, rfl⟩ yd_X7_job ⟨Nat.le_of_ble_eq_true rfl, Nat.le_of_ble_eq_true rfl⟩ (Nat.le_of_ble_eq_true rfl) dL_law_528 (fun r83 M81 H locs h hP hS => ?_)
                refine lv_istore (lv' := [(6, .int r83), (5, .int r75), (0, .ref sb), (1, .ref (b + 0)), (2, .ref (b + 276)), (3, .ref (b + 282)), (4, .int x4)]) (pc := 531) hx hb dL_law_531 hl (by decide) rfl (fun ls hl => ?_)
                refine lv_aload_n (pc := 533) hx hb dL_law_533 rfl (lv_at hl 4 rfl) ?_
                refine m_callVI (pc := 534) (y := yX7_thrown) (κ := 7) (As := []) (rest := []) C hK hP hS hl.1 ⟨Nat.le_trans hk73 (Nat.le_of_ble_eq_true rfl), Nat.le_trans (Nat.mul_le_mul_left 1000 hk73) (Nat.le_of_ble_eq_true rfl)⟩ (c_X7_thrown h) rfl rfl hk82 (by decide) rfl q_962 q_963 q_964 q_8 q_965 ⟨rfl, rfl⟩ yd_X7_thrown ⟨Nat.le_of_ble_eq_true rfl, Nat.le_of_ble_eq_true rfl⟩ (Nat.le_of_ble_eq_true rfl) dL_law_534 (fun r85 M84 H locs h hP hS => ?_)
                refine lv_iload (pc := 537) hx hb dL_law_537 (lv_at hl 1 rfl) ?_
                refine lv_icmp_eq (tgt := 544) (pc := 539) hx hb dL_law_539 (by decide) (fun c539 => ?_) (fun c539 => ?_)
                · replace h := h.1 c539
                  refine lv_iload (pc := 544) hx hb dL_law_544 (lv_at hl 1 rfl) ?_
                  refine lv_if_ne (tgt := 561) (pc := 546) hx hb dL_law_546 (by decide) (fun c546 => ?_) (fun c546 => ?_)
                  · replace h := h.1 c546
                    refine lv_goto (tgt := 1673) (pc := 561) hx hb dL_law_561 (by decide) ?_
                    obtain ⟨v86, ev86⟩ : ∃ y : Int32, y = x4 + 6 := ⟨_, rfl⟩
                    replace h := h v86 ev86
                    refine lv_iinc (v := v86) (lv' := [(4, .int v86), (6, .int r83), (5, .int r75), (0, .ref sb), (1, .ref (b + 0)), (2, .ref (b + 276)), (3, .ref (b + 282))]) (pc := 1673) hx hb dL_law_1673 hl (k := 6) rfl (by rw [ev86]; rfl) (by decide) rfl (fun ls hl => ?_)
                    refine lv_goto (tgt := 23) (pc := 1676) hx hb dL_law_1676 (by decide) ?_
                    exact ih _ _ _ _ _ _ hk73 h hP hS (lv_sub hl [3, 4, 5, 6, 0] rfl)
                  · replace h := h.2 c546
                    refine lv_aload_n (pc := 549) hx hb dL_law_549 rfl (lv_at hl 5 rfl) ?_
                    refine lv_iconst (v := 0) (pc := 550) hx hb dL_law_550 (by decide) ?_
                    obtain ⟨hk87, h⟩ := h
                    obtain ⟨hi88, h⟩ := h
                    refine m_lald (pc := 551) C hK hP hk87 hi88 dL_law_551 ?_
                    refine lv_iload (pc := 552) hx hb dL_law_552 (lv_at hl 0 rfl) ?_
                    refine lv_i2l (pc := 554) hx hb dL_law_554 rfl ?_
                    refine W.lcmp (pc := 555) hx hb dL_law_555 ?_
                    refine lv_if_eq (tgt := 561) (pc := 556) hx hb dL_law_556 (by decide) (fun c556 => ?_) (fun c556 => ?_)
                    · replace h := h.1 c556
                      refine lv_goto (tgt := 1673) (pc := 561) hx hb dL_law_561 (by decide) ?_
                      obtain ⟨v89, ev89⟩ : ∃ y : Int32, y = x4 + 6 := ⟨_, rfl⟩
                      replace h := h v89 ev89
                      refine lv_iinc (v := v89) (lv' := [(4, .int v89), (6, .int r83), (5, .int r75), (0, .ref sb), (1, .ref (b + 0)), (2, .ref (b + 276)), (3, .ref (b + 282))]) (pc := 1673) hx hb dL_law_1673 hl (k := 6) rfl (by rw [ev89]; rfl) (by decide) rfl (fun ls hl => ?_)
                      refine lv_goto (tgt := 23) (pc := 1676) hx hb dL_law_1676 (by decide) ?_
                      exact ih _ _ _ _ _ _ hk73 h hP hS (lv_sub hl [3, 4, 5, 6, 0] rfl)
                    · replace h := h.2 c556
                      refine lv_iconst (v := 0) (pc := 559) hx hb dL_law_559 (by decide) ?_
                      exact h.elim
                · replace h := h.2 c539
                  refine lv_iconst (v := 0) (pc := 542) hx hb dL_law_542 (by decide) ?_
                  exact h.elim
              · replace h := h.2 n40_4
                by_cases n40_5 : ((xs x4.toNatClampNeg) &&& 31) = 5
                · replace h := h.1 n40_5
                  refine m_case (v := 5) (off := 524) (tgt := 564) (pc := 40) hx hb n40_5 dL_law_40 (by decide) (by decide) (by decide) (by decide) ?_
                  refine lv_aload_n (pc := 564) hx hb dL_law_564 rfl (lv_at hl 1 rfl) ?_
                  refine lv_aload_n (pc := 565) hx hb dL_law_565 rfl (lv_at hl 0 rfl) ?_
                  refine lv_iload (pc := 566) hx hb dL_law_566 (lv_at hl 4 rfl) ?_
                  refine lv_iconst (v := 1) (pc := 568) hx hb dL_law_568 (by decide) ?_
                  refine lv_iadd (pc := 569) hx hb dL_law_569 ?_
                  obtain ⟨hi90, h⟩ := h
                  refine va_sld (pc := 570) hx hb hX hbl hbA hS hi90 dL_law_570 ?_
                  refine lv_aload_n (pc := 571) hx hb dL_law_571 rfl (lv_at hl 3 rfl) ?_
                  obtain ⟨hk91, h⟩ := h
                  refine m_callY (pc := 572) (y := yL_cancel) (np := 3) (As := [.ref (b + 0), .int (xs (x4 + 1).toNatClampNeg), .ref (b + 282)]) (rest := []) C hK hZ hP hS hl.1 ⟨Nat.le_trans hk91 (Nat.le_of_ble_eq_true rfl), Nat.le_trans (Nat.add_le_add_left (by decide : 6 ≤ 1000) _) (Nat.le_trans (Nat.mul_le_mul_left 1000 hk91) (Nat.le_of_ble_eq_true rfl))⟩ (c_L_cancel hlt h) rfl rfl q_749 q_750 q_0 q_751 ⟨rfl, rfl⟩ yd_L_cancel ⟨Nat.le_of_ble_eq_true rfl, Nat.le_of_ble_eq_true rfl⟩ (Nat.le_of_ble_eq_true rfl) dL_law_572 (fun v9 M92 H locs hv9 hP hS => ?_)
                  obtain ⟨r93, rfl, h⟩ := hv9
                  refine W.widen (k := (k + 1)) (n := 1000 * (k + 1)) (Nat.le_refl _) (by omega) ?_
                  refine lv_istore (lv' := [(5, .int r93), (0, .ref sb), (1, .ref (b + 0)), (2, .ref (b + 276)), (3, .ref (b + 282)), (4, .int x4)]) (pc := 575) hx hb dL_law_575 hl (by decide) rfl (fun ls hl => ?_)
                  refine lv_aload_n (pc := 577) hx hb dL_law_577 rfl (lv_at hl 3 rfl) ?_
                  refine lv_aload_n (pc := 578) hx hb dL_law_578 rfl (lv_at hl 1 rfl) ?_
                  refine lv_iload (pc := 579) hx hb dL_law_579 (lv_at hl 5 rfl) ?_
                  refine lv_iconst (v := 1) (pc := 581) hx hb dL_law_581 (by decide) ?_
                  refine lv_iadd (pc := 582) hx hb dL_law_582 ?_
                  obtain ⟨hi94, h⟩ := h
                  refine va_sld (pc := 583) hx hb hX hbl hbA hS hi94 dL_law_583 ?_
                  obtain ⟨hk96, h⟩ := h
                  refine m_callVI (pc := 584) (y := yX7_cancel) (κ := 7) (As := [.int (xs (x4 + 1).toNatClampNeg)]) (rest := []) C hK hP hS hl.1 ⟨Nat.le_trans hk91 (Nat.le_of_ble_eq_true rfl), Nat.le_trans (Nat.mul_le_mul_left 1000 hk91) (Nat.le_of_ble_eq_true rfl)⟩ (c_X7_cancel h) rfl rfl hk96 (by decide) rfl q_1023 q_1024 q_1025 q_8 q_1026 ⟨rfl, rfl⟩ yd_X7_cancel ⟨Nat.le_of_ble_eq_true rfl, Nat.le_of_ble_eq_true rfl⟩ (Nat.le_of_ble_eq_true rfl) dL_law_584 (fun r97 M95 H locs h hP hS => ?_)
                  refine lv_istore (lv' := [(6, .int r97), (5, .int r93), (0, .ref sb), (1, .ref (b + 0)), (2, .ref (b + 276)), (3, .ref (b + 282)), (4, .int x4)]) (pc := 587) hx hb dL_law_587 hl (by decide) rfl (fun ls hl => ?_)
                  refine lv_aload_n (pc := 589) hx hb dL_law_589 rfl (lv_at hl 4 rfl) ?_
                  refine m_callVI (pc := 590) (y := yX7_thrown) (κ := 7) (As := []) (rest := []) C hK hP hS hl.1 ⟨Nat.le_trans hk91 (Nat.le_of_ble_eq_true rfl), Nat.le_trans (Nat.mul_le_mul_left 1000 hk91) (Nat.le_of_ble_eq_true rfl)⟩ (c_X7_thrown h) rfl rfl hk96 (by decide) rfl q_962 q_963 q_964 q_8 q_965 ⟨rfl, rfl⟩ yd_X7_thrown ⟨Nat.le_of_ble_eq_true rfl, Nat.le_of_ble_eq_true rfl⟩ (Nat.le_of_ble_eq_true rfl) dL_law_590 (fun r99 M98 H locs h hP hS => ?_)
                  refine lv_iload (pc := 593) hx hb dL_law_593 (lv_at hl 1 rfl) ?_
                  refine lv_icmp_eq (tgt := 600) (pc := 595) hx hb dL_law_595 (by decide) (fun c595 => ?_) (fun c595 => ?_)
                  · replace h := h.1 c595
                    refine lv_iload (pc := 600) hx hb dL_law_600 (lv_at hl 1 rfl) ?_
                    refine lv_if_ne (tgt := 617) (pc := 602) hx hb dL_law_602 (by decide) (fun c602 => ?_) (fun c602 => ?_)
                    · replace h := h.1 c602
                      refine lv_goto (tgt := 1673) (pc := 617) hx hb dL_law_617 (by decide) ?_
                      obtain ⟨v100, ev100⟩ : ∃ y : Int32, y = x4 + 6 := ⟨_, rfl⟩
                      replace h := h v100 ev100
                      refine lv_iinc (v := v100) (lv' := [(4, .int v100), (6, .int r97), (5, .int r93), (0, .ref sb), (1, .ref (b + 0)), (2, .ref (b + 276)), (3, .ref (b + 282))]) (pc := 1673) hx hb dL_law_1673 hl (k := 6) rfl (by rw [ev100]; rfl) (by decide) rfl (fun ls hl => ?_)
                      refine lv_goto (tgt := 23) (pc := 1676) hx hb dL_law_1676 (by decide) ?_
                      exact ih _ _ _ _ _ _ hk91 h hP hS (lv_sub hl [3, 4, 5, 6, 0] rfl)
                    · replace h := h.2 c602
                      refine lv_aload_n (pc := 605) hx hb dL_law_605 rfl (lv_at hl 5 rfl) ?_
                      refine lv_iconst (v := 0) (pc := 606) hx hb dL_law_606 (by decide) ?_
                      obtain ⟨hk101, h⟩ := h
                      obtain ⟨hi102, h⟩ := h
                      refine m_lald (pc := 607) C hK hP hk101 hi102 dL_law_607 ?_
                      refine lv_iload (pc := 608) hx hb dL_law_608 (lv_at hl 0 rfl) ?_
                      refine lv_i2l (pc := 610) hx hb dL_law_610 rfl ?_
                      refine W.lcmp (pc := 611) hx hb dL_law_611 ?_
                      refine lv_if_eq (tgt := 617) (pc := 612) hx hb dL_law_612 (by decide) (fun c612 => ?_) (fun c612 => ?_)
                      · replace h := h.1 c612
                        refine lv_goto (tgt := 1673) (pc := 617) hx hb dL_law_617 (by decide) ?_
                        obtain ⟨v103, ev103⟩ : ∃ y : Int32, y = x4 + 6 := ⟨_, rfl⟩
                        replace h := h v103 ev103
                        refine lv_iinc (v := v103) (lv' := [(4, .int v103), (6, .int r97), (5, .int r93), (0, .ref sb), (1, .ref (b + 0)), (2, .ref (b + 276)), (3, .ref (b + 282))]) (pc := 1673) hx hb dL_law_1673 hl (k := 6) rfl (by rw [ev103]; rfl) (by decide) rfl (fun ls hl => ?_)
                        refine lv_goto (tgt := 23) (pc := 1676) hx hb dL_law_1676 (by decide) ?_
                        exact ih _ _ _ _ _ _ hk91 h hP hS (lv_sub hl [3, 4, 5, 6, 0] rfl)
                      · replace h := h.2 c612
                        refine lv_iconst (v := 0) (pc := 615) hx hb dL_law_615 (by decide) ?_
                        exact h.elim
                  · replace h := h.2 c595
                    refine lv_iconst (v := 0) (pc := 598) hx hb dL_law_598 (by decide) ?_
                    exact h.elim
                · replace h := h.2 n40_5
                  by_cases n40_6 : ((xs x4.toNatClampNeg) &&& 31) = 6
                  · replace h := h.1 n40_6
                    refine m_case (v := 6) (off := 580) (tgt := 620) (pc := 40) hx hb n40_6 dL_law_40 (by decide) (by decide) (by decide) (by decide) ?_
                    refine lv_aload_n (pc := 620) hx hb dL_law_620 rfl (lv_at hl 1 rfl) ?_
                    refine lv_aload_n (pc := 621) hx hb dL_law_621 rfl (lv_at hl 0 rfl) ?_
                    refine lv_iload (pc := 622) hx hb dL_law_622 (lv_at hl 4 rfl) ?_
                    refine lv_iconst (v := 1) (pc := 624) hx hb dL_law_624 (by decide) ?_
                    refine lv_iadd (pc := 625) hx hb dL_law_625 ?_
                    obtain ⟨hi104, h⟩ := h
                    refine va_sld (pc := 626) hx hb hX hbl hbA hS hi104 dL_law_626 ?_
                    refine lv_aload_n (pc := 627) hx hb dL_law_627 rfl (lv_at hl 0 rfl) ?_
                    refine lv_iload (pc := 628) hx hb dL_law_628 (lv_at hl 4 rfl) ?_
                    refine lv_iconst (v := 2) (pc := 630) hx hb dL_law_630 (by decide) ?_
                    refine lv_iadd (pc := 631) hx hb dL_law_631 ?_
                    obtain ⟨hi105, h⟩ := h
                    refine va_sld (pc := 632) hx hb hX hbl hbA hS hi105 dL_law_632 ?_
                    refine m_joinZ (z := if (xs (x4 + 2).toNatClampNeg) = 0 then false else true) (jp := 641) (rest := [.int (xs (x4 + 1).toNatClampNeg), .ref (b + 0)]) ?_ (fun hJ => ?_)
                    rotate_left
                    · skip
                      refine lv_if_eq (tgt := 640) (pc := 633) hx hb dL_law_633 (by decide) (fun c633 => ?_) (fun c633 => ?_)
                      · skip
                        refine lv_iconst (v := 0) (pc := 640) hx hb dL_law_640 (by decide) ?_
                        exact hJ _ false rfl (by rw [if_pos c633])
                      · skip
                        refine lv_iconst (v := 1) (pc := 636) hx hb dL_law_636 (by decide) ?_
                        refine lv_goto (tgt := 641) (pc := 637) hx hb dL_law_637 (by decide) ?_
                        exact hJ _ true rfl (by rw [if_neg c633])
                    refine lv_aload_n (pc := 641) hx hb dL_law_641 rfl (lv_at hl 3 rfl) ?_
                    obtain ⟨hk106, h⟩ := h
                    refine m_callY (pc := 642) (y := yL_rush) (np := 4) (As := [.ref (b + 0), .int (xs (x4 + 1).toNatClampNeg), .int (bI (if (xs (x4 + 2).toNatClampNeg) = 0 then false else true)), .ref (b + 282)]) (rest := []) C hK hZ hP hS hl.1 ⟨Nat.le_trans hk106 (Nat.le_of_ble_eq_true rfl), Nat.le_trans (Nat.add_le_add_left (by decide : 6 ≤ 1000) _) (Nat.le_trans (Nat.mul_le_mul_left 1000 hk106) (Nat.le_of_ble_eq_true rfl))⟩ (c_L_rush hlt h) rfl rfl q_761 q_762 q_0 q_763 ⟨rfl, rfl⟩ yd_L_rush ⟨Nat.le_of_ble_eq_true rfl, Nat.le_of_ble_eq_true rfl⟩ (Nat.le_of_ble_eq_true rfl) dL_law_642 (fun v9 M107 H locs hv9 hP hS => ?_)
                    obtain ⟨r108, rfl, h⟩ := hv9
                    refine W.widen (k := (k + 1)) (n := 1000 * (k + 1)) (Nat.le_refl _) (by omega) ?_
                    refine lv_istore (lv' := [(5, .int r108), (0, .ref sb), (1, .ref (b + 0)), (2, .ref (b + 276)), (3, .ref (b + 282)), (4, .int x4)]) (pc := 645) hx hb dL_law_645 hl (by decide) rfl (fun ls hl => ?_)
                    refine lv_aload_n (pc := 647) hx hb dL_law_647 rfl (lv_at hl 3 rfl) ?_
                    refine lv_aload_n (pc := 648) hx hb dL_law_648 rfl (lv_at hl 1 rfl) ?_
                    refine lv_iload (pc := 649) hx hb dL_law_649 (lv_at hl 5 rfl) ?_
                    refine lv_iconst (v := 1) (pc := 651) hx hb dL_law_651 (by decide) ?_
                    refine lv_iadd (pc := 652) hx hb dL_law_652 ?_
                    obtain ⟨hi109, h⟩ := h
                    refine va_sld (pc := 653) hx hb hX hbl hbA hS hi109 dL_law_653 ?_
                    refine lv_aload_n (pc := 654) hx hb dL_law_654 rfl (lv_at hl 1 rfl) ?_
                    refine lv_iload (pc := 655) hx hb dL_law_655 (lv_at hl 5 rfl) ?_
                    refine lv_iconst (v := 2) (pc := 657) hx hb dL_law_657 (by decide) ?_
                    refine lv_iadd (pc := 658) hx hb dL_law_658 ?_
                    obtain ⟨hi110, h⟩ := h
                    refine va_sld (pc := 659) hx hb hX hbl hbA hS hi110 dL_law_659 ?_
                    refine m_joinZ (z := if (xs (x4 + 2).toNatClampNeg) = 0 then false else true) (jp := 668) (rest := [.int (xs (x4 + 1).toNatClampNeg), .ref (b + 276)]) ?_ (fun hJ => ?_)
                    rotate_left
                    · skip
                      refine lv_if_eq (tgt := 667) (pc := 660) hx hb dL_law_660 (by decide) (fun c660 => ?_) (fun c660 => ?_)
                      · skip
                        refine lv_iconst (v := 0) (pc := 667) hx hb dL_law_667 (by decide) ?_
                        exact hJ _ false rfl (by rw [if_pos c660])
                      · skip
                        refine lv_iconst (v := 1) (pc := 663) hx hb dL_law_663 (by decide) ?_
                        refine lv_goto (tgt := 668) (pc := 664) hx hb dL_law_664 (by decide) ?_
                        exact hJ _ true rfl (by rw [if_neg c660])
                    obtain ⟨hk112, h⟩ := h
                    refine m_callVI (pc := 668) (y := yX7_rush) (κ := 7) (As := [.int (xs (x4 + 1).toNatClampNeg), .int (bI (if (xs (x4 + 2).toNatClampNeg) = 0 then false else true))]) (rest := []) C hK hP hS hl.1 ⟨Nat.le_trans hk106 (Nat.le_of_ble_eq_true rfl), Nat.le_trans (Nat.mul_le_mul_left 1000 hk106) (Nat.le_of_ble_eq_true rfl)⟩ (c_X7_rush h) rfl rfl hk112 (by decide) rfl q_1059 q_1060 q_1061 q_8 q_1062 ⟨rfl, rfl⟩ yd_X7_rush ⟨Nat.le_of_ble_eq_true rfl, Nat.le_of_ble_eq_true rfl⟩ (Nat.le_of_ble_eq_true rfl) dL_law_668 (fun r113 M111 H locs h hP hS => ?_)
                    refine lv_istore (lv' := [(6, .int r113), (5, .int r108), (0, .ref sb), (1, .ref (b + 0)), (2, .ref (b + 276)), (3, .ref (b + 282)), (4, .int x4)]) (pc := 671) hx hb dL_law_671 hl (by decide) rfl (fun ls hl => ?_)
                    refine lv_aload_n (pc := 673) hx hb dL_law_673 rfl (lv_at hl 4 rfl) ?_
                    refine m_callVI (pc := 674) (y := yX7_thrown) (κ := 7) (As := []) (rest := []) C hK hP hS hl.1 ⟨Nat.le_trans hk106 (Nat.le_of_ble_eq_true rfl), Nat.le_trans (Nat.mul_le_mul_left 1000 hk106) (Nat.le_of_ble_eq_true rfl)⟩ (c_X7_thrown h) rfl rfl hk112 (by decide) rfl q_962 q_963 q_964 q_8 q_965 ⟨rfl, rfl⟩ yd_X7_thrown ⟨Nat.le_of_ble_eq_true rfl, Nat.le_of_ble_eq_true rfl⟩ (Nat.le_of_ble_eq_true rfl) dL_law_674 (fun r115 M114 H locs h hP hS => ?_)
                    refine lv_iload (pc := 677) hx hb dL_law_677 (lv_at hl 1 rfl) ?_
                    refine lv_icmp_eq (tgt := 684) (pc := 679) hx hb dL_law_679 (by decide) (fun c679 => ?_) (fun c679 => ?_)
                    · replace h := h.1 c679
                      refine lv_iload (pc := 684) hx hb dL_law_684 (lv_at hl 1 rfl) ?_
                      refine lv_if_ne (tgt := 701) (pc := 686) hx hb dL_law_686 (by decide) (fun c686 => ?_) (fun c686 => ?_)
                      · replace h := h.1 c686
                        refine lv_goto (tgt := 1673) (pc := 701) hx hb dL_law_701 (by decide) ?_
                        obtain ⟨v116, ev116⟩ : ∃ y : Int32, y = x4 + 6 := ⟨_, rfl⟩
                        replace h := h v116 ev116
                        refine lv_iinc (v := v116) (lv' := [(4, .int v116), (6, .int r113), (5, .int r108), (0, .ref sb), (1, .ref (b + 0)), (2, .ref (b + 276)), (3, .ref (b + 282))]) (pc := 1673) hx hb dL_law_1673 hl (k := 6) rfl (by rw [ev116]; rfl) (by decide) rfl (fun ls hl => ?_)
                        refine lv_goto (tgt := 23) (pc := 1676) hx hb dL_law_1676 (by decide) ?_
                        exact ih _ _ _ _ _ _ hk106 h hP hS (lv_sub hl [3, 4, 5, 6, 0] rfl)
                      · replace h := h.2 c686
                        refine lv_aload_n (pc := 689) hx hb dL_law_689 rfl (lv_at hl 5 rfl) ?_
                        refine lv_iconst (v := 0) (pc := 690) hx hb dL_law_690 (by decide) ?_
                        obtain ⟨hk117, h⟩ := h
                        obtain ⟨hi118, h⟩ := h
                        refine m_lald (pc := 691) C hK hP hk117 hi118 dL_law_691 ?_
                        refine lv_iload (pc := 692) hx hb dL_law_692 (lv_at hl 0 rfl) ?_
                        refine lv_i2l (pc := 694) hx hb dL_law_694 rfl ?_
                        refine W.lcmp (pc := 695) hx hb dL_law_695 ?_
                        refine lv_if_eq (tgt := 701) (pc := 696) hx hb dL_law_696 (by decide) (fun c696 => ?_) (fun c696 => ?_)
                        · replace h := h.1 c696
                          refine lv_goto (tgt := 1673) (pc := 701) hx hb dL_law_701 (by decide) ?_
                          obtain ⟨v119, ev119⟩ : ∃ y : Int32, y = x4 + 6 := ⟨_, rfl⟩
                          replace h := h v119 ev119
                          refine lv_iinc (v := v119) (lv' := [(4, .int v119), (6, .int r113), (5, .int r108), (0, .ref sb), (1, .ref (b + 0)), (2, .ref (b + 276)), (3, .ref (b + 282))]) (pc := 1673) hx hb dL_law_1673 hl (k := 6) rfl (by rw [ev119]; rfl) (by decide) rfl (fun ls hl => ?_)
                          refine lv_goto (tgt := 23) (pc := 1676) hx hb dL_law_1676 (by decide) ?_
                          exact ih _ _ _ _ _ _ hk106 h hP hS (lv_sub hl [3, 4, 5, 6, 0] rfl)
                        · replace h := h.2 c696
                          refine lv_iconst (v := 0) (pc := 699) hx hb dL_law_699 (by decide) ?_
                          exact h.elim
                    · replace h := h.2 c679
                      refine lv_iconst (v := 0) (pc := 682) hx hb dL_law_682 (by decide) ?_
                      exact h.elim
                  · replace h := h.2 n40_6
                    by_cases n40_7 : ((xs x4.toNatClampNeg) &&& 31) = 7
                    · replace h := h.1 n40_7
                      refine m_case (v := 7) (off := 664) (tgt := 704) (pc := 40) hx hb n40_7 dL_law_40 (by decide) (by decide) (by decide) (by decide) ?_
                      refine lv_aload_n (pc := 704) hx hb dL_law_704 rfl (lv_at hl 1 rfl) ?_
                      refine lv_aload_n (pc := 705) hx hb dL_law_705 rfl (lv_at hl 0 rfl) ?_
                      refine lv_iload (pc := 706) hx hb dL_law_706 (lv_at hl 4 rfl) ?_
                      refine lv_iconst (v := 1) (pc := 708) hx hb dL_law_708 (by decide) ?_
                      refine lv_iadd (pc := 709) hx hb dL_law_709 ?_
                      obtain ⟨hi120, h⟩ := h
                      refine va_sld (pc := 710) hx hb hX hbl hbA hS hi120 dL_law_710 ?_
                      refine lv_aload_n (pc := 711) hx hb dL_law_711 rfl (lv_at hl 0 rfl) ?_
                      refine lv_iload (pc := 712) hx hb dL_law_712 (lv_at hl 4 rfl) ?_
                      refine lv_iconst (v := 2) (pc := 714) hx hb dL_law_714 (by decide) ?_
                      refine lv_iadd (pc := 715) hx hb dL_law_715 ?_
                      obtain ⟨hi121, h⟩ := h
                      refine va_sld (pc := 716) hx hb hX hbl hbA hS hi121 dL_law_716 ?_
                      refine lv_aload_n (pc := 717) hx hb dL_law_717 rfl (lv_at hl 3 rfl) ?_
                      obtain ⟨hk122, h⟩ := h
                      refine m_callY (pc := 718) (y := yL_set) (np := 4) (As := [.ref (b + 0), .int (xs (x4 + 1).toNatClampNeg), .int (xs (x4 + 2).toNatClampNeg), .ref (b + 282)]) (rest := []) C hK hZ hP hS hl.1 ⟨Nat.le_trans hk122 (Nat.le_of_ble_eq_true rfl), Nat.le_trans (Nat.add_le_add_left (by decide : 6 ≤ 1000) _) (Nat.le_trans (Nat.mul_le_mul_left 1000 hk122) (Nat.le_of_ble_eq_true rfl))⟩ (c_L_set hlt h) rfl rfl q_768 q_769 q_0 q_770 ⟨rfl, rfl⟩ yd_L_set ⟨Nat.le_of_ble_eq_true rfl, Nat.le_of_ble_eq_true rfl⟩ (Nat.le_of_ble_eq_true rfl) dL_law_718 (fun v9 M123 H locs hv9 hP hS => ?_)
                      obtain ⟨r124, rfl, h⟩ := hv9
                      refine W.widen (k := (k + 1)) (n := 1000 * (k + 1)) (Nat.le_refl _) (by omega) ?_
                      refine lv_istore (lv' := [(5, .int r124), (0, .ref sb), (1, .ref (b + 0)), (2, .ref (b + 276)), (3, .ref (b + 282)), (4, .int x4)]) (pc := 721) hx hb dL_law_721 hl (by decide) rfl (fun ls hl => ?_)
                      refine lv_aload_n (pc := 723) hx hb dL_law_723 rfl (lv_at hl 3 rfl) ?_
                      refine lv_aload_n (pc := 724) hx hb dL_law_724 rfl (lv_at hl 1 rfl) ?_
                      refine lv_iload (pc := 725) hx hb dL_law_725 (lv_at hl 5 rfl) ?_
                      refine lv_iconst (v := 1) (pc := 727) hx hb dL_law_727 (by decide) ?_
                      refine lv_iadd (pc := 728) hx hb dL_law_728 ?_
                      obtain ⟨hi125, h⟩ := h
                      refine va_sld (pc := 729) hx hb hX hbl hbA hS hi125 dL_law_729 ?_
                      refine lv_aload_n (pc := 730) hx hb dL_law_730 rfl (lv_at hl 1 rfl) ?_
                      refine lv_iload (pc := 731) hx hb dL_law_731 (lv_at hl 5 rfl) ?_
                      refine lv_iconst (v := 2) (pc := 733) hx hb dL_law_733 (by decide) ?_
                      refine lv_iadd (pc := 734) hx hb dL_law_734 ?_
                      obtain ⟨hi126, h⟩ := h
                      refine va_sld (pc := 735) hx hb hX hbl hbA hS hi126 dL_law_735 ?_
                      obtain ⟨hk128, h⟩ := h
                      refine m_callVI (pc := 736) (y := yX7_set) (κ := 7) (As := [.int (xs (x4 + 1).toNatClampNeg), .int (xs (x4 + 2).toNatClampNeg)]) (rest := []) C hK hP hS hl.1 ⟨Nat.le_trans hk122 (Nat.le_of_ble_eq_true rfl), Nat.le_trans (Nat.mul_le_mul_left 1000 hk122) (Nat.le_of_ble_eq_true rfl)⟩ (c_X7_set h) rfl rfl hk128 (by decide) rfl q_1071 q_1072 q_1073 q_8 q_1074 ⟨rfl, rfl⟩ yd_X7_set ⟨Nat.le_of_ble_eq_true rfl, Nat.le_of_ble_eq_true rfl⟩ (Nat.le_of_ble_eq_true rfl) dL_law_736 (fun r129 M127 H locs h hP hS => ?_)
                      refine lv_istore (lv' := [(6, .int r129), (5, .int r124), (0, .ref sb), (1, .ref (b + 0)), (2, .ref (b + 276)), (3, .ref (b + 282)), (4, .int x4)]) (pc := 739) hx hb dL_law_739 hl (by decide) rfl (fun ls hl => ?_)
                      refine lv_aload_n (pc := 741) hx hb dL_law_741 rfl (lv_at hl 4 rfl) ?_
                      refine m_callVI (pc := 742) (y := yX7_thrown) (κ := 7) (As := []) (rest := []) C hK hP hS hl.1 ⟨Nat.le_trans hk122 (Nat.le_of_ble_eq_true rfl), Nat.le_trans (Nat.mul_le_mul_left 1000 hk122) (Nat.le_of_ble_eq_true rfl)⟩ (c_X7_thrown h) rfl rfl hk128 (by decide) rfl q_962 q_963 q_964 q_8 q_965 ⟨rfl, rfl⟩ yd_X7_thrown ⟨Nat.le_of_ble_eq_true rfl, Nat.le_of_ble_eq_true rfl⟩ (Nat.le_of_ble_eq_true rfl) dL_law_742 (fun r131 M130 H locs h hP hS => ?_)
                      refine lv_iload (pc := 745) hx hb dL_law_745 (lv_at hl 1 rfl) ?_
                      refine lv_icmp_eq (tgt := 752) (pc := 747) hx hb dL_law_747 (by decide) (fun c747 => ?_) (fun c747 => ?_)
                      · replace h := h.1 c747
                        refine lv_iload (pc := 752) hx hb dL_law_752 (lv_at hl 1 rfl) ?_
                        refine lv_if_ne (tgt := 769) (pc := 754) hx hb dL_law_754 (by decide) (fun c754 => ?_) (fun c754 => ?_)
                        · replace h := h.1 c754
                          refine lv_goto (tgt := 1673) (pc := 769) hx hb dL_law_769 (by decide) ?_
                          obtain ⟨v132, ev132⟩ : ∃ y : Int32, y = x4 + 6 := ⟨_, rfl⟩
                          replace h := h v132 ev132
                          refine lv_iinc (v := v132) (lv' := [(4, .int v132), (6, .int r129), (5, .int r124), (0, .ref sb), (1, .ref (b + 0)), (2, .ref (b + 276)), (3, .ref (b + 282))]) (pc := 1673) hx hb dL_law_1673 hl (k := 6) rfl (by rw [ev132]; rfl) (by decide) rfl (fun ls hl => ?_)
                          refine lv_goto (tgt := 23) (pc := 1676) hx hb dL_law_1676 (by decide) ?_
                          exact ih _ _ _ _ _ _ hk122 h hP hS (lv_sub hl [3, 4, 5, 6, 0] rfl)
                        · replace h := h.2 c754
                          refine lv_aload_n (pc := 757) hx hb dL_law_757 rfl (lv_at hl 5 rfl) ?_
                          refine lv_iconst (v := 0) (pc := 758) hx hb dL_law_758 (by decide) ?_
                          obtain ⟨hk133, h⟩ := h
                          obtain ⟨hi134, h⟩ := h
                          refine m_lald (pc := 759) C hK hP hk133 hi134 dL_law_759 ?_
                          refine lv_iload (pc := 760) hx hb dL_law_760 (lv_at hl 0 rfl) ?_
                          refine lv_i2l (pc := 762) hx hb dL_law_762 rfl ?_
                          refine W.lcmp (pc := 763) hx hb dL_law_763 ?_
                          refine lv_if_eq (tgt := 769) (pc := 764) hx hb dL_law_764 (by decide) (fun c764 => ?_) (fun c764 => ?_)
                          · replace h := h.1 c764
                            refine lv_goto (tgt := 1673) (pc := 769) hx hb dL_law_769 (by decide) ?_
                            obtain ⟨v135, ev135⟩ : ∃ y : Int32, y = x4 + 6 := ⟨_, rfl⟩
                            replace h := h v135 ev135
                            refine lv_iinc (v := v135) (lv' := [(4, .int v135), (6, .int r129), (5, .int r124), (0, .ref sb), (1, .ref (b + 0)), (2, .ref (b + 276)), (3, .ref (b + 282))]) (pc := 1673) hx hb dL_law_1673 hl (k := 6) rfl (by rw [ev135]; rfl) (by decide) rfl (fun ls hl => ?_)
                            refine lv_goto (tgt := 23) (pc := 1676) hx hb dL_law_1676 (by decide) ?_
                            exact ih _ _ _ _ _ _ hk122 h hP hS (lv_sub hl [3, 4, 5, 6, 0] rfl)
                          · replace h := h.2 c764
                            refine lv_iconst (v := 0) (pc := 767) hx hb dL_law_767 (by decide) ?_
                            exact h.elim
                      · replace h := h.2 c747
                        refine lv_iconst (v := 0) (pc := 750) hx hb dL_law_750 (by decide) ?_
                        exact h.elim
                    · replace h := h.2 n40_7
                      by_cases n40_8 : ((xs x4.toNatClampNeg) &&& 31) = 8
                      · replace h := h.1 n40_8
                        refine m_case (v := 8) (off := 732) (tgt := 772) (pc := 40) hx hb n40_8 dL_law_40 (by decide) (by decide) (by decide) (by decide) ?_
                        refine lv_aload_n (pc := 772) hx hb dL_law_772 rfl (lv_at hl 1 rfl) ?_
                        refine lv_aload_n (pc := 773) hx hb dL_law_773 rfl (lv_at hl 0 rfl) ?_
                        refine lv_iload (pc := 774) hx hb dL_law_774 (lv_at hl 4 rfl) ?_
                        refine lv_iconst (v := 1) (pc := 776) hx hb dL_law_776 (by decide) ?_
                        refine lv_iadd (pc := 777) hx hb dL_law_777 ?_
                        obtain ⟨hi136, h⟩ := h
                        refine va_sld (pc := 778) hx hb hX hbl hbA hS hi136 dL_law_778 ?_
                        refine lv_aload_n (pc := 779) hx hb dL_law_779 rfl (lv_at hl 3 rfl) ?_
                        obtain ⟨hk137, h⟩ := h
                        refine m_callY (pc := 780) (y := yL_pass) (np := 3) (As := [.ref (b + 0), .int (xs (x4 + 1).toNatClampNeg), .ref (b + 282)]) (rest := []) C hK hZ hP hS hl.1 ⟨Nat.le_trans hk137 (Nat.le_of_ble_eq_true rfl), Nat.le_trans (Nat.add_le_add_left (by decide : 6 ≤ 1000) _) (Nat.le_trans (Nat.mul_le_mul_left 1000 hk137) (Nat.le_of_ble_eq_true rfl))⟩ (c_L_pass hlt h) rfl rfl q_787 q_788 q_0 q_789 ⟨rfl, rfl⟩ yd_L_pass ⟨Nat.le_of_ble_eq_true rfl, Nat.le_of_ble_eq_true rfl⟩ (Nat.le_of_ble_eq_true rfl) dL_law_780 (fun v9 M138 H locs hv9 hP hS => ?_)
                        obtain ⟨r139, rfl, h⟩ := hv9
                        refine W.widen (k := (k + 1)) (n := 1000 * (k + 1)) (Nat.le_refl _) (by omega) ?_
                        refine lv_istore (lv' := [(5, .int r139), (0, .ref sb), (1, .ref (b + 0)), (2, .ref (b + 276)), (3, .ref (b + 282)), (4, .int x4)]) (pc := 783) hx hb dL_law_783 hl (by decide) rfl (fun ls hl => ?_)
                        refine lv_aload_n (pc := 785) hx hb dL_law_785 rfl (lv_at hl 3 rfl) ?_
                        refine lv_aload_n (pc := 786) hx hb dL_law_786 rfl (lv_at hl 1 rfl) ?_
                        refine lv_iload (pc := 787) hx hb dL_law_787 (lv_at hl 5 rfl) ?_
                        refine lv_iconst (v := 1) (pc := 789) hx hb dL_law_789 (by decide) ?_
                        refine lv_iadd (pc := 790) hx hb dL_law_790 ?_
                        obtain ⟨hi140, h⟩ := h
                        refine va_sld (pc := 791) hx hb hX hbl hbA hS hi140 dL_law_791 ?_
                        obtain ⟨hk142, h⟩ := h
                        refine m_callVI (pc := 792) (y := yX7_pass) (κ := 7) (As := [.int (xs (x4 + 1).toNatClampNeg)]) (rest := []) C hK hP hS hl.1 ⟨Nat.le_trans hk137 (Nat.le_of_ble_eq_true rfl), Nat.le_trans (Nat.mul_le_mul_left 1000 hk137) (Nat.le_of_ble_eq_true rfl)⟩ (c_X7_pass h) rfl rfl hk142 (by decide) rfl q_1078 q_1079 q_1080 q_8 q_1081 ⟨rfl, rfl⟩ yd_X7_pass ⟨Nat.le_of_ble_eq_true rfl, Nat.le_of_ble_eq_true rfl⟩ (Nat.le_of_ble_eq_true rfl) dL_law_792 (fun r143 M141 H locs h hP hS => ?_)
                        refine lv_istore (lv' := [(6, .int r143), (5, .int r139), (0, .ref sb), (1, .ref (b + 0)), (2, .ref (b + 276)), (3, .ref (b + 282)), (4, .int x4)]) (pc := 795) hx hb dL_law_795 hl (by decide) rfl (fun ls hl => ?_)
                        refine lv_aload_n (pc := 797) hx hb dL_law_797 rfl (lv_at hl 4 rfl) ?_
                        refine m_callVI (pc := 798) (y := yX7_thrown) (κ := 7) (As := []) (rest := []) C hK hP hS hl.1 ⟨Nat.le_trans hk137 (Nat.le_of_ble_eq_true rfl), Nat.le_trans (Nat.mul_le_mul_left 1000 hk137) (Nat.le_of_ble_eq_true rfl)⟩ (c_X7_thrown h) rfl rfl hk142 (by decide) rfl q_962 q_963 q_964 q_8 q_965 ⟨rfl, rfl⟩ yd_X7_thrown ⟨Nat.le_of_ble_eq_true rfl, Nat.le_of_ble_eq_true rfl⟩ (Nat.le_of_ble_eq_true rfl) dL_law_798 (fun r145 M144 H locs h hP hS => ?_)
                        refine lv_iload (pc := 801) hx hb dL_law_801 (lv_at hl 1 rfl) ?_
                        refine lv_icmp_eq (tgt := 808) (pc := 803) hx hb dL_law_803 (by decide) (fun c803 => ?_) (fun c803 => ?_)
                        · replace h := h.1 c803
                          refine lv_iload (pc := 808) hx hb dL_law_808 (lv_at hl 1 rfl) ?_
                          refine lv_if_ne (tgt := 825) (pc := 810) hx hb dL_law_810 (by decide) (fun c810 => ?_) (fun c810 => ?_)
                          · replace h := h.1 c810
                            refine lv_goto (tgt := 1673) (pc := 825) hx hb dL_law_825 (by decide) ?_
                            obtain ⟨v146, ev146⟩ : ∃ y : Int32, y = x4 + 6 := ⟨_, rfl⟩
                            replace h := h v146 ev146
                            refine lv_iinc (v := v146) (lv' := [(4, .int v146), (6, .int r143), (5, .int r139), (0, .ref sb), (1, .ref (b + 0)), (2, .ref (b + 276)), (3, .ref (b + 282))]) (pc := 1673) hx hb dL_law_1673 hl (k := 6) rfl (by rw [ev146]; rfl) (by decide) rfl (fun ls hl => ?_)
                            refine lv_goto (tgt := 23) (pc := 1676) hx hb dL_law_1676 (by decide) ?_
                            exact ih _ _ _ _ _ _ hk137 h hP hS (lv_sub hl [3, 4, 5, 6, 0] rfl)
                          · replace h := h.2 c810
                            refine lv_aload_n (pc := 813) hx hb dL_law_813 rfl (lv_at hl 5 rfl) ?_
                            refine lv_iconst (v := 0) (pc := 814) hx hb dL_law_814 (by decide) ?_
                            obtain ⟨hk147, h⟩ := h
                            obtain ⟨hi148, h⟩ := h
                            refine m_lald (pc := 815) C hK hP hk147 hi148 dL_law_815 ?_
                            refine lv_iload (pc := 816) hx hb dL_law_816 (lv_at hl 0 rfl) ?_
                            refine lv_i2l (pc := 818) hx hb dL_law_818 rfl ?_
                            refine W.lcmp (pc := 819) hx hb dL_law_819 ?_
                            refine lv_if_eq (tgt := 825) (pc := 820) hx hb dL_law_820 (by decide) (fun c820 => ?_) (fun c820 => ?_)
                            · replace h := h.1 c820
                              refine lv_goto (tgt := 1673) (pc := 825) hx hb dL_law_825 (by decide) ?_
                              obtain ⟨v149, ev149⟩ : ∃ y : Int32, y = x4 + 6 := ⟨_, rfl⟩
                              replace h := h v149 ev149
                              refine lv_iinc (v := v149) (lv' := [(4, .int v149), (6, .int r143), (5, .int r139), (0, .ref sb), (1, .ref (b + 0)), (2, .ref (b + 276)), (3, .ref (b + 282))]) (pc := 1673) hx hb dL_law_1673 hl (k := 6) rfl (by rw [ev149]; rfl) (by decide) rfl (fun ls hl => ?_)
                              refine lv_goto (tgt := 23) (pc := 1676) hx hb dL_law_1676 (by decide) ?_
                              exact ih _ _ _ _ _ _ hk137 h hP hS (lv_sub hl [3, 4, 5, 6, 0] rfl)
                            · replace h := h.2 c820
                              refine lv_iconst (v := 0) (pc := 823) hx hb dL_law_823 (by decide) ?_
                              exact h.elim
                        · replace h := h.2 c803
                          refine lv_iconst (v := 0) (pc := 806) hx hb dL_law_806 (by decide) ?_
                          exact h.elim
                      · replace h := h.2 n40_8
                        by_cases n40_9 : ((xs x4.toNatClampNeg) &&& 31) = 9
                        · replace h := h.1 n40_9
                          refine m_case (v := 9) (off := 788) (tgt := 828) (pc := 40) hx hb n40_9 dL_law_40 (by decide) (by decide) (by decide) (by decide) ?_
                          refine lv_aload_n (pc := 828) hx hb dL_law_828 rfl (lv_at hl 1 rfl) ?_
                          refine lv_aload_n (pc := 829) hx hb dL_law_829 rfl (lv_at hl 0 rfl) ?_
                          refine lv_iload (pc := 830) hx hb dL_law_830 (lv_at hl 4 rfl) ?_
                          refine lv_iconst (v := 1) (pc := 832) hx hb dL_law_832 (by decide) ?_
                          refine lv_iadd (pc := 833) hx hb dL_law_833 ?_
                          obtain ⟨hi150, h⟩ := h
                          refine va_sld (pc := 834) hx hb hX hbl hbA hS hi150 dL_law_834 ?_
                          refine lv_aload_n (pc := 835) hx hb dL_law_835 rfl (lv_at hl 3 rfl) ?_
                          obtain ⟨hk151, h⟩ := h
                          refine m_callY (pc := 836) (y := yL_append) (np := 3) (As := [.ref (b + 0), .int (xs (x4 + 1).toNatClampNeg), .ref (b + 282)]) (rest := []) C hK hZ hP hS hl.1 ⟨Nat.le_trans hk151 (Nat.le_of_ble_eq_true rfl), Nat.le_trans (Nat.add_le_add_left (by decide : 6 ≤ 1000) _) (Nat.le_trans (Nat.mul_le_mul_left 1000 hk151) (Nat.le_of_ble_eq_true rfl))⟩ (c_L_append hlt h) rfl rfl q_796 q_797 q_0 q_798 ⟨rfl, rfl⟩ yd_L_append ⟨Nat.le_of_ble_eq_true rfl, Nat.le_of_ble_eq_true rfl⟩ (Nat.le_of_ble_eq_true rfl) dL_law_836 (fun v9 M152 H locs hv9 hP hS => ?_)
                          obtain ⟨r153, rfl, h⟩ := hv9
                          refine W.widen (k := (k + 1)) (n := 1000 * (k + 1)) (Nat.le_refl _) (by omega) ?_
                          refine lv_istore (lv' := [(5, .int r153), (0, .ref sb), (1, .ref (b + 0)), (2, .ref (b + 276)), (3, .ref (b + 282)), (4, .int x4)]) (pc := 839) hx hb dL_law_839 hl (by decide) rfl (fun ls hl => ?_)
                          refine lv_aload_n (pc := 841) hx hb dL_law_841 rfl (lv_at hl 3 rfl) ?_
                          refine lv_aload_n (pc := 842) hx hb dL_law_842 rfl (lv_at hl 1 rfl) ?_
                          refine lv_iload (pc := 843) hx hb dL_law_843 (lv_at hl 5 rfl) ?_
                          refine lv_iconst (v := 1) (pc := 845) hx hb dL_law_845 (by decide) ?_
                          refine lv_iadd (pc := 846) hx hb dL_law_846 ?_
                          obtain ⟨hi154, h⟩ := h
                          refine va_sld (pc := 847) hx hb hX hbl hbA hS hi154 dL_law_847 ?_
                          obtain ⟨hk156, h⟩ := h
                          refine m_callVI (pc := 848) (y := yX7_append) (κ := 7) (As := [.int (xs (x4 + 1).toNatClampNeg)]) (rest := []) C hK hP hS hl.1 ⟨Nat.le_trans hk151 (Nat.le_of_ble_eq_true rfl), Nat.le_trans (Nat.mul_le_mul_left 1000 hk151) (Nat.le_of_ble_eq_true rfl)⟩ (c_X7_append h) rfl rfl hk156 (by decide) rfl q_1150 q_1151 q_1152 q_8 q_1153 ⟨rfl, rfl⟩ yd_X7_append ⟨Nat.le_of_ble_eq_true rfl, Nat.le_of_ble_eq_true rfl⟩ (Nat.le_of_ble_eq_true rfl) dL_law_848 (fun r157 M155 H locs h hP hS => ?_)
                          refine lv_istore (lv' := [(6, .int r157), (5, .int r153), (0, .ref sb), (1, .ref (b + 0)), (2, .ref (b + 276)), (3, .ref (b + 282)), (4, .int x4)]) (pc := 851) hx hb dL_law_851 hl (by decide) rfl (fun ls hl => ?_)
                          refine lv_aload_n (pc := 853) hx hb dL_law_853 rfl (lv_at hl 4 rfl) ?_
                          refine m_callVI (pc := 854) (y := yX7_thrown) (κ := 7) (As := []) (rest := []) C hK hP hS hl.1 ⟨Nat.le_trans hk151 (Nat.le_of_ble_eq_true rfl), Nat.le_trans (Nat.mul_le_mul_left 1000 hk151) (Nat.le_of_ble_eq_true rfl)⟩ (c_X7_thrown h) rfl rfl hk156 (by decide) rfl q_962 q_963 q_964 q_8 q_965 ⟨rfl, rfl⟩ yd_X7_thrown ⟨Nat.le_of_ble_eq_true rfl, Nat.le_of_ble_eq_true rfl⟩ (Nat.le_of_ble_eq_true rfl) dL_law_854 (fun r159 M158 H locs h hP hS => ?_)
                          refine lv_iload (pc := 857) hx hb dL_law_857 (lv_at hl 1 rfl) ?_
                          refine lv_icmp_eq (tgt := 864) (pc := 859) hx hb dL_law_859 (by decide) (fun c859 => ?_) (fun c859 => ?_)
                          · replace h := h.1 c859
                            refine lv_iload (pc := 864) hx hb dL_law_864 (lv_at hl 1 rfl) ?_
                            refine lv_if_ne (tgt := 881) (pc := 866) hx hb dL_law_866 (by decide) (fun c866 => ?_) (fun c866 => ?_)
                            · replace h := h.1 c866
                              refine lv_goto (tgt := 1673) (pc := 881) hx hb dL_law_881 (by decide) ?_
                              obtain ⟨v160, ev160⟩ : ∃ y : Int32, y = x4 + 6 := ⟨_, rfl⟩
                              replace h := h v160 ev160
                              refine lv_iinc (v := v160) (lv' := [(4, .int v160), (6, .int r157), (5, .int r153), (0, .ref sb), (1, .ref (b + 0)), (2, .ref (b + 276)), (3, .ref (b + 282))]) (pc := 1673) hx hb dL_law_1673 hl (k := 6) rfl (by rw [ev160]; rfl) (by decide) rfl (fun ls hl => ?_)
                              refine lv_goto (tgt := 23) (pc := 1676) hx hb dL_law_1676 (by decide) ?_
                              exact ih _ _ _ _ _ _ hk151 h hP hS (lv_sub hl [3, 4, 5, 6, 0] rfl)
                            · replace h := h.2 c866
                              refine lv_aload_n (pc := 869) hx hb dL_law_869 rfl (lv_at hl 5 rfl) ?_
                              refine lv_iconst (v := 0) (pc := 870) hx hb dL_law_870 (by decide) ?_
                              obtain ⟨hk161, h⟩ := h
                              obtain ⟨hi162, h⟩ := h
                              refine m_lald (pc := 871) C hK hP hk161 hi162 dL_law_871 ?_
                              refine lv_iload (pc := 872) hx hb dL_law_872 (lv_at hl 0 rfl) ?_
                              refine lv_i2l (pc := 874) hx hb dL_law_874 rfl ?_
                              refine W.lcmp (pc := 875) hx hb dL_law_875 ?_
                              refine lv_if_eq (tgt := 881) (pc := 876) hx hb dL_law_876 (by decide) (fun c876 => ?_) (fun c876 => ?_)
                              · replace h := h.1 c876
                                refine lv_goto (tgt := 1673) (pc := 881) hx hb dL_law_881 (by decide) ?_
                                obtain ⟨v163, ev163⟩ : ∃ y : Int32, y = x4 + 6 := ⟨_, rfl⟩
                                replace h := h v163 ev163
                                refine lv_iinc (v := v163) (lv' := [(4, .int v163), (6, .int r157), (5, .int r153), (0, .ref sb), (1, .ref (b + 0)), (2, .ref (b + 276)), (3, .ref (b + 282))]) (pc := 1673) hx hb dL_law_1673 hl (k := 6) rfl (by rw [ev163]; rfl) (by decide) rfl (fun ls hl => ?_)
                                refine lv_goto (tgt := 23) (pc := 1676) hx hb dL_law_1676 (by decide) ?_
                                exact ih _ _ _ _ _ _ hk151 h hP hS (lv_sub hl [3, 4, 5, 6, 0] rfl)
                              · replace h := h.2 c876
                                refine lv_iconst (v := 0) (pc := 879) hx hb dL_law_879 (by decide) ?_
                                exact h.elim
                          · replace h := h.2 c859
                            refine lv_iconst (v := 0) (pc := 862) hx hb dL_law_862 (by decide) ?_
                            exact h.elim
                        · replace h := h.2 n40_9
                          by_cases n40_10 : ((xs x4.toNatClampNeg) &&& 31) = 10
                          · replace h := h.1 n40_10
                            refine m_case (v := 10) (off := 844) (tgt := 884) (pc := 40) hx hb n40_10 dL_law_40 (by decide) (by decide) (by decide) (by decide) ?_
                            refine lv_aload_n (pc := 884) hx hb dL_law_884 rfl (lv_at hl 1 rfl) ?_
                            obtain ⟨hk165, h⟩ := h
                            refine m_callVI (pc := 885) (y := yX6_clearBuffer) (κ := 6) (As := []) (rest := []) C hK hP hS hl.1 ⟨Nat.le_trans hk (Nat.le_of_ble_eq_true rfl), Nat.le_trans (Nat.mul_le_mul_left 1000 hk) (Nat.le_of_ble_eq_true rfl)⟩ (c_X6_clearBuffer h) rfl rfl hk165 (by decide) rfl q_285 q_286 q_287 q_1 q_288 ⟨rfl, rfl⟩ yd_X6_clearBuffer ⟨Nat.le_of_ble_eq_true rfl, Nat.le_of_ble_eq_true rfl⟩ (Nat.le_of_ble_eq_true rfl) dL_law_885 (fun r166 M164 H locs h hP hS => ?_)
                            refine lv_aload_n (pc := 888) hx hb dL_law_888 rfl (lv_at hl 2 rfl) ?_
                            obtain ⟨hk168, h⟩ := h
                            refine m_callVI (pc := 889) (y := yX7_clearBuffer) (κ := 7) (As := []) (rest := [.int r166]) C hK hP hS hl.1 ⟨Nat.le_trans hk (Nat.le_of_ble_eq_true rfl), Nat.le_trans (Nat.mul_le_mul_left 1000 hk) (Nat.le_of_ble_eq_true rfl)⟩ (c_X7_clearBuffer h) rfl rfl hk168 (by decide) rfl q_1154 q_1155 q_1156 q_8 q_1157 ⟨rfl, rfl⟩ yd_X7_clearBuffer ⟨Nat.le_of_ble_eq_true rfl, Nat.le_of_ble_eq_true rfl⟩ (Nat.le_of_ble_eq_true rfl) dL_law_889 (fun r169 M167 H locs h hP hS => ?_)
                            refine lv_icmp_eq (tgt := 1673) (pc := 892) hx hb dL_law_892 (by decide) (fun c892 => ?_) (fun c892 => ?_)
                            · replace h := h.1 c892
                              obtain ⟨v170, ev170⟩ : ∃ y : Int32, y = x4 + 6 := ⟨_, rfl⟩
                              replace h := h v170 ev170
                              refine lv_iinc (v := v170) (lv' := [(4, .int v170), (0, .ref sb), (1, .ref (b + 0)), (2, .ref (b + 276)), (3, .ref (b + 282))]) (pc := 1673) hx hb dL_law_1673 hl (k := 4) rfl (by rw [ev170]; rfl) (by decide) rfl (fun ls hl => ?_)
                              refine lv_goto (tgt := 23) (pc := 1676) hx hb dL_law_1676 (by decide) ?_
                              exact ih _ _ _ _ _ _ hk h hP hS (lv_sub hl [1, 2, 3, 4, 0] rfl)
                            · replace h := h.2 c892
                              refine lv_iconst (v := 0) (pc := 895) hx hb dL_law_895 (by decide) ?_
                              exact h.elim
                          · replace h := h.2 n40_10
                            by_cases n40_11 : ((xs x4.toNatClampNeg) &&& 31) = 11
                            · replace h := h.1 n40_11
                              refine m_case (v := 11) (off := 857) (tgt := 897) (pc := 40) hx hb n40_11 dL_law_40 (by decide) (by decide) (by decide) (by decide) ?_
                              refine lv_aload_n (pc := 897) hx hb dL_law_897 rfl (lv_at hl 1 rfl) ?_
                              obtain ⟨hk172, h⟩ := h
                              refine m_callVI (pc := 898) (y := yX6_firstError) (κ := 6) (As := []) (rest := []) C hK hP hS hl.1 ⟨Nat.le_trans hk (Nat.le_of_ble_eq_true rfl), Nat.le_trans (Nat.mul_le_mul_left 1000 hk) (Nat.le_of_ble_eq_true rfl)⟩ (c_X6_firstError h) rfl rfl hk172 (by decide) rfl q_293 q_294 q_295 q_1 q_296 ⟨rfl, rfl⟩ yd_X6_firstError ⟨Nat.le_of_ble_eq_true rfl, Nat.le_of_ble_eq_true rfl⟩ (Nat.le_of_ble_eq_true rfl) dL_law_898 (fun r173 M171 H locs h hP hS => ?_)
                              refine lv_aload_n (pc := 901) hx hb dL_law_901 rfl (lv_at hl 2 rfl) ?_
                              obtain ⟨hk175, h⟩ := h
                              refine m_callVI (pc := 902) (y := yX7_firstError) (κ := 7) (As := []) (rest := [.int r173]) C hK hP hS hl.1 ⟨Nat.le_trans hk (Nat.le_of_ble_eq_true rfl), Nat.le_trans (Nat.mul_le_mul_left 1000 hk) (Nat.le_of_ble_eq_true rfl)⟩ (c_X7_firstError h) rfl rfl hk175 (by decide) rfl q_1158 q_1159 q_1160 q_8 q_1161 ⟨rfl, rfl⟩ yd_X7_firstError ⟨Nat.le_of_ble_eq_true rfl, Nat.le_of_ble_eq_true rfl⟩ (Nat.le_of_ble_eq_true rfl) dL_law_902 (fun r176 M174 H locs h hP hS => ?_)
                              refine lv_icmp_eq (tgt := 1673) (pc := 905) hx hb dL_law_905 (by decide) (fun c905 => ?_) (fun c905 => ?_)
                              · replace h := h.1 c905
                                obtain ⟨v177, ev177⟩ : ∃ y : Int32, y = x4 + 6 := ⟨_, rfl⟩
                                replace h := h v177 ev177
                                refine lv_iinc (v := v177) (lv' := [(4, .int v177), (0, .ref sb), (1, .ref (b + 0)), (2, .ref (b + 276)), (3, .ref (b + 282))]) (pc := 1673) hx hb dL_law_1673 hl (k := 4) rfl (by rw [ev177]; rfl) (by decide) rfl (fun ls hl => ?_)
                                refine lv_goto (tgt := 23) (pc := 1676) hx hb dL_law_1676 (by decide) ?_
                                exact ih _ _ _ _ _ _ hk h hP hS (lv_sub hl [1, 2, 3, 4, 0] rfl)
                              · replace h := h.2 c905
                                refine lv_iconst (v := 0) (pc := 908) hx hb dL_law_908 (by decide) ?_
                                exact h.elim
                            · replace h := h.2 n40_11
                              by_cases n40_12 : ((xs x4.toNatClampNeg) &&& 31) = 12
                              · replace h := h.1 n40_12
                                refine m_case (v := 12) (off := 870) (tgt := 910) (pc := 40) hx hb n40_12 dL_law_40 (by decide) (by decide) (by decide) (by decide) ?_
                                refine lv_aload_n (pc := 910) hx hb dL_law_910 rfl (lv_at hl 1 rfl) ?_
                                refine lv_aload_n (pc := 911) hx hb dL_law_911 rfl (lv_at hl 3 rfl) ?_
                                obtain ⟨hk178, h⟩ := h
                                refine m_callY (pc := 912) (y := yL_addAll) (np := 2) (As := [.ref (b + 0), .ref (b + 282)]) (rest := []) C hK hZ hP hS hl.1 ⟨Nat.le_trans hk178 (Nat.le_of_ble_eq_true rfl), Nat.le_trans (Nat.add_le_add_left (by decide : 6 ≤ 1000) _) (Nat.le_trans (Nat.mul_le_mul_left 1000 hk178) (Nat.le_of_ble_eq_true rfl))⟩ (c_L_addAll hlt h) rfl rfl q_813 q_814 q_0 q_815 ⟨rfl, rfl⟩ yd_L_addAll ⟨Nat.le_of_ble_eq_true rfl, Nat.le_of_ble_eq_true rfl⟩ (Nat.le_of_ble_eq_true rfl) dL_law_912 (fun v9 M179 H locs hv9 hP hS => ?_)
                                obtain ⟨r180, rfl, h⟩ := hv9
                                refine W.widen (k := (k + 1)) (n := 1000 * (k + 1)) (Nat.le_refl _) (by omega) ?_
                                refine lv_istore (lv' := [(5, .int r180), (0, .ref sb), (1, .ref (b + 0)), (2, .ref (b + 276)), (3, .ref (b + 282)), (4, .int x4)]) (pc := 915) hx hb dL_law_915 hl (by decide) rfl (fun ls hl => ?_)
                                refine lv_aload_n (pc := 917) hx hb dL_law_917 rfl (lv_at hl 3 rfl) ?_
                                obtain ⟨hk182, h⟩ := h
                                refine m_callVI (pc := 918) (y := yX7_addAll) (κ := 7) (As := []) (rest := []) C hK hP hS hl.1 ⟨Nat.le_trans hk178 (Nat.le_of_ble_eq_true rfl), Nat.le_trans (Nat.mul_le_mul_left 1000 hk178) (Nat.le_of_ble_eq_true rfl)⟩ (c_X7_addAll h) rfl rfl hk182 (by decide) rfl q_1182 q_1183 q_1184 q_8 q_1185 ⟨rfl, rfl⟩ yd_X7_addAll ⟨Nat.le_of_ble_eq_true rfl, Nat.le_of_ble_eq_true rfl⟩ (Nat.le_of_ble_eq_true rfl) dL_law_918 (fun r183 M181 H locs h hP hS => ?_)
                                refine lv_istore (lv' := [(6, .int r183), (5, .int r180), (0, .ref sb), (1, .ref (b + 0)), (2, .ref (b + 276)), (3, .ref (b + 282)), (4, .int x4)]) (pc := 921) hx hb dL_law_921 hl (by decide) rfl (fun ls hl => ?_)
                                refine lv_aload_n (pc := 923) hx hb dL_law_923 rfl (lv_at hl 4 rfl) ?_
                                refine m_callVI (pc := 924) (y := yX7_thrown) (κ := 7) (As := []) (rest := []) C hK hP hS hl.1 ⟨Nat.le_trans hk178 (Nat.le_of_ble_eq_true rfl), Nat.le_trans (Nat.mul_le_mul_left 1000 hk178) (Nat.le_of_ble_eq_true rfl)⟩ (c_X7_thrown h) rfl rfl hk182 (by decide) rfl q_962 q_963 q_964 q_8 q_965 ⟨rfl, rfl⟩ yd_X7_thrown ⟨Nat.le_of_ble_eq_true rfl, Nat.le_of_ble_eq_true rfl⟩ (Nat.le_of_ble_eq_true rfl) dL_law_924 (fun r185 M184 H locs h hP hS => ?_)
                                refine lv_iload (pc := 927) hx hb dL_law_927 (lv_at hl 1 rfl) ?_
                                refine lv_icmp_eq (tgt := 934) (pc := 929) hx hb dL_law_929 (by decide) (fun c929 => ?_) (fun c929 => ?_)
                                · replace h := h.1 c929
                                  refine lv_iload (pc := 934) hx hb dL_law_934 (lv_at hl 1 rfl) ?_
                                  refine lv_if_ne (tgt := 951) (pc := 936) hx hb dL_law_936 (by decide) (fun c936 => ?_) (fun c936 => ?_)
                                  · replace h := h.1 c936
                                    refine lv_goto (tgt := 1673) (pc := 951) hx hb dL_law_951 (by decide) ?_
                                    obtain ⟨v186, ev186⟩ : ∃ y : Int32, y = x4 + 6 := ⟨_, rfl⟩
                                    replace h := h v186 ev186
                                    refine lv_iinc (v := v186) (lv' := [(4, .int v186), (6, .int r183), (5, .int r180), (0, .ref sb), (1, .ref (b + 0)), (2, .ref (b + 276)), (3, .ref (b + 282))]) (pc := 1673) hx hb dL_law_1673 hl (k := 6) rfl (by rw [ev186]; rfl) (by decide) rfl (fun ls hl => ?_)
                                    refine lv_goto (tgt := 23) (pc := 1676) hx hb dL_law_1676 (by decide) ?_
                                    exact ih _ _ _ _ _ _ hk178 h hP hS (lv_sub hl [3, 4, 5, 6, 0] rfl)
                                  · replace h := h.2 c936
                                    refine lv_aload_n (pc := 939) hx hb dL_law_939 rfl (lv_at hl 5 rfl) ?_
                                    refine lv_iconst (v := 0) (pc := 940) hx hb dL_law_940 (by decide) ?_
                                    obtain ⟨hk187, h⟩ := h
                                    obtain ⟨hi188, h⟩ := h
                                    refine m_lald (pc := 941) C hK hP hk187 hi188 dL_law_941 ?_
                                    refine lv_iload (pc := 942) hx hb dL_law_942 (lv_at hl 0 rfl) ?_
                                    refine lv_i2l (pc := 944) hx hb dL_law_944 rfl ?_
                                    refine W.lcmp (pc := 945) hx hb dL_law_945 ?_
                                    refine lv_if_eq (tgt := 951) (pc := 946) hx hb dL_law_946 (by decide) (fun c946 => ?_) (fun c946 => ?_)
                                    · replace h := h.1 c946
                                      refine lv_goto (tgt := 1673) (pc := 951) hx hb dL_law_951 (by decide) ?_
                                      obtain ⟨v189, ev189⟩ : ∃ y : Int32, y = x4 + 6 := ⟨_, rfl⟩
                                      replace h := h v189 ev189
                                      refine lv_iinc (v := v189) (lv' := [(4, .int v189), (6, .int r183), (5, .int r180), (0, .ref sb), (1, .ref (b + 0)), (2, .ref (b + 276)), (3, .ref (b + 282))]) (pc := 1673) hx hb dL_law_1673 hl (k := 6) rfl (by rw [ev189]; rfl) (by decide) rfl (fun ls hl => ?_)
                                      refine lv_goto (tgt := 23) (pc := 1676) hx hb dL_law_1676 (by decide) ?_
                                      exact ih _ _ _ _ _ _ hk178 h hP hS (lv_sub hl [3, 4, 5, 6, 0] rfl)
                                    · replace h := h.2 c946
                                      refine lv_iconst (v := 0) (pc := 949) hx hb dL_law_949 (by decide) ?_
                                      exact h.elim
                                · replace h := h.2 c929
                                  refine lv_iconst (v := 0) (pc := 932) hx hb dL_law_932 (by decide) ?_
                                  exact h.elim
                              · replace h := h.2 n40_12
                                by_cases n40_13 : ((xs x4.toNatClampNeg) &&& 31) = 13
                                · replace h := h.1 n40_13
                                  refine m_case (v := 13) (off := 914) (tgt := 954) (pc := 40) hx hb n40_13 dL_law_40 (by decide) (by decide) (by decide) (by decide) ?_
                                  refine lv_aload_n (pc := 954) hx hb dL_law_954 rfl (lv_at hl 1 rfl) ?_
                                  refine lv_aload_n (pc := 955) hx hb dL_law_955 rfl (lv_at hl 3 rfl) ?_
                                  obtain ⟨hk190, h⟩ := h
                                  refine m_callY (pc := 956) (y := yL_undo) (np := 2) (As := [.ref (b + 0), .ref (b + 282)]) (rest := []) C hK hZ hP hS hl.1 ⟨Nat.le_trans hk190 (Nat.le_of_ble_eq_true rfl), Nat.le_trans (Nat.add_le_add_left (by decide : 6 ≤ 1000) _) (Nat.le_trans (Nat.mul_le_mul_left 1000 hk190) (Nat.le_of_ble_eq_true rfl))⟩ (c_L_undo hlt h) rfl rfl q_835 q_836 q_0 q_837 ⟨rfl, rfl⟩ yd_L_undo ⟨Nat.le_of_ble_eq_true rfl, Nat.le_of_ble_eq_true rfl⟩ (Nat.le_of_ble_eq_true rfl) dL_law_956 (fun v9 M191 H locs hv9 hP hS => ?_)
                                  obtain ⟨r192, rfl, h⟩ := hv9
                                  refine W.widen (k := (k + 1)) (n := 1000 * (k + 1)) (Nat.le_refl _) (by omega) ?_
                                  refine lv_istore (lv' := [(5, .int r192), (0, .ref sb), (1, .ref (b + 0)), (2, .ref (b + 276)), (3, .ref (b + 282)), (4, .int x4)]) (pc := 959) hx hb dL_law_959 hl (by decide) rfl (fun ls hl => ?_)
                                  refine lv_aload_n (pc := 961) hx hb dL_law_961 rfl (lv_at hl 3 rfl) ?_
                                  obtain ⟨hk194, h⟩ := h
                                  refine m_callVI (pc := 962) (y := yX7_undo) (κ := 7) (As := []) (rest := []) C hK hP hS hl.1 ⟨Nat.le_trans hk190 (Nat.le_of_ble_eq_true rfl), Nat.le_trans (Nat.mul_le_mul_left 1000 hk190) (Nat.le_of_ble_eq_true rfl)⟩ (c_X7_undo h) rfl rfl hk194 (by decide) rfl q_1186 q_1187 q_1188 q_8 q_1189 ⟨rfl, rfl⟩ yd_X7_undo ⟨Nat.le_of_ble_eq_true rfl, Nat.le_of_ble_eq_true rfl⟩ (Nat.le_of_ble_eq_true rfl) dL_law_962 (fun r195 M193 H locs h hP hS => ?_)
                                  refine lv_istore (lv' := [(6, .int r195), (5, .int r192), (0, .ref sb), (1, .ref (b + 0)), (2, .ref (b + 276)), (3, .ref (b + 282)), (4, .int x4)]) (pc := 965) hx hb dL_law_965 hl (by decide) rfl (fun ls hl => ?_)
                                  refine lv_aload_n (pc := 967) hx hb dL_law_967 rfl (lv_at hl 4 rfl) ?_
                                  refine m_callVI (pc := 968) (y := yX7_thrown) (κ := 7) (As := []) (rest := []) C hK hP hS hl.1 ⟨Nat.le_trans hk190 (Nat.le_of_ble_eq_true rfl), Nat.le_trans (Nat.mul_le_mul_left 1000 hk190) (Nat.le_of_ble_eq_true rfl)⟩ (c_X7_thrown h) rfl rfl hk194 (by decide) rfl q_962 q_963 q_964 q_8 q_965 ⟨rfl, rfl⟩ yd_X7_thrown ⟨Nat.le_of_ble_eq_true rfl, Nat.le_of_ble_eq_true rfl⟩ (Nat.le_of_ble_eq_true rfl) dL_law_968 (fun r197 M196 H locs h hP hS => ?_)
                                  refine lv_iload (pc := 971) hx hb dL_law_971 (lv_at hl 1 rfl) ?_
                                  refine lv_icmp_eq (tgt := 978) (pc := 973) hx hb dL_law_973 (by decide) (fun c973 => ?_) (fun c973 => ?_)
                                  · replace h := h.1 c973
                                    refine lv_iload (pc := 978) hx hb dL_law_978 (lv_at hl 1 rfl) ?_
                                    refine lv_if_ne (tgt := 995) (pc := 980) hx hb dL_law_980 (by decide) (fun c980 => ?_) (fun c980 => ?_)
                                    · replace h := h.1 c980
                                      refine lv_goto (tgt := 1673) (pc := 995) hx hb dL_law_995 (by decide) ?_
                                      obtain ⟨v198, ev198⟩ : ∃ y : Int32, y = x4 + 6 := ⟨_, rfl⟩
                                      replace h := h v198 ev198
                                      refine lv_iinc (v := v198) (lv' := [(4, .int v198), (6, .int r195), (5, .int r192), (0, .ref sb), (1, .ref (b + 0)), (2, .ref (b + 276)), (3, .ref (b + 282))]) (pc := 1673) hx hb dL_law_1673 hl (k := 6) rfl (by rw [ev198]; rfl) (by decide) rfl (fun ls hl => ?_)
                                      refine lv_goto (tgt := 23) (pc := 1676) hx hb dL_law_1676 (by decide) ?_
                                      exact ih _ _ _ _ _ _ hk190 h hP hS (lv_sub hl [3, 4, 5, 6, 0] rfl)
                                    · replace h := h.2 c980
                                      refine lv_aload_n (pc := 983) hx hb dL_law_983 rfl (lv_at hl 5 rfl) ?_
                                      refine lv_iconst (v := 0) (pc := 984) hx hb dL_law_984 (by decide) ?_
                                      obtain ⟨hk199, h⟩ := h
                                      obtain ⟨hi200, h⟩ := h
                                      refine m_lald (pc := 985) C hK hP hk199 hi200 dL_law_985 ?_
                                      refine lv_iload (pc := 986) hx hb dL_law_986 (lv_at hl 0 rfl) ?_
                                      refine lv_i2l (pc := 988) hx hb dL_law_988 rfl ?_
                                      refine W.lcmp (pc := 989) hx hb dL_law_989 ?_
                                      refine lv_if_eq (tgt := 995) (pc := 990) hx hb dL_law_990 (by decide) (fun c990 => ?_) (fun c990 => ?_)
                                      · replace h := h.1 c990
                                        refine lv_goto (tgt := 1673) (pc := 995) hx hb dL_law_995 (by decide) ?_
                                        obtain ⟨v201, ev201⟩ : ∃ y : Int32, y = x4 + 6 := ⟨_, rfl⟩
                                        replace h := h v201 ev201
                                        refine lv_iinc (v := v201) (lv' := [(4, .int v201), (6, .int r195), (5, .int r192), (0, .ref sb), (1, .ref (b + 0)), (2, .ref (b + 276)), (3, .ref (b + 282))]) (pc := 1673) hx hb dL_law_1673 hl (k := 6) rfl (by rw [ev201]; rfl) (by decide) rfl (fun ls hl => ?_)
                                        refine lv_goto (tgt := 23) (pc := 1676) hx hb dL_law_1676 (by decide) ?_
                                        exact ih _ _ _ _ _ _ hk190 h hP hS (lv_sub hl [3, 4, 5, 6, 0] rfl)
                                      · replace h := h.2 c990
                                        refine lv_iconst (v := 0) (pc := 993) hx hb dL_law_993 (by decide) ?_
                                        exact h.elim
                                  · replace h := h.2 c973
                                    refine lv_iconst (v := 0) (pc := 976) hx hb dL_law_976 (by decide) ?_
                                    exact h.elim
                                · replace h := h.2 n40_13
                                  by_cases n40_14 : ((xs x4.toNatClampNeg) &&& 31) = 14
                                  · replace h := h.1 n40_14
                                    refine m_case (v := 14) (off := 958) (tgt := 998) (pc := 40) hx hb n40_14 dL_law_40 (by decide) (by decide) (by decide) (by decide) ?_
                                    refine lv_aload_n (pc := 998) hx hb dL_law_998 rfl (lv_at hl 1 rfl) ?_
                                    refine lv_aload_n (pc := 999) hx hb dL_law_999 rfl (lv_at hl 0 rfl) ?_
                                    refine lv_iload (pc := 1000) hx hb dL_law_1000 (lv_at hl 4 rfl) ?_
                                    refine lv_iconst (v := 1) (pc := 1002) hx hb dL_law_1002 (by decide) ?_
                                    refine lv_iadd (pc := 1003) hx hb dL_law_1003 ?_
                                    obtain ⟨hi202, h⟩ := h
                                    refine va_sld (pc := 1004) hx hb hX hbl hbA hS hi202 dL_law_1004 ?_
                                    refine lv_aload_n (pc := 1005) hx hb dL_law_1005 rfl (lv_at hl 0 rfl) ?_
                                    refine lv_iload (pc := 1006) hx hb dL_law_1006 (lv_at hl 4 rfl) ?_
                                    refine lv_iconst (v := 2) (pc := 1008) hx hb dL_law_1008 (by decide) ?_
                                    refine lv_iadd (pc := 1009) hx hb dL_law_1009 ?_
                                    obtain ⟨hi203, h⟩ := h
                                    refine va_sld (pc := 1010) hx hb hX hbl hbA hS hi203 dL_law_1010 ?_
                                    refine lv_aload_n (pc := 1011) hx hb dL_law_1011 rfl (lv_at hl 3 rfl) ?_
                                    obtain ⟨hk204, h⟩ := h
                                    refine m_callY (pc := 1012) (y := yL_heat) (np := 4) (As := [.ref (b + 0), .int (xs (x4 + 1).toNatClampNeg), .int (xs (x4 + 2).toNatClampNeg), .ref (b + 282)]) (rest := []) C hK hZ hP hS hl.1 ⟨Nat.le_trans hk204 (Nat.le_of_ble_eq_true rfl), Nat.le_trans (Nat.add_le_add_left (by decide : 6 ≤ 1000) _) (Nat.le_trans (Nat.mul_le_mul_left 1000 hk204) (Nat.le_of_ble_eq_true rfl))⟩ (c_L_heat hlt h) rfl rfl q_843 q_844 q_0 q_845 ⟨rfl, rfl⟩ yd_L_heat ⟨Nat.le_of_ble_eq_true rfl, Nat.le_of_ble_eq_true rfl⟩ (Nat.le_of_ble_eq_true rfl) dL_law_1012 (fun v9 M205 H locs hv9 hP hS => ?_)
                                    obtain ⟨r206, rfl, h⟩ := hv9
                                    refine W.widen (k := (k + 1)) (n := 1000 * (k + 1)) (Nat.le_refl _) (by omega) ?_
                                    refine lv_istore (lv' := [(5, .int r206), (0, .ref sb), (1, .ref (b + 0)), (2, .ref (b + 276)), (3, .ref (b + 282)), (4, .int x4)]) (pc := 1015) hx hb dL_law_1015 hl (by decide) rfl (fun ls hl => ?_)
                                    refine lv_aload_n (pc := 1017) hx hb dL_law_1017 rfl (lv_at hl 3 rfl) ?_
                                    refine lv_aload_n (pc := 1018) hx hb dL_law_1018 rfl (lv_at hl 1 rfl) ?_
                                    refine lv_iload (pc := 1019) hx hb dL_law_1019 (lv_at hl 5 rfl) ?_
                                    refine lv_iconst (v := 1) (pc := 1021) hx hb dL_law_1021 (by decide) ?_
                                    refine lv_iadd (pc := 1022) hx hb dL_law_1022 ?_
                                    obtain ⟨hi207, h⟩ := h
                                    refine va_sld (pc := 1023) hx hb hX hbl hbA hS hi207 dL_law_1023 ?_
                                    refine lv_aload_n (pc := 1024) hx hb dL_law_1024 rfl (lv_at hl 1 rfl) ?_
                                    refine lv_iload (pc := 1025) hx hb dL_law_1025 (lv_at hl 5 rfl) ?_
                                    refine lv_iconst (v := 2) (pc := 1027) hx hb dL_law_1027 (by decide) ?_
                                    refine lv_iadd (pc := 1028) hx hb dL_law_1028 ?_
                                    obtain ⟨hi208, h⟩ := h
                                    refine va_sld (pc := 1029) hx hb hX hbl hbA hS hi208 dL_law_1029 ?_
                                    obtain ⟨hk210, h⟩ := h
                                    refine m_callVI (pc := 1030) (y := yX7_heat) (κ := 7) (As := [.int (xs (x4 + 1).toNatClampNeg), .int (xs (x4 + 2).toNatClampNeg)]) (rest := []) C hK hP hS hl.1 ⟨Nat.le_trans hk204 (Nat.le_of_ble_eq_true rfl), Nat.le_trans (Nat.mul_le_mul_left 1000 hk204) (Nat.le_of_ble_eq_true rfl)⟩ (c_X7_heat h) rfl rfl hk210 (by decide) rfl q_1190 q_1191 q_1192 q_8 q_1193 ⟨rfl, rfl⟩ yd_X7_heat ⟨Nat.le_of_ble_eq_true rfl, Nat.le_of_ble_eq_true rfl⟩ (Nat.le_of_ble_eq_true rfl) dL_law_1030 (fun r211 M209 H locs h hP hS => ?_)
                                    refine lv_istore (lv' := [(6, .int r211), (5, .int r206), (0, .ref sb), (1, .ref (b + 0)), (2, .ref (b + 276)), (3, .ref (b + 282)), (4, .int x4)]) (pc := 1033) hx hb dL_law_1033 hl (by decide) rfl (fun ls hl => ?_)
                                    refine lv_aload_n (pc := 1035) hx hb dL_law_1035 rfl (lv_at hl 4 rfl) ?_
                                    refine m_callVI (pc := 1036) (y := yX7_thrown) (κ := 7) (As := []) (rest := []) C hK hP hS hl.1 ⟨Nat.le_trans hk204 (Nat.le_of_ble_eq_true rfl), Nat.le_trans (Nat.mul_le_mul_left 1000 hk204) (Nat.le_of_ble_eq_true rfl)⟩ (c_X7_thrown h) rfl rfl hk210 (by decide) rfl q_962 q_963 q_964 q_8 q_965 ⟨rfl, rfl⟩ yd_X7_thrown ⟨Nat.le_of_ble_eq_true rfl, Nat.le_of_ble_eq_true rfl⟩ (Nat.le_of_ble_eq_true rfl) dL_law_1036 (fun r213 M212 H locs h hP hS => ?_)
                                    refine lv_iload (pc := 1039) hx hb dL_law_1039 (lv_at hl 1 rfl) ?_
                                    refine lv_icmp_eq (tgt := 1046) (pc := 1041) hx hb dL_law_1041 (by decide) (fun c1041 => ?_) (fun c1041 => ?_)
                                    · replace h := h.1 c1041
                                      refine lv_iload (pc := 1046) hx hb dL_law_1046 (lv_at hl 1 rfl) ?_
                                      refine lv_if_ne (tgt := 1063) (pc := 1048) hx hb dL_law_1048 (by decide) (fun c1048 => ?_) (fun c1048 => ?_)
                                      · replace h := h.1 c1048
                                        refine lv_goto (tgt := 1673) (pc := 1063) hx hb dL_law_1063 (by decide) ?_
                                        obtain ⟨v214, ev214⟩ : ∃ y : Int32, y = x4 + 6 := ⟨_, rfl⟩
                                        replace h := h v214 ev214
                                        refine lv_iinc (v := v214) (lv' := [(4, .int v214), (6, .int r211), (5, .int r206), (0, .ref sb), (1, .ref (b + 0)), (2, .ref (b + 276)), (3, .ref (b + 282))]) (pc := 1673) hx hb dL_law_1673 hl (k := 6) rfl (by rw [ev214]; rfl) (by decide) rfl (fun ls hl => ?_)
                                        refine lv_goto (tgt := 23) (pc := 1676) hx hb dL_law_1676 (by decide) ?_
                                        exact ih _ _ _ _ _ _ hk204 h hP hS (lv_sub hl [3, 4, 5, 6, 0] rfl)
                                      · replace h := h.2 c1048
                                        refine lv_aload_n (pc := 1051) hx hb dL_law_1051 rfl (lv_at hl 5 rfl) ?_
                                        refine lv_iconst (v := 0) (pc := 1052) hx hb dL_law_1052 (by decide) ?_
                                        obtain ⟨hk215, h⟩ := h
                                        obtain ⟨hi216, h⟩ := h
                                        refine m_lald (pc := 1053) C hK hP hk215 hi216 dL_law_1053 ?_
                                        refine lv_iload (pc := 1054) hx hb dL_law_1054 (lv_at hl 0 rfl) ?_
                                        refine lv_i2l (pc := 1056) hx hb dL_law_1056 rfl ?_
                                        refine W.lcmp (pc := 1057) hx hb dL_law_1057 ?_
                                        refine lv_if_eq (tgt := 1063) (pc := 1058) hx hb dL_law_1058 (by decide) (fun c1058 => ?_) (fun c1058 => ?_)
                                        · replace h := h.1 c1058
                                          refine lv_goto (tgt := 1673) (pc := 1063) hx hb dL_law_1063 (by decide) ?_
                                          obtain ⟨v217, ev217⟩ : ∃ y : Int32, y = x4 + 6 := ⟨_, rfl⟩
                                          replace h := h v217 ev217
                                          refine lv_iinc (v := v217) (lv' := [(4, .int v217), (6, .int r211), (5, .int r206), (0, .ref sb), (1, .ref (b + 0)), (2, .ref (b + 276)), (3, .ref (b + 282))]) (pc := 1673) hx hb dL_law_1673 hl (k := 6) rfl (by rw [ev217]; rfl) (by decide) rfl (fun ls hl => ?_)
                                          refine lv_goto (tgt := 23) (pc := 1676) hx hb dL_law_1676 (by decide) ?_
                                          exact ih _ _ _ _ _ _ hk204 h hP hS (lv_sub hl [3, 4, 5, 6, 0] rfl)
                                        · replace h := h.2 c1058
                                          refine lv_iconst (v := 0) (pc := 1061) hx hb dL_law_1061 (by decide) ?_
                                          exact h.elim
                                    · replace h := h.2 c1041
                                      refine lv_iconst (v := 0) (pc := 1044) hx hb dL_law_1044 (by decide) ?_
                                      exact h.elim
                                  · replace h := h.2 n40_14
                                    by_cases n40_15 : ((xs x4.toNatClampNeg) &&& 31) = 15
                                    · replace h := h.1 n40_15
                                      refine m_case (v := 15) (off := 1026) (tgt := 1066) (pc := 40) hx hb n40_15 dL_law_40 (by decide) (by decide) (by decide) (by decide) ?_
                                      refine lv_aload_n (pc := 1066) hx hb dL_law_1066 rfl (lv_at hl 1 rfl) ?_
                                      refine lv_aload_n (pc := 1067) hx hb dL_law_1067 rfl (lv_at hl 0 rfl) ?_
                                      refine lv_iload (pc := 1068) hx hb dL_law_1068 (lv_at hl 4 rfl) ?_
                                      refine lv_iconst (v := 1) (pc := 1070) hx hb dL_law_1070 (by decide) ?_
                                      refine lv_iadd (pc := 1071) hx hb dL_law_1071 ?_
                                      obtain ⟨hi218, h⟩ := h
                                      refine va_sld (pc := 1072) hx hb hX hbl hbA hS hi218 dL_law_1072 ?_
                                      refine lv_aload_n (pc := 1073) hx hb dL_law_1073 rfl (lv_at hl 0 rfl) ?_
                                      refine lv_iload (pc := 1074) hx hb dL_law_1074 (lv_at hl 4 rfl) ?_
                                      refine lv_iconst (v := 2) (pc := 1076) hx hb dL_law_1076 (by decide) ?_
                                      refine lv_iadd (pc := 1077) hx hb dL_law_1077 ?_
                                      obtain ⟨hi219, h⟩ := h
                                      refine va_sld (pc := 1078) hx hb hX hbl hbA hS hi219 dL_law_1078 ?_
                                      refine lv_aload_n (pc := 1079) hx hb dL_law_1079 rfl (lv_at hl 3 rfl) ?_
                                      obtain ⟨hk220, h⟩ := h
                                      refine m_callY (pc := 1080) (y := yL_dieOf) (np := 4) (As := [.ref (b + 0), .int (xs (x4 + 1).toNatClampNeg), .int (xs (x4 + 2).toNatClampNeg), .ref (b + 282)]) (rest := []) C hK hZ hP hS hl.1 ⟨Nat.le_trans hk220 (Nat.le_of_ble_eq_true rfl), Nat.le_trans (Nat.add_le_add_left (by decide : 6 ≤ 1000) _) (Nat.le_trans (Nat.mul_le_mul_left 1000 hk220) (Nat.le_of_ble_eq_true rfl))⟩ (c_L_dieOf hlt h) rfl rfl q_851 q_852 q_0 q_853 ⟨rfl, rfl⟩ yd_L_dieOf ⟨Nat.le_of_ble_eq_true rfl, Nat.le_of_ble_eq_true rfl⟩ (Nat.le_of_ble_eq_true rfl) dL_law_1080 (fun v9 M221 H locs hv9 hP hS => ?_)
                                      obtain ⟨r222, rfl, h⟩ := hv9
                                      refine W.widen (k := (k + 1)) (n := 1000 * (k + 1)) (Nat.le_refl _) (by omega) ?_
                                      refine lv_istore (lv' := [(5, .int r222), (0, .ref sb), (1, .ref (b + 0)), (2, .ref (b + 276)), (3, .ref (b + 282)), (4, .int x4)]) (pc := 1083) hx hb dL_law_1083 hl (by decide) rfl (fun ls hl => ?_)
                                      refine lv_aload_n (pc := 1085) hx hb dL_law_1085 rfl (lv_at hl 3 rfl) ?_
                                      refine lv_aload_n (pc := 1086) hx hb dL_law_1086 rfl (lv_at hl 1 rfl) ?_
                                      refine lv_iload (pc := 1087) hx hb dL_law_1087 (lv_at hl 5 rfl) ?_
                                      refine lv_iconst (v := 1) (pc := 1089) hx hb dL_law_1089 (by decide) ?_
                                      refine lv_iadd (pc := 1090) hx hb dL_law_1090 ?_
                                      obtain ⟨hi223, h⟩ := h
                                      refine va_sld (pc := 1091) hx hb hX hbl hbA hS hi223 dL_law_1091 ?_
                                      refine lv_aload_n (pc := 1092) hx hb dL_law_1092 rfl (lv_at hl 1 rfl) ?_
                                      refine lv_iload (pc := 1093) hx hb dL_law_1093 (lv_at hl 5 rfl) ?_
                                      refine lv_iconst (v := 2) (pc := 1095) hx hb dL_law_1095 (by decide) ?_
                                      refine lv_iadd (pc := 1096) hx hb dL_law_1096 ?_
                                      obtain ⟨hi224, h⟩ := h
                                      refine va_sld (pc := 1097) hx hb hX hbl hbA hS hi224 dL_law_1097 ?_
                                      obtain ⟨hk226, h⟩ := h
                                      refine m_callVI (pc := 1098) (y := yX7_dieOf) (κ := 7) (As := [.int (xs (x4 + 1).toNatClampNeg), .int (xs (x4 + 2).toNatClampNeg)]) (rest := []) C hK hP hS hl.1 ⟨Nat.le_trans hk220 (Nat.le_of_ble_eq_true rfl), Nat.le_trans (Nat.mul_le_mul_left 1000 hk220) (Nat.le_of_ble_eq_true rfl)⟩ (c_X7_dieOf h) rfl rfl hk226 (by decide) rfl q_1206 q_1207 q_1208 q_8 q_1209 ⟨rfl, rfl⟩ yd_X7_dieOf ⟨Nat.le_of_ble_eq_true rfl, Nat.le_of_ble_eq_true rfl⟩ (Nat.le_of_ble_eq_true rfl) dL_law_1098 (fun r227 M225 H locs h hP hS => ?_)
                                      refine lv_istore (lv' := [(6, .int r227), (5, .int r222), (0, .ref sb), (1, .ref (b + 0)), (2, .ref (b + 276)), (3, .ref (b + 282)), (4, .int x4)]) (pc := 1101) hx hb dL_law_1101 hl (by decide) rfl (fun ls hl => ?_)
                                      refine lv_aload_n (pc := 1103) hx hb dL_law_1103 rfl (lv_at hl 4 rfl) ?_
                                      refine m_callVI (pc := 1104) (y := yX7_thrown) (κ := 7) (As := []) (rest := []) C hK hP hS hl.1 ⟨Nat.le_trans hk220 (Nat.le_of_ble_eq_true rfl), Nat.le_trans (Nat.mul_le_mul_left 1000 hk220) (Nat.le_of_ble_eq_true rfl)⟩ (c_X7_thrown h) rfl rfl hk226 (by decide) rfl q_962 q_963 q_964 q_8 q_965 ⟨rfl, rfl⟩ yd_X7_thrown ⟨Nat.le_of_ble_eq_true rfl, Nat.le_of_ble_eq_true rfl⟩ (Nat.le_of_ble_eq_true rfl) dL_law_1104 (fun r229 M228 H locs h hP hS => ?_)
                                      refine lv_iload (pc := 1107) hx hb dL_law_1107 (lv_at hl 1 rfl) ?_
                                      refine lv_icmp_eq (tgt := 1114) (pc := 1109) hx hb dL_law_1109 (by decide) (fun c1109 => ?_) (fun c1109 => ?_)
                                      · replace h := h.1 c1109
                                        refine lv_iload (pc := 1114) hx hb dL_law_1114 (lv_at hl 1 rfl) ?_
                                        refine lv_if_ne (tgt := 1131) (pc := 1116) hx hb dL_law_1116 (by decide) (fun c1116 => ?_) (fun c1116 => ?_)
                                        · replace h := h.1 c1116
                                          refine lv_goto (tgt := 1673) (pc := 1131) hx hb dL_law_1131 (by decide) ?_
                                          obtain ⟨v230, ev230⟩ : ∃ y : Int32, y = x4 + 6 := ⟨_, rfl⟩
                                          replace h := h v230 ev230
                                          refine lv_iinc (v := v230) (lv' := [(4, .int v230), (6, .int r227), (5, .int r222), (0, .ref sb), (1, .ref (b + 0)), (2, .ref (b + 276)), (3, .ref (b + 282))]) (pc := 1673) hx hb dL_law_1673 hl (k := 6) rfl (by rw [ev230]; rfl) (by decide) rfl (fun ls hl => ?_)
                                          refine lv_goto (tgt := 23) (pc := 1676) hx hb dL_law_1676 (by decide) ?_
                                          exact ih _ _ _ _ _ _ hk220 h hP hS (lv_sub hl [3, 4, 5, 6, 0] rfl)
                                        · replace h := h.2 c1116
                                          refine lv_aload_n (pc := 1119) hx hb dL_law_1119 rfl (lv_at hl 5 rfl) ?_
                                          refine lv_iconst (v := 0) (pc := 1120) hx hb dL_law_1120 (by decide) ?_
                                          obtain ⟨hk231, h⟩ := h
                                          obtain ⟨hi232, h⟩ := h
                                          refine m_lald (pc := 1121) C hK hP hk231 hi232 dL_law_1121 ?_
                                          refine lv_iload (pc := 1122) hx hb dL_law_1122 (lv_at hl 0 rfl) ?_
                                          refine lv_i2l (pc := 1124) hx hb dL_law_1124 rfl ?_
                                          refine W.lcmp (pc := 1125) hx hb dL_law_1125 ?_
                                          refine lv_if_eq (tgt := 1131) (pc := 1126) hx hb dL_law_1126 (by decide) (fun c1126 => ?_) (fun c1126 => ?_)
                                          · replace h := h.1 c1126
                                            refine lv_goto (tgt := 1673) (pc := 1131) hx hb dL_law_1131 (by decide) ?_
                                            obtain ⟨v233, ev233⟩ : ∃ y : Int32, y = x4 + 6 := ⟨_, rfl⟩
                                            replace h := h v233 ev233
                                            refine lv_iinc (v := v233) (lv' := [(4, .int v233), (6, .int r227), (5, .int r222), (0, .ref sb), (1, .ref (b + 0)), (2, .ref (b + 276)), (3, .ref (b + 282))]) (pc := 1673) hx hb dL_law_1673 hl (k := 6) rfl (by rw [ev233]; rfl) (by decide) rfl (fun ls hl => ?_)
                                            refine lv_goto (tgt := 23) (pc := 1676) hx hb dL_law_1676 (by decide) ?_
                                            exact ih _ _ _ _ _ _ hk220 h hP hS (lv_sub hl [3, 4, 5, 6, 0] rfl)
                                          · replace h := h.2 c1126
                                            refine lv_iconst (v := 0) (pc := 1129) hx hb dL_law_1129 (by decide) ?_
                                            exact h.elim
                                      · replace h := h.2 c1109
                                        refine lv_iconst (v := 0) (pc := 1112) hx hb dL_law_1112 (by decide) ?_
                                        exact h.elim
                                    · replace h := h.2 n40_15
                                      by_cases n40_16 : ((xs x4.toNatClampNeg) &&& 31) = 16
                                      · replace h := h.1 n40_16
                                        refine m_case (v := 16) (off := 1094) (tgt := 1134) (pc := 40) hx hb n40_16 dL_law_40 (by decide) (by decide) (by decide) (by decide) ?_
                                        refine lv_aload_n (pc := 1134) hx hb dL_law_1134 rfl (lv_at hl 1 rfl) ?_
                                        refine lv_aload_n (pc := 1135) hx hb dL_law_1135 rfl (lv_at hl 0 rfl) ?_
                                        refine lv_iload (pc := 1136) hx hb dL_law_1136 (lv_at hl 4 rfl) ?_
                                        refine lv_iconst (v := 1) (pc := 1138) hx hb dL_law_1138 (by decide) ?_
                                        refine lv_iadd (pc := 1139) hx hb dL_law_1139 ?_
                                        obtain ⟨hi234, h⟩ := h
                                        refine va_sld (pc := 1140) hx hb hX hbl hbA hS hi234 dL_law_1140 ?_
                                        refine lv_aload_n (pc := 1141) hx hb dL_law_1141 rfl (lv_at hl 0 rfl) ?_
                                        refine lv_iload (pc := 1142) hx hb dL_law_1142 (lv_at hl 4 rfl) ?_
                                        refine lv_iconst (v := 2) (pc := 1144) hx hb dL_law_1144 (by decide) ?_
                                        refine lv_iadd (pc := 1145) hx hb dL_law_1145 ?_
                                        obtain ⟨hi235, h⟩ := h
                                        refine va_sld (pc := 1146) hx hb hX hbl hbA hS hi235 dL_law_1146 ?_
                                        refine lv_aload_n (pc := 1147) hx hb dL_law_1147 rfl (lv_at hl 3 rfl) ?_
                                        obtain ⟨hk236, h⟩ := h
                                        refine m_callY (pc := 1148) (y := yL_jobOf) (np := 4) (As := [.ref (b + 0), .int (xs (x4 + 1).toNatClampNeg), .int (xs (x4 + 2).toNatClampNeg), .ref (b + 282)]) (rest := []) C hK hZ hP hS hl.1 ⟨Nat.le_trans hk236 (Nat.le_of_ble_eq_true rfl), Nat.le_trans (Nat.add_le_add_left (by decide : 6 ≤ 1000) _) (Nat.le_trans (Nat.mul_le_mul_left 1000 hk236) (Nat.le_of_ble_eq_true rfl))⟩ (c_L_jobOf hlt h) rfl rfl q_858 q_859 q_0 q_860 ⟨rfl, rfl⟩ yd_L_jobOf ⟨Nat.le_of_ble_eq_true rfl, Nat.le_of_ble_eq_true rfl⟩ (Nat.le_of_ble_eq_true rfl) dL_law_1148 (fun v9 M237 H locs hv9 hP hS => ?_)
                                        obtain ⟨r238, rfl, h⟩ := hv9
                                        refine W.widen (k := (k + 1)) (n := 1000 * (k + 1)) (Nat.le_refl _) (by omega) ?_
                                        refine lv_istore (lv' := [(5, .int r238), (0, .ref sb), (1, .ref (b + 0)), (2, .ref (b + 276)), (3, .ref (b + 282)), (4, .int x4)]) (pc := 1151) hx hb dL_law_1151 hl (by decide) rfl (fun ls hl => ?_)
                                        refine lv_aload_n (pc := 1153) hx hb dL_law_1153 rfl (lv_at hl 3 rfl) ?_
                                        refine lv_aload_n (pc := 1154) hx hb dL_law_1154 rfl (lv_at hl 1 rfl) ?_
                                        refine lv_iload (pc := 1155) hx hb dL_law_1155 (lv_at hl 5 rfl) ?_
                                        refine lv_iconst (v := 1) (pc := 1157) hx hb dL_law_1157 (by decide) ?_
                                        refine lv_iadd (pc := 1158) hx hb dL_law_1158 ?_
                                        obtain ⟨hi239, h⟩ := h
                                        refine va_sld (pc := 1159) hx hb hX hbl hbA hS hi239 dL_law_1159 ?_
                                        refine lv_aload_n (pc := 1160) hx hb dL_law_1160 rfl (lv_at hl 1 rfl) ?_
                                        refine lv_iload (pc := 1161) hx hb dL_law_1161 (lv_at hl 5 rfl) ?_
                                        refine lv_iconst (v := 2) (pc := 1163) hx hb dL_law_1163 (by decide) ?_
                                        refine lv_iadd (pc := 1164) hx hb dL_law_1164 ?_
                                        obtain ⟨hi240, h⟩ := h
                                        refine va_sld (pc := 1165) hx hb hX hbl hbA hS hi240 dL_law_1165 ?_
                                        obtain ⟨hk242, h⟩ := h
                                        refine m_callVI (pc := 1166) (y := yX7_jobOf) (κ := 7) (As := [.int (xs (x4 + 1).toNatClampNeg), .int (xs (x4 + 2).toNatClampNeg)]) (rest := []) C hK hP hS hl.1 ⟨Nat.le_trans hk236 (Nat.le_of_ble_eq_true rfl), Nat.le_trans (Nat.mul_le_mul_left 1000 hk236) (Nat.le_of_ble_eq_true rfl)⟩ (c_X7_jobOf h) rfl rfl hk242 (by decide) rfl q_1214 q_1215 q_1216 q_8 q_1217 ⟨rfl, rfl⟩ yd_X7_jobOf ⟨Nat.le_of_ble_eq_true rfl, Nat.le_of_ble_eq_true rfl⟩ (Nat.le_of_ble_eq_true rfl) dL_law_1166 (fun r243 M241 H locs h hP hS => ?_)
                                        refine lv_istore (lv' := [(6, .int r243), (5, .int r238), (0, .ref sb), (1, .ref (b + 0)), (2, .ref (b + 276)), (3, .ref (b + 282)), (4, .int x4)]) (pc := 1169) hx hb dL_law_1169 hl (by decide) rfl (fun ls hl => ?_)
                                        refine lv_aload_n (pc := 1171) hx hb dL_law_1171 rfl (lv_at hl 4 rfl) ?_
                                        refine m_callVI (pc := 1172) (y := yX7_thrown) (κ := 7) (As := []) (rest := []) C hK hP hS hl.1 ⟨Nat.le_trans hk236 (Nat.le_of_ble_eq_true rfl), Nat.le_trans (Nat.mul_le_mul_left 1000 hk236) (Nat.le_of_ble_eq_true rfl)⟩ (c_X7_thrown h) rfl rfl hk242 (by decide) rfl q_962 q_963 q_964 q_8 q_965 ⟨rfl, rfl⟩ yd_X7_thrown ⟨Nat.le_of_ble_eq_true rfl, Nat.le_of_ble_eq_true rfl⟩ (Nat.le_of_ble_eq_true rfl) dL_law_1172 (fun r245 M244 H locs h hP hS => ?_)
                                        refine lv_iload (pc := 1175) hx hb dL_law_1175 (lv_at hl 1 rfl) ?_
                                        refine lv_icmp_eq (tgt := 1182) (pc := 1177) hx hb dL_law_1177 (by decide) (fun c1177 => ?_) (fun c1177 => ?_)
                                        · replace h := h.1 c1177
                                          refine lv_iload (pc := 1182) hx hb dL_law_1182 (lv_at hl 1 rfl) ?_
                                          refine lv_if_ne (tgt := 1199) (pc := 1184) hx hb dL_law_1184 (by decide) (fun c1184 => ?_) (fun c1184 => ?_)
                                          · replace h := h.1 c1184
                                            refine lv_goto (tgt := 1673) (pc := 1199) hx hb dL_law_1199 (by decide) ?_
                                            obtain ⟨v246, ev246⟩ : ∃ y : Int32, y = x4 + 6 := ⟨_, rfl⟩
                                            replace h := h v246 ev246
                                            refine lv_iinc (v := v246) (lv' := [(4, .int v246), (6, .int r243), (5, .int r238), (0, .ref sb), (1, .ref (b + 0)), (2, .ref (b + 276)), (3, .ref (b + 282))]) (pc := 1673) hx hb dL_law_1673 hl (k := 6) rfl (by rw [ev246]; rfl) (by decide) rfl (fun ls hl => ?_)
                                            refine lv_goto (tgt := 23) (pc := 1676) hx hb dL_law_1676 (by decide) ?_
                                            exact ih _ _ _ _ _ _ hk236 h hP hS (lv_sub hl [3, 4, 5, 6, 0] rfl)
                                          · replace h := h.2 c1184
                                            refine lv_aload_n (pc := 1187) hx hb dL_law_1187 rfl (lv_at hl 5 rfl) ?_
                                            refine lv_iconst (v := 0) (pc := 1188) hx hb dL_law_1188 (by decide) ?_
                                            obtain ⟨hk247, h⟩ := h
                                            obtain ⟨hi248, h⟩ := h
                                            refine m_lald (pc := 1189) C hK hP hk247 hi248 dL_law_1189 ?_
                                            refine lv_iload (pc := 1190) hx hb dL_law_1190 (lv_at hl 0 rfl) ?_
                                            refine lv_i2l (pc := 1192) hx hb dL_law_1192 rfl ?_
                                            refine W.lcmp (pc := 1193) hx hb dL_law_1193 ?_
                                            refine lv_if_eq (tgt := 1199) (pc := 1194) hx hb dL_law_1194 (by decide) (fun c1194 => ?_) (fun c1194 => ?_)
                                            · replace h := h.1 c1194
                                              refine lv_goto (tgt := 1673) (pc := 1199) hx hb dL_law_1199 (by decide) ?_
                                              obtain ⟨v249, ev249⟩ : ∃ y : Int32, y = x4 + 6 := ⟨_, rfl⟩
                                              replace h := h v249 ev249
                                              refine lv_iinc (v := v249) (lv' := [(4, .int v249), (6, .int r243), (5, .int r238), (0, .ref sb), (1, .ref (b + 0)), (2, .ref (b + 276)), (3, .ref (b + 282))]) (pc := 1673) hx hb dL_law_1673 hl (k := 6) rfl (by rw [ev249]; rfl) (by decide) rfl (fun ls hl => ?_)
                                              refine lv_goto (tgt := 23) (pc := 1676) hx hb dL_law_1676 (by decide) ?_
                                              exact ih _ _ _ _ _ _ hk236 h hP hS (lv_sub hl [3, 4, 5, 6, 0] rfl)
                                            · replace h := h.2 c1194
                                              refine lv_iconst (v := 0) (pc := 1197) hx hb dL_law_1197 (by decide) ?_
                                              exact h.elim
                                        · replace h := h.2 c1177
                                          refine lv_iconst (v := 0) (pc := 1180) hx hb dL_law_1180 (by decide) ?_
                                          exact h.elim
                                      · replace h := h.2 n40_16
                                        by_cases n40_17 : ((xs x4.toNatClampNeg) &&& 31) = 17
                                        · replace h := h.1 n40_17
                                          refine m_case (v := 17) (off := 1162) (tgt := 1202) (pc := 40) hx hb n40_17 dL_law_40 (by decide) (by decide) (by decide) (by decide) ?_
                                          refine lv_aload_n (pc := 1202) hx hb dL_law_1202 rfl (lv_at hl 1 rfl) ?_
                                          refine lv_aload_n (pc := 1203) hx hb dL_law_1203 rfl (lv_at hl 0 rfl) ?_
                                          refine lv_iload (pc := 1204) hx hb dL_law_1204 (lv_at hl 4 rfl) ?_
                                          refine lv_iconst (v := 1) (pc := 1206) hx hb dL_law_1206 (by decide) ?_
                                          refine lv_iadd (pc := 1207) hx hb dL_law_1207 ?_
                                          obtain ⟨hi250, h⟩ := h
                                          refine va_sld (pc := 1208) hx hb hX hbl hbA hS hi250 dL_law_1208 ?_
                                          refine lv_aload_n (pc := 1209) hx hb dL_law_1209 rfl (lv_at hl 0 rfl) ?_
                                          refine lv_iload (pc := 1210) hx hb dL_law_1210 (lv_at hl 4 rfl) ?_
                                          refine lv_iconst (v := 2) (pc := 1212) hx hb dL_law_1212 (by decide) ?_
                                          refine lv_iadd (pc := 1213) hx hb dL_law_1213 ?_
                                          obtain ⟨hi251, h⟩ := h
                                          refine va_sld (pc := 1214) hx hb hX hbl hbA hS hi251 dL_law_1214 ?_
                                          refine lv_aload_n (pc := 1215) hx hb dL_law_1215 rfl (lv_at hl 3 rfl) ?_
                                          obtain ⟨hk252, h⟩ := h
                                          refine m_callY (pc := 1216) (y := yL_billet) (np := 4) (As := [.ref (b + 0), .int (xs (x4 + 1).toNatClampNeg), .int (xs (x4 + 2).toNatClampNeg), .ref (b + 282)]) (rest := []) C hK hZ hP hS hl.1 ⟨Nat.le_trans hk252 (Nat.le_of_ble_eq_true rfl), Nat.le_trans (Nat.add_le_add_left (by decide : 6 ≤ 1000) _) (Nat.le_trans (Nat.mul_le_mul_left 1000 hk252) (Nat.le_of_ble_eq_true rfl))⟩ (c_L_billet hlt h) rfl rfl q_866 q_867 q_0 q_868 ⟨rfl, rfl⟩ yd_L_billet ⟨Nat.le_of_ble_eq_true rfl, Nat.le_of_ble_eq_true rfl⟩ (Nat.le_of_ble_eq_true rfl) dL_law_1216 (fun v9 M253 H locs hv9 hP hS => ?_)
                                          obtain ⟨r254, rfl, h⟩ := hv9
                                          refine W.widen (k := (k + 1)) (n := 1000 * (k + 1)) (Nat.le_refl _) (by omega) ?_
                                          refine lv_istore (lv' := [(5, .int r254), (0, .ref sb), (1, .ref (b + 0)), (2, .ref (b + 276)), (3, .ref (b + 282)), (4, .int x4)]) (pc := 1219) hx hb dL_law_1219 hl (by decide) rfl (fun ls hl => ?_)
                                          refine lv_aload_n (pc := 1221) hx hb dL_law_1221 rfl (lv_at hl 3 rfl) ?_
                                          refine lv_aload_n (pc := 1222) hx hb dL_law_1222 rfl (lv_at hl 1 rfl) ?_
                                          refine lv_iload (pc := 1223) hx hb dL_law_1223 (lv_at hl 5 rfl) ?_
                                          refine lv_iconst (v := 1) (pc := 1225) hx hb dL_law_1225 (by decide) ?_
                                          refine lv_iadd (pc := 1226) hx hb dL_law_1226 ?_
                                          obtain ⟨hi255, h⟩ := h
                                          refine va_sld (pc := 1227) hx hb hX hbl hbA hS hi255 dL_law_1227 ?_
                                          refine lv_aload_n (pc := 1228) hx hb dL_law_1228 rfl (lv_at hl 1 rfl) ?_
                                          refine lv_iload (pc := 1229) hx hb dL_law_1229 (lv_at hl 5 rfl) ?_
                                          refine lv_iconst (v := 2) (pc := 1231) hx hb dL_law_1231 (by decide) ?_
                                          refine lv_iadd (pc := 1232) hx hb dL_law_1232 ?_
                                          obtain ⟨hi256, h⟩ := h
                                          refine va_sld (pc := 1233) hx hb hX hbl hbA hS hi256 dL_law_1233 ?_
                                          obtain ⟨hk258, h⟩ := h
                                          refine m_callVI (pc := 1234) (y := yX7_billet) (κ := 7) (As := [.int (xs (x4 + 1).toNatClampNeg), .int (xs (x4 + 2).toNatClampNeg)]) (rest := []) C hK hP hS hl.1 ⟨Nat.le_trans hk252 (Nat.le_of_ble_eq_true rfl), Nat.le_trans (Nat.mul_le_mul_left 1000 hk252) (Nat.le_of_ble_eq_true rfl)⟩ (c_X7_billet h) rfl rfl hk258 (by decide) rfl q_1226 q_1227 q_1228 q_8 q_1229 ⟨rfl, rfl⟩ yd_X7_billet ⟨Nat.le_of_ble_eq_true rfl, Nat.le_of_ble_eq_true rfl⟩ (Nat.le_of_ble_eq_true rfl) dL_law_1234 (fun r259 M257 H locs h hP hS => ?_)
                                          refine lv_istore (lv' := [(6, .int r259), (5, .int r254), (0, .ref sb), (1, .ref (b + 0)), (2, .ref (b + 276)), (3, .ref (b + 282)), (4, .int x4)]) (pc := 1237) hx hb dL_law_1237 hl (by decide) rfl (fun ls hl => ?_)
                                          refine lv_aload_n (pc := 1239) hx hb dL_law_1239 rfl (lv_at hl 4 rfl) ?_
                                          refine m_callVI (pc := 1240) (y := yX7_thrown) (κ := 7) (As := []) (rest := []) C hK hP hS hl.1 ⟨Nat.le_trans hk252 (Nat.le_of_ble_eq_true rfl), Nat.le_trans (Nat.mul_le_mul_left 1000 hk252) (Nat.le_of_ble_eq_true rfl)⟩ (c_X7_thrown h) rfl rfl hk258 (by decide) rfl q_962 q_963 q_964 q_8 q_965 ⟨rfl, rfl⟩ yd_X7_thrown ⟨Nat.le_of_ble_eq_true rfl, Nat.le_of_ble_eq_true rfl⟩ (Nat.le_of_ble_eq_true rfl) dL_law_1240 (fun r261 M260 H locs h hP hS => ?_)
                                          refine lv_iload (pc := 1243) hx hb dL_law_1243 (lv_at hl 1 rfl) ?_
                                          refine lv_icmp_eq (tgt := 1250) (pc := 1245) hx hb dL_law_1245 (by decide) (fun c1245 => ?_) (fun c1245 => ?_)
                                          · replace h := h.1 c1245
                                            refine lv_iload (pc := 1250) hx hb dL_law_1250 (lv_at hl 1 rfl) ?_
                                            refine lv_if_ne (tgt := 1267) (pc := 1252) hx hb dL_law_1252 (by decide) (fun c1252 => ?_) (fun c1252 => ?_)
                                            · replace h := h.1 c1252
                                              refine lv_goto (tgt := 1673) (pc := 1267) hx hb dL_law_1267 (by decide) ?_
                                              obtain ⟨v262, ev262⟩ : ∃ y : Int32, y = x4 + 6 := ⟨_, rfl⟩
                                              replace h := h v262 ev262
                                              refine lv_iinc (v := v262) (lv' := [(4, .int v262), (6, .int r259), (5, .int r254), (0, .ref sb), (1, .ref (b + 0)), (2, .ref (b + 276)), (3, .ref (b + 282))]) (pc := 1673) hx hb dL_law_1673 hl (k := 6) rfl (by rw [ev262]; rfl) (by decide) rfl (fun ls hl => ?_)
                                              refine lv_goto (tgt := 23) (pc := 1676) hx hb dL_law_1676 (by decide) ?_
                                              exact ih _ _ _ _ _ _ hk252 h hP hS (lv_sub hl [3, 4, 5, 6, 0] rfl)
                                            · replace h := h.2 c1252
                                              refine lv_aload_n (pc := 1255) hx hb dL_law_1255 rfl (lv_at hl 5 rfl) ?_
                                              refine lv_iconst (v := 0) (pc := 1256) hx hb dL_law_1256 (by decide) ?_
                                              obtain ⟨hk263, h⟩ := h
                                              obtain ⟨hi264, h⟩ := h
                                              refine m_lald (pc := 1257) C hK hP hk263 hi264 dL_law_1257 ?_
                                              refine lv_iload (pc := 1258) hx hb dL_law_1258 (lv_at hl 0 rfl) ?_
                                              refine lv_i2l (pc := 1260) hx hb dL_law_1260 rfl ?_
                                              refine W.lcmp (pc := 1261) hx hb dL_law_1261 ?_
                                              refine lv_if_eq (tgt := 1267) (pc := 1262) hx hb dL_law_1262 (by decide) (fun c1262 => ?_) (fun c1262 => ?_)
                                              · replace h := h.1 c1262
                                                refine lv_goto (tgt := 1673) (pc := 1267) hx hb dL_law_1267 (by decide) ?_
                                                obtain ⟨v265, ev265⟩ : ∃ y : Int32, y = x4 + 6 := ⟨_, rfl⟩
                                                replace h := h v265 ev265
                                                refine lv_iinc (v := v265) (lv' := [(4, .int v265), (6, .int r259), (5, .int r254), (0, .ref sb), (1, .ref (b + 0)), (2, .ref (b + 276)), (3, .ref (b + 282))]) (pc := 1673) hx hb dL_law_1673 hl (k := 6) rfl (by rw [ev265]; rfl) (by decide) rfl (fun ls hl => ?_)
                                                refine lv_goto (tgt := 23) (pc := 1676) hx hb dL_law_1676 (by decide) ?_
                                                exact ih _ _ _ _ _ _ hk252 h hP hS (lv_sub hl [3, 4, 5, 6, 0] rfl)
                                              · replace h := h.2 c1262
                                                refine lv_iconst (v := 0) (pc := 1265) hx hb dL_law_1265 (by decide) ?_
                                                exact h.elim
                                          · replace h := h.2 c1245
                                            refine lv_iconst (v := 0) (pc := 1248) hx hb dL_law_1248 (by decide) ?_
                                            exact h.elim
                                        · replace h := h.2 n40_17
                                          by_cases n40_18 : ((xs x4.toNatClampNeg) &&& 31) = 18
                                          · replace h := h.1 n40_18
                                            refine m_case (v := 18) (off := 1230) (tgt := 1270) (pc := 40) hx hb n40_18 dL_law_40 (by decide) (by decide) (by decide) (by decide) ?_
                                            refine lv_aload_n (pc := 1270) hx hb dL_law_1270 rfl (lv_at hl 1 rfl) ?_
                                            refine lv_aload_n (pc := 1271) hx hb dL_law_1271 rfl (lv_at hl 0 rfl) ?_
                                            refine lv_iload (pc := 1272) hx hb dL_law_1272 (lv_at hl 4 rfl) ?_
                                            refine lv_iconst (v := 1) (pc := 1274) hx hb dL_law_1274 (by decide) ?_
                                            refine lv_iadd (pc := 1275) hx hb dL_law_1275 ?_
                                            obtain ⟨hi266, h⟩ := h
                                            refine va_sld (pc := 1276) hx hb hX hbl hbA hS hi266 dL_law_1276 ?_
                                            refine lv_aload_n (pc := 1277) hx hb dL_law_1277 rfl (lv_at hl 3 rfl) ?_
                                            obtain ⟨hk267, h⟩ := h
                                            refine m_callY (pc := 1278) (y := yL_count) (np := 3) (As := [.ref (b + 0), .int (xs (x4 + 1).toNatClampNeg), .ref (b + 282)]) (rest := []) C hK hZ hP hS hl.1 ⟨Nat.le_trans hk267 (Nat.le_of_ble_eq_true rfl), Nat.le_trans (Nat.add_le_add_left (by decide : 6 ≤ 1000) _) (Nat.le_trans (Nat.mul_le_mul_left 1000 hk267) (Nat.le_of_ble_eq_true rfl))⟩ (c_L_count hlt h) rfl rfl q_874 q_875 q_0 q_876 ⟨rfl, rfl⟩ yd_L_count ⟨Nat.le_of_ble_eq_true rfl, Nat.le_of_ble_eq_true rfl⟩ (Nat.le_of_ble_eq_true rfl) dL_law_1278 (fun v9 M268 H locs hv9 hP hS => ?_)
                                            obtain ⟨r269, rfl, h⟩ := hv9
                                            refine W.widen (k := (k + 1)) (n := 1000 * (k + 1)) (Nat.le_refl _) (by omega) ?_
                                            refine lv_istore (lv' := [(5, .int r269), (0, .ref sb), (1, .ref (b + 0)), (2, .ref (b + 276)), (3, .ref (b + 282)), (4, .int x4)]) (pc := 1281) hx hb dL_law_1281 hl (by decide) rfl (fun ls hl => ?_)
                                            refine lv_aload_n (pc := 1283) hx hb dL_law_1283 rfl (lv_at hl 3 rfl) ?_
                                            refine lv_aload_n (pc := 1284) hx hb dL_law_1284 rfl (lv_at hl 1 rfl) ?_
                                            refine lv_iload (pc := 1285) hx hb dL_law_1285 (lv_at hl 5 rfl) ?_
                                            refine lv_iconst (v := 1) (pc := 1287) hx hb dL_law_1287 (by decide) ?_
                                            refine lv_iadd (pc := 1288) hx hb dL_law_1288 ?_
                                            obtain ⟨hi270, h⟩ := h
                                            refine va_sld (pc := 1289) hx hb hX hbl hbA hS hi270 dL_law_1289 ?_
                                            obtain ⟨hk272, h⟩ := h
                                            refine m_callVI (pc := 1290) (y := yX7_count) (κ := 7) (As := [.int (xs (x4 + 1).toNatClampNeg)]) (rest := []) C hK hP hS hl.1 ⟨Nat.le_trans hk267 (Nat.le_of_ble_eq_true rfl), Nat.le_trans (Nat.mul_le_mul_left 1000 hk267) (Nat.le_of_ble_eq_true rfl)⟩ (c_X7_count h) rfl rfl hk272 (by decide) rfl q_1234 q_1235 q_1236 q_8 q_1237 ⟨rfl, rfl⟩ yd_X7_count ⟨Nat.le_of_ble_eq_true rfl, Nat.le_of_ble_eq_true rfl⟩ (Nat.le_of_ble_eq_true rfl) dL_law_1290 (fun r273 M271 H locs h hP hS => ?_)
                                            refine lv_istore (lv' := [(6, .int r273), (5, .int r269), (0, .ref sb), (1, .ref (b + 0)), (2, .ref (b + 276)), (3, .ref (b + 282)), (4, .int x4)]) (pc := 1293) hx hb dL_law_1293 hl (by decide) rfl (fun ls hl => ?_)
                                            refine lv_aload_n (pc := 1295) hx hb dL_law_1295 rfl (lv_at hl 4 rfl) ?_
                                            refine m_callVI (pc := 1296) (y := yX7_thrown) (κ := 7) (As := []) (rest := []) C hK hP hS hl.1 ⟨Nat.le_trans hk267 (Nat.le_of_ble_eq_true rfl), Nat.le_trans (Nat.mul_le_mul_left 1000 hk267) (Nat.le_of_ble_eq_true rfl)⟩ (c_X7_thrown h) rfl rfl hk272 (by decide) rfl q_962 q_963 q_964 q_8 q_965 ⟨rfl, rfl⟩ yd_X7_thrown ⟨Nat.le_of_ble_eq_true rfl, Nat.le_of_ble_eq_true rfl⟩ (Nat.le_of_ble_eq_true rfl) dL_law_1296 (fun r275 M274 H locs h hP hS => ?_)
                                            refine lv_iload (pc := 1299) hx hb dL_law_1299 (lv_at hl 1 rfl) ?_
                                            refine lv_icmp_eq (tgt := 1306) (pc := 1301) hx hb dL_law_1301 (by decide) (fun c1301 => ?_) (fun c1301 => ?_)
                                            · replace h := h.1 c1301
                                              refine lv_iload (pc := 1306) hx hb dL_law_1306 (lv_at hl 1 rfl) ?_
                                              refine lv_if_ne (tgt := 1323) (pc := 1308) hx hb dL_law_1308 (by decide) (fun c1308 => ?_) (fun c1308 => ?_)
                                              · replace h := h.1 c1308
                                                refine lv_goto (tgt := 1673) (pc := 1323) hx hb dL_law_1323 (by decide) ?_
                                                obtain ⟨v276, ev276⟩ : ∃ y : Int32, y = x4 + 6 := ⟨_, rfl⟩
                                                replace h := h v276 ev276
                                                refine lv_iinc (v := v276) (lv' := [(4, .int v276), (6, .int r273), (5, .int r269), (0, .ref sb), (1, .ref (b + 0)), (2, .ref (b + 276)), (3, .ref (b + 282))]) (pc := 1673) hx hb dL_law_1673 hl (k := 6) rfl (by rw [ev276]; rfl) (by decide) rfl (fun ls hl => ?_)
                                                refine lv_goto (tgt := 23) (pc := 1676) hx hb dL_law_1676 (by decide) ?_
                                                exact ih _ _ _ _ _ _ hk267 h hP hS (lv_sub hl [3, 4, 5, 6, 0] rfl)
                                              · replace h := h.2 c1308
                                                refine lv_aload_n (pc := 1311) hx hb dL_law_1311 rfl (lv_at hl 5 rfl) ?_
                                                refine lv_iconst (v := 0) (pc := 1312) hx hb dL_law_1312 (by decide) ?_
                                                obtain ⟨hk277, h⟩ := h
                                                obtain ⟨hi278, h⟩ := h
                                                refine m_lald (pc := 1313) C hK hP hk277 hi278 dL_law_1313 ?_
                                                refine lv_iload (pc := 1314) hx hb dL_law_1314 (lv_at hl 0 rfl) ?_
                                                refine lv_i2l (pc := 1316) hx hb dL_law_1316 rfl ?_
                                                refine W.lcmp (pc := 1317) hx hb dL_law_1317 ?_
                                                refine lv_if_eq (tgt := 1323) (pc := 1318) hx hb dL_law_1318 (by decide) (fun c1318 => ?_) (fun c1318 => ?_)
                                                · replace h := h.1 c1318
                                                  refine lv_goto (tgt := 1673) (pc := 1323) hx hb dL_law_1323 (by decide) ?_
                                                  obtain ⟨v279, ev279⟩ : ∃ y : Int32, y = x4 + 6 := ⟨_, rfl⟩
                                                  replace h := h v279 ev279
                                                  refine lv_iinc (v := v279) (lv' := [(4, .int v279), (6, .int r273), (5, .int r269), (0, .ref sb), (1, .ref (b + 0)), (2, .ref (b + 276)), (3, .ref (b + 282))]) (pc := 1673) hx hb dL_law_1673 hl (k := 6) rfl (by rw [ev279]; rfl) (by decide) rfl (fun ls hl => ?_)
                                                  refine lv_goto (tgt := 23) (pc := 1676) hx hb dL_law_1676 (by decide) ?_
                                                  exact ih _ _ _ _ _ _ hk267 h hP hS (lv_sub hl [3, 4, 5, 6, 0] rfl)
                                                · replace h := h.2 c1318
                                                  refine lv_iconst (v := 0) (pc := 1321) hx hb dL_law_1321 (by decide) ?_
                                                  exact h.elim
                                            · replace h := h.2 c1301
                                              refine lv_iconst (v := 0) (pc := 1304) hx hb dL_law_1304 (by decide) ?_
                                              exact h.elim
                                          · replace h := h.2 n40_18
                                            by_cases n40_19 : ((xs x4.toNatClampNeg) &&& 31) = 19
                                            · replace h := h.1 n40_19
                                              refine m_case (v := 19) (off := 1286) (tgt := 1326) (pc := 40) hx hb n40_19 dL_law_40 (by decide) (by decide) (by decide) (by decide) ?_
                                              refine lv_aload_n (pc := 1326) hx hb dL_law_1326 rfl (lv_at hl 1 rfl) ?_
                                              refine lv_aload_n (pc := 1327) hx hb dL_law_1327 rfl (lv_at hl 0 rfl) ?_
                                              refine lv_iload (pc := 1328) hx hb dL_law_1328 (lv_at hl 4 rfl) ?_
                                              refine lv_iconst (v := 1) (pc := 1330) hx hb dL_law_1330 (by decide) ?_
                                              refine lv_iadd (pc := 1331) hx hb dL_law_1331 ?_
                                              obtain ⟨hi280, h⟩ := h
                                              refine va_sld (pc := 1332) hx hb hX hbl hbA hS hi280 dL_law_1332 ?_
                                              refine lv_aload_n (pc := 1333) hx hb dL_law_1333 rfl (lv_at hl 3 rfl) ?_
                                              obtain ⟨hk281, h⟩ := h
                                              refine m_callY (pc := 1334) (y := yL_setting) (np := 3) (As := [.ref (b + 0), .int (xs (x4 + 1).toNatClampNeg), .ref (b + 282)]) (rest := []) C hK hZ hP hS hl.1 ⟨Nat.le_trans hk281 (Nat.le_of_ble_eq_true rfl), Nat.le_trans (Nat.add_le_add_left (by decide : 6 ≤ 1000) _) (Nat.le_trans (Nat.mul_le_mul_left 1000 hk281) (Nat.le_of_ble_eq_true rfl))⟩ (c_L_setting hlt h) rfl rfl q_882 q_883 q_0 q_884 ⟨rfl, rfl⟩ yd_L_setting ⟨Nat.le_of_ble_eq_true rfl, Nat.le_of_ble_eq_true rfl⟩ (Nat.le_of_ble_eq_true rfl) dL_law_1334 (fun v9 M282 H locs hv9 hP hS => ?_)
                                              obtain ⟨r283, rfl, h⟩ := hv9
                                              refine W.widen (k := (k + 1)) (n := 1000 * (k + 1)) (Nat.le_refl _) (by omega) ?_
                                              refine lv_istore (lv' := [(5, .int r283), (0, .ref sb), (1, .ref (b + 0)), (2, .ref (b + 276)), (3, .ref (b + 282)), (4, .int x4)]) (pc := 1337) hx hb dL_law_1337 hl (by decide) rfl (fun ls hl => ?_)
                                              refine lv_aload_n (pc := 1339) hx hb dL_law_1339 rfl (lv_at hl 3 rfl) ?_
                                              refine lv_aload_n (pc := 1340) hx hb dL_law_1340 rfl (lv_at hl 1 rfl) ?_
                                              refine lv_iload (pc := 1341) hx hb dL_law_1341 (lv_at hl 5 rfl) ?_
                                              refine lv_iconst (v := 1) (pc := 1343) hx hb dL_law_1343 (by decide) ?_
                                              refine lv_iadd (pc := 1344) hx hb dL_law_1344 ?_
                                              obtain ⟨hi284, h⟩ := h
                                              refine va_sld (pc := 1345) hx hb hX hbl hbA hS hi284 dL_law_1345 ?_
                                              obtain ⟨hk286, h⟩ := h
                                              refine m_callVI (pc := 1346) (y := yX7_setting) (κ := 7) (As := [.int (xs (x4 + 1).toNatClampNeg)]) (rest := []) C hK hP hS hl.1 ⟨Nat.le_trans hk281 (Nat.le_of_ble_eq_true rfl), Nat.le_trans (Nat.mul_le_mul_left 1000 hk281) (Nat.le_of_ble_eq_true rfl)⟩ (c_X7_setting h) rfl rfl hk286 (by decide) rfl q_1250 q_1251 q_1252 q_8 q_1253 ⟨rfl, rfl⟩ yd_X7_setting ⟨Nat.le_of_ble_eq_true rfl, Nat.le_of_ble_eq_true rfl⟩ (Nat.le_of_ble_eq_true rfl) dL_law_1346 (fun r287 M285 H locs h hP hS => ?_)
                                              refine lv_istore (lv' := [(6, .int r287), (5, .int r283), (0, .ref sb), (1, .ref (b + 0)), (2, .ref (b + 276)), (3, .ref (b + 282)), (4, .int x4)]) (pc := 1349) hx hb dL_law_1349 hl (by decide) rfl (fun ls hl => ?_)
                                              refine lv_aload_n (pc := 1351) hx hb dL_law_1351 rfl (lv_at hl 4 rfl) ?_
                                              refine m_callVI (pc := 1352) (y := yX7_thrown) (κ := 7) (As := []) (rest := []) C hK hP hS hl.1 ⟨Nat.le_trans hk281 (Nat.le_of_ble_eq_true rfl), Nat.le_trans (Nat.mul_le_mul_left 1000 hk281) (Nat.le_of_ble_eq_true rfl)⟩ (c_X7_thrown h) rfl rfl hk286 (by decide) rfl q_962 q_963 q_964 q_8 q_965 ⟨rfl, rfl⟩ yd_X7_thrown ⟨Nat.le_of_ble_eq_true rfl, Nat.le_of_ble_eq_true rfl⟩ (Nat.le_of_ble_eq_true rfl) dL_law_1352 (fun r289 M288 H locs h hP hS => ?_)
                                              refine lv_iload (pc := 1355) hx hb dL_law_1355 (lv_at hl 1 rfl) ?_
                                              refine lv_icmp_eq (tgt := 1362) (pc := 1357) hx hb dL_law_1357 (by decide) (fun c1357 => ?_) (fun c1357 => ?_)
                                              · replace h := h.1 c1357
                                                refine lv_iload (pc := 1362) hx hb dL_law_1362 (lv_at hl 1 rfl) ?_
                                                refine lv_if_ne (tgt := 1379) (pc := 1364) hx hb dL_law_1364 (by decide) (fun c1364 => ?_) (fun c1364 => ?_)
                                                · replace h := h.1 c1364
                                                  refine lv_goto (tgt := 1673) (pc := 1379) hx hb dL_law_1379 (by decide) ?_
                                                  obtain ⟨v290, ev290⟩ : ∃ y : Int32, y = x4 + 6 := ⟨_, rfl⟩
                                                  replace h := h v290 ev290
                                                  refine lv_iinc (v := v290) (lv' := [(4, .int v290), (6, .int r287), (5, .int r283), (0, .ref sb), (1, .ref (b + 0)), (2, .ref (b + 276)), (3, .ref (b + 282))]) (pc := 1673) hx hb dL_law_1673 hl (k := 6) rfl (by rw [ev290]; rfl) (by decide) rfl (fun ls hl => ?_)
                                                  refine lv_goto (tgt := 23) (pc := 1676) hx hb dL_law_1676 (by decide) ?_
                                                  exact ih _ _ _ _ _ _ hk281 h hP hS (lv_sub hl [3, 4, 5, 6, 0] rfl)
                                                · replace h := h.2 c1364
                                                  refine lv_aload_n (pc := 1367) hx hb dL_law_1367 rfl (lv_at hl 5 rfl) ?_
                                                  refine lv_iconst (v := 0) (pc := 1368) hx hb dL_law_1368 (by decide) ?_
                                                  obtain ⟨hk291, h⟩ := h
                                                  obtain ⟨hi292, h⟩ := h
                                                  refine m_lald (pc := 1369) C hK hP hk291 hi292 dL_law_1369 ?_
                                                  refine lv_iload (pc := 1370) hx hb dL_law_1370 (lv_at hl 0 rfl) ?_
                                                  refine lv_i2l (pc := 1372) hx hb dL_law_1372 rfl ?_
                                                  refine W.lcmp (pc := 1373) hx hb dL_law_1373 ?_
                                                  refine lv_if_eq (tgt := 1379) (pc := 1374) hx hb dL_law_1374 (by decide) (fun c1374 => ?_) (fun c1374 => ?_)
                                                  · replace h := h.1 c1374
                                                    refine lv_goto (tgt := 1673) (pc := 1379) hx hb dL_law_1379 (by decide) ?_
                                                    obtain ⟨v293, ev293⟩ : ∃ y : Int32, y = x4 + 6 := ⟨_, rfl⟩
                                                    replace h := h v293 ev293
                                                    refine lv_iinc (v := v293) (lv' := [(4, .int v293), (6, .int r287), (5, .int r283), (0, .ref sb), (1, .ref (b + 0)), (2, .ref (b + 276)), (3, .ref (b + 282))]) (pc := 1673) hx hb dL_law_1673 hl (k := 6) rfl (by rw [ev293]; rfl) (by decide) rfl (fun ls hl => ?_)
                                                    refine lv_goto (tgt := 23) (pc := 1676) hx hb dL_law_1676 (by decide) ?_
                                                    exact ih _ _ _ _ _ _ hk281 h hP hS (lv_sub hl [3, 4, 5, 6, 0] rfl)
                                                  · replace h := h.2 c1374
                                                    refine lv_iconst (v := 0) (pc := 1377) hx hb dL_law_1377 (by decide) ?_
                                                    exact h.elim
                                              · replace h := h.2 c1357
                                                refine lv_iconst (v := 0) (pc := 1360) hx hb dL_law_1360 (by decide) ?_
                                                exact h.elim
                                            · replace h := h.2 n40_19
                                              by_cases n40_20 : ((xs x4.toNatClampNeg) &&& 31) = 20
                                              · replace h := h.1 n40_20
                                                refine m_case (v := 20) (off := 1342) (tgt := 1382) (pc := 40) hx hb n40_20 dL_law_40 (by decide) (by decide) (by decide) (by decide) ?_
                                                refine lv_aload_n (pc := 1382) hx hb dL_law_1382 rfl (lv_at hl 1 rfl) ?_
                                                refine lv_aload_n (pc := 1383) hx hb dL_law_1383 rfl (lv_at hl 0 rfl) ?_
                                                refine lv_iload (pc := 1384) hx hb dL_law_1384 (lv_at hl 4 rfl) ?_
                                                refine lv_iconst (v := 1) (pc := 1386) hx hb dL_law_1386 (by decide) ?_
                                                refine lv_iadd (pc := 1387) hx hb dL_law_1387 ?_
                                                obtain ⟨hi294, h⟩ := h
                                                refine va_sld (pc := 1388) hx hb hX hbl hbA hS hi294 dL_law_1388 ?_
                                                refine lv_aload_n (pc := 1389) hx hb dL_law_1389 rfl (lv_at hl 0 rfl) ?_
                                                refine lv_iload (pc := 1390) hx hb dL_law_1390 (lv_at hl 4 rfl) ?_
                                                refine lv_iconst (v := 2) (pc := 1392) hx hb dL_law_1392 (by decide) ?_
                                                refine lv_iadd (pc := 1393) hx hb dL_law_1393 ?_
                                                obtain ⟨hi295, h⟩ := h
                                                refine va_sld (pc := 1394) hx hb hX hbl hbA hS hi295 dL_law_1394 ?_
                                                refine lv_aload_n (pc := 1395) hx hb dL_law_1395 rfl (lv_at hl 3 rfl) ?_
                                                obtain ⟨hk296, h⟩ := h
                                                refine m_callY (pc := 1396) (y := yL_ifPassed) (np := 4) (As := [.ref (b + 0), .int (xs (x4 + 1).toNatClampNeg), .int (xs (x4 + 2).toNatClampNeg), .ref (b + 282)]) (rest := []) C hK hZ hP hS hl.1 ⟨Nat.le_trans hk296 (Nat.le_of_ble_eq_true rfl), Nat.le_trans (Nat.add_le_add_left (by decide : 6 ≤ 1000) _) (Nat.le_trans (Nat.mul_le_mul_left 1000 hk296) (Nat.le_of_ble_eq_true rfl))⟩ (c_L_ifPassed hlt h) rfl rfl q_889 q_890 q_0 q_891 ⟨rfl, rfl⟩ yd_L_ifPassed ⟨Nat.le_of_ble_eq_true rfl, Nat.le_of_ble_eq_true rfl⟩ (Nat.le_of_ble_eq_true rfl) dL_law_1396 (fun v9 M297 H locs hv9 hP hS => ?_)
                                                obtain ⟨r298, rfl, h⟩ := hv9
                                                refine W.widen (k := (k + 1)) (n := 1000 * (k + 1)) (Nat.le_refl _) (by omega) ?_
                                                refine lv_istore (lv' := [(5, .int r298), (0, .ref sb), (1, .ref (b + 0)), (2, .ref (b + 276)), (3, .ref (b + 282)), (4, .int x4)]) (pc := 1399) hx hb dL_law_1399 hl (by decide) rfl (fun ls hl => ?_)
                                                refine lv_aload_n (pc := 1401) hx hb dL_law_1401 rfl (lv_at hl 3 rfl) ?_
                                                refine lv_aload_n (pc := 1402) hx hb dL_law_1402 rfl (lv_at hl 1 rfl) ?_
                                                refine lv_iload (pc := 1403) hx hb dL_law_1403 (lv_at hl 5 rfl) ?_
                                                refine lv_iconst (v := 1) (pc := 1405) hx hb dL_law_1405 (by decide) ?_
                                                refine lv_iadd (pc := 1406) hx hb dL_law_1406 ?_
                                                obtain ⟨hi299, h⟩ := h
                                                refine va_sld (pc := 1407) hx hb hX hbl hbA hS hi299 dL_law_1407 ?_
                                                refine lv_aload_n (pc := 1408) hx hb dL_law_1408 rfl (lv_at hl 1 rfl) ?_
                                                refine lv_iload (pc := 1409) hx hb dL_law_1409 (lv_at hl 5 rfl) ?_
                                                refine lv_iconst (v := 2) (pc := 1411) hx hb dL_law_1411 (by decide) ?_
                                                refine lv_iadd (pc := 1412) hx hb dL_law_1412 ?_
                                                obtain ⟨hi300, h⟩ := h
                                                refine va_sld (pc := 1413) hx hb hX hbl hbA hS hi300 dL_law_1413 ?_
                                                obtain ⟨hk302, h⟩ := h
                                                refine m_callVI (pc := 1414) (y := yX7_ifPassed) (κ := 7) (As := [.int (xs (x4 + 1).toNatClampNeg), .int (xs (x4 + 2).toNatClampNeg)]) (rest := []) C hK hP hS hl.1 ⟨Nat.le_trans hk296 (Nat.le_of_ble_eq_true rfl), Nat.le_trans (Nat.mul_le_mul_left 1000 hk296) (Nat.le_of_ble_eq_true rfl)⟩ (c_X7_ifPassed h) rfl rfl hk302 (by decide) rfl q_1254 q_1255 q_1256 q_8 q_1257 ⟨rfl, rfl⟩ yd_X7_ifPassed ⟨Nat.le_of_ble_eq_true rfl, Nat.le_of_ble_eq_true rfl⟩ (Nat.le_of_ble_eq_true rfl) dL_law_1414 (fun r303 M301 H locs h hP hS => ?_)
                                                refine lv_istore (lv' := [(6, .int r303), (5, .int r298), (0, .ref sb), (1, .ref (b + 0)), (2, .ref (b + 276)), (3, .ref (b + 282)), (4, .int x4)]) (pc := 1417) hx hb dL_law_1417 hl (by decide) rfl (fun ls hl => ?_)
                                                refine lv_aload_n (pc := 1419) hx hb dL_law_1419 rfl (lv_at hl 4 rfl) ?_
                                                refine m_callVI (pc := 1420) (y := yX7_thrown) (κ := 7) (As := []) (rest := []) C hK hP hS hl.1 ⟨Nat.le_trans hk296 (Nat.le_of_ble_eq_true rfl), Nat.le_trans (Nat.mul_le_mul_left 1000 hk296) (Nat.le_of_ble_eq_true rfl)⟩ (c_X7_thrown h) rfl rfl hk302 (by decide) rfl q_962 q_963 q_964 q_8 q_965 ⟨rfl, rfl⟩ yd_X7_thrown ⟨Nat.le_of_ble_eq_true rfl, Nat.le_of_ble_eq_true rfl⟩ (Nat.le_of_ble_eq_true rfl) dL_law_1420 (fun r305 M304 H locs h hP hS => ?_)
                                                refine lv_iload (pc := 1423) hx hb dL_law_1423 (lv_at hl 1 rfl) ?_
                                                refine lv_icmp_eq (tgt := 1430) (pc := 1425) hx hb dL_law_1425 (by decide) (fun c1425 => ?_) (fun c1425 => ?_)
                                                · replace h := h.1 c1425
                                                  refine lv_iload (pc := 1430) hx hb dL_law_1430 (lv_at hl 1 rfl) ?_
                                                  refine lv_if_ne (tgt := 1447) (pc := 1432) hx hb dL_law_1432 (by decide) (fun c1432 => ?_) (fun c1432 => ?_)
                                                  · replace h := h.1 c1432
                                                    refine lv_goto (tgt := 1673) (pc := 1447) hx hb dL_law_1447 (by decide) ?_
                                                    obtain ⟨v306, ev306⟩ : ∃ y : Int32, y = x4 + 6 := ⟨_, rfl⟩
                                                    replace h := h v306 ev306
                                                    refine lv_iinc (v := v306) (lv' := [(4, .int v306), (6, .int r303), (5, .int r298), (0, .ref sb), (1, .ref (b + 0)), (2, .ref (b + 276)), (3, .ref (b + 282))]) (pc := 1673) hx hb dL_law_1673 hl (k := 6) rfl (by rw [ev306]; rfl) (by decide) rfl (fun ls hl => ?_)
                                                    refine lv_goto (tgt := 23) (pc := 1676) hx hb dL_law_1676 (by decide) ?_
                                                    exact ih _ _ _ _ _ _ hk296 h hP hS (lv_sub hl [3, 4, 5, 6, 0] rfl)
                                                  · replace h := h.2 c1432
                                                    refine lv_aload_n (pc := 1435) hx hb dL_law_1435 rfl (lv_at hl 5 rfl) ?_
                                                    refine lv_iconst (v := 0) (pc := 1436) hx hb dL_law_1436 (by decide) ?_
                                                    obtain ⟨hk307, h⟩ := h
                                                    obtain ⟨hi308, h⟩ := h
                                                    refine m_lald (pc := 1437) C hK hP hk307 hi308 dL_law_1437 ?_
                                                    refine lv_iload (pc := 1438) hx hb dL_law_1438 (lv_at hl 0 rfl) ?_
                                                    refine lv_i2l (pc := 1440) hx hb dL_law_1440 rfl ?_
                                                    refine W.lcmp (pc := 1441) hx hb dL_law_1441 ?_
                                                    refine lv_if_eq (tgt := 1447) (pc := 1442) hx hb dL_law_1442 (by decide) (fun c1442 => ?_) (fun c1442 => ?_)
                                                    · replace h := h.1 c1442
                                                      refine lv_goto (tgt := 1673) (pc := 1447) hx hb dL_law_1447 (by decide) ?_
                                                      obtain ⟨v309, ev309⟩ : ∃ y : Int32, y = x4 + 6 := ⟨_, rfl⟩
                                                      replace h := h v309 ev309
                                                      refine lv_iinc (v := v309) (lv' := [(4, .int v309), (6, .int r303), (5, .int r298), (0, .ref sb), (1, .ref (b + 0)), (2, .ref (b + 276)), (3, .ref (b + 282))]) (pc := 1673) hx hb dL_law_1673 hl (k := 6) rfl (by rw [ev309]; rfl) (by decide) rfl (fun ls hl => ?_)
                                                      refine lv_goto (tgt := 23) (pc := 1676) hx hb dL_law_1676 (by decide) ?_
                                                      exact ih _ _ _ _ _ _ hk296 h hP hS (lv_sub hl [3, 4, 5, 6, 0] rfl)
                                                    · replace h := h.2 c1442
                                                      refine lv_iconst (v := 0) (pc := 1445) hx hb dL_law_1445 (by decide) ?_
                                                      exact h.elim
                                                · replace h := h.2 c1425
                                                  refine lv_iconst (v := 0) (pc := 1428) hx hb dL_law_1428 (by decide) ?_
                                                  exact h.elim
                                              · replace h := h.2 n40_20
                                                by_cases n40_21 : ((xs x4.toNatClampNeg) &&& 31) = 21
                                                · replace h := h.1 n40_21
                                                  refine m_case (v := 21) (off := 1410) (tgt := 1450) (pc := 40) hx hb n40_21 dL_law_40 (by decide) (by decide) (by decide) (by decide) ?_
                                                  refine lv_aload_n (pc := 1450) hx hb dL_law_1450 rfl (lv_at hl 1 rfl) ?_
                                                  refine lv_aload_n (pc := 1451) hx hb dL_law_1451 rfl (lv_at hl 0 rfl) ?_
                                                  refine lv_iload (pc := 1452) hx hb dL_law_1452 (lv_at hl 4 rfl) ?_
                                                  refine lv_iconst (v := 1) (pc := 1454) hx hb dL_law_1454 (by decide) ?_
                                                  refine lv_iadd (pc := 1455) hx hb dL_law_1455 ?_
                                                  obtain ⟨hi310, h⟩ := h
                                                  refine va_sld (pc := 1456) hx hb hX hbl hbA hS hi310 dL_law_1456 ?_
                                                  refine lv_aload_n (pc := 1457) hx hb dL_law_1457 rfl (lv_at hl 3 rfl) ?_
                                                  obtain ⟨hk311, h⟩ := h
                                                  refine m_callY (pc := 1458) (y := yL_doneIn) (np := 3) (As := [.ref (b + 0), .int (xs (x4 + 1).toNatClampNeg), .ref (b + 282)]) (rest := []) C hK hZ hP hS hl.1 ⟨Nat.le_trans hk311 (Nat.le_of_ble_eq_true rfl), Nat.le_trans (Nat.add_le_add_left (by decide : 6 ≤ 1000) _) (Nat.le_trans (Nat.mul_le_mul_left 1000 hk311) (Nat.le_of_ble_eq_true rfl))⟩ (c_L_doneIn hlt h) rfl rfl q_897 q_898 q_0 q_899 ⟨rfl, rfl⟩ yd_L_doneIn ⟨Nat.le_of_ble_eq_true rfl, Nat.le_of_ble_eq_true rfl⟩ (Nat.le_of_ble_eq_true rfl) dL_law_1458 (fun v9 M312 H locs hv9 hP hS => ?_)
                                                  obtain ⟨r313, rfl, h⟩ := hv9
                                                  refine W.widen (k := (k + 1)) (n := 1000 * (k + 1)) (Nat.le_refl _) (by omega) ?_
                                                  refine lv_istore (lv' := [(5, .int r313), (0, .ref sb), (1, .ref (b + 0)), (2, .ref (b + 276)), (3, .ref (b + 282)), (4, .int x4)]) (pc := 1461) hx hb dL_law_1461 hl (by decide) rfl (fun ls hl => ?_)
                                                  refine lv_aload_n (pc := 1463) hx hb dL_law_1463 rfl (lv_at hl 3 rfl) ?_
                                                  refine lv_aload_n (pc := 1464) hx hb dL_law_1464 rfl (lv_at hl 1 rfl) ?_
                                                  refine lv_iload (pc := 1465) hx hb dL_law_1465 (lv_at hl 5 rfl) ?_
                                                  refine lv_iconst (v := 1) (pc := 1467) hx hb dL_law_1467 (by decide) ?_
                                                  refine lv_iadd (pc := 1468) hx hb dL_law_1468 ?_
                                                  obtain ⟨hi314, h⟩ := h
                                                  refine va_sld (pc := 1469) hx hb hX hbl hbA hS hi314 dL_law_1469 ?_
                                                  obtain ⟨hk316, h⟩ := h
                                                  refine m_callVI (pc := 1470) (y := yX7_doneIn) (κ := 7) (As := [.int (xs (x4 + 1).toNatClampNeg)]) (rest := []) C hK hP hS hl.1 ⟨Nat.le_trans hk311 (Nat.le_of_ble_eq_true rfl), Nat.le_trans (Nat.mul_le_mul_left 1000 hk311) (Nat.le_of_ble_eq_true rfl)⟩ (c_X7_doneIn h) rfl rfl hk316 (by decide) rfl q_1270 q_1271 q_1272 q_8 q_1273 ⟨rfl, rfl⟩ yd_X7_doneIn ⟨Nat.le_of_ble_eq_true rfl, Nat.le_of_ble_eq_true rfl⟩ (Nat.le_of_ble_eq_true rfl) dL_law_1470 (fun r317 M315 H locs h hP hS => ?_)
                                                  refine lv_istore (lv' := [(6, .int r317), (5, .int r313), (0, .ref sb), (1, .ref (b + 0)), (2, .ref (b + 276)), (3, .ref (b + 282)), (4, .int x4)]) (pc := 1473) hx hb dL_law_1473 hl (by decide) rfl (fun ls hl => ?_)
                                                  refine lv_aload_n (pc := 1475) hx hb dL_law_1475 rfl (lv_at hl 4 rfl) ?_
                                                  refine m_callVI (pc := 1476) (y := yX7_thrown) (κ := 7) (As := []) (rest := []) C hK hP hS hl.1 ⟨Nat.le_trans hk311 (Nat.le_of_ble_eq_true rfl), Nat.le_trans (Nat.mul_le_mul_left 1000 hk311) (Nat.le_of_ble_eq_true rfl)⟩ (c_X7_thrown h) rfl rfl hk316 (by decide) rfl q_962 q_963 q_964 q_8 q_965 ⟨rfl, rfl⟩ yd_X7_thrown ⟨Nat.le_of_ble_eq_true rfl, Nat.le_of_ble_eq_true rfl⟩ (Nat.le_of_ble_eq_true rfl) dL_law_1476 (fun r319 M318 H locs h hP hS => ?_)
                                                  refine lv_iload (pc := 1479) hx hb dL_law_1479 (lv_at hl 1 rfl) ?_
                                                  refine lv_icmp_eq (tgt := 1486) (pc := 1481) hx hb dL_law_1481 (by decide) (fun c1481 => ?_) (fun c1481 => ?_)
                                                  · replace h := h.1 c1481
                                                    refine lv_iload (pc := 1486) hx hb dL_law_1486 (lv_at hl 1 rfl) ?_
                                                    refine lv_if_ne (tgt := 1503) (pc := 1488) hx hb dL_law_1488 (by decide) (fun c1488 => ?_) (fun c1488 => ?_)
                                                    · replace h := h.1 c1488
                                                      refine lv_goto (tgt := 1673) (pc := 1503) hx hb dL_law_1503 (by decide) ?_
                                                      obtain ⟨v320, ev320⟩ : ∃ y : Int32, y = x4 + 6 := ⟨_, rfl⟩
                                                      replace h := h v320 ev320
                                                      refine lv_iinc (v := v320) (lv' := [(4, .int v320), (6, .int r317), (5, .int r313), (0, .ref sb), (1, .ref (b + 0)), (2, .ref (b + 276)), (3, .ref (b + 282))]) (pc := 1673) hx hb dL_law_1673 hl (k := 6) rfl (by rw [ev320]; rfl) (by decide) rfl (fun ls hl => ?_)
                                                      refine lv_goto (tgt := 23) (pc := 1676) hx hb dL_law_1676 (by decide) ?_
                                                      exact ih _ _ _ _ _ _ hk311 h hP hS (lv_sub hl [3, 4, 5, 6, 0] rfl)
                                                    · replace h := h.2 c1488
                                                      refine lv_aload_n (pc := 1491) hx hb dL_law_1491 rfl (lv_at hl 5 rfl) ?_
                                                      refine lv_iconst (v := 0) (pc := 1492) hx hb dL_law_1492 (by decide) ?_
                                                      obtain ⟨hk321, h⟩ := h
                                                      obtain ⟨hi322, h⟩ := h
                                                      refine m_lald (pc := 1493) C hK hP hk321 hi322 dL_law_1493 ?_
                                                      refine lv_iload (pc := 1494) hx hb dL_law_1494 (lv_at hl 0 rfl) ?_
                                                      refine lv_i2l (pc := 1496) hx hb dL_law_1496 rfl ?_
                                                      refine W.lcmp (pc := 1497) hx hb dL_law_1497 ?_
                                                      refine lv_if_eq (tgt := 1503) (pc := 1498) hx hb dL_law_1498 (by decide) (fun c1498 => ?_) (fun c1498 => ?_)
                                                      · replace h := h.1 c1498
                                                        refine lv_goto (tgt := 1673) (pc := 1503) hx hb dL_law_1503 (by decide) ?_
                                                        obtain ⟨v323, ev323⟩ : ∃ y : Int32, y = x4 + 6 := ⟨_, rfl⟩
                                                        replace h := h v323 ev323
                                                        refine lv_iinc (v := v323) (lv' := [(4, .int v323), (6, .int r317), (5, .int r313), (0, .ref sb), (1, .ref (b + 0)), (2, .ref (b + 276)), (3, .ref (b + 282))]) (pc := 1673) hx hb dL_law_1673 hl (k := 6) rfl (by rw [ev323]; rfl) (by decide) rfl (fun ls hl => ?_)
                                                        refine lv_goto (tgt := 23) (pc := 1676) hx hb dL_law_1676 (by decide) ?_
                                                        exact ih _ _ _ _ _ _ hk311 h hP hS (lv_sub hl [3, 4, 5, 6, 0] rfl)
                                                      · replace h := h.2 c1498
                                                        refine lv_iconst (v := 0) (pc := 1501) hx hb dL_law_1501 (by decide) ?_
                                                        exact h.elim
                                                  · replace h := h.2 c1481
                                                    refine lv_iconst (v := 0) (pc := 1484) hx hb dL_law_1484 (by decide) ?_
                                                    exact h.elim
                                                · replace h := h.2 n40_21
                                                  by_cases n40_22 : ((xs x4.toNatClampNeg) &&& 31) = 22
                                                  · replace h := h.1 n40_22
                                                    refine m_case (v := 22) (off := 1466) (tgt := 1506) (pc := 40) hx hb n40_22 dL_law_40 (by decide) (by decide) (by decide) (by decide) ?_
                                                    refine lv_aload_n (pc := 1506) hx hb dL_law_1506 rfl (lv_at hl 1 rfl) ?_
                                                    refine lv_aload_n (pc := 1507) hx hb dL_law_1507 rfl (lv_at hl 0 rfl) ?_
                                                    refine lv_iload (pc := 1508) hx hb dL_law_1508 (lv_at hl 4 rfl) ?_
                                                    refine lv_iconst (v := 1) (pc := 1510) hx hb dL_law_1510 (by decide) ?_
                                                    refine lv_iadd (pc := 1511) hx hb dL_law_1511 ?_
                                                    obtain ⟨hi324, h⟩ := h
                                                    refine va_sld (pc := 1512) hx hb hX hbl hbA hS hi324 dL_law_1512 ?_
                                                    refine lv_aload_n (pc := 1513) hx hb dL_law_1513 rfl (lv_at hl 3 rfl) ?_
                                                    obtain ⟨hk325, h⟩ := h
                                                    refine m_callY (pc := 1514) (y := yL_ifRush) (np := 3) (As := [.ref (b + 0), .int (xs (x4 + 1).toNatClampNeg), .ref (b + 282)]) (rest := []) C hK hZ hP hS hl.1 ⟨Nat.le_trans hk325 (Nat.le_of_ble_eq_true rfl), Nat.le_trans (Nat.add_le_add_left (by decide : 6 ≤ 1000) _) (Nat.le_trans (Nat.mul_le_mul_left 1000 hk325) (Nat.le_of_ble_eq_true rfl))⟩ (c_L_ifRush hlt h) rfl rfl q_904 q_905 q_0 q_906 ⟨rfl, rfl⟩ yd_L_ifRush ⟨Nat.le_of_ble_eq_true rfl, Nat.le_of_ble_eq_true rfl⟩ (Nat.le_of_ble_eq_true rfl) dL_law_1514 (fun v9 M326 H locs hv9 hP hS => ?_)
                                                    obtain ⟨r327, rfl, h⟩ := hv9
                                                    refine W.widen (k := (k + 1)) (n := 1000 * (k + 1)) (Nat.le_refl _) (by omega) ?_
                                                    refine lv_istore (lv' := [(5, .int r327), (0, .ref sb), (1, .ref (b + 0)), (2, .ref (b + 276)), (3, .ref (b + 282)), (4, .int x4)]) (pc := 1517) hx hb dL_law_1517 hl (by decide) rfl (fun ls hl => ?_)
                                                    refine lv_aload_n (pc := 1519) hx hb dL_law_1519 rfl (lv_at hl 3 rfl) ?_
                                                    refine lv_aload_n (pc := 1520) hx hb dL_law_1520 rfl (lv_at hl 1 rfl) ?_
                                                    refine lv_iload (pc := 1521) hx hb dL_law_1521 (lv_at hl 5 rfl) ?_
                                                    refine lv_iconst (v := 1) (pc := 1523) hx hb dL_law_1523 (by decide) ?_
                                                    refine lv_iadd (pc := 1524) hx hb dL_law_1524 ?_
                                                    obtain ⟨hi328, h⟩ := h
                                                    refine va_sld (pc := 1525) hx hb hX hbl hbA hS hi328 dL_law_1525 ?_
                                                    obtain ⟨hk330, h⟩ := h
                                                    refine m_callVI (pc := 1526) (y := yX7_ifRush) (κ := 7) (As := [.int (xs (x4 + 1).toNatClampNeg)]) (rest := []) C hK hP hS hl.1 ⟨Nat.le_trans hk325 (Nat.le_of_ble_eq_true rfl), Nat.le_trans (Nat.mul_le_mul_left 1000 hk325) (Nat.le_of_ble_eq_true rfl)⟩ (c_X7_ifRush h) rfl rfl hk330 (by decide) rfl q_1278 q_1279 q_1280 q_8 q_1281 ⟨rfl, rfl⟩ yd_X7_ifRush ⟨Nat.le_of_ble_eq_true rfl, Nat.le_of_ble_eq_true rfl⟩ (Nat.le_of_ble_eq_true rfl) dL_law_1526 (fun r331 M329 H locs h hP hS => ?_)
                                                    refine lv_istore (lv' := [(6, .int r331), (5, .int r327), (0, .ref sb), (1, .ref (b + 0)), (2, .ref (b + 276)), (3, .ref (b + 282)), (4, .int x4)]) (pc := 1529) hx hb dL_law_1529 hl (by decide) rfl (fun ls hl => ?_)
                                                    refine lv_aload_n (pc := 1531) hx hb dL_law_1531 rfl (lv_at hl 4 rfl) ?_
                                                    refine m_callVI (pc := 1532) (y := yX7_thrown) (κ := 7) (As := []) (rest := []) C hK hP hS hl.1 ⟨Nat.le_trans hk325 (Nat.le_of_ble_eq_true rfl), Nat.le_trans (Nat.mul_le_mul_left 1000 hk325) (Nat.le_of_ble_eq_true rfl)⟩ (c_X7_thrown h) rfl rfl hk330 (by decide) rfl q_962 q_963 q_964 q_8 q_965 ⟨rfl, rfl⟩ yd_X7_thrown ⟨Nat.le_of_ble_eq_true rfl, Nat.le_of_ble_eq_true rfl⟩ (Nat.le_of_ble_eq_true rfl) dL_law_1532 (fun r333 M332 H locs h hP hS => ?_)
                                                    refine lv_iload (pc := 1535) hx hb dL_law_1535 (lv_at hl 1 rfl) ?_
                                                    refine lv_icmp_eq (tgt := 1542) (pc := 1537) hx hb dL_law_1537 (by decide) (fun c1537 => ?_) (fun c1537 => ?_)
                                                    · replace h := h.1 c1537
                                                      refine lv_iload (pc := 1542) hx hb dL_law_1542 (lv_at hl 1 rfl) ?_
                                                      refine lv_if_ne (tgt := 1559) (pc := 1544) hx hb dL_law_1544 (by decide) (fun c1544 => ?_) (fun c1544 => ?_)
                                                      · replace h := h.1 c1544
                                                        refine lv_goto (tgt := 1673) (pc := 1559) hx hb dL_law_1559 (by decide) ?_
                                                        obtain ⟨v334, ev334⟩ : ∃ y : Int32, y = x4 + 6 := ⟨_, rfl⟩
                                                        replace h := h v334 ev334
                                                        refine lv_iinc (v := v334) (lv' := [(4, .int v334), (6, .int r331), (5, .int r327), (0, .ref sb), (1, .ref (b + 0)), (2, .ref (b + 276)), (3, .ref (b + 282))]) (pc := 1673) hx hb dL_law_1673 hl (k := 6) rfl (by rw [ev334]; rfl) (by decide) rfl (fun ls hl => ?_)
                                                        refine lv_goto (tgt := 23) (pc := 1676) hx hb dL_law_1676 (by decide) ?_
                                                        exact ih _ _ _ _ _ _ hk325 h hP hS (lv_sub hl [3, 4, 5, 6, 0] rfl)
                                                      · replace h := h.2 c1544
                                                        refine lv_aload_n (pc := 1547) hx hb dL_law_1547 rfl (lv_at hl 5 rfl) ?_
                                                        refine lv_iconst (v := 0) (pc := 1548) hx hb dL_law_1548 (by decide) ?_
                                                        obtain ⟨hk335, h⟩ := h
                                                        obtain ⟨hi336, h⟩ := h
                                                        refine m_lald (pc := 1549) C hK hP hk335 hi336 dL_law_1549 ?_
                                                        refine lv_iload (pc := 1550) hx hb dL_law_1550 (lv_at hl 0 rfl) ?_
                                                        refine lv_i2l (pc := 1552) hx hb dL_law_1552 rfl ?_
                                                        refine W.lcmp (pc := 1553) hx hb dL_law_1553 ?_
                                                        refine lv_if_eq (tgt := 1559) (pc := 1554) hx hb dL_law_1554 (by decide) (fun c1554 => ?_) (fun c1554 => ?_)
                                                        · replace h := h.1 c1554
                                                          refine lv_goto (tgt := 1673) (pc := 1559) hx hb dL_law_1559 (by decide) ?_
                                                          obtain ⟨v337, ev337⟩ : ∃ y : Int32, y = x4 + 6 := ⟨_, rfl⟩
                                                          replace h := h v337 ev337
                                                          refine lv_iinc (v := v337) (lv' := [(4, .int v337), (6, .int r331), (5, .int r327), (0, .ref sb), (1, .ref (b + 0)), (2, .ref (b + 276)), (3, .ref (b + 282))]) (pc := 1673) hx hb dL_law_1673 hl (k := 6) rfl (by rw [ev337]; rfl) (by decide) rfl (fun ls hl => ?_)
                                                          refine lv_goto (tgt := 23) (pc := 1676) hx hb dL_law_1676 (by decide) ?_
                                                          exact ih _ _ _ _ _ _ hk325 h hP hS (lv_sub hl [3, 4, 5, 6, 0] rfl)
                                                        · replace h := h.2 c1554
                                                          refine lv_iconst (v := 0) (pc := 1557) hx hb dL_law_1557 (by decide) ?_
                                                          exact h.elim
                                                    · replace h := h.2 c1537
                                                      refine lv_iconst (v := 0) (pc := 1540) hx hb dL_law_1540 (by decide) ?_
                                                      exact h.elim
                                                  · replace h := h.2 n40_22
                                                    by_cases n40_23 : ((xs x4.toNatClampNeg) &&& 31) = 23
                                                    · replace h := h.1 n40_23
                                                      refine m_case (v := 23) (off := 1522) (tgt := 1562) (pc := 40) hx hb n40_23 dL_law_40 (by decide) (by decide) (by decide) (by decide) ?_
                                                      refine lv_aload_n (pc := 1562) hx hb dL_law_1562 rfl (lv_at hl 1 rfl) ?_
                                                      refine lv_aload_n (pc := 1563) hx hb dL_law_1563 rfl (lv_at hl 0 rfl) ?_
                                                      refine lv_iload (pc := 1564) hx hb dL_law_1564 (lv_at hl 4 rfl) ?_
                                                      refine lv_iconst (v := 1) (pc := 1566) hx hb dL_law_1566 (by decide) ?_
                                                      refine lv_iadd (pc := 1567) hx hb dL_law_1567 ?_
                                                      obtain ⟨hi338, h⟩ := h
                                                      refine va_sld (pc := 1568) hx hb hX hbl hbA hS hi338 dL_law_1568 ?_
                                                      refine lv_aload_n (pc := 1569) hx hb dL_law_1569 rfl (lv_at hl 3 rfl) ?_
                                                      obtain ⟨hk339, h⟩ := h
                                                      refine m_callY (pc := 1570) (y := yL_bestReheats) (np := 3) (As := [.ref (b + 0), .int (xs (x4 + 1).toNatClampNeg), .ref (b + 282)]) (rest := []) C hK hZ hP hS hl.1 ⟨Nat.le_trans hk339 (Nat.le_of_ble_eq_true rfl), Nat.le_trans (Nat.add_le_add_left (by decide : 6 ≤ 1000) _) (Nat.le_trans (Nat.mul_le_mul_left 1000 hk339) (Nat.le_of_ble_eq_true rfl))⟩ (c_L_bestReheats hlt h) rfl rfl q_911 q_912 q_0 q_913 ⟨rfl, rfl⟩ yd_L_bestReheats ⟨Nat.le_of_ble_eq_true rfl, Nat.le_of_ble_eq_true rfl⟩ (Nat.le_of_ble_eq_true rfl) dL_law_1570 (fun v9 M340 H locs hv9 hP hS => ?_)
                                                      obtain ⟨r341, rfl, h⟩ := hv9
                                                      refine W.widen (k := (k + 1)) (n := 1000 * (k + 1)) (Nat.le_refl _) (by omega) ?_
                                                      refine lv_istore (lv' := [(5, .int r341), (0, .ref sb), (1, .ref (b + 0)), (2, .ref (b + 276)), (3, .ref (b + 282)), (4, .int x4)]) (pc := 1573) hx hb dL_law_1573 hl (by decide) rfl (fun ls hl => ?_)
                                                      refine lv_aload_n (pc := 1575) hx hb dL_law_1575 rfl (lv_at hl 3 rfl) ?_
                                                      refine lv_aload_n (pc := 1576) hx hb dL_law_1576 rfl (lv_at hl 1 rfl) ?_
                                                      refine lv_iload (pc := 1577) hx hb dL_law_1577 (lv_at hl 5 rfl) ?_
                                                      refine lv_iconst (v := 1) (pc := 1579) hx hb dL_law_1579 (by decide) ?_
                                                      refine lv_iadd (pc := 1580) hx hb dL_law_1580 ?_
                                                      obtain ⟨hi342, h⟩ := h
                                                      refine va_sld (pc := 1581) hx hb hX hbl hbA hS hi342 dL_law_1581 ?_
                                                      obtain ⟨hk344, h⟩ := h
                                                      refine m_callVI (pc := 1582) (y := yX7_bestReheats) (κ := 7) (As := [.int (xs (x4 + 1).toNatClampNeg)]) (rest := []) C hK hP hS hl.1 ⟨Nat.le_trans hk339 (Nat.le_of_ble_eq_true rfl), Nat.le_trans (Nat.mul_le_mul_left 1000 hk339) (Nat.le_of_ble_eq_true rfl)⟩ (c_X7_bestReheats h) rfl rfl hk344 (by decide) rfl q_1286 q_1287 q_1288 q_8 q_1289 ⟨rfl, rfl⟩ yd_X7_bestReheats ⟨Nat.le_of_ble_eq_true rfl, Nat.le_of_ble_eq_true rfl⟩ (Nat.le_of_ble_eq_true rfl) dL_law_1582 (fun r345 M343 H locs h hP hS => ?_)
                                                      refine lv_istore (lv' := [(6, .int r345), (5, .int r341), (0, .ref sb), (1, .ref (b + 0)), (2, .ref (b + 276)), (3, .ref (b + 282)), (4, .int x4)]) (pc := 1585) hx hb dL_law_1585 hl (by decide) rfl (fun ls hl => ?_)
                                                      refine lv_aload_n (pc := 1587) hx hb dL_law_1587 rfl (lv_at hl 4 rfl) ?_
                                                      refine m_callVI (pc := 1588) (y := yX7_thrown) (κ := 7) (As := []) (rest := []) C hK hP hS hl.1 ⟨Nat.le_trans hk339 (Nat.le_of_ble_eq_true rfl), Nat.le_trans (Nat.mul_le_mul_left 1000 hk339) (Nat.le_of_ble_eq_true rfl)⟩ (c_X7_thrown h) rfl rfl hk344 (by decide) rfl q_962 q_963 q_964 q_8 q_965 ⟨rfl, rfl⟩ yd_X7_thrown ⟨Nat.le_of_ble_eq_true rfl, Nat.le_of_ble_eq_true rfl⟩ (Nat.le_of_ble_eq_true rfl) dL_law_1588 (fun r347 M346 H locs h hP hS => ?_)
                                                      refine lv_iload (pc := 1591) hx hb dL_law_1591 (lv_at hl 1 rfl) ?_
                                                      refine lv_icmp_eq (tgt := 1598) (pc := 1593) hx hb dL_law_1593 (by decide) (fun c1593 => ?_) (fun c1593 => ?_)
                                                      · replace h := h.1 c1593
                                                        refine lv_iload (pc := 1598) hx hb dL_law_1598 (lv_at hl 1 rfl) ?_
                                                        refine lv_if_ne (tgt := 1615) (pc := 1600) hx hb dL_law_1600 (by decide) (fun c1600 => ?_) (fun c1600 => ?_)
                                                        · replace h := h.1 c1600
                                                          refine lv_goto (tgt := 1673) (pc := 1615) hx hb dL_law_1615 (by decide) ?_
                                                          obtain ⟨v348, ev348⟩ : ∃ y : Int32, y = x4 + 6 := ⟨_, rfl⟩
                                                          replace h := h v348 ev348
                                                          refine lv_iinc (v := v348) (lv' := [(4, .int v348), (6, .int r345), (5, .int r341), (0, .ref sb), (1, .ref (b + 0)), (2, .ref (b + 276)), (3, .ref (b + 282))]) (pc := 1673) hx hb dL_law_1673 hl (k := 6) rfl (by rw [ev348]; rfl) (by decide) rfl (fun ls hl => ?_)
                                                          refine lv_goto (tgt := 23) (pc := 1676) hx hb dL_law_1676 (by decide) ?_
                                                          exact ih _ _ _ _ _ _ hk339 h hP hS (lv_sub hl [3, 4, 5, 6, 0] rfl)
                                                        · replace h := h.2 c1600
                                                          refine lv_aload_n (pc := 1603) hx hb dL_law_1603 rfl (lv_at hl 5 rfl) ?_
                                                          refine lv_iconst (v := 0) (pc := 1604) hx hb dL_law_1604 (by decide) ?_
                                                          obtain ⟨hk349, h⟩ := h
                                                          obtain ⟨hi350, h⟩ := h
                                                          refine m_lald (pc := 1605) C hK hP hk349 hi350 dL_law_1605 ?_
                                                          refine lv_iload (pc := 1606) hx hb dL_law_1606 (lv_at hl 0 rfl) ?_
                                                          refine lv_i2l (pc := 1608) hx hb dL_law_1608 rfl ?_
                                                          refine W.lcmp (pc := 1609) hx hb dL_law_1609 ?_
                                                          refine lv_if_eq (tgt := 1615) (pc := 1610) hx hb dL_law_1610 (by decide) (fun c1610 => ?_) (fun c1610 => ?_)
                                                          · replace h := h.1 c1610
                                                            refine lv_goto (tgt := 1673) (pc := 1615) hx hb dL_law_1615 (by decide) ?_
                                                            obtain ⟨v351, ev351⟩ : ∃ y : Int32, y = x4 + 6 := ⟨_, rfl⟩
                                                            replace h := h v351 ev351
                                                            refine lv_iinc (v := v351) (lv' := [(4, .int v351), (6, .int r345), (5, .int r341), (0, .ref sb), (1, .ref (b + 0)), (2, .ref (b + 276)), (3, .ref (b + 282))]) (pc := 1673) hx hb dL_law_1673 hl (k := 6) rfl (by rw [ev351]; rfl) (by decide) rfl (fun ls hl => ?_)
                                                            refine lv_goto (tgt := 23) (pc := 1676) hx hb dL_law_1676 (by decide) ?_
                                                            exact ih _ _ _ _ _ _ hk339 h hP hS (lv_sub hl [3, 4, 5, 6, 0] rfl)
                                                          · replace h := h.2 c1610
                                                            refine lv_iconst (v := 0) (pc := 1613) hx hb dL_law_1613 (by decide) ?_
                                                            exact h.elim
                                                      · replace h := h.2 c1593
                                                        refine lv_iconst (v := 0) (pc := 1596) hx hb dL_law_1596 (by decide) ?_
                                                        exact h.elim
                                                    · replace h := h.2 n40_23
                                                      by_cases n40_24 : ((xs x4.toNatClampNeg) &&& 31) = 24
                                                      · replace h := h.1 n40_24
                                                        refine m_case (v := 24) (off := 1578) (tgt := 1618) (pc := 40) hx hb n40_24 dL_law_40 (by decide) (by decide) (by decide) (by decide) ?_
                                                        refine lv_aload_n (pc := 1618) hx hb dL_law_1618 rfl (lv_at hl 1 rfl) ?_
                                                        obtain ⟨hk353, h⟩ := h
                                                        refine m_callVD (pc := 1619) (y := yX6_saved) (κ := 6) (As := []) (rest := []) C hK hP hS hl.1 ⟨Nat.le_trans hk (Nat.le_of_ble_eq_true rfl), Nat.le_trans (Nat.mul_le_mul_left 1000 hk) (Nat.le_of_ble_eq_true rfl)⟩ (c_X6_saved h) rfl rfl hk353 (by decide) rfl q_329 q_330 q_331 q_1 q_332 ⟨rfl, rfl⟩ yd_X6_saved ⟨Nat.le_of_ble_eq_true rfl, Nat.le_of_ble_eq_true rfl⟩ (Nat.le_of_ble_eq_true rfl) dL_law_1619 (fun r354 M352 H locs h hP hS => ?_)
                                                        refine lv_dstore (lv' := [(5, .double r354), (0, .ref sb), (1, .ref (b + 0)), (2, .ref (b + 276)), (3, .ref (b + 282)), (4, .int x4)]) (pc := 1622) hx hb dL_law_1622 hl (by decide) rfl (fun ls hl => ?_)
                                                        refine lv_aload_n (pc := 1624) hx hb dL_law_1624 rfl (lv_at hl 3 rfl) ?_
                                                        obtain ⟨hk356, h⟩ := h
                                                        refine m_callVD (pc := 1625) (y := yX7_saved) (κ := 7) (As := []) (rest := []) C hK hP hS hl.1 ⟨Nat.le_trans hk (Nat.le_of_ble_eq_true rfl), Nat.le_trans (Nat.mul_le_mul_left 1000 hk) (Nat.le_of_ble_eq_true rfl)⟩ (c_X7_saved h) rfl rfl hk356 (by decide) rfl q_1294 q_1295 q_1296 q_8 q_1297 ⟨rfl, rfl⟩ yd_X7_saved ⟨Nat.le_of_ble_eq_true rfl, Nat.le_of_ble_eq_true rfl⟩ (Nat.le_of_ble_eq_true rfl) dL_law_1625 (fun r357 M355 H locs h hP hS => ?_)
                                                        refine lv_dstore (lv' := [(7, .double r357), (5, .double r354), (0, .ref sb), (1, .ref (b + 0)), (2, .ref (b + 276)), (3, .ref (b + 282)), (4, .int x4)]) (pc := 1628) hx hb dL_law_1628 hl (by decide) rfl (fun ls hl => ?_)
                                                        refine lv_dload (pc := 1630) hx hb dL_law_1630 (lv_at hl 1 rfl) ?_
                                                        refine lv_dload (pc := 1632) hx hb dL_law_1632 (lv_at hl 0 rfl) ?_
                                                        refine lv_dcmp (pc := 1634) hx hb dL_law_1634 ?_
                                                        refine lv_if_eq (tgt := 1656) (pc := 1635) hx hb dL_law_1635 (by decide) (fun c1635 => ?_) (fun c1635 => ?_)
                                                        · replace h := h.1 c1635
                                                          refine lv_goto (tgt := 1673) (pc := 1656) hx hb dL_law_1656 (by decide) ?_
                                                          obtain ⟨v358, ev358⟩ : ∃ y : Int32, y = x4 + 6 := ⟨_, rfl⟩
                                                          replace h := h v358 ev358
                                                          refine lv_iinc (v := v358) (lv' := [(4, .int v358), (7, .double r357), (5, .double r354), (0, .ref sb), (1, .ref (b + 0)), (2, .ref (b + 276)), (3, .ref (b + 282))]) (pc := 1673) hx hb dL_law_1673 hl (k := 6) rfl (by rw [ev358]; rfl) (by decide) rfl (fun ls hl => ?_)
                                                          refine lv_goto (tgt := 23) (pc := 1676) hx hb dL_law_1676 (by decide) ?_
                                                          exact ih _ _ _ _ _ _ hk h hP hS (lv_sub hl [3, 4, 5, 6, 0] rfl)
                                                        · replace h := h.2 c1635
                                                          refine lv_dload (pc := 1638) hx hb dL_law_1638 (lv_at hl 1 rfl) ?_
                                                          refine lv_dload (pc := 1640) hx hb dL_law_1640 (lv_at hl 1 rfl) ?_
                                                          refine lv_dcmp (pc := 1642) hx hb dL_law_1642 ?_
                                                          refine lv_if_eq (tgt := 1654) (pc := 1643) hx hb dL_law_1643 (by decide) (fun c1643 => ?_) (fun c1643 => ?_)
                                                          · replace h := h.1 c1643
                                                            refine lv_iconst (v := 0) (pc := 1654) hx hb dL_law_1654 (by decide) ?_
                                                            exact h.elim
                                                          · replace h := h.2 c1643
                                                            refine lv_dload (pc := 1646) hx hb dL_law_1646 (lv_at hl 0 rfl) ?_
                                                            refine lv_dload (pc := 1648) hx hb dL_law_1648 (lv_at hl 0 rfl) ?_
                                                            refine lv_dcmp (pc := 1650) hx hb dL_law_1650 ?_
                                                            refine lv_if_ne (tgt := 1656) (pc := 1651) hx hb dL_law_1651 (by decide) (fun c1651 => ?_) (fun c1651 => ?_)
                                                            · replace h := h.1 c1651
                                                              refine lv_goto (tgt := 1673) (pc := 1656) hx hb dL_law_1656 (by decide) ?_
                                                              obtain ⟨v359, ev359⟩ : ∃ y : Int32, y = x4 + 6 := ⟨_, rfl⟩
                                                              replace h := h v359 ev359
                                                              refine lv_iinc (v := v359) (lv' := [(4, .int v359), (7, .double r357), (5, .double r354), (0, .ref sb), (1, .ref (b + 0)), (2, .ref (b + 276)), (3, .ref (b + 282))]) (pc := 1673) hx hb dL_law_1673 hl (k := 6) rfl (by rw [ev359]; rfl) (by decide) rfl (fun ls hl => ?_)
                                                              refine lv_goto (tgt := 23) (pc := 1676) hx hb dL_law_1676 (by decide) ?_
                                                              exact ih _ _ _ _ _ _ hk h hP hS (lv_sub hl [3, 4, 5, 6, 0] rfl)
                                                            · replace h := h.2 c1651
                                                              refine lv_iconst (v := 0) (pc := 1654) hx hb dL_law_1654 (by decide) ?_
                                                              exact h.elim
                                                      · replace h := h.2 n40_24
                                                        by_cases n40_25 : ((xs x4.toNatClampNeg) &&& 31) = 25
                                                        · replace h := h.1 n40_25
                                                          refine m_case (v := 25) (off := 1619) (tgt := 1659) (pc := 40) hx hb n40_25 dL_law_40 (by decide) (by decide) (by decide) (by decide) ?_
                                                          refine lv_aload_n (pc := 1659) hx hb dL_law_1659 rfl (lv_at hl 1 rfl) ?_
                                                          obtain ⟨hk361, h⟩ := h
                                                          refine m_callVL (pc := 1660) (y := yX6_digest) (κ := 6) (As := []) (rest := []) C hK hP hS hl.1 ⟨Nat.le_trans hk (Nat.le_of_ble_eq_true rfl), Nat.le_trans (Nat.mul_le_mul_left 1000 hk) (Nat.le_of_ble_eq_true rfl)⟩ (c_X6_digest h) rfl rfl hk361 (by decide) rfl q_349 q_350 q_351 q_1 q_352 ⟨rfl, rfl⟩ yd_X6_digest ⟨Nat.le_of_ble_eq_true rfl, Nat.le_of_ble_eq_true rfl⟩ (Nat.le_of_ble_eq_true rfl) dL_law_1660 (fun r362 M360 H locs h hP hS => ?_)
                                                          refine lv_aload_n (pc := 1663) hx hb dL_law_1663 rfl (lv_at hl 2 rfl) ?_
                                                          obtain ⟨hk364, h⟩ := h
                                                          refine m_callVL (pc := 1664) (y := yX7_digest) (κ := 7) (As := []) (rest := [.long r362]) C hK hP hS hl.1 ⟨Nat.le_trans hk (Nat.le_of_ble_eq_true rfl), Nat.le_trans (Nat.mul_le_mul_left 1000 hk) (Nat.le_of_ble_eq_true rfl)⟩ (c_X7_digest h) rfl rfl hk364 (by decide) rfl q_1298 q_1299 q_1300 q_8 q_1301 ⟨rfl, rfl⟩ yd_X7_digest ⟨Nat.le_of_ble_eq_true rfl, Nat.le_of_ble_eq_true rfl⟩ (Nat.le_of_ble_eq_true rfl) dL_law_1664 (fun r365 M363 H locs h hP hS => ?_)
                                                          refine W.lcmp (pc := 1667) hx hb dL_law_1667 ?_
                                                          refine lv_if_eq (tgt := 1673) (pc := 1668) hx hb dL_law_1668 (by decide) (fun c1668 => ?_) (fun c1668 => ?_)
                                                          · replace h := h.1 c1668
                                                            obtain ⟨v366, ev366⟩ : ∃ y : Int32, y = x4 + 6 := ⟨_, rfl⟩
                                                            replace h := h v366 ev366
                                                            refine lv_iinc (v := v366) (lv' := [(4, .int v366), (0, .ref sb), (1, .ref (b + 0)), (2, .ref (b + 276)), (3, .ref (b + 282))]) (pc := 1673) hx hb dL_law_1673 hl (k := 4) rfl (by rw [ev366]; rfl) (by decide) rfl (fun ls hl => ?_)
                                                            refine lv_goto (tgt := 23) (pc := 1676) hx hb dL_law_1676 (by decide) ?_
                                                            exact ih _ _ _ _ _ _ hk h hP hS (lv_sub hl [1, 2, 3, 4, 0] rfl)
                                                          · replace h := h.2 c1668
                                                            refine lv_iconst (v := 0) (pc := 1671) hx hb dL_law_1671 (by decide) ?_
                                                            exact h.elim
                                                        · replace h := h.2 n40_25
                                                          refine lv_tableOut (tgt := 1673) (pc := 40) hx hb dL_law_40 (by have i0 := i_ne n40_0; have i1 := i_ne n40_1; have i2 := i_ne n40_2; have i3 := i_ne n40_3; have i4 := i_ne n40_4; have i5 := i_ne n40_5; have i6 := i_ne n40_6; have i7 := i_ne n40_7; have i8 := i_ne n40_8; have i9 := i_ne n40_9; have i10 := i_ne n40_10; have i11 := i_ne n40_11; have i12 := i_ne n40_12; have i13 := i_ne n40_13; have i14 := i_ne n40_14; have i15 := i_ne n40_15; have i16 := i_ne n40_16; have i17 := i_ne n40_17; have i18 := i_ne n40_18; have i19 := i_ne n40_19; have i20 := i_ne n40_20; have i21 := i_ne n40_21; have i22 := i_ne n40_22; have i23 := i_ne n40_23; have i24 := i_ne n40_24; have i25 := i_ne n40_25; simp only [m_lit] at *; omega) (by decide) ?_
                                                          obtain ⟨v367, ev367⟩ : ∃ y : Int32, y = x4 + 6 := ⟨_, rfl⟩
                                                          replace h := h v367 ev367
                                                          refine lv_iinc (v := v367) (lv' := [(4, .int v367), (0, .ref sb), (1, .ref (b + 0)), (2, .ref (b + 276)), (3, .ref (b + 282))]) (pc := 1673) hx hb dL_law_1673 hl (k := 4) rfl (by rw [ev367]; rfl) (by decide) rfl (fun ls hl => ?_)
                                                          refine lv_goto (tgt := 23) (pc := 1676) hx hb dL_law_1676 (by decide) ?_
                                                          exact ih _ _ _ _ _ _ hk h hP hS (lv_sub hl [1, 2, 3, 4, 0] rfl)
def wp_L_law (xs : Nat → Int32) (L : Nat) (f : Nat) (M : Mem) : Prop := 0 + 1 ≤ 6000 ∧ (m_kd (0 + 0) = 6 ∧ (∀ M1 : Mem, M1 = uN M (0 + 0) → (1 + 275 ≤ 6000 ∧ (wp_X6_init (0 + 1) M1 ((0 + 0)) (fun M3 => 276 + 1 ≤ 6000 ∧ (m_kd (0 + 276) = 7 ∧ (∀ M5 : Mem, M5 = uN M3 (0 + 276) → (277 + 5 ≤ 6000 ∧ (wp_X7_init (0 + 277) M5 ((0 + 276)) (fun M7 => 282 + 1 ≤ 6000 ∧ (m_kd (0 + 282) = 10 ∧ m_len (0 + 282) = 1 ∧ (∀ M9 : Mem, M9 = uN M7 (0 + 282) → (wpL_L_law_23 xs L f 283 M9 0)))))))))))))
set_option maxHeartbeats 16000000 in
set_option maxRecDepth 100000 in
theorem law_start {p : Program} {l : Launch} (hlt : l.stackTraces = false) {e : Env} {s : State} {m : MethodId} {below : List Frame} {meth : Method} {c : Code} {D : va_G} {cA : Nat → ClassId} {b sb L : Nat} {xs : Nat → Int32} (C0 : lw_At p s m meth c sb L xs) (hbs : s.heap.size = b) (hK : m_K D cA s) (hZ : m_Z b s) (hY : m_Y s) {f : Nat} {M : Mem} (h : wp_L_law xs L f M) (ls : Array Slot) (hl : lv_has ls 9 [(0, .ref sb)]) : W p l e room_1 s m #[Value.ref sb] below meth c s.heap [] 0 0 (lw_Z below #[Value.ref sb] s) (F0 m 0 ls []) := by
  have L23 := law_loop (e := e) (m := m) (below := below) hlt C0 hbs hK hZ
  obtain ⟨hx, hb, hr, hml, hown, hts, hX, hbl, hlocks, hgv⟩ := C0
  have hbA : ¬ m_A b sb := by
    show ¬ b ≤ sb
    omega
  have C : CallFix p m c cL_law 9 s #[Value.ref sb] lw_T RL := ⟨hx, hb, hml, hown, fun w hw => hts w (List.mem_filter.mp hw).1⟩
  have hB : s.heap.size = b + 0 := hbs
  have hS : va_S (m_A b) s.heap s.heap [] := va_S.rf
  have hP : m_H D cA b (0 + 0) M s.heap := ⟨fun k q h => by simp [m_ws] at h, by omega⟩
  show W p l e room_1 s m #[Value.ref sb] below meth c s.heap [] 0 (1000 * 0) (lw_Z below #[Value.ref sb] s) (F0 m 0 ls [])
  unfold wp_L_law at h
  obtain ⟨hk2, hkd, h⟩ := h
  refine m_newoN (pc := 0) (k := 0) (k' := 1) (κ := 6) C hK hP hS hB rfl hkd (by decide) rfl inT6 tyX6_ok (by decide) q_17 q_18 q_1 ⟨Nat.le_trans hk2 (Nat.le_of_ble_eq_true rfl), Nat.le_trans (Nat.mul_le_mul_left 1000 hk2) (Nat.le_of_ble_eq_true rfl)⟩ (Nat.le_of_ble_eq_true rfl) dL_law_0 (fun M1 H locs eM1 hP hS => ?_)
  replace h := h M1 eM1
  refine lv_dup (pc := 3) hx hb dL_law_3 rfl ?_
  obtain ⟨hk4, h⟩ := h
  refine m_callNN (pc := 4) (y := yX6_init) (k := 1) (kc := 275) (k' := 276) (As := []) (rest := [.ref (b + (0 + 0))]) C hK hY hP hS hB hl.1 ⟨Nat.le_trans hk4 (Nat.le_of_ble_eq_true rfl), Nat.le_trans (Nat.mul_le_mul_left 1000 hk4) (Nat.le_of_ble_eq_true rfl)⟩ rfl (c_X6_init h) rfl rfl q_19 q_20 rfl q_1 q_21 ⟨rfl, rfl⟩ yd_X6_init ⟨Nat.le_of_ble_eq_true rfl, Nat.le_of_ble_eq_true rfl⟩ (Nat.le_of_ble_eq_true rfl) dL_law_4 (fun M3 H locs h hP hS => ?_)
  refine lv_astore_n (lv' := [(1, .ref (b + (0 + 0))), (0, .ref sb)]) (pc := 7) hx hb dL_law_7 rfl hl (by decide) rfl (fun ls hl => ?_)
  obtain ⟨hk6, hkd, h⟩ := h
  refine m_newoN (pc := 8) (k := 276) (k' := 277) (κ := 7) C hK hP hS hB rfl hkd (by decide) rfl inT7 tyX7_ok (by decide) q_918 q_919 q_8 ⟨Nat.le_trans hk6 (Nat.le_of_ble_eq_true rfl), Nat.le_trans (Nat.mul_le_mul_left 1000 hk6) (Nat.le_of_ble_eq_true rfl)⟩ (Nat.le_of_ble_eq_true rfl) dL_law_8 (fun M5 H locs eM5 hP hS => ?_)
  replace h := h M5 eM5
  refine lv_dup (pc := 11) hx hb dL_law_11 rfl ?_
  obtain ⟨hk8, h⟩ := h
  refine m_callNN (pc := 12) (y := yX7_init) (k := 277) (kc := 5) (k' := 282) (As := []) (rest := [.ref (b + (0 + 276))]) C hK hY hP hS hB hl.1 ⟨Nat.le_trans hk8 (Nat.le_of_ble_eq_true rfl), Nat.le_trans (Nat.mul_le_mul_left 1000 hk8) (Nat.le_of_ble_eq_true rfl)⟩ rfl (c_X7_init h) rfl rfl q_920 q_921 rfl q_8 q_922 ⟨rfl, rfl⟩ yd_X7_init ⟨Nat.le_of_ble_eq_true rfl, Nat.le_of_ble_eq_true rfl⟩ (Nat.le_of_ble_eq_true rfl) dL_law_12 (fun M7 H locs h hP hS => ?_)
  refine lv_astore_n (lv' := [(2, .ref (b + (0 + 276))), (1, .ref (b + (0 + 0))), (0, .ref sb)]) (pc := 15) hx hb dL_law_15 rfl hl (by decide) rfl (fun ls hl => ?_)
  refine lv_iconst (v := 1) (pc := 16) hx hb dL_law_16 (by decide) ?_
  obtain ⟨hk10, ⟨hkd, hln, h⟩⟩ := h
  refine m_newarrN (pc := 17) (k := 282) (k' := 283) (κ := 10) (N := 1) (ty := .long) C hK hP hS hB rfl hkd (by decide) rfl rfl (fun _ => rfl) m_cell10 hln (by decide +kernel) (by decide) q_1323 ⟨Nat.le_trans hk10 (Nat.le_of_ble_eq_true rfl), Nat.le_trans (Nat.mul_le_mul_left 1000 hk10) (Nat.le_of_ble_eq_true rfl)⟩ (Nat.le_of_ble_eq_true rfl) dL_law_17 (fun M9 H locs eM9 hP hS => ?_)
  replace h := h M9 eM9
  refine lv_astore_n (lv' := [(3, .ref (b + (0 + 282))), (2, .ref (b + (0 + 276))), (1, .ref (b + (0 + 0))), (0, .ref sb)]) (pc := 19) hx hb dL_law_19 rfl hl (by decide) rfl (fun ls hl => ?_)
  refine lv_iconst (v := 0) (pc := 20) hx hb dL_law_20 (by decide) ?_
  refine lv_istore (lv' := [(4, .int 0), (3, .ref (b + (0 + 282))), (2, .ref (b + (0 + 276))), (1, .ref (b + (0 + 0))), (0, .ref sb)]) (pc := 21) hx hb dL_law_21 hl (by decide) rfl (fun ls hl => ?_)
  exact L23 f _ _ _ _ _ _ (by decide) h hP hS (lv_sub hl [4, 3, 2, 1, 0] rfl)
