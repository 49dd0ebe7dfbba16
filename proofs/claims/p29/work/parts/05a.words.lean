/-! The tables' words by their places; the fields; the calls. Laid by gen.py. -/
theorem lw_in {w : Cond} (i : Nat) (h : tables_1[i]? = some w) : w ∈ lw_tbl := List.mem_append_right _ (List.mem_of_getElem? h)
theorem lw_ins {w : Cond} (i : Nat) (h : (k2_sels lw_privs)[i]? = some w) : w ∈ lw_tbl := List.mem_append_left _ (List.mem_of_getElem? h)
theorem inT0 : ∀ w ∈ wsX00, w ∈ lw_T := fun w h => lw_T_of ((by decide +kernel : ∀ w ∈ wsX00, w ∈ lw_tbl) w h) ((by decide +kernel : ∀ w ∈ wsX00, goodWord w = true) w h)
theorem inT1 : ∀ w ∈ wsX10, w ∈ lw_T := fun w h => lw_T_of ((by decide +kernel : ∀ w ∈ wsX10, w ∈ lw_tbl) w h) ((by decide +kernel : ∀ w ∈ wsX10, goodWord w = true) w h)
theorem inT2 : ∀ w ∈ wsX20, w ∈ lw_T := fun w h => lw_T_of ((by decide +kernel : ∀ w ∈ wsX20, w ∈ lw_tbl) w h) ((by decide +kernel : ∀ w ∈ wsX20, goodWord w = true) w h)
theorem inT3 : ∀ w ∈ wsX30, w ∈ lw_T := fun w h => lw_T_of ((by decide +kernel : ∀ w ∈ wsX30, w ∈ lw_tbl) w h) ((by decide +kernel : ∀ w ∈ wsX30, goodWord w = true) w h)
theorem inT4 : ∀ w ∈ wsX40, w ∈ lw_T := fun w h => lw_T_of ((by decide +kernel : ∀ w ∈ wsX40, w ∈ lw_tbl) w h) ((by decide +kernel : ∀ w ∈ wsX40, goodWord w = true) w h)
theorem inT5 : ∀ w ∈ wsX50, w ∈ lw_T := fun w h => lw_T_of ((by decide +kernel : ∀ w ∈ wsX50, w ∈ lw_tbl) w h) ((by decide +kernel : ∀ w ∈ wsX50, goodWord w = true) w h)
theorem inT6 : ∀ w ∈ wsX60, w ∈ lw_T := fun w h => lw_T_of ((by decide +kernel : ∀ w ∈ wsX60, w ∈ lw_tbl) w h) ((by decide +kernel : ∀ w ∈ wsX60, goodWord w = true) w h)
theorem q_1 : (Jvm.Cond.initialized "ForgeHeats") ∈ lw_T := lw_T_of (lw_in 1 (by decide +kernel)) rfl
theorem q_2 : (Jvm.Cond.initialized "ForgeHeats$Shop") ∈ lw_T := lw_T_of (lw_in 2 (by decide +kernel)) rfl
theorem q_3 : (Jvm.Cond.initialized "ForgeHeats$Heat") ∈ lw_T := lw_T_of (lw_in 3 (by decide +kernel)) rfl
theorem q_4 : (Jvm.Cond.initialized "ForgeHeats$Die") ∈ lw_T := lw_T_of (lw_in 4 (by decide +kernel)) rfl
theorem q_5 : (Jvm.Cond.initialized "ForgeHeats$Job") ∈ lw_T := lw_T_of (lw_in 5 (by decide +kernel)) rfl
theorem q_6 : (Jvm.Cond.initialized "ForgeHeats$Billet") ∈ lw_T := lw_T_of (lw_in 6 (by decide +kernel)) rfl
theorem q_14 : (Jvm.Cond.initialized "java/lang/Math") ∈ lw_T := lw_T_of (lw_in 14 (by decide +kernel)) rfl
theorem q_36 : (Jvm.Cond.fieldLink "ForgeHeats$Heat" (16 : Nat) "ForgeHeats$Heat" "stock" "I") ∈ lw_T := lw_T_of (lw_in 36 (by decide +kernel)) rfl
theorem q_38 : (Jvm.Cond.fieldLink "ForgeHeats$Shop" (170 : Nat) "ForgeHeats$Heat" "stock" "I") ∈ lw_T := lw_T_of (lw_in 38 (by decide +kernel)) rfl
theorem q_39 : (Jvm.Cond.fieldLink "ForgeHeats$Heat" (7 : Nat) "ForgeHeats$Heat" "low" "I") ∈ lw_T := lw_T_of (lw_in 39 (by decide +kernel)) rfl
theorem q_41 : (Jvm.Cond.fieldLink "ForgeHeats$Shop" (173 : Nat) "ForgeHeats$Heat" "low" "I") ∈ lw_T := lw_T_of (lw_in 41 (by decide +kernel)) rfl
theorem q_42 : (Jvm.Cond.fieldLink "ForgeHeats$Heat" (13 : Nat) "ForgeHeats$Heat" "high" "I") ∈ lw_T := lw_T_of (lw_in 42 (by decide +kernel)) rfl
theorem q_44 : (Jvm.Cond.fieldLink "ForgeHeats$Shop" (176 : Nat) "ForgeHeats$Heat" "high" "I") ∈ lw_T := lw_T_of (lw_in 44 (by decide +kernel)) rfl
theorem q_45 : (Jvm.Cond.fieldLink "ForgeHeats$Heat" (19 : Nat) "ForgeHeats$Heat" "made" "I") ∈ lw_T := lw_T_of (lw_in 45 (by decide +kernel)) rfl
theorem q_46 : (Jvm.Cond.fieldLink "ForgeHeats$Shop" (169 : Nat) "ForgeHeats$Heat" "made" "I") ∈ lw_T := lw_T_of (lw_in 46 (by decide +kernel)) rfl
theorem q_47 : (Jvm.Cond.fieldLink "ForgeHeats$Heat" (22 : Nat) "ForgeHeats$Heat" "scrap" "I") ∈ lw_T := lw_T_of (lw_in 47 (by decide +kernel)) rfl
theorem q_48 : (Jvm.Cond.fieldLink "ForgeHeats$Shop" (162 : Nat) "ForgeHeats$Heat" "scrap" "I") ∈ lw_T := lw_T_of (lw_in 48 (by decide +kernel)) rfl
theorem q_67 : (Jvm.Cond.fieldLink "ForgeHeats$Die" (9 : Nat) "ForgeHeats$Die" "blows" "I") ∈ lw_T := lw_T_of (lw_in 67 (by decide +kernel)) rfl
theorem q_69 : (Jvm.Cond.fieldLink "ForgeHeats$Shop" (239 : Nat) "ForgeHeats$Die" "blows" "I") ∈ lw_T := lw_T_of (lw_in 69 (by decide +kernel)) rfl
theorem q_70 : (Jvm.Cond.fieldLink "ForgeHeats$Die" (15 : Nat) "ForgeHeats$Die" "limit" "I") ∈ lw_T := lw_T_of (lw_in 70 (by decide +kernel)) rfl
theorem q_72 : (Jvm.Cond.fieldLink "ForgeHeats$Die" (18 : Nat) "ForgeHeats$Die" "wear" "I") ∈ lw_T := lw_T_of (lw_in 72 (by decide +kernel)) rfl
theorem q_74 : (Jvm.Cond.fieldLink "ForgeHeats$Shop" (248 : Nat) "ForgeHeats$Die" "wear" "I") ∈ lw_T := lw_T_of (lw_in 74 (by decide +kernel)) rfl
theorem q_75 : (Jvm.Cond.fieldLink "ForgeHeats$Die" (21 : Nat) "ForgeHeats$Die" "toGo" "I") ∈ lw_T := lw_T_of (lw_in 75 (by decide +kernel)) rfl
theorem q_77 : (Jvm.Cond.fieldLink "ForgeHeats$Shop" (264 : Nat) "ForgeHeats$Die" "toGo" "I") ∈ lw_T := lw_T_of (lw_in 77 (by decide +kernel)) rfl
theorem q_78 : (Jvm.Cond.fieldLink "ForgeHeats$Die" (24 : Nat) "ForgeHeats$Die" "made" "I") ∈ lw_T := lw_T_of (lw_in 78 (by decide +kernel)) rfl
theorem q_79 : (Jvm.Cond.fieldLink "ForgeHeats$Shop" (254 : Nat) "ForgeHeats$Die" "made" "I") ∈ lw_T := lw_T_of (lw_in 79 (by decide +kernel)) rfl
theorem q_80 : (Jvm.Cond.fieldLink "ForgeHeats$Die" (27 : Nat) "ForgeHeats$Die" "timesGround" "I") ∈ lw_T := lw_T_of (lw_in 80 (by decide +kernel)) rfl
theorem q_101 : (Jvm.Cond.fieldLink "ForgeHeats$Job" (7 : Nat) "ForgeHeats$Job" "number" "I") ∈ lw_T := lw_T_of (lw_in 101 (by decide +kernel)) rfl
theorem q_102 : (Jvm.Cond.fieldLink "ForgeHeats$Shop" (122 : Nat) "ForgeHeats$Job" "number" "I") ∈ lw_T := lw_T_of (lw_in 102 (by decide +kernel)) rfl
theorem q_103 : (Jvm.Cond.fieldLink "ForgeHeats$Job" (13 : Nat) "ForgeHeats$Job" "die" "I") ∈ lw_T := lw_T_of (lw_in 103 (by decide +kernel)) rfl
theorem q_104 : (Jvm.Cond.fieldLink "ForgeHeats$Shop" (125 : Nat) "ForgeHeats$Job" "die" "I") ∈ lw_T := lw_T_of (lw_in 104 (by decide +kernel)) rfl
theorem q_105 : (Jvm.Cond.fieldLink "ForgeHeats$Job" (16 : Nat) "ForgeHeats$Job" "heat" "I") ∈ lw_T := lw_T_of (lw_in 105 (by decide +kernel)) rfl
theorem q_106 : (Jvm.Cond.fieldLink "ForgeHeats$Shop" (128 : Nat) "ForgeHeats$Job" "heat" "I") ∈ lw_T := lw_T_of (lw_in 106 (by decide +kernel)) rfl
theorem q_107 : (Jvm.Cond.fieldLink "ForgeHeats$Job" (19 : Nat) "ForgeHeats$Job" "pieces" "I") ∈ lw_T := lw_T_of (lw_in 107 (by decide +kernel)) rfl
theorem q_108 : (Jvm.Cond.fieldLink "ForgeHeats$Shop" (131 : Nat) "ForgeHeats$Job" "pieces" "I") ∈ lw_T := lw_T_of (lw_in 108 (by decide +kernel)) rfl
theorem q_109 : (Jvm.Cond.fieldLink "ForgeHeats$Job" (22 : Nat) "ForgeHeats$Job" "made" "I") ∈ lw_T := lw_T_of (lw_in 109 (by decide +kernel)) rfl
theorem q_110 : (Jvm.Cond.fieldLink "ForgeHeats$Shop" (134 : Nat) "ForgeHeats$Job" "made" "I") ∈ lw_T := lw_T_of (lw_in 110 (by decide +kernel)) rfl
theorem q_111 : (Jvm.Cond.fieldLink "ForgeHeats$Job" (25 : Nat) "ForgeHeats$Job" "due" "I") ∈ lw_T := lw_T_of (lw_in 111 (by decide +kernel)) rfl
theorem q_112 : (Jvm.Cond.fieldLink "ForgeHeats$Shop" (137 : Nat) "ForgeHeats$Job" "due" "I") ∈ lw_T := lw_T_of (lw_in 112 (by decide +kernel)) rfl
theorem q_113 : (Jvm.Cond.fieldLink "ForgeHeats$Job" (28 : Nat) "ForgeHeats$Job" "isRush" "Z") ∈ lw_T := lw_T_of (lw_in 113 (by decide +kernel)) rfl
theorem q_114 : (Jvm.Cond.fieldLink "ForgeHeats$Shop" (140 : Nat) "ForgeHeats$Job" "isRush" "Z") ∈ lw_T := lw_T_of (lw_in 114 (by decide +kernel)) rfl
theorem q_115 : (Jvm.Cond.fieldLink "ForgeHeats$Job" (32 : Nat) "ForgeHeats$Job" "billets" "I") ∈ lw_T := lw_T_of (lw_in 115 (by decide +kernel)) rfl
theorem q_116 : (Jvm.Cond.fieldLink "ForgeHeats$Shop" (144 : Nat) "ForgeHeats$Job" "billets" "I") ∈ lw_T := lw_T_of (lw_in 116 (by decide +kernel)) rfl
theorem q_141 : (Jvm.Cond.fieldLink "ForgeHeats$Billet" (9 : Nat) "ForgeHeats$Billet" "job" "I") ∈ lw_T := lw_T_of (lw_in 141 (by decide +kernel)) rfl
theorem q_142 : (Jvm.Cond.fieldLink "ForgeHeats$Shop" (159 : Nat) "ForgeHeats$Billet" "job" "I") ∈ lw_T := lw_T_of (lw_in 142 (by decide +kernel)) rfl
theorem q_143 : (Jvm.Cond.fieldLink "ForgeHeats$Billet" (15 : Nat) "ForgeHeats$Billet" "degrees" "I") ∈ lw_T := lw_T_of (lw_in 143 (by decide +kernel)) rfl
theorem q_144 : (Jvm.Cond.fieldLink "ForgeHeats$Shop" (204 : Nat) "ForgeHeats$Billet" "degrees" "I") ∈ lw_T := lw_T_of (lw_in 144 (by decide +kernel)) rfl
theorem q_145 : (Jvm.Cond.fieldLink "ForgeHeats$Billet" (18 : Nat) "ForgeHeats$Billet" "reheats" "I") ∈ lw_T := lw_T_of (lw_in 145 (by decide +kernel)) rfl
theorem q_146 : (Jvm.Cond.fieldLink "ForgeHeats$Shop" (238 : Nat) "ForgeHeats$Billet" "reheats" "I") ∈ lw_T := lw_T_of (lw_in 146 (by decide +kernel)) rfl
theorem q_147 : (Jvm.Cond.fieldLink "ForgeHeats$Billet" (21 : Nat) "ForgeHeats$Billet" "blows" "I") ∈ lw_T := lw_T_of (lw_in 147 (by decide +kernel)) rfl
theorem q_148 : (Jvm.Cond.fieldLink "ForgeHeats$Shop" (240 : Nat) "ForgeHeats$Billet" "blows" "I") ∈ lw_T := lw_T_of (lw_in 148 (by decide +kernel)) rfl
theorem q_158 : (Jvm.Cond.fieldLink "ForgeHeats$Shop" (26 : Nat) "ForgeHeats$Shop" "heats" "[LForgeHeats$Heat;") ∈ lw_T := lw_T_of (lw_in 158 (by decide +kernel)) rfl
theorem q_159 : (Jvm.Cond.fieldLink "ForgeHeats$Shop" (33 : Nat) "ForgeHeats$Shop" "dies" "[LForgeHeats$Die;") ∈ lw_T := lw_T_of (lw_in 159 (by decide +kernel)) rfl
theorem q_160 : (Jvm.Cond.fieldLink "ForgeHeats$Shop" (40 : Nat) "ForgeHeats$Shop" "jobs" "[LForgeHeats$Job;") ∈ lw_T := lw_T_of (lw_in 160 (by decide +kernel)) rfl
theorem q_161 : (Jvm.Cond.fieldLink "ForgeHeats$Shop" (47 : Nat) "ForgeHeats$Shop" "furnace" "[LForgeHeats$Billet;") ∈ lw_T := lw_T_of (lw_in 161 (by decide +kernel)) rfl
theorem q_162 : (Jvm.Cond.fieldLink "ForgeHeats$Shop" (52 : Nat) "ForgeHeats$Shop" "press" "LForgeHeats$Billet;") ∈ lw_T := lw_T_of (lw_in 162 (by decide +kernel)) rfl
theorem q_163 : (Jvm.Cond.fieldLink "ForgeHeats$Shop" (83 : Nat) "ForgeHeats$Shop" "jobCount" "I") ∈ lw_T := lw_T_of (lw_in 163 (by decide +kernel)) rfl
theorem q_164 : (Jvm.Cond.fieldLink "ForgeHeats" (113 : Nat) "ForgeHeats$Shop" "jobCount" "I") ∈ lw_T := lw_T_of (lw_in 164 (by decide +kernel)) rfl
theorem q_165 : (Jvm.Cond.fieldLink "ForgeHeats$Shop" (104 : Nat) "ForgeHeats$Shop" "nextNumber" "I") ∈ lw_T := lw_T_of (lw_in 165 (by decide +kernel)) rfl
theorem q_166 : (Jvm.Cond.fieldLink "ForgeHeats$Shop" (9 : Nat) "ForgeHeats$Shop" "warming" "I") ∈ lw_T := lw_T_of (lw_in 166 (by decide +kernel)) rfl
theorem q_167 : (Jvm.Cond.fieldLink "ForgeHeats$Shop" (15 : Nat) "ForgeHeats$Shop" "cooling" "I") ∈ lw_T := lw_T_of (lw_in 167 (by decide +kernel)) rfl
theorem q_168 : (Jvm.Cond.fieldLink "ForgeHeats$Shop" (18 : Nat) "ForgeHeats$Shop" "reheats" "I") ∈ lw_T := lw_T_of (lw_in 168 (by decide +kernel)) rfl
theorem q_169 : (Jvm.Cond.fieldLink "ForgeHeats$Shop" (21 : Nat) "ForgeHeats$Shop" "grinding" "I") ∈ lw_T := lw_T_of (lw_in 169 (by decide +kernel)) rfl
theorem q_171 : (Jvm.Cond.fieldLink "ForgeHeats$Shop" (107 : Nat) "ForgeHeats$Shop" "minutes" "I") ∈ lw_T := lw_T_of (lw_in 171 (by decide +kernel)) rfl
theorem q_172 : (Jvm.Cond.fieldLink "ForgeHeats" (154 : Nat) "ForgeHeats$Shop" "minutes" "I") ∈ lw_T := lw_T_of (lw_in 172 (by decide +kernel)) rfl
theorem q_173 : (Jvm.Cond.fieldLink "ForgeHeats$Shop" (110 : Nat) "ForgeHeats$Shop" "blows" "I") ∈ lw_T := lw_T_of (lw_in 173 (by decide +kernel)) rfl
theorem q_174 : (Jvm.Cond.fieldLink "ForgeHeats" (309 : Nat) "ForgeHeats$Shop" "blows" "I") ∈ lw_T := lw_T_of (lw_in 174 (by decide +kernel)) rfl
theorem q_175 : (Jvm.Cond.fieldLink "ForgeHeats$Shop" (113 : Nat) "ForgeHeats$Shop" "goneJobs" "I") ∈ lw_T := lw_T_of (lw_in 175 (by decide +kernel)) rfl
theorem q_176 : (Jvm.Cond.fieldLink "ForgeHeats" (310 : Nat) "ForgeHeats$Shop" "goneJobs" "I") ∈ lw_T := lw_T_of (lw_in 176 (by decide +kernel)) rfl
theorem q_177 : (Jvm.Cond.fieldLink "ForgeHeats$Shop" (116 : Nat) "ForgeHeats$Shop" "lateJobs" "I") ∈ lw_T := lw_T_of (lw_in 177 (by decide +kernel)) rfl
theorem q_178 : (Jvm.Cond.fieldLink "ForgeHeats" (313 : Nat) "ForgeHeats$Shop" "lateJobs" "I") ∈ lw_T := lw_T_of (lw_in 178 (by decide +kernel)) rfl
theorem q_179 : (Jvm.Cond.fieldLink "ForgeHeats$Shop" (119 : Nat) "ForgeHeats$Shop" "lateMinutes" "I") ∈ lw_T := lw_T_of (lw_in 179 (by decide +kernel)) rfl
theorem q_180 : (Jvm.Cond.fieldLink "ForgeHeats" (316 : Nat) "ForgeHeats$Shop" "lateMinutes" "I") ∈ lw_T := lw_T_of (lw_in 180 (by decide +kernel)) rfl
theorem q_181 : (Jvm.Cond.fieldLink "ForgeHeats$Shop" (56 : Nat) "ForgeHeats$Shop" "noHeat" "LForgeHeats$Heat;") ∈ lw_T := lw_T_of (lw_in 181 (by decide +kernel)) rfl
theorem q_182 : (Jvm.Cond.fieldLink "ForgeHeats$Shop" (60 : Nat) "ForgeHeats$Shop" "noDie" "LForgeHeats$Die;") ∈ lw_T := lw_T_of (lw_in 182 (by decide +kernel)) rfl
theorem q_183 : (Jvm.Cond.fieldLink "ForgeHeats$Shop" (64 : Nat) "ForgeHeats$Shop" "noJob" "LForgeHeats$Job;") ∈ lw_T := lw_T_of (lw_in 183 (by decide +kernel)) rfl
theorem q_251 : (Jvm.Cond.fieldLink "ForgeHeats" (10 : Nat) "ForgeHeats" "shop" "LForgeHeats$Shop;") ∈ lw_T := lw_T_of (lw_in 251 (by decide +kernel)) rfl
theorem q_253 : (Jvm.Cond.fieldLink "ForgeHeats" (19 : Nat) "ForgeHeats" "past" "[LForgeHeats$Shop;") ∈ lw_T := lw_T_of (lw_in 253 (by decide +kernel)) rfl
theorem q_254 : (Jvm.Cond.fieldLink "ForgeHeats" (212 : Nat) "ForgeHeats" "pastStates" "I") ∈ lw_T := lw_T_of (lw_in 254 (by decide +kernel)) rfl
theorem q_271 : (Jvm.Cond.methodLink "ForgeHeats" (215 : Nat) ({ cls := "ForgeHeats", name := "pastAt", desc := "(I)LForgeHeats$Shop;" } : Jvm.MethodName)) ∈ lw_T := lw_T_of (lw_in 271 (by decide +kernel)) rfl
theorem q_273 : (Jvm.Cond.instanceMethod ({ cls := "ForgeHeats", name := "pastAt", desc := "(I)LForgeHeats$Shop;" } : Jvm.MethodName)) ∈ lw_T := lw_T_of (lw_in 273 (by decide +kernel)) rfl
theorem q_274 : (Jvm.Cond.code ({ cls := "ForgeHeats", name := "pastAt", desc := "(I)LForgeHeats$Shop;" } : Jvm.MethodName) prog_1_method_33_code (2 : Nat) (Option.some (Jvm.ClassFile.FieldType.object "ForgeHeats$Shop"))) ∈ lw_T := lw_T_of (lw_in 274 (by decide +kernel)) rfl
theorem q_343 : (Jvm.Cond.methodLink "ForgeHeats" (221 : Nat) ({ cls := "ForgeHeats$Shop", name := "copyFrom", desc := "(LForgeHeats$Shop;)V" } : Jvm.MethodName)) ∈ lw_T := lw_T_of (lw_in 343 (by decide +kernel)) rfl
theorem q_344 : (Jvm.Cond.instanceMethod ({ cls := "ForgeHeats$Shop", name := "copyFrom", desc := "(LForgeHeats$Shop;)V" } : Jvm.MethodName)) ∈ lw_T := lw_T_of (lw_in 344 (by decide +kernel)) rfl
theorem q_345 : (Jvm.Cond.selects "ForgeHeats$Shop" ({ cls := "ForgeHeats$Shop", name := "copyFrom", desc := "(LForgeHeats$Shop;)V" } : Jvm.MethodName) ({ cls := "ForgeHeats$Shop", name := "copyFrom", desc := "(LForgeHeats$Shop;)V" } : Jvm.MethodName)) ∈ lw_T := lw_T_of (lw_in 345 (by decide +kernel)) rfl
theorem q_346 : (Jvm.Cond.code ({ cls := "ForgeHeats$Shop", name := "copyFrom", desc := "(LForgeHeats$Shop;)V" } : Jvm.MethodName) prog_7_method_2_code (3 : Nat) (Option.none : Option Jvm.ClassFile.FieldType)) ∈ lw_T := lw_T_of (lw_in 346 (by decide +kernel)) rfl
theorem q_347 : (Jvm.Cond.methodLink "ForgeHeats$Shop" (68 : Nat) ({ cls := "ForgeHeats$Shop", name := "heatAt", desc := "(I)LForgeHeats$Heat;" } : Jvm.MethodName)) ∈ lw_T := lw_T_of (lw_in 347 (by decide +kernel)) rfl
theorem q_348 : (Jvm.Cond.instanceMethod ({ cls := "ForgeHeats$Shop", name := "heatAt", desc := "(I)LForgeHeats$Heat;" } : Jvm.MethodName)) ∈ lw_T := lw_T_of (lw_in 348 (by decide +kernel)) rfl
theorem q_349 : (Jvm.Cond.selects "ForgeHeats$Shop" ({ cls := "ForgeHeats$Shop", name := "heatAt", desc := "(I)LForgeHeats$Heat;" } : Jvm.MethodName) ({ cls := "ForgeHeats$Shop", name := "heatAt", desc := "(I)LForgeHeats$Heat;" } : Jvm.MethodName)) ∈ lw_T := lw_T_of (lw_in 349 (by decide +kernel)) rfl
theorem q_350 : (Jvm.Cond.code ({ cls := "ForgeHeats$Shop", name := "heatAt", desc := "(I)LForgeHeats$Heat;" } : Jvm.MethodName) prog_7_method_4_code (3 : Nat) (Option.some (Jvm.ClassFile.FieldType.object "ForgeHeats$Heat"))) ∈ lw_T := lw_T_of (lw_in 350 (by decide +kernel)) rfl
theorem q_351 : (Jvm.Cond.methodLink "ForgeHeats$Shop" (72 : Nat) ({ cls := "ForgeHeats$Heat", name := "copyFrom", desc := "(LForgeHeats$Heat;)V" } : Jvm.MethodName)) ∈ lw_T := lw_T_of (lw_in 351 (by decide +kernel)) rfl
theorem q_352 : (Jvm.Cond.instanceMethod ({ cls := "ForgeHeats$Heat", name := "copyFrom", desc := "(LForgeHeats$Heat;)V" } : Jvm.MethodName)) ∈ lw_T := lw_T_of (lw_in 352 (by decide +kernel)) rfl
theorem q_353 : (Jvm.Cond.selects "ForgeHeats$Heat" ({ cls := "ForgeHeats$Heat", name := "copyFrom", desc := "(LForgeHeats$Heat;)V" } : Jvm.MethodName) ({ cls := "ForgeHeats$Heat", name := "copyFrom", desc := "(LForgeHeats$Heat;)V" } : Jvm.MethodName)) ∈ lw_T := lw_T_of (lw_in 353 (by decide +kernel)) rfl
theorem q_354 : (Jvm.Cond.code ({ cls := "ForgeHeats$Heat", name := "copyFrom", desc := "(LForgeHeats$Heat;)V" } : Jvm.MethodName) prog_4_method_2_code (2 : Nat) (Option.none : Option Jvm.ClassFile.FieldType)) ∈ lw_T := lw_T_of (lw_in 354 (by decide +kernel)) rfl
theorem q_355 : (Jvm.Cond.methodLink "ForgeHeats$Shop" (76 : Nat) ({ cls := "ForgeHeats$Shop", name := "dieAt", desc := "(I)LForgeHeats$Die;" } : Jvm.MethodName)) ∈ lw_T := lw_T_of (lw_in 355 (by decide +kernel)) rfl
theorem q_356 : (Jvm.Cond.instanceMethod ({ cls := "ForgeHeats$Shop", name := "dieAt", desc := "(I)LForgeHeats$Die;" } : Jvm.MethodName)) ∈ lw_T := lw_T_of (lw_in 356 (by decide +kernel)) rfl
theorem q_357 : (Jvm.Cond.selects "ForgeHeats$Shop" ({ cls := "ForgeHeats$Shop", name := "dieAt", desc := "(I)LForgeHeats$Die;" } : Jvm.MethodName) ({ cls := "ForgeHeats$Shop", name := "dieAt", desc := "(I)LForgeHeats$Die;" } : Jvm.MethodName)) ∈ lw_T := lw_T_of (lw_in 357 (by decide +kernel)) rfl
theorem q_358 : (Jvm.Cond.code ({ cls := "ForgeHeats$Shop", name := "dieAt", desc := "(I)LForgeHeats$Die;" } : Jvm.MethodName) prog_7_method_5_code (3 : Nat) (Option.some (Jvm.ClassFile.FieldType.object "ForgeHeats$Die"))) ∈ lw_T := lw_T_of (lw_in 358 (by decide +kernel)) rfl
theorem q_359 : (Jvm.Cond.methodLink "ForgeHeats$Shop" (80 : Nat) ({ cls := "ForgeHeats$Die", name := "copyFrom", desc := "(LForgeHeats$Die;)V" } : Jvm.MethodName)) ∈ lw_T := lw_T_of (lw_in 359 (by decide +kernel)) rfl
theorem q_360 : (Jvm.Cond.instanceMethod ({ cls := "ForgeHeats$Die", name := "copyFrom", desc := "(LForgeHeats$Die;)V" } : Jvm.MethodName)) ∈ lw_T := lw_T_of (lw_in 360 (by decide +kernel)) rfl
theorem q_361 : (Jvm.Cond.selects "ForgeHeats$Die" ({ cls := "ForgeHeats$Die", name := "copyFrom", desc := "(LForgeHeats$Die;)V" } : Jvm.MethodName) ({ cls := "ForgeHeats$Die", name := "copyFrom", desc := "(LForgeHeats$Die;)V" } : Jvm.MethodName)) ∈ lw_T := lw_T_of (lw_in 361 (by decide +kernel)) rfl
theorem q_362 : (Jvm.Cond.code ({ cls := "ForgeHeats$Die", name := "copyFrom", desc := "(LForgeHeats$Die;)V" } : Jvm.MethodName) prog_3_method_2_code (2 : Nat) (Option.none : Option Jvm.ClassFile.FieldType)) ∈ lw_T := lw_T_of (lw_in 362 (by decide +kernel)) rfl
theorem q_363 : (Jvm.Cond.methodLink "ForgeHeats$Shop" (86 : Nat) ({ cls := "ForgeHeats$Shop", name := "jobAt", desc := "(I)LForgeHeats$Job;" } : Jvm.MethodName)) ∈ lw_T := lw_T_of (lw_in 363 (by decide +kernel)) rfl
theorem q_364 : (Jvm.Cond.instanceMethod ({ cls := "ForgeHeats$Shop", name := "jobAt", desc := "(I)LForgeHeats$Job;" } : Jvm.MethodName)) ∈ lw_T := lw_T_of (lw_in 364 (by decide +kernel)) rfl
theorem q_365 : (Jvm.Cond.selects "ForgeHeats$Shop" ({ cls := "ForgeHeats$Shop", name := "jobAt", desc := "(I)LForgeHeats$Job;" } : Jvm.MethodName) ({ cls := "ForgeHeats$Shop", name := "jobAt", desc := "(I)LForgeHeats$Job;" } : Jvm.MethodName)) ∈ lw_T := lw_T_of (lw_in 365 (by decide +kernel)) rfl
theorem q_366 : (Jvm.Cond.code ({ cls := "ForgeHeats$Shop", name := "jobAt", desc := "(I)LForgeHeats$Job;" } : Jvm.MethodName) prog_7_method_6_code (3 : Nat) (Option.some (Jvm.ClassFile.FieldType.object "ForgeHeats$Job"))) ∈ lw_T := lw_T_of (lw_in 366 (by decide +kernel)) rfl
theorem q_367 : (Jvm.Cond.methodLink "ForgeHeats$Shop" (90 : Nat) ({ cls := "ForgeHeats$Job", name := "copyFrom", desc := "(LForgeHeats$Job;)V" } : Jvm.MethodName)) ∈ lw_T := lw_T_of (lw_in 367 (by decide +kernel)) rfl
theorem q_368 : (Jvm.Cond.instanceMethod ({ cls := "ForgeHeats$Job", name := "copyFrom", desc := "(LForgeHeats$Job;)V" } : Jvm.MethodName)) ∈ lw_T := lw_T_of (lw_in 368 (by decide +kernel)) rfl
theorem q_369 : (Jvm.Cond.selects "ForgeHeats$Job" ({ cls := "ForgeHeats$Job", name := "copyFrom", desc := "(LForgeHeats$Job;)V" } : Jvm.MethodName) ({ cls := "ForgeHeats$Job", name := "copyFrom", desc := "(LForgeHeats$Job;)V" } : Jvm.MethodName)) ∈ lw_T := lw_T_of (lw_in 369 (by decide +kernel)) rfl
theorem q_370 : (Jvm.Cond.code ({ cls := "ForgeHeats$Job", name := "copyFrom", desc := "(LForgeHeats$Job;)V" } : Jvm.MethodName) prog_5_method_2_code (2 : Nat) (Option.none : Option Jvm.ClassFile.FieldType)) ∈ lw_T := lw_T_of (lw_in 370 (by decide +kernel)) rfl
theorem q_371 : (Jvm.Cond.methodLink "ForgeHeats$Shop" (93 : Nat) ({ cls := "ForgeHeats$Shop", name := "billetAt", desc := "(I)LForgeHeats$Billet;" } : Jvm.MethodName)) ∈ lw_T := lw_T_of (lw_in 371 (by decide +kernel)) rfl
theorem q_372 : (Jvm.Cond.instanceMethod ({ cls := "ForgeHeats$Shop", name := "billetAt", desc := "(I)LForgeHeats$Billet;" } : Jvm.MethodName)) ∈ lw_T := lw_T_of (lw_in 372 (by decide +kernel)) rfl
theorem q_373 : (Jvm.Cond.selects "ForgeHeats$Shop" ({ cls := "ForgeHeats$Shop", name := "billetAt", desc := "(I)LForgeHeats$Billet;" } : Jvm.MethodName) ({ cls := "ForgeHeats$Shop", name := "billetAt", desc := "(I)LForgeHeats$Billet;" } : Jvm.MethodName)) ∈ lw_T := lw_T_of (lw_in 373 (by decide +kernel)) rfl
theorem q_374 : (Jvm.Cond.code ({ cls := "ForgeHeats$Shop", name := "billetAt", desc := "(I)LForgeHeats$Billet;" } : Jvm.MethodName) prog_7_method_7_code (3 : Nat) (Option.some (Jvm.ClassFile.FieldType.object "ForgeHeats$Billet"))) ∈ lw_T := lw_T_of (lw_in 374 (by decide +kernel)) rfl
theorem q_375 : (Jvm.Cond.methodLink "ForgeHeats$Shop" (97 : Nat) ({ cls := "ForgeHeats$Billet", name := "copyFrom", desc := "(LForgeHeats$Billet;)V" } : Jvm.MethodName)) ∈ lw_T := lw_T_of (lw_in 375 (by decide +kernel)) rfl
theorem q_376 : (Jvm.Cond.instanceMethod ({ cls := "ForgeHeats$Billet", name := "copyFrom", desc := "(LForgeHeats$Billet;)V" } : Jvm.MethodName)) ∈ lw_T := lw_T_of (lw_in 376 (by decide +kernel)) rfl
theorem q_377 : (Jvm.Cond.selects "ForgeHeats$Billet" ({ cls := "ForgeHeats$Billet", name := "copyFrom", desc := "(LForgeHeats$Billet;)V" } : Jvm.MethodName) ({ cls := "ForgeHeats$Billet", name := "copyFrom", desc := "(LForgeHeats$Billet;)V" } : Jvm.MethodName)) ∈ lw_T := lw_T_of (lw_in 377 (by decide +kernel)) rfl
theorem q_378 : (Jvm.Cond.code ({ cls := "ForgeHeats$Billet", name := "copyFrom", desc := "(LForgeHeats$Billet;)V" } : Jvm.MethodName) prog_2_method_2_code (2 : Nat) (Option.none : Option Jvm.ClassFile.FieldType)) ∈ lw_T := lw_T_of (lw_in 378 (by decide +kernel)) rfl
theorem q_379 : (Jvm.Cond.methodLink "ForgeHeats$Shop" (100 : Nat) ({ cls := "ForgeHeats$Shop", name := "copyNumbersFrom", desc := "(LForgeHeats$Shop;)V" } : Jvm.MethodName)) ∈ lw_T := lw_T_of (lw_in 379 (by decide +kernel)) rfl
theorem q_381 : (Jvm.Cond.instanceMethod ({ cls := "ForgeHeats$Shop", name := "copyNumbersFrom", desc := "(LForgeHeats$Shop;)V" } : Jvm.MethodName)) ∈ lw_T := lw_T_of (lw_in 381 (by decide +kernel)) rfl
theorem q_382 : (Jvm.Cond.code ({ cls := "ForgeHeats$Shop", name := "copyNumbersFrom", desc := "(LForgeHeats$Shop;)V" } : Jvm.MethodName) prog_7_method_3_code (2 : Nat) (Option.none : Option Jvm.ClassFile.FieldType)) ∈ lw_T := lw_T_of (lw_in 382 (by decide +kernel)) rfl
theorem q_410 : (Jvm.Cond.methodLink "ForgeHeats" (300 : Nat) ({ cls := "ForgeHeats$Shop", name := "countRushJobs", desc := "()I" } : Jvm.MethodName)) ∈ lw_T := lw_T_of (lw_in 410 (by decide +kernel)) rfl
theorem q_411 : (Jvm.Cond.instanceMethod ({ cls := "ForgeHeats$Shop", name := "countRushJobs", desc := "()I" } : Jvm.MethodName)) ∈ lw_T := lw_T_of (lw_in 411 (by decide +kernel)) rfl
theorem q_412 : (Jvm.Cond.selects "ForgeHeats$Shop" ({ cls := "ForgeHeats$Shop", name := "countRushJobs", desc := "()I" } : Jvm.MethodName) ({ cls := "ForgeHeats$Shop", name := "countRushJobs", desc := "()I" } : Jvm.MethodName)) ∈ lw_T := lw_T_of (lw_in 412 (by decide +kernel)) rfl
theorem q_413 : (Jvm.Cond.code ({ cls := "ForgeHeats$Shop", name := "countRushJobs", desc := "()I" } : Jvm.MethodName) prog_7_method_19_code (3 : Nat) (Option.some Jvm.ClassFile.FieldType.int)) ∈ lw_T := lw_T_of (lw_in 413 (by decide +kernel)) rfl
theorem q_414 : (Jvm.Cond.methodLink "ForgeHeats" (303 : Nat) ({ cls := "ForgeHeats$Shop", name := "countInFurnace", desc := "()I" } : Jvm.MethodName)) ∈ lw_T := lw_T_of (lw_in 414 (by decide +kernel)) rfl
theorem q_415 : (Jvm.Cond.instanceMethod ({ cls := "ForgeHeats$Shop", name := "countInFurnace", desc := "()I" } : Jvm.MethodName)) ∈ lw_T := lw_T_of (lw_in 415 (by decide +kernel)) rfl
theorem q_416 : (Jvm.Cond.selects "ForgeHeats$Shop" ({ cls := "ForgeHeats$Shop", name := "countInFurnace", desc := "()I" } : Jvm.MethodName) ({ cls := "ForgeHeats$Shop", name := "countInFurnace", desc := "()I" } : Jvm.MethodName)) ∈ lw_T := lw_T_of (lw_in 416 (by decide +kernel)) rfl
theorem q_417 : (Jvm.Cond.code ({ cls := "ForgeHeats$Shop", name := "countInFurnace", desc := "()I" } : Jvm.MethodName) prog_7_method_20_code (6 : Nat) (Option.some Jvm.ClassFile.FieldType.int)) ∈ lw_T := lw_T_of (lw_in 417 (by decide +kernel)) rfl
theorem q_418 : (Jvm.Cond.methodLink "ForgeHeats" (159 : Nat) ({ cls := "ForgeHeats$Shop", name := "countMade", desc := "()I" } : Jvm.MethodName)) ∈ lw_T := lw_T_of (lw_in 418 (by decide +kernel)) rfl
theorem q_419 : (Jvm.Cond.instanceMethod ({ cls := "ForgeHeats$Shop", name := "countMade", desc := "()I" } : Jvm.MethodName)) ∈ lw_T := lw_T_of (lw_in 419 (by decide +kernel)) rfl
theorem q_420 : (Jvm.Cond.selects "ForgeHeats$Shop" ({ cls := "ForgeHeats$Shop", name := "countMade", desc := "()I" } : Jvm.MethodName) ({ cls := "ForgeHeats$Shop", name := "countMade", desc := "()I" } : Jvm.MethodName)) ∈ lw_T := lw_T_of (lw_in 420 (by decide +kernel)) rfl
theorem q_421 : (Jvm.Cond.code ({ cls := "ForgeHeats$Shop", name := "countMade", desc := "()I" } : Jvm.MethodName) prog_7_method_17_code (3 : Nat) (Option.some Jvm.ClassFile.FieldType.int)) ∈ lw_T := lw_T_of (lw_in 421 (by decide +kernel)) rfl
theorem q_422 : (Jvm.Cond.methodLink "ForgeHeats" (306 : Nat) ({ cls := "ForgeHeats$Shop", name := "countScrap", desc := "()I" } : Jvm.MethodName)) ∈ lw_T := lw_T_of (lw_in 422 (by decide +kernel)) rfl
theorem q_423 : (Jvm.Cond.instanceMethod ({ cls := "ForgeHeats$Shop", name := "countScrap", desc := "()I" } : Jvm.MethodName)) ∈ lw_T := lw_T_of (lw_in 423 (by decide +kernel)) rfl
theorem q_424 : (Jvm.Cond.selects "ForgeHeats$Shop" ({ cls := "ForgeHeats$Shop", name := "countScrap", desc := "()I" } : Jvm.MethodName) ({ cls := "ForgeHeats$Shop", name := "countScrap", desc := "()I" } : Jvm.MethodName)) ∈ lw_T := lw_T_of (lw_in 424 (by decide +kernel)) rfl
theorem q_425 : (Jvm.Cond.code ({ cls := "ForgeHeats$Shop", name := "countScrap", desc := "()I" } : Jvm.MethodName) prog_7_method_18_code (3 : Nat) (Option.some Jvm.ClassFile.FieldType.int)) ∈ lw_T := lw_T_of (lw_in 425 (by decide +kernel)) rfl
theorem q_426 : (Jvm.Cond.methodLink "ForgeHeats" (97 : Nat) ({ cls := "ForgeHeats$Shop", name := "dieBeingGround", desc := "()I" } : Jvm.MethodName)) ∈ lw_T := lw_T_of (lw_in 426 (by decide +kernel)) rfl
theorem q_427 : (Jvm.Cond.instanceMethod ({ cls := "ForgeHeats$Shop", name := "dieBeingGround", desc := "()I" } : Jvm.MethodName)) ∈ lw_T := lw_T_of (lw_in 427 (by decide +kernel)) rfl
theorem q_428 : (Jvm.Cond.selects "ForgeHeats$Shop" ({ cls := "ForgeHeats$Shop", name := "dieBeingGround", desc := "()I" } : Jvm.MethodName) ({ cls := "ForgeHeats$Shop", name := "dieBeingGround", desc := "()I" } : Jvm.MethodName)) ∈ lw_T := lw_T_of (lw_in 428 (by decide +kernel)) rfl
theorem q_429 : (Jvm.Cond.code ({ cls := "ForgeHeats$Shop", name := "dieBeingGround", desc := "()I" } : Jvm.MethodName) prog_7_method_26_code (2 : Nat) (Option.some Jvm.ClassFile.FieldType.int)) ∈ lw_T := lw_T_of (lw_in 429 (by decide +kernel)) rfl
theorem q_430 : (Jvm.Cond.methodLink "ForgeHeats$Shop" (193 : Nat) ({ cls := "ForgeHeats$Die", name := "isBeingGround", desc := "()Z" } : Jvm.MethodName)) ∈ lw_T := lw_T_of (lw_in 430 (by decide +kernel)) rfl
theorem q_431 : (Jvm.Cond.instanceMethod ({ cls := "ForgeHeats$Die", name := "isBeingGround", desc := "()Z" } : Jvm.MethodName)) ∈ lw_T := lw_T_of (lw_in 431 (by decide +kernel)) rfl
theorem q_432 : (Jvm.Cond.selects "ForgeHeats$Die" ({ cls := "ForgeHeats$Die", name := "isBeingGround", desc := "()Z" } : Jvm.MethodName) ({ cls := "ForgeHeats$Die", name := "isBeingGround", desc := "()Z" } : Jvm.MethodName)) ∈ lw_T := lw_T_of (lw_in 432 (by decide +kernel)) rfl
theorem q_433 : (Jvm.Cond.code ({ cls := "ForgeHeats$Die", name := "isBeingGround", desc := "()Z" } : Jvm.MethodName) prog_3_method_3_code (1 : Nat) (Option.some Jvm.ClassFile.FieldType.boolean)) ∈ lw_T := lw_T_of (lw_in 433 (by decide +kernel)) rfl
theorem q_476 : (Jvm.Cond.methodLink "ForgeHeats$Shop" (179 : Nat) ({ cls := "ForgeHeats$Shop", name := "countBilletsOf", desc := "(I)I" } : Jvm.MethodName)) ∈ lw_T := lw_T_of (lw_in 476 (by decide +kernel)) rfl
theorem q_478 : (Jvm.Cond.instanceMethod ({ cls := "ForgeHeats$Shop", name := "countBilletsOf", desc := "(I)I" } : Jvm.MethodName)) ∈ lw_T := lw_T_of (lw_in 478 (by decide +kernel)) rfl
theorem q_479 : (Jvm.Cond.code ({ cls := "ForgeHeats$Shop", name := "countBilletsOf", desc := "(I)I" } : Jvm.MethodName) prog_7_method_22_code (5 : Nat) (Option.some Jvm.ClassFile.FieldType.int)) ∈ lw_T := lw_T_of (lw_in 479 (by decide +kernel)) rfl
theorem q_480 : (Jvm.Cond.methodLink "ForgeHeats$Shop" (182 : Nat) ({ cls := "ForgeHeats$Shop", name := "countLackOf", desc := "(I)I" } : Jvm.MethodName)) ∈ lw_T := lw_T_of (lw_in 480 (by decide +kernel)) rfl
theorem q_482 : (Jvm.Cond.instanceMethod ({ cls := "ForgeHeats$Shop", name := "countLackOf", desc := "(I)I" } : Jvm.MethodName)) ∈ lw_T := lw_T_of (lw_in 482 (by decide +kernel)) rfl
theorem q_483 : (Jvm.Cond.code ({ cls := "ForgeHeats$Shop", name := "countLackOf", desc := "(I)I" } : Jvm.MethodName) prog_7_method_23_code (5 : Nat) (Option.some Jvm.ClassFile.FieldType.int)) ∈ lw_T := lw_T_of (lw_in 483 (by decide +kernel)) rfl
theorem q_484 : (Jvm.Cond.methodLink "ForgeHeats$Shop" (185 : Nat) ({ cls := "ForgeHeats$Job", name := "lack", desc := "()I" } : Jvm.MethodName)) ∈ lw_T := lw_T_of (lw_in 484 (by decide +kernel)) rfl
theorem q_485 : (Jvm.Cond.instanceMethod ({ cls := "ForgeHeats$Job", name := "lack", desc := "()I" } : Jvm.MethodName)) ∈ lw_T := lw_T_of (lw_in 485 (by decide +kernel)) rfl
theorem q_486 : (Jvm.Cond.selects "ForgeHeats$Job" ({ cls := "ForgeHeats$Job", name := "lack", desc := "()I" } : Jvm.MethodName) ({ cls := "ForgeHeats$Job", name := "lack", desc := "()I" } : Jvm.MethodName)) ∈ lw_T := lw_T_of (lw_in 486 (by decide +kernel)) rfl
theorem q_487 : (Jvm.Cond.code ({ cls := "ForgeHeats$Job", name := "lack", desc := "()I" } : Jvm.MethodName) prog_5_method_4_code (1 : Nat) (Option.some Jvm.ClassFile.FieldType.int)) ∈ lw_T := lw_T_of (lw_in 487 (by decide +kernel)) rfl
theorem q_517 : (Jvm.Cond.methodLink "ForgeHeats$Shop" (189 : Nat) ({ cls := "ForgeHeats$Shop", name := "reasonToWait", desc := "(LForgeHeats$Job;)I" } : Jvm.MethodName)) ∈ lw_T := lw_T_of (lw_in 517 (by decide +kernel)) rfl
theorem q_519 : (Jvm.Cond.instanceMethod ({ cls := "ForgeHeats$Shop", name := "reasonToWait", desc := "(LForgeHeats$Job;)I" } : Jvm.MethodName)) ∈ lw_T := lw_T_of (lw_in 519 (by decide +kernel)) rfl
theorem q_520 : (Jvm.Cond.code ({ cls := "ForgeHeats$Shop", name := "reasonToWait", desc := "(LForgeHeats$Job;)I" } : Jvm.MethodName) prog_7_method_25_code (3 : Nat) (Option.some Jvm.ClassFile.FieldType.int)) ∈ lw_T := lw_T_of (lw_in 520 (by decide +kernel)) rfl
theorem q_521 : (Jvm.Cond.methodLink "ForgeHeats$Shop" (197 : Nat) ({ cls := "ForgeHeats$Die", name := "isWornOut", desc := "()Z" } : Jvm.MethodName)) ∈ lw_T := lw_T_of (lw_in 521 (by decide +kernel)) rfl
theorem q_522 : (Jvm.Cond.instanceMethod ({ cls := "ForgeHeats$Die", name := "isWornOut", desc := "()Z" } : Jvm.MethodName)) ∈ lw_T := lw_T_of (lw_in 522 (by decide +kernel)) rfl
theorem q_523 : (Jvm.Cond.selects "ForgeHeats$Die" ({ cls := "ForgeHeats$Die", name := "isWornOut", desc := "()Z" } : Jvm.MethodName) ({ cls := "ForgeHeats$Die", name := "isWornOut", desc := "()Z" } : Jvm.MethodName)) ∈ lw_T := lw_T_of (lw_in 523 (by decide +kernel)) rfl
theorem q_524 : (Jvm.Cond.code ({ cls := "ForgeHeats$Die", name := "isWornOut", desc := "()Z" } : Jvm.MethodName) prog_3_method_4_code (1 : Nat) (Option.some Jvm.ClassFile.FieldType.boolean)) ∈ lw_T := lw_T_of (lw_in 524 (by decide +kernel)) rfl
theorem q_525 : (Jvm.Cond.methodLink "ForgeHeats$Shop" (200 : Nat) ({ cls := "ForgeHeats$Shop", name := "hottestReady", desc := "(LForgeHeats$Job;)LForgeHeats$Billet;" } : Jvm.MethodName)) ∈ lw_T := lw_T_of (lw_in 525 (by decide +kernel)) rfl
theorem q_527 : (Jvm.Cond.instanceMethod ({ cls := "ForgeHeats$Shop", name := "hottestReady", desc := "(LForgeHeats$Job;)LForgeHeats$Billet;" } : Jvm.MethodName)) ∈ lw_T := lw_T_of (lw_in 527 (by decide +kernel)) rfl
theorem q_528 : (Jvm.Cond.code ({ cls := "ForgeHeats$Shop", name := "hottestReady", desc := "(LForgeHeats$Job;)LForgeHeats$Billet;" } : Jvm.MethodName) prog_7_method_28_code (8 : Nat) (Option.some (Jvm.ClassFile.FieldType.object "ForgeHeats$Billet"))) ∈ lw_T := lw_T_of (lw_in 528 (by decide +kernel)) rfl
theorem q_547 : (Jvm.Cond.methodLink "ForgeHeats" (297 : Nat) ({ cls := "ForgeHeats", name := "dropOldest", desc := "()V" } : Jvm.MethodName)) ∈ lw_T := lw_T_of (lw_in 547 (by decide +kernel)) rfl
theorem q_549 : (Jvm.Cond.instanceMethod ({ cls := "ForgeHeats", name := "dropOldest", desc := "()V" } : Jvm.MethodName)) ∈ lw_T := lw_T_of (lw_in 549 (by decide +kernel)) rfl
theorem q_550 : (Jvm.Cond.code ({ cls := "ForgeHeats", name := "dropOldest", desc := "()V" } : Jvm.MethodName) prog_1_method_32_code (4 : Nat) (Option.none : Option Jvm.ClassFile.FieldType)) ∈ lw_T := lw_T_of (lw_in 550 (by decide +kernel)) rfl
theorem q_588 : (Jvm.Cond.instanceMethod ({ cls := "ForgeHeats$Shop", name := "placeOf", desc := "(I)I" } : Jvm.MethodName)) ∈ lw_T := lw_T_of (lw_in 588 (by decide +kernel)) rfl
theorem q_589 : (Jvm.Cond.selects "ForgeHeats$Shop" ({ cls := "ForgeHeats$Shop", name := "placeOf", desc := "(I)I" } : Jvm.MethodName) ({ cls := "ForgeHeats$Shop", name := "placeOf", desc := "(I)I" } : Jvm.MethodName)) ∈ lw_T := lw_T_of (lw_in 589 (by decide +kernel)) rfl
theorem q_590 : (Jvm.Cond.code ({ cls := "ForgeHeats$Shop", name := "placeOf", desc := "(I)I" } : Jvm.MethodName) prog_7_method_12_code (3 : Nat) (Option.some Jvm.ClassFile.FieldType.int)) ∈ lw_T := lw_T_of (lw_in 590 (by decide +kernel)) rfl
theorem q_596 : (Jvm.Cond.methodLink "ForgeHeats$Shop" (165 : Nat) ({ cls := "ForgeHeats$Shop", name := "removeJob", desc := "(I)V" } : Jvm.MethodName)) ∈ lw_T := lw_T_of (lw_in 596 (by decide +kernel)) rfl
theorem q_598 : (Jvm.Cond.instanceMethod ({ cls := "ForgeHeats$Shop", name := "removeJob", desc := "(I)V" } : Jvm.MethodName)) ∈ lw_T := lw_T_of (lw_in 598 (by decide +kernel)) rfl
theorem q_599 : (Jvm.Cond.code ({ cls := "ForgeHeats$Shop", name := "removeJob", desc := "(I)V" } : Jvm.MethodName) prog_7_method_13_code (3 : Nat) (Option.none : Option Jvm.ClassFile.FieldType)) ∈ lw_T := lw_T_of (lw_in 599 (by decide +kernel)) rfl
theorem q_600 : (Jvm.Cond.methodLink "ForgeHeats$Shop" (155 : Nat) ({ cls := "ForgeHeats$Shop", name := "swapJobs", desc := "(II)V" } : Jvm.MethodName)) ∈ lw_T := lw_T_of (lw_in 600 (by decide +kernel)) rfl
theorem q_602 : (Jvm.Cond.instanceMethod ({ cls := "ForgeHeats$Shop", name := "swapJobs", desc := "(II)V" } : Jvm.MethodName)) ∈ lw_T := lw_T_of (lw_in 602 (by decide +kernel)) rfl
theorem q_603 : (Jvm.Cond.code ({ cls := "ForgeHeats$Shop", name := "swapJobs", desc := "(II)V" } : Jvm.MethodName) prog_7_method_11_code (4 : Nat) (Option.none : Option Jvm.ClassFile.FieldType)) ∈ lw_T := lw_T_of (lw_in 603 (by decide +kernel)) rfl
theorem q_612 : (Jvm.Cond.methodLink "ForgeHeats$Shop" (147 : Nat) ({ cls := "ForgeHeats$Shop", name := "settle", desc := "(I)I" } : Jvm.MethodName)) ∈ lw_T := lw_T_of (lw_in 612 (by decide +kernel)) rfl
theorem q_614 : (Jvm.Cond.instanceMethod ({ cls := "ForgeHeats$Shop", name := "settle", desc := "(I)I" } : Jvm.MethodName)) ∈ lw_T := lw_T_of (lw_in 614 (by decide +kernel)) rfl
theorem q_615 : (Jvm.Cond.code ({ cls := "ForgeHeats$Shop", name := "settle", desc := "(I)I" } : Jvm.MethodName) prog_7_method_10_code (3 : Nat) (Option.some Jvm.ClassFile.FieldType.int)) ∈ lw_T := lw_T_of (lw_in 615 (by decide +kernel)) rfl
theorem q_616 : (Jvm.Cond.methodLink "ForgeHeats$Shop" (151 : Nat) ({ cls := "ForgeHeats$Job", name := "comesBefore", desc := "(LForgeHeats$Job;)Z" } : Jvm.MethodName)) ∈ lw_T := lw_T_of (lw_in 616 (by decide +kernel)) rfl
theorem q_617 : (Jvm.Cond.instanceMethod ({ cls := "ForgeHeats$Job", name := "comesBefore", desc := "(LForgeHeats$Job;)Z" } : Jvm.MethodName)) ∈ lw_T := lw_T_of (lw_in 617 (by decide +kernel)) rfl
theorem q_618 : (Jvm.Cond.selects "ForgeHeats$Job" ({ cls := "ForgeHeats$Job", name := "comesBefore", desc := "(LForgeHeats$Job;)Z" } : Jvm.MethodName) ({ cls := "ForgeHeats$Job", name := "comesBefore", desc := "(LForgeHeats$Job;)Z" } : Jvm.MethodName)) ∈ lw_T := lw_T_of (lw_in 618 (by decide +kernel)) rfl
theorem q_619 : (Jvm.Cond.code ({ cls := "ForgeHeats$Job", name := "comesBefore", desc := "(LForgeHeats$Job;)Z" } : Jvm.MethodName) prog_5_method_3_code (2 : Nat) (Option.some Jvm.ClassFile.FieldType.boolean)) ∈ lw_T := lw_T_of (lw_in 619 (by decide +kernel)) rfl
theorem q_641 : (Jvm.Cond.methodLink "ForgeHeats$Shop" (207 : Nat) ({ cls := "ForgeHeats$Shop", name := "passMinute", desc := "()V" } : Jvm.MethodName)) ∈ lw_T := lw_T_of (lw_in 641 (by decide +kernel)) rfl
theorem q_642 : (Jvm.Cond.instanceMethod ({ cls := "ForgeHeats$Shop", name := "passMinute", desc := "()V" } : Jvm.MethodName)) ∈ lw_T := lw_T_of (lw_in 642 (by decide +kernel)) rfl
theorem q_643 : (Jvm.Cond.selects "ForgeHeats$Shop" ({ cls := "ForgeHeats$Shop", name := "passMinute", desc := "()V" } : Jvm.MethodName) ({ cls := "ForgeHeats$Shop", name := "passMinute", desc := "()V" } : Jvm.MethodName)) ∈ lw_T := lw_T_of (lw_in 643 (by decide +kernel)) rfl
theorem q_644 : (Jvm.Cond.code ({ cls := "ForgeHeats$Shop", name := "passMinute", desc := "()V" } : Jvm.MethodName) prog_7_method_30_code (1 : Nat) (Option.none : Option Jvm.ClassFile.FieldType)) ∈ lw_T := lw_T_of (lw_in 644 (by decide +kernel)) rfl
theorem q_645 : (Jvm.Cond.methodLink "ForgeHeats$Shop" (210 : Nat) ({ cls := "ForgeHeats$Shop", name := "warmFurnace", desc := "()V" } : Jvm.MethodName)) ∈ lw_T := lw_T_of (lw_in 645 (by decide +kernel)) rfl
theorem q_647 : (Jvm.Cond.instanceMethod ({ cls := "ForgeHeats$Shop", name := "warmFurnace", desc := "()V" } : Jvm.MethodName)) ∈ lw_T := lw_T_of (lw_in 647 (by decide +kernel)) rfl
theorem q_648 : (Jvm.Cond.code ({ cls := "ForgeHeats$Shop", name := "warmFurnace", desc := "()V" } : Jvm.MethodName) prog_7_method_31_code (5 : Nat) (Option.none : Option Jvm.ClassFile.FieldType)) ∈ lw_T := lw_T_of (lw_in 648 (by decide +kernel)) rfl
theorem q_649 : (Jvm.Cond.methodLink "ForgeHeats$Shop" (228 : Nat) ({ cls := "java/lang/Math", name := "min", desc := "(II)I" } : Jvm.MethodName)) ∈ lw_T := lw_T_of (lw_in 649 (by decide +kernel)) rfl
theorem q_650 : (Jvm.Cond.static ({ cls := "java/lang/Math", name := "min", desc := "(II)I" } : Jvm.MethodName)) ∈ lw_T := lw_T_of (lw_in 650 (by decide +kernel)) rfl
theorem q_651 : (Jvm.Cond.code ({ cls := "java/lang/Math", name := "min", desc := "(II)I" } : Jvm.MethodName) prog_14_method_69_code (2 : Nat) (Option.some Jvm.ClassFile.FieldType.int)) ∈ lw_T := lw_T_of (lw_in 651 (by decide +kernel)) rfl
theorem q_652 : (Jvm.Cond.methodLink "ForgeHeats$Shop" (213 : Nat) ({ cls := "ForgeHeats$Shop", name := "chargeFurnace", desc := "()V" } : Jvm.MethodName)) ∈ lw_T := lw_T_of (lw_in 652 (by decide +kernel)) rfl
theorem q_654 : (Jvm.Cond.instanceMethod ({ cls := "ForgeHeats$Shop", name := "chargeFurnace", desc := "()V" } : Jvm.MethodName)) ∈ lw_T := lw_T_of (lw_in 654 (by decide +kernel)) rfl
theorem q_655 : (Jvm.Cond.code ({ cls := "ForgeHeats$Shop", name := "chargeFurnace", desc := "()V" } : Jvm.MethodName) prog_7_method_32_code (5 : Nat) (Option.none : Option Jvm.ClassFile.FieldType)) ∈ lw_T := lw_T_of (lw_in 655 (by decide +kernel)) rfl
theorem q_656 : (Jvm.Cond.methodLink "ForgeHeats$Shop" (234 : Nat) ({ cls := "ForgeHeats$Shop", name := "freePlace", desc := "()LForgeHeats$Billet;" } : Jvm.MethodName)) ∈ lw_T := lw_T_of (lw_in 656 (by decide +kernel)) rfl
theorem q_658 : (Jvm.Cond.instanceMethod ({ cls := "ForgeHeats$Shop", name := "freePlace", desc := "()LForgeHeats$Billet;" } : Jvm.MethodName)) ∈ lw_T := lw_T_of (lw_in 658 (by decide +kernel)) rfl
theorem q_659 : (Jvm.Cond.code ({ cls := "ForgeHeats$Shop", name := "freePlace", desc := "()LForgeHeats$Billet;" } : Jvm.MethodName) prog_7_method_27_code (5 : Nat) (Option.some (Jvm.ClassFile.FieldType.object "ForgeHeats$Billet"))) ∈ lw_T := lw_T_of (lw_in 659 (by decide +kernel)) rfl
theorem q_660 : (Jvm.Cond.methodLink "ForgeHeats$Shop" (216 : Nat) ({ cls := "ForgeHeats$Shop", name := "loadPress", desc := "()V" } : Jvm.MethodName)) ∈ lw_T := lw_T_of (lw_in 660 (by decide +kernel)) rfl
theorem q_662 : (Jvm.Cond.instanceMethod ({ cls := "ForgeHeats$Shop", name := "loadPress", desc := "()V" } : Jvm.MethodName)) ∈ lw_T := lw_T_of (lw_in 662 (by decide +kernel)) rfl
theorem q_663 : (Jvm.Cond.code ({ cls := "ForgeHeats$Shop", name := "loadPress", desc := "()V" } : Jvm.MethodName) prog_7_method_33_code (4 : Nat) (Option.none : Option Jvm.ClassFile.FieldType)) ∈ lw_T := lw_T_of (lw_in 663 (by decide +kernel)) rfl
theorem q_664 : (Jvm.Cond.methodLink "ForgeHeats$Shop" (241 : Nat) ({ cls := "ForgeHeats$Die", name := "canForge", desc := "()Z" } : Jvm.MethodName)) ∈ lw_T := lw_T_of (lw_in 664 (by decide +kernel)) rfl
theorem q_665 : (Jvm.Cond.instanceMethod ({ cls := "ForgeHeats$Die", name := "canForge", desc := "()Z" } : Jvm.MethodName)) ∈ lw_T := lw_T_of (lw_in 665 (by decide +kernel)) rfl
theorem q_666 : (Jvm.Cond.selects "ForgeHeats$Die" ({ cls := "ForgeHeats$Die", name := "canForge", desc := "()Z" } : Jvm.MethodName) ({ cls := "ForgeHeats$Die", name := "canForge", desc := "()Z" } : Jvm.MethodName)) ∈ lw_T := lw_T_of (lw_in 666 (by decide +kernel)) rfl
theorem q_667 : (Jvm.Cond.code ({ cls := "ForgeHeats$Die", name := "canForge", desc := "()Z" } : Jvm.MethodName) prog_3_method_5_code (1 : Nat) (Option.some Jvm.ClassFile.FieldType.boolean)) ∈ lw_T := lw_T_of (lw_in 667 (by decide +kernel)) rfl
theorem q_668 : (Jvm.Cond.methodLink "ForgeHeats$Shop" (219 : Nat) ({ cls := "ForgeHeats$Shop", name := "placeOf", desc := "(I)I" } : Jvm.MethodName)) ∈ lw_T := lw_T_of (lw_in 668 (by decide +kernel)) rfl
theorem q_669 : (Jvm.Cond.methodLink "ForgeHeats$Shop" (222 : Nat) ({ cls := "ForgeHeats$Shop", name := "workPress", desc := "(I)V" } : Jvm.MethodName)) ∈ lw_T := lw_T_of (lw_in 669 (by decide +kernel)) rfl
theorem q_671 : (Jvm.Cond.instanceMethod ({ cls := "ForgeHeats$Shop", name := "workPress", desc := "(I)V" } : Jvm.MethodName)) ∈ lw_T := lw_T_of (lw_in 671 (by decide +kernel)) rfl
theorem q_672 : (Jvm.Cond.code ({ cls := "ForgeHeats$Shop", name := "workPress", desc := "(I)V" } : Jvm.MethodName) prog_7_method_34_code (5 : Nat) (Option.none : Option Jvm.ClassFile.FieldType)) ∈ lw_T := lw_T_of (lw_in 672 (by decide +kernel)) rfl
theorem q_673 : (Jvm.Cond.methodLink "ForgeHeats$Shop" (244 : Nat) ({ cls := "ForgeHeats$Shop", name := "sendBack", desc := "(LForgeHeats$Job;LForgeHeats$Heat;)V" } : Jvm.MethodName)) ∈ lw_T := lw_T_of (lw_in 673 (by decide +kernel)) rfl
theorem q_675 : (Jvm.Cond.instanceMethod ({ cls := "ForgeHeats$Shop", name := "sendBack", desc := "(LForgeHeats$Job;LForgeHeats$Heat;)V" } : Jvm.MethodName)) ∈ lw_T := lw_T_of (lw_in 675 (by decide +kernel)) rfl
theorem q_676 : (Jvm.Cond.code ({ cls := "ForgeHeats$Shop", name := "sendBack", desc := "(LForgeHeats$Job;LForgeHeats$Heat;)V" } : Jvm.MethodName) prog_7_method_35_code (4 : Nat) (Option.none : Option Jvm.ClassFile.FieldType)) ∈ lw_T := lw_T_of (lw_in 676 (by decide +kernel)) rfl
theorem q_677 : (Jvm.Cond.methodLink "ForgeHeats$Shop" (251 : Nat) ({ cls := "java/lang/Math", name := "max", desc := "(II)I" } : Jvm.MethodName)) ∈ lw_T := lw_T_of (lw_in 677 (by decide +kernel)) rfl
theorem q_678 : (Jvm.Cond.static ({ cls := "java/lang/Math", name := "max", desc := "(II)I" } : Jvm.MethodName)) ∈ lw_T := lw_T_of (lw_in 678 (by decide +kernel)) rfl
theorem q_679 : (Jvm.Cond.code ({ cls := "java/lang/Math", name := "max", desc := "(II)I" } : Jvm.MethodName) prog_14_method_65_code (2 : Nat) (Option.some Jvm.ClassFile.FieldType.int)) ∈ lw_T := lw_T_of (lw_in 679 (by decide +kernel)) rfl
theorem q_680 : (Jvm.Cond.methodLink "ForgeHeats$Shop" (255 : Nat) ({ cls := "ForgeHeats$Shop", name := "countGone", desc := "(LForgeHeats$Job;)V" } : Jvm.MethodName)) ∈ lw_T := lw_T_of (lw_in 680 (by decide +kernel)) rfl
theorem q_682 : (Jvm.Cond.instanceMethod ({ cls := "ForgeHeats$Shop", name := "countGone", desc := "(LForgeHeats$Job;)V" } : Jvm.MethodName)) ∈ lw_T := lw_T_of (lw_in 682 (by decide +kernel)) rfl
theorem q_683 : (Jvm.Cond.code ({ cls := "ForgeHeats$Shop", name := "countGone", desc := "(LForgeHeats$Job;)V" } : Jvm.MethodName) prog_7_method_36_code (3 : Nat) (Option.none : Option Jvm.ClassFile.FieldType)) ∈ lw_T := lw_T_of (lw_in 683 (by decide +kernel)) rfl
theorem q_684 : (Jvm.Cond.methodLink "ForgeHeats$Shop" (225 : Nat) ({ cls := "ForgeHeats$Shop", name := "tendDies", desc := "()V" } : Jvm.MethodName)) ∈ lw_T := lw_T_of (lw_in 684 (by decide +kernel)) rfl
theorem q_686 : (Jvm.Cond.instanceMethod ({ cls := "ForgeHeats$Shop", name := "tendDies", desc := "()V" } : Jvm.MethodName)) ∈ lw_T := lw_T_of (lw_in 686 (by decide +kernel)) rfl
theorem q_687 : (Jvm.Cond.code ({ cls := "ForgeHeats$Shop", name := "tendDies", desc := "()V" } : Jvm.MethodName) prog_7_method_37_code (4 : Nat) (Option.none : Option Jvm.ClassFile.FieldType)) ∈ lw_T := lw_T_of (lw_in 687 (by decide +kernel)) rfl
theorem q_688 : (Jvm.Cond.methodLink "ForgeHeats$Shop" (258 : Nat) ({ cls := "ForgeHeats$Shop", name := "dieBeingGround", desc := "()I" } : Jvm.MethodName)) ∈ lw_T := lw_T_of (lw_in 688 (by decide +kernel)) rfl
theorem q_689 : (Jvm.Cond.methodLink "ForgeHeats$Shop" (261 : Nat) ({ cls := "ForgeHeats$Die", name := "grindMinute", desc := "()V" } : Jvm.MethodName)) ∈ lw_T := lw_T_of (lw_in 689 (by decide +kernel)) rfl
theorem q_690 : (Jvm.Cond.instanceMethod ({ cls := "ForgeHeats$Die", name := "grindMinute", desc := "()V" } : Jvm.MethodName)) ∈ lw_T := lw_T_of (lw_in 690 (by decide +kernel)) rfl
theorem q_691 : (Jvm.Cond.selects "ForgeHeats$Die" ({ cls := "ForgeHeats$Die", name := "grindMinute", desc := "()V" } : Jvm.MethodName) ({ cls := "ForgeHeats$Die", name := "grindMinute", desc := "()V" } : Jvm.MethodName)) ∈ lw_T := lw_T_of (lw_in 691 (by decide +kernel)) rfl
theorem q_692 : (Jvm.Cond.code ({ cls := "ForgeHeats$Die", name := "grindMinute", desc := "()V" } : Jvm.MethodName) prog_3_method_6_code (1 : Nat) (Option.none : Option Jvm.ClassFile.FieldType)) ∈ lw_T := lw_T_of (lw_in 692 (by decide +kernel)) rfl
theorem q_693 : (Jvm.Cond.methodLink "ForgeHeats$Die" (30 : Nat) ({ cls := "java/lang/Math", name := "max", desc := "(II)I" } : Jvm.MethodName)) ∈ lw_T := lw_T_of (lw_in 693 (by decide +kernel)) rfl
theorem q_701 : (Jvm.Cond.methodLink "ForgeHeats" (270 : Nat) ({ cls := "ForgeHeats", name := "shareMade", desc := "()D" } : Jvm.MethodName)) ∈ lw_T := lw_T_of (lw_in 701 (by decide +kernel)) rfl
theorem q_703 : (Jvm.Cond.instanceMethod ({ cls := "ForgeHeats", name := "shareMade", desc := "()D" } : Jvm.MethodName)) ∈ lw_T := lw_T_of (lw_in 703 (by decide +kernel)) rfl
theorem q_704 : (Jvm.Cond.code ({ cls := "ForgeHeats", name := "shareMade", desc := "()D" } : Jvm.MethodName) prog_1_method_41_code (3 : Nat) (Option.some Jvm.ClassFile.FieldType.double)) ∈ lw_T := lw_T_of (lw_in 704 (by decide +kernel)) rfl
theorem q_s0 : Cond.selects "ForgeHeats" ⟨"ForgeHeats", "pastAt", "(I)LForgeHeats$Shop;"⟩ ⟨"ForgeHeats", "pastAt", "(I)LForgeHeats$Shop;"⟩ ∈ lw_T := lw_T_of (lw_ins 0 (by decide +kernel)) rfl
theorem q_s2 : Cond.selects "ForgeHeats$Shop" ⟨"ForgeHeats$Shop", "copyNumbersFrom", "(LForgeHeats$Shop;)V"⟩ ⟨"ForgeHeats$Shop", "copyNumbersFrom", "(LForgeHeats$Shop;)V"⟩ ∈ lw_T := lw_T_of (lw_ins 2 (by decide +kernel)) rfl
theorem q_s4 : Cond.selects "ForgeHeats$Shop" ⟨"ForgeHeats$Shop", "countBilletsOf", "(I)I"⟩ ⟨"ForgeHeats$Shop", "countBilletsOf", "(I)I"⟩ ∈ lw_T := lw_T_of (lw_ins 4 (by decide +kernel)) rfl
theorem q_s5 : Cond.selects "ForgeHeats$Shop" ⟨"ForgeHeats$Shop", "countLackOf", "(I)I"⟩ ⟨"ForgeHeats$Shop", "countLackOf", "(I)I"⟩ ∈ lw_T := lw_T_of (lw_ins 5 (by decide +kernel)) rfl
theorem q_s6 : Cond.selects "ForgeHeats$Shop" ⟨"ForgeHeats$Shop", "reasonToWait", "(LForgeHeats$Job;)I"⟩ ⟨"ForgeHeats$Shop", "reasonToWait", "(LForgeHeats$Job;)I"⟩ ∈ lw_T := lw_T_of (lw_ins 6 (by decide +kernel)) rfl
theorem q_s7 : Cond.selects "ForgeHeats$Shop" ⟨"ForgeHeats$Shop", "hottestReady", "(LForgeHeats$Job;)LForgeHeats$Billet;"⟩ ⟨"ForgeHeats$Shop", "hottestReady", "(LForgeHeats$Job;)LForgeHeats$Billet;"⟩ ∈ lw_T := lw_T_of (lw_ins 7 (by decide +kernel)) rfl
theorem q_s9 : Cond.selects "ForgeHeats" ⟨"ForgeHeats", "dropOldest", "()V"⟩ ⟨"ForgeHeats", "dropOldest", "()V"⟩ ∈ lw_T := lw_T_of (lw_ins 9 (by decide +kernel)) rfl
theorem q_s10 : Cond.selects "ForgeHeats$Shop" ⟨"ForgeHeats$Shop", "removeJob", "(I)V"⟩ ⟨"ForgeHeats$Shop", "removeJob", "(I)V"⟩ ∈ lw_T := lw_T_of (lw_ins 10 (by decide +kernel)) rfl
theorem q_s11 : Cond.selects "ForgeHeats$Shop" ⟨"ForgeHeats$Shop", "swapJobs", "(II)V"⟩ ⟨"ForgeHeats$Shop", "swapJobs", "(II)V"⟩ ∈ lw_T := lw_T_of (lw_ins 11 (by decide +kernel)) rfl
theorem q_s12 : Cond.selects "ForgeHeats$Shop" ⟨"ForgeHeats$Shop", "settle", "(I)I"⟩ ⟨"ForgeHeats$Shop", "settle", "(I)I"⟩ ∈ lw_T := lw_T_of (lw_ins 12 (by decide +kernel)) rfl
theorem q_s13 : Cond.selects "ForgeHeats$Shop" ⟨"ForgeHeats$Shop", "warmFurnace", "()V"⟩ ⟨"ForgeHeats$Shop", "warmFurnace", "()V"⟩ ∈ lw_T := lw_T_of (lw_ins 13 (by decide +kernel)) rfl
theorem q_s14 : Cond.selects "ForgeHeats$Shop" ⟨"ForgeHeats$Shop", "chargeFurnace", "()V"⟩ ⟨"ForgeHeats$Shop", "chargeFurnace", "()V"⟩ ∈ lw_T := lw_T_of (lw_ins 14 (by decide +kernel)) rfl
theorem q_s15 : Cond.selects "ForgeHeats$Shop" ⟨"ForgeHeats$Shop", "freePlace", "()LForgeHeats$Billet;"⟩ ⟨"ForgeHeats$Shop", "freePlace", "()LForgeHeats$Billet;"⟩ ∈ lw_T := lw_T_of (lw_ins 15 (by decide +kernel)) rfl
theorem q_s16 : Cond.selects "ForgeHeats$Shop" ⟨"ForgeHeats$Shop", "loadPress", "()V"⟩ ⟨"ForgeHeats$Shop", "loadPress", "()V"⟩ ∈ lw_T := lw_T_of (lw_ins 16 (by decide +kernel)) rfl
theorem q_s17 : Cond.selects "ForgeHeats$Shop" ⟨"ForgeHeats$Shop", "workPress", "(I)V"⟩ ⟨"ForgeHeats$Shop", "workPress", "(I)V"⟩ ∈ lw_T := lw_T_of (lw_ins 17 (by decide +kernel)) rfl
theorem q_s18 : Cond.selects "ForgeHeats$Shop" ⟨"ForgeHeats$Shop", "sendBack", "(LForgeHeats$Job;LForgeHeats$Heat;)V"⟩ ⟨"ForgeHeats$Shop", "sendBack", "(LForgeHeats$Job;LForgeHeats$Heat;)V"⟩ ∈ lw_T := lw_T_of (lw_ins 18 (by decide +kernel)) rfl
theorem q_s19 : Cond.selects "ForgeHeats$Shop" ⟨"ForgeHeats$Shop", "countGone", "(LForgeHeats$Job;)V"⟩ ⟨"ForgeHeats$Shop", "countGone", "(LForgeHeats$Job;)V"⟩ ∈ lw_T := lw_T_of (lw_ins 19 (by decide +kernel)) rfl
theorem q_s20 : Cond.selects "ForgeHeats$Shop" ⟨"ForgeHeats$Shop", "tendDies", "()V"⟩ ⟨"ForgeHeats$Shop", "tendDies", "()V"⟩ ∈ lw_T := lw_T_of (lw_ins 20 (by decide +kernel)) rfl
theorem q_s21 : Cond.selects "ForgeHeats" ⟨"ForgeHeats", "shareMade", "()D"⟩ ⟨"ForgeHeats", "shareMade", "()D"⟩ ∈ lw_T := lw_T_of (lw_ins 21 (by decide +kernel)) rfl
