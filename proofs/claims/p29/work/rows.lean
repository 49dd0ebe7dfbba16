section
-- ===== PART A: goes FIRST, ahead of the names: the tables' words, and 'selects' of the private methods out of them =====
/-- a private method of a class that the tables say can be made, by its rows of tables_1 -/
def lw_okq (q : MethodName × Nat) : Prop := (q.1.cls ≠ "java/lang/invoke/MethodHandle" ∧ q.1.cls ≠ "java/lang/invoke/VarHandle") ∧ Cond.instantiable q.1.cls q.2 ∈ tables_1 ∧ Cond.privateMethod q.1 ∈ tables_1 ∧ Cond.instanceMethod q.1 ∈ tables_1
theorem lw_p0 : lw_okq (⟨"ForgeHeats", "pastAt", "(I)LForgeHeats$Shop;"⟩, 5) := ⟨⟨by decide +kernel, by decide +kernel⟩, List.mem_of_getElem? (i := 16) (by decide +kernel), List.mem_of_getElem? (i := 272) (by decide +kernel), List.mem_of_getElem? (i := 273) (by decide +kernel)⟩
theorem lw_p1 : lw_okq (⟨"java/lang/Throwable", "fillInStackTrace", "(I)Ljava/lang/Throwable;"⟩, 6) := ⟨⟨by decide +kernel, by decide +kernel⟩, List.mem_of_getElem? (i := 314) (by decide +kernel), List.mem_of_getElem? (i := 312) (by decide +kernel), List.mem_of_getElem? (i := 313) (by decide +kernel)⟩
theorem lw_p2 : lw_okq (⟨"ForgeHeats$Shop", "copyNumbersFrom", "(LForgeHeats$Shop;)V"⟩, 19) := ⟨⟨by decide +kernel, by decide +kernel⟩, List.mem_of_getElem? (i := 24) (by decide +kernel), List.mem_of_getElem? (i := 380) (by decide +kernel), List.mem_of_getElem? (i := 381) (by decide +kernel)⟩
theorem lw_p3 : lw_okq (⟨"ForgeHeats", "numberOf", "(I)I"⟩, 5) := ⟨⟨by decide +kernel, by decide +kernel⟩, List.mem_of_getElem? (i := 16) (by decide +kernel), List.mem_of_getElem? (i := 407) (by decide +kernel), List.mem_of_getElem? (i := 408) (by decide +kernel)⟩
theorem lw_p4 : lw_okq (⟨"ForgeHeats$Shop", "countBilletsOf", "(I)I"⟩, 19) := ⟨⟨by decide +kernel, by decide +kernel⟩, List.mem_of_getElem? (i := 24) (by decide +kernel), List.mem_of_getElem? (i := 477) (by decide +kernel), List.mem_of_getElem? (i := 478) (by decide +kernel)⟩
theorem lw_p5 : lw_okq (⟨"ForgeHeats$Shop", "countLackOf", "(I)I"⟩, 19) := ⟨⟨by decide +kernel, by decide +kernel⟩, List.mem_of_getElem? (i := 24) (by decide +kernel), List.mem_of_getElem? (i := 481) (by decide +kernel), List.mem_of_getElem? (i := 482) (by decide +kernel)⟩
theorem lw_p6 : lw_okq (⟨"ForgeHeats$Shop", "reasonToWait", "(LForgeHeats$Job;)I"⟩, 19) := ⟨⟨by decide +kernel, by decide +kernel⟩, List.mem_of_getElem? (i := 24) (by decide +kernel), List.mem_of_getElem? (i := 518) (by decide +kernel), List.mem_of_getElem? (i := 519) (by decide +kernel)⟩
theorem lw_p7 : lw_okq (⟨"ForgeHeats$Shop", "hottestReady", "(LForgeHeats$Job;)LForgeHeats$Billet;"⟩, 19) := ⟨⟨by decide +kernel, by decide +kernel⟩, List.mem_of_getElem? (i := 24) (by decide +kernel), List.mem_of_getElem? (i := 526) (by decide +kernel), List.mem_of_getElem? (i := 527) (by decide +kernel)⟩
theorem lw_p8 : lw_okq (⟨"ForgeHeats", "remember", "()V"⟩, 5) := ⟨⟨by decide +kernel, by decide +kernel⟩, List.mem_of_getElem? (i := 16) (by decide +kernel), List.mem_of_getElem? (i := 544) (by decide +kernel), List.mem_of_getElem? (i := 545) (by decide +kernel)⟩
theorem lw_p9 : lw_okq (⟨"ForgeHeats", "dropOldest", "()V"⟩, 5) := ⟨⟨by decide +kernel, by decide +kernel⟩, List.mem_of_getElem? (i := 16) (by decide +kernel), List.mem_of_getElem? (i := 548) (by decide +kernel), List.mem_of_getElem? (i := 549) (by decide +kernel)⟩
theorem lw_p10 : lw_okq (⟨"ForgeHeats$Shop", "removeJob", "(I)V"⟩, 19) := ⟨⟨by decide +kernel, by decide +kernel⟩, List.mem_of_getElem? (i := 24) (by decide +kernel), List.mem_of_getElem? (i := 597) (by decide +kernel), List.mem_of_getElem? (i := 598) (by decide +kernel)⟩
theorem lw_p11 : lw_okq (⟨"ForgeHeats$Shop", "swapJobs", "(II)V"⟩, 19) := ⟨⟨by decide +kernel, by decide +kernel⟩, List.mem_of_getElem? (i := 24) (by decide +kernel), List.mem_of_getElem? (i := 601) (by decide +kernel), List.mem_of_getElem? (i := 602) (by decide +kernel)⟩
theorem lw_p12 : lw_okq (⟨"ForgeHeats$Shop", "settle", "(I)I"⟩, 19) := ⟨⟨by decide +kernel, by decide +kernel⟩, List.mem_of_getElem? (i := 24) (by decide +kernel), List.mem_of_getElem? (i := 613) (by decide +kernel), List.mem_of_getElem? (i := 614) (by decide +kernel)⟩
theorem lw_p13 : lw_okq (⟨"ForgeHeats$Shop", "warmFurnace", "()V"⟩, 19) := ⟨⟨by decide +kernel, by decide +kernel⟩, List.mem_of_getElem? (i := 24) (by decide +kernel), List.mem_of_getElem? (i := 646) (by decide +kernel), List.mem_of_getElem? (i := 647) (by decide +kernel)⟩
theorem lw_p14 : lw_okq (⟨"ForgeHeats$Shop", "chargeFurnace", "()V"⟩, 19) := ⟨⟨by decide +kernel, by decide +kernel⟩, List.mem_of_getElem? (i := 24) (by decide +kernel), List.mem_of_getElem? (i := 653) (by decide +kernel), List.mem_of_getElem? (i := 654) (by decide +kernel)⟩
theorem lw_p15 : lw_okq (⟨"ForgeHeats$Shop", "freePlace", "()LForgeHeats$Billet;"⟩, 19) := ⟨⟨by decide +kernel, by decide +kernel⟩, List.mem_of_getElem? (i := 24) (by decide +kernel), List.mem_of_getElem? (i := 657) (by decide +kernel), List.mem_of_getElem? (i := 658) (by decide +kernel)⟩
def lw_privs_1 : List (MethodName × Nat) := [(⟨"ForgeHeats", "pastAt", "(I)LForgeHeats$Shop;"⟩, 5), (⟨"java/lang/Throwable", "fillInStackTrace", "(I)Ljava/lang/Throwable;"⟩, 6), (⟨"ForgeHeats$Shop", "copyNumbersFrom", "(LForgeHeats$Shop;)V"⟩, 19), (⟨"ForgeHeats", "numberOf", "(I)I"⟩, 5), (⟨"ForgeHeats$Shop", "countBilletsOf", "(I)I"⟩, 19), (⟨"ForgeHeats$Shop", "countLackOf", "(I)I"⟩, 19), (⟨"ForgeHeats$Shop", "reasonToWait", "(LForgeHeats$Job;)I"⟩, 19), (⟨"ForgeHeats$Shop", "hottestReady", "(LForgeHeats$Job;)LForgeHeats$Billet;"⟩, 19), (⟨"ForgeHeats", "remember", "()V"⟩, 5), (⟨"ForgeHeats", "dropOldest", "()V"⟩, 5), (⟨"ForgeHeats$Shop", "removeJob", "(I)V"⟩, 19), (⟨"ForgeHeats$Shop", "swapJobs", "(II)V"⟩, 19), (⟨"ForgeHeats$Shop", "settle", "(I)I"⟩, 19), (⟨"ForgeHeats$Shop", "warmFurnace", "()V"⟩, 19), (⟨"ForgeHeats$Shop", "chargeFurnace", "()V"⟩, 19), (⟨"ForgeHeats$Shop", "freePlace", "()LForgeHeats$Billet;"⟩, 19)]
theorem lw_r1 : ∀ q ∈ lw_privs_1, lw_okq q := List.forall_mem_cons.mpr ⟨lw_p0, List.forall_mem_cons.mpr ⟨lw_p1, List.forall_mem_cons.mpr ⟨lw_p2, List.forall_mem_cons.mpr ⟨lw_p3, List.forall_mem_cons.mpr ⟨lw_p4, List.forall_mem_cons.mpr ⟨lw_p5, List.forall_mem_cons.mpr ⟨lw_p6, List.forall_mem_cons.mpr ⟨lw_p7, List.forall_mem_cons.mpr ⟨lw_p8, List.forall_mem_cons.mpr ⟨lw_p9, List.forall_mem_cons.mpr ⟨lw_p10, List.forall_mem_cons.mpr ⟨lw_p11, List.forall_mem_cons.mpr ⟨lw_p12, List.forall_mem_cons.mpr ⟨lw_p13, List.forall_mem_cons.mpr ⟨lw_p14, List.forall_mem_cons.mpr ⟨lw_p15, fun _ h => absurd h List.not_mem_nil⟩⟩⟩⟩⟩⟩⟩⟩⟩⟩⟩⟩⟩⟩⟩⟩
theorem lw_p16 : lw_okq (⟨"ForgeHeats$Shop", "loadPress", "()V"⟩, 19) := ⟨⟨by decide +kernel, by decide +kernel⟩, List.mem_of_getElem? (i := 24) (by decide +kernel), List.mem_of_getElem? (i := 661) (by decide +kernel), List.mem_of_getElem? (i := 662) (by decide +kernel)⟩
theorem lw_p17 : lw_okq (⟨"ForgeHeats$Shop", "workPress", "(I)V"⟩, 19) := ⟨⟨by decide +kernel, by decide +kernel⟩, List.mem_of_getElem? (i := 24) (by decide +kernel), List.mem_of_getElem? (i := 670) (by decide +kernel), List.mem_of_getElem? (i := 671) (by decide +kernel)⟩
theorem lw_p18 : lw_okq (⟨"ForgeHeats$Shop", "sendBack", "(LForgeHeats$Job;LForgeHeats$Heat;)V"⟩, 19) := ⟨⟨by decide +kernel, by decide +kernel⟩, List.mem_of_getElem? (i := 24) (by decide +kernel), List.mem_of_getElem? (i := 674) (by decide +kernel), List.mem_of_getElem? (i := 675) (by decide +kernel)⟩
theorem lw_p19 : lw_okq (⟨"ForgeHeats$Shop", "countGone", "(LForgeHeats$Job;)V"⟩, 19) := ⟨⟨by decide +kernel, by decide +kernel⟩, List.mem_of_getElem? (i := 24) (by decide +kernel), List.mem_of_getElem? (i := 681) (by decide +kernel), List.mem_of_getElem? (i := 682) (by decide +kernel)⟩
theorem lw_p20 : lw_okq (⟨"ForgeHeats$Shop", "tendDies", "()V"⟩, 19) := ⟨⟨by decide +kernel, by decide +kernel⟩, List.mem_of_getElem? (i := 24) (by decide +kernel), List.mem_of_getElem? (i := 685) (by decide +kernel), List.mem_of_getElem? (i := 686) (by decide +kernel)⟩
theorem lw_p21 : lw_okq (⟨"ForgeHeats", "shareMade", "()D"⟩, 5) := ⟨⟨by decide +kernel, by decide +kernel⟩, List.mem_of_getElem? (i := 16) (by decide +kernel), List.mem_of_getElem? (i := 702) (by decide +kernel), List.mem_of_getElem? (i := 703) (by decide +kernel)⟩
def lw_privs_2 : List (MethodName × Nat) := [(⟨"ForgeHeats$Shop", "loadPress", "()V"⟩, 19), (⟨"ForgeHeats$Shop", "workPress", "(I)V"⟩, 19), (⟨"ForgeHeats$Shop", "sendBack", "(LForgeHeats$Job;LForgeHeats$Heat;)V"⟩, 19), (⟨"ForgeHeats$Shop", "countGone", "(LForgeHeats$Job;)V"⟩, 19), (⟨"ForgeHeats$Shop", "tendDies", "()V"⟩, 19), (⟨"ForgeHeats", "shareMade", "()D"⟩, 5)]
theorem lw_r2 : ∀ q ∈ lw_privs_2, lw_okq q := List.forall_mem_cons.mpr ⟨lw_p16, List.forall_mem_cons.mpr ⟨lw_p17, List.forall_mem_cons.mpr ⟨lw_p18, List.forall_mem_cons.mpr ⟨lw_p19, List.forall_mem_cons.mpr ⟨lw_p20, List.forall_mem_cons.mpr ⟨lw_p21, fun _ h => absurd h List.not_mem_nil⟩⟩⟩⟩⟩⟩
def lw_privs : List (MethodName × Nat) := lw_privs_1 ++ (lw_privs_2)
def lw_tbl : List Cond := k2_sels lw_privs ++ tables_1
theorem lw_privs_ok : ∀ q ∈ lw_privs, lw_okq q := by
  show ∀ q ∈ lw_privs_1 ++ (lw_privs_2), lw_okq q
  exact List.forall_mem_append.mpr ⟨lw_r1, lw_r2⟩
/-- the streams that the claim lets the run draw from -/
abbrev lw_cs : List Choice := [Jvm.Choice.named "NaN.bits"]
theorem lw_bits : nanBits ∈ lw_cs := by first | decide | exact List.mem_cons_self | simp [lw_cs, nanBits]
-- ===== end of PART A; then your names; then what follows =====
/-! ===== BEGIN words of one list among another's, by their places ===== -/
theorem goodIn_r {big : List Cond} (ws : List Cond) (ps : List Nat) (hp : ws = ps.filterMap (fun i => big[i]?)) (h : ws.all goodWord = true) : GoodIn big ws := by
  intro w hw
  have h1 := List.all_eq_true.mp h w hw
  rw [hp] at hw
  obtain ⟨i, -, hi⟩ := List.mem_filterMap.mp hw
  have hm : w ∈ big := by first | exact List.mem_of_getElem? hi | exact List.getElem?_mem hi
  exact ⟨hm, good_of_word h1⟩
theorem goodIn_app {big a b : List Cond} (ha : GoodIn big a) (hb : GoodIn big b) : GoodIn big (a ++ b) := fun w h => (List.mem_append.mp h).elim (ha w) (hb w)
theorem goodIn_ca {big a b : List Cond} {c : Cond} (ha : GoodIn big (c :: a)) (hb : GoodIn big b) : GoodIn big (c :: (a ++ b)) := fun w h => (List.mem_cons.mp h).elim (fun e => ha w (List.mem_cons.mpr (Or.inl e))) (fun h => (List.mem_append.mp h).elim (fun h => ha w (List.mem_cons.mpr (Or.inr h))) (hb w))
theorem goodIn_sub {big ws : List Cond} (hm : ∀ w ∈ ws, w ∈ big) (h : ws.all goodWord = true) : GoodIn big ws := fun w hw => ⟨hm w hw, good_of_word (List.all_eq_true.mp h w hw)⟩
/-! ===== END ===== -/
def RX0 : String := "ForgeHeats$Billet"
def TX0 : u_T := fun k => match k with
  | 0 => ("ForgeHeats$Billet", "job", "I", false)
  | 1 => ("ForgeHeats$Billet", "degrees", "I", false)
  | 2 => ("ForgeHeats$Billet", "reheats", "I", false)
  | _ => ("ForgeHeats$Billet", "blows", "I", false)
def tyX0 : Nat → FieldType := fun k => match k with
  | 0 => .int
  | 1 => .int
  | 2 => .int
  | _ => .int
abbrev wsX00 : List Cond := u_ws RX0 TX0 4
theorem nmX0 : ∀ a, a < 4 → ∀ b, b < 4 → a ≠ b → (TX0 a).2.1 ≠ (TX0 b).2.1 := by decide +kernel
theorem tyX0_ok : ∀ k, k < 4 → parseFieldDescriptor (TX0 k).2.2.1 = some (tyX0 k) := by decide +kernel
abbrev cX0_init : ByteArray := prog_2_method_1_code
def yX0_init : MethodName := ⟨RX0, "<init>", "()V"⟩
abbrev cX0_copyFrom : ByteArray := prog_2_method_2_code
def yX0_copyFrom : MethodName := ⟨RX0, "copyFrom", "(LForgeHeats$Billet;)V"⟩
abbrev cX0_property : ByteArray := prog_2_method_3_code
def yX0_property : MethodName := ⟨RX0, "property", "(I)I"⟩
def RX1 : String := "ForgeHeats$Die"
def TX1 : u_T := fun k => match k with
  | 0 => ("ForgeHeats$Die", "blows", "I", false)
  | 1 => ("ForgeHeats$Die", "limit", "I", false)
  | 2 => ("ForgeHeats$Die", "wear", "I", false)
  | 3 => ("ForgeHeats$Die", "toGo", "I", false)
  | 4 => ("ForgeHeats$Die", "made", "I", false)
  | _ => ("ForgeHeats$Die", "timesGround", "I", false)
def tyX1 : Nat → FieldType := fun k => match k with
  | 0 => .int
  | 1 => .int
  | 2 => .int
  | 3 => .int
  | 4 => .int
  | _ => .int
abbrev wsX10 : List Cond := u_ws RX1 TX1 6
theorem nmX1 : ∀ a, a < 6 → ∀ b, b < 6 → a ≠ b → (TX1 a).2.1 ≠ (TX1 b).2.1 := by decide +kernel
theorem tyX1_ok : ∀ k, k < 6 → parseFieldDescriptor (TX1 k).2.2.1 = some (tyX1 k) := by decide +kernel
abbrev cX1_init : ByteArray := prog_3_method_1_code
def yX1_init : MethodName := ⟨RX1, "<init>", "()V"⟩
abbrev cX1_copyFrom : ByteArray := prog_3_method_2_code
def yX1_copyFrom : MethodName := ⟨RX1, "copyFrom", "(LForgeHeats$Die;)V"⟩
abbrev cX1_isBeingGround : ByteArray := prog_3_method_3_code
def yX1_isBeingGround : MethodName := ⟨RX1, "isBeingGround", "()Z"⟩
abbrev cX1_isWornOut : ByteArray := prog_3_method_4_code
def yX1_isWornOut : MethodName := ⟨RX1, "isWornOut", "()Z"⟩
abbrev cX1_canForge : ByteArray := prog_3_method_5_code
def yX1_canForge : MethodName := ⟨RX1, "canForge", "()Z"⟩
abbrev cX1_grindMinute : ByteArray := prog_3_method_6_code
def yX1_grindMinute : MethodName := ⟨RX1, "grindMinute", "()V"⟩
abbrev cX1_property : ByteArray := prog_3_method_7_code
def yX1_property : MethodName := ⟨RX1, "property", "(I)I"⟩
def RX2 : String := "ForgeHeats$Heat"
def TX2 : u_T := fun k => match k with
  | 0 => ("ForgeHeats$Heat", "stock", "I", false)
  | 1 => ("ForgeHeats$Heat", "low", "I", false)
  | 2 => ("ForgeHeats$Heat", "high", "I", false)
  | 3 => ("ForgeHeats$Heat", "made", "I", false)
  | _ => ("ForgeHeats$Heat", "scrap", "I", false)
def tyX2 : Nat → FieldType := fun k => match k with
  | 0 => .int
  | 1 => .int
  | 2 => .int
  | 3 => .int
  | _ => .int
abbrev wsX20 : List Cond := u_ws RX2 TX2 5
theorem nmX2 : ∀ a, a < 5 → ∀ b, b < 5 → a ≠ b → (TX2 a).2.1 ≠ (TX2 b).2.1 := by decide +kernel
theorem tyX2_ok : ∀ k, k < 5 → parseFieldDescriptor (TX2 k).2.2.1 = some (tyX2 k) := by decide +kernel
abbrev cX2_init : ByteArray := prog_4_method_1_code
def yX2_init : MethodName := ⟨RX2, "<init>", "()V"⟩
abbrev cX2_copyFrom : ByteArray := prog_4_method_2_code
def yX2_copyFrom : MethodName := ⟨RX2, "copyFrom", "(LForgeHeats$Heat;)V"⟩
def RX3 : String := "ForgeHeats$Job"
def TX3 : u_T := fun k => match k with
  | 0 => ("ForgeHeats$Job", "number", "I", false)
  | 1 => ("ForgeHeats$Job", "die", "I", false)
  | 2 => ("ForgeHeats$Job", "heat", "I", false)
  | 3 => ("ForgeHeats$Job", "pieces", "I", false)
  | 4 => ("ForgeHeats$Job", "made", "I", false)
  | 5 => ("ForgeHeats$Job", "due", "I", false)
  | 6 => ("ForgeHeats$Job", "isRush", "Z", false)
  | _ => ("ForgeHeats$Job", "billets", "I", false)
def tyX3 : Nat → FieldType := fun k => match k with
  | 0 => .int
  | 1 => .int
  | 2 => .int
  | 3 => .int
  | 4 => .int
  | 5 => .int
  | 6 => .boolean
  | _ => .int
abbrev wsX30 : List Cond := u_ws RX3 TX3 8
theorem nmX3 : ∀ a, a < 8 → ∀ b, b < 8 → a ≠ b → (TX3 a).2.1 ≠ (TX3 b).2.1 := by decide +kernel
theorem tyX3_ok : ∀ k, k < 8 → parseFieldDescriptor (TX3 k).2.2.1 = some (tyX3 k) := by decide +kernel
abbrev cX3_init : ByteArray := prog_5_method_1_code
def yX3_init : MethodName := ⟨RX3, "<init>", "()V"⟩
abbrev cX3_copyFrom : ByteArray := prog_5_method_2_code
def yX3_copyFrom : MethodName := ⟨RX3, "copyFrom", "(LForgeHeats$Job;)V"⟩
abbrev cX3_comesBefore : ByteArray := prog_5_method_3_code
def yX3_comesBefore : MethodName := ⟨RX3, "comesBefore", "(LForgeHeats$Job;)Z"⟩
abbrev cX3_lack : ByteArray := prog_5_method_4_code
def yX3_lack : MethodName := ⟨RX3, "lack", "()I"⟩
def RX4 : String := "ForgeHeats$JobText"
def TX4 : u_T := fun k => match k with
  | 0 => ("ForgeHeats$JobText", "codes", "[C", true)
  | 1 => ("ForgeHeats$JobText", "length", "I", false)
  | 2 => ("ForgeHeats$JobText", "position", "I", false)
  | 3 => ("ForgeHeats$JobText", "expected", "I", false)
  | 4 => ("ForgeHeats$JobText", "pieces", "I", false)
  | 5 => ("ForgeHeats$JobText", "die", "I", false)
  | 6 => ("ForgeHeats$JobText", "heat", "I", false)
  | 7 => ("ForgeHeats$JobText", "due", "I", false)
  | _ => ("ForgeHeats$JobText", "isRush", "Z", false)
def tyX4 : Nat → FieldType := fun k => match k with
  | 0 => .array .char
  | 1 => .int
  | 2 => .int
  | 3 => .int
  | 4 => .int
  | 5 => .int
  | 6 => .int
  | 7 => .int
  | _ => .boolean
abbrev wsX40 : List Cond := u_ws RX4 TX4 9
theorem nmX4 : ∀ a, a < 9 → ∀ b, b < 9 → a ≠ b → (TX4 a).2.1 ≠ (TX4 b).2.1 := by decide +kernel
theorem tyX4_ok : ∀ k, k < 9 → parseFieldDescriptor (TX4 k).2.2.1 = some (tyX4 k) := by decide +kernel
abbrev cX4_init : ByteArray := prog_6_method_1_code
def yX4_init : MethodName := ⟨RX4, "<init>", "()V"⟩
def RX5 : String := "ForgeHeats$Shop"
def TX5 : u_T := fun k => match k with
  | 0 => ("ForgeHeats$Shop", "heats", "[LForgeHeats$Heat;", true)
  | 1 => ("ForgeHeats$Shop", "dies", "[LForgeHeats$Die;", true)
  | 2 => ("ForgeHeats$Shop", "jobs", "[LForgeHeats$Job;", true)
  | 3 => ("ForgeHeats$Shop", "furnace", "[LForgeHeats$Billet;", true)
  | 4 => ("ForgeHeats$Shop", "press", "LForgeHeats$Billet;", true)
  | 5 => ("ForgeHeats$Shop", "jobCount", "I", false)
  | 6 => ("ForgeHeats$Shop", "nextNumber", "I", false)
  | 7 => ("ForgeHeats$Shop", "warming", "I", false)
  | 8 => ("ForgeHeats$Shop", "cooling", "I", false)
  | 9 => ("ForgeHeats$Shop", "reheats", "I", false)
  | 10 => ("ForgeHeats$Shop", "grinding", "I", false)
  | 11 => ("ForgeHeats$Shop", "minutes", "I", false)
  | 12 => ("ForgeHeats$Shop", "blows", "I", false)
  | 13 => ("ForgeHeats$Shop", "goneJobs", "I", false)
  | 14 => ("ForgeHeats$Shop", "lateJobs", "I", false)
  | 15 => ("ForgeHeats$Shop", "lateMinutes", "I", false)
  | 16 => ("ForgeHeats$Shop", "noHeat", "LForgeHeats$Heat;", true)
  | 17 => ("ForgeHeats$Shop", "noDie", "LForgeHeats$Die;", true)
  | _ => ("ForgeHeats$Shop", "noJob", "LForgeHeats$Job;", true)
def tyX5 : Nat → FieldType := fun k => match k with
  | 0 => .array (.object "ForgeHeats$Heat")
  | 1 => .array (.object "ForgeHeats$Die")
  | 2 => .array (.object "ForgeHeats$Job")
  | 3 => .array (.object "ForgeHeats$Billet")
  | 4 => .object "ForgeHeats$Billet"
  | 5 => .int
  | 6 => .int
  | 7 => .int
  | 8 => .int
  | 9 => .int
  | 10 => .int
  | 11 => .int
  | 12 => .int
  | 13 => .int
  | 14 => .int
  | 15 => .int
  | 16 => .object "ForgeHeats$Heat"
  | 17 => .object "ForgeHeats$Die"
  | _ => .object "ForgeHeats$Job"
abbrev wsX50 : List Cond := u_ws RX5 TX5 19
theorem nmX5 : ∀ a, a < 19 → ∀ b, b < 19 → a ≠ b → (TX5 a).2.1 ≠ (TX5 b).2.1 := by decide +kernel
theorem tyX5_ok : ∀ k, k < 19 → parseFieldDescriptor (TX5 k).2.2.1 = some (tyX5 k) := by decide +kernel
abbrev cX5_init : ByteArray := prog_7_method_1_code
def yX5_init : MethodName := ⟨RX5, "<init>", "()V"⟩
abbrev cX5_copyFrom : ByteArray := prog_7_method_2_code
def yX5_copyFrom : MethodName := ⟨RX5, "copyFrom", "(LForgeHeats$Shop;)V"⟩
abbrev cX5_copyNumbersFrom : ByteArray := prog_7_method_3_code
def yX5_copyNumbersFrom : MethodName := ⟨RX5, "copyNumbersFrom", "(LForgeHeats$Shop;)V"⟩
abbrev cX5_heatAt : ByteArray := prog_7_method_4_code
def yX5_heatAt : MethodName := ⟨RX5, "heatAt", "(I)LForgeHeats$Heat;"⟩
abbrev cX5_dieAt : ByteArray := prog_7_method_5_code
def yX5_dieAt : MethodName := ⟨RX5, "dieAt", "(I)LForgeHeats$Die;"⟩
abbrev cX5_jobAt : ByteArray := prog_7_method_6_code
def yX5_jobAt : MethodName := ⟨RX5, "jobAt", "(I)LForgeHeats$Job;"⟩
abbrev cX5_billetAt : ByteArray := prog_7_method_7_code
def yX5_billetAt : MethodName := ⟨RX5, "billetAt", "(I)LForgeHeats$Billet;"⟩
abbrev cX5_addJob : ByteArray := prog_7_method_8_code
def yX5_addJob : MethodName := ⟨RX5, "addJob", "(IIIIZ)I"⟩
abbrev cX5_hasten : ByteArray := prog_7_method_9_code
def yX5_hasten : MethodName := ⟨RX5, "hasten", "(IZ)I"⟩
abbrev cX5_settle : ByteArray := prog_7_method_10_code
def yX5_settle : MethodName := ⟨RX5, "settle", "(I)I"⟩
abbrev cX5_swapJobs : ByteArray := prog_7_method_11_code
def yX5_swapJobs : MethodName := ⟨RX5, "swapJobs", "(II)V"⟩
abbrev cX5_placeOf : ByteArray := prog_7_method_12_code
def yX5_placeOf : MethodName := ⟨RX5, "placeOf", "(I)I"⟩
abbrev cX5_removeJob : ByteArray := prog_7_method_13_code
def yX5_removeJob : MethodName := ⟨RX5, "removeJob", "(I)V"⟩
abbrev cX5_dropJob : ByteArray := prog_7_method_14_code
def yX5_dropJob : MethodName := ⟨RX5, "dropJob", "(I)I"⟩
abbrev cX5_valueOf : ByteArray := prog_7_method_15_code
def yX5_valueOf : MethodName := ⟨RX5, "valueOf", "(I)I"⟩
abbrev cX5_putValue : ByteArray := prog_7_method_16_code
def yX5_putValue : MethodName := ⟨RX5, "putValue", "(II)V"⟩
abbrev cX5_countMade : ByteArray := prog_7_method_17_code
def yX5_countMade : MethodName := ⟨RX5, "countMade", "()I"⟩
abbrev cX5_countScrap : ByteArray := prog_7_method_18_code
def yX5_countScrap : MethodName := ⟨RX5, "countScrap", "()I"⟩
abbrev cX5_countRushJobs : ByteArray := prog_7_method_19_code
def yX5_countRushJobs : MethodName := ⟨RX5, "countRushJobs", "()I"⟩
abbrev cX5_countInFurnace : ByteArray := prog_7_method_20_code
def yX5_countInFurnace : MethodName := ⟨RX5, "countInFurnace", "()I"⟩
abbrev cX5_heatProperty : ByteArray := prog_7_method_21_code
def yX5_heatProperty : MethodName := ⟨RX5, "heatProperty", "(II)I"⟩
abbrev cX5_countBilletsOf : ByteArray := prog_7_method_22_code
def yX5_countBilletsOf : MethodName := ⟨RX5, "countBilletsOf", "(I)I"⟩
abbrev cX5_countLackOf : ByteArray := prog_7_method_23_code
def yX5_countLackOf : MethodName := ⟨RX5, "countLackOf", "(I)I"⟩
abbrev cX5_jobProperty : ByteArray := prog_7_method_24_code
def yX5_jobProperty : MethodName := ⟨RX5, "jobProperty", "(II)I"⟩
abbrev cX5_reasonToWait : ByteArray := prog_7_method_25_code
def yX5_reasonToWait : MethodName := ⟨RX5, "reasonToWait", "(LForgeHeats$Job;)I"⟩
abbrev cX5_dieBeingGround : ByteArray := prog_7_method_26_code
def yX5_dieBeingGround : MethodName := ⟨RX5, "dieBeingGround", "()I"⟩
abbrev cX5_freePlace : ByteArray := prog_7_method_27_code
def yX5_freePlace : MethodName := ⟨RX5, "freePlace", "()LForgeHeats$Billet;"⟩
abbrev cX5_hottestReady : ByteArray := prog_7_method_28_code
def yX5_hottestReady : MethodName := ⟨RX5, "hottestReady", "(LForgeHeats$Job;)LForgeHeats$Billet;"⟩
abbrev cX5_passMinutes : ByteArray := prog_7_method_29_code
def yX5_passMinutes : MethodName := ⟨RX5, "passMinutes", "(I)V"⟩
abbrev cX5_passMinute : ByteArray := prog_7_method_30_code
def yX5_passMinute : MethodName := ⟨RX5, "passMinute", "()V"⟩
abbrev cX5_warmFurnace : ByteArray := prog_7_method_31_code
def yX5_warmFurnace : MethodName := ⟨RX5, "warmFurnace", "()V"⟩
abbrev cX5_chargeFurnace : ByteArray := prog_7_method_32_code
def yX5_chargeFurnace : MethodName := ⟨RX5, "chargeFurnace", "()V"⟩
abbrev cX5_loadPress : ByteArray := prog_7_method_33_code
def yX5_loadPress : MethodName := ⟨RX5, "loadPress", "()V"⟩
abbrev cX5_workPress : ByteArray := prog_7_method_34_code
def yX5_workPress : MethodName := ⟨RX5, "workPress", "(I)V"⟩
abbrev cX5_sendBack : ByteArray := prog_7_method_35_code
def yX5_sendBack : MethodName := ⟨RX5, "sendBack", "(LForgeHeats$Job;LForgeHeats$Heat;)V"⟩
abbrev cX5_countGone : ByteArray := prog_7_method_36_code
def yX5_countGone : MethodName := ⟨RX5, "countGone", "(LForgeHeats$Job;)V"⟩
abbrev cX5_tendDies : ByteArray := prog_7_method_37_code
def yX5_tendDies : MethodName := ⟨RX5, "tendDies", "()V"⟩
def RX6 : String := "ForgeHeats"
def TX6 : u_T := fun k => match k with
  | 0 => ("ForgeHeats", "shop", "LForgeHeats$Shop;", true)
  | 1 => ("ForgeHeats", "trial", "LForgeHeats$Shop;", true)
  | 2 => ("ForgeHeats", "past", "[LForgeHeats$Shop;", true)
  | 3 => ("ForgeHeats", "pastStates", "I", false)
  | _ => ("ForgeHeats", "text", "LForgeHeats$JobText;", true)
def tyX6 : Nat → FieldType := fun k => match k with
  | 0 => .object "ForgeHeats$Shop"
  | 1 => .object "ForgeHeats$Shop"
  | 2 => .array (.object "ForgeHeats$Shop")
  | 3 => .int
  | _ => .object "ForgeHeats$JobText"
abbrev wsX60 : List Cond := u_ws RX6 TX6 5
theorem nmX6 : ∀ a, a < 5 → ∀ b, b < 5 → a ≠ b → (TX6 a).2.1 ≠ (TX6 b).2.1 := by decide +kernel
theorem tyX6_ok : ∀ k, k < 5 → parseFieldDescriptor (TX6 k).2.2.1 = some (tyX6 k) := by decide +kernel
abbrev cX6_init : ByteArray := prog_1_method_1_code
def yX6_init : MethodName := ⟨RX6, "<init>", "()V"⟩
abbrev cX6_stock : ByteArray := prog_1_method_2_code
def yX6_stock : MethodName := ⟨RX6, "stock", "(II)I"⟩
abbrev cX6_range : ByteArray := prog_1_method_3_code
def yX6_range : MethodName := ⟨RX6, "range", "(III)I"⟩
abbrev cX6_die : ByteArray := prog_1_method_4_code
def yX6_die : MethodName := ⟨RX6, "die", "(III)I"⟩
abbrev cX6_grind : ByteArray := prog_1_method_5_code
def yX6_grind : MethodName := ⟨RX6, "grind", "(I)I"⟩
abbrev cX6_job : ByteArray := prog_1_method_6_code
def yX6_job : MethodName := ⟨RX6, "job", "(IIIIZ)I"⟩
abbrev cX6_cancel : ByteArray := prog_1_method_7_code
def yX6_cancel : MethodName := ⟨RX6, "cancel", "(I)I"⟩
abbrev cX6_rush : ByteArray := prog_1_method_8_code
def yX6_rush : MethodName := ⟨RX6, "rush", "(IZ)I"⟩
abbrev cX6_set : ByteArray := prog_1_method_9_code
def yX6_set : MethodName := ⟨RX6, "set", "(II)I"⟩
abbrev cX6_pass : ByteArray := prog_1_method_10_code
def yX6_pass : MethodName := ⟨RX6, "pass", "(I)I"⟩
abbrev cX6_undo : ByteArray := prog_1_method_15_code
def yX6_undo : MethodName := ⟨RX6, "undo", "()I"⟩
abbrev cX6_heat : ByteArray := prog_1_method_16_code
def yX6_heat : MethodName := ⟨RX6, "heat", "(II)I"⟩
abbrev cX6_dieOf : ByteArray := prog_1_method_17_code
def yX6_dieOf : MethodName := ⟨RX6, "dieOf", "(II)I"⟩
abbrev cX6_jobOf : ByteArray := prog_1_method_18_code
def yX6_jobOf : MethodName := ⟨RX6, "jobOf", "(II)I"⟩
abbrev cX6_billet : ByteArray := prog_1_method_19_code
def yX6_billet : MethodName := ⟨RX6, "billet", "(II)I"⟩
abbrev cX6_count : ByteArray := prog_1_method_20_code
def yX6_count : MethodName := ⟨RX6, "count", "(I)I"⟩
abbrev cX6_setting : ByteArray := prog_1_method_21_code
def yX6_setting : MethodName := ⟨RX6, "setting", "(I)I"⟩
abbrev cX6_saved : ByteArray := prog_1_method_26_code
def yX6_saved : MethodName := ⟨RX6, "saved", "()D"⟩
abbrev cX6_isWithin : ByteArray := prog_1_method_28_code
def yX6_isWithin : MethodName := ⟨RX6, "isWithin", "(III)Z"⟩
abbrev cX6_leastValue : ByteArray := prog_1_method_29_code
def yX6_leastValue : MethodName := ⟨RX6, "leastValue", "(I)I"⟩
abbrev cX6_mostValue : ByteArray := prog_1_method_30_code
def yX6_mostValue : MethodName := ⟨RX6, "mostValue", "(I)I"⟩
abbrev cX6_remember : ByteArray := prog_1_method_31_code
def yX6_remember : MethodName := ⟨RX6, "remember", "()V"⟩
abbrev cX6_dropOldest : ByteArray := prog_1_method_32_code
def yX6_dropOldest : MethodName := ⟨RX6, "dropOldest", "()V"⟩
abbrev cX6_pastAt : ByteArray := prog_1_method_33_code
def yX6_pastAt : MethodName := ⟨RX6, "pastAt", "(I)LForgeHeats$Shop;"⟩
abbrev cX6_numberOf : ByteArray := prog_1_method_34_code
def yX6_numberOf : MethodName := ⟨RX6, "numberOf", "(I)I"⟩
abbrev cX6_shareMade : ByteArray := prog_1_method_41_code
def yX6_shareMade : MethodName := ⟨RX6, "shareMade", "()D"⟩
def RX7 : String := "ForgeHeatsModel"
def TX7 : u_T := fun k => match k with
  | _ => ("", "", "", false)
def tyX7 : Nat → FieldType := fun k => match k with
  | _ => .int
abbrev wsX70 : List Cond := u_ws RX7 TX7 0
theorem nmX7 : ∀ a, a < 0 → ∀ b, b < 0 → a ≠ b → (TX7 a).2.1 ≠ (TX7 b).2.1 := by decide +kernel
theorem tyX7_ok : ∀ k, k < 0 → parseFieldDescriptor (TX7 k).2.2.1 = some (tyX7 k) := by decide +kernel
def RJ9 : String := "java/lang/Math"
def TJ9 : u_T := fun k => match k with
  | _ => ("", "", "", false)
def tyJ9 : Nat → FieldType := fun k => match k with
  | _ => .int
abbrev wsJ90 : List Cond := u_ws RJ9 TJ9 0
abbrev cJ9_max_7cf53 : ByteArray := prog_14_method_65_code
def yJ9_max_7cf53 : MethodName := ⟨RJ9, "max", "(II)I"⟩
abbrev cJ9_min_7cf53 : ByteArray := prog_14_method_69_code
def yJ9_min_7cf53 : MethodName := ⟨RJ9, "min", "(II)I"⟩
def RJ0 : String := "java/lang/String"
def TJ0 : u_T := fun k => match k with
  | _ => ("", "", "", false)
def tyJ0 : Nat → FieldType := fun k => match k with
  | _ => .int
abbrev wsJ00 : List Cond := u_ws RJ0 TJ0 0
def RL : String := "ForgeHeatsLaw"
abbrev cL_cell : ByteArray := method_2_code
def yL_cell : MethodName := ⟨RL, "cell", "([II)I"⟩
abbrev cL_low : ByteArray := method_3_code
def yL_low : MethodName := ⟨RL, "low", "(II)I"⟩
abbrev cL_told : ByteArray := method_4_code
def yL_told : MethodName := ⟨RL, "told", "(LForgeHeats;)J"⟩
abbrev cL_acts : ByteArray := method_5_code
def yL_acts : MethodName := ⟨RL, "acts", "(LForgeHeats;II)I"⟩
abbrev cL_holds : ByteArray := method_6_code
def yL_holds : MethodName := ⟨RL, "holds", "(LForgeHeats;[I)Z"⟩
abbrev cL_law : ByteArray := code
def yL_law : MethodName := ⟨RL, "law", "([I)Z"⟩
end
section
theorem dX0_init_0 : decode cX0_init 0 = .ok (.aload_n 0, 1) := by decide +kernel
theorem dX0_init_1 : decode cX0_init 1 = .ok (.invokespecial 3, 3) := by decide +kernel
theorem dX0_init_4 : decode cX0_init 4 = .ok (.aload_n 0, 1) := by decide +kernel
theorem dX0_init_5 : decode cX0_init 5 = .ok (.iconst (-1), 1) := by decide +kernel
theorem dX0_init_6 : decode cX0_init 6 = .ok (.putfield 9, 3) := by decide +kernel
theorem dX0_init_9 : decode cX0_init 9 = .ok (.return_, 1) := by decide +kernel
theorem dX0_copyFrom_0 : decode cX0_copyFrom 0 = .ok (.aload_n 0, 1) := by decide +kernel
theorem dX0_copyFrom_1 : decode cX0_copyFrom 1 = .ok (.aload_n 1, 1) := by decide +kernel
theorem dX0_copyFrom_2 : decode cX0_copyFrom 2 = .ok (.getfield 9, 3) := by decide +kernel
theorem dX0_copyFrom_5 : decode cX0_copyFrom 5 = .ok (.putfield 9, 3) := by decide +kernel
theorem dX0_copyFrom_8 : decode cX0_copyFrom 8 = .ok (.aload_n 0, 1) := by decide +kernel
theorem dX0_copyFrom_9 : decode cX0_copyFrom 9 = .ok (.aload_n 1, 1) := by decide +kernel
theorem dX0_copyFrom_10 : decode cX0_copyFrom 10 = .ok (.getfield 15, 3) := by decide +kernel
theorem dX0_copyFrom_13 : decode cX0_copyFrom 13 = .ok (.putfield 15, 3) := by decide +kernel
theorem dX0_copyFrom_16 : decode cX0_copyFrom 16 = .ok (.aload_n 0, 1) := by decide +kernel
theorem dX0_copyFrom_17 : decode cX0_copyFrom 17 = .ok (.aload_n 1, 1) := by decide +kernel
theorem dX0_copyFrom_18 : decode cX0_copyFrom 18 = .ok (.getfield 18, 3) := by decide +kernel
theorem dX0_copyFrom_21 : decode cX0_copyFrom 21 = .ok (.putfield 18, 3) := by decide +kernel
theorem dX0_copyFrom_24 : decode cX0_copyFrom 24 = .ok (.aload_n 0, 1) := by decide +kernel
theorem dX0_copyFrom_25 : decode cX0_copyFrom 25 = .ok (.aload_n 1, 1) := by decide +kernel
theorem dX0_copyFrom_26 : decode cX0_copyFrom 26 = .ok (.getfield 21, 3) := by decide +kernel
theorem dX0_copyFrom_29 : decode cX0_copyFrom 29 = .ok (.putfield 21, 3) := by decide +kernel
theorem dX0_copyFrom_32 : decode cX0_copyFrom 32 = .ok (.return_, 1) := by decide +kernel
theorem dX0_property_0 : decode cX0_property 0 = .ok (.aload_n 0, 1) := by decide +kernel
theorem dX0_property_1 : decode cX0_property 1 = .ok (.getfield 9, 3) := by decide +kernel
theorem dX0_property_4 : decode cX0_property 4 = .ok (.iconst (-1), 1) := by decide +kernel
theorem dX0_property_5 : decode cX0_property 5 = .ok (.if_icmp .ne 5, 3) := by decide +kernel
theorem dX0_property_8 : decode cX0_property 8 = .ok (.iconst (-1), 1) := by decide +kernel
theorem dX0_property_9 : decode cX0_property 9 = .ok (.ireturn, 1) := by decide +kernel
theorem dX0_property_10 : decode cX0_property 10 = .ok (.iload_n 1, 1) := by decide +kernel
theorem dX0_property_11 : decode cX0_property 11 = .ok (.tableswitch 40 0 2 #[25, 30, 35], 25) := by decide +kernel
theorem dX0_property_36 : decode cX0_property 36 = .ok (.aload_n 0, 1) := by decide +kernel
theorem dX0_property_37 : decode cX0_property 37 = .ok (.getfield 9, 3) := by decide +kernel
theorem dX0_property_40 : decode cX0_property 40 = .ok (.ireturn, 1) := by decide +kernel
theorem dX0_property_41 : decode cX0_property 41 = .ok (.aload_n 0, 1) := by decide +kernel
theorem dX0_property_42 : decode cX0_property 42 = .ok (.getfield 15, 3) := by decide +kernel
theorem dX0_property_45 : decode cX0_property 45 = .ok (.ireturn, 1) := by decide +kernel
theorem dX0_property_46 : decode cX0_property 46 = .ok (.aload_n 0, 1) := by decide +kernel
theorem dX0_property_47 : decode cX0_property 47 = .ok (.getfield 18, 3) := by decide +kernel
theorem dX0_property_50 : decode cX0_property 50 = .ok (.ireturn, 1) := by decide +kernel
theorem dX0_property_51 : decode cX0_property 51 = .ok (.aload_n 0, 1) := by decide +kernel
theorem dX0_property_52 : decode cX0_property 52 = .ok (.getfield 21, 3) := by decide +kernel
theorem dX0_property_55 : decode cX0_property 55 = .ok (.ireturn, 1) := by decide +kernel
theorem dX1_init_0 : decode cX1_init 0 = .ok (.aload_n 0, 1) := by decide +kernel
theorem dX1_init_1 : decode cX1_init 1 = .ok (.invokespecial 3, 3) := by decide +kernel
theorem dX1_init_4 : decode cX1_init 4 = .ok (.aload_n 0, 1) := by decide +kernel
theorem dX1_init_5 : decode cX1_init 5 = .ok (.iconst 3, 1) := by decide +kernel
theorem dX1_init_6 : decode cX1_init 6 = .ok (.putfield 9, 3) := by decide +kernel
theorem dX1_init_9 : decode cX1_init 9 = .ok (.aload_n 0, 1) := by decide +kernel
theorem dX1_init_10 : decode cX1_init 10 = .ok (.bipush 60, 2) := by decide +kernel
theorem dX1_init_12 : decode cX1_init 12 = .ok (.putfield 15, 3) := by decide +kernel
theorem dX1_init_15 : decode cX1_init 15 = .ok (.return_, 1) := by decide +kernel
theorem dX1_copyFrom_0 : decode cX1_copyFrom 0 = .ok (.aload_n 0, 1) := by decide +kernel
theorem dX1_copyFrom_1 : decode cX1_copyFrom 1 = .ok (.aload_n 1, 1) := by decide +kernel
theorem dX1_copyFrom_2 : decode cX1_copyFrom 2 = .ok (.getfield 9, 3) := by decide +kernel
theorem dX1_copyFrom_5 : decode cX1_copyFrom 5 = .ok (.putfield 9, 3) := by decide +kernel
theorem dX1_copyFrom_8 : decode cX1_copyFrom 8 = .ok (.aload_n 0, 1) := by decide +kernel
theorem dX1_copyFrom_9 : decode cX1_copyFrom 9 = .ok (.aload_n 1, 1) := by decide +kernel
theorem dX1_copyFrom_10 : decode cX1_copyFrom 10 = .ok (.getfield 15, 3) := by decide +kernel
theorem dX1_copyFrom_13 : decode cX1_copyFrom 13 = .ok (.putfield 15, 3) := by decide +kernel
theorem dX1_copyFrom_16 : decode cX1_copyFrom 16 = .ok (.aload_n 0, 1) := by decide +kernel
theorem dX1_copyFrom_17 : decode cX1_copyFrom 17 = .ok (.aload_n 1, 1) := by decide +kernel
theorem dX1_copyFrom_18 : decode cX1_copyFrom 18 = .ok (.getfield 18, 3) := by decide +kernel
theorem dX1_copyFrom_21 : decode cX1_copyFrom 21 = .ok (.putfield 18, 3) := by decide +kernel
theorem dX1_copyFrom_24 : decode cX1_copyFrom 24 = .ok (.aload_n 0, 1) := by decide +kernel
theorem dX1_copyFrom_25 : decode cX1_copyFrom 25 = .ok (.aload_n 1, 1) := by decide +kernel
theorem dX1_copyFrom_26 : decode cX1_copyFrom 26 = .ok (.getfield 21, 3) := by decide +kernel
theorem dX1_copyFrom_29 : decode cX1_copyFrom 29 = .ok (.putfield 21, 3) := by decide +kernel
theorem dX1_copyFrom_32 : decode cX1_copyFrom 32 = .ok (.aload_n 0, 1) := by decide +kernel
theorem dX1_copyFrom_33 : decode cX1_copyFrom 33 = .ok (.aload_n 1, 1) := by decide +kernel
theorem dX1_copyFrom_34 : decode cX1_copyFrom 34 = .ok (.getfield 24, 3) := by decide +kernel
theorem dX1_copyFrom_37 : decode cX1_copyFrom 37 = .ok (.putfield 24, 3) := by decide +kernel
theorem dX1_copyFrom_40 : decode cX1_copyFrom 40 = .ok (.aload_n 0, 1) := by decide +kernel
theorem dX1_copyFrom_41 : decode cX1_copyFrom 41 = .ok (.aload_n 1, 1) := by decide +kernel
theorem dX1_copyFrom_42 : decode cX1_copyFrom 42 = .ok (.getfield 27, 3) := by decide +kernel
theorem dX1_copyFrom_45 : decode cX1_copyFrom 45 = .ok (.putfield 27, 3) := by decide +kernel
theorem dX1_copyFrom_48 : decode cX1_copyFrom 48 = .ok (.return_, 1) := by decide +kernel
theorem dX1_isBeingGround_0 : decode cX1_isBeingGround 0 = .ok (.aload_n 0, 1) := by decide +kernel
theorem dX1_isBeingGround_1 : decode cX1_isBeingGround 1 = .ok (.getfield 21, 3) := by decide +kernel
theorem dX1_isBeingGround_4 : decode cX1_isBeingGround 4 = .ok (.ifCond .le 7, 3) := by decide +kernel
theorem dX1_isBeingGround_7 : decode cX1_isBeingGround 7 = .ok (.iconst 1, 1) := by decide +kernel
theorem dX1_isBeingGround_8 : decode cX1_isBeingGround 8 = .ok (.goto 4, 3) := by decide +kernel
theorem dX1_isBeingGround_11 : decode cX1_isBeingGround 11 = .ok (.iconst 0, 1) := by decide +kernel
theorem dX1_isBeingGround_12 : decode cX1_isBeingGround 12 = .ok (.ireturn, 1) := by decide +kernel
theorem dX1_isWornOut_0 : decode cX1_isWornOut 0 = .ok (.aload_n 0, 1) := by decide +kernel
theorem dX1_isWornOut_1 : decode cX1_isWornOut 1 = .ok (.getfield 18, 3) := by decide +kernel
theorem dX1_isWornOut_4 : decode cX1_isWornOut 4 = .ok (.aload_n 0, 1) := by decide +kernel
theorem dX1_isWornOut_5 : decode cX1_isWornOut 5 = .ok (.getfield 15, 3) := by decide +kernel
theorem dX1_isWornOut_8 : decode cX1_isWornOut 8 = .ok (.if_icmp .lt 7, 3) := by decide +kernel
theorem dX1_isWornOut_11 : decode cX1_isWornOut 11 = .ok (.iconst 1, 1) := by decide +kernel
theorem dX1_isWornOut_12 : decode cX1_isWornOut 12 = .ok (.goto 4, 3) := by decide +kernel
theorem dX1_isWornOut_15 : decode cX1_isWornOut 15 = .ok (.iconst 0, 1) := by decide +kernel
theorem dX1_isWornOut_16 : decode cX1_isWornOut 16 = .ok (.ireturn, 1) := by decide +kernel
theorem dX1_canForge_0 : decode cX1_canForge 0 = .ok (.aload_n 0, 1) := by decide +kernel
theorem dX1_canForge_1 : decode cX1_canForge 1 = .ok (.getfield 21, 3) := by decide +kernel
theorem dX1_canForge_4 : decode cX1_canForge 4 = .ok (.ifCond .gt 18, 3) := by decide +kernel
theorem dX1_canForge_7 : decode cX1_canForge 7 = .ok (.aload_n 0, 1) := by decide +kernel
theorem dX1_canForge_8 : decode cX1_canForge 8 = .ok (.getfield 18, 3) := by decide +kernel
theorem dX1_canForge_11 : decode cX1_canForge 11 = .ok (.aload_n 0, 1) := by decide +kernel
theorem dX1_canForge_12 : decode cX1_canForge 12 = .ok (.getfield 15, 3) := by decide +kernel
theorem dX1_canForge_15 : decode cX1_canForge 15 = .ok (.if_icmp .ge 7, 3) := by decide +kernel
theorem dX1_canForge_18 : decode cX1_canForge 18 = .ok (.iconst 1, 1) := by decide +kernel
theorem dX1_canForge_19 : decode cX1_canForge 19 = .ok (.goto 4, 3) := by decide +kernel
theorem dX1_canForge_22 : decode cX1_canForge 22 = .ok (.iconst 0, 1) := by decide +kernel
theorem dX1_canForge_23 : decode cX1_canForge 23 = .ok (.ireturn, 1) := by decide +kernel
theorem dX1_grindMinute_0 : decode cX1_grindMinute 0 = .ok (.aload_n 0, 1) := by decide +kernel
theorem dX1_grindMinute_1 : decode cX1_grindMinute 1 = .ok (.dup, 1) := by decide +kernel
theorem dX1_grindMinute_2 : decode cX1_grindMinute 2 = .ok (.getfield 21, 3) := by decide +kernel
theorem dX1_grindMinute_5 : decode cX1_grindMinute 5 = .ok (.iconst 1, 1) := by decide +kernel
theorem dX1_grindMinute_6 : decode cX1_grindMinute 6 = .ok (.isub, 1) := by decide +kernel
theorem dX1_grindMinute_7 : decode cX1_grindMinute 7 = .ok (.putfield 21, 3) := by decide +kernel
theorem dX1_grindMinute_10 : decode cX1_grindMinute 10 = .ok (.aload_n 0, 1) := by decide +kernel
theorem dX1_grindMinute_11 : decode cX1_grindMinute 11 = .ok (.getfield 21, 3) := by decide +kernel
theorem dX1_grindMinute_14 : decode cX1_grindMinute 14 = .ok (.ifCond .gt 33, 3) := by decide +kernel
theorem dX1_grindMinute_17 : decode cX1_grindMinute 17 = .ok (.aload_n 0, 1) := by decide +kernel
theorem dX1_grindMinute_18 : decode cX1_grindMinute 18 = .ok (.iconst 0, 1) := by decide +kernel
theorem dX1_grindMinute_19 : decode cX1_grindMinute 19 = .ok (.putfield 18, 3) := by decide +kernel
theorem dX1_grindMinute_22 : decode cX1_grindMinute 22 = .ok (.aload_n 0, 1) := by decide +kernel
theorem dX1_grindMinute_23 : decode cX1_grindMinute 23 = .ok (.bipush 10, 2) := by decide +kernel
theorem dX1_grindMinute_25 : decode cX1_grindMinute 25 = .ok (.aload_n 0, 1) := by decide +kernel
theorem dX1_grindMinute_26 : decode cX1_grindMinute 26 = .ok (.getfield 15, 3) := by decide +kernel
theorem dX1_grindMinute_29 : decode cX1_grindMinute 29 = .ok (.iconst 5, 1) := by decide +kernel
theorem dX1_grindMinute_30 : decode cX1_grindMinute 30 = .ok (.isub, 1) := by decide +kernel
theorem dX1_grindMinute_31 : decode cX1_grindMinute 31 = .ok (.invokestatic 30, 3) := by decide +kernel
theorem dX1_grindMinute_34 : decode cX1_grindMinute 34 = .ok (.putfield 15, 3) := by decide +kernel
theorem dX1_grindMinute_37 : decode cX1_grindMinute 37 = .ok (.aload_n 0, 1) := by decide +kernel
theorem dX1_grindMinute_38 : decode cX1_grindMinute 38 = .ok (.dup, 1) := by decide +kernel
theorem dX1_grindMinute_39 : decode cX1_grindMinute 39 = .ok (.getfield 27, 3) := by decide +kernel
theorem dX1_grindMinute_42 : decode cX1_grindMinute 42 = .ok (.iconst 1, 1) := by decide +kernel
theorem dX1_grindMinute_43 : decode cX1_grindMinute 43 = .ok (.iadd, 1) := by decide +kernel
theorem dX1_grindMinute_44 : decode cX1_grindMinute 44 = .ok (.putfield 27, 3) := by decide +kernel
theorem dX1_grindMinute_47 : decode cX1_grindMinute 47 = .ok (.return_, 1) := by decide +kernel
theorem dX1_property_0 : decode cX1_property 0 = .ok (.iload_n 1, 1) := by decide +kernel
theorem dX1_property_1 : decode cX1_property 1 = .ok (.tableswitch 60 0 4 #[35, 40, 45, 50, 55], 35) := by decide +kernel
theorem dX1_property_36 : decode cX1_property 36 = .ok (.aload_n 0, 1) := by decide +kernel
theorem dX1_property_37 : decode cX1_property 37 = .ok (.getfield 9, 3) := by decide +kernel
theorem dX1_property_40 : decode cX1_property 40 = .ok (.ireturn, 1) := by decide +kernel
theorem dX1_property_41 : decode cX1_property 41 = .ok (.aload_n 0, 1) := by decide +kernel
theorem dX1_property_42 : decode cX1_property 42 = .ok (.getfield 15, 3) := by decide +kernel
theorem dX1_property_45 : decode cX1_property 45 = .ok (.ireturn, 1) := by decide +kernel
theorem dX1_property_46 : decode cX1_property 46 = .ok (.aload_n 0, 1) := by decide +kernel
theorem dX1_property_47 : decode cX1_property 47 = .ok (.getfield 18, 3) := by decide +kernel
theorem dX1_property_50 : decode cX1_property 50 = .ok (.ireturn, 1) := by decide +kernel
theorem dX1_property_51 : decode cX1_property 51 = .ok (.aload_n 0, 1) := by decide +kernel
theorem dX1_property_52 : decode cX1_property 52 = .ok (.getfield 21, 3) := by decide +kernel
theorem dX1_property_55 : decode cX1_property 55 = .ok (.ireturn, 1) := by decide +kernel
theorem dX1_property_56 : decode cX1_property 56 = .ok (.aload_n 0, 1) := by decide +kernel
theorem dX1_property_57 : decode cX1_property 57 = .ok (.getfield 24, 3) := by decide +kernel
theorem dX1_property_60 : decode cX1_property 60 = .ok (.ireturn, 1) := by decide +kernel
theorem dX1_property_61 : decode cX1_property 61 = .ok (.aload_n 0, 1) := by decide +kernel
theorem dX1_property_62 : decode cX1_property 62 = .ok (.getfield 27, 3) := by decide +kernel
theorem dX1_property_65 : decode cX1_property 65 = .ok (.ireturn, 1) := by decide +kernel
theorem dX2_init_0 : decode cX2_init 0 = .ok (.aload_n 0, 1) := by decide +kernel
theorem dX2_init_1 : decode cX2_init 1 = .ok (.invokespecial 1, 3) := by decide +kernel
theorem dX2_init_4 : decode cX2_init 4 = .ok (.aload_n 0, 1) := by decide +kernel
theorem dX2_init_5 : decode cX2_init 5 = .ok (.sipush 900, 3) := by decide +kernel
theorem dX2_init_8 : decode cX2_init 8 = .ok (.putfield 7, 3) := by decide +kernel
theorem dX2_init_11 : decode cX2_init 11 = .ok (.aload_n 0, 1) := by decide +kernel
theorem dX2_init_12 : decode cX2_init 12 = .ok (.sipush 1100, 3) := by decide +kernel
theorem dX2_init_15 : decode cX2_init 15 = .ok (.putfield 13, 3) := by decide +kernel
theorem dX2_init_18 : decode cX2_init 18 = .ok (.return_, 1) := by decide +kernel
theorem dX2_copyFrom_0 : decode cX2_copyFrom 0 = .ok (.aload_n 0, 1) := by decide +kernel
theorem dX2_copyFrom_1 : decode cX2_copyFrom 1 = .ok (.aload_n 1, 1) := by decide +kernel
theorem dX2_copyFrom_2 : decode cX2_copyFrom 2 = .ok (.getfield 16, 3) := by decide +kernel
theorem dX2_copyFrom_5 : decode cX2_copyFrom 5 = .ok (.putfield 16, 3) := by decide +kernel
theorem dX2_copyFrom_8 : decode cX2_copyFrom 8 = .ok (.aload_n 0, 1) := by decide +kernel
theorem dX2_copyFrom_9 : decode cX2_copyFrom 9 = .ok (.aload_n 1, 1) := by decide +kernel
theorem dX2_copyFrom_10 : decode cX2_copyFrom 10 = .ok (.getfield 7, 3) := by decide +kernel
theorem dX2_copyFrom_13 : decode cX2_copyFrom 13 = .ok (.putfield 7, 3) := by decide +kernel
theorem dX2_copyFrom_16 : decode cX2_copyFrom 16 = .ok (.aload_n 0, 1) := by decide +kernel
theorem dX2_copyFrom_17 : decode cX2_copyFrom 17 = .ok (.aload_n 1, 1) := by decide +kernel
theorem dX2_copyFrom_18 : decode cX2_copyFrom 18 = .ok (.getfield 13, 3) := by decide +kernel
theorem dX2_copyFrom_21 : decode cX2_copyFrom 21 = .ok (.putfield 13, 3) := by decide +kernel
theorem dX2_copyFrom_24 : decode cX2_copyFrom 24 = .ok (.aload_n 0, 1) := by decide +kernel
theorem dX2_copyFrom_25 : decode cX2_copyFrom 25 = .ok (.aload_n 1, 1) := by decide +kernel
theorem dX2_copyFrom_26 : decode cX2_copyFrom 26 = .ok (.getfield 19, 3) := by decide +kernel
theorem dX2_copyFrom_29 : decode cX2_copyFrom 29 = .ok (.putfield 19, 3) := by decide +kernel
theorem dX2_copyFrom_32 : decode cX2_copyFrom 32 = .ok (.aload_n 0, 1) := by decide +kernel
theorem dX2_copyFrom_33 : decode cX2_copyFrom 33 = .ok (.aload_n 1, 1) := by decide +kernel
theorem dX2_copyFrom_34 : decode cX2_copyFrom 34 = .ok (.getfield 22, 3) := by decide +kernel
theorem dX2_copyFrom_37 : decode cX2_copyFrom 37 = .ok (.putfield 22, 3) := by decide +kernel
theorem dX2_copyFrom_40 : decode cX2_copyFrom 40 = .ok (.return_, 1) := by decide +kernel
theorem dX3_init_0 : decode cX3_init 0 = .ok (.aload_n 0, 1) := by decide +kernel
theorem dX3_init_1 : decode cX3_init 1 = .ok (.invokespecial 1, 3) := by decide +kernel
theorem dX3_init_4 : decode cX3_init 4 = .ok (.return_, 1) := by decide +kernel
theorem dX3_copyFrom_0 : decode cX3_copyFrom 0 = .ok (.aload_n 0, 1) := by decide +kernel
theorem dX3_copyFrom_1 : decode cX3_copyFrom 1 = .ok (.aload_n 1, 1) := by decide +kernel
theorem dX3_copyFrom_2 : decode cX3_copyFrom 2 = .ok (.getfield 7, 3) := by decide +kernel
theorem dX3_copyFrom_5 : decode cX3_copyFrom 5 = .ok (.putfield 7, 3) := by decide +kernel
theorem dX3_copyFrom_8 : decode cX3_copyFrom 8 = .ok (.aload_n 0, 1) := by decide +kernel
theorem dX3_copyFrom_9 : decode cX3_copyFrom 9 = .ok (.aload_n 1, 1) := by decide +kernel
theorem dX3_copyFrom_10 : decode cX3_copyFrom 10 = .ok (.getfield 13, 3) := by decide +kernel
theorem dX3_copyFrom_13 : decode cX3_copyFrom 13 = .ok (.putfield 13, 3) := by decide +kernel
theorem dX3_copyFrom_16 : decode cX3_copyFrom 16 = .ok (.aload_n 0, 1) := by decide +kernel
theorem dX3_copyFrom_17 : decode cX3_copyFrom 17 = .ok (.aload_n 1, 1) := by decide +kernel
theorem dX3_copyFrom_18 : decode cX3_copyFrom 18 = .ok (.getfield 16, 3) := by decide +kernel
theorem dX3_copyFrom_21 : decode cX3_copyFrom 21 = .ok (.putfield 16, 3) := by decide +kernel
theorem dX3_copyFrom_24 : decode cX3_copyFrom 24 = .ok (.aload_n 0, 1) := by decide +kernel
theorem dX3_copyFrom_25 : decode cX3_copyFrom 25 = .ok (.aload_n 1, 1) := by decide +kernel
theorem dX3_copyFrom_26 : decode cX3_copyFrom 26 = .ok (.getfield 19, 3) := by decide +kernel
theorem dX3_copyFrom_29 : decode cX3_copyFrom 29 = .ok (.putfield 19, 3) := by decide +kernel
theorem dX3_copyFrom_32 : decode cX3_copyFrom 32 = .ok (.aload_n 0, 1) := by decide +kernel
theorem dX3_copyFrom_33 : decode cX3_copyFrom 33 = .ok (.aload_n 1, 1) := by decide +kernel
theorem dX3_copyFrom_34 : decode cX3_copyFrom 34 = .ok (.getfield 22, 3) := by decide +kernel
theorem dX3_copyFrom_37 : decode cX3_copyFrom 37 = .ok (.putfield 22, 3) := by decide +kernel
theorem dX3_copyFrom_40 : decode cX3_copyFrom 40 = .ok (.aload_n 0, 1) := by decide +kernel
theorem dX3_copyFrom_41 : decode cX3_copyFrom 41 = .ok (.aload_n 1, 1) := by decide +kernel
theorem dX3_copyFrom_42 : decode cX3_copyFrom 42 = .ok (.getfield 25, 3) := by decide +kernel
theorem dX3_copyFrom_45 : decode cX3_copyFrom 45 = .ok (.putfield 25, 3) := by decide +kernel
theorem dX3_copyFrom_48 : decode cX3_copyFrom 48 = .ok (.aload_n 0, 1) := by decide +kernel
theorem dX3_copyFrom_49 : decode cX3_copyFrom 49 = .ok (.aload_n 1, 1) := by decide +kernel
theorem dX3_copyFrom_50 : decode cX3_copyFrom 50 = .ok (.getfield 28, 3) := by decide +kernel
theorem dX3_copyFrom_53 : decode cX3_copyFrom 53 = .ok (.putfield 28, 3) := by decide +kernel
theorem dX3_copyFrom_56 : decode cX3_copyFrom 56 = .ok (.aload_n 0, 1) := by decide +kernel
theorem dX3_copyFrom_57 : decode cX3_copyFrom 57 = .ok (.aload_n 1, 1) := by decide +kernel
theorem dX3_copyFrom_58 : decode cX3_copyFrom 58 = .ok (.getfield 32, 3) := by decide +kernel
theorem dX3_copyFrom_61 : decode cX3_copyFrom 61 = .ok (.putfield 32, 3) := by decide +kernel
theorem dX3_copyFrom_64 : decode cX3_copyFrom 64 = .ok (.return_, 1) := by decide +kernel
theorem dX3_comesBefore_0 : decode cX3_comesBefore 0 = .ok (.aload_n 0, 1) := by decide +kernel
theorem dX3_comesBefore_1 : decode cX3_comesBefore 1 = .ok (.getfield 28, 3) := by decide +kernel
theorem dX3_comesBefore_4 : decode cX3_comesBefore 4 = .ok (.aload_n 1, 1) := by decide +kernel
theorem dX3_comesBefore_5 : decode cX3_comesBefore 5 = .ok (.getfield 28, 3) := by decide +kernel
theorem dX3_comesBefore_8 : decode cX3_comesBefore 8 = .ok (.if_icmp .eq 8, 3) := by decide +kernel
theorem dX3_comesBefore_11 : decode cX3_comesBefore 11 = .ok (.aload_n 0, 1) := by decide +kernel
theorem dX3_comesBefore_12 : decode cX3_comesBefore 12 = .ok (.getfield 28, 3) := by decide +kernel
theorem dX3_comesBefore_15 : decode cX3_comesBefore 15 = .ok (.ireturn, 1) := by decide +kernel
theorem dX3_comesBefore_16 : decode cX3_comesBefore 16 = .ok (.aload_n 0, 1) := by decide +kernel
theorem dX3_comesBefore_17 : decode cX3_comesBefore 17 = .ok (.getfield 25, 3) := by decide +kernel
theorem dX3_comesBefore_20 : decode cX3_comesBefore 20 = .ok (.aload_n 1, 1) := by decide +kernel
theorem dX3_comesBefore_21 : decode cX3_comesBefore 21 = .ok (.getfield 25, 3) := by decide +kernel
theorem dX3_comesBefore_24 : decode cX3_comesBefore 24 = .ok (.if_icmp .eq 22, 3) := by decide +kernel
theorem dX3_comesBefore_27 : decode cX3_comesBefore 27 = .ok (.aload_n 0, 1) := by decide +kernel
theorem dX3_comesBefore_28 : decode cX3_comesBefore 28 = .ok (.getfield 25, 3) := by decide +kernel
theorem dX3_comesBefore_31 : decode cX3_comesBefore 31 = .ok (.aload_n 1, 1) := by decide +kernel
theorem dX3_comesBefore_32 : decode cX3_comesBefore 32 = .ok (.getfield 25, 3) := by decide +kernel
theorem dX3_comesBefore_35 : decode cX3_comesBefore 35 = .ok (.if_icmp .ge 7, 3) := by decide +kernel
theorem dX3_comesBefore_38 : decode cX3_comesBefore 38 = .ok (.iconst 1, 1) := by decide +kernel
theorem dX3_comesBefore_39 : decode cX3_comesBefore 39 = .ok (.goto 23, 3) := by decide +kernel
theorem dX3_comesBefore_42 : decode cX3_comesBefore 42 = .ok (.iconst 0, 1) := by decide +kernel
theorem dX3_comesBefore_43 : decode cX3_comesBefore 43 = .ok (.goto 19, 3) := by decide +kernel
theorem dX3_comesBefore_46 : decode cX3_comesBefore 46 = .ok (.aload_n 0, 1) := by decide +kernel
theorem dX3_comesBefore_47 : decode cX3_comesBefore 47 = .ok (.getfield 7, 3) := by decide +kernel
theorem dX3_comesBefore_50 : decode cX3_comesBefore 50 = .ok (.aload_n 1, 1) := by decide +kernel
theorem dX3_comesBefore_51 : decode cX3_comesBefore 51 = .ok (.getfield 7, 3) := by decide +kernel
theorem dX3_comesBefore_54 : decode cX3_comesBefore 54 = .ok (.if_icmp .ge 7, 3) := by decide +kernel
theorem dX3_comesBefore_57 : decode cX3_comesBefore 57 = .ok (.iconst 1, 1) := by decide +kernel
theorem dX3_comesBefore_58 : decode cX3_comesBefore 58 = .ok (.goto 4, 3) := by decide +kernel
theorem dX3_comesBefore_61 : decode cX3_comesBefore 61 = .ok (.iconst 0, 1) := by decide +kernel
theorem dX3_comesBefore_62 : decode cX3_comesBefore 62 = .ok (.ireturn, 1) := by decide +kernel
theorem dX3_lack_0 : decode cX3_lack 0 = .ok (.aload_n 0, 1) := by decide +kernel
theorem dX3_lack_1 : decode cX3_lack 1 = .ok (.getfield 19, 3) := by decide +kernel
theorem dX3_lack_4 : decode cX3_lack 4 = .ok (.aload_n 0, 1) := by decide +kernel
theorem dX3_lack_5 : decode cX3_lack 5 = .ok (.getfield 22, 3) := by decide +kernel
theorem dX3_lack_8 : decode cX3_lack 8 = .ok (.isub, 1) := by decide +kernel
theorem dX3_lack_9 : decode cX3_lack 9 = .ok (.aload_n 0, 1) := by decide +kernel
theorem dX3_lack_10 : decode cX3_lack 10 = .ok (.getfield 32, 3) := by decide +kernel
theorem dX3_lack_13 : decode cX3_lack 13 = .ok (.isub, 1) := by decide +kernel
theorem dX3_lack_14 : decode cX3_lack 14 = .ok (.ireturn, 1) := by decide +kernel
theorem dX4_init_0 : decode cX4_init 0 = .ok (.aload_n 0, 1) := by decide +kernel
theorem dX4_init_1 : decode cX4_init 1 = .ok (.invokespecial 3, 3) := by decide +kernel
theorem dX4_init_4 : decode cX4_init 4 = .ok (.aload_n 0, 1) := by decide +kernel
theorem dX4_init_5 : decode cX4_init 5 = .ok (.bipush 60, 2) := by decide +kernel
theorem dX4_init_7 : decode cX4_init 7 = .ok (.newarray .char, 2) := by decide +kernel
theorem dX4_init_9 : decode cX4_init 9 = .ok (.putfield 11, 3) := by decide +kernel
theorem dX4_init_12 : decode cX4_init 12 = .ok (.return_, 1) := by decide +kernel
theorem dX5_init_0 : decode cX5_init 0 = .ok (.aload_n 0, 1) := by decide +kernel
theorem dX5_init_1 : decode cX5_init 1 = .ok (.invokespecial 3, 3) := by decide +kernel
theorem dX5_init_4 : decode cX5_init 4 = .ok (.aload_n 0, 1) := by decide +kernel
theorem dX5_init_5 : decode cX5_init 5 = .ok (.sipush 150, 3) := by decide +kernel
theorem dX5_init_8 : decode cX5_init 8 = .ok (.putfield 9, 3) := by decide +kernel
theorem dX5_init_11 : decode cX5_init 11 = .ok (.aload_n 0, 1) := by decide +kernel
theorem dX5_init_12 : decode cX5_init 12 = .ok (.bipush 40, 2) := by decide +kernel
theorem dX5_init_14 : decode cX5_init 14 = .ok (.putfield 15, 3) := by decide +kernel
theorem dX5_init_17 : decode cX5_init 17 = .ok (.aload_n 0, 1) := by decide +kernel
theorem dX5_init_18 : decode cX5_init 18 = .ok (.iconst 1, 1) := by decide +kernel
theorem dX5_init_19 : decode cX5_init 19 = .ok (.putfield 18, 3) := by decide +kernel
theorem dX5_init_22 : decode cX5_init 22 = .ok (.aload_n 0, 1) := by decide +kernel
theorem dX5_init_23 : decode cX5_init 23 = .ok (.iconst 5, 1) := by decide +kernel
theorem dX5_init_24 : decode cX5_init 24 = .ok (.putfield 21, 3) := by decide +kernel
theorem dX5_init_27 : decode cX5_init 27 = .ok (.aload_n 0, 1) := by decide +kernel
theorem dX5_init_28 : decode cX5_init 28 = .ok (.iconst 4, 1) := by decide +kernel
theorem dX5_init_29 : decode cX5_init 29 = .ok (.anewarray 24, 3) := by decide +kernel
theorem dX5_init_32 : decode cX5_init 32 = .ok (.putfield 26, 3) := by decide +kernel
theorem dX5_init_35 : decode cX5_init 35 = .ok (.iconst 0, 1) := by decide +kernel
theorem dX5_init_36 : decode cX5_init 36 = .ok (.istore_n 1, 1) := by decide +kernel
theorem dX5_init_37 : decode cX5_init 37 = .ok (.iload_n 1, 1) := by decide +kernel
theorem dX5_init_38 : decode cX5_init 38 = .ok (.aload_n 0, 1) := by decide +kernel
theorem dX5_init_39 : decode cX5_init 39 = .ok (.getfield 26, 3) := by decide +kernel
theorem dX5_init_42 : decode cX5_init 42 = .ok (.arraylength, 1) := by decide +kernel
theorem dX5_init_43 : decode cX5_init 43 = .ok (.if_icmp .ge 22, 3) := by decide +kernel
theorem dX5_init_46 : decode cX5_init 46 = .ok (.aload_n 0, 1) := by decide +kernel
theorem dX5_init_47 : decode cX5_init 47 = .ok (.getfield 26, 3) := by decide +kernel
theorem dX5_init_50 : decode cX5_init 50 = .ok (.iload_n 1, 1) := by decide +kernel
theorem dX5_init_51 : decode cX5_init 51 = .ok (.new 24, 3) := by decide +kernel
theorem dX5_init_54 : decode cX5_init 54 = .ok (.dup, 1) := by decide +kernel
theorem dX5_init_55 : decode cX5_init 55 = .ok (.invokespecial 30, 3) := by decide +kernel
theorem dX5_init_58 : decode cX5_init 58 = .ok (.aastore, 1) := by decide +kernel
theorem dX5_init_59 : decode cX5_init 59 = .ok (.iinc 1 1, 3) := by decide +kernel
theorem dX5_init_62 : decode cX5_init 62 = .ok (.goto (-25), 3) := by decide +kernel
theorem dX5_init_65 : decode cX5_init 65 = .ok (.aload_n 0, 1) := by decide +kernel
theorem dX5_init_66 : decode cX5_init 66 = .ok (.iconst 5, 1) := by decide +kernel
theorem dX5_init_67 : decode cX5_init 67 = .ok (.anewarray 31, 3) := by decide +kernel
theorem dX5_init_70 : decode cX5_init 70 = .ok (.putfield 33, 3) := by decide +kernel
theorem dX5_init_73 : decode cX5_init 73 = .ok (.iconst 0, 1) := by decide +kernel
theorem dX5_init_74 : decode cX5_init 74 = .ok (.istore_n 1, 1) := by decide +kernel
theorem dX5_init_75 : decode cX5_init 75 = .ok (.iload_n 1, 1) := by decide +kernel
theorem dX5_init_76 : decode cX5_init 76 = .ok (.aload_n 0, 1) := by decide +kernel
theorem dX5_init_77 : decode cX5_init 77 = .ok (.getfield 33, 3) := by decide +kernel
theorem dX5_init_80 : decode cX5_init 80 = .ok (.arraylength, 1) := by decide +kernel
theorem dX5_init_81 : decode cX5_init 81 = .ok (.if_icmp .ge 22, 3) := by decide +kernel
theorem dX5_init_84 : decode cX5_init 84 = .ok (.aload_n 0, 1) := by decide +kernel
theorem dX5_init_85 : decode cX5_init 85 = .ok (.getfield 33, 3) := by decide +kernel
theorem dX5_init_88 : decode cX5_init 88 = .ok (.iload_n 1, 1) := by decide +kernel
theorem dX5_init_89 : decode cX5_init 89 = .ok (.new 31, 3) := by decide +kernel
theorem dX5_init_92 : decode cX5_init 92 = .ok (.dup, 1) := by decide +kernel
theorem dX5_init_93 : decode cX5_init 93 = .ok (.invokespecial 37, 3) := by decide +kernel
theorem dX5_init_96 : decode cX5_init 96 = .ok (.aastore, 1) := by decide +kernel
theorem dX5_init_97 : decode cX5_init 97 = .ok (.iinc 1 1, 3) := by decide +kernel
theorem dX5_init_100 : decode cX5_init 100 = .ok (.goto (-25), 3) := by decide +kernel
theorem dX5_init_103 : decode cX5_init 103 = .ok (.aload_n 0, 1) := by decide +kernel
theorem dX5_init_104 : decode cX5_init 104 = .ok (.bipush 10, 2) := by decide +kernel
theorem dX5_init_106 : decode cX5_init 106 = .ok (.anewarray 38, 3) := by decide +kernel
theorem dX5_init_109 : decode cX5_init 109 = .ok (.putfield 40, 3) := by decide +kernel
theorem dX5_init_112 : decode cX5_init 112 = .ok (.iconst 0, 1) := by decide +kernel
theorem dX5_init_113 : decode cX5_init 113 = .ok (.istore_n 1, 1) := by decide +kernel
theorem dX5_init_114 : decode cX5_init 114 = .ok (.iload_n 1, 1) := by decide +kernel
theorem dX5_init_115 : decode cX5_init 115 = .ok (.aload_n 0, 1) := by decide +kernel
theorem dX5_init_116 : decode cX5_init 116 = .ok (.getfield 40, 3) := by decide +kernel
theorem dX5_init_119 : decode cX5_init 119 = .ok (.arraylength, 1) := by decide +kernel
theorem dX5_init_120 : decode cX5_init 120 = .ok (.if_icmp .ge 22, 3) := by decide +kernel
theorem dX5_init_123 : decode cX5_init 123 = .ok (.aload_n 0, 1) := by decide +kernel
theorem dX5_init_124 : decode cX5_init 124 = .ok (.getfield 40, 3) := by decide +kernel
theorem dX5_init_127 : decode cX5_init 127 = .ok (.iload_n 1, 1) := by decide +kernel
theorem dX5_init_128 : decode cX5_init 128 = .ok (.new 38, 3) := by decide +kernel
theorem dX5_init_131 : decode cX5_init 131 = .ok (.dup, 1) := by decide +kernel
theorem dX5_init_132 : decode cX5_init 132 = .ok (.invokespecial 44, 3) := by decide +kernel
theorem dX5_init_135 : decode cX5_init 135 = .ok (.aastore, 1) := by decide +kernel
theorem dX5_init_136 : decode cX5_init 136 = .ok (.iinc 1 1, 3) := by decide +kernel
theorem dX5_init_139 : decode cX5_init 139 = .ok (.goto (-25), 3) := by decide +kernel
theorem dX5_init_142 : decode cX5_init 142 = .ok (.aload_n 0, 1) := by decide +kernel
theorem dX5_init_143 : decode cX5_init 143 = .ok (.bipush 6, 2) := by decide +kernel
theorem dX5_init_145 : decode cX5_init 145 = .ok (.anewarray 45, 3) := by decide +kernel
theorem dX5_init_148 : decode cX5_init 148 = .ok (.putfield 47, 3) := by decide +kernel
theorem dX5_init_151 : decode cX5_init 151 = .ok (.iconst 0, 1) := by decide +kernel
theorem dX5_init_152 : decode cX5_init 152 = .ok (.istore_n 1, 1) := by decide +kernel
theorem dX5_init_153 : decode cX5_init 153 = .ok (.iload_n 1, 1) := by decide +kernel
theorem dX5_init_154 : decode cX5_init 154 = .ok (.aload_n 0, 1) := by decide +kernel
theorem dX5_init_155 : decode cX5_init 155 = .ok (.getfield 47, 3) := by decide +kernel
theorem dX5_init_158 : decode cX5_init 158 = .ok (.arraylength, 1) := by decide +kernel
theorem dX5_init_159 : decode cX5_init 159 = .ok (.if_icmp .ge 22, 3) := by decide +kernel
theorem dX5_init_162 : decode cX5_init 162 = .ok (.aload_n 0, 1) := by decide +kernel
theorem dX5_init_163 : decode cX5_init 163 = .ok (.getfield 47, 3) := by decide +kernel
theorem dX5_init_166 : decode cX5_init 166 = .ok (.iload_n 1, 1) := by decide +kernel
theorem dX5_init_167 : decode cX5_init 167 = .ok (.new 45, 3) := by decide +kernel
theorem dX5_init_170 : decode cX5_init 170 = .ok (.dup, 1) := by decide +kernel
theorem dX5_init_171 : decode cX5_init 171 = .ok (.invokespecial 51, 3) := by decide +kernel
theorem dX5_init_174 : decode cX5_init 174 = .ok (.aastore, 1) := by decide +kernel
theorem dX5_init_175 : decode cX5_init 175 = .ok (.iinc 1 1, 3) := by decide +kernel
theorem dX5_init_178 : decode cX5_init 178 = .ok (.goto (-25), 3) := by decide +kernel
theorem dX5_init_181 : decode cX5_init 181 = .ok (.aload_n 0, 1) := by decide +kernel
theorem dX5_init_182 : decode cX5_init 182 = .ok (.new 45, 3) := by decide +kernel
theorem dX5_init_185 : decode cX5_init 185 = .ok (.dup, 1) := by decide +kernel
theorem dX5_init_186 : decode cX5_init 186 = .ok (.invokespecial 51, 3) := by decide +kernel
theorem dX5_init_189 : decode cX5_init 189 = .ok (.putfield 52, 3) := by decide +kernel
theorem dX5_init_192 : decode cX5_init 192 = .ok (.aload_n 0, 1) := by decide +kernel
theorem dX5_init_193 : decode cX5_init 193 = .ok (.new 24, 3) := by decide +kernel
theorem dX5_init_196 : decode cX5_init 196 = .ok (.dup, 1) := by decide +kernel
theorem dX5_init_197 : decode cX5_init 197 = .ok (.invokespecial 30, 3) := by decide +kernel
theorem dX5_init_200 : decode cX5_init 200 = .ok (.putfield 56, 3) := by decide +kernel
theorem dX5_init_203 : decode cX5_init 203 = .ok (.aload_n 0, 1) := by decide +kernel
theorem dX5_init_204 : decode cX5_init 204 = .ok (.new 31, 3) := by decide +kernel
theorem dX5_init_207 : decode cX5_init 207 = .ok (.dup, 1) := by decide +kernel
theorem dX5_init_208 : decode cX5_init 208 = .ok (.invokespecial 37, 3) := by decide +kernel
theorem dX5_init_211 : decode cX5_init 211 = .ok (.putfield 60, 3) := by decide +kernel
theorem dX5_init_214 : decode cX5_init 214 = .ok (.aload_n 0, 1) := by decide +kernel
theorem dX5_init_215 : decode cX5_init 215 = .ok (.new 38, 3) := by decide +kernel
theorem dX5_init_218 : decode cX5_init 218 = .ok (.dup, 1) := by decide +kernel
theorem dX5_init_219 : decode cX5_init 219 = .ok (.invokespecial 44, 3) := by decide +kernel
theorem dX5_init_222 : decode cX5_init 222 = .ok (.putfield 64, 3) := by decide +kernel
theorem dX5_init_225 : decode cX5_init 225 = .ok (.return_, 1) := by decide +kernel
theorem dX5_copyFrom_0 : decode cX5_copyFrom 0 = .ok (.iconst 0, 1) := by decide +kernel
theorem dX5_copyFrom_1 : decode cX5_copyFrom 1 = .ok (.istore_n 2, 1) := by decide +kernel
theorem dX5_copyFrom_2 : decode cX5_copyFrom 2 = .ok (.iload_n 2, 1) := by decide +kernel
theorem dX5_copyFrom_3 : decode cX5_copyFrom 3 = .ok (.iconst 4, 1) := by decide +kernel
theorem dX5_copyFrom_4 : decode cX5_copyFrom 4 = .ok (.if_icmp .ge 22, 3) := by decide +kernel
theorem dX5_copyFrom_7 : decode cX5_copyFrom 7 = .ok (.aload_n 0, 1) := by decide +kernel
theorem dX5_copyFrom_8 : decode cX5_copyFrom 8 = .ok (.iload_n 2, 1) := by decide +kernel
theorem dX5_copyFrom_9 : decode cX5_copyFrom 9 = .ok (.invokevirtual 68, 3) := by decide +kernel
theorem dX5_copyFrom_12 : decode cX5_copyFrom 12 = .ok (.aload_n 1, 1) := by decide +kernel
theorem dX5_copyFrom_13 : decode cX5_copyFrom 13 = .ok (.iload_n 2, 1) := by decide +kernel
theorem dX5_copyFrom_14 : decode cX5_copyFrom 14 = .ok (.invokevirtual 68, 3) := by decide +kernel
theorem dX5_copyFrom_17 : decode cX5_copyFrom 17 = .ok (.invokevirtual 72, 3) := by decide +kernel
theorem dX5_copyFrom_20 : decode cX5_copyFrom 20 = .ok (.iinc 2 1, 3) := by decide +kernel
theorem dX5_copyFrom_23 : decode cX5_copyFrom 23 = .ok (.goto (-21), 3) := by decide +kernel
theorem dX5_copyFrom_26 : decode cX5_copyFrom 26 = .ok (.iconst 0, 1) := by decide +kernel
theorem dX5_copyFrom_27 : decode cX5_copyFrom 27 = .ok (.istore_n 2, 1) := by decide +kernel
theorem dX5_copyFrom_28 : decode cX5_copyFrom 28 = .ok (.iload_n 2, 1) := by decide +kernel
theorem dX5_copyFrom_29 : decode cX5_copyFrom 29 = .ok (.iconst 5, 1) := by decide +kernel
theorem dX5_copyFrom_30 : decode cX5_copyFrom 30 = .ok (.if_icmp .ge 22, 3) := by decide +kernel
theorem dX5_copyFrom_33 : decode cX5_copyFrom 33 = .ok (.aload_n 0, 1) := by decide +kernel
theorem dX5_copyFrom_34 : decode cX5_copyFrom 34 = .ok (.iload_n 2, 1) := by decide +kernel
theorem dX5_copyFrom_35 : decode cX5_copyFrom 35 = .ok (.invokevirtual 76, 3) := by decide +kernel
theorem dX5_copyFrom_38 : decode cX5_copyFrom 38 = .ok (.aload_n 1, 1) := by decide +kernel
theorem dX5_copyFrom_39 : decode cX5_copyFrom 39 = .ok (.iload_n 2, 1) := by decide +kernel
theorem dX5_copyFrom_40 : decode cX5_copyFrom 40 = .ok (.invokevirtual 76, 3) := by decide +kernel
theorem dX5_copyFrom_43 : decode cX5_copyFrom 43 = .ok (.invokevirtual 80, 3) := by decide +kernel
theorem dX5_copyFrom_46 : decode cX5_copyFrom 46 = .ok (.iinc 2 1, 3) := by decide +kernel
theorem dX5_copyFrom_49 : decode cX5_copyFrom 49 = .ok (.goto (-21), 3) := by decide +kernel
theorem dX5_copyFrom_52 : decode cX5_copyFrom 52 = .ok (.iconst 0, 1) := by decide +kernel
theorem dX5_copyFrom_53 : decode cX5_copyFrom 53 = .ok (.istore_n 2, 1) := by decide +kernel
theorem dX5_copyFrom_54 : decode cX5_copyFrom 54 = .ok (.iload_n 2, 1) := by decide +kernel
theorem dX5_copyFrom_55 : decode cX5_copyFrom 55 = .ok (.aload_n 1, 1) := by decide +kernel
theorem dX5_copyFrom_56 : decode cX5_copyFrom 56 = .ok (.getfield 83, 3) := by decide +kernel
theorem dX5_copyFrom_59 : decode cX5_copyFrom 59 = .ok (.if_icmp .ge 22, 3) := by decide +kernel
theorem dX5_copyFrom_62 : decode cX5_copyFrom 62 = .ok (.aload_n 0, 1) := by decide +kernel
theorem dX5_copyFrom_63 : decode cX5_copyFrom 63 = .ok (.iload_n 2, 1) := by decide +kernel
theorem dX5_copyFrom_64 : decode cX5_copyFrom 64 = .ok (.invokevirtual 86, 3) := by decide +kernel
theorem dX5_copyFrom_67 : decode cX5_copyFrom 67 = .ok (.aload_n 1, 1) := by decide +kernel
theorem dX5_copyFrom_68 : decode cX5_copyFrom 68 = .ok (.iload_n 2, 1) := by decide +kernel
theorem dX5_copyFrom_69 : decode cX5_copyFrom 69 = .ok (.invokevirtual 86, 3) := by decide +kernel
theorem dX5_copyFrom_72 : decode cX5_copyFrom 72 = .ok (.invokevirtual 90, 3) := by decide +kernel
theorem dX5_copyFrom_75 : decode cX5_copyFrom 75 = .ok (.iinc 2 1, 3) := by decide +kernel
theorem dX5_copyFrom_78 : decode cX5_copyFrom 78 = .ok (.goto (-24), 3) := by decide +kernel
theorem dX5_copyFrom_81 : decode cX5_copyFrom 81 = .ok (.iconst 0, 1) := by decide +kernel
theorem dX5_copyFrom_82 : decode cX5_copyFrom 82 = .ok (.istore_n 2, 1) := by decide +kernel
theorem dX5_copyFrom_83 : decode cX5_copyFrom 83 = .ok (.iload_n 2, 1) := by decide +kernel
theorem dX5_copyFrom_84 : decode cX5_copyFrom 84 = .ok (.bipush 6, 2) := by decide +kernel
theorem dX5_copyFrom_86 : decode cX5_copyFrom 86 = .ok (.if_icmp .gt 22, 3) := by decide +kernel
theorem dX5_copyFrom_89 : decode cX5_copyFrom 89 = .ok (.aload_n 0, 1) := by decide +kernel
theorem dX5_copyFrom_90 : decode cX5_copyFrom 90 = .ok (.iload_n 2, 1) := by decide +kernel
theorem dX5_copyFrom_91 : decode cX5_copyFrom 91 = .ok (.invokevirtual 93, 3) := by decide +kernel
theorem dX5_copyFrom_94 : decode cX5_copyFrom 94 = .ok (.aload_n 1, 1) := by decide +kernel
theorem dX5_copyFrom_95 : decode cX5_copyFrom 95 = .ok (.iload_n 2, 1) := by decide +kernel
theorem dX5_copyFrom_96 : decode cX5_copyFrom 96 = .ok (.invokevirtual 93, 3) := by decide +kernel
theorem dX5_copyFrom_99 : decode cX5_copyFrom 99 = .ok (.invokevirtual 97, 3) := by decide +kernel
theorem dX5_copyFrom_102 : decode cX5_copyFrom 102 = .ok (.iinc 2 1, 3) := by decide +kernel
theorem dX5_copyFrom_105 : decode cX5_copyFrom 105 = .ok (.goto (-22), 3) := by decide +kernel
theorem dX5_copyFrom_108 : decode cX5_copyFrom 108 = .ok (.aload_n 0, 1) := by decide +kernel
theorem dX5_copyFrom_109 : decode cX5_copyFrom 109 = .ok (.aload_n 1, 1) := by decide +kernel
theorem dX5_copyFrom_110 : decode cX5_copyFrom 110 = .ok (.invokevirtual 100, 3) := by decide +kernel
theorem dX5_copyFrom_113 : decode cX5_copyFrom 113 = .ok (.return_, 1) := by decide +kernel
theorem dX5_copyNumbersFrom_0 : decode cX5_copyNumbersFrom 0 = .ok (.aload_n 0, 1) := by decide +kernel
theorem dX5_copyNumbersFrom_1 : decode cX5_copyNumbersFrom 1 = .ok (.aload_n 1, 1) := by decide +kernel
theorem dX5_copyNumbersFrom_2 : decode cX5_copyNumbersFrom 2 = .ok (.getfield 83, 3) := by decide +kernel
theorem dX5_copyNumbersFrom_5 : decode cX5_copyNumbersFrom 5 = .ok (.putfield 83, 3) := by decide +kernel
theorem dX5_copyNumbersFrom_8 : decode cX5_copyNumbersFrom 8 = .ok (.aload_n 0, 1) := by decide +kernel
theorem dX5_copyNumbersFrom_9 : decode cX5_copyNumbersFrom 9 = .ok (.aload_n 1, 1) := by decide +kernel
theorem dX5_copyNumbersFrom_10 : decode cX5_copyNumbersFrom 10 = .ok (.getfield 104, 3) := by decide +kernel
theorem dX5_copyNumbersFrom_13 : decode cX5_copyNumbersFrom 13 = .ok (.putfield 104, 3) := by decide +kernel
theorem dX5_copyNumbersFrom_16 : decode cX5_copyNumbersFrom 16 = .ok (.aload_n 0, 1) := by decide +kernel
theorem dX5_copyNumbersFrom_17 : decode cX5_copyNumbersFrom 17 = .ok (.aload_n 1, 1) := by decide +kernel
theorem dX5_copyNumbersFrom_18 : decode cX5_copyNumbersFrom 18 = .ok (.getfield 9, 3) := by decide +kernel
theorem dX5_copyNumbersFrom_21 : decode cX5_copyNumbersFrom 21 = .ok (.putfield 9, 3) := by decide +kernel
theorem dX5_copyNumbersFrom_24 : decode cX5_copyNumbersFrom 24 = .ok (.aload_n 0, 1) := by decide +kernel
theorem dX5_copyNumbersFrom_25 : decode cX5_copyNumbersFrom 25 = .ok (.aload_n 1, 1) := by decide +kernel
theorem dX5_copyNumbersFrom_26 : decode cX5_copyNumbersFrom 26 = .ok (.getfield 15, 3) := by decide +kernel
theorem dX5_copyNumbersFrom_29 : decode cX5_copyNumbersFrom 29 = .ok (.putfield 15, 3) := by decide +kernel
theorem dX5_copyNumbersFrom_32 : decode cX5_copyNumbersFrom 32 = .ok (.aload_n 0, 1) := by decide +kernel
theorem dX5_copyNumbersFrom_33 : decode cX5_copyNumbersFrom 33 = .ok (.aload_n 1, 1) := by decide +kernel
theorem dX5_copyNumbersFrom_34 : decode cX5_copyNumbersFrom 34 = .ok (.getfield 18, 3) := by decide +kernel
theorem dX5_copyNumbersFrom_37 : decode cX5_copyNumbersFrom 37 = .ok (.putfield 18, 3) := by decide +kernel
theorem dX5_copyNumbersFrom_40 : decode cX5_copyNumbersFrom 40 = .ok (.aload_n 0, 1) := by decide +kernel
theorem dX5_copyNumbersFrom_41 : decode cX5_copyNumbersFrom 41 = .ok (.aload_n 1, 1) := by decide +kernel
theorem dX5_copyNumbersFrom_42 : decode cX5_copyNumbersFrom 42 = .ok (.getfield 21, 3) := by decide +kernel
theorem dX5_copyNumbersFrom_45 : decode cX5_copyNumbersFrom 45 = .ok (.putfield 21, 3) := by decide +kernel
theorem dX5_copyNumbersFrom_48 : decode cX5_copyNumbersFrom 48 = .ok (.aload_n 0, 1) := by decide +kernel
theorem dX5_copyNumbersFrom_49 : decode cX5_copyNumbersFrom 49 = .ok (.aload_n 1, 1) := by decide +kernel
theorem dX5_copyNumbersFrom_50 : decode cX5_copyNumbersFrom 50 = .ok (.getfield 107, 3) := by decide +kernel
theorem dX5_copyNumbersFrom_53 : decode cX5_copyNumbersFrom 53 = .ok (.putfield 107, 3) := by decide +kernel
theorem dX5_copyNumbersFrom_56 : decode cX5_copyNumbersFrom 56 = .ok (.aload_n 0, 1) := by decide +kernel
theorem dX5_copyNumbersFrom_57 : decode cX5_copyNumbersFrom 57 = .ok (.aload_n 1, 1) := by decide +kernel
theorem dX5_copyNumbersFrom_58 : decode cX5_copyNumbersFrom 58 = .ok (.getfield 110, 3) := by decide +kernel
theorem dX5_copyNumbersFrom_61 : decode cX5_copyNumbersFrom 61 = .ok (.putfield 110, 3) := by decide +kernel
theorem dX5_copyNumbersFrom_64 : decode cX5_copyNumbersFrom 64 = .ok (.aload_n 0, 1) := by decide +kernel
theorem dX5_copyNumbersFrom_65 : decode cX5_copyNumbersFrom 65 = .ok (.aload_n 1, 1) := by decide +kernel
theorem dX5_copyNumbersFrom_66 : decode cX5_copyNumbersFrom 66 = .ok (.getfield 113, 3) := by decide +kernel
theorem dX5_copyNumbersFrom_69 : decode cX5_copyNumbersFrom 69 = .ok (.putfield 113, 3) := by decide +kernel
theorem dX5_copyNumbersFrom_72 : decode cX5_copyNumbersFrom 72 = .ok (.aload_n 0, 1) := by decide +kernel
theorem dX5_copyNumbersFrom_73 : decode cX5_copyNumbersFrom 73 = .ok (.aload_n 1, 1) := by decide +kernel
theorem dX5_copyNumbersFrom_74 : decode cX5_copyNumbersFrom 74 = .ok (.getfield 116, 3) := by decide +kernel
theorem dX5_copyNumbersFrom_77 : decode cX5_copyNumbersFrom 77 = .ok (.putfield 116, 3) := by decide +kernel
theorem dX5_copyNumbersFrom_80 : decode cX5_copyNumbersFrom 80 = .ok (.aload_n 0, 1) := by decide +kernel
theorem dX5_copyNumbersFrom_81 : decode cX5_copyNumbersFrom 81 = .ok (.aload_n 1, 1) := by decide +kernel
theorem dX5_copyNumbersFrom_82 : decode cX5_copyNumbersFrom 82 = .ok (.getfield 119, 3) := by decide +kernel
theorem dX5_copyNumbersFrom_85 : decode cX5_copyNumbersFrom 85 = .ok (.putfield 119, 3) := by decide +kernel
theorem dX5_copyNumbersFrom_88 : decode cX5_copyNumbersFrom 88 = .ok (.return_, 1) := by decide +kernel
theorem dX5_heatAt_0 : decode cX5_heatAt 0 = .ok (.iload_n 1, 1) := by decide +kernel
theorem dX5_heatAt_1 : decode cX5_heatAt 1 = .ok (.ifCond .lt 21, 3) := by decide +kernel
theorem dX5_heatAt_4 : decode cX5_heatAt 4 = .ok (.iload_n 1, 1) := by decide +kernel
theorem dX5_heatAt_5 : decode cX5_heatAt 5 = .ok (.aload_n 0, 1) := by decide +kernel
theorem dX5_heatAt_6 : decode cX5_heatAt 6 = .ok (.getfield 26, 3) := by decide +kernel
theorem dX5_heatAt_9 : decode cX5_heatAt 9 = .ok (.arraylength, 1) := by decide +kernel
theorem dX5_heatAt_10 : decode cX5_heatAt 10 = .ok (.if_icmp .ge 12, 3) := by decide +kernel
theorem dX5_heatAt_13 : decode cX5_heatAt 13 = .ok (.aload_n 0, 1) := by decide +kernel
theorem dX5_heatAt_14 : decode cX5_heatAt 14 = .ok (.getfield 26, 3) := by decide +kernel
theorem dX5_heatAt_17 : decode cX5_heatAt 17 = .ok (.iload_n 1, 1) := by decide +kernel
theorem dX5_heatAt_18 : decode cX5_heatAt 18 = .ok (.aaload, 1) := by decide +kernel
theorem dX5_heatAt_19 : decode cX5_heatAt 19 = .ok (.goto 4, 3) := by decide +kernel
theorem dX5_heatAt_22 : decode cX5_heatAt 22 = .ok (.aconst_null, 1) := by decide +kernel
theorem dX5_heatAt_23 : decode cX5_heatAt 23 = .ok (.astore_n 2, 1) := by decide +kernel
theorem dX5_heatAt_24 : decode cX5_heatAt 24 = .ok (.aload_n 2, 1) := by decide +kernel
theorem dX5_heatAt_25 : decode cX5_heatAt 25 = .ok (.ifnull 7, 3) := by decide +kernel
theorem dX5_heatAt_28 : decode cX5_heatAt 28 = .ok (.aload_n 2, 1) := by decide +kernel
theorem dX5_heatAt_29 : decode cX5_heatAt 29 = .ok (.goto 7, 3) := by decide +kernel
theorem dX5_heatAt_32 : decode cX5_heatAt 32 = .ok (.aload_n 0, 1) := by decide +kernel
theorem dX5_heatAt_33 : decode cX5_heatAt 33 = .ok (.getfield 56, 3) := by decide +kernel
theorem dX5_heatAt_36 : decode cX5_heatAt 36 = .ok (.areturn, 1) := by decide +kernel
theorem dX5_dieAt_0 : decode cX5_dieAt 0 = .ok (.iload_n 1, 1) := by decide +kernel
theorem dX5_dieAt_1 : decode cX5_dieAt 1 = .ok (.ifCond .lt 21, 3) := by decide +kernel
theorem dX5_dieAt_4 : decode cX5_dieAt 4 = .ok (.iload_n 1, 1) := by decide +kernel
theorem dX5_dieAt_5 : decode cX5_dieAt 5 = .ok (.aload_n 0, 1) := by decide +kernel
theorem dX5_dieAt_6 : decode cX5_dieAt 6 = .ok (.getfield 33, 3) := by decide +kernel
theorem dX5_dieAt_9 : decode cX5_dieAt 9 = .ok (.arraylength, 1) := by decide +kernel
theorem dX5_dieAt_10 : decode cX5_dieAt 10 = .ok (.if_icmp .ge 12, 3) := by decide +kernel
theorem dX5_dieAt_13 : decode cX5_dieAt 13 = .ok (.aload_n 0, 1) := by decide +kernel
theorem dX5_dieAt_14 : decode cX5_dieAt 14 = .ok (.getfield 33, 3) := by decide +kernel
theorem dX5_dieAt_17 : decode cX5_dieAt 17 = .ok (.iload_n 1, 1) := by decide +kernel
theorem dX5_dieAt_18 : decode cX5_dieAt 18 = .ok (.aaload, 1) := by decide +kernel
theorem dX5_dieAt_19 : decode cX5_dieAt 19 = .ok (.goto 4, 3) := by decide +kernel
theorem dX5_dieAt_22 : decode cX5_dieAt 22 = .ok (.aconst_null, 1) := by decide +kernel
theorem dX5_dieAt_23 : decode cX5_dieAt 23 = .ok (.astore_n 2, 1) := by decide +kernel
theorem dX5_dieAt_24 : decode cX5_dieAt 24 = .ok (.aload_n 2, 1) := by decide +kernel
theorem dX5_dieAt_25 : decode cX5_dieAt 25 = .ok (.ifnull 7, 3) := by decide +kernel
theorem dX5_dieAt_28 : decode cX5_dieAt 28 = .ok (.aload_n 2, 1) := by decide +kernel
theorem dX5_dieAt_29 : decode cX5_dieAt 29 = .ok (.goto 7, 3) := by decide +kernel
theorem dX5_dieAt_32 : decode cX5_dieAt 32 = .ok (.aload_n 0, 1) := by decide +kernel
theorem dX5_dieAt_33 : decode cX5_dieAt 33 = .ok (.getfield 60, 3) := by decide +kernel
theorem dX5_dieAt_36 : decode cX5_dieAt 36 = .ok (.areturn, 1) := by decide +kernel
theorem dX5_jobAt_0 : decode cX5_jobAt 0 = .ok (.iload_n 1, 1) := by decide +kernel
theorem dX5_jobAt_1 : decode cX5_jobAt 1 = .ok (.ifCond .lt 21, 3) := by decide +kernel
theorem dX5_jobAt_4 : decode cX5_jobAt 4 = .ok (.iload_n 1, 1) := by decide +kernel
theorem dX5_jobAt_5 : decode cX5_jobAt 5 = .ok (.aload_n 0, 1) := by decide +kernel
theorem dX5_jobAt_6 : decode cX5_jobAt 6 = .ok (.getfield 40, 3) := by decide +kernel
theorem dX5_jobAt_9 : decode cX5_jobAt 9 = .ok (.arraylength, 1) := by decide +kernel
theorem dX5_jobAt_10 : decode cX5_jobAt 10 = .ok (.if_icmp .ge 12, 3) := by decide +kernel
theorem dX5_jobAt_13 : decode cX5_jobAt 13 = .ok (.aload_n 0, 1) := by decide +kernel
theorem dX5_jobAt_14 : decode cX5_jobAt 14 = .ok (.getfield 40, 3) := by decide +kernel
theorem dX5_jobAt_17 : decode cX5_jobAt 17 = .ok (.iload_n 1, 1) := by decide +kernel
theorem dX5_jobAt_18 : decode cX5_jobAt 18 = .ok (.aaload, 1) := by decide +kernel
theorem dX5_jobAt_19 : decode cX5_jobAt 19 = .ok (.goto 4, 3) := by decide +kernel
theorem dX5_jobAt_22 : decode cX5_jobAt 22 = .ok (.aconst_null, 1) := by decide +kernel
theorem dX5_jobAt_23 : decode cX5_jobAt 23 = .ok (.astore_n 2, 1) := by decide +kernel
theorem dX5_jobAt_24 : decode cX5_jobAt 24 = .ok (.aload_n 2, 1) := by decide +kernel
theorem dX5_jobAt_25 : decode cX5_jobAt 25 = .ok (.ifnull 7, 3) := by decide +kernel
theorem dX5_jobAt_28 : decode cX5_jobAt 28 = .ok (.aload_n 2, 1) := by decide +kernel
theorem dX5_jobAt_29 : decode cX5_jobAt 29 = .ok (.goto 7, 3) := by decide +kernel
theorem dX5_jobAt_32 : decode cX5_jobAt 32 = .ok (.aload_n 0, 1) := by decide +kernel
theorem dX5_jobAt_33 : decode cX5_jobAt 33 = .ok (.getfield 64, 3) := by decide +kernel
theorem dX5_jobAt_36 : decode cX5_jobAt 36 = .ok (.areturn, 1) := by decide +kernel
theorem dX5_billetAt_0 : decode cX5_billetAt 0 = .ok (.iload_n 1, 1) := by decide +kernel
theorem dX5_billetAt_1 : decode cX5_billetAt 1 = .ok (.ifCond .lt 21, 3) := by decide +kernel
theorem dX5_billetAt_4 : decode cX5_billetAt 4 = .ok (.iload_n 1, 1) := by decide +kernel
theorem dX5_billetAt_5 : decode cX5_billetAt 5 = .ok (.aload_n 0, 1) := by decide +kernel
theorem dX5_billetAt_6 : decode cX5_billetAt 6 = .ok (.getfield 47, 3) := by decide +kernel
theorem dX5_billetAt_9 : decode cX5_billetAt 9 = .ok (.arraylength, 1) := by decide +kernel
theorem dX5_billetAt_10 : decode cX5_billetAt 10 = .ok (.if_icmp .ge 12, 3) := by decide +kernel
theorem dX5_billetAt_13 : decode cX5_billetAt 13 = .ok (.aload_n 0, 1) := by decide +kernel
theorem dX5_billetAt_14 : decode cX5_billetAt 14 = .ok (.getfield 47, 3) := by decide +kernel
theorem dX5_billetAt_17 : decode cX5_billetAt 17 = .ok (.iload_n 1, 1) := by decide +kernel
theorem dX5_billetAt_18 : decode cX5_billetAt 18 = .ok (.aaload, 1) := by decide +kernel
theorem dX5_billetAt_19 : decode cX5_billetAt 19 = .ok (.goto 4, 3) := by decide +kernel
theorem dX5_billetAt_22 : decode cX5_billetAt 22 = .ok (.aconst_null, 1) := by decide +kernel
theorem dX5_billetAt_23 : decode cX5_billetAt 23 = .ok (.astore_n 2, 1) := by decide +kernel
theorem dX5_billetAt_24 : decode cX5_billetAt 24 = .ok (.aload_n 2, 1) := by decide +kernel
theorem dX5_billetAt_25 : decode cX5_billetAt 25 = .ok (.ifnull 7, 3) := by decide +kernel
theorem dX5_billetAt_28 : decode cX5_billetAt 28 = .ok (.aload_n 2, 1) := by decide +kernel
theorem dX5_billetAt_29 : decode cX5_billetAt 29 = .ok (.goto 7, 3) := by decide +kernel
theorem dX5_billetAt_32 : decode cX5_billetAt 32 = .ok (.aload_n 0, 1) := by decide +kernel
theorem dX5_billetAt_33 : decode cX5_billetAt 33 = .ok (.getfield 52, 3) := by decide +kernel
theorem dX5_billetAt_36 : decode cX5_billetAt 36 = .ok (.areturn, 1) := by decide +kernel
theorem dX5_addJob_0 : decode cX5_addJob 0 = .ok (.aload_n 0, 1) := by decide +kernel
theorem dX5_addJob_1 : decode cX5_addJob 1 = .ok (.aload_n 0, 1) := by decide +kernel
theorem dX5_addJob_2 : decode cX5_addJob 2 = .ok (.getfield 83, 3) := by decide +kernel
theorem dX5_addJob_5 : decode cX5_addJob 5 = .ok (.invokevirtual 86, 3) := by decide +kernel
theorem dX5_addJob_8 : decode cX5_addJob 8 = .ok (.astore 6, 2) := by decide +kernel
theorem dX5_addJob_10 : decode cX5_addJob 10 = .ok (.aload 6, 2) := by decide +kernel
theorem dX5_addJob_12 : decode cX5_addJob 12 = .ok (.aload_n 0, 1) := by decide +kernel
theorem dX5_addJob_13 : decode cX5_addJob 13 = .ok (.getfield 104, 3) := by decide +kernel
theorem dX5_addJob_16 : decode cX5_addJob 16 = .ok (.putfield 122, 3) := by decide +kernel
theorem dX5_addJob_19 : decode cX5_addJob 19 = .ok (.aload 6, 2) := by decide +kernel
theorem dX5_addJob_21 : decode cX5_addJob 21 = .ok (.iload_n 1, 1) := by decide +kernel
theorem dX5_addJob_22 : decode cX5_addJob 22 = .ok (.putfield 125, 3) := by decide +kernel
theorem dX5_addJob_25 : decode cX5_addJob 25 = .ok (.aload 6, 2) := by decide +kernel
theorem dX5_addJob_27 : decode cX5_addJob 27 = .ok (.iload_n 2, 1) := by decide +kernel
theorem dX5_addJob_28 : decode cX5_addJob 28 = .ok (.putfield 128, 3) := by decide +kernel
theorem dX5_addJob_31 : decode cX5_addJob 31 = .ok (.aload 6, 2) := by decide +kernel
theorem dX5_addJob_33 : decode cX5_addJob 33 = .ok (.iload_n 3, 1) := by decide +kernel
theorem dX5_addJob_34 : decode cX5_addJob 34 = .ok (.putfield 131, 3) := by decide +kernel
theorem dX5_addJob_37 : decode cX5_addJob 37 = .ok (.aload 6, 2) := by decide +kernel
theorem dX5_addJob_39 : decode cX5_addJob 39 = .ok (.iconst 0, 1) := by decide +kernel
theorem dX5_addJob_40 : decode cX5_addJob 40 = .ok (.putfield 134, 3) := by decide +kernel
theorem dX5_addJob_43 : decode cX5_addJob 43 = .ok (.aload 6, 2) := by decide +kernel
theorem dX5_addJob_45 : decode cX5_addJob 45 = .ok (.iload 4, 2) := by decide +kernel
theorem dX5_addJob_47 : decode cX5_addJob 47 = .ok (.putfield 137, 3) := by decide +kernel
theorem dX5_addJob_50 : decode cX5_addJob 50 = .ok (.aload 6, 2) := by decide +kernel
theorem dX5_addJob_52 : decode cX5_addJob 52 = .ok (.iload 5, 2) := by decide +kernel
theorem dX5_addJob_54 : decode cX5_addJob 54 = .ok (.putfield 140, 3) := by decide +kernel
theorem dX5_addJob_57 : decode cX5_addJob 57 = .ok (.aload 6, 2) := by decide +kernel
theorem dX5_addJob_59 : decode cX5_addJob 59 = .ok (.iconst 0, 1) := by decide +kernel
theorem dX5_addJob_60 : decode cX5_addJob 60 = .ok (.putfield 144, 3) := by decide +kernel
theorem dX5_addJob_63 : decode cX5_addJob 63 = .ok (.aload_n 0, 1) := by decide +kernel
theorem dX5_addJob_64 : decode cX5_addJob 64 = .ok (.dup, 1) := by decide +kernel
theorem dX5_addJob_65 : decode cX5_addJob 65 = .ok (.getfield 104, 3) := by decide +kernel
theorem dX5_addJob_68 : decode cX5_addJob 68 = .ok (.iconst 1, 1) := by decide +kernel
theorem dX5_addJob_69 : decode cX5_addJob 69 = .ok (.iadd, 1) := by decide +kernel
theorem dX5_addJob_70 : decode cX5_addJob 70 = .ok (.putfield 104, 3) := by decide +kernel
theorem dX5_addJob_73 : decode cX5_addJob 73 = .ok (.aload_n 0, 1) := by decide +kernel
theorem dX5_addJob_74 : decode cX5_addJob 74 = .ok (.dup, 1) := by decide +kernel
theorem dX5_addJob_75 : decode cX5_addJob 75 = .ok (.getfield 83, 3) := by decide +kernel
theorem dX5_addJob_78 : decode cX5_addJob 78 = .ok (.iconst 1, 1) := by decide +kernel
theorem dX5_addJob_79 : decode cX5_addJob 79 = .ok (.iadd, 1) := by decide +kernel
theorem dX5_addJob_80 : decode cX5_addJob 80 = .ok (.putfield 83, 3) := by decide +kernel
theorem dX5_addJob_83 : decode cX5_addJob 83 = .ok (.aload_n 0, 1) := by decide +kernel
theorem dX5_addJob_84 : decode cX5_addJob 84 = .ok (.aload_n 0, 1) := by decide +kernel
theorem dX5_addJob_85 : decode cX5_addJob 85 = .ok (.getfield 83, 3) := by decide +kernel
theorem dX5_addJob_88 : decode cX5_addJob 88 = .ok (.iconst 1, 1) := by decide +kernel
theorem dX5_addJob_89 : decode cX5_addJob 89 = .ok (.isub, 1) := by decide +kernel
theorem dX5_addJob_90 : decode cX5_addJob 90 = .ok (.invokevirtual 147, 3) := by decide +kernel
theorem dX5_addJob_93 : decode cX5_addJob 93 = .ok (.pop, 1) := by decide +kernel
theorem dX5_addJob_94 : decode cX5_addJob 94 = .ok (.aload 6, 2) := by decide +kernel
theorem dX5_addJob_96 : decode cX5_addJob 96 = .ok (.getfield 122, 3) := by decide +kernel
theorem dX5_addJob_99 : decode cX5_addJob 99 = .ok (.ireturn, 1) := by decide +kernel
theorem dX5_hasten_0 : decode cX5_hasten 0 = .ok (.aload_n 0, 1) := by decide +kernel
theorem dX5_hasten_1 : decode cX5_hasten 1 = .ok (.iload_n 1, 1) := by decide +kernel
theorem dX5_hasten_2 : decode cX5_hasten 2 = .ok (.invokevirtual 86, 3) := by decide +kernel
theorem dX5_hasten_5 : decode cX5_hasten 5 = .ok (.iload_n 2, 1) := by decide +kernel
theorem dX5_hasten_6 : decode cX5_hasten 6 = .ok (.putfield 140, 3) := by decide +kernel
theorem dX5_hasten_9 : decode cX5_hasten 9 = .ok (.aload_n 0, 1) := by decide +kernel
theorem dX5_hasten_10 : decode cX5_hasten 10 = .ok (.iload_n 1, 1) := by decide +kernel
theorem dX5_hasten_11 : decode cX5_hasten 11 = .ok (.invokevirtual 147, 3) := by decide +kernel
theorem dX5_hasten_14 : decode cX5_hasten 14 = .ok (.ireturn, 1) := by decide +kernel
theorem dX5_settle_0 : decode cX5_settle 0 = .ok (.iload_n 1, 1) := by decide +kernel
theorem dX5_settle_1 : decode cX5_settle 1 = .ok (.istore_n 2, 1) := by decide +kernel
theorem dX5_settle_2 : decode cX5_settle 2 = .ok (.iload_n 2, 1) := by decide +kernel
theorem dX5_settle_3 : decode cX5_settle 3 = .ok (.ifCond .le 35, 3) := by decide +kernel
theorem dX5_settle_6 : decode cX5_settle 6 = .ok (.aload_n 0, 1) := by decide +kernel
theorem dX5_settle_7 : decode cX5_settle 7 = .ok (.iload_n 2, 1) := by decide +kernel
theorem dX5_settle_8 : decode cX5_settle 8 = .ok (.invokevirtual 86, 3) := by decide +kernel
theorem dX5_settle_11 : decode cX5_settle 11 = .ok (.aload_n 0, 1) := by decide +kernel
theorem dX5_settle_12 : decode cX5_settle 12 = .ok (.iload_n 2, 1) := by decide +kernel
theorem dX5_settle_13 : decode cX5_settle 13 = .ok (.iconst 1, 1) := by decide +kernel
theorem dX5_settle_14 : decode cX5_settle 14 = .ok (.isub, 1) := by decide +kernel
theorem dX5_settle_15 : decode cX5_settle 15 = .ok (.invokevirtual 86, 3) := by decide +kernel
theorem dX5_settle_18 : decode cX5_settle 18 = .ok (.invokevirtual 151, 3) := by decide +kernel
theorem dX5_settle_21 : decode cX5_settle 21 = .ok (.ifCond .eq 17, 3) := by decide +kernel
theorem dX5_settle_24 : decode cX5_settle 24 = .ok (.aload_n 0, 1) := by decide +kernel
theorem dX5_settle_25 : decode cX5_settle 25 = .ok (.iload_n 2, 1) := by decide +kernel
theorem dX5_settle_26 : decode cX5_settle 26 = .ok (.iload_n 2, 1) := by decide +kernel
theorem dX5_settle_27 : decode cX5_settle 27 = .ok (.iconst 1, 1) := by decide +kernel
theorem dX5_settle_28 : decode cX5_settle 28 = .ok (.isub, 1) := by decide +kernel
theorem dX5_settle_29 : decode cX5_settle 29 = .ok (.invokevirtual 155, 3) := by decide +kernel
theorem dX5_settle_32 : decode cX5_settle 32 = .ok (.iinc 2 (-1), 3) := by decide +kernel
theorem dX5_settle_35 : decode cX5_settle 35 = .ok (.goto (-33), 3) := by decide +kernel
theorem dX5_settle_38 : decode cX5_settle 38 = .ok (.iload_n 2, 1) := by decide +kernel
theorem dX5_settle_39 : decode cX5_settle 39 = .ok (.aload_n 0, 1) := by decide +kernel
theorem dX5_settle_40 : decode cX5_settle 40 = .ok (.getfield 83, 3) := by decide +kernel
theorem dX5_settle_43 : decode cX5_settle 43 = .ok (.iconst 1, 1) := by decide +kernel
theorem dX5_settle_44 : decode cX5_settle 44 = .ok (.isub, 1) := by decide +kernel
theorem dX5_settle_45 : decode cX5_settle 45 = .ok (.if_icmp .ge 35, 3) := by decide +kernel
theorem dX5_settle_48 : decode cX5_settle 48 = .ok (.aload_n 0, 1) := by decide +kernel
theorem dX5_settle_49 : decode cX5_settle 49 = .ok (.iload_n 2, 1) := by decide +kernel
theorem dX5_settle_50 : decode cX5_settle 50 = .ok (.iconst 1, 1) := by decide +kernel
theorem dX5_settle_51 : decode cX5_settle 51 = .ok (.iadd, 1) := by decide +kernel
theorem dX5_settle_52 : decode cX5_settle 52 = .ok (.invokevirtual 86, 3) := by decide +kernel
theorem dX5_settle_55 : decode cX5_settle 55 = .ok (.aload_n 0, 1) := by decide +kernel
theorem dX5_settle_56 : decode cX5_settle 56 = .ok (.iload_n 2, 1) := by decide +kernel
theorem dX5_settle_57 : decode cX5_settle 57 = .ok (.invokevirtual 86, 3) := by decide +kernel
theorem dX5_settle_60 : decode cX5_settle 60 = .ok (.invokevirtual 151, 3) := by decide +kernel
theorem dX5_settle_63 : decode cX5_settle 63 = .ok (.ifCond .eq 17, 3) := by decide +kernel
theorem dX5_settle_66 : decode cX5_settle 66 = .ok (.aload_n 0, 1) := by decide +kernel
theorem dX5_settle_67 : decode cX5_settle 67 = .ok (.iload_n 2, 1) := by decide +kernel
theorem dX5_settle_68 : decode cX5_settle 68 = .ok (.iload_n 2, 1) := by decide +kernel
theorem dX5_settle_69 : decode cX5_settle 69 = .ok (.iconst 1, 1) := by decide +kernel
theorem dX5_settle_70 : decode cX5_settle 70 = .ok (.iadd, 1) := by decide +kernel
theorem dX5_settle_71 : decode cX5_settle 71 = .ok (.invokevirtual 155, 3) := by decide +kernel
theorem dX5_settle_74 : decode cX5_settle 74 = .ok (.iinc 2 1, 3) := by decide +kernel
theorem dX5_settle_77 : decode cX5_settle 77 = .ok (.goto (-39), 3) := by decide +kernel
theorem dX5_settle_80 : decode cX5_settle 80 = .ok (.iload_n 2, 1) := by decide +kernel
theorem dX5_settle_81 : decode cX5_settle 81 = .ok (.ireturn, 1) := by decide +kernel
theorem dX5_swapJobs_0 : decode cX5_swapJobs 0 = .ok (.iload_n 1, 1) := by decide +kernel
theorem dX5_swapJobs_1 : decode cX5_swapJobs 1 = .ok (.ifCond .lt 51, 3) := by decide +kernel
theorem dX5_swapJobs_4 : decode cX5_swapJobs 4 = .ok (.iload_n 1, 1) := by decide +kernel
theorem dX5_swapJobs_5 : decode cX5_swapJobs 5 = .ok (.aload_n 0, 1) := by decide +kernel
theorem dX5_swapJobs_6 : decode cX5_swapJobs 6 = .ok (.getfield 40, 3) := by decide +kernel
theorem dX5_swapJobs_9 : decode cX5_swapJobs 9 = .ok (.arraylength, 1) := by decide +kernel
theorem dX5_swapJobs_10 : decode cX5_swapJobs 10 = .ok (.if_icmp .ge 42, 3) := by decide +kernel
theorem dX5_swapJobs_13 : decode cX5_swapJobs 13 = .ok (.iload_n 2, 1) := by decide +kernel
theorem dX5_swapJobs_14 : decode cX5_swapJobs 14 = .ok (.ifCond .lt 38, 3) := by decide +kernel
theorem dX5_swapJobs_17 : decode cX5_swapJobs 17 = .ok (.iload_n 2, 1) := by decide +kernel
theorem dX5_swapJobs_18 : decode cX5_swapJobs 18 = .ok (.aload_n 0, 1) := by decide +kernel
theorem dX5_swapJobs_19 : decode cX5_swapJobs 19 = .ok (.getfield 40, 3) := by decide +kernel
theorem dX5_swapJobs_22 : decode cX5_swapJobs 22 = .ok (.arraylength, 1) := by decide +kernel
theorem dX5_swapJobs_23 : decode cX5_swapJobs 23 = .ok (.if_icmp .ge 29, 3) := by decide +kernel
theorem dX5_swapJobs_26 : decode cX5_swapJobs 26 = .ok (.aload_n 0, 1) := by decide +kernel
theorem dX5_swapJobs_27 : decode cX5_swapJobs 27 = .ok (.getfield 40, 3) := by decide +kernel
theorem dX5_swapJobs_30 : decode cX5_swapJobs 30 = .ok (.iload_n 1, 1) := by decide +kernel
theorem dX5_swapJobs_31 : decode cX5_swapJobs 31 = .ok (.aaload, 1) := by decide +kernel
theorem dX5_swapJobs_32 : decode cX5_swapJobs 32 = .ok (.astore_n 3, 1) := by decide +kernel
theorem dX5_swapJobs_33 : decode cX5_swapJobs 33 = .ok (.aload_n 0, 1) := by decide +kernel
theorem dX5_swapJobs_34 : decode cX5_swapJobs 34 = .ok (.getfield 40, 3) := by decide +kernel
theorem dX5_swapJobs_37 : decode cX5_swapJobs 37 = .ok (.iload_n 1, 1) := by decide +kernel
theorem dX5_swapJobs_38 : decode cX5_swapJobs 38 = .ok (.aload_n 0, 1) := by decide +kernel
theorem dX5_swapJobs_39 : decode cX5_swapJobs 39 = .ok (.getfield 40, 3) := by decide +kernel
theorem dX5_swapJobs_42 : decode cX5_swapJobs 42 = .ok (.iload_n 2, 1) := by decide +kernel
theorem dX5_swapJobs_43 : decode cX5_swapJobs 43 = .ok (.aaload, 1) := by decide +kernel
theorem dX5_swapJobs_44 : decode cX5_swapJobs 44 = .ok (.aastore, 1) := by decide +kernel
theorem dX5_swapJobs_45 : decode cX5_swapJobs 45 = .ok (.aload_n 0, 1) := by decide +kernel
theorem dX5_swapJobs_46 : decode cX5_swapJobs 46 = .ok (.getfield 40, 3) := by decide +kernel
theorem dX5_swapJobs_49 : decode cX5_swapJobs 49 = .ok (.iload_n 2, 1) := by decide +kernel
theorem dX5_swapJobs_50 : decode cX5_swapJobs 50 = .ok (.aload_n 3, 1) := by decide +kernel
theorem dX5_swapJobs_51 : decode cX5_swapJobs 51 = .ok (.aastore, 1) := by decide +kernel
theorem dX5_swapJobs_52 : decode cX5_swapJobs 52 = .ok (.return_, 1) := by decide +kernel
theorem dX5_placeOf_0 : decode cX5_placeOf 0 = .ok (.iconst 0, 1) := by decide +kernel
theorem dX5_placeOf_1 : decode cX5_placeOf 1 = .ok (.istore_n 2, 1) := by decide +kernel
theorem dX5_placeOf_2 : decode cX5_placeOf 2 = .ok (.iload_n 2, 1) := by decide +kernel
theorem dX5_placeOf_3 : decode cX5_placeOf 3 = .ok (.aload_n 0, 1) := by decide +kernel
theorem dX5_placeOf_4 : decode cX5_placeOf 4 = .ok (.getfield 83, 3) := by decide +kernel
theorem dX5_placeOf_7 : decode cX5_placeOf 7 = .ok (.if_icmp .ge 23, 3) := by decide +kernel
theorem dX5_placeOf_10 : decode cX5_placeOf 10 = .ok (.aload_n 0, 1) := by decide +kernel
theorem dX5_placeOf_11 : decode cX5_placeOf 11 = .ok (.iload_n 2, 1) := by decide +kernel
theorem dX5_placeOf_12 : decode cX5_placeOf 12 = .ok (.invokevirtual 86, 3) := by decide +kernel
theorem dX5_placeOf_15 : decode cX5_placeOf 15 = .ok (.getfield 122, 3) := by decide +kernel
theorem dX5_placeOf_18 : decode cX5_placeOf 18 = .ok (.iload_n 1, 1) := by decide +kernel
theorem dX5_placeOf_19 : decode cX5_placeOf 19 = .ok (.if_icmp .ne 5, 3) := by decide +kernel
theorem dX5_placeOf_22 : decode cX5_placeOf 22 = .ok (.iload_n 2, 1) := by decide +kernel
theorem dX5_placeOf_23 : decode cX5_placeOf 23 = .ok (.ireturn, 1) := by decide +kernel
theorem dX5_placeOf_24 : decode cX5_placeOf 24 = .ok (.iinc 2 1, 3) := by decide +kernel
theorem dX5_placeOf_27 : decode cX5_placeOf 27 = .ok (.goto (-25), 3) := by decide +kernel
theorem dX5_placeOf_30 : decode cX5_placeOf 30 = .ok (.iconst (-1), 1) := by decide +kernel
theorem dX5_placeOf_31 : decode cX5_placeOf 31 = .ok (.ireturn, 1) := by decide +kernel
theorem dX5_removeJob_0 : decode cX5_removeJob 0 = .ok (.aload_n 0, 1) := by decide +kernel
theorem dX5_removeJob_1 : decode cX5_removeJob 1 = .ok (.dup, 1) := by decide +kernel
theorem dX5_removeJob_2 : decode cX5_removeJob 2 = .ok (.getfield 83, 3) := by decide +kernel
theorem dX5_removeJob_5 : decode cX5_removeJob 5 = .ok (.iconst 1, 1) := by decide +kernel
theorem dX5_removeJob_6 : decode cX5_removeJob 6 = .ok (.isub, 1) := by decide +kernel
theorem dX5_removeJob_7 : decode cX5_removeJob 7 = .ok (.putfield 83, 3) := by decide +kernel
theorem dX5_removeJob_10 : decode cX5_removeJob 10 = .ok (.iload_n 1, 1) := by decide +kernel
theorem dX5_removeJob_11 : decode cX5_removeJob 11 = .ok (.istore_n 2, 1) := by decide +kernel
theorem dX5_removeJob_12 : decode cX5_removeJob 12 = .ok (.iload_n 2, 1) := by decide +kernel
theorem dX5_removeJob_13 : decode cX5_removeJob 13 = .ok (.aload_n 0, 1) := by decide +kernel
theorem dX5_removeJob_14 : decode cX5_removeJob 14 = .ok (.getfield 83, 3) := by decide +kernel
theorem dX5_removeJob_17 : decode cX5_removeJob 17 = .ok (.if_icmp .ge 17, 3) := by decide +kernel
theorem dX5_removeJob_20 : decode cX5_removeJob 20 = .ok (.aload_n 0, 1) := by decide +kernel
theorem dX5_removeJob_21 : decode cX5_removeJob 21 = .ok (.iload_n 2, 1) := by decide +kernel
theorem dX5_removeJob_22 : decode cX5_removeJob 22 = .ok (.iload_n 2, 1) := by decide +kernel
theorem dX5_removeJob_23 : decode cX5_removeJob 23 = .ok (.iconst 1, 1) := by decide +kernel
theorem dX5_removeJob_24 : decode cX5_removeJob 24 = .ok (.iadd, 1) := by decide +kernel
theorem dX5_removeJob_25 : decode cX5_removeJob 25 = .ok (.invokevirtual 155, 3) := by decide +kernel
theorem dX5_removeJob_28 : decode cX5_removeJob 28 = .ok (.iinc 2 1, 3) := by decide +kernel
theorem dX5_removeJob_31 : decode cX5_removeJob 31 = .ok (.goto (-19), 3) := by decide +kernel
theorem dX5_removeJob_34 : decode cX5_removeJob 34 = .ok (.return_, 1) := by decide +kernel
theorem dX5_dropJob_0 : decode cX5_dropJob 0 = .ok (.aload_n 0, 1) := by decide +kernel
theorem dX5_dropJob_1 : decode cX5_dropJob 1 = .ok (.iload_n 1, 1) := by decide +kernel
theorem dX5_dropJob_2 : decode cX5_dropJob 2 = .ok (.invokevirtual 86, 3) := by decide +kernel
theorem dX5_dropJob_5 : decode cX5_dropJob 5 = .ok (.astore_n 2, 1) := by decide +kernel
theorem dX5_dropJob_6 : decode cX5_dropJob 6 = .ok (.iconst 0, 1) := by decide +kernel
theorem dX5_dropJob_7 : decode cX5_dropJob 7 = .ok (.istore_n 3, 1) := by decide +kernel
theorem dX5_dropJob_8 : decode cX5_dropJob 8 = .ok (.iload_n 3, 1) := by decide +kernel
theorem dX5_dropJob_9 : decode cX5_dropJob 9 = .ok (.bipush 6, 2) := by decide +kernel
theorem dX5_dropJob_11 : decode cX5_dropJob 11 = .ok (.if_icmp .gt 34, 3) := by decide +kernel
theorem dX5_dropJob_14 : decode cX5_dropJob 14 = .ok (.aload_n 0, 1) := by decide +kernel
theorem dX5_dropJob_15 : decode cX5_dropJob 15 = .ok (.iload_n 3, 1) := by decide +kernel
theorem dX5_dropJob_16 : decode cX5_dropJob 16 = .ok (.invokevirtual 93, 3) := by decide +kernel
theorem dX5_dropJob_19 : decode cX5_dropJob 19 = .ok (.astore 4, 2) := by decide +kernel
theorem dX5_dropJob_21 : decode cX5_dropJob 21 = .ok (.aload 4, 2) := by decide +kernel
theorem dX5_dropJob_23 : decode cX5_dropJob 23 = .ok (.getfield 159, 3) := by decide +kernel
theorem dX5_dropJob_26 : decode cX5_dropJob 26 = .ok (.aload_n 2, 1) := by decide +kernel
theorem dX5_dropJob_27 : decode cX5_dropJob 27 = .ok (.getfield 122, 3) := by decide +kernel
theorem dX5_dropJob_30 : decode cX5_dropJob 30 = .ok (.if_icmp .ne 9, 3) := by decide +kernel
theorem dX5_dropJob_33 : decode cX5_dropJob 33 = .ok (.aload 4, 2) := by decide +kernel
theorem dX5_dropJob_35 : decode cX5_dropJob 35 = .ok (.iconst (-1), 1) := by decide +kernel
theorem dX5_dropJob_36 : decode cX5_dropJob 36 = .ok (.putfield 159, 3) := by decide +kernel
theorem dX5_dropJob_39 : decode cX5_dropJob 39 = .ok (.iinc 3 1, 3) := by decide +kernel
theorem dX5_dropJob_42 : decode cX5_dropJob 42 = .ok (.goto (-34), 3) := by decide +kernel
theorem dX5_dropJob_45 : decode cX5_dropJob 45 = .ok (.aload_n 0, 1) := by decide +kernel
theorem dX5_dropJob_46 : decode cX5_dropJob 46 = .ok (.aload_n 2, 1) := by decide +kernel
theorem dX5_dropJob_47 : decode cX5_dropJob 47 = .ok (.getfield 128, 3) := by decide +kernel
theorem dX5_dropJob_50 : decode cX5_dropJob 50 = .ok (.invokevirtual 68, 3) := by decide +kernel
theorem dX5_dropJob_53 : decode cX5_dropJob 53 = .ok (.dup, 1) := by decide +kernel
theorem dX5_dropJob_54 : decode cX5_dropJob 54 = .ok (.getfield 162, 3) := by decide +kernel
theorem dX5_dropJob_57 : decode cX5_dropJob 57 = .ok (.aload_n 2, 1) := by decide +kernel
theorem dX5_dropJob_58 : decode cX5_dropJob 58 = .ok (.getfield 144, 3) := by decide +kernel
theorem dX5_dropJob_61 : decode cX5_dropJob 61 = .ok (.iadd, 1) := by decide +kernel
theorem dX5_dropJob_62 : decode cX5_dropJob 62 = .ok (.putfield 162, 3) := by decide +kernel
theorem dX5_dropJob_65 : decode cX5_dropJob 65 = .ok (.aload_n 0, 1) := by decide +kernel
theorem dX5_dropJob_66 : decode cX5_dropJob 66 = .ok (.iload_n 1, 1) := by decide +kernel
theorem dX5_dropJob_67 : decode cX5_dropJob 67 = .ok (.invokevirtual 165, 3) := by decide +kernel
theorem dX5_dropJob_70 : decode cX5_dropJob 70 = .ok (.aload_n 2, 1) := by decide +kernel
theorem dX5_dropJob_71 : decode cX5_dropJob 71 = .ok (.getfield 144, 3) := by decide +kernel
theorem dX5_dropJob_74 : decode cX5_dropJob 74 = .ok (.ireturn, 1) := by decide +kernel
theorem dX5_valueOf_0 : decode cX5_valueOf 0 = .ok (.iload_n 1, 1) := by decide +kernel
theorem dX5_valueOf_1 : decode cX5_valueOf 1 = .ok (.tableswitch 42 0 2 #[27, 32, 37], 27) := by decide +kernel
theorem dX5_valueOf_28 : decode cX5_valueOf 28 = .ok (.aload_n 0, 1) := by decide +kernel
theorem dX5_valueOf_29 : decode cX5_valueOf 29 = .ok (.getfield 9, 3) := by decide +kernel
theorem dX5_valueOf_32 : decode cX5_valueOf 32 = .ok (.ireturn, 1) := by decide +kernel
theorem dX5_valueOf_33 : decode cX5_valueOf 33 = .ok (.aload_n 0, 1) := by decide +kernel
theorem dX5_valueOf_34 : decode cX5_valueOf 34 = .ok (.getfield 15, 3) := by decide +kernel
theorem dX5_valueOf_37 : decode cX5_valueOf 37 = .ok (.ireturn, 1) := by decide +kernel
theorem dX5_valueOf_38 : decode cX5_valueOf 38 = .ok (.aload_n 0, 1) := by decide +kernel
theorem dX5_valueOf_39 : decode cX5_valueOf 39 = .ok (.getfield 18, 3) := by decide +kernel
theorem dX5_valueOf_42 : decode cX5_valueOf 42 = .ok (.ireturn, 1) := by decide +kernel
theorem dX5_valueOf_43 : decode cX5_valueOf 43 = .ok (.aload_n 0, 1) := by decide +kernel
theorem dX5_valueOf_44 : decode cX5_valueOf 44 = .ok (.getfield 21, 3) := by decide +kernel
theorem dX5_valueOf_47 : decode cX5_valueOf 47 = .ok (.ireturn, 1) := by decide +kernel
theorem dX5_putValue_0 : decode cX5_putValue 0 = .ok (.iload_n 1, 1) := by decide +kernel
theorem dX5_putValue_1 : decode cX5_putValue 1 = .ok (.tableswitch 51 0 2 #[27, 35, 43], 27) := by decide +kernel
theorem dX5_putValue_28 : decode cX5_putValue 28 = .ok (.aload_n 0, 1) := by decide +kernel
theorem dX5_putValue_29 : decode cX5_putValue 29 = .ok (.iload_n 2, 1) := by decide +kernel
theorem dX5_putValue_30 : decode cX5_putValue 30 = .ok (.putfield 9, 3) := by decide +kernel
theorem dX5_putValue_33 : decode cX5_putValue 33 = .ok (.goto 24, 3) := by decide +kernel
theorem dX5_putValue_36 : decode cX5_putValue 36 = .ok (.aload_n 0, 1) := by decide +kernel
theorem dX5_putValue_37 : decode cX5_putValue 37 = .ok (.iload_n 2, 1) := by decide +kernel
theorem dX5_putValue_38 : decode cX5_putValue 38 = .ok (.putfield 15, 3) := by decide +kernel
theorem dX5_putValue_41 : decode cX5_putValue 41 = .ok (.goto 16, 3) := by decide +kernel
theorem dX5_putValue_44 : decode cX5_putValue 44 = .ok (.aload_n 0, 1) := by decide +kernel
theorem dX5_putValue_45 : decode cX5_putValue 45 = .ok (.iload_n 2, 1) := by decide +kernel
theorem dX5_putValue_46 : decode cX5_putValue 46 = .ok (.putfield 18, 3) := by decide +kernel
theorem dX5_putValue_49 : decode cX5_putValue 49 = .ok (.goto 8, 3) := by decide +kernel
theorem dX5_putValue_52 : decode cX5_putValue 52 = .ok (.aload_n 0, 1) := by decide +kernel
theorem dX5_putValue_53 : decode cX5_putValue 53 = .ok (.iload_n 2, 1) := by decide +kernel
theorem dX5_putValue_54 : decode cX5_putValue 54 = .ok (.putfield 21, 3) := by decide +kernel
theorem dX5_putValue_57 : decode cX5_putValue 57 = .ok (.return_, 1) := by decide +kernel
theorem dX5_countMade_0 : decode cX5_countMade 0 = .ok (.iconst 0, 1) := by decide +kernel
theorem dX5_countMade_1 : decode cX5_countMade 1 = .ok (.istore_n 1, 1) := by decide +kernel
theorem dX5_countMade_2 : decode cX5_countMade 2 = .ok (.iconst 0, 1) := by decide +kernel
theorem dX5_countMade_3 : decode cX5_countMade 3 = .ok (.istore_n 2, 1) := by decide +kernel
theorem dX5_countMade_4 : decode cX5_countMade 4 = .ok (.iload_n 2, 1) := by decide +kernel
theorem dX5_countMade_5 : decode cX5_countMade 5 = .ok (.iconst 4, 1) := by decide +kernel
theorem dX5_countMade_6 : decode cX5_countMade 6 = .ok (.if_icmp .ge 20, 3) := by decide +kernel
theorem dX5_countMade_9 : decode cX5_countMade 9 = .ok (.iload_n 1, 1) := by decide +kernel
theorem dX5_countMade_10 : decode cX5_countMade 10 = .ok (.aload_n 0, 1) := by decide +kernel
theorem dX5_countMade_11 : decode cX5_countMade 11 = .ok (.iload_n 2, 1) := by decide +kernel
theorem dX5_countMade_12 : decode cX5_countMade 12 = .ok (.invokevirtual 68, 3) := by decide +kernel
theorem dX5_countMade_15 : decode cX5_countMade 15 = .ok (.getfield 169, 3) := by decide +kernel
theorem dX5_countMade_18 : decode cX5_countMade 18 = .ok (.iadd, 1) := by decide +kernel
theorem dX5_countMade_19 : decode cX5_countMade 19 = .ok (.istore_n 1, 1) := by decide +kernel
theorem dX5_countMade_20 : decode cX5_countMade 20 = .ok (.iinc 2 1, 3) := by decide +kernel
theorem dX5_countMade_23 : decode cX5_countMade 23 = .ok (.goto (-19), 3) := by decide +kernel
theorem dX5_countMade_26 : decode cX5_countMade 26 = .ok (.iload_n 1, 1) := by decide +kernel
theorem dX5_countMade_27 : decode cX5_countMade 27 = .ok (.ireturn, 1) := by decide +kernel
theorem dX5_countScrap_0 : decode cX5_countScrap 0 = .ok (.iconst 0, 1) := by decide +kernel
theorem dX5_countScrap_1 : decode cX5_countScrap 1 = .ok (.istore_n 1, 1) := by decide +kernel
theorem dX5_countScrap_2 : decode cX5_countScrap 2 = .ok (.iconst 0, 1) := by decide +kernel
theorem dX5_countScrap_3 : decode cX5_countScrap 3 = .ok (.istore_n 2, 1) := by decide +kernel
theorem dX5_countScrap_4 : decode cX5_countScrap 4 = .ok (.iload_n 2, 1) := by decide +kernel
theorem dX5_countScrap_5 : decode cX5_countScrap 5 = .ok (.iconst 4, 1) := by decide +kernel
theorem dX5_countScrap_6 : decode cX5_countScrap 6 = .ok (.if_icmp .ge 20, 3) := by decide +kernel
theorem dX5_countScrap_9 : decode cX5_countScrap 9 = .ok (.iload_n 1, 1) := by decide +kernel
theorem dX5_countScrap_10 : decode cX5_countScrap 10 = .ok (.aload_n 0, 1) := by decide +kernel
theorem dX5_countScrap_11 : decode cX5_countScrap 11 = .ok (.iload_n 2, 1) := by decide +kernel
theorem dX5_countScrap_12 : decode cX5_countScrap 12 = .ok (.invokevirtual 68, 3) := by decide +kernel
theorem dX5_countScrap_15 : decode cX5_countScrap 15 = .ok (.getfield 162, 3) := by decide +kernel
theorem dX5_countScrap_18 : decode cX5_countScrap 18 = .ok (.iadd, 1) := by decide +kernel
theorem dX5_countScrap_19 : decode cX5_countScrap 19 = .ok (.istore_n 1, 1) := by decide +kernel
theorem dX5_countScrap_20 : decode cX5_countScrap 20 = .ok (.iinc 2 1, 3) := by decide +kernel
theorem dX5_countScrap_23 : decode cX5_countScrap 23 = .ok (.goto (-19), 3) := by decide +kernel
theorem dX5_countScrap_26 : decode cX5_countScrap 26 = .ok (.iload_n 1, 1) := by decide +kernel
theorem dX5_countScrap_27 : decode cX5_countScrap 27 = .ok (.ireturn, 1) := by decide +kernel
theorem dX5_countRushJobs_0 : decode cX5_countRushJobs 0 = .ok (.iconst 0, 1) := by decide +kernel
theorem dX5_countRushJobs_1 : decode cX5_countRushJobs 1 = .ok (.istore_n 1, 1) := by decide +kernel
theorem dX5_countRushJobs_2 : decode cX5_countRushJobs 2 = .ok (.iconst 0, 1) := by decide +kernel
theorem dX5_countRushJobs_3 : decode cX5_countRushJobs 3 = .ok (.istore_n 2, 1) := by decide +kernel
theorem dX5_countRushJobs_4 : decode cX5_countRushJobs 4 = .ok (.iload_n 2, 1) := by decide +kernel
theorem dX5_countRushJobs_5 : decode cX5_countRushJobs 5 = .ok (.aload_n 0, 1) := by decide +kernel
theorem dX5_countRushJobs_6 : decode cX5_countRushJobs 6 = .ok (.getfield 83, 3) := by decide +kernel
theorem dX5_countRushJobs_9 : decode cX5_countRushJobs 9 = .ok (.if_icmp .ge 23, 3) := by decide +kernel
theorem dX5_countRushJobs_12 : decode cX5_countRushJobs 12 = .ok (.aload_n 0, 1) := by decide +kernel
theorem dX5_countRushJobs_13 : decode cX5_countRushJobs 13 = .ok (.iload_n 2, 1) := by decide +kernel
theorem dX5_countRushJobs_14 : decode cX5_countRushJobs 14 = .ok (.invokevirtual 86, 3) := by decide +kernel
theorem dX5_countRushJobs_17 : decode cX5_countRushJobs 17 = .ok (.getfield 140, 3) := by decide +kernel
theorem dX5_countRushJobs_20 : decode cX5_countRushJobs 20 = .ok (.ifCond .eq 6, 3) := by decide +kernel
theorem dX5_countRushJobs_23 : decode cX5_countRushJobs 23 = .ok (.iinc 1 1, 3) := by decide +kernel
theorem dX5_countRushJobs_26 : decode cX5_countRushJobs 26 = .ok (.iinc 2 1, 3) := by decide +kernel
theorem dX5_countRushJobs_29 : decode cX5_countRushJobs 29 = .ok (.goto (-25), 3) := by decide +kernel
theorem dX5_countRushJobs_32 : decode cX5_countRushJobs 32 = .ok (.iload_n 1, 1) := by decide +kernel
theorem dX5_countRushJobs_33 : decode cX5_countRushJobs 33 = .ok (.ireturn, 1) := by decide +kernel
theorem dX5_countInFurnace_0 : decode cX5_countInFurnace 0 = .ok (.iconst 0, 1) := by decide +kernel
theorem dX5_countInFurnace_1 : decode cX5_countInFurnace 1 = .ok (.istore_n 1, 1) := by decide +kernel
theorem dX5_countInFurnace_2 : decode cX5_countInFurnace 2 = .ok (.aload_n 0, 1) := by decide +kernel
theorem dX5_countInFurnace_3 : decode cX5_countInFurnace 3 = .ok (.getfield 47, 3) := by decide +kernel
theorem dX5_countInFurnace_6 : decode cX5_countInFurnace 6 = .ok (.astore_n 2, 1) := by decide +kernel
theorem dX5_countInFurnace_7 : decode cX5_countInFurnace 7 = .ok (.aload_n 2, 1) := by decide +kernel
theorem dX5_countInFurnace_8 : decode cX5_countInFurnace 8 = .ok (.arraylength, 1) := by decide +kernel
theorem dX5_countInFurnace_9 : decode cX5_countInFurnace 9 = .ok (.istore_n 3, 1) := by decide +kernel
theorem dX5_countInFurnace_10 : decode cX5_countInFurnace 10 = .ok (.iconst 0, 1) := by decide +kernel
theorem dX5_countInFurnace_11 : decode cX5_countInFurnace 11 = .ok (.istore 4, 2) := by decide +kernel
theorem dX5_countInFurnace_13 : decode cX5_countInFurnace 13 = .ok (.iload 4, 2) := by decide +kernel
theorem dX5_countInFurnace_15 : decode cX5_countInFurnace 15 = .ok (.iload_n 3, 1) := by decide +kernel
theorem dX5_countInFurnace_16 : decode cX5_countInFurnace 16 = .ok (.if_icmp .ge 32, 3) := by decide +kernel
theorem dX5_countInFurnace_19 : decode cX5_countInFurnace 19 = .ok (.aload_n 2, 1) := by decide +kernel
theorem dX5_countInFurnace_20 : decode cX5_countInFurnace 20 = .ok (.iload 4, 2) := by decide +kernel
theorem dX5_countInFurnace_22 : decode cX5_countInFurnace 22 = .ok (.aaload, 1) := by decide +kernel
theorem dX5_countInFurnace_23 : decode cX5_countInFurnace 23 = .ok (.astore 5, 2) := by decide +kernel
theorem dX5_countInFurnace_25 : decode cX5_countInFurnace 25 = .ok (.aload 5, 2) := by decide +kernel
theorem dX5_countInFurnace_27 : decode cX5_countInFurnace 27 = .ok (.ifnull 15, 3) := by decide +kernel
theorem dX5_countInFurnace_30 : decode cX5_countInFurnace 30 = .ok (.aload 5, 2) := by decide +kernel
theorem dX5_countInFurnace_32 : decode cX5_countInFurnace 32 = .ok (.getfield 159, 3) := by decide +kernel
theorem dX5_countInFurnace_35 : decode cX5_countInFurnace 35 = .ok (.iconst (-1), 1) := by decide +kernel
theorem dX5_countInFurnace_36 : decode cX5_countInFurnace 36 = .ok (.if_icmp .eq 6, 3) := by decide +kernel
theorem dX5_countInFurnace_39 : decode cX5_countInFurnace 39 = .ok (.iinc 1 1, 3) := by decide +kernel
theorem dX5_countInFurnace_42 : decode cX5_countInFurnace 42 = .ok (.iinc 4 1, 3) := by decide +kernel
theorem dX5_countInFurnace_45 : decode cX5_countInFurnace 45 = .ok (.goto (-32), 3) := by decide +kernel
theorem dX5_countInFurnace_48 : decode cX5_countInFurnace 48 = .ok (.iload_n 1, 1) := by decide +kernel
theorem dX5_countInFurnace_49 : decode cX5_countInFurnace 49 = .ok (.ireturn, 1) := by decide +kernel
theorem dX5_heatProperty_0 : decode cX5_heatProperty 0 = .ok (.aload_n 0, 1) := by decide +kernel
theorem dX5_heatProperty_1 : decode cX5_heatProperty 1 = .ok (.iload_n 1, 1) := by decide +kernel
theorem dX5_heatProperty_2 : decode cX5_heatProperty 2 = .ok (.invokevirtual 68, 3) := by decide +kernel
theorem dX5_heatProperty_5 : decode cX5_heatProperty 5 = .ok (.astore_n 3, 1) := by decide +kernel
theorem dX5_heatProperty_6 : decode cX5_heatProperty 6 = .ok (.iload_n 2, 1) := by decide +kernel
theorem dX5_heatProperty_7 : decode cX5_heatProperty 7 = .ok (.tableswitch 68 0 5 #[37, 42, 47, 52, 58, 63], 37) := by decide +kernel
theorem dX5_heatProperty_44 : decode cX5_heatProperty 44 = .ok (.aload_n 3, 1) := by decide +kernel
theorem dX5_heatProperty_45 : decode cX5_heatProperty 45 = .ok (.getfield 170, 3) := by decide +kernel
theorem dX5_heatProperty_48 : decode cX5_heatProperty 48 = .ok (.ireturn, 1) := by decide +kernel
theorem dX5_heatProperty_49 : decode cX5_heatProperty 49 = .ok (.aload_n 3, 1) := by decide +kernel
theorem dX5_heatProperty_50 : decode cX5_heatProperty 50 = .ok (.getfield 173, 3) := by decide +kernel
theorem dX5_heatProperty_53 : decode cX5_heatProperty 53 = .ok (.ireturn, 1) := by decide +kernel
theorem dX5_heatProperty_54 : decode cX5_heatProperty 54 = .ok (.aload_n 3, 1) := by decide +kernel
theorem dX5_heatProperty_55 : decode cX5_heatProperty 55 = .ok (.getfield 176, 3) := by decide +kernel
theorem dX5_heatProperty_58 : decode cX5_heatProperty 58 = .ok (.ireturn, 1) := by decide +kernel
theorem dX5_heatProperty_59 : decode cX5_heatProperty 59 = .ok (.aload_n 0, 1) := by decide +kernel
theorem dX5_heatProperty_60 : decode cX5_heatProperty 60 = .ok (.iload_n 1, 1) := by decide +kernel
theorem dX5_heatProperty_61 : decode cX5_heatProperty 61 = .ok (.invokevirtual 179, 3) := by decide +kernel
theorem dX5_heatProperty_64 : decode cX5_heatProperty 64 = .ok (.ireturn, 1) := by decide +kernel
theorem dX5_heatProperty_65 : decode cX5_heatProperty 65 = .ok (.aload_n 3, 1) := by decide +kernel
theorem dX5_heatProperty_66 : decode cX5_heatProperty 66 = .ok (.getfield 169, 3) := by decide +kernel
theorem dX5_heatProperty_69 : decode cX5_heatProperty 69 = .ok (.ireturn, 1) := by decide +kernel
theorem dX5_heatProperty_70 : decode cX5_heatProperty 70 = .ok (.aload_n 3, 1) := by decide +kernel
theorem dX5_heatProperty_71 : decode cX5_heatProperty 71 = .ok (.getfield 162, 3) := by decide +kernel
theorem dX5_heatProperty_74 : decode cX5_heatProperty 74 = .ok (.ireturn, 1) := by decide +kernel
theorem dX5_heatProperty_75 : decode cX5_heatProperty 75 = .ok (.aload_n 0, 1) := by decide +kernel
theorem dX5_heatProperty_76 : decode cX5_heatProperty 76 = .ok (.iload_n 1, 1) := by decide +kernel
theorem dX5_heatProperty_77 : decode cX5_heatProperty 77 = .ok (.invokevirtual 182, 3) := by decide +kernel
theorem dX5_heatProperty_80 : decode cX5_heatProperty 80 = .ok (.ireturn, 1) := by decide +kernel
theorem dX5_countBilletsOf_0 : decode cX5_countBilletsOf 0 = .ok (.iconst 0, 1) := by decide +kernel
theorem dX5_countBilletsOf_1 : decode cX5_countBilletsOf 1 = .ok (.istore_n 2, 1) := by decide +kernel
theorem dX5_countBilletsOf_2 : decode cX5_countBilletsOf 2 = .ok (.iconst 0, 1) := by decide +kernel
theorem dX5_countBilletsOf_3 : decode cX5_countBilletsOf 3 = .ok (.istore_n 3, 1) := by decide +kernel
theorem dX5_countBilletsOf_4 : decode cX5_countBilletsOf 4 = .ok (.iload_n 3, 1) := by decide +kernel
theorem dX5_countBilletsOf_5 : decode cX5_countBilletsOf 5 = .ok (.aload_n 0, 1) := by decide +kernel
theorem dX5_countBilletsOf_6 : decode cX5_countBilletsOf 6 = .ok (.getfield 83, 3) := by decide +kernel
theorem dX5_countBilletsOf_9 : decode cX5_countBilletsOf 9 = .ok (.if_icmp .ge 33, 3) := by decide +kernel
theorem dX5_countBilletsOf_12 : decode cX5_countBilletsOf 12 = .ok (.aload_n 0, 1) := by decide +kernel
theorem dX5_countBilletsOf_13 : decode cX5_countBilletsOf 13 = .ok (.iload_n 3, 1) := by decide +kernel
theorem dX5_countBilletsOf_14 : decode cX5_countBilletsOf 14 = .ok (.invokevirtual 86, 3) := by decide +kernel
theorem dX5_countBilletsOf_17 : decode cX5_countBilletsOf 17 = .ok (.astore 4, 2) := by decide +kernel
theorem dX5_countBilletsOf_19 : decode cX5_countBilletsOf 19 = .ok (.aload 4, 2) := by decide +kernel
theorem dX5_countBilletsOf_21 : decode cX5_countBilletsOf 21 = .ok (.getfield 128, 3) := by decide +kernel
theorem dX5_countBilletsOf_24 : decode cX5_countBilletsOf 24 = .ok (.iload_n 1, 1) := by decide +kernel
theorem dX5_countBilletsOf_25 : decode cX5_countBilletsOf 25 = .ok (.if_icmp .ne 11, 3) := by decide +kernel
theorem dX5_countBilletsOf_28 : decode cX5_countBilletsOf 28 = .ok (.iload_n 2, 1) := by decide +kernel
theorem dX5_countBilletsOf_29 : decode cX5_countBilletsOf 29 = .ok (.aload 4, 2) := by decide +kernel
theorem dX5_countBilletsOf_31 : decode cX5_countBilletsOf 31 = .ok (.getfield 144, 3) := by decide +kernel
theorem dX5_countBilletsOf_34 : decode cX5_countBilletsOf 34 = .ok (.iadd, 1) := by decide +kernel
theorem dX5_countBilletsOf_35 : decode cX5_countBilletsOf 35 = .ok (.istore_n 2, 1) := by decide +kernel
theorem dX5_countBilletsOf_36 : decode cX5_countBilletsOf 36 = .ok (.iinc 3 1, 3) := by decide +kernel
theorem dX5_countBilletsOf_39 : decode cX5_countBilletsOf 39 = .ok (.goto (-35), 3) := by decide +kernel
theorem dX5_countBilletsOf_42 : decode cX5_countBilletsOf 42 = .ok (.iload_n 2, 1) := by decide +kernel
theorem dX5_countBilletsOf_43 : decode cX5_countBilletsOf 43 = .ok (.ireturn, 1) := by decide +kernel
theorem dX5_countLackOf_0 : decode cX5_countLackOf 0 = .ok (.iconst 0, 1) := by decide +kernel
theorem dX5_countLackOf_1 : decode cX5_countLackOf 1 = .ok (.istore_n 2, 1) := by decide +kernel
theorem dX5_countLackOf_2 : decode cX5_countLackOf 2 = .ok (.iconst 0, 1) := by decide +kernel
theorem dX5_countLackOf_3 : decode cX5_countLackOf 3 = .ok (.istore_n 3, 1) := by decide +kernel
theorem dX5_countLackOf_4 : decode cX5_countLackOf 4 = .ok (.iload_n 3, 1) := by decide +kernel
theorem dX5_countLackOf_5 : decode cX5_countLackOf 5 = .ok (.aload_n 0, 1) := by decide +kernel
theorem dX5_countLackOf_6 : decode cX5_countLackOf 6 = .ok (.getfield 83, 3) := by decide +kernel
theorem dX5_countLackOf_9 : decode cX5_countLackOf 9 = .ok (.if_icmp .ge 33, 3) := by decide +kernel
theorem dX5_countLackOf_12 : decode cX5_countLackOf 12 = .ok (.aload_n 0, 1) := by decide +kernel
theorem dX5_countLackOf_13 : decode cX5_countLackOf 13 = .ok (.iload_n 3, 1) := by decide +kernel
theorem dX5_countLackOf_14 : decode cX5_countLackOf 14 = .ok (.invokevirtual 86, 3) := by decide +kernel
theorem dX5_countLackOf_17 : decode cX5_countLackOf 17 = .ok (.astore 4, 2) := by decide +kernel
theorem dX5_countLackOf_19 : decode cX5_countLackOf 19 = .ok (.aload 4, 2) := by decide +kernel
theorem dX5_countLackOf_21 : decode cX5_countLackOf 21 = .ok (.getfield 128, 3) := by decide +kernel
theorem dX5_countLackOf_24 : decode cX5_countLackOf 24 = .ok (.iload_n 1, 1) := by decide +kernel
theorem dX5_countLackOf_25 : decode cX5_countLackOf 25 = .ok (.if_icmp .ne 11, 3) := by decide +kernel
theorem dX5_countLackOf_28 : decode cX5_countLackOf 28 = .ok (.iload_n 2, 1) := by decide +kernel
theorem dX5_countLackOf_29 : decode cX5_countLackOf 29 = .ok (.aload 4, 2) := by decide +kernel
theorem dX5_countLackOf_31 : decode cX5_countLackOf 31 = .ok (.invokevirtual 185, 3) := by decide +kernel
theorem dX5_countLackOf_34 : decode cX5_countLackOf 34 = .ok (.iadd, 1) := by decide +kernel
theorem dX5_countLackOf_35 : decode cX5_countLackOf 35 = .ok (.istore_n 2, 1) := by decide +kernel
theorem dX5_countLackOf_36 : decode cX5_countLackOf 36 = .ok (.iinc 3 1, 3) := by decide +kernel
theorem dX5_countLackOf_39 : decode cX5_countLackOf 39 = .ok (.goto (-35), 3) := by decide +kernel
theorem dX5_countLackOf_42 : decode cX5_countLackOf 42 = .ok (.iload_n 2, 1) := by decide +kernel
theorem dX5_countLackOf_43 : decode cX5_countLackOf 43 = .ok (.ireturn, 1) := by decide +kernel
theorem dX5_jobProperty_0 : decode cX5_jobProperty 0 = .ok (.aload_n 0, 1) := by decide +kernel
theorem dX5_jobProperty_1 : decode cX5_jobProperty 1 = .ok (.iload_n 1, 1) := by decide +kernel
theorem dX5_jobProperty_2 : decode cX5_jobProperty 2 = .ok (.invokevirtual 86, 3) := by decide +kernel
theorem dX5_jobProperty_5 : decode cX5_jobProperty 5 = .ok (.astore_n 3, 1) := by decide +kernel
theorem dX5_jobProperty_6 : decode cX5_jobProperty 6 = .ok (.iload_n 2, 1) := by decide +kernel
theorem dX5_jobProperty_7 : decode cX5_jobProperty 7 = .ok (.tableswitch 84 0 6 #[41, 46, 51, 56, 61, 66, 71], 41) := by decide +kernel
theorem dX5_jobProperty_48 : decode cX5_jobProperty 48 = .ok (.aload_n 3, 1) := by decide +kernel
theorem dX5_jobProperty_49 : decode cX5_jobProperty 49 = .ok (.getfield 122, 3) := by decide +kernel
theorem dX5_jobProperty_52 : decode cX5_jobProperty 52 = .ok (.ireturn, 1) := by decide +kernel
theorem dX5_jobProperty_53 : decode cX5_jobProperty 53 = .ok (.aload_n 3, 1) := by decide +kernel
theorem dX5_jobProperty_54 : decode cX5_jobProperty 54 = .ok (.getfield 125, 3) := by decide +kernel
theorem dX5_jobProperty_57 : decode cX5_jobProperty 57 = .ok (.ireturn, 1) := by decide +kernel
theorem dX5_jobProperty_58 : decode cX5_jobProperty 58 = .ok (.aload_n 3, 1) := by decide +kernel
theorem dX5_jobProperty_59 : decode cX5_jobProperty 59 = .ok (.getfield 128, 3) := by decide +kernel
theorem dX5_jobProperty_62 : decode cX5_jobProperty 62 = .ok (.ireturn, 1) := by decide +kernel
theorem dX5_jobProperty_63 : decode cX5_jobProperty 63 = .ok (.aload_n 3, 1) := by decide +kernel
theorem dX5_jobProperty_64 : decode cX5_jobProperty 64 = .ok (.getfield 131, 3) := by decide +kernel
theorem dX5_jobProperty_67 : decode cX5_jobProperty 67 = .ok (.ireturn, 1) := by decide +kernel
theorem dX5_jobProperty_68 : decode cX5_jobProperty 68 = .ok (.aload_n 3, 1) := by decide +kernel
theorem dX5_jobProperty_69 : decode cX5_jobProperty 69 = .ok (.getfield 134, 3) := by decide +kernel
theorem dX5_jobProperty_72 : decode cX5_jobProperty 72 = .ok (.ireturn, 1) := by decide +kernel
theorem dX5_jobProperty_73 : decode cX5_jobProperty 73 = .ok (.aload_n 3, 1) := by decide +kernel
theorem dX5_jobProperty_74 : decode cX5_jobProperty 74 = .ok (.getfield 137, 3) := by decide +kernel
theorem dX5_jobProperty_77 : decode cX5_jobProperty 77 = .ok (.ireturn, 1) := by decide +kernel
theorem dX5_jobProperty_78 : decode cX5_jobProperty 78 = .ok (.aload_n 3, 1) := by decide +kernel
theorem dX5_jobProperty_79 : decode cX5_jobProperty 79 = .ok (.getfield 140, 3) := by decide +kernel
theorem dX5_jobProperty_82 : decode cX5_jobProperty 82 = .ok (.ifCond .eq 7, 3) := by decide +kernel
theorem dX5_jobProperty_85 : decode cX5_jobProperty 85 = .ok (.iconst 1, 1) := by decide +kernel
theorem dX5_jobProperty_86 : decode cX5_jobProperty 86 = .ok (.goto 4, 3) := by decide +kernel
theorem dX5_jobProperty_89 : decode cX5_jobProperty 89 = .ok (.iconst 0, 1) := by decide +kernel
theorem dX5_jobProperty_90 : decode cX5_jobProperty 90 = .ok (.ireturn, 1) := by decide +kernel
theorem dX5_jobProperty_91 : decode cX5_jobProperty 91 = .ok (.aload_n 0, 1) := by decide +kernel
theorem dX5_jobProperty_92 : decode cX5_jobProperty 92 = .ok (.aload_n 3, 1) := by decide +kernel
theorem dX5_jobProperty_93 : decode cX5_jobProperty 93 = .ok (.invokevirtual 189, 3) := by decide +kernel
theorem dX5_jobProperty_96 : decode cX5_jobProperty 96 = .ok (.ireturn, 1) := by decide +kernel
theorem dX5_reasonToWait_0 : decode cX5_reasonToWait 0 = .ok (.aload_n 0, 1) := by decide +kernel
theorem dX5_reasonToWait_1 : decode cX5_reasonToWait 1 = .ok (.aload_n 1, 1) := by decide +kernel
theorem dX5_reasonToWait_2 : decode cX5_reasonToWait 2 = .ok (.getfield 125, 3) := by decide +kernel
theorem dX5_reasonToWait_5 : decode cX5_reasonToWait 5 = .ok (.invokevirtual 76, 3) := by decide +kernel
theorem dX5_reasonToWait_8 : decode cX5_reasonToWait 8 = .ok (.astore_n 2, 1) := by decide +kernel
theorem dX5_reasonToWait_9 : decode cX5_reasonToWait 9 = .ok (.aload_n 0, 1) := by decide +kernel
theorem dX5_reasonToWait_10 : decode cX5_reasonToWait 10 = .ok (.getfield 52, 3) := by decide +kernel
theorem dX5_reasonToWait_13 : decode cX5_reasonToWait 13 = .ok (.getfield 159, 3) := by decide +kernel
theorem dX5_reasonToWait_16 : decode cX5_reasonToWait 16 = .ok (.aload_n 1, 1) := by decide +kernel
theorem dX5_reasonToWait_17 : decode cX5_reasonToWait 17 = .ok (.getfield 122, 3) := by decide +kernel
theorem dX5_reasonToWait_20 : decode cX5_reasonToWait 20 = .ok (.if_icmp .ne 5, 3) := by decide +kernel
theorem dX5_reasonToWait_23 : decode cX5_reasonToWait 23 = .ok (.iconst 0, 1) := by decide +kernel
theorem dX5_reasonToWait_24 : decode cX5_reasonToWait 24 = .ok (.ireturn, 1) := by decide +kernel
theorem dX5_reasonToWait_25 : decode cX5_reasonToWait 25 = .ok (.aload_n 2, 1) := by decide +kernel
theorem dX5_reasonToWait_26 : decode cX5_reasonToWait 26 = .ok (.invokevirtual 193, 3) := by decide +kernel
theorem dX5_reasonToWait_29 : decode cX5_reasonToWait 29 = .ok (.ifCond .eq 5, 3) := by decide +kernel
theorem dX5_reasonToWait_32 : decode cX5_reasonToWait 32 = .ok (.iconst 1, 1) := by decide +kernel
theorem dX5_reasonToWait_33 : decode cX5_reasonToWait 33 = .ok (.ireturn, 1) := by decide +kernel
theorem dX5_reasonToWait_34 : decode cX5_reasonToWait 34 = .ok (.aload_n 2, 1) := by decide +kernel
theorem dX5_reasonToWait_35 : decode cX5_reasonToWait 35 = .ok (.invokevirtual 197, 3) := by decide +kernel
theorem dX5_reasonToWait_38 : decode cX5_reasonToWait 38 = .ok (.ifCond .eq 5, 3) := by decide +kernel
theorem dX5_reasonToWait_41 : decode cX5_reasonToWait 41 = .ok (.iconst 2, 1) := by decide +kernel
theorem dX5_reasonToWait_42 : decode cX5_reasonToWait 42 = .ok (.ireturn, 1) := by decide +kernel
theorem dX5_reasonToWait_43 : decode cX5_reasonToWait 43 = .ok (.aload_n 1, 1) := by decide +kernel
theorem dX5_reasonToWait_44 : decode cX5_reasonToWait 44 = .ok (.getfield 144, 3) := by decide +kernel
theorem dX5_reasonToWait_47 : decode cX5_reasonToWait 47 = .ok (.ifCond .ne 19, 3) := by decide +kernel
theorem dX5_reasonToWait_50 : decode cX5_reasonToWait 50 = .ok (.aload_n 0, 1) := by decide +kernel
theorem dX5_reasonToWait_51 : decode cX5_reasonToWait 51 = .ok (.aload_n 1, 1) := by decide +kernel
theorem dX5_reasonToWait_52 : decode cX5_reasonToWait 52 = .ok (.getfield 128, 3) := by decide +kernel
theorem dX5_reasonToWait_55 : decode cX5_reasonToWait 55 = .ok (.invokevirtual 68, 3) := by decide +kernel
theorem dX5_reasonToWait_58 : decode cX5_reasonToWait 58 = .ok (.getfield 170, 3) := by decide +kernel
theorem dX5_reasonToWait_61 : decode cX5_reasonToWait 61 = .ok (.ifCond .ne 5, 3) := by decide +kernel
theorem dX5_reasonToWait_64 : decode cX5_reasonToWait 64 = .ok (.iconst 3, 1) := by decide +kernel
theorem dX5_reasonToWait_65 : decode cX5_reasonToWait 65 = .ok (.ireturn, 1) := by decide +kernel
theorem dX5_reasonToWait_66 : decode cX5_reasonToWait 66 = .ok (.aload_n 0, 1) := by decide +kernel
theorem dX5_reasonToWait_67 : decode cX5_reasonToWait 67 = .ok (.aload_n 1, 1) := by decide +kernel
theorem dX5_reasonToWait_68 : decode cX5_reasonToWait 68 = .ok (.invokevirtual 200, 3) := by decide +kernel
theorem dX5_reasonToWait_71 : decode cX5_reasonToWait 71 = .ok (.ifnonnull 5, 3) := by decide +kernel
theorem dX5_reasonToWait_74 : decode cX5_reasonToWait 74 = .ok (.iconst 4, 1) := by decide +kernel
theorem dX5_reasonToWait_75 : decode cX5_reasonToWait 75 = .ok (.ireturn, 1) := by decide +kernel
theorem dX5_reasonToWait_76 : decode cX5_reasonToWait 76 = .ok (.aload_n 0, 1) := by decide +kernel
theorem dX5_reasonToWait_77 : decode cX5_reasonToWait 77 = .ok (.getfield 52, 3) := by decide +kernel
theorem dX5_reasonToWait_80 : decode cX5_reasonToWait 80 = .ok (.getfield 159, 3) := by decide +kernel
theorem dX5_reasonToWait_83 : decode cX5_reasonToWait 83 = .ok (.iconst (-1), 1) := by decide +kernel
theorem dX5_reasonToWait_84 : decode cX5_reasonToWait 84 = .ok (.if_icmp .eq 7, 3) := by decide +kernel
theorem dX5_reasonToWait_87 : decode cX5_reasonToWait 87 = .ok (.iconst 5, 1) := by decide +kernel
theorem dX5_reasonToWait_88 : decode cX5_reasonToWait 88 = .ok (.goto 5, 3) := by decide +kernel
theorem dX5_reasonToWait_91 : decode cX5_reasonToWait 91 = .ok (.bipush 6, 2) := by decide +kernel
theorem dX5_reasonToWait_93 : decode cX5_reasonToWait 93 = .ok (.ireturn, 1) := by decide +kernel
theorem dX5_dieBeingGround_0 : decode cX5_dieBeingGround 0 = .ok (.iconst 0, 1) := by decide +kernel
theorem dX5_dieBeingGround_1 : decode cX5_dieBeingGround 1 = .ok (.istore_n 1, 1) := by decide +kernel
theorem dX5_dieBeingGround_2 : decode cX5_dieBeingGround 2 = .ok (.iload_n 1, 1) := by decide +kernel
theorem dX5_dieBeingGround_3 : decode cX5_dieBeingGround 3 = .ok (.iconst 5, 1) := by decide +kernel
theorem dX5_dieBeingGround_4 : decode cX5_dieBeingGround 4 = .ok (.if_icmp .ge 22, 3) := by decide +kernel
theorem dX5_dieBeingGround_7 : decode cX5_dieBeingGround 7 = .ok (.aload_n 0, 1) := by decide +kernel
theorem dX5_dieBeingGround_8 : decode cX5_dieBeingGround 8 = .ok (.iload_n 1, 1) := by decide +kernel
theorem dX5_dieBeingGround_9 : decode cX5_dieBeingGround 9 = .ok (.invokevirtual 76, 3) := by decide +kernel
theorem dX5_dieBeingGround_12 : decode cX5_dieBeingGround 12 = .ok (.invokevirtual 193, 3) := by decide +kernel
theorem dX5_dieBeingGround_15 : decode cX5_dieBeingGround 15 = .ok (.ifCond .eq 5, 3) := by decide +kernel
theorem dX5_dieBeingGround_18 : decode cX5_dieBeingGround 18 = .ok (.iload_n 1, 1) := by decide +kernel
theorem dX5_dieBeingGround_19 : decode cX5_dieBeingGround 19 = .ok (.ireturn, 1) := by decide +kernel
theorem dX5_dieBeingGround_20 : decode cX5_dieBeingGround 20 = .ok (.iinc 1 1, 3) := by decide +kernel
theorem dX5_dieBeingGround_23 : decode cX5_dieBeingGround 23 = .ok (.goto (-21), 3) := by decide +kernel
theorem dX5_dieBeingGround_26 : decode cX5_dieBeingGround 26 = .ok (.iconst (-1), 1) := by decide +kernel
theorem dX5_dieBeingGround_27 : decode cX5_dieBeingGround 27 = .ok (.ireturn, 1) := by decide +kernel
theorem dX5_freePlace_0 : decode cX5_freePlace 0 = .ok (.aload_n 0, 1) := by decide +kernel
theorem dX5_freePlace_1 : decode cX5_freePlace 1 = .ok (.getfield 47, 3) := by decide +kernel
theorem dX5_freePlace_4 : decode cX5_freePlace 4 = .ok (.astore_n 1, 1) := by decide +kernel
theorem dX5_freePlace_5 : decode cX5_freePlace 5 = .ok (.aload_n 1, 1) := by decide +kernel
theorem dX5_freePlace_6 : decode cX5_freePlace 6 = .ok (.arraylength, 1) := by decide +kernel
theorem dX5_freePlace_7 : decode cX5_freePlace 7 = .ok (.istore_n 2, 1) := by decide +kernel
theorem dX5_freePlace_8 : decode cX5_freePlace 8 = .ok (.iconst 0, 1) := by decide +kernel
theorem dX5_freePlace_9 : decode cX5_freePlace 9 = .ok (.istore_n 3, 1) := by decide +kernel
theorem dX5_freePlace_10 : decode cX5_freePlace 10 = .ok (.iload_n 3, 1) := by decide +kernel
theorem dX5_freePlace_11 : decode cX5_freePlace 11 = .ok (.iload_n 2, 1) := by decide +kernel
theorem dX5_freePlace_12 : decode cX5_freePlace 12 = .ok (.if_icmp .ge 31, 3) := by decide +kernel
theorem dX5_freePlace_15 : decode cX5_freePlace 15 = .ok (.aload_n 1, 1) := by decide +kernel
theorem dX5_freePlace_16 : decode cX5_freePlace 16 = .ok (.iload_n 3, 1) := by decide +kernel
theorem dX5_freePlace_17 : decode cX5_freePlace 17 = .ok (.aaload, 1) := by decide +kernel
theorem dX5_freePlace_18 : decode cX5_freePlace 18 = .ok (.astore 4, 2) := by decide +kernel
theorem dX5_freePlace_20 : decode cX5_freePlace 20 = .ok (.aload 4, 2) := by decide +kernel
theorem dX5_freePlace_22 : decode cX5_freePlace 22 = .ok (.ifnull 15, 3) := by decide +kernel
theorem dX5_freePlace_25 : decode cX5_freePlace 25 = .ok (.aload 4, 2) := by decide +kernel
theorem dX5_freePlace_27 : decode cX5_freePlace 27 = .ok (.getfield 159, 3) := by decide +kernel
theorem dX5_freePlace_30 : decode cX5_freePlace 30 = .ok (.iconst (-1), 1) := by decide +kernel
theorem dX5_freePlace_31 : decode cX5_freePlace 31 = .ok (.if_icmp .ne 6, 3) := by decide +kernel
theorem dX5_freePlace_34 : decode cX5_freePlace 34 = .ok (.aload 4, 2) := by decide +kernel
theorem dX5_freePlace_36 : decode cX5_freePlace 36 = .ok (.areturn, 1) := by decide +kernel
theorem dX5_freePlace_37 : decode cX5_freePlace 37 = .ok (.iinc 3 1, 3) := by decide +kernel
theorem dX5_freePlace_40 : decode cX5_freePlace 40 = .ok (.goto (-30), 3) := by decide +kernel
theorem dX5_freePlace_43 : decode cX5_freePlace 43 = .ok (.aconst_null, 1) := by decide +kernel
theorem dX5_freePlace_44 : decode cX5_freePlace 44 = .ok (.areturn, 1) := by decide +kernel
theorem dX5_hottestReady_0 : decode cX5_hottestReady 0 = .ok (.aload_n 0, 1) := by decide +kernel
theorem dX5_hottestReady_1 : decode cX5_hottestReady 1 = .ok (.aload_n 1, 1) := by decide +kernel
theorem dX5_hottestReady_2 : decode cX5_hottestReady 2 = .ok (.getfield 128, 3) := by decide +kernel
theorem dX5_hottestReady_5 : decode cX5_hottestReady 5 = .ok (.invokevirtual 68, 3) := by decide +kernel
theorem dX5_hottestReady_8 : decode cX5_hottestReady 8 = .ok (.getfield 176, 3) := by decide +kernel
theorem dX5_hottestReady_11 : decode cX5_hottestReady 11 = .ok (.istore_n 2, 1) := by decide +kernel
theorem dX5_hottestReady_12 : decode cX5_hottestReady 12 = .ok (.aconst_null, 1) := by decide +kernel
theorem dX5_hottestReady_13 : decode cX5_hottestReady 13 = .ok (.astore_n 3, 1) := by decide +kernel
theorem dX5_hottestReady_14 : decode cX5_hottestReady 14 = .ok (.aload_n 0, 1) := by decide +kernel
theorem dX5_hottestReady_15 : decode cX5_hottestReady 15 = .ok (.getfield 47, 3) := by decide +kernel
theorem dX5_hottestReady_18 : decode cX5_hottestReady 18 = .ok (.astore 4, 2) := by decide +kernel
theorem dX5_hottestReady_20 : decode cX5_hottestReady 20 = .ok (.aload 4, 2) := by decide +kernel
theorem dX5_hottestReady_22 : decode cX5_hottestReady 22 = .ok (.arraylength, 1) := by decide +kernel
theorem dX5_hottestReady_23 : decode cX5_hottestReady 23 = .ok (.istore 5, 2) := by decide +kernel
theorem dX5_hottestReady_25 : decode cX5_hottestReady 25 = .ok (.iconst 0, 1) := by decide +kernel
theorem dX5_hottestReady_26 : decode cX5_hottestReady 26 = .ok (.istore 6, 2) := by decide +kernel
theorem dX5_hottestReady_28 : decode cX5_hottestReady 28 = .ok (.iload 6, 2) := by decide +kernel
theorem dX5_hottestReady_30 : decode cX5_hottestReady 30 = .ok (.iload 5, 2) := by decide +kernel
theorem dX5_hottestReady_32 : decode cX5_hottestReady 32 = .ok (.if_icmp .ge 53, 3) := by decide +kernel
theorem dX5_hottestReady_35 : decode cX5_hottestReady 35 = .ok (.aload 4, 2) := by decide +kernel
theorem dX5_hottestReady_37 : decode cX5_hottestReady 37 = .ok (.iload 6, 2) := by decide +kernel
theorem dX5_hottestReady_39 : decode cX5_hottestReady 39 = .ok (.aaload, 1) := by decide +kernel
theorem dX5_hottestReady_40 : decode cX5_hottestReady 40 = .ok (.astore 7, 2) := by decide +kernel
theorem dX5_hottestReady_42 : decode cX5_hottestReady 42 = .ok (.aload 7, 2) := by decide +kernel
theorem dX5_hottestReady_44 : decode cX5_hottestReady 44 = .ok (.ifnull 35, 3) := by decide +kernel
theorem dX5_hottestReady_47 : decode cX5_hottestReady 47 = .ok (.aload 7, 2) := by decide +kernel
theorem dX5_hottestReady_49 : decode cX5_hottestReady 49 = .ok (.getfield 159, 3) := by decide +kernel
theorem dX5_hottestReady_52 : decode cX5_hottestReady 52 = .ok (.aload_n 1, 1) := by decide +kernel
theorem dX5_hottestReady_53 : decode cX5_hottestReady 53 = .ok (.getfield 122, 3) := by decide +kernel
theorem dX5_hottestReady_56 : decode cX5_hottestReady 56 = .ok (.if_icmp .ne 23, 3) := by decide +kernel
theorem dX5_hottestReady_59 : decode cX5_hottestReady 59 = .ok (.aload 7, 2) := by decide +kernel
theorem dX5_hottestReady_61 : decode cX5_hottestReady 61 = .ok (.getfield 204, 3) := by decide +kernel
theorem dX5_hottestReady_64 : decode cX5_hottestReady 64 = .ok (.iload_n 2, 1) := by decide +kernel
theorem dX5_hottestReady_65 : decode cX5_hottestReady 65 = .ok (.if_icmp .lt 14, 3) := by decide +kernel
theorem dX5_hottestReady_68 : decode cX5_hottestReady 68 = .ok (.aload 7, 2) := by decide +kernel
theorem dX5_hottestReady_70 : decode cX5_hottestReady 70 = .ok (.astore_n 3, 1) := by decide +kernel
theorem dX5_hottestReady_71 : decode cX5_hottestReady 71 = .ok (.aload 7, 2) := by decide +kernel
theorem dX5_hottestReady_73 : decode cX5_hottestReady 73 = .ok (.getfield 204, 3) := by decide +kernel
theorem dX5_hottestReady_76 : decode cX5_hottestReady 76 = .ok (.iconst 1, 1) := by decide +kernel
theorem dX5_hottestReady_77 : decode cX5_hottestReady 77 = .ok (.iadd, 1) := by decide +kernel
theorem dX5_hottestReady_78 : decode cX5_hottestReady 78 = .ok (.istore_n 2, 1) := by decide +kernel
theorem dX5_hottestReady_79 : decode cX5_hottestReady 79 = .ok (.iinc 6 1, 3) := by decide +kernel
theorem dX5_hottestReady_82 : decode cX5_hottestReady 82 = .ok (.goto (-54), 3) := by decide +kernel
theorem dX5_hottestReady_85 : decode cX5_hottestReady 85 = .ok (.aload_n 3, 1) := by decide +kernel
theorem dX5_hottestReady_86 : decode cX5_hottestReady 86 = .ok (.areturn, 1) := by decide +kernel
theorem dX5_passMinutes_0 : decode cX5_passMinutes 0 = .ok (.iconst 0, 1) := by decide +kernel
theorem dX5_passMinutes_1 : decode cX5_passMinutes 1 = .ok (.istore_n 2, 1) := by decide +kernel
theorem dX5_passMinutes_2 : decode cX5_passMinutes 2 = .ok (.iload_n 2, 1) := by decide +kernel
theorem dX5_passMinutes_3 : decode cX5_passMinutes 3 = .ok (.iload_n 1, 1) := by decide +kernel
theorem dX5_passMinutes_4 : decode cX5_passMinutes 4 = .ok (.if_icmp .ge 13, 3) := by decide +kernel
theorem dX5_passMinutes_7 : decode cX5_passMinutes 7 = .ok (.aload_n 0, 1) := by decide +kernel
theorem dX5_passMinutes_8 : decode cX5_passMinutes 8 = .ok (.invokevirtual 207, 3) := by decide +kernel
theorem dX5_passMinutes_11 : decode cX5_passMinutes 11 = .ok (.iinc 2 1, 3) := by decide +kernel
theorem dX5_passMinutes_14 : decode cX5_passMinutes 14 = .ok (.goto (-12), 3) := by decide +kernel
theorem dX5_passMinutes_17 : decode cX5_passMinutes 17 = .ok (.return_, 1) := by decide +kernel
theorem dX5_passMinute_0 : decode cX5_passMinute 0 = .ok (.aload_n 0, 1) := by decide +kernel
theorem dX5_passMinute_1 : decode cX5_passMinute 1 = .ok (.dup, 1) := by decide +kernel
theorem dX5_passMinute_2 : decode cX5_passMinute 2 = .ok (.getfield 107, 3) := by decide +kernel
theorem dX5_passMinute_5 : decode cX5_passMinute 5 = .ok (.iconst 1, 1) := by decide +kernel
theorem dX5_passMinute_6 : decode cX5_passMinute 6 = .ok (.iadd, 1) := by decide +kernel
theorem dX5_passMinute_7 : decode cX5_passMinute 7 = .ok (.putfield 107, 3) := by decide +kernel
theorem dX5_passMinute_10 : decode cX5_passMinute 10 = .ok (.aload_n 0, 1) := by decide +kernel
theorem dX5_passMinute_11 : decode cX5_passMinute 11 = .ok (.invokevirtual 210, 3) := by decide +kernel
theorem dX5_passMinute_14 : decode cX5_passMinute 14 = .ok (.aload_n 0, 1) := by decide +kernel
theorem dX5_passMinute_15 : decode cX5_passMinute 15 = .ok (.invokevirtual 213, 3) := by decide +kernel
theorem dX5_passMinute_18 : decode cX5_passMinute 18 = .ok (.aload_n 0, 1) := by decide +kernel
theorem dX5_passMinute_19 : decode cX5_passMinute 19 = .ok (.getfield 52, 3) := by decide +kernel
theorem dX5_passMinute_22 : decode cX5_passMinute 22 = .ok (.getfield 159, 3) := by decide +kernel
theorem dX5_passMinute_25 : decode cX5_passMinute 25 = .ok (.iconst (-1), 1) := by decide +kernel
theorem dX5_passMinute_26 : decode cX5_passMinute 26 = .ok (.if_icmp .ne 10, 3) := by decide +kernel
theorem dX5_passMinute_29 : decode cX5_passMinute 29 = .ok (.aload_n 0, 1) := by decide +kernel
theorem dX5_passMinute_30 : decode cX5_passMinute 30 = .ok (.invokevirtual 216, 3) := by decide +kernel
theorem dX5_passMinute_33 : decode cX5_passMinute 33 = .ok (.goto 18, 3) := by decide +kernel
theorem dX5_passMinute_36 : decode cX5_passMinute 36 = .ok (.aload_n 0, 1) := by decide +kernel
theorem dX5_passMinute_37 : decode cX5_passMinute 37 = .ok (.aload_n 0, 1) := by decide +kernel
theorem dX5_passMinute_38 : decode cX5_passMinute 38 = .ok (.aload_n 0, 1) := by decide +kernel
theorem dX5_passMinute_39 : decode cX5_passMinute 39 = .ok (.getfield 52, 3) := by decide +kernel
theorem dX5_passMinute_42 : decode cX5_passMinute 42 = .ok (.getfield 159, 3) := by decide +kernel
theorem dX5_passMinute_45 : decode cX5_passMinute 45 = .ok (.invokevirtual 219, 3) := by decide +kernel
theorem dX5_passMinute_48 : decode cX5_passMinute 48 = .ok (.invokevirtual 222, 3) := by decide +kernel
theorem dX5_passMinute_51 : decode cX5_passMinute 51 = .ok (.aload_n 0, 1) := by decide +kernel
theorem dX5_passMinute_52 : decode cX5_passMinute 52 = .ok (.invokevirtual 225, 3) := by decide +kernel
theorem dX5_passMinute_55 : decode cX5_passMinute 55 = .ok (.return_, 1) := by decide +kernel
theorem dX5_warmFurnace_0 : decode cX5_warmFurnace 0 = .ok (.aload_n 0, 1) := by decide +kernel
theorem dX5_warmFurnace_1 : decode cX5_warmFurnace 1 = .ok (.getfield 47, 3) := by decide +kernel
theorem dX5_warmFurnace_4 : decode cX5_warmFurnace 4 = .ok (.astore_n 1, 1) := by decide +kernel
theorem dX5_warmFurnace_5 : decode cX5_warmFurnace 5 = .ok (.aload_n 1, 1) := by decide +kernel
theorem dX5_warmFurnace_6 : decode cX5_warmFurnace 6 = .ok (.arraylength, 1) := by decide +kernel
theorem dX5_warmFurnace_7 : decode cX5_warmFurnace 7 = .ok (.istore_n 2, 1) := by decide +kernel
theorem dX5_warmFurnace_8 : decode cX5_warmFurnace 8 = .ok (.iconst 0, 1) := by decide +kernel
theorem dX5_warmFurnace_9 : decode cX5_warmFurnace 9 = .ok (.istore_n 3, 1) := by decide +kernel
theorem dX5_warmFurnace_10 : decode cX5_warmFurnace 10 = .ok (.iload_n 3, 1) := by decide +kernel
theorem dX5_warmFurnace_11 : decode cX5_warmFurnace 11 = .ok (.iload_n 2, 1) := by decide +kernel
theorem dX5_warmFurnace_12 : decode cX5_warmFurnace 12 = .ok (.if_icmp .ge 49, 3) := by decide +kernel
theorem dX5_warmFurnace_15 : decode cX5_warmFurnace 15 = .ok (.aload_n 1, 1) := by decide +kernel
theorem dX5_warmFurnace_16 : decode cX5_warmFurnace 16 = .ok (.iload_n 3, 1) := by decide +kernel
theorem dX5_warmFurnace_17 : decode cX5_warmFurnace 17 = .ok (.aaload, 1) := by decide +kernel
theorem dX5_warmFurnace_18 : decode cX5_warmFurnace 18 = .ok (.astore 4, 2) := by decide +kernel
theorem dX5_warmFurnace_20 : decode cX5_warmFurnace 20 = .ok (.aload 4, 2) := by decide +kernel
theorem dX5_warmFurnace_22 : decode cX5_warmFurnace 22 = .ok (.ifnull 33, 3) := by decide +kernel
theorem dX5_warmFurnace_25 : decode cX5_warmFurnace 25 = .ok (.aload 4, 2) := by decide +kernel
theorem dX5_warmFurnace_27 : decode cX5_warmFurnace 27 = .ok (.getfield 159, 3) := by decide +kernel
theorem dX5_warmFurnace_30 : decode cX5_warmFurnace 30 = .ok (.iconst (-1), 1) := by decide +kernel
theorem dX5_warmFurnace_31 : decode cX5_warmFurnace 31 = .ok (.if_icmp .eq 24, 3) := by decide +kernel
theorem dX5_warmFurnace_34 : decode cX5_warmFurnace 34 = .ok (.aload 4, 2) := by decide +kernel
theorem dX5_warmFurnace_36 : decode cX5_warmFurnace 36 = .ok (.sipush 1250, 3) := by decide +kernel
theorem dX5_warmFurnace_39 : decode cX5_warmFurnace 39 = .ok (.aload 4, 2) := by decide +kernel
theorem dX5_warmFurnace_41 : decode cX5_warmFurnace 41 = .ok (.getfield 204, 3) := by decide +kernel
theorem dX5_warmFurnace_44 : decode cX5_warmFurnace 44 = .ok (.aload_n 0, 1) := by decide +kernel
theorem dX5_warmFurnace_45 : decode cX5_warmFurnace 45 = .ok (.getfield 9, 3) := by decide +kernel
theorem dX5_warmFurnace_48 : decode cX5_warmFurnace 48 = .ok (.iadd, 1) := by decide +kernel
theorem dX5_warmFurnace_49 : decode cX5_warmFurnace 49 = .ok (.invokestatic 228, 3) := by decide +kernel
theorem dX5_warmFurnace_52 : decode cX5_warmFurnace 52 = .ok (.putfield 204, 3) := by decide +kernel
theorem dX5_warmFurnace_55 : decode cX5_warmFurnace 55 = .ok (.iinc 3 1, 3) := by decide +kernel
theorem dX5_warmFurnace_58 : decode cX5_warmFurnace 58 = .ok (.goto (-48), 3) := by decide +kernel
theorem dX5_warmFurnace_61 : decode cX5_warmFurnace 61 = .ok (.return_, 1) := by decide +kernel
theorem dX5_chargeFurnace_0 : decode cX5_chargeFurnace 0 = .ok (.aload_n 0, 1) := by decide +kernel
theorem dX5_chargeFurnace_1 : decode cX5_chargeFurnace 1 = .ok (.invokevirtual 234, 3) := by decide +kernel
theorem dX5_chargeFurnace_4 : decode cX5_chargeFurnace 4 = .ok (.astore_n 1, 1) := by decide +kernel
theorem dX5_chargeFurnace_5 : decode cX5_chargeFurnace 5 = .ok (.aload_n 1, 1) := by decide +kernel
theorem dX5_chargeFurnace_6 : decode cX5_chargeFurnace 6 = .ok (.ifnonnull 4, 3) := by decide +kernel
theorem dX5_chargeFurnace_9 : decode cX5_chargeFurnace 9 = .ok (.return_, 1) := by decide +kernel
theorem dX5_chargeFurnace_10 : decode cX5_chargeFurnace 10 = .ok (.iconst 0, 1) := by decide +kernel
theorem dX5_chargeFurnace_11 : decode cX5_chargeFurnace 11 = .ok (.istore_n 2, 1) := by decide +kernel
theorem dX5_chargeFurnace_12 : decode cX5_chargeFurnace 12 = .ok (.iload_n 2, 1) := by decide +kernel
theorem dX5_chargeFurnace_13 : decode cX5_chargeFurnace 13 = .ok (.aload_n 0, 1) := by decide +kernel
theorem dX5_chargeFurnace_14 : decode cX5_chargeFurnace 14 = .ok (.getfield 83, 3) := by decide +kernel
theorem dX5_chargeFurnace_17 : decode cX5_chargeFurnace 17 = .ok (.if_icmp .ge 96, 3) := by decide +kernel
theorem dX5_chargeFurnace_20 : decode cX5_chargeFurnace 20 = .ok (.aload_n 0, 1) := by decide +kernel
theorem dX5_chargeFurnace_21 : decode cX5_chargeFurnace 21 = .ok (.iload_n 2, 1) := by decide +kernel
theorem dX5_chargeFurnace_22 : decode cX5_chargeFurnace 22 = .ok (.invokevirtual 86, 3) := by decide +kernel
theorem dX5_chargeFurnace_25 : decode cX5_chargeFurnace 25 = .ok (.astore_n 3, 1) := by decide +kernel
theorem dX5_chargeFurnace_26 : decode cX5_chargeFurnace 26 = .ok (.aload_n 0, 1) := by decide +kernel
theorem dX5_chargeFurnace_27 : decode cX5_chargeFurnace 27 = .ok (.aload_n 3, 1) := by decide +kernel
theorem dX5_chargeFurnace_28 : decode cX5_chargeFurnace 28 = .ok (.getfield 128, 3) := by decide +kernel
theorem dX5_chargeFurnace_31 : decode cX5_chargeFurnace 31 = .ok (.invokevirtual 68, 3) := by decide +kernel
theorem dX5_chargeFurnace_34 : decode cX5_chargeFurnace 34 = .ok (.astore 4, 2) := by decide +kernel
theorem dX5_chargeFurnace_36 : decode cX5_chargeFurnace 36 = .ok (.aload 4, 2) := by decide +kernel
theorem dX5_chargeFurnace_38 : decode cX5_chargeFurnace 38 = .ok (.getfield 170, 3) := by decide +kernel
theorem dX5_chargeFurnace_41 : decode cX5_chargeFurnace 41 = .ok (.ifCond .le 66, 3) := by decide +kernel
theorem dX5_chargeFurnace_44 : decode cX5_chargeFurnace 44 = .ok (.aload_n 3, 1) := by decide +kernel
theorem dX5_chargeFurnace_45 : decode cX5_chargeFurnace 45 = .ok (.invokevirtual 185, 3) := by decide +kernel
theorem dX5_chargeFurnace_48 : decode cX5_chargeFurnace 48 = .ok (.ifCond .le 59, 3) := by decide +kernel
theorem dX5_chargeFurnace_51 : decode cX5_chargeFurnace 51 = .ok (.aload 4, 2) := by decide +kernel
theorem dX5_chargeFurnace_53 : decode cX5_chargeFurnace 53 = .ok (.dup, 1) := by decide +kernel
theorem dX5_chargeFurnace_54 : decode cX5_chargeFurnace 54 = .ok (.getfield 170, 3) := by decide +kernel
theorem dX5_chargeFurnace_57 : decode cX5_chargeFurnace 57 = .ok (.iconst 1, 1) := by decide +kernel
theorem dX5_chargeFurnace_58 : decode cX5_chargeFurnace 58 = .ok (.isub, 1) := by decide +kernel
theorem dX5_chargeFurnace_59 : decode cX5_chargeFurnace 59 = .ok (.putfield 170, 3) := by decide +kernel
theorem dX5_chargeFurnace_62 : decode cX5_chargeFurnace 62 = .ok (.aload_n 3, 1) := by decide +kernel
theorem dX5_chargeFurnace_63 : decode cX5_chargeFurnace 63 = .ok (.dup, 1) := by decide +kernel
theorem dX5_chargeFurnace_64 : decode cX5_chargeFurnace 64 = .ok (.getfield 144, 3) := by decide +kernel
theorem dX5_chargeFurnace_67 : decode cX5_chargeFurnace 67 = .ok (.iconst 1, 1) := by decide +kernel
theorem dX5_chargeFurnace_68 : decode cX5_chargeFurnace 68 = .ok (.iadd, 1) := by decide +kernel
theorem dX5_chargeFurnace_69 : decode cX5_chargeFurnace 69 = .ok (.putfield 144, 3) := by decide +kernel
theorem dX5_chargeFurnace_72 : decode cX5_chargeFurnace 72 = .ok (.aload_n 1, 1) := by decide +kernel
theorem dX5_chargeFurnace_73 : decode cX5_chargeFurnace 73 = .ok (.aload_n 3, 1) := by decide +kernel
theorem dX5_chargeFurnace_74 : decode cX5_chargeFurnace 74 = .ok (.getfield 122, 3) := by decide +kernel
theorem dX5_chargeFurnace_77 : decode cX5_chargeFurnace 77 = .ok (.putfield 159, 3) := by decide +kernel
theorem dX5_chargeFurnace_80 : decode cX5_chargeFurnace 80 = .ok (.aload_n 1, 1) := by decide +kernel
theorem dX5_chargeFurnace_81 : decode cX5_chargeFurnace 81 = .ok (.bipush 20, 2) := by decide +kernel
theorem dX5_chargeFurnace_83 : decode cX5_chargeFurnace 83 = .ok (.putfield 204, 3) := by decide +kernel
theorem dX5_chargeFurnace_86 : decode cX5_chargeFurnace 86 = .ok (.aload_n 1, 1) := by decide +kernel
theorem dX5_chargeFurnace_87 : decode cX5_chargeFurnace 87 = .ok (.iconst 0, 1) := by decide +kernel
theorem dX5_chargeFurnace_88 : decode cX5_chargeFurnace 88 = .ok (.putfield 238, 3) := by decide +kernel
theorem dX5_chargeFurnace_91 : decode cX5_chargeFurnace 91 = .ok (.aload_n 1, 1) := by decide +kernel
theorem dX5_chargeFurnace_92 : decode cX5_chargeFurnace 92 = .ok (.aload_n 0, 1) := by decide +kernel
theorem dX5_chargeFurnace_93 : decode cX5_chargeFurnace 93 = .ok (.aload_n 3, 1) := by decide +kernel
theorem dX5_chargeFurnace_94 : decode cX5_chargeFurnace 94 = .ok (.getfield 125, 3) := by decide +kernel
theorem dX5_chargeFurnace_97 : decode cX5_chargeFurnace 97 = .ok (.invokevirtual 76, 3) := by decide +kernel
theorem dX5_chargeFurnace_100 : decode cX5_chargeFurnace 100 = .ok (.getfield 239, 3) := by decide +kernel
theorem dX5_chargeFurnace_103 : decode cX5_chargeFurnace 103 = .ok (.putfield 240, 3) := by decide +kernel
theorem dX5_chargeFurnace_106 : decode cX5_chargeFurnace 106 = .ok (.return_, 1) := by decide +kernel
theorem dX5_chargeFurnace_107 : decode cX5_chargeFurnace 107 = .ok (.iinc 2 1, 3) := by decide +kernel
theorem dX5_chargeFurnace_110 : decode cX5_chargeFurnace 110 = .ok (.goto (-98), 3) := by decide +kernel
theorem dX5_chargeFurnace_113 : decode cX5_chargeFurnace 113 = .ok (.return_, 1) := by decide +kernel
theorem dX5_loadPress_0 : decode cX5_loadPress 0 = .ok (.iconst 0, 1) := by decide +kernel
theorem dX5_loadPress_1 : decode cX5_loadPress 1 = .ok (.istore_n 1, 1) := by decide +kernel
theorem dX5_loadPress_2 : decode cX5_loadPress 2 = .ok (.iload_n 1, 1) := by decide +kernel
theorem dX5_loadPress_3 : decode cX5_loadPress 3 = .ok (.aload_n 0, 1) := by decide +kernel
theorem dX5_loadPress_4 : decode cX5_loadPress 4 = .ok (.getfield 83, 3) := by decide +kernel
theorem dX5_loadPress_7 : decode cX5_loadPress 7 = .ok (.if_icmp .ge 60, 3) := by decide +kernel
theorem dX5_loadPress_10 : decode cX5_loadPress 10 = .ok (.aload_n 0, 1) := by decide +kernel
theorem dX5_loadPress_11 : decode cX5_loadPress 11 = .ok (.iload_n 1, 1) := by decide +kernel
theorem dX5_loadPress_12 : decode cX5_loadPress 12 = .ok (.invokevirtual 86, 3) := by decide +kernel
theorem dX5_loadPress_15 : decode cX5_loadPress 15 = .ok (.astore_n 2, 1) := by decide +kernel
theorem dX5_loadPress_16 : decode cX5_loadPress 16 = .ok (.aload_n 2, 1) := by decide +kernel
theorem dX5_loadPress_17 : decode cX5_loadPress 17 = .ok (.getfield 144, 3) := by decide +kernel
theorem dX5_loadPress_20 : decode cX5_loadPress 20 = .ok (.ifCond .le 41, 3) := by decide +kernel
theorem dX5_loadPress_23 : decode cX5_loadPress 23 = .ok (.aload_n 0, 1) := by decide +kernel
theorem dX5_loadPress_24 : decode cX5_loadPress 24 = .ok (.aload_n 2, 1) := by decide +kernel
theorem dX5_loadPress_25 : decode cX5_loadPress 25 = .ok (.getfield 125, 3) := by decide +kernel
theorem dX5_loadPress_28 : decode cX5_loadPress 28 = .ok (.invokevirtual 76, 3) := by decide +kernel
theorem dX5_loadPress_31 : decode cX5_loadPress 31 = .ok (.invokevirtual 241, 3) := by decide +kernel
theorem dX5_loadPress_34 : decode cX5_loadPress 34 = .ok (.ifCond .eq 27, 3) := by decide +kernel
theorem dX5_loadPress_37 : decode cX5_loadPress 37 = .ok (.aload_n 0, 1) := by decide +kernel
theorem dX5_loadPress_38 : decode cX5_loadPress 38 = .ok (.aload_n 2, 1) := by decide +kernel
theorem dX5_loadPress_39 : decode cX5_loadPress 39 = .ok (.invokevirtual 200, 3) := by decide +kernel
theorem dX5_loadPress_42 : decode cX5_loadPress 42 = .ok (.astore_n 3, 1) := by decide +kernel
theorem dX5_loadPress_43 : decode cX5_loadPress 43 = .ok (.aload_n 3, 1) := by decide +kernel
theorem dX5_loadPress_44 : decode cX5_loadPress 44 = .ok (.ifnull 17, 3) := by decide +kernel
theorem dX5_loadPress_47 : decode cX5_loadPress 47 = .ok (.aload_n 0, 1) := by decide +kernel
theorem dX5_loadPress_48 : decode cX5_loadPress 48 = .ok (.getfield 52, 3) := by decide +kernel
theorem dX5_loadPress_51 : decode cX5_loadPress 51 = .ok (.aload_n 3, 1) := by decide +kernel
theorem dX5_loadPress_52 : decode cX5_loadPress 52 = .ok (.invokevirtual 97, 3) := by decide +kernel
theorem dX5_loadPress_55 : decode cX5_loadPress 55 = .ok (.aload_n 3, 1) := by decide +kernel
theorem dX5_loadPress_56 : decode cX5_loadPress 56 = .ok (.iconst (-1), 1) := by decide +kernel
theorem dX5_loadPress_57 : decode cX5_loadPress 57 = .ok (.putfield 159, 3) := by decide +kernel
theorem dX5_loadPress_60 : decode cX5_loadPress 60 = .ok (.return_, 1) := by decide +kernel
theorem dX5_loadPress_61 : decode cX5_loadPress 61 = .ok (.iinc 1 1, 3) := by decide +kernel
theorem dX5_loadPress_64 : decode cX5_loadPress 64 = .ok (.goto (-62), 3) := by decide +kernel
theorem dX5_loadPress_67 : decode cX5_loadPress 67 = .ok (.return_, 1) := by decide +kernel
theorem dX5_workPress_0 : decode cX5_workPress 0 = .ok (.aload_n 0, 1) := by decide +kernel
theorem dX5_workPress_1 : decode cX5_workPress 1 = .ok (.iload_n 1, 1) := by decide +kernel
theorem dX5_workPress_2 : decode cX5_workPress 2 = .ok (.invokevirtual 86, 3) := by decide +kernel
theorem dX5_workPress_5 : decode cX5_workPress 5 = .ok (.astore_n 2, 1) := by decide +kernel
theorem dX5_workPress_6 : decode cX5_workPress 6 = .ok (.aload_n 0, 1) := by decide +kernel
theorem dX5_workPress_7 : decode cX5_workPress 7 = .ok (.aload_n 2, 1) := by decide +kernel
theorem dX5_workPress_8 : decode cX5_workPress 8 = .ok (.getfield 128, 3) := by decide +kernel
theorem dX5_workPress_11 : decode cX5_workPress 11 = .ok (.invokevirtual 68, 3) := by decide +kernel
theorem dX5_workPress_14 : decode cX5_workPress 14 = .ok (.astore_n 3, 1) := by decide +kernel
theorem dX5_workPress_15 : decode cX5_workPress 15 = .ok (.aload_n 0, 1) := by decide +kernel
theorem dX5_workPress_16 : decode cX5_workPress 16 = .ok (.aload_n 2, 1) := by decide +kernel
theorem dX5_workPress_17 : decode cX5_workPress 17 = .ok (.getfield 125, 3) := by decide +kernel
theorem dX5_workPress_20 : decode cX5_workPress 20 = .ok (.invokevirtual 76, 3) := by decide +kernel
theorem dX5_workPress_23 : decode cX5_workPress 23 = .ok (.astore 4, 2) := by decide +kernel
theorem dX5_workPress_25 : decode cX5_workPress 25 = .ok (.aload 4, 2) := by decide +kernel
theorem dX5_workPress_27 : decode cX5_workPress 27 = .ok (.invokevirtual 241, 3) := by decide +kernel
theorem dX5_workPress_30 : decode cX5_workPress 30 = .ok (.ifCond .eq 17, 3) := by decide +kernel
theorem dX5_workPress_33 : decode cX5_workPress 33 = .ok (.aload_n 0, 1) := by decide +kernel
theorem dX5_workPress_34 : decode cX5_workPress 34 = .ok (.getfield 52, 3) := by decide +kernel
theorem dX5_workPress_37 : decode cX5_workPress 37 = .ok (.getfield 204, 3) := by decide +kernel
theorem dX5_workPress_40 : decode cX5_workPress 40 = .ok (.aload_n 3, 1) := by decide +kernel
theorem dX5_workPress_41 : decode cX5_workPress 41 = .ok (.getfield 173, 3) := by decide +kernel
theorem dX5_workPress_44 : decode cX5_workPress 44 = .ok (.if_icmp .ge 10, 3) := by decide +kernel
theorem dX5_workPress_47 : decode cX5_workPress 47 = .ok (.aload_n 0, 1) := by decide +kernel
theorem dX5_workPress_48 : decode cX5_workPress 48 = .ok (.aload_n 2, 1) := by decide +kernel
theorem dX5_workPress_49 : decode cX5_workPress 49 = .ok (.aload_n 3, 1) := by decide +kernel
theorem dX5_workPress_50 : decode cX5_workPress 50 = .ok (.invokevirtual 244, 3) := by decide +kernel
theorem dX5_workPress_53 : decode cX5_workPress 53 = .ok (.return_, 1) := by decide +kernel
theorem dX5_workPress_54 : decode cX5_workPress 54 = .ok (.aload 4, 2) := by decide +kernel
theorem dX5_workPress_56 : decode cX5_workPress 56 = .ok (.dup, 1) := by decide +kernel
theorem dX5_workPress_57 : decode cX5_workPress 57 = .ok (.getfield 248, 3) := by decide +kernel
theorem dX5_workPress_60 : decode cX5_workPress 60 = .ok (.iconst 1, 1) := by decide +kernel
theorem dX5_workPress_61 : decode cX5_workPress 61 = .ok (.iconst 0, 1) := by decide +kernel
theorem dX5_workPress_62 : decode cX5_workPress 62 = .ok (.aload_n 3, 1) := by decide +kernel
theorem dX5_workPress_63 : decode cX5_workPress 63 = .ok (.getfield 176, 3) := by decide +kernel
theorem dX5_workPress_66 : decode cX5_workPress 66 = .ok (.aload_n 0, 1) := by decide +kernel
theorem dX5_workPress_67 : decode cX5_workPress 67 = .ok (.getfield 52, 3) := by decide +kernel
theorem dX5_workPress_70 : decode cX5_workPress 70 = .ok (.getfield 204, 3) := by decide +kernel
theorem dX5_workPress_73 : decode cX5_workPress 73 = .ok (.isub, 1) := by decide +kernel
theorem dX5_workPress_74 : decode cX5_workPress 74 = .ok (.invokestatic 251, 3) := by decide +kernel
theorem dX5_workPress_77 : decode cX5_workPress 77 = .ok (.bipush 100, 2) := by decide +kernel
theorem dX5_workPress_79 : decode cX5_workPress 79 = .ok (.idiv, 1) := by decide +kernel
theorem dX5_workPress_80 : decode cX5_workPress 80 = .ok (.iadd, 1) := by decide +kernel
theorem dX5_workPress_81 : decode cX5_workPress 81 = .ok (.iadd, 1) := by decide +kernel
theorem dX5_workPress_82 : decode cX5_workPress 82 = .ok (.putfield 248, 3) := by decide +kernel
theorem dX5_workPress_85 : decode cX5_workPress 85 = .ok (.aload_n 0, 1) := by decide +kernel
theorem dX5_workPress_86 : decode cX5_workPress 86 = .ok (.getfield 52, 3) := by decide +kernel
theorem dX5_workPress_89 : decode cX5_workPress 89 = .ok (.bipush 20, 2) := by decide +kernel
theorem dX5_workPress_91 : decode cX5_workPress 91 = .ok (.aload_n 0, 1) := by decide +kernel
theorem dX5_workPress_92 : decode cX5_workPress 92 = .ok (.getfield 52, 3) := by decide +kernel
theorem dX5_workPress_95 : decode cX5_workPress 95 = .ok (.getfield 204, 3) := by decide +kernel
theorem dX5_workPress_98 : decode cX5_workPress 98 = .ok (.aload_n 0, 1) := by decide +kernel
theorem dX5_workPress_99 : decode cX5_workPress 99 = .ok (.getfield 15, 3) := by decide +kernel
theorem dX5_workPress_102 : decode cX5_workPress 102 = .ok (.isub, 1) := by decide +kernel
theorem dX5_workPress_103 : decode cX5_workPress 103 = .ok (.invokestatic 251, 3) := by decide +kernel
theorem dX5_workPress_106 : decode cX5_workPress 106 = .ok (.putfield 204, 3) := by decide +kernel
theorem dX5_workPress_109 : decode cX5_workPress 109 = .ok (.aload_n 0, 1) := by decide +kernel
theorem dX5_workPress_110 : decode cX5_workPress 110 = .ok (.getfield 52, 3) := by decide +kernel
theorem dX5_workPress_113 : decode cX5_workPress 113 = .ok (.dup, 1) := by decide +kernel
theorem dX5_workPress_114 : decode cX5_workPress 114 = .ok (.getfield 240, 3) := by decide +kernel
theorem dX5_workPress_117 : decode cX5_workPress 117 = .ok (.iconst 1, 1) := by decide +kernel
theorem dX5_workPress_118 : decode cX5_workPress 118 = .ok (.isub, 1) := by decide +kernel
theorem dX5_workPress_119 : decode cX5_workPress 119 = .ok (.putfield 240, 3) := by decide +kernel
theorem dX5_workPress_122 : decode cX5_workPress 122 = .ok (.aload_n 0, 1) := by decide +kernel
theorem dX5_workPress_123 : decode cX5_workPress 123 = .ok (.dup, 1) := by decide +kernel
theorem dX5_workPress_124 : decode cX5_workPress 124 = .ok (.getfield 110, 3) := by decide +kernel
theorem dX5_workPress_127 : decode cX5_workPress 127 = .ok (.iconst 1, 1) := by decide +kernel
theorem dX5_workPress_128 : decode cX5_workPress 128 = .ok (.iadd, 1) := by decide +kernel
theorem dX5_workPress_129 : decode cX5_workPress 129 = .ok (.putfield 110, 3) := by decide +kernel
theorem dX5_workPress_132 : decode cX5_workPress 132 = .ok (.aload_n 0, 1) := by decide +kernel
theorem dX5_workPress_133 : decode cX5_workPress 133 = .ok (.getfield 52, 3) := by decide +kernel
theorem dX5_workPress_136 : decode cX5_workPress 136 = .ok (.getfield 240, 3) := by decide +kernel
theorem dX5_workPress_139 : decode cX5_workPress 139 = .ok (.ifCond .le 4, 3) := by decide +kernel
theorem dX5_workPress_142 : decode cX5_workPress 142 = .ok (.return_, 1) := by decide +kernel
theorem dX5_workPress_143 : decode cX5_workPress 143 = .ok (.aload_n 0, 1) := by decide +kernel
theorem dX5_workPress_144 : decode cX5_workPress 144 = .ok (.getfield 52, 3) := by decide +kernel
theorem dX5_workPress_147 : decode cX5_workPress 147 = .ok (.iconst (-1), 1) := by decide +kernel
theorem dX5_workPress_148 : decode cX5_workPress 148 = .ok (.putfield 159, 3) := by decide +kernel
theorem dX5_workPress_151 : decode cX5_workPress 151 = .ok (.aload_n 2, 1) := by decide +kernel
theorem dX5_workPress_152 : decode cX5_workPress 152 = .ok (.dup, 1) := by decide +kernel
theorem dX5_workPress_153 : decode cX5_workPress 153 = .ok (.getfield 144, 3) := by decide +kernel
theorem dX5_workPress_156 : decode cX5_workPress 156 = .ok (.iconst 1, 1) := by decide +kernel
theorem dX5_workPress_157 : decode cX5_workPress 157 = .ok (.isub, 1) := by decide +kernel
theorem dX5_workPress_158 : decode cX5_workPress 158 = .ok (.putfield 144, 3) := by decide +kernel
theorem dX5_workPress_161 : decode cX5_workPress 161 = .ok (.aload_n 2, 1) := by decide +kernel
theorem dX5_workPress_162 : decode cX5_workPress 162 = .ok (.dup, 1) := by decide +kernel
theorem dX5_workPress_163 : decode cX5_workPress 163 = .ok (.getfield 134, 3) := by decide +kernel
theorem dX5_workPress_166 : decode cX5_workPress 166 = .ok (.iconst 1, 1) := by decide +kernel
theorem dX5_workPress_167 : decode cX5_workPress 167 = .ok (.iadd, 1) := by decide +kernel
theorem dX5_workPress_168 : decode cX5_workPress 168 = .ok (.putfield 134, 3) := by decide +kernel
theorem dX5_workPress_171 : decode cX5_workPress 171 = .ok (.aload_n 3, 1) := by decide +kernel
theorem dX5_workPress_172 : decode cX5_workPress 172 = .ok (.dup, 1) := by decide +kernel
theorem dX5_workPress_173 : decode cX5_workPress 173 = .ok (.getfield 169, 3) := by decide +kernel
theorem dX5_workPress_176 : decode cX5_workPress 176 = .ok (.iconst 1, 1) := by decide +kernel
theorem dX5_workPress_177 : decode cX5_workPress 177 = .ok (.iadd, 1) := by decide +kernel
theorem dX5_workPress_178 : decode cX5_workPress 178 = .ok (.putfield 169, 3) := by decide +kernel
theorem dX5_workPress_181 : decode cX5_workPress 181 = .ok (.aload 4, 2) := by decide +kernel
theorem dX5_workPress_183 : decode cX5_workPress 183 = .ok (.dup, 1) := by decide +kernel
theorem dX5_workPress_184 : decode cX5_workPress 184 = .ok (.getfield 254, 3) := by decide +kernel
theorem dX5_workPress_187 : decode cX5_workPress 187 = .ok (.iconst 1, 1) := by decide +kernel
theorem dX5_workPress_188 : decode cX5_workPress 188 = .ok (.iadd, 1) := by decide +kernel
theorem dX5_workPress_189 : decode cX5_workPress 189 = .ok (.putfield 254, 3) := by decide +kernel
theorem dX5_workPress_192 : decode cX5_workPress 192 = .ok (.aload_n 2, 1) := by decide +kernel
theorem dX5_workPress_193 : decode cX5_workPress 193 = .ok (.getfield 134, 3) := by decide +kernel
theorem dX5_workPress_196 : decode cX5_workPress 196 = .ok (.aload_n 2, 1) := by decide +kernel
theorem dX5_workPress_197 : decode cX5_workPress 197 = .ok (.getfield 131, 3) := by decide +kernel
theorem dX5_workPress_200 : decode cX5_workPress 200 = .ok (.if_icmp .lt 13, 3) := by decide +kernel
theorem dX5_workPress_203 : decode cX5_workPress 203 = .ok (.aload_n 0, 1) := by decide +kernel
theorem dX5_workPress_204 : decode cX5_workPress 204 = .ok (.aload_n 2, 1) := by decide +kernel
theorem dX5_workPress_205 : decode cX5_workPress 205 = .ok (.invokevirtual 255, 3) := by decide +kernel
theorem dX5_workPress_208 : decode cX5_workPress 208 = .ok (.aload_n 0, 1) := by decide +kernel
theorem dX5_workPress_209 : decode cX5_workPress 209 = .ok (.iload_n 1, 1) := by decide +kernel
theorem dX5_workPress_210 : decode cX5_workPress 210 = .ok (.invokevirtual 165, 3) := by decide +kernel
theorem dX5_workPress_213 : decode cX5_workPress 213 = .ok (.return_, 1) := by decide +kernel
theorem dX5_sendBack_0 : decode cX5_sendBack 0 = .ok (.aload_n 0, 1) := by decide +kernel
theorem dX5_sendBack_1 : decode cX5_sendBack 1 = .ok (.getfield 52, 3) := by decide +kernel
theorem dX5_sendBack_4 : decode cX5_sendBack 4 = .ok (.dup, 1) := by decide +kernel
theorem dX5_sendBack_5 : decode cX5_sendBack 5 = .ok (.getfield 238, 3) := by decide +kernel
theorem dX5_sendBack_8 : decode cX5_sendBack 8 = .ok (.iconst 1, 1) := by decide +kernel
theorem dX5_sendBack_9 : decode cX5_sendBack 9 = .ok (.iadd, 1) := by decide +kernel
theorem dX5_sendBack_10 : decode cX5_sendBack 10 = .ok (.putfield 238, 3) := by decide +kernel
theorem dX5_sendBack_13 : decode cX5_sendBack 13 = .ok (.aload_n 0, 1) := by decide +kernel
theorem dX5_sendBack_14 : decode cX5_sendBack 14 = .ok (.invokevirtual 234, 3) := by decide +kernel
theorem dX5_sendBack_17 : decode cX5_sendBack 17 = .ok (.astore_n 3, 1) := by decide +kernel
theorem dX5_sendBack_18 : decode cX5_sendBack 18 = .ok (.aload_n 3, 1) := by decide +kernel
theorem dX5_sendBack_19 : decode cX5_sendBack 19 = .ok (.ifnull 17, 3) := by decide +kernel
theorem dX5_sendBack_22 : decode cX5_sendBack 22 = .ok (.aload_n 0, 1) := by decide +kernel
theorem dX5_sendBack_23 : decode cX5_sendBack 23 = .ok (.getfield 52, 3) := by decide +kernel
theorem dX5_sendBack_26 : decode cX5_sendBack 26 = .ok (.getfield 238, 3) := by decide +kernel
theorem dX5_sendBack_29 : decode cX5_sendBack 29 = .ok (.aload_n 0, 1) := by decide +kernel
theorem dX5_sendBack_30 : decode cX5_sendBack 30 = .ok (.getfield 18, 3) := by decide +kernel
theorem dX5_sendBack_33 : decode cX5_sendBack 33 = .ok (.if_icmp .le 26, 3) := by decide +kernel
theorem dX5_sendBack_36 : decode cX5_sendBack 36 = .ok (.aload_n 1, 1) := by decide +kernel
theorem dX5_sendBack_37 : decode cX5_sendBack 37 = .ok (.dup, 1) := by decide +kernel
theorem dX5_sendBack_38 : decode cX5_sendBack 38 = .ok (.getfield 144, 3) := by decide +kernel
theorem dX5_sendBack_41 : decode cX5_sendBack 41 = .ok (.iconst 1, 1) := by decide +kernel
theorem dX5_sendBack_42 : decode cX5_sendBack 42 = .ok (.isub, 1) := by decide +kernel
theorem dX5_sendBack_43 : decode cX5_sendBack 43 = .ok (.putfield 144, 3) := by decide +kernel
theorem dX5_sendBack_46 : decode cX5_sendBack 46 = .ok (.aload_n 2, 1) := by decide +kernel
theorem dX5_sendBack_47 : decode cX5_sendBack 47 = .ok (.dup, 1) := by decide +kernel
theorem dX5_sendBack_48 : decode cX5_sendBack 48 = .ok (.getfield 162, 3) := by decide +kernel
theorem dX5_sendBack_51 : decode cX5_sendBack 51 = .ok (.iconst 1, 1) := by decide +kernel
theorem dX5_sendBack_52 : decode cX5_sendBack 52 = .ok (.iadd, 1) := by decide +kernel
theorem dX5_sendBack_53 : decode cX5_sendBack 53 = .ok (.putfield 162, 3) := by decide +kernel
theorem dX5_sendBack_56 : decode cX5_sendBack 56 = .ok (.goto 11, 3) := by decide +kernel
theorem dX5_sendBack_59 : decode cX5_sendBack 59 = .ok (.aload_n 3, 1) := by decide +kernel
theorem dX5_sendBack_60 : decode cX5_sendBack 60 = .ok (.aload_n 0, 1) := by decide +kernel
theorem dX5_sendBack_61 : decode cX5_sendBack 61 = .ok (.getfield 52, 3) := by decide +kernel
theorem dX5_sendBack_64 : decode cX5_sendBack 64 = .ok (.invokevirtual 97, 3) := by decide +kernel
theorem dX5_sendBack_67 : decode cX5_sendBack 67 = .ok (.aload_n 0, 1) := by decide +kernel
theorem dX5_sendBack_68 : decode cX5_sendBack 68 = .ok (.getfield 52, 3) := by decide +kernel
theorem dX5_sendBack_71 : decode cX5_sendBack 71 = .ok (.iconst (-1), 1) := by decide +kernel
theorem dX5_sendBack_72 : decode cX5_sendBack 72 = .ok (.putfield 159, 3) := by decide +kernel
theorem dX5_sendBack_75 : decode cX5_sendBack 75 = .ok (.return_, 1) := by decide +kernel
theorem dX5_countGone_0 : decode cX5_countGone 0 = .ok (.aload_n 0, 1) := by decide +kernel
theorem dX5_countGone_1 : decode cX5_countGone 1 = .ok (.dup, 1) := by decide +kernel
theorem dX5_countGone_2 : decode cX5_countGone 2 = .ok (.getfield 113, 3) := by decide +kernel
theorem dX5_countGone_5 : decode cX5_countGone 5 = .ok (.iconst 1, 1) := by decide +kernel
theorem dX5_countGone_6 : decode cX5_countGone 6 = .ok (.iadd, 1) := by decide +kernel
theorem dX5_countGone_7 : decode cX5_countGone 7 = .ok (.putfield 113, 3) := by decide +kernel
theorem dX5_countGone_10 : decode cX5_countGone 10 = .ok (.aload_n 0, 1) := by decide +kernel
theorem dX5_countGone_11 : decode cX5_countGone 11 = .ok (.getfield 107, 3) := by decide +kernel
theorem dX5_countGone_14 : decode cX5_countGone 14 = .ok (.aload_n 1, 1) := by decide +kernel
theorem dX5_countGone_15 : decode cX5_countGone 15 = .ok (.getfield 137, 3) := by decide +kernel
theorem dX5_countGone_18 : decode cX5_countGone 18 = .ok (.isub, 1) := by decide +kernel
theorem dX5_countGone_19 : decode cX5_countGone 19 = .ok (.istore_n 2, 1) := by decide +kernel
theorem dX5_countGone_20 : decode cX5_countGone 20 = .ok (.iload_n 2, 1) := by decide +kernel
theorem dX5_countGone_21 : decode cX5_countGone 21 = .ok (.ifCond .le 23, 3) := by decide +kernel
theorem dX5_countGone_24 : decode cX5_countGone 24 = .ok (.aload_n 0, 1) := by decide +kernel
theorem dX5_countGone_25 : decode cX5_countGone 25 = .ok (.dup, 1) := by decide +kernel
theorem dX5_countGone_26 : decode cX5_countGone 26 = .ok (.getfield 116, 3) := by decide +kernel
theorem dX5_countGone_29 : decode cX5_countGone 29 = .ok (.iconst 1, 1) := by decide +kernel
theorem dX5_countGone_30 : decode cX5_countGone 30 = .ok (.iadd, 1) := by decide +kernel
theorem dX5_countGone_31 : decode cX5_countGone 31 = .ok (.putfield 116, 3) := by decide +kernel
theorem dX5_countGone_34 : decode cX5_countGone 34 = .ok (.aload_n 0, 1) := by decide +kernel
theorem dX5_countGone_35 : decode cX5_countGone 35 = .ok (.dup, 1) := by decide +kernel
theorem dX5_countGone_36 : decode cX5_countGone 36 = .ok (.getfield 119, 3) := by decide +kernel
theorem dX5_countGone_39 : decode cX5_countGone 39 = .ok (.iload_n 2, 1) := by decide +kernel
theorem dX5_countGone_40 : decode cX5_countGone 40 = .ok (.iadd, 1) := by decide +kernel
theorem dX5_countGone_41 : decode cX5_countGone 41 = .ok (.putfield 119, 3) := by decide +kernel
theorem dX5_countGone_44 : decode cX5_countGone 44 = .ok (.return_, 1) := by decide +kernel
theorem dX5_tendDies_0 : decode cX5_tendDies 0 = .ok (.aload_n 0, 1) := by decide +kernel
theorem dX5_tendDies_1 : decode cX5_tendDies 1 = .ok (.invokevirtual 258, 3) := by decide +kernel
theorem dX5_tendDies_4 : decode cX5_tendDies 4 = .ok (.istore_n 1, 1) := by decide +kernel
theorem dX5_tendDies_5 : decode cX5_tendDies 5 = .ok (.iload_n 1, 1) := by decide +kernel
theorem dX5_tendDies_6 : decode cX5_tendDies 6 = .ok (.iconst (-1), 1) := by decide +kernel
theorem dX5_tendDies_7 : decode cX5_tendDies 7 = .ok (.if_icmp .eq 21, 3) := by decide +kernel
theorem dX5_tendDies_10 : decode cX5_tendDies 10 = .ok (.aload_n 0, 1) := by decide +kernel
theorem dX5_tendDies_11 : decode cX5_tendDies 11 = .ok (.iload_n 1, 1) := by decide +kernel
theorem dX5_tendDies_12 : decode cX5_tendDies 12 = .ok (.invokevirtual 76, 3) := by decide +kernel
theorem dX5_tendDies_15 : decode cX5_tendDies 15 = .ok (.astore_n 2, 1) := by decide +kernel
theorem dX5_tendDies_16 : decode cX5_tendDies 16 = .ok (.aload_n 2, 1) := by decide +kernel
theorem dX5_tendDies_17 : decode cX5_tendDies 17 = .ok (.invokevirtual 261, 3) := by decide +kernel
theorem dX5_tendDies_20 : decode cX5_tendDies 20 = .ok (.aload_n 2, 1) := by decide +kernel
theorem dX5_tendDies_21 : decode cX5_tendDies 21 = .ok (.invokevirtual 193, 3) := by decide +kernel
theorem dX5_tendDies_24 : decode cX5_tendDies 24 = .ok (.ifCond .eq 4, 3) := by decide +kernel
theorem dX5_tendDies_27 : decode cX5_tendDies 27 = .ok (.return_, 1) := by decide +kernel
theorem dX5_tendDies_28 : decode cX5_tendDies 28 = .ok (.iconst 0, 1) := by decide +kernel
theorem dX5_tendDies_29 : decode cX5_tendDies 29 = .ok (.istore_n 2, 1) := by decide +kernel
theorem dX5_tendDies_30 : decode cX5_tendDies 30 = .ok (.iload_n 2, 1) := by decide +kernel
theorem dX5_tendDies_31 : decode cX5_tendDies 31 = .ok (.iconst 5, 1) := by decide +kernel
theorem dX5_tendDies_32 : decode cX5_tendDies 32 = .ok (.if_icmp .ge 31, 3) := by decide +kernel
theorem dX5_tendDies_35 : decode cX5_tendDies 35 = .ok (.aload_n 0, 1) := by decide +kernel
theorem dX5_tendDies_36 : decode cX5_tendDies 36 = .ok (.iload_n 2, 1) := by decide +kernel
theorem dX5_tendDies_37 : decode cX5_tendDies 37 = .ok (.invokevirtual 76, 3) := by decide +kernel
theorem dX5_tendDies_40 : decode cX5_tendDies 40 = .ok (.astore_n 3, 1) := by decide +kernel
theorem dX5_tendDies_41 : decode cX5_tendDies 41 = .ok (.aload_n 3, 1) := by decide +kernel
theorem dX5_tendDies_42 : decode cX5_tendDies 42 = .ok (.invokevirtual 197, 3) := by decide +kernel
theorem dX5_tendDies_45 : decode cX5_tendDies 45 = .ok (.ifCond .eq 12, 3) := by decide +kernel
theorem dX5_tendDies_48 : decode cX5_tendDies 48 = .ok (.aload_n 3, 1) := by decide +kernel
theorem dX5_tendDies_49 : decode cX5_tendDies 49 = .ok (.aload_n 0, 1) := by decide +kernel
theorem dX5_tendDies_50 : decode cX5_tendDies 50 = .ok (.getfield 21, 3) := by decide +kernel
theorem dX5_tendDies_53 : decode cX5_tendDies 53 = .ok (.putfield 264, 3) := by decide +kernel
theorem dX5_tendDies_56 : decode cX5_tendDies 56 = .ok (.return_, 1) := by decide +kernel
theorem dX5_tendDies_57 : decode cX5_tendDies 57 = .ok (.iinc 2 1, 3) := by decide +kernel
theorem dX5_tendDies_60 : decode cX5_tendDies 60 = .ok (.goto (-30), 3) := by decide +kernel
theorem dX5_tendDies_63 : decode cX5_tendDies 63 = .ok (.return_, 1) := by decide +kernel
theorem dJ9_max_7cf53_0 : decode cJ9_max_7cf53 0 = .ok (.iload_n 0, 1) := by decide +kernel
theorem dJ9_max_7cf53_1 : decode cJ9_max_7cf53 1 = .ok (.iload_n 1, 1) := by decide +kernel
theorem dJ9_max_7cf53_2 : decode cJ9_max_7cf53 2 = .ok (.if_icmp .lt 7, 3) := by decide +kernel
theorem dJ9_max_7cf53_5 : decode cJ9_max_7cf53 5 = .ok (.iload_n 0, 1) := by decide +kernel
theorem dJ9_max_7cf53_6 : decode cJ9_max_7cf53 6 = .ok (.goto 4, 3) := by decide +kernel
theorem dJ9_max_7cf53_9 : decode cJ9_max_7cf53 9 = .ok (.iload_n 1, 1) := by decide +kernel
theorem dJ9_max_7cf53_10 : decode cJ9_max_7cf53 10 = .ok (.ireturn, 1) := by decide +kernel
theorem dJ9_min_7cf53_0 : decode cJ9_min_7cf53 0 = .ok (.iload_n 0, 1) := by decide +kernel
theorem dJ9_min_7cf53_1 : decode cJ9_min_7cf53 1 = .ok (.iload_n 1, 1) := by decide +kernel
theorem dJ9_min_7cf53_2 : decode cJ9_min_7cf53 2 = .ok (.if_icmp .gt 7, 3) := by decide +kernel
theorem dJ9_min_7cf53_5 : decode cJ9_min_7cf53 5 = .ok (.iload_n 0, 1) := by decide +kernel
theorem dJ9_min_7cf53_6 : decode cJ9_min_7cf53 6 = .ok (.goto 4, 3) := by decide +kernel
theorem dJ9_min_7cf53_9 : decode cJ9_min_7cf53 9 = .ok (.iload_n 1, 1) := by decide +kernel
theorem dJ9_min_7cf53_10 : decode cJ9_min_7cf53 10 = .ok (.ireturn, 1) := by decide +kernel
end
section
theorem dX6_init_0 : decode cX6_init 0 = .ok (.aload_n 0, 1) := by decide +kernel
theorem dX6_init_1 : decode cX6_init 1 = .ok (.invokespecial 1, 3) := by decide +kernel
theorem dX6_init_4 : decode cX6_init 4 = .ok (.aload_n 0, 1) := by decide +kernel
theorem dX6_init_5 : decode cX6_init 5 = .ok (.new 7, 3) := by decide +kernel
theorem dX6_init_8 : decode cX6_init 8 = .ok (.dup, 1) := by decide +kernel
theorem dX6_init_9 : decode cX6_init 9 = .ok (.invokespecial 9, 3) := by decide +kernel
theorem dX6_init_12 : decode cX6_init 12 = .ok (.putfield 10, 3) := by decide +kernel
theorem dX6_init_15 : decode cX6_init 15 = .ok (.aload_n 0, 1) := by decide +kernel
theorem dX6_init_16 : decode cX6_init 16 = .ok (.new 7, 3) := by decide +kernel
theorem dX6_init_19 : decode cX6_init 19 = .ok (.dup, 1) := by decide +kernel
theorem dX6_init_20 : decode cX6_init 20 = .ok (.invokespecial 9, 3) := by decide +kernel
theorem dX6_init_23 : decode cX6_init 23 = .ok (.putfield 16, 3) := by decide +kernel
theorem dX6_init_26 : decode cX6_init 26 = .ok (.aload_n 0, 1) := by decide +kernel
theorem dX6_init_27 : decode cX6_init 27 = .ok (.bipush 6, 2) := by decide +kernel
theorem dX6_init_29 : decode cX6_init 29 = .ok (.anewarray 7, 3) := by decide +kernel
theorem dX6_init_32 : decode cX6_init 32 = .ok (.putfield 19, 3) := by decide +kernel
theorem dX6_init_35 : decode cX6_init 35 = .ok (.iconst 0, 1) := by decide +kernel
theorem dX6_init_36 : decode cX6_init 36 = .ok (.istore_n 1, 1) := by decide +kernel
theorem dX6_init_37 : decode cX6_init 37 = .ok (.iload_n 1, 1) := by decide +kernel
theorem dX6_init_38 : decode cX6_init 38 = .ok (.aload_n 0, 1) := by decide +kernel
theorem dX6_init_39 : decode cX6_init 39 = .ok (.getfield 19, 3) := by decide +kernel
theorem dX6_init_42 : decode cX6_init 42 = .ok (.arraylength, 1) := by decide +kernel
theorem dX6_init_43 : decode cX6_init 43 = .ok (.if_icmp .ge 22, 3) := by decide +kernel
theorem dX6_init_46 : decode cX6_init 46 = .ok (.aload_n 0, 1) := by decide +kernel
theorem dX6_init_47 : decode cX6_init 47 = .ok (.getfield 19, 3) := by decide +kernel
theorem dX6_init_50 : decode cX6_init 50 = .ok (.iload_n 1, 1) := by decide +kernel
theorem dX6_init_51 : decode cX6_init 51 = .ok (.new 7, 3) := by decide +kernel
theorem dX6_init_54 : decode cX6_init 54 = .ok (.dup, 1) := by decide +kernel
theorem dX6_init_55 : decode cX6_init 55 = .ok (.invokespecial 9, 3) := by decide +kernel
theorem dX6_init_58 : decode cX6_init 58 = .ok (.aastore, 1) := by decide +kernel
theorem dX6_init_59 : decode cX6_init 59 = .ok (.iinc 1 1, 3) := by decide +kernel
theorem dX6_init_62 : decode cX6_init 62 = .ok (.goto (-25), 3) := by decide +kernel
theorem dX6_init_65 : decode cX6_init 65 = .ok (.aload_n 0, 1) := by decide +kernel
theorem dX6_init_66 : decode cX6_init 66 = .ok (.new 23, 3) := by decide +kernel
theorem dX6_init_69 : decode cX6_init 69 = .ok (.dup, 1) := by decide +kernel
theorem dX6_init_70 : decode cX6_init 70 = .ok (.invokespecial 25, 3) := by decide +kernel
theorem dX6_init_73 : decode cX6_init 73 = .ok (.putfield 26, 3) := by decide +kernel
theorem dX6_init_76 : decode cX6_init 76 = .ok (.return_, 1) := by decide +kernel
theorem dX6_stock_0 : decode cX6_stock 0 = .ok (.iload_n 1, 1) := by decide +kernel
theorem dX6_stock_1 : decode cX6_stock 1 = .ok (.iconst 0, 1) := by decide +kernel
theorem dX6_stock_2 : decode cX6_stock 2 = .ok (.iconst 3, 1) := by decide +kernel
theorem dX6_stock_3 : decode cX6_stock 3 = .ok (.invokestatic 30, 3) := by decide +kernel
theorem dX6_stock_6 : decode cX6_stock 6 = .ok (.ifCond .ne 13, 3) := by decide +kernel
theorem dX6_stock_9 : decode cX6_stock 9 = .ok (.new 34, 3) := by decide +kernel
theorem dX6_stock_12 : decode cX6_stock 12 = .ok (.dup, 1) := by decide +kernel
theorem dX6_stock_13 : decode cX6_stock 13 = .ok (.ldc 36, 2) := by decide +kernel
theorem dX6_stock_15 : decode cX6_stock 15 = .ok (.invokespecial 38, 3) := by decide +kernel
theorem dX6_stock_18 : decode cX6_stock 18 = .ok (.athrow, 1) := by decide +kernel
theorem dX6_stock_19 : decode cX6_stock 19 = .ok (.iload_n 2, 1) := by decide +kernel
theorem dX6_stock_20 : decode cX6_stock 20 = .ok (.iconst 1, 1) := by decide +kernel
theorem dX6_stock_21 : decode cX6_stock 21 = .ok (.bipush 99, 2) := by decide +kernel
theorem dX6_stock_23 : decode cX6_stock 23 = .ok (.invokestatic 30, 3) := by decide +kernel
theorem dX6_stock_26 : decode cX6_stock 26 = .ok (.ifCond .ne 13, 3) := by decide +kernel
theorem dX6_stock_29 : decode cX6_stock 29 = .ok (.new 41, 3) := by decide +kernel
theorem dX6_stock_32 : decode cX6_stock 32 = .ok (.dup, 1) := by decide +kernel
theorem dX6_stock_33 : decode cX6_stock 33 = .ok (.ldc 43, 2) := by decide +kernel
theorem dX6_stock_35 : decode cX6_stock 35 = .ok (.invokespecial 45, 3) := by decide +kernel
theorem dX6_stock_38 : decode cX6_stock 38 = .ok (.athrow, 1) := by decide +kernel
theorem dX6_stock_39 : decode cX6_stock 39 = .ok (.aload_n 0, 1) := by decide +kernel
theorem dX6_stock_40 : decode cX6_stock 40 = .ok (.getfield 10, 3) := by decide +kernel
theorem dX6_stock_43 : decode cX6_stock 43 = .ok (.iload_n 1, 1) := by decide +kernel
theorem dX6_stock_44 : decode cX6_stock 44 = .ok (.invokevirtual 46, 3) := by decide +kernel
theorem dX6_stock_47 : decode cX6_stock 47 = .ok (.astore_n 3, 1) := by decide +kernel
theorem dX6_stock_48 : decode cX6_stock 48 = .ok (.aload_n 3, 1) := by decide +kernel
theorem dX6_stock_49 : decode cX6_stock 49 = .ok (.getfield 50, 3) := by decide +kernel
theorem dX6_stock_52 : decode cX6_stock 52 = .ok (.iload_n 2, 1) := by decide +kernel
theorem dX6_stock_53 : decode cX6_stock 53 = .ok (.iadd, 1) := by decide +kernel
theorem dX6_stock_54 : decode cX6_stock 54 = .ok (.sipush 200, 3) := by decide +kernel
theorem dX6_stock_57 : decode cX6_stock 57 = .ok (.if_icmp .le 13, 3) := by decide +kernel
theorem dX6_stock_60 : decode cX6_stock 60 = .ok (.new 56, 3) := by decide +kernel
theorem dX6_stock_63 : decode cX6_stock 63 = .ok (.dup, 1) := by decide +kernel
theorem dX6_stock_64 : decode cX6_stock 64 = .ok (.ldc 58, 2) := by decide +kernel
theorem dX6_stock_66 : decode cX6_stock 66 = .ok (.invokespecial 60, 3) := by decide +kernel
theorem dX6_stock_69 : decode cX6_stock 69 = .ok (.athrow, 1) := by decide +kernel
theorem dX6_stock_70 : decode cX6_stock 70 = .ok (.aload_n 0, 1) := by decide +kernel
theorem dX6_stock_71 : decode cX6_stock 71 = .ok (.invokevirtual 61, 3) := by decide +kernel
theorem dX6_stock_74 : decode cX6_stock 74 = .ok (.aload_n 3, 1) := by decide +kernel
theorem dX6_stock_75 : decode cX6_stock 75 = .ok (.dup, 1) := by decide +kernel
theorem dX6_stock_76 : decode cX6_stock 76 = .ok (.getfield 50, 3) := by decide +kernel
theorem dX6_stock_79 : decode cX6_stock 79 = .ok (.iload_n 2, 1) := by decide +kernel
theorem dX6_stock_80 : decode cX6_stock 80 = .ok (.iadd, 1) := by decide +kernel
theorem dX6_stock_81 : decode cX6_stock 81 = .ok (.putfield 50, 3) := by decide +kernel
theorem dX6_stock_84 : decode cX6_stock 84 = .ok (.aload_n 3, 1) := by decide +kernel
theorem dX6_stock_85 : decode cX6_stock 85 = .ok (.getfield 50, 3) := by decide +kernel
theorem dX6_stock_88 : decode cX6_stock 88 = .ok (.ireturn, 1) := by decide +kernel
theorem dX6_range_0 : decode cX6_range 0 = .ok (.iload_n 1, 1) := by decide +kernel
theorem dX6_range_1 : decode cX6_range 1 = .ok (.iconst 0, 1) := by decide +kernel
theorem dX6_range_2 : decode cX6_range 2 = .ok (.iconst 3, 1) := by decide +kernel
theorem dX6_range_3 : decode cX6_range 3 = .ok (.invokestatic 30, 3) := by decide +kernel
theorem dX6_range_6 : decode cX6_range 6 = .ok (.ifCond .ne 13, 3) := by decide +kernel
theorem dX6_range_9 : decode cX6_range 9 = .ok (.new 34, 3) := by decide +kernel
theorem dX6_range_12 : decode cX6_range 12 = .ok (.dup, 1) := by decide +kernel
theorem dX6_range_13 : decode cX6_range 13 = .ok (.ldc 36, 2) := by decide +kernel
theorem dX6_range_15 : decode cX6_range 15 = .ok (.invokespecial 38, 3) := by decide +kernel
theorem dX6_range_18 : decode cX6_range 18 = .ok (.athrow, 1) := by decide +kernel
theorem dX6_range_19 : decode cX6_range 19 = .ok (.iload_n 2, 1) := by decide +kernel
theorem dX6_range_20 : decode cX6_range 20 = .ok (.sipush 600, 3) := by decide +kernel
theorem dX6_range_23 : decode cX6_range 23 = .ok (.sipush 1240, 3) := by decide +kernel
theorem dX6_range_26 : decode cX6_range 26 = .ok (.invokestatic 30, 3) := by decide +kernel
theorem dX6_range_29 : decode cX6_range 29 = .ok (.ifCond .eq 14, 3) := by decide +kernel
theorem dX6_range_32 : decode cX6_range 32 = .ok (.iload_n 3, 1) := by decide +kernel
theorem dX6_range_33 : decode cX6_range 33 = .ok (.iload_n 2, 1) := by decide +kernel
theorem dX6_range_34 : decode cX6_range 34 = .ok (.sipush 1240, 3) := by decide +kernel
theorem dX6_range_37 : decode cX6_range 37 = .ok (.invokestatic 30, 3) := by decide +kernel
theorem dX6_range_40 : decode cX6_range 40 = .ok (.ifCond .ne 13, 3) := by decide +kernel
theorem dX6_range_43 : decode cX6_range 43 = .ok (.new 41, 3) := by decide +kernel
theorem dX6_range_46 : decode cX6_range 46 = .ok (.dup, 1) := by decide +kernel
theorem dX6_range_47 : decode cX6_range 47 = .ok (.ldc 64, 2) := by decide +kernel
theorem dX6_range_49 : decode cX6_range 49 = .ok (.invokespecial 45, 3) := by decide +kernel
theorem dX6_range_52 : decode cX6_range 52 = .ok (.athrow, 1) := by decide +kernel
theorem dX6_range_53 : decode cX6_range 53 = .ok (.aload_n 0, 1) := by decide +kernel
theorem dX6_range_54 : decode cX6_range 54 = .ok (.invokevirtual 61, 3) := by decide +kernel
theorem dX6_range_57 : decode cX6_range 57 = .ok (.aload_n 0, 1) := by decide +kernel
theorem dX6_range_58 : decode cX6_range 58 = .ok (.getfield 10, 3) := by decide +kernel
theorem dX6_range_61 : decode cX6_range 61 = .ok (.iload_n 1, 1) := by decide +kernel
theorem dX6_range_62 : decode cX6_range 62 = .ok (.invokevirtual 46, 3) := by decide +kernel
theorem dX6_range_65 : decode cX6_range 65 = .ok (.astore 4, 2) := by decide +kernel
theorem dX6_range_67 : decode cX6_range 67 = .ok (.sipush 10000, 3) := by decide +kernel
theorem dX6_range_70 : decode cX6_range 70 = .ok (.aload 4, 2) := by decide +kernel
theorem dX6_range_72 : decode cX6_range 72 = .ok (.getfield 66, 3) := by decide +kernel
theorem dX6_range_75 : decode cX6_range 75 = .ok (.imul, 1) := by decide +kernel
theorem dX6_range_76 : decode cX6_range 76 = .ok (.aload 4, 2) := by decide +kernel
theorem dX6_range_78 : decode cX6_range 78 = .ok (.getfield 69, 3) := by decide +kernel
theorem dX6_range_81 : decode cX6_range 81 = .ok (.iadd, 1) := by decide +kernel
theorem dX6_range_82 : decode cX6_range 82 = .ok (.istore 5, 2) := by decide +kernel
theorem dX6_range_84 : decode cX6_range 84 = .ok (.aload 4, 2) := by decide +kernel
theorem dX6_range_86 : decode cX6_range 86 = .ok (.iload_n 2, 1) := by decide +kernel
theorem dX6_range_87 : decode cX6_range 87 = .ok (.putfield 66, 3) := by decide +kernel
theorem dX6_range_90 : decode cX6_range 90 = .ok (.aload 4, 2) := by decide +kernel
theorem dX6_range_92 : decode cX6_range 92 = .ok (.iload_n 3, 1) := by decide +kernel
theorem dX6_range_93 : decode cX6_range 93 = .ok (.putfield 69, 3) := by decide +kernel
theorem dX6_range_96 : decode cX6_range 96 = .ok (.iload 5, 2) := by decide +kernel
theorem dX6_range_98 : decode cX6_range 98 = .ok (.ireturn, 1) := by decide +kernel
theorem dX6_die_0 : decode cX6_die 0 = .ok (.iload_n 1, 1) := by decide +kernel
theorem dX6_die_1 : decode cX6_die 1 = .ok (.iconst 0, 1) := by decide +kernel
theorem dX6_die_2 : decode cX6_die 2 = .ok (.iconst 4, 1) := by decide +kernel
theorem dX6_die_3 : decode cX6_die 3 = .ok (.invokestatic 30, 3) := by decide +kernel
theorem dX6_die_6 : decode cX6_die 6 = .ok (.ifCond .ne 13, 3) := by decide +kernel
theorem dX6_die_9 : decode cX6_die 9 = .ok (.new 34, 3) := by decide +kernel
theorem dX6_die_12 : decode cX6_die 12 = .ok (.dup, 1) := by decide +kernel
theorem dX6_die_13 : decode cX6_die 13 = .ok (.ldc 72, 2) := by decide +kernel
theorem dX6_die_15 : decode cX6_die 15 = .ok (.invokespecial 38, 3) := by decide +kernel
theorem dX6_die_18 : decode cX6_die 18 = .ok (.athrow, 1) := by decide +kernel
theorem dX6_die_19 : decode cX6_die 19 = .ok (.iload_n 2, 1) := by decide +kernel
theorem dX6_die_20 : decode cX6_die 20 = .ok (.iconst 1, 1) := by decide +kernel
theorem dX6_die_21 : decode cX6_die 21 = .ok (.bipush 9, 2) := by decide +kernel
theorem dX6_die_23 : decode cX6_die 23 = .ok (.invokestatic 30, 3) := by decide +kernel
theorem dX6_die_26 : decode cX6_die 26 = .ok (.ifCond .eq 15, 3) := by decide +kernel
theorem dX6_die_29 : decode cX6_die 29 = .ok (.iload_n 3, 1) := by decide +kernel
theorem dX6_die_30 : decode cX6_die 30 = .ok (.bipush 10, 2) := by decide +kernel
theorem dX6_die_32 : decode cX6_die 32 = .ok (.sipush 300, 3) := by decide +kernel
theorem dX6_die_35 : decode cX6_die 35 = .ok (.invokestatic 30, 3) := by decide +kernel
theorem dX6_die_38 : decode cX6_die 38 = .ok (.ifCond .ne 13, 3) := by decide +kernel
theorem dX6_die_41 : decode cX6_die 41 = .ok (.new 41, 3) := by decide +kernel
theorem dX6_die_44 : decode cX6_die 44 = .ok (.dup, 1) := by decide +kernel
theorem dX6_die_45 : decode cX6_die 45 = .ok (.ldc 74, 2) := by decide +kernel
theorem dX6_die_47 : decode cX6_die 47 = .ok (.invokespecial 45, 3) := by decide +kernel
theorem dX6_die_50 : decode cX6_die 50 = .ok (.athrow, 1) := by decide +kernel
theorem dX6_die_51 : decode cX6_die 51 = .ok (.aload_n 0, 1) := by decide +kernel
theorem dX6_die_52 : decode cX6_die 52 = .ok (.getfield 10, 3) := by decide +kernel
theorem dX6_die_55 : decode cX6_die 55 = .ok (.iload_n 1, 1) := by decide +kernel
theorem dX6_die_56 : decode cX6_die 56 = .ok (.invokevirtual 76, 3) := by decide +kernel
theorem dX6_die_59 : decode cX6_die 59 = .ok (.astore 4, 2) := by decide +kernel
theorem dX6_die_61 : decode cX6_die 61 = .ok (.aload 4, 2) := by decide +kernel
theorem dX6_die_63 : decode cX6_die 63 = .ok (.invokevirtual 80, 3) := by decide +kernel
theorem dX6_die_66 : decode cX6_die 66 = .ok (.ifCond .eq 13, 3) := by decide +kernel
theorem dX6_die_69 : decode cX6_die 69 = .ok (.new 56, 3) := by decide +kernel
theorem dX6_die_72 : decode cX6_die 72 = .ok (.dup, 1) := by decide +kernel
theorem dX6_die_73 : decode cX6_die 73 = .ok (.ldc 86, 2) := by decide +kernel
theorem dX6_die_75 : decode cX6_die 75 = .ok (.invokespecial 60, 3) := by decide +kernel
theorem dX6_die_78 : decode cX6_die 78 = .ok (.athrow, 1) := by decide +kernel
theorem dX6_die_79 : decode cX6_die 79 = .ok (.aload_n 0, 1) := by decide +kernel
theorem dX6_die_80 : decode cX6_die 80 = .ok (.invokevirtual 61, 3) := by decide +kernel
theorem dX6_die_83 : decode cX6_die 83 = .ok (.aload 4, 2) := by decide +kernel
theorem dX6_die_85 : decode cX6_die 85 = .ok (.getfield 88, 3) := by decide +kernel
theorem dX6_die_88 : decode cX6_die 88 = .ok (.istore 5, 2) := by decide +kernel
theorem dX6_die_90 : decode cX6_die 90 = .ok (.aload 4, 2) := by decide +kernel
theorem dX6_die_92 : decode cX6_die 92 = .ok (.iload_n 2, 1) := by decide +kernel
theorem dX6_die_93 : decode cX6_die 93 = .ok (.putfield 91, 3) := by decide +kernel
theorem dX6_die_96 : decode cX6_die 96 = .ok (.aload 4, 2) := by decide +kernel
theorem dX6_die_98 : decode cX6_die 98 = .ok (.iload_n 3, 1) := by decide +kernel
theorem dX6_die_99 : decode cX6_die 99 = .ok (.putfield 94, 3) := by decide +kernel
theorem dX6_die_102 : decode cX6_die 102 = .ok (.aload 4, 2) := by decide +kernel
theorem dX6_die_104 : decode cX6_die 104 = .ok (.iconst 0, 1) := by decide +kernel
theorem dX6_die_105 : decode cX6_die 105 = .ok (.putfield 88, 3) := by decide +kernel
theorem dX6_die_108 : decode cX6_die 108 = .ok (.iload 5, 2) := by decide +kernel
theorem dX6_die_110 : decode cX6_die 110 = .ok (.ireturn, 1) := by decide +kernel
theorem dX6_grind_0 : decode cX6_grind 0 = .ok (.iload_n 1, 1) := by decide +kernel
theorem dX6_grind_1 : decode cX6_grind 1 = .ok (.iconst 0, 1) := by decide +kernel
theorem dX6_grind_2 : decode cX6_grind 2 = .ok (.iconst 4, 1) := by decide +kernel
theorem dX6_grind_3 : decode cX6_grind 3 = .ok (.invokestatic 30, 3) := by decide +kernel
theorem dX6_grind_6 : decode cX6_grind 6 = .ok (.ifCond .ne 13, 3) := by decide +kernel
theorem dX6_grind_9 : decode cX6_grind 9 = .ok (.new 34, 3) := by decide +kernel
theorem dX6_grind_12 : decode cX6_grind 12 = .ok (.dup, 1) := by decide +kernel
theorem dX6_grind_13 : decode cX6_grind 13 = .ok (.ldc 72, 2) := by decide +kernel
theorem dX6_grind_15 : decode cX6_grind 15 = .ok (.invokespecial 38, 3) := by decide +kernel
theorem dX6_grind_18 : decode cX6_grind 18 = .ok (.athrow, 1) := by decide +kernel
theorem dX6_grind_19 : decode cX6_grind 19 = .ok (.aload_n 0, 1) := by decide +kernel
theorem dX6_grind_20 : decode cX6_grind 20 = .ok (.getfield 10, 3) := by decide +kernel
theorem dX6_grind_23 : decode cX6_grind 23 = .ok (.invokevirtual 97, 3) := by decide +kernel
theorem dX6_grind_26 : decode cX6_grind 26 = .ok (.iconst (-1), 1) := by decide +kernel
theorem dX6_grind_27 : decode cX6_grind 27 = .ok (.if_icmp .eq 13, 3) := by decide +kernel
theorem dX6_grind_30 : decode cX6_grind 30 = .ok (.new 56, 3) := by decide +kernel
theorem dX6_grind_33 : decode cX6_grind 33 = .ok (.dup, 1) := by decide +kernel
theorem dX6_grind_34 : decode cX6_grind 34 = .ok (.ldc 101, 2) := by decide +kernel
theorem dX6_grind_36 : decode cX6_grind 36 = .ok (.invokespecial 60, 3) := by decide +kernel
theorem dX6_grind_39 : decode cX6_grind 39 = .ok (.athrow, 1) := by decide +kernel
theorem dX6_grind_40 : decode cX6_grind 40 = .ok (.aload_n 0, 1) := by decide +kernel
theorem dX6_grind_41 : decode cX6_grind 41 = .ok (.invokevirtual 61, 3) := by decide +kernel
theorem dX6_grind_44 : decode cX6_grind 44 = .ok (.aload_n 0, 1) := by decide +kernel
theorem dX6_grind_45 : decode cX6_grind 45 = .ok (.getfield 10, 3) := by decide +kernel
theorem dX6_grind_48 : decode cX6_grind 48 = .ok (.iload_n 1, 1) := by decide +kernel
theorem dX6_grind_49 : decode cX6_grind 49 = .ok (.invokevirtual 76, 3) := by decide +kernel
theorem dX6_grind_52 : decode cX6_grind 52 = .ok (.astore_n 2, 1) := by decide +kernel
theorem dX6_grind_53 : decode cX6_grind 53 = .ok (.aload_n 2, 1) := by decide +kernel
theorem dX6_grind_54 : decode cX6_grind 54 = .ok (.aload_n 0, 1) := by decide +kernel
theorem dX6_grind_55 : decode cX6_grind 55 = .ok (.getfield 10, 3) := by decide +kernel
theorem dX6_grind_58 : decode cX6_grind 58 = .ok (.getfield 103, 3) := by decide +kernel
theorem dX6_grind_61 : decode cX6_grind 61 = .ok (.putfield 106, 3) := by decide +kernel
theorem dX6_grind_64 : decode cX6_grind 64 = .ok (.aload_n 2, 1) := by decide +kernel
theorem dX6_grind_65 : decode cX6_grind 65 = .ok (.getfield 88, 3) := by decide +kernel
theorem dX6_grind_68 : decode cX6_grind 68 = .ok (.ireturn, 1) := by decide +kernel
theorem dX6_job_0 : decode cX6_job 0 = .ok (.iload_n 1, 1) := by decide +kernel
theorem dX6_job_1 : decode cX6_job 1 = .ok (.iconst 0, 1) := by decide +kernel
theorem dX6_job_2 : decode cX6_job 2 = .ok (.iconst 4, 1) := by decide +kernel
theorem dX6_job_3 : decode cX6_job 3 = .ok (.invokestatic 30, 3) := by decide +kernel
theorem dX6_job_6 : decode cX6_job 6 = .ok (.ifCond .eq 12, 3) := by decide +kernel
theorem dX6_job_9 : decode cX6_job 9 = .ok (.iload_n 2, 1) := by decide +kernel
theorem dX6_job_10 : decode cX6_job 10 = .ok (.iconst 0, 1) := by decide +kernel
theorem dX6_job_11 : decode cX6_job 11 = .ok (.iconst 3, 1) := by decide +kernel
theorem dX6_job_12 : decode cX6_job 12 = .ok (.invokestatic 30, 3) := by decide +kernel
theorem dX6_job_15 : decode cX6_job 15 = .ok (.ifCond .ne 13, 3) := by decide +kernel
theorem dX6_job_18 : decode cX6_job 18 = .ok (.new 34, 3) := by decide +kernel
theorem dX6_job_21 : decode cX6_job 21 = .ok (.dup, 1) := by decide +kernel
theorem dX6_job_22 : decode cX6_job 22 = .ok (.ldc 109, 2) := by decide +kernel
theorem dX6_job_24 : decode cX6_job 24 = .ok (.invokespecial 38, 3) := by decide +kernel
theorem dX6_job_27 : decode cX6_job 27 = .ok (.athrow, 1) := by decide +kernel
theorem dX6_job_28 : decode cX6_job 28 = .ok (.iload_n 3, 1) := by decide +kernel
theorem dX6_job_29 : decode cX6_job 29 = .ok (.iconst 1, 1) := by decide +kernel
theorem dX6_job_30 : decode cX6_job 30 = .ok (.bipush 40, 2) := by decide +kernel
theorem dX6_job_32 : decode cX6_job 32 = .ok (.invokestatic 30, 3) := by decide +kernel
theorem dX6_job_35 : decode cX6_job 35 = .ok (.ifCond .eq 15, 3) := by decide +kernel
theorem dX6_job_38 : decode cX6_job 38 = .ok (.iload 4, 2) := by decide +kernel
theorem dX6_job_40 : decode cX6_job 40 = .ok (.iconst 0, 1) := by decide +kernel
theorem dX6_job_41 : decode cX6_job 41 = .ok (.sipush 9999, 3) := by decide +kernel
theorem dX6_job_44 : decode cX6_job 44 = .ok (.invokestatic 30, 3) := by decide +kernel
theorem dX6_job_47 : decode cX6_job 47 = .ok (.ifCond .ne 13, 3) := by decide +kernel
theorem dX6_job_50 : decode cX6_job 50 = .ok (.new 41, 3) := by decide +kernel
theorem dX6_job_53 : decode cX6_job 53 = .ok (.dup, 1) := by decide +kernel
theorem dX6_job_54 : decode cX6_job 54 = .ok (.ldc 111, 2) := by decide +kernel
theorem dX6_job_56 : decode cX6_job 56 = .ok (.invokespecial 45, 3) := by decide +kernel
theorem dX6_job_59 : decode cX6_job 59 = .ok (.athrow, 1) := by decide +kernel
theorem dX6_job_60 : decode cX6_job 60 = .ok (.aload_n 0, 1) := by decide +kernel
theorem dX6_job_61 : decode cX6_job 61 = .ok (.getfield 10, 3) := by decide +kernel
theorem dX6_job_64 : decode cX6_job 64 = .ok (.getfield 113, 3) := by decide +kernel
theorem dX6_job_67 : decode cX6_job 67 = .ok (.bipush 10, 2) := by decide +kernel
theorem dX6_job_69 : decode cX6_job 69 = .ok (.if_icmp .lt 13, 3) := by decide +kernel
theorem dX6_job_72 : decode cX6_job 72 = .ok (.new 56, 3) := by decide +kernel
theorem dX6_job_75 : decode cX6_job 75 = .ok (.dup, 1) := by decide +kernel
theorem dX6_job_76 : decode cX6_job 76 = .ok (.ldc 116, 2) := by decide +kernel
theorem dX6_job_78 : decode cX6_job 78 = .ok (.invokespecial 60, 3) := by decide +kernel
theorem dX6_job_81 : decode cX6_job 81 = .ok (.athrow, 1) := by decide +kernel
theorem dX6_job_82 : decode cX6_job 82 = .ok (.aload_n 0, 1) := by decide +kernel
theorem dX6_job_83 : decode cX6_job 83 = .ok (.invokevirtual 61, 3) := by decide +kernel
theorem dX6_job_86 : decode cX6_job 86 = .ok (.aload_n 0, 1) := by decide +kernel
theorem dX6_job_87 : decode cX6_job 87 = .ok (.getfield 10, 3) := by decide +kernel
theorem dX6_job_90 : decode cX6_job 90 = .ok (.iload_n 1, 1) := by decide +kernel
theorem dX6_job_91 : decode cX6_job 91 = .ok (.iload_n 2, 1) := by decide +kernel
theorem dX6_job_92 : decode cX6_job 92 = .ok (.iload_n 3, 1) := by decide +kernel
theorem dX6_job_93 : decode cX6_job 93 = .ok (.iload 4, 2) := by decide +kernel
theorem dX6_job_95 : decode cX6_job 95 = .ok (.iload 5, 2) := by decide +kernel
theorem dX6_job_97 : decode cX6_job 97 = .ok (.invokevirtual 118, 3) := by decide +kernel
theorem dX6_job_100 : decode cX6_job 100 = .ok (.ireturn, 1) := by decide +kernel
theorem dX6_cancel_0 : decode cX6_cancel 0 = .ok (.aload_n 0, 1) := by decide +kernel
theorem dX6_cancel_1 : decode cX6_cancel 1 = .ok (.getfield 10, 3) := by decide +kernel
theorem dX6_cancel_4 : decode cX6_cancel 4 = .ok (.iload_n 1, 1) := by decide +kernel
theorem dX6_cancel_5 : decode cX6_cancel 5 = .ok (.invokevirtual 122, 3) := by decide +kernel
theorem dX6_cancel_8 : decode cX6_cancel 8 = .ok (.istore_n 2, 1) := by decide +kernel
theorem dX6_cancel_9 : decode cX6_cancel 9 = .ok (.iload_n 2, 1) := by decide +kernel
theorem dX6_cancel_10 : decode cX6_cancel 10 = .ok (.iconst (-1), 1) := by decide +kernel
theorem dX6_cancel_11 : decode cX6_cancel 11 = .ok (.if_icmp .ne 13, 3) := by decide +kernel
theorem dX6_cancel_14 : decode cX6_cancel 14 = .ok (.new 34, 3) := by decide +kernel
theorem dX6_cancel_17 : decode cX6_cancel 17 = .ok (.dup, 1) := by decide +kernel
theorem dX6_cancel_18 : decode cX6_cancel 18 = .ok (.ldc 126, 2) := by decide +kernel
theorem dX6_cancel_20 : decode cX6_cancel 20 = .ok (.invokespecial 38, 3) := by decide +kernel
theorem dX6_cancel_23 : decode cX6_cancel 23 = .ok (.athrow, 1) := by decide +kernel
theorem dX6_cancel_24 : decode cX6_cancel 24 = .ok (.aload_n 0, 1) := by decide +kernel
theorem dX6_cancel_25 : decode cX6_cancel 25 = .ok (.invokevirtual 61, 3) := by decide +kernel
theorem dX6_cancel_28 : decode cX6_cancel 28 = .ok (.aload_n 0, 1) := by decide +kernel
theorem dX6_cancel_29 : decode cX6_cancel 29 = .ok (.getfield 10, 3) := by decide +kernel
theorem dX6_cancel_32 : decode cX6_cancel 32 = .ok (.iload_n 2, 1) := by decide +kernel
theorem dX6_cancel_33 : decode cX6_cancel 33 = .ok (.invokevirtual 128, 3) := by decide +kernel
theorem dX6_cancel_36 : decode cX6_cancel 36 = .ok (.ireturn, 1) := by decide +kernel
theorem dX6_rush_0 : decode cX6_rush 0 = .ok (.aload_n 0, 1) := by decide +kernel
theorem dX6_rush_1 : decode cX6_rush 1 = .ok (.getfield 10, 3) := by decide +kernel
theorem dX6_rush_4 : decode cX6_rush 4 = .ok (.iload_n 1, 1) := by decide +kernel
theorem dX6_rush_5 : decode cX6_rush 5 = .ok (.invokevirtual 122, 3) := by decide +kernel
theorem dX6_rush_8 : decode cX6_rush 8 = .ok (.istore_n 3, 1) := by decide +kernel
theorem dX6_rush_9 : decode cX6_rush 9 = .ok (.iload_n 3, 1) := by decide +kernel
theorem dX6_rush_10 : decode cX6_rush 10 = .ok (.iconst (-1), 1) := by decide +kernel
theorem dX6_rush_11 : decode cX6_rush 11 = .ok (.if_icmp .ne 13, 3) := by decide +kernel
theorem dX6_rush_14 : decode cX6_rush 14 = .ok (.new 34, 3) := by decide +kernel
theorem dX6_rush_17 : decode cX6_rush 17 = .ok (.dup, 1) := by decide +kernel
theorem dX6_rush_18 : decode cX6_rush 18 = .ok (.ldc 126, 2) := by decide +kernel
theorem dX6_rush_20 : decode cX6_rush 20 = .ok (.invokespecial 38, 3) := by decide +kernel
theorem dX6_rush_23 : decode cX6_rush 23 = .ok (.athrow, 1) := by decide +kernel
theorem dX6_rush_24 : decode cX6_rush 24 = .ok (.aload_n 0, 1) := by decide +kernel
theorem dX6_rush_25 : decode cX6_rush 25 = .ok (.invokevirtual 61, 3) := by decide +kernel
theorem dX6_rush_28 : decode cX6_rush 28 = .ok (.aload_n 0, 1) := by decide +kernel
theorem dX6_rush_29 : decode cX6_rush 29 = .ok (.getfield 10, 3) := by decide +kernel
theorem dX6_rush_32 : decode cX6_rush 32 = .ok (.iload_n 3, 1) := by decide +kernel
theorem dX6_rush_33 : decode cX6_rush 33 = .ok (.iload_n 2, 1) := by decide +kernel
theorem dX6_rush_34 : decode cX6_rush 34 = .ok (.invokevirtual 131, 3) := by decide +kernel
theorem dX6_rush_37 : decode cX6_rush 37 = .ok (.ireturn, 1) := by decide +kernel
theorem dX6_set_0 : decode cX6_set 0 = .ok (.iload_n 1, 1) := by decide +kernel
theorem dX6_set_1 : decode cX6_set 1 = .ok (.iconst 0, 1) := by decide +kernel
theorem dX6_set_2 : decode cX6_set 2 = .ok (.iconst 3, 1) := by decide +kernel
theorem dX6_set_3 : decode cX6_set 3 = .ok (.invokestatic 30, 3) := by decide +kernel
theorem dX6_set_6 : decode cX6_set 6 = .ok (.ifCond .ne 13, 3) := by decide +kernel
theorem dX6_set_9 : decode cX6_set 9 = .ok (.new 34, 3) := by decide +kernel
theorem dX6_set_12 : decode cX6_set 12 = .ok (.dup, 1) := by decide +kernel
theorem dX6_set_13 : decode cX6_set 13 = .ok (.ldc 135, 2) := by decide +kernel
theorem dX6_set_15 : decode cX6_set 15 = .ok (.invokespecial 38, 3) := by decide +kernel
theorem dX6_set_18 : decode cX6_set 18 = .ok (.athrow, 1) := by decide +kernel
theorem dX6_set_19 : decode cX6_set 19 = .ok (.iload_n 2, 1) := by decide +kernel
theorem dX6_set_20 : decode cX6_set 20 = .ok (.iload_n 1, 1) := by decide +kernel
theorem dX6_set_21 : decode cX6_set 21 = .ok (.invokestatic 137, 3) := by decide +kernel
theorem dX6_set_24 : decode cX6_set 24 = .ok (.iload_n 1, 1) := by decide +kernel
theorem dX6_set_25 : decode cX6_set 25 = .ok (.invokestatic 140, 3) := by decide +kernel
theorem dX6_set_28 : decode cX6_set 28 = .ok (.invokestatic 30, 3) := by decide +kernel
theorem dX6_set_31 : decode cX6_set 31 = .ok (.ifCond .ne 13, 3) := by decide +kernel
theorem dX6_set_34 : decode cX6_set 34 = .ok (.new 41, 3) := by decide +kernel
theorem dX6_set_37 : decode cX6_set 37 = .ok (.dup, 1) := by decide +kernel
theorem dX6_set_38 : decode cX6_set 38 = .ok (.ldc 143, 2) := by decide +kernel
theorem dX6_set_40 : decode cX6_set 40 = .ok (.invokespecial 45, 3) := by decide +kernel
theorem dX6_set_43 : decode cX6_set 43 = .ok (.athrow, 1) := by decide +kernel
theorem dX6_set_44 : decode cX6_set 44 = .ok (.aload_n 0, 1) := by decide +kernel
theorem dX6_set_45 : decode cX6_set 45 = .ok (.invokevirtual 61, 3) := by decide +kernel
theorem dX6_set_48 : decode cX6_set 48 = .ok (.aload_n 0, 1) := by decide +kernel
theorem dX6_set_49 : decode cX6_set 49 = .ok (.getfield 10, 3) := by decide +kernel
theorem dX6_set_52 : decode cX6_set 52 = .ok (.iload_n 1, 1) := by decide +kernel
theorem dX6_set_53 : decode cX6_set 53 = .ok (.invokevirtual 145, 3) := by decide +kernel
theorem dX6_set_56 : decode cX6_set 56 = .ok (.istore_n 3, 1) := by decide +kernel
theorem dX6_set_57 : decode cX6_set 57 = .ok (.aload_n 0, 1) := by decide +kernel
theorem dX6_set_58 : decode cX6_set 58 = .ok (.getfield 10, 3) := by decide +kernel
theorem dX6_set_61 : decode cX6_set 61 = .ok (.iload_n 1, 1) := by decide +kernel
theorem dX6_set_62 : decode cX6_set 62 = .ok (.iload_n 2, 1) := by decide +kernel
theorem dX6_set_63 : decode cX6_set 63 = .ok (.invokevirtual 148, 3) := by decide +kernel
theorem dX6_set_66 : decode cX6_set 66 = .ok (.iload_n 3, 1) := by decide +kernel
theorem dX6_set_67 : decode cX6_set 67 = .ok (.ireturn, 1) := by decide +kernel
theorem dX6_pass_0 : decode cX6_pass 0 = .ok (.iload_n 1, 1) := by decide +kernel
theorem dX6_pass_1 : decode cX6_pass 1 = .ok (.iconst 1, 1) := by decide +kernel
theorem dX6_pass_2 : decode cX6_pass 2 = .ok (.bipush 120, 2) := by decide +kernel
theorem dX6_pass_4 : decode cX6_pass 4 = .ok (.invokestatic 30, 3) := by decide +kernel
theorem dX6_pass_7 : decode cX6_pass 7 = .ok (.ifCond .ne 13, 3) := by decide +kernel
theorem dX6_pass_10 : decode cX6_pass 10 = .ok (.new 41, 3) := by decide +kernel
theorem dX6_pass_13 : decode cX6_pass 13 = .ok (.dup, 1) := by decide +kernel
theorem dX6_pass_14 : decode cX6_pass 14 = .ok (.ldc 152, 2) := by decide +kernel
theorem dX6_pass_16 : decode cX6_pass 16 = .ok (.invokespecial 45, 3) := by decide +kernel
theorem dX6_pass_19 : decode cX6_pass 19 = .ok (.athrow, 1) := by decide +kernel
theorem dX6_pass_20 : decode cX6_pass 20 = .ok (.aload_n 0, 1) := by decide +kernel
theorem dX6_pass_21 : decode cX6_pass 21 = .ok (.getfield 10, 3) := by decide +kernel
theorem dX6_pass_24 : decode cX6_pass 24 = .ok (.getfield 154, 3) := by decide +kernel
theorem dX6_pass_27 : decode cX6_pass 27 = .ok (.iload_n 1, 1) := by decide +kernel
theorem dX6_pass_28 : decode cX6_pass 28 = .ok (.iadd, 1) := by decide +kernel
theorem dX6_pass_29 : decode cX6_pass 29 = .ok (.sipush 9999, 3) := by decide +kernel
theorem dX6_pass_32 : decode cX6_pass 32 = .ok (.if_icmp .le 13, 3) := by decide +kernel
theorem dX6_pass_35 : decode cX6_pass 35 = .ok (.new 56, 3) := by decide +kernel
theorem dX6_pass_38 : decode cX6_pass 38 = .ok (.dup, 1) := by decide +kernel
theorem dX6_pass_39 : decode cX6_pass 39 = .ok (.ldc 157, 2) := by decide +kernel
theorem dX6_pass_41 : decode cX6_pass 41 = .ok (.invokespecial 60, 3) := by decide +kernel
theorem dX6_pass_44 : decode cX6_pass 44 = .ok (.athrow, 1) := by decide +kernel
theorem dX6_pass_45 : decode cX6_pass 45 = .ok (.aload_n 0, 1) := by decide +kernel
theorem dX6_pass_46 : decode cX6_pass 46 = .ok (.invokevirtual 61, 3) := by decide +kernel
theorem dX6_pass_49 : decode cX6_pass 49 = .ok (.aload_n 0, 1) := by decide +kernel
theorem dX6_pass_50 : decode cX6_pass 50 = .ok (.getfield 10, 3) := by decide +kernel
theorem dX6_pass_53 : decode cX6_pass 53 = .ok (.invokevirtual 159, 3) := by decide +kernel
theorem dX6_pass_56 : decode cX6_pass 56 = .ok (.istore_n 2, 1) := by decide +kernel
theorem dX6_pass_57 : decode cX6_pass 57 = .ok (.aload_n 0, 1) := by decide +kernel
theorem dX6_pass_58 : decode cX6_pass 58 = .ok (.getfield 10, 3) := by decide +kernel
theorem dX6_pass_61 : decode cX6_pass 61 = .ok (.iload_n 1, 1) := by decide +kernel
theorem dX6_pass_62 : decode cX6_pass 62 = .ok (.invokevirtual 162, 3) := by decide +kernel
theorem dX6_pass_65 : decode cX6_pass 65 = .ok (.aload_n 0, 1) := by decide +kernel
theorem dX6_pass_66 : decode cX6_pass 66 = .ok (.getfield 10, 3) := by decide +kernel
theorem dX6_pass_69 : decode cX6_pass 69 = .ok (.invokevirtual 159, 3) := by decide +kernel
theorem dX6_pass_72 : decode cX6_pass 72 = .ok (.iload_n 2, 1) := by decide +kernel
theorem dX6_pass_73 : decode cX6_pass 73 = .ok (.isub, 1) := by decide +kernel
theorem dX6_pass_74 : decode cX6_pass 74 = .ok (.ireturn, 1) := by decide +kernel
theorem dX6_undo_0 : decode cX6_undo 0 = .ok (.aload_n 0, 1) := by decide +kernel
theorem dX6_undo_1 : decode cX6_undo 1 = .ok (.aload_n 0, 1) := by decide +kernel
theorem dX6_undo_2 : decode cX6_undo 2 = .ok (.getfield 212, 3) := by decide +kernel
theorem dX6_undo_5 : decode cX6_undo 5 = .ok (.iconst 1, 1) := by decide +kernel
theorem dX6_undo_6 : decode cX6_undo 6 = .ok (.isub, 1) := by decide +kernel
theorem dX6_undo_7 : decode cX6_undo 7 = .ok (.invokevirtual 215, 3) := by decide +kernel
theorem dX6_undo_10 : decode cX6_undo 10 = .ok (.astore_n 1, 1) := by decide +kernel
theorem dX6_undo_11 : decode cX6_undo 11 = .ok (.aload_n 1, 1) := by decide +kernel
theorem dX6_undo_12 : decode cX6_undo 12 = .ok (.ifnonnull 13, 3) := by decide +kernel
theorem dX6_undo_15 : decode cX6_undo 15 = .ok (.new 56, 3) := by decide +kernel
theorem dX6_undo_18 : decode cX6_undo 18 = .ok (.dup, 1) := by decide +kernel
theorem dX6_undo_19 : decode cX6_undo 19 = .ok (.ldc 219, 2) := by decide +kernel
theorem dX6_undo_21 : decode cX6_undo 21 = .ok (.invokespecial 60, 3) := by decide +kernel
theorem dX6_undo_24 : decode cX6_undo 24 = .ok (.athrow, 1) := by decide +kernel
theorem dX6_undo_25 : decode cX6_undo 25 = .ok (.aload_n 0, 1) := by decide +kernel
theorem dX6_undo_26 : decode cX6_undo 26 = .ok (.getfield 10, 3) := by decide +kernel
theorem dX6_undo_29 : decode cX6_undo 29 = .ok (.aload_n 1, 1) := by decide +kernel
theorem dX6_undo_30 : decode cX6_undo 30 = .ok (.invokevirtual 221, 3) := by decide +kernel
theorem dX6_undo_33 : decode cX6_undo 33 = .ok (.aload_n 0, 1) := by decide +kernel
theorem dX6_undo_34 : decode cX6_undo 34 = .ok (.dup, 1) := by decide +kernel
theorem dX6_undo_35 : decode cX6_undo 35 = .ok (.getfield 212, 3) := by decide +kernel
theorem dX6_undo_38 : decode cX6_undo 38 = .ok (.iconst 1, 1) := by decide +kernel
theorem dX6_undo_39 : decode cX6_undo 39 = .ok (.isub, 1) := by decide +kernel
theorem dX6_undo_40 : decode cX6_undo 40 = .ok (.putfield 212, 3) := by decide +kernel
theorem dX6_undo_43 : decode cX6_undo 43 = .ok (.aload_n 0, 1) := by decide +kernel
theorem dX6_undo_44 : decode cX6_undo 44 = .ok (.getfield 212, 3) := by decide +kernel
theorem dX6_undo_47 : decode cX6_undo 47 = .ok (.ireturn, 1) := by decide +kernel
theorem dX6_heat_0 : decode cX6_heat 0 = .ok (.iload_n 1, 1) := by decide +kernel
theorem dX6_heat_1 : decode cX6_heat 1 = .ok (.iconst 0, 1) := by decide +kernel
theorem dX6_heat_2 : decode cX6_heat 2 = .ok (.iconst 3, 1) := by decide +kernel
theorem dX6_heat_3 : decode cX6_heat 3 = .ok (.invokestatic 30, 3) := by decide +kernel
theorem dX6_heat_6 : decode cX6_heat 6 = .ok (.ifCond .ne 13, 3) := by decide +kernel
theorem dX6_heat_9 : decode cX6_heat 9 = .ok (.new 34, 3) := by decide +kernel
theorem dX6_heat_12 : decode cX6_heat 12 = .ok (.dup, 1) := by decide +kernel
theorem dX6_heat_13 : decode cX6_heat 13 = .ok (.ldc 36, 2) := by decide +kernel
theorem dX6_heat_15 : decode cX6_heat 15 = .ok (.invokespecial 38, 3) := by decide +kernel
theorem dX6_heat_18 : decode cX6_heat 18 = .ok (.athrow, 1) := by decide +kernel
theorem dX6_heat_19 : decode cX6_heat 19 = .ok (.iload_n 2, 1) := by decide +kernel
theorem dX6_heat_20 : decode cX6_heat 20 = .ok (.iconst 0, 1) := by decide +kernel
theorem dX6_heat_21 : decode cX6_heat 21 = .ok (.bipush 6, 2) := by decide +kernel
theorem dX6_heat_23 : decode cX6_heat 23 = .ok (.invokestatic 30, 3) := by decide +kernel
theorem dX6_heat_26 : decode cX6_heat 26 = .ok (.ifCond .ne 13, 3) := by decide +kernel
theorem dX6_heat_29 : decode cX6_heat 29 = .ok (.new 41, 3) := by decide +kernel
theorem dX6_heat_32 : decode cX6_heat 32 = .ok (.dup, 1) := by decide +kernel
theorem dX6_heat_33 : decode cX6_heat 33 = .ok (.ldc 225, 2) := by decide +kernel
theorem dX6_heat_35 : decode cX6_heat 35 = .ok (.invokespecial 45, 3) := by decide +kernel
theorem dX6_heat_38 : decode cX6_heat 38 = .ok (.athrow, 1) := by decide +kernel
theorem dX6_heat_39 : decode cX6_heat 39 = .ok (.aload_n 0, 1) := by decide +kernel
theorem dX6_heat_40 : decode cX6_heat 40 = .ok (.getfield 10, 3) := by decide +kernel
theorem dX6_heat_43 : decode cX6_heat 43 = .ok (.iload_n 1, 1) := by decide +kernel
theorem dX6_heat_44 : decode cX6_heat 44 = .ok (.iload_n 2, 1) := by decide +kernel
theorem dX6_heat_45 : decode cX6_heat 45 = .ok (.invokevirtual 227, 3) := by decide +kernel
theorem dX6_heat_48 : decode cX6_heat 48 = .ok (.ireturn, 1) := by decide +kernel
theorem dX6_dieOf_0 : decode cX6_dieOf 0 = .ok (.iload_n 1, 1) := by decide +kernel
theorem dX6_dieOf_1 : decode cX6_dieOf 1 = .ok (.iconst 0, 1) := by decide +kernel
theorem dX6_dieOf_2 : decode cX6_dieOf 2 = .ok (.iconst 4, 1) := by decide +kernel
theorem dX6_dieOf_3 : decode cX6_dieOf 3 = .ok (.invokestatic 30, 3) := by decide +kernel
theorem dX6_dieOf_6 : decode cX6_dieOf 6 = .ok (.ifCond .ne 13, 3) := by decide +kernel
theorem dX6_dieOf_9 : decode cX6_dieOf 9 = .ok (.new 34, 3) := by decide +kernel
theorem dX6_dieOf_12 : decode cX6_dieOf 12 = .ok (.dup, 1) := by decide +kernel
theorem dX6_dieOf_13 : decode cX6_dieOf 13 = .ok (.ldc 72, 2) := by decide +kernel
theorem dX6_dieOf_15 : decode cX6_dieOf 15 = .ok (.invokespecial 38, 3) := by decide +kernel
theorem dX6_dieOf_18 : decode cX6_dieOf 18 = .ok (.athrow, 1) := by decide +kernel
theorem dX6_dieOf_19 : decode cX6_dieOf 19 = .ok (.iload_n 2, 1) := by decide +kernel
theorem dX6_dieOf_20 : decode cX6_dieOf 20 = .ok (.iconst 0, 1) := by decide +kernel
theorem dX6_dieOf_21 : decode cX6_dieOf 21 = .ok (.iconst 5, 1) := by decide +kernel
theorem dX6_dieOf_22 : decode cX6_dieOf 22 = .ok (.invokestatic 30, 3) := by decide +kernel
theorem dX6_dieOf_25 : decode cX6_dieOf 25 = .ok (.ifCond .ne 13, 3) := by decide +kernel
theorem dX6_dieOf_28 : decode cX6_dieOf 28 = .ok (.new 41, 3) := by decide +kernel
theorem dX6_dieOf_31 : decode cX6_dieOf 31 = .ok (.dup, 1) := by decide +kernel
theorem dX6_dieOf_32 : decode cX6_dieOf 32 = .ok (.ldc 225, 2) := by decide +kernel
theorem dX6_dieOf_34 : decode cX6_dieOf 34 = .ok (.invokespecial 45, 3) := by decide +kernel
theorem dX6_dieOf_37 : decode cX6_dieOf 37 = .ok (.athrow, 1) := by decide +kernel
theorem dX6_dieOf_38 : decode cX6_dieOf 38 = .ok (.aload_n 0, 1) := by decide +kernel
theorem dX6_dieOf_39 : decode cX6_dieOf 39 = .ok (.getfield 10, 3) := by decide +kernel
theorem dX6_dieOf_42 : decode cX6_dieOf 42 = .ok (.iload_n 1, 1) := by decide +kernel
theorem dX6_dieOf_43 : decode cX6_dieOf 43 = .ok (.invokevirtual 76, 3) := by decide +kernel
theorem dX6_dieOf_46 : decode cX6_dieOf 46 = .ok (.iload_n 2, 1) := by decide +kernel
theorem dX6_dieOf_47 : decode cX6_dieOf 47 = .ok (.invokevirtual 231, 3) := by decide +kernel
theorem dX6_dieOf_50 : decode cX6_dieOf 50 = .ok (.ireturn, 1) := by decide +kernel
theorem dX6_jobOf_0 : decode cX6_jobOf 0 = .ok (.iload_n 1, 1) := by decide +kernel
theorem dX6_jobOf_1 : decode cX6_jobOf 1 = .ok (.ifCond .lt 13, 3) := by decide +kernel
theorem dX6_jobOf_4 : decode cX6_jobOf 4 = .ok (.iload_n 2, 1) := by decide +kernel
theorem dX6_jobOf_5 : decode cX6_jobOf 5 = .ok (.iconst 0, 1) := by decide +kernel
theorem dX6_jobOf_6 : decode cX6_jobOf 6 = .ok (.bipush 7, 2) := by decide +kernel
theorem dX6_jobOf_8 : decode cX6_jobOf 8 = .ok (.invokestatic 30, 3) := by decide +kernel
theorem dX6_jobOf_11 : decode cX6_jobOf 11 = .ok (.ifCond .ne 13, 3) := by decide +kernel
theorem dX6_jobOf_14 : decode cX6_jobOf 14 = .ok (.new 41, 3) := by decide +kernel
theorem dX6_jobOf_17 : decode cX6_jobOf 17 = .ok (.dup, 1) := by decide +kernel
theorem dX6_jobOf_18 : decode cX6_jobOf 18 = .ok (.ldc 234, 2) := by decide +kernel
theorem dX6_jobOf_20 : decode cX6_jobOf 20 = .ok (.invokespecial 45, 3) := by decide +kernel
theorem dX6_jobOf_23 : decode cX6_jobOf 23 = .ok (.athrow, 1) := by decide +kernel
theorem dX6_jobOf_24 : decode cX6_jobOf 24 = .ok (.iload_n 1, 1) := by decide +kernel
theorem dX6_jobOf_25 : decode cX6_jobOf 25 = .ok (.aload_n 0, 1) := by decide +kernel
theorem dX6_jobOf_26 : decode cX6_jobOf 26 = .ok (.getfield 10, 3) := by decide +kernel
theorem dX6_jobOf_29 : decode cX6_jobOf 29 = .ok (.getfield 113, 3) := by decide +kernel
theorem dX6_jobOf_32 : decode cX6_jobOf 32 = .ok (.if_icmp .ge 15, 3) := by decide +kernel
theorem dX6_jobOf_35 : decode cX6_jobOf 35 = .ok (.aload_n 0, 1) := by decide +kernel
theorem dX6_jobOf_36 : decode cX6_jobOf 36 = .ok (.getfield 10, 3) := by decide +kernel
theorem dX6_jobOf_39 : decode cX6_jobOf 39 = .ok (.iload_n 1, 1) := by decide +kernel
theorem dX6_jobOf_40 : decode cX6_jobOf 40 = .ok (.iload_n 2, 1) := by decide +kernel
theorem dX6_jobOf_41 : decode cX6_jobOf 41 = .ok (.invokevirtual 236, 3) := by decide +kernel
theorem dX6_jobOf_44 : decode cX6_jobOf 44 = .ok (.goto 4, 3) := by decide +kernel
theorem dX6_jobOf_47 : decode cX6_jobOf 47 = .ok (.iconst (-1), 1) := by decide +kernel
theorem dX6_jobOf_48 : decode cX6_jobOf 48 = .ok (.ireturn, 1) := by decide +kernel
theorem dX6_billet_0 : decode cX6_billet 0 = .ok (.iload_n 1, 1) := by decide +kernel
theorem dX6_billet_1 : decode cX6_billet 1 = .ok (.iconst 0, 1) := by decide +kernel
theorem dX6_billet_2 : decode cX6_billet 2 = .ok (.bipush 6, 2) := by decide +kernel
theorem dX6_billet_4 : decode cX6_billet 4 = .ok (.invokestatic 30, 3) := by decide +kernel
theorem dX6_billet_7 : decode cX6_billet 7 = .ok (.ifCond .ne 13, 3) := by decide +kernel
theorem dX6_billet_10 : decode cX6_billet 10 = .ok (.new 34, 3) := by decide +kernel
theorem dX6_billet_13 : decode cX6_billet 13 = .ok (.dup, 1) := by decide +kernel
theorem dX6_billet_14 : decode cX6_billet 14 = .ok (.ldc 239, 2) := by decide +kernel
theorem dX6_billet_16 : decode cX6_billet 16 = .ok (.invokespecial 38, 3) := by decide +kernel
theorem dX6_billet_19 : decode cX6_billet 19 = .ok (.athrow, 1) := by decide +kernel
theorem dX6_billet_20 : decode cX6_billet 20 = .ok (.iload_n 2, 1) := by decide +kernel
theorem dX6_billet_21 : decode cX6_billet 21 = .ok (.iconst 0, 1) := by decide +kernel
theorem dX6_billet_22 : decode cX6_billet 22 = .ok (.iconst 3, 1) := by decide +kernel
theorem dX6_billet_23 : decode cX6_billet 23 = .ok (.invokestatic 30, 3) := by decide +kernel
theorem dX6_billet_26 : decode cX6_billet 26 = .ok (.ifCond .ne 13, 3) := by decide +kernel
theorem dX6_billet_29 : decode cX6_billet 29 = .ok (.new 41, 3) := by decide +kernel
theorem dX6_billet_32 : decode cX6_billet 32 = .ok (.dup, 1) := by decide +kernel
theorem dX6_billet_33 : decode cX6_billet 33 = .ok (.ldc 225, 2) := by decide +kernel
theorem dX6_billet_35 : decode cX6_billet 35 = .ok (.invokespecial 45, 3) := by decide +kernel
theorem dX6_billet_38 : decode cX6_billet 38 = .ok (.athrow, 1) := by decide +kernel
theorem dX6_billet_39 : decode cX6_billet 39 = .ok (.aload_n 0, 1) := by decide +kernel
theorem dX6_billet_40 : decode cX6_billet 40 = .ok (.getfield 10, 3) := by decide +kernel
theorem dX6_billet_43 : decode cX6_billet 43 = .ok (.iload_n 1, 1) := by decide +kernel
theorem dX6_billet_44 : decode cX6_billet 44 = .ok (.invokevirtual 241, 3) := by decide +kernel
theorem dX6_billet_47 : decode cX6_billet 47 = .ok (.iload_n 2, 1) := by decide +kernel
theorem dX6_billet_48 : decode cX6_billet 48 = .ok (.invokevirtual 245, 3) := by decide +kernel
theorem dX6_billet_51 : decode cX6_billet 51 = .ok (.ireturn, 1) := by decide +kernel
theorem dX6_count_0 : decode cX6_count 0 = .ok (.iload_n 1, 1) := by decide +kernel
theorem dX6_count_1 : decode cX6_count 1 = .ok (.iconst 0, 1) := by decide +kernel
theorem dX6_count_2 : decode cX6_count 2 = .ok (.bipush 11, 2) := by decide +kernel
theorem dX6_count_4 : decode cX6_count 4 = .ok (.invokestatic 30, 3) := by decide +kernel
theorem dX6_count_7 : decode cX6_count 7 = .ok (.ifCond .ne 13, 3) := by decide +kernel
theorem dX6_count_10 : decode cX6_count 10 = .ok (.new 41, 3) := by decide +kernel
theorem dX6_count_13 : decode cX6_count 13 = .ok (.dup, 1) := by decide +kernel
theorem dX6_count_14 : decode cX6_count 14 = .ok (.ldc 248, 2) := by decide +kernel
theorem dX6_count_16 : decode cX6_count 16 = .ok (.invokespecial 45, 3) := by decide +kernel
theorem dX6_count_19 : decode cX6_count 19 = .ok (.athrow, 1) := by decide +kernel
theorem dX6_count_20 : decode cX6_count 20 = .ok (.aload_n 0, 1) := by decide +kernel
theorem dX6_count_21 : decode cX6_count 21 = .ok (.iload_n 1, 1) := by decide +kernel
theorem dX6_count_22 : decode cX6_count 22 = .ok (.invokevirtual 250, 3) := by decide +kernel
theorem dX6_count_25 : decode cX6_count 25 = .ok (.ireturn, 1) := by decide +kernel
theorem dX6_setting_0 : decode cX6_setting 0 = .ok (.iload_n 1, 1) := by decide +kernel
theorem dX6_setting_1 : decode cX6_setting 1 = .ok (.iconst 0, 1) := by decide +kernel
theorem dX6_setting_2 : decode cX6_setting 2 = .ok (.iconst 3, 1) := by decide +kernel
theorem dX6_setting_3 : decode cX6_setting 3 = .ok (.invokestatic 30, 3) := by decide +kernel
theorem dX6_setting_6 : decode cX6_setting 6 = .ok (.ifCond .ne 13, 3) := by decide +kernel
theorem dX6_setting_9 : decode cX6_setting 9 = .ok (.new 34, 3) := by decide +kernel
theorem dX6_setting_12 : decode cX6_setting 12 = .ok (.dup, 1) := by decide +kernel
theorem dX6_setting_13 : decode cX6_setting 13 = .ok (.ldc 135, 2) := by decide +kernel
theorem dX6_setting_15 : decode cX6_setting 15 = .ok (.invokespecial 38, 3) := by decide +kernel
theorem dX6_setting_18 : decode cX6_setting 18 = .ok (.athrow, 1) := by decide +kernel
theorem dX6_setting_19 : decode cX6_setting 19 = .ok (.aload_n 0, 1) := by decide +kernel
theorem dX6_setting_20 : decode cX6_setting 20 = .ok (.getfield 10, 3) := by decide +kernel
theorem dX6_setting_23 : decode cX6_setting 23 = .ok (.iload_n 1, 1) := by decide +kernel
theorem dX6_setting_24 : decode cX6_setting 24 = .ok (.invokevirtual 145, 3) := by decide +kernel
theorem dX6_setting_27 : decode cX6_setting 27 = .ok (.ireturn, 1) := by decide +kernel
theorem dX6_saved_0 : decode cX6_saved 0 = .ok (.aload_n 0, 1) := by decide +kernel
theorem dX6_saved_1 : decode cX6_saved 1 = .ok (.invokevirtual 270, 3) := by decide +kernel
theorem dX6_saved_4 : decode cX6_saved 4 = .ok (.dreturn, 1) := by decide +kernel
theorem dX6_isWithin_0 : decode cX6_isWithin 0 = .ok (.iload_n 0, 1) := by decide +kernel
theorem dX6_isWithin_1 : decode cX6_isWithin 1 = .ok (.iload_n 1, 1) := by decide +kernel
theorem dX6_isWithin_2 : decode cX6_isWithin 2 = .ok (.if_icmp .lt 12, 3) := by decide +kernel
theorem dX6_isWithin_5 : decode cX6_isWithin 5 = .ok (.iload_n 0, 1) := by decide +kernel
theorem dX6_isWithin_6 : decode cX6_isWithin 6 = .ok (.iload_n 2, 1) := by decide +kernel
theorem dX6_isWithin_7 : decode cX6_isWithin 7 = .ok (.if_icmp .gt 7, 3) := by decide +kernel
theorem dX6_isWithin_10 : decode cX6_isWithin 10 = .ok (.iconst 1, 1) := by decide +kernel
theorem dX6_isWithin_11 : decode cX6_isWithin 11 = .ok (.goto 4, 3) := by decide +kernel
theorem dX6_isWithin_14 : decode cX6_isWithin 14 = .ok (.iconst 0, 1) := by decide +kernel
theorem dX6_isWithin_15 : decode cX6_isWithin 15 = .ok (.ireturn, 1) := by decide +kernel
theorem dX6_leastValue_0 : decode cX6_leastValue 0 = .ok (.iload_n 0, 1) := by decide +kernel
theorem dX6_leastValue_1 : decode cX6_leastValue 1 = .ok (.lookupswitch 32 #[(0, 27), (2, 30)], 27) := by decide +kernel
theorem dX6_leastValue_28 : decode cX6_leastValue 28 = .ok (.bipush 10, 2) := by decide +kernel
theorem dX6_leastValue_30 : decode cX6_leastValue 30 = .ok (.ireturn, 1) := by decide +kernel
theorem dX6_leastValue_31 : decode cX6_leastValue 31 = .ok (.iconst 0, 1) := by decide +kernel
theorem dX6_leastValue_32 : decode cX6_leastValue 32 = .ok (.ireturn, 1) := by decide +kernel
theorem dX6_leastValue_33 : decode cX6_leastValue 33 = .ok (.iconst 1, 1) := by decide +kernel
theorem dX6_leastValue_34 : decode cX6_leastValue 34 = .ok (.ireturn, 1) := by decide +kernel
theorem dX6_mostValue_0 : decode cX6_mostValue 0 = .ok (.iload_n 0, 1) := by decide +kernel
theorem dX6_mostValue_1 : decode cX6_mostValue 1 = .ok (.tableswitch 37 0 2 #[27, 31, 35], 27) := by decide +kernel
theorem dX6_mostValue_28 : decode cX6_mostValue 28 = .ok (.sipush 300, 3) := by decide +kernel
theorem dX6_mostValue_31 : decode cX6_mostValue 31 = .ok (.ireturn, 1) := by decide +kernel
theorem dX6_mostValue_32 : decode cX6_mostValue 32 = .ok (.sipush 200, 3) := by decide +kernel
theorem dX6_mostValue_35 : decode cX6_mostValue 35 = .ok (.ireturn, 1) := by decide +kernel
theorem dX6_mostValue_36 : decode cX6_mostValue 36 = .ok (.iconst 3, 1) := by decide +kernel
theorem dX6_mostValue_37 : decode cX6_mostValue 37 = .ok (.ireturn, 1) := by decide +kernel
theorem dX6_mostValue_38 : decode cX6_mostValue 38 = .ok (.bipush 30, 2) := by decide +kernel
theorem dX6_mostValue_40 : decode cX6_mostValue 40 = .ok (.ireturn, 1) := by decide +kernel
theorem dX6_remember_0 : decode cX6_remember 0 = .ok (.aload_n 0, 1) := by decide +kernel
theorem dX6_remember_1 : decode cX6_remember 1 = .ok (.getfield 212, 3) := by decide +kernel
theorem dX6_remember_4 : decode cX6_remember 4 = .ok (.aload_n 0, 1) := by decide +kernel
theorem dX6_remember_5 : decode cX6_remember 5 = .ok (.getfield 19, 3) := by decide +kernel
theorem dX6_remember_8 : decode cX6_remember 8 = .ok (.arraylength, 1) := by decide +kernel
theorem dX6_remember_9 : decode cX6_remember 9 = .ok (.if_icmp .lt 7, 3) := by decide +kernel
theorem dX6_remember_12 : decode cX6_remember 12 = .ok (.aload_n 0, 1) := by decide +kernel
theorem dX6_remember_13 : decode cX6_remember 13 = .ok (.invokevirtual 297, 3) := by decide +kernel
theorem dX6_remember_16 : decode cX6_remember 16 = .ok (.aload_n 0, 1) := by decide +kernel
theorem dX6_remember_17 : decode cX6_remember 17 = .ok (.aload_n 0, 1) := by decide +kernel
theorem dX6_remember_18 : decode cX6_remember 18 = .ok (.getfield 212, 3) := by decide +kernel
theorem dX6_remember_21 : decode cX6_remember 21 = .ok (.invokevirtual 215, 3) := by decide +kernel
theorem dX6_remember_24 : decode cX6_remember 24 = .ok (.astore_n 1, 1) := by decide +kernel
theorem dX6_remember_25 : decode cX6_remember 25 = .ok (.aload_n 1, 1) := by decide +kernel
theorem dX6_remember_26 : decode cX6_remember 26 = .ok (.ifnull 21, 3) := by decide +kernel
theorem dX6_remember_29 : decode cX6_remember 29 = .ok (.aload_n 1, 1) := by decide +kernel
theorem dX6_remember_30 : decode cX6_remember 30 = .ok (.aload_n 0, 1) := by decide +kernel
theorem dX6_remember_31 : decode cX6_remember 31 = .ok (.getfield 10, 3) := by decide +kernel
theorem dX6_remember_34 : decode cX6_remember 34 = .ok (.invokevirtual 221, 3) := by decide +kernel
theorem dX6_remember_37 : decode cX6_remember 37 = .ok (.aload_n 0, 1) := by decide +kernel
theorem dX6_remember_38 : decode cX6_remember 38 = .ok (.dup, 1) := by decide +kernel
theorem dX6_remember_39 : decode cX6_remember 39 = .ok (.getfield 212, 3) := by decide +kernel
theorem dX6_remember_42 : decode cX6_remember 42 = .ok (.iconst 1, 1) := by decide +kernel
theorem dX6_remember_43 : decode cX6_remember 43 = .ok (.iadd, 1) := by decide +kernel
theorem dX6_remember_44 : decode cX6_remember 44 = .ok (.putfield 212, 3) := by decide +kernel
theorem dX6_remember_47 : decode cX6_remember 47 = .ok (.return_, 1) := by decide +kernel
theorem dX6_dropOldest_0 : decode cX6_dropOldest 0 = .ok (.aload_n 0, 1) := by decide +kernel
theorem dX6_dropOldest_1 : decode cX6_dropOldest 1 = .ok (.iconst 0, 1) := by decide +kernel
theorem dX6_dropOldest_2 : decode cX6_dropOldest 2 = .ok (.invokevirtual 215, 3) := by decide +kernel
theorem dX6_dropOldest_5 : decode cX6_dropOldest 5 = .ok (.astore_n 1, 1) := by decide +kernel
theorem dX6_dropOldest_6 : decode cX6_dropOldest 6 = .ok (.aload_n 0, 1) := by decide +kernel
theorem dX6_dropOldest_7 : decode cX6_dropOldest 7 = .ok (.getfield 19, 3) := by decide +kernel
theorem dX6_dropOldest_10 : decode cX6_dropOldest 10 = .ok (.arraylength, 1) := by decide +kernel
theorem dX6_dropOldest_11 : decode cX6_dropOldest 11 = .ok (.iconst 1, 1) := by decide +kernel
theorem dX6_dropOldest_12 : decode cX6_dropOldest 12 = .ok (.isub, 1) := by decide +kernel
theorem dX6_dropOldest_13 : decode cX6_dropOldest 13 = .ok (.istore_n 2, 1) := by decide +kernel
theorem dX6_dropOldest_14 : decode cX6_dropOldest 14 = .ok (.iconst 0, 1) := by decide +kernel
theorem dX6_dropOldest_15 : decode cX6_dropOldest 15 = .ok (.istore_n 3, 1) := by decide +kernel
theorem dX6_dropOldest_16 : decode cX6_dropOldest 16 = .ok (.iload_n 3, 1) := by decide +kernel
theorem dX6_dropOldest_17 : decode cX6_dropOldest 17 = .ok (.iload_n 2, 1) := by decide +kernel
theorem dX6_dropOldest_18 : decode cX6_dropOldest 18 = .ok (.if_icmp .ge 23, 3) := by decide +kernel
theorem dX6_dropOldest_21 : decode cX6_dropOldest 21 = .ok (.aload_n 0, 1) := by decide +kernel
theorem dX6_dropOldest_22 : decode cX6_dropOldest 22 = .ok (.getfield 19, 3) := by decide +kernel
theorem dX6_dropOldest_25 : decode cX6_dropOldest 25 = .ok (.iload_n 3, 1) := by decide +kernel
theorem dX6_dropOldest_26 : decode cX6_dropOldest 26 = .ok (.aload_n 0, 1) := by decide +kernel
theorem dX6_dropOldest_27 : decode cX6_dropOldest 27 = .ok (.getfield 19, 3) := by decide +kernel
theorem dX6_dropOldest_30 : decode cX6_dropOldest 30 = .ok (.iload_n 3, 1) := by decide +kernel
theorem dX6_dropOldest_31 : decode cX6_dropOldest 31 = .ok (.iconst 1, 1) := by decide +kernel
theorem dX6_dropOldest_32 : decode cX6_dropOldest 32 = .ok (.iadd, 1) := by decide +kernel
theorem dX6_dropOldest_33 : decode cX6_dropOldest 33 = .ok (.aaload, 1) := by decide +kernel
theorem dX6_dropOldest_34 : decode cX6_dropOldest 34 = .ok (.aastore, 1) := by decide +kernel
theorem dX6_dropOldest_35 : decode cX6_dropOldest 35 = .ok (.iinc 3 1, 3) := by decide +kernel
theorem dX6_dropOldest_38 : decode cX6_dropOldest 38 = .ok (.goto (-22), 3) := by decide +kernel
theorem dX6_dropOldest_41 : decode cX6_dropOldest 41 = .ok (.iload_n 2, 1) := by decide +kernel
theorem dX6_dropOldest_42 : decode cX6_dropOldest 42 = .ok (.ifCond .lt 15, 3) := by decide +kernel
theorem dX6_dropOldest_45 : decode cX6_dropOldest 45 = .ok (.aload_n 0, 1) := by decide +kernel
theorem dX6_dropOldest_46 : decode cX6_dropOldest 46 = .ok (.getfield 19, 3) := by decide +kernel
theorem dX6_dropOldest_49 : decode cX6_dropOldest 49 = .ok (.iload_n 2, 1) := by decide +kernel
theorem dX6_dropOldest_50 : decode cX6_dropOldest 50 = .ok (.aload_n 1, 1) := by decide +kernel
theorem dX6_dropOldest_51 : decode cX6_dropOldest 51 = .ok (.aastore, 1) := by decide +kernel
theorem dX6_dropOldest_52 : decode cX6_dropOldest 52 = .ok (.aload_n 0, 1) := by decide +kernel
theorem dX6_dropOldest_53 : decode cX6_dropOldest 53 = .ok (.iload_n 2, 1) := by decide +kernel
theorem dX6_dropOldest_54 : decode cX6_dropOldest 54 = .ok (.putfield 212, 3) := by decide +kernel
theorem dX6_dropOldest_57 : decode cX6_dropOldest 57 = .ok (.return_, 1) := by decide +kernel
theorem dX6_pastAt_0 : decode cX6_pastAt 0 = .ok (.iload_n 1, 1) := by decide +kernel
theorem dX6_pastAt_1 : decode cX6_pastAt 1 = .ok (.ifCond .lt 21, 3) := by decide +kernel
theorem dX6_pastAt_4 : decode cX6_pastAt 4 = .ok (.iload_n 1, 1) := by decide +kernel
theorem dX6_pastAt_5 : decode cX6_pastAt 5 = .ok (.aload_n 0, 1) := by decide +kernel
theorem dX6_pastAt_6 : decode cX6_pastAt 6 = .ok (.getfield 19, 3) := by decide +kernel
theorem dX6_pastAt_9 : decode cX6_pastAt 9 = .ok (.arraylength, 1) := by decide +kernel
theorem dX6_pastAt_10 : decode cX6_pastAt 10 = .ok (.if_icmp .ge 12, 3) := by decide +kernel
theorem dX6_pastAt_13 : decode cX6_pastAt 13 = .ok (.aload_n 0, 1) := by decide +kernel
theorem dX6_pastAt_14 : decode cX6_pastAt 14 = .ok (.getfield 19, 3) := by decide +kernel
theorem dX6_pastAt_17 : decode cX6_pastAt 17 = .ok (.iload_n 1, 1) := by decide +kernel
theorem dX6_pastAt_18 : decode cX6_pastAt 18 = .ok (.aaload, 1) := by decide +kernel
theorem dX6_pastAt_19 : decode cX6_pastAt 19 = .ok (.goto 4, 3) := by decide +kernel
theorem dX6_pastAt_22 : decode cX6_pastAt 22 = .ok (.aconst_null, 1) := by decide +kernel
theorem dX6_pastAt_23 : decode cX6_pastAt 23 = .ok (.areturn, 1) := by decide +kernel
theorem dX6_numberOf_0 : decode cX6_numberOf 0 = .ok (.iload_n 1, 1) := by decide +kernel
theorem dX6_numberOf_1 : decode cX6_numberOf 1 = .ok (.tableswitch 147 0 10 #[59, 67, 75, 83, 91, 99, 107, 115, 123, 131, 139], 59) := by decide +kernel
theorem dX6_numberOf_60 : decode cX6_numberOf 60 = .ok (.aload_n 0, 1) := by decide +kernel
theorem dX6_numberOf_61 : decode cX6_numberOf 61 = .ok (.getfield 10, 3) := by decide +kernel
theorem dX6_numberOf_64 : decode cX6_numberOf 64 = .ok (.getfield 154, 3) := by decide +kernel
theorem dX6_numberOf_67 : decode cX6_numberOf 67 = .ok (.ireturn, 1) := by decide +kernel
theorem dX6_numberOf_68 : decode cX6_numberOf 68 = .ok (.aload_n 0, 1) := by decide +kernel
theorem dX6_numberOf_69 : decode cX6_numberOf 69 = .ok (.getfield 10, 3) := by decide +kernel
theorem dX6_numberOf_72 : decode cX6_numberOf 72 = .ok (.getfield 113, 3) := by decide +kernel
theorem dX6_numberOf_75 : decode cX6_numberOf 75 = .ok (.ireturn, 1) := by decide +kernel
theorem dX6_numberOf_76 : decode cX6_numberOf 76 = .ok (.aload_n 0, 1) := by decide +kernel
theorem dX6_numberOf_77 : decode cX6_numberOf 77 = .ok (.getfield 10, 3) := by decide +kernel
theorem dX6_numberOf_80 : decode cX6_numberOf 80 = .ok (.invokevirtual 300, 3) := by decide +kernel
theorem dX6_numberOf_83 : decode cX6_numberOf 83 = .ok (.ireturn, 1) := by decide +kernel
theorem dX6_numberOf_84 : decode cX6_numberOf 84 = .ok (.aload_n 0, 1) := by decide +kernel
theorem dX6_numberOf_85 : decode cX6_numberOf 85 = .ok (.getfield 10, 3) := by decide +kernel
theorem dX6_numberOf_88 : decode cX6_numberOf 88 = .ok (.invokevirtual 303, 3) := by decide +kernel
theorem dX6_numberOf_91 : decode cX6_numberOf 91 = .ok (.ireturn, 1) := by decide +kernel
theorem dX6_numberOf_92 : decode cX6_numberOf 92 = .ok (.aload_n 0, 1) := by decide +kernel
theorem dX6_numberOf_93 : decode cX6_numberOf 93 = .ok (.getfield 10, 3) := by decide +kernel
theorem dX6_numberOf_96 : decode cX6_numberOf 96 = .ok (.invokevirtual 159, 3) := by decide +kernel
theorem dX6_numberOf_99 : decode cX6_numberOf 99 = .ok (.ireturn, 1) := by decide +kernel
theorem dX6_numberOf_100 : decode cX6_numberOf 100 = .ok (.aload_n 0, 1) := by decide +kernel
theorem dX6_numberOf_101 : decode cX6_numberOf 101 = .ok (.getfield 10, 3) := by decide +kernel
theorem dX6_numberOf_104 : decode cX6_numberOf 104 = .ok (.invokevirtual 306, 3) := by decide +kernel
theorem dX6_numberOf_107 : decode cX6_numberOf 107 = .ok (.ireturn, 1) := by decide +kernel
theorem dX6_numberOf_108 : decode cX6_numberOf 108 = .ok (.aload_n 0, 1) := by decide +kernel
theorem dX6_numberOf_109 : decode cX6_numberOf 109 = .ok (.getfield 10, 3) := by decide +kernel
theorem dX6_numberOf_112 : decode cX6_numberOf 112 = .ok (.getfield 309, 3) := by decide +kernel
theorem dX6_numberOf_115 : decode cX6_numberOf 115 = .ok (.ireturn, 1) := by decide +kernel
theorem dX6_numberOf_116 : decode cX6_numberOf 116 = .ok (.aload_n 0, 1) := by decide +kernel
theorem dX6_numberOf_117 : decode cX6_numberOf 117 = .ok (.getfield 10, 3) := by decide +kernel
theorem dX6_numberOf_120 : decode cX6_numberOf 120 = .ok (.getfield 310, 3) := by decide +kernel
theorem dX6_numberOf_123 : decode cX6_numberOf 123 = .ok (.ireturn, 1) := by decide +kernel
theorem dX6_numberOf_124 : decode cX6_numberOf 124 = .ok (.aload_n 0, 1) := by decide +kernel
theorem dX6_numberOf_125 : decode cX6_numberOf 125 = .ok (.getfield 10, 3) := by decide +kernel
theorem dX6_numberOf_128 : decode cX6_numberOf 128 = .ok (.getfield 313, 3) := by decide +kernel
theorem dX6_numberOf_131 : decode cX6_numberOf 131 = .ok (.ireturn, 1) := by decide +kernel
theorem dX6_numberOf_132 : decode cX6_numberOf 132 = .ok (.aload_n 0, 1) := by decide +kernel
theorem dX6_numberOf_133 : decode cX6_numberOf 133 = .ok (.getfield 10, 3) := by decide +kernel
theorem dX6_numberOf_136 : decode cX6_numberOf 136 = .ok (.getfield 316, 3) := by decide +kernel
theorem dX6_numberOf_139 : decode cX6_numberOf 139 = .ok (.ireturn, 1) := by decide +kernel
theorem dX6_numberOf_140 : decode cX6_numberOf 140 = .ok (.aload_n 0, 1) := by decide +kernel
theorem dX6_numberOf_141 : decode cX6_numberOf 141 = .ok (.getfield 10, 3) := by decide +kernel
theorem dX6_numberOf_144 : decode cX6_numberOf 144 = .ok (.invokevirtual 97, 3) := by decide +kernel
theorem dX6_numberOf_147 : decode cX6_numberOf 147 = .ok (.ireturn, 1) := by decide +kernel
theorem dX6_numberOf_148 : decode cX6_numberOf 148 = .ok (.aload_n 0, 1) := by decide +kernel
theorem dX6_numberOf_149 : decode cX6_numberOf 149 = .ok (.getfield 212, 3) := by decide +kernel
theorem dX6_numberOf_152 : decode cX6_numberOf 152 = .ok (.ireturn, 1) := by decide +kernel
theorem dX6_shareMade_0 : decode cX6_shareMade 0 = .ok (.aload_n 0, 1) := by decide +kernel
theorem dX6_shareMade_1 : decode cX6_shareMade 1 = .ok (.getfield 10, 3) := by decide +kernel
theorem dX6_shareMade_4 : decode cX6_shareMade 4 = .ok (.invokevirtual 159, 3) := by decide +kernel
theorem dX6_shareMade_7 : decode cX6_shareMade 7 = .ok (.istore_n 1, 1) := by decide +kernel
theorem dX6_shareMade_8 : decode cX6_shareMade 8 = .ok (.iload_n 1, 1) := by decide +kernel
theorem dX6_shareMade_9 : decode cX6_shareMade 9 = .ok (.aload_n 0, 1) := by decide +kernel
theorem dX6_shareMade_10 : decode cX6_shareMade 10 = .ok (.getfield 10, 3) := by decide +kernel
theorem dX6_shareMade_13 : decode cX6_shareMade 13 = .ok (.invokevirtual 306, 3) := by decide +kernel
theorem dX6_shareMade_16 : decode cX6_shareMade 16 = .ok (.iadd, 1) := by decide +kernel
theorem dX6_shareMade_17 : decode cX6_shareMade 17 = .ok (.istore_n 2, 1) := by decide +kernel
theorem dX6_shareMade_18 : decode cX6_shareMade 18 = .ok (.iload_n 2, 1) := by decide +kernel
theorem dX6_shareMade_19 : decode cX6_shareMade 19 = .ok (.ifCond .ne 7, 3) := by decide +kernel
theorem dX6_shareMade_22 : decode cX6_shareMade 22 = .ok (.dconst 1, 1) := by decide +kernel
theorem dX6_shareMade_23 : decode cX6_shareMade 23 = .ok (.goto 8, 3) := by decide +kernel
theorem dX6_shareMade_26 : decode cX6_shareMade 26 = .ok (.iload_n 1, 1) := by decide +kernel
theorem dX6_shareMade_27 : decode cX6_shareMade 27 = .ok (.i2d, 1) := by decide +kernel
theorem dX6_shareMade_28 : decode cX6_shareMade 28 = .ok (.iload_n 2, 1) := by decide +kernel
theorem dX6_shareMade_29 : decode cX6_shareMade 29 = .ok (.i2d, 1) := by decide +kernel
theorem dX6_shareMade_30 : decode cX6_shareMade 30 = .ok (.ddiv, 1) := by decide +kernel
theorem dX6_shareMade_31 : decode cX6_shareMade 31 = .ok (.dreturn, 1) := by decide +kernel
end
section
theorem dL_cell_0 : decode cL_cell 0 = .ok (.iload_n 1, 1) := by decide +kernel
theorem dL_cell_1 : decode cL_cell 1 = .ok (.aload_n 0, 1) := by decide +kernel
theorem dL_cell_2 : decode cL_cell 2 = .ok (.arraylength, 1) := by decide +kernel
theorem dL_cell_3 : decode cL_cell 3 = .ok (.if_icmp .ge 9, 3) := by decide +kernel
theorem dL_cell_6 : decode cL_cell 6 = .ok (.aload_n 0, 1) := by decide +kernel
theorem dL_cell_7 : decode cL_cell 7 = .ok (.iload_n 1, 1) := by decide +kernel
theorem dL_cell_8 : decode cL_cell 8 = .ok (.iaload, 1) := by decide +kernel
theorem dL_cell_9 : decode cL_cell 9 = .ok (.goto 15, 3) := by decide +kernel
theorem dL_cell_12 : decode cL_cell 12 = .ok (.sipush 7919, 3) := by decide +kernel
theorem dL_cell_15 : decode cL_cell 15 = .ok (.iload_n 1, 1) := by decide +kernel
theorem dL_cell_16 : decode cL_cell 16 = .ok (.iconst 3, 1) := by decide +kernel
theorem dL_cell_17 : decode cL_cell 17 = .ok (.iadd, 1) := by decide +kernel
theorem dL_cell_18 : decode cL_cell 18 = .ok (.imul, 1) := by decide +kernel
theorem dL_cell_19 : decode cL_cell 19 = .ok (.iload_n 1, 1) := by decide +kernel
theorem dL_cell_20 : decode cL_cell 20 = .ok (.bipush 11, 2) := by decide +kernel
theorem dL_cell_22 : decode cL_cell 22 = .ok (.iadd, 1) := by decide +kernel
theorem dL_cell_23 : decode cL_cell 23 = .ok (.imul, 1) := by decide +kernel
theorem dL_cell_24 : decode cL_cell 24 = .ok (.ireturn, 1) := by decide +kernel
theorem dL_low_0 : decode cL_low 0 = .ok (.iload_n 0, 1) := by decide +kernel
theorem dL_low_1 : decode cL_low 1 = .ok (.ldc 7, 2) := by decide +kernel
theorem dL_low_3 : decode cL_low 3 = .ok (.iand, 1) := by decide +kernel
theorem dL_low_4 : decode cL_low 4 = .ok (.iload_n 1, 1) := by decide +kernel
theorem dL_low_5 : decode cL_low 5 = .ok (.irem, 1) := by decide +kernel
theorem dL_low_6 : decode cL_low 6 = .ok (.ireturn, 1) := by decide +kernel
theorem dL_told_0 : decode cL_told 0 = .ok (.ldc2_w 8, 3) := by decide +kernel
theorem dL_told_3 : decode cL_told 3 = .ok (.lstore_n 1, 1) := by decide +kernel
theorem dL_told_4 : decode cL_told 4 = .ok (.iconst 0, 1) := by decide +kernel
theorem dL_told_5 : decode cL_told 5 = .ok (.istore_n 3, 1) := by decide +kernel
theorem dL_told_6 : decode cL_told 6 = .ok (.iload_n 3, 1) := by decide +kernel
theorem dL_told_7 : decode cL_told 7 = .ok (.bipush 11, 2) := by decide +kernel
theorem dL_told_9 : decode cL_told 9 = .ok (.if_icmp .ge 22, 3) := by decide +kernel
theorem dL_told_12 : decode cL_told 12 = .ok (.ldc2_w 10, 3) := by decide +kernel
theorem dL_told_15 : decode cL_told 15 = .ok (.lload_n 1, 1) := by decide +kernel
theorem dL_told_16 : decode cL_told 16 = .ok (.lmul, 1) := by decide +kernel
theorem dL_told_17 : decode cL_told 17 = .ok (.aload_n 0, 1) := by decide +kernel
theorem dL_told_18 : decode cL_told 18 = .ok (.iload_n 3, 1) := by decide +kernel
theorem dL_told_19 : decode cL_told 19 = .ok (.invokevirtual 12, 3) := by decide +kernel
theorem dL_told_22 : decode cL_told 22 = .ok (.i2l, 1) := by decide +kernel
theorem dL_told_23 : decode cL_told 23 = .ok (.ladd, 1) := by decide +kernel
theorem dL_told_24 : decode cL_told 24 = .ok (.lstore_n 1, 1) := by decide +kernel
theorem dL_told_25 : decode cL_told 25 = .ok (.iinc 3 1, 3) := by decide +kernel
theorem dL_told_28 : decode cL_told 28 = .ok (.goto (-22), 3) := by decide +kernel
theorem dL_told_31 : decode cL_told 31 = .ok (.iconst 0, 1) := by decide +kernel
theorem dL_told_32 : decode cL_told 32 = .ok (.istore_n 3, 1) := by decide +kernel
theorem dL_told_33 : decode cL_told 33 = .ok (.iload_n 3, 1) := by decide +kernel
theorem dL_told_34 : decode cL_told 34 = .ok (.iconst 4, 1) := by decide +kernel
theorem dL_told_35 : decode cL_told 35 = .ok (.if_icmp .ge 22, 3) := by decide +kernel
theorem dL_told_38 : decode cL_told 38 = .ok (.ldc2_w 10, 3) := by decide +kernel
theorem dL_told_41 : decode cL_told 41 = .ok (.lload_n 1, 1) := by decide +kernel
theorem dL_told_42 : decode cL_told 42 = .ok (.lmul, 1) := by decide +kernel
theorem dL_told_43 : decode cL_told 43 = .ok (.aload_n 0, 1) := by decide +kernel
theorem dL_told_44 : decode cL_told 44 = .ok (.iload_n 3, 1) := by decide +kernel
theorem dL_told_45 : decode cL_told 45 = .ok (.invokevirtual 18, 3) := by decide +kernel
theorem dL_told_48 : decode cL_told 48 = .ok (.i2l, 1) := by decide +kernel
theorem dL_told_49 : decode cL_told 49 = .ok (.ladd, 1) := by decide +kernel
theorem dL_told_50 : decode cL_told 50 = .ok (.lstore_n 1, 1) := by decide +kernel
theorem dL_told_51 : decode cL_told 51 = .ok (.iinc 3 1, 3) := by decide +kernel
theorem dL_told_54 : decode cL_told 54 = .ok (.goto (-21), 3) := by decide +kernel
theorem dL_told_57 : decode cL_told 57 = .ok (.iconst 0, 1) := by decide +kernel
theorem dL_told_58 : decode cL_told 58 = .ok (.istore_n 3, 1) := by decide +kernel
theorem dL_told_59 : decode cL_told 59 = .ok (.iload_n 3, 1) := by decide +kernel
theorem dL_told_60 : decode cL_told 60 = .ok (.iconst 4, 1) := by decide +kernel
theorem dL_told_61 : decode cL_told 61 = .ok (.if_icmp .ge 40, 3) := by decide +kernel
theorem dL_told_64 : decode cL_told 64 = .ok (.iconst 0, 1) := by decide +kernel
theorem dL_told_65 : decode cL_told 65 = .ok (.istore 4, 2) := by decide +kernel
theorem dL_told_67 : decode cL_told 67 = .ok (.iload 4, 2) := by decide +kernel
theorem dL_told_69 : decode cL_told 69 = .ok (.bipush 7, 2) := by decide +kernel
theorem dL_told_71 : decode cL_told 71 = .ok (.if_icmp .ge 24, 3) := by decide +kernel
theorem dL_told_74 : decode cL_told 74 = .ok (.ldc2_w 10, 3) := by decide +kernel
theorem dL_told_77 : decode cL_told 77 = .ok (.lload_n 1, 1) := by decide +kernel
theorem dL_told_78 : decode cL_told 78 = .ok (.lmul, 1) := by decide +kernel
theorem dL_told_79 : decode cL_told 79 = .ok (.aload_n 0, 1) := by decide +kernel
theorem dL_told_80 : decode cL_told 80 = .ok (.iload_n 3, 1) := by decide +kernel
theorem dL_told_81 : decode cL_told 81 = .ok (.iload 4, 2) := by decide +kernel
theorem dL_told_83 : decode cL_told 83 = .ok (.invokevirtual 21, 3) := by decide +kernel
theorem dL_told_86 : decode cL_told 86 = .ok (.i2l, 1) := by decide +kernel
theorem dL_told_87 : decode cL_told 87 = .ok (.ladd, 1) := by decide +kernel
theorem dL_told_88 : decode cL_told 88 = .ok (.lstore_n 1, 1) := by decide +kernel
theorem dL_told_89 : decode cL_told 89 = .ok (.iinc 4 1, 3) := by decide +kernel
theorem dL_told_92 : decode cL_told 92 = .ok (.goto (-25), 3) := by decide +kernel
theorem dL_told_95 : decode cL_told 95 = .ok (.iinc 3 1, 3) := by decide +kernel
theorem dL_told_98 : decode cL_told 98 = .ok (.goto (-39), 3) := by decide +kernel
theorem dL_told_101 : decode cL_told 101 = .ok (.iconst 0, 1) := by decide +kernel
theorem dL_told_102 : decode cL_told 102 = .ok (.istore_n 3, 1) := by decide +kernel
theorem dL_told_103 : decode cL_told 103 = .ok (.iload_n 3, 1) := by decide +kernel
theorem dL_told_104 : decode cL_told 104 = .ok (.iconst 5, 1) := by decide +kernel
theorem dL_told_105 : decode cL_told 105 = .ok (.if_icmp .ge 40, 3) := by decide +kernel
theorem dL_told_108 : decode cL_told 108 = .ok (.iconst 0, 1) := by decide +kernel
theorem dL_told_109 : decode cL_told 109 = .ok (.istore 4, 2) := by decide +kernel
theorem dL_told_111 : decode cL_told 111 = .ok (.iload 4, 2) := by decide +kernel
theorem dL_told_113 : decode cL_told 113 = .ok (.bipush 6, 2) := by decide +kernel
theorem dL_told_115 : decode cL_told 115 = .ok (.if_icmp .ge 24, 3) := by decide +kernel
theorem dL_told_118 : decode cL_told 118 = .ok (.ldc2_w 10, 3) := by decide +kernel
theorem dL_told_121 : decode cL_told 121 = .ok (.lload_n 1, 1) := by decide +kernel
theorem dL_told_122 : decode cL_told 122 = .ok (.lmul, 1) := by decide +kernel
theorem dL_told_123 : decode cL_told 123 = .ok (.aload_n 0, 1) := by decide +kernel
theorem dL_told_124 : decode cL_told 124 = .ok (.iload_n 3, 1) := by decide +kernel
theorem dL_told_125 : decode cL_told 125 = .ok (.iload 4, 2) := by decide +kernel
theorem dL_told_127 : decode cL_told 127 = .ok (.invokevirtual 25, 3) := by decide +kernel
theorem dL_told_130 : decode cL_told 130 = .ok (.i2l, 1) := by decide +kernel
theorem dL_told_131 : decode cL_told 131 = .ok (.ladd, 1) := by decide +kernel
theorem dL_told_132 : decode cL_told 132 = .ok (.lstore_n 1, 1) := by decide +kernel
theorem dL_told_133 : decode cL_told 133 = .ok (.iinc 4 1, 3) := by decide +kernel
theorem dL_told_136 : decode cL_told 136 = .ok (.goto (-25), 3) := by decide +kernel
theorem dL_told_139 : decode cL_told 139 = .ok (.iinc 3 1, 3) := by decide +kernel
theorem dL_told_142 : decode cL_told 142 = .ok (.goto (-39), 3) := by decide +kernel
theorem dL_told_145 : decode cL_told 145 = .ok (.iconst 0, 1) := by decide +kernel
theorem dL_told_146 : decode cL_told 146 = .ok (.istore_n 3, 1) := by decide +kernel
theorem dL_told_147 : decode cL_told 147 = .ok (.iload_n 3, 1) := by decide +kernel
theorem dL_told_148 : decode cL_told 148 = .ok (.bipush 7, 2) := by decide +kernel
theorem dL_told_150 : decode cL_told 150 = .ok (.if_icmp .ge 39, 3) := by decide +kernel
theorem dL_told_153 : decode cL_told 153 = .ok (.iconst 0, 1) := by decide +kernel
theorem dL_told_154 : decode cL_told 154 = .ok (.istore 4, 2) := by decide +kernel
theorem dL_told_156 : decode cL_told 156 = .ok (.iload 4, 2) := by decide +kernel
theorem dL_told_158 : decode cL_told 158 = .ok (.iconst 4, 1) := by decide +kernel
theorem dL_told_159 : decode cL_told 159 = .ok (.if_icmp .ge 24, 3) := by decide +kernel
theorem dL_told_162 : decode cL_told 162 = .ok (.ldc2_w 10, 3) := by decide +kernel
theorem dL_told_165 : decode cL_told 165 = .ok (.lload_n 1, 1) := by decide +kernel
theorem dL_told_166 : decode cL_told 166 = .ok (.lmul, 1) := by decide +kernel
theorem dL_told_167 : decode cL_told 167 = .ok (.aload_n 0, 1) := by decide +kernel
theorem dL_told_168 : decode cL_told 168 = .ok (.iload_n 3, 1) := by decide +kernel
theorem dL_told_169 : decode cL_told 169 = .ok (.iload 4, 2) := by decide +kernel
theorem dL_told_171 : decode cL_told 171 = .ok (.invokevirtual 28, 3) := by decide +kernel
theorem dL_told_174 : decode cL_told 174 = .ok (.i2l, 1) := by decide +kernel
theorem dL_told_175 : decode cL_told 175 = .ok (.ladd, 1) := by decide +kernel
theorem dL_told_176 : decode cL_told 176 = .ok (.lstore_n 1, 1) := by decide +kernel
theorem dL_told_177 : decode cL_told 177 = .ok (.iinc 4 1, 3) := by decide +kernel
theorem dL_told_180 : decode cL_told 180 = .ok (.goto (-24), 3) := by decide +kernel
theorem dL_told_183 : decode cL_told 183 = .ok (.iinc 3 1, 3) := by decide +kernel
theorem dL_told_186 : decode cL_told 186 = .ok (.goto (-39), 3) := by decide +kernel
theorem dL_told_189 : decode cL_told 189 = .ok (.iconst 0, 1) := by decide +kernel
theorem dL_told_190 : decode cL_told 190 = .ok (.istore_n 3, 1) := by decide +kernel
theorem dL_told_191 : decode cL_told 191 = .ok (.iload_n 3, 1) := by decide +kernel
theorem dL_told_192 : decode cL_told 192 = .ok (.aload_n 0, 1) := by decide +kernel
theorem dL_told_193 : decode cL_told 193 = .ok (.iconst 1, 1) := by decide +kernel
theorem dL_told_194 : decode cL_told 194 = .ok (.invokevirtual 12, 3) := by decide +kernel
theorem dL_told_197 : decode cL_told 197 = .ok (.if_icmp .ge 40, 3) := by decide +kernel
theorem dL_told_200 : decode cL_told 200 = .ok (.iconst 0, 1) := by decide +kernel
theorem dL_told_201 : decode cL_told 201 = .ok (.istore 4, 2) := by decide +kernel
theorem dL_told_203 : decode cL_told 203 = .ok (.iload 4, 2) := by decide +kernel
theorem dL_told_205 : decode cL_told 205 = .ok (.bipush 8, 2) := by decide +kernel
theorem dL_told_207 : decode cL_told 207 = .ok (.if_icmp .ge 24, 3) := by decide +kernel
theorem dL_told_210 : decode cL_told 210 = .ok (.ldc2_w 10, 3) := by decide +kernel
theorem dL_told_213 : decode cL_told 213 = .ok (.lload_n 1, 1) := by decide +kernel
theorem dL_told_214 : decode cL_told 214 = .ok (.lmul, 1) := by decide +kernel
theorem dL_told_215 : decode cL_told 215 = .ok (.aload_n 0, 1) := by decide +kernel
theorem dL_told_216 : decode cL_told 216 = .ok (.iload_n 3, 1) := by decide +kernel
theorem dL_told_217 : decode cL_told 217 = .ok (.iload 4, 2) := by decide +kernel
theorem dL_told_219 : decode cL_told 219 = .ok (.invokevirtual 31, 3) := by decide +kernel
theorem dL_told_222 : decode cL_told 222 = .ok (.i2l, 1) := by decide +kernel
theorem dL_told_223 : decode cL_told 223 = .ok (.ladd, 1) := by decide +kernel
theorem dL_told_224 : decode cL_told 224 = .ok (.lstore_n 1, 1) := by decide +kernel
theorem dL_told_225 : decode cL_told 225 = .ok (.iinc 4 1, 3) := by decide +kernel
theorem dL_told_228 : decode cL_told 228 = .ok (.goto (-25), 3) := by decide +kernel
theorem dL_told_231 : decode cL_told 231 = .ok (.iinc 3 1, 3) := by decide +kernel
theorem dL_told_234 : decode cL_told 234 = .ok (.goto (-43), 3) := by decide +kernel
theorem dL_told_237 : decode cL_told 237 = .ok (.lload_n 1, 1) := by decide +kernel
theorem dL_told_238 : decode cL_told 238 = .ok (.lreturn, 1) := by decide +kernel
theorem dL_acts_0 : decode cL_acts 0 = .ok (.iload_n 1, 1) := by decide +kernel
theorem dL_acts_1 : decode cL_acts 1 = .ok (.iconst 4, 1) := by decide +kernel
theorem dL_acts_2 : decode cL_acts 2 = .ok (.ishr, 1) := by decide +kernel
theorem dL_acts_3 : decode cL_acts 3 = .ok (.iconst 3, 1) := by decide +kernel
theorem dL_acts_4 : decode cL_acts 4 = .ok (.iand, 1) := by decide +kernel
theorem dL_acts_5 : decode cL_acts 5 = .ok (.istore_n 3, 1) := by decide +kernel
theorem dL_acts_6 : decode cL_acts 6 = .ok (.iload_n 1, 1) := by decide +kernel
theorem dL_acts_7 : decode cL_acts 7 = .ok (.bipush 6, 2) := by decide +kernel
theorem dL_acts_9 : decode cL_acts 9 = .ok (.ishr, 1) := by decide +kernel
theorem dL_acts_10 : decode cL_acts 10 = .ok (.iconst 5, 1) := by decide +kernel
theorem dL_acts_11 : decode cL_acts 11 = .ok (.invokestatic 34, 3) := by decide +kernel
theorem dL_acts_14 : decode cL_acts 14 = .ok (.istore 4, 2) := by decide +kernel
theorem dL_acts_16 : decode cL_acts 16 = .ok (.aload_n 0, 1) := by decide +kernel
theorem dL_acts_17 : decode cL_acts 17 = .ok (.iconst 1, 1) := by decide +kernel
theorem dL_acts_18 : decode cL_acts 18 = .ok (.invokevirtual 12, 3) := by decide +kernel
theorem dL_acts_21 : decode cL_acts 21 = .ok (.istore 5, 2) := by decide +kernel
theorem dL_acts_23 : decode cL_acts 23 = .ok (.iload 5, 2) := by decide +kernel
theorem dL_acts_25 : decode cL_acts 25 = .ok (.ifCond .ne 7, 3) := by decide +kernel
theorem dL_acts_28 : decode cL_acts 28 = .ok (.iconst (-1), 1) := by decide +kernel
theorem dL_acts_29 : decode cL_acts 29 = .ok (.goto 17, 3) := by decide +kernel
theorem dL_acts_32 : decode cL_acts 32 = .ok (.aload_n 0, 1) := by decide +kernel
theorem dL_acts_33 : decode cL_acts 33 = .ok (.iload_n 1, 1) := by decide +kernel
theorem dL_acts_34 : decode cL_acts 34 = .ok (.bipush 9, 2) := by decide +kernel
theorem dL_acts_36 : decode cL_acts 36 = .ok (.ishr, 1) := by decide +kernel
theorem dL_acts_37 : decode cL_acts 37 = .ok (.iload 5, 2) := by decide +kernel
theorem dL_acts_39 : decode cL_acts 39 = .ok (.invokestatic 34, 3) := by decide +kernel
theorem dL_acts_42 : decode cL_acts 42 = .ok (.iconst 0, 1) := by decide +kernel
theorem dL_acts_43 : decode cL_acts 43 = .ok (.invokevirtual 31, 3) := by decide +kernel
theorem dL_acts_46 : decode cL_acts 46 = .ok (.istore 6, 2) := by decide +kernel
theorem dL_acts_48 : decode cL_acts 48 = .ok (.iload_n 1, 1) := by decide +kernel
theorem dL_acts_49 : decode cL_acts 49 = .ok (.bipush 15, 2) := by decide +kernel
theorem dL_acts_51 : decode cL_acts 51 = .ok (.iand, 1) := by decide +kernel
theorem dL_acts_52 : decode cL_acts 52 = .ok (.tableswitch 373 0 10 #[60, 60, 103, 142, 182, 202, 280, 296, 323, 323, 323], 60) := by decide +kernel
theorem dL_acts_112 : decode cL_acts 112 = .ok (.iconst 1, 1) := by decide +kernel
theorem dL_acts_113 : decode cL_acts 113 = .ok (.iload_n 2, 1) := by decide +kernel
theorem dL_acts_114 : decode cL_acts 114 = .ok (.bipush 40, 2) := by decide +kernel
theorem dL_acts_116 : decode cL_acts 116 = .ok (.invokestatic 34, 3) := by decide +kernel
theorem dL_acts_119 : decode cL_acts 119 = .ok (.iadd, 1) := by decide +kernel
theorem dL_acts_120 : decode cL_acts 120 = .ok (.istore 7, 2) := by decide +kernel
theorem dL_acts_122 : decode cL_acts 122 = .ok (.aload_n 0, 1) := by decide +kernel
theorem dL_acts_123 : decode cL_acts 123 = .ok (.iload_n 3, 1) := by decide +kernel
theorem dL_acts_124 : decode cL_acts 124 = .ok (.iconst 0, 1) := by decide +kernel
theorem dL_acts_125 : decode cL_acts 125 = .ok (.invokevirtual 21, 3) := by decide +kernel
theorem dL_acts_128 : decode cL_acts 128 = .ok (.iload 7, 2) := by decide +kernel
theorem dL_acts_130 : decode cL_acts 130 = .ok (.iadd, 1) := by decide +kernel
theorem dL_acts_131 : decode cL_acts 131 = .ok (.sipush 200, 3) := by decide +kernel
theorem dL_acts_134 : decode cL_acts 134 = .ok (.if_icmp .le 5, 3) := by decide +kernel
theorem dL_acts_137 : decode cL_acts 137 = .ok (.iconst (-1), 1) := by decide +kernel
theorem dL_acts_138 : decode cL_acts 138 = .ok (.ireturn, 1) := by decide +kernel
theorem dL_acts_139 : decode cL_acts 139 = .ok (.aload_n 0, 1) := by decide +kernel
theorem dL_acts_140 : decode cL_acts 140 = .ok (.iload_n 3, 1) := by decide +kernel
theorem dL_acts_141 : decode cL_acts 141 = .ok (.iload 7, 2) := by decide +kernel
theorem dL_acts_143 : decode cL_acts 143 = .ok (.invokevirtual 39, 3) := by decide +kernel
theorem dL_acts_146 : decode cL_acts 146 = .ok (.pop, 1) := by decide +kernel
theorem dL_acts_147 : decode cL_acts 147 = .ok (.bipush 100, 2) := by decide +kernel
theorem dL_acts_149 : decode cL_acts 149 = .ok (.iload_n 3, 1) := by decide +kernel
theorem dL_acts_150 : decode cL_acts 150 = .ok (.imul, 1) := by decide +kernel
theorem dL_acts_151 : decode cL_acts 151 = .ok (.iload 7, 2) := by decide +kernel
theorem dL_acts_153 : decode cL_acts 153 = .ok (.iadd, 1) := by decide +kernel
theorem dL_acts_154 : decode cL_acts 154 = .ok (.ireturn, 1) := by decide +kernel
theorem dL_acts_155 : decode cL_acts 155 = .ok (.sipush 600, 3) := by decide +kernel
theorem dL_acts_158 : decode cL_acts 158 = .ok (.iload_n 2, 1) := by decide +kernel
theorem dL_acts_159 : decode cL_acts 159 = .ok (.sipush 641, 3) := by decide +kernel
theorem dL_acts_162 : decode cL_acts 162 = .ok (.invokestatic 34, 3) := by decide +kernel
theorem dL_acts_165 : decode cL_acts 165 = .ok (.iadd, 1) := by decide +kernel
theorem dL_acts_166 : decode cL_acts 166 = .ok (.istore 8, 2) := by decide +kernel
theorem dL_acts_168 : decode cL_acts 168 = .ok (.aload_n 0, 1) := by decide +kernel
theorem dL_acts_169 : decode cL_acts 169 = .ok (.iload_n 3, 1) := by decide +kernel
theorem dL_acts_170 : decode cL_acts 170 = .ok (.iload 8, 2) := by decide +kernel
theorem dL_acts_172 : decode cL_acts 172 = .ok (.iload 8, 2) := by decide +kernel
theorem dL_acts_174 : decode cL_acts 174 = .ok (.iload_n 2, 1) := by decide +kernel
theorem dL_acts_175 : decode cL_acts 175 = .ok (.bipush 10, 2) := by decide +kernel
theorem dL_acts_177 : decode cL_acts 177 = .ok (.ishr, 1) := by decide +kernel
theorem dL_acts_178 : decode cL_acts 178 = .ok (.sipush 1241, 3) := by decide +kernel
theorem dL_acts_181 : decode cL_acts 181 = .ok (.iload 8, 2) := by decide +kernel
theorem dL_acts_183 : decode cL_acts 183 = .ok (.isub, 1) := by decide +kernel
theorem dL_acts_184 : decode cL_acts 184 = .ok (.invokestatic 34, 3) := by decide +kernel
theorem dL_acts_187 : decode cL_acts 187 = .ok (.iadd, 1) := by decide +kernel
theorem dL_acts_188 : decode cL_acts 188 = .ok (.invokevirtual 42, 3) := by decide +kernel
theorem dL_acts_191 : decode cL_acts 191 = .ok (.pop, 1) := by decide +kernel
theorem dL_acts_192 : decode cL_acts 192 = .ok (.iconst 0, 1) := by decide +kernel
theorem dL_acts_193 : decode cL_acts 193 = .ok (.ireturn, 1) := by decide +kernel
theorem dL_acts_194 : decode cL_acts 194 = .ok (.aload_n 0, 1) := by decide +kernel
theorem dL_acts_195 : decode cL_acts 195 = .ok (.iload 4, 2) := by decide +kernel
theorem dL_acts_197 : decode cL_acts 197 = .ok (.iconst 3, 1) := by decide +kernel
theorem dL_acts_198 : decode cL_acts 198 = .ok (.invokevirtual 25, 3) := by decide +kernel
theorem dL_acts_201 : decode cL_acts 201 = .ok (.ifCond .le 5, 3) := by decide +kernel
theorem dL_acts_204 : decode cL_acts 204 = .ok (.iconst (-1), 1) := by decide +kernel
theorem dL_acts_205 : decode cL_acts 205 = .ok (.ireturn, 1) := by decide +kernel
theorem dL_acts_206 : decode cL_acts 206 = .ok (.aload_n 0, 1) := by decide +kernel
theorem dL_acts_207 : decode cL_acts 207 = .ok (.iload 4, 2) := by decide +kernel
theorem dL_acts_209 : decode cL_acts 209 = .ok (.iconst 1, 1) := by decide +kernel
theorem dL_acts_210 : decode cL_acts 210 = .ok (.iload_n 2, 1) := by decide +kernel
theorem dL_acts_211 : decode cL_acts 211 = .ok (.bipush 9, 2) := by decide +kernel
theorem dL_acts_213 : decode cL_acts 213 = .ok (.invokestatic 34, 3) := by decide +kernel
theorem dL_acts_216 : decode cL_acts 216 = .ok (.iadd, 1) := by decide +kernel
theorem dL_acts_217 : decode cL_acts 217 = .ok (.bipush 10, 2) := by decide +kernel
theorem dL_acts_219 : decode cL_acts 219 = .ok (.iload_n 2, 1) := by decide +kernel
theorem dL_acts_220 : decode cL_acts 220 = .ok (.iconst 4, 1) := by decide +kernel
theorem dL_acts_221 : decode cL_acts 221 = .ok (.ishr, 1) := by decide +kernel
theorem dL_acts_222 : decode cL_acts 222 = .ok (.bipush 40, 2) := by decide +kernel
theorem dL_acts_224 : decode cL_acts 224 = .ok (.invokestatic 34, 3) := by decide +kernel
theorem dL_acts_227 : decode cL_acts 227 = .ok (.iadd, 1) := by decide +kernel
theorem dL_acts_228 : decode cL_acts 228 = .ok (.invokevirtual 46, 3) := by decide +kernel
theorem dL_acts_231 : decode cL_acts 231 = .ok (.pop, 1) := by decide +kernel
theorem dL_acts_232 : decode cL_acts 232 = .ok (.iconst 0, 1) := by decide +kernel
theorem dL_acts_233 : decode cL_acts 233 = .ok (.ireturn, 1) := by decide +kernel
theorem dL_acts_234 : decode cL_acts 234 = .ok (.aload_n 0, 1) := by decide +kernel
theorem dL_acts_235 : decode cL_acts 235 = .ok (.bipush 10, 2) := by decide +kernel
theorem dL_acts_237 : decode cL_acts 237 = .ok (.invokevirtual 12, 3) := by decide +kernel
theorem dL_acts_240 : decode cL_acts 240 = .ok (.ifCond .lt 5, 3) := by decide +kernel
theorem dL_acts_243 : decode cL_acts 243 = .ok (.iconst (-1), 1) := by decide +kernel
theorem dL_acts_244 : decode cL_acts 244 = .ok (.ireturn, 1) := by decide +kernel
theorem dL_acts_245 : decode cL_acts 245 = .ok (.aload_n 0, 1) := by decide +kernel
theorem dL_acts_246 : decode cL_acts 246 = .ok (.iload 4, 2) := by decide +kernel
theorem dL_acts_248 : decode cL_acts 248 = .ok (.invokevirtual 49, 3) := by decide +kernel
theorem dL_acts_251 : decode cL_acts 251 = .ok (.pop, 1) := by decide +kernel
theorem dL_acts_252 : decode cL_acts 252 = .ok (.iconst 0, 1) := by decide +kernel
theorem dL_acts_253 : decode cL_acts 253 = .ok (.ireturn, 1) := by decide +kernel
theorem dL_acts_254 : decode cL_acts 254 = .ok (.iload_n 2, 1) := by decide +kernel
theorem dL_acts_255 : decode cL_acts 255 = .ok (.iconst 3, 1) := by decide +kernel
theorem dL_acts_256 : decode cL_acts 256 = .ok (.iand, 1) := by decide +kernel
theorem dL_acts_257 : decode cL_acts 257 = .ok (.istore 9, 2) := by decide +kernel
theorem dL_acts_259 : decode cL_acts 259 = .ok (.aload_n 0, 1) := by decide +kernel
theorem dL_acts_260 : decode cL_acts 260 = .ok (.iload 9, 2) := by decide +kernel
theorem dL_acts_262 : decode cL_acts 262 = .ok (.iload 9, 2) := by decide +kernel
theorem dL_acts_264 : decode cL_acts 264 = .ok (.ifCond .ne 18, 3) := by decide +kernel
theorem dL_acts_267 : decode cL_acts 267 = .ok (.bipush 10, 2) := by decide +kernel
theorem dL_acts_269 : decode cL_acts 269 = .ok (.iload_n 2, 1) := by decide +kernel
theorem dL_acts_270 : decode cL_acts 270 = .ok (.iconst 2, 1) := by decide +kernel
theorem dL_acts_271 : decode cL_acts 271 = .ok (.ishr, 1) := by decide +kernel
theorem dL_acts_272 : decode cL_acts 272 = .ok (.sipush 291, 3) := by decide +kernel
theorem dL_acts_275 : decode cL_acts 275 = .ok (.invokestatic 34, 3) := by decide +kernel
theorem dL_acts_278 : decode cL_acts 278 = .ok (.iadd, 1) := by decide +kernel
theorem dL_acts_279 : decode cL_acts 279 = .ok (.goto 47, 3) := by decide +kernel
theorem dL_acts_282 : decode cL_acts 282 = .ok (.iload 9, 2) := by decide +kernel
theorem dL_acts_284 : decode cL_acts 284 = .ok (.iconst 1, 1) := by decide +kernel
theorem dL_acts_285 : decode cL_acts 285 = .ok (.if_icmp .ne 17, 3) := by decide +kernel
theorem dL_acts_288 : decode cL_acts 288 = .ok (.iconst 1, 1) := by decide +kernel
theorem dL_acts_289 : decode cL_acts 289 = .ok (.iload_n 2, 1) := by decide +kernel
theorem dL_acts_290 : decode cL_acts 290 = .ok (.iconst 2, 1) := by decide +kernel
theorem dL_acts_291 : decode cL_acts 291 = .ok (.ishr, 1) := by decide +kernel
theorem dL_acts_292 : decode cL_acts 292 = .ok (.sipush 200, 3) := by decide +kernel
theorem dL_acts_295 : decode cL_acts 295 = .ok (.invokestatic 34, 3) := by decide +kernel
theorem dL_acts_298 : decode cL_acts 298 = .ok (.iadd, 1) := by decide +kernel
theorem dL_acts_299 : decode cL_acts 299 = .ok (.goto 27, 3) := by decide +kernel
theorem dL_acts_302 : decode cL_acts 302 = .ok (.iload 9, 2) := by decide +kernel
theorem dL_acts_304 : decode cL_acts 304 = .ok (.iconst 2, 1) := by decide +kernel
theorem dL_acts_305 : decode cL_acts 305 = .ok (.if_icmp .ne 11, 3) := by decide +kernel
theorem dL_acts_308 : decode cL_acts 308 = .ok (.iload_n 2, 1) := by decide +kernel
theorem dL_acts_309 : decode cL_acts 309 = .ok (.iconst 2, 1) := by decide +kernel
theorem dL_acts_310 : decode cL_acts 310 = .ok (.ishr, 1) := by decide +kernel
theorem dL_acts_311 : decode cL_acts 311 = .ok (.iconst 3, 1) := by decide +kernel
theorem dL_acts_312 : decode cL_acts 312 = .ok (.iand, 1) := by decide +kernel
theorem dL_acts_313 : decode cL_acts 313 = .ok (.goto 13, 3) := by decide +kernel
theorem dL_acts_316 : decode cL_acts 316 = .ok (.iconst 1, 1) := by decide +kernel
theorem dL_acts_317 : decode cL_acts 317 = .ok (.iload_n 2, 1) := by decide +kernel
theorem dL_acts_318 : decode cL_acts 318 = .ok (.iconst 2, 1) := by decide +kernel
theorem dL_acts_319 : decode cL_acts 319 = .ok (.ishr, 1) := by decide +kernel
theorem dL_acts_320 : decode cL_acts 320 = .ok (.bipush 30, 2) := by decide +kernel
theorem dL_acts_322 : decode cL_acts 322 = .ok (.invokestatic 34, 3) := by decide +kernel
theorem dL_acts_325 : decode cL_acts 325 = .ok (.iadd, 1) := by decide +kernel
theorem dL_acts_326 : decode cL_acts 326 = .ok (.invokevirtual 52, 3) := by decide +kernel
theorem dL_acts_329 : decode cL_acts 329 = .ok (.pop, 1) := by decide +kernel
theorem dL_acts_330 : decode cL_acts 330 = .ok (.iconst 0, 1) := by decide +kernel
theorem dL_acts_331 : decode cL_acts 331 = .ok (.ireturn, 1) := by decide +kernel
theorem dL_acts_332 : decode cL_acts 332 = .ok (.iload 5, 2) := by decide +kernel
theorem dL_acts_334 : decode cL_acts 334 = .ok (.ifCond .ne 5, 3) := by decide +kernel
theorem dL_acts_337 : decode cL_acts 337 = .ok (.iconst (-1), 1) := by decide +kernel
theorem dL_acts_338 : decode cL_acts 338 = .ok (.ireturn, 1) := by decide +kernel
theorem dL_acts_339 : decode cL_acts 339 = .ok (.aload_n 0, 1) := by decide +kernel
theorem dL_acts_340 : decode cL_acts 340 = .ok (.iload 6, 2) := by decide +kernel
theorem dL_acts_342 : decode cL_acts 342 = .ok (.invokevirtual 55, 3) := by decide +kernel
theorem dL_acts_345 : decode cL_acts 345 = .ok (.pop, 1) := by decide +kernel
theorem dL_acts_346 : decode cL_acts 346 = .ok (.iconst 0, 1) := by decide +kernel
theorem dL_acts_347 : decode cL_acts 347 = .ok (.ireturn, 1) := by decide +kernel
theorem dL_acts_348 : decode cL_acts 348 = .ok (.iload 5, 2) := by decide +kernel
theorem dL_acts_350 : decode cL_acts 350 = .ok (.ifCond .ne 5, 3) := by decide +kernel
theorem dL_acts_353 : decode cL_acts 353 = .ok (.iconst (-1), 1) := by decide +kernel
theorem dL_acts_354 : decode cL_acts 354 = .ok (.ireturn, 1) := by decide +kernel
theorem dL_acts_355 : decode cL_acts 355 = .ok (.aload_n 0, 1) := by decide +kernel
theorem dL_acts_356 : decode cL_acts 356 = .ok (.iload 6, 2) := by decide +kernel
theorem dL_acts_358 : decode cL_acts 358 = .ok (.iload_n 2, 1) := by decide +kernel
theorem dL_acts_359 : decode cL_acts 359 = .ok (.iconst 1, 1) := by decide +kernel
theorem dL_acts_360 : decode cL_acts 360 = .ok (.iand, 1) := by decide +kernel
theorem dL_acts_361 : decode cL_acts 361 = .ok (.ifCond .ne 7, 3) := by decide +kernel
theorem dL_acts_364 : decode cL_acts 364 = .ok (.iconst 1, 1) := by decide +kernel
theorem dL_acts_365 : decode cL_acts 365 = .ok (.goto 4, 3) := by decide +kernel
theorem dL_acts_368 : decode cL_acts 368 = .ok (.iconst 0, 1) := by decide +kernel
theorem dL_acts_369 : decode cL_acts 369 = .ok (.invokevirtual 58, 3) := by decide +kernel
theorem dL_acts_372 : decode cL_acts 372 = .ok (.pop, 1) := by decide +kernel
theorem dL_acts_373 : decode cL_acts 373 = .ok (.iconst 0, 1) := by decide +kernel
theorem dL_acts_374 : decode cL_acts 374 = .ok (.ireturn, 1) := by decide +kernel
theorem dL_acts_375 : decode cL_acts 375 = .ok (.iload 5, 2) := by decide +kernel
theorem dL_acts_377 : decode cL_acts 377 = .ok (.bipush 10, 2) := by decide +kernel
theorem dL_acts_379 : decode cL_acts 379 = .ok (.if_icmp .ne 5, 3) := by decide +kernel
theorem dL_acts_382 : decode cL_acts 382 = .ok (.iconst (-1), 1) := by decide +kernel
theorem dL_acts_383 : decode cL_acts 383 = .ok (.ireturn, 1) := by decide +kernel
theorem dL_acts_384 : decode cL_acts 384 = .ok (.aload_n 0, 1) := by decide +kernel
theorem dL_acts_385 : decode cL_acts 385 = .ok (.iload 4, 2) := by decide +kernel
theorem dL_acts_387 : decode cL_acts 387 = .ok (.iload_n 3, 1) := by decide +kernel
theorem dL_acts_388 : decode cL_acts 388 = .ok (.iconst 1, 1) := by decide +kernel
theorem dL_acts_389 : decode cL_acts 389 = .ok (.iload_n 2, 1) := by decide +kernel
theorem dL_acts_390 : decode cL_acts 390 = .ok (.bipush 6, 2) := by decide +kernel
theorem dL_acts_392 : decode cL_acts 392 = .ok (.invokestatic 34, 3) := by decide +kernel
theorem dL_acts_395 : decode cL_acts 395 = .ok (.iadd, 1) := by decide +kernel
theorem dL_acts_396 : decode cL_acts 396 = .ok (.iload_n 2, 1) := by decide +kernel
theorem dL_acts_397 : decode cL_acts 397 = .ok (.iconst 3, 1) := by decide +kernel
theorem dL_acts_398 : decode cL_acts 398 = .ok (.ishr, 1) := by decide +kernel
theorem dL_acts_399 : decode cL_acts 399 = .ok (.sipush 400, 3) := by decide +kernel
theorem dL_acts_402 : decode cL_acts 402 = .ok (.invokestatic 34, 3) := by decide +kernel
theorem dL_acts_405 : decode cL_acts 405 = .ok (.iload_n 2, 1) := by decide +kernel
theorem dL_acts_406 : decode cL_acts 406 = .ok (.bipush 12, 2) := by decide +kernel
theorem dL_acts_408 : decode cL_acts 408 = .ok (.ishr, 1) := by decide +kernel
theorem dL_acts_409 : decode cL_acts 409 = .ok (.iconst 3, 1) := by decide +kernel
theorem dL_acts_410 : decode cL_acts 410 = .ok (.iand, 1) := by decide +kernel
theorem dL_acts_411 : decode cL_acts 411 = .ok (.ifCond .ne 7, 3) := by decide +kernel
theorem dL_acts_414 : decode cL_acts 414 = .ok (.iconst 1, 1) := by decide +kernel
theorem dL_acts_415 : decode cL_acts 415 = .ok (.goto 4, 3) := by decide +kernel
theorem dL_acts_418 : decode cL_acts 418 = .ok (.iconst 0, 1) := by decide +kernel
theorem dL_acts_419 : decode cL_acts 419 = .ok (.invokevirtual 62, 3) := by decide +kernel
theorem dL_acts_422 : decode cL_acts 422 = .ok (.pop, 1) := by decide +kernel
theorem dL_acts_423 : decode cL_acts 423 = .ok (.iconst 0, 1) := by decide +kernel
theorem dL_acts_424 : decode cL_acts 424 = .ok (.ireturn, 1) := by decide +kernel
theorem dL_acts_425 : decode cL_acts 425 = .ok (.aload_n 0, 1) := by decide +kernel
theorem dL_acts_426 : decode cL_acts 426 = .ok (.iconst 1, 1) := by decide +kernel
theorem dL_acts_427 : decode cL_acts 427 = .ok (.iload_n 2, 1) := by decide +kernel
theorem dL_acts_428 : decode cL_acts 428 = .ok (.iload_n 2, 1) := by decide +kernel
theorem dL_acts_429 : decode cL_acts 429 = .ok (.bipush 7, 2) := by decide +kernel
theorem dL_acts_431 : decode cL_acts 431 = .ok (.ishr, 1) := by decide +kernel
theorem dL_acts_432 : decode cL_acts 432 = .ok (.iconst 3, 1) := by decide +kernel
theorem dL_acts_433 : decode cL_acts 433 = .ok (.iand, 1) := by decide +kernel
theorem dL_acts_434 : decode cL_acts 434 = .ok (.ifCond .ne 8, 3) := by decide +kernel
theorem dL_acts_437 : decode cL_acts 437 = .ok (.bipush 60, 2) := by decide +kernel
theorem dL_acts_439 : decode cL_acts 439 = .ok (.goto 5, 3) := by decide +kernel
theorem dL_acts_442 : decode cL_acts 442 = .ok (.bipush 6, 2) := by decide +kernel
theorem dL_acts_444 : decode cL_acts 444 = .ok (.invokestatic 34, 3) := by decide +kernel
theorem dL_acts_447 : decode cL_acts 447 = .ok (.iadd, 1) := by decide +kernel
theorem dL_acts_448 : decode cL_acts 448 = .ok (.invokevirtual 66, 3) := by decide +kernel
theorem dL_acts_451 : decode cL_acts 451 = .ok (.pop, 1) := by decide +kernel
theorem dL_acts_452 : decode cL_acts 452 = .ok (.iconst 0, 1) := by decide +kernel
theorem dL_acts_453 : decode cL_acts 453 = .ok (.ireturn, 1) := by decide +kernel
theorem dL_holds_0 : decode cL_holds 0 = .ok (.iconst 0, 1) := by decide +kernel
theorem dL_holds_1 : decode cL_holds 1 = .ok (.istore_n 2, 1) := by decide +kernel
theorem dL_holds_2 : decode cL_holds 2 = .ok (.iconst 0, 1) := by decide +kernel
theorem dL_holds_3 : decode cL_holds 3 = .ok (.istore_n 3, 1) := by decide +kernel
theorem dL_holds_4 : decode cL_holds 4 = .ok (.iconst 0, 1) := by decide +kernel
theorem dL_holds_5 : decode cL_holds 5 = .ok (.istore 4, 2) := by decide +kernel
theorem dL_holds_7 : decode cL_holds 7 = .ok (.iconst 0, 1) := by decide +kernel
theorem dL_holds_8 : decode cL_holds 8 = .ok (.istore 5, 2) := by decide +kernel
theorem dL_holds_10 : decode cL_holds 10 = .ok (.iload 5, 2) := by decide +kernel
theorem dL_holds_12 : decode cL_holds 12 = .ok (.iconst 4, 1) := by decide +kernel
theorem dL_holds_13 : decode cL_holds 13 = .ok (.if_icmp .ge 80, 3) := by decide +kernel
theorem dL_holds_16 : decode cL_holds 16 = .ok (.aload_n 0, 1) := by decide +kernel
theorem dL_holds_17 : decode cL_holds 17 = .ok (.iload 5, 2) := by decide +kernel
theorem dL_holds_19 : decode cL_holds 19 = .ok (.iconst 0, 1) := by decide +kernel
theorem dL_holds_20 : decode cL_holds 20 = .ok (.invokevirtual 21, 3) := by decide +kernel
theorem dL_holds_23 : decode cL_holds 23 = .ok (.aload_n 0, 1) := by decide +kernel
theorem dL_holds_24 : decode cL_holds 24 = .ok (.iload 5, 2) := by decide +kernel
theorem dL_holds_26 : decode cL_holds 26 = .ok (.iconst 3, 1) := by decide +kernel
theorem dL_holds_27 : decode cL_holds 27 = .ok (.invokevirtual 21, 3) := by decide +kernel
theorem dL_holds_30 : decode cL_holds 30 = .ok (.iadd, 1) := by decide +kernel
theorem dL_holds_31 : decode cL_holds 31 = .ok (.aload_n 0, 1) := by decide +kernel
theorem dL_holds_32 : decode cL_holds 32 = .ok (.iload 5, 2) := by decide +kernel
theorem dL_holds_34 : decode cL_holds 34 = .ok (.iconst 4, 1) := by decide +kernel
theorem dL_holds_35 : decode cL_holds 35 = .ok (.invokevirtual 21, 3) := by decide +kernel
theorem dL_holds_38 : decode cL_holds 38 = .ok (.iadd, 1) := by decide +kernel
theorem dL_holds_39 : decode cL_holds 39 = .ok (.aload_n 0, 1) := by decide +kernel
theorem dL_holds_40 : decode cL_holds 40 = .ok (.iload 5, 2) := by decide +kernel
theorem dL_holds_42 : decode cL_holds 42 = .ok (.iconst 5, 1) := by decide +kernel
theorem dL_holds_43 : decode cL_holds 43 = .ok (.invokevirtual 21, 3) := by decide +kernel
theorem dL_holds_46 : decode cL_holds 46 = .ok (.iadd, 1) := by decide +kernel
theorem dL_holds_47 : decode cL_holds 47 = .ok (.aload_n 1, 1) := by decide +kernel
theorem dL_holds_48 : decode cL_holds 48 = .ok (.iload 5, 2) := by decide +kernel
theorem dL_holds_50 : decode cL_holds 50 = .ok (.iaload, 1) := by decide +kernel
theorem dL_holds_51 : decode cL_holds 51 = .ok (.if_icmp .ne 14, 3) := by decide +kernel
theorem dL_holds_54 : decode cL_holds 54 = .ok (.aload_n 0, 1) := by decide +kernel
theorem dL_holds_55 : decode cL_holds 55 = .ok (.iload 5, 2) := by decide +kernel
theorem dL_holds_57 : decode cL_holds 57 = .ok (.bipush 6, 2) := by decide +kernel
theorem dL_holds_59 : decode cL_holds 59 = .ok (.invokevirtual 21, 3) := by decide +kernel
theorem dL_holds_62 : decode cL_holds 62 = .ok (.ifCond .ge 5, 3) := by decide +kernel
theorem dL_holds_65 : decode cL_holds 65 = .ok (.iconst 0, 1) := by decide +kernel
theorem dL_holds_66 : decode cL_holds 66 = .ok (.ireturn, 1) := by decide +kernel
theorem dL_holds_67 : decode cL_holds 67 = .ok (.iload_n 2, 1) := by decide +kernel
theorem dL_holds_68 : decode cL_holds 68 = .ok (.aload_n 0, 1) := by decide +kernel
theorem dL_holds_69 : decode cL_holds 69 = .ok (.iload 5, 2) := by decide +kernel
theorem dL_holds_71 : decode cL_holds 71 = .ok (.iconst 4, 1) := by decide +kernel
theorem dL_holds_72 : decode cL_holds 72 = .ok (.invokevirtual 21, 3) := by decide +kernel
theorem dL_holds_75 : decode cL_holds 75 = .ok (.iadd, 1) := by decide +kernel
theorem dL_holds_76 : decode cL_holds 76 = .ok (.istore_n 2, 1) := by decide +kernel
theorem dL_holds_77 : decode cL_holds 77 = .ok (.iload_n 3, 1) := by decide +kernel
theorem dL_holds_78 : decode cL_holds 78 = .ok (.aload_n 0, 1) := by decide +kernel
theorem dL_holds_79 : decode cL_holds 79 = .ok (.iload 5, 2) := by decide +kernel
theorem dL_holds_81 : decode cL_holds 81 = .ok (.iconst 5, 1) := by decide +kernel
theorem dL_holds_82 : decode cL_holds 82 = .ok (.invokevirtual 21, 3) := by decide +kernel
theorem dL_holds_85 : decode cL_holds 85 = .ok (.iadd, 1) := by decide +kernel
theorem dL_holds_86 : decode cL_holds 86 = .ok (.istore_n 3, 1) := by decide +kernel
theorem dL_holds_87 : decode cL_holds 87 = .ok (.iinc 5 1, 3) := by decide +kernel
theorem dL_holds_90 : decode cL_holds 90 = .ok (.goto (-80), 3) := by decide +kernel
theorem dL_holds_93 : decode cL_holds 93 = .ok (.iconst 0, 1) := by decide +kernel
theorem dL_holds_94 : decode cL_holds 94 = .ok (.istore 5, 2) := by decide +kernel
theorem dL_holds_96 : decode cL_holds 96 = .ok (.iload 5, 2) := by decide +kernel
theorem dL_holds_98 : decode cL_holds 98 = .ok (.iconst 5, 1) := by decide +kernel
theorem dL_holds_99 : decode cL_holds 99 = .ok (.if_icmp .ge 69, 3) := by decide +kernel
theorem dL_holds_102 : decode cL_holds 102 = .ok (.iload 4, 2) := by decide +kernel
theorem dL_holds_104 : decode cL_holds 104 = .ok (.aload_n 0, 1) := by decide +kernel
theorem dL_holds_105 : decode cL_holds 105 = .ok (.iload 5, 2) := by decide +kernel
theorem dL_holds_107 : decode cL_holds 107 = .ok (.iconst 4, 1) := by decide +kernel
theorem dL_holds_108 : decode cL_holds 108 = .ok (.invokevirtual 25, 3) := by decide +kernel
theorem dL_holds_111 : decode cL_holds 111 = .ok (.iadd, 1) := by decide +kernel
theorem dL_holds_112 : decode cL_holds 112 = .ok (.istore 4, 2) := by decide +kernel
theorem dL_holds_114 : decode cL_holds 114 = .ok (.aload_n 0, 1) := by decide +kernel
theorem dL_holds_115 : decode cL_holds 115 = .ok (.iload 5, 2) := by decide +kernel
theorem dL_holds_117 : decode cL_holds 117 = .ok (.iconst 3, 1) := by decide +kernel
theorem dL_holds_118 : decode cL_holds 118 = .ok (.invokevirtual 25, 3) := by decide +kernel
theorem dL_holds_121 : decode cL_holds 121 = .ok (.ifCond .le 7, 3) := by decide +kernel
theorem dL_holds_124 : decode cL_holds 124 = .ok (.iconst 1, 1) := by decide +kernel
theorem dL_holds_125 : decode cL_holds 125 = .ok (.goto 4, 3) := by decide +kernel
theorem dL_holds_128 : decode cL_holds 128 = .ok (.iconst 0, 1) := by decide +kernel
theorem dL_holds_129 : decode cL_holds 129 = .ok (.aload_n 0, 1) := by decide +kernel
theorem dL_holds_130 : decode cL_holds 130 = .ok (.bipush 10, 2) := by decide +kernel
theorem dL_holds_132 : decode cL_holds 132 = .ok (.invokevirtual 12, 3) := by decide +kernel
theorem dL_holds_135 : decode cL_holds 135 = .ok (.iload 5, 2) := by decide +kernel
theorem dL_holds_137 : decode cL_holds 137 = .ok (.if_icmp .ne 7, 3) := by decide +kernel
theorem dL_holds_140 : decode cL_holds 140 = .ok (.iconst 1, 1) := by decide +kernel
theorem dL_holds_141 : decode cL_holds 141 = .ok (.goto 4, 3) := by decide +kernel
theorem dL_holds_144 : decode cL_holds 144 = .ok (.iconst 0, 1) := by decide +kernel
theorem dL_holds_145 : decode cL_holds 145 = .ok (.if_icmp .ne 15, 3) := by decide +kernel
theorem dL_holds_148 : decode cL_holds 148 = .ok (.aload_n 0, 1) := by decide +kernel
theorem dL_holds_149 : decode cL_holds 149 = .ok (.iload 5, 2) := by decide +kernel
theorem dL_holds_151 : decode cL_holds 151 = .ok (.iconst 1, 1) := by decide +kernel
theorem dL_holds_152 : decode cL_holds 152 = .ok (.invokevirtual 25, 3) := by decide +kernel
theorem dL_holds_155 : decode cL_holds 155 = .ok (.bipush 10, 2) := by decide +kernel
theorem dL_holds_157 : decode cL_holds 157 = .ok (.if_icmp .ge 5, 3) := by decide +kernel
theorem dL_holds_160 : decode cL_holds 160 = .ok (.iconst 0, 1) := by decide +kernel
theorem dL_holds_161 : decode cL_holds 161 = .ok (.ireturn, 1) := by decide +kernel
theorem dL_holds_162 : decode cL_holds 162 = .ok (.iinc 5 1, 3) := by decide +kernel
theorem dL_holds_165 : decode cL_holds 165 = .ok (.goto (-69), 3) := by decide +kernel
theorem dL_holds_168 : decode cL_holds 168 = .ok (.iconst 0, 1) := by decide +kernel
theorem dL_holds_169 : decode cL_holds 169 = .ok (.istore 5, 2) := by decide +kernel
theorem dL_holds_171 : decode cL_holds 171 = .ok (.iconst 0, 1) := by decide +kernel
theorem dL_holds_172 : decode cL_holds 172 = .ok (.istore 6, 2) := by decide +kernel
theorem dL_holds_174 : decode cL_holds 174 = .ok (.iload 6, 2) := by decide +kernel
theorem dL_holds_176 : decode cL_holds 176 = .ok (.bipush 7, 2) := by decide +kernel
theorem dL_holds_178 : decode cL_holds 178 = .ok (.if_icmp .ge 113, 3) := by decide +kernel
theorem dL_holds_181 : decode cL_holds 181 = .ok (.aload_n 0, 1) := by decide +kernel
theorem dL_holds_182 : decode cL_holds 182 = .ok (.iload 6, 2) := by decide +kernel
theorem dL_holds_184 : decode cL_holds 184 = .ok (.iconst 1, 1) := by decide +kernel
theorem dL_holds_185 : decode cL_holds 185 = .ok (.invokevirtual 28, 3) := by decide +kernel
theorem dL_holds_188 : decode cL_holds 188 = .ok (.istore 7, 2) := by decide +kernel
theorem dL_holds_190 : decode cL_holds 190 = .ok (.aload_n 0, 1) := by decide +kernel
theorem dL_holds_191 : decode cL_holds 191 = .ok (.iload 6, 2) := by decide +kernel
theorem dL_holds_193 : decode cL_holds 193 = .ok (.iconst 0, 1) := by decide +kernel
theorem dL_holds_194 : decode cL_holds 194 = .ok (.invokevirtual 28, 3) := by decide +kernel
theorem dL_holds_197 : decode cL_holds 197 = .ok (.ifCond .lt 7, 3) := by decide +kernel
theorem dL_holds_200 : decode cL_holds 200 = .ok (.iconst 1, 1) := by decide +kernel
theorem dL_holds_201 : decode cL_holds 201 = .ok (.goto 4, 3) := by decide +kernel
theorem dL_holds_204 : decode cL_holds 204 = .ok (.iconst 0, 1) := by decide +kernel
theorem dL_holds_205 : decode cL_holds 205 = .ok (.istore 8, 2) := by decide +kernel
theorem dL_holds_207 : decode cL_holds 207 = .ok (.iload 5, 2) := by decide +kernel
theorem dL_holds_209 : decode cL_holds 209 = .ok (.iload 6, 2) := by decide +kernel
theorem dL_holds_211 : decode cL_holds 211 = .ok (.bipush 6, 2) := by decide +kernel
theorem dL_holds_213 : decode cL_holds 213 = .ok (.if_icmp .ge 12, 3) := by decide +kernel
theorem dL_holds_216 : decode cL_holds 216 = .ok (.iload 8, 2) := by decide +kernel
theorem dL_holds_218 : decode cL_holds 218 = .ok (.ifCond .eq 7, 3) := by decide +kernel
theorem dL_holds_221 : decode cL_holds 221 = .ok (.iconst 1, 1) := by decide +kernel
theorem dL_holds_222 : decode cL_holds 222 = .ok (.goto 4, 3) := by decide +kernel
theorem dL_holds_225 : decode cL_holds 225 = .ok (.iconst 0, 1) := by decide +kernel
theorem dL_holds_226 : decode cL_holds 226 = .ok (.iadd, 1) := by decide +kernel
theorem dL_holds_227 : decode cL_holds 227 = .ok (.istore 5, 2) := by decide +kernel
theorem dL_holds_229 : decode cL_holds 229 = .ok (.iload 8, 2) := by decide +kernel
theorem dL_holds_231 : decode cL_holds 231 = .ok (.ifCond .eq 54, 3) := by decide +kernel
theorem dL_holds_234 : decode cL_holds 234 = .ok (.iload 7, 2) := by decide +kernel
theorem dL_holds_236 : decode cL_holds 236 = .ok (.bipush 20, 2) := by decide +kernel
theorem dL_holds_238 : decode cL_holds 238 = .ok (.if_icmp .lt 45, 3) := by decide +kernel
theorem dL_holds_241 : decode cL_holds 241 = .ok (.iload 7, 2) := by decide +kernel
theorem dL_holds_243 : decode cL_holds 243 = .ok (.sipush 1250, 3) := by decide +kernel
theorem dL_holds_246 : decode cL_holds 246 = .ok (.if_icmp .gt 37, 3) := by decide +kernel
theorem dL_holds_249 : decode cL_holds 249 = .ok (.aload_n 0, 1) := by decide +kernel
theorem dL_holds_250 : decode cL_holds 250 = .ok (.iload 6, 2) := by decide +kernel
theorem dL_holds_252 : decode cL_holds 252 = .ok (.iconst 3, 1) := by decide +kernel
theorem dL_holds_253 : decode cL_holds 253 = .ok (.invokevirtual 28, 3) := by decide +kernel
theorem dL_holds_256 : decode cL_holds 256 = .ok (.iconst 1, 1) := by decide +kernel
theorem dL_holds_257 : decode cL_holds 257 = .ok (.if_icmp .lt 26, 3) := by decide +kernel
theorem dL_holds_260 : decode cL_holds 260 = .ok (.aload_n 0, 1) := by decide +kernel
theorem dL_holds_261 : decode cL_holds 261 = .ok (.iload 6, 2) := by decide +kernel
theorem dL_holds_263 : decode cL_holds 263 = .ok (.iconst 3, 1) := by decide +kernel
theorem dL_holds_264 : decode cL_holds 264 = .ok (.invokevirtual 28, 3) := by decide +kernel
theorem dL_holds_267 : decode cL_holds 267 = .ok (.bipush 9, 2) := by decide +kernel
theorem dL_holds_269 : decode cL_holds 269 = .ok (.if_icmp .gt 14, 3) := by decide +kernel
theorem dL_holds_272 : decode cL_holds 272 = .ok (.aload_n 0, 1) := by decide +kernel
theorem dL_holds_273 : decode cL_holds 273 = .ok (.iload 6, 2) := by decide +kernel
theorem dL_holds_275 : decode cL_holds 275 = .ok (.iconst 2, 1) := by decide +kernel
theorem dL_holds_276 : decode cL_holds 276 = .ok (.invokevirtual 28, 3) := by decide +kernel
theorem dL_holds_279 : decode cL_holds 279 = .ok (.iconst 3, 1) := by decide +kernel
theorem dL_holds_280 : decode cL_holds 280 = .ok (.if_icmp .le 5, 3) := by decide +kernel
theorem dL_holds_283 : decode cL_holds 283 = .ok (.iconst 0, 1) := by decide +kernel
theorem dL_holds_284 : decode cL_holds 284 = .ok (.ireturn, 1) := by decide +kernel
theorem dL_holds_285 : decode cL_holds 285 = .ok (.iinc 6 1, 3) := by decide +kernel
theorem dL_holds_288 : decode cL_holds 288 = .ok (.goto (-114), 3) := by decide +kernel
theorem dL_holds_291 : decode cL_holds 291 = .ok (.aload_n 0, 1) := by decide +kernel
theorem dL_holds_292 : decode cL_holds 292 = .ok (.iconst 1, 1) := by decide +kernel
theorem dL_holds_293 : decode cL_holds 293 = .ok (.invokevirtual 12, 3) := by decide +kernel
theorem dL_holds_296 : decode cL_holds 296 = .ok (.istore 6, 2) := by decide +kernel
theorem dL_holds_298 : decode cL_holds 298 = .ok (.iconst 0, 1) := by decide +kernel
theorem dL_holds_299 : decode cL_holds 299 = .ok (.istore 7, 2) := by decide +kernel
theorem dL_holds_301 : decode cL_holds 301 = .ok (.iconst 0, 1) := by decide +kernel
theorem dL_holds_302 : decode cL_holds 302 = .ok (.istore 8, 2) := by decide +kernel
theorem dL_holds_304 : decode cL_holds 304 = .ok (.iload 8, 2) := by decide +kernel
theorem dL_holds_306 : decode cL_holds 306 = .ok (.iload 6, 2) := by decide +kernel
theorem dL_holds_308 : decode cL_holds 308 = .ok (.if_icmp .ge 268, 3) := by decide +kernel
theorem dL_holds_311 : decode cL_holds 311 = .ok (.iconst 0, 1) := by decide +kernel
theorem dL_holds_312 : decode cL_holds 312 = .ok (.istore 9, 2) := by decide +kernel
theorem dL_holds_314 : decode cL_holds 314 = .ok (.iconst 0, 1) := by decide +kernel
theorem dL_holds_315 : decode cL_holds 315 = .ok (.istore 10, 2) := by decide +kernel
theorem dL_holds_317 : decode cL_holds 317 = .ok (.iload 10, 2) := by decide +kernel
theorem dL_holds_319 : decode cL_holds 319 = .ok (.bipush 7, 2) := by decide +kernel
theorem dL_holds_321 : decode cL_holds 321 = .ok (.if_icmp .ge 36, 3) := by decide +kernel
theorem dL_holds_324 : decode cL_holds 324 = .ok (.iload 9, 2) := by decide +kernel
theorem dL_holds_326 : decode cL_holds 326 = .ok (.aload_n 0, 1) := by decide +kernel
theorem dL_holds_327 : decode cL_holds 327 = .ok (.iload 10, 2) := by decide +kernel
theorem dL_holds_329 : decode cL_holds 329 = .ok (.iconst 0, 1) := by decide +kernel
theorem dL_holds_330 : decode cL_holds 330 = .ok (.invokevirtual 28, 3) := by decide +kernel
theorem dL_holds_333 : decode cL_holds 333 = .ok (.aload_n 0, 1) := by decide +kernel
theorem dL_holds_334 : decode cL_holds 334 = .ok (.iload 8, 2) := by decide +kernel
theorem dL_holds_336 : decode cL_holds 336 = .ok (.iconst 0, 1) := by decide +kernel
theorem dL_holds_337 : decode cL_holds 337 = .ok (.invokevirtual 31, 3) := by decide +kernel
theorem dL_holds_340 : decode cL_holds 340 = .ok (.if_icmp .ne 7, 3) := by decide +kernel
theorem dL_holds_343 : decode cL_holds 343 = .ok (.iconst 1, 1) := by decide +kernel
theorem dL_holds_344 : decode cL_holds 344 = .ok (.goto 4, 3) := by decide +kernel
theorem dL_holds_347 : decode cL_holds 347 = .ok (.iconst 0, 1) := by decide +kernel
theorem dL_holds_348 : decode cL_holds 348 = .ok (.iadd, 1) := by decide +kernel
theorem dL_holds_349 : decode cL_holds 349 = .ok (.istore 9, 2) := by decide +kernel
theorem dL_holds_351 : decode cL_holds 351 = .ok (.iinc 10 1, 3) := by decide +kernel
theorem dL_holds_354 : decode cL_holds 354 = .ok (.goto (-37), 3) := by decide +kernel
theorem dL_holds_357 : decode cL_holds 357 = .ok (.iload 8, 2) := by decide +kernel
theorem dL_holds_359 : decode cL_holds 359 = .ok (.ifCond .eq 102, 3) := by decide +kernel
theorem dL_holds_362 : decode cL_holds 362 = .ok (.aload_n 0, 1) := by decide +kernel
theorem dL_holds_363 : decode cL_holds 363 = .ok (.iload 8, 2) := by decide +kernel
theorem dL_holds_365 : decode cL_holds 365 = .ok (.bipush 6, 2) := by decide +kernel
theorem dL_holds_367 : decode cL_holds 367 = .ok (.invokevirtual 31, 3) := by decide +kernel
theorem dL_holds_370 : decode cL_holds 370 = .ok (.aload_n 0, 1) := by decide +kernel
theorem dL_holds_371 : decode cL_holds 371 = .ok (.iload 8, 2) := by decide +kernel
theorem dL_holds_373 : decode cL_holds 373 = .ok (.iconst 1, 1) := by decide +kernel
theorem dL_holds_374 : decode cL_holds 374 = .ok (.isub, 1) := by decide +kernel
theorem dL_holds_375 : decode cL_holds 375 = .ok (.bipush 6, 2) := by decide +kernel
theorem dL_holds_377 : decode cL_holds 377 = .ok (.invokevirtual 31, 3) := by decide +kernel
theorem dL_holds_380 : decode cL_holds 380 = .ok (.if_icmp .lt 81, 3) := by decide +kernel
theorem dL_holds_383 : decode cL_holds 383 = .ok (.aload_n 0, 1) := by decide +kernel
theorem dL_holds_384 : decode cL_holds 384 = .ok (.iload 8, 2) := by decide +kernel
theorem dL_holds_386 : decode cL_holds 386 = .ok (.bipush 6, 2) := by decide +kernel
theorem dL_holds_388 : decode cL_holds 388 = .ok (.invokevirtual 31, 3) := by decide +kernel
theorem dL_holds_391 : decode cL_holds 391 = .ok (.aload_n 0, 1) := by decide +kernel
theorem dL_holds_392 : decode cL_holds 392 = .ok (.iload 8, 2) := by decide +kernel
theorem dL_holds_394 : decode cL_holds 394 = .ok (.iconst 1, 1) := by decide +kernel
theorem dL_holds_395 : decode cL_holds 395 = .ok (.isub, 1) := by decide +kernel
theorem dL_holds_396 : decode cL_holds 396 = .ok (.bipush 6, 2) := by decide +kernel
theorem dL_holds_398 : decode cL_holds 398 = .ok (.invokevirtual 31, 3) := by decide +kernel
theorem dL_holds_401 : decode cL_holds 401 = .ok (.if_icmp .ne 64, 3) := by decide +kernel
theorem dL_holds_404 : decode cL_holds 404 = .ok (.aload_n 0, 1) := by decide +kernel
theorem dL_holds_405 : decode cL_holds 405 = .ok (.iload 8, 2) := by decide +kernel
theorem dL_holds_407 : decode cL_holds 407 = .ok (.iconst 5, 1) := by decide +kernel
theorem dL_holds_408 : decode cL_holds 408 = .ok (.invokevirtual 31, 3) := by decide +kernel
theorem dL_holds_411 : decode cL_holds 411 = .ok (.aload_n 0, 1) := by decide +kernel
theorem dL_holds_412 : decode cL_holds 412 = .ok (.iload 8, 2) := by decide +kernel
theorem dL_holds_414 : decode cL_holds 414 = .ok (.iconst 1, 1) := by decide +kernel
theorem dL_holds_415 : decode cL_holds 415 = .ok (.isub, 1) := by decide +kernel
theorem dL_holds_416 : decode cL_holds 416 = .ok (.iconst 5, 1) := by decide +kernel
theorem dL_holds_417 : decode cL_holds 417 = .ok (.invokevirtual 31, 3) := by decide +kernel
theorem dL_holds_420 : decode cL_holds 420 = .ok (.if_icmp .gt 41, 3) := by decide +kernel
theorem dL_holds_423 : decode cL_holds 423 = .ok (.aload_n 0, 1) := by decide +kernel
theorem dL_holds_424 : decode cL_holds 424 = .ok (.iload 8, 2) := by decide +kernel
theorem dL_holds_426 : decode cL_holds 426 = .ok (.iconst 5, 1) := by decide +kernel
theorem dL_holds_427 : decode cL_holds 427 = .ok (.invokevirtual 31, 3) := by decide +kernel
theorem dL_holds_430 : decode cL_holds 430 = .ok (.aload_n 0, 1) := by decide +kernel
theorem dL_holds_431 : decode cL_holds 431 = .ok (.iload 8, 2) := by decide +kernel
theorem dL_holds_433 : decode cL_holds 433 = .ok (.iconst 1, 1) := by decide +kernel
theorem dL_holds_434 : decode cL_holds 434 = .ok (.isub, 1) := by decide +kernel
theorem dL_holds_435 : decode cL_holds 435 = .ok (.iconst 5, 1) := by decide +kernel
theorem dL_holds_436 : decode cL_holds 436 = .ok (.invokevirtual 31, 3) := by decide +kernel
theorem dL_holds_439 : decode cL_holds 439 = .ok (.if_icmp .ne 26, 3) := by decide +kernel
theorem dL_holds_442 : decode cL_holds 442 = .ok (.aload_n 0, 1) := by decide +kernel
theorem dL_holds_443 : decode cL_holds 443 = .ok (.iload 8, 2) := by decide +kernel
theorem dL_holds_445 : decode cL_holds 445 = .ok (.iconst 0, 1) := by decide +kernel
theorem dL_holds_446 : decode cL_holds 446 = .ok (.invokevirtual 31, 3) := by decide +kernel
theorem dL_holds_449 : decode cL_holds 449 = .ok (.aload_n 0, 1) := by decide +kernel
theorem dL_holds_450 : decode cL_holds 450 = .ok (.iload 8, 2) := by decide +kernel
theorem dL_holds_452 : decode cL_holds 452 = .ok (.iconst 1, 1) := by decide +kernel
theorem dL_holds_453 : decode cL_holds 453 = .ok (.isub, 1) := by decide +kernel
theorem dL_holds_454 : decode cL_holds 454 = .ok (.iconst 0, 1) := by decide +kernel
theorem dL_holds_455 : decode cL_holds 455 = .ok (.invokevirtual 31, 3) := by decide +kernel
theorem dL_holds_458 : decode cL_holds 458 = .ok (.if_icmp .le 7, 3) := by decide +kernel
theorem dL_holds_461 : decode cL_holds 461 = .ok (.iconst 1, 1) := by decide +kernel
theorem dL_holds_462 : decode cL_holds 462 = .ok (.goto 4, 3) := by decide +kernel
theorem dL_holds_465 : decode cL_holds 465 = .ok (.iconst 0, 1) := by decide +kernel
theorem dL_holds_466 : decode cL_holds 466 = .ok (.istore 10, 2) := by decide +kernel
theorem dL_holds_468 : decode cL_holds 468 = .ok (.aload_n 0, 1) := by decide +kernel
theorem dL_holds_469 : decode cL_holds 469 = .ok (.bipush 6, 2) := by decide +kernel
theorem dL_holds_471 : decode cL_holds 471 = .ok (.iconst 0, 1) := by decide +kernel
theorem dL_holds_472 : decode cL_holds 472 = .ok (.invokevirtual 28, 3) := by decide +kernel
theorem dL_holds_475 : decode cL_holds 475 = .ok (.aload_n 0, 1) := by decide +kernel
theorem dL_holds_476 : decode cL_holds 476 = .ok (.iload 8, 2) := by decide +kernel
theorem dL_holds_478 : decode cL_holds 478 = .ok (.iconst 0, 1) := by decide +kernel
theorem dL_holds_479 : decode cL_holds 479 = .ok (.invokevirtual 31, 3) := by decide +kernel
theorem dL_holds_482 : decode cL_holds 482 = .ok (.if_icmp .ne 7, 3) := by decide +kernel
theorem dL_holds_485 : decode cL_holds 485 = .ok (.iconst 1, 1) := by decide +kernel
theorem dL_holds_486 : decode cL_holds 486 = .ok (.goto 4, 3) := by decide +kernel
theorem dL_holds_489 : decode cL_holds 489 = .ok (.iconst 0, 1) := by decide +kernel
theorem dL_holds_490 : decode cL_holds 490 = .ok (.istore 11, 2) := by decide +kernel
theorem dL_holds_492 : decode cL_holds 492 = .ok (.iload 7, 2) := by decide +kernel
theorem dL_holds_494 : decode cL_holds 494 = .ok (.aload_n 0, 1) := by decide +kernel
theorem dL_holds_495 : decode cL_holds 495 = .ok (.iload 8, 2) := by decide +kernel
theorem dL_holds_497 : decode cL_holds 497 = .ok (.bipush 6, 2) := by decide +kernel
theorem dL_holds_499 : decode cL_holds 499 = .ok (.invokevirtual 31, 3) := by decide +kernel
theorem dL_holds_502 : decode cL_holds 502 = .ok (.iadd, 1) := by decide +kernel
theorem dL_holds_503 : decode cL_holds 503 = .ok (.istore 7, 2) := by decide +kernel
theorem dL_holds_505 : decode cL_holds 505 = .ok (.iload 10, 2) := by decide +kernel
theorem dL_holds_507 : decode cL_holds 507 = .ok (.ifCond .eq 61, 3) := by decide +kernel
theorem dL_holds_510 : decode cL_holds 510 = .ok (.aload_n 0, 1) := by decide +kernel
theorem dL_holds_511 : decode cL_holds 511 = .ok (.iload 8, 2) := by decide +kernel
theorem dL_holds_513 : decode cL_holds 513 = .ok (.iconst 4, 1) := by decide +kernel
theorem dL_holds_514 : decode cL_holds 514 = .ok (.invokevirtual 31, 3) := by decide +kernel
theorem dL_holds_517 : decode cL_holds 517 = .ok (.aload_n 0, 1) := by decide +kernel
theorem dL_holds_518 : decode cL_holds 518 = .ok (.iload 8, 2) := by decide +kernel
theorem dL_holds_520 : decode cL_holds 520 = .ok (.iconst 3, 1) := by decide +kernel
theorem dL_holds_521 : decode cL_holds 521 = .ok (.invokevirtual 31, 3) := by decide +kernel
theorem dL_holds_524 : decode cL_holds 524 = .ok (.if_icmp .ge 44, 3) := by decide +kernel
theorem dL_holds_527 : decode cL_holds 527 = .ok (.iload 9, 2) := by decide +kernel
theorem dL_holds_529 : decode cL_holds 529 = .ok (.aload_n 0, 1) := by decide +kernel
theorem dL_holds_530 : decode cL_holds 530 = .ok (.iload 8, 2) := by decide +kernel
theorem dL_holds_532 : decode cL_holds 532 = .ok (.iconst 3, 1) := by decide +kernel
theorem dL_holds_533 : decode cL_holds 533 = .ok (.invokevirtual 31, 3) := by decide +kernel
theorem dL_holds_536 : decode cL_holds 536 = .ok (.aload_n 0, 1) := by decide +kernel
theorem dL_holds_537 : decode cL_holds 537 = .ok (.iload 8, 2) := by decide +kernel
theorem dL_holds_539 : decode cL_holds 539 = .ok (.iconst 4, 1) := by decide +kernel
theorem dL_holds_540 : decode cL_holds 540 = .ok (.invokevirtual 31, 3) := by decide +kernel
theorem dL_holds_543 : decode cL_holds 543 = .ok (.isub, 1) := by decide +kernel
theorem dL_holds_544 : decode cL_holds 544 = .ok (.if_icmp .gt 24, 3) := by decide +kernel
theorem dL_holds_547 : decode cL_holds 547 = .ok (.aload_n 0, 1) := by decide +kernel
theorem dL_holds_548 : decode cL_holds 548 = .ok (.iload 8, 2) := by decide +kernel
theorem dL_holds_550 : decode cL_holds 550 = .ok (.bipush 7, 2) := by decide +kernel
theorem dL_holds_552 : decode cL_holds 552 = .ok (.invokevirtual 31, 3) := by decide +kernel
theorem dL_holds_555 : decode cL_holds 555 = .ok (.ifCond .ne 7, 3) := by decide +kernel
theorem dL_holds_558 : decode cL_holds 558 = .ok (.iconst 1, 1) := by decide +kernel
theorem dL_holds_559 : decode cL_holds 559 = .ok (.goto 4, 3) := by decide +kernel
theorem dL_holds_562 : decode cL_holds 562 = .ok (.iconst 0, 1) := by decide +kernel
theorem dL_holds_563 : decode cL_holds 563 = .ok (.iload 11, 2) := by decide +kernel
theorem dL_holds_565 : decode cL_holds 565 = .ok (.if_icmp .eq 5, 3) := by decide +kernel
theorem dL_holds_568 : decode cL_holds 568 = .ok (.iconst 0, 1) := by decide +kernel
theorem dL_holds_569 : decode cL_holds 569 = .ok (.ireturn, 1) := by decide +kernel
theorem dL_holds_570 : decode cL_holds 570 = .ok (.iinc 8 1, 3) := by decide +kernel
theorem dL_holds_573 : decode cL_holds 573 = .ok (.goto (-269), 3) := by decide +kernel
theorem dL_holds_576 : decode cL_holds 576 = .ok (.aload_n 0, 1) := by decide +kernel
theorem dL_holds_577 : decode cL_holds 577 = .ok (.invokevirtual 69, 3) := by decide +kernel
theorem dL_holds_580 : decode cL_holds 580 = .ok (.dstore 8, 2) := by decide +kernel
theorem dL_holds_582 : decode cL_holds 582 = .ok (.iload_n 2, 1) := by decide +kernel
theorem dL_holds_583 : decode cL_holds 583 = .ok (.aload_n 0, 1) := by decide +kernel
theorem dL_holds_584 : decode cL_holds 584 = .ok (.iconst 4, 1) := by decide +kernel
theorem dL_holds_585 : decode cL_holds 585 = .ok (.invokevirtual 12, 3) := by decide +kernel
theorem dL_holds_588 : decode cL_holds 588 = .ok (.if_icmp .ne 86, 3) := by decide +kernel
theorem dL_holds_591 : decode cL_holds 591 = .ok (.iload 4, 2) := by decide +kernel
theorem dL_holds_593 : decode cL_holds 593 = .ok (.iload_n 2, 1) := by decide +kernel
theorem dL_holds_594 : decode cL_holds 594 = .ok (.if_icmp .ne 80, 3) := by decide +kernel
theorem dL_holds_597 : decode cL_holds 597 = .ok (.iload_n 3, 1) := by decide +kernel
theorem dL_holds_598 : decode cL_holds 598 = .ok (.aload_n 0, 1) := by decide +kernel
theorem dL_holds_599 : decode cL_holds 599 = .ok (.iconst 5, 1) := by decide +kernel
theorem dL_holds_600 : decode cL_holds 600 = .ok (.invokevirtual 12, 3) := by decide +kernel
theorem dL_holds_603 : decode cL_holds 603 = .ok (.if_icmp .ne 71, 3) := by decide +kernel
theorem dL_holds_606 : decode cL_holds 606 = .ok (.iload 5, 2) := by decide +kernel
theorem dL_holds_608 : decode cL_holds 608 = .ok (.aload_n 0, 1) := by decide +kernel
theorem dL_holds_609 : decode cL_holds 609 = .ok (.iconst 3, 1) := by decide +kernel
theorem dL_holds_610 : decode cL_holds 610 = .ok (.invokevirtual 12, 3) := by decide +kernel
theorem dL_holds_613 : decode cL_holds 613 = .ok (.if_icmp .ne 61, 3) := by decide +kernel
theorem dL_holds_616 : decode cL_holds 616 = .ok (.iload 7, 2) := by decide +kernel
theorem dL_holds_618 : decode cL_holds 618 = .ok (.aload_n 0, 1) := by decide +kernel
theorem dL_holds_619 : decode cL_holds 619 = .ok (.iconst 2, 1) := by decide +kernel
theorem dL_holds_620 : decode cL_holds 620 = .ok (.invokevirtual 12, 3) := by decide +kernel
theorem dL_holds_623 : decode cL_holds 623 = .ok (.if_icmp .ne 51, 3) := by decide +kernel
theorem dL_holds_626 : decode cL_holds 626 = .ok (.aload_n 0, 1) := by decide +kernel
theorem dL_holds_627 : decode cL_holds 627 = .ok (.bipush 9, 2) := by decide +kernel
theorem dL_holds_629 : decode cL_holds 629 = .ok (.invokevirtual 12, 3) := by decide +kernel
theorem dL_holds_632 : decode cL_holds 632 = .ok (.aload_n 0, 1) := by decide +kernel
theorem dL_holds_633 : decode cL_holds 633 = .ok (.bipush 8, 2) := by decide +kernel
theorem dL_holds_635 : decode cL_holds 635 = .ok (.invokevirtual 12, 3) := by decide +kernel
theorem dL_holds_638 : decode cL_holds 638 = .ok (.if_icmp .lt 36, 3) := by decide +kernel
theorem dL_holds_641 : decode cL_holds 641 = .ok (.aload_n 0, 1) := by decide +kernel
theorem dL_holds_642 : decode cL_holds 642 = .ok (.bipush 8, 2) := by decide +kernel
theorem dL_holds_644 : decode cL_holds 644 = .ok (.invokevirtual 12, 3) := by decide +kernel
theorem dL_holds_647 : decode cL_holds 647 = .ok (.aload_n 0, 1) := by decide +kernel
theorem dL_holds_648 : decode cL_holds 648 = .ok (.bipush 7, 2) := by decide +kernel
theorem dL_holds_650 : decode cL_holds 650 = .ok (.invokevirtual 12, 3) := by decide +kernel
theorem dL_holds_653 : decode cL_holds 653 = .ok (.if_icmp .gt 21, 3) := by decide +kernel
theorem dL_holds_656 : decode cL_holds 656 = .ok (.dload 8, 2) := by decide +kernel
theorem dL_holds_658 : decode cL_holds 658 = .ok (.dconst 0, 1) := by decide +kernel
theorem dL_holds_659 : decode cL_holds 659 = .ok (.dcmp .l, 1) := by decide +kernel
theorem dL_holds_660 : decode cL_holds 660 = .ok (.ifCond .lt 14, 3) := by decide +kernel
theorem dL_holds_663 : decode cL_holds 663 = .ok (.dload 8, 2) := by decide +kernel
theorem dL_holds_665 : decode cL_holds 665 = .ok (.dconst 1, 1) := by decide +kernel
theorem dL_holds_666 : decode cL_holds 666 = .ok (.dcmp .g, 1) := by decide +kernel
theorem dL_holds_667 : decode cL_holds 667 = .ok (.ifCond .gt 7, 3) := by decide +kernel
theorem dL_holds_670 : decode cL_holds 670 = .ok (.iconst 1, 1) := by decide +kernel
theorem dL_holds_671 : decode cL_holds 671 = .ok (.goto 4, 3) := by decide +kernel
theorem dL_holds_674 : decode cL_holds 674 = .ok (.iconst 0, 1) := by decide +kernel
theorem dL_holds_675 : decode cL_holds 675 = .ok (.ireturn, 1) := by decide +kernel
theorem dL_law_0 : decode cL_law 0 = .ok (.new 13, 3) := by decide +kernel
theorem dL_law_3 : decode cL_law 3 = .ok (.dup, 1) := by decide +kernel
theorem dL_law_4 : decode cL_law 4 = .ok (.invokespecial 73, 3) := by decide +kernel
theorem dL_law_7 : decode cL_law 7 = .ok (.astore_n 1, 1) := by decide +kernel
theorem dL_law_8 : decode cL_law 8 = .ok (.iconst 4, 1) := by decide +kernel
theorem dL_law_9 : decode cL_law 9 = .ok (.newarray .int, 2) := by decide +kernel
theorem dL_law_11 : decode cL_law 11 = .ok (.astore_n 2, 1) := by decide +kernel
theorem dL_law_12 : decode cL_law 12 = .ok (.bipush 8, 2) := by decide +kernel
theorem dL_law_14 : decode cL_law 14 = .ok (.newarray .int, 2) := by decide +kernel
theorem dL_law_16 : decode cL_law 16 = .ok (.astore_n 3, 1) := by decide +kernel
theorem dL_law_17 : decode cL_law 17 = .ok (.iconst 0, 1) := by decide +kernel
theorem dL_law_18 : decode cL_law 18 = .ok (.istore 4, 2) := by decide +kernel
theorem dL_law_20 : decode cL_law 20 = .ok (.iload 4, 2) := by decide +kernel
theorem dL_law_22 : decode cL_law 22 = .ok (.bipush 36, 2) := by decide +kernel
theorem dL_law_24 : decode cL_law 24 = .ok (.if_icmp .ge 247, 3) := by decide +kernel
theorem dL_law_27 : decode cL_law 27 = .ok (.aload_n 0, 1) := by decide +kernel
theorem dL_law_28 : decode cL_law 28 = .ok (.iconst 2, 1) := by decide +kernel
theorem dL_law_29 : decode cL_law 29 = .ok (.iload 4, 2) := by decide +kernel
theorem dL_law_31 : decode cL_law 31 = .ok (.imul, 1) := by decide +kernel
theorem dL_law_32 : decode cL_law 32 = .ok (.invokestatic 74, 3) := by decide +kernel
theorem dL_law_35 : decode cL_law 35 = .ok (.istore 5, 2) := by decide +kernel
theorem dL_law_37 : decode cL_law 37 = .ok (.aload_n 0, 1) := by decide +kernel
theorem dL_law_38 : decode cL_law 38 = .ok (.iconst 2, 1) := by decide +kernel
theorem dL_law_39 : decode cL_law 39 = .ok (.iload 4, 2) := by decide +kernel
theorem dL_law_41 : decode cL_law 41 = .ok (.imul, 1) := by decide +kernel
theorem dL_law_42 : decode cL_law 42 = .ok (.iconst 1, 1) := by decide +kernel
theorem dL_law_43 : decode cL_law 43 = .ok (.iadd, 1) := by decide +kernel
theorem dL_law_44 : decode cL_law 44 = .ok (.invokestatic 74, 3) := by decide +kernel
theorem dL_law_47 : decode cL_law 47 = .ok (.istore 6, 2) := by decide +kernel
theorem dL_law_49 : decode cL_law 49 = .ok (.aload_n 1, 1) := by decide +kernel
theorem dL_law_50 : decode cL_law 50 = .ok (.bipush 11, 2) := by decide +kernel
theorem dL_law_52 : decode cL_law 52 = .ok (.invokevirtual 12, 3) := by decide +kernel
theorem dL_law_55 : decode cL_law 55 = .ok (.bipush 6, 2) := by decide +kernel
theorem dL_law_57 : decode cL_law 57 = .ok (.if_icmp .ne 42, 3) := by decide +kernel
theorem dL_law_60 : decode cL_law 60 = .ok (.iconst 5, 1) := by decide +kernel
theorem dL_law_61 : decode cL_law 61 = .ok (.istore 7, 2) := by decide +kernel
theorem dL_law_63 : decode cL_law 63 = .ok (.iload 7, 2) := by decide +kernel
theorem dL_law_65 : decode cL_law 65 = .ok (.iconst 3, 1) := by decide +kernel
theorem dL_law_66 : decode cL_law 66 = .ok (.if_icmp .le 33, 3) := by decide +kernel
theorem dL_law_69 : decode cL_law 69 = .ok (.aload_n 1, 1) := by decide +kernel
theorem dL_law_70 : decode cL_law 70 = .ok (.invokevirtual 78, 3) := by decide +kernel
theorem dL_law_73 : decode cL_law 73 = .ok (.pop, 1) := by decide +kernel
theorem dL_law_74 : decode cL_law 74 = .ok (.aload_n 2, 1) := by decide +kernel
theorem dL_law_75 : decode cL_law 75 = .ok (.aload_n 3, 1) := by decide +kernel
theorem dL_law_76 : decode cL_law 76 = .ok (.iload 7, 2) := by decide +kernel
theorem dL_law_78 : decode cL_law 78 = .ok (.iaload, 1) := by decide +kernel
theorem dL_law_79 : decode cL_law 79 = .ok (.bipush 100, 2) := by decide +kernel
theorem dL_law_81 : decode cL_law 81 = .ok (.idiv, 1) := by decide +kernel
theorem dL_law_82 : decode cL_law 82 = .ok (.dup2, 1) := by decide +kernel
theorem dL_law_83 : decode cL_law 83 = .ok (.iaload, 1) := by decide +kernel
theorem dL_law_84 : decode cL_law 84 = .ok (.aload_n 3, 1) := by decide +kernel
theorem dL_law_85 : decode cL_law 85 = .ok (.iload 7, 2) := by decide +kernel
theorem dL_law_87 : decode cL_law 87 = .ok (.iaload, 1) := by decide +kernel
theorem dL_law_88 : decode cL_law 88 = .ok (.bipush 100, 2) := by decide +kernel
theorem dL_law_90 : decode cL_law 90 = .ok (.irem, 1) := by decide +kernel
theorem dL_law_91 : decode cL_law 91 = .ok (.isub, 1) := by decide +kernel
theorem dL_law_92 : decode cL_law 92 = .ok (.iastore, 1) := by decide +kernel
theorem dL_law_93 : decode cL_law 93 = .ok (.iinc 7 (-1), 3) := by decide +kernel
theorem dL_law_96 : decode cL_law 96 = .ok (.goto (-33), 3) := by decide +kernel
theorem dL_law_99 : decode cL_law 99 = .ok (.aload_n 1, 1) := by decide +kernel
theorem dL_law_100 : decode cL_law 100 = .ok (.bipush 11, 2) := by decide +kernel
theorem dL_law_102 : decode cL_law 102 = .ok (.invokevirtual 12, 3) := by decide +kernel
theorem dL_law_105 : decode cL_law 105 = .ok (.istore 7, 2) := by decide +kernel
theorem dL_law_107 : decode cL_law 107 = .ok (.aload_n 1, 1) := by decide +kernel
theorem dL_law_108 : decode cL_law 108 = .ok (.invokestatic 82, 3) := by decide +kernel
theorem dL_law_111 : decode cL_law 111 = .ok (.lstore 8, 2) := by decide +kernel
theorem dL_law_113 : decode cL_law 113 = .ok (.aload_n 1, 1) := by decide +kernel
theorem dL_law_114 : decode cL_law 114 = .ok (.iload 5, 2) := by decide +kernel
theorem dL_law_116 : decode cL_law 116 = .ok (.iload 6, 2) := by decide +kernel
theorem dL_law_118 : decode cL_law 118 = .ok (.invokestatic 86, 3) := by decide +kernel
theorem dL_law_121 : decode cL_law 121 = .ok (.istore 10, 2) := by decide +kernel
theorem dL_law_123 : decode cL_law 123 = .ok (.aload_n 1, 1) := by decide +kernel
theorem dL_law_124 : decode cL_law 124 = .ok (.invokestatic 82, 3) := by decide +kernel
theorem dL_law_127 : decode cL_law 127 = .ok (.lstore 11, 2) := by decide +kernel
theorem dL_law_129 : decode cL_law 129 = .ok (.iload 10, 2) := by decide +kernel
theorem dL_law_131 : decode cL_law 131 = .ok (.ifCond .ge 14, 3) := by decide +kernel
theorem dL_law_134 : decode cL_law 134 = .ok (.lload 11, 2) := by decide +kernel
theorem dL_law_136 : decode cL_law 136 = .ok (.lload 8, 2) := by decide +kernel
theorem dL_law_138 : decode cL_law 138 = .ok (.lcmp, 1) := by decide +kernel
theorem dL_law_139 : decode cL_law 139 = .ok (.ifCond .eq 21, 3) := by decide +kernel
theorem dL_law_142 : decode cL_law 142 = .ok (.goto 16, 3) := by decide +kernel
theorem dL_law_145 : decode cL_law 145 = .ok (.aload_n 1, 1) := by decide +kernel
theorem dL_law_146 : decode cL_law 146 = .ok (.bipush 11, 2) := by decide +kernel
theorem dL_law_148 : decode cL_law 148 = .ok (.invokevirtual 12, 3) := by decide +kernel
theorem dL_law_151 : decode cL_law 151 = .ok (.iload 7, 2) := by decide +kernel
theorem dL_law_153 : decode cL_law 153 = .ok (.iconst 1, 1) := by decide +kernel
theorem dL_law_154 : decode cL_law 154 = .ok (.iadd, 1) := by decide +kernel
theorem dL_law_155 : decode cL_law 155 = .ok (.if_icmp .eq 5, 3) := by decide +kernel
theorem dL_law_158 : decode cL_law 158 = .ok (.iconst 0, 1) := by decide +kernel
theorem dL_law_159 : decode cL_law 159 = .ok (.ireturn, 1) := by decide +kernel
theorem dL_law_160 : decode cL_law 160 = .ok (.iload 10, 2) := by decide +kernel
theorem dL_law_162 : decode cL_law 162 = .ok (.ifCond .lt 57, 3) := by decide +kernel
theorem dL_law_165 : decode cL_law 165 = .ok (.iload 5, 2) := by decide +kernel
theorem dL_law_167 : decode cL_law 167 = .ok (.bipush 13, 2) := by decide +kernel
theorem dL_law_169 : decode cL_law 169 = .ok (.ishr, 1) := by decide +kernel
theorem dL_law_170 : decode cL_law 170 = .ok (.iconst 1, 1) := by decide +kernel
theorem dL_law_171 : decode cL_law 171 = .ok (.iand, 1) := by decide +kernel
theorem dL_law_172 : decode cL_law 172 = .ok (.ifCond .ne 47, 3) := by decide +kernel
theorem dL_law_175 : decode cL_law 175 = .ok (.aload_n 1, 1) := by decide +kernel
theorem dL_law_176 : decode cL_law 176 = .ok (.invokevirtual 78, 3) := by decide +kernel
theorem dL_law_179 : decode cL_law 179 = .ok (.iload 7, 2) := by decide +kernel
theorem dL_law_181 : decode cL_law 181 = .ok (.if_icmp .ne 36, 3) := by decide +kernel
theorem dL_law_184 : decode cL_law 184 = .ok (.aload_n 1, 1) := by decide +kernel
theorem dL_law_185 : decode cL_law 185 = .ok (.invokestatic 82, 3) := by decide +kernel
theorem dL_law_188 : decode cL_law 188 = .ok (.lload 8, 2) := by decide +kernel
theorem dL_law_190 : decode cL_law 190 = .ok (.lcmp, 1) := by decide +kernel
theorem dL_law_191 : decode cL_law 191 = .ok (.ifCond .ne 26, 3) := by decide +kernel
theorem dL_law_194 : decode cL_law 194 = .ok (.aload_n 1, 1) := by decide +kernel
theorem dL_law_195 : decode cL_law 195 = .ok (.iload 5, 2) := by decide +kernel
theorem dL_law_197 : decode cL_law 197 = .ok (.iload 6, 2) := by decide +kernel
theorem dL_law_199 : decode cL_law 199 = .ok (.invokestatic 86, 3) := by decide +kernel
theorem dL_law_202 : decode cL_law 202 = .ok (.iload 10, 2) := by decide +kernel
theorem dL_law_204 : decode cL_law 204 = .ok (.if_icmp .ne 13, 3) := by decide +kernel
theorem dL_law_207 : decode cL_law 207 = .ok (.aload_n 1, 1) := by decide +kernel
theorem dL_law_208 : decode cL_law 208 = .ok (.invokestatic 82, 3) := by decide +kernel
theorem dL_law_211 : decode cL_law 211 = .ok (.lload 11, 2) := by decide +kernel
theorem dL_law_213 : decode cL_law 213 = .ok (.lcmp, 1) := by decide +kernel
theorem dL_law_214 : decode cL_law 214 = .ok (.ifCond .eq 5, 3) := by decide +kernel
theorem dL_law_217 : decode cL_law 217 = .ok (.iconst 0, 1) := by decide +kernel
theorem dL_law_218 : decode cL_law 218 = .ok (.ireturn, 1) := by decide +kernel
theorem dL_law_219 : decode cL_law 219 = .ok (.iload 10, 2) := by decide +kernel
theorem dL_law_221 : decode cL_law 221 = .ok (.ifCond .lt 24, 3) := by decide +kernel
theorem dL_law_224 : decode cL_law 224 = .ok (.aload_n 3, 1) := by decide +kernel
theorem dL_law_225 : decode cL_law 225 = .ok (.iload 7, 2) := by decide +kernel
theorem dL_law_227 : decode cL_law 227 = .ok (.iload 10, 2) := by decide +kernel
theorem dL_law_229 : decode cL_law 229 = .ok (.iastore, 1) := by decide +kernel
theorem dL_law_230 : decode cL_law 230 = .ok (.aload_n 2, 1) := by decide +kernel
theorem dL_law_231 : decode cL_law 231 = .ok (.iload 10, 2) := by decide +kernel
theorem dL_law_233 : decode cL_law 233 = .ok (.bipush 100, 2) := by decide +kernel
theorem dL_law_235 : decode cL_law 235 = .ok (.idiv, 1) := by decide +kernel
theorem dL_law_236 : decode cL_law 236 = .ok (.dup2, 1) := by decide +kernel
theorem dL_law_237 : decode cL_law 237 = .ok (.iaload, 1) := by decide +kernel
theorem dL_law_238 : decode cL_law 238 = .ok (.iload 10, 2) := by decide +kernel
theorem dL_law_240 : decode cL_law 240 = .ok (.bipush 100, 2) := by decide +kernel
theorem dL_law_242 : decode cL_law 242 = .ok (.irem, 1) := by decide +kernel
theorem dL_law_243 : decode cL_law 243 = .ok (.iadd, 1) := by decide +kernel
theorem dL_law_244 : decode cL_law 244 = .ok (.iastore, 1) := by decide +kernel
theorem dL_law_245 : decode cL_law 245 = .ok (.aload_n 1, 1) := by decide +kernel
theorem dL_law_246 : decode cL_law 246 = .ok (.aload_n 2, 1) := by decide +kernel
theorem dL_law_247 : decode cL_law 247 = .ok (.invokestatic 90, 3) := by decide +kernel
theorem dL_law_250 : decode cL_law 250 = .ok (.ifCond .eq 13, 3) := by decide +kernel
theorem dL_law_253 : decode cL_law 253 = .ok (.aload_n 1, 1) := by decide +kernel
theorem dL_law_254 : decode cL_law 254 = .ok (.invokestatic 82, 3) := by decide +kernel
theorem dL_law_257 : decode cL_law 257 = .ok (.lload 11, 2) := by decide +kernel
theorem dL_law_259 : decode cL_law 259 = .ok (.lcmp, 1) := by decide +kernel
theorem dL_law_260 : decode cL_law 260 = .ok (.ifCond .eq 5, 3) := by decide +kernel
theorem dL_law_263 : decode cL_law 263 = .ok (.iconst 0, 1) := by decide +kernel
theorem dL_law_264 : decode cL_law 264 = .ok (.ireturn, 1) := by decide +kernel
theorem dL_law_265 : decode cL_law 265 = .ok (.iinc 4 1, 3) := by decide +kernel
theorem dL_law_268 : decode cL_law 268 = .ok (.goto (-248), 3) := by decide +kernel
theorem dL_law_271 : decode cL_law 271 = .ok (.iconst 1, 1) := by decide +kernel
theorem dL_law_272 : decode cL_law 272 = .ok (.ireturn, 1) := by decide +kernel
end
section
/-! THE MEMORY: every object and array that the law makes has a number (in the order of making); it lies at the address base + number. A memory M says what each holds: ints, references (by number), longs. -/
abbrev Mem : Type := (Nat → Nat → Int32) × (Nat → Nat → Option Nat) × (Nat → Nat → Int64)
def uI (M : Mem) (i k : Nat) (v : Int32) : Mem := (fun j l => if j = i ∧ l = k then v else M.1 j l, M.2.1, M.2.2)
def uR (M : Mem) (i k : Nat) (v : Option Nat) : Mem := (M.1, fun j l => if j = i ∧ l = k then v else M.2.1 j l, M.2.2)
def uL (M : Mem) (i k : Nat) (v : Int64) : Mem := (M.1, M.2.1, fun j l => if j = i ∧ l = k then v else M.2.2 j l)
/-- the object i as it is made -/
def uN (M : Mem) (i : Nat) : Mem := (fun j l => if j = i then 0 else M.1 j l, fun j l => if j = i then none else M.2.1 j l, fun j l => if j = i then 0 else M.2.2 j l)
def bI (z : Bool) : Int32 := if z then 1 else 0
theorem bI_t : bI true = 1 := rfl
theorem bI_f : bI false = 0 := rfl
theorem bI_eq0 (z : Bool) : (bI z = 0) = (z = false) := by cases z <;> simp [bI]
theorem bI_ne (z : Bool) : (bI z != 0) = z := by cases z <;> rfl
theorem bI_nar (z : Bool) : narrow .boolean (.int (bI z)) = .int (bI z) := by cases z <;> rfl
theorem bI_fit (z : Bool) : fits .boolean (.int (bI z)) = true := by cases z <;> rfl
-- kinds: 0 Billet, 1 Die, 2 Heat, 3 Job, 4 JobText, 5 Shop, 6 ForgeHeats; 8 int[], 9 char[], 10 long[], 11 Billet[], 12 Die[], 13 Heat[], 14 Job[], 15 Shop[]
abbrev m_cl : List vw_C := [(RX0, TX0, 4), (RX1, TX1, 6), (RX2, TX2, 5), (RX3, TX3, 8), (RX4, TX4, 9), (RX5, TX5, 19), (RX6, TX6, 5)]
def m_ft (κ : Nat) : Nat → FieldType := match κ with
  | 0 => tyX0
  | 1 => tyX1
  | 2 => tyX2
  | 3 => tyX3
  | 4 => tyX4
  | 5 => tyX5
  | _ => tyX6
def m_nf (κ : Nat) : Nat := match κ with
  | 0 => 4
  | 1 => 6
  | 2 => 5
  | 3 => 8
  | 4 => 9
  | 5 => 19
  | _ => 5
def m_tys (cA : Nat → ClassId) : List (ClassId × FieldType) := [(cA 8, .int), (cA 9, .char), (cA 10, .int), (cA 11, .object RX0), (cA 12, .object RX1), (cA 13, .object RX2), (cA 14, .object RX3), (cA 15, .object RX5)]
/-- the 34 things of a shop: itself, heats, dies, jobs, furnace, press, what is found where nothing is -/
def m_sk (r : Nat) : Nat := if r = 0 then 5 else if r = 1 then 13 else if r < 6 then 2 else if r = 6 then 12 else if r < 12 then 1 else if r = 12 then 14 else if r < 23 then 3 else if r = 23 then 11 else if r < 31 then 0 else if r = 31 then 2 else if r = 32 then 1 else 3
def m_sl (r : Nat) : Nat := if r = 1 then 4 else if r = 6 then 5 else if r = 12 then 10 else 6
/-- the kind of the thing with a number -/
def m_kd (i : Nat) : Nat := if i = 0 then 6 else if i < 69 then m_sk ((i - 1) % 34) else if i = 69 then 15 else if i < 274 then m_sk ((i - 70) % 34) else if i = 274 then 4 else if i = 275 then 9 else 8
def m_len (i : Nat) : Nat := if i < 69 then m_sl ((i - 1) % 34) else if i = 69 then 6 else if i < 274 then m_sl ((i - 70) % 34) else if i = 275 then 60 else if i = 276 then 4 else 8
def m_tp (n i κ : Nat) : Prop := i < n ∧ m_kd i = κ
def m_fv (b : Nat) (M : Mem) (i k : Nat) (ty : FieldType) : Value := match ty with
  | .int => .int (M.1 i k)
  | .boolean => .int (bI (M.1 i k != 0))
  | .long => .long (M.2.2 i k)
  | _ => va_rf ((M.2.1 i k).map (fun j => b + j))
def m_fl (κ b : Nat) (M : Mem) (i : Nat) : List Value := (List.range (m_nf κ)).map (fun k => m_fv b M i k (m_ft κ k))
def m_ar (κ b : Nat) (M : Mem) (i : Nat) : vp_A := (m_len i, if κ ≤ 9 then .inl (M.1 i) else if κ = 10 then .inr (.inl (M.2.2 i)) else .inr (.inr (.inr (.inr (fun k => (M.2.1 i k).map (fun j => b + j))))))
def m_e (cA : Nat → ClassId) (b : Nat) (M : Mem) (i : Nat) : va_E := if m_kd i < 8 then .inr (m_kd i, m_fl (m_kd i) b M i) else .inl (cA (m_kd i), m_ar (m_kd i) b M i)
def m_ws (cA : Nat → ClassId) (b n : Nat) (M : Mem) : va_W := (List.range n).map (fun i => (b + i, m_e cA b M i))
def m_A (b : Nat) : Nat → Prop := fun q => b ≤ q
def m_H (D : va_G) (cA : Nat → ClassId) (b n : Nat) (M : Mem) (H : Heap) : Prop := va_P D m_cl (m_ws cA b n M) H ∧ b + n ≤ H.size
def m_K (D : va_G) (cA : Nat → ClassId) (U : State) : Prop := va_K D m_cl (m_tys cA) U
def m_St (D : va_G) (cA : Nat → ClassId) (b n : Nat) (M : Mem) (U : State) : Prop := m_K D cA U ∧ m_H D cA b n M U.heap
def m_Q (D : va_G) (cA : Nat → ClassId) (b n : Nat) (res : Option Value → Mem → Prop) : Array Value → State → Outcome → State → Prop := fun _ st oc t => (∃ (v : Option Value) (M' : Mem), oc = .returned v ∧ res v M' ∧ m_H D cA b n M' t.heap) ∧ va_F (m_A b) st t
def lw_T : List Cond := lw_tbl.filter goodWord
theorem lw_T_of {w : Cond} (h : w ∈ lw_tbl) (g : goodWord w = true) : w ∈ lw_T := List.mem_filter.mpr ⟨h, g⟩
theorem lw_T_good {w : Cond} (h : w ∈ lw_T) : goodWord w = true := (List.mem_filter.mp h).2
/-- a contract -/
abbrev m_C (l : Launch) (D : va_G) (cA : Nat → ClassId) (b n n' : Nat) (M : Mem) (y : MethodName) (bytes : ByteArray) (maxL : Nat) (ret : Option FieldType) (rm : Room) (mc ms : Nat) (av : List Value) (res : Option Value → Mem → Prop) : Prop :=
  Met l y (Cond.code y bytes maxL ret :: lw_T) rm (va_Pc av (m_St D cA b n M)) (m_Q D cA b n' res) mc ms (m_A b)
-- what a method answers
abbrev rV (P : Mem → Prop) : Option Value → Mem → Prop := fun v M => v = none ∧ P M
abbrev rI (P : Int32 → Mem → Prop) : Option Value → Mem → Prop := fun v M => ∃ r : Int32, v = some (.int r) ∧ P r M
abbrev rZ (P : Bool → Mem → Prop) : Option Value → Mem → Prop := fun v M => ∃ r : Bool, v = some (.int (bI r)) ∧ P r M
abbrev rL (P : Int64 → Mem → Prop) : Option Value → Mem → Prop := fun v M => ∃ r : Int64, v = some (.long r) ∧ P r M
abbrev rD (P : UInt64 → Mem → Prop) : Option Value → Mem → Prop := fun v M => ∃ r : UInt64, v = some (.double r) ∧ P r M
abbrev rR (b : Nat) (P : Nat → Mem → Prop) : Option Value → Mem → Prop := fun v M => ∃ r : Nat, v = some (.ref (b + r)) ∧ P r M
abbrev rO (b : Nat) (P : Option Nat → Mem → Prop) : Option Value → Mem → Prop := fun v M => ∃ r : Option Nat, v = some (va_rf (r.map (fun j => b + j))) ∧ P r M
theorem m_ws_at {cA : Nat → ClassId} {b n : Nat} {M : Mem} {i : Nat} (h : i < n) : (m_ws cA b n M)[i]? = some (b + i, m_e cA b M i) := by simp [m_ws, h]
theorem m_ws_in {cA : Nat → ClassId} {b n : Nat} {M : Mem} {k : Nat} {q : Nat × va_E} (h : (m_ws cA b n M)[k]? = some q) : k < n ∧ q = (b + k, m_e cA b M k) := by
  have hk : k < n := by
    have := (List.getElem?_eq_some_iff.mp h).1
    simpa [m_ws] using this
  rw [m_ws_at hk] at h
  exact ⟨hk, (Option.some.inj h).symm⟩
theorem m_D {cA : Nat → ClassId} {b n : Nat} {M : Mem} : va_D (m_A b) (m_ws cA b n M) := by
  refine ⟨fun i j p q hi hj h => ?_, fun k q hk => ?_⟩
  · obtain ⟨-, rfl⟩ := m_ws_in hi
    obtain ⟨-, rfl⟩ := m_ws_in hj
    have h : b + i = b + j := h
    omega
  · obtain ⟨-, rfl⟩ := m_ws_in hk
    show b ≤ b + k
    omega
theorem m_ws_set {cA : Nat → ClassId} {b n : Nat} {M M' : Mem} {i : Nat} {e : va_E} (he : m_e cA b M' i = e) (ho : ∀ j, j ≠ i → m_e cA b M' j = m_e cA b M j) : (m_ws cA b n M).set i (b + i, e) = m_ws cA b n M' := by
  apply List.ext_getElem?
  intro j
  by_cases hj : j < n
  · rw [m_ws_at hj]
    by_cases hij : i = j
    · subst hij
      rw [List.getElem?_set_self (by simp [m_ws, hj]), he]
    · rw [List.getElem?_set_ne hij, m_ws_at hj, ho j (Ne.symm hij)]
  · rw [List.getElem?_eq_none (by simp [m_ws]; omega), List.getElem?_eq_none (by simp [m_ws]; omega)]
theorem m_ws_push {cA : Nat → ClassId} {b n : Nat} {M M' : Mem} {e : va_E} (he : m_e cA b M' n = e) (ho : ∀ j, j ≠ n → m_e cA b M' j = m_e cA b M j) : m_ws cA b n M ++ [(b + n, e)] = m_ws cA b (n + 1) M' := by
  unfold m_ws
  rw [List.range_succ, List.map_append]
  congr 1
  · apply List.map_congr_left
    intro j hj
    have := List.mem_range.mp hj
    rw [ho j (by omega)]
  · simp [he]
theorem m_e_congr {cA : Nat → ClassId} {b : Nat} {M M' : Mem} {j : Nat} (h1 : ∀ k, M'.1 j k = M.1 j k) (h2 : ∀ k, M'.2.1 j k = M.2.1 j k) (h3 : ∀ k, M'.2.2 j k = M.2.2 j k) : m_e cA b M' j = m_e cA b M j := by
  have e1 : M'.1 j = M.1 j := funext h1
  have e2 : M'.2.1 j = M.2.1 j := funext h2
  have e3 : M'.2.2 j = M.2.2 j := funext h3
  unfold m_e m_fl m_ar m_fv
  rw [e1, e2, e3]
theorem m_e_o {cA : Nat → ClassId} {b : Nat} {M : Mem} {i κ : Nat} (h : m_kd i = κ) (hκ : κ < 8) : m_e cA b M i = .inr (κ, m_fl κ b M i) := by
  subst h
  unfold m_e
  rw [if_pos hκ]
theorem m_e_a {cA : Nat → ClassId} {b : Nat} {M : Mem} {i κ : Nat} (h : m_kd i = κ) (hκ : ¬ κ < 8) : m_e cA b M i = .inl (cA κ, m_ar κ b M i) := by
  subst h
  unfold m_e
  rw [if_neg hκ]
theorem m_fl_at {κ b : Nat} {M : Mem} {i k : Nat} (h : k < m_nf κ) : (m_fl κ b M i)[k]? = some (m_fv b M i k (m_ft κ k)) := by simp [m_fl, h]
theorem m_fl_set {κ b : Nat} {M M' : Mem} {i k : Nat} {v : Value} (hv : m_fv b M' i k (m_ft κ k) = v) (ho : ∀ l ty, l ≠ k → m_fv b M' i l ty = m_fv b M i l ty) : (m_fl κ b M i).set k v = m_fl κ b M' i := by
  apply List.ext_getElem?
  intro j
  by_cases hj : j < m_nf κ
  · rw [m_fl_at hj]
    by_cases hkj : k = j
    · subst hkj
      rw [List.getElem?_set_self (by simp [m_fl, hj]), hv]
    · rw [List.getElem?_set_ne hkj, m_fl_at hj, ho j _ (Ne.symm hkj)]
  · rw [List.getElem?_eq_none (by simp [m_fl]; omega), List.getElem?_eq_none (by simp [m_fl]; omega)]
theorem uI_s {M : Mem} {i k : Nat} {v : Int32} : (uI M i k v).1 i k = v := by simp [uI]
theorem uI_o {M : Mem} {i k j l : Nat} {v : Int32} (h : ¬ (j = i ∧ l = k)) : (uI M i k v).1 j l = M.1 j l := by simp [uI, h]
theorem uR_s {M : Mem} {i k : Nat} {v : Option Nat} : (uR M i k v).2.1 i k = v := by simp [uR]
theorem uR_o {M : Mem} {i k j l : Nat} {v : Option Nat} (h : ¬ (j = i ∧ l = k)) : (uR M i k v).2.1 j l = M.2.1 j l := by simp [uR, h]
theorem uL_s {M : Mem} {i k : Nat} {v : Int64} : (uL M i k v).2.2 i k = v := by simp [uL]
theorem uL_o {M : Mem} {i k j l : Nat} {v : Int64} (h : ¬ (j = i ∧ l = k)) : (uL M i k v).2.2 j l = M.2.2 j l := by simp [uL, h]
theorem m_fv_uI_o {b : Nat} {M : Mem} {i k l : Nat} {v : Int32} {ty : FieldType} (h : l ≠ k) : m_fv b (uI M i k v) i l ty = m_fv b M i l ty := by
  unfold m_fv
  cases ty <;> simp [uI, h]
theorem m_fv_uR_o {b : Nat} {M : Mem} {i k l : Nat} {v : Option Nat} {ty : FieldType} (h : l ≠ k) : m_fv b (uR M i k v) i l ty = m_fv b M i l ty := by
  unfold m_fv
  cases ty <;> simp [uR, h]
theorem m_fv_uL_o {b : Nat} {M : Mem} {i k l : Nat} {v : Int64} {ty : FieldType} (h : l ≠ k) : m_fv b (uL M i k v) i l ty = m_fv b M i l ty := by
  unfold m_fv
  cases ty <;> simp [uL, h]
theorem m_e_uI_o {cA : Nat → ClassId} {b : Nat} {M : Mem} {i k j : Nat} {v : Int32} (h : j ≠ i) : m_e cA b (uI M i k v) j = m_e cA b M j := m_e_congr (fun l => uI_o (fun z => h z.1)) (fun _ => rfl) (fun _ => rfl)
theorem m_e_uR_o {cA : Nat → ClassId} {b : Nat} {M : Mem} {i k j : Nat} {v : Option Nat} (h : j ≠ i) : m_e cA b (uR M i k v) j = m_e cA b M j := m_e_congr (fun _ => rfl) (fun l => uR_o (fun z => h z.1)) (fun _ => rfl)
theorem m_e_uL_o {cA : Nat → ClassId} {b : Nat} {M : Mem} {i k j : Nat} {v : Int64} (h : j ≠ i) : m_e cA b (uL M i k v) j = m_e cA b M j := m_e_congr (fun _ => rfl) (fun _ => rfl) (fun l => uL_o (fun z => h z.1))
theorem m_e_uN_o {cA : Nat → ClassId} {b : Nat} {M : Mem} {i j : Nat} (h : j ≠ i) : m_e cA b (uN M i) j = m_e cA b M j := m_e_congr (fun _ => by simp [uN, h]) (fun _ => by simp [uN, h]) (fun _ => by simp [uN, h])
theorem m_tp.le {n n' i κ : Nat} (h : m_tp n i κ) (hn : n ≤ n') : m_tp n' i κ := ⟨Nat.lt_of_lt_of_le h.1 hn, h.2⟩
theorem m_blind {D : va_G} {cA : Nat → ClassId} {b n : Nat} {M : Mem} {av : List Value} : FrameBlind (va_Pc av (m_St D cA b n M)) := by
  intro a U g mk h
  obtain ⟨h1, h2, h3⟩ := h
  exact ⟨h1, va_K.moved (u := U) (U := U.calling g mk a) (Vm.Alike.refl U.vm) h2, h3⟩
section MR
variable {p : Program} {l : Launch} {e : Env} {R : Room} {s : State} {m : MethodId} {args : Array Value} {below : List Frame} {meth : Method} {c : Code} {H : Heap} {locs : List Loc} {cells slots : Nat} {Q : State → Prop}
variable {cc : ByteArray} {pc : Nat} {ls : Array Slot} {rest : List Value} {nL : Nat} {own : String} {D : va_G} {cA : Nat → ClassId} {b n : Nat} {M : Mem}
/-- the entry -/
theorem m_enter {y : MethodName} {bytes : ByteArray} {maxL : Nat} {ret : Option FieldType} {rm : Room} {mc ms n' : Nat} {av : List Value} {res : Option Value → Mem → Prop} (hy : plainName y.cls = true) (hlen : (lg_sl av).length ≤ maxL)
    (body : ∀ (p : Program) (e : Env) (s : State) (m : MethodId) (below : List Frame) (meth : Method) (c : Code), CallFix p m c bytes maxL s av.toArray lw_T y.cls → meth.sig.returnType = ret → meth.locks = false → meth.name = y.name → m_K D cA s → m_H D cA b n M s.heap → va_S (m_A b) s.heap s.heap [] →
      ∀ ls : Array Slot, lv_has ls maxL (lv_args 0 av) → W p l e rm s m av.toArray below meth c s.heap [] 0 0 (MQ below (m_Q D cA b n' res) av.toArray s mc ms (m_A b)) (F0 m 0 ls [])) :
    m_C l D cA b n n' M y bytes maxL ret rm mc ms av res := by
  refine Met.ofW (cc := bytes) (maxL := maxL) (ret := ret) hy rfl ?_
  intro p e s m args below meth c s₁ B hml hv
  obtain ⟨rfl, hK, hP⟩ := hv
  have hts := atoms_spec (ws := Cond.code y bytes maxL ret :: lw_T) B.pre
  have hl := lv_entry av (n := maxL) hlen
  rw [lg_entry_eq]
  exact body p e s m below meth c ⟨B.exec, B.bytes, hml, findClass_of_methodNamed B.named, fun w hw => hts w (List.mem_cons_of_mem _ hw)⟩ B.returns B.notSynchronized (name_of_methodNamed B.named B.method).1 hK hP va_S.rf _ hl
theorem m_hp {D : va_G} {cA : Nat → ClassId} {b n : Nat} {M : Mem} {H : Heap} (hP : m_H D cA b n M H) {i κ : Nat} (ht : m_tp n i κ) (hκ : κ < 8) : (m_ws cA b n M)[i]? = some (b + i, .inr (κ, m_fl κ b M i)) := by
  rw [m_ws_at ht.1, m_e_o ht.2 hκ]
theorem m_ha {D : va_G} {cA : Nat → ClassId} {b n : Nat} {M : Mem} {H : Heap} (hP : m_H D cA b n M H) {i κ : Nat} (ht : m_tp n i κ) (hκ : ¬ κ < 8) : (m_ws cA b n M)[i]? = some (b + i, .inl (cA κ, m_ar κ b M i)) := by
  rw [m_ws_at ht.1, m_e_a ht.2 hκ]
theorem m_get {i κ k index N : Nat} {C1 nm ds : String} {T1 : u_T} {v : Value} (C : CallFix p m c cc nL s args lw_T own) (hK : m_K D cA s) (hP : m_H D cA b n M H) (ht : m_tp n i κ) (hκ : κ < 8) (hcl : m_cl[κ]? = some (C1, T1, N)) (hin : ∀ w ∈ u_ws C1 T1 N, w ∈ lw_T) (hk : k < N) (hn : k < m_nf κ) (hT : ∃ f, T1 k = (C1, nm, ds, f)) (hl : Cond.fieldLink own index C1 nm ds ∈ lw_T) (hv : m_fv b M i k (m_ft κ k) = v) (hdg : decode cc pc = .ok (.getfield index, 3))
    (kk : W p l e R s m args below meth c H locs cells slots Q (F0 m (pc + 3) ls (v :: rest))) : W p l e R s m args below meth c H locs cells slots Q (F0 m pc ls (.ref (b + i) :: rest)) := by
  obtain ⟨f, hT⟩ := hT
  have e1 : (T1 k).1 = C1 := by rw [hT]
  have e2 : (T1 k).2.1 = nm := by rw [hT]
  have e3 : (T1 k).2.2.1 = ds := by rw [hT]
  refine va_get (D := D) (ci := κ) (own := own) (ref := C1) C.1 C.2.1 C.2.2.2.2 hin C.2.2.2.1 hK hP.1 i (m_hp hP ht hκ) hcl k hk (by rw [e2, e3]; exact C.2.2.2.2 _ hl) (fun x h => by rw [← e1]; exact h) (v := v) ?_ hdg kk
  rw [m_fl_at hn, hv]
theorem m_store {i κ k : Nat} {M' : Mem} {v : Value} {H1 : Heap} {cell : Cell} {C1 : String} {T1 : u_T} {N : Nat} (hP : m_H D cA b n M H) (ht : m_tp n i κ) (hκ : κ < 8) (hcl : m_cl[κ]? = some (C1, T1, N)) (hk : k < N) (hn : k < m_nf κ) (hap : ∀ x y, x < N → y < N → x ≠ y → (D.2 κ) x ≠ (D.2 κ) y)
    (q2 : cell.cls = D.1 κ) (q3 : cell.vm = .none) (q4 : ∀ k, k < N → cell.slots[D.2 κ k]? = some (vp_V (m_fl κ b M i) k)) (hv : m_fv b M' i k (m_ft κ k) = v) (ho : ∀ l ty, l ≠ k → m_fv b M' i l ty = m_fv b M i l ty) (hj : ∀ j, j ≠ i → m_e cA b M' j = m_e cA b M j)
    (e1 : H1[b + i]? = some (cell.setSlot (D.2 κ k) v)) (e2 : H1.size = H.size) (e3 : ∀ q, q ≠ b + i → H1[q]? = H[q]?) : m_H D cA b n M' H1 := by
  have hl : k < (m_fl κ b M i).length := by simp [m_fl, hn]
  have h1 := hP.1.set m_D (m_hp hP ht hκ) (e := .inr (κ, (m_fl κ b M i).set k v)) ⟨_, hcl, t_OB.to (V := updV (vp_V (m_fl κ b M i)) k v) ⟨_, e1, q2, q3, t_set q4 hap hk v⟩ (fun j _ => vp_updV_set hl v j)⟩ e3
  rw [m_fl_set hv ho, m_ws_set (M' := M') (m_e_o ht.2 hκ) hj] at h1
  exact ⟨h1, by rw [e2]; exact hP.2⟩
theorem m_put {i κ k index N : Nat} {C1 nm ds : String} {T1 : u_T} {v : Value} {M' : Mem} {ty : FieldType} (C : CallFix p m c cc nL s args lw_T own) (hK : m_K D cA s) (hP : m_H D cA b n M H) (hS : va_S (m_A b) s.heap H locs) (ht : m_tp n i κ) (hκ : κ < 8) (hcl : m_cl[κ]? = some (C1, T1, N)) (hin : ∀ w ∈ u_ws C1 T1 N, w ∈ lw_T) (ty0 : Nat → FieldType) (hty : ∀ k, k < N → parseFieldDescriptor (T1 k).2.2.1 = some (ty0 k)) (hnm : ∀ a, a < N → ∀ b, b < N → a ≠ b → (T1 a).2.1 ≠ (T1 b).2.1) (hk : k < N) (hn : k < m_nf κ) (hT : T1 k = (C1, nm, ds, false)) (hl : Cond.fieldLink own index C1 nm ds ∈ lw_T) (hd : parseFieldDescriptor ds = some ty) (hnar : narrow ty v = v) (hfit : fits ty v = true)
    (hv : m_fv b M' i k (m_ft κ k) = v) (ho : ∀ l ty, l ≠ k → m_fv b M' i l ty = m_fv b M i l ty) (hj : ∀ j, j ≠ i → m_e cA b M' j = m_e cA b M j) (hdg : decode cc pc = .ok (.putfield index, 3))
    (kk : ∀ (H1 : Heap) (locs1 : List Loc), m_H D cA b n M' H1 → va_S (m_A b) s.heap H1 locs1 → H1.size = H.size → W p l e R s m args below meth c H1 locs1 cells slots Q (F0 m (pc + 3) ls rest)) : W p l e R s m args below meth c H locs cells slots Q (F0 m pc ls (v :: .ref (b + i) :: rest)) := by
  have hts := C.2.2.2.2
  have hap := va_apart (own := own) hts hin ty0 hty hnm hK hcl
  obtain ⟨r, h1, cell, q1, q2, q3, q4⟩ := hP.1 i _ (m_hp hP ht hκ)
  have hr : r = (C1, T1, N) := Option.some.inj (h1.symm.trans hcl)
  subst hr
  obtain ⟨hS1, hfc, kC, hkC, hkind⟩ := hK.1 κ _ hcl
  have hS2 := hS1 k hk
  have hlay := hts _ (hin _ (u_in_lay hk))
  have hlays := u_lays hts hin hk
  unfold u_lay at hlay
  rw [if_neg (by rw [hT]; simp)] at hlay
  simp only [hT] at hS2 hlay hlays
  obtain ⟨cf, kf, fi, f, hi, hsl⟩ := hS2
  have hst := (u_facts hfc hkC hlays hi).1
  have h6 := u_store hfc hkC hkind hlay hi hd hnar hfit
  refine W.putK C.1 C.2.1 (f := f) ⟨C.2.2.2.1, hts _ hl, ⟨_, _, _, hi⟩, hst⟩ (by rw [q2]; exact h6) q1 q3 (by rw [hsl]; exact k2_hasslot (q4 k hk)) rfl rfl hdg fun H' e1 e2 e3 => ?_
  rw [hsl] at e1 ⊢
  exact kk H' _ (m_store hP ht hκ hcl hk hn hap q2 q3 q4 hv ho hj e1 e2 e3) (hS.put e2 e3 (Nat.le_add_right b i)) e2
theorem m_putF {i κ k index N : Nat} {C1 nm ds : String} {T1 : u_T} {v : Value} {M' : Mem} {ty : FieldType} (C : CallFix p m c cc nL s args lw_T own) (hK : m_K D cA s) (hP : m_H D cA b n M H) (hS : va_S (m_A b) s.heap H locs) (hin2 : meth.name = "<init>") (ht : m_tp n i κ) (hκ : κ < 8) (hcl : m_cl[κ]? = some (C1, T1, N)) (hin : ∀ w ∈ u_ws C1 T1 N, w ∈ lw_T) (ty0 : Nat → FieldType) (hty : ∀ k, k < N → parseFieldDescriptor (T1 k).2.2.1 = some (ty0 k)) (hnm : ∀ a, a < N → ∀ b, b < N → a ≠ b → (T1 a).2.1 ≠ (T1 b).2.1) (hk : k < N) (hn : k < m_nf κ) (hT : T1 k = (C1, nm, ds, true)) (hown : C1 = own) (hl : Cond.fieldLink own index C1 nm ds ∈ lw_T) (hd : parseFieldDescriptor ds = some ty) (hnar : narrow ty v = v) (hfit : fits ty v = true)
    (hv : m_fv b M' i k (m_ft κ k) = v) (ho : ∀ l ty, l ≠ k → m_fv b M' i l ty = m_fv b M i l ty) (hj : ∀ j, j ≠ i → m_e cA b M' j = m_e cA b M j) (hdg : decode cc pc = .ok (.putfield index, 3))
    (kk : ∀ (H1 : Heap) (locs1 : List Loc), m_H D cA b n M' H1 → va_S (m_A b) s.heap H1 locs1 → H1.size = H.size → W p l e R s m args below meth c H1 locs1 cells slots Q (F0 m (pc + 3) ls rest)) : W p l e R s m args below meth c H locs cells slots Q (F0 m pc ls (v :: .ref (b + i) :: rest)) := by
  have hts := C.2.2.2.2
  have hap := va_apart (own := own) hts hin ty0 hty hnm hK hcl
  obtain ⟨r, h1, cell, q1, q2, q3, q4⟩ := hP.1 i _ (m_hp hP ht hκ)
  have hr : r = (C1, T1, N) := Option.some.inj (h1.symm.trans hcl)
  subst hr
  obtain ⟨hS1, hfc, kC, hkC, hkind⟩ := hK.1 κ _ hcl
  have hS2 := hS1 k hk
  have hlay := hts _ (hin _ (u_in_lay hk))
  have hlays := u_lays hts hin hk
  unfold u_lay at hlay
  rw [if_pos (by rw [hT])] at hlay
  simp only [hT] at hS2 hlay hlays
  obtain ⟨cf, kf, fi, f, hi, hsl⟩ := hS2
  have hst := (u_facts hfc hkC hlays hi).1
  have hcf : m.cls = cf := by
    obtain ⟨_, _, c', _, _, _, -, -, hf', -, -, -, hown2, -⟩ := Cond.laysFinal_spec hlay
    have e1 : c' = cf := by have := hi.symm.trans hf'; simp at this; exact this.1.symm
    rw [hown] at hown2
    rw [← e1]; exact Option.some.inj (C.2.2.2.1.symm.trans hown2)
  have h6 := u_fits hfc hkC hkind (Or.inr hlay) hi hd hnar hfit
  refine W.putFinK C.1 C.2.1 C.2.2.2.1 (hts _ hl) hi hst hcf hin2 (by rw [q2]; exact h6) q1 q3 (by rw [hsl]; exact k2_hasslot (q4 k hk)) rfl rfl hdg fun H' e1 e2 e3 => ?_
  rw [hsl] at e1 ⊢
  exact kk H' _ (m_store hP ht hκ hcl hk hn hap q2 q3 q4 hv ho hj e1 e2 e3) (hS.put e2 e3 (Nat.le_add_right b i)) e2
-- arrays
theorem m_ar_i {κ : Nat} (h : κ ≤ 9) (i : Nat) : m_ar κ b M i = (m_len i, .inl (M.1 i)) := by simp [m_ar, h]
theorem m_ar_l (i : Nat) : m_ar 10 b M i = (m_len i, .inr (.inl (M.2.2 i))) := by simp [m_ar]
theorem m_ar_q {κ : Nat} (h : 10 < κ) (i : Nat) : m_ar κ b M i = (m_len i, .inr (.inr (.inr (.inr (fun k => (M.2.1 i k).map (fun j => b + j)))))) := by
  have h1 : ¬ κ ≤ 9 := by omega
  have h2 : ¬ κ = 10 := by omega
  simp [m_ar, h1, h2]
theorem m_hi {i κ : Nat} (hP : m_H D cA b n M H) (ht : m_tp n i κ) (h8 : ¬ κ < 8) (h : κ ≤ 9) : (m_ws cA b n M)[i]? = some (b + i, .inl (cA κ, m_len i, .inl (M.1 i))) := by rw [m_ha hP ht h8, m_ar_i h]
theorem m_hq {i κ : Nat} (hP : m_H D cA b n M H) (ht : m_tp n i κ) (h : 10 < κ) : (m_ws cA b n M)[i]? = some (b + i, .inl (cA κ, m_len i, .inr (.inr (.inr (.inr (fun k => (M.2.1 i k).map (fun j => b + j))))))) := by rw [m_ha hP ht (by omega), m_ar_q h]
theorem m_iald {i : Nat} {j : Int32} (C : CallFix p m c cc nL s args lw_T own) (hK : m_K D cA s) (hP : m_H D cA b n M H) (ht : m_tp n i 8) (hin : vp_in j (m_len i)) (hdg : decode cc pc = .ok (.iaload, 1))
    (kk : W p l e R s m args below meth c H locs cells slots Q (F0 m (pc + 1) ls (.int (M.1 i j.toNatClampNeg) :: rest))) : W p l e R s m args below meth c H locs cells slots Q (F0 m pc ls (.int j :: .ref (b + i) :: rest)) :=
  va_iald C.1 C.2.1 hK hP.1 i 0 (m_hi hP ht (by decide) (by decide)) rfl hin hdg kk
theorem m_cald {i : Nat} {j : Int32} (C : CallFix p m c cc nL s args lw_T own) (hK : m_K D cA s) (hP : m_H D cA b n M H) (ht : m_tp n i 9) (hin : vp_in j (m_len i)) (hdg : decode cc pc = .ok (.caload, 1))
    (kk : W p l e R s m args below meth c H locs cells slots Q (F0 m (pc + 1) ls (.int (M.1 i j.toNatClampNeg) :: rest))) : W p l e R s m args below meth c H locs cells slots Q (F0 m pc ls (.int j :: .ref (b + i) :: rest)) :=
  va_cald C.1 C.2.1 hK hP.1 i 1 (m_hi hP ht (by decide) (by decide)) rfl hin hdg kk
theorem m_aldq {i κ q : Nat} {E : String} {j : Int32} (C : CallFix p m c cc nL s args lw_T own) (hK : m_K D cA s) (hP : m_H D cA b n M H) (ht : m_tp n i κ) (h : 10 < κ) (hty : (m_tys cA)[κ - 8]? = some (cA κ, .object E)) (hin : vp_in j (m_len i)) (hv : M.2.1 i j.toNatClampNeg = some q) (hdg : decode cc pc = .ok (.aaload, 1))
    (kk : W p l e R s m args below meth c H locs cells slots Q (F0 m (pc + 1) ls (.ref (b + q) :: rest))) : W p l e R s m args below meth c H locs cells slots Q (F0 m pc ls (.int j :: .ref (b + i) :: rest)) := by
  refine va_aldq C.1 C.2.1 hK hP.1 i (κ - 8) (m_hq hP ht h) hty hin hdg ?_
  rw [hv]
  exact kk
theorem m_alen {i κ : Nat} {ty : FieldType} (C : CallFix p m c cc nL s args lw_T own) (hK : m_K D cA s) (hP : m_H D cA b n M H) (ht : m_tp n i κ) (h : ¬ κ < 8) (hty : (m_tys cA)[κ - 8]? = some (cA κ, ty)) (hdg : decode cc pc = .ok (.arraylength, 1))
    (kk : W p l e R s m args below meth c H locs cells slots Q (F0 m (pc + 1) ls (.int (nI (m_len i)) :: rest))) : W p l e R s m args below meth c H locs cells slots Q (F0 m pc ls (.ref (b + i) :: rest)) :=
  va_alen C.1 C.2.1 hK hP.1 i (κ - 8) (m_ha hP ht h) hty (v := nI (m_len i)) rfl hdg kk
theorem m_size {M' : Mem} (h : va_P D m_cl (m_ws cA b n M') H) (hn : n ≠ 0) : b + n ≤ H.size := by
  rcases n with _ | n
  · exact absurd rfl hn
  · have h4 : b + n < H.size := (h n _ (m_ws_at (Nat.lt_succ_self n))).lt
    omega
theorem m_set_a {i κ : Nat} {M' : Mem} {H1 : Heap} {x : vp_A} (ht : m_tp n i κ) (h8 : ¬ κ < 8) (hx : m_ar κ b M' i = x) (ho : ∀ j, j ≠ i → m_e cA b M' j = m_e cA b M j) (h : va_P D m_cl ((m_ws cA b n M).set i (b + i, .inl (cA κ, x))) H1) : m_H D cA b n M' H1 := by
  rw [m_ws_set (M' := M') (by rw [m_e_a ht.2 h8, hx]) ho] at h
  exact ⟨h, m_size h (by have := ht.1; omega)⟩
theorem m_iast {i : Nat} {j x : Int32} (C : CallFix p m c cc nL s args lw_T own) (hK : m_K D cA s) (hP : m_H D cA b n M H) (hS : va_S (m_A b) s.heap H locs) (ht : m_tp n i 8) (hin : vp_in j (m_len i)) (hdg : decode cc pc = .ok (.iastore, 1))
    (kk : ∀ (M' : Mem) (H1 : Heap) (locs1 : List Loc), M' = uI M i j.toNatClampNeg x → m_H D cA b n M' H1 → va_S (m_A b) s.heap H1 locs1 → W p l e R s m args below meth c H1 locs1 cells slots Q (F0 m (pc + 1) ls rest)) : W p l e R s m args below meth c H locs cells slots Q (F0 m pc ls (.int x :: .int j :: .ref (b + i) :: rest)) :=
  va_iast C.1 C.2.1 hK hP.1 m_D hS i 0 (m_hi hP ht (by decide) (by decide)) rfl hin hdg fun H1 locs1 h1 _ h3 => kk _ H1 locs1 rfl (m_set_a ht (by decide) (by
    rw [m_ar_i (by decide)]
    congr 2
    funext k
    simp [uI, upd]) (fun j hj => m_e_uI_o hj) h1) h3
theorem m_cast {i : Nat} {j x : Int32} (C : CallFix p m c cc nL s args lw_T own) (hK : m_K D cA s) (hP : m_H D cA b n M H) (hS : va_S (m_A b) s.heap H locs) (ht : m_tp n i 9) (hin : vp_in j (m_len i)) (hdg : decode cc pc = .ok (.castore, 1))
    (kk : ∀ (M' : Mem) (H1 : Heap) (locs1 : List Loc), M' = uI M i j.toNatClampNeg (vp_nar .char x) → m_H D cA b n M' H1 → va_S (m_A b) s.heap H1 locs1 → W p l e R s m args below meth c H1 locs1 cells slots Q (F0 m (pc + 1) ls rest)) : W p l e R s m args below meth c H locs cells slots Q (F0 m pc ls (.int x :: .int j :: .ref (b + i) :: rest)) :=
  va_cast C.1 C.2.1 hK hP.1 m_D hS i 1 (m_hi hP ht (by decide) (by decide)) rfl hin hdg fun H1 locs1 h1 _ h3 => kk _ H1 locs1 rfl (m_set_a ht (by decide) (by
    rw [m_ar_i (by decide)]
    congr 2
    funext k
    simp [uI, upd]) (fun j hj => m_e_uI_o hj) h1) h3
theorem m_astq {i κ q ci N : Nat} {E : String} {T1 : u_T} {j : Int32} (C : CallFix p m c cc nL s args lw_T own) (hK : m_K D cA s) (hP : m_H D cA b n M H) (hS : va_S (m_A b) s.heap H locs) (ht : m_tp n i κ) (h : 10 < κ) (hty : (m_tys cA)[κ - 8]? = some (cA κ, .object E)) (hq : m_tp n q ci) (hci : ci < 8) (hcl : m_cl[ci]? = some (E, T1, N)) (hin : vp_in j (m_len i)) (hdg : decode cc pc = .ok (.aastore, 1))
    (kk : ∀ (M' : Mem) (H1 : Heap) (locs1 : List Loc), M' = uR M i j.toNatClampNeg (some q) → m_H D cA b n M' H1 → va_S (m_A b) s.heap H1 locs1 → W p l e R s m args below meth c H1 locs1 cells slots Q (F0 m (pc + 1) ls rest)) : W p l e R s m args below meth c H locs cells slots Q (F0 m pc ls (.ref (b + q) :: .int j :: .ref (b + i) :: rest)) :=
  va_astq (r := (E, T1, N)) C.1 C.2.1 hK hP.1 m_D hS i (κ - 8) q ci (m_hq hP ht h) hty (m_hp hP hq hci) hcl hin hdg fun H1 locs1 h1 _ h3 => kk _ H1 locs1 rfl (m_set_a ht (by omega) (by
    rw [m_ar_q h]
    congr 5
    funext k
    by_cases hk : k = j.toNatClampNeg <;> simp [uR, va_up, hk]) (fun j hj => m_e_uR_o hj) h1) h3
-- calls
theorem m_res {y : MethodName} {mc ms n' : Nat} {av : Array Value} {res : Option Value → Mem → Prop} {g : JFrame} {st0 : List Value} (hg : g = F0 m pc ls st0) (hS : va_S (m_A b) s.heap H locs) (hr : va_Run p l e R s m args below meth c H locs cells slots mc ms g rest (m_Q D cA b n' res av) (m_A b))
    (kk : ∀ (v : Option Value) (M' : Mem) (H1 : Heap) (locs1 : List Loc), res v M' → m_H D cA b n' M' H1 → va_S (m_A b) s.heap H1 locs1 → W p l e R s m args below meth c H1 locs1 (cells + mc) (slots + ms) Q (F0 m (pc + 3) ls (v.toList ++ rest))) : W p l e R s m args below meth c H locs cells slots Q g := by
  subst hg
  intro T hT X
  obtain ⟨v, st₀, t, T', L, h0, X', hL, e1, e2, ⟨⟨v', M', hv, hres, hH⟩, hz, hk⟩, st⟩ := hr T hT X
  cases hv
  rw [h0] at hz hk
  obtain ⟨t2, a1, b1⟩ := kk v M' T'.heap (locs ++ L) hres (by rw [e1]; exact hH)
    ⟨Nat.le_trans hS.1 (by rw [e1]; exact hz), fun q h1 h2 => by rw [e1, hk q (Nat.lt_of_lt_of_le h1 hS.1) h2]; exact hS.2.1 q h1 h2, fun q hq => by
      rcases List.mem_append.mp hq with h | h
      · exact hS.2.2 q h
      · exact hL q h⟩ T' rfl X'
  exact ⟨t2, st t2 a1, b1⟩
theorem m_K.moved {u U : State} (hvm : u.vm.Alike U.vm) (h : m_K D cA u) : m_K D cA U := va_K.moved hvm h
theorem m_callB {y : MethodName} {bytes : ByteArray} {maxL index mc ms np : Nat} {ret : Option FieldType} {rm : Room} (C : CallFix p m c cc nL s args lw_T own) (hc : rm.cells = mc ∧ rm.slots = ms) (hml : Cond.methodLink own index y ∈ lw_T) (hini : Cond.initialized y.cls ∈ lw_T) (hco : Cond.code y bytes maxL ret ∈ lw_T)
    (hd : y.cls ≠ "java/lang/invoke/MethodHandle" ∧ y.cls ≠ "java/lang/invoke/VarHandle" ∧ (parseMethodDescriptor y.desc).map (fun d => d.parameters.length) = some np) (hR : rm.frames + 1 ≤ R.frames ∧ 8 + (maxL + 11) + rm.locals ≤ R.locals) : CallB R s args own index y bytes maxL ret (Cond.code y bytes maxL ret :: lw_T) rm mc ms np := by
  have hts := C.2.2.2.2
  refine callB_of np hts ?_ rfl hc.1 hc.2 (hts _ hini) (hts _ hml) hd hR
  intro w hw
  have hw' : w ∈ lw_T := by
    rcases List.mem_cons.mp hw with rfl | h
    · exact hco
    · exact h
  exact ⟨hw', good_of_word (lw_T_good hw')⟩
theorem m_callV {y : MethodName} {bytes : ByteArray} {maxL index np κ N i : Nat} {ret : Option FieldType} {rm : Room} {T1 : u_T} {As : List Value} {res : Option Value → Mem → Prop} {st0 : List Value} (C : CallFix p m c cc nL s args lw_T own) (hK : m_K D cA s) (hP : m_H D cA b n M H) (hS : va_S (m_A b) s.heap H locs) (hlv : ls.size = nL) (hcs : cells ≤ R.cells ∧ slots ≤ R.slots)
    (hM : m_C l D cA b n n M y bytes maxL ret rm 0 0 (.ref (b + i) :: As) res) (hst : st0 = As.reverse ++ .ref (b + i) :: rest) (hn : As.length = np) (ht : m_tp n i κ) (hκ : κ < 8) (hcl : m_cl[κ]? = some (y.cls, T1, N))
    (hml : Cond.methodLink own index y ∈ lw_T) (him : Cond.instanceMethod y ∈ lw_T) (hse : Cond.selects y.cls y y ∈ lw_T) (hini : Cond.initialized y.cls ∈ lw_T) (hco : Cond.code y bytes maxL ret ∈ lw_T) (hc : rm.cells = 0 ∧ rm.slots = 0)
    (hd : y.cls ≠ "java/lang/invoke/MethodHandle" ∧ y.cls ≠ "java/lang/invoke/VarHandle" ∧ (parseMethodDescriptor y.desc).map (fun d => d.parameters.length) = some np) (hR : rm.frames + 1 ≤ R.frames ∧ 8 + (maxL + 11) + rm.locals ≤ R.locals) (hroom : (rest.map fun v => v.category).sum ≤ 8) (hdg : decode cc pc = .ok (.invokevirtual index, 3))
    (kk : ∀ (v : Option Value) (M' : Mem) (H1 : Heap) (locs1 : List Loc), res v M' → m_H D cA b n M' H1 → va_S (m_A b) s.heap H1 locs1 → W p l e R s m args below meth c H1 locs1 cells slots Q (F0 m (pc + 3) ls (v.toList ++ rest))) : W p l e R s m args below meth c H locs cells slots Q (F0 m pc ls st0) :=
  m_res (y := y) rfl hS (va_runV C hM ⟨m_callB C hc hml hini hco hd hR, C.2.2.2.2 _ him, C.2.2.2.2 _ hse⟩ ⟨m_blind, va_recv hK hP.1 hcl (m_hp hP ht hκ), fun U hU hW => ⟨rfl, hK.moved hW.alike, by rw [hU]; exact hP⟩⟩ rfl hn hlv hst (lv_room hroom) hdg ⟨hcs.1, hcs.2⟩) kk
theorem m_callS {y : MethodName} {bytes : ByteArray} {maxL index np : Nat} {ret : Option FieldType} {rm : Room} {As : List Value} {res : Option Value → Mem → Prop} {st0 : List Value} (C : CallFix p m c cc nL s args lw_T own) (hK : m_K D cA s) (hP : m_H D cA b n M H) (hS : va_S (m_A b) s.heap H locs) (hlv : ls.size = nL) (hcs : cells ≤ R.cells ∧ slots ≤ R.slots)
    (hM : m_C l D cA b n n M y bytes maxL ret rm 0 0 As res) (hst : st0 = As.reverse ++ rest) (hn : As.length = np)
    (hml : Cond.methodLink own index y ∈ lw_T) (hsm : Cond.static y ∈ lw_T) (hini : Cond.initialized y.cls ∈ lw_T) (hco : Cond.code y bytes maxL ret ∈ lw_T) (hc : rm.cells = 0 ∧ rm.slots = 0)
    (hd : y.cls ≠ "java/lang/invoke/MethodHandle" ∧ y.cls ≠ "java/lang/invoke/VarHandle" ∧ (parseMethodDescriptor y.desc).map (fun d => d.parameters.length) = some np) (hR : rm.frames + 1 ≤ R.frames ∧ 8 + (maxL + 11) + rm.locals ≤ R.locals) (hroom : (rest.map fun v => v.category).sum ≤ 8) (hdg : decode cc pc = .ok (.invokestatic index, 3))
    (kk : ∀ (v : Option Value) (M' : Mem) (H1 : Heap) (locs1 : List Loc), res v M' → m_H D cA b n M' H1 → va_S (m_A b) s.heap H1 locs1 → W p l e R s m args below meth c H1 locs1 cells slots Q (F0 m (pc + 3) ls (v.toList ++ rest))) : W p l e R s m args below meth c H locs cells slots Q (F0 m pc ls st0) :=
  m_res (y := y) rfl hS (va_runS C hM ⟨m_callB C hc hml hini hco hd hR, C.2.2.2.2 _ hsm⟩ ⟨m_blind, fun U hU hW => ⟨rfl, hK.moved hW.alike, by rw [hU]; exact hP⟩⟩ rfl hn hlv hst (lv_room hroom) hdg ⟨hcs.1, hcs.2⟩) kk
-- ends
theorem m_end {n' : Nat} {M' : Mem} {v : Option Value} {res : Option Value → Mem → Prop} (hP : m_H D cA b n' M' H) (hS : va_S (m_A b) s.heap H locs) (hq : res v M') (t : State) (ht : t.heap = H) : m_Q D cA b n' res args s (.returned v) t := ⟨⟨v, M', rfl, hq, by rw [ht]; exact hP⟩, hS.F ht⟩
theorem m_vret {n' mc ms : Nat} {M' : Mem} {P : Mem → Prop} (C : CallFix p m c cc nL s args lw_T own) (hr : meth.sig.returnType = none) (hlk : meth.locks = false) (hP : m_H D cA b n' M' H) (hS : va_S (m_A b) s.heap H locs) (hdg : decode cc pc = .ok (.return_, 1)) (hq : P M') : W p l e R s m args below meth c H locs mc ms (MQ below (m_Q D cA b n' (rV P)) args s mc ms (m_A b)) (F0 m pc ls []) :=
  W.vret C.1 C.2.1 hr (fun t ht _ => m_end hP hS ⟨rfl, hq⟩ t ht) hS.2.2 hdg hlk
theorem m_iret {n' mc ms : Nat} {M' : Mem} {P : Int32 → Mem → Prop} {v : Int32} (C : CallFix p m c cc nL s args lw_T own) (hr : meth.sig.returnType = some .int) (hlk : meth.locks = false) (hP : m_H D cA b n' M' H) (hS : va_S (m_A b) s.heap H locs) (hdg : decode cc pc = .ok (.ireturn, 1)) (hq : P v M') : W p l e R s m args below meth c H locs mc ms (MQ below (m_Q D cA b n' (rI P)) args s mc ms (m_A b)) (F0 m pc ls [.int v]) :=
  W.iret C.1 C.2.1 hr (fun t ht _ => m_end hP hS ⟨v, rfl, hq⟩ t ht) hS.2.2 hdg hlk
theorem m_zret {n' mc ms : Nat} {M' : Mem} {P : Bool → Mem → Prop} {v : Bool} (C : CallFix p m c cc nL s args lw_T own) (hr : meth.sig.returnType = some .boolean) (hlk : meth.locks = false) (hP : m_H D cA b n' M' H) (hS : va_S (m_A b) s.heap H locs) (hdg : decode cc pc = .ok (.ireturn, 1)) (hq : P v M') : W p l e R s m args below meth c H locs mc ms (MQ below (m_Q D cA b n' (rZ P)) args s mc ms (m_A b)) (F0 m pc ls [.int (bI v)]) :=
  W.zret C.1 C.2.1 hr (bI_nar v) (fun t ht _ => m_end hP hS ⟨v, rfl, hq⟩ t ht) hS.2.2 hdg hlk
theorem m_lret {n' mc ms : Nat} {M' : Mem} {P : Int64 → Mem → Prop} {v : Int64} (C : CallFix p m c cc nL s args lw_T own) (hr : meth.sig.returnType = some .long) (hlk : meth.locks = false) (hP : m_H D cA b n' M' H) (hS : va_S (m_A b) s.heap H locs) (hdg : decode cc pc = .ok (.lreturn, 1)) (hq : P v M') : W p l e R s m args below meth c H locs mc ms (MQ below (m_Q D cA b n' (rL P)) args s mc ms (m_A b)) (F0 m pc ls [.long v]) :=
  W.lret C.1 C.2.1 hr (fun t ht _ => m_end hP hS ⟨v, rfl, hq⟩ t ht) hS.2.2 hdg hlk
theorem m_dret {n' mc ms : Nat} {M' : Mem} {P : UInt64 → Mem → Prop} {v : UInt64} (C : CallFix p m c cc nL s args lw_T own) (hr : meth.sig.returnType = some .double) (hlk : meth.locks = false) (hP : m_H D cA b n' M' H) (hS : va_S (m_A b) s.heap H locs) (hdg : decode cc pc = .ok (.dreturn, 1)) (hq : P v M') : W p l e R s m args below meth c H locs mc ms (MQ below (m_Q D cA b n' (rD P)) args s mc ms (m_A b)) (F0 m pc ls [.double v]) :=
  W.dret C.1 C.2.1 hr (fun t ht _ => m_end hP hS ⟨v, rfl, hq⟩ t ht) hS.2.2 hdg hlk
theorem m_rret {n' mc ms v : Nat} {nm : String} {M' : Mem} {P : Nat → Mem → Prop} (C : CallFix p m c cc nL s args lw_T own) (hr : meth.sig.returnType = some (.object nm)) (hlk : meth.locks = false) (hP : m_H D cA b n' M' H) (hS : va_S (m_A b) s.heap H locs) (hdg : decode cc pc = .ok (.areturn, 1)) (hq : P v M') : W p l e R s m args below meth c H locs mc ms (MQ below (m_Q D cA b n' (rR b P)) args s mc ms (m_A b)) (F0 m pc ls [.ref (b + v)]) :=
  W.aret C.1 C.2.1 hr (Or.inl ⟨nm, rfl⟩) (Or.inr ⟨_, rfl⟩) (fun t ht _ => m_end hP hS ⟨v, rfl, hq⟩ t ht) hS.2.2 hdg hlk
theorem m_oret {n' mc ms : Nat} {v : Option Nat} {nm : String} {M' : Mem} {P : Option Nat → Mem → Prop} (C : CallFix p m c cc nL s args lw_T own) (hr : meth.sig.returnType = some (.object nm)) (hlk : meth.locks = false) (hP : m_H D cA b n' M' H) (hS : va_S (m_A b) s.heap H locs) (hdg : decode cc pc = .ok (.areturn, 1)) (hq : P v M') : W p l e R s m args below meth c H locs mc ms (MQ below (m_Q D cA b n' (rO b P)) args s mc ms (m_A b)) (F0 m pc ls [va_rf (v.map (fun j => b + j))]) :=
  W.aret C.1 C.2.1 hr (Or.inl ⟨nm, rfl⟩) (va_rf_or _) (fun t ht _ => m_end hP hS ⟨v, rfl, hq⟩ t ht) hS.2.2 hdg hlk
/-- a reference that may be null, put into a local -/
theorem m_astO_n {k : Fin 4} {i : Nat} {r : Option Nat} {lv lv' : List (Nat × Value)} (hexec : p.tables.exec = Jvm.exec) (hb : c.code = cc) (hdg : decode cc pc = .ok (.astore_n k, 1)) (hi : (k : Nat) = i) (h : lv_has ls nL lv) (hn : i < nL) (hl : (i, va_rf r) :: lv.filter (fun q => !(q.1 == i) && !(q.1 + 1 == i && q.2.category == 2)) = lv')
    (kk : ∀ ls' : Array Slot, lv_has ls' nL lv' → W p l e R s m args below meth c H locs cells slots Q (F0 m (pc + 1) ls' rest)) : W p l e R s m args below meth c H locs cells slots Q (F0 m pc ls (va_rf r :: rest)) := by
  cases r with
  | none => exact lv_astore_nN hexec hb hdg hi h hn hl kk
  | some a => exact lv_astore_n hexec hb hdg hi h hn hl kk
theorem m_astO {i : Nat} {r : Option Nat} {lv lv' : List (Nat × Value)} (hexec : p.tables.exec = Jvm.exec) (hb : c.code = cc) (hdg : decode cc pc = .ok (.astore i, 2)) (h : lv_has ls nL lv) (hn : i < nL) (hl : (i, va_rf r) :: lv.filter (fun q => !(q.1 == i) && !(q.1 + 1 == i && q.2.category == 2)) = lv')
    (kk : ∀ ls' : Array Slot, lv_has ls' nL lv' → W p l e R s m args below meth c H locs cells slots Q (F0 m (pc + 2) ls' rest)) : W p l e R s m args below meth c H locs cells slots Q (F0 m pc ls (va_rf r :: rest)) := by
  cases r with
  | none => exact lv_astoreN hexec hb hdg h hn hl kk
  | some a => exact lv_astore hexec hb hdg h hn hl kk
theorem m_aldO_n {k : Fin 4} {i : Nat} {r : Option Nat} (hexec : p.tables.exec = Jvm.exec) (hb : c.code = cc) (hdg : decode cc pc = .ok (.aload_n k, 1)) (hi : (k : Nat) = i) (hl : ls[i]? = some (.val (va_rf r)))
    (kk : W p l e R s m args below meth c H locs cells slots Q (F0 m (pc + 1) ls (va_rf r :: rest))) : W p l e R s m args below meth c H locs cells slots Q (F0 m pc ls rest) := by
  cases r with
  | none => exact lv_aload_nN hexec hb hdg hi hl kk
  | some a => exact lv_aload_n hexec hb hdg hi hl kk
theorem m_aldO {i : Nat} {r : Option Nat} (hexec : p.tables.exec = Jvm.exec) (hb : c.code = cc) (hdg : decode cc pc = .ok (.aload i, 2)) (hl : ls[i]? = some (.val (va_rf r)))
    (kk : W p l e R s m args below meth c H locs cells slots Q (F0 m (pc + 2) ls (va_rf r :: rest))) : W p l e R s m args below meth c H locs cells slots Q (F0 m pc ls rest) := by
  cases r with
  | none => exact lv_aloadN hexec hb hdg hl kk
  | some a => exact lv_aload hexec hb hdg hl kk
theorem m_case {dflt lo hi : Int} {offs : Array Int} {len tgt : Nat} {x v : Int32} {off : Int} (hexec : p.tables.exec = Jvm.exec) (hb : c.code = cc) (cx : x = v) (hdg : decode cc pc = .ok (.tableswitch dflt lo hi offs, len)) (h1 : ¬ v.toInt < lo) (h2 : ¬ hi < v.toInt) (ho : offs[(v.toInt - lo).toNat]? = some off) (ht : (pc : Int) + off = (tgt : Int))
    (k : W p l e R s m args below meth c H locs cells slots Q (F0 m tgt ls rest)) : W p l e R s m args below meth c H locs cells slots Q (F0 m pc ls (.int x :: rest)) := by
  subst cx
  exact lv_tableIn hexec hb hdg h1 h2 ho ht k
theorem m_lcase {dflt : Int} {ps : Array (Int × Int)} {len tgt : Nat} {x v : Int32} {off : Int} (hexec : p.tables.exec = Jvm.exec) (hb : c.code = cc) (cx : x = v) (hdg : decode cc pc = .ok (.lookupswitch dflt ps, len)) (hp : (ps.toList.zip (ps.toList.drop 1)).all (fun (a, next) => a.1 < next.1) = true) (ho : Op.lookupswitch.offset ps.toList dflt v.toInt = off) (ht : (pc : Int) + off = (tgt : Int))
    (k : W p l e R s m args below meth c H locs cells slots Q (F0 m tgt ls rest)) : W p l e R s m args below meth c H locs cells slots Q (F0 m pc ls (.int x :: rest)) := by
  subst cx
  exact lv_lookup hexec hb hdg hp ho ht k
end MR
theorem i_ne {x k : Int32} (h : ¬ x = k) : x.toInt ≠ k.toInt := fun e => h (Int32.toInt_inj.mp e)
end
section
/-! The tables' words by their places; the fields; the calls. Laid by gen.py. -/
theorem lw_in {w : Cond} (i : Nat) (h : tables_1[i]? = some w) : w ∈ lw_tbl := List.mem_append_right _ (List.mem_of_getElem? h)
theorem lw_ins {w : Cond} (i : Nat) (h : (k2_sels lw_privs)[i]? = some w) : w ∈ lw_tbl := List.mem_append_left _ (List.mem_of_getElem? h)
theorem inT0 : ∀ w ∈ wsX00, w ∈ lw_T := fun w h => lw_T_of ((by decide +kernel : ∀ w ∈ wsX00, w ∈ lw_tbl) w h) ((by decide +kernel : ∀ w ∈ wsX00, goodWord w = true) w h)
theorem inT1 : ∀ w ∈ wsX10, w ∈ lw_T := fun w h => lw_T_of ((by decide +kernel : ∀ w ∈ wsX10, w ∈ lw_tbl) w h) ((by decide +kernel : ∀ w ∈ wsX10, goodWord w = true) w h)
theorem inT2 : ∀ w ∈ wsX20, w ∈ lw_T := fun w h => lw_T_of ((by decide +kernel : ∀ w ∈ wsX20, w ∈ lw_tbl) w h) ((by decide +kernel : ∀ w ∈ wsX20, goodWord w = true) w h)
theorem inT3 : ∀ w ∈ wsX30, w ∈ lw_T := fun w h => lw_T_of ((by decide +kernel : ∀ w ∈ wsX30, w ∈ lw_tbl) w h) ((by decide +kernel : ∀ w ∈ wsX30, goodWord w = true) w h)
theorem inT4 : ∀ w ∈ wsX40, w ∈ lw_T := fun w h => lw_T_of ((by decide +kernel : ∀ w ∈ wsX40, w ∈ lw_tbl) w h) ((by decide +kernel : ∀ w ∈ wsX40, goodWord w = true) w h)
theorem inT5 : ∀ w ∈ wsX50, w ∈ lw_T := fun w h => lw_T_of ((by decide +kernel : ∀ w ∈ wsX50, w ∈ lw_tbl) w h) ((by decide +kernel : ∀ w ∈ wsX50, goodWord w = true) w h)
theorem inT6 : ∀ w ∈ wsX60, w ∈ lw_T := fun w h => lw_T_of ((by decide +kernel : ∀ w ∈ wsX60, w ∈ lw_tbl) w h) ((by decide +kernel : ∀ w ∈ wsX60, goodWord w = true) w h)
theorem q_1 : (Jvm.Cond.initialized "ForgeHeats") ∈ lw_T := lw_T_of (lw_in 1 (by decide +kernel)) rfl
theorem q_2 : (Jvm.Cond.initialized "ForgeHeats$Shop") ∈ lw_T := lw_T_of (lw_in 2 (by decide +kernel)) rfl
theorem q_3 : (Jvm.Cond.initialized "ForgeHeats$Heat") ∈ lw_T := lw_T_of (lw_in 3 (by decide +kernel)) rfl
theorem q_4 : (Jvm.Cond.initialized "ForgeHeats$Die") ∈ lw_T := lw_T_of (lw_in 4 (by decide +kernel)) rfl
theorem q_5 : (Jvm.Cond.initialized "ForgeHeats$Job") ∈ lw_T := lw_T_of (lw_in 5 (by decide +kernel)) rfl
theorem q_6 : (Jvm.Cond.initialized "ForgeHeats$Billet") ∈ lw_T := lw_T_of (lw_in 6 (by decide +kernel)) rfl
theorem q_14 : (Jvm.Cond.initialized "java/lang/Math") ∈ lw_T := lw_T_of (lw_in 14 (by decide +kernel)) rfl
theorem q_36 : (Jvm.Cond.fieldLink "ForgeHeats$Heat" (16 : Nat) "ForgeHeats$Heat" "stock" "I") ∈ lw_T := lw_T_of (lw_in 36 (by decide +kernel)) rfl
theorem q_38 : (Jvm.Cond.fieldLink "ForgeHeats$Shop" (170 : Nat) "ForgeHeats$Heat" "stock" "I") ∈ lw_T := lw_T_of (lw_in 38 (by decide +kernel)) rfl
theorem q_39 : (Jvm.Cond.fieldLink "ForgeHeats$Heat" (7 : Nat) "ForgeHeats$Heat" "low" "I") ∈ lw_T := lw_T_of (lw_in 39 (by decide +kernel)) rfl
theorem q_41 : (Jvm.Cond.fieldLink "ForgeHeats$Shop" (173 : Nat) "ForgeHeats$Heat" "low" "I") ∈ lw_T := lw_T_of (lw_in 41 (by decide +kernel)) rfl
theorem q_42 : (Jvm.Cond.fieldLink "ForgeHeats$Heat" (13 : Nat) "ForgeHeats$Heat" "high" "I") ∈ lw_T := lw_T_of (lw_in 42 (by decide +kernel)) rfl
theorem q_44 : (Jvm.Cond.fieldLink "ForgeHeats$Shop" (176 : Nat) "ForgeHeats$Heat" "high" "I") ∈ lw_T := lw_T_of (lw_in 44 (by decide +kernel)) rfl
theorem q_45 : (Jvm.Cond.fieldLink "ForgeHeats$Heat" (19 : Nat) "ForgeHeats$Heat" "made" "I") ∈ lw_T := lw_T_of (lw_in 45 (by decide +kernel)) rfl
theorem q_46 : (Jvm.Cond.fieldLink "ForgeHeats$Shop" (169 : Nat) "ForgeHeats$Heat" "made" "I") ∈ lw_T := lw_T_of (lw_in 46 (by decide +kernel)) rfl
theorem q_47 : (Jvm.Cond.fieldLink "ForgeHeats$Heat" (22 : Nat) "ForgeHeats$Heat" "scrap" "I") ∈ lw_T := lw_T_of (lw_in 47 (by decide +kernel)) rfl
theorem q_48 : (Jvm.Cond.fieldLink "ForgeHeats$Shop" (162 : Nat) "ForgeHeats$Heat" "scrap" "I") ∈ lw_T := lw_T_of (lw_in 48 (by decide +kernel)) rfl
theorem q_67 : (Jvm.Cond.fieldLink "ForgeHeats$Die" (9 : Nat) "ForgeHeats$Die" "blows" "I") ∈ lw_T := lw_T_of (lw_in 67 (by decide +kernel)) rfl
theorem q_69 : (Jvm.Cond.fieldLink "ForgeHeats$Shop" (239 : Nat) "ForgeHeats$Die" "blows" "I") ∈ lw_T := lw_T_of (lw_in 69 (by decide +kernel)) rfl
theorem q_70 : (Jvm.Cond.fieldLink "ForgeHeats$Die" (15 : Nat) "ForgeHeats$Die" "limit" "I") ∈ lw_T := lw_T_of (lw_in 70 (by decide +kernel)) rfl
theorem q_72 : (Jvm.Cond.fieldLink "ForgeHeats$Die" (18 : Nat) "ForgeHeats$Die" "wear" "I") ∈ lw_T := lw_T_of (lw_in 72 (by decide +kernel)) rfl
theorem q_74 : (Jvm.Cond.fieldLink "ForgeHeats$Shop" (248 : Nat) "ForgeHeats$Die" "wear" "I") ∈ lw_T := lw_T_of (lw_in 74 (by decide +kernel)) rfl
theorem q_75 : (Jvm.Cond.fieldLink "ForgeHeats$Die" (21 : Nat) "ForgeHeats$Die" "toGo" "I") ∈ lw_T := lw_T_of (lw_in 75 (by decide +kernel)) rfl
theorem q_77 : (Jvm.Cond.fieldLink "ForgeHeats$Shop" (264 : Nat) "ForgeHeats$Die" "toGo" "I") ∈ lw_T := lw_T_of (lw_in 77 (by decide +kernel)) rfl
theorem q_78 : (Jvm.Cond.fieldLink "ForgeHeats$Die" (24 : Nat) "ForgeHeats$Die" "made" "I") ∈ lw_T := lw_T_of (lw_in 78 (by decide +kernel)) rfl
theorem q_79 : (Jvm.Cond.fieldLink "ForgeHeats$Shop" (254 : Nat) "ForgeHeats$Die" "made" "I") ∈ lw_T := lw_T_of (lw_in 79 (by decide +kernel)) rfl
theorem q_80 : (Jvm.Cond.fieldLink "ForgeHeats$Die" (27 : Nat) "ForgeHeats$Die" "timesGround" "I") ∈ lw_T := lw_T_of (lw_in 80 (by decide +kernel)) rfl
theorem q_101 : (Jvm.Cond.fieldLink "ForgeHeats$Job" (7 : Nat) "ForgeHeats$Job" "number" "I") ∈ lw_T := lw_T_of (lw_in 101 (by decide +kernel)) rfl
theorem q_102 : (Jvm.Cond.fieldLink "ForgeHeats$Shop" (122 : Nat) "ForgeHeats$Job" "number" "I") ∈ lw_T := lw_T_of (lw_in 102 (by decide +kernel)) rfl
theorem q_103 : (Jvm.Cond.fieldLink "ForgeHeats$Job" (13 : Nat) "ForgeHeats$Job" "die" "I") ∈ lw_T := lw_T_of (lw_in 103 (by decide +kernel)) rfl
theorem q_104 : (Jvm.Cond.fieldLink "ForgeHeats$Shop" (125 : Nat) "ForgeHeats$Job" "die" "I") ∈ lw_T := lw_T_of (lw_in 104 (by decide +kernel)) rfl
theorem q_105 : (Jvm.Cond.fieldLink "ForgeHeats$Job" (16 : Nat) "ForgeHeats$Job" "heat" "I") ∈ lw_T := lw_T_of (lw_in 105 (by decide +kernel)) rfl
theorem q_106 : (Jvm.Cond.fieldLink "ForgeHeats$Shop" (128 : Nat) "ForgeHeats$Job" "heat" "I") ∈ lw_T := lw_T_of (lw_in 106 (by decide +kernel)) rfl
theorem q_107 : (Jvm.Cond.fieldLink "ForgeHeats$Job" (19 : Nat) "ForgeHeats$Job" "pieces" "I") ∈ lw_T := lw_T_of (lw_in 107 (by decide +kernel)) rfl
theorem q_108 : (Jvm.Cond.fieldLink "ForgeHeats$Shop" (131 : Nat) "ForgeHeats$Job" "pieces" "I") ∈ lw_T := lw_T_of (lw_in 108 (by decide +kernel)) rfl
theorem q_109 : (Jvm.Cond.fieldLink "ForgeHeats$Job" (22 : Nat) "ForgeHeats$Job" "made" "I") ∈ lw_T := lw_T_of (lw_in 109 (by decide +kernel)) rfl
theorem q_110 : (Jvm.Cond.fieldLink "ForgeHeats$Shop" (134 : Nat) "ForgeHeats$Job" "made" "I") ∈ lw_T := lw_T_of (lw_in 110 (by decide +kernel)) rfl
theorem q_111 : (Jvm.Cond.fieldLink "ForgeHeats$Job" (25 : Nat) "ForgeHeats$Job" "due" "I") ∈ lw_T := lw_T_of (lw_in 111 (by decide +kernel)) rfl
theorem q_112 : (Jvm.Cond.fieldLink "ForgeHeats$Shop" (137 : Nat) "ForgeHeats$Job" "due" "I") ∈ lw_T := lw_T_of (lw_in 112 (by decide +kernel)) rfl
theorem q_113 : (Jvm.Cond.fieldLink "ForgeHeats$Job" (28 : Nat) "ForgeHeats$Job" "isRush" "Z") ∈ lw_T := lw_T_of (lw_in 113 (by decide +kernel)) rfl
theorem q_114 : (Jvm.Cond.fieldLink "ForgeHeats$Shop" (140 : Nat) "ForgeHeats$Job" "isRush" "Z") ∈ lw_T := lw_T_of (lw_in 114 (by decide +kernel)) rfl
theorem q_115 : (Jvm.Cond.fieldLink "ForgeHeats$Job" (32 : Nat) "ForgeHeats$Job" "billets" "I") ∈ lw_T := lw_T_of (lw_in 115 (by decide +kernel)) rfl
theorem q_116 : (Jvm.Cond.fieldLink "ForgeHeats$Shop" (144 : Nat) "ForgeHeats$Job" "billets" "I") ∈ lw_T := lw_T_of (lw_in 116 (by decide +kernel)) rfl
theorem q_141 : (Jvm.Cond.fieldLink "ForgeHeats$Billet" (9 : Nat) "ForgeHeats$Billet" "job" "I") ∈ lw_T := lw_T_of (lw_in 141 (by decide +kernel)) rfl
theorem q_142 : (Jvm.Cond.fieldLink "ForgeHeats$Shop" (159 : Nat) "ForgeHeats$Billet" "job" "I") ∈ lw_T := lw_T_of (lw_in 142 (by decide +kernel)) rfl
theorem q_143 : (Jvm.Cond.fieldLink "ForgeHeats$Billet" (15 : Nat) "ForgeHeats$Billet" "degrees" "I") ∈ lw_T := lw_T_of (lw_in 143 (by decide +kernel)) rfl
theorem q_144 : (Jvm.Cond.fieldLink "ForgeHeats$Shop" (204 : Nat) "ForgeHeats$Billet" "degrees" "I") ∈ lw_T := lw_T_of (lw_in 144 (by decide +kernel)) rfl
theorem q_145 : (Jvm.Cond.fieldLink "ForgeHeats$Billet" (18 : Nat) "ForgeHeats$Billet" "reheats" "I") ∈ lw_T := lw_T_of (lw_in 145 (by decide +kernel)) rfl
theorem q_146 : (Jvm.Cond.fieldLink "ForgeHeats$Shop" (238 : Nat) "ForgeHeats$Billet" "reheats" "I") ∈ lw_T := lw_T_of (lw_in 146 (by decide +kernel)) rfl
theorem q_147 : (Jvm.Cond.fieldLink "ForgeHeats$Billet" (21 : Nat) "ForgeHeats$Billet" "blows" "I") ∈ lw_T := lw_T_of (lw_in 147 (by decide +kernel)) rfl
theorem q_148 : (Jvm.Cond.fieldLink "ForgeHeats$Shop" (240 : Nat) "ForgeHeats$Billet" "blows" "I") ∈ lw_T := lw_T_of (lw_in 148 (by decide +kernel)) rfl
theorem q_158 : (Jvm.Cond.fieldLink "ForgeHeats$Shop" (26 : Nat) "ForgeHeats$Shop" "heats" "[LForgeHeats$Heat;") ∈ lw_T := lw_T_of (lw_in 158 (by decide +kernel)) rfl
theorem q_159 : (Jvm.Cond.fieldLink "ForgeHeats$Shop" (33 : Nat) "ForgeHeats$Shop" "dies" "[LForgeHeats$Die;") ∈ lw_T := lw_T_of (lw_in 159 (by decide +kernel)) rfl
theorem q_160 : (Jvm.Cond.fieldLink "ForgeHeats$Shop" (40 : Nat) "ForgeHeats$Shop" "jobs" "[LForgeHeats$Job;") ∈ lw_T := lw_T_of (lw_in 160 (by decide +kernel)) rfl
theorem q_161 : (Jvm.Cond.fieldLink "ForgeHeats$Shop" (47 : Nat) "ForgeHeats$Shop" "furnace" "[LForgeHeats$Billet;") ∈ lw_T := lw_T_of (lw_in 161 (by decide +kernel)) rfl
theorem q_162 : (Jvm.Cond.fieldLink "ForgeHeats$Shop" (52 : Nat) "ForgeHeats$Shop" "press" "LForgeHeats$Billet;") ∈ lw_T := lw_T_of (lw_in 162 (by decide +kernel)) rfl
theorem q_163 : (Jvm.Cond.fieldLink "ForgeHeats$Shop" (83 : Nat) "ForgeHeats$Shop" "jobCount" "I") ∈ lw_T := lw_T_of (lw_in 163 (by decide +kernel)) rfl
theorem q_164 : (Jvm.Cond.fieldLink "ForgeHeats" (113 : Nat) "ForgeHeats$Shop" "jobCount" "I") ∈ lw_T := lw_T_of (lw_in 164 (by decide +kernel)) rfl
theorem q_165 : (Jvm.Cond.fieldLink "ForgeHeats$Shop" (104 : Nat) "ForgeHeats$Shop" "nextNumber" "I") ∈ lw_T := lw_T_of (lw_in 165 (by decide +kernel)) rfl
theorem q_166 : (Jvm.Cond.fieldLink "ForgeHeats$Shop" (9 : Nat) "ForgeHeats$Shop" "warming" "I") ∈ lw_T := lw_T_of (lw_in 166 (by decide +kernel)) rfl
theorem q_167 : (Jvm.Cond.fieldLink "ForgeHeats$Shop" (15 : Nat) "ForgeHeats$Shop" "cooling" "I") ∈ lw_T := lw_T_of (lw_in 167 (by decide +kernel)) rfl
theorem q_168 : (Jvm.Cond.fieldLink "ForgeHeats$Shop" (18 : Nat) "ForgeHeats$Shop" "reheats" "I") ∈ lw_T := lw_T_of (lw_in 168 (by decide +kernel)) rfl
theorem q_169 : (Jvm.Cond.fieldLink "ForgeHeats$Shop" (21 : Nat) "ForgeHeats$Shop" "grinding" "I") ∈ lw_T := lw_T_of (lw_in 169 (by decide +kernel)) rfl
theorem q_171 : (Jvm.Cond.fieldLink "ForgeHeats$Shop" (107 : Nat) "ForgeHeats$Shop" "minutes" "I") ∈ lw_T := lw_T_of (lw_in 171 (by decide +kernel)) rfl
theorem q_172 : (Jvm.Cond.fieldLink "ForgeHeats" (154 : Nat) "ForgeHeats$Shop" "minutes" "I") ∈ lw_T := lw_T_of (lw_in 172 (by decide +kernel)) rfl
theorem q_173 : (Jvm.Cond.fieldLink "ForgeHeats$Shop" (110 : Nat) "ForgeHeats$Shop" "blows" "I") ∈ lw_T := lw_T_of (lw_in 173 (by decide +kernel)) rfl
theorem q_174 : (Jvm.Cond.fieldLink "ForgeHeats" (309 : Nat) "ForgeHeats$Shop" "blows" "I") ∈ lw_T := lw_T_of (lw_in 174 (by decide +kernel)) rfl
theorem q_175 : (Jvm.Cond.fieldLink "ForgeHeats$Shop" (113 : Nat) "ForgeHeats$Shop" "goneJobs" "I") ∈ lw_T := lw_T_of (lw_in 175 (by decide +kernel)) rfl
theorem q_176 : (Jvm.Cond.fieldLink "ForgeHeats" (310 : Nat) "ForgeHeats$Shop" "goneJobs" "I") ∈ lw_T := lw_T_of (lw_in 176 (by decide +kernel)) rfl
theorem q_177 : (Jvm.Cond.fieldLink "ForgeHeats$Shop" (116 : Nat) "ForgeHeats$Shop" "lateJobs" "I") ∈ lw_T := lw_T_of (lw_in 177 (by decide +kernel)) rfl
theorem q_178 : (Jvm.Cond.fieldLink "ForgeHeats" (313 : Nat) "ForgeHeats$Shop" "lateJobs" "I") ∈ lw_T := lw_T_of (lw_in 178 (by decide +kernel)) rfl
theorem q_179 : (Jvm.Cond.fieldLink "ForgeHeats$Shop" (119 : Nat) "ForgeHeats$Shop" "lateMinutes" "I") ∈ lw_T := lw_T_of (lw_in 179 (by decide +kernel)) rfl
theorem q_180 : (Jvm.Cond.fieldLink "ForgeHeats" (316 : Nat) "ForgeHeats$Shop" "lateMinutes" "I") ∈ lw_T := lw_T_of (lw_in 180 (by decide +kernel)) rfl
theorem q_181 : (Jvm.Cond.fieldLink "ForgeHeats$Shop" (56 : Nat) "ForgeHeats$Shop" "noHeat" "LForgeHeats$Heat;") ∈ lw_T := lw_T_of (lw_in 181 (by decide +kernel)) rfl
theorem q_182 : (Jvm.Cond.fieldLink "ForgeHeats$Shop" (60 : Nat) "ForgeHeats$Shop" "noDie" "LForgeHeats$Die;") ∈ lw_T := lw_T_of (lw_in 182 (by decide +kernel)) rfl
theorem q_183 : (Jvm.Cond.fieldLink "ForgeHeats$Shop" (64 : Nat) "ForgeHeats$Shop" "noJob" "LForgeHeats$Job;") ∈ lw_T := lw_T_of (lw_in 183 (by decide +kernel)) rfl
theorem q_251 : (Jvm.Cond.fieldLink "ForgeHeats" (10 : Nat) "ForgeHeats" "shop" "LForgeHeats$Shop;") ∈ lw_T := lw_T_of (lw_in 251 (by decide +kernel)) rfl
theorem q_253 : (Jvm.Cond.fieldLink "ForgeHeats" (19 : Nat) "ForgeHeats" "past" "[LForgeHeats$Shop;") ∈ lw_T := lw_T_of (lw_in 253 (by decide +kernel)) rfl
theorem q_254 : (Jvm.Cond.fieldLink "ForgeHeats" (212 : Nat) "ForgeHeats" "pastStates" "I") ∈ lw_T := lw_T_of (lw_in 254 (by decide +kernel)) rfl
theorem q_271 : (Jvm.Cond.methodLink "ForgeHeats" (215 : Nat) ({ cls := "ForgeHeats", name := "pastAt", desc := "(I)LForgeHeats$Shop;" } : Jvm.MethodName)) ∈ lw_T := lw_T_of (lw_in 271 (by decide +kernel)) rfl
theorem q_273 : (Jvm.Cond.instanceMethod ({ cls := "ForgeHeats", name := "pastAt", desc := "(I)LForgeHeats$Shop;" } : Jvm.MethodName)) ∈ lw_T := lw_T_of (lw_in 273 (by decide +kernel)) rfl
theorem q_274 : (Jvm.Cond.code ({ cls := "ForgeHeats", name := "pastAt", desc := "(I)LForgeHeats$Shop;" } : Jvm.MethodName) prog_1_method_33_code (2 : Nat) (Option.some (Jvm.ClassFile.FieldType.object "ForgeHeats$Shop"))) ∈ lw_T := lw_T_of (lw_in 274 (by decide +kernel)) rfl
theorem q_343 : (Jvm.Cond.methodLink "ForgeHeats" (221 : Nat) ({ cls := "ForgeHeats$Shop", name := "copyFrom", desc := "(LForgeHeats$Shop;)V" } : Jvm.MethodName)) ∈ lw_T := lw_T_of (lw_in 343 (by decide +kernel)) rfl
theorem q_344 : (Jvm.Cond.instanceMethod ({ cls := "ForgeHeats$Shop", name := "copyFrom", desc := "(LForgeHeats$Shop;)V" } : Jvm.MethodName)) ∈ lw_T := lw_T_of (lw_in 344 (by decide +kernel)) rfl
theorem q_345 : (Jvm.Cond.selects "ForgeHeats$Shop" ({ cls := "ForgeHeats$Shop", name := "copyFrom", desc := "(LForgeHeats$Shop;)V" } : Jvm.MethodName) ({ cls := "ForgeHeats$Shop", name := "copyFrom", desc := "(LForgeHeats$Shop;)V" } : Jvm.MethodName)) ∈ lw_T := lw_T_of (lw_in 345 (by decide +kernel)) rfl
theorem q_346 : (Jvm.Cond.code ({ cls := "ForgeHeats$Shop", name := "copyFrom", desc := "(LForgeHeats$Shop;)V" } : Jvm.MethodName) prog_7_method_2_code (3 : Nat) (Option.none : Option Jvm.ClassFile.FieldType)) ∈ lw_T := lw_T_of (lw_in 346 (by decide +kernel)) rfl
theorem q_347 : (Jvm.Cond.methodLink "ForgeHeats$Shop" (68 : Nat) ({ cls := "ForgeHeats$Shop", name := "heatAt", desc := "(I)LForgeHeats$Heat;" } : Jvm.MethodName)) ∈ lw_T := lw_T_of (lw_in 347 (by decide +kernel)) rfl
theorem q_348 : (Jvm.Cond.instanceMethod ({ cls := "ForgeHeats$Shop", name := "heatAt", desc := "(I)LForgeHeats$Heat;" } : Jvm.MethodName)) ∈ lw_T := lw_T_of (lw_in 348 (by decide +kernel)) rfl
theorem q_349 : (Jvm.Cond.selects "ForgeHeats$Shop" ({ cls := "ForgeHeats$Shop", name := "heatAt", desc := "(I)LForgeHeats$Heat;" } : Jvm.MethodName) ({ cls := "ForgeHeats$Shop", name := "heatAt", desc := "(I)LForgeHeats$Heat;" } : Jvm.MethodName)) ∈ lw_T := lw_T_of (lw_in 349 (by decide +kernel)) rfl
theorem q_350 : (Jvm.Cond.code ({ cls := "ForgeHeats$Shop", name := "heatAt", desc := "(I)LForgeHeats$Heat;" } : Jvm.MethodName) prog_7_method_4_code (3 : Nat) (Option.some (Jvm.ClassFile.FieldType.object "ForgeHeats$Heat"))) ∈ lw_T := lw_T_of (lw_in 350 (by decide +kernel)) rfl
theorem q_351 : (Jvm.Cond.methodLink "ForgeHeats$Shop" (72 : Nat) ({ cls := "ForgeHeats$Heat", name := "copyFrom", desc := "(LForgeHeats$Heat;)V" } : Jvm.MethodName)) ∈ lw_T := lw_T_of (lw_in 351 (by decide +kernel)) rfl
theorem q_352 : (Jvm.Cond.instanceMethod ({ cls := "ForgeHeats$Heat", name := "copyFrom", desc := "(LForgeHeats$Heat;)V" } : Jvm.MethodName)) ∈ lw_T := lw_T_of (lw_in 352 (by decide +kernel)) rfl
theorem q_353 : (Jvm.Cond.selects "ForgeHeats$Heat" ({ cls := "ForgeHeats$Heat", name := "copyFrom", desc := "(LForgeHeats$Heat;)V" } : Jvm.MethodName) ({ cls := "ForgeHeats$Heat", name := "copyFrom", desc := "(LForgeHeats$Heat;)V" } : Jvm.MethodName)) ∈ lw_T := lw_T_of (lw_in 353 (by decide +kernel)) rfl
theorem q_354 : (Jvm.Cond.code ({ cls := "ForgeHeats$Heat", name := "copyFrom", desc := "(LForgeHeats$Heat;)V" } : Jvm.MethodName) prog_4_method_2_code (2 : Nat) (Option.none : Option Jvm.ClassFile.FieldType)) ∈ lw_T := lw_T_of (lw_in 354 (by decide +kernel)) rfl
theorem q_355 : (Jvm.Cond.methodLink "ForgeHeats$Shop" (76 : Nat) ({ cls := "ForgeHeats$Shop", name := "dieAt", desc := "(I)LForgeHeats$Die;" } : Jvm.MethodName)) ∈ lw_T := lw_T_of (lw_in 355 (by decide +kernel)) rfl
theorem q_356 : (Jvm.Cond.instanceMethod ({ cls := "ForgeHeats$Shop", name := "dieAt", desc := "(I)LForgeHeats$Die;" } : Jvm.MethodName)) ∈ lw_T := lw_T_of (lw_in 356 (by decide +kernel)) rfl
theorem q_357 : (Jvm.Cond.selects "ForgeHeats$Shop" ({ cls := "ForgeHeats$Shop", name := "dieAt", desc := "(I)LForgeHeats$Die;" } : Jvm.MethodName) ({ cls := "ForgeHeats$Shop", name := "dieAt", desc := "(I)LForgeHeats$Die;" } : Jvm.MethodName)) ∈ lw_T := lw_T_of (lw_in 357 (by decide +kernel)) rfl
theorem q_358 : (Jvm.Cond.code ({ cls := "ForgeHeats$Shop", name := "dieAt", desc := "(I)LForgeHeats$Die;" } : Jvm.MethodName) prog_7_method_5_code (3 : Nat) (Option.some (Jvm.ClassFile.FieldType.object "ForgeHeats$Die"))) ∈ lw_T := lw_T_of (lw_in 358 (by decide +kernel)) rfl
theorem q_359 : (Jvm.Cond.methodLink "ForgeHeats$Shop" (80 : Nat) ({ cls := "ForgeHeats$Die", name := "copyFrom", desc := "(LForgeHeats$Die;)V" } : Jvm.MethodName)) ∈ lw_T := lw_T_of (lw_in 359 (by decide +kernel)) rfl
theorem q_360 : (Jvm.Cond.instanceMethod ({ cls := "ForgeHeats$Die", name := "copyFrom", desc := "(LForgeHeats$Die;)V" } : Jvm.MethodName)) ∈ lw_T := lw_T_of (lw_in 360 (by decide +kernel)) rfl
theorem q_361 : (Jvm.Cond.selects "ForgeHeats$Die" ({ cls := "ForgeHeats$Die", name := "copyFrom", desc := "(LForgeHeats$Die;)V" } : Jvm.MethodName) ({ cls := "ForgeHeats$Die", name := "copyFrom", desc := "(LForgeHeats$Die;)V" } : Jvm.MethodName)) ∈ lw_T := lw_T_of (lw_in 361 (by decide +kernel)) rfl
theorem q_362 : (Jvm.Cond.code ({ cls := "ForgeHeats$Die", name := "copyFrom", desc := "(LForgeHeats$Die;)V" } : Jvm.MethodName) prog_3_method_2_code (2 : Nat) (Option.none : Option Jvm.ClassFile.FieldType)) ∈ lw_T := lw_T_of (lw_in 362 (by decide +kernel)) rfl
theorem q_363 : (Jvm.Cond.methodLink "ForgeHeats$Shop" (86 : Nat) ({ cls := "ForgeHeats$Shop", name := "jobAt", desc := "(I)LForgeHeats$Job;" } : Jvm.MethodName)) ∈ lw_T := lw_T_of (lw_in 363 (by decide +kernel)) rfl
theorem q_364 : (Jvm.Cond.instanceMethod ({ cls := "ForgeHeats$Shop", name := "jobAt", desc := "(I)LForgeHeats$Job;" } : Jvm.MethodName)) ∈ lw_T := lw_T_of (lw_in 364 (by decide +kernel)) rfl
theorem q_365 : (Jvm.Cond.selects "ForgeHeats$Shop" ({ cls := "ForgeHeats$Shop", name := "jobAt", desc := "(I)LForgeHeats$Job;" } : Jvm.MethodName) ({ cls := "ForgeHeats$Shop", name := "jobAt", desc := "(I)LForgeHeats$Job;" } : Jvm.MethodName)) ∈ lw_T := lw_T_of (lw_in 365 (by decide +kernel)) rfl
theorem q_366 : (Jvm.Cond.code ({ cls := "ForgeHeats$Shop", name := "jobAt", desc := "(I)LForgeHeats$Job;" } : Jvm.MethodName) prog_7_method_6_code (3 : Nat) (Option.some (Jvm.ClassFile.FieldType.object "ForgeHeats$Job"))) ∈ lw_T := lw_T_of (lw_in 366 (by decide +kernel)) rfl
theorem q_367 : (Jvm.Cond.methodLink "ForgeHeats$Shop" (90 : Nat) ({ cls := "ForgeHeats$Job", name := "copyFrom", desc := "(LForgeHeats$Job;)V" } : Jvm.MethodName)) ∈ lw_T := lw_T_of (lw_in 367 (by decide +kernel)) rfl
theorem q_368 : (Jvm.Cond.instanceMethod ({ cls := "ForgeHeats$Job", name := "copyFrom", desc := "(LForgeHeats$Job;)V" } : Jvm.MethodName)) ∈ lw_T := lw_T_of (lw_in 368 (by decide +kernel)) rfl
theorem q_369 : (Jvm.Cond.selects "ForgeHeats$Job" ({ cls := "ForgeHeats$Job", name := "copyFrom", desc := "(LForgeHeats$Job;)V" } : Jvm.MethodName) ({ cls := "ForgeHeats$Job", name := "copyFrom", desc := "(LForgeHeats$Job;)V" } : Jvm.MethodName)) ∈ lw_T := lw_T_of (lw_in 369 (by decide +kernel)) rfl
theorem q_370 : (Jvm.Cond.code ({ cls := "ForgeHeats$Job", name := "copyFrom", desc := "(LForgeHeats$Job;)V" } : Jvm.MethodName) prog_5_method_2_code (2 : Nat) (Option.none : Option Jvm.ClassFile.FieldType)) ∈ lw_T := lw_T_of (lw_in 370 (by decide +kernel)) rfl
theorem q_371 : (Jvm.Cond.methodLink "ForgeHeats$Shop" (93 : Nat) ({ cls := "ForgeHeats$Shop", name := "billetAt", desc := "(I)LForgeHeats$Billet;" } : Jvm.MethodName)) ∈ lw_T := lw_T_of (lw_in 371 (by decide +kernel)) rfl
theorem q_372 : (Jvm.Cond.instanceMethod ({ cls := "ForgeHeats$Shop", name := "billetAt", desc := "(I)LForgeHeats$Billet;" } : Jvm.MethodName)) ∈ lw_T := lw_T_of (lw_in 372 (by decide +kernel)) rfl
theorem q_373 : (Jvm.Cond.selects "ForgeHeats$Shop" ({ cls := "ForgeHeats$Shop", name := "billetAt", desc := "(I)LForgeHeats$Billet;" } : Jvm.MethodName) ({ cls := "ForgeHeats$Shop", name := "billetAt", desc := "(I)LForgeHeats$Billet;" } : Jvm.MethodName)) ∈ lw_T := lw_T_of (lw_in 373 (by decide +kernel)) rfl
theorem q_374 : (Jvm.Cond.code ({ cls := "ForgeHeats$Shop", name := "billetAt", desc := "(I)LForgeHeats$Billet;" } : Jvm.MethodName) prog_7_method_7_code (3 : Nat) (Option.some (Jvm.ClassFile.FieldType.object "ForgeHeats$Billet"))) ∈ lw_T := lw_T_of (lw_in 374 (by decide +kernel)) rfl
theorem q_375 : (Jvm.Cond.methodLink "ForgeHeats$Shop" (97 : Nat) ({ cls := "ForgeHeats$Billet", name := "copyFrom", desc := "(LForgeHeats$Billet;)V" } : Jvm.MethodName)) ∈ lw_T := lw_T_of (lw_in 375 (by decide +kernel)) rfl
theorem q_376 : (Jvm.Cond.instanceMethod ({ cls := "ForgeHeats$Billet", name := "copyFrom", desc := "(LForgeHeats$Billet;)V" } : Jvm.MethodName)) ∈ lw_T := lw_T_of (lw_in 376 (by decide +kernel)) rfl
theorem q_377 : (Jvm.Cond.selects "ForgeHeats$Billet" ({ cls := "ForgeHeats$Billet", name := "copyFrom", desc := "(LForgeHeats$Billet;)V" } : Jvm.MethodName) ({ cls := "ForgeHeats$Billet", name := "copyFrom", desc := "(LForgeHeats$Billet;)V" } : Jvm.MethodName)) ∈ lw_T := lw_T_of (lw_in 377 (by decide +kernel)) rfl
theorem q_378 : (Jvm.Cond.code ({ cls := "ForgeHeats$Billet", name := "copyFrom", desc := "(LForgeHeats$Billet;)V" } : Jvm.MethodName) prog_2_method_2_code (2 : Nat) (Option.none : Option Jvm.ClassFile.FieldType)) ∈ lw_T := lw_T_of (lw_in 378 (by decide +kernel)) rfl
theorem q_379 : (Jvm.Cond.methodLink "ForgeHeats$Shop" (100 : Nat) ({ cls := "ForgeHeats$Shop", name := "copyNumbersFrom", desc := "(LForgeHeats$Shop;)V" } : Jvm.MethodName)) ∈ lw_T := lw_T_of (lw_in 379 (by decide +kernel)) rfl
theorem q_381 : (Jvm.Cond.instanceMethod ({ cls := "ForgeHeats$Shop", name := "copyNumbersFrom", desc := "(LForgeHeats$Shop;)V" } : Jvm.MethodName)) ∈ lw_T := lw_T_of (lw_in 381 (by decide +kernel)) rfl
theorem q_382 : (Jvm.Cond.code ({ cls := "ForgeHeats$Shop", name := "copyNumbersFrom", desc := "(LForgeHeats$Shop;)V" } : Jvm.MethodName) prog_7_method_3_code (2 : Nat) (Option.none : Option Jvm.ClassFile.FieldType)) ∈ lw_T := lw_T_of (lw_in 382 (by decide +kernel)) rfl
theorem q_410 : (Jvm.Cond.methodLink "ForgeHeats" (300 : Nat) ({ cls := "ForgeHeats$Shop", name := "countRushJobs", desc := "()I" } : Jvm.MethodName)) ∈ lw_T := lw_T_of (lw_in 410 (by decide +kernel)) rfl
theorem q_411 : (Jvm.Cond.instanceMethod ({ cls := "ForgeHeats$Shop", name := "countRushJobs", desc := "()I" } : Jvm.MethodName)) ∈ lw_T := lw_T_of (lw_in 411 (by decide +kernel)) rfl
theorem q_412 : (Jvm.Cond.selects "ForgeHeats$Shop" ({ cls := "ForgeHeats$Shop", name := "countRushJobs", desc := "()I" } : Jvm.MethodName) ({ cls := "ForgeHeats$Shop", name := "countRushJobs", desc := "()I" } : Jvm.MethodName)) ∈ lw_T := lw_T_of (lw_in 412 (by decide +kernel)) rfl
theorem q_413 : (Jvm.Cond.code ({ cls := "ForgeHeats$Shop", name := "countRushJobs", desc := "()I" } : Jvm.MethodName) prog_7_method_19_code (3 : Nat) (Option.some Jvm.ClassFile.FieldType.int)) ∈ lw_T := lw_T_of (lw_in 413 (by decide +kernel)) rfl
theorem q_414 : (Jvm.Cond.methodLink "ForgeHeats" (303 : Nat) ({ cls := "ForgeHeats$Shop", name := "countInFurnace", desc := "()I" } : Jvm.MethodName)) ∈ lw_T := lw_T_of (lw_in 414 (by decide +kernel)) rfl
theorem q_415 : (Jvm.Cond.instanceMethod ({ cls := "ForgeHeats$Shop", name := "countInFurnace", desc := "()I" } : Jvm.MethodName)) ∈ lw_T := lw_T_of (lw_in 415 (by decide +kernel)) rfl
theorem q_416 : (Jvm.Cond.selects "ForgeHeats$Shop" ({ cls := "ForgeHeats$Shop", name := "countInFurnace", desc := "()I" } : Jvm.MethodName) ({ cls := "ForgeHeats$Shop", name := "countInFurnace", desc := "()I" } : Jvm.MethodName)) ∈ lw_T := lw_T_of (lw_in 416 (by decide +kernel)) rfl
theorem q_417 : (Jvm.Cond.code ({ cls := "ForgeHeats$Shop", name := "countInFurnace", desc := "()I" } : Jvm.MethodName) prog_7_method_20_code (6 : Nat) (Option.some Jvm.ClassFile.FieldType.int)) ∈ lw_T := lw_T_of (lw_in 417 (by decide +kernel)) rfl
theorem q_418 : (Jvm.Cond.methodLink "ForgeHeats" (159 : Nat) ({ cls := "ForgeHeats$Shop", name := "countMade", desc := "()I" } : Jvm.MethodName)) ∈ lw_T := lw_T_of (lw_in 418 (by decide +kernel)) rfl
theorem q_419 : (Jvm.Cond.instanceMethod ({ cls := "ForgeHeats$Shop", name := "countMade", desc := "()I" } : Jvm.MethodName)) ∈ lw_T := lw_T_of (lw_in 419 (by decide +kernel)) rfl
theorem q_420 : (Jvm.Cond.selects "ForgeHeats$Shop" ({ cls := "ForgeHeats$Shop", name := "countMade", desc := "()I" } : Jvm.MethodName) ({ cls := "ForgeHeats$Shop", name := "countMade", desc := "()I" } : Jvm.MethodName)) ∈ lw_T := lw_T_of (lw_in 420 (by decide +kernel)) rfl
theorem q_421 : (Jvm.Cond.code ({ cls := "ForgeHeats$Shop", name := "countMade", desc := "()I" } : Jvm.MethodName) prog_7_method_17_code (3 : Nat) (Option.some Jvm.ClassFile.FieldType.int)) ∈ lw_T := lw_T_of (lw_in 421 (by decide +kernel)) rfl
theorem q_422 : (Jvm.Cond.methodLink "ForgeHeats" (306 : Nat) ({ cls := "ForgeHeats$Shop", name := "countScrap", desc := "()I" } : Jvm.MethodName)) ∈ lw_T := lw_T_of (lw_in 422 (by decide +kernel)) rfl
theorem q_423 : (Jvm.Cond.instanceMethod ({ cls := "ForgeHeats$Shop", name := "countScrap", desc := "()I" } : Jvm.MethodName)) ∈ lw_T := lw_T_of (lw_in 423 (by decide +kernel)) rfl
theorem q_424 : (Jvm.Cond.selects "ForgeHeats$Shop" ({ cls := "ForgeHeats$Shop", name := "countScrap", desc := "()I" } : Jvm.MethodName) ({ cls := "ForgeHeats$Shop", name := "countScrap", desc := "()I" } : Jvm.MethodName)) ∈ lw_T := lw_T_of (lw_in 424 (by decide +kernel)) rfl
theorem q_425 : (Jvm.Cond.code ({ cls := "ForgeHeats$Shop", name := "countScrap", desc := "()I" } : Jvm.MethodName) prog_7_method_18_code (3 : Nat) (Option.some Jvm.ClassFile.FieldType.int)) ∈ lw_T := lw_T_of (lw_in 425 (by decide +kernel)) rfl
theorem q_426 : (Jvm.Cond.methodLink "ForgeHeats" (97 : Nat) ({ cls := "ForgeHeats$Shop", name := "dieBeingGround", desc := "()I" } : Jvm.MethodName)) ∈ lw_T := lw_T_of (lw_in 426 (by decide +kernel)) rfl
theorem q_427 : (Jvm.Cond.instanceMethod ({ cls := "ForgeHeats$Shop", name := "dieBeingGround", desc := "()I" } : Jvm.MethodName)) ∈ lw_T := lw_T_of (lw_in 427 (by decide +kernel)) rfl
theorem q_428 : (Jvm.Cond.selects "ForgeHeats$Shop" ({ cls := "ForgeHeats$Shop", name := "dieBeingGround", desc := "()I" } : Jvm.MethodName) ({ cls := "ForgeHeats$Shop", name := "dieBeingGround", desc := "()I" } : Jvm.MethodName)) ∈ lw_T := lw_T_of (lw_in 428 (by decide +kernel)) rfl
theorem q_429 : (Jvm.Cond.code ({ cls := "ForgeHeats$Shop", name := "dieBeingGround", desc := "()I" } : Jvm.MethodName) prog_7_method_26_code (2 : Nat) (Option.some Jvm.ClassFile.FieldType.int)) ∈ lw_T := lw_T_of (lw_in 429 (by decide +kernel)) rfl
theorem q_430 : (Jvm.Cond.methodLink "ForgeHeats$Shop" (193 : Nat) ({ cls := "ForgeHeats$Die", name := "isBeingGround", desc := "()Z" } : Jvm.MethodName)) ∈ lw_T := lw_T_of (lw_in 430 (by decide +kernel)) rfl
theorem q_431 : (Jvm.Cond.instanceMethod ({ cls := "ForgeHeats$Die", name := "isBeingGround", desc := "()Z" } : Jvm.MethodName)) ∈ lw_T := lw_T_of (lw_in 431 (by decide +kernel)) rfl
theorem q_432 : (Jvm.Cond.selects "ForgeHeats$Die" ({ cls := "ForgeHeats$Die", name := "isBeingGround", desc := "()Z" } : Jvm.MethodName) ({ cls := "ForgeHeats$Die", name := "isBeingGround", desc := "()Z" } : Jvm.MethodName)) ∈ lw_T := lw_T_of (lw_in 432 (by decide +kernel)) rfl
theorem q_433 : (Jvm.Cond.code ({ cls := "ForgeHeats$Die", name := "isBeingGround", desc := "()Z" } : Jvm.MethodName) prog_3_method_3_code (1 : Nat) (Option.some Jvm.ClassFile.FieldType.boolean)) ∈ lw_T := lw_T_of (lw_in 433 (by decide +kernel)) rfl
theorem q_476 : (Jvm.Cond.methodLink "ForgeHeats$Shop" (179 : Nat) ({ cls := "ForgeHeats$Shop", name := "countBilletsOf", desc := "(I)I" } : Jvm.MethodName)) ∈ lw_T := lw_T_of (lw_in 476 (by decide +kernel)) rfl
theorem q_478 : (Jvm.Cond.instanceMethod ({ cls := "ForgeHeats$Shop", name := "countBilletsOf", desc := "(I)I" } : Jvm.MethodName)) ∈ lw_T := lw_T_of (lw_in 478 (by decide +kernel)) rfl
theorem q_479 : (Jvm.Cond.code ({ cls := "ForgeHeats$Shop", name := "countBilletsOf", desc := "(I)I" } : Jvm.MethodName) prog_7_method_22_code (5 : Nat) (Option.some Jvm.ClassFile.FieldType.int)) ∈ lw_T := lw_T_of (lw_in 479 (by decide +kernel)) rfl
theorem q_480 : (Jvm.Cond.methodLink "ForgeHeats$Shop" (182 : Nat) ({ cls := "ForgeHeats$Shop", name := "countLackOf", desc := "(I)I" } : Jvm.MethodName)) ∈ lw_T := lw_T_of (lw_in 480 (by decide +kernel)) rfl
theorem q_482 : (Jvm.Cond.instanceMethod ({ cls := "ForgeHeats$Shop", name := "countLackOf", desc := "(I)I" } : Jvm.MethodName)) ∈ lw_T := lw_T_of (lw_in 482 (by decide +kernel)) rfl
theorem q_483 : (Jvm.Cond.code ({ cls := "ForgeHeats$Shop", name := "countLackOf", desc := "(I)I" } : Jvm.MethodName) prog_7_method_23_code (5 : Nat) (Option.some Jvm.ClassFile.FieldType.int)) ∈ lw_T := lw_T_of (lw_in 483 (by decide +kernel)) rfl
theorem q_484 : (Jvm.Cond.methodLink "ForgeHeats$Shop" (185 : Nat) ({ cls := "ForgeHeats$Job", name := "lack", desc := "()I" } : Jvm.MethodName)) ∈ lw_T := lw_T_of (lw_in 484 (by decide +kernel)) rfl
theorem q_485 : (Jvm.Cond.instanceMethod ({ cls := "ForgeHeats$Job", name := "lack", desc := "()I" } : Jvm.MethodName)) ∈ lw_T := lw_T_of (lw_in 485 (by decide +kernel)) rfl
theorem q_486 : (Jvm.Cond.selects "ForgeHeats$Job" ({ cls := "ForgeHeats$Job", name := "lack", desc := "()I" } : Jvm.MethodName) ({ cls := "ForgeHeats$Job", name := "lack", desc := "()I" } : Jvm.MethodName)) ∈ lw_T := lw_T_of (lw_in 486 (by decide +kernel)) rfl
theorem q_487 : (Jvm.Cond.code ({ cls := "ForgeHeats$Job", name := "lack", desc := "()I" } : Jvm.MethodName) prog_5_method_4_code (1 : Nat) (Option.some Jvm.ClassFile.FieldType.int)) ∈ lw_T := lw_T_of (lw_in 487 (by decide +kernel)) rfl
theorem q_517 : (Jvm.Cond.methodLink "ForgeHeats$Shop" (189 : Nat) ({ cls := "ForgeHeats$Shop", name := "reasonToWait", desc := "(LForgeHeats$Job;)I" } : Jvm.MethodName)) ∈ lw_T := lw_T_of (lw_in 517 (by decide +kernel)) rfl
theorem q_519 : (Jvm.Cond.instanceMethod ({ cls := "ForgeHeats$Shop", name := "reasonToWait", desc := "(LForgeHeats$Job;)I" } : Jvm.MethodName)) ∈ lw_T := lw_T_of (lw_in 519 (by decide +kernel)) rfl
theorem q_520 : (Jvm.Cond.code ({ cls := "ForgeHeats$Shop", name := "reasonToWait", desc := "(LForgeHeats$Job;)I" } : Jvm.MethodName) prog_7_method_25_code (3 : Nat) (Option.some Jvm.ClassFile.FieldType.int)) ∈ lw_T := lw_T_of (lw_in 520 (by decide +kernel)) rfl
theorem q_521 : (Jvm.Cond.methodLink "ForgeHeats$Shop" (197 : Nat) ({ cls := "ForgeHeats$Die", name := "isWornOut", desc := "()Z" } : Jvm.MethodName)) ∈ lw_T := lw_T_of (lw_in 521 (by decide +kernel)) rfl
theorem q_522 : (Jvm.Cond.instanceMethod ({ cls := "ForgeHeats$Die", name := "isWornOut", desc := "()Z" } : Jvm.MethodName)) ∈ lw_T := lw_T_of (lw_in 522 (by decide +kernel)) rfl
theorem q_523 : (Jvm.Cond.selects "ForgeHeats$Die" ({ cls := "ForgeHeats$Die", name := "isWornOut", desc := "()Z" } : Jvm.MethodName) ({ cls := "ForgeHeats$Die", name := "isWornOut", desc := "()Z" } : Jvm.MethodName)) ∈ lw_T := lw_T_of (lw_in 523 (by decide +kernel)) rfl
theorem q_524 : (Jvm.Cond.code ({ cls := "ForgeHeats$Die", name := "isWornOut", desc := "()Z" } : Jvm.MethodName) prog_3_method_4_code (1 : Nat) (Option.some Jvm.ClassFile.FieldType.boolean)) ∈ lw_T := lw_T_of (lw_in 524 (by decide +kernel)) rfl
theorem q_525 : (Jvm.Cond.methodLink "ForgeHeats$Shop" (200 : Nat) ({ cls := "ForgeHeats$Shop", name := "hottestReady", desc := "(LForgeHeats$Job;)LForgeHeats$Billet;" } : Jvm.MethodName)) ∈ lw_T := lw_T_of (lw_in 525 (by decide +kernel)) rfl
theorem q_527 : (Jvm.Cond.instanceMethod ({ cls := "ForgeHeats$Shop", name := "hottestReady", desc := "(LForgeHeats$Job;)LForgeHeats$Billet;" } : Jvm.MethodName)) ∈ lw_T := lw_T_of (lw_in 527 (by decide +kernel)) rfl
theorem q_528 : (Jvm.Cond.code ({ cls := "ForgeHeats$Shop", name := "hottestReady", desc := "(LForgeHeats$Job;)LForgeHeats$Billet;" } : Jvm.MethodName) prog_7_method_28_code (8 : Nat) (Option.some (Jvm.ClassFile.FieldType.object "ForgeHeats$Billet"))) ∈ lw_T := lw_T_of (lw_in 528 (by decide +kernel)) rfl
theorem q_547 : (Jvm.Cond.methodLink "ForgeHeats" (297 : Nat) ({ cls := "ForgeHeats", name := "dropOldest", desc := "()V" } : Jvm.MethodName)) ∈ lw_T := lw_T_of (lw_in 547 (by decide +kernel)) rfl
theorem q_549 : (Jvm.Cond.instanceMethod ({ cls := "ForgeHeats", name := "dropOldest", desc := "()V" } : Jvm.MethodName)) ∈ lw_T := lw_T_of (lw_in 549 (by decide +kernel)) rfl
theorem q_550 : (Jvm.Cond.code ({ cls := "ForgeHeats", name := "dropOldest", desc := "()V" } : Jvm.MethodName) prog_1_method_32_code (4 : Nat) (Option.none : Option Jvm.ClassFile.FieldType)) ∈ lw_T := lw_T_of (lw_in 550 (by decide +kernel)) rfl
theorem q_588 : (Jvm.Cond.instanceMethod ({ cls := "ForgeHeats$Shop", name := "placeOf", desc := "(I)I" } : Jvm.MethodName)) ∈ lw_T := lw_T_of (lw_in 588 (by decide +kernel)) rfl
theorem q_589 : (Jvm.Cond.selects "ForgeHeats$Shop" ({ cls := "ForgeHeats$Shop", name := "placeOf", desc := "(I)I" } : Jvm.MethodName) ({ cls := "ForgeHeats$Shop", name := "placeOf", desc := "(I)I" } : Jvm.MethodName)) ∈ lw_T := lw_T_of (lw_in 589 (by decide +kernel)) rfl
theorem q_590 : (Jvm.Cond.code ({ cls := "ForgeHeats$Shop", name := "placeOf", desc := "(I)I" } : Jvm.MethodName) prog_7_method_12_code (3 : Nat) (Option.some Jvm.ClassFile.FieldType.int)) ∈ lw_T := lw_T_of (lw_in 590 (by decide +kernel)) rfl
theorem q_596 : (Jvm.Cond.methodLink "ForgeHeats$Shop" (165 : Nat) ({ cls := "ForgeHeats$Shop", name := "removeJob", desc := "(I)V" } : Jvm.MethodName)) ∈ lw_T := lw_T_of (lw_in 596 (by decide +kernel)) rfl
theorem q_598 : (Jvm.Cond.instanceMethod ({ cls := "ForgeHeats$Shop", name := "removeJob", desc := "(I)V" } : Jvm.MethodName)) ∈ lw_T := lw_T_of (lw_in 598 (by decide +kernel)) rfl
theorem q_599 : (Jvm.Cond.code ({ cls := "ForgeHeats$Shop", name := "removeJob", desc := "(I)V" } : Jvm.MethodName) prog_7_method_13_code (3 : Nat) (Option.none : Option Jvm.ClassFile.FieldType)) ∈ lw_T := lw_T_of (lw_in 599 (by decide +kernel)) rfl
theorem q_600 : (Jvm.Cond.methodLink "ForgeHeats$Shop" (155 : Nat) ({ cls := "ForgeHeats$Shop", name := "swapJobs", desc := "(II)V" } : Jvm.MethodName)) ∈ lw_T := lw_T_of (lw_in 600 (by decide +kernel)) rfl
theorem q_602 : (Jvm.Cond.instanceMethod ({ cls := "ForgeHeats$Shop", name := "swapJobs", desc := "(II)V" } : Jvm.MethodName)) ∈ lw_T := lw_T_of (lw_in 602 (by decide +kernel)) rfl
theorem q_603 : (Jvm.Cond.code ({ cls := "ForgeHeats$Shop", name := "swapJobs", desc := "(II)V" } : Jvm.MethodName) prog_7_method_11_code (4 : Nat) (Option.none : Option Jvm.ClassFile.FieldType)) ∈ lw_T := lw_T_of (lw_in 603 (by decide +kernel)) rfl
theorem q_612 : (Jvm.Cond.methodLink "ForgeHeats$Shop" (147 : Nat) ({ cls := "ForgeHeats$Shop", name := "settle", desc := "(I)I" } : Jvm.MethodName)) ∈ lw_T := lw_T_of (lw_in 612 (by decide +kernel)) rfl
theorem q_614 : (Jvm.Cond.instanceMethod ({ cls := "ForgeHeats$Shop", name := "settle", desc := "(I)I" } : Jvm.MethodName)) ∈ lw_T := lw_T_of (lw_in 614 (by decide +kernel)) rfl
theorem q_615 : (Jvm.Cond.code ({ cls := "ForgeHeats$Shop", name := "settle", desc := "(I)I" } : Jvm.MethodName) prog_7_method_10_code (3 : Nat) (Option.some Jvm.ClassFile.FieldType.int)) ∈ lw_T := lw_T_of (lw_in 615 (by decide +kernel)) rfl
theorem q_616 : (Jvm.Cond.methodLink "ForgeHeats$Shop" (151 : Nat) ({ cls := "ForgeHeats$Job", name := "comesBefore", desc := "(LForgeHeats$Job;)Z" } : Jvm.MethodName)) ∈ lw_T := lw_T_of (lw_in 616 (by decide +kernel)) rfl
theorem q_617 : (Jvm.Cond.instanceMethod ({ cls := "ForgeHeats$Job", name := "comesBefore", desc := "(LForgeHeats$Job;)Z" } : Jvm.MethodName)) ∈ lw_T := lw_T_of (lw_in 617 (by decide +kernel)) rfl
theorem q_618 : (Jvm.Cond.selects "ForgeHeats$Job" ({ cls := "ForgeHeats$Job", name := "comesBefore", desc := "(LForgeHeats$Job;)Z" } : Jvm.MethodName) ({ cls := "ForgeHeats$Job", name := "comesBefore", desc := "(LForgeHeats$Job;)Z" } : Jvm.MethodName)) ∈ lw_T := lw_T_of (lw_in 618 (by decide +kernel)) rfl
theorem q_619 : (Jvm.Cond.code ({ cls := "ForgeHeats$Job", name := "comesBefore", desc := "(LForgeHeats$Job;)Z" } : Jvm.MethodName) prog_5_method_3_code (2 : Nat) (Option.some Jvm.ClassFile.FieldType.boolean)) ∈ lw_T := lw_T_of (lw_in 619 (by decide +kernel)) rfl
theorem q_641 : (Jvm.Cond.methodLink "ForgeHeats$Shop" (207 : Nat) ({ cls := "ForgeHeats$Shop", name := "passMinute", desc := "()V" } : Jvm.MethodName)) ∈ lw_T := lw_T_of (lw_in 641 (by decide +kernel)) rfl
theorem q_642 : (Jvm.Cond.instanceMethod ({ cls := "ForgeHeats$Shop", name := "passMinute", desc := "()V" } : Jvm.MethodName)) ∈ lw_T := lw_T_of (lw_in 642 (by decide +kernel)) rfl
theorem q_643 : (Jvm.Cond.selects "ForgeHeats$Shop" ({ cls := "ForgeHeats$Shop", name := "passMinute", desc := "()V" } : Jvm.MethodName) ({ cls := "ForgeHeats$Shop", name := "passMinute", desc := "()V" } : Jvm.MethodName)) ∈ lw_T := lw_T_of (lw_in 643 (by decide +kernel)) rfl
theorem q_644 : (Jvm.Cond.code ({ cls := "ForgeHeats$Shop", name := "passMinute", desc := "()V" } : Jvm.MethodName) prog_7_method_30_code (1 : Nat) (Option.none : Option Jvm.ClassFile.FieldType)) ∈ lw_T := lw_T_of (lw_in 644 (by decide +kernel)) rfl
theorem q_645 : (Jvm.Cond.methodLink "ForgeHeats$Shop" (210 : Nat) ({ cls := "ForgeHeats$Shop", name := "warmFurnace", desc := "()V" } : Jvm.MethodName)) ∈ lw_T := lw_T_of (lw_in 645 (by decide +kernel)) rfl
theorem q_647 : (Jvm.Cond.instanceMethod ({ cls := "ForgeHeats$Shop", name := "warmFurnace", desc := "()V" } : Jvm.MethodName)) ∈ lw_T := lw_T_of (lw_in 647 (by decide +kernel)) rfl
theorem q_648 : (Jvm.Cond.code ({ cls := "ForgeHeats$Shop", name := "warmFurnace", desc := "()V" } : Jvm.MethodName) prog_7_method_31_code (5 : Nat) (Option.none : Option Jvm.ClassFile.FieldType)) ∈ lw_T := lw_T_of (lw_in 648 (by decide +kernel)) rfl
theorem q_649 : (Jvm.Cond.methodLink "ForgeHeats$Shop" (228 : Nat) ({ cls := "java/lang/Math", name := "min", desc := "(II)I" } : Jvm.MethodName)) ∈ lw_T := lw_T_of (lw_in 649 (by decide +kernel)) rfl
theorem q_650 : (Jvm.Cond.static ({ cls := "java/lang/Math", name := "min", desc := "(II)I" } : Jvm.MethodName)) ∈ lw_T := lw_T_of (lw_in 650 (by decide +kernel)) rfl
theorem q_651 : (Jvm.Cond.code ({ cls := "java/lang/Math", name := "min", desc := "(II)I" } : Jvm.MethodName) prog_14_method_69_code (2 : Nat) (Option.some Jvm.ClassFile.FieldType.int)) ∈ lw_T := lw_T_of (lw_in 651 (by decide +kernel)) rfl
theorem q_652 : (Jvm.Cond.methodLink "ForgeHeats$Shop" (213 : Nat) ({ cls := "ForgeHeats$Shop", name := "chargeFurnace", desc := "()V" } : Jvm.MethodName)) ∈ lw_T := lw_T_of (lw_in 652 (by decide +kernel)) rfl
theorem q_654 : (Jvm.Cond.instanceMethod ({ cls := "ForgeHeats$Shop", name := "chargeFurnace", desc := "()V" } : Jvm.MethodName)) ∈ lw_T := lw_T_of (lw_in 654 (by decide +kernel)) rfl
theorem q_655 : (Jvm.Cond.code ({ cls := "ForgeHeats$Shop", name := "chargeFurnace", desc := "()V" } : Jvm.MethodName) prog_7_method_32_code (5 : Nat) (Option.none : Option Jvm.ClassFile.FieldType)) ∈ lw_T := lw_T_of (lw_in 655 (by decide +kernel)) rfl
theorem q_656 : (Jvm.Cond.methodLink "ForgeHeats$Shop" (234 : Nat) ({ cls := "ForgeHeats$Shop", name := "freePlace", desc := "()LForgeHeats$Billet;" } : Jvm.MethodName)) ∈ lw_T := lw_T_of (lw_in 656 (by decide +kernel)) rfl
theorem q_658 : (Jvm.Cond.instanceMethod ({ cls := "ForgeHeats$Shop", name := "freePlace", desc := "()LForgeHeats$Billet;" } : Jvm.MethodName)) ∈ lw_T := lw_T_of (lw_in 658 (by decide +kernel)) rfl
theorem q_659 : (Jvm.Cond.code ({ cls := "ForgeHeats$Shop", name := "freePlace", desc := "()LForgeHeats$Billet;" } : Jvm.MethodName) prog_7_method_27_code (5 : Nat) (Option.some (Jvm.ClassFile.FieldType.object "ForgeHeats$Billet"))) ∈ lw_T := lw_T_of (lw_in 659 (by decide +kernel)) rfl
theorem q_660 : (Jvm.Cond.methodLink "ForgeHeats$Shop" (216 : Nat) ({ cls := "ForgeHeats$Shop", name := "loadPress", desc := "()V" } : Jvm.MethodName)) ∈ lw_T := lw_T_of (lw_in 660 (by decide +kernel)) rfl
theorem q_662 : (Jvm.Cond.instanceMethod ({ cls := "ForgeHeats$Shop", name := "loadPress", desc := "()V" } : Jvm.MethodName)) ∈ lw_T := lw_T_of (lw_in 662 (by decide +kernel)) rfl
theorem q_663 : (Jvm.Cond.code ({ cls := "ForgeHeats$Shop", name := "loadPress", desc := "()V" } : Jvm.MethodName) prog_7_method_33_code (4 : Nat) (Option.none : Option Jvm.ClassFile.FieldType)) ∈ lw_T := lw_T_of (lw_in 663 (by decide +kernel)) rfl
theorem q_664 : (Jvm.Cond.methodLink "ForgeHeats$Shop" (241 : Nat) ({ cls := "ForgeHeats$Die", name := "canForge", desc := "()Z" } : Jvm.MethodName)) ∈ lw_T := lw_T_of (lw_in 664 (by decide +kernel)) rfl
theorem q_665 : (Jvm.Cond.instanceMethod ({ cls := "ForgeHeats$Die", name := "canForge", desc := "()Z" } : Jvm.MethodName)) ∈ lw_T := lw_T_of (lw_in 665 (by decide +kernel)) rfl
theorem q_666 : (Jvm.Cond.selects "ForgeHeats$Die" ({ cls := "ForgeHeats$Die", name := "canForge", desc := "()Z" } : Jvm.MethodName) ({ cls := "ForgeHeats$Die", name := "canForge", desc := "()Z" } : Jvm.MethodName)) ∈ lw_T := lw_T_of (lw_in 666 (by decide +kernel)) rfl
theorem q_667 : (Jvm.Cond.code ({ cls := "ForgeHeats$Die", name := "canForge", desc := "()Z" } : Jvm.MethodName) prog_3_method_5_code (1 : Nat) (Option.some Jvm.ClassFile.FieldType.boolean)) ∈ lw_T := lw_T_of (lw_in 667 (by decide +kernel)) rfl
theorem q_668 : (Jvm.Cond.methodLink "ForgeHeats$Shop" (219 : Nat) ({ cls := "ForgeHeats$Shop", name := "placeOf", desc := "(I)I" } : Jvm.MethodName)) ∈ lw_T := lw_T_of (lw_in 668 (by decide +kernel)) rfl
theorem q_669 : (Jvm.Cond.methodLink "ForgeHeats$Shop" (222 : Nat) ({ cls := "ForgeHeats$Shop", name := "workPress", desc := "(I)V" } : Jvm.MethodName)) ∈ lw_T := lw_T_of (lw_in 669 (by decide +kernel)) rfl
theorem q_671 : (Jvm.Cond.instanceMethod ({ cls := "ForgeHeats$Shop", name := "workPress", desc := "(I)V" } : Jvm.MethodName)) ∈ lw_T := lw_T_of (lw_in 671 (by decide +kernel)) rfl
theorem q_672 : (Jvm.Cond.code ({ cls := "ForgeHeats$Shop", name := "workPress", desc := "(I)V" } : Jvm.MethodName) prog_7_method_34_code (5 : Nat) (Option.none : Option Jvm.ClassFile.FieldType)) ∈ lw_T := lw_T_of (lw_in 672 (by decide +kernel)) rfl
theorem q_673 : (Jvm.Cond.methodLink "ForgeHeats$Shop" (244 : Nat) ({ cls := "ForgeHeats$Shop", name := "sendBack", desc := "(LForgeHeats$Job;LForgeHeats$Heat;)V" } : Jvm.MethodName)) ∈ lw_T := lw_T_of (lw_in 673 (by decide +kernel)) rfl
theorem q_675 : (Jvm.Cond.instanceMethod ({ cls := "ForgeHeats$Shop", name := "sendBack", desc := "(LForgeHeats$Job;LForgeHeats$Heat;)V" } : Jvm.MethodName)) ∈ lw_T := lw_T_of (lw_in 675 (by decide +kernel)) rfl
theorem q_676 : (Jvm.Cond.code ({ cls := "ForgeHeats$Shop", name := "sendBack", desc := "(LForgeHeats$Job;LForgeHeats$Heat;)V" } : Jvm.MethodName) prog_7_method_35_code (4 : Nat) (Option.none : Option Jvm.ClassFile.FieldType)) ∈ lw_T := lw_T_of (lw_in 676 (by decide +kernel)) rfl
theorem q_677 : (Jvm.Cond.methodLink "ForgeHeats$Shop" (251 : Nat) ({ cls := "java/lang/Math", name := "max", desc := "(II)I" } : Jvm.MethodName)) ∈ lw_T := lw_T_of (lw_in 677 (by decide +kernel)) rfl
theorem q_678 : (Jvm.Cond.static ({ cls := "java/lang/Math", name := "max", desc := "(II)I" } : Jvm.MethodName)) ∈ lw_T := lw_T_of (lw_in 678 (by decide +kernel)) rfl
theorem q_679 : (Jvm.Cond.code ({ cls := "java/lang/Math", name := "max", desc := "(II)I" } : Jvm.MethodName) prog_14_method_65_code (2 : Nat) (Option.some Jvm.ClassFile.FieldType.int)) ∈ lw_T := lw_T_of (lw_in 679 (by decide +kernel)) rfl
theorem q_680 : (Jvm.Cond.methodLink "ForgeHeats$Shop" (255 : Nat) ({ cls := "ForgeHeats$Shop", name := "countGone", desc := "(LForgeHeats$Job;)V" } : Jvm.MethodName)) ∈ lw_T := lw_T_of (lw_in 680 (by decide +kernel)) rfl
theorem q_682 : (Jvm.Cond.instanceMethod ({ cls := "ForgeHeats$Shop", name := "countGone", desc := "(LForgeHeats$Job;)V" } : Jvm.MethodName)) ∈ lw_T := lw_T_of (lw_in 682 (by decide +kernel)) rfl
theorem q_683 : (Jvm.Cond.code ({ cls := "ForgeHeats$Shop", name := "countGone", desc := "(LForgeHeats$Job;)V" } : Jvm.MethodName) prog_7_method_36_code (3 : Nat) (Option.none : Option Jvm.ClassFile.FieldType)) ∈ lw_T := lw_T_of (lw_in 683 (by decide +kernel)) rfl
theorem q_684 : (Jvm.Cond.methodLink "ForgeHeats$Shop" (225 : Nat) ({ cls := "ForgeHeats$Shop", name := "tendDies", desc := "()V" } : Jvm.MethodName)) ∈ lw_T := lw_T_of (lw_in 684 (by decide +kernel)) rfl
theorem q_686 : (Jvm.Cond.instanceMethod ({ cls := "ForgeHeats$Shop", name := "tendDies", desc := "()V" } : Jvm.MethodName)) ∈ lw_T := lw_T_of (lw_in 686 (by decide +kernel)) rfl
theorem q_687 : (Jvm.Cond.code ({ cls := "ForgeHeats$Shop", name := "tendDies", desc := "()V" } : Jvm.MethodName) prog_7_method_37_code (4 : Nat) (Option.none : Option Jvm.ClassFile.FieldType)) ∈ lw_T := lw_T_of (lw_in 687 (by decide +kernel)) rfl
theorem q_688 : (Jvm.Cond.methodLink "ForgeHeats$Shop" (258 : Nat) ({ cls := "ForgeHeats$Shop", name := "dieBeingGround", desc := "()I" } : Jvm.MethodName)) ∈ lw_T := lw_T_of (lw_in 688 (by decide +kernel)) rfl
theorem q_689 : (Jvm.Cond.methodLink "ForgeHeats$Shop" (261 : Nat) ({ cls := "ForgeHeats$Die", name := "grindMinute", desc := "()V" } : Jvm.MethodName)) ∈ lw_T := lw_T_of (lw_in 689 (by decide +kernel)) rfl
theorem q_690 : (Jvm.Cond.instanceMethod ({ cls := "ForgeHeats$Die", name := "grindMinute", desc := "()V" } : Jvm.MethodName)) ∈ lw_T := lw_T_of (lw_in 690 (by decide +kernel)) rfl
theorem q_691 : (Jvm.Cond.selects "ForgeHeats$Die" ({ cls := "ForgeHeats$Die", name := "grindMinute", desc := "()V" } : Jvm.MethodName) ({ cls := "ForgeHeats$Die", name := "grindMinute", desc := "()V" } : Jvm.MethodName)) ∈ lw_T := lw_T_of (lw_in 691 (by decide +kernel)) rfl
theorem q_692 : (Jvm.Cond.code ({ cls := "ForgeHeats$Die", name := "grindMinute", desc := "()V" } : Jvm.MethodName) prog_3_method_6_code (1 : Nat) (Option.none : Option Jvm.ClassFile.FieldType)) ∈ lw_T := lw_T_of (lw_in 692 (by decide +kernel)) rfl
theorem q_693 : (Jvm.Cond.methodLink "ForgeHeats$Die" (30 : Nat) ({ cls := "java/lang/Math", name := "max", desc := "(II)I" } : Jvm.MethodName)) ∈ lw_T := lw_T_of (lw_in 693 (by decide +kernel)) rfl
theorem q_701 : (Jvm.Cond.methodLink "ForgeHeats" (270 : Nat) ({ cls := "ForgeHeats", name := "shareMade", desc := "()D" } : Jvm.MethodName)) ∈ lw_T := lw_T_of (lw_in 701 (by decide +kernel)) rfl
theorem q_703 : (Jvm.Cond.instanceMethod ({ cls := "ForgeHeats", name := "shareMade", desc := "()D" } : Jvm.MethodName)) ∈ lw_T := lw_T_of (lw_in 703 (by decide +kernel)) rfl
theorem q_704 : (Jvm.Cond.code ({ cls := "ForgeHeats", name := "shareMade", desc := "()D" } : Jvm.MethodName) prog_1_method_41_code (3 : Nat) (Option.some Jvm.ClassFile.FieldType.double)) ∈ lw_T := lw_T_of (lw_in 704 (by decide +kernel)) rfl
theorem q_s0 : Cond.selects "ForgeHeats" ⟨"ForgeHeats", "pastAt", "(I)LForgeHeats$Shop;"⟩ ⟨"ForgeHeats", "pastAt", "(I)LForgeHeats$Shop;"⟩ ∈ lw_T := lw_T_of (lw_ins 0 (by decide +kernel)) rfl
theorem q_s2 : Cond.selects "ForgeHeats$Shop" ⟨"ForgeHeats$Shop", "copyNumbersFrom", "(LForgeHeats$Shop;)V"⟩ ⟨"ForgeHeats$Shop", "copyNumbersFrom", "(LForgeHeats$Shop;)V"⟩ ∈ lw_T := lw_T_of (lw_ins 2 (by decide +kernel)) rfl
theorem q_s4 : Cond.selects "ForgeHeats$Shop" ⟨"ForgeHeats$Shop", "countBilletsOf", "(I)I"⟩ ⟨"ForgeHeats$Shop", "countBilletsOf", "(I)I"⟩ ∈ lw_T := lw_T_of (lw_ins 4 (by decide +kernel)) rfl
theorem q_s5 : Cond.selects "ForgeHeats$Shop" ⟨"ForgeHeats$Shop", "countLackOf", "(I)I"⟩ ⟨"ForgeHeats$Shop", "countLackOf", "(I)I"⟩ ∈ lw_T := lw_T_of (lw_ins 5 (by decide +kernel)) rfl
theorem q_s6 : Cond.selects "ForgeHeats$Shop" ⟨"ForgeHeats$Shop", "reasonToWait", "(LForgeHeats$Job;)I"⟩ ⟨"ForgeHeats$Shop", "reasonToWait", "(LForgeHeats$Job;)I"⟩ ∈ lw_T := lw_T_of (lw_ins 6 (by decide +kernel)) rfl
theorem q_s7 : Cond.selects "ForgeHeats$Shop" ⟨"ForgeHeats$Shop", "hottestReady", "(LForgeHeats$Job;)LForgeHeats$Billet;"⟩ ⟨"ForgeHeats$Shop", "hottestReady", "(LForgeHeats$Job;)LForgeHeats$Billet;"⟩ ∈ lw_T := lw_T_of (lw_ins 7 (by decide +kernel)) rfl
theorem q_s9 : Cond.selects "ForgeHeats" ⟨"ForgeHeats", "dropOldest", "()V"⟩ ⟨"ForgeHeats", "dropOldest", "()V"⟩ ∈ lw_T := lw_T_of (lw_ins 9 (by decide +kernel)) rfl
theorem q_s10 : Cond.selects "ForgeHeats$Shop" ⟨"ForgeHeats$Shop", "removeJob", "(I)V"⟩ ⟨"ForgeHeats$Shop", "removeJob", "(I)V"⟩ ∈ lw_T := lw_T_of (lw_ins 10 (by decide +kernel)) rfl
theorem q_s11 : Cond.selects "ForgeHeats$Shop" ⟨"ForgeHeats$Shop", "swapJobs", "(II)V"⟩ ⟨"ForgeHeats$Shop", "swapJobs", "(II)V"⟩ ∈ lw_T := lw_T_of (lw_ins 11 (by decide +kernel)) rfl
theorem q_s12 : Cond.selects "ForgeHeats$Shop" ⟨"ForgeHeats$Shop", "settle", "(I)I"⟩ ⟨"ForgeHeats$Shop", "settle", "(I)I"⟩ ∈ lw_T := lw_T_of (lw_ins 12 (by decide +kernel)) rfl
theorem q_s13 : Cond.selects "ForgeHeats$Shop" ⟨"ForgeHeats$Shop", "warmFurnace", "()V"⟩ ⟨"ForgeHeats$Shop", "warmFurnace", "()V"⟩ ∈ lw_T := lw_T_of (lw_ins 13 (by decide +kernel)) rfl
theorem q_s14 : Cond.selects "ForgeHeats$Shop" ⟨"ForgeHeats$Shop", "chargeFurnace", "()V"⟩ ⟨"ForgeHeats$Shop", "chargeFurnace", "()V"⟩ ∈ lw_T := lw_T_of (lw_ins 14 (by decide +kernel)) rfl
theorem q_s15 : Cond.selects "ForgeHeats$Shop" ⟨"ForgeHeats$Shop", "freePlace", "()LForgeHeats$Billet;"⟩ ⟨"ForgeHeats$Shop", "freePlace", "()LForgeHeats$Billet;"⟩ ∈ lw_T := lw_T_of (lw_ins 15 (by decide +kernel)) rfl
theorem q_s16 : Cond.selects "ForgeHeats$Shop" ⟨"ForgeHeats$Shop", "loadPress", "()V"⟩ ⟨"ForgeHeats$Shop", "loadPress", "()V"⟩ ∈ lw_T := lw_T_of (lw_ins 16 (by decide +kernel)) rfl
theorem q_s17 : Cond.selects "ForgeHeats$Shop" ⟨"ForgeHeats$Shop", "workPress", "(I)V"⟩ ⟨"ForgeHeats$Shop", "workPress", "(I)V"⟩ ∈ lw_T := lw_T_of (lw_ins 17 (by decide +kernel)) rfl
theorem q_s18 : Cond.selects "ForgeHeats$Shop" ⟨"ForgeHeats$Shop", "sendBack", "(LForgeHeats$Job;LForgeHeats$Heat;)V"⟩ ⟨"ForgeHeats$Shop", "sendBack", "(LForgeHeats$Job;LForgeHeats$Heat;)V"⟩ ∈ lw_T := lw_T_of (lw_ins 18 (by decide +kernel)) rfl
theorem q_s19 : Cond.selects "ForgeHeats$Shop" ⟨"ForgeHeats$Shop", "countGone", "(LForgeHeats$Job;)V"⟩ ⟨"ForgeHeats$Shop", "countGone", "(LForgeHeats$Job;)V"⟩ ∈ lw_T := lw_T_of (lw_ins 19 (by decide +kernel)) rfl
theorem q_s20 : Cond.selects "ForgeHeats$Shop" ⟨"ForgeHeats$Shop", "tendDies", "()V"⟩ ⟨"ForgeHeats$Shop", "tendDies", "()V"⟩ ∈ lw_T := lw_T_of (lw_ins 20 (by decide +kernel)) rfl
theorem q_s21 : Cond.selects "ForgeHeats" ⟨"ForgeHeats", "shareMade", "()D"⟩ ⟨"ForgeHeats", "shareMade", "()D"⟩ ∈ lw_T := lw_T_of (lw_ins 21 (by decide +kernel)) rfl
end
section
theorem bZ0 {z : Bool} (h : bI z = 0) : z = false := by cases z <;> first | rfl | (exact absurd h (by decide))
theorem bZ1 {z : Bool} (h : ¬ bI z = 0) : z = true := by cases z <;> first | rfl | (exact absurd rfl h)
theorem m_cat (r : Option Nat) : (va_rf r).category = 1 := by cases r <;> rfl
theorem m_lit : (-1 : Int32).toInt = -1 ∧ (0 : Int32).toInt = 0 ∧ (1 : Int32).toInt = 1 ∧ (2 : Int32).toInt = 2 ∧ (3 : Int32).toInt = 3 ∧ (4 : Int32).toInt = 4 ∧ (5 : Int32).toInt = 5 ∧ (6 : Int32).toInt = 6 ∧ (7 : Int32).toInt = 7 ∧ (8 : Int32).toInt = 8 ∧ (9 : Int32).toInt = 9 ∧ (10 : Int32).toInt = 10 ∧ (11 : Int32).toInt = 11 ∧ (12 : Int32).toInt = 12 ∧ (13 : Int32).toInt = 13 ∧ (14 : Int32).toInt = 14 ∧ (15 : Int32).toInt = 15 ∧ (16 : Int32).toInt = 16 ∧ (17 : Int32).toInt = 17 ∧ (18 : Int32).toInt = 18 ∧ (19 : Int32).toInt = 19 ∧ (20 : Int32).toInt = 20 ∧ (21 : Int32).toInt = 21 ∧ (22 : Int32).toInt = 22 ∧ (23 : Int32).toInt = 23 ∧ (24 : Int32).toInt = 24 ∧ (25 : Int32).toInt = 25 ∧ (26 : Int32).toInt = 26 ∧ (27 : Int32).toInt = 27 ∧ (28 : Int32).toInt = 28 ∧ (29 : Int32).toInt = 29 ∧ (30 : Int32).toInt = 30 ∧ (31 : Int32).toInt = 31 := by decide
section MW
variable {p : Program} {l : Launch} {e : Env} {R : Room} {s : State} {m : MethodId} {args : Array Value} {below : List Frame} {meth : Method} {c : Code} {H : Heap} {locs : List Loc} {cells slots : Nat} {Q : State → Prop}
variable {cc : ByteArray} {pc : Nat} {ls : Array Slot} {rest : List Value} {nL : Nat} {own : String} {D : va_G} {cA : Nat → ClassId} {b n : Nat} {M : Mem}
theorem m_join {v : Int32} {jp : Nat} {st : List Value} (tail : W p l e R s m args below meth c H locs cells slots Q (F0 m jp ls (.int v :: rest))) (br : (∀ x : Int32, x = v → W p l e R s m args below meth c H locs cells slots Q (F0 m jp ls (.int x :: rest))) → W p l e R s m args below meth c H locs cells slots Q (F0 m pc ls st)) : W p l e R s m args below meth c H locs cells slots Q (F0 m pc ls st) := br (fun x hx => by rw [hx]; exact tail)
theorem m_joinZ {z : Bool} {jp : Nat} {st : List Value} (tail : W p l e R s m args below meth c H locs cells slots Q (F0 m jp ls (.int (bI z) :: rest))) (br : (∀ (x : Int32) (y : Bool), x = bI y → y = z → W p l e R s m args below meth c H locs cells slots Q (F0 m jp ls (.int x :: rest))) → W p l e R s m args below meth c H locs cells slots Q (F0 m pc ls st)) : W p l e R s m args below meth c H locs cells slots Q (F0 m pc ls st) := br (fun x y hx hy => by rw [hx, hy]; exact tail)
theorem gX6_10 {i : Nat} (C : CallFix p m c cc nL s args lw_T RX6) (hK : m_K D cA s) (hP : m_H D cA b n M H) (ht : m_tp n i 6) {j : Nat} (hj : M.2.1 i 0 = some j) (hdg : decode cc pc = .ok (.getfield 10, 3)) (kk : W p l e R s m args below meth c H locs cells slots Q (F0 m (pc + 3) ls (.ref (b + j) :: rest))) : W p l e R s m args below meth c H locs cells slots Q (F0 m pc ls (.ref (b + i) :: rest)) := m_get (κ := 6) (k := 0) C hK hP ht (by decide) rfl inT6 (by decide) (by decide) ⟨_, rfl⟩ q_251 (by show va_rf ((M.2.1 i 0).map _) = _; rw [hj]; rfl) hdg kk
theorem gX6_19 {i : Nat} (C : CallFix p m c cc nL s args lw_T RX6) (hK : m_K D cA s) (hP : m_H D cA b n M H) (ht : m_tp n i 6) {j : Nat} (hj : M.2.1 i 2 = some j) (hdg : decode cc pc = .ok (.getfield 19, 3)) (kk : W p l e R s m args below meth c H locs cells slots Q (F0 m (pc + 3) ls (.ref (b + j) :: rest))) : W p l e R s m args below meth c H locs cells slots Q (F0 m pc ls (.ref (b + i) :: rest)) := m_get (κ := 6) (k := 2) C hK hP ht (by decide) rfl inT6 (by decide) (by decide) ⟨_, rfl⟩ q_253 (by show va_rf ((M.2.1 i 2).map _) = _; rw [hj]; rfl) hdg kk
theorem gX6_113 {i : Nat} (C : CallFix p m c cc nL s args lw_T RX6) (hK : m_K D cA s) (hP : m_H D cA b n M H) (ht : m_tp n i 5) (hdg : decode cc pc = .ok (.getfield 113, 3)) (kk : W p l e R s m args below meth c H locs cells slots Q (F0 m (pc + 3) ls (.int (M.1 i 5) :: rest))) : W p l e R s m args below meth c H locs cells slots Q (F0 m pc ls (.ref (b + i) :: rest)) := m_get (κ := 5) (k := 5) C hK hP ht (by decide) rfl inT5 (by decide) (by decide) ⟨_, rfl⟩ q_164 rfl hdg kk
theorem gX6_154 {i : Nat} (C : CallFix p m c cc nL s args lw_T RX6) (hK : m_K D cA s) (hP : m_H D cA b n M H) (ht : m_tp n i 5) (hdg : decode cc pc = .ok (.getfield 154, 3)) (kk : W p l e R s m args below meth c H locs cells slots Q (F0 m (pc + 3) ls (.int (M.1 i 11) :: rest))) : W p l e R s m args below meth c H locs cells slots Q (F0 m pc ls (.ref (b + i) :: rest)) := m_get (κ := 5) (k := 11) C hK hP ht (by decide) rfl inT5 (by decide) (by decide) ⟨_, rfl⟩ q_172 rfl hdg kk
theorem gX6_212 {i : Nat} (C : CallFix p m c cc nL s args lw_T RX6) (hK : m_K D cA s) (hP : m_H D cA b n M H) (ht : m_tp n i 6) (hdg : decode cc pc = .ok (.getfield 212, 3)) (kk : W p l e R s m args below meth c H locs cells slots Q (F0 m (pc + 3) ls (.int (M.1 i 3) :: rest))) : W p l e R s m args below meth c H locs cells slots Q (F0 m pc ls (.ref (b + i) :: rest)) := m_get (κ := 6) (k := 3) C hK hP ht (by decide) rfl inT6 (by decide) (by decide) ⟨_, rfl⟩ q_254 rfl hdg kk
theorem gX6_309 {i : Nat} (C : CallFix p m c cc nL s args lw_T RX6) (hK : m_K D cA s) (hP : m_H D cA b n M H) (ht : m_tp n i 5) (hdg : decode cc pc = .ok (.getfield 309, 3)) (kk : W p l e R s m args below meth c H locs cells slots Q (F0 m (pc + 3) ls (.int (M.1 i 12) :: rest))) : W p l e R s m args below meth c H locs cells slots Q (F0 m pc ls (.ref (b + i) :: rest)) := m_get (κ := 5) (k := 12) C hK hP ht (by decide) rfl inT5 (by decide) (by decide) ⟨_, rfl⟩ q_174 rfl hdg kk
theorem gX6_310 {i : Nat} (C : CallFix p m c cc nL s args lw_T RX6) (hK : m_K D cA s) (hP : m_H D cA b n M H) (ht : m_tp n i 5) (hdg : decode cc pc = .ok (.getfield 310, 3)) (kk : W p l e R s m args below meth c H locs cells slots Q (F0 m (pc + 3) ls (.int (M.1 i 13) :: rest))) : W p l e R s m args below meth c H locs cells slots Q (F0 m pc ls (.ref (b + i) :: rest)) := m_get (κ := 5) (k := 13) C hK hP ht (by decide) rfl inT5 (by decide) (by decide) ⟨_, rfl⟩ q_176 rfl hdg kk
theorem gX6_313 {i : Nat} (C : CallFix p m c cc nL s args lw_T RX6) (hK : m_K D cA s) (hP : m_H D cA b n M H) (ht : m_tp n i 5) (hdg : decode cc pc = .ok (.getfield 313, 3)) (kk : W p l e R s m args below meth c H locs cells slots Q (F0 m (pc + 3) ls (.int (M.1 i 14) :: rest))) : W p l e R s m args below meth c H locs cells slots Q (F0 m pc ls (.ref (b + i) :: rest)) := m_get (κ := 5) (k := 14) C hK hP ht (by decide) rfl inT5 (by decide) (by decide) ⟨_, rfl⟩ q_178 rfl hdg kk
theorem gX6_316 {i : Nat} (C : CallFix p m c cc nL s args lw_T RX6) (hK : m_K D cA s) (hP : m_H D cA b n M H) (ht : m_tp n i 5) (hdg : decode cc pc = .ok (.getfield 316, 3)) (kk : W p l e R s m args below meth c H locs cells slots Q (F0 m (pc + 3) ls (.int (M.1 i 15) :: rest))) : W p l e R s m args below meth c H locs cells slots Q (F0 m pc ls (.ref (b + i) :: rest)) := m_get (κ := 5) (k := 15) C hK hP ht (by decide) rfl inT5 (by decide) (by decide) ⟨_, rfl⟩ q_180 rfl hdg kk
theorem gX0_9 {i : Nat} (C : CallFix p m c cc nL s args lw_T RX0) (hK : m_K D cA s) (hP : m_H D cA b n M H) (ht : m_tp n i 0) (hdg : decode cc pc = .ok (.getfield 9, 3)) (kk : W p l e R s m args below meth c H locs cells slots Q (F0 m (pc + 3) ls (.int (M.1 i 0) :: rest))) : W p l e R s m args below meth c H locs cells slots Q (F0 m pc ls (.ref (b + i) :: rest)) := m_get (κ := 0) (k := 0) C hK hP ht (by decide) rfl inT0 (by decide) (by decide) ⟨_, rfl⟩ q_141 rfl hdg kk
theorem gX0_15 {i : Nat} (C : CallFix p m c cc nL s args lw_T RX0) (hK : m_K D cA s) (hP : m_H D cA b n M H) (ht : m_tp n i 0) (hdg : decode cc pc = .ok (.getfield 15, 3)) (kk : W p l e R s m args below meth c H locs cells slots Q (F0 m (pc + 3) ls (.int (M.1 i 1) :: rest))) : W p l e R s m args below meth c H locs cells slots Q (F0 m pc ls (.ref (b + i) :: rest)) := m_get (κ := 0) (k := 1) C hK hP ht (by decide) rfl inT0 (by decide) (by decide) ⟨_, rfl⟩ q_143 rfl hdg kk
theorem gX0_18 {i : Nat} (C : CallFix p m c cc nL s args lw_T RX0) (hK : m_K D cA s) (hP : m_H D cA b n M H) (ht : m_tp n i 0) (hdg : decode cc pc = .ok (.getfield 18, 3)) (kk : W p l e R s m args below meth c H locs cells slots Q (F0 m (pc + 3) ls (.int (M.1 i 2) :: rest))) : W p l e R s m args below meth c H locs cells slots Q (F0 m pc ls (.ref (b + i) :: rest)) := m_get (κ := 0) (k := 2) C hK hP ht (by decide) rfl inT0 (by decide) (by decide) ⟨_, rfl⟩ q_145 rfl hdg kk
theorem gX0_21 {i : Nat} (C : CallFix p m c cc nL s args lw_T RX0) (hK : m_K D cA s) (hP : m_H D cA b n M H) (ht : m_tp n i 0) (hdg : decode cc pc = .ok (.getfield 21, 3)) (kk : W p l e R s m args below meth c H locs cells slots Q (F0 m (pc + 3) ls (.int (M.1 i 3) :: rest))) : W p l e R s m args below meth c H locs cells slots Q (F0 m pc ls (.ref (b + i) :: rest)) := m_get (κ := 0) (k := 3) C hK hP ht (by decide) rfl inT0 (by decide) (by decide) ⟨_, rfl⟩ q_147 rfl hdg kk
theorem gX1_9 {i : Nat} (C : CallFix p m c cc nL s args lw_T RX1) (hK : m_K D cA s) (hP : m_H D cA b n M H) (ht : m_tp n i 1) (hdg : decode cc pc = .ok (.getfield 9, 3)) (kk : W p l e R s m args below meth c H locs cells slots Q (F0 m (pc + 3) ls (.int (M.1 i 0) :: rest))) : W p l e R s m args below meth c H locs cells slots Q (F0 m pc ls (.ref (b + i) :: rest)) := m_get (κ := 1) (k := 0) C hK hP ht (by decide) rfl inT1 (by decide) (by decide) ⟨_, rfl⟩ q_67 rfl hdg kk
theorem gX1_15 {i : Nat} (C : CallFix p m c cc nL s args lw_T RX1) (hK : m_K D cA s) (hP : m_H D cA b n M H) (ht : m_tp n i 1) (hdg : decode cc pc = .ok (.getfield 15, 3)) (kk : W p l e R s m args below meth c H locs cells slots Q (F0 m (pc + 3) ls (.int (M.1 i 1) :: rest))) : W p l e R s m args below meth c H locs cells slots Q (F0 m pc ls (.ref (b + i) :: rest)) := m_get (κ := 1) (k := 1) C hK hP ht (by decide) rfl inT1 (by decide) (by decide) ⟨_, rfl⟩ q_70 rfl hdg kk
theorem gX1_18 {i : Nat} (C : CallFix p m c cc nL s args lw_T RX1) (hK : m_K D cA s) (hP : m_H D cA b n M H) (ht : m_tp n i 1) (hdg : decode cc pc = .ok (.getfield 18, 3)) (kk : W p l e R s m args below meth c H locs cells slots Q (F0 m (pc + 3) ls (.int (M.1 i 2) :: rest))) : W p l e R s m args below meth c H locs cells slots Q (F0 m pc ls (.ref (b + i) :: rest)) := m_get (κ := 1) (k := 2) C hK hP ht (by decide) rfl inT1 (by decide) (by decide) ⟨_, rfl⟩ q_72 rfl hdg kk
theorem gX1_21 {i : Nat} (C : CallFix p m c cc nL s args lw_T RX1) (hK : m_K D cA s) (hP : m_H D cA b n M H) (ht : m_tp n i 1) (hdg : decode cc pc = .ok (.getfield 21, 3)) (kk : W p l e R s m args below meth c H locs cells slots Q (F0 m (pc + 3) ls (.int (M.1 i 3) :: rest))) : W p l e R s m args below meth c H locs cells slots Q (F0 m pc ls (.ref (b + i) :: rest)) := m_get (κ := 1) (k := 3) C hK hP ht (by decide) rfl inT1 (by decide) (by decide) ⟨_, rfl⟩ q_75 rfl hdg kk
theorem gX1_24 {i : Nat} (C : CallFix p m c cc nL s args lw_T RX1) (hK : m_K D cA s) (hP : m_H D cA b n M H) (ht : m_tp n i 1) (hdg : decode cc pc = .ok (.getfield 24, 3)) (kk : W p l e R s m args below meth c H locs cells slots Q (F0 m (pc + 3) ls (.int (M.1 i 4) :: rest))) : W p l e R s m args below meth c H locs cells slots Q (F0 m pc ls (.ref (b + i) :: rest)) := m_get (κ := 1) (k := 4) C hK hP ht (by decide) rfl inT1 (by decide) (by decide) ⟨_, rfl⟩ q_78 rfl hdg kk
theorem gX1_27 {i : Nat} (C : CallFix p m c cc nL s args lw_T RX1) (hK : m_K D cA s) (hP : m_H D cA b n M H) (ht : m_tp n i 1) (hdg : decode cc pc = .ok (.getfield 27, 3)) (kk : W p l e R s m args below meth c H locs cells slots Q (F0 m (pc + 3) ls (.int (M.1 i 5) :: rest))) : W p l e R s m args below meth c H locs cells slots Q (F0 m pc ls (.ref (b + i) :: rest)) := m_get (κ := 1) (k := 5) C hK hP ht (by decide) rfl inT1 (by decide) (by decide) ⟨_, rfl⟩ q_80 rfl hdg kk
theorem gX2_7 {i : Nat} (C : CallFix p m c cc nL s args lw_T RX2) (hK : m_K D cA s) (hP : m_H D cA b n M H) (ht : m_tp n i 2) (hdg : decode cc pc = .ok (.getfield 7, 3)) (kk : W p l e R s m args below meth c H locs cells slots Q (F0 m (pc + 3) ls (.int (M.1 i 1) :: rest))) : W p l e R s m args below meth c H locs cells slots Q (F0 m pc ls (.ref (b + i) :: rest)) := m_get (κ := 2) (k := 1) C hK hP ht (by decide) rfl inT2 (by decide) (by decide) ⟨_, rfl⟩ q_39 rfl hdg kk
theorem gX2_13 {i : Nat} (C : CallFix p m c cc nL s args lw_T RX2) (hK : m_K D cA s) (hP : m_H D cA b n M H) (ht : m_tp n i 2) (hdg : decode cc pc = .ok (.getfield 13, 3)) (kk : W p l e R s m args below meth c H locs cells slots Q (F0 m (pc + 3) ls (.int (M.1 i 2) :: rest))) : W p l e R s m args below meth c H locs cells slots Q (F0 m pc ls (.ref (b + i) :: rest)) := m_get (κ := 2) (k := 2) C hK hP ht (by decide) rfl inT2 (by decide) (by decide) ⟨_, rfl⟩ q_42 rfl hdg kk
theorem gX2_16 {i : Nat} (C : CallFix p m c cc nL s args lw_T RX2) (hK : m_K D cA s) (hP : m_H D cA b n M H) (ht : m_tp n i 2) (hdg : decode cc pc = .ok (.getfield 16, 3)) (kk : W p l e R s m args below meth c H locs cells slots Q (F0 m (pc + 3) ls (.int (M.1 i 0) :: rest))) : W p l e R s m args below meth c H locs cells slots Q (F0 m pc ls (.ref (b + i) :: rest)) := m_get (κ := 2) (k := 0) C hK hP ht (by decide) rfl inT2 (by decide) (by decide) ⟨_, rfl⟩ q_36 rfl hdg kk
theorem gX2_19 {i : Nat} (C : CallFix p m c cc nL s args lw_T RX2) (hK : m_K D cA s) (hP : m_H D cA b n M H) (ht : m_tp n i 2) (hdg : decode cc pc = .ok (.getfield 19, 3)) (kk : W p l e R s m args below meth c H locs cells slots Q (F0 m (pc + 3) ls (.int (M.1 i 3) :: rest))) : W p l e R s m args below meth c H locs cells slots Q (F0 m pc ls (.ref (b + i) :: rest)) := m_get (κ := 2) (k := 3) C hK hP ht (by decide) rfl inT2 (by decide) (by decide) ⟨_, rfl⟩ q_45 rfl hdg kk
theorem gX2_22 {i : Nat} (C : CallFix p m c cc nL s args lw_T RX2) (hK : m_K D cA s) (hP : m_H D cA b n M H) (ht : m_tp n i 2) (hdg : decode cc pc = .ok (.getfield 22, 3)) (kk : W p l e R s m args below meth c H locs cells slots Q (F0 m (pc + 3) ls (.int (M.1 i 4) :: rest))) : W p l e R s m args below meth c H locs cells slots Q (F0 m pc ls (.ref (b + i) :: rest)) := m_get (κ := 2) (k := 4) C hK hP ht (by decide) rfl inT2 (by decide) (by decide) ⟨_, rfl⟩ q_47 rfl hdg kk
theorem gX3_7 {i : Nat} (C : CallFix p m c cc nL s args lw_T RX3) (hK : m_K D cA s) (hP : m_H D cA b n M H) (ht : m_tp n i 3) (hdg : decode cc pc = .ok (.getfield 7, 3)) (kk : W p l e R s m args below meth c H locs cells slots Q (F0 m (pc + 3) ls (.int (M.1 i 0) :: rest))) : W p l e R s m args below meth c H locs cells slots Q (F0 m pc ls (.ref (b + i) :: rest)) := m_get (κ := 3) (k := 0) C hK hP ht (by decide) rfl inT3 (by decide) (by decide) ⟨_, rfl⟩ q_101 rfl hdg kk
theorem gX3_13 {i : Nat} (C : CallFix p m c cc nL s args lw_T RX3) (hK : m_K D cA s) (hP : m_H D cA b n M H) (ht : m_tp n i 3) (hdg : decode cc pc = .ok (.getfield 13, 3)) (kk : W p l e R s m args below meth c H locs cells slots Q (F0 m (pc + 3) ls (.int (M.1 i 1) :: rest))) : W p l e R s m args below meth c H locs cells slots Q (F0 m pc ls (.ref (b + i) :: rest)) := m_get (κ := 3) (k := 1) C hK hP ht (by decide) rfl inT3 (by decide) (by decide) ⟨_, rfl⟩ q_103 rfl hdg kk
theorem gX3_16 {i : Nat} (C : CallFix p m c cc nL s args lw_T RX3) (hK : m_K D cA s) (hP : m_H D cA b n M H) (ht : m_tp n i 3) (hdg : decode cc pc = .ok (.getfield 16, 3)) (kk : W p l e R s m args below meth c H locs cells slots Q (F0 m (pc + 3) ls (.int (M.1 i 2) :: rest))) : W p l e R s m args below meth c H locs cells slots Q (F0 m pc ls (.ref (b + i) :: rest)) := m_get (κ := 3) (k := 2) C hK hP ht (by decide) rfl inT3 (by decide) (by decide) ⟨_, rfl⟩ q_105 rfl hdg kk
theorem gX3_19 {i : Nat} (C : CallFix p m c cc nL s args lw_T RX3) (hK : m_K D cA s) (hP : m_H D cA b n M H) (ht : m_tp n i 3) (hdg : decode cc pc = .ok (.getfield 19, 3)) (kk : W p l e R s m args below meth c H locs cells slots Q (F0 m (pc + 3) ls (.int (M.1 i 3) :: rest))) : W p l e R s m args below meth c H locs cells slots Q (F0 m pc ls (.ref (b + i) :: rest)) := m_get (κ := 3) (k := 3) C hK hP ht (by decide) rfl inT3 (by decide) (by decide) ⟨_, rfl⟩ q_107 rfl hdg kk
theorem gX3_22 {i : Nat} (C : CallFix p m c cc nL s args lw_T RX3) (hK : m_K D cA s) (hP : m_H D cA b n M H) (ht : m_tp n i 3) (hdg : decode cc pc = .ok (.getfield 22, 3)) (kk : W p l e R s m args below meth c H locs cells slots Q (F0 m (pc + 3) ls (.int (M.1 i 4) :: rest))) : W p l e R s m args below meth c H locs cells slots Q (F0 m pc ls (.ref (b + i) :: rest)) := m_get (κ := 3) (k := 4) C hK hP ht (by decide) rfl inT3 (by decide) (by decide) ⟨_, rfl⟩ q_109 rfl hdg kk
theorem gX3_25 {i : Nat} (C : CallFix p m c cc nL s args lw_T RX3) (hK : m_K D cA s) (hP : m_H D cA b n M H) (ht : m_tp n i 3) (hdg : decode cc pc = .ok (.getfield 25, 3)) (kk : W p l e R s m args below meth c H locs cells slots Q (F0 m (pc + 3) ls (.int (M.1 i 5) :: rest))) : W p l e R s m args below meth c H locs cells slots Q (F0 m pc ls (.ref (b + i) :: rest)) := m_get (κ := 3) (k := 5) C hK hP ht (by decide) rfl inT3 (by decide) (by decide) ⟨_, rfl⟩ q_111 rfl hdg kk
theorem gX3_28 {i : Nat} (C : CallFix p m c cc nL s args lw_T RX3) (hK : m_K D cA s) (hP : m_H D cA b n M H) (ht : m_tp n i 3) (hdg : decode cc pc = .ok (.getfield 28, 3)) (kk : W p l e R s m args below meth c H locs cells slots Q (F0 m (pc + 3) ls (.int (bI (M.1 i 6 != 0)) :: rest))) : W p l e R s m args below meth c H locs cells slots Q (F0 m pc ls (.ref (b + i) :: rest)) := m_get (κ := 3) (k := 6) C hK hP ht (by decide) rfl inT3 (by decide) (by decide) ⟨_, rfl⟩ q_113 rfl hdg kk
theorem gX3_32 {i : Nat} (C : CallFix p m c cc nL s args lw_T RX3) (hK : m_K D cA s) (hP : m_H D cA b n M H) (ht : m_tp n i 3) (hdg : decode cc pc = .ok (.getfield 32, 3)) (kk : W p l e R s m args below meth c H locs cells slots Q (F0 m (pc + 3) ls (.int (M.1 i 7) :: rest))) : W p l e R s m args below meth c H locs cells slots Q (F0 m pc ls (.ref (b + i) :: rest)) := m_get (κ := 3) (k := 7) C hK hP ht (by decide) rfl inT3 (by decide) (by decide) ⟨_, rfl⟩ q_115 rfl hdg kk
theorem gX5_9 {i : Nat} (C : CallFix p m c cc nL s args lw_T RX5) (hK : m_K D cA s) (hP : m_H D cA b n M H) (ht : m_tp n i 5) (hdg : decode cc pc = .ok (.getfield 9, 3)) (kk : W p l e R s m args below meth c H locs cells slots Q (F0 m (pc + 3) ls (.int (M.1 i 7) :: rest))) : W p l e R s m args below meth c H locs cells slots Q (F0 m pc ls (.ref (b + i) :: rest)) := m_get (κ := 5) (k := 7) C hK hP ht (by decide) rfl inT5 (by decide) (by decide) ⟨_, rfl⟩ q_166 rfl hdg kk
theorem gX5_15 {i : Nat} (C : CallFix p m c cc nL s args lw_T RX5) (hK : m_K D cA s) (hP : m_H D cA b n M H) (ht : m_tp n i 5) (hdg : decode cc pc = .ok (.getfield 15, 3)) (kk : W p l e R s m args below meth c H locs cells slots Q (F0 m (pc + 3) ls (.int (M.1 i 8) :: rest))) : W p l e R s m args below meth c H locs cells slots Q (F0 m pc ls (.ref (b + i) :: rest)) := m_get (κ := 5) (k := 8) C hK hP ht (by decide) rfl inT5 (by decide) (by decide) ⟨_, rfl⟩ q_167 rfl hdg kk
theorem gX5_18 {i : Nat} (C : CallFix p m c cc nL s args lw_T RX5) (hK : m_K D cA s) (hP : m_H D cA b n M H) (ht : m_tp n i 5) (hdg : decode cc pc = .ok (.getfield 18, 3)) (kk : W p l e R s m args below meth c H locs cells slots Q (F0 m (pc + 3) ls (.int (M.1 i 9) :: rest))) : W p l e R s m args below meth c H locs cells slots Q (F0 m pc ls (.ref (b + i) :: rest)) := m_get (κ := 5) (k := 9) C hK hP ht (by decide) rfl inT5 (by decide) (by decide) ⟨_, rfl⟩ q_168 rfl hdg kk
theorem gX5_21 {i : Nat} (C : CallFix p m c cc nL s args lw_T RX5) (hK : m_K D cA s) (hP : m_H D cA b n M H) (ht : m_tp n i 5) (hdg : decode cc pc = .ok (.getfield 21, 3)) (kk : W p l e R s m args below meth c H locs cells slots Q (F0 m (pc + 3) ls (.int (M.1 i 10) :: rest))) : W p l e R s m args below meth c H locs cells slots Q (F0 m pc ls (.ref (b + i) :: rest)) := m_get (κ := 5) (k := 10) C hK hP ht (by decide) rfl inT5 (by decide) (by decide) ⟨_, rfl⟩ q_169 rfl hdg kk
theorem gX5_26 {i : Nat} (C : CallFix p m c cc nL s args lw_T RX5) (hK : m_K D cA s) (hP : m_H D cA b n M H) (ht : m_tp n i 5) {j : Nat} (hj : M.2.1 i 0 = some j) (hdg : decode cc pc = .ok (.getfield 26, 3)) (kk : W p l e R s m args below meth c H locs cells slots Q (F0 m (pc + 3) ls (.ref (b + j) :: rest))) : W p l e R s m args below meth c H locs cells slots Q (F0 m pc ls (.ref (b + i) :: rest)) := m_get (κ := 5) (k := 0) C hK hP ht (by decide) rfl inT5 (by decide) (by decide) ⟨_, rfl⟩ q_158 (by show va_rf ((M.2.1 i 0).map _) = _; rw [hj]; rfl) hdg kk
theorem gX5_33 {i : Nat} (C : CallFix p m c cc nL s args lw_T RX5) (hK : m_K D cA s) (hP : m_H D cA b n M H) (ht : m_tp n i 5) {j : Nat} (hj : M.2.1 i 1 = some j) (hdg : decode cc pc = .ok (.getfield 33, 3)) (kk : W p l e R s m args below meth c H locs cells slots Q (F0 m (pc + 3) ls (.ref (b + j) :: rest))) : W p l e R s m args below meth c H locs cells slots Q (F0 m pc ls (.ref (b + i) :: rest)) := m_get (κ := 5) (k := 1) C hK hP ht (by decide) rfl inT5 (by decide) (by decide) ⟨_, rfl⟩ q_159 (by show va_rf ((M.2.1 i 1).map _) = _; rw [hj]; rfl) hdg kk
theorem gX5_40 {i : Nat} (C : CallFix p m c cc nL s args lw_T RX5) (hK : m_K D cA s) (hP : m_H D cA b n M H) (ht : m_tp n i 5) {j : Nat} (hj : M.2.1 i 2 = some j) (hdg : decode cc pc = .ok (.getfield 40, 3)) (kk : W p l e R s m args below meth c H locs cells slots Q (F0 m (pc + 3) ls (.ref (b + j) :: rest))) : W p l e R s m args below meth c H locs cells slots Q (F0 m pc ls (.ref (b + i) :: rest)) := m_get (κ := 5) (k := 2) C hK hP ht (by decide) rfl inT5 (by decide) (by decide) ⟨_, rfl⟩ q_160 (by show va_rf ((M.2.1 i 2).map _) = _; rw [hj]; rfl) hdg kk
theorem gX5_47 {i : Nat} (C : CallFix p m c cc nL s args lw_T RX5) (hK : m_K D cA s) (hP : m_H D cA b n M H) (ht : m_tp n i 5) {j : Nat} (hj : M.2.1 i 3 = some j) (hdg : decode cc pc = .ok (.getfield 47, 3)) (kk : W p l e R s m args below meth c H locs cells slots Q (F0 m (pc + 3) ls (.ref (b + j) :: rest))) : W p l e R s m args below meth c H locs cells slots Q (F0 m pc ls (.ref (b + i) :: rest)) := m_get (κ := 5) (k := 3) C hK hP ht (by decide) rfl inT5 (by decide) (by decide) ⟨_, rfl⟩ q_161 (by show va_rf ((M.2.1 i 3).map _) = _; rw [hj]; rfl) hdg kk
theorem gX5_52 {i : Nat} (C : CallFix p m c cc nL s args lw_T RX5) (hK : m_K D cA s) (hP : m_H D cA b n M H) (ht : m_tp n i 5) {j : Nat} (hj : M.2.1 i 4 = some j) (hdg : decode cc pc = .ok (.getfield 52, 3)) (kk : W p l e R s m args below meth c H locs cells slots Q (F0 m (pc + 3) ls (.ref (b + j) :: rest))) : W p l e R s m args below meth c H locs cells slots Q (F0 m pc ls (.ref (b + i) :: rest)) := m_get (κ := 5) (k := 4) C hK hP ht (by decide) rfl inT5 (by decide) (by decide) ⟨_, rfl⟩ q_162 (by show va_rf ((M.2.1 i 4).map _) = _; rw [hj]; rfl) hdg kk
theorem gX5_56 {i : Nat} (C : CallFix p m c cc nL s args lw_T RX5) (hK : m_K D cA s) (hP : m_H D cA b n M H) (ht : m_tp n i 5) {j : Nat} (hj : M.2.1 i 16 = some j) (hdg : decode cc pc = .ok (.getfield 56, 3)) (kk : W p l e R s m args below meth c H locs cells slots Q (F0 m (pc + 3) ls (.ref (b + j) :: rest))) : W p l e R s m args below meth c H locs cells slots Q (F0 m pc ls (.ref (b + i) :: rest)) := m_get (κ := 5) (k := 16) C hK hP ht (by decide) rfl inT5 (by decide) (by decide) ⟨_, rfl⟩ q_181 (by show va_rf ((M.2.1 i 16).map _) = _; rw [hj]; rfl) hdg kk
theorem gX5_60 {i : Nat} (C : CallFix p m c cc nL s args lw_T RX5) (hK : m_K D cA s) (hP : m_H D cA b n M H) (ht : m_tp n i 5) {j : Nat} (hj : M.2.1 i 17 = some j) (hdg : decode cc pc = .ok (.getfield 60, 3)) (kk : W p l e R s m args below meth c H locs cells slots Q (F0 m (pc + 3) ls (.ref (b + j) :: rest))) : W p l e R s m args below meth c H locs cells slots Q (F0 m pc ls (.ref (b + i) :: rest)) := m_get (κ := 5) (k := 17) C hK hP ht (by decide) rfl inT5 (by decide) (by decide) ⟨_, rfl⟩ q_182 (by show va_rf ((M.2.1 i 17).map _) = _; rw [hj]; rfl) hdg kk
theorem gX5_64 {i : Nat} (C : CallFix p m c cc nL s args lw_T RX5) (hK : m_K D cA s) (hP : m_H D cA b n M H) (ht : m_tp n i 5) {j : Nat} (hj : M.2.1 i 18 = some j) (hdg : decode cc pc = .ok (.getfield 64, 3)) (kk : W p l e R s m args below meth c H locs cells slots Q (F0 m (pc + 3) ls (.ref (b + j) :: rest))) : W p l e R s m args below meth c H locs cells slots Q (F0 m pc ls (.ref (b + i) :: rest)) := m_get (κ := 5) (k := 18) C hK hP ht (by decide) rfl inT5 (by decide) (by decide) ⟨_, rfl⟩ q_183 (by show va_rf ((M.2.1 i 18).map _) = _; rw [hj]; rfl) hdg kk
theorem gX5_83 {i : Nat} (C : CallFix p m c cc nL s args lw_T RX5) (hK : m_K D cA s) (hP : m_H D cA b n M H) (ht : m_tp n i 5) (hdg : decode cc pc = .ok (.getfield 83, 3)) (kk : W p l e R s m args below meth c H locs cells slots Q (F0 m (pc + 3) ls (.int (M.1 i 5) :: rest))) : W p l e R s m args below meth c H locs cells slots Q (F0 m pc ls (.ref (b + i) :: rest)) := m_get (κ := 5) (k := 5) C hK hP ht (by decide) rfl inT5 (by decide) (by decide) ⟨_, rfl⟩ q_163 rfl hdg kk
theorem gX5_104 {i : Nat} (C : CallFix p m c cc nL s args lw_T RX5) (hK : m_K D cA s) (hP : m_H D cA b n M H) (ht : m_tp n i 5) (hdg : decode cc pc = .ok (.getfield 104, 3)) (kk : W p l e R s m args below meth c H locs cells slots Q (F0 m (pc + 3) ls (.int (M.1 i 6) :: rest))) : W p l e R s m args below meth c H locs cells slots Q (F0 m pc ls (.ref (b + i) :: rest)) := m_get (κ := 5) (k := 6) C hK hP ht (by decide) rfl inT5 (by decide) (by decide) ⟨_, rfl⟩ q_165 rfl hdg kk
theorem gX5_107 {i : Nat} (C : CallFix p m c cc nL s args lw_T RX5) (hK : m_K D cA s) (hP : m_H D cA b n M H) (ht : m_tp n i 5) (hdg : decode cc pc = .ok (.getfield 107, 3)) (kk : W p l e R s m args below meth c H locs cells slots Q (F0 m (pc + 3) ls (.int (M.1 i 11) :: rest))) : W p l e R s m args below meth c H locs cells slots Q (F0 m pc ls (.ref (b + i) :: rest)) := m_get (κ := 5) (k := 11) C hK hP ht (by decide) rfl inT5 (by decide) (by decide) ⟨_, rfl⟩ q_171 rfl hdg kk
theorem gX5_110 {i : Nat} (C : CallFix p m c cc nL s args lw_T RX5) (hK : m_K D cA s) (hP : m_H D cA b n M H) (ht : m_tp n i 5) (hdg : decode cc pc = .ok (.getfield 110, 3)) (kk : W p l e R s m args below meth c H locs cells slots Q (F0 m (pc + 3) ls (.int (M.1 i 12) :: rest))) : W p l e R s m args below meth c H locs cells slots Q (F0 m pc ls (.ref (b + i) :: rest)) := m_get (κ := 5) (k := 12) C hK hP ht (by decide) rfl inT5 (by decide) (by decide) ⟨_, rfl⟩ q_173 rfl hdg kk
theorem gX5_113 {i : Nat} (C : CallFix p m c cc nL s args lw_T RX5) (hK : m_K D cA s) (hP : m_H D cA b n M H) (ht : m_tp n i 5) (hdg : decode cc pc = .ok (.getfield 113, 3)) (kk : W p l e R s m args below meth c H locs cells slots Q (F0 m (pc + 3) ls (.int (M.1 i 13) :: rest))) : W p l e R s m args below meth c H locs cells slots Q (F0 m pc ls (.ref (b + i) :: rest)) := m_get (κ := 5) (k := 13) C hK hP ht (by decide) rfl inT5 (by decide) (by decide) ⟨_, rfl⟩ q_175 rfl hdg kk
theorem gX5_116 {i : Nat} (C : CallFix p m c cc nL s args lw_T RX5) (hK : m_K D cA s) (hP : m_H D cA b n M H) (ht : m_tp n i 5) (hdg : decode cc pc = .ok (.getfield 116, 3)) (kk : W p l e R s m args below meth c H locs cells slots Q (F0 m (pc + 3) ls (.int (M.1 i 14) :: rest))) : W p l e R s m args below meth c H locs cells slots Q (F0 m pc ls (.ref (b + i) :: rest)) := m_get (κ := 5) (k := 14) C hK hP ht (by decide) rfl inT5 (by decide) (by decide) ⟨_, rfl⟩ q_177 rfl hdg kk
theorem gX5_119 {i : Nat} (C : CallFix p m c cc nL s args lw_T RX5) (hK : m_K D cA s) (hP : m_H D cA b n M H) (ht : m_tp n i 5) (hdg : decode cc pc = .ok (.getfield 119, 3)) (kk : W p l e R s m args below meth c H locs cells slots Q (F0 m (pc + 3) ls (.int (M.1 i 15) :: rest))) : W p l e R s m args below meth c H locs cells slots Q (F0 m pc ls (.ref (b + i) :: rest)) := m_get (κ := 5) (k := 15) C hK hP ht (by decide) rfl inT5 (by decide) (by decide) ⟨_, rfl⟩ q_179 rfl hdg kk
theorem gX5_122 {i : Nat} (C : CallFix p m c cc nL s args lw_T RX5) (hK : m_K D cA s) (hP : m_H D cA b n M H) (ht : m_tp n i 3) (hdg : decode cc pc = .ok (.getfield 122, 3)) (kk : W p l e R s m args below meth c H locs cells slots Q (F0 m (pc + 3) ls (.int (M.1 i 0) :: rest))) : W p l e R s m args below meth c H locs cells slots Q (F0 m pc ls (.ref (b + i) :: rest)) := m_get (κ := 3) (k := 0) C hK hP ht (by decide) rfl inT3 (by decide) (by decide) ⟨_, rfl⟩ q_102 rfl hdg kk
theorem gX5_125 {i : Nat} (C : CallFix p m c cc nL s args lw_T RX5) (hK : m_K D cA s) (hP : m_H D cA b n M H) (ht : m_tp n i 3) (hdg : decode cc pc = .ok (.getfield 125, 3)) (kk : W p l e R s m args below meth c H locs cells slots Q (F0 m (pc + 3) ls (.int (M.1 i 1) :: rest))) : W p l e R s m args below meth c H locs cells slots Q (F0 m pc ls (.ref (b + i) :: rest)) := m_get (κ := 3) (k := 1) C hK hP ht (by decide) rfl inT3 (by decide) (by decide) ⟨_, rfl⟩ q_104 rfl hdg kk
theorem gX5_128 {i : Nat} (C : CallFix p m c cc nL s args lw_T RX5) (hK : m_K D cA s) (hP : m_H D cA b n M H) (ht : m_tp n i 3) (hdg : decode cc pc = .ok (.getfield 128, 3)) (kk : W p l e R s m args below meth c H locs cells slots Q (F0 m (pc + 3) ls (.int (M.1 i 2) :: rest))) : W p l e R s m args below meth c H locs cells slots Q (F0 m pc ls (.ref (b + i) :: rest)) := m_get (κ := 3) (k := 2) C hK hP ht (by decide) rfl inT3 (by decide) (by decide) ⟨_, rfl⟩ q_106 rfl hdg kk
theorem gX5_131 {i : Nat} (C : CallFix p m c cc nL s args lw_T RX5) (hK : m_K D cA s) (hP : m_H D cA b n M H) (ht : m_tp n i 3) (hdg : decode cc pc = .ok (.getfield 131, 3)) (kk : W p l e R s m args below meth c H locs cells slots Q (F0 m (pc + 3) ls (.int (M.1 i 3) :: rest))) : W p l e R s m args below meth c H locs cells slots Q (F0 m pc ls (.ref (b + i) :: rest)) := m_get (κ := 3) (k := 3) C hK hP ht (by decide) rfl inT3 (by decide) (by decide) ⟨_, rfl⟩ q_108 rfl hdg kk
theorem gX5_134 {i : Nat} (C : CallFix p m c cc nL s args lw_T RX5) (hK : m_K D cA s) (hP : m_H D cA b n M H) (ht : m_tp n i 3) (hdg : decode cc pc = .ok (.getfield 134, 3)) (kk : W p l e R s m args below meth c H locs cells slots Q (F0 m (pc + 3) ls (.int (M.1 i 4) :: rest))) : W p l e R s m args below meth c H locs cells slots Q (F0 m pc ls (.ref (b + i) :: rest)) := m_get (κ := 3) (k := 4) C hK hP ht (by decide) rfl inT3 (by decide) (by decide) ⟨_, rfl⟩ q_110 rfl hdg kk
theorem gX5_137 {i : Nat} (C : CallFix p m c cc nL s args lw_T RX5) (hK : m_K D cA s) (hP : m_H D cA b n M H) (ht : m_tp n i 3) (hdg : decode cc pc = .ok (.getfield 137, 3)) (kk : W p l e R s m args below meth c H locs cells slots Q (F0 m (pc + 3) ls (.int (M.1 i 5) :: rest))) : W p l e R s m args below meth c H locs cells slots Q (F0 m pc ls (.ref (b + i) :: rest)) := m_get (κ := 3) (k := 5) C hK hP ht (by decide) rfl inT3 (by decide) (by decide) ⟨_, rfl⟩ q_112 rfl hdg kk
theorem gX5_140 {i : Nat} (C : CallFix p m c cc nL s args lw_T RX5) (hK : m_K D cA s) (hP : m_H D cA b n M H) (ht : m_tp n i 3) (hdg : decode cc pc = .ok (.getfield 140, 3)) (kk : W p l e R s m args below meth c H locs cells slots Q (F0 m (pc + 3) ls (.int (bI (M.1 i 6 != 0)) :: rest))) : W p l e R s m args below meth c H locs cells slots Q (F0 m pc ls (.ref (b + i) :: rest)) := m_get (κ := 3) (k := 6) C hK hP ht (by decide) rfl inT3 (by decide) (by decide) ⟨_, rfl⟩ q_114 rfl hdg kk
theorem gX5_144 {i : Nat} (C : CallFix p m c cc nL s args lw_T RX5) (hK : m_K D cA s) (hP : m_H D cA b n M H) (ht : m_tp n i 3) (hdg : decode cc pc = .ok (.getfield 144, 3)) (kk : W p l e R s m args below meth c H locs cells slots Q (F0 m (pc + 3) ls (.int (M.1 i 7) :: rest))) : W p l e R s m args below meth c H locs cells slots Q (F0 m pc ls (.ref (b + i) :: rest)) := m_get (κ := 3) (k := 7) C hK hP ht (by decide) rfl inT3 (by decide) (by decide) ⟨_, rfl⟩ q_116 rfl hdg kk
theorem gX5_159 {i : Nat} (C : CallFix p m c cc nL s args lw_T RX5) (hK : m_K D cA s) (hP : m_H D cA b n M H) (ht : m_tp n i 0) (hdg : decode cc pc = .ok (.getfield 159, 3)) (kk : W p l e R s m args below meth c H locs cells slots Q (F0 m (pc + 3) ls (.int (M.1 i 0) :: rest))) : W p l e R s m args below meth c H locs cells slots Q (F0 m pc ls (.ref (b + i) :: rest)) := m_get (κ := 0) (k := 0) C hK hP ht (by decide) rfl inT0 (by decide) (by decide) ⟨_, rfl⟩ q_142 rfl hdg kk
theorem gX5_162 {i : Nat} (C : CallFix p m c cc nL s args lw_T RX5) (hK : m_K D cA s) (hP : m_H D cA b n M H) (ht : m_tp n i 2) (hdg : decode cc pc = .ok (.getfield 162, 3)) (kk : W p l e R s m args below meth c H locs cells slots Q (F0 m (pc + 3) ls (.int (M.1 i 4) :: rest))) : W p l e R s m args below meth c H locs cells slots Q (F0 m pc ls (.ref (b + i) :: rest)) := m_get (κ := 2) (k := 4) C hK hP ht (by decide) rfl inT2 (by decide) (by decide) ⟨_, rfl⟩ q_48 rfl hdg kk
theorem gX5_169 {i : Nat} (C : CallFix p m c cc nL s args lw_T RX5) (hK : m_K D cA s) (hP : m_H D cA b n M H) (ht : m_tp n i 2) (hdg : decode cc pc = .ok (.getfield 169, 3)) (kk : W p l e R s m args below meth c H locs cells slots Q (F0 m (pc + 3) ls (.int (M.1 i 3) :: rest))) : W p l e R s m args below meth c H locs cells slots Q (F0 m pc ls (.ref (b + i) :: rest)) := m_get (κ := 2) (k := 3) C hK hP ht (by decide) rfl inT2 (by decide) (by decide) ⟨_, rfl⟩ q_46 rfl hdg kk
theorem gX5_170 {i : Nat} (C : CallFix p m c cc nL s args lw_T RX5) (hK : m_K D cA s) (hP : m_H D cA b n M H) (ht : m_tp n i 2) (hdg : decode cc pc = .ok (.getfield 170, 3)) (kk : W p l e R s m args below meth c H locs cells slots Q (F0 m (pc + 3) ls (.int (M.1 i 0) :: rest))) : W p l e R s m args below meth c H locs cells slots Q (F0 m pc ls (.ref (b + i) :: rest)) := m_get (κ := 2) (k := 0) C hK hP ht (by decide) rfl inT2 (by decide) (by decide) ⟨_, rfl⟩ q_38 rfl hdg kk
theorem gX5_173 {i : Nat} (C : CallFix p m c cc nL s args lw_T RX5) (hK : m_K D cA s) (hP : m_H D cA b n M H) (ht : m_tp n i 2) (hdg : decode cc pc = .ok (.getfield 173, 3)) (kk : W p l e R s m args below meth c H locs cells slots Q (F0 m (pc + 3) ls (.int (M.1 i 1) :: rest))) : W p l e R s m args below meth c H locs cells slots Q (F0 m pc ls (.ref (b + i) :: rest)) := m_get (κ := 2) (k := 1) C hK hP ht (by decide) rfl inT2 (by decide) (by decide) ⟨_, rfl⟩ q_41 rfl hdg kk
theorem gX5_176 {i : Nat} (C : CallFix p m c cc nL s args lw_T RX5) (hK : m_K D cA s) (hP : m_H D cA b n M H) (ht : m_tp n i 2) (hdg : decode cc pc = .ok (.getfield 176, 3)) (kk : W p l e R s m args below meth c H locs cells slots Q (F0 m (pc + 3) ls (.int (M.1 i 2) :: rest))) : W p l e R s m args below meth c H locs cells slots Q (F0 m pc ls (.ref (b + i) :: rest)) := m_get (κ := 2) (k := 2) C hK hP ht (by decide) rfl inT2 (by decide) (by decide) ⟨_, rfl⟩ q_44 rfl hdg kk
theorem gX5_204 {i : Nat} (C : CallFix p m c cc nL s args lw_T RX5) (hK : m_K D cA s) (hP : m_H D cA b n M H) (ht : m_tp n i 0) (hdg : decode cc pc = .ok (.getfield 204, 3)) (kk : W p l e R s m args below meth c H locs cells slots Q (F0 m (pc + 3) ls (.int (M.1 i 1) :: rest))) : W p l e R s m args below meth c H locs cells slots Q (F0 m pc ls (.ref (b + i) :: rest)) := m_get (κ := 0) (k := 1) C hK hP ht (by decide) rfl inT0 (by decide) (by decide) ⟨_, rfl⟩ q_144 rfl hdg kk
theorem gX5_238 {i : Nat} (C : CallFix p m c cc nL s args lw_T RX5) (hK : m_K D cA s) (hP : m_H D cA b n M H) (ht : m_tp n i 0) (hdg : decode cc pc = .ok (.getfield 238, 3)) (kk : W p l e R s m args below meth c H locs cells slots Q (F0 m (pc + 3) ls (.int (M.1 i 2) :: rest))) : W p l e R s m args below meth c H locs cells slots Q (F0 m pc ls (.ref (b + i) :: rest)) := m_get (κ := 0) (k := 2) C hK hP ht (by decide) rfl inT0 (by decide) (by decide) ⟨_, rfl⟩ q_146 rfl hdg kk
theorem gX5_239 {i : Nat} (C : CallFix p m c cc nL s args lw_T RX5) (hK : m_K D cA s) (hP : m_H D cA b n M H) (ht : m_tp n i 1) (hdg : decode cc pc = .ok (.getfield 239, 3)) (kk : W p l e R s m args below meth c H locs cells slots Q (F0 m (pc + 3) ls (.int (M.1 i 0) :: rest))) : W p l e R s m args below meth c H locs cells slots Q (F0 m pc ls (.ref (b + i) :: rest)) := m_get (κ := 1) (k := 0) C hK hP ht (by decide) rfl inT1 (by decide) (by decide) ⟨_, rfl⟩ q_69 rfl hdg kk
theorem gX5_240 {i : Nat} (C : CallFix p m c cc nL s args lw_T RX5) (hK : m_K D cA s) (hP : m_H D cA b n M H) (ht : m_tp n i 0) (hdg : decode cc pc = .ok (.getfield 240, 3)) (kk : W p l e R s m args below meth c H locs cells slots Q (F0 m (pc + 3) ls (.int (M.1 i 3) :: rest))) : W p l e R s m args below meth c H locs cells slots Q (F0 m pc ls (.ref (b + i) :: rest)) := m_get (κ := 0) (k := 3) C hK hP ht (by decide) rfl inT0 (by decide) (by decide) ⟨_, rfl⟩ q_148 rfl hdg kk
theorem gX5_248 {i : Nat} (C : CallFix p m c cc nL s args lw_T RX5) (hK : m_K D cA s) (hP : m_H D cA b n M H) (ht : m_tp n i 1) (hdg : decode cc pc = .ok (.getfield 248, 3)) (kk : W p l e R s m args below meth c H locs cells slots Q (F0 m (pc + 3) ls (.int (M.1 i 2) :: rest))) : W p l e R s m args below meth c H locs cells slots Q (F0 m pc ls (.ref (b + i) :: rest)) := m_get (κ := 1) (k := 2) C hK hP ht (by decide) rfl inT1 (by decide) (by decide) ⟨_, rfl⟩ q_74 rfl hdg kk
theorem gX5_254 {i : Nat} (C : CallFix p m c cc nL s args lw_T RX5) (hK : m_K D cA s) (hP : m_H D cA b n M H) (ht : m_tp n i 1) (hdg : decode cc pc = .ok (.getfield 254, 3)) (kk : W p l e R s m args below meth c H locs cells slots Q (F0 m (pc + 3) ls (.int (M.1 i 4) :: rest))) : W p l e R s m args below meth c H locs cells slots Q (F0 m pc ls (.ref (b + i) :: rest)) := m_get (κ := 1) (k := 4) C hK hP ht (by decide) rfl inT1 (by decide) (by decide) ⟨_, rfl⟩ q_79 rfl hdg kk
theorem pX6_212 {i : Nat} {v : Int32} (C : CallFix p m c cc nL s args lw_T RX6) (hK : m_K D cA s) (hP : m_H D cA b n M H) (hS : va_S (m_A b) s.heap H locs) (ht : m_tp n i 6) (hdg : decode cc pc = .ok (.putfield 212, 3)) (kk : ∀ (M' : Mem) (H1 : Heap) (locs1 : List Loc), M' = uI M i 3 v → m_H D cA b n M' H1 → va_S (m_A b) s.heap H1 locs1 → W p l e R s m args below meth c H1 locs1 cells slots Q (F0 m (pc + 3) ls rest)) : W p l e R s m args below meth c H locs cells slots Q (F0 m pc ls (.int v :: .ref (b + i) :: rest)) := m_put (κ := 6) (k := 3) (M' := uI M i 3 v) (ty := .int) C hK hP hS ht (by decide) rfl inT6 tyX6 tyX6_ok nmX6 (by decide) (by decide) rfl q_254 (by decide +kernel) rfl rfl (by show Value.int _ = _; rw [uI_s]) (fun _ _ h => m_fv_uI_o h) (fun _ h => m_e_uI_o h) hdg (fun H1 locs1 h1 h2 _ => kk _ H1 locs1 rfl h1 h2)
theorem pX0_9 {i : Nat} {v : Int32} (C : CallFix p m c cc nL s args lw_T RX0) (hK : m_K D cA s) (hP : m_H D cA b n M H) (hS : va_S (m_A b) s.heap H locs) (ht : m_tp n i 0) (hdg : decode cc pc = .ok (.putfield 9, 3)) (kk : ∀ (M' : Mem) (H1 : Heap) (locs1 : List Loc), M' = uI M i 0 v → m_H D cA b n M' H1 → va_S (m_A b) s.heap H1 locs1 → W p l e R s m args below meth c H1 locs1 cells slots Q (F0 m (pc + 3) ls rest)) : W p l e R s m args below meth c H locs cells slots Q (F0 m pc ls (.int v :: .ref (b + i) :: rest)) := m_put (κ := 0) (k := 0) (M' := uI M i 0 v) (ty := .int) C hK hP hS ht (by decide) rfl inT0 tyX0 tyX0_ok nmX0 (by decide) (by decide) rfl q_141 (by decide +kernel) rfl rfl (by show Value.int _ = _; rw [uI_s]) (fun _ _ h => m_fv_uI_o h) (fun _ h => m_e_uI_o h) hdg (fun H1 locs1 h1 h2 _ => kk _ H1 locs1 rfl h1 h2)
theorem pX0_15 {i : Nat} {v : Int32} (C : CallFix p m c cc nL s args lw_T RX0) (hK : m_K D cA s) (hP : m_H D cA b n M H) (hS : va_S (m_A b) s.heap H locs) (ht : m_tp n i 0) (hdg : decode cc pc = .ok (.putfield 15, 3)) (kk : ∀ (M' : Mem) (H1 : Heap) (locs1 : List Loc), M' = uI M i 1 v → m_H D cA b n M' H1 → va_S (m_A b) s.heap H1 locs1 → W p l e R s m args below meth c H1 locs1 cells slots Q (F0 m (pc + 3) ls rest)) : W p l e R s m args below meth c H locs cells slots Q (F0 m pc ls (.int v :: .ref (b + i) :: rest)) := m_put (κ := 0) (k := 1) (M' := uI M i 1 v) (ty := .int) C hK hP hS ht (by decide) rfl inT0 tyX0 tyX0_ok nmX0 (by decide) (by decide) rfl q_143 (by decide +kernel) rfl rfl (by show Value.int _ = _; rw [uI_s]) (fun _ _ h => m_fv_uI_o h) (fun _ h => m_e_uI_o h) hdg (fun H1 locs1 h1 h2 _ => kk _ H1 locs1 rfl h1 h2)
theorem pX0_18 {i : Nat} {v : Int32} (C : CallFix p m c cc nL s args lw_T RX0) (hK : m_K D cA s) (hP : m_H D cA b n M H) (hS : va_S (m_A b) s.heap H locs) (ht : m_tp n i 0) (hdg : decode cc pc = .ok (.putfield 18, 3)) (kk : ∀ (M' : Mem) (H1 : Heap) (locs1 : List Loc), M' = uI M i 2 v → m_H D cA b n M' H1 → va_S (m_A b) s.heap H1 locs1 → W p l e R s m args below meth c H1 locs1 cells slots Q (F0 m (pc + 3) ls rest)) : W p l e R s m args below meth c H locs cells slots Q (F0 m pc ls (.int v :: .ref (b + i) :: rest)) := m_put (κ := 0) (k := 2) (M' := uI M i 2 v) (ty := .int) C hK hP hS ht (by decide) rfl inT0 tyX0 tyX0_ok nmX0 (by decide) (by decide) rfl q_145 (by decide +kernel) rfl rfl (by show Value.int _ = _; rw [uI_s]) (fun _ _ h => m_fv_uI_o h) (fun _ h => m_e_uI_o h) hdg (fun H1 locs1 h1 h2 _ => kk _ H1 locs1 rfl h1 h2)
theorem pX0_21 {i : Nat} {v : Int32} (C : CallFix p m c cc nL s args lw_T RX0) (hK : m_K D cA s) (hP : m_H D cA b n M H) (hS : va_S (m_A b) s.heap H locs) (ht : m_tp n i 0) (hdg : decode cc pc = .ok (.putfield 21, 3)) (kk : ∀ (M' : Mem) (H1 : Heap) (locs1 : List Loc), M' = uI M i 3 v → m_H D cA b n M' H1 → va_S (m_A b) s.heap H1 locs1 → W p l e R s m args below meth c H1 locs1 cells slots Q (F0 m (pc + 3) ls rest)) : W p l e R s m args below meth c H locs cells slots Q (F0 m pc ls (.int v :: .ref (b + i) :: rest)) := m_put (κ := 0) (k := 3) (M' := uI M i 3 v) (ty := .int) C hK hP hS ht (by decide) rfl inT0 tyX0 tyX0_ok nmX0 (by decide) (by decide) rfl q_147 (by decide +kernel) rfl rfl (by show Value.int _ = _; rw [uI_s]) (fun _ _ h => m_fv_uI_o h) (fun _ h => m_e_uI_o h) hdg (fun H1 locs1 h1 h2 _ => kk _ H1 locs1 rfl h1 h2)
theorem pX1_9 {i : Nat} {v : Int32} (C : CallFix p m c cc nL s args lw_T RX1) (hK : m_K D cA s) (hP : m_H D cA b n M H) (hS : va_S (m_A b) s.heap H locs) (ht : m_tp n i 1) (hdg : decode cc pc = .ok (.putfield 9, 3)) (kk : ∀ (M' : Mem) (H1 : Heap) (locs1 : List Loc), M' = uI M i 0 v → m_H D cA b n M' H1 → va_S (m_A b) s.heap H1 locs1 → W p l e R s m args below meth c H1 locs1 cells slots Q (F0 m (pc + 3) ls rest)) : W p l e R s m args below meth c H locs cells slots Q (F0 m pc ls (.int v :: .ref (b + i) :: rest)) := m_put (κ := 1) (k := 0) (M' := uI M i 0 v) (ty := .int) C hK hP hS ht (by decide) rfl inT1 tyX1 tyX1_ok nmX1 (by decide) (by decide) rfl q_67 (by decide +kernel) rfl rfl (by show Value.int _ = _; rw [uI_s]) (fun _ _ h => m_fv_uI_o h) (fun _ h => m_e_uI_o h) hdg (fun H1 locs1 h1 h2 _ => kk _ H1 locs1 rfl h1 h2)
theorem pX1_15 {i : Nat} {v : Int32} (C : CallFix p m c cc nL s args lw_T RX1) (hK : m_K D cA s) (hP : m_H D cA b n M H) (hS : va_S (m_A b) s.heap H locs) (ht : m_tp n i 1) (hdg : decode cc pc = .ok (.putfield 15, 3)) (kk : ∀ (M' : Mem) (H1 : Heap) (locs1 : List Loc), M' = uI M i 1 v → m_H D cA b n M' H1 → va_S (m_A b) s.heap H1 locs1 → W p l e R s m args below meth c H1 locs1 cells slots Q (F0 m (pc + 3) ls rest)) : W p l e R s m args below meth c H locs cells slots Q (F0 m pc ls (.int v :: .ref (b + i) :: rest)) := m_put (κ := 1) (k := 1) (M' := uI M i 1 v) (ty := .int) C hK hP hS ht (by decide) rfl inT1 tyX1 tyX1_ok nmX1 (by decide) (by decide) rfl q_70 (by decide +kernel) rfl rfl (by show Value.int _ = _; rw [uI_s]) (fun _ _ h => m_fv_uI_o h) (fun _ h => m_e_uI_o h) hdg (fun H1 locs1 h1 h2 _ => kk _ H1 locs1 rfl h1 h2)
theorem pX1_18 {i : Nat} {v : Int32} (C : CallFix p m c cc nL s args lw_T RX1) (hK : m_K D cA s) (hP : m_H D cA b n M H) (hS : va_S (m_A b) s.heap H locs) (ht : m_tp n i 1) (hdg : decode cc pc = .ok (.putfield 18, 3)) (kk : ∀ (M' : Mem) (H1 : Heap) (locs1 : List Loc), M' = uI M i 2 v → m_H D cA b n M' H1 → va_S (m_A b) s.heap H1 locs1 → W p l e R s m args below meth c H1 locs1 cells slots Q (F0 m (pc + 3) ls rest)) : W p l e R s m args below meth c H locs cells slots Q (F0 m pc ls (.int v :: .ref (b + i) :: rest)) := m_put (κ := 1) (k := 2) (M' := uI M i 2 v) (ty := .int) C hK hP hS ht (by decide) rfl inT1 tyX1 tyX1_ok nmX1 (by decide) (by decide) rfl q_72 (by decide +kernel) rfl rfl (by show Value.int _ = _; rw [uI_s]) (fun _ _ h => m_fv_uI_o h) (fun _ h => m_e_uI_o h) hdg (fun H1 locs1 h1 h2 _ => kk _ H1 locs1 rfl h1 h2)
theorem pX1_21 {i : Nat} {v : Int32} (C : CallFix p m c cc nL s args lw_T RX1) (hK : m_K D cA s) (hP : m_H D cA b n M H) (hS : va_S (m_A b) s.heap H locs) (ht : m_tp n i 1) (hdg : decode cc pc = .ok (.putfield 21, 3)) (kk : ∀ (M' : Mem) (H1 : Heap) (locs1 : List Loc), M' = uI M i 3 v → m_H D cA b n M' H1 → va_S (m_A b) s.heap H1 locs1 → W p l e R s m args below meth c H1 locs1 cells slots Q (F0 m (pc + 3) ls rest)) : W p l e R s m args below meth c H locs cells slots Q (F0 m pc ls (.int v :: .ref (b + i) :: rest)) := m_put (κ := 1) (k := 3) (M' := uI M i 3 v) (ty := .int) C hK hP hS ht (by decide) rfl inT1 tyX1 tyX1_ok nmX1 (by decide) (by decide) rfl q_75 (by decide +kernel) rfl rfl (by show Value.int _ = _; rw [uI_s]) (fun _ _ h => m_fv_uI_o h) (fun _ h => m_e_uI_o h) hdg (fun H1 locs1 h1 h2 _ => kk _ H1 locs1 rfl h1 h2)
theorem pX1_24 {i : Nat} {v : Int32} (C : CallFix p m c cc nL s args lw_T RX1) (hK : m_K D cA s) (hP : m_H D cA b n M H) (hS : va_S (m_A b) s.heap H locs) (ht : m_tp n i 1) (hdg : decode cc pc = .ok (.putfield 24, 3)) (kk : ∀ (M' : Mem) (H1 : Heap) (locs1 : List Loc), M' = uI M i 4 v → m_H D cA b n M' H1 → va_S (m_A b) s.heap H1 locs1 → W p l e R s m args below meth c H1 locs1 cells slots Q (F0 m (pc + 3) ls rest)) : W p l e R s m args below meth c H locs cells slots Q (F0 m pc ls (.int v :: .ref (b + i) :: rest)) := m_put (κ := 1) (k := 4) (M' := uI M i 4 v) (ty := .int) C hK hP hS ht (by decide) rfl inT1 tyX1 tyX1_ok nmX1 (by decide) (by decide) rfl q_78 (by decide +kernel) rfl rfl (by show Value.int _ = _; rw [uI_s]) (fun _ _ h => m_fv_uI_o h) (fun _ h => m_e_uI_o h) hdg (fun H1 locs1 h1 h2 _ => kk _ H1 locs1 rfl h1 h2)
theorem pX1_27 {i : Nat} {v : Int32} (C : CallFix p m c cc nL s args lw_T RX1) (hK : m_K D cA s) (hP : m_H D cA b n M H) (hS : va_S (m_A b) s.heap H locs) (ht : m_tp n i 1) (hdg : decode cc pc = .ok (.putfield 27, 3)) (kk : ∀ (M' : Mem) (H1 : Heap) (locs1 : List Loc), M' = uI M i 5 v → m_H D cA b n M' H1 → va_S (m_A b) s.heap H1 locs1 → W p l e R s m args below meth c H1 locs1 cells slots Q (F0 m (pc + 3) ls rest)) : W p l e R s m args below meth c H locs cells slots Q (F0 m pc ls (.int v :: .ref (b + i) :: rest)) := m_put (κ := 1) (k := 5) (M' := uI M i 5 v) (ty := .int) C hK hP hS ht (by decide) rfl inT1 tyX1 tyX1_ok nmX1 (by decide) (by decide) rfl q_80 (by decide +kernel) rfl rfl (by show Value.int _ = _; rw [uI_s]) (fun _ _ h => m_fv_uI_o h) (fun _ h => m_e_uI_o h) hdg (fun H1 locs1 h1 h2 _ => kk _ H1 locs1 rfl h1 h2)
theorem pX2_7 {i : Nat} {v : Int32} (C : CallFix p m c cc nL s args lw_T RX2) (hK : m_K D cA s) (hP : m_H D cA b n M H) (hS : va_S (m_A b) s.heap H locs) (ht : m_tp n i 2) (hdg : decode cc pc = .ok (.putfield 7, 3)) (kk : ∀ (M' : Mem) (H1 : Heap) (locs1 : List Loc), M' = uI M i 1 v → m_H D cA b n M' H1 → va_S (m_A b) s.heap H1 locs1 → W p l e R s m args below meth c H1 locs1 cells slots Q (F0 m (pc + 3) ls rest)) : W p l e R s m args below meth c H locs cells slots Q (F0 m pc ls (.int v :: .ref (b + i) :: rest)) := m_put (κ := 2) (k := 1) (M' := uI M i 1 v) (ty := .int) C hK hP hS ht (by decide) rfl inT2 tyX2 tyX2_ok nmX2 (by decide) (by decide) rfl q_39 (by decide +kernel) rfl rfl (by show Value.int _ = _; rw [uI_s]) (fun _ _ h => m_fv_uI_o h) (fun _ h => m_e_uI_o h) hdg (fun H1 locs1 h1 h2 _ => kk _ H1 locs1 rfl h1 h2)
theorem pX2_13 {i : Nat} {v : Int32} (C : CallFix p m c cc nL s args lw_T RX2) (hK : m_K D cA s) (hP : m_H D cA b n M H) (hS : va_S (m_A b) s.heap H locs) (ht : m_tp n i 2) (hdg : decode cc pc = .ok (.putfield 13, 3)) (kk : ∀ (M' : Mem) (H1 : Heap) (locs1 : List Loc), M' = uI M i 2 v → m_H D cA b n M' H1 → va_S (m_A b) s.heap H1 locs1 → W p l e R s m args below meth c H1 locs1 cells slots Q (F0 m (pc + 3) ls rest)) : W p l e R s m args below meth c H locs cells slots Q (F0 m pc ls (.int v :: .ref (b + i) :: rest)) := m_put (κ := 2) (k := 2) (M' := uI M i 2 v) (ty := .int) C hK hP hS ht (by decide) rfl inT2 tyX2 tyX2_ok nmX2 (by decide) (by decide) rfl q_42 (by decide +kernel) rfl rfl (by show Value.int _ = _; rw [uI_s]) (fun _ _ h => m_fv_uI_o h) (fun _ h => m_e_uI_o h) hdg (fun H1 locs1 h1 h2 _ => kk _ H1 locs1 rfl h1 h2)
theorem pX2_16 {i : Nat} {v : Int32} (C : CallFix p m c cc nL s args lw_T RX2) (hK : m_K D cA s) (hP : m_H D cA b n M H) (hS : va_S (m_A b) s.heap H locs) (ht : m_tp n i 2) (hdg : decode cc pc = .ok (.putfield 16, 3)) (kk : ∀ (M' : Mem) (H1 : Heap) (locs1 : List Loc), M' = uI M i 0 v → m_H D cA b n M' H1 → va_S (m_A b) s.heap H1 locs1 → W p l e R s m args below meth c H1 locs1 cells slots Q (F0 m (pc + 3) ls rest)) : W p l e R s m args below meth c H locs cells slots Q (F0 m pc ls (.int v :: .ref (b + i) :: rest)) := m_put (κ := 2) (k := 0) (M' := uI M i 0 v) (ty := .int) C hK hP hS ht (by decide) rfl inT2 tyX2 tyX2_ok nmX2 (by decide) (by decide) rfl q_36 (by decide +kernel) rfl rfl (by show Value.int _ = _; rw [uI_s]) (fun _ _ h => m_fv_uI_o h) (fun _ h => m_e_uI_o h) hdg (fun H1 locs1 h1 h2 _ => kk _ H1 locs1 rfl h1 h2)
theorem pX2_19 {i : Nat} {v : Int32} (C : CallFix p m c cc nL s args lw_T RX2) (hK : m_K D cA s) (hP : m_H D cA b n M H) (hS : va_S (m_A b) s.heap H locs) (ht : m_tp n i 2) (hdg : decode cc pc = .ok (.putfield 19, 3)) (kk : ∀ (M' : Mem) (H1 : Heap) (locs1 : List Loc), M' = uI M i 3 v → m_H D cA b n M' H1 → va_S (m_A b) s.heap H1 locs1 → W p l e R s m args below meth c H1 locs1 cells slots Q (F0 m (pc + 3) ls rest)) : W p l e R s m args below meth c H locs cells slots Q (F0 m pc ls (.int v :: .ref (b + i) :: rest)) := m_put (κ := 2) (k := 3) (M' := uI M i 3 v) (ty := .int) C hK hP hS ht (by decide) rfl inT2 tyX2 tyX2_ok nmX2 (by decide) (by decide) rfl q_45 (by decide +kernel) rfl rfl (by show Value.int _ = _; rw [uI_s]) (fun _ _ h => m_fv_uI_o h) (fun _ h => m_e_uI_o h) hdg (fun H1 locs1 h1 h2 _ => kk _ H1 locs1 rfl h1 h2)
theorem pX2_22 {i : Nat} {v : Int32} (C : CallFix p m c cc nL s args lw_T RX2) (hK : m_K D cA s) (hP : m_H D cA b n M H) (hS : va_S (m_A b) s.heap H locs) (ht : m_tp n i 2) (hdg : decode cc pc = .ok (.putfield 22, 3)) (kk : ∀ (M' : Mem) (H1 : Heap) (locs1 : List Loc), M' = uI M i 4 v → m_H D cA b n M' H1 → va_S (m_A b) s.heap H1 locs1 → W p l e R s m args below meth c H1 locs1 cells slots Q (F0 m (pc + 3) ls rest)) : W p l e R s m args below meth c H locs cells slots Q (F0 m pc ls (.int v :: .ref (b + i) :: rest)) := m_put (κ := 2) (k := 4) (M' := uI M i 4 v) (ty := .int) C hK hP hS ht (by decide) rfl inT2 tyX2 tyX2_ok nmX2 (by decide) (by decide) rfl q_47 (by decide +kernel) rfl rfl (by show Value.int _ = _; rw [uI_s]) (fun _ _ h => m_fv_uI_o h) (fun _ h => m_e_uI_o h) hdg (fun H1 locs1 h1 h2 _ => kk _ H1 locs1 rfl h1 h2)
theorem pX3_7 {i : Nat} {v : Int32} (C : CallFix p m c cc nL s args lw_T RX3) (hK : m_K D cA s) (hP : m_H D cA b n M H) (hS : va_S (m_A b) s.heap H locs) (ht : m_tp n i 3) (hdg : decode cc pc = .ok (.putfield 7, 3)) (kk : ∀ (M' : Mem) (H1 : Heap) (locs1 : List Loc), M' = uI M i 0 v → m_H D cA b n M' H1 → va_S (m_A b) s.heap H1 locs1 → W p l e R s m args below meth c H1 locs1 cells slots Q (F0 m (pc + 3) ls rest)) : W p l e R s m args below meth c H locs cells slots Q (F0 m pc ls (.int v :: .ref (b + i) :: rest)) := m_put (κ := 3) (k := 0) (M' := uI M i 0 v) (ty := .int) C hK hP hS ht (by decide) rfl inT3 tyX3 tyX3_ok nmX3 (by decide) (by decide) rfl q_101 (by decide +kernel) rfl rfl (by show Value.int _ = _; rw [uI_s]) (fun _ _ h => m_fv_uI_o h) (fun _ h => m_e_uI_o h) hdg (fun H1 locs1 h1 h2 _ => kk _ H1 locs1 rfl h1 h2)
theorem pX3_13 {i : Nat} {v : Int32} (C : CallFix p m c cc nL s args lw_T RX3) (hK : m_K D cA s) (hP : m_H D cA b n M H) (hS : va_S (m_A b) s.heap H locs) (ht : m_tp n i 3) (hdg : decode cc pc = .ok (.putfield 13, 3)) (kk : ∀ (M' : Mem) (H1 : Heap) (locs1 : List Loc), M' = uI M i 1 v → m_H D cA b n M' H1 → va_S (m_A b) s.heap H1 locs1 → W p l e R s m args below meth c H1 locs1 cells slots Q (F0 m (pc + 3) ls rest)) : W p l e R s m args below meth c H locs cells slots Q (F0 m pc ls (.int v :: .ref (b + i) :: rest)) := m_put (κ := 3) (k := 1) (M' := uI M i 1 v) (ty := .int) C hK hP hS ht (by decide) rfl inT3 tyX3 tyX3_ok nmX3 (by decide) (by decide) rfl q_103 (by decide +kernel) rfl rfl (by show Value.int _ = _; rw [uI_s]) (fun _ _ h => m_fv_uI_o h) (fun _ h => m_e_uI_o h) hdg (fun H1 locs1 h1 h2 _ => kk _ H1 locs1 rfl h1 h2)
theorem pX3_16 {i : Nat} {v : Int32} (C : CallFix p m c cc nL s args lw_T RX3) (hK : m_K D cA s) (hP : m_H D cA b n M H) (hS : va_S (m_A b) s.heap H locs) (ht : m_tp n i 3) (hdg : decode cc pc = .ok (.putfield 16, 3)) (kk : ∀ (M' : Mem) (H1 : Heap) (locs1 : List Loc), M' = uI M i 2 v → m_H D cA b n M' H1 → va_S (m_A b) s.heap H1 locs1 → W p l e R s m args below meth c H1 locs1 cells slots Q (F0 m (pc + 3) ls rest)) : W p l e R s m args below meth c H locs cells slots Q (F0 m pc ls (.int v :: .ref (b + i) :: rest)) := m_put (κ := 3) (k := 2) (M' := uI M i 2 v) (ty := .int) C hK hP hS ht (by decide) rfl inT3 tyX3 tyX3_ok nmX3 (by decide) (by decide) rfl q_105 (by decide +kernel) rfl rfl (by show Value.int _ = _; rw [uI_s]) (fun _ _ h => m_fv_uI_o h) (fun _ h => m_e_uI_o h) hdg (fun H1 locs1 h1 h2 _ => kk _ H1 locs1 rfl h1 h2)
theorem pX3_19 {i : Nat} {v : Int32} (C : CallFix p m c cc nL s args lw_T RX3) (hK : m_K D cA s) (hP : m_H D cA b n M H) (hS : va_S (m_A b) s.heap H locs) (ht : m_tp n i 3) (hdg : decode cc pc = .ok (.putfield 19, 3)) (kk : ∀ (M' : Mem) (H1 : Heap) (locs1 : List Loc), M' = uI M i 3 v → m_H D cA b n M' H1 → va_S (m_A b) s.heap H1 locs1 → W p l e R s m args below meth c H1 locs1 cells slots Q (F0 m (pc + 3) ls rest)) : W p l e R s m args below meth c H locs cells slots Q (F0 m pc ls (.int v :: .ref (b + i) :: rest)) := m_put (κ := 3) (k := 3) (M' := uI M i 3 v) (ty := .int) C hK hP hS ht (by decide) rfl inT3 tyX3 tyX3_ok nmX3 (by decide) (by decide) rfl q_107 (by decide +kernel) rfl rfl (by show Value.int _ = _; rw [uI_s]) (fun _ _ h => m_fv_uI_o h) (fun _ h => m_e_uI_o h) hdg (fun H1 locs1 h1 h2 _ => kk _ H1 locs1 rfl h1 h2)
theorem pX3_22 {i : Nat} {v : Int32} (C : CallFix p m c cc nL s args lw_T RX3) (hK : m_K D cA s) (hP : m_H D cA b n M H) (hS : va_S (m_A b) s.heap H locs) (ht : m_tp n i 3) (hdg : decode cc pc = .ok (.putfield 22, 3)) (kk : ∀ (M' : Mem) (H1 : Heap) (locs1 : List Loc), M' = uI M i 4 v → m_H D cA b n M' H1 → va_S (m_A b) s.heap H1 locs1 → W p l e R s m args below meth c H1 locs1 cells slots Q (F0 m (pc + 3) ls rest)) : W p l e R s m args below meth c H locs cells slots Q (F0 m pc ls (.int v :: .ref (b + i) :: rest)) := m_put (κ := 3) (k := 4) (M' := uI M i 4 v) (ty := .int) C hK hP hS ht (by decide) rfl inT3 tyX3 tyX3_ok nmX3 (by decide) (by decide) rfl q_109 (by decide +kernel) rfl rfl (by show Value.int _ = _; rw [uI_s]) (fun _ _ h => m_fv_uI_o h) (fun _ h => m_e_uI_o h) hdg (fun H1 locs1 h1 h2 _ => kk _ H1 locs1 rfl h1 h2)
theorem pX3_25 {i : Nat} {v : Int32} (C : CallFix p m c cc nL s args lw_T RX3) (hK : m_K D cA s) (hP : m_H D cA b n M H) (hS : va_S (m_A b) s.heap H locs) (ht : m_tp n i 3) (hdg : decode cc pc = .ok (.putfield 25, 3)) (kk : ∀ (M' : Mem) (H1 : Heap) (locs1 : List Loc), M' = uI M i 5 v → m_H D cA b n M' H1 → va_S (m_A b) s.heap H1 locs1 → W p l e R s m args below meth c H1 locs1 cells slots Q (F0 m (pc + 3) ls rest)) : W p l e R s m args below meth c H locs cells slots Q (F0 m pc ls (.int v :: .ref (b + i) :: rest)) := m_put (κ := 3) (k := 5) (M' := uI M i 5 v) (ty := .int) C hK hP hS ht (by decide) rfl inT3 tyX3 tyX3_ok nmX3 (by decide) (by decide) rfl q_111 (by decide +kernel) rfl rfl (by show Value.int _ = _; rw [uI_s]) (fun _ _ h => m_fv_uI_o h) (fun _ h => m_e_uI_o h) hdg (fun H1 locs1 h1 h2 _ => kk _ H1 locs1 rfl h1 h2)
theorem pX3_28 {i : Nat} {z : Bool} (C : CallFix p m c cc nL s args lw_T RX3) (hK : m_K D cA s) (hP : m_H D cA b n M H) (hS : va_S (m_A b) s.heap H locs) (ht : m_tp n i 3) (hdg : decode cc pc = .ok (.putfield 28, 3)) (kk : ∀ (M' : Mem) (H1 : Heap) (locs1 : List Loc), M' = uI M i 6 (bI z) → m_H D cA b n M' H1 → va_S (m_A b) s.heap H1 locs1 → W p l e R s m args below meth c H1 locs1 cells slots Q (F0 m (pc + 3) ls rest)) : W p l e R s m args below meth c H locs cells slots Q (F0 m pc ls (.int (bI z) :: .ref (b + i) :: rest)) := m_put (κ := 3) (k := 6) (M' := uI M i 6 (bI z)) (ty := .boolean) C hK hP hS ht (by decide) rfl inT3 tyX3 tyX3_ok nmX3 (by decide) (by decide) rfl q_113 (by decide +kernel) (bI_nar z) (bI_fit z) (by show Value.int (bI _) = _; rw [uI_s, bI_ne]) (fun _ _ h => m_fv_uI_o h) (fun _ h => m_e_uI_o h) hdg (fun H1 locs1 h1 h2 _ => kk _ H1 locs1 rfl h1 h2)
theorem pX3_32 {i : Nat} {v : Int32} (C : CallFix p m c cc nL s args lw_T RX3) (hK : m_K D cA s) (hP : m_H D cA b n M H) (hS : va_S (m_A b) s.heap H locs) (ht : m_tp n i 3) (hdg : decode cc pc = .ok (.putfield 32, 3)) (kk : ∀ (M' : Mem) (H1 : Heap) (locs1 : List Loc), M' = uI M i 7 v → m_H D cA b n M' H1 → va_S (m_A b) s.heap H1 locs1 → W p l e R s m args below meth c H1 locs1 cells slots Q (F0 m (pc + 3) ls rest)) : W p l e R s m args below meth c H locs cells slots Q (F0 m pc ls (.int v :: .ref (b + i) :: rest)) := m_put (κ := 3) (k := 7) (M' := uI M i 7 v) (ty := .int) C hK hP hS ht (by decide) rfl inT3 tyX3 tyX3_ok nmX3 (by decide) (by decide) rfl q_115 (by decide +kernel) rfl rfl (by show Value.int _ = _; rw [uI_s]) (fun _ _ h => m_fv_uI_o h) (fun _ h => m_e_uI_o h) hdg (fun H1 locs1 h1 h2 _ => kk _ H1 locs1 rfl h1 h2)
theorem pX5_9 {i : Nat} {v : Int32} (C : CallFix p m c cc nL s args lw_T RX5) (hK : m_K D cA s) (hP : m_H D cA b n M H) (hS : va_S (m_A b) s.heap H locs) (ht : m_tp n i 5) (hdg : decode cc pc = .ok (.putfield 9, 3)) (kk : ∀ (M' : Mem) (H1 : Heap) (locs1 : List Loc), M' = uI M i 7 v → m_H D cA b n M' H1 → va_S (m_A b) s.heap H1 locs1 → W p l e R s m args below meth c H1 locs1 cells slots Q (F0 m (pc + 3) ls rest)) : W p l e R s m args below meth c H locs cells slots Q (F0 m pc ls (.int v :: .ref (b + i) :: rest)) := m_put (κ := 5) (k := 7) (M' := uI M i 7 v) (ty := .int) C hK hP hS ht (by decide) rfl inT5 tyX5 tyX5_ok nmX5 (by decide) (by decide) rfl q_166 (by decide +kernel) rfl rfl (by show Value.int _ = _; rw [uI_s]) (fun _ _ h => m_fv_uI_o h) (fun _ h => m_e_uI_o h) hdg (fun H1 locs1 h1 h2 _ => kk _ H1 locs1 rfl h1 h2)
theorem pX5_15 {i : Nat} {v : Int32} (C : CallFix p m c cc nL s args lw_T RX5) (hK : m_K D cA s) (hP : m_H D cA b n M H) (hS : va_S (m_A b) s.heap H locs) (ht : m_tp n i 5) (hdg : decode cc pc = .ok (.putfield 15, 3)) (kk : ∀ (M' : Mem) (H1 : Heap) (locs1 : List Loc), M' = uI M i 8 v → m_H D cA b n M' H1 → va_S (m_A b) s.heap H1 locs1 → W p l e R s m args below meth c H1 locs1 cells slots Q (F0 m (pc + 3) ls rest)) : W p l e R s m args below meth c H locs cells slots Q (F0 m pc ls (.int v :: .ref (b + i) :: rest)) := m_put (κ := 5) (k := 8) (M' := uI M i 8 v) (ty := .int) C hK hP hS ht (by decide) rfl inT5 tyX5 tyX5_ok nmX5 (by decide) (by decide) rfl q_167 (by decide +kernel) rfl rfl (by show Value.int _ = _; rw [uI_s]) (fun _ _ h => m_fv_uI_o h) (fun _ h => m_e_uI_o h) hdg (fun H1 locs1 h1 h2 _ => kk _ H1 locs1 rfl h1 h2)
theorem pX5_18 {i : Nat} {v : Int32} (C : CallFix p m c cc nL s args lw_T RX5) (hK : m_K D cA s) (hP : m_H D cA b n M H) (hS : va_S (m_A b) s.heap H locs) (ht : m_tp n i 5) (hdg : decode cc pc = .ok (.putfield 18, 3)) (kk : ∀ (M' : Mem) (H1 : Heap) (locs1 : List Loc), M' = uI M i 9 v → m_H D cA b n M' H1 → va_S (m_A b) s.heap H1 locs1 → W p l e R s m args below meth c H1 locs1 cells slots Q (F0 m (pc + 3) ls rest)) : W p l e R s m args below meth c H locs cells slots Q (F0 m pc ls (.int v :: .ref (b + i) :: rest)) := m_put (κ := 5) (k := 9) (M' := uI M i 9 v) (ty := .int) C hK hP hS ht (by decide) rfl inT5 tyX5 tyX5_ok nmX5 (by decide) (by decide) rfl q_168 (by decide +kernel) rfl rfl (by show Value.int _ = _; rw [uI_s]) (fun _ _ h => m_fv_uI_o h) (fun _ h => m_e_uI_o h) hdg (fun H1 locs1 h1 h2 _ => kk _ H1 locs1 rfl h1 h2)
theorem pX5_21 {i : Nat} {v : Int32} (C : CallFix p m c cc nL s args lw_T RX5) (hK : m_K D cA s) (hP : m_H D cA b n M H) (hS : va_S (m_A b) s.heap H locs) (ht : m_tp n i 5) (hdg : decode cc pc = .ok (.putfield 21, 3)) (kk : ∀ (M' : Mem) (H1 : Heap) (locs1 : List Loc), M' = uI M i 10 v → m_H D cA b n M' H1 → va_S (m_A b) s.heap H1 locs1 → W p l e R s m args below meth c H1 locs1 cells slots Q (F0 m (pc + 3) ls rest)) : W p l e R s m args below meth c H locs cells slots Q (F0 m pc ls (.int v :: .ref (b + i) :: rest)) := m_put (κ := 5) (k := 10) (M' := uI M i 10 v) (ty := .int) C hK hP hS ht (by decide) rfl inT5 tyX5 tyX5_ok nmX5 (by decide) (by decide) rfl q_169 (by decide +kernel) rfl rfl (by show Value.int _ = _; rw [uI_s]) (fun _ _ h => m_fv_uI_o h) (fun _ h => m_e_uI_o h) hdg (fun H1 locs1 h1 h2 _ => kk _ H1 locs1 rfl h1 h2)
theorem pX5_83 {i : Nat} {v : Int32} (C : CallFix p m c cc nL s args lw_T RX5) (hK : m_K D cA s) (hP : m_H D cA b n M H) (hS : va_S (m_A b) s.heap H locs) (ht : m_tp n i 5) (hdg : decode cc pc = .ok (.putfield 83, 3)) (kk : ∀ (M' : Mem) (H1 : Heap) (locs1 : List Loc), M' = uI M i 5 v → m_H D cA b n M' H1 → va_S (m_A b) s.heap H1 locs1 → W p l e R s m args below meth c H1 locs1 cells slots Q (F0 m (pc + 3) ls rest)) : W p l e R s m args below meth c H locs cells slots Q (F0 m pc ls (.int v :: .ref (b + i) :: rest)) := m_put (κ := 5) (k := 5) (M' := uI M i 5 v) (ty := .int) C hK hP hS ht (by decide) rfl inT5 tyX5 tyX5_ok nmX5 (by decide) (by decide) rfl q_163 (by decide +kernel) rfl rfl (by show Value.int _ = _; rw [uI_s]) (fun _ _ h => m_fv_uI_o h) (fun _ h => m_e_uI_o h) hdg (fun H1 locs1 h1 h2 _ => kk _ H1 locs1 rfl h1 h2)
theorem pX5_104 {i : Nat} {v : Int32} (C : CallFix p m c cc nL s args lw_T RX5) (hK : m_K D cA s) (hP : m_H D cA b n M H) (hS : va_S (m_A b) s.heap H locs) (ht : m_tp n i 5) (hdg : decode cc pc = .ok (.putfield 104, 3)) (kk : ∀ (M' : Mem) (H1 : Heap) (locs1 : List Loc), M' = uI M i 6 v → m_H D cA b n M' H1 → va_S (m_A b) s.heap H1 locs1 → W p l e R s m args below meth c H1 locs1 cells slots Q (F0 m (pc + 3) ls rest)) : W p l e R s m args below meth c H locs cells slots Q (F0 m pc ls (.int v :: .ref (b + i) :: rest)) := m_put (κ := 5) (k := 6) (M' := uI M i 6 v) (ty := .int) C hK hP hS ht (by decide) rfl inT5 tyX5 tyX5_ok nmX5 (by decide) (by decide) rfl q_165 (by decide +kernel) rfl rfl (by show Value.int _ = _; rw [uI_s]) (fun _ _ h => m_fv_uI_o h) (fun _ h => m_e_uI_o h) hdg (fun H1 locs1 h1 h2 _ => kk _ H1 locs1 rfl h1 h2)
theorem pX5_107 {i : Nat} {v : Int32} (C : CallFix p m c cc nL s args lw_T RX5) (hK : m_K D cA s) (hP : m_H D cA b n M H) (hS : va_S (m_A b) s.heap H locs) (ht : m_tp n i 5) (hdg : decode cc pc = .ok (.putfield 107, 3)) (kk : ∀ (M' : Mem) (H1 : Heap) (locs1 : List Loc), M' = uI M i 11 v → m_H D cA b n M' H1 → va_S (m_A b) s.heap H1 locs1 → W p l e R s m args below meth c H1 locs1 cells slots Q (F0 m (pc + 3) ls rest)) : W p l e R s m args below meth c H locs cells slots Q (F0 m pc ls (.int v :: .ref (b + i) :: rest)) := m_put (κ := 5) (k := 11) (M' := uI M i 11 v) (ty := .int) C hK hP hS ht (by decide) rfl inT5 tyX5 tyX5_ok nmX5 (by decide) (by decide) rfl q_171 (by decide +kernel) rfl rfl (by show Value.int _ = _; rw [uI_s]) (fun _ _ h => m_fv_uI_o h) (fun _ h => m_e_uI_o h) hdg (fun H1 locs1 h1 h2 _ => kk _ H1 locs1 rfl h1 h2)
theorem pX5_110 {i : Nat} {v : Int32} (C : CallFix p m c cc nL s args lw_T RX5) (hK : m_K D cA s) (hP : m_H D cA b n M H) (hS : va_S (m_A b) s.heap H locs) (ht : m_tp n i 5) (hdg : decode cc pc = .ok (.putfield 110, 3)) (kk : ∀ (M' : Mem) (H1 : Heap) (locs1 : List Loc), M' = uI M i 12 v → m_H D cA b n M' H1 → va_S (m_A b) s.heap H1 locs1 → W p l e R s m args below meth c H1 locs1 cells slots Q (F0 m (pc + 3) ls rest)) : W p l e R s m args below meth c H locs cells slots Q (F0 m pc ls (.int v :: .ref (b + i) :: rest)) := m_put (κ := 5) (k := 12) (M' := uI M i 12 v) (ty := .int) C hK hP hS ht (by decide) rfl inT5 tyX5 tyX5_ok nmX5 (by decide) (by decide) rfl q_173 (by decide +kernel) rfl rfl (by show Value.int _ = _; rw [uI_s]) (fun _ _ h => m_fv_uI_o h) (fun _ h => m_e_uI_o h) hdg (fun H1 locs1 h1 h2 _ => kk _ H1 locs1 rfl h1 h2)
theorem pX5_113 {i : Nat} {v : Int32} (C : CallFix p m c cc nL s args lw_T RX5) (hK : m_K D cA s) (hP : m_H D cA b n M H) (hS : va_S (m_A b) s.heap H locs) (ht : m_tp n i 5) (hdg : decode cc pc = .ok (.putfield 113, 3)) (kk : ∀ (M' : Mem) (H1 : Heap) (locs1 : List Loc), M' = uI M i 13 v → m_H D cA b n M' H1 → va_S (m_A b) s.heap H1 locs1 → W p l e R s m args below meth c H1 locs1 cells slots Q (F0 m (pc + 3) ls rest)) : W p l e R s m args below meth c H locs cells slots Q (F0 m pc ls (.int v :: .ref (b + i) :: rest)) := m_put (κ := 5) (k := 13) (M' := uI M i 13 v) (ty := .int) C hK hP hS ht (by decide) rfl inT5 tyX5 tyX5_ok nmX5 (by decide) (by decide) rfl q_175 (by decide +kernel) rfl rfl (by show Value.int _ = _; rw [uI_s]) (fun _ _ h => m_fv_uI_o h) (fun _ h => m_e_uI_o h) hdg (fun H1 locs1 h1 h2 _ => kk _ H1 locs1 rfl h1 h2)
theorem pX5_116 {i : Nat} {v : Int32} (C : CallFix p m c cc nL s args lw_T RX5) (hK : m_K D cA s) (hP : m_H D cA b n M H) (hS : va_S (m_A b) s.heap H locs) (ht : m_tp n i 5) (hdg : decode cc pc = .ok (.putfield 116, 3)) (kk : ∀ (M' : Mem) (H1 : Heap) (locs1 : List Loc), M' = uI M i 14 v → m_H D cA b n M' H1 → va_S (m_A b) s.heap H1 locs1 → W p l e R s m args below meth c H1 locs1 cells slots Q (F0 m (pc + 3) ls rest)) : W p l e R s m args below meth c H locs cells slots Q (F0 m pc ls (.int v :: .ref (b + i) :: rest)) := m_put (κ := 5) (k := 14) (M' := uI M i 14 v) (ty := .int) C hK hP hS ht (by decide) rfl inT5 tyX5 tyX5_ok nmX5 (by decide) (by decide) rfl q_177 (by decide +kernel) rfl rfl (by show Value.int _ = _; rw [uI_s]) (fun _ _ h => m_fv_uI_o h) (fun _ h => m_e_uI_o h) hdg (fun H1 locs1 h1 h2 _ => kk _ H1 locs1 rfl h1 h2)
theorem pX5_119 {i : Nat} {v : Int32} (C : CallFix p m c cc nL s args lw_T RX5) (hK : m_K D cA s) (hP : m_H D cA b n M H) (hS : va_S (m_A b) s.heap H locs) (ht : m_tp n i 5) (hdg : decode cc pc = .ok (.putfield 119, 3)) (kk : ∀ (M' : Mem) (H1 : Heap) (locs1 : List Loc), M' = uI M i 15 v → m_H D cA b n M' H1 → va_S (m_A b) s.heap H1 locs1 → W p l e R s m args below meth c H1 locs1 cells slots Q (F0 m (pc + 3) ls rest)) : W p l e R s m args below meth c H locs cells slots Q (F0 m pc ls (.int v :: .ref (b + i) :: rest)) := m_put (κ := 5) (k := 15) (M' := uI M i 15 v) (ty := .int) C hK hP hS ht (by decide) rfl inT5 tyX5 tyX5_ok nmX5 (by decide) (by decide) rfl q_179 (by decide +kernel) rfl rfl (by show Value.int _ = _; rw [uI_s]) (fun _ _ h => m_fv_uI_o h) (fun _ h => m_e_uI_o h) hdg (fun H1 locs1 h1 h2 _ => kk _ H1 locs1 rfl h1 h2)
theorem pX5_122 {i : Nat} {v : Int32} (C : CallFix p m c cc nL s args lw_T RX5) (hK : m_K D cA s) (hP : m_H D cA b n M H) (hS : va_S (m_A b) s.heap H locs) (ht : m_tp n i 3) (hdg : decode cc pc = .ok (.putfield 122, 3)) (kk : ∀ (M' : Mem) (H1 : Heap) (locs1 : List Loc), M' = uI M i 0 v → m_H D cA b n M' H1 → va_S (m_A b) s.heap H1 locs1 → W p l e R s m args below meth c H1 locs1 cells slots Q (F0 m (pc + 3) ls rest)) : W p l e R s m args below meth c H locs cells slots Q (F0 m pc ls (.int v :: .ref (b + i) :: rest)) := m_put (κ := 3) (k := 0) (M' := uI M i 0 v) (ty := .int) C hK hP hS ht (by decide) rfl inT3 tyX3 tyX3_ok nmX3 (by decide) (by decide) rfl q_102 (by decide +kernel) rfl rfl (by show Value.int _ = _; rw [uI_s]) (fun _ _ h => m_fv_uI_o h) (fun _ h => m_e_uI_o h) hdg (fun H1 locs1 h1 h2 _ => kk _ H1 locs1 rfl h1 h2)
theorem pX5_125 {i : Nat} {v : Int32} (C : CallFix p m c cc nL s args lw_T RX5) (hK : m_K D cA s) (hP : m_H D cA b n M H) (hS : va_S (m_A b) s.heap H locs) (ht : m_tp n i 3) (hdg : decode cc pc = .ok (.putfield 125, 3)) (kk : ∀ (M' : Mem) (H1 : Heap) (locs1 : List Loc), M' = uI M i 1 v → m_H D cA b n M' H1 → va_S (m_A b) s.heap H1 locs1 → W p l e R s m args below meth c H1 locs1 cells slots Q (F0 m (pc + 3) ls rest)) : W p l e R s m args below meth c H locs cells slots Q (F0 m pc ls (.int v :: .ref (b + i) :: rest)) := m_put (κ := 3) (k := 1) (M' := uI M i 1 v) (ty := .int) C hK hP hS ht (by decide) rfl inT3 tyX3 tyX3_ok nmX3 (by decide) (by decide) rfl q_104 (by decide +kernel) rfl rfl (by show Value.int _ = _; rw [uI_s]) (fun _ _ h => m_fv_uI_o h) (fun _ h => m_e_uI_o h) hdg (fun H1 locs1 h1 h2 _ => kk _ H1 locs1 rfl h1 h2)
theorem pX5_128 {i : Nat} {v : Int32} (C : CallFix p m c cc nL s args lw_T RX5) (hK : m_K D cA s) (hP : m_H D cA b n M H) (hS : va_S (m_A b) s.heap H locs) (ht : m_tp n i 3) (hdg : decode cc pc = .ok (.putfield 128, 3)) (kk : ∀ (M' : Mem) (H1 : Heap) (locs1 : List Loc), M' = uI M i 2 v → m_H D cA b n M' H1 → va_S (m_A b) s.heap H1 locs1 → W p l e R s m args below meth c H1 locs1 cells slots Q (F0 m (pc + 3) ls rest)) : W p l e R s m args below meth c H locs cells slots Q (F0 m pc ls (.int v :: .ref (b + i) :: rest)) := m_put (κ := 3) (k := 2) (M' := uI M i 2 v) (ty := .int) C hK hP hS ht (by decide) rfl inT3 tyX3 tyX3_ok nmX3 (by decide) (by decide) rfl q_106 (by decide +kernel) rfl rfl (by show Value.int _ = _; rw [uI_s]) (fun _ _ h => m_fv_uI_o h) (fun _ h => m_e_uI_o h) hdg (fun H1 locs1 h1 h2 _ => kk _ H1 locs1 rfl h1 h2)
theorem pX5_131 {i : Nat} {v : Int32} (C : CallFix p m c cc nL s args lw_T RX5) (hK : m_K D cA s) (hP : m_H D cA b n M H) (hS : va_S (m_A b) s.heap H locs) (ht : m_tp n i 3) (hdg : decode cc pc = .ok (.putfield 131, 3)) (kk : ∀ (M' : Mem) (H1 : Heap) (locs1 : List Loc), M' = uI M i 3 v → m_H D cA b n M' H1 → va_S (m_A b) s.heap H1 locs1 → W p l e R s m args below meth c H1 locs1 cells slots Q (F0 m (pc + 3) ls rest)) : W p l e R s m args below meth c H locs cells slots Q (F0 m pc ls (.int v :: .ref (b + i) :: rest)) := m_put (κ := 3) (k := 3) (M' := uI M i 3 v) (ty := .int) C hK hP hS ht (by decide) rfl inT3 tyX3 tyX3_ok nmX3 (by decide) (by decide) rfl q_108 (by decide +kernel) rfl rfl (by show Value.int _ = _; rw [uI_s]) (fun _ _ h => m_fv_uI_o h) (fun _ h => m_e_uI_o h) hdg (fun H1 locs1 h1 h2 _ => kk _ H1 locs1 rfl h1 h2)
theorem pX5_134 {i : Nat} {v : Int32} (C : CallFix p m c cc nL s args lw_T RX5) (hK : m_K D cA s) (hP : m_H D cA b n M H) (hS : va_S (m_A b) s.heap H locs) (ht : m_tp n i 3) (hdg : decode cc pc = .ok (.putfield 134, 3)) (kk : ∀ (M' : Mem) (H1 : Heap) (locs1 : List Loc), M' = uI M i 4 v → m_H D cA b n M' H1 → va_S (m_A b) s.heap H1 locs1 → W p l e R s m args below meth c H1 locs1 cells slots Q (F0 m (pc + 3) ls rest)) : W p l e R s m args below meth c H locs cells slots Q (F0 m pc ls (.int v :: .ref (b + i) :: rest)) := m_put (κ := 3) (k := 4) (M' := uI M i 4 v) (ty := .int) C hK hP hS ht (by decide) rfl inT3 tyX3 tyX3_ok nmX3 (by decide) (by decide) rfl q_110 (by decide +kernel) rfl rfl (by show Value.int _ = _; rw [uI_s]) (fun _ _ h => m_fv_uI_o h) (fun _ h => m_e_uI_o h) hdg (fun H1 locs1 h1 h2 _ => kk _ H1 locs1 rfl h1 h2)
theorem pX5_137 {i : Nat} {v : Int32} (C : CallFix p m c cc nL s args lw_T RX5) (hK : m_K D cA s) (hP : m_H D cA b n M H) (hS : va_S (m_A b) s.heap H locs) (ht : m_tp n i 3) (hdg : decode cc pc = .ok (.putfield 137, 3)) (kk : ∀ (M' : Mem) (H1 : Heap) (locs1 : List Loc), M' = uI M i 5 v → m_H D cA b n M' H1 → va_S (m_A b) s.heap H1 locs1 → W p l e R s m args below meth c H1 locs1 cells slots Q (F0 m (pc + 3) ls rest)) : W p l e R s m args below meth c H locs cells slots Q (F0 m pc ls (.int v :: .ref (b + i) :: rest)) := m_put (κ := 3) (k := 5) (M' := uI M i 5 v) (ty := .int) C hK hP hS ht (by decide) rfl inT3 tyX3 tyX3_ok nmX3 (by decide) (by decide) rfl q_112 (by decide +kernel) rfl rfl (by show Value.int _ = _; rw [uI_s]) (fun _ _ h => m_fv_uI_o h) (fun _ h => m_e_uI_o h) hdg (fun H1 locs1 h1 h2 _ => kk _ H1 locs1 rfl h1 h2)
theorem pX5_140 {i : Nat} {z : Bool} (C : CallFix p m c cc nL s args lw_T RX5) (hK : m_K D cA s) (hP : m_H D cA b n M H) (hS : va_S (m_A b) s.heap H locs) (ht : m_tp n i 3) (hdg : decode cc pc = .ok (.putfield 140, 3)) (kk : ∀ (M' : Mem) (H1 : Heap) (locs1 : List Loc), M' = uI M i 6 (bI z) → m_H D cA b n M' H1 → va_S (m_A b) s.heap H1 locs1 → W p l e R s m args below meth c H1 locs1 cells slots Q (F0 m (pc + 3) ls rest)) : W p l e R s m args below meth c H locs cells slots Q (F0 m pc ls (.int (bI z) :: .ref (b + i) :: rest)) := m_put (κ := 3) (k := 6) (M' := uI M i 6 (bI z)) (ty := .boolean) C hK hP hS ht (by decide) rfl inT3 tyX3 tyX3_ok nmX3 (by decide) (by decide) rfl q_114 (by decide +kernel) (bI_nar z) (bI_fit z) (by show Value.int (bI _) = _; rw [uI_s, bI_ne]) (fun _ _ h => m_fv_uI_o h) (fun _ h => m_e_uI_o h) hdg (fun H1 locs1 h1 h2 _ => kk _ H1 locs1 rfl h1 h2)
theorem pX5_144 {i : Nat} {v : Int32} (C : CallFix p m c cc nL s args lw_T RX5) (hK : m_K D cA s) (hP : m_H D cA b n M H) (hS : va_S (m_A b) s.heap H locs) (ht : m_tp n i 3) (hdg : decode cc pc = .ok (.putfield 144, 3)) (kk : ∀ (M' : Mem) (H1 : Heap) (locs1 : List Loc), M' = uI M i 7 v → m_H D cA b n M' H1 → va_S (m_A b) s.heap H1 locs1 → W p l e R s m args below meth c H1 locs1 cells slots Q (F0 m (pc + 3) ls rest)) : W p l e R s m args below meth c H locs cells slots Q (F0 m pc ls (.int v :: .ref (b + i) :: rest)) := m_put (κ := 3) (k := 7) (M' := uI M i 7 v) (ty := .int) C hK hP hS ht (by decide) rfl inT3 tyX3 tyX3_ok nmX3 (by decide) (by decide) rfl q_116 (by decide +kernel) rfl rfl (by show Value.int _ = _; rw [uI_s]) (fun _ _ h => m_fv_uI_o h) (fun _ h => m_e_uI_o h) hdg (fun H1 locs1 h1 h2 _ => kk _ H1 locs1 rfl h1 h2)
theorem pX5_159 {i : Nat} {v : Int32} (C : CallFix p m c cc nL s args lw_T RX5) (hK : m_K D cA s) (hP : m_H D cA b n M H) (hS : va_S (m_A b) s.heap H locs) (ht : m_tp n i 0) (hdg : decode cc pc = .ok (.putfield 159, 3)) (kk : ∀ (M' : Mem) (H1 : Heap) (locs1 : List Loc), M' = uI M i 0 v → m_H D cA b n M' H1 → va_S (m_A b) s.heap H1 locs1 → W p l e R s m args below meth c H1 locs1 cells slots Q (F0 m (pc + 3) ls rest)) : W p l e R s m args below meth c H locs cells slots Q (F0 m pc ls (.int v :: .ref (b + i) :: rest)) := m_put (κ := 0) (k := 0) (M' := uI M i 0 v) (ty := .int) C hK hP hS ht (by decide) rfl inT0 tyX0 tyX0_ok nmX0 (by decide) (by decide) rfl q_142 (by decide +kernel) rfl rfl (by show Value.int _ = _; rw [uI_s]) (fun _ _ h => m_fv_uI_o h) (fun _ h => m_e_uI_o h) hdg (fun H1 locs1 h1 h2 _ => kk _ H1 locs1 rfl h1 h2)
theorem pX5_162 {i : Nat} {v : Int32} (C : CallFix p m c cc nL s args lw_T RX5) (hK : m_K D cA s) (hP : m_H D cA b n M H) (hS : va_S (m_A b) s.heap H locs) (ht : m_tp n i 2) (hdg : decode cc pc = .ok (.putfield 162, 3)) (kk : ∀ (M' : Mem) (H1 : Heap) (locs1 : List Loc), M' = uI M i 4 v → m_H D cA b n M' H1 → va_S (m_A b) s.heap H1 locs1 → W p l e R s m args below meth c H1 locs1 cells slots Q (F0 m (pc + 3) ls rest)) : W p l e R s m args below meth c H locs cells slots Q (F0 m pc ls (.int v :: .ref (b + i) :: rest)) := m_put (κ := 2) (k := 4) (M' := uI M i 4 v) (ty := .int) C hK hP hS ht (by decide) rfl inT2 tyX2 tyX2_ok nmX2 (by decide) (by decide) rfl q_48 (by decide +kernel) rfl rfl (by show Value.int _ = _; rw [uI_s]) (fun _ _ h => m_fv_uI_o h) (fun _ h => m_e_uI_o h) hdg (fun H1 locs1 h1 h2 _ => kk _ H1 locs1 rfl h1 h2)
theorem pX5_169 {i : Nat} {v : Int32} (C : CallFix p m c cc nL s args lw_T RX5) (hK : m_K D cA s) (hP : m_H D cA b n M H) (hS : va_S (m_A b) s.heap H locs) (ht : m_tp n i 2) (hdg : decode cc pc = .ok (.putfield 169, 3)) (kk : ∀ (M' : Mem) (H1 : Heap) (locs1 : List Loc), M' = uI M i 3 v → m_H D cA b n M' H1 → va_S (m_A b) s.heap H1 locs1 → W p l e R s m args below meth c H1 locs1 cells slots Q (F0 m (pc + 3) ls rest)) : W p l e R s m args below meth c H locs cells slots Q (F0 m pc ls (.int v :: .ref (b + i) :: rest)) := m_put (κ := 2) (k := 3) (M' := uI M i 3 v) (ty := .int) C hK hP hS ht (by decide) rfl inT2 tyX2 tyX2_ok nmX2 (by decide) (by decide) rfl q_46 (by decide +kernel) rfl rfl (by show Value.int _ = _; rw [uI_s]) (fun _ _ h => m_fv_uI_o h) (fun _ h => m_e_uI_o h) hdg (fun H1 locs1 h1 h2 _ => kk _ H1 locs1 rfl h1 h2)
theorem pX5_170 {i : Nat} {v : Int32} (C : CallFix p m c cc nL s args lw_T RX5) (hK : m_K D cA s) (hP : m_H D cA b n M H) (hS : va_S (m_A b) s.heap H locs) (ht : m_tp n i 2) (hdg : decode cc pc = .ok (.putfield 170, 3)) (kk : ∀ (M' : Mem) (H1 : Heap) (locs1 : List Loc), M' = uI M i 0 v → m_H D cA b n M' H1 → va_S (m_A b) s.heap H1 locs1 → W p l e R s m args below meth c H1 locs1 cells slots Q (F0 m (pc + 3) ls rest)) : W p l e R s m args below meth c H locs cells slots Q (F0 m pc ls (.int v :: .ref (b + i) :: rest)) := m_put (κ := 2) (k := 0) (M' := uI M i 0 v) (ty := .int) C hK hP hS ht (by decide) rfl inT2 tyX2 tyX2_ok nmX2 (by decide) (by decide) rfl q_38 (by decide +kernel) rfl rfl (by show Value.int _ = _; rw [uI_s]) (fun _ _ h => m_fv_uI_o h) (fun _ h => m_e_uI_o h) hdg (fun H1 locs1 h1 h2 _ => kk _ H1 locs1 rfl h1 h2)
theorem pX5_204 {i : Nat} {v : Int32} (C : CallFix p m c cc nL s args lw_T RX5) (hK : m_K D cA s) (hP : m_H D cA b n M H) (hS : va_S (m_A b) s.heap H locs) (ht : m_tp n i 0) (hdg : decode cc pc = .ok (.putfield 204, 3)) (kk : ∀ (M' : Mem) (H1 : Heap) (locs1 : List Loc), M' = uI M i 1 v → m_H D cA b n M' H1 → va_S (m_A b) s.heap H1 locs1 → W p l e R s m args below meth c H1 locs1 cells slots Q (F0 m (pc + 3) ls rest)) : W p l e R s m args below meth c H locs cells slots Q (F0 m pc ls (.int v :: .ref (b + i) :: rest)) := m_put (κ := 0) (k := 1) (M' := uI M i 1 v) (ty := .int) C hK hP hS ht (by decide) rfl inT0 tyX0 tyX0_ok nmX0 (by decide) (by decide) rfl q_144 (by decide +kernel) rfl rfl (by show Value.int _ = _; rw [uI_s]) (fun _ _ h => m_fv_uI_o h) (fun _ h => m_e_uI_o h) hdg (fun H1 locs1 h1 h2 _ => kk _ H1 locs1 rfl h1 h2)
theorem pX5_238 {i : Nat} {v : Int32} (C : CallFix p m c cc nL s args lw_T RX5) (hK : m_K D cA s) (hP : m_H D cA b n M H) (hS : va_S (m_A b) s.heap H locs) (ht : m_tp n i 0) (hdg : decode cc pc = .ok (.putfield 238, 3)) (kk : ∀ (M' : Mem) (H1 : Heap) (locs1 : List Loc), M' = uI M i 2 v → m_H D cA b n M' H1 → va_S (m_A b) s.heap H1 locs1 → W p l e R s m args below meth c H1 locs1 cells slots Q (F0 m (pc + 3) ls rest)) : W p l e R s m args below meth c H locs cells slots Q (F0 m pc ls (.int v :: .ref (b + i) :: rest)) := m_put (κ := 0) (k := 2) (M' := uI M i 2 v) (ty := .int) C hK hP hS ht (by decide) rfl inT0 tyX0 tyX0_ok nmX0 (by decide) (by decide) rfl q_146 (by decide +kernel) rfl rfl (by show Value.int _ = _; rw [uI_s]) (fun _ _ h => m_fv_uI_o h) (fun _ h => m_e_uI_o h) hdg (fun H1 locs1 h1 h2 _ => kk _ H1 locs1 rfl h1 h2)
theorem pX5_240 {i : Nat} {v : Int32} (C : CallFix p m c cc nL s args lw_T RX5) (hK : m_K D cA s) (hP : m_H D cA b n M H) (hS : va_S (m_A b) s.heap H locs) (ht : m_tp n i 0) (hdg : decode cc pc = .ok (.putfield 240, 3)) (kk : ∀ (M' : Mem) (H1 : Heap) (locs1 : List Loc), M' = uI M i 3 v → m_H D cA b n M' H1 → va_S (m_A b) s.heap H1 locs1 → W p l e R s m args below meth c H1 locs1 cells slots Q (F0 m (pc + 3) ls rest)) : W p l e R s m args below meth c H locs cells slots Q (F0 m pc ls (.int v :: .ref (b + i) :: rest)) := m_put (κ := 0) (k := 3) (M' := uI M i 3 v) (ty := .int) C hK hP hS ht (by decide) rfl inT0 tyX0 tyX0_ok nmX0 (by decide) (by decide) rfl q_148 (by decide +kernel) rfl rfl (by show Value.int _ = _; rw [uI_s]) (fun _ _ h => m_fv_uI_o h) (fun _ h => m_e_uI_o h) hdg (fun H1 locs1 h1 h2 _ => kk _ H1 locs1 rfl h1 h2)
theorem pX5_248 {i : Nat} {v : Int32} (C : CallFix p m c cc nL s args lw_T RX5) (hK : m_K D cA s) (hP : m_H D cA b n M H) (hS : va_S (m_A b) s.heap H locs) (ht : m_tp n i 1) (hdg : decode cc pc = .ok (.putfield 248, 3)) (kk : ∀ (M' : Mem) (H1 : Heap) (locs1 : List Loc), M' = uI M i 2 v → m_H D cA b n M' H1 → va_S (m_A b) s.heap H1 locs1 → W p l e R s m args below meth c H1 locs1 cells slots Q (F0 m (pc + 3) ls rest)) : W p l e R s m args below meth c H locs cells slots Q (F0 m pc ls (.int v :: .ref (b + i) :: rest)) := m_put (κ := 1) (k := 2) (M' := uI M i 2 v) (ty := .int) C hK hP hS ht (by decide) rfl inT1 tyX1 tyX1_ok nmX1 (by decide) (by decide) rfl q_74 (by decide +kernel) rfl rfl (by show Value.int _ = _; rw [uI_s]) (fun _ _ h => m_fv_uI_o h) (fun _ h => m_e_uI_o h) hdg (fun H1 locs1 h1 h2 _ => kk _ H1 locs1 rfl h1 h2)
theorem pX5_254 {i : Nat} {v : Int32} (C : CallFix p m c cc nL s args lw_T RX5) (hK : m_K D cA s) (hP : m_H D cA b n M H) (hS : va_S (m_A b) s.heap H locs) (ht : m_tp n i 1) (hdg : decode cc pc = .ok (.putfield 254, 3)) (kk : ∀ (M' : Mem) (H1 : Heap) (locs1 : List Loc), M' = uI M i 4 v → m_H D cA b n M' H1 → va_S (m_A b) s.heap H1 locs1 → W p l e R s m args below meth c H1 locs1 cells slots Q (F0 m (pc + 3) ls rest)) : W p l e R s m args below meth c H locs cells slots Q (F0 m pc ls (.int v :: .ref (b + i) :: rest)) := m_put (κ := 1) (k := 4) (M' := uI M i 4 v) (ty := .int) C hK hP hS ht (by decide) rfl inT1 tyX1 tyX1_ok nmX1 (by decide) (by decide) rfl q_79 (by decide +kernel) rfl rfl (by show Value.int _ = _; rw [uI_s]) (fun _ _ h => m_fv_uI_o h) (fun _ h => m_e_uI_o h) hdg (fun H1 locs1 h1 h2 _ => kk _ H1 locs1 rfl h1 h2)
theorem pX5_264 {i : Nat} {v : Int32} (C : CallFix p m c cc nL s args lw_T RX5) (hK : m_K D cA s) (hP : m_H D cA b n M H) (hS : va_S (m_A b) s.heap H locs) (ht : m_tp n i 1) (hdg : decode cc pc = .ok (.putfield 264, 3)) (kk : ∀ (M' : Mem) (H1 : Heap) (locs1 : List Loc), M' = uI M i 3 v → m_H D cA b n M' H1 → va_S (m_A b) s.heap H1 locs1 → W p l e R s m args below meth c H1 locs1 cells slots Q (F0 m (pc + 3) ls rest)) : W p l e R s m args below meth c H locs cells slots Q (F0 m pc ls (.int v :: .ref (b + i) :: rest)) := m_put (κ := 1) (k := 3) (M' := uI M i 3 v) (ty := .int) C hK hP hS ht (by decide) rfl inT1 tyX1 tyX1_ok nmX1 (by decide) (by decide) rfl q_77 (by decide +kernel) rfl rfl (by show Value.int _ = _; rw [uI_s]) (fun _ _ h => m_fv_uI_o h) (fun _ h => m_e_uI_o h) hdg (fun H1 locs1 h1 h2 _ => kk _ H1 locs1 rfl h1 h2)
theorem m_callVV {y : MethodName} {bytes : ByteArray} {maxL index np κ N i : Nat} {ret : Option FieldType} {rm : Room} {T1 : u_T} {As : List Value} {P : Mem → Prop} {st0 : List Value} (C : CallFix p m c cc nL s args lw_T own) (hK : m_K D cA s) (hP : m_H D cA b n M H) (hS : va_S (m_A b) s.heap H locs) (hlv : ls.size = nL) (hcs : cells ≤ R.cells ∧ slots ≤ R.slots)     (hM : m_C l D cA b n n M y bytes maxL ret rm 0 0 (.ref (b + i) :: As) (rV P)) (hst : st0 = As.reverse ++ .ref (b + i) :: rest) (hn : As.length = np) (ht : m_tp n i κ) (hκ : κ < 8) (hcl : m_cl[κ]? = some (y.cls, T1, N))     (hml : Cond.methodLink own index y ∈ lw_T) (him : Cond.instanceMethod y ∈ lw_T) (hse : Cond.selects y.cls y y ∈ lw_T) (hini : Cond.initialized y.cls ∈ lw_T) (hco : Cond.code y bytes maxL ret ∈ lw_T) (hc : rm.cells = 0 ∧ rm.slots = 0)     (hd : y.cls ≠ "java/lang/invoke/MethodHandle" ∧ y.cls ≠ "java/lang/invoke/VarHandle" ∧ (parseMethodDescriptor y.desc).map (fun d => d.parameters.length) = some np) (hR : rm.frames + 1 ≤ R.frames ∧ 8 + (maxL + 11) + rm.locals ≤ R.locals) (hroom : (rest.map fun v => v.category).sum ≤ 8) (hdg : decode cc pc = .ok (.invokevirtual index, 3))     (kk : ∀ (M' : Mem) (H1 : Heap) (locs1 : List Loc), P M' → m_H D cA b n M' H1 → va_S (m_A b) s.heap H1 locs1 → W p l e R s m args below meth c H1 locs1 cells slots Q (F0 m (pc + 3) ls (rest))) : W p l e R s m args below meth c H locs cells slots Q (F0 m pc ls st0) := m_callV C hK hP hS hlv hcs hM hst hn ht hκ hcl hml him hse hini hco hc hd hR hroom hdg (fun v M' H1 locs1 hv h1 h2 => by obtain ⟨rfl, hq⟩ := hv; exact kk M' H1 locs1 hq h1 h2)
theorem m_callVI {y : MethodName} {bytes : ByteArray} {maxL index np κ N i : Nat} {ret : Option FieldType} {rm : Room} {T1 : u_T} {As : List Value} {P : Int32 → Mem → Prop} {st0 : List Value} (C : CallFix p m c cc nL s args lw_T own) (hK : m_K D cA s) (hP : m_H D cA b n M H) (hS : va_S (m_A b) s.heap H locs) (hlv : ls.size = nL) (hcs : cells ≤ R.cells ∧ slots ≤ R.slots)     (hM : m_C l D cA b n n M y bytes maxL ret rm 0 0 (.ref (b + i) :: As) (rI P)) (hst : st0 = As.reverse ++ .ref (b + i) :: rest) (hn : As.length = np) (ht : m_tp n i κ) (hκ : κ < 8) (hcl : m_cl[κ]? = some (y.cls, T1, N))     (hml : Cond.methodLink own index y ∈ lw_T) (him : Cond.instanceMethod y ∈ lw_T) (hse : Cond.selects y.cls y y ∈ lw_T) (hini : Cond.initialized y.cls ∈ lw_T) (hco : Cond.code y bytes maxL ret ∈ lw_T) (hc : rm.cells = 0 ∧ rm.slots = 0)     (hd : y.cls ≠ "java/lang/invoke/MethodHandle" ∧ y.cls ≠ "java/lang/invoke/VarHandle" ∧ (parseMethodDescriptor y.desc).map (fun d => d.parameters.length) = some np) (hR : rm.frames + 1 ≤ R.frames ∧ 8 + (maxL + 11) + rm.locals ≤ R.locals) (hroom : (rest.map fun v => v.category).sum ≤ 8) (hdg : decode cc pc = .ok (.invokevirtual index, 3))     (kk : ∀ (r : Int32) (M' : Mem) (H1 : Heap) (locs1 : List Loc), P r M' → m_H D cA b n M' H1 → va_S (m_A b) s.heap H1 locs1 → W p l e R s m args below meth c H1 locs1 cells slots Q (F0 m (pc + 3) ls (.int r :: rest))) : W p l e R s m args below meth c H locs cells slots Q (F0 m pc ls st0) := m_callV C hK hP hS hlv hcs hM hst hn ht hκ hcl hml him hse hini hco hc hd hR hroom hdg (fun v M' H1 locs1 hv h1 h2 => by obtain ⟨r, rfl, hq⟩ := hv; exact kk r M' H1 locs1 hq h1 h2)
theorem m_callVZ {y : MethodName} {bytes : ByteArray} {maxL index np κ N i : Nat} {ret : Option FieldType} {rm : Room} {T1 : u_T} {As : List Value} {P : Bool → Mem → Prop} {st0 : List Value} (C : CallFix p m c cc nL s args lw_T own) (hK : m_K D cA s) (hP : m_H D cA b n M H) (hS : va_S (m_A b) s.heap H locs) (hlv : ls.size = nL) (hcs : cells ≤ R.cells ∧ slots ≤ R.slots)     (hM : m_C l D cA b n n M y bytes maxL ret rm 0 0 (.ref (b + i) :: As) (rZ P)) (hst : st0 = As.reverse ++ .ref (b + i) :: rest) (hn : As.length = np) (ht : m_tp n i κ) (hκ : κ < 8) (hcl : m_cl[κ]? = some (y.cls, T1, N))     (hml : Cond.methodLink own index y ∈ lw_T) (him : Cond.instanceMethod y ∈ lw_T) (hse : Cond.selects y.cls y y ∈ lw_T) (hini : Cond.initialized y.cls ∈ lw_T) (hco : Cond.code y bytes maxL ret ∈ lw_T) (hc : rm.cells = 0 ∧ rm.slots = 0)     (hd : y.cls ≠ "java/lang/invoke/MethodHandle" ∧ y.cls ≠ "java/lang/invoke/VarHandle" ∧ (parseMethodDescriptor y.desc).map (fun d => d.parameters.length) = some np) (hR : rm.frames + 1 ≤ R.frames ∧ 8 + (maxL + 11) + rm.locals ≤ R.locals) (hroom : (rest.map fun v => v.category).sum ≤ 8) (hdg : decode cc pc = .ok (.invokevirtual index, 3))     (kk : ∀ (r : Bool) (M' : Mem) (H1 : Heap) (locs1 : List Loc), P r M' → m_H D cA b n M' H1 → va_S (m_A b) s.heap H1 locs1 → W p l e R s m args below meth c H1 locs1 cells slots Q (F0 m (pc + 3) ls (.int (bI r) :: rest))) : W p l e R s m args below meth c H locs cells slots Q (F0 m pc ls st0) := m_callV C hK hP hS hlv hcs hM hst hn ht hκ hcl hml him hse hini hco hc hd hR hroom hdg (fun v M' H1 locs1 hv h1 h2 => by obtain ⟨r, rfl, hq⟩ := hv; exact kk r M' H1 locs1 hq h1 h2)
theorem m_callVL {y : MethodName} {bytes : ByteArray} {maxL index np κ N i : Nat} {ret : Option FieldType} {rm : Room} {T1 : u_T} {As : List Value} {P : Int64 → Mem → Prop} {st0 : List Value} (C : CallFix p m c cc nL s args lw_T own) (hK : m_K D cA s) (hP : m_H D cA b n M H) (hS : va_S (m_A b) s.heap H locs) (hlv : ls.size = nL) (hcs : cells ≤ R.cells ∧ slots ≤ R.slots)     (hM : m_C l D cA b n n M y bytes maxL ret rm 0 0 (.ref (b + i) :: As) (rL P)) (hst : st0 = As.reverse ++ .ref (b + i) :: rest) (hn : As.length = np) (ht : m_tp n i κ) (hκ : κ < 8) (hcl : m_cl[κ]? = some (y.cls, T1, N))     (hml : Cond.methodLink own index y ∈ lw_T) (him : Cond.instanceMethod y ∈ lw_T) (hse : Cond.selects y.cls y y ∈ lw_T) (hini : Cond.initialized y.cls ∈ lw_T) (hco : Cond.code y bytes maxL ret ∈ lw_T) (hc : rm.cells = 0 ∧ rm.slots = 0)     (hd : y.cls ≠ "java/lang/invoke/MethodHandle" ∧ y.cls ≠ "java/lang/invoke/VarHandle" ∧ (parseMethodDescriptor y.desc).map (fun d => d.parameters.length) = some np) (hR : rm.frames + 1 ≤ R.frames ∧ 8 + (maxL + 11) + rm.locals ≤ R.locals) (hroom : (rest.map fun v => v.category).sum ≤ 8) (hdg : decode cc pc = .ok (.invokevirtual index, 3))     (kk : ∀ (r : Int64) (M' : Mem) (H1 : Heap) (locs1 : List Loc), P r M' → m_H D cA b n M' H1 → va_S (m_A b) s.heap H1 locs1 → W p l e R s m args below meth c H1 locs1 cells slots Q (F0 m (pc + 3) ls (.long r :: rest))) : W p l e R s m args below meth c H locs cells slots Q (F0 m pc ls st0) := m_callV C hK hP hS hlv hcs hM hst hn ht hκ hcl hml him hse hini hco hc hd hR hroom hdg (fun v M' H1 locs1 hv h1 h2 => by obtain ⟨r, rfl, hq⟩ := hv; exact kk r M' H1 locs1 hq h1 h2)
theorem m_callVD {y : MethodName} {bytes : ByteArray} {maxL index np κ N i : Nat} {ret : Option FieldType} {rm : Room} {T1 : u_T} {As : List Value} {P : UInt64 → Mem → Prop} {st0 : List Value} (C : CallFix p m c cc nL s args lw_T own) (hK : m_K D cA s) (hP : m_H D cA b n M H) (hS : va_S (m_A b) s.heap H locs) (hlv : ls.size = nL) (hcs : cells ≤ R.cells ∧ slots ≤ R.slots)     (hM : m_C l D cA b n n M y bytes maxL ret rm 0 0 (.ref (b + i) :: As) (rD P)) (hst : st0 = As.reverse ++ .ref (b + i) :: rest) (hn : As.length = np) (ht : m_tp n i κ) (hκ : κ < 8) (hcl : m_cl[κ]? = some (y.cls, T1, N))     (hml : Cond.methodLink own index y ∈ lw_T) (him : Cond.instanceMethod y ∈ lw_T) (hse : Cond.selects y.cls y y ∈ lw_T) (hini : Cond.initialized y.cls ∈ lw_T) (hco : Cond.code y bytes maxL ret ∈ lw_T) (hc : rm.cells = 0 ∧ rm.slots = 0)     (hd : y.cls ≠ "java/lang/invoke/MethodHandle" ∧ y.cls ≠ "java/lang/invoke/VarHandle" ∧ (parseMethodDescriptor y.desc).map (fun d => d.parameters.length) = some np) (hR : rm.frames + 1 ≤ R.frames ∧ 8 + (maxL + 11) + rm.locals ≤ R.locals) (hroom : (rest.map fun v => v.category).sum ≤ 8) (hdg : decode cc pc = .ok (.invokevirtual index, 3))     (kk : ∀ (r : UInt64) (M' : Mem) (H1 : Heap) (locs1 : List Loc), P r M' → m_H D cA b n M' H1 → va_S (m_A b) s.heap H1 locs1 → W p l e R s m args below meth c H1 locs1 cells slots Q (F0 m (pc + 3) ls (.double r :: rest))) : W p l e R s m args below meth c H locs cells slots Q (F0 m pc ls st0) := m_callV C hK hP hS hlv hcs hM hst hn ht hκ hcl hml him hse hini hco hc hd hR hroom hdg (fun v M' H1 locs1 hv h1 h2 => by obtain ⟨r, rfl, hq⟩ := hv; exact kk r M' H1 locs1 hq h1 h2)
theorem m_callVR {y : MethodName} {bytes : ByteArray} {maxL index np κ N i : Nat} {ret : Option FieldType} {rm : Room} {T1 : u_T} {As : List Value} {P : Nat → Mem → Prop} {st0 : List Value} (C : CallFix p m c cc nL s args lw_T own) (hK : m_K D cA s) (hP : m_H D cA b n M H) (hS : va_S (m_A b) s.heap H locs) (hlv : ls.size = nL) (hcs : cells ≤ R.cells ∧ slots ≤ R.slots)     (hM : m_C l D cA b n n M y bytes maxL ret rm 0 0 (.ref (b + i) :: As) (rR b P)) (hst : st0 = As.reverse ++ .ref (b + i) :: rest) (hn : As.length = np) (ht : m_tp n i κ) (hκ : κ < 8) (hcl : m_cl[κ]? = some (y.cls, T1, N))     (hml : Cond.methodLink own index y ∈ lw_T) (him : Cond.instanceMethod y ∈ lw_T) (hse : Cond.selects y.cls y y ∈ lw_T) (hini : Cond.initialized y.cls ∈ lw_T) (hco : Cond.code y bytes maxL ret ∈ lw_T) (hc : rm.cells = 0 ∧ rm.slots = 0)     (hd : y.cls ≠ "java/lang/invoke/MethodHandle" ∧ y.cls ≠ "java/lang/invoke/VarHandle" ∧ (parseMethodDescriptor y.desc).map (fun d => d.parameters.length) = some np) (hR : rm.frames + 1 ≤ R.frames ∧ 8 + (maxL + 11) + rm.locals ≤ R.locals) (hroom : (rest.map fun v => v.category).sum ≤ 8) (hdg : decode cc pc = .ok (.invokevirtual index, 3))     (kk : ∀ (r : Nat) (M' : Mem) (H1 : Heap) (locs1 : List Loc), P r M' → m_H D cA b n M' H1 → va_S (m_A b) s.heap H1 locs1 → W p l e R s m args below meth c H1 locs1 cells slots Q (F0 m (pc + 3) ls (.ref (b + r) :: rest))) : W p l e R s m args below meth c H locs cells slots Q (F0 m pc ls st0) := m_callV C hK hP hS hlv hcs hM hst hn ht hκ hcl hml him hse hini hco hc hd hR hroom hdg (fun v M' H1 locs1 hv h1 h2 => by obtain ⟨r, rfl, hq⟩ := hv; exact kk r M' H1 locs1 hq h1 h2)
theorem m_callVO {y : MethodName} {bytes : ByteArray} {maxL index np κ N i : Nat} {ret : Option FieldType} {rm : Room} {T1 : u_T} {As : List Value} {P : Option Nat → Mem → Prop} {st0 : List Value} (C : CallFix p m c cc nL s args lw_T own) (hK : m_K D cA s) (hP : m_H D cA b n M H) (hS : va_S (m_A b) s.heap H locs) (hlv : ls.size = nL) (hcs : cells ≤ R.cells ∧ slots ≤ R.slots)     (hM : m_C l D cA b n n M y bytes maxL ret rm 0 0 (.ref (b + i) :: As) (rO b P)) (hst : st0 = As.reverse ++ .ref (b + i) :: rest) (hn : As.length = np) (ht : m_tp n i κ) (hκ : κ < 8) (hcl : m_cl[κ]? = some (y.cls, T1, N))     (hml : Cond.methodLink own index y ∈ lw_T) (him : Cond.instanceMethod y ∈ lw_T) (hse : Cond.selects y.cls y y ∈ lw_T) (hini : Cond.initialized y.cls ∈ lw_T) (hco : Cond.code y bytes maxL ret ∈ lw_T) (hc : rm.cells = 0 ∧ rm.slots = 0)     (hd : y.cls ≠ "java/lang/invoke/MethodHandle" ∧ y.cls ≠ "java/lang/invoke/VarHandle" ∧ (parseMethodDescriptor y.desc).map (fun d => d.parameters.length) = some np) (hR : rm.frames + 1 ≤ R.frames ∧ 8 + (maxL + 11) + rm.locals ≤ R.locals) (hroom : (rest.map fun v => v.category).sum ≤ 8) (hdg : decode cc pc = .ok (.invokevirtual index, 3))     (kk : ∀ (r : Option Nat) (M' : Mem) (H1 : Heap) (locs1 : List Loc), P r M' → m_H D cA b n M' H1 → va_S (m_A b) s.heap H1 locs1 → W p l e R s m args below meth c H1 locs1 cells slots Q (F0 m (pc + 3) ls (va_rf (r.map (fun j => b + j)) :: rest))) : W p l e R s m args below meth c H locs cells slots Q (F0 m pc ls st0) := m_callV C hK hP hS hlv hcs hM hst hn ht hκ hcl hml him hse hini hco hc hd hR hroom hdg (fun v M' H1 locs1 hv h1 h2 => by obtain ⟨r, rfl, hq⟩ := hv; exact kk r M' H1 locs1 hq h1 h2)
theorem m_callSV {y : MethodName} {bytes : ByteArray} {maxL index np : Nat} {ret : Option FieldType} {rm : Room} {As : List Value} {P : Mem → Prop} {st0 : List Value} (C : CallFix p m c cc nL s args lw_T own) (hK : m_K D cA s) (hP : m_H D cA b n M H) (hS : va_S (m_A b) s.heap H locs) (hlv : ls.size = nL) (hcs : cells ≤ R.cells ∧ slots ≤ R.slots)     (hM : m_C l D cA b n n M y bytes maxL ret rm 0 0 As (rV P)) (hst : st0 = As.reverse ++ rest) (hn : As.length = np)     (hml : Cond.methodLink own index y ∈ lw_T) (hsm : Cond.static y ∈ lw_T) (hini : Cond.initialized y.cls ∈ lw_T) (hco : Cond.code y bytes maxL ret ∈ lw_T) (hc : rm.cells = 0 ∧ rm.slots = 0)     (hd : y.cls ≠ "java/lang/invoke/MethodHandle" ∧ y.cls ≠ "java/lang/invoke/VarHandle" ∧ (parseMethodDescriptor y.desc).map (fun d => d.parameters.length) = some np) (hR : rm.frames + 1 ≤ R.frames ∧ 8 + (maxL + 11) + rm.locals ≤ R.locals) (hroom : (rest.map fun v => v.category).sum ≤ 8) (hdg : decode cc pc = .ok (.invokestatic index, 3))     (kk : ∀ (M' : Mem) (H1 : Heap) (locs1 : List Loc), P M' → m_H D cA b n M' H1 → va_S (m_A b) s.heap H1 locs1 → W p l e R s m args below meth c H1 locs1 cells slots Q (F0 m (pc + 3) ls (rest))) : W p l e R s m args below meth c H locs cells slots Q (F0 m pc ls st0) := m_callS C hK hP hS hlv hcs hM hst hn hml hsm hini hco hc hd hR hroom hdg (fun v M' H1 locs1 hv h1 h2 => by obtain ⟨rfl, hq⟩ := hv; exact kk M' H1 locs1 hq h1 h2)
theorem m_callSI {y : MethodName} {bytes : ByteArray} {maxL index np : Nat} {ret : Option FieldType} {rm : Room} {As : List Value} {P : Int32 → Mem → Prop} {st0 : List Value} (C : CallFix p m c cc nL s args lw_T own) (hK : m_K D cA s) (hP : m_H D cA b n M H) (hS : va_S (m_A b) s.heap H locs) (hlv : ls.size = nL) (hcs : cells ≤ R.cells ∧ slots ≤ R.slots)     (hM : m_C l D cA b n n M y bytes maxL ret rm 0 0 As (rI P)) (hst : st0 = As.reverse ++ rest) (hn : As.length = np)     (hml : Cond.methodLink own index y ∈ lw_T) (hsm : Cond.static y ∈ lw_T) (hini : Cond.initialized y.cls ∈ lw_T) (hco : Cond.code y bytes maxL ret ∈ lw_T) (hc : rm.cells = 0 ∧ rm.slots = 0)     (hd : y.cls ≠ "java/lang/invoke/MethodHandle" ∧ y.cls ≠ "java/lang/invoke/VarHandle" ∧ (parseMethodDescriptor y.desc).map (fun d => d.parameters.length) = some np) (hR : rm.frames + 1 ≤ R.frames ∧ 8 + (maxL + 11) + rm.locals ≤ R.locals) (hroom : (rest.map fun v => v.category).sum ≤ 8) (hdg : decode cc pc = .ok (.invokestatic index, 3))     (kk : ∀ (r : Int32) (M' : Mem) (H1 : Heap) (locs1 : List Loc), P r M' → m_H D cA b n M' H1 → va_S (m_A b) s.heap H1 locs1 → W p l e R s m args below meth c H1 locs1 cells slots Q (F0 m (pc + 3) ls (.int r :: rest))) : W p l e R s m args below meth c H locs cells slots Q (F0 m pc ls st0) := m_callS C hK hP hS hlv hcs hM hst hn hml hsm hini hco hc hd hR hroom hdg (fun v M' H1 locs1 hv h1 h2 => by obtain ⟨r, rfl, hq⟩ := hv; exact kk r M' H1 locs1 hq h1 h2)
theorem m_callSZ {y : MethodName} {bytes : ByteArray} {maxL index np : Nat} {ret : Option FieldType} {rm : Room} {As : List Value} {P : Bool → Mem → Prop} {st0 : List Value} (C : CallFix p m c cc nL s args lw_T own) (hK : m_K D cA s) (hP : m_H D cA b n M H) (hS : va_S (m_A b) s.heap H locs) (hlv : ls.size = nL) (hcs : cells ≤ R.cells ∧ slots ≤ R.slots)     (hM : m_C l D cA b n n M y bytes maxL ret rm 0 0 As (rZ P)) (hst : st0 = As.reverse ++ rest) (hn : As.length = np)     (hml : Cond.methodLink own index y ∈ lw_T) (hsm : Cond.static y ∈ lw_T) (hini : Cond.initialized y.cls ∈ lw_T) (hco : Cond.code y bytes maxL ret ∈ lw_T) (hc : rm.cells = 0 ∧ rm.slots = 0)     (hd : y.cls ≠ "java/lang/invoke/MethodHandle" ∧ y.cls ≠ "java/lang/invoke/VarHandle" ∧ (parseMethodDescriptor y.desc).map (fun d => d.parameters.length) = some np) (hR : rm.frames + 1 ≤ R.frames ∧ 8 + (maxL + 11) + rm.locals ≤ R.locals) (hroom : (rest.map fun v => v.category).sum ≤ 8) (hdg : decode cc pc = .ok (.invokestatic index, 3))     (kk : ∀ (r : Bool) (M' : Mem) (H1 : Heap) (locs1 : List Loc), P r M' → m_H D cA b n M' H1 → va_S (m_A b) s.heap H1 locs1 → W p l e R s m args below meth c H1 locs1 cells slots Q (F0 m (pc + 3) ls (.int (bI r) :: rest))) : W p l e R s m args below meth c H locs cells slots Q (F0 m pc ls st0) := m_callS C hK hP hS hlv hcs hM hst hn hml hsm hini hco hc hd hR hroom hdg (fun v M' H1 locs1 hv h1 h2 => by obtain ⟨r, rfl, hq⟩ := hv; exact kk r M' H1 locs1 hq h1 h2)
theorem m_callSL {y : MethodName} {bytes : ByteArray} {maxL index np : Nat} {ret : Option FieldType} {rm : Room} {As : List Value} {P : Int64 → Mem → Prop} {st0 : List Value} (C : CallFix p m c cc nL s args lw_T own) (hK : m_K D cA s) (hP : m_H D cA b n M H) (hS : va_S (m_A b) s.heap H locs) (hlv : ls.size = nL) (hcs : cells ≤ R.cells ∧ slots ≤ R.slots)     (hM : m_C l D cA b n n M y bytes maxL ret rm 0 0 As (rL P)) (hst : st0 = As.reverse ++ rest) (hn : As.length = np)     (hml : Cond.methodLink own index y ∈ lw_T) (hsm : Cond.static y ∈ lw_T) (hini : Cond.initialized y.cls ∈ lw_T) (hco : Cond.code y bytes maxL ret ∈ lw_T) (hc : rm.cells = 0 ∧ rm.slots = 0)     (hd : y.cls ≠ "java/lang/invoke/MethodHandle" ∧ y.cls ≠ "java/lang/invoke/VarHandle" ∧ (parseMethodDescriptor y.desc).map (fun d => d.parameters.length) = some np) (hR : rm.frames + 1 ≤ R.frames ∧ 8 + (maxL + 11) + rm.locals ≤ R.locals) (hroom : (rest.map fun v => v.category).sum ≤ 8) (hdg : decode cc pc = .ok (.invokestatic index, 3))     (kk : ∀ (r : Int64) (M' : Mem) (H1 : Heap) (locs1 : List Loc), P r M' → m_H D cA b n M' H1 → va_S (m_A b) s.heap H1 locs1 → W p l e R s m args below meth c H1 locs1 cells slots Q (F0 m (pc + 3) ls (.long r :: rest))) : W p l e R s m args below meth c H locs cells slots Q (F0 m pc ls st0) := m_callS C hK hP hS hlv hcs hM hst hn hml hsm hini hco hc hd hR hroom hdg (fun v M' H1 locs1 hv h1 h2 => by obtain ⟨r, rfl, hq⟩ := hv; exact kk r M' H1 locs1 hq h1 h2)
theorem m_callSD {y : MethodName} {bytes : ByteArray} {maxL index np : Nat} {ret : Option FieldType} {rm : Room} {As : List Value} {P : UInt64 → Mem → Prop} {st0 : List Value} (C : CallFix p m c cc nL s args lw_T own) (hK : m_K D cA s) (hP : m_H D cA b n M H) (hS : va_S (m_A b) s.heap H locs) (hlv : ls.size = nL) (hcs : cells ≤ R.cells ∧ slots ≤ R.slots)     (hM : m_C l D cA b n n M y bytes maxL ret rm 0 0 As (rD P)) (hst : st0 = As.reverse ++ rest) (hn : As.length = np)     (hml : Cond.methodLink own index y ∈ lw_T) (hsm : Cond.static y ∈ lw_T) (hini : Cond.initialized y.cls ∈ lw_T) (hco : Cond.code y bytes maxL ret ∈ lw_T) (hc : rm.cells = 0 ∧ rm.slots = 0)     (hd : y.cls ≠ "java/lang/invoke/MethodHandle" ∧ y.cls ≠ "java/lang/invoke/VarHandle" ∧ (parseMethodDescriptor y.desc).map (fun d => d.parameters.length) = some np) (hR : rm.frames + 1 ≤ R.frames ∧ 8 + (maxL + 11) + rm.locals ≤ R.locals) (hroom : (rest.map fun v => v.category).sum ≤ 8) (hdg : decode cc pc = .ok (.invokestatic index, 3))     (kk : ∀ (r : UInt64) (M' : Mem) (H1 : Heap) (locs1 : List Loc), P r M' → m_H D cA b n M' H1 → va_S (m_A b) s.heap H1 locs1 → W p l e R s m args below meth c H1 locs1 cells slots Q (F0 m (pc + 3) ls (.double r :: rest))) : W p l e R s m args below meth c H locs cells slots Q (F0 m pc ls st0) := m_callS C hK hP hS hlv hcs hM hst hn hml hsm hini hco hc hd hR hroom hdg (fun v M' H1 locs1 hv h1 h2 => by obtain ⟨r, rfl, hq⟩ := hv; exact kk r M' H1 locs1 hq h1 h2)
theorem m_callSR {y : MethodName} {bytes : ByteArray} {maxL index np : Nat} {ret : Option FieldType} {rm : Room} {As : List Value} {P : Nat → Mem → Prop} {st0 : List Value} (C : CallFix p m c cc nL s args lw_T own) (hK : m_K D cA s) (hP : m_H D cA b n M H) (hS : va_S (m_A b) s.heap H locs) (hlv : ls.size = nL) (hcs : cells ≤ R.cells ∧ slots ≤ R.slots)     (hM : m_C l D cA b n n M y bytes maxL ret rm 0 0 As (rR b P)) (hst : st0 = As.reverse ++ rest) (hn : As.length = np)     (hml : Cond.methodLink own index y ∈ lw_T) (hsm : Cond.static y ∈ lw_T) (hini : Cond.initialized y.cls ∈ lw_T) (hco : Cond.code y bytes maxL ret ∈ lw_T) (hc : rm.cells = 0 ∧ rm.slots = 0)     (hd : y.cls ≠ "java/lang/invoke/MethodHandle" ∧ y.cls ≠ "java/lang/invoke/VarHandle" ∧ (parseMethodDescriptor y.desc).map (fun d => d.parameters.length) = some np) (hR : rm.frames + 1 ≤ R.frames ∧ 8 + (maxL + 11) + rm.locals ≤ R.locals) (hroom : (rest.map fun v => v.category).sum ≤ 8) (hdg : decode cc pc = .ok (.invokestatic index, 3))     (kk : ∀ (r : Nat) (M' : Mem) (H1 : Heap) (locs1 : List Loc), P r M' → m_H D cA b n M' H1 → va_S (m_A b) s.heap H1 locs1 → W p l e R s m args below meth c H1 locs1 cells slots Q (F0 m (pc + 3) ls (.ref (b + r) :: rest))) : W p l e R s m args below meth c H locs cells slots Q (F0 m pc ls st0) := m_callS C hK hP hS hlv hcs hM hst hn hml hsm hini hco hc hd hR hroom hdg (fun v M' H1 locs1 hv h1 h2 => by obtain ⟨r, rfl, hq⟩ := hv; exact kk r M' H1 locs1 hq h1 h2)
theorem m_callSO {y : MethodName} {bytes : ByteArray} {maxL index np : Nat} {ret : Option FieldType} {rm : Room} {As : List Value} {P : Option Nat → Mem → Prop} {st0 : List Value} (C : CallFix p m c cc nL s args lw_T own) (hK : m_K D cA s) (hP : m_H D cA b n M H) (hS : va_S (m_A b) s.heap H locs) (hlv : ls.size = nL) (hcs : cells ≤ R.cells ∧ slots ≤ R.slots)     (hM : m_C l D cA b n n M y bytes maxL ret rm 0 0 As (rO b P)) (hst : st0 = As.reverse ++ rest) (hn : As.length = np)     (hml : Cond.methodLink own index y ∈ lw_T) (hsm : Cond.static y ∈ lw_T) (hini : Cond.initialized y.cls ∈ lw_T) (hco : Cond.code y bytes maxL ret ∈ lw_T) (hc : rm.cells = 0 ∧ rm.slots = 0)     (hd : y.cls ≠ "java/lang/invoke/MethodHandle" ∧ y.cls ≠ "java/lang/invoke/VarHandle" ∧ (parseMethodDescriptor y.desc).map (fun d => d.parameters.length) = some np) (hR : rm.frames + 1 ≤ R.frames ∧ 8 + (maxL + 11) + rm.locals ≤ R.locals) (hroom : (rest.map fun v => v.category).sum ≤ 8) (hdg : decode cc pc = .ok (.invokestatic index, 3))     (kk : ∀ (r : Option Nat) (M' : Mem) (H1 : Heap) (locs1 : List Loc), P r M' → m_H D cA b n M' H1 → va_S (m_A b) s.heap H1 locs1 → W p l e R s m args below meth c H1 locs1 cells slots Q (F0 m (pc + 3) ls (va_rf (r.map (fun j => b + j)) :: rest))) : W p l e R s m args below meth c H locs cells slots Q (F0 m pc ls st0) := m_callS C hK hP hS hlv hcs hM hst hn hml hsm hini hco hc hd hR hroom hdg (fun v M' H1 locs1 hv h1 h2 => by obtain ⟨r, rfl, hq⟩ := hv; exact kk r M' H1 locs1 hq h1 h2)
end MW
theorem yd_X0_copyFrom : yX0_copyFrom.cls ≠ "java/lang/invoke/MethodHandle" ∧ yX0_copyFrom.cls ≠ "java/lang/invoke/VarHandle" ∧ (parseMethodDescriptor yX0_copyFrom.desc).map (fun d => d.parameters.length) = some 1 := by decide +kernel
theorem yd_X0_property : yX0_property.cls ≠ "java/lang/invoke/MethodHandle" ∧ yX0_property.cls ≠ "java/lang/invoke/VarHandle" ∧ (parseMethodDescriptor yX0_property.desc).map (fun d => d.parameters.length) = some 1 := by decide +kernel
theorem yd_X1_copyFrom : yX1_copyFrom.cls ≠ "java/lang/invoke/MethodHandle" ∧ yX1_copyFrom.cls ≠ "java/lang/invoke/VarHandle" ∧ (parseMethodDescriptor yX1_copyFrom.desc).map (fun d => d.parameters.length) = some 1 := by decide +kernel
theorem yd_X1_isBeingGround : yX1_isBeingGround.cls ≠ "java/lang/invoke/MethodHandle" ∧ yX1_isBeingGround.cls ≠ "java/lang/invoke/VarHandle" ∧ (parseMethodDescriptor yX1_isBeingGround.desc).map (fun d => d.parameters.length) = some 0 := by decide +kernel
theorem yd_X1_isWornOut : yX1_isWornOut.cls ≠ "java/lang/invoke/MethodHandle" ∧ yX1_isWornOut.cls ≠ "java/lang/invoke/VarHandle" ∧ (parseMethodDescriptor yX1_isWornOut.desc).map (fun d => d.parameters.length) = some 0 := by decide +kernel
theorem yd_X1_canForge : yX1_canForge.cls ≠ "java/lang/invoke/MethodHandle" ∧ yX1_canForge.cls ≠ "java/lang/invoke/VarHandle" ∧ (parseMethodDescriptor yX1_canForge.desc).map (fun d => d.parameters.length) = some 0 := by decide +kernel
theorem yd_X1_grindMinute : yX1_grindMinute.cls ≠ "java/lang/invoke/MethodHandle" ∧ yX1_grindMinute.cls ≠ "java/lang/invoke/VarHandle" ∧ (parseMethodDescriptor yX1_grindMinute.desc).map (fun d => d.parameters.length) = some 0 := by decide +kernel
theorem yd_X1_property : yX1_property.cls ≠ "java/lang/invoke/MethodHandle" ∧ yX1_property.cls ≠ "java/lang/invoke/VarHandle" ∧ (parseMethodDescriptor yX1_property.desc).map (fun d => d.parameters.length) = some 1 := by decide +kernel
theorem yd_X2_copyFrom : yX2_copyFrom.cls ≠ "java/lang/invoke/MethodHandle" ∧ yX2_copyFrom.cls ≠ "java/lang/invoke/VarHandle" ∧ (parseMethodDescriptor yX2_copyFrom.desc).map (fun d => d.parameters.length) = some 1 := by decide +kernel
theorem yd_X3_copyFrom : yX3_copyFrom.cls ≠ "java/lang/invoke/MethodHandle" ∧ yX3_copyFrom.cls ≠ "java/lang/invoke/VarHandle" ∧ (parseMethodDescriptor yX3_copyFrom.desc).map (fun d => d.parameters.length) = some 1 := by decide +kernel
theorem yd_X3_comesBefore : yX3_comesBefore.cls ≠ "java/lang/invoke/MethodHandle" ∧ yX3_comesBefore.cls ≠ "java/lang/invoke/VarHandle" ∧ (parseMethodDescriptor yX3_comesBefore.desc).map (fun d => d.parameters.length) = some 1 := by decide +kernel
theorem yd_X3_lack : yX3_lack.cls ≠ "java/lang/invoke/MethodHandle" ∧ yX3_lack.cls ≠ "java/lang/invoke/VarHandle" ∧ (parseMethodDescriptor yX3_lack.desc).map (fun d => d.parameters.length) = some 0 := by decide +kernel
theorem yd_X5_copyNumbersFrom : yX5_copyNumbersFrom.cls ≠ "java/lang/invoke/MethodHandle" ∧ yX5_copyNumbersFrom.cls ≠ "java/lang/invoke/VarHandle" ∧ (parseMethodDescriptor yX5_copyNumbersFrom.desc).map (fun d => d.parameters.length) = some 1 := by decide +kernel
theorem yd_X5_heatAt : yX5_heatAt.cls ≠ "java/lang/invoke/MethodHandle" ∧ yX5_heatAt.cls ≠ "java/lang/invoke/VarHandle" ∧ (parseMethodDescriptor yX5_heatAt.desc).map (fun d => d.parameters.length) = some 1 := by decide +kernel
theorem yd_X5_dieAt : yX5_dieAt.cls ≠ "java/lang/invoke/MethodHandle" ∧ yX5_dieAt.cls ≠ "java/lang/invoke/VarHandle" ∧ (parseMethodDescriptor yX5_dieAt.desc).map (fun d => d.parameters.length) = some 1 := by decide +kernel
theorem yd_X5_jobAt : yX5_jobAt.cls ≠ "java/lang/invoke/MethodHandle" ∧ yX5_jobAt.cls ≠ "java/lang/invoke/VarHandle" ∧ (parseMethodDescriptor yX5_jobAt.desc).map (fun d => d.parameters.length) = some 1 := by decide +kernel
theorem yd_X5_billetAt : yX5_billetAt.cls ≠ "java/lang/invoke/MethodHandle" ∧ yX5_billetAt.cls ≠ "java/lang/invoke/VarHandle" ∧ (parseMethodDescriptor yX5_billetAt.desc).map (fun d => d.parameters.length) = some 1 := by decide +kernel
theorem yd_X5_swapJobs : yX5_swapJobs.cls ≠ "java/lang/invoke/MethodHandle" ∧ yX5_swapJobs.cls ≠ "java/lang/invoke/VarHandle" ∧ (parseMethodDescriptor yX5_swapJobs.desc).map (fun d => d.parameters.length) = some 2 := by decide +kernel
theorem yd_X5_placeOf : yX5_placeOf.cls ≠ "java/lang/invoke/MethodHandle" ∧ yX5_placeOf.cls ≠ "java/lang/invoke/VarHandle" ∧ (parseMethodDescriptor yX5_placeOf.desc).map (fun d => d.parameters.length) = some 1 := by decide +kernel
theorem yd_X5_removeJob : yX5_removeJob.cls ≠ "java/lang/invoke/MethodHandle" ∧ yX5_removeJob.cls ≠ "java/lang/invoke/VarHandle" ∧ (parseMethodDescriptor yX5_removeJob.desc).map (fun d => d.parameters.length) = some 1 := by decide +kernel
theorem yd_X5_dropJob : yX5_dropJob.cls ≠ "java/lang/invoke/MethodHandle" ∧ yX5_dropJob.cls ≠ "java/lang/invoke/VarHandle" ∧ (parseMethodDescriptor yX5_dropJob.desc).map (fun d => d.parameters.length) = some 1 := by decide +kernel
theorem yd_X5_valueOf : yX5_valueOf.cls ≠ "java/lang/invoke/MethodHandle" ∧ yX5_valueOf.cls ≠ "java/lang/invoke/VarHandle" ∧ (parseMethodDescriptor yX5_valueOf.desc).map (fun d => d.parameters.length) = some 1 := by decide +kernel
theorem yd_X5_putValue : yX5_putValue.cls ≠ "java/lang/invoke/MethodHandle" ∧ yX5_putValue.cls ≠ "java/lang/invoke/VarHandle" ∧ (parseMethodDescriptor yX5_putValue.desc).map (fun d => d.parameters.length) = some 2 := by decide +kernel
theorem yd_X5_countMade : yX5_countMade.cls ≠ "java/lang/invoke/MethodHandle" ∧ yX5_countMade.cls ≠ "java/lang/invoke/VarHandle" ∧ (parseMethodDescriptor yX5_countMade.desc).map (fun d => d.parameters.length) = some 0 := by decide +kernel
theorem yd_X5_countScrap : yX5_countScrap.cls ≠ "java/lang/invoke/MethodHandle" ∧ yX5_countScrap.cls ≠ "java/lang/invoke/VarHandle" ∧ (parseMethodDescriptor yX5_countScrap.desc).map (fun d => d.parameters.length) = some 0 := by decide +kernel
theorem yd_X5_countRushJobs : yX5_countRushJobs.cls ≠ "java/lang/invoke/MethodHandle" ∧ yX5_countRushJobs.cls ≠ "java/lang/invoke/VarHandle" ∧ (parseMethodDescriptor yX5_countRushJobs.desc).map (fun d => d.parameters.length) = some 0 := by decide +kernel
theorem yd_X5_countInFurnace : yX5_countInFurnace.cls ≠ "java/lang/invoke/MethodHandle" ∧ yX5_countInFurnace.cls ≠ "java/lang/invoke/VarHandle" ∧ (parseMethodDescriptor yX5_countInFurnace.desc).map (fun d => d.parameters.length) = some 0 := by decide +kernel
theorem yd_X5_countBilletsOf : yX5_countBilletsOf.cls ≠ "java/lang/invoke/MethodHandle" ∧ yX5_countBilletsOf.cls ≠ "java/lang/invoke/VarHandle" ∧ (parseMethodDescriptor yX5_countBilletsOf.desc).map (fun d => d.parameters.length) = some 1 := by decide +kernel
theorem yd_X5_countLackOf : yX5_countLackOf.cls ≠ "java/lang/invoke/MethodHandle" ∧ yX5_countLackOf.cls ≠ "java/lang/invoke/VarHandle" ∧ (parseMethodDescriptor yX5_countLackOf.desc).map (fun d => d.parameters.length) = some 1 := by decide +kernel
theorem yd_X5_dieBeingGround : yX5_dieBeingGround.cls ≠ "java/lang/invoke/MethodHandle" ∧ yX5_dieBeingGround.cls ≠ "java/lang/invoke/VarHandle" ∧ (parseMethodDescriptor yX5_dieBeingGround.desc).map (fun d => d.parameters.length) = some 0 := by decide +kernel
theorem yd_X5_freePlace : yX5_freePlace.cls ≠ "java/lang/invoke/MethodHandle" ∧ yX5_freePlace.cls ≠ "java/lang/invoke/VarHandle" ∧ (parseMethodDescriptor yX5_freePlace.desc).map (fun d => d.parameters.length) = some 0 := by decide +kernel
theorem yd_X5_hottestReady : yX5_hottestReady.cls ≠ "java/lang/invoke/MethodHandle" ∧ yX5_hottestReady.cls ≠ "java/lang/invoke/VarHandle" ∧ (parseMethodDescriptor yX5_hottestReady.desc).map (fun d => d.parameters.length) = some 1 := by decide +kernel
theorem yd_X5_warmFurnace : yX5_warmFurnace.cls ≠ "java/lang/invoke/MethodHandle" ∧ yX5_warmFurnace.cls ≠ "java/lang/invoke/VarHandle" ∧ (parseMethodDescriptor yX5_warmFurnace.desc).map (fun d => d.parameters.length) = some 0 := by decide +kernel
theorem yd_X5_chargeFurnace : yX5_chargeFurnace.cls ≠ "java/lang/invoke/MethodHandle" ∧ yX5_chargeFurnace.cls ≠ "java/lang/invoke/VarHandle" ∧ (parseMethodDescriptor yX5_chargeFurnace.desc).map (fun d => d.parameters.length) = some 0 := by decide +kernel
theorem yd_X5_loadPress : yX5_loadPress.cls ≠ "java/lang/invoke/MethodHandle" ∧ yX5_loadPress.cls ≠ "java/lang/invoke/VarHandle" ∧ (parseMethodDescriptor yX5_loadPress.desc).map (fun d => d.parameters.length) = some 0 := by decide +kernel
theorem yd_X5_sendBack : yX5_sendBack.cls ≠ "java/lang/invoke/MethodHandle" ∧ yX5_sendBack.cls ≠ "java/lang/invoke/VarHandle" ∧ (parseMethodDescriptor yX5_sendBack.desc).map (fun d => d.parameters.length) = some 2 := by decide +kernel
theorem yd_X5_countGone : yX5_countGone.cls ≠ "java/lang/invoke/MethodHandle" ∧ yX5_countGone.cls ≠ "java/lang/invoke/VarHandle" ∧ (parseMethodDescriptor yX5_countGone.desc).map (fun d => d.parameters.length) = some 1 := by decide +kernel
theorem yd_X5_tendDies : yX5_tendDies.cls ≠ "java/lang/invoke/MethodHandle" ∧ yX5_tendDies.cls ≠ "java/lang/invoke/VarHandle" ∧ (parseMethodDescriptor yX5_tendDies.desc).map (fun d => d.parameters.length) = some 0 := by decide +kernel
theorem yd_X6_isWithin : yX6_isWithin.cls ≠ "java/lang/invoke/MethodHandle" ∧ yX6_isWithin.cls ≠ "java/lang/invoke/VarHandle" ∧ (parseMethodDescriptor yX6_isWithin.desc).map (fun d => d.parameters.length) = some 3 := by decide +kernel
theorem yd_X6_leastValue : yX6_leastValue.cls ≠ "java/lang/invoke/MethodHandle" ∧ yX6_leastValue.cls ≠ "java/lang/invoke/VarHandle" ∧ (parseMethodDescriptor yX6_leastValue.desc).map (fun d => d.parameters.length) = some 1 := by decide +kernel
theorem yd_X6_mostValue : yX6_mostValue.cls ≠ "java/lang/invoke/MethodHandle" ∧ yX6_mostValue.cls ≠ "java/lang/invoke/VarHandle" ∧ (parseMethodDescriptor yX6_mostValue.desc).map (fun d => d.parameters.length) = some 1 := by decide +kernel
theorem yd_X6_pastAt : yX6_pastAt.cls ≠ "java/lang/invoke/MethodHandle" ∧ yX6_pastAt.cls ≠ "java/lang/invoke/VarHandle" ∧ (parseMethodDescriptor yX6_pastAt.desc).map (fun d => d.parameters.length) = some 1 := by decide +kernel
theorem yd_X6_numberOf : yX6_numberOf.cls ≠ "java/lang/invoke/MethodHandle" ∧ yX6_numberOf.cls ≠ "java/lang/invoke/VarHandle" ∧ (parseMethodDescriptor yX6_numberOf.desc).map (fun d => d.parameters.length) = some 1 := by decide +kernel
theorem yd_X6_shareMade : yX6_shareMade.cls ≠ "java/lang/invoke/MethodHandle" ∧ yX6_shareMade.cls ≠ "java/lang/invoke/VarHandle" ∧ (parseMethodDescriptor yX6_shareMade.desc).map (fun d => d.parameters.length) = some 0 := by decide +kernel
theorem yd_X5_copyFrom : yX5_copyFrom.cls ≠ "java/lang/invoke/MethodHandle" ∧ yX5_copyFrom.cls ≠ "java/lang/invoke/VarHandle" ∧ (parseMethodDescriptor yX5_copyFrom.desc).map (fun d => d.parameters.length) = some 1 := by decide +kernel
theorem yd_X5_settle : yX5_settle.cls ≠ "java/lang/invoke/MethodHandle" ∧ yX5_settle.cls ≠ "java/lang/invoke/VarHandle" ∧ (parseMethodDescriptor yX5_settle.desc).map (fun d => d.parameters.length) = some 1 := by decide +kernel
theorem yd_X5_heatProperty : yX5_heatProperty.cls ≠ "java/lang/invoke/MethodHandle" ∧ yX5_heatProperty.cls ≠ "java/lang/invoke/VarHandle" ∧ (parseMethodDescriptor yX5_heatProperty.desc).map (fun d => d.parameters.length) = some 2 := by decide +kernel
theorem yd_X5_reasonToWait : yX5_reasonToWait.cls ≠ "java/lang/invoke/MethodHandle" ∧ yX5_reasonToWait.cls ≠ "java/lang/invoke/VarHandle" ∧ (parseMethodDescriptor yX5_reasonToWait.desc).map (fun d => d.parameters.length) = some 1 := by decide +kernel
theorem yd_X5_workPress : yX5_workPress.cls ≠ "java/lang/invoke/MethodHandle" ∧ yX5_workPress.cls ≠ "java/lang/invoke/VarHandle" ∧ (parseMethodDescriptor yX5_workPress.desc).map (fun d => d.parameters.length) = some 1 := by decide +kernel
theorem yd_X6_saved : yX6_saved.cls ≠ "java/lang/invoke/MethodHandle" ∧ yX6_saved.cls ≠ "java/lang/invoke/VarHandle" ∧ (parseMethodDescriptor yX6_saved.desc).map (fun d => d.parameters.length) = some 0 := by decide +kernel
theorem yd_X6_dropOldest : yX6_dropOldest.cls ≠ "java/lang/invoke/MethodHandle" ∧ yX6_dropOldest.cls ≠ "java/lang/invoke/VarHandle" ∧ (parseMethodDescriptor yX6_dropOldest.desc).map (fun d => d.parameters.length) = some 0 := by decide +kernel
theorem yd_X5_addJob : yX5_addJob.cls ≠ "java/lang/invoke/MethodHandle" ∧ yX5_addJob.cls ≠ "java/lang/invoke/VarHandle" ∧ (parseMethodDescriptor yX5_addJob.desc).map (fun d => d.parameters.length) = some 5 := by decide +kernel
theorem yd_X5_hasten : yX5_hasten.cls ≠ "java/lang/invoke/MethodHandle" ∧ yX5_hasten.cls ≠ "java/lang/invoke/VarHandle" ∧ (parseMethodDescriptor yX5_hasten.desc).map (fun d => d.parameters.length) = some 2 := by decide +kernel
theorem yd_X5_jobProperty : yX5_jobProperty.cls ≠ "java/lang/invoke/MethodHandle" ∧ yX5_jobProperty.cls ≠ "java/lang/invoke/VarHandle" ∧ (parseMethodDescriptor yX5_jobProperty.desc).map (fun d => d.parameters.length) = some 2 := by decide +kernel
theorem yd_X5_passMinute : yX5_passMinute.cls ≠ "java/lang/invoke/MethodHandle" ∧ yX5_passMinute.cls ≠ "java/lang/invoke/VarHandle" ∧ (parseMethodDescriptor yX5_passMinute.desc).map (fun d => d.parameters.length) = some 0 := by decide +kernel
theorem yd_X6_remember : yX6_remember.cls ≠ "java/lang/invoke/MethodHandle" ∧ yX6_remember.cls ≠ "java/lang/invoke/VarHandle" ∧ (parseMethodDescriptor yX6_remember.desc).map (fun d => d.parameters.length) = some 0 := by decide +kernel
theorem yd_X5_passMinutes : yX5_passMinutes.cls ≠ "java/lang/invoke/MethodHandle" ∧ yX5_passMinutes.cls ≠ "java/lang/invoke/VarHandle" ∧ (parseMethodDescriptor yX5_passMinutes.desc).map (fun d => d.parameters.length) = some 1 := by decide +kernel
end
section
/-! ForgeHeats$Billet.copyFrom (LForgeHeats$Billet;)V -/
def wp_X0_copyFrom (n : Nat) (M : Mem) (i : Nat) (p1 : Nat) (P : Mem → Prop) : Prop := m_tp n p1 0 ∧ (m_tp n i 0 ∧ (∀ M3 : Mem, M3 = uI M i 0 (M.1 p1 0) → (∀ M4 : Mem, M4 = uI M3 i 1 (M3.1 p1 1) → (∀ M5 : Mem, M5 = uI M4 i 2 (M4.1 p1 2) → (∀ M6 : Mem, M6 = uI M5 i 3 (M5.1 p1 3) → (P M6))))))
abbrev rm_X0_copyFrom : Room := { frames := 0, cells := 0, slots := 0, locals := 0 }
set_option maxHeartbeats 4000000 in
set_option maxRecDepth 100000 in
theorem c_X0_copyFrom {l : Launch} {D : va_G} {cA : Nat → ClassId} {b n : Nat} {M : Mem} {i : Nat} {p1 : Nat} {P : Mem → Prop} (h : wp_X0_copyFrom n M i p1 P) : m_C l D cA b n n M yX0_copyFrom cX0_copyFrom 2 none rm_X0_copyFrom 0 0 [.ref (b + i), .ref (b + p1)] (rV P) := by
  refine m_enter (by decide) (Nat.le_of_ble_eq_true rfl) (fun p e s m below meth c C hr hlk hnm hK hP hS ls hl => ?_)
  have hx := C.1
  have hb := C.2.1
  have hl : lv_has ls 2 [(0, .ref (b + i)), (1, .ref (b + p1))] := hl
  unfold wp_X0_copyFrom at h
  refine lv_aload_n (pc := 0) hx hb dX0_copyFrom_0 rfl (lv_at hl 0 rfl) ?_
  refine lv_aload_n (pc := 1) hx hb dX0_copyFrom_1 rfl (lv_at hl 1 rfl) ?_
  obtain ⟨hk1, h⟩ := h
  refine gX0_9 (pc := 2) C hK hP hk1 dX0_copyFrom_2 ?_
  obtain ⟨hk2, h⟩ := h
  refine pX0_9 (pc := 5) (v := M.1 p1 0) C hK hP hS hk2 dX0_copyFrom_5 (fun M3 H locs eM3 hP hS => ?_)
  replace h := h M3 eM3
  refine lv_aload_n (pc := 8) hx hb dX0_copyFrom_8 rfl (lv_at hl 0 rfl) ?_
  refine lv_aload_n (pc := 9) hx hb dX0_copyFrom_9 rfl (lv_at hl 1 rfl) ?_
  refine gX0_15 (pc := 10) C hK hP hk1 dX0_copyFrom_10 ?_
  refine pX0_15 (pc := 13) (v := M3.1 p1 1) C hK hP hS hk2 dX0_copyFrom_13 (fun M4 H locs eM4 hP hS => ?_)
  replace h := h M4 eM4
  refine lv_aload_n (pc := 16) hx hb dX0_copyFrom_16 rfl (lv_at hl 0 rfl) ?_
  refine lv_aload_n (pc := 17) hx hb dX0_copyFrom_17 rfl (lv_at hl 1 rfl) ?_
  refine gX0_18 (pc := 18) C hK hP hk1 dX0_copyFrom_18 ?_
  refine pX0_18 (pc := 21) (v := M4.1 p1 2) C hK hP hS hk2 dX0_copyFrom_21 (fun M5 H locs eM5 hP hS => ?_)
  replace h := h M5 eM5
  refine lv_aload_n (pc := 24) hx hb dX0_copyFrom_24 rfl (lv_at hl 0 rfl) ?_
  refine lv_aload_n (pc := 25) hx hb dX0_copyFrom_25 rfl (lv_at hl 1 rfl) ?_
  refine gX0_21 (pc := 26) C hK hP hk1 dX0_copyFrom_26 ?_
  refine pX0_21 (pc := 29) (v := M5.1 p1 3) C hK hP hS hk2 dX0_copyFrom_29 (fun M6 H locs eM6 hP hS => ?_)
  replace h := h M6 eM6
  exact m_vret (pc := 32) C hr hlk hP hS dX0_copyFrom_32 h
/-! ForgeHeats$Billet.property (I)I -/
def wp_X0_property (n : Nat) (M : Mem) (i : Nat) (p1 : Int32) (P : Int32 → Mem → Prop) : Prop := m_tp n i 0 ∧ (((¬ (M.1 i 0) = (-1) → ((p1 = 0 → P (M.1 i 0) M) ∧ (¬ p1 = 0 → ((p1 = 1 → P (M.1 i 1) M) ∧ (¬ p1 = 1 → ((p1 = 2 → P (M.1 i 2) M) ∧ (¬ p1 = 2 → P (M.1 i 3) M))))))) ∧ ((M.1 i 0) = (-1) → P (-1) M)))
abbrev rm_X0_property : Room := { frames := 0, cells := 0, slots := 0, locals := 0 }
set_option maxHeartbeats 4000000 in
set_option maxRecDepth 100000 in
theorem c_X0_property {l : Launch} {D : va_G} {cA : Nat → ClassId} {b n : Nat} {M : Mem} {i : Nat} {p1 : Int32} {P : Int32 → Mem → Prop} (h : wp_X0_property n M i p1 P) : m_C l D cA b n n M yX0_property cX0_property 2 (some .int) rm_X0_property 0 0 [.ref (b + i), .int p1] (rI P) := by
  refine m_enter (by decide) (Nat.le_of_ble_eq_true rfl) (fun p e s m below meth c C hr hlk hnm hK hP hS ls hl => ?_)
  have hx := C.1
  have hb := C.2.1
  have hl : lv_has ls 2 [(0, .ref (b + i)), (1, .int p1)] := hl
  unfold wp_X0_property at h
  refine lv_aload_n (pc := 0) hx hb dX0_property_0 rfl (lv_at hl 0 rfl) ?_
  obtain ⟨hk1, h⟩ := h
  refine gX0_9 (pc := 1) C hK hP hk1 dX0_property_1 ?_
  refine lv_iconst (v := -1) (pc := 4) hx hb dX0_property_4 (by decide) ?_
  refine lv_icmp_ne (tgt := 10) (pc := 5) hx hb dX0_property_5 (by decide) (fun c5 => ?_) (fun c5 => ?_)
  · replace h := h.1 c5
    refine lv_iload_n (pc := 10) hx hb dX0_property_10 rfl (lv_at hl 1 rfl) ?_
    by_cases n11_0 : p1 = 0
    · replace h := h.1 n11_0
      refine m_case (v := 0) (off := 25) (tgt := 36) (pc := 11) hx hb n11_0 dX0_property_11 (by decide) (by decide) (by decide) (by decide) ?_
      refine lv_aload_n (pc := 36) hx hb dX0_property_36 rfl (lv_at hl 0 rfl) ?_
      refine gX0_9 (pc := 37) C hK hP hk1 dX0_property_37 ?_
      exact m_iret (v := M.1 i 0) (pc := 40) C hr hlk hP hS dX0_property_40 h
    · replace h := h.2 n11_0
      by_cases n11_1 : p1 = 1
      · replace h := h.1 n11_1
        refine m_case (v := 1) (off := 30) (tgt := 41) (pc := 11) hx hb n11_1 dX0_property_11 (by decide) (by decide) (by decide) (by decide) ?_
        refine lv_aload_n (pc := 41) hx hb dX0_property_41 rfl (lv_at hl 0 rfl) ?_
        refine gX0_15 (pc := 42) C hK hP hk1 dX0_property_42 ?_
        exact m_iret (v := M.1 i 1) (pc := 45) C hr hlk hP hS dX0_property_45 h
      · replace h := h.2 n11_1
        by_cases n11_2 : p1 = 2
        · replace h := h.1 n11_2
          refine m_case (v := 2) (off := 35) (tgt := 46) (pc := 11) hx hb n11_2 dX0_property_11 (by decide) (by decide) (by decide) (by decide) ?_
          refine lv_aload_n (pc := 46) hx hb dX0_property_46 rfl (lv_at hl 0 rfl) ?_
          refine gX0_18 (pc := 47) C hK hP hk1 dX0_property_47 ?_
          exact m_iret (v := M.1 i 2) (pc := 50) C hr hlk hP hS dX0_property_50 h
        · replace h := h.2 n11_2
          refine lv_tableOut (tgt := 51) (pc := 11) hx hb dX0_property_11 (by have i0 := i_ne n11_0; have i1 := i_ne n11_1; have i2 := i_ne n11_2; simp only [m_lit] at *; omega) (by decide) ?_
          refine lv_aload_n (pc := 51) hx hb dX0_property_51 rfl (lv_at hl 0 rfl) ?_
          refine gX0_21 (pc := 52) C hK hP hk1 dX0_property_52 ?_
          exact m_iret (v := M.1 i 3) (pc := 55) C hr hlk hP hS dX0_property_55 h
  · replace h := h.2 c5
    refine lv_iconst (v := -1) (pc := 8) hx hb dX0_property_8 (by decide) ?_
    exact m_iret (v := (-1)) (pc := 9) C hr hlk hP hS dX0_property_9 h
/-! ForgeHeats$Die.copyFrom (LForgeHeats$Die;)V -/
def wp_X1_copyFrom (n : Nat) (M : Mem) (i : Nat) (p1 : Nat) (P : Mem → Prop) : Prop := m_tp n p1 1 ∧ (m_tp n i 1 ∧ (∀ M3 : Mem, M3 = uI M i 0 (M.1 p1 0) → (∀ M4 : Mem, M4 = uI M3 i 1 (M3.1 p1 1) → (∀ M5 : Mem, M5 = uI M4 i 2 (M4.1 p1 2) → (∀ M6 : Mem, M6 = uI M5 i 3 (M5.1 p1 3) → (∀ M7 : Mem, M7 = uI M6 i 4 (M6.1 p1 4) → (∀ M8 : Mem, M8 = uI M7 i 5 (M7.1 p1 5) → (P M8))))))))
abbrev rm_X1_copyFrom : Room := { frames := 0, cells := 0, slots := 0, locals := 0 }
set_option maxHeartbeats 4000000 in
set_option maxRecDepth 100000 in
theorem c_X1_copyFrom {l : Launch} {D : va_G} {cA : Nat → ClassId} {b n : Nat} {M : Mem} {i : Nat} {p1 : Nat} {P : Mem → Prop} (h : wp_X1_copyFrom n M i p1 P) : m_C l D cA b n n M yX1_copyFrom cX1_copyFrom 2 none rm_X1_copyFrom 0 0 [.ref (b + i), .ref (b + p1)] (rV P) := by
  refine m_enter (by decide) (Nat.le_of_ble_eq_true rfl) (fun p e s m below meth c C hr hlk hnm hK hP hS ls hl => ?_)
  have hx := C.1
  have hb := C.2.1
  have hl : lv_has ls 2 [(0, .ref (b + i)), (1, .ref (b + p1))] := hl
  unfold wp_X1_copyFrom at h
  refine lv_aload_n (pc := 0) hx hb dX1_copyFrom_0 rfl (lv_at hl 0 rfl) ?_
  refine lv_aload_n (pc := 1) hx hb dX1_copyFrom_1 rfl (lv_at hl 1 rfl) ?_
  obtain ⟨hk1, h⟩ := h
  refine gX1_9 (pc := 2) C hK hP hk1 dX1_copyFrom_2 ?_
  obtain ⟨hk2, h⟩ := h
  refine pX1_9 (pc := 5) (v := M.1 p1 0) C hK hP hS hk2 dX1_copyFrom_5 (fun M3 H locs eM3 hP hS => ?_)
  replace h := h M3 eM3
  refine lv_aload_n (pc := 8) hx hb dX1_copyFrom_8 rfl (lv_at hl 0 rfl) ?_
  refine lv_aload_n (pc := 9) hx hb dX1_copyFrom_9 rfl (lv_at hl 1 rfl) ?_
  refine gX1_15 (pc := 10) C hK hP hk1 dX1_copyFrom_10 ?_
  refine pX1_15 (pc := 13) (v := M3.1 p1 1) C hK hP hS hk2 dX1_copyFrom_13 (fun M4 H locs eM4 hP hS => ?_)
  replace h := h M4 eM4
  refine lv_aload_n (pc := 16) hx hb dX1_copyFrom_16 rfl (lv_at hl 0 rfl) ?_
  refine lv_aload_n (pc := 17) hx hb dX1_copyFrom_17 rfl (lv_at hl 1 rfl) ?_
  refine gX1_18 (pc := 18) C hK hP hk1 dX1_copyFrom_18 ?_
  refine pX1_18 (pc := 21) (v := M4.1 p1 2) C hK hP hS hk2 dX1_copyFrom_21 (fun M5 H locs eM5 hP hS => ?_)
  replace h := h M5 eM5
  refine lv_aload_n (pc := 24) hx hb dX1_copyFrom_24 rfl (lv_at hl 0 rfl) ?_
  refine lv_aload_n (pc := 25) hx hb dX1_copyFrom_25 rfl (lv_at hl 1 rfl) ?_
  refine gX1_21 (pc := 26) C hK hP hk1 dX1_copyFrom_26 ?_
  refine pX1_21 (pc := 29) (v := M5.1 p1 3) C hK hP hS hk2 dX1_copyFrom_29 (fun M6 H locs eM6 hP hS => ?_)
  replace h := h M6 eM6
  refine lv_aload_n (pc := 32) hx hb dX1_copyFrom_32 rfl (lv_at hl 0 rfl) ?_
  refine lv_aload_n (pc := 33) hx hb dX1_copyFrom_33 rfl (lv_at hl 1 rfl) ?_
  refine gX1_24 (pc := 34) C hK hP hk1 dX1_copyFrom_34 ?_
  refine pX1_24 (pc := 37) (v := M6.1 p1 4) C hK hP hS hk2 dX1_copyFrom_37 (fun M7 H locs eM7 hP hS => ?_)
  replace h := h M7 eM7
  refine lv_aload_n (pc := 40) hx hb dX1_copyFrom_40 rfl (lv_at hl 0 rfl) ?_
  refine lv_aload_n (pc := 41) hx hb dX1_copyFrom_41 rfl (lv_at hl 1 rfl) ?_
  refine gX1_27 (pc := 42) C hK hP hk1 dX1_copyFrom_42 ?_
  refine pX1_27 (pc := 45) (v := M7.1 p1 5) C hK hP hS hk2 dX1_copyFrom_45 (fun M8 H locs eM8 hP hS => ?_)
  replace h := h M8 eM8
  exact m_vret (pc := 48) C hr hlk hP hS dX1_copyFrom_48 h
/-! ForgeHeats$Die.isBeingGround ()Z -/
def wp_X1_isBeingGround (n : Nat) (M : Mem) (i : Nat) (P : Bool → Mem → Prop) : Prop := m_tp n i 1 ∧ (P (if (M.1 i 3) ≤ 0 then false else true) M)
abbrev rm_X1_isBeingGround : Room := { frames := 0, cells := 0, slots := 0, locals := 0 }
set_option maxHeartbeats 4000000 in
set_option maxRecDepth 100000 in
theorem c_X1_isBeingGround {l : Launch} {D : va_G} {cA : Nat → ClassId} {b n : Nat} {M : Mem} {i : Nat} {P : Bool → Mem → Prop} (h : wp_X1_isBeingGround n M i P) : m_C l D cA b n n M yX1_isBeingGround cX1_isBeingGround 1 (some .boolean) rm_X1_isBeingGround 0 0 [.ref (b + i)] (rZ P) := by
  refine m_enter (by decide) (Nat.le_of_ble_eq_true rfl) (fun p e s m below meth c C hr hlk hnm hK hP hS ls hl => ?_)
  have hx := C.1
  have hb := C.2.1
  have hl : lv_has ls 1 [(0, .ref (b + i))] := hl
  unfold wp_X1_isBeingGround at h
  refine lv_aload_n (pc := 0) hx hb dX1_isBeingGround_0 rfl (lv_at hl 0 rfl) ?_
  obtain ⟨hk1, h⟩ := h
  refine gX1_21 (pc := 1) C hK hP hk1 dX1_isBeingGround_1 ?_
  refine m_joinZ (z := if (M.1 i 3) ≤ 0 then false else true) (jp := 12) (rest := []) ?_ (fun hJ => ?_)
  rotate_left
  · skip
    refine lv_if_le (tgt := 11) (pc := 4) hx hb dX1_isBeingGround_4 (by decide) (fun c4 => ?_) (fun c4 => ?_)
    · skip
      refine lv_iconst (v := 0) (pc := 11) hx hb dX1_isBeingGround_11 (by decide) ?_
      exact hJ _ false rfl (by rw [if_pos c4])
    · skip
      refine lv_iconst (v := 1) (pc := 7) hx hb dX1_isBeingGround_7 (by decide) ?_
      refine lv_goto (tgt := 12) (pc := 8) hx hb dX1_isBeingGround_8 (by decide) ?_
      exact hJ _ true rfl (by rw [if_neg c4])
  exact m_zret (v := if (M.1 i 3) ≤ 0 then false else true) (pc := 12) C hr hlk hP hS dX1_isBeingGround_12 h
/-! ForgeHeats$Die.isWornOut ()Z -/
def wp_X1_isWornOut (n : Nat) (M : Mem) (i : Nat) (P : Bool → Mem → Prop) : Prop := m_tp n i 1 ∧ (P (if (M.1 i 2) < (M.1 i 1) then false else true) M)
abbrev rm_X1_isWornOut : Room := { frames := 0, cells := 0, slots := 0, locals := 0 }
set_option maxHeartbeats 4000000 in
set_option maxRecDepth 100000 in
theorem c_X1_isWornOut {l : Launch} {D : va_G} {cA : Nat → ClassId} {b n : Nat} {M : Mem} {i : Nat} {P : Bool → Mem → Prop} (h : wp_X1_isWornOut n M i P) : m_C l D cA b n n M yX1_isWornOut cX1_isWornOut 1 (some .boolean) rm_X1_isWornOut 0 0 [.ref (b + i)] (rZ P) := by
  refine m_enter (by decide) (Nat.le_of_ble_eq_true rfl) (fun p e s m below meth c C hr hlk hnm hK hP hS ls hl => ?_)
  have hx := C.1
  have hb := C.2.1
  have hl : lv_has ls 1 [(0, .ref (b + i))] := hl
  unfold wp_X1_isWornOut at h
  refine lv_aload_n (pc := 0) hx hb dX1_isWornOut_0 rfl (lv_at hl 0 rfl) ?_
  obtain ⟨hk1, h⟩ := h
  refine gX1_18 (pc := 1) C hK hP hk1 dX1_isWornOut_1 ?_
  refine lv_aload_n (pc := 4) hx hb dX1_isWornOut_4 rfl (lv_at hl 0 rfl) ?_
  refine gX1_15 (pc := 5) C hK hP hk1 dX1_isWornOut_5 ?_
  refine m_joinZ (z := if (M.1 i 2) < (M.1 i 1) then false else true) (jp := 16) (rest := []) ?_ (fun hJ => ?_)
  rotate_left
  · skip
    refine lv_icmp_lt (tgt := 15) (pc := 8) hx hb dX1_isWornOut_8 (by decide) (fun c8 => ?_) (fun c8 => ?_)
    · skip
      refine lv_iconst (v := 0) (pc := 15) hx hb dX1_isWornOut_15 (by decide) ?_
      exact hJ _ false rfl (by rw [if_pos c8])
    · skip
      refine lv_iconst (v := 1) (pc := 11) hx hb dX1_isWornOut_11 (by decide) ?_
      refine lv_goto (tgt := 16) (pc := 12) hx hb dX1_isWornOut_12 (by decide) ?_
      exact hJ _ true rfl (by rw [if_neg c8])
  exact m_zret (v := if (M.1 i 2) < (M.1 i 1) then false else true) (pc := 16) C hr hlk hP hS dX1_isWornOut_16 h
/-! ForgeHeats$Die.canForge ()Z -/
def wp_X1_canForge (n : Nat) (M : Mem) (i : Nat) (P : Bool → Mem → Prop) : Prop := m_tp n i 1 ∧ (((0 < (M.1 i 3) → P false M) ∧ (¬ 0 < (M.1 i 3) → P (if (M.1 i 1) ≤ (M.1 i 2) then false else true) M)))
abbrev rm_X1_canForge : Room := { frames := 0, cells := 0, slots := 0, locals := 0 }
set_option maxHeartbeats 4000000 in
set_option maxRecDepth 100000 in
theorem c_X1_canForge {l : Launch} {D : va_G} {cA : Nat → ClassId} {b n : Nat} {M : Mem} {i : Nat} {P : Bool → Mem → Prop} (h : wp_X1_canForge n M i P) : m_C l D cA b n n M yX1_canForge cX1_canForge 1 (some .boolean) rm_X1_canForge 0 0 [.ref (b + i)] (rZ P) := by
  refine m_enter (by decide) (Nat.le_of_ble_eq_true rfl) (fun p e s m below meth c C hr hlk hnm hK hP hS ls hl => ?_)
  have hx := C.1
  have hb := C.2.1
  have hl : lv_has ls 1 [(0, .ref (b + i))] := hl
  unfold wp_X1_canForge at h
  refine lv_aload_n (pc := 0) hx hb dX1_canForge_0 rfl (lv_at hl 0 rfl) ?_
  obtain ⟨hk1, h⟩ := h
  refine gX1_21 (pc := 1) C hK hP hk1 dX1_canForge_1 ?_
  refine lv_if_gt (tgt := 22) (pc := 4) hx hb dX1_canForge_4 (by decide) (fun c4 => ?_) (fun c4 => ?_)
  · replace h := h.1 c4
    refine lv_iconst (v := 0) (pc := 22) hx hb dX1_canForge_22 (by decide) ?_
    exact m_zret (v := false) (pc := 23) C hr hlk hP hS dX1_canForge_23 h
  · replace h := h.2 c4
    refine lv_aload_n (pc := 7) hx hb dX1_canForge_7 rfl (lv_at hl 0 rfl) ?_
    refine gX1_18 (pc := 8) C hK hP hk1 dX1_canForge_8 ?_
    refine lv_aload_n (pc := 11) hx hb dX1_canForge_11 rfl (lv_at hl 0 rfl) ?_
    refine gX1_15 (pc := 12) C hK hP hk1 dX1_canForge_12 ?_
    refine m_joinZ (z := if (M.1 i 1) ≤ (M.1 i 2) then false else true) (jp := 23) (rest := []) ?_ (fun hJ => ?_)
    rotate_left
    · skip
      refine lv_icmp_ge (tgt := 22) (pc := 15) hx hb dX1_canForge_15 (by decide) (fun c15 => ?_) (fun c15 => ?_)
      · skip
        refine lv_iconst (v := 0) (pc := 22) hx hb dX1_canForge_22 (by decide) ?_
        exact hJ _ false rfl (by rw [if_pos c15])
      · skip
        refine lv_iconst (v := 1) (pc := 18) hx hb dX1_canForge_18 (by decide) ?_
        refine lv_goto (tgt := 23) (pc := 19) hx hb dX1_canForge_19 (by decide) ?_
        exact hJ _ true rfl (by rw [if_neg c15])
    exact m_zret (v := if (M.1 i 1) ≤ (M.1 i 2) then false else true) (pc := 23) C hr hlk hP hS dX1_canForge_23 h
/-! ForgeHeats$Die.grindMinute ()V -/
def wp_X1_grindMinute (n : Nat) (M : Mem) (i : Nat) (P : Mem → Prop) : Prop := m_tp n i 1 ∧ (∀ M2 : Mem, M2 = uI M i 3 ((M.1 i 3) - 1) → (((0 < (M2.1 i 3) → P M2) ∧ (¬ 0 < (M2.1 i 3) → ∀ M3 : Mem, M3 = uI M2 i 2 0 → (∀ M4 : Mem, M4 = uI M3 i 1 (if 10 < ((M3.1 i 1) - 5) then ((M3.1 i 1) - 5) else 10) → (∀ M5 : Mem, M5 = uI M4 i 5 ((M4.1 i 5) + 1) → (P M5)))))))
abbrev rm_X1_grindMinute : Room := { frames := 1, cells := 0, slots := 0, locals := 21 }
set_option maxHeartbeats 4000000 in
set_option maxRecDepth 100000 in
theorem c_X1_grindMinute {l : Launch} {D : va_G} {cA : Nat → ClassId} {b n : Nat} {M : Mem} {i : Nat} {P : Mem → Prop} (h : wp_X1_grindMinute n M i P) : m_C l D cA b n n M yX1_grindMinute cX1_grindMinute 1 none rm_X1_grindMinute 0 0 [.ref (b + i)] (rV P) := by
  refine m_enter (by decide) (Nat.le_of_ble_eq_true rfl) (fun p e s m below meth c C hr hlk hnm hK hP hS ls hl => ?_)
  have hx := C.1
  have hb := C.2.1
  have hl : lv_has ls 1 [(0, .ref (b + i))] := hl
  unfold wp_X1_grindMinute at h
  refine lv_aload_n (pc := 0) hx hb dX1_grindMinute_0 rfl (lv_at hl 0 rfl) ?_
  refine lv_dup (pc := 1) hx hb dX1_grindMinute_1 rfl ?_
  obtain ⟨hk1, h⟩ := h
  refine gX1_21 (pc := 2) C hK hP hk1 dX1_grindMinute_2 ?_
  refine lv_iconst (v := 1) (pc := 5) hx hb dX1_grindMinute_5 (by decide) ?_
  refine lv_isub (pc := 6) hx hb dX1_grindMinute_6 ?_
  refine pX1_21 (pc := 7) (v := (M.1 i 3) - 1) C hK hP hS hk1 dX1_grindMinute_7 (fun M2 H locs eM2 hP hS => ?_)
  replace h := h M2 eM2
  refine lv_aload_n (pc := 10) hx hb dX1_grindMinute_10 rfl (lv_at hl 0 rfl) ?_
  refine gX1_21 (pc := 11) C hK hP hk1 dX1_grindMinute_11 ?_
  refine lv_if_gt (tgt := 47) (pc := 14) hx hb dX1_grindMinute_14 (by decide) (fun c14 => ?_) (fun c14 => ?_)
  · replace h := h.1 c14
    exact m_vret (pc := 47) C hr hlk hP hS dX1_grindMinute_47 h
  · replace h := h.2 c14
    refine lv_aload_n (pc := 17) hx hb dX1_grindMinute_17 rfl (lv_at hl 0 rfl) ?_
    refine lv_iconst (v := 0) (pc := 18) hx hb dX1_grindMinute_18 (by decide) ?_
    refine pX1_18 (pc := 19) (v := 0) C hK hP hS hk1 dX1_grindMinute_19 (fun M3 H locs eM3 hP hS => ?_)
    replace h := h M3 eM3
    refine lv_aload_n (pc := 22) hx hb dX1_grindMinute_22 rfl (lv_at hl 0 rfl) ?_
    refine lv_bipush (v := 10) (pc := 23) hx hb dX1_grindMinute_23 (by decide) ?_
    refine lv_aload_n (pc := 25) hx hb dX1_grindMinute_25 rfl (lv_at hl 0 rfl) ?_
    refine gX1_15 (pc := 26) C hK hP hk1 dX1_grindMinute_26 ?_
    refine lv_iconst (v := 5) (pc := 29) hx hb dX1_grindMinute_29 (by decide) ?_
    refine lv_isub (pc := 30) hx hb dX1_grindMinute_30 ?_
    refine va_mmax (pc := 31) hx hb (C.2.2.1.trans hl.1.symm) C.2.2.2.1 (C.2.2.2.2 _ q_693) (C.2.2.2.2 _ q_678) (C.2.2.2.2 _ q_14) (C.2.2.2.2 _ q_679) (Nat.le_of_ble_eq_true rfl) (Nat.le_of_ble_eq_true rfl) (Nat.zero_le _) (Nat.zero_le _) dX1_grindMinute_31 ?_
    refine pX1_15 (pc := 34) (v := if 10 < ((M3.1 i 1) - 5) then ((M3.1 i 1) - 5) else 10) C hK hP hS hk1 dX1_grindMinute_34 (fun M4 H locs eM4 hP hS => ?_)
    replace h := h M4 eM4
    refine lv_aload_n (pc := 37) hx hb dX1_grindMinute_37 rfl (lv_at hl 0 rfl) ?_
    refine lv_dup (pc := 38) hx hb dX1_grindMinute_38 rfl ?_
    refine gX1_27 (pc := 39) C hK hP hk1 dX1_grindMinute_39 ?_
    refine lv_iconst (v := 1) (pc := 42) hx hb dX1_grindMinute_42 (by decide) ?_
    refine lv_iadd (pc := 43) hx hb dX1_grindMinute_43 ?_
    refine pX1_27 (pc := 44) (v := (M4.1 i 5) + 1) C hK hP hS hk1 dX1_grindMinute_44 (fun M5 H locs eM5 hP hS => ?_)
    replace h := h M5 eM5
    exact m_vret (pc := 47) C hr hlk hP hS dX1_grindMinute_47 h
/-! ForgeHeats$Die.property (I)I -/
def wp_X1_property (n : Nat) (M : Mem) (i : Nat) (p1 : Int32) (P : Int32 → Mem → Prop) : Prop := ((p1 = 0 → m_tp n i 1 ∧ (P (M.1 i 0) M)) ∧ (¬ p1 = 0 → ((p1 = 1 → m_tp n i 1 ∧ (P (M.1 i 1) M)) ∧ (¬ p1 = 1 → ((p1 = 2 → m_tp n i 1 ∧ (P (M.1 i 2) M)) ∧ (¬ p1 = 2 → ((p1 = 3 → m_tp n i 1 ∧ (P (M.1 i 3) M)) ∧ (¬ p1 = 3 → ((p1 = 4 → m_tp n i 1 ∧ (P (M.1 i 4) M)) ∧ (¬ p1 = 4 → m_tp n i 1 ∧ (P (M.1 i 5) M)))))))))))
abbrev rm_X1_property : Room := { frames := 0, cells := 0, slots := 0, locals := 0 }
set_option maxHeartbeats 4000000 in
set_option maxRecDepth 100000 in
theorem c_X1_property {l : Launch} {D : va_G} {cA : Nat → ClassId} {b n : Nat} {M : Mem} {i : Nat} {p1 : Int32} {P : Int32 → Mem → Prop} (h : wp_X1_property n M i p1 P) : m_C l D cA b n n M yX1_property cX1_property 2 (some .int) rm_X1_property 0 0 [.ref (b + i), .int p1] (rI P) := by
  refine m_enter (by decide) (Nat.le_of_ble_eq_true rfl) (fun p e s m below meth c C hr hlk hnm hK hP hS ls hl => ?_)
  have hx := C.1
  have hb := C.2.1
  have hl : lv_has ls 2 [(0, .ref (b + i)), (1, .int p1)] := hl
  unfold wp_X1_property at h
  refine lv_iload_n (pc := 0) hx hb dX1_property_0 rfl (lv_at hl 1 rfl) ?_
  by_cases n1_0 : p1 = 0
  · replace h := h.1 n1_0
    refine m_case (v := 0) (off := 35) (tgt := 36) (pc := 1) hx hb n1_0 dX1_property_1 (by decide) (by decide) (by decide) (by decide) ?_
    refine lv_aload_n (pc := 36) hx hb dX1_property_36 rfl (lv_at hl 0 rfl) ?_
    obtain ⟨hk1, h⟩ := h
    refine gX1_9 (pc := 37) C hK hP hk1 dX1_property_37 ?_
    exact m_iret (v := M.1 i 0) (pc := 40) C hr hlk hP hS dX1_property_40 h
  · replace h := h.2 n1_0
    by_cases n1_1 : p1 = 1
    · replace h := h.1 n1_1
      refine m_case (v := 1) (off := 40) (tgt := 41) (pc := 1) hx hb n1_1 dX1_property_1 (by decide) (by decide) (by decide) (by decide) ?_
      refine lv_aload_n (pc := 41) hx hb dX1_property_41 rfl (lv_at hl 0 rfl) ?_
      obtain ⟨hk2, h⟩ := h
      refine gX1_15 (pc := 42) C hK hP hk2 dX1_property_42 ?_
      exact m_iret (v := M.1 i 1) (pc := 45) C hr hlk hP hS dX1_property_45 h
    · replace h := h.2 n1_1
      by_cases n1_2 : p1 = 2
      · replace h := h.1 n1_2
        refine m_case (v := 2) (off := 45) (tgt := 46) (pc := 1) hx hb n1_2 dX1_property_1 (by decide) (by decide) (by decide) (by decide) ?_
        refine lv_aload_n (pc := 46) hx hb dX1_property_46 rfl (lv_at hl 0 rfl) ?_
        obtain ⟨hk3, h⟩ := h
        refine gX1_18 (pc := 47) C hK hP hk3 dX1_property_47 ?_
        exact m_iret (v := M.1 i 2) (pc := 50) C hr hlk hP hS dX1_property_50 h
      · replace h := h.2 n1_2
        by_cases n1_3 : p1 = 3
        · replace h := h.1 n1_3
          refine m_case (v := 3) (off := 50) (tgt := 51) (pc := 1) hx hb n1_3 dX1_property_1 (by decide) (by decide) (by decide) (by decide) ?_
          refine lv_aload_n (pc := 51) hx hb dX1_property_51 rfl (lv_at hl 0 rfl) ?_
          obtain ⟨hk4, h⟩ := h
          refine gX1_21 (pc := 52) C hK hP hk4 dX1_property_52 ?_
          exact m_iret (v := M.1 i 3) (pc := 55) C hr hlk hP hS dX1_property_55 h
        · replace h := h.2 n1_3
          by_cases n1_4 : p1 = 4
          · replace h := h.1 n1_4
            refine m_case (v := 4) (off := 55) (tgt := 56) (pc := 1) hx hb n1_4 dX1_property_1 (by decide) (by decide) (by decide) (by decide) ?_
            refine lv_aload_n (pc := 56) hx hb dX1_property_56 rfl (lv_at hl 0 rfl) ?_
            obtain ⟨hk5, h⟩ := h
            refine gX1_24 (pc := 57) C hK hP hk5 dX1_property_57 ?_
            exact m_iret (v := M.1 i 4) (pc := 60) C hr hlk hP hS dX1_property_60 h
          · replace h := h.2 n1_4
            refine lv_tableOut (tgt := 61) (pc := 1) hx hb dX1_property_1 (by have i0 := i_ne n1_0; have i1 := i_ne n1_1; have i2 := i_ne n1_2; have i3 := i_ne n1_3; have i4 := i_ne n1_4; simp only [m_lit] at *; omega) (by decide) ?_
            refine lv_aload_n (pc := 61) hx hb dX1_property_61 rfl (lv_at hl 0 rfl) ?_
            obtain ⟨hk6, h⟩ := h
            refine gX1_27 (pc := 62) C hK hP hk6 dX1_property_62 ?_
            exact m_iret (v := M.1 i 5) (pc := 65) C hr hlk hP hS dX1_property_65 h
/-! ForgeHeats$Heat.copyFrom (LForgeHeats$Heat;)V -/
def wp_X2_copyFrom (n : Nat) (M : Mem) (i : Nat) (p1 : Nat) (P : Mem → Prop) : Prop := m_tp n p1 2 ∧ (m_tp n i 2 ∧ (∀ M3 : Mem, M3 = uI M i 0 (M.1 p1 0) → (∀ M4 : Mem, M4 = uI M3 i 1 (M3.1 p1 1) → (∀ M5 : Mem, M5 = uI M4 i 2 (M4.1 p1 2) → (∀ M6 : Mem, M6 = uI M5 i 3 (M5.1 p1 3) → (∀ M7 : Mem, M7 = uI M6 i 4 (M6.1 p1 4) → (P M7)))))))
abbrev rm_X2_copyFrom : Room := { frames := 0, cells := 0, slots := 0, locals := 0 }
set_option maxHeartbeats 4000000 in
set_option maxRecDepth 100000 in
theorem c_X2_copyFrom {l : Launch} {D : va_G} {cA : Nat → ClassId} {b n : Nat} {M : Mem} {i : Nat} {p1 : Nat} {P : Mem → Prop} (h : wp_X2_copyFrom n M i p1 P) : m_C l D cA b n n M yX2_copyFrom cX2_copyFrom 2 none rm_X2_copyFrom 0 0 [.ref (b + i), .ref (b + p1)] (rV P) := by
  refine m_enter (by decide) (Nat.le_of_ble_eq_true rfl) (fun p e s m below meth c C hr hlk hnm hK hP hS ls hl => ?_)
  have hx := C.1
  have hb := C.2.1
  have hl : lv_has ls 2 [(0, .ref (b + i)), (1, .ref (b + p1))] := hl
  unfold wp_X2_copyFrom at h
  refine lv_aload_n (pc := 0) hx hb dX2_copyFrom_0 rfl (lv_at hl 0 rfl) ?_
  refine lv_aload_n (pc := 1) hx hb dX2_copyFrom_1 rfl (lv_at hl 1 rfl) ?_
  obtain ⟨hk1, h⟩ := h
  refine gX2_16 (pc := 2) C hK hP hk1 dX2_copyFrom_2 ?_
  obtain ⟨hk2, h⟩ := h
  refine pX2_16 (pc := 5) (v := M.1 p1 0) C hK hP hS hk2 dX2_copyFrom_5 (fun M3 H locs eM3 hP hS => ?_)
  replace h := h M3 eM3
  refine lv_aload_n (pc := 8) hx hb dX2_copyFrom_8 rfl (lv_at hl 0 rfl) ?_
  refine lv_aload_n (pc := 9) hx hb dX2_copyFrom_9 rfl (lv_at hl 1 rfl) ?_
  refine gX2_7 (pc := 10) C hK hP hk1 dX2_copyFrom_10 ?_
  refine pX2_7 (pc := 13) (v := M3.1 p1 1) C hK hP hS hk2 dX2_copyFrom_13 (fun M4 H locs eM4 hP hS => ?_)
  replace h := h M4 eM4
  refine lv_aload_n (pc := 16) hx hb dX2_copyFrom_16 rfl (lv_at hl 0 rfl) ?_
  refine lv_aload_n (pc := 17) hx hb dX2_copyFrom_17 rfl (lv_at hl 1 rfl) ?_
  refine gX2_13 (pc := 18) C hK hP hk1 dX2_copyFrom_18 ?_
  refine pX2_13 (pc := 21) (v := M4.1 p1 2) C hK hP hS hk2 dX2_copyFrom_21 (fun M5 H locs eM5 hP hS => ?_)
  replace h := h M5 eM5
  refine lv_aload_n (pc := 24) hx hb dX2_copyFrom_24 rfl (lv_at hl 0 rfl) ?_
  refine lv_aload_n (pc := 25) hx hb dX2_copyFrom_25 rfl (lv_at hl 1 rfl) ?_
  refine gX2_19 (pc := 26) C hK hP hk1 dX2_copyFrom_26 ?_
  refine pX2_19 (pc := 29) (v := M5.1 p1 3) C hK hP hS hk2 dX2_copyFrom_29 (fun M6 H locs eM6 hP hS => ?_)
  replace h := h M6 eM6
  refine lv_aload_n (pc := 32) hx hb dX2_copyFrom_32 rfl (lv_at hl 0 rfl) ?_
  refine lv_aload_n (pc := 33) hx hb dX2_copyFrom_33 rfl (lv_at hl 1 rfl) ?_
  refine gX2_22 (pc := 34) C hK hP hk1 dX2_copyFrom_34 ?_
  refine pX2_22 (pc := 37) (v := M6.1 p1 4) C hK hP hS hk2 dX2_copyFrom_37 (fun M7 H locs eM7 hP hS => ?_)
  replace h := h M7 eM7
  exact m_vret (pc := 40) C hr hlk hP hS dX2_copyFrom_40 h
/-! ForgeHeats$Job.copyFrom (LForgeHeats$Job;)V -/
def wp_X3_copyFrom (n : Nat) (M : Mem) (i : Nat) (p1 : Nat) (P : Mem → Prop) : Prop := m_tp n p1 3 ∧ (m_tp n i 3 ∧ (∀ M3 : Mem, M3 = uI M i 0 (M.1 p1 0) → (∀ M4 : Mem, M4 = uI M3 i 1 (M3.1 p1 1) → (∀ M5 : Mem, M5 = uI M4 i 2 (M4.1 p1 2) → (∀ M6 : Mem, M6 = uI M5 i 3 (M5.1 p1 3) → (∀ M7 : Mem, M7 = uI M6 i 4 (M6.1 p1 4) → (∀ M8 : Mem, M8 = uI M7 i 5 (M7.1 p1 5) → (∀ M9 : Mem, M9 = uI M8 i 6 (bI (M8.1 p1 6 != 0)) → (∀ M10 : Mem, M10 = uI M9 i 7 (M9.1 p1 7) → (P M10))))))))))
abbrev rm_X3_copyFrom : Room := { frames := 0, cells := 0, slots := 0, locals := 0 }
set_option maxHeartbeats 4000000 in
set_option maxRecDepth 100000 in
theorem c_X3_copyFrom {l : Launch} {D : va_G} {cA : Nat → ClassId} {b n : Nat} {M : Mem} {i : Nat} {p1 : Nat} {P : Mem → Prop} (h : wp_X3_copyFrom n M i p1 P) : m_C l D cA b n n M yX3_copyFrom cX3_copyFrom 2 none rm_X3_copyFrom 0 0 [.ref (b + i), .ref (b + p1)] (rV P) := by
  refine m_enter (by decide) (Nat.le_of_ble_eq_true rfl) (fun p e s m below meth c C hr hlk hnm hK hP hS ls hl => ?_)
  have hx := C.1
  have hb := C.2.1
  have hl : lv_has ls 2 [(0, .ref (b + i)), (1, .ref (b + p1))] := hl
  unfold wp_X3_copyFrom at h
  refine lv_aload_n (pc := 0) hx hb dX3_copyFrom_0 rfl (lv_at hl 0 rfl) ?_
  refine lv_aload_n (pc := 1) hx hb dX3_copyFrom_1 rfl (lv_at hl 1 rfl) ?_
  obtain ⟨hk1, h⟩ := h
  refine gX3_7 (pc := 2) C hK hP hk1 dX3_copyFrom_2 ?_
  obtain ⟨hk2, h⟩ := h
  refine pX3_7 (pc := 5) (v := M.1 p1 0) C hK hP hS hk2 dX3_copyFrom_5 (fun M3 H locs eM3 hP hS => ?_)
  replace h := h M3 eM3
  refine lv_aload_n (pc := 8) hx hb dX3_copyFrom_8 rfl (lv_at hl 0 rfl) ?_
  refine lv_aload_n (pc := 9) hx hb dX3_copyFrom_9 rfl (lv_at hl 1 rfl) ?_
  refine gX3_13 (pc := 10) C hK hP hk1 dX3_copyFrom_10 ?_
  refine pX3_13 (pc := 13) (v := M3.1 p1 1) C hK hP hS hk2 dX3_copyFrom_13 (fun M4 H locs eM4 hP hS => ?_)
  replace h := h M4 eM4
  refine lv_aload_n (pc := 16) hx hb dX3_copyFrom_16 rfl (lv_at hl 0 rfl) ?_
  refine lv_aload_n (pc := 17) hx hb dX3_copyFrom_17 rfl (lv_at hl 1 rfl) ?_
  refine gX3_16 (pc := 18) C hK hP hk1 dX3_copyFrom_18 ?_
  refine pX3_16 (pc := 21) (v := M4.1 p1 2) C hK hP hS hk2 dX3_copyFrom_21 (fun M5 H locs eM5 hP hS => ?_)
  replace h := h M5 eM5
  refine lv_aload_n (pc := 24) hx hb dX3_copyFrom_24 rfl (lv_at hl 0 rfl) ?_
  refine lv_aload_n (pc := 25) hx hb dX3_copyFrom_25 rfl (lv_at hl 1 rfl) ?_
  refine gX3_19 (pc := 26) C hK hP hk1 dX3_copyFrom_26 ?_
  refine pX3_19 (pc := 29) (v := M5.1 p1 3) C hK hP hS hk2 dX3_copyFrom_29 (fun M6 H locs eM6 hP hS => ?_)
  replace h := h M6 eM6
  refine lv_aload_n (pc := 32) hx hb dX3_copyFrom_32 rfl (lv_at hl 0 rfl) ?_
  refine lv_aload_n (pc := 33) hx hb dX3_copyFrom_33 rfl (lv_at hl 1 rfl) ?_
  refine gX3_22 (pc := 34) C hK hP hk1 dX3_copyFrom_34 ?_
  refine pX3_22 (pc := 37) (v := M6.1 p1 4) C hK hP hS hk2 dX3_copyFrom_37 (fun M7 H locs eM7 hP hS => ?_)
  replace h := h M7 eM7
  refine lv_aload_n (pc := 40) hx hb dX3_copyFrom_40 rfl (lv_at hl 0 rfl) ?_
  refine lv_aload_n (pc := 41) hx hb dX3_copyFrom_41 rfl (lv_at hl 1 rfl) ?_
  refine gX3_25 (pc := 42) C hK hP hk1 dX3_copyFrom_42 ?_
  refine pX3_25 (pc := 45) (v := M7.1 p1 5) C hK hP hS hk2 dX3_copyFrom_45 (fun M8 H locs eM8 hP hS => ?_)
  replace h := h M8 eM8
  refine lv_aload_n (pc := 48) hx hb dX3_copyFrom_48 rfl (lv_at hl 0 rfl) ?_
  refine lv_aload_n (pc := 49) hx hb dX3_copyFrom_49 rfl (lv_at hl 1 rfl) ?_
  refine gX3_28 (pc := 50) C hK hP hk1 dX3_copyFrom_50 ?_
  refine pX3_28 (pc := 53) (z := M8.1 p1 6 != 0) C hK hP hS hk2 dX3_copyFrom_53 (fun M9 H locs eM9 hP hS => ?_)
  replace h := h M9 eM9
  refine lv_aload_n (pc := 56) hx hb dX3_copyFrom_56 rfl (lv_at hl 0 rfl) ?_
  refine lv_aload_n (pc := 57) hx hb dX3_copyFrom_57 rfl (lv_at hl 1 rfl) ?_
  refine gX3_32 (pc := 58) C hK hP hk1 dX3_copyFrom_58 ?_
  refine pX3_32 (pc := 61) (v := M9.1 p1 7) C hK hP hS hk2 dX3_copyFrom_61 (fun M10 H locs eM10 hP hS => ?_)
  replace h := h M10 eM10
  exact m_vret (pc := 64) C hr hlk hP hS dX3_copyFrom_64 h
/-! ForgeHeats$Job.comesBefore (LForgeHeats$Job;)Z -/
def wp_X3_comesBefore (n : Nat) (M : Mem) (i : Nat) (p1 : Nat) (P : Bool → Mem → Prop) : Prop := m_tp n i 3 ∧ (m_tp n p1 3 ∧ ((((bI (M.1 i 6 != 0)) = (bI (M.1 p1 6 != 0)) → (((M.1 i 5) = (M.1 p1 5) → P (if (M.1 p1 0) ≤ (M.1 i 0) then false else true) M) ∧ (¬ (M.1 i 5) = (M.1 p1 5) → P (if (M.1 p1 5) ≤ (M.1 i 5) then false else true) M))) ∧ (¬ (bI (M.1 i 6 != 0)) = (bI (M.1 p1 6 != 0)) → P (M.1 i 6 != 0) M))))
abbrev rm_X3_comesBefore : Room := { frames := 0, cells := 0, slots := 0, locals := 0 }
set_option maxHeartbeats 4000000 in
set_option maxRecDepth 100000 in
theorem c_X3_comesBefore {l : Launch} {D : va_G} {cA : Nat → ClassId} {b n : Nat} {M : Mem} {i : Nat} {p1 : Nat} {P : Bool → Mem → Prop} (h : wp_X3_comesBefore n M i p1 P) : m_C l D cA b n n M yX3_comesBefore cX3_comesBefore 2 (some .boolean) rm_X3_comesBefore 0 0 [.ref (b + i), .ref (b + p1)] (rZ P) := by
  refine m_enter (by decide) (Nat.le_of_ble_eq_true rfl) (fun p e s m below meth c C hr hlk hnm hK hP hS ls hl => ?_)
  have hx := C.1
  have hb := C.2.1
  have hl : lv_has ls 2 [(0, .ref (b + i)), (1, .ref (b + p1))] := hl
  unfold wp_X3_comesBefore at h
  refine lv_aload_n (pc := 0) hx hb dX3_comesBefore_0 rfl (lv_at hl 0 rfl) ?_
  obtain ⟨hk1, h⟩ := h
  refine gX3_28 (pc := 1) C hK hP hk1 dX3_comesBefore_1 ?_
  refine lv_aload_n (pc := 4) hx hb dX3_comesBefore_4 rfl (lv_at hl 1 rfl) ?_
  obtain ⟨hk2, h⟩ := h
  refine gX3_28 (pc := 5) C hK hP hk2 dX3_comesBefore_5 ?_
  refine lv_icmp_eq (tgt := 16) (pc := 8) hx hb dX3_comesBefore_8 (by decide) (fun c8 => ?_) (fun c8 => ?_)
  · replace h := h.1 c8
    refine lv_aload_n (pc := 16) hx hb dX3_comesBefore_16 rfl (lv_at hl 0 rfl) ?_
    refine gX3_25 (pc := 17) C hK hP hk1 dX3_comesBefore_17 ?_
    refine lv_aload_n (pc := 20) hx hb dX3_comesBefore_20 rfl (lv_at hl 1 rfl) ?_
    refine gX3_25 (pc := 21) C hK hP hk2 dX3_comesBefore_21 ?_
    refine lv_icmp_eq (tgt := 46) (pc := 24) hx hb dX3_comesBefore_24 (by decide) (fun c24 => ?_) (fun c24 => ?_)
    · replace h := h.1 c24
      refine lv_aload_n (pc := 46) hx hb dX3_comesBefore_46 rfl (lv_at hl 0 rfl) ?_
      refine gX3_7 (pc := 47) C hK hP hk1 dX3_comesBefore_47 ?_
      refine lv_aload_n (pc := 50) hx hb dX3_comesBefore_50 rfl (lv_at hl 1 rfl) ?_
      refine gX3_7 (pc := 51) C hK hP hk2 dX3_comesBefore_51 ?_
      refine m_joinZ (z := if (M.1 p1 0) ≤ (M.1 i 0) then false else true) (jp := 62) (rest := []) ?_ (fun hJ => ?_)
      rotate_left
      · skip
        refine lv_icmp_ge (tgt := 61) (pc := 54) hx hb dX3_comesBefore_54 (by decide) (fun c54 => ?_) (fun c54 => ?_)
        · skip
          refine lv_iconst (v := 0) (pc := 61) hx hb dX3_comesBefore_61 (by decide) ?_
          exact hJ _ false rfl (by rw [if_pos c54])
        · skip
          refine lv_iconst (v := 1) (pc := 57) hx hb dX3_comesBefore_57 (by decide) ?_
          refine lv_goto (tgt := 62) (pc := 58) hx hb dX3_comesBefore_58 (by decide) ?_
          exact hJ _ true rfl (by rw [if_neg c54])
      exact m_zret (v := if (M.1 p1 0) ≤ (M.1 i 0) then false else true) (pc := 62) C hr hlk hP hS dX3_comesBefore_62 h
    · replace h := h.2 c24
      refine lv_aload_n (pc := 27) hx hb dX3_comesBefore_27 rfl (lv_at hl 0 rfl) ?_
      refine gX3_25 (pc := 28) C hK hP hk1 dX3_comesBefore_28 ?_
      refine lv_aload_n (pc := 31) hx hb dX3_comesBefore_31 rfl (lv_at hl 1 rfl) ?_
      refine gX3_25 (pc := 32) C hK hP hk2 dX3_comesBefore_32 ?_
      refine m_joinZ (z := if (M.1 p1 5) ≤ (M.1 i 5) then false else true) (jp := 62) (rest := []) ?_ (fun hJ => ?_)
      rotate_left
      · skip
        refine lv_icmp_ge (tgt := 42) (pc := 35) hx hb dX3_comesBefore_35 (by decide) (fun c35 => ?_) (fun c35 => ?_)
        · skip
          refine lv_iconst (v := 0) (pc := 42) hx hb dX3_comesBefore_42 (by decide) ?_
          refine lv_goto (tgt := 62) (pc := 43) hx hb dX3_comesBefore_43 (by decide) ?_
          exact hJ _ false rfl (by rw [if_pos c35])
        · skip
          refine lv_iconst (v := 1) (pc := 38) hx hb dX3_comesBefore_38 (by decide) ?_
          refine lv_goto (tgt := 62) (pc := 39) hx hb dX3_comesBefore_39 (by decide) ?_
          exact hJ _ true rfl (by rw [if_neg c35])
      exact m_zret (v := if (M.1 p1 5) ≤ (M.1 i 5) then false else true) (pc := 62) C hr hlk hP hS dX3_comesBefore_62 h
  · replace h := h.2 c8
    refine lv_aload_n (pc := 11) hx hb dX3_comesBefore_11 rfl (lv_at hl 0 rfl) ?_
    refine gX3_28 (pc := 12) C hK hP hk1 dX3_comesBefore_12 ?_
    exact m_zret (v := M.1 i 6 != 0) (pc := 15) C hr hlk hP hS dX3_comesBefore_15 h
/-! ForgeHeats$Job.lack ()I -/
def wp_X3_lack (n : Nat) (M : Mem) (i : Nat) (P : Int32 → Mem → Prop) : Prop := m_tp n i 3 ∧ (P (((M.1 i 3) - (M.1 i 4)) - (M.1 i 7)) M)
abbrev rm_X3_lack : Room := { frames := 0, cells := 0, slots := 0, locals := 0 }
set_option maxHeartbeats 4000000 in
set_option maxRecDepth 100000 in
theorem c_X3_lack {l : Launch} {D : va_G} {cA : Nat → ClassId} {b n : Nat} {M : Mem} {i : Nat} {P : Int32 → Mem → Prop} (h : wp_X3_lack n M i P) : m_C l D cA b n n M yX3_lack cX3_lack 1 (some .int) rm_X3_lack 0 0 [.ref (b + i)] (rI P) := by
  refine m_enter (by decide) (Nat.le_of_ble_eq_true rfl) (fun p e s m below meth c C hr hlk hnm hK hP hS ls hl => ?_)
  have hx := C.1
  have hb := C.2.1
  have hl : lv_has ls 1 [(0, .ref (b + i))] := hl
  unfold wp_X3_lack at h
  refine lv_aload_n (pc := 0) hx hb dX3_lack_0 rfl (lv_at hl 0 rfl) ?_
  obtain ⟨hk1, h⟩ := h
  refine gX3_19 (pc := 1) C hK hP hk1 dX3_lack_1 ?_
  refine lv_aload_n (pc := 4) hx hb dX3_lack_4 rfl (lv_at hl 0 rfl) ?_
  refine gX3_22 (pc := 5) C hK hP hk1 dX3_lack_5 ?_
  refine lv_isub (pc := 8) hx hb dX3_lack_8 ?_
  refine lv_aload_n (pc := 9) hx hb dX3_lack_9 rfl (lv_at hl 0 rfl) ?_
  refine gX3_32 (pc := 10) C hK hP hk1 dX3_lack_10 ?_
  refine lv_isub (pc := 13) hx hb dX3_lack_13 ?_
  exact m_iret (v := ((M.1 i 3) - (M.1 i 4)) - (M.1 i 7)) (pc := 14) C hr hlk hP hS dX3_lack_14 h
end
section
/-! ForgeHeats$Shop.copyNumbersFrom (LForgeHeats$Shop;)V -/
def wp_X5_copyNumbersFrom (n : Nat) (M : Mem) (i : Nat) (p1 : Nat) (P : Mem → Prop) : Prop := m_tp n p1 5 ∧ (m_tp n i 5 ∧ (∀ M3 : Mem, M3 = uI M i 5 (M.1 p1 5) → (∀ M4 : Mem, M4 = uI M3 i 6 (M3.1 p1 6) → (∀ M5 : Mem, M5 = uI M4 i 7 (M4.1 p1 7) → (∀ M6 : Mem, M6 = uI M5 i 8 (M5.1 p1 8) → (∀ M7 : Mem, M7 = uI M6 i 9 (M6.1 p1 9) → (∀ M8 : Mem, M8 = uI M7 i 10 (M7.1 p1 10) → (∀ M9 : Mem, M9 = uI M8 i 11 (M8.1 p1 11) → (∀ M10 : Mem, M10 = uI M9 i 12 (M9.1 p1 12) → (∀ M11 : Mem, M11 = uI M10 i 13 (M10.1 p1 13) → (∀ M12 : Mem, M12 = uI M11 i 14 (M11.1 p1 14) → (∀ M13 : Mem, M13 = uI M12 i 15 (M12.1 p1 15) → (P M13)))))))))))))
abbrev rm_X5_copyNumbersFrom : Room := { frames := 0, cells := 0, slots := 0, locals := 0 }
set_option maxHeartbeats 4000000 in
set_option maxRecDepth 100000 in
theorem c_X5_copyNumbersFrom {l : Launch} {D : va_G} {cA : Nat → ClassId} {b n : Nat} {M : Mem} {i : Nat} {p1 : Nat} {P : Mem → Prop} (h : wp_X5_copyNumbersFrom n M i p1 P) : m_C l D cA b n n M yX5_copyNumbersFrom cX5_copyNumbersFrom 2 none rm_X5_copyNumbersFrom 0 0 [.ref (b + i), .ref (b + p1)] (rV P) := by
  refine m_enter (by decide) (Nat.le_of_ble_eq_true rfl) (fun p e s m below meth c C hr hlk hnm hK hP hS ls hl => ?_)
  have hx := C.1
  have hb := C.2.1
  have hl : lv_has ls 2 [(0, .ref (b + i)), (1, .ref (b + p1))] := hl
  unfold wp_X5_copyNumbersFrom at h
  refine lv_aload_n (pc := 0) hx hb dX5_copyNumbersFrom_0 rfl (lv_at hl 0 rfl) ?_
  refine lv_aload_n (pc := 1) hx hb dX5_copyNumbersFrom_1 rfl (lv_at hl 1 rfl) ?_
  obtain ⟨hk1, h⟩ := h
  refine gX5_83 (pc := 2) C hK hP hk1 dX5_copyNumbersFrom_2 ?_
  obtain ⟨hk2, h⟩ := h
  refine pX5_83 (pc := 5) (v := M.1 p1 5) C hK hP hS hk2 dX5_copyNumbersFrom_5 (fun M3 H locs eM3 hP hS => ?_)
  replace h := h M3 eM3
  refine lv_aload_n (pc := 8) hx hb dX5_copyNumbersFrom_8 rfl (lv_at hl 0 rfl) ?_
  refine lv_aload_n (pc := 9) hx hb dX5_copyNumbersFrom_9 rfl (lv_at hl 1 rfl) ?_
  refine gX5_104 (pc := 10) C hK hP hk1 dX5_copyNumbersFrom_10 ?_
  refine pX5_104 (pc := 13) (v := M3.1 p1 6) C hK hP hS hk2 dX5_copyNumbersFrom_13 (fun M4 H locs eM4 hP hS => ?_)
  replace h := h M4 eM4
  refine lv_aload_n (pc := 16) hx hb dX5_copyNumbersFrom_16 rfl (lv_at hl 0 rfl) ?_
  refine lv_aload_n (pc := 17) hx hb dX5_copyNumbersFrom_17 rfl (lv_at hl 1 rfl) ?_
  refine gX5_9 (pc := 18) C hK hP hk1 dX5_copyNumbersFrom_18 ?_
  refine pX5_9 (pc := 21) (v := M4.1 p1 7) C hK hP hS hk2 dX5_copyNumbersFrom_21 (fun M5 H locs eM5 hP hS => ?_)
  replace h := h M5 eM5
  refine lv_aload_n (pc := 24) hx hb dX5_copyNumbersFrom_24 rfl (lv_at hl 0 rfl) ?_
  refine lv_aload_n (pc := 25) hx hb dX5_copyNumbersFrom_25 rfl (lv_at hl 1 rfl) ?_
  refine gX5_15 (pc := 26) C hK hP hk1 dX5_copyNumbersFrom_26 ?_
  refine pX5_15 (pc := 29) (v := M5.1 p1 8) C hK hP hS hk2 dX5_copyNumbersFrom_29 (fun M6 H locs eM6 hP hS => ?_)
  replace h := h M6 eM6
  refine lv_aload_n (pc := 32) hx hb dX5_copyNumbersFrom_32 rfl (lv_at hl 0 rfl) ?_
  refine lv_aload_n (pc := 33) hx hb dX5_copyNumbersFrom_33 rfl (lv_at hl 1 rfl) ?_
  refine gX5_18 (pc := 34) C hK hP hk1 dX5_copyNumbersFrom_34 ?_
  refine pX5_18 (pc := 37) (v := M6.1 p1 9) C hK hP hS hk2 dX5_copyNumbersFrom_37 (fun M7 H locs eM7 hP hS => ?_)
  replace h := h M7 eM7
  refine lv_aload_n (pc := 40) hx hb dX5_copyNumbersFrom_40 rfl (lv_at hl 0 rfl) ?_
  refine lv_aload_n (pc := 41) hx hb dX5_copyNumbersFrom_41 rfl (lv_at hl 1 rfl) ?_
  refine gX5_21 (pc := 42) C hK hP hk1 dX5_copyNumbersFrom_42 ?_
  refine pX5_21 (pc := 45) (v := M7.1 p1 10) C hK hP hS hk2 dX5_copyNumbersFrom_45 (fun M8 H locs eM8 hP hS => ?_)
  replace h := h M8 eM8
  refine lv_aload_n (pc := 48) hx hb dX5_copyNumbersFrom_48 rfl (lv_at hl 0 rfl) ?_
  refine lv_aload_n (pc := 49) hx hb dX5_copyNumbersFrom_49 rfl (lv_at hl 1 rfl) ?_
  refine gX5_107 (pc := 50) C hK hP hk1 dX5_copyNumbersFrom_50 ?_
  refine pX5_107 (pc := 53) (v := M8.1 p1 11) C hK hP hS hk2 dX5_copyNumbersFrom_53 (fun M9 H locs eM9 hP hS => ?_)
  replace h := h M9 eM9
  refine lv_aload_n (pc := 56) hx hb dX5_copyNumbersFrom_56 rfl (lv_at hl 0 rfl) ?_
  refine lv_aload_n (pc := 57) hx hb dX5_copyNumbersFrom_57 rfl (lv_at hl 1 rfl) ?_
  refine gX5_110 (pc := 58) C hK hP hk1 dX5_copyNumbersFrom_58 ?_
  refine pX5_110 (pc := 61) (v := M9.1 p1 12) C hK hP hS hk2 dX5_copyNumbersFrom_61 (fun M10 H locs eM10 hP hS => ?_)
  replace h := h M10 eM10
  refine lv_aload_n (pc := 64) hx hb dX5_copyNumbersFrom_64 rfl (lv_at hl 0 rfl) ?_
  refine lv_aload_n (pc := 65) hx hb dX5_copyNumbersFrom_65 rfl (lv_at hl 1 rfl) ?_
  refine gX5_113 (pc := 66) C hK hP hk1 dX5_copyNumbersFrom_66 ?_
  refine pX5_113 (pc := 69) (v := M10.1 p1 13) C hK hP hS hk2 dX5_copyNumbersFrom_69 (fun M11 H locs eM11 hP hS => ?_)
  replace h := h M11 eM11
  refine lv_aload_n (pc := 72) hx hb dX5_copyNumbersFrom_72 rfl (lv_at hl 0 rfl) ?_
  refine lv_aload_n (pc := 73) hx hb dX5_copyNumbersFrom_73 rfl (lv_at hl 1 rfl) ?_
  refine gX5_116 (pc := 74) C hK hP hk1 dX5_copyNumbersFrom_74 ?_
  refine pX5_116 (pc := 77) (v := M11.1 p1 14) C hK hP hS hk2 dX5_copyNumbersFrom_77 (fun M12 H locs eM12 hP hS => ?_)
  replace h := h M12 eM12
  refine lv_aload_n (pc := 80) hx hb dX5_copyNumbersFrom_80 rfl (lv_at hl 0 rfl) ?_
  refine lv_aload_n (pc := 81) hx hb dX5_copyNumbersFrom_81 rfl (lv_at hl 1 rfl) ?_
  refine gX5_119 (pc := 82) C hK hP hk1 dX5_copyNumbersFrom_82 ?_
  refine pX5_119 (pc := 85) (v := M12.1 p1 15) C hK hP hS hk2 dX5_copyNumbersFrom_85 (fun M13 H locs eM13 hP hS => ?_)
  replace h := h M13 eM13
  exact m_vret (pc := 88) C hr hlk hP hS dX5_copyNumbersFrom_88 h
/-! ForgeHeats$Shop.heatAt (I)LForgeHeats$Heat; -/
def wp_X5_heatAt (n : Nat) (M : Mem) (i : Nat) (p1 : Int32) (P : Nat → Mem → Prop) : Prop := ((p1 < 0 → m_tp n i 5 ∧ (∃ j2 : Nat, M.2.1 i 16 = some j2 ∧ (P j2 M))) ∧ (¬ p1 < 0 → m_tp n i 5 ∧ (∃ j4 : Nat, M.2.1 i 0 = some j4 ∧ (m_tp n j4 13 ∧ ((((nI (m_len j4)) ≤ p1 → ∃ j6 : Nat, M.2.1 i 16 = some j6 ∧ (P j6 M)) ∧ (¬ (nI (m_len j4)) ≤ p1 → ∃ j7 : Nat, M.2.1 i 0 = some j7 ∧ (m_tp n j7 13 ∧ (vp_in p1 (m_len j7) ∧ (∃ j10 : Nat, M.2.1 j7 p1.toNatClampNeg = some j10 ∧ (P j10 M)))))))))))
abbrev rm_X5_heatAt : Room := { frames := 0, cells := 0, slots := 0, locals := 0 }
set_option maxHeartbeats 4000000 in
set_option maxRecDepth 100000 in
theorem c_X5_heatAt {l : Launch} {D : va_G} {cA : Nat → ClassId} {b n : Nat} {M : Mem} {i : Nat} {p1 : Int32} {P : Nat → Mem → Prop} (h : wp_X5_heatAt n M i p1 P) : m_C l D cA b n n M yX5_heatAt cX5_heatAt 3 (some (.object "ForgeHeats$Heat")) rm_X5_heatAt 0 0 [.ref (b + i), .int p1] (rR b P) := by
  refine m_enter (by decide) (Nat.le_of_ble_eq_true rfl) (fun p e s m below meth c C hr hlk hnm hK hP hS ls hl => ?_)
  have hx := C.1
  have hb := C.2.1
  have hl : lv_has ls 3 [(0, .ref (b + i)), (1, .int p1)] := hl
  unfold wp_X5_heatAt at h
  refine lv_iload_n (pc := 0) hx hb dX5_heatAt_0 rfl (lv_at hl 1 rfl) ?_
  refine lv_if_lt (tgt := 22) (pc := 1) hx hb dX5_heatAt_1 (by decide) (fun c1 => ?_) (fun c1 => ?_)
  · replace h := h.1 c1
    refine lv_null (pc := 22) hx hb dX5_heatAt_22 ?_
    refine lv_astore_nN (lv' := [(2, .null), (0, .ref (b + i)), (1, .int p1)]) (pc := 23) hx hb dX5_heatAt_23 rfl hl (by decide) rfl (fun ls hl => ?_)
    refine lv_aload_nN (pc := 24) hx hb dX5_heatAt_24 rfl (lv_at hl 0 rfl) ?_
    refine lv_ifnullN (tgt := 32) (pc := 25) hx hb dX5_heatAt_25 (by decide) ?_
    refine lv_aload_n (pc := 32) hx hb dX5_heatAt_32 rfl (lv_at hl 1 rfl) ?_
    obtain ⟨hk1, h⟩ := h
    obtain ⟨j2, hj2, h⟩ := h
    refine gX5_56 (pc := 33) C hK hP hk1 hj2 dX5_heatAt_33 ?_
    exact m_rret (v := j2) (pc := 36) C hr hlk hP hS dX5_heatAt_36 h
  · replace h := h.2 c1
    refine lv_iload_n (pc := 4) hx hb dX5_heatAt_4 rfl (lv_at hl 1 rfl) ?_
    refine lv_aload_n (pc := 5) hx hb dX5_heatAt_5 rfl (lv_at hl 0 rfl) ?_
    obtain ⟨hk3, h⟩ := h
    obtain ⟨j4, hj4, h⟩ := h
    refine gX5_26 (pc := 6) C hK hP hk3 hj4 dX5_heatAt_6 ?_
    obtain ⟨hk5, h⟩ := h
    refine m_alen (pc := 9) (κ := 13) C hK hP hk5 (by decide) rfl dX5_heatAt_9 ?_
    refine lv_icmp_ge (tgt := 22) (pc := 10) hx hb dX5_heatAt_10 (by decide) (fun c10 => ?_) (fun c10 => ?_)
    · replace h := h.1 c10
      refine lv_null (pc := 22) hx hb dX5_heatAt_22 ?_
      refine lv_astore_nN (lv' := [(2, .null), (0, .ref (b + i)), (1, .int p1)]) (pc := 23) hx hb dX5_heatAt_23 rfl hl (by decide) rfl (fun ls hl => ?_)
      refine lv_aload_nN (pc := 24) hx hb dX5_heatAt_24 rfl (lv_at hl 0 rfl) ?_
      refine lv_ifnullN (tgt := 32) (pc := 25) hx hb dX5_heatAt_25 (by decide) ?_
      refine lv_aload_n (pc := 32) hx hb dX5_heatAt_32 rfl (lv_at hl 1 rfl) ?_
      obtain ⟨j6, hj6, h⟩ := h
      refine gX5_56 (pc := 33) C hK hP hk3 hj6 dX5_heatAt_33 ?_
      exact m_rret (v := j6) (pc := 36) C hr hlk hP hS dX5_heatAt_36 h
    · replace h := h.2 c10
      refine lv_aload_n (pc := 13) hx hb dX5_heatAt_13 rfl (lv_at hl 0 rfl) ?_
      obtain ⟨j7, hj7, h⟩ := h
      refine gX5_26 (pc := 14) C hK hP hk3 hj7 dX5_heatAt_14 ?_
      refine lv_iload_n (pc := 17) hx hb dX5_heatAt_17 rfl (lv_at hl 1 rfl) ?_
      obtain ⟨hk8, h⟩ := h
      obtain ⟨hi9, h⟩ := h
      obtain ⟨j10, hj10, h⟩ := h
      refine m_aldq (pc := 18) (κ := 13) C hK hP hk8 (by decide) rfl hi9 hj10 dX5_heatAt_18 ?_
      refine lv_goto (tgt := 23) (pc := 19) hx hb dX5_heatAt_19 (by decide) ?_
      refine lv_astore_n (lv' := [(2, .ref (b + j10)), (0, .ref (b + i)), (1, .int p1)]) (pc := 23) hx hb dX5_heatAt_23 rfl hl (by decide) rfl (fun ls hl => ?_)
      refine lv_aload_n (pc := 24) hx hb dX5_heatAt_24 rfl (lv_at hl 0 rfl) ?_
      refine lv_ifnull (pc := 25) hx hb dX5_heatAt_25 ?_
      refine lv_aload_n (pc := 28) hx hb dX5_heatAt_28 rfl (lv_at hl 0 rfl) ?_
      refine lv_goto (tgt := 36) (pc := 29) hx hb dX5_heatAt_29 (by decide) ?_
      exact m_rret (v := j10) (pc := 36) C hr hlk hP hS dX5_heatAt_36 h
/-! ForgeHeats$Shop.dieAt (I)LForgeHeats$Die; -/
def wp_X5_dieAt (n : Nat) (M : Mem) (i : Nat) (p1 : Int32) (P : Nat → Mem → Prop) : Prop := ((p1 < 0 → m_tp n i 5 ∧ (∃ j2 : Nat, M.2.1 i 17 = some j2 ∧ (P j2 M))) ∧ (¬ p1 < 0 → m_tp n i 5 ∧ (∃ j4 : Nat, M.2.1 i 1 = some j4 ∧ (m_tp n j4 12 ∧ ((((nI (m_len j4)) ≤ p1 → ∃ j6 : Nat, M.2.1 i 17 = some j6 ∧ (P j6 M)) ∧ (¬ (nI (m_len j4)) ≤ p1 → ∃ j7 : Nat, M.2.1 i 1 = some j7 ∧ (m_tp n j7 12 ∧ (vp_in p1 (m_len j7) ∧ (∃ j10 : Nat, M.2.1 j7 p1.toNatClampNeg = some j10 ∧ (P j10 M)))))))))))
abbrev rm_X5_dieAt : Room := { frames := 0, cells := 0, slots := 0, locals := 0 }
set_option maxHeartbeats 4000000 in
set_option maxRecDepth 100000 in
theorem c_X5_dieAt {l : Launch} {D : va_G} {cA : Nat → ClassId} {b n : Nat} {M : Mem} {i : Nat} {p1 : Int32} {P : Nat → Mem → Prop} (h : wp_X5_dieAt n M i p1 P) : m_C l D cA b n n M yX5_dieAt cX5_dieAt 3 (some (.object "ForgeHeats$Die")) rm_X5_dieAt 0 0 [.ref (b + i), .int p1] (rR b P) := by
  refine m_enter (by decide) (Nat.le_of_ble_eq_true rfl) (fun p e s m below meth c C hr hlk hnm hK hP hS ls hl => ?_)
  have hx := C.1
  have hb := C.2.1
  have hl : lv_has ls 3 [(0, .ref (b + i)), (1, .int p1)] := hl
  unfold wp_X5_dieAt at h
  refine lv_iload_n (pc := 0) hx hb dX5_dieAt_0 rfl (lv_at hl 1 rfl) ?_
  refine lv_if_lt (tgt := 22) (pc := 1) hx hb dX5_dieAt_1 (by decide) (fun c1 => ?_) (fun c1 => ?_)
  · replace h := h.1 c1
    refine lv_null (pc := 22) hx hb dX5_dieAt_22 ?_
    refine lv_astore_nN (lv' := [(2, .null), (0, .ref (b + i)), (1, .int p1)]) (pc := 23) hx hb dX5_dieAt_23 rfl hl (by decide) rfl (fun ls hl => ?_)
    refine lv_aload_nN (pc := 24) hx hb dX5_dieAt_24 rfl (lv_at hl 0 rfl) ?_
    refine lv_ifnullN (tgt := 32) (pc := 25) hx hb dX5_dieAt_25 (by decide) ?_
    refine lv_aload_n (pc := 32) hx hb dX5_dieAt_32 rfl (lv_at hl 1 rfl) ?_
    obtain ⟨hk1, h⟩ := h
    obtain ⟨j2, hj2, h⟩ := h
    refine gX5_60 (pc := 33) C hK hP hk1 hj2 dX5_dieAt_33 ?_
    exact m_rret (v := j2) (pc := 36) C hr hlk hP hS dX5_dieAt_36 h
  · replace h := h.2 c1
    refine lv_iload_n (pc := 4) hx hb dX5_dieAt_4 rfl (lv_at hl 1 rfl) ?_
    refine lv_aload_n (pc := 5) hx hb dX5_dieAt_5 rfl (lv_at hl 0 rfl) ?_
    obtain ⟨hk3, h⟩ := h
    obtain ⟨j4, hj4, h⟩ := h
    refine gX5_33 (pc := 6) C hK hP hk3 hj4 dX5_dieAt_6 ?_
    obtain ⟨hk5, h⟩ := h
    refine m_alen (pc := 9) (κ := 12) C hK hP hk5 (by decide) rfl dX5_dieAt_9 ?_
    refine lv_icmp_ge (tgt := 22) (pc := 10) hx hb dX5_dieAt_10 (by decide) (fun c10 => ?_) (fun c10 => ?_)
    · replace h := h.1 c10
      refine lv_null (pc := 22) hx hb dX5_dieAt_22 ?_
      refine lv_astore_nN (lv' := [(2, .null), (0, .ref (b + i)), (1, .int p1)]) (pc := 23) hx hb dX5_dieAt_23 rfl hl (by decide) rfl (fun ls hl => ?_)
      refine lv_aload_nN (pc := 24) hx hb dX5_dieAt_24 rfl (lv_at hl 0 rfl) ?_
      refine lv_ifnullN (tgt := 32) (pc := 25) hx hb dX5_dieAt_25 (by decide) ?_
      refine lv_aload_n (pc := 32) hx hb dX5_dieAt_32 rfl (lv_at hl 1 rfl) ?_
      obtain ⟨j6, hj6, h⟩ := h
      refine gX5_60 (pc := 33) C hK hP hk3 hj6 dX5_dieAt_33 ?_
      exact m_rret (v := j6) (pc := 36) C hr hlk hP hS dX5_dieAt_36 h
    · replace h := h.2 c10
      refine lv_aload_n (pc := 13) hx hb dX5_dieAt_13 rfl (lv_at hl 0 rfl) ?_
      obtain ⟨j7, hj7, h⟩ := h
      refine gX5_33 (pc := 14) C hK hP hk3 hj7 dX5_dieAt_14 ?_
      refine lv_iload_n (pc := 17) hx hb dX5_dieAt_17 rfl (lv_at hl 1 rfl) ?_
      obtain ⟨hk8, h⟩ := h
      obtain ⟨hi9, h⟩ := h
      obtain ⟨j10, hj10, h⟩ := h
      refine m_aldq (pc := 18) (κ := 12) C hK hP hk8 (by decide) rfl hi9 hj10 dX5_dieAt_18 ?_
      refine lv_goto (tgt := 23) (pc := 19) hx hb dX5_dieAt_19 (by decide) ?_
      refine lv_astore_n (lv' := [(2, .ref (b + j10)), (0, .ref (b + i)), (1, .int p1)]) (pc := 23) hx hb dX5_dieAt_23 rfl hl (by decide) rfl (fun ls hl => ?_)
      refine lv_aload_n (pc := 24) hx hb dX5_dieAt_24 rfl (lv_at hl 0 rfl) ?_
      refine lv_ifnull (pc := 25) hx hb dX5_dieAt_25 ?_
      refine lv_aload_n (pc := 28) hx hb dX5_dieAt_28 rfl (lv_at hl 0 rfl) ?_
      refine lv_goto (tgt := 36) (pc := 29) hx hb dX5_dieAt_29 (by decide) ?_
      exact m_rret (v := j10) (pc := 36) C hr hlk hP hS dX5_dieAt_36 h
/-! ForgeHeats$Shop.jobAt (I)LForgeHeats$Job; -/
def wp_X5_jobAt (n : Nat) (M : Mem) (i : Nat) (p1 : Int32) (P : Nat → Mem → Prop) : Prop := ((p1 < 0 → m_tp n i 5 ∧ (∃ j2 : Nat, M.2.1 i 18 = some j2 ∧ (P j2 M))) ∧ (¬ p1 < 0 → m_tp n i 5 ∧ (∃ j4 : Nat, M.2.1 i 2 = some j4 ∧ (m_tp n j4 14 ∧ ((((nI (m_len j4)) ≤ p1 → ∃ j6 : Nat, M.2.1 i 18 = some j6 ∧ (P j6 M)) ∧ (¬ (nI (m_len j4)) ≤ p1 → ∃ j7 : Nat, M.2.1 i 2 = some j7 ∧ (m_tp n j7 14 ∧ (vp_in p1 (m_len j7) ∧ (∃ j10 : Nat, M.2.1 j7 p1.toNatClampNeg = some j10 ∧ (P j10 M)))))))))))
abbrev rm_X5_jobAt : Room := { frames := 0, cells := 0, slots := 0, locals := 0 }
set_option maxHeartbeats 4000000 in
set_option maxRecDepth 100000 in
theorem c_X5_jobAt {l : Launch} {D : va_G} {cA : Nat → ClassId} {b n : Nat} {M : Mem} {i : Nat} {p1 : Int32} {P : Nat → Mem → Prop} (h : wp_X5_jobAt n M i p1 P) : m_C l D cA b n n M yX5_jobAt cX5_jobAt 3 (some (.object "ForgeHeats$Job")) rm_X5_jobAt 0 0 [.ref (b + i), .int p1] (rR b P) := by
  refine m_enter (by decide) (Nat.le_of_ble_eq_true rfl) (fun p e s m below meth c C hr hlk hnm hK hP hS ls hl => ?_)
  have hx := C.1
  have hb := C.2.1
  have hl : lv_has ls 3 [(0, .ref (b + i)), (1, .int p1)] := hl
  unfold wp_X5_jobAt at h
  refine lv_iload_n (pc := 0) hx hb dX5_jobAt_0 rfl (lv_at hl 1 rfl) ?_
  refine lv_if_lt (tgt := 22) (pc := 1) hx hb dX5_jobAt_1 (by decide) (fun c1 => ?_) (fun c1 => ?_)
  · replace h := h.1 c1
    refine lv_null (pc := 22) hx hb dX5_jobAt_22 ?_
    refine lv_astore_nN (lv' := [(2, .null), (0, .ref (b + i)), (1, .int p1)]) (pc := 23) hx hb dX5_jobAt_23 rfl hl (by decide) rfl (fun ls hl => ?_)
    refine lv_aload_nN (pc := 24) hx hb dX5_jobAt_24 rfl (lv_at hl 0 rfl) ?_
    refine lv_ifnullN (tgt := 32) (pc := 25) hx hb dX5_jobAt_25 (by decide) ?_
    refine lv_aload_n (pc := 32) hx hb dX5_jobAt_32 rfl (lv_at hl 1 rfl) ?_
    obtain ⟨hk1, h⟩ := h
    obtain ⟨j2, hj2, h⟩ := h
    refine gX5_64 (pc := 33) C hK hP hk1 hj2 dX5_jobAt_33 ?_
    exact m_rret (v := j2) (pc := 36) C hr hlk hP hS dX5_jobAt_36 h
  · replace h := h.2 c1
    refine lv_iload_n (pc := 4) hx hb dX5_jobAt_4 rfl (lv_at hl 1 rfl) ?_
    refine lv_aload_n (pc := 5) hx hb dX5_jobAt_5 rfl (lv_at hl 0 rfl) ?_
    obtain ⟨hk3, h⟩ := h
    obtain ⟨j4, hj4, h⟩ := h
    refine gX5_40 (pc := 6) C hK hP hk3 hj4 dX5_jobAt_6 ?_
    obtain ⟨hk5, h⟩ := h
    refine m_alen (pc := 9) (κ := 14) C hK hP hk5 (by decide) rfl dX5_jobAt_9 ?_
    refine lv_icmp_ge (tgt := 22) (pc := 10) hx hb dX5_jobAt_10 (by decide) (fun c10 => ?_) (fun c10 => ?_)
    · replace h := h.1 c10
      refine lv_null (pc := 22) hx hb dX5_jobAt_22 ?_
      refine lv_astore_nN (lv' := [(2, .null), (0, .ref (b + i)), (1, .int p1)]) (pc := 23) hx hb dX5_jobAt_23 rfl hl (by decide) rfl (fun ls hl => ?_)
      refine lv_aload_nN (pc := 24) hx hb dX5_jobAt_24 rfl (lv_at hl 0 rfl) ?_
      refine lv_ifnullN (tgt := 32) (pc := 25) hx hb dX5_jobAt_25 (by decide) ?_
      refine lv_aload_n (pc := 32) hx hb dX5_jobAt_32 rfl (lv_at hl 1 rfl) ?_
      obtain ⟨j6, hj6, h⟩ := h
      refine gX5_64 (pc := 33) C hK hP hk3 hj6 dX5_jobAt_33 ?_
      exact m_rret (v := j6) (pc := 36) C hr hlk hP hS dX5_jobAt_36 h
    · replace h := h.2 c10
      refine lv_aload_n (pc := 13) hx hb dX5_jobAt_13 rfl (lv_at hl 0 rfl) ?_
      obtain ⟨j7, hj7, h⟩ := h
      refine gX5_40 (pc := 14) C hK hP hk3 hj7 dX5_jobAt_14 ?_
      refine lv_iload_n (pc := 17) hx hb dX5_jobAt_17 rfl (lv_at hl 1 rfl) ?_
      obtain ⟨hk8, h⟩ := h
      obtain ⟨hi9, h⟩ := h
      obtain ⟨j10, hj10, h⟩ := h
      refine m_aldq (pc := 18) (κ := 14) C hK hP hk8 (by decide) rfl hi9 hj10 dX5_jobAt_18 ?_
      refine lv_goto (tgt := 23) (pc := 19) hx hb dX5_jobAt_19 (by decide) ?_
      refine lv_astore_n (lv' := [(2, .ref (b + j10)), (0, .ref (b + i)), (1, .int p1)]) (pc := 23) hx hb dX5_jobAt_23 rfl hl (by decide) rfl (fun ls hl => ?_)
      refine lv_aload_n (pc := 24) hx hb dX5_jobAt_24 rfl (lv_at hl 0 rfl) ?_
      refine lv_ifnull (pc := 25) hx hb dX5_jobAt_25 ?_
      refine lv_aload_n (pc := 28) hx hb dX5_jobAt_28 rfl (lv_at hl 0 rfl) ?_
      refine lv_goto (tgt := 36) (pc := 29) hx hb dX5_jobAt_29 (by decide) ?_
      exact m_rret (v := j10) (pc := 36) C hr hlk hP hS dX5_jobAt_36 h
/-! ForgeHeats$Shop.billetAt (I)LForgeHeats$Billet; -/
def wp_X5_billetAt (n : Nat) (M : Mem) (i : Nat) (p1 : Int32) (P : Nat → Mem → Prop) : Prop := ((p1 < 0 → m_tp n i 5 ∧ (∃ j2 : Nat, M.2.1 i 4 = some j2 ∧ (P j2 M))) ∧ (¬ p1 < 0 → m_tp n i 5 ∧ (∃ j4 : Nat, M.2.1 i 3 = some j4 ∧ (m_tp n j4 11 ∧ ((((nI (m_len j4)) ≤ p1 → ∃ j6 : Nat, M.2.1 i 4 = some j6 ∧ (P j6 M)) ∧ (¬ (nI (m_len j4)) ≤ p1 → ∃ j7 : Nat, M.2.1 i 3 = some j7 ∧ (m_tp n j7 11 ∧ (vp_in p1 (m_len j7) ∧ (∃ j10 : Nat, M.2.1 j7 p1.toNatClampNeg = some j10 ∧ (P j10 M)))))))))))
abbrev rm_X5_billetAt : Room := { frames := 0, cells := 0, slots := 0, locals := 0 }
set_option maxHeartbeats 4000000 in
set_option maxRecDepth 100000 in
theorem c_X5_billetAt {l : Launch} {D : va_G} {cA : Nat → ClassId} {b n : Nat} {M : Mem} {i : Nat} {p1 : Int32} {P : Nat → Mem → Prop} (h : wp_X5_billetAt n M i p1 P) : m_C l D cA b n n M yX5_billetAt cX5_billetAt 3 (some (.object "ForgeHeats$Billet")) rm_X5_billetAt 0 0 [.ref (b + i), .int p1] (rR b P) := by
  refine m_enter (by decide) (Nat.le_of_ble_eq_true rfl) (fun p e s m below meth c C hr hlk hnm hK hP hS ls hl => ?_)
  have hx := C.1
  have hb := C.2.1
  have hl : lv_has ls 3 [(0, .ref (b + i)), (1, .int p1)] := hl
  unfold wp_X5_billetAt at h
  refine lv_iload_n (pc := 0) hx hb dX5_billetAt_0 rfl (lv_at hl 1 rfl) ?_
  refine lv_if_lt (tgt := 22) (pc := 1) hx hb dX5_billetAt_1 (by decide) (fun c1 => ?_) (fun c1 => ?_)
  · replace h := h.1 c1
    refine lv_null (pc := 22) hx hb dX5_billetAt_22 ?_
    refine lv_astore_nN (lv' := [(2, .null), (0, .ref (b + i)), (1, .int p1)]) (pc := 23) hx hb dX5_billetAt_23 rfl hl (by decide) rfl (fun ls hl => ?_)
    refine lv_aload_nN (pc := 24) hx hb dX5_billetAt_24 rfl (lv_at hl 0 rfl) ?_
    refine lv_ifnullN (tgt := 32) (pc := 25) hx hb dX5_billetAt_25 (by decide) ?_
    refine lv_aload_n (pc := 32) hx hb dX5_billetAt_32 rfl (lv_at hl 1 rfl) ?_
    obtain ⟨hk1, h⟩ := h
    obtain ⟨j2, hj2, h⟩ := h
    refine gX5_52 (pc := 33) C hK hP hk1 hj2 dX5_billetAt_33 ?_
    exact m_rret (v := j2) (pc := 36) C hr hlk hP hS dX5_billetAt_36 h
  · replace h := h.2 c1
    refine lv_iload_n (pc := 4) hx hb dX5_billetAt_4 rfl (lv_at hl 1 rfl) ?_
    refine lv_aload_n (pc := 5) hx hb dX5_billetAt_5 rfl (lv_at hl 0 rfl) ?_
    obtain ⟨hk3, h⟩ := h
    obtain ⟨j4, hj4, h⟩ := h
    refine gX5_47 (pc := 6) C hK hP hk3 hj4 dX5_billetAt_6 ?_
    obtain ⟨hk5, h⟩ := h
    refine m_alen (pc := 9) (κ := 11) C hK hP hk5 (by decide) rfl dX5_billetAt_9 ?_
    refine lv_icmp_ge (tgt := 22) (pc := 10) hx hb dX5_billetAt_10 (by decide) (fun c10 => ?_) (fun c10 => ?_)
    · replace h := h.1 c10
      refine lv_null (pc := 22) hx hb dX5_billetAt_22 ?_
      refine lv_astore_nN (lv' := [(2, .null), (0, .ref (b + i)), (1, .int p1)]) (pc := 23) hx hb dX5_billetAt_23 rfl hl (by decide) rfl (fun ls hl => ?_)
      refine lv_aload_nN (pc := 24) hx hb dX5_billetAt_24 rfl (lv_at hl 0 rfl) ?_
      refine lv_ifnullN (tgt := 32) (pc := 25) hx hb dX5_billetAt_25 (by decide) ?_
      refine lv_aload_n (pc := 32) hx hb dX5_billetAt_32 rfl (lv_at hl 1 rfl) ?_
      obtain ⟨j6, hj6, h⟩ := h
      refine gX5_52 (pc := 33) C hK hP hk3 hj6 dX5_billetAt_33 ?_
      exact m_rret (v := j6) (pc := 36) C hr hlk hP hS dX5_billetAt_36 h
    · replace h := h.2 c10
      refine lv_aload_n (pc := 13) hx hb dX5_billetAt_13 rfl (lv_at hl 0 rfl) ?_
      obtain ⟨j7, hj7, h⟩ := h
      refine gX5_47 (pc := 14) C hK hP hk3 hj7 dX5_billetAt_14 ?_
      refine lv_iload_n (pc := 17) hx hb dX5_billetAt_17 rfl (lv_at hl 1 rfl) ?_
      obtain ⟨hk8, h⟩ := h
      obtain ⟨hi9, h⟩ := h
      obtain ⟨j10, hj10, h⟩ := h
      refine m_aldq (pc := 18) (κ := 11) C hK hP hk8 (by decide) rfl hi9 hj10 dX5_billetAt_18 ?_
      refine lv_goto (tgt := 23) (pc := 19) hx hb dX5_billetAt_19 (by decide) ?_
      refine lv_astore_n (lv' := [(2, .ref (b + j10)), (0, .ref (b + i)), (1, .int p1)]) (pc := 23) hx hb dX5_billetAt_23 rfl hl (by decide) rfl (fun ls hl => ?_)
      refine lv_aload_n (pc := 24) hx hb dX5_billetAt_24 rfl (lv_at hl 0 rfl) ?_
      refine lv_ifnull (pc := 25) hx hb dX5_billetAt_25 ?_
      refine lv_aload_n (pc := 28) hx hb dX5_billetAt_28 rfl (lv_at hl 0 rfl) ?_
      refine lv_goto (tgt := 36) (pc := 29) hx hb dX5_billetAt_29 (by decide) ?_
      exact m_rret (v := j10) (pc := 36) C hr hlk hP hS dX5_billetAt_36 h
/-! ForgeHeats$Shop.swapJobs (II)V -/
def wp_X5_swapJobs (n : Nat) (M : Mem) (i : Nat) (p1 : Int32) (p2 : Int32) (P : Mem → Prop) : Prop := ((p1 < 0 → P M) ∧ (¬ p1 < 0 → m_tp n i 5 ∧ (∃ j2 : Nat, M.2.1 i 2 = some j2 ∧ (m_tp n j2 14 ∧ ((((nI (m_len j2)) ≤ p1 → P M) ∧ (¬ (nI (m_len j2)) ≤ p1 → ((p2 < 0 → P M) ∧ (¬ p2 < 0 → ∃ j4 : Nat, M.2.1 i 2 = some j4 ∧ (m_tp n j4 14 ∧ ((((nI (m_len j4)) ≤ p2 → P M) ∧ (¬ (nI (m_len j4)) ≤ p2 → ∃ j6 : Nat, M.2.1 i 2 = some j6 ∧ (m_tp n j6 14 ∧ (vp_in p1 (m_len j6) ∧ (∃ j9 : Nat, M.2.1 j6 p1.toNatClampNeg = some j9 ∧ (∃ j10 : Nat, M.2.1 i 2 = some j10 ∧ (∃ j11 : Nat, M.2.1 i 2 = some j11 ∧ (m_tp n j11 14 ∧ (vp_in p2 (m_len j11) ∧ (∃ j14 : Nat, M.2.1 j11 p2.toNatClampNeg = some j14 ∧ (m_tp n j10 14 ∧ (m_tp n j14 3 ∧ (vp_in p1 (m_len j10) ∧ (∀ M18 : Mem, M18 = uR M j10 p1.toNatClampNeg (some j14) → (∃ j19 : Nat, M18.2.1 i 2 = some j19 ∧ (m_tp n j19 14 ∧ (m_tp n j9 3 ∧ (vp_in p2 (m_len j19) ∧ (∀ M23 : Mem, M23 = uR M18 j19 p2.toNatClampNeg (some j9) → (P M23)))))))))))))))))))))))))))))))
abbrev rm_X5_swapJobs : Room := { frames := 0, cells := 0, slots := 0, locals := 0 }
set_option maxHeartbeats 4000000 in
set_option maxRecDepth 100000 in
theorem c_X5_swapJobs {l : Launch} {D : va_G} {cA : Nat → ClassId} {b n : Nat} {M : Mem} {i : Nat} {p1 : Int32} {p2 : Int32} {P : Mem → Prop} (h : wp_X5_swapJobs n M i p1 p2 P) : m_C l D cA b n n M yX5_swapJobs cX5_swapJobs 4 none rm_X5_swapJobs 0 0 [.ref (b + i), .int p1, .int p2] (rV P) := by
  refine m_enter (by decide) (Nat.le_of_ble_eq_true rfl) (fun p e s m below meth c C hr hlk hnm hK hP hS ls hl => ?_)
  have hx := C.1
  have hb := C.2.1
  have hl : lv_has ls 4 [(0, .ref (b + i)), (1, .int p1), (2, .int p2)] := hl
  unfold wp_X5_swapJobs at h
  refine lv_iload_n (pc := 0) hx hb dX5_swapJobs_0 rfl (lv_at hl 1 rfl) ?_
  refine lv_if_lt (tgt := 52) (pc := 1) hx hb dX5_swapJobs_1 (by decide) (fun c1 => ?_) (fun c1 => ?_)
  · replace h := h.1 c1
    exact m_vret (pc := 52) C hr hlk hP hS dX5_swapJobs_52 h
  · replace h := h.2 c1
    refine lv_iload_n (pc := 4) hx hb dX5_swapJobs_4 rfl (lv_at hl 1 rfl) ?_
    refine lv_aload_n (pc := 5) hx hb dX5_swapJobs_5 rfl (lv_at hl 0 rfl) ?_
    obtain ⟨hk1, h⟩ := h
    obtain ⟨j2, hj2, h⟩ := h
    refine gX5_40 (pc := 6) C hK hP hk1 hj2 dX5_swapJobs_6 ?_
    obtain ⟨hk3, h⟩ := h
    refine m_alen (pc := 9) (κ := 14) C hK hP hk3 (by decide) rfl dX5_swapJobs_9 ?_
    refine lv_icmp_ge (tgt := 52) (pc := 10) hx hb dX5_swapJobs_10 (by decide) (fun c10 => ?_) (fun c10 => ?_)
    · replace h := h.1 c10
      exact m_vret (pc := 52) C hr hlk hP hS dX5_swapJobs_52 h
    · replace h := h.2 c10
      refine lv_iload_n (pc := 13) hx hb dX5_swapJobs_13 rfl (lv_at hl 2 rfl) ?_
      refine lv_if_lt (tgt := 52) (pc := 14) hx hb dX5_swapJobs_14 (by decide) (fun c14 => ?_) (fun c14 => ?_)
      · replace h := h.1 c14
        exact m_vret (pc := 52) C hr hlk hP hS dX5_swapJobs_52 h
      · replace h := h.2 c14
        refine lv_iload_n (pc := 17) hx hb dX5_swapJobs_17 rfl (lv_at hl 2 rfl) ?_
        refine lv_aload_n (pc := 18) hx hb dX5_swapJobs_18 rfl (lv_at hl 0 rfl) ?_
        obtain ⟨j4, hj4, h⟩ := h
        refine gX5_40 (pc := 19) C hK hP hk1 hj4 dX5_swapJobs_19 ?_
        obtain ⟨hk5, h⟩ := h
        refine m_alen (pc := 22) (κ := 14) C hK hP hk5 (by decide) rfl dX5_swapJobs_22 ?_
        refine lv_icmp_ge (tgt := 52) (pc := 23) hx hb dX5_swapJobs_23 (by decide) (fun c23 => ?_) (fun c23 => ?_)
        · replace h := h.1 c23
          exact m_vret (pc := 52) C hr hlk hP hS dX5_swapJobs_52 h
        · replace h := h.2 c23
          refine lv_aload_n (pc := 26) hx hb dX5_swapJobs_26 rfl (lv_at hl 0 rfl) ?_
          obtain ⟨j6, hj6, h⟩ := h
          refine gX5_40 (pc := 27) C hK hP hk1 hj6 dX5_swapJobs_27 ?_
          refine lv_iload_n (pc := 30) hx hb dX5_swapJobs_30 rfl (lv_at hl 1 rfl) ?_
          obtain ⟨hk7, h⟩ := h
          obtain ⟨hi8, h⟩ := h
          obtain ⟨j9, hj9, h⟩ := h
          refine m_aldq (pc := 31) (κ := 14) C hK hP hk7 (by decide) rfl hi8 hj9 dX5_swapJobs_31 ?_
          refine lv_astore_n (lv' := [(3, .ref (b + j9)), (0, .ref (b + i)), (1, .int p1), (2, .int p2)]) (pc := 32) hx hb dX5_swapJobs_32 rfl hl (by decide) rfl (fun ls hl => ?_)
          refine lv_aload_n (pc := 33) hx hb dX5_swapJobs_33 rfl (lv_at hl 1 rfl) ?_
          obtain ⟨j10, hj10, h⟩ := h
          refine gX5_40 (pc := 34) C hK hP hk1 hj10 dX5_swapJobs_34 ?_
          refine lv_iload_n (pc := 37) hx hb dX5_swapJobs_37 rfl (lv_at hl 2 rfl) ?_
          refine lv_aload_n (pc := 38) hx hb dX5_swapJobs_38 rfl (lv_at hl 1 rfl) ?_
          obtain ⟨j11, hj11, h⟩ := h
          refine gX5_40 (pc := 39) C hK hP hk1 hj11 dX5_swapJobs_39 ?_
          refine lv_iload_n (pc := 42) hx hb dX5_swapJobs_42 rfl (lv_at hl 3 rfl) ?_
          obtain ⟨hk12, h⟩ := h
          obtain ⟨hi13, h⟩ := h
          obtain ⟨j14, hj14, h⟩ := h
          refine m_aldq (pc := 43) (κ := 14) C hK hP hk12 (by decide) rfl hi13 hj14 dX5_swapJobs_43 ?_
          obtain ⟨hk15, h⟩ := h
          obtain ⟨hk16, h⟩ := h
          obtain ⟨hi17, h⟩ := h
          refine m_astq (pc := 44) (κ := 14) (ci := 3) C hK hP hS hk15 (by decide) rfl hk16 (by decide) rfl hi17 dX5_swapJobs_44 (fun M18 H locs eM18 hP hS => ?_)
          replace h := h M18 eM18
          refine lv_aload_n (pc := 45) hx hb dX5_swapJobs_45 rfl (lv_at hl 1 rfl) ?_
          obtain ⟨j19, hj19, h⟩ := h
          refine gX5_40 (pc := 46) C hK hP hk1 hj19 dX5_swapJobs_46 ?_
          refine lv_iload_n (pc := 49) hx hb dX5_swapJobs_49 rfl (lv_at hl 3 rfl) ?_
          refine lv_aload_n (pc := 50) hx hb dX5_swapJobs_50 rfl (lv_at hl 0 rfl) ?_
          obtain ⟨hk20, h⟩ := h
          obtain ⟨hk21, h⟩ := h
          obtain ⟨hi22, h⟩ := h
          refine m_astq (pc := 51) (κ := 14) (ci := 3) C hK hP hS hk20 (by decide) rfl hk21 (by decide) rfl hi22 dX5_swapJobs_51 (fun M23 H locs eM23 hP hS => ?_)
          replace h := h M23 eM23
          exact m_vret (pc := 52) C hr hlk hP hS dX5_swapJobs_52 h
/-! ForgeHeats$Shop.placeOf (I)I -/
def wpB_X5_placeOf_2 (n : Nat) (P : Int32 → Mem → Prop) (R_ : Mem → Nat → Int32 → Int32 → Prop) (M : Mem) (x0 : Nat) (x1 : Int32) (x2 : Int32) : Prop := m_tp n x0 5 ∧ ((((M.1 x0 5) ≤ x2 → P (-1) M) ∧ (¬ (M.1 x0 5) ≤ x2 → wp_X5_jobAt n M x0 x2 (fun j3 M2 => m_tp n j3 3 ∧ (((¬ (M2.1 j3 0) = x1 → ∀ v5 : Int32, v5 = x2 + 1 → (R_ M2 x0 x1 v5)) ∧ ((M2.1 j3 0) = x1 → P x2 M2)))))))
def wpL_X5_placeOf_2 (n : Nat) (P : Int32 → Mem → Prop) : Nat → Mem → Nat → Int32 → Int32 → Prop
  | 0 => fun _ _ _ _ => False
  | f + 1 => fun M x0 x1 x2 => wpB_X5_placeOf_2 n P (wpL_X5_placeOf_2 n P f) M x0 x1 x2
def wp_X5_placeOf (n : Nat) (M : Mem) (i : Nat) (p1 : Int32) (P : Int32 → Mem → Prop) : Prop := ∃ f : Nat, wpL_X5_placeOf_2 n P f M i p1 0
abbrev rm_X5_placeOf : Room := { frames := 1, cells := 0, slots := 0, locals := 22 }
set_option maxHeartbeats 4000000 in
set_option maxRecDepth 100000 in
theorem c_X5_placeOf {l : Launch} {D : va_G} {cA : Nat → ClassId} {b n : Nat} {M : Mem} {i : Nat} {p1 : Int32} {P : Int32 → Mem → Prop} (h : wp_X5_placeOf n M i p1 P) : m_C l D cA b n n M yX5_placeOf cX5_placeOf 3 (some .int) rm_X5_placeOf 0 0 [.ref (b + i), .int p1] (rI P) := by
  refine m_enter (by decide) (Nat.le_of_ble_eq_true rfl) (fun p e s m below meth c C hr hlk hnm hK hP hS ls hl => ?_)
  have hx := C.1
  have hb := C.2.1
  have hl : lv_has ls 3 [(0, .ref (b + i)), (1, .int p1)] := hl
  have L2 : ∀ f : Nat, ∀ (M : Mem) (H : Heap) (locs : List Loc) (ls : Array Slot) (x0 : Nat) (x1 : Int32) (x2 : Int32), wpL_X5_placeOf_2 n P f M x0 x1 x2 → m_H D cA b n M H → va_S (m_A b) s.heap H locs → lv_has ls 3 [(0, .ref (b + x0)), (1, .int x1), (2, .int x2)] → W p l e rm_X5_placeOf s m ([.ref (b + i), .int p1] : List Value).toArray below meth c H locs 0 0 (MQ below (m_Q D cA b n (rI P)) ([.ref (b + i), .int p1] : List Value).toArray s 0 0 (m_A b)) (F0 m 2 ls []) := by
    clear h
    intro f
    induction f with
    | zero => intro M H locs ls x0 x1 x2 h; exact h.elim
    | succ f ih =>
      intro M H locs ls x0 x1 x2 h hP hS hl
      have h : wpB_X5_placeOf_2 n P (wpL_X5_placeOf_2 n P f) M x0 x1 x2 := h
      unfold wpB_X5_placeOf_2 at h
      refine lv_iload_n (pc := 2) hx hb dX5_placeOf_2 rfl (lv_at hl 2 rfl) ?_
      refine lv_aload_n (pc := 3) hx hb dX5_placeOf_3 rfl (lv_at hl 0 rfl) ?_
      obtain ⟨hk1, h⟩ := h
      refine gX5_83 (pc := 4) C hK hP hk1 dX5_placeOf_4 ?_
      refine lv_icmp_ge (tgt := 30) (pc := 7) hx hb dX5_placeOf_7 (by decide) (fun c7 => ?_) (fun c7 => ?_)
      · replace h := h.1 c7
        refine lv_iconst (v := -1) (pc := 30) hx hb dX5_placeOf_30 (by decide) ?_
        exact m_iret (v := (-1)) (pc := 31) C hr hlk hP hS dX5_placeOf_31 h
      · replace h := h.2 c7
        refine lv_aload_n (pc := 10) hx hb dX5_placeOf_10 rfl (lv_at hl 0 rfl) ?_
        refine lv_iload_n (pc := 11) hx hb dX5_placeOf_11 rfl (lv_at hl 2 rfl) ?_
        refine m_callVR (pc := 12) (y := yX5_jobAt) (κ := 5) (As := [.int x2]) (rest := []) C hK hP hS hl.1 ⟨Nat.zero_le _, Nat.zero_le _⟩ (c_X5_jobAt h) rfl rfl hk1 (by decide) rfl q_363 q_364 q_365 q_2 q_366 ⟨rfl, rfl⟩ yd_X5_jobAt ⟨Nat.le_of_ble_eq_true rfl, Nat.le_of_ble_eq_true rfl⟩ (Nat.le_of_ble_eq_true rfl) dX5_placeOf_12 (fun j3 M2 H locs h hP hS => ?_)
        obtain ⟨hk4, h⟩ := h
        refine gX5_122 (pc := 15) C hK hP hk4 dX5_placeOf_15 ?_
        refine lv_iload_n (pc := 18) hx hb dX5_placeOf_18 rfl (lv_at hl 1 rfl) ?_
        refine lv_icmp_ne (tgt := 24) (pc := 19) hx hb dX5_placeOf_19 (by decide) (fun c19 => ?_) (fun c19 => ?_)
        · replace h := h.1 c19
          obtain ⟨v5, ev5⟩ : ∃ y : Int32, y = x2 + 1 := ⟨_, rfl⟩
          replace h := h v5 ev5
          refine lv_iinc (v := v5) (lv' := [(2, .int v5), (0, .ref (b + x0)), (1, .int x1)]) (pc := 24) hx hb dX5_placeOf_24 hl (k := 2) rfl (by rw [ev5]; rfl) (by decide) rfl (fun ls hl => ?_)
          refine lv_goto (tgt := 2) (pc := 27) hx hb dX5_placeOf_27 (by decide) ?_
          exact ih _ _ _ _ _ _ _ h hP hS (lv_sub hl [1, 2, 0] rfl)
        · replace h := h.2 c19
          refine lv_iload_n (pc := 22) hx hb dX5_placeOf_22 rfl (lv_at hl 2 rfl) ?_
          exact m_iret (v := x2) (pc := 23) C hr hlk hP hS dX5_placeOf_23 h
  unfold wp_X5_placeOf at h
  refine lv_iconst (v := 0) (pc := 0) hx hb dX5_placeOf_0 (by decide) ?_
  refine lv_istore_n (lv' := [(2, .int 0), (0, .ref (b + i)), (1, .int p1)]) (pc := 1) hx hb dX5_placeOf_1 rfl hl (by decide) rfl (fun ls hl => ?_)
  obtain ⟨f, h⟩ := h
  exact L2 f _ _ _ _ _ _ _ h hP hS (lv_sub hl [1, 2, 0] rfl)
/-! ForgeHeats$Shop.removeJob (I)V -/
def wpB_X5_removeJob_12 (n : Nat) (P : Mem → Prop) (R_ : Mem → Nat → Int32 → Prop) (M : Mem) (x0 : Nat) (x2 : Int32) : Prop := m_tp n x0 5 ∧ ((((M.1 x0 5) ≤ x2 → P M) ∧ (¬ (M.1 x0 5) ≤ x2 → wp_X5_swapJobs n M x0 x2 (x2 + 1) (fun M4 => ∀ v6 : Int32, v6 = x2 + 1 → (R_ M4 x0 v6)))))
def wpL_X5_removeJob_12 (n : Nat) (P : Mem → Prop) : Nat → Mem → Nat → Int32 → Prop
  | 0 => fun _ _ _ => False
  | f + 1 => fun M x0 x2 => wpB_X5_removeJob_12 n P (wpL_X5_removeJob_12 n P f) M x0 x2
def wp_X5_removeJob (n : Nat) (M : Mem) (i : Nat) (p1 : Int32) (P : Mem → Prop) : Prop := m_tp n i 5 ∧ (∀ M2 : Mem, M2 = uI M i 5 ((M.1 i 5) - 1) → (∃ f : Nat, wpL_X5_removeJob_12 n P f M2 i p1))
abbrev rm_X5_removeJob : Room := { frames := 1, cells := 0, slots := 0, locals := 23 }
set_option maxHeartbeats 4000000 in
set_option maxRecDepth 100000 in
theorem c_X5_removeJob {l : Launch} {D : va_G} {cA : Nat → ClassId} {b n : Nat} {M : Mem} {i : Nat} {p1 : Int32} {P : Mem → Prop} (h : wp_X5_removeJob n M i p1 P) : m_C l D cA b n n M yX5_removeJob cX5_removeJob 3 none rm_X5_removeJob 0 0 [.ref (b + i), .int p1] (rV P) := by
  refine m_enter (by decide) (Nat.le_of_ble_eq_true rfl) (fun p e s m below meth c C hr hlk hnm hK hP hS ls hl => ?_)
  have hx := C.1
  have hb := C.2.1
  have hl : lv_has ls 3 [(0, .ref (b + i)), (1, .int p1)] := hl
  have L12 : ∀ f : Nat, ∀ (M : Mem) (H : Heap) (locs : List Loc) (ls : Array Slot) (x0 : Nat) (x2 : Int32), wpL_X5_removeJob_12 n P f M x0 x2 → m_H D cA b n M H → va_S (m_A b) s.heap H locs → lv_has ls 3 [(0, .ref (b + x0)), (2, .int x2)] → W p l e rm_X5_removeJob s m ([.ref (b + i), .int p1] : List Value).toArray below meth c H locs 0 0 (MQ below (m_Q D cA b n (rV P)) ([.ref (b + i), .int p1] : List Value).toArray s 0 0 (m_A b)) (F0 m 12 ls []) := by
    clear h
    intro f
    induction f with
    | zero => intro M H locs ls x0 x2 h; exact h.elim
    | succ f ih =>
      intro M H locs ls x0 x2 h hP hS hl
      have h : wpB_X5_removeJob_12 n P (wpL_X5_removeJob_12 n P f) M x0 x2 := h
      unfold wpB_X5_removeJob_12 at h
      refine lv_iload_n (pc := 12) hx hb dX5_removeJob_12 rfl (lv_at hl 1 rfl) ?_
      refine lv_aload_n (pc := 13) hx hb dX5_removeJob_13 rfl (lv_at hl 0 rfl) ?_
      obtain ⟨hk3, h⟩ := h
      refine gX5_83 (pc := 14) C hK hP hk3 dX5_removeJob_14 ?_
      refine lv_icmp_ge (tgt := 34) (pc := 17) hx hb dX5_removeJob_17 (by decide) (fun c17 => ?_) (fun c17 => ?_)
      · replace h := h.1 c17
        exact m_vret (pc := 34) C hr hlk hP hS dX5_removeJob_34 h
      · replace h := h.2 c17
        refine lv_aload_n (pc := 20) hx hb dX5_removeJob_20 rfl (lv_at hl 0 rfl) ?_
        refine lv_iload_n (pc := 21) hx hb dX5_removeJob_21 rfl (lv_at hl 1 rfl) ?_
        refine lv_iload_n (pc := 22) hx hb dX5_removeJob_22 rfl (lv_at hl 1 rfl) ?_
        refine lv_iconst (v := 1) (pc := 23) hx hb dX5_removeJob_23 (by decide) ?_
        refine lv_iadd (pc := 24) hx hb dX5_removeJob_24 ?_
        refine m_callVV (pc := 25) (y := yX5_swapJobs) (κ := 5) (As := [.int x2, .int (x2 + 1)]) (rest := []) C hK hP hS hl.1 ⟨Nat.zero_le _, Nat.zero_le _⟩ (c_X5_swapJobs h) rfl rfl hk3 (by decide) rfl q_600 q_602 q_s11 q_2 q_603 ⟨rfl, rfl⟩ yd_X5_swapJobs ⟨Nat.le_of_ble_eq_true rfl, Nat.le_of_ble_eq_true rfl⟩ (Nat.le_of_ble_eq_true rfl) dX5_removeJob_25 (fun M4 H locs h hP hS => ?_)
        obtain ⟨v6, ev6⟩ : ∃ y : Int32, y = x2 + 1 := ⟨_, rfl⟩
        replace h := h v6 ev6
        refine lv_iinc (v := v6) (lv' := [(2, .int v6), (0, .ref (b + x0))]) (pc := 28) hx hb dX5_removeJob_28 hl (k := 1) rfl (by rw [ev6]; rfl) (by decide) rfl (fun ls hl => ?_)
        refine lv_goto (tgt := 12) (pc := 31) hx hb dX5_removeJob_31 (by decide) ?_
        exact ih _ _ _ _ _ _ h hP hS (lv_sub hl [1, 0] rfl)
  unfold wp_X5_removeJob at h
  refine lv_aload_n (pc := 0) hx hb dX5_removeJob_0 rfl (lv_at hl 0 rfl) ?_
  refine lv_dup (pc := 1) hx hb dX5_removeJob_1 rfl ?_
  obtain ⟨hk1, h⟩ := h
  refine gX5_83 (pc := 2) C hK hP hk1 dX5_removeJob_2 ?_
  refine lv_iconst (v := 1) (pc := 5) hx hb dX5_removeJob_5 (by decide) ?_
  refine lv_isub (pc := 6) hx hb dX5_removeJob_6 ?_
  refine pX5_83 (pc := 7) (v := (M.1 i 5) - 1) C hK hP hS hk1 dX5_removeJob_7 (fun M2 H locs eM2 hP hS => ?_)
  replace h := h M2 eM2
  refine lv_iload_n (pc := 10) hx hb dX5_removeJob_10 rfl (lv_at hl 1 rfl) ?_
  refine lv_istore_n (lv' := [(2, .int p1), (0, .ref (b + i)), (1, .int p1)]) (pc := 11) hx hb dX5_removeJob_11 rfl hl (by decide) rfl (fun ls hl => ?_)
  obtain ⟨f, h⟩ := h
  exact L12 f _ _ _ _ _ _ h hP hS (lv_sub hl [1, 0] rfl)
/-! ForgeHeats$Shop.dropJob (I)I -/
def wpB_X5_dropJob_8 (n : Nat) (P : Int32 → Mem → Prop) (R_ : Mem → Nat → Int32 → Nat → Int32 → Prop) (M : Mem) (x0 : Nat) (x1 : Int32) (x2 : Nat) (x3 : Int32) : Prop := ((6 < x3 → m_tp n x2 3 ∧ (m_tp n x0 5 ∧ (wp_X5_heatAt n M x0 (M.1 x2 2) (fun j7 M5 => m_tp n j7 2 ∧ (∀ M9 : Mem, M9 = uI M5 j7 4 ((M5.1 j7 4) + (M5.1 x2 7)) → (wp_X5_removeJob n M9 x0 x1 (fun M10 => P (M10.1 x2 7) M10))))))) ∧ (¬ 6 < x3 → m_tp n x0 5 ∧ (wp_X5_billetAt n M x0 x3 (fun j14 M12 => m_tp n j14 0 ∧ (m_tp n x2 3 ∧ (((¬ (M12.1 j14 0) = (M12.1 x2 0) → ∀ v17 : Int32, v17 = x3 + 1 → (R_ M12 x0 x1 x2 v17)) ∧ ((M12.1 j14 0) = (M12.1 x2 0) → ∀ M18 : Mem, M18 = uI M12 j14 0 (-1) → (∀ v19 : Int32, v19 = x3 + 1 → (R_ M18 x0 x1 x2 v19))))))))))
def wpL_X5_dropJob_8 (n : Nat) (P : Int32 → Mem → Prop) : Nat → Mem → Nat → Int32 → Nat → Int32 → Prop
  | 0 => fun _ _ _ _ _ => False
  | f + 1 => fun M x0 x1 x2 x3 => wpB_X5_dropJob_8 n P (wpL_X5_dropJob_8 n P f) M x0 x1 x2 x3
def wp_X5_dropJob (n : Nat) (M : Mem) (i : Nat) (p1 : Int32) (P : Int32 → Mem → Prop) : Prop := m_tp n i 5 ∧ (wp_X5_jobAt n M i p1 (fun j3 M1 => ∃ f : Nat, wpL_X5_dropJob_8 n P f M1 i p1 j3 0))
abbrev rm_X5_dropJob : Room := { frames := 2, cells := 0, slots := 0, locals := 45 }
set_option maxHeartbeats 4000000 in
set_option maxRecDepth 100000 in
theorem c_X5_dropJob {l : Launch} {D : va_G} {cA : Nat → ClassId} {b n : Nat} {M : Mem} {i : Nat} {p1 : Int32} {P : Int32 → Mem → Prop} (h : wp_X5_dropJob n M i p1 P) : m_C l D cA b n n M yX5_dropJob cX5_dropJob 5 (some .int) rm_X5_dropJob 0 0 [.ref (b + i), .int p1] (rI P) := by
  refine m_enter (by decide) (Nat.le_of_ble_eq_true rfl) (fun p e s m below meth c C hr hlk hnm hK hP hS ls hl => ?_)
  have hx := C.1
  have hb := C.2.1
  have hl : lv_has ls 5 [(0, .ref (b + i)), (1, .int p1)] := hl
  have L8 : ∀ f : Nat, ∀ (M : Mem) (H : Heap) (locs : List Loc) (ls : Array Slot) (x0 : Nat) (x1 : Int32) (x2 : Nat) (x3 : Int32), wpL_X5_dropJob_8 n P f M x0 x1 x2 x3 → m_H D cA b n M H → va_S (m_A b) s.heap H locs → lv_has ls 5 [(0, .ref (b + x0)), (1, .int x1), (2, .ref (b + x2)), (3, .int x3)] → W p l e rm_X5_dropJob s m ([.ref (b + i), .int p1] : List Value).toArray below meth c H locs 0 0 (MQ below (m_Q D cA b n (rI P)) ([.ref (b + i), .int p1] : List Value).toArray s 0 0 (m_A b)) (F0 m 8 ls []) := by
    clear h
    intro f
    induction f with
    | zero => intro M H locs ls x0 x1 x2 x3 h; exact h.elim
    | succ f ih =>
      intro M H locs ls x0 x1 x2 x3 h hP hS hl
      have h : wpB_X5_dropJob_8 n P (wpL_X5_dropJob_8 n P f) M x0 x1 x2 x3 := h
      unfold wpB_X5_dropJob_8 at h
      refine lv_iload_n (pc := 8) hx hb dX5_dropJob_8 rfl (lv_at hl 3 rfl) ?_
      refine lv_bipush (v := 6) (pc := 9) hx hb dX5_dropJob_9 (by decide) ?_
      refine lv_icmp_gt (tgt := 45) (pc := 11) hx hb dX5_dropJob_11 (by decide) (fun c11 => ?_) (fun c11 => ?_)
      · replace h := h.1 c11
        refine lv_aload_n (pc := 45) hx hb dX5_dropJob_45 rfl (lv_at hl 0 rfl) ?_
        refine lv_aload_n (pc := 46) hx hb dX5_dropJob_46 rfl (lv_at hl 2 rfl) ?_
        obtain ⟨hk4, h⟩ := h
        refine gX5_128 (pc := 47) C hK hP hk4 dX5_dropJob_47 ?_
        obtain ⟨hk6, h⟩ := h
        refine m_callVR (pc := 50) (y := yX5_heatAt) (κ := 5) (As := [.int (M.1 x2 2)]) (rest := []) C hK hP hS hl.1 ⟨Nat.zero_le _, Nat.zero_le _⟩ (c_X5_heatAt h) rfl rfl hk6 (by decide) rfl q_347 q_348 q_349 q_2 q_350 ⟨rfl, rfl⟩ yd_X5_heatAt ⟨Nat.le_of_ble_eq_true rfl, Nat.le_of_ble_eq_true rfl⟩ (Nat.le_of_ble_eq_true rfl) dX5_dropJob_50 (fun j7 M5 H locs h hP hS => ?_)
        refine lv_dup (pc := 53) hx hb dX5_dropJob_53 rfl ?_
        obtain ⟨hk8, h⟩ := h
        refine gX5_162 (pc := 54) C hK hP hk8 dX5_dropJob_54 ?_
        refine lv_aload_n (pc := 57) hx hb dX5_dropJob_57 rfl (lv_at hl 2 rfl) ?_
        refine gX5_144 (pc := 58) C hK hP hk4 dX5_dropJob_58 ?_
        refine lv_iadd (pc := 61) hx hb dX5_dropJob_61 ?_
        refine pX5_162 (pc := 62) (v := (M5.1 j7 4) + (M5.1 x2 7)) C hK hP hS hk8 dX5_dropJob_62 (fun M9 H locs eM9 hP hS => ?_)
        replace h := h M9 eM9
        refine lv_aload_n (pc := 65) hx hb dX5_dropJob_65 rfl (lv_at hl 0 rfl) ?_
        refine lv_iload_n (pc := 66) hx hb dX5_dropJob_66 rfl (lv_at hl 1 rfl) ?_
        refine m_callVV (pc := 67) (y := yX5_removeJob) (κ := 5) (As := [.int x1]) (rest := []) C hK hP hS hl.1 ⟨Nat.zero_le _, Nat.zero_le _⟩ (c_X5_removeJob h) rfl rfl hk6 (by decide) rfl q_596 q_598 q_s10 q_2 q_599 ⟨rfl, rfl⟩ yd_X5_removeJob ⟨Nat.le_of_ble_eq_true rfl, Nat.le_of_ble_eq_true rfl⟩ (Nat.le_of_ble_eq_true rfl) dX5_dropJob_67 (fun M10 H locs h hP hS => ?_)
        refine lv_aload_n (pc := 70) hx hb dX5_dropJob_70 rfl (lv_at hl 2 rfl) ?_
        refine gX5_144 (pc := 71) C hK hP hk4 dX5_dropJob_71 ?_
        exact m_iret (v := M10.1 x2 7) (pc := 74) C hr hlk hP hS dX5_dropJob_74 h
      · replace h := h.2 c11
        refine lv_aload_n (pc := 14) hx hb dX5_dropJob_14 rfl (lv_at hl 0 rfl) ?_
        refine lv_iload_n (pc := 15) hx hb dX5_dropJob_15 rfl (lv_at hl 3 rfl) ?_
        obtain ⟨hk13, h⟩ := h
        refine m_callVR (pc := 16) (y := yX5_billetAt) (κ := 5) (As := [.int x3]) (rest := []) C hK hP hS hl.1 ⟨Nat.zero_le _, Nat.zero_le _⟩ (c_X5_billetAt h) rfl rfl hk13 (by decide) rfl q_371 q_372 q_373 q_2 q_374 ⟨rfl, rfl⟩ yd_X5_billetAt ⟨Nat.le_of_ble_eq_true rfl, Nat.le_of_ble_eq_true rfl⟩ (Nat.le_of_ble_eq_true rfl) dX5_dropJob_16 (fun j14 M12 H locs h hP hS => ?_)
        refine lv_astore (lv' := [(4, .ref (b + j14)), (0, .ref (b + x0)), (1, .int x1), (2, .ref (b + x2)), (3, .int x3)]) (pc := 19) hx hb dX5_dropJob_19 hl (by decide) rfl (fun ls hl => ?_)
        refine lv_aload (pc := 21) hx hb dX5_dropJob_21 (lv_at hl 0 rfl) ?_
        obtain ⟨hk15, h⟩ := h
        refine gX5_159 (pc := 23) C hK hP hk15 dX5_dropJob_23 ?_
        refine lv_aload_n (pc := 26) hx hb dX5_dropJob_26 rfl (lv_at hl 3 rfl) ?_
        obtain ⟨hk16, h⟩ := h
        refine gX5_122 (pc := 27) C hK hP hk16 dX5_dropJob_27 ?_
        refine lv_icmp_ne (tgt := 39) (pc := 30) hx hb dX5_dropJob_30 (by decide) (fun c30 => ?_) (fun c30 => ?_)
        · replace h := h.1 c30
          obtain ⟨v17, ev17⟩ : ∃ y : Int32, y = x3 + 1 := ⟨_, rfl⟩
          replace h := h v17 ev17
          refine lv_iinc (v := v17) (lv' := [(3, .int v17), (4, .ref (b + j14)), (0, .ref (b + x0)), (1, .int x1), (2, .ref (b + x2))]) (pc := 39) hx hb dX5_dropJob_39 hl (k := 4) rfl (by rw [ev17]; rfl) (by decide) rfl (fun ls hl => ?_)
          refine lv_goto (tgt := 8) (pc := 42) hx hb dX5_dropJob_42 (by decide) ?_
          exact ih _ _ _ _ _ _ _ _ h hP hS (lv_sub hl [2, 3, 4, 0] rfl)
        · replace h := h.2 c30
          refine lv_aload (pc := 33) hx hb dX5_dropJob_33 (lv_at hl 0 rfl) ?_
          refine lv_iconst (v := -1) (pc := 35) hx hb dX5_dropJob_35 (by decide) ?_
          refine pX5_159 (pc := 36) (v := (-1)) C hK hP hS hk15 dX5_dropJob_36 (fun M18 H locs eM18 hP hS => ?_)
          replace h := h M18 eM18
          obtain ⟨v19, ev19⟩ : ∃ y : Int32, y = x3 + 1 := ⟨_, rfl⟩
          replace h := h v19 ev19
          refine lv_iinc (v := v19) (lv' := [(3, .int v19), (4, .ref (b + j14)), (0, .ref (b + x0)), (1, .int x1), (2, .ref (b + x2))]) (pc := 39) hx hb dX5_dropJob_39 hl (k := 4) rfl (by rw [ev19]; rfl) (by decide) rfl (fun ls hl => ?_)
          refine lv_goto (tgt := 8) (pc := 42) hx hb dX5_dropJob_42 (by decide) ?_
          exact ih _ _ _ _ _ _ _ _ h hP hS (lv_sub hl [2, 3, 4, 0] rfl)
  unfold wp_X5_dropJob at h
  refine lv_aload_n (pc := 0) hx hb dX5_dropJob_0 rfl (lv_at hl 0 rfl) ?_
  refine lv_iload_n (pc := 1) hx hb dX5_dropJob_1 rfl (lv_at hl 1 rfl) ?_
  obtain ⟨hk2, h⟩ := h
  refine m_callVR (pc := 2) (y := yX5_jobAt) (κ := 5) (As := [.int p1]) (rest := []) C hK hP hS hl.1 ⟨Nat.zero_le _, Nat.zero_le _⟩ (c_X5_jobAt h) rfl rfl hk2 (by decide) rfl q_363 q_364 q_365 q_2 q_366 ⟨rfl, rfl⟩ yd_X5_jobAt ⟨Nat.le_of_ble_eq_true rfl, Nat.le_of_ble_eq_true rfl⟩ (Nat.le_of_ble_eq_true rfl) dX5_dropJob_2 (fun j3 M1 H locs h hP hS => ?_)
  refine lv_astore_n (lv' := [(2, .ref (b + j3)), (0, .ref (b + i)), (1, .int p1)]) (pc := 5) hx hb dX5_dropJob_5 rfl hl (by decide) rfl (fun ls hl => ?_)
  refine lv_iconst (v := 0) (pc := 6) hx hb dX5_dropJob_6 (by decide) ?_
  refine lv_istore_n (lv' := [(3, .int 0), (2, .ref (b + j3)), (0, .ref (b + i)), (1, .int p1)]) (pc := 7) hx hb dX5_dropJob_7 rfl hl (by decide) rfl (fun ls hl => ?_)
  obtain ⟨f, h⟩ := h
  exact L8 f _ _ _ _ _ _ _ _ h hP hS (lv_sub hl [2, 3, 1, 0] rfl)
/-! ForgeHeats$Shop.valueOf (I)I -/
def wp_X5_valueOf (n : Nat) (M : Mem) (i : Nat) (p1 : Int32) (P : Int32 → Mem → Prop) : Prop := ((p1 = 0 → m_tp n i 5 ∧ (P (M.1 i 7) M)) ∧ (¬ p1 = 0 → ((p1 = 1 → m_tp n i 5 ∧ (P (M.1 i 8) M)) ∧ (¬ p1 = 1 → ((p1 = 2 → m_tp n i 5 ∧ (P (M.1 i 9) M)) ∧ (¬ p1 = 2 → m_tp n i 5 ∧ (P (M.1 i 10) M)))))))
abbrev rm_X5_valueOf : Room := { frames := 0, cells := 0, slots := 0, locals := 0 }
set_option maxHeartbeats 4000000 in
set_option maxRecDepth 100000 in
theorem c_X5_valueOf {l : Launch} {D : va_G} {cA : Nat → ClassId} {b n : Nat} {M : Mem} {i : Nat} {p1 : Int32} {P : Int32 → Mem → Prop} (h : wp_X5_valueOf n M i p1 P) : m_C l D cA b n n M yX5_valueOf cX5_valueOf 2 (some .int) rm_X5_valueOf 0 0 [.ref (b + i), .int p1] (rI P) := by
  refine m_enter (by decide) (Nat.le_of_ble_eq_true rfl) (fun p e s m below meth c C hr hlk hnm hK hP hS ls hl => ?_)
  have hx := C.1
  have hb := C.2.1
  have hl : lv_has ls 2 [(0, .ref (b + i)), (1, .int p1)] := hl
  unfold wp_X5_valueOf at h
  refine lv_iload_n (pc := 0) hx hb dX5_valueOf_0 rfl (lv_at hl 1 rfl) ?_
  by_cases n1_0 : p1 = 0
  · replace h := h.1 n1_0
    refine m_case (v := 0) (off := 27) (tgt := 28) (pc := 1) hx hb n1_0 dX5_valueOf_1 (by decide) (by decide) (by decide) (by decide) ?_
    refine lv_aload_n (pc := 28) hx hb dX5_valueOf_28 rfl (lv_at hl 0 rfl) ?_
    obtain ⟨hk1, h⟩ := h
    refine gX5_9 (pc := 29) C hK hP hk1 dX5_valueOf_29 ?_
    exact m_iret (v := M.1 i 7) (pc := 32) C hr hlk hP hS dX5_valueOf_32 h
  · replace h := h.2 n1_0
    by_cases n1_1 : p1 = 1
    · replace h := h.1 n1_1
      refine m_case (v := 1) (off := 32) (tgt := 33) (pc := 1) hx hb n1_1 dX5_valueOf_1 (by decide) (by decide) (by decide) (by decide) ?_
      refine lv_aload_n (pc := 33) hx hb dX5_valueOf_33 rfl (lv_at hl 0 rfl) ?_
      obtain ⟨hk2, h⟩ := h
      refine gX5_15 (pc := 34) C hK hP hk2 dX5_valueOf_34 ?_
      exact m_iret (v := M.1 i 8) (pc := 37) C hr hlk hP hS dX5_valueOf_37 h
    · replace h := h.2 n1_1
      by_cases n1_2 : p1 = 2
      · replace h := h.1 n1_2
        refine m_case (v := 2) (off := 37) (tgt := 38) (pc := 1) hx hb n1_2 dX5_valueOf_1 (by decide) (by decide) (by decide) (by decide) ?_
        refine lv_aload_n (pc := 38) hx hb dX5_valueOf_38 rfl (lv_at hl 0 rfl) ?_
        obtain ⟨hk3, h⟩ := h
        refine gX5_18 (pc := 39) C hK hP hk3 dX5_valueOf_39 ?_
        exact m_iret (v := M.1 i 9) (pc := 42) C hr hlk hP hS dX5_valueOf_42 h
      · replace h := h.2 n1_2
        refine lv_tableOut (tgt := 43) (pc := 1) hx hb dX5_valueOf_1 (by have i0 := i_ne n1_0; have i1 := i_ne n1_1; have i2 := i_ne n1_2; simp only [m_lit] at *; omega) (by decide) ?_
        refine lv_aload_n (pc := 43) hx hb dX5_valueOf_43 rfl (lv_at hl 0 rfl) ?_
        obtain ⟨hk4, h⟩ := h
        refine gX5_21 (pc := 44) C hK hP hk4 dX5_valueOf_44 ?_
        exact m_iret (v := M.1 i 10) (pc := 47) C hr hlk hP hS dX5_valueOf_47 h
/-! ForgeHeats$Shop.putValue (II)V -/
def wp_X5_putValue (n : Nat) (M : Mem) (i : Nat) (p1 : Int32) (p2 : Int32) (P : Mem → Prop) : Prop := ((p1 = 0 → m_tp n i 5 ∧ (∀ M2 : Mem, M2 = uI M i 7 p2 → (P M2))) ∧ (¬ p1 = 0 → ((p1 = 1 → m_tp n i 5 ∧ (∀ M4 : Mem, M4 = uI M i 8 p2 → (P M4))) ∧ (¬ p1 = 1 → ((p1 = 2 → m_tp n i 5 ∧ (∀ M6 : Mem, M6 = uI M i 9 p2 → (P M6))) ∧ (¬ p1 = 2 → m_tp n i 5 ∧ (∀ M8 : Mem, M8 = uI M i 10 p2 → (P M8))))))))
abbrev rm_X5_putValue : Room := { frames := 0, cells := 0, slots := 0, locals := 0 }
set_option maxHeartbeats 4000000 in
set_option maxRecDepth 100000 in
theorem c_X5_putValue {l : Launch} {D : va_G} {cA : Nat → ClassId} {b n : Nat} {M : Mem} {i : Nat} {p1 : Int32} {p2 : Int32} {P : Mem → Prop} (h : wp_X5_putValue n M i p1 p2 P) : m_C l D cA b n n M yX5_putValue cX5_putValue 3 none rm_X5_putValue 0 0 [.ref (b + i), .int p1, .int p2] (rV P) := by
  refine m_enter (by decide) (Nat.le_of_ble_eq_true rfl) (fun p e s m below meth c C hr hlk hnm hK hP hS ls hl => ?_)
  have hx := C.1
  have hb := C.2.1
  have hl : lv_has ls 3 [(0, .ref (b + i)), (1, .int p1), (2, .int p2)] := hl
  unfold wp_X5_putValue at h
  refine lv_iload_n (pc := 0) hx hb dX5_putValue_0 rfl (lv_at hl 1 rfl) ?_
  by_cases n1_0 : p1 = 0
  · replace h := h.1 n1_0
    refine m_case (v := 0) (off := 27) (tgt := 28) (pc := 1) hx hb n1_0 dX5_putValue_1 (by decide) (by decide) (by decide) (by decide) ?_
    refine lv_aload_n (pc := 28) hx hb dX5_putValue_28 rfl (lv_at hl 0 rfl) ?_
    refine lv_iload_n (pc := 29) hx hb dX5_putValue_29 rfl (lv_at hl 2 rfl) ?_
    obtain ⟨hk1, h⟩ := h
    refine pX5_9 (pc := 30) (v := p2) C hK hP hS hk1 dX5_putValue_30 (fun M2 H locs eM2 hP hS => ?_)
    replace h := h M2 eM2
    refine lv_goto (tgt := 57) (pc := 33) hx hb dX5_putValue_33 (by decide) ?_
    exact m_vret (pc := 57) C hr hlk hP hS dX5_putValue_57 h
  · replace h := h.2 n1_0
    by_cases n1_1 : p1 = 1
    · replace h := h.1 n1_1
      refine m_case (v := 1) (off := 35) (tgt := 36) (pc := 1) hx hb n1_1 dX5_putValue_1 (by decide) (by decide) (by decide) (by decide) ?_
      refine lv_aload_n (pc := 36) hx hb dX5_putValue_36 rfl (lv_at hl 0 rfl) ?_
      refine lv_iload_n (pc := 37) hx hb dX5_putValue_37 rfl (lv_at hl 2 rfl) ?_
      obtain ⟨hk3, h⟩ := h
      refine pX5_15 (pc := 38) (v := p2) C hK hP hS hk3 dX5_putValue_38 (fun M4 H locs eM4 hP hS => ?_)
      replace h := h M4 eM4
      refine lv_goto (tgt := 57) (pc := 41) hx hb dX5_putValue_41 (by decide) ?_
      exact m_vret (pc := 57) C hr hlk hP hS dX5_putValue_57 h
    · replace h := h.2 n1_1
      by_cases n1_2 : p1 = 2
      · replace h := h.1 n1_2
        refine m_case (v := 2) (off := 43) (tgt := 44) (pc := 1) hx hb n1_2 dX5_putValue_1 (by decide) (by decide) (by decide) (by decide) ?_
        refine lv_aload_n (pc := 44) hx hb dX5_putValue_44 rfl (lv_at hl 0 rfl) ?_
        refine lv_iload_n (pc := 45) hx hb dX5_putValue_45 rfl (lv_at hl 2 rfl) ?_
        obtain ⟨hk5, h⟩ := h
        refine pX5_18 (pc := 46) (v := p2) C hK hP hS hk5 dX5_putValue_46 (fun M6 H locs eM6 hP hS => ?_)
        replace h := h M6 eM6
        refine lv_goto (tgt := 57) (pc := 49) hx hb dX5_putValue_49 (by decide) ?_
        exact m_vret (pc := 57) C hr hlk hP hS dX5_putValue_57 h
      · replace h := h.2 n1_2
        refine lv_tableOut (tgt := 52) (pc := 1) hx hb dX5_putValue_1 (by have i0 := i_ne n1_0; have i1 := i_ne n1_1; have i2 := i_ne n1_2; simp only [m_lit] at *; omega) (by decide) ?_
        refine lv_aload_n (pc := 52) hx hb dX5_putValue_52 rfl (lv_at hl 0 rfl) ?_
        refine lv_iload_n (pc := 53) hx hb dX5_putValue_53 rfl (lv_at hl 2 rfl) ?_
        obtain ⟨hk7, h⟩ := h
        refine pX5_21 (pc := 54) (v := p2) C hK hP hS hk7 dX5_putValue_54 (fun M8 H locs eM8 hP hS => ?_)
        replace h := h M8 eM8
        exact m_vret (pc := 57) C hr hlk hP hS dX5_putValue_57 h
/-! ForgeHeats$Shop.countMade ()I -/
def wpB_X5_countMade_4 (n : Nat) (P : Int32 → Mem → Prop) (R_ : Mem → Nat → Int32 → Int32 → Prop) (M : Mem) (x0 : Nat) (x1 : Int32) (x2 : Int32) : Prop := ((4 ≤ x2 → P x1 M) ∧ (¬ 4 ≤ x2 → m_tp n x0 5 ∧ (wp_X5_heatAt n M x0 x2 (fun j3 M1 => m_tp n j3 2 ∧ (∀ v5 : Int32, v5 = (x1 + (M1.1 j3 3)) → (∀ v6 : Int32, v6 = x2 + 1 → (R_ M1 x0 v5 v6)))))))
def wpL_X5_countMade_4 (n : Nat) (P : Int32 → Mem → Prop) : Nat → Mem → Nat → Int32 → Int32 → Prop
  | 0 => fun _ _ _ _ => False
  | f + 1 => fun M x0 x1 x2 => wpB_X5_countMade_4 n P (wpL_X5_countMade_4 n P f) M x0 x1 x2
def wp_X5_countMade (n : Nat) (M : Mem) (i : Nat) (P : Int32 → Mem → Prop) : Prop := ∃ f : Nat, wpL_X5_countMade_4 n P f M i 0 0
abbrev rm_X5_countMade : Room := { frames := 1, cells := 0, slots := 0, locals := 22 }
set_option maxHeartbeats 4000000 in
set_option maxRecDepth 100000 in
theorem c_X5_countMade {l : Launch} {D : va_G} {cA : Nat → ClassId} {b n : Nat} {M : Mem} {i : Nat} {P : Int32 → Mem → Prop} (h : wp_X5_countMade n M i P) : m_C l D cA b n n M yX5_countMade cX5_countMade 3 (some .int) rm_X5_countMade 0 0 [.ref (b + i)] (rI P) := by
  refine m_enter (by decide) (Nat.le_of_ble_eq_true rfl) (fun p e s m below meth c C hr hlk hnm hK hP hS ls hl => ?_)
  have hx := C.1
  have hb := C.2.1
  have hl : lv_has ls 3 [(0, .ref (b + i))] := hl
  have L4 : ∀ f : Nat, ∀ (M : Mem) (H : Heap) (locs : List Loc) (ls : Array Slot) (x0 : Nat) (x1 : Int32) (x2 : Int32), wpL_X5_countMade_4 n P f M x0 x1 x2 → m_H D cA b n M H → va_S (m_A b) s.heap H locs → lv_has ls 3 [(0, .ref (b + x0)), (1, .int x1), (2, .int x2)] → W p l e rm_X5_countMade s m ([.ref (b + i)] : List Value).toArray below meth c H locs 0 0 (MQ below (m_Q D cA b n (rI P)) ([.ref (b + i)] : List Value).toArray s 0 0 (m_A b)) (F0 m 4 ls []) := by
    clear h
    intro f
    induction f with
    | zero => intro M H locs ls x0 x1 x2 h; exact h.elim
    | succ f ih =>
      intro M H locs ls x0 x1 x2 h hP hS hl
      have h : wpB_X5_countMade_4 n P (wpL_X5_countMade_4 n P f) M x0 x1 x2 := h
      unfold wpB_X5_countMade_4 at h
      refine lv_iload_n (pc := 4) hx hb dX5_countMade_4 rfl (lv_at hl 2 rfl) ?_
      refine lv_iconst (v := 4) (pc := 5) hx hb dX5_countMade_5 (by decide) ?_
      refine lv_icmp_ge (tgt := 26) (pc := 6) hx hb dX5_countMade_6 (by decide) (fun c6 => ?_) (fun c6 => ?_)
      · replace h := h.1 c6
        refine lv_iload_n (pc := 26) hx hb dX5_countMade_26 rfl (lv_at hl 1 rfl) ?_
        exact m_iret (v := x1) (pc := 27) C hr hlk hP hS dX5_countMade_27 h
      · replace h := h.2 c6
        refine lv_iload_n (pc := 9) hx hb dX5_countMade_9 rfl (lv_at hl 1 rfl) ?_
        refine lv_aload_n (pc := 10) hx hb dX5_countMade_10 rfl (lv_at hl 0 rfl) ?_
        refine lv_iload_n (pc := 11) hx hb dX5_countMade_11 rfl (lv_at hl 2 rfl) ?_
        obtain ⟨hk2, h⟩ := h
        refine m_callVR (pc := 12) (y := yX5_heatAt) (κ := 5) (As := [.int x2]) (rest := [.int x1]) C hK hP hS hl.1 ⟨Nat.zero_le _, Nat.zero_le _⟩ (c_X5_heatAt h) rfl rfl hk2 (by decide) rfl q_347 q_348 q_349 q_2 q_350 ⟨rfl, rfl⟩ yd_X5_heatAt ⟨Nat.le_of_ble_eq_true rfl, Nat.le_of_ble_eq_true rfl⟩ (Nat.le_of_ble_eq_true rfl) dX5_countMade_12 (fun j3 M1 H locs h hP hS => ?_)
        obtain ⟨hk4, h⟩ := h
        refine gX5_169 (pc := 15) C hK hP hk4 dX5_countMade_15 ?_
        refine lv_iadd (pc := 18) hx hb dX5_countMade_18 ?_
        refine lv_topi (fun v5 ev5 => ?_)
        replace h := h v5 ev5
        refine lv_istore_n (lv' := [(1, .int v5), (0, .ref (b + x0)), (2, .int x2)]) (pc := 19) hx hb dX5_countMade_19 rfl hl (by decide) rfl (fun ls hl => ?_)
        obtain ⟨v6, ev6⟩ : ∃ y : Int32, y = x2 + 1 := ⟨_, rfl⟩
        replace h := h v6 ev6
        refine lv_iinc (v := v6) (lv' := [(2, .int v6), (1, .int v5), (0, .ref (b + x0))]) (pc := 20) hx hb dX5_countMade_20 hl (k := 2) rfl (by rw [ev6]; rfl) (by decide) rfl (fun ls hl => ?_)
        refine lv_goto (tgt := 4) (pc := 23) hx hb dX5_countMade_23 (by decide) ?_
        exact ih _ _ _ _ _ _ _ h hP hS (lv_sub hl [2, 1, 0] rfl)
  unfold wp_X5_countMade at h
  refine lv_iconst (v := 0) (pc := 0) hx hb dX5_countMade_0 (by decide) ?_
  refine lv_istore_n (lv' := [(1, .int 0), (0, .ref (b + i))]) (pc := 1) hx hb dX5_countMade_1 rfl hl (by decide) rfl (fun ls hl => ?_)
  refine lv_iconst (v := 0) (pc := 2) hx hb dX5_countMade_2 (by decide) ?_
  refine lv_istore_n (lv' := [(2, .int 0), (1, .int 0), (0, .ref (b + i))]) (pc := 3) hx hb dX5_countMade_3 rfl hl (by decide) rfl (fun ls hl => ?_)
  obtain ⟨f, h⟩ := h
  exact L4 f _ _ _ _ _ _ _ h hP hS (lv_sub hl [2, 1, 0] rfl)
/-! ForgeHeats$Shop.countScrap ()I -/
def wpB_X5_countScrap_4 (n : Nat) (P : Int32 → Mem → Prop) (R_ : Mem → Nat → Int32 → Int32 → Prop) (M : Mem) (x0 : Nat) (x1 : Int32) (x2 : Int32) : Prop := ((4 ≤ x2 → P x1 M) ∧ (¬ 4 ≤ x2 → m_tp n x0 5 ∧ (wp_X5_heatAt n M x0 x2 (fun j3 M1 => m_tp n j3 2 ∧ (∀ v5 : Int32, v5 = (x1 + (M1.1 j3 4)) → (∀ v6 : Int32, v6 = x2 + 1 → (R_ M1 x0 v5 v6)))))))
def wpL_X5_countScrap_4 (n : Nat) (P : Int32 → Mem → Prop) : Nat → Mem → Nat → Int32 → Int32 → Prop
  | 0 => fun _ _ _ _ => False
  | f + 1 => fun M x0 x1 x2 => wpB_X5_countScrap_4 n P (wpL_X5_countScrap_4 n P f) M x0 x1 x2
def wp_X5_countScrap (n : Nat) (M : Mem) (i : Nat) (P : Int32 → Mem → Prop) : Prop := ∃ f : Nat, wpL_X5_countScrap_4 n P f M i 0 0
abbrev rm_X5_countScrap : Room := { frames := 1, cells := 0, slots := 0, locals := 22 }
set_option maxHeartbeats 4000000 in
set_option maxRecDepth 100000 in
theorem c_X5_countScrap {l : Launch} {D : va_G} {cA : Nat → ClassId} {b n : Nat} {M : Mem} {i : Nat} {P : Int32 → Mem → Prop} (h : wp_X5_countScrap n M i P) : m_C l D cA b n n M yX5_countScrap cX5_countScrap 3 (some .int) rm_X5_countScrap 0 0 [.ref (b + i)] (rI P) := by
  refine m_enter (by decide) (Nat.le_of_ble_eq_true rfl) (fun p e s m below meth c C hr hlk hnm hK hP hS ls hl => ?_)
  have hx := C.1
  have hb := C.2.1
  have hl : lv_has ls 3 [(0, .ref (b + i))] := hl
  have L4 : ∀ f : Nat, ∀ (M : Mem) (H : Heap) (locs : List Loc) (ls : Array Slot) (x0 : Nat) (x1 : Int32) (x2 : Int32), wpL_X5_countScrap_4 n P f M x0 x1 x2 → m_H D cA b n M H → va_S (m_A b) s.heap H locs → lv_has ls 3 [(0, .ref (b + x0)), (1, .int x1), (2, .int x2)] → W p l e rm_X5_countScrap s m ([.ref (b + i)] : List Value).toArray below meth c H locs 0 0 (MQ below (m_Q D cA b n (rI P)) ([.ref (b + i)] : List Value).toArray s 0 0 (m_A b)) (F0 m 4 ls []) := by
    clear h
    intro f
    induction f with
    | zero => intro M H locs ls x0 x1 x2 h; exact h.elim
    | succ f ih =>
      intro M H locs ls x0 x1 x2 h hP hS hl
      have h : wpB_X5_countScrap_4 n P (wpL_X5_countScrap_4 n P f) M x0 x1 x2 := h
      unfold wpB_X5_countScrap_4 at h
      refine lv_iload_n (pc := 4) hx hb dX5_countScrap_4 rfl (lv_at hl 2 rfl) ?_
      refine lv_iconst (v := 4) (pc := 5) hx hb dX5_countScrap_5 (by decide) ?_
      refine lv_icmp_ge (tgt := 26) (pc := 6) hx hb dX5_countScrap_6 (by decide) (fun c6 => ?_) (fun c6 => ?_)
      · replace h := h.1 c6
        refine lv_iload_n (pc := 26) hx hb dX5_countScrap_26 rfl (lv_at hl 1 rfl) ?_
        exact m_iret (v := x1) (pc := 27) C hr hlk hP hS dX5_countScrap_27 h
      · replace h := h.2 c6
        refine lv_iload_n (pc := 9) hx hb dX5_countScrap_9 rfl (lv_at hl 1 rfl) ?_
        refine lv_aload_n (pc := 10) hx hb dX5_countScrap_10 rfl (lv_at hl 0 rfl) ?_
        refine lv_iload_n (pc := 11) hx hb dX5_countScrap_11 rfl (lv_at hl 2 rfl) ?_
        obtain ⟨hk2, h⟩ := h
        refine m_callVR (pc := 12) (y := yX5_heatAt) (κ := 5) (As := [.int x2]) (rest := [.int x1]) C hK hP hS hl.1 ⟨Nat.zero_le _, Nat.zero_le _⟩ (c_X5_heatAt h) rfl rfl hk2 (by decide) rfl q_347 q_348 q_349 q_2 q_350 ⟨rfl, rfl⟩ yd_X5_heatAt ⟨Nat.le_of_ble_eq_true rfl, Nat.le_of_ble_eq_true rfl⟩ (Nat.le_of_ble_eq_true rfl) dX5_countScrap_12 (fun j3 M1 H locs h hP hS => ?_)
        obtain ⟨hk4, h⟩ := h
        refine gX5_162 (pc := 15) C hK hP hk4 dX5_countScrap_15 ?_
        refine lv_iadd (pc := 18) hx hb dX5_countScrap_18 ?_
        refine lv_topi (fun v5 ev5 => ?_)
        replace h := h v5 ev5
        refine lv_istore_n (lv' := [(1, .int v5), (0, .ref (b + x0)), (2, .int x2)]) (pc := 19) hx hb dX5_countScrap_19 rfl hl (by decide) rfl (fun ls hl => ?_)
        obtain ⟨v6, ev6⟩ : ∃ y : Int32, y = x2 + 1 := ⟨_, rfl⟩
        replace h := h v6 ev6
        refine lv_iinc (v := v6) (lv' := [(2, .int v6), (1, .int v5), (0, .ref (b + x0))]) (pc := 20) hx hb dX5_countScrap_20 hl (k := 2) rfl (by rw [ev6]; rfl) (by decide) rfl (fun ls hl => ?_)
        refine lv_goto (tgt := 4) (pc := 23) hx hb dX5_countScrap_23 (by decide) ?_
        exact ih _ _ _ _ _ _ _ h hP hS (lv_sub hl [2, 1, 0] rfl)
  unfold wp_X5_countScrap at h
  refine lv_iconst (v := 0) (pc := 0) hx hb dX5_countScrap_0 (by decide) ?_
  refine lv_istore_n (lv' := [(1, .int 0), (0, .ref (b + i))]) (pc := 1) hx hb dX5_countScrap_1 rfl hl (by decide) rfl (fun ls hl => ?_)
  refine lv_iconst (v := 0) (pc := 2) hx hb dX5_countScrap_2 (by decide) ?_
  refine lv_istore_n (lv' := [(2, .int 0), (1, .int 0), (0, .ref (b + i))]) (pc := 3) hx hb dX5_countScrap_3 rfl hl (by decide) rfl (fun ls hl => ?_)
  obtain ⟨f, h⟩ := h
  exact L4 f _ _ _ _ _ _ _ h hP hS (lv_sub hl [2, 1, 0] rfl)
/-! ForgeHeats$Shop.countRushJobs ()I -/
def wpB_X5_countRushJobs_4 (n : Nat) (P : Int32 → Mem → Prop) (R_ : Mem → Nat → Int32 → Int32 → Prop) (M : Mem) (x0 : Nat) (x1 : Int32) (x2 : Int32) : Prop := m_tp n x0 5 ∧ ((((M.1 x0 5) ≤ x2 → P x1 M) ∧ (¬ (M.1 x0 5) ≤ x2 → wp_X5_jobAt n M x0 x2 (fun j3 M2 => m_tp n j3 3 ∧ ((((M2.1 j3 6 != 0) = false → ∀ v5 : Int32, v5 = x2 + 1 → (R_ M2 x0 x1 v5)) ∧ ((M2.1 j3 6 != 0) = true → ∀ v6 : Int32, v6 = x1 + 1 → (∀ v7 : Int32, v7 = x2 + 1 → (R_ M2 x0 v6 v7)))))))))
def wpL_X5_countRushJobs_4 (n : Nat) (P : Int32 → Mem → Prop) : Nat → Mem → Nat → Int32 → Int32 → Prop
  | 0 => fun _ _ _ _ => False
  | f + 1 => fun M x0 x1 x2 => wpB_X5_countRushJobs_4 n P (wpL_X5_countRushJobs_4 n P f) M x0 x1 x2
def wp_X5_countRushJobs (n : Nat) (M : Mem) (i : Nat) (P : Int32 → Mem → Prop) : Prop := ∃ f : Nat, wpL_X5_countRushJobs_4 n P f M i 0 0
abbrev rm_X5_countRushJobs : Room := { frames := 1, cells := 0, slots := 0, locals := 22 }
set_option maxHeartbeats 4000000 in
set_option maxRecDepth 100000 in
theorem c_X5_countRushJobs {l : Launch} {D : va_G} {cA : Nat → ClassId} {b n : Nat} {M : Mem} {i : Nat} {P : Int32 → Mem → Prop} (h : wp_X5_countRushJobs n M i P) : m_C l D cA b n n M yX5_countRushJobs cX5_countRushJobs 3 (some .int) rm_X5_countRushJobs 0 0 [.ref (b + i)] (rI P) := by
  refine m_enter (by decide) (Nat.le_of_ble_eq_true rfl) (fun p e s m below meth c C hr hlk hnm hK hP hS ls hl => ?_)
  have hx := C.1
  have hb := C.2.1
  have hl : lv_has ls 3 [(0, .ref (b + i))] := hl
  have L4 : ∀ f : Nat, ∀ (M : Mem) (H : Heap) (locs : List Loc) (ls : Array Slot) (x0 : Nat) (x1 : Int32) (x2 : Int32), wpL_X5_countRushJobs_4 n P f M x0 x1 x2 → m_H D cA b n M H → va_S (m_A b) s.heap H locs → lv_has ls 3 [(0, .ref (b + x0)), (1, .int x1), (2, .int x2)] → W p l e rm_X5_countRushJobs s m ([.ref (b + i)] : List Value).toArray below meth c H locs 0 0 (MQ below (m_Q D cA b n (rI P)) ([.ref (b + i)] : List Value).toArray s 0 0 (m_A b)) (F0 m 4 ls []) := by
    clear h
    intro f
    induction f with
    | zero => intro M H locs ls x0 x1 x2 h; exact h.elim
    | succ f ih =>
      intro M H locs ls x0 x1 x2 h hP hS hl
      have h : wpB_X5_countRushJobs_4 n P (wpL_X5_countRushJobs_4 n P f) M x0 x1 x2 := h
      unfold wpB_X5_countRushJobs_4 at h
      refine lv_iload_n (pc := 4) hx hb dX5_countRushJobs_4 rfl (lv_at hl 2 rfl) ?_
      refine lv_aload_n (pc := 5) hx hb dX5_countRushJobs_5 rfl (lv_at hl 0 rfl) ?_
      obtain ⟨hk1, h⟩ := h
      refine gX5_83 (pc := 6) C hK hP hk1 dX5_countRushJobs_6 ?_
      refine lv_icmp_ge (tgt := 32) (pc := 9) hx hb dX5_countRushJobs_9 (by decide) (fun c9 => ?_) (fun c9 => ?_)
      · replace h := h.1 c9
        refine lv_iload_n (pc := 32) hx hb dX5_countRushJobs_32 rfl (lv_at hl 1 rfl) ?_
        exact m_iret (v := x1) (pc := 33) C hr hlk hP hS dX5_countRushJobs_33 h
      · replace h := h.2 c9
        refine lv_aload_n (pc := 12) hx hb dX5_countRushJobs_12 rfl (lv_at hl 0 rfl) ?_
        refine lv_iload_n (pc := 13) hx hb dX5_countRushJobs_13 rfl (lv_at hl 2 rfl) ?_
        refine m_callVR (pc := 14) (y := yX5_jobAt) (κ := 5) (As := [.int x2]) (rest := []) C hK hP hS hl.1 ⟨Nat.zero_le _, Nat.zero_le _⟩ (c_X5_jobAt h) rfl rfl hk1 (by decide) rfl q_363 q_364 q_365 q_2 q_366 ⟨rfl, rfl⟩ yd_X5_jobAt ⟨Nat.le_of_ble_eq_true rfl, Nat.le_of_ble_eq_true rfl⟩ (Nat.le_of_ble_eq_true rfl) dX5_countRushJobs_14 (fun j3 M2 H locs h hP hS => ?_)
        obtain ⟨hk4, h⟩ := h
        refine gX5_140 (pc := 17) C hK hP hk4 dX5_countRushJobs_17 ?_
        refine lv_if_eq (tgt := 26) (pc := 20) hx hb dX5_countRushJobs_20 (by decide) (fun c20 => ?_) (fun c20 => ?_)
        · replace h := h.1 (bZ0 c20)
          obtain ⟨v5, ev5⟩ : ∃ y : Int32, y = x2 + 1 := ⟨_, rfl⟩
          replace h := h v5 ev5
          refine lv_iinc (v := v5) (lv' := [(2, .int v5), (0, .ref (b + x0)), (1, .int x1)]) (pc := 26) hx hb dX5_countRushJobs_26 hl (k := 2) rfl (by rw [ev5]; rfl) (by decide) rfl (fun ls hl => ?_)
          refine lv_goto (tgt := 4) (pc := 29) hx hb dX5_countRushJobs_29 (by decide) ?_
          exact ih _ _ _ _ _ _ _ h hP hS (lv_sub hl [1, 2, 0] rfl)
        · replace h := h.2 (bZ1 c20)
          obtain ⟨v6, ev6⟩ : ∃ y : Int32, y = x1 + 1 := ⟨_, rfl⟩
          replace h := h v6 ev6
          refine lv_iinc (v := v6) (lv' := [(1, .int v6), (0, .ref (b + x0)), (2, .int x2)]) (pc := 23) hx hb dX5_countRushJobs_23 hl (k := 1) rfl (by rw [ev6]; rfl) (by decide) rfl (fun ls hl => ?_)
          obtain ⟨v7, ev7⟩ : ∃ y : Int32, y = x2 + 1 := ⟨_, rfl⟩
          replace h := h v7 ev7
          refine lv_iinc (v := v7) (lv' := [(2, .int v7), (1, .int v6), (0, .ref (b + x0))]) (pc := 26) hx hb dX5_countRushJobs_26 hl (k := 2) rfl (by rw [ev7]; rfl) (by decide) rfl (fun ls hl => ?_)
          refine lv_goto (tgt := 4) (pc := 29) hx hb dX5_countRushJobs_29 (by decide) ?_
          exact ih _ _ _ _ _ _ _ h hP hS (lv_sub hl [2, 1, 0] rfl)
  unfold wp_X5_countRushJobs at h
  refine lv_iconst (v := 0) (pc := 0) hx hb dX5_countRushJobs_0 (by decide) ?_
  refine lv_istore_n (lv' := [(1, .int 0), (0, .ref (b + i))]) (pc := 1) hx hb dX5_countRushJobs_1 rfl hl (by decide) rfl (fun ls hl => ?_)
  refine lv_iconst (v := 0) (pc := 2) hx hb dX5_countRushJobs_2 (by decide) ?_
  refine lv_istore_n (lv' := [(2, .int 0), (1, .int 0), (0, .ref (b + i))]) (pc := 3) hx hb dX5_countRushJobs_3 rfl hl (by decide) rfl (fun ls hl => ?_)
  obtain ⟨f, h⟩ := h
  exact L4 f _ _ _ _ _ _ _ h hP hS (lv_sub hl [2, 1, 0] rfl)
/-! ForgeHeats$Shop.countInFurnace ()I -/
def wpB_X5_countInFurnace_13 (n : Nat) (P : Int32 → Mem → Prop) (R_ : Mem → Int32 → Nat → Int32 → Int32 → Prop) (M : Mem) (x1 : Int32) (x2 : Nat) (x3 : Int32) (x4 : Int32) : Prop := ((x3 ≤ x4 → P x1 M) ∧ (¬ x3 ≤ x4 → m_tp n x2 11 ∧ (vp_in x4 (m_len x2) ∧ (∃ j7 : Nat, M.2.1 x2 x4.toNatClampNeg = some j7 ∧ (m_tp n j7 0 ∧ ((((M.1 j7 0) = (-1) → ∀ v9 : Int32, v9 = x4 + 1 → (R_ M x1 x2 x3 v9)) ∧ (¬ (M.1 j7 0) = (-1) → ∀ v10 : Int32, v10 = x1 + 1 → (∀ v11 : Int32, v11 = x4 + 1 → (R_ M v10 x2 x3 v11))))))))))
def wpL_X5_countInFurnace_13 (n : Nat) (P : Int32 → Mem → Prop) : Nat → Mem → Int32 → Nat → Int32 → Int32 → Prop
  | 0 => fun _ _ _ _ _ => False
  | f + 1 => fun M x1 x2 x3 x4 => wpB_X5_countInFurnace_13 n P (wpL_X5_countInFurnace_13 n P f) M x1 x2 x3 x4
def wp_X5_countInFurnace (n : Nat) (M : Mem) (i : Nat) (P : Int32 → Mem → Prop) : Prop := m_tp n i 5 ∧ (∃ j2 : Nat, M.2.1 i 3 = some j2 ∧ (m_tp n j2 11 ∧ (∀ v4 : Int32, v4 = (nI (m_len j2)) → (∃ f : Nat, wpL_X5_countInFurnace_13 n P f M 0 j2 v4 0))))
abbrev rm_X5_countInFurnace : Room := { frames := 0, cells := 0, slots := 0, locals := 0 }
set_option maxHeartbeats 4000000 in
set_option maxRecDepth 100000 in
theorem c_X5_countInFurnace {l : Launch} {D : va_G} {cA : Nat → ClassId} {b n : Nat} {M : Mem} {i : Nat} {P : Int32 → Mem → Prop} (h : wp_X5_countInFurnace n M i P) : m_C l D cA b n n M yX5_countInFurnace cX5_countInFurnace 6 (some .int) rm_X5_countInFurnace 0 0 [.ref (b + i)] (rI P) := by
  refine m_enter (by decide) (Nat.le_of_ble_eq_true rfl) (fun p e s m below meth c C hr hlk hnm hK hP hS ls hl => ?_)
  have hx := C.1
  have hb := C.2.1
  have hl : lv_has ls 6 [(0, .ref (b + i))] := hl
  have L13 : ∀ f : Nat, ∀ (M : Mem) (H : Heap) (locs : List Loc) (ls : Array Slot) (x1 : Int32) (x2 : Nat) (x3 : Int32) (x4 : Int32), wpL_X5_countInFurnace_13 n P f M x1 x2 x3 x4 → m_H D cA b n M H → va_S (m_A b) s.heap H locs → lv_has ls 6 [(1, .int x1), (2, .ref (b + x2)), (3, .int x3), (4, .int x4)] → W p l e rm_X5_countInFurnace s m ([.ref (b + i)] : List Value).toArray below meth c H locs 0 0 (MQ below (m_Q D cA b n (rI P)) ([.ref (b + i)] : List Value).toArray s 0 0 (m_A b)) (F0 m 13 ls []) := by
    clear h
    intro f
    induction f with
    | zero => intro M H locs ls x1 x2 x3 x4 h; exact h.elim
    | succ f ih =>
      intro M H locs ls x1 x2 x3 x4 h hP hS hl
      have h : wpB_X5_countInFurnace_13 n P (wpL_X5_countInFurnace_13 n P f) M x1 x2 x3 x4 := h
      unfold wpB_X5_countInFurnace_13 at h
      refine lv_iload (pc := 13) hx hb dX5_countInFurnace_13 (lv_at hl 3 rfl) ?_
      refine lv_iload_n (pc := 15) hx hb dX5_countInFurnace_15 rfl (lv_at hl 2 rfl) ?_
      refine lv_icmp_ge (tgt := 48) (pc := 16) hx hb dX5_countInFurnace_16 (by decide) (fun c16 => ?_) (fun c16 => ?_)
      · replace h := h.1 c16
        refine lv_iload_n (pc := 48) hx hb dX5_countInFurnace_48 rfl (lv_at hl 0 rfl) ?_
        exact m_iret (v := x1) (pc := 49) C hr hlk hP hS dX5_countInFurnace_49 h
      · replace h := h.2 c16
        refine lv_aload_n (pc := 19) hx hb dX5_countInFurnace_19 rfl (lv_at hl 1 rfl) ?_
        refine lv_iload (pc := 20) hx hb dX5_countInFurnace_20 (lv_at hl 3 rfl) ?_
        obtain ⟨hk5, h⟩ := h
        obtain ⟨hi6, h⟩ := h
        obtain ⟨j7, hj7, h⟩ := h
        refine m_aldq (pc := 22) (κ := 11) C hK hP hk5 (by decide) rfl hi6 hj7 dX5_countInFurnace_22 ?_
        refine lv_astore (lv' := [(5, .ref (b + j7)), (1, .int x1), (2, .ref (b + x2)), (3, .int x3), (4, .int x4)]) (pc := 23) hx hb dX5_countInFurnace_23 hl (by decide) rfl (fun ls hl => ?_)
        refine lv_aload (pc := 25) hx hb dX5_countInFurnace_25 (lv_at hl 0 rfl) ?_
        refine lv_ifnull (pc := 27) hx hb dX5_countInFurnace_27 ?_
        refine lv_aload (pc := 30) hx hb dX5_countInFurnace_30 (lv_at hl 0 rfl) ?_
        obtain ⟨hk8, h⟩ := h
        refine gX5_159 (pc := 32) C hK hP hk8 dX5_countInFurnace_32 ?_
        refine lv_iconst (v := -1) (pc := 35) hx hb dX5_countInFurnace_35 (by decide) ?_
        refine lv_icmp_eq (tgt := 42) (pc := 36) hx hb dX5_countInFurnace_36 (by decide) (fun c36 => ?_) (fun c36 => ?_)
        · replace h := h.1 c36
          obtain ⟨v9, ev9⟩ : ∃ y : Int32, y = x4 + 1 := ⟨_, rfl⟩
          replace h := h v9 ev9
          refine lv_iinc (v := v9) (lv' := [(4, .int v9), (5, .ref (b + j7)), (1, .int x1), (2, .ref (b + x2)), (3, .int x3)]) (pc := 42) hx hb dX5_countInFurnace_42 hl (k := 4) rfl (by rw [ev9]; rfl) (by decide) rfl (fun ls hl => ?_)
          refine lv_goto (tgt := 13) (pc := 45) hx hb dX5_countInFurnace_45 (by decide) ?_
          exact ih _ _ _ _ _ _ _ _ h hP hS (lv_sub hl [2, 3, 4, 0] rfl)
        · replace h := h.2 c36
          obtain ⟨v10, ev10⟩ : ∃ y : Int32, y = x1 + 1 := ⟨_, rfl⟩
          replace h := h v10 ev10
          refine lv_iinc (v := v10) (lv' := [(1, .int v10), (5, .ref (b + j7)), (2, .ref (b + x2)), (3, .int x3), (4, .int x4)]) (pc := 39) hx hb dX5_countInFurnace_39 hl (k := 1) rfl (by rw [ev10]; rfl) (by decide) rfl (fun ls hl => ?_)
          obtain ⟨v11, ev11⟩ : ∃ y : Int32, y = x4 + 1 := ⟨_, rfl⟩
          replace h := h v11 ev11
          refine lv_iinc (v := v11) (lv' := [(4, .int v11), (1, .int v10), (5, .ref (b + j7)), (2, .ref (b + x2)), (3, .int x3)]) (pc := 42) hx hb dX5_countInFurnace_42 hl (k := 4) rfl (by rw [ev11]; rfl) (by decide) rfl (fun ls hl => ?_)
          refine lv_goto (tgt := 13) (pc := 45) hx hb dX5_countInFurnace_45 (by decide) ?_
          exact ih _ _ _ _ _ _ _ _ h hP hS (lv_sub hl [1, 3, 4, 0] rfl)
  unfold wp_X5_countInFurnace at h
  refine lv_iconst (v := 0) (pc := 0) hx hb dX5_countInFurnace_0 (by decide) ?_
  refine lv_istore_n (lv' := [(1, .int 0), (0, .ref (b + i))]) (pc := 1) hx hb dX5_countInFurnace_1 rfl hl (by decide) rfl (fun ls hl => ?_)
  refine lv_aload_n (pc := 2) hx hb dX5_countInFurnace_2 rfl (lv_at hl 1 rfl) ?_
  obtain ⟨hk1, h⟩ := h
  obtain ⟨j2, hj2, h⟩ := h
  refine gX5_47 (pc := 3) C hK hP hk1 hj2 dX5_countInFurnace_3 ?_
  refine lv_astore_n (lv' := [(2, .ref (b + j2)), (1, .int 0), (0, .ref (b + i))]) (pc := 6) hx hb dX5_countInFurnace_6 rfl hl (by decide) rfl (fun ls hl => ?_)
  refine lv_aload_n (pc := 7) hx hb dX5_countInFurnace_7 rfl (lv_at hl 0 rfl) ?_
  obtain ⟨hk3, h⟩ := h
  refine m_alen (pc := 8) (κ := 11) C hK hP hk3 (by decide) rfl dX5_countInFurnace_8 ?_
  refine lv_topi (fun v4 ev4 => ?_)
  replace h := h v4 ev4
  refine lv_istore_n (lv' := [(3, .int v4), (2, .ref (b + j2)), (1, .int 0), (0, .ref (b + i))]) (pc := 9) hx hb dX5_countInFurnace_9 rfl hl (by decide) rfl (fun ls hl => ?_)
  refine lv_iconst (v := 0) (pc := 10) hx hb dX5_countInFurnace_10 (by decide) ?_
  refine lv_istore (lv' := [(4, .int 0), (3, .int v4), (2, .ref (b + j2)), (1, .int 0), (0, .ref (b + i))]) (pc := 11) hx hb dX5_countInFurnace_11 hl (by decide) rfl (fun ls hl => ?_)
  obtain ⟨f, h⟩ := h
  exact L13 f _ _ _ _ _ _ _ _ h hP hS (lv_sub hl [3, 2, 1, 0] rfl)
/-! ForgeHeats$Shop.countBilletsOf (I)I -/
def wpB_X5_countBilletsOf_4 (n : Nat) (P : Int32 → Mem → Prop) (R_ : Mem → Nat → Int32 → Int32 → Int32 → Prop) (M : Mem) (x0 : Nat) (x1 : Int32) (x2 : Int32) (x3 : Int32) : Prop := m_tp n x0 5 ∧ ((((M.1 x0 5) ≤ x3 → P x2 M) ∧ (¬ (M.1 x0 5) ≤ x3 → wp_X5_jobAt n M x0 x3 (fun j3 M2 => m_tp n j3 3 ∧ (((¬ (M2.1 j3 2) = x1 → ∀ v5 : Int32, v5 = x3 + 1 → (R_ M2 x0 x1 x2 v5)) ∧ ((M2.1 j3 2) = x1 → ∀ v6 : Int32, v6 = (x2 + (M2.1 j3 7)) → (∀ v7 : Int32, v7 = x3 + 1 → (R_ M2 x0 x1 v6 v7)))))))))
def wpL_X5_countBilletsOf_4 (n : Nat) (P : Int32 → Mem → Prop) : Nat → Mem → Nat → Int32 → Int32 → Int32 → Prop
  | 0 => fun _ _ _ _ _ => False
  | f + 1 => fun M x0 x1 x2 x3 => wpB_X5_countBilletsOf_4 n P (wpL_X5_countBilletsOf_4 n P f) M x0 x1 x2 x3
def wp_X5_countBilletsOf (n : Nat) (M : Mem) (i : Nat) (p1 : Int32) (P : Int32 → Mem → Prop) : Prop := ∃ f : Nat, wpL_X5_countBilletsOf_4 n P f M i p1 0 0
abbrev rm_X5_countBilletsOf : Room := { frames := 1, cells := 0, slots := 0, locals := 22 }
set_option maxHeartbeats 4000000 in
set_option maxRecDepth 100000 in
theorem c_X5_countBilletsOf {l : Launch} {D : va_G} {cA : Nat → ClassId} {b n : Nat} {M : Mem} {i : Nat} {p1 : Int32} {P : Int32 → Mem → Prop} (h : wp_X5_countBilletsOf n M i p1 P) : m_C l D cA b n n M yX5_countBilletsOf cX5_countBilletsOf 5 (some .int) rm_X5_countBilletsOf 0 0 [.ref (b + i), .int p1] (rI P) := by
  refine m_enter (by decide) (Nat.le_of_ble_eq_true rfl) (fun p e s m below meth c C hr hlk hnm hK hP hS ls hl => ?_)
  have hx := C.1
  have hb := C.2.1
  have hl : lv_has ls 5 [(0, .ref (b + i)), (1, .int p1)] := hl
  have L4 : ∀ f : Nat, ∀ (M : Mem) (H : Heap) (locs : List Loc) (ls : Array Slot) (x0 : Nat) (x1 : Int32) (x2 : Int32) (x3 : Int32), wpL_X5_countBilletsOf_4 n P f M x0 x1 x2 x3 → m_H D cA b n M H → va_S (m_A b) s.heap H locs → lv_has ls 5 [(0, .ref (b + x0)), (1, .int x1), (2, .int x2), (3, .int x3)] → W p l e rm_X5_countBilletsOf s m ([.ref (b + i), .int p1] : List Value).toArray below meth c H locs 0 0 (MQ below (m_Q D cA b n (rI P)) ([.ref (b + i), .int p1] : List Value).toArray s 0 0 (m_A b)) (F0 m 4 ls []) := by
    clear h
    intro f
    induction f with
    | zero => intro M H locs ls x0 x1 x2 x3 h; exact h.elim
    | succ f ih =>
      intro M H locs ls x0 x1 x2 x3 h hP hS hl
      have h : wpB_X5_countBilletsOf_4 n P (wpL_X5_countBilletsOf_4 n P f) M x0 x1 x2 x3 := h
      unfold wpB_X5_countBilletsOf_4 at h
      refine lv_iload_n (pc := 4) hx hb dX5_countBilletsOf_4 rfl (lv_at hl 3 rfl) ?_
      refine lv_aload_n (pc := 5) hx hb dX5_countBilletsOf_5 rfl (lv_at hl 0 rfl) ?_
      obtain ⟨hk1, h⟩ := h
      refine gX5_83 (pc := 6) C hK hP hk1 dX5_countBilletsOf_6 ?_
      refine lv_icmp_ge (tgt := 42) (pc := 9) hx hb dX5_countBilletsOf_9 (by decide) (fun c9 => ?_) (fun c9 => ?_)
      · replace h := h.1 c9
        refine lv_iload_n (pc := 42) hx hb dX5_countBilletsOf_42 rfl (lv_at hl 2 rfl) ?_
        exact m_iret (v := x2) (pc := 43) C hr hlk hP hS dX5_countBilletsOf_43 h
      · replace h := h.2 c9
        refine lv_aload_n (pc := 12) hx hb dX5_countBilletsOf_12 rfl (lv_at hl 0 rfl) ?_
        refine lv_iload_n (pc := 13) hx hb dX5_countBilletsOf_13 rfl (lv_at hl 3 rfl) ?_
        refine m_callVR (pc := 14) (y := yX5_jobAt) (κ := 5) (As := [.int x3]) (rest := []) C hK hP hS hl.1 ⟨Nat.zero_le _, Nat.zero_le _⟩ (c_X5_jobAt h) rfl rfl hk1 (by decide) rfl q_363 q_364 q_365 q_2 q_366 ⟨rfl, rfl⟩ yd_X5_jobAt ⟨Nat.le_of_ble_eq_true rfl, Nat.le_of_ble_eq_true rfl⟩ (Nat.le_of_ble_eq_true rfl) dX5_countBilletsOf_14 (fun j3 M2 H locs h hP hS => ?_)
        refine lv_astore (lv' := [(4, .ref (b + j3)), (0, .ref (b + x0)), (1, .int x1), (2, .int x2), (3, .int x3)]) (pc := 17) hx hb dX5_countBilletsOf_17 hl (by decide) rfl (fun ls hl => ?_)
        refine lv_aload (pc := 19) hx hb dX5_countBilletsOf_19 (lv_at hl 0 rfl) ?_
        obtain ⟨hk4, h⟩ := h
        refine gX5_128 (pc := 21) C hK hP hk4 dX5_countBilletsOf_21 ?_
        refine lv_iload_n (pc := 24) hx hb dX5_countBilletsOf_24 rfl (lv_at hl 2 rfl) ?_
        refine lv_icmp_ne (tgt := 36) (pc := 25) hx hb dX5_countBilletsOf_25 (by decide) (fun c25 => ?_) (fun c25 => ?_)
        · replace h := h.1 c25
          obtain ⟨v5, ev5⟩ : ∃ y : Int32, y = x3 + 1 := ⟨_, rfl⟩
          replace h := h v5 ev5
          refine lv_iinc (v := v5) (lv' := [(3, .int v5), (4, .ref (b + j3)), (0, .ref (b + x0)), (1, .int x1), (2, .int x2)]) (pc := 36) hx hb dX5_countBilletsOf_36 hl (k := 4) rfl (by rw [ev5]; rfl) (by decide) rfl (fun ls hl => ?_)
          refine lv_goto (tgt := 4) (pc := 39) hx hb dX5_countBilletsOf_39 (by decide) ?_
          exact ih _ _ _ _ _ _ _ _ h hP hS (lv_sub hl [2, 3, 4, 0] rfl)
        · replace h := h.2 c25
          refine lv_iload_n (pc := 28) hx hb dX5_countBilletsOf_28 rfl (lv_at hl 3 rfl) ?_
          refine lv_aload (pc := 29) hx hb dX5_countBilletsOf_29 (lv_at hl 0 rfl) ?_
          refine gX5_144 (pc := 31) C hK hP hk4 dX5_countBilletsOf_31 ?_
          refine lv_iadd (pc := 34) hx hb dX5_countBilletsOf_34 ?_
          refine lv_topi (fun v6 ev6 => ?_)
          replace h := h v6 ev6
          refine lv_istore_n (lv' := [(2, .int v6), (4, .ref (b + j3)), (0, .ref (b + x0)), (1, .int x1), (3, .int x3)]) (pc := 35) hx hb dX5_countBilletsOf_35 rfl hl (by decide) rfl (fun ls hl => ?_)
          obtain ⟨v7, ev7⟩ : ∃ y : Int32, y = x3 + 1 := ⟨_, rfl⟩
          replace h := h v7 ev7
          refine lv_iinc (v := v7) (lv' := [(3, .int v7), (2, .int v6), (4, .ref (b + j3)), (0, .ref (b + x0)), (1, .int x1)]) (pc := 36) hx hb dX5_countBilletsOf_36 hl (k := 4) rfl (by rw [ev7]; rfl) (by decide) rfl (fun ls hl => ?_)
          refine lv_goto (tgt := 4) (pc := 39) hx hb dX5_countBilletsOf_39 (by decide) ?_
          exact ih _ _ _ _ _ _ _ _ h hP hS (lv_sub hl [3, 4, 1, 0] rfl)
  unfold wp_X5_countBilletsOf at h
  refine lv_iconst (v := 0) (pc := 0) hx hb dX5_countBilletsOf_0 (by decide) ?_
  refine lv_istore_n (lv' := [(2, .int 0), (0, .ref (b + i)), (1, .int p1)]) (pc := 1) hx hb dX5_countBilletsOf_1 rfl hl (by decide) rfl (fun ls hl => ?_)
  refine lv_iconst (v := 0) (pc := 2) hx hb dX5_countBilletsOf_2 (by decide) ?_
  refine lv_istore_n (lv' := [(3, .int 0), (2, .int 0), (0, .ref (b + i)), (1, .int p1)]) (pc := 3) hx hb dX5_countBilletsOf_3 rfl hl (by decide) rfl (fun ls hl => ?_)
  obtain ⟨f, h⟩ := h
  exact L4 f _ _ _ _ _ _ _ _ h hP hS (lv_sub hl [2, 3, 1, 0] rfl)
/-! ForgeHeats$Shop.countLackOf (I)I -/
def wpB_X5_countLackOf_4 (n : Nat) (P : Int32 → Mem → Prop) (R_ : Mem → Nat → Int32 → Int32 → Int32 → Prop) (M : Mem) (x0 : Nat) (x1 : Int32) (x2 : Int32) (x3 : Int32) : Prop := m_tp n x0 5 ∧ ((((M.1 x0 5) ≤ x3 → P x2 M) ∧ (¬ (M.1 x0 5) ≤ x3 → wp_X5_jobAt n M x0 x3 (fun j3 M2 => m_tp n j3 3 ∧ (((¬ (M2.1 j3 2) = x1 → ∀ v5 : Int32, v5 = x3 + 1 → (R_ M2 x0 x1 x2 v5)) ∧ ((M2.1 j3 2) = x1 → wp_X3_lack n M2 j3 (fun r7 M6 => ∀ v8 : Int32, v8 = (x2 + r7) → (∀ v9 : Int32, v9 = x3 + 1 → (R_ M6 x0 x1 v8 v9))))))))))
def wpL_X5_countLackOf_4 (n : Nat) (P : Int32 → Mem → Prop) : Nat → Mem → Nat → Int32 → Int32 → Int32 → Prop
  | 0 => fun _ _ _ _ _ => False
  | f + 1 => fun M x0 x1 x2 x3 => wpB_X5_countLackOf_4 n P (wpL_X5_countLackOf_4 n P f) M x0 x1 x2 x3
def wp_X5_countLackOf (n : Nat) (M : Mem) (i : Nat) (p1 : Int32) (P : Int32 → Mem → Prop) : Prop := ∃ f : Nat, wpL_X5_countLackOf_4 n P f M i p1 0 0
abbrev rm_X5_countLackOf : Room := { frames := 1, cells := 0, slots := 0, locals := 22 }
set_option maxHeartbeats 4000000 in
set_option maxRecDepth 100000 in
theorem c_X5_countLackOf {l : Launch} {D : va_G} {cA : Nat → ClassId} {b n : Nat} {M : Mem} {i : Nat} {p1 : Int32} {P : Int32 → Mem → Prop} (h : wp_X5_countLackOf n M i p1 P) : m_C l D cA b n n M yX5_countLackOf cX5_countLackOf 5 (some .int) rm_X5_countLackOf 0 0 [.ref (b + i), .int p1] (rI P) := by
  refine m_enter (by decide) (Nat.le_of_ble_eq_true rfl) (fun p e s m below meth c C hr hlk hnm hK hP hS ls hl => ?_)
  have hx := C.1
  have hb := C.2.1
  have hl : lv_has ls 5 [(0, .ref (b + i)), (1, .int p1)] := hl
  have L4 : ∀ f : Nat, ∀ (M : Mem) (H : Heap) (locs : List Loc) (ls : Array Slot) (x0 : Nat) (x1 : Int32) (x2 : Int32) (x3 : Int32), wpL_X5_countLackOf_4 n P f M x0 x1 x2 x3 → m_H D cA b n M H → va_S (m_A b) s.heap H locs → lv_has ls 5 [(0, .ref (b + x0)), (1, .int x1), (2, .int x2), (3, .int x3)] → W p l e rm_X5_countLackOf s m ([.ref (b + i), .int p1] : List Value).toArray below meth c H locs 0 0 (MQ below (m_Q D cA b n (rI P)) ([.ref (b + i), .int p1] : List Value).toArray s 0 0 (m_A b)) (F0 m 4 ls []) := by
    clear h
    intro f
    induction f with
    | zero => intro M H locs ls x0 x1 x2 x3 h; exact h.elim
    | succ f ih =>
      intro M H locs ls x0 x1 x2 x3 h hP hS hl
      have h : wpB_X5_countLackOf_4 n P (wpL_X5_countLackOf_4 n P f) M x0 x1 x2 x3 := h
      unfold wpB_X5_countLackOf_4 at h
      refine lv_iload_n (pc := 4) hx hb dX5_countLackOf_4 rfl (lv_at hl 3 rfl) ?_
      refine lv_aload_n (pc := 5) hx hb dX5_countLackOf_5 rfl (lv_at hl 0 rfl) ?_
      obtain ⟨hk1, h⟩ := h
      refine gX5_83 (pc := 6) C hK hP hk1 dX5_countLackOf_6 ?_
      refine lv_icmp_ge (tgt := 42) (pc := 9) hx hb dX5_countLackOf_9 (by decide) (fun c9 => ?_) (fun c9 => ?_)
      · replace h := h.1 c9
        refine lv_iload_n (pc := 42) hx hb dX5_countLackOf_42 rfl (lv_at hl 2 rfl) ?_
        exact m_iret (v := x2) (pc := 43) C hr hlk hP hS dX5_countLackOf_43 h
      · replace h := h.2 c9
        refine lv_aload_n (pc := 12) hx hb dX5_countLackOf_12 rfl (lv_at hl 0 rfl) ?_
        refine lv_iload_n (pc := 13) hx hb dX5_countLackOf_13 rfl (lv_at hl 3 rfl) ?_
        refine m_callVR (pc := 14) (y := yX5_jobAt) (κ := 5) (As := [.int x3]) (rest := []) C hK hP hS hl.1 ⟨Nat.zero_le _, Nat.zero_le _⟩ (c_X5_jobAt h) rfl rfl hk1 (by decide) rfl q_363 q_364 q_365 q_2 q_366 ⟨rfl, rfl⟩ yd_X5_jobAt ⟨Nat.le_of_ble_eq_true rfl, Nat.le_of_ble_eq_true rfl⟩ (Nat.le_of_ble_eq_true rfl) dX5_countLackOf_14 (fun j3 M2 H locs h hP hS => ?_)
        refine lv_astore (lv' := [(4, .ref (b + j3)), (0, .ref (b + x0)), (1, .int x1), (2, .int x2), (3, .int x3)]) (pc := 17) hx hb dX5_countLackOf_17 hl (by decide) rfl (fun ls hl => ?_)
        refine lv_aload (pc := 19) hx hb dX5_countLackOf_19 (lv_at hl 0 rfl) ?_
        obtain ⟨hk4, h⟩ := h
        refine gX5_128 (pc := 21) C hK hP hk4 dX5_countLackOf_21 ?_
        refine lv_iload_n (pc := 24) hx hb dX5_countLackOf_24 rfl (lv_at hl 2 rfl) ?_
        refine lv_icmp_ne (tgt := 36) (pc := 25) hx hb dX5_countLackOf_25 (by decide) (fun c25 => ?_) (fun c25 => ?_)
        · replace h := h.1 c25
          obtain ⟨v5, ev5⟩ : ∃ y : Int32, y = x3 + 1 := ⟨_, rfl⟩
          replace h := h v5 ev5
          refine lv_iinc (v := v5) (lv' := [(3, .int v5), (4, .ref (b + j3)), (0, .ref (b + x0)), (1, .int x1), (2, .int x2)]) (pc := 36) hx hb dX5_countLackOf_36 hl (k := 4) rfl (by rw [ev5]; rfl) (by decide) rfl (fun ls hl => ?_)
          refine lv_goto (tgt := 4) (pc := 39) hx hb dX5_countLackOf_39 (by decide) ?_
          exact ih _ _ _ _ _ _ _ _ h hP hS (lv_sub hl [2, 3, 4, 0] rfl)
        · replace h := h.2 c25
          refine lv_iload_n (pc := 28) hx hb dX5_countLackOf_28 rfl (lv_at hl 3 rfl) ?_
          refine lv_aload (pc := 29) hx hb dX5_countLackOf_29 (lv_at hl 0 rfl) ?_
          refine m_callVI (pc := 31) (y := yX3_lack) (κ := 3) (As := []) (rest := [.int x2]) C hK hP hS hl.1 ⟨Nat.zero_le _, Nat.zero_le _⟩ (c_X3_lack h) rfl rfl hk4 (by decide) rfl q_484 q_485 q_486 q_5 q_487 ⟨rfl, rfl⟩ yd_X3_lack ⟨Nat.le_of_ble_eq_true rfl, Nat.le_of_ble_eq_true rfl⟩ (Nat.le_of_ble_eq_true rfl) dX5_countLackOf_31 (fun r7 M6 H locs h hP hS => ?_)
          refine lv_iadd (pc := 34) hx hb dX5_countLackOf_34 ?_
          refine lv_topi (fun v8 ev8 => ?_)
          replace h := h v8 ev8
          refine lv_istore_n (lv' := [(2, .int v8), (4, .ref (b + j3)), (0, .ref (b + x0)), (1, .int x1), (3, .int x3)]) (pc := 35) hx hb dX5_countLackOf_35 rfl hl (by decide) rfl (fun ls hl => ?_)
          obtain ⟨v9, ev9⟩ : ∃ y : Int32, y = x3 + 1 := ⟨_, rfl⟩
          replace h := h v9 ev9
          refine lv_iinc (v := v9) (lv' := [(3, .int v9), (2, .int v8), (4, .ref (b + j3)), (0, .ref (b + x0)), (1, .int x1)]) (pc := 36) hx hb dX5_countLackOf_36 hl (k := 4) rfl (by rw [ev9]; rfl) (by decide) rfl (fun ls hl => ?_)
          refine lv_goto (tgt := 4) (pc := 39) hx hb dX5_countLackOf_39 (by decide) ?_
          exact ih _ _ _ _ _ _ _ _ h hP hS (lv_sub hl [3, 4, 1, 0] rfl)
  unfold wp_X5_countLackOf at h
  refine lv_iconst (v := 0) (pc := 0) hx hb dX5_countLackOf_0 (by decide) ?_
  refine lv_istore_n (lv' := [(2, .int 0), (0, .ref (b + i)), (1, .int p1)]) (pc := 1) hx hb dX5_countLackOf_1 rfl hl (by decide) rfl (fun ls hl => ?_)
  refine lv_iconst (v := 0) (pc := 2) hx hb dX5_countLackOf_2 (by decide) ?_
  refine lv_istore_n (lv' := [(3, .int 0), (2, .int 0), (0, .ref (b + i)), (1, .int p1)]) (pc := 3) hx hb dX5_countLackOf_3 rfl hl (by decide) rfl (fun ls hl => ?_)
  obtain ⟨f, h⟩ := h
  exact L4 f _ _ _ _ _ _ _ _ h hP hS (lv_sub hl [2, 3, 1, 0] rfl)
/-! ForgeHeats$Shop.dieBeingGround ()I -/
def wpB_X5_dieBeingGround_2 (n : Nat) (P : Int32 → Mem → Prop) (R_ : Mem → Nat → Int32 → Prop) (M : Mem) (x0 : Nat) (x1 : Int32) : Prop := ((5 ≤ x1 → P (-1) M) ∧ (¬ 5 ≤ x1 → m_tp n x0 5 ∧ (wp_X5_dieAt n M x0 x1 (fun j3 M1 => m_tp n j3 1 ∧ (wp_X1_isBeingGround n M1 j3 (fun z6 M4 => ((z6 = false → ∀ v7 : Int32, v7 = x1 + 1 → (R_ M4 x0 v7)) ∧ (z6 = true → P x1 M4))))))))
def wpL_X5_dieBeingGround_2 (n : Nat) (P : Int32 → Mem → Prop) : Nat → Mem → Nat → Int32 → Prop
  | 0 => fun _ _ _ => False
  | f + 1 => fun M x0 x1 => wpB_X5_dieBeingGround_2 n P (wpL_X5_dieBeingGround_2 n P f) M x0 x1
def wp_X5_dieBeingGround (n : Nat) (M : Mem) (i : Nat) (P : Int32 → Mem → Prop) : Prop := ∃ f : Nat, wpL_X5_dieBeingGround_2 n P f M i 0
abbrev rm_X5_dieBeingGround : Room := { frames := 1, cells := 0, slots := 0, locals := 22 }
set_option maxHeartbeats 4000000 in
set_option maxRecDepth 100000 in
theorem c_X5_dieBeingGround {l : Launch} {D : va_G} {cA : Nat → ClassId} {b n : Nat} {M : Mem} {i : Nat} {P : Int32 → Mem → Prop} (h : wp_X5_dieBeingGround n M i P) : m_C l D cA b n n M yX5_dieBeingGround cX5_dieBeingGround 2 (some .int) rm_X5_dieBeingGround 0 0 [.ref (b + i)] (rI P) := by
  refine m_enter (by decide) (Nat.le_of_ble_eq_true rfl) (fun p e s m below meth c C hr hlk hnm hK hP hS ls hl => ?_)
  have hx := C.1
  have hb := C.2.1
  have hl : lv_has ls 2 [(0, .ref (b + i))] := hl
  have L2 : ∀ f : Nat, ∀ (M : Mem) (H : Heap) (locs : List Loc) (ls : Array Slot) (x0 : Nat) (x1 : Int32), wpL_X5_dieBeingGround_2 n P f M x0 x1 → m_H D cA b n M H → va_S (m_A b) s.heap H locs → lv_has ls 2 [(0, .ref (b + x0)), (1, .int x1)] → W p l e rm_X5_dieBeingGround s m ([.ref (b + i)] : List Value).toArray below meth c H locs 0 0 (MQ below (m_Q D cA b n (rI P)) ([.ref (b + i)] : List Value).toArray s 0 0 (m_A b)) (F0 m 2 ls []) := by
    clear h
    intro f
    induction f with
    | zero => intro M H locs ls x0 x1 h; exact h.elim
    | succ f ih =>
      intro M H locs ls x0 x1 h hP hS hl
      have h : wpB_X5_dieBeingGround_2 n P (wpL_X5_dieBeingGround_2 n P f) M x0 x1 := h
      unfold wpB_X5_dieBeingGround_2 at h
      refine lv_iload_n (pc := 2) hx hb dX5_dieBeingGround_2 rfl (lv_at hl 1 rfl) ?_
      refine lv_iconst (v := 5) (pc := 3) hx hb dX5_dieBeingGround_3 (by decide) ?_
      refine lv_icmp_ge (tgt := 26) (pc := 4) hx hb dX5_dieBeingGround_4 (by decide) (fun c4 => ?_) (fun c4 => ?_)
      · replace h := h.1 c4
        refine lv_iconst (v := -1) (pc := 26) hx hb dX5_dieBeingGround_26 (by decide) ?_
        exact m_iret (v := (-1)) (pc := 27) C hr hlk hP hS dX5_dieBeingGround_27 h
      · replace h := h.2 c4
        refine lv_aload_n (pc := 7) hx hb dX5_dieBeingGround_7 rfl (lv_at hl 0 rfl) ?_
        refine lv_iload_n (pc := 8) hx hb dX5_dieBeingGround_8 rfl (lv_at hl 1 rfl) ?_
        obtain ⟨hk2, h⟩ := h
        refine m_callVR (pc := 9) (y := yX5_dieAt) (κ := 5) (As := [.int x1]) (rest := []) C hK hP hS hl.1 ⟨Nat.zero_le _, Nat.zero_le _⟩ (c_X5_dieAt h) rfl rfl hk2 (by decide) rfl q_355 q_356 q_357 q_2 q_358 ⟨rfl, rfl⟩ yd_X5_dieAt ⟨Nat.le_of_ble_eq_true rfl, Nat.le_of_ble_eq_true rfl⟩ (Nat.le_of_ble_eq_true rfl) dX5_dieBeingGround_9 (fun j3 M1 H locs h hP hS => ?_)
        obtain ⟨hk5, h⟩ := h
        refine m_callVZ (pc := 12) (y := yX1_isBeingGround) (κ := 1) (As := []) (rest := []) C hK hP hS hl.1 ⟨Nat.zero_le _, Nat.zero_le _⟩ (c_X1_isBeingGround h) rfl rfl hk5 (by decide) rfl q_430 q_431 q_432 q_4 q_433 ⟨rfl, rfl⟩ yd_X1_isBeingGround ⟨Nat.le_of_ble_eq_true rfl, Nat.le_of_ble_eq_true rfl⟩ (Nat.le_of_ble_eq_true rfl) dX5_dieBeingGround_12 (fun z6 M4 H locs h hP hS => ?_)
        refine lv_if_eq (tgt := 20) (pc := 15) hx hb dX5_dieBeingGround_15 (by decide) (fun c15 => ?_) (fun c15 => ?_)
        · replace h := h.1 (bZ0 c15)
          obtain ⟨v7, ev7⟩ : ∃ y : Int32, y = x1 + 1 := ⟨_, rfl⟩
          replace h := h v7 ev7
          refine lv_iinc (v := v7) (lv' := [(1, .int v7), (0, .ref (b + x0))]) (pc := 20) hx hb dX5_dieBeingGround_20 hl (k := 1) rfl (by rw [ev7]; rfl) (by decide) rfl (fun ls hl => ?_)
          refine lv_goto (tgt := 2) (pc := 23) hx hb dX5_dieBeingGround_23 (by decide) ?_
          exact ih _ _ _ _ _ _ h hP hS (lv_sub hl [1, 0] rfl)
        · replace h := h.2 (bZ1 c15)
          refine lv_iload_n (pc := 18) hx hb dX5_dieBeingGround_18 rfl (lv_at hl 1 rfl) ?_
          exact m_iret (v := x1) (pc := 19) C hr hlk hP hS dX5_dieBeingGround_19 h
  unfold wp_X5_dieBeingGround at h
  refine lv_iconst (v := 0) (pc := 0) hx hb dX5_dieBeingGround_0 (by decide) ?_
  refine lv_istore_n (lv' := [(1, .int 0), (0, .ref (b + i))]) (pc := 1) hx hb dX5_dieBeingGround_1 rfl hl (by decide) rfl (fun ls hl => ?_)
  obtain ⟨f, h⟩ := h
  exact L2 f _ _ _ _ _ _ h hP hS (lv_sub hl [1, 0] rfl)
/-! ForgeHeats$Shop.freePlace ()LForgeHeats$Billet; -/
def wpB_X5_freePlace_10 (n : Nat) (P : Option Nat → Mem → Prop) (R_ : Mem → Nat → Int32 → Int32 → Prop) (M : Mem) (x1 : Nat) (x2 : Int32) (x3 : Int32) : Prop := ((x2 ≤ x3 → P none M) ∧ (¬ x2 ≤ x3 → m_tp n x1 11 ∧ (vp_in x3 (m_len x1) ∧ (∃ j7 : Nat, M.2.1 x1 x3.toNatClampNeg = some j7 ∧ (m_tp n j7 0 ∧ (((¬ (M.1 j7 0) = (-1) → ∀ v9 : Int32, v9 = x3 + 1 → (R_ M x1 x2 v9)) ∧ ((M.1 j7 0) = (-1) → P (some j7) M))))))))
def wpL_X5_freePlace_10 (n : Nat) (P : Option Nat → Mem → Prop) : Nat → Mem → Nat → Int32 → Int32 → Prop
  | 0 => fun _ _ _ _ => False
  | f + 1 => fun M x1 x2 x3 => wpB_X5_freePlace_10 n P (wpL_X5_freePlace_10 n P f) M x1 x2 x3
def wp_X5_freePlace (n : Nat) (M : Mem) (i : Nat) (P : Option Nat → Mem → Prop) : Prop := m_tp n i 5 ∧ (∃ j2 : Nat, M.2.1 i 3 = some j2 ∧ (m_tp n j2 11 ∧ (∀ v4 : Int32, v4 = (nI (m_len j2)) → (∃ f : Nat, wpL_X5_freePlace_10 n P f M j2 v4 0))))
abbrev rm_X5_freePlace : Room := { frames := 0, cells := 0, slots := 0, locals := 0 }
set_option maxHeartbeats 4000000 in
set_option maxRecDepth 100000 in
theorem c_X5_freePlace {l : Launch} {D : va_G} {cA : Nat → ClassId} {b n : Nat} {M : Mem} {i : Nat} {P : Option Nat → Mem → Prop} (h : wp_X5_freePlace n M i P) : m_C l D cA b n n M yX5_freePlace cX5_freePlace 5 (some (.object "ForgeHeats$Billet")) rm_X5_freePlace 0 0 [.ref (b + i)] (rO b P) := by
  refine m_enter (by decide) (Nat.le_of_ble_eq_true rfl) (fun p e s m below meth c C hr hlk hnm hK hP hS ls hl => ?_)
  have hx := C.1
  have hb := C.2.1
  have hl : lv_has ls 5 [(0, .ref (b + i))] := hl
  have L10 : ∀ f : Nat, ∀ (M : Mem) (H : Heap) (locs : List Loc) (ls : Array Slot) (x1 : Nat) (x2 : Int32) (x3 : Int32), wpL_X5_freePlace_10 n P f M x1 x2 x3 → m_H D cA b n M H → va_S (m_A b) s.heap H locs → lv_has ls 5 [(1, .ref (b + x1)), (2, .int x2), (3, .int x3)] → W p l e rm_X5_freePlace s m ([.ref (b + i)] : List Value).toArray below meth c H locs 0 0 (MQ below (m_Q D cA b n (rO b P)) ([.ref (b + i)] : List Value).toArray s 0 0 (m_A b)) (F0 m 10 ls []) := by
    clear h
    intro f
    induction f with
    | zero => intro M H locs ls x1 x2 x3 h; exact h.elim
    | succ f ih =>
      intro M H locs ls x1 x2 x3 h hP hS hl
      have h : wpB_X5_freePlace_10 n P (wpL_X5_freePlace_10 n P f) M x1 x2 x3 := h
      unfold wpB_X5_freePlace_10 at h
      refine lv_iload_n (pc := 10) hx hb dX5_freePlace_10 rfl (lv_at hl 2 rfl) ?_
      refine lv_iload_n (pc := 11) hx hb dX5_freePlace_11 rfl (lv_at hl 1 rfl) ?_
      refine lv_icmp_ge (tgt := 43) (pc := 12) hx hb dX5_freePlace_12 (by decide) (fun c12 => ?_) (fun c12 => ?_)
      · replace h := h.1 c12
        refine lv_null (pc := 43) hx hb dX5_freePlace_43 ?_
        exact m_oret (v := none) (pc := 44) C hr hlk hP hS dX5_freePlace_44 h
      · replace h := h.2 c12
        refine lv_aload_n (pc := 15) hx hb dX5_freePlace_15 rfl (lv_at hl 0 rfl) ?_
        refine lv_iload_n (pc := 16) hx hb dX5_freePlace_16 rfl (lv_at hl 2 rfl) ?_
        obtain ⟨hk5, h⟩ := h
        obtain ⟨hi6, h⟩ := h
        obtain ⟨j7, hj7, h⟩ := h
        refine m_aldq (pc := 17) (κ := 11) C hK hP hk5 (by decide) rfl hi6 hj7 dX5_freePlace_17 ?_
        refine lv_astore (lv' := [(4, .ref (b + j7)), (1, .ref (b + x1)), (2, .int x2), (3, .int x3)]) (pc := 18) hx hb dX5_freePlace_18 hl (by decide) rfl (fun ls hl => ?_)
        refine lv_aload (pc := 20) hx hb dX5_freePlace_20 (lv_at hl 0 rfl) ?_
        refine lv_ifnull (pc := 22) hx hb dX5_freePlace_22 ?_
        refine lv_aload (pc := 25) hx hb dX5_freePlace_25 (lv_at hl 0 rfl) ?_
        obtain ⟨hk8, h⟩ := h
        refine gX5_159 (pc := 27) C hK hP hk8 dX5_freePlace_27 ?_
        refine lv_iconst (v := -1) (pc := 30) hx hb dX5_freePlace_30 (by decide) ?_
        refine lv_icmp_ne (tgt := 37) (pc := 31) hx hb dX5_freePlace_31 (by decide) (fun c31 => ?_) (fun c31 => ?_)
        · replace h := h.1 c31
          obtain ⟨v9, ev9⟩ : ∃ y : Int32, y = x3 + 1 := ⟨_, rfl⟩
          replace h := h v9 ev9
          refine lv_iinc (v := v9) (lv' := [(3, .int v9), (4, .ref (b + j7)), (1, .ref (b + x1)), (2, .int x2)]) (pc := 37) hx hb dX5_freePlace_37 hl (k := 3) rfl (by rw [ev9]; rfl) (by decide) rfl (fun ls hl => ?_)
          refine lv_goto (tgt := 10) (pc := 40) hx hb dX5_freePlace_40 (by decide) ?_
          exact ih _ _ _ _ _ _ _ h hP hS (lv_sub hl [2, 3, 0] rfl)
        · replace h := h.2 c31
          refine lv_aload (pc := 34) hx hb dX5_freePlace_34 (lv_at hl 0 rfl) ?_
          exact m_oret (v := some j7) (pc := 36) C hr hlk hP hS dX5_freePlace_36 h
  unfold wp_X5_freePlace at h
  refine lv_aload_n (pc := 0) hx hb dX5_freePlace_0 rfl (lv_at hl 0 rfl) ?_
  obtain ⟨hk1, h⟩ := h
  obtain ⟨j2, hj2, h⟩ := h
  refine gX5_47 (pc := 1) C hK hP hk1 hj2 dX5_freePlace_1 ?_
  refine lv_astore_n (lv' := [(1, .ref (b + j2)), (0, .ref (b + i))]) (pc := 4) hx hb dX5_freePlace_4 rfl hl (by decide) rfl (fun ls hl => ?_)
  refine lv_aload_n (pc := 5) hx hb dX5_freePlace_5 rfl (lv_at hl 0 rfl) ?_
  obtain ⟨hk3, h⟩ := h
  refine m_alen (pc := 6) (κ := 11) C hK hP hk3 (by decide) rfl dX5_freePlace_6 ?_
  refine lv_topi (fun v4 ev4 => ?_)
  replace h := h v4 ev4
  refine lv_istore_n (lv' := [(2, .int v4), (1, .ref (b + j2)), (0, .ref (b + i))]) (pc := 7) hx hb dX5_freePlace_7 rfl hl (by decide) rfl (fun ls hl => ?_)
  refine lv_iconst (v := 0) (pc := 8) hx hb dX5_freePlace_8 (by decide) ?_
  refine lv_istore_n (lv' := [(3, .int 0), (2, .int v4), (1, .ref (b + j2)), (0, .ref (b + i))]) (pc := 9) hx hb dX5_freePlace_9 rfl hl (by decide) rfl (fun ls hl => ?_)
  obtain ⟨f, h⟩ := h
  exact L10 f _ _ _ _ _ _ _ h hP hS (lv_sub hl [2, 1, 0] rfl)
/-! ForgeHeats$Shop.hottestReady (LForgeHeats$Job;)LForgeHeats$Billet; -/
def wpB_X5_hottestReady_28 (n : Nat) (P : Option Nat → Mem → Prop) (R_ : Mem → Nat → Int32 → Option Nat → Nat → Int32 → Int32 → Prop) (M : Mem) (x1 : Nat) (x2 : Int32) (x3 : Option Nat) (x4 : Nat) (x5 : Int32) (x6 : Int32) : Prop := ((x5 ≤ x6 → P x3 M) ∧ (¬ x5 ≤ x6 → m_tp n x4 11 ∧ (vp_in x6 (m_len x4) ∧ (∃ j12 : Nat, M.2.1 x4 x6.toNatClampNeg = some j12 ∧ (m_tp n j12 0 ∧ (m_tp n x1 3 ∧ (((¬ (M.1 j12 0) = (M.1 x1 0) → ∀ v15 : Int32, v15 = x6 + 1 → (R_ M x1 x2 x3 x4 x5 v15)) ∧ ((M.1 j12 0) = (M.1 x1 0) → (((M.1 j12 1) < x2 → ∀ v16 : Int32, v16 = x6 + 1 → (R_ M x1 x2 x3 x4 x5 v16)) ∧ (¬ (M.1 j12 1) < x2 → ∀ v17 : Int32, v17 = ((M.1 j12 1) + 1) → (∀ v18 : Int32, v18 = x6 + 1 → (R_ M x1 v17 (some j12) x4 x5 v18)))))))))))))
def wpL_X5_hottestReady_28 (n : Nat) (P : Option Nat → Mem → Prop) : Nat → Mem → Nat → Int32 → Option Nat → Nat → Int32 → Int32 → Prop
  | 0 => fun _ _ _ _ _ _ _ => False
  | f + 1 => fun M x1 x2 x3 x4 x5 x6 => wpB_X5_hottestReady_28 n P (wpL_X5_hottestReady_28 n P f) M x1 x2 x3 x4 x5 x6
def wp_X5_hottestReady (n : Nat) (M : Mem) (i : Nat) (p1 : Nat) (P : Option Nat → Mem → Prop) : Prop := m_tp n p1 3 ∧ (m_tp n i 5 ∧ (wp_X5_heatAt n M i (M.1 p1 2) (fun j4 M2 => m_tp n j4 2 ∧ (∀ v6 : Int32, v6 = (M2.1 j4 2) → (∃ j7 : Nat, M2.2.1 i 3 = some j7 ∧ (m_tp n j7 11 ∧ (∀ v9 : Int32, v9 = (nI (m_len j7)) → (∃ f : Nat, wpL_X5_hottestReady_28 n P f M2 p1 v6 none j7 v9 0))))))))
abbrev rm_X5_hottestReady : Room := { frames := 1, cells := 0, slots := 0, locals := 22 }
set_option maxHeartbeats 4000000 in
set_option maxRecDepth 100000 in
theorem c_X5_hottestReady {l : Launch} {D : va_G} {cA : Nat → ClassId} {b n : Nat} {M : Mem} {i : Nat} {p1 : Nat} {P : Option Nat → Mem → Prop} (h : wp_X5_hottestReady n M i p1 P) : m_C l D cA b n n M yX5_hottestReady cX5_hottestReady 8 (some (.object "ForgeHeats$Billet")) rm_X5_hottestReady 0 0 [.ref (b + i), .ref (b + p1)] (rO b P) := by
  refine m_enter (by decide) (Nat.le_of_ble_eq_true rfl) (fun p e s m below meth c C hr hlk hnm hK hP hS ls hl => ?_)
  have hx := C.1
  have hb := C.2.1
  have hl : lv_has ls 8 [(0, .ref (b + i)), (1, .ref (b + p1))] := hl
  have L28 : ∀ f : Nat, ∀ (M : Mem) (H : Heap) (locs : List Loc) (ls : Array Slot) (x1 : Nat) (x2 : Int32) (x3 : Option Nat) (x4 : Nat) (x5 : Int32) (x6 : Int32), wpL_X5_hottestReady_28 n P f M x1 x2 x3 x4 x5 x6 → m_H D cA b n M H → va_S (m_A b) s.heap H locs → lv_has ls 8 [(1, .ref (b + x1)), (2, .int x2), (3, va_rf ((x3).map (fun j => b + j))), (4, .ref (b + x4)), (5, .int x5), (6, .int x6)] → W p l e rm_X5_hottestReady s m ([.ref (b + i), .ref (b + p1)] : List Value).toArray below meth c H locs 0 0 (MQ below (m_Q D cA b n (rO b P)) ([.ref (b + i), .ref (b + p1)] : List Value).toArray s 0 0 (m_A b)) (F0 m 28 ls []) := by
    clear h
    intro f
    induction f with
    | zero => intro M H locs ls x1 x2 x3 x4 x5 x6 h; exact h.elim
    | succ f ih =>
      intro M H locs ls x1 x2 x3 x4 x5 x6 h hP hS hl
      have h : wpB_X5_hottestReady_28 n P (wpL_X5_hottestReady_28 n P f) M x1 x2 x3 x4 x5 x6 := h
      unfold wpB_X5_hottestReady_28 at h
      refine lv_iload (pc := 28) hx hb dX5_hottestReady_28 (lv_at hl 5 rfl) ?_
      refine lv_iload (pc := 30) hx hb dX5_hottestReady_30 (lv_at hl 4 rfl) ?_
      refine lv_icmp_ge (tgt := 85) (pc := 32) hx hb dX5_hottestReady_32 (by decide) (fun c32 => ?_) (fun c32 => ?_)
      · replace h := h.1 c32
        refine m_aldO_n hx hb (pc := 85) dX5_hottestReady_85 rfl (lv_at hl 2 rfl) ?_
        exact m_oret (v := x3) (pc := 86) C hr hlk hP hS dX5_hottestReady_86 h
      · replace h := h.2 c32
        refine lv_aload (pc := 35) hx hb dX5_hottestReady_35 (lv_at hl 3 rfl) ?_
        refine lv_iload (pc := 37) hx hb dX5_hottestReady_37 (lv_at hl 5 rfl) ?_
        obtain ⟨hk10, h⟩ := h
        obtain ⟨hi11, h⟩ := h
        obtain ⟨j12, hj12, h⟩ := h
        refine m_aldq (pc := 39) (κ := 11) C hK hP hk10 (by decide) rfl hi11 hj12 dX5_hottestReady_39 ?_
        refine lv_astore (lv' := [(7, .ref (b + j12)), (1, .ref (b + x1)), (2, .int x2), (3, va_rf ((x3).map (fun j => b + j))), (4, .ref (b + x4)), (5, .int x5), (6, .int x6)]) (pc := 40) hx hb dX5_hottestReady_40 hl (by decide) rfl (fun ls hl => ?_)
        refine lv_aload (pc := 42) hx hb dX5_hottestReady_42 (lv_at hl 0 rfl) ?_
        refine lv_ifnull (pc := 44) hx hb dX5_hottestReady_44 ?_
        refine lv_aload (pc := 47) hx hb dX5_hottestReady_47 (lv_at hl 0 rfl) ?_
        obtain ⟨hk13, h⟩ := h
        refine gX5_159 (pc := 49) C hK hP hk13 dX5_hottestReady_49 ?_
        refine lv_aload_n (pc := 52) hx hb dX5_hottestReady_52 rfl (lv_at hl 1 rfl) ?_
        obtain ⟨hk14, h⟩ := h
        refine gX5_122 (pc := 53) C hK hP hk14 dX5_hottestReady_53 ?_
        refine lv_icmp_ne (tgt := 79) (pc := 56) hx hb dX5_hottestReady_56 (by decide) (fun c56 => ?_) (fun c56 => ?_)
        · replace h := h.1 c56
          obtain ⟨v15, ev15⟩ : ∃ y : Int32, y = x6 + 1 := ⟨_, rfl⟩
          replace h := h v15 ev15
          refine lv_iinc (v := v15) (lv' := [(6, .int v15), (7, .ref (b + j12)), (1, .ref (b + x1)), (2, .int x2), (3, va_rf ((x3).map (fun j => b + j))), (4, .ref (b + x4)), (5, .int x5)]) (pc := 79) hx hb dX5_hottestReady_79 hl (k := 6) rfl (by rw [ev15]; rfl) (by decide) rfl (fun ls hl => ?_)
          refine lv_goto (tgt := 28) (pc := 82) hx hb dX5_hottestReady_82 (by decide) ?_
          exact ih _ _ _ _ _ _ _ _ _ _ h hP hS (lv_sub hl [2, 3, 4, 5, 6, 0] rfl)
        · replace h := h.2 c56
          refine lv_aload (pc := 59) hx hb dX5_hottestReady_59 (lv_at hl 0 rfl) ?_
          refine gX5_204 (pc := 61) C hK hP hk13 dX5_hottestReady_61 ?_
          refine lv_iload_n (pc := 64) hx hb dX5_hottestReady_64 rfl (lv_at hl 2 rfl) ?_
          refine lv_icmp_lt (tgt := 79) (pc := 65) hx hb dX5_hottestReady_65 (by decide) (fun c65 => ?_) (fun c65 => ?_)
          · replace h := h.1 c65
            obtain ⟨v16, ev16⟩ : ∃ y : Int32, y = x6 + 1 := ⟨_, rfl⟩
            replace h := h v16 ev16
            refine lv_iinc (v := v16) (lv' := [(6, .int v16), (7, .ref (b + j12)), (1, .ref (b + x1)), (2, .int x2), (3, va_rf ((x3).map (fun j => b + j))), (4, .ref (b + x4)), (5, .int x5)]) (pc := 79) hx hb dX5_hottestReady_79 hl (k := 6) rfl (by rw [ev16]; rfl) (by decide) rfl (fun ls hl => ?_)
            refine lv_goto (tgt := 28) (pc := 82) hx hb dX5_hottestReady_82 (by decide) ?_
            exact ih _ _ _ _ _ _ _ _ _ _ h hP hS (lv_sub hl [2, 3, 4, 5, 6, 0] rfl)
          · replace h := h.2 c65
            refine lv_aload (pc := 68) hx hb dX5_hottestReady_68 (lv_at hl 0 rfl) ?_
            refine lv_astore_n (lv' := [(3, .ref (b + j12)), (7, .ref (b + j12)), (1, .ref (b + x1)), (2, .int x2), (4, .ref (b + x4)), (5, .int x5), (6, .int x6)]) (pc := 70) hx hb dX5_hottestReady_70 rfl hl (by decide) rfl (fun ls hl => ?_)
            refine lv_aload (pc := 71) hx hb dX5_hottestReady_71 (lv_at hl 1 rfl) ?_
            refine gX5_204 (pc := 73) C hK hP hk13 dX5_hottestReady_73 ?_
            refine lv_iconst (v := 1) (pc := 76) hx hb dX5_hottestReady_76 (by decide) ?_
            refine lv_iadd (pc := 77) hx hb dX5_hottestReady_77 ?_
            refine lv_topi (fun v17 ev17 => ?_)
            replace h := h v17 ev17
            refine lv_istore_n (lv' := [(2, .int v17), (3, .ref (b + j12)), (7, .ref (b + j12)), (1, .ref (b + x1)), (4, .ref (b + x4)), (5, .int x5), (6, .int x6)]) (pc := 78) hx hb dX5_hottestReady_78 rfl hl (by decide) rfl (fun ls hl => ?_)
            obtain ⟨v18, ev18⟩ : ∃ y : Int32, y = x6 + 1 := ⟨_, rfl⟩
            replace h := h v18 ev18
            refine lv_iinc (v := v18) (lv' := [(6, .int v18), (2, .int v17), (3, .ref (b + j12)), (7, .ref (b + j12)), (1, .ref (b + x1)), (4, .ref (b + x4)), (5, .int x5)]) (pc := 79) hx hb dX5_hottestReady_79 hl (k := 6) rfl (by rw [ev18]; rfl) (by decide) rfl (fun ls hl => ?_)
            refine lv_goto (tgt := 28) (pc := 82) hx hb dX5_hottestReady_82 (by decide) ?_
            exact ih _ _ _ _ _ _ _ _ _ _ h hP hS (lv_sub hl [4, 1, 2, 5, 6, 0] rfl)
  unfold wp_X5_hottestReady at h
  refine lv_aload_n (pc := 0) hx hb dX5_hottestReady_0 rfl (lv_at hl 0 rfl) ?_
  refine lv_aload_n (pc := 1) hx hb dX5_hottestReady_1 rfl (lv_at hl 1 rfl) ?_
  obtain ⟨hk1, h⟩ := h
  refine gX5_128 (pc := 2) C hK hP hk1 dX5_hottestReady_2 ?_
  obtain ⟨hk3, h⟩ := h
  refine m_callVR (pc := 5) (y := yX5_heatAt) (κ := 5) (As := [.int (M.1 p1 2)]) (rest := []) C hK hP hS hl.1 ⟨Nat.zero_le _, Nat.zero_le _⟩ (c_X5_heatAt h) rfl rfl hk3 (by decide) rfl q_347 q_348 q_349 q_2 q_350 ⟨rfl, rfl⟩ yd_X5_heatAt ⟨Nat.le_of_ble_eq_true rfl, Nat.le_of_ble_eq_true rfl⟩ (Nat.le_of_ble_eq_true rfl) dX5_hottestReady_5 (fun j4 M2 H locs h hP hS => ?_)
  obtain ⟨hk5, h⟩ := h
  refine gX5_176 (pc := 8) C hK hP hk5 dX5_hottestReady_8 ?_
  refine lv_topi (fun v6 ev6 => ?_)
  replace h := h v6 ev6
  refine lv_istore_n (lv' := [(2, .int v6), (0, .ref (b + i)), (1, .ref (b + p1))]) (pc := 11) hx hb dX5_hottestReady_11 rfl hl (by decide) rfl (fun ls hl => ?_)
  refine lv_null (pc := 12) hx hb dX5_hottestReady_12 ?_
  refine lv_astore_nN (lv' := [(3, .null), (2, .int v6), (0, .ref (b + i)), (1, .ref (b + p1))]) (pc := 13) hx hb dX5_hottestReady_13 rfl hl (by decide) rfl (fun ls hl => ?_)
  refine lv_aload_n (pc := 14) hx hb dX5_hottestReady_14 rfl (lv_at hl 2 rfl) ?_
  obtain ⟨j7, hj7, h⟩ := h
  refine gX5_47 (pc := 15) C hK hP hk3 hj7 dX5_hottestReady_15 ?_
  refine lv_astore (lv' := [(4, .ref (b + j7)), (3, .null), (2, .int v6), (0, .ref (b + i)), (1, .ref (b + p1))]) (pc := 18) hx hb dX5_hottestReady_18 hl (by decide) rfl (fun ls hl => ?_)
  refine lv_aload (pc := 20) hx hb dX5_hottestReady_20 (lv_at hl 0 rfl) ?_
  obtain ⟨hk8, h⟩ := h
  refine m_alen (pc := 22) (κ := 11) C hK hP hk8 (by decide) rfl dX5_hottestReady_22 ?_
  refine lv_topi (fun v9 ev9 => ?_)
  replace h := h v9 ev9
  refine lv_istore (lv' := [(5, .int v9), (4, .ref (b + j7)), (3, .null), (2, .int v6), (0, .ref (b + i)), (1, .ref (b + p1))]) (pc := 23) hx hb dX5_hottestReady_23 hl (by decide) rfl (fun ls hl => ?_)
  refine lv_iconst (v := 0) (pc := 25) hx hb dX5_hottestReady_25 (by decide) ?_
  refine lv_istore (lv' := [(6, .int 0), (5, .int v9), (4, .ref (b + j7)), (3, .null), (2, .int v6), (0, .ref (b + i)), (1, .ref (b + p1))]) (pc := 26) hx hb dX5_hottestReady_26 hl (by decide) rfl (fun ls hl => ?_)
  obtain ⟨f, h⟩ := h
  exact L28 f _ _ _ _ _ _ _ _ _ _ h hP hS (lv_sub hl [6, 4, 3, 2, 1, 0] rfl)
/-! ForgeHeats$Shop.warmFurnace ()V -/
def wpB_X5_warmFurnace_10 (n : Nat) (P : Mem → Prop) (R_ : Mem → Nat → Nat → Int32 → Int32 → Prop) (M : Mem) (x0 : Nat) (x1 : Nat) (x2 : Int32) (x3 : Int32) : Prop := ((x2 ≤ x3 → P M) ∧ (¬ x2 ≤ x3 → m_tp n x1 11 ∧ (vp_in x3 (m_len x1) ∧ (∃ j7 : Nat, M.2.1 x1 x3.toNatClampNeg = some j7 ∧ (m_tp n j7 0 ∧ ((((M.1 j7 0) = (-1) → ∀ v9 : Int32, v9 = x3 + 1 → (R_ M x0 x1 x2 v9)) ∧ (¬ (M.1 j7 0) = (-1) → m_tp n x0 5 ∧ (∀ M11 : Mem, M11 = uI M j7 1 (if ((M.1 j7 1) + (M.1 x0 7)) < 1250 then ((M.1 j7 1) + (M.1 x0 7)) else 1250) → (∀ v12 : Int32, v12 = x3 + 1 → (R_ M11 x0 x1 x2 v12)))))))))))
def wpL_X5_warmFurnace_10 (n : Nat) (P : Mem → Prop) : Nat → Mem → Nat → Nat → Int32 → Int32 → Prop
  | 0 => fun _ _ _ _ _ => False
  | f + 1 => fun M x0 x1 x2 x3 => wpB_X5_warmFurnace_10 n P (wpL_X5_warmFurnace_10 n P f) M x0 x1 x2 x3
def wp_X5_warmFurnace (n : Nat) (M : Mem) (i : Nat) (P : Mem → Prop) : Prop := m_tp n i 5 ∧ (∃ j2 : Nat, M.2.1 i 3 = some j2 ∧ (m_tp n j2 11 ∧ (∀ v4 : Int32, v4 = (nI (m_len j2)) → (∃ f : Nat, wpL_X5_warmFurnace_10 n P f M i j2 v4 0))))
abbrev rm_X5_warmFurnace : Room := { frames := 1, cells := 0, slots := 0, locals := 21 }
set_option maxHeartbeats 4000000 in
set_option maxRecDepth 100000 in
theorem c_X5_warmFurnace {l : Launch} {D : va_G} {cA : Nat → ClassId} {b n : Nat} {M : Mem} {i : Nat} {P : Mem → Prop} (h : wp_X5_warmFurnace n M i P) : m_C l D cA b n n M yX5_warmFurnace cX5_warmFurnace 5 none rm_X5_warmFurnace 0 0 [.ref (b + i)] (rV P) := by
  refine m_enter (by decide) (Nat.le_of_ble_eq_true rfl) (fun p e s m below meth c C hr hlk hnm hK hP hS ls hl => ?_)
  have hx := C.1
  have hb := C.2.1
  have hl : lv_has ls 5 [(0, .ref (b + i))] := hl
  have L10 : ∀ f : Nat, ∀ (M : Mem) (H : Heap) (locs : List Loc) (ls : Array Slot) (x0 : Nat) (x1 : Nat) (x2 : Int32) (x3 : Int32), wpL_X5_warmFurnace_10 n P f M x0 x1 x2 x3 → m_H D cA b n M H → va_S (m_A b) s.heap H locs → lv_has ls 5 [(0, .ref (b + x0)), (1, .ref (b + x1)), (2, .int x2), (3, .int x3)] → W p l e rm_X5_warmFurnace s m ([.ref (b + i)] : List Value).toArray below meth c H locs 0 0 (MQ below (m_Q D cA b n (rV P)) ([.ref (b + i)] : List Value).toArray s 0 0 (m_A b)) (F0 m 10 ls []) := by
    clear h
    intro f
    induction f with
    | zero => intro M H locs ls x0 x1 x2 x3 h; exact h.elim
    | succ f ih =>
      intro M H locs ls x0 x1 x2 x3 h hP hS hl
      have h : wpB_X5_warmFurnace_10 n P (wpL_X5_warmFurnace_10 n P f) M x0 x1 x2 x3 := h
      unfold wpB_X5_warmFurnace_10 at h
      refine lv_iload_n (pc := 10) hx hb dX5_warmFurnace_10 rfl (lv_at hl 3 rfl) ?_
      refine lv_iload_n (pc := 11) hx hb dX5_warmFurnace_11 rfl (lv_at hl 2 rfl) ?_
      refine lv_icmp_ge (tgt := 61) (pc := 12) hx hb dX5_warmFurnace_12 (by decide) (fun c12 => ?_) (fun c12 => ?_)
      · replace h := h.1 c12
        exact m_vret (pc := 61) C hr hlk hP hS dX5_warmFurnace_61 h
      · replace h := h.2 c12
        refine lv_aload_n (pc := 15) hx hb dX5_warmFurnace_15 rfl (lv_at hl 1 rfl) ?_
        refine lv_iload_n (pc := 16) hx hb dX5_warmFurnace_16 rfl (lv_at hl 3 rfl) ?_
        obtain ⟨hk5, h⟩ := h
        obtain ⟨hi6, h⟩ := h
        obtain ⟨j7, hj7, h⟩ := h
        refine m_aldq (pc := 17) (κ := 11) C hK hP hk5 (by decide) rfl hi6 hj7 dX5_warmFurnace_17 ?_
        refine lv_astore (lv' := [(4, .ref (b + j7)), (0, .ref (b + x0)), (1, .ref (b + x1)), (2, .int x2), (3, .int x3)]) (pc := 18) hx hb dX5_warmFurnace_18 hl (by decide) rfl (fun ls hl => ?_)
        refine lv_aload (pc := 20) hx hb dX5_warmFurnace_20 (lv_at hl 0 rfl) ?_
        refine lv_ifnull (pc := 22) hx hb dX5_warmFurnace_22 ?_
        refine lv_aload (pc := 25) hx hb dX5_warmFurnace_25 (lv_at hl 0 rfl) ?_
        obtain ⟨hk8, h⟩ := h
        refine gX5_159 (pc := 27) C hK hP hk8 dX5_warmFurnace_27 ?_
        refine lv_iconst (v := -1) (pc := 30) hx hb dX5_warmFurnace_30 (by decide) ?_
        refine lv_icmp_eq (tgt := 55) (pc := 31) hx hb dX5_warmFurnace_31 (by decide) (fun c31 => ?_) (fun c31 => ?_)
        · replace h := h.1 c31
          obtain ⟨v9, ev9⟩ : ∃ y : Int32, y = x3 + 1 := ⟨_, rfl⟩
          replace h := h v9 ev9
          refine lv_iinc (v := v9) (lv' := [(3, .int v9), (4, .ref (b + j7)), (0, .ref (b + x0)), (1, .ref (b + x1)), (2, .int x2)]) (pc := 55) hx hb dX5_warmFurnace_55 hl (k := 4) rfl (by rw [ev9]; rfl) (by decide) rfl (fun ls hl => ?_)
          refine lv_goto (tgt := 10) (pc := 58) hx hb dX5_warmFurnace_58 (by decide) ?_
          exact ih _ _ _ _ _ _ _ _ h hP hS (lv_sub hl [2, 3, 4, 0] rfl)
        · replace h := h.2 c31
          refine lv_aload (pc := 34) hx hb dX5_warmFurnace_34 (lv_at hl 0 rfl) ?_
          refine lv_sipush (v := 1250) (pc := 36) hx hb dX5_warmFurnace_36 (by decide) ?_
          refine lv_aload (pc := 39) hx hb dX5_warmFurnace_39 (lv_at hl 0 rfl) ?_
          refine gX5_204 (pc := 41) C hK hP hk8 dX5_warmFurnace_41 ?_
          refine lv_aload_n (pc := 44) hx hb dX5_warmFurnace_44 rfl (lv_at hl 1 rfl) ?_
          obtain ⟨hk10, h⟩ := h
          refine gX5_9 (pc := 45) C hK hP hk10 dX5_warmFurnace_45 ?_
          refine lv_iadd (pc := 48) hx hb dX5_warmFurnace_48 ?_
          refine va_mmin (pc := 49) hx hb (C.2.2.1.trans hl.1.symm) C.2.2.2.1 (C.2.2.2.2 _ q_649) (C.2.2.2.2 _ q_650) (C.2.2.2.2 _ q_14) (C.2.2.2.2 _ q_651) (Nat.le_of_ble_eq_true rfl) (Nat.le_of_ble_eq_true rfl) (Nat.zero_le _) (Nat.zero_le _) dX5_warmFurnace_49 ?_
          refine pX5_204 (pc := 52) (v := if ((M.1 j7 1) + (M.1 x0 7)) < 1250 then ((M.1 j7 1) + (M.1 x0 7)) else 1250) C hK hP hS hk8 dX5_warmFurnace_52 (fun M11 H locs eM11 hP hS => ?_)
          replace h := h M11 eM11
          obtain ⟨v12, ev12⟩ : ∃ y : Int32, y = x3 + 1 := ⟨_, rfl⟩
          replace h := h v12 ev12
          refine lv_iinc (v := v12) (lv' := [(3, .int v12), (4, .ref (b + j7)), (0, .ref (b + x0)), (1, .ref (b + x1)), (2, .int x2)]) (pc := 55) hx hb dX5_warmFurnace_55 hl (k := 4) rfl (by rw [ev12]; rfl) (by decide) rfl (fun ls hl => ?_)
          refine lv_goto (tgt := 10) (pc := 58) hx hb dX5_warmFurnace_58 (by decide) ?_
          exact ih _ _ _ _ _ _ _ _ h hP hS (lv_sub hl [2, 3, 4, 0] rfl)
  unfold wp_X5_warmFurnace at h
  refine lv_aload_n (pc := 0) hx hb dX5_warmFurnace_0 rfl (lv_at hl 0 rfl) ?_
  obtain ⟨hk1, h⟩ := h
  obtain ⟨j2, hj2, h⟩ := h
  refine gX5_47 (pc := 1) C hK hP hk1 hj2 dX5_warmFurnace_1 ?_
  refine lv_astore_n (lv' := [(1, .ref (b + j2)), (0, .ref (b + i))]) (pc := 4) hx hb dX5_warmFurnace_4 rfl hl (by decide) rfl (fun ls hl => ?_)
  refine lv_aload_n (pc := 5) hx hb dX5_warmFurnace_5 rfl (lv_at hl 0 rfl) ?_
  obtain ⟨hk3, h⟩ := h
  refine m_alen (pc := 6) (κ := 11) C hK hP hk3 (by decide) rfl dX5_warmFurnace_6 ?_
  refine lv_topi (fun v4 ev4 => ?_)
  replace h := h v4 ev4
  refine lv_istore_n (lv' := [(2, .int v4), (1, .ref (b + j2)), (0, .ref (b + i))]) (pc := 7) hx hb dX5_warmFurnace_7 rfl hl (by decide) rfl (fun ls hl => ?_)
  refine lv_iconst (v := 0) (pc := 8) hx hb dX5_warmFurnace_8 (by decide) ?_
  refine lv_istore_n (lv' := [(3, .int 0), (2, .int v4), (1, .ref (b + j2)), (0, .ref (b + i))]) (pc := 9) hx hb dX5_warmFurnace_9 rfl hl (by decide) rfl (fun ls hl => ?_)
  obtain ⟨f, h⟩ := h
  exact L10 f _ _ _ _ _ _ _ _ h hP hS (lv_sub hl [3, 2, 1, 0] rfl)
/-! ForgeHeats$Shop.chargeFurnace ()V -/
def wpB_X5_chargeFurnace_12 (n : Nat) (P : Mem → Prop) (R_ : Mem → Nat → Nat → Int32 → Prop) (M : Mem) (x0 : Nat) (x1 : Nat) (x2 : Int32) : Prop := m_tp n x0 5 ∧ ((((M.1 x0 5) ≤ x2 → P M) ∧ (¬ (M.1 x0 5) ≤ x2 → wp_X5_jobAt n M x0 x2 (fun j7 M6 => m_tp n j7 3 ∧ (wp_X5_heatAt n M6 x0 (M6.1 j7 2) (fun j10 M9 => m_tp n j10 2 ∧ ((((M9.1 j10 0) ≤ 0 → ∀ v12 : Int32, v12 = x2 + 1 → (R_ M9 x0 x1 v12)) ∧ (¬ (M9.1 j10 0) ≤ 0 → wp_X3_lack n M9 j7 (fun r14 M13 => ((r14 ≤ 0 → ∀ v15 : Int32, v15 = x2 + 1 → (R_ M13 x0 x1 v15)) ∧ (¬ r14 ≤ 0 → ∀ M16 : Mem, M16 = uI M13 j10 0 ((M13.1 j10 0) - 1) → (∀ M17 : Mem, M17 = uI M16 j7 7 ((M16.1 j7 7) + 1) → (m_tp n x1 0 ∧ (∀ M19 : Mem, M19 = uI M17 x1 0 (M17.1 j7 0) → (∀ M20 : Mem, M20 = uI M19 x1 1 20 → (∀ M21 : Mem, M21 = uI M20 x1 2 0 → (wp_X5_dieAt n M21 x0 (M21.1 j7 1) (fun j23 M22 => m_tp n j23 1 ∧ (∀ M25 : Mem, M25 = uI M22 x1 3 (M22.1 j23 0) → (P M25)))))))))))))))))))))
def wpL_X5_chargeFurnace_12 (n : Nat) (P : Mem → Prop) : Nat → Mem → Nat → Nat → Int32 → Prop
  | 0 => fun _ _ _ _ => False
  | f + 1 => fun M x0 x1 x2 => wpB_X5_chargeFurnace_12 n P (wpL_X5_chargeFurnace_12 n P f) M x0 x1 x2
def wp_X5_chargeFurnace (n : Nat) (M : Mem) (i : Nat) (P : Mem → Prop) : Prop := m_tp n i 5 ∧ (wp_X5_freePlace n M i (fun o3 M1 => ((o3 = none → P M1) ∧ (∀ j4 : Nat, o3 = some j4 → ∃ f : Nat, wpL_X5_chargeFurnace_12 n P f M1 i j4 0))))
abbrev rm_X5_chargeFurnace : Room := { frames := 1, cells := 0, slots := 0, locals := 24 }
set_option maxHeartbeats 4000000 in
set_option maxRecDepth 100000 in
theorem c_X5_chargeFurnace {l : Launch} {D : va_G} {cA : Nat → ClassId} {b n : Nat} {M : Mem} {i : Nat} {P : Mem → Prop} (h : wp_X5_chargeFurnace n M i P) : m_C l D cA b n n M yX5_chargeFurnace cX5_chargeFurnace 5 none rm_X5_chargeFurnace 0 0 [.ref (b + i)] (rV P) := by
  refine m_enter (by decide) (Nat.le_of_ble_eq_true rfl) (fun p e s m below meth c C hr hlk hnm hK hP hS ls hl => ?_)
  have hx := C.1
  have hb := C.2.1
  have hl : lv_has ls 5 [(0, .ref (b + i))] := hl
  have L12 : ∀ f : Nat, ∀ (M : Mem) (H : Heap) (locs : List Loc) (ls : Array Slot) (x0 : Nat) (x1 : Nat) (x2 : Int32), wpL_X5_chargeFurnace_12 n P f M x0 x1 x2 → m_H D cA b n M H → va_S (m_A b) s.heap H locs → lv_has ls 5 [(0, .ref (b + x0)), (1, .ref (b + x1)), (2, .int x2)] → W p l e rm_X5_chargeFurnace s m ([.ref (b + i)] : List Value).toArray below meth c H locs 0 0 (MQ below (m_Q D cA b n (rV P)) ([.ref (b + i)] : List Value).toArray s 0 0 (m_A b)) (F0 m 12 ls []) := by
    clear h
    intro f
    induction f with
    | zero => intro M H locs ls x0 x1 x2 h; exact h.elim
    | succ f ih =>
      intro M H locs ls x0 x1 x2 h hP hS hl
      have h : wpB_X5_chargeFurnace_12 n P (wpL_X5_chargeFurnace_12 n P f) M x0 x1 x2 := h
      unfold wpB_X5_chargeFurnace_12 at h
      refine lv_iload_n (pc := 12) hx hb dX5_chargeFurnace_12 rfl (lv_at hl 2 rfl) ?_
      refine lv_aload_n (pc := 13) hx hb dX5_chargeFurnace_13 rfl (lv_at hl 0 rfl) ?_
      obtain ⟨hk5, h⟩ := h
      refine gX5_83 (pc := 14) C hK hP hk5 dX5_chargeFurnace_14 ?_
      refine lv_icmp_ge (tgt := 113) (pc := 17) hx hb dX5_chargeFurnace_17 (by decide) (fun c17 => ?_) (fun c17 => ?_)
      · replace h := h.1 c17
        exact m_vret (pc := 113) C hr hlk hP hS dX5_chargeFurnace_113 h
      · replace h := h.2 c17
        refine lv_aload_n (pc := 20) hx hb dX5_chargeFurnace_20 rfl (lv_at hl 0 rfl) ?_
        refine lv_iload_n (pc := 21) hx hb dX5_chargeFurnace_21 rfl (lv_at hl 2 rfl) ?_
        refine m_callVR (pc := 22) (y := yX5_jobAt) (κ := 5) (As := [.int x2]) (rest := []) C hK hP hS hl.1 ⟨Nat.zero_le _, Nat.zero_le _⟩ (c_X5_jobAt h) rfl rfl hk5 (by decide) rfl q_363 q_364 q_365 q_2 q_366 ⟨rfl, rfl⟩ yd_X5_jobAt ⟨Nat.le_of_ble_eq_true rfl, Nat.le_of_ble_eq_true rfl⟩ (Nat.le_of_ble_eq_true rfl) dX5_chargeFurnace_22 (fun j7 M6 H locs h hP hS => ?_)
        refine lv_astore_n (lv' := [(3, .ref (b + j7)), (0, .ref (b + x0)), (1, .ref (b + x1)), (2, .int x2)]) (pc := 25) hx hb dX5_chargeFurnace_25 rfl hl (by decide) rfl (fun ls hl => ?_)
        refine lv_aload_n (pc := 26) hx hb dX5_chargeFurnace_26 rfl (lv_at hl 1 rfl) ?_
        refine lv_aload_n (pc := 27) hx hb dX5_chargeFurnace_27 rfl (lv_at hl 0 rfl) ?_
        obtain ⟨hk8, h⟩ := h
        refine gX5_128 (pc := 28) C hK hP hk8 dX5_chargeFurnace_28 ?_
        refine m_callVR (pc := 31) (y := yX5_heatAt) (κ := 5) (As := [.int (M6.1 j7 2)]) (rest := []) C hK hP hS hl.1 ⟨Nat.zero_le _, Nat.zero_le _⟩ (c_X5_heatAt h) rfl rfl hk5 (by decide) rfl q_347 q_348 q_349 q_2 q_350 ⟨rfl, rfl⟩ yd_X5_heatAt ⟨Nat.le_of_ble_eq_true rfl, Nat.le_of_ble_eq_true rfl⟩ (Nat.le_of_ble_eq_true rfl) dX5_chargeFurnace_31 (fun j10 M9 H locs h hP hS => ?_)
        refine lv_astore (lv' := [(4, .ref (b + j10)), (3, .ref (b + j7)), (0, .ref (b + x0)), (1, .ref (b + x1)), (2, .int x2)]) (pc := 34) hx hb dX5_chargeFurnace_34 hl (by decide) rfl (fun ls hl => ?_)
        refine lv_aload (pc := 36) hx hb dX5_chargeFurnace_36 (lv_at hl 0 rfl) ?_
        obtain ⟨hk11, h⟩ := h
        refine gX5_170 (pc := 38) C hK hP hk11 dX5_chargeFurnace_38 ?_
        refine lv_if_le (tgt := 107) (pc := 41) hx hb dX5_chargeFurnace_41 (by decide) (fun c41 => ?_) (fun c41 => ?_)
        · replace h := h.1 c41
          obtain ⟨v12, ev12⟩ : ∃ y : Int32, y = x2 + 1 := ⟨_, rfl⟩
          replace h := h v12 ev12
          refine lv_iinc (v := v12) (lv' := [(2, .int v12), (4, .ref (b + j10)), (3, .ref (b + j7)), (0, .ref (b + x0)), (1, .ref (b + x1))]) (pc := 107) hx hb dX5_chargeFurnace_107 hl (k := 4) rfl (by rw [ev12]; rfl) (by decide) rfl (fun ls hl => ?_)
          refine lv_goto (tgt := 12) (pc := 110) hx hb dX5_chargeFurnace_110 (by decide) ?_
          exact ih _ _ _ _ _ _ _ h hP hS (lv_sub hl [3, 4, 0] rfl)
        · replace h := h.2 c41
          refine lv_aload_n (pc := 44) hx hb dX5_chargeFurnace_44 rfl (lv_at hl 1 rfl) ?_
          refine m_callVI (pc := 45) (y := yX3_lack) (κ := 3) (As := []) (rest := []) C hK hP hS hl.1 ⟨Nat.zero_le _, Nat.zero_le _⟩ (c_X3_lack h) rfl rfl hk8 (by decide) rfl q_484 q_485 q_486 q_5 q_487 ⟨rfl, rfl⟩ yd_X3_lack ⟨Nat.le_of_ble_eq_true rfl, Nat.le_of_ble_eq_true rfl⟩ (Nat.le_of_ble_eq_true rfl) dX5_chargeFurnace_45 (fun r14 M13 H locs h hP hS => ?_)
          refine lv_if_le (tgt := 107) (pc := 48) hx hb dX5_chargeFurnace_48 (by decide) (fun c48 => ?_) (fun c48 => ?_)
          · replace h := h.1 c48
            obtain ⟨v15, ev15⟩ : ∃ y : Int32, y = x2 + 1 := ⟨_, rfl⟩
            replace h := h v15 ev15
            refine lv_iinc (v := v15) (lv' := [(2, .int v15), (4, .ref (b + j10)), (3, .ref (b + j7)), (0, .ref (b + x0)), (1, .ref (b + x1))]) (pc := 107) hx hb dX5_chargeFurnace_107 hl (k := 4) rfl (by rw [ev15]; rfl) (by decide) rfl (fun ls hl => ?_)
            refine lv_goto (tgt := 12) (pc := 110) hx hb dX5_chargeFurnace_110 (by decide) ?_
            exact ih _ _ _ _ _ _ _ h hP hS (lv_sub hl [3, 4, 0] rfl)
          · replace h := h.2 c48
            refine lv_aload (pc := 51) hx hb dX5_chargeFurnace_51 (lv_at hl 0 rfl) ?_
            refine lv_dup (pc := 53) hx hb dX5_chargeFurnace_53 rfl ?_
            refine gX5_170 (pc := 54) C hK hP hk11 dX5_chargeFurnace_54 ?_
            refine lv_iconst (v := 1) (pc := 57) hx hb dX5_chargeFurnace_57 (by decide) ?_
            refine lv_isub (pc := 58) hx hb dX5_chargeFurnace_58 ?_
            refine pX5_170 (pc := 59) (v := (M13.1 j10 0) - 1) C hK hP hS hk11 dX5_chargeFurnace_59 (fun M16 H locs eM16 hP hS => ?_)
            replace h := h M16 eM16
            refine lv_aload_n (pc := 62) hx hb dX5_chargeFurnace_62 rfl (lv_at hl 1 rfl) ?_
            refine lv_dup (pc := 63) hx hb dX5_chargeFurnace_63 rfl ?_
            refine gX5_144 (pc := 64) C hK hP hk8 dX5_chargeFurnace_64 ?_
            refine lv_iconst (v := 1) (pc := 67) hx hb dX5_chargeFurnace_67 (by decide) ?_
            refine lv_iadd (pc := 68) hx hb dX5_chargeFurnace_68 ?_
            refine pX5_144 (pc := 69) (v := (M16.1 j7 7) + 1) C hK hP hS hk8 dX5_chargeFurnace_69 (fun M17 H locs eM17 hP hS => ?_)
            replace h := h M17 eM17
            refine lv_aload_n (pc := 72) hx hb dX5_chargeFurnace_72 rfl (lv_at hl 3 rfl) ?_
            refine lv_aload_n (pc := 73) hx hb dX5_chargeFurnace_73 rfl (lv_at hl 1 rfl) ?_
            refine gX5_122 (pc := 74) C hK hP hk8 dX5_chargeFurnace_74 ?_
            obtain ⟨hk18, h⟩ := h
            refine pX5_159 (pc := 77) (v := M17.1 j7 0) C hK hP hS hk18 dX5_chargeFurnace_77 (fun M19 H locs eM19 hP hS => ?_)
            replace h := h M19 eM19
            refine lv_aload_n (pc := 80) hx hb dX5_chargeFurnace_80 rfl (lv_at hl 3 rfl) ?_
            refine lv_bipush (v := 20) (pc := 81) hx hb dX5_chargeFurnace_81 (by decide) ?_
            refine pX5_204 (pc := 83) (v := 20) C hK hP hS hk18 dX5_chargeFurnace_83 (fun M20 H locs eM20 hP hS => ?_)
            replace h := h M20 eM20
            refine lv_aload_n (pc := 86) hx hb dX5_chargeFurnace_86 rfl (lv_at hl 3 rfl) ?_
            refine lv_iconst (v := 0) (pc := 87) hx hb dX5_chargeFurnace_87 (by decide) ?_
            refine pX5_238 (pc := 88) (v := 0) C hK hP hS hk18 dX5_chargeFurnace_88 (fun M21 H locs eM21 hP hS => ?_)
            replace h := h M21 eM21
            refine lv_aload_n (pc := 91) hx hb dX5_chargeFurnace_91 rfl (lv_at hl 3 rfl) ?_
            refine lv_aload_n (pc := 92) hx hb dX5_chargeFurnace_92 rfl (lv_at hl 2 rfl) ?_
            refine lv_aload_n (pc := 93) hx hb dX5_chargeFurnace_93 rfl (lv_at hl 1 rfl) ?_
            refine gX5_125 (pc := 94) C hK hP hk8 dX5_chargeFurnace_94 ?_
            refine m_callVR (pc := 97) (y := yX5_dieAt) (κ := 5) (As := [.int (M21.1 j7 1)]) (rest := [.ref (b + x1)]) C hK hP hS hl.1 ⟨Nat.zero_le _, Nat.zero_le _⟩ (c_X5_dieAt h) rfl rfl hk5 (by decide) rfl q_355 q_356 q_357 q_2 q_358 ⟨rfl, rfl⟩ yd_X5_dieAt ⟨Nat.le_of_ble_eq_true rfl, Nat.le_of_ble_eq_true rfl⟩ (Nat.le_of_ble_eq_true rfl) dX5_chargeFurnace_97 (fun j23 M22 H locs h hP hS => ?_)
            obtain ⟨hk24, h⟩ := h
            refine gX5_239 (pc := 100) C hK hP hk24 dX5_chargeFurnace_100 ?_
            refine pX5_240 (pc := 103) (v := M22.1 j23 0) C hK hP hS hk18 dX5_chargeFurnace_103 (fun M25 H locs eM25 hP hS => ?_)
            replace h := h M25 eM25
            exact m_vret (pc := 106) C hr hlk hP hS dX5_chargeFurnace_106 h
  unfold wp_X5_chargeFurnace at h
  refine lv_aload_n (pc := 0) hx hb dX5_chargeFurnace_0 rfl (lv_at hl 0 rfl) ?_
  obtain ⟨hk2, h⟩ := h
  refine m_callVO (pc := 1) (y := yX5_freePlace) (κ := 5) (As := []) (rest := []) C hK hP hS hl.1 ⟨Nat.zero_le _, Nat.zero_le _⟩ (c_X5_freePlace h) rfl rfl hk2 (by decide) rfl q_656 q_658 q_s15 q_2 q_659 ⟨rfl, rfl⟩ yd_X5_freePlace ⟨Nat.le_of_ble_eq_true rfl, Nat.le_of_ble_eq_true rfl⟩ (Nat.le_of_ble_eq_true rfl) dX5_chargeFurnace_1 (fun o3 M1 H locs h hP hS => ?_)
  refine m_astO_n (lv' := [(1, va_rf ((o3).map (fun j => b + j))), (0, .ref (b + i))]) hx hb (pc := 4) dX5_chargeFurnace_4 rfl hl (by decide) rfl (fun ls hl => ?_)
  refine m_aldO_n hx hb (pc := 5) dX5_chargeFurnace_5 rfl (lv_at hl 0 rfl) ?_
  rcases eo : o3 with _ | j4
  · replace h := h.1 eo
    refine lv_ifnonnullN (pc := 6) hx hb dX5_chargeFurnace_6 ?_
    try rw [eo] at hl
    exact m_vret (pc := 9) C hr hlk hP hS dX5_chargeFurnace_9 h
  · replace h := h.2 j4 eo
    refine lv_ifnonnull (tgt := 10) (pc := 6) hx hb dX5_chargeFurnace_6 (by decide) ?_
    try rw [eo] at hl
    refine lv_iconst (v := 0) (pc := 10) hx hb dX5_chargeFurnace_10 (by decide) ?_
    refine lv_istore_n (lv' := [(2, .int 0), (1, .ref (b + j4)), (0, .ref (b + i))]) (pc := 11) hx hb dX5_chargeFurnace_11 rfl hl (by decide) rfl (fun ls hl => ?_)
    obtain ⟨f, h⟩ := h
    exact L12 f _ _ _ _ _ _ _ h hP hS (lv_sub hl [2, 1, 0] rfl)
/-! ForgeHeats$Shop.loadPress ()V -/
def wpB_X5_loadPress_2 (n : Nat) (P : Mem → Prop) (R_ : Mem → Nat → Int32 → Prop) (M : Mem) (x0 : Nat) (x1 : Int32) : Prop := m_tp n x0 5 ∧ ((((M.1 x0 5) ≤ x1 → P M) ∧ (¬ (M.1 x0 5) ≤ x1 → wp_X5_jobAt n M x0 x1 (fun j3 M2 => m_tp n j3 3 ∧ ((((M2.1 j3 7) ≤ 0 → ∀ v5 : Int32, v5 = x1 + 1 → (R_ M2 x0 v5)) ∧ (¬ (M2.1 j3 7) ≤ 0 → wp_X5_dieAt n M2 x0 (M2.1 j3 1) (fun j7 M6 => m_tp n j7 1 ∧ (wp_X1_canForge n M6 j7 (fun z10 M8 => ((z10 = false → ∀ v11 : Int32, v11 = x1 + 1 → (R_ M8 x0 v11)) ∧ (z10 = true → wp_X5_hottestReady n M8 x0 j3 (fun o13 M12 => ((o13 = none → ∀ v15 : Int32, v15 = x1 + 1 → (R_ M12 x0 v15)) ∧ (∀ j14 : Nat, o13 = some j14 → ∃ j16 : Nat, M12.2.1 x0 4 = some j16 ∧ (m_tp n j16 0 ∧ (wp_X0_copyFrom n M12 j16 j14 (fun M17 => m_tp n j14 0 ∧ (∀ M21 : Mem, M21 = uI M17 j14 0 (-1) → (P M21))))))))))))))))))))
def wpL_X5_loadPress_2 (n : Nat) (P : Mem → Prop) : Nat → Mem → Nat → Int32 → Prop
  | 0 => fun _ _ _ => False
  | f + 1 => fun M x0 x1 => wpB_X5_loadPress_2 n P (wpL_X5_loadPress_2 n P f) M x0 x1
def wp_X5_loadPress (n : Nat) (M : Mem) (i : Nat) (P : Mem → Prop) : Prop := ∃ f : Nat, wpL_X5_loadPress_2 n P f M i 0
abbrev rm_X5_loadPress : Room := { frames := 2, cells := 0, slots := 0, locals := 49 }
set_option maxHeartbeats 4000000 in
set_option maxRecDepth 100000 in
theorem c_X5_loadPress {l : Launch} {D : va_G} {cA : Nat → ClassId} {b n : Nat} {M : Mem} {i : Nat} {P : Mem → Prop} (h : wp_X5_loadPress n M i P) : m_C l D cA b n n M yX5_loadPress cX5_loadPress 4 none rm_X5_loadPress 0 0 [.ref (b + i)] (rV P) := by
  refine m_enter (by decide) (Nat.le_of_ble_eq_true rfl) (fun p e s m below meth c C hr hlk hnm hK hP hS ls hl => ?_)
  have hx := C.1
  have hb := C.2.1
  have hl : lv_has ls 4 [(0, .ref (b + i))] := hl
  have L2 : ∀ f : Nat, ∀ (M : Mem) (H : Heap) (locs : List Loc) (ls : Array Slot) (x0 : Nat) (x1 : Int32), wpL_X5_loadPress_2 n P f M x0 x1 → m_H D cA b n M H → va_S (m_A b) s.heap H locs → lv_has ls 4 [(0, .ref (b + x0)), (1, .int x1)] → W p l e rm_X5_loadPress s m ([.ref (b + i)] : List Value).toArray below meth c H locs 0 0 (MQ below (m_Q D cA b n (rV P)) ([.ref (b + i)] : List Value).toArray s 0 0 (m_A b)) (F0 m 2 ls []) := by
    clear h
    intro f
    induction f with
    | zero => intro M H locs ls x0 x1 h; exact h.elim
    | succ f ih =>
      intro M H locs ls x0 x1 h hP hS hl
      have h : wpB_X5_loadPress_2 n P (wpL_X5_loadPress_2 n P f) M x0 x1 := h
      unfold wpB_X5_loadPress_2 at h
      refine lv_iload_n (pc := 2) hx hb dX5_loadPress_2 rfl (lv_at hl 1 rfl) ?_
      refine lv_aload_n (pc := 3) hx hb dX5_loadPress_3 rfl (lv_at hl 0 rfl) ?_
      obtain ⟨hk1, h⟩ := h
      refine gX5_83 (pc := 4) C hK hP hk1 dX5_loadPress_4 ?_
      refine lv_icmp_ge (tgt := 67) (pc := 7) hx hb dX5_loadPress_7 (by decide) (fun c7 => ?_) (fun c7 => ?_)
      · replace h := h.1 c7
        exact m_vret (pc := 67) C hr hlk hP hS dX5_loadPress_67 h
      · replace h := h.2 c7
        refine lv_aload_n (pc := 10) hx hb dX5_loadPress_10 rfl (lv_at hl 0 rfl) ?_
        refine lv_iload_n (pc := 11) hx hb dX5_loadPress_11 rfl (lv_at hl 1 rfl) ?_
        refine m_callVR (pc := 12) (y := yX5_jobAt) (κ := 5) (As := [.int x1]) (rest := []) C hK hP hS hl.1 ⟨Nat.zero_le _, Nat.zero_le _⟩ (c_X5_jobAt h) rfl rfl hk1 (by decide) rfl q_363 q_364 q_365 q_2 q_366 ⟨rfl, rfl⟩ yd_X5_jobAt ⟨Nat.le_of_ble_eq_true rfl, Nat.le_of_ble_eq_true rfl⟩ (Nat.le_of_ble_eq_true rfl) dX5_loadPress_12 (fun j3 M2 H locs h hP hS => ?_)
        refine lv_astore_n (lv' := [(2, .ref (b + j3)), (0, .ref (b + x0)), (1, .int x1)]) (pc := 15) hx hb dX5_loadPress_15 rfl hl (by decide) rfl (fun ls hl => ?_)
        refine lv_aload_n (pc := 16) hx hb dX5_loadPress_16 rfl (lv_at hl 0 rfl) ?_
        obtain ⟨hk4, h⟩ := h
        refine gX5_144 (pc := 17) C hK hP hk4 dX5_loadPress_17 ?_
        refine lv_if_le (tgt := 61) (pc := 20) hx hb dX5_loadPress_20 (by decide) (fun c20 => ?_) (fun c20 => ?_)
        · replace h := h.1 c20
          obtain ⟨v5, ev5⟩ : ∃ y : Int32, y = x1 + 1 := ⟨_, rfl⟩
          replace h := h v5 ev5
          refine lv_iinc (v := v5) (lv' := [(1, .int v5), (2, .ref (b + j3)), (0, .ref (b + x0))]) (pc := 61) hx hb dX5_loadPress_61 hl (k := 2) rfl (by rw [ev5]; rfl) (by decide) rfl (fun ls hl => ?_)
          refine lv_goto (tgt := 2) (pc := 64) hx hb dX5_loadPress_64 (by decide) ?_
          exact ih _ _ _ _ _ _ h hP hS (lv_sub hl [2, 0] rfl)
        · replace h := h.2 c20
          refine lv_aload_n (pc := 23) hx hb dX5_loadPress_23 rfl (lv_at hl 1 rfl) ?_
          refine lv_aload_n (pc := 24) hx hb dX5_loadPress_24 rfl (lv_at hl 0 rfl) ?_
          refine gX5_125 (pc := 25) C hK hP hk4 dX5_loadPress_25 ?_
          refine m_callVR (pc := 28) (y := yX5_dieAt) (κ := 5) (As := [.int (M2.1 j3 1)]) (rest := []) C hK hP hS hl.1 ⟨Nat.zero_le _, Nat.zero_le _⟩ (c_X5_dieAt h) rfl rfl hk1 (by decide) rfl q_355 q_356 q_357 q_2 q_358 ⟨rfl, rfl⟩ yd_X5_dieAt ⟨Nat.le_of_ble_eq_true rfl, Nat.le_of_ble_eq_true rfl⟩ (Nat.le_of_ble_eq_true rfl) dX5_loadPress_28 (fun j7 M6 H locs h hP hS => ?_)
          obtain ⟨hk9, h⟩ := h
          refine m_callVZ (pc := 31) (y := yX1_canForge) (κ := 1) (As := []) (rest := []) C hK hP hS hl.1 ⟨Nat.zero_le _, Nat.zero_le _⟩ (c_X1_canForge h) rfl rfl hk9 (by decide) rfl q_664 q_665 q_666 q_4 q_667 ⟨rfl, rfl⟩ yd_X1_canForge ⟨Nat.le_of_ble_eq_true rfl, Nat.le_of_ble_eq_true rfl⟩ (Nat.le_of_ble_eq_true rfl) dX5_loadPress_31 (fun z10 M8 H locs h hP hS => ?_)
          refine lv_if_eq (tgt := 61) (pc := 34) hx hb dX5_loadPress_34 (by decide) (fun c34 => ?_) (fun c34 => ?_)
          · replace h := h.1 (bZ0 c34)
            obtain ⟨v11, ev11⟩ : ∃ y : Int32, y = x1 + 1 := ⟨_, rfl⟩
            replace h := h v11 ev11
            refine lv_iinc (v := v11) (lv' := [(1, .int v11), (2, .ref (b + j3)), (0, .ref (b + x0))]) (pc := 61) hx hb dX5_loadPress_61 hl (k := 2) rfl (by rw [ev11]; rfl) (by decide) rfl (fun ls hl => ?_)
            refine lv_goto (tgt := 2) (pc := 64) hx hb dX5_loadPress_64 (by decide) ?_
            exact ih _ _ _ _ _ _ h hP hS (lv_sub hl [2, 0] rfl)
          · replace h := h.2 (bZ1 c34)
            refine lv_aload_n (pc := 37) hx hb dX5_loadPress_37 rfl (lv_at hl 1 rfl) ?_
            refine lv_aload_n (pc := 38) hx hb dX5_loadPress_38 rfl (lv_at hl 0 rfl) ?_
            refine m_callVO (pc := 39) (y := yX5_hottestReady) (κ := 5) (As := [.ref (b + j3)]) (rest := []) C hK hP hS hl.1 ⟨Nat.zero_le _, Nat.zero_le _⟩ (c_X5_hottestReady h) rfl rfl hk1 (by decide) rfl q_525 q_527 q_s7 q_2 q_528 ⟨rfl, rfl⟩ yd_X5_hottestReady ⟨Nat.le_of_ble_eq_true rfl, Nat.le_of_ble_eq_true rfl⟩ (Nat.le_of_ble_eq_true rfl) dX5_loadPress_39 (fun o13 M12 H locs h hP hS => ?_)
            refine m_astO_n (lv' := [(3, va_rf ((o13).map (fun j => b + j))), (2, .ref (b + j3)), (0, .ref (b + x0)), (1, .int x1)]) hx hb (pc := 42) dX5_loadPress_42 rfl hl (by decide) rfl (fun ls hl => ?_)
            refine m_aldO_n hx hb (pc := 43) dX5_loadPress_43 rfl (lv_at hl 0 rfl) ?_
            rcases eo : o13 with _ | j14
            · replace h := h.1 eo
              refine lv_ifnullN (tgt := 61) (pc := 44) hx hb dX5_loadPress_44 (by decide) ?_
              try rw [eo] at hl
              obtain ⟨v15, ev15⟩ : ∃ y : Int32, y = x1 + 1 := ⟨_, rfl⟩
              replace h := h v15 ev15
              refine lv_iinc (v := v15) (lv' := [(1, .int v15), (3, .null), (2, .ref (b + j3)), (0, .ref (b + x0))]) (pc := 61) hx hb dX5_loadPress_61 hl (k := 3) rfl (by rw [ev15]; rfl) (by decide) rfl (fun ls hl => ?_)
              refine lv_goto (tgt := 2) (pc := 64) hx hb dX5_loadPress_64 (by decide) ?_
              exact ih _ _ _ _ _ _ h hP hS (lv_sub hl [3, 0] rfl)
            · replace h := h.2 j14 eo
              refine lv_ifnull (pc := 44) hx hb dX5_loadPress_44 ?_
              try rw [eo] at hl
              refine lv_aload_n (pc := 47) hx hb dX5_loadPress_47 rfl (lv_at hl 2 rfl) ?_
              obtain ⟨j16, hj16, h⟩ := h
              refine gX5_52 (pc := 48) C hK hP hk1 hj16 dX5_loadPress_48 ?_
              refine lv_aload_n (pc := 51) hx hb dX5_loadPress_51 rfl (lv_at hl 0 rfl) ?_
              obtain ⟨hk18, h⟩ := h
              refine m_callVV (pc := 52) (y := yX0_copyFrom) (κ := 0) (As := [.ref (b + j14)]) (rest := []) C hK hP hS hl.1 ⟨Nat.zero_le _, Nat.zero_le _⟩ (c_X0_copyFrom h) rfl rfl hk18 (by decide) rfl q_375 q_376 q_377 q_6 q_378 ⟨rfl, rfl⟩ yd_X0_copyFrom ⟨Nat.le_of_ble_eq_true rfl, Nat.le_of_ble_eq_true rfl⟩ (Nat.le_of_ble_eq_true rfl) dX5_loadPress_52 (fun M17 H locs h hP hS => ?_)
              refine lv_aload_n (pc := 55) hx hb dX5_loadPress_55 rfl (lv_at hl 0 rfl) ?_
              refine lv_iconst (v := -1) (pc := 56) hx hb dX5_loadPress_56 (by decide) ?_
              obtain ⟨hk20, h⟩ := h
              refine pX5_159 (pc := 57) (v := (-1)) C hK hP hS hk20 dX5_loadPress_57 (fun M21 H locs eM21 hP hS => ?_)
              replace h := h M21 eM21
              exact m_vret (pc := 60) C hr hlk hP hS dX5_loadPress_60 h
  unfold wp_X5_loadPress at h
  refine lv_iconst (v := 0) (pc := 0) hx hb dX5_loadPress_0 (by decide) ?_
  refine lv_istore_n (lv' := [(1, .int 0), (0, .ref (b + i))]) (pc := 1) hx hb dX5_loadPress_1 rfl hl (by decide) rfl (fun ls hl => ?_)
  obtain ⟨f, h⟩ := h
  exact L2 f _ _ _ _ _ _ h hP hS (lv_sub hl [1, 0] rfl)
/-! ForgeHeats$Shop.sendBack (LForgeHeats$Job;LForgeHeats$Heat;)V -/
def wp_X5_sendBack (n : Nat) (M : Mem) (i : Nat) (p1 : Nat) (p2 : Nat) (P : Mem → Prop) : Prop := m_tp n i 5 ∧ (∃ j2 : Nat, M.2.1 i 4 = some j2 ∧ (m_tp n j2 0 ∧ (∀ M4 : Mem, M4 = uI M j2 2 ((M.1 j2 2) + 1) → (wp_X5_freePlace n M4 i (fun o6 M5 => ((o6 = none → m_tp n p1 3 ∧ (∀ M9 : Mem, M9 = uI M5 p1 7 ((M5.1 p1 7) - 1) → (m_tp n p2 2 ∧ (∀ M11 : Mem, M11 = uI M9 p2 4 ((M9.1 p2 4) + 1) → (∃ j12 : Nat, M11.2.1 i 4 = some j12 ∧ (m_tp n j12 0 ∧ (∀ M14 : Mem, M14 = uI M11 j12 0 (-1) → (P M14)))))))) ∧ (∀ j7 : Nat, o6 = some j7 → ∃ j15 : Nat, M5.2.1 i 4 = some j15 ∧ (m_tp n j15 0 ∧ ((((M5.1 j15 2) ≤ (M5.1 i 9) → ∃ j17 : Nat, M5.2.1 i 4 = some j17 ∧ (m_tp n j7 0 ∧ (wp_X0_copyFrom n M5 j7 j17 (fun M18 => ∃ j21 : Nat, M18.2.1 i 4 = some j21 ∧ (m_tp n j21 0 ∧ (∀ M23 : Mem, M23 = uI M18 j21 0 (-1) → (P M23))))))) ∧ (¬ (M5.1 j15 2) ≤ (M5.1 i 9) → m_tp n p1 3 ∧ (∀ M25 : Mem, M25 = uI M5 p1 7 ((M5.1 p1 7) - 1) → (m_tp n p2 2 ∧ (∀ M27 : Mem, M27 = uI M25 p2 4 ((M25.1 p2 4) + 1) → (∃ j28 : Nat, M27.2.1 i 4 = some j28 ∧ (m_tp n j28 0 ∧ (∀ M30 : Mem, M30 = uI M27 j28 0 (-1) → (P M30))))))))))))))))))
abbrev rm_X5_sendBack : Room := { frames := 1, cells := 0, slots := 0, locals := 24 }
set_option maxHeartbeats 4000000 in
set_option maxRecDepth 100000 in
theorem c_X5_sendBack {l : Launch} {D : va_G} {cA : Nat → ClassId} {b n : Nat} {M : Mem} {i : Nat} {p1 : Nat} {p2 : Nat} {P : Mem → Prop} (h : wp_X5_sendBack n M i p1 p2 P) : m_C l D cA b n n M yX5_sendBack cX5_sendBack 4 none rm_X5_sendBack 0 0 [.ref (b + i), .ref (b + p1), .ref (b + p2)] (rV P) := by
  refine m_enter (by decide) (Nat.le_of_ble_eq_true rfl) (fun p e s m below meth c C hr hlk hnm hK hP hS ls hl => ?_)
  have hx := C.1
  have hb := C.2.1
  have hl : lv_has ls 4 [(0, .ref (b + i)), (1, .ref (b + p1)), (2, .ref (b + p2))] := hl
  unfold wp_X5_sendBack at h
  refine lv_aload_n (pc := 0) hx hb dX5_sendBack_0 rfl (lv_at hl 0 rfl) ?_
  obtain ⟨hk1, h⟩ := h
  obtain ⟨j2, hj2, h⟩ := h
  refine gX5_52 (pc := 1) C hK hP hk1 hj2 dX5_sendBack_1 ?_
  refine lv_dup (pc := 4) hx hb dX5_sendBack_4 rfl ?_
  obtain ⟨hk3, h⟩ := h
  refine gX5_238 (pc := 5) C hK hP hk3 dX5_sendBack_5 ?_
  refine lv_iconst (v := 1) (pc := 8) hx hb dX5_sendBack_8 (by decide) ?_
  refine lv_iadd (pc := 9) hx hb dX5_sendBack_9 ?_
  refine pX5_238 (pc := 10) (v := (M.1 j2 2) + 1) C hK hP hS hk3 dX5_sendBack_10 (fun M4 H locs eM4 hP hS => ?_)
  replace h := h M4 eM4
  refine lv_aload_n (pc := 13) hx hb dX5_sendBack_13 rfl (lv_at hl 0 rfl) ?_
  refine m_callVO (pc := 14) (y := yX5_freePlace) (κ := 5) (As := []) (rest := []) C hK hP hS hl.1 ⟨Nat.zero_le _, Nat.zero_le _⟩ (c_X5_freePlace h) rfl rfl hk1 (by decide) rfl q_656 q_658 q_s15 q_2 q_659 ⟨rfl, rfl⟩ yd_X5_freePlace ⟨Nat.le_of_ble_eq_true rfl, Nat.le_of_ble_eq_true rfl⟩ (Nat.le_of_ble_eq_true rfl) dX5_sendBack_14 (fun o6 M5 H locs h hP hS => ?_)
  refine m_astO_n (lv' := [(3, va_rf ((o6).map (fun j => b + j))), (0, .ref (b + i)), (1, .ref (b + p1)), (2, .ref (b + p2))]) hx hb (pc := 17) dX5_sendBack_17 rfl hl (by decide) rfl (fun ls hl => ?_)
  refine m_aldO_n hx hb (pc := 18) dX5_sendBack_18 rfl (lv_at hl 0 rfl) ?_
  rcases eo : o6 with _ | j7
  · replace h := h.1 eo
    refine lv_ifnullN (tgt := 36) (pc := 19) hx hb dX5_sendBack_19 (by decide) ?_
    try rw [eo] at hl
    refine lv_aload_n (pc := 36) hx hb dX5_sendBack_36 rfl (lv_at hl 2 rfl) ?_
    refine lv_dup (pc := 37) hx hb dX5_sendBack_37 rfl ?_
    obtain ⟨hk8, h⟩ := h
    refine gX5_144 (pc := 38) C hK hP hk8 dX5_sendBack_38 ?_
    refine lv_iconst (v := 1) (pc := 41) hx hb dX5_sendBack_41 (by decide) ?_
    refine lv_isub (pc := 42) hx hb dX5_sendBack_42 ?_
    refine pX5_144 (pc := 43) (v := (M5.1 p1 7) - 1) C hK hP hS hk8 dX5_sendBack_43 (fun M9 H locs eM9 hP hS => ?_)
    replace h := h M9 eM9
    refine lv_aload_n (pc := 46) hx hb dX5_sendBack_46 rfl (lv_at hl 3 rfl) ?_
    refine lv_dup (pc := 47) hx hb dX5_sendBack_47 rfl ?_
    obtain ⟨hk10, h⟩ := h
    refine gX5_162 (pc := 48) C hK hP hk10 dX5_sendBack_48 ?_
    refine lv_iconst (v := 1) (pc := 51) hx hb dX5_sendBack_51 (by decide) ?_
    refine lv_iadd (pc := 52) hx hb dX5_sendBack_52 ?_
    refine pX5_162 (pc := 53) (v := (M9.1 p2 4) + 1) C hK hP hS hk10 dX5_sendBack_53 (fun M11 H locs eM11 hP hS => ?_)
    replace h := h M11 eM11
    refine lv_goto (tgt := 67) (pc := 56) hx hb dX5_sendBack_56 (by decide) ?_
    refine lv_aload_n (pc := 67) hx hb dX5_sendBack_67 rfl (lv_at hl 1 rfl) ?_
    obtain ⟨j12, hj12, h⟩ := h
    refine gX5_52 (pc := 68) C hK hP hk1 hj12 dX5_sendBack_68 ?_
    refine lv_iconst (v := -1) (pc := 71) hx hb dX5_sendBack_71 (by decide) ?_
    obtain ⟨hk13, h⟩ := h
    refine pX5_159 (pc := 72) (v := (-1)) C hK hP hS hk13 dX5_sendBack_72 (fun M14 H locs eM14 hP hS => ?_)
    replace h := h M14 eM14
    exact m_vret (pc := 75) C hr hlk hP hS dX5_sendBack_75 h
  · replace h := h.2 j7 eo
    refine lv_ifnull (pc := 19) hx hb dX5_sendBack_19 ?_
    try rw [eo] at hl
    refine lv_aload_n (pc := 22) hx hb dX5_sendBack_22 rfl (lv_at hl 1 rfl) ?_
    obtain ⟨j15, hj15, h⟩ := h
    refine gX5_52 (pc := 23) C hK hP hk1 hj15 dX5_sendBack_23 ?_
    obtain ⟨hk16, h⟩ := h
    refine gX5_238 (pc := 26) C hK hP hk16 dX5_sendBack_26 ?_
    refine lv_aload_n (pc := 29) hx hb dX5_sendBack_29 rfl (lv_at hl 1 rfl) ?_
    refine gX5_18 (pc := 30) C hK hP hk1 dX5_sendBack_30 ?_
    refine lv_icmp_le (tgt := 59) (pc := 33) hx hb dX5_sendBack_33 (by decide) (fun c33 => ?_) (fun c33 => ?_)
    · replace h := h.1 c33
      refine lv_aload_n (pc := 59) hx hb dX5_sendBack_59 rfl (lv_at hl 0 rfl) ?_
      refine lv_aload_n (pc := 60) hx hb dX5_sendBack_60 rfl (lv_at hl 1 rfl) ?_
      obtain ⟨j17, hj17, h⟩ := h
      refine gX5_52 (pc := 61) C hK hP hk1 hj17 dX5_sendBack_61 ?_
      obtain ⟨hk19, h⟩ := h
      refine m_callVV (pc := 64) (y := yX0_copyFrom) (κ := 0) (As := [.ref (b + j17)]) (rest := []) C hK hP hS hl.1 ⟨Nat.zero_le _, Nat.zero_le _⟩ (c_X0_copyFrom h) rfl rfl hk19 (by decide) rfl q_375 q_376 q_377 q_6 q_378 ⟨rfl, rfl⟩ yd_X0_copyFrom ⟨Nat.le_of_ble_eq_true rfl, Nat.le_of_ble_eq_true rfl⟩ (Nat.le_of_ble_eq_true rfl) dX5_sendBack_64 (fun M18 H locs h hP hS => ?_)
      refine lv_aload_n (pc := 67) hx hb dX5_sendBack_67 rfl (lv_at hl 1 rfl) ?_
      obtain ⟨j21, hj21, h⟩ := h
      refine gX5_52 (pc := 68) C hK hP hk1 hj21 dX5_sendBack_68 ?_
      refine lv_iconst (v := -1) (pc := 71) hx hb dX5_sendBack_71 (by decide) ?_
      obtain ⟨hk22, h⟩ := h
      refine pX5_159 (pc := 72) (v := (-1)) C hK hP hS hk22 dX5_sendBack_72 (fun M23 H locs eM23 hP hS => ?_)
      replace h := h M23 eM23
      exact m_vret (pc := 75) C hr hlk hP hS dX5_sendBack_75 h
    · replace h := h.2 c33
      refine lv_aload_n (pc := 36) hx hb dX5_sendBack_36 rfl (lv_at hl 2 rfl) ?_
      refine lv_dup (pc := 37) hx hb dX5_sendBack_37 rfl ?_
      obtain ⟨hk24, h⟩ := h
      refine gX5_144 (pc := 38) C hK hP hk24 dX5_sendBack_38 ?_
      refine lv_iconst (v := 1) (pc := 41) hx hb dX5_sendBack_41 (by decide) ?_
      refine lv_isub (pc := 42) hx hb dX5_sendBack_42 ?_
      refine pX5_144 (pc := 43) (v := (M5.1 p1 7) - 1) C hK hP hS hk24 dX5_sendBack_43 (fun M25 H locs eM25 hP hS => ?_)
      replace h := h M25 eM25
      refine lv_aload_n (pc := 46) hx hb dX5_sendBack_46 rfl (lv_at hl 3 rfl) ?_
      refine lv_dup (pc := 47) hx hb dX5_sendBack_47 rfl ?_
      obtain ⟨hk26, h⟩ := h
      refine gX5_162 (pc := 48) C hK hP hk26 dX5_sendBack_48 ?_
      refine lv_iconst (v := 1) (pc := 51) hx hb dX5_sendBack_51 (by decide) ?_
      refine lv_iadd (pc := 52) hx hb dX5_sendBack_52 ?_
      refine pX5_162 (pc := 53) (v := (M25.1 p2 4) + 1) C hK hP hS hk26 dX5_sendBack_53 (fun M27 H locs eM27 hP hS => ?_)
      replace h := h M27 eM27
      refine lv_goto (tgt := 67) (pc := 56) hx hb dX5_sendBack_56 (by decide) ?_
      refine lv_aload_n (pc := 67) hx hb dX5_sendBack_67 rfl (lv_at hl 1 rfl) ?_
      obtain ⟨j28, hj28, h⟩ := h
      refine gX5_52 (pc := 68) C hK hP hk1 hj28 dX5_sendBack_68 ?_
      refine lv_iconst (v := -1) (pc := 71) hx hb dX5_sendBack_71 (by decide) ?_
      obtain ⟨hk29, h⟩ := h
      refine pX5_159 (pc := 72) (v := (-1)) C hK hP hS hk29 dX5_sendBack_72 (fun M30 H locs eM30 hP hS => ?_)
      replace h := h M30 eM30
      exact m_vret (pc := 75) C hr hlk hP hS dX5_sendBack_75 h
/-! ForgeHeats$Shop.countGone (LForgeHeats$Job;)V -/
def wp_X5_countGone (n : Nat) (M : Mem) (i : Nat) (p1 : Nat) (P : Mem → Prop) : Prop := m_tp n i 5 ∧ (∀ M2 : Mem, M2 = uI M i 13 ((M.1 i 13) + 1) → (m_tp n p1 3 ∧ (∀ v4 : Int32, v4 = ((M2.1 i 11) - (M2.1 p1 5)) → (((v4 ≤ 0 → P M2) ∧ (¬ v4 ≤ 0 → ∀ M5 : Mem, M5 = uI M2 i 14 ((M2.1 i 14) + 1) → (∀ M6 : Mem, M6 = uI M5 i 15 ((M5.1 i 15) + v4) → (P M6))))))))
abbrev rm_X5_countGone : Room := { frames := 0, cells := 0, slots := 0, locals := 0 }
set_option maxHeartbeats 4000000 in
set_option maxRecDepth 100000 in
theorem c_X5_countGone {l : Launch} {D : va_G} {cA : Nat → ClassId} {b n : Nat} {M : Mem} {i : Nat} {p1 : Nat} {P : Mem → Prop} (h : wp_X5_countGone n M i p1 P) : m_C l D cA b n n M yX5_countGone cX5_countGone 3 none rm_X5_countGone 0 0 [.ref (b + i), .ref (b + p1)] (rV P) := by
  refine m_enter (by decide) (Nat.le_of_ble_eq_true rfl) (fun p e s m below meth c C hr hlk hnm hK hP hS ls hl => ?_)
  have hx := C.1
  have hb := C.2.1
  have hl : lv_has ls 3 [(0, .ref (b + i)), (1, .ref (b + p1))] := hl
  unfold wp_X5_countGone at h
  refine lv_aload_n (pc := 0) hx hb dX5_countGone_0 rfl (lv_at hl 0 rfl) ?_
  refine lv_dup (pc := 1) hx hb dX5_countGone_1 rfl ?_
  obtain ⟨hk1, h⟩ := h
  refine gX5_113 (pc := 2) C hK hP hk1 dX5_countGone_2 ?_
  refine lv_iconst (v := 1) (pc := 5) hx hb dX5_countGone_5 (by decide) ?_
  refine lv_iadd (pc := 6) hx hb dX5_countGone_6 ?_
  refine pX5_113 (pc := 7) (v := (M.1 i 13) + 1) C hK hP hS hk1 dX5_countGone_7 (fun M2 H locs eM2 hP hS => ?_)
  replace h := h M2 eM2
  refine lv_aload_n (pc := 10) hx hb dX5_countGone_10 rfl (lv_at hl 0 rfl) ?_
  refine gX5_107 (pc := 11) C hK hP hk1 dX5_countGone_11 ?_
  refine lv_aload_n (pc := 14) hx hb dX5_countGone_14 rfl (lv_at hl 1 rfl) ?_
  obtain ⟨hk3, h⟩ := h
  refine gX5_137 (pc := 15) C hK hP hk3 dX5_countGone_15 ?_
  refine lv_isub (pc := 18) hx hb dX5_countGone_18 ?_
  refine lv_topi (fun v4 ev4 => ?_)
  replace h := h v4 ev4
  refine lv_istore_n (lv' := [(2, .int v4), (0, .ref (b + i)), (1, .ref (b + p1))]) (pc := 19) hx hb dX5_countGone_19 rfl hl (by decide) rfl (fun ls hl => ?_)
  refine lv_iload_n (pc := 20) hx hb dX5_countGone_20 rfl (lv_at hl 0 rfl) ?_
  refine lv_if_le (tgt := 44) (pc := 21) hx hb dX5_countGone_21 (by decide) (fun c21 => ?_) (fun c21 => ?_)
  · replace h := h.1 c21
    exact m_vret (pc := 44) C hr hlk hP hS dX5_countGone_44 h
  · replace h := h.2 c21
    refine lv_aload_n (pc := 24) hx hb dX5_countGone_24 rfl (lv_at hl 1 rfl) ?_
    refine lv_dup (pc := 25) hx hb dX5_countGone_25 rfl ?_
    refine gX5_116 (pc := 26) C hK hP hk1 dX5_countGone_26 ?_
    refine lv_iconst (v := 1) (pc := 29) hx hb dX5_countGone_29 (by decide) ?_
    refine lv_iadd (pc := 30) hx hb dX5_countGone_30 ?_
    refine pX5_116 (pc := 31) (v := (M2.1 i 14) + 1) C hK hP hS hk1 dX5_countGone_31 (fun M5 H locs eM5 hP hS => ?_)
    replace h := h M5 eM5
    refine lv_aload_n (pc := 34) hx hb dX5_countGone_34 rfl (lv_at hl 1 rfl) ?_
    refine lv_dup (pc := 35) hx hb dX5_countGone_35 rfl ?_
    refine gX5_119 (pc := 36) C hK hP hk1 dX5_countGone_36 ?_
    refine lv_iload_n (pc := 39) hx hb dX5_countGone_39 rfl (lv_at hl 0 rfl) ?_
    refine lv_iadd (pc := 40) hx hb dX5_countGone_40 ?_
    refine pX5_119 (pc := 41) (v := (M5.1 i 15) + v4) C hK hP hS hk1 dX5_countGone_41 (fun M6 H locs eM6 hP hS => ?_)
    replace h := h M6 eM6
    exact m_vret (pc := 44) C hr hlk hP hS dX5_countGone_44 h
/-! ForgeHeats$Shop.tendDies ()V -/
def wpB_X5_tendDies_30 (n : Nat) (P : Mem → Prop) (R_ : Mem → Nat → Int32 → Prop) (M : Mem) (x0 : Nat) (x2 : Int32) : Prop := ((5 ≤ x2 → P M) ∧ (¬ 5 ≤ x2 → m_tp n x0 5 ∧ (wp_X5_dieAt n M x0 x2 (fun j6 M4 => m_tp n j6 1 ∧ (wp_X1_isWornOut n M4 j6 (fun z9 M7 => ((z9 = false → ∀ v10 : Int32, v10 = x2 + 1 → (R_ M7 x0 v10)) ∧ (z9 = true → ∀ M11 : Mem, M11 = uI M7 j6 3 (M7.1 x0 10) → (P M11)))))))))
def wpL_X5_tendDies_30 (n : Nat) (P : Mem → Prop) : Nat → Mem → Nat → Int32 → Prop
  | 0 => fun _ _ _ => False
  | f + 1 => fun M x0 x2 => wpB_X5_tendDies_30 n P (wpL_X5_tendDies_30 n P f) M x0 x2
def wp_X5_tendDies (n : Nat) (M : Mem) (i : Nat) (P : Mem → Prop) : Prop := m_tp n i 5 ∧ (wp_X5_dieBeingGround n M i (fun r3 M1 => ((r3 = (-1) → ∃ f : Nat, wpL_X5_tendDies_30 n P f M1 i 0) ∧ (¬ r3 = (-1) → wp_X5_dieAt n M1 i r3 (fun j13 M12 => m_tp n j13 1 ∧ (wp_X1_grindMinute n M12 j13 (fun M14 => wp_X1_isBeingGround n M14 j13 (fun z18 M17 => ((z18 = false → ∃ f : Nat, wpL_X5_tendDies_30 n P f M17 i 0) ∧ (z18 = true → P M17))))))))))
abbrev rm_X5_tendDies : Room := { frames := 2, cells := 0, slots := 0, locals := 43 }
set_option maxHeartbeats 4000000 in
set_option maxRecDepth 100000 in
theorem c_X5_tendDies {l : Launch} {D : va_G} {cA : Nat → ClassId} {b n : Nat} {M : Mem} {i : Nat} {P : Mem → Prop} (h : wp_X5_tendDies n M i P) : m_C l D cA b n n M yX5_tendDies cX5_tendDies 4 none rm_X5_tendDies 0 0 [.ref (b + i)] (rV P) := by
  refine m_enter (by decide) (Nat.le_of_ble_eq_true rfl) (fun p e s m below meth c C hr hlk hnm hK hP hS ls hl => ?_)
  have hx := C.1
  have hb := C.2.1
  have hl : lv_has ls 4 [(0, .ref (b + i))] := hl
  have L30 : ∀ f : Nat, ∀ (M : Mem) (H : Heap) (locs : List Loc) (ls : Array Slot) (x0 : Nat) (x2 : Int32), wpL_X5_tendDies_30 n P f M x0 x2 → m_H D cA b n M H → va_S (m_A b) s.heap H locs → lv_has ls 4 [(0, .ref (b + x0)), (2, .int x2)] → W p l e rm_X5_tendDies s m ([.ref (b + i)] : List Value).toArray below meth c H locs 0 0 (MQ below (m_Q D cA b n (rV P)) ([.ref (b + i)] : List Value).toArray s 0 0 (m_A b)) (F0 m 30 ls []) := by
    clear h
    intro f
    induction f with
    | zero => intro M H locs ls x0 x2 h; exact h.elim
    | succ f ih =>
      intro M H locs ls x0 x2 h hP hS hl
      have h : wpB_X5_tendDies_30 n P (wpL_X5_tendDies_30 n P f) M x0 x2 := h
      unfold wpB_X5_tendDies_30 at h
      refine lv_iload_n (pc := 30) hx hb dX5_tendDies_30 rfl (lv_at hl 1 rfl) ?_
      refine lv_iconst (v := 5) (pc := 31) hx hb dX5_tendDies_31 (by decide) ?_
      refine lv_icmp_ge (tgt := 63) (pc := 32) hx hb dX5_tendDies_32 (by decide) (fun c32 => ?_) (fun c32 => ?_)
      · replace h := h.1 c32
        exact m_vret (pc := 63) C hr hlk hP hS dX5_tendDies_63 h
      · replace h := h.2 c32
        refine lv_aload_n (pc := 35) hx hb dX5_tendDies_35 rfl (lv_at hl 0 rfl) ?_
        refine lv_iload_n (pc := 36) hx hb dX5_tendDies_36 rfl (lv_at hl 1 rfl) ?_
        obtain ⟨hk5, h⟩ := h
        refine m_callVR (pc := 37) (y := yX5_dieAt) (κ := 5) (As := [.int x2]) (rest := []) C hK hP hS hl.1 ⟨Nat.zero_le _, Nat.zero_le _⟩ (c_X5_dieAt h) rfl rfl hk5 (by decide) rfl q_355 q_356 q_357 q_2 q_358 ⟨rfl, rfl⟩ yd_X5_dieAt ⟨Nat.le_of_ble_eq_true rfl, Nat.le_of_ble_eq_true rfl⟩ (Nat.le_of_ble_eq_true rfl) dX5_tendDies_37 (fun j6 M4 H locs h hP hS => ?_)
        refine lv_astore_n (lv' := [(3, .ref (b + j6)), (0, .ref (b + x0)), (2, .int x2)]) (pc := 40) hx hb dX5_tendDies_40 rfl hl (by decide) rfl (fun ls hl => ?_)
        refine lv_aload_n (pc := 41) hx hb dX5_tendDies_41 rfl (lv_at hl 0 rfl) ?_
        obtain ⟨hk8, h⟩ := h
        refine m_callVZ (pc := 42) (y := yX1_isWornOut) (κ := 1) (As := []) (rest := []) C hK hP hS hl.1 ⟨Nat.zero_le _, Nat.zero_le _⟩ (c_X1_isWornOut h) rfl rfl hk8 (by decide) rfl q_521 q_522 q_523 q_4 q_524 ⟨rfl, rfl⟩ yd_X1_isWornOut ⟨Nat.le_of_ble_eq_true rfl, Nat.le_of_ble_eq_true rfl⟩ (Nat.le_of_ble_eq_true rfl) dX5_tendDies_42 (fun z9 M7 H locs h hP hS => ?_)
        refine lv_if_eq (tgt := 57) (pc := 45) hx hb dX5_tendDies_45 (by decide) (fun c45 => ?_) (fun c45 => ?_)
        · replace h := h.1 (bZ0 c45)
          obtain ⟨v10, ev10⟩ : ∃ y : Int32, y = x2 + 1 := ⟨_, rfl⟩
          replace h := h v10 ev10
          refine lv_iinc (v := v10) (lv' := [(2, .int v10), (3, .ref (b + j6)), (0, .ref (b + x0))]) (pc := 57) hx hb dX5_tendDies_57 hl (k := 2) rfl (by rw [ev10]; rfl) (by decide) rfl (fun ls hl => ?_)
          refine lv_goto (tgt := 30) (pc := 60) hx hb dX5_tendDies_60 (by decide) ?_
          exact ih _ _ _ _ _ _ h hP hS (lv_sub hl [2, 0] rfl)
        · replace h := h.2 (bZ1 c45)
          refine lv_aload_n (pc := 48) hx hb dX5_tendDies_48 rfl (lv_at hl 0 rfl) ?_
          refine lv_aload_n (pc := 49) hx hb dX5_tendDies_49 rfl (lv_at hl 1 rfl) ?_
          refine gX5_21 (pc := 50) C hK hP hk5 dX5_tendDies_50 ?_
          refine pX5_264 (pc := 53) (v := M7.1 x0 10) C hK hP hS hk8 dX5_tendDies_53 (fun M11 H locs eM11 hP hS => ?_)
          replace h := h M11 eM11
          exact m_vret (pc := 56) C hr hlk hP hS dX5_tendDies_56 h
  unfold wp_X5_tendDies at h
  refine lv_aload_n (pc := 0) hx hb dX5_tendDies_0 rfl (lv_at hl 0 rfl) ?_
  obtain ⟨hk2, h⟩ := h
  refine m_callVI (pc := 1) (y := yX5_dieBeingGround) (κ := 5) (As := []) (rest := []) C hK hP hS hl.1 ⟨Nat.zero_le _, Nat.zero_le _⟩ (c_X5_dieBeingGround h) rfl rfl hk2 (by decide) rfl q_688 q_427 q_428 q_2 q_429 ⟨rfl, rfl⟩ yd_X5_dieBeingGround ⟨Nat.le_of_ble_eq_true rfl, Nat.le_of_ble_eq_true rfl⟩ (Nat.le_of_ble_eq_true rfl) dX5_tendDies_1 (fun r3 M1 H locs h hP hS => ?_)
  refine lv_istore_n (lv' := [(1, .int r3), (0, .ref (b + i))]) (pc := 4) hx hb dX5_tendDies_4 rfl hl (by decide) rfl (fun ls hl => ?_)
  refine lv_iload_n (pc := 5) hx hb dX5_tendDies_5 rfl (lv_at hl 0 rfl) ?_
  refine lv_iconst (v := -1) (pc := 6) hx hb dX5_tendDies_6 (by decide) ?_
  refine lv_icmp_eq (tgt := 28) (pc := 7) hx hb dX5_tendDies_7 (by decide) (fun c7 => ?_) (fun c7 => ?_)
  · replace h := h.1 c7
    refine lv_iconst (v := 0) (pc := 28) hx hb dX5_tendDies_28 (by decide) ?_
    refine lv_istore_n (lv' := [(2, .int 0), (1, .int r3), (0, .ref (b + i))]) (pc := 29) hx hb dX5_tendDies_29 rfl hl (by decide) rfl (fun ls hl => ?_)
    obtain ⟨f, h⟩ := h
    exact L30 f _ _ _ _ _ _ h hP hS (lv_sub hl [2, 0] rfl)
  · replace h := h.2 c7
    refine lv_aload_n (pc := 10) hx hb dX5_tendDies_10 rfl (lv_at hl 1 rfl) ?_
    refine lv_iload_n (pc := 11) hx hb dX5_tendDies_11 rfl (lv_at hl 0 rfl) ?_
    refine m_callVR (pc := 12) (y := yX5_dieAt) (κ := 5) (As := [.int r3]) (rest := []) C hK hP hS hl.1 ⟨Nat.zero_le _, Nat.zero_le _⟩ (c_X5_dieAt h) rfl rfl hk2 (by decide) rfl q_355 q_356 q_357 q_2 q_358 ⟨rfl, rfl⟩ yd_X5_dieAt ⟨Nat.le_of_ble_eq_true rfl, Nat.le_of_ble_eq_true rfl⟩ (Nat.le_of_ble_eq_true rfl) dX5_tendDies_12 (fun j13 M12 H locs h hP hS => ?_)
    refine lv_astore_n (lv' := [(2, .ref (b + j13)), (1, .int r3), (0, .ref (b + i))]) (pc := 15) hx hb dX5_tendDies_15 rfl hl (by decide) rfl (fun ls hl => ?_)
    refine lv_aload_n (pc := 16) hx hb dX5_tendDies_16 rfl (lv_at hl 0 rfl) ?_
    obtain ⟨hk15, h⟩ := h
    refine m_callVV (pc := 17) (y := yX1_grindMinute) (κ := 1) (As := []) (rest := []) C hK hP hS hl.1 ⟨Nat.zero_le _, Nat.zero_le _⟩ (c_X1_grindMinute h) rfl rfl hk15 (by decide) rfl q_689 q_690 q_691 q_4 q_692 ⟨rfl, rfl⟩ yd_X1_grindMinute ⟨Nat.le_of_ble_eq_true rfl, Nat.le_of_ble_eq_true rfl⟩ (Nat.le_of_ble_eq_true rfl) dX5_tendDies_17 (fun M14 H locs h hP hS => ?_)
    refine lv_aload_n (pc := 20) hx hb dX5_tendDies_20 rfl (lv_at hl 0 rfl) ?_
    refine m_callVZ (pc := 21) (y := yX1_isBeingGround) (κ := 1) (As := []) (rest := []) C hK hP hS hl.1 ⟨Nat.zero_le _, Nat.zero_le _⟩ (c_X1_isBeingGround h) rfl rfl hk15 (by decide) rfl q_430 q_431 q_432 q_4 q_433 ⟨rfl, rfl⟩ yd_X1_isBeingGround ⟨Nat.le_of_ble_eq_true rfl, Nat.le_of_ble_eq_true rfl⟩ (Nat.le_of_ble_eq_true rfl) dX5_tendDies_21 (fun z18 M17 H locs h hP hS => ?_)
    refine lv_if_eq (tgt := 28) (pc := 24) hx hb dX5_tendDies_24 (by decide) (fun c24 => ?_) (fun c24 => ?_)
    · replace h := h.1 (bZ0 c24)
      refine lv_iconst (v := 0) (pc := 28) hx hb dX5_tendDies_28 (by decide) ?_
      refine lv_istore_n (lv' := [(2, .int 0), (1, .int r3), (0, .ref (b + i))]) (pc := 29) hx hb dX5_tendDies_29 rfl hl (by decide) rfl (fun ls hl => ?_)
      obtain ⟨f, h⟩ := h
      exact L30 f _ _ _ _ _ _ h hP hS (lv_sub hl [2, 0] rfl)
    · replace h := h.2 (bZ1 c24)
      exact m_vret (pc := 27) C hr hlk hP hS dX5_tendDies_27 h
/-! ForgeHeats$Shop.copyFrom (LForgeHeats$Shop;)V -/
def wpB_X5_copyFrom_83 (n : Nat) (P : Mem → Prop) (R_ : Mem → Nat → Nat → Int32 → Prop) (M : Mem) (x0 : Nat) (x1 : Nat) (x2 : Int32) : Prop := ((6 < x2 → m_tp n x0 5 ∧ (wp_X5_copyNumbersFrom n M x0 x1 (fun M2 => P M2))) ∧ (¬ 6 < x2 → m_tp n x0 5 ∧ (wp_X5_billetAt n M x0 x2 (fun j7 M5 => m_tp n x1 5 ∧ (wp_X5_billetAt n M5 x1 x2 (fun j10 M8 => m_tp n j7 0 ∧ (wp_X0_copyFrom n M8 j7 j10 (fun M11 => ∀ v14 : Int32, v14 = x2 + 1 → (R_ M11 x0 x1 v14)))))))))
def wpL_X5_copyFrom_83 (n : Nat) (P : Mem → Prop) : Nat → Mem → Nat → Nat → Int32 → Prop
  | 0 => fun _ _ _ _ => False
  | f + 1 => fun M x0 x1 x2 => wpB_X5_copyFrom_83 n P (wpL_X5_copyFrom_83 n P f) M x0 x1 x2
def wpB_X5_copyFrom_54 (n : Nat) (P : Mem → Prop) (R_ : Mem → Nat → Nat → Int32 → Prop) (M : Mem) (x0 : Nat) (x1 : Nat) (x2 : Int32) : Prop := m_tp n x1 5 ∧ ((((M.1 x1 5) ≤ x2 → ∃ f : Nat, wpL_X5_copyFrom_83 n P f M x0 x1 0) ∧ (¬ (M.1 x1 5) ≤ x2 → m_tp n x0 5 ∧ (wp_X5_jobAt n M x0 x2 (fun j17 M15 => wp_X5_jobAt n M15 x1 x2 (fun j19 M18 => m_tp n j17 3 ∧ (wp_X3_copyFrom n M18 j17 j19 (fun M20 => ∀ v23 : Int32, v23 = x2 + 1 → (R_ M20 x0 x1 v23)))))))))
def wpL_X5_copyFrom_54 (n : Nat) (P : Mem → Prop) : Nat → Mem → Nat → Nat → Int32 → Prop
  | 0 => fun _ _ _ _ => False
  | f + 1 => fun M x0 x1 x2 => wpB_X5_copyFrom_54 n P (wpL_X5_copyFrom_54 n P f) M x0 x1 x2
def wpB_X5_copyFrom_28 (n : Nat) (P : Mem → Prop) (R_ : Mem → Nat → Nat → Int32 → Prop) (M : Mem) (x0 : Nat) (x1 : Nat) (x2 : Int32) : Prop := ((5 ≤ x2 → ∃ f : Nat, wpL_X5_copyFrom_54 n P f M x0 x1 0) ∧ (¬ 5 ≤ x2 → m_tp n x0 5 ∧ (wp_X5_dieAt n M x0 x2 (fun j26 M24 => m_tp n x1 5 ∧ (wp_X5_dieAt n M24 x1 x2 (fun j29 M27 => m_tp n j26 1 ∧ (wp_X1_copyFrom n M27 j26 j29 (fun M30 => ∀ v33 : Int32, v33 = x2 + 1 → (R_ M30 x0 x1 v33)))))))))
def wpL_X5_copyFrom_28 (n : Nat) (P : Mem → Prop) : Nat → Mem → Nat → Nat → Int32 → Prop
  | 0 => fun _ _ _ _ => False
  | f + 1 => fun M x0 x1 x2 => wpB_X5_copyFrom_28 n P (wpL_X5_copyFrom_28 n P f) M x0 x1 x2
def wpB_X5_copyFrom_2 (n : Nat) (P : Mem → Prop) (R_ : Mem → Nat → Nat → Int32 → Prop) (M : Mem) (x0 : Nat) (x1 : Nat) (x2 : Int32) : Prop := ((4 ≤ x2 → ∃ f : Nat, wpL_X5_copyFrom_28 n P f M x0 x1 0) ∧ (¬ 4 ≤ x2 → m_tp n x0 5 ∧ (wp_X5_heatAt n M x0 x2 (fun j36 M34 => m_tp n x1 5 ∧ (wp_X5_heatAt n M34 x1 x2 (fun j39 M37 => m_tp n j36 2 ∧ (wp_X2_copyFrom n M37 j36 j39 (fun M40 => ∀ v43 : Int32, v43 = x2 + 1 → (R_ M40 x0 x1 v43)))))))))
def wpL_X5_copyFrom_2 (n : Nat) (P : Mem → Prop) : Nat → Mem → Nat → Nat → Int32 → Prop
  | 0 => fun _ _ _ _ => False
  | f + 1 => fun M x0 x1 x2 => wpB_X5_copyFrom_2 n P (wpL_X5_copyFrom_2 n P f) M x0 x1 x2
def wp_X5_copyFrom (n : Nat) (M : Mem) (i : Nat) (p1 : Nat) (P : Mem → Prop) : Prop := ∃ f : Nat, wpL_X5_copyFrom_2 n P f M i p1 0
abbrev rm_X5_copyFrom : Room := { frames := 1, cells := 0, slots := 0, locals := 22 }
set_option maxHeartbeats 4000000 in
set_option maxRecDepth 100000 in
theorem c_X5_copyFrom {l : Launch} {D : va_G} {cA : Nat → ClassId} {b n : Nat} {M : Mem} {i : Nat} {p1 : Nat} {P : Mem → Prop} (h : wp_X5_copyFrom n M i p1 P) : m_C l D cA b n n M yX5_copyFrom cX5_copyFrom 3 none rm_X5_copyFrom 0 0 [.ref (b + i), .ref (b + p1)] (rV P) := by
  refine m_enter (by decide) (Nat.le_of_ble_eq_true rfl) (fun p e s m below meth c C hr hlk hnm hK hP hS ls hl => ?_)
  have hx := C.1
  have hb := C.2.1
  have hl : lv_has ls 3 [(0, .ref (b + i)), (1, .ref (b + p1))] := hl
  have L83 : ∀ f : Nat, ∀ (M : Mem) (H : Heap) (locs : List Loc) (ls : Array Slot) (x0 : Nat) (x1 : Nat) (x2 : Int32), wpL_X5_copyFrom_83 n P f M x0 x1 x2 → m_H D cA b n M H → va_S (m_A b) s.heap H locs → lv_has ls 3 [(0, .ref (b + x0)), (1, .ref (b + x1)), (2, .int x2)] → W p l e rm_X5_copyFrom s m ([.ref (b + i), .ref (b + p1)] : List Value).toArray below meth c H locs 0 0 (MQ below (m_Q D cA b n (rV P)) ([.ref (b + i), .ref (b + p1)] : List Value).toArray s 0 0 (m_A b)) (F0 m 83 ls []) := by
    clear h
    intro f
    induction f with
    | zero => intro M H locs ls x0 x1 x2 h; exact h.elim
    | succ f ih =>
      intro M H locs ls x0 x1 x2 h hP hS hl
      have h : wpB_X5_copyFrom_83 n P (wpL_X5_copyFrom_83 n P f) M x0 x1 x2 := h
      unfold wpB_X5_copyFrom_83 at h
      refine lv_iload_n (pc := 83) hx hb dX5_copyFrom_83 rfl (lv_at hl 2 rfl) ?_
      refine lv_bipush (v := 6) (pc := 84) hx hb dX5_copyFrom_84 (by decide) ?_
      refine lv_icmp_gt (tgt := 108) (pc := 86) hx hb dX5_copyFrom_86 (by decide) (fun c86 => ?_) (fun c86 => ?_)
      · replace h := h.1 c86
        refine lv_aload_n (pc := 108) hx hb dX5_copyFrom_108 rfl (lv_at hl 0 rfl) ?_
        refine lv_aload_n (pc := 109) hx hb dX5_copyFrom_109 rfl (lv_at hl 1 rfl) ?_
        obtain ⟨hk3, h⟩ := h
        refine m_callVV (pc := 110) (y := yX5_copyNumbersFrom) (κ := 5) (As := [.ref (b + x1)]) (rest := []) C hK hP hS hl.1 ⟨Nat.zero_le _, Nat.zero_le _⟩ (c_X5_copyNumbersFrom h) rfl rfl hk3 (by decide) rfl q_379 q_381 q_s2 q_2 q_382 ⟨rfl, rfl⟩ yd_X5_copyNumbersFrom ⟨Nat.le_of_ble_eq_true rfl, Nat.le_of_ble_eq_true rfl⟩ (Nat.le_of_ble_eq_true rfl) dX5_copyFrom_110 (fun M2 H locs h hP hS => ?_)
        exact m_vret (pc := 113) C hr hlk hP hS dX5_copyFrom_113 h
      · replace h := h.2 c86
        refine lv_aload_n (pc := 89) hx hb dX5_copyFrom_89 rfl (lv_at hl 0 rfl) ?_
        refine lv_iload_n (pc := 90) hx hb dX5_copyFrom_90 rfl (lv_at hl 2 rfl) ?_
        obtain ⟨hk6, h⟩ := h
        refine m_callVR (pc := 91) (y := yX5_billetAt) (κ := 5) (As := [.int x2]) (rest := []) C hK hP hS hl.1 ⟨Nat.zero_le _, Nat.zero_le _⟩ (c_X5_billetAt h) rfl rfl hk6 (by decide) rfl q_371 q_372 q_373 q_2 q_374 ⟨rfl, rfl⟩ yd_X5_billetAt ⟨Nat.le_of_ble_eq_true rfl, Nat.le_of_ble_eq_true rfl⟩ (Nat.le_of_ble_eq_true rfl) dX5_copyFrom_91 (fun j7 M5 H locs h hP hS => ?_)
        refine lv_aload_n (pc := 94) hx hb dX5_copyFrom_94 rfl (lv_at hl 1 rfl) ?_
        refine lv_iload_n (pc := 95) hx hb dX5_copyFrom_95 rfl (lv_at hl 2 rfl) ?_
        obtain ⟨hk9, h⟩ := h
        refine m_callVR (pc := 96) (y := yX5_billetAt) (κ := 5) (As := [.int x2]) (rest := [.ref (b + j7)]) C hK hP hS hl.1 ⟨Nat.zero_le _, Nat.zero_le _⟩ (c_X5_billetAt h) rfl rfl hk9 (by decide) rfl q_371 q_372 q_373 q_2 q_374 ⟨rfl, rfl⟩ yd_X5_billetAt ⟨Nat.le_of_ble_eq_true rfl, Nat.le_of_ble_eq_true rfl⟩ (Nat.le_of_ble_eq_true rfl) dX5_copyFrom_96 (fun j10 M8 H locs h hP hS => ?_)
        obtain ⟨hk12, h⟩ := h
        refine m_callVV (pc := 99) (y := yX0_copyFrom) (κ := 0) (As := [.ref (b + j10)]) (rest := []) C hK hP hS hl.1 ⟨Nat.zero_le _, Nat.zero_le _⟩ (c_X0_copyFrom h) rfl rfl hk12 (by decide) rfl q_375 q_376 q_377 q_6 q_378 ⟨rfl, rfl⟩ yd_X0_copyFrom ⟨Nat.le_of_ble_eq_true rfl, Nat.le_of_ble_eq_true rfl⟩ (Nat.le_of_ble_eq_true rfl) dX5_copyFrom_99 (fun M11 H locs h hP hS => ?_)
        obtain ⟨v14, ev14⟩ : ∃ y : Int32, y = x2 + 1 := ⟨_, rfl⟩
        replace h := h v14 ev14
        refine lv_iinc (v := v14) (lv' := [(2, .int v14), (0, .ref (b + x0)), (1, .ref (b + x1))]) (pc := 102) hx hb dX5_copyFrom_102 hl (k := 2) rfl (by rw [ev14]; rfl) (by decide) rfl (fun ls hl => ?_)
        refine lv_goto (tgt := 83) (pc := 105) hx hb dX5_copyFrom_105 (by decide) ?_
        exact ih _ _ _ _ _ _ _ h hP hS (lv_sub hl [1, 2, 0] rfl)
  have L54 : ∀ f : Nat, ∀ (M : Mem) (H : Heap) (locs : List Loc) (ls : Array Slot) (x0 : Nat) (x1 : Nat) (x2 : Int32), wpL_X5_copyFrom_54 n P f M x0 x1 x2 → m_H D cA b n M H → va_S (m_A b) s.heap H locs → lv_has ls 3 [(0, .ref (b + x0)), (1, .ref (b + x1)), (2, .int x2)] → W p l e rm_X5_copyFrom s m ([.ref (b + i), .ref (b + p1)] : List Value).toArray below meth c H locs 0 0 (MQ below (m_Q D cA b n (rV P)) ([.ref (b + i), .ref (b + p1)] : List Value).toArray s 0 0 (m_A b)) (F0 m 54 ls []) := by
    clear h
    intro f
    induction f with
    | zero => intro M H locs ls x0 x1 x2 h; exact h.elim
    | succ f ih =>
      intro M H locs ls x0 x1 x2 h hP hS hl
      have h : wpB_X5_copyFrom_54 n P (wpL_X5_copyFrom_54 n P f) M x0 x1 x2 := h
      unfold wpB_X5_copyFrom_54 at h
      refine lv_iload_n (pc := 54) hx hb dX5_copyFrom_54 rfl (lv_at hl 2 rfl) ?_
      refine lv_aload_n (pc := 55) hx hb dX5_copyFrom_55 rfl (lv_at hl 1 rfl) ?_
      obtain ⟨hk1, h⟩ := h
      refine gX5_83 (pc := 56) C hK hP hk1 dX5_copyFrom_56 ?_
      refine lv_icmp_ge (tgt := 81) (pc := 59) hx hb dX5_copyFrom_59 (by decide) (fun c59 => ?_) (fun c59 => ?_)
      · replace h := h.1 c59
        refine lv_iconst (v := 0) (pc := 81) hx hb dX5_copyFrom_81 (by decide) ?_
        refine lv_istore_n (lv' := [(2, .int 0), (0, .ref (b + x0)), (1, .ref (b + x1))]) (pc := 82) hx hb dX5_copyFrom_82 rfl hl (by decide) rfl (fun ls hl => ?_)
        obtain ⟨f, h⟩ := h
        exact L83 f _ _ _ _ _ _ _ h hP hS (lv_sub hl [1, 2, 0] rfl)
      · replace h := h.2 c59
        refine lv_aload_n (pc := 62) hx hb dX5_copyFrom_62 rfl (lv_at hl 0 rfl) ?_
        refine lv_iload_n (pc := 63) hx hb dX5_copyFrom_63 rfl (lv_at hl 2 rfl) ?_
        obtain ⟨hk16, h⟩ := h
        refine m_callVR (pc := 64) (y := yX5_jobAt) (κ := 5) (As := [.int x2]) (rest := []) C hK hP hS hl.1 ⟨Nat.zero_le _, Nat.zero_le _⟩ (c_X5_jobAt h) rfl rfl hk16 (by decide) rfl q_363 q_364 q_365 q_2 q_366 ⟨rfl, rfl⟩ yd_X5_jobAt ⟨Nat.le_of_ble_eq_true rfl, Nat.le_of_ble_eq_true rfl⟩ (Nat.le_of_ble_eq_true rfl) dX5_copyFrom_64 (fun j17 M15 H locs h hP hS => ?_)
        refine lv_aload_n (pc := 67) hx hb dX5_copyFrom_67 rfl (lv_at hl 1 rfl) ?_
        refine lv_iload_n (pc := 68) hx hb dX5_copyFrom_68 rfl (lv_at hl 2 rfl) ?_
        refine m_callVR (pc := 69) (y := yX5_jobAt) (κ := 5) (As := [.int x2]) (rest := [.ref (b + j17)]) C hK hP hS hl.1 ⟨Nat.zero_le _, Nat.zero_le _⟩ (c_X5_jobAt h) rfl rfl hk1 (by decide) rfl q_363 q_364 q_365 q_2 q_366 ⟨rfl, rfl⟩ yd_X5_jobAt ⟨Nat.le_of_ble_eq_true rfl, Nat.le_of_ble_eq_true rfl⟩ (Nat.le_of_ble_eq_true rfl) dX5_copyFrom_69 (fun j19 M18 H locs h hP hS => ?_)
        obtain ⟨hk21, h⟩ := h
        refine m_callVV (pc := 72) (y := yX3_copyFrom) (κ := 3) (As := [.ref (b + j19)]) (rest := []) C hK hP hS hl.1 ⟨Nat.zero_le _, Nat.zero_le _⟩ (c_X3_copyFrom h) rfl rfl hk21 (by decide) rfl q_367 q_368 q_369 q_5 q_370 ⟨rfl, rfl⟩ yd_X3_copyFrom ⟨Nat.le_of_ble_eq_true rfl, Nat.le_of_ble_eq_true rfl⟩ (Nat.le_of_ble_eq_true rfl) dX5_copyFrom_72 (fun M20 H locs h hP hS => ?_)
        obtain ⟨v23, ev23⟩ : ∃ y : Int32, y = x2 + 1 := ⟨_, rfl⟩
        replace h := h v23 ev23
        refine lv_iinc (v := v23) (lv' := [(2, .int v23), (0, .ref (b + x0)), (1, .ref (b + x1))]) (pc := 75) hx hb dX5_copyFrom_75 hl (k := 2) rfl (by rw [ev23]; rfl) (by decide) rfl (fun ls hl => ?_)
        refine lv_goto (tgt := 54) (pc := 78) hx hb dX5_copyFrom_78 (by decide) ?_
        exact ih _ _ _ _ _ _ _ h hP hS (lv_sub hl [1, 2, 0] rfl)
  have L28 : ∀ f : Nat, ∀ (M : Mem) (H : Heap) (locs : List Loc) (ls : Array Slot) (x0 : Nat) (x1 : Nat) (x2 : Int32), wpL_X5_copyFrom_28 n P f M x0 x1 x2 → m_H D cA b n M H → va_S (m_A b) s.heap H locs → lv_has ls 3 [(0, .ref (b + x0)), (1, .ref (b + x1)), (2, .int x2)] → W p l e rm_X5_copyFrom s m ([.ref (b + i), .ref (b + p1)] : List Value).toArray below meth c H locs 0 0 (MQ below (m_Q D cA b n (rV P)) ([.ref (b + i), .ref (b + p1)] : List Value).toArray s 0 0 (m_A b)) (F0 m 28 ls []) := by
    clear h
    intro f
    induction f with
    | zero => intro M H locs ls x0 x1 x2 h; exact h.elim
    | succ f ih =>
      intro M H locs ls x0 x1 x2 h hP hS hl
      have h : wpB_X5_copyFrom_28 n P (wpL_X5_copyFrom_28 n P f) M x0 x1 x2 := h
      unfold wpB_X5_copyFrom_28 at h
      refine lv_iload_n (pc := 28) hx hb dX5_copyFrom_28 rfl (lv_at hl 2 rfl) ?_
      refine lv_iconst (v := 5) (pc := 29) hx hb dX5_copyFrom_29 (by decide) ?_
      refine lv_icmp_ge (tgt := 52) (pc := 30) hx hb dX5_copyFrom_30 (by decide) (fun c30 => ?_) (fun c30 => ?_)
      · replace h := h.1 c30
        refine lv_iconst (v := 0) (pc := 52) hx hb dX5_copyFrom_52 (by decide) ?_
        refine lv_istore_n (lv' := [(2, .int 0), (0, .ref (b + x0)), (1, .ref (b + x1))]) (pc := 53) hx hb dX5_copyFrom_53 rfl hl (by decide) rfl (fun ls hl => ?_)
        obtain ⟨f, h⟩ := h
        exact L54 f _ _ _ _ _ _ _ h hP hS (lv_sub hl [1, 2, 0] rfl)
      · replace h := h.2 c30
        refine lv_aload_n (pc := 33) hx hb dX5_copyFrom_33 rfl (lv_at hl 0 rfl) ?_
        refine lv_iload_n (pc := 34) hx hb dX5_copyFrom_34 rfl (lv_at hl 2 rfl) ?_
        obtain ⟨hk25, h⟩ := h
        refine m_callVR (pc := 35) (y := yX5_dieAt) (κ := 5) (As := [.int x2]) (rest := []) C hK hP hS hl.1 ⟨Nat.zero_le _, Nat.zero_le _⟩ (c_X5_dieAt h) rfl rfl hk25 (by decide) rfl q_355 q_356 q_357 q_2 q_358 ⟨rfl, rfl⟩ yd_X5_dieAt ⟨Nat.le_of_ble_eq_true rfl, Nat.le_of_ble_eq_true rfl⟩ (Nat.le_of_ble_eq_true rfl) dX5_copyFrom_35 (fun j26 M24 H locs h hP hS => ?_)
        refine lv_aload_n (pc := 38) hx hb dX5_copyFrom_38 rfl (lv_at hl 1 rfl) ?_
        refine lv_iload_n (pc := 39) hx hb dX5_copyFrom_39 rfl (lv_at hl 2 rfl) ?_
        obtain ⟨hk28, h⟩ := h
        refine m_callVR (pc := 40) (y := yX5_dieAt) (κ := 5) (As := [.int x2]) (rest := [.ref (b + j26)]) C hK hP hS hl.1 ⟨Nat.zero_le _, Nat.zero_le _⟩ (c_X5_dieAt h) rfl rfl hk28 (by decide) rfl q_355 q_356 q_357 q_2 q_358 ⟨rfl, rfl⟩ yd_X5_dieAt ⟨Nat.le_of_ble_eq_true rfl, Nat.le_of_ble_eq_true rfl⟩ (Nat.le_of_ble_eq_true rfl) dX5_copyFrom_40 (fun j29 M27 H locs h hP hS => ?_)
        obtain ⟨hk31, h⟩ := h
        refine m_callVV (pc := 43) (y := yX1_copyFrom) (κ := 1) (As := [.ref (b + j29)]) (rest := []) C hK hP hS hl.1 ⟨Nat.zero_le _, Nat.zero_le _⟩ (c_X1_copyFrom h) rfl rfl hk31 (by decide) rfl q_359 q_360 q_361 q_4 q_362 ⟨rfl, rfl⟩ yd_X1_copyFrom ⟨Nat.le_of_ble_eq_true rfl, Nat.le_of_ble_eq_true rfl⟩ (Nat.le_of_ble_eq_true rfl) dX5_copyFrom_43 (fun M30 H locs h hP hS => ?_)
        obtain ⟨v33, ev33⟩ : ∃ y : Int32, y = x2 + 1 := ⟨_, rfl⟩
        replace h := h v33 ev33
        refine lv_iinc (v := v33) (lv' := [(2, .int v33), (0, .ref (b + x0)), (1, .ref (b + x1))]) (pc := 46) hx hb dX5_copyFrom_46 hl (k := 2) rfl (by rw [ev33]; rfl) (by decide) rfl (fun ls hl => ?_)
        refine lv_goto (tgt := 28) (pc := 49) hx hb dX5_copyFrom_49 (by decide) ?_
        exact ih _ _ _ _ _ _ _ h hP hS (lv_sub hl [1, 2, 0] rfl)
  have L2 : ∀ f : Nat, ∀ (M : Mem) (H : Heap) (locs : List Loc) (ls : Array Slot) (x0 : Nat) (x1 : Nat) (x2 : Int32), wpL_X5_copyFrom_2 n P f M x0 x1 x2 → m_H D cA b n M H → va_S (m_A b) s.heap H locs → lv_has ls 3 [(0, .ref (b + x0)), (1, .ref (b + x1)), (2, .int x2)] → W p l e rm_X5_copyFrom s m ([.ref (b + i), .ref (b + p1)] : List Value).toArray below meth c H locs 0 0 (MQ below (m_Q D cA b n (rV P)) ([.ref (b + i), .ref (b + p1)] : List Value).toArray s 0 0 (m_A b)) (F0 m 2 ls []) := by
    clear h
    intro f
    induction f with
    | zero => intro M H locs ls x0 x1 x2 h; exact h.elim
    | succ f ih =>
      intro M H locs ls x0 x1 x2 h hP hS hl
      have h : wpB_X5_copyFrom_2 n P (wpL_X5_copyFrom_2 n P f) M x0 x1 x2 := h
      unfold wpB_X5_copyFrom_2 at h
      refine lv_iload_n (pc := 2) hx hb dX5_copyFrom_2 rfl (lv_at hl 2 rfl) ?_
      refine lv_iconst (v := 4) (pc := 3) hx hb dX5_copyFrom_3 (by decide) ?_
      refine lv_icmp_ge (tgt := 26) (pc := 4) hx hb dX5_copyFrom_4 (by decide) (fun c4 => ?_) (fun c4 => ?_)
      · replace h := h.1 c4
        refine lv_iconst (v := 0) (pc := 26) hx hb dX5_copyFrom_26 (by decide) ?_
        refine lv_istore_n (lv' := [(2, .int 0), (0, .ref (b + x0)), (1, .ref (b + x1))]) (pc := 27) hx hb dX5_copyFrom_27 rfl hl (by decide) rfl (fun ls hl => ?_)
        obtain ⟨f, h⟩ := h
        exact L28 f _ _ _ _ _ _ _ h hP hS (lv_sub hl [1, 2, 0] rfl)
      · replace h := h.2 c4
        refine lv_aload_n (pc := 7) hx hb dX5_copyFrom_7 rfl (lv_at hl 0 rfl) ?_
        refine lv_iload_n (pc := 8) hx hb dX5_copyFrom_8 rfl (lv_at hl 2 rfl) ?_
        obtain ⟨hk35, h⟩ := h
        refine m_callVR (pc := 9) (y := yX5_heatAt) (κ := 5) (As := [.int x2]) (rest := []) C hK hP hS hl.1 ⟨Nat.zero_le _, Nat.zero_le _⟩ (c_X5_heatAt h) rfl rfl hk35 (by decide) rfl q_347 q_348 q_349 q_2 q_350 ⟨rfl, rfl⟩ yd_X5_heatAt ⟨Nat.le_of_ble_eq_true rfl, Nat.le_of_ble_eq_true rfl⟩ (Nat.le_of_ble_eq_true rfl) dX5_copyFrom_9 (fun j36 M34 H locs h hP hS => ?_)
        refine lv_aload_n (pc := 12) hx hb dX5_copyFrom_12 rfl (lv_at hl 1 rfl) ?_
        refine lv_iload_n (pc := 13) hx hb dX5_copyFrom_13 rfl (lv_at hl 2 rfl) ?_
        obtain ⟨hk38, h⟩ := h
        refine m_callVR (pc := 14) (y := yX5_heatAt) (κ := 5) (As := [.int x2]) (rest := [.ref (b + j36)]) C hK hP hS hl.1 ⟨Nat.zero_le _, Nat.zero_le _⟩ (c_X5_heatAt h) rfl rfl hk38 (by decide) rfl q_347 q_348 q_349 q_2 q_350 ⟨rfl, rfl⟩ yd_X5_heatAt ⟨Nat.le_of_ble_eq_true rfl, Nat.le_of_ble_eq_true rfl⟩ (Nat.le_of_ble_eq_true rfl) dX5_copyFrom_14 (fun j39 M37 H locs h hP hS => ?_)
        obtain ⟨hk41, h⟩ := h
        refine m_callVV (pc := 17) (y := yX2_copyFrom) (κ := 2) (As := [.ref (b + j39)]) (rest := []) C hK hP hS hl.1 ⟨Nat.zero_le _, Nat.zero_le _⟩ (c_X2_copyFrom h) rfl rfl hk41 (by decide) rfl q_351 q_352 q_353 q_3 q_354 ⟨rfl, rfl⟩ yd_X2_copyFrom ⟨Nat.le_of_ble_eq_true rfl, Nat.le_of_ble_eq_true rfl⟩ (Nat.le_of_ble_eq_true rfl) dX5_copyFrom_17 (fun M40 H locs h hP hS => ?_)
        obtain ⟨v43, ev43⟩ : ∃ y : Int32, y = x2 + 1 := ⟨_, rfl⟩
        replace h := h v43 ev43
        refine lv_iinc (v := v43) (lv' := [(2, .int v43), (0, .ref (b + x0)), (1, .ref (b + x1))]) (pc := 20) hx hb dX5_copyFrom_20 hl (k := 2) rfl (by rw [ev43]; rfl) (by decide) rfl (fun ls hl => ?_)
        refine lv_goto (tgt := 2) (pc := 23) hx hb dX5_copyFrom_23 (by decide) ?_
        exact ih _ _ _ _ _ _ _ h hP hS (lv_sub hl [1, 2, 0] rfl)
  unfold wp_X5_copyFrom at h
  refine lv_iconst (v := 0) (pc := 0) hx hb dX5_copyFrom_0 (by decide) ?_
  refine lv_istore_n (lv' := [(2, .int 0), (0, .ref (b + i)), (1, .ref (b + p1))]) (pc := 1) hx hb dX5_copyFrom_1 rfl hl (by decide) rfl (fun ls hl => ?_)
  obtain ⟨f, h⟩ := h
  exact L2 f _ _ _ _ _ _ _ h hP hS (lv_sub hl [1, 2, 0] rfl)
/-! ForgeHeats$Shop.settle (I)I -/
def wpB_X5_settle_38 (n : Nat) (P : Int32 → Mem → Prop) (R_ : Mem → Nat → Int32 → Prop) (M : Mem) (x0 : Nat) (x2 : Int32) : Prop := m_tp n x0 5 ∧ (((((M.1 x0 5) - 1) ≤ x2 → P x2 M) ∧ (¬ ((M.1 x0 5) - 1) ≤ x2 → wp_X5_jobAt n M x0 (x2 + 1) (fun j3 M2 => wp_X5_jobAt n M2 x0 x2 (fun j5 M4 => m_tp n j3 3 ∧ (wp_X3_comesBefore n M4 j3 j5 (fun z8 M6 => ((z8 = false → P x2 M6) ∧ (z8 = true → wp_X5_swapJobs n M6 x0 x2 (x2 + 1) (fun M9 => ∀ v11 : Int32, v11 = x2 + 1 → (R_ M9 x0 v11)))))))))))
def wpL_X5_settle_38 (n : Nat) (P : Int32 → Mem → Prop) : Nat → Mem → Nat → Int32 → Prop
  | 0 => fun _ _ _ => False
  | f + 1 => fun M x0 x2 => wpB_X5_settle_38 n P (wpL_X5_settle_38 n P f) M x0 x2
def wpB_X5_settle_2 (n : Nat) (P : Int32 → Mem → Prop) (R_ : Mem → Nat → Int32 → Prop) (M : Mem) (x0 : Nat) (x2 : Int32) : Prop := ((x2 ≤ 0 → ∃ f : Nat, wpL_X5_settle_38 n P f M x0 x2) ∧ (¬ x2 ≤ 0 → m_tp n x0 5 ∧ (wp_X5_jobAt n M x0 x2 (fun j14 M12 => wp_X5_jobAt n M12 x0 (x2 - 1) (fun j16 M15 => m_tp n j14 3 ∧ (wp_X3_comesBefore n M15 j14 j16 (fun z19 M17 => ((z19 = false → ∃ f : Nat, wpL_X5_settle_38 n P f M17 x0 x2) ∧ (z19 = true → wp_X5_swapJobs n M17 x0 x2 (x2 - 1) (fun M20 => ∀ v22 : Int32, v22 = x2 + (-1) → (R_ M20 x0 v22)))))))))))
def wpL_X5_settle_2 (n : Nat) (P : Int32 → Mem → Prop) : Nat → Mem → Nat → Int32 → Prop
  | 0 => fun _ _ _ => False
  | f + 1 => fun M x0 x2 => wpB_X5_settle_2 n P (wpL_X5_settle_2 n P f) M x0 x2
def wp_X5_settle (n : Nat) (M : Mem) (i : Nat) (p1 : Int32) (P : Int32 → Mem → Prop) : Prop := ∃ f : Nat, wpL_X5_settle_2 n P f M i p1
abbrev rm_X5_settle : Room := { frames := 1, cells := 0, slots := 0, locals := 23 }
set_option maxHeartbeats 4000000 in
set_option maxRecDepth 100000 in
theorem c_X5_settle {l : Launch} {D : va_G} {cA : Nat → ClassId} {b n : Nat} {M : Mem} {i : Nat} {p1 : Int32} {P : Int32 → Mem → Prop} (h : wp_X5_settle n M i p1 P) : m_C l D cA b n n M yX5_settle cX5_settle 3 (some .int) rm_X5_settle 0 0 [.ref (b + i), .int p1] (rI P) := by
  refine m_enter (by decide) (Nat.le_of_ble_eq_true rfl) (fun p e s m below meth c C hr hlk hnm hK hP hS ls hl => ?_)
  have hx := C.1
  have hb := C.2.1
  have hl : lv_has ls 3 [(0, .ref (b + i)), (1, .int p1)] := hl
  have L38 : ∀ f : Nat, ∀ (M : Mem) (H : Heap) (locs : List Loc) (ls : Array Slot) (x0 : Nat) (x2 : Int32), wpL_X5_settle_38 n P f M x0 x2 → m_H D cA b n M H → va_S (m_A b) s.heap H locs → lv_has ls 3 [(0, .ref (b + x0)), (2, .int x2)] → W p l e rm_X5_settle s m ([.ref (b + i), .int p1] : List Value).toArray below meth c H locs 0 0 (MQ below (m_Q D cA b n (rI P)) ([.ref (b + i), .int p1] : List Value).toArray s 0 0 (m_A b)) (F0 m 38 ls []) := by
    clear h
    intro f
    induction f with
    | zero => intro M H locs ls x0 x2 h; exact h.elim
    | succ f ih =>
      intro M H locs ls x0 x2 h hP hS hl
      have h : wpB_X5_settle_38 n P (wpL_X5_settle_38 n P f) M x0 x2 := h
      unfold wpB_X5_settle_38 at h
      refine lv_iload_n (pc := 38) hx hb dX5_settle_38 rfl (lv_at hl 1 rfl) ?_
      refine lv_aload_n (pc := 39) hx hb dX5_settle_39 rfl (lv_at hl 0 rfl) ?_
      obtain ⟨hk1, h⟩ := h
      refine gX5_83 (pc := 40) C hK hP hk1 dX5_settle_40 ?_
      refine lv_iconst (v := 1) (pc := 43) hx hb dX5_settle_43 (by decide) ?_
      refine lv_isub (pc := 44) hx hb dX5_settle_44 ?_
      refine lv_icmp_ge (tgt := 80) (pc := 45) hx hb dX5_settle_45 (by decide) (fun c45 => ?_) (fun c45 => ?_)
      · replace h := h.1 c45
        refine lv_iload_n (pc := 80) hx hb dX5_settle_80 rfl (lv_at hl 1 rfl) ?_
        exact m_iret (v := x2) (pc := 81) C hr hlk hP hS dX5_settle_81 h
      · replace h := h.2 c45
        refine lv_aload_n (pc := 48) hx hb dX5_settle_48 rfl (lv_at hl 0 rfl) ?_
        refine lv_iload_n (pc := 49) hx hb dX5_settle_49 rfl (lv_at hl 1 rfl) ?_
        refine lv_iconst (v := 1) (pc := 50) hx hb dX5_settle_50 (by decide) ?_
        refine lv_iadd (pc := 51) hx hb dX5_settle_51 ?_
        refine m_callVR (pc := 52) (y := yX5_jobAt) (κ := 5) (As := [.int (x2 + 1)]) (rest := []) C hK hP hS hl.1 ⟨Nat.zero_le _, Nat.zero_le _⟩ (c_X5_jobAt h) rfl rfl hk1 (by decide) rfl q_363 q_364 q_365 q_2 q_366 ⟨rfl, rfl⟩ yd_X5_jobAt ⟨Nat.le_of_ble_eq_true rfl, Nat.le_of_ble_eq_true rfl⟩ (Nat.le_of_ble_eq_true rfl) dX5_settle_52 (fun j3 M2 H locs h hP hS => ?_)
        refine lv_aload_n (pc := 55) hx hb dX5_settle_55 rfl (lv_at hl 0 rfl) ?_
        refine lv_iload_n (pc := 56) hx hb dX5_settle_56 rfl (lv_at hl 1 rfl) ?_
        refine m_callVR (pc := 57) (y := yX5_jobAt) (κ := 5) (As := [.int x2]) (rest := [.ref (b + j3)]) C hK hP hS hl.1 ⟨Nat.zero_le _, Nat.zero_le _⟩ (c_X5_jobAt h) rfl rfl hk1 (by decide) rfl q_363 q_364 q_365 q_2 q_366 ⟨rfl, rfl⟩ yd_X5_jobAt ⟨Nat.le_of_ble_eq_true rfl, Nat.le_of_ble_eq_true rfl⟩ (Nat.le_of_ble_eq_true rfl) dX5_settle_57 (fun j5 M4 H locs h hP hS => ?_)
        obtain ⟨hk7, h⟩ := h
        refine m_callVZ (pc := 60) (y := yX3_comesBefore) (κ := 3) (As := [.ref (b + j5)]) (rest := []) C hK hP hS hl.1 ⟨Nat.zero_le _, Nat.zero_le _⟩ (c_X3_comesBefore h) rfl rfl hk7 (by decide) rfl q_616 q_617 q_618 q_5 q_619 ⟨rfl, rfl⟩ yd_X3_comesBefore ⟨Nat.le_of_ble_eq_true rfl, Nat.le_of_ble_eq_true rfl⟩ (Nat.le_of_ble_eq_true rfl) dX5_settle_60 (fun z8 M6 H locs h hP hS => ?_)
        refine lv_if_eq (tgt := 80) (pc := 63) hx hb dX5_settle_63 (by decide) (fun c63 => ?_) (fun c63 => ?_)
        · replace h := h.1 (bZ0 c63)
          refine lv_iload_n (pc := 80) hx hb dX5_settle_80 rfl (lv_at hl 1 rfl) ?_
          exact m_iret (v := x2) (pc := 81) C hr hlk hP hS dX5_settle_81 h
        · replace h := h.2 (bZ1 c63)
          refine lv_aload_n (pc := 66) hx hb dX5_settle_66 rfl (lv_at hl 0 rfl) ?_
          refine lv_iload_n (pc := 67) hx hb dX5_settle_67 rfl (lv_at hl 1 rfl) ?_
          refine lv_iload_n (pc := 68) hx hb dX5_settle_68 rfl (lv_at hl 1 rfl) ?_
          refine lv_iconst (v := 1) (pc := 69) hx hb dX5_settle_69 (by decide) ?_
          refine lv_iadd (pc := 70) hx hb dX5_settle_70 ?_
          refine m_callVV (pc := 71) (y := yX5_swapJobs) (κ := 5) (As := [.int x2, .int (x2 + 1)]) (rest := []) C hK hP hS hl.1 ⟨Nat.zero_le _, Nat.zero_le _⟩ (c_X5_swapJobs h) rfl rfl hk1 (by decide) rfl q_600 q_602 q_s11 q_2 q_603 ⟨rfl, rfl⟩ yd_X5_swapJobs ⟨Nat.le_of_ble_eq_true rfl, Nat.le_of_ble_eq_true rfl⟩ (Nat.le_of_ble_eq_true rfl) dX5_settle_71 (fun M9 H locs h hP hS => ?_)
          obtain ⟨v11, ev11⟩ : ∃ y : Int32, y = x2 + 1 := ⟨_, rfl⟩
          replace h := h v11 ev11
          refine lv_iinc (v := v11) (lv' := [(2, .int v11), (0, .ref (b + x0))]) (pc := 74) hx hb dX5_settle_74 hl (k := 1) rfl (by rw [ev11]; rfl) (by decide) rfl (fun ls hl => ?_)
          refine lv_goto (tgt := 38) (pc := 77) hx hb dX5_settle_77 (by decide) ?_
          exact ih _ _ _ _ _ _ h hP hS (lv_sub hl [1, 0] rfl)
  have L2 : ∀ f : Nat, ∀ (M : Mem) (H : Heap) (locs : List Loc) (ls : Array Slot) (x0 : Nat) (x2 : Int32), wpL_X5_settle_2 n P f M x0 x2 → m_H D cA b n M H → va_S (m_A b) s.heap H locs → lv_has ls 3 [(0, .ref (b + x0)), (2, .int x2)] → W p l e rm_X5_settle s m ([.ref (b + i), .int p1] : List Value).toArray below meth c H locs 0 0 (MQ below (m_Q D cA b n (rI P)) ([.ref (b + i), .int p1] : List Value).toArray s 0 0 (m_A b)) (F0 m 2 ls []) := by
    clear h
    intro f
    induction f with
    | zero => intro M H locs ls x0 x2 h; exact h.elim
    | succ f ih =>
      intro M H locs ls x0 x2 h hP hS hl
      have h : wpB_X5_settle_2 n P (wpL_X5_settle_2 n P f) M x0 x2 := h
      unfold wpB_X5_settle_2 at h
      refine lv_iload_n (pc := 2) hx hb dX5_settle_2 rfl (lv_at hl 1 rfl) ?_
      refine lv_if_le (tgt := 38) (pc := 3) hx hb dX5_settle_3 (by decide) (fun c3 => ?_) (fun c3 => ?_)
      · replace h := h.1 c3
        obtain ⟨f, h⟩ := h
        exact L38 f _ _ _ _ _ _ h hP hS (lv_sub hl [0, 1] rfl)
      · replace h := h.2 c3
        refine lv_aload_n (pc := 6) hx hb dX5_settle_6 rfl (lv_at hl 0 rfl) ?_
        refine lv_iload_n (pc := 7) hx hb dX5_settle_7 rfl (lv_at hl 1 rfl) ?_
        obtain ⟨hk13, h⟩ := h
        refine m_callVR (pc := 8) (y := yX5_jobAt) (κ := 5) (As := [.int x2]) (rest := []) C hK hP hS hl.1 ⟨Nat.zero_le _, Nat.zero_le _⟩ (c_X5_jobAt h) rfl rfl hk13 (by decide) rfl q_363 q_364 q_365 q_2 q_366 ⟨rfl, rfl⟩ yd_X5_jobAt ⟨Nat.le_of_ble_eq_true rfl, Nat.le_of_ble_eq_true rfl⟩ (Nat.le_of_ble_eq_true rfl) dX5_settle_8 (fun j14 M12 H locs h hP hS => ?_)
        refine lv_aload_n (pc := 11) hx hb dX5_settle_11 rfl (lv_at hl 0 rfl) ?_
        refine lv_iload_n (pc := 12) hx hb dX5_settle_12 rfl (lv_at hl 1 rfl) ?_
        refine lv_iconst (v := 1) (pc := 13) hx hb dX5_settle_13 (by decide) ?_
        refine lv_isub (pc := 14) hx hb dX5_settle_14 ?_
        refine m_callVR (pc := 15) (y := yX5_jobAt) (κ := 5) (As := [.int (x2 - 1)]) (rest := [.ref (b + j14)]) C hK hP hS hl.1 ⟨Nat.zero_le _, Nat.zero_le _⟩ (c_X5_jobAt h) rfl rfl hk13 (by decide) rfl q_363 q_364 q_365 q_2 q_366 ⟨rfl, rfl⟩ yd_X5_jobAt ⟨Nat.le_of_ble_eq_true rfl, Nat.le_of_ble_eq_true rfl⟩ (Nat.le_of_ble_eq_true rfl) dX5_settle_15 (fun j16 M15 H locs h hP hS => ?_)
        obtain ⟨hk18, h⟩ := h
        refine m_callVZ (pc := 18) (y := yX3_comesBefore) (κ := 3) (As := [.ref (b + j16)]) (rest := []) C hK hP hS hl.1 ⟨Nat.zero_le _, Nat.zero_le _⟩ (c_X3_comesBefore h) rfl rfl hk18 (by decide) rfl q_616 q_617 q_618 q_5 q_619 ⟨rfl, rfl⟩ yd_X3_comesBefore ⟨Nat.le_of_ble_eq_true rfl, Nat.le_of_ble_eq_true rfl⟩ (Nat.le_of_ble_eq_true rfl) dX5_settle_18 (fun z19 M17 H locs h hP hS => ?_)
        refine lv_if_eq (tgt := 38) (pc := 21) hx hb dX5_settle_21 (by decide) (fun c21 => ?_) (fun c21 => ?_)
        · replace h := h.1 (bZ0 c21)
          obtain ⟨f, h⟩ := h
          exact L38 f _ _ _ _ _ _ h hP hS (lv_sub hl [0, 1] rfl)
        · replace h := h.2 (bZ1 c21)
          refine lv_aload_n (pc := 24) hx hb dX5_settle_24 rfl (lv_at hl 0 rfl) ?_
          refine lv_iload_n (pc := 25) hx hb dX5_settle_25 rfl (lv_at hl 1 rfl) ?_
          refine lv_iload_n (pc := 26) hx hb dX5_settle_26 rfl (lv_at hl 1 rfl) ?_
          refine lv_iconst (v := 1) (pc := 27) hx hb dX5_settle_27 (by decide) ?_
          refine lv_isub (pc := 28) hx hb dX5_settle_28 ?_
          refine m_callVV (pc := 29) (y := yX5_swapJobs) (κ := 5) (As := [.int x2, .int (x2 - 1)]) (rest := []) C hK hP hS hl.1 ⟨Nat.zero_le _, Nat.zero_le _⟩ (c_X5_swapJobs h) rfl rfl hk13 (by decide) rfl q_600 q_602 q_s11 q_2 q_603 ⟨rfl, rfl⟩ yd_X5_swapJobs ⟨Nat.le_of_ble_eq_true rfl, Nat.le_of_ble_eq_true rfl⟩ (Nat.le_of_ble_eq_true rfl) dX5_settle_29 (fun M20 H locs h hP hS => ?_)
          obtain ⟨v22, ev22⟩ : ∃ y : Int32, y = x2 + (-1) := ⟨_, rfl⟩
          replace h := h v22 ev22
          refine lv_iinc (v := v22) (lv' := [(2, .int v22), (0, .ref (b + x0))]) (pc := 32) hx hb dX5_settle_32 hl (k := 1) rfl (by rw [ev22]; rfl) (by decide) rfl (fun ls hl => ?_)
          refine lv_goto (tgt := 2) (pc := 35) hx hb dX5_settle_35 (by decide) ?_
          exact ih _ _ _ _ _ _ h hP hS (lv_sub hl [1, 0] rfl)
  unfold wp_X5_settle at h
  refine lv_iload_n (pc := 0) hx hb dX5_settle_0 rfl (lv_at hl 1 rfl) ?_
  refine lv_istore_n (lv' := [(2, .int p1), (0, .ref (b + i)), (1, .int p1)]) (pc := 1) hx hb dX5_settle_1 rfl hl (by decide) rfl (fun ls hl => ?_)
  obtain ⟨f, h⟩ := h
  exact L2 f _ _ _ _ _ _ h hP hS (lv_sub hl [1, 0] rfl)
/-! ForgeHeats$Shop.heatProperty (II)I -/
def wp_X5_heatProperty (n : Nat) (M : Mem) (i : Nat) (p1 : Int32) (p2 : Int32) (P : Int32 → Mem → Prop) : Prop := m_tp n i 5 ∧ (wp_X5_heatAt n M i p1 (fun j3 M1 => ((p2 = 0 → m_tp n j3 2 ∧ (P (M1.1 j3 0) M1)) ∧ (¬ p2 = 0 → ((p2 = 1 → m_tp n j3 2 ∧ (P (M1.1 j3 1) M1)) ∧ (¬ p2 = 1 → ((p2 = 2 → m_tp n j3 2 ∧ (P (M1.1 j3 2) M1)) ∧ (¬ p2 = 2 → ((p2 = 3 → wp_X5_countBilletsOf n M1 i p1 (fun r8 M7 => P r8 M7)) ∧ (¬ p2 = 3 → ((p2 = 4 → m_tp n j3 2 ∧ (P (M1.1 j3 3) M1)) ∧ (¬ p2 = 4 → ((p2 = 5 → m_tp n j3 2 ∧ (P (M1.1 j3 4) M1)) ∧ (¬ p2 = 5 → wp_X5_countLackOf n M1 i p1 (fun r12 M11 => P r12 M11)))))))))))))))
abbrev rm_X5_heatProperty : Room := { frames := 2, cells := 0, slots := 0, locals := 46 }
set_option maxHeartbeats 4000000 in
set_option maxRecDepth 100000 in
theorem c_X5_heatProperty {l : Launch} {D : va_G} {cA : Nat → ClassId} {b n : Nat} {M : Mem} {i : Nat} {p1 : Int32} {p2 : Int32} {P : Int32 → Mem → Prop} (h : wp_X5_heatProperty n M i p1 p2 P) : m_C l D cA b n n M yX5_heatProperty cX5_heatProperty 4 (some .int) rm_X5_heatProperty 0 0 [.ref (b + i), .int p1, .int p2] (rI P) := by
  refine m_enter (by decide) (Nat.le_of_ble_eq_true rfl) (fun p e s m below meth c C hr hlk hnm hK hP hS ls hl => ?_)
  have hx := C.1
  have hb := C.2.1
  have hl : lv_has ls 4 [(0, .ref (b + i)), (1, .int p1), (2, .int p2)] := hl
  unfold wp_X5_heatProperty at h
  refine lv_aload_n (pc := 0) hx hb dX5_heatProperty_0 rfl (lv_at hl 0 rfl) ?_
  refine lv_iload_n (pc := 1) hx hb dX5_heatProperty_1 rfl (lv_at hl 1 rfl) ?_
  obtain ⟨hk2, h⟩ := h
  refine m_callVR (pc := 2) (y := yX5_heatAt) (κ := 5) (As := [.int p1]) (rest := []) C hK hP hS hl.1 ⟨Nat.zero_le _, Nat.zero_le _⟩ (c_X5_heatAt h) rfl rfl hk2 (by decide) rfl q_347 q_348 q_349 q_2 q_350 ⟨rfl, rfl⟩ yd_X5_heatAt ⟨Nat.le_of_ble_eq_true rfl, Nat.le_of_ble_eq_true rfl⟩ (Nat.le_of_ble_eq_true rfl) dX5_heatProperty_2 (fun j3 M1 H locs h hP hS => ?_)
  refine lv_astore_n (lv' := [(3, .ref (b + j3)), (0, .ref (b + i)), (1, .int p1), (2, .int p2)]) (pc := 5) hx hb dX5_heatProperty_5 rfl hl (by decide) rfl (fun ls hl => ?_)
  refine lv_iload_n (pc := 6) hx hb dX5_heatProperty_6 rfl (lv_at hl 3 rfl) ?_
  by_cases n7_0 : p2 = 0
  · replace h := h.1 n7_0
    refine m_case (v := 0) (off := 37) (tgt := 44) (pc := 7) hx hb n7_0 dX5_heatProperty_7 (by decide) (by decide) (by decide) (by decide) ?_
    refine lv_aload_n (pc := 44) hx hb dX5_heatProperty_44 rfl (lv_at hl 0 rfl) ?_
    obtain ⟨hk4, h⟩ := h
    refine gX5_170 (pc := 45) C hK hP hk4 dX5_heatProperty_45 ?_
    exact m_iret (v := M1.1 j3 0) (pc := 48) C hr hlk hP hS dX5_heatProperty_48 h
  · replace h := h.2 n7_0
    by_cases n7_1 : p2 = 1
    · replace h := h.1 n7_1
      refine m_case (v := 1) (off := 42) (tgt := 49) (pc := 7) hx hb n7_1 dX5_heatProperty_7 (by decide) (by decide) (by decide) (by decide) ?_
      refine lv_aload_n (pc := 49) hx hb dX5_heatProperty_49 rfl (lv_at hl 0 rfl) ?_
      obtain ⟨hk5, h⟩ := h
      refine gX5_173 (pc := 50) C hK hP hk5 dX5_heatProperty_50 ?_
      exact m_iret (v := M1.1 j3 1) (pc := 53) C hr hlk hP hS dX5_heatProperty_53 h
    · replace h := h.2 n7_1
      by_cases n7_2 : p2 = 2
      · replace h := h.1 n7_2
        refine m_case (v := 2) (off := 47) (tgt := 54) (pc := 7) hx hb n7_2 dX5_heatProperty_7 (by decide) (by decide) (by decide) (by decide) ?_
        refine lv_aload_n (pc := 54) hx hb dX5_heatProperty_54 rfl (lv_at hl 0 rfl) ?_
        obtain ⟨hk6, h⟩ := h
        refine gX5_176 (pc := 55) C hK hP hk6 dX5_heatProperty_55 ?_
        exact m_iret (v := M1.1 j3 2) (pc := 58) C hr hlk hP hS dX5_heatProperty_58 h
      · replace h := h.2 n7_2
        by_cases n7_3 : p2 = 3
        · replace h := h.1 n7_3
          refine m_case (v := 3) (off := 52) (tgt := 59) (pc := 7) hx hb n7_3 dX5_heatProperty_7 (by decide) (by decide) (by decide) (by decide) ?_
          refine lv_aload_n (pc := 59) hx hb dX5_heatProperty_59 rfl (lv_at hl 1 rfl) ?_
          refine lv_iload_n (pc := 60) hx hb dX5_heatProperty_60 rfl (lv_at hl 2 rfl) ?_
          refine m_callVI (pc := 61) (y := yX5_countBilletsOf) (κ := 5) (As := [.int p1]) (rest := []) C hK hP hS hl.1 ⟨Nat.zero_le _, Nat.zero_le _⟩ (c_X5_countBilletsOf h) rfl rfl hk2 (by decide) rfl q_476 q_478 q_s4 q_2 q_479 ⟨rfl, rfl⟩ yd_X5_countBilletsOf ⟨Nat.le_of_ble_eq_true rfl, Nat.le_of_ble_eq_true rfl⟩ (Nat.le_of_ble_eq_true rfl) dX5_heatProperty_61 (fun r8 M7 H locs h hP hS => ?_)
          exact m_iret (v := r8) (pc := 64) C hr hlk hP hS dX5_heatProperty_64 h
        · replace h := h.2 n7_3
          by_cases n7_4 : p2 = 4
          · replace h := h.1 n7_4
            refine m_case (v := 4) (off := 58) (tgt := 65) (pc := 7) hx hb n7_4 dX5_heatProperty_7 (by decide) (by decide) (by decide) (by decide) ?_
            refine lv_aload_n (pc := 65) hx hb dX5_heatProperty_65 rfl (lv_at hl 0 rfl) ?_
            obtain ⟨hk9, h⟩ := h
            refine gX5_169 (pc := 66) C hK hP hk9 dX5_heatProperty_66 ?_
            exact m_iret (v := M1.1 j3 3) (pc := 69) C hr hlk hP hS dX5_heatProperty_69 h
          · replace h := h.2 n7_4
            by_cases n7_5 : p2 = 5
            · replace h := h.1 n7_5
              refine m_case (v := 5) (off := 63) (tgt := 70) (pc := 7) hx hb n7_5 dX5_heatProperty_7 (by decide) (by decide) (by decide) (by decide) ?_
              refine lv_aload_n (pc := 70) hx hb dX5_heatProperty_70 rfl (lv_at hl 0 rfl) ?_
              obtain ⟨hk10, h⟩ := h
              refine gX5_162 (pc := 71) C hK hP hk10 dX5_heatProperty_71 ?_
              exact m_iret (v := M1.1 j3 4) (pc := 74) C hr hlk hP hS dX5_heatProperty_74 h
            · replace h := h.2 n7_5
              refine lv_tableOut (tgt := 75) (pc := 7) hx hb dX5_heatProperty_7 (by have i0 := i_ne n7_0; have i1 := i_ne n7_1; have i2 := i_ne n7_2; have i3 := i_ne n7_3; have i4 := i_ne n7_4; have i5 := i_ne n7_5; simp only [m_lit] at *; omega) (by decide) ?_
              refine lv_aload_n (pc := 75) hx hb dX5_heatProperty_75 rfl (lv_at hl 1 rfl) ?_
              refine lv_iload_n (pc := 76) hx hb dX5_heatProperty_76 rfl (lv_at hl 2 rfl) ?_
              refine m_callVI (pc := 77) (y := yX5_countLackOf) (κ := 5) (As := [.int p1]) (rest := []) C hK hP hS hl.1 ⟨Nat.zero_le _, Nat.zero_le _⟩ (c_X5_countLackOf h) rfl rfl hk2 (by decide) rfl q_480 q_482 q_s5 q_2 q_483 ⟨rfl, rfl⟩ yd_X5_countLackOf ⟨Nat.le_of_ble_eq_true rfl, Nat.le_of_ble_eq_true rfl⟩ (Nat.le_of_ble_eq_true rfl) dX5_heatProperty_77 (fun r12 M11 H locs h hP hS => ?_)
              exact m_iret (v := r12) (pc := 80) C hr hlk hP hS dX5_heatProperty_80 h
/-! ForgeHeats$Shop.reasonToWait (LForgeHeats$Job;)I -/
def wp_X5_reasonToWait (n : Nat) (M : Mem) (i : Nat) (p1 : Nat) (P : Int32 → Mem → Prop) : Prop := m_tp n p1 3 ∧ (m_tp n i 5 ∧ (wp_X5_dieAt n M i (M.1 p1 1) (fun j4 M2 => ∃ j5 : Nat, M2.2.1 i 4 = some j5 ∧ (m_tp n j5 0 ∧ (((¬ (M2.1 j5 0) = (M2.1 p1 0) → m_tp n j4 1 ∧ (wp_X1_isBeingGround n M2 j4 (fun z9 M7 => ((z9 = false → wp_X1_isWornOut n M7 j4 (fun z11 M10 => ((z11 = false → ((¬ (M10.1 p1 7) = 0 → wp_X5_hottestReady n M10 i p1 (fun o13 M12 => ((o13 = none → P 4 M12) ∧ (∀ j14 : Nat, o13 = some j14 → ∃ j15 : Nat, M12.2.1 i 4 = some j15 ∧ (m_tp n j15 0 ∧ (P (if (M12.1 j15 0) = (-1) then 6 else 5) M12)))))) ∧ ((M10.1 p1 7) = 0 → wp_X5_heatAt n M10 i (M10.1 p1 2) (fun j18 M17 => m_tp n j18 2 ∧ (((¬ (M17.1 j18 0) = 0 → wp_X5_hottestReady n M17 i p1 (fun o21 M20 => ((o21 = none → P 4 M20) ∧ (∀ j22 : Nat, o21 = some j22 → ∃ j23 : Nat, M20.2.1 i 4 = some j23 ∧ (m_tp n j23 0 ∧ (P (if (M20.1 j23 0) = (-1) then 6 else 5) M20)))))) ∧ ((M17.1 j18 0) = 0 → P 3 M17))))))) ∧ (z11 = true → P 2 M10)))) ∧ (z9 = true → P 1 M7))))) ∧ ((M2.1 j5 0) = (M2.1 p1 0) → P 0 M2)))))))
abbrev rm_X5_reasonToWait : Room := { frames := 2, cells := 0, slots := 0, locals := 49 }
set_option maxHeartbeats 4000000 in
set_option maxRecDepth 100000 in
theorem c_X5_reasonToWait {l : Launch} {D : va_G} {cA : Nat → ClassId} {b n : Nat} {M : Mem} {i : Nat} {p1 : Nat} {P : Int32 → Mem → Prop} (h : wp_X5_reasonToWait n M i p1 P) : m_C l D cA b n n M yX5_reasonToWait cX5_reasonToWait 3 (some .int) rm_X5_reasonToWait 0 0 [.ref (b + i), .ref (b + p1)] (rI P) := by
  refine m_enter (by decide) (Nat.le_of_ble_eq_true rfl) (fun p e s m below meth c C hr hlk hnm hK hP hS ls hl => ?_)
  have hx := C.1
  have hb := C.2.1
  have hl : lv_has ls 3 [(0, .ref (b + i)), (1, .ref (b + p1))] := hl
  unfold wp_X5_reasonToWait at h
  refine lv_aload_n (pc := 0) hx hb dX5_reasonToWait_0 rfl (lv_at hl 0 rfl) ?_
  refine lv_aload_n (pc := 1) hx hb dX5_reasonToWait_1 rfl (lv_at hl 1 rfl) ?_
  obtain ⟨hk1, h⟩ := h
  refine gX5_125 (pc := 2) C hK hP hk1 dX5_reasonToWait_2 ?_
  obtain ⟨hk3, h⟩ := h
  refine m_callVR (pc := 5) (y := yX5_dieAt) (κ := 5) (As := [.int (M.1 p1 1)]) (rest := []) C hK hP hS hl.1 ⟨Nat.zero_le _, Nat.zero_le _⟩ (c_X5_dieAt h) rfl rfl hk3 (by decide) rfl q_355 q_356 q_357 q_2 q_358 ⟨rfl, rfl⟩ yd_X5_dieAt ⟨Nat.le_of_ble_eq_true rfl, Nat.le_of_ble_eq_true rfl⟩ (Nat.le_of_ble_eq_true rfl) dX5_reasonToWait_5 (fun j4 M2 H locs h hP hS => ?_)
  refine lv_astore_n (lv' := [(2, .ref (b + j4)), (0, .ref (b + i)), (1, .ref (b + p1))]) (pc := 8) hx hb dX5_reasonToWait_8 rfl hl (by decide) rfl (fun ls hl => ?_)
  refine lv_aload_n (pc := 9) hx hb dX5_reasonToWait_9 rfl (lv_at hl 1 rfl) ?_
  obtain ⟨j5, hj5, h⟩ := h
  refine gX5_52 (pc := 10) C hK hP hk3 hj5 dX5_reasonToWait_10 ?_
  obtain ⟨hk6, h⟩ := h
  refine gX5_159 (pc := 13) C hK hP hk6 dX5_reasonToWait_13 ?_
  refine lv_aload_n (pc := 16) hx hb dX5_reasonToWait_16 rfl (lv_at hl 2 rfl) ?_
  refine gX5_122 (pc := 17) C hK hP hk1 dX5_reasonToWait_17 ?_
  refine lv_icmp_ne (tgt := 25) (pc := 20) hx hb dX5_reasonToWait_20 (by decide) (fun c20 => ?_) (fun c20 => ?_)
  · replace h := h.1 c20
    refine lv_aload_n (pc := 25) hx hb dX5_reasonToWait_25 rfl (lv_at hl 0 rfl) ?_
    obtain ⟨hk8, h⟩ := h
    refine m_callVZ (pc := 26) (y := yX1_isBeingGround) (κ := 1) (As := []) (rest := []) C hK hP hS hl.1 ⟨Nat.zero_le _, Nat.zero_le _⟩ (c_X1_isBeingGround h) rfl rfl hk8 (by decide) rfl q_430 q_431 q_432 q_4 q_433 ⟨rfl, rfl⟩ yd_X1_isBeingGround ⟨Nat.le_of_ble_eq_true rfl, Nat.le_of_ble_eq_true rfl⟩ (Nat.le_of_ble_eq_true rfl) dX5_reasonToWait_26 (fun z9 M7 H locs h hP hS => ?_)
    refine lv_if_eq (tgt := 34) (pc := 29) hx hb dX5_reasonToWait_29 (by decide) (fun c29 => ?_) (fun c29 => ?_)
    · replace h := h.1 (bZ0 c29)
      refine lv_aload_n (pc := 34) hx hb dX5_reasonToWait_34 rfl (lv_at hl 0 rfl) ?_
      refine m_callVZ (pc := 35) (y := yX1_isWornOut) (κ := 1) (As := []) (rest := []) C hK hP hS hl.1 ⟨Nat.zero_le _, Nat.zero_le _⟩ (c_X1_isWornOut h) rfl rfl hk8 (by decide) rfl q_521 q_522 q_523 q_4 q_524 ⟨rfl, rfl⟩ yd_X1_isWornOut ⟨Nat.le_of_ble_eq_true rfl, Nat.le_of_ble_eq_true rfl⟩ (Nat.le_of_ble_eq_true rfl) dX5_reasonToWait_35 (fun z11 M10 H locs h hP hS => ?_)
      refine lv_if_eq (tgt := 43) (pc := 38) hx hb dX5_reasonToWait_38 (by decide) (fun c38 => ?_) (fun c38 => ?_)
      · replace h := h.1 (bZ0 c38)
        refine lv_aload_n (pc := 43) hx hb dX5_reasonToWait_43 rfl (lv_at hl 2 rfl) ?_
        refine gX5_144 (pc := 44) C hK hP hk1 dX5_reasonToWait_44 ?_
        refine lv_if_ne (tgt := 66) (pc := 47) hx hb dX5_reasonToWait_47 (by decide) (fun c47 => ?_) (fun c47 => ?_)
        · replace h := h.1 c47
          refine lv_aload_n (pc := 66) hx hb dX5_reasonToWait_66 rfl (lv_at hl 1 rfl) ?_
          refine lv_aload_n (pc := 67) hx hb dX5_reasonToWait_67 rfl (lv_at hl 2 rfl) ?_
          refine m_callVO (pc := 68) (y := yX5_hottestReady) (κ := 5) (As := [.ref (b + p1)]) (rest := []) C hK hP hS hl.1 ⟨Nat.zero_le _, Nat.zero_le _⟩ (c_X5_hottestReady h) rfl rfl hk3 (by decide) rfl q_525 q_527 q_s7 q_2 q_528 ⟨rfl, rfl⟩ yd_X5_hottestReady ⟨Nat.le_of_ble_eq_true rfl, Nat.le_of_ble_eq_true rfl⟩ (Nat.le_of_ble_eq_true rfl) dX5_reasonToWait_68 (fun o13 M12 H locs h hP hS => ?_)
          rcases eo : o13 with _ | j14
          · replace h := h.1 eo
            refine lv_ifnonnullN (pc := 71) hx hb dX5_reasonToWait_71 ?_
            refine lv_iconst (v := 4) (pc := 74) hx hb dX5_reasonToWait_74 (by decide) ?_
            exact m_iret (v := 4) (pc := 75) C hr hlk hP hS dX5_reasonToWait_75 h
          · replace h := h.2 j14 eo
            refine lv_ifnonnull (tgt := 76) (pc := 71) hx hb dX5_reasonToWait_71 (by decide) ?_
            refine lv_aload_n (pc := 76) hx hb dX5_reasonToWait_76 rfl (lv_at hl 1 rfl) ?_
            obtain ⟨j15, hj15, h⟩ := h
            refine gX5_52 (pc := 77) C hK hP hk3 hj15 dX5_reasonToWait_77 ?_
            obtain ⟨hk16, h⟩ := h
            refine gX5_159 (pc := 80) C hK hP hk16 dX5_reasonToWait_80 ?_
            refine lv_iconst (v := -1) (pc := 83) hx hb dX5_reasonToWait_83 (by decide) ?_
            refine m_join (v := if (M12.1 j15 0) = (-1) then 6 else 5) (jp := 93) (rest := []) ?_ (fun hJ => ?_)
            rotate_left
            · skip
              refine lv_icmp_eq (tgt := 91) (pc := 84) hx hb dX5_reasonToWait_84 (by decide) (fun c84 => ?_) (fun c84 => ?_)
              · skip
                refine lv_bipush (v := 6) (pc := 91) hx hb dX5_reasonToWait_91 (by decide) ?_
                exact hJ _ (by rw [if_pos c84])
              · skip
                refine lv_iconst (v := 5) (pc := 87) hx hb dX5_reasonToWait_87 (by decide) ?_
                refine lv_goto (tgt := 93) (pc := 88) hx hb dX5_reasonToWait_88 (by decide) ?_
                exact hJ _ (by rw [if_neg c84])
            exact m_iret (v := if (M12.1 j15 0) = (-1) then 6 else 5) (pc := 93) C hr hlk hP hS dX5_reasonToWait_93 h
        · replace h := h.2 c47
          refine lv_aload_n (pc := 50) hx hb dX5_reasonToWait_50 rfl (lv_at hl 1 rfl) ?_
          refine lv_aload_n (pc := 51) hx hb dX5_reasonToWait_51 rfl (lv_at hl 2 rfl) ?_
          refine gX5_128 (pc := 52) C hK hP hk1 dX5_reasonToWait_52 ?_
          refine m_callVR (pc := 55) (y := yX5_heatAt) (κ := 5) (As := [.int (M10.1 p1 2)]) (rest := []) C hK hP hS hl.1 ⟨Nat.zero_le _, Nat.zero_le _⟩ (c_X5_heatAt h) rfl rfl hk3 (by decide) rfl q_347 q_348 q_349 q_2 q_350 ⟨rfl, rfl⟩ yd_X5_heatAt ⟨Nat.le_of_ble_eq_true rfl, Nat.le_of_ble_eq_true rfl⟩ (Nat.le_of_ble_eq_true rfl) dX5_reasonToWait_55 (fun j18 M17 H locs h hP hS => ?_)
          obtain ⟨hk19, h⟩ := h
          refine gX5_170 (pc := 58) C hK hP hk19 dX5_reasonToWait_58 ?_
          refine lv_if_ne (tgt := 66) (pc := 61) hx hb dX5_reasonToWait_61 (by decide) (fun c61 => ?_) (fun c61 => ?_)
          · replace h := h.1 c61
            refine lv_aload_n (pc := 66) hx hb dX5_reasonToWait_66 rfl (lv_at hl 1 rfl) ?_
            refine lv_aload_n (pc := 67) hx hb dX5_reasonToWait_67 rfl (lv_at hl 2 rfl) ?_
            refine m_callVO (pc := 68) (y := yX5_hottestReady) (κ := 5) (As := [.ref (b + p1)]) (rest := []) C hK hP hS hl.1 ⟨Nat.zero_le _, Nat.zero_le _⟩ (c_X5_hottestReady h) rfl rfl hk3 (by decide) rfl q_525 q_527 q_s7 q_2 q_528 ⟨rfl, rfl⟩ yd_X5_hottestReady ⟨Nat.le_of_ble_eq_true rfl, Nat.le_of_ble_eq_true rfl⟩ (Nat.le_of_ble_eq_true rfl) dX5_reasonToWait_68 (fun o21 M20 H locs h hP hS => ?_)
            rcases eo : o21 with _ | j22
            · replace h := h.1 eo
              refine lv_ifnonnullN (pc := 71) hx hb dX5_reasonToWait_71 ?_
              refine lv_iconst (v := 4) (pc := 74) hx hb dX5_reasonToWait_74 (by decide) ?_
              exact m_iret (v := 4) (pc := 75) C hr hlk hP hS dX5_reasonToWait_75 h
            · replace h := h.2 j22 eo
              refine lv_ifnonnull (tgt := 76) (pc := 71) hx hb dX5_reasonToWait_71 (by decide) ?_
              refine lv_aload_n (pc := 76) hx hb dX5_reasonToWait_76 rfl (lv_at hl 1 rfl) ?_
              obtain ⟨j23, hj23, h⟩ := h
              refine gX5_52 (pc := 77) C hK hP hk3 hj23 dX5_reasonToWait_77 ?_
              obtain ⟨hk24, h⟩ := h
              refine gX5_159 (pc := 80) C hK hP hk24 dX5_reasonToWait_80 ?_
              refine lv_iconst (v := -1) (pc := 83) hx hb dX5_reasonToWait_83 (by decide) ?_
              refine m_join (v := if (M20.1 j23 0) = (-1) then 6 else 5) (jp := 93) (rest := []) ?_ (fun hJ => ?_)
              rotate_left
              · skip
                refine lv_icmp_eq (tgt := 91) (pc := 84) hx hb dX5_reasonToWait_84 (by decide) (fun c84 => ?_) (fun c84 => ?_)
                · skip
                  refine lv_bipush (v := 6) (pc := 91) hx hb dX5_reasonToWait_91 (by decide) ?_
                  exact hJ _ (by rw [if_pos c84])
                · skip
                  refine lv_iconst (v := 5) (pc := 87) hx hb dX5_reasonToWait_87 (by decide) ?_
                  refine lv_goto (tgt := 93) (pc := 88) hx hb dX5_reasonToWait_88 (by decide) ?_
                  exact hJ _ (by rw [if_neg c84])
              exact m_iret (v := if (M20.1 j23 0) = (-1) then 6 else 5) (pc := 93) C hr hlk hP hS dX5_reasonToWait_93 h
          · replace h := h.2 c61
            refine lv_iconst (v := 3) (pc := 64) hx hb dX5_reasonToWait_64 (by decide) ?_
            exact m_iret (v := 3) (pc := 65) C hr hlk hP hS dX5_reasonToWait_65 h
      · replace h := h.2 (bZ1 c38)
        refine lv_iconst (v := 2) (pc := 41) hx hb dX5_reasonToWait_41 (by decide) ?_
        exact m_iret (v := 2) (pc := 42) C hr hlk hP hS dX5_reasonToWait_42 h
    · replace h := h.2 (bZ1 c29)
      refine lv_iconst (v := 1) (pc := 32) hx hb dX5_reasonToWait_32 (by decide) ?_
      exact m_iret (v := 1) (pc := 33) C hr hlk hP hS dX5_reasonToWait_33 h
  · replace h := h.2 c20
    refine lv_iconst (v := 0) (pc := 23) hx hb dX5_reasonToWait_23 (by decide) ?_
    exact m_iret (v := 0) (pc := 24) C hr hlk hP hS dX5_reasonToWait_24 h
/-! ForgeHeats$Shop.workPress (I)V -/
def wp_X5_workPress (n : Nat) (M : Mem) (i : Nat) (p1 : Int32) (P : Mem → Prop) : Prop := m_tp n i 5 ∧ (wp_X5_jobAt n M i p1 (fun j3 M1 => m_tp n j3 3 ∧ (wp_X5_heatAt n M1 i (M1.1 j3 2) (fun j6 M5 => wp_X5_dieAt n M5 i (M5.1 j3 1) (fun j8 M7 => m_tp n j8 1 ∧ (wp_X1_canForge n M7 j8 (fun z11 M9 => ((z11 = false → wp_X5_sendBack n M9 i j3 j6 (fun M12 => P M12)) ∧ (z11 = true → ∃ j14 : Nat, M9.2.1 i 4 = some j14 ∧ (m_tp n j14 0 ∧ (m_tp n j6 2 ∧ ((((M9.1 j6 1) ≤ (M9.1 j14 1) → ∃ j17 : Nat, M9.2.1 i 4 = some j17 ∧ (m_tp n j17 0 ∧ (∀ M19 : Mem, M19 = uI M9 j8 2 ((M9.1 j8 2) + (1 + ((if 0 < ((M9.1 j6 2) - (M9.1 j17 1)) then ((M9.1 j6 2) - (M9.1 j17 1)) else 0) / 100))) → (∃ j20 : Nat, M19.2.1 i 4 = some j20 ∧ (∃ j21 : Nat, M19.2.1 i 4 = some j21 ∧ (m_tp n j21 0 ∧ (m_tp n j20 0 ∧ (∀ M24 : Mem, M24 = uI M19 j20 1 (if 20 < ((M19.1 j21 1) - (M19.1 i 8)) then ((M19.1 j21 1) - (M19.1 i 8)) else 20) → (∃ j25 : Nat, M24.2.1 i 4 = some j25 ∧ (m_tp n j25 0 ∧ (∀ M27 : Mem, M27 = uI M24 j25 3 ((M24.1 j25 3) - 1) → (∀ M28 : Mem, M28 = uI M27 i 12 ((M27.1 i 12) + 1) → (∃ j29 : Nat, M28.2.1 i 4 = some j29 ∧ (m_tp n j29 0 ∧ ((((M28.1 j29 3) ≤ 0 → ∃ j31 : Nat, M28.2.1 i 4 = some j31 ∧ (m_tp n j31 0 ∧ (∀ M33 : Mem, M33 = uI M28 j31 0 (-1) → (∀ M34 : Mem, M34 = uI M33 j3 7 ((M33.1 j3 7) - 1) → (∀ M35 : Mem, M35 = uI M34 j3 4 ((M34.1 j3 4) + 1) → (∀ M36 : Mem, M36 = uI M35 j6 3 ((M35.1 j6 3) + 1) → (∀ M37 : Mem, M37 = uI M36 j8 4 ((M36.1 j8 4) + 1) → ((((M37.1 j3 4) < (M37.1 j3 3) → P M37) ∧ (¬ (M37.1 j3 4) < (M37.1 j3 3) → wp_X5_countGone n M37 i j3 (fun M38 => wp_X5_removeJob n M38 i p1 (fun M40 => P M40)))))))))))) ∧ (¬ (M28.1 j29 3) ≤ 0 → P M28))))))))))))))))) ∧ (¬ (M9.1 j6 1) ≤ (M9.1 j14 1) → wp_X5_sendBack n M9 i j3 j6 (fun M42 => P M42)))))))))))))))
abbrev rm_X5_workPress : Room := { frames := 2, cells := 0, slots := 0, locals := 47 }
set_option maxHeartbeats 4000000 in
set_option maxRecDepth 100000 in
theorem c_X5_workPress {l : Launch} {D : va_G} {cA : Nat → ClassId} {b n : Nat} {M : Mem} {i : Nat} {p1 : Int32} {P : Mem → Prop} (h : wp_X5_workPress n M i p1 P) : m_C l D cA b n n M yX5_workPress cX5_workPress 5 none rm_X5_workPress 0 0 [.ref (b + i), .int p1] (rV P) := by
  refine m_enter (by decide) (Nat.le_of_ble_eq_true rfl) (fun p e s m below meth c C hr hlk hnm hK hP hS ls hl => ?_)
  have hx := C.1
  have hb := C.2.1
  have hl : lv_has ls 5 [(0, .ref (b + i)), (1, .int p1)] := hl
  unfold wp_X5_workPress at h
  refine lv_aload_n (pc := 0) hx hb dX5_workPress_0 rfl (lv_at hl 0 rfl) ?_
  refine lv_iload_n (pc := 1) hx hb dX5_workPress_1 rfl (lv_at hl 1 rfl) ?_
  obtain ⟨hk2, h⟩ := h
  refine m_callVR (pc := 2) (y := yX5_jobAt) (κ := 5) (As := [.int p1]) (rest := []) C hK hP hS hl.1 ⟨Nat.zero_le _, Nat.zero_le _⟩ (c_X5_jobAt h) rfl rfl hk2 (by decide) rfl q_363 q_364 q_365 q_2 q_366 ⟨rfl, rfl⟩ yd_X5_jobAt ⟨Nat.le_of_ble_eq_true rfl, Nat.le_of_ble_eq_true rfl⟩ (Nat.le_of_ble_eq_true rfl) dX5_workPress_2 (fun j3 M1 H locs h hP hS => ?_)
  refine lv_astore_n (lv' := [(2, .ref (b + j3)), (0, .ref (b + i)), (1, .int p1)]) (pc := 5) hx hb dX5_workPress_5 rfl hl (by decide) rfl (fun ls hl => ?_)
  refine lv_aload_n (pc := 6) hx hb dX5_workPress_6 rfl (lv_at hl 1 rfl) ?_
  refine lv_aload_n (pc := 7) hx hb dX5_workPress_7 rfl (lv_at hl 0 rfl) ?_
  obtain ⟨hk4, h⟩ := h
  refine gX5_128 (pc := 8) C hK hP hk4 dX5_workPress_8 ?_
  refine m_callVR (pc := 11) (y := yX5_heatAt) (κ := 5) (As := [.int (M1.1 j3 2)]) (rest := []) C hK hP hS hl.1 ⟨Nat.zero_le _, Nat.zero_le _⟩ (c_X5_heatAt h) rfl rfl hk2 (by decide) rfl q_347 q_348 q_349 q_2 q_350 ⟨rfl, rfl⟩ yd_X5_heatAt ⟨Nat.le_of_ble_eq_true rfl, Nat.le_of_ble_eq_true rfl⟩ (Nat.le_of_ble_eq_true rfl) dX5_workPress_11 (fun j6 M5 H locs h hP hS => ?_)
  refine lv_astore_n (lv' := [(3, .ref (b + j6)), (2, .ref (b + j3)), (0, .ref (b + i)), (1, .int p1)]) (pc := 14) hx hb dX5_workPress_14 rfl hl (by decide) rfl (fun ls hl => ?_)
  refine lv_aload_n (pc := 15) hx hb dX5_workPress_15 rfl (lv_at hl 2 rfl) ?_
  refine lv_aload_n (pc := 16) hx hb dX5_workPress_16 rfl (lv_at hl 1 rfl) ?_
  refine gX5_125 (pc := 17) C hK hP hk4 dX5_workPress_17 ?_
  refine m_callVR (pc := 20) (y := yX5_dieAt) (κ := 5) (As := [.int (M5.1 j3 1)]) (rest := []) C hK hP hS hl.1 ⟨Nat.zero_le _, Nat.zero_le _⟩ (c_X5_dieAt h) rfl rfl hk2 (by decide) rfl q_355 q_356 q_357 q_2 q_358 ⟨rfl, rfl⟩ yd_X5_dieAt ⟨Nat.le_of_ble_eq_true rfl, Nat.le_of_ble_eq_true rfl⟩ (Nat.le_of_ble_eq_true rfl) dX5_workPress_20 (fun j8 M7 H locs h hP hS => ?_)
  refine lv_astore (lv' := [(4, .ref (b + j8)), (3, .ref (b + j6)), (2, .ref (b + j3)), (0, .ref (b + i)), (1, .int p1)]) (pc := 23) hx hb dX5_workPress_23 hl (by decide) rfl (fun ls hl => ?_)
  refine lv_aload (pc := 25) hx hb dX5_workPress_25 (lv_at hl 0 rfl) ?_
  obtain ⟨hk10, h⟩ := h
  refine m_callVZ (pc := 27) (y := yX1_canForge) (κ := 1) (As := []) (rest := []) C hK hP hS hl.1 ⟨Nat.zero_le _, Nat.zero_le _⟩ (c_X1_canForge h) rfl rfl hk10 (by decide) rfl q_664 q_665 q_666 q_4 q_667 ⟨rfl, rfl⟩ yd_X1_canForge ⟨Nat.le_of_ble_eq_true rfl, Nat.le_of_ble_eq_true rfl⟩ (Nat.le_of_ble_eq_true rfl) dX5_workPress_27 (fun z11 M9 H locs h hP hS => ?_)
  refine lv_if_eq (tgt := 47) (pc := 30) hx hb dX5_workPress_30 (by decide) (fun c30 => ?_) (fun c30 => ?_)
  · replace h := h.1 (bZ0 c30)
    refine lv_aload_n (pc := 47) hx hb dX5_workPress_47 rfl (lv_at hl 3 rfl) ?_
    refine lv_aload_n (pc := 48) hx hb dX5_workPress_48 rfl (lv_at hl 2 rfl) ?_
    refine lv_aload_n (pc := 49) hx hb dX5_workPress_49 rfl (lv_at hl 1 rfl) ?_
    refine m_callVV (pc := 50) (y := yX5_sendBack) (κ := 5) (As := [.ref (b + j3), .ref (b + j6)]) (rest := []) C hK hP hS hl.1 ⟨Nat.zero_le _, Nat.zero_le _⟩ (c_X5_sendBack h) rfl rfl hk2 (by decide) rfl q_673 q_675 q_s18 q_2 q_676 ⟨rfl, rfl⟩ yd_X5_sendBack ⟨Nat.le_of_ble_eq_true rfl, Nat.le_of_ble_eq_true rfl⟩ (Nat.le_of_ble_eq_true rfl) dX5_workPress_50 (fun M12 H locs h hP hS => ?_)
    exact m_vret (pc := 53) C hr hlk hP hS dX5_workPress_53 h
  · replace h := h.2 (bZ1 c30)
    refine lv_aload_n (pc := 33) hx hb dX5_workPress_33 rfl (lv_at hl 3 rfl) ?_
    obtain ⟨j14, hj14, h⟩ := h
    refine gX5_52 (pc := 34) C hK hP hk2 hj14 dX5_workPress_34 ?_
    obtain ⟨hk15, h⟩ := h
    refine gX5_204 (pc := 37) C hK hP hk15 dX5_workPress_37 ?_
    refine lv_aload_n (pc := 40) hx hb dX5_workPress_40 rfl (lv_at hl 1 rfl) ?_
    obtain ⟨hk16, h⟩ := h
    refine gX5_173 (pc := 41) C hK hP hk16 dX5_workPress_41 ?_
    refine lv_icmp_ge (tgt := 54) (pc := 44) hx hb dX5_workPress_44 (by decide) (fun c44 => ?_) (fun c44 => ?_)
    · replace h := h.1 c44
      refine lv_aload (pc := 54) hx hb dX5_workPress_54 (lv_at hl 0 rfl) ?_
      refine lv_dup (pc := 56) hx hb dX5_workPress_56 rfl ?_
      refine gX5_248 (pc := 57) C hK hP hk10 dX5_workPress_57 ?_
      refine lv_iconst (v := 1) (pc := 60) hx hb dX5_workPress_60 (by decide) ?_
      refine lv_iconst (v := 0) (pc := 61) hx hb dX5_workPress_61 (by decide) ?_
      refine lv_aload_n (pc := 62) hx hb dX5_workPress_62 rfl (lv_at hl 1 rfl) ?_
      refine gX5_176 (pc := 63) C hK hP hk16 dX5_workPress_63 ?_
      refine lv_aload_n (pc := 66) hx hb dX5_workPress_66 rfl (lv_at hl 3 rfl) ?_
      obtain ⟨j17, hj17, h⟩ := h
      refine gX5_52 (pc := 67) C hK hP hk2 hj17 dX5_workPress_67 ?_
      obtain ⟨hk18, h⟩ := h
      refine gX5_204 (pc := 70) C hK hP hk18 dX5_workPress_70 ?_
      refine lv_isub (pc := 73) hx hb dX5_workPress_73 ?_
      refine va_mmax (pc := 74) hx hb (C.2.2.1.trans hl.1.symm) C.2.2.2.1 (C.2.2.2.2 _ q_677) (C.2.2.2.2 _ q_678) (C.2.2.2.2 _ q_14) (C.2.2.2.2 _ q_679) (Nat.le_of_ble_eq_true rfl) (Nat.le_of_ble_eq_true rfl) (Nat.zero_le _) (Nat.zero_le _) dX5_workPress_74 ?_
      refine lv_bipush (v := 100) (pc := 77) hx hb dX5_workPress_77 (by decide) ?_
      refine lv_idiv (pc := 79) hx hb dX5_workPress_79 (by decide) ?_
      refine lv_iadd (pc := 80) hx hb dX5_workPress_80 ?_
      refine lv_iadd (pc := 81) hx hb dX5_workPress_81 ?_
      refine pX5_248 (pc := 82) (v := (M9.1 j8 2) + (1 + ((if 0 < ((M9.1 j6 2) - (M9.1 j17 1)) then ((M9.1 j6 2) - (M9.1 j17 1)) else 0) / 100))) C hK hP hS hk10 dX5_workPress_82 (fun M19 H locs eM19 hP hS => ?_)
      replace h := h M19 eM19
      refine lv_aload_n (pc := 85) hx hb dX5_workPress_85 rfl (lv_at hl 3 rfl) ?_
      obtain ⟨j20, hj20, h⟩ := h
      refine gX5_52 (pc := 86) C hK hP hk2 hj20 dX5_workPress_86 ?_
      refine lv_bipush (v := 20) (pc := 89) hx hb dX5_workPress_89 (by decide) ?_
      refine lv_aload_n (pc := 91) hx hb dX5_workPress_91 rfl (lv_at hl 3 rfl) ?_
      obtain ⟨j21, hj21, h⟩ := h
      refine gX5_52 (pc := 92) C hK hP hk2 hj21 dX5_workPress_92 ?_
      obtain ⟨hk22, h⟩ := h
      refine gX5_204 (pc := 95) C hK hP hk22 dX5_workPress_95 ?_
      refine lv_aload_n (pc := 98) hx hb dX5_workPress_98 rfl (lv_at hl 3 rfl) ?_
      refine gX5_15 (pc := 99) C hK hP hk2 dX5_workPress_99 ?_
      refine lv_isub (pc := 102) hx hb dX5_workPress_102 ?_
      refine va_mmax (pc := 103) hx hb (C.2.2.1.trans hl.1.symm) C.2.2.2.1 (C.2.2.2.2 _ q_677) (C.2.2.2.2 _ q_678) (C.2.2.2.2 _ q_14) (C.2.2.2.2 _ q_679) (Nat.le_of_ble_eq_true rfl) (Nat.le_of_ble_eq_true rfl) (Nat.zero_le _) (Nat.zero_le _) dX5_workPress_103 ?_
      obtain ⟨hk23, h⟩ := h
      refine pX5_204 (pc := 106) (v := if 20 < ((M19.1 j21 1) - (M19.1 i 8)) then ((M19.1 j21 1) - (M19.1 i 8)) else 20) C hK hP hS hk23 dX5_workPress_106 (fun M24 H locs eM24 hP hS => ?_)
      replace h := h M24 eM24
      refine lv_aload_n (pc := 109) hx hb dX5_workPress_109 rfl (lv_at hl 3 rfl) ?_
      obtain ⟨j25, hj25, h⟩ := h
      refine gX5_52 (pc := 110) C hK hP hk2 hj25 dX5_workPress_110 ?_
      refine lv_dup (pc := 113) hx hb dX5_workPress_113 rfl ?_
      obtain ⟨hk26, h⟩ := h
      refine gX5_240 (pc := 114) C hK hP hk26 dX5_workPress_114 ?_
      refine lv_iconst (v := 1) (pc := 117) hx hb dX5_workPress_117 (by decide) ?_
      refine lv_isub (pc := 118) hx hb dX5_workPress_118 ?_
      refine pX5_240 (pc := 119) (v := (M24.1 j25 3) - 1) C hK hP hS hk26 dX5_workPress_119 (fun M27 H locs eM27 hP hS => ?_)
      replace h := h M27 eM27
      refine lv_aload_n (pc := 122) hx hb dX5_workPress_122 rfl (lv_at hl 3 rfl) ?_
      refine lv_dup (pc := 123) hx hb dX5_workPress_123 rfl ?_
      refine gX5_110 (pc := 124) C hK hP hk2 dX5_workPress_124 ?_
      refine lv_iconst (v := 1) (pc := 127) hx hb dX5_workPress_127 (by decide) ?_
      refine lv_iadd (pc := 128) hx hb dX5_workPress_128 ?_
      refine pX5_110 (pc := 129) (v := (M27.1 i 12) + 1) C hK hP hS hk2 dX5_workPress_129 (fun M28 H locs eM28 hP hS => ?_)
      replace h := h M28 eM28
      refine lv_aload_n (pc := 132) hx hb dX5_workPress_132 rfl (lv_at hl 3 rfl) ?_
      obtain ⟨j29, hj29, h⟩ := h
      refine gX5_52 (pc := 133) C hK hP hk2 hj29 dX5_workPress_133 ?_
      obtain ⟨hk30, h⟩ := h
      refine gX5_240 (pc := 136) C hK hP hk30 dX5_workPress_136 ?_
      refine lv_if_le (tgt := 143) (pc := 139) hx hb dX5_workPress_139 (by decide) (fun c139 => ?_) (fun c139 => ?_)
      · replace h := h.1 c139
        refine lv_aload_n (pc := 143) hx hb dX5_workPress_143 rfl (lv_at hl 3 rfl) ?_
        obtain ⟨j31, hj31, h⟩ := h
        refine gX5_52 (pc := 144) C hK hP hk2 hj31 dX5_workPress_144 ?_
        refine lv_iconst (v := -1) (pc := 147) hx hb dX5_workPress_147 (by decide) ?_
        obtain ⟨hk32, h⟩ := h
        refine pX5_159 (pc := 148) (v := (-1)) C hK hP hS hk32 dX5_workPress_148 (fun M33 H locs eM33 hP hS => ?_)
        replace h := h M33 eM33
        refine lv_aload_n (pc := 151) hx hb dX5_workPress_151 rfl (lv_at hl 2 rfl) ?_
        refine lv_dup (pc := 152) hx hb dX5_workPress_152 rfl ?_
        refine gX5_144 (pc := 153) C hK hP hk4 dX5_workPress_153 ?_
        refine lv_iconst (v := 1) (pc := 156) hx hb dX5_workPress_156 (by decide) ?_
        refine lv_isub (pc := 157) hx hb dX5_workPress_157 ?_
        refine pX5_144 (pc := 158) (v := (M33.1 j3 7) - 1) C hK hP hS hk4 dX5_workPress_158 (fun M34 H locs eM34 hP hS => ?_)
        replace h := h M34 eM34
        refine lv_aload_n (pc := 161) hx hb dX5_workPress_161 rfl (lv_at hl 2 rfl) ?_
        refine lv_dup (pc := 162) hx hb dX5_workPress_162 rfl ?_
        refine gX5_134 (pc := 163) C hK hP hk4 dX5_workPress_163 ?_
        refine lv_iconst (v := 1) (pc := 166) hx hb dX5_workPress_166 (by decide) ?_
        refine lv_iadd (pc := 167) hx hb dX5_workPress_167 ?_
        refine pX5_134 (pc := 168) (v := (M34.1 j3 4) + 1) C hK hP hS hk4 dX5_workPress_168 (fun M35 H locs eM35 hP hS => ?_)
        replace h := h M35 eM35
        refine lv_aload_n (pc := 171) hx hb dX5_workPress_171 rfl (lv_at hl 1 rfl) ?_
        refine lv_dup (pc := 172) hx hb dX5_workPress_172 rfl ?_
        refine gX5_169 (pc := 173) C hK hP hk16 dX5_workPress_173 ?_
        refine lv_iconst (v := 1) (pc := 176) hx hb dX5_workPress_176 (by decide) ?_
        refine lv_iadd (pc := 177) hx hb dX5_workPress_177 ?_
        refine pX5_169 (pc := 178) (v := (M35.1 j6 3) + 1) C hK hP hS hk16 dX5_workPress_178 (fun M36 H locs eM36 hP hS => ?_)
        replace h := h M36 eM36
        refine lv_aload (pc := 181) hx hb dX5_workPress_181 (lv_at hl 0 rfl) ?_
        refine lv_dup (pc := 183) hx hb dX5_workPress_183 rfl ?_
        refine gX5_254 (pc := 184) C hK hP hk10 dX5_workPress_184 ?_
        refine lv_iconst (v := 1) (pc := 187) hx hb dX5_workPress_187 (by decide) ?_
        refine lv_iadd (pc := 188) hx hb dX5_workPress_188 ?_
        refine pX5_254 (pc := 189) (v := (M36.1 j8 4) + 1) C hK hP hS hk10 dX5_workPress_189 (fun M37 H locs eM37 hP hS => ?_)
        replace h := h M37 eM37
        refine lv_aload_n (pc := 192) hx hb dX5_workPress_192 rfl (lv_at hl 2 rfl) ?_
        refine gX5_134 (pc := 193) C hK hP hk4 dX5_workPress_193 ?_
        refine lv_aload_n (pc := 196) hx hb dX5_workPress_196 rfl (lv_at hl 2 rfl) ?_
        refine gX5_131 (pc := 197) C hK hP hk4 dX5_workPress_197 ?_
        refine lv_icmp_lt (tgt := 213) (pc := 200) hx hb dX5_workPress_200 (by decide) (fun c200 => ?_) (fun c200 => ?_)
        · replace h := h.1 c200
          exact m_vret (pc := 213) C hr hlk hP hS dX5_workPress_213 h
        · replace h := h.2 c200
          refine lv_aload_n (pc := 203) hx hb dX5_workPress_203 rfl (lv_at hl 3 rfl) ?_
          refine lv_aload_n (pc := 204) hx hb dX5_workPress_204 rfl (lv_at hl 2 rfl) ?_
          refine m_callVV (pc := 205) (y := yX5_countGone) (κ := 5) (As := [.ref (b + j3)]) (rest := []) C hK hP hS hl.1 ⟨Nat.zero_le _, Nat.zero_le _⟩ (c_X5_countGone h) rfl rfl hk2 (by decide) rfl q_680 q_682 q_s19 q_2 q_683 ⟨rfl, rfl⟩ yd_X5_countGone ⟨Nat.le_of_ble_eq_true rfl, Nat.le_of_ble_eq_true rfl⟩ (Nat.le_of_ble_eq_true rfl) dX5_workPress_205 (fun M38 H locs h hP hS => ?_)
          refine lv_aload_n (pc := 208) hx hb dX5_workPress_208 rfl (lv_at hl 3 rfl) ?_
          refine lv_iload_n (pc := 209) hx hb dX5_workPress_209 rfl (lv_at hl 4 rfl) ?_
          refine m_callVV (pc := 210) (y := yX5_removeJob) (κ := 5) (As := [.int p1]) (rest := []) C hK hP hS hl.1 ⟨Nat.zero_le _, Nat.zero_le _⟩ (c_X5_removeJob h) rfl rfl hk2 (by decide) rfl q_596 q_598 q_s10 q_2 q_599 ⟨rfl, rfl⟩ yd_X5_removeJob ⟨Nat.le_of_ble_eq_true rfl, Nat.le_of_ble_eq_true rfl⟩ (Nat.le_of_ble_eq_true rfl) dX5_workPress_210 (fun M40 H locs h hP hS => ?_)
          exact m_vret (pc := 213) C hr hlk hP hS dX5_workPress_213 h
      · replace h := h.2 c139
        exact m_vret (pc := 142) C hr hlk hP hS dX5_workPress_142 h
    · replace h := h.2 c44
      refine lv_aload_n (pc := 47) hx hb dX5_workPress_47 rfl (lv_at hl 3 rfl) ?_
      refine lv_aload_n (pc := 48) hx hb dX5_workPress_48 rfl (lv_at hl 2 rfl) ?_
      refine lv_aload_n (pc := 49) hx hb dX5_workPress_49 rfl (lv_at hl 1 rfl) ?_
      refine m_callVV (pc := 50) (y := yX5_sendBack) (κ := 5) (As := [.ref (b + j3), .ref (b + j6)]) (rest := []) C hK hP hS hl.1 ⟨Nat.zero_le _, Nat.zero_le _⟩ (c_X5_sendBack h) rfl rfl hk2 (by decide) rfl q_673 q_675 q_s18 q_2 q_676 ⟨rfl, rfl⟩ yd_X5_sendBack ⟨Nat.le_of_ble_eq_true rfl, Nat.le_of_ble_eq_true rfl⟩ (Nat.le_of_ble_eq_true rfl) dX5_workPress_50 (fun M42 H locs h hP hS => ?_)
      exact m_vret (pc := 53) C hr hlk hP hS dX5_workPress_53 h
/-! ForgeHeats$Shop.addJob (IIIIZ)I -/
def wp_X5_addJob (n : Nat) (M : Mem) (i : Nat) (p1 : Int32) (p2 : Int32) (p3 : Int32) (p4 : Int32) (p5 : Bool) (P : Int32 → Mem → Prop) : Prop := m_tp n i 5 ∧ (wp_X5_jobAt n M i (M.1 i 5) (fun j3 M2 => m_tp n j3 3 ∧ (∀ M5 : Mem, M5 = uI M2 j3 0 (M2.1 i 6) → (∀ M6 : Mem, M6 = uI M5 j3 1 p1 → (∀ M7 : Mem, M7 = uI M6 j3 2 p2 → (∀ M8 : Mem, M8 = uI M7 j3 3 p3 → (∀ M9 : Mem, M9 = uI M8 j3 4 0 → (∀ M10 : Mem, M10 = uI M9 j3 5 p4 → (∀ M11 : Mem, M11 = uI M10 j3 6 (bI p5) → (∀ M12 : Mem, M12 = uI M11 j3 7 0 → (∀ M13 : Mem, M13 = uI M12 i 6 ((M12.1 i 6) + 1) → (∀ M14 : Mem, M14 = uI M13 i 5 ((M13.1 i 5) + 1) → (wp_X5_settle n M14 i ((M14.1 i 5) - 1) (fun r16 M15 => P (M15.1 j3 0) M15))))))))))))))
abbrev rm_X5_addJob : Room := { frames := 2, cells := 0, slots := 0, locals := 45 }
set_option maxHeartbeats 4000000 in
set_option maxRecDepth 100000 in
theorem c_X5_addJob {l : Launch} {D : va_G} {cA : Nat → ClassId} {b n : Nat} {M : Mem} {i : Nat} {p1 : Int32} {p2 : Int32} {p3 : Int32} {p4 : Int32} {p5 : Bool} {P : Int32 → Mem → Prop} (h : wp_X5_addJob n M i p1 p2 p3 p4 p5 P) : m_C l D cA b n n M yX5_addJob cX5_addJob 7 (some .int) rm_X5_addJob 0 0 [.ref (b + i), .int p1, .int p2, .int p3, .int p4, .int (bI p5)] (rI P) := by
  refine m_enter (by decide) (Nat.le_of_ble_eq_true rfl) (fun p e s m below meth c C hr hlk hnm hK hP hS ls hl => ?_)
  have hx := C.1
  have hb := C.2.1
  have hl : lv_has ls 7 [(0, .ref (b + i)), (1, .int p1), (2, .int p2), (3, .int p3), (4, .int p4), (5, .int (bI p5))] := hl
  unfold wp_X5_addJob at h
  refine lv_aload_n (pc := 0) hx hb dX5_addJob_0 rfl (lv_at hl 0 rfl) ?_
  refine lv_aload_n (pc := 1) hx hb dX5_addJob_1 rfl (lv_at hl 0 rfl) ?_
  obtain ⟨hk1, h⟩ := h
  refine gX5_83 (pc := 2) C hK hP hk1 dX5_addJob_2 ?_
  refine m_callVR (pc := 5) (y := yX5_jobAt) (κ := 5) (As := [.int (M.1 i 5)]) (rest := []) C hK hP hS hl.1 ⟨Nat.zero_le _, Nat.zero_le _⟩ (c_X5_jobAt h) rfl rfl hk1 (by decide) rfl q_363 q_364 q_365 q_2 q_366 ⟨rfl, rfl⟩ yd_X5_jobAt ⟨Nat.le_of_ble_eq_true rfl, Nat.le_of_ble_eq_true rfl⟩ (Nat.le_of_ble_eq_true rfl) dX5_addJob_5 (fun j3 M2 H locs h hP hS => ?_)
  refine lv_astore (lv' := [(6, .ref (b + j3)), (0, .ref (b + i)), (1, .int p1), (2, .int p2), (3, .int p3), (4, .int p4), (5, .int (bI p5))]) (pc := 8) hx hb dX5_addJob_8 hl (by decide) rfl (fun ls hl => ?_)
  refine lv_aload (pc := 10) hx hb dX5_addJob_10 (lv_at hl 0 rfl) ?_
  refine lv_aload_n (pc := 12) hx hb dX5_addJob_12 rfl (lv_at hl 1 rfl) ?_
  refine gX5_104 (pc := 13) C hK hP hk1 dX5_addJob_13 ?_
  obtain ⟨hk4, h⟩ := h
  refine pX5_122 (pc := 16) (v := M2.1 i 6) C hK hP hS hk4 dX5_addJob_16 (fun M5 H locs eM5 hP hS => ?_)
  replace h := h M5 eM5
  refine lv_aload (pc := 19) hx hb dX5_addJob_19 (lv_at hl 0 rfl) ?_
  refine lv_iload_n (pc := 21) hx hb dX5_addJob_21 rfl (lv_at hl 2 rfl) ?_
  refine pX5_125 (pc := 22) (v := p1) C hK hP hS hk4 dX5_addJob_22 (fun M6 H locs eM6 hP hS => ?_)
  replace h := h M6 eM6
  refine lv_aload (pc := 25) hx hb dX5_addJob_25 (lv_at hl 0 rfl) ?_
  refine lv_iload_n (pc := 27) hx hb dX5_addJob_27 rfl (lv_at hl 3 rfl) ?_
  refine pX5_128 (pc := 28) (v := p2) C hK hP hS hk4 dX5_addJob_28 (fun M7 H locs eM7 hP hS => ?_)
  replace h := h M7 eM7
  refine lv_aload (pc := 31) hx hb dX5_addJob_31 (lv_at hl 0 rfl) ?_
  refine lv_iload_n (pc := 33) hx hb dX5_addJob_33 rfl (lv_at hl 4 rfl) ?_
  refine pX5_131 (pc := 34) (v := p3) C hK hP hS hk4 dX5_addJob_34 (fun M8 H locs eM8 hP hS => ?_)
  replace h := h M8 eM8
  refine lv_aload (pc := 37) hx hb dX5_addJob_37 (lv_at hl 0 rfl) ?_
  refine lv_iconst (v := 0) (pc := 39) hx hb dX5_addJob_39 (by decide) ?_
  refine pX5_134 (pc := 40) (v := 0) C hK hP hS hk4 dX5_addJob_40 (fun M9 H locs eM9 hP hS => ?_)
  replace h := h M9 eM9
  refine lv_aload (pc := 43) hx hb dX5_addJob_43 (lv_at hl 0 rfl) ?_
  refine lv_iload (pc := 45) hx hb dX5_addJob_45 (lv_at hl 5 rfl) ?_
  refine pX5_137 (pc := 47) (v := p4) C hK hP hS hk4 dX5_addJob_47 (fun M10 H locs eM10 hP hS => ?_)
  replace h := h M10 eM10
  refine lv_aload (pc := 50) hx hb dX5_addJob_50 (lv_at hl 0 rfl) ?_
  refine lv_iload (pc := 52) hx hb dX5_addJob_52 (lv_at hl 6 rfl) ?_
  refine pX5_140 (pc := 54) (z := p5) C hK hP hS hk4 dX5_addJob_54 (fun M11 H locs eM11 hP hS => ?_)
  replace h := h M11 eM11
  refine lv_aload (pc := 57) hx hb dX5_addJob_57 (lv_at hl 0 rfl) ?_
  refine lv_iconst (v := 0) (pc := 59) hx hb dX5_addJob_59 (by decide) ?_
  refine pX5_144 (pc := 60) (v := 0) C hK hP hS hk4 dX5_addJob_60 (fun M12 H locs eM12 hP hS => ?_)
  replace h := h M12 eM12
  refine lv_aload_n (pc := 63) hx hb dX5_addJob_63 rfl (lv_at hl 1 rfl) ?_
  refine lv_dup (pc := 64) hx hb dX5_addJob_64 rfl ?_
  refine gX5_104 (pc := 65) C hK hP hk1 dX5_addJob_65 ?_
  refine lv_iconst (v := 1) (pc := 68) hx hb dX5_addJob_68 (by decide) ?_
  refine lv_iadd (pc := 69) hx hb dX5_addJob_69 ?_
  refine pX5_104 (pc := 70) (v := (M12.1 i 6) + 1) C hK hP hS hk1 dX5_addJob_70 (fun M13 H locs eM13 hP hS => ?_)
  replace h := h M13 eM13
  refine lv_aload_n (pc := 73) hx hb dX5_addJob_73 rfl (lv_at hl 1 rfl) ?_
  refine lv_dup (pc := 74) hx hb dX5_addJob_74 rfl ?_
  refine gX5_83 (pc := 75) C hK hP hk1 dX5_addJob_75 ?_
  refine lv_iconst (v := 1) (pc := 78) hx hb dX5_addJob_78 (by decide) ?_
  refine lv_iadd (pc := 79) hx hb dX5_addJob_79 ?_
  refine pX5_83 (pc := 80) (v := (M13.1 i 5) + 1) C hK hP hS hk1 dX5_addJob_80 (fun M14 H locs eM14 hP hS => ?_)
  replace h := h M14 eM14
  refine lv_aload_n (pc := 83) hx hb dX5_addJob_83 rfl (lv_at hl 1 rfl) ?_
  refine lv_aload_n (pc := 84) hx hb dX5_addJob_84 rfl (lv_at hl 1 rfl) ?_
  refine gX5_83 (pc := 85) C hK hP hk1 dX5_addJob_85 ?_
  refine lv_iconst (v := 1) (pc := 88) hx hb dX5_addJob_88 (by decide) ?_
  refine lv_isub (pc := 89) hx hb dX5_addJob_89 ?_
  refine m_callVI (pc := 90) (y := yX5_settle) (κ := 5) (As := [.int ((M14.1 i 5) - 1)]) (rest := []) C hK hP hS hl.1 ⟨Nat.zero_le _, Nat.zero_le _⟩ (c_X5_settle h) rfl rfl hk1 (by decide) rfl q_612 q_614 q_s12 q_2 q_615 ⟨rfl, rfl⟩ yd_X5_settle ⟨Nat.le_of_ble_eq_true rfl, Nat.le_of_ble_eq_true rfl⟩ (Nat.le_of_ble_eq_true rfl) dX5_addJob_90 (fun r16 M15 H locs h hP hS => ?_)
  refine lv_pop (pc := 93) hx hb dX5_addJob_93 rfl ?_
  refine lv_aload (pc := 94) hx hb dX5_addJob_94 (lv_at hl 0 rfl) ?_
  refine gX5_122 (pc := 96) C hK hP hk4 dX5_addJob_96 ?_
  exact m_iret (v := M15.1 j3 0) (pc := 99) C hr hlk hP hS dX5_addJob_99 h
/-! ForgeHeats$Shop.hasten (IZ)I -/
def wp_X5_hasten (n : Nat) (M : Mem) (i : Nat) (p1 : Int32) (p2 : Bool) (P : Int32 → Mem → Prop) : Prop := m_tp n i 5 ∧ (wp_X5_jobAt n M i p1 (fun j3 M1 => m_tp n j3 3 ∧ (∀ M5 : Mem, M5 = uI M1 j3 6 (bI p2) → (wp_X5_settle n M5 i p1 (fun r7 M6 => P r7 M6)))))
abbrev rm_X5_hasten : Room := { frames := 2, cells := 0, slots := 0, locals := 45 }
set_option maxHeartbeats 4000000 in
set_option maxRecDepth 100000 in
theorem c_X5_hasten {l : Launch} {D : va_G} {cA : Nat → ClassId} {b n : Nat} {M : Mem} {i : Nat} {p1 : Int32} {p2 : Bool} {P : Int32 → Mem → Prop} (h : wp_X5_hasten n M i p1 p2 P) : m_C l D cA b n n M yX5_hasten cX5_hasten 3 (some .int) rm_X5_hasten 0 0 [.ref (b + i), .int p1, .int (bI p2)] (rI P) := by
  refine m_enter (by decide) (Nat.le_of_ble_eq_true rfl) (fun p e s m below meth c C hr hlk hnm hK hP hS ls hl => ?_)
  have hx := C.1
  have hb := C.2.1
  have hl : lv_has ls 3 [(0, .ref (b + i)), (1, .int p1), (2, .int (bI p2))] := hl
  unfold wp_X5_hasten at h
  refine lv_aload_n (pc := 0) hx hb dX5_hasten_0 rfl (lv_at hl 0 rfl) ?_
  refine lv_iload_n (pc := 1) hx hb dX5_hasten_1 rfl (lv_at hl 1 rfl) ?_
  obtain ⟨hk2, h⟩ := h
  refine m_callVR (pc := 2) (y := yX5_jobAt) (κ := 5) (As := [.int p1]) (rest := []) C hK hP hS hl.1 ⟨Nat.zero_le _, Nat.zero_le _⟩ (c_X5_jobAt h) rfl rfl hk2 (by decide) rfl q_363 q_364 q_365 q_2 q_366 ⟨rfl, rfl⟩ yd_X5_jobAt ⟨Nat.le_of_ble_eq_true rfl, Nat.le_of_ble_eq_true rfl⟩ (Nat.le_of_ble_eq_true rfl) dX5_hasten_2 (fun j3 M1 H locs h hP hS => ?_)
  refine lv_iload_n (pc := 5) hx hb dX5_hasten_5 rfl (lv_at hl 2 rfl) ?_
  obtain ⟨hk4, h⟩ := h
  refine pX5_140 (pc := 6) (z := p2) C hK hP hS hk4 dX5_hasten_6 (fun M5 H locs eM5 hP hS => ?_)
  replace h := h M5 eM5
  refine lv_aload_n (pc := 9) hx hb dX5_hasten_9 rfl (lv_at hl 0 rfl) ?_
  refine lv_iload_n (pc := 10) hx hb dX5_hasten_10 rfl (lv_at hl 1 rfl) ?_
  refine m_callVI (pc := 11) (y := yX5_settle) (κ := 5) (As := [.int p1]) (rest := []) C hK hP hS hl.1 ⟨Nat.zero_le _, Nat.zero_le _⟩ (c_X5_settle h) rfl rfl hk2 (by decide) rfl q_612 q_614 q_s12 q_2 q_615 ⟨rfl, rfl⟩ yd_X5_settle ⟨Nat.le_of_ble_eq_true rfl, Nat.le_of_ble_eq_true rfl⟩ (Nat.le_of_ble_eq_true rfl) dX5_hasten_11 (fun r7 M6 H locs h hP hS => ?_)
  exact m_iret (v := r7) (pc := 14) C hr hlk hP hS dX5_hasten_14 h
/-! ForgeHeats$Shop.jobProperty (II)I -/
def wp_X5_jobProperty (n : Nat) (M : Mem) (i : Nat) (p1 : Int32) (p2 : Int32) (P : Int32 → Mem → Prop) : Prop := m_tp n i 5 ∧ (wp_X5_jobAt n M i p1 (fun j3 M1 => ((p2 = 0 → m_tp n j3 3 ∧ (P (M1.1 j3 0) M1)) ∧ (¬ p2 = 0 → ((p2 = 1 → m_tp n j3 3 ∧ (P (M1.1 j3 1) M1)) ∧ (¬ p2 = 1 → ((p2 = 2 → m_tp n j3 3 ∧ (P (M1.1 j3 2) M1)) ∧ (¬ p2 = 2 → ((p2 = 3 → m_tp n j3 3 ∧ (P (M1.1 j3 3) M1)) ∧ (¬ p2 = 3 → ((p2 = 4 → m_tp n j3 3 ∧ (P (M1.1 j3 4) M1)) ∧ (¬ p2 = 4 → ((p2 = 5 → m_tp n j3 3 ∧ (P (M1.1 j3 5) M1)) ∧ (¬ p2 = 5 → ((p2 = 6 → m_tp n j3 3 ∧ (P (bI (if (M1.1 j3 6 != 0) = false then false else true)) M1)) ∧ (¬ p2 = 6 → wp_X5_reasonToWait n M1 i j3 (fun r12 M11 => P r12 M11)))))))))))))))))
abbrev rm_X5_jobProperty : Room := { frames := 3, cells := 0, slots := 0, locals := 71 }
set_option maxHeartbeats 4000000 in
set_option maxRecDepth 100000 in
theorem c_X5_jobProperty {l : Launch} {D : va_G} {cA : Nat → ClassId} {b n : Nat} {M : Mem} {i : Nat} {p1 : Int32} {p2 : Int32} {P : Int32 → Mem → Prop} (h : wp_X5_jobProperty n M i p1 p2 P) : m_C l D cA b n n M yX5_jobProperty cX5_jobProperty 4 (some .int) rm_X5_jobProperty 0 0 [.ref (b + i), .int p1, .int p2] (rI P) := by
  refine m_enter (by decide) (Nat.le_of_ble_eq_true rfl) (fun p e s m below meth c C hr hlk hnm hK hP hS ls hl => ?_)
  have hx := C.1
  have hb := C.2.1
  have hl : lv_has ls 4 [(0, .ref (b + i)), (1, .int p1), (2, .int p2)] := hl
  unfold wp_X5_jobProperty at h
  refine lv_aload_n (pc := 0) hx hb dX5_jobProperty_0 rfl (lv_at hl 0 rfl) ?_
  refine lv_iload_n (pc := 1) hx hb dX5_jobProperty_1 rfl (lv_at hl 1 rfl) ?_
  obtain ⟨hk2, h⟩ := h
  refine m_callVR (pc := 2) (y := yX5_jobAt) (κ := 5) (As := [.int p1]) (rest := []) C hK hP hS hl.1 ⟨Nat.zero_le _, Nat.zero_le _⟩ (c_X5_jobAt h) rfl rfl hk2 (by decide) rfl q_363 q_364 q_365 q_2 q_366 ⟨rfl, rfl⟩ yd_X5_jobAt ⟨Nat.le_of_ble_eq_true rfl, Nat.le_of_ble_eq_true rfl⟩ (Nat.le_of_ble_eq_true rfl) dX5_jobProperty_2 (fun j3 M1 H locs h hP hS => ?_)
  refine lv_astore_n (lv' := [(3, .ref (b + j3)), (0, .ref (b + i)), (1, .int p1), (2, .int p2)]) (pc := 5) hx hb dX5_jobProperty_5 rfl hl (by decide) rfl (fun ls hl => ?_)
  refine lv_iload_n (pc := 6) hx hb dX5_jobProperty_6 rfl (lv_at hl 3 rfl) ?_
  by_cases n7_0 : p2 = 0
  · replace h := h.1 n7_0
    refine m_case (v := 0) (off := 41) (tgt := 48) (pc := 7) hx hb n7_0 dX5_jobProperty_7 (by decide) (by decide) (by decide) (by decide) ?_
    refine lv_aload_n (pc := 48) hx hb dX5_jobProperty_48 rfl (lv_at hl 0 rfl) ?_
    obtain ⟨hk4, h⟩ := h
    refine gX5_122 (pc := 49) C hK hP hk4 dX5_jobProperty_49 ?_
    exact m_iret (v := M1.1 j3 0) (pc := 52) C hr hlk hP hS dX5_jobProperty_52 h
  · replace h := h.2 n7_0
    by_cases n7_1 : p2 = 1
    · replace h := h.1 n7_1
      refine m_case (v := 1) (off := 46) (tgt := 53) (pc := 7) hx hb n7_1 dX5_jobProperty_7 (by decide) (by decide) (by decide) (by decide) ?_
      refine lv_aload_n (pc := 53) hx hb dX5_jobProperty_53 rfl (lv_at hl 0 rfl) ?_
      obtain ⟨hk5, h⟩ := h
      refine gX5_125 (pc := 54) C hK hP hk5 dX5_jobProperty_54 ?_
      exact m_iret (v := M1.1 j3 1) (pc := 57) C hr hlk hP hS dX5_jobProperty_57 h
    · replace h := h.2 n7_1
      by_cases n7_2 : p2 = 2
      · replace h := h.1 n7_2
        refine m_case (v := 2) (off := 51) (tgt := 58) (pc := 7) hx hb n7_2 dX5_jobProperty_7 (by decide) (by decide) (by decide) (by decide) ?_
        refine lv_aload_n (pc := 58) hx hb dX5_jobProperty_58 rfl (lv_at hl 0 rfl) ?_
        obtain ⟨hk6, h⟩ := h
        refine gX5_128 (pc := 59) C hK hP hk6 dX5_jobProperty_59 ?_
        exact m_iret (v := M1.1 j3 2) (pc := 62) C hr hlk hP hS dX5_jobProperty_62 h
      · replace h := h.2 n7_2
        by_cases n7_3 : p2 = 3
        · replace h := h.1 n7_3
          refine m_case (v := 3) (off := 56) (tgt := 63) (pc := 7) hx hb n7_3 dX5_jobProperty_7 (by decide) (by decide) (by decide) (by decide) ?_
          refine lv_aload_n (pc := 63) hx hb dX5_jobProperty_63 rfl (lv_at hl 0 rfl) ?_
          obtain ⟨hk7, h⟩ := h
          refine gX5_131 (pc := 64) C hK hP hk7 dX5_jobProperty_64 ?_
          exact m_iret (v := M1.1 j3 3) (pc := 67) C hr hlk hP hS dX5_jobProperty_67 h
        · replace h := h.2 n7_3
          by_cases n7_4 : p2 = 4
          · replace h := h.1 n7_4
            refine m_case (v := 4) (off := 61) (tgt := 68) (pc := 7) hx hb n7_4 dX5_jobProperty_7 (by decide) (by decide) (by decide) (by decide) ?_
            refine lv_aload_n (pc := 68) hx hb dX5_jobProperty_68 rfl (lv_at hl 0 rfl) ?_
            obtain ⟨hk8, h⟩ := h
            refine gX5_134 (pc := 69) C hK hP hk8 dX5_jobProperty_69 ?_
            exact m_iret (v := M1.1 j3 4) (pc := 72) C hr hlk hP hS dX5_jobProperty_72 h
          · replace h := h.2 n7_4
            by_cases n7_5 : p2 = 5
            · replace h := h.1 n7_5
              refine m_case (v := 5) (off := 66) (tgt := 73) (pc := 7) hx hb n7_5 dX5_jobProperty_7 (by decide) (by decide) (by decide) (by decide) ?_
              refine lv_aload_n (pc := 73) hx hb dX5_jobProperty_73 rfl (lv_at hl 0 rfl) ?_
              obtain ⟨hk9, h⟩ := h
              refine gX5_137 (pc := 74) C hK hP hk9 dX5_jobProperty_74 ?_
              exact m_iret (v := M1.1 j3 5) (pc := 77) C hr hlk hP hS dX5_jobProperty_77 h
            · replace h := h.2 n7_5
              by_cases n7_6 : p2 = 6
              · replace h := h.1 n7_6
                refine m_case (v := 6) (off := 71) (tgt := 78) (pc := 7) hx hb n7_6 dX5_jobProperty_7 (by decide) (by decide) (by decide) (by decide) ?_
                refine lv_aload_n (pc := 78) hx hb dX5_jobProperty_78 rfl (lv_at hl 0 rfl) ?_
                obtain ⟨hk10, h⟩ := h
                refine gX5_140 (pc := 79) C hK hP hk10 dX5_jobProperty_79 ?_
                refine m_joinZ (z := if (M1.1 j3 6 != 0) = false then false else true) (jp := 90) (rest := []) ?_ (fun hJ => ?_)
                rotate_left
                · skip
                  refine lv_if_eq (tgt := 89) (pc := 82) hx hb dX5_jobProperty_82 (by decide) (fun c82 => ?_) (fun c82 => ?_)
                  · skip
                    refine lv_iconst (v := 0) (pc := 89) hx hb dX5_jobProperty_89 (by decide) ?_
                    exact hJ _ false rfl (by rw [if_pos (bZ0 c82)])
                  · skip
                    refine lv_iconst (v := 1) (pc := 85) hx hb dX5_jobProperty_85 (by decide) ?_
                    refine lv_goto (tgt := 90) (pc := 86) hx hb dX5_jobProperty_86 (by decide) ?_
                    exact hJ _ true rfl (by rw [if_neg (by rw [(bZ1 c82)]; decide)])
                exact m_iret (v := bI (if (M1.1 j3 6 != 0) = false then false else true)) (pc := 90) C hr hlk hP hS dX5_jobProperty_90 h
              · replace h := h.2 n7_6
                refine lv_tableOut (tgt := 91) (pc := 7) hx hb dX5_jobProperty_7 (by have i0 := i_ne n7_0; have i1 := i_ne n7_1; have i2 := i_ne n7_2; have i3 := i_ne n7_3; have i4 := i_ne n7_4; have i5 := i_ne n7_5; have i6 := i_ne n7_6; simp only [m_lit] at *; omega) (by decide) ?_
                refine lv_aload_n (pc := 91) hx hb dX5_jobProperty_91 rfl (lv_at hl 1 rfl) ?_
                refine lv_aload_n (pc := 92) hx hb dX5_jobProperty_92 rfl (lv_at hl 0 rfl) ?_
                refine m_callVI (pc := 93) (y := yX5_reasonToWait) (κ := 5) (As := [.ref (b + j3)]) (rest := []) C hK hP hS hl.1 ⟨Nat.zero_le _, Nat.zero_le _⟩ (c_X5_reasonToWait h) rfl rfl hk2 (by decide) rfl q_517 q_519 q_s6 q_2 q_520 ⟨rfl, rfl⟩ yd_X5_reasonToWait ⟨Nat.le_of_ble_eq_true rfl, Nat.le_of_ble_eq_true rfl⟩ (Nat.le_of_ble_eq_true rfl) dX5_jobProperty_93 (fun r12 M11 H locs h hP hS => ?_)
                exact m_iret (v := r12) (pc := 96) C hr hlk hP hS dX5_jobProperty_96 h
/-! ForgeHeats$Shop.passMinute ()V -/
def wp_X5_passMinute (n : Nat) (M : Mem) (i : Nat) (P : Mem → Prop) : Prop := m_tp n i 5 ∧ (∀ M2 : Mem, M2 = uI M i 11 ((M.1 i 11) + 1) → (wp_X5_warmFurnace n M2 i (fun M3 => wp_X5_chargeFurnace n M3 i (fun M5 => ∃ j7 : Nat, M5.2.1 i 4 = some j7 ∧ (m_tp n j7 0 ∧ (((¬ (M5.1 j7 0) = (-1) → ∃ j9 : Nat, M5.2.1 i 4 = some j9 ∧ (m_tp n j9 0 ∧ (wp_X5_placeOf n M5 i (M5.1 j9 0) (fun r12 M11 => wp_X5_workPress n M11 i r12 (fun M13 => wp_X5_tendDies n M13 i (fun M15 => P M15)))))) ∧ ((M5.1 j7 0) = (-1) → wp_X5_loadPress n M5 i (fun M17 => wp_X5_tendDies n M17 i (fun M19 => P M19))))))))))
abbrev rm_X5_passMinute : Room := { frames := 3, cells := 0, slots := 0, locals := 72 }
set_option maxHeartbeats 4000000 in
set_option maxRecDepth 100000 in
theorem c_X5_passMinute {l : Launch} {D : va_G} {cA : Nat → ClassId} {b n : Nat} {M : Mem} {i : Nat} {P : Mem → Prop} (h : wp_X5_passMinute n M i P) : m_C l D cA b n n M yX5_passMinute cX5_passMinute 1 none rm_X5_passMinute 0 0 [.ref (b + i)] (rV P) := by
  refine m_enter (by decide) (Nat.le_of_ble_eq_true rfl) (fun p e s m below meth c C hr hlk hnm hK hP hS ls hl => ?_)
  have hx := C.1
  have hb := C.2.1
  have hl : lv_has ls 1 [(0, .ref (b + i))] := hl
  unfold wp_X5_passMinute at h
  refine lv_aload_n (pc := 0) hx hb dX5_passMinute_0 rfl (lv_at hl 0 rfl) ?_
  refine lv_dup (pc := 1) hx hb dX5_passMinute_1 rfl ?_
  obtain ⟨hk1, h⟩ := h
  refine gX5_107 (pc := 2) C hK hP hk1 dX5_passMinute_2 ?_
  refine lv_iconst (v := 1) (pc := 5) hx hb dX5_passMinute_5 (by decide) ?_
  refine lv_iadd (pc := 6) hx hb dX5_passMinute_6 ?_
  refine pX5_107 (pc := 7) (v := (M.1 i 11) + 1) C hK hP hS hk1 dX5_passMinute_7 (fun M2 H locs eM2 hP hS => ?_)
  replace h := h M2 eM2
  refine lv_aload_n (pc := 10) hx hb dX5_passMinute_10 rfl (lv_at hl 0 rfl) ?_
  refine m_callVV (pc := 11) (y := yX5_warmFurnace) (κ := 5) (As := []) (rest := []) C hK hP hS hl.1 ⟨Nat.zero_le _, Nat.zero_le _⟩ (c_X5_warmFurnace h) rfl rfl hk1 (by decide) rfl q_645 q_647 q_s13 q_2 q_648 ⟨rfl, rfl⟩ yd_X5_warmFurnace ⟨Nat.le_of_ble_eq_true rfl, Nat.le_of_ble_eq_true rfl⟩ (Nat.le_of_ble_eq_true rfl) dX5_passMinute_11 (fun M3 H locs h hP hS => ?_)
  refine lv_aload_n (pc := 14) hx hb dX5_passMinute_14 rfl (lv_at hl 0 rfl) ?_
  refine m_callVV (pc := 15) (y := yX5_chargeFurnace) (κ := 5) (As := []) (rest := []) C hK hP hS hl.1 ⟨Nat.zero_le _, Nat.zero_le _⟩ (c_X5_chargeFurnace h) rfl rfl hk1 (by decide) rfl q_652 q_654 q_s14 q_2 q_655 ⟨rfl, rfl⟩ yd_X5_chargeFurnace ⟨Nat.le_of_ble_eq_true rfl, Nat.le_of_ble_eq_true rfl⟩ (Nat.le_of_ble_eq_true rfl) dX5_passMinute_15 (fun M5 H locs h hP hS => ?_)
  refine lv_aload_n (pc := 18) hx hb dX5_passMinute_18 rfl (lv_at hl 0 rfl) ?_
  obtain ⟨j7, hj7, h⟩ := h
  refine gX5_52 (pc := 19) C hK hP hk1 hj7 dX5_passMinute_19 ?_
  obtain ⟨hk8, h⟩ := h
  refine gX5_159 (pc := 22) C hK hP hk8 dX5_passMinute_22 ?_
  refine lv_iconst (v := -1) (pc := 25) hx hb dX5_passMinute_25 (by decide) ?_
  refine lv_icmp_ne (tgt := 36) (pc := 26) hx hb dX5_passMinute_26 (by decide) (fun c26 => ?_) (fun c26 => ?_)
  · replace h := h.1 c26
    refine lv_aload_n (pc := 36) hx hb dX5_passMinute_36 rfl (lv_at hl 0 rfl) ?_
    refine lv_aload_n (pc := 37) hx hb dX5_passMinute_37 rfl (lv_at hl 0 rfl) ?_
    refine lv_aload_n (pc := 38) hx hb dX5_passMinute_38 rfl (lv_at hl 0 rfl) ?_
    obtain ⟨j9, hj9, h⟩ := h
    refine gX5_52 (pc := 39) C hK hP hk1 hj9 dX5_passMinute_39 ?_
    obtain ⟨hk10, h⟩ := h
    refine gX5_159 (pc := 42) C hK hP hk10 dX5_passMinute_42 ?_
    refine m_callVI (pc := 45) (y := yX5_placeOf) (κ := 5) (As := [.int (M5.1 j9 0)]) (rest := [.ref (b + i)]) C hK hP hS hl.1 ⟨Nat.zero_le _, Nat.zero_le _⟩ (c_X5_placeOf h) rfl rfl hk1 (by decide) rfl q_668 q_588 q_589 q_2 q_590 ⟨rfl, rfl⟩ yd_X5_placeOf ⟨Nat.le_of_ble_eq_true rfl, Nat.le_of_ble_eq_true rfl⟩ (Nat.le_of_ble_eq_true rfl) dX5_passMinute_45 (fun r12 M11 H locs h hP hS => ?_)
    refine m_callVV (pc := 48) (y := yX5_workPress) (κ := 5) (As := [.int r12]) (rest := []) C hK hP hS hl.1 ⟨Nat.zero_le _, Nat.zero_le _⟩ (c_X5_workPress h) rfl rfl hk1 (by decide) rfl q_669 q_671 q_s17 q_2 q_672 ⟨rfl, rfl⟩ yd_X5_workPress ⟨Nat.le_of_ble_eq_true rfl, Nat.le_of_ble_eq_true rfl⟩ (Nat.le_of_ble_eq_true rfl) dX5_passMinute_48 (fun M13 H locs h hP hS => ?_)
    refine lv_aload_n (pc := 51) hx hb dX5_passMinute_51 rfl (lv_at hl 0 rfl) ?_
    refine m_callVV (pc := 52) (y := yX5_tendDies) (κ := 5) (As := []) (rest := []) C hK hP hS hl.1 ⟨Nat.zero_le _, Nat.zero_le _⟩ (c_X5_tendDies h) rfl rfl hk1 (by decide) rfl q_684 q_686 q_s20 q_2 q_687 ⟨rfl, rfl⟩ yd_X5_tendDies ⟨Nat.le_of_ble_eq_true rfl, Nat.le_of_ble_eq_true rfl⟩ (Nat.le_of_ble_eq_true rfl) dX5_passMinute_52 (fun M15 H locs h hP hS => ?_)
    exact m_vret (pc := 55) C hr hlk hP hS dX5_passMinute_55 h
  · replace h := h.2 c26
    refine lv_aload_n (pc := 29) hx hb dX5_passMinute_29 rfl (lv_at hl 0 rfl) ?_
    refine m_callVV (pc := 30) (y := yX5_loadPress) (κ := 5) (As := []) (rest := []) C hK hP hS hl.1 ⟨Nat.zero_le _, Nat.zero_le _⟩ (c_X5_loadPress h) rfl rfl hk1 (by decide) rfl q_660 q_662 q_s16 q_2 q_663 ⟨rfl, rfl⟩ yd_X5_loadPress ⟨Nat.le_of_ble_eq_true rfl, Nat.le_of_ble_eq_true rfl⟩ (Nat.le_of_ble_eq_true rfl) dX5_passMinute_30 (fun M17 H locs h hP hS => ?_)
    refine lv_goto (tgt := 51) (pc := 33) hx hb dX5_passMinute_33 (by decide) ?_
    refine lv_aload_n (pc := 51) hx hb dX5_passMinute_51 rfl (lv_at hl 0 rfl) ?_
    refine m_callVV (pc := 52) (y := yX5_tendDies) (κ := 5) (As := []) (rest := []) C hK hP hS hl.1 ⟨Nat.zero_le _, Nat.zero_le _⟩ (c_X5_tendDies h) rfl rfl hk1 (by decide) rfl q_684 q_686 q_s20 q_2 q_687 ⟨rfl, rfl⟩ yd_X5_tendDies ⟨Nat.le_of_ble_eq_true rfl, Nat.le_of_ble_eq_true rfl⟩ (Nat.le_of_ble_eq_true rfl) dX5_passMinute_52 (fun M19 H locs h hP hS => ?_)
    exact m_vret (pc := 55) C hr hlk hP hS dX5_passMinute_55 h
/-! ForgeHeats$Shop.passMinutes (I)V -/
def wpB_X5_passMinutes_2 (n : Nat) (P : Mem → Prop) (R_ : Mem → Nat → Int32 → Int32 → Prop) (M : Mem) (x0 : Nat) (x1 : Int32) (x2 : Int32) : Prop := ((x1 ≤ x2 → P M) ∧ (¬ x1 ≤ x2 → m_tp n x0 5 ∧ (wp_X5_passMinute n M x0 (fun M1 => ∀ v4 : Int32, v4 = x2 + 1 → (R_ M1 x0 x1 v4)))))
def wpL_X5_passMinutes_2 (n : Nat) (P : Mem → Prop) : Nat → Mem → Nat → Int32 → Int32 → Prop
  | 0 => fun _ _ _ _ => False
  | f + 1 => fun M x0 x1 x2 => wpB_X5_passMinutes_2 n P (wpL_X5_passMinutes_2 n P f) M x0 x1 x2
def wp_X5_passMinutes (n : Nat) (M : Mem) (i : Nat) (p1 : Int32) (P : Mem → Prop) : Prop := ∃ f : Nat, wpL_X5_passMinutes_2 n P f M i p1 0
abbrev rm_X5_passMinutes : Room := { frames := 4, cells := 0, slots := 0, locals := 92 }
set_option maxHeartbeats 4000000 in
set_option maxRecDepth 100000 in
theorem c_X5_passMinutes {l : Launch} {D : va_G} {cA : Nat → ClassId} {b n : Nat} {M : Mem} {i : Nat} {p1 : Int32} {P : Mem → Prop} (h : wp_X5_passMinutes n M i p1 P) : m_C l D cA b n n M yX5_passMinutes cX5_passMinutes 3 none rm_X5_passMinutes 0 0 [.ref (b + i), .int p1] (rV P) := by
  refine m_enter (by decide) (Nat.le_of_ble_eq_true rfl) (fun p e s m below meth c C hr hlk hnm hK hP hS ls hl => ?_)
  have hx := C.1
  have hb := C.2.1
  have hl : lv_has ls 3 [(0, .ref (b + i)), (1, .int p1)] := hl
  have L2 : ∀ f : Nat, ∀ (M : Mem) (H : Heap) (locs : List Loc) (ls : Array Slot) (x0 : Nat) (x1 : Int32) (x2 : Int32), wpL_X5_passMinutes_2 n P f M x0 x1 x2 → m_H D cA b n M H → va_S (m_A b) s.heap H locs → lv_has ls 3 [(0, .ref (b + x0)), (1, .int x1), (2, .int x2)] → W p l e rm_X5_passMinutes s m ([.ref (b + i), .int p1] : List Value).toArray below meth c H locs 0 0 (MQ below (m_Q D cA b n (rV P)) ([.ref (b + i), .int p1] : List Value).toArray s 0 0 (m_A b)) (F0 m 2 ls []) := by
    clear h
    intro f
    induction f with
    | zero => intro M H locs ls x0 x1 x2 h; exact h.elim
    | succ f ih =>
      intro M H locs ls x0 x1 x2 h hP hS hl
      have h : wpB_X5_passMinutes_2 n P (wpL_X5_passMinutes_2 n P f) M x0 x1 x2 := h
      unfold wpB_X5_passMinutes_2 at h
      refine lv_iload_n (pc := 2) hx hb dX5_passMinutes_2 rfl (lv_at hl 2 rfl) ?_
      refine lv_iload_n (pc := 3) hx hb dX5_passMinutes_3 rfl (lv_at hl 1 rfl) ?_
      refine lv_icmp_ge (tgt := 17) (pc := 4) hx hb dX5_passMinutes_4 (by decide) (fun c4 => ?_) (fun c4 => ?_)
      · replace h := h.1 c4
        exact m_vret (pc := 17) C hr hlk hP hS dX5_passMinutes_17 h
      · replace h := h.2 c4
        refine lv_aload_n (pc := 7) hx hb dX5_passMinutes_7 rfl (lv_at hl 0 rfl) ?_
        obtain ⟨hk2, h⟩ := h
        refine m_callVV (pc := 8) (y := yX5_passMinute) (κ := 5) (As := []) (rest := []) C hK hP hS hl.1 ⟨Nat.zero_le _, Nat.zero_le _⟩ (c_X5_passMinute h) rfl rfl hk2 (by decide) rfl q_641 q_642 q_643 q_2 q_644 ⟨rfl, rfl⟩ yd_X5_passMinute ⟨Nat.le_of_ble_eq_true rfl, Nat.le_of_ble_eq_true rfl⟩ (Nat.le_of_ble_eq_true rfl) dX5_passMinutes_8 (fun M1 H locs h hP hS => ?_)
        obtain ⟨v4, ev4⟩ : ∃ y : Int32, y = x2 + 1 := ⟨_, rfl⟩
        replace h := h v4 ev4
        refine lv_iinc (v := v4) (lv' := [(2, .int v4), (0, .ref (b + x0)), (1, .int x1)]) (pc := 11) hx hb dX5_passMinutes_11 hl (k := 2) rfl (by rw [ev4]; rfl) (by decide) rfl (fun ls hl => ?_)
        refine lv_goto (tgt := 2) (pc := 14) hx hb dX5_passMinutes_14 (by decide) ?_
        exact ih _ _ _ _ _ _ _ h hP hS (lv_sub hl [1, 2, 0] rfl)
  unfold wp_X5_passMinutes at h
  refine lv_iconst (v := 0) (pc := 0) hx hb dX5_passMinutes_0 (by decide) ?_
  refine lv_istore_n (lv' := [(2, .int 0), (0, .ref (b + i)), (1, .int p1)]) (pc := 1) hx hb dX5_passMinutes_1 rfl hl (by decide) rfl (fun ls hl => ?_)
  obtain ⟨f, h⟩ := h
  exact L2 f _ _ _ _ _ _ _ h hP hS (lv_sub hl [1, 2, 0] rfl)
end
section
/-! ForgeHeats.isWithin (III)Z -/
def wp_X6_isWithin (n : Nat) (M : Mem) (p1 : Int32) (p2 : Int32) (p3 : Int32) (P : Bool → Mem → Prop) : Prop := P (if p1 < p2 then false else (if p3 < p1 then false else true)) M
abbrev rm_X6_isWithin : Room := { frames := 0, cells := 0, slots := 0, locals := 0 }
set_option maxHeartbeats 4000000 in
set_option maxRecDepth 100000 in
theorem c_X6_isWithin {l : Launch} {D : va_G} {cA : Nat → ClassId} {b n : Nat} {M : Mem} {p1 : Int32} {p2 : Int32} {p3 : Int32} {P : Bool → Mem → Prop} (h : wp_X6_isWithin n M p1 p2 p3 P) : m_C l D cA b n n M yX6_isWithin cX6_isWithin 3 (some .boolean) rm_X6_isWithin 0 0 [.int p1, .int p2, .int p3] (rZ P) := by
  refine m_enter (by decide) (Nat.le_of_ble_eq_true rfl) (fun p e s m below meth c C hr hlk hnm hK hP hS ls hl => ?_)
  have hx := C.1
  have hb := C.2.1
  have hl : lv_has ls 3 [(0, .int p1), (1, .int p2), (2, .int p3)] := hl
  unfold wp_X6_isWithin at h
  refine lv_iload_n (pc := 0) hx hb dX6_isWithin_0 rfl (lv_at hl 0 rfl) ?_
  refine lv_iload_n (pc := 1) hx hb dX6_isWithin_1 rfl (lv_at hl 1 rfl) ?_
  refine m_joinZ (z := if p1 < p2 then false else (if p3 < p1 then false else true)) (jp := 15) (rest := []) ?_ (fun hJ => ?_)
  rotate_left
  · skip
    refine lv_icmp_lt (tgt := 14) (pc := 2) hx hb dX6_isWithin_2 (by decide) (fun c2 => ?_) (fun c2 => ?_)
    · skip
      refine lv_iconst (v := 0) (pc := 14) hx hb dX6_isWithin_14 (by decide) ?_
      exact hJ _ false rfl (by rw [if_pos c2])
    · skip
      refine lv_iload_n (pc := 5) hx hb dX6_isWithin_5 rfl (lv_at hl 0 rfl) ?_
      refine lv_iload_n (pc := 6) hx hb dX6_isWithin_6 rfl (lv_at hl 2 rfl) ?_
      refine lv_icmp_gt (tgt := 14) (pc := 7) hx hb dX6_isWithin_7 (by decide) (fun c7 => ?_) (fun c7 => ?_)
      · skip
        refine lv_iconst (v := 0) (pc := 14) hx hb dX6_isWithin_14 (by decide) ?_
        exact hJ _ false rfl (by rw [if_neg c2, if_pos c7])
      · skip
        refine lv_iconst (v := 1) (pc := 10) hx hb dX6_isWithin_10 (by decide) ?_
        refine lv_goto (tgt := 15) (pc := 11) hx hb dX6_isWithin_11 (by decide) ?_
        exact hJ _ true rfl (by rw [if_neg c2, if_neg c7])
  exact m_zret (v := if p1 < p2 then false else (if p3 < p1 then false else true)) (pc := 15) C hr hlk hP hS dX6_isWithin_15 h
/-! ForgeHeats.leastValue (I)I -/
def wp_X6_leastValue (n : Nat) (M : Mem) (p1 : Int32) (P : Int32 → Mem → Prop) : Prop := ((p1 = 0 → P 10 M) ∧ (¬ p1 = 0 → ((p1 = 2 → P 0 M) ∧ (¬ p1 = 2 → P 1 M))))
abbrev rm_X6_leastValue : Room := { frames := 0, cells := 0, slots := 0, locals := 0 }
set_option maxHeartbeats 4000000 in
set_option maxRecDepth 100000 in
theorem c_X6_leastValue {l : Launch} {D : va_G} {cA : Nat → ClassId} {b n : Nat} {M : Mem} {p1 : Int32} {P : Int32 → Mem → Prop} (h : wp_X6_leastValue n M p1 P) : m_C l D cA b n n M yX6_leastValue cX6_leastValue 1 (some .int) rm_X6_leastValue 0 0 [.int p1] (rI P) := by
  refine m_enter (by decide) (Nat.le_of_ble_eq_true rfl) (fun p e s m below meth c C hr hlk hnm hK hP hS ls hl => ?_)
  have hx := C.1
  have hb := C.2.1
  have hl : lv_has ls 1 [(0, .int p1)] := hl
  unfold wp_X6_leastValue at h
  refine lv_iload_n (pc := 0) hx hb dX6_leastValue_0 rfl (lv_at hl 0 rfl) ?_
  by_cases n1_0 : p1 = 0
  · replace h := h.1 n1_0
    refine m_lcase (v := 0) (tgt := 28) (pc := 1) (off := 27) hx hb n1_0 dX6_leastValue_1 (by decide) (by decide) (by decide) ?_
    refine lv_bipush (v := 10) (pc := 28) hx hb dX6_leastValue_28 (by decide) ?_
    exact m_iret (v := 10) (pc := 30) C hr hlk hP hS dX6_leastValue_30 h
  · replace h := h.2 n1_0
    by_cases n1_1 : p1 = 2
    · replace h := h.1 n1_1
      refine m_lcase (v := 2) (tgt := 31) (pc := 1) (off := 30) hx hb n1_1 dX6_leastValue_1 (by decide) (by decide) (by decide) ?_
      refine lv_iconst (v := 0) (pc := 31) hx hb dX6_leastValue_31 (by decide) ?_
      exact m_iret (v := 0) (pc := 32) C hr hlk hP hS dX6_leastValue_32 h
    · replace h := h.2 n1_1
      refine lv_lookup (off := 32) (tgt := 33) (pc := 1) hx hb dX6_leastValue_1 (by decide) (by have i0 := i_ne n1_0; have i1 := i_ne n1_1; simp only [m_lit] at *; simp [Op.lookupswitch.offset, Ne.symm i0, Ne.symm i1]) (by decide) ?_
      refine lv_iconst (v := 1) (pc := 33) hx hb dX6_leastValue_33 (by decide) ?_
      exact m_iret (v := 1) (pc := 34) C hr hlk hP hS dX6_leastValue_34 h
/-! ForgeHeats.mostValue (I)I -/
def wp_X6_mostValue (n : Nat) (M : Mem) (p1 : Int32) (P : Int32 → Mem → Prop) : Prop := ((p1 = 0 → P 300 M) ∧ (¬ p1 = 0 → ((p1 = 1 → P 200 M) ∧ (¬ p1 = 1 → ((p1 = 2 → P 3 M) ∧ (¬ p1 = 2 → P 30 M))))))
abbrev rm_X6_mostValue : Room := { frames := 0, cells := 0, slots := 0, locals := 0 }
set_option maxHeartbeats 4000000 in
set_option maxRecDepth 100000 in
theorem c_X6_mostValue {l : Launch} {D : va_G} {cA : Nat → ClassId} {b n : Nat} {M : Mem} {p1 : Int32} {P : Int32 → Mem → Prop} (h : wp_X6_mostValue n M p1 P) : m_C l D cA b n n M yX6_mostValue cX6_mostValue 1 (some .int) rm_X6_mostValue 0 0 [.int p1] (rI P) := by
  refine m_enter (by decide) (Nat.le_of_ble_eq_true rfl) (fun p e s m below meth c C hr hlk hnm hK hP hS ls hl => ?_)
  have hx := C.1
  have hb := C.2.1
  have hl : lv_has ls 1 [(0, .int p1)] := hl
  unfold wp_X6_mostValue at h
  refine lv_iload_n (pc := 0) hx hb dX6_mostValue_0 rfl (lv_at hl 0 rfl) ?_
  by_cases n1_0 : p1 = 0
  · replace h := h.1 n1_0
    refine m_case (v := 0) (off := 27) (tgt := 28) (pc := 1) hx hb n1_0 dX6_mostValue_1 (by decide) (by decide) (by decide) (by decide) ?_
    refine lv_sipush (v := 300) (pc := 28) hx hb dX6_mostValue_28 (by decide) ?_
    exact m_iret (v := 300) (pc := 31) C hr hlk hP hS dX6_mostValue_31 h
  · replace h := h.2 n1_0
    by_cases n1_1 : p1 = 1
    · replace h := h.1 n1_1
      refine m_case (v := 1) (off := 31) (tgt := 32) (pc := 1) hx hb n1_1 dX6_mostValue_1 (by decide) (by decide) (by decide) (by decide) ?_
      refine lv_sipush (v := 200) (pc := 32) hx hb dX6_mostValue_32 (by decide) ?_
      exact m_iret (v := 200) (pc := 35) C hr hlk hP hS dX6_mostValue_35 h
    · replace h := h.2 n1_1
      by_cases n1_2 : p1 = 2
      · replace h := h.1 n1_2
        refine m_case (v := 2) (off := 35) (tgt := 36) (pc := 1) hx hb n1_2 dX6_mostValue_1 (by decide) (by decide) (by decide) (by decide) ?_
        refine lv_iconst (v := 3) (pc := 36) hx hb dX6_mostValue_36 (by decide) ?_
        exact m_iret (v := 3) (pc := 37) C hr hlk hP hS dX6_mostValue_37 h
      · replace h := h.2 n1_2
        refine lv_tableOut (tgt := 38) (pc := 1) hx hb dX6_mostValue_1 (by have i0 := i_ne n1_0; have i1 := i_ne n1_1; have i2 := i_ne n1_2; simp only [m_lit] at *; omega) (by decide) ?_
        refine lv_bipush (v := 30) (pc := 38) hx hb dX6_mostValue_38 (by decide) ?_
        exact m_iret (v := 30) (pc := 40) C hr hlk hP hS dX6_mostValue_40 h
/-! ForgeHeats.pastAt (I)LForgeHeats$Shop; -/
def wp_X6_pastAt (n : Nat) (M : Mem) (i : Nat) (p1 : Int32) (P : Option Nat → Mem → Prop) : Prop := ((p1 < 0 → P none M) ∧ (¬ p1 < 0 → m_tp n i 6 ∧ (∃ j2 : Nat, M.2.1 i 2 = some j2 ∧ (m_tp n j2 15 ∧ ((((nI (m_len j2)) ≤ p1 → P none M) ∧ (¬ (nI (m_len j2)) ≤ p1 → ∃ j4 : Nat, M.2.1 i 2 = some j4 ∧ (m_tp n j4 15 ∧ (vp_in p1 (m_len j4) ∧ (∃ j7 : Nat, M.2.1 j4 p1.toNatClampNeg = some j7 ∧ (P (some j7) M)))))))))))
abbrev rm_X6_pastAt : Room := { frames := 0, cells := 0, slots := 0, locals := 0 }
set_option maxHeartbeats 4000000 in
set_option maxRecDepth 100000 in
theorem c_X6_pastAt {l : Launch} {D : va_G} {cA : Nat → ClassId} {b n : Nat} {M : Mem} {i : Nat} {p1 : Int32} {P : Option Nat → Mem → Prop} (h : wp_X6_pastAt n M i p1 P) : m_C l D cA b n n M yX6_pastAt cX6_pastAt 2 (some (.object "ForgeHeats$Shop")) rm_X6_pastAt 0 0 [.ref (b + i), .int p1] (rO b P) := by
  refine m_enter (by decide) (Nat.le_of_ble_eq_true rfl) (fun p e s m below meth c C hr hlk hnm hK hP hS ls hl => ?_)
  have hx := C.1
  have hb := C.2.1
  have hl : lv_has ls 2 [(0, .ref (b + i)), (1, .int p1)] := hl
  unfold wp_X6_pastAt at h
  refine lv_iload_n (pc := 0) hx hb dX6_pastAt_0 rfl (lv_at hl 1 rfl) ?_
  refine lv_if_lt (tgt := 22) (pc := 1) hx hb dX6_pastAt_1 (by decide) (fun c1 => ?_) (fun c1 => ?_)
  · replace h := h.1 c1
    refine lv_null (pc := 22) hx hb dX6_pastAt_22 ?_
    exact m_oret (v := none) (pc := 23) C hr hlk hP hS dX6_pastAt_23 h
  · replace h := h.2 c1
    refine lv_iload_n (pc := 4) hx hb dX6_pastAt_4 rfl (lv_at hl 1 rfl) ?_
    refine lv_aload_n (pc := 5) hx hb dX6_pastAt_5 rfl (lv_at hl 0 rfl) ?_
    obtain ⟨hk1, h⟩ := h
    obtain ⟨j2, hj2, h⟩ := h
    refine gX6_19 (pc := 6) C hK hP hk1 hj2 dX6_pastAt_6 ?_
    obtain ⟨hk3, h⟩ := h
    refine m_alen (pc := 9) (κ := 15) C hK hP hk3 (by decide) rfl dX6_pastAt_9 ?_
    refine lv_icmp_ge (tgt := 22) (pc := 10) hx hb dX6_pastAt_10 (by decide) (fun c10 => ?_) (fun c10 => ?_)
    · replace h := h.1 c10
      refine lv_null (pc := 22) hx hb dX6_pastAt_22 ?_
      exact m_oret (v := none) (pc := 23) C hr hlk hP hS dX6_pastAt_23 h
    · replace h := h.2 c10
      refine lv_aload_n (pc := 13) hx hb dX6_pastAt_13 rfl (lv_at hl 0 rfl) ?_
      obtain ⟨j4, hj4, h⟩ := h
      refine gX6_19 (pc := 14) C hK hP hk1 hj4 dX6_pastAt_14 ?_
      refine lv_iload_n (pc := 17) hx hb dX6_pastAt_17 rfl (lv_at hl 1 rfl) ?_
      obtain ⟨hk5, h⟩ := h
      obtain ⟨hi6, h⟩ := h
      obtain ⟨j7, hj7, h⟩ := h
      refine m_aldq (pc := 18) (κ := 15) C hK hP hk5 (by decide) rfl hi6 hj7 dX6_pastAt_18 ?_
      refine lv_goto (tgt := 23) (pc := 19) hx hb dX6_pastAt_19 (by decide) ?_
      exact m_oret (v := some j7) (pc := 23) C hr hlk hP hS dX6_pastAt_23 h
/-! ForgeHeats.numberOf (I)I -/
def wp_X6_numberOf (n : Nat) (M : Mem) (i : Nat) (p1 : Int32) (P : Int32 → Mem → Prop) : Prop := ((p1 = 0 → m_tp n i 6 ∧ (∃ j2 : Nat, M.2.1 i 0 = some j2 ∧ (m_tp n j2 5 ∧ (P (M.1 j2 11) M)))) ∧ (¬ p1 = 0 → ((p1 = 1 → m_tp n i 6 ∧ (∃ j5 : Nat, M.2.1 i 0 = some j5 ∧ (m_tp n j5 5 ∧ (P (M.1 j5 5) M)))) ∧ (¬ p1 = 1 → ((p1 = 2 → m_tp n i 6 ∧ (∃ j8 : Nat, M.2.1 i 0 = some j8 ∧ (m_tp n j8 5 ∧ (wp_X5_countRushJobs n M j8 (fun r11 M9 => P r11 M9))))) ∧ (¬ p1 = 2 → ((p1 = 3 → m_tp n i 6 ∧ (∃ j13 : Nat, M.2.1 i 0 = some j13 ∧ (m_tp n j13 5 ∧ (wp_X5_countInFurnace n M j13 (fun r16 M14 => P r16 M14))))) ∧ (¬ p1 = 3 → ((p1 = 4 → m_tp n i 6 ∧ (∃ j18 : Nat, M.2.1 i 0 = some j18 ∧ (m_tp n j18 5 ∧ (wp_X5_countMade n M j18 (fun r21 M19 => P r21 M19))))) ∧ (¬ p1 = 4 → ((p1 = 5 → m_tp n i 6 ∧ (∃ j23 : Nat, M.2.1 i 0 = some j23 ∧ (m_tp n j23 5 ∧ (wp_X5_countScrap n M j23 (fun r26 M24 => P r26 M24))))) ∧ (¬ p1 = 5 → ((p1 = 6 → m_tp n i 6 ∧ (∃ j28 : Nat, M.2.1 i 0 = some j28 ∧ (m_tp n j28 5 ∧ (P (M.1 j28 12) M)))) ∧ (¬ p1 = 6 → ((p1 = 7 → m_tp n i 6 ∧ (∃ j31 : Nat, M.2.1 i 0 = some j31 ∧ (m_tp n j31 5 ∧ (P (M.1 j31 13) M)))) ∧ (¬ p1 = 7 → ((p1 = 8 → m_tp n i 6 ∧ (∃ j34 : Nat, M.2.1 i 0 = some j34 ∧ (m_tp n j34 5 ∧ (P (M.1 j34 14) M)))) ∧ (¬ p1 = 8 → ((p1 = 9 → m_tp n i 6 ∧ (∃ j37 : Nat, M.2.1 i 0 = some j37 ∧ (m_tp n j37 5 ∧ (P (M.1 j37 15) M)))) ∧ (¬ p1 = 9 → ((p1 = 10 → m_tp n i 6 ∧ (∃ j40 : Nat, M.2.1 i 0 = some j40 ∧ (m_tp n j40 5 ∧ (wp_X5_dieBeingGround n M j40 (fun r43 M41 => P r43 M41))))) ∧ (¬ p1 = 10 → m_tp n i 6 ∧ (P (M.1 i 3) M)))))))))))))))))))))))
abbrev rm_X6_numberOf : Room := { frames := 2, cells := 0, slots := 0, locals := 44 }
set_option maxHeartbeats 4000000 in
set_option maxRecDepth 100000 in
theorem c_X6_numberOf {l : Launch} {D : va_G} {cA : Nat → ClassId} {b n : Nat} {M : Mem} {i : Nat} {p1 : Int32} {P : Int32 → Mem → Prop} (h : wp_X6_numberOf n M i p1 P) : m_C l D cA b n n M yX6_numberOf cX6_numberOf 2 (some .int) rm_X6_numberOf 0 0 [.ref (b + i), .int p1] (rI P) := by
  refine m_enter (by decide) (Nat.le_of_ble_eq_true rfl) (fun p e s m below meth c C hr hlk hnm hK hP hS ls hl => ?_)
  have hx := C.1
  have hb := C.2.1
  have hl : lv_has ls 2 [(0, .ref (b + i)), (1, .int p1)] := hl
  unfold wp_X6_numberOf at h
  refine lv_iload_n (pc := 0) hx hb dX6_numberOf_0 rfl (lv_at hl 1 rfl) ?_
  by_cases n1_0 : p1 = 0
  · replace h := h.1 n1_0
    refine m_case (v := 0) (off := 59) (tgt := 60) (pc := 1) hx hb n1_0 dX6_numberOf_1 (by decide) (by decide) (by decide) (by decide) ?_
    refine lv_aload_n (pc := 60) hx hb dX6_numberOf_60 rfl (lv_at hl 0 rfl) ?_
    obtain ⟨hk1, h⟩ := h
    obtain ⟨j2, hj2, h⟩ := h
    refine gX6_10 (pc := 61) C hK hP hk1 hj2 dX6_numberOf_61 ?_
    obtain ⟨hk3, h⟩ := h
    refine gX6_154 (pc := 64) C hK hP hk3 dX6_numberOf_64 ?_
    exact m_iret (v := M.1 j2 11) (pc := 67) C hr hlk hP hS dX6_numberOf_67 h
  · replace h := h.2 n1_0
    by_cases n1_1 : p1 = 1
    · replace h := h.1 n1_1
      refine m_case (v := 1) (off := 67) (tgt := 68) (pc := 1) hx hb n1_1 dX6_numberOf_1 (by decide) (by decide) (by decide) (by decide) ?_
      refine lv_aload_n (pc := 68) hx hb dX6_numberOf_68 rfl (lv_at hl 0 rfl) ?_
      obtain ⟨hk4, h⟩ := h
      obtain ⟨j5, hj5, h⟩ := h
      refine gX6_10 (pc := 69) C hK hP hk4 hj5 dX6_numberOf_69 ?_
      obtain ⟨hk6, h⟩ := h
      refine gX6_113 (pc := 72) C hK hP hk6 dX6_numberOf_72 ?_
      exact m_iret (v := M.1 j5 5) (pc := 75) C hr hlk hP hS dX6_numberOf_75 h
    · replace h := h.2 n1_1
      by_cases n1_2 : p1 = 2
      · replace h := h.1 n1_2
        refine m_case (v := 2) (off := 75) (tgt := 76) (pc := 1) hx hb n1_2 dX6_numberOf_1 (by decide) (by decide) (by decide) (by decide) ?_
        refine lv_aload_n (pc := 76) hx hb dX6_numberOf_76 rfl (lv_at hl 0 rfl) ?_
        obtain ⟨hk7, h⟩ := h
        obtain ⟨j8, hj8, h⟩ := h
        refine gX6_10 (pc := 77) C hK hP hk7 hj8 dX6_numberOf_77 ?_
        obtain ⟨hk10, h⟩ := h
        refine m_callVI (pc := 80) (y := yX5_countRushJobs) (κ := 5) (As := []) (rest := []) C hK hP hS hl.1 ⟨Nat.zero_le _, Nat.zero_le _⟩ (c_X5_countRushJobs h) rfl rfl hk10 (by decide) rfl q_410 q_411 q_412 q_2 q_413 ⟨rfl, rfl⟩ yd_X5_countRushJobs ⟨Nat.le_of_ble_eq_true rfl, Nat.le_of_ble_eq_true rfl⟩ (Nat.le_of_ble_eq_true rfl) dX6_numberOf_80 (fun r11 M9 H locs h hP hS => ?_)
        exact m_iret (v := r11) (pc := 83) C hr hlk hP hS dX6_numberOf_83 h
      · replace h := h.2 n1_2
        by_cases n1_3 : p1 = 3
        · replace h := h.1 n1_3
          refine m_case (v := 3) (off := 83) (tgt := 84) (pc := 1) hx hb n1_3 dX6_numberOf_1 (by decide) (by decide) (by decide) (by decide) ?_
          refine lv_aload_n (pc := 84) hx hb dX6_numberOf_84 rfl (lv_at hl 0 rfl) ?_
          obtain ⟨hk12, h⟩ := h
          obtain ⟨j13, hj13, h⟩ := h
          refine gX6_10 (pc := 85) C hK hP hk12 hj13 dX6_numberOf_85 ?_
          obtain ⟨hk15, h⟩ := h
          refine m_callVI (pc := 88) (y := yX5_countInFurnace) (κ := 5) (As := []) (rest := []) C hK hP hS hl.1 ⟨Nat.zero_le _, Nat.zero_le _⟩ (c_X5_countInFurnace h) rfl rfl hk15 (by decide) rfl q_414 q_415 q_416 q_2 q_417 ⟨rfl, rfl⟩ yd_X5_countInFurnace ⟨Nat.le_of_ble_eq_true rfl, Nat.le_of_ble_eq_true rfl⟩ (Nat.le_of_ble_eq_true rfl) dX6_numberOf_88 (fun r16 M14 H locs h hP hS => ?_)
          exact m_iret (v := r16) (pc := 91) C hr hlk hP hS dX6_numberOf_91 h
        · replace h := h.2 n1_3
          by_cases n1_4 : p1 = 4
          · replace h := h.1 n1_4
            refine m_case (v := 4) (off := 91) (tgt := 92) (pc := 1) hx hb n1_4 dX6_numberOf_1 (by decide) (by decide) (by decide) (by decide) ?_
            refine lv_aload_n (pc := 92) hx hb dX6_numberOf_92 rfl (lv_at hl 0 rfl) ?_
            obtain ⟨hk17, h⟩ := h
            obtain ⟨j18, hj18, h⟩ := h
            refine gX6_10 (pc := 93) C hK hP hk17 hj18 dX6_numberOf_93 ?_
            obtain ⟨hk20, h⟩ := h
            refine m_callVI (pc := 96) (y := yX5_countMade) (κ := 5) (As := []) (rest := []) C hK hP hS hl.1 ⟨Nat.zero_le _, Nat.zero_le _⟩ (c_X5_countMade h) rfl rfl hk20 (by decide) rfl q_418 q_419 q_420 q_2 q_421 ⟨rfl, rfl⟩ yd_X5_countMade ⟨Nat.le_of_ble_eq_true rfl, Nat.le_of_ble_eq_true rfl⟩ (Nat.le_of_ble_eq_true rfl) dX6_numberOf_96 (fun r21 M19 H locs h hP hS => ?_)
            exact m_iret (v := r21) (pc := 99) C hr hlk hP hS dX6_numberOf_99 h
          · replace h := h.2 n1_4
            by_cases n1_5 : p1 = 5
            · replace h := h.1 n1_5
              refine m_case (v := 5) (off := 99) (tgt := 100) (pc := 1) hx hb n1_5 dX6_numberOf_1 (by decide) (by decide) (by decide) (by decide) ?_
              refine lv_aload_n (pc := 100) hx hb dX6_numberOf_100 rfl (lv_at hl 0 rfl) ?_
              obtain ⟨hk22, h⟩ := h
              obtain ⟨j23, hj23, h⟩ := h
              refine gX6_10 (pc := 101) C hK hP hk22 hj23 dX6_numberOf_101 ?_
              obtain ⟨hk25, h⟩ := h
              refine m_callVI (pc := 104) (y := yX5_countScrap) (κ := 5) (As := []) (rest := []) C hK hP hS hl.1 ⟨Nat.zero_le _, Nat.zero_le _⟩ (c_X5_countScrap h) rfl rfl hk25 (by decide) rfl q_422 q_423 q_424 q_2 q_425 ⟨rfl, rfl⟩ yd_X5_countScrap ⟨Nat.le_of_ble_eq_true rfl, Nat.le_of_ble_eq_true rfl⟩ (Nat.le_of_ble_eq_true rfl) dX6_numberOf_104 (fun r26 M24 H locs h hP hS => ?_)
              exact m_iret (v := r26) (pc := 107) C hr hlk hP hS dX6_numberOf_107 h
            · replace h := h.2 n1_5
              by_cases n1_6 : p1 = 6
              · replace h := h.1 n1_6
                refine m_case (v := 6) (off := 107) (tgt := 108) (pc := 1) hx hb n1_6 dX6_numberOf_1 (by decide) (by decide) (by decide) (by decide) ?_
                refine lv_aload_n (pc := 108) hx hb dX6_numberOf_108 rfl (lv_at hl 0 rfl) ?_
                obtain ⟨hk27, h⟩ := h
                obtain ⟨j28, hj28, h⟩ := h
                refine gX6_10 (pc := 109) C hK hP hk27 hj28 dX6_numberOf_109 ?_
                obtain ⟨hk29, h⟩ := h
                refine gX6_309 (pc := 112) C hK hP hk29 dX6_numberOf_112 ?_
                exact m_iret (v := M.1 j28 12) (pc := 115) C hr hlk hP hS dX6_numberOf_115 h
              · replace h := h.2 n1_6
                by_cases n1_7 : p1 = 7
                · replace h := h.1 n1_7
                  refine m_case (v := 7) (off := 115) (tgt := 116) (pc := 1) hx hb n1_7 dX6_numberOf_1 (by decide) (by decide) (by decide) (by decide) ?_
                  refine lv_aload_n (pc := 116) hx hb dX6_numberOf_116 rfl (lv_at hl 0 rfl) ?_
                  obtain ⟨hk30, h⟩ := h
                  obtain ⟨j31, hj31, h⟩ := h
                  refine gX6_10 (pc := 117) C hK hP hk30 hj31 dX6_numberOf_117 ?_
                  obtain ⟨hk32, h⟩ := h
                  refine gX6_310 (pc := 120) C hK hP hk32 dX6_numberOf_120 ?_
                  exact m_iret (v := M.1 j31 13) (pc := 123) C hr hlk hP hS dX6_numberOf_123 h
                · replace h := h.2 n1_7
                  by_cases n1_8 : p1 = 8
                  · replace h := h.1 n1_8
                    refine m_case (v := 8) (off := 123) (tgt := 124) (pc := 1) hx hb n1_8 dX6_numberOf_1 (by decide) (by decide) (by decide) (by decide) ?_
                    refine lv_aload_n (pc := 124) hx hb dX6_numberOf_124 rfl (lv_at hl 0 rfl) ?_
                    obtain ⟨hk33, h⟩ := h
                    obtain ⟨j34, hj34, h⟩ := h
                    refine gX6_10 (pc := 125) C hK hP hk33 hj34 dX6_numberOf_125 ?_
                    obtain ⟨hk35, h⟩ := h
                    refine gX6_313 (pc := 128) C hK hP hk35 dX6_numberOf_128 ?_
                    exact m_iret (v := M.1 j34 14) (pc := 131) C hr hlk hP hS dX6_numberOf_131 h
                  · replace h := h.2 n1_8
                    by_cases n1_9 : p1 = 9
                    · replace h := h.1 n1_9
                      refine m_case (v := 9) (off := 131) (tgt := 132) (pc := 1) hx hb n1_9 dX6_numberOf_1 (by decide) (by decide) (by decide) (by decide) ?_
                      refine lv_aload_n (pc := 132) hx hb dX6_numberOf_132 rfl (lv_at hl 0 rfl) ?_
                      obtain ⟨hk36, h⟩ := h
                      obtain ⟨j37, hj37, h⟩ := h
                      refine gX6_10 (pc := 133) C hK hP hk36 hj37 dX6_numberOf_133 ?_
                      obtain ⟨hk38, h⟩ := h
                      refine gX6_316 (pc := 136) C hK hP hk38 dX6_numberOf_136 ?_
                      exact m_iret (v := M.1 j37 15) (pc := 139) C hr hlk hP hS dX6_numberOf_139 h
                    · replace h := h.2 n1_9
                      by_cases n1_10 : p1 = 10
                      · replace h := h.1 n1_10
                        refine m_case (v := 10) (off := 139) (tgt := 140) (pc := 1) hx hb n1_10 dX6_numberOf_1 (by decide) (by decide) (by decide) (by decide) ?_
                        refine lv_aload_n (pc := 140) hx hb dX6_numberOf_140 rfl (lv_at hl 0 rfl) ?_
                        obtain ⟨hk39, h⟩ := h
                        obtain ⟨j40, hj40, h⟩ := h
                        refine gX6_10 (pc := 141) C hK hP hk39 hj40 dX6_numberOf_141 ?_
                        obtain ⟨hk42, h⟩ := h
                        refine m_callVI (pc := 144) (y := yX5_dieBeingGround) (κ := 5) (As := []) (rest := []) C hK hP hS hl.1 ⟨Nat.zero_le _, Nat.zero_le _⟩ (c_X5_dieBeingGround h) rfl rfl hk42 (by decide) rfl q_426 q_427 q_428 q_2 q_429 ⟨rfl, rfl⟩ yd_X5_dieBeingGround ⟨Nat.le_of_ble_eq_true rfl, Nat.le_of_ble_eq_true rfl⟩ (Nat.le_of_ble_eq_true rfl) dX6_numberOf_144 (fun r43 M41 H locs h hP hS => ?_)
                        exact m_iret (v := r43) (pc := 147) C hr hlk hP hS dX6_numberOf_147 h
                      · replace h := h.2 n1_10
                        refine lv_tableOut (tgt := 148) (pc := 1) hx hb dX6_numberOf_1 (by have i0 := i_ne n1_0; have i1 := i_ne n1_1; have i2 := i_ne n1_2; have i3 := i_ne n1_3; have i4 := i_ne n1_4; have i5 := i_ne n1_5; have i6 := i_ne n1_6; have i7 := i_ne n1_7; have i8 := i_ne n1_8; have i9 := i_ne n1_9; have i10 := i_ne n1_10; simp only [m_lit] at *; omega) (by decide) ?_
                        refine lv_aload_n (pc := 148) hx hb dX6_numberOf_148 rfl (lv_at hl 0 rfl) ?_
                        obtain ⟨hk44, h⟩ := h
                        refine gX6_212 (pc := 149) C hK hP hk44 dX6_numberOf_149 ?_
                        exact m_iret (v := M.1 i 3) (pc := 152) C hr hlk hP hS dX6_numberOf_152 h
/-! ForgeHeats.shareMade ()D -/
def wp_X6_shareMade (n : Nat) (M : Mem) (i : Nat) (P : UInt64 → Mem → Prop) : Prop := m_tp n i 6 ∧ (∃ j2 : Nat, M.2.1 i 0 = some j2 ∧ (m_tp n j2 5 ∧ (wp_X5_countMade n M j2 (fun r5 M3 => ∃ j6 : Nat, M3.2.1 i 0 = some j6 ∧ (m_tp n j6 5 ∧ (wp_X5_countScrap n M3 j6 (fun r9 M7 => ∀ v10 : Int32, v10 = (r5 + r9) → (((¬ v10 = 0 → vf_n64 (FP.ddiv (FP.i2d r5) (FP.i2d v10)) ∧ (P (FP.ddiv (FP.i2d r5) (FP.i2d v10)) M7)) ∧ (v10 = 0 → P (FP.dconst1) M7))))))))))
abbrev rm_X6_shareMade : Room := { frames := 2, cells := 0, slots := 0, locals := 44 }
set_option maxHeartbeats 4000000 in
set_option maxRecDepth 100000 in
theorem c_X6_shareMade {l : Launch} {D : va_G} {cA : Nat → ClassId} {b n : Nat} {M : Mem} {i : Nat} {P : UInt64 → Mem → Prop} (h : wp_X6_shareMade n M i P) : m_C l D cA b n n M yX6_shareMade cX6_shareMade 3 (some .double) rm_X6_shareMade 0 0 [.ref (b + i)] (rD P) := by
  refine m_enter (by decide) (Nat.le_of_ble_eq_true rfl) (fun p e s m below meth c C hr hlk hnm hK hP hS ls hl => ?_)
  have hx := C.1
  have hb := C.2.1
  have hl : lv_has ls 3 [(0, .ref (b + i))] := hl
  unfold wp_X6_shareMade at h
  refine lv_aload_n (pc := 0) hx hb dX6_shareMade_0 rfl (lv_at hl 0 rfl) ?_
  obtain ⟨hk1, h⟩ := h
  obtain ⟨j2, hj2, h⟩ := h
  refine gX6_10 (pc := 1) C hK hP hk1 hj2 dX6_shareMade_1 ?_
  obtain ⟨hk4, h⟩ := h
  refine m_callVI (pc := 4) (y := yX5_countMade) (κ := 5) (As := []) (rest := []) C hK hP hS hl.1 ⟨Nat.zero_le _, Nat.zero_le _⟩ (c_X5_countMade h) rfl rfl hk4 (by decide) rfl q_418 q_419 q_420 q_2 q_421 ⟨rfl, rfl⟩ yd_X5_countMade ⟨Nat.le_of_ble_eq_true rfl, Nat.le_of_ble_eq_true rfl⟩ (Nat.le_of_ble_eq_true rfl) dX6_shareMade_4 (fun r5 M3 H locs h hP hS => ?_)
  refine lv_istore_n (lv' := [(1, .int r5), (0, .ref (b + i))]) (pc := 7) hx hb dX6_shareMade_7 rfl hl (by decide) rfl (fun ls hl => ?_)
  refine lv_iload_n (pc := 8) hx hb dX6_shareMade_8 rfl (lv_at hl 0 rfl) ?_
  refine lv_aload_n (pc := 9) hx hb dX6_shareMade_9 rfl (lv_at hl 1 rfl) ?_
  obtain ⟨j6, hj6, h⟩ := h
  refine gX6_10 (pc := 10) C hK hP hk1 hj6 dX6_shareMade_10 ?_
  obtain ⟨hk8, h⟩ := h
  refine m_callVI (pc := 13) (y := yX5_countScrap) (κ := 5) (As := []) (rest := [.int r5]) C hK hP hS hl.1 ⟨Nat.zero_le _, Nat.zero_le _⟩ (c_X5_countScrap h) rfl rfl hk8 (by decide) rfl q_422 q_423 q_424 q_2 q_425 ⟨rfl, rfl⟩ yd_X5_countScrap ⟨Nat.le_of_ble_eq_true rfl, Nat.le_of_ble_eq_true rfl⟩ (Nat.le_of_ble_eq_true rfl) dX6_shareMade_13 (fun r9 M7 H locs h hP hS => ?_)
  refine lv_iadd (pc := 16) hx hb dX6_shareMade_16 ?_
  refine lv_topi (fun v10 ev10 => ?_)
  replace h := h v10 ev10
  refine lv_istore_n (lv' := [(2, .int v10), (1, .int r5), (0, .ref (b + i))]) (pc := 17) hx hb dX6_shareMade_17 rfl hl (by decide) rfl (fun ls hl => ?_)
  refine lv_iload_n (pc := 18) hx hb dX6_shareMade_18 rfl (lv_at hl 0 rfl) ?_
  refine lv_if_ne (tgt := 26) (pc := 19) hx hb dX6_shareMade_19 (by decide) (fun c19 => ?_) (fun c19 => ?_)
  · replace h := h.1 c19
    refine lv_iload_n (pc := 26) hx hb dX6_shareMade_26 rfl (lv_at hl 1 rfl) ?_
    refine lv_i2d (pc := 27) hx hb dX6_shareMade_27 ?_
    refine lv_iload_n (pc := 28) hx hb dX6_shareMade_28 rfl (lv_at hl 0 rfl) ?_
    refine lv_i2d (pc := 29) hx hb dX6_shareMade_29 ?_
    obtain ⟨hz11, h⟩ := h
    refine lv_ddiv (pc := 30) hx hb dX6_shareMade_30 hz11 ?_
    exact m_dret (v := FP.ddiv (FP.i2d r5) (FP.i2d v10)) (pc := 31) C hr hlk hP hS dX6_shareMade_31 h
  · replace h := h.2 c19
    refine lv_dconst1 (pc := 22) hx hb dX6_shareMade_22 ?_
    refine lv_goto (tgt := 31) (pc := 23) hx hb dX6_shareMade_23 (by decide) ?_
    exact m_dret (v := FP.dconst1) (pc := 31) C hr hlk hP hS dX6_shareMade_31 h
/-! ForgeHeats.saved ()D -/
def wp_X6_saved (n : Nat) (M : Mem) (i : Nat) (P : UInt64 → Mem → Prop) : Prop := m_tp n i 6 ∧ (wp_X6_shareMade n M i (fun r3 M1 => P r3 M1))
abbrev rm_X6_saved : Room := { frames := 3, cells := 0, slots := 0, locals := 66 }
set_option maxHeartbeats 4000000 in
set_option maxRecDepth 100000 in
theorem c_X6_saved {l : Launch} {D : va_G} {cA : Nat → ClassId} {b n : Nat} {M : Mem} {i : Nat} {P : UInt64 → Mem → Prop} (h : wp_X6_saved n M i P) : m_C l D cA b n n M yX6_saved cX6_saved 1 (some .double) rm_X6_saved 0 0 [.ref (b + i)] (rD P) := by
  refine m_enter (by decide) (Nat.le_of_ble_eq_true rfl) (fun p e s m below meth c C hr hlk hnm hK hP hS ls hl => ?_)
  have hx := C.1
  have hb := C.2.1
  have hl : lv_has ls 1 [(0, .ref (b + i))] := hl
  unfold wp_X6_saved at h
  refine lv_aload_n (pc := 0) hx hb dX6_saved_0 rfl (lv_at hl 0 rfl) ?_
  obtain ⟨hk2, h⟩ := h
  refine m_callVD (pc := 1) (y := yX6_shareMade) (κ := 6) (As := []) (rest := []) C hK hP hS hl.1 ⟨Nat.zero_le _, Nat.zero_le _⟩ (c_X6_shareMade h) rfl rfl hk2 (by decide) rfl q_701 q_703 q_s21 q_1 q_704 ⟨rfl, rfl⟩ yd_X6_shareMade ⟨Nat.le_of_ble_eq_true rfl, Nat.le_of_ble_eq_true rfl⟩ (Nat.le_of_ble_eq_true rfl) dX6_saved_1 (fun r3 M1 H locs h hP hS => ?_)
  exact m_dret (v := r3) (pc := 4) C hr hlk hP hS dX6_saved_4 h
/-! ForgeHeats.dropOldest ()V -/
def wpB_X6_dropOldest_16 (n : Nat) (P : Mem → Prop) (R_ : Mem → Nat → Option Nat → Int32 → Int32 → Prop) (M : Mem) (x0 : Nat) (x1 : Option Nat) (x2 : Int32) (x3 : Int32) : Prop := ((x2 ≤ x3 → ((x2 < 0 → P M) ∧ (¬ x2 < 0 → m_tp n x0 6 ∧ (∃ j8 : Nat, M.2.1 x0 2 = some j8 ∧ (m_tp n j8 15 ∧ (∃ j10 : Nat, x1 = some j10 ∧ (m_tp n j10 5 ∧ (vp_in x2 (m_len j8) ∧ (∀ M13 : Mem, M13 = uR M j8 x2.toNatClampNeg (some j10) → (∀ M14 : Mem, M14 = uI M13 x0 3 x2 → (P M14))))))))))) ∧ (¬ x2 ≤ x3 → m_tp n x0 6 ∧ (∃ j16 : Nat, M.2.1 x0 2 = some j16 ∧ (∃ j17 : Nat, M.2.1 x0 2 = some j17 ∧ (m_tp n j17 15 ∧ (vp_in (x3 + 1) (m_len j17) ∧ (∃ j20 : Nat, M.2.1 j17 (x3 + 1).toNatClampNeg = some j20 ∧ (m_tp n j16 15 ∧ (m_tp n j20 5 ∧ (vp_in x3 (m_len j16) ∧ (∀ M24 : Mem, M24 = uR M j16 x3.toNatClampNeg (some j20) → (∀ v25 : Int32, v25 = x3 + 1 → (R_ M24 x0 x1 x2 v25)))))))))))))
def wpL_X6_dropOldest_16 (n : Nat) (P : Mem → Prop) : Nat → Mem → Nat → Option Nat → Int32 → Int32 → Prop
  | 0 => fun _ _ _ _ _ => False
  | f + 1 => fun M x0 x1 x2 x3 => wpB_X6_dropOldest_16 n P (wpL_X6_dropOldest_16 n P f) M x0 x1 x2 x3
def wp_X6_dropOldest (n : Nat) (M : Mem) (i : Nat) (P : Mem → Prop) : Prop := m_tp n i 6 ∧ (wp_X6_pastAt n M i 0 (fun o3 M1 => ∃ j4 : Nat, M1.2.1 i 2 = some j4 ∧ (m_tp n j4 15 ∧ (∀ v6 : Int32, v6 = ((nI (m_len j4)) - 1) → (∃ f : Nat, wpL_X6_dropOldest_16 n P f M1 i o3 v6 0)))))
abbrev rm_X6_dropOldest : Room := { frames := 1, cells := 0, slots := 0, locals := 21 }
set_option maxHeartbeats 4000000 in
set_option maxRecDepth 100000 in
theorem c_X6_dropOldest {l : Launch} {D : va_G} {cA : Nat → ClassId} {b n : Nat} {M : Mem} {i : Nat} {P : Mem → Prop} (h : wp_X6_dropOldest n M i P) : m_C l D cA b n n M yX6_dropOldest cX6_dropOldest 4 none rm_X6_dropOldest 0 0 [.ref (b + i)] (rV P) := by
  refine m_enter (by decide) (Nat.le_of_ble_eq_true rfl) (fun p e s m below meth c C hr hlk hnm hK hP hS ls hl => ?_)
  have hx := C.1
  have hb := C.2.1
  have hl : lv_has ls 4 [(0, .ref (b + i))] := hl
  have L16 : ∀ f : Nat, ∀ (M : Mem) (H : Heap) (locs : List Loc) (ls : Array Slot) (x0 : Nat) (x1 : Option Nat) (x2 : Int32) (x3 : Int32), wpL_X6_dropOldest_16 n P f M x0 x1 x2 x3 → m_H D cA b n M H → va_S (m_A b) s.heap H locs → lv_has ls 4 [(0, .ref (b + x0)), (1, va_rf ((x1).map (fun j => b + j))), (2, .int x2), (3, .int x3)] → W p l e rm_X6_dropOldest s m ([.ref (b + i)] : List Value).toArray below meth c H locs 0 0 (MQ below (m_Q D cA b n (rV P)) ([.ref (b + i)] : List Value).toArray s 0 0 (m_A b)) (F0 m 16 ls []) := by
    clear h
    intro f
    induction f with
    | zero => intro M H locs ls x0 x1 x2 x3 h; exact h.elim
    | succ f ih =>
      intro M H locs ls x0 x1 x2 x3 h hP hS hl
      have h : wpB_X6_dropOldest_16 n P (wpL_X6_dropOldest_16 n P f) M x0 x1 x2 x3 := h
      unfold wpB_X6_dropOldest_16 at h
      refine lv_iload_n (pc := 16) hx hb dX6_dropOldest_16 rfl (lv_at hl 3 rfl) ?_
      refine lv_iload_n (pc := 17) hx hb dX6_dropOldest_17 rfl (lv_at hl 2 rfl) ?_
      refine lv_icmp_ge (tgt := 41) (pc := 18) hx hb dX6_dropOldest_18 (by decide) (fun c18 => ?_) (fun c18 => ?_)
      · replace h := h.1 c18
        refine lv_iload_n (pc := 41) hx hb dX6_dropOldest_41 rfl (lv_at hl 2 rfl) ?_
        refine lv_if_lt (tgt := 57) (pc := 42) hx hb dX6_dropOldest_42 (by decide) (fun c42 => ?_) (fun c42 => ?_)
        · replace h := h.1 c42
          exact m_vret (pc := 57) C hr hlk hP hS dX6_dropOldest_57 h
        · replace h := h.2 c42
          refine lv_aload_n (pc := 45) hx hb dX6_dropOldest_45 rfl (lv_at hl 0 rfl) ?_
          obtain ⟨hk7, h⟩ := h
          obtain ⟨j8, hj8, h⟩ := h
          refine gX6_19 (pc := 46) C hK hP hk7 hj8 dX6_dropOldest_46 ?_
          refine lv_iload_n (pc := 49) hx hb dX6_dropOldest_49 rfl (lv_at hl 2 rfl) ?_
          refine m_aldO_n hx hb (pc := 50) dX6_dropOldest_50 rfl (lv_at hl 1 rfl) ?_
          obtain ⟨hk9, h⟩ := h
          obtain ⟨j10, eo, h⟩ := h
          try rw [eo]
          try rw [eo] at hl
          obtain ⟨hk11, h⟩ := h
          obtain ⟨hi12, h⟩ := h
          refine m_astq (pc := 51) (κ := 15) (ci := 5) C hK hP hS hk9 (by decide) rfl hk11 (by decide) rfl hi12 dX6_dropOldest_51 (fun M13 H locs eM13 hP hS => ?_)
          replace h := h M13 eM13
          refine lv_aload_n (pc := 52) hx hb dX6_dropOldest_52 rfl (lv_at hl 0 rfl) ?_
          refine lv_iload_n (pc := 53) hx hb dX6_dropOldest_53 rfl (lv_at hl 2 rfl) ?_
          refine pX6_212 (pc := 54) (v := x2) C hK hP hS hk7 dX6_dropOldest_54 (fun M14 H locs eM14 hP hS => ?_)
          replace h := h M14 eM14
          exact m_vret (pc := 57) C hr hlk hP hS dX6_dropOldest_57 h
      · replace h := h.2 c18
        refine lv_aload_n (pc := 21) hx hb dX6_dropOldest_21 rfl (lv_at hl 0 rfl) ?_
        obtain ⟨hk15, h⟩ := h
        obtain ⟨j16, hj16, h⟩ := h
        refine gX6_19 (pc := 22) C hK hP hk15 hj16 dX6_dropOldest_22 ?_
        refine lv_iload_n (pc := 25) hx hb dX6_dropOldest_25 rfl (lv_at hl 3 rfl) ?_
        refine lv_aload_n (pc := 26) hx hb dX6_dropOldest_26 rfl (lv_at hl 0 rfl) ?_
        obtain ⟨j17, hj17, h⟩ := h
        refine gX6_19 (pc := 27) C hK hP hk15 hj17 dX6_dropOldest_27 ?_
        refine lv_iload_n (pc := 30) hx hb dX6_dropOldest_30 rfl (lv_at hl 3 rfl) ?_
        refine lv_iconst (v := 1) (pc := 31) hx hb dX6_dropOldest_31 (by decide) ?_
        refine lv_iadd (pc := 32) hx hb dX6_dropOldest_32 ?_
        obtain ⟨hk18, h⟩ := h
        obtain ⟨hi19, h⟩ := h
        obtain ⟨j20, hj20, h⟩ := h
        refine m_aldq (pc := 33) (κ := 15) C hK hP hk18 (by decide) rfl hi19 hj20 dX6_dropOldest_33 ?_
        obtain ⟨hk21, h⟩ := h
        obtain ⟨hk22, h⟩ := h
        obtain ⟨hi23, h⟩ := h
        refine m_astq (pc := 34) (κ := 15) (ci := 5) C hK hP hS hk21 (by decide) rfl hk22 (by decide) rfl hi23 dX6_dropOldest_34 (fun M24 H locs eM24 hP hS => ?_)
        replace h := h M24 eM24
        obtain ⟨v25, ev25⟩ : ∃ y : Int32, y = x3 + 1 := ⟨_, rfl⟩
        replace h := h v25 ev25
        refine lv_iinc (v := v25) (lv' := [(3, .int v25), (0, .ref (b + x0)), (1, va_rf ((x1).map (fun j => b + j))), (2, .int x2)]) (pc := 35) hx hb dX6_dropOldest_35 hl (k := 3) rfl (by rw [ev25]; rfl) (by decide) rfl (fun ls hl => ?_)
        refine lv_goto (tgt := 16) (pc := 38) hx hb dX6_dropOldest_38 (by decide) ?_
        exact ih _ _ _ _ _ _ _ _ h hP hS (lv_sub hl [1, 2, 3, 0] rfl)
  unfold wp_X6_dropOldest at h
  refine lv_aload_n (pc := 0) hx hb dX6_dropOldest_0 rfl (lv_at hl 0 rfl) ?_
  refine lv_iconst (v := 0) (pc := 1) hx hb dX6_dropOldest_1 (by decide) ?_
  obtain ⟨hk2, h⟩ := h
  refine m_callVO (pc := 2) (y := yX6_pastAt) (κ := 6) (As := [.int 0]) (rest := []) C hK hP hS hl.1 ⟨Nat.zero_le _, Nat.zero_le _⟩ (c_X6_pastAt h) rfl rfl hk2 (by decide) rfl q_271 q_273 q_s0 q_1 q_274 ⟨rfl, rfl⟩ yd_X6_pastAt ⟨Nat.le_of_ble_eq_true rfl, Nat.le_of_ble_eq_true rfl⟩ (Nat.le_of_ble_eq_true rfl) dX6_dropOldest_2 (fun o3 M1 H locs h hP hS => ?_)
  refine m_astO_n (lv' := [(1, va_rf ((o3).map (fun j => b + j))), (0, .ref (b + i))]) hx hb (pc := 5) dX6_dropOldest_5 rfl hl (by decide) rfl (fun ls hl => ?_)
  refine lv_aload_n (pc := 6) hx hb dX6_dropOldest_6 rfl (lv_at hl 1 rfl) ?_
  obtain ⟨j4, hj4, h⟩ := h
  refine gX6_19 (pc := 7) C hK hP hk2 hj4 dX6_dropOldest_7 ?_
  obtain ⟨hk5, h⟩ := h
  refine m_alen (pc := 10) (κ := 15) C hK hP hk5 (by decide) rfl dX6_dropOldest_10 ?_
  refine lv_iconst (v := 1) (pc := 11) hx hb dX6_dropOldest_11 (by decide) ?_
  refine lv_isub (pc := 12) hx hb dX6_dropOldest_12 ?_
  refine lv_topi (fun v6 ev6 => ?_)
  replace h := h v6 ev6
  refine lv_istore_n (lv' := [(2, .int v6), (1, va_rf ((o3).map (fun j => b + j))), (0, .ref (b + i))]) (pc := 13) hx hb dX6_dropOldest_13 rfl hl (by decide) (by simp [m_cat]) (fun ls hl => ?_)
  refine lv_iconst (v := 0) (pc := 14) hx hb dX6_dropOldest_14 (by decide) ?_
  refine lv_istore_n (lv' := [(3, .int 0), (2, .int v6), (1, va_rf ((o3).map (fun j => b + j))), (0, .ref (b + i))]) (pc := 15) hx hb dX6_dropOldest_15 rfl hl (by decide) rfl (fun ls hl => ?_)
  obtain ⟨f, h⟩ := h
  exact L16 f _ _ _ _ _ _ _ _ h hP hS (lv_sub hl [3, 2, 1, 0] rfl)
/-! ForgeHeats.remember ()V -/
def wp_X6_remember (n : Nat) (M : Mem) (i : Nat) (P : Mem → Prop) : Prop := m_tp n i 6 ∧ (∃ j2 : Nat, M.2.1 i 2 = some j2 ∧ (m_tp n j2 15 ∧ ((((M.1 i 3) < (nI (m_len j2)) → wp_X6_pastAt n M i (M.1 i 3) (fun o5 M4 => ((o5 = none → P M4) ∧ (∀ j6 : Nat, o5 = some j6 → ∃ j7 : Nat, M4.2.1 i 0 = some j7 ∧ (m_tp n j6 5 ∧ (wp_X5_copyFrom n M4 j6 j7 (fun M8 => ∀ M11 : Mem, M11 = uI M8 i 3 ((M8.1 i 3) + 1) → (P M11)))))))) ∧ (¬ (M.1 i 3) < (nI (m_len j2)) → wp_X6_dropOldest n M i (fun M12 => wp_X6_pastAt n M12 i (M12.1 i 3) (fun o15 M14 => ((o15 = none → P M14) ∧ (∀ j16 : Nat, o15 = some j16 → ∃ j17 : Nat, M14.2.1 i 0 = some j17 ∧ (m_tp n j16 5 ∧ (wp_X5_copyFrom n M14 j16 j17 (fun M18 => ∀ M21 : Mem, M21 = uI M18 i 3 ((M18.1 i 3) + 1) → (P M21)))))))))))))
abbrev rm_X6_remember : Room := { frames := 2, cells := 0, slots := 0, locals := 44 }
set_option maxHeartbeats 4000000 in
set_option maxRecDepth 100000 in
theorem c_X6_remember {l : Launch} {D : va_G} {cA : Nat → ClassId} {b n : Nat} {M : Mem} {i : Nat} {P : Mem → Prop} (h : wp_X6_remember n M i P) : m_C l D cA b n n M yX6_remember cX6_remember 2 none rm_X6_remember 0 0 [.ref (b + i)] (rV P) := by
  refine m_enter (by decide) (Nat.le_of_ble_eq_true rfl) (fun p e s m below meth c C hr hlk hnm hK hP hS ls hl => ?_)
  have hx := C.1
  have hb := C.2.1
  have hl : lv_has ls 2 [(0, .ref (b + i))] := hl
  unfold wp_X6_remember at h
  refine lv_aload_n (pc := 0) hx hb dX6_remember_0 rfl (lv_at hl 0 rfl) ?_
  obtain ⟨hk1, h⟩ := h
  refine gX6_212 (pc := 1) C hK hP hk1 dX6_remember_1 ?_
  refine lv_aload_n (pc := 4) hx hb dX6_remember_4 rfl (lv_at hl 0 rfl) ?_
  obtain ⟨j2, hj2, h⟩ := h
  refine gX6_19 (pc := 5) C hK hP hk1 hj2 dX6_remember_5 ?_
  obtain ⟨hk3, h⟩ := h
  refine m_alen (pc := 8) (κ := 15) C hK hP hk3 (by decide) rfl dX6_remember_8 ?_
  refine lv_icmp_lt (tgt := 16) (pc := 9) hx hb dX6_remember_9 (by decide) (fun c9 => ?_) (fun c9 => ?_)
  · replace h := h.1 c9
    refine lv_aload_n (pc := 16) hx hb dX6_remember_16 rfl (lv_at hl 0 rfl) ?_
    refine lv_aload_n (pc := 17) hx hb dX6_remember_17 rfl (lv_at hl 0 rfl) ?_
    refine gX6_212 (pc := 18) C hK hP hk1 dX6_remember_18 ?_
    refine m_callVO (pc := 21) (y := yX6_pastAt) (κ := 6) (As := [.int (M.1 i 3)]) (rest := []) C hK hP hS hl.1 ⟨Nat.zero_le _, Nat.zero_le _⟩ (c_X6_pastAt h) rfl rfl hk1 (by decide) rfl q_271 q_273 q_s0 q_1 q_274 ⟨rfl, rfl⟩ yd_X6_pastAt ⟨Nat.le_of_ble_eq_true rfl, Nat.le_of_ble_eq_true rfl⟩ (Nat.le_of_ble_eq_true rfl) dX6_remember_21 (fun o5 M4 H locs h hP hS => ?_)
    refine m_astO_n (lv' := [(1, va_rf ((o5).map (fun j => b + j))), (0, .ref (b + i))]) hx hb (pc := 24) dX6_remember_24 rfl hl (by decide) rfl (fun ls hl => ?_)
    refine m_aldO_n hx hb (pc := 25) dX6_remember_25 rfl (lv_at hl 0 rfl) ?_
    rcases eo : o5 with _ | j6
    · replace h := h.1 eo
      refine lv_ifnullN (tgt := 47) (pc := 26) hx hb dX6_remember_26 (by decide) ?_
      try rw [eo] at hl
      exact m_vret (pc := 47) C hr hlk hP hS dX6_remember_47 h
    · replace h := h.2 j6 eo
      refine lv_ifnull (pc := 26) hx hb dX6_remember_26 ?_
      try rw [eo] at hl
      refine lv_aload_n (pc := 29) hx hb dX6_remember_29 rfl (lv_at hl 0 rfl) ?_
      refine lv_aload_n (pc := 30) hx hb dX6_remember_30 rfl (lv_at hl 1 rfl) ?_
      obtain ⟨j7, hj7, h⟩ := h
      refine gX6_10 (pc := 31) C hK hP hk1 hj7 dX6_remember_31 ?_
      obtain ⟨hk9, h⟩ := h
      refine m_callVV (pc := 34) (y := yX5_copyFrom) (κ := 5) (As := [.ref (b + j7)]) (rest := []) C hK hP hS hl.1 ⟨Nat.zero_le _, Nat.zero_le _⟩ (c_X5_copyFrom h) rfl rfl hk9 (by decide) rfl q_343 q_344 q_345 q_2 q_346 ⟨rfl, rfl⟩ yd_X5_copyFrom ⟨Nat.le_of_ble_eq_true rfl, Nat.le_of_ble_eq_true rfl⟩ (Nat.le_of_ble_eq_true rfl) dX6_remember_34 (fun M8 H locs h hP hS => ?_)
      refine lv_aload_n (pc := 37) hx hb dX6_remember_37 rfl (lv_at hl 1 rfl) ?_
      refine lv_dup (pc := 38) hx hb dX6_remember_38 rfl ?_
      refine gX6_212 (pc := 39) C hK hP hk1 dX6_remember_39 ?_
      refine lv_iconst (v := 1) (pc := 42) hx hb dX6_remember_42 (by decide) ?_
      refine lv_iadd (pc := 43) hx hb dX6_remember_43 ?_
      refine pX6_212 (pc := 44) (v := (M8.1 i 3) + 1) C hK hP hS hk1 dX6_remember_44 (fun M11 H locs eM11 hP hS => ?_)
      replace h := h M11 eM11
      exact m_vret (pc := 47) C hr hlk hP hS dX6_remember_47 h
  · replace h := h.2 c9
    refine lv_aload_n (pc := 12) hx hb dX6_remember_12 rfl (lv_at hl 0 rfl) ?_
    refine m_callVV (pc := 13) (y := yX6_dropOldest) (κ := 6) (As := []) (rest := []) C hK hP hS hl.1 ⟨Nat.zero_le _, Nat.zero_le _⟩ (c_X6_dropOldest h) rfl rfl hk1 (by decide) rfl q_547 q_549 q_s9 q_1 q_550 ⟨rfl, rfl⟩ yd_X6_dropOldest ⟨Nat.le_of_ble_eq_true rfl, Nat.le_of_ble_eq_true rfl⟩ (Nat.le_of_ble_eq_true rfl) dX6_remember_13 (fun M12 H locs h hP hS => ?_)
    refine lv_aload_n (pc := 16) hx hb dX6_remember_16 rfl (lv_at hl 0 rfl) ?_
    refine lv_aload_n (pc := 17) hx hb dX6_remember_17 rfl (lv_at hl 0 rfl) ?_
    refine gX6_212 (pc := 18) C hK hP hk1 dX6_remember_18 ?_
    refine m_callVO (pc := 21) (y := yX6_pastAt) (κ := 6) (As := [.int (M12.1 i 3)]) (rest := []) C hK hP hS hl.1 ⟨Nat.zero_le _, Nat.zero_le _⟩ (c_X6_pastAt h) rfl rfl hk1 (by decide) rfl q_271 q_273 q_s0 q_1 q_274 ⟨rfl, rfl⟩ yd_X6_pastAt ⟨Nat.le_of_ble_eq_true rfl, Nat.le_of_ble_eq_true rfl⟩ (Nat.le_of_ble_eq_true rfl) dX6_remember_21 (fun o15 M14 H locs h hP hS => ?_)
    refine m_astO_n (lv' := [(1, va_rf ((o15).map (fun j => b + j))), (0, .ref (b + i))]) hx hb (pc := 24) dX6_remember_24 rfl hl (by decide) rfl (fun ls hl => ?_)
    refine m_aldO_n hx hb (pc := 25) dX6_remember_25 rfl (lv_at hl 0 rfl) ?_
    rcases eo : o15 with _ | j16
    · replace h := h.1 eo
      refine lv_ifnullN (tgt := 47) (pc := 26) hx hb dX6_remember_26 (by decide) ?_
      try rw [eo] at hl
      exact m_vret (pc := 47) C hr hlk hP hS dX6_remember_47 h
    · replace h := h.2 j16 eo
      refine lv_ifnull (pc := 26) hx hb dX6_remember_26 ?_
      try rw [eo] at hl
      refine lv_aload_n (pc := 29) hx hb dX6_remember_29 rfl (lv_at hl 0 rfl) ?_
      refine lv_aload_n (pc := 30) hx hb dX6_remember_30 rfl (lv_at hl 1 rfl) ?_
      obtain ⟨j17, hj17, h⟩ := h
      refine gX6_10 (pc := 31) C hK hP hk1 hj17 dX6_remember_31 ?_
      obtain ⟨hk19, h⟩ := h
      refine m_callVV (pc := 34) (y := yX5_copyFrom) (κ := 5) (As := [.ref (b + j17)]) (rest := []) C hK hP hS hl.1 ⟨Nat.zero_le _, Nat.zero_le _⟩ (c_X5_copyFrom h) rfl rfl hk19 (by decide) rfl q_343 q_344 q_345 q_2 q_346 ⟨rfl, rfl⟩ yd_X5_copyFrom ⟨Nat.le_of_ble_eq_true rfl, Nat.le_of_ble_eq_true rfl⟩ (Nat.le_of_ble_eq_true rfl) dX6_remember_34 (fun M18 H locs h hP hS => ?_)
      refine lv_aload_n (pc := 37) hx hb dX6_remember_37 rfl (lv_at hl 1 rfl) ?_
      refine lv_dup (pc := 38) hx hb dX6_remember_38 rfl ?_
      refine gX6_212 (pc := 39) C hK hP hk1 dX6_remember_39 ?_
      refine lv_iconst (v := 1) (pc := 42) hx hb dX6_remember_42 (by decide) ?_
      refine lv_iadd (pc := 43) hx hb dX6_remember_43 ?_
      refine pX6_212 (pc := 44) (v := (M18.1 i 3) + 1) C hK hP hS hk1 dX6_remember_44 (fun M21 H locs eM21 hP hS => ?_)
      replace h := h M21 eM21
      exact m_vret (pc := 47) C hr hlk hP hS dX6_remember_47 h
end
