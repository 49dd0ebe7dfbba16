-- ===== PART A: goes FIRST, ahead of the names: the tables' words, and 'selects' of the private methods out of them =====
/-- a private method of a class that the tables say can be made, by its rows of tables_1 -/
def lw_okq (q : MethodName × Nat) : Prop := (q.1.cls ≠ "java/lang/invoke/MethodHandle" ∧ q.1.cls ≠ "java/lang/invoke/VarHandle") ∧ Cond.instantiable q.1.cls q.2 ∈ tables_1 ∧ Cond.privateMethod q.1 ∈ tables_1 ∧ Cond.instanceMethod q.1 ∈ tables_1
theorem lw_p0 : lw_okq (⟨"ForgeHeats", "pastAt", "(I)LForgeHeats$Shop;"⟩, 5) := ⟨⟨by decide +kernel, by decide +kernel⟩, List.mem_of_getElem? (i := 16) (by decide +kernel), List.mem_of_getElem? (i := 272) (by decide +kernel), List.mem_of_getElem? (i := 273) (by decide +kernel)⟩
theorem lw_p1 : lw_okq (⟨"java/lang/Throwable", "fillInStackTrace", "(I)Ljava/lang/Throwable;"⟩, 6) := ⟨⟨by decide +kernel, by decide +kernel⟩, List.mem_of_getElem? (i := 314) (by decide +kernel), List.mem_of_getElem? (i := 312) (by decide +kernel), List.mem_of_getElem? (i := 313) (by decide +kernel)⟩
theorem lw_p2 : lw_okq (⟨"ForgeHeats$Shop", "copyNumbersFrom", "(LForgeHeats$Shop;)V"⟩, 19) := ⟨⟨by decide +kernel, by decide +kernel⟩, List.mem_of_getElem? (i := 24) (by decide +kernel), List.mem_of_getElem? (i := 380) (by decide +kernel), List.mem_of_getElem? (i := 381) (by decide +kernel)⟩
theorem lw_p3 : lw_okq (⟨"ForgeHeats", "numberOf", "(I)I"⟩, 5) := ⟨⟨by decide +kernel, by decide +kernel⟩, List.mem_of_getElem? (i := 16) (by decide +kernel), List.mem_of_getElem? (i := 407) (by decide +kernel), List.mem_of_getElem? (i := 408) (by decide +kernel)⟩
theorem lw_p4 : lw_okq (⟨"ForgeHeats$Shop", "countBilletsOf", "(I)I"⟩, 19) := ⟨⟨by decide +kernel, by decide +kernel⟩, List.mem_of_getElem? (i := 24) (by decide +kernel), List.mem_of_getElem? (i := 477) (by decide +kernel), List.mem_of_getElem? (i := 478) (by decide +kernel)⟩
theorem lw_p5 : lw_okq (⟨"ForgeHeats$Shop", "countLackOf", "(I)I"⟩, 19) := ⟨⟨by decide +kernel, by decide +kernel⟩, List.mem_of_getElem? (i := 24) (by decide +kernel), List.mem_of_getElem? (i := 481) (by decide +kernel), List.mem_of_getElem? (i := 482) (by decide +kernel)⟩
theorem lw_p6 : lw_okq (⟨"ForgeHeats$Shop", "reasonToWait", "(LForgeHeats$Job;)I"⟩, 19) := ⟨⟨by decide +kernel, by decide +kernel⟩, List.mem_of_getElem? (i := 24) (by decide +kernel), List.mem_of_getElem? (i := 518) (by decide +kernel), List.mem_of_getElem? (i := 519) (by decide +kernel)⟩
theorem lw_p7 : lw_okq (⟨"ForgeHeats$Shop", "hottestReady", "(LForgeHeats$Job;)LForgeHeats$Billet;"⟩, 19) := ⟨⟨by decide +kernel, by decide +kernel⟩, List.mem_of_getElem? (i := 24) (by decide +kernel), List.mem_of_getElem? (i := 526) (by decide +kernel), List.mem_of_getElem? (i := 527) (by decide +kernel)⟩
theorem lw_p8 : lw_okq (⟨"ForgeHeats", "remember", "()V"⟩, 5) := ⟨⟨by decide +kernel, by decide +kernel⟩, List.mem_of_getElem? (i := 16) (by decide +kernel), List.mem_of_getElem? (i := 544) (by decide +kernel), List.mem_of_getElem? (i := 545) (by decide +kernel)⟩
theorem lw_p9 : lw_okq (⟨"ForgeHeats", "dropOldest", "()V"⟩, 5) := ⟨⟨by decide +kernel, by decide +kernel⟩, List.mem_of_getElem? (i := 16) (by decide +kernel), List.mem_of_getElem? (i := 548) (by decide +kernel), List.mem_of_getElem? (i := 549) (by decide +kernel)⟩
theorem lw_p10 : lw_okq (⟨"ForgeHeats$Shop", "removeJob", "(I)V"⟩, 19) := ⟨⟨by decide +kernel, by decide +kernel⟩, List.mem_of_getElem? (i := 24) (by decide +kernel), List.mem_of_getElem? (i := 597) (by decide +kernel), List.mem_of_getElem? (i := 598) (by decide +kernel)⟩
theorem lw_p11 : lw_okq (⟨"ForgeHeats$Shop", "swapJobs", "(II)V"⟩, 19) := ⟨⟨by decide +kernel, by decide +kernel⟩, List.mem_of_getElem? (i := 24) (by decide +kernel), List.mem_of_getElem? (i := 601) (by decide +kernel), List.mem_of_getElem? (i := 602) (by decide +kernel)⟩
theorem lw_p12 : lw_okq (⟨"ForgeHeats$Shop", "settle", "(I)I"⟩, 19) := ⟨⟨by decide +kernel, by decide +kernel⟩, List.mem_of_getElem? (i := 24) (by decide +kernel), List.mem_of_getElem? (i := 613) (by decide +kernel), List.mem_of_getElem? (i := 614) (by decide +kernel)⟩
theorem lw_p13 : lw_okq (⟨"ForgeHeats$Shop", "warmFurnace", "()V"⟩, 19) := ⟨⟨by decide +kernel, by decide +kernel⟩, List.mem_of_getElem? (i := 24) (by decide +kernel), List.mem_of_getElem? (i := 646) (by decide +kernel), List.mem_of_getElem? (i := 647) (by decide +kernel)⟩
theorem lw_p14 : lw_okq (⟨"ForgeHeats$Shop", "chargeFurnace", "()V"⟩, 19) := ⟨⟨by decide +kernel, by decide +kernel⟩, List.mem_of_getElem? (i := 24) (by decide +kernel), List.mem_of_getElem? (i := 653) (by decide +kernel), List.mem_of_getElem? (i := 654) (by decide +kernel)⟩
theorem lw_p15 : lw_okq (⟨"ForgeHeats$Shop", "freePlace", "()LForgeHeats$Billet;"⟩, 19) := ⟨⟨by decide +kernel, by decide +kernel⟩, List.mem_of_getElem? (i := 24) (by decide +kernel), List.mem_of_getElem? (i := 657) (by decide +kernel), List.mem_of_getElem? (i := 658) (by decide +kernel)⟩
def lw_privs_1 : List (MethodName × Nat) := [(⟨"ForgeHeats", "pastAt", "(I)LForgeHeats$Shop;"⟩, 5), (⟨"java/lang/Throwable", "fillInStackTrace", "(I)Ljava/lang/Throwable;"⟩, 6), (⟨"ForgeHeats$Shop", "copyNumbersFrom", "(LForgeHeats$Shop;)V"⟩, 19), (⟨"ForgeHeats", "numberOf", "(I)I"⟩, 5), (⟨"ForgeHeats$Shop", "countBilletsOf", "(I)I"⟩, 19), (⟨"ForgeHeats$Shop", "countLackOf", "(I)I"⟩, 19), (⟨"ForgeHeats$Shop", "reasonToWait", "(LForgeHeats$Job;)I"⟩, 19), (⟨"ForgeHeats$Shop", "hottestReady", "(LForgeHeats$Job;)LForgeHeats$Billet;"⟩, 19), (⟨"ForgeHeats", "remember", "()V"⟩, 5), (⟨"ForgeHeats", "dropOldest", "()V"⟩, 5), (⟨"ForgeHeats$Shop", "removeJob", "(I)V"⟩, 19), (⟨"ForgeHeats$Shop", "swapJobs", "(II)V"⟩, 19), (⟨"ForgeHeats$Shop", "settle", "(I)I"⟩, 19), (⟨"ForgeHeats$Shop", "warmFurnace", "()V"⟩, 19), (⟨"ForgeHeats$Shop", "chargeFurnace", "()V"⟩, 19), (⟨"ForgeHeats$Shop", "freePlace", "()LForgeHeats$Billet;"⟩, 19)]
theorem lw_r1 : ∀ q ∈ lw_privs_1, lw_okq q := List.forall_mem_cons.mpr ⟨lw_p0, List.forall_mem_cons.mpr ⟨lw_p1, List.forall_mem_cons.mpr ⟨lw_p2, List.forall_mem_cons.mpr ⟨lw_p3, List.forall_mem_cons.mpr ⟨lw_p4, List.forall_mem_cons.mpr ⟨lw_p5, List.forall_mem_cons.mpr ⟨lw_p6, List.forall_mem_cons.mpr ⟨lw_p7, List.forall_mem_cons.mpr ⟨lw_p8, List.forall_mem_cons.mpr ⟨lw_p9, List.forall_mem_cons.mpr ⟨lw_p10, List.forall_mem_cons.mpr ⟨lw_p11, List.forall_mem_cons.mpr ⟨lw_p12, List.forall_mem_cons.mpr ⟨lw_p13, List.forall_mem_cons.mpr ⟨lw_p14, List.forall_mem_cons.mpr ⟨lw_p15, fun _ h => absurd h List.not_mem_nil⟩⟩⟩⟩⟩⟩⟩⟩⟩⟩⟩⟩⟩⟩⟩⟩
theorem lw_p16 : lw_okq (⟨"ForgeHeats$Shop", "loadPress", "()V"⟩, 19) := ⟨⟨by decide +kernel, by decide +kernel⟩, List.mem_of_getElem? (i := 24) (by decide +kernel), List.mem_of_getElem? (i := 661) (by decide +kernel), List.mem_of_getElem? (i := 662) (by decide +kernel)⟩
theorem lw_p17 : lw_okq (⟨"ForgeHeats$Shop", "workPress", "(I)V"⟩, 19) := ⟨⟨by decide +kernel, by decide +kernel⟩, List.mem_of_getElem? (i := 24) (by decide +kernel), List.mem_of_getElem? (i := 670) (by decide +kernel), List.mem_of_getElem? (i := 671) (by decide +kernel)⟩
theorem lw_p18 : lw_okq (⟨"ForgeHeats$Shop", "sendBack", "(LForgeHeats$Job;LForgeHeats$Heat;)V"⟩, 19) := ⟨⟨by decide +kernel, by decide +kernel⟩, List.mem_of_getElem? (i := 24) (by decide +kernel), List.mem_of_getElem? (i := 674) (by decide +kernel), List.mem_of_getElem? (i := 675) (by decide +kernel)⟩
theorem lw_p19 : lw_okq (⟨"ForgeHeats$Shop", "countGone", "(LForgeHeats$Job;)V"⟩, 19) := ⟨⟨by decide +kernel, by decide +kernel⟩, List.mem_of_getElem? (i := 24) (by decide +kernel), List.mem_of_getElem? (i := 681) (by decide +kernel), List.mem_of_getElem? (i := 682) (by decide +kernel)⟩
theorem lw_p20 : lw_okq (⟨"ForgeHeats$Shop", "tendDies", "()V"⟩, 19) := ⟨⟨by decide +kernel, by decide +kernel⟩, List.mem_of_getElem? (i := 24) (by decide +kernel), List.mem_of_getElem? (i := 685) (by decide +kernel), List.mem_of_getElem? (i := 686) (by decide +kernel)⟩
theorem lw_p21 : lw_okq (⟨"ForgeHeats", "shareMade", "()D"⟩, 5) := ⟨⟨by decide +kernel, by decide +kernel⟩, List.mem_of_getElem? (i := 16) (by decide +kernel), List.mem_of_getElem? (i := 702) (by decide +kernel), List.mem_of_getElem? (i := 703) (by decide +kernel)⟩
def lw_privs_2 : List (MethodName × Nat) := [(⟨"ForgeHeats$Shop", "loadPress", "()V"⟩, 19), (⟨"ForgeHeats$Shop", "workPress", "(I)V"⟩, 19), (⟨"ForgeHeats$Shop", "sendBack", "(LForgeHeats$Job;LForgeHeats$Heat;)V"⟩, 19), (⟨"ForgeHeats$Shop", "countGone", "(LForgeHeats$Job;)V"⟩, 19), (⟨"ForgeHeats$Shop", "tendDies", "()V"⟩, 19), (⟨"ForgeHeats", "shareMade", "()D"⟩, 5)]
theorem lw_r2 : ∀ q ∈ lw_privs_2, lw_okq q := List.forall_mem_cons.mpr ⟨lw_p16, List.forall_mem_cons.mpr ⟨lw_p17, List.forall_mem_cons.mpr ⟨lw_p18, List.forall_mem_cons.mpr ⟨lw_p19, List.forall_mem_cons.mpr ⟨lw_p20, List.forall_mem_cons.mpr ⟨lw_p21, fun _ h => absurd h List.not_mem_nil⟩⟩⟩⟩⟩⟩
def lw_privs : List (MethodName × Nat) := lw_privs_1 ++ (lw_privs_2)
def lw_tbl : List Cond := k2_sels lw_privs ++ tables_1
theorem lw_privs_ok : ∀ q ∈ lw_privs, lw_okq q := by
  show ∀ q ∈ lw_privs_1 ++ (lw_privs_2), lw_okq q
  exact List.forall_mem_append.mpr ⟨lw_r1, lw_r2⟩
/-- the streams that the claim lets the run draw from -/
abbrev lw_cs : List Choice := [Jvm.Choice.named "NaN.bits"]
theorem lw_bits : nanBits ∈ lw_cs := by first | decide | exact List.mem_cons_self | simp [lw_cs, nanBits]
-- ===== end of PART A; then your names; then what follows =====
/-! ===== BEGIN words of one list among another's, by their places ===== -/
theorem goodIn_r {big : List Cond} (ws : List Cond) (ps : List Nat) (hp : ws = ps.filterMap (fun i => big[i]?)) (h : ws.all goodWord = true) : GoodIn big ws := by
  intro w hw
  have h1 := List.all_eq_true.mp h w hw
  rw [hp] at hw
  obtain ⟨i, -, hi⟩ := List.mem_filterMap.mp hw
  have hm : w ∈ big := by first | exact List.mem_of_getElem? hi | exact List.getElem?_mem hi
  exact ⟨hm, good_of_word h1⟩
theorem goodIn_app {big a b : List Cond} (ha : GoodIn big a) (hb : GoodIn big b) : GoodIn big (a ++ b) := fun w h => (List.mem_append.mp h).elim (ha w) (hb w)
theorem goodIn_ca {big a b : List Cond} {c : Cond} (ha : GoodIn big (c :: a)) (hb : GoodIn big b) : GoodIn big (c :: (a ++ b)) := fun w h => (List.mem_cons.mp h).elim (fun e => ha w (List.mem_cons.mpr (Or.inl e))) (fun h => (List.mem_append.mp h).elim (fun h => ha w (List.mem_cons.mpr (Or.inr h))) (hb w))
theorem goodIn_sub {big ws : List Cond} (hm : ∀ w ∈ ws, w ∈ big) (h : ws.all goodWord = true) : GoodIn big ws := fun w hw => ⟨hm w hw, good_of_word (List.all_eq_true.mp h w hw)⟩
/-! ===== END ===== -/
def RX0 : String := "ForgeHeats$Billet"
def TX0 : u_T := fun k => match k with
  | 0 => ("ForgeHeats$Billet", "job", "I", false)
  | 1 => ("ForgeHeats$Billet", "degrees", "I", false)
  | 2 => ("ForgeHeats$Billet", "reheats", "I", false)
  | _ => ("ForgeHeats$Billet", "blows", "I", false)
def tyX0 : Nat → FieldType := fun k => match k with
  | 0 => .int
  | 1 => .int
  | 2 => .int
  | _ => .int
abbrev wsX00 : List Cond := u_ws RX0 TX0 4
theorem nmX0 : ∀ a, a < 4 → ∀ b, b < 4 → a ≠ b → (TX0 a).2.1 ≠ (TX0 b).2.1 := by decide +kernel
theorem tyX0_ok : ∀ k, k < 4 → parseFieldDescriptor (TX0 k).2.2.1 = some (tyX0 k) := by decide +kernel
abbrev cX0_init : ByteArray := prog_2_method_1_code
def yX0_init : MethodName := ⟨RX0, "<init>", "()V"⟩
abbrev cX0_copyFrom : ByteArray := prog_2_method_2_code
def yX0_copyFrom : MethodName := ⟨RX0, "copyFrom", "(LForgeHeats$Billet;)V"⟩
abbrev cX0_property : ByteArray := prog_2_method_3_code
def yX0_property : MethodName := ⟨RX0, "property", "(I)I"⟩
def RX1 : String := "ForgeHeats$Die"
def TX1 : u_T := fun k => match k with
  | 0 => ("ForgeHeats$Die", "blows", "I", false)
  | 1 => ("ForgeHeats$Die", "limit", "I", false)
  | 2 => ("ForgeHeats$Die", "wear", "I", false)
  | 3 => ("ForgeHeats$Die", "toGo", "I", false)
  | 4 => ("ForgeHeats$Die", "made", "I", false)
  | _ => ("ForgeHeats$Die", "timesGround", "I", false)
def tyX1 : Nat → FieldType := fun k => match k with
  | 0 => .int
  | 1 => .int
  | 2 => .int
  | 3 => .int
  | 4 => .int
  | _ => .int
abbrev wsX10 : List Cond := u_ws RX1 TX1 6
theorem nmX1 : ∀ a, a < 6 → ∀ b, b < 6 → a ≠ b → (TX1 a).2.1 ≠ (TX1 b).2.1 := by decide +kernel
theorem tyX1_ok : ∀ k, k < 6 → parseFieldDescriptor (TX1 k).2.2.1 = some (tyX1 k) := by decide +kernel
abbrev cX1_init : ByteArray := prog_3_method_1_code
def yX1_init : MethodName := ⟨RX1, "<init>", "()V"⟩
abbrev cX1_copyFrom : ByteArray := prog_3_method_2_code
def yX1_copyFrom : MethodName := ⟨RX1, "copyFrom", "(LForgeHeats$Die;)V"⟩
abbrev cX1_isBeingGround : ByteArray := prog_3_method_3_code
def yX1_isBeingGround : MethodName := ⟨RX1, "isBeingGround", "()Z"⟩
abbrev cX1_isWornOut : ByteArray := prog_3_method_4_code
def yX1_isWornOut : MethodName := ⟨RX1, "isWornOut", "()Z"⟩
abbrev cX1_canForge : ByteArray := prog_3_method_5_code
def yX1_canForge : MethodName := ⟨RX1, "canForge", "()Z"⟩
abbrev cX1_grindMinute : ByteArray := prog_3_method_6_code
def yX1_grindMinute : MethodName := ⟨RX1, "grindMinute", "()V"⟩
abbrev cX1_property : ByteArray := prog_3_method_7_code
def yX1_property : MethodName := ⟨RX1, "property", "(I)I"⟩
def RX2 : String := "ForgeHeats$Heat"
def TX2 : u_T := fun k => match k with
  | 0 => ("ForgeHeats$Heat", "stock", "I", false)
  | 1 => ("ForgeHeats$Heat", "low", "I", false)
  | 2 => ("ForgeHeats$Heat", "high", "I", false)
  | 3 => ("ForgeHeats$Heat", "made", "I", false)
  | _ => ("ForgeHeats$Heat", "scrap", "I", false)
def tyX2 : Nat → FieldType := fun k => match k with
  | 0 => .int
  | 1 => .int
  | 2 => .int
  | 3 => .int
  | _ => .int
abbrev wsX20 : List Cond := u_ws RX2 TX2 5
theorem nmX2 : ∀ a, a < 5 → ∀ b, b < 5 → a ≠ b → (TX2 a).2.1 ≠ (TX2 b).2.1 := by decide +kernel
theorem tyX2_ok : ∀ k, k < 5 → parseFieldDescriptor (TX2 k).2.2.1 = some (tyX2 k) := by decide +kernel
abbrev cX2_init : ByteArray := prog_4_method_1_code
def yX2_init : MethodName := ⟨RX2, "<init>", "()V"⟩
abbrev cX2_copyFrom : ByteArray := prog_4_method_2_code
def yX2_copyFrom : MethodName := ⟨RX2, "copyFrom", "(LForgeHeats$Heat;)V"⟩
def RX3 : String := "ForgeHeats$Job"
def TX3 : u_T := fun k => match k with
  | 0 => ("ForgeHeats$Job", "number", "I", false)
  | 1 => ("ForgeHeats$Job", "die", "I", false)
  | 2 => ("ForgeHeats$Job", "heat", "I", false)
  | 3 => ("ForgeHeats$Job", "pieces", "I", false)
  | 4 => ("ForgeHeats$Job", "made", "I", false)
  | 5 => ("ForgeHeats$Job", "due", "I", false)
  | 6 => ("ForgeHeats$Job", "isRush", "Z", false)
  | _ => ("ForgeHeats$Job", "billets", "I", false)
def tyX3 : Nat → FieldType := fun k => match k with
  | 0 => .int
  | 1 => .int
  | 2 => .int
  | 3 => .int
  | 4 => .int
  | 5 => .int
  | 6 => .boolean
  | _ => .int
abbrev wsX30 : List Cond := u_ws RX3 TX3 8
theorem nmX3 : ∀ a, a < 8 → ∀ b, b < 8 → a ≠ b → (TX3 a).2.1 ≠ (TX3 b).2.1 := by decide +kernel
theorem tyX3_ok : ∀ k, k < 8 → parseFieldDescriptor (TX3 k).2.2.1 = some (tyX3 k) := by decide +kernel
abbrev cX3_init : ByteArray := prog_5_method_1_code
def yX3_init : MethodName := ⟨RX3, "<init>", "()V"⟩
abbrev cX3_copyFrom : ByteArray := prog_5_method_2_code
def yX3_copyFrom : MethodName := ⟨RX3, "copyFrom", "(LForgeHeats$Job;)V"⟩
abbrev cX3_comesBefore : ByteArray := prog_5_method_3_code
def yX3_comesBefore : MethodName := ⟨RX3, "comesBefore", "(LForgeHeats$Job;)Z"⟩
abbrev cX3_lack : ByteArray := prog_5_method_4_code
def yX3_lack : MethodName := ⟨RX3, "lack", "()I"⟩
def RX4 : String := "ForgeHeats$JobText"
def TX4 : u_T := fun k => match k with
  | 0 => ("ForgeHeats$JobText", "codes", "[C", true)
  | 1 => ("ForgeHeats$JobText", "length", "I", false)
  | 2 => ("ForgeHeats$JobText", "position", "I", false)
  | 3 => ("ForgeHeats$JobText", "expected", "I", false)
  | 4 => ("ForgeHeats$JobText", "pieces", "I", false)
  | 5 => ("ForgeHeats$JobText", "die", "I", false)
  | 6 => ("ForgeHeats$JobText", "heat", "I", false)
  | 7 => ("ForgeHeats$JobText", "due", "I", false)
  | _ => ("ForgeHeats$JobText", "isRush", "Z", false)
def tyX4 : Nat → FieldType := fun k => match k with
  | 0 => .array .char
  | 1 => .int
  | 2 => .int
  | 3 => .int
  | 4 => .int
  | 5 => .int
  | 6 => .int
  | 7 => .int
  | _ => .boolean
abbrev wsX40 : List Cond := u_ws RX4 TX4 9
theorem nmX4 : ∀ a, a < 9 → ∀ b, b < 9 → a ≠ b → (TX4 a).2.1 ≠ (TX4 b).2.1 := by decide +kernel
theorem tyX4_ok : ∀ k, k < 9 → parseFieldDescriptor (TX4 k).2.2.1 = some (tyX4 k) := by decide +kernel
abbrev cX4_init : ByteArray := prog_6_method_1_code
def yX4_init : MethodName := ⟨RX4, "<init>", "()V"⟩
def RX5 : String := "ForgeHeats$Shop"
def TX5 : u_T := fun k => match k with
  | 0 => ("ForgeHeats$Shop", "heats", "[LForgeHeats$Heat;", true)
  | 1 => ("ForgeHeats$Shop", "dies", "[LForgeHeats$Die;", true)
  | 2 => ("ForgeHeats$Shop", "jobs", "[LForgeHeats$Job;", true)
  | 3 => ("ForgeHeats$Shop", "furnace", "[LForgeHeats$Billet;", true)
  | 4 => ("ForgeHeats$Shop", "press", "LForgeHeats$Billet;", true)
  | 5 => ("ForgeHeats$Shop", "jobCount", "I", false)
  | 6 => ("ForgeHeats$Shop", "nextNumber", "I", false)
  | 7 => ("ForgeHeats$Shop", "warming", "I", false)
  | 8 => ("ForgeHeats$Shop", "cooling", "I", false)
  | 9 => ("ForgeHeats$Shop", "reheats", "I", false)
  | 10 => ("ForgeHeats$Shop", "grinding", "I", false)
  | 11 => ("ForgeHeats$Shop", "minutes", "I", false)
  | 12 => ("ForgeHeats$Shop", "blows", "I", false)
  | 13 => ("ForgeHeats$Shop", "goneJobs", "I", false)
  | 14 => ("ForgeHeats$Shop", "lateJobs", "I", false)
  | 15 => ("ForgeHeats$Shop", "lateMinutes", "I", false)
  | 16 => ("ForgeHeats$Shop", "noHeat", "LForgeHeats$Heat;", true)
  | 17 => ("ForgeHeats$Shop", "noDie", "LForgeHeats$Die;", true)
  | _ => ("ForgeHeats$Shop", "noJob", "LForgeHeats$Job;", true)
def tyX5 : Nat → FieldType := fun k => match k with
  | 0 => .array (.object "ForgeHeats$Heat")
  | 1 => .array (.object "ForgeHeats$Die")
  | 2 => .array (.object "ForgeHeats$Job")
  | 3 => .array (.object "ForgeHeats$Billet")
  | 4 => .object "ForgeHeats$Billet"
  | 5 => .int
  | 6 => .int
  | 7 => .int
  | 8 => .int
  | 9 => .int
  | 10 => .int
  | 11 => .int
  | 12 => .int
  | 13 => .int
  | 14 => .int
  | 15 => .int
  | 16 => .object "ForgeHeats$Heat"
  | 17 => .object "ForgeHeats$Die"
  | _ => .object "ForgeHeats$Job"
abbrev wsX50 : List Cond := u_ws RX5 TX5 19
theorem nmX5 : ∀ a, a < 19 → ∀ b, b < 19 → a ≠ b → (TX5 a).2.1 ≠ (TX5 b).2.1 := by decide +kernel
theorem tyX5_ok : ∀ k, k < 19 → parseFieldDescriptor (TX5 k).2.2.1 = some (tyX5 k) := by decide +kernel
abbrev cX5_init : ByteArray := prog_7_method_1_code
def yX5_init : MethodName := ⟨RX5, "<init>", "()V"⟩
abbrev cX5_copyFrom : ByteArray := prog_7_method_2_code
def yX5_copyFrom : MethodName := ⟨RX5, "copyFrom", "(LForgeHeats$Shop;)V"⟩
abbrev cX5_copyNumbersFrom : ByteArray := prog_7_method_3_code
def yX5_copyNumbersFrom : MethodName := ⟨RX5, "copyNumbersFrom", "(LForgeHeats$Shop;)V"⟩
abbrev cX5_heatAt : ByteArray := prog_7_method_4_code
def yX5_heatAt : MethodName := ⟨RX5, "heatAt", "(I)LForgeHeats$Heat;"⟩
abbrev cX5_dieAt : ByteArray := prog_7_method_5_code
def yX5_dieAt : MethodName := ⟨RX5, "dieAt", "(I)LForgeHeats$Die;"⟩
abbrev cX5_jobAt : ByteArray := prog_7_method_6_code
def yX5_jobAt : MethodName := ⟨RX5, "jobAt", "(I)LForgeHeats$Job;"⟩
abbrev cX5_billetAt : ByteArray := prog_7_method_7_code
def yX5_billetAt : MethodName := ⟨RX5, "billetAt", "(I)LForgeHeats$Billet;"⟩
abbrev cX5_addJob : ByteArray := prog_7_method_8_code
def yX5_addJob : MethodName := ⟨RX5, "addJob", "(IIIIZ)I"⟩
abbrev cX5_hasten : ByteArray := prog_7_method_9_code
def yX5_hasten : MethodName := ⟨RX5, "hasten", "(IZ)I"⟩
abbrev cX5_settle : ByteArray := prog_7_method_10_code
def yX5_settle : MethodName := ⟨RX5, "settle", "(I)I"⟩
abbrev cX5_swapJobs : ByteArray := prog_7_method_11_code
def yX5_swapJobs : MethodName := ⟨RX5, "swapJobs", "(II)V"⟩
abbrev cX5_placeOf : ByteArray := prog_7_method_12_code
def yX5_placeOf : MethodName := ⟨RX5, "placeOf", "(I)I"⟩
abbrev cX5_removeJob : ByteArray := prog_7_method_13_code
def yX5_removeJob : MethodName := ⟨RX5, "removeJob", "(I)V"⟩
abbrev cX5_dropJob : ByteArray := prog_7_method_14_code
def yX5_dropJob : MethodName := ⟨RX5, "dropJob", "(I)I"⟩
abbrev cX5_valueOf : ByteArray := prog_7_method_15_code
def yX5_valueOf : MethodName := ⟨RX5, "valueOf", "(I)I"⟩
abbrev cX5_putValue : ByteArray := prog_7_method_16_code
def yX5_putValue : MethodName := ⟨RX5, "putValue", "(II)V"⟩
abbrev cX5_countMade : ByteArray := prog_7_method_17_code
def yX5_countMade : MethodName := ⟨RX5, "countMade", "()I"⟩
abbrev cX5_countScrap : ByteArray := prog_7_method_18_code
def yX5_countScrap : MethodName := ⟨RX5, "countScrap", "()I"⟩
abbrev cX5_countRushJobs : ByteArray := prog_7_method_19_code
def yX5_countRushJobs : MethodName := ⟨RX5, "countRushJobs", "()I"⟩
abbrev cX5_countInFurnace : ByteArray := prog_7_method_20_code
def yX5_countInFurnace : MethodName := ⟨RX5, "countInFurnace", "()I"⟩
abbrev cX5_heatProperty : ByteArray := prog_7_method_21_code
def yX5_heatProperty : MethodName := ⟨RX5, "heatProperty", "(II)I"⟩
abbrev cX5_countBilletsOf : ByteArray := prog_7_method_22_code
def yX5_countBilletsOf : MethodName := ⟨RX5, "countBilletsOf", "(I)I"⟩
abbrev cX5_countLackOf : ByteArray := prog_7_method_23_code
def yX5_countLackOf : MethodName := ⟨RX5, "countLackOf", "(I)I"⟩
abbrev cX5_jobProperty : ByteArray := prog_7_method_24_code
def yX5_jobProperty : MethodName := ⟨RX5, "jobProperty", "(II)I"⟩
abbrev cX5_reasonToWait : ByteArray := prog_7_method_25_code
def yX5_reasonToWait : MethodName := ⟨RX5, "reasonToWait", "(LForgeHeats$Job;)I"⟩
abbrev cX5_dieBeingGround : ByteArray := prog_7_method_26_code
def yX5_dieBeingGround : MethodName := ⟨RX5, "dieBeingGround", "()I"⟩
abbrev cX5_freePlace : ByteArray := prog_7_method_27_code
def yX5_freePlace : MethodName := ⟨RX5, "freePlace", "()LForgeHeats$Billet;"⟩
abbrev cX5_hottestReady : ByteArray := prog_7_method_28_code
def yX5_hottestReady : MethodName := ⟨RX5, "hottestReady", "(LForgeHeats$Job;)LForgeHeats$Billet;"⟩
abbrev cX5_passMinutes : ByteArray := prog_7_method_29_code
def yX5_passMinutes : MethodName := ⟨RX5, "passMinutes", "(I)V"⟩
abbrev cX5_passMinute : ByteArray := prog_7_method_30_code
def yX5_passMinute : MethodName := ⟨RX5, "passMinute", "()V"⟩
abbrev cX5_warmFurnace : ByteArray := prog_7_method_31_code
def yX5_warmFurnace : MethodName := ⟨RX5, "warmFurnace", "()V"⟩
abbrev cX5_chargeFurnace : ByteArray := prog_7_method_32_code
def yX5_chargeFurnace : MethodName := ⟨RX5, "chargeFurnace", "()V"⟩
abbrev cX5_loadPress : ByteArray := prog_7_method_33_code
def yX5_loadPress : MethodName := ⟨RX5, "loadPress", "()V"⟩
abbrev cX5_workPress : ByteArray := prog_7_method_34_code
def yX5_workPress : MethodName := ⟨RX5, "workPress", "(I)V"⟩
abbrev cX5_sendBack : ByteArray := prog_7_method_35_code
def yX5_sendBack : MethodName := ⟨RX5, "sendBack", "(LForgeHeats$Job;LForgeHeats$Heat;)V"⟩
abbrev cX5_countGone : ByteArray := prog_7_method_36_code
def yX5_countGone : MethodName := ⟨RX5, "countGone", "(LForgeHeats$Job;)V"⟩
abbrev cX5_tendDies : ByteArray := prog_7_method_37_code
def yX5_tendDies : MethodName := ⟨RX5, "tendDies", "()V"⟩
def RX6 : String := "ForgeHeats"
def TX6 : u_T := fun k => match k with
  | 0 => ("ForgeHeats", "shop", "LForgeHeats$Shop;", true)
  | 1 => ("ForgeHeats", "trial", "LForgeHeats$Shop;", true)
  | 2 => ("ForgeHeats", "past", "[LForgeHeats$Shop;", true)
  | 3 => ("ForgeHeats", "pastStates", "I", false)
  | _ => ("ForgeHeats", "text", "LForgeHeats$JobText;", true)
def tyX6 : Nat → FieldType := fun k => match k with
  | 0 => .object "ForgeHeats$Shop"
  | 1 => .object "ForgeHeats$Shop"
  | 2 => .array (.object "ForgeHeats$Shop")
  | 3 => .int
  | _ => .object "ForgeHeats$JobText"
abbrev wsX60 : List Cond := u_ws RX6 TX6 5
theorem nmX6 : ∀ a, a < 5 → ∀ b, b < 5 → a ≠ b → (TX6 a).2.1 ≠ (TX6 b).2.1 := by decide +kernel
theorem tyX6_ok : ∀ k, k < 5 → parseFieldDescriptor (TX6 k).2.2.1 = some (tyX6 k) := by decide +kernel
abbrev cX6_init : ByteArray := prog_1_method_1_code
def yX6_init : MethodName := ⟨RX6, "<init>", "()V"⟩
abbrev cX6_stock : ByteArray := prog_1_method_2_code
def yX6_stock : MethodName := ⟨RX6, "stock", "(II)I"⟩
abbrev cX6_range : ByteArray := prog_1_method_3_code
def yX6_range : MethodName := ⟨RX6, "range", "(III)I"⟩
abbrev cX6_die : ByteArray := prog_1_method_4_code
def yX6_die : MethodName := ⟨RX6, "die", "(III)I"⟩
abbrev cX6_grind : ByteArray := prog_1_method_5_code
def yX6_grind : MethodName := ⟨RX6, "grind", "(I)I"⟩
abbrev cX6_job : ByteArray := prog_1_method_6_code
def yX6_job : MethodName := ⟨RX6, "job", "(IIIIZ)I"⟩
abbrev cX6_cancel : ByteArray := prog_1_method_7_code
def yX6_cancel : MethodName := ⟨RX6, "cancel", "(I)I"⟩
abbrev cX6_rush : ByteArray := prog_1_method_8_code
def yX6_rush : MethodName := ⟨RX6, "rush", "(IZ)I"⟩
abbrev cX6_set : ByteArray := prog_1_method_9_code
def yX6_set : MethodName := ⟨RX6, "set", "(II)I"⟩
abbrev cX6_pass : ByteArray := prog_1_method_10_code
def yX6_pass : MethodName := ⟨RX6, "pass", "(I)I"⟩
abbrev cX6_undo : ByteArray := prog_1_method_15_code
def yX6_undo : MethodName := ⟨RX6, "undo", "()I"⟩
abbrev cX6_heat : ByteArray := prog_1_method_16_code
def yX6_heat : MethodName := ⟨RX6, "heat", "(II)I"⟩
abbrev cX6_dieOf : ByteArray := prog_1_method_17_code
def yX6_dieOf : MethodName := ⟨RX6, "dieOf", "(II)I"⟩
abbrev cX6_jobOf : ByteArray := prog_1_method_18_code
def yX6_jobOf : MethodName := ⟨RX6, "jobOf", "(II)I"⟩
abbrev cX6_billet : ByteArray := prog_1_method_19_code
def yX6_billet : MethodName := ⟨RX6, "billet", "(II)I"⟩
abbrev cX6_count : ByteArray := prog_1_method_20_code
def yX6_count : MethodName := ⟨RX6, "count", "(I)I"⟩
abbrev cX6_setting : ByteArray := prog_1_method_21_code
def yX6_setting : MethodName := ⟨RX6, "setting", "(I)I"⟩
abbrev cX6_saved : ByteArray := prog_1_method_26_code
def yX6_saved : MethodName := ⟨RX6, "saved", "()D"⟩
abbrev cX6_isWithin : ByteArray := prog_1_method_28_code
def yX6_isWithin : MethodName := ⟨RX6, "isWithin", "(III)Z"⟩
abbrev cX6_leastValue : ByteArray := prog_1_method_29_code
def yX6_leastValue : MethodName := ⟨RX6, "leastValue", "(I)I"⟩
abbrev cX6_mostValue : ByteArray := prog_1_method_30_code
def yX6_mostValue : MethodName := ⟨RX6, "mostValue", "(I)I"⟩
abbrev cX6_remember : ByteArray := prog_1_method_31_code
def yX6_remember : MethodName := ⟨RX6, "remember", "()V"⟩
abbrev cX6_dropOldest : ByteArray := prog_1_method_32_code
def yX6_dropOldest : MethodName := ⟨RX6, "dropOldest", "()V"⟩
abbrev cX6_pastAt : ByteArray := prog_1_method_33_code
def yX6_pastAt : MethodName := ⟨RX6, "pastAt", "(I)LForgeHeats$Shop;"⟩
abbrev cX6_numberOf : ByteArray := prog_1_method_34_code
def yX6_numberOf : MethodName := ⟨RX6, "numberOf", "(I)I"⟩
abbrev cX6_shareMade : ByteArray := prog_1_method_41_code
def yX6_shareMade : MethodName := ⟨RX6, "shareMade", "()D"⟩
def RX7 : String := "ForgeHeatsModel"
def TX7 : u_T := fun k => match k with
  | _ => ("", "", "", false)
def tyX7 : Nat → FieldType := fun k => match k with
  | _ => .int
abbrev wsX70 : List Cond := u_ws RX7 TX7 0
theorem nmX7 : ∀ a, a < 0 → ∀ b, b < 0 → a ≠ b → (TX7 a).2.1 ≠ (TX7 b).2.1 := by decide +kernel
theorem tyX7_ok : ∀ k, k < 0 → parseFieldDescriptor (TX7 k).2.2.1 = some (tyX7 k) := by decide +kernel
def RJ9 : String := "java/lang/Math"
def TJ9 : u_T := fun k => match k with
  | _ => ("", "", "", false)
def tyJ9 : Nat → FieldType := fun k => match k with
  | _ => .int
abbrev wsJ90 : List Cond := u_ws RJ9 TJ9 0
abbrev cJ9_max_7cf53 : ByteArray := prog_14_method_65_code
def yJ9_max_7cf53 : MethodName := ⟨RJ9, "max", "(II)I"⟩
abbrev cJ9_min_7cf53 : ByteArray := prog_14_method_69_code
def yJ9_min_7cf53 : MethodName := ⟨RJ9, "min", "(II)I"⟩
def RJ0 : String := "java/lang/String"
def TJ0 : u_T := fun k => match k with
  | _ => ("", "", "", false)
def tyJ0 : Nat → FieldType := fun k => match k with
  | _ => .int
abbrev wsJ00 : List Cond := u_ws RJ0 TJ0 0
def RL : String := "ForgeHeatsLaw"
abbrev cL_cell : ByteArray := method_2_code
def yL_cell : MethodName := ⟨RL, "cell", "([II)I"⟩
abbrev cL_low : ByteArray := method_3_code
def yL_low : MethodName := ⟨RL, "low", "(II)I"⟩
abbrev cL_told : ByteArray := method_4_code
def yL_told : MethodName := ⟨RL, "told", "(LForgeHeats;)J"⟩
abbrev cL_acts : ByteArray := method_5_code
def yL_acts : MethodName := ⟨RL, "acts", "(LForgeHeats;II)I"⟩
abbrev cL_holds : ByteArray := method_6_code
def yL_holds : MethodName := ⟨RL, "holds", "(LForgeHeats;[I)Z"⟩
abbrev cL_law : ByteArray := code
def yL_law : MethodName := ⟨RL, "law", "([I)Z"⟩
