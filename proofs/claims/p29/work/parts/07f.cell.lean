theorem q_15 : (Jvm.Cond.classLink "ForgeHeatsLaw" (13 : Nat) "ForgeHeats") ∈ lw_T := lw_T_of (lw_in 15 (by decide +kernel)) rfl
theorem q_16 : (Jvm.Cond.instantiable "ForgeHeats" (5 : Nat)) ∈ lw_T := lw_T_of (lw_in 16 (by decide +kernel)) rfl
theorem q_17 : (Jvm.Cond.methodLink "ForgeHeatsLaw" (73 : Nat) ({ cls := "ForgeHeats", name := "<init>", desc := "()V" } : Jvm.MethodName)) ∈ lw_T := lw_T_of (lw_in 17 (by decide +kernel)) rfl
theorem q_18 : (Jvm.Cond.instanceMethod ({ cls := "ForgeHeats", name := "<init>", desc := "()V" } : Jvm.MethodName)) ∈ lw_T := lw_T_of (lw_in 18 (by decide +kernel)) rfl
theorem q_19 : (Jvm.Cond.code ({ cls := "ForgeHeats", name := "<init>", desc := "()V" } : Jvm.MethodName) prog_1_method_1_code (2 : Nat) (Option.none : Option Jvm.ClassFile.FieldType)) ∈ lw_T := lw_T_of (lw_in 19 (by decide +kernel)) rfl
theorem q_267 : (Jvm.Cond.methodLink "ForgeHeatsLaw" (78 : Nat) ({ cls := "ForgeHeats", name := "undo", desc := "()I" } : Jvm.MethodName)) ∈ lw_T := lw_T_of (lw_in 267 (by decide +kernel)) rfl
theorem q_268 : (Jvm.Cond.instanceMethod ({ cls := "ForgeHeats", name := "undo", desc := "()I" } : Jvm.MethodName)) ∈ lw_T := lw_T_of (lw_in 268 (by decide +kernel)) rfl
theorem q_269 : (Jvm.Cond.selects "ForgeHeats" ({ cls := "ForgeHeats", name := "undo", desc := "()I" } : Jvm.MethodName) ({ cls := "ForgeHeats", name := "undo", desc := "()I" } : Jvm.MethodName)) ∈ lw_T := lw_T_of (lw_in 269 (by decide +kernel)) rfl
theorem q_270 : (Jvm.Cond.code ({ cls := "ForgeHeats", name := "undo", desc := "()I" } : Jvm.MethodName) prog_1_method_15_code (2 : Nat) (Option.some Jvm.ClassFile.FieldType.int)) ∈ lw_T := lw_T_of (lw_in 270 (by decide +kernel)) rfl
theorem q_434 : (Jvm.Cond.methodLink "ForgeHeatsLaw" (74 : Nat) ({ cls := "ForgeHeatsLaw", name := "cell", desc := "([II)I" } : Jvm.MethodName)) ∈ lw_T := lw_T_of (lw_in 434 (by decide +kernel)) rfl
theorem q_435 : (Jvm.Cond.static ({ cls := "ForgeHeatsLaw", name := "cell", desc := "([II)I" } : Jvm.MethodName)) ∈ lw_T := lw_T_of (lw_in 435 (by decide +kernel)) rfl
theorem q_436 : (Jvm.Cond.code ({ cls := "ForgeHeatsLaw", name := "cell", desc := "([II)I" } : Jvm.MethodName) method_2_code (2 : Nat) (Option.some Jvm.ClassFile.FieldType.int)) ∈ lw_T := lw_T_of (lw_in 436 (by decide +kernel)) rfl
theorem q_437 : (Jvm.Cond.methodLink "ForgeHeatsLaw" (82 : Nat) ({ cls := "ForgeHeatsLaw", name := "told", desc := "(LForgeHeats;)J" } : Jvm.MethodName)) ∈ lw_T := lw_T_of (lw_in 437 (by decide +kernel)) rfl
theorem q_438 : (Jvm.Cond.static ({ cls := "ForgeHeatsLaw", name := "told", desc := "(LForgeHeats;)J" } : Jvm.MethodName)) ∈ lw_T := lw_T_of (lw_in 438 (by decide +kernel)) rfl
set_option maxRecDepth 100000 in
theorem q_439 : (Jvm.Cond.code ({ cls := "ForgeHeatsLaw", name := "told", desc := "(LForgeHeats;)J" } : Jvm.MethodName) method_4_code (5 : Nat) (Option.some Jvm.ClassFile.FieldType.long)) ∈ lw_T := lw_T_of (lw_in 439 rfl) rfl
theorem q_529 : (Jvm.Cond.methodLink "ForgeHeatsLaw" (86 : Nat) ({ cls := "ForgeHeatsLaw", name := "acts", desc := "(LForgeHeats;II)I" } : Jvm.MethodName)) ∈ lw_T := lw_T_of (lw_in 529 (by decide +kernel)) rfl
theorem q_530 : (Jvm.Cond.static ({ cls := "ForgeHeatsLaw", name := "acts", desc := "(LForgeHeats;II)I" } : Jvm.MethodName)) ∈ lw_T := lw_T_of (lw_in 530 (by decide +kernel)) rfl
set_option maxRecDepth 100000 in
theorem q_531 : (Jvm.Cond.code ({ cls := "ForgeHeatsLaw", name := "acts", desc := "(LForgeHeats;II)I" } : Jvm.MethodName) method_5_code (10 : Nat) (Option.some Jvm.ClassFile.FieldType.int)) ∈ lw_T := lw_T_of (lw_in 531 rfl) rfl
theorem q_694 : (Jvm.Cond.methodLink "ForgeHeatsLaw" (90 : Nat) ({ cls := "ForgeHeatsLaw", name := "holds", desc := "(LForgeHeats;[I)Z" } : Jvm.MethodName)) ∈ lw_T := lw_T_of (lw_in 694 (by decide +kernel)) rfl
theorem q_695 : (Jvm.Cond.static ({ cls := "ForgeHeatsLaw", name := "holds", desc := "(LForgeHeats;[I)Z" } : Jvm.MethodName)) ∈ lw_T := lw_T_of (lw_in 695 (by decide +kernel)) rfl
set_option maxRecDepth 100000 in
theorem q_696 : (Jvm.Cond.code ({ cls := "ForgeHeatsLaw", name := "holds", desc := "(LForgeHeats;[I)Z" } : Jvm.MethodName) method_6_code (12 : Nat) (Option.some Jvm.ClassFile.FieldType.boolean)) ∈ lw_T := lw_T_of (lw_in 696 rfl) rfl
theorem q_705 : (Jvm.Cond.arrayClass Jvm.ClassFile.FieldType.int) ∈ lw_T := lw_T_of (lw_in 705 (by decide +kernel)) rfl
theorem yd_X6_init : yX6_init.cls ≠ "java/lang/invoke/MethodHandle" ∧ yX6_init.cls ≠ "java/lang/invoke/VarHandle" ∧ (parseMethodDescriptor yX6_init.desc).map (fun d => d.parameters.length) = some 0 := by decide +kernel
theorem yd_L_cell : yL_cell.cls ≠ "java/lang/invoke/MethodHandle" ∧ yL_cell.cls ≠ "java/lang/invoke/VarHandle" ∧ (parseMethodDescriptor yL_cell.desc).map (fun d => d.parameters.length) = some 2 := by decide +kernel
/-! THE CLAIM OUT OF ONE WALK OF THE LAW'S BODY. Your part is whole_start (and what it stands on); all else here is the same for every law, but numbers. -/
def R_law : String := "ForgeHeatsLaw"
def lw_P (b : Addr) (xs : List Int32) (args : Array Value) (s : State) : Prop := args = #[.ref b] ∧ s.IntsAt b xs ∧ xs.length ≤ 260 ∧ (Jvm.Cond.and given_1 narrow_1).before args s = true
/-- what a walk over the start with the record d0 says of its end, said of the start itself -/
theorem lw_closed {s t : State} {o : Outcome} {d0 : Drawn} {L : List Loc} {k n : Nat} (hd0 : s.drawn.sameBut d0 lw_cs) (hv : ∃ v, o = .returned v) (hW : (s.setDrawn d0).WarmedH t.vm) (hs : (s.setDrawn d0).sameButNew ({ t with vm := s.vm } : State) L k n) : State.butDraws s t lw_cs (fun t1 => Framed s o t1 L k n) := by
  have h2 : t.drawn = d0 := congrArg State.drawn hs.1
  refine ⟨⟨hv, hW, State.sameButNew.setDrawn hs s.drawn⟩, ?_, by decide⟩
  rw [h2]
  exact hd0
def lw_Q (_ : Array Value) (s : State) (o : Outcome) (t : State) : Prop := o = .returned (some (.int 1)) ∧ State.butDraws s t lw_cs (fun t1 => Framed s o t1 [] 652991 7142724)
def lw_Z (below : List Frame) (a : Array Value) (s : State) : State → Prop := fun t => ∃ o, t.status = .running ∧ Ended t below o ∧ lw_Q a s o t
/-- the law's own end, with 1 on the stack, nothing written that was there before, its room as the claim has it; d0: the record of draws at this point (at the entry s.drawn: begin with 'refine W.base ?_' and 'have hd0 := Drawn.sameBut.refl s.drawn lw_cs') -/
theorem lw_ret {p : Program} {l : Launch} {e : Env} {s : State} {m : MethodId} {below : List Frame} {meth : Method} {c : Code} {b : Nat} {d0 : Drawn} (hd0 : s.drawn.sameBut d0 lw_cs) (hx : p.tables.exec = Jvm.exec) (hb : c.code = code) (hr : meth.sig.returnType = ret) (hlocks : meth.locks = false) {pc : Nat} {H : Heap} {ls : Array Slot} (hdg : decode code pc = .ok (.ireturn, 1)) : W p l e room_1 (s.setDrawn d0) m #[Value.ref b] below meth c H [] 652991 7142724 (lw_Z below #[Value.ref b] s) (F0 m pc ls [.int 1]) := by
  intro T hT X
  obtain ⟨fs, hret, hrun, hended, hW, hframe⟩ := X.leave (v := some (.int 1)) (hlocks := hlocks) (fun h => by rw [hr] at h; cases h)
  have hmeth' : T.vm.method? m = some meth := X.method'
  refine ⟨T.setFrames fs, ?_, .returned (some (.int 1)), hrun, hended, rfl, lw_closed hd0 ⟨_, rfl⟩ hW hframe⟩
  jvm_step X.here [X.here.top, hx, hb, hdg, hmeth', hr, ret, narrow_b1]
  (try refine ⟨rfl, ?_⟩); (try refine ⟨rfl, ?_⟩)
  first | (intro acts; rw [hret _ acts rfl rfl rfl]) | rw [hret _ _ rfl rfl rfl]
  exact Steps.refl _
/-- what holds at the law's entry: the machine, the code, the tables' words (any of lw_tbl by 'hts w (by decide +kernel)'), the script of L ints xs at the cell b, what the Statement gives of the start (any of its parts by flat_of_before) -/
def lw_At (p : Program) (s : State) (m : MethodId) (meth : Method) (c : Code) (b L : Nat) (xs : Nat → Int32) : Prop :=
  p.tables.exec = Jvm.exec ∧ c.code = code ∧ meth.sig.returnType = ret ∧ c.maxLocals = 13 ∧ s.vm.findClass R_law = some m.cls ∧ (∀ w ∈ lw_tbl, w.before #[Value.ref b] s = true) ∧ va_X b L xs s s.heap ∧ b < s.heap.size ∧ meth.locks = false ∧ (Jvm.Cond.and given_1 narrow_1).before #[Value.ref b] s = true
abbrev m_SX (D : va_G) (cA : Nat → ClassId) (b n : Nat) (M : Mem) (sb L : Nat) (xs : Nat → Int32) (U : State) : Prop := m_St D cA b n M U ∧ va_X sb L xs U U.heap ∧ sb < U.heap.size
abbrev m_CS (l : Launch) (D : va_G) (cA : Nat → ClassId) (b n : Nat) (M : Mem) (y : MethodName) (bytes : ByteArray) (maxL : Nat) (ret : Option FieldType) (rm : Room) (sb L : Nat) (xs : Nat → Int32) (av : List Value) (res : Option Value → Mem → Prop) : Prop :=
  Met l y (Cond.code y bytes maxL ret :: lw_T) rm (va_Pc av (m_SX D cA b n M sb L xs)) (m_Q D cA b n res) 0 0 (m_A b)
theorem m_blindS {D : va_G} {cA : Nat → ClassId} {b n sb L : Nat} {xs : Nat → Int32} {M : Mem} {av : List Value} : FrameBlind (va_Pc av (m_SX D cA b n M sb L xs)) := by
  intro a U g mk h
  obtain ⟨h1, ⟨h2, h3⟩, h4, h5⟩ := h
  exact ⟨h1, ⟨va_K.moved (u := U) (U := U.calling g mk a) (Vm.Alike.refl U.vm) h2, h3⟩, va_X.moved (u := U) (U := U.calling g mk a) (Vm.Alike.refl U.vm) h4, h5⟩
section MS
variable {p : Program} {l : Launch} {e : Env} {R : Room} {s : State} {m : MethodId} {args : Array Value} {below : List Frame} {meth : Method} {c : Code} {H : Heap} {locs : List Loc} {cells slots : Nat} {Q : State → Prop}
variable {cc : ByteArray} {pc : Nat} {ls : Array Slot} {rest : List Value} {nL : Nat} {own : String} {D : va_G} {cA : Nat → ClassId} {b n : Nat} {M : Mem}
theorem m_enterS {y : MethodName} {bytes : ByteArray} {maxL sb L : Nat} {xs : Nat → Int32} {ret : Option FieldType} {rm : Room} {av : List Value} {res : Option Value → Mem → Prop} (hy : plainName y.cls = true) (hlen : (lg_sl av).length ≤ maxL)
    (body : ∀ (p : Program) (e : Env) (s : State) (m : MethodId) (below : List Frame) (meth : Method) (c : Code), CallFix p m c bytes maxL s av.toArray lw_T y.cls → meth.sig.returnType = ret → meth.locks = false → va_X sb L xs s s.heap → sb < s.heap.size → m_K D cA s → m_H D cA b n M s.heap → va_S (m_A b) s.heap s.heap [] →
      ∀ ls : Array Slot, lv_has ls maxL (lv_args 0 av) → W p l e rm s m av.toArray below meth c s.heap [] 0 0 (MQ below (m_Q D cA b n res) av.toArray s 0 0 (m_A b)) (F0 m 0 ls [])) :
    m_CS l D cA b n M y bytes maxL ret rm sb L xs av res := by
  refine Met.ofW (cc := bytes) (maxL := maxL) (ret := ret) hy rfl ?_
  intro p e s m args below meth c s₁ B hml hv
  obtain ⟨rfl, ⟨hK, hP⟩, hX, hbl⟩ := hv
  have hts := atoms_spec (ws := Cond.code y bytes maxL ret :: lw_T) B.pre
  have hl := lv_entry av (n := maxL) hlen
  rw [lg_entry_eq]
  exact body p e s m below meth c ⟨B.exec, B.bytes, hml, findClass_of_methodNamed B.named, fun w hw => hts w (List.mem_cons_of_mem _ hw)⟩ B.returns B.notSynchronized hX hbl hK hP va_S.rf _ hl
theorem m_callSX {y : MethodName} {bytes : ByteArray} {maxL index np sb L : Nat} {xs : Nat → Int32} {ret : Option FieldType} {rm : Room} {As : List Value} {P : Int32 → Mem → Prop} {st0 : List Value} (C : CallFix p m c cc nL s args lw_T own) (hK : m_K D cA s) (hX : va_X sb L xs s s.heap) (hbl : sb < s.heap.size) (hbA : ¬ m_A b sb) (hP : m_H D cA b n M H) (hS : va_S (m_A b) s.heap H locs) (hlv : ls.size = nL) (hcs : cells ≤ R.cells ∧ slots ≤ R.slots)
    (hM : m_CS l D cA b n M y bytes maxL ret rm sb L xs As (rI P)) (hst : st0 = As.reverse ++ rest) (hn : As.length = np)
    (hml : Cond.methodLink own index y ∈ lw_T) (hsm : Cond.static y ∈ lw_T) (hini : Cond.initialized y.cls ∈ lw_T) (hco : Cond.code y bytes maxL ret ∈ lw_T) (hc : rm.cells = 0 ∧ rm.slots = 0)
    (hd : y.cls ≠ "java/lang/invoke/MethodHandle" ∧ y.cls ≠ "java/lang/invoke/VarHandle" ∧ (parseMethodDescriptor y.desc).map (fun d => d.parameters.length) = some np) (hR : rm.frames + 1 ≤ R.frames ∧ 8 + (maxL + 11) + rm.locals ≤ R.locals) (hroom : (rest.map fun v => v.category).sum ≤ 8) (hdg : decode cc pc = .ok (.invokestatic index, 3))
    (kk : ∀ (r : Int32) (M' : Mem) (H1 : Heap) (locs1 : List Loc), P r M' → m_H D cA b n M' H1 → va_S (m_A b) s.heap H1 locs1 → W p l e R s m args below meth c H1 locs1 cells slots Q (F0 m (pc + 3) ls (.int r :: rest))) : W p l e R s m args below meth c H locs cells slots Q (F0 m pc ls st0) :=
  m_res (y := y) rfl hS (va_runS C hM ⟨m_callB C hc hml hini hco hd hR, C.2.2.2.2 _ hsm⟩ ⟨m_blindS, fun U hU hW => ⟨rfl, ⟨hK.moved hW.alike, by rw [hU]; exact hP⟩, by rw [hU]; exact va_X.moved hW.alike (hX.kept (hS.2.1 sb hbl hbA)), by rw [hU]; exact Nat.lt_of_lt_of_le hbl hS.1⟩⟩ rfl hn hlv hst (lv_room hroom) hdg ⟨hcs.1, hcs.2⟩) (fun v M' H1 locs1 hv h1 h2 => by obtain ⟨r, rfl, hq⟩ := hv; exact kk r M' H1 locs1 hq h1 h2)
end MS
def wp_L_cell (xs : Nat → Int32) (L : Nat) (M : Mem) (p2 : Int32) (P : Int32 → Mem → Prop) : Prop := (((Int32.ofNat L) ≤ p2 → P ((7919 * (p2 + 3)) * (p2 + 11)) M) ∧ (¬ (Int32.ofNat L) ≤ p2 → vp_in p2 L ∧ (P (xs p2.toNatClampNeg) M)))
abbrev rm_L_cell : Room := { frames := 0, cells := 0, slots := 0, locals := 0 }
set_option maxHeartbeats 4000000 in
set_option maxRecDepth 100000 in
theorem c_L_cell {l : Launch} {D : va_G} {cA : Nat → ClassId} {b n sb L : Nat} {xs : Nat → Int32} {M : Mem} {p2 : Int32} {P : Int32 → Mem → Prop} (hbA : ¬ m_A b sb) (h : wp_L_cell xs L M p2 P) : m_CS l D cA b n M yL_cell cL_cell 2 (some .int) rm_L_cell sb L xs [.ref sb, .int p2] (rI P) := by
  refine m_enterS (by decide) (Nat.le_of_ble_eq_true rfl) (fun p e s m below meth c C hr hlk hX hbl hK hP hS ls hl => ?_)
  have hx := C.1
  have hb := C.2.1
  have hl : lv_has ls 2 [(0, .ref sb), (1, .int p2)] := hl
  unfold wp_L_cell at h
  refine lv_iload_n (pc := 0) hx hb dL_cell_0 rfl (lv_at hl 1 rfl) ?_
  refine lv_aload_n (pc := 1) hx hb dL_cell_1 rfl (lv_at hl 0 rfl) ?_
  refine va_slen (pc := 2) hx hb hX hbl hbA hS dL_cell_2 ?_
  refine lv_icmp_ge (tgt := 12) (pc := 3) hx hb dL_cell_3 (by decide) (fun c3 => ?_) (fun c3 => ?_)
  · replace h := h.1 c3
    refine lv_sipush (v := 7919) (pc := 12) hx hb dL_cell_12 (by decide) ?_
    refine lv_iload_n (pc := 15) hx hb dL_cell_15 rfl (lv_at hl 1 rfl) ?_
    refine lv_iconst (v := 3) (pc := 16) hx hb dL_cell_16 (by decide) ?_
    refine lv_iadd (pc := 17) hx hb dL_cell_17 ?_
    refine lv_imul (pc := 18) hx hb dL_cell_18 ?_
    refine lv_iload_n (pc := 19) hx hb dL_cell_19 rfl (lv_at hl 1 rfl) ?_
    refine lv_bipush (v := 11) (pc := 20) hx hb dL_cell_20 (by decide) ?_
    refine lv_iadd (pc := 22) hx hb dL_cell_22 ?_
    refine lv_imul (pc := 23) hx hb dL_cell_23 ?_
    exact m_iret (v := (7919 * (p2 + 3)) * (p2 + 11)) (pc := 24) C hr hlk hP hS dL_cell_24 h
  · replace h := h.2 c3
    refine lv_aload_n (pc := 6) hx hb dL_cell_6 rfl (lv_at hl 0 rfl) ?_
    refine lv_iload_n (pc := 7) hx hb dL_cell_7 rfl (lv_at hl 1 rfl) ?_
    obtain ⟨hi1, h⟩ := h
    refine va_sld (pc := 8) hx hb hX hbl hbA hS hi1 dL_cell_8 ?_
    refine lv_goto (tgt := 24) (pc := 9) hx hb dL_cell_9 (by decide) ?_
    exact m_iret (v := xs p2.toNatClampNeg) (pc := 24) C hr hlk hP hS dL_cell_24 h
