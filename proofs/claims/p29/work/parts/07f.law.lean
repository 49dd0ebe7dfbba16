theorem q_15 : (Jvm.Cond.classLink "ForgeHeatsLaw" (13 : Nat) "ForgeHeats") ∈ lw_T := lw_T_of (lw_in 15 (by decide +kernel)) rfl
theorem q_16 : (Jvm.Cond.instantiable "ForgeHeats" (5 : Nat)) ∈ lw_T := lw_T_of (lw_in 16 (by decide +kernel)) rfl
theorem q_17 : (Jvm.Cond.methodLink "ForgeHeatsLaw" (73 : Nat) ({ cls := "ForgeHeats", name := "<init>", desc := "()V" } : Jvm.MethodName)) ∈ lw_T := lw_T_of (lw_in 17 (by decide +kernel)) rfl
theorem q_18 : (Jvm.Cond.instanceMethod ({ cls := "ForgeHeats", name := "<init>", desc := "()V" } : Jvm.MethodName)) ∈ lw_T := lw_T_of (lw_in 18 (by decide +kernel)) rfl
theorem q_19 : (Jvm.Cond.code ({ cls := "ForgeHeats", name := "<init>", desc := "()V" } : Jvm.MethodName) prog_1_method_1_code (2 : Nat) (Option.none : Option Jvm.ClassFile.FieldType)) ∈ lw_T := lw_T_of (lw_in 19 (by decide +kernel)) rfl
theorem q_267 : (Jvm.Cond.methodLink "ForgeHeatsLaw" (78 : Nat) ({ cls := "ForgeHeats", name := "undo", desc := "()I" } : Jvm.MethodName)) ∈ lw_T := lw_T_of (lw_in 267 (by decide +kernel)) rfl
theorem q_268 : (Jvm.Cond.instanceMethod ({ cls := "ForgeHeats", name := "undo", desc := "()I" } : Jvm.MethodName)) ∈ lw_T := lw_T_of (lw_in 268 (by decide +kernel)) rfl
theorem q_269 : (Jvm.Cond.selects "ForgeHeats" ({ cls := "ForgeHeats", name := "undo", desc := "()I" } : Jvm.MethodName) ({ cls := "ForgeHeats", name := "undo", desc := "()I" } : Jvm.MethodName)) ∈ lw_T := lw_T_of (lw_in 269 (by decide +kernel)) rfl
theorem q_270 : (Jvm.Cond.code ({ cls := "ForgeHeats", name := "undo", desc := "()I" } : Jvm.MethodName) prog_1_method_15_code (2 : Nat) (Option.some Jvm.ClassFile.FieldType.int)) ∈ lw_T := lw_T_of (lw_in 270 (by decide +kernel)) rfl
theorem q_434 : (Jvm.Cond.methodLink "ForgeHeatsLaw" (74 : Nat) ({ cls := "ForgeHeatsLaw", name := "cell", desc := "([II)I" } : Jvm.MethodName)) ∈ lw_T := lw_T_of (lw_in 434 (by decide +kernel)) rfl
theorem q_435 : (Jvm.Cond.static ({ cls := "ForgeHeatsLaw", name := "cell", desc := "([II)I" } : Jvm.MethodName)) ∈ lw_T := lw_T_of (lw_in 435 (by decide +kernel)) rfl
theorem q_436 : (Jvm.Cond.code ({ cls := "ForgeHeatsLaw", name := "cell", desc := "([II)I" } : Jvm.MethodName) method_2_code (2 : Nat) (Option.some Jvm.ClassFile.FieldType.int)) ∈ lw_T := lw_T_of (lw_in 436 (by decide +kernel)) rfl
theorem q_437 : (Jvm.Cond.methodLink "ForgeHeatsLaw" (82 : Nat) ({ cls := "ForgeHeatsLaw", name := "told", desc := "(LForgeHeats;)J" } : Jvm.MethodName)) ∈ lw_T := lw_T_of (lw_in 437 (by decide +kernel)) rfl
theorem q_438 : (Jvm.Cond.static ({ cls := "ForgeHeatsLaw", name := "told", desc := "(LForgeHeats;)J" } : Jvm.MethodName)) ∈ lw_T := lw_T_of (lw_in 438 (by decide +kernel)) rfl
theorem q_439 : (Jvm.Cond.code ({ cls := "ForgeHeatsLaw", name := "told", desc := "(LForgeHeats;)J" } : Jvm.MethodName) method_4_code (5 : Nat) (Option.some Jvm.ClassFile.FieldType.long)) ∈ lw_T := lw_T_of (lw_in 439 (by decide +kernel)) rfl
theorem q_529 : (Jvm.Cond.methodLink "ForgeHeatsLaw" (86 : Nat) ({ cls := "ForgeHeatsLaw", name := "acts", desc := "(LForgeHeats;II)I" } : Jvm.MethodName)) ∈ lw_T := lw_T_of (lw_in 529 (by decide +kernel)) rfl
theorem q_530 : (Jvm.Cond.static ({ cls := "ForgeHeatsLaw", name := "acts", desc := "(LForgeHeats;II)I" } : Jvm.MethodName)) ∈ lw_T := lw_T_of (lw_in 530 (by decide +kernel)) rfl
theorem q_531 : (Jvm.Cond.code ({ cls := "ForgeHeatsLaw", name := "acts", desc := "(LForgeHeats;II)I" } : Jvm.MethodName) method_5_code (10 : Nat) (Option.some Jvm.ClassFile.FieldType.int)) ∈ lw_T := lw_T_of (lw_in 531 (by decide +kernel)) rfl
theorem q_694 : (Jvm.Cond.methodLink "ForgeHeatsLaw" (90 : Nat) ({ cls := "ForgeHeatsLaw", name := "holds", desc := "(LForgeHeats;[I)Z" } : Jvm.MethodName)) ∈ lw_T := lw_T_of (lw_in 694 (by decide +kernel)) rfl
theorem q_695 : (Jvm.Cond.static ({ cls := "ForgeHeatsLaw", name := "holds", desc := "(LForgeHeats;[I)Z" } : Jvm.MethodName)) ∈ lw_T := lw_T_of (lw_in 695 (by decide +kernel)) rfl
theorem q_696 : (Jvm.Cond.code ({ cls := "ForgeHeatsLaw", name := "holds", desc := "(LForgeHeats;[I)Z" } : Jvm.MethodName) method_6_code (12 : Nat) (Option.some Jvm.ClassFile.FieldType.boolean)) ∈ lw_T := lw_T_of (lw_in 696 (by decide +kernel)) rfl
theorem q_705 : (Jvm.Cond.arrayClass Jvm.ClassFile.FieldType.int) ∈ lw_T := lw_T_of (lw_in 705 (by decide +kernel)) rfl
theorem yd_X6_init : yX6_init.cls ≠ "java/lang/invoke/MethodHandle" ∧ yX6_init.cls ≠ "java/lang/invoke/VarHandle" ∧ (parseMethodDescriptor yX6_init.desc).map (fun d => d.parameters.length) = some 0 := by decide +kernel
theorem yd_L_cell : yL_cell.cls ≠ "java/lang/invoke/MethodHandle" ∧ yL_cell.cls ≠ "java/lang/invoke/VarHandle" ∧ (parseMethodDescriptor yL_cell.desc).map (fun d => d.parameters.length) = some 2 := by decide +kernel
/-! THE CLAIM OUT OF ONE WALK OF THE LAW'S BODY. Your part is whole_start (and what it stands on); all else here is the same for every law, but numbers. -/
def R_law : String := "ForgeHeatsLaw"
def lw_P (b : Addr) (xs : List Int32) (args : Array Value) (s : State) : Prop := args = #[.ref b] ∧ s.IntsAt b xs ∧ xs.length ≤ 260 ∧ (Jvm.Cond.and given_1 narrow_1).before args s = true
/-- what a walk over the start with the record d0 says of its end, said of the start itself -/
theorem lw_closed {s t : State} {o : Outcome} {d0 : Drawn} {L : List Loc} {k n : Nat} (hd0 : s.drawn.sameBut d0 lw_cs) (hv : ∃ v, o = .returned v) (hW : (s.setDrawn d0).WarmedH t.vm) (hs : (s.setDrawn d0).sameButNew ({ t with vm := s.vm } : State) L k n) : State.butDraws s t lw_cs (fun t1 => Framed s o t1 L k n) := by
  have h2 : t.drawn = d0 := congrArg State.drawn hs.1
  refine ⟨⟨hv, hW, State.sameButNew.setDrawn hs s.drawn⟩, ?_, by decide⟩
  rw [h2]
  exact hd0
def lw_Q (_ : Array Value) (s : State) (o : Outcome) (t : State) : Prop := o = .returned (some (.int 1)) ∧ State.butDraws s t lw_cs (fun t1 => Framed s o t1 [] 652991 7142724)
def lw_Z (below : List Frame) (a : Array Value) (s : State) : State → Prop := fun t => ∃ o, t.status = .running ∧ Ended t below o ∧ lw_Q a s o t
/-- the law's own end, with 1 on the stack, nothing written that was there before, its room as the claim has it; d0: the record of draws at this point (at the entry s.drawn: begin with 'refine W.base ?_' and 'have hd0 := Drawn.sameBut.refl s.drawn lw_cs') -/
theorem lw_ret {p : Program} {l : Launch} {e : Env} {s : State} {m : MethodId} {below : List Frame} {meth : Method} {c : Code} {b : Nat} {d0 : Drawn} (hd0 : s.drawn.sameBut d0 lw_cs) (hx : p.tables.exec = Jvm.exec) (hb : c.code = code) (hr : meth.sig.returnType = ret) (hlocks : meth.locks = false) {pc : Nat} {H : Heap} {ls : Array Slot} (hdg : decode code pc = .ok (.ireturn, 1)) : W p l e room_1 (s.setDrawn d0) m #[Value.ref b] below meth c H [] 652991 7142724 (lw_Z below #[Value.ref b] s) (F0 m pc ls [.int 1]) := by
  intro T hT X
  obtain ⟨fs, hret, hrun, hended, hW, hframe⟩ := X.leave (v := some (.int 1)) (hlocks := hlocks) (fun h => by rw [hr] at h; cases h)
  have hmeth' : T.vm.method? m = some meth := X.method'
  refine ⟨T.setFrames fs, ?_, .returned (some (.int 1)), hrun, hended, rfl, lw_closed hd0 ⟨_, rfl⟩ hW hframe⟩
  jvm_step X.here [X.here.top, hx, hb, hdg, hmeth', hr, ret, narrow_b1]
  (try refine ⟨rfl, ?_⟩); (try refine ⟨rfl, ?_⟩)
  first | (intro acts; rw [hret _ acts rfl rfl rfl]) | rw [hret _ _ rfl rfl rfl]
  exact Steps.refl _
/-- what holds at the law's entry: the machine, the code, the tables' words (any of lw_tbl by 'hts w (by decide +kernel)'), the script of L ints xs at the cell b, what the Statement gives of the start (any of its parts by flat_of_before) -/
def lw_At (p : Program) (s : State) (m : MethodId) (meth : Method) (c : Code) (b L : Nat) (xs : Nat → Int32) : Prop :=
  p.tables.exec = Jvm.exec ∧ c.code = code ∧ meth.sig.returnType = ret ∧ c.maxLocals = 13 ∧ s.vm.findClass R_law = some m.cls ∧ (∀ w ∈ lw_tbl, w.before #[Value.ref b] s = true) ∧ va_X b L xs s s.heap ∧ b < s.heap.size ∧ meth.locks = false ∧ (Jvm.Cond.and given_1 narrow_1).before #[Value.ref b] s = true
abbrev m_SX (D : va_G) (cA : Nat → ClassId) (b n : Nat) (M : Mem) (sb L : Nat) (xs : Nat → Int32) (U : State) : Prop := m_St D cA b n M U ∧ va_X sb L xs U U.heap ∧ sb < U.heap.size
abbrev m_CS (l : Launch) (D : va_G) (cA : Nat → ClassId) (b n : Nat) (M : Mem) (y : MethodName) (bytes : ByteArray) (maxL : Nat) (ret : Option FieldType) (rm : Room) (sb L : Nat) (xs : Nat → Int32) (av : List Value) (res : Option Value → Mem → Prop) : Prop :=
  Met l y (Cond.code y bytes maxL ret :: lw_T) rm (va_Pc av (m_SX D cA b n M sb L xs)) (m_Q D cA b n res) 0 0 (m_A b)
theorem m_blindS {D : va_G} {cA : Nat → ClassId} {b n sb L : Nat} {xs : Nat → Int32} {M : Mem} {av : List Value} : FrameBlind (va_Pc av (m_SX D cA b n M sb L xs)) := by
  intro a U g mk h
  obtain ⟨h1, ⟨h2, h3⟩, h4, h5⟩ := h
  exact ⟨h1, ⟨va_K.moved (u := U) (U := U.calling g mk a) (Vm.Alike.refl U.vm) h2, h3⟩, va_X.moved (u := U) (U := U.calling g mk a) (Vm.Alike.refl U.vm) h4, h5⟩
section MS
variable {p : Program} {l : Launch} {e : Env} {R : Room} {s : State} {m : MethodId} {args : Array Value} {below : List Frame} {meth : Method} {c : Code} {H : Heap} {locs : List Loc} {cells slots : Nat} {Q : State → Prop}
variable {cc : ByteArray} {pc : Nat} {ls : Array Slot} {rest : List Value} {nL : Nat} {own : String} {D : va_G} {cA : Nat → ClassId} {b n : Nat} {M : Mem}
theorem m_enterS {y : MethodName} {bytes : ByteArray} {maxL sb L : Nat} {xs : Nat → Int32} {ret : Option FieldType} {rm : Room} {av : List Value} {res : Option Value → Mem → Prop} (hy : plainName y.cls = true) (hlen : (lg_sl av).length ≤ maxL)
    (body : ∀ (p : Program) (e : Env) (s : State) (m : MethodId) (below : List Frame) (meth : Method) (c : Code), CallFix p m c bytes maxL s av.toArray lw_T y.cls → meth.sig.returnType = ret → meth.locks = false → va_X sb L xs s s.heap → sb < s.heap.size → m_K D cA s → m_H D cA b n M s.heap → va_S (m_A b) s.heap s.heap [] →
      ∀ ls : Array Slot, lv_has ls maxL (lv_args 0 av) → W p l e rm s m av.toArray below meth c s.heap [] 0 0 (MQ below (m_Q D cA b n res) av.toArray s 0 0 (m_A b)) (F0 m 0 ls [])) :
    m_CS l D cA b n M y bytes maxL ret rm sb L xs av res := by
  refine Met.ofW (cc := bytes) (maxL := maxL) (ret := ret) hy rfl ?_
  intro p e s m args below meth c s₁ B hml hv
  obtain ⟨rfl, ⟨hK, hP⟩, hX, hbl⟩ := hv
  have hts := atoms_spec (ws := Cond.code y bytes maxL ret :: lw_T) B.pre
  have hl := lv_entry av (n := maxL) hlen
  rw [lg_entry_eq]
  exact body p e s m below meth c ⟨B.exec, B.bytes, hml, findClass_of_methodNamed B.named, fun w hw => hts w (List.mem_cons_of_mem _ hw)⟩ B.returns B.notSynchronized hX hbl hK hP va_S.rf _ hl
theorem m_callSX {y : MethodName} {bytes : ByteArray} {maxL index np sb L : Nat} {xs : Nat → Int32} {ret : Option FieldType} {rm : Room} {As : List Value} {P : Int32 → Mem → Prop} {st0 : List Value} (C : CallFix p m c cc nL s args lw_T own) (hK : m_K D cA s) (hX : va_X sb L xs s s.heap) (hbl : sb < s.heap.size) (hbA : ¬ m_A b sb) (hP : m_H D cA b n M H) (hS : va_S (m_A b) s.heap H locs) (hlv : ls.size = nL) (hcs : cells ≤ R.cells ∧ slots ≤ R.slots)
    (hM : m_CS l D cA b n M y bytes maxL ret rm sb L xs As (rI P)) (hst : st0 = As.reverse ++ rest) (hn : As.length = np)
    (hml : Cond.methodLink own index y ∈ lw_T) (hsm : Cond.static y ∈ lw_T) (hini : Cond.initialized y.cls ∈ lw_T) (hco : Cond.code y bytes maxL ret ∈ lw_T) (hc : rm.cells = 0 ∧ rm.slots = 0)
    (hd : y.cls ≠ "java/lang/invoke/MethodHandle" ∧ y.cls ≠ "java/lang/invoke/VarHandle" ∧ (parseMethodDescriptor y.desc).map (fun d => d.parameters.length) = some np) (hR : rm.frames + 1 ≤ R.frames ∧ 8 + (maxL + 11) + rm.locals ≤ R.locals) (hroom : (rest.map fun v => v.category).sum ≤ 8) (hdg : decode cc pc = .ok (.invokestatic index, 3))
    (kk : ∀ (r : Int32) (M' : Mem) (H1 : Heap) (locs1 : List Loc), P r M' → m_H D cA b n M' H1 → va_S (m_A b) s.heap H1 locs1 → W p l e R s m args below meth c H1 locs1 cells slots Q (F0 m (pc + 3) ls (.int r :: rest))) : W p l e R s m args below meth c H locs cells slots Q (F0 m pc ls st0) :=
  m_res (y := y) rfl hS (va_runS C hM ⟨m_callB C hc hml hini hco hd hR, C.2.2.2.2 _ hsm⟩ ⟨m_blindS, fun U hU hW => ⟨rfl, ⟨hK.moved hW.alike, by rw [hU]; exact hP⟩, by rw [hU]; exact va_X.moved hW.alike (hX.kept (hS.2.1 sb hbl hbA)), by rw [hU]; exact Nat.lt_of_lt_of_le hbl hS.1⟩⟩ rfl hn hlv hst (lv_room hroom) hdg ⟨hcs.1, hcs.2⟩) (fun v M' H1 locs1 hv h1 h2 => by obtain ⟨r, rfl, hq⟩ := hv; exact kk r M' H1 locs1 hq h1 h2)
end MS
def wp_L_cell (xs : Nat → Int32) (L : Nat) (M : Mem) (p2 : Int32) (P : Int32 → Mem → Prop) : Prop := (((Int32.ofNat L) ≤ p2 → P ((7919 * (p2 + 3)) * (p2 + 11)) M) ∧ (¬ (Int32.ofNat L) ≤ p2 → vp_in p2 L ∧ (P (xs p2.toNatClampNeg) M)))
abbrev rm_L_cell : Room := { frames := 0, cells := 0, slots := 0, locals := 0 }
set_option maxHeartbeats 4000000 in
set_option maxRecDepth 100000 in
theorem c_L_cell {l : Launch} {D : va_G} {cA : Nat → ClassId} {b n sb L : Nat} {xs : Nat → Int32} {M : Mem} {p2 : Int32} {P : Int32 → Mem → Prop} (hbA : ¬ m_A b sb) (h : wp_L_cell xs L M p2 P) : m_CS l D cA b n M yL_cell cL_cell 2 (some .int) rm_L_cell sb L xs [.ref sb, .int p2] (rI P) := by
  refine m_enterS (by decide) (Nat.le_of_ble_eq_true rfl) (fun p e s m below meth c C hr hlk hX hbl hK hP hS ls hl => ?_)
  have hx := C.1
  have hb := C.2.1
  have hl : lv_has ls 2 [(0, .ref sb), (1, .int p2)] := hl
  unfold wp_L_cell at h
  refine lv_iload_n (pc := 0) hx hb dL_cell_0 rfl (lv_at hl 1 rfl) ?_
  refine lv_aload_n (pc := 1) hx hb dL_cell_1 rfl (lv_at hl 0 rfl) ?_
  refine va_slen (pc := 2) hx hb hX hbl hbA hS dL_cell_2 ?_
  refine lv_icmp_ge (tgt := 12) (pc := 3) hx hb dL_cell_3 (by decide) (fun c3 => ?_) (fun c3 => ?_)
  · replace h := h.1 c3
    refine lv_sipush (v := 7919) (pc := 12) hx hb dL_cell_12 (by decide) ?_
    refine lv_iload_n (pc := 15) hx hb dL_cell_15 rfl (lv_at hl 1 rfl) ?_
    refine lv_iconst (v := 3) (pc := 16) hx hb dL_cell_16 (by decide) ?_
    refine lv_iadd (pc := 17) hx hb dL_cell_17 ?_
    refine lv_imul (pc := 18) hx hb dL_cell_18 ?_
    refine lv_iload_n (pc := 19) hx hb dL_cell_19 rfl (lv_at hl 1 rfl) ?_
    refine lv_bipush (v := 11) (pc := 20) hx hb dL_cell_20 (by decide) ?_
    refine lv_iadd (pc := 22) hx hb dL_cell_22 ?_
    refine lv_imul (pc := 23) hx hb dL_cell_23 ?_
    exact m_iret (v := (7919 * (p2 + 3)) * (p2 + 11)) (pc := 24) C hr hlk hP hS dL_cell_24 h
  · replace h := h.2 c3
    refine lv_aload_n (pc := 6) hx hb dL_cell_6 rfl (lv_at hl 0 rfl) ?_
    refine lv_iload_n (pc := 7) hx hb dL_cell_7 rfl (lv_at hl 1 rfl) ?_
    obtain ⟨hi1, h⟩ := h
    refine va_sld (pc := 8) hx hb hX hbl hbA hS hi1 dL_cell_8 ?_
    refine lv_goto (tgt := 24) (pc := 9) hx hb dL_cell_9 (by decide) ?_
    exact m_iret (v := xs p2.toNatClampNeg) (pc := 24) C hr hlk hP hS dL_cell_24 h
def wpB_L_law_63 (xs : Nat → Int32) (L : Nat) (K_ : Mem → Int32 → Prop) (R_ : Mem → Int32 → Int32 → Int32 → Int32 → Prop) (M : Mem) (x4 : Int32) (x5 : Int32) (x6 : Int32) (x7 : Int32) : Prop := ((x7 ≤ 3 → m_tp 278 0 6 ∧ (wp_X6_count 278 M 0 11 (fun r138 M136 => wp_L_told 278 M136 0 (fun r140 M139 => wp_L_acts 278 M139 0 x5 x6 (fun r142 M141 => wp_L_told 278 M141 0 (fun r144 M143 => ((0 ≤ r142 → wp_X6_count 278 M143 0 11 (fun r146 M145 => ((r146 = (r138 + 1) → ((r142 < 0 → ((r142 < 0 → wp_L_holds 278 M145 0 276 (fun z148 M147 => ((z148 = false → False) ∧ (z148 = true → wp_L_told 278 M147 0 (fun r150 M149 => (((lg_cmp r150 r144) = 0 → ∀ v151 : Int32, v151 = x4 + 1 → (K_ M149 v151)) ∧ (¬ (lg_cmp r150 r144) = 0 → False))))))) ∧ (¬ r142 < 0 → m_tp 278 277 8 ∧ (vp_in r138 (m_len 277) ∧ (∀ M154 : Mem, M154 = uI M145 277 r138.toNatClampNeg r142 → (m_tp 278 276 8 ∧ (vp_in (r142 / 100) (m_len 276) ∧ (vp_in (r142 / 100) (m_len 276) ∧ (∀ M158 : Mem, M158 = uI M154 276 (r142 / 100).toNatClampNeg ((M154.1 276 (r142 / 100).toNatClampNeg) + (r142 - r142 / 100 * 100)) → (wp_L_holds 278 M158 0 276 (fun z160 M159 => ((z160 = false → False) ∧ (z160 = true → wp_L_told 278 M159 0 (fun r162 M161 => (((lg_cmp r162 r144) = 0 → ∀ v163 : Int32, v163 = x4 + 1 → (K_ M161 v163)) ∧ (¬ (lg_cmp r162 r144) = 0 → False)))))))))))))))) ∧ (¬ r142 < 0 → ((¬ ((x5 >>> (13 &&& 31)) &&& 1) = 0 → ((r142 < 0 → wp_L_holds 278 M145 0 276 (fun z165 M164 => ((z165 = false → False) ∧ (z165 = true → wp_L_told 278 M164 0 (fun r167 M166 => (((lg_cmp r167 r144) = 0 → ∀ v168 : Int32, v168 = x4 + 1 → (K_ M166 v168)) ∧ (¬ (lg_cmp r167 r144) = 0 → False))))))) ∧ (¬ r142 < 0 → m_tp 278 277 8 ∧ (vp_in r138 (m_len 277) ∧ (∀ M171 : Mem, M171 = uI M145 277 r138.toNatClampNeg r142 → (m_tp 278 276 8 ∧ (vp_in (r142 / 100) (m_len 276) ∧ (vp_in (r142 / 100) (m_len 276) ∧ (∀ M175 : Mem, M175 = uI M171 276 (r142 / 100).toNatClampNeg ((M171.1 276 (r142 / 100).toNatClampNeg) + (r142 - r142 / 100 * 100)) → (wp_L_holds 278 M175 0 276 (fun z177 M176 => ((z177 = false → False) ∧ (z177 = true → wp_L_told 278 M176 0 (fun r179 M178 => (((lg_cmp r179 r144) = 0 → ∀ v180 : Int32, v180 = x4 + 1 → (K_ M178 v180)) ∧ (¬ (lg_cmp r179 r144) = 0 → False)))))))))))))))) ∧ (((x5 >>> (13 &&& 31)) &&& 1) = 0 → wp_X6_undo 278 M145 0 (fun r182 M181 => ((¬ r182 = r138 → False) ∧ (r182 = r138 → wp_L_told 278 M181 0 (fun r184 M183 => ((¬ (lg_cmp r184 r140) = 0 → False) ∧ ((lg_cmp r184 r140) = 0 → wp_L_acts 278 M183 0 x5 x6 (fun r186 M185 => ((¬ r186 = r142 → False) ∧ (r186 = r142 → wp_L_told 278 M185 0 (fun r188 M187 => (((lg_cmp r188 r144) = 0 → ((r142 < 0 → wp_L_holds 278 M187 0 276 (fun z190 M189 => ((z190 = false → False) ∧ (z190 = true → wp_L_told 278 M189 0 (fun r192 M191 => (((lg_cmp r192 r144) = 0 → ∀ v193 : Int32, v193 = x4 + 1 → (K_ M191 v193)) ∧ (¬ (lg_cmp r192 r144) = 0 → False))))))) ∧ (¬ r142 < 0 → m_tp 278 277 8 ∧ (vp_in r138 (m_len 277) ∧ (∀ M196 : Mem, M196 = uI M187 277 r138.toNatClampNeg r142 → (m_tp 278 276 8 ∧ (vp_in (r142 / 100) (m_len 276) ∧ (vp_in (r142 / 100) (m_len 276) ∧ (∀ M200 : Mem, M200 = uI M196 276 (r142 / 100).toNatClampNeg ((M196.1 276 (r142 / 100).toNatClampNeg) + (r142 - r142 / 100 * 100)) → (wp_L_holds 278 M200 0 276 (fun z202 M201 => ((z202 = false → False) ∧ (z202 = true → wp_L_told 278 M201 0 (fun r204 M203 => (((lg_cmp r204 r144) = 0 → ∀ v205 : Int32, v205 = x4 + 1 → (K_ M203 v205)) ∧ (¬ (lg_cmp r204 r144) = 0 → False)))))))))))))))) ∧ (¬ (lg_cmp r188 r144) = 0 → False))))))))))))))))) ∧ (¬ r146 = (r138 + 1) → False)))) ∧ (¬ 0 ≤ r142 → (((lg_cmp r144 r140) = 0 → ((r142 < 0 → ((r142 < 0 → wp_L_holds 278 M143 0 276 (fun z207 M206 => ((z207 = false → False) ∧ (z207 = true → wp_L_told 278 M206 0 (fun r209 M208 => (((lg_cmp r209 r144) = 0 → ∀ v210 : Int32, v210 = x4 + 1 → (K_ M208 v210)) ∧ (¬ (lg_cmp r209 r144) = 0 → False))))))) ∧ (¬ r142 < 0 → m_tp 278 277 8 ∧ (vp_in r138 (m_len 277) ∧ (∀ M213 : Mem, M213 = uI M143 277 r138.toNatClampNeg r142 → (m_tp 278 276 8 ∧ (vp_in (r142 / 100) (m_len 276) ∧ (vp_in (r142 / 100) (m_len 276) ∧ (∀ M217 : Mem, M217 = uI M213 276 (r142 / 100).toNatClampNeg ((M213.1 276 (r142 / 100).toNatClampNeg) + (r142 - r142 / 100 * 100)) → (wp_L_holds 278 M217 0 276 (fun z219 M218 => ((z219 = false → False) ∧ (z219 = true → wp_L_told 278 M218 0 (fun r221 M220 => (((lg_cmp r221 r144) = 0 → ∀ v222 : Int32, v222 = x4 + 1 → (K_ M220 v222)) ∧ (¬ (lg_cmp r221 r144) = 0 → False)))))))))))))))) ∧ (¬ r142 < 0 → ((¬ ((x5 >>> (13 &&& 31)) &&& 1) = 0 → ((r142 < 0 → wp_L_holds 278 M143 0 276 (fun z224 M223 => ((z224 = false → False) ∧ (z224 = true → wp_L_told 278 M223 0 (fun r226 M225 => (((lg_cmp r226 r144) = 0 → ∀ v227 : Int32, v227 = x4 + 1 → (K_ M225 v227)) ∧ (¬ (lg_cmp r226 r144) = 0 → False))))))) ∧ (¬ r142 < 0 → m_tp 278 277 8 ∧ (vp_in r138 (m_len 277) ∧ (∀ M230 : Mem, M230 = uI M143 277 r138.toNatClampNeg r142 → (m_tp 278 276 8 ∧ (vp_in (r142 / 100) (m_len 276) ∧ (vp_in (r142 / 100) (m_len 276) ∧ (∀ M234 : Mem, M234 = uI M230 276 (r142 / 100).toNatClampNeg ((M230.1 276 (r142 / 100).toNatClampNeg) + (r142 - r142 / 100 * 100)) → (wp_L_holds 278 M234 0 276 (fun z236 M235 => ((z236 = false → False) ∧ (z236 = true → wp_L_told 278 M235 0 (fun r238 M237 => (((lg_cmp r238 r144) = 0 → ∀ v239 : Int32, v239 = x4 + 1 → (K_ M237 v239)) ∧ (¬ (lg_cmp r238 r144) = 0 → False)))))))))))))))) ∧ (((x5 >>> (13 &&& 31)) &&& 1) = 0 → wp_X6_undo 278 M143 0 (fun r241 M240 => ((¬ r241 = r138 → False) ∧ (r241 = r138 → wp_L_told 278 M240 0 (fun r243 M242 => ((¬ (lg_cmp r243 r140) = 0 → False) ∧ ((lg_cmp r243 r140) = 0 → wp_L_acts 278 M242 0 x5 x6 (fun r245 M244 => ((¬ r245 = r142 → False) ∧ (r245 = r142 → wp_L_told 278 M244 0 (fun r247 M246 => (((lg_cmp r247 r144) = 0 → ((r142 < 0 → wp_L_holds 278 M246 0 276 (fun z249 M248 => ((z249 = false → False) ∧ (z249 = true → wp_L_told 278 M248 0 (fun r251 M250 => (((lg_cmp r251 r144) = 0 → ∀ v252 : Int32, v252 = x4 + 1 → (K_ M250 v252)) ∧ (¬ (lg_cmp r251 r144) = 0 → False))))))) ∧ (¬ r142 < 0 → m_tp 278 277 8 ∧ (vp_in r138 (m_len 277) ∧ (∀ M255 : Mem, M255 = uI M246 277 r138.toNatClampNeg r142 → (m_tp 278 276 8 ∧ (vp_in (r142 / 100) (m_len 276) ∧ (vp_in (r142 / 100) (m_len 276) ∧ (∀ M259 : Mem, M259 = uI M255 276 (r142 / 100).toNatClampNeg ((M255.1 276 (r142 / 100).toNatClampNeg) + (r142 - r142 / 100 * 100)) → (wp_L_holds 278 M259 0 276 (fun z261 M260 => ((z261 = false → False) ∧ (z261 = true → wp_L_told 278 M260 0 (fun r263 M262 => (((lg_cmp r263 r144) = 0 → ∀ v264 : Int32, v264 = x4 + 1 → (K_ M262 v264)) ∧ (¬ (lg_cmp r263 r144) = 0 → False)))))))))))))))) ∧ (¬ (lg_cmp r247 r144) = 0 → False))))))))))))))))) ∧ (¬ (lg_cmp r144 r140) = 0 → False)))))))))) ∧ (¬ x7 ≤ 3 → m_tp 278 0 6 ∧ (wp_X6_undo 278 M 0 (fun r267 M265 => m_tp 278 277 8 ∧ (vp_in x7 (m_len 277) ∧ (m_tp 278 276 8 ∧ (vp_in ((M265.1 277 x7.toNatClampNeg) / 100) (m_len 276) ∧ (vp_in x7 (m_len 277) ∧ (vp_in ((M265.1 277 x7.toNatClampNeg) / 100) (m_len 276) ∧ (∀ M274 : Mem, M274 = uI M265 276 ((M265.1 277 x7.toNatClampNeg) / 100).toNatClampNeg ((M265.1 276 ((M265.1 277 x7.toNatClampNeg) / 100).toNatClampNeg) - ((M265.1 277 x7.toNatClampNeg) - (M265.1 277 x7.toNatClampNeg) / 100 * 100)) → (∀ v275 : Int32, v275 = x7 + (-1) → (R_ M274 x4 x5 x6 v275))))))))))))
def wpL_L_law_63 (xs : Nat → Int32) (L : Nat) (K_ : Mem → Int32 → Prop) : Nat → Mem → Int32 → Int32 → Int32 → Int32 → Prop
  | 0 => fun _ _ _ _ _ => False
  | f + 1 => fun M x4 x5 x6 x7 => wpB_L_law_63 xs L K_ (wpL_L_law_63 xs L K_ f) M x4 x5 x6 x7
def wpB_L_law_20 (xs : Nat → Int32) (L : Nat) (R_ : Mem → Int32 → Prop) (M : Mem) (x4 : Int32) : Prop := ((36 ≤ x4 → True) ∧ (¬ 36 ≤ x4 → wp_L_cell xs L M (2 * x4) (fun r1 M2 => wp_L_cell xs L M2 ((2 * x4) + 1) (fun r3 M4 => m_tp 278 0 6 ∧ (wp_X6_count 278 M4 0 11 (fun r7 M5 => ((¬ r7 = 6 → wp_X6_count 278 M5 0 11 (fun r9 M8 => wp_L_told 278 M8 0 (fun r11 M10 => wp_L_acts 278 M10 0 r1 r3 (fun r13 M12 => wp_L_told 278 M12 0 (fun r15 M14 => ((0 ≤ r13 → wp_X6_count 278 M14 0 11 (fun r17 M16 => ((r17 = (r9 + 1) → ((r13 < 0 → ((r13 < 0 → wp_L_holds 278 M16 0 276 (fun z19 M18 => ((z19 = false → False) ∧ (z19 = true → wp_L_told 278 M18 0 (fun r21 M20 => (((lg_cmp r21 r15) = 0 → ∀ v22 : Int32, v22 = x4 + 1 → (R_ M20 v22)) ∧ (¬ (lg_cmp r21 r15) = 0 → False))))))) ∧ (¬ r13 < 0 → m_tp 278 277 8 ∧ (vp_in r9 (m_len 277) ∧ (∀ M25 : Mem, M25 = uI M16 277 r9.toNatClampNeg r13 → (m_tp 278 276 8 ∧ (vp_in (r13 / 100) (m_len 276) ∧ (vp_in (r13 / 100) (m_len 276) ∧ (∀ M29 : Mem, M29 = uI M25 276 (r13 / 100).toNatClampNeg ((M25.1 276 (r13 / 100).toNatClampNeg) + (r13 - r13 / 100 * 100)) → (wp_L_holds 278 M29 0 276 (fun z31 M30 => ((z31 = false → False) ∧ (z31 = true → wp_L_told 278 M30 0 (fun r33 M32 => (((lg_cmp r33 r15) = 0 → ∀ v34 : Int32, v34 = x4 + 1 → (R_ M32 v34)) ∧ (¬ (lg_cmp r33 r15) = 0 → False)))))))))))))))) ∧ (¬ r13 < 0 → ((¬ ((r1 >>> (13 &&& 31)) &&& 1) = 0 → ((r13 < 0 → wp_L_holds 278 M16 0 276 (fun z36 M35 => ((z36 = false → False) ∧ (z36 = true → wp_L_told 278 M35 0 (fun r38 M37 => (((lg_cmp r38 r15) = 0 → ∀ v39 : Int32, v39 = x4 + 1 → (R_ M37 v39)) ∧ (¬ (lg_cmp r38 r15) = 0 → False))))))) ∧ (¬ r13 < 0 → m_tp 278 277 8 ∧ (vp_in r9 (m_len 277) ∧ (∀ M42 : Mem, M42 = uI M16 277 r9.toNatClampNeg r13 → (m_tp 278 276 8 ∧ (vp_in (r13 / 100) (m_len 276) ∧ (vp_in (r13 / 100) (m_len 276) ∧ (∀ M46 : Mem, M46 = uI M42 276 (r13 / 100).toNatClampNeg ((M42.1 276 (r13 / 100).toNatClampNeg) + (r13 - r13 / 100 * 100)) → (wp_L_holds 278 M46 0 276 (fun z48 M47 => ((z48 = false → False) ∧ (z48 = true → wp_L_told 278 M47 0 (fun r50 M49 => (((lg_cmp r50 r15) = 0 → ∀ v51 : Int32, v51 = x4 + 1 → (R_ M49 v51)) ∧ (¬ (lg_cmp r50 r15) = 0 → False)))))))))))))))) ∧ (((r1 >>> (13 &&& 31)) &&& 1) = 0 → wp_X6_undo 278 M16 0 (fun r53 M52 => ((¬ r53 = r9 → False) ∧ (r53 = r9 → wp_L_told 278 M52 0 (fun r55 M54 => ((¬ (lg_cmp r55 r11) = 0 → False) ∧ ((lg_cmp r55 r11) = 0 → wp_L_acts 278 M54 0 r1 r3 (fun r57 M56 => ((¬ r57 = r13 → False) ∧ (r57 = r13 → wp_L_told 278 M56 0 (fun r59 M58 => (((lg_cmp r59 r15) = 0 → ((r13 < 0 → wp_L_holds 278 M58 0 276 (fun z61 M60 => ((z61 = false → False) ∧ (z61 = true → wp_L_told 278 M60 0 (fun r63 M62 => (((lg_cmp r63 r15) = 0 → ∀ v64 : Int32, v64 = x4 + 1 → (R_ M62 v64)) ∧ (¬ (lg_cmp r63 r15) = 0 → False))))))) ∧ (¬ r13 < 0 → m_tp 278 277 8 ∧ (vp_in r9 (m_len 277) ∧ (∀ M67 : Mem, M67 = uI M58 277 r9.toNatClampNeg r13 → (m_tp 278 276 8 ∧ (vp_in (r13 / 100) (m_len 276) ∧ (vp_in (r13 / 100) (m_len 276) ∧ (∀ M71 : Mem, M71 = uI M67 276 (r13 / 100).toNatClampNeg ((M67.1 276 (r13 / 100).toNatClampNeg) + (r13 - r13 / 100 * 100)) → (wp_L_holds 278 M71 0 276 (fun z73 M72 => ((z73 = false → False) ∧ (z73 = true → wp_L_told 278 M72 0 (fun r75 M74 => (((lg_cmp r75 r15) = 0 → ∀ v76 : Int32, v76 = x4 + 1 → (R_ M74 v76)) ∧ (¬ (lg_cmp r75 r15) = 0 → False)))))))))))))))) ∧ (¬ (lg_cmp r59 r15) = 0 → False))))))))))))))))) ∧ (¬ r17 = (r9 + 1) → False)))) ∧ (¬ 0 ≤ r13 → (((lg_cmp r15 r11) = 0 → ((r13 < 0 → ((r13 < 0 → wp_L_holds 278 M14 0 276 (fun z78 M77 => ((z78 = false → False) ∧ (z78 = true → wp_L_told 278 M77 0 (fun r80 M79 => (((lg_cmp r80 r15) = 0 → ∀ v81 : Int32, v81 = x4 + 1 → (R_ M79 v81)) ∧ (¬ (lg_cmp r80 r15) = 0 → False))))))) ∧ (¬ r13 < 0 → m_tp 278 277 8 ∧ (vp_in r9 (m_len 277) ∧ (∀ M84 : Mem, M84 = uI M14 277 r9.toNatClampNeg r13 → (m_tp 278 276 8 ∧ (vp_in (r13 / 100) (m_len 276) ∧ (vp_in (r13 / 100) (m_len 276) ∧ (∀ M88 : Mem, M88 = uI M84 276 (r13 / 100).toNatClampNeg ((M84.1 276 (r13 / 100).toNatClampNeg) + (r13 - r13 / 100 * 100)) → (wp_L_holds 278 M88 0 276 (fun z90 M89 => ((z90 = false → False) ∧ (z90 = true → wp_L_told 278 M89 0 (fun r92 M91 => (((lg_cmp r92 r15) = 0 → ∀ v93 : Int32, v93 = x4 + 1 → (R_ M91 v93)) ∧ (¬ (lg_cmp r92 r15) = 0 → False)))))))))))))))) ∧ (¬ r13 < 0 → ((¬ ((r1 >>> (13 &&& 31)) &&& 1) = 0 → ((r13 < 0 → wp_L_holds 278 M14 0 276 (fun z95 M94 => ((z95 = false → False) ∧ (z95 = true → wp_L_told 278 M94 0 (fun r97 M96 => (((lg_cmp r97 r15) = 0 → ∀ v98 : Int32, v98 = x4 + 1 → (R_ M96 v98)) ∧ (¬ (lg_cmp r97 r15) = 0 → False))))))) ∧ (¬ r13 < 0 → m_tp 278 277 8 ∧ (vp_in r9 (m_len 277) ∧ (∀ M101 : Mem, M101 = uI M14 277 r9.toNatClampNeg r13 → (m_tp 278 276 8 ∧ (vp_in (r13 / 100) (m_len 276) ∧ (vp_in (r13 / 100) (m_len 276) ∧ (∀ M105 : Mem, M105 = uI M101 276 (r13 / 100).toNatClampNeg ((M101.1 276 (r13 / 100).toNatClampNeg) + (r13 - r13 / 100 * 100)) → (wp_L_holds 278 M105 0 276 (fun z107 M106 => ((z107 = false → False) ∧ (z107 = true → wp_L_told 278 M106 0 (fun r109 M108 => (((lg_cmp r109 r15) = 0 → ∀ v110 : Int32, v110 = x4 + 1 → (R_ M108 v110)) ∧ (¬ (lg_cmp r109 r15) = 0 → False)))))))))))))))) ∧ (((r1 >>> (13 &&& 31)) &&& 1) = 0 → wp_X6_undo 278 M14 0 (fun r112 M111 => ((¬ r112 = r9 → False) ∧ (r112 = r9 → wp_L_told 278 M111 0 (fun r114 M113 => ((¬ (lg_cmp r114 r11) = 0 → False) ∧ ((lg_cmp r114 r11) = 0 → wp_L_acts 278 M113 0 r1 r3 (fun r116 M115 => ((¬ r116 = r13 → False) ∧ (r116 = r13 → wp_L_told 278 M115 0 (fun r118 M117 => (((lg_cmp r118 r15) = 0 → ((r13 < 0 → wp_L_holds 278 M117 0 276 (fun z120 M119 => ((z120 = false → False) ∧ (z120 = true → wp_L_told 278 M119 0 (fun r122 M121 => (((lg_cmp r122 r15) = 0 → ∀ v123 : Int32, v123 = x4 + 1 → (R_ M121 v123)) ∧ (¬ (lg_cmp r122 r15) = 0 → False))))))) ∧ (¬ r13 < 0 → m_tp 278 277 8 ∧ (vp_in r9 (m_len 277) ∧ (∀ M126 : Mem, M126 = uI M117 277 r9.toNatClampNeg r13 → (m_tp 278 276 8 ∧ (vp_in (r13 / 100) (m_len 276) ∧ (vp_in (r13 / 100) (m_len 276) ∧ (∀ M130 : Mem, M130 = uI M126 276 (r13 / 100).toNatClampNeg ((M126.1 276 (r13 / 100).toNatClampNeg) + (r13 - r13 / 100 * 100)) → (wp_L_holds 278 M130 0 276 (fun z132 M131 => ((z132 = false → False) ∧ (z132 = true → wp_L_told 278 M131 0 (fun r134 M133 => (((lg_cmp r134 r15) = 0 → ∀ v135 : Int32, v135 = x4 + 1 → (R_ M133 v135)) ∧ (¬ (lg_cmp r134 r15) = 0 → False)))))))))))))))) ∧ (¬ (lg_cmp r118 r15) = 0 → False))))))))))))))))) ∧ (¬ (lg_cmp r15 r11) = 0 → False))))))))) ∧ (r7 = 6 → ∃ f : Nat, wpL_L_law_63 xs L R_ f M5 x4 r1 r3 5))))))))
def wpL_L_law_20 (xs : Nat → Int32) (L : Nat) : Nat → Mem → Int32 → Prop
  | 0 => fun _ _ => False
  | f + 1 => fun M x4 => wpB_L_law_20 xs L (wpL_L_law_20 xs L f) M x4
set_option maxHeartbeats 16000000 in
set_option maxRecDepth 100000 in
theorem law_loop {p : Program} {l : Launch} {e : Env} {s : State} {m : MethodId} {below : List Frame} {meth : Method} {c : Code} {D : va_G} {cA : Nat → ClassId} {b sb L : Nat} {xs : Nat → Int32} (C0 : lw_At p s m meth c sb L xs) (hbs : s.heap.size = b) (hK : m_K D cA s) : ∀ f : Nat, ∀ (M : Mem) (H : Heap) (locs : List Loc) (ls : Array Slot) (x4 : Int32), wpL_L_law_20 xs L f M x4 → m_H D cA b 278 M H → va_S (m_A b) s.heap H locs → lv_has ls 13 [(0, .ref sb), (1, .ref (b + 0)), (2, .ref (b + 276)), (3, .ref (b + 277)), (4, .int x4)] → W p l e room_1 s m #[Value.ref sb] below meth c H locs 278 (1000 * 278) (lw_Z below #[Value.ref sb] s) (F0 m 20 ls []) := by
  obtain ⟨hx, hb, hr, hml, hown, hts, hX, hbl, hlocks, hgv⟩ := C0
  have hbA : ¬ m_A b sb := by
    show ¬ b ≤ sb
    omega
  have C : CallFix p m c cL_law 13 s #[Value.ref sb] lw_T RL := ⟨hx, hb, hml, hown, fun w hw => hts w (List.mem_filter.mp hw).1⟩
  have L63 : ∀ K_ : Mem → Int32 → Prop, (∀ (M : Mem) (H : Heap) (locs : List Loc) (ls : Array Slot) (x4 : Int32), K_ M x4 → m_H D cA b 278 M H → va_S (m_A b) s.heap H locs → lv_has ls 13 [(0, .ref sb), (1, .ref (b + 0)), (2, .ref (b + 276)), (3, .ref (b + 277)), (4, .int x4)] → W p l e room_1 s m #[Value.ref sb] below meth c H locs 278 (1000 * 278) (lw_Z below #[Value.ref sb] s) (F0 m 20 ls [])) → ∀ f : Nat, ∀ (M : Mem) (H : Heap) (locs : List Loc) (ls : Array Slot) (x4 : Int32) (x5 : Int32) (x6 : Int32) (x7 : Int32), wpL_L_law_63 xs L K_ f M x4 x5 x6 x7 → m_H D cA b 278 M H → va_S (m_A b) s.heap H locs → lv_has ls 13 [(0, .ref sb), (1, .ref (b + 0)), (2, .ref (b + 276)), (3, .ref (b + 277)), (4, .int x4), (5, .int x5), (6, .int x6), (7, .int x7)] → W p l e room_1 s m #[Value.ref sb] below meth c H locs 278 (1000 * 278) (lw_Z below #[Value.ref sb] s) (F0 m 63 ls []) := by
    intro K_ hKk
    intro f
    induction f with
    | zero => intro M H locs ls x4 x5 x6 x7 h; exact h.elim
    | succ f ih =>
      intro M H locs ls x4 x5 x6 x7 h hP hS hl
      have h : wpB_L_law_63 xs L K_ (wpL_L_law_63 xs L K_ f) M x4 x5 x6 x7 := h
      unfold wpB_L_law_63 at h
      refine lv_iload (pc := 63) hx hb dL_law_63 (lv_at hl 7 rfl) ?_
      refine lv_iconst (v := 3) (pc := 65) hx hb dL_law_65 (by decide) ?_
      refine lv_icmp_le (tgt := 99) (pc := 66) hx hb dL_law_66 (by decide) (fun c66 => ?_) (fun c66 => ?_)
      · replace h := h.1 c66
        refine lv_aload_n (pc := 99) hx hb dL_law_99 rfl (lv_at hl 1 rfl) ?_
        refine lv_bipush (v := 11) (pc := 100) hx hb dL_law_100 (by decide) ?_
        obtain ⟨hk137, h⟩ := h
        refine m_callVI (pc := 102) (y := yX6_count) (κ := 6) (As := [.int 11]) (rest := []) C hK hP hS hl.1 ⟨Nat.le_of_ble_eq_true rfl, Nat.le_of_ble_eq_true rfl⟩ (c_X6_count h) rfl rfl hk137 (by decide) rfl q_383 q_384 q_385 q_1 q_386 ⟨rfl, rfl⟩ yd_X6_count ⟨Nat.le_of_ble_eq_true rfl, Nat.le_of_ble_eq_true rfl⟩ (Nat.le_of_ble_eq_true rfl) dL_law_102 (fun r138 M136 H locs h hP hS => ?_)
        refine lv_istore (lv' := [(7, .int r138), (0, .ref sb), (1, .ref (b + 0)), (2, .ref (b + 276)), (3, .ref (b + 277)), (4, .int x4), (5, .int x5), (6, .int x6)]) (pc := 105) hx hb dL_law_105 hl (by decide) rfl (fun ls hl => ?_)
        refine lv_aload_n (pc := 107) hx hb dL_law_107 rfl (lv_at hl 2 rfl) ?_
        refine m_callSL (pc := 108) (y := yL_told) (As := [.ref (b + 0)]) (rest := []) C hK hP hS hl.1 ⟨Nat.le_of_ble_eq_true rfl, Nat.le_of_ble_eq_true rfl⟩ (c_L_told h) rfl rfl q_437 q_438 q_0 q_439 ⟨rfl, rfl⟩ yd_L_told ⟨Nat.le_of_ble_eq_true rfl, Nat.le_of_ble_eq_true rfl⟩ (Nat.le_of_ble_eq_true rfl) dL_law_108 (fun r140 M139 H locs h hP hS => ?_)
        refine lv_lstore (lv' := [(8, .long r140), (7, .int r138), (0, .ref sb), (1, .ref (b + 0)), (2, .ref (b + 276)), (3, .ref (b + 277)), (4, .int x4), (5, .int x5), (6, .int x6)]) (pc := 111) hx hb dL_law_111 hl (by decide) rfl (fun ls hl => ?_)
        refine lv_aload_n (pc := 113) hx hb dL_law_113 rfl (lv_at hl 3 rfl) ?_
        refine lv_iload (pc := 114) hx hb dL_law_114 (lv_at hl 7 rfl) ?_
        refine lv_iload (pc := 116) hx hb dL_law_116 (lv_at hl 8 rfl) ?_
        refine m_callSI (pc := 118) (y := yL_acts) (As := [.ref (b + 0), .int x5, .int x6]) (rest := []) C hK hP hS hl.1 ⟨Nat.le_of_ble_eq_true rfl, Nat.le_of_ble_eq_true rfl⟩ (c_L_acts h) rfl rfl q_529 q_530 q_0 q_531 ⟨rfl, rfl⟩ yd_L_acts ⟨Nat.le_of_ble_eq_true rfl, Nat.le_of_ble_eq_true rfl⟩ (Nat.le_of_ble_eq_true rfl) dL_law_118 (fun r142 M141 H locs h hP hS => ?_)
        refine lv_istore (lv' := [(10, .int r142), (8, .long r140), (7, .int r138), (0, .ref sb), (1, .ref (b + 0)), (2, .ref (b + 276)), (3, .ref (b + 277)), (4, .int x4), (5, .int x5), (6, .int x6)]) (pc := 121) hx hb dL_law_121 hl (by decide) rfl (fun ls hl => ?_)
        refine lv_aload_n (pc := 123) hx hb dL_law_123 rfl (lv_at hl 4 rfl) ?_
        refine m_callSL (pc := 124) (y := yL_told) (As := [.ref (b + 0)]) (rest := []) C hK hP hS hl.1 ⟨Nat.le_of_ble_eq_true rfl, Nat.le_of_ble_eq_true rfl⟩ (c_L_told h) rfl rfl q_437 q_438 q_0 q_439 ⟨rfl, rfl⟩ yd_L_told ⟨Nat.le_of_ble_eq_true rfl, Nat.le_of_ble_eq_true rfl⟩ (Nat.le_of_ble_eq_true rfl) dL_law_124 (fun r144 M143 H locs h hP hS => ?_)
        refine lv_lstore (lv' := [(11, .long r144), (10, .int r142), (8, .long r140), (7, .int r138), (0, .ref sb), (1, .ref (b + 0)), (2, .ref (b + 276)), (3, .ref (b + 277)), (4, .int x4), (5, .int x5), (6, .int x6)]) (pc := 127) hx hb dL_law_127 hl (by decide) rfl (fun ls hl => ?_)
        refine lv_iload (pc := 129) hx hb dL_law_129 (lv_at hl 1 rfl) ?_
        refine lv_if_ge (tgt := 145) (pc := 131) hx hb dL_law_131 (by decide) (fun c131 => ?_) (fun c131 => ?_)
        · replace h := h.1 c131
          refine lv_aload_n (pc := 145) hx hb dL_law_145 rfl (lv_at hl 5 rfl) ?_
          refine lv_bipush (v := 11) (pc := 146) hx hb dL_law_146 (by decide) ?_
          refine m_callVI (pc := 148) (y := yX6_count) (κ := 6) (As := [.int 11]) (rest := []) C hK hP hS hl.1 ⟨Nat.le_of_ble_eq_true rfl, Nat.le_of_ble_eq_true rfl⟩ (c_X6_count h) rfl rfl hk137 (by decide) rfl q_383 q_384 q_385 q_1 q_386 ⟨rfl, rfl⟩ yd_X6_count ⟨Nat.le_of_ble_eq_true rfl, Nat.le_of_ble_eq_true rfl⟩ (Nat.le_of_ble_eq_true rfl) dL_law_148 (fun r146 M145 H locs h hP hS => ?_)
          refine lv_iload (pc := 151) hx hb dL_law_151 (lv_at hl 3 rfl) ?_
          refine lv_iconst (v := 1) (pc := 153) hx hb dL_law_153 (by decide) ?_
          refine lv_iadd (pc := 154) hx hb dL_law_154 ?_
          refine lv_icmp_eq (tgt := 160) (pc := 155) hx hb dL_law_155 (by decide) (fun c155 => ?_) (fun c155 => ?_)
          · replace h := h.1 c155
            refine lv_iload (pc := 160) hx hb dL_law_160 (lv_at hl 1 rfl) ?_
            refine lv_if_lt (tgt := 219) (pc := 162) hx hb dL_law_162 (by decide) (fun c162 => ?_) (fun c162 => ?_)
            · replace h := h.1 c162
              refine lv_iload (pc := 219) hx hb dL_law_219 (lv_at hl 1 rfl) ?_
              refine lv_if_lt (tgt := 245) (pc := 221) hx hb dL_law_221 (by decide) (fun c221 => ?_) (fun c221 => ?_)
              · replace h := h.1 c221
                refine lv_aload_n (pc := 245) hx hb dL_law_245 rfl (lv_at hl 5 rfl) ?_
                refine lv_aload_n (pc := 246) hx hb dL_law_246 rfl (lv_at hl 6 rfl) ?_
                refine m_callSZ (pc := 247) (y := yL_holds) (As := [.ref (b + 0), .ref (b + 276)]) (rest := []) C hK hP hS hl.1 ⟨Nat.le_of_ble_eq_true rfl, Nat.le_of_ble_eq_true rfl⟩ (c_L_holds h) rfl rfl q_694 q_695 q_0 q_696 ⟨rfl, rfl⟩ yd_L_holds ⟨Nat.le_of_ble_eq_true rfl, Nat.le_of_ble_eq_true rfl⟩ (Nat.le_of_ble_eq_true rfl) dL_law_247 (fun z148 M147 H locs h hP hS => ?_)
                refine lv_if_eq (tgt := 263) (pc := 250) hx hb dL_law_250 (by decide) (fun c250 => ?_) (fun c250 => ?_)
                · replace h := h.1 (bZ0 c250)
                  refine lv_iconst (v := 0) (pc := 263) hx hb dL_law_263 (by decide) ?_
                  exact h.elim
                · replace h := h.2 (bZ1 c250)
                  refine lv_aload_n (pc := 253) hx hb dL_law_253 rfl (lv_at hl 5 rfl) ?_
                  refine m_callSL (pc := 254) (y := yL_told) (As := [.ref (b + 0)]) (rest := []) C hK hP hS hl.1 ⟨Nat.le_of_ble_eq_true rfl, Nat.le_of_ble_eq_true rfl⟩ (c_L_told h) rfl rfl q_437 q_438 q_0 q_439 ⟨rfl, rfl⟩ yd_L_told ⟨Nat.le_of_ble_eq_true rfl, Nat.le_of_ble_eq_true rfl⟩ (Nat.le_of_ble_eq_true rfl) dL_law_254 (fun r150 M149 H locs h hP hS => ?_)
                  refine lv_lload (pc := 257) hx hb dL_law_257 (lv_at hl 0 rfl) ?_
                  refine W.lcmp (pc := 259) hx hb dL_law_259 ?_
                  refine lv_if_eq (tgt := 265) (pc := 260) hx hb dL_law_260 (by decide) (fun c260 => ?_) (fun c260 => ?_)
                  · replace h := h.1 c260
                    obtain ⟨v151, ev151⟩ : ∃ y : Int32, y = x4 + 1 := ⟨_, rfl⟩
                    replace h := h v151 ev151
                    refine lv_iinc (v := v151) (lv' := [(4, .int v151), (11, .long r144), (10, .int r142), (8, .long r140), (7, .int r138), (0, .ref sb), (1, .ref (b + 0)), (2, .ref (b + 276)), (3, .ref (b + 277)), (5, .int x5), (6, .int x6)]) (pc := 265) hx hb dL_law_265 hl (k := 8) rfl (by rw [ev151]; rfl) (by decide) rfl (fun ls hl => ?_)
                    refine lv_goto (tgt := 20) (pc := 268) hx hb dL_law_268 (by decide) ?_
                    exact hKk _ _ _ _ _ h hP hS (lv_sub hl [5, 6, 7, 8, 0] rfl)
                  · replace h := h.2 c260
                    refine lv_iconst (v := 0) (pc := 263) hx hb dL_law_263 (by decide) ?_
                    exact h.elim
              · replace h := h.2 c221
                refine lv_aload_n (pc := 224) hx hb dL_law_224 rfl (lv_at hl 7 rfl) ?_
                refine lv_iload (pc := 225) hx hb dL_law_225 (lv_at hl 3 rfl) ?_
                refine lv_iload (pc := 227) hx hb dL_law_227 (lv_at hl 1 rfl) ?_
                obtain ⟨hk152, h⟩ := h
                obtain ⟨hi153, h⟩ := h
                refine m_iast (pc := 229) C hK hP hS hk152 hi153 dL_law_229 (fun M154 H locs eM154 hP hS => ?_)
                replace h := h M154 eM154
                refine lv_aload_n (pc := 230) hx hb dL_law_230 rfl (lv_at hl 6 rfl) ?_
                refine lv_iload (pc := 231) hx hb dL_law_231 (lv_at hl 1 rfl) ?_
                refine lv_bipush (v := 100) (pc := 233) hx hb dL_law_233 (by decide) ?_
                refine lv_idiv (pc := 235) hx hb dL_law_235 (by decide) ?_
                refine lv_dup2_11 (pc := 236) hx hb dL_law_236 rfl rfl ?_
                obtain ⟨hk155, h⟩ := h
                obtain ⟨hi156, h⟩ := h
                refine m_iald (pc := 237) C hK hP hk155 hi156 dL_law_237 ?_
                refine lv_iload (pc := 238) hx hb dL_law_238 (lv_at hl 1 rfl) ?_
                refine lv_bipush (v := 100) (pc := 240) hx hb dL_law_240 (by decide) ?_
                refine lv_irem (pc := 242) hx hb dL_law_242 (by decide) ?_
                refine lv_iadd (pc := 243) hx hb dL_law_243 ?_
                obtain ⟨hi157, h⟩ := h
                refine m_iast (pc := 244) C hK hP hS hk155 hi157 dL_law_244 (fun M158 H locs eM158 hP hS => ?_)
                replace h := h M158 eM158
                refine lv_aload_n (pc := 245) hx hb dL_law_245 rfl (lv_at hl 5 rfl) ?_
                refine lv_aload_n (pc := 246) hx hb dL_law_246 rfl (lv_at hl 6 rfl) ?_
                refine m_callSZ (pc := 247) (y := yL_holds) (As := [.ref (b + 0), .ref (b + 276)]) (rest := []) C hK hP hS hl.1 ⟨Nat.le_of_ble_eq_true rfl, Nat.le_of_ble_eq_true rfl⟩ (c_L_holds h) rfl rfl q_694 q_695 q_0 q_696 ⟨rfl, rfl⟩ yd_L_holds ⟨Nat.le_of_ble_eq_true rfl, Nat.le_of_ble_eq_true rfl⟩ (Nat.le_of_ble_eq_true rfl) dL_law_247 (fun z160 M159 H locs h hP hS => ?_)
                refine lv_if_eq (tgt := 263) (pc := 250) hx hb dL_law_250 (by decide) (fun c250 => ?_) (fun c250 => ?_)
                · replace h := h.1 (bZ0 c250)
                  refine lv_iconst (v := 0) (pc := 263) hx hb dL_law_263 (by decide) ?_
                  exact h.elim
                · replace h := h.2 (bZ1 c250)
                  refine lv_aload_n (pc := 253) hx hb dL_law_253 rfl (lv_at hl 5 rfl) ?_
                  refine m_callSL (pc := 254) (y := yL_told) (As := [.ref (b + 0)]) (rest := []) C hK hP hS hl.1 ⟨Nat.le_of_ble_eq_true rfl, Nat.le_of_ble_eq_true rfl⟩ (c_L_told h) rfl rfl q_437 q_438 q_0 q_439 ⟨rfl, rfl⟩ yd_L_told ⟨Nat.le_of_ble_eq_true rfl, Nat.le_of_ble_eq_true rfl⟩ (Nat.le_of_ble_eq_true rfl) dL_law_254 (fun r162 M161 H locs h hP hS => ?_)
                  refine lv_lload (pc := 257) hx hb dL_law_257 (lv_at hl 0 rfl) ?_
                  refine W.lcmp (pc := 259) hx hb dL_law_259 ?_
                  refine lv_if_eq (tgt := 265) (pc := 260) hx hb dL_law_260 (by decide) (fun c260 => ?_) (fun c260 => ?_)
                  · replace h := h.1 c260
                    obtain ⟨v163, ev163⟩ : ∃ y : Int32, y = x4 + 1 := ⟨_, rfl⟩
                    replace h := h v163 ev163
                    refine lv_iinc (v := v163) (lv' := [(4, .int v163), (11, .long r144), (10, .int r142), (8, .long r140), (7, .int r138), (0, .ref sb), (1, .ref (b + 0)), (2, .ref (b + 276)), (3, .ref (b + 277)), (5, .int x5), (6, .int x6)]) (pc := 265) hx hb dL_law_265 hl (k := 8) rfl (by rw [ev163]; rfl) (by decide) rfl (fun ls hl => ?_)
                    refine lv_goto (tgt := 20) (pc := 268) hx hb dL_law_268 (by decide) ?_
                    exact hKk _ _ _ _ _ h hP hS (lv_sub hl [5, 6, 7, 8, 0] rfl)
                  · replace h := h.2 c260
                    refine lv_iconst (v := 0) (pc := 263) hx hb dL_law_263 (by decide) ?_
                    exact h.elim
            · replace h := h.2 c162
              refine lv_iload (pc := 165) hx hb dL_law_165 (lv_at hl 9 rfl) ?_
              refine lv_bipush (v := 13) (pc := 167) hx hb dL_law_167 (by decide) ?_
              refine lv_ishr (pc := 169) hx hb dL_law_169 ?_
              refine lv_iconst (v := 1) (pc := 170) hx hb dL_law_170 (by decide) ?_
              refine lv_iand (pc := 171) hx hb dL_law_171 ?_
              refine lv_if_ne (tgt := 219) (pc := 172) hx hb dL_law_172 (by decide) (fun c172 => ?_) (fun c172 => ?_)
              · replace h := h.1 c172
                refine lv_iload (pc := 219) hx hb dL_law_219 (lv_at hl 1 rfl) ?_
                refine lv_if_lt (tgt := 245) (pc := 221) hx hb dL_law_221 (by decide) (fun c221 => ?_) (fun c221 => ?_)
                · replace h := h.1 c221
                  refine lv_aload_n (pc := 245) hx hb dL_law_245 rfl (lv_at hl 5 rfl) ?_
                  refine lv_aload_n (pc := 246) hx hb dL_law_246 rfl (lv_at hl 6 rfl) ?_
                  refine m_callSZ (pc := 247) (y := yL_holds) (As := [.ref (b + 0), .ref (b + 276)]) (rest := []) C hK hP hS hl.1 ⟨Nat.le_of_ble_eq_true rfl, Nat.le_of_ble_eq_true rfl⟩ (c_L_holds h) rfl rfl q_694 q_695 q_0 q_696 ⟨rfl, rfl⟩ yd_L_holds ⟨Nat.le_of_ble_eq_true rfl, Nat.le_of_ble_eq_true rfl⟩ (Nat.le_of_ble_eq_true rfl) dL_law_247 (fun z165 M164 H locs h hP hS => ?_)
                  refine lv_if_eq (tgt := 263) (pc := 250) hx hb dL_law_250 (by decide) (fun c250 => ?_) (fun c250 => ?_)
                  · replace h := h.1 (bZ0 c250)
                    refine lv_iconst (v := 0) (pc := 263) hx hb dL_law_263 (by decide) ?_
                    exact h.elim
                  · replace h := h.2 (bZ1 c250)
                    refine lv_aload_n (pc := 253) hx hb dL_law_253 rfl (lv_at hl 5 rfl) ?_
                    refine m_callSL (pc := 254) (y := yL_told) (As := [.ref (b + 0)]) (rest := []) C hK hP hS hl.1 ⟨Nat.le_of_ble_eq_true rfl, Nat.le_of_ble_eq_true rfl⟩ (c_L_told h) rfl rfl q_437 q_438 q_0 q_439 ⟨rfl, rfl⟩ yd_L_told ⟨Nat.le_of_ble_eq_true rfl, Nat.le_of_ble_eq_true rfl⟩ (Nat.le_of_ble_eq_true rfl) dL_law_254 (fun r167 M166 H locs h hP hS => ?_)
                    refine lv_lload (pc := 257) hx hb dL_law_257 (lv_at hl 0 rfl) ?_
                    refine W.lcmp (pc := 259) hx hb dL_law_259 ?_
                    refine lv_if_eq (tgt := 265) (pc := 260) hx hb dL_law_260 (by decide) (fun c260 => ?_) (fun c260 => ?_)
                    · replace h := h.1 c260
                      obtain ⟨v168, ev168⟩ : ∃ y : Int32, y = x4 + 1 := ⟨_, rfl⟩
                      replace h := h v168 ev168
                      refine lv_iinc (v := v168) (lv' := [(4, .int v168), (11, .long r144), (10, .int r142), (8, .long r140), (7, .int r138), (0, .ref sb), (1, .ref (b + 0)), (2, .ref (b + 276)), (3, .ref (b + 277)), (5, .int x5), (6, .int x6)]) (pc := 265) hx hb dL_law_265 hl (k := 8) rfl (by rw [ev168]; rfl) (by decide) rfl (fun ls hl => ?_)
                      refine lv_goto (tgt := 20) (pc := 268) hx hb dL_law_268 (by decide) ?_
                      exact hKk _ _ _ _ _ h hP hS (lv_sub hl [5, 6, 7, 8, 0] rfl)
                    · replace h := h.2 c260
                      refine lv_iconst (v := 0) (pc := 263) hx hb dL_law_263 (by decide) ?_
                      exact h.elim
                · replace h := h.2 c221
                  refine lv_aload_n (pc := 224) hx hb dL_law_224 rfl (lv_at hl 7 rfl) ?_
                  refine lv_iload (pc := 225) hx hb dL_law_225 (lv_at hl 3 rfl) ?_
                  refine lv_iload (pc := 227) hx hb dL_law_227 (lv_at hl 1 rfl) ?_
                  obtain ⟨hk169, h⟩ := h
                  obtain ⟨hi170, h⟩ := h
                  refine m_iast (pc := 229) C hK hP hS hk169 hi170 dL_law_229 (fun M171 H locs eM171 hP hS => ?_)
                  replace h := h M171 eM171
                  refine lv_aload_n (pc := 230) hx hb dL_law_230 rfl (lv_at hl 6 rfl) ?_
                  refine lv_iload (pc := 231) hx hb dL_law_231 (lv_at hl 1 rfl) ?_
                  refine lv_bipush (v := 100) (pc := 233) hx hb dL_law_233 (by decide) ?_
                  refine lv_idiv (pc := 235) hx hb dL_law_235 (by decide) ?_
                  refine lv_dup2_11 (pc := 236) hx hb dL_law_236 rfl rfl ?_
                  obtain ⟨hk172, h⟩ := h
                  obtain ⟨hi173, h⟩ := h
                  refine m_iald (pc := 237) C hK hP hk172 hi173 dL_law_237 ?_
                  refine lv_iload (pc := 238) hx hb dL_law_238 (lv_at hl 1 rfl) ?_
                  refine lv_bipush (v := 100) (pc := 240) hx hb dL_law_240 (by decide) ?_
                  refine lv_irem (pc := 242) hx hb dL_law_242 (by decide) ?_
                  refine lv_iadd (pc := 243) hx hb dL_law_243 ?_
                  obtain ⟨hi174, h⟩ := h
                  refine m_iast (pc := 244) C hK hP hS hk172 hi174 dL_law_244 (fun M175 H locs eM175 hP hS => ?_)
                  replace h := h M175 eM175
                  refine lv_aload_n (pc := 245) hx hb dL_law_245 rfl (lv_at hl 5 rfl) ?_
                  refine lv_aload_n (pc := 246) hx hb dL_law_246 rfl (lv_at hl 6 rfl) ?_
                  refine m_callSZ (pc := 247) (y := yL_holds) (As := [.ref (b + 0), .ref (b + 276)]) (rest := []) C hK hP hS hl.1 ⟨Nat.le_of_ble_eq_true rfl, Nat.le_of_ble_eq_true rfl⟩ (c_L_holds h) rfl rfl q_694 q_695 q_0 q_696 ⟨rfl, rfl⟩ yd_L_holds ⟨Nat.le_of_ble_eq_true rfl, Nat.le_of_ble_eq_true rfl⟩ (Nat.le_of_ble_eq_true rfl) dL_law_247 (fun z177 M176 H locs h hP hS => ?_)
                  refine lv_if_eq (tgt := 263) (pc := 250) hx hb dL_law_250 (by decide) (fun c250 => ?_) (fun c250 => ?_)
                  · replace h := h.1 (bZ0 c250)
                    refine lv_iconst (v := 0) (pc := 263) hx hb dL_law_263 (by decide) ?_
                    exact h.elim
                  · replace h := h.2 (bZ1 c250)
                    refine lv_aload_n (pc := 253) hx hb dL_law_253 rfl (lv_at hl 5 rfl) ?_
                    refine m_callSL (pc := 254) (y := yL_told) (As := [.ref (b + 0)]) (rest := []) C hK hP hS hl.1 ⟨Nat.le_of_ble_eq_true rfl, Nat.le_of_ble_eq_true rfl⟩ (c_L_told h) rfl rfl q_437 q_438 q_0 q_439 ⟨rfl, rfl⟩ yd_L_told ⟨Nat.le_of_ble_eq_true rfl, Nat.le_of_ble_eq_true rfl⟩ (Nat.le_of_ble_eq_true rfl) dL_law_254 (fun r179 M178 H locs h hP hS => ?_)
                    refine lv_lload (pc := 257) hx hb dL_law_257 (lv_at hl 0 rfl) ?_
                    refine W.lcmp (pc := 259) hx hb dL_law_259 ?_
                    refine lv_if_eq (tgt := 265) (pc := 260) hx hb dL_law_260 (by decide) (fun c260 => ?_) (fun c260 => ?_)
                    · replace h := h.1 c260
                      obtain ⟨v180, ev180⟩ : ∃ y : Int32, y = x4 + 1 := ⟨_, rfl⟩
                      replace h := h v180 ev180
                      refine lv_iinc (v := v180) (lv' := [(4, .int v180), (11, .long r144), (10, .int r142), (8, .long r140), (7, .int r138), (0, .ref sb), (1, .ref (b + 0)), (2, .ref (b + 276)), (3, .ref (b + 277)), (5, .int x5), (6, .int x6)]) (pc := 265) hx hb dL_law_265 hl (k := 8) rfl (by rw [ev180]; rfl) (by decide) rfl (fun ls hl => ?_)
                      refine lv_goto (tgt := 20) (pc := 268) hx hb dL_law_268 (by decide) ?_
                      exact hKk _ _ _ _ _ h hP hS (lv_sub hl [5, 6, 7, 8, 0] rfl)
                    · replace h := h.2 c260
                      refine lv_iconst (v := 0) (pc := 263) hx hb dL_law_263 (by decide) ?_
                      exact h.elim
              · replace h := h.2 c172
                refine lv_aload_n (pc := 175) hx hb dL_law_175 rfl (lv_at hl 5 rfl) ?_
                refine m_callVI (pc := 176) (y := yX6_undo) (κ := 6) (As := []) (rest := []) C hK hP hS hl.1 ⟨Nat.le_of_ble_eq_true rfl, Nat.le_of_ble_eq_true rfl⟩ (c_X6_undo h) rfl rfl hk137 (by decide) rfl q_267 q_268 q_269 q_1 q_270 ⟨rfl, rfl⟩ yd_X6_undo ⟨Nat.le_of_ble_eq_true rfl, Nat.le_of_ble_eq_true rfl⟩ (Nat.le_of_ble_eq_true rfl) dL_law_176 (fun r182 M181 H locs h hP hS => ?_)
                refine lv_iload (pc := 179) hx hb dL_law_179 (lv_at hl 3 rfl) ?_
                refine lv_icmp_ne (tgt := 217) (pc := 181) hx hb dL_law_181 (by decide) (fun c181 => ?_) (fun c181 => ?_)
                · replace h := h.1 c181
                  refine lv_iconst (v := 0) (pc := 217) hx hb dL_law_217 (by decide) ?_
                  exact h.elim
                · replace h := h.2 c181
                  refine lv_aload_n (pc := 184) hx hb dL_law_184 rfl (lv_at hl 5 rfl) ?_
                  refine m_callSL (pc := 185) (y := yL_told) (As := [.ref (b + 0)]) (rest := []) C hK hP hS hl.1 ⟨Nat.le_of_ble_eq_true rfl, Nat.le_of_ble_eq_true rfl⟩ (c_L_told h) rfl rfl q_437 q_438 q_0 q_439 ⟨rfl, rfl⟩ yd_L_told ⟨Nat.le_of_ble_eq_true rfl, Nat.le_of_ble_eq_true rfl⟩ (Nat.le_of_ble_eq_true rfl) dL_law_185 (fun r184 M183 H locs h hP hS => ?_)
                  refine lv_lload (pc := 188) hx hb dL_law_188 (lv_at hl 2 rfl) ?_
                  refine W.lcmp (pc := 190) hx hb dL_law_190 ?_
                  refine lv_if_ne (tgt := 217) (pc := 191) hx hb dL_law_191 (by decide) (fun c191 => ?_) (fun c191 => ?_)
                  · replace h := h.1 c191
                    refine lv_iconst (v := 0) (pc := 217) hx hb dL_law_217 (by decide) ?_
                    exact h.elim
                  · replace h := h.2 c191
                    refine lv_aload_n (pc := 194) hx hb dL_law_194 rfl (lv_at hl 5 rfl) ?_
                    refine lv_iload (pc := 195) hx hb dL_law_195 (lv_at hl 9 rfl) ?_
                    refine lv_iload (pc := 197) hx hb dL_law_197 (lv_at hl 10 rfl) ?_
                    refine m_callSI (pc := 199) (y := yL_acts) (As := [.ref (b + 0), .int x5, .int x6]) (rest := []) C hK hP hS hl.1 ⟨Nat.le_of_ble_eq_true rfl, Nat.le_of_ble_eq_true rfl⟩ (c_L_acts h) rfl rfl q_529 q_530 q_0 q_531 ⟨rfl, rfl⟩ yd_L_acts ⟨Nat.le_of_ble_eq_true rfl, Nat.le_of_ble_eq_true rfl⟩ (Nat.le_of_ble_eq_true rfl) dL_law_199 (fun r186 M185 H locs h hP hS => ?_)
                    refine lv_iload (pc := 202) hx hb dL_law_202 (lv_at hl 1 rfl) ?_
                    refine lv_icmp_ne (tgt := 217) (pc := 204) hx hb dL_law_204 (by decide) (fun c204 => ?_) (fun c204 => ?_)
                    · replace h := h.1 c204
                      refine lv_iconst (v := 0) (pc := 217) hx hb dL_law_217 (by decide) ?_
                      exact h.elim
                    · replace h := h.2 c204
                      refine lv_aload_n (pc := 207) hx hb dL_law_207 rfl (lv_at hl 5 rfl) ?_
                      refine m_callSL (pc := 208) (y := yL_told) (As := [.ref (b + 0)]) (rest := []) C hK hP hS hl.1 ⟨Nat.le_of_ble_eq_true rfl, Nat.le_of_ble_eq_true rfl⟩ (c_L_told h) rfl rfl q_437 q_438 q_0 q_439 ⟨rfl, rfl⟩ yd_L_told ⟨Nat.le_of_ble_eq_true rfl, Nat.le_of_ble_eq_true rfl⟩ (Nat.le_of_ble_eq_true rfl) dL_law_208 (fun r188 M187 H locs h hP hS => ?_)
                      refine lv_lload (pc := 211) hx hb dL_law_211 (lv_at hl 0 rfl) ?_
                      refine W.lcmp (pc := 213) hx hb dL_law_213 ?_
                      refine lv_if_eq (tgt := 219) (pc := 214) hx hb dL_law_214 (by decide) (fun c214 => ?_) (fun c214 => ?_)
                      · replace h := h.1 c214
                        refine lv_iload (pc := 219) hx hb dL_law_219 (lv_at hl 1 rfl) ?_
                        refine lv_if_lt (tgt := 245) (pc := 221) hx hb dL_law_221 (by decide) (fun c221 => ?_) (fun c221 => ?_)
                        · replace h := h.1 c221
                          refine lv_aload_n (pc := 245) hx hb dL_law_245 rfl (lv_at hl 5 rfl) ?_
                          refine lv_aload_n (pc := 246) hx hb dL_law_246 rfl (lv_at hl 6 rfl) ?_
                          refine m_callSZ (pc := 247) (y := yL_holds) (As := [.ref (b + 0), .ref (b + 276)]) (rest := []) C hK hP hS hl.1 ⟨Nat.le_of_ble_eq_true rfl, Nat.le_of_ble_eq_true rfl⟩ (c_L_holds h) rfl rfl q_694 q_695 q_0 q_696 ⟨rfl, rfl⟩ yd_L_holds ⟨Nat.le_of_ble_eq_true rfl, Nat.le_of_ble_eq_true rfl⟩ (Nat.le_of_ble_eq_true rfl) dL_law_247 (fun z190 M189 H locs h hP hS => ?_)
                          refine lv_if_eq (tgt := 263) (pc := 250) hx hb dL_law_250 (by decide) (fun c250 => ?_) (fun c250 => ?_)
                          · replace h := h.1 (bZ0 c250)
                            refine lv_iconst (v := 0) (pc := 263) hx hb dL_law_263 (by decide) ?_
                            exact h.elim
                          · replace h := h.2 (bZ1 c250)
                            refine lv_aload_n (pc := 253) hx hb dL_law_253 rfl (lv_at hl 5 rfl) ?_
                            refine m_callSL (pc := 254) (y := yL_told) (As := [.ref (b + 0)]) (rest := []) C hK hP hS hl.1 ⟨Nat.le_of_ble_eq_true rfl, Nat.le_of_ble_eq_true rfl⟩ (c_L_told h) rfl rfl q_437 q_438 q_0 q_439 ⟨rfl, rfl⟩ yd_L_told ⟨Nat.le_of_ble_eq_true rfl, Nat.le_of_ble_eq_true rfl⟩ (Nat.le_of_ble_eq_true rfl) dL_law_254 (fun r192 M191 H locs h hP hS => ?_)
                            refine lv_lload (pc := 257) hx hb dL_law_257 (lv_at hl 0 rfl) ?_
                            refine W.lcmp (pc := 259) hx hb dL_law_259 ?_
                            refine lv_if_eq (tgt := 265) (pc := 260) hx hb dL_law_260 (by decide) (fun c260 => ?_) (fun c260 => ?_)
                            · replace h := h.1 c260
                              obtain ⟨v193, ev193⟩ : ∃ y : Int32, y = x4 + 1 := ⟨_, rfl⟩
                              replace h := h v193 ev193
                              refine lv_iinc (v := v193) (lv' := [(4, .int v193), (11, .long r144), (10, .int r142), (8, .long r140), (7, .int r138), (0, .ref sb), (1, .ref (b + 0)), (2, .ref (b + 276)), (3, .ref (b + 277)), (5, .int x5), (6, .int x6)]) (pc := 265) hx hb dL_law_265 hl (k := 8) rfl (by rw [ev193]; rfl) (by decide) rfl (fun ls hl => ?_)
                              refine lv_goto (tgt := 20) (pc := 268) hx hb dL_law_268 (by decide) ?_
                              exact hKk _ _ _ _ _ h hP hS (lv_sub hl [5, 6, 7, 8, 0] rfl)
                            · replace h := h.2 c260
                              refine lv_iconst (v := 0) (pc := 263) hx hb dL_law_263 (by decide) ?_
                              exact h.elim
                        · replace h := h.2 c221
                          refine lv_aload_n (pc := 224) hx hb dL_law_224 rfl (lv_at hl 7 rfl) ?_
                          refine lv_iload (pc := 225) hx hb dL_law_225 (lv_at hl 3 rfl) ?_
                          refine lv_iload (pc := 227) hx hb dL_law_227 (lv_at hl 1 rfl) ?_
                          obtain ⟨hk194, h⟩ := h
                          obtain ⟨hi195, h⟩ := h
                          refine m_iast (pc := 229) C hK hP hS hk194 hi195 dL_law_229 (fun M196 H locs eM196 hP hS => ?_)
                          replace h := h M196 eM196
                          refine lv_aload_n (pc := 230) hx hb dL_law_230 rfl (lv_at hl 6 rfl) ?_
                          refine lv_iload (pc := 231) hx hb dL_law_231 (lv_at hl 1 rfl) ?_
                          refine lv_bipush (v := 100) (pc := 233) hx hb dL_law_233 (by decide) ?_
                          refine lv_idiv (pc := 235) hx hb dL_law_235 (by decide) ?_
                          refine lv_dup2_11 (pc := 236) hx hb dL_law_236 rfl rfl ?_
                          obtain ⟨hk197, h⟩ := h
                          obtain ⟨hi198, h⟩ := h
                          refine m_iald (pc := 237) C hK hP hk197 hi198 dL_law_237 ?_
                          refine lv_iload (pc := 238) hx hb dL_law_238 (lv_at hl 1 rfl) ?_
                          refine lv_bipush (v := 100) (pc := 240) hx hb dL_law_240 (by decide) ?_
                          refine lv_irem (pc := 242) hx hb dL_law_242 (by decide) ?_
                          refine lv_iadd (pc := 243) hx hb dL_law_243 ?_
                          obtain ⟨hi199, h⟩ := h
                          refine m_iast (pc := 244) C hK hP hS hk197 hi199 dL_law_244 (fun M200 H locs eM200 hP hS => ?_)
                          replace h := h M200 eM200
                          refine lv_aload_n (pc := 245) hx hb dL_law_245 rfl (lv_at hl 5 rfl) ?_
                          refine lv_aload_n (pc := 246) hx hb dL_law_246 rfl (lv_at hl 6 rfl) ?_
                          refine m_callSZ (pc := 247) (y := yL_holds) (As := [.ref (b + 0), .ref (b + 276)]) (rest := []) C hK hP hS hl.1 ⟨Nat.le_of_ble_eq_true rfl, Nat.le_of_ble_eq_true rfl⟩ (c_L_holds h) rfl rfl q_694 q_695 q_0 q_696 ⟨rfl, rfl⟩ yd_L_holds ⟨Nat.le_of_ble_eq_true rfl, Nat.le_of_ble_eq_true rfl⟩ (Nat.le_of_ble_eq_true rfl) dL_law_247 (fun z202 M201 H locs h hP hS => ?_)
                          refine lv_if_eq (tgt := 263) (pc := 250) hx hb dL_law_250 (by decide) (fun c250 => ?_) (fun c250 => ?_)
                          · replace h := h.1 (bZ0 c250)
                            refine lv_iconst (v := 0) (pc := 263) hx hb dL_law_263 (by decide) ?_
                            exact h.elim
                          · replace h := h.2 (bZ1 c250)
                            refine lv_aload_n (pc := 253) hx hb dL_law_253 rfl (lv_at hl 5 rfl) ?_
                            refine m_callSL (pc := 254) (y := yL_told) (As := [.ref (b + 0)]) (rest := []) C hK hP hS hl.1 ⟨Nat.le_of_ble_eq_true rfl, Nat.le_of_ble_eq_true rfl⟩ (c_L_told h) rfl rfl q_437 q_438 q_0 q_439 ⟨rfl, rfl⟩ yd_L_told ⟨Nat.le_of_ble_eq_true rfl, Nat.le_of_ble_eq_true rfl⟩ (Nat.le_of_ble_eq_true rfl) dL_law_254 (fun r204 M203 H locs h hP hS => ?_)
                            refine lv_lload (pc := 257) hx hb dL_law_257 (lv_at hl 0 rfl) ?_
                            refine W.lcmp (pc := 259) hx hb dL_law_259 ?_
                            refine lv_if_eq (tgt := 265) (pc := 260) hx hb dL_law_260 (by decide) (fun c260 => ?_) (fun c260 => ?_)
                            · replace h := h.1 c260
                              obtain ⟨v205, ev205⟩ : ∃ y : Int32, y = x4 + 1 := ⟨_, rfl⟩
                              replace h := h v205 ev205
                              refine lv_iinc (v := v205) (lv' := [(4, .int v205), (11, .long r144), (10, .int r142), (8, .long r140), (7, .int r138), (0, .ref sb), (1, .ref (b + 0)), (2, .ref (b + 276)), (3, .ref (b + 277)), (5, .int x5), (6, .int x6)]) (pc := 265) hx hb dL_law_265 hl (k := 8) rfl (by rw [ev205]; rfl) (by decide) rfl (fun ls hl => ?_)
                              refine lv_goto (tgt := 20) (pc := 268) hx hb dL_law_268 (by decide) ?_
                              exact hKk _ _ _ _ _ h hP hS (lv_sub hl [5, 6, 7, 8, 0] rfl)
                            · replace h := h.2 c260
                              refine lv_iconst (v := 0) (pc := 263) hx hb dL_law_263 (by decide) ?_
                              exact h.elim
                      · replace h := h.2 c214
                        refine lv_iconst (v := 0) (pc := 217) hx hb dL_law_217 (by decide) ?_
                        exact h.elim
          · replace h := h.2 c155
            refine lv_iconst (v := 0) (pc := 158) hx hb dL_law_158 (by decide) ?_
            exact h.elim
        · replace h := h.2 c131
          refine lv_lload (pc := 134) hx hb dL_law_134 (lv_at hl 0 rfl) ?_
          refine lv_lload (pc := 136) hx hb dL_law_136 (lv_at hl 2 rfl) ?_
          refine W.lcmp (pc := 138) hx hb dL_law_138 ?_
          refine lv_if_eq (tgt := 160) (pc := 139) hx hb dL_law_139 (by decide) (fun c139 => ?_) (fun c139 => ?_)
          · replace h := h.1 c139
            refine lv_iload (pc := 160) hx hb dL_law_160 (lv_at hl 1 rfl) ?_
            refine lv_if_lt (tgt := 219) (pc := 162) hx hb dL_law_162 (by decide) (fun c162 => ?_) (fun c162 => ?_)
            · replace h := h.1 c162
              refine lv_iload (pc := 219) hx hb dL_law_219 (lv_at hl 1 rfl) ?_
              refine lv_if_lt (tgt := 245) (pc := 221) hx hb dL_law_221 (by decide) (fun c221 => ?_) (fun c221 => ?_)
              · replace h := h.1 c221
                refine lv_aload_n (pc := 245) hx hb dL_law_245 rfl (lv_at hl 5 rfl) ?_
                refine lv_aload_n (pc := 246) hx hb dL_law_246 rfl (lv_at hl 6 rfl) ?_
                refine m_callSZ (pc := 247) (y := yL_holds) (As := [.ref (b + 0), .ref (b + 276)]) (rest := []) C hK hP hS hl.1 ⟨Nat.le_of_ble_eq_true rfl, Nat.le_of_ble_eq_true rfl⟩ (c_L_holds h) rfl rfl q_694 q_695 q_0 q_696 ⟨rfl, rfl⟩ yd_L_holds ⟨Nat.le_of_ble_eq_true rfl, Nat.le_of_ble_eq_true rfl⟩ (Nat.le_of_ble_eq_true rfl) dL_law_247 (fun z207 M206 H locs h hP hS => ?_)
                refine lv_if_eq (tgt := 263) (pc := 250) hx hb dL_law_250 (by decide) (fun c250 => ?_) (fun c250 => ?_)
                · replace h := h.1 (bZ0 c250)
                  refine lv_iconst (v := 0) (pc := 263) hx hb dL_law_263 (by decide) ?_
                  exact h.elim
                · replace h := h.2 (bZ1 c250)
                  refine lv_aload_n (pc := 253) hx hb dL_law_253 rfl (lv_at hl 5 rfl) ?_
                  refine m_callSL (pc := 254) (y := yL_told) (As := [.ref (b + 0)]) (rest := []) C hK hP hS hl.1 ⟨Nat.le_of_ble_eq_true rfl, Nat.le_of_ble_eq_true rfl⟩ (c_L_told h) rfl rfl q_437 q_438 q_0 q_439 ⟨rfl, rfl⟩ yd_L_told ⟨Nat.le_of_ble_eq_true rfl, Nat.le_of_ble_eq_true rfl⟩ (Nat.le_of_ble_eq_true rfl) dL_law_254 (fun r209 M208 H locs h hP hS => ?_)
                  refine lv_lload (pc := 257) hx hb dL_law_257 (lv_at hl 0 rfl) ?_
                  refine W.lcmp (pc := 259) hx hb dL_law_259 ?_
                  refine lv_if_eq (tgt := 265) (pc := 260) hx hb dL_law_260 (by decide) (fun c260 => ?_) (fun c260 => ?_)
                  · replace h := h.1 c260
                    obtain ⟨v210, ev210⟩ : ∃ y : Int32, y = x4 + 1 := ⟨_, rfl⟩
                    replace h := h v210 ev210
                    refine lv_iinc (v := v210) (lv' := [(4, .int v210), (11, .long r144), (10, .int r142), (8, .long r140), (7, .int r138), (0, .ref sb), (1, .ref (b + 0)), (2, .ref (b + 276)), (3, .ref (b + 277)), (5, .int x5), (6, .int x6)]) (pc := 265) hx hb dL_law_265 hl (k := 8) rfl (by rw [ev210]; rfl) (by decide) rfl (fun ls hl => ?_)
                    refine lv_goto (tgt := 20) (pc := 268) hx hb dL_law_268 (by decide) ?_
                    exact hKk _ _ _ _ _ h hP hS (lv_sub hl [5, 6, 7, 8, 0] rfl)
                  · replace h := h.2 c260
                    refine lv_iconst (v := 0) (pc := 263) hx hb dL_law_263 (by decide) ?_
                    exact h.elim
              · replace h := h.2 c221
                refine lv_aload_n (pc := 224) hx hb dL_law_224 rfl (lv_at hl 7 rfl) ?_
                refine lv_iload (pc := 225) hx hb dL_law_225 (lv_at hl 3 rfl) ?_
                refine lv_iload (pc := 227) hx hb dL_law_227 (lv_at hl 1 rfl) ?_
                obtain ⟨hk211, h⟩ := h
                obtain ⟨hi212, h⟩ := h
                refine m_iast (pc := 229) C hK hP hS hk211 hi212 dL_law_229 (fun M213 H locs eM213 hP hS => ?_)
                replace h := h M213 eM213
                refine lv_aload_n (pc := 230) hx hb dL_law_230 rfl (lv_at hl 6 rfl) ?_
                refine lv_iload (pc := 231) hx hb dL_law_231 (lv_at hl 1 rfl) ?_
                refine lv_bipush (v := 100) (pc := 233) hx hb dL_law_233 (by decide) ?_
                refine lv_idiv (pc := 235) hx hb dL_law_235 (by decide) ?_
                refine lv_dup2_11 (pc := 236) hx hb dL_law_236 rfl rfl ?_
                obtain ⟨hk214, h⟩ := h
                obtain ⟨hi215, h⟩ := h
                refine m_iald (pc := 237) C hK hP hk214 hi215 dL_law_237 ?_
                refine lv_iload (pc := 238) hx hb dL_law_238 (lv_at hl 1 rfl) ?_
                refine lv_bipush (v := 100) (pc := 240) hx hb dL_law_240 (by decide) ?_
                refine lv_irem (pc := 242) hx hb dL_law_242 (by decide) ?_
                refine lv_iadd (pc := 243) hx hb dL_law_243 ?_
                obtain ⟨hi216, h⟩ := h
                refine m_iast (pc := 244) C hK hP hS hk214 hi216 dL_law_244 (fun M217 H locs eM217 hP hS => ?_)
                replace h := h M217 eM217
                refine lv_aload_n (pc := 245) hx hb dL_law_245 rfl (lv_at hl 5 rfl) ?_
                refine lv_aload_n (pc := 246) hx hb dL_law_246 rfl (lv_at hl 6 rfl) ?_
                refine m_callSZ (pc := 247) (y := yL_holds) (As := [.ref (b + 0), .ref (b + 276)]) (rest := []) C hK hP hS hl.1 ⟨Nat.le_of_ble_eq_true rfl, Nat.le_of_ble_eq_true rfl⟩ (c_L_holds h) rfl rfl q_694 q_695 q_0 q_696 ⟨rfl, rfl⟩ yd_L_holds ⟨Nat.le_of_ble_eq_true rfl, Nat.le_of_ble_eq_true rfl⟩ (Nat.le_of_ble_eq_true rfl) dL_law_247 (fun z219 M218 H locs h hP hS => ?_)
                refine lv_if_eq (tgt := 263) (pc := 250) hx hb dL_law_250 (by decide) (fun c250 => ?_) (fun c250 => ?_)
                · replace h := h.1 (bZ0 c250)
                  refine lv_iconst (v := 0) (pc := 263) hx hb dL_law_263 (by decide) ?_
                  exact h.elim
                · replace h := h.2 (bZ1 c250)
                  refine lv_aload_n (pc := 253) hx hb dL_law_253 rfl (lv_at hl 5 rfl) ?_
                  refine m_callSL (pc := 254) (y := yL_told) (As := [.ref (b + 0)]) (rest := []) C hK hP hS hl.1 ⟨Nat.le_of_ble_eq_true rfl, Nat.le_of_ble_eq_true rfl⟩ (c_L_told h) rfl rfl q_437 q_438 q_0 q_439 ⟨rfl, rfl⟩ yd_L_told ⟨Nat.le_of_ble_eq_true rfl, Nat.le_of_ble_eq_true rfl⟩ (Nat.le_of_ble_eq_true rfl) dL_law_254 (fun r221 M220 H locs h hP hS => ?_)
                  refine lv_lload (pc := 257) hx hb dL_law_257 (lv_at hl 0 rfl) ?_
                  refine W.lcmp (pc := 259) hx hb dL_law_259 ?_
                  refine lv_if_eq (tgt := 265) (pc := 260) hx hb dL_law_260 (by decide) (fun c260 => ?_) (fun c260 => ?_)
                  · replace h := h.1 c260
                    obtain ⟨v222, ev222⟩ : ∃ y : Int32, y = x4 + 1 := ⟨_, rfl⟩
                    replace h := h v222 ev222
                    refine lv_iinc (v := v222) (lv' := [(4, .int v222), (11, .long r144), (10, .int r142), (8, .long r140), (7, .int r138), (0, .ref sb), (1, .ref (b + 0)), (2, .ref (b + 276)), (3, .ref (b + 277)), (5, .int x5), (6, .int x6)]) (pc := 265) hx hb dL_law_265 hl (k := 8) rfl (by rw [ev222]; rfl) (by decide) rfl (fun ls hl => ?_)
                    refine lv_goto (tgt := 20) (pc := 268) hx hb dL_law_268 (by decide) ?_
                    exact hKk _ _ _ _ _ h hP hS (lv_sub hl [5, 6, 7, 8, 0] rfl)
                  · replace h := h.2 c260
                    refine lv_iconst (v := 0) (pc := 263) hx hb dL_law_263 (by decide) ?_
                    exact h.elim
            · replace h := h.2 c162
              refine lv_iload (pc := 165) hx hb dL_law_165 (lv_at hl 9 rfl) ?_
              refine lv_bipush (v := 13) (pc := 167) hx hb dL_law_167 (by decide) ?_
              refine lv_ishr (pc := 169) hx hb dL_law_169 ?_
              refine lv_iconst (v := 1) (pc := 170) hx hb dL_law_170 (by decide) ?_
              refine lv_iand (pc := 171) hx hb dL_law_171 ?_
              refine lv_if_ne (tgt := 219) (pc := 172) hx hb dL_law_172 (by decide) (fun c172 => ?_) (fun c172 => ?_)
              · replace h := h.1 c172
                refine lv_iload (pc := 219) hx hb dL_law_219 (lv_at hl 1 rfl) ?_
                refine lv_if_lt (tgt := 245) (pc := 221) hx hb dL_law_221 (by decide) (fun c221 => ?_) (fun c221 => ?_)
                · replace h := h.1 c221
                  refine lv_aload_n (pc := 245) hx hb dL_law_245 rfl (lv_at hl 5 rfl) ?_
                  refine lv_aload_n (pc := 246) hx hb dL_law_246 rfl (lv_at hl 6 rfl) ?_
                  refine m_callSZ (pc := 247) (y := yL_holds) (As := [.ref (b + 0), .ref (b + 276)]) (rest := []) C hK hP hS hl.1 ⟨Nat.le_of_ble_eq_true rfl, Nat.le_of_ble_eq_true rfl⟩ (c_L_holds h) rfl rfl q_694 q_695 q_0 q_696 ⟨rfl, rfl⟩ yd_L_holds ⟨Nat.le_of_ble_eq_true rfl, Nat.le_of_ble_eq_true rfl⟩ (Nat.le_of_ble_eq_true rfl) dL_law_247 (fun z224 M223 H locs h hP hS => ?_)
                  refine lv_if_eq (tgt := 263) (pc := 250) hx hb dL_law_250 (by decide) (fun c250 => ?_) (fun c250 => ?_)
                  · replace h := h.1 (bZ0 c250)
                    refine lv_iconst (v := 0) (pc := 263) hx hb dL_law_263 (by decide) ?_
                    exact h.elim
                  · replace h := h.2 (bZ1 c250)
                    refine lv_aload_n (pc := 253) hx hb dL_law_253 rfl (lv_at hl 5 rfl) ?_
                    refine m_callSL (pc := 254) (y := yL_told) (As := [.ref (b + 0)]) (rest := []) C hK hP hS hl.1 ⟨Nat.le_of_ble_eq_true rfl, Nat.le_of_ble_eq_true rfl⟩ (c_L_told h) rfl rfl q_437 q_438 q_0 q_439 ⟨rfl, rfl⟩ yd_L_told ⟨Nat.le_of_ble_eq_true rfl, Nat.le_of_ble_eq_true rfl⟩ (Nat.le_of_ble_eq_true rfl) dL_law_254 (fun r226 M225 H locs h hP hS => ?_)
                    refine lv_lload (pc := 257) hx hb dL_law_257 (lv_at hl 0 rfl) ?_
                    refine W.lcmp (pc := 259) hx hb dL_law_259 ?_
                    refine lv_if_eq (tgt := 265) (pc := 260) hx hb dL_law_260 (by decide) (fun c260 => ?_) (fun c260 => ?_)
                    · replace h := h.1 c260
                      obtain ⟨v227, ev227⟩ : ∃ y : Int32, y = x4 + 1 := ⟨_, rfl⟩
                      replace h := h v227 ev227
                      refine lv_iinc (v := v227) (lv' := [(4, .int v227), (11, .long r144), (10, .int r142), (8, .long r140), (7, .int r138), (0, .ref sb), (1, .ref (b + 0)), (2, .ref (b + 276)), (3, .ref (b + 277)), (5, .int x5), (6, .int x6)]) (pc := 265) hx hb dL_law_265 hl (k := 8) rfl (by rw [ev227]; rfl) (by decide) rfl (fun ls hl => ?_)
                      refine lv_goto (tgt := 20) (pc := 268) hx hb dL_law_268 (by decide) ?_
                      exact hKk _ _ _ _ _ h hP hS (lv_sub hl [5, 6, 7, 8, 0] rfl)
                    · replace h := h.2 c260
                      refine lv_iconst (v := 0) (pc := 263) hx hb dL_law_263 (by decide) ?_
                      exact h.elim
                · replace h := h.2 c221
                  refine lv_aload_n (pc := 224) hx hb dL_law_224 rfl (lv_at hl 7 rfl) ?_
                  refine lv_iload (pc := 225) hx hb dL_law_225 (lv_at hl 3 rfl) ?_
                  refine lv_iload (pc := 227) hx hb dL_law_227 (lv_at hl 1 rfl) ?_
                  obtain ⟨hk228, h⟩ := h
                  obtain ⟨hi229, h⟩ := h
                  refine m_iast (pc := 229) C hK hP hS hk228 hi229 dL_law_229 (fun M230 H locs eM230 hP hS => ?_)
                  replace h := h M230 eM230
                  refine lv_aload_n (pc := 230) hx hb dL_law_230 rfl (lv_at hl 6 rfl) ?_
                  refine lv_iload (pc := 231) hx hb dL_law_231 (lv_at hl 1 rfl) ?_
                  refine lv_bipush (v := 100) (pc := 233) hx hb dL_law_233 (by decide) ?_
                  refine lv_idiv (pc := 235) hx hb dL_law_235 (by decide) ?_
                  refine lv_dup2_11 (pc := 236) hx hb dL_law_236 rfl rfl ?_
                  obtain ⟨hk231, h⟩ := h
                  obtain ⟨hi232, h⟩ := h
                  refine m_iald (pc := 237) C hK hP hk231 hi232 dL_law_237 ?_
                  refine lv_iload (pc := 238) hx hb dL_law_238 (lv_at hl 1 rfl) ?_
                  refine lv_bipush (v := 100) (pc := 240) hx hb dL_law_240 (by decide) ?_
                  refine lv_irem (pc := 242) hx hb dL_law_242 (by decide) ?_
                  refine lv_iadd (pc := 243) hx hb dL_law_243 ?_
                  obtain ⟨hi233, h⟩ := h
                  refine m_iast (pc := 244) C hK hP hS hk231 hi233 dL_law_244 (fun M234 H locs eM234 hP hS => ?_)
                  replace h := h M234 eM234
                  refine lv_aload_n (pc := 245) hx hb dL_law_245 rfl (lv_at hl 5 rfl) ?_
                  refine lv_aload_n (pc := 246) hx hb dL_law_246 rfl (lv_at hl 6 rfl) ?_
                  refine m_callSZ (pc := 247) (y := yL_holds) (As := [.ref (b + 0), .ref (b + 276)]) (rest := []) C hK hP hS hl.1 ⟨Nat.le_of_ble_eq_true rfl, Nat.le_of_ble_eq_true rfl⟩ (c_L_holds h) rfl rfl q_694 q_695 q_0 q_696 ⟨rfl, rfl⟩ yd_L_holds ⟨Nat.le_of_ble_eq_true rfl, Nat.le_of_ble_eq_true rfl⟩ (Nat.le_of_ble_eq_true rfl) dL_law_247 (fun z236 M235 H locs h hP hS => ?_)
                  refine lv_if_eq (tgt := 263) (pc := 250) hx hb dL_law_250 (by decide) (fun c250 => ?_) (fun c250 => ?_)
                  · replace h := h.1 (bZ0 c250)
                    refine lv_iconst (v := 0) (pc := 263) hx hb dL_law_263 (by decide) ?_
                    exact h.elim
                  · replace h := h.2 (bZ1 c250)
                    refine lv_aload_n (pc := 253) hx hb dL_law_253 rfl (lv_at hl 5 rfl) ?_
                    refine m_callSL (pc := 254) (y := yL_told) (As := [.ref (b + 0)]) (rest := []) C hK hP hS hl.1 ⟨Nat.le_of_ble_eq_true rfl, Nat.le_of_ble_eq_true rfl⟩ (c_L_told h) rfl rfl q_437 q_438 q_0 q_439 ⟨rfl, rfl⟩ yd_L_told ⟨Nat.le_of_ble_eq_true rfl, Nat.le_of_ble_eq_true rfl⟩ (Nat.le_of_ble_eq_true rfl) dL_law_254 (fun r238 M237 H locs h hP hS => ?_)
                    refine lv_lload (pc := 257) hx hb dL_law_257 (lv_at hl 0 rfl) ?_
                    refine W.lcmp (pc := 259) hx hb dL_law_259 ?_
                    refine lv_if_eq (tgt := 265) (pc := 260) hx hb dL_law_260 (by decide) (fun c260 => ?_) (fun c260 => ?_)
                    · replace h := h.1 c260
                      obtain ⟨v239, ev239⟩ : ∃ y : Int32, y = x4 + 1 := ⟨_, rfl⟩
                      replace h := h v239 ev239
                      refine lv_iinc (v := v239) (lv' := [(4, .int v239), (11, .long r144), (10, .int r142), (8, .long r140), (7, .int r138), (0, .ref sb), (1, .ref (b + 0)), (2, .ref (b + 276)), (3, .ref (b + 277)), (5, .int x5), (6, .int x6)]) (pc := 265) hx hb dL_law_265 hl (k := 8) rfl (by rw [ev239]; rfl) (by decide) rfl (fun ls hl => ?_)
                      refine lv_goto (tgt := 20) (pc := 268) hx hb dL_law_268 (by decide) ?_
                      exact hKk _ _ _ _ _ h hP hS (lv_sub hl [5, 6, 7, 8, 0] rfl)
                    · replace h := h.2 c260
                      refine lv_iconst (v := 0) (pc := 263) hx hb dL_law_263 (by decide) ?_
                      exact h.elim
              · replace h := h.2 c172
                refine lv_aload_n (pc := 175) hx hb dL_law_175 rfl (lv_at hl 5 rfl) ?_
                refine m_callVI (pc := 176) (y := yX6_undo) (κ := 6) (As := []) (rest := []) C hK hP hS hl.1 ⟨Nat.le_of_ble_eq_true rfl, Nat.le_of_ble_eq_true rfl⟩ (c_X6_undo h) rfl rfl hk137 (by decide) rfl q_267 q_268 q_269 q_1 q_270 ⟨rfl, rfl⟩ yd_X6_undo ⟨Nat.le_of_ble_eq_true rfl, Nat.le_of_ble_eq_true rfl⟩ (Nat.le_of_ble_eq_true rfl) dL_law_176 (fun r241 M240 H locs h hP hS => ?_)
                refine lv_iload (pc := 179) hx hb dL_law_179 (lv_at hl 3 rfl) ?_
                refine lv_icmp_ne (tgt := 217) (pc := 181) hx hb dL_law_181 (by decide) (fun c181 => ?_) (fun c181 => ?_)
                · replace h := h.1 c181
                  refine lv_iconst (v := 0) (pc := 217) hx hb dL_law_217 (by decide) ?_
                  exact h.elim
                · replace h := h.2 c181
                  refine lv_aload_n (pc := 184) hx hb dL_law_184 rfl (lv_at hl 5 rfl) ?_
                  refine m_callSL (pc := 185) (y := yL_told) (As := [.ref (b + 0)]) (rest := []) C hK hP hS hl.1 ⟨Nat.le_of_ble_eq_true rfl, Nat.le_of_ble_eq_true rfl⟩ (c_L_told h) rfl rfl q_437 q_438 q_0 q_439 ⟨rfl, rfl⟩ yd_L_told ⟨Nat.le_of_ble_eq_true rfl, Nat.le_of_ble_eq_true rfl⟩ (Nat.le_of_ble_eq_true rfl) dL_law_185 (fun r243 M242 H locs h hP hS => ?_)
                  refine lv_lload (pc := 188) hx hb dL_law_188 (lv_at hl 2 rfl) ?_
                  refine W.lcmp (pc := 190) hx hb dL_law_190 ?_
                  refine lv_if_ne (tgt := 217) (pc := 191) hx hb dL_law_191 (by decide) (fun c191 => ?_) (fun c191 => ?_)
                  · replace h := h.1 c191
                    refine lv_iconst (v := 0) (pc := 217) hx hb dL_law_217 (by decide) ?_
                    exact h.elim
                  · replace h := h.2 c191
                    refine lv_aload_n (pc := 194) hx hb dL_law_194 rfl (lv_at hl 5 rfl) ?_
                    refine lv_iload (pc := 195) hx hb dL_law_195 (lv_at hl 9 rfl) ?_
                    refine lv_iload (pc := 197) hx hb dL_law_197 (lv_at hl 10 rfl) ?_
                    refine m_callSI (pc := 199) (y := yL_acts) (As := [.ref (b + 0), .int x5, .int x6]) (rest := []) C hK hP hS hl.1 ⟨Nat.le_of_ble_eq_true rfl, Nat.le_of_ble_eq_true rfl⟩ (c_L_acts h) rfl rfl q_529 q_530 q_0 q_531 ⟨rfl, rfl⟩ yd_L_acts ⟨Nat.le_of_ble_eq_true rfl, Nat.le_of_ble_eq_true rfl⟩ (Nat.le_of_ble_eq_true rfl) dL_law_199 (fun r245 M244 H locs h hP hS => ?_)
                    refine lv_iload (pc := 202) hx hb dL_law_202 (lv_at hl 1 rfl) ?_
                    refine lv_icmp_ne (tgt := 217) (pc := 204) hx hb dL_law_204 (by decide) (fun c204 => ?_) (fun c204 => ?_)
                    · replace h := h.1 c204
                      refine lv_iconst (v := 0) (pc := 217) hx hb dL_law_217 (by decide) ?_
                      exact h.elim
                    · replace h := h.2 c204
                      refine lv_aload_n (pc := 207) hx hb dL_law_207 rfl (lv_at hl 5 rfl) ?_
                      refine m_callSL (pc := 208) (y := yL_told) (As := [.ref (b + 0)]) (rest := []) C hK hP hS hl.1 ⟨Nat.le_of_ble_eq_true rfl, Nat.le_of_ble_eq_true rfl⟩ (c_L_told h) rfl rfl q_437 q_438 q_0 q_439 ⟨rfl, rfl⟩ yd_L_told ⟨Nat.le_of_ble_eq_true rfl, Nat.le_of_ble_eq_true rfl⟩ (Nat.le_of_ble_eq_true rfl) dL_law_208 (fun r247 M246 H locs h hP hS => ?_)
                      refine lv_lload (pc := 211) hx hb dL_law_211 (lv_at hl 0 rfl) ?_
                      refine W.lcmp (pc := 213) hx hb dL_law_213 ?_
                      refine lv_if_eq (tgt := 219) (pc := 214) hx hb dL_law_214 (by decide) (fun c214 => ?_) (fun c214 => ?_)
                      · replace h := h.1 c214
                        refine lv_iload (pc := 219) hx hb dL_law_219 (lv_at hl 1 rfl) ?_
                        refine lv_if_lt (tgt := 245) (pc := 221) hx hb dL_law_221 (by decide) (fun c221 => ?_) (fun c221 => ?_)
                        · replace h := h.1 c221
                          refine lv_aload_n (pc := 245) hx hb dL_law_245 rfl (lv_at hl 5 rfl) ?_
                          refine lv_aload_n (pc := 246) hx hb dL_law_246 rfl (lv_at hl 6 rfl) ?_
                          refine m_callSZ (pc := 247) (y := yL_holds) (As := [.ref (b + 0), .ref (b + 276)]) (rest := []) C hK hP hS hl.1 ⟨Nat.le_of_ble_eq_true rfl, Nat.le_of_ble_eq_true rfl⟩ (c_L_holds h) rfl rfl q_694 q_695 q_0 q_696 ⟨rfl, rfl⟩ yd_L_holds ⟨Nat.le_of_ble_eq_true rfl, Nat.le_of_ble_eq_true rfl⟩ (Nat.le_of_ble_eq_true rfl) dL_law_247 (fun z249 M248 H locs h hP hS => ?_)
                          refine lv_if_eq (tgt := 263) (pc := 250) hx hb dL_law_250 (by decide) (fun c250 => ?_) (fun c250 => ?_)
                          · replace h := h.1 (bZ0 c250)
                            refine lv_iconst (v := 0) (pc := 263) hx hb dL_law_263 (by decide) ?_
                            exact h.elim
                          · replace h := h.2 (bZ1 c250)
                            refine lv_aload_n (pc := 253) hx hb dL_law_253 rfl (lv_at hl 5 rfl) ?_
                            refine m_callSL (pc := 254) (y := yL_told) (As := [.ref (b + 0)]) (rest := []) C hK hP hS hl.1 ⟨Nat.le_of_ble_eq_true rfl, Nat.le_of_ble_eq_true rfl⟩ (c_L_told h) rfl rfl q_437 q_438 q_0 q_439 ⟨rfl, rfl⟩ yd_L_told ⟨Nat.le_of_ble_eq_true rfl, Nat.le_of_ble_eq_true rfl⟩ (Nat.le_of_ble_eq_true rfl) dL_law_254 (fun r251 M250 H locs h hP hS => ?_)
                            refine lv_lload (pc := 257) hx hb dL_law_257 (lv_at hl 0 rfl) ?_
                            refine W.lcmp (pc := 259) hx hb dL_law_259 ?_
                            refine lv_if_eq (tgt := 265) (pc := 260) hx hb dL_law_260 (by decide) (fun c260 => ?_) (fun c260 => ?_)
                            · replace h := h.1 c260
                              obtain ⟨v252, ev252⟩ : ∃ y : Int32, y = x4 + 1 := ⟨_, rfl⟩
                              replace h := h v252 ev252
                              refine lv_iinc (v := v252) (lv' := [(4, .int v252), (11, .long r144), (10, .int r142), (8, .long r140), (7, .int r138), (0, .ref sb), (1, .ref (b + 0)), (2, .ref (b + 276)), (3, .ref (b + 277)), (5, .int x5), (6, .int x6)]) (pc := 265) hx hb dL_law_265 hl (k := 8) rfl (by rw [ev252]; rfl) (by decide) rfl (fun ls hl => ?_)
                              refine lv_goto (tgt := 20) (pc := 268) hx hb dL_law_268 (by decide) ?_
                              exact hKk _ _ _ _ _ h hP hS (lv_sub hl [5, 6, 7, 8, 0] rfl)
                            · replace h := h.2 c260
                              refine lv_iconst (v := 0) (pc := 263) hx hb dL_law_263 (by decide) ?_
                              exact h.elim
                        · replace h := h.2 c221
                          refine lv_aload_n (pc := 224) hx hb dL_law_224 rfl (lv_at hl 7 rfl) ?_
                          refine lv_iload (pc := 225) hx hb dL_law_225 (lv_at hl 3 rfl) ?_
                          refine lv_iload (pc := 227) hx hb dL_law_227 (lv_at hl 1 rfl) ?_
                          obtain ⟨hk253, h⟩ := h
                          obtain ⟨hi254, h⟩ := h
                          refine m_iast (pc := 229) C hK hP hS hk253 hi254 dL_law_229 (fun M255 H locs eM255 hP hS => ?_)
                          replace h := h M255 eM255
                          refine lv_aload_n (pc := 230) hx hb dL_law_230 rfl (lv_at hl 6 rfl) ?_
                          refine lv_iload (pc := 231) hx hb dL_law_231 (lv_at hl 1 rfl) ?_
                          refine lv_bipush (v := 100) (pc := 233) hx hb dL_law_233 (by decide) ?_
                          refine lv_idiv (pc := 235) hx hb dL_law_235 (by decide) ?_
                          refine lv_dup2_11 (pc := 236) hx hb dL_law_236 rfl rfl ?_
                          obtain ⟨hk256, h⟩ := h
                          obtain ⟨hi257, h⟩ := h
                          refine m_iald (pc := 237) C hK hP hk256 hi257 dL_law_237 ?_
                          refine lv_iload (pc := 238) hx hb dL_law_238 (lv_at hl 1 rfl) ?_
                          refine lv_bipush (v := 100) (pc := 240) hx hb dL_law_240 (by decide) ?_
                          refine lv_irem (pc := 242) hx hb dL_law_242 (by decide) ?_
                          refine lv_iadd (pc := 243) hx hb dL_law_243 ?_
                          obtain ⟨hi258, h⟩ := h
                          refine m_iast (pc := 244) C hK hP hS hk256 hi258 dL_law_244 (fun M259 H locs eM259 hP hS => ?_)
                          replace h := h M259 eM259
                          refine lv_aload_n (pc := 245) hx hb dL_law_245 rfl (lv_at hl 5 rfl) ?_
                          refine lv_aload_n (pc := 246) hx hb dL_law_246 rfl (lv_at hl 6 rfl) ?_
                          refine m_callSZ (pc := 247) (y := yL_holds) (As := [.ref (b + 0), .ref (b + 276)]) (rest := []) C hK hP hS hl.1 ⟨Nat.le_of_ble_eq_true rfl, Nat.le_of_ble_eq_true rfl⟩ (c_L_holds h) rfl rfl q_694 q_695 q_0 q_696 ⟨rfl, rfl⟩ yd_L_holds ⟨Nat.le_of_ble_eq_true rfl, Nat.le_of_ble_eq_true rfl⟩ (Nat.le_of_ble_eq_true rfl) dL_law_247 (fun z261 M260 H locs h hP hS => ?_)
                          refine lv_if_eq (tgt := 263) (pc := 250) hx hb dL_law_250 (by decide) (fun c250 => ?_) (fun c250 => ?_)
                          · replace h := h.1 (bZ0 c250)
                            refine lv_iconst (v := 0) (pc := 263) hx hb dL_law_263 (by decide) ?_
                            exact h.elim
                          · replace h := h.2 (bZ1 c250)
                            refine lv_aload_n (pc := 253) hx hb dL_law_253 rfl (lv_at hl 5 rfl) ?_
                            refine m_callSL (pc := 254) (y := yL_told) (As := [.ref (b + 0)]) (rest := []) C hK hP hS hl.1 ⟨Nat.le_of_ble_eq_true rfl, Nat.le_of_ble_eq_true rfl⟩ (c_L_told h) rfl rfl q_437 q_438 q_0 q_439 ⟨rfl, rfl⟩ yd_L_told ⟨Nat.le_of_ble_eq_true rfl, Nat.le_of_ble_eq_true rfl⟩ (Nat.le_of_ble_eq_true rfl) dL_law_254 (fun r263 M262 H locs h hP hS => ?_)
                            refine lv_lload (pc := 257) hx hb dL_law_257 (lv_at hl 0 rfl) ?_
                            refine W.lcmp (pc := 259) hx hb dL_law_259 ?_
                            refine lv_if_eq (tgt := 265) (pc := 260) hx hb dL_law_260 (by decide) (fun c260 => ?_) (fun c260 => ?_)
                            · replace h := h.1 c260
                              obtain ⟨v264, ev264⟩ : ∃ y : Int32, y = x4 + 1 := ⟨_, rfl⟩
                              replace h := h v264 ev264
                              refine lv_iinc (v := v264) (lv' := [(4, .int v264), (11, .long r144), (10, .int r142), (8, .long r140), (7, .int r138), (0, .ref sb), (1, .ref (b + 0)), (2, .ref (b + 276)), (3, .ref (b + 277)), (5, .int x5), (6, .int x6)]) (pc := 265) hx hb dL_law_265 hl (k := 8) rfl (by rw [ev264]; rfl) (by decide) rfl (fun ls hl => ?_)
                              refine lv_goto (tgt := 20) (pc := 268) hx hb dL_law_268 (by decide) ?_
                              exact hKk _ _ _ _ _ h hP hS (lv_sub hl [5, 6, 7, 8, 0] rfl)
                            · replace h := h.2 c260
                              refine lv_iconst (v := 0) (pc := 263) hx hb dL_law_263 (by decide) ?_
                              exact h.elim
                      · replace h := h.2 c214
                        refine lv_iconst (v := 0) (pc := 217) hx hb dL_law_217 (by decide) ?_
                        exact h.elim
          · replace h := h.2 c139
            refine lv_goto (tgt := 158) (pc := 142) hx hb dL_law_142 (by decide) ?_
            refine lv_iconst (v := 0) (pc := 158) hx hb dL_law_158 (by decide) ?_
            exact h.elim
      · replace h := h.2 c66
        refine lv_aload_n (pc := 69) hx hb dL_law_69 rfl (lv_at hl 1 rfl) ?_
        obtain ⟨hk266, h⟩ := h
        refine m_callVI (pc := 70) (y := yX6_undo) (κ := 6) (As := []) (rest := []) C hK hP hS hl.1 ⟨Nat.le_of_ble_eq_true rfl, Nat.le_of_ble_eq_true rfl⟩ (c_X6_undo h) rfl rfl hk266 (by decide) rfl q_267 q_268 q_269 q_1 q_270 ⟨rfl, rfl⟩ yd_X6_undo ⟨Nat.le_of_ble_eq_true rfl, Nat.le_of_ble_eq_true rfl⟩ (Nat.le_of_ble_eq_true rfl) dL_law_70 (fun r267 M265 H locs h hP hS => ?_)
        refine lv_pop (pc := 73) hx hb dL_law_73 rfl ?_
        refine lv_aload_n (pc := 74) hx hb dL_law_74 rfl (lv_at hl 2 rfl) ?_
        refine lv_aload_n (pc := 75) hx hb dL_law_75 rfl (lv_at hl 3 rfl) ?_
        refine lv_iload (pc := 76) hx hb dL_law_76 (lv_at hl 7 rfl) ?_
        obtain ⟨hk268, h⟩ := h
        obtain ⟨hi269, h⟩ := h
        refine m_iald (pc := 78) C hK hP hk268 hi269 dL_law_78 ?_
        refine lv_bipush (v := 100) (pc := 79) hx hb dL_law_79 (by decide) ?_
        refine lv_idiv (pc := 81) hx hb dL_law_81 (by decide) ?_
        refine lv_dup2_11 (pc := 82) hx hb dL_law_82 rfl rfl ?_
        obtain ⟨hk270, h⟩ := h
        obtain ⟨hi271, h⟩ := h
        refine m_iald (pc := 83) C hK hP hk270 hi271 dL_law_83 ?_
        refine lv_aload_n (pc := 84) hx hb dL_law_84 rfl (lv_at hl 3 rfl) ?_
        refine lv_iload (pc := 85) hx hb dL_law_85 (lv_at hl 7 rfl) ?_
        obtain ⟨hi272, h⟩ := h
        refine m_iald (pc := 87) C hK hP hk268 hi272 dL_law_87 ?_
        refine lv_bipush (v := 100) (pc := 88) hx hb dL_law_88 (by decide) ?_
        refine lv_irem (pc := 90) hx hb dL_law_90 (by decide) ?_
        refine lv_isub (pc := 91) hx hb dL_law_91 ?_
        obtain ⟨hi273, h⟩ := h
        refine m_iast (pc := 92) C hK hP hS hk270 hi273 dL_law_92 (fun M274 H locs eM274 hP hS => ?_)
        replace h := h M274 eM274
        obtain ⟨v275, ev275⟩ : ∃ y : Int32, y = x7 + (-1) := ⟨_, rfl⟩
        replace h := h v275 ev275
        refine lv_iinc (v := v275) (lv' := [(7, .int v275), (0, .ref sb), (1, .ref (b + 0)), (2, .ref (b + 276)), (3, .ref (b + 277)), (4, .int x4), (5, .int x5), (6, .int x6)]) (pc := 93) hx hb dL_law_93 hl (k := 7) rfl (by rw [ev275]; rfl) (by decide) rfl (fun ls hl => ?_)
        refine lv_goto (tgt := 63) (pc := 96) hx hb dL_law_96 (by decide) ?_
        exact ih _ _ _ _ _ _ _ _ h hP hS (lv_sub hl [1, 2, 3, 4, 5, 6, 7, 0] rfl)
  intro f
  induction f with
  | zero => intro M H locs ls x4 h; exact h.elim
  | succ f ih =>
    intro M H locs ls x4 h hP hS hl
    have h : wpB_L_law_20 xs L (wpL_L_law_20 xs L f) M x4 := h
    unfold wpB_L_law_20 at h
    refine lv_iload (pc := 20) hx hb dL_law_20 (lv_at hl 4 rfl) ?_
    refine lv_bipush (v := 36) (pc := 22) hx hb dL_law_22 (by decide) ?_
    refine lv_icmp_ge (tgt := 271) (pc := 24) hx hb dL_law_24 (by decide) (fun c24 => ?_) (fun c24 => ?_)
    · replace h := h.1 c24
      refine lv_iconst (v := 1) (pc := 271) hx hb dL_law_271 (by decide) ?_
      refine va_forget (fun q hq => by rw [hbs]; exact hS.2.2 q hq) ?_
      refine W.widen (k := 652991) (n := 7142724) (Nat.le_of_ble_eq_true rfl) (Nat.le_of_ble_eq_true rfl) ?_
      exact lw_ret (d0 := s.drawn) (Drawn.sameBut.refl s.drawn lw_cs) hx hb hr hlocks dL_law_272
    · replace h := h.2 c24
      refine lv_aload_n (pc := 27) hx hb dL_law_27 rfl (lv_at hl 0 rfl) ?_
      refine lv_iconst (v := 2) (pc := 28) hx hb dL_law_28 (by decide) ?_
      refine lv_iload (pc := 29) hx hb dL_law_29 (lv_at hl 4 rfl) ?_
      refine lv_imul (pc := 31) hx hb dL_law_31 ?_
      refine m_callSX (pc := 32) (y := yL_cell) (np := 2) (As := [.ref sb, .int (2 * x4)]) (rest := []) C hK hX hbl hbA hP hS hl.1 ⟨Nat.le_of_ble_eq_true rfl, Nat.le_of_ble_eq_true rfl⟩ (c_L_cell hbA h) rfl rfl q_434 q_435 q_0 q_436 ⟨rfl, rfl⟩ yd_L_cell ⟨Nat.le_of_ble_eq_true rfl, Nat.le_of_ble_eq_true rfl⟩ (Nat.le_of_ble_eq_true rfl) dL_law_32 (fun r1 M2 H locs h hP hS => ?_)
      refine lv_istore (lv' := [(5, .int r1), (0, .ref sb), (1, .ref (b + 0)), (2, .ref (b + 276)), (3, .ref (b + 277)), (4, .int x4)]) (pc := 35) hx hb dL_law_35 hl (by decide) rfl (fun ls hl => ?_)
      refine lv_aload_n (pc := 37) hx hb dL_law_37 rfl (lv_at hl 1 rfl) ?_
      refine lv_iconst (v := 2) (pc := 38) hx hb dL_law_38 (by decide) ?_
      refine lv_iload (pc := 39) hx hb dL_law_39 (lv_at hl 5 rfl) ?_
      refine lv_imul (pc := 41) hx hb dL_law_41 ?_
      refine lv_iconst (v := 1) (pc := 42) hx hb dL_law_42 (by decide) ?_
      refine lv_iadd (pc := 43) hx hb dL_law_43 ?_
      refine m_callSX (pc := 44) (y := yL_cell) (np := 2) (As := [.ref sb, .int ((2 * x4) + 1)]) (rest := []) C hK hX hbl hbA hP hS hl.1 ⟨Nat.le_of_ble_eq_true rfl, Nat.le_of_ble_eq_true rfl⟩ (c_L_cell hbA h) rfl rfl q_434 q_435 q_0 q_436 ⟨rfl, rfl⟩ yd_L_cell ⟨Nat.le_of_ble_eq_true rfl, Nat.le_of_ble_eq_true rfl⟩ (Nat.le_of_ble_eq_true rfl) dL_law_44 (fun r3 M4 H locs h hP hS => ?_)
      refine lv_istore (lv' := [(6, .int r3), (5, .int r1), (0, .ref sb), (1, .ref (b + 0)), (2, .ref (b + 276)), (3, .ref (b + 277)), (4, .int x4)]) (pc := 47) hx hb dL_law_47 hl (by decide) rfl (fun ls hl => ?_)
      refine lv_aload_n (pc := 49) hx hb dL_law_49 rfl (lv_at hl 3 rfl) ?_
      refine lv_bipush (v := 11) (pc := 50) hx hb dL_law_50 (by decide) ?_
      obtain ⟨hk6, h⟩ := h
      refine m_callVI (pc := 52) (y := yX6_count) (κ := 6) (As := [.int 11]) (rest := []) C hK hP hS hl.1 ⟨Nat.le_of_ble_eq_true rfl, Nat.le_of_ble_eq_true rfl⟩ (c_X6_count h) rfl rfl hk6 (by decide) rfl q_383 q_384 q_385 q_1 q_386 ⟨rfl, rfl⟩ yd_X6_count ⟨Nat.le_of_ble_eq_true rfl, Nat.le_of_ble_eq_true rfl⟩ (Nat.le_of_ble_eq_true rfl) dL_law_52 (fun r7 M5 H locs h hP hS => ?_)
      refine lv_bipush (v := 6) (pc := 55) hx hb dL_law_55 (by decide) ?_
      refine lv_icmp_ne (tgt := 99) (pc := 57) hx hb dL_law_57 (by decide) (fun c57 => ?_) (fun c57 => ?_)
      · replace h := h.1 c57
        refine lv_aload_n (pc := 99) hx hb dL_law_99 rfl (lv_at hl 3 rfl) ?_
        refine lv_bipush (v := 11) (pc := 100) hx hb dL_law_100 (by decide) ?_
        refine m_callVI (pc := 102) (y := yX6_count) (κ := 6) (As := [.int 11]) (rest := []) C hK hP hS hl.1 ⟨Nat.le_of_ble_eq_true rfl, Nat.le_of_ble_eq_true rfl⟩ (c_X6_count h) rfl rfl hk6 (by decide) rfl q_383 q_384 q_385 q_1 q_386 ⟨rfl, rfl⟩ yd_X6_count ⟨Nat.le_of_ble_eq_true rfl, Nat.le_of_ble_eq_true rfl⟩ (Nat.le_of_ble_eq_true rfl) dL_law_102 (fun r9 M8 H locs h hP hS => ?_)
        refine lv_istore (lv' := [(7, .int r9), (6, .int r3), (5, .int r1), (0, .ref sb), (1, .ref (b + 0)), (2, .ref (b + 276)), (3, .ref (b + 277)), (4, .int x4)]) (pc := 105) hx hb dL_law_105 hl (by decide) rfl (fun ls hl => ?_)
        refine lv_aload_n (pc := 107) hx hb dL_law_107 rfl (lv_at hl 4 rfl) ?_
        refine m_callSL (pc := 108) (y := yL_told) (As := [.ref (b + 0)]) (rest := []) C hK hP hS hl.1 ⟨Nat.le_of_ble_eq_true rfl, Nat.le_of_ble_eq_true rfl⟩ (c_L_told h) rfl rfl q_437 q_438 q_0 q_439 ⟨rfl, rfl⟩ yd_L_told ⟨Nat.le_of_ble_eq_true rfl, Nat.le_of_ble_eq_true rfl⟩ (Nat.le_of_ble_eq_true rfl) dL_law_108 (fun r11 M10 H locs h hP hS => ?_)
        refine lv_lstore (lv' := [(8, .long r11), (7, .int r9), (6, .int r3), (5, .int r1), (0, .ref sb), (1, .ref (b + 0)), (2, .ref (b + 276)), (3, .ref (b + 277)), (4, .int x4)]) (pc := 111) hx hb dL_law_111 hl (by decide) rfl (fun ls hl => ?_)
        refine lv_aload_n (pc := 113) hx hb dL_law_113 rfl (lv_at hl 5 rfl) ?_
        refine lv_iload (pc := 114) hx hb dL_law_114 (lv_at hl 3 rfl) ?_
        refine lv_iload (pc := 116) hx hb dL_law_116 (lv_at hl 2 rfl) ?_
        refine m_callSI (pc := 118) (y := yL_acts) (As := [.ref (b + 0), .int r1, .int r3]) (rest := []) C hK hP hS hl.1 ⟨Nat.le_of_ble_eq_true rfl, Nat.le_of_ble_eq_true rfl⟩ (c_L_acts h) rfl rfl q_529 q_530 q_0 q_531 ⟨rfl, rfl⟩ yd_L_acts ⟨Nat.le_of_ble_eq_true rfl, Nat.le_of_ble_eq_true rfl⟩ (Nat.le_of_ble_eq_true rfl) dL_law_118 (fun r13 M12 H locs h hP hS => ?_)
        refine lv_istore (lv' := [(10, .int r13), (8, .long r11), (7, .int r9), (6, .int r3), (5, .int r1), (0, .ref sb), (1, .ref (b + 0)), (2, .ref (b + 276)), (3, .ref (b + 277)), (4, .int x4)]) (pc := 121) hx hb dL_law_121 hl (by decide) rfl (fun ls hl => ?_)
        refine lv_aload_n (pc := 123) hx hb dL_law_123 rfl (lv_at hl 6 rfl) ?_
        refine m_callSL (pc := 124) (y := yL_told) (As := [.ref (b + 0)]) (rest := []) C hK hP hS hl.1 ⟨Nat.le_of_ble_eq_true rfl, Nat.le_of_ble_eq_true rfl⟩ (c_L_told h) rfl rfl q_437 q_438 q_0 q_439 ⟨rfl, rfl⟩ yd_L_told ⟨Nat.le_of_ble_eq_true rfl, Nat.le_of_ble_eq_true rfl⟩ (Nat.le_of_ble_eq_true rfl) dL_law_124 (fun r15 M14 H locs h hP hS => ?_)
        refine lv_lstore (lv' := [(11, .long r15), (10, .int r13), (8, .long r11), (7, .int r9), (6, .int r3), (5, .int r1), (0, .ref sb), (1, .ref (b + 0)), (2, .ref (b + 276)), (3, .ref (b + 277)), (4, .int x4)]) (pc := 127) hx hb dL_law_127 hl (by decide) rfl (fun ls hl => ?_)
        refine lv_iload (pc := 129) hx hb dL_law_129 (lv_at hl 1 rfl) ?_
        refine lv_if_ge (tgt := 145) (pc := 131) hx hb dL_law_131 (by decide) (fun c131 => ?_) (fun c131 => ?_)
        · replace h := h.1 c131
          refine lv_aload_n (pc := 145) hx hb dL_law_145 rfl (lv_at hl 7 rfl) ?_
          refine lv_bipush (v := 11) (pc := 146) hx hb dL_law_146 (by decide) ?_
          refine m_callVI (pc := 148) (y := yX6_count) (κ := 6) (As := [.int 11]) (rest := []) C hK hP hS hl.1 ⟨Nat.le_of_ble_eq_true rfl, Nat.le_of_ble_eq_true rfl⟩ (c_X6_count h) rfl rfl hk6 (by decide) rfl q_383 q_384 q_385 q_1 q_386 ⟨rfl, rfl⟩ yd_X6_count ⟨Nat.le_of_ble_eq_true rfl, Nat.le_of_ble_eq_true rfl⟩ (Nat.le_of_ble_eq_true rfl) dL_law_148 (fun r17 M16 H locs h hP hS => ?_)
          refine lv_iload (pc := 151) hx hb dL_law_151 (lv_at hl 3 rfl) ?_
          refine lv_iconst (v := 1) (pc := 153) hx hb dL_law_153 (by decide) ?_
          refine lv_iadd (pc := 154) hx hb dL_law_154 ?_
          refine lv_icmp_eq (tgt := 160) (pc := 155) hx hb dL_law_155 (by decide) (fun c155 => ?_) (fun c155 => ?_)
          · replace h := h.1 c155
            refine lv_iload (pc := 160) hx hb dL_law_160 (lv_at hl 1 rfl) ?_
            refine lv_if_lt (tgt := 219) (pc := 162) hx hb dL_law_162 (by decide) (fun c162 => ?_) (fun c162 => ?_)
            · replace h := h.1 c162
              refine lv_iload (pc := 219) hx hb dL_law_219 (lv_at hl 1 rfl) ?_
              refine lv_if_lt (tgt := 245) (pc := 221) hx hb dL_law_221 (by decide) (fun c221 => ?_) (fun c221 => ?_)
              · replace h := h.1 c221
                refine lv_aload_n (pc := 245) hx hb dL_law_245 rfl (lv_at hl 7 rfl) ?_
                refine lv_aload_n (pc := 246) hx hb dL_law_246 rfl (lv_at hl 8 rfl) ?_
                refine m_callSZ (pc := 247) (y := yL_holds) (As := [.ref (b + 0), .ref (b + 276)]) (rest := []) C hK hP hS hl.1 ⟨Nat.le_of_ble_eq_true rfl, Nat.le_of_ble_eq_true rfl⟩ (c_L_holds h) rfl rfl q_694 q_695 q_0 q_696 ⟨rfl, rfl⟩ yd_L_holds ⟨Nat.le_of_ble_eq_true rfl, Nat.le_of_ble_eq_true rfl⟩ (Nat.le_of_ble_eq_true rfl) dL_law_247 (fun z19 M18 H locs h hP hS => ?_)
                refine lv_if_eq (tgt := 263) (pc := 250) hx hb dL_law_250 (by decide) (fun c250 => ?_) (fun c250 => ?_)
                · replace h := h.1 (bZ0 c250)
                  refine lv_iconst (v := 0) (pc := 263) hx hb dL_law_263 (by decide) ?_
                  exact h.elim
                · replace h := h.2 (bZ1 c250)
                  refine lv_aload_n (pc := 253) hx hb dL_law_253 rfl (lv_at hl 7 rfl) ?_
                  refine m_callSL (pc := 254) (y := yL_told) (As := [.ref (b + 0)]) (rest := []) C hK hP hS hl.1 ⟨Nat.le_of_ble_eq_true rfl, Nat.le_of_ble_eq_true rfl⟩ (c_L_told h) rfl rfl q_437 q_438 q_0 q_439 ⟨rfl, rfl⟩ yd_L_told ⟨Nat.le_of_ble_eq_true rfl, Nat.le_of_ble_eq_true rfl⟩ (Nat.le_of_ble_eq_true rfl) dL_law_254 (fun r21 M20 H locs h hP hS => ?_)
                  refine lv_lload (pc := 257) hx hb dL_law_257 (lv_at hl 0 rfl) ?_
                  refine W.lcmp (pc := 259) hx hb dL_law_259 ?_
                  refine lv_if_eq (tgt := 265) (pc := 260) hx hb dL_law_260 (by decide) (fun c260 => ?_) (fun c260 => ?_)
                  · replace h := h.1 c260
                    obtain ⟨v22, ev22⟩ : ∃ y : Int32, y = x4 + 1 := ⟨_, rfl⟩
                    replace h := h v22 ev22
                    refine lv_iinc (v := v22) (lv' := [(4, .int v22), (11, .long r15), (10, .int r13), (8, .long r11), (7, .int r9), (6, .int r3), (5, .int r1), (0, .ref sb), (1, .ref (b + 0)), (2, .ref (b + 276)), (3, .ref (b + 277))]) (pc := 265) hx hb dL_law_265 hl (k := 10) rfl (by rw [ev22]; rfl) (by decide) rfl (fun ls hl => ?_)
                    refine lv_goto (tgt := 20) (pc := 268) hx hb dL_law_268 (by decide) ?_
                    exact ih _ _ _ _ _ h hP hS (lv_sub hl [7, 8, 9, 10, 0] rfl)
                  · replace h := h.2 c260
                    refine lv_iconst (v := 0) (pc := 263) hx hb dL_law_263 (by decide) ?_
                    exact h.elim
              · replace h := h.2 c221
                refine lv_aload_n (pc := 224) hx hb dL_law_224 rfl (lv_at hl 9 rfl) ?_
                refine lv_iload (pc := 225) hx hb dL_law_225 (lv_at hl 3 rfl) ?_
                refine lv_iload (pc := 227) hx hb dL_law_227 (lv_at hl 1 rfl) ?_
                obtain ⟨hk23, h⟩ := h
                obtain ⟨hi24, h⟩ := h
                refine m_iast (pc := 229) C hK hP hS hk23 hi24 dL_law_229 (fun M25 H locs eM25 hP hS => ?_)
                replace h := h M25 eM25
                refine lv_aload_n (pc := 230) hx hb dL_law_230 rfl (lv_at hl 8 rfl) ?_
                refine lv_iload (pc := 231) hx hb dL_law_231 (lv_at hl 1 rfl) ?_
                refine lv_bipush (v := 100) (pc := 233) hx hb dL_law_233 (by decide) ?_
                refine lv_idiv (pc := 235) hx hb dL_law_235 (by decide) ?_
                refine lv_dup2_11 (pc := 236) hx hb dL_law_236 rfl rfl ?_
                obtain ⟨hk26, h⟩ := h
                obtain ⟨hi27, h⟩ := h
                refine m_iald (pc := 237) C hK hP hk26 hi27 dL_law_237 ?_
                refine lv_iload (pc := 238) hx hb dL_law_238 (lv_at hl 1 rfl) ?_
                refine lv_bipush (v := 100) (pc := 240) hx hb dL_law_240 (by decide) ?_
                refine lv_irem (pc := 242) hx hb dL_law_242 (by decide) ?_
                refine lv_iadd (pc := 243) hx hb dL_law_243 ?_
                obtain ⟨hi28, h⟩ := h
                refine m_iast (pc := 244) C hK hP hS hk26 hi28 dL_law_244 (fun M29 H locs eM29 hP hS => ?_)
                replace h := h M29 eM29
                refine lv_aload_n (pc := 245) hx hb dL_law_245 rfl (lv_at hl 7 rfl) ?_
                refine lv_aload_n (pc := 246) hx hb dL_law_246 rfl (lv_at hl 8 rfl) ?_
                refine m_callSZ (pc := 247) (y := yL_holds) (As := [.ref (b + 0), .ref (b + 276)]) (rest := []) C hK hP hS hl.1 ⟨Nat.le_of_ble_eq_true rfl, Nat.le_of_ble_eq_true rfl⟩ (c_L_holds h) rfl rfl q_694 q_695 q_0 q_696 ⟨rfl, rfl⟩ yd_L_holds ⟨Nat.le_of_ble_eq_true rfl, Nat.le_of_ble_eq_true rfl⟩ (Nat.le_of_ble_eq_true rfl) dL_law_247 (fun z31 M30 H locs h hP hS => ?_)
                refine lv_if_eq (tgt := 263) (pc := 250) hx hb dL_law_250 (by decide) (fun c250 => ?_) (fun c250 => ?_)
                · replace h := h.1 (bZ0 c250)
                  refine lv_iconst (v := 0) (pc := 263) hx hb dL_law_263 (by decide) ?_
                  exact h.elim
                · replace h := h.2 (bZ1 c250)
                  refine lv_aload_n (pc := 253) hx hb dL_law_253 rfl (lv_at hl 7 rfl) ?_
                  refine m_callSL (pc := 254) (y := yL_told) (As := [.ref (b + 0)]) (rest := []) C hK hP hS hl.1 ⟨Nat.le_of_ble_eq_true rfl, Nat.le_of_ble_eq_true rfl⟩ (c_L_told h) rfl rfl q_437 q_438 q_0 q_439 ⟨rfl, rfl⟩ yd_L_told ⟨Nat.le_of_ble_eq_true rfl, Nat.le_of_ble_eq_true rfl⟩ (Nat.le_of_ble_eq_true rfl) dL_law_254 (fun r33 M32 H locs h hP hS => ?_)
                  refine lv_lload (pc := 257) hx hb dL_law_257 (lv_at hl 0 rfl) ?_
                  refine W.lcmp (pc := 259) hx hb dL_law_259 ?_
                  refine lv_if_eq (tgt := 265) (pc := 260) hx hb dL_law_260 (by decide) (fun c260 => ?_) (fun c260 => ?_)
                  · replace h := h.1 c260
                    obtain ⟨v34, ev34⟩ : ∃ y : Int32, y = x4 + 1 := ⟨_, rfl⟩
                    replace h := h v34 ev34
                    refine lv_iinc (v := v34) (lv' := [(4, .int v34), (11, .long r15), (10, .int r13), (8, .long r11), (7, .int r9), (6, .int r3), (5, .int r1), (0, .ref sb), (1, .ref (b + 0)), (2, .ref (b + 276)), (3, .ref (b + 277))]) (pc := 265) hx hb dL_law_265 hl (k := 10) rfl (by rw [ev34]; rfl) (by decide) rfl (fun ls hl => ?_)
                    refine lv_goto (tgt := 20) (pc := 268) hx hb dL_law_268 (by decide) ?_
                    exact ih _ _ _ _ _ h hP hS (lv_sub hl [7, 8, 9, 10, 0] rfl)
                  · replace h := h.2 c260
                    refine lv_iconst (v := 0) (pc := 263) hx hb dL_law_263 (by decide) ?_
                    exact h.elim
            · replace h := h.2 c162
              refine lv_iload (pc := 165) hx hb dL_law_165 (lv_at hl 5 rfl) ?_
              refine lv_bipush (v := 13) (pc := 167) hx hb dL_law_167 (by decide) ?_
              refine lv_ishr (pc := 169) hx hb dL_law_169 ?_
              refine lv_iconst (v := 1) (pc := 170) hx hb dL_law_170 (by decide) ?_
              refine lv_iand (pc := 171) hx hb dL_law_171 ?_
              refine lv_if_ne (tgt := 219) (pc := 172) hx hb dL_law_172 (by decide) (fun c172 => ?_) (fun c172 => ?_)
              · replace h := h.1 c172
                refine lv_iload (pc := 219) hx hb dL_law_219 (lv_at hl 1 rfl) ?_
                refine lv_if_lt (tgt := 245) (pc := 221) hx hb dL_law_221 (by decide) (fun c221 => ?_) (fun c221 => ?_)
                · replace h := h.1 c221
                  refine lv_aload_n (pc := 245) hx hb dL_law_245 rfl (lv_at hl 7 rfl) ?_
                  refine lv_aload_n (pc := 246) hx hb dL_law_246 rfl (lv_at hl 8 rfl) ?_
                  refine m_callSZ (pc := 247) (y := yL_holds) (As := [.ref (b + 0), .ref (b + 276)]) (rest := []) C hK hP hS hl.1 ⟨Nat.le_of_ble_eq_true rfl, Nat.le_of_ble_eq_true rfl⟩ (c_L_holds h) rfl rfl q_694 q_695 q_0 q_696 ⟨rfl, rfl⟩ yd_L_holds ⟨Nat.le_of_ble_eq_true rfl, Nat.le_of_ble_eq_true rfl⟩ (Nat.le_of_ble_eq_true rfl) dL_law_247 (fun z36 M35 H locs h hP hS => ?_)
                  refine lv_if_eq (tgt := 263) (pc := 250) hx hb dL_law_250 (by decide) (fun c250 => ?_) (fun c250 => ?_)
                  · replace h := h.1 (bZ0 c250)
                    refine lv_iconst (v := 0) (pc := 263) hx hb dL_law_263 (by decide) ?_
                    exact h.elim
                  · replace h := h.2 (bZ1 c250)
                    refine lv_aload_n (pc := 253) hx hb dL_law_253 rfl (lv_at hl 7 rfl) ?_
                    refine m_callSL (pc := 254) (y := yL_told) (As := [.ref (b + 0)]) (rest := []) C hK hP hS hl.1 ⟨Nat.le_of_ble_eq_true rfl, Nat.le_of_ble_eq_true rfl⟩ (c_L_told h) rfl rfl q_437 q_438 q_0 q_439 ⟨rfl, rfl⟩ yd_L_told ⟨Nat.le_of_ble_eq_true rfl, Nat.le_of_ble_eq_true rfl⟩ (Nat.le_of_ble_eq_true rfl) dL_law_254 (fun r38 M37 H locs h hP hS => ?_)
                    refine lv_lload (pc := 257) hx hb dL_law_257 (lv_at hl 0 rfl) ?_
                    refine W.lcmp (pc := 259) hx hb dL_law_259 ?_
                    refine lv_if_eq (tgt := 265) (pc := 260) hx hb dL_law_260 (by decide) (fun c260 => ?_) (fun c260 => ?_)
                    · replace h := h.1 c260
                      obtain ⟨v39, ev39⟩ : ∃ y : Int32, y = x4 + 1 := ⟨_, rfl⟩
                      replace h := h v39 ev39
                      refine lv_iinc (v := v39) (lv' := [(4, .int v39), (11, .long r15), (10, .int r13), (8, .long r11), (7, .int r9), (6, .int r3), (5, .int r1), (0, .ref sb), (1, .ref (b + 0)), (2, .ref (b + 276)), (3, .ref (b + 277))]) (pc := 265) hx hb dL_law_265 hl (k := 10) rfl (by rw [ev39]; rfl) (by decide) rfl (fun ls hl => ?_)
                      refine lv_goto (tgt := 20) (pc := 268) hx hb dL_law_268 (by decide) ?_
                      exact ih _ _ _ _ _ h hP hS (lv_sub hl [7, 8, 9, 10, 0] rfl)
                    · replace h := h.2 c260
                      refine lv_iconst (v := 0) (pc := 263) hx hb dL_law_263 (by decide) ?_
                      exact h.elim
                · replace h := h.2 c221
                  refine lv_aload_n (pc := 224) hx hb dL_law_224 rfl (lv_at hl 9 rfl) ?_
                  refine lv_iload (pc := 225) hx hb dL_law_225 (lv_at hl 3 rfl) ?_
                  refine lv_iload (pc := 227) hx hb dL_law_227 (lv_at hl 1 rfl) ?_
                  obtain ⟨hk40, h⟩ := h
                  obtain ⟨hi41, h⟩ := h
                  refine m_iast (pc := 229) C hK hP hS hk40 hi41 dL_law_229 (fun M42 H locs eM42 hP hS => ?_)
                  replace h := h M42 eM42
                  refine lv_aload_n (pc := 230) hx hb dL_law_230 rfl (lv_at hl 8 rfl) ?_
                  refine lv_iload (pc := 231) hx hb dL_law_231 (lv_at hl 1 rfl) ?_
                  refine lv_bipush (v := 100) (pc := 233) hx hb dL_law_233 (by decide) ?_
                  refine lv_idiv (pc := 235) hx hb dL_law_235 (by decide) ?_
                  refine lv_dup2_11 (pc := 236) hx hb dL_law_236 rfl rfl ?_
                  obtain ⟨hk43, h⟩ := h
                  obtain ⟨hi44, h⟩ := h
                  refine m_iald (pc := 237) C hK hP hk43 hi44 dL_law_237 ?_
                  refine lv_iload (pc := 238) hx hb dL_law_238 (lv_at hl 1 rfl) ?_
                  refine lv_bipush (v := 100) (pc := 240) hx hb dL_law_240 (by decide) ?_
                  refine lv_irem (pc := 242) hx hb dL_law_242 (by decide) ?_
                  refine lv_iadd (pc := 243) hx hb dL_law_243 ?_
                  obtain ⟨hi45, h⟩ := h
                  refine m_iast (pc := 244) C hK hP hS hk43 hi45 dL_law_244 (fun M46 H locs eM46 hP hS => ?_)
                  replace h := h M46 eM46
                  refine lv_aload_n (pc := 245) hx hb dL_law_245 rfl (lv_at hl 7 rfl) ?_
                  refine lv_aload_n (pc := 246) hx hb dL_law_246 rfl (lv_at hl 8 rfl) ?_
                  refine m_callSZ (pc := 247) (y := yL_holds) (As := [.ref (b + 0), .ref (b + 276)]) (rest := []) C hK hP hS hl.1 ⟨Nat.le_of_ble_eq_true rfl, Nat.le_of_ble_eq_true rfl⟩ (c_L_holds h) rfl rfl q_694 q_695 q_0 q_696 ⟨rfl, rfl⟩ yd_L_holds ⟨Nat.le_of_ble_eq_true rfl, Nat.le_of_ble_eq_true rfl⟩ (Nat.le_of_ble_eq_true rfl) dL_law_247 (fun z48 M47 H locs h hP hS => ?_)
                  refine lv_if_eq (tgt := 263) (pc := 250) hx hb dL_law_250 (by decide) (fun c250 => ?_) (fun c250 => ?_)
                  · replace h := h.1 (bZ0 c250)
                    refine lv_iconst (v := 0) (pc := 263) hx hb dL_law_263 (by decide) ?_
                    exact h.elim
                  · replace h := h.2 (bZ1 c250)
                    refine lv_aload_n (pc := 253) hx hb dL_law_253 rfl (lv_at hl 7 rfl) ?_
                    refine m_callSL (pc := 254) (y := yL_told) (As := [.ref (b + 0)]) (rest := []) C hK hP hS hl.1 ⟨Nat.le_of_ble_eq_true rfl, Nat.le_of_ble_eq_true rfl⟩ (c_L_told h) rfl rfl q_437 q_438 q_0 q_439 ⟨rfl, rfl⟩ yd_L_told ⟨Nat.le_of_ble_eq_true rfl, Nat.le_of_ble_eq_true rfl⟩ (Nat.le_of_ble_eq_true rfl) dL_law_254 (fun r50 M49 H locs h hP hS => ?_)
                    refine lv_lload (pc := 257) hx hb dL_law_257 (lv_at hl 0 rfl) ?_
                    refine W.lcmp (pc := 259) hx hb dL_law_259 ?_
                    refine lv_if_eq (tgt := 265) (pc := 260) hx hb dL_law_260 (by decide) (fun c260 => ?_) (fun c260 => ?_)
                    · replace h := h.1 c260
                      obtain ⟨v51, ev51⟩ : ∃ y : Int32, y = x4 + 1 := ⟨_, rfl⟩
                      replace h := h v51 ev51
                      refine lv_iinc (v := v51) (lv' := [(4, .int v51), (11, .long r15), (10, .int r13), (8, .long r11), (7, .int r9), (6, .int r3), (5, .int r1), (0, .ref sb), (1, .ref (b + 0)), (2, .ref (b + 276)), (3, .ref (b + 277))]) (pc := 265) hx hb dL_law_265 hl (k := 10) rfl (by rw [ev51]; rfl) (by decide) rfl (fun ls hl => ?_)
                      refine lv_goto (tgt := 20) (pc := 268) hx hb dL_law_268 (by decide) ?_
                      exact ih _ _ _ _ _ h hP hS (lv_sub hl [7, 8, 9, 10, 0] rfl)
                    · replace h := h.2 c260
                      refine lv_iconst (v := 0) (pc := 263) hx hb dL_law_263 (by decide) ?_
                      exact h.elim
              · replace h := h.2 c172
                refine lv_aload_n (pc := 175) hx hb dL_law_175 rfl (lv_at hl 7 rfl) ?_
                refine m_callVI (pc := 176) (y := yX6_undo) (κ := 6) (As := []) (rest := []) C hK hP hS hl.1 ⟨Nat.le_of_ble_eq_true rfl, Nat.le_of_ble_eq_true rfl⟩ (c_X6_undo h) rfl rfl hk6 (by decide) rfl q_267 q_268 q_269 q_1 q_270 ⟨rfl, rfl⟩ yd_X6_undo ⟨Nat.le_of_ble_eq_true rfl, Nat.le_of_ble_eq_true rfl⟩ (Nat.le_of_ble_eq_true rfl) dL_law_176 (fun r53 M52 H locs h hP hS => ?_)
                refine lv_iload (pc := 179) hx hb dL_law_179 (lv_at hl 3 rfl) ?_
                refine lv_icmp_ne (tgt := 217) (pc := 181) hx hb dL_law_181 (by decide) (fun c181 => ?_) (fun c181 => ?_)
                · replace h := h.1 c181
                  refine lv_iconst (v := 0) (pc := 217) hx hb dL_law_217 (by decide) ?_
                  exact h.elim
                · replace h := h.2 c181
                  refine lv_aload_n (pc := 184) hx hb dL_law_184 rfl (lv_at hl 7 rfl) ?_
                  refine m_callSL (pc := 185) (y := yL_told) (As := [.ref (b + 0)]) (rest := []) C hK hP hS hl.1 ⟨Nat.le_of_ble_eq_true rfl, Nat.le_of_ble_eq_true rfl⟩ (c_L_told h) rfl rfl q_437 q_438 q_0 q_439 ⟨rfl, rfl⟩ yd_L_told ⟨Nat.le_of_ble_eq_true rfl, Nat.le_of_ble_eq_true rfl⟩ (Nat.le_of_ble_eq_true rfl) dL_law_185 (fun r55 M54 H locs h hP hS => ?_)
                  refine lv_lload (pc := 188) hx hb dL_law_188 (lv_at hl 2 rfl) ?_
                  refine W.lcmp (pc := 190) hx hb dL_law_190 ?_
                  refine lv_if_ne (tgt := 217) (pc := 191) hx hb dL_law_191 (by decide) (fun c191 => ?_) (fun c191 => ?_)
                  · replace h := h.1 c191
                    refine lv_iconst (v := 0) (pc := 217) hx hb dL_law_217 (by decide) ?_
                    exact h.elim
                  · replace h := h.2 c191
                    refine lv_aload_n (pc := 194) hx hb dL_law_194 rfl (lv_at hl 7 rfl) ?_
                    refine lv_iload (pc := 195) hx hb dL_law_195 (lv_at hl 5 rfl) ?_
                    refine lv_iload (pc := 197) hx hb dL_law_197 (lv_at hl 4 rfl) ?_
                    refine m_callSI (pc := 199) (y := yL_acts) (As := [.ref (b + 0), .int r1, .int r3]) (rest := []) C hK hP hS hl.1 ⟨Nat.le_of_ble_eq_true rfl, Nat.le_of_ble_eq_true rfl⟩ (c_L_acts h) rfl rfl q_529 q_530 q_0 q_531 ⟨rfl, rfl⟩ yd_L_acts ⟨Nat.le_of_ble_eq_true rfl, Nat.le_of_ble_eq_true rfl⟩ (Nat.le_of_ble_eq_true rfl) dL_law_199 (fun r57 M56 H locs h hP hS => ?_)
                    refine lv_iload (pc := 202) hx hb dL_law_202 (lv_at hl 1 rfl) ?_
                    refine lv_icmp_ne (tgt := 217) (pc := 204) hx hb dL_law_204 (by decide) (fun c204 => ?_) (fun c204 => ?_)
                    · replace h := h.1 c204
                      refine lv_iconst (v := 0) (pc := 217) hx hb dL_law_217 (by decide) ?_
                      exact h.elim
                    · replace h := h.2 c204
                      refine lv_aload_n (pc := 207) hx hb dL_law_207 rfl (lv_at hl 7 rfl) ?_
                      refine m_callSL (pc := 208) (y := yL_told) (As := [.ref (b + 0)]) (rest := []) C hK hP hS hl.1 ⟨Nat.le_of_ble_eq_true rfl, Nat.le_of_ble_eq_true rfl⟩ (c_L_told h) rfl rfl q_437 q_438 q_0 q_439 ⟨rfl, rfl⟩ yd_L_told ⟨Nat.le_of_ble_eq_true rfl, Nat.le_of_ble_eq_true rfl⟩ (Nat.le_of_ble_eq_true rfl) dL_law_208 (fun r59 M58 H locs h hP hS => ?_)
                      refine lv_lload (pc := 211) hx hb dL_law_211 (lv_at hl 0 rfl) ?_
                      refine W.lcmp (pc := 213) hx hb dL_law_213 ?_
                      refine lv_if_eq (tgt := 219) (pc := 214) hx hb dL_law_214 (by decide) (fun c214 => ?_) (fun c214 => ?_)
                      · replace h := h.1 c214
                        refine lv_iload (pc := 219) hx hb dL_law_219 (lv_at hl 1 rfl) ?_
                        refine lv_if_lt (tgt := 245) (pc := 221) hx hb dL_law_221 (by decide) (fun c221 => ?_) (fun c221 => ?_)
                        · replace h := h.1 c221
                          refine lv_aload_n (pc := 245) hx hb dL_law_245 rfl (lv_at hl 7 rfl) ?_
                          refine lv_aload_n (pc := 246) hx hb dL_law_246 rfl (lv_at hl 8 rfl) ?_
                          refine m_callSZ (pc := 247) (y := yL_holds) (As := [.ref (b + 0), .ref (b + 276)]) (rest := []) C hK hP hS hl.1 ⟨Nat.le_of_ble_eq_true rfl, Nat.le_of_ble_eq_true rfl⟩ (c_L_holds h) rfl rfl q_694 q_695 q_0 q_696 ⟨rfl, rfl⟩ yd_L_holds ⟨Nat.le_of_ble_eq_true rfl, Nat.le_of_ble_eq_true rfl⟩ (Nat.le_of_ble_eq_true rfl) dL_law_247 (fun z61 M60 H locs h hP hS => ?_)
                          refine lv_if_eq (tgt := 263) (pc := 250) hx hb dL_law_250 (by decide) (fun c250 => ?_) (fun c250 => ?_)
                          · replace h := h.1 (bZ0 c250)
                            refine lv_iconst (v := 0) (pc := 263) hx hb dL_law_263 (by decide) ?_
                            exact h.elim
                          · replace h := h.2 (bZ1 c250)
                            refine lv_aload_n (pc := 253) hx hb dL_law_253 rfl (lv_at hl 7 rfl) ?_
                            refine m_callSL (pc := 254) (y := yL_told) (As := [.ref (b + 0)]) (rest := []) C hK hP hS hl.1 ⟨Nat.le_of_ble_eq_true rfl, Nat.le_of_ble_eq_true rfl⟩ (c_L_told h) rfl rfl q_437 q_438 q_0 q_439 ⟨rfl, rfl⟩ yd_L_told ⟨Nat.le_of_ble_eq_true rfl, Nat.le_of_ble_eq_true rfl⟩ (Nat.le_of_ble_eq_true rfl) dL_law_254 (fun r63 M62 H locs h hP hS => ?_)
                            refine lv_lload (pc := 257) hx hb dL_law_257 (lv_at hl 0 rfl) ?_
                            refine W.lcmp (pc := 259) hx hb dL_law_259 ?_
                            refine lv_if_eq (tgt := 265) (pc := 260) hx hb dL_law_260 (by decide) (fun c260 => ?_) (fun c260 => ?_)
                            · replace h := h.1 c260
                              obtain ⟨v64, ev64⟩ : ∃ y : Int32, y = x4 + 1 := ⟨_, rfl⟩
                              replace h := h v64 ev64
                              refine lv_iinc (v := v64) (lv' := [(4, .int v64), (11, .long r15), (10, .int r13), (8, .long r11), (7, .int r9), (6, .int r3), (5, .int r1), (0, .ref sb), (1, .ref (b + 0)), (2, .ref (b + 276)), (3, .ref (b + 277))]) (pc := 265) hx hb dL_law_265 hl (k := 10) rfl (by rw [ev64]; rfl) (by decide) rfl (fun ls hl => ?_)
                              refine lv_goto (tgt := 20) (pc := 268) hx hb dL_law_268 (by decide) ?_
                              exact ih _ _ _ _ _ h hP hS (lv_sub hl [7, 8, 9, 10, 0] rfl)
                            · replace h := h.2 c260
                              refine lv_iconst (v := 0) (pc := 263) hx hb dL_law_263 (by decide) ?_
                              exact h.elim
                        · replace h := h.2 c221
                          refine lv_aload_n (pc := 224) hx hb dL_law_224 rfl (lv_at hl 9 rfl) ?_
                          refine lv_iload (pc := 225) hx hb dL_law_225 (lv_at hl 3 rfl) ?_
                          refine lv_iload (pc := 227) hx hb dL_law_227 (lv_at hl 1 rfl) ?_
                          obtain ⟨hk65, h⟩ := h
                          obtain ⟨hi66, h⟩ := h
                          refine m_iast (pc := 229) C hK hP hS hk65 hi66 dL_law_229 (fun M67 H locs eM67 hP hS => ?_)
                          replace h := h M67 eM67
                          refine lv_aload_n (pc := 230) hx hb dL_law_230 rfl (lv_at hl 8 rfl) ?_
                          refine lv_iload (pc := 231) hx hb dL_law_231 (lv_at hl 1 rfl) ?_
                          refine lv_bipush (v := 100) (pc := 233) hx hb dL_law_233 (by decide) ?_
                          refine lv_idiv (pc := 235) hx hb dL_law_235 (by decide) ?_
                          refine lv_dup2_11 (pc := 236) hx hb dL_law_236 rfl rfl ?_
                          obtain ⟨hk68, h⟩ := h
                          obtain ⟨hi69, h⟩ := h
                          refine m_iald (pc := 237) C hK hP hk68 hi69 dL_law_237 ?_
                          refine lv_iload (pc := 238) hx hb dL_law_238 (lv_at hl 1 rfl) ?_
                          refine lv_bipush (v := 100) (pc := 240) hx hb dL_law_240 (by decide) ?_
                          refine lv_irem (pc := 242) hx hb dL_law_242 (by decide) ?_
                          refine lv_iadd (pc := 243) hx hb dL_law_243 ?_
                          obtain ⟨hi70, h⟩ := h
                          refine m_iast (pc := 244) C hK hP hS hk68 hi70 dL_law_244 (fun M71 H locs eM71 hP hS => ?_)
                          replace h := h M71 eM71
                          refine lv_aload_n (pc := 245) hx hb dL_law_245 rfl (lv_at hl 7 rfl) ?_
                          refine lv_aload_n (pc := 246) hx hb dL_law_246 rfl (lv_at hl 8 rfl) ?_
                          refine m_callSZ (pc := 247) (y := yL_holds) (As := [.ref (b + 0), .ref (b + 276)]) (rest := []) C hK hP hS hl.1 ⟨Nat.le_of_ble_eq_true rfl, Nat.le_of_ble_eq_true rfl⟩ (c_L_holds h) rfl rfl q_694 q_695 q_0 q_696 ⟨rfl, rfl⟩ yd_L_holds ⟨Nat.le_of_ble_eq_true rfl, Nat.le_of_ble_eq_true rfl⟩ (Nat.le_of_ble_eq_true rfl) dL_law_247 (fun z73 M72 H locs h hP hS => ?_)
                          refine lv_if_eq (tgt := 263) (pc := 250) hx hb dL_law_250 (by decide) (fun c250 => ?_) (fun c250 => ?_)
                          · replace h := h.1 (bZ0 c250)
                            refine lv_iconst (v := 0) (pc := 263) hx hb dL_law_263 (by decide) ?_
                            exact h.elim
                          · replace h := h.2 (bZ1 c250)
                            refine lv_aload_n (pc := 253) hx hb dL_law_253 rfl (lv_at hl 7 rfl) ?_
                            refine m_callSL (pc := 254) (y := yL_told) (As := [.ref (b + 0)]) (rest := []) C hK hP hS hl.1 ⟨Nat.le_of_ble_eq_true rfl, Nat.le_of_ble_eq_true rfl⟩ (c_L_told h) rfl rfl q_437 q_438 q_0 q_439 ⟨rfl, rfl⟩ yd_L_told ⟨Nat.le_of_ble_eq_true rfl, Nat.le_of_ble_eq_true rfl⟩ (Nat.le_of_ble_eq_true rfl) dL_law_254 (fun r75 M74 H locs h hP hS => ?_)
                            refine lv_lload (pc := 257) hx hb dL_law_257 (lv_at hl 0 rfl) ?_
                            refine W.lcmp (pc := 259) hx hb dL_law_259 ?_
                            refine lv_if_eq (tgt := 265) (pc := 260) hx hb dL_law_260 (by decide) (fun c260 => ?_) (fun c260 => ?_)
                            · replace h := h.1 c260
                              obtain ⟨v76, ev76⟩ : ∃ y : Int32, y = x4 + 1 := ⟨_, rfl⟩
                              replace h := h v76 ev76
                              refine lv_iinc (v := v76) (lv' := [(4, .int v76), (11, .long r15), (10, .int r13), (8, .long r11), (7, .int r9), (6, .int r3), (5, .int r1), (0, .ref sb), (1, .ref (b + 0)), (2, .ref (b + 276)), (3, .ref (b + 277))]) (pc := 265) hx hb dL_law_265 hl (k := 10) rfl (by rw [ev76]; rfl) (by decide) rfl (fun ls hl => ?_)
                              refine lv_goto (tgt := 20) (pc := 268) hx hb dL_law_268 (by decide) ?_
                              exact ih _ _ _ _ _ h hP hS (lv_sub hl [7, 8, 9, 10, 0] rfl)
                            · replace h := h.2 c260
                              refine lv_iconst (v := 0) (pc := 263) hx hb dL_law_263 (by decide) ?_
                              exact h.elim
                      · replace h := h.2 c214
                        refine lv_iconst (v := 0) (pc := 217) hx hb dL_law_217 (by decide) ?_
                        exact h.elim
          · replace h := h.2 c155
            refine lv_iconst (v := 0) (pc := 158) hx hb dL_law_158 (by decide) ?_
            exact h.elim
        · replace h := h.2 c131
          refine lv_lload (pc := 134) hx hb dL_law_134 (lv_at hl 0 rfl) ?_
          refine lv_lload (pc := 136) hx hb dL_law_136 (lv_at hl 2 rfl) ?_
          refine W.lcmp (pc := 138) hx hb dL_law_138 ?_
          refine lv_if_eq (tgt := 160) (pc := 139) hx hb dL_law_139 (by decide) (fun c139 => ?_) (fun c139 => ?_)
          · replace h := h.1 c139
            refine lv_iload (pc := 160) hx hb dL_law_160 (lv_at hl 1 rfl) ?_
            refine lv_if_lt (tgt := 219) (pc := 162) hx hb dL_law_162 (by decide) (fun c162 => ?_) (fun c162 => ?_)
            · replace h := h.1 c162
              refine lv_iload (pc := 219) hx hb dL_law_219 (lv_at hl 1 rfl) ?_
              refine lv_if_lt (tgt := 245) (pc := 221) hx hb dL_law_221 (by decide) (fun c221 => ?_) (fun c221 => ?_)
              · replace h := h.1 c221
                refine lv_aload_n (pc := 245) hx hb dL_law_245 rfl (lv_at hl 7 rfl) ?_
                refine lv_aload_n (pc := 246) hx hb dL_law_246 rfl (lv_at hl 8 rfl) ?_
                refine m_callSZ (pc := 247) (y := yL_holds) (As := [.ref (b + 0), .ref (b + 276)]) (rest := []) C hK hP hS hl.1 ⟨Nat.le_of_ble_eq_true rfl, Nat.le_of_ble_eq_true rfl⟩ (c_L_holds h) rfl rfl q_694 q_695 q_0 q_696 ⟨rfl, rfl⟩ yd_L_holds ⟨Nat.le_of_ble_eq_true rfl, Nat.le_of_ble_eq_true rfl⟩ (Nat.le_of_ble_eq_true rfl) dL_law_247 (fun z78 M77 H locs h hP hS => ?_)
                refine lv_if_eq (tgt := 263) (pc := 250) hx hb dL_law_250 (by decide) (fun c250 => ?_) (fun c250 => ?_)
                · replace h := h.1 (bZ0 c250)
                  refine lv_iconst (v := 0) (pc := 263) hx hb dL_law_263 (by decide) ?_
                  exact h.elim
                · replace h := h.2 (bZ1 c250)
                  refine lv_aload_n (pc := 253) hx hb dL_law_253 rfl (lv_at hl 7 rfl) ?_
                  refine m_callSL (pc := 254) (y := yL_told) (As := [.ref (b + 0)]) (rest := []) C hK hP hS hl.1 ⟨Nat.le_of_ble_eq_true rfl, Nat.le_of_ble_eq_true rfl⟩ (c_L_told h) rfl rfl q_437 q_438 q_0 q_439 ⟨rfl, rfl⟩ yd_L_told ⟨Nat.le_of_ble_eq_true rfl, Nat.le_of_ble_eq_true rfl⟩ (Nat.le_of_ble_eq_true rfl) dL_law_254 (fun r80 M79 H locs h hP hS => ?_)
                  refine lv_lload (pc := 257) hx hb dL_law_257 (lv_at hl 0 rfl) ?_
                  refine W.lcmp (pc := 259) hx hb dL_law_259 ?_
                  refine lv_if_eq (tgt := 265) (pc := 260) hx hb dL_law_260 (by decide) (fun c260 => ?_) (fun c260 => ?_)
                  · replace h := h.1 c260
                    obtain ⟨v81, ev81⟩ : ∃ y : Int32, y = x4 + 1 := ⟨_, rfl⟩
                    replace h := h v81 ev81
                    refine lv_iinc (v := v81) (lv' := [(4, .int v81), (11, .long r15), (10, .int r13), (8, .long r11), (7, .int r9), (6, .int r3), (5, .int r1), (0, .ref sb), (1, .ref (b + 0)), (2, .ref (b + 276)), (3, .ref (b + 277))]) (pc := 265) hx hb dL_law_265 hl (k := 10) rfl (by rw [ev81]; rfl) (by decide) rfl (fun ls hl => ?_)
                    refine lv_goto (tgt := 20) (pc := 268) hx hb dL_law_268 (by decide) ?_
                    exact ih _ _ _ _ _ h hP hS (lv_sub hl [7, 8, 9, 10, 0] rfl)
                  · replace h := h.2 c260
                    refine lv_iconst (v := 0) (pc := 263) hx hb dL_law_263 (by decide) ?_
                    exact h.elim
              · replace h := h.2 c221
                refine lv_aload_n (pc := 224) hx hb dL_law_224 rfl (lv_at hl 9 rfl) ?_
                refine lv_iload (pc := 225) hx hb dL_law_225 (lv_at hl 3 rfl) ?_
                refine lv_iload (pc := 227) hx hb dL_law_227 (lv_at hl 1 rfl) ?_
                obtain ⟨hk82, h⟩ := h
                obtain ⟨hi83, h⟩ := h
                refine m_iast (pc := 229) C hK hP hS hk82 hi83 dL_law_229 (fun M84 H locs eM84 hP hS => ?_)
                replace h := h M84 eM84
                refine lv_aload_n (pc := 230) hx hb dL_law_230 rfl (lv_at hl 8 rfl) ?_
                refine lv_iload (pc := 231) hx hb dL_law_231 (lv_at hl 1 rfl) ?_
                refine lv_bipush (v := 100) (pc := 233) hx hb dL_law_233 (by decide) ?_
                refine lv_idiv (pc := 235) hx hb dL_law_235 (by decide) ?_
                refine lv_dup2_11 (pc := 236) hx hb dL_law_236 rfl rfl ?_
                obtain ⟨hk85, h⟩ := h
                obtain ⟨hi86, h⟩ := h
                refine m_iald (pc := 237) C hK hP hk85 hi86 dL_law_237 ?_
                refine lv_iload (pc := 238) hx hb dL_law_238 (lv_at hl 1 rfl) ?_
                refine lv_bipush (v := 100) (pc := 240) hx hb dL_law_240 (by decide) ?_
                refine lv_irem (pc := 242) hx hb dL_law_242 (by decide) ?_
                refine lv_iadd (pc := 243) hx hb dL_law_243 ?_
                obtain ⟨hi87, h⟩ := h
                refine m_iast (pc := 244) C hK hP hS hk85 hi87 dL_law_244 (fun M88 H locs eM88 hP hS => ?_)
                replace h := h M88 eM88
                refine lv_aload_n (pc := 245) hx hb dL_law_245 rfl (lv_at hl 7 rfl) ?_
                refine lv_aload_n (pc := 246) hx hb dL_law_246 rfl (lv_at hl 8 rfl) ?_
                refine m_callSZ (pc := 247) (y := yL_holds) (As := [.ref (b + 0), .ref (b + 276)]) (rest := []) C hK hP hS hl.1 ⟨Nat.le_of_ble_eq_true rfl, Nat.le_of_ble_eq_true rfl⟩ (c_L_holds h) rfl rfl q_694 q_695 q_0 q_696 ⟨rfl, rfl⟩ yd_L_holds ⟨Nat.le_of_ble_eq_true rfl, Nat.le_of_ble_eq_true rfl⟩ (Nat.le_of_ble_eq_true rfl) dL_law_247 (fun z90 M89 H locs h hP hS => ?_)
                refine lv_if_eq (tgt := 263) (pc := 250) hx hb dL_law_250 (by decide) (fun c250 => ?_) (fun c250 => ?_)
                · replace h := h.1 (bZ0 c250)
                  refine lv_iconst (v := 0) (pc := 263) hx hb dL_law_263 (by decide) ?_
                  exact h.elim
                · replace h := h.2 (bZ1 c250)
                  refine lv_aload_n (pc := 253) hx hb dL_law_253 rfl (lv_at hl 7 rfl) ?_
                  refine m_callSL (pc := 254) (y := yL_told) (As := [.ref (b + 0)]) (rest := []) C hK hP hS hl.1 ⟨Nat.le_of_ble_eq_true rfl, Nat.le_of_ble_eq_true rfl⟩ (c_L_told h) rfl rfl q_437 q_438 q_0 q_439 ⟨rfl, rfl⟩ yd_L_told ⟨Nat.le_of_ble_eq_true rfl, Nat.le_of_ble_eq_true rfl⟩ (Nat.le_of_ble_eq_true rfl) dL_law_254 (fun r92 M91 H locs h hP hS => ?_)
                  refine lv_lload (pc := 257) hx hb dL_law_257 (lv_at hl 0 rfl) ?_
                  refine W.lcmp (pc := 259) hx hb dL_law_259 ?_
                  refine lv_if_eq (tgt := 265) (pc := 260) hx hb dL_law_260 (by decide) (fun c260 => ?_) (fun c260 => ?_)
                  · replace h := h.1 c260
                    obtain ⟨v93, ev93⟩ : ∃ y : Int32, y = x4 + 1 := ⟨_, rfl⟩
                    replace h := h v93 ev93
                    refine lv_iinc (v := v93) (lv' := [(4, .int v93), (11, .long r15), (10, .int r13), (8, .long r11), (7, .int r9), (6, .int r3), (5, .int r1), (0, .ref sb), (1, .ref (b + 0)), (2, .ref (b + 276)), (3, .ref (b + 277))]) (pc := 265) hx hb dL_law_265 hl (k := 10) rfl (by rw [ev93]; rfl) (by decide) rfl (fun ls hl => ?_)
                    refine lv_goto (tgt := 20) (pc := 268) hx hb dL_law_268 (by decide) ?_
                    exact ih _ _ _ _ _ h hP hS (lv_sub hl [7, 8, 9, 10, 0] rfl)
                  · replace h := h.2 c260
                    refine lv_iconst (v := 0) (pc := 263) hx hb dL_law_263 (by decide) ?_
                    exact h.elim
            · replace h := h.2 c162
              refine lv_iload (pc := 165) hx hb dL_law_165 (lv_at hl 5 rfl) ?_
              refine lv_bipush (v := 13) (pc := 167) hx hb dL_law_167 (by decide) ?_
              refine lv_ishr (pc := 169) hx hb dL_law_169 ?_
              refine lv_iconst (v := 1) (pc := 170) hx hb dL_law_170 (by decide) ?_
              refine lv_iand (pc := 171) hx hb dL_law_171 ?_
              refine lv_if_ne (tgt := 219) (pc := 172) hx hb dL_law_172 (by decide) (fun c172 => ?_) (fun c172 => ?_)
              · replace h := h.1 c172
                refine lv_iload (pc := 219) hx hb dL_law_219 (lv_at hl 1 rfl) ?_
                refine lv_if_lt (tgt := 245) (pc := 221) hx hb dL_law_221 (by decide) (fun c221 => ?_) (fun c221 => ?_)
                · replace h := h.1 c221
                  refine lv_aload_n (pc := 245) hx hb dL_law_245 rfl (lv_at hl 7 rfl) ?_
                  refine lv_aload_n (pc := 246) hx hb dL_law_246 rfl (lv_at hl 8 rfl) ?_
                  refine m_callSZ (pc := 247) (y := yL_holds) (As := [.ref (b + 0), .ref (b + 276)]) (rest := []) C hK hP hS hl.1 ⟨Nat.le_of_ble_eq_true rfl, Nat.le_of_ble_eq_true rfl⟩ (c_L_holds h) rfl rfl q_694 q_695 q_0 q_696 ⟨rfl, rfl⟩ yd_L_holds ⟨Nat.le_of_ble_eq_true rfl, Nat.le_of_ble_eq_true rfl⟩ (Nat.le_of_ble_eq_true rfl) dL_law_247 (fun z95 M94 H locs h hP hS => ?_)
                  refine lv_if_eq (tgt := 263) (pc := 250) hx hb dL_law_250 (by decide) (fun c250 => ?_) (fun c250 => ?_)
                  · replace h := h.1 (bZ0 c250)
                    refine lv_iconst (v := 0) (pc := 263) hx hb dL_law_263 (by decide) ?_
                    exact h.elim
                  · replace h := h.2 (bZ1 c250)
                    refine lv_aload_n (pc := 253) hx hb dL_law_253 rfl (lv_at hl 7 rfl) ?_
                    refine m_callSL (pc := 254) (y := yL_told) (As := [.ref (b + 0)]) (rest := []) C hK hP hS hl.1 ⟨Nat.le_of_ble_eq_true rfl, Nat.le_of_ble_eq_true rfl⟩ (c_L_told h) rfl rfl q_437 q_438 q_0 q_439 ⟨rfl, rfl⟩ yd_L_told ⟨Nat.le_of_ble_eq_true rfl, Nat.le_of_ble_eq_true rfl⟩ (Nat.le_of_ble_eq_true rfl) dL_law_254 (fun r97 M96 H locs h hP hS => ?_)
                    refine lv_lload (pc := 257) hx hb dL_law_257 (lv_at hl 0 rfl) ?_
                    refine W.lcmp (pc := 259) hx hb dL_law_259 ?_
                    refine lv_if_eq (tgt := 265) (pc := 260) hx hb dL_law_260 (by decide) (fun c260 => ?_) (fun c260 => ?_)
                    · replace h := h.1 c260
                      obtain ⟨v98, ev98⟩ : ∃ y : Int32, y = x4 + 1 := ⟨_, rfl⟩
                      replace h := h v98 ev98
                      refine lv_iinc (v := v98) (lv' := [(4, .int v98), (11, .long r15), (10, .int r13), (8, .long r11), (7, .int r9), (6, .int r3), (5, .int r1), (0, .ref sb), (1, .ref (b + 0)), (2, .ref (b + 276)), (3, .ref (b + 277))]) (pc := 265) hx hb dL_law_265 hl (k := 10) rfl (by rw [ev98]; rfl) (by decide) rfl (fun ls hl => ?_)
                      refine lv_goto (tgt := 20) (pc := 268) hx hb dL_law_268 (by decide) ?_
                      exact ih _ _ _ _ _ h hP hS (lv_sub hl [7, 8, 9, 10, 0] rfl)
                    · replace h := h.2 c260
                      refine lv_iconst (v := 0) (pc := 263) hx hb dL_law_263 (by decide) ?_
                      exact h.elim
                · replace h := h.2 c221
                  refine lv_aload_n (pc := 224) hx hb dL_law_224 rfl (lv_at hl 9 rfl) ?_
                  refine lv_iload (pc := 225) hx hb dL_law_225 (lv_at hl 3 rfl) ?_
                  refine lv_iload (pc := 227) hx hb dL_law_227 (lv_at hl 1 rfl) ?_
                  obtain ⟨hk99, h⟩ := h
                  obtain ⟨hi100, h⟩ := h
                  refine m_iast (pc := 229) C hK hP hS hk99 hi100 dL_law_229 (fun M101 H locs eM101 hP hS => ?_)
                  replace h := h M101 eM101
                  refine lv_aload_n (pc := 230) hx hb dL_law_230 rfl (lv_at hl 8 rfl) ?_
                  refine lv_iload (pc := 231) hx hb dL_law_231 (lv_at hl 1 rfl) ?_
                  refine lv_bipush (v := 100) (pc := 233) hx hb dL_law_233 (by decide) ?_
                  refine lv_idiv (pc := 235) hx hb dL_law_235 (by decide) ?_
                  refine lv_dup2_11 (pc := 236) hx hb dL_law_236 rfl rfl ?_
                  obtain ⟨hk102, h⟩ := h
                  obtain ⟨hi103, h⟩ := h
                  refine m_iald (pc := 237) C hK hP hk102 hi103 dL_law_237 ?_
                  refine lv_iload (pc := 238) hx hb dL_law_238 (lv_at hl 1 rfl) ?_
                  refine lv_bipush (v := 100) (pc := 240) hx hb dL_law_240 (by decide) ?_
                  refine lv_irem (pc := 242) hx hb dL_law_242 (by decide) ?_
                  refine lv_iadd (pc := 243) hx hb dL_law_243 ?_
                  obtain ⟨hi104, h⟩ := h
                  refine m_iast (pc := 244) C hK hP hS hk102 hi104 dL_law_244 (fun M105 H locs eM105 hP hS => ?_)
                  replace h := h M105 eM105
                  refine lv_aload_n (pc := 245) hx hb dL_law_245 rfl (lv_at hl 7 rfl) ?_
                  refine lv_aload_n (pc := 246) hx hb dL_law_246 rfl (lv_at hl 8 rfl) ?_
                  refine m_callSZ (pc := 247) (y := yL_holds) (As := [.ref (b + 0), .ref (b + 276)]) (rest := []) C hK hP hS hl.1 ⟨Nat.le_of_ble_eq_true rfl, Nat.le_of_ble_eq_true rfl⟩ (c_L_holds h) rfl rfl q_694 q_695 q_0 q_696 ⟨rfl, rfl⟩ yd_L_holds ⟨Nat.le_of_ble_eq_true rfl, Nat.le_of_ble_eq_true rfl⟩ (Nat.le_of_ble_eq_true rfl) dL_law_247 (fun z107 M106 H locs h hP hS => ?_)
                  refine lv_if_eq (tgt := 263) (pc := 250) hx hb dL_law_250 (by decide) (fun c250 => ?_) (fun c250 => ?_)
                  · replace h := h.1 (bZ0 c250)
                    refine lv_iconst (v := 0) (pc := 263) hx hb dL_law_263 (by decide) ?_
                    exact h.elim
                  · replace h := h.2 (bZ1 c250)
                    refine lv_aload_n (pc := 253) hx hb dL_law_253 rfl (lv_at hl 7 rfl) ?_
                    refine m_callSL (pc := 254) (y := yL_told) (As := [.ref (b + 0)]) (rest := []) C hK hP hS hl.1 ⟨Nat.le_of_ble_eq_true rfl, Nat.le_of_ble_eq_true rfl⟩ (c_L_told h) rfl rfl q_437 q_438 q_0 q_439 ⟨rfl, rfl⟩ yd_L_told ⟨Nat.le_of_ble_eq_true rfl, Nat.le_of_ble_eq_true rfl⟩ (Nat.le_of_ble_eq_true rfl) dL_law_254 (fun r109 M108 H locs h hP hS => ?_)
                    refine lv_lload (pc := 257) hx hb dL_law_257 (lv_at hl 0 rfl) ?_
                    refine W.lcmp (pc := 259) hx hb dL_law_259 ?_
                    refine lv_if_eq (tgt := 265) (pc := 260) hx hb dL_law_260 (by decide) (fun c260 => ?_) (fun c260 => ?_)
                    · replace h := h.1 c260
                      obtain ⟨v110, ev110⟩ : ∃ y : Int32, y = x4 + 1 := ⟨_, rfl⟩
                      replace h := h v110 ev110
                      refine lv_iinc (v := v110) (lv' := [(4, .int v110), (11, .long r15), (10, .int r13), (8, .long r11), (7, .int r9), (6, .int r3), (5, .int r1), (0, .ref sb), (1, .ref (b + 0)), (2, .ref (b + 276)), (3, .ref (b + 277))]) (pc := 265) hx hb dL_law_265 hl (k := 10) rfl (by rw [ev110]; rfl) (by decide) rfl (fun ls hl => ?_)
                      refine lv_goto (tgt := 20) (pc := 268) hx hb dL_law_268 (by decide) ?_
                      exact ih _ _ _ _ _ h hP hS (lv_sub hl [7, 8, 9, 10, 0] rfl)
                    · replace h := h.2 c260
                      refine lv_iconst (v := 0) (pc := 263) hx hb dL_law_263 (by decide) ?_
                      exact h.elim
              · replace h := h.2 c172
                refine lv_aload_n (pc := 175) hx hb dL_law_175 rfl (lv_at hl 7 rfl) ?_
                refine m_callVI (pc := 176) (y := yX6_undo) (κ := 6) (As := []) (rest := []) C hK hP hS hl.1 ⟨Nat.le_of_ble_eq_true rfl, Nat.le_of_ble_eq_true rfl⟩ (c_X6_undo h) rfl rfl hk6 (by decide) rfl q_267 q_268 q_269 q_1 q_270 ⟨rfl, rfl⟩ yd_X6_undo ⟨Nat.le_of_ble_eq_true rfl, Nat.le_of_ble_eq_true rfl⟩ (Nat.le_of_ble_eq_true rfl) dL_law_176 (fun r112 M111 H locs h hP hS => ?_)
                refine lv_iload (pc := 179) hx hb dL_law_179 (lv_at hl 3 rfl) ?_
                refine lv_icmp_ne (tgt := 217) (pc := 181) hx hb dL_law_181 (by decide) (fun c181 => ?_) (fun c181 => ?_)
                · replace h := h.1 c181
                  refine lv_iconst (v := 0) (pc := 217) hx hb dL_law_217 (by decide) ?_
                  exact h.elim
                · replace h := h.2 c181
                  refine lv_aload_n (pc := 184) hx hb dL_law_184 rfl (lv_at hl 7 rfl) ?_
                  refine m_callSL (pc := 185) (y := yL_told) (As := [.ref (b + 0)]) (rest := []) C hK hP hS hl.1 ⟨Nat.le_of_ble_eq_true rfl, Nat.le_of_ble_eq_true rfl⟩ (c_L_told h) rfl rfl q_437 q_438 q_0 q_439 ⟨rfl, rfl⟩ yd_L_told ⟨Nat.le_of_ble_eq_true rfl, Nat.le_of_ble_eq_true rfl⟩ (Nat.le_of_ble_eq_true rfl) dL_law_185 (fun r114 M113 H locs h hP hS => ?_)
                  refine lv_lload (pc := 188) hx hb dL_law_188 (lv_at hl 2 rfl) ?_
                  refine W.lcmp (pc := 190) hx hb dL_law_190 ?_
                  refine lv_if_ne (tgt := 217) (pc := 191) hx hb dL_law_191 (by decide) (fun c191 => ?_) (fun c191 => ?_)
                  · replace h := h.1 c191
                    refine lv_iconst (v := 0) (pc := 217) hx hb dL_law_217 (by decide) ?_
                    exact h.elim
                  · replace h := h.2 c191
                    refine lv_aload_n (pc := 194) hx hb dL_law_194 rfl (lv_at hl 7 rfl) ?_
                    refine lv_iload (pc := 195) hx hb dL_law_195 (lv_at hl 5 rfl) ?_
                    refine lv_iload (pc := 197) hx hb dL_law_197 (lv_at hl 4 rfl) ?_
                    refine m_callSI (pc := 199) (y := yL_acts) (As := [.ref (b + 0), .int r1, .int r3]) (rest := []) C hK hP hS hl.1 ⟨Nat.le_of_ble_eq_true rfl, Nat.le_of_ble_eq_true rfl⟩ (c_L_acts h) rfl rfl q_529 q_530 q_0 q_531 ⟨rfl, rfl⟩ yd_L_acts ⟨Nat.le_of_ble_eq_true rfl, Nat.le_of_ble_eq_true rfl⟩ (Nat.le_of_ble_eq_true rfl) dL_law_199 (fun r116 M115 H locs h hP hS => ?_)
                    refine lv_iload (pc := 202) hx hb dL_law_202 (lv_at hl 1 rfl) ?_
                    refine lv_icmp_ne (tgt := 217) (pc := 204) hx hb dL_law_204 (by decide) (fun c204 => ?_) (fun c204 => ?_)
                    · replace h := h.1 c204
                      refine lv_iconst (v := 0) (pc := 217) hx hb dL_law_217 (by decide) ?_
                      exact h.elim
                    · replace h := h.2 c204
                      refine lv_aload_n (pc := 207) hx hb dL_law_207 rfl (lv_at hl 7 rfl) ?_
                      refine m_callSL (pc := 208) (y := yL_told) (As := [.ref (b + 0)]) (rest := []) C hK hP hS hl.1 ⟨Nat.le_of_ble_eq_true rfl, Nat.le_of_ble_eq_true rfl⟩ (c_L_told h) rfl rfl q_437 q_438 q_0 q_439 ⟨rfl, rfl⟩ yd_L_told ⟨Nat.le_of_ble_eq_true rfl, Nat.le_of_ble_eq_true rfl⟩ (Nat.le_of_ble_eq_true rfl) dL_law_208 (fun r118 M117 H locs h hP hS => ?_)
                      refine lv_lload (pc := 211) hx hb dL_law_211 (lv_at hl 0 rfl) ?_
                      refine W.lcmp (pc := 213) hx hb dL_law_213 ?_
                      refine lv_if_eq (tgt := 219) (pc := 214) hx hb dL_law_214 (by decide) (fun c214 => ?_) (fun c214 => ?_)
                      · replace h := h.1 c214
                        refine lv_iload (pc := 219) hx hb dL_law_219 (lv_at hl 1 rfl) ?_
                        refine lv_if_lt (tgt := 245) (pc := 221) hx hb dL_law_221 (by decide) (fun c221 => ?_) (fun c221 => ?_)
                        · replace h := h.1 c221
                          refine lv_aload_n (pc := 245) hx hb dL_law_245 rfl (lv_at hl 7 rfl) ?_
                          refine lv_aload_n (pc := 246) hx hb dL_law_246 rfl (lv_at hl 8 rfl) ?_
                          refine m_callSZ (pc := 247) (y := yL_holds) (As := [.ref (b + 0), .ref (b + 276)]) (rest := []) C hK hP hS hl.1 ⟨Nat.le_of_ble_eq_true rfl, Nat.le_of_ble_eq_true rfl⟩ (c_L_holds h) rfl rfl q_694 q_695 q_0 q_696 ⟨rfl, rfl⟩ yd_L_holds ⟨Nat.le_of_ble_eq_true rfl, Nat.le_of_ble_eq_true rfl⟩ (Nat.le_of_ble_eq_true rfl) dL_law_247 (fun z120 M119 H locs h hP hS => ?_)
                          refine lv_if_eq (tgt := 263) (pc := 250) hx hb dL_law_250 (by decide) (fun c250 => ?_) (fun c250 => ?_)
                          · replace h := h.1 (bZ0 c250)
                            refine lv_iconst (v := 0) (pc := 263) hx hb dL_law_263 (by decide) ?_
                            exact h.elim
                          · replace h := h.2 (bZ1 c250)
                            refine lv_aload_n (pc := 253) hx hb dL_law_253 rfl (lv_at hl 7 rfl) ?_
                            refine m_callSL (pc := 254) (y := yL_told) (As := [.ref (b + 0)]) (rest := []) C hK hP hS hl.1 ⟨Nat.le_of_ble_eq_true rfl, Nat.le_of_ble_eq_true rfl⟩ (c_L_told h) rfl rfl q_437 q_438 q_0 q_439 ⟨rfl, rfl⟩ yd_L_told ⟨Nat.le_of_ble_eq_true rfl, Nat.le_of_ble_eq_true rfl⟩ (Nat.le_of_ble_eq_true rfl) dL_law_254 (fun r122 M121 H locs h hP hS => ?_)
                            refine lv_lload (pc := 257) hx hb dL_law_257 (lv_at hl 0 rfl) ?_
                            refine W.lcmp (pc := 259) hx hb dL_law_259 ?_
                            refine lv_if_eq (tgt := 265) (pc := 260) hx hb dL_law_260 (by decide) (fun c260 => ?_) (fun c260 => ?_)
                            · replace h := h.1 c260
                              obtain ⟨v123, ev123⟩ : ∃ y : Int32, y = x4 + 1 := ⟨_, rfl⟩
                              replace h := h v123 ev123
                              refine lv_iinc (v := v123) (lv' := [(4, .int v123), (11, .long r15), (10, .int r13), (8, .long r11), (7, .int r9), (6, .int r3), (5, .int r1), (0, .ref sb), (1, .ref (b + 0)), (2, .ref (b + 276)), (3, .ref (b + 277))]) (pc := 265) hx hb dL_law_265 hl (k := 10) rfl (by rw [ev123]; rfl) (by decide) rfl (fun ls hl => ?_)
                              refine lv_goto (tgt := 20) (pc := 268) hx hb dL_law_268 (by decide) ?_
                              exact ih _ _ _ _ _ h hP hS (lv_sub hl [7, 8, 9, 10, 0] rfl)
                            · replace h := h.2 c260
                              refine lv_iconst (v := 0) (pc := 263) hx hb dL_law_263 (by decide) ?_
                              exact h.elim
                        · replace h := h.2 c221
                          refine lv_aload_n (pc := 224) hx hb dL_law_224 rfl (lv_at hl 9 rfl) ?_
                          refine lv_iload (pc := 225) hx hb dL_law_225 (lv_at hl 3 rfl) ?_
                          refine lv_iload (pc := 227) hx hb dL_law_227 (lv_at hl 1 rfl) ?_
                          obtain ⟨hk124, h⟩ := h
                          obtain ⟨hi125, h⟩ := h
                          refine m_iast (pc := 229) C hK hP hS hk124 hi125 dL_law_229 (fun M126 H locs eM126 hP hS => ?_)
                          replace h := h M126 eM126
                          refine lv_aload_n (pc := 230) hx hb dL_law_230 rfl (lv_at hl 8 rfl) ?_
                          refine lv_iload (pc := 231) hx hb dL_law_231 (lv_at hl 1 rfl) ?_
                          refine lv_bipush (v := 100) (pc := 233) hx hb dL_law_233 (by decide) ?_
                          refine lv_idiv (pc := 235) hx hb dL_law_235 (by decide) ?_
                          refine lv_dup2_11 (pc := 236) hx hb dL_law_236 rfl rfl ?_
                          obtain ⟨hk127, h⟩ := h
                          obtain ⟨hi128, h⟩ := h
                          refine m_iald (pc := 237) C hK hP hk127 hi128 dL_law_237 ?_
                          refine lv_iload (pc := 238) hx hb dL_law_238 (lv_at hl 1 rfl) ?_
                          refine lv_bipush (v := 100) (pc := 240) hx hb dL_law_240 (by decide) ?_
                          refine lv_irem (pc := 242) hx hb dL_law_242 (by decide) ?_
                          refine lv_iadd (pc := 243) hx hb dL_law_243 ?_
                          obtain ⟨hi129, h⟩ := h
                          refine m_iast (pc := 244) C hK hP hS hk127 hi129 dL_law_244 (fun M130 H locs eM130 hP hS => ?_)
                          replace h := h M130 eM130
                          refine lv_aload_n (pc := 245) hx hb dL_law_245 rfl (lv_at hl 7 rfl) ?_
                          refine lv_aload_n (pc := 246) hx hb dL_law_246 rfl (lv_at hl 8 rfl) ?_
                          refine m_callSZ (pc := 247) (y := yL_holds) (As := [.ref (b + 0), .ref (b + 276)]) (rest := []) C hK hP hS hl.1 ⟨Nat.le_of_ble_eq_true rfl, Nat.le_of_ble_eq_true rfl⟩ (c_L_holds h) rfl rfl q_694 q_695 q_0 q_696 ⟨rfl, rfl⟩ yd_L_holds ⟨Nat.le_of_ble_eq_true rfl, Nat.le_of_ble_eq_true rfl⟩ (Nat.le_of_ble_eq_true rfl) dL_law_247 (fun z132 M131 H locs h hP hS => ?_)
                          refine lv_if_eq (tgt := 263) (pc := 250) hx hb dL_law_250 (by decide) (fun c250 => ?_) (fun c250 => ?_)
                          · replace h := h.1 (bZ0 c250)
                            refine lv_iconst (v := 0) (pc := 263) hx hb dL_law_263 (by decide) ?_
                            exact h.elim
                          · replace h := h.2 (bZ1 c250)
                            refine lv_aload_n (pc := 253) hx hb dL_law_253 rfl (lv_at hl 7 rfl) ?_
                            refine m_callSL (pc := 254) (y := yL_told) (As := [.ref (b + 0)]) (rest := []) C hK hP hS hl.1 ⟨Nat.le_of_ble_eq_true rfl, Nat.le_of_ble_eq_true rfl⟩ (c_L_told h) rfl rfl q_437 q_438 q_0 q_439 ⟨rfl, rfl⟩ yd_L_told ⟨Nat.le_of_ble_eq_true rfl, Nat.le_of_ble_eq_true rfl⟩ (Nat.le_of_ble_eq_true rfl) dL_law_254 (fun r134 M133 H locs h hP hS => ?_)
                            refine lv_lload (pc := 257) hx hb dL_law_257 (lv_at hl 0 rfl) ?_
                            refine W.lcmp (pc := 259) hx hb dL_law_259 ?_
                            refine lv_if_eq (tgt := 265) (pc := 260) hx hb dL_law_260 (by decide) (fun c260 => ?_) (fun c260 => ?_)
                            · replace h := h.1 c260
                              obtain ⟨v135, ev135⟩ : ∃ y : Int32, y = x4 + 1 := ⟨_, rfl⟩
                              replace h := h v135 ev135
                              refine lv_iinc (v := v135) (lv' := [(4, .int v135), (11, .long r15), (10, .int r13), (8, .long r11), (7, .int r9), (6, .int r3), (5, .int r1), (0, .ref sb), (1, .ref (b + 0)), (2, .ref (b + 276)), (3, .ref (b + 277))]) (pc := 265) hx hb dL_law_265 hl (k := 10) rfl (by rw [ev135]; rfl) (by decide) rfl (fun ls hl => ?_)
                              refine lv_goto (tgt := 20) (pc := 268) hx hb dL_law_268 (by decide) ?_
                              exact ih _ _ _ _ _ h hP hS (lv_sub hl [7, 8, 9, 10, 0] rfl)
                            · replace h := h.2 c260
                              refine lv_iconst (v := 0) (pc := 263) hx hb dL_law_263 (by decide) ?_
                              exact h.elim
                      · replace h := h.2 c214
                        refine lv_iconst (v := 0) (pc := 217) hx hb dL_law_217 (by decide) ?_
                        exact h.elim
          · replace h := h.2 c139
            refine lv_goto (tgt := 158) (pc := 142) hx hb dL_law_142 (by decide) ?_
            refine lv_iconst (v := 0) (pc := 158) hx hb dL_law_158 (by decide) ?_
            exact h.elim
      · replace h := h.2 c57
        refine lv_iconst (v := 5) (pc := 60) hx hb dL_law_60 (by decide) ?_
        refine lv_istore (lv' := [(7, .int 5), (6, .int r3), (5, .int r1), (0, .ref sb), (1, .ref (b + 0)), (2, .ref (b + 276)), (3, .ref (b + 277)), (4, .int x4)]) (pc := 61) hx hb dL_law_61 hl (by decide) rfl (fun ls hl => ?_)
        obtain ⟨f, h⟩ := h
        exact L63 _ ih f _ _ _ _ _ _ _ _ h hP hS (lv_sub hl [3, 4, 5, 6, 7, 2, 1, 0] rfl)
def wp_L_law (xs : Nat → Int32) (L : Nat) (f : Nat) (M : Mem) : Prop := 0 + 1 ≤ 6000 ∧ (m_kd (0 + 0) = 6 ∧ (∀ M1 : Mem, M1 = uN M (0 + 0) → (1 + 275 ≤ 6000 ∧ (wp_X6_init (0 + 1) M1 ((0 + 0)) (fun M3 => 276 + 1 ≤ 6000 ∧ (m_kd (0 + 276) = 8 ∧ m_len (0 + 276) = 4 ∧ (∀ M5 : Mem, M5 = uN M3 (0 + 276) → (277 + 1 ≤ 6000 ∧ (m_kd (0 + 277) = 8 ∧ m_len (0 + 277) = 8 ∧ (∀ M7 : Mem, M7 = uN M5 (0 + 277) → (wpL_L_law_20 xs L f M7 0)))))))))))
set_option maxHeartbeats 16000000 in
set_option maxRecDepth 100000 in
theorem law_start {p : Program} {l : Launch} {e : Env} {s : State} {m : MethodId} {below : List Frame} {meth : Method} {c : Code} {D : va_G} {cA : Nat → ClassId} {b sb L : Nat} {xs : Nat → Int32} (C0 : lw_At p s m meth c sb L xs) (hbs : s.heap.size = b) (hK : m_K D cA s) (hY : m_Y s) {f : Nat} {M : Mem} (h : wp_L_law xs L f M) (ls : Array Slot) (hl : lv_has ls 13 [(0, .ref sb)]) : W p l e room_1 s m #[Value.ref sb] below meth c s.heap [] 0 0 (lw_Z below #[Value.ref sb] s) (F0 m 0 ls []) := by
  have L20 := law_loop (l := l) (e := e) (m := m) (below := below) C0 hbs hK
  obtain ⟨hx, hb, hr, hml, hown, hts, hX, hbl, hlocks, hgv⟩ := C0
  have hbA : ¬ m_A b sb := by
    show ¬ b ≤ sb
    omega
  have C : CallFix p m c cL_law 13 s #[Value.ref sb] lw_T RL := ⟨hx, hb, hml, hown, fun w hw => hts w (List.mem_filter.mp hw).1⟩
  have hB : s.heap.size = b + 0 := hbs
  have hS : va_S (m_A b) s.heap s.heap [] := va_S.rf
  have hP : m_H D cA b (0 + 0) M s.heap := ⟨fun k q h => by simp [m_ws] at h, by omega⟩
  show W p l e room_1 s m #[Value.ref sb] below meth c s.heap [] 0 (1000 * 0) (lw_Z below #[Value.ref sb] s) (F0 m 0 ls [])
  unfold wp_L_law at h
  obtain ⟨hk2, hkd, h⟩ := h
  refine m_newoN (pc := 0) (k := 0) (k' := 1) (κ := 6) C hK hP hS hB rfl hkd (by decide) rfl inT6 tyX6_ok (by decide) q_15 q_16 q_1 ⟨Nat.le_trans hk2 (Nat.le_of_ble_eq_true rfl), Nat.le_trans (Nat.mul_le_mul_left 1000 hk2) (Nat.le_of_ble_eq_true rfl)⟩ (Nat.le_of_ble_eq_true rfl) dL_law_0 (fun M1 H locs eM1 hP hS => ?_)
  replace h := h M1 eM1
  refine lv_dup (pc := 3) hx hb dL_law_3 rfl ?_
  obtain ⟨hk4, h⟩ := h
  refine m_callNN (pc := 4) (y := yX6_init) (k := 1) (kc := 275) (k' := 276) (As := []) (rest := [.ref (b + (0 + 0))]) C hK hY hP hS hB hl.1 ⟨Nat.le_trans hk4 (Nat.le_of_ble_eq_true rfl), Nat.le_trans (Nat.mul_le_mul_left 1000 hk4) (Nat.le_of_ble_eq_true rfl)⟩ rfl (c_X6_init h) rfl rfl q_17 q_18 rfl q_1 q_19 ⟨rfl, rfl⟩ yd_X6_init ⟨Nat.le_of_ble_eq_true rfl, Nat.le_of_ble_eq_true rfl⟩ (Nat.le_of_ble_eq_true rfl) dL_law_4 (fun M3 H locs h hP hS => ?_)
  refine lv_astore_n (lv' := [(1, .ref (b + (0 + 0))), (0, .ref sb)]) (pc := 7) hx hb dL_law_7 rfl hl (by decide) rfl (fun ls hl => ?_)
  refine lv_iconst (v := 4) (pc := 8) hx hb dL_law_8 (by decide) ?_
  obtain ⟨hk6, ⟨hkd, hln, h⟩⟩ := h
  refine m_newarrN (pc := 9) (k := 276) (k' := 277) (κ := 8) (N := 4) (ty := .int) C hK hP hS hB rfl hkd (by decide) rfl rfl (fun _ => rfl) m_cell8 hln (by decide +kernel) (by decide) q_705 ⟨Nat.le_trans hk6 (Nat.le_of_ble_eq_true rfl), Nat.le_trans (Nat.mul_le_mul_left 1000 hk6) (Nat.le_of_ble_eq_true rfl)⟩ (Nat.le_of_ble_eq_true rfl) dL_law_9 (fun M5 H locs eM5 hP hS => ?_)
  replace h := h M5 eM5
  refine lv_astore_n (lv' := [(2, .ref (b + (0 + 276))), (1, .ref (b + (0 + 0))), (0, .ref sb)]) (pc := 11) hx hb dL_law_11 rfl hl (by decide) rfl (fun ls hl => ?_)
  refine lv_bipush (v := 8) (pc := 12) hx hb dL_law_12 (by decide) ?_
  obtain ⟨hk8, ⟨hkd, hln, h⟩⟩ := h
  refine m_newarrN (pc := 14) (k := 277) (k' := 278) (κ := 8) (N := 8) (ty := .int) C hK hP hS hB rfl hkd (by decide) rfl rfl (fun _ => rfl) m_cell8 hln (by decide +kernel) (by decide) q_705 ⟨Nat.le_trans hk8 (Nat.le_of_ble_eq_true rfl), Nat.le_trans (Nat.mul_le_mul_left 1000 hk8) (Nat.le_of_ble_eq_true rfl)⟩ (Nat.le_of_ble_eq_true rfl) dL_law_14 (fun M7 H locs eM7 hP hS => ?_)
  replace h := h M7 eM7
  refine lv_astore_n (lv' := [(3, .ref (b + (0 + 277))), (2, .ref (b + (0 + 276))), (1, .ref (b + (0 + 0))), (0, .ref sb)]) (pc := 16) hx hb dL_law_16 rfl hl (by decide) rfl (fun ls hl => ?_)
  refine lv_iconst (v := 0) (pc := 17) hx hb dL_law_17 (by decide) ?_
  refine lv_istore (lv' := [(4, .int 0), (3, .ref (b + (0 + 277))), (2, .ref (b + (0 + 276))), (1, .ref (b + (0 + 0))), (0, .ref sb)]) (pc := 18) hx hb dL_law_18 hl (by decide) rfl (fun ls hl => ?_)
  exact L20 f _ _ _ _ _ h hP hS (lv_sub hl [4, 3, 2, 1, 0] rfl)
