/-! Rows for makings. Laid by gen2.py. -/
def m_nw : List (String × Nat × MethodName × String) := [("ForgeHeats$Shop", 30, ⟨"ForgeHeats$Heat", "<init>", "()V"⟩, "ForgeHeats"), ("ForgeHeats$Shop", 37, ⟨"ForgeHeats$Die", "<init>", "()V"⟩, "ForgeHeats"), ("ForgeHeats$Shop", 44, ⟨"ForgeHeats$Job", "<init>", "()V"⟩, "ForgeHeats"), ("ForgeHeats$Shop", 51, ⟨"ForgeHeats$Billet", "<init>", "()V"⟩, "ForgeHeats")]
section MX
variable {p : Program} {l : Launch} {e : Env} {R : Room} {s : State} {m : MethodId} {args : Array Value} {below : List Frame} {meth : Method} {c : Code} {H : Heap} {locs : List Loc} {cells slots : Nat} {Q : State → Prop}
variable {cc : ByteArray} {pc : Nat} {ls : Array Slot} {rest : List Value} {nL : Nat} {own : String} {D : va_G} {cA : Nat → ClassId} {b n : Nat} {M : Mem}
-- makings
theorem m_exact {g : JFrame} (k : H.size ≤ s.heap.size + cells → W p l e R s m args below meth c H locs cells slots Q g) : W p l e R s m args below meth c H locs cells slots Q g := by
  intro T hT X
  refine k ?_ T hT X
  have := X.same.2.2.1
  rw [← hT]
  exact this
def m_tok (t : FieldType) : Bool := match t with
  | .int => true
  | .boolean => true
  | .long => true
  | .object _ => true
  | .array _ => true
  | _ => false
theorem m_fv_new {M : Mem} {i k : Nat} {ty : FieldType} (h : m_tok ty = true) : m_fv b (uN M i) i k ty = defaultValue ty := by
  cases ty <;> first | (simp [m_tok] at h; done) | (simp [m_fv, uN, defaultValue, bI, va_rf])
theorem m_addr {n0 : Nat} (hP : m_H D cA b n M H) (hB : s.heap.size = b + n0) (hn : n = n0 + cells) (h : H.size ≤ s.heap.size + cells) : H.size = b + n := by
  have := hP.2
  omega
theorem m_newo {n0 n' κ index N : Nat} {C1 : String} {T1 : u_T} {ty0 : Nat → FieldType} (C : CallFix p m c cc nL s args lw_T own) (hK : m_K D cA s) (hP : m_H D cA b n M H) (hS : va_S (m_A b) s.heap H locs) (hB : s.heap.size = b + n0) (hn : n = n0 + cells) (hn' : n' = n + 1) (hkd : m_kd n = κ) (hκ : κ < 8) (hcl : m_cl[κ]? = some (C1, T1, N)) (hin : ∀ w ∈ u_ws C1 T1 N, w ∈ lw_T) (hty : ∀ k, k < N → parseFieldDescriptor (T1 k).2.2.1 = some (ty0 k)) (htk : ∀ k, k < N → k < m_nf κ ∧ ty0 k = m_ft κ k ∧ m_tok (m_ft κ k) = true)
    (hcl1 : Cond.classLink own index C1 ∈ lw_T) (hinst : Cond.instantiable C1 N ∈ lw_T) (hini : Cond.initialized C1 ∈ lw_T) (hR : cells + 1 ≤ R.cells ∧ slots + 1000 ≤ R.slots) (hN : N ≤ 1000) (hdg : decode cc pc = .ok (.new index, 3))
    (kk : ∀ (M' : Mem) (H1 : Heap) (locs1 : List Loc), M' = uN M n → m_H D cA b n' M' H1 → va_S (m_A b) s.heap H1 locs1 → W p l e R s m args below meth c H1 locs1 (cells + 1) (slots + 1000) Q (F0 m (pc + 3) ls (.ref (b + n) :: rest))) : W p l e R s m args below meth c H locs cells slots Q (F0 m pc ls rest) := by
  refine m_exact fun hx => ?_
  have ha := m_addr hP hB hn hx
  have hKn := hK.1 κ _ hcl
  refine W.newcK C.1 C.2.1 C.2.2.2.1 (C.2.2.2.2 _ hcl1) (C.2.2.2.2 _ hinst) (C.2.2.2.2 _ hini) rfl hdg hR.1 (by have := hR.2; omega) hKn.2.1 rfl fun H1 kC hkC e1 z1 o1 => ?_
  have h2 : m_H D cA b n' (uN M n) H1 := by
    subst hn'
    refine ⟨?_, by omega⟩
    rw [← m_ws_push (M := M) (e := m_e cA b (uN M n) n) rfl (fun j hj => m_e_uN_o hj)]
    refine (hP.1.kept (fun k q hk => o1 _ ?_)).app (fun k q hk => ?_)
    · obtain ⟨hk1, rfl⟩ := m_ws_in hk
      show b + k < H.size
      omega
    · have hz : k < 1 := (List.getElem?_eq_some_iff.mp hk).1
      rw [show k = 0 by omega] at hk
      cases hk
      rw [m_e_o hkd hκ]
      refine ⟨_, hcl, (u_born ty0 C.2.2.2.2 hin hKn hkC (by rw [← ha]; exact e1) hty).to (fun j hj => ?_)⟩
      obtain ⟨t1, t2, t3⟩ := htk j hj
      unfold vp_V
      rw [List.getD_eq_getElem?_getD, m_fl_at t1, t2]
      exact (m_fv_new t3).symm
  have h3 : va_S (m_A b) s.heap H1 locs := ⟨Nat.le_trans hS.1 (by omega), fun x h1 h2 => (o1 x (Nat.lt_of_lt_of_le h1 hS.1)).trans (hS.2.1 x h1 h2), hS.2.2⟩
  have := kk _ H1 locs rfl h2 h3
  rw [← ha] at this
  exact W.widen (Nat.le_refl _) (by omega) this
theorem m_newarr {n0 n' κ N : Nat} {ty : FieldType} {atype : ArrayType} {v : Int32} (C : CallFix p m c cc nL s args lw_T own) (hK : m_K D cA s) (hP : m_H D cA b n M H) (hS : va_S (m_A b) s.heap H locs) (hB : s.heap.size = b + n0) (hn : n = n0 + cells) (hn' : n' = n + 1) (hkd : m_kd n = κ) (hκ : ¬ κ < 8) (hty : newarray.typeOf atype = ty) (hat : (m_tys cA)[κ - 8]? = some (cA κ, ty)) (hra : ∀ U, va_RA U (cA κ) ty = (U.vm.findClass ("[" ++ ty.toString) = some (cA κ)))
    (hcell : ∀ (M' : Mem) (i : Nat), m_len i = N → vp_cell (cA κ) (m_ar κ b (uN M' i) i) = arrV (cA κ) N (fun _ => defaultValue ty)) (hlen : m_len n = N) (hv : v = nI N) (hbytes : N * componentBytes ty ≤ 536870912) (harr : Cond.arrayClass ty ∈ lw_T) (hR : cells + 1 ≤ R.cells ∧ slots + 1000 ≤ R.slots) (hN : N ≤ 1000) (hdg : decode cc pc = .ok (.newarray atype, 2))
    (kk : ∀ (M' : Mem) (H1 : Heap) (locs1 : List Loc), M' = uN M n → m_H D cA b n' M' H1 → va_S (m_A b) s.heap H1 locs1 → W p l e R s m args below meth c H1 locs1 (cells + 1) (slots + 1000) Q (F0 m (pc + 2) ls (.ref (b + n) :: rest))) : W p l e R s m args below meth c H locs cells slots Q (F0 m pc ls (.int v :: rest)) := by
  refine m_exact fun hx => ?_
  have ha := m_addr hP hB hn hx
  have hNn : (nI N).toNatClampNeg = N := nI_clamp (by omega)
  subst hty
  refine va_newaK C.1 C.2.1 (C.2.2.2.2 _ harr) rfl hdg rfl (by rw [hv]; exact nI_pos (by omega)) (by rw [hv]; exact hNn) hbytes hR.1 (by have := hR.2; omega) rfl fun H1 c1 e1 z1 o1 hAr hNm => ?_
  have hc1 : c1 = cA κ := by
    have h1 := (hK.2 _ _ hat).2
    rw [hra] at h1
    exact Option.some.inj (hNm.symm.trans h1)
  subst hc1
  have h2 : m_H D cA b n' (uN M n) H1 := by
    subst hn'
    refine ⟨?_, by omega⟩
    rw [← m_ws_push (M := M) (e := m_e cA b (uN M n) n) rfl (fun j hj => m_e_uN_o hj)]
    refine (hP.1.kept (fun k q hk => o1 _ ?_)).app (fun k q hk => ?_)
    · obtain ⟨hk1, rfl⟩ := m_ws_in hk
      show b + k < H.size
      omega
    · have hz : k < 1 := (List.getElem?_eq_some_iff.mp hk).1
      rw [show k = 0 by omega] at hk
      cases hk
      rw [m_e_a hkd hκ]
      show H1[b + n]? = some (vp_cell _ _)
      rw [hcell M n hlen, ← ha]
      exact e1
  have h3 : va_S (m_A b) s.heap H1 locs := ⟨Nat.le_trans hS.1 (by omega), fun x h1 h2 => (o1 x (Nat.lt_of_lt_of_le h1 hS.1)).trans (hS.2.1 x h1 h2), hS.2.2⟩
  have := kk _ H1 locs rfl h2 h3
  rw [← ha] at this
  exact W.widen (Nat.le_refl _) (by omega) this
theorem m_newq {n0 n' κ N index : Nat} {E : String} {v : Int32} (C : CallFix p m c cc nL s args lw_T own) (hK : m_K D cA s) (hP : m_H D cA b n M H) (hS : va_S (m_A b) s.heap H locs) (hB : s.heap.size = b + n0) (hn : n = n0 + cells) (hn' : n' = n + 1) (hkd : m_kd n = κ) (hκ : 10 < κ) (hat : (m_tys cA)[κ - 8]? = some (cA κ, .object E)) (hover : va_AO E s) (hcl1 : Cond.classLink own index E ∈ lw_T)
    (hlen : m_len n = N) (hv : v = nI N) (hR : cells + 1 ≤ R.cells ∧ slots + 1000 ≤ R.slots) (hN : N ≤ 1000) (hdg : decode cc pc = .ok (.anewarray index, 3))
    (kk : ∀ (M' : Mem) (H1 : Heap) (locs1 : List Loc), M' = uN M n → m_H D cA b n' M' H1 → va_S (m_A b) s.heap H1 locs1 → W p l e R s m args below meth c H1 locs1 (cells + 1) (slots + 1000) Q (F0 m (pc + 3) ls (.ref (b + n) :: rest))) : W p l e R s m args below meth c H locs cells slots Q (F0 m pc ls (.int v :: rest)) := by
  refine m_exact fun hx => ?_
  have ha := m_addr hP hB hn hx
  have hNn : v.toNatClampNeg = N := by rw [hv]; exact nI_clamp (by omega)
  refine W.anew C.1 C.2.1 C.2.2.2.1 (C.2.2.2.2 _ hcl1) (va_AO.use hover) rfl hdg rfl (by rw [hv]; exact nI_pos (by omega)) (by rw [hNn]; omega) hR.1 (by rw [hNn]; have := hR.2; omega) fun c1 kA comp f1 f2 f3 f4 => ?_
  have hc1 : c1 = cA κ := by
    obtain ⟨_, _, _, _, _, h1⟩ := (hK.2 _ _ hat).2
    exact Option.some.inj (f1.symm.trans h1)
  subst hc1
  generalize hH1 : H.push ({ cls := cA κ, slots := Array.replicate v.toNatClampNeg .null, vm := .none } : Cell) = H1
  have z1 : H1.size = H.size + 1 := by rw [← hH1, Array.size_push]
  have e1 : H1[H.size]? = some (arrV (cA κ) v.toNatClampNeg (fun _ => .null)) := by rw [← hH1, Array.getElem?_push_size, ← arrV_new]
  have o1 : ∀ q : Nat, q < H.size → H1[q]? = H[q]? := fun q hq => by rw [← hH1, Array.getElem?_push, if_neg (Nat.ne_of_lt hq)]
  have h2 : m_H D cA b n' (uN M n) H1 := by
    subst hn'
    refine ⟨?_, by omega⟩
    rw [← m_ws_push (M := M) (e := m_e cA b (uN M n) n) rfl (fun j hj => m_e_uN_o hj)]
    refine (hP.1.kept (fun k q hk => o1 _ ?_)).app (fun k q hk => ?_)
    · obtain ⟨hk1, rfl⟩ := m_ws_in hk
      show b + k < H.size
      omega
    · have hz : k < 1 := (List.getElem?_eq_some_iff.mp hk).1
      rw [show k = 0 by omega] at hk
      cases hk
      rw [m_e_a hkd (by omega), m_ar_q hκ]
      show H1[b + n]? = some (vp_cell _ _)
      rw [← ha, e1, hNn]
      simp [vp_cell, uN, hlen, va_rf]
  have h3 : va_S (m_A b) s.heap H1 locs := ⟨Nat.le_trans hS.1 (by omega), fun x h1 h2 => (o1 x (Nat.lt_of_lt_of_le h1 hS.1)).trans (hS.2.1 x h1 h2), hS.2.2⟩
  have := kk _ H1 locs rfl h2 h3
  rw [← ha] at this
  exact W.widen (Nat.le_refl _) (by rw [hNn]; omega) this
/-- what a constructor needs -/
def m_Y (U : State) : Prop := va_AO RX0 U ∧ va_AO RX1 U ∧ va_AO RX2 U ∧ va_AO RX3 U ∧ va_AO RX5 U ∧ ∀ q ∈ m_nw, va_Nw (.methodLinkNest q.1 q.2.1 q.2.2.1 q.2.2.2) U
theorem m_Y.moved {u U : State} (hW : u.WarmedH U.vm) (h : m_Y u) : m_Y U := ⟨h.1.moved hW.alike, h.2.1.moved hW.alike, h.2.2.1.moved hW.alike, h.2.2.2.1.moved hW.alike, h.2.2.2.2.1.moved hW.alike, fun q hq => (h.2.2.2.2.2 q hq).warmM hW⟩
abbrev m_SY (D : va_G) (cA : Nat → ClassId) (b n : Nat) (M : Mem) (U : State) : Prop := m_St D cA b n M U ∧ U.heap.size = b + n ∧ m_Y U
abbrev m_CN (l : Launch) (D : va_G) (cA : Nat → ClassId) (b n n' : Nat) (M : Mem) (y : MethodName) (bytes : ByteArray) (maxL : Nat) (rm : Room) (k : Nat) (av : List Value) (res : Option Value → Mem → Prop) : Prop :=
  Met l y (Cond.code y bytes maxL none :: lw_T) rm (va_Pc av (m_SY D cA b n M)) (m_Q D cA b n' res) k (1000 * k) (m_A b)
theorem m_blindY {D : va_G} {cA : Nat → ClassId} {b n : Nat} {M : Mem} {av : List Value} : FrameBlind (va_Pc av (m_SY D cA b n M)) := by
  intro a U g mk h
  obtain ⟨h1, ⟨h2, h3⟩, h4, h5⟩ := h
  exact ⟨h1, ⟨va_K.moved (u := U) (U := U.calling g mk a) (Vm.Alike.refl U.vm) h2, h3⟩, h4, h5.moved (State.WarmedH.refl U)⟩
theorem m_enterN {y : MethodName} {bytes : ByteArray} {maxL : Nat} {rm : Room} {k n' : Nat} {av : List Value} {res : Option Value → Mem → Prop} (hy : plainName y.cls = true) (hlen : (lg_sl av).length ≤ maxL)
    (body : ∀ (p : Program) (e : Env) (s : State) (m : MethodId) (below : List Frame) (meth : Method) (c : Code), CallFix p m c bytes maxL s av.toArray lw_T y.cls → meth.sig.returnType = none → meth.locks = false → meth.name = y.name → s.heap.size = b + n → m_Y s → m_K D cA s → m_H D cA b n M s.heap → va_S (m_A b) s.heap s.heap [] →
      ∀ ls : Array Slot, lv_has ls maxL (lv_args 0 av) → W p l e rm s m av.toArray below meth c s.heap [] 0 (1000 * 0) (MQ below (m_Q D cA b n' res) av.toArray s k (1000 * k) (m_A b)) (F0 m 0 ls [])) :
    m_CN l D cA b n n' M y bytes maxL rm k av res := by
  refine Met.ofW (cc := bytes) (maxL := maxL) (ret := none) hy rfl ?_
  intro p e s m args below meth c s₁ B hml hv
  obtain ⟨rfl, ⟨hK, hP⟩, hB, hY⟩ := hv
  have hts := atoms_spec (ws := Cond.code y bytes maxL none :: lw_T) B.pre
  have hl := lv_entry av (n := maxL) hlen
  rw [lg_entry_eq]
  exact body p e s m below meth c ⟨B.exec, B.bytes, hml, findClass_of_methodNamed B.named, fun w hw => hts w (List.mem_cons_of_mem _ hw)⟩ B.returns B.notSynchronized (name_of_methodNamed B.named B.method).1 hB hY hK hP va_S.rf _ hl
theorem m_callN {y : MethodName} {bytes : ByteArray} {maxL index np i n0 n' k : Nat} {rm : Room} {As : List Value} {P : Mem → Prop} {st0 : List Value} (C : CallFix p m c cc nL s args lw_T own) (hK : m_K D cA s) (hY : m_Y s) (hP : m_H D cA b n M H) (hS : va_S (m_A b) s.heap H locs) (hB : s.heap.size = b + n0) (hn0 : n = n0 + cells) (hlv : ls.size = nL) (hcs : cells + k ≤ R.cells ∧ slots + 1000 * k ≤ R.slots)
    (hM : m_CN l D cA b n n' M y bytes maxL rm k (.ref (b + i) :: As) (rV P)) (hst : st0 = As.reverse ++ .ref (b + i) :: rest) (hn : As.length = np)
    (hml : Cond.methodLink own index y ∈ lw_T) (him : Cond.instanceMethod y ∈ lw_T) (hnm : y.name = "<init>") (hini : Cond.initialized y.cls ∈ lw_T) (hco : Cond.code y bytes maxL none ∈ lw_T) (hc : rm.cells = k ∧ rm.slots = 1000 * k)
    (hd : y.cls ≠ "java/lang/invoke/MethodHandle" ∧ y.cls ≠ "java/lang/invoke/VarHandle" ∧ (parseMethodDescriptor y.desc).map (fun d => d.parameters.length) = some np) (hR : rm.frames + 1 ≤ R.frames ∧ 8 + (maxL + 11) + rm.locals ≤ R.locals) (hroom : (rest.map fun v => v.category).sum ≤ 8) (hdg : decode cc pc = .ok (.invokespecial index, 3))
    (kk : ∀ (M' : Mem) (H1 : Heap) (locs1 : List Loc), P M' → m_H D cA b n' M' H1 → va_S (m_A b) s.heap H1 locs1 → W p l e R s m args below meth c H1 locs1 (cells + k) (slots + 1000 * k) Q (F0 m (pc + 3) ls rest)) : W p l e R s m args below meth c H locs cells slots Q (F0 m pc ls st0) := by
  refine m_exact fun hx => ?_
  have ha := m_addr hP hB hn0 hx
  exact m_res (y := y) rfl hS (va_runI C hM ⟨m_callB C hc hml hini hco hd hR, hnm, C.2.2.2.2 _ him⟩ ⟨m_blindY, fun U hU hW => ⟨rfl, ⟨hK.moved hW.alike, by rw [hU]; exact hP⟩, by rw [hU]; exact ha, hY.moved hW⟩⟩ rfl hn hlv hst (lv_room hroom) hdg hcs) (fun v M' H1 locs1 hv h1 h2 => by obtain ⟨rfl, hq⟩ := hv; exact kk M' H1 locs1 hq h1 h2)
theorem m_callNw {y : MethodName} {host : String} {bytes : ByteArray} {maxL index np i n0 n' k : Nat} {rm : Room} {As : List Value} {P : Mem → Prop} {st0 : List Value} (C : CallFix p m c cc nL s args lw_T own) (hK : m_K D cA s) (hY : m_Y s) (hP : m_H D cA b n M H) (hS : va_S (m_A b) s.heap H locs) (hB : s.heap.size = b + n0) (hn0 : n = n0 + cells) (hlv : ls.size = nL) (hcs : cells + k ≤ R.cells ∧ slots + 1000 * k ≤ R.slots)
    (hM : m_CN l D cA b n n' M y bytes maxL rm k (.ref (b + i) :: As) (rV P)) (hst : st0 = As.reverse ++ .ref (b + i) :: rest) (hn : As.length = np)
    (hml : (own, index, y, host) ∈ m_nw) (him : Cond.instanceMethod y ∈ lw_T) (hnm : y.name = "<init>") (hini : Cond.initialized y.cls ∈ lw_T) (hco : Cond.code y bytes maxL none ∈ lw_T) (hc : rm.cells = k ∧ rm.slots = 1000 * k)
    (hd : y.cls ≠ "java/lang/invoke/MethodHandle" ∧ y.cls ≠ "java/lang/invoke/VarHandle" ∧ (parseMethodDescriptor y.desc).map (fun d => d.parameters.length) = some np) (hR : rm.frames + 1 ≤ R.frames ∧ 8 + (maxL + 11) + rm.locals ≤ R.locals) (hroom : (rest.map fun v => v.category).sum ≤ 8) (hdg : decode cc pc = .ok (.invokespecial index, 3))
    (kk : ∀ (M' : Mem) (H1 : Heap) (locs1 : List Loc), P M' → m_H D cA b n' M' H1 → va_S (m_A b) s.heap H1 locs1 → W p l e R s m args below meth c H1 locs1 (cells + k) (slots + 1000 * k) Q (F0 m (pc + 3) ls rest)) : W p l e R s m args below meth c H locs cells slots Q (F0 m pc ls st0) := by
  refine m_exact fun hx => ?_
  have ha := m_addr hP hB hn0 hx
  have hts := C.2.2.2.2
  have hG : GoodIn lw_T (Cond.code y bytes maxL none :: lw_T) := by
    intro w hw
    have hw' : w ∈ lw_T := by
      rcases List.mem_cons.mp hw with rfl | h
      · exact hco
      · exact h
    exact ⟨hw', good_of_word (lw_T_good hw')⟩
  exact m_res (y := y) rfl hS (va_runIN C hM ⟨va_cnB np hts hG rfl hc.1 hc.2 (hY.2.2.2.2.2 _ hml) (hts _ hini) hd hR, hnm, C.2.2.2.2 _ him⟩ ⟨m_blindY, fun U hU hW => ⟨rfl, ⟨hK.moved hW.alike, by rw [hU]; exact hP⟩, by rw [hU]; exact ha, hY.moved hW⟩⟩ rfl hn hlv hst (lv_room hroom) hdg hcs) (fun v M' H1 locs1 hv h1 h2 => by obtain ⟨rfl, hq⟩ := hv; exact kk M' H1 locs1 hq h1 h2)
theorem m_objinit {i index : Nat} (C : CallFix p m c cc nL s args lw_T own) (hlv : ls.size = nL) (hl : Cond.methodLink own index Lib.objectInit ∈ lw_T) (hi : Cond.instanceMethod Lib.objectInit ∈ lw_T) (hc : Cond.code Lib.objectInit ⟨#[0xb1]⟩ 1 none ∈ lw_T) (hR : 1 ≤ R.frames ∧ 20 ≤ R.locals) (hroom : (rest.map fun v => v.category).sum ≤ 8) (hdg : decode cc pc = .ok (.invokespecial index, 3))
    (kk : W p l e R s m args below meth c H locs cells slots Q (F0 m (pc + 3) ls rest)) : W p l e R s m args below meth c H locs cells slots Q (F0 m pc ls (.ref (b + i) :: rest)) :=
  W.objInit C.1 C.2.1 C.2.2.2.1 (C.2.2.2.2 _ hl) (C.2.2.2.2 _ hi) (C.2.2.2.2 _ hc) rfl (hlv.trans C.2.2.1.symm) rfl hdg hR.1 (by
    have := hR.2
    show 2 * 0 + (rest.map fun v => v.category).sum + 12 ≤ R.locals
    omega) kk
end MX
