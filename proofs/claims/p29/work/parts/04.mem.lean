/-! THE MEMORY: every object and array that the law makes has a number (in the order of making); it lies at the address base + number. A memory M says what each holds: ints, references (by number), longs. -/
abbrev Mem : Type := (Nat → Nat → Int32) × (Nat → Nat → Option Nat) × (Nat → Nat → Int64)
def uI (M : Mem) (i k : Nat) (v : Int32) : Mem := (fun j l => if j = i ∧ l = k then v else M.1 j l, M.2.1, M.2.2)
def uR (M : Mem) (i k : Nat) (v : Option Nat) : Mem := (M.1, fun j l => if j = i ∧ l = k then v else M.2.1 j l, M.2.2)
def uL (M : Mem) (i k : Nat) (v : Int64) : Mem := (M.1, M.2.1, fun j l => if j = i ∧ l = k then v else M.2.2 j l)
/-- the object i as it is made -/
def uN (M : Mem) (i : Nat) : Mem := (fun j l => if j = i then 0 else M.1 j l, fun j l => if j = i then none else M.2.1 j l, fun j l => if j = i then 0 else M.2.2 j l)
def bI (z : Bool) : Int32 := if z then 1 else 0
theorem bI_t : bI true = 1 := rfl
theorem bI_f : bI false = 0 := rfl
theorem bI_eq0 (z : Bool) : (bI z = 0) = (z = false) := by cases z <;> simp [bI]
theorem bI_ne (z : Bool) : (bI z != 0) = z := by cases z <;> rfl
theorem bI_nar (z : Bool) : narrow .boolean (.int (bI z)) = .int (bI z) := by cases z <;> rfl
theorem bI_fit (z : Bool) : fits .boolean (.int (bI z)) = true := by cases z <;> rfl
-- kinds: 0 Billet, 1 Die, 2 Heat, 3 Job, 4 JobText, 5 Shop, 6 ForgeHeats; 8 int[], 9 char[], 10 long[], 11 Billet[], 12 Die[], 13 Heat[], 14 Job[], 15 Shop[]
abbrev m_cl : List vw_C := [(RX0, TX0, 4), (RX1, TX1, 6), (RX2, TX2, 5), (RX3, TX3, 8), (RX4, TX4, 9), (RX5, TX5, 19), (RX6, TX6, 5)]
def m_ft (κ : Nat) : Nat → FieldType := match κ with
  | 0 => tyX0
  | 1 => tyX1
  | 2 => tyX2
  | 3 => tyX3
  | 4 => tyX4
  | 5 => tyX5
  | _ => tyX6
def m_nf (κ : Nat) : Nat := match κ with
  | 0 => 4
  | 1 => 6
  | 2 => 5
  | 3 => 8
  | 4 => 9
  | 5 => 19
  | _ => 5
def m_tys (cA : Nat → ClassId) : List (ClassId × FieldType) := [(cA 8, .int), (cA 9, .char), (cA 10, .int), (cA 11, .object RX0), (cA 12, .object RX1), (cA 13, .object RX2), (cA 14, .object RX3), (cA 15, .object RX5)]
/-- the 34 things of a shop: itself, heats, dies, jobs, furnace, press, what is found where nothing is -/
def m_sk (r : Nat) : Nat := if r = 0 then 5 else if r = 1 then 13 else if r < 6 then 2 else if r = 6 then 12 else if r < 12 then 1 else if r = 12 then 14 else if r < 23 then 3 else if r = 23 then 11 else if r < 31 then 0 else if r = 31 then 2 else if r = 32 then 1 else 3
def m_sl (r : Nat) : Nat := if r = 1 then 4 else if r = 6 then 5 else if r = 12 then 10 else 6
/-- the kind of the thing with a number -/
def m_kd (i : Nat) : Nat := if i = 0 then 6 else if i < 69 then m_sk ((i - 1) % 34) else if i = 69 then 15 else if i < 274 then m_sk ((i - 70) % 34) else if i = 274 then 4 else if i = 275 then 9 else 8
def m_len (i : Nat) : Nat := if i < 69 then m_sl ((i - 1) % 34) else if i = 69 then 6 else if i < 274 then m_sl ((i - 70) % 34) else if i = 275 then 60 else if i = 276 then 4 else 8
def m_tp (n i κ : Nat) : Prop := i < n ∧ m_kd i = κ
def m_fv (b : Nat) (M : Mem) (i k : Nat) (ty : FieldType) : Value := match ty with
  | .int => .int (M.1 i k)
  | .boolean => .int (bI (M.1 i k != 0))
  | .long => .long (M.2.2 i k)
  | _ => va_rf ((M.2.1 i k).map (fun j => b + j))
def m_fl (κ b : Nat) (M : Mem) (i : Nat) : List Value := (List.range (m_nf κ)).map (fun k => m_fv b M i k (m_ft κ k))
def m_ar (κ b : Nat) (M : Mem) (i : Nat) : vp_A := (m_len i, if κ ≤ 9 then .inl (M.1 i) else if κ = 10 then .inr (.inl (M.2.2 i)) else .inr (.inr (.inr (.inr (fun k => (M.2.1 i k).map (fun j => b + j))))))
def m_e (cA : Nat → ClassId) (b : Nat) (M : Mem) (i : Nat) : va_E := if m_kd i < 8 then .inr (m_kd i, m_fl (m_kd i) b M i) else .inl (cA (m_kd i), m_ar (m_kd i) b M i)
def m_ws (cA : Nat → ClassId) (b n : Nat) (M : Mem) : va_W := (List.range n).map (fun i => (b + i, m_e cA b M i))
def m_A (b : Nat) : Nat → Prop := fun q => b ≤ q
def m_H (D : va_G) (cA : Nat → ClassId) (b n : Nat) (M : Mem) (H : Heap) : Prop := va_P D m_cl (m_ws cA b n M) H ∧ b + n ≤ H.size
def m_K (D : va_G) (cA : Nat → ClassId) (U : State) : Prop := va_K D m_cl (m_tys cA) U
def m_St (D : va_G) (cA : Nat → ClassId) (b n : Nat) (M : Mem) (U : State) : Prop := m_K D cA U ∧ m_H D cA b n M U.heap
def m_Q (D : va_G) (cA : Nat → ClassId) (b n : Nat) (res : Option Value → Mem → Prop) : Array Value → State → Outcome → State → Prop := fun _ st oc t => (∃ (v : Option Value) (M' : Mem), oc = .returned v ∧ res v M' ∧ m_H D cA b n M' t.heap) ∧ va_F (m_A b) st t
def lw_T : List Cond := lw_tbl.filter goodWord
theorem lw_T_of {w : Cond} (h : w ∈ lw_tbl) (g : goodWord w = true) : w ∈ lw_T := List.mem_filter.mpr ⟨h, g⟩
theorem lw_T_good {w : Cond} (h : w ∈ lw_T) : goodWord w = true := (List.mem_filter.mp h).2
/-- a contract -/
abbrev m_C (l : Launch) (D : va_G) (cA : Nat → ClassId) (b n n' : Nat) (M : Mem) (y : MethodName) (bytes : ByteArray) (maxL : Nat) (ret : Option FieldType) (rm : Room) (mc ms : Nat) (av : List Value) (res : Option Value → Mem → Prop) : Prop :=
  Met l y (Cond.code y bytes maxL ret :: lw_T) rm (va_Pc av (m_St D cA b n M)) (m_Q D cA b n' res) mc ms (m_A b)
-- what a method answers
abbrev rV (P : Mem → Prop) : Option Value → Mem → Prop := fun v M => v = none ∧ P M
abbrev rI (P : Int32 → Mem → Prop) : Option Value → Mem → Prop := fun v M => ∃ r : Int32, v = some (.int r) ∧ P r M
abbrev rZ (P : Bool → Mem → Prop) : Option Value → Mem → Prop := fun v M => ∃ r : Bool, v = some (.int (bI r)) ∧ P r M
abbrev rL (P : Int64 → Mem → Prop) : Option Value → Mem → Prop := fun v M => ∃ r : Int64, v = some (.long r) ∧ P r M
abbrev rD (P : UInt64 → Mem → Prop) : Option Value → Mem → Prop := fun v M => ∃ r : UInt64, v = some (.double r) ∧ P r M
abbrev rR (b : Nat) (P : Nat → Mem → Prop) : Option Value → Mem → Prop := fun v M => ∃ r : Nat, v = some (.ref (b + r)) ∧ P r M
abbrev rO (b : Nat) (P : Option Nat → Mem → Prop) : Option Value → Mem → Prop := fun v M => ∃ r : Option Nat, v = some (va_rf (r.map (fun j => b + j))) ∧ P r M
theorem m_ws_at {cA : Nat → ClassId} {b n : Nat} {M : Mem} {i : Nat} (h : i < n) : (m_ws cA b n M)[i]? = some (b + i, m_e cA b M i) := by simp [m_ws, h]
theorem m_ws_in {cA : Nat → ClassId} {b n : Nat} {M : Mem} {k : Nat} {q : Nat × va_E} (h : (m_ws cA b n M)[k]? = some q) : k < n ∧ q = (b + k, m_e cA b M k) := by
  have hk : k < n := by
    have := (List.getElem?_eq_some_iff.mp h).1
    simpa [m_ws] using this
  rw [m_ws_at hk] at h
  exact ⟨hk, (Option.some.inj h).symm⟩
theorem m_D {cA : Nat → ClassId} {b n : Nat} {M : Mem} : va_D (m_A b) (m_ws cA b n M) := by
  refine ⟨fun i j p q hi hj h => ?_, fun k q hk => ?_⟩
  · obtain ⟨-, rfl⟩ := m_ws_in hi
    obtain ⟨-, rfl⟩ := m_ws_in hj
    have h : b + i = b + j := h
    omega
  · obtain ⟨-, rfl⟩ := m_ws_in hk
    show b ≤ b + k
    omega
theorem m_ws_set {cA : Nat → ClassId} {b n : Nat} {M M' : Mem} {i : Nat} {e : va_E} (he : m_e cA b M' i = e) (ho : ∀ j, j ≠ i → m_e cA b M' j = m_e cA b M j) : (m_ws cA b n M).set i (b + i, e) = m_ws cA b n M' := by
  apply List.ext_getElem?
  intro j
  by_cases hj : j < n
  · rw [m_ws_at hj]
    by_cases hij : i = j
    · subst hij
      rw [List.getElem?_set_self (by simp [m_ws, hj]), he]
    · rw [List.getElem?_set_ne hij, m_ws_at hj, ho j (Ne.symm hij)]
  · rw [List.getElem?_eq_none (by simp [m_ws]; omega), List.getElem?_eq_none (by simp [m_ws]; omega)]
theorem m_ws_push {cA : Nat → ClassId} {b n : Nat} {M M' : Mem} {e : va_E} (he : m_e cA b M' n = e) (ho : ∀ j, j ≠ n → m_e cA b M' j = m_e cA b M j) : m_ws cA b n M ++ [(b + n, e)] = m_ws cA b (n + 1) M' := by
  unfold m_ws
  rw [List.range_succ, List.map_append]
  congr 1
  · apply List.map_congr_left
    intro j hj
    have := List.mem_range.mp hj
    rw [ho j (by omega)]
  · simp [he]
theorem m_e_congr {cA : Nat → ClassId} {b : Nat} {M M' : Mem} {j : Nat} (h1 : ∀ k, M'.1 j k = M.1 j k) (h2 : ∀ k, M'.2.1 j k = M.2.1 j k) (h3 : ∀ k, M'.2.2 j k = M.2.2 j k) : m_e cA b M' j = m_e cA b M j := by
  have e1 : M'.1 j = M.1 j := funext h1
  have e2 : M'.2.1 j = M.2.1 j := funext h2
  have e3 : M'.2.2 j = M.2.2 j := funext h3
  unfold m_e m_fl m_ar m_fv
  rw [e1, e2, e3]
theorem m_e_o {cA : Nat → ClassId} {b : Nat} {M : Mem} {i κ : Nat} (h : m_kd i = κ) (hκ : κ < 8) : m_e cA b M i = .inr (κ, m_fl κ b M i) := by
  subst h
  unfold m_e
  rw [if_pos hκ]
theorem m_e_a {cA : Nat → ClassId} {b : Nat} {M : Mem} {i κ : Nat} (h : m_kd i = κ) (hκ : ¬ κ < 8) : m_e cA b M i = .inl (cA κ, m_ar κ b M i) := by
  subst h
  unfold m_e
  rw [if_neg hκ]
theorem m_fl_at {κ b : Nat} {M : Mem} {i k : Nat} (h : k < m_nf κ) : (m_fl κ b M i)[k]? = some (m_fv b M i k (m_ft κ k)) := by simp [m_fl, h]
theorem m_fl_set {κ b : Nat} {M M' : Mem} {i k : Nat} {v : Value} (hv : m_fv b M' i k (m_ft κ k) = v) (ho : ∀ l ty, l ≠ k → m_fv b M' i l ty = m_fv b M i l ty) : (m_fl κ b M i).set k v = m_fl κ b M' i := by
  apply List.ext_getElem?
  intro j
  by_cases hj : j < m_nf κ
  · rw [m_fl_at hj]
    by_cases hkj : k = j
    · subst hkj
      rw [List.getElem?_set_self (by simp [m_fl, hj]), hv]
    · rw [List.getElem?_set_ne hkj, m_fl_at hj, ho j _ (Ne.symm hkj)]
  · rw [List.getElem?_eq_none (by simp [m_fl]; omega), List.getElem?_eq_none (by simp [m_fl]; omega)]
theorem uI_s {M : Mem} {i k : Nat} {v : Int32} : (uI M i k v).1 i k = v := by simp [uI]
theorem uI_o {M : Mem} {i k j l : Nat} {v : Int32} (h : ¬ (j = i ∧ l = k)) : (uI M i k v).1 j l = M.1 j l := by simp [uI, h]
theorem uR_s {M : Mem} {i k : Nat} {v : Option Nat} : (uR M i k v).2.1 i k = v := by simp [uR]
theorem uR_o {M : Mem} {i k j l : Nat} {v : Option Nat} (h : ¬ (j = i ∧ l = k)) : (uR M i k v).2.1 j l = M.2.1 j l := by simp [uR, h]
theorem uL_s {M : Mem} {i k : Nat} {v : Int64} : (uL M i k v).2.2 i k = v := by simp [uL]
theorem uL_o {M : Mem} {i k j l : Nat} {v : Int64} (h : ¬ (j = i ∧ l = k)) : (uL M i k v).2.2 j l = M.2.2 j l := by simp [uL, h]
theorem m_fv_uI_o {b : Nat} {M : Mem} {i k l : Nat} {v : Int32} {ty : FieldType} (h : l ≠ k) : m_fv b (uI M i k v) i l ty = m_fv b M i l ty := by
  unfold m_fv
  cases ty <;> simp [uI, h]
theorem m_fv_uR_o {b : Nat} {M : Mem} {i k l : Nat} {v : Option Nat} {ty : FieldType} (h : l ≠ k) : m_fv b (uR M i k v) i l ty = m_fv b M i l ty := by
  unfold m_fv
  cases ty <;> simp [uR, h]
theorem m_fv_uL_o {b : Nat} {M : Mem} {i k l : Nat} {v : Int64} {ty : FieldType} (h : l ≠ k) : m_fv b (uL M i k v) i l ty = m_fv b M i l ty := by
  unfold m_fv
  cases ty <;> simp [uL, h]
theorem m_e_uI_o {cA : Nat → ClassId} {b : Nat} {M : Mem} {i k j : Nat} {v : Int32} (h : j ≠ i) : m_e cA b (uI M i k v) j = m_e cA b M j := m_e_congr (fun l => uI_o (fun z => h z.1)) (fun _ => rfl) (fun _ => rfl)
theorem m_e_uR_o {cA : Nat → ClassId} {b : Nat} {M : Mem} {i k j : Nat} {v : Option Nat} (h : j ≠ i) : m_e cA b (uR M i k v) j = m_e cA b M j := m_e_congr (fun _ => rfl) (fun l => uR_o (fun z => h z.1)) (fun _ => rfl)
theorem m_e_uL_o {cA : Nat → ClassId} {b : Nat} {M : Mem} {i k j : Nat} {v : Int64} (h : j ≠ i) : m_e cA b (uL M i k v) j = m_e cA b M j := m_e_congr (fun _ => rfl) (fun _ => rfl) (fun l => uL_o (fun z => h z.1))
theorem m_e_uN_o {cA : Nat → ClassId} {b : Nat} {M : Mem} {i j : Nat} (h : j ≠ i) : m_e cA b (uN M i) j = m_e cA b M j := m_e_congr (fun _ => by simp [uN, h]) (fun _ => by simp [uN, h]) (fun _ => by simp [uN, h])
theorem m_tp.le {n n' i κ : Nat} (h : m_tp n i κ) (hn : n ≤ n') : m_tp n' i κ := ⟨Nat.lt_of_lt_of_le h.1 hn, h.2⟩
theorem m_blind {D : va_G} {cA : Nat → ClassId} {b n : Nat} {M : Mem} {av : List Value} : FrameBlind (va_Pc av (m_St D cA b n M)) := by
  intro a U g mk h
  obtain ⟨h1, h2, h3⟩ := h
  exact ⟨h1, va_K.moved (u := U) (U := U.calling g mk a) (Vm.Alike.refl U.vm) h2, h3⟩
section MR
variable {p : Program} {l : Launch} {e : Env} {R : Room} {s : State} {m : MethodId} {args : Array Value} {below : List Frame} {meth : Method} {c : Code} {H : Heap} {locs : List Loc} {cells slots : Nat} {Q : State → Prop}
variable {cc : ByteArray} {pc : Nat} {ls : Array Slot} {rest : List Value} {nL : Nat} {own : String} {D : va_G} {cA : Nat → ClassId} {b n : Nat} {M : Mem}
/-- the entry -/
theorem m_enter {y : MethodName} {bytes : ByteArray} {maxL : Nat} {ret : Option FieldType} {rm : Room} {mc ms n' : Nat} {av : List Value} {res : Option Value → Mem → Prop} (hy : plainName y.cls = true) (hlen : (lg_sl av).length ≤ maxL)
    (body : ∀ (p : Program) (e : Env) (s : State) (m : MethodId) (below : List Frame) (meth : Method) (c : Code), CallFix p m c bytes maxL s av.toArray lw_T y.cls → meth.sig.returnType = ret → meth.locks = false → meth.name = y.name → m_K D cA s → m_H D cA b n M s.heap → va_S (m_A b) s.heap s.heap [] →
      ∀ ls : Array Slot, lv_has ls maxL (lv_args 0 av) → W p l e rm s m av.toArray below meth c s.heap [] 0 0 (MQ below (m_Q D cA b n' res) av.toArray s mc ms (m_A b)) (F0 m 0 ls [])) :
    m_C l D cA b n n' M y bytes maxL ret rm mc ms av res := by
  refine Met.ofW (cc := bytes) (maxL := maxL) (ret := ret) hy rfl ?_
  intro p e s m args below meth c s₁ B hml hv
  obtain ⟨rfl, hK, hP⟩ := hv
  have hts := atoms_spec (ws := Cond.code y bytes maxL ret :: lw_T) B.pre
  have hl := lv_entry av (n := maxL) hlen
  rw [lg_entry_eq]
  exact body p e s m below meth c ⟨B.exec, B.bytes, hml, findClass_of_methodNamed B.named, fun w hw => hts w (List.mem_cons_of_mem _ hw)⟩ B.returns B.notSynchronized (name_of_methodNamed B.named B.method).1 hK hP va_S.rf _ hl
theorem m_hp {D : va_G} {cA : Nat → ClassId} {b n : Nat} {M : Mem} {H : Heap} (hP : m_H D cA b n M H) {i κ : Nat} (ht : m_tp n i κ) (hκ : κ < 8) : (m_ws cA b n M)[i]? = some (b + i, .inr (κ, m_fl κ b M i)) := by
  rw [m_ws_at ht.1, m_e_o ht.2 hκ]
theorem m_ha {D : va_G} {cA : Nat → ClassId} {b n : Nat} {M : Mem} {H : Heap} (hP : m_H D cA b n M H) {i κ : Nat} (ht : m_tp n i κ) (hκ : ¬ κ < 8) : (m_ws cA b n M)[i]? = some (b + i, .inl (cA κ, m_ar κ b M i)) := by
  rw [m_ws_at ht.1, m_e_a ht.2 hκ]
theorem m_get {i κ k index N : Nat} {C1 nm ds : String} {T1 : u_T} {v : Value} (C : CallFix p m c cc nL s args lw_T own) (hK : m_K D cA s) (hP : m_H D cA b n M H) (ht : m_tp n i κ) (hκ : κ < 8) (hcl : m_cl[κ]? = some (C1, T1, N)) (hin : ∀ w ∈ u_ws C1 T1 N, w ∈ lw_T) (hk : k < N) (hn : k < m_nf κ) (hT : ∃ f, T1 k = (C1, nm, ds, f)) (hl : Cond.fieldLink own index C1 nm ds ∈ lw_T) (hv : m_fv b M i k (m_ft κ k) = v) (hdg : decode cc pc = .ok (.getfield index, 3))
    (kk : W p l e R s m args below meth c H locs cells slots Q (F0 m (pc + 3) ls (v :: rest))) : W p l e R s m args below meth c H locs cells slots Q (F0 m pc ls (.ref (b + i) :: rest)) := by
  obtain ⟨f, hT⟩ := hT
  have e1 : (T1 k).1 = C1 := by rw [hT]
  have e2 : (T1 k).2.1 = nm := by rw [hT]
  have e3 : (T1 k).2.2.1 = ds := by rw [hT]
  refine va_get (D := D) (ci := κ) (own := own) (ref := C1) C.1 C.2.1 C.2.2.2.2 hin C.2.2.2.1 hK hP.1 i (m_hp hP ht hκ) hcl k hk (by rw [e2, e3]; exact C.2.2.2.2 _ hl) (fun x h => by rw [← e1]; exact h) (v := v) ?_ hdg kk
  rw [m_fl_at hn, hv]
theorem m_store {i κ k : Nat} {M' : Mem} {v : Value} {H1 : Heap} {cell : Cell} {C1 : String} {T1 : u_T} {N : Nat} (hP : m_H D cA b n M H) (ht : m_tp n i κ) (hκ : κ < 8) (hcl : m_cl[κ]? = some (C1, T1, N)) (hk : k < N) (hn : k < m_nf κ) (hap : ∀ x y, x < N → y < N → x ≠ y → (D.2 κ) x ≠ (D.2 κ) y)
    (q2 : cell.cls = D.1 κ) (q3 : cell.vm = .none) (q4 : ∀ k, k < N → cell.slots[D.2 κ k]? = some (vp_V (m_fl κ b M i) k)) (hv : m_fv b M' i k (m_ft κ k) = v) (ho : ∀ l ty, l ≠ k → m_fv b M' i l ty = m_fv b M i l ty) (hj : ∀ j, j ≠ i → m_e cA b M' j = m_e cA b M j)
    (e1 : H1[b + i]? = some (cell.setSlot (D.2 κ k) v)) (e2 : H1.size = H.size) (e3 : ∀ q, q ≠ b + i → H1[q]? = H[q]?) : m_H D cA b n M' H1 := by
  have hl : k < (m_fl κ b M i).length := by simp [m_fl, hn]
  have h1 := hP.1.set m_D (m_hp hP ht hκ) (e := .inr (κ, (m_fl κ b M i).set k v)) ⟨_, hcl, t_OB.to (V := updV (vp_V (m_fl κ b M i)) k v) ⟨_, e1, q2, q3, t_set q4 hap hk v⟩ (fun j _ => vp_updV_set hl v j)⟩ e3
  rw [m_fl_set hv ho, m_ws_set (M' := M') (m_e_o ht.2 hκ) hj] at h1
  exact ⟨h1, by rw [e2]; exact hP.2⟩
theorem m_put {i κ k index N : Nat} {C1 nm ds : String} {T1 : u_T} {v : Value} {M' : Mem} {ty : FieldType} (C : CallFix p m c cc nL s args lw_T own) (hK : m_K D cA s) (hP : m_H D cA b n M H) (hS : va_S (m_A b) s.heap H locs) (ht : m_tp n i κ) (hκ : κ < 8) (hcl : m_cl[κ]? = some (C1, T1, N)) (hin : ∀ w ∈ u_ws C1 T1 N, w ∈ lw_T) (ty0 : Nat → FieldType) (hty : ∀ k, k < N → parseFieldDescriptor (T1 k).2.2.1 = some (ty0 k)) (hnm : ∀ a, a < N → ∀ b, b < N → a ≠ b → (T1 a).2.1 ≠ (T1 b).2.1) (hk : k < N) (hn : k < m_nf κ) (hT : T1 k = (C1, nm, ds, false)) (hl : Cond.fieldLink own index C1 nm ds ∈ lw_T) (hd : parseFieldDescriptor ds = some ty) (hnar : narrow ty v = v) (hfit : fits ty v = true)
    (hv : m_fv b M' i k (m_ft κ k) = v) (ho : ∀ l ty, l ≠ k → m_fv b M' i l ty = m_fv b M i l ty) (hj : ∀ j, j ≠ i → m_e cA b M' j = m_e cA b M j) (hdg : decode cc pc = .ok (.putfield index, 3))
    (kk : ∀ (H1 : Heap) (locs1 : List Loc), m_H D cA b n M' H1 → va_S (m_A b) s.heap H1 locs1 → H1.size = H.size → W p l e R s m args below meth c H1 locs1 cells slots Q (F0 m (pc + 3) ls rest)) : W p l e R s m args below meth c H locs cells slots Q (F0 m pc ls (v :: .ref (b + i) :: rest)) := by
  have hts := C.2.2.2.2
  have hap := va_apart (own := own) hts hin ty0 hty hnm hK hcl
  obtain ⟨r, h1, cell, q1, q2, q3, q4⟩ := hP.1 i _ (m_hp hP ht hκ)
  have hr : r = (C1, T1, N) := Option.some.inj (h1.symm.trans hcl)
  subst hr
  obtain ⟨hS1, hfc, kC, hkC, hkind⟩ := hK.1 κ _ hcl
  have hS2 := hS1 k hk
  have hlay := hts _ (hin _ (u_in_lay hk))
  have hlays := u_lays hts hin hk
  unfold u_lay at hlay
  rw [if_neg (by rw [hT]; simp)] at hlay
  simp only [hT] at hS2 hlay hlays
  obtain ⟨cf, kf, fi, f, hi, hsl⟩ := hS2
  have hst := (u_facts hfc hkC hlays hi).1
  have h6 := u_store hfc hkC hkind hlay hi hd hnar hfit
  refine W.putK C.1 C.2.1 (f := f) ⟨C.2.2.2.1, hts _ hl, ⟨_, _, _, hi⟩, hst⟩ (by rw [q2]; exact h6) q1 q3 (by rw [hsl]; exact k2_hasslot (q4 k hk)) rfl rfl hdg fun H' e1 e2 e3 => ?_
  rw [hsl] at e1 ⊢
  exact kk H' _ (m_store hP ht hκ hcl hk hn hap q2 q3 q4 hv ho hj e1 e2 e3) (hS.put e2 e3 (Nat.le_add_right b i)) e2
theorem m_putF {i κ k index N : Nat} {C1 nm ds : String} {T1 : u_T} {v : Value} {M' : Mem} {ty : FieldType} (C : CallFix p m c cc nL s args lw_T own) (hK : m_K D cA s) (hP : m_H D cA b n M H) (hS : va_S (m_A b) s.heap H locs) (hin2 : meth.name = "<init>") (ht : m_tp n i κ) (hκ : κ < 8) (hcl : m_cl[κ]? = some (C1, T1, N)) (hin : ∀ w ∈ u_ws C1 T1 N, w ∈ lw_T) (ty0 : Nat → FieldType) (hty : ∀ k, k < N → parseFieldDescriptor (T1 k).2.2.1 = some (ty0 k)) (hnm : ∀ a, a < N → ∀ b, b < N → a ≠ b → (T1 a).2.1 ≠ (T1 b).2.1) (hk : k < N) (hn : k < m_nf κ) (hT : T1 k = (C1, nm, ds, true)) (hown : C1 = own) (hl : Cond.fieldLink own index C1 nm ds ∈ lw_T) (hd : parseFieldDescriptor ds = some ty) (hnar : narrow ty v = v) (hfit : fits ty v = true)
    (hv : m_fv b M' i k (m_ft κ k) = v) (ho : ∀ l ty, l ≠ k → m_fv b M' i l ty = m_fv b M i l ty) (hj : ∀ j, j ≠ i → m_e cA b M' j = m_e cA b M j) (hdg : decode cc pc = .ok (.putfield index, 3))
    (kk : ∀ (H1 : Heap) (locs1 : List Loc), m_H D cA b n M' H1 → va_S (m_A b) s.heap H1 locs1 → H1.size = H.size → W p l e R s m args below meth c H1 locs1 cells slots Q (F0 m (pc + 3) ls rest)) : W p l e R s m args below meth c H locs cells slots Q (F0 m pc ls (v :: .ref (b + i) :: rest)) := by
  have hts := C.2.2.2.2
  have hap := va_apart (own := own) hts hin ty0 hty hnm hK hcl
  obtain ⟨r, h1, cell, q1, q2, q3, q4⟩ := hP.1 i _ (m_hp hP ht hκ)
  have hr : r = (C1, T1, N) := Option.some.inj (h1.symm.trans hcl)
  subst hr
  obtain ⟨hS1, hfc, kC, hkC, hkind⟩ := hK.1 κ _ hcl
  have hS2 := hS1 k hk
  have hlay := hts _ (hin _ (u_in_lay hk))
  have hlays := u_lays hts hin hk
  unfold u_lay at hlay
  rw [if_pos (by rw [hT])] at hlay
  simp only [hT] at hS2 hlay hlays
  obtain ⟨cf, kf, fi, f, hi, hsl⟩ := hS2
  have hst := (u_facts hfc hkC hlays hi).1
  have hcf : m.cls = cf := by
    obtain ⟨_, _, c', _, _, _, -, -, hf', -, -, -, hown2, -⟩ := Cond.laysFinal_spec hlay
    have e1 : c' = cf := by have := hi.symm.trans hf'; simp at this; exact this.1.symm
    rw [hown] at hown2
    rw [← e1]; exact Option.some.inj (C.2.2.2.1.symm.trans hown2)
  have h6 := u_fits hfc hkC hkind (Or.inr hlay) hi hd hnar hfit
  refine W.putFinK C.1 C.2.1 C.2.2.2.1 (hts _ hl) hi hst hcf hin2 (by rw [q2]; exact h6) q1 q3 (by rw [hsl]; exact k2_hasslot (q4 k hk)) rfl rfl hdg fun H' e1 e2 e3 => ?_
  rw [hsl] at e1 ⊢
  exact kk H' _ (m_store hP ht hκ hcl hk hn hap q2 q3 q4 hv ho hj e1 e2 e3) (hS.put e2 e3 (Nat.le_add_right b i)) e2
-- arrays
theorem m_ar_i {κ : Nat} (h : κ ≤ 9) (i : Nat) : m_ar κ b M i = (m_len i, .inl (M.1 i)) := by simp [m_ar, h]
theorem m_ar_l (i : Nat) : m_ar 10 b M i = (m_len i, .inr (.inl (M.2.2 i))) := by simp [m_ar]
theorem m_ar_q {κ : Nat} (h : 10 < κ) (i : Nat) : m_ar κ b M i = (m_len i, .inr (.inr (.inr (.inr (fun k => (M.2.1 i k).map (fun j => b + j)))))) := by
  have h1 : ¬ κ ≤ 9 := by omega
  have h2 : ¬ κ = 10 := by omega
  simp [m_ar, h1, h2]
theorem m_hi {i κ : Nat} (hP : m_H D cA b n M H) (ht : m_tp n i κ) (h8 : ¬ κ < 8) (h : κ ≤ 9) : (m_ws cA b n M)[i]? = some (b + i, .inl (cA κ, m_len i, .inl (M.1 i))) := by rw [m_ha hP ht h8, m_ar_i h]
theorem m_hq {i κ : Nat} (hP : m_H D cA b n M H) (ht : m_tp n i κ) (h : 10 < κ) : (m_ws cA b n M)[i]? = some (b + i, .inl (cA κ, m_len i, .inr (.inr (.inr (.inr (fun k => (M.2.1 i k).map (fun j => b + j))))))) := by rw [m_ha hP ht (by omega), m_ar_q h]
theorem m_iald {i : Nat} {j : Int32} (C : CallFix p m c cc nL s args lw_T own) (hK : m_K D cA s) (hP : m_H D cA b n M H) (ht : m_tp n i 8) (hin : vp_in j (m_len i)) (hdg : decode cc pc = .ok (.iaload, 1))
    (kk : W p l e R s m args below meth c H locs cells slots Q (F0 m (pc + 1) ls (.int (M.1 i j.toNatClampNeg) :: rest))) : W p l e R s m args below meth c H locs cells slots Q (F0 m pc ls (.int j :: .ref (b + i) :: rest)) :=
  va_iald C.1 C.2.1 hK hP.1 i 0 (m_hi hP ht (by decide) (by decide)) rfl hin hdg kk
theorem m_cald {i : Nat} {j : Int32} (C : CallFix p m c cc nL s args lw_T own) (hK : m_K D cA s) (hP : m_H D cA b n M H) (ht : m_tp n i 9) (hin : vp_in j (m_len i)) (hdg : decode cc pc = .ok (.caload, 1))
    (kk : W p l e R s m args below meth c H locs cells slots Q (F0 m (pc + 1) ls (.int (M.1 i j.toNatClampNeg) :: rest))) : W p l e R s m args below meth c H locs cells slots Q (F0 m pc ls (.int j :: .ref (b + i) :: rest)) :=
  va_cald C.1 C.2.1 hK hP.1 i 1 (m_hi hP ht (by decide) (by decide)) rfl hin hdg kk
theorem m_aldq {i κ q : Nat} {E : String} {j : Int32} (C : CallFix p m c cc nL s args lw_T own) (hK : m_K D cA s) (hP : m_H D cA b n M H) (ht : m_tp n i κ) (h : 10 < κ) (hty : (m_tys cA)[κ - 8]? = some (cA κ, .object E)) (hin : vp_in j (m_len i)) (hv : M.2.1 i j.toNatClampNeg = some q) (hdg : decode cc pc = .ok (.aaload, 1))
    (kk : W p l e R s m args below meth c H locs cells slots Q (F0 m (pc + 1) ls (.ref (b + q) :: rest))) : W p l e R s m args below meth c H locs cells slots Q (F0 m pc ls (.int j :: .ref (b + i) :: rest)) := by
  refine va_aldq C.1 C.2.1 hK hP.1 i (κ - 8) (m_hq hP ht h) hty hin hdg ?_
  rw [hv]
  exact kk
theorem m_alen {i κ : Nat} {ty : FieldType} (C : CallFix p m c cc nL s args lw_T own) (hK : m_K D cA s) (hP : m_H D cA b n M H) (ht : m_tp n i κ) (h : ¬ κ < 8) (hty : (m_tys cA)[κ - 8]? = some (cA κ, ty)) (hdg : decode cc pc = .ok (.arraylength, 1))
    (kk : W p l e R s m args below meth c H locs cells slots Q (F0 m (pc + 1) ls (.int (nI (m_len i)) :: rest))) : W p l e R s m args below meth c H locs cells slots Q (F0 m pc ls (.ref (b + i) :: rest)) :=
  va_alen C.1 C.2.1 hK hP.1 i (κ - 8) (m_ha hP ht h) hty (v := nI (m_len i)) rfl hdg kk
theorem m_size {M' : Mem} (h : va_P D m_cl (m_ws cA b n M') H) (hn : n ≠ 0) : b + n ≤ H.size := by
  rcases n with _ | n
  · exact absurd rfl hn
  · have h4 : b + n < H.size := (h n _ (m_ws_at (Nat.lt_succ_self n))).lt
    omega
theorem m_set_a {i κ : Nat} {M' : Mem} {H1 : Heap} {x : vp_A} (ht : m_tp n i κ) (h8 : ¬ κ < 8) (hx : m_ar κ b M' i = x) (ho : ∀ j, j ≠ i → m_e cA b M' j = m_e cA b M j) (h : va_P D m_cl ((m_ws cA b n M).set i (b + i, .inl (cA κ, x))) H1) : m_H D cA b n M' H1 := by
  rw [m_ws_set (M' := M') (by rw [m_e_a ht.2 h8, hx]) ho] at h
  exact ⟨h, m_size h (by have := ht.1; omega)⟩
theorem m_iast {i : Nat} {j x : Int32} (C : CallFix p m c cc nL s args lw_T own) (hK : m_K D cA s) (hP : m_H D cA b n M H) (hS : va_S (m_A b) s.heap H locs) (ht : m_tp n i 8) (hin : vp_in j (m_len i)) (hdg : decode cc pc = .ok (.iastore, 1))
    (kk : ∀ (M' : Mem) (H1 : Heap) (locs1 : List Loc), M' = uI M i j.toNatClampNeg x → m_H D cA b n M' H1 → va_S (m_A b) s.heap H1 locs1 → W p l e R s m args below meth c H1 locs1 cells slots Q (F0 m (pc + 1) ls rest)) : W p l e R s m args below meth c H locs cells slots Q (F0 m pc ls (.int x :: .int j :: .ref (b + i) :: rest)) :=
  va_iast C.1 C.2.1 hK hP.1 m_D hS i 0 (m_hi hP ht (by decide) (by decide)) rfl hin hdg fun H1 locs1 h1 _ h3 => kk _ H1 locs1 rfl (m_set_a ht (by decide) (by
    rw [m_ar_i (by decide)]
    congr 2
    funext k
    simp [uI, upd]) (fun j hj => m_e_uI_o hj) h1) h3
theorem m_cast {i : Nat} {j x : Int32} (C : CallFix p m c cc nL s args lw_T own) (hK : m_K D cA s) (hP : m_H D cA b n M H) (hS : va_S (m_A b) s.heap H locs) (ht : m_tp n i 9) (hin : vp_in j (m_len i)) (hdg : decode cc pc = .ok (.castore, 1))
    (kk : ∀ (M' : Mem) (H1 : Heap) (locs1 : List Loc), M' = uI M i j.toNatClampNeg (vp_nar .char x) → m_H D cA b n M' H1 → va_S (m_A b) s.heap H1 locs1 → W p l e R s m args below meth c H1 locs1 cells slots Q (F0 m (pc + 1) ls rest)) : W p l e R s m args below meth c H locs cells slots Q (F0 m pc ls (.int x :: .int j :: .ref (b + i) :: rest)) :=
  va_cast C.1 C.2.1 hK hP.1 m_D hS i 1 (m_hi hP ht (by decide) (by decide)) rfl hin hdg fun H1 locs1 h1 _ h3 => kk _ H1 locs1 rfl (m_set_a ht (by decide) (by
    rw [m_ar_i (by decide)]
    congr 2
    funext k
    simp [uI, upd]) (fun j hj => m_e_uI_o hj) h1) h3
theorem m_astq {i κ q ci N : Nat} {E : String} {T1 : u_T} {j : Int32} (C : CallFix p m c cc nL s args lw_T own) (hK : m_K D cA s) (hP : m_H D cA b n M H) (hS : va_S (m_A b) s.heap H locs) (ht : m_tp n i κ) (h : 10 < κ) (hty : (m_tys cA)[κ - 8]? = some (cA κ, .object E)) (hq : m_tp n q ci) (hci : ci < 8) (hcl : m_cl[ci]? = some (E, T1, N)) (hin : vp_in j (m_len i)) (hdg : decode cc pc = .ok (.aastore, 1))
    (kk : ∀ (M' : Mem) (H1 : Heap) (locs1 : List Loc), M' = uR M i j.toNatClampNeg (some q) → m_H D cA b n M' H1 → va_S (m_A b) s.heap H1 locs1 → W p l e R s m args below meth c H1 locs1 cells slots Q (F0 m (pc + 1) ls rest)) : W p l e R s m args below meth c H locs cells slots Q (F0 m pc ls (.ref (b + q) :: .int j :: .ref (b + i) :: rest)) :=
  va_astq (r := (E, T1, N)) C.1 C.2.1 hK hP.1 m_D hS i (κ - 8) q ci (m_hq hP ht h) hty (m_hp hP hq hci) hcl hin hdg fun H1 locs1 h1 _ h3 => kk _ H1 locs1 rfl (m_set_a ht (by omega) (by
    rw [m_ar_q h]
    congr 5
    funext k
    by_cases hk : k = j.toNatClampNeg <;> simp [uR, va_up, hk]) (fun j hj => m_e_uR_o hj) h1) h3
-- calls
theorem m_res {y : MethodName} {mc ms n' : Nat} {av : Array Value} {res : Option Value → Mem → Prop} {g : JFrame} {st0 : List Value} (hg : g = F0 m pc ls st0) (hS : va_S (m_A b) s.heap H locs) (hr : va_Run p l e R s m args below meth c H locs cells slots mc ms g rest (m_Q D cA b n' res av) (m_A b))
    (kk : ∀ (v : Option Value) (M' : Mem) (H1 : Heap) (locs1 : List Loc), res v M' → m_H D cA b n' M' H1 → va_S (m_A b) s.heap H1 locs1 → W p l e R s m args below meth c H1 locs1 (cells + mc) (slots + ms) Q (F0 m (pc + 3) ls (v.toList ++ rest))) : W p l e R s m args below meth c H locs cells slots Q g := by
  subst hg
  intro T hT X
  obtain ⟨v, st₀, t, T', L, h0, X', hL, e1, e2, ⟨⟨v', M', hv, hres, hH⟩, hz, hk⟩, st⟩ := hr T hT X
  cases hv
  rw [h0] at hz hk
  obtain ⟨t2, a1, b1⟩ := kk v M' T'.heap (locs ++ L) hres (by rw [e1]; exact hH)
    ⟨Nat.le_trans hS.1 (by rw [e1]; exact hz), fun q h1 h2 => by rw [e1, hk q (Nat.lt_of_lt_of_le h1 hS.1) h2]; exact hS.2.1 q h1 h2, fun q hq => by
      rcases List.mem_append.mp hq with h | h
      · exact hS.2.2 q h
      · exact hL q h⟩ T' rfl X'
  exact ⟨t2, st t2 a1, b1⟩
theorem m_K.moved {u U : State} (hvm : u.vm.Alike U.vm) (h : m_K D cA u) : m_K D cA U := va_K.moved hvm h
theorem m_callB {y : MethodName} {bytes : ByteArray} {maxL index mc ms np : Nat} {ret : Option FieldType} {rm : Room} (C : CallFix p m c cc nL s args lw_T own) (hc : rm.cells = mc ∧ rm.slots = ms) (hml : Cond.methodLink own index y ∈ lw_T) (hini : Cond.initialized y.cls ∈ lw_T) (hco : Cond.code y bytes maxL ret ∈ lw_T)
    (hd : y.cls ≠ "java/lang/invoke/MethodHandle" ∧ y.cls ≠ "java/lang/invoke/VarHandle" ∧ (parseMethodDescriptor y.desc).map (fun d => d.parameters.length) = some np) (hR : rm.frames + 1 ≤ R.frames ∧ 8 + (maxL + 11) + rm.locals ≤ R.locals) : CallB R s args own index y bytes maxL ret (Cond.code y bytes maxL ret :: lw_T) rm mc ms np := by
  have hts := C.2.2.2.2
  refine callB_of np hts ?_ rfl hc.1 hc.2 (hts _ hini) (hts _ hml) hd hR
  intro w hw
  have hw' : w ∈ lw_T := by
    rcases List.mem_cons.mp hw with rfl | h
    · exact hco
    · exact h
  exact ⟨hw', good_of_word (lw_T_good hw')⟩
theorem m_callV {y : MethodName} {bytes : ByteArray} {maxL index np κ N i : Nat} {ret : Option FieldType} {rm : Room} {T1 : u_T} {As : List Value} {res : Option Value → Mem → Prop} {st0 : List Value} (C : CallFix p m c cc nL s args lw_T own) (hK : m_K D cA s) (hP : m_H D cA b n M H) (hS : va_S (m_A b) s.heap H locs) (hlv : ls.size = nL) (hcs : cells ≤ R.cells ∧ slots ≤ R.slots)
    (hM : m_C l D cA b n n M y bytes maxL ret rm 0 0 (.ref (b + i) :: As) res) (hst : st0 = As.reverse ++ .ref (b + i) :: rest) (hn : As.length = np) (ht : m_tp n i κ) (hκ : κ < 8) (hcl : m_cl[κ]? = some (y.cls, T1, N))
    (hml : Cond.methodLink own index y ∈ lw_T) (him : Cond.instanceMethod y ∈ lw_T) (hse : Cond.selects y.cls y y ∈ lw_T) (hini : Cond.initialized y.cls ∈ lw_T) (hco : Cond.code y bytes maxL ret ∈ lw_T) (hc : rm.cells = 0 ∧ rm.slots = 0)
    (hd : y.cls ≠ "java/lang/invoke/MethodHandle" ∧ y.cls ≠ "java/lang/invoke/VarHandle" ∧ (parseMethodDescriptor y.desc).map (fun d => d.parameters.length) = some np) (hR : rm.frames + 1 ≤ R.frames ∧ 8 + (maxL + 11) + rm.locals ≤ R.locals) (hroom : (rest.map fun v => v.category).sum ≤ 8) (hdg : decode cc pc = .ok (.invokevirtual index, 3))
    (kk : ∀ (v : Option Value) (M' : Mem) (H1 : Heap) (locs1 : List Loc), res v M' → m_H D cA b n M' H1 → va_S (m_A b) s.heap H1 locs1 → W p l e R s m args below meth c H1 locs1 cells slots Q (F0 m (pc + 3) ls (v.toList ++ rest))) : W p l e R s m args below meth c H locs cells slots Q (F0 m pc ls st0) :=
  m_res (y := y) rfl hS (va_runV C hM ⟨m_callB C hc hml hini hco hd hR, C.2.2.2.2 _ him, C.2.2.2.2 _ hse⟩ ⟨m_blind, va_recv hK hP.1 hcl (m_hp hP ht hκ), fun U hU hW => ⟨rfl, hK.moved hW.alike, by rw [hU]; exact hP⟩⟩ rfl hn hlv hst (lv_room hroom) hdg ⟨hcs.1, hcs.2⟩) kk
theorem m_callS {y : MethodName} {bytes : ByteArray} {maxL index np : Nat} {ret : Option FieldType} {rm : Room} {As : List Value} {res : Option Value → Mem → Prop} {st0 : List Value} (C : CallFix p m c cc nL s args lw_T own) (hK : m_K D cA s) (hP : m_H D cA b n M H) (hS : va_S (m_A b) s.heap H locs) (hlv : ls.size = nL) (hcs : cells ≤ R.cells ∧ slots ≤ R.slots)
    (hM : m_C l D cA b n n M y bytes maxL ret rm 0 0 As res) (hst : st0 = As.reverse ++ rest) (hn : As.length = np)
    (hml : Cond.methodLink own index y ∈ lw_T) (hsm : Cond.static y ∈ lw_T) (hini : Cond.initialized y.cls ∈ lw_T) (hco : Cond.code y bytes maxL ret ∈ lw_T) (hc : rm.cells = 0 ∧ rm.slots = 0)
    (hd : y.cls ≠ "java/lang/invoke/MethodHandle" ∧ y.cls ≠ "java/lang/invoke/VarHandle" ∧ (parseMethodDescriptor y.desc).map (fun d => d.parameters.length) = some np) (hR : rm.frames + 1 ≤ R.frames ∧ 8 + (maxL + 11) + rm.locals ≤ R.locals) (hroom : (rest.map fun v => v.category).sum ≤ 8) (hdg : decode cc pc = .ok (.invokestatic index, 3))
    (kk : ∀ (v : Option Value) (M' : Mem) (H1 : Heap) (locs1 : List Loc), res v M' → m_H D cA b n M' H1 → va_S (m_A b) s.heap H1 locs1 → W p l e R s m args below meth c H1 locs1 cells slots Q (F0 m (pc + 3) ls (v.toList ++ rest))) : W p l e R s m args below meth c H locs cells slots Q (F0 m pc ls st0) :=
  m_res (y := y) rfl hS (va_runS C hM ⟨m_callB C hc hml hini hco hd hR, C.2.2.2.2 _ hsm⟩ ⟨m_blind, fun U hU hW => ⟨rfl, hK.moved hW.alike, by rw [hU]; exact hP⟩⟩ rfl hn hlv hst (lv_room hroom) hdg ⟨hcs.1, hcs.2⟩) kk
-- ends
theorem m_end {n' : Nat} {M' : Mem} {v : Option Value} {res : Option Value → Mem → Prop} (hP : m_H D cA b n' M' H) (hS : va_S (m_A b) s.heap H locs) (hq : res v M') (t : State) (ht : t.heap = H) : m_Q D cA b n' res args s (.returned v) t := ⟨⟨v, M', rfl, hq, by rw [ht]; exact hP⟩, hS.F ht⟩
theorem m_vret {n' mc ms : Nat} {M' : Mem} {P : Mem → Prop} (C : CallFix p m c cc nL s args lw_T own) (hr : meth.sig.returnType = none) (hlk : meth.locks = false) (hP : m_H D cA b n' M' H) (hS : va_S (m_A b) s.heap H locs) (hdg : decode cc pc = .ok (.return_, 1)) (hq : P M') : W p l e R s m args below meth c H locs mc ms (MQ below (m_Q D cA b n' (rV P)) args s mc ms (m_A b)) (F0 m pc ls []) :=
  W.vret C.1 C.2.1 hr (fun t ht _ => m_end hP hS ⟨rfl, hq⟩ t ht) hS.2.2 hdg hlk
theorem m_iret {n' mc ms : Nat} {M' : Mem} {P : Int32 → Mem → Prop} {v : Int32} (C : CallFix p m c cc nL s args lw_T own) (hr : meth.sig.returnType = some .int) (hlk : meth.locks = false) (hP : m_H D cA b n' M' H) (hS : va_S (m_A b) s.heap H locs) (hdg : decode cc pc = .ok (.ireturn, 1)) (hq : P v M') : W p l e R s m args below meth c H locs mc ms (MQ below (m_Q D cA b n' (rI P)) args s mc ms (m_A b)) (F0 m pc ls [.int v]) :=
  W.iret C.1 C.2.1 hr (fun t ht _ => m_end hP hS ⟨v, rfl, hq⟩ t ht) hS.2.2 hdg hlk
theorem m_zret {n' mc ms : Nat} {M' : Mem} {P : Bool → Mem → Prop} {v : Bool} (C : CallFix p m c cc nL s args lw_T own) (hr : meth.sig.returnType = some .boolean) (hlk : meth.locks = false) (hP : m_H D cA b n' M' H) (hS : va_S (m_A b) s.heap H locs) (hdg : decode cc pc = .ok (.ireturn, 1)) (hq : P v M') : W p l e R s m args below meth c H locs mc ms (MQ below (m_Q D cA b n' (rZ P)) args s mc ms (m_A b)) (F0 m pc ls [.int (bI v)]) :=
  W.zret C.1 C.2.1 hr (bI_nar v) (fun t ht _ => m_end hP hS ⟨v, rfl, hq⟩ t ht) hS.2.2 hdg hlk
theorem m_lret {n' mc ms : Nat} {M' : Mem} {P : Int64 → Mem → Prop} {v : Int64} (C : CallFix p m c cc nL s args lw_T own) (hr : meth.sig.returnType = some .long) (hlk : meth.locks = false) (hP : m_H D cA b n' M' H) (hS : va_S (m_A b) s.heap H locs) (hdg : decode cc pc = .ok (.lreturn, 1)) (hq : P v M') : W p l e R s m args below meth c H locs mc ms (MQ below (m_Q D cA b n' (rL P)) args s mc ms (m_A b)) (F0 m pc ls [.long v]) :=
  W.lret C.1 C.2.1 hr (fun t ht _ => m_end hP hS ⟨v, rfl, hq⟩ t ht) hS.2.2 hdg hlk
theorem m_dret {n' mc ms : Nat} {M' : Mem} {P : UInt64 → Mem → Prop} {v : UInt64} (C : CallFix p m c cc nL s args lw_T own) (hr : meth.sig.returnType = some .double) (hlk : meth.locks = false) (hP : m_H D cA b n' M' H) (hS : va_S (m_A b) s.heap H locs) (hdg : decode cc pc = .ok (.dreturn, 1)) (hq : P v M') : W p l e R s m args below meth c H locs mc ms (MQ below (m_Q D cA b n' (rD P)) args s mc ms (m_A b)) (F0 m pc ls [.double v]) :=
  W.dret C.1 C.2.1 hr (fun t ht _ => m_end hP hS ⟨v, rfl, hq⟩ t ht) hS.2.2 hdg hlk
theorem m_rret {n' mc ms v : Nat} {nm : String} {M' : Mem} {P : Nat → Mem → Prop} (C : CallFix p m c cc nL s args lw_T own) (hr : meth.sig.returnType = some (.object nm)) (hlk : meth.locks = false) (hP : m_H D cA b n' M' H) (hS : va_S (m_A b) s.heap H locs) (hdg : decode cc pc = .ok (.areturn, 1)) (hq : P v M') : W p l e R s m args below meth c H locs mc ms (MQ below (m_Q D cA b n' (rR b P)) args s mc ms (m_A b)) (F0 m pc ls [.ref (b + v)]) :=
  W.aret C.1 C.2.1 hr (Or.inl ⟨nm, rfl⟩) (Or.inr ⟨_, rfl⟩) (fun t ht _ => m_end hP hS ⟨v, rfl, hq⟩ t ht) hS.2.2 hdg hlk
theorem m_oret {n' mc ms : Nat} {v : Option Nat} {nm : String} {M' : Mem} {P : Option Nat → Mem → Prop} (C : CallFix p m c cc nL s args lw_T own) (hr : meth.sig.returnType = some (.object nm)) (hlk : meth.locks = false) (hP : m_H D cA b n' M' H) (hS : va_S (m_A b) s.heap H locs) (hdg : decode cc pc = .ok (.areturn, 1)) (hq : P v M') : W p l e R s m args below meth c H locs mc ms (MQ below (m_Q D cA b n' (rO b P)) args s mc ms (m_A b)) (F0 m pc ls [va_rf (v.map (fun j => b + j))]) :=
  W.aret C.1 C.2.1 hr (Or.inl ⟨nm, rfl⟩) (va_rf_or _) (fun t ht _ => m_end hP hS ⟨v, rfl, hq⟩ t ht) hS.2.2 hdg hlk
/-- a reference that may be null, put into a local -/
theorem m_astO_n {k : Fin 4} {i : Nat} {r : Option Nat} {lv lv' : List (Nat × Value)} (hexec : p.tables.exec = Jvm.exec) (hb : c.code = cc) (hdg : decode cc pc = .ok (.astore_n k, 1)) (hi : (k : Nat) = i) (h : lv_has ls nL lv) (hn : i < nL) (hl : (i, va_rf r) :: lv.filter (fun q => !(q.1 == i) && !(q.1 + 1 == i && q.2.category == 2)) = lv')
    (kk : ∀ ls' : Array Slot, lv_has ls' nL lv' → W p l e R s m args below meth c H locs cells slots Q (F0 m (pc + 1) ls' rest)) : W p l e R s m args below meth c H locs cells slots Q (F0 m pc ls (va_rf r :: rest)) := by
  cases r with
  | none => exact lv_astore_nN hexec hb hdg hi h hn hl kk
  | some a => exact lv_astore_n hexec hb hdg hi h hn hl kk
theorem m_astO {i : Nat} {r : Option Nat} {lv lv' : List (Nat × Value)} (hexec : p.tables.exec = Jvm.exec) (hb : c.code = cc) (hdg : decode cc pc = .ok (.astore i, 2)) (h : lv_has ls nL lv) (hn : i < nL) (hl : (i, va_rf r) :: lv.filter (fun q => !(q.1 == i) && !(q.1 + 1 == i && q.2.category == 2)) = lv')
    (kk : ∀ ls' : Array Slot, lv_has ls' nL lv' → W p l e R s m args below meth c H locs cells slots Q (F0 m (pc + 2) ls' rest)) : W p l e R s m args below meth c H locs cells slots Q (F0 m pc ls (va_rf r :: rest)) := by
  cases r with
  | none => exact lv_astoreN hexec hb hdg h hn hl kk
  | some a => exact lv_astore hexec hb hdg h hn hl kk
theorem m_aldO_n {k : Fin 4} {i : Nat} {r : Option Nat} (hexec : p.tables.exec = Jvm.exec) (hb : c.code = cc) (hdg : decode cc pc = .ok (.aload_n k, 1)) (hi : (k : Nat) = i) (hl : ls[i]? = some (.val (va_rf r)))
    (kk : W p l e R s m args below meth c H locs cells slots Q (F0 m (pc + 1) ls (va_rf r :: rest))) : W p l e R s m args below meth c H locs cells slots Q (F0 m pc ls rest) := by
  cases r with
  | none => exact lv_aload_nN hexec hb hdg hi hl kk
  | some a => exact lv_aload_n hexec hb hdg hi hl kk
theorem m_aldO {i : Nat} {r : Option Nat} (hexec : p.tables.exec = Jvm.exec) (hb : c.code = cc) (hdg : decode cc pc = .ok (.aload i, 2)) (hl : ls[i]? = some (.val (va_rf r)))
    (kk : W p l e R s m args below meth c H locs cells slots Q (F0 m (pc + 2) ls (va_rf r :: rest))) : W p l e R s m args below meth c H locs cells slots Q (F0 m pc ls rest) := by
  cases r with
  | none => exact lv_aloadN hexec hb hdg hl kk
  | some a => exact lv_aload hexec hb hdg hl kk
theorem m_case {dflt lo hi : Int} {offs : Array Int} {len tgt : Nat} {x v : Int32} {off : Int} (hexec : p.tables.exec = Jvm.exec) (hb : c.code = cc) (cx : x = v) (hdg : decode cc pc = .ok (.tableswitch dflt lo hi offs, len)) (h1 : ¬ v.toInt < lo) (h2 : ¬ hi < v.toInt) (ho : offs[(v.toInt - lo).toNat]? = some off) (ht : (pc : Int) + off = (tgt : Int))
    (k : W p l e R s m args below meth c H locs cells slots Q (F0 m tgt ls rest)) : W p l e R s m args below meth c H locs cells slots Q (F0 m pc ls (.int x :: rest)) := by
  subst cx
  exact lv_tableIn hexec hb hdg h1 h2 ho ht k
theorem m_lcase {dflt : Int} {ps : Array (Int × Int)} {len tgt : Nat} {x v : Int32} {off : Int} (hexec : p.tables.exec = Jvm.exec) (hb : c.code = cc) (cx : x = v) (hdg : decode cc pc = .ok (.lookupswitch dflt ps, len)) (hp : (ps.toList.zip (ps.toList.drop 1)).all (fun (a, next) => a.1 < next.1) = true) (ho : Op.lookupswitch.offset ps.toList dflt v.toInt = off) (ht : (pc : Int) + off = (tgt : Int))
    (k : W p l e R s m args below meth c H locs cells slots Q (F0 m tgt ls rest)) : W p l e R s m args below meth c H locs cells slots Q (F0 m pc ls (.int x :: rest)) := by
  subst cx
  exact lv_lookup hexec hb hdg hp ho ht k
end MR
theorem i_ne {x k : Int32} (h : ¬ x = k) : x.toInt ≠ k.toInt := fun e => h (Int32.toInt_inj.mp e)
