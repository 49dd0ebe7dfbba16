/-! ForgeHeatsLaw.stock (LForgeHeats;II[J)I -/
def wp_L_stock (n : Nat) (M : Mem) (p1 : Nat) (p2 : Int32) (p3 : Int32) (p4 : Nat) (P : Int32 → Mem → Prop) : Prop := m_tp n p1 6 ∧ (wp_X6_stock n M p1 p2 p3 (fun r2 M1 => m_tp n p4 10 ∧ (vp_in 0 (m_len p4) ∧ (∀ M6 : Mem, M6 = uL M1 p4 (0 : Int32).toNatClampNeg ((r2).toInt64) → (P 0 M6)))) (fun E Me => (E = "java/lang/IndexOutOfBoundsException" ∧ P 1 Me) ∨ (E = "java/lang/IllegalArgumentException" ∧ P 2 Me) ∨ (E = "java/lang/IllegalStateException" ∧ P 3 Me)))
abbrev rm_L_stock : Room := { frames := 7, cells := 1, slots := 6, locals := 113 }
set_option maxHeartbeats 4000000 in
set_option maxRecDepth 100000 in
theorem c_L_stock {l : Launch} (hlt : l.stackTraces = false) {D : va_G} {cA : Nat → ClassId} {b n : Nat} {M : Mem} {p1 : Nat} {p2 : Int32} {p3 : Int32} {p4 : Nat} {P : Int32 → Mem → Prop} (h : wp_L_stock n M p1 p2 p3 p4 P) : m_CX l D cA b n M yL_stock (Cond.codeWith yL_stock cL_stock 5 (some .int) [(0, 10, 13, 13), (0, 10, 17, 15), (0, 10, 21, 17)]) rm_L_stock [.ref (b + p1), .int p2, .int p3, .ref (b + p4)] (rI P) (fun _ _ => False) := by
  refine m_enterW (by decide) (Nat.le_of_ble_eq_true rfl) (fun p e s m below meth c C hr hlk ht hZ hK hP hS ls hl => ?_)
  have hx := C.1
  have hb := C.2.1
  have hl : lv_has ls 5 [(0, .ref (b + p1)), (1, .int p2), (2, .int p3), (3, .ref (b + p4))] := hl
  unfold wp_L_stock at h
  refine lv_aload_n (pc := 0) hx hb dL_stock_0 rfl (lv_at hl 3 rfl) ?_
  refine lv_iconst (v := 0) (pc := 1) hx hb dL_stock_1 (by decide) ?_
  refine lv_aload_n (pc := 2) hx hb dL_stock_2 rfl (lv_at hl 0 rfl) ?_
  refine lv_iload_n (pc := 3) hx hb dL_stock_3 rfl (lv_at hl 1 rfl) ?_
  refine lv_iload_n (pc := 4) hx hb dL_stock_4 rfl (lv_at hl 2 rfl) ?_
  obtain ⟨hk3, h⟩ := h
  refine m_callX (pc := 5) (y := yX6_stock) (κ := 6) (np := 2) (As := [.int p2, .int p3]) (rest := [.int 0, .ref (b + p4)]) C hK hZ hP hS hl.1 ⟨Nat.le_of_ble_eq_true rfl, Nat.le_of_ble_eq_true rfl⟩ (c_X6_stock hlt h) rfl rfl hk3 (by decide) rfl q_588 q_589 q_590 q_1 q_591 ⟨rfl, rfl⟩ yd_X6_stock ⟨Nat.le_of_ble_eq_true rfl, Nat.le_of_ble_eq_true rfl⟩ (Nat.le_of_ble_eq_true rfl) dL_stock_5 (fun E Me H locs q9 ce h hP hS hce hcv hcl => ?_) (fun v9 M1 H locs hv9 hP hS => ?_)
  · rcases h with ⟨rfl, h⟩ | ⟨rfl, h⟩ | ⟨rfl, h⟩
    · refine vx_catch (E := "java/lang/IndexOutOfBoundsException") (own := RL) (name := "java/lang/IndexOutOfBoundsException") C.2.2.2.1 (tableOf []) ⟨0, 10, 13, 13⟩ (tableOf [(0, 10, 17, 15), (0, 10, 21, 17)]) (ht.trans rfl) ((fun z hz => (List.not_mem_nil hz).elim)) (by decide) (by decide) (C.2.2.2.2 _ q_585) (va_tabs (by decide) rfl (hZ.2.2.1 (Cond.castable "java/lang/IndexOutOfBoundsException" "java/lang/IndexOutOfBoundsException") (by decide +kernel))) hce hcv hcl ?_
      refine lv_astore (lv' := [(4, .ref q9), (0, .ref (b + p1)), (1, .int p2), (2, .int p3), (3, .ref (b + p4))]) (pc := 13) hx hb dL_stock_13 hl (by decide) rfl (fun ls hl => ?_)
      refine lv_iconst (v := 1) (pc := 15) hx hb dL_stock_15 (by decide) ?_
      exact m_retY (m_iret (v := 1) (pc := 16) C hr hlk hP hS dL_stock_16 h)
    · refine vx_catch (E := "java/lang/IllegalArgumentException") (own := RL) (name := "java/lang/IllegalArgumentException") C.2.2.2.1 (tableOf [(0, 10, 13, 13)]) ⟨0, 10, 17, 15⟩ (tableOf [(0, 10, 21, 17)]) (ht.trans rfl) (m_pass1 (C.2.2.2.2 _ q_585) hZ.2.2.2.1 (by decide +kernel : ("java/lang/IllegalArgumentException", "java/lang/IndexOutOfBoundsException") ∈ m_nc) (by decide)) (by decide) (by decide) (C.2.2.2.2 _ q_586) (va_tabs (by decide) rfl (hZ.2.2.1 (Cond.castable "java/lang/IllegalArgumentException" "java/lang/IllegalArgumentException") (by decide +kernel))) hce hcv hcl ?_
      refine lv_astore (lv' := [(4, .ref q9), (0, .ref (b + p1)), (1, .int p2), (2, .int p3), (3, .ref (b + p4))]) (pc := 17) hx hb dL_stock_17 hl (by decide) rfl (fun ls hl => ?_)
      refine lv_iconst (v := 2) (pc := 19) hx hb dL_stock_19 (by decide) ?_
      exact m_retY (m_iret (v := 2) (pc := 20) C hr hlk hP hS dL_stock_20 h)
    · refine vx_catch (E := "java/lang/IllegalStateException") (own := RL) (name := "java/lang/IllegalStateException") C.2.2.2.1 (tableOf [(0, 10, 13, 13), (0, 10, 17, 15)]) ⟨0, 10, 21, 17⟩ (tableOf []) (ht.trans rfl) (m_pass2 (C.2.2.2.2 _ q_585) (C.2.2.2.2 _ q_586) hZ.2.2.2.1 (by decide +kernel : ("java/lang/IllegalStateException", "java/lang/IndexOutOfBoundsException") ∈ m_nc) (by decide +kernel : ("java/lang/IllegalStateException", "java/lang/IllegalArgumentException") ∈ m_nc) (by decide) (by decide)) (by decide) (by decide) (C.2.2.2.2 _ q_587) (va_tabs (by decide) rfl (hZ.2.2.1 (Cond.castable "java/lang/IllegalStateException" "java/lang/IllegalStateException") (by decide +kernel))) hce hcv hcl ?_
      refine lv_astore (lv' := [(4, .ref q9), (0, .ref (b + p1)), (1, .int p2), (2, .int p3), (3, .ref (b + p4))]) (pc := 21) hx hb dL_stock_21 hl (by decide) rfl (fun ls hl => ?_)
      refine lv_iconst (v := 3) (pc := 23) hx hb dL_stock_23 (by decide) ?_
      exact m_retY (m_iret (v := 3) (pc := 24) C hr hlk hP hS dL_stock_24 h)
  · obtain ⟨r2, rfl, h⟩ := hv9
    refine lv_i2l (pc := 8) hx hb dL_stock_8 rfl ?_
    obtain ⟨hk4, h⟩ := h
    obtain ⟨hi5, h⟩ := h
    refine m_last (pc := 9) C hK hP hS hk4 hi5 dL_stock_9 (fun M6 H locs eM6 hP hS => ?_)
    replace h := h M6 eM6
    refine lv_goto (tgt := 25) (pc := 10) hx hb dL_stock_10 (by decide) ?_
    refine lv_iconst (v := 0) (pc := 25) hx hb dL_stock_25 (by decide) ?_
    exact m_retY (m_iret (v := 0) (pc := 26) C hr hlk hP hS dL_stock_26 h)
/-! ForgeHeatsLaw.range (LForgeHeats;III[J)I -/
def wp_L_range (n : Nat) (M : Mem) (p1 : Nat) (p2 : Int32) (p3 : Int32) (p4 : Int32) (p5 : Nat) (P : Int32 → Mem → Prop) : Prop := m_tp n p1 6 ∧ (wp_X6_range n M p1 p2 p3 p4 (fun r2 M1 => m_tp n p5 10 ∧ (vp_in 0 (m_len p5) ∧ (∀ M6 : Mem, M6 = uL M1 p5 (0 : Int32).toNatClampNeg ((r2).toInt64) → (P 0 M6)))) (fun E Me => (E = "java/lang/IndexOutOfBoundsException" ∧ P 1 Me) ∨ (E = "java/lang/IllegalArgumentException" ∧ P 2 Me)))
abbrev rm_L_range : Room := { frames := 7, cells := 1, slots := 6, locals := 115 }
set_option maxHeartbeats 4000000 in
set_option maxRecDepth 100000 in
theorem c_L_range {l : Launch} (hlt : l.stackTraces = false) {D : va_G} {cA : Nat → ClassId} {b n : Nat} {M : Mem} {p1 : Nat} {p2 : Int32} {p3 : Int32} {p4 : Int32} {p5 : Nat} {P : Int32 → Mem → Prop} (h : wp_L_range n M p1 p2 p3 p4 p5 P) : m_CX l D cA b n M yL_range (Cond.codeWith yL_range cL_range 6 (some .int) [(0, 12, 15, 13), (0, 12, 19, 15)]) rm_L_range [.ref (b + p1), .int p2, .int p3, .int p4, .ref (b + p5)] (rI P) (fun _ _ => False) := by
  refine m_enterW (by decide) (Nat.le_of_ble_eq_true rfl) (fun p e s m below meth c C hr hlk ht hZ hK hP hS ls hl => ?_)
  have hx := C.1
  have hb := C.2.1
  have hl : lv_has ls 6 [(0, .ref (b + p1)), (1, .int p2), (2, .int p3), (3, .int p4), (4, .ref (b + p5))] := hl
  unfold wp_L_range at h
  refine lv_aload (pc := 0) hx hb dL_range_0 (lv_at hl 4 rfl) ?_
  refine lv_iconst (v := 0) (pc := 2) hx hb dL_range_2 (by decide) ?_
  refine lv_aload_n (pc := 3) hx hb dL_range_3 rfl (lv_at hl 0 rfl) ?_
  refine lv_iload_n (pc := 4) hx hb dL_range_4 rfl (lv_at hl 1 rfl) ?_
  refine lv_iload_n (pc := 5) hx hb dL_range_5 rfl (lv_at hl 2 rfl) ?_
  refine lv_iload_n (pc := 6) hx hb dL_range_6 rfl (lv_at hl 3 rfl) ?_
  obtain ⟨hk3, h⟩ := h
  refine m_callX (pc := 7) (y := yX6_range) (κ := 6) (np := 3) (As := [.int p2, .int p3, .int p4]) (rest := [.int 0, .ref (b + p5)]) C hK hZ hP hS hl.1 ⟨Nat.le_of_ble_eq_true rfl, Nat.le_of_ble_eq_true rfl⟩ (c_X6_range hlt h) rfl rfl hk3 (by decide) rfl q_711 q_712 q_713 q_1 q_714 ⟨rfl, rfl⟩ yd_X6_range ⟨Nat.le_of_ble_eq_true rfl, Nat.le_of_ble_eq_true rfl⟩ (Nat.le_of_ble_eq_true rfl) dL_range_7 (fun E Me H locs q9 ce h hP hS hce hcv hcl => ?_) (fun v9 M1 H locs hv9 hP hS => ?_)
  · rcases h with ⟨rfl, h⟩ | ⟨rfl, h⟩
    · refine vx_catch (E := "java/lang/IndexOutOfBoundsException") (own := RL) (name := "java/lang/IndexOutOfBoundsException") C.2.2.2.1 (tableOf []) ⟨0, 12, 15, 13⟩ (tableOf [(0, 12, 19, 15)]) (ht.trans rfl) ((fun z hz => (List.not_mem_nil hz).elim)) (by decide) (by decide) (C.2.2.2.2 _ q_585) (va_tabs (by decide) rfl (hZ.2.2.1 (Cond.castable "java/lang/IndexOutOfBoundsException" "java/lang/IndexOutOfBoundsException") (by decide +kernel))) hce hcv hcl ?_
      refine lv_astore (lv' := [(5, .ref q9), (0, .ref (b + p1)), (1, .int p2), (2, .int p3), (3, .int p4), (4, .ref (b + p5))]) (pc := 15) hx hb dL_range_15 hl (by decide) rfl (fun ls hl => ?_)
      refine lv_iconst (v := 1) (pc := 17) hx hb dL_range_17 (by decide) ?_
      exact m_retY (m_iret (v := 1) (pc := 18) C hr hlk hP hS dL_range_18 h)
    · refine vx_catch (E := "java/lang/IllegalArgumentException") (own := RL) (name := "java/lang/IllegalArgumentException") C.2.2.2.1 (tableOf [(0, 12, 15, 13)]) ⟨0, 12, 19, 15⟩ (tableOf []) (ht.trans rfl) (m_pass1 (C.2.2.2.2 _ q_585) hZ.2.2.2.1 (by decide +kernel : ("java/lang/IllegalArgumentException", "java/lang/IndexOutOfBoundsException") ∈ m_nc) (by decide)) (by decide) (by decide) (C.2.2.2.2 _ q_586) (va_tabs (by decide) rfl (hZ.2.2.1 (Cond.castable "java/lang/IllegalArgumentException" "java/lang/IllegalArgumentException") (by decide +kernel))) hce hcv hcl ?_
      refine lv_astore (lv' := [(5, .ref q9), (0, .ref (b + p1)), (1, .int p2), (2, .int p3), (3, .int p4), (4, .ref (b + p5))]) (pc := 19) hx hb dL_range_19 hl (by decide) rfl (fun ls hl => ?_)
      refine lv_iconst (v := 2) (pc := 21) hx hb dL_range_21 (by decide) ?_
      exact m_retY (m_iret (v := 2) (pc := 22) C hr hlk hP hS dL_range_22 h)
  · obtain ⟨r2, rfl, h⟩ := hv9
    refine lv_i2l (pc := 10) hx hb dL_range_10 rfl ?_
    obtain ⟨hk4, h⟩ := h
    obtain ⟨hi5, h⟩ := h
    refine m_last (pc := 11) C hK hP hS hk4 hi5 dL_range_11 (fun M6 H locs eM6 hP hS => ?_)
    replace h := h M6 eM6
    refine lv_goto (tgt := 23) (pc := 12) hx hb dL_range_12 (by decide) ?_
    refine lv_iconst (v := 0) (pc := 23) hx hb dL_range_23 (by decide) ?_
    exact m_retY (m_iret (v := 0) (pc := 24) C hr hlk hP hS dL_range_24 h)
/-! ForgeHeatsLaw.die (LForgeHeats;III[J)I -/
def wp_L_die (n : Nat) (M : Mem) (p1 : Nat) (p2 : Int32) (p3 : Int32) (p4 : Int32) (p5 : Nat) (P : Int32 → Mem → Prop) : Prop := m_tp n p1 6 ∧ (wp_X6_die n M p1 p2 p3 p4 (fun r2 M1 => m_tp n p5 10 ∧ (vp_in 0 (m_len p5) ∧ (∀ M6 : Mem, M6 = uL M1 p5 (0 : Int32).toNatClampNeg ((r2).toInt64) → (P 0 M6)))) (fun E Me => (E = "java/lang/IndexOutOfBoundsException" ∧ P 1 Me) ∨ (E = "java/lang/IllegalArgumentException" ∧ P 2 Me) ∨ (E = "java/lang/IllegalStateException" ∧ P 3 Me)))
abbrev rm_L_die : Room := { frames := 7, cells := 1, slots := 6, locals := 115 }
set_option maxHeartbeats 4000000 in
set_option maxRecDepth 100000 in
theorem c_L_die {l : Launch} (hlt : l.stackTraces = false) {D : va_G} {cA : Nat → ClassId} {b n : Nat} {M : Mem} {p1 : Nat} {p2 : Int32} {p3 : Int32} {p4 : Int32} {p5 : Nat} {P : Int32 → Mem → Prop} (h : wp_L_die n M p1 p2 p3 p4 p5 P) : m_CX l D cA b n M yL_die (Cond.codeWith yL_die cL_die 6 (some .int) [(0, 12, 15, 13), (0, 12, 19, 15), (0, 12, 23, 17)]) rm_L_die [.ref (b + p1), .int p2, .int p3, .int p4, .ref (b + p5)] (rI P) (fun _ _ => False) := by
  refine m_enterW (by decide) (Nat.le_of_ble_eq_true rfl) (fun p e s m below meth c C hr hlk ht hZ hK hP hS ls hl => ?_)
  have hx := C.1
  have hb := C.2.1
  have hl : lv_has ls 6 [(0, .ref (b + p1)), (1, .int p2), (2, .int p3), (3, .int p4), (4, .ref (b + p5))] := hl
  unfold wp_L_die at h
  refine lv_aload (pc := 0) hx hb dL_die_0 (lv_at hl 4 rfl) ?_
  refine lv_iconst (v := 0) (pc := 2) hx hb dL_die_2 (by decide) ?_
  refine lv_aload_n (pc := 3) hx hb dL_die_3 rfl (lv_at hl 0 rfl) ?_
  refine lv_iload_n (pc := 4) hx hb dL_die_4 rfl (lv_at hl 1 rfl) ?_
  refine lv_iload_n (pc := 5) hx hb dL_die_5 rfl (lv_at hl 2 rfl) ?_
  refine lv_iload_n (pc := 6) hx hb dL_die_6 rfl (lv_at hl 3 rfl) ?_
  obtain ⟨hk3, h⟩ := h
  refine m_callX (pc := 7) (y := yX6_die) (κ := 6) (np := 3) (As := [.int p2, .int p3, .int p4]) (rest := [.int 0, .ref (b + p5)]) C hK hZ hP hS hl.1 ⟨Nat.le_of_ble_eq_true rfl, Nat.le_of_ble_eq_true rfl⟩ (c_X6_die hlt h) rfl rfl hk3 (by decide) rfl q_719 q_720 q_721 q_1 q_722 ⟨rfl, rfl⟩ yd_X6_die ⟨Nat.le_of_ble_eq_true rfl, Nat.le_of_ble_eq_true rfl⟩ (Nat.le_of_ble_eq_true rfl) dL_die_7 (fun E Me H locs q9 ce h hP hS hce hcv hcl => ?_) (fun v9 M1 H locs hv9 hP hS => ?_)
  · rcases h with ⟨rfl, h⟩ | ⟨rfl, h⟩ | ⟨rfl, h⟩
    · refine vx_catch (E := "java/lang/IndexOutOfBoundsException") (own := RL) (name := "java/lang/IndexOutOfBoundsException") C.2.2.2.1 (tableOf []) ⟨0, 12, 15, 13⟩ (tableOf [(0, 12, 19, 15), (0, 12, 23, 17)]) (ht.trans rfl) ((fun z hz => (List.not_mem_nil hz).elim)) (by decide) (by decide) (C.2.2.2.2 _ q_585) (va_tabs (by decide) rfl (hZ.2.2.1 (Cond.castable "java/lang/IndexOutOfBoundsException" "java/lang/IndexOutOfBoundsException") (by decide +kernel))) hce hcv hcl ?_
      refine lv_astore (lv' := [(5, .ref q9), (0, .ref (b + p1)), (1, .int p2), (2, .int p3), (3, .int p4), (4, .ref (b + p5))]) (pc := 15) hx hb dL_die_15 hl (by decide) rfl (fun ls hl => ?_)
      refine lv_iconst (v := 1) (pc := 17) hx hb dL_die_17 (by decide) ?_
      exact m_retY (m_iret (v := 1) (pc := 18) C hr hlk hP hS dL_die_18 h)
    · refine vx_catch (E := "java/lang/IllegalArgumentException") (own := RL) (name := "java/lang/IllegalArgumentException") C.2.2.2.1 (tableOf [(0, 12, 15, 13)]) ⟨0, 12, 19, 15⟩ (tableOf [(0, 12, 23, 17)]) (ht.trans rfl) (m_pass1 (C.2.2.2.2 _ q_585) hZ.2.2.2.1 (by decide +kernel : ("java/lang/IllegalArgumentException", "java/lang/IndexOutOfBoundsException") ∈ m_nc) (by decide)) (by decide) (by decide) (C.2.2.2.2 _ q_586) (va_tabs (by decide) rfl (hZ.2.2.1 (Cond.castable "java/lang/IllegalArgumentException" "java/lang/IllegalArgumentException") (by decide +kernel))) hce hcv hcl ?_
      refine lv_astore (lv' := [(5, .ref q9), (0, .ref (b + p1)), (1, .int p2), (2, .int p3), (3, .int p4), (4, .ref (b + p5))]) (pc := 19) hx hb dL_die_19 hl (by decide) rfl (fun ls hl => ?_)
      refine lv_iconst (v := 2) (pc := 21) hx hb dL_die_21 (by decide) ?_
      exact m_retY (m_iret (v := 2) (pc := 22) C hr hlk hP hS dL_die_22 h)
    · refine vx_catch (E := "java/lang/IllegalStateException") (own := RL) (name := "java/lang/IllegalStateException") C.2.2.2.1 (tableOf [(0, 12, 15, 13), (0, 12, 19, 15)]) ⟨0, 12, 23, 17⟩ (tableOf []) (ht.trans rfl) (m_pass2 (C.2.2.2.2 _ q_585) (C.2.2.2.2 _ q_586) hZ.2.2.2.1 (by decide +kernel : ("java/lang/IllegalStateException", "java/lang/IndexOutOfBoundsException") ∈ m_nc) (by decide +kernel : ("java/lang/IllegalStateException", "java/lang/IllegalArgumentException") ∈ m_nc) (by decide) (by decide)) (by decide) (by decide) (C.2.2.2.2 _ q_587) (va_tabs (by decide) rfl (hZ.2.2.1 (Cond.castable "java/lang/IllegalStateException" "java/lang/IllegalStateException") (by decide +kernel))) hce hcv hcl ?_
      refine lv_astore (lv' := [(5, .ref q9), (0, .ref (b + p1)), (1, .int p2), (2, .int p3), (3, .int p4), (4, .ref (b + p5))]) (pc := 23) hx hb dL_die_23 hl (by decide) rfl (fun ls hl => ?_)
      refine lv_iconst (v := 3) (pc := 25) hx hb dL_die_25 (by decide) ?_
      exact m_retY (m_iret (v := 3) (pc := 26) C hr hlk hP hS dL_die_26 h)
  · obtain ⟨r2, rfl, h⟩ := hv9
    refine lv_i2l (pc := 10) hx hb dL_die_10 rfl ?_
    obtain ⟨hk4, h⟩ := h
    obtain ⟨hi5, h⟩ := h
    refine m_last (pc := 11) C hK hP hS hk4 hi5 dL_die_11 (fun M6 H locs eM6 hP hS => ?_)
    replace h := h M6 eM6
    refine lv_goto (tgt := 27) (pc := 12) hx hb dL_die_12 (by decide) ?_
    refine lv_iconst (v := 0) (pc := 27) hx hb dL_die_27 (by decide) ?_
    exact m_retY (m_iret (v := 0) (pc := 28) C hr hlk hP hS dL_die_28 h)
/-! ForgeHeatsLaw.grind (LForgeHeats;I[J)I -/
def wp_L_grind (n : Nat) (M : Mem) (p1 : Nat) (p2 : Int32) (p3 : Nat) (P : Int32 → Mem → Prop) : Prop := m_tp n p1 6 ∧ (wp_X6_grind n M p1 p2 (fun r2 M1 => m_tp n p3 10 ∧ (vp_in 0 (m_len p3) ∧ (∀ M6 : Mem, M6 = uL M1 p3 (0 : Int32).toNatClampNeg ((r2).toInt64) → (P 0 M6)))) (fun E Me => (E = "java/lang/IndexOutOfBoundsException" ∧ P 1 Me) ∨ (E = "java/lang/IllegalStateException" ∧ P 2 Me)))
abbrev rm_L_grind : Room := { frames := 7, cells := 1, slots := 6, locals := 112 }
set_option maxHeartbeats 4000000 in
set_option maxRecDepth 100000 in
theorem c_L_grind {l : Launch} (hlt : l.stackTraces = false) {D : va_G} {cA : Nat → ClassId} {b n : Nat} {M : Mem} {p1 : Nat} {p2 : Int32} {p3 : Nat} {P : Int32 → Mem → Prop} (h : wp_L_grind n M p1 p2 p3 P) : m_CX l D cA b n M yL_grind (Cond.codeWith yL_grind cL_grind 4 (some .int) [(0, 9, 12, 13), (0, 9, 15, 17)]) rm_L_grind [.ref (b + p1), .int p2, .ref (b + p3)] (rI P) (fun _ _ => False) := by
  refine m_enterW (by decide) (Nat.le_of_ble_eq_true rfl) (fun p e s m below meth c C hr hlk ht hZ hK hP hS ls hl => ?_)
  have hx := C.1
  have hb := C.2.1
  have hl : lv_has ls 4 [(0, .ref (b + p1)), (1, .int p2), (2, .ref (b + p3))] := hl
  unfold wp_L_grind at h
  refine lv_aload_n (pc := 0) hx hb dL_grind_0 rfl (lv_at hl 2 rfl) ?_
  refine lv_iconst (v := 0) (pc := 1) hx hb dL_grind_1 (by decide) ?_
  refine lv_aload_n (pc := 2) hx hb dL_grind_2 rfl (lv_at hl 0 rfl) ?_
  refine lv_iload_n (pc := 3) hx hb dL_grind_3 rfl (lv_at hl 1 rfl) ?_
  obtain ⟨hk3, h⟩ := h
  refine m_callX (pc := 4) (y := yX6_grind) (κ := 6) (np := 1) (As := [.int p2]) (rest := [.int 0, .ref (b + p3)]) C hK hZ hP hS hl.1 ⟨Nat.le_of_ble_eq_true rfl, Nat.le_of_ble_eq_true rfl⟩ (c_X6_grind hlt h) rfl rfl hk3 (by decide) rfl q_730 q_731 q_732 q_1 q_733 ⟨rfl, rfl⟩ yd_X6_grind ⟨Nat.le_of_ble_eq_true rfl, Nat.le_of_ble_eq_true rfl⟩ (Nat.le_of_ble_eq_true rfl) dL_grind_4 (fun E Me H locs q9 ce h hP hS hce hcv hcl => ?_) (fun v9 M1 H locs hv9 hP hS => ?_)
  · rcases h with ⟨rfl, h⟩ | ⟨rfl, h⟩
    · refine vx_catch (E := "java/lang/IndexOutOfBoundsException") (own := RL) (name := "java/lang/IndexOutOfBoundsException") C.2.2.2.1 (tableOf []) ⟨0, 9, 12, 13⟩ (tableOf [(0, 9, 15, 17)]) (ht.trans rfl) ((fun z hz => (List.not_mem_nil hz).elim)) (by decide) (by decide) (C.2.2.2.2 _ q_585) (va_tabs (by decide) rfl (hZ.2.2.1 (Cond.castable "java/lang/IndexOutOfBoundsException" "java/lang/IndexOutOfBoundsException") (by decide +kernel))) hce hcv hcl ?_
      refine lv_astore_n (lv' := [(3, .ref q9), (0, .ref (b + p1)), (1, .int p2), (2, .ref (b + p3))]) (pc := 12) hx hb dL_grind_12 rfl hl (by decide) rfl (fun ls hl => ?_)
      refine lv_iconst (v := 1) (pc := 13) hx hb dL_grind_13 (by decide) ?_
      exact m_retY (m_iret (v := 1) (pc := 14) C hr hlk hP hS dL_grind_14 h)
    · refine vx_catch (E := "java/lang/IllegalStateException") (own := RL) (name := "java/lang/IllegalStateException") C.2.2.2.1 (tableOf [(0, 9, 12, 13)]) ⟨0, 9, 15, 17⟩ (tableOf []) (ht.trans rfl) (m_pass1 (C.2.2.2.2 _ q_585) hZ.2.2.2.1 (by decide +kernel : ("java/lang/IllegalStateException", "java/lang/IndexOutOfBoundsException") ∈ m_nc) (by decide)) (by decide) (by decide) (C.2.2.2.2 _ q_587) (va_tabs (by decide) rfl (hZ.2.2.1 (Cond.castable "java/lang/IllegalStateException" "java/lang/IllegalStateException") (by decide +kernel))) hce hcv hcl ?_
      refine lv_astore_n (lv' := [(3, .ref q9), (0, .ref (b + p1)), (1, .int p2), (2, .ref (b + p3))]) (pc := 15) hx hb dL_grind_15 rfl hl (by decide) rfl (fun ls hl => ?_)
      refine lv_iconst (v := 2) (pc := 16) hx hb dL_grind_16 (by decide) ?_
      exact m_retY (m_iret (v := 2) (pc := 17) C hr hlk hP hS dL_grind_17 h)
  · obtain ⟨r2, rfl, h⟩ := hv9
    refine lv_i2l (pc := 7) hx hb dL_grind_7 rfl ?_
    obtain ⟨hk4, h⟩ := h
    obtain ⟨hi5, h⟩ := h
    refine m_last (pc := 8) C hK hP hS hk4 hi5 dL_grind_8 (fun M6 H locs eM6 hP hS => ?_)
    replace h := h M6 eM6
    refine lv_goto (tgt := 18) (pc := 9) hx hb dL_grind_9 (by decide) ?_
    refine lv_iconst (v := 0) (pc := 18) hx hb dL_grind_18 (by decide) ?_
    exact m_retY (m_iret (v := 0) (pc := 19) C hr hlk hP hS dL_grind_19 h)
/-! ForgeHeatsLaw.job (LForgeHeats;IIIIZ[J)I -/
def wp_L_job (n : Nat) (M : Mem) (p1 : Nat) (p2 : Int32) (p3 : Int32) (p4 : Int32) (p5 : Int32) (p6 : Bool) (p7 : Nat) (P : Int32 → Mem → Prop) : Prop := m_tp n p1 6 ∧ (wp_X6_job n M p1 p2 p3 p4 p5 p6 (fun r2 M1 => m_tp n p7 10 ∧ (vp_in 0 (m_len p7) ∧ (∀ M6 : Mem, M6 = uL M1 p7 (0 : Int32).toNatClampNeg ((r2).toInt64) → (P 0 M6)))) (fun E Me => (E = "java/lang/IndexOutOfBoundsException" ∧ P 1 Me) ∨ (E = "java/lang/IllegalArgumentException" ∧ P 2 Me) ∨ (E = "java/lang/IllegalStateException" ∧ P 3 Me)))
abbrev rm_L_job : Room := { frames := 7, cells := 1, slots := 6, locals := 115 }
set_option maxHeartbeats 4000000 in
set_option maxRecDepth 100000 in
theorem c_L_job {l : Launch} (hlt : l.stackTraces = false) {D : va_G} {cA : Nat → ClassId} {b n : Nat} {M : Mem} {p1 : Nat} {p2 : Int32} {p3 : Int32} {p4 : Int32} {p5 : Int32} {p6 : Bool} {p7 : Nat} {P : Int32 → Mem → Prop} (h : wp_L_job n M p1 p2 p3 p4 p5 p6 p7 P) : m_CX l D cA b n M yL_job (Cond.codeWith yL_job cL_job 8 (some .int) [(0, 16, 19, 13), (0, 16, 23, 15), (0, 16, 27, 17)]) rm_L_job [.ref (b + p1), .int p2, .int p3, .int p4, .int p5, .int (bI p6), .ref (b + p7)] (rI P) (fun _ _ => False) := by
  refine m_enterW (by decide) (Nat.le_of_ble_eq_true rfl) (fun p e s m below meth c C hr hlk ht hZ hK hP hS ls hl => ?_)
  have hx := C.1
  have hb := C.2.1
  have hl : lv_has ls 8 [(0, .ref (b + p1)), (1, .int p2), (2, .int p3), (3, .int p4), (4, .int p5), (5, .int (bI p6)), (6, .ref (b + p7))] := hl
  unfold wp_L_job at h
  refine lv_aload (pc := 0) hx hb dL_job_0 (lv_at hl 6 rfl) ?_
  refine lv_iconst (v := 0) (pc := 2) hx hb dL_job_2 (by decide) ?_
  refine lv_aload_n (pc := 3) hx hb dL_job_3 rfl (lv_at hl 0 rfl) ?_
  refine lv_iload_n (pc := 4) hx hb dL_job_4 rfl (lv_at hl 1 rfl) ?_
  refine lv_iload_n (pc := 5) hx hb dL_job_5 rfl (lv_at hl 2 rfl) ?_
  refine lv_iload_n (pc := 6) hx hb dL_job_6 rfl (lv_at hl 3 rfl) ?_
  refine lv_iload (pc := 7) hx hb dL_job_7 (lv_at hl 4 rfl) ?_
  refine lv_iload (pc := 9) hx hb dL_job_9 (lv_at hl 5 rfl) ?_
  obtain ⟨hk3, h⟩ := h
  refine m_callX (pc := 11) (y := yX6_job) (κ := 6) (np := 5) (As := [.int p2, .int p3, .int p4, .int p5, .int (bI p6)]) (rest := [.int 0, .ref (b + p7)]) C hK hZ hP hS hl.1 ⟨Nat.le_of_ble_eq_true rfl, Nat.le_of_ble_eq_true rfl⟩ (c_X6_job hlt h) rfl rfl hk3 (by decide) rfl q_738 q_739 q_740 q_1 q_741 ⟨rfl, rfl⟩ yd_X6_job ⟨Nat.le_of_ble_eq_true rfl, Nat.le_of_ble_eq_true rfl⟩ (Nat.le_of_ble_eq_true rfl) dL_job_11 (fun E Me H locs q9 ce h hP hS hce hcv hcl => ?_) (fun v9 M1 H locs hv9 hP hS => ?_)
  · rcases h with ⟨rfl, h⟩ | ⟨rfl, h⟩ | ⟨rfl, h⟩
    · refine vx_catch (E := "java/lang/IndexOutOfBoundsException") (own := RL) (name := "java/lang/IndexOutOfBoundsException") C.2.2.2.1 (tableOf []) ⟨0, 16, 19, 13⟩ (tableOf [(0, 16, 23, 15), (0, 16, 27, 17)]) (ht.trans rfl) ((fun z hz => (List.not_mem_nil hz).elim)) (by decide) (by decide) (C.2.2.2.2 _ q_585) (va_tabs (by decide) rfl (hZ.2.2.1 (Cond.castable "java/lang/IndexOutOfBoundsException" "java/lang/IndexOutOfBoundsException") (by decide +kernel))) hce hcv hcl ?_
      refine lv_astore (lv' := [(7, .ref q9), (0, .ref (b + p1)), (1, .int p2), (2, .int p3), (3, .int p4), (4, .int p5), (5, .int (bI p6)), (6, .ref (b + p7))]) (pc := 19) hx hb dL_job_19 hl (by decide) rfl (fun ls hl => ?_)
      refine lv_iconst (v := 1) (pc := 21) hx hb dL_job_21 (by decide) ?_
      exact m_retY (m_iret (v := 1) (pc := 22) C hr hlk hP hS dL_job_22 h)
    · refine vx_catch (E := "java/lang/IllegalArgumentException") (own := RL) (name := "java/lang/IllegalArgumentException") C.2.2.2.1 (tableOf [(0, 16, 19, 13)]) ⟨0, 16, 23, 15⟩ (tableOf [(0, 16, 27, 17)]) (ht.trans rfl) (m_pass1 (C.2.2.2.2 _ q_585) hZ.2.2.2.1 (by decide +kernel : ("java/lang/IllegalArgumentException", "java/lang/IndexOutOfBoundsException") ∈ m_nc) (by decide)) (by decide) (by decide) (C.2.2.2.2 _ q_586) (va_tabs (by decide) rfl (hZ.2.2.1 (Cond.castable "java/lang/IllegalArgumentException" "java/lang/IllegalArgumentException") (by decide +kernel))) hce hcv hcl ?_
      refine lv_astore (lv' := [(7, .ref q9), (0, .ref (b + p1)), (1, .int p2), (2, .int p3), (3, .int p4), (4, .int p5), (5, .int (bI p6)), (6, .ref (b + p7))]) (pc := 23) hx hb dL_job_23 hl (by decide) rfl (fun ls hl => ?_)
      refine lv_iconst (v := 2) (pc := 25) hx hb dL_job_25 (by decide) ?_
      exact m_retY (m_iret (v := 2) (pc := 26) C hr hlk hP hS dL_job_26 h)
    · refine vx_catch (E := "java/lang/IllegalStateException") (own := RL) (name := "java/lang/IllegalStateException") C.2.2.2.1 (tableOf [(0, 16, 19, 13), (0, 16, 23, 15)]) ⟨0, 16, 27, 17⟩ (tableOf []) (ht.trans rfl) (m_pass2 (C.2.2.2.2 _ q_585) (C.2.2.2.2 _ q_586) hZ.2.2.2.1 (by decide +kernel : ("java/lang/IllegalStateException", "java/lang/IndexOutOfBoundsException") ∈ m_nc) (by decide +kernel : ("java/lang/IllegalStateException", "java/lang/IllegalArgumentException") ∈ m_nc) (by decide) (by decide)) (by decide) (by decide) (C.2.2.2.2 _ q_587) (va_tabs (by decide) rfl (hZ.2.2.1 (Cond.castable "java/lang/IllegalStateException" "java/lang/IllegalStateException") (by decide +kernel))) hce hcv hcl ?_
      refine lv_astore (lv' := [(7, .ref q9), (0, .ref (b + p1)), (1, .int p2), (2, .int p3), (3, .int p4), (4, .int p5), (5, .int (bI p6)), (6, .ref (b + p7))]) (pc := 27) hx hb dL_job_27 hl (by decide) rfl (fun ls hl => ?_)
      refine lv_iconst (v := 3) (pc := 29) hx hb dL_job_29 (by decide) ?_
      exact m_retY (m_iret (v := 3) (pc := 30) C hr hlk hP hS dL_job_30 h)
  · obtain ⟨r2, rfl, h⟩ := hv9
    refine lv_i2l (pc := 14) hx hb dL_job_14 rfl ?_
    obtain ⟨hk4, h⟩ := h
    obtain ⟨hi5, h⟩ := h
    refine m_last (pc := 15) C hK hP hS hk4 hi5 dL_job_15 (fun M6 H locs eM6 hP hS => ?_)
    replace h := h M6 eM6
    refine lv_goto (tgt := 31) (pc := 16) hx hb dL_job_16 (by decide) ?_
    refine lv_iconst (v := 0) (pc := 31) hx hb dL_job_31 (by decide) ?_
    exact m_retY (m_iret (v := 0) (pc := 32) C hr hlk hP hS dL_job_32 h)
/-! ForgeHeatsLaw.cancel (LForgeHeats;I[J)I -/
def wp_L_cancel (n : Nat) (M : Mem) (p1 : Nat) (p2 : Int32) (p3 : Nat) (P : Int32 → Mem → Prop) : Prop := m_tp n p1 6 ∧ (wp_X6_cancel n M p1 p2 (fun r2 M1 => m_tp n p3 10 ∧ (vp_in 0 (m_len p3) ∧ (∀ M6 : Mem, M6 = uL M1 p3 (0 : Int32).toNatClampNeg ((r2).toInt64) → (P 0 M6)))) (fun E Me => (E = "java/lang/IndexOutOfBoundsException" ∧ P 1 Me)))
abbrev rm_L_cancel : Room := { frames := 7, cells := 1, slots := 6, locals := 112 }
set_option maxHeartbeats 4000000 in
set_option maxRecDepth 100000 in
theorem c_L_cancel {l : Launch} (hlt : l.stackTraces = false) {D : va_G} {cA : Nat → ClassId} {b n : Nat} {M : Mem} {p1 : Nat} {p2 : Int32} {p3 : Nat} {P : Int32 → Mem → Prop} (h : wp_L_cancel n M p1 p2 p3 P) : m_CX l D cA b n M yL_cancel (Cond.codeWith yL_cancel cL_cancel 4 (some .int) [(0, 9, 12, 13)]) rm_L_cancel [.ref (b + p1), .int p2, .ref (b + p3)] (rI P) (fun _ _ => False) := by
  refine m_enterW (by decide) (Nat.le_of_ble_eq_true rfl) (fun p e s m below meth c C hr hlk ht hZ hK hP hS ls hl => ?_)
  have hx := C.1
  have hb := C.2.1
  have hl : lv_has ls 4 [(0, .ref (b + p1)), (1, .int p2), (2, .ref (b + p3))] := hl
  unfold wp_L_cancel at h
  refine lv_aload_n (pc := 0) hx hb dL_cancel_0 rfl (lv_at hl 2 rfl) ?_
  refine lv_iconst (v := 0) (pc := 1) hx hb dL_cancel_1 (by decide) ?_
  refine lv_aload_n (pc := 2) hx hb dL_cancel_2 rfl (lv_at hl 0 rfl) ?_
  refine lv_iload_n (pc := 3) hx hb dL_cancel_3 rfl (lv_at hl 1 rfl) ?_
  obtain ⟨hk3, h⟩ := h
  refine m_callX (pc := 4) (y := yX6_cancel) (κ := 6) (np := 1) (As := [.int p2]) (rest := [.int 0, .ref (b + p3)]) C hK hZ hP hS hl.1 ⟨Nat.le_of_ble_eq_true rfl, Nat.le_of_ble_eq_true rfl⟩ (c_X6_cancel hlt h) rfl rfl hk3 (by decide) rfl q_752 q_753 q_754 q_1 q_755 ⟨rfl, rfl⟩ yd_X6_cancel ⟨Nat.le_of_ble_eq_true rfl, Nat.le_of_ble_eq_true rfl⟩ (Nat.le_of_ble_eq_true rfl) dL_cancel_4 (fun E Me H locs q9 ce h hP hS hce hcv hcl => ?_) (fun v9 M1 H locs hv9 hP hS => ?_)
  · rcases h with ⟨rfl, h⟩
    · refine vx_catch (E := "java/lang/IndexOutOfBoundsException") (own := RL) (name := "java/lang/IndexOutOfBoundsException") C.2.2.2.1 (tableOf []) ⟨0, 9, 12, 13⟩ (tableOf []) (ht.trans rfl) ((fun z hz => (List.not_mem_nil hz).elim)) (by decide) (by decide) (C.2.2.2.2 _ q_585) (va_tabs (by decide) rfl (hZ.2.2.1 (Cond.castable "java/lang/IndexOutOfBoundsException" "java/lang/IndexOutOfBoundsException") (by decide +kernel))) hce hcv hcl ?_
      refine lv_astore_n (lv' := [(3, .ref q9), (0, .ref (b + p1)), (1, .int p2), (2, .ref (b + p3))]) (pc := 12) hx hb dL_cancel_12 rfl hl (by decide) rfl (fun ls hl => ?_)
      refine lv_iconst (v := 1) (pc := 13) hx hb dL_cancel_13 (by decide) ?_
      exact m_retY (m_iret (v := 1) (pc := 14) C hr hlk hP hS dL_cancel_14 h)
  · obtain ⟨r2, rfl, h⟩ := hv9
    refine lv_i2l (pc := 7) hx hb dL_cancel_7 rfl ?_
    obtain ⟨hk4, h⟩ := h
    obtain ⟨hi5, h⟩ := h
    refine m_last (pc := 8) C hK hP hS hk4 hi5 dL_cancel_8 (fun M6 H locs eM6 hP hS => ?_)
    replace h := h M6 eM6
    refine lv_goto (tgt := 15) (pc := 9) hx hb dL_cancel_9 (by decide) ?_
    refine lv_iconst (v := 0) (pc := 15) hx hb dL_cancel_15 (by decide) ?_
    exact m_retY (m_iret (v := 0) (pc := 16) C hr hlk hP hS dL_cancel_16 h)
/-! ForgeHeatsLaw.rush (LForgeHeats;IZ[J)I -/
def wp_L_rush (n : Nat) (M : Mem) (p1 : Nat) (p2 : Int32) (p3 : Bool) (p4 : Nat) (P : Int32 → Mem → Prop) : Prop := m_tp n p1 6 ∧ (wp_X6_rush n M p1 p2 p3 (fun r2 M1 => m_tp n p4 10 ∧ (vp_in 0 (m_len p4) ∧ (∀ M6 : Mem, M6 = uL M1 p4 (0 : Int32).toNatClampNeg ((r2).toInt64) → (P 0 M6)))) (fun E Me => (E = "java/lang/IndexOutOfBoundsException" ∧ P 1 Me)))
abbrev rm_L_rush : Room := { frames := 7, cells := 1, slots := 6, locals := 113 }
set_option maxHeartbeats 4000000 in
set_option maxRecDepth 100000 in
theorem c_L_rush {l : Launch} (hlt : l.stackTraces = false) {D : va_G} {cA : Nat → ClassId} {b n : Nat} {M : Mem} {p1 : Nat} {p2 : Int32} {p3 : Bool} {p4 : Nat} {P : Int32 → Mem → Prop} (h : wp_L_rush n M p1 p2 p3 p4 P) : m_CX l D cA b n M yL_rush (Cond.codeWith yL_rush cL_rush 5 (some .int) [(0, 10, 13, 13)]) rm_L_rush [.ref (b + p1), .int p2, .int (bI p3), .ref (b + p4)] (rI P) (fun _ _ => False) := by
  refine m_enterW (by decide) (Nat.le_of_ble_eq_true rfl) (fun p e s m below meth c C hr hlk ht hZ hK hP hS ls hl => ?_)
  have hx := C.1
  have hb := C.2.1
  have hl : lv_has ls 5 [(0, .ref (b + p1)), (1, .int p2), (2, .int (bI p3)), (3, .ref (b + p4))] := hl
  unfold wp_L_rush at h
  refine lv_aload_n (pc := 0) hx hb dL_rush_0 rfl (lv_at hl 3 rfl) ?_
  refine lv_iconst (v := 0) (pc := 1) hx hb dL_rush_1 (by decide) ?_
  refine lv_aload_n (pc := 2) hx hb dL_rush_2 rfl (lv_at hl 0 rfl) ?_
  refine lv_iload_n (pc := 3) hx hb dL_rush_3 rfl (lv_at hl 1 rfl) ?_
  refine lv_iload_n (pc := 4) hx hb dL_rush_4 rfl (lv_at hl 2 rfl) ?_
  obtain ⟨hk3, h⟩ := h
  refine m_callX (pc := 5) (y := yX6_rush) (κ := 6) (np := 2) (As := [.int p2, .int (bI p3)]) (rest := [.int 0, .ref (b + p4)]) C hK hZ hP hS hl.1 ⟨Nat.le_of_ble_eq_true rfl, Nat.le_of_ble_eq_true rfl⟩ (c_X6_rush hlt h) rfl rfl hk3 (by decide) rfl q_764 q_765 q_766 q_1 q_767 ⟨rfl, rfl⟩ yd_X6_rush ⟨Nat.le_of_ble_eq_true rfl, Nat.le_of_ble_eq_true rfl⟩ (Nat.le_of_ble_eq_true rfl) dL_rush_5 (fun E Me H locs q9 ce h hP hS hce hcv hcl => ?_) (fun v9 M1 H locs hv9 hP hS => ?_)
  · rcases h with ⟨rfl, h⟩
    · refine vx_catch (E := "java/lang/IndexOutOfBoundsException") (own := RL) (name := "java/lang/IndexOutOfBoundsException") C.2.2.2.1 (tableOf []) ⟨0, 10, 13, 13⟩ (tableOf []) (ht.trans rfl) ((fun z hz => (List.not_mem_nil hz).elim)) (by decide) (by decide) (C.2.2.2.2 _ q_585) (va_tabs (by decide) rfl (hZ.2.2.1 (Cond.castable "java/lang/IndexOutOfBoundsException" "java/lang/IndexOutOfBoundsException") (by decide +kernel))) hce hcv hcl ?_
      refine lv_astore (lv' := [(4, .ref q9), (0, .ref (b + p1)), (1, .int p2), (2, .int (bI p3)), (3, .ref (b + p4))]) (pc := 13) hx hb dL_rush_13 hl (by decide) rfl (fun ls hl => ?_)
      refine lv_iconst (v := 1) (pc := 15) hx hb dL_rush_15 (by decide) ?_
      exact m_retY (m_iret (v := 1) (pc := 16) C hr hlk hP hS dL_rush_16 h)
  · obtain ⟨r2, rfl, h⟩ := hv9
    refine lv_i2l (pc := 8) hx hb dL_rush_8 rfl ?_
    obtain ⟨hk4, h⟩ := h
    obtain ⟨hi5, h⟩ := h
    refine m_last (pc := 9) C hK hP hS hk4 hi5 dL_rush_9 (fun M6 H locs eM6 hP hS => ?_)
    replace h := h M6 eM6
    refine lv_goto (tgt := 17) (pc := 10) hx hb dL_rush_10 (by decide) ?_
    refine lv_iconst (v := 0) (pc := 17) hx hb dL_rush_17 (by decide) ?_
    exact m_retY (m_iret (v := 0) (pc := 18) C hr hlk hP hS dL_rush_18 h)
/-! ForgeHeatsLaw.set (LForgeHeats;II[J)I -/
def wp_L_set (n : Nat) (M : Mem) (p1 : Nat) (p2 : Int32) (p3 : Int32) (p4 : Nat) (P : Int32 → Mem → Prop) : Prop := m_tp n p1 6 ∧ (wp_X6_set n M p1 p2 p3 (fun r2 M1 => m_tp n p4 10 ∧ (vp_in 0 (m_len p4) ∧ (∀ M6 : Mem, M6 = uL M1 p4 (0 : Int32).toNatClampNeg ((r2).toInt64) → (P 0 M6)))) (fun E Me => (E = "java/lang/IndexOutOfBoundsException" ∧ P 1 Me) ∨ (E = "java/lang/IllegalArgumentException" ∧ P 2 Me)))
abbrev rm_L_set : Room := { frames := 7, cells := 1, slots := 6, locals := 113 }
set_option maxHeartbeats 4000000 in
set_option maxRecDepth 100000 in
theorem c_L_set {l : Launch} (hlt : l.stackTraces = false) {D : va_G} {cA : Nat → ClassId} {b n : Nat} {M : Mem} {p1 : Nat} {p2 : Int32} {p3 : Int32} {p4 : Nat} {P : Int32 → Mem → Prop} (h : wp_L_set n M p1 p2 p3 p4 P) : m_CX l D cA b n M yL_set (Cond.codeWith yL_set cL_set 5 (some .int) [(0, 10, 13, 13), (0, 10, 17, 15)]) rm_L_set [.ref (b + p1), .int p2, .int p3, .ref (b + p4)] (rI P) (fun _ _ => False) := by
  refine m_enterW (by decide) (Nat.le_of_ble_eq_true rfl) (fun p e s m below meth c C hr hlk ht hZ hK hP hS ls hl => ?_)
  have hx := C.1
  have hb := C.2.1
  have hl : lv_has ls 5 [(0, .ref (b + p1)), (1, .int p2), (2, .int p3), (3, .ref (b + p4))] := hl
  unfold wp_L_set at h
  refine lv_aload_n (pc := 0) hx hb dL_set_0 rfl (lv_at hl 3 rfl) ?_
  refine lv_iconst (v := 0) (pc := 1) hx hb dL_set_1 (by decide) ?_
  refine lv_aload_n (pc := 2) hx hb dL_set_2 rfl (lv_at hl 0 rfl) ?_
  refine lv_iload_n (pc := 3) hx hb dL_set_3 rfl (lv_at hl 1 rfl) ?_
  refine lv_iload_n (pc := 4) hx hb dL_set_4 rfl (lv_at hl 2 rfl) ?_
  obtain ⟨hk3, h⟩ := h
  refine m_callX (pc := 5) (y := yX6_set) (κ := 6) (np := 2) (As := [.int p2, .int p3]) (rest := [.int 0, .ref (b + p4)]) C hK hZ hP hS hl.1 ⟨Nat.le_of_ble_eq_true rfl, Nat.le_of_ble_eq_true rfl⟩ (c_X6_set hlt h) rfl rfl hk3 (by decide) rfl q_771 q_772 q_773 q_1 q_774 ⟨rfl, rfl⟩ yd_X6_set ⟨Nat.le_of_ble_eq_true rfl, Nat.le_of_ble_eq_true rfl⟩ (Nat.le_of_ble_eq_true rfl) dL_set_5 (fun E Me H locs q9 ce h hP hS hce hcv hcl => ?_) (fun v9 M1 H locs hv9 hP hS => ?_)
  · rcases h with ⟨rfl, h⟩ | ⟨rfl, h⟩
    · refine vx_catch (E := "java/lang/IndexOutOfBoundsException") (own := RL) (name := "java/lang/IndexOutOfBoundsException") C.2.2.2.1 (tableOf []) ⟨0, 10, 13, 13⟩ (tableOf [(0, 10, 17, 15)]) (ht.trans rfl) ((fun z hz => (List.not_mem_nil hz).elim)) (by decide) (by decide) (C.2.2.2.2 _ q_585) (va_tabs (by decide) rfl (hZ.2.2.1 (Cond.castable "java/lang/IndexOutOfBoundsException" "java/lang/IndexOutOfBoundsException") (by decide +kernel))) hce hcv hcl ?_
      refine lv_astore (lv' := [(4, .ref q9), (0, .ref (b + p1)), (1, .int p2), (2, .int p3), (3, .ref (b + p4))]) (pc := 13) hx hb dL_set_13 hl (by decide) rfl (fun ls hl => ?_)
      refine lv_iconst (v := 1) (pc := 15) hx hb dL_set_15 (by decide) ?_
      exact m_retY (m_iret (v := 1) (pc := 16) C hr hlk hP hS dL_set_16 h)
    · refine vx_catch (E := "java/lang/IllegalArgumentException") (own := RL) (name := "java/lang/IllegalArgumentException") C.2.2.2.1 (tableOf [(0, 10, 13, 13)]) ⟨0, 10, 17, 15⟩ (tableOf []) (ht.trans rfl) (m_pass1 (C.2.2.2.2 _ q_585) hZ.2.2.2.1 (by decide +kernel : ("java/lang/IllegalArgumentException", "java/lang/IndexOutOfBoundsException") ∈ m_nc) (by decide)) (by decide) (by decide) (C.2.2.2.2 _ q_586) (va_tabs (by decide) rfl (hZ.2.2.1 (Cond.castable "java/lang/IllegalArgumentException" "java/lang/IllegalArgumentException") (by decide +kernel))) hce hcv hcl ?_
      refine lv_astore (lv' := [(4, .ref q9), (0, .ref (b + p1)), (1, .int p2), (2, .int p3), (3, .ref (b + p4))]) (pc := 17) hx hb dL_set_17 hl (by decide) rfl (fun ls hl => ?_)
      refine lv_iconst (v := 2) (pc := 19) hx hb dL_set_19 (by decide) ?_
      exact m_retY (m_iret (v := 2) (pc := 20) C hr hlk hP hS dL_set_20 h)
  · obtain ⟨r2, rfl, h⟩ := hv9
    refine lv_i2l (pc := 8) hx hb dL_set_8 rfl ?_
    obtain ⟨hk4, h⟩ := h
    obtain ⟨hi5, h⟩ := h
    refine m_last (pc := 9) C hK hP hS hk4 hi5 dL_set_9 (fun M6 H locs eM6 hP hS => ?_)
    replace h := h M6 eM6
    refine lv_goto (tgt := 21) (pc := 10) hx hb dL_set_10 (by decide) ?_
    refine lv_iconst (v := 0) (pc := 21) hx hb dL_set_21 (by decide) ?_
    exact m_retY (m_iret (v := 0) (pc := 22) C hr hlk hP hS dL_set_22 h)
/-! ForgeHeatsLaw.pass (LForgeHeats;I[J)I -/
def wp_L_pass (n : Nat) (M : Mem) (p1 : Nat) (p2 : Int32) (p3 : Nat) (P : Int32 → Mem → Prop) : Prop := m_tp n p1 6 ∧ (wp_X6_pass n M p1 p2 (fun r2 M1 => m_tp n p3 10 ∧ (vp_in 0 (m_len p3) ∧ (∀ M6 : Mem, M6 = uL M1 p3 (0 : Int32).toNatClampNeg ((r2).toInt64) → (P 0 M6)))) (fun E Me => (E = "java/lang/IllegalArgumentException" ∧ P 1 Me) ∨ (E = "java/lang/IllegalStateException" ∧ P 2 Me)))
abbrev rm_L_pass : Room := { frames := 7, cells := 1, slots := 6, locals := 136 }
set_option maxHeartbeats 4000000 in
set_option maxRecDepth 100000 in
theorem c_L_pass {l : Launch} (hlt : l.stackTraces = false) {D : va_G} {cA : Nat → ClassId} {b n : Nat} {M : Mem} {p1 : Nat} {p2 : Int32} {p3 : Nat} {P : Int32 → Mem → Prop} (h : wp_L_pass n M p1 p2 p3 P) : m_CX l D cA b n M yL_pass (Cond.codeWith yL_pass cL_pass 4 (some .int) [(0, 9, 12, 15), (0, 9, 15, 17)]) rm_L_pass [.ref (b + p1), .int p2, .ref (b + p3)] (rI P) (fun _ _ => False) := by
  refine m_enterW (by decide) (Nat.le_of_ble_eq_true rfl) (fun p e s m below meth c C hr hlk ht hZ hK hP hS ls hl => ?_)
  have hx := C.1
  have hb := C.2.1
  have hl : lv_has ls 4 [(0, .ref (b + p1)), (1, .int p2), (2, .ref (b + p3))] := hl
  unfold wp_L_pass at h
  refine lv_aload_n (pc := 0) hx hb dL_pass_0 rfl (lv_at hl 2 rfl) ?_
  refine lv_iconst (v := 0) (pc := 1) hx hb dL_pass_1 (by decide) ?_
  refine lv_aload_n (pc := 2) hx hb dL_pass_2 rfl (lv_at hl 0 rfl) ?_
  refine lv_iload_n (pc := 3) hx hb dL_pass_3 rfl (lv_at hl 1 rfl) ?_
  obtain ⟨hk3, h⟩ := h
  refine m_callX (pc := 4) (y := yX6_pass) (κ := 6) (np := 1) (As := [.int p2]) (rest := [.int 0, .ref (b + p3)]) C hK hZ hP hS hl.1 ⟨Nat.le_of_ble_eq_true rfl, Nat.le_of_ble_eq_true rfl⟩ (c_X6_pass hlt h) rfl rfl hk3 (by decide) rfl q_790 q_791 q_792 q_1 q_793 ⟨rfl, rfl⟩ yd_X6_pass ⟨Nat.le_of_ble_eq_true rfl, Nat.le_of_ble_eq_true rfl⟩ (Nat.le_of_ble_eq_true rfl) dL_pass_4 (fun E Me H locs q9 ce h hP hS hce hcv hcl => ?_) (fun v9 M1 H locs hv9 hP hS => ?_)
  · rcases h with ⟨rfl, h⟩ | ⟨rfl, h⟩
    · refine vx_catch (E := "java/lang/IllegalArgumentException") (own := RL) (name := "java/lang/IllegalArgumentException") C.2.2.2.1 (tableOf []) ⟨0, 9, 12, 15⟩ (tableOf [(0, 9, 15, 17)]) (ht.trans rfl) ((fun z hz => (List.not_mem_nil hz).elim)) (by decide) (by decide) (C.2.2.2.2 _ q_586) (va_tabs (by decide) rfl (hZ.2.2.1 (Cond.castable "java/lang/IllegalArgumentException" "java/lang/IllegalArgumentException") (by decide +kernel))) hce hcv hcl ?_
      refine lv_astore_n (lv' := [(3, .ref q9), (0, .ref (b + p1)), (1, .int p2), (2, .ref (b + p3))]) (pc := 12) hx hb dL_pass_12 rfl hl (by decide) rfl (fun ls hl => ?_)
      refine lv_iconst (v := 1) (pc := 13) hx hb dL_pass_13 (by decide) ?_
      exact m_retY (m_iret (v := 1) (pc := 14) C hr hlk hP hS dL_pass_14 h)
    · refine vx_catch (E := "java/lang/IllegalStateException") (own := RL) (name := "java/lang/IllegalStateException") C.2.2.2.1 (tableOf [(0, 9, 12, 15)]) ⟨0, 9, 15, 17⟩ (tableOf []) (ht.trans rfl) (m_pass1 (C.2.2.2.2 _ q_586) hZ.2.2.2.1 (by decide +kernel : ("java/lang/IllegalStateException", "java/lang/IllegalArgumentException") ∈ m_nc) (by decide)) (by decide) (by decide) (C.2.2.2.2 _ q_587) (va_tabs (by decide) rfl (hZ.2.2.1 (Cond.castable "java/lang/IllegalStateException" "java/lang/IllegalStateException") (by decide +kernel))) hce hcv hcl ?_
      refine lv_astore_n (lv' := [(3, .ref q9), (0, .ref (b + p1)), (1, .int p2), (2, .ref (b + p3))]) (pc := 15) hx hb dL_pass_15 rfl hl (by decide) rfl (fun ls hl => ?_)
      refine lv_iconst (v := 2) (pc := 16) hx hb dL_pass_16 (by decide) ?_
      exact m_retY (m_iret (v := 2) (pc := 17) C hr hlk hP hS dL_pass_17 h)
  · obtain ⟨r2, rfl, h⟩ := hv9
    refine lv_i2l (pc := 7) hx hb dL_pass_7 rfl ?_
    obtain ⟨hk4, h⟩ := h
    obtain ⟨hi5, h⟩ := h
    refine m_last (pc := 8) C hK hP hS hk4 hi5 dL_pass_8 (fun M6 H locs eM6 hP hS => ?_)
    replace h := h M6 eM6
    refine lv_goto (tgt := 18) (pc := 9) hx hb dL_pass_9 (by decide) ?_
    refine lv_iconst (v := 0) (pc := 18) hx hb dL_pass_18 (by decide) ?_
    exact m_retY (m_iret (v := 0) (pc := 19) C hr hlk hP hS dL_pass_19 h)
/-! ForgeHeatsLaw.append (LForgeHeats;I[J)I -/
def wp_L_append (n : Nat) (M : Mem) (p1 : Nat) (p2 : Int32) (p3 : Nat) (P : Int32 → Mem → Prop) : Prop := m_tp n p1 6 ∧ (wp_X6_append n M p1 p2 (fun r2 M1 => m_tp n p3 10 ∧ (vp_in 0 (m_len p3) ∧ (∀ M6 : Mem, M6 = uL M1 p3 (0 : Int32).toNatClampNeg ((r2).toInt64) → (P 0 M6)))) (fun E Me => (E = "java/lang/IllegalArgumentException" ∧ P 1 Me) ∨ (E = "java/lang/IllegalStateException" ∧ P 2 Me)))
abbrev rm_L_append : Room := { frames := 7, cells := 1, slots := 6, locals := 111 }
set_option maxHeartbeats 4000000 in
set_option maxRecDepth 100000 in
theorem c_L_append {l : Launch} (hlt : l.stackTraces = false) {D : va_G} {cA : Nat → ClassId} {b n : Nat} {M : Mem} {p1 : Nat} {p2 : Int32} {p3 : Nat} {P : Int32 → Mem → Prop} (h : wp_L_append n M p1 p2 p3 P) : m_CX l D cA b n M yL_append (Cond.codeWith yL_append cL_append 4 (some .int) [(0, 9, 12, 15), (0, 9, 15, 17)]) rm_L_append [.ref (b + p1), .int p2, .ref (b + p3)] (rI P) (fun _ _ => False) := by
  refine m_enterW (by decide) (Nat.le_of_ble_eq_true rfl) (fun p e s m below meth c C hr hlk ht hZ hK hP hS ls hl => ?_)
  have hx := C.1
  have hb := C.2.1
  have hl : lv_has ls 4 [(0, .ref (b + p1)), (1, .int p2), (2, .ref (b + p3))] := hl
  unfold wp_L_append at h
  refine lv_aload_n (pc := 0) hx hb dL_append_0 rfl (lv_at hl 2 rfl) ?_
  refine lv_iconst (v := 0) (pc := 1) hx hb dL_append_1 (by decide) ?_
  refine lv_aload_n (pc := 2) hx hb dL_append_2 rfl (lv_at hl 0 rfl) ?_
  refine lv_iload_n (pc := 3) hx hb dL_append_3 rfl (lv_at hl 1 rfl) ?_
  obtain ⟨hk3, h⟩ := h
  refine m_callX (pc := 4) (y := yX6_append) (κ := 6) (np := 1) (As := [.int p2]) (rest := [.int 0, .ref (b + p3)]) C hK hZ hP hS hl.1 ⟨Nat.le_of_ble_eq_true rfl, Nat.le_of_ble_eq_true rfl⟩ (c_X6_append hlt h) rfl rfl hk3 (by decide) rfl q_799 q_800 q_801 q_1 q_802 ⟨rfl, rfl⟩ yd_X6_append ⟨Nat.le_of_ble_eq_true rfl, Nat.le_of_ble_eq_true rfl⟩ (Nat.le_of_ble_eq_true rfl) dL_append_4 (fun E Me H locs q9 ce h hP hS hce hcv hcl => ?_) (fun v9 M1 H locs hv9 hP hS => ?_)
  · rcases h with ⟨rfl, h⟩ | ⟨rfl, h⟩
    · refine vx_catch (E := "java/lang/IllegalArgumentException") (own := RL) (name := "java/lang/IllegalArgumentException") C.2.2.2.1 (tableOf []) ⟨0, 9, 12, 15⟩ (tableOf [(0, 9, 15, 17)]) (ht.trans rfl) ((fun z hz => (List.not_mem_nil hz).elim)) (by decide) (by decide) (C.2.2.2.2 _ q_586) (va_tabs (by decide) rfl (hZ.2.2.1 (Cond.castable "java/lang/IllegalArgumentException" "java/lang/IllegalArgumentException") (by decide +kernel))) hce hcv hcl ?_
      refine lv_astore_n (lv' := [(3, .ref q9), (0, .ref (b + p1)), (1, .int p2), (2, .ref (b + p3))]) (pc := 12) hx hb dL_append_12 rfl hl (by decide) rfl (fun ls hl => ?_)
      refine lv_iconst (v := 1) (pc := 13) hx hb dL_append_13 (by decide) ?_
      exact m_retY (m_iret (v := 1) (pc := 14) C hr hlk hP hS dL_append_14 h)
    · refine vx_catch (E := "java/lang/IllegalStateException") (own := RL) (name := "java/lang/IllegalStateException") C.2.2.2.1 (tableOf [(0, 9, 12, 15)]) ⟨0, 9, 15, 17⟩ (tableOf []) (ht.trans rfl) (m_pass1 (C.2.2.2.2 _ q_586) hZ.2.2.2.1 (by decide +kernel : ("java/lang/IllegalStateException", "java/lang/IllegalArgumentException") ∈ m_nc) (by decide)) (by decide) (by decide) (C.2.2.2.2 _ q_587) (va_tabs (by decide) rfl (hZ.2.2.1 (Cond.castable "java/lang/IllegalStateException" "java/lang/IllegalStateException") (by decide +kernel))) hce hcv hcl ?_
      refine lv_astore_n (lv' := [(3, .ref q9), (0, .ref (b + p1)), (1, .int p2), (2, .ref (b + p3))]) (pc := 15) hx hb dL_append_15 rfl hl (by decide) rfl (fun ls hl => ?_)
      refine lv_iconst (v := 2) (pc := 16) hx hb dL_append_16 (by decide) ?_
      exact m_retY (m_iret (v := 2) (pc := 17) C hr hlk hP hS dL_append_17 h)
  · obtain ⟨r2, rfl, h⟩ := hv9
    refine lv_i2l (pc := 7) hx hb dL_append_7 rfl ?_
    obtain ⟨hk4, h⟩ := h
    obtain ⟨hi5, h⟩ := h
    refine m_last (pc := 8) C hK hP hS hk4 hi5 dL_append_8 (fun M6 H locs eM6 hP hS => ?_)
    replace h := h M6 eM6
    refine lv_goto (tgt := 18) (pc := 9) hx hb dL_append_9 (by decide) ?_
    refine lv_iconst (v := 0) (pc := 18) hx hb dL_append_18 (by decide) ?_
    exact m_retY (m_iret (v := 0) (pc := 19) C hr hlk hP hS dL_append_19 h)
/-! ForgeHeatsLaw.addAll (LForgeHeats;[J)I -/
def wp_L_addAll (n : Nat) (M : Mem) (p1 : Nat) (p2 : Nat) (P : Int32 → Mem → Prop) : Prop := m_tp n p1 6 ∧ (wp_X6_addAll n M p1  (fun r2 M1 => m_tp n p2 10 ∧ (vp_in 0 (m_len p2) ∧ (∀ M6 : Mem, M6 = uL M1 p2 (0 : Int32).toNatClampNeg ((r2).toInt64) → (P 0 M6)))) (fun E Me => (E = "java/lang/IllegalArgumentException" ∧ P 1 Me) ∨ (E = "java/lang/IllegalStateException" ∧ P 2 Me)))
abbrev rm_L_addAll : Room := { frames := 7, cells := 1, slots := 6, locals := 127 }
set_option maxHeartbeats 4000000 in
set_option maxRecDepth 100000 in
theorem c_L_addAll {l : Launch} (hlt : l.stackTraces = false) {D : va_G} {cA : Nat → ClassId} {b n : Nat} {M : Mem} {p1 : Nat} {p2 : Nat} {P : Int32 → Mem → Prop} (h : wp_L_addAll n M p1 p2 P) : m_CX l D cA b n M yL_addAll (Cond.codeWith yL_addAll cL_addAll 3 (some .int) [(0, 8, 11, 15), (0, 8, 14, 17)]) rm_L_addAll [.ref (b + p1), .ref (b + p2)] (rI P) (fun _ _ => False) := by
  refine m_enterW (by decide) (Nat.le_of_ble_eq_true rfl) (fun p e s m below meth c C hr hlk ht hZ hK hP hS ls hl => ?_)
  have hx := C.1
  have hb := C.2.1
  have hl : lv_has ls 3 [(0, .ref (b + p1)), (1, .ref (b + p2))] := hl
  unfold wp_L_addAll at h
  refine lv_aload_n (pc := 0) hx hb dL_addAll_0 rfl (lv_at hl 1 rfl) ?_
  refine lv_iconst (v := 0) (pc := 1) hx hb dL_addAll_1 (by decide) ?_
  refine lv_aload_n (pc := 2) hx hb dL_addAll_2 rfl (lv_at hl 0 rfl) ?_
  obtain ⟨hk3, h⟩ := h
  refine m_callX (pc := 3) (y := yX6_addAll) (κ := 6) (np := 0) (As := []) (rest := [.int 0, .ref (b + p2)]) C hK hZ hP hS hl.1 ⟨Nat.le_of_ble_eq_true rfl, Nat.le_of_ble_eq_true rfl⟩ (c_X6_addAll hlt h) rfl rfl hk3 (by decide) rfl q_816 q_817 q_818 q_1 q_819 ⟨rfl, rfl⟩ yd_X6_addAll ⟨Nat.le_of_ble_eq_true rfl, Nat.le_of_ble_eq_true rfl⟩ (Nat.le_of_ble_eq_true rfl) dL_addAll_3 (fun E Me H locs q9 ce h hP hS hce hcv hcl => ?_) (fun v9 M1 H locs hv9 hP hS => ?_)
  · rcases h with ⟨rfl, h⟩ | ⟨rfl, h⟩
    · refine vx_catch (E := "java/lang/IllegalArgumentException") (own := RL) (name := "java/lang/IllegalArgumentException") C.2.2.2.1 (tableOf []) ⟨0, 8, 11, 15⟩ (tableOf [(0, 8, 14, 17)]) (ht.trans rfl) ((fun z hz => (List.not_mem_nil hz).elim)) (by decide) (by decide) (C.2.2.2.2 _ q_586) (va_tabs (by decide) rfl (hZ.2.2.1 (Cond.castable "java/lang/IllegalArgumentException" "java/lang/IllegalArgumentException") (by decide +kernel))) hce hcv hcl ?_
      refine lv_astore_n (lv' := [(2, .ref q9), (0, .ref (b + p1)), (1, .ref (b + p2))]) (pc := 11) hx hb dL_addAll_11 rfl hl (by decide) rfl (fun ls hl => ?_)
      refine lv_iconst (v := 1) (pc := 12) hx hb dL_addAll_12 (by decide) ?_
      exact m_retY (m_iret (v := 1) (pc := 13) C hr hlk hP hS dL_addAll_13 h)
    · refine vx_catch (E := "java/lang/IllegalStateException") (own := RL) (name := "java/lang/IllegalStateException") C.2.2.2.1 (tableOf [(0, 8, 11, 15)]) ⟨0, 8, 14, 17⟩ (tableOf []) (ht.trans rfl) (m_pass1 (C.2.2.2.2 _ q_586) hZ.2.2.2.1 (by decide +kernel : ("java/lang/IllegalStateException", "java/lang/IllegalArgumentException") ∈ m_nc) (by decide)) (by decide) (by decide) (C.2.2.2.2 _ q_587) (va_tabs (by decide) rfl (hZ.2.2.1 (Cond.castable "java/lang/IllegalStateException" "java/lang/IllegalStateException") (by decide +kernel))) hce hcv hcl ?_
      refine lv_astore_n (lv' := [(2, .ref q9), (0, .ref (b + p1)), (1, .ref (b + p2))]) (pc := 14) hx hb dL_addAll_14 rfl hl (by decide) rfl (fun ls hl => ?_)
      refine lv_iconst (v := 2) (pc := 15) hx hb dL_addAll_15 (by decide) ?_
      exact m_retY (m_iret (v := 2) (pc := 16) C hr hlk hP hS dL_addAll_16 h)
  · obtain ⟨r2, rfl, h⟩ := hv9
    refine lv_i2l (pc := 6) hx hb dL_addAll_6 rfl ?_
    obtain ⟨hk4, h⟩ := h
    obtain ⟨hi5, h⟩ := h
    refine m_last (pc := 7) C hK hP hS hk4 hi5 dL_addAll_7 (fun M6 H locs eM6 hP hS => ?_)
    replace h := h M6 eM6
    refine lv_goto (tgt := 17) (pc := 8) hx hb dL_addAll_8 (by decide) ?_
    refine lv_iconst (v := 0) (pc := 17) hx hb dL_addAll_17 (by decide) ?_
    exact m_retY (m_iret (v := 0) (pc := 18) C hr hlk hP hS dL_addAll_18 h)
/-! ForgeHeatsLaw.undo (LForgeHeats;[J)I -/
def wp_L_undo (n : Nat) (M : Mem) (p1 : Nat) (p2 : Nat) (P : Int32 → Mem → Prop) : Prop := m_tp n p1 6 ∧ (wp_X6_undo n M p1  (fun r2 M1 => m_tp n p2 10 ∧ (vp_in 0 (m_len p2) ∧ (∀ M6 : Mem, M6 = uL M1 p2 (0 : Int32).toNatClampNeg ((r2).toInt64) → (P 0 M6)))) (fun E Me => (E = "java/lang/IllegalStateException" ∧ P 1 Me)))
abbrev rm_L_undo : Room := { frames := 7, cells := 1, slots := 6, locals := 111 }
set_option maxHeartbeats 4000000 in
set_option maxRecDepth 100000 in
theorem c_L_undo {l : Launch} (hlt : l.stackTraces = false) {D : va_G} {cA : Nat → ClassId} {b n : Nat} {M : Mem} {p1 : Nat} {p2 : Nat} {P : Int32 → Mem → Prop} (h : wp_L_undo n M p1 p2 P) : m_CX l D cA b n M yL_undo (Cond.codeWith yL_undo cL_undo 3 (some .int) [(0, 8, 11, 17)]) rm_L_undo [.ref (b + p1), .ref (b + p2)] (rI P) (fun _ _ => False) := by
  refine m_enterW (by decide) (Nat.le_of_ble_eq_true rfl) (fun p e s m below meth c C hr hlk ht hZ hK hP hS ls hl => ?_)
  have hx := C.1
  have hb := C.2.1
  have hl : lv_has ls 3 [(0, .ref (b + p1)), (1, .ref (b + p2))] := hl
  unfold wp_L_undo at h
  refine lv_aload_n (pc := 0) hx hb dL_undo_0 rfl (lv_at hl 1 rfl) ?_
  refine lv_iconst (v := 0) (pc := 1) hx hb dL_undo_1 (by decide) ?_
  refine lv_aload_n (pc := 2) hx hb dL_undo_2 rfl (lv_at hl 0 rfl) ?_
  obtain ⟨hk3, h⟩ := h
  refine m_callX (pc := 3) (y := yX6_undo) (κ := 6) (np := 0) (As := []) (rest := [.int 0, .ref (b + p2)]) C hK hZ hP hS hl.1 ⟨Nat.le_of_ble_eq_true rfl, Nat.le_of_ble_eq_true rfl⟩ (c_X6_undo hlt h) rfl rfl hk3 (by decide) rfl q_838 q_839 q_840 q_1 q_841 ⟨rfl, rfl⟩ yd_X6_undo ⟨Nat.le_of_ble_eq_true rfl, Nat.le_of_ble_eq_true rfl⟩ (Nat.le_of_ble_eq_true rfl) dL_undo_3 (fun E Me H locs q9 ce h hP hS hce hcv hcl => ?_) (fun v9 M1 H locs hv9 hP hS => ?_)
  · rcases h with ⟨rfl, h⟩
    · refine vx_catch (E := "java/lang/IllegalStateException") (own := RL) (name := "java/lang/IllegalStateException") C.2.2.2.1 (tableOf []) ⟨0, 8, 11, 17⟩ (tableOf []) (ht.trans rfl) ((fun z hz => (List.not_mem_nil hz).elim)) (by decide) (by decide) (C.2.2.2.2 _ q_587) (va_tabs (by decide) rfl (hZ.2.2.1 (Cond.castable "java/lang/IllegalStateException" "java/lang/IllegalStateException") (by decide +kernel))) hce hcv hcl ?_
      refine lv_astore_n (lv' := [(2, .ref q9), (0, .ref (b + p1)), (1, .ref (b + p2))]) (pc := 11) hx hb dL_undo_11 rfl hl (by decide) rfl (fun ls hl => ?_)
      refine lv_iconst (v := 1) (pc := 12) hx hb dL_undo_12 (by decide) ?_
      exact m_retY (m_iret (v := 1) (pc := 13) C hr hlk hP hS dL_undo_13 h)
  · obtain ⟨r2, rfl, h⟩ := hv9
    refine lv_i2l (pc := 6) hx hb dL_undo_6 rfl ?_
    obtain ⟨hk4, h⟩ := h
    obtain ⟨hi5, h⟩ := h
    refine m_last (pc := 7) C hK hP hS hk4 hi5 dL_undo_7 (fun M6 H locs eM6 hP hS => ?_)
    replace h := h M6 eM6
    refine lv_goto (tgt := 14) (pc := 8) hx hb dL_undo_8 (by decide) ?_
    refine lv_iconst (v := 0) (pc := 14) hx hb dL_undo_14 (by decide) ?_
    exact m_retY (m_iret (v := 0) (pc := 15) C hr hlk hP hS dL_undo_15 h)
/-! ForgeHeatsLaw.heat (LForgeHeats;II[J)I -/
def wp_L_heat (n : Nat) (M : Mem) (p1 : Nat) (p2 : Int32) (p3 : Int32) (p4 : Nat) (P : Int32 → Mem → Prop) : Prop := m_tp n p1 6 ∧ (wp_X6_heat n M p1 p2 p3 (fun r2 M1 => m_tp n p4 10 ∧ (vp_in 0 (m_len p4) ∧ (∀ M6 : Mem, M6 = uL M1 p4 (0 : Int32).toNatClampNeg ((r2).toInt64) → (P 0 M6)))) (fun E Me => (E = "java/lang/IndexOutOfBoundsException" ∧ P 1 Me) ∨ (E = "java/lang/IllegalArgumentException" ∧ P 2 Me)))
abbrev rm_L_heat : Room := { frames := 7, cells := 1, slots := 6, locals := 112 }
set_option maxHeartbeats 4000000 in
set_option maxRecDepth 100000 in
theorem c_L_heat {l : Launch} (hlt : l.stackTraces = false) {D : va_G} {cA : Nat → ClassId} {b n : Nat} {M : Mem} {p1 : Nat} {p2 : Int32} {p3 : Int32} {p4 : Nat} {P : Int32 → Mem → Prop} (h : wp_L_heat n M p1 p2 p3 p4 P) : m_CX l D cA b n M yL_heat (Cond.codeWith yL_heat cL_heat 5 (some .int) [(0, 10, 13, 13), (0, 10, 17, 15)]) rm_L_heat [.ref (b + p1), .int p2, .int p3, .ref (b + p4)] (rI P) (fun _ _ => False) := by
  refine m_enterW (by decide) (Nat.le_of_ble_eq_true rfl) (fun p e s m below meth c C hr hlk ht hZ hK hP hS ls hl => ?_)
  have hx := C.1
  have hb := C.2.1
  have hl : lv_has ls 5 [(0, .ref (b + p1)), (1, .int p2), (2, .int p3), (3, .ref (b + p4))] := hl
  unfold wp_L_heat at h
  refine lv_aload_n (pc := 0) hx hb dL_heat_0 rfl (lv_at hl 3 rfl) ?_
  refine lv_iconst (v := 0) (pc := 1) hx hb dL_heat_1 (by decide) ?_
  refine lv_aload_n (pc := 2) hx hb dL_heat_2 rfl (lv_at hl 0 rfl) ?_
  refine lv_iload_n (pc := 3) hx hb dL_heat_3 rfl (lv_at hl 1 rfl) ?_
  refine lv_iload_n (pc := 4) hx hb dL_heat_4 rfl (lv_at hl 2 rfl) ?_
  obtain ⟨hk3, h⟩ := h
  refine m_callX (pc := 5) (y := yX6_heat) (κ := 6) (np := 2) (As := [.int p2, .int p3]) (rest := [.int 0, .ref (b + p4)]) C hK hZ hP hS hl.1 ⟨Nat.le_of_ble_eq_true rfl, Nat.le_of_ble_eq_true rfl⟩ (c_X6_heat hlt h) rfl rfl hk3 (by decide) rfl q_846 q_847 q_848 q_1 q_849 ⟨rfl, rfl⟩ yd_X6_heat ⟨Nat.le_of_ble_eq_true rfl, Nat.le_of_ble_eq_true rfl⟩ (Nat.le_of_ble_eq_true rfl) dL_heat_5 (fun E Me H locs q9 ce h hP hS hce hcv hcl => ?_) (fun v9 M1 H locs hv9 hP hS => ?_)
  · rcases h with ⟨rfl, h⟩ | ⟨rfl, h⟩
    · refine vx_catch (E := "java/lang/IndexOutOfBoundsException") (own := RL) (name := "java/lang/IndexOutOfBoundsException") C.2.2.2.1 (tableOf []) ⟨0, 10, 13, 13⟩ (tableOf [(0, 10, 17, 15)]) (ht.trans rfl) ((fun z hz => (List.not_mem_nil hz).elim)) (by decide) (by decide) (C.2.2.2.2 _ q_585) (va_tabs (by decide) rfl (hZ.2.2.1 (Cond.castable "java/lang/IndexOutOfBoundsException" "java/lang/IndexOutOfBoundsException") (by decide +kernel))) hce hcv hcl ?_
      refine lv_astore (lv' := [(4, .ref q9), (0, .ref (b + p1)), (1, .int p2), (2, .int p3), (3, .ref (b + p4))]) (pc := 13) hx hb dL_heat_13 hl (by decide) rfl (fun ls hl => ?_)
      refine lv_iconst (v := 1) (pc := 15) hx hb dL_heat_15 (by decide) ?_
      exact m_retY (m_iret (v := 1) (pc := 16) C hr hlk hP hS dL_heat_16 h)
    · refine vx_catch (E := "java/lang/IllegalArgumentException") (own := RL) (name := "java/lang/IllegalArgumentException") C.2.2.2.1 (tableOf [(0, 10, 13, 13)]) ⟨0, 10, 17, 15⟩ (tableOf []) (ht.trans rfl) (m_pass1 (C.2.2.2.2 _ q_585) hZ.2.2.2.1 (by decide +kernel : ("java/lang/IllegalArgumentException", "java/lang/IndexOutOfBoundsException") ∈ m_nc) (by decide)) (by decide) (by decide) (C.2.2.2.2 _ q_586) (va_tabs (by decide) rfl (hZ.2.2.1 (Cond.castable "java/lang/IllegalArgumentException" "java/lang/IllegalArgumentException") (by decide +kernel))) hce hcv hcl ?_
      refine lv_astore (lv' := [(4, .ref q9), (0, .ref (b + p1)), (1, .int p2), (2, .int p3), (3, .ref (b + p4))]) (pc := 17) hx hb dL_heat_17 hl (by decide) rfl (fun ls hl => ?_)
      refine lv_iconst (v := 2) (pc := 19) hx hb dL_heat_19 (by decide) ?_
      exact m_retY (m_iret (v := 2) (pc := 20) C hr hlk hP hS dL_heat_20 h)
  · obtain ⟨r2, rfl, h⟩ := hv9
    refine lv_i2l (pc := 8) hx hb dL_heat_8 rfl ?_
    obtain ⟨hk4, h⟩ := h
    obtain ⟨hi5, h⟩ := h
    refine m_last (pc := 9) C hK hP hS hk4 hi5 dL_heat_9 (fun M6 H locs eM6 hP hS => ?_)
    replace h := h M6 eM6
    refine lv_goto (tgt := 21) (pc := 10) hx hb dL_heat_10 (by decide) ?_
    refine lv_iconst (v := 0) (pc := 21) hx hb dL_heat_21 (by decide) ?_
    exact m_retY (m_iret (v := 0) (pc := 22) C hr hlk hP hS dL_heat_22 h)
/-! ForgeHeatsLaw.dieOf (LForgeHeats;II[J)I -/
def wp_L_dieOf (n : Nat) (M : Mem) (p1 : Nat) (p2 : Int32) (p3 : Int32) (p4 : Nat) (P : Int32 → Mem → Prop) : Prop := m_tp n p1 6 ∧ (wp_X6_dieOf n M p1 p2 p3 (fun r2 M1 => m_tp n p4 10 ∧ (vp_in 0 (m_len p4) ∧ (∀ M6 : Mem, M6 = uL M1 p4 (0 : Int32).toNatClampNeg ((r2).toInt64) → (P 0 M6)))) (fun E Me => (E = "java/lang/IndexOutOfBoundsException" ∧ P 1 Me) ∨ (E = "java/lang/IllegalArgumentException" ∧ P 2 Me)))
abbrev rm_L_dieOf : Room := { frames := 7, cells := 1, slots := 6, locals := 112 }
set_option maxHeartbeats 4000000 in
set_option maxRecDepth 100000 in
theorem c_L_dieOf {l : Launch} (hlt : l.stackTraces = false) {D : va_G} {cA : Nat → ClassId} {b n : Nat} {M : Mem} {p1 : Nat} {p2 : Int32} {p3 : Int32} {p4 : Nat} {P : Int32 → Mem → Prop} (h : wp_L_dieOf n M p1 p2 p3 p4 P) : m_CX l D cA b n M yL_dieOf (Cond.codeWith yL_dieOf cL_dieOf 5 (some .int) [(0, 10, 13, 13), (0, 10, 17, 15)]) rm_L_dieOf [.ref (b + p1), .int p2, .int p3, .ref (b + p4)] (rI P) (fun _ _ => False) := by
  refine m_enterW (by decide) (Nat.le_of_ble_eq_true rfl) (fun p e s m below meth c C hr hlk ht hZ hK hP hS ls hl => ?_)
  have hx := C.1
  have hb := C.2.1
  have hl : lv_has ls 5 [(0, .ref (b + p1)), (1, .int p2), (2, .int p3), (3, .ref (b + p4))] := hl
  unfold wp_L_dieOf at h
  refine lv_aload_n (pc := 0) hx hb dL_dieOf_0 rfl (lv_at hl 3 rfl) ?_
  refine lv_iconst (v := 0) (pc := 1) hx hb dL_dieOf_1 (by decide) ?_
  refine lv_aload_n (pc := 2) hx hb dL_dieOf_2 rfl (lv_at hl 0 rfl) ?_
  refine lv_iload_n (pc := 3) hx hb dL_dieOf_3 rfl (lv_at hl 1 rfl) ?_
  refine lv_iload_n (pc := 4) hx hb dL_dieOf_4 rfl (lv_at hl 2 rfl) ?_
  obtain ⟨hk3, h⟩ := h
  refine m_callX (pc := 5) (y := yX6_dieOf) (κ := 6) (np := 2) (As := [.int p2, .int p3]) (rest := [.int 0, .ref (b + p4)]) C hK hZ hP hS hl.1 ⟨Nat.le_of_ble_eq_true rfl, Nat.le_of_ble_eq_true rfl⟩ (c_X6_dieOf hlt h) rfl rfl hk3 (by decide) rfl q_854 q_855 q_856 q_1 q_857 ⟨rfl, rfl⟩ yd_X6_dieOf ⟨Nat.le_of_ble_eq_true rfl, Nat.le_of_ble_eq_true rfl⟩ (Nat.le_of_ble_eq_true rfl) dL_dieOf_5 (fun E Me H locs q9 ce h hP hS hce hcv hcl => ?_) (fun v9 M1 H locs hv9 hP hS => ?_)
  · rcases h with ⟨rfl, h⟩ | ⟨rfl, h⟩
    · refine vx_catch (E := "java/lang/IndexOutOfBoundsException") (own := RL) (name := "java/lang/IndexOutOfBoundsException") C.2.2.2.1 (tableOf []) ⟨0, 10, 13, 13⟩ (tableOf [(0, 10, 17, 15)]) (ht.trans rfl) ((fun z hz => (List.not_mem_nil hz).elim)) (by decide) (by decide) (C.2.2.2.2 _ q_585) (va_tabs (by decide) rfl (hZ.2.2.1 (Cond.castable "java/lang/IndexOutOfBoundsException" "java/lang/IndexOutOfBoundsException") (by decide +kernel))) hce hcv hcl ?_
      refine lv_astore (lv' := [(4, .ref q9), (0, .ref (b + p1)), (1, .int p2), (2, .int p3), (3, .ref (b + p4))]) (pc := 13) hx hb dL_dieOf_13 hl (by decide) rfl (fun ls hl => ?_)
      refine lv_iconst (v := 1) (pc := 15) hx hb dL_dieOf_15 (by decide) ?_
      exact m_retY (m_iret (v := 1) (pc := 16) C hr hlk hP hS dL_dieOf_16 h)
    · refine vx_catch (E := "java/lang/IllegalArgumentException") (own := RL) (name := "java/lang/IllegalArgumentException") C.2.2.2.1 (tableOf [(0, 10, 13, 13)]) ⟨0, 10, 17, 15⟩ (tableOf []) (ht.trans rfl) (m_pass1 (C.2.2.2.2 _ q_585) hZ.2.2.2.1 (by decide +kernel : ("java/lang/IllegalArgumentException", "java/lang/IndexOutOfBoundsException") ∈ m_nc) (by decide)) (by decide) (by decide) (C.2.2.2.2 _ q_586) (va_tabs (by decide) rfl (hZ.2.2.1 (Cond.castable "java/lang/IllegalArgumentException" "java/lang/IllegalArgumentException") (by decide +kernel))) hce hcv hcl ?_
      refine lv_astore (lv' := [(4, .ref q9), (0, .ref (b + p1)), (1, .int p2), (2, .int p3), (3, .ref (b + p4))]) (pc := 17) hx hb dL_dieOf_17 hl (by decide) rfl (fun ls hl => ?_)
      refine lv_iconst (v := 2) (pc := 19) hx hb dL_dieOf_19 (by decide) ?_
      exact m_retY (m_iret (v := 2) (pc := 20) C hr hlk hP hS dL_dieOf_20 h)
  · obtain ⟨r2, rfl, h⟩ := hv9
    refine lv_i2l (pc := 8) hx hb dL_dieOf_8 rfl ?_
    obtain ⟨hk4, h⟩ := h
    obtain ⟨hi5, h⟩ := h
    refine m_last (pc := 9) C hK hP hS hk4 hi5 dL_dieOf_9 (fun M6 H locs eM6 hP hS => ?_)
    replace h := h M6 eM6
    refine lv_goto (tgt := 21) (pc := 10) hx hb dL_dieOf_10 (by decide) ?_
    refine lv_iconst (v := 0) (pc := 21) hx hb dL_dieOf_21 (by decide) ?_
    exact m_retY (m_iret (v := 0) (pc := 22) C hr hlk hP hS dL_dieOf_22 h)
/-! ForgeHeatsLaw.jobOf (LForgeHeats;II[J)I -/
def wp_L_jobOf (n : Nat) (M : Mem) (p1 : Nat) (p2 : Int32) (p3 : Int32) (p4 : Nat) (P : Int32 → Mem → Prop) : Prop := m_tp n p1 6 ∧ (wp_X6_jobOf n M p1 p2 p3 (fun r2 M1 => m_tp n p4 10 ∧ (vp_in 0 (m_len p4) ∧ (∀ M6 : Mem, M6 = uL M1 p4 (0 : Int32).toNatClampNeg ((r2).toInt64) → (P 0 M6)))) (fun E Me => (E = "java/lang/IllegalArgumentException" ∧ P 1 Me)))
abbrev rm_L_jobOf : Room := { frames := 7, cells := 1, slots := 6, locals := 116 }
set_option maxHeartbeats 4000000 in
set_option maxRecDepth 100000 in
theorem c_L_jobOf {l : Launch} (hlt : l.stackTraces = false) {D : va_G} {cA : Nat → ClassId} {b n : Nat} {M : Mem} {p1 : Nat} {p2 : Int32} {p3 : Int32} {p4 : Nat} {P : Int32 → Mem → Prop} (h : wp_L_jobOf n M p1 p2 p3 p4 P) : m_CX l D cA b n M yL_jobOf (Cond.codeWith yL_jobOf cL_jobOf 5 (some .int) [(0, 10, 13, 15)]) rm_L_jobOf [.ref (b + p1), .int p2, .int p3, .ref (b + p4)] (rI P) (fun _ _ => False) := by
  refine m_enterW (by decide) (Nat.le_of_ble_eq_true rfl) (fun p e s m below meth c C hr hlk ht hZ hK hP hS ls hl => ?_)
  have hx := C.1
  have hb := C.2.1
  have hl : lv_has ls 5 [(0, .ref (b + p1)), (1, .int p2), (2, .int p3), (3, .ref (b + p4))] := hl
  unfold wp_L_jobOf at h
  refine lv_aload_n (pc := 0) hx hb dL_jobOf_0 rfl (lv_at hl 3 rfl) ?_
  refine lv_iconst (v := 0) (pc := 1) hx hb dL_jobOf_1 (by decide) ?_
  refine lv_aload_n (pc := 2) hx hb dL_jobOf_2 rfl (lv_at hl 0 rfl) ?_
  refine lv_iload_n (pc := 3) hx hb dL_jobOf_3 rfl (lv_at hl 1 rfl) ?_
  refine lv_iload_n (pc := 4) hx hb dL_jobOf_4 rfl (lv_at hl 2 rfl) ?_
  obtain ⟨hk3, h⟩ := h
  refine m_callX (pc := 5) (y := yX6_jobOf) (κ := 6) (np := 2) (As := [.int p2, .int p3]) (rest := [.int 0, .ref (b + p4)]) C hK hZ hP hS hl.1 ⟨Nat.le_of_ble_eq_true rfl, Nat.le_of_ble_eq_true rfl⟩ (c_X6_jobOf hlt h) rfl rfl hk3 (by decide) rfl q_861 q_862 q_863 q_1 q_864 ⟨rfl, rfl⟩ yd_X6_jobOf ⟨Nat.le_of_ble_eq_true rfl, Nat.le_of_ble_eq_true rfl⟩ (Nat.le_of_ble_eq_true rfl) dL_jobOf_5 (fun E Me H locs q9 ce h hP hS hce hcv hcl => ?_) (fun v9 M1 H locs hv9 hP hS => ?_)
  · rcases h with ⟨rfl, h⟩
    · refine vx_catch (E := "java/lang/IllegalArgumentException") (own := RL) (name := "java/lang/IllegalArgumentException") C.2.2.2.1 (tableOf []) ⟨0, 10, 13, 15⟩ (tableOf []) (ht.trans rfl) ((fun z hz => (List.not_mem_nil hz).elim)) (by decide) (by decide) (C.2.2.2.2 _ q_586) (va_tabs (by decide) rfl (hZ.2.2.1 (Cond.castable "java/lang/IllegalArgumentException" "java/lang/IllegalArgumentException") (by decide +kernel))) hce hcv hcl ?_
      refine lv_astore (lv' := [(4, .ref q9), (0, .ref (b + p1)), (1, .int p2), (2, .int p3), (3, .ref (b + p4))]) (pc := 13) hx hb dL_jobOf_13 hl (by decide) rfl (fun ls hl => ?_)
      refine lv_iconst (v := 1) (pc := 15) hx hb dL_jobOf_15 (by decide) ?_
      exact m_retY (m_iret (v := 1) (pc := 16) C hr hlk hP hS dL_jobOf_16 h)
  · obtain ⟨r2, rfl, h⟩ := hv9
    refine lv_i2l (pc := 8) hx hb dL_jobOf_8 rfl ?_
    obtain ⟨hk4, h⟩ := h
    obtain ⟨hi5, h⟩ := h
    refine m_last (pc := 9) C hK hP hS hk4 hi5 dL_jobOf_9 (fun M6 H locs eM6 hP hS => ?_)
    replace h := h M6 eM6
    refine lv_goto (tgt := 17) (pc := 10) hx hb dL_jobOf_10 (by decide) ?_
    refine lv_iconst (v := 0) (pc := 17) hx hb dL_jobOf_17 (by decide) ?_
    exact m_retY (m_iret (v := 0) (pc := 18) C hr hlk hP hS dL_jobOf_18 h)
/-! ForgeHeatsLaw.billet (LForgeHeats;II[J)I -/
def wp_L_billet (n : Nat) (M : Mem) (p1 : Nat) (p2 : Int32) (p3 : Int32) (p4 : Nat) (P : Int32 → Mem → Prop) : Prop := m_tp n p1 6 ∧ (wp_X6_billet n M p1 p2 p3 (fun r2 M1 => m_tp n p4 10 ∧ (vp_in 0 (m_len p4) ∧ (∀ M6 : Mem, M6 = uL M1 p4 (0 : Int32).toNatClampNeg ((r2).toInt64) → (P 0 M6)))) (fun E Me => (E = "java/lang/IndexOutOfBoundsException" ∧ P 1 Me) ∨ (E = "java/lang/IllegalArgumentException" ∧ P 2 Me)))
abbrev rm_L_billet : Room := { frames := 7, cells := 1, slots := 6, locals := 112 }
set_option maxHeartbeats 4000000 in
set_option maxRecDepth 100000 in
theorem c_L_billet {l : Launch} (hlt : l.stackTraces = false) {D : va_G} {cA : Nat → ClassId} {b n : Nat} {M : Mem} {p1 : Nat} {p2 : Int32} {p3 : Int32} {p4 : Nat} {P : Int32 → Mem → Prop} (h : wp_L_billet n M p1 p2 p3 p4 P) : m_CX l D cA b n M yL_billet (Cond.codeWith yL_billet cL_billet 5 (some .int) [(0, 10, 13, 13), (0, 10, 17, 15)]) rm_L_billet [.ref (b + p1), .int p2, .int p3, .ref (b + p4)] (rI P) (fun _ _ => False) := by
  refine m_enterW (by decide) (Nat.le_of_ble_eq_true rfl) (fun p e s m below meth c C hr hlk ht hZ hK hP hS ls hl => ?_)
  have hx := C.1
  have hb := C.2.1
  have hl : lv_has ls 5 [(0, .ref (b + p1)), (1, .int p2), (2, .int p3), (3, .ref (b + p4))] := hl
  unfold wp_L_billet at h
  refine lv_aload_n (pc := 0) hx hb dL_billet_0 rfl (lv_at hl 3 rfl) ?_
  refine lv_iconst (v := 0) (pc := 1) hx hb dL_billet_1 (by decide) ?_
  refine lv_aload_n (pc := 2) hx hb dL_billet_2 rfl (lv_at hl 0 rfl) ?_
  refine lv_iload_n (pc := 3) hx hb dL_billet_3 rfl (lv_at hl 1 rfl) ?_
  refine lv_iload_n (pc := 4) hx hb dL_billet_4 rfl (lv_at hl 2 rfl) ?_
  obtain ⟨hk3, h⟩ := h
  refine m_callX (pc := 5) (y := yX6_billet) (κ := 6) (np := 2) (As := [.int p2, .int p3]) (rest := [.int 0, .ref (b + p4)]) C hK hZ hP hS hl.1 ⟨Nat.le_of_ble_eq_true rfl, Nat.le_of_ble_eq_true rfl⟩ (c_X6_billet hlt h) rfl rfl hk3 (by decide) rfl q_869 q_870 q_871 q_1 q_872 ⟨rfl, rfl⟩ yd_X6_billet ⟨Nat.le_of_ble_eq_true rfl, Nat.le_of_ble_eq_true rfl⟩ (Nat.le_of_ble_eq_true rfl) dL_billet_5 (fun E Me H locs q9 ce h hP hS hce hcv hcl => ?_) (fun v9 M1 H locs hv9 hP hS => ?_)
  · rcases h with ⟨rfl, h⟩ | ⟨rfl, h⟩
    · refine vx_catch (E := "java/lang/IndexOutOfBoundsException") (own := RL) (name := "java/lang/IndexOutOfBoundsException") C.2.2.2.1 (tableOf []) ⟨0, 10, 13, 13⟩ (tableOf [(0, 10, 17, 15)]) (ht.trans rfl) ((fun z hz => (List.not_mem_nil hz).elim)) (by decide) (by decide) (C.2.2.2.2 _ q_585) (va_tabs (by decide) rfl (hZ.2.2.1 (Cond.castable "java/lang/IndexOutOfBoundsException" "java/lang/IndexOutOfBoundsException") (by decide +kernel))) hce hcv hcl ?_
      refine lv_astore (lv' := [(4, .ref q9), (0, .ref (b + p1)), (1, .int p2), (2, .int p3), (3, .ref (b + p4))]) (pc := 13) hx hb dL_billet_13 hl (by decide) rfl (fun ls hl => ?_)
      refine lv_iconst (v := 1) (pc := 15) hx hb dL_billet_15 (by decide) ?_
      exact m_retY (m_iret (v := 1) (pc := 16) C hr hlk hP hS dL_billet_16 h)
    · refine vx_catch (E := "java/lang/IllegalArgumentException") (own := RL) (name := "java/lang/IllegalArgumentException") C.2.2.2.1 (tableOf [(0, 10, 13, 13)]) ⟨0, 10, 17, 15⟩ (tableOf []) (ht.trans rfl) (m_pass1 (C.2.2.2.2 _ q_585) hZ.2.2.2.1 (by decide +kernel : ("java/lang/IllegalArgumentException", "java/lang/IndexOutOfBoundsException") ∈ m_nc) (by decide)) (by decide) (by decide) (C.2.2.2.2 _ q_586) (va_tabs (by decide) rfl (hZ.2.2.1 (Cond.castable "java/lang/IllegalArgumentException" "java/lang/IllegalArgumentException") (by decide +kernel))) hce hcv hcl ?_
      refine lv_astore (lv' := [(4, .ref q9), (0, .ref (b + p1)), (1, .int p2), (2, .int p3), (3, .ref (b + p4))]) (pc := 17) hx hb dL_billet_17 hl (by decide) rfl (fun ls hl => ?_)
      refine lv_iconst (v := 2) (pc := 19) hx hb dL_billet_19 (by decide) ?_
      exact m_retY (m_iret (v := 2) (pc := 20) C hr hlk hP hS dL_billet_20 h)
  · obtain ⟨r2, rfl, h⟩ := hv9
    refine lv_i2l (pc := 8) hx hb dL_billet_8 rfl ?_
    obtain ⟨hk4, h⟩ := h
    obtain ⟨hi5, h⟩ := h
    refine m_last (pc := 9) C hK hP hS hk4 hi5 dL_billet_9 (fun M6 H locs eM6 hP hS => ?_)
    replace h := h M6 eM6
    refine lv_goto (tgt := 21) (pc := 10) hx hb dL_billet_10 (by decide) ?_
    refine lv_iconst (v := 0) (pc := 21) hx hb dL_billet_21 (by decide) ?_
    exact m_retY (m_iret (v := 0) (pc := 22) C hr hlk hP hS dL_billet_22 h)
/-! ForgeHeatsLaw.count (LForgeHeats;I[J)I -/
def wp_L_count (n : Nat) (M : Mem) (p1 : Nat) (p2 : Int32) (p3 : Nat) (P : Int32 → Mem → Prop) : Prop := m_tp n p1 6 ∧ (wp_X6_count n M p1 p2 (fun r2 M1 => m_tp n p3 10 ∧ (vp_in 0 (m_len p3) ∧ (∀ M6 : Mem, M6 = uL M1 p3 (0 : Int32).toNatClampNeg ((r2).toInt64) → (P 0 M6)))) (fun E Me => (E = "java/lang/IllegalArgumentException" ∧ P 1 Me)))
abbrev rm_L_count : Room := { frames := 7, cells := 1, slots := 6, locals := 111 }
set_option maxHeartbeats 4000000 in
set_option maxRecDepth 100000 in
theorem c_L_count {l : Launch} (hlt : l.stackTraces = false) {D : va_G} {cA : Nat → ClassId} {b n : Nat} {M : Mem} {p1 : Nat} {p2 : Int32} {p3 : Nat} {P : Int32 → Mem → Prop} (h : wp_L_count n M p1 p2 p3 P) : m_CX l D cA b n M yL_count (Cond.codeWith yL_count cL_count 4 (some .int) [(0, 9, 12, 15)]) rm_L_count [.ref (b + p1), .int p2, .ref (b + p3)] (rI P) (fun _ _ => False) := by
  refine m_enterW (by decide) (Nat.le_of_ble_eq_true rfl) (fun p e s m below meth c C hr hlk ht hZ hK hP hS ls hl => ?_)
  have hx := C.1
  have hb := C.2.1
  have hl : lv_has ls 4 [(0, .ref (b + p1)), (1, .int p2), (2, .ref (b + p3))] := hl
  unfold wp_L_count at h
  refine lv_aload_n (pc := 0) hx hb dL_count_0 rfl (lv_at hl 2 rfl) ?_
  refine lv_iconst (v := 0) (pc := 1) hx hb dL_count_1 (by decide) ?_
  refine lv_aload_n (pc := 2) hx hb dL_count_2 rfl (lv_at hl 0 rfl) ?_
  refine lv_iload_n (pc := 3) hx hb dL_count_3 rfl (lv_at hl 1 rfl) ?_
  obtain ⟨hk3, h⟩ := h
  refine m_callX (pc := 4) (y := yX6_count) (κ := 6) (np := 1) (As := [.int p2]) (rest := [.int 0, .ref (b + p3)]) C hK hZ hP hS hl.1 ⟨Nat.le_of_ble_eq_true rfl, Nat.le_of_ble_eq_true rfl⟩ (c_X6_count hlt h) rfl rfl hk3 (by decide) rfl q_877 q_878 q_879 q_1 q_880 ⟨rfl, rfl⟩ yd_X6_count ⟨Nat.le_of_ble_eq_true rfl, Nat.le_of_ble_eq_true rfl⟩ (Nat.le_of_ble_eq_true rfl) dL_count_4 (fun E Me H locs q9 ce h hP hS hce hcv hcl => ?_) (fun v9 M1 H locs hv9 hP hS => ?_)
  · rcases h with ⟨rfl, h⟩
    · refine vx_catch (E := "java/lang/IllegalArgumentException") (own := RL) (name := "java/lang/IllegalArgumentException") C.2.2.2.1 (tableOf []) ⟨0, 9, 12, 15⟩ (tableOf []) (ht.trans rfl) ((fun z hz => (List.not_mem_nil hz).elim)) (by decide) (by decide) (C.2.2.2.2 _ q_586) (va_tabs (by decide) rfl (hZ.2.2.1 (Cond.castable "java/lang/IllegalArgumentException" "java/lang/IllegalArgumentException") (by decide +kernel))) hce hcv hcl ?_
      refine lv_astore_n (lv' := [(3, .ref q9), (0, .ref (b + p1)), (1, .int p2), (2, .ref (b + p3))]) (pc := 12) hx hb dL_count_12 rfl hl (by decide) rfl (fun ls hl => ?_)
      refine lv_iconst (v := 1) (pc := 13) hx hb dL_count_13 (by decide) ?_
      exact m_retY (m_iret (v := 1) (pc := 14) C hr hlk hP hS dL_count_14 h)
  · obtain ⟨r2, rfl, h⟩ := hv9
    refine lv_i2l (pc := 7) hx hb dL_count_7 rfl ?_
    obtain ⟨hk4, h⟩ := h
    obtain ⟨hi5, h⟩ := h
    refine m_last (pc := 8) C hK hP hS hk4 hi5 dL_count_8 (fun M6 H locs eM6 hP hS => ?_)
    replace h := h M6 eM6
    refine lv_goto (tgt := 15) (pc := 9) hx hb dL_count_9 (by decide) ?_
    refine lv_iconst (v := 0) (pc := 15) hx hb dL_count_15 (by decide) ?_
    exact m_retY (m_iret (v := 0) (pc := 16) C hr hlk hP hS dL_count_16 h)
/-! ForgeHeatsLaw.setting (LForgeHeats;I[J)I -/
def wp_L_setting (n : Nat) (M : Mem) (p1 : Nat) (p2 : Int32) (p3 : Nat) (P : Int32 → Mem → Prop) : Prop := m_tp n p1 6 ∧ (wp_X6_setting n M p1 p2 (fun r2 M1 => m_tp n p3 10 ∧ (vp_in 0 (m_len p3) ∧ (∀ M6 : Mem, M6 = uL M1 p3 (0 : Int32).toNatClampNeg ((r2).toInt64) → (P 0 M6)))) (fun E Me => (E = "java/lang/IndexOutOfBoundsException" ∧ P 1 Me)))
abbrev rm_L_setting : Room := { frames := 7, cells := 1, slots := 6, locals := 111 }
set_option maxHeartbeats 4000000 in
set_option maxRecDepth 100000 in
theorem c_L_setting {l : Launch} (hlt : l.stackTraces = false) {D : va_G} {cA : Nat → ClassId} {b n : Nat} {M : Mem} {p1 : Nat} {p2 : Int32} {p3 : Nat} {P : Int32 → Mem → Prop} (h : wp_L_setting n M p1 p2 p3 P) : m_CX l D cA b n M yL_setting (Cond.codeWith yL_setting cL_setting 4 (some .int) [(0, 9, 12, 13)]) rm_L_setting [.ref (b + p1), .int p2, .ref (b + p3)] (rI P) (fun _ _ => False) := by
  refine m_enterW (by decide) (Nat.le_of_ble_eq_true rfl) (fun p e s m below meth c C hr hlk ht hZ hK hP hS ls hl => ?_)
  have hx := C.1
  have hb := C.2.1
  have hl : lv_has ls 4 [(0, .ref (b + p1)), (1, .int p2), (2, .ref (b + p3))] := hl
  unfold wp_L_setting at h
  refine lv_aload_n (pc := 0) hx hb dL_setting_0 rfl (lv_at hl 2 rfl) ?_
  refine lv_iconst (v := 0) (pc := 1) hx hb dL_setting_1 (by decide) ?_
  refine lv_aload_n (pc := 2) hx hb dL_setting_2 rfl (lv_at hl 0 rfl) ?_
  refine lv_iload_n (pc := 3) hx hb dL_setting_3 rfl (lv_at hl 1 rfl) ?_
  obtain ⟨hk3, h⟩ := h
  refine m_callX (pc := 4) (y := yX6_setting) (κ := 6) (np := 1) (As := [.int p2]) (rest := [.int 0, .ref (b + p3)]) C hK hZ hP hS hl.1 ⟨Nat.le_of_ble_eq_true rfl, Nat.le_of_ble_eq_true rfl⟩ (c_X6_setting hlt h) rfl rfl hk3 (by decide) rfl q_885 q_886 q_887 q_1 q_888 ⟨rfl, rfl⟩ yd_X6_setting ⟨Nat.le_of_ble_eq_true rfl, Nat.le_of_ble_eq_true rfl⟩ (Nat.le_of_ble_eq_true rfl) dL_setting_4 (fun E Me H locs q9 ce h hP hS hce hcv hcl => ?_) (fun v9 M1 H locs hv9 hP hS => ?_)
  · rcases h with ⟨rfl, h⟩
    · refine vx_catch (E := "java/lang/IndexOutOfBoundsException") (own := RL) (name := "java/lang/IndexOutOfBoundsException") C.2.2.2.1 (tableOf []) ⟨0, 9, 12, 13⟩ (tableOf []) (ht.trans rfl) ((fun z hz => (List.not_mem_nil hz).elim)) (by decide) (by decide) (C.2.2.2.2 _ q_585) (va_tabs (by decide) rfl (hZ.2.2.1 (Cond.castable "java/lang/IndexOutOfBoundsException" "java/lang/IndexOutOfBoundsException") (by decide +kernel))) hce hcv hcl ?_
      refine lv_astore_n (lv' := [(3, .ref q9), (0, .ref (b + p1)), (1, .int p2), (2, .ref (b + p3))]) (pc := 12) hx hb dL_setting_12 rfl hl (by decide) rfl (fun ls hl => ?_)
      refine lv_iconst (v := 1) (pc := 13) hx hb dL_setting_13 (by decide) ?_
      exact m_retY (m_iret (v := 1) (pc := 14) C hr hlk hP hS dL_setting_14 h)
  · obtain ⟨r2, rfl, h⟩ := hv9
    refine lv_i2l (pc := 7) hx hb dL_setting_7 rfl ?_
    obtain ⟨hk4, h⟩ := h
    obtain ⟨hi5, h⟩ := h
    refine m_last (pc := 8) C hK hP hS hk4 hi5 dL_setting_8 (fun M6 H locs eM6 hP hS => ?_)
    replace h := h M6 eM6
    refine lv_goto (tgt := 15) (pc := 9) hx hb dL_setting_9 (by decide) ?_
    refine lv_iconst (v := 0) (pc := 15) hx hb dL_setting_15 (by decide) ?_
    exact m_retY (m_iret (v := 0) (pc := 16) C hr hlk hP hS dL_setting_16 h)
/-! ForgeHeatsLaw.ifPassed (LForgeHeats;II[J)I -/
def wp_L_ifPassed (n : Nat) (M : Mem) (p1 : Nat) (p2 : Int32) (p3 : Int32) (p4 : Nat) (P : Int32 → Mem → Prop) : Prop := m_tp n p1 6 ∧ (wp_X6_ifPassed n M p1 p2 p3 (fun r2 M1 => m_tp n p4 10 ∧ (vp_in 0 (m_len p4) ∧ (∀ M6 : Mem, M6 = uL M1 p4 (0 : Int32).toNatClampNeg ((r2).toInt64) → (P 0 M6)))) (fun E Me => (E = "java/lang/IllegalArgumentException" ∧ P 1 Me)))
abbrev rm_L_ifPassed : Room := { frames := 7, cells := 1, slots := 6, locals := 157 }
set_option maxHeartbeats 4000000 in
set_option maxRecDepth 100000 in
theorem c_L_ifPassed {l : Launch} (hlt : l.stackTraces = false) {D : va_G} {cA : Nat → ClassId} {b n : Nat} {M : Mem} {p1 : Nat} {p2 : Int32} {p3 : Int32} {p4 : Nat} {P : Int32 → Mem → Prop} (h : wp_L_ifPassed n M p1 p2 p3 p4 P) : m_CX l D cA b n M yL_ifPassed (Cond.codeWith yL_ifPassed cL_ifPassed 5 (some .int) [(0, 10, 13, 15)]) rm_L_ifPassed [.ref (b + p1), .int p2, .int p3, .ref (b + p4)] (rI P) (fun _ _ => False) := by
  refine m_enterW (by decide) (Nat.le_of_ble_eq_true rfl) (fun p e s m below meth c C hr hlk ht hZ hK hP hS ls hl => ?_)
  have hx := C.1
  have hb := C.2.1
  have hl : lv_has ls 5 [(0, .ref (b + p1)), (1, .int p2), (2, .int p3), (3, .ref (b + p4))] := hl
  unfold wp_L_ifPassed at h
  refine lv_aload_n (pc := 0) hx hb dL_ifPassed_0 rfl (lv_at hl 3 rfl) ?_
  refine lv_iconst (v := 0) (pc := 1) hx hb dL_ifPassed_1 (by decide) ?_
  refine lv_aload_n (pc := 2) hx hb dL_ifPassed_2 rfl (lv_at hl 0 rfl) ?_
  refine lv_iload_n (pc := 3) hx hb dL_ifPassed_3 rfl (lv_at hl 1 rfl) ?_
  refine lv_iload_n (pc := 4) hx hb dL_ifPassed_4 rfl (lv_at hl 2 rfl) ?_
  obtain ⟨hk3, h⟩ := h
  refine m_callX (pc := 5) (y := yX6_ifPassed) (κ := 6) (np := 2) (As := [.int p2, .int p3]) (rest := [.int 0, .ref (b + p4)]) C hK hZ hP hS hl.1 ⟨Nat.le_of_ble_eq_true rfl, Nat.le_of_ble_eq_true rfl⟩ (c_X6_ifPassed hlt h) rfl rfl hk3 (by decide) rfl q_892 q_893 q_894 q_1 q_895 ⟨rfl, rfl⟩ yd_X6_ifPassed ⟨Nat.le_of_ble_eq_true rfl, Nat.le_of_ble_eq_true rfl⟩ (Nat.le_of_ble_eq_true rfl) dL_ifPassed_5 (fun E Me H locs q9 ce h hP hS hce hcv hcl => ?_) (fun v9 M1 H locs hv9 hP hS => ?_)
  · rcases h with ⟨rfl, h⟩
    · refine vx_catch (E := "java/lang/IllegalArgumentException") (own := RL) (name := "java/lang/IllegalArgumentException") C.2.2.2.1 (tableOf []) ⟨0, 10, 13, 15⟩ (tableOf []) (ht.trans rfl) ((fun z hz => (List.not_mem_nil hz).elim)) (by decide) (by decide) (C.2.2.2.2 _ q_586) (va_tabs (by decide) rfl (hZ.2.2.1 (Cond.castable "java/lang/IllegalArgumentException" "java/lang/IllegalArgumentException") (by decide +kernel))) hce hcv hcl ?_
      refine lv_astore (lv' := [(4, .ref q9), (0, .ref (b + p1)), (1, .int p2), (2, .int p3), (3, .ref (b + p4))]) (pc := 13) hx hb dL_ifPassed_13 hl (by decide) rfl (fun ls hl => ?_)
      refine lv_iconst (v := 1) (pc := 15) hx hb dL_ifPassed_15 (by decide) ?_
      exact m_retY (m_iret (v := 1) (pc := 16) C hr hlk hP hS dL_ifPassed_16 h)
  · obtain ⟨r2, rfl, h⟩ := hv9
    refine lv_i2l (pc := 8) hx hb dL_ifPassed_8 rfl ?_
    obtain ⟨hk4, h⟩ := h
    obtain ⟨hi5, h⟩ := h
    refine m_last (pc := 9) C hK hP hS hk4 hi5 dL_ifPassed_9 (fun M6 H locs eM6 hP hS => ?_)
    replace h := h M6 eM6
    refine lv_goto (tgt := 17) (pc := 10) hx hb dL_ifPassed_10 (by decide) ?_
    refine lv_iconst (v := 0) (pc := 17) hx hb dL_ifPassed_17 (by decide) ?_
    exact m_retY (m_iret (v := 0) (pc := 18) C hr hlk hP hS dL_ifPassed_18 h)
/-! ForgeHeatsLaw.doneIn (LForgeHeats;I[J)I -/
def wp_L_doneIn (n : Nat) (M : Mem) (p1 : Nat) (p2 : Int32) (p3 : Nat) (P : Int32 → Mem → Prop) : Prop := m_tp n p1 6 ∧ (wp_X6_doneIn n M p1 p2 (fun r2 M1 => m_tp n p3 10 ∧ (vp_in 0 (m_len p3) ∧ (∀ M6 : Mem, M6 = uL M1 p3 (0 : Int32).toNatClampNeg ((r2).toInt64) → (P 0 M6)))) (fun E Me => (E = "java/lang/IndexOutOfBoundsException" ∧ P 1 Me)))
abbrev rm_L_doneIn : Room := { frames := 7, cells := 1, slots := 6, locals := 156 }
set_option maxHeartbeats 4000000 in
set_option maxRecDepth 100000 in
theorem c_L_doneIn {l : Launch} (hlt : l.stackTraces = false) {D : va_G} {cA : Nat → ClassId} {b n : Nat} {M : Mem} {p1 : Nat} {p2 : Int32} {p3 : Nat} {P : Int32 → Mem → Prop} (h : wp_L_doneIn n M p1 p2 p3 P) : m_CX l D cA b n M yL_doneIn (Cond.codeWith yL_doneIn cL_doneIn 4 (some .int) [(0, 9, 12, 13)]) rm_L_doneIn [.ref (b + p1), .int p2, .ref (b + p3)] (rI P) (fun _ _ => False) := by
  refine m_enterW (by decide) (Nat.le_of_ble_eq_true rfl) (fun p e s m below meth c C hr hlk ht hZ hK hP hS ls hl => ?_)
  have hx := C.1
  have hb := C.2.1
  have hl : lv_has ls 4 [(0, .ref (b + p1)), (1, .int p2), (2, .ref (b + p3))] := hl
  unfold wp_L_doneIn at h
  refine lv_aload_n (pc := 0) hx hb dL_doneIn_0 rfl (lv_at hl 2 rfl) ?_
  refine lv_iconst (v := 0) (pc := 1) hx hb dL_doneIn_1 (by decide) ?_
  refine lv_aload_n (pc := 2) hx hb dL_doneIn_2 rfl (lv_at hl 0 rfl) ?_
  refine lv_iload_n (pc := 3) hx hb dL_doneIn_3 rfl (lv_at hl 1 rfl) ?_
  obtain ⟨hk3, h⟩ := h
  refine m_callX (pc := 4) (y := yX6_doneIn) (κ := 6) (np := 1) (As := [.int p2]) (rest := [.int 0, .ref (b + p3)]) C hK hZ hP hS hl.1 ⟨Nat.le_of_ble_eq_true rfl, Nat.le_of_ble_eq_true rfl⟩ (c_X6_doneIn hlt h) rfl rfl hk3 (by decide) rfl q_900 q_901 q_902 q_1 q_903 ⟨rfl, rfl⟩ yd_X6_doneIn ⟨Nat.le_of_ble_eq_true rfl, Nat.le_of_ble_eq_true rfl⟩ (Nat.le_of_ble_eq_true rfl) dL_doneIn_4 (fun E Me H locs q9 ce h hP hS hce hcv hcl => ?_) (fun v9 M1 H locs hv9 hP hS => ?_)
  · rcases h with ⟨rfl, h⟩
    · refine vx_catch (E := "java/lang/IndexOutOfBoundsException") (own := RL) (name := "java/lang/IndexOutOfBoundsException") C.2.2.2.1 (tableOf []) ⟨0, 9, 12, 13⟩ (tableOf []) (ht.trans rfl) ((fun z hz => (List.not_mem_nil hz).elim)) (by decide) (by decide) (C.2.2.2.2 _ q_585) (va_tabs (by decide) rfl (hZ.2.2.1 (Cond.castable "java/lang/IndexOutOfBoundsException" "java/lang/IndexOutOfBoundsException") (by decide +kernel))) hce hcv hcl ?_
      refine lv_astore_n (lv' := [(3, .ref q9), (0, .ref (b + p1)), (1, .int p2), (2, .ref (b + p3))]) (pc := 12) hx hb dL_doneIn_12 rfl hl (by decide) rfl (fun ls hl => ?_)
      refine lv_iconst (v := 1) (pc := 13) hx hb dL_doneIn_13 (by decide) ?_
      exact m_retY (m_iret (v := 1) (pc := 14) C hr hlk hP hS dL_doneIn_14 h)
  · obtain ⟨r2, rfl, h⟩ := hv9
    refine lv_i2l (pc := 7) hx hb dL_doneIn_7 rfl ?_
    obtain ⟨hk4, h⟩ := h
    obtain ⟨hi5, h⟩ := h
    refine m_last (pc := 8) C hK hP hS hk4 hi5 dL_doneIn_8 (fun M6 H locs eM6 hP hS => ?_)
    replace h := h M6 eM6
    refine lv_goto (tgt := 15) (pc := 9) hx hb dL_doneIn_9 (by decide) ?_
    refine lv_iconst (v := 0) (pc := 15) hx hb dL_doneIn_15 (by decide) ?_
    exact m_retY (m_iret (v := 0) (pc := 16) C hr hlk hP hS dL_doneIn_16 h)
/-! ForgeHeatsLaw.ifRush (LForgeHeats;I[J)I -/
def wp_L_ifRush (n : Nat) (M : Mem) (p1 : Nat) (p2 : Int32) (p3 : Nat) (P : Int32 → Mem → Prop) : Prop := m_tp n p1 6 ∧ (wp_X6_ifRush n M p1 p2 (fun r2 M1 => m_tp n p3 10 ∧ (vp_in 0 (m_len p3) ∧ (∀ M6 : Mem, M6 = uL M1 p3 (0 : Int32).toNatClampNeg ((r2).toInt64) → (P 0 M6)))) (fun E Me => (E = "java/lang/IndexOutOfBoundsException" ∧ P 1 Me)))
abbrev rm_L_ifRush : Room := { frames := 7, cells := 1, slots := 6, locals := 159 }
set_option maxHeartbeats 4000000 in
set_option maxRecDepth 100000 in
theorem c_L_ifRush {l : Launch} (hlt : l.stackTraces = false) {D : va_G} {cA : Nat → ClassId} {b n : Nat} {M : Mem} {p1 : Nat} {p2 : Int32} {p3 : Nat} {P : Int32 → Mem → Prop} (h : wp_L_ifRush n M p1 p2 p3 P) : m_CX l D cA b n M yL_ifRush (Cond.codeWith yL_ifRush cL_ifRush 4 (some .int) [(0, 9, 12, 13)]) rm_L_ifRush [.ref (b + p1), .int p2, .ref (b + p3)] (rI P) (fun _ _ => False) := by
  refine m_enterW (by decide) (Nat.le_of_ble_eq_true rfl) (fun p e s m below meth c C hr hlk ht hZ hK hP hS ls hl => ?_)
  have hx := C.1
  have hb := C.2.1
  have hl : lv_has ls 4 [(0, .ref (b + p1)), (1, .int p2), (2, .ref (b + p3))] := hl
  unfold wp_L_ifRush at h
  refine lv_aload_n (pc := 0) hx hb dL_ifRush_0 rfl (lv_at hl 2 rfl) ?_
  refine lv_iconst (v := 0) (pc := 1) hx hb dL_ifRush_1 (by decide) ?_
  refine lv_aload_n (pc := 2) hx hb dL_ifRush_2 rfl (lv_at hl 0 rfl) ?_
  refine lv_iload_n (pc := 3) hx hb dL_ifRush_3 rfl (lv_at hl 1 rfl) ?_
  obtain ⟨hk3, h⟩ := h
  refine m_callX (pc := 4) (y := yX6_ifRush) (κ := 6) (np := 1) (As := [.int p2]) (rest := [.int 0, .ref (b + p3)]) C hK hZ hP hS hl.1 ⟨Nat.le_of_ble_eq_true rfl, Nat.le_of_ble_eq_true rfl⟩ (c_X6_ifRush hlt h) rfl rfl hk3 (by decide) rfl q_907 q_908 q_909 q_1 q_910 ⟨rfl, rfl⟩ yd_X6_ifRush ⟨Nat.le_of_ble_eq_true rfl, Nat.le_of_ble_eq_true rfl⟩ (Nat.le_of_ble_eq_true rfl) dL_ifRush_4 (fun E Me H locs q9 ce h hP hS hce hcv hcl => ?_) (fun v9 M1 H locs hv9 hP hS => ?_)
  · rcases h with ⟨rfl, h⟩
    · refine vx_catch (E := "java/lang/IndexOutOfBoundsException") (own := RL) (name := "java/lang/IndexOutOfBoundsException") C.2.2.2.1 (tableOf []) ⟨0, 9, 12, 13⟩ (tableOf []) (ht.trans rfl) ((fun z hz => (List.not_mem_nil hz).elim)) (by decide) (by decide) (C.2.2.2.2 _ q_585) (va_tabs (by decide) rfl (hZ.2.2.1 (Cond.castable "java/lang/IndexOutOfBoundsException" "java/lang/IndexOutOfBoundsException") (by decide +kernel))) hce hcv hcl ?_
      refine lv_astore_n (lv' := [(3, .ref q9), (0, .ref (b + p1)), (1, .int p2), (2, .ref (b + p3))]) (pc := 12) hx hb dL_ifRush_12 rfl hl (by decide) rfl (fun ls hl => ?_)
      refine lv_iconst (v := 1) (pc := 13) hx hb dL_ifRush_13 (by decide) ?_
      exact m_retY (m_iret (v := 1) (pc := 14) C hr hlk hP hS dL_ifRush_14 h)
  · obtain ⟨r2, rfl, h⟩ := hv9
    refine lv_i2l (pc := 7) hx hb dL_ifRush_7 rfl ?_
    obtain ⟨hk4, h⟩ := h
    obtain ⟨hi5, h⟩ := h
    refine m_last (pc := 8) C hK hP hS hk4 hi5 dL_ifRush_8 (fun M6 H locs eM6 hP hS => ?_)
    replace h := h M6 eM6
    refine lv_goto (tgt := 15) (pc := 9) hx hb dL_ifRush_9 (by decide) ?_
    refine lv_iconst (v := 0) (pc := 15) hx hb dL_ifRush_15 (by decide) ?_
    exact m_retY (m_iret (v := 0) (pc := 16) C hr hlk hP hS dL_ifRush_16 h)
/-! ForgeHeatsLaw.bestReheats (LForgeHeats;I[J)I -/
def wp_L_bestReheats (n : Nat) (M : Mem) (p1 : Nat) (p2 : Int32) (p3 : Nat) (P : Int32 → Mem → Prop) : Prop := m_tp n p1 6 ∧ (wp_X6_bestReheats n M p1 p2 (fun r2 M1 => m_tp n p3 10 ∧ (vp_in 0 (m_len p3) ∧ (∀ M6 : Mem, M6 = uL M1 p3 (0 : Int32).toNatClampNeg ((r2).toInt64) → (P 0 M6)))) (fun E Me => (E = "java/lang/IllegalArgumentException" ∧ P 1 Me)))
abbrev rm_L_bestReheats : Room := { frames := 7, cells := 1, slots := 6, locals := 162 }
set_option maxHeartbeats 4000000 in
set_option maxRecDepth 100000 in
theorem c_L_bestReheats {l : Launch} (hlt : l.stackTraces = false) {D : va_G} {cA : Nat → ClassId} {b n : Nat} {M : Mem} {p1 : Nat} {p2 : Int32} {p3 : Nat} {P : Int32 → Mem → Prop} (h : wp_L_bestReheats n M p1 p2 p3 P) : m_CX l D cA b n M yL_bestReheats (Cond.codeWith yL_bestReheats cL_bestReheats 4 (some .int) [(0, 9, 12, 15)]) rm_L_bestReheats [.ref (b + p1), .int p2, .ref (b + p3)] (rI P) (fun _ _ => False) := by
  refine m_enterW (by decide) (Nat.le_of_ble_eq_true rfl) (fun p e s m below meth c C hr hlk ht hZ hK hP hS ls hl => ?_)
  have hx := C.1
  have hb := C.2.1
  have hl : lv_has ls 4 [(0, .ref (b + p1)), (1, .int p2), (2, .ref (b + p3))] := hl
  unfold wp_L_bestReheats at h
  refine lv_aload_n (pc := 0) hx hb dL_bestReheats_0 rfl (lv_at hl 2 rfl) ?_
  refine lv_iconst (v := 0) (pc := 1) hx hb dL_bestReheats_1 (by decide) ?_
  refine lv_aload_n (pc := 2) hx hb dL_bestReheats_2 rfl (lv_at hl 0 rfl) ?_
  refine lv_iload_n (pc := 3) hx hb dL_bestReheats_3 rfl (lv_at hl 1 rfl) ?_
  obtain ⟨hk3, h⟩ := h
  refine m_callX (pc := 4) (y := yX6_bestReheats) (κ := 6) (np := 1) (As := [.int p2]) (rest := [.int 0, .ref (b + p3)]) C hK hZ hP hS hl.1 ⟨Nat.le_of_ble_eq_true rfl, Nat.le_of_ble_eq_true rfl⟩ (c_X6_bestReheats hlt h) rfl rfl hk3 (by decide) rfl q_914 q_915 q_916 q_1 q_917 ⟨rfl, rfl⟩ yd_X6_bestReheats ⟨Nat.le_of_ble_eq_true rfl, Nat.le_of_ble_eq_true rfl⟩ (Nat.le_of_ble_eq_true rfl) dL_bestReheats_4 (fun E Me H locs q9 ce h hP hS hce hcv hcl => ?_) (fun v9 M1 H locs hv9 hP hS => ?_)
  · rcases h with ⟨rfl, h⟩
    · refine vx_catch (E := "java/lang/IllegalArgumentException") (own := RL) (name := "java/lang/IllegalArgumentException") C.2.2.2.1 (tableOf []) ⟨0, 9, 12, 15⟩ (tableOf []) (ht.trans rfl) ((fun z hz => (List.not_mem_nil hz).elim)) (by decide) (by decide) (C.2.2.2.2 _ q_586) (va_tabs (by decide) rfl (hZ.2.2.1 (Cond.castable "java/lang/IllegalArgumentException" "java/lang/IllegalArgumentException") (by decide +kernel))) hce hcv hcl ?_
      refine lv_astore_n (lv' := [(3, .ref q9), (0, .ref (b + p1)), (1, .int p2), (2, .ref (b + p3))]) (pc := 12) hx hb dL_bestReheats_12 rfl hl (by decide) rfl (fun ls hl => ?_)
      refine lv_iconst (v := 1) (pc := 13) hx hb dL_bestReheats_13 (by decide) ?_
      exact m_retY (m_iret (v := 1) (pc := 14) C hr hlk hP hS dL_bestReheats_14 h)
  · obtain ⟨r2, rfl, h⟩ := hv9
    refine lv_i2l (pc := 7) hx hb dL_bestReheats_7 rfl ?_
    obtain ⟨hk4, h⟩ := h
    obtain ⟨hi5, h⟩ := h
    refine m_last (pc := 8) C hK hP hS hk4 hi5 dL_bestReheats_8 (fun M6 H locs eM6 hP hS => ?_)
    replace h := h M6 eM6
    refine lv_goto (tgt := 15) (pc := 9) hx hb dL_bestReheats_9 (by decide) ?_
    refine lv_iconst (v := 0) (pc := 15) hx hb dL_bestReheats_15 (by decide) ?_
    exact m_retY (m_iret (v := 0) (pc := 16) C hr hlk hP hS dL_bestReheats_16 h)
