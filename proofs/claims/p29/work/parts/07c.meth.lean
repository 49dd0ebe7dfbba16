/-! ForgeHeats.stock (II)I -/
def wp_X6_stock (n : Nat) (M : Mem) (i : Nat) (p1 : Int32) (p2 : Int32) (P : Int32 → Mem → Prop) : Prop := wp_X6_isWithin n M p1 0 3 (fun z2 M1 => ((z2 = true → wp_X6_isWithin n M1 p2 1 99 (fun z4 M3 => ((z4 = true → m_tp n i 6 ∧ (∃ j6 : Nat, M3.2.1 i 0 = some j6 ∧ (m_tp n j6 5 ∧ (wp_X5_heatAt n M3 j6 p1 (fun j9 M7 => m_tp n j9 2 ∧ (((((M7.1 j9 0) + p2) ≤ 200 → wp_X6_remember n M7 i (fun M11 => ∀ M13 : Mem, M13 = uI M11 j9 0 ((M11.1 j9 0) + p2) → (P (M13.1 j9 0) M13))) ∧ (¬ ((M7.1 j9 0) + p2) ≤ 200 → False)))))))) ∧ (z4 = false → False)))) ∧ (z2 = false → False)))
abbrev rm_X6_stock : Room := { frames := 3, cells := 0, slots := 0, locals := 65 }
set_option maxHeartbeats 4000000 in
set_option maxRecDepth 100000 in
theorem c_X6_stock {l : Launch} {D : va_G} {cA : Nat → ClassId} {b n : Nat} {M : Mem} {i : Nat} {p1 : Int32} {p2 : Int32} {P : Int32 → Mem → Prop} (h : wp_X6_stock n M i p1 p2 P) : m_C l D cA b n n M yX6_stock cX6_stock 4 (some .int) rm_X6_stock 0 0 [.ref (b + i), .int p1, .int p2] (rI P) := by
  refine m_enter (by decide) (Nat.le_of_ble_eq_true rfl) (fun p e s m below meth c C hr hlk hnm hK hP hS ls hl => ?_)
  have hx := C.1
  have hb := C.2.1
  have hl : lv_has ls 4 [(0, .ref (b + i)), (1, .int p1), (2, .int p2)] := hl
  unfold wp_X6_stock at h
  refine lv_iload_n (pc := 0) hx hb dX6_stock_0 rfl (lv_at hl 1 rfl) ?_
  refine lv_iconst (v := 0) (pc := 1) hx hb dX6_stock_1 (by decide) ?_
  refine lv_iconst (v := 3) (pc := 2) hx hb dX6_stock_2 (by decide) ?_
  refine m_callSZ (pc := 3) (y := yX6_isWithin) (As := [.int p1, .int 0, .int 3]) (rest := []) C hK hP hS hl.1 ⟨Nat.zero_le _, Nat.zero_le _⟩ (c_X6_isWithin h) rfl rfl q_387 q_388 q_1 q_389 ⟨rfl, rfl⟩ yd_X6_isWithin ⟨Nat.le_of_ble_eq_true rfl, Nat.le_of_ble_eq_true rfl⟩ (Nat.le_of_ble_eq_true rfl) dX6_stock_3 (fun z2 M1 H locs h hP hS => ?_)
  refine lv_if_ne (tgt := 19) (pc := 6) hx hb dX6_stock_6 (by decide) (fun c6 => ?_) (fun c6 => ?_)
  · replace h := h.1 (bZ1 c6)
    refine lv_iload_n (pc := 19) hx hb dX6_stock_19 rfl (lv_at hl 2 rfl) ?_
    refine lv_iconst (v := 1) (pc := 20) hx hb dX6_stock_20 (by decide) ?_
    refine lv_bipush (v := 99) (pc := 21) hx hb dX6_stock_21 (by decide) ?_
    refine m_callSZ (pc := 23) (y := yX6_isWithin) (As := [.int p2, .int 1, .int 99]) (rest := []) C hK hP hS hl.1 ⟨Nat.zero_le _, Nat.zero_le _⟩ (c_X6_isWithin h) rfl rfl q_387 q_388 q_1 q_389 ⟨rfl, rfl⟩ yd_X6_isWithin ⟨Nat.le_of_ble_eq_true rfl, Nat.le_of_ble_eq_true rfl⟩ (Nat.le_of_ble_eq_true rfl) dX6_stock_23 (fun z4 M3 H locs h hP hS => ?_)
    refine lv_if_ne (tgt := 39) (pc := 26) hx hb dX6_stock_26 (by decide) (fun c26 => ?_) (fun c26 => ?_)
    · replace h := h.1 (bZ1 c26)
      refine lv_aload_n (pc := 39) hx hb dX6_stock_39 rfl (lv_at hl 0 rfl) ?_
      obtain ⟨hk5, h⟩ := h
      obtain ⟨j6, hj6, h⟩ := h
      refine gX6_10 (pc := 40) C hK hP hk5 hj6 dX6_stock_40 ?_
      refine lv_iload_n (pc := 43) hx hb dX6_stock_43 rfl (lv_at hl 1 rfl) ?_
      obtain ⟨hk8, h⟩ := h
      refine m_callVR (pc := 44) (y := yX5_heatAt) (κ := 5) (As := [.int p1]) (rest := []) C hK hP hS hl.1 ⟨Nat.zero_le _, Nat.zero_le _⟩ (c_X5_heatAt h) rfl rfl hk8 (by decide) rfl q_541 q_348 q_349 q_2 q_350 ⟨rfl, rfl⟩ yd_X5_heatAt ⟨Nat.le_of_ble_eq_true rfl, Nat.le_of_ble_eq_true rfl⟩ (Nat.le_of_ble_eq_true rfl) dX6_stock_44 (fun j9 M7 H locs h hP hS => ?_)
      refine lv_astore_n (lv' := [(3, .ref (b + j9)), (0, .ref (b + i)), (1, .int p1), (2, .int p2)]) (pc := 47) hx hb dX6_stock_47 rfl hl (by decide) rfl (fun ls hl => ?_)
      refine lv_aload_n (pc := 48) hx hb dX6_stock_48 rfl (lv_at hl 0 rfl) ?_
      obtain ⟨hk10, h⟩ := h
      refine gX6_50 (pc := 49) C hK hP hk10 dX6_stock_49 ?_
      refine lv_iload_n (pc := 52) hx hb dX6_stock_52 rfl (lv_at hl 3 rfl) ?_
      refine lv_iadd (pc := 53) hx hb dX6_stock_53 ?_
      refine lv_sipush (v := 200) (pc := 54) hx hb dX6_stock_54 (by decide) ?_
      refine lv_icmp_le (tgt := 70) (pc := 57) hx hb dX6_stock_57 (by decide) (fun c57 => ?_) (fun c57 => ?_)
      · replace h := h.1 c57
        refine lv_aload_n (pc := 70) hx hb dX6_stock_70 rfl (lv_at hl 1 rfl) ?_
        refine m_callVV (pc := 71) (y := yX6_remember) (κ := 6) (As := []) (rest := []) C hK hP hS hl.1 ⟨Nat.zero_le _, Nat.zero_le _⟩ (c_X6_remember h) rfl rfl hk5 (by decide) rfl q_543 q_545 q_s8 q_1 q_546 ⟨rfl, rfl⟩ yd_X6_remember ⟨Nat.le_of_ble_eq_true rfl, Nat.le_of_ble_eq_true rfl⟩ (Nat.le_of_ble_eq_true rfl) dX6_stock_71 (fun M11 H locs h hP hS => ?_)
        refine lv_aload_n (pc := 74) hx hb dX6_stock_74 rfl (lv_at hl 0 rfl) ?_
        refine lv_dup (pc := 75) hx hb dX6_stock_75 rfl ?_
        refine gX6_50 (pc := 76) C hK hP hk10 dX6_stock_76 ?_
        refine lv_iload_n (pc := 79) hx hb dX6_stock_79 rfl (lv_at hl 3 rfl) ?_
        refine lv_iadd (pc := 80) hx hb dX6_stock_80 ?_
        refine pX6_50 (pc := 81) (v := (M11.1 j9 0) + p2) C hK hP hS hk10 dX6_stock_81 (fun M13 H locs eM13 hP hS => ?_)
        replace h := h M13 eM13
        refine lv_aload_n (pc := 84) hx hb dX6_stock_84 rfl (lv_at hl 0 rfl) ?_
        refine gX6_50 (pc := 85) C hK hP hk10 dX6_stock_85 ?_
        exact m_iret (v := M13.1 j9 0) (pc := 88) C hr hlk hP hS dX6_stock_88 h
      · replace h := h.2 c57
        exact h.elim
    · replace h := h.2 (bZ0 c26)
      exact h.elim
  · replace h := h.2 (bZ0 c6)
    exact h.elim
/-! ForgeHeats.range (III)I -/
def wp_X6_range (n : Nat) (M : Mem) (i : Nat) (p1 : Int32) (p2 : Int32) (p3 : Int32) (P : Int32 → Mem → Prop) : Prop := wp_X6_isWithin n M p1 0 3 (fun z2 M1 => ((z2 = true → wp_X6_isWithin n M1 p2 600 1240 (fun z4 M3 => ((z4 = false → False) ∧ (z4 = true → wp_X6_isWithin n M3 p3 p2 1240 (fun z6 M5 => ((z6 = true → m_tp n i 6 ∧ (wp_X6_remember n M5 i (fun M7 => ∃ j10 : Nat, M7.2.1 i 0 = some j10 ∧ (m_tp n j10 5 ∧ (wp_X5_heatAt n M7 j10 p1 (fun j13 M11 => m_tp n j13 2 ∧ (∀ v15 : Int32, v15 = ((10000 * (M11.1 j13 1)) + (M11.1 j13 2)) → (∀ M16 : Mem, M16 = uI M11 j13 1 p2 → (∀ M17 : Mem, M17 = uI M16 j13 2 p3 → (P v15 M17)))))))))) ∧ (z6 = false → False))))))) ∧ (z2 = false → False)))
abbrev rm_X6_range : Room := { frames := 3, cells := 0, slots := 0, locals := 65 }
set_option maxHeartbeats 4000000 in
set_option maxRecDepth 100000 in
theorem c_X6_range {l : Launch} {D : va_G} {cA : Nat → ClassId} {b n : Nat} {M : Mem} {i : Nat} {p1 : Int32} {p2 : Int32} {p3 : Int32} {P : Int32 → Mem → Prop} (h : wp_X6_range n M i p1 p2 p3 P) : m_C l D cA b n n M yX6_range cX6_range 6 (some .int) rm_X6_range 0 0 [.ref (b + i), .int p1, .int p2, .int p3] (rI P) := by
  refine m_enter (by decide) (Nat.le_of_ble_eq_true rfl) (fun p e s m below meth c C hr hlk hnm hK hP hS ls hl => ?_)
  have hx := C.1
  have hb := C.2.1
  have hl : lv_has ls 6 [(0, .ref (b + i)), (1, .int p1), (2, .int p2), (3, .int p3)] := hl
  unfold wp_X6_range at h
  refine lv_iload_n (pc := 0) hx hb dX6_range_0 rfl (lv_at hl 1 rfl) ?_
  refine lv_iconst (v := 0) (pc := 1) hx hb dX6_range_1 (by decide) ?_
  refine lv_iconst (v := 3) (pc := 2) hx hb dX6_range_2 (by decide) ?_
  refine m_callSZ (pc := 3) (y := yX6_isWithin) (As := [.int p1, .int 0, .int 3]) (rest := []) C hK hP hS hl.1 ⟨Nat.zero_le _, Nat.zero_le _⟩ (c_X6_isWithin h) rfl rfl q_387 q_388 q_1 q_389 ⟨rfl, rfl⟩ yd_X6_isWithin ⟨Nat.le_of_ble_eq_true rfl, Nat.le_of_ble_eq_true rfl⟩ (Nat.le_of_ble_eq_true rfl) dX6_range_3 (fun z2 M1 H locs h hP hS => ?_)
  refine lv_if_ne (tgt := 19) (pc := 6) hx hb dX6_range_6 (by decide) (fun c6 => ?_) (fun c6 => ?_)
  · replace h := h.1 (bZ1 c6)
    refine lv_iload_n (pc := 19) hx hb dX6_range_19 rfl (lv_at hl 2 rfl) ?_
    refine lv_sipush (v := 600) (pc := 20) hx hb dX6_range_20 (by decide) ?_
    refine lv_sipush (v := 1240) (pc := 23) hx hb dX6_range_23 (by decide) ?_
    refine m_callSZ (pc := 26) (y := yX6_isWithin) (As := [.int p2, .int 600, .int 1240]) (rest := []) C hK hP hS hl.1 ⟨Nat.zero_le _, Nat.zero_le _⟩ (c_X6_isWithin h) rfl rfl q_387 q_388 q_1 q_389 ⟨rfl, rfl⟩ yd_X6_isWithin ⟨Nat.le_of_ble_eq_true rfl, Nat.le_of_ble_eq_true rfl⟩ (Nat.le_of_ble_eq_true rfl) dX6_range_26 (fun z4 M3 H locs h hP hS => ?_)
    refine lv_if_eq (tgt := 43) (pc := 29) hx hb dX6_range_29 (by decide) (fun c29 => ?_) (fun c29 => ?_)
    · replace h := h.1 (bZ0 c29)
      exact h.elim
    · replace h := h.2 (bZ1 c29)
      refine lv_iload_n (pc := 32) hx hb dX6_range_32 rfl (lv_at hl 3 rfl) ?_
      refine lv_iload_n (pc := 33) hx hb dX6_range_33 rfl (lv_at hl 2 rfl) ?_
      refine lv_sipush (v := 1240) (pc := 34) hx hb dX6_range_34 (by decide) ?_
      refine m_callSZ (pc := 37) (y := yX6_isWithin) (As := [.int p3, .int p2, .int 1240]) (rest := []) C hK hP hS hl.1 ⟨Nat.zero_le _, Nat.zero_le _⟩ (c_X6_isWithin h) rfl rfl q_387 q_388 q_1 q_389 ⟨rfl, rfl⟩ yd_X6_isWithin ⟨Nat.le_of_ble_eq_true rfl, Nat.le_of_ble_eq_true rfl⟩ (Nat.le_of_ble_eq_true rfl) dX6_range_37 (fun z6 M5 H locs h hP hS => ?_)
      refine lv_if_ne (tgt := 53) (pc := 40) hx hb dX6_range_40 (by decide) (fun c40 => ?_) (fun c40 => ?_)
      · replace h := h.1 (bZ1 c40)
        refine lv_aload_n (pc := 53) hx hb dX6_range_53 rfl (lv_at hl 0 rfl) ?_
        obtain ⟨hk8, h⟩ := h
        refine m_callVV (pc := 54) (y := yX6_remember) (κ := 6) (As := []) (rest := []) C hK hP hS hl.1 ⟨Nat.zero_le _, Nat.zero_le _⟩ (c_X6_remember h) rfl rfl hk8 (by decide) rfl q_543 q_545 q_s8 q_1 q_546 ⟨rfl, rfl⟩ yd_X6_remember ⟨Nat.le_of_ble_eq_true rfl, Nat.le_of_ble_eq_true rfl⟩ (Nat.le_of_ble_eq_true rfl) dX6_range_54 (fun M7 H locs h hP hS => ?_)
        refine lv_aload_n (pc := 57) hx hb dX6_range_57 rfl (lv_at hl 0 rfl) ?_
        obtain ⟨j10, hj10, h⟩ := h
        refine gX6_10 (pc := 58) C hK hP hk8 hj10 dX6_range_58 ?_
        refine lv_iload_n (pc := 61) hx hb dX6_range_61 rfl (lv_at hl 1 rfl) ?_
        obtain ⟨hk12, h⟩ := h
        refine m_callVR (pc := 62) (y := yX5_heatAt) (κ := 5) (As := [.int p1]) (rest := []) C hK hP hS hl.1 ⟨Nat.zero_le _, Nat.zero_le _⟩ (c_X5_heatAt h) rfl rfl hk12 (by decide) rfl q_541 q_348 q_349 q_2 q_350 ⟨rfl, rfl⟩ yd_X5_heatAt ⟨Nat.le_of_ble_eq_true rfl, Nat.le_of_ble_eq_true rfl⟩ (Nat.le_of_ble_eq_true rfl) dX6_range_62 (fun j13 M11 H locs h hP hS => ?_)
        refine lv_astore (lv' := [(4, .ref (b + j13)), (0, .ref (b + i)), (1, .int p1), (2, .int p2), (3, .int p3)]) (pc := 65) hx hb dX6_range_65 hl (by decide) rfl (fun ls hl => ?_)
        refine lv_sipush (v := 10000) (pc := 67) hx hb dX6_range_67 (by decide) ?_
        refine lv_aload (pc := 70) hx hb dX6_range_70 (lv_at hl 0 rfl) ?_
        obtain ⟨hk14, h⟩ := h
        refine gX6_66 (pc := 72) C hK hP hk14 dX6_range_72 ?_
        refine lv_imul (pc := 75) hx hb dX6_range_75 ?_
        refine lv_aload (pc := 76) hx hb dX6_range_76 (lv_at hl 0 rfl) ?_
        refine gX6_69 (pc := 78) C hK hP hk14 dX6_range_78 ?_
        refine lv_iadd (pc := 81) hx hb dX6_range_81 ?_
        refine lv_topi (fun v15 ev15 => ?_)
        replace h := h v15 ev15
        refine lv_istore (lv' := [(5, .int v15), (4, .ref (b + j13)), (0, .ref (b + i)), (1, .int p1), (2, .int p2), (3, .int p3)]) (pc := 82) hx hb dX6_range_82 hl (by decide) rfl (fun ls hl => ?_)
        refine lv_aload (pc := 84) hx hb dX6_range_84 (lv_at hl 1 rfl) ?_
        refine lv_iload_n (pc := 86) hx hb dX6_range_86 rfl (lv_at hl 4 rfl) ?_
        refine pX6_66 (pc := 87) (v := p2) C hK hP hS hk14 dX6_range_87 (fun M16 H locs eM16 hP hS => ?_)
        replace h := h M16 eM16
        refine lv_aload (pc := 90) hx hb dX6_range_90 (lv_at hl 1 rfl) ?_
        refine lv_iload_n (pc := 92) hx hb dX6_range_92 rfl (lv_at hl 5 rfl) ?_
        refine pX6_69 (pc := 93) (v := p3) C hK hP hS hk14 dX6_range_93 (fun M17 H locs eM17 hP hS => ?_)
        replace h := h M17 eM17
        refine lv_iload (pc := 96) hx hb dX6_range_96 (lv_at hl 0 rfl) ?_
        exact m_iret (v := v15) (pc := 98) C hr hlk hP hS dX6_range_98 h
      · replace h := h.2 (bZ0 c40)
        exact h.elim
  · replace h := h.2 (bZ0 c6)
    exact h.elim
/-! ForgeHeats.die (III)I -/
def wp_X6_die (n : Nat) (M : Mem) (i : Nat) (p1 : Int32) (p2 : Int32) (p3 : Int32) (P : Int32 → Mem → Prop) : Prop := wp_X6_isWithin n M p1 0 4 (fun z2 M1 => ((z2 = true → wp_X6_isWithin n M1 p2 1 9 (fun z4 M3 => ((z4 = false → False) ∧ (z4 = true → wp_X6_isWithin n M3 p3 10 300 (fun z6 M5 => ((z6 = true → m_tp n i 6 ∧ (∃ j8 : Nat, M5.2.1 i 0 = some j8 ∧ (m_tp n j8 5 ∧ (wp_X5_dieAt n M5 j8 p1 (fun j11 M9 => m_tp n j11 1 ∧ (wp_X1_isBeingGround n M9 j11 (fun z14 M12 => ((z14 = false → wp_X6_remember n M12 i (fun M15 => ∀ v17 : Int32, v17 = (M15.1 j11 2) → (∀ M18 : Mem, M18 = uI M15 j11 0 p2 → (∀ M19 : Mem, M19 = uI M18 j11 1 p3 → (∀ M20 : Mem, M20 = uI M19 j11 2 0 → (P v17 M20)))))) ∧ (z14 = true → False))))))))) ∧ (z6 = false → False))))))) ∧ (z2 = false → False)))
abbrev rm_X6_die : Room := { frames := 3, cells := 0, slots := 0, locals := 65 }
set_option maxHeartbeats 4000000 in
set_option maxRecDepth 100000 in
theorem c_X6_die {l : Launch} {D : va_G} {cA : Nat → ClassId} {b n : Nat} {M : Mem} {i : Nat} {p1 : Int32} {p2 : Int32} {p3 : Int32} {P : Int32 → Mem → Prop} (h : wp_X6_die n M i p1 p2 p3 P) : m_C l D cA b n n M yX6_die cX6_die 6 (some .int) rm_X6_die 0 0 [.ref (b + i), .int p1, .int p2, .int p3] (rI P) := by
  refine m_enter (by decide) (Nat.le_of_ble_eq_true rfl) (fun p e s m below meth c C hr hlk hnm hK hP hS ls hl => ?_)
  have hx := C.1
  have hb := C.2.1
  have hl : lv_has ls 6 [(0, .ref (b + i)), (1, .int p1), (2, .int p2), (3, .int p3)] := hl
  unfold wp_X6_die at h
  refine lv_iload_n (pc := 0) hx hb dX6_die_0 rfl (lv_at hl 1 rfl) ?_
  refine lv_iconst (v := 0) (pc := 1) hx hb dX6_die_1 (by decide) ?_
  refine lv_iconst (v := 4) (pc := 2) hx hb dX6_die_2 (by decide) ?_
  refine m_callSZ (pc := 3) (y := yX6_isWithin) (As := [.int p1, .int 0, .int 4]) (rest := []) C hK hP hS hl.1 ⟨Nat.zero_le _, Nat.zero_le _⟩ (c_X6_isWithin h) rfl rfl q_387 q_388 q_1 q_389 ⟨rfl, rfl⟩ yd_X6_isWithin ⟨Nat.le_of_ble_eq_true rfl, Nat.le_of_ble_eq_true rfl⟩ (Nat.le_of_ble_eq_true rfl) dX6_die_3 (fun z2 M1 H locs h hP hS => ?_)
  refine lv_if_ne (tgt := 19) (pc := 6) hx hb dX6_die_6 (by decide) (fun c6 => ?_) (fun c6 => ?_)
  · replace h := h.1 (bZ1 c6)
    refine lv_iload_n (pc := 19) hx hb dX6_die_19 rfl (lv_at hl 2 rfl) ?_
    refine lv_iconst (v := 1) (pc := 20) hx hb dX6_die_20 (by decide) ?_
    refine lv_bipush (v := 9) (pc := 21) hx hb dX6_die_21 (by decide) ?_
    refine m_callSZ (pc := 23) (y := yX6_isWithin) (As := [.int p2, .int 1, .int 9]) (rest := []) C hK hP hS hl.1 ⟨Nat.zero_le _, Nat.zero_le _⟩ (c_X6_isWithin h) rfl rfl q_387 q_388 q_1 q_389 ⟨rfl, rfl⟩ yd_X6_isWithin ⟨Nat.le_of_ble_eq_true rfl, Nat.le_of_ble_eq_true rfl⟩ (Nat.le_of_ble_eq_true rfl) dX6_die_23 (fun z4 M3 H locs h hP hS => ?_)
    refine lv_if_eq (tgt := 41) (pc := 26) hx hb dX6_die_26 (by decide) (fun c26 => ?_) (fun c26 => ?_)
    · replace h := h.1 (bZ0 c26)
      exact h.elim
    · replace h := h.2 (bZ1 c26)
      refine lv_iload_n (pc := 29) hx hb dX6_die_29 rfl (lv_at hl 3 rfl) ?_
      refine lv_bipush (v := 10) (pc := 30) hx hb dX6_die_30 (by decide) ?_
      refine lv_sipush (v := 300) (pc := 32) hx hb dX6_die_32 (by decide) ?_
      refine m_callSZ (pc := 35) (y := yX6_isWithin) (As := [.int p3, .int 10, .int 300]) (rest := []) C hK hP hS hl.1 ⟨Nat.zero_le _, Nat.zero_le _⟩ (c_X6_isWithin h) rfl rfl q_387 q_388 q_1 q_389 ⟨rfl, rfl⟩ yd_X6_isWithin ⟨Nat.le_of_ble_eq_true rfl, Nat.le_of_ble_eq_true rfl⟩ (Nat.le_of_ble_eq_true rfl) dX6_die_35 (fun z6 M5 H locs h hP hS => ?_)
      refine lv_if_ne (tgt := 51) (pc := 38) hx hb dX6_die_38 (by decide) (fun c38 => ?_) (fun c38 => ?_)
      · replace h := h.1 (bZ1 c38)
        refine lv_aload_n (pc := 51) hx hb dX6_die_51 rfl (lv_at hl 0 rfl) ?_
        obtain ⟨hk7, h⟩ := h
        obtain ⟨j8, hj8, h⟩ := h
        refine gX6_10 (pc := 52) C hK hP hk7 hj8 dX6_die_52 ?_
        refine lv_iload_n (pc := 55) hx hb dX6_die_55 rfl (lv_at hl 1 rfl) ?_
        obtain ⟨hk10, h⟩ := h
        refine m_callVR (pc := 56) (y := yX5_dieAt) (κ := 5) (As := [.int p1]) (rest := []) C hK hP hS hl.1 ⟨Nat.zero_le _, Nat.zero_le _⟩ (c_X5_dieAt h) rfl rfl hk10 (by decide) rfl q_493 q_356 q_357 q_2 q_358 ⟨rfl, rfl⟩ yd_X5_dieAt ⟨Nat.le_of_ble_eq_true rfl, Nat.le_of_ble_eq_true rfl⟩ (Nat.le_of_ble_eq_true rfl) dX6_die_56 (fun j11 M9 H locs h hP hS => ?_)
        refine lv_astore (lv' := [(4, .ref (b + j11)), (0, .ref (b + i)), (1, .int p1), (2, .int p2), (3, .int p3)]) (pc := 59) hx hb dX6_die_59 hl (by decide) rfl (fun ls hl => ?_)
        refine lv_aload (pc := 61) hx hb dX6_die_61 (lv_at hl 0 rfl) ?_
        obtain ⟨hk13, h⟩ := h
        refine m_callVZ (pc := 63) (y := yX1_isBeingGround) (κ := 1) (As := []) (rest := []) C hK hP hS hl.1 ⟨Nat.zero_le _, Nat.zero_le _⟩ (c_X1_isBeingGround h) rfl rfl hk13 (by decide) rfl q_561 q_431 q_432 q_4 q_433 ⟨rfl, rfl⟩ yd_X1_isBeingGround ⟨Nat.le_of_ble_eq_true rfl, Nat.le_of_ble_eq_true rfl⟩ (Nat.le_of_ble_eq_true rfl) dX6_die_63 (fun z14 M12 H locs h hP hS => ?_)
        refine lv_if_eq (tgt := 79) (pc := 66) hx hb dX6_die_66 (by decide) (fun c66 => ?_) (fun c66 => ?_)
        · replace h := h.1 (bZ0 c66)
          refine lv_aload_n (pc := 79) hx hb dX6_die_79 rfl (lv_at hl 1 rfl) ?_
          refine m_callVV (pc := 80) (y := yX6_remember) (κ := 6) (As := []) (rest := []) C hK hP hS hl.1 ⟨Nat.zero_le _, Nat.zero_le _⟩ (c_X6_remember h) rfl rfl hk7 (by decide) rfl q_543 q_545 q_s8 q_1 q_546 ⟨rfl, rfl⟩ yd_X6_remember ⟨Nat.le_of_ble_eq_true rfl, Nat.le_of_ble_eq_true rfl⟩ (Nat.le_of_ble_eq_true rfl) dX6_die_80 (fun M15 H locs h hP hS => ?_)
          refine lv_aload (pc := 83) hx hb dX6_die_83 (lv_at hl 0 rfl) ?_
          refine gX6_88 (pc := 85) C hK hP hk13 dX6_die_85 ?_
          refine lv_topi (fun v17 ev17 => ?_)
          replace h := h v17 ev17
          refine lv_istore (lv' := [(5, .int v17), (4, .ref (b + j11)), (0, .ref (b + i)), (1, .int p1), (2, .int p2), (3, .int p3)]) (pc := 88) hx hb dX6_die_88 hl (by decide) rfl (fun ls hl => ?_)
          refine lv_aload (pc := 90) hx hb dX6_die_90 (lv_at hl 1 rfl) ?_
          refine lv_iload_n (pc := 92) hx hb dX6_die_92 rfl (lv_at hl 4 rfl) ?_
          refine pX6_91 (pc := 93) (v := p2) C hK hP hS hk13 dX6_die_93 (fun M18 H locs eM18 hP hS => ?_)
          replace h := h M18 eM18
          refine lv_aload (pc := 96) hx hb dX6_die_96 (lv_at hl 1 rfl) ?_
          refine lv_iload_n (pc := 98) hx hb dX6_die_98 rfl (lv_at hl 5 rfl) ?_
          refine pX6_94 (pc := 99) (v := p3) C hK hP hS hk13 dX6_die_99 (fun M19 H locs eM19 hP hS => ?_)
          replace h := h M19 eM19
          refine lv_aload (pc := 102) hx hb dX6_die_102 (lv_at hl 1 rfl) ?_
          refine lv_iconst (v := 0) (pc := 104) hx hb dX6_die_104 (by decide) ?_
          refine pX6_88 (pc := 105) (v := 0) C hK hP hS hk13 dX6_die_105 (fun M20 H locs eM20 hP hS => ?_)
          replace h := h M20 eM20
          refine lv_iload (pc := 108) hx hb dX6_die_108 (lv_at hl 0 rfl) ?_
          exact m_iret (v := v17) (pc := 110) C hr hlk hP hS dX6_die_110 h
        · replace h := h.2 (bZ1 c66)
          exact h.elim
      · replace h := h.2 (bZ0 c38)
        exact h.elim
  · replace h := h.2 (bZ0 c6)
    exact h.elim
/-! ForgeHeats.grind (I)I -/
def wp_X6_grind (n : Nat) (M : Mem) (i : Nat) (p1 : Int32) (P : Int32 → Mem → Prop) : Prop := wp_X6_isWithin n M p1 0 4 (fun z2 M1 => ((z2 = true → m_tp n i 6 ∧ (∃ j4 : Nat, M1.2.1 i 0 = some j4 ∧ (m_tp n j4 5 ∧ (wp_X5_dieBeingGround n M1 j4 (fun r7 M5 => ((r7 = (-1) → wp_X6_remember n M5 i (fun M8 => ∃ j10 : Nat, M8.2.1 i 0 = some j10 ∧ (m_tp n j10 5 ∧ (wp_X5_dieAt n M8 j10 p1 (fun j13 M11 => ∃ j14 : Nat, M11.2.1 i 0 = some j14 ∧ (m_tp n j14 5 ∧ (m_tp n j13 1 ∧ (∀ M17 : Mem, M17 = uI M11 j13 3 (M11.1 j14 10) → (P (M17.1 j13 2) M17))))))))) ∧ (¬ r7 = (-1) → False))))))) ∧ (z2 = false → False)))
abbrev rm_X6_grind : Room := { frames := 3, cells := 0, slots := 0, locals := 65 }
set_option maxHeartbeats 4000000 in
set_option maxRecDepth 100000 in
theorem c_X6_grind {l : Launch} {D : va_G} {cA : Nat → ClassId} {b n : Nat} {M : Mem} {i : Nat} {p1 : Int32} {P : Int32 → Mem → Prop} (h : wp_X6_grind n M i p1 P) : m_C l D cA b n n M yX6_grind cX6_grind 3 (some .int) rm_X6_grind 0 0 [.ref (b + i), .int p1] (rI P) := by
  refine m_enter (by decide) (Nat.le_of_ble_eq_true rfl) (fun p e s m below meth c C hr hlk hnm hK hP hS ls hl => ?_)
  have hx := C.1
  have hb := C.2.1
  have hl : lv_has ls 3 [(0, .ref (b + i)), (1, .int p1)] := hl
  unfold wp_X6_grind at h
  refine lv_iload_n (pc := 0) hx hb dX6_grind_0 rfl (lv_at hl 1 rfl) ?_
  refine lv_iconst (v := 0) (pc := 1) hx hb dX6_grind_1 (by decide) ?_
  refine lv_iconst (v := 4) (pc := 2) hx hb dX6_grind_2 (by decide) ?_
  refine m_callSZ (pc := 3) (y := yX6_isWithin) (As := [.int p1, .int 0, .int 4]) (rest := []) C hK hP hS hl.1 ⟨Nat.zero_le _, Nat.zero_le _⟩ (c_X6_isWithin h) rfl rfl q_387 q_388 q_1 q_389 ⟨rfl, rfl⟩ yd_X6_isWithin ⟨Nat.le_of_ble_eq_true rfl, Nat.le_of_ble_eq_true rfl⟩ (Nat.le_of_ble_eq_true rfl) dX6_grind_3 (fun z2 M1 H locs h hP hS => ?_)
  refine lv_if_ne (tgt := 19) (pc := 6) hx hb dX6_grind_6 (by decide) (fun c6 => ?_) (fun c6 => ?_)
  · replace h := h.1 (bZ1 c6)
    refine lv_aload_n (pc := 19) hx hb dX6_grind_19 rfl (lv_at hl 0 rfl) ?_
    obtain ⟨hk3, h⟩ := h
    obtain ⟨j4, hj4, h⟩ := h
    refine gX6_10 (pc := 20) C hK hP hk3 hj4 dX6_grind_20 ?_
    obtain ⟨hk6, h⟩ := h
    refine m_callVI (pc := 23) (y := yX5_dieBeingGround) (κ := 5) (As := []) (rest := []) C hK hP hS hl.1 ⟨Nat.zero_le _, Nat.zero_le _⟩ (c_X5_dieBeingGround h) rfl rfl hk6 (by decide) rfl q_426 q_427 q_428 q_2 q_429 ⟨rfl, rfl⟩ yd_X5_dieBeingGround ⟨Nat.le_of_ble_eq_true rfl, Nat.le_of_ble_eq_true rfl⟩ (Nat.le_of_ble_eq_true rfl) dX6_grind_23 (fun r7 M5 H locs h hP hS => ?_)
    refine lv_iconst (v := -1) (pc := 26) hx hb dX6_grind_26 (by decide) ?_
    refine lv_icmp_eq (tgt := 40) (pc := 27) hx hb dX6_grind_27 (by decide) (fun c27 => ?_) (fun c27 => ?_)
    · replace h := h.1 c27
      refine lv_aload_n (pc := 40) hx hb dX6_grind_40 rfl (lv_at hl 0 rfl) ?_
      refine m_callVV (pc := 41) (y := yX6_remember) (κ := 6) (As := []) (rest := []) C hK hP hS hl.1 ⟨Nat.zero_le _, Nat.zero_le _⟩ (c_X6_remember h) rfl rfl hk3 (by decide) rfl q_543 q_545 q_s8 q_1 q_546 ⟨rfl, rfl⟩ yd_X6_remember ⟨Nat.le_of_ble_eq_true rfl, Nat.le_of_ble_eq_true rfl⟩ (Nat.le_of_ble_eq_true rfl) dX6_grind_41 (fun M8 H locs h hP hS => ?_)
      refine lv_aload_n (pc := 44) hx hb dX6_grind_44 rfl (lv_at hl 0 rfl) ?_
      obtain ⟨j10, hj10, h⟩ := h
      refine gX6_10 (pc := 45) C hK hP hk3 hj10 dX6_grind_45 ?_
      refine lv_iload_n (pc := 48) hx hb dX6_grind_48 rfl (lv_at hl 1 rfl) ?_
      obtain ⟨hk12, h⟩ := h
      refine m_callVR (pc := 49) (y := yX5_dieAt) (κ := 5) (As := [.int p1]) (rest := []) C hK hP hS hl.1 ⟨Nat.zero_le _, Nat.zero_le _⟩ (c_X5_dieAt h) rfl rfl hk12 (by decide) rfl q_493 q_356 q_357 q_2 q_358 ⟨rfl, rfl⟩ yd_X5_dieAt ⟨Nat.le_of_ble_eq_true rfl, Nat.le_of_ble_eq_true rfl⟩ (Nat.le_of_ble_eq_true rfl) dX6_grind_49 (fun j13 M11 H locs h hP hS => ?_)
      refine lv_astore_n (lv' := [(2, .ref (b + j13)), (0, .ref (b + i)), (1, .int p1)]) (pc := 52) hx hb dX6_grind_52 rfl hl (by decide) rfl (fun ls hl => ?_)
      refine lv_aload_n (pc := 53) hx hb dX6_grind_53 rfl (lv_at hl 0 rfl) ?_
      refine lv_aload_n (pc := 54) hx hb dX6_grind_54 rfl (lv_at hl 1 rfl) ?_
      obtain ⟨j14, hj14, h⟩ := h
      refine gX6_10 (pc := 55) C hK hP hk3 hj14 dX6_grind_55 ?_
      obtain ⟨hk15, h⟩ := h
      refine gX6_103 (pc := 58) C hK hP hk15 dX6_grind_58 ?_
      obtain ⟨hk16, h⟩ := h
      refine pX6_106 (pc := 61) (v := M11.1 j14 10) C hK hP hS hk16 dX6_grind_61 (fun M17 H locs eM17 hP hS => ?_)
      replace h := h M17 eM17
      refine lv_aload_n (pc := 64) hx hb dX6_grind_64 rfl (lv_at hl 0 rfl) ?_
      refine gX6_88 (pc := 65) C hK hP hk16 dX6_grind_65 ?_
      exact m_iret (v := M17.1 j13 2) (pc := 68) C hr hlk hP hS dX6_grind_68 h
    · replace h := h.2 c27
      exact h.elim
  · replace h := h.2 (bZ0 c6)
    exact h.elim
/-! ForgeHeats.job (IIIIZ)I -/
def wp_X6_job (n : Nat) (M : Mem) (i : Nat) (p1 : Int32) (p2 : Int32) (p3 : Int32) (p4 : Int32) (p5 : Bool) (P : Int32 → Mem → Prop) : Prop := wp_X6_isWithin n M p1 0 4 (fun z2 M1 => ((z2 = false → False) ∧ (z2 = true → wp_X6_isWithin n M1 p2 0 3 (fun z4 M3 => ((z4 = true → wp_X6_isWithin n M3 p3 1 40 (fun z6 M5 => ((z6 = false → False) ∧ (z6 = true → wp_X6_isWithin n M5 p4 0 9999 (fun z8 M7 => ((z8 = true → m_tp n i 6 ∧ (∃ j10 : Nat, M7.2.1 i 0 = some j10 ∧ (m_tp n j10 5 ∧ ((((M7.1 j10 5) < 10 → wp_X6_remember n M7 i (fun M12 => ∃ j14 : Nat, M12.2.1 i 0 = some j14 ∧ (m_tp n j14 5 ∧ (wp_X5_addJob n M12 j14 p1 p2 p3 p4 p5 (fun r17 M15 => P r17 M15))))) ∧ (¬ (M7.1 j10 5) < 10 → False)))))) ∧ (z8 = false → False))))))) ∧ (z4 = false → False))))))
abbrev rm_X6_job : Room := { frames := 3, cells := 0, slots := 0, locals := 71 }
set_option maxHeartbeats 4000000 in
set_option maxRecDepth 100000 in
theorem c_X6_job {l : Launch} {D : va_G} {cA : Nat → ClassId} {b n : Nat} {M : Mem} {i : Nat} {p1 : Int32} {p2 : Int32} {p3 : Int32} {p4 : Int32} {p5 : Bool} {P : Int32 → Mem → Prop} (h : wp_X6_job n M i p1 p2 p3 p4 p5 P) : m_C l D cA b n n M yX6_job cX6_job 6 (some .int) rm_X6_job 0 0 [.ref (b + i), .int p1, .int p2, .int p3, .int p4, .int (bI p5)] (rI P) := by
  refine m_enter (by decide) (Nat.le_of_ble_eq_true rfl) (fun p e s m below meth c C hr hlk hnm hK hP hS ls hl => ?_)
  have hx := C.1
  have hb := C.2.1
  have hl : lv_has ls 6 [(0, .ref (b + i)), (1, .int p1), (2, .int p2), (3, .int p3), (4, .int p4), (5, .int (bI p5))] := hl
  unfold wp_X6_job at h
  refine lv_iload_n (pc := 0) hx hb dX6_job_0 rfl (lv_at hl 1 rfl) ?_
  refine lv_iconst (v := 0) (pc := 1) hx hb dX6_job_1 (by decide) ?_
  refine lv_iconst (v := 4) (pc := 2) hx hb dX6_job_2 (by decide) ?_
  refine m_callSZ (pc := 3) (y := yX6_isWithin) (As := [.int p1, .int 0, .int 4]) (rest := []) C hK hP hS hl.1 ⟨Nat.zero_le _, Nat.zero_le _⟩ (c_X6_isWithin h) rfl rfl q_387 q_388 q_1 q_389 ⟨rfl, rfl⟩ yd_X6_isWithin ⟨Nat.le_of_ble_eq_true rfl, Nat.le_of_ble_eq_true rfl⟩ (Nat.le_of_ble_eq_true rfl) dX6_job_3 (fun z2 M1 H locs h hP hS => ?_)
  refine lv_if_eq (tgt := 18) (pc := 6) hx hb dX6_job_6 (by decide) (fun c6 => ?_) (fun c6 => ?_)
  · replace h := h.1 (bZ0 c6)
    exact h.elim
  · replace h := h.2 (bZ1 c6)
    refine lv_iload_n (pc := 9) hx hb dX6_job_9 rfl (lv_at hl 2 rfl) ?_
    refine lv_iconst (v := 0) (pc := 10) hx hb dX6_job_10 (by decide) ?_
    refine lv_iconst (v := 3) (pc := 11) hx hb dX6_job_11 (by decide) ?_
    refine m_callSZ (pc := 12) (y := yX6_isWithin) (As := [.int p2, .int 0, .int 3]) (rest := []) C hK hP hS hl.1 ⟨Nat.zero_le _, Nat.zero_le _⟩ (c_X6_isWithin h) rfl rfl q_387 q_388 q_1 q_389 ⟨rfl, rfl⟩ yd_X6_isWithin ⟨Nat.le_of_ble_eq_true rfl, Nat.le_of_ble_eq_true rfl⟩ (Nat.le_of_ble_eq_true rfl) dX6_job_12 (fun z4 M3 H locs h hP hS => ?_)
    refine lv_if_ne (tgt := 28) (pc := 15) hx hb dX6_job_15 (by decide) (fun c15 => ?_) (fun c15 => ?_)
    · replace h := h.1 (bZ1 c15)
      refine lv_iload_n (pc := 28) hx hb dX6_job_28 rfl (lv_at hl 3 rfl) ?_
      refine lv_iconst (v := 1) (pc := 29) hx hb dX6_job_29 (by decide) ?_
      refine lv_bipush (v := 40) (pc := 30) hx hb dX6_job_30 (by decide) ?_
      refine m_callSZ (pc := 32) (y := yX6_isWithin) (As := [.int p3, .int 1, .int 40]) (rest := []) C hK hP hS hl.1 ⟨Nat.zero_le _, Nat.zero_le _⟩ (c_X6_isWithin h) rfl rfl q_387 q_388 q_1 q_389 ⟨rfl, rfl⟩ yd_X6_isWithin ⟨Nat.le_of_ble_eq_true rfl, Nat.le_of_ble_eq_true rfl⟩ (Nat.le_of_ble_eq_true rfl) dX6_job_32 (fun z6 M5 H locs h hP hS => ?_)
      refine lv_if_eq (tgt := 50) (pc := 35) hx hb dX6_job_35 (by decide) (fun c35 => ?_) (fun c35 => ?_)
      · replace h := h.1 (bZ0 c35)
        exact h.elim
      · replace h := h.2 (bZ1 c35)
        refine lv_iload (pc := 38) hx hb dX6_job_38 (lv_at hl 4 rfl) ?_
        refine lv_iconst (v := 0) (pc := 40) hx hb dX6_job_40 (by decide) ?_
        refine lv_sipush (v := 9999) (pc := 41) hx hb dX6_job_41 (by decide) ?_
        refine m_callSZ (pc := 44) (y := yX6_isWithin) (As := [.int p4, .int 0, .int 9999]) (rest := []) C hK hP hS hl.1 ⟨Nat.zero_le _, Nat.zero_le _⟩ (c_X6_isWithin h) rfl rfl q_387 q_388 q_1 q_389 ⟨rfl, rfl⟩ yd_X6_isWithin ⟨Nat.le_of_ble_eq_true rfl, Nat.le_of_ble_eq_true rfl⟩ (Nat.le_of_ble_eq_true rfl) dX6_job_44 (fun z8 M7 H locs h hP hS => ?_)
        refine lv_if_ne (tgt := 60) (pc := 47) hx hb dX6_job_47 (by decide) (fun c47 => ?_) (fun c47 => ?_)
        · replace h := h.1 (bZ1 c47)
          refine lv_aload_n (pc := 60) hx hb dX6_job_60 rfl (lv_at hl 0 rfl) ?_
          obtain ⟨hk9, h⟩ := h
          obtain ⟨j10, hj10, h⟩ := h
          refine gX6_10 (pc := 61) C hK hP hk9 hj10 dX6_job_61 ?_
          obtain ⟨hk11, h⟩ := h
          refine gX6_113 (pc := 64) C hK hP hk11 dX6_job_64 ?_
          refine lv_bipush (v := 10) (pc := 67) hx hb dX6_job_67 (by decide) ?_
          refine lv_icmp_lt (tgt := 82) (pc := 69) hx hb dX6_job_69 (by decide) (fun c69 => ?_) (fun c69 => ?_)
          · replace h := h.1 c69
            refine lv_aload_n (pc := 82) hx hb dX6_job_82 rfl (lv_at hl 0 rfl) ?_
            refine m_callVV (pc := 83) (y := yX6_remember) (κ := 6) (As := []) (rest := []) C hK hP hS hl.1 ⟨Nat.zero_le _, Nat.zero_le _⟩ (c_X6_remember h) rfl rfl hk9 (by decide) rfl q_543 q_545 q_s8 q_1 q_546 ⟨rfl, rfl⟩ yd_X6_remember ⟨Nat.le_of_ble_eq_true rfl, Nat.le_of_ble_eq_true rfl⟩ (Nat.le_of_ble_eq_true rfl) dX6_job_83 (fun M12 H locs h hP hS => ?_)
            refine lv_aload_n (pc := 86) hx hb dX6_job_86 rfl (lv_at hl 0 rfl) ?_
            obtain ⟨j14, hj14, h⟩ := h
            refine gX6_10 (pc := 87) C hK hP hk9 hj14 dX6_job_87 ?_
            refine lv_iload_n (pc := 90) hx hb dX6_job_90 rfl (lv_at hl 1 rfl) ?_
            refine lv_iload_n (pc := 91) hx hb dX6_job_91 rfl (lv_at hl 2 rfl) ?_
            refine lv_iload_n (pc := 92) hx hb dX6_job_92 rfl (lv_at hl 3 rfl) ?_
            refine lv_iload (pc := 93) hx hb dX6_job_93 (lv_at hl 4 rfl) ?_
            refine lv_iload (pc := 95) hx hb dX6_job_95 (lv_at hl 5 rfl) ?_
            obtain ⟨hk16, h⟩ := h
            refine m_callVI (pc := 97) (y := yX5_addJob) (κ := 5) (As := [.int p1, .int p2, .int p3, .int p4, .int (bI p5)]) (rest := []) C hK hP hS hl.1 ⟨Nat.zero_le _, Nat.zero_le _⟩ (c_X5_addJob h) rfl rfl hk16 (by decide) rfl q_627 q_628 q_629 q_2 q_630 ⟨rfl, rfl⟩ yd_X5_addJob ⟨Nat.le_of_ble_eq_true rfl, Nat.le_of_ble_eq_true rfl⟩ (Nat.le_of_ble_eq_true rfl) dX6_job_97 (fun r17 M15 H locs h hP hS => ?_)
            exact m_iret (v := r17) (pc := 100) C hr hlk hP hS dX6_job_100 h
          · replace h := h.2 c69
            exact h.elim
        · replace h := h.2 (bZ0 c47)
          exact h.elim
    · replace h := h.2 (bZ0 c15)
      exact h.elim
/-! ForgeHeats.cancel (I)I -/
def wp_X6_cancel (n : Nat) (M : Mem) (i : Nat) (p1 : Int32) (P : Int32 → Mem → Prop) : Prop := m_tp n i 6 ∧ (∃ j2 : Nat, M.2.1 i 0 = some j2 ∧ (m_tp n j2 5 ∧ (wp_X5_placeOf n M j2 p1 (fun r5 M3 => ((¬ r5 = (-1) → wp_X6_remember n M3 i (fun M6 => ∃ j8 : Nat, M6.2.1 i 0 = some j8 ∧ (m_tp n j8 5 ∧ (wp_X5_dropJob n M6 j8 r5 (fun r11 M9 => P r11 M9))))) ∧ (r5 = (-1) → False))))))
abbrev rm_X6_cancel : Room := { frames := 3, cells := 0, slots := 0, locals := 69 }
set_option maxHeartbeats 4000000 in
set_option maxRecDepth 100000 in
theorem c_X6_cancel {l : Launch} {D : va_G} {cA : Nat → ClassId} {b n : Nat} {M : Mem} {i : Nat} {p1 : Int32} {P : Int32 → Mem → Prop} (h : wp_X6_cancel n M i p1 P) : m_C l D cA b n n M yX6_cancel cX6_cancel 3 (some .int) rm_X6_cancel 0 0 [.ref (b + i), .int p1] (rI P) := by
  refine m_enter (by decide) (Nat.le_of_ble_eq_true rfl) (fun p e s m below meth c C hr hlk hnm hK hP hS ls hl => ?_)
  have hx := C.1
  have hb := C.2.1
  have hl : lv_has ls 3 [(0, .ref (b + i)), (1, .int p1)] := hl
  unfold wp_X6_cancel at h
  refine lv_aload_n (pc := 0) hx hb dX6_cancel_0 rfl (lv_at hl 0 rfl) ?_
  obtain ⟨hk1, h⟩ := h
  obtain ⟨j2, hj2, h⟩ := h
  refine gX6_10 (pc := 1) C hK hP hk1 hj2 dX6_cancel_1 ?_
  refine lv_iload_n (pc := 4) hx hb dX6_cancel_4 rfl (lv_at hl 1 rfl) ?_
  obtain ⟨hk4, h⟩ := h
  refine m_callVI (pc := 5) (y := yX5_placeOf) (κ := 5) (As := [.int p1]) (rest := []) C hK hP hS hl.1 ⟨Nat.zero_le _, Nat.zero_le _⟩ (c_X5_placeOf h) rfl rfl hk4 (by decide) rfl q_587 q_588 q_589 q_2 q_590 ⟨rfl, rfl⟩ yd_X5_placeOf ⟨Nat.le_of_ble_eq_true rfl, Nat.le_of_ble_eq_true rfl⟩ (Nat.le_of_ble_eq_true rfl) dX6_cancel_5 (fun r5 M3 H locs h hP hS => ?_)
  refine lv_istore_n (lv' := [(2, .int r5), (0, .ref (b + i)), (1, .int p1)]) (pc := 8) hx hb dX6_cancel_8 rfl hl (by decide) rfl (fun ls hl => ?_)
  refine lv_iload_n (pc := 9) hx hb dX6_cancel_9 rfl (lv_at hl 0 rfl) ?_
  refine lv_iconst (v := -1) (pc := 10) hx hb dX6_cancel_10 (by decide) ?_
  refine lv_icmp_ne (tgt := 24) (pc := 11) hx hb dX6_cancel_11 (by decide) (fun c11 => ?_) (fun c11 => ?_)
  · replace h := h.1 c11
    refine lv_aload_n (pc := 24) hx hb dX6_cancel_24 rfl (lv_at hl 1 rfl) ?_
    refine m_callVV (pc := 25) (y := yX6_remember) (κ := 6) (As := []) (rest := []) C hK hP hS hl.1 ⟨Nat.zero_le _, Nat.zero_le _⟩ (c_X6_remember h) rfl rfl hk1 (by decide) rfl q_543 q_545 q_s8 q_1 q_546 ⟨rfl, rfl⟩ yd_X6_remember ⟨Nat.le_of_ble_eq_true rfl, Nat.le_of_ble_eq_true rfl⟩ (Nat.le_of_ble_eq_true rfl) dX6_cancel_25 (fun M6 H locs h hP hS => ?_)
    refine lv_aload_n (pc := 28) hx hb dX6_cancel_28 rfl (lv_at hl 1 rfl) ?_
    obtain ⟨j8, hj8, h⟩ := h
    refine gX6_10 (pc := 29) C hK hP hk1 hj8 dX6_cancel_29 ?_
    refine lv_iload_n (pc := 32) hx hb dX6_cancel_32 rfl (lv_at hl 0 rfl) ?_
    obtain ⟨hk10, h⟩ := h
    refine m_callVI (pc := 33) (y := yX5_dropJob) (κ := 5) (As := [.int r5]) (rest := []) C hK hP hS hl.1 ⟨Nat.zero_le _, Nat.zero_le _⟩ (c_X5_dropJob h) rfl rfl hk10 (by decide) rfl q_592 q_593 q_594 q_2 q_595 ⟨rfl, rfl⟩ yd_X5_dropJob ⟨Nat.le_of_ble_eq_true rfl, Nat.le_of_ble_eq_true rfl⟩ (Nat.le_of_ble_eq_true rfl) dX6_cancel_33 (fun r11 M9 H locs h hP hS => ?_)
    exact m_iret (v := r11) (pc := 36) C hr hlk hP hS dX6_cancel_36 h
  · replace h := h.2 c11
    exact h.elim
/-! ForgeHeats.rush (IZ)I -/
def wp_X6_rush (n : Nat) (M : Mem) (i : Nat) (p1 : Int32) (p2 : Bool) (P : Int32 → Mem → Prop) : Prop := m_tp n i 6 ∧ (∃ j2 : Nat, M.2.1 i 0 = some j2 ∧ (m_tp n j2 5 ∧ (wp_X5_placeOf n M j2 p1 (fun r5 M3 => ((¬ r5 = (-1) → wp_X6_remember n M3 i (fun M6 => ∃ j8 : Nat, M6.2.1 i 0 = some j8 ∧ (m_tp n j8 5 ∧ (wp_X5_hasten n M6 j8 r5 p2 (fun r11 M9 => P r11 M9))))) ∧ (r5 = (-1) → False))))))
abbrev rm_X6_rush : Room := { frames := 3, cells := 0, slots := 0, locals := 67 }
set_option maxHeartbeats 4000000 in
set_option maxRecDepth 100000 in
theorem c_X6_rush {l : Launch} {D : va_G} {cA : Nat → ClassId} {b n : Nat} {M : Mem} {i : Nat} {p1 : Int32} {p2 : Bool} {P : Int32 → Mem → Prop} (h : wp_X6_rush n M i p1 p2 P) : m_C l D cA b n n M yX6_rush cX6_rush 4 (some .int) rm_X6_rush 0 0 [.ref (b + i), .int p1, .int (bI p2)] (rI P) := by
  refine m_enter (by decide) (Nat.le_of_ble_eq_true rfl) (fun p e s m below meth c C hr hlk hnm hK hP hS ls hl => ?_)
  have hx := C.1
  have hb := C.2.1
  have hl : lv_has ls 4 [(0, .ref (b + i)), (1, .int p1), (2, .int (bI p2))] := hl
  unfold wp_X6_rush at h
  refine lv_aload_n (pc := 0) hx hb dX6_rush_0 rfl (lv_at hl 0 rfl) ?_
  obtain ⟨hk1, h⟩ := h
  obtain ⟨j2, hj2, h⟩ := h
  refine gX6_10 (pc := 1) C hK hP hk1 hj2 dX6_rush_1 ?_
  refine lv_iload_n (pc := 4) hx hb dX6_rush_4 rfl (lv_at hl 1 rfl) ?_
  obtain ⟨hk4, h⟩ := h
  refine m_callVI (pc := 5) (y := yX5_placeOf) (κ := 5) (As := [.int p1]) (rest := []) C hK hP hS hl.1 ⟨Nat.zero_le _, Nat.zero_le _⟩ (c_X5_placeOf h) rfl rfl hk4 (by decide) rfl q_587 q_588 q_589 q_2 q_590 ⟨rfl, rfl⟩ yd_X5_placeOf ⟨Nat.le_of_ble_eq_true rfl, Nat.le_of_ble_eq_true rfl⟩ (Nat.le_of_ble_eq_true rfl) dX6_rush_5 (fun r5 M3 H locs h hP hS => ?_)
  refine lv_istore_n (lv' := [(3, .int r5), (0, .ref (b + i)), (1, .int p1), (2, .int (bI p2))]) (pc := 8) hx hb dX6_rush_8 rfl hl (by decide) rfl (fun ls hl => ?_)
  refine lv_iload_n (pc := 9) hx hb dX6_rush_9 rfl (lv_at hl 0 rfl) ?_
  refine lv_iconst (v := -1) (pc := 10) hx hb dX6_rush_10 (by decide) ?_
  refine lv_icmp_ne (tgt := 24) (pc := 11) hx hb dX6_rush_11 (by decide) (fun c11 => ?_) (fun c11 => ?_)
  · replace h := h.1 c11
    refine lv_aload_n (pc := 24) hx hb dX6_rush_24 rfl (lv_at hl 1 rfl) ?_
    refine m_callVV (pc := 25) (y := yX6_remember) (κ := 6) (As := []) (rest := []) C hK hP hS hl.1 ⟨Nat.zero_le _, Nat.zero_le _⟩ (c_X6_remember h) rfl rfl hk1 (by decide) rfl q_543 q_545 q_s8 q_1 q_546 ⟨rfl, rfl⟩ yd_X6_remember ⟨Nat.le_of_ble_eq_true rfl, Nat.le_of_ble_eq_true rfl⟩ (Nat.le_of_ble_eq_true rfl) dX6_rush_25 (fun M6 H locs h hP hS => ?_)
    refine lv_aload_n (pc := 28) hx hb dX6_rush_28 rfl (lv_at hl 1 rfl) ?_
    obtain ⟨j8, hj8, h⟩ := h
    refine gX6_10 (pc := 29) C hK hP hk1 hj8 dX6_rush_29 ?_
    refine lv_iload_n (pc := 32) hx hb dX6_rush_32 rfl (lv_at hl 0 rfl) ?_
    refine lv_iload_n (pc := 33) hx hb dX6_rush_33 rfl (lv_at hl 3 rfl) ?_
    obtain ⟨hk10, h⟩ := h
    refine m_callVI (pc := 34) (y := yX5_hasten) (κ := 5) (As := [.int r5, .int (bI p2)]) (rest := []) C hK hP hS hl.1 ⟨Nat.zero_le _, Nat.zero_le _⟩ (c_X5_hasten h) rfl rfl hk10 (by decide) rfl q_608 q_609 q_610 q_2 q_611 ⟨rfl, rfl⟩ yd_X5_hasten ⟨Nat.le_of_ble_eq_true rfl, Nat.le_of_ble_eq_true rfl⟩ (Nat.le_of_ble_eq_true rfl) dX6_rush_34 (fun r11 M9 H locs h hP hS => ?_)
    exact m_iret (v := r11) (pc := 37) C hr hlk hP hS dX6_rush_37 h
  · replace h := h.2 c11
    exact h.elim
/-! ForgeHeats.set (II)I -/
def wp_X6_set (n : Nat) (M : Mem) (i : Nat) (p1 : Int32) (p2 : Int32) (P : Int32 → Mem → Prop) : Prop := wp_X6_isWithin n M p1 0 3 (fun z2 M1 => ((z2 = true → wp_X6_leastValue n M1 p1 (fun r4 M3 => wp_X6_mostValue n M3 p1 (fun r6 M5 => wp_X6_isWithin n M5 p2 r4 r6 (fun z8 M7 => ((z8 = true → m_tp n i 6 ∧ (wp_X6_remember n M7 i (fun M9 => ∃ j12 : Nat, M9.2.1 i 0 = some j12 ∧ (m_tp n j12 5 ∧ (wp_X5_valueOf n M9 j12 p1 (fun r15 M13 => ∃ j16 : Nat, M13.2.1 i 0 = some j16 ∧ (m_tp n j16 5 ∧ (wp_X5_putValue n M13 j16 p1 p2 (fun M17 => P r15 M17))))))))) ∧ (z8 = false → False)))))) ∧ (z2 = false → False)))
abbrev rm_X6_set : Room := { frames := 3, cells := 0, slots := 0, locals := 65 }
set_option maxHeartbeats 4000000 in
set_option maxRecDepth 100000 in
theorem c_X6_set {l : Launch} {D : va_G} {cA : Nat → ClassId} {b n : Nat} {M : Mem} {i : Nat} {p1 : Int32} {p2 : Int32} {P : Int32 → Mem → Prop} (h : wp_X6_set n M i p1 p2 P) : m_C l D cA b n n M yX6_set cX6_set 4 (some .int) rm_X6_set 0 0 [.ref (b + i), .int p1, .int p2] (rI P) := by
  refine m_enter (by decide) (Nat.le_of_ble_eq_true rfl) (fun p e s m below meth c C hr hlk hnm hK hP hS ls hl => ?_)
  have hx := C.1
  have hb := C.2.1
  have hl : lv_has ls 4 [(0, .ref (b + i)), (1, .int p1), (2, .int p2)] := hl
  unfold wp_X6_set at h
  refine lv_iload_n (pc := 0) hx hb dX6_set_0 rfl (lv_at hl 1 rfl) ?_
  refine lv_iconst (v := 0) (pc := 1) hx hb dX6_set_1 (by decide) ?_
  refine lv_iconst (v := 3) (pc := 2) hx hb dX6_set_2 (by decide) ?_
  refine m_callSZ (pc := 3) (y := yX6_isWithin) (As := [.int p1, .int 0, .int 3]) (rest := []) C hK hP hS hl.1 ⟨Nat.zero_le _, Nat.zero_le _⟩ (c_X6_isWithin h) rfl rfl q_387 q_388 q_1 q_389 ⟨rfl, rfl⟩ yd_X6_isWithin ⟨Nat.le_of_ble_eq_true rfl, Nat.le_of_ble_eq_true rfl⟩ (Nat.le_of_ble_eq_true rfl) dX6_set_3 (fun z2 M1 H locs h hP hS => ?_)
  refine lv_if_ne (tgt := 19) (pc := 6) hx hb dX6_set_6 (by decide) (fun c6 => ?_) (fun c6 => ?_)
  · replace h := h.1 (bZ1 c6)
    refine lv_iload_n (pc := 19) hx hb dX6_set_19 rfl (lv_at hl 2 rfl) ?_
    refine lv_iload_n (pc := 20) hx hb dX6_set_20 rfl (lv_at hl 1 rfl) ?_
    refine m_callSI (pc := 21) (y := yX6_leastValue) (As := [.int p1]) (rest := [.int p2]) C hK hP hS hl.1 ⟨Nat.zero_le _, Nat.zero_le _⟩ (c_X6_leastValue h) rfl rfl q_572 q_573 q_1 q_574 ⟨rfl, rfl⟩ yd_X6_leastValue ⟨Nat.le_of_ble_eq_true rfl, Nat.le_of_ble_eq_true rfl⟩ (Nat.le_of_ble_eq_true rfl) dX6_set_21 (fun r4 M3 H locs h hP hS => ?_)
    refine lv_iload_n (pc := 24) hx hb dX6_set_24 rfl (lv_at hl 1 rfl) ?_
    refine m_callSI (pc := 25) (y := yX6_mostValue) (As := [.int p1]) (rest := [.int r4, .int p2]) C hK hP hS hl.1 ⟨Nat.zero_le _, Nat.zero_le _⟩ (c_X6_mostValue h) rfl rfl q_575 q_576 q_1 q_577 ⟨rfl, rfl⟩ yd_X6_mostValue ⟨Nat.le_of_ble_eq_true rfl, Nat.le_of_ble_eq_true rfl⟩ (Nat.le_of_ble_eq_true rfl) dX6_set_25 (fun r6 M5 H locs h hP hS => ?_)
    refine m_callSZ (pc := 28) (y := yX6_isWithin) (As := [.int p2, .int r4, .int r6]) (rest := []) C hK hP hS hl.1 ⟨Nat.zero_le _, Nat.zero_le _⟩ (c_X6_isWithin h) rfl rfl q_387 q_388 q_1 q_389 ⟨rfl, rfl⟩ yd_X6_isWithin ⟨Nat.le_of_ble_eq_true rfl, Nat.le_of_ble_eq_true rfl⟩ (Nat.le_of_ble_eq_true rfl) dX6_set_28 (fun z8 M7 H locs h hP hS => ?_)
    refine lv_if_ne (tgt := 44) (pc := 31) hx hb dX6_set_31 (by decide) (fun c31 => ?_) (fun c31 => ?_)
    · replace h := h.1 (bZ1 c31)
      refine lv_aload_n (pc := 44) hx hb dX6_set_44 rfl (lv_at hl 0 rfl) ?_
      obtain ⟨hk10, h⟩ := h
      refine m_callVV (pc := 45) (y := yX6_remember) (κ := 6) (As := []) (rest := []) C hK hP hS hl.1 ⟨Nat.zero_le _, Nat.zero_le _⟩ (c_X6_remember h) rfl rfl hk10 (by decide) rfl q_543 q_545 q_s8 q_1 q_546 ⟨rfl, rfl⟩ yd_X6_remember ⟨Nat.le_of_ble_eq_true rfl, Nat.le_of_ble_eq_true rfl⟩ (Nat.le_of_ble_eq_true rfl) dX6_set_45 (fun M9 H locs h hP hS => ?_)
      refine lv_aload_n (pc := 48) hx hb dX6_set_48 rfl (lv_at hl 0 rfl) ?_
      obtain ⟨j12, hj12, h⟩ := h
      refine gX6_10 (pc := 49) C hK hP hk10 hj12 dX6_set_49 ?_
      refine lv_iload_n (pc := 52) hx hb dX6_set_52 rfl (lv_at hl 1 rfl) ?_
      obtain ⟨hk14, h⟩ := h
      refine m_callVI (pc := 53) (y := yX5_valueOf) (κ := 5) (As := [.int p1]) (rest := []) C hK hP hS hl.1 ⟨Nat.zero_le _, Nat.zero_le _⟩ (c_X5_valueOf h) rfl rfl hk14 (by decide) rfl q_462 q_463 q_464 q_2 q_465 ⟨rfl, rfl⟩ yd_X5_valueOf ⟨Nat.le_of_ble_eq_true rfl, Nat.le_of_ble_eq_true rfl⟩ (Nat.le_of_ble_eq_true rfl) dX6_set_53 (fun r15 M13 H locs h hP hS => ?_)
      refine lv_istore_n (lv' := [(3, .int r15), (0, .ref (b + i)), (1, .int p1), (2, .int p2)]) (pc := 56) hx hb dX6_set_56 rfl hl (by decide) rfl (fun ls hl => ?_)
      refine lv_aload_n (pc := 57) hx hb dX6_set_57 rfl (lv_at hl 1 rfl) ?_
      obtain ⟨j16, hj16, h⟩ := h
      refine gX6_10 (pc := 58) C hK hP hk10 hj16 dX6_set_58 ?_
      refine lv_iload_n (pc := 61) hx hb dX6_set_61 rfl (lv_at hl 2 rfl) ?_
      refine lv_iload_n (pc := 62) hx hb dX6_set_62 rfl (lv_at hl 3 rfl) ?_
      obtain ⟨hk18, h⟩ := h
      refine m_callVV (pc := 63) (y := yX5_putValue) (κ := 5) (As := [.int p1, .int p2]) (rest := []) C hK hP hS hl.1 ⟨Nat.zero_le _, Nat.zero_le _⟩ (c_X5_putValue h) rfl rfl hk18 (by decide) rfl q_579 q_580 q_581 q_2 q_582 ⟨rfl, rfl⟩ yd_X5_putValue ⟨Nat.le_of_ble_eq_true rfl, Nat.le_of_ble_eq_true rfl⟩ (Nat.le_of_ble_eq_true rfl) dX6_set_63 (fun M17 H locs h hP hS => ?_)
      refine lv_iload_n (pc := 66) hx hb dX6_set_66 rfl (lv_at hl 0 rfl) ?_
      exact m_iret (v := r15) (pc := 67) C hr hlk hP hS dX6_set_67 h
    · replace h := h.2 (bZ0 c31)
      exact h.elim
  · replace h := h.2 (bZ0 c6)
    exact h.elim
/-! ForgeHeats.pass (I)I -/
def wp_X6_pass (n : Nat) (M : Mem) (i : Nat) (p1 : Int32) (P : Int32 → Mem → Prop) : Prop := wp_X6_isWithin n M p1 1 120 (fun z2 M1 => ((z2 = true → m_tp n i 6 ∧ (∃ j4 : Nat, M1.2.1 i 0 = some j4 ∧ (m_tp n j4 5 ∧ (((((M1.1 j4 11) + p1) ≤ 9999 → wp_X6_remember n M1 i (fun M6 => ∃ j8 : Nat, M6.2.1 i 0 = some j8 ∧ (m_tp n j8 5 ∧ (wp_X5_countMade n M6 j8 (fun r11 M9 => ∃ j12 : Nat, M9.2.1 i 0 = some j12 ∧ (m_tp n j12 5 ∧ (wp_X5_passMinutes n M9 j12 p1 (fun M13 => ∃ j16 : Nat, M13.2.1 i 0 = some j16 ∧ (m_tp n j16 5 ∧ (wp_X5_countMade n M13 j16 (fun r19 M17 => P (r19 - r11) M17))))))))))) ∧ (¬ ((M1.1 j4 11) + p1) ≤ 9999 → False)))))) ∧ (z2 = false → False)))
abbrev rm_X6_pass : Room := { frames := 5, cells := 0, slots := 0, locals := 114 }
set_option maxHeartbeats 4000000 in
set_option maxRecDepth 100000 in
theorem c_X6_pass {l : Launch} {D : va_G} {cA : Nat → ClassId} {b n : Nat} {M : Mem} {i : Nat} {p1 : Int32} {P : Int32 → Mem → Prop} (h : wp_X6_pass n M i p1 P) : m_C l D cA b n n M yX6_pass cX6_pass 3 (some .int) rm_X6_pass 0 0 [.ref (b + i), .int p1] (rI P) := by
  refine m_enter (by decide) (Nat.le_of_ble_eq_true rfl) (fun p e s m below meth c C hr hlk hnm hK hP hS ls hl => ?_)
  have hx := C.1
  have hb := C.2.1
  have hl : lv_has ls 3 [(0, .ref (b + i)), (1, .int p1)] := hl
  unfold wp_X6_pass at h
  refine lv_iload_n (pc := 0) hx hb dX6_pass_0 rfl (lv_at hl 1 rfl) ?_
  refine lv_iconst (v := 1) (pc := 1) hx hb dX6_pass_1 (by decide) ?_
  refine lv_bipush (v := 120) (pc := 2) hx hb dX6_pass_2 (by decide) ?_
  refine m_callSZ (pc := 4) (y := yX6_isWithin) (As := [.int p1, .int 1, .int 120]) (rest := []) C hK hP hS hl.1 ⟨Nat.zero_le _, Nat.zero_le _⟩ (c_X6_isWithin h) rfl rfl q_387 q_388 q_1 q_389 ⟨rfl, rfl⟩ yd_X6_isWithin ⟨Nat.le_of_ble_eq_true rfl, Nat.le_of_ble_eq_true rfl⟩ (Nat.le_of_ble_eq_true rfl) dX6_pass_4 (fun z2 M1 H locs h hP hS => ?_)
  refine lv_if_ne (tgt := 20) (pc := 7) hx hb dX6_pass_7 (by decide) (fun c7 => ?_) (fun c7 => ?_)
  · replace h := h.1 (bZ1 c7)
    refine lv_aload_n (pc := 20) hx hb dX6_pass_20 rfl (lv_at hl 0 rfl) ?_
    obtain ⟨hk3, h⟩ := h
    obtain ⟨j4, hj4, h⟩ := h
    refine gX6_10 (pc := 21) C hK hP hk3 hj4 dX6_pass_21 ?_
    obtain ⟨hk5, h⟩ := h
    refine gX6_154 (pc := 24) C hK hP hk5 dX6_pass_24 ?_
    refine lv_iload_n (pc := 27) hx hb dX6_pass_27 rfl (lv_at hl 1 rfl) ?_
    refine lv_iadd (pc := 28) hx hb dX6_pass_28 ?_
    refine lv_sipush (v := 9999) (pc := 29) hx hb dX6_pass_29 (by decide) ?_
    refine lv_icmp_le (tgt := 45) (pc := 32) hx hb dX6_pass_32 (by decide) (fun c32 => ?_) (fun c32 => ?_)
    · replace h := h.1 c32
      refine lv_aload_n (pc := 45) hx hb dX6_pass_45 rfl (lv_at hl 0 rfl) ?_
      refine m_callVV (pc := 46) (y := yX6_remember) (κ := 6) (As := []) (rest := []) C hK hP hS hl.1 ⟨Nat.zero_le _, Nat.zero_le _⟩ (c_X6_remember h) rfl rfl hk3 (by decide) rfl q_543 q_545 q_s8 q_1 q_546 ⟨rfl, rfl⟩ yd_X6_remember ⟨Nat.le_of_ble_eq_true rfl, Nat.le_of_ble_eq_true rfl⟩ (Nat.le_of_ble_eq_true rfl) dX6_pass_46 (fun M6 H locs h hP hS => ?_)
      refine lv_aload_n (pc := 49) hx hb dX6_pass_49 rfl (lv_at hl 0 rfl) ?_
      obtain ⟨j8, hj8, h⟩ := h
      refine gX6_10 (pc := 50) C hK hP hk3 hj8 dX6_pass_50 ?_
      obtain ⟨hk10, h⟩ := h
      refine m_callVI (pc := 53) (y := yX5_countMade) (κ := 5) (As := []) (rest := []) C hK hP hS hl.1 ⟨Nat.zero_le _, Nat.zero_le _⟩ (c_X5_countMade h) rfl rfl hk10 (by decide) rfl q_418 q_419 q_420 q_2 q_421 ⟨rfl, rfl⟩ yd_X5_countMade ⟨Nat.le_of_ble_eq_true rfl, Nat.le_of_ble_eq_true rfl⟩ (Nat.le_of_ble_eq_true rfl) dX6_pass_53 (fun r11 M9 H locs h hP hS => ?_)
      refine lv_istore_n (lv' := [(2, .int r11), (0, .ref (b + i)), (1, .int p1)]) (pc := 56) hx hb dX6_pass_56 rfl hl (by decide) rfl (fun ls hl => ?_)
      refine lv_aload_n (pc := 57) hx hb dX6_pass_57 rfl (lv_at hl 1 rfl) ?_
      obtain ⟨j12, hj12, h⟩ := h
      refine gX6_10 (pc := 58) C hK hP hk3 hj12 dX6_pass_58 ?_
      refine lv_iload_n (pc := 61) hx hb dX6_pass_61 rfl (lv_at hl 2 rfl) ?_
      obtain ⟨hk14, h⟩ := h
      refine m_callVV (pc := 62) (y := yX5_passMinutes) (κ := 5) (As := [.int p1]) (rest := []) C hK hP hS hl.1 ⟨Nat.zero_le _, Nat.zero_le _⟩ (c_X5_passMinutes h) rfl rfl hk14 (by decide) rfl q_637 q_638 q_639 q_2 q_640 ⟨rfl, rfl⟩ yd_X5_passMinutes ⟨Nat.le_of_ble_eq_true rfl, Nat.le_of_ble_eq_true rfl⟩ (Nat.le_of_ble_eq_true rfl) dX6_pass_62 (fun M13 H locs h hP hS => ?_)
      refine lv_aload_n (pc := 65) hx hb dX6_pass_65 rfl (lv_at hl 1 rfl) ?_
      obtain ⟨j16, hj16, h⟩ := h
      refine gX6_10 (pc := 66) C hK hP hk3 hj16 dX6_pass_66 ?_
      obtain ⟨hk18, h⟩ := h
      refine m_callVI (pc := 69) (y := yX5_countMade) (κ := 5) (As := []) (rest := []) C hK hP hS hl.1 ⟨Nat.zero_le _, Nat.zero_le _⟩ (c_X5_countMade h) rfl rfl hk18 (by decide) rfl q_418 q_419 q_420 q_2 q_421 ⟨rfl, rfl⟩ yd_X5_countMade ⟨Nat.le_of_ble_eq_true rfl, Nat.le_of_ble_eq_true rfl⟩ (Nat.le_of_ble_eq_true rfl) dX6_pass_69 (fun r19 M17 H locs h hP hS => ?_)
      refine lv_iload_n (pc := 72) hx hb dX6_pass_72 rfl (lv_at hl 0 rfl) ?_
      refine lv_isub (pc := 73) hx hb dX6_pass_73 ?_
      exact m_iret (v := r19 - r11) (pc := 74) C hr hlk hP hS dX6_pass_74 h
    · replace h := h.2 c32
      exact h.elim
  · replace h := h.2 (bZ0 c7)
    exact h.elim
/-! ForgeHeats.undo ()I -/
def wp_X6_undo (n : Nat) (M : Mem) (i : Nat) (P : Int32 → Mem → Prop) : Prop := m_tp n i 6 ∧ (wp_X6_pastAt n M i ((M.1 i 3) - 1) (fun o3 M2 => ((o3 = none → False) ∧ (∀ j4 : Nat, o3 = some j4 → ∃ j5 : Nat, M2.2.1 i 0 = some j5 ∧ (m_tp n j5 5 ∧ (wp_X5_copyFrom n M2 j5 j4 (fun M6 => ∀ M9 : Mem, M9 = uI M6 i 3 ((M6.1 i 3) - 1) → (P (M9.1 i 3) M9))))))))
abbrev rm_X6_undo : Room := { frames := 2, cells := 0, slots := 0, locals := 44 }
set_option maxHeartbeats 4000000 in
set_option maxRecDepth 100000 in
theorem c_X6_undo {l : Launch} {D : va_G} {cA : Nat → ClassId} {b n : Nat} {M : Mem} {i : Nat} {P : Int32 → Mem → Prop} (h : wp_X6_undo n M i P) : m_C l D cA b n n M yX6_undo cX6_undo 2 (some .int) rm_X6_undo 0 0 [.ref (b + i)] (rI P) := by
  refine m_enter (by decide) (Nat.le_of_ble_eq_true rfl) (fun p e s m below meth c C hr hlk hnm hK hP hS ls hl => ?_)
  have hx := C.1
  have hb := C.2.1
  have hl : lv_has ls 2 [(0, .ref (b + i))] := hl
  unfold wp_X6_undo at h
  refine lv_aload_n (pc := 0) hx hb dX6_undo_0 rfl (lv_at hl 0 rfl) ?_
  refine lv_aload_n (pc := 1) hx hb dX6_undo_1 rfl (lv_at hl 0 rfl) ?_
  obtain ⟨hk1, h⟩ := h
  refine gX6_212 (pc := 2) C hK hP hk1 dX6_undo_2 ?_
  refine lv_iconst (v := 1) (pc := 5) hx hb dX6_undo_5 (by decide) ?_
  refine lv_isub (pc := 6) hx hb dX6_undo_6 ?_
  refine m_callVO (pc := 7) (y := yX6_pastAt) (κ := 6) (As := [.int ((M.1 i 3) - 1)]) (rest := []) C hK hP hS hl.1 ⟨Nat.zero_le _, Nat.zero_le _⟩ (c_X6_pastAt h) rfl rfl hk1 (by decide) rfl q_271 q_273 q_s0 q_1 q_274 ⟨rfl, rfl⟩ yd_X6_pastAt ⟨Nat.le_of_ble_eq_true rfl, Nat.le_of_ble_eq_true rfl⟩ (Nat.le_of_ble_eq_true rfl) dX6_undo_7 (fun o3 M2 H locs h hP hS => ?_)
  refine m_astO_n (lv' := [(1, va_rf ((o3).map (fun j => b + j))), (0, .ref (b + i))]) hx hb (pc := 10) dX6_undo_10 rfl hl (by decide) rfl (fun ls hl => ?_)
  refine m_aldO_n hx hb (pc := 11) dX6_undo_11 rfl (lv_at hl 0 rfl) ?_
  rcases eo : o3 with _ | j4
  · replace h := h.1 eo
    refine lv_ifnonnullN (pc := 12) hx hb dX6_undo_12 ?_
    try rw [eo] at hl
    exact h.elim
  · replace h := h.2 j4 eo
    refine lv_ifnonnull (tgt := 25) (pc := 12) hx hb dX6_undo_12 (by decide) ?_
    try rw [eo] at hl
    refine lv_aload_n (pc := 25) hx hb dX6_undo_25 rfl (lv_at hl 1 rfl) ?_
    obtain ⟨j5, hj5, h⟩ := h
    refine gX6_10 (pc := 26) C hK hP hk1 hj5 dX6_undo_26 ?_
    refine lv_aload_n (pc := 29) hx hb dX6_undo_29 rfl (lv_at hl 0 rfl) ?_
    obtain ⟨hk7, h⟩ := h
    refine m_callVV (pc := 30) (y := yX5_copyFrom) (κ := 5) (As := [.ref (b + j4)]) (rest := []) C hK hP hS hl.1 ⟨Nat.zero_le _, Nat.zero_le _⟩ (c_X5_copyFrom h) rfl rfl hk7 (by decide) rfl q_343 q_344 q_345 q_2 q_346 ⟨rfl, rfl⟩ yd_X5_copyFrom ⟨Nat.le_of_ble_eq_true rfl, Nat.le_of_ble_eq_true rfl⟩ (Nat.le_of_ble_eq_true rfl) dX6_undo_30 (fun M6 H locs h hP hS => ?_)
    refine lv_aload_n (pc := 33) hx hb dX6_undo_33 rfl (lv_at hl 1 rfl) ?_
    refine lv_dup (pc := 34) hx hb dX6_undo_34 rfl ?_
    refine gX6_212 (pc := 35) C hK hP hk1 dX6_undo_35 ?_
    refine lv_iconst (v := 1) (pc := 38) hx hb dX6_undo_38 (by decide) ?_
    refine lv_isub (pc := 39) hx hb dX6_undo_39 ?_
    refine pX6_212 (pc := 40) (v := (M6.1 i 3) - 1) C hK hP hS hk1 dX6_undo_40 (fun M9 H locs eM9 hP hS => ?_)
    replace h := h M9 eM9
    refine lv_aload_n (pc := 43) hx hb dX6_undo_43 rfl (lv_at hl 1 rfl) ?_
    refine gX6_212 (pc := 44) C hK hP hk1 dX6_undo_44 ?_
    exact m_iret (v := M9.1 i 3) (pc := 47) C hr hlk hP hS dX6_undo_47 h
/-! ForgeHeats.heat (II)I -/
def wp_X6_heat (n : Nat) (M : Mem) (i : Nat) (p1 : Int32) (p2 : Int32) (P : Int32 → Mem → Prop) : Prop := wp_X6_isWithin n M p1 0 3 (fun z2 M1 => ((z2 = true → wp_X6_isWithin n M1 p2 0 6 (fun z4 M3 => ((z4 = true → m_tp n i 6 ∧ (∃ j6 : Nat, M3.2.1 i 0 = some j6 ∧ (m_tp n j6 5 ∧ (wp_X5_heatProperty n M3 j6 p1 p2 (fun r9 M7 => P r9 M7))))) ∧ (z4 = false → False)))) ∧ (z2 = false → False)))
abbrev rm_X6_heat : Room := { frames := 3, cells := 0, slots := 0, locals := 69 }
set_option maxHeartbeats 4000000 in
set_option maxRecDepth 100000 in
theorem c_X6_heat {l : Launch} {D : va_G} {cA : Nat → ClassId} {b n : Nat} {M : Mem} {i : Nat} {p1 : Int32} {p2 : Int32} {P : Int32 → Mem → Prop} (h : wp_X6_heat n M i p1 p2 P) : m_C l D cA b n n M yX6_heat cX6_heat 3 (some .int) rm_X6_heat 0 0 [.ref (b + i), .int p1, .int p2] (rI P) := by
  refine m_enter (by decide) (Nat.le_of_ble_eq_true rfl) (fun p e s m below meth c C hr hlk hnm hK hP hS ls hl => ?_)
  have hx := C.1
  have hb := C.2.1
  have hl : lv_has ls 3 [(0, .ref (b + i)), (1, .int p1), (2, .int p2)] := hl
  unfold wp_X6_heat at h
  refine lv_iload_n (pc := 0) hx hb dX6_heat_0 rfl (lv_at hl 1 rfl) ?_
  refine lv_iconst (v := 0) (pc := 1) hx hb dX6_heat_1 (by decide) ?_
  refine lv_iconst (v := 3) (pc := 2) hx hb dX6_heat_2 (by decide) ?_
  refine m_callSZ (pc := 3) (y := yX6_isWithin) (As := [.int p1, .int 0, .int 3]) (rest := []) C hK hP hS hl.1 ⟨Nat.zero_le _, Nat.zero_le _⟩ (c_X6_isWithin h) rfl rfl q_387 q_388 q_1 q_389 ⟨rfl, rfl⟩ yd_X6_isWithin ⟨Nat.le_of_ble_eq_true rfl, Nat.le_of_ble_eq_true rfl⟩ (Nat.le_of_ble_eq_true rfl) dX6_heat_3 (fun z2 M1 H locs h hP hS => ?_)
  refine lv_if_ne (tgt := 19) (pc := 6) hx hb dX6_heat_6 (by decide) (fun c6 => ?_) (fun c6 => ?_)
  · replace h := h.1 (bZ1 c6)
    refine lv_iload_n (pc := 19) hx hb dX6_heat_19 rfl (lv_at hl 2 rfl) ?_
    refine lv_iconst (v := 0) (pc := 20) hx hb dX6_heat_20 (by decide) ?_
    refine lv_bipush (v := 6) (pc := 21) hx hb dX6_heat_21 (by decide) ?_
    refine m_callSZ (pc := 23) (y := yX6_isWithin) (As := [.int p2, .int 0, .int 6]) (rest := []) C hK hP hS hl.1 ⟨Nat.zero_le _, Nat.zero_le _⟩ (c_X6_isWithin h) rfl rfl q_387 q_388 q_1 q_389 ⟨rfl, rfl⟩ yd_X6_isWithin ⟨Nat.le_of_ble_eq_true rfl, Nat.le_of_ble_eq_true rfl⟩ (Nat.le_of_ble_eq_true rfl) dX6_heat_23 (fun z4 M3 H locs h hP hS => ?_)
    refine lv_if_ne (tgt := 39) (pc := 26) hx hb dX6_heat_26 (by decide) (fun c26 => ?_) (fun c26 => ?_)
    · replace h := h.1 (bZ1 c26)
      refine lv_aload_n (pc := 39) hx hb dX6_heat_39 rfl (lv_at hl 0 rfl) ?_
      obtain ⟨hk5, h⟩ := h
      obtain ⟨j6, hj6, h⟩ := h
      refine gX6_10 (pc := 40) C hK hP hk5 hj6 dX6_heat_40 ?_
      refine lv_iload_n (pc := 43) hx hb dX6_heat_43 rfl (lv_at hl 1 rfl) ?_
      refine lv_iload_n (pc := 44) hx hb dX6_heat_44 rfl (lv_at hl 2 rfl) ?_
      obtain ⟨hk8, h⟩ := h
      refine m_callVI (pc := 45) (y := yX5_heatProperty) (κ := 5) (As := [.int p1, .int p2]) (rest := []) C hK hP hS hl.1 ⟨Nat.zero_le _, Nat.zero_le _⟩ (c_X5_heatProperty h) rfl rfl hk8 (by decide) rfl q_472 q_473 q_474 q_2 q_475 ⟨rfl, rfl⟩ yd_X5_heatProperty ⟨Nat.le_of_ble_eq_true rfl, Nat.le_of_ble_eq_true rfl⟩ (Nat.le_of_ble_eq_true rfl) dX6_heat_45 (fun r9 M7 H locs h hP hS => ?_)
      exact m_iret (v := r9) (pc := 48) C hr hlk hP hS dX6_heat_48 h
    · replace h := h.2 (bZ0 c26)
      exact h.elim
  · replace h := h.2 (bZ0 c6)
    exact h.elim
/-! ForgeHeats.dieOf (II)I -/
def wp_X6_dieOf (n : Nat) (M : Mem) (i : Nat) (p1 : Int32) (p2 : Int32) (P : Int32 → Mem → Prop) : Prop := wp_X6_isWithin n M p1 0 4 (fun z2 M1 => ((z2 = true → wp_X6_isWithin n M1 p2 0 5 (fun z4 M3 => ((z4 = true → m_tp n i 6 ∧ (∃ j6 : Nat, M3.2.1 i 0 = some j6 ∧ (m_tp n j6 5 ∧ (wp_X5_dieAt n M3 j6 p1 (fun j9 M7 => m_tp n j9 1 ∧ (wp_X1_property n M7 j9 p2 (fun r12 M10 => P r12 M10))))))) ∧ (z4 = false → False)))) ∧ (z2 = false → False)))
abbrev rm_X6_dieOf : Room := { frames := 1, cells := 0, slots := 0, locals := 22 }
set_option maxHeartbeats 4000000 in
set_option maxRecDepth 100000 in
theorem c_X6_dieOf {l : Launch} {D : va_G} {cA : Nat → ClassId} {b n : Nat} {M : Mem} {i : Nat} {p1 : Int32} {p2 : Int32} {P : Int32 → Mem → Prop} (h : wp_X6_dieOf n M i p1 p2 P) : m_C l D cA b n n M yX6_dieOf cX6_dieOf 3 (some .int) rm_X6_dieOf 0 0 [.ref (b + i), .int p1, .int p2] (rI P) := by
  refine m_enter (by decide) (Nat.le_of_ble_eq_true rfl) (fun p e s m below meth c C hr hlk hnm hK hP hS ls hl => ?_)
  have hx := C.1
  have hb := C.2.1
  have hl : lv_has ls 3 [(0, .ref (b + i)), (1, .int p1), (2, .int p2)] := hl
  unfold wp_X6_dieOf at h
  refine lv_iload_n (pc := 0) hx hb dX6_dieOf_0 rfl (lv_at hl 1 rfl) ?_
  refine lv_iconst (v := 0) (pc := 1) hx hb dX6_dieOf_1 (by decide) ?_
  refine lv_iconst (v := 4) (pc := 2) hx hb dX6_dieOf_2 (by decide) ?_
  refine m_callSZ (pc := 3) (y := yX6_isWithin) (As := [.int p1, .int 0, .int 4]) (rest := []) C hK hP hS hl.1 ⟨Nat.zero_le _, Nat.zero_le _⟩ (c_X6_isWithin h) rfl rfl q_387 q_388 q_1 q_389 ⟨rfl, rfl⟩ yd_X6_isWithin ⟨Nat.le_of_ble_eq_true rfl, Nat.le_of_ble_eq_true rfl⟩ (Nat.le_of_ble_eq_true rfl) dX6_dieOf_3 (fun z2 M1 H locs h hP hS => ?_)
  refine lv_if_ne (tgt := 19) (pc := 6) hx hb dX6_dieOf_6 (by decide) (fun c6 => ?_) (fun c6 => ?_)
  · replace h := h.1 (bZ1 c6)
    refine lv_iload_n (pc := 19) hx hb dX6_dieOf_19 rfl (lv_at hl 2 rfl) ?_
    refine lv_iconst (v := 0) (pc := 20) hx hb dX6_dieOf_20 (by decide) ?_
    refine lv_iconst (v := 5) (pc := 21) hx hb dX6_dieOf_21 (by decide) ?_
    refine m_callSZ (pc := 22) (y := yX6_isWithin) (As := [.int p2, .int 0, .int 5]) (rest := []) C hK hP hS hl.1 ⟨Nat.zero_le _, Nat.zero_le _⟩ (c_X6_isWithin h) rfl rfl q_387 q_388 q_1 q_389 ⟨rfl, rfl⟩ yd_X6_isWithin ⟨Nat.le_of_ble_eq_true rfl, Nat.le_of_ble_eq_true rfl⟩ (Nat.le_of_ble_eq_true rfl) dX6_dieOf_22 (fun z4 M3 H locs h hP hS => ?_)
    refine lv_if_ne (tgt := 38) (pc := 25) hx hb dX6_dieOf_25 (by decide) (fun c25 => ?_) (fun c25 => ?_)
    · replace h := h.1 (bZ1 c25)
      refine lv_aload_n (pc := 38) hx hb dX6_dieOf_38 rfl (lv_at hl 0 rfl) ?_
      obtain ⟨hk5, h⟩ := h
      obtain ⟨j6, hj6, h⟩ := h
      refine gX6_10 (pc := 39) C hK hP hk5 hj6 dX6_dieOf_39 ?_
      refine lv_iload_n (pc := 42) hx hb dX6_dieOf_42 rfl (lv_at hl 1 rfl) ?_
      obtain ⟨hk8, h⟩ := h
      refine m_callVR (pc := 43) (y := yX5_dieAt) (κ := 5) (As := [.int p1]) (rest := []) C hK hP hS hl.1 ⟨Nat.zero_le _, Nat.zero_le _⟩ (c_X5_dieAt h) rfl rfl hk8 (by decide) rfl q_493 q_356 q_357 q_2 q_358 ⟨rfl, rfl⟩ yd_X5_dieAt ⟨Nat.le_of_ble_eq_true rfl, Nat.le_of_ble_eq_true rfl⟩ (Nat.le_of_ble_eq_true rfl) dX6_dieOf_43 (fun j9 M7 H locs h hP hS => ?_)
      refine lv_iload_n (pc := 46) hx hb dX6_dieOf_46 rfl (lv_at hl 2 rfl) ?_
      obtain ⟨hk11, h⟩ := h
      refine m_callVI (pc := 47) (y := yX1_property) (κ := 1) (As := [.int p2]) (rest := []) C hK hP hS hl.1 ⟨Nat.zero_le _, Nat.zero_le _⟩ (c_X1_property h) rfl rfl hk11 (by decide) rfl q_494 q_495 q_496 q_4 q_497 ⟨rfl, rfl⟩ yd_X1_property ⟨Nat.le_of_ble_eq_true rfl, Nat.le_of_ble_eq_true rfl⟩ (Nat.le_of_ble_eq_true rfl) dX6_dieOf_47 (fun r12 M10 H locs h hP hS => ?_)
      exact m_iret (v := r12) (pc := 50) C hr hlk hP hS dX6_dieOf_50 h
    · replace h := h.2 (bZ0 c25)
      exact h.elim
  · replace h := h.2 (bZ0 c6)
    exact h.elim
/-! ForgeHeats.jobOf (II)I -/
def wp_X6_jobOf (n : Nat) (M : Mem) (i : Nat) (p1 : Int32) (p2 : Int32) (P : Int32 → Mem → Prop) : Prop := ((p1 < 0 → False) ∧ (¬ p1 < 0 → wp_X6_isWithin n M p2 0 7 (fun z2 M1 => ((z2 = true → m_tp n i 6 ∧ (∃ j4 : Nat, M1.2.1 i 0 = some j4 ∧ (m_tp n j4 5 ∧ ((((M1.1 j4 5) ≤ p1 → P (-1) M1) ∧ (¬ (M1.1 j4 5) ≤ p1 → ∃ j6 : Nat, M1.2.1 i 0 = some j6 ∧ (m_tp n j6 5 ∧ (wp_X5_jobProperty n M1 j6 p1 p2 (fun r9 M7 => P r9 M7))))))))) ∧ (z2 = false → False)))))
abbrev rm_X6_jobOf : Room := { frames := 4, cells := 0, slots := 0, locals := 94 }
set_option maxHeartbeats 4000000 in
set_option maxRecDepth 100000 in
theorem c_X6_jobOf {l : Launch} {D : va_G} {cA : Nat → ClassId} {b n : Nat} {M : Mem} {i : Nat} {p1 : Int32} {p2 : Int32} {P : Int32 → Mem → Prop} (h : wp_X6_jobOf n M i p1 p2 P) : m_C l D cA b n n M yX6_jobOf cX6_jobOf 3 (some .int) rm_X6_jobOf 0 0 [.ref (b + i), .int p1, .int p2] (rI P) := by
  refine m_enter (by decide) (Nat.le_of_ble_eq_true rfl) (fun p e s m below meth c C hr hlk hnm hK hP hS ls hl => ?_)
  have hx := C.1
  have hb := C.2.1
  have hl : lv_has ls 3 [(0, .ref (b + i)), (1, .int p1), (2, .int p2)] := hl
  unfold wp_X6_jobOf at h
  refine lv_iload_n (pc := 0) hx hb dX6_jobOf_0 rfl (lv_at hl 1 rfl) ?_
  refine lv_if_lt (tgt := 14) (pc := 1) hx hb dX6_jobOf_1 (by decide) (fun c1 => ?_) (fun c1 => ?_)
  · replace h := h.1 c1
    exact h.elim
  · replace h := h.2 c1
    refine lv_iload_n (pc := 4) hx hb dX6_jobOf_4 rfl (lv_at hl 2 rfl) ?_
    refine lv_iconst (v := 0) (pc := 5) hx hb dX6_jobOf_5 (by decide) ?_
    refine lv_bipush (v := 7) (pc := 6) hx hb dX6_jobOf_6 (by decide) ?_
    refine m_callSZ (pc := 8) (y := yX6_isWithin) (As := [.int p2, .int 0, .int 7]) (rest := []) C hK hP hS hl.1 ⟨Nat.zero_le _, Nat.zero_le _⟩ (c_X6_isWithin h) rfl rfl q_387 q_388 q_1 q_389 ⟨rfl, rfl⟩ yd_X6_isWithin ⟨Nat.le_of_ble_eq_true rfl, Nat.le_of_ble_eq_true rfl⟩ (Nat.le_of_ble_eq_true rfl) dX6_jobOf_8 (fun z2 M1 H locs h hP hS => ?_)
    refine lv_if_ne (tgt := 24) (pc := 11) hx hb dX6_jobOf_11 (by decide) (fun c11 => ?_) (fun c11 => ?_)
    · replace h := h.1 (bZ1 c11)
      refine lv_iload_n (pc := 24) hx hb dX6_jobOf_24 rfl (lv_at hl 1 rfl) ?_
      refine lv_aload_n (pc := 25) hx hb dX6_jobOf_25 rfl (lv_at hl 0 rfl) ?_
      obtain ⟨hk3, h⟩ := h
      obtain ⟨j4, hj4, h⟩ := h
      refine gX6_10 (pc := 26) C hK hP hk3 hj4 dX6_jobOf_26 ?_
      obtain ⟨hk5, h⟩ := h
      refine gX6_113 (pc := 29) C hK hP hk5 dX6_jobOf_29 ?_
      refine lv_icmp_ge (tgt := 47) (pc := 32) hx hb dX6_jobOf_32 (by decide) (fun c32 => ?_) (fun c32 => ?_)
      · replace h := h.1 c32
        refine lv_iconst (v := -1) (pc := 47) hx hb dX6_jobOf_47 (by decide) ?_
        exact m_iret (v := (-1)) (pc := 48) C hr hlk hP hS dX6_jobOf_48 h
      · replace h := h.2 c32
        refine lv_aload_n (pc := 35) hx hb dX6_jobOf_35 rfl (lv_at hl 0 rfl) ?_
        obtain ⟨j6, hj6, h⟩ := h
        refine gX6_10 (pc := 36) C hK hP hk3 hj6 dX6_jobOf_36 ?_
        refine lv_iload_n (pc := 39) hx hb dX6_jobOf_39 rfl (lv_at hl 1 rfl) ?_
        refine lv_iload_n (pc := 40) hx hb dX6_jobOf_40 rfl (lv_at hl 2 rfl) ?_
        obtain ⟨hk8, h⟩ := h
        refine m_callVI (pc := 41) (y := yX5_jobProperty) (κ := 5) (As := [.int p1, .int p2]) (rest := []) C hK hP hS hl.1 ⟨Nat.zero_le _, Nat.zero_le _⟩ (c_X5_jobProperty h) rfl rfl hk8 (by decide) rfl q_513 q_514 q_515 q_2 q_516 ⟨rfl, rfl⟩ yd_X5_jobProperty ⟨Nat.le_of_ble_eq_true rfl, Nat.le_of_ble_eq_true rfl⟩ (Nat.le_of_ble_eq_true rfl) dX6_jobOf_41 (fun r9 M7 H locs h hP hS => ?_)
        refine lv_goto (tgt := 48) (pc := 44) hx hb dX6_jobOf_44 (by decide) ?_
        exact m_iret (v := r9) (pc := 48) C hr hlk hP hS dX6_jobOf_48 h
    · replace h := h.2 (bZ0 c11)
      exact h.elim
/-! ForgeHeats.billet (II)I -/
def wp_X6_billet (n : Nat) (M : Mem) (i : Nat) (p1 : Int32) (p2 : Int32) (P : Int32 → Mem → Prop) : Prop := wp_X6_isWithin n M p1 0 6 (fun z2 M1 => ((z2 = true → wp_X6_isWithin n M1 p2 0 3 (fun z4 M3 => ((z4 = true → m_tp n i 6 ∧ (∃ j6 : Nat, M3.2.1 i 0 = some j6 ∧ (m_tp n j6 5 ∧ (wp_X5_billetAt n M3 j6 p1 (fun j9 M7 => m_tp n j9 0 ∧ (wp_X0_property n M7 j9 p2 (fun r12 M10 => P r12 M10))))))) ∧ (z4 = false → False)))) ∧ (z2 = false → False)))
abbrev rm_X6_billet : Room := { frames := 1, cells := 0, slots := 0, locals := 22 }
set_option maxHeartbeats 4000000 in
set_option maxRecDepth 100000 in
theorem c_X6_billet {l : Launch} {D : va_G} {cA : Nat → ClassId} {b n : Nat} {M : Mem} {i : Nat} {p1 : Int32} {p2 : Int32} {P : Int32 → Mem → Prop} (h : wp_X6_billet n M i p1 p2 P) : m_C l D cA b n n M yX6_billet cX6_billet 3 (some .int) rm_X6_billet 0 0 [.ref (b + i), .int p1, .int p2] (rI P) := by
  refine m_enter (by decide) (Nat.le_of_ble_eq_true rfl) (fun p e s m below meth c C hr hlk hnm hK hP hS ls hl => ?_)
  have hx := C.1
  have hb := C.2.1
  have hl : lv_has ls 3 [(0, .ref (b + i)), (1, .int p1), (2, .int p2)] := hl
  unfold wp_X6_billet at h
  refine lv_iload_n (pc := 0) hx hb dX6_billet_0 rfl (lv_at hl 1 rfl) ?_
  refine lv_iconst (v := 0) (pc := 1) hx hb dX6_billet_1 (by decide) ?_
  refine lv_bipush (v := 6) (pc := 2) hx hb dX6_billet_2 (by decide) ?_
  refine m_callSZ (pc := 4) (y := yX6_isWithin) (As := [.int p1, .int 0, .int 6]) (rest := []) C hK hP hS hl.1 ⟨Nat.zero_le _, Nat.zero_le _⟩ (c_X6_isWithin h) rfl rfl q_387 q_388 q_1 q_389 ⟨rfl, rfl⟩ yd_X6_isWithin ⟨Nat.le_of_ble_eq_true rfl, Nat.le_of_ble_eq_true rfl⟩ (Nat.le_of_ble_eq_true rfl) dX6_billet_4 (fun z2 M1 H locs h hP hS => ?_)
  refine lv_if_ne (tgt := 20) (pc := 7) hx hb dX6_billet_7 (by decide) (fun c7 => ?_) (fun c7 => ?_)
  · replace h := h.1 (bZ1 c7)
    refine lv_iload_n (pc := 20) hx hb dX6_billet_20 rfl (lv_at hl 2 rfl) ?_
    refine lv_iconst (v := 0) (pc := 21) hx hb dX6_billet_21 (by decide) ?_
    refine lv_iconst (v := 3) (pc := 22) hx hb dX6_billet_22 (by decide) ?_
    refine m_callSZ (pc := 23) (y := yX6_isWithin) (As := [.int p2, .int 0, .int 3]) (rest := []) C hK hP hS hl.1 ⟨Nat.zero_le _, Nat.zero_le _⟩ (c_X6_isWithin h) rfl rfl q_387 q_388 q_1 q_389 ⟨rfl, rfl⟩ yd_X6_isWithin ⟨Nat.le_of_ble_eq_true rfl, Nat.le_of_ble_eq_true rfl⟩ (Nat.le_of_ble_eq_true rfl) dX6_billet_23 (fun z4 M3 H locs h hP hS => ?_)
    refine lv_if_ne (tgt := 39) (pc := 26) hx hb dX6_billet_26 (by decide) (fun c26 => ?_) (fun c26 => ?_)
    · replace h := h.1 (bZ1 c26)
      refine lv_aload_n (pc := 39) hx hb dX6_billet_39 rfl (lv_at hl 0 rfl) ?_
      obtain ⟨hk5, h⟩ := h
      obtain ⟨j6, hj6, h⟩ := h
      refine gX6_10 (pc := 40) C hK hP hk5 hj6 dX6_billet_40 ?_
      refine lv_iload_n (pc := 43) hx hb dX6_billet_43 rfl (lv_at hl 1 rfl) ?_
      obtain ⟨hk8, h⟩ := h
      refine m_callVR (pc := 44) (y := yX5_billetAt) (κ := 5) (As := [.int p1]) (rest := []) C hK hP hS hl.1 ⟨Nat.zero_le _, Nat.zero_le _⟩ (c_X5_billetAt h) rfl rfl hk8 (by decide) rfl q_503 q_372 q_373 q_2 q_374 ⟨rfl, rfl⟩ yd_X5_billetAt ⟨Nat.le_of_ble_eq_true rfl, Nat.le_of_ble_eq_true rfl⟩ (Nat.le_of_ble_eq_true rfl) dX6_billet_44 (fun j9 M7 H locs h hP hS => ?_)
      refine lv_iload_n (pc := 47) hx hb dX6_billet_47 rfl (lv_at hl 2 rfl) ?_
      obtain ⟨hk11, h⟩ := h
      refine m_callVI (pc := 48) (y := yX0_property) (κ := 0) (As := [.int p2]) (rest := []) C hK hP hS hl.1 ⟨Nat.zero_le _, Nat.zero_le _⟩ (c_X0_property h) rfl rfl hk11 (by decide) rfl q_504 q_505 q_506 q_6 q_507 ⟨rfl, rfl⟩ yd_X0_property ⟨Nat.le_of_ble_eq_true rfl, Nat.le_of_ble_eq_true rfl⟩ (Nat.le_of_ble_eq_true rfl) dX6_billet_48 (fun r12 M10 H locs h hP hS => ?_)
      exact m_iret (v := r12) (pc := 51) C hr hlk hP hS dX6_billet_51 h
    · replace h := h.2 (bZ0 c26)
      exact h.elim
  · replace h := h.2 (bZ0 c7)
    exact h.elim
/-! ForgeHeats.count (I)I -/
def wp_X6_count (n : Nat) (M : Mem) (i : Nat) (p1 : Int32) (P : Int32 → Mem → Prop) : Prop := wp_X6_isWithin n M p1 0 11 (fun z2 M1 => ((z2 = true → m_tp n i 6 ∧ (wp_X6_numberOf n M1 i p1 (fun r5 M3 => P r5 M3))) ∧ (z2 = false → False)))
abbrev rm_X6_count : Room := { frames := 3, cells := 0, slots := 0, locals := 65 }
set_option maxHeartbeats 4000000 in
set_option maxRecDepth 100000 in
theorem c_X6_count {l : Launch} {D : va_G} {cA : Nat → ClassId} {b n : Nat} {M : Mem} {i : Nat} {p1 : Int32} {P : Int32 → Mem → Prop} (h : wp_X6_count n M i p1 P) : m_C l D cA b n n M yX6_count cX6_count 2 (some .int) rm_X6_count 0 0 [.ref (b + i), .int p1] (rI P) := by
  refine m_enter (by decide) (Nat.le_of_ble_eq_true rfl) (fun p e s m below meth c C hr hlk hnm hK hP hS ls hl => ?_)
  have hx := C.1
  have hb := C.2.1
  have hl : lv_has ls 2 [(0, .ref (b + i)), (1, .int p1)] := hl
  unfold wp_X6_count at h
  refine lv_iload_n (pc := 0) hx hb dX6_count_0 rfl (lv_at hl 1 rfl) ?_
  refine lv_iconst (v := 0) (pc := 1) hx hb dX6_count_1 (by decide) ?_
  refine lv_bipush (v := 11) (pc := 2) hx hb dX6_count_2 (by decide) ?_
  refine m_callSZ (pc := 4) (y := yX6_isWithin) (As := [.int p1, .int 0, .int 11]) (rest := []) C hK hP hS hl.1 ⟨Nat.zero_le _, Nat.zero_le _⟩ (c_X6_isWithin h) rfl rfl q_387 q_388 q_1 q_389 ⟨rfl, rfl⟩ yd_X6_isWithin ⟨Nat.le_of_ble_eq_true rfl, Nat.le_of_ble_eq_true rfl⟩ (Nat.le_of_ble_eq_true rfl) dX6_count_4 (fun z2 M1 H locs h hP hS => ?_)
  refine lv_if_ne (tgt := 20) (pc := 7) hx hb dX6_count_7 (by decide) (fun c7 => ?_) (fun c7 => ?_)
  · replace h := h.1 (bZ1 c7)
    refine lv_aload_n (pc := 20) hx hb dX6_count_20 rfl (lv_at hl 0 rfl) ?_
    refine lv_iload_n (pc := 21) hx hb dX6_count_21 rfl (lv_at hl 1 rfl) ?_
    obtain ⟨hk4, h⟩ := h
    refine m_callVI (pc := 22) (y := yX6_numberOf) (κ := 6) (As := [.int p1]) (rest := []) C hK hP hS hl.1 ⟨Nat.zero_le _, Nat.zero_le _⟩ (c_X6_numberOf h) rfl rfl hk4 (by decide) rfl q_406 q_408 q_s3 q_1 q_409 ⟨rfl, rfl⟩ yd_X6_numberOf ⟨Nat.le_of_ble_eq_true rfl, Nat.le_of_ble_eq_true rfl⟩ (Nat.le_of_ble_eq_true rfl) dX6_count_22 (fun r5 M3 H locs h hP hS => ?_)
    exact m_iret (v := r5) (pc := 25) C hr hlk hP hS dX6_count_25 h
  · replace h := h.2 (bZ0 c7)
    exact h.elim
/-! ForgeHeats.setting (I)I -/
def wp_X6_setting (n : Nat) (M : Mem) (i : Nat) (p1 : Int32) (P : Int32 → Mem → Prop) : Prop := wp_X6_isWithin n M p1 0 3 (fun z2 M1 => ((z2 = true → m_tp n i 6 ∧ (∃ j4 : Nat, M1.2.1 i 0 = some j4 ∧ (m_tp n j4 5 ∧ (wp_X5_valueOf n M1 j4 p1 (fun r7 M5 => P r7 M5))))) ∧ (z2 = false → False)))
abbrev rm_X6_setting : Room := { frames := 1, cells := 0, slots := 0, locals := 22 }
set_option maxHeartbeats 4000000 in
set_option maxRecDepth 100000 in
theorem c_X6_setting {l : Launch} {D : va_G} {cA : Nat → ClassId} {b n : Nat} {M : Mem} {i : Nat} {p1 : Int32} {P : Int32 → Mem → Prop} (h : wp_X6_setting n M i p1 P) : m_C l D cA b n n M yX6_setting cX6_setting 2 (some .int) rm_X6_setting 0 0 [.ref (b + i), .int p1] (rI P) := by
  refine m_enter (by decide) (Nat.le_of_ble_eq_true rfl) (fun p e s m below meth c C hr hlk hnm hK hP hS ls hl => ?_)
  have hx := C.1
  have hb := C.2.1
  have hl : lv_has ls 2 [(0, .ref (b + i)), (1, .int p1)] := hl
  unfold wp_X6_setting at h
  refine lv_iload_n (pc := 0) hx hb dX6_setting_0 rfl (lv_at hl 1 rfl) ?_
  refine lv_iconst (v := 0) (pc := 1) hx hb dX6_setting_1 (by decide) ?_
  refine lv_iconst (v := 3) (pc := 2) hx hb dX6_setting_2 (by decide) ?_
  refine m_callSZ (pc := 3) (y := yX6_isWithin) (As := [.int p1, .int 0, .int 3]) (rest := []) C hK hP hS hl.1 ⟨Nat.zero_le _, Nat.zero_le _⟩ (c_X6_isWithin h) rfl rfl q_387 q_388 q_1 q_389 ⟨rfl, rfl⟩ yd_X6_isWithin ⟨Nat.le_of_ble_eq_true rfl, Nat.le_of_ble_eq_true rfl⟩ (Nat.le_of_ble_eq_true rfl) dX6_setting_3 (fun z2 M1 H locs h hP hS => ?_)
  refine lv_if_ne (tgt := 19) (pc := 6) hx hb dX6_setting_6 (by decide) (fun c6 => ?_) (fun c6 => ?_)
  · replace h := h.1 (bZ1 c6)
    refine lv_aload_n (pc := 19) hx hb dX6_setting_19 rfl (lv_at hl 0 rfl) ?_
    obtain ⟨hk3, h⟩ := h
    obtain ⟨j4, hj4, h⟩ := h
    refine gX6_10 (pc := 20) C hK hP hk3 hj4 dX6_setting_20 ?_
    refine lv_iload_n (pc := 23) hx hb dX6_setting_23 rfl (lv_at hl 1 rfl) ?_
    obtain ⟨hk6, h⟩ := h
    refine m_callVI (pc := 24) (y := yX5_valueOf) (κ := 5) (As := [.int p1]) (rest := []) C hK hP hS hl.1 ⟨Nat.zero_le _, Nat.zero_le _⟩ (c_X5_valueOf h) rfl rfl hk6 (by decide) rfl q_462 q_463 q_464 q_2 q_465 ⟨rfl, rfl⟩ yd_X5_valueOf ⟨Nat.le_of_ble_eq_true rfl, Nat.le_of_ble_eq_true rfl⟩ (Nat.le_of_ble_eq_true rfl) dX6_setting_24 (fun r7 M5 H locs h hP hS => ?_)
    exact m_iret (v := r7) (pc := 27) C hr hlk hP hS dX6_setting_27 h
  · replace h := h.2 (bZ0 c6)
    exact h.elim
