/-! ForgeHeats$Billet.copyFrom (LForgeHeats$Billet;)V -/
def wp_X0_copyFrom (n : Nat) (M : Mem) (i : Nat) (p1 : Nat) (P : Mem → Prop) : Prop := m_tp n p1 0 ∧ (m_tp n i 0 ∧ (∀ M3 : Mem, M3 = uI M i 0 (M.1 p1 0) → (∀ M4 : Mem, M4 = uI M3 i 1 (M3.1 p1 1) → (∀ M5 : Mem, M5 = uI M4 i 2 (M4.1 p1 2) → (∀ M6 : Mem, M6 = uI M5 i 3 (M5.1 p1 3) → (P M6))))))
abbrev rm_X0_copyFrom : Room := { frames := 0, cells := 0, slots := 0, locals := 0 }
set_option maxHeartbeats 4000000 in
set_option maxRecDepth 100000 in
theorem c_X0_copyFrom {l : Launch} {D : va_G} {cA : Nat → ClassId} {b n : Nat} {M : Mem} {i : Nat} {p1 : Nat} {P : Mem → Prop} (h : wp_X0_copyFrom n M i p1 P) : m_C l D cA b n n M yX0_copyFrom cX0_copyFrom 2 none rm_X0_copyFrom 0 0 [.ref (b + i), .ref (b + p1)] (rV P) := by
  refine m_enter (by decide) (Nat.le_of_ble_eq_true rfl) (fun p e s m below meth c C hr hlk hnm hK hP hS ls hl => ?_)
  have hx := C.1
  have hb := C.2.1
  have hl : lv_has ls 2 [(0, .ref (b + i)), (1, .ref (b + p1))] := hl
  unfold wp_X0_copyFrom at h
  refine lv_aload_n (pc := 0) hx hb dX0_copyFrom_0 rfl (lv_at hl 0 rfl) ?_
  refine lv_aload_n (pc := 1) hx hb dX0_copyFrom_1 rfl (lv_at hl 1 rfl) ?_
  obtain ⟨hk1, h⟩ := h
  refine gX0_9 (pc := 2) C hK hP hk1 dX0_copyFrom_2 ?_
  obtain ⟨hk2, h⟩ := h
  refine pX0_9 (pc := 5) (v := M.1 p1 0) C hK hP hS hk2 dX0_copyFrom_5 (fun M3 H locs eM3 hP hS => ?_)
  replace h := h M3 eM3
  refine lv_aload_n (pc := 8) hx hb dX0_copyFrom_8 rfl (lv_at hl 0 rfl) ?_
  refine lv_aload_n (pc := 9) hx hb dX0_copyFrom_9 rfl (lv_at hl 1 rfl) ?_
  refine gX0_15 (pc := 10) C hK hP hk1 dX0_copyFrom_10 ?_
  refine pX0_15 (pc := 13) (v := M3.1 p1 1) C hK hP hS hk2 dX0_copyFrom_13 (fun M4 H locs eM4 hP hS => ?_)
  replace h := h M4 eM4
  refine lv_aload_n (pc := 16) hx hb dX0_copyFrom_16 rfl (lv_at hl 0 rfl) ?_
  refine lv_aload_n (pc := 17) hx hb dX0_copyFrom_17 rfl (lv_at hl 1 rfl) ?_
  refine gX0_18 (pc := 18) C hK hP hk1 dX0_copyFrom_18 ?_
  refine pX0_18 (pc := 21) (v := M4.1 p1 2) C hK hP hS hk2 dX0_copyFrom_21 (fun M5 H locs eM5 hP hS => ?_)
  replace h := h M5 eM5
  refine lv_aload_n (pc := 24) hx hb dX0_copyFrom_24 rfl (lv_at hl 0 rfl) ?_
  refine lv_aload_n (pc := 25) hx hb dX0_copyFrom_25 rfl (lv_at hl 1 rfl) ?_
  refine gX0_21 (pc := 26) C hK hP hk1 dX0_copyFrom_26 ?_
  refine pX0_21 (pc := 29) (v := M5.1 p1 3) C hK hP hS hk2 dX0_copyFrom_29 (fun M6 H locs eM6 hP hS => ?_)
  replace h := h M6 eM6
  exact m_vret (pc := 32) C hr hlk hP hS dX0_copyFrom_32 h
/-! ForgeHeats$Billet.property (I)I -/
def wp_X0_property (n : Nat) (M : Mem) (i : Nat) (p1 : Int32) (P : Int32 → Mem → Prop) : Prop := m_tp n i 0 ∧ (((¬ (M.1 i 0) = (-1) → ((p1 = 0 → P (M.1 i 0) M) ∧ (¬ p1 = 0 → ((p1 = 1 → P (M.1 i 1) M) ∧ (¬ p1 = 1 → ((p1 = 2 → P (M.1 i 2) M) ∧ (¬ p1 = 2 → P (M.1 i 3) M))))))) ∧ ((M.1 i 0) = (-1) → P (-1) M)))
abbrev rm_X0_property : Room := { frames := 0, cells := 0, slots := 0, locals := 0 }
set_option maxHeartbeats 4000000 in
set_option maxRecDepth 100000 in
theorem c_X0_property {l : Launch} {D : va_G} {cA : Nat → ClassId} {b n : Nat} {M : Mem} {i : Nat} {p1 : Int32} {P : Int32 → Mem → Prop} (h : wp_X0_property n M i p1 P) : m_C l D cA b n n M yX0_property cX0_property 2 (some .int) rm_X0_property 0 0 [.ref (b + i), .int p1] (rI P) := by
  refine m_enter (by decide) (Nat.le_of_ble_eq_true rfl) (fun p e s m below meth c C hr hlk hnm hK hP hS ls hl => ?_)
  have hx := C.1
  have hb := C.2.1
  have hl : lv_has ls 2 [(0, .ref (b + i)), (1, .int p1)] := hl
  unfold wp_X0_property at h
  refine lv_aload_n (pc := 0) hx hb dX0_property_0 rfl (lv_at hl 0 rfl) ?_
  obtain ⟨hk1, h⟩ := h
  refine gX0_9 (pc := 1) C hK hP hk1 dX0_property_1 ?_
  refine lv_iconst (v := -1) (pc := 4) hx hb dX0_property_4 (by decide) ?_
  refine lv_icmp_ne (tgt := 10) (pc := 5) hx hb dX0_property_5 (by decide) (fun c5 => ?_) (fun c5 => ?_)
  · replace h := h.1 c5
    refine lv_iload_n (pc := 10) hx hb dX0_property_10 rfl (lv_at hl 1 rfl) ?_
    by_cases n11_0 : p1 = 0
    · replace h := h.1 n11_0
      refine m_case (v := 0) (off := 25) (tgt := 36) (pc := 11) hx hb n11_0 dX0_property_11 (by decide) (by decide) (by decide) (by decide) ?_
      refine lv_aload_n (pc := 36) hx hb dX0_property_36 rfl (lv_at hl 0 rfl) ?_
      refine gX0_9 (pc := 37) C hK hP hk1 dX0_property_37 ?_
      exact m_iret (v := M.1 i 0) (pc := 40) C hr hlk hP hS dX0_property_40 h
    · replace h := h.2 n11_0
      by_cases n11_1 : p1 = 1
      · replace h := h.1 n11_1
        refine m_case (v := 1) (off := 30) (tgt := 41) (pc := 11) hx hb n11_1 dX0_property_11 (by decide) (by decide) (by decide) (by decide) ?_
        refine lv_aload_n (pc := 41) hx hb dX0_property_41 rfl (lv_at hl 0 rfl) ?_
        refine gX0_15 (pc := 42) C hK hP hk1 dX0_property_42 ?_
        exact m_iret (v := M.1 i 1) (pc := 45) C hr hlk hP hS dX0_property_45 h
      · replace h := h.2 n11_1
        by_cases n11_2 : p1 = 2
        · replace h := h.1 n11_2
          refine m_case (v := 2) (off := 35) (tgt := 46) (pc := 11) hx hb n11_2 dX0_property_11 (by decide) (by decide) (by decide) (by decide) ?_
          refine lv_aload_n (pc := 46) hx hb dX0_property_46 rfl (lv_at hl 0 rfl) ?_
          refine gX0_18 (pc := 47) C hK hP hk1 dX0_property_47 ?_
          exact m_iret (v := M.1 i 2) (pc := 50) C hr hlk hP hS dX0_property_50 h
        · replace h := h.2 n11_2
          refine lv_tableOut (tgt := 51) (pc := 11) hx hb dX0_property_11 (by have i0 := i_ne n11_0; have i1 := i_ne n11_1; have i2 := i_ne n11_2; simp only [m_lit] at *; omega) (by decide) ?_
          refine lv_aload_n (pc := 51) hx hb dX0_property_51 rfl (lv_at hl 0 rfl) ?_
          refine gX0_21 (pc := 52) C hK hP hk1 dX0_property_52 ?_
          exact m_iret (v := M.1 i 3) (pc := 55) C hr hlk hP hS dX0_property_55 h
  · replace h := h.2 c5
    refine lv_iconst (v := -1) (pc := 8) hx hb dX0_property_8 (by decide) ?_
    exact m_iret (v := (-1)) (pc := 9) C hr hlk hP hS dX0_property_9 h
/-! ForgeHeats$Die.copyFrom (LForgeHeats$Die;)V -/
def wp_X1_copyFrom (n : Nat) (M : Mem) (i : Nat) (p1 : Nat) (P : Mem → Prop) : Prop := m_tp n p1 1 ∧ (m_tp n i 1 ∧ (∀ M3 : Mem, M3 = uI M i 0 (M.1 p1 0) → (∀ M4 : Mem, M4 = uI M3 i 1 (M3.1 p1 1) → (∀ M5 : Mem, M5 = uI M4 i 2 (M4.1 p1 2) → (∀ M6 : Mem, M6 = uI M5 i 3 (M5.1 p1 3) → (∀ M7 : Mem, M7 = uI M6 i 4 (M6.1 p1 4) → (∀ M8 : Mem, M8 = uI M7 i 5 (M7.1 p1 5) → (P M8))))))))
abbrev rm_X1_copyFrom : Room := { frames := 0, cells := 0, slots := 0, locals := 0 }
set_option maxHeartbeats 4000000 in
set_option maxRecDepth 100000 in
theorem c_X1_copyFrom {l : Launch} {D : va_G} {cA : Nat → ClassId} {b n : Nat} {M : Mem} {i : Nat} {p1 : Nat} {P : Mem → Prop} (h : wp_X1_copyFrom n M i p1 P) : m_C l D cA b n n M yX1_copyFrom cX1_copyFrom 2 none rm_X1_copyFrom 0 0 [.ref (b + i), .ref (b + p1)] (rV P) := by
  refine m_enter (by decide) (Nat.le_of_ble_eq_true rfl) (fun p e s m below meth c C hr hlk hnm hK hP hS ls hl => ?_)
  have hx := C.1
  have hb := C.2.1
  have hl : lv_has ls 2 [(0, .ref (b + i)), (1, .ref (b + p1))] := hl
  unfold wp_X1_copyFrom at h
  refine lv_aload_n (pc := 0) hx hb dX1_copyFrom_0 rfl (lv_at hl 0 rfl) ?_
  refine lv_aload_n (pc := 1) hx hb dX1_copyFrom_1 rfl (lv_at hl 1 rfl) ?_
  obtain ⟨hk1, h⟩ := h
  refine gX1_9 (pc := 2) C hK hP hk1 dX1_copyFrom_2 ?_
  obtain ⟨hk2, h⟩ := h
  refine pX1_9 (pc := 5) (v := M.1 p1 0) C hK hP hS hk2 dX1_copyFrom_5 (fun M3 H locs eM3 hP hS => ?_)
  replace h := h M3 eM3
  refine lv_aload_n (pc := 8) hx hb dX1_copyFrom_8 rfl (lv_at hl 0 rfl) ?_
  refine lv_aload_n (pc := 9) hx hb dX1_copyFrom_9 rfl (lv_at hl 1 rfl) ?_
  refine gX1_15 (pc := 10) C hK hP hk1 dX1_copyFrom_10 ?_
  refine pX1_15 (pc := 13) (v := M3.1 p1 1) C hK hP hS hk2 dX1_copyFrom_13 (fun M4 H locs eM4 hP hS => ?_)
  replace h := h M4 eM4
  refine lv_aload_n (pc := 16) hx hb dX1_copyFrom_16 rfl (lv_at hl 0 rfl) ?_
  refine lv_aload_n (pc := 17) hx hb dX1_copyFrom_17 rfl (lv_at hl 1 rfl) ?_
  refine gX1_18 (pc := 18) C hK hP hk1 dX1_copyFrom_18 ?_
  refine pX1_18 (pc := 21) (v := M4.1 p1 2) C hK hP hS hk2 dX1_copyFrom_21 (fun M5 H locs eM5 hP hS => ?_)
  replace h := h M5 eM5
  refine lv_aload_n (pc := 24) hx hb dX1_copyFrom_24 rfl (lv_at hl 0 rfl) ?_
  refine lv_aload_n (pc := 25) hx hb dX1_copyFrom_25 rfl (lv_at hl 1 rfl) ?_
  refine gX1_21 (pc := 26) C hK hP hk1 dX1_copyFrom_26 ?_
  refine pX1_21 (pc := 29) (v := M5.1 p1 3) C hK hP hS hk2 dX1_copyFrom_29 (fun M6 H locs eM6 hP hS => ?_)
  replace h := h M6 eM6
  refine lv_aload_n (pc := 32) hx hb dX1_copyFrom_32 rfl (lv_at hl 0 rfl) ?_
  refine lv_aload_n (pc := 33) hx hb dX1_copyFrom_33 rfl (lv_at hl 1 rfl) ?_
  refine gX1_24 (pc := 34) C hK hP hk1 dX1_copyFrom_34 ?_
  refine pX1_24 (pc := 37) (v := M6.1 p1 4) C hK hP hS hk2 dX1_copyFrom_37 (fun M7 H locs eM7 hP hS => ?_)
  replace h := h M7 eM7
  refine lv_aload_n (pc := 40) hx hb dX1_copyFrom_40 rfl (lv_at hl 0 rfl) ?_
  refine lv_aload_n (pc := 41) hx hb dX1_copyFrom_41 rfl (lv_at hl 1 rfl) ?_
  refine gX1_27 (pc := 42) C hK hP hk1 dX1_copyFrom_42 ?_
  refine pX1_27 (pc := 45) (v := M7.1 p1 5) C hK hP hS hk2 dX1_copyFrom_45 (fun M8 H locs eM8 hP hS => ?_)
  replace h := h M8 eM8
  exact m_vret (pc := 48) C hr hlk hP hS dX1_copyFrom_48 h
/-! ForgeHeats$Die.isBeingGround ()Z -/
def wp_X1_isBeingGround (n : Nat) (M : Mem) (i : Nat) (P : Bool → Mem → Prop) : Prop := m_tp n i 1 ∧ (P (if (M.1 i 3) ≤ 0 then false else true) M)
abbrev rm_X1_isBeingGround : Room := { frames := 0, cells := 0, slots := 0, locals := 0 }
set_option maxHeartbeats 4000000 in
set_option maxRecDepth 100000 in
theorem c_X1_isBeingGround {l : Launch} {D : va_G} {cA : Nat → ClassId} {b n : Nat} {M : Mem} {i : Nat} {P : Bool → Mem → Prop} (h : wp_X1_isBeingGround n M i P) : m_C l D cA b n n M yX1_isBeingGround cX1_isBeingGround 1 (some .boolean) rm_X1_isBeingGround 0 0 [.ref (b + i)] (rZ P) := by
  refine m_enter (by decide) (Nat.le_of_ble_eq_true rfl) (fun p e s m below meth c C hr hlk hnm hK hP hS ls hl => ?_)
  have hx := C.1
  have hb := C.2.1
  have hl : lv_has ls 1 [(0, .ref (b + i))] := hl
  unfold wp_X1_isBeingGround at h
  refine lv_aload_n (pc := 0) hx hb dX1_isBeingGround_0 rfl (lv_at hl 0 rfl) ?_
  obtain ⟨hk1, h⟩ := h
  refine gX1_21 (pc := 1) C hK hP hk1 dX1_isBeingGround_1 ?_
  refine m_joinZ (z := if (M.1 i 3) ≤ 0 then false else true) (jp := 12) (rest := []) ?_ (fun hJ => ?_)
  rotate_left
  · skip
    refine lv_if_le (tgt := 11) (pc := 4) hx hb dX1_isBeingGround_4 (by decide) (fun c4 => ?_) (fun c4 => ?_)
    · skip
      refine lv_iconst (v := 0) (pc := 11) hx hb dX1_isBeingGround_11 (by decide) ?_
      exact hJ _ false rfl (by rw [if_pos c4])
    · skip
      refine lv_iconst (v := 1) (pc := 7) hx hb dX1_isBeingGround_7 (by decide) ?_
      refine lv_goto (tgt := 12) (pc := 8) hx hb dX1_isBeingGround_8 (by decide) ?_
      exact hJ _ true rfl (by rw [if_neg c4])
  exact m_zret (v := if (M.1 i 3) ≤ 0 then false else true) (pc := 12) C hr hlk hP hS dX1_isBeingGround_12 h
/-! ForgeHeats$Die.isWornOut ()Z -/
def wp_X1_isWornOut (n : Nat) (M : Mem) (i : Nat) (P : Bool → Mem → Prop) : Prop := m_tp n i 1 ∧ (P (if (M.1 i 2) < (M.1 i 1) then false else true) M)
abbrev rm_X1_isWornOut : Room := { frames := 0, cells := 0, slots := 0, locals := 0 }
set_option maxHeartbeats 4000000 in
set_option maxRecDepth 100000 in
theorem c_X1_isWornOut {l : Launch} {D : va_G} {cA : Nat → ClassId} {b n : Nat} {M : Mem} {i : Nat} {P : Bool → Mem → Prop} (h : wp_X1_isWornOut n M i P) : m_C l D cA b n n M yX1_isWornOut cX1_isWornOut 1 (some .boolean) rm_X1_isWornOut 0 0 [.ref (b + i)] (rZ P) := by
  refine m_enter (by decide) (Nat.le_of_ble_eq_true rfl) (fun p e s m below meth c C hr hlk hnm hK hP hS ls hl => ?_)
  have hx := C.1
  have hb := C.2.1
  have hl : lv_has ls 1 [(0, .ref (b + i))] := hl
  unfold wp_X1_isWornOut at h
  refine lv_aload_n (pc := 0) hx hb dX1_isWornOut_0 rfl (lv_at hl 0 rfl) ?_
  obtain ⟨hk1, h⟩ := h
  refine gX1_18 (pc := 1) C hK hP hk1 dX1_isWornOut_1 ?_
  refine lv_aload_n (pc := 4) hx hb dX1_isWornOut_4 rfl (lv_at hl 0 rfl) ?_
  refine gX1_15 (pc := 5) C hK hP hk1 dX1_isWornOut_5 ?_
  refine m_joinZ (z := if (M.1 i 2) < (M.1 i 1) then false else true) (jp := 16) (rest := []) ?_ (fun hJ => ?_)
  rotate_left
  · skip
    refine lv_icmp_lt (tgt := 15) (pc := 8) hx hb dX1_isWornOut_8 (by decide) (fun c8 => ?_) (fun c8 => ?_)
    · skip
      refine lv_iconst (v := 0) (pc := 15) hx hb dX1_isWornOut_15 (by decide) ?_
      exact hJ _ false rfl (by rw [if_pos c8])
    · skip
      refine lv_iconst (v := 1) (pc := 11) hx hb dX1_isWornOut_11 (by decide) ?_
      refine lv_goto (tgt := 16) (pc := 12) hx hb dX1_isWornOut_12 (by decide) ?_
      exact hJ _ true rfl (by rw [if_neg c8])
  exact m_zret (v := if (M.1 i 2) < (M.1 i 1) then false else true) (pc := 16) C hr hlk hP hS dX1_isWornOut_16 h
/-! ForgeHeats$Die.canForge ()Z -/
def wp_X1_canForge (n : Nat) (M : Mem) (i : Nat) (P : Bool → Mem → Prop) : Prop := m_tp n i 1 ∧ (((0 < (M.1 i 3) → P false M) ∧ (¬ 0 < (M.1 i 3) → P (if (M.1 i 1) ≤ (M.1 i 2) then false else true) M)))
abbrev rm_X1_canForge : Room := { frames := 0, cells := 0, slots := 0, locals := 0 }
set_option maxHeartbeats 4000000 in
set_option maxRecDepth 100000 in
theorem c_X1_canForge {l : Launch} {D : va_G} {cA : Nat → ClassId} {b n : Nat} {M : Mem} {i : Nat} {P : Bool → Mem → Prop} (h : wp_X1_canForge n M i P) : m_C l D cA b n n M yX1_canForge cX1_canForge 1 (some .boolean) rm_X1_canForge 0 0 [.ref (b + i)] (rZ P) := by
  refine m_enter (by decide) (Nat.le_of_ble_eq_true rfl) (fun p e s m below meth c C hr hlk hnm hK hP hS ls hl => ?_)
  have hx := C.1
  have hb := C.2.1
  have hl : lv_has ls 1 [(0, .ref (b + i))] := hl
  unfold wp_X1_canForge at h
  refine lv_aload_n (pc := 0) hx hb dX1_canForge_0 rfl (lv_at hl 0 rfl) ?_
  obtain ⟨hk1, h⟩ := h
  refine gX1_21 (pc := 1) C hK hP hk1 dX1_canForge_1 ?_
  refine lv_if_gt (tgt := 22) (pc := 4) hx hb dX1_canForge_4 (by decide) (fun c4 => ?_) (fun c4 => ?_)
  · replace h := h.1 c4
    refine lv_iconst (v := 0) (pc := 22) hx hb dX1_canForge_22 (by decide) ?_
    exact m_zret (v := false) (pc := 23) C hr hlk hP hS dX1_canForge_23 h
  · replace h := h.2 c4
    refine lv_aload_n (pc := 7) hx hb dX1_canForge_7 rfl (lv_at hl 0 rfl) ?_
    refine gX1_18 (pc := 8) C hK hP hk1 dX1_canForge_8 ?_
    refine lv_aload_n (pc := 11) hx hb dX1_canForge_11 rfl (lv_at hl 0 rfl) ?_
    refine gX1_15 (pc := 12) C hK hP hk1 dX1_canForge_12 ?_
    refine m_joinZ (z := if (M.1 i 1) ≤ (M.1 i 2) then false else true) (jp := 23) (rest := []) ?_ (fun hJ => ?_)
    rotate_left
    · skip
      refine lv_icmp_ge (tgt := 22) (pc := 15) hx hb dX1_canForge_15 (by decide) (fun c15 => ?_) (fun c15 => ?_)
      · skip
        refine lv_iconst (v := 0) (pc := 22) hx hb dX1_canForge_22 (by decide) ?_
        exact hJ _ false rfl (by rw [if_pos c15])
      · skip
        refine lv_iconst (v := 1) (pc := 18) hx hb dX1_canForge_18 (by decide) ?_
        refine lv_goto (tgt := 23) (pc := 19) hx hb dX1_canForge_19 (by decide) ?_
        exact hJ _ true rfl (by rw [if_neg c15])
    exact m_zret (v := if (M.1 i 1) ≤ (M.1 i 2) then false else true) (pc := 23) C hr hlk hP hS dX1_canForge_23 h
/-! ForgeHeats$Die.grindMinute ()V -/
def wp_X1_grindMinute (n : Nat) (M : Mem) (i : Nat) (P : Mem → Prop) : Prop := m_tp n i 1 ∧ (∀ M2 : Mem, M2 = uI M i 3 ((M.1 i 3) - 1) → (((0 < (M2.1 i 3) → P M2) ∧ (¬ 0 < (M2.1 i 3) → ∀ M3 : Mem, M3 = uI M2 i 2 0 → (∀ M4 : Mem, M4 = uI M3 i 1 (if 10 < ((M3.1 i 1) - 5) then ((M3.1 i 1) - 5) else 10) → (∀ M5 : Mem, M5 = uI M4 i 5 ((M4.1 i 5) + 1) → (P M5)))))))
abbrev rm_X1_grindMinute : Room := { frames := 1, cells := 0, slots := 0, locals := 21 }
set_option maxHeartbeats 4000000 in
set_option maxRecDepth 100000 in
theorem c_X1_grindMinute {l : Launch} {D : va_G} {cA : Nat → ClassId} {b n : Nat} {M : Mem} {i : Nat} {P : Mem → Prop} (h : wp_X1_grindMinute n M i P) : m_C l D cA b n n M yX1_grindMinute cX1_grindMinute 1 none rm_X1_grindMinute 0 0 [.ref (b + i)] (rV P) := by
  refine m_enter (by decide) (Nat.le_of_ble_eq_true rfl) (fun p e s m below meth c C hr hlk hnm hK hP hS ls hl => ?_)
  have hx := C.1
  have hb := C.2.1
  have hl : lv_has ls 1 [(0, .ref (b + i))] := hl
  unfold wp_X1_grindMinute at h
  refine lv_aload_n (pc := 0) hx hb dX1_grindMinute_0 rfl (lv_at hl 0 rfl) ?_
  refine lv_dup (pc := 1) hx hb dX1_grindMinute_1 rfl ?_
  obtain ⟨hk1, h⟩ := h
  refine gX1_21 (pc := 2) C hK hP hk1 dX1_grindMinute_2 ?_
  refine lv_iconst (v := 1) (pc := 5) hx hb dX1_grindMinute_5 (by decide) ?_
  refine lv_isub (pc := 6) hx hb dX1_grindMinute_6 ?_
  refine pX1_21 (pc := 7) (v := (M.1 i 3) - 1) C hK hP hS hk1 dX1_grindMinute_7 (fun M2 H locs eM2 hP hS => ?_)
  replace h := h M2 eM2
  refine lv_aload_n (pc := 10) hx hb dX1_grindMinute_10 rfl (lv_at hl 0 rfl) ?_
  refine gX1_21 (pc := 11) C hK hP hk1 dX1_grindMinute_11 ?_
  refine lv_if_gt (tgt := 47) (pc := 14) hx hb dX1_grindMinute_14 (by decide) (fun c14 => ?_) (fun c14 => ?_)
  · replace h := h.1 c14
    exact m_vret (pc := 47) C hr hlk hP hS dX1_grindMinute_47 h
  · replace h := h.2 c14
    refine lv_aload_n (pc := 17) hx hb dX1_grindMinute_17 rfl (lv_at hl 0 rfl) ?_
    refine lv_iconst (v := 0) (pc := 18) hx hb dX1_grindMinute_18 (by decide) ?_
    refine pX1_18 (pc := 19) (v := 0) C hK hP hS hk1 dX1_grindMinute_19 (fun M3 H locs eM3 hP hS => ?_)
    replace h := h M3 eM3
    refine lv_aload_n (pc := 22) hx hb dX1_grindMinute_22 rfl (lv_at hl 0 rfl) ?_
    refine lv_bipush (v := 10) (pc := 23) hx hb dX1_grindMinute_23 (by decide) ?_
    refine lv_aload_n (pc := 25) hx hb dX1_grindMinute_25 rfl (lv_at hl 0 rfl) ?_
    refine gX1_15 (pc := 26) C hK hP hk1 dX1_grindMinute_26 ?_
    refine lv_iconst (v := 5) (pc := 29) hx hb dX1_grindMinute_29 (by decide) ?_
    refine lv_isub (pc := 30) hx hb dX1_grindMinute_30 ?_
    refine va_mmax (pc := 31) hx hb (C.2.2.1.trans hl.1.symm) C.2.2.2.1 (C.2.2.2.2 _ q_693) (C.2.2.2.2 _ q_678) (C.2.2.2.2 _ q_14) (C.2.2.2.2 _ q_679) (Nat.le_of_ble_eq_true rfl) (Nat.le_of_ble_eq_true rfl) (Nat.zero_le _) (Nat.zero_le _) dX1_grindMinute_31 ?_
    refine pX1_15 (pc := 34) (v := if 10 < ((M3.1 i 1) - 5) then ((M3.1 i 1) - 5) else 10) C hK hP hS hk1 dX1_grindMinute_34 (fun M4 H locs eM4 hP hS => ?_)
    replace h := h M4 eM4
    refine lv_aload_n (pc := 37) hx hb dX1_grindMinute_37 rfl (lv_at hl 0 rfl) ?_
    refine lv_dup (pc := 38) hx hb dX1_grindMinute_38 rfl ?_
    refine gX1_27 (pc := 39) C hK hP hk1 dX1_grindMinute_39 ?_
    refine lv_iconst (v := 1) (pc := 42) hx hb dX1_grindMinute_42 (by decide) ?_
    refine lv_iadd (pc := 43) hx hb dX1_grindMinute_43 ?_
    refine pX1_27 (pc := 44) (v := (M4.1 i 5) + 1) C hK hP hS hk1 dX1_grindMinute_44 (fun M5 H locs eM5 hP hS => ?_)
    replace h := h M5 eM5
    exact m_vret (pc := 47) C hr hlk hP hS dX1_grindMinute_47 h
/-! ForgeHeats$Die.property (I)I -/
def wp_X1_property (n : Nat) (M : Mem) (i : Nat) (p1 : Int32) (P : Int32 → Mem → Prop) : Prop := ((p1 = 0 → m_tp n i 1 ∧ (P (M.1 i 0) M)) ∧ (¬ p1 = 0 → ((p1 = 1 → m_tp n i 1 ∧ (P (M.1 i 1) M)) ∧ (¬ p1 = 1 → ((p1 = 2 → m_tp n i 1 ∧ (P (M.1 i 2) M)) ∧ (¬ p1 = 2 → ((p1 = 3 → m_tp n i 1 ∧ (P (M.1 i 3) M)) ∧ (¬ p1 = 3 → ((p1 = 4 → m_tp n i 1 ∧ (P (M.1 i 4) M)) ∧ (¬ p1 = 4 → m_tp n i 1 ∧ (P (M.1 i 5) M)))))))))))
abbrev rm_X1_property : Room := { frames := 0, cells := 0, slots := 0, locals := 0 }
set_option maxHeartbeats 4000000 in
set_option maxRecDepth 100000 in
theorem c_X1_property {l : Launch} {D : va_G} {cA : Nat → ClassId} {b n : Nat} {M : Mem} {i : Nat} {p1 : Int32} {P : Int32 → Mem → Prop} (h : wp_X1_property n M i p1 P) : m_C l D cA b n n M yX1_property cX1_property 2 (some .int) rm_X1_property 0 0 [.ref (b + i), .int p1] (rI P) := by
  refine m_enter (by decide) (Nat.le_of_ble_eq_true rfl) (fun p e s m below meth c C hr hlk hnm hK hP hS ls hl => ?_)
  have hx := C.1
  have hb := C.2.1
  have hl : lv_has ls 2 [(0, .ref (b + i)), (1, .int p1)] := hl
  unfold wp_X1_property at h
  refine lv_iload_n (pc := 0) hx hb dX1_property_0 rfl (lv_at hl 1 rfl) ?_
  by_cases n1_0 : p1 = 0
  · replace h := h.1 n1_0
    refine m_case (v := 0) (off := 35) (tgt := 36) (pc := 1) hx hb n1_0 dX1_property_1 (by decide) (by decide) (by decide) (by decide) ?_
    refine lv_aload_n (pc := 36) hx hb dX1_property_36 rfl (lv_at hl 0 rfl) ?_
    obtain ⟨hk1, h⟩ := h
    refine gX1_9 (pc := 37) C hK hP hk1 dX1_property_37 ?_
    exact m_iret (v := M.1 i 0) (pc := 40) C hr hlk hP hS dX1_property_40 h
  · replace h := h.2 n1_0
    by_cases n1_1 : p1 = 1
    · replace h := h.1 n1_1
      refine m_case (v := 1) (off := 40) (tgt := 41) (pc := 1) hx hb n1_1 dX1_property_1 (by decide) (by decide) (by decide) (by decide) ?_
      refine lv_aload_n (pc := 41) hx hb dX1_property_41 rfl (lv_at hl 0 rfl) ?_
      obtain ⟨hk2, h⟩ := h
      refine gX1_15 (pc := 42) C hK hP hk2 dX1_property_42 ?_
      exact m_iret (v := M.1 i 1) (pc := 45) C hr hlk hP hS dX1_property_45 h
    · replace h := h.2 n1_1
      by_cases n1_2 : p1 = 2
      · replace h := h.1 n1_2
        refine m_case (v := 2) (off := 45) (tgt := 46) (pc := 1) hx hb n1_2 dX1_property_1 (by decide) (by decide) (by decide) (by decide) ?_
        refine lv_aload_n (pc := 46) hx hb dX1_property_46 rfl (lv_at hl 0 rfl) ?_
        obtain ⟨hk3, h⟩ := h
        refine gX1_18 (pc := 47) C hK hP hk3 dX1_property_47 ?_
        exact m_iret (v := M.1 i 2) (pc := 50) C hr hlk hP hS dX1_property_50 h
      · replace h := h.2 n1_2
        by_cases n1_3 : p1 = 3
        · replace h := h.1 n1_3
          refine m_case (v := 3) (off := 50) (tgt := 51) (pc := 1) hx hb n1_3 dX1_property_1 (by decide) (by decide) (by decide) (by decide) ?_
          refine lv_aload_n (pc := 51) hx hb dX1_property_51 rfl (lv_at hl 0 rfl) ?_
          obtain ⟨hk4, h⟩ := h
          refine gX1_21 (pc := 52) C hK hP hk4 dX1_property_52 ?_
          exact m_iret (v := M.1 i 3) (pc := 55) C hr hlk hP hS dX1_property_55 h
        · replace h := h.2 n1_3
          by_cases n1_4 : p1 = 4
          · replace h := h.1 n1_4
            refine m_case (v := 4) (off := 55) (tgt := 56) (pc := 1) hx hb n1_4 dX1_property_1 (by decide) (by decide) (by decide) (by decide) ?_
            refine lv_aload_n (pc := 56) hx hb dX1_property_56 rfl (lv_at hl 0 rfl) ?_
            obtain ⟨hk5, h⟩ := h
            refine gX1_24 (pc := 57) C hK hP hk5 dX1_property_57 ?_
            exact m_iret (v := M.1 i 4) (pc := 60) C hr hlk hP hS dX1_property_60 h
          · replace h := h.2 n1_4
            refine lv_tableOut (tgt := 61) (pc := 1) hx hb dX1_property_1 (by have i0 := i_ne n1_0; have i1 := i_ne n1_1; have i2 := i_ne n1_2; have i3 := i_ne n1_3; have i4 := i_ne n1_4; simp only [m_lit] at *; omega) (by decide) ?_
            refine lv_aload_n (pc := 61) hx hb dX1_property_61 rfl (lv_at hl 0 rfl) ?_
            obtain ⟨hk6, h⟩ := h
            refine gX1_27 (pc := 62) C hK hP hk6 dX1_property_62 ?_
            exact m_iret (v := M.1 i 5) (pc := 65) C hr hlk hP hS dX1_property_65 h
/-! ForgeHeats$Heat.copyFrom (LForgeHeats$Heat;)V -/
def wp_X2_copyFrom (n : Nat) (M : Mem) (i : Nat) (p1 : Nat) (P : Mem → Prop) : Prop := m_tp n p1 2 ∧ (m_tp n i 2 ∧ (∀ M3 : Mem, M3 = uI M i 0 (M.1 p1 0) → (∀ M4 : Mem, M4 = uI M3 i 1 (M3.1 p1 1) → (∀ M5 : Mem, M5 = uI M4 i 2 (M4.1 p1 2) → (∀ M6 : Mem, M6 = uI M5 i 3 (M5.1 p1 3) → (∀ M7 : Mem, M7 = uI M6 i 4 (M6.1 p1 4) → (P M7)))))))
abbrev rm_X2_copyFrom : Room := { frames := 0, cells := 0, slots := 0, locals := 0 }
set_option maxHeartbeats 4000000 in
set_option maxRecDepth 100000 in
theorem c_X2_copyFrom {l : Launch} {D : va_G} {cA : Nat → ClassId} {b n : Nat} {M : Mem} {i : Nat} {p1 : Nat} {P : Mem → Prop} (h : wp_X2_copyFrom n M i p1 P) : m_C l D cA b n n M yX2_copyFrom cX2_copyFrom 2 none rm_X2_copyFrom 0 0 [.ref (b + i), .ref (b + p1)] (rV P) := by
  refine m_enter (by decide) (Nat.le_of_ble_eq_true rfl) (fun p e s m below meth c C hr hlk hnm hK hP hS ls hl => ?_)
  have hx := C.1
  have hb := C.2.1
  have hl : lv_has ls 2 [(0, .ref (b + i)), (1, .ref (b + p1))] := hl
  unfold wp_X2_copyFrom at h
  refine lv_aload_n (pc := 0) hx hb dX2_copyFrom_0 rfl (lv_at hl 0 rfl) ?_
  refine lv_aload_n (pc := 1) hx hb dX2_copyFrom_1 rfl (lv_at hl 1 rfl) ?_
  obtain ⟨hk1, h⟩ := h
  refine gX2_16 (pc := 2) C hK hP hk1 dX2_copyFrom_2 ?_
  obtain ⟨hk2, h⟩ := h
  refine pX2_16 (pc := 5) (v := M.1 p1 0) C hK hP hS hk2 dX2_copyFrom_5 (fun M3 H locs eM3 hP hS => ?_)
  replace h := h M3 eM3
  refine lv_aload_n (pc := 8) hx hb dX2_copyFrom_8 rfl (lv_at hl 0 rfl) ?_
  refine lv_aload_n (pc := 9) hx hb dX2_copyFrom_9 rfl (lv_at hl 1 rfl) ?_
  refine gX2_7 (pc := 10) C hK hP hk1 dX2_copyFrom_10 ?_
  refine pX2_7 (pc := 13) (v := M3.1 p1 1) C hK hP hS hk2 dX2_copyFrom_13 (fun M4 H locs eM4 hP hS => ?_)
  replace h := h M4 eM4
  refine lv_aload_n (pc := 16) hx hb dX2_copyFrom_16 rfl (lv_at hl 0 rfl) ?_
  refine lv_aload_n (pc := 17) hx hb dX2_copyFrom_17 rfl (lv_at hl 1 rfl) ?_
  refine gX2_13 (pc := 18) C hK hP hk1 dX2_copyFrom_18 ?_
  refine pX2_13 (pc := 21) (v := M4.1 p1 2) C hK hP hS hk2 dX2_copyFrom_21 (fun M5 H locs eM5 hP hS => ?_)
  replace h := h M5 eM5
  refine lv_aload_n (pc := 24) hx hb dX2_copyFrom_24 rfl (lv_at hl 0 rfl) ?_
  refine lv_aload_n (pc := 25) hx hb dX2_copyFrom_25 rfl (lv_at hl 1 rfl) ?_
  refine gX2_19 (pc := 26) C hK hP hk1 dX2_copyFrom_26 ?_
  refine pX2_19 (pc := 29) (v := M5.1 p1 3) C hK hP hS hk2 dX2_copyFrom_29 (fun M6 H locs eM6 hP hS => ?_)
  replace h := h M6 eM6
  refine lv_aload_n (pc := 32) hx hb dX2_copyFrom_32 rfl (lv_at hl 0 rfl) ?_
  refine lv_aload_n (pc := 33) hx hb dX2_copyFrom_33 rfl (lv_at hl 1 rfl) ?_
  refine gX2_22 (pc := 34) C hK hP hk1 dX2_copyFrom_34 ?_
  refine pX2_22 (pc := 37) (v := M6.1 p1 4) C hK hP hS hk2 dX2_copyFrom_37 (fun M7 H locs eM7 hP hS => ?_)
  replace h := h M7 eM7
  exact m_vret (pc := 40) C hr hlk hP hS dX2_copyFrom_40 h
/-! ForgeHeats$Job.copyFrom (LForgeHeats$Job;)V -/
def wp_X3_copyFrom (n : Nat) (M : Mem) (i : Nat) (p1 : Nat) (P : Mem → Prop) : Prop := m_tp n p1 3 ∧ (m_tp n i 3 ∧ (∀ M3 : Mem, M3 = uI M i 0 (M.1 p1 0) → (∀ M4 : Mem, M4 = uI M3 i 1 (M3.1 p1 1) → (∀ M5 : Mem, M5 = uI M4 i 2 (M4.1 p1 2) → (∀ M6 : Mem, M6 = uI M5 i 3 (M5.1 p1 3) → (∀ M7 : Mem, M7 = uI M6 i 4 (M6.1 p1 4) → (∀ M8 : Mem, M8 = uI M7 i 5 (M7.1 p1 5) → (∀ M9 : Mem, M9 = uI M8 i 6 (bI (M8.1 p1 6 != 0)) → (∀ M10 : Mem, M10 = uI M9 i 7 (M9.1 p1 7) → (P M10))))))))))
abbrev rm_X3_copyFrom : Room := { frames := 0, cells := 0, slots := 0, locals := 0 }
set_option maxHeartbeats 4000000 in
set_option maxRecDepth 100000 in
theorem c_X3_copyFrom {l : Launch} {D : va_G} {cA : Nat → ClassId} {b n : Nat} {M : Mem} {i : Nat} {p1 : Nat} {P : Mem → Prop} (h : wp_X3_copyFrom n M i p1 P) : m_C l D cA b n n M yX3_copyFrom cX3_copyFrom 2 none rm_X3_copyFrom 0 0 [.ref (b + i), .ref (b + p1)] (rV P) := by
  refine m_enter (by decide) (Nat.le_of_ble_eq_true rfl) (fun p e s m below meth c C hr hlk hnm hK hP hS ls hl => ?_)
  have hx := C.1
  have hb := C.2.1
  have hl : lv_has ls 2 [(0, .ref (b + i)), (1, .ref (b + p1))] := hl
  unfold wp_X3_copyFrom at h
  refine lv_aload_n (pc := 0) hx hb dX3_copyFrom_0 rfl (lv_at hl 0 rfl) ?_
  refine lv_aload_n (pc := 1) hx hb dX3_copyFrom_1 rfl (lv_at hl 1 rfl) ?_
  obtain ⟨hk1, h⟩ := h
  refine gX3_7 (pc := 2) C hK hP hk1 dX3_copyFrom_2 ?_
  obtain ⟨hk2, h⟩ := h
  refine pX3_7 (pc := 5) (v := M.1 p1 0) C hK hP hS hk2 dX3_copyFrom_5 (fun M3 H locs eM3 hP hS => ?_)
  replace h := h M3 eM3
  refine lv_aload_n (pc := 8) hx hb dX3_copyFrom_8 rfl (lv_at hl 0 rfl) ?_
  refine lv_aload_n (pc := 9) hx hb dX3_copyFrom_9 rfl (lv_at hl 1 rfl) ?_
  refine gX3_13 (pc := 10) C hK hP hk1 dX3_copyFrom_10 ?_
  refine pX3_13 (pc := 13) (v := M3.1 p1 1) C hK hP hS hk2 dX3_copyFrom_13 (fun M4 H locs eM4 hP hS => ?_)
  replace h := h M4 eM4
  refine lv_aload_n (pc := 16) hx hb dX3_copyFrom_16 rfl (lv_at hl 0 rfl) ?_
  refine lv_aload_n (pc := 17) hx hb dX3_copyFrom_17 rfl (lv_at hl 1 rfl) ?_
  refine gX3_16 (pc := 18) C hK hP hk1 dX3_copyFrom_18 ?_
  refine pX3_16 (pc := 21) (v := M4.1 p1 2) C hK hP hS hk2 dX3_copyFrom_21 (fun M5 H locs eM5 hP hS => ?_)
  replace h := h M5 eM5
  refine lv_aload_n (pc := 24) hx hb dX3_copyFrom_24 rfl (lv_at hl 0 rfl) ?_
  refine lv_aload_n (pc := 25) hx hb dX3_copyFrom_25 rfl (lv_at hl 1 rfl) ?_
  refine gX3_19 (pc := 26) C hK hP hk1 dX3_copyFrom_26 ?_
  refine pX3_19 (pc := 29) (v := M5.1 p1 3) C hK hP hS hk2 dX3_copyFrom_29 (fun M6 H locs eM6 hP hS => ?_)
  replace h := h M6 eM6
  refine lv_aload_n (pc := 32) hx hb dX3_copyFrom_32 rfl (lv_at hl 0 rfl) ?_
  refine lv_aload_n (pc := 33) hx hb dX3_copyFrom_33 rfl (lv_at hl 1 rfl) ?_
  refine gX3_22 (pc := 34) C hK hP hk1 dX3_copyFrom_34 ?_
  refine pX3_22 (pc := 37) (v := M6.1 p1 4) C hK hP hS hk2 dX3_copyFrom_37 (fun M7 H locs eM7 hP hS => ?_)
  replace h := h M7 eM7
  refine lv_aload_n (pc := 40) hx hb dX3_copyFrom_40 rfl (lv_at hl 0 rfl) ?_
  refine lv_aload_n (pc := 41) hx hb dX3_copyFrom_41 rfl (lv_at hl 1 rfl) ?_
  refine gX3_25 (pc := 42) C hK hP hk1 dX3_copyFrom_42 ?_
  refine pX3_25 (pc := 45) (v := M7.1 p1 5) C hK hP hS hk2 dX3_copyFrom_45 (fun M8 H locs eM8 hP hS => ?_)
  replace h := h M8 eM8
  refine lv_aload_n (pc := 48) hx hb dX3_copyFrom_48 rfl (lv_at hl 0 rfl) ?_
  refine lv_aload_n (pc := 49) hx hb dX3_copyFrom_49 rfl (lv_at hl 1 rfl) ?_
  refine gX3_28 (pc := 50) C hK hP hk1 dX3_copyFrom_50 ?_
  refine pX3_28 (pc := 53) (z := M8.1 p1 6 != 0) C hK hP hS hk2 dX3_copyFrom_53 (fun M9 H locs eM9 hP hS => ?_)
  replace h := h M9 eM9
  refine lv_aload_n (pc := 56) hx hb dX3_copyFrom_56 rfl (lv_at hl 0 rfl) ?_
  refine lv_aload_n (pc := 57) hx hb dX3_copyFrom_57 rfl (lv_at hl 1 rfl) ?_
  refine gX3_32 (pc := 58) C hK hP hk1 dX3_copyFrom_58 ?_
  refine pX3_32 (pc := 61) (v := M9.1 p1 7) C hK hP hS hk2 dX3_copyFrom_61 (fun M10 H locs eM10 hP hS => ?_)
  replace h := h M10 eM10
  exact m_vret (pc := 64) C hr hlk hP hS dX3_copyFrom_64 h
/-! ForgeHeats$Job.comesBefore (LForgeHeats$Job;)Z -/
def wp_X3_comesBefore (n : Nat) (M : Mem) (i : Nat) (p1 : Nat) (P : Bool → Mem → Prop) : Prop := m_tp n i 3 ∧ (m_tp n p1 3 ∧ ((((bI (M.1 i 6 != 0)) = (bI (M.1 p1 6 != 0)) → (((M.1 i 5) = (M.1 p1 5) → P (if (M.1 p1 0) ≤ (M.1 i 0) then false else true) M) ∧ (¬ (M.1 i 5) = (M.1 p1 5) → P (if (M.1 p1 5) ≤ (M.1 i 5) then false else true) M))) ∧ (¬ (bI (M.1 i 6 != 0)) = (bI (M.1 p1 6 != 0)) → P (M.1 i 6 != 0) M))))
abbrev rm_X3_comesBefore : Room := { frames := 0, cells := 0, slots := 0, locals := 0 }
set_option maxHeartbeats 4000000 in
set_option maxRecDepth 100000 in
theorem c_X3_comesBefore {l : Launch} {D : va_G} {cA : Nat → ClassId} {b n : Nat} {M : Mem} {i : Nat} {p1 : Nat} {P : Bool → Mem → Prop} (h : wp_X3_comesBefore n M i p1 P) : m_C l D cA b n n M yX3_comesBefore cX3_comesBefore 2 (some .boolean) rm_X3_comesBefore 0 0 [.ref (b + i), .ref (b + p1)] (rZ P) := by
  refine m_enter (by decide) (Nat.le_of_ble_eq_true rfl) (fun p e s m below meth c C hr hlk hnm hK hP hS ls hl => ?_)
  have hx := C.1
  have hb := C.2.1
  have hl : lv_has ls 2 [(0, .ref (b + i)), (1, .ref (b + p1))] := hl
  unfold wp_X3_comesBefore at h
  refine lv_aload_n (pc := 0) hx hb dX3_comesBefore_0 rfl (lv_at hl 0 rfl) ?_
  obtain ⟨hk1, h⟩ := h
  refine gX3_28 (pc := 1) C hK hP hk1 dX3_comesBefore_1 ?_
  refine lv_aload_n (pc := 4) hx hb dX3_comesBefore_4 rfl (lv_at hl 1 rfl) ?_
  obtain ⟨hk2, h⟩ := h
  refine gX3_28 (pc := 5) C hK hP hk2 dX3_comesBefore_5 ?_
  refine lv_icmp_eq (tgt := 16) (pc := 8) hx hb dX3_comesBefore_8 (by decide) (fun c8 => ?_) (fun c8 => ?_)
  · replace h := h.1 c8
    refine lv_aload_n (pc := 16) hx hb dX3_comesBefore_16 rfl (lv_at hl 0 rfl) ?_
    refine gX3_25 (pc := 17) C hK hP hk1 dX3_comesBefore_17 ?_
    refine lv_aload_n (pc := 20) hx hb dX3_comesBefore_20 rfl (lv_at hl 1 rfl) ?_
    refine gX3_25 (pc := 21) C hK hP hk2 dX3_comesBefore_21 ?_
    refine lv_icmp_eq (tgt := 46) (pc := 24) hx hb dX3_comesBefore_24 (by decide) (fun c24 => ?_) (fun c24 => ?_)
    · replace h := h.1 c24
      refine lv_aload_n (pc := 46) hx hb dX3_comesBefore_46 rfl (lv_at hl 0 rfl) ?_
      refine gX3_7 (pc := 47) C hK hP hk1 dX3_comesBefore_47 ?_
      refine lv_aload_n (pc := 50) hx hb dX3_comesBefore_50 rfl (lv_at hl 1 rfl) ?_
      refine gX3_7 (pc := 51) C hK hP hk2 dX3_comesBefore_51 ?_
      refine m_joinZ (z := if (M.1 p1 0) ≤ (M.1 i 0) then false else true) (jp := 62) (rest := []) ?_ (fun hJ => ?_)
      rotate_left
      · skip
        refine lv_icmp_ge (tgt := 61) (pc := 54) hx hb dX3_comesBefore_54 (by decide) (fun c54 => ?_) (fun c54 => ?_)
        · skip
          refine lv_iconst (v := 0) (pc := 61) hx hb dX3_comesBefore_61 (by decide) ?_
          exact hJ _ false rfl (by rw [if_pos c54])
        · skip
          refine lv_iconst (v := 1) (pc := 57) hx hb dX3_comesBefore_57 (by decide) ?_
          refine lv_goto (tgt := 62) (pc := 58) hx hb dX3_comesBefore_58 (by decide) ?_
          exact hJ _ true rfl (by rw [if_neg c54])
      exact m_zret (v := if (M.1 p1 0) ≤ (M.1 i 0) then false else true) (pc := 62) C hr hlk hP hS dX3_comesBefore_62 h
    · replace h := h.2 c24
      refine lv_aload_n (pc := 27) hx hb dX3_comesBefore_27 rfl (lv_at hl 0 rfl) ?_
      refine gX3_25 (pc := 28) C hK hP hk1 dX3_comesBefore_28 ?_
      refine lv_aload_n (pc := 31) hx hb dX3_comesBefore_31 rfl (lv_at hl 1 rfl) ?_
      refine gX3_25 (pc := 32) C hK hP hk2 dX3_comesBefore_32 ?_
      refine m_joinZ (z := if (M.1 p1 5) ≤ (M.1 i 5) then false else true) (jp := 62) (rest := []) ?_ (fun hJ => ?_)
      rotate_left
      · skip
        refine lv_icmp_ge (tgt := 42) (pc := 35) hx hb dX3_comesBefore_35 (by decide) (fun c35 => ?_) (fun c35 => ?_)
        · skip
          refine lv_iconst (v := 0) (pc := 42) hx hb dX3_comesBefore_42 (by decide) ?_
          refine lv_goto (tgt := 62) (pc := 43) hx hb dX3_comesBefore_43 (by decide) ?_
          exact hJ _ false rfl (by rw [if_pos c35])
        · skip
          refine lv_iconst (v := 1) (pc := 38) hx hb dX3_comesBefore_38 (by decide) ?_
          refine lv_goto (tgt := 62) (pc := 39) hx hb dX3_comesBefore_39 (by decide) ?_
          exact hJ _ true rfl (by rw [if_neg c35])
      exact m_zret (v := if (M.1 p1 5) ≤ (M.1 i 5) then false else true) (pc := 62) C hr hlk hP hS dX3_comesBefore_62 h
  · replace h := h.2 c8
    refine lv_aload_n (pc := 11) hx hb dX3_comesBefore_11 rfl (lv_at hl 0 rfl) ?_
    refine gX3_28 (pc := 12) C hK hP hk1 dX3_comesBefore_12 ?_
    exact m_zret (v := M.1 i 6 != 0) (pc := 15) C hr hlk hP hS dX3_comesBefore_15 h
/-! ForgeHeats$Job.lack ()I -/
def wp_X3_lack (n : Nat) (M : Mem) (i : Nat) (P : Int32 → Mem → Prop) : Prop := m_tp n i 3 ∧ (P (((M.1 i 3) - (M.1 i 4)) - (M.1 i 7)) M)
abbrev rm_X3_lack : Room := { frames := 0, cells := 0, slots := 0, locals := 0 }
set_option maxHeartbeats 4000000 in
set_option maxRecDepth 100000 in
theorem c_X3_lack {l : Launch} {D : va_G} {cA : Nat → ClassId} {b n : Nat} {M : Mem} {i : Nat} {P : Int32 → Mem → Prop} (h : wp_X3_lack n M i P) : m_C l D cA b n n M yX3_lack cX3_lack 1 (some .int) rm_X3_lack 0 0 [.ref (b + i)] (rI P) := by
  refine m_enter (by decide) (Nat.le_of_ble_eq_true rfl) (fun p e s m below meth c C hr hlk hnm hK hP hS ls hl => ?_)
  have hx := C.1
  have hb := C.2.1
  have hl : lv_has ls 1 [(0, .ref (b + i))] := hl
  unfold wp_X3_lack at h
  refine lv_aload_n (pc := 0) hx hb dX3_lack_0 rfl (lv_at hl 0 rfl) ?_
  obtain ⟨hk1, h⟩ := h
  refine gX3_19 (pc := 1) C hK hP hk1 dX3_lack_1 ?_
  refine lv_aload_n (pc := 4) hx hb dX3_lack_4 rfl (lv_at hl 0 rfl) ?_
  refine gX3_22 (pc := 5) C hK hP hk1 dX3_lack_5 ?_
  refine lv_isub (pc := 8) hx hb dX3_lack_8 ?_
  refine lv_aload_n (pc := 9) hx hb dX3_lack_9 rfl (lv_at hl 0 rfl) ?_
  refine gX3_32 (pc := 10) C hK hP hk1 dX3_lack_10 ?_
  refine lv_isub (pc := 13) hx hb dX3_lack_13 ?_
  exact m_iret (v := ((M.1 i 3) - (M.1 i 4)) - (M.1 i 7)) (pc := 14) C hr hlk hP hS dX3_lack_14 h
