/-! ForgeHeats$Shop.copyNumbersFrom (LForgeHeats$Shop;)V -/
def wp_X5_copyNumbersFrom (n : Nat) (M : Mem) (i : Nat) (p1 : Nat) (P : Mem → Prop) : Prop := m_tp n p1 5 ∧ (m_tp n i 5 ∧ (∀ M3 : Mem, M3 = uI M i 5 (M.1 p1 5) → (∀ M4 : Mem, M4 = uI M3 i 6 (M3.1 p1 6) → (∀ M5 : Mem, M5 = uI M4 i 7 (M4.1 p1 7) → (∀ M6 : Mem, M6 = uI M5 i 8 (M5.1 p1 8) → (∀ M7 : Mem, M7 = uI M6 i 9 (M6.1 p1 9) → (∀ M8 : Mem, M8 = uI M7 i 10 (M7.1 p1 10) → (∀ M9 : Mem, M9 = uI M8 i 11 (M8.1 p1 11) → (∀ M10 : Mem, M10 = uI M9 i 12 (M9.1 p1 12) → (∀ M11 : Mem, M11 = uI M10 i 13 (M10.1 p1 13) → (∀ M12 : Mem, M12 = uI M11 i 14 (M11.1 p1 14) → (∀ M13 : Mem, M13 = uI M12 i 15 (M12.1 p1 15) → (P M13)))))))))))))
abbrev rm_X5_copyNumbersFrom : Room := { frames := 0, cells := 0, slots := 0, locals := 0 }
set_option maxHeartbeats 4000000 in
set_option maxRecDepth 100000 in
theorem c_X5_copyNumbersFrom {l : Launch} {D : va_G} {cA : Nat → ClassId} {b n : Nat} {M : Mem} {i : Nat} {p1 : Nat} {P : Mem → Prop} (h : wp_X5_copyNumbersFrom n M i p1 P) : m_C l D cA b n n M yX5_copyNumbersFrom cX5_copyNumbersFrom 2 none rm_X5_copyNumbersFrom 0 0 [.ref (b + i), .ref (b + p1)] (rV P) := by
  refine m_enter (by decide) (Nat.le_of_ble_eq_true rfl) (fun p e s m below meth c C hr hlk hnm hK hP hS ls hl => ?_)
  have hx := C.1
  have hb := C.2.1
  have hl : lv_has ls 2 [(0, .ref (b + i)), (1, .ref (b + p1))] := hl
  unfold wp_X5_copyNumbersFrom at h
  refine lv_aload_n (pc := 0) hx hb dX5_copyNumbersFrom_0 rfl (lv_at hl 0 rfl) ?_
  refine lv_aload_n (pc := 1) hx hb dX5_copyNumbersFrom_1 rfl (lv_at hl 1 rfl) ?_
  obtain ⟨hk1, h⟩ := h
  refine gX5_83 (pc := 2) C hK hP hk1 dX5_copyNumbersFrom_2 ?_
  obtain ⟨hk2, h⟩ := h
  refine pX5_83 (pc := 5) (v := M.1 p1 5) C hK hP hS hk2 dX5_copyNumbersFrom_5 (fun M3 H locs eM3 hP hS => ?_)
  replace h := h M3 eM3
  refine lv_aload_n (pc := 8) hx hb dX5_copyNumbersFrom_8 rfl (lv_at hl 0 rfl) ?_
  refine lv_aload_n (pc := 9) hx hb dX5_copyNumbersFrom_9 rfl (lv_at hl 1 rfl) ?_
  refine gX5_104 (pc := 10) C hK hP hk1 dX5_copyNumbersFrom_10 ?_
  refine pX5_104 (pc := 13) (v := M3.1 p1 6) C hK hP hS hk2 dX5_copyNumbersFrom_13 (fun M4 H locs eM4 hP hS => ?_)
  replace h := h M4 eM4
  refine lv_aload_n (pc := 16) hx hb dX5_copyNumbersFrom_16 rfl (lv_at hl 0 rfl) ?_
  refine lv_aload_n (pc := 17) hx hb dX5_copyNumbersFrom_17 rfl (lv_at hl 1 rfl) ?_
  refine gX5_9 (pc := 18) C hK hP hk1 dX5_copyNumbersFrom_18 ?_
  refine pX5_9 (pc := 21) (v := M4.1 p1 7) C hK hP hS hk2 dX5_copyNumbersFrom_21 (fun M5 H locs eM5 hP hS => ?_)
  replace h := h M5 eM5
  refine lv_aload_n (pc := 24) hx hb dX5_copyNumbersFrom_24 rfl (lv_at hl 0 rfl) ?_
  refine lv_aload_n (pc := 25) hx hb dX5_copyNumbersFrom_25 rfl (lv_at hl 1 rfl) ?_
  refine gX5_15 (pc := 26) C hK hP hk1 dX5_copyNumbersFrom_26 ?_
  refine pX5_15 (pc := 29) (v := M5.1 p1 8) C hK hP hS hk2 dX5_copyNumbersFrom_29 (fun M6 H locs eM6 hP hS => ?_)
  replace h := h M6 eM6
  refine lv_aload_n (pc := 32) hx hb dX5_copyNumbersFrom_32 rfl (lv_at hl 0 rfl) ?_
  refine lv_aload_n (pc := 33) hx hb dX5_copyNumbersFrom_33 rfl (lv_at hl 1 rfl) ?_
  refine gX5_18 (pc := 34) C hK hP hk1 dX5_copyNumbersFrom_34 ?_
  refine pX5_18 (pc := 37) (v := M6.1 p1 9) C hK hP hS hk2 dX5_copyNumbersFrom_37 (fun M7 H locs eM7 hP hS => ?_)
  replace h := h M7 eM7
  refine lv_aload_n (pc := 40) hx hb dX5_copyNumbersFrom_40 rfl (lv_at hl 0 rfl) ?_
  refine lv_aload_n (pc := 41) hx hb dX5_copyNumbersFrom_41 rfl (lv_at hl 1 rfl) ?_
  refine gX5_21 (pc := 42) C hK hP hk1 dX5_copyNumbersFrom_42 ?_
  refine pX5_21 (pc := 45) (v := M7.1 p1 10) C hK hP hS hk2 dX5_copyNumbersFrom_45 (fun M8 H locs eM8 hP hS => ?_)
  replace h := h M8 eM8
  refine lv_aload_n (pc := 48) hx hb dX5_copyNumbersFrom_48 rfl (lv_at hl 0 rfl) ?_
  refine lv_aload_n (pc := 49) hx hb dX5_copyNumbersFrom_49 rfl (lv_at hl 1 rfl) ?_
  refine gX5_107 (pc := 50) C hK hP hk1 dX5_copyNumbersFrom_50 ?_
  refine pX5_107 (pc := 53) (v := M8.1 p1 11) C hK hP hS hk2 dX5_copyNumbersFrom_53 (fun M9 H locs eM9 hP hS => ?_)
  replace h := h M9 eM9
  refine lv_aload_n (pc := 56) hx hb dX5_copyNumbersFrom_56 rfl (lv_at hl 0 rfl) ?_
  refine lv_aload_n (pc := 57) hx hb dX5_copyNumbersFrom_57 rfl (lv_at hl 1 rfl) ?_
  refine gX5_110 (pc := 58) C hK hP hk1 dX5_copyNumbersFrom_58 ?_
  refine pX5_110 (pc := 61) (v := M9.1 p1 12) C hK hP hS hk2 dX5_copyNumbersFrom_61 (fun M10 H locs eM10 hP hS => ?_)
  replace h := h M10 eM10
  refine lv_aload_n (pc := 64) hx hb dX5_copyNumbersFrom_64 rfl (lv_at hl 0 rfl) ?_
  refine lv_aload_n (pc := 65) hx hb dX5_copyNumbersFrom_65 rfl (lv_at hl 1 rfl) ?_
  refine gX5_113 (pc := 66) C hK hP hk1 dX5_copyNumbersFrom_66 ?_
  refine pX5_113 (pc := 69) (v := M10.1 p1 13) C hK hP hS hk2 dX5_copyNumbersFrom_69 (fun M11 H locs eM11 hP hS => ?_)
  replace h := h M11 eM11
  refine lv_aload_n (pc := 72) hx hb dX5_copyNumbersFrom_72 rfl (lv_at hl 0 rfl) ?_
  refine lv_aload_n (pc := 73) hx hb dX5_copyNumbersFrom_73 rfl (lv_at hl 1 rfl) ?_
  refine gX5_116 (pc := 74) C hK hP hk1 dX5_copyNumbersFrom_74 ?_
  refine pX5_116 (pc := 77) (v := M11.1 p1 14) C hK hP hS hk2 dX5_copyNumbersFrom_77 (fun M12 H locs eM12 hP hS => ?_)
  replace h := h M12 eM12
  refine lv_aload_n (pc := 80) hx hb dX5_copyNumbersFrom_80 rfl (lv_at hl 0 rfl) ?_
  refine lv_aload_n (pc := 81) hx hb dX5_copyNumbersFrom_81 rfl (lv_at hl 1 rfl) ?_
  refine gX5_119 (pc := 82) C hK hP hk1 dX5_copyNumbersFrom_82 ?_
  refine pX5_119 (pc := 85) (v := M12.1 p1 15) C hK hP hS hk2 dX5_copyNumbersFrom_85 (fun M13 H locs eM13 hP hS => ?_)
  replace h := h M13 eM13
  exact m_vret (pc := 88) C hr hlk hP hS dX5_copyNumbersFrom_88 h
/-! ForgeHeats$Shop.heatAt (I)LForgeHeats$Heat; -/
def wp_X5_heatAt (n : Nat) (M : Mem) (i : Nat) (p1 : Int32) (P : Nat → Mem → Prop) : Prop := ((p1 < 0 → m_tp n i 5 ∧ (∃ j2 : Nat, M.2.1 i 16 = some j2 ∧ (P j2 M))) ∧ (¬ p1 < 0 → m_tp n i 5 ∧ (∃ j4 : Nat, M.2.1 i 0 = some j4 ∧ (m_tp n j4 13 ∧ ((((nI (m_len j4)) ≤ p1 → ∃ j6 : Nat, M.2.1 i 16 = some j6 ∧ (P j6 M)) ∧ (¬ (nI (m_len j4)) ≤ p1 → ∃ j7 : Nat, M.2.1 i 0 = some j7 ∧ (m_tp n j7 13 ∧ (vp_in p1 (m_len j7) ∧ (∃ j10 : Nat, M.2.1 j7 p1.toNatClampNeg = some j10 ∧ (P j10 M)))))))))))
abbrev rm_X5_heatAt : Room := { frames := 0, cells := 0, slots := 0, locals := 0 }
set_option maxHeartbeats 4000000 in
set_option maxRecDepth 100000 in
theorem c_X5_heatAt {l : Launch} {D : va_G} {cA : Nat → ClassId} {b n : Nat} {M : Mem} {i : Nat} {p1 : Int32} {P : Nat → Mem → Prop} (h : wp_X5_heatAt n M i p1 P) : m_C l D cA b n n M yX5_heatAt cX5_heatAt 3 (some (.object "ForgeHeats$Heat")) rm_X5_heatAt 0 0 [.ref (b + i), .int p1] (rR b P) := by
  refine m_enter (by decide) (Nat.le_of_ble_eq_true rfl) (fun p e s m below meth c C hr hlk hnm hK hP hS ls hl => ?_)
  have hx := C.1
  have hb := C.2.1
  have hl : lv_has ls 3 [(0, .ref (b + i)), (1, .int p1)] := hl
  unfold wp_X5_heatAt at h
  refine lv_iload_n (pc := 0) hx hb dX5_heatAt_0 rfl (lv_at hl 1 rfl) ?_
  refine lv_if_lt (tgt := 22) (pc := 1) hx hb dX5_heatAt_1 (by decide) (fun c1 => ?_) (fun c1 => ?_)
  · replace h := h.1 c1
    refine lv_null (pc := 22) hx hb dX5_heatAt_22 ?_
    refine lv_astore_nN (lv' := [(2, .null), (0, .ref (b + i)), (1, .int p1)]) (pc := 23) hx hb dX5_heatAt_23 rfl hl (by decide) rfl (fun ls hl => ?_)
    refine lv_aload_nN (pc := 24) hx hb dX5_heatAt_24 rfl (lv_at hl 0 rfl) ?_
    refine lv_ifnullN (tgt := 32) (pc := 25) hx hb dX5_heatAt_25 (by decide) ?_
    refine lv_aload_n (pc := 32) hx hb dX5_heatAt_32 rfl (lv_at hl 1 rfl) ?_
    obtain ⟨hk1, h⟩ := h
    obtain ⟨j2, hj2, h⟩ := h
    refine gX5_56 (pc := 33) C hK hP hk1 hj2 dX5_heatAt_33 ?_
    exact m_rret (v := j2) (pc := 36) C hr hlk hP hS dX5_heatAt_36 h
  · replace h := h.2 c1
    refine lv_iload_n (pc := 4) hx hb dX5_heatAt_4 rfl (lv_at hl 1 rfl) ?_
    refine lv_aload_n (pc := 5) hx hb dX5_heatAt_5 rfl (lv_at hl 0 rfl) ?_
    obtain ⟨hk3, h⟩ := h
    obtain ⟨j4, hj4, h⟩ := h
    refine gX5_26 (pc := 6) C hK hP hk3 hj4 dX5_heatAt_6 ?_
    obtain ⟨hk5, h⟩ := h
    refine m_alen (pc := 9) (κ := 13) C hK hP hk5 (by decide) rfl dX5_heatAt_9 ?_
    refine lv_icmp_ge (tgt := 22) (pc := 10) hx hb dX5_heatAt_10 (by decide) (fun c10 => ?_) (fun c10 => ?_)
    · replace h := h.1 c10
      refine lv_null (pc := 22) hx hb dX5_heatAt_22 ?_
      refine lv_astore_nN (lv' := [(2, .null), (0, .ref (b + i)), (1, .int p1)]) (pc := 23) hx hb dX5_heatAt_23 rfl hl (by decide) rfl (fun ls hl => ?_)
      refine lv_aload_nN (pc := 24) hx hb dX5_heatAt_24 rfl (lv_at hl 0 rfl) ?_
      refine lv_ifnullN (tgt := 32) (pc := 25) hx hb dX5_heatAt_25 (by decide) ?_
      refine lv_aload_n (pc := 32) hx hb dX5_heatAt_32 rfl (lv_at hl 1 rfl) ?_
      obtain ⟨j6, hj6, h⟩ := h
      refine gX5_56 (pc := 33) C hK hP hk3 hj6 dX5_heatAt_33 ?_
      exact m_rret (v := j6) (pc := 36) C hr hlk hP hS dX5_heatAt_36 h
    · replace h := h.2 c10
      refine lv_aload_n (pc := 13) hx hb dX5_heatAt_13 rfl (lv_at hl 0 rfl) ?_
      obtain ⟨j7, hj7, h⟩ := h
      refine gX5_26 (pc := 14) C hK hP hk3 hj7 dX5_heatAt_14 ?_
      refine lv_iload_n (pc := 17) hx hb dX5_heatAt_17 rfl (lv_at hl 1 rfl) ?_
      obtain ⟨hk8, h⟩ := h
      obtain ⟨hi9, h⟩ := h
      obtain ⟨j10, hj10, h⟩ := h
      refine m_aldq (pc := 18) (κ := 13) C hK hP hk8 (by decide) rfl hi9 hj10 dX5_heatAt_18 ?_
      refine lv_goto (tgt := 23) (pc := 19) hx hb dX5_heatAt_19 (by decide) ?_
      refine lv_astore_n (lv' := [(2, .ref (b + j10)), (0, .ref (b + i)), (1, .int p1)]) (pc := 23) hx hb dX5_heatAt_23 rfl hl (by decide) rfl (fun ls hl => ?_)
      refine lv_aload_n (pc := 24) hx hb dX5_heatAt_24 rfl (lv_at hl 0 rfl) ?_
      refine lv_ifnull (pc := 25) hx hb dX5_heatAt_25 ?_
      refine lv_aload_n (pc := 28) hx hb dX5_heatAt_28 rfl (lv_at hl 0 rfl) ?_
      refine lv_goto (tgt := 36) (pc := 29) hx hb dX5_heatAt_29 (by decide) ?_
      exact m_rret (v := j10) (pc := 36) C hr hlk hP hS dX5_heatAt_36 h
/-! ForgeHeats$Shop.dieAt (I)LForgeHeats$Die; -/
def wp_X5_dieAt (n : Nat) (M : Mem) (i : Nat) (p1 : Int32) (P : Nat → Mem → Prop) : Prop := ((p1 < 0 → m_tp n i 5 ∧ (∃ j2 : Nat, M.2.1 i 17 = some j2 ∧ (P j2 M))) ∧ (¬ p1 < 0 → m_tp n i 5 ∧ (∃ j4 : Nat, M.2.1 i 1 = some j4 ∧ (m_tp n j4 12 ∧ ((((nI (m_len j4)) ≤ p1 → ∃ j6 : Nat, M.2.1 i 17 = some j6 ∧ (P j6 M)) ∧ (¬ (nI (m_len j4)) ≤ p1 → ∃ j7 : Nat, M.2.1 i 1 = some j7 ∧ (m_tp n j7 12 ∧ (vp_in p1 (m_len j7) ∧ (∃ j10 : Nat, M.2.1 j7 p1.toNatClampNeg = some j10 ∧ (P j10 M)))))))))))
abbrev rm_X5_dieAt : Room := { frames := 0, cells := 0, slots := 0, locals := 0 }
set_option maxHeartbeats 4000000 in
set_option maxRecDepth 100000 in
theorem c_X5_dieAt {l : Launch} {D : va_G} {cA : Nat → ClassId} {b n : Nat} {M : Mem} {i : Nat} {p1 : Int32} {P : Nat → Mem → Prop} (h : wp_X5_dieAt n M i p1 P) : m_C l D cA b n n M yX5_dieAt cX5_dieAt 3 (some (.object "ForgeHeats$Die")) rm_X5_dieAt 0 0 [.ref (b + i), .int p1] (rR b P) := by
  refine m_enter (by decide) (Nat.le_of_ble_eq_true rfl) (fun p e s m below meth c C hr hlk hnm hK hP hS ls hl => ?_)
  have hx := C.1
  have hb := C.2.1
  have hl : lv_has ls 3 [(0, .ref (b + i)), (1, .int p1)] := hl
  unfold wp_X5_dieAt at h
  refine lv_iload_n (pc := 0) hx hb dX5_dieAt_0 rfl (lv_at hl 1 rfl) ?_
  refine lv_if_lt (tgt := 22) (pc := 1) hx hb dX5_dieAt_1 (by decide) (fun c1 => ?_) (fun c1 => ?_)
  · replace h := h.1 c1
    refine lv_null (pc := 22) hx hb dX5_dieAt_22 ?_
    refine lv_astore_nN (lv' := [(2, .null), (0, .ref (b + i)), (1, .int p1)]) (pc := 23) hx hb dX5_dieAt_23 rfl hl (by decide) rfl (fun ls hl => ?_)
    refine lv_aload_nN (pc := 24) hx hb dX5_dieAt_24 rfl (lv_at hl 0 rfl) ?_
    refine lv_ifnullN (tgt := 32) (pc := 25) hx hb dX5_dieAt_25 (by decide) ?_
    refine lv_aload_n (pc := 32) hx hb dX5_dieAt_32 rfl (lv_at hl 1 rfl) ?_
    obtain ⟨hk1, h⟩ := h
    obtain ⟨j2, hj2, h⟩ := h
    refine gX5_60 (pc := 33) C hK hP hk1 hj2 dX5_dieAt_33 ?_
    exact m_rret (v := j2) (pc := 36) C hr hlk hP hS dX5_dieAt_36 h
  · replace h := h.2 c1
    refine lv_iload_n (pc := 4) hx hb dX5_dieAt_4 rfl (lv_at hl 1 rfl) ?_
    refine lv_aload_n (pc := 5) hx hb dX5_dieAt_5 rfl (lv_at hl 0 rfl) ?_
    obtain ⟨hk3, h⟩ := h
    obtain ⟨j4, hj4, h⟩ := h
    refine gX5_33 (pc := 6) C hK hP hk3 hj4 dX5_dieAt_6 ?_
    obtain ⟨hk5, h⟩ := h
    refine m_alen (pc := 9) (κ := 12) C hK hP hk5 (by decide) rfl dX5_dieAt_9 ?_
    refine lv_icmp_ge (tgt := 22) (pc := 10) hx hb dX5_dieAt_10 (by decide) (fun c10 => ?_) (fun c10 => ?_)
    · replace h := h.1 c10
      refine lv_null (pc := 22) hx hb dX5_dieAt_22 ?_
      refine lv_astore_nN (lv' := [(2, .null), (0, .ref (b + i)), (1, .int p1)]) (pc := 23) hx hb dX5_dieAt_23 rfl hl (by decide) rfl (fun ls hl => ?_)
      refine lv_aload_nN (pc := 24) hx hb dX5_dieAt_24 rfl (lv_at hl 0 rfl) ?_
      refine lv_ifnullN (tgt := 32) (pc := 25) hx hb dX5_dieAt_25 (by decide) ?_
      refine lv_aload_n (pc := 32) hx hb dX5_dieAt_32 rfl (lv_at hl 1 rfl) ?_
      obtain ⟨j6, hj6, h⟩ := h
      refine gX5_60 (pc := 33) C hK hP hk3 hj6 dX5_dieAt_33 ?_
      exact m_rret (v := j6) (pc := 36) C hr hlk hP hS dX5_dieAt_36 h
    · replace h := h.2 c10
      refine lv_aload_n (pc := 13) hx hb dX5_dieAt_13 rfl (lv_at hl 0 rfl) ?_
      obtain ⟨j7, hj7, h⟩ := h
      refine gX5_33 (pc := 14) C hK hP hk3 hj7 dX5_dieAt_14 ?_
      refine lv_iload_n (pc := 17) hx hb dX5_dieAt_17 rfl (lv_at hl 1 rfl) ?_
      obtain ⟨hk8, h⟩ := h
      obtain ⟨hi9, h⟩ := h
      obtain ⟨j10, hj10, h⟩ := h
      refine m_aldq (pc := 18) (κ := 12) C hK hP hk8 (by decide) rfl hi9 hj10 dX5_dieAt_18 ?_
      refine lv_goto (tgt := 23) (pc := 19) hx hb dX5_dieAt_19 (by decide) ?_
      refine lv_astore_n (lv' := [(2, .ref (b + j10)), (0, .ref (b + i)), (1, .int p1)]) (pc := 23) hx hb dX5_dieAt_23 rfl hl (by decide) rfl (fun ls hl => ?_)
      refine lv_aload_n (pc := 24) hx hb dX5_dieAt_24 rfl (lv_at hl 0 rfl) ?_
      refine lv_ifnull (pc := 25) hx hb dX5_dieAt_25 ?_
      refine lv_aload_n (pc := 28) hx hb dX5_dieAt_28 rfl (lv_at hl 0 rfl) ?_
      refine lv_goto (tgt := 36) (pc := 29) hx hb dX5_dieAt_29 (by decide) ?_
      exact m_rret (v := j10) (pc := 36) C hr hlk hP hS dX5_dieAt_36 h
/-! ForgeHeats$Shop.jobAt (I)LForgeHeats$Job; -/
def wp_X5_jobAt (n : Nat) (M : Mem) (i : Nat) (p1 : Int32) (P : Nat → Mem → Prop) : Prop := ((p1 < 0 → m_tp n i 5 ∧ (∃ j2 : Nat, M.2.1 i 18 = some j2 ∧ (P j2 M))) ∧ (¬ p1 < 0 → m_tp n i 5 ∧ (∃ j4 : Nat, M.2.1 i 2 = some j4 ∧ (m_tp n j4 14 ∧ ((((nI (m_len j4)) ≤ p1 → ∃ j6 : Nat, M.2.1 i 18 = some j6 ∧ (P j6 M)) ∧ (¬ (nI (m_len j4)) ≤ p1 → ∃ j7 : Nat, M.2.1 i 2 = some j7 ∧ (m_tp n j7 14 ∧ (vp_in p1 (m_len j7) ∧ (∃ j10 : Nat, M.2.1 j7 p1.toNatClampNeg = some j10 ∧ (P j10 M)))))))))))
abbrev rm_X5_jobAt : Room := { frames := 0, cells := 0, slots := 0, locals := 0 }
set_option maxHeartbeats 4000000 in
set_option maxRecDepth 100000 in
theorem c_X5_jobAt {l : Launch} {D : va_G} {cA : Nat → ClassId} {b n : Nat} {M : Mem} {i : Nat} {p1 : Int32} {P : Nat → Mem → Prop} (h : wp_X5_jobAt n M i p1 P) : m_C l D cA b n n M yX5_jobAt cX5_jobAt 3 (some (.object "ForgeHeats$Job")) rm_X5_jobAt 0 0 [.ref (b + i), .int p1] (rR b P) := by
  refine m_enter (by decide) (Nat.le_of_ble_eq_true rfl) (fun p e s m below meth c C hr hlk hnm hK hP hS ls hl => ?_)
  have hx := C.1
  have hb := C.2.1
  have hl : lv_has ls 3 [(0, .ref (b + i)), (1, .int p1)] := hl
  unfold wp_X5_jobAt at h
  refine lv_iload_n (pc := 0) hx hb dX5_jobAt_0 rfl (lv_at hl 1 rfl) ?_
  refine lv_if_lt (tgt := 22) (pc := 1) hx hb dX5_jobAt_1 (by decide) (fun c1 => ?_) (fun c1 => ?_)
  · replace h := h.1 c1
    refine lv_null (pc := 22) hx hb dX5_jobAt_22 ?_
    refine lv_astore_nN (lv' := [(2, .null), (0, .ref (b + i)), (1, .int p1)]) (pc := 23) hx hb dX5_jobAt_23 rfl hl (by decide) rfl (fun ls hl => ?_)
    refine lv_aload_nN (pc := 24) hx hb dX5_jobAt_24 rfl (lv_at hl 0 rfl) ?_
    refine lv_ifnullN (tgt := 32) (pc := 25) hx hb dX5_jobAt_25 (by decide) ?_
    refine lv_aload_n (pc := 32) hx hb dX5_jobAt_32 rfl (lv_at hl 1 rfl) ?_
    obtain ⟨hk1, h⟩ := h
    obtain ⟨j2, hj2, h⟩ := h
    refine gX5_64 (pc := 33) C hK hP hk1 hj2 dX5_jobAt_33 ?_
    exact m_rret (v := j2) (pc := 36) C hr hlk hP hS dX5_jobAt_36 h
  · replace h := h.2 c1
    refine lv_iload_n (pc := 4) hx hb dX5_jobAt_4 rfl (lv_at hl 1 rfl) ?_
    refine lv_aload_n (pc := 5) hx hb dX5_jobAt_5 rfl (lv_at hl 0 rfl) ?_
    obtain ⟨hk3, h⟩ := h
    obtain ⟨j4, hj4, h⟩ := h
    refine gX5_40 (pc := 6) C hK hP hk3 hj4 dX5_jobAt_6 ?_
    obtain ⟨hk5, h⟩ := h
    refine m_alen (pc := 9) (κ := 14) C hK hP hk5 (by decide) rfl dX5_jobAt_9 ?_
    refine lv_icmp_ge (tgt := 22) (pc := 10) hx hb dX5_jobAt_10 (by decide) (fun c10 => ?_) (fun c10 => ?_)
    · replace h := h.1 c10
      refine lv_null (pc := 22) hx hb dX5_jobAt_22 ?_
      refine lv_astore_nN (lv' := [(2, .null), (0, .ref (b + i)), (1, .int p1)]) (pc := 23) hx hb dX5_jobAt_23 rfl hl (by decide) rfl (fun ls hl => ?_)
      refine lv_aload_nN (pc := 24) hx hb dX5_jobAt_24 rfl (lv_at hl 0 rfl) ?_
      refine lv_ifnullN (tgt := 32) (pc := 25) hx hb dX5_jobAt_25 (by decide) ?_
      refine lv_aload_n (pc := 32) hx hb dX5_jobAt_32 rfl (lv_at hl 1 rfl) ?_
      obtain ⟨j6, hj6, h⟩ := h
      refine gX5_64 (pc := 33) C hK hP hk3 hj6 dX5_jobAt_33 ?_
      exact m_rret (v := j6) (pc := 36) C hr hlk hP hS dX5_jobAt_36 h
    · replace h := h.2 c10
      refine lv_aload_n (pc := 13) hx hb dX5_jobAt_13 rfl (lv_at hl 0 rfl) ?_
      obtain ⟨j7, hj7, h⟩ := h
      refine gX5_40 (pc := 14) C hK hP hk3 hj7 dX5_jobAt_14 ?_
      refine lv_iload_n (pc := 17) hx hb dX5_jobAt_17 rfl (lv_at hl 1 rfl) ?_
      obtain ⟨hk8, h⟩ := h
      obtain ⟨hi9, h⟩ := h
      obtain ⟨j10, hj10, h⟩ := h
      refine m_aldq (pc := 18) (κ := 14) C hK hP hk8 (by decide) rfl hi9 hj10 dX5_jobAt_18 ?_
      refine lv_goto (tgt := 23) (pc := 19) hx hb dX5_jobAt_19 (by decide) ?_
      refine lv_astore_n (lv' := [(2, .ref (b + j10)), (0, .ref (b + i)), (1, .int p1)]) (pc := 23) hx hb dX5_jobAt_23 rfl hl (by decide) rfl (fun ls hl => ?_)
      refine lv_aload_n (pc := 24) hx hb dX5_jobAt_24 rfl (lv_at hl 0 rfl) ?_
      refine lv_ifnull (pc := 25) hx hb dX5_jobAt_25 ?_
      refine lv_aload_n (pc := 28) hx hb dX5_jobAt_28 rfl (lv_at hl 0 rfl) ?_
      refine lv_goto (tgt := 36) (pc := 29) hx hb dX5_jobAt_29 (by decide) ?_
      exact m_rret (v := j10) (pc := 36) C hr hlk hP hS dX5_jobAt_36 h
/-! ForgeHeats$Shop.billetAt (I)LForgeHeats$Billet; -/
def wp_X5_billetAt (n : Nat) (M : Mem) (i : Nat) (p1 : Int32) (P : Nat → Mem → Prop) : Prop := ((p1 < 0 → m_tp n i 5 ∧ (∃ j2 : Nat, M.2.1 i 4 = some j2 ∧ (P j2 M))) ∧ (¬ p1 < 0 → m_tp n i 5 ∧ (∃ j4 : Nat, M.2.1 i 3 = some j4 ∧ (m_tp n j4 11 ∧ ((((nI (m_len j4)) ≤ p1 → ∃ j6 : Nat, M.2.1 i 4 = some j6 ∧ (P j6 M)) ∧ (¬ (nI (m_len j4)) ≤ p1 → ∃ j7 : Nat, M.2.1 i 3 = some j7 ∧ (m_tp n j7 11 ∧ (vp_in p1 (m_len j7) ∧ (∃ j10 : Nat, M.2.1 j7 p1.toNatClampNeg = some j10 ∧ (P j10 M)))))))))))
abbrev rm_X5_billetAt : Room := { frames := 0, cells := 0, slots := 0, locals := 0 }
set_option maxHeartbeats 4000000 in
set_option maxRecDepth 100000 in
theorem c_X5_billetAt {l : Launch} {D : va_G} {cA : Nat → ClassId} {b n : Nat} {M : Mem} {i : Nat} {p1 : Int32} {P : Nat → Mem → Prop} (h : wp_X5_billetAt n M i p1 P) : m_C l D cA b n n M yX5_billetAt cX5_billetAt 3 (some (.object "ForgeHeats$Billet")) rm_X5_billetAt 0 0 [.ref (b + i), .int p1] (rR b P) := by
  refine m_enter (by decide) (Nat.le_of_ble_eq_true rfl) (fun p e s m below meth c C hr hlk hnm hK hP hS ls hl => ?_)
  have hx := C.1
  have hb := C.2.1
  have hl : lv_has ls 3 [(0, .ref (b + i)), (1, .int p1)] := hl
  unfold wp_X5_billetAt at h
  refine lv_iload_n (pc := 0) hx hb dX5_billetAt_0 rfl (lv_at hl 1 rfl) ?_
  refine lv_if_lt (tgt := 22) (pc := 1) hx hb dX5_billetAt_1 (by decide) (fun c1 => ?_) (fun c1 => ?_)
  · replace h := h.1 c1
    refine lv_null (pc := 22) hx hb dX5_billetAt_22 ?_
    refine lv_astore_nN (lv' := [(2, .null), (0, .ref (b + i)), (1, .int p1)]) (pc := 23) hx hb dX5_billetAt_23 rfl hl (by decide) rfl (fun ls hl => ?_)
    refine lv_aload_nN (pc := 24) hx hb dX5_billetAt_24 rfl (lv_at hl 0 rfl) ?_
    refine lv_ifnullN (tgt := 32) (pc := 25) hx hb dX5_billetAt_25 (by decide) ?_
    refine lv_aload_n (pc := 32) hx hb dX5_billetAt_32 rfl (lv_at hl 1 rfl) ?_
    obtain ⟨hk1, h⟩ := h
    obtain ⟨j2, hj2, h⟩ := h
    refine gX5_52 (pc := 33) C hK hP hk1 hj2 dX5_billetAt_33 ?_
    exact m_rret (v := j2) (pc := 36) C hr hlk hP hS dX5_billetAt_36 h
  · replace h := h.2 c1
    refine lv_iload_n (pc := 4) hx hb dX5_billetAt_4 rfl (lv_at hl 1 rfl) ?_
    refine lv_aload_n (pc := 5) hx hb dX5_billetAt_5 rfl (lv_at hl 0 rfl) ?_
    obtain ⟨hk3, h⟩ := h
    obtain ⟨j4, hj4, h⟩ := h
    refine gX5_47 (pc := 6) C hK hP hk3 hj4 dX5_billetAt_6 ?_
    obtain ⟨hk5, h⟩ := h
    refine m_alen (pc := 9) (κ := 11) C hK hP hk5 (by decide) rfl dX5_billetAt_9 ?_
    refine lv_icmp_ge (tgt := 22) (pc := 10) hx hb dX5_billetAt_10 (by decide) (fun c10 => ?_) (fun c10 => ?_)
    · replace h := h.1 c10
      refine lv_null (pc := 22) hx hb dX5_billetAt_22 ?_
      refine lv_astore_nN (lv' := [(2, .null), (0, .ref (b + i)), (1, .int p1)]) (pc := 23) hx hb dX5_billetAt_23 rfl hl (by decide) rfl (fun ls hl => ?_)
      refine lv_aload_nN (pc := 24) hx hb dX5_billetAt_24 rfl (lv_at hl 0 rfl) ?_
      refine lv_ifnullN (tgt := 32) (pc := 25) hx hb dX5_billetAt_25 (by decide) ?_
      refine lv_aload_n (pc := 32) hx hb dX5_billetAt_32 rfl (lv_at hl 1 rfl) ?_
      obtain ⟨j6, hj6, h⟩ := h
      refine gX5_52 (pc := 33) C hK hP hk3 hj6 dX5_billetAt_33 ?_
      exact m_rret (v := j6) (pc := 36) C hr hlk hP hS dX5_billetAt_36 h
    · replace h := h.2 c10
      refine lv_aload_n (pc := 13) hx hb dX5_billetAt_13 rfl (lv_at hl 0 rfl) ?_
      obtain ⟨j7, hj7, h⟩ := h
      refine gX5_47 (pc := 14) C hK hP hk3 hj7 dX5_billetAt_14 ?_
      refine lv_iload_n (pc := 17) hx hb dX5_billetAt_17 rfl (lv_at hl 1 rfl) ?_
      obtain ⟨hk8, h⟩ := h
      obtain ⟨hi9, h⟩ := h
      obtain ⟨j10, hj10, h⟩ := h
      refine m_aldq (pc := 18) (κ := 11) C hK hP hk8 (by decide) rfl hi9 hj10 dX5_billetAt_18 ?_
      refine lv_goto (tgt := 23) (pc := 19) hx hb dX5_billetAt_19 (by decide) ?_
      refine lv_astore_n (lv' := [(2, .ref (b + j10)), (0, .ref (b + i)), (1, .int p1)]) (pc := 23) hx hb dX5_billetAt_23 rfl hl (by decide) rfl (fun ls hl => ?_)
      refine lv_aload_n (pc := 24) hx hb dX5_billetAt_24 rfl (lv_at hl 0 rfl) ?_
      refine lv_ifnull (pc := 25) hx hb dX5_billetAt_25 ?_
      refine lv_aload_n (pc := 28) hx hb dX5_billetAt_28 rfl (lv_at hl 0 rfl) ?_
      refine lv_goto (tgt := 36) (pc := 29) hx hb dX5_billetAt_29 (by decide) ?_
      exact m_rret (v := j10) (pc := 36) C hr hlk hP hS dX5_billetAt_36 h
/-! ForgeHeats$Shop.swapJobs (II)V -/
def wp_X5_swapJobs (n : Nat) (M : Mem) (i : Nat) (p1 : Int32) (p2 : Int32) (P : Mem → Prop) : Prop := ((p1 < 0 → P M) ∧ (¬ p1 < 0 → m_tp n i 5 ∧ (∃ j2 : Nat, M.2.1 i 2 = some j2 ∧ (m_tp n j2 14 ∧ ((((nI (m_len j2)) ≤ p1 → P M) ∧ (¬ (nI (m_len j2)) ≤ p1 → ((p2 < 0 → P M) ∧ (¬ p2 < 0 → ∃ j4 : Nat, M.2.1 i 2 = some j4 ∧ (m_tp n j4 14 ∧ ((((nI (m_len j4)) ≤ p2 → P M) ∧ (¬ (nI (m_len j4)) ≤ p2 → ∃ j6 : Nat, M.2.1 i 2 = some j6 ∧ (m_tp n j6 14 ∧ (vp_in p1 (m_len j6) ∧ (∃ j9 : Nat, M.2.1 j6 p1.toNatClampNeg = some j9 ∧ (∃ j10 : Nat, M.2.1 i 2 = some j10 ∧ (∃ j11 : Nat, M.2.1 i 2 = some j11 ∧ (m_tp n j11 14 ∧ (vp_in p2 (m_len j11) ∧ (∃ j14 : Nat, M.2.1 j11 p2.toNatClampNeg = some j14 ∧ (m_tp n j10 14 ∧ (m_tp n j14 3 ∧ (vp_in p1 (m_len j10) ∧ (∀ M18 : Mem, M18 = uR M j10 p1.toNatClampNeg (some j14) → (∃ j19 : Nat, M18.2.1 i 2 = some j19 ∧ (m_tp n j19 14 ∧ (m_tp n j9 3 ∧ (vp_in p2 (m_len j19) ∧ (∀ M23 : Mem, M23 = uR M18 j19 p2.toNatClampNeg (some j9) → (P M23)))))))))))))))))))))))))))))))
abbrev rm_X5_swapJobs : Room := { frames := 0, cells := 0, slots := 0, locals := 0 }
set_option maxHeartbeats 4000000 in
set_option maxRecDepth 100000 in
theorem c_X5_swapJobs {l : Launch} {D : va_G} {cA : Nat → ClassId} {b n : Nat} {M : Mem} {i : Nat} {p1 : Int32} {p2 : Int32} {P : Mem → Prop} (h : wp_X5_swapJobs n M i p1 p2 P) : m_C l D cA b n n M yX5_swapJobs cX5_swapJobs 4 none rm_X5_swapJobs 0 0 [.ref (b + i), .int p1, .int p2] (rV P) := by
  refine m_enter (by decide) (Nat.le_of_ble_eq_true rfl) (fun p e s m below meth c C hr hlk hnm hK hP hS ls hl => ?_)
  have hx := C.1
  have hb := C.2.1
  have hl : lv_has ls 4 [(0, .ref (b + i)), (1, .int p1), (2, .int p2)] := hl
  unfold wp_X5_swapJobs at h
  refine lv_iload_n (pc := 0) hx hb dX5_swapJobs_0 rfl (lv_at hl 1 rfl) ?_
  refine lv_if_lt (tgt := 52) (pc := 1) hx hb dX5_swapJobs_1 (by decide) (fun c1 => ?_) (fun c1 => ?_)
  · replace h := h.1 c1
    exact m_vret (pc := 52) C hr hlk hP hS dX5_swapJobs_52 h
  · replace h := h.2 c1
    refine lv_iload_n (pc := 4) hx hb dX5_swapJobs_4 rfl (lv_at hl 1 rfl) ?_
    refine lv_aload_n (pc := 5) hx hb dX5_swapJobs_5 rfl (lv_at hl 0 rfl) ?_
    obtain ⟨hk1, h⟩ := h
    obtain ⟨j2, hj2, h⟩ := h
    refine gX5_40 (pc := 6) C hK hP hk1 hj2 dX5_swapJobs_6 ?_
    obtain ⟨hk3, h⟩ := h
    refine m_alen (pc := 9) (κ := 14) C hK hP hk3 (by decide) rfl dX5_swapJobs_9 ?_
    refine lv_icmp_ge (tgt := 52) (pc := 10) hx hb dX5_swapJobs_10 (by decide) (fun c10 => ?_) (fun c10 => ?_)
    · replace h := h.1 c10
      exact m_vret (pc := 52) C hr hlk hP hS dX5_swapJobs_52 h
    · replace h := h.2 c10
      refine lv_iload_n (pc := 13) hx hb dX5_swapJobs_13 rfl (lv_at hl 2 rfl) ?_
      refine lv_if_lt (tgt := 52) (pc := 14) hx hb dX5_swapJobs_14 (by decide) (fun c14 => ?_) (fun c14 => ?_)
      · replace h := h.1 c14
        exact m_vret (pc := 52) C hr hlk hP hS dX5_swapJobs_52 h
      · replace h := h.2 c14
        refine lv_iload_n (pc := 17) hx hb dX5_swapJobs_17 rfl (lv_at hl 2 rfl) ?_
        refine lv_aload_n (pc := 18) hx hb dX5_swapJobs_18 rfl (lv_at hl 0 rfl) ?_
        obtain ⟨j4, hj4, h⟩ := h
        refine gX5_40 (pc := 19) C hK hP hk1 hj4 dX5_swapJobs_19 ?_
        obtain ⟨hk5, h⟩ := h
        refine m_alen (pc := 22) (κ := 14) C hK hP hk5 (by decide) rfl dX5_swapJobs_22 ?_
        refine lv_icmp_ge (tgt := 52) (pc := 23) hx hb dX5_swapJobs_23 (by decide) (fun c23 => ?_) (fun c23 => ?_)
        · replace h := h.1 c23
          exact m_vret (pc := 52) C hr hlk hP hS dX5_swapJobs_52 h
        · replace h := h.2 c23
          refine lv_aload_n (pc := 26) hx hb dX5_swapJobs_26 rfl (lv_at hl 0 rfl) ?_
          obtain ⟨j6, hj6, h⟩ := h
          refine gX5_40 (pc := 27) C hK hP hk1 hj6 dX5_swapJobs_27 ?_
          refine lv_iload_n (pc := 30) hx hb dX5_swapJobs_30 rfl (lv_at hl 1 rfl) ?_
          obtain ⟨hk7, h⟩ := h
          obtain ⟨hi8, h⟩ := h
          obtain ⟨j9, hj9, h⟩ := h
          refine m_aldq (pc := 31) (κ := 14) C hK hP hk7 (by decide) rfl hi8 hj9 dX5_swapJobs_31 ?_
          refine lv_astore_n (lv' := [(3, .ref (b + j9)), (0, .ref (b + i)), (1, .int p1), (2, .int p2)]) (pc := 32) hx hb dX5_swapJobs_32 rfl hl (by decide) rfl (fun ls hl => ?_)
          refine lv_aload_n (pc := 33) hx hb dX5_swapJobs_33 rfl (lv_at hl 1 rfl) ?_
          obtain ⟨j10, hj10, h⟩ := h
          refine gX5_40 (pc := 34) C hK hP hk1 hj10 dX5_swapJobs_34 ?_
          refine lv_iload_n (pc := 37) hx hb dX5_swapJobs_37 rfl (lv_at hl 2 rfl) ?_
          refine lv_aload_n (pc := 38) hx hb dX5_swapJobs_38 rfl (lv_at hl 1 rfl) ?_
          obtain ⟨j11, hj11, h⟩ := h
          refine gX5_40 (pc := 39) C hK hP hk1 hj11 dX5_swapJobs_39 ?_
          refine lv_iload_n (pc := 42) hx hb dX5_swapJobs_42 rfl (lv_at hl 3 rfl) ?_
          obtain ⟨hk12, h⟩ := h
          obtain ⟨hi13, h⟩ := h
          obtain ⟨j14, hj14, h⟩ := h
          refine m_aldq (pc := 43) (κ := 14) C hK hP hk12 (by decide) rfl hi13 hj14 dX5_swapJobs_43 ?_
          obtain ⟨hk15, h⟩ := h
          obtain ⟨hk16, h⟩ := h
          obtain ⟨hi17, h⟩ := h
          refine m_astq (pc := 44) (κ := 14) (ci := 3) C hK hP hS hk15 (by decide) rfl hk16 (by decide) rfl hi17 dX5_swapJobs_44 (fun M18 H locs eM18 hP hS => ?_)
          replace h := h M18 eM18
          refine lv_aload_n (pc := 45) hx hb dX5_swapJobs_45 rfl (lv_at hl 1 rfl) ?_
          obtain ⟨j19, hj19, h⟩ := h
          refine gX5_40 (pc := 46) C hK hP hk1 hj19 dX5_swapJobs_46 ?_
          refine lv_iload_n (pc := 49) hx hb dX5_swapJobs_49 rfl (lv_at hl 3 rfl) ?_
          refine lv_aload_n (pc := 50) hx hb dX5_swapJobs_50 rfl (lv_at hl 0 rfl) ?_
          obtain ⟨hk20, h⟩ := h
          obtain ⟨hk21, h⟩ := h
          obtain ⟨hi22, h⟩ := h
          refine m_astq (pc := 51) (κ := 14) (ci := 3) C hK hP hS hk20 (by decide) rfl hk21 (by decide) rfl hi22 dX5_swapJobs_51 (fun M23 H locs eM23 hP hS => ?_)
          replace h := h M23 eM23
          exact m_vret (pc := 52) C hr hlk hP hS dX5_swapJobs_52 h
/-! ForgeHeats$Shop.placeOf (I)I -/
def wpB_X5_placeOf_2 (n : Nat) (P : Int32 → Mem → Prop) (R_ : Mem → Nat → Int32 → Int32 → Prop) (M : Mem) (x0 : Nat) (x1 : Int32) (x2 : Int32) : Prop := m_tp n x0 5 ∧ ((((M.1 x0 5) ≤ x2 → P (-1) M) ∧ (¬ (M.1 x0 5) ≤ x2 → wp_X5_jobAt n M x0 x2 (fun j3 M2 => m_tp n j3 3 ∧ (((¬ (M2.1 j3 0) = x1 → ∀ v5 : Int32, v5 = x2 + 1 → (R_ M2 x0 x1 v5)) ∧ ((M2.1 j3 0) = x1 → P x2 M2)))))))
def wpL_X5_placeOf_2 (n : Nat) (P : Int32 → Mem → Prop) : Nat → Mem → Nat → Int32 → Int32 → Prop
  | 0 => fun _ _ _ _ => False
  | f + 1 => fun M x0 x1 x2 => wpB_X5_placeOf_2 n P (wpL_X5_placeOf_2 n P f) M x0 x1 x2
def wp_X5_placeOf (n : Nat) (M : Mem) (i : Nat) (p1 : Int32) (P : Int32 → Mem → Prop) : Prop := ∃ f : Nat, wpL_X5_placeOf_2 n P f M i p1 0
abbrev rm_X5_placeOf : Room := { frames := 1, cells := 0, slots := 0, locals := 22 }
set_option maxHeartbeats 4000000 in
set_option maxRecDepth 100000 in
theorem c_X5_placeOf {l : Launch} {D : va_G} {cA : Nat → ClassId} {b n : Nat} {M : Mem} {i : Nat} {p1 : Int32} {P : Int32 → Mem → Prop} (h : wp_X5_placeOf n M i p1 P) : m_C l D cA b n n M yX5_placeOf cX5_placeOf 3 (some .int) rm_X5_placeOf 0 0 [.ref (b + i), .int p1] (rI P) := by
  refine m_enter (by decide) (Nat.le_of_ble_eq_true rfl) (fun p e s m below meth c C hr hlk hnm hK hP hS ls hl => ?_)
  have hx := C.1
  have hb := C.2.1
  have hl : lv_has ls 3 [(0, .ref (b + i)), (1, .int p1)] := hl
  have L2 : ∀ f : Nat, ∀ (M : Mem) (H : Heap) (locs : List Loc) (ls : Array Slot) (x0 : Nat) (x1 : Int32) (x2 : Int32), wpL_X5_placeOf_2 n P f M x0 x1 x2 → m_H D cA b n M H → va_S (m_A b) s.heap H locs → lv_has ls 3 [(0, .ref (b + x0)), (1, .int x1), (2, .int x2)] → W p l e rm_X5_placeOf s m ([.ref (b + i), .int p1] : List Value).toArray below meth c H locs 0 0 (MQ below (m_Q D cA b n (rI P)) ([.ref (b + i), .int p1] : List Value).toArray s 0 0 (m_A b)) (F0 m 2 ls []) := by
    clear h
    intro f
    induction f with
    | zero => intro M H locs ls x0 x1 x2 h; exact h.elim
    | succ f ih =>
      intro M H locs ls x0 x1 x2 h hP hS hl
      have h : wpB_X5_placeOf_2 n P (wpL_X5_placeOf_2 n P f) M x0 x1 x2 := h
      unfold wpB_X5_placeOf_2 at h
      refine lv_iload_n (pc := 2) hx hb dX5_placeOf_2 rfl (lv_at hl 2 rfl) ?_
      refine lv_aload_n (pc := 3) hx hb dX5_placeOf_3 rfl (lv_at hl 0 rfl) ?_
      obtain ⟨hk1, h⟩ := h
      refine gX5_83 (pc := 4) C hK hP hk1 dX5_placeOf_4 ?_
      refine lv_icmp_ge (tgt := 30) (pc := 7) hx hb dX5_placeOf_7 (by decide) (fun c7 => ?_) (fun c7 => ?_)
      · replace h := h.1 c7
        refine lv_iconst (v := -1) (pc := 30) hx hb dX5_placeOf_30 (by decide) ?_
        exact m_iret (v := (-1)) (pc := 31) C hr hlk hP hS dX5_placeOf_31 h
      · replace h := h.2 c7
        refine lv_aload_n (pc := 10) hx hb dX5_placeOf_10 rfl (lv_at hl 0 rfl) ?_
        refine lv_iload_n (pc := 11) hx hb dX5_placeOf_11 rfl (lv_at hl 2 rfl) ?_
        refine m_callVR (pc := 12) (y := yX5_jobAt) (κ := 5) (As := [.int x2]) (rest := []) C hK hP hS hl.1 ⟨Nat.zero_le _, Nat.zero_le _⟩ (c_X5_jobAt h) rfl rfl hk1 (by decide) rfl q_363 q_364 q_365 q_2 q_366 ⟨rfl, rfl⟩ yd_X5_jobAt ⟨Nat.le_of_ble_eq_true rfl, Nat.le_of_ble_eq_true rfl⟩ (Nat.le_of_ble_eq_true rfl) dX5_placeOf_12 (fun j3 M2 H locs h hP hS => ?_)
        obtain ⟨hk4, h⟩ := h
        refine gX5_122 (pc := 15) C hK hP hk4 dX5_placeOf_15 ?_
        refine lv_iload_n (pc := 18) hx hb dX5_placeOf_18 rfl (lv_at hl 1 rfl) ?_
        refine lv_icmp_ne (tgt := 24) (pc := 19) hx hb dX5_placeOf_19 (by decide) (fun c19 => ?_) (fun c19 => ?_)
        · replace h := h.1 c19
          obtain ⟨v5, ev5⟩ : ∃ y : Int32, y = x2 + 1 := ⟨_, rfl⟩
          replace h := h v5 ev5
          refine lv_iinc (v := v5) (lv' := [(2, .int v5), (0, .ref (b + x0)), (1, .int x1)]) (pc := 24) hx hb dX5_placeOf_24 hl (k := 2) rfl (by rw [ev5]; rfl) (by decide) rfl (fun ls hl => ?_)
          refine lv_goto (tgt := 2) (pc := 27) hx hb dX5_placeOf_27 (by decide) ?_
          exact ih _ _ _ _ _ _ _ h hP hS (lv_sub hl [1, 2, 0] rfl)
        · replace h := h.2 c19
          refine lv_iload_n (pc := 22) hx hb dX5_placeOf_22 rfl (lv_at hl 2 rfl) ?_
          exact m_iret (v := x2) (pc := 23) C hr hlk hP hS dX5_placeOf_23 h
  unfold wp_X5_placeOf at h
  refine lv_iconst (v := 0) (pc := 0) hx hb dX5_placeOf_0 (by decide) ?_
  refine lv_istore_n (lv' := [(2, .int 0), (0, .ref (b + i)), (1, .int p1)]) (pc := 1) hx hb dX5_placeOf_1 rfl hl (by decide) rfl (fun ls hl => ?_)
  obtain ⟨f, h⟩ := h
  exact L2 f _ _ _ _ _ _ _ h hP hS (lv_sub hl [1, 2, 0] rfl)
/-! ForgeHeats$Shop.removeJob (I)V -/
def wpB_X5_removeJob_12 (n : Nat) (P : Mem → Prop) (R_ : Mem → Nat → Int32 → Prop) (M : Mem) (x0 : Nat) (x2 : Int32) : Prop := m_tp n x0 5 ∧ ((((M.1 x0 5) ≤ x2 → P M) ∧ (¬ (M.1 x0 5) ≤ x2 → wp_X5_swapJobs n M x0 x2 (x2 + 1) (fun M4 => ∀ v6 : Int32, v6 = x2 + 1 → (R_ M4 x0 v6)))))
def wpL_X5_removeJob_12 (n : Nat) (P : Mem → Prop) : Nat → Mem → Nat → Int32 → Prop
  | 0 => fun _ _ _ => False
  | f + 1 => fun M x0 x2 => wpB_X5_removeJob_12 n P (wpL_X5_removeJob_12 n P f) M x0 x2
def wp_X5_removeJob (n : Nat) (M : Mem) (i : Nat) (p1 : Int32) (P : Mem → Prop) : Prop := m_tp n i 5 ∧ (∀ M2 : Mem, M2 = uI M i 5 ((M.1 i 5) - 1) → (∃ f : Nat, wpL_X5_removeJob_12 n P f M2 i p1))
abbrev rm_X5_removeJob : Room := { frames := 1, cells := 0, slots := 0, locals := 23 }
set_option maxHeartbeats 4000000 in
set_option maxRecDepth 100000 in
theorem c_X5_removeJob {l : Launch} {D : va_G} {cA : Nat → ClassId} {b n : Nat} {M : Mem} {i : Nat} {p1 : Int32} {P : Mem → Prop} (h : wp_X5_removeJob n M i p1 P) : m_C l D cA b n n M yX5_removeJob cX5_removeJob 3 none rm_X5_removeJob 0 0 [.ref (b + i), .int p1] (rV P) := by
  refine m_enter (by decide) (Nat.le_of_ble_eq_true rfl) (fun p e s m below meth c C hr hlk hnm hK hP hS ls hl => ?_)
  have hx := C.1
  have hb := C.2.1
  have hl : lv_has ls 3 [(0, .ref (b + i)), (1, .int p1)] := hl
  have L12 : ∀ f : Nat, ∀ (M : Mem) (H : Heap) (locs : List Loc) (ls : Array Slot) (x0 : Nat) (x2 : Int32), wpL_X5_removeJob_12 n P f M x0 x2 → m_H D cA b n M H → va_S (m_A b) s.heap H locs → lv_has ls 3 [(0, .ref (b + x0)), (2, .int x2)] → W p l e rm_X5_removeJob s m ([.ref (b + i), .int p1] : List Value).toArray below meth c H locs 0 0 (MQ below (m_Q D cA b n (rV P)) ([.ref (b + i), .int p1] : List Value).toArray s 0 0 (m_A b)) (F0 m 12 ls []) := by
    clear h
    intro f
    induction f with
    | zero => intro M H locs ls x0 x2 h; exact h.elim
    | succ f ih =>
      intro M H locs ls x0 x2 h hP hS hl
      have h : wpB_X5_removeJob_12 n P (wpL_X5_removeJob_12 n P f) M x0 x2 := h
      unfold wpB_X5_removeJob_12 at h
      refine lv_iload_n (pc := 12) hx hb dX5_removeJob_12 rfl (lv_at hl 1 rfl) ?_
      refine lv_aload_n (pc := 13) hx hb dX5_removeJob_13 rfl (lv_at hl 0 rfl) ?_
      obtain ⟨hk3, h⟩ := h
      refine gX5_83 (pc := 14) C hK hP hk3 dX5_removeJob_14 ?_
      refine lv_icmp_ge (tgt := 34) (pc := 17) hx hb dX5_removeJob_17 (by decide) (fun c17 => ?_) (fun c17 => ?_)
      · replace h := h.1 c17
        exact m_vret (pc := 34) C hr hlk hP hS dX5_removeJob_34 h
      · replace h := h.2 c17
        refine lv_aload_n (pc := 20) hx hb dX5_removeJob_20 rfl (lv_at hl 0 rfl) ?_
        refine lv_iload_n (pc := 21) hx hb dX5_removeJob_21 rfl (lv_at hl 1 rfl) ?_
        refine lv_iload_n (pc := 22) hx hb dX5_removeJob_22 rfl (lv_at hl 1 rfl) ?_
        refine lv_iconst (v := 1) (pc := 23) hx hb dX5_removeJob_23 (by decide) ?_
        refine lv_iadd (pc := 24) hx hb dX5_removeJob_24 ?_
        refine m_callVV (pc := 25) (y := yX5_swapJobs) (κ := 5) (As := [.int x2, .int (x2 + 1)]) (rest := []) C hK hP hS hl.1 ⟨Nat.zero_le _, Nat.zero_le _⟩ (c_X5_swapJobs h) rfl rfl hk3 (by decide) rfl q_600 q_602 q_s11 q_2 q_603 ⟨rfl, rfl⟩ yd_X5_swapJobs ⟨Nat.le_of_ble_eq_true rfl, Nat.le_of_ble_eq_true rfl⟩ (Nat.le_of_ble_eq_true rfl) dX5_removeJob_25 (fun M4 H locs h hP hS => ?_)
        obtain ⟨v6, ev6⟩ : ∃ y : Int32, y = x2 + 1 := ⟨_, rfl⟩
        replace h := h v6 ev6
        refine lv_iinc (v := v6) (lv' := [(2, .int v6), (0, .ref (b + x0))]) (pc := 28) hx hb dX5_removeJob_28 hl (k := 1) rfl (by rw [ev6]; rfl) (by decide) rfl (fun ls hl => ?_)
        refine lv_goto (tgt := 12) (pc := 31) hx hb dX5_removeJob_31 (by decide) ?_
        exact ih _ _ _ _ _ _ h hP hS (lv_sub hl [1, 0] rfl)
  unfold wp_X5_removeJob at h
  refine lv_aload_n (pc := 0) hx hb dX5_removeJob_0 rfl (lv_at hl 0 rfl) ?_
  refine lv_dup (pc := 1) hx hb dX5_removeJob_1 rfl ?_
  obtain ⟨hk1, h⟩ := h
  refine gX5_83 (pc := 2) C hK hP hk1 dX5_removeJob_2 ?_
  refine lv_iconst (v := 1) (pc := 5) hx hb dX5_removeJob_5 (by decide) ?_
  refine lv_isub (pc := 6) hx hb dX5_removeJob_6 ?_
  refine pX5_83 (pc := 7) (v := (M.1 i 5) - 1) C hK hP hS hk1 dX5_removeJob_7 (fun M2 H locs eM2 hP hS => ?_)
  replace h := h M2 eM2
  refine lv_iload_n (pc := 10) hx hb dX5_removeJob_10 rfl (lv_at hl 1 rfl) ?_
  refine lv_istore_n (lv' := [(2, .int p1), (0, .ref (b + i)), (1, .int p1)]) (pc := 11) hx hb dX5_removeJob_11 rfl hl (by decide) rfl (fun ls hl => ?_)
  obtain ⟨f, h⟩ := h
  exact L12 f _ _ _ _ _ _ h hP hS (lv_sub hl [1, 0] rfl)
/-! ForgeHeats$Shop.dropJob (I)I -/
def wpB_X5_dropJob_8 (n : Nat) (P : Int32 → Mem → Prop) (R_ : Mem → Nat → Int32 → Nat → Int32 → Prop) (M : Mem) (x0 : Nat) (x1 : Int32) (x2 : Nat) (x3 : Int32) : Prop := ((6 < x3 → m_tp n x2 3 ∧ (m_tp n x0 5 ∧ (wp_X5_heatAt n M x0 (M.1 x2 2) (fun j7 M5 => m_tp n j7 2 ∧ (∀ M9 : Mem, M9 = uI M5 j7 4 ((M5.1 j7 4) + (M5.1 x2 7)) → (wp_X5_removeJob n M9 x0 x1 (fun M10 => P (M10.1 x2 7) M10))))))) ∧ (¬ 6 < x3 → m_tp n x0 5 ∧ (wp_X5_billetAt n M x0 x3 (fun j14 M12 => m_tp n j14 0 ∧ (m_tp n x2 3 ∧ (((¬ (M12.1 j14 0) = (M12.1 x2 0) → ∀ v17 : Int32, v17 = x3 + 1 → (R_ M12 x0 x1 x2 v17)) ∧ ((M12.1 j14 0) = (M12.1 x2 0) → ∀ M18 : Mem, M18 = uI M12 j14 0 (-1) → (∀ v19 : Int32, v19 = x3 + 1 → (R_ M18 x0 x1 x2 v19))))))))))
def wpL_X5_dropJob_8 (n : Nat) (P : Int32 → Mem → Prop) : Nat → Mem → Nat → Int32 → Nat → Int32 → Prop
  | 0 => fun _ _ _ _ _ => False
  | f + 1 => fun M x0 x1 x2 x3 => wpB_X5_dropJob_8 n P (wpL_X5_dropJob_8 n P f) M x0 x1 x2 x3
def wp_X5_dropJob (n : Nat) (M : Mem) (i : Nat) (p1 : Int32) (P : Int32 → Mem → Prop) : Prop := m_tp n i 5 ∧ (wp_X5_jobAt n M i p1 (fun j3 M1 => ∃ f : Nat, wpL_X5_dropJob_8 n P f M1 i p1 j3 0))
abbrev rm_X5_dropJob : Room := { frames := 2, cells := 0, slots := 0, locals := 45 }
set_option maxHeartbeats 4000000 in
set_option maxRecDepth 100000 in
theorem c_X5_dropJob {l : Launch} {D : va_G} {cA : Nat → ClassId} {b n : Nat} {M : Mem} {i : Nat} {p1 : Int32} {P : Int32 → Mem → Prop} (h : wp_X5_dropJob n M i p1 P) : m_C l D cA b n n M yX5_dropJob cX5_dropJob 5 (some .int) rm_X5_dropJob 0 0 [.ref (b + i), .int p1] (rI P) := by
  refine m_enter (by decide) (Nat.le_of_ble_eq_true rfl) (fun p e s m below meth c C hr hlk hnm hK hP hS ls hl => ?_)
  have hx := C.1
  have hb := C.2.1
  have hl : lv_has ls 5 [(0, .ref (b + i)), (1, .int p1)] := hl
  have L8 : ∀ f : Nat, ∀ (M : Mem) (H : Heap) (locs : List Loc) (ls : Array Slot) (x0 : Nat) (x1 : Int32) (x2 : Nat) (x3 : Int32), wpL_X5_dropJob_8 n P f M x0 x1 x2 x3 → m_H D cA b n M H → va_S (m_A b) s.heap H locs → lv_has ls 5 [(0, .ref (b + x0)), (1, .int x1), (2, .ref (b + x2)), (3, .int x3)] → W p l e rm_X5_dropJob s m ([.ref (b + i), .int p1] : List Value).toArray below meth c H locs 0 0 (MQ below (m_Q D cA b n (rI P)) ([.ref (b + i), .int p1] : List Value).toArray s 0 0 (m_A b)) (F0 m 8 ls []) := by
    clear h
    intro f
    induction f with
    | zero => intro M H locs ls x0 x1 x2 x3 h; exact h.elim
    | succ f ih =>
      intro M H locs ls x0 x1 x2 x3 h hP hS hl
      have h : wpB_X5_dropJob_8 n P (wpL_X5_dropJob_8 n P f) M x0 x1 x2 x3 := h
      unfold wpB_X5_dropJob_8 at h
      refine lv_iload_n (pc := 8) hx hb dX5_dropJob_8 rfl (lv_at hl 3 rfl) ?_
      refine lv_bipush (v := 6) (pc := 9) hx hb dX5_dropJob_9 (by decide) ?_
      refine lv_icmp_gt (tgt := 45) (pc := 11) hx hb dX5_dropJob_11 (by decide) (fun c11 => ?_) (fun c11 => ?_)
      · replace h := h.1 c11
        refine lv_aload_n (pc := 45) hx hb dX5_dropJob_45 rfl (lv_at hl 0 rfl) ?_
        refine lv_aload_n (pc := 46) hx hb dX5_dropJob_46 rfl (lv_at hl 2 rfl) ?_
        obtain ⟨hk4, h⟩ := h
        refine gX5_128 (pc := 47) C hK hP hk4 dX5_dropJob_47 ?_
        obtain ⟨hk6, h⟩ := h
        refine m_callVR (pc := 50) (y := yX5_heatAt) (κ := 5) (As := [.int (M.1 x2 2)]) (rest := []) C hK hP hS hl.1 ⟨Nat.zero_le _, Nat.zero_le _⟩ (c_X5_heatAt h) rfl rfl hk6 (by decide) rfl q_347 q_348 q_349 q_2 q_350 ⟨rfl, rfl⟩ yd_X5_heatAt ⟨Nat.le_of_ble_eq_true rfl, Nat.le_of_ble_eq_true rfl⟩ (Nat.le_of_ble_eq_true rfl) dX5_dropJob_50 (fun j7 M5 H locs h hP hS => ?_)
        refine lv_dup (pc := 53) hx hb dX5_dropJob_53 rfl ?_
        obtain ⟨hk8, h⟩ := h
        refine gX5_162 (pc := 54) C hK hP hk8 dX5_dropJob_54 ?_
        refine lv_aload_n (pc := 57) hx hb dX5_dropJob_57 rfl (lv_at hl 2 rfl) ?_
        refine gX5_144 (pc := 58) C hK hP hk4 dX5_dropJob_58 ?_
        refine lv_iadd (pc := 61) hx hb dX5_dropJob_61 ?_
        refine pX5_162 (pc := 62) (v := (M5.1 j7 4) + (M5.1 x2 7)) C hK hP hS hk8 dX5_dropJob_62 (fun M9 H locs eM9 hP hS => ?_)
        replace h := h M9 eM9
        refine lv_aload_n (pc := 65) hx hb dX5_dropJob_65 rfl (lv_at hl 0 rfl) ?_
        refine lv_iload_n (pc := 66) hx hb dX5_dropJob_66 rfl (lv_at hl 1 rfl) ?_
        refine m_callVV (pc := 67) (y := yX5_removeJob) (κ := 5) (As := [.int x1]) (rest := []) C hK hP hS hl.1 ⟨Nat.zero_le _, Nat.zero_le _⟩ (c_X5_removeJob h) rfl rfl hk6 (by decide) rfl q_596 q_598 q_s10 q_2 q_599 ⟨rfl, rfl⟩ yd_X5_removeJob ⟨Nat.le_of_ble_eq_true rfl, Nat.le_of_ble_eq_true rfl⟩ (Nat.le_of_ble_eq_true rfl) dX5_dropJob_67 (fun M10 H locs h hP hS => ?_)
        refine lv_aload_n (pc := 70) hx hb dX5_dropJob_70 rfl (lv_at hl 2 rfl) ?_
        refine gX5_144 (pc := 71) C hK hP hk4 dX5_dropJob_71 ?_
        exact m_iret (v := M10.1 x2 7) (pc := 74) C hr hlk hP hS dX5_dropJob_74 h
      · replace h := h.2 c11
        refine lv_aload_n (pc := 14) hx hb dX5_dropJob_14 rfl (lv_at hl 0 rfl) ?_
        refine lv_iload_n (pc := 15) hx hb dX5_dropJob_15 rfl (lv_at hl 3 rfl) ?_
        obtain ⟨hk13, h⟩ := h
        refine m_callVR (pc := 16) (y := yX5_billetAt) (κ := 5) (As := [.int x3]) (rest := []) C hK hP hS hl.1 ⟨Nat.zero_le _, Nat.zero_le _⟩ (c_X5_billetAt h) rfl rfl hk13 (by decide) rfl q_371 q_372 q_373 q_2 q_374 ⟨rfl, rfl⟩ yd_X5_billetAt ⟨Nat.le_of_ble_eq_true rfl, Nat.le_of_ble_eq_true rfl⟩ (Nat.le_of_ble_eq_true rfl) dX5_dropJob_16 (fun j14 M12 H locs h hP hS => ?_)
        refine lv_astore (lv' := [(4, .ref (b + j14)), (0, .ref (b + x0)), (1, .int x1), (2, .ref (b + x2)), (3, .int x3)]) (pc := 19) hx hb dX5_dropJob_19 hl (by decide) rfl (fun ls hl => ?_)
        refine lv_aload (pc := 21) hx hb dX5_dropJob_21 (lv_at hl 0 rfl) ?_
        obtain ⟨hk15, h⟩ := h
        refine gX5_159 (pc := 23) C hK hP hk15 dX5_dropJob_23 ?_
        refine lv_aload_n (pc := 26) hx hb dX5_dropJob_26 rfl (lv_at hl 3 rfl) ?_
        obtain ⟨hk16, h⟩ := h
        refine gX5_122 (pc := 27) C hK hP hk16 dX5_dropJob_27 ?_
        refine lv_icmp_ne (tgt := 39) (pc := 30) hx hb dX5_dropJob_30 (by decide) (fun c30 => ?_) (fun c30 => ?_)
        · replace h := h.1 c30
          obtain ⟨v17, ev17⟩ : ∃ y : Int32, y = x3 + 1 := ⟨_, rfl⟩
          replace h := h v17 ev17
          refine lv_iinc (v := v17) (lv' := [(3, .int v17), (4, .ref (b + j14)), (0, .ref (b + x0)), (1, .int x1), (2, .ref (b + x2))]) (pc := 39) hx hb dX5_dropJob_39 hl (k := 4) rfl (by rw [ev17]; rfl) (by decide) rfl (fun ls hl => ?_)
          refine lv_goto (tgt := 8) (pc := 42) hx hb dX5_dropJob_42 (by decide) ?_
          exact ih _ _ _ _ _ _ _ _ h hP hS (lv_sub hl [2, 3, 4, 0] rfl)
        · replace h := h.2 c30
          refine lv_aload (pc := 33) hx hb dX5_dropJob_33 (lv_at hl 0 rfl) ?_
          refine lv_iconst (v := -1) (pc := 35) hx hb dX5_dropJob_35 (by decide) ?_
          refine pX5_159 (pc := 36) (v := (-1)) C hK hP hS hk15 dX5_dropJob_36 (fun M18 H locs eM18 hP hS => ?_)
          replace h := h M18 eM18
          obtain ⟨v19, ev19⟩ : ∃ y : Int32, y = x3 + 1 := ⟨_, rfl⟩
          replace h := h v19 ev19
          refine lv_iinc (v := v19) (lv' := [(3, .int v19), (4, .ref (b + j14)), (0, .ref (b + x0)), (1, .int x1), (2, .ref (b + x2))]) (pc := 39) hx hb dX5_dropJob_39 hl (k := 4) rfl (by rw [ev19]; rfl) (by decide) rfl (fun ls hl => ?_)
          refine lv_goto (tgt := 8) (pc := 42) hx hb dX5_dropJob_42 (by decide) ?_
          exact ih _ _ _ _ _ _ _ _ h hP hS (lv_sub hl [2, 3, 4, 0] rfl)
  unfold wp_X5_dropJob at h
  refine lv_aload_n (pc := 0) hx hb dX5_dropJob_0 rfl (lv_at hl 0 rfl) ?_
  refine lv_iload_n (pc := 1) hx hb dX5_dropJob_1 rfl (lv_at hl 1 rfl) ?_
  obtain ⟨hk2, h⟩ := h
  refine m_callVR (pc := 2) (y := yX5_jobAt) (κ := 5) (As := [.int p1]) (rest := []) C hK hP hS hl.1 ⟨Nat.zero_le _, Nat.zero_le _⟩ (c_X5_jobAt h) rfl rfl hk2 (by decide) rfl q_363 q_364 q_365 q_2 q_366 ⟨rfl, rfl⟩ yd_X5_jobAt ⟨Nat.le_of_ble_eq_true rfl, Nat.le_of_ble_eq_true rfl⟩ (Nat.le_of_ble_eq_true rfl) dX5_dropJob_2 (fun j3 M1 H locs h hP hS => ?_)
  refine lv_astore_n (lv' := [(2, .ref (b + j3)), (0, .ref (b + i)), (1, .int p1)]) (pc := 5) hx hb dX5_dropJob_5 rfl hl (by decide) rfl (fun ls hl => ?_)
  refine lv_iconst (v := 0) (pc := 6) hx hb dX5_dropJob_6 (by decide) ?_
  refine lv_istore_n (lv' := [(3, .int 0), (2, .ref (b + j3)), (0, .ref (b + i)), (1, .int p1)]) (pc := 7) hx hb dX5_dropJob_7 rfl hl (by decide) rfl (fun ls hl => ?_)
  obtain ⟨f, h⟩ := h
  exact L8 f _ _ _ _ _ _ _ _ h hP hS (lv_sub hl [2, 3, 1, 0] rfl)
/-! ForgeHeats$Shop.valueOf (I)I -/
def wp_X5_valueOf (n : Nat) (M : Mem) (i : Nat) (p1 : Int32) (P : Int32 → Mem → Prop) : Prop := ((p1 = 0 → m_tp n i 5 ∧ (P (M.1 i 7) M)) ∧ (¬ p1 = 0 → ((p1 = 1 → m_tp n i 5 ∧ (P (M.1 i 8) M)) ∧ (¬ p1 = 1 → ((p1 = 2 → m_tp n i 5 ∧ (P (M.1 i 9) M)) ∧ (¬ p1 = 2 → m_tp n i 5 ∧ (P (M.1 i 10) M)))))))
abbrev rm_X5_valueOf : Room := { frames := 0, cells := 0, slots := 0, locals := 0 }
set_option maxHeartbeats 4000000 in
set_option maxRecDepth 100000 in
theorem c_X5_valueOf {l : Launch} {D : va_G} {cA : Nat → ClassId} {b n : Nat} {M : Mem} {i : Nat} {p1 : Int32} {P : Int32 → Mem → Prop} (h : wp_X5_valueOf n M i p1 P) : m_C l D cA b n n M yX5_valueOf cX5_valueOf 2 (some .int) rm_X5_valueOf 0 0 [.ref (b + i), .int p1] (rI P) := by
  refine m_enter (by decide) (Nat.le_of_ble_eq_true rfl) (fun p e s m below meth c C hr hlk hnm hK hP hS ls hl => ?_)
  have hx := C.1
  have hb := C.2.1
  have hl : lv_has ls 2 [(0, .ref (b + i)), (1, .int p1)] := hl
  unfold wp_X5_valueOf at h
  refine lv_iload_n (pc := 0) hx hb dX5_valueOf_0 rfl (lv_at hl 1 rfl) ?_
  by_cases n1_0 : p1 = 0
  · replace h := h.1 n1_0
    refine m_case (v := 0) (off := 27) (tgt := 28) (pc := 1) hx hb n1_0 dX5_valueOf_1 (by decide) (by decide) (by decide) (by decide) ?_
    refine lv_aload_n (pc := 28) hx hb dX5_valueOf_28 rfl (lv_at hl 0 rfl) ?_
    obtain ⟨hk1, h⟩ := h
    refine gX5_9 (pc := 29) C hK hP hk1 dX5_valueOf_29 ?_
    exact m_iret (v := M.1 i 7) (pc := 32) C hr hlk hP hS dX5_valueOf_32 h
  · replace h := h.2 n1_0
    by_cases n1_1 : p1 = 1
    · replace h := h.1 n1_1
      refine m_case (v := 1) (off := 32) (tgt := 33) (pc := 1) hx hb n1_1 dX5_valueOf_1 (by decide) (by decide) (by decide) (by decide) ?_
      refine lv_aload_n (pc := 33) hx hb dX5_valueOf_33 rfl (lv_at hl 0 rfl) ?_
      obtain ⟨hk2, h⟩ := h
      refine gX5_15 (pc := 34) C hK hP hk2 dX5_valueOf_34 ?_
      exact m_iret (v := M.1 i 8) (pc := 37) C hr hlk hP hS dX5_valueOf_37 h
    · replace h := h.2 n1_1
      by_cases n1_2 : p1 = 2
      · replace h := h.1 n1_2
        refine m_case (v := 2) (off := 37) (tgt := 38) (pc := 1) hx hb n1_2 dX5_valueOf_1 (by decide) (by decide) (by decide) (by decide) ?_
        refine lv_aload_n (pc := 38) hx hb dX5_valueOf_38 rfl (lv_at hl 0 rfl) ?_
        obtain ⟨hk3, h⟩ := h
        refine gX5_18 (pc := 39) C hK hP hk3 dX5_valueOf_39 ?_
        exact m_iret (v := M.1 i 9) (pc := 42) C hr hlk hP hS dX5_valueOf_42 h
      · replace h := h.2 n1_2
        refine lv_tableOut (tgt := 43) (pc := 1) hx hb dX5_valueOf_1 (by have i0 := i_ne n1_0; have i1 := i_ne n1_1; have i2 := i_ne n1_2; simp only [m_lit] at *; omega) (by decide) ?_
        refine lv_aload_n (pc := 43) hx hb dX5_valueOf_43 rfl (lv_at hl 0 rfl) ?_
        obtain ⟨hk4, h⟩ := h
        refine gX5_21 (pc := 44) C hK hP hk4 dX5_valueOf_44 ?_
        exact m_iret (v := M.1 i 10) (pc := 47) C hr hlk hP hS dX5_valueOf_47 h
/-! ForgeHeats$Shop.putValue (II)V -/
def wp_X5_putValue (n : Nat) (M : Mem) (i : Nat) (p1 : Int32) (p2 : Int32) (P : Mem → Prop) : Prop := ((p1 = 0 → m_tp n i 5 ∧ (∀ M2 : Mem, M2 = uI M i 7 p2 → (P M2))) ∧ (¬ p1 = 0 → ((p1 = 1 → m_tp n i 5 ∧ (∀ M4 : Mem, M4 = uI M i 8 p2 → (P M4))) ∧ (¬ p1 = 1 → ((p1 = 2 → m_tp n i 5 ∧ (∀ M6 : Mem, M6 = uI M i 9 p2 → (P M6))) ∧ (¬ p1 = 2 → m_tp n i 5 ∧ (∀ M8 : Mem, M8 = uI M i 10 p2 → (P M8))))))))
abbrev rm_X5_putValue : Room := { frames := 0, cells := 0, slots := 0, locals := 0 }
set_option maxHeartbeats 4000000 in
set_option maxRecDepth 100000 in
theorem c_X5_putValue {l : Launch} {D : va_G} {cA : Nat → ClassId} {b n : Nat} {M : Mem} {i : Nat} {p1 : Int32} {p2 : Int32} {P : Mem → Prop} (h : wp_X5_putValue n M i p1 p2 P) : m_C l D cA b n n M yX5_putValue cX5_putValue 3 none rm_X5_putValue 0 0 [.ref (b + i), .int p1, .int p2] (rV P) := by
  refine m_enter (by decide) (Nat.le_of_ble_eq_true rfl) (fun p e s m below meth c C hr hlk hnm hK hP hS ls hl => ?_)
  have hx := C.1
  have hb := C.2.1
  have hl : lv_has ls 3 [(0, .ref (b + i)), (1, .int p1), (2, .int p2)] := hl
  unfold wp_X5_putValue at h
  refine lv_iload_n (pc := 0) hx hb dX5_putValue_0 rfl (lv_at hl 1 rfl) ?_
  by_cases n1_0 : p1 = 0
  · replace h := h.1 n1_0
    refine m_case (v := 0) (off := 27) (tgt := 28) (pc := 1) hx hb n1_0 dX5_putValue_1 (by decide) (by decide) (by decide) (by decide) ?_
    refine lv_aload_n (pc := 28) hx hb dX5_putValue_28 rfl (lv_at hl 0 rfl) ?_
    refine lv_iload_n (pc := 29) hx hb dX5_putValue_29 rfl (lv_at hl 2 rfl) ?_
    obtain ⟨hk1, h⟩ := h
    refine pX5_9 (pc := 30) (v := p2) C hK hP hS hk1 dX5_putValue_30 (fun M2 H locs eM2 hP hS => ?_)
    replace h := h M2 eM2
    refine lv_goto (tgt := 57) (pc := 33) hx hb dX5_putValue_33 (by decide) ?_
    exact m_vret (pc := 57) C hr hlk hP hS dX5_putValue_57 h
  · replace h := h.2 n1_0
    by_cases n1_1 : p1 = 1
    · replace h := h.1 n1_1
      refine m_case (v := 1) (off := 35) (tgt := 36) (pc := 1) hx hb n1_1 dX5_putValue_1 (by decide) (by decide) (by decide) (by decide) ?_
      refine lv_aload_n (pc := 36) hx hb dX5_putValue_36 rfl (lv_at hl 0 rfl) ?_
      refine lv_iload_n (pc := 37) hx hb dX5_putValue_37 rfl (lv_at hl 2 rfl) ?_
      obtain ⟨hk3, h⟩ := h
      refine pX5_15 (pc := 38) (v := p2) C hK hP hS hk3 dX5_putValue_38 (fun M4 H locs eM4 hP hS => ?_)
      replace h := h M4 eM4
      refine lv_goto (tgt := 57) (pc := 41) hx hb dX5_putValue_41 (by decide) ?_
      exact m_vret (pc := 57) C hr hlk hP hS dX5_putValue_57 h
    · replace h := h.2 n1_1
      by_cases n1_2 : p1 = 2
      · replace h := h.1 n1_2
        refine m_case (v := 2) (off := 43) (tgt := 44) (pc := 1) hx hb n1_2 dX5_putValue_1 (by decide) (by decide) (by decide) (by decide) ?_
        refine lv_aload_n (pc := 44) hx hb dX5_putValue_44 rfl (lv_at hl 0 rfl) ?_
        refine lv_iload_n (pc := 45) hx hb dX5_putValue_45 rfl (lv_at hl 2 rfl) ?_
        obtain ⟨hk5, h⟩ := h
        refine pX5_18 (pc := 46) (v := p2) C hK hP hS hk5 dX5_putValue_46 (fun M6 H locs eM6 hP hS => ?_)
        replace h := h M6 eM6
        refine lv_goto (tgt := 57) (pc := 49) hx hb dX5_putValue_49 (by decide) ?_
        exact m_vret (pc := 57) C hr hlk hP hS dX5_putValue_57 h
      · replace h := h.2 n1_2
        refine lv_tableOut (tgt := 52) (pc := 1) hx hb dX5_putValue_1 (by have i0 := i_ne n1_0; have i1 := i_ne n1_1; have i2 := i_ne n1_2; simp only [m_lit] at *; omega) (by decide) ?_
        refine lv_aload_n (pc := 52) hx hb dX5_putValue_52 rfl (lv_at hl 0 rfl) ?_
        refine lv_iload_n (pc := 53) hx hb dX5_putValue_53 rfl (lv_at hl 2 rfl) ?_
        obtain ⟨hk7, h⟩ := h
        refine pX5_21 (pc := 54) (v := p2) C hK hP hS hk7 dX5_putValue_54 (fun M8 H locs eM8 hP hS => ?_)
        replace h := h M8 eM8
        exact m_vret (pc := 57) C hr hlk hP hS dX5_putValue_57 h
/-! ForgeHeats$Shop.countMade ()I -/
def wpB_X5_countMade_4 (n : Nat) (P : Int32 → Mem → Prop) (R_ : Mem → Nat → Int32 → Int32 → Prop) (M : Mem) (x0 : Nat) (x1 : Int32) (x2 : Int32) : Prop := ((4 ≤ x2 → P x1 M) ∧ (¬ 4 ≤ x2 → m_tp n x0 5 ∧ (wp_X5_heatAt n M x0 x2 (fun j3 M1 => m_tp n j3 2 ∧ (∀ v5 : Int32, v5 = (x1 + (M1.1 j3 3)) → (∀ v6 : Int32, v6 = x2 + 1 → (R_ M1 x0 v5 v6)))))))
def wpL_X5_countMade_4 (n : Nat) (P : Int32 → Mem → Prop) : Nat → Mem → Nat → Int32 → Int32 → Prop
  | 0 => fun _ _ _ _ => False
  | f + 1 => fun M x0 x1 x2 => wpB_X5_countMade_4 n P (wpL_X5_countMade_4 n P f) M x0 x1 x2
def wp_X5_countMade (n : Nat) (M : Mem) (i : Nat) (P : Int32 → Mem → Prop) : Prop := ∃ f : Nat, wpL_X5_countMade_4 n P f M i 0 0
abbrev rm_X5_countMade : Room := { frames := 1, cells := 0, slots := 0, locals := 22 }
set_option maxHeartbeats 4000000 in
set_option maxRecDepth 100000 in
theorem c_X5_countMade {l : Launch} {D : va_G} {cA : Nat → ClassId} {b n : Nat} {M : Mem} {i : Nat} {P : Int32 → Mem → Prop} (h : wp_X5_countMade n M i P) : m_C l D cA b n n M yX5_countMade cX5_countMade 3 (some .int) rm_X5_countMade 0 0 [.ref (b + i)] (rI P) := by
  refine m_enter (by decide) (Nat.le_of_ble_eq_true rfl) (fun p e s m below meth c C hr hlk hnm hK hP hS ls hl => ?_)
  have hx := C.1
  have hb := C.2.1
  have hl : lv_has ls 3 [(0, .ref (b + i))] := hl
  have L4 : ∀ f : Nat, ∀ (M : Mem) (H : Heap) (locs : List Loc) (ls : Array Slot) (x0 : Nat) (x1 : Int32) (x2 : Int32), wpL_X5_countMade_4 n P f M x0 x1 x2 → m_H D cA b n M H → va_S (m_A b) s.heap H locs → lv_has ls 3 [(0, .ref (b + x0)), (1, .int x1), (2, .int x2)] → W p l e rm_X5_countMade s m ([.ref (b + i)] : List Value).toArray below meth c H locs 0 0 (MQ below (m_Q D cA b n (rI P)) ([.ref (b + i)] : List Value).toArray s 0 0 (m_A b)) (F0 m 4 ls []) := by
    clear h
    intro f
    induction f with
    | zero => intro M H locs ls x0 x1 x2 h; exact h.elim
    | succ f ih =>
      intro M H locs ls x0 x1 x2 h hP hS hl
      have h : wpB_X5_countMade_4 n P (wpL_X5_countMade_4 n P f) M x0 x1 x2 := h
      unfold wpB_X5_countMade_4 at h
      refine lv_iload_n (pc := 4) hx hb dX5_countMade_4 rfl (lv_at hl 2 rfl) ?_
      refine lv_iconst (v := 4) (pc := 5) hx hb dX5_countMade_5 (by decide) ?_
      refine lv_icmp_ge (tgt := 26) (pc := 6) hx hb dX5_countMade_6 (by decide) (fun c6 => ?_) (fun c6 => ?_)
      · replace h := h.1 c6
        refine lv_iload_n (pc := 26) hx hb dX5_countMade_26 rfl (lv_at hl 1 rfl) ?_
        exact m_iret (v := x1) (pc := 27) C hr hlk hP hS dX5_countMade_27 h
      · replace h := h.2 c6
        refine lv_iload_n (pc := 9) hx hb dX5_countMade_9 rfl (lv_at hl 1 rfl) ?_
        refine lv_aload_n (pc := 10) hx hb dX5_countMade_10 rfl (lv_at hl 0 rfl) ?_
        refine lv_iload_n (pc := 11) hx hb dX5_countMade_11 rfl (lv_at hl 2 rfl) ?_
        obtain ⟨hk2, h⟩ := h
        refine m_callVR (pc := 12) (y := yX5_heatAt) (κ := 5) (As := [.int x2]) (rest := [.int x1]) C hK hP hS hl.1 ⟨Nat.zero_le _, Nat.zero_le _⟩ (c_X5_heatAt h) rfl rfl hk2 (by decide) rfl q_347 q_348 q_349 q_2 q_350 ⟨rfl, rfl⟩ yd_X5_heatAt ⟨Nat.le_of_ble_eq_true rfl, Nat.le_of_ble_eq_true rfl⟩ (Nat.le_of_ble_eq_true rfl) dX5_countMade_12 (fun j3 M1 H locs h hP hS => ?_)
        obtain ⟨hk4, h⟩ := h
        refine gX5_169 (pc := 15) C hK hP hk4 dX5_countMade_15 ?_
        refine lv_iadd (pc := 18) hx hb dX5_countMade_18 ?_
        refine lv_topi (fun v5 ev5 => ?_)
        replace h := h v5 ev5
        refine lv_istore_n (lv' := [(1, .int v5), (0, .ref (b + x0)), (2, .int x2)]) (pc := 19) hx hb dX5_countMade_19 rfl hl (by decide) rfl (fun ls hl => ?_)
        obtain ⟨v6, ev6⟩ : ∃ y : Int32, y = x2 + 1 := ⟨_, rfl⟩
        replace h := h v6 ev6
        refine lv_iinc (v := v6) (lv' := [(2, .int v6), (1, .int v5), (0, .ref (b + x0))]) (pc := 20) hx hb dX5_countMade_20 hl (k := 2) rfl (by rw [ev6]; rfl) (by decide) rfl (fun ls hl => ?_)
        refine lv_goto (tgt := 4) (pc := 23) hx hb dX5_countMade_23 (by decide) ?_
        exact ih _ _ _ _ _ _ _ h hP hS (lv_sub hl [2, 1, 0] rfl)
  unfold wp_X5_countMade at h
  refine lv_iconst (v := 0) (pc := 0) hx hb dX5_countMade_0 (by decide) ?_
  refine lv_istore_n (lv' := [(1, .int 0), (0, .ref (b + i))]) (pc := 1) hx hb dX5_countMade_1 rfl hl (by decide) rfl (fun ls hl => ?_)
  refine lv_iconst (v := 0) (pc := 2) hx hb dX5_countMade_2 (by decide) ?_
  refine lv_istore_n (lv' := [(2, .int 0), (1, .int 0), (0, .ref (b + i))]) (pc := 3) hx hb dX5_countMade_3 rfl hl (by decide) rfl (fun ls hl => ?_)
  obtain ⟨f, h⟩ := h
  exact L4 f _ _ _ _ _ _ _ h hP hS (lv_sub hl [2, 1, 0] rfl)
/-! ForgeHeats$Shop.countScrap ()I -/
def wpB_X5_countScrap_4 (n : Nat) (P : Int32 → Mem → Prop) (R_ : Mem → Nat → Int32 → Int32 → Prop) (M : Mem) (x0 : Nat) (x1 : Int32) (x2 : Int32) : Prop := ((4 ≤ x2 → P x1 M) ∧ (¬ 4 ≤ x2 → m_tp n x0 5 ∧ (wp_X5_heatAt n M x0 x2 (fun j3 M1 => m_tp n j3 2 ∧ (∀ v5 : Int32, v5 = (x1 + (M1.1 j3 4)) → (∀ v6 : Int32, v6 = x2 + 1 → (R_ M1 x0 v5 v6)))))))
def wpL_X5_countScrap_4 (n : Nat) (P : Int32 → Mem → Prop) : Nat → Mem → Nat → Int32 → Int32 → Prop
  | 0 => fun _ _ _ _ => False
  | f + 1 => fun M x0 x1 x2 => wpB_X5_countScrap_4 n P (wpL_X5_countScrap_4 n P f) M x0 x1 x2
def wp_X5_countScrap (n : Nat) (M : Mem) (i : Nat) (P : Int32 → Mem → Prop) : Prop := ∃ f : Nat, wpL_X5_countScrap_4 n P f M i 0 0
abbrev rm_X5_countScrap : Room := { frames := 1, cells := 0, slots := 0, locals := 22 }
set_option maxHeartbeats 4000000 in
set_option maxRecDepth 100000 in
theorem c_X5_countScrap {l : Launch} {D : va_G} {cA : Nat → ClassId} {b n : Nat} {M : Mem} {i : Nat} {P : Int32 → Mem → Prop} (h : wp_X5_countScrap n M i P) : m_C l D cA b n n M yX5_countScrap cX5_countScrap 3 (some .int) rm_X5_countScrap 0 0 [.ref (b + i)] (rI P) := by
  refine m_enter (by decide) (Nat.le_of_ble_eq_true rfl) (fun p e s m below meth c C hr hlk hnm hK hP hS ls hl => ?_)
  have hx := C.1
  have hb := C.2.1
  have hl : lv_has ls 3 [(0, .ref (b + i))] := hl
  have L4 : ∀ f : Nat, ∀ (M : Mem) (H : Heap) (locs : List Loc) (ls : Array Slot) (x0 : Nat) (x1 : Int32) (x2 : Int32), wpL_X5_countScrap_4 n P f M x0 x1 x2 → m_H D cA b n M H → va_S (m_A b) s.heap H locs → lv_has ls 3 [(0, .ref (b + x0)), (1, .int x1), (2, .int x2)] → W p l e rm_X5_countScrap s m ([.ref (b + i)] : List Value).toArray below meth c H locs 0 0 (MQ below (m_Q D cA b n (rI P)) ([.ref (b + i)] : List Value).toArray s 0 0 (m_A b)) (F0 m 4 ls []) := by
    clear h
    intro f
    induction f with
    | zero => intro M H locs ls x0 x1 x2 h; exact h.elim
    | succ f ih =>
      intro M H locs ls x0 x1 x2 h hP hS hl
      have h : wpB_X5_countScrap_4 n P (wpL_X5_countScrap_4 n P f) M x0 x1 x2 := h
      unfold wpB_X5_countScrap_4 at h
      refine lv_iload_n (pc := 4) hx hb dX5_countScrap_4 rfl (lv_at hl 2 rfl) ?_
      refine lv_iconst (v := 4) (pc := 5) hx hb dX5_countScrap_5 (by decide) ?_
      refine lv_icmp_ge (tgt := 26) (pc := 6) hx hb dX5_countScrap_6 (by decide) (fun c6 => ?_) (fun c6 => ?_)
      · replace h := h.1 c6
        refine lv_iload_n (pc := 26) hx hb dX5_countScrap_26 rfl (lv_at hl 1 rfl) ?_
        exact m_iret (v := x1) (pc := 27) C hr hlk hP hS dX5_countScrap_27 h
      · replace h := h.2 c6
        refine lv_iload_n (pc := 9) hx hb dX5_countScrap_9 rfl (lv_at hl 1 rfl) ?_
        refine lv_aload_n (pc := 10) hx hb dX5_countScrap_10 rfl (lv_at hl 0 rfl) ?_
        refine lv_iload_n (pc := 11) hx hb dX5_countScrap_11 rfl (lv_at hl 2 rfl) ?_
        obtain ⟨hk2, h⟩ := h
        refine m_callVR (pc := 12) (y := yX5_heatAt) (κ := 5) (As := [.int x2]) (rest := [.int x1]) C hK hP hS hl.1 ⟨Nat.zero_le _, Nat.zero_le _⟩ (c_X5_heatAt h) rfl rfl hk2 (by decide) rfl q_347 q_348 q_349 q_2 q_350 ⟨rfl, rfl⟩ yd_X5_heatAt ⟨Nat.le_of_ble_eq_true rfl, Nat.le_of_ble_eq_true rfl⟩ (Nat.le_of_ble_eq_true rfl) dX5_countScrap_12 (fun j3 M1 H locs h hP hS => ?_)
        obtain ⟨hk4, h⟩ := h
        refine gX5_162 (pc := 15) C hK hP hk4 dX5_countScrap_15 ?_
        refine lv_iadd (pc := 18) hx hb dX5_countScrap_18 ?_
        refine lv_topi (fun v5 ev5 => ?_)
        replace h := h v5 ev5
        refine lv_istore_n (lv' := [(1, .int v5), (0, .ref (b + x0)), (2, .int x2)]) (pc := 19) hx hb dX5_countScrap_19 rfl hl (by decide) rfl (fun ls hl => ?_)
        obtain ⟨v6, ev6⟩ : ∃ y : Int32, y = x2 + 1 := ⟨_, rfl⟩
        replace h := h v6 ev6
        refine lv_iinc (v := v6) (lv' := [(2, .int v6), (1, .int v5), (0, .ref (b + x0))]) (pc := 20) hx hb dX5_countScrap_20 hl (k := 2) rfl (by rw [ev6]; rfl) (by decide) rfl (fun ls hl => ?_)
        refine lv_goto (tgt := 4) (pc := 23) hx hb dX5_countScrap_23 (by decide) ?_
        exact ih _ _ _ _ _ _ _ h hP hS (lv_sub hl [2, 1, 0] rfl)
  unfold wp_X5_countScrap at h
  refine lv_iconst (v := 0) (pc := 0) hx hb dX5_countScrap_0 (by decide) ?_
  refine lv_istore_n (lv' := [(1, .int 0), (0, .ref (b + i))]) (pc := 1) hx hb dX5_countScrap_1 rfl hl (by decide) rfl (fun ls hl => ?_)
  refine lv_iconst (v := 0) (pc := 2) hx hb dX5_countScrap_2 (by decide) ?_
  refine lv_istore_n (lv' := [(2, .int 0), (1, .int 0), (0, .ref (b + i))]) (pc := 3) hx hb dX5_countScrap_3 rfl hl (by decide) rfl (fun ls hl => ?_)
  obtain ⟨f, h⟩ := h
  exact L4 f _ _ _ _ _ _ _ h hP hS (lv_sub hl [2, 1, 0] rfl)
/-! ForgeHeats$Shop.countRushJobs ()I -/
def wpB_X5_countRushJobs_4 (n : Nat) (P : Int32 → Mem → Prop) (R_ : Mem → Nat → Int32 → Int32 → Prop) (M : Mem) (x0 : Nat) (x1 : Int32) (x2 : Int32) : Prop := m_tp n x0 5 ∧ ((((M.1 x0 5) ≤ x2 → P x1 M) ∧ (¬ (M.1 x0 5) ≤ x2 → wp_X5_jobAt n M x0 x2 (fun j3 M2 => m_tp n j3 3 ∧ ((((M2.1 j3 6 != 0) = false → ∀ v5 : Int32, v5 = x2 + 1 → (R_ M2 x0 x1 v5)) ∧ ((M2.1 j3 6 != 0) = true → ∀ v6 : Int32, v6 = x1 + 1 → (∀ v7 : Int32, v7 = x2 + 1 → (R_ M2 x0 v6 v7)))))))))
def wpL_X5_countRushJobs_4 (n : Nat) (P : Int32 → Mem → Prop) : Nat → Mem → Nat → Int32 → Int32 → Prop
  | 0 => fun _ _ _ _ => False
  | f + 1 => fun M x0 x1 x2 => wpB_X5_countRushJobs_4 n P (wpL_X5_countRushJobs_4 n P f) M x0 x1 x2
def wp_X5_countRushJobs (n : Nat) (M : Mem) (i : Nat) (P : Int32 → Mem → Prop) : Prop := ∃ f : Nat, wpL_X5_countRushJobs_4 n P f M i 0 0
abbrev rm_X5_countRushJobs : Room := { frames := 1, cells := 0, slots := 0, locals := 22 }
set_option maxHeartbeats 4000000 in
set_option maxRecDepth 100000 in
theorem c_X5_countRushJobs {l : Launch} {D : va_G} {cA : Nat → ClassId} {b n : Nat} {M : Mem} {i : Nat} {P : Int32 → Mem → Prop} (h : wp_X5_countRushJobs n M i P) : m_C l D cA b n n M yX5_countRushJobs cX5_countRushJobs 3 (some .int) rm_X5_countRushJobs 0 0 [.ref (b + i)] (rI P) := by
  refine m_enter (by decide) (Nat.le_of_ble_eq_true rfl) (fun p e s m below meth c C hr hlk hnm hK hP hS ls hl => ?_)
  have hx := C.1
  have hb := C.2.1
  have hl : lv_has ls 3 [(0, .ref (b + i))] := hl
  have L4 : ∀ f : Nat, ∀ (M : Mem) (H : Heap) (locs : List Loc) (ls : Array Slot) (x0 : Nat) (x1 : Int32) (x2 : Int32), wpL_X5_countRushJobs_4 n P f M x0 x1 x2 → m_H D cA b n M H → va_S (m_A b) s.heap H locs → lv_has ls 3 [(0, .ref (b + x0)), (1, .int x1), (2, .int x2)] → W p l e rm_X5_countRushJobs s m ([.ref (b + i)] : List Value).toArray below meth c H locs 0 0 (MQ below (m_Q D cA b n (rI P)) ([.ref (b + i)] : List Value).toArray s 0 0 (m_A b)) (F0 m 4 ls []) := by
    clear h
    intro f
    induction f with
    | zero => intro M H locs ls x0 x1 x2 h; exact h.elim
    | succ f ih =>
      intro M H locs ls x0 x1 x2 h hP hS hl
      have h : wpB_X5_countRushJobs_4 n P (wpL_X5_countRushJobs_4 n P f) M x0 x1 x2 := h
      unfold wpB_X5_countRushJobs_4 at h
      refine lv_iload_n (pc := 4) hx hb dX5_countRushJobs_4 rfl (lv_at hl 2 rfl) ?_
      refine lv_aload_n (pc := 5) hx hb dX5_countRushJobs_5 rfl (lv_at hl 0 rfl) ?_
      obtain ⟨hk1, h⟩ := h
      refine gX5_83 (pc := 6) C hK hP hk1 dX5_countRushJobs_6 ?_
      refine lv_icmp_ge (tgt := 32) (pc := 9) hx hb dX5_countRushJobs_9 (by decide) (fun c9 => ?_) (fun c9 => ?_)
      · replace h := h.1 c9
        refine lv_iload_n (pc := 32) hx hb dX5_countRushJobs_32 rfl (lv_at hl 1 rfl) ?_
        exact m_iret (v := x1) (pc := 33) C hr hlk hP hS dX5_countRushJobs_33 h
      · replace h := h.2 c9
        refine lv_aload_n (pc := 12) hx hb dX5_countRushJobs_12 rfl (lv_at hl 0 rfl) ?_
        refine lv_iload_n (pc := 13) hx hb dX5_countRushJobs_13 rfl (lv_at hl 2 rfl) ?_
        refine m_callVR (pc := 14) (y := yX5_jobAt) (κ := 5) (As := [.int x2]) (rest := []) C hK hP hS hl.1 ⟨Nat.zero_le _, Nat.zero_le _⟩ (c_X5_jobAt h) rfl rfl hk1 (by decide) rfl q_363 q_364 q_365 q_2 q_366 ⟨rfl, rfl⟩ yd_X5_jobAt ⟨Nat.le_of_ble_eq_true rfl, Nat.le_of_ble_eq_true rfl⟩ (Nat.le_of_ble_eq_true rfl) dX5_countRushJobs_14 (fun j3 M2 H locs h hP hS => ?_)
        obtain ⟨hk4, h⟩ := h
        refine gX5_140 (pc := 17) C hK hP hk4 dX5_countRushJobs_17 ?_
        refine lv_if_eq (tgt := 26) (pc := 20) hx hb dX5_countRushJobs_20 (by decide) (fun c20 => ?_) (fun c20 => ?_)
        · replace h := h.1 (bZ0 c20)
          obtain ⟨v5, ev5⟩ : ∃ y : Int32, y = x2 + 1 := ⟨_, rfl⟩
          replace h := h v5 ev5
          refine lv_iinc (v := v5) (lv' := [(2, .int v5), (0, .ref (b + x0)), (1, .int x1)]) (pc := 26) hx hb dX5_countRushJobs_26 hl (k := 2) rfl (by rw [ev5]; rfl) (by decide) rfl (fun ls hl => ?_)
          refine lv_goto (tgt := 4) (pc := 29) hx hb dX5_countRushJobs_29 (by decide) ?_
          exact ih _ _ _ _ _ _ _ h hP hS (lv_sub hl [1, 2, 0] rfl)
        · replace h := h.2 (bZ1 c20)
          obtain ⟨v6, ev6⟩ : ∃ y : Int32, y = x1 + 1 := ⟨_, rfl⟩
          replace h := h v6 ev6
          refine lv_iinc (v := v6) (lv' := [(1, .int v6), (0, .ref (b + x0)), (2, .int x2)]) (pc := 23) hx hb dX5_countRushJobs_23 hl (k := 1) rfl (by rw [ev6]; rfl) (by decide) rfl (fun ls hl => ?_)
          obtain ⟨v7, ev7⟩ : ∃ y : Int32, y = x2 + 1 := ⟨_, rfl⟩
          replace h := h v7 ev7
          refine lv_iinc (v := v7) (lv' := [(2, .int v7), (1, .int v6), (0, .ref (b + x0))]) (pc := 26) hx hb dX5_countRushJobs_26 hl (k := 2) rfl (by rw [ev7]; rfl) (by decide) rfl (fun ls hl => ?_)
          refine lv_goto (tgt := 4) (pc := 29) hx hb dX5_countRushJobs_29 (by decide) ?_
          exact ih _ _ _ _ _ _ _ h hP hS (lv_sub hl [2, 1, 0] rfl)
  unfold wp_X5_countRushJobs at h
  refine lv_iconst (v := 0) (pc := 0) hx hb dX5_countRushJobs_0 (by decide) ?_
  refine lv_istore_n (lv' := [(1, .int 0), (0, .ref (b + i))]) (pc := 1) hx hb dX5_countRushJobs_1 rfl hl (by decide) rfl (fun ls hl => ?_)
  refine lv_iconst (v := 0) (pc := 2) hx hb dX5_countRushJobs_2 (by decide) ?_
  refine lv_istore_n (lv' := [(2, .int 0), (1, .int 0), (0, .ref (b + i))]) (pc := 3) hx hb dX5_countRushJobs_3 rfl hl (by decide) rfl (fun ls hl => ?_)
  obtain ⟨f, h⟩ := h
  exact L4 f _ _ _ _ _ _ _ h hP hS (lv_sub hl [2, 1, 0] rfl)
/-! ForgeHeats$Shop.countInFurnace ()I -/
def wpB_X5_countInFurnace_13 (n : Nat) (P : Int32 → Mem → Prop) (R_ : Mem → Int32 → Nat → Int32 → Int32 → Prop) (M : Mem) (x1 : Int32) (x2 : Nat) (x3 : Int32) (x4 : Int32) : Prop := ((x3 ≤ x4 → P x1 M) ∧ (¬ x3 ≤ x4 → m_tp n x2 11 ∧ (vp_in x4 (m_len x2) ∧ (∃ j7 : Nat, M.2.1 x2 x4.toNatClampNeg = some j7 ∧ (m_tp n j7 0 ∧ ((((M.1 j7 0) = (-1) → ∀ v9 : Int32, v9 = x4 + 1 → (R_ M x1 x2 x3 v9)) ∧ (¬ (M.1 j7 0) = (-1) → ∀ v10 : Int32, v10 = x1 + 1 → (∀ v11 : Int32, v11 = x4 + 1 → (R_ M v10 x2 x3 v11))))))))))
def wpL_X5_countInFurnace_13 (n : Nat) (P : Int32 → Mem → Prop) : Nat → Mem → Int32 → Nat → Int32 → Int32 → Prop
  | 0 => fun _ _ _ _ _ => False
  | f + 1 => fun M x1 x2 x3 x4 => wpB_X5_countInFurnace_13 n P (wpL_X5_countInFurnace_13 n P f) M x1 x2 x3 x4
def wp_X5_countInFurnace (n : Nat) (M : Mem) (i : Nat) (P : Int32 → Mem → Prop) : Prop := m_tp n i 5 ∧ (∃ j2 : Nat, M.2.1 i 3 = some j2 ∧ (m_tp n j2 11 ∧ (∀ v4 : Int32, v4 = (nI (m_len j2)) → (∃ f : Nat, wpL_X5_countInFurnace_13 n P f M 0 j2 v4 0))))
abbrev rm_X5_countInFurnace : Room := { frames := 0, cells := 0, slots := 0, locals := 0 }
set_option maxHeartbeats 4000000 in
set_option maxRecDepth 100000 in
theorem c_X5_countInFurnace {l : Launch} {D : va_G} {cA : Nat → ClassId} {b n : Nat} {M : Mem} {i : Nat} {P : Int32 → Mem → Prop} (h : wp_X5_countInFurnace n M i P) : m_C l D cA b n n M yX5_countInFurnace cX5_countInFurnace 6 (some .int) rm_X5_countInFurnace 0 0 [.ref (b + i)] (rI P) := by
  refine m_enter (by decide) (Nat.le_of_ble_eq_true rfl) (fun p e s m below meth c C hr hlk hnm hK hP hS ls hl => ?_)
  have hx := C.1
  have hb := C.2.1
  have hl : lv_has ls 6 [(0, .ref (b + i))] := hl
  have L13 : ∀ f : Nat, ∀ (M : Mem) (H : Heap) (locs : List Loc) (ls : Array Slot) (x1 : Int32) (x2 : Nat) (x3 : Int32) (x4 : Int32), wpL_X5_countInFurnace_13 n P f M x1 x2 x3 x4 → m_H D cA b n M H → va_S (m_A b) s.heap H locs → lv_has ls 6 [(1, .int x1), (2, .ref (b + x2)), (3, .int x3), (4, .int x4)] → W p l e rm_X5_countInFurnace s m ([.ref (b + i)] : List Value).toArray below meth c H locs 0 0 (MQ below (m_Q D cA b n (rI P)) ([.ref (b + i)] : List Value).toArray s 0 0 (m_A b)) (F0 m 13 ls []) := by
    clear h
    intro f
    induction f with
    | zero => intro M H locs ls x1 x2 x3 x4 h; exact h.elim
    | succ f ih =>
      intro M H locs ls x1 x2 x3 x4 h hP hS hl
      have h : wpB_X5_countInFurnace_13 n P (wpL_X5_countInFurnace_13 n P f) M x1 x2 x3 x4 := h
      unfold wpB_X5_countInFurnace_13 at h
      refine lv_iload (pc := 13) hx hb dX5_countInFurnace_13 (lv_at hl 3 rfl) ?_
      refine lv_iload_n (pc := 15) hx hb dX5_countInFurnace_15 rfl (lv_at hl 2 rfl) ?_
      refine lv_icmp_ge (tgt := 48) (pc := 16) hx hb dX5_countInFurnace_16 (by decide) (fun c16 => ?_) (fun c16 => ?_)
      · replace h := h.1 c16
        refine lv_iload_n (pc := 48) hx hb dX5_countInFurnace_48 rfl (lv_at hl 0 rfl) ?_
        exact m_iret (v := x1) (pc := 49) C hr hlk hP hS dX5_countInFurnace_49 h
      · replace h := h.2 c16
        refine lv_aload_n (pc := 19) hx hb dX5_countInFurnace_19 rfl (lv_at hl 1 rfl) ?_
        refine lv_iload (pc := 20) hx hb dX5_countInFurnace_20 (lv_at hl 3 rfl) ?_
        obtain ⟨hk5, h⟩ := h
        obtain ⟨hi6, h⟩ := h
        obtain ⟨j7, hj7, h⟩ := h
        refine m_aldq (pc := 22) (κ := 11) C hK hP hk5 (by decide) rfl hi6 hj7 dX5_countInFurnace_22 ?_
        refine lv_astore (lv' := [(5, .ref (b + j7)), (1, .int x1), (2, .ref (b + x2)), (3, .int x3), (4, .int x4)]) (pc := 23) hx hb dX5_countInFurnace_23 hl (by decide) rfl (fun ls hl => ?_)
        refine lv_aload (pc := 25) hx hb dX5_countInFurnace_25 (lv_at hl 0 rfl) ?_
        refine lv_ifnull (pc := 27) hx hb dX5_countInFurnace_27 ?_
        refine lv_aload (pc := 30) hx hb dX5_countInFurnace_30 (lv_at hl 0 rfl) ?_
        obtain ⟨hk8, h⟩ := h
        refine gX5_159 (pc := 32) C hK hP hk8 dX5_countInFurnace_32 ?_
        refine lv_iconst (v := -1) (pc := 35) hx hb dX5_countInFurnace_35 (by decide) ?_
        refine lv_icmp_eq (tgt := 42) (pc := 36) hx hb dX5_countInFurnace_36 (by decide) (fun c36 => ?_) (fun c36 => ?_)
        · replace h := h.1 c36
          obtain ⟨v9, ev9⟩ : ∃ y : Int32, y = x4 + 1 := ⟨_, rfl⟩
          replace h := h v9 ev9
          refine lv_iinc (v := v9) (lv' := [(4, .int v9), (5, .ref (b + j7)), (1, .int x1), (2, .ref (b + x2)), (3, .int x3)]) (pc := 42) hx hb dX5_countInFurnace_42 hl (k := 4) rfl (by rw [ev9]; rfl) (by decide) rfl (fun ls hl => ?_)
          refine lv_goto (tgt := 13) (pc := 45) hx hb dX5_countInFurnace_45 (by decide) ?_
          exact ih _ _ _ _ _ _ _ _ h hP hS (lv_sub hl [2, 3, 4, 0] rfl)
        · replace h := h.2 c36
          obtain ⟨v10, ev10⟩ : ∃ y : Int32, y = x1 + 1 := ⟨_, rfl⟩
          replace h := h v10 ev10
          refine lv_iinc (v := v10) (lv' := [(1, .int v10), (5, .ref (b + j7)), (2, .ref (b + x2)), (3, .int x3), (4, .int x4)]) (pc := 39) hx hb dX5_countInFurnace_39 hl (k := 1) rfl (by rw [ev10]; rfl) (by decide) rfl (fun ls hl => ?_)
          obtain ⟨v11, ev11⟩ : ∃ y : Int32, y = x4 + 1 := ⟨_, rfl⟩
          replace h := h v11 ev11
          refine lv_iinc (v := v11) (lv' := [(4, .int v11), (1, .int v10), (5, .ref (b + j7)), (2, .ref (b + x2)), (3, .int x3)]) (pc := 42) hx hb dX5_countInFurnace_42 hl (k := 4) rfl (by rw [ev11]; rfl) (by decide) rfl (fun ls hl => ?_)
          refine lv_goto (tgt := 13) (pc := 45) hx hb dX5_countInFurnace_45 (by decide) ?_
          exact ih _ _ _ _ _ _ _ _ h hP hS (lv_sub hl [1, 3, 4, 0] rfl)
  unfold wp_X5_countInFurnace at h
  refine lv_iconst (v := 0) (pc := 0) hx hb dX5_countInFurnace_0 (by decide) ?_
  refine lv_istore_n (lv' := [(1, .int 0), (0, .ref (b + i))]) (pc := 1) hx hb dX5_countInFurnace_1 rfl hl (by decide) rfl (fun ls hl => ?_)
  refine lv_aload_n (pc := 2) hx hb dX5_countInFurnace_2 rfl (lv_at hl 1 rfl) ?_
  obtain ⟨hk1, h⟩ := h
  obtain ⟨j2, hj2, h⟩ := h
  refine gX5_47 (pc := 3) C hK hP hk1 hj2 dX5_countInFurnace_3 ?_
  refine lv_astore_n (lv' := [(2, .ref (b + j2)), (1, .int 0), (0, .ref (b + i))]) (pc := 6) hx hb dX5_countInFurnace_6 rfl hl (by decide) rfl (fun ls hl => ?_)
  refine lv_aload_n (pc := 7) hx hb dX5_countInFurnace_7 rfl (lv_at hl 0 rfl) ?_
  obtain ⟨hk3, h⟩ := h
  refine m_alen (pc := 8) (κ := 11) C hK hP hk3 (by decide) rfl dX5_countInFurnace_8 ?_
  refine lv_topi (fun v4 ev4 => ?_)
  replace h := h v4 ev4
  refine lv_istore_n (lv' := [(3, .int v4), (2, .ref (b + j2)), (1, .int 0), (0, .ref (b + i))]) (pc := 9) hx hb dX5_countInFurnace_9 rfl hl (by decide) rfl (fun ls hl => ?_)
  refine lv_iconst (v := 0) (pc := 10) hx hb dX5_countInFurnace_10 (by decide) ?_
  refine lv_istore (lv' := [(4, .int 0), (3, .int v4), (2, .ref (b + j2)), (1, .int 0), (0, .ref (b + i))]) (pc := 11) hx hb dX5_countInFurnace_11 hl (by decide) rfl (fun ls hl => ?_)
  obtain ⟨f, h⟩ := h
  exact L13 f _ _ _ _ _ _ _ _ h hP hS (lv_sub hl [3, 2, 1, 0] rfl)
/-! ForgeHeats$Shop.countBilletsOf (I)I -/
def wpB_X5_countBilletsOf_4 (n : Nat) (P : Int32 → Mem → Prop) (R_ : Mem → Nat → Int32 → Int32 → Int32 → Prop) (M : Mem) (x0 : Nat) (x1 : Int32) (x2 : Int32) (x3 : Int32) : Prop := m_tp n x0 5 ∧ ((((M.1 x0 5) ≤ x3 → P x2 M) ∧ (¬ (M.1 x0 5) ≤ x3 → wp_X5_jobAt n M x0 x3 (fun j3 M2 => m_tp n j3 3 ∧ (((¬ (M2.1 j3 2) = x1 → ∀ v5 : Int32, v5 = x3 + 1 → (R_ M2 x0 x1 x2 v5)) ∧ ((M2.1 j3 2) = x1 → ∀ v6 : Int32, v6 = (x2 + (M2.1 j3 7)) → (∀ v7 : Int32, v7 = x3 + 1 → (R_ M2 x0 x1 v6 v7)))))))))
def wpL_X5_countBilletsOf_4 (n : Nat) (P : Int32 → Mem → Prop) : Nat → Mem → Nat → Int32 → Int32 → Int32 → Prop
  | 0 => fun _ _ _ _ _ => False
  | f + 1 => fun M x0 x1 x2 x3 => wpB_X5_countBilletsOf_4 n P (wpL_X5_countBilletsOf_4 n P f) M x0 x1 x2 x3
def wp_X5_countBilletsOf (n : Nat) (M : Mem) (i : Nat) (p1 : Int32) (P : Int32 → Mem → Prop) : Prop := ∃ f : Nat, wpL_X5_countBilletsOf_4 n P f M i p1 0 0
abbrev rm_X5_countBilletsOf : Room := { frames := 1, cells := 0, slots := 0, locals := 22 }
set_option maxHeartbeats 4000000 in
set_option maxRecDepth 100000 in
theorem c_X5_countBilletsOf {l : Launch} {D : va_G} {cA : Nat → ClassId} {b n : Nat} {M : Mem} {i : Nat} {p1 : Int32} {P : Int32 → Mem → Prop} (h : wp_X5_countBilletsOf n M i p1 P) : m_C l D cA b n n M yX5_countBilletsOf cX5_countBilletsOf 5 (some .int) rm_X5_countBilletsOf 0 0 [.ref (b + i), .int p1] (rI P) := by
  refine m_enter (by decide) (Nat.le_of_ble_eq_true rfl) (fun p e s m below meth c C hr hlk hnm hK hP hS ls hl => ?_)
  have hx := C.1
  have hb := C.2.1
  have hl : lv_has ls 5 [(0, .ref (b + i)), (1, .int p1)] := hl
  have L4 : ∀ f : Nat, ∀ (M : Mem) (H : Heap) (locs : List Loc) (ls : Array Slot) (x0 : Nat) (x1 : Int32) (x2 : Int32) (x3 : Int32), wpL_X5_countBilletsOf_4 n P f M x0 x1 x2 x3 → m_H D cA b n M H → va_S (m_A b) s.heap H locs → lv_has ls 5 [(0, .ref (b + x0)), (1, .int x1), (2, .int x2), (3, .int x3)] → W p l e rm_X5_countBilletsOf s m ([.ref (b + i), .int p1] : List Value).toArray below meth c H locs 0 0 (MQ below (m_Q D cA b n (rI P)) ([.ref (b + i), .int p1] : List Value).toArray s 0 0 (m_A b)) (F0 m 4 ls []) := by
    clear h
    intro f
    induction f with
    | zero => intro M H locs ls x0 x1 x2 x3 h; exact h.elim
    | succ f ih =>
      intro M H locs ls x0 x1 x2 x3 h hP hS hl
      have h : wpB_X5_countBilletsOf_4 n P (wpL_X5_countBilletsOf_4 n P f) M x0 x1 x2 x3 := h
      unfold wpB_X5_countBilletsOf_4 at h
      refine lv_iload_n (pc := 4) hx hb dX5_countBilletsOf_4 rfl (lv_at hl 3 rfl) ?_
      refine lv_aload_n (pc := 5) hx hb dX5_countBilletsOf_5 rfl (lv_at hl 0 rfl) ?_
      obtain ⟨hk1, h⟩ := h
      refine gX5_83 (pc := 6) C hK hP hk1 dX5_countBilletsOf_6 ?_
      refine lv_icmp_ge (tgt := 42) (pc := 9) hx hb dX5_countBilletsOf_9 (by decide) (fun c9 => ?_) (fun c9 => ?_)
      · replace h := h.1 c9
        refine lv_iload_n (pc := 42) hx hb dX5_countBilletsOf_42 rfl (lv_at hl 2 rfl) ?_
        exact m_iret (v := x2) (pc := 43) C hr hlk hP hS dX5_countBilletsOf_43 h
      · replace h := h.2 c9
        refine lv_aload_n (pc := 12) hx hb dX5_countBilletsOf_12 rfl (lv_at hl 0 rfl) ?_
        refine lv_iload_n (pc := 13) hx hb dX5_countBilletsOf_13 rfl (lv_at hl 3 rfl) ?_
        refine m_callVR (pc := 14) (y := yX5_jobAt) (κ := 5) (As := [.int x3]) (rest := []) C hK hP hS hl.1 ⟨Nat.zero_le _, Nat.zero_le _⟩ (c_X5_jobAt h) rfl rfl hk1 (by decide) rfl q_363 q_364 q_365 q_2 q_366 ⟨rfl, rfl⟩ yd_X5_jobAt ⟨Nat.le_of_ble_eq_true rfl, Nat.le_of_ble_eq_true rfl⟩ (Nat.le_of_ble_eq_true rfl) dX5_countBilletsOf_14 (fun j3 M2 H locs h hP hS => ?_)
        refine lv_astore (lv' := [(4, .ref (b + j3)), (0, .ref (b + x0)), (1, .int x1), (2, .int x2), (3, .int x3)]) (pc := 17) hx hb dX5_countBilletsOf_17 hl (by decide) rfl (fun ls hl => ?_)
        refine lv_aload (pc := 19) hx hb dX5_countBilletsOf_19 (lv_at hl 0 rfl) ?_
        obtain ⟨hk4, h⟩ := h
        refine gX5_128 (pc := 21) C hK hP hk4 dX5_countBilletsOf_21 ?_
        refine lv_iload_n (pc := 24) hx hb dX5_countBilletsOf_24 rfl (lv_at hl 2 rfl) ?_
        refine lv_icmp_ne (tgt := 36) (pc := 25) hx hb dX5_countBilletsOf_25 (by decide) (fun c25 => ?_) (fun c25 => ?_)
        · replace h := h.1 c25
          obtain ⟨v5, ev5⟩ : ∃ y : Int32, y = x3 + 1 := ⟨_, rfl⟩
          replace h := h v5 ev5
          refine lv_iinc (v := v5) (lv' := [(3, .int v5), (4, .ref (b + j3)), (0, .ref (b + x0)), (1, .int x1), (2, .int x2)]) (pc := 36) hx hb dX5_countBilletsOf_36 hl (k := 4) rfl (by rw [ev5]; rfl) (by decide) rfl (fun ls hl => ?_)
          refine lv_goto (tgt := 4) (pc := 39) hx hb dX5_countBilletsOf_39 (by decide) ?_
          exact ih _ _ _ _ _ _ _ _ h hP hS (lv_sub hl [2, 3, 4, 0] rfl)
        · replace h := h.2 c25
          refine lv_iload_n (pc := 28) hx hb dX5_countBilletsOf_28 rfl (lv_at hl 3 rfl) ?_
          refine lv_aload (pc := 29) hx hb dX5_countBilletsOf_29 (lv_at hl 0 rfl) ?_
          refine gX5_144 (pc := 31) C hK hP hk4 dX5_countBilletsOf_31 ?_
          refine lv_iadd (pc := 34) hx hb dX5_countBilletsOf_34 ?_
          refine lv_topi (fun v6 ev6 => ?_)
          replace h := h v6 ev6
          refine lv_istore_n (lv' := [(2, .int v6), (4, .ref (b + j3)), (0, .ref (b + x0)), (1, .int x1), (3, .int x3)]) (pc := 35) hx hb dX5_countBilletsOf_35 rfl hl (by decide) rfl (fun ls hl => ?_)
          obtain ⟨v7, ev7⟩ : ∃ y : Int32, y = x3 + 1 := ⟨_, rfl⟩
          replace h := h v7 ev7
          refine lv_iinc (v := v7) (lv' := [(3, .int v7), (2, .int v6), (4, .ref (b + j3)), (0, .ref (b + x0)), (1, .int x1)]) (pc := 36) hx hb dX5_countBilletsOf_36 hl (k := 4) rfl (by rw [ev7]; rfl) (by decide) rfl (fun ls hl => ?_)
          refine lv_goto (tgt := 4) (pc := 39) hx hb dX5_countBilletsOf_39 (by decide) ?_
          exact ih _ _ _ _ _ _ _ _ h hP hS (lv_sub hl [3, 4, 1, 0] rfl)
  unfold wp_X5_countBilletsOf at h
  refine lv_iconst (v := 0) (pc := 0) hx hb dX5_countBilletsOf_0 (by decide) ?_
  refine lv_istore_n (lv' := [(2, .int 0), (0, .ref (b + i)), (1, .int p1)]) (pc := 1) hx hb dX5_countBilletsOf_1 rfl hl (by decide) rfl (fun ls hl => ?_)
  refine lv_iconst (v := 0) (pc := 2) hx hb dX5_countBilletsOf_2 (by decide) ?_
  refine lv_istore_n (lv' := [(3, .int 0), (2, .int 0), (0, .ref (b + i)), (1, .int p1)]) (pc := 3) hx hb dX5_countBilletsOf_3 rfl hl (by decide) rfl (fun ls hl => ?_)
  obtain ⟨f, h⟩ := h
  exact L4 f _ _ _ _ _ _ _ _ h hP hS (lv_sub hl [2, 3, 1, 0] rfl)
/-! ForgeHeats$Shop.countLackOf (I)I -/
def wpB_X5_countLackOf_4 (n : Nat) (P : Int32 → Mem → Prop) (R_ : Mem → Nat → Int32 → Int32 → Int32 → Prop) (M : Mem) (x0 : Nat) (x1 : Int32) (x2 : Int32) (x3 : Int32) : Prop := m_tp n x0 5 ∧ ((((M.1 x0 5) ≤ x3 → P x2 M) ∧ (¬ (M.1 x0 5) ≤ x3 → wp_X5_jobAt n M x0 x3 (fun j3 M2 => m_tp n j3 3 ∧ (((¬ (M2.1 j3 2) = x1 → ∀ v5 : Int32, v5 = x3 + 1 → (R_ M2 x0 x1 x2 v5)) ∧ ((M2.1 j3 2) = x1 → wp_X3_lack n M2 j3 (fun r7 M6 => ∀ v8 : Int32, v8 = (x2 + r7) → (∀ v9 : Int32, v9 = x3 + 1 → (R_ M6 x0 x1 v8 v9))))))))))
def wpL_X5_countLackOf_4 (n : Nat) (P : Int32 → Mem → Prop) : Nat → Mem → Nat → Int32 → Int32 → Int32 → Prop
  | 0 => fun _ _ _ _ _ => False
  | f + 1 => fun M x0 x1 x2 x3 => wpB_X5_countLackOf_4 n P (wpL_X5_countLackOf_4 n P f) M x0 x1 x2 x3
def wp_X5_countLackOf (n : Nat) (M : Mem) (i : Nat) (p1 : Int32) (P : Int32 → Mem → Prop) : Prop := ∃ f : Nat, wpL_X5_countLackOf_4 n P f M i p1 0 0
abbrev rm_X5_countLackOf : Room := { frames := 1, cells := 0, slots := 0, locals := 22 }
set_option maxHeartbeats 4000000 in
set_option maxRecDepth 100000 in
theorem c_X5_countLackOf {l : Launch} {D : va_G} {cA : Nat → ClassId} {b n : Nat} {M : Mem} {i : Nat} {p1 : Int32} {P : Int32 → Mem → Prop} (h : wp_X5_countLackOf n M i p1 P) : m_C l D cA b n n M yX5_countLackOf cX5_countLackOf 5 (some .int) rm_X5_countLackOf 0 0 [.ref (b + i), .int p1] (rI P) := by
  refine m_enter (by decide) (Nat.le_of_ble_eq_true rfl) (fun p e s m below meth c C hr hlk hnm hK hP hS ls hl => ?_)
  have hx := C.1
  have hb := C.2.1
  have hl : lv_has ls 5 [(0, .ref (b + i)), (1, .int p1)] := hl
  have L4 : ∀ f : Nat, ∀ (M : Mem) (H : Heap) (locs : List Loc) (ls : Array Slot) (x0 : Nat) (x1 : Int32) (x2 : Int32) (x3 : Int32), wpL_X5_countLackOf_4 n P f M x0 x1 x2 x3 → m_H D cA b n M H → va_S (m_A b) s.heap H locs → lv_has ls 5 [(0, .ref (b + x0)), (1, .int x1), (2, .int x2), (3, .int x3)] → W p l e rm_X5_countLackOf s m ([.ref (b + i), .int p1] : List Value).toArray below meth c H locs 0 0 (MQ below (m_Q D cA b n (rI P)) ([.ref (b + i), .int p1] : List Value).toArray s 0 0 (m_A b)) (F0 m 4 ls []) := by
    clear h
    intro f
    induction f with
    | zero => intro M H locs ls x0 x1 x2 x3 h; exact h.elim
    | succ f ih =>
      intro M H locs ls x0 x1 x2 x3 h hP hS hl
      have h : wpB_X5_countLackOf_4 n P (wpL_X5_countLackOf_4 n P f) M x0 x1 x2 x3 := h
      unfold wpB_X5_countLackOf_4 at h
      refine lv_iload_n (pc := 4) hx hb dX5_countLackOf_4 rfl (lv_at hl 3 rfl) ?_
      refine lv_aload_n (pc := 5) hx hb dX5_countLackOf_5 rfl (lv_at hl 0 rfl) ?_
      obtain ⟨hk1, h⟩ := h
      refine gX5_83 (pc := 6) C hK hP hk1 dX5_countLackOf_6 ?_
      refine lv_icmp_ge (tgt := 42) (pc := 9) hx hb dX5_countLackOf_9 (by decide) (fun c9 => ?_) (fun c9 => ?_)
      · replace h := h.1 c9
        refine lv_iload_n (pc := 42) hx hb dX5_countLackOf_42 rfl (lv_at hl 2 rfl) ?_
        exact m_iret (v := x2) (pc := 43) C hr hlk hP hS dX5_countLackOf_43 h
      · replace h := h.2 c9
        refine lv_aload_n (pc := 12) hx hb dX5_countLackOf_12 rfl (lv_at hl 0 rfl) ?_
        refine lv_iload_n (pc := 13) hx hb dX5_countLackOf_13 rfl (lv_at hl 3 rfl) ?_
        refine m_callVR (pc := 14) (y := yX5_jobAt) (κ := 5) (As := [.int x3]) (rest := []) C hK hP hS hl.1 ⟨Nat.zero_le _, Nat.zero_le _⟩ (c_X5_jobAt h) rfl rfl hk1 (by decide) rfl q_363 q_364 q_365 q_2 q_366 ⟨rfl, rfl⟩ yd_X5_jobAt ⟨Nat.le_of_ble_eq_true rfl, Nat.le_of_ble_eq_true rfl⟩ (Nat.le_of_ble_eq_true rfl) dX5_countLackOf_14 (fun j3 M2 H locs h hP hS => ?_)
        refine lv_astore (lv' := [(4, .ref (b + j3)), (0, .ref (b + x0)), (1, .int x1), (2, .int x2), (3, .int x3)]) (pc := 17) hx hb dX5_countLackOf_17 hl (by decide) rfl (fun ls hl => ?_)
        refine lv_aload (pc := 19) hx hb dX5_countLackOf_19 (lv_at hl 0 rfl) ?_
        obtain ⟨hk4, h⟩ := h
        refine gX5_128 (pc := 21) C hK hP hk4 dX5_countLackOf_21 ?_
        refine lv_iload_n (pc := 24) hx hb dX5_countLackOf_24 rfl (lv_at hl 2 rfl) ?_
        refine lv_icmp_ne (tgt := 36) (pc := 25) hx hb dX5_countLackOf_25 (by decide) (fun c25 => ?_) (fun c25 => ?_)
        · replace h := h.1 c25
          obtain ⟨v5, ev5⟩ : ∃ y : Int32, y = x3 + 1 := ⟨_, rfl⟩
          replace h := h v5 ev5
          refine lv_iinc (v := v5) (lv' := [(3, .int v5), (4, .ref (b + j3)), (0, .ref (b + x0)), (1, .int x1), (2, .int x2)]) (pc := 36) hx hb dX5_countLackOf_36 hl (k := 4) rfl (by rw [ev5]; rfl) (by decide) rfl (fun ls hl => ?_)
          refine lv_goto (tgt := 4) (pc := 39) hx hb dX5_countLackOf_39 (by decide) ?_
          exact ih _ _ _ _ _ _ _ _ h hP hS (lv_sub hl [2, 3, 4, 0] rfl)
        · replace h := h.2 c25
          refine lv_iload_n (pc := 28) hx hb dX5_countLackOf_28 rfl (lv_at hl 3 rfl) ?_
          refine lv_aload (pc := 29) hx hb dX5_countLackOf_29 (lv_at hl 0 rfl) ?_
          refine m_callVI (pc := 31) (y := yX3_lack) (κ := 3) (As := []) (rest := [.int x2]) C hK hP hS hl.1 ⟨Nat.zero_le _, Nat.zero_le _⟩ (c_X3_lack h) rfl rfl hk4 (by decide) rfl q_484 q_485 q_486 q_5 q_487 ⟨rfl, rfl⟩ yd_X3_lack ⟨Nat.le_of_ble_eq_true rfl, Nat.le_of_ble_eq_true rfl⟩ (Nat.le_of_ble_eq_true rfl) dX5_countLackOf_31 (fun r7 M6 H locs h hP hS => ?_)
          refine lv_iadd (pc := 34) hx hb dX5_countLackOf_34 ?_
          refine lv_topi (fun v8 ev8 => ?_)
          replace h := h v8 ev8
          refine lv_istore_n (lv' := [(2, .int v8), (4, .ref (b + j3)), (0, .ref (b + x0)), (1, .int x1), (3, .int x3)]) (pc := 35) hx hb dX5_countLackOf_35 rfl hl (by decide) rfl (fun ls hl => ?_)
          obtain ⟨v9, ev9⟩ : ∃ y : Int32, y = x3 + 1 := ⟨_, rfl⟩
          replace h := h v9 ev9
          refine lv_iinc (v := v9) (lv' := [(3, .int v9), (2, .int v8), (4, .ref (b + j3)), (0, .ref (b + x0)), (1, .int x1)]) (pc := 36) hx hb dX5_countLackOf_36 hl (k := 4) rfl (by rw [ev9]; rfl) (by decide) rfl (fun ls hl => ?_)
          refine lv_goto (tgt := 4) (pc := 39) hx hb dX5_countLackOf_39 (by decide) ?_
          exact ih _ _ _ _ _ _ _ _ h hP hS (lv_sub hl [3, 4, 1, 0] rfl)
  unfold wp_X5_countLackOf at h
  refine lv_iconst (v := 0) (pc := 0) hx hb dX5_countLackOf_0 (by decide) ?_
  refine lv_istore_n (lv' := [(2, .int 0), (0, .ref (b + i)), (1, .int p1)]) (pc := 1) hx hb dX5_countLackOf_1 rfl hl (by decide) rfl (fun ls hl => ?_)
  refine lv_iconst (v := 0) (pc := 2) hx hb dX5_countLackOf_2 (by decide) ?_
  refine lv_istore_n (lv' := [(3, .int 0), (2, .int 0), (0, .ref (b + i)), (1, .int p1)]) (pc := 3) hx hb dX5_countLackOf_3 rfl hl (by decide) rfl (fun ls hl => ?_)
  obtain ⟨f, h⟩ := h
  exact L4 f _ _ _ _ _ _ _ _ h hP hS (lv_sub hl [2, 3, 1, 0] rfl)
/-! ForgeHeats$Shop.dieBeingGround ()I -/
def wpB_X5_dieBeingGround_2 (n : Nat) (P : Int32 → Mem → Prop) (R_ : Mem → Nat → Int32 → Prop) (M : Mem) (x0 : Nat) (x1 : Int32) : Prop := ((5 ≤ x1 → P (-1) M) ∧ (¬ 5 ≤ x1 → m_tp n x0 5 ∧ (wp_X5_dieAt n M x0 x1 (fun j3 M1 => m_tp n j3 1 ∧ (wp_X1_isBeingGround n M1 j3 (fun z6 M4 => ((z6 = false → ∀ v7 : Int32, v7 = x1 + 1 → (R_ M4 x0 v7)) ∧ (z6 = true → P x1 M4))))))))
def wpL_X5_dieBeingGround_2 (n : Nat) (P : Int32 → Mem → Prop) : Nat → Mem → Nat → Int32 → Prop
  | 0 => fun _ _ _ => False
  | f + 1 => fun M x0 x1 => wpB_X5_dieBeingGround_2 n P (wpL_X5_dieBeingGround_2 n P f) M x0 x1
def wp_X5_dieBeingGround (n : Nat) (M : Mem) (i : Nat) (P : Int32 → Mem → Prop) : Prop := ∃ f : Nat, wpL_X5_dieBeingGround_2 n P f M i 0
abbrev rm_X5_dieBeingGround : Room := { frames := 1, cells := 0, slots := 0, locals := 22 }
set_option maxHeartbeats 4000000 in
set_option maxRecDepth 100000 in
theorem c_X5_dieBeingGround {l : Launch} {D : va_G} {cA : Nat → ClassId} {b n : Nat} {M : Mem} {i : Nat} {P : Int32 → Mem → Prop} (h : wp_X5_dieBeingGround n M i P) : m_C l D cA b n n M yX5_dieBeingGround cX5_dieBeingGround 2 (some .int) rm_X5_dieBeingGround 0 0 [.ref (b + i)] (rI P) := by
  refine m_enter (by decide) (Nat.le_of_ble_eq_true rfl) (fun p e s m below meth c C hr hlk hnm hK hP hS ls hl => ?_)
  have hx := C.1
  have hb := C.2.1
  have hl : lv_has ls 2 [(0, .ref (b + i))] := hl
  have L2 : ∀ f : Nat, ∀ (M : Mem) (H : Heap) (locs : List Loc) (ls : Array Slot) (x0 : Nat) (x1 : Int32), wpL_X5_dieBeingGround_2 n P f M x0 x1 → m_H D cA b n M H → va_S (m_A b) s.heap H locs → lv_has ls 2 [(0, .ref (b + x0)), (1, .int x1)] → W p l e rm_X5_dieBeingGround s m ([.ref (b + i)] : List Value).toArray below meth c H locs 0 0 (MQ below (m_Q D cA b n (rI P)) ([.ref (b + i)] : List Value).toArray s 0 0 (m_A b)) (F0 m 2 ls []) := by
    clear h
    intro f
    induction f with
    | zero => intro M H locs ls x0 x1 h; exact h.elim
    | succ f ih =>
      intro M H locs ls x0 x1 h hP hS hl
      have h : wpB_X5_dieBeingGround_2 n P (wpL_X5_dieBeingGround_2 n P f) M x0 x1 := h
      unfold wpB_X5_dieBeingGround_2 at h
      refine lv_iload_n (pc := 2) hx hb dX5_dieBeingGround_2 rfl (lv_at hl 1 rfl) ?_
      refine lv_iconst (v := 5) (pc := 3) hx hb dX5_dieBeingGround_3 (by decide) ?_
      refine lv_icmp_ge (tgt := 26) (pc := 4) hx hb dX5_dieBeingGround_4 (by decide) (fun c4 => ?_) (fun c4 => ?_)
      · replace h := h.1 c4
        refine lv_iconst (v := -1) (pc := 26) hx hb dX5_dieBeingGround_26 (by decide) ?_
        exact m_iret (v := (-1)) (pc := 27) C hr hlk hP hS dX5_dieBeingGround_27 h
      · replace h := h.2 c4
        refine lv_aload_n (pc := 7) hx hb dX5_dieBeingGround_7 rfl (lv_at hl 0 rfl) ?_
        refine lv_iload_n (pc := 8) hx hb dX5_dieBeingGround_8 rfl (lv_at hl 1 rfl) ?_
        obtain ⟨hk2, h⟩ := h
        refine m_callVR (pc := 9) (y := yX5_dieAt) (κ := 5) (As := [.int x1]) (rest := []) C hK hP hS hl.1 ⟨Nat.zero_le _, Nat.zero_le _⟩ (c_X5_dieAt h) rfl rfl hk2 (by decide) rfl q_355 q_356 q_357 q_2 q_358 ⟨rfl, rfl⟩ yd_X5_dieAt ⟨Nat.le_of_ble_eq_true rfl, Nat.le_of_ble_eq_true rfl⟩ (Nat.le_of_ble_eq_true rfl) dX5_dieBeingGround_9 (fun j3 M1 H locs h hP hS => ?_)
        obtain ⟨hk5, h⟩ := h
        refine m_callVZ (pc := 12) (y := yX1_isBeingGround) (κ := 1) (As := []) (rest := []) C hK hP hS hl.1 ⟨Nat.zero_le _, Nat.zero_le _⟩ (c_X1_isBeingGround h) rfl rfl hk5 (by decide) rfl q_430 q_431 q_432 q_4 q_433 ⟨rfl, rfl⟩ yd_X1_isBeingGround ⟨Nat.le_of_ble_eq_true rfl, Nat.le_of_ble_eq_true rfl⟩ (Nat.le_of_ble_eq_true rfl) dX5_dieBeingGround_12 (fun z6 M4 H locs h hP hS => ?_)
        refine lv_if_eq (tgt := 20) (pc := 15) hx hb dX5_dieBeingGround_15 (by decide) (fun c15 => ?_) (fun c15 => ?_)
        · replace h := h.1 (bZ0 c15)
          obtain ⟨v7, ev7⟩ : ∃ y : Int32, y = x1 + 1 := ⟨_, rfl⟩
          replace h := h v7 ev7
          refine lv_iinc (v := v7) (lv' := [(1, .int v7), (0, .ref (b + x0))]) (pc := 20) hx hb dX5_dieBeingGround_20 hl (k := 1) rfl (by rw [ev7]; rfl) (by decide) rfl (fun ls hl => ?_)
          refine lv_goto (tgt := 2) (pc := 23) hx hb dX5_dieBeingGround_23 (by decide) ?_
          exact ih _ _ _ _ _ _ h hP hS (lv_sub hl [1, 0] rfl)
        · replace h := h.2 (bZ1 c15)
          refine lv_iload_n (pc := 18) hx hb dX5_dieBeingGround_18 rfl (lv_at hl 1 rfl) ?_
          exact m_iret (v := x1) (pc := 19) C hr hlk hP hS dX5_dieBeingGround_19 h
  unfold wp_X5_dieBeingGround at h
  refine lv_iconst (v := 0) (pc := 0) hx hb dX5_dieBeingGround_0 (by decide) ?_
  refine lv_istore_n (lv' := [(1, .int 0), (0, .ref (b + i))]) (pc := 1) hx hb dX5_dieBeingGround_1 rfl hl (by decide) rfl (fun ls hl => ?_)
  obtain ⟨f, h⟩ := h
  exact L2 f _ _ _ _ _ _ h hP hS (lv_sub hl [1, 0] rfl)
/-! ForgeHeats$Shop.freePlace ()LForgeHeats$Billet; -/
def wpB_X5_freePlace_10 (n : Nat) (P : Option Nat → Mem → Prop) (R_ : Mem → Nat → Int32 → Int32 → Prop) (M : Mem) (x1 : Nat) (x2 : Int32) (x3 : Int32) : Prop := ((x2 ≤ x3 → P none M) ∧ (¬ x2 ≤ x3 → m_tp n x1 11 ∧ (vp_in x3 (m_len x1) ∧ (∃ j7 : Nat, M.2.1 x1 x3.toNatClampNeg = some j7 ∧ (m_tp n j7 0 ∧ (((¬ (M.1 j7 0) = (-1) → ∀ v9 : Int32, v9 = x3 + 1 → (R_ M x1 x2 v9)) ∧ ((M.1 j7 0) = (-1) → P (some j7) M))))))))
def wpL_X5_freePlace_10 (n : Nat) (P : Option Nat → Mem → Prop) : Nat → Mem → Nat → Int32 → Int32 → Prop
  | 0 => fun _ _ _ _ => False
  | f + 1 => fun M x1 x2 x3 => wpB_X5_freePlace_10 n P (wpL_X5_freePlace_10 n P f) M x1 x2 x3
def wp_X5_freePlace (n : Nat) (M : Mem) (i : Nat) (P : Option Nat → Mem → Prop) : Prop := m_tp n i 5 ∧ (∃ j2 : Nat, M.2.1 i 3 = some j2 ∧ (m_tp n j2 11 ∧ (∀ v4 : Int32, v4 = (nI (m_len j2)) → (∃ f : Nat, wpL_X5_freePlace_10 n P f M j2 v4 0))))
abbrev rm_X5_freePlace : Room := { frames := 0, cells := 0, slots := 0, locals := 0 }
set_option maxHeartbeats 4000000 in
set_option maxRecDepth 100000 in
theorem c_X5_freePlace {l : Launch} {D : va_G} {cA : Nat → ClassId} {b n : Nat} {M : Mem} {i : Nat} {P : Option Nat → Mem → Prop} (h : wp_X5_freePlace n M i P) : m_C l D cA b n n M yX5_freePlace cX5_freePlace 5 (some (.object "ForgeHeats$Billet")) rm_X5_freePlace 0 0 [.ref (b + i)] (rO b P) := by
  refine m_enter (by decide) (Nat.le_of_ble_eq_true rfl) (fun p e s m below meth c C hr hlk hnm hK hP hS ls hl => ?_)
  have hx := C.1
  have hb := C.2.1
  have hl : lv_has ls 5 [(0, .ref (b + i))] := hl
  have L10 : ∀ f : Nat, ∀ (M : Mem) (H : Heap) (locs : List Loc) (ls : Array Slot) (x1 : Nat) (x2 : Int32) (x3 : Int32), wpL_X5_freePlace_10 n P f M x1 x2 x3 → m_H D cA b n M H → va_S (m_A b) s.heap H locs → lv_has ls 5 [(1, .ref (b + x1)), (2, .int x2), (3, .int x3)] → W p l e rm_X5_freePlace s m ([.ref (b + i)] : List Value).toArray below meth c H locs 0 0 (MQ below (m_Q D cA b n (rO b P)) ([.ref (b + i)] : List Value).toArray s 0 0 (m_A b)) (F0 m 10 ls []) := by
    clear h
    intro f
    induction f with
    | zero => intro M H locs ls x1 x2 x3 h; exact h.elim
    | succ f ih =>
      intro M H locs ls x1 x2 x3 h hP hS hl
      have h : wpB_X5_freePlace_10 n P (wpL_X5_freePlace_10 n P f) M x1 x2 x3 := h
      unfold wpB_X5_freePlace_10 at h
      refine lv_iload_n (pc := 10) hx hb dX5_freePlace_10 rfl (lv_at hl 2 rfl) ?_
      refine lv_iload_n (pc := 11) hx hb dX5_freePlace_11 rfl (lv_at hl 1 rfl) ?_
      refine lv_icmp_ge (tgt := 43) (pc := 12) hx hb dX5_freePlace_12 (by decide) (fun c12 => ?_) (fun c12 => ?_)
      · replace h := h.1 c12
        refine lv_null (pc := 43) hx hb dX5_freePlace_43 ?_
        exact m_oret (v := none) (pc := 44) C hr hlk hP hS dX5_freePlace_44 h
      · replace h := h.2 c12
        refine lv_aload_n (pc := 15) hx hb dX5_freePlace_15 rfl (lv_at hl 0 rfl) ?_
        refine lv_iload_n (pc := 16) hx hb dX5_freePlace_16 rfl (lv_at hl 2 rfl) ?_
        obtain ⟨hk5, h⟩ := h
        obtain ⟨hi6, h⟩ := h
        obtain ⟨j7, hj7, h⟩ := h
        refine m_aldq (pc := 17) (κ := 11) C hK hP hk5 (by decide) rfl hi6 hj7 dX5_freePlace_17 ?_
        refine lv_astore (lv' := [(4, .ref (b + j7)), (1, .ref (b + x1)), (2, .int x2), (3, .int x3)]) (pc := 18) hx hb dX5_freePlace_18 hl (by decide) rfl (fun ls hl => ?_)
        refine lv_aload (pc := 20) hx hb dX5_freePlace_20 (lv_at hl 0 rfl) ?_
        refine lv_ifnull (pc := 22) hx hb dX5_freePlace_22 ?_
        refine lv_aload (pc := 25) hx hb dX5_freePlace_25 (lv_at hl 0 rfl) ?_
        obtain ⟨hk8, h⟩ := h
        refine gX5_159 (pc := 27) C hK hP hk8 dX5_freePlace_27 ?_
        refine lv_iconst (v := -1) (pc := 30) hx hb dX5_freePlace_30 (by decide) ?_
        refine lv_icmp_ne (tgt := 37) (pc := 31) hx hb dX5_freePlace_31 (by decide) (fun c31 => ?_) (fun c31 => ?_)
        · replace h := h.1 c31
          obtain ⟨v9, ev9⟩ : ∃ y : Int32, y = x3 + 1 := ⟨_, rfl⟩
          replace h := h v9 ev9
          refine lv_iinc (v := v9) (lv' := [(3, .int v9), (4, .ref (b + j7)), (1, .ref (b + x1)), (2, .int x2)]) (pc := 37) hx hb dX5_freePlace_37 hl (k := 3) rfl (by rw [ev9]; rfl) (by decide) rfl (fun ls hl => ?_)
          refine lv_goto (tgt := 10) (pc := 40) hx hb dX5_freePlace_40 (by decide) ?_
          exact ih _ _ _ _ _ _ _ h hP hS (lv_sub hl [2, 3, 0] rfl)
        · replace h := h.2 c31
          refine lv_aload (pc := 34) hx hb dX5_freePlace_34 (lv_at hl 0 rfl) ?_
          exact m_oret (v := some j7) (pc := 36) C hr hlk hP hS dX5_freePlace_36 h
  unfold wp_X5_freePlace at h
  refine lv_aload_n (pc := 0) hx hb dX5_freePlace_0 rfl (lv_at hl 0 rfl) ?_
  obtain ⟨hk1, h⟩ := h
  obtain ⟨j2, hj2, h⟩ := h
  refine gX5_47 (pc := 1) C hK hP hk1 hj2 dX5_freePlace_1 ?_
  refine lv_astore_n (lv' := [(1, .ref (b + j2)), (0, .ref (b + i))]) (pc := 4) hx hb dX5_freePlace_4 rfl hl (by decide) rfl (fun ls hl => ?_)
  refine lv_aload_n (pc := 5) hx hb dX5_freePlace_5 rfl (lv_at hl 0 rfl) ?_
  obtain ⟨hk3, h⟩ := h
  refine m_alen (pc := 6) (κ := 11) C hK hP hk3 (by decide) rfl dX5_freePlace_6 ?_
  refine lv_topi (fun v4 ev4 => ?_)
  replace h := h v4 ev4
  refine lv_istore_n (lv' := [(2, .int v4), (1, .ref (b + j2)), (0, .ref (b + i))]) (pc := 7) hx hb dX5_freePlace_7 rfl hl (by decide) rfl (fun ls hl => ?_)
  refine lv_iconst (v := 0) (pc := 8) hx hb dX5_freePlace_8 (by decide) ?_
  refine lv_istore_n (lv' := [(3, .int 0), (2, .int v4), (1, .ref (b + j2)), (0, .ref (b + i))]) (pc := 9) hx hb dX5_freePlace_9 rfl hl (by decide) rfl (fun ls hl => ?_)
  obtain ⟨f, h⟩ := h
  exact L10 f _ _ _ _ _ _ _ h hP hS (lv_sub hl [2, 1, 0] rfl)
/-! ForgeHeats$Shop.hottestReady (LForgeHeats$Job;)LForgeHeats$Billet; -/
def wpB_X5_hottestReady_28 (n : Nat) (P : Option Nat → Mem → Prop) (R_ : Mem → Nat → Int32 → Option Nat → Nat → Int32 → Int32 → Prop) (M : Mem) (x1 : Nat) (x2 : Int32) (x3 : Option Nat) (x4 : Nat) (x5 : Int32) (x6 : Int32) : Prop := ((x5 ≤ x6 → P x3 M) ∧ (¬ x5 ≤ x6 → m_tp n x4 11 ∧ (vp_in x6 (m_len x4) ∧ (∃ j12 : Nat, M.2.1 x4 x6.toNatClampNeg = some j12 ∧ (m_tp n j12 0 ∧ (m_tp n x1 3 ∧ (((¬ (M.1 j12 0) = (M.1 x1 0) → ∀ v15 : Int32, v15 = x6 + 1 → (R_ M x1 x2 x3 x4 x5 v15)) ∧ ((M.1 j12 0) = (M.1 x1 0) → (((M.1 j12 1) < x2 → ∀ v16 : Int32, v16 = x6 + 1 → (R_ M x1 x2 x3 x4 x5 v16)) ∧ (¬ (M.1 j12 1) < x2 → ∀ v17 : Int32, v17 = ((M.1 j12 1) + 1) → (∀ v18 : Int32, v18 = x6 + 1 → (R_ M x1 v17 (some j12) x4 x5 v18)))))))))))))
def wpL_X5_hottestReady_28 (n : Nat) (P : Option Nat → Mem → Prop) : Nat → Mem → Nat → Int32 → Option Nat → Nat → Int32 → Int32 → Prop
  | 0 => fun _ _ _ _ _ _ _ => False
  | f + 1 => fun M x1 x2 x3 x4 x5 x6 => wpB_X5_hottestReady_28 n P (wpL_X5_hottestReady_28 n P f) M x1 x2 x3 x4 x5 x6
def wp_X5_hottestReady (n : Nat) (M : Mem) (i : Nat) (p1 : Nat) (P : Option Nat → Mem → Prop) : Prop := m_tp n p1 3 ∧ (m_tp n i 5 ∧ (wp_X5_heatAt n M i (M.1 p1 2) (fun j4 M2 => m_tp n j4 2 ∧ (∀ v6 : Int32, v6 = (M2.1 j4 2) → (∃ j7 : Nat, M2.2.1 i 3 = some j7 ∧ (m_tp n j7 11 ∧ (∀ v9 : Int32, v9 = (nI (m_len j7)) → (∃ f : Nat, wpL_X5_hottestReady_28 n P f M2 p1 v6 none j7 v9 0))))))))
abbrev rm_X5_hottestReady : Room := { frames := 1, cells := 0, slots := 0, locals := 22 }
set_option maxHeartbeats 4000000 in
set_option maxRecDepth 100000 in
theorem c_X5_hottestReady {l : Launch} {D : va_G} {cA : Nat → ClassId} {b n : Nat} {M : Mem} {i : Nat} {p1 : Nat} {P : Option Nat → Mem → Prop} (h : wp_X5_hottestReady n M i p1 P) : m_C l D cA b n n M yX5_hottestReady cX5_hottestReady 8 (some (.object "ForgeHeats$Billet")) rm_X5_hottestReady 0 0 [.ref (b + i), .ref (b + p1)] (rO b P) := by
  refine m_enter (by decide) (Nat.le_of_ble_eq_true rfl) (fun p e s m below meth c C hr hlk hnm hK hP hS ls hl => ?_)
  have hx := C.1
  have hb := C.2.1
  have hl : lv_has ls 8 [(0, .ref (b + i)), (1, .ref (b + p1))] := hl
  have L28 : ∀ f : Nat, ∀ (M : Mem) (H : Heap) (locs : List Loc) (ls : Array Slot) (x1 : Nat) (x2 : Int32) (x3 : Option Nat) (x4 : Nat) (x5 : Int32) (x6 : Int32), wpL_X5_hottestReady_28 n P f M x1 x2 x3 x4 x5 x6 → m_H D cA b n M H → va_S (m_A b) s.heap H locs → lv_has ls 8 [(1, .ref (b + x1)), (2, .int x2), (3, va_rf ((x3).map (fun j => b + j))), (4, .ref (b + x4)), (5, .int x5), (6, .int x6)] → W p l e rm_X5_hottestReady s m ([.ref (b + i), .ref (b + p1)] : List Value).toArray below meth c H locs 0 0 (MQ below (m_Q D cA b n (rO b P)) ([.ref (b + i), .ref (b + p1)] : List Value).toArray s 0 0 (m_A b)) (F0 m 28 ls []) := by
    clear h
    intro f
    induction f with
    | zero => intro M H locs ls x1 x2 x3 x4 x5 x6 h; exact h.elim
    | succ f ih =>
      intro M H locs ls x1 x2 x3 x4 x5 x6 h hP hS hl
      have h : wpB_X5_hottestReady_28 n P (wpL_X5_hottestReady_28 n P f) M x1 x2 x3 x4 x5 x6 := h
      unfold wpB_X5_hottestReady_28 at h
      refine lv_iload (pc := 28) hx hb dX5_hottestReady_28 (lv_at hl 5 rfl) ?_
      refine lv_iload (pc := 30) hx hb dX5_hottestReady_30 (lv_at hl 4 rfl) ?_
      refine lv_icmp_ge (tgt := 85) (pc := 32) hx hb dX5_hottestReady_32 (by decide) (fun c32 => ?_) (fun c32 => ?_)
      · replace h := h.1 c32
        refine m_aldO_n hx hb (pc := 85) dX5_hottestReady_85 rfl (lv_at hl 2 rfl) ?_
        exact m_oret (v := x3) (pc := 86) C hr hlk hP hS dX5_hottestReady_86 h
      · replace h := h.2 c32
        refine lv_aload (pc := 35) hx hb dX5_hottestReady_35 (lv_at hl 3 rfl) ?_
        refine lv_iload (pc := 37) hx hb dX5_hottestReady_37 (lv_at hl 5 rfl) ?_
        obtain ⟨hk10, h⟩ := h
        obtain ⟨hi11, h⟩ := h
        obtain ⟨j12, hj12, h⟩ := h
        refine m_aldq (pc := 39) (κ := 11) C hK hP hk10 (by decide) rfl hi11 hj12 dX5_hottestReady_39 ?_
        refine lv_astore (lv' := [(7, .ref (b + j12)), (1, .ref (b + x1)), (2, .int x2), (3, va_rf ((x3).map (fun j => b + j))), (4, .ref (b + x4)), (5, .int x5), (6, .int x6)]) (pc := 40) hx hb dX5_hottestReady_40 hl (by decide) rfl (fun ls hl => ?_)
        refine lv_aload (pc := 42) hx hb dX5_hottestReady_42 (lv_at hl 0 rfl) ?_
        refine lv_ifnull (pc := 44) hx hb dX5_hottestReady_44 ?_
        refine lv_aload (pc := 47) hx hb dX5_hottestReady_47 (lv_at hl 0 rfl) ?_
        obtain ⟨hk13, h⟩ := h
        refine gX5_159 (pc := 49) C hK hP hk13 dX5_hottestReady_49 ?_
        refine lv_aload_n (pc := 52) hx hb dX5_hottestReady_52 rfl (lv_at hl 1 rfl) ?_
        obtain ⟨hk14, h⟩ := h
        refine gX5_122 (pc := 53) C hK hP hk14 dX5_hottestReady_53 ?_
        refine lv_icmp_ne (tgt := 79) (pc := 56) hx hb dX5_hottestReady_56 (by decide) (fun c56 => ?_) (fun c56 => ?_)
        · replace h := h.1 c56
          obtain ⟨v15, ev15⟩ : ∃ y : Int32, y = x6 + 1 := ⟨_, rfl⟩
          replace h := h v15 ev15
          refine lv_iinc (v := v15) (lv' := [(6, .int v15), (7, .ref (b + j12)), (1, .ref (b + x1)), (2, .int x2), (3, va_rf ((x3).map (fun j => b + j))), (4, .ref (b + x4)), (5, .int x5)]) (pc := 79) hx hb dX5_hottestReady_79 hl (k := 6) rfl (by rw [ev15]; rfl) (by decide) rfl (fun ls hl => ?_)
          refine lv_goto (tgt := 28) (pc := 82) hx hb dX5_hottestReady_82 (by decide) ?_
          exact ih _ _ _ _ _ _ _ _ _ _ h hP hS (lv_sub hl [2, 3, 4, 5, 6, 0] rfl)
        · replace h := h.2 c56
          refine lv_aload (pc := 59) hx hb dX5_hottestReady_59 (lv_at hl 0 rfl) ?_
          refine gX5_204 (pc := 61) C hK hP hk13 dX5_hottestReady_61 ?_
          refine lv_iload_n (pc := 64) hx hb dX5_hottestReady_64 rfl (lv_at hl 2 rfl) ?_
          refine lv_icmp_lt (tgt := 79) (pc := 65) hx hb dX5_hottestReady_65 (by decide) (fun c65 => ?_) (fun c65 => ?_)
          · replace h := h.1 c65
            obtain ⟨v16, ev16⟩ : ∃ y : Int32, y = x6 + 1 := ⟨_, rfl⟩
            replace h := h v16 ev16
            refine lv_iinc (v := v16) (lv' := [(6, .int v16), (7, .ref (b + j12)), (1, .ref (b + x1)), (2, .int x2), (3, va_rf ((x3).map (fun j => b + j))), (4, .ref (b + x4)), (5, .int x5)]) (pc := 79) hx hb dX5_hottestReady_79 hl (k := 6) rfl (by rw [ev16]; rfl) (by decide) rfl (fun ls hl => ?_)
            refine lv_goto (tgt := 28) (pc := 82) hx hb dX5_hottestReady_82 (by decide) ?_
            exact ih _ _ _ _ _ _ _ _ _ _ h hP hS (lv_sub hl [2, 3, 4, 5, 6, 0] rfl)
          · replace h := h.2 c65
            refine lv_aload (pc := 68) hx hb dX5_hottestReady_68 (lv_at hl 0 rfl) ?_
            refine lv_astore_n (lv' := [(3, .ref (b + j12)), (7, .ref (b + j12)), (1, .ref (b + x1)), (2, .int x2), (4, .ref (b + x4)), (5, .int x5), (6, .int x6)]) (pc := 70) hx hb dX5_hottestReady_70 rfl hl (by decide) rfl (fun ls hl => ?_)
            refine lv_aload (pc := 71) hx hb dX5_hottestReady_71 (lv_at hl 1 rfl) ?_
            refine gX5_204 (pc := 73) C hK hP hk13 dX5_hottestReady_73 ?_
            refine lv_iconst (v := 1) (pc := 76) hx hb dX5_hottestReady_76 (by decide) ?_
            refine lv_iadd (pc := 77) hx hb dX5_hottestReady_77 ?_
            refine lv_topi (fun v17 ev17 => ?_)
            replace h := h v17 ev17
            refine lv_istore_n (lv' := [(2, .int v17), (3, .ref (b + j12)), (7, .ref (b + j12)), (1, .ref (b + x1)), (4, .ref (b + x4)), (5, .int x5), (6, .int x6)]) (pc := 78) hx hb dX5_hottestReady_78 rfl hl (by decide) rfl (fun ls hl => ?_)
            obtain ⟨v18, ev18⟩ : ∃ y : Int32, y = x6 + 1 := ⟨_, rfl⟩
            replace h := h v18 ev18
            refine lv_iinc (v := v18) (lv' := [(6, .int v18), (2, .int v17), (3, .ref (b + j12)), (7, .ref (b + j12)), (1, .ref (b + x1)), (4, .ref (b + x4)), (5, .int x5)]) (pc := 79) hx hb dX5_hottestReady_79 hl (k := 6) rfl (by rw [ev18]; rfl) (by decide) rfl (fun ls hl => ?_)
            refine lv_goto (tgt := 28) (pc := 82) hx hb dX5_hottestReady_82 (by decide) ?_
            exact ih _ _ _ _ _ _ _ _ _ _ h hP hS (lv_sub hl [4, 1, 2, 5, 6, 0] rfl)
  unfold wp_X5_hottestReady at h
  refine lv_aload_n (pc := 0) hx hb dX5_hottestReady_0 rfl (lv_at hl 0 rfl) ?_
  refine lv_aload_n (pc := 1) hx hb dX5_hottestReady_1 rfl (lv_at hl 1 rfl) ?_
  obtain ⟨hk1, h⟩ := h
  refine gX5_128 (pc := 2) C hK hP hk1 dX5_hottestReady_2 ?_
  obtain ⟨hk3, h⟩ := h
  refine m_callVR (pc := 5) (y := yX5_heatAt) (κ := 5) (As := [.int (M.1 p1 2)]) (rest := []) C hK hP hS hl.1 ⟨Nat.zero_le _, Nat.zero_le _⟩ (c_X5_heatAt h) rfl rfl hk3 (by decide) rfl q_347 q_348 q_349 q_2 q_350 ⟨rfl, rfl⟩ yd_X5_heatAt ⟨Nat.le_of_ble_eq_true rfl, Nat.le_of_ble_eq_true rfl⟩ (Nat.le_of_ble_eq_true rfl) dX5_hottestReady_5 (fun j4 M2 H locs h hP hS => ?_)
  obtain ⟨hk5, h⟩ := h
  refine gX5_176 (pc := 8) C hK hP hk5 dX5_hottestReady_8 ?_
  refine lv_topi (fun v6 ev6 => ?_)
  replace h := h v6 ev6
  refine lv_istore_n (lv' := [(2, .int v6), (0, .ref (b + i)), (1, .ref (b + p1))]) (pc := 11) hx hb dX5_hottestReady_11 rfl hl (by decide) rfl (fun ls hl => ?_)
  refine lv_null (pc := 12) hx hb dX5_hottestReady_12 ?_
  refine lv_astore_nN (lv' := [(3, .null), (2, .int v6), (0, .ref (b + i)), (1, .ref (b + p1))]) (pc := 13) hx hb dX5_hottestReady_13 rfl hl (by decide) rfl (fun ls hl => ?_)
  refine lv_aload_n (pc := 14) hx hb dX5_hottestReady_14 rfl (lv_at hl 2 rfl) ?_
  obtain ⟨j7, hj7, h⟩ := h
  refine gX5_47 (pc := 15) C hK hP hk3 hj7 dX5_hottestReady_15 ?_
  refine lv_astore (lv' := [(4, .ref (b + j7)), (3, .null), (2, .int v6), (0, .ref (b + i)), (1, .ref (b + p1))]) (pc := 18) hx hb dX5_hottestReady_18 hl (by decide) rfl (fun ls hl => ?_)
  refine lv_aload (pc := 20) hx hb dX5_hottestReady_20 (lv_at hl 0 rfl) ?_
  obtain ⟨hk8, h⟩ := h
  refine m_alen (pc := 22) (κ := 11) C hK hP hk8 (by decide) rfl dX5_hottestReady_22 ?_
  refine lv_topi (fun v9 ev9 => ?_)
  replace h := h v9 ev9
  refine lv_istore (lv' := [(5, .int v9), (4, .ref (b + j7)), (3, .null), (2, .int v6), (0, .ref (b + i)), (1, .ref (b + p1))]) (pc := 23) hx hb dX5_hottestReady_23 hl (by decide) rfl (fun ls hl => ?_)
  refine lv_iconst (v := 0) (pc := 25) hx hb dX5_hottestReady_25 (by decide) ?_
  refine lv_istore (lv' := [(6, .int 0), (5, .int v9), (4, .ref (b + j7)), (3, .null), (2, .int v6), (0, .ref (b + i)), (1, .ref (b + p1))]) (pc := 26) hx hb dX5_hottestReady_26 hl (by decide) rfl (fun ls hl => ?_)
  obtain ⟨f, h⟩ := h
  exact L28 f _ _ _ _ _ _ _ _ _ _ h hP hS (lv_sub hl [6, 4, 3, 2, 1, 0] rfl)
/-! ForgeHeats$Shop.warmFurnace ()V -/
def wpB_X5_warmFurnace_10 (n : Nat) (P : Mem → Prop) (R_ : Mem → Nat → Nat → Int32 → Int32 → Prop) (M : Mem) (x0 : Nat) (x1 : Nat) (x2 : Int32) (x3 : Int32) : Prop := ((x2 ≤ x3 → P M) ∧ (¬ x2 ≤ x3 → m_tp n x1 11 ∧ (vp_in x3 (m_len x1) ∧ (∃ j7 : Nat, M.2.1 x1 x3.toNatClampNeg = some j7 ∧ (m_tp n j7 0 ∧ ((((M.1 j7 0) = (-1) → ∀ v9 : Int32, v9 = x3 + 1 → (R_ M x0 x1 x2 v9)) ∧ (¬ (M.1 j7 0) = (-1) → m_tp n x0 5 ∧ (∀ M11 : Mem, M11 = uI M j7 1 (if ((M.1 j7 1) + (M.1 x0 7)) < 1250 then ((M.1 j7 1) + (M.1 x0 7)) else 1250) → (∀ v12 : Int32, v12 = x3 + 1 → (R_ M11 x0 x1 x2 v12)))))))))))
def wpL_X5_warmFurnace_10 (n : Nat) (P : Mem → Prop) : Nat → Mem → Nat → Nat → Int32 → Int32 → Prop
  | 0 => fun _ _ _ _ _ => False
  | f + 1 => fun M x0 x1 x2 x3 => wpB_X5_warmFurnace_10 n P (wpL_X5_warmFurnace_10 n P f) M x0 x1 x2 x3
def wp_X5_warmFurnace (n : Nat) (M : Mem) (i : Nat) (P : Mem → Prop) : Prop := m_tp n i 5 ∧ (∃ j2 : Nat, M.2.1 i 3 = some j2 ∧ (m_tp n j2 11 ∧ (∀ v4 : Int32, v4 = (nI (m_len j2)) → (∃ f : Nat, wpL_X5_warmFurnace_10 n P f M i j2 v4 0))))
abbrev rm_X5_warmFurnace : Room := { frames := 1, cells := 0, slots := 0, locals := 21 }
set_option maxHeartbeats 4000000 in
set_option maxRecDepth 100000 in
theorem c_X5_warmFurnace {l : Launch} {D : va_G} {cA : Nat → ClassId} {b n : Nat} {M : Mem} {i : Nat} {P : Mem → Prop} (h : wp_X5_warmFurnace n M i P) : m_C l D cA b n n M yX5_warmFurnace cX5_warmFurnace 5 none rm_X5_warmFurnace 0 0 [.ref (b + i)] (rV P) := by
  refine m_enter (by decide) (Nat.le_of_ble_eq_true rfl) (fun p e s m below meth c C hr hlk hnm hK hP hS ls hl => ?_)
  have hx := C.1
  have hb := C.2.1
  have hl : lv_has ls 5 [(0, .ref (b + i))] := hl
  have L10 : ∀ f : Nat, ∀ (M : Mem) (H : Heap) (locs : List Loc) (ls : Array Slot) (x0 : Nat) (x1 : Nat) (x2 : Int32) (x3 : Int32), wpL_X5_warmFurnace_10 n P f M x0 x1 x2 x3 → m_H D cA b n M H → va_S (m_A b) s.heap H locs → lv_has ls 5 [(0, .ref (b + x0)), (1, .ref (b + x1)), (2, .int x2), (3, .int x3)] → W p l e rm_X5_warmFurnace s m ([.ref (b + i)] : List Value).toArray below meth c H locs 0 0 (MQ below (m_Q D cA b n (rV P)) ([.ref (b + i)] : List Value).toArray s 0 0 (m_A b)) (F0 m 10 ls []) := by
    clear h
    intro f
    induction f with
    | zero => intro M H locs ls x0 x1 x2 x3 h; exact h.elim
    | succ f ih =>
      intro M H locs ls x0 x1 x2 x3 h hP hS hl
      have h : wpB_X5_warmFurnace_10 n P (wpL_X5_warmFurnace_10 n P f) M x0 x1 x2 x3 := h
      unfold wpB_X5_warmFurnace_10 at h
      refine lv_iload_n (pc := 10) hx hb dX5_warmFurnace_10 rfl (lv_at hl 3 rfl) ?_
      refine lv_iload_n (pc := 11) hx hb dX5_warmFurnace_11 rfl (lv_at hl 2 rfl) ?_
      refine lv_icmp_ge (tgt := 61) (pc := 12) hx hb dX5_warmFurnace_12 (by decide) (fun c12 => ?_) (fun c12 => ?_)
      · replace h := h.1 c12
        exact m_vret (pc := 61) C hr hlk hP hS dX5_warmFurnace_61 h
      · replace h := h.2 c12
        refine lv_aload_n (pc := 15) hx hb dX5_warmFurnace_15 rfl (lv_at hl 1 rfl) ?_
        refine lv_iload_n (pc := 16) hx hb dX5_warmFurnace_16 rfl (lv_at hl 3 rfl) ?_
        obtain ⟨hk5, h⟩ := h
        obtain ⟨hi6, h⟩ := h
        obtain ⟨j7, hj7, h⟩ := h
        refine m_aldq (pc := 17) (κ := 11) C hK hP hk5 (by decide) rfl hi6 hj7 dX5_warmFurnace_17 ?_
        refine lv_astore (lv' := [(4, .ref (b + j7)), (0, .ref (b + x0)), (1, .ref (b + x1)), (2, .int x2), (3, .int x3)]) (pc := 18) hx hb dX5_warmFurnace_18 hl (by decide) rfl (fun ls hl => ?_)
        refine lv_aload (pc := 20) hx hb dX5_warmFurnace_20 (lv_at hl 0 rfl) ?_
        refine lv_ifnull (pc := 22) hx hb dX5_warmFurnace_22 ?_
        refine lv_aload (pc := 25) hx hb dX5_warmFurnace_25 (lv_at hl 0 rfl) ?_
        obtain ⟨hk8, h⟩ := h
        refine gX5_159 (pc := 27) C hK hP hk8 dX5_warmFurnace_27 ?_
        refine lv_iconst (v := -1) (pc := 30) hx hb dX5_warmFurnace_30 (by decide) ?_
        refine lv_icmp_eq (tgt := 55) (pc := 31) hx hb dX5_warmFurnace_31 (by decide) (fun c31 => ?_) (fun c31 => ?_)
        · replace h := h.1 c31
          obtain ⟨v9, ev9⟩ : ∃ y : Int32, y = x3 + 1 := ⟨_, rfl⟩
          replace h := h v9 ev9
          refine lv_iinc (v := v9) (lv' := [(3, .int v9), (4, .ref (b + j7)), (0, .ref (b + x0)), (1, .ref (b + x1)), (2, .int x2)]) (pc := 55) hx hb dX5_warmFurnace_55 hl (k := 4) rfl (by rw [ev9]; rfl) (by decide) rfl (fun ls hl => ?_)
          refine lv_goto (tgt := 10) (pc := 58) hx hb dX5_warmFurnace_58 (by decide) ?_
          exact ih _ _ _ _ _ _ _ _ h hP hS (lv_sub hl [2, 3, 4, 0] rfl)
        · replace h := h.2 c31
          refine lv_aload (pc := 34) hx hb dX5_warmFurnace_34 (lv_at hl 0 rfl) ?_
          refine lv_sipush (v := 1250) (pc := 36) hx hb dX5_warmFurnace_36 (by decide) ?_
          refine lv_aload (pc := 39) hx hb dX5_warmFurnace_39 (lv_at hl 0 rfl) ?_
          refine gX5_204 (pc := 41) C hK hP hk8 dX5_warmFurnace_41 ?_
          refine lv_aload_n (pc := 44) hx hb dX5_warmFurnace_44 rfl (lv_at hl 1 rfl) ?_
          obtain ⟨hk10, h⟩ := h
          refine gX5_9 (pc := 45) C hK hP hk10 dX5_warmFurnace_45 ?_
          refine lv_iadd (pc := 48) hx hb dX5_warmFurnace_48 ?_
          refine va_mmin (pc := 49) hx hb (C.2.2.1.trans hl.1.symm) C.2.2.2.1 (C.2.2.2.2 _ q_649) (C.2.2.2.2 _ q_650) (C.2.2.2.2 _ q_14) (C.2.2.2.2 _ q_651) (Nat.le_of_ble_eq_true rfl) (Nat.le_of_ble_eq_true rfl) (Nat.zero_le _) (Nat.zero_le _) dX5_warmFurnace_49 ?_
          refine pX5_204 (pc := 52) (v := if ((M.1 j7 1) + (M.1 x0 7)) < 1250 then ((M.1 j7 1) + (M.1 x0 7)) else 1250) C hK hP hS hk8 dX5_warmFurnace_52 (fun M11 H locs eM11 hP hS => ?_)
          replace h := h M11 eM11
          obtain ⟨v12, ev12⟩ : ∃ y : Int32, y = x3 + 1 := ⟨_, rfl⟩
          replace h := h v12 ev12
          refine lv_iinc (v := v12) (lv' := [(3, .int v12), (4, .ref (b + j7)), (0, .ref (b + x0)), (1, .ref (b + x1)), (2, .int x2)]) (pc := 55) hx hb dX5_warmFurnace_55 hl (k := 4) rfl (by rw [ev12]; rfl) (by decide) rfl (fun ls hl => ?_)
          refine lv_goto (tgt := 10) (pc := 58) hx hb dX5_warmFurnace_58 (by decide) ?_
          exact ih _ _ _ _ _ _ _ _ h hP hS (lv_sub hl [2, 3, 4, 0] rfl)
  unfold wp_X5_warmFurnace at h
  refine lv_aload_n (pc := 0) hx hb dX5_warmFurnace_0 rfl (lv_at hl 0 rfl) ?_
  obtain ⟨hk1, h⟩ := h
  obtain ⟨j2, hj2, h⟩ := h
  refine gX5_47 (pc := 1) C hK hP hk1 hj2 dX5_warmFurnace_1 ?_
  refine lv_astore_n (lv' := [(1, .ref (b + j2)), (0, .ref (b + i))]) (pc := 4) hx hb dX5_warmFurnace_4 rfl hl (by decide) rfl (fun ls hl => ?_)
  refine lv_aload_n (pc := 5) hx hb dX5_warmFurnace_5 rfl (lv_at hl 0 rfl) ?_
  obtain ⟨hk3, h⟩ := h
  refine m_alen (pc := 6) (κ := 11) C hK hP hk3 (by decide) rfl dX5_warmFurnace_6 ?_
  refine lv_topi (fun v4 ev4 => ?_)
  replace h := h v4 ev4
  refine lv_istore_n (lv' := [(2, .int v4), (1, .ref (b + j2)), (0, .ref (b + i))]) (pc := 7) hx hb dX5_warmFurnace_7 rfl hl (by decide) rfl (fun ls hl => ?_)
  refine lv_iconst (v := 0) (pc := 8) hx hb dX5_warmFurnace_8 (by decide) ?_
  refine lv_istore_n (lv' := [(3, .int 0), (2, .int v4), (1, .ref (b + j2)), (0, .ref (b + i))]) (pc := 9) hx hb dX5_warmFurnace_9 rfl hl (by decide) rfl (fun ls hl => ?_)
  obtain ⟨f, h⟩ := h
  exact L10 f _ _ _ _ _ _ _ _ h hP hS (lv_sub hl [3, 2, 1, 0] rfl)
/-! ForgeHeats$Shop.chargeFurnace ()V -/
def wpB_X5_chargeFurnace_12 (n : Nat) (P : Mem → Prop) (R_ : Mem → Nat → Nat → Int32 → Prop) (M : Mem) (x0 : Nat) (x1 : Nat) (x2 : Int32) : Prop := m_tp n x0 5 ∧ ((((M.1 x0 5) ≤ x2 → P M) ∧ (¬ (M.1 x0 5) ≤ x2 → wp_X5_jobAt n M x0 x2 (fun j7 M6 => m_tp n j7 3 ∧ (wp_X5_heatAt n M6 x0 (M6.1 j7 2) (fun j10 M9 => m_tp n j10 2 ∧ ((((M9.1 j10 0) ≤ 0 → ∀ v12 : Int32, v12 = x2 + 1 → (R_ M9 x0 x1 v12)) ∧ (¬ (M9.1 j10 0) ≤ 0 → wp_X3_lack n M9 j7 (fun r14 M13 => ((r14 ≤ 0 → ∀ v15 : Int32, v15 = x2 + 1 → (R_ M13 x0 x1 v15)) ∧ (¬ r14 ≤ 0 → ∀ M16 : Mem, M16 = uI M13 j10 0 ((M13.1 j10 0) - 1) → (∀ M17 : Mem, M17 = uI M16 j7 7 ((M16.1 j7 7) + 1) → (m_tp n x1 0 ∧ (∀ M19 : Mem, M19 = uI M17 x1 0 (M17.1 j7 0) → (∀ M20 : Mem, M20 = uI M19 x1 1 20 → (∀ M21 : Mem, M21 = uI M20 x1 2 0 → (wp_X5_dieAt n M21 x0 (M21.1 j7 1) (fun j23 M22 => m_tp n j23 1 ∧ (∀ M25 : Mem, M25 = uI M22 x1 3 (M22.1 j23 0) → (P M25)))))))))))))))))))))
def wpL_X5_chargeFurnace_12 (n : Nat) (P : Mem → Prop) : Nat → Mem → Nat → Nat → Int32 → Prop
  | 0 => fun _ _ _ _ => False
  | f + 1 => fun M x0 x1 x2 => wpB_X5_chargeFurnace_12 n P (wpL_X5_chargeFurnace_12 n P f) M x0 x1 x2
def wp_X5_chargeFurnace (n : Nat) (M : Mem) (i : Nat) (P : Mem → Prop) : Prop := m_tp n i 5 ∧ (wp_X5_freePlace n M i (fun o3 M1 => ((o3 = none → P M1) ∧ (∀ j4 : Nat, o3 = some j4 → ∃ f : Nat, wpL_X5_chargeFurnace_12 n P f M1 i j4 0))))
abbrev rm_X5_chargeFurnace : Room := { frames := 1, cells := 0, slots := 0, locals := 24 }
set_option maxHeartbeats 4000000 in
set_option maxRecDepth 100000 in
theorem c_X5_chargeFurnace {l : Launch} {D : va_G} {cA : Nat → ClassId} {b n : Nat} {M : Mem} {i : Nat} {P : Mem → Prop} (h : wp_X5_chargeFurnace n M i P) : m_C l D cA b n n M yX5_chargeFurnace cX5_chargeFurnace 5 none rm_X5_chargeFurnace 0 0 [.ref (b + i)] (rV P) := by
  refine m_enter (by decide) (Nat.le_of_ble_eq_true rfl) (fun p e s m below meth c C hr hlk hnm hK hP hS ls hl => ?_)
  have hx := C.1
  have hb := C.2.1
  have hl : lv_has ls 5 [(0, .ref (b + i))] := hl
  have L12 : ∀ f : Nat, ∀ (M : Mem) (H : Heap) (locs : List Loc) (ls : Array Slot) (x0 : Nat) (x1 : Nat) (x2 : Int32), wpL_X5_chargeFurnace_12 n P f M x0 x1 x2 → m_H D cA b n M H → va_S (m_A b) s.heap H locs → lv_has ls 5 [(0, .ref (b + x0)), (1, .ref (b + x1)), (2, .int x2)] → W p l e rm_X5_chargeFurnace s m ([.ref (b + i)] : List Value).toArray below meth c H locs 0 0 (MQ below (m_Q D cA b n (rV P)) ([.ref (b + i)] : List Value).toArray s 0 0 (m_A b)) (F0 m 12 ls []) := by
    clear h
    intro f
    induction f with
    | zero => intro M H locs ls x0 x1 x2 h; exact h.elim
    | succ f ih =>
      intro M H locs ls x0 x1 x2 h hP hS hl
      have h : wpB_X5_chargeFurnace_12 n P (wpL_X5_chargeFurnace_12 n P f) M x0 x1 x2 := h
      unfold wpB_X5_chargeFurnace_12 at h
      refine lv_iload_n (pc := 12) hx hb dX5_chargeFurnace_12 rfl (lv_at hl 2 rfl) ?_
      refine lv_aload_n (pc := 13) hx hb dX5_chargeFurnace_13 rfl (lv_at hl 0 rfl) ?_
      obtain ⟨hk5, h⟩ := h
      refine gX5_83 (pc := 14) C hK hP hk5 dX5_chargeFurnace_14 ?_
      refine lv_icmp_ge (tgt := 113) (pc := 17) hx hb dX5_chargeFurnace_17 (by decide) (fun c17 => ?_) (fun c17 => ?_)
      · replace h := h.1 c17
        exact m_vret (pc := 113) C hr hlk hP hS dX5_chargeFurnace_113 h
      · replace h := h.2 c17
        refine lv_aload_n (pc := 20) hx hb dX5_chargeFurnace_20 rfl (lv_at hl 0 rfl) ?_
        refine lv_iload_n (pc := 21) hx hb dX5_chargeFurnace_21 rfl (lv_at hl 2 rfl) ?_
        refine m_callVR (pc := 22) (y := yX5_jobAt) (κ := 5) (As := [.int x2]) (rest := []) C hK hP hS hl.1 ⟨Nat.zero_le _, Nat.zero_le _⟩ (c_X5_jobAt h) rfl rfl hk5 (by decide) rfl q_363 q_364 q_365 q_2 q_366 ⟨rfl, rfl⟩ yd_X5_jobAt ⟨Nat.le_of_ble_eq_true rfl, Nat.le_of_ble_eq_true rfl⟩ (Nat.le_of_ble_eq_true rfl) dX5_chargeFurnace_22 (fun j7 M6 H locs h hP hS => ?_)
        refine lv_astore_n (lv' := [(3, .ref (b + j7)), (0, .ref (b + x0)), (1, .ref (b + x1)), (2, .int x2)]) (pc := 25) hx hb dX5_chargeFurnace_25 rfl hl (by decide) rfl (fun ls hl => ?_)
        refine lv_aload_n (pc := 26) hx hb dX5_chargeFurnace_26 rfl (lv_at hl 1 rfl) ?_
        refine lv_aload_n (pc := 27) hx hb dX5_chargeFurnace_27 rfl (lv_at hl 0 rfl) ?_
        obtain ⟨hk8, h⟩ := h
        refine gX5_128 (pc := 28) C hK hP hk8 dX5_chargeFurnace_28 ?_
        refine m_callVR (pc := 31) (y := yX5_heatAt) (κ := 5) (As := [.int (M6.1 j7 2)]) (rest := []) C hK hP hS hl.1 ⟨Nat.zero_le _, Nat.zero_le _⟩ (c_X5_heatAt h) rfl rfl hk5 (by decide) rfl q_347 q_348 q_349 q_2 q_350 ⟨rfl, rfl⟩ yd_X5_heatAt ⟨Nat.le_of_ble_eq_true rfl, Nat.le_of_ble_eq_true rfl⟩ (Nat.le_of_ble_eq_true rfl) dX5_chargeFurnace_31 (fun j10 M9 H locs h hP hS => ?_)
        refine lv_astore (lv' := [(4, .ref (b + j10)), (3, .ref (b + j7)), (0, .ref (b + x0)), (1, .ref (b + x1)), (2, .int x2)]) (pc := 34) hx hb dX5_chargeFurnace_34 hl (by decide) rfl (fun ls hl => ?_)
        refine lv_aload (pc := 36) hx hb dX5_chargeFurnace_36 (lv_at hl 0 rfl) ?_
        obtain ⟨hk11, h⟩ := h
        refine gX5_170 (pc := 38) C hK hP hk11 dX5_chargeFurnace_38 ?_
        refine lv_if_le (tgt := 107) (pc := 41) hx hb dX5_chargeFurnace_41 (by decide) (fun c41 => ?_) (fun c41 => ?_)
        · replace h := h.1 c41
          obtain ⟨v12, ev12⟩ : ∃ y : Int32, y = x2 + 1 := ⟨_, rfl⟩
          replace h := h v12 ev12
          refine lv_iinc (v := v12) (lv' := [(2, .int v12), (4, .ref (b + j10)), (3, .ref (b + j7)), (0, .ref (b + x0)), (1, .ref (b + x1))]) (pc := 107) hx hb dX5_chargeFurnace_107 hl (k := 4) rfl (by rw [ev12]; rfl) (by decide) rfl (fun ls hl => ?_)
          refine lv_goto (tgt := 12) (pc := 110) hx hb dX5_chargeFurnace_110 (by decide) ?_
          exact ih _ _ _ _ _ _ _ h hP hS (lv_sub hl [3, 4, 0] rfl)
        · replace h := h.2 c41
          refine lv_aload_n (pc := 44) hx hb dX5_chargeFurnace_44 rfl (lv_at hl 1 rfl) ?_
          refine m_callVI (pc := 45) (y := yX3_lack) (κ := 3) (As := []) (rest := []) C hK hP hS hl.1 ⟨Nat.zero_le _, Nat.zero_le _⟩ (c_X3_lack h) rfl rfl hk8 (by decide) rfl q_484 q_485 q_486 q_5 q_487 ⟨rfl, rfl⟩ yd_X3_lack ⟨Nat.le_of_ble_eq_true rfl, Nat.le_of_ble_eq_true rfl⟩ (Nat.le_of_ble_eq_true rfl) dX5_chargeFurnace_45 (fun r14 M13 H locs h hP hS => ?_)
          refine lv_if_le (tgt := 107) (pc := 48) hx hb dX5_chargeFurnace_48 (by decide) (fun c48 => ?_) (fun c48 => ?_)
          · replace h := h.1 c48
            obtain ⟨v15, ev15⟩ : ∃ y : Int32, y = x2 + 1 := ⟨_, rfl⟩
            replace h := h v15 ev15
            refine lv_iinc (v := v15) (lv' := [(2, .int v15), (4, .ref (b + j10)), (3, .ref (b + j7)), (0, .ref (b + x0)), (1, .ref (b + x1))]) (pc := 107) hx hb dX5_chargeFurnace_107 hl (k := 4) rfl (by rw [ev15]; rfl) (by decide) rfl (fun ls hl => ?_)
            refine lv_goto (tgt := 12) (pc := 110) hx hb dX5_chargeFurnace_110 (by decide) ?_
            exact ih _ _ _ _ _ _ _ h hP hS (lv_sub hl [3, 4, 0] rfl)
          · replace h := h.2 c48
            refine lv_aload (pc := 51) hx hb dX5_chargeFurnace_51 (lv_at hl 0 rfl) ?_
            refine lv_dup (pc := 53) hx hb dX5_chargeFurnace_53 rfl ?_
            refine gX5_170 (pc := 54) C hK hP hk11 dX5_chargeFurnace_54 ?_
            refine lv_iconst (v := 1) (pc := 57) hx hb dX5_chargeFurnace_57 (by decide) ?_
            refine lv_isub (pc := 58) hx hb dX5_chargeFurnace_58 ?_
            refine pX5_170 (pc := 59) (v := (M13.1 j10 0) - 1) C hK hP hS hk11 dX5_chargeFurnace_59 (fun M16 H locs eM16 hP hS => ?_)
            replace h := h M16 eM16
            refine lv_aload_n (pc := 62) hx hb dX5_chargeFurnace_62 rfl (lv_at hl 1 rfl) ?_
            refine lv_dup (pc := 63) hx hb dX5_chargeFurnace_63 rfl ?_
            refine gX5_144 (pc := 64) C hK hP hk8 dX5_chargeFurnace_64 ?_
            refine lv_iconst (v := 1) (pc := 67) hx hb dX5_chargeFurnace_67 (by decide) ?_
            refine lv_iadd (pc := 68) hx hb dX5_chargeFurnace_68 ?_
            refine pX5_144 (pc := 69) (v := (M16.1 j7 7) + 1) C hK hP hS hk8 dX5_chargeFurnace_69 (fun M17 H locs eM17 hP hS => ?_)
            replace h := h M17 eM17
            refine lv_aload_n (pc := 72) hx hb dX5_chargeFurnace_72 rfl (lv_at hl 3 rfl) ?_
            refine lv_aload_n (pc := 73) hx hb dX5_chargeFurnace_73 rfl (lv_at hl 1 rfl) ?_
            refine gX5_122 (pc := 74) C hK hP hk8 dX5_chargeFurnace_74 ?_
            obtain ⟨hk18, h⟩ := h
            refine pX5_159 (pc := 77) (v := M17.1 j7 0) C hK hP hS hk18 dX5_chargeFurnace_77 (fun M19 H locs eM19 hP hS => ?_)
            replace h := h M19 eM19
            refine lv_aload_n (pc := 80) hx hb dX5_chargeFurnace_80 rfl (lv_at hl 3 rfl) ?_
            refine lv_bipush (v := 20) (pc := 81) hx hb dX5_chargeFurnace_81 (by decide) ?_
            refine pX5_204 (pc := 83) (v := 20) C hK hP hS hk18 dX5_chargeFurnace_83 (fun M20 H locs eM20 hP hS => ?_)
            replace h := h M20 eM20
            refine lv_aload_n (pc := 86) hx hb dX5_chargeFurnace_86 rfl (lv_at hl 3 rfl) ?_
            refine lv_iconst (v := 0) (pc := 87) hx hb dX5_chargeFurnace_87 (by decide) ?_
            refine pX5_238 (pc := 88) (v := 0) C hK hP hS hk18 dX5_chargeFurnace_88 (fun M21 H locs eM21 hP hS => ?_)
            replace h := h M21 eM21
            refine lv_aload_n (pc := 91) hx hb dX5_chargeFurnace_91 rfl (lv_at hl 3 rfl) ?_
            refine lv_aload_n (pc := 92) hx hb dX5_chargeFurnace_92 rfl (lv_at hl 2 rfl) ?_
            refine lv_aload_n (pc := 93) hx hb dX5_chargeFurnace_93 rfl (lv_at hl 1 rfl) ?_
            refine gX5_125 (pc := 94) C hK hP hk8 dX5_chargeFurnace_94 ?_
            refine m_callVR (pc := 97) (y := yX5_dieAt) (κ := 5) (As := [.int (M21.1 j7 1)]) (rest := [.ref (b + x1)]) C hK hP hS hl.1 ⟨Nat.zero_le _, Nat.zero_le _⟩ (c_X5_dieAt h) rfl rfl hk5 (by decide) rfl q_355 q_356 q_357 q_2 q_358 ⟨rfl, rfl⟩ yd_X5_dieAt ⟨Nat.le_of_ble_eq_true rfl, Nat.le_of_ble_eq_true rfl⟩ (Nat.le_of_ble_eq_true rfl) dX5_chargeFurnace_97 (fun j23 M22 H locs h hP hS => ?_)
            obtain ⟨hk24, h⟩ := h
            refine gX5_239 (pc := 100) C hK hP hk24 dX5_chargeFurnace_100 ?_
            refine pX5_240 (pc := 103) (v := M22.1 j23 0) C hK hP hS hk18 dX5_chargeFurnace_103 (fun M25 H locs eM25 hP hS => ?_)
            replace h := h M25 eM25
            exact m_vret (pc := 106) C hr hlk hP hS dX5_chargeFurnace_106 h
  unfold wp_X5_chargeFurnace at h
  refine lv_aload_n (pc := 0) hx hb dX5_chargeFurnace_0 rfl (lv_at hl 0 rfl) ?_
  obtain ⟨hk2, h⟩ := h
  refine m_callVO (pc := 1) (y := yX5_freePlace) (κ := 5) (As := []) (rest := []) C hK hP hS hl.1 ⟨Nat.zero_le _, Nat.zero_le _⟩ (c_X5_freePlace h) rfl rfl hk2 (by decide) rfl q_656 q_658 q_s15 q_2 q_659 ⟨rfl, rfl⟩ yd_X5_freePlace ⟨Nat.le_of_ble_eq_true rfl, Nat.le_of_ble_eq_true rfl⟩ (Nat.le_of_ble_eq_true rfl) dX5_chargeFurnace_1 (fun o3 M1 H locs h hP hS => ?_)
  refine m_astO_n (lv' := [(1, va_rf ((o3).map (fun j => b + j))), (0, .ref (b + i))]) hx hb (pc := 4) dX5_chargeFurnace_4 rfl hl (by decide) rfl (fun ls hl => ?_)
  refine m_aldO_n hx hb (pc := 5) dX5_chargeFurnace_5 rfl (lv_at hl 0 rfl) ?_
  rcases eo : o3 with _ | j4
  · replace h := h.1 eo
    refine lv_ifnonnullN (pc := 6) hx hb dX5_chargeFurnace_6 ?_
    try rw [eo] at hl
    exact m_vret (pc := 9) C hr hlk hP hS dX5_chargeFurnace_9 h
  · replace h := h.2 j4 eo
    refine lv_ifnonnull (tgt := 10) (pc := 6) hx hb dX5_chargeFurnace_6 (by decide) ?_
    try rw [eo] at hl
    refine lv_iconst (v := 0) (pc := 10) hx hb dX5_chargeFurnace_10 (by decide) ?_
    refine lv_istore_n (lv' := [(2, .int 0), (1, .ref (b + j4)), (0, .ref (b + i))]) (pc := 11) hx hb dX5_chargeFurnace_11 rfl hl (by decide) rfl (fun ls hl => ?_)
    obtain ⟨f, h⟩ := h
    exact L12 f _ _ _ _ _ _ _ h hP hS (lv_sub hl [2, 1, 0] rfl)
/-! ForgeHeats$Shop.loadPress ()V -/
def wpB_X5_loadPress_2 (n : Nat) (P : Mem → Prop) (R_ : Mem → Nat → Int32 → Prop) (M : Mem) (x0 : Nat) (x1 : Int32) : Prop := m_tp n x0 5 ∧ ((((M.1 x0 5) ≤ x1 → P M) ∧ (¬ (M.1 x0 5) ≤ x1 → wp_X5_jobAt n M x0 x1 (fun j3 M2 => m_tp n j3 3 ∧ ((((M2.1 j3 7) ≤ 0 → ∀ v5 : Int32, v5 = x1 + 1 → (R_ M2 x0 v5)) ∧ (¬ (M2.1 j3 7) ≤ 0 → wp_X5_dieAt n M2 x0 (M2.1 j3 1) (fun j7 M6 => m_tp n j7 1 ∧ (wp_X1_canForge n M6 j7 (fun z10 M8 => ((z10 = false → ∀ v11 : Int32, v11 = x1 + 1 → (R_ M8 x0 v11)) ∧ (z10 = true → wp_X5_hottestReady n M8 x0 j3 (fun o13 M12 => ((o13 = none → ∀ v15 : Int32, v15 = x1 + 1 → (R_ M12 x0 v15)) ∧ (∀ j14 : Nat, o13 = some j14 → ∃ j16 : Nat, M12.2.1 x0 4 = some j16 ∧ (m_tp n j16 0 ∧ (wp_X0_copyFrom n M12 j16 j14 (fun M17 => m_tp n j14 0 ∧ (∀ M21 : Mem, M21 = uI M17 j14 0 (-1) → (P M21))))))))))))))))))))
def wpL_X5_loadPress_2 (n : Nat) (P : Mem → Prop) : Nat → Mem → Nat → Int32 → Prop
  | 0 => fun _ _ _ => False
  | f + 1 => fun M x0 x1 => wpB_X5_loadPress_2 n P (wpL_X5_loadPress_2 n P f) M x0 x1
def wp_X5_loadPress (n : Nat) (M : Mem) (i : Nat) (P : Mem → Prop) : Prop := ∃ f : Nat, wpL_X5_loadPress_2 n P f M i 0
abbrev rm_X5_loadPress : Room := { frames := 2, cells := 0, slots := 0, locals := 49 }
set_option maxHeartbeats 4000000 in
set_option maxRecDepth 100000 in
theorem c_X5_loadPress {l : Launch} {D : va_G} {cA : Nat → ClassId} {b n : Nat} {M : Mem} {i : Nat} {P : Mem → Prop} (h : wp_X5_loadPress n M i P) : m_C l D cA b n n M yX5_loadPress cX5_loadPress 4 none rm_X5_loadPress 0 0 [.ref (b + i)] (rV P) := by
  refine m_enter (by decide) (Nat.le_of_ble_eq_true rfl) (fun p e s m below meth c C hr hlk hnm hK hP hS ls hl => ?_)
  have hx := C.1
  have hb := C.2.1
  have hl : lv_has ls 4 [(0, .ref (b + i))] := hl
  have L2 : ∀ f : Nat, ∀ (M : Mem) (H : Heap) (locs : List Loc) (ls : Array Slot) (x0 : Nat) (x1 : Int32), wpL_X5_loadPress_2 n P f M x0 x1 → m_H D cA b n M H → va_S (m_A b) s.heap H locs → lv_has ls 4 [(0, .ref (b + x0)), (1, .int x1)] → W p l e rm_X5_loadPress s m ([.ref (b + i)] : List Value).toArray below meth c H locs 0 0 (MQ below (m_Q D cA b n (rV P)) ([.ref (b + i)] : List Value).toArray s 0 0 (m_A b)) (F0 m 2 ls []) := by
    clear h
    intro f
    induction f with
    | zero => intro M H locs ls x0 x1 h; exact h.elim
    | succ f ih =>
      intro M H locs ls x0 x1 h hP hS hl
      have h : wpB_X5_loadPress_2 n P (wpL_X5_loadPress_2 n P f) M x0 x1 := h
      unfold wpB_X5_loadPress_2 at h
      refine lv_iload_n (pc := 2) hx hb dX5_loadPress_2 rfl (lv_at hl 1 rfl) ?_
      refine lv_aload_n (pc := 3) hx hb dX5_loadPress_3 rfl (lv_at hl 0 rfl) ?_
      obtain ⟨hk1, h⟩ := h
      refine gX5_83 (pc := 4) C hK hP hk1 dX5_loadPress_4 ?_
      refine lv_icmp_ge (tgt := 67) (pc := 7) hx hb dX5_loadPress_7 (by decide) (fun c7 => ?_) (fun c7 => ?_)
      · replace h := h.1 c7
        exact m_vret (pc := 67) C hr hlk hP hS dX5_loadPress_67 h
      · replace h := h.2 c7
        refine lv_aload_n (pc := 10) hx hb dX5_loadPress_10 rfl (lv_at hl 0 rfl) ?_
        refine lv_iload_n (pc := 11) hx hb dX5_loadPress_11 rfl (lv_at hl 1 rfl) ?_
        refine m_callVR (pc := 12) (y := yX5_jobAt) (κ := 5) (As := [.int x1]) (rest := []) C hK hP hS hl.1 ⟨Nat.zero_le _, Nat.zero_le _⟩ (c_X5_jobAt h) rfl rfl hk1 (by decide) rfl q_363 q_364 q_365 q_2 q_366 ⟨rfl, rfl⟩ yd_X5_jobAt ⟨Nat.le_of_ble_eq_true rfl, Nat.le_of_ble_eq_true rfl⟩ (Nat.le_of_ble_eq_true rfl) dX5_loadPress_12 (fun j3 M2 H locs h hP hS => ?_)
        refine lv_astore_n (lv' := [(2, .ref (b + j3)), (0, .ref (b + x0)), (1, .int x1)]) (pc := 15) hx hb dX5_loadPress_15 rfl hl (by decide) rfl (fun ls hl => ?_)
        refine lv_aload_n (pc := 16) hx hb dX5_loadPress_16 rfl (lv_at hl 0 rfl) ?_
        obtain ⟨hk4, h⟩ := h
        refine gX5_144 (pc := 17) C hK hP hk4 dX5_loadPress_17 ?_
        refine lv_if_le (tgt := 61) (pc := 20) hx hb dX5_loadPress_20 (by decide) (fun c20 => ?_) (fun c20 => ?_)
        · replace h := h.1 c20
          obtain ⟨v5, ev5⟩ : ∃ y : Int32, y = x1 + 1 := ⟨_, rfl⟩
          replace h := h v5 ev5
          refine lv_iinc (v := v5) (lv' := [(1, .int v5), (2, .ref (b + j3)), (0, .ref (b + x0))]) (pc := 61) hx hb dX5_loadPress_61 hl (k := 2) rfl (by rw [ev5]; rfl) (by decide) rfl (fun ls hl => ?_)
          refine lv_goto (tgt := 2) (pc := 64) hx hb dX5_loadPress_64 (by decide) ?_
          exact ih _ _ _ _ _ _ h hP hS (lv_sub hl [2, 0] rfl)
        · replace h := h.2 c20
          refine lv_aload_n (pc := 23) hx hb dX5_loadPress_23 rfl (lv_at hl 1 rfl) ?_
          refine lv_aload_n (pc := 24) hx hb dX5_loadPress_24 rfl (lv_at hl 0 rfl) ?_
          refine gX5_125 (pc := 25) C hK hP hk4 dX5_loadPress_25 ?_
          refine m_callVR (pc := 28) (y := yX5_dieAt) (κ := 5) (As := [.int (M2.1 j3 1)]) (rest := []) C hK hP hS hl.1 ⟨Nat.zero_le _, Nat.zero_le _⟩ (c_X5_dieAt h) rfl rfl hk1 (by decide) rfl q_355 q_356 q_357 q_2 q_358 ⟨rfl, rfl⟩ yd_X5_dieAt ⟨Nat.le_of_ble_eq_true rfl, Nat.le_of_ble_eq_true rfl⟩ (Nat.le_of_ble_eq_true rfl) dX5_loadPress_28 (fun j7 M6 H locs h hP hS => ?_)
          obtain ⟨hk9, h⟩ := h
          refine m_callVZ (pc := 31) (y := yX1_canForge) (κ := 1) (As := []) (rest := []) C hK hP hS hl.1 ⟨Nat.zero_le _, Nat.zero_le _⟩ (c_X1_canForge h) rfl rfl hk9 (by decide) rfl q_664 q_665 q_666 q_4 q_667 ⟨rfl, rfl⟩ yd_X1_canForge ⟨Nat.le_of_ble_eq_true rfl, Nat.le_of_ble_eq_true rfl⟩ (Nat.le_of_ble_eq_true rfl) dX5_loadPress_31 (fun z10 M8 H locs h hP hS => ?_)
          refine lv_if_eq (tgt := 61) (pc := 34) hx hb dX5_loadPress_34 (by decide) (fun c34 => ?_) (fun c34 => ?_)
          · replace h := h.1 (bZ0 c34)
            obtain ⟨v11, ev11⟩ : ∃ y : Int32, y = x1 + 1 := ⟨_, rfl⟩
            replace h := h v11 ev11
            refine lv_iinc (v := v11) (lv' := [(1, .int v11), (2, .ref (b + j3)), (0, .ref (b + x0))]) (pc := 61) hx hb dX5_loadPress_61 hl (k := 2) rfl (by rw [ev11]; rfl) (by decide) rfl (fun ls hl => ?_)
            refine lv_goto (tgt := 2) (pc := 64) hx hb dX5_loadPress_64 (by decide) ?_
            exact ih _ _ _ _ _ _ h hP hS (lv_sub hl [2, 0] rfl)
          · replace h := h.2 (bZ1 c34)
            refine lv_aload_n (pc := 37) hx hb dX5_loadPress_37 rfl (lv_at hl 1 rfl) ?_
            refine lv_aload_n (pc := 38) hx hb dX5_loadPress_38 rfl (lv_at hl 0 rfl) ?_
            refine m_callVO (pc := 39) (y := yX5_hottestReady) (κ := 5) (As := [.ref (b + j3)]) (rest := []) C hK hP hS hl.1 ⟨Nat.zero_le _, Nat.zero_le _⟩ (c_X5_hottestReady h) rfl rfl hk1 (by decide) rfl q_525 q_527 q_s7 q_2 q_528 ⟨rfl, rfl⟩ yd_X5_hottestReady ⟨Nat.le_of_ble_eq_true rfl, Nat.le_of_ble_eq_true rfl⟩ (Nat.le_of_ble_eq_true rfl) dX5_loadPress_39 (fun o13 M12 H locs h hP hS => ?_)
            refine m_astO_n (lv' := [(3, va_rf ((o13).map (fun j => b + j))), (2, .ref (b + j3)), (0, .ref (b + x0)), (1, .int x1)]) hx hb (pc := 42) dX5_loadPress_42 rfl hl (by decide) rfl (fun ls hl => ?_)
            refine m_aldO_n hx hb (pc := 43) dX5_loadPress_43 rfl (lv_at hl 0 rfl) ?_
            rcases eo : o13 with _ | j14
            · replace h := h.1 eo
              refine lv_ifnullN (tgt := 61) (pc := 44) hx hb dX5_loadPress_44 (by decide) ?_
              try rw [eo] at hl
              obtain ⟨v15, ev15⟩ : ∃ y : Int32, y = x1 + 1 := ⟨_, rfl⟩
              replace h := h v15 ev15
              refine lv_iinc (v := v15) (lv' := [(1, .int v15), (3, .null), (2, .ref (b + j3)), (0, .ref (b + x0))]) (pc := 61) hx hb dX5_loadPress_61 hl (k := 3) rfl (by rw [ev15]; rfl) (by decide) rfl (fun ls hl => ?_)
              refine lv_goto (tgt := 2) (pc := 64) hx hb dX5_loadPress_64 (by decide) ?_
              exact ih _ _ _ _ _ _ h hP hS (lv_sub hl [3, 0] rfl)
            · replace h := h.2 j14 eo
              refine lv_ifnull (pc := 44) hx hb dX5_loadPress_44 ?_
              try rw [eo] at hl
              refine lv_aload_n (pc := 47) hx hb dX5_loadPress_47 rfl (lv_at hl 2 rfl) ?_
              obtain ⟨j16, hj16, h⟩ := h
              refine gX5_52 (pc := 48) C hK hP hk1 hj16 dX5_loadPress_48 ?_
              refine lv_aload_n (pc := 51) hx hb dX5_loadPress_51 rfl (lv_at hl 0 rfl) ?_
              obtain ⟨hk18, h⟩ := h
              refine m_callVV (pc := 52) (y := yX0_copyFrom) (κ := 0) (As := [.ref (b + j14)]) (rest := []) C hK hP hS hl.1 ⟨Nat.zero_le _, Nat.zero_le _⟩ (c_X0_copyFrom h) rfl rfl hk18 (by decide) rfl q_375 q_376 q_377 q_6 q_378 ⟨rfl, rfl⟩ yd_X0_copyFrom ⟨Nat.le_of_ble_eq_true rfl, Nat.le_of_ble_eq_true rfl⟩ (Nat.le_of_ble_eq_true rfl) dX5_loadPress_52 (fun M17 H locs h hP hS => ?_)
              refine lv_aload_n (pc := 55) hx hb dX5_loadPress_55 rfl (lv_at hl 0 rfl) ?_
              refine lv_iconst (v := -1) (pc := 56) hx hb dX5_loadPress_56 (by decide) ?_
              obtain ⟨hk20, h⟩ := h
              refine pX5_159 (pc := 57) (v := (-1)) C hK hP hS hk20 dX5_loadPress_57 (fun M21 H locs eM21 hP hS => ?_)
              replace h := h M21 eM21
              exact m_vret (pc := 60) C hr hlk hP hS dX5_loadPress_60 h
  unfold wp_X5_loadPress at h
  refine lv_iconst (v := 0) (pc := 0) hx hb dX5_loadPress_0 (by decide) ?_
  refine lv_istore_n (lv' := [(1, .int 0), (0, .ref (b + i))]) (pc := 1) hx hb dX5_loadPress_1 rfl hl (by decide) rfl (fun ls hl => ?_)
  obtain ⟨f, h⟩ := h
  exact L2 f _ _ _ _ _ _ h hP hS (lv_sub hl [1, 0] rfl)
/-! ForgeHeats$Shop.sendBack (LForgeHeats$Job;LForgeHeats$Heat;)V -/
def wp_X5_sendBack (n : Nat) (M : Mem) (i : Nat) (p1 : Nat) (p2 : Nat) (P : Mem → Prop) : Prop := m_tp n i 5 ∧ (∃ j2 : Nat, M.2.1 i 4 = some j2 ∧ (m_tp n j2 0 ∧ (∀ M4 : Mem, M4 = uI M j2 2 ((M.1 j2 2) + 1) → (wp_X5_freePlace n M4 i (fun o6 M5 => ((o6 = none → m_tp n p1 3 ∧ (∀ M9 : Mem, M9 = uI M5 p1 7 ((M5.1 p1 7) - 1) → (m_tp n p2 2 ∧ (∀ M11 : Mem, M11 = uI M9 p2 4 ((M9.1 p2 4) + 1) → (∃ j12 : Nat, M11.2.1 i 4 = some j12 ∧ (m_tp n j12 0 ∧ (∀ M14 : Mem, M14 = uI M11 j12 0 (-1) → (P M14)))))))) ∧ (∀ j7 : Nat, o6 = some j7 → ∃ j15 : Nat, M5.2.1 i 4 = some j15 ∧ (m_tp n j15 0 ∧ ((((M5.1 j15 2) ≤ (M5.1 i 9) → ∃ j17 : Nat, M5.2.1 i 4 = some j17 ∧ (m_tp n j7 0 ∧ (wp_X0_copyFrom n M5 j7 j17 (fun M18 => ∃ j21 : Nat, M18.2.1 i 4 = some j21 ∧ (m_tp n j21 0 ∧ (∀ M23 : Mem, M23 = uI M18 j21 0 (-1) → (P M23))))))) ∧ (¬ (M5.1 j15 2) ≤ (M5.1 i 9) → m_tp n p1 3 ∧ (∀ M25 : Mem, M25 = uI M5 p1 7 ((M5.1 p1 7) - 1) → (m_tp n p2 2 ∧ (∀ M27 : Mem, M27 = uI M25 p2 4 ((M25.1 p2 4) + 1) → (∃ j28 : Nat, M27.2.1 i 4 = some j28 ∧ (m_tp n j28 0 ∧ (∀ M30 : Mem, M30 = uI M27 j28 0 (-1) → (P M30))))))))))))))))))
abbrev rm_X5_sendBack : Room := { frames := 1, cells := 0, slots := 0, locals := 24 }
set_option maxHeartbeats 4000000 in
set_option maxRecDepth 100000 in
theorem c_X5_sendBack {l : Launch} {D : va_G} {cA : Nat → ClassId} {b n : Nat} {M : Mem} {i : Nat} {p1 : Nat} {p2 : Nat} {P : Mem → Prop} (h : wp_X5_sendBack n M i p1 p2 P) : m_C l D cA b n n M yX5_sendBack cX5_sendBack 4 none rm_X5_sendBack 0 0 [.ref (b + i), .ref (b + p1), .ref (b + p2)] (rV P) := by
  refine m_enter (by decide) (Nat.le_of_ble_eq_true rfl) (fun p e s m below meth c C hr hlk hnm hK hP hS ls hl => ?_)
  have hx := C.1
  have hb := C.2.1
  have hl : lv_has ls 4 [(0, .ref (b + i)), (1, .ref (b + p1)), (2, .ref (b + p2))] := hl
  unfold wp_X5_sendBack at h
  refine lv_aload_n (pc := 0) hx hb dX5_sendBack_0 rfl (lv_at hl 0 rfl) ?_
  obtain ⟨hk1, h⟩ := h
  obtain ⟨j2, hj2, h⟩ := h
  refine gX5_52 (pc := 1) C hK hP hk1 hj2 dX5_sendBack_1 ?_
  refine lv_dup (pc := 4) hx hb dX5_sendBack_4 rfl ?_
  obtain ⟨hk3, h⟩ := h
  refine gX5_238 (pc := 5) C hK hP hk3 dX5_sendBack_5 ?_
  refine lv_iconst (v := 1) (pc := 8) hx hb dX5_sendBack_8 (by decide) ?_
  refine lv_iadd (pc := 9) hx hb dX5_sendBack_9 ?_
  refine pX5_238 (pc := 10) (v := (M.1 j2 2) + 1) C hK hP hS hk3 dX5_sendBack_10 (fun M4 H locs eM4 hP hS => ?_)
  replace h := h M4 eM4
  refine lv_aload_n (pc := 13) hx hb dX5_sendBack_13 rfl (lv_at hl 0 rfl) ?_
  refine m_callVO (pc := 14) (y := yX5_freePlace) (κ := 5) (As := []) (rest := []) C hK hP hS hl.1 ⟨Nat.zero_le _, Nat.zero_le _⟩ (c_X5_freePlace h) rfl rfl hk1 (by decide) rfl q_656 q_658 q_s15 q_2 q_659 ⟨rfl, rfl⟩ yd_X5_freePlace ⟨Nat.le_of_ble_eq_true rfl, Nat.le_of_ble_eq_true rfl⟩ (Nat.le_of_ble_eq_true rfl) dX5_sendBack_14 (fun o6 M5 H locs h hP hS => ?_)
  refine m_astO_n (lv' := [(3, va_rf ((o6).map (fun j => b + j))), (0, .ref (b + i)), (1, .ref (b + p1)), (2, .ref (b + p2))]) hx hb (pc := 17) dX5_sendBack_17 rfl hl (by decide) rfl (fun ls hl => ?_)
  refine m_aldO_n hx hb (pc := 18) dX5_sendBack_18 rfl (lv_at hl 0 rfl) ?_
  rcases eo : o6 with _ | j7
  · replace h := h.1 eo
    refine lv_ifnullN (tgt := 36) (pc := 19) hx hb dX5_sendBack_19 (by decide) ?_
    try rw [eo] at hl
    refine lv_aload_n (pc := 36) hx hb dX5_sendBack_36 rfl (lv_at hl 2 rfl) ?_
    refine lv_dup (pc := 37) hx hb dX5_sendBack_37 rfl ?_
    obtain ⟨hk8, h⟩ := h
    refine gX5_144 (pc := 38) C hK hP hk8 dX5_sendBack_38 ?_
    refine lv_iconst (v := 1) (pc := 41) hx hb dX5_sendBack_41 (by decide) ?_
    refine lv_isub (pc := 42) hx hb dX5_sendBack_42 ?_
    refine pX5_144 (pc := 43) (v := (M5.1 p1 7) - 1) C hK hP hS hk8 dX5_sendBack_43 (fun M9 H locs eM9 hP hS => ?_)
    replace h := h M9 eM9
    refine lv_aload_n (pc := 46) hx hb dX5_sendBack_46 rfl (lv_at hl 3 rfl) ?_
    refine lv_dup (pc := 47) hx hb dX5_sendBack_47 rfl ?_
    obtain ⟨hk10, h⟩ := h
    refine gX5_162 (pc := 48) C hK hP hk10 dX5_sendBack_48 ?_
    refine lv_iconst (v := 1) (pc := 51) hx hb dX5_sendBack_51 (by decide) ?_
    refine lv_iadd (pc := 52) hx hb dX5_sendBack_52 ?_
    refine pX5_162 (pc := 53) (v := (M9.1 p2 4) + 1) C hK hP hS hk10 dX5_sendBack_53 (fun M11 H locs eM11 hP hS => ?_)
    replace h := h M11 eM11
    refine lv_goto (tgt := 67) (pc := 56) hx hb dX5_sendBack_56 (by decide) ?_
    refine lv_aload_n (pc := 67) hx hb dX5_sendBack_67 rfl (lv_at hl 1 rfl) ?_
    obtain ⟨j12, hj12, h⟩ := h
    refine gX5_52 (pc := 68) C hK hP hk1 hj12 dX5_sendBack_68 ?_
    refine lv_iconst (v := -1) (pc := 71) hx hb dX5_sendBack_71 (by decide) ?_
    obtain ⟨hk13, h⟩ := h
    refine pX5_159 (pc := 72) (v := (-1)) C hK hP hS hk13 dX5_sendBack_72 (fun M14 H locs eM14 hP hS => ?_)
    replace h := h M14 eM14
    exact m_vret (pc := 75) C hr hlk hP hS dX5_sendBack_75 h
  · replace h := h.2 j7 eo
    refine lv_ifnull (pc := 19) hx hb dX5_sendBack_19 ?_
    try rw [eo] at hl
    refine lv_aload_n (pc := 22) hx hb dX5_sendBack_22 rfl (lv_at hl 1 rfl) ?_
    obtain ⟨j15, hj15, h⟩ := h
    refine gX5_52 (pc := 23) C hK hP hk1 hj15 dX5_sendBack_23 ?_
    obtain ⟨hk16, h⟩ := h
    refine gX5_238 (pc := 26) C hK hP hk16 dX5_sendBack_26 ?_
    refine lv_aload_n (pc := 29) hx hb dX5_sendBack_29 rfl (lv_at hl 1 rfl) ?_
    refine gX5_18 (pc := 30) C hK hP hk1 dX5_sendBack_30 ?_
    refine lv_icmp_le (tgt := 59) (pc := 33) hx hb dX5_sendBack_33 (by decide) (fun c33 => ?_) (fun c33 => ?_)
    · replace h := h.1 c33
      refine lv_aload_n (pc := 59) hx hb dX5_sendBack_59 rfl (lv_at hl 0 rfl) ?_
      refine lv_aload_n (pc := 60) hx hb dX5_sendBack_60 rfl (lv_at hl 1 rfl) ?_
      obtain ⟨j17, hj17, h⟩ := h
      refine gX5_52 (pc := 61) C hK hP hk1 hj17 dX5_sendBack_61 ?_
      obtain ⟨hk19, h⟩ := h
      refine m_callVV (pc := 64) (y := yX0_copyFrom) (κ := 0) (As := [.ref (b + j17)]) (rest := []) C hK hP hS hl.1 ⟨Nat.zero_le _, Nat.zero_le _⟩ (c_X0_copyFrom h) rfl rfl hk19 (by decide) rfl q_375 q_376 q_377 q_6 q_378 ⟨rfl, rfl⟩ yd_X0_copyFrom ⟨Nat.le_of_ble_eq_true rfl, Nat.le_of_ble_eq_true rfl⟩ (Nat.le_of_ble_eq_true rfl) dX5_sendBack_64 (fun M18 H locs h hP hS => ?_)
      refine lv_aload_n (pc := 67) hx hb dX5_sendBack_67 rfl (lv_at hl 1 rfl) ?_
      obtain ⟨j21, hj21, h⟩ := h
      refine gX5_52 (pc := 68) C hK hP hk1 hj21 dX5_sendBack_68 ?_
      refine lv_iconst (v := -1) (pc := 71) hx hb dX5_sendBack_71 (by decide) ?_
      obtain ⟨hk22, h⟩ := h
      refine pX5_159 (pc := 72) (v := (-1)) C hK hP hS hk22 dX5_sendBack_72 (fun M23 H locs eM23 hP hS => ?_)
      replace h := h M23 eM23
      exact m_vret (pc := 75) C hr hlk hP hS dX5_sendBack_75 h
    · replace h := h.2 c33
      refine lv_aload_n (pc := 36) hx hb dX5_sendBack_36 rfl (lv_at hl 2 rfl) ?_
      refine lv_dup (pc := 37) hx hb dX5_sendBack_37 rfl ?_
      obtain ⟨hk24, h⟩ := h
      refine gX5_144 (pc := 38) C hK hP hk24 dX5_sendBack_38 ?_
      refine lv_iconst (v := 1) (pc := 41) hx hb dX5_sendBack_41 (by decide) ?_
      refine lv_isub (pc := 42) hx hb dX5_sendBack_42 ?_
      refine pX5_144 (pc := 43) (v := (M5.1 p1 7) - 1) C hK hP hS hk24 dX5_sendBack_43 (fun M25 H locs eM25 hP hS => ?_)
      replace h := h M25 eM25
      refine lv_aload_n (pc := 46) hx hb dX5_sendBack_46 rfl (lv_at hl 3 rfl) ?_
      refine lv_dup (pc := 47) hx hb dX5_sendBack_47 rfl ?_
      obtain ⟨hk26, h⟩ := h
      refine gX5_162 (pc := 48) C hK hP hk26 dX5_sendBack_48 ?_
      refine lv_iconst (v := 1) (pc := 51) hx hb dX5_sendBack_51 (by decide) ?_
      refine lv_iadd (pc := 52) hx hb dX5_sendBack_52 ?_
      refine pX5_162 (pc := 53) (v := (M25.1 p2 4) + 1) C hK hP hS hk26 dX5_sendBack_53 (fun M27 H locs eM27 hP hS => ?_)
      replace h := h M27 eM27
      refine lv_goto (tgt := 67) (pc := 56) hx hb dX5_sendBack_56 (by decide) ?_
      refine lv_aload_n (pc := 67) hx hb dX5_sendBack_67 rfl (lv_at hl 1 rfl) ?_
      obtain ⟨j28, hj28, h⟩ := h
      refine gX5_52 (pc := 68) C hK hP hk1 hj28 dX5_sendBack_68 ?_
      refine lv_iconst (v := -1) (pc := 71) hx hb dX5_sendBack_71 (by decide) ?_
      obtain ⟨hk29, h⟩ := h
      refine pX5_159 (pc := 72) (v := (-1)) C hK hP hS hk29 dX5_sendBack_72 (fun M30 H locs eM30 hP hS => ?_)
      replace h := h M30 eM30
      exact m_vret (pc := 75) C hr hlk hP hS dX5_sendBack_75 h
/-! ForgeHeats$Shop.countGone (LForgeHeats$Job;)V -/
def wp_X5_countGone (n : Nat) (M : Mem) (i : Nat) (p1 : Nat) (P : Mem → Prop) : Prop := m_tp n i 5 ∧ (∀ M2 : Mem, M2 = uI M i 13 ((M.1 i 13) + 1) → (m_tp n p1 3 ∧ (∀ v4 : Int32, v4 = ((M2.1 i 11) - (M2.1 p1 5)) → (((v4 ≤ 0 → P M2) ∧ (¬ v4 ≤ 0 → ∀ M5 : Mem, M5 = uI M2 i 14 ((M2.1 i 14) + 1) → (∀ M6 : Mem, M6 = uI M5 i 15 ((M5.1 i 15) + v4) → (P M6))))))))
abbrev rm_X5_countGone : Room := { frames := 0, cells := 0, slots := 0, locals := 0 }
set_option maxHeartbeats 4000000 in
set_option maxRecDepth 100000 in
theorem c_X5_countGone {l : Launch} {D : va_G} {cA : Nat → ClassId} {b n : Nat} {M : Mem} {i : Nat} {p1 : Nat} {P : Mem → Prop} (h : wp_X5_countGone n M i p1 P) : m_C l D cA b n n M yX5_countGone cX5_countGone 3 none rm_X5_countGone 0 0 [.ref (b + i), .ref (b + p1)] (rV P) := by
  refine m_enter (by decide) (Nat.le_of_ble_eq_true rfl) (fun p e s m below meth c C hr hlk hnm hK hP hS ls hl => ?_)
  have hx := C.1
  have hb := C.2.1
  have hl : lv_has ls 3 [(0, .ref (b + i)), (1, .ref (b + p1))] := hl
  unfold wp_X5_countGone at h
  refine lv_aload_n (pc := 0) hx hb dX5_countGone_0 rfl (lv_at hl 0 rfl) ?_
  refine lv_dup (pc := 1) hx hb dX5_countGone_1 rfl ?_
  obtain ⟨hk1, h⟩ := h
  refine gX5_113 (pc := 2) C hK hP hk1 dX5_countGone_2 ?_
  refine lv_iconst (v := 1) (pc := 5) hx hb dX5_countGone_5 (by decide) ?_
  refine lv_iadd (pc := 6) hx hb dX5_countGone_6 ?_
  refine pX5_113 (pc := 7) (v := (M.1 i 13) + 1) C hK hP hS hk1 dX5_countGone_7 (fun M2 H locs eM2 hP hS => ?_)
  replace h := h M2 eM2
  refine lv_aload_n (pc := 10) hx hb dX5_countGone_10 rfl (lv_at hl 0 rfl) ?_
  refine gX5_107 (pc := 11) C hK hP hk1 dX5_countGone_11 ?_
  refine lv_aload_n (pc := 14) hx hb dX5_countGone_14 rfl (lv_at hl 1 rfl) ?_
  obtain ⟨hk3, h⟩ := h
  refine gX5_137 (pc := 15) C hK hP hk3 dX5_countGone_15 ?_
  refine lv_isub (pc := 18) hx hb dX5_countGone_18 ?_
  refine lv_topi (fun v4 ev4 => ?_)
  replace h := h v4 ev4
  refine lv_istore_n (lv' := [(2, .int v4), (0, .ref (b + i)), (1, .ref (b + p1))]) (pc := 19) hx hb dX5_countGone_19 rfl hl (by decide) rfl (fun ls hl => ?_)
  refine lv_iload_n (pc := 20) hx hb dX5_countGone_20 rfl (lv_at hl 0 rfl) ?_
  refine lv_if_le (tgt := 44) (pc := 21) hx hb dX5_countGone_21 (by decide) (fun c21 => ?_) (fun c21 => ?_)
  · replace h := h.1 c21
    exact m_vret (pc := 44) C hr hlk hP hS dX5_countGone_44 h
  · replace h := h.2 c21
    refine lv_aload_n (pc := 24) hx hb dX5_countGone_24 rfl (lv_at hl 1 rfl) ?_
    refine lv_dup (pc := 25) hx hb dX5_countGone_25 rfl ?_
    refine gX5_116 (pc := 26) C hK hP hk1 dX5_countGone_26 ?_
    refine lv_iconst (v := 1) (pc := 29) hx hb dX5_countGone_29 (by decide) ?_
    refine lv_iadd (pc := 30) hx hb dX5_countGone_30 ?_
    refine pX5_116 (pc := 31) (v := (M2.1 i 14) + 1) C hK hP hS hk1 dX5_countGone_31 (fun M5 H locs eM5 hP hS => ?_)
    replace h := h M5 eM5
    refine lv_aload_n (pc := 34) hx hb dX5_countGone_34 rfl (lv_at hl 1 rfl) ?_
    refine lv_dup (pc := 35) hx hb dX5_countGone_35 rfl ?_
    refine gX5_119 (pc := 36) C hK hP hk1 dX5_countGone_36 ?_
    refine lv_iload_n (pc := 39) hx hb dX5_countGone_39 rfl (lv_at hl 0 rfl) ?_
    refine lv_iadd (pc := 40) hx hb dX5_countGone_40 ?_
    refine pX5_119 (pc := 41) (v := (M5.1 i 15) + v4) C hK hP hS hk1 dX5_countGone_41 (fun M6 H locs eM6 hP hS => ?_)
    replace h := h M6 eM6
    exact m_vret (pc := 44) C hr hlk hP hS dX5_countGone_44 h
/-! ForgeHeats$Shop.tendDies ()V -/
def wpB_X5_tendDies_30 (n : Nat) (P : Mem → Prop) (R_ : Mem → Nat → Int32 → Prop) (M : Mem) (x0 : Nat) (x2 : Int32) : Prop := ((5 ≤ x2 → P M) ∧ (¬ 5 ≤ x2 → m_tp n x0 5 ∧ (wp_X5_dieAt n M x0 x2 (fun j6 M4 => m_tp n j6 1 ∧ (wp_X1_isWornOut n M4 j6 (fun z9 M7 => ((z9 = false → ∀ v10 : Int32, v10 = x2 + 1 → (R_ M7 x0 v10)) ∧ (z9 = true → ∀ M11 : Mem, M11 = uI M7 j6 3 (M7.1 x0 10) → (P M11)))))))))
def wpL_X5_tendDies_30 (n : Nat) (P : Mem → Prop) : Nat → Mem → Nat → Int32 → Prop
  | 0 => fun _ _ _ => False
  | f + 1 => fun M x0 x2 => wpB_X5_tendDies_30 n P (wpL_X5_tendDies_30 n P f) M x0 x2
def wp_X5_tendDies (n : Nat) (M : Mem) (i : Nat) (P : Mem → Prop) : Prop := m_tp n i 5 ∧ (wp_X5_dieBeingGround n M i (fun r3 M1 => ((r3 = (-1) → ∃ f : Nat, wpL_X5_tendDies_30 n P f M1 i 0) ∧ (¬ r3 = (-1) → wp_X5_dieAt n M1 i r3 (fun j13 M12 => m_tp n j13 1 ∧ (wp_X1_grindMinute n M12 j13 (fun M14 => wp_X1_isBeingGround n M14 j13 (fun z18 M17 => ((z18 = false → ∃ f : Nat, wpL_X5_tendDies_30 n P f M17 i 0) ∧ (z18 = true → P M17))))))))))
abbrev rm_X5_tendDies : Room := { frames := 2, cells := 0, slots := 0, locals := 43 }
set_option maxHeartbeats 4000000 in
set_option maxRecDepth 100000 in
theorem c_X5_tendDies {l : Launch} {D : va_G} {cA : Nat → ClassId} {b n : Nat} {M : Mem} {i : Nat} {P : Mem → Prop} (h : wp_X5_tendDies n M i P) : m_C l D cA b n n M yX5_tendDies cX5_tendDies 4 none rm_X5_tendDies 0 0 [.ref (b + i)] (rV P) := by
  refine m_enter (by decide) (Nat.le_of_ble_eq_true rfl) (fun p e s m below meth c C hr hlk hnm hK hP hS ls hl => ?_)
  have hx := C.1
  have hb := C.2.1
  have hl : lv_has ls 4 [(0, .ref (b + i))] := hl
  have L30 : ∀ f : Nat, ∀ (M : Mem) (H : Heap) (locs : List Loc) (ls : Array Slot) (x0 : Nat) (x2 : Int32), wpL_X5_tendDies_30 n P f M x0 x2 → m_H D cA b n M H → va_S (m_A b) s.heap H locs → lv_has ls 4 [(0, .ref (b + x0)), (2, .int x2)] → W p l e rm_X5_tendDies s m ([.ref (b + i)] : List Value).toArray below meth c H locs 0 0 (MQ below (m_Q D cA b n (rV P)) ([.ref (b + i)] : List Value).toArray s 0 0 (m_A b)) (F0 m 30 ls []) := by
    clear h
    intro f
    induction f with
    | zero => intro M H locs ls x0 x2 h; exact h.elim
    | succ f ih =>
      intro M H locs ls x0 x2 h hP hS hl
      have h : wpB_X5_tendDies_30 n P (wpL_X5_tendDies_30 n P f) M x0 x2 := h
      unfold wpB_X5_tendDies_30 at h
      refine lv_iload_n (pc := 30) hx hb dX5_tendDies_30 rfl (lv_at hl 1 rfl) ?_
      refine lv_iconst (v := 5) (pc := 31) hx hb dX5_tendDies_31 (by decide) ?_
      refine lv_icmp_ge (tgt := 63) (pc := 32) hx hb dX5_tendDies_32 (by decide) (fun c32 => ?_) (fun c32 => ?_)
      · replace h := h.1 c32
        exact m_vret (pc := 63) C hr hlk hP hS dX5_tendDies_63 h
      · replace h := h.2 c32
        refine lv_aload_n (pc := 35) hx hb dX5_tendDies_35 rfl (lv_at hl 0 rfl) ?_
        refine lv_iload_n (pc := 36) hx hb dX5_tendDies_36 rfl (lv_at hl 1 rfl) ?_
        obtain ⟨hk5, h⟩ := h
        refine m_callVR (pc := 37) (y := yX5_dieAt) (κ := 5) (As := [.int x2]) (rest := []) C hK hP hS hl.1 ⟨Nat.zero_le _, Nat.zero_le _⟩ (c_X5_dieAt h) rfl rfl hk5 (by decide) rfl q_355 q_356 q_357 q_2 q_358 ⟨rfl, rfl⟩ yd_X5_dieAt ⟨Nat.le_of_ble_eq_true rfl, Nat.le_of_ble_eq_true rfl⟩ (Nat.le_of_ble_eq_true rfl) dX5_tendDies_37 (fun j6 M4 H locs h hP hS => ?_)
        refine lv_astore_n (lv' := [(3, .ref (b + j6)), (0, .ref (b + x0)), (2, .int x2)]) (pc := 40) hx hb dX5_tendDies_40 rfl hl (by decide) rfl (fun ls hl => ?_)
        refine lv_aload_n (pc := 41) hx hb dX5_tendDies_41 rfl (lv_at hl 0 rfl) ?_
        obtain ⟨hk8, h⟩ := h
        refine m_callVZ (pc := 42) (y := yX1_isWornOut) (κ := 1) (As := []) (rest := []) C hK hP hS hl.1 ⟨Nat.zero_le _, Nat.zero_le _⟩ (c_X1_isWornOut h) rfl rfl hk8 (by decide) rfl q_521 q_522 q_523 q_4 q_524 ⟨rfl, rfl⟩ yd_X1_isWornOut ⟨Nat.le_of_ble_eq_true rfl, Nat.le_of_ble_eq_true rfl⟩ (Nat.le_of_ble_eq_true rfl) dX5_tendDies_42 (fun z9 M7 H locs h hP hS => ?_)
        refine lv_if_eq (tgt := 57) (pc := 45) hx hb dX5_tendDies_45 (by decide) (fun c45 => ?_) (fun c45 => ?_)
        · replace h := h.1 (bZ0 c45)
          obtain ⟨v10, ev10⟩ : ∃ y : Int32, y = x2 + 1 := ⟨_, rfl⟩
          replace h := h v10 ev10
          refine lv_iinc (v := v10) (lv' := [(2, .int v10), (3, .ref (b + j6)), (0, .ref (b + x0))]) (pc := 57) hx hb dX5_tendDies_57 hl (k := 2) rfl (by rw [ev10]; rfl) (by decide) rfl (fun ls hl => ?_)
          refine lv_goto (tgt := 30) (pc := 60) hx hb dX5_tendDies_60 (by decide) ?_
          exact ih _ _ _ _ _ _ h hP hS (lv_sub hl [2, 0] rfl)
        · replace h := h.2 (bZ1 c45)
          refine lv_aload_n (pc := 48) hx hb dX5_tendDies_48 rfl (lv_at hl 0 rfl) ?_
          refine lv_aload_n (pc := 49) hx hb dX5_tendDies_49 rfl (lv_at hl 1 rfl) ?_
          refine gX5_21 (pc := 50) C hK hP hk5 dX5_tendDies_50 ?_
          refine pX5_264 (pc := 53) (v := M7.1 x0 10) C hK hP hS hk8 dX5_tendDies_53 (fun M11 H locs eM11 hP hS => ?_)
          replace h := h M11 eM11
          exact m_vret (pc := 56) C hr hlk hP hS dX5_tendDies_56 h
  unfold wp_X5_tendDies at h
  refine lv_aload_n (pc := 0) hx hb dX5_tendDies_0 rfl (lv_at hl 0 rfl) ?_
  obtain ⟨hk2, h⟩ := h
  refine m_callVI (pc := 1) (y := yX5_dieBeingGround) (κ := 5) (As := []) (rest := []) C hK hP hS hl.1 ⟨Nat.zero_le _, Nat.zero_le _⟩ (c_X5_dieBeingGround h) rfl rfl hk2 (by decide) rfl q_688 q_427 q_428 q_2 q_429 ⟨rfl, rfl⟩ yd_X5_dieBeingGround ⟨Nat.le_of_ble_eq_true rfl, Nat.le_of_ble_eq_true rfl⟩ (Nat.le_of_ble_eq_true rfl) dX5_tendDies_1 (fun r3 M1 H locs h hP hS => ?_)
  refine lv_istore_n (lv' := [(1, .int r3), (0, .ref (b + i))]) (pc := 4) hx hb dX5_tendDies_4 rfl hl (by decide) rfl (fun ls hl => ?_)
  refine lv_iload_n (pc := 5) hx hb dX5_tendDies_5 rfl (lv_at hl 0 rfl) ?_
  refine lv_iconst (v := -1) (pc := 6) hx hb dX5_tendDies_6 (by decide) ?_
  refine lv_icmp_eq (tgt := 28) (pc := 7) hx hb dX5_tendDies_7 (by decide) (fun c7 => ?_) (fun c7 => ?_)
  · replace h := h.1 c7
    refine lv_iconst (v := 0) (pc := 28) hx hb dX5_tendDies_28 (by decide) ?_
    refine lv_istore_n (lv' := [(2, .int 0), (1, .int r3), (0, .ref (b + i))]) (pc := 29) hx hb dX5_tendDies_29 rfl hl (by decide) rfl (fun ls hl => ?_)
    obtain ⟨f, h⟩ := h
    exact L30 f _ _ _ _ _ _ h hP hS (lv_sub hl [2, 0] rfl)
  · replace h := h.2 c7
    refine lv_aload_n (pc := 10) hx hb dX5_tendDies_10 rfl (lv_at hl 1 rfl) ?_
    refine lv_iload_n (pc := 11) hx hb dX5_tendDies_11 rfl (lv_at hl 0 rfl) ?_
    refine m_callVR (pc := 12) (y := yX5_dieAt) (κ := 5) (As := [.int r3]) (rest := []) C hK hP hS hl.1 ⟨Nat.zero_le _, Nat.zero_le _⟩ (c_X5_dieAt h) rfl rfl hk2 (by decide) rfl q_355 q_356 q_357 q_2 q_358 ⟨rfl, rfl⟩ yd_X5_dieAt ⟨Nat.le_of_ble_eq_true rfl, Nat.le_of_ble_eq_true rfl⟩ (Nat.le_of_ble_eq_true rfl) dX5_tendDies_12 (fun j13 M12 H locs h hP hS => ?_)
    refine lv_astore_n (lv' := [(2, .ref (b + j13)), (1, .int r3), (0, .ref (b + i))]) (pc := 15) hx hb dX5_tendDies_15 rfl hl (by decide) rfl (fun ls hl => ?_)
    refine lv_aload_n (pc := 16) hx hb dX5_tendDies_16 rfl (lv_at hl 0 rfl) ?_
    obtain ⟨hk15, h⟩ := h
    refine m_callVV (pc := 17) (y := yX1_grindMinute) (κ := 1) (As := []) (rest := []) C hK hP hS hl.1 ⟨Nat.zero_le _, Nat.zero_le _⟩ (c_X1_grindMinute h) rfl rfl hk15 (by decide) rfl q_689 q_690 q_691 q_4 q_692 ⟨rfl, rfl⟩ yd_X1_grindMinute ⟨Nat.le_of_ble_eq_true rfl, Nat.le_of_ble_eq_true rfl⟩ (Nat.le_of_ble_eq_true rfl) dX5_tendDies_17 (fun M14 H locs h hP hS => ?_)
    refine lv_aload_n (pc := 20) hx hb dX5_tendDies_20 rfl (lv_at hl 0 rfl) ?_
    refine m_callVZ (pc := 21) (y := yX1_isBeingGround) (κ := 1) (As := []) (rest := []) C hK hP hS hl.1 ⟨Nat.zero_le _, Nat.zero_le _⟩ (c_X1_isBeingGround h) rfl rfl hk15 (by decide) rfl q_430 q_431 q_432 q_4 q_433 ⟨rfl, rfl⟩ yd_X1_isBeingGround ⟨Nat.le_of_ble_eq_true rfl, Nat.le_of_ble_eq_true rfl⟩ (Nat.le_of_ble_eq_true rfl) dX5_tendDies_21 (fun z18 M17 H locs h hP hS => ?_)
    refine lv_if_eq (tgt := 28) (pc := 24) hx hb dX5_tendDies_24 (by decide) (fun c24 => ?_) (fun c24 => ?_)
    · replace h := h.1 (bZ0 c24)
      refine lv_iconst (v := 0) (pc := 28) hx hb dX5_tendDies_28 (by decide) ?_
      refine lv_istore_n (lv' := [(2, .int 0), (1, .int r3), (0, .ref (b + i))]) (pc := 29) hx hb dX5_tendDies_29 rfl hl (by decide) rfl (fun ls hl => ?_)
      obtain ⟨f, h⟩ := h
      exact L30 f _ _ _ _ _ _ h hP hS (lv_sub hl [2, 0] rfl)
    · replace h := h.2 (bZ1 c24)
      exact m_vret (pc := 27) C hr hlk hP hS dX5_tendDies_27 h
/-! ForgeHeats$Shop.copyFrom (LForgeHeats$Shop;)V -/
def wpB_X5_copyFrom_83 (n : Nat) (P : Mem → Prop) (R_ : Mem → Nat → Nat → Int32 → Prop) (M : Mem) (x0 : Nat) (x1 : Nat) (x2 : Int32) : Prop := ((6 < x2 → m_tp n x0 5 ∧ (wp_X5_copyNumbersFrom n M x0 x1 (fun M2 => P M2))) ∧ (¬ 6 < x2 → m_tp n x0 5 ∧ (wp_X5_billetAt n M x0 x2 (fun j7 M5 => m_tp n x1 5 ∧ (wp_X5_billetAt n M5 x1 x2 (fun j10 M8 => m_tp n j7 0 ∧ (wp_X0_copyFrom n M8 j7 j10 (fun M11 => ∀ v14 : Int32, v14 = x2 + 1 → (R_ M11 x0 x1 v14)))))))))
def wpL_X5_copyFrom_83 (n : Nat) (P : Mem → Prop) : Nat → Mem → Nat → Nat → Int32 → Prop
  | 0 => fun _ _ _ _ => False
  | f + 1 => fun M x0 x1 x2 => wpB_X5_copyFrom_83 n P (wpL_X5_copyFrom_83 n P f) M x0 x1 x2
def wpB_X5_copyFrom_54 (n : Nat) (P : Mem → Prop) (R_ : Mem → Nat → Nat → Int32 → Prop) (M : Mem) (x0 : Nat) (x1 : Nat) (x2 : Int32) : Prop := m_tp n x1 5 ∧ ((((M.1 x1 5) ≤ x2 → ∃ f : Nat, wpL_X5_copyFrom_83 n P f M x0 x1 0) ∧ (¬ (M.1 x1 5) ≤ x2 → m_tp n x0 5 ∧ (wp_X5_jobAt n M x0 x2 (fun j17 M15 => wp_X5_jobAt n M15 x1 x2 (fun j19 M18 => m_tp n j17 3 ∧ (wp_X3_copyFrom n M18 j17 j19 (fun M20 => ∀ v23 : Int32, v23 = x2 + 1 → (R_ M20 x0 x1 v23)))))))))
def wpL_X5_copyFrom_54 (n : Nat) (P : Mem → Prop) : Nat → Mem → Nat → Nat → Int32 → Prop
  | 0 => fun _ _ _ _ => False
  | f + 1 => fun M x0 x1 x2 => wpB_X5_copyFrom_54 n P (wpL_X5_copyFrom_54 n P f) M x0 x1 x2
def wpB_X5_copyFrom_28 (n : Nat) (P : Mem → Prop) (R_ : Mem → Nat → Nat → Int32 → Prop) (M : Mem) (x0 : Nat) (x1 : Nat) (x2 : Int32) : Prop := ((5 ≤ x2 → ∃ f : Nat, wpL_X5_copyFrom_54 n P f M x0 x1 0) ∧ (¬ 5 ≤ x2 → m_tp n x0 5 ∧ (wp_X5_dieAt n M x0 x2 (fun j26 M24 => m_tp n x1 5 ∧ (wp_X5_dieAt n M24 x1 x2 (fun j29 M27 => m_tp n j26 1 ∧ (wp_X1_copyFrom n M27 j26 j29 (fun M30 => ∀ v33 : Int32, v33 = x2 + 1 → (R_ M30 x0 x1 v33)))))))))
def wpL_X5_copyFrom_28 (n : Nat) (P : Mem → Prop) : Nat → Mem → Nat → Nat → Int32 → Prop
  | 0 => fun _ _ _ _ => False
  | f + 1 => fun M x0 x1 x2 => wpB_X5_copyFrom_28 n P (wpL_X5_copyFrom_28 n P f) M x0 x1 x2
def wpB_X5_copyFrom_2 (n : Nat) (P : Mem → Prop) (R_ : Mem → Nat → Nat → Int32 → Prop) (M : Mem) (x0 : Nat) (x1 : Nat) (x2 : Int32) : Prop := ((4 ≤ x2 → ∃ f : Nat, wpL_X5_copyFrom_28 n P f M x0 x1 0) ∧ (¬ 4 ≤ x2 → m_tp n x0 5 ∧ (wp_X5_heatAt n M x0 x2 (fun j36 M34 => m_tp n x1 5 ∧ (wp_X5_heatAt n M34 x1 x2 (fun j39 M37 => m_tp n j36 2 ∧ (wp_X2_copyFrom n M37 j36 j39 (fun M40 => ∀ v43 : Int32, v43 = x2 + 1 → (R_ M40 x0 x1 v43)))))))))
def wpL_X5_copyFrom_2 (n : Nat) (P : Mem → Prop) : Nat → Mem → Nat → Nat → Int32 → Prop
  | 0 => fun _ _ _ _ => False
  | f + 1 => fun M x0 x1 x2 => wpB_X5_copyFrom_2 n P (wpL_X5_copyFrom_2 n P f) M x0 x1 x2
def wp_X5_copyFrom (n : Nat) (M : Mem) (i : Nat) (p1 : Nat) (P : Mem → Prop) : Prop := ∃ f : Nat, wpL_X5_copyFrom_2 n P f M i p1 0
abbrev rm_X5_copyFrom : Room := { frames := 1, cells := 0, slots := 0, locals := 22 }
set_option maxHeartbeats 4000000 in
set_option maxRecDepth 100000 in
theorem c_X5_copyFrom {l : Launch} {D : va_G} {cA : Nat → ClassId} {b n : Nat} {M : Mem} {i : Nat} {p1 : Nat} {P : Mem → Prop} (h : wp_X5_copyFrom n M i p1 P) : m_C l D cA b n n M yX5_copyFrom cX5_copyFrom 3 none rm_X5_copyFrom 0 0 [.ref (b + i), .ref (b + p1)] (rV P) := by
  refine m_enter (by decide) (Nat.le_of_ble_eq_true rfl) (fun p e s m below meth c C hr hlk hnm hK hP hS ls hl => ?_)
  have hx := C.1
  have hb := C.2.1
  have hl : lv_has ls 3 [(0, .ref (b + i)), (1, .ref (b + p1))] := hl
  have L83 : ∀ f : Nat, ∀ (M : Mem) (H : Heap) (locs : List Loc) (ls : Array Slot) (x0 : Nat) (x1 : Nat) (x2 : Int32), wpL_X5_copyFrom_83 n P f M x0 x1 x2 → m_H D cA b n M H → va_S (m_A b) s.heap H locs → lv_has ls 3 [(0, .ref (b + x0)), (1, .ref (b + x1)), (2, .int x2)] → W p l e rm_X5_copyFrom s m ([.ref (b + i), .ref (b + p1)] : List Value).toArray below meth c H locs 0 0 (MQ below (m_Q D cA b n (rV P)) ([.ref (b + i), .ref (b + p1)] : List Value).toArray s 0 0 (m_A b)) (F0 m 83 ls []) := by
    clear h
    intro f
    induction f with
    | zero => intro M H locs ls x0 x1 x2 h; exact h.elim
    | succ f ih =>
      intro M H locs ls x0 x1 x2 h hP hS hl
      have h : wpB_X5_copyFrom_83 n P (wpL_X5_copyFrom_83 n P f) M x0 x1 x2 := h
      unfold wpB_X5_copyFrom_83 at h
      refine lv_iload_n (pc := 83) hx hb dX5_copyFrom_83 rfl (lv_at hl 2 rfl) ?_
      refine lv_bipush (v := 6) (pc := 84) hx hb dX5_copyFrom_84 (by decide) ?_
      refine lv_icmp_gt (tgt := 108) (pc := 86) hx hb dX5_copyFrom_86 (by decide) (fun c86 => ?_) (fun c86 => ?_)
      · replace h := h.1 c86
        refine lv_aload_n (pc := 108) hx hb dX5_copyFrom_108 rfl (lv_at hl 0 rfl) ?_
        refine lv_aload_n (pc := 109) hx hb dX5_copyFrom_109 rfl (lv_at hl 1 rfl) ?_
        obtain ⟨hk3, h⟩ := h
        refine m_callVV (pc := 110) (y := yX5_copyNumbersFrom) (κ := 5) (As := [.ref (b + x1)]) (rest := []) C hK hP hS hl.1 ⟨Nat.zero_le _, Nat.zero_le _⟩ (c_X5_copyNumbersFrom h) rfl rfl hk3 (by decide) rfl q_379 q_381 q_s2 q_2 q_382 ⟨rfl, rfl⟩ yd_X5_copyNumbersFrom ⟨Nat.le_of_ble_eq_true rfl, Nat.le_of_ble_eq_true rfl⟩ (Nat.le_of_ble_eq_true rfl) dX5_copyFrom_110 (fun M2 H locs h hP hS => ?_)
        exact m_vret (pc := 113) C hr hlk hP hS dX5_copyFrom_113 h
      · replace h := h.2 c86
        refine lv_aload_n (pc := 89) hx hb dX5_copyFrom_89 rfl (lv_at hl 0 rfl) ?_
        refine lv_iload_n (pc := 90) hx hb dX5_copyFrom_90 rfl (lv_at hl 2 rfl) ?_
        obtain ⟨hk6, h⟩ := h
        refine m_callVR (pc := 91) (y := yX5_billetAt) (κ := 5) (As := [.int x2]) (rest := []) C hK hP hS hl.1 ⟨Nat.zero_le _, Nat.zero_le _⟩ (c_X5_billetAt h) rfl rfl hk6 (by decide) rfl q_371 q_372 q_373 q_2 q_374 ⟨rfl, rfl⟩ yd_X5_billetAt ⟨Nat.le_of_ble_eq_true rfl, Nat.le_of_ble_eq_true rfl⟩ (Nat.le_of_ble_eq_true rfl) dX5_copyFrom_91 (fun j7 M5 H locs h hP hS => ?_)
        refine lv_aload_n (pc := 94) hx hb dX5_copyFrom_94 rfl (lv_at hl 1 rfl) ?_
        refine lv_iload_n (pc := 95) hx hb dX5_copyFrom_95 rfl (lv_at hl 2 rfl) ?_
        obtain ⟨hk9, h⟩ := h
        refine m_callVR (pc := 96) (y := yX5_billetAt) (κ := 5) (As := [.int x2]) (rest := [.ref (b + j7)]) C hK hP hS hl.1 ⟨Nat.zero_le _, Nat.zero_le _⟩ (c_X5_billetAt h) rfl rfl hk9 (by decide) rfl q_371 q_372 q_373 q_2 q_374 ⟨rfl, rfl⟩ yd_X5_billetAt ⟨Nat.le_of_ble_eq_true rfl, Nat.le_of_ble_eq_true rfl⟩ (Nat.le_of_ble_eq_true rfl) dX5_copyFrom_96 (fun j10 M8 H locs h hP hS => ?_)
        obtain ⟨hk12, h⟩ := h
        refine m_callVV (pc := 99) (y := yX0_copyFrom) (κ := 0) (As := [.ref (b + j10)]) (rest := []) C hK hP hS hl.1 ⟨Nat.zero_le _, Nat.zero_le _⟩ (c_X0_copyFrom h) rfl rfl hk12 (by decide) rfl q_375 q_376 q_377 q_6 q_378 ⟨rfl, rfl⟩ yd_X0_copyFrom ⟨Nat.le_of_ble_eq_true rfl, Nat.le_of_ble_eq_true rfl⟩ (Nat.le_of_ble_eq_true rfl) dX5_copyFrom_99 (fun M11 H locs h hP hS => ?_)
        obtain ⟨v14, ev14⟩ : ∃ y : Int32, y = x2 + 1 := ⟨_, rfl⟩
        replace h := h v14 ev14
        refine lv_iinc (v := v14) (lv' := [(2, .int v14), (0, .ref (b + x0)), (1, .ref (b + x1))]) (pc := 102) hx hb dX5_copyFrom_102 hl (k := 2) rfl (by rw [ev14]; rfl) (by decide) rfl (fun ls hl => ?_)
        refine lv_goto (tgt := 83) (pc := 105) hx hb dX5_copyFrom_105 (by decide) ?_
        exact ih _ _ _ _ _ _ _ h hP hS (lv_sub hl [1, 2, 0] rfl)
  have L54 : ∀ f : Nat, ∀ (M : Mem) (H : Heap) (locs : List Loc) (ls : Array Slot) (x0 : Nat) (x1 : Nat) (x2 : Int32), wpL_X5_copyFrom_54 n P f M x0 x1 x2 → m_H D cA b n M H → va_S (m_A b) s.heap H locs → lv_has ls 3 [(0, .ref (b + x0)), (1, .ref (b + x1)), (2, .int x2)] → W p l e rm_X5_copyFrom s m ([.ref (b + i), .ref (b + p1)] : List Value).toArray below meth c H locs 0 0 (MQ below (m_Q D cA b n (rV P)) ([.ref (b + i), .ref (b + p1)] : List Value).toArray s 0 0 (m_A b)) (F0 m 54 ls []) := by
    clear h
    intro f
    induction f with
    | zero => intro M H locs ls x0 x1 x2 h; exact h.elim
    | succ f ih =>
      intro M H locs ls x0 x1 x2 h hP hS hl
      have h : wpB_X5_copyFrom_54 n P (wpL_X5_copyFrom_54 n P f) M x0 x1 x2 := h
      unfold wpB_X5_copyFrom_54 at h
      refine lv_iload_n (pc := 54) hx hb dX5_copyFrom_54 rfl (lv_at hl 2 rfl) ?_
      refine lv_aload_n (pc := 55) hx hb dX5_copyFrom_55 rfl (lv_at hl 1 rfl) ?_
      obtain ⟨hk1, h⟩ := h
      refine gX5_83 (pc := 56) C hK hP hk1 dX5_copyFrom_56 ?_
      refine lv_icmp_ge (tgt := 81) (pc := 59) hx hb dX5_copyFrom_59 (by decide) (fun c59 => ?_) (fun c59 => ?_)
      · replace h := h.1 c59
        refine lv_iconst (v := 0) (pc := 81) hx hb dX5_copyFrom_81 (by decide) ?_
        refine lv_istore_n (lv' := [(2, .int 0), (0, .ref (b + x0)), (1, .ref (b + x1))]) (pc := 82) hx hb dX5_copyFrom_82 rfl hl (by decide) rfl (fun ls hl => ?_)
        obtain ⟨f, h⟩ := h
        exact L83 f _ _ _ _ _ _ _ h hP hS (lv_sub hl [1, 2, 0] rfl)
      · replace h := h.2 c59
        refine lv_aload_n (pc := 62) hx hb dX5_copyFrom_62 rfl (lv_at hl 0 rfl) ?_
        refine lv_iload_n (pc := 63) hx hb dX5_copyFrom_63 rfl (lv_at hl 2 rfl) ?_
        obtain ⟨hk16, h⟩ := h
        refine m_callVR (pc := 64) (y := yX5_jobAt) (κ := 5) (As := [.int x2]) (rest := []) C hK hP hS hl.1 ⟨Nat.zero_le _, Nat.zero_le _⟩ (c_X5_jobAt h) rfl rfl hk16 (by decide) rfl q_363 q_364 q_365 q_2 q_366 ⟨rfl, rfl⟩ yd_X5_jobAt ⟨Nat.le_of_ble_eq_true rfl, Nat.le_of_ble_eq_true rfl⟩ (Nat.le_of_ble_eq_true rfl) dX5_copyFrom_64 (fun j17 M15 H locs h hP hS => ?_)
        refine lv_aload_n (pc := 67) hx hb dX5_copyFrom_67 rfl (lv_at hl 1 rfl) ?_
        refine lv_iload_n (pc := 68) hx hb dX5_copyFrom_68 rfl (lv_at hl 2 rfl) ?_
        refine m_callVR (pc := 69) (y := yX5_jobAt) (κ := 5) (As := [.int x2]) (rest := [.ref (b + j17)]) C hK hP hS hl.1 ⟨Nat.zero_le _, Nat.zero_le _⟩ (c_X5_jobAt h) rfl rfl hk1 (by decide) rfl q_363 q_364 q_365 q_2 q_366 ⟨rfl, rfl⟩ yd_X5_jobAt ⟨Nat.le_of_ble_eq_true rfl, Nat.le_of_ble_eq_true rfl⟩ (Nat.le_of_ble_eq_true rfl) dX5_copyFrom_69 (fun j19 M18 H locs h hP hS => ?_)
        obtain ⟨hk21, h⟩ := h
        refine m_callVV (pc := 72) (y := yX3_copyFrom) (κ := 3) (As := [.ref (b + j19)]) (rest := []) C hK hP hS hl.1 ⟨Nat.zero_le _, Nat.zero_le _⟩ (c_X3_copyFrom h) rfl rfl hk21 (by decide) rfl q_367 q_368 q_369 q_5 q_370 ⟨rfl, rfl⟩ yd_X3_copyFrom ⟨Nat.le_of_ble_eq_true rfl, Nat.le_of_ble_eq_true rfl⟩ (Nat.le_of_ble_eq_true rfl) dX5_copyFrom_72 (fun M20 H locs h hP hS => ?_)
        obtain ⟨v23, ev23⟩ : ∃ y : Int32, y = x2 + 1 := ⟨_, rfl⟩
        replace h := h v23 ev23
        refine lv_iinc (v := v23) (lv' := [(2, .int v23), (0, .ref (b + x0)), (1, .ref (b + x1))]) (pc := 75) hx hb dX5_copyFrom_75 hl (k := 2) rfl (by rw [ev23]; rfl) (by decide) rfl (fun ls hl => ?_)
        refine lv_goto (tgt := 54) (pc := 78) hx hb dX5_copyFrom_78 (by decide) ?_
        exact ih _ _ _ _ _ _ _ h hP hS (lv_sub hl [1, 2, 0] rfl)
  have L28 : ∀ f : Nat, ∀ (M : Mem) (H : Heap) (locs : List Loc) (ls : Array Slot) (x0 : Nat) (x1 : Nat) (x2 : Int32), wpL_X5_copyFrom_28 n P f M x0 x1 x2 → m_H D cA b n M H → va_S (m_A b) s.heap H locs → lv_has ls 3 [(0, .ref (b + x0)), (1, .ref (b + x1)), (2, .int x2)] → W p l e rm_X5_copyFrom s m ([.ref (b + i), .ref (b + p1)] : List Value).toArray below meth c H locs 0 0 (MQ below (m_Q D cA b n (rV P)) ([.ref (b + i), .ref (b + p1)] : List Value).toArray s 0 0 (m_A b)) (F0 m 28 ls []) := by
    clear h
    intro f
    induction f with
    | zero => intro M H locs ls x0 x1 x2 h; exact h.elim
    | succ f ih =>
      intro M H locs ls x0 x1 x2 h hP hS hl
      have h : wpB_X5_copyFrom_28 n P (wpL_X5_copyFrom_28 n P f) M x0 x1 x2 := h
      unfold wpB_X5_copyFrom_28 at h
      refine lv_iload_n (pc := 28) hx hb dX5_copyFrom_28 rfl (lv_at hl 2 rfl) ?_
      refine lv_iconst (v := 5) (pc := 29) hx hb dX5_copyFrom_29 (by decide) ?_
      refine lv_icmp_ge (tgt := 52) (pc := 30) hx hb dX5_copyFrom_30 (by decide) (fun c30 => ?_) (fun c30 => ?_)
      · replace h := h.1 c30
        refine lv_iconst (v := 0) (pc := 52) hx hb dX5_copyFrom_52 (by decide) ?_
        refine lv_istore_n (lv' := [(2, .int 0), (0, .ref (b + x0)), (1, .ref (b + x1))]) (pc := 53) hx hb dX5_copyFrom_53 rfl hl (by decide) rfl (fun ls hl => ?_)
        obtain ⟨f, h⟩ := h
        exact L54 f _ _ _ _ _ _ _ h hP hS (lv_sub hl [1, 2, 0] rfl)
      · replace h := h.2 c30
        refine lv_aload_n (pc := 33) hx hb dX5_copyFrom_33 rfl (lv_at hl 0 rfl) ?_
        refine lv_iload_n (pc := 34) hx hb dX5_copyFrom_34 rfl (lv_at hl 2 rfl) ?_
        obtain ⟨hk25, h⟩ := h
        refine m_callVR (pc := 35) (y := yX5_dieAt) (κ := 5) (As := [.int x2]) (rest := []) C hK hP hS hl.1 ⟨Nat.zero_le _, Nat.zero_le _⟩ (c_X5_dieAt h) rfl rfl hk25 (by decide) rfl q_355 q_356 q_357 q_2 q_358 ⟨rfl, rfl⟩ yd_X5_dieAt ⟨Nat.le_of_ble_eq_true rfl, Nat.le_of_ble_eq_true rfl⟩ (Nat.le_of_ble_eq_true rfl) dX5_copyFrom_35 (fun j26 M24 H locs h hP hS => ?_)
        refine lv_aload_n (pc := 38) hx hb dX5_copyFrom_38 rfl (lv_at hl 1 rfl) ?_
        refine lv_iload_n (pc := 39) hx hb dX5_copyFrom_39 rfl (lv_at hl 2 rfl) ?_
        obtain ⟨hk28, h⟩ := h
        refine m_callVR (pc := 40) (y := yX5_dieAt) (κ := 5) (As := [.int x2]) (rest := [.ref (b + j26)]) C hK hP hS hl.1 ⟨Nat.zero_le _, Nat.zero_le _⟩ (c_X5_dieAt h) rfl rfl hk28 (by decide) rfl q_355 q_356 q_357 q_2 q_358 ⟨rfl, rfl⟩ yd_X5_dieAt ⟨Nat.le_of_ble_eq_true rfl, Nat.le_of_ble_eq_true rfl⟩ (Nat.le_of_ble_eq_true rfl) dX5_copyFrom_40 (fun j29 M27 H locs h hP hS => ?_)
        obtain ⟨hk31, h⟩ := h
        refine m_callVV (pc := 43) (y := yX1_copyFrom) (κ := 1) (As := [.ref (b + j29)]) (rest := []) C hK hP hS hl.1 ⟨Nat.zero_le _, Nat.zero_le _⟩ (c_X1_copyFrom h) rfl rfl hk31 (by decide) rfl q_359 q_360 q_361 q_4 q_362 ⟨rfl, rfl⟩ yd_X1_copyFrom ⟨Nat.le_of_ble_eq_true rfl, Nat.le_of_ble_eq_true rfl⟩ (Nat.le_of_ble_eq_true rfl) dX5_copyFrom_43 (fun M30 H locs h hP hS => ?_)
        obtain ⟨v33, ev33⟩ : ∃ y : Int32, y = x2 + 1 := ⟨_, rfl⟩
        replace h := h v33 ev33
        refine lv_iinc (v := v33) (lv' := [(2, .int v33), (0, .ref (b + x0)), (1, .ref (b + x1))]) (pc := 46) hx hb dX5_copyFrom_46 hl (k := 2) rfl (by rw [ev33]; rfl) (by decide) rfl (fun ls hl => ?_)
        refine lv_goto (tgt := 28) (pc := 49) hx hb dX5_copyFrom_49 (by decide) ?_
        exact ih _ _ _ _ _ _ _ h hP hS (lv_sub hl [1, 2, 0] rfl)
  have L2 : ∀ f : Nat, ∀ (M : Mem) (H : Heap) (locs : List Loc) (ls : Array Slot) (x0 : Nat) (x1 : Nat) (x2 : Int32), wpL_X5_copyFrom_2 n P f M x0 x1 x2 → m_H D cA b n M H → va_S (m_A b) s.heap H locs → lv_has ls 3 [(0, .ref (b + x0)), (1, .ref (b + x1)), (2, .int x2)] → W p l e rm_X5_copyFrom s m ([.ref (b + i), .ref (b + p1)] : List Value).toArray below meth c H locs 0 0 (MQ below (m_Q D cA b n (rV P)) ([.ref (b + i), .ref (b + p1)] : List Value).toArray s 0 0 (m_A b)) (F0 m 2 ls []) := by
    clear h
    intro f
    induction f with
    | zero => intro M H locs ls x0 x1 x2 h; exact h.elim
    | succ f ih =>
      intro M H locs ls x0 x1 x2 h hP hS hl
      have h : wpB_X5_copyFrom_2 n P (wpL_X5_copyFrom_2 n P f) M x0 x1 x2 := h
      unfold wpB_X5_copyFrom_2 at h
      refine lv_iload_n (pc := 2) hx hb dX5_copyFrom_2 rfl (lv_at hl 2 rfl) ?_
      refine lv_iconst (v := 4) (pc := 3) hx hb dX5_copyFrom_3 (by decide) ?_
      refine lv_icmp_ge (tgt := 26) (pc := 4) hx hb dX5_copyFrom_4 (by decide) (fun c4 => ?_) (fun c4 => ?_)
      · replace h := h.1 c4
        refine lv_iconst (v := 0) (pc := 26) hx hb dX5_copyFrom_26 (by decide) ?_
        refine lv_istore_n (lv' := [(2, .int 0), (0, .ref (b + x0)), (1, .ref (b + x1))]) (pc := 27) hx hb dX5_copyFrom_27 rfl hl (by decide) rfl (fun ls hl => ?_)
        obtain ⟨f, h⟩ := h
        exact L28 f _ _ _ _ _ _ _ h hP hS (lv_sub hl [1, 2, 0] rfl)
      · replace h := h.2 c4
        refine lv_aload_n (pc := 7) hx hb dX5_copyFrom_7 rfl (lv_at hl 0 rfl) ?_
        refine lv_iload_n (pc := 8) hx hb dX5_copyFrom_8 rfl (lv_at hl 2 rfl) ?_
        obtain ⟨hk35, h⟩ := h
        refine m_callVR (pc := 9) (y := yX5_heatAt) (κ := 5) (As := [.int x2]) (rest := []) C hK hP hS hl.1 ⟨Nat.zero_le _, Nat.zero_le _⟩ (c_X5_heatAt h) rfl rfl hk35 (by decide) rfl q_347 q_348 q_349 q_2 q_350 ⟨rfl, rfl⟩ yd_X5_heatAt ⟨Nat.le_of_ble_eq_true rfl, Nat.le_of_ble_eq_true rfl⟩ (Nat.le_of_ble_eq_true rfl) dX5_copyFrom_9 (fun j36 M34 H locs h hP hS => ?_)
        refine lv_aload_n (pc := 12) hx hb dX5_copyFrom_12 rfl (lv_at hl 1 rfl) ?_
        refine lv_iload_n (pc := 13) hx hb dX5_copyFrom_13 rfl (lv_at hl 2 rfl) ?_
        obtain ⟨hk38, h⟩ := h
        refine m_callVR (pc := 14) (y := yX5_heatAt) (κ := 5) (As := [.int x2]) (rest := [.ref (b + j36)]) C hK hP hS hl.1 ⟨Nat.zero_le _, Nat.zero_le _⟩ (c_X5_heatAt h) rfl rfl hk38 (by decide) rfl q_347 q_348 q_349 q_2 q_350 ⟨rfl, rfl⟩ yd_X5_heatAt ⟨Nat.le_of_ble_eq_true rfl, Nat.le_of_ble_eq_true rfl⟩ (Nat.le_of_ble_eq_true rfl) dX5_copyFrom_14 (fun j39 M37 H locs h hP hS => ?_)
        obtain ⟨hk41, h⟩ := h
        refine m_callVV (pc := 17) (y := yX2_copyFrom) (κ := 2) (As := [.ref (b + j39)]) (rest := []) C hK hP hS hl.1 ⟨Nat.zero_le _, Nat.zero_le _⟩ (c_X2_copyFrom h) rfl rfl hk41 (by decide) rfl q_351 q_352 q_353 q_3 q_354 ⟨rfl, rfl⟩ yd_X2_copyFrom ⟨Nat.le_of_ble_eq_true rfl, Nat.le_of_ble_eq_true rfl⟩ (Nat.le_of_ble_eq_true rfl) dX5_copyFrom_17 (fun M40 H locs h hP hS => ?_)
        obtain ⟨v43, ev43⟩ : ∃ y : Int32, y = x2 + 1 := ⟨_, rfl⟩
        replace h := h v43 ev43
        refine lv_iinc (v := v43) (lv' := [(2, .int v43), (0, .ref (b + x0)), (1, .ref (b + x1))]) (pc := 20) hx hb dX5_copyFrom_20 hl (k := 2) rfl (by rw [ev43]; rfl) (by decide) rfl (fun ls hl => ?_)
        refine lv_goto (tgt := 2) (pc := 23) hx hb dX5_copyFrom_23 (by decide) ?_
        exact ih _ _ _ _ _ _ _ h hP hS (lv_sub hl [1, 2, 0] rfl)
  unfold wp_X5_copyFrom at h
  refine lv_iconst (v := 0) (pc := 0) hx hb dX5_copyFrom_0 (by decide) ?_
  refine lv_istore_n (lv' := [(2, .int 0), (0, .ref (b + i)), (1, .ref (b + p1))]) (pc := 1) hx hb dX5_copyFrom_1 rfl hl (by decide) rfl (fun ls hl => ?_)
  obtain ⟨f, h⟩ := h
  exact L2 f _ _ _ _ _ _ _ h hP hS (lv_sub hl [1, 2, 0] rfl)
/-! ForgeHeats$Shop.settle (I)I -/
def wpB_X5_settle_38 (n : Nat) (P : Int32 → Mem → Prop) (R_ : Mem → Nat → Int32 → Prop) (M : Mem) (x0 : Nat) (x2 : Int32) : Prop := m_tp n x0 5 ∧ (((((M.1 x0 5) - 1) ≤ x2 → P x2 M) ∧ (¬ ((M.1 x0 5) - 1) ≤ x2 → wp_X5_jobAt n M x0 (x2 + 1) (fun j3 M2 => wp_X5_jobAt n M2 x0 x2 (fun j5 M4 => m_tp n j3 3 ∧ (wp_X3_comesBefore n M4 j3 j5 (fun z8 M6 => ((z8 = false → P x2 M6) ∧ (z8 = true → wp_X5_swapJobs n M6 x0 x2 (x2 + 1) (fun M9 => ∀ v11 : Int32, v11 = x2 + 1 → (R_ M9 x0 v11)))))))))))
def wpL_X5_settle_38 (n : Nat) (P : Int32 → Mem → Prop) : Nat → Mem → Nat → Int32 → Prop
  | 0 => fun _ _ _ => False
  | f + 1 => fun M x0 x2 => wpB_X5_settle_38 n P (wpL_X5_settle_38 n P f) M x0 x2
def wpB_X5_settle_2 (n : Nat) (P : Int32 → Mem → Prop) (R_ : Mem → Nat → Int32 → Prop) (M : Mem) (x0 : Nat) (x2 : Int32) : Prop := ((x2 ≤ 0 → ∃ f : Nat, wpL_X5_settle_38 n P f M x0 x2) ∧ (¬ x2 ≤ 0 → m_tp n x0 5 ∧ (wp_X5_jobAt n M x0 x2 (fun j14 M12 => wp_X5_jobAt n M12 x0 (x2 - 1) (fun j16 M15 => m_tp n j14 3 ∧ (wp_X3_comesBefore n M15 j14 j16 (fun z19 M17 => ((z19 = false → ∃ f : Nat, wpL_X5_settle_38 n P f M17 x0 x2) ∧ (z19 = true → wp_X5_swapJobs n M17 x0 x2 (x2 - 1) (fun M20 => ∀ v22 : Int32, v22 = x2 + (-1) → (R_ M20 x0 v22)))))))))))
def wpL_X5_settle_2 (n : Nat) (P : Int32 → Mem → Prop) : Nat → Mem → Nat → Int32 → Prop
  | 0 => fun _ _ _ => False
  | f + 1 => fun M x0 x2 => wpB_X5_settle_2 n P (wpL_X5_settle_2 n P f) M x0 x2
def wp_X5_settle (n : Nat) (M : Mem) (i : Nat) (p1 : Int32) (P : Int32 → Mem → Prop) : Prop := ∃ f : Nat, wpL_X5_settle_2 n P f M i p1
abbrev rm_X5_settle : Room := { frames := 1, cells := 0, slots := 0, locals := 23 }
set_option maxHeartbeats 4000000 in
set_option maxRecDepth 100000 in
theorem c_X5_settle {l : Launch} {D : va_G} {cA : Nat → ClassId} {b n : Nat} {M : Mem} {i : Nat} {p1 : Int32} {P : Int32 → Mem → Prop} (h : wp_X5_settle n M i p1 P) : m_C l D cA b n n M yX5_settle cX5_settle 3 (some .int) rm_X5_settle 0 0 [.ref (b + i), .int p1] (rI P) := by
  refine m_enter (by decide) (Nat.le_of_ble_eq_true rfl) (fun p e s m below meth c C hr hlk hnm hK hP hS ls hl => ?_)
  have hx := C.1
  have hb := C.2.1
  have hl : lv_has ls 3 [(0, .ref (b + i)), (1, .int p1)] := hl
  have L38 : ∀ f : Nat, ∀ (M : Mem) (H : Heap) (locs : List Loc) (ls : Array Slot) (x0 : Nat) (x2 : Int32), wpL_X5_settle_38 n P f M x0 x2 → m_H D cA b n M H → va_S (m_A b) s.heap H locs → lv_has ls 3 [(0, .ref (b + x0)), (2, .int x2)] → W p l e rm_X5_settle s m ([.ref (b + i), .int p1] : List Value).toArray below meth c H locs 0 0 (MQ below (m_Q D cA b n (rI P)) ([.ref (b + i), .int p1] : List Value).toArray s 0 0 (m_A b)) (F0 m 38 ls []) := by
    clear h
    intro f
    induction f with
    | zero => intro M H locs ls x0 x2 h; exact h.elim
    | succ f ih =>
      intro M H locs ls x0 x2 h hP hS hl
      have h : wpB_X5_settle_38 n P (wpL_X5_settle_38 n P f) M x0 x2 := h
      unfold wpB_X5_settle_38 at h
      refine lv_iload_n (pc := 38) hx hb dX5_settle_38 rfl (lv_at hl 1 rfl) ?_
      refine lv_aload_n (pc := 39) hx hb dX5_settle_39 rfl (lv_at hl 0 rfl) ?_
      obtain ⟨hk1, h⟩ := h
      refine gX5_83 (pc := 40) C hK hP hk1 dX5_settle_40 ?_
      refine lv_iconst (v := 1) (pc := 43) hx hb dX5_settle_43 (by decide) ?_
      refine lv_isub (pc := 44) hx hb dX5_settle_44 ?_
      refine lv_icmp_ge (tgt := 80) (pc := 45) hx hb dX5_settle_45 (by decide) (fun c45 => ?_) (fun c45 => ?_)
      · replace h := h.1 c45
        refine lv_iload_n (pc := 80) hx hb dX5_settle_80 rfl (lv_at hl 1 rfl) ?_
        exact m_iret (v := x2) (pc := 81) C hr hlk hP hS dX5_settle_81 h
      · replace h := h.2 c45
        refine lv_aload_n (pc := 48) hx hb dX5_settle_48 rfl (lv_at hl 0 rfl) ?_
        refine lv_iload_n (pc := 49) hx hb dX5_settle_49 rfl (lv_at hl 1 rfl) ?_
        refine lv_iconst (v := 1) (pc := 50) hx hb dX5_settle_50 (by decide) ?_
        refine lv_iadd (pc := 51) hx hb dX5_settle_51 ?_
        refine m_callVR (pc := 52) (y := yX5_jobAt) (κ := 5) (As := [.int (x2 + 1)]) (rest := []) C hK hP hS hl.1 ⟨Nat.zero_le _, Nat.zero_le _⟩ (c_X5_jobAt h) rfl rfl hk1 (by decide) rfl q_363 q_364 q_365 q_2 q_366 ⟨rfl, rfl⟩ yd_X5_jobAt ⟨Nat.le_of_ble_eq_true rfl, Nat.le_of_ble_eq_true rfl⟩ (Nat.le_of_ble_eq_true rfl) dX5_settle_52 (fun j3 M2 H locs h hP hS => ?_)
        refine lv_aload_n (pc := 55) hx hb dX5_settle_55 rfl (lv_at hl 0 rfl) ?_
        refine lv_iload_n (pc := 56) hx hb dX5_settle_56 rfl (lv_at hl 1 rfl) ?_
        refine m_callVR (pc := 57) (y := yX5_jobAt) (κ := 5) (As := [.int x2]) (rest := [.ref (b + j3)]) C hK hP hS hl.1 ⟨Nat.zero_le _, Nat.zero_le _⟩ (c_X5_jobAt h) rfl rfl hk1 (by decide) rfl q_363 q_364 q_365 q_2 q_366 ⟨rfl, rfl⟩ yd_X5_jobAt ⟨Nat.le_of_ble_eq_true rfl, Nat.le_of_ble_eq_true rfl⟩ (Nat.le_of_ble_eq_true rfl) dX5_settle_57 (fun j5 M4 H locs h hP hS => ?_)
        obtain ⟨hk7, h⟩ := h
        refine m_callVZ (pc := 60) (y := yX3_comesBefore) (κ := 3) (As := [.ref (b + j5)]) (rest := []) C hK hP hS hl.1 ⟨Nat.zero_le _, Nat.zero_le _⟩ (c_X3_comesBefore h) rfl rfl hk7 (by decide) rfl q_616 q_617 q_618 q_5 q_619 ⟨rfl, rfl⟩ yd_X3_comesBefore ⟨Nat.le_of_ble_eq_true rfl, Nat.le_of_ble_eq_true rfl⟩ (Nat.le_of_ble_eq_true rfl) dX5_settle_60 (fun z8 M6 H locs h hP hS => ?_)
        refine lv_if_eq (tgt := 80) (pc := 63) hx hb dX5_settle_63 (by decide) (fun c63 => ?_) (fun c63 => ?_)
        · replace h := h.1 (bZ0 c63)
          refine lv_iload_n (pc := 80) hx hb dX5_settle_80 rfl (lv_at hl 1 rfl) ?_
          exact m_iret (v := x2) (pc := 81) C hr hlk hP hS dX5_settle_81 h
        · replace h := h.2 (bZ1 c63)
          refine lv_aload_n (pc := 66) hx hb dX5_settle_66 rfl (lv_at hl 0 rfl) ?_
          refine lv_iload_n (pc := 67) hx hb dX5_settle_67 rfl (lv_at hl 1 rfl) ?_
          refine lv_iload_n (pc := 68) hx hb dX5_settle_68 rfl (lv_at hl 1 rfl) ?_
          refine lv_iconst (v := 1) (pc := 69) hx hb dX5_settle_69 (by decide) ?_
          refine lv_iadd (pc := 70) hx hb dX5_settle_70 ?_
          refine m_callVV (pc := 71) (y := yX5_swapJobs) (κ := 5) (As := [.int x2, .int (x2 + 1)]) (rest := []) C hK hP hS hl.1 ⟨Nat.zero_le _, Nat.zero_le _⟩ (c_X5_swapJobs h) rfl rfl hk1 (by decide) rfl q_600 q_602 q_s11 q_2 q_603 ⟨rfl, rfl⟩ yd_X5_swapJobs ⟨Nat.le_of_ble_eq_true rfl, Nat.le_of_ble_eq_true rfl⟩ (Nat.le_of_ble_eq_true rfl) dX5_settle_71 (fun M9 H locs h hP hS => ?_)
          obtain ⟨v11, ev11⟩ : ∃ y : Int32, y = x2 + 1 := ⟨_, rfl⟩
          replace h := h v11 ev11
          refine lv_iinc (v := v11) (lv' := [(2, .int v11), (0, .ref (b + x0))]) (pc := 74) hx hb dX5_settle_74 hl (k := 1) rfl (by rw [ev11]; rfl) (by decide) rfl (fun ls hl => ?_)
          refine lv_goto (tgt := 38) (pc := 77) hx hb dX5_settle_77 (by decide) ?_
          exact ih _ _ _ _ _ _ h hP hS (lv_sub hl [1, 0] rfl)
  have L2 : ∀ f : Nat, ∀ (M : Mem) (H : Heap) (locs : List Loc) (ls : Array Slot) (x0 : Nat) (x2 : Int32), wpL_X5_settle_2 n P f M x0 x2 → m_H D cA b n M H → va_S (m_A b) s.heap H locs → lv_has ls 3 [(0, .ref (b + x0)), (2, .int x2)] → W p l e rm_X5_settle s m ([.ref (b + i), .int p1] : List Value).toArray below meth c H locs 0 0 (MQ below (m_Q D cA b n (rI P)) ([.ref (b + i), .int p1] : List Value).toArray s 0 0 (m_A b)) (F0 m 2 ls []) := by
    clear h
    intro f
    induction f with
    | zero => intro M H locs ls x0 x2 h; exact h.elim
    | succ f ih =>
      intro M H locs ls x0 x2 h hP hS hl
      have h : wpB_X5_settle_2 n P (wpL_X5_settle_2 n P f) M x0 x2 := h
      unfold wpB_X5_settle_2 at h
      refine lv_iload_n (pc := 2) hx hb dX5_settle_2 rfl (lv_at hl 1 rfl) ?_
      refine lv_if_le (tgt := 38) (pc := 3) hx hb dX5_settle_3 (by decide) (fun c3 => ?_) (fun c3 => ?_)
      · replace h := h.1 c3
        obtain ⟨f, h⟩ := h
        exact L38 f _ _ _ _ _ _ h hP hS (lv_sub hl [0, 1] rfl)
      · replace h := h.2 c3
        refine lv_aload_n (pc := 6) hx hb dX5_settle_6 rfl (lv_at hl 0 rfl) ?_
        refine lv_iload_n (pc := 7) hx hb dX5_settle_7 rfl (lv_at hl 1 rfl) ?_
        obtain ⟨hk13, h⟩ := h
        refine m_callVR (pc := 8) (y := yX5_jobAt) (κ := 5) (As := [.int x2]) (rest := []) C hK hP hS hl.1 ⟨Nat.zero_le _, Nat.zero_le _⟩ (c_X5_jobAt h) rfl rfl hk13 (by decide) rfl q_363 q_364 q_365 q_2 q_366 ⟨rfl, rfl⟩ yd_X5_jobAt ⟨Nat.le_of_ble_eq_true rfl, Nat.le_of_ble_eq_true rfl⟩ (Nat.le_of_ble_eq_true rfl) dX5_settle_8 (fun j14 M12 H locs h hP hS => ?_)
        refine lv_aload_n (pc := 11) hx hb dX5_settle_11 rfl (lv_at hl 0 rfl) ?_
        refine lv_iload_n (pc := 12) hx hb dX5_settle_12 rfl (lv_at hl 1 rfl) ?_
        refine lv_iconst (v := 1) (pc := 13) hx hb dX5_settle_13 (by decide) ?_
        refine lv_isub (pc := 14) hx hb dX5_settle_14 ?_
        refine m_callVR (pc := 15) (y := yX5_jobAt) (κ := 5) (As := [.int (x2 - 1)]) (rest := [.ref (b + j14)]) C hK hP hS hl.1 ⟨Nat.zero_le _, Nat.zero_le _⟩ (c_X5_jobAt h) rfl rfl hk13 (by decide) rfl q_363 q_364 q_365 q_2 q_366 ⟨rfl, rfl⟩ yd_X5_jobAt ⟨Nat.le_of_ble_eq_true rfl, Nat.le_of_ble_eq_true rfl⟩ (Nat.le_of_ble_eq_true rfl) dX5_settle_15 (fun j16 M15 H locs h hP hS => ?_)
        obtain ⟨hk18, h⟩ := h
        refine m_callVZ (pc := 18) (y := yX3_comesBefore) (κ := 3) (As := [.ref (b + j16)]) (rest := []) C hK hP hS hl.1 ⟨Nat.zero_le _, Nat.zero_le _⟩ (c_X3_comesBefore h) rfl rfl hk18 (by decide) rfl q_616 q_617 q_618 q_5 q_619 ⟨rfl, rfl⟩ yd_X3_comesBefore ⟨Nat.le_of_ble_eq_true rfl, Nat.le_of_ble_eq_true rfl⟩ (Nat.le_of_ble_eq_true rfl) dX5_settle_18 (fun z19 M17 H locs h hP hS => ?_)
        refine lv_if_eq (tgt := 38) (pc := 21) hx hb dX5_settle_21 (by decide) (fun c21 => ?_) (fun c21 => ?_)
        · replace h := h.1 (bZ0 c21)
          obtain ⟨f, h⟩ := h
          exact L38 f _ _ _ _ _ _ h hP hS (lv_sub hl [0, 1] rfl)
        · replace h := h.2 (bZ1 c21)
          refine lv_aload_n (pc := 24) hx hb dX5_settle_24 rfl (lv_at hl 0 rfl) ?_
          refine lv_iload_n (pc := 25) hx hb dX5_settle_25 rfl (lv_at hl 1 rfl) ?_
          refine lv_iload_n (pc := 26) hx hb dX5_settle_26 rfl (lv_at hl 1 rfl) ?_
          refine lv_iconst (v := 1) (pc := 27) hx hb dX5_settle_27 (by decide) ?_
          refine lv_isub (pc := 28) hx hb dX5_settle_28 ?_
          refine m_callVV (pc := 29) (y := yX5_swapJobs) (κ := 5) (As := [.int x2, .int (x2 - 1)]) (rest := []) C hK hP hS hl.1 ⟨Nat.zero_le _, Nat.zero_le _⟩ (c_X5_swapJobs h) rfl rfl hk13 (by decide) rfl q_600 q_602 q_s11 q_2 q_603 ⟨rfl, rfl⟩ yd_X5_swapJobs ⟨Nat.le_of_ble_eq_true rfl, Nat.le_of_ble_eq_true rfl⟩ (Nat.le_of_ble_eq_true rfl) dX5_settle_29 (fun M20 H locs h hP hS => ?_)
          obtain ⟨v22, ev22⟩ : ∃ y : Int32, y = x2 + (-1) := ⟨_, rfl⟩
          replace h := h v22 ev22
          refine lv_iinc (v := v22) (lv' := [(2, .int v22), (0, .ref (b + x0))]) (pc := 32) hx hb dX5_settle_32 hl (k := 1) rfl (by rw [ev22]; rfl) (by decide) rfl (fun ls hl => ?_)
          refine lv_goto (tgt := 2) (pc := 35) hx hb dX5_settle_35 (by decide) ?_
          exact ih _ _ _ _ _ _ h hP hS (lv_sub hl [1, 0] rfl)
  unfold wp_X5_settle at h
  refine lv_iload_n (pc := 0) hx hb dX5_settle_0 rfl (lv_at hl 1 rfl) ?_
  refine lv_istore_n (lv' := [(2, .int p1), (0, .ref (b + i)), (1, .int p1)]) (pc := 1) hx hb dX5_settle_1 rfl hl (by decide) rfl (fun ls hl => ?_)
  obtain ⟨f, h⟩ := h
  exact L2 f _ _ _ _ _ _ h hP hS (lv_sub hl [1, 0] rfl)
/-! ForgeHeats$Shop.heatProperty (II)I -/
def wp_X5_heatProperty (n : Nat) (M : Mem) (i : Nat) (p1 : Int32) (p2 : Int32) (P : Int32 → Mem → Prop) : Prop := m_tp n i 5 ∧ (wp_X5_heatAt n M i p1 (fun j3 M1 => ((p2 = 0 → m_tp n j3 2 ∧ (P (M1.1 j3 0) M1)) ∧ (¬ p2 = 0 → ((p2 = 1 → m_tp n j3 2 ∧ (P (M1.1 j3 1) M1)) ∧ (¬ p2 = 1 → ((p2 = 2 → m_tp n j3 2 ∧ (P (M1.1 j3 2) M1)) ∧ (¬ p2 = 2 → ((p2 = 3 → wp_X5_countBilletsOf n M1 i p1 (fun r8 M7 => P r8 M7)) ∧ (¬ p2 = 3 → ((p2 = 4 → m_tp n j3 2 ∧ (P (M1.1 j3 3) M1)) ∧ (¬ p2 = 4 → ((p2 = 5 → m_tp n j3 2 ∧ (P (M1.1 j3 4) M1)) ∧ (¬ p2 = 5 → wp_X5_countLackOf n M1 i p1 (fun r12 M11 => P r12 M11)))))))))))))))
abbrev rm_X5_heatProperty : Room := { frames := 2, cells := 0, slots := 0, locals := 46 }
set_option maxHeartbeats 4000000 in
set_option maxRecDepth 100000 in
theorem c_X5_heatProperty {l : Launch} {D : va_G} {cA : Nat → ClassId} {b n : Nat} {M : Mem} {i : Nat} {p1 : Int32} {p2 : Int32} {P : Int32 → Mem → Prop} (h : wp_X5_heatProperty n M i p1 p2 P) : m_C l D cA b n n M yX5_heatProperty cX5_heatProperty 4 (some .int) rm_X5_heatProperty 0 0 [.ref (b + i), .int p1, .int p2] (rI P) := by
  refine m_enter (by decide) (Nat.le_of_ble_eq_true rfl) (fun p e s m below meth c C hr hlk hnm hK hP hS ls hl => ?_)
  have hx := C.1
  have hb := C.2.1
  have hl : lv_has ls 4 [(0, .ref (b + i)), (1, .int p1), (2, .int p2)] := hl
  unfold wp_X5_heatProperty at h
  refine lv_aload_n (pc := 0) hx hb dX5_heatProperty_0 rfl (lv_at hl 0 rfl) ?_
  refine lv_iload_n (pc := 1) hx hb dX5_heatProperty_1 rfl (lv_at hl 1 rfl) ?_
  obtain ⟨hk2, h⟩ := h
  refine m_callVR (pc := 2) (y := yX5_heatAt) (κ := 5) (As := [.int p1]) (rest := []) C hK hP hS hl.1 ⟨Nat.zero_le _, Nat.zero_le _⟩ (c_X5_heatAt h) rfl rfl hk2 (by decide) rfl q_347 q_348 q_349 q_2 q_350 ⟨rfl, rfl⟩ yd_X5_heatAt ⟨Nat.le_of_ble_eq_true rfl, Nat.le_of_ble_eq_true rfl⟩ (Nat.le_of_ble_eq_true rfl) dX5_heatProperty_2 (fun j3 M1 H locs h hP hS => ?_)
  refine lv_astore_n (lv' := [(3, .ref (b + j3)), (0, .ref (b + i)), (1, .int p1), (2, .int p2)]) (pc := 5) hx hb dX5_heatProperty_5 rfl hl (by decide) rfl (fun ls hl => ?_)
  refine lv_iload_n (pc := 6) hx hb dX5_heatProperty_6 rfl (lv_at hl 3 rfl) ?_
  by_cases n7_0 : p2 = 0
  · replace h := h.1 n7_0
    refine m_case (v := 0) (off := 37) (tgt := 44) (pc := 7) hx hb n7_0 dX5_heatProperty_7 (by decide) (by decide) (by decide) (by decide) ?_
    refine lv_aload_n (pc := 44) hx hb dX5_heatProperty_44 rfl (lv_at hl 0 rfl) ?_
    obtain ⟨hk4, h⟩ := h
    refine gX5_170 (pc := 45) C hK hP hk4 dX5_heatProperty_45 ?_
    exact m_iret (v := M1.1 j3 0) (pc := 48) C hr hlk hP hS dX5_heatProperty_48 h
  · replace h := h.2 n7_0
    by_cases n7_1 : p2 = 1
    · replace h := h.1 n7_1
      refine m_case (v := 1) (off := 42) (tgt := 49) (pc := 7) hx hb n7_1 dX5_heatProperty_7 (by decide) (by decide) (by decide) (by decide) ?_
      refine lv_aload_n (pc := 49) hx hb dX5_heatProperty_49 rfl (lv_at hl 0 rfl) ?_
      obtain ⟨hk5, h⟩ := h
      refine gX5_173 (pc := 50) C hK hP hk5 dX5_heatProperty_50 ?_
      exact m_iret (v := M1.1 j3 1) (pc := 53) C hr hlk hP hS dX5_heatProperty_53 h
    · replace h := h.2 n7_1
      by_cases n7_2 : p2 = 2
      · replace h := h.1 n7_2
        refine m_case (v := 2) (off := 47) (tgt := 54) (pc := 7) hx hb n7_2 dX5_heatProperty_7 (by decide) (by decide) (by decide) (by decide) ?_
        refine lv_aload_n (pc := 54) hx hb dX5_heatProperty_54 rfl (lv_at hl 0 rfl) ?_
        obtain ⟨hk6, h⟩ := h
        refine gX5_176 (pc := 55) C hK hP hk6 dX5_heatProperty_55 ?_
        exact m_iret (v := M1.1 j3 2) (pc := 58) C hr hlk hP hS dX5_heatProperty_58 h
      · replace h := h.2 n7_2
        by_cases n7_3 : p2 = 3
        · replace h := h.1 n7_3
          refine m_case (v := 3) (off := 52) (tgt := 59) (pc := 7) hx hb n7_3 dX5_heatProperty_7 (by decide) (by decide) (by decide) (by decide) ?_
          refine lv_aload_n (pc := 59) hx hb dX5_heatProperty_59 rfl (lv_at hl 1 rfl) ?_
          refine lv_iload_n (pc := 60) hx hb dX5_heatProperty_60 rfl (lv_at hl 2 rfl) ?_
          refine m_callVI (pc := 61) (y := yX5_countBilletsOf) (κ := 5) (As := [.int p1]) (rest := []) C hK hP hS hl.1 ⟨Nat.zero_le _, Nat.zero_le _⟩ (c_X5_countBilletsOf h) rfl rfl hk2 (by decide) rfl q_476 q_478 q_s4 q_2 q_479 ⟨rfl, rfl⟩ yd_X5_countBilletsOf ⟨Nat.le_of_ble_eq_true rfl, Nat.le_of_ble_eq_true rfl⟩ (Nat.le_of_ble_eq_true rfl) dX5_heatProperty_61 (fun r8 M7 H locs h hP hS => ?_)
          exact m_iret (v := r8) (pc := 64) C hr hlk hP hS dX5_heatProperty_64 h
        · replace h := h.2 n7_3
          by_cases n7_4 : p2 = 4
          · replace h := h.1 n7_4
            refine m_case (v := 4) (off := 58) (tgt := 65) (pc := 7) hx hb n7_4 dX5_heatProperty_7 (by decide) (by decide) (by decide) (by decide) ?_
            refine lv_aload_n (pc := 65) hx hb dX5_heatProperty_65 rfl (lv_at hl 0 rfl) ?_
            obtain ⟨hk9, h⟩ := h
            refine gX5_169 (pc := 66) C hK hP hk9 dX5_heatProperty_66 ?_
            exact m_iret (v := M1.1 j3 3) (pc := 69) C hr hlk hP hS dX5_heatProperty_69 h
          · replace h := h.2 n7_4
            by_cases n7_5 : p2 = 5
            · replace h := h.1 n7_5
              refine m_case (v := 5) (off := 63) (tgt := 70) (pc := 7) hx hb n7_5 dX5_heatProperty_7 (by decide) (by decide) (by decide) (by decide) ?_
              refine lv_aload_n (pc := 70) hx hb dX5_heatProperty_70 rfl (lv_at hl 0 rfl) ?_
              obtain ⟨hk10, h⟩ := h
              refine gX5_162 (pc := 71) C hK hP hk10 dX5_heatProperty_71 ?_
              exact m_iret (v := M1.1 j3 4) (pc := 74) C hr hlk hP hS dX5_heatProperty_74 h
            · replace h := h.2 n7_5
              refine lv_tableOut (tgt := 75) (pc := 7) hx hb dX5_heatProperty_7 (by have i0 := i_ne n7_0; have i1 := i_ne n7_1; have i2 := i_ne n7_2; have i3 := i_ne n7_3; have i4 := i_ne n7_4; have i5 := i_ne n7_5; simp only [m_lit] at *; omega) (by decide) ?_
              refine lv_aload_n (pc := 75) hx hb dX5_heatProperty_75 rfl (lv_at hl 1 rfl) ?_
              refine lv_iload_n (pc := 76) hx hb dX5_heatProperty_76 rfl (lv_at hl 2 rfl) ?_
              refine m_callVI (pc := 77) (y := yX5_countLackOf) (κ := 5) (As := [.int p1]) (rest := []) C hK hP hS hl.1 ⟨Nat.zero_le _, Nat.zero_le _⟩ (c_X5_countLackOf h) rfl rfl hk2 (by decide) rfl q_480 q_482 q_s5 q_2 q_483 ⟨rfl, rfl⟩ yd_X5_countLackOf ⟨Nat.le_of_ble_eq_true rfl, Nat.le_of_ble_eq_true rfl⟩ (Nat.le_of_ble_eq_true rfl) dX5_heatProperty_77 (fun r12 M11 H locs h hP hS => ?_)
              exact m_iret (v := r12) (pc := 80) C hr hlk hP hS dX5_heatProperty_80 h
/-! ForgeHeats$Shop.reasonToWait (LForgeHeats$Job;)I -/
def wp_X5_reasonToWait (n : Nat) (M : Mem) (i : Nat) (p1 : Nat) (P : Int32 → Mem → Prop) : Prop := m_tp n p1 3 ∧ (m_tp n i 5 ∧ (wp_X5_dieAt n M i (M.1 p1 1) (fun j4 M2 => ∃ j5 : Nat, M2.2.1 i 4 = some j5 ∧ (m_tp n j5 0 ∧ (((¬ (M2.1 j5 0) = (M2.1 p1 0) → m_tp n j4 1 ∧ (wp_X1_isBeingGround n M2 j4 (fun z9 M7 => ((z9 = false → wp_X1_isWornOut n M7 j4 (fun z11 M10 => ((z11 = false → ((¬ (M10.1 p1 7) = 0 → wp_X5_hottestReady n M10 i p1 (fun o13 M12 => ((o13 = none → P 4 M12) ∧ (∀ j14 : Nat, o13 = some j14 → ∃ j15 : Nat, M12.2.1 i 4 = some j15 ∧ (m_tp n j15 0 ∧ (P (if (M12.1 j15 0) = (-1) then 6 else 5) M12)))))) ∧ ((M10.1 p1 7) = 0 → wp_X5_heatAt n M10 i (M10.1 p1 2) (fun j18 M17 => m_tp n j18 2 ∧ (((¬ (M17.1 j18 0) = 0 → wp_X5_hottestReady n M17 i p1 (fun o21 M20 => ((o21 = none → P 4 M20) ∧ (∀ j22 : Nat, o21 = some j22 → ∃ j23 : Nat, M20.2.1 i 4 = some j23 ∧ (m_tp n j23 0 ∧ (P (if (M20.1 j23 0) = (-1) then 6 else 5) M20)))))) ∧ ((M17.1 j18 0) = 0 → P 3 M17))))))) ∧ (z11 = true → P 2 M10)))) ∧ (z9 = true → P 1 M7))))) ∧ ((M2.1 j5 0) = (M2.1 p1 0) → P 0 M2)))))))
abbrev rm_X5_reasonToWait : Room := { frames := 2, cells := 0, slots := 0, locals := 49 }
set_option maxHeartbeats 4000000 in
set_option maxRecDepth 100000 in
theorem c_X5_reasonToWait {l : Launch} {D : va_G} {cA : Nat → ClassId} {b n : Nat} {M : Mem} {i : Nat} {p1 : Nat} {P : Int32 → Mem → Prop} (h : wp_X5_reasonToWait n M i p1 P) : m_C l D cA b n n M yX5_reasonToWait cX5_reasonToWait 3 (some .int) rm_X5_reasonToWait 0 0 [.ref (b + i), .ref (b + p1)] (rI P) := by
  refine m_enter (by decide) (Nat.le_of_ble_eq_true rfl) (fun p e s m below meth c C hr hlk hnm hK hP hS ls hl => ?_)
  have hx := C.1
  have hb := C.2.1
  have hl : lv_has ls 3 [(0, .ref (b + i)), (1, .ref (b + p1))] := hl
  unfold wp_X5_reasonToWait at h
  refine lv_aload_n (pc := 0) hx hb dX5_reasonToWait_0 rfl (lv_at hl 0 rfl) ?_
  refine lv_aload_n (pc := 1) hx hb dX5_reasonToWait_1 rfl (lv_at hl 1 rfl) ?_
  obtain ⟨hk1, h⟩ := h
  refine gX5_125 (pc := 2) C hK hP hk1 dX5_reasonToWait_2 ?_
  obtain ⟨hk3, h⟩ := h
  refine m_callVR (pc := 5) (y := yX5_dieAt) (κ := 5) (As := [.int (M.1 p1 1)]) (rest := []) C hK hP hS hl.1 ⟨Nat.zero_le _, Nat.zero_le _⟩ (c_X5_dieAt h) rfl rfl hk3 (by decide) rfl q_355 q_356 q_357 q_2 q_358 ⟨rfl, rfl⟩ yd_X5_dieAt ⟨Nat.le_of_ble_eq_true rfl, Nat.le_of_ble_eq_true rfl⟩ (Nat.le_of_ble_eq_true rfl) dX5_reasonToWait_5 (fun j4 M2 H locs h hP hS => ?_)
  refine lv_astore_n (lv' := [(2, .ref (b + j4)), (0, .ref (b + i)), (1, .ref (b + p1))]) (pc := 8) hx hb dX5_reasonToWait_8 rfl hl (by decide) rfl (fun ls hl => ?_)
  refine lv_aload_n (pc := 9) hx hb dX5_reasonToWait_9 rfl (lv_at hl 1 rfl) ?_
  obtain ⟨j5, hj5, h⟩ := h
  refine gX5_52 (pc := 10) C hK hP hk3 hj5 dX5_reasonToWait_10 ?_
  obtain ⟨hk6, h⟩ := h
  refine gX5_159 (pc := 13) C hK hP hk6 dX5_reasonToWait_13 ?_
  refine lv_aload_n (pc := 16) hx hb dX5_reasonToWait_16 rfl (lv_at hl 2 rfl) ?_
  refine gX5_122 (pc := 17) C hK hP hk1 dX5_reasonToWait_17 ?_
  refine lv_icmp_ne (tgt := 25) (pc := 20) hx hb dX5_reasonToWait_20 (by decide) (fun c20 => ?_) (fun c20 => ?_)
  · replace h := h.1 c20
    refine lv_aload_n (pc := 25) hx hb dX5_reasonToWait_25 rfl (lv_at hl 0 rfl) ?_
    obtain ⟨hk8, h⟩ := h
    refine m_callVZ (pc := 26) (y := yX1_isBeingGround) (κ := 1) (As := []) (rest := []) C hK hP hS hl.1 ⟨Nat.zero_le _, Nat.zero_le _⟩ (c_X1_isBeingGround h) rfl rfl hk8 (by decide) rfl q_430 q_431 q_432 q_4 q_433 ⟨rfl, rfl⟩ yd_X1_isBeingGround ⟨Nat.le_of_ble_eq_true rfl, Nat.le_of_ble_eq_true rfl⟩ (Nat.le_of_ble_eq_true rfl) dX5_reasonToWait_26 (fun z9 M7 H locs h hP hS => ?_)
    refine lv_if_eq (tgt := 34) (pc := 29) hx hb dX5_reasonToWait_29 (by decide) (fun c29 => ?_) (fun c29 => ?_)
    · replace h := h.1 (bZ0 c29)
      refine lv_aload_n (pc := 34) hx hb dX5_reasonToWait_34 rfl (lv_at hl 0 rfl) ?_
      refine m_callVZ (pc := 35) (y := yX1_isWornOut) (κ := 1) (As := []) (rest := []) C hK hP hS hl.1 ⟨Nat.zero_le _, Nat.zero_le _⟩ (c_X1_isWornOut h) rfl rfl hk8 (by decide) rfl q_521 q_522 q_523 q_4 q_524 ⟨rfl, rfl⟩ yd_X1_isWornOut ⟨Nat.le_of_ble_eq_true rfl, Nat.le_of_ble_eq_true rfl⟩ (Nat.le_of_ble_eq_true rfl) dX5_reasonToWait_35 (fun z11 M10 H locs h hP hS => ?_)
      refine lv_if_eq (tgt := 43) (pc := 38) hx hb dX5_reasonToWait_38 (by decide) (fun c38 => ?_) (fun c38 => ?_)
      · replace h := h.1 (bZ0 c38)
        refine lv_aload_n (pc := 43) hx hb dX5_reasonToWait_43 rfl (lv_at hl 2 rfl) ?_
        refine gX5_144 (pc := 44) C hK hP hk1 dX5_reasonToWait_44 ?_
        refine lv_if_ne (tgt := 66) (pc := 47) hx hb dX5_reasonToWait_47 (by decide) (fun c47 => ?_) (fun c47 => ?_)
        · replace h := h.1 c47
          refine lv_aload_n (pc := 66) hx hb dX5_reasonToWait_66 rfl (lv_at hl 1 rfl) ?_
          refine lv_aload_n (pc := 67) hx hb dX5_reasonToWait_67 rfl (lv_at hl 2 rfl) ?_
          refine m_callVO (pc := 68) (y := yX5_hottestReady) (κ := 5) (As := [.ref (b + p1)]) (rest := []) C hK hP hS hl.1 ⟨Nat.zero_le _, Nat.zero_le _⟩ (c_X5_hottestReady h) rfl rfl hk3 (by decide) rfl q_525 q_527 q_s7 q_2 q_528 ⟨rfl, rfl⟩ yd_X5_hottestReady ⟨Nat.le_of_ble_eq_true rfl, Nat.le_of_ble_eq_true rfl⟩ (Nat.le_of_ble_eq_true rfl) dX5_reasonToWait_68 (fun o13 M12 H locs h hP hS => ?_)
          rcases eo : o13 with _ | j14
          · replace h := h.1 eo
            refine lv_ifnonnullN (pc := 71) hx hb dX5_reasonToWait_71 ?_
            refine lv_iconst (v := 4) (pc := 74) hx hb dX5_reasonToWait_74 (by decide) ?_
            exact m_iret (v := 4) (pc := 75) C hr hlk hP hS dX5_reasonToWait_75 h
          · replace h := h.2 j14 eo
            refine lv_ifnonnull (tgt := 76) (pc := 71) hx hb dX5_reasonToWait_71 (by decide) ?_
            refine lv_aload_n (pc := 76) hx hb dX5_reasonToWait_76 rfl (lv_at hl 1 rfl) ?_
            obtain ⟨j15, hj15, h⟩ := h
            refine gX5_52 (pc := 77) C hK hP hk3 hj15 dX5_reasonToWait_77 ?_
            obtain ⟨hk16, h⟩ := h
            refine gX5_159 (pc := 80) C hK hP hk16 dX5_reasonToWait_80 ?_
            refine lv_iconst (v := -1) (pc := 83) hx hb dX5_reasonToWait_83 (by decide) ?_
            refine m_join (v := if (M12.1 j15 0) = (-1) then 6 else 5) (jp := 93) (rest := []) ?_ (fun hJ => ?_)
            rotate_left
            · skip
              refine lv_icmp_eq (tgt := 91) (pc := 84) hx hb dX5_reasonToWait_84 (by decide) (fun c84 => ?_) (fun c84 => ?_)
              · skip
                refine lv_bipush (v := 6) (pc := 91) hx hb dX5_reasonToWait_91 (by decide) ?_
                exact hJ _ (by rw [if_pos c84])
              · skip
                refine lv_iconst (v := 5) (pc := 87) hx hb dX5_reasonToWait_87 (by decide) ?_
                refine lv_goto (tgt := 93) (pc := 88) hx hb dX5_reasonToWait_88 (by decide) ?_
                exact hJ _ (by rw [if_neg c84])
            exact m_iret (v := if (M12.1 j15 0) = (-1) then 6 else 5) (pc := 93) C hr hlk hP hS dX5_reasonToWait_93 h
        · replace h := h.2 c47
          refine lv_aload_n (pc := 50) hx hb dX5_reasonToWait_50 rfl (lv_at hl 1 rfl) ?_
          refine lv_aload_n (pc := 51) hx hb dX5_reasonToWait_51 rfl (lv_at hl 2 rfl) ?_
          refine gX5_128 (pc := 52) C hK hP hk1 dX5_reasonToWait_52 ?_
          refine m_callVR (pc := 55) (y := yX5_heatAt) (κ := 5) (As := [.int (M10.1 p1 2)]) (rest := []) C hK hP hS hl.1 ⟨Nat.zero_le _, Nat.zero_le _⟩ (c_X5_heatAt h) rfl rfl hk3 (by decide) rfl q_347 q_348 q_349 q_2 q_350 ⟨rfl, rfl⟩ yd_X5_heatAt ⟨Nat.le_of_ble_eq_true rfl, Nat.le_of_ble_eq_true rfl⟩ (Nat.le_of_ble_eq_true rfl) dX5_reasonToWait_55 (fun j18 M17 H locs h hP hS => ?_)
          obtain ⟨hk19, h⟩ := h
          refine gX5_170 (pc := 58) C hK hP hk19 dX5_reasonToWait_58 ?_
          refine lv_if_ne (tgt := 66) (pc := 61) hx hb dX5_reasonToWait_61 (by decide) (fun c61 => ?_) (fun c61 => ?_)
          · replace h := h.1 c61
            refine lv_aload_n (pc := 66) hx hb dX5_reasonToWait_66 rfl (lv_at hl 1 rfl) ?_
            refine lv_aload_n (pc := 67) hx hb dX5_reasonToWait_67 rfl (lv_at hl 2 rfl) ?_
            refine m_callVO (pc := 68) (y := yX5_hottestReady) (κ := 5) (As := [.ref (b + p1)]) (rest := []) C hK hP hS hl.1 ⟨Nat.zero_le _, Nat.zero_le _⟩ (c_X5_hottestReady h) rfl rfl hk3 (by decide) rfl q_525 q_527 q_s7 q_2 q_528 ⟨rfl, rfl⟩ yd_X5_hottestReady ⟨Nat.le_of_ble_eq_true rfl, Nat.le_of_ble_eq_true rfl⟩ (Nat.le_of_ble_eq_true rfl) dX5_reasonToWait_68 (fun o21 M20 H locs h hP hS => ?_)
            rcases eo : o21 with _ | j22
            · replace h := h.1 eo
              refine lv_ifnonnullN (pc := 71) hx hb dX5_reasonToWait_71 ?_
              refine lv_iconst (v := 4) (pc := 74) hx hb dX5_reasonToWait_74 (by decide) ?_
              exact m_iret (v := 4) (pc := 75) C hr hlk hP hS dX5_reasonToWait_75 h
            · replace h := h.2 j22 eo
              refine lv_ifnonnull (tgt := 76) (pc := 71) hx hb dX5_reasonToWait_71 (by decide) ?_
              refine lv_aload_n (pc := 76) hx hb dX5_reasonToWait_76 rfl (lv_at hl 1 rfl) ?_
              obtain ⟨j23, hj23, h⟩ := h
              refine gX5_52 (pc := 77) C hK hP hk3 hj23 dX5_reasonToWait_77 ?_
              obtain ⟨hk24, h⟩ := h
              refine gX5_159 (pc := 80) C hK hP hk24 dX5_reasonToWait_80 ?_
              refine lv_iconst (v := -1) (pc := 83) hx hb dX5_reasonToWait_83 (by decide) ?_
              refine m_join (v := if (M20.1 j23 0) = (-1) then 6 else 5) (jp := 93) (rest := []) ?_ (fun hJ => ?_)
              rotate_left
              · skip
                refine lv_icmp_eq (tgt := 91) (pc := 84) hx hb dX5_reasonToWait_84 (by decide) (fun c84 => ?_) (fun c84 => ?_)
                · skip
                  refine lv_bipush (v := 6) (pc := 91) hx hb dX5_reasonToWait_91 (by decide) ?_
                  exact hJ _ (by rw [if_pos c84])
                · skip
                  refine lv_iconst (v := 5) (pc := 87) hx hb dX5_reasonToWait_87 (by decide) ?_
                  refine lv_goto (tgt := 93) (pc := 88) hx hb dX5_reasonToWait_88 (by decide) ?_
                  exact hJ _ (by rw [if_neg c84])
              exact m_iret (v := if (M20.1 j23 0) = (-1) then 6 else 5) (pc := 93) C hr hlk hP hS dX5_reasonToWait_93 h
          · replace h := h.2 c61
            refine lv_iconst (v := 3) (pc := 64) hx hb dX5_reasonToWait_64 (by decide) ?_
            exact m_iret (v := 3) (pc := 65) C hr hlk hP hS dX5_reasonToWait_65 h
      · replace h := h.2 (bZ1 c38)
        refine lv_iconst (v := 2) (pc := 41) hx hb dX5_reasonToWait_41 (by decide) ?_
        exact m_iret (v := 2) (pc := 42) C hr hlk hP hS dX5_reasonToWait_42 h
    · replace h := h.2 (bZ1 c29)
      refine lv_iconst (v := 1) (pc := 32) hx hb dX5_reasonToWait_32 (by decide) ?_
      exact m_iret (v := 1) (pc := 33) C hr hlk hP hS dX5_reasonToWait_33 h
  · replace h := h.2 c20
    refine lv_iconst (v := 0) (pc := 23) hx hb dX5_reasonToWait_23 (by decide) ?_
    exact m_iret (v := 0) (pc := 24) C hr hlk hP hS dX5_reasonToWait_24 h
/-! ForgeHeats$Shop.workPress (I)V -/
def wp_X5_workPress (n : Nat) (M : Mem) (i : Nat) (p1 : Int32) (P : Mem → Prop) : Prop := m_tp n i 5 ∧ (wp_X5_jobAt n M i p1 (fun j3 M1 => m_tp n j3 3 ∧ (wp_X5_heatAt n M1 i (M1.1 j3 2) (fun j6 M5 => wp_X5_dieAt n M5 i (M5.1 j3 1) (fun j8 M7 => m_tp n j8 1 ∧ (wp_X1_canForge n M7 j8 (fun z11 M9 => ((z11 = false → wp_X5_sendBack n M9 i j3 j6 (fun M12 => P M12)) ∧ (z11 = true → ∃ j14 : Nat, M9.2.1 i 4 = some j14 ∧ (m_tp n j14 0 ∧ (m_tp n j6 2 ∧ ((((M9.1 j6 1) ≤ (M9.1 j14 1) → ∃ j17 : Nat, M9.2.1 i 4 = some j17 ∧ (m_tp n j17 0 ∧ (∀ M19 : Mem, M19 = uI M9 j8 2 ((M9.1 j8 2) + (1 + ((if 0 < ((M9.1 j6 2) - (M9.1 j17 1)) then ((M9.1 j6 2) - (M9.1 j17 1)) else 0) / 100))) → (∃ j20 : Nat, M19.2.1 i 4 = some j20 ∧ (∃ j21 : Nat, M19.2.1 i 4 = some j21 ∧ (m_tp n j21 0 ∧ (m_tp n j20 0 ∧ (∀ M24 : Mem, M24 = uI M19 j20 1 (if 20 < ((M19.1 j21 1) - (M19.1 i 8)) then ((M19.1 j21 1) - (M19.1 i 8)) else 20) → (∃ j25 : Nat, M24.2.1 i 4 = some j25 ∧ (m_tp n j25 0 ∧ (∀ M27 : Mem, M27 = uI M24 j25 3 ((M24.1 j25 3) - 1) → (∀ M28 : Mem, M28 = uI M27 i 12 ((M27.1 i 12) + 1) → (∃ j29 : Nat, M28.2.1 i 4 = some j29 ∧ (m_tp n j29 0 ∧ ((((M28.1 j29 3) ≤ 0 → ∃ j31 : Nat, M28.2.1 i 4 = some j31 ∧ (m_tp n j31 0 ∧ (∀ M33 : Mem, M33 = uI M28 j31 0 (-1) → (∀ M34 : Mem, M34 = uI M33 j3 7 ((M33.1 j3 7) - 1) → (∀ M35 : Mem, M35 = uI M34 j3 4 ((M34.1 j3 4) + 1) → (∀ M36 : Mem, M36 = uI M35 j6 3 ((M35.1 j6 3) + 1) → (∀ M37 : Mem, M37 = uI M36 j8 4 ((M36.1 j8 4) + 1) → ((((M37.1 j3 4) < (M37.1 j3 3) → P M37) ∧ (¬ (M37.1 j3 4) < (M37.1 j3 3) → wp_X5_countGone n M37 i j3 (fun M38 => wp_X5_removeJob n M38 i p1 (fun M40 => P M40)))))))))))) ∧ (¬ (M28.1 j29 3) ≤ 0 → P M28))))))))))))))))) ∧ (¬ (M9.1 j6 1) ≤ (M9.1 j14 1) → wp_X5_sendBack n M9 i j3 j6 (fun M42 => P M42)))))))))))))))
abbrev rm_X5_workPress : Room := { frames := 2, cells := 0, slots := 0, locals := 47 }
set_option maxHeartbeats 4000000 in
set_option maxRecDepth 100000 in
theorem c_X5_workPress {l : Launch} {D : va_G} {cA : Nat → ClassId} {b n : Nat} {M : Mem} {i : Nat} {p1 : Int32} {P : Mem → Prop} (h : wp_X5_workPress n M i p1 P) : m_C l D cA b n n M yX5_workPress cX5_workPress 5 none rm_X5_workPress 0 0 [.ref (b + i), .int p1] (rV P) := by
  refine m_enter (by decide) (Nat.le_of_ble_eq_true rfl) (fun p e s m below meth c C hr hlk hnm hK hP hS ls hl => ?_)
  have hx := C.1
  have hb := C.2.1
  have hl : lv_has ls 5 [(0, .ref (b + i)), (1, .int p1)] := hl
  unfold wp_X5_workPress at h
  refine lv_aload_n (pc := 0) hx hb dX5_workPress_0 rfl (lv_at hl 0 rfl) ?_
  refine lv_iload_n (pc := 1) hx hb dX5_workPress_1 rfl (lv_at hl 1 rfl) ?_
  obtain ⟨hk2, h⟩ := h
  refine m_callVR (pc := 2) (y := yX5_jobAt) (κ := 5) (As := [.int p1]) (rest := []) C hK hP hS hl.1 ⟨Nat.zero_le _, Nat.zero_le _⟩ (c_X5_jobAt h) rfl rfl hk2 (by decide) rfl q_363 q_364 q_365 q_2 q_366 ⟨rfl, rfl⟩ yd_X5_jobAt ⟨Nat.le_of_ble_eq_true rfl, Nat.le_of_ble_eq_true rfl⟩ (Nat.le_of_ble_eq_true rfl) dX5_workPress_2 (fun j3 M1 H locs h hP hS => ?_)
  refine lv_astore_n (lv' := [(2, .ref (b + j3)), (0, .ref (b + i)), (1, .int p1)]) (pc := 5) hx hb dX5_workPress_5 rfl hl (by decide) rfl (fun ls hl => ?_)
  refine lv_aload_n (pc := 6) hx hb dX5_workPress_6 rfl (lv_at hl 1 rfl) ?_
  refine lv_aload_n (pc := 7) hx hb dX5_workPress_7 rfl (lv_at hl 0 rfl) ?_
  obtain ⟨hk4, h⟩ := h
  refine gX5_128 (pc := 8) C hK hP hk4 dX5_workPress_8 ?_
  refine m_callVR (pc := 11) (y := yX5_heatAt) (κ := 5) (As := [.int (M1.1 j3 2)]) (rest := []) C hK hP hS hl.1 ⟨Nat.zero_le _, Nat.zero_le _⟩ (c_X5_heatAt h) rfl rfl hk2 (by decide) rfl q_347 q_348 q_349 q_2 q_350 ⟨rfl, rfl⟩ yd_X5_heatAt ⟨Nat.le_of_ble_eq_true rfl, Nat.le_of_ble_eq_true rfl⟩ (Nat.le_of_ble_eq_true rfl) dX5_workPress_11 (fun j6 M5 H locs h hP hS => ?_)
  refine lv_astore_n (lv' := [(3, .ref (b + j6)), (2, .ref (b + j3)), (0, .ref (b + i)), (1, .int p1)]) (pc := 14) hx hb dX5_workPress_14 rfl hl (by decide) rfl (fun ls hl => ?_)
  refine lv_aload_n (pc := 15) hx hb dX5_workPress_15 rfl (lv_at hl 2 rfl) ?_
  refine lv_aload_n (pc := 16) hx hb dX5_workPress_16 rfl (lv_at hl 1 rfl) ?_
  refine gX5_125 (pc := 17) C hK hP hk4 dX5_workPress_17 ?_
  refine m_callVR (pc := 20) (y := yX5_dieAt) (κ := 5) (As := [.int (M5.1 j3 1)]) (rest := []) C hK hP hS hl.1 ⟨Nat.zero_le _, Nat.zero_le _⟩ (c_X5_dieAt h) rfl rfl hk2 (by decide) rfl q_355 q_356 q_357 q_2 q_358 ⟨rfl, rfl⟩ yd_X5_dieAt ⟨Nat.le_of_ble_eq_true rfl, Nat.le_of_ble_eq_true rfl⟩ (Nat.le_of_ble_eq_true rfl) dX5_workPress_20 (fun j8 M7 H locs h hP hS => ?_)
  refine lv_astore (lv' := [(4, .ref (b + j8)), (3, .ref (b + j6)), (2, .ref (b + j3)), (0, .ref (b + i)), (1, .int p1)]) (pc := 23) hx hb dX5_workPress_23 hl (by decide) rfl (fun ls hl => ?_)
  refine lv_aload (pc := 25) hx hb dX5_workPress_25 (lv_at hl 0 rfl) ?_
  obtain ⟨hk10, h⟩ := h
  refine m_callVZ (pc := 27) (y := yX1_canForge) (κ := 1) (As := []) (rest := []) C hK hP hS hl.1 ⟨Nat.zero_le _, Nat.zero_le _⟩ (c_X1_canForge h) rfl rfl hk10 (by decide) rfl q_664 q_665 q_666 q_4 q_667 ⟨rfl, rfl⟩ yd_X1_canForge ⟨Nat.le_of_ble_eq_true rfl, Nat.le_of_ble_eq_true rfl⟩ (Nat.le_of_ble_eq_true rfl) dX5_workPress_27 (fun z11 M9 H locs h hP hS => ?_)
  refine lv_if_eq (tgt := 47) (pc := 30) hx hb dX5_workPress_30 (by decide) (fun c30 => ?_) (fun c30 => ?_)
  · replace h := h.1 (bZ0 c30)
    refine lv_aload_n (pc := 47) hx hb dX5_workPress_47 rfl (lv_at hl 3 rfl) ?_
    refine lv_aload_n (pc := 48) hx hb dX5_workPress_48 rfl (lv_at hl 2 rfl) ?_
    refine lv_aload_n (pc := 49) hx hb dX5_workPress_49 rfl (lv_at hl 1 rfl) ?_
    refine m_callVV (pc := 50) (y := yX5_sendBack) (κ := 5) (As := [.ref (b + j3), .ref (b + j6)]) (rest := []) C hK hP hS hl.1 ⟨Nat.zero_le _, Nat.zero_le _⟩ (c_X5_sendBack h) rfl rfl hk2 (by decide) rfl q_673 q_675 q_s18 q_2 q_676 ⟨rfl, rfl⟩ yd_X5_sendBack ⟨Nat.le_of_ble_eq_true rfl, Nat.le_of_ble_eq_true rfl⟩ (Nat.le_of_ble_eq_true rfl) dX5_workPress_50 (fun M12 H locs h hP hS => ?_)
    exact m_vret (pc := 53) C hr hlk hP hS dX5_workPress_53 h
  · replace h := h.2 (bZ1 c30)
    refine lv_aload_n (pc := 33) hx hb dX5_workPress_33 rfl (lv_at hl 3 rfl) ?_
    obtain ⟨j14, hj14, h⟩ := h
    refine gX5_52 (pc := 34) C hK hP hk2 hj14 dX5_workPress_34 ?_
    obtain ⟨hk15, h⟩ := h
    refine gX5_204 (pc := 37) C hK hP hk15 dX5_workPress_37 ?_
    refine lv_aload_n (pc := 40) hx hb dX5_workPress_40 rfl (lv_at hl 1 rfl) ?_
    obtain ⟨hk16, h⟩ := h
    refine gX5_173 (pc := 41) C hK hP hk16 dX5_workPress_41 ?_
    refine lv_icmp_ge (tgt := 54) (pc := 44) hx hb dX5_workPress_44 (by decide) (fun c44 => ?_) (fun c44 => ?_)
    · replace h := h.1 c44
      refine lv_aload (pc := 54) hx hb dX5_workPress_54 (lv_at hl 0 rfl) ?_
      refine lv_dup (pc := 56) hx hb dX5_workPress_56 rfl ?_
      refine gX5_248 (pc := 57) C hK hP hk10 dX5_workPress_57 ?_
      refine lv_iconst (v := 1) (pc := 60) hx hb dX5_workPress_60 (by decide) ?_
      refine lv_iconst (v := 0) (pc := 61) hx hb dX5_workPress_61 (by decide) ?_
      refine lv_aload_n (pc := 62) hx hb dX5_workPress_62 rfl (lv_at hl 1 rfl) ?_
      refine gX5_176 (pc := 63) C hK hP hk16 dX5_workPress_63 ?_
      refine lv_aload_n (pc := 66) hx hb dX5_workPress_66 rfl (lv_at hl 3 rfl) ?_
      obtain ⟨j17, hj17, h⟩ := h
      refine gX5_52 (pc := 67) C hK hP hk2 hj17 dX5_workPress_67 ?_
      obtain ⟨hk18, h⟩ := h
      refine gX5_204 (pc := 70) C hK hP hk18 dX5_workPress_70 ?_
      refine lv_isub (pc := 73) hx hb dX5_workPress_73 ?_
      refine va_mmax (pc := 74) hx hb (C.2.2.1.trans hl.1.symm) C.2.2.2.1 (C.2.2.2.2 _ q_677) (C.2.2.2.2 _ q_678) (C.2.2.2.2 _ q_14) (C.2.2.2.2 _ q_679) (Nat.le_of_ble_eq_true rfl) (Nat.le_of_ble_eq_true rfl) (Nat.zero_le _) (Nat.zero_le _) dX5_workPress_74 ?_
      refine lv_bipush (v := 100) (pc := 77) hx hb dX5_workPress_77 (by decide) ?_
      refine lv_idiv (pc := 79) hx hb dX5_workPress_79 (by decide) ?_
      refine lv_iadd (pc := 80) hx hb dX5_workPress_80 ?_
      refine lv_iadd (pc := 81) hx hb dX5_workPress_81 ?_
      refine pX5_248 (pc := 82) (v := (M9.1 j8 2) + (1 + ((if 0 < ((M9.1 j6 2) - (M9.1 j17 1)) then ((M9.1 j6 2) - (M9.1 j17 1)) else 0) / 100))) C hK hP hS hk10 dX5_workPress_82 (fun M19 H locs eM19 hP hS => ?_)
      replace h := h M19 eM19
      refine lv_aload_n (pc := 85) hx hb dX5_workPress_85 rfl (lv_at hl 3 rfl) ?_
      obtain ⟨j20, hj20, h⟩ := h
      refine gX5_52 (pc := 86) C hK hP hk2 hj20 dX5_workPress_86 ?_
      refine lv_bipush (v := 20) (pc := 89) hx hb dX5_workPress_89 (by decide) ?_
      refine lv_aload_n (pc := 91) hx hb dX5_workPress_91 rfl (lv_at hl 3 rfl) ?_
      obtain ⟨j21, hj21, h⟩ := h
      refine gX5_52 (pc := 92) C hK hP hk2 hj21 dX5_workPress_92 ?_
      obtain ⟨hk22, h⟩ := h
      refine gX5_204 (pc := 95) C hK hP hk22 dX5_workPress_95 ?_
      refine lv_aload_n (pc := 98) hx hb dX5_workPress_98 rfl (lv_at hl 3 rfl) ?_
      refine gX5_15 (pc := 99) C hK hP hk2 dX5_workPress_99 ?_
      refine lv_isub (pc := 102) hx hb dX5_workPress_102 ?_
      refine va_mmax (pc := 103) hx hb (C.2.2.1.trans hl.1.symm) C.2.2.2.1 (C.2.2.2.2 _ q_677) (C.2.2.2.2 _ q_678) (C.2.2.2.2 _ q_14) (C.2.2.2.2 _ q_679) (Nat.le_of_ble_eq_true rfl) (Nat.le_of_ble_eq_true rfl) (Nat.zero_le _) (Nat.zero_le _) dX5_workPress_103 ?_
      obtain ⟨hk23, h⟩ := h
      refine pX5_204 (pc := 106) (v := if 20 < ((M19.1 j21 1) - (M19.1 i 8)) then ((M19.1 j21 1) - (M19.1 i 8)) else 20) C hK hP hS hk23 dX5_workPress_106 (fun M24 H locs eM24 hP hS => ?_)
      replace h := h M24 eM24
      refine lv_aload_n (pc := 109) hx hb dX5_workPress_109 rfl (lv_at hl 3 rfl) ?_
      obtain ⟨j25, hj25, h⟩ := h
      refine gX5_52 (pc := 110) C hK hP hk2 hj25 dX5_workPress_110 ?_
      refine lv_dup (pc := 113) hx hb dX5_workPress_113 rfl ?_
      obtain ⟨hk26, h⟩ := h
      refine gX5_240 (pc := 114) C hK hP hk26 dX5_workPress_114 ?_
      refine lv_iconst (v := 1) (pc := 117) hx hb dX5_workPress_117 (by decide) ?_
      refine lv_isub (pc := 118) hx hb dX5_workPress_118 ?_
      refine pX5_240 (pc := 119) (v := (M24.1 j25 3) - 1) C hK hP hS hk26 dX5_workPress_119 (fun M27 H locs eM27 hP hS => ?_)
      replace h := h M27 eM27
      refine lv_aload_n (pc := 122) hx hb dX5_workPress_122 rfl (lv_at hl 3 rfl) ?_
      refine lv_dup (pc := 123) hx hb dX5_workPress_123 rfl ?_
      refine gX5_110 (pc := 124) C hK hP hk2 dX5_workPress_124 ?_
      refine lv_iconst (v := 1) (pc := 127) hx hb dX5_workPress_127 (by decide) ?_
      refine lv_iadd (pc := 128) hx hb dX5_workPress_128 ?_
      refine pX5_110 (pc := 129) (v := (M27.1 i 12) + 1) C hK hP hS hk2 dX5_workPress_129 (fun M28 H locs eM28 hP hS => ?_)
      replace h := h M28 eM28
      refine lv_aload_n (pc := 132) hx hb dX5_workPress_132 rfl (lv_at hl 3 rfl) ?_
      obtain ⟨j29, hj29, h⟩ := h
      refine gX5_52 (pc := 133) C hK hP hk2 hj29 dX5_workPress_133 ?_
      obtain ⟨hk30, h⟩ := h
      refine gX5_240 (pc := 136) C hK hP hk30 dX5_workPress_136 ?_
      refine lv_if_le (tgt := 143) (pc := 139) hx hb dX5_workPress_139 (by decide) (fun c139 => ?_) (fun c139 => ?_)
      · replace h := h.1 c139
        refine lv_aload_n (pc := 143) hx hb dX5_workPress_143 rfl (lv_at hl 3 rfl) ?_
        obtain ⟨j31, hj31, h⟩ := h
        refine gX5_52 (pc := 144) C hK hP hk2 hj31 dX5_workPress_144 ?_
        refine lv_iconst (v := -1) (pc := 147) hx hb dX5_workPress_147 (by decide) ?_
        obtain ⟨hk32, h⟩ := h
        refine pX5_159 (pc := 148) (v := (-1)) C hK hP hS hk32 dX5_workPress_148 (fun M33 H locs eM33 hP hS => ?_)
        replace h := h M33 eM33
        refine lv_aload_n (pc := 151) hx hb dX5_workPress_151 rfl (lv_at hl 2 rfl) ?_
        refine lv_dup (pc := 152) hx hb dX5_workPress_152 rfl ?_
        refine gX5_144 (pc := 153) C hK hP hk4 dX5_workPress_153 ?_
        refine lv_iconst (v := 1) (pc := 156) hx hb dX5_workPress_156 (by decide) ?_
        refine lv_isub (pc := 157) hx hb dX5_workPress_157 ?_
        refine pX5_144 (pc := 158) (v := (M33.1 j3 7) - 1) C hK hP hS hk4 dX5_workPress_158 (fun M34 H locs eM34 hP hS => ?_)
        replace h := h M34 eM34
        refine lv_aload_n (pc := 161) hx hb dX5_workPress_161 rfl (lv_at hl 2 rfl) ?_
        refine lv_dup (pc := 162) hx hb dX5_workPress_162 rfl ?_
        refine gX5_134 (pc := 163) C hK hP hk4 dX5_workPress_163 ?_
        refine lv_iconst (v := 1) (pc := 166) hx hb dX5_workPress_166 (by decide) ?_
        refine lv_iadd (pc := 167) hx hb dX5_workPress_167 ?_
        refine pX5_134 (pc := 168) (v := (M34.1 j3 4) + 1) C hK hP hS hk4 dX5_workPress_168 (fun M35 H locs eM35 hP hS => ?_)
        replace h := h M35 eM35
        refine lv_aload_n (pc := 171) hx hb dX5_workPress_171 rfl (lv_at hl 1 rfl) ?_
        refine lv_dup (pc := 172) hx hb dX5_workPress_172 rfl ?_
        refine gX5_169 (pc := 173) C hK hP hk16 dX5_workPress_173 ?_
        refine lv_iconst (v := 1) (pc := 176) hx hb dX5_workPress_176 (by decide) ?_
        refine lv_iadd (pc := 177) hx hb dX5_workPress_177 ?_
        refine pX5_169 (pc := 178) (v := (M35.1 j6 3) + 1) C hK hP hS hk16 dX5_workPress_178 (fun M36 H locs eM36 hP hS => ?_)
        replace h := h M36 eM36
        refine lv_aload (pc := 181) hx hb dX5_workPress_181 (lv_at hl 0 rfl) ?_
        refine lv_dup (pc := 183) hx hb dX5_workPress_183 rfl ?_
        refine gX5_254 (pc := 184) C hK hP hk10 dX5_workPress_184 ?_
        refine lv_iconst (v := 1) (pc := 187) hx hb dX5_workPress_187 (by decide) ?_
        refine lv_iadd (pc := 188) hx hb dX5_workPress_188 ?_
        refine pX5_254 (pc := 189) (v := (M36.1 j8 4) + 1) C hK hP hS hk10 dX5_workPress_189 (fun M37 H locs eM37 hP hS => ?_)
        replace h := h M37 eM37
        refine lv_aload_n (pc := 192) hx hb dX5_workPress_192 rfl (lv_at hl 2 rfl) ?_
        refine gX5_134 (pc := 193) C hK hP hk4 dX5_workPress_193 ?_
        refine lv_aload_n (pc := 196) hx hb dX5_workPress_196 rfl (lv_at hl 2 rfl) ?_
        refine gX5_131 (pc := 197) C hK hP hk4 dX5_workPress_197 ?_
        refine lv_icmp_lt (tgt := 213) (pc := 200) hx hb dX5_workPress_200 (by decide) (fun c200 => ?_) (fun c200 => ?_)
        · replace h := h.1 c200
          exact m_vret (pc := 213) C hr hlk hP hS dX5_workPress_213 h
        · replace h := h.2 c200
          refine lv_aload_n (pc := 203) hx hb dX5_workPress_203 rfl (lv_at hl 3 rfl) ?_
          refine lv_aload_n (pc := 204) hx hb dX5_workPress_204 rfl (lv_at hl 2 rfl) ?_
          refine m_callVV (pc := 205) (y := yX5_countGone) (κ := 5) (As := [.ref (b + j3)]) (rest := []) C hK hP hS hl.1 ⟨Nat.zero_le _, Nat.zero_le _⟩ (c_X5_countGone h) rfl rfl hk2 (by decide) rfl q_680 q_682 q_s19 q_2 q_683 ⟨rfl, rfl⟩ yd_X5_countGone ⟨Nat.le_of_ble_eq_true rfl, Nat.le_of_ble_eq_true rfl⟩ (Nat.le_of_ble_eq_true rfl) dX5_workPress_205 (fun M38 H locs h hP hS => ?_)
          refine lv_aload_n (pc := 208) hx hb dX5_workPress_208 rfl (lv_at hl 3 rfl) ?_
          refine lv_iload_n (pc := 209) hx hb dX5_workPress_209 rfl (lv_at hl 4 rfl) ?_
          refine m_callVV (pc := 210) (y := yX5_removeJob) (κ := 5) (As := [.int p1]) (rest := []) C hK hP hS hl.1 ⟨Nat.zero_le _, Nat.zero_le _⟩ (c_X5_removeJob h) rfl rfl hk2 (by decide) rfl q_596 q_598 q_s10 q_2 q_599 ⟨rfl, rfl⟩ yd_X5_removeJob ⟨Nat.le_of_ble_eq_true rfl, Nat.le_of_ble_eq_true rfl⟩ (Nat.le_of_ble_eq_true rfl) dX5_workPress_210 (fun M40 H locs h hP hS => ?_)
          exact m_vret (pc := 213) C hr hlk hP hS dX5_workPress_213 h
      · replace h := h.2 c139
        exact m_vret (pc := 142) C hr hlk hP hS dX5_workPress_142 h
    · replace h := h.2 c44
      refine lv_aload_n (pc := 47) hx hb dX5_workPress_47 rfl (lv_at hl 3 rfl) ?_
      refine lv_aload_n (pc := 48) hx hb dX5_workPress_48 rfl (lv_at hl 2 rfl) ?_
      refine lv_aload_n (pc := 49) hx hb dX5_workPress_49 rfl (lv_at hl 1 rfl) ?_
      refine m_callVV (pc := 50) (y := yX5_sendBack) (κ := 5) (As := [.ref (b + j3), .ref (b + j6)]) (rest := []) C hK hP hS hl.1 ⟨Nat.zero_le _, Nat.zero_le _⟩ (c_X5_sendBack h) rfl rfl hk2 (by decide) rfl q_673 q_675 q_s18 q_2 q_676 ⟨rfl, rfl⟩ yd_X5_sendBack ⟨Nat.le_of_ble_eq_true rfl, Nat.le_of_ble_eq_true rfl⟩ (Nat.le_of_ble_eq_true rfl) dX5_workPress_50 (fun M42 H locs h hP hS => ?_)
      exact m_vret (pc := 53) C hr hlk hP hS dX5_workPress_53 h
/-! ForgeHeats$Shop.addJob (IIIIZ)I -/
def wp_X5_addJob (n : Nat) (M : Mem) (i : Nat) (p1 : Int32) (p2 : Int32) (p3 : Int32) (p4 : Int32) (p5 : Bool) (P : Int32 → Mem → Prop) : Prop := m_tp n i 5 ∧ (wp_X5_jobAt n M i (M.1 i 5) (fun j3 M2 => m_tp n j3 3 ∧ (∀ M5 : Mem, M5 = uI M2 j3 0 (M2.1 i 6) → (∀ M6 : Mem, M6 = uI M5 j3 1 p1 → (∀ M7 : Mem, M7 = uI M6 j3 2 p2 → (∀ M8 : Mem, M8 = uI M7 j3 3 p3 → (∀ M9 : Mem, M9 = uI M8 j3 4 0 → (∀ M10 : Mem, M10 = uI M9 j3 5 p4 → (∀ M11 : Mem, M11 = uI M10 j3 6 (bI p5) → (∀ M12 : Mem, M12 = uI M11 j3 7 0 → (∀ M13 : Mem, M13 = uI M12 i 6 ((M12.1 i 6) + 1) → (∀ M14 : Mem, M14 = uI M13 i 5 ((M13.1 i 5) + 1) → (wp_X5_settle n M14 i ((M14.1 i 5) - 1) (fun r16 M15 => P (M15.1 j3 0) M15))))))))))))))
abbrev rm_X5_addJob : Room := { frames := 2, cells := 0, slots := 0, locals := 45 }
set_option maxHeartbeats 4000000 in
set_option maxRecDepth 100000 in
theorem c_X5_addJob {l : Launch} {D : va_G} {cA : Nat → ClassId} {b n : Nat} {M : Mem} {i : Nat} {p1 : Int32} {p2 : Int32} {p3 : Int32} {p4 : Int32} {p5 : Bool} {P : Int32 → Mem → Prop} (h : wp_X5_addJob n M i p1 p2 p3 p4 p5 P) : m_C l D cA b n n M yX5_addJob cX5_addJob 7 (some .int) rm_X5_addJob 0 0 [.ref (b + i), .int p1, .int p2, .int p3, .int p4, .int (bI p5)] (rI P) := by
  refine m_enter (by decide) (Nat.le_of_ble_eq_true rfl) (fun p e s m below meth c C hr hlk hnm hK hP hS ls hl => ?_)
  have hx := C.1
  have hb := C.2.1
  have hl : lv_has ls 7 [(0, .ref (b + i)), (1, .int p1), (2, .int p2), (3, .int p3), (4, .int p4), (5, .int (bI p5))] := hl
  unfold wp_X5_addJob at h
  refine lv_aload_n (pc := 0) hx hb dX5_addJob_0 rfl (lv_at hl 0 rfl) ?_
  refine lv_aload_n (pc := 1) hx hb dX5_addJob_1 rfl (lv_at hl 0 rfl) ?_
  obtain ⟨hk1, h⟩ := h
  refine gX5_83 (pc := 2) C hK hP hk1 dX5_addJob_2 ?_
  refine m_callVR (pc := 5) (y := yX5_jobAt) (κ := 5) (As := [.int (M.1 i 5)]) (rest := []) C hK hP hS hl.1 ⟨Nat.zero_le _, Nat.zero_le _⟩ (c_X5_jobAt h) rfl rfl hk1 (by decide) rfl q_363 q_364 q_365 q_2 q_366 ⟨rfl, rfl⟩ yd_X5_jobAt ⟨Nat.le_of_ble_eq_true rfl, Nat.le_of_ble_eq_true rfl⟩ (Nat.le_of_ble_eq_true rfl) dX5_addJob_5 (fun j3 M2 H locs h hP hS => ?_)
  refine lv_astore (lv' := [(6, .ref (b + j3)), (0, .ref (b + i)), (1, .int p1), (2, .int p2), (3, .int p3), (4, .int p4), (5, .int (bI p5))]) (pc := 8) hx hb dX5_addJob_8 hl (by decide) rfl (fun ls hl => ?_)
  refine lv_aload (pc := 10) hx hb dX5_addJob_10 (lv_at hl 0 rfl) ?_
  refine lv_aload_n (pc := 12) hx hb dX5_addJob_12 rfl (lv_at hl 1 rfl) ?_
  refine gX5_104 (pc := 13) C hK hP hk1 dX5_addJob_13 ?_
  obtain ⟨hk4, h⟩ := h
  refine pX5_122 (pc := 16) (v := M2.1 i 6) C hK hP hS hk4 dX5_addJob_16 (fun M5 H locs eM5 hP hS => ?_)
  replace h := h M5 eM5
  refine lv_aload (pc := 19) hx hb dX5_addJob_19 (lv_at hl 0 rfl) ?_
  refine lv_iload_n (pc := 21) hx hb dX5_addJob_21 rfl (lv_at hl 2 rfl) ?_
  refine pX5_125 (pc := 22) (v := p1) C hK hP hS hk4 dX5_addJob_22 (fun M6 H locs eM6 hP hS => ?_)
  replace h := h M6 eM6
  refine lv_aload (pc := 25) hx hb dX5_addJob_25 (lv_at hl 0 rfl) ?_
  refine lv_iload_n (pc := 27) hx hb dX5_addJob_27 rfl (lv_at hl 3 rfl) ?_
  refine pX5_128 (pc := 28) (v := p2) C hK hP hS hk4 dX5_addJob_28 (fun M7 H locs eM7 hP hS => ?_)
  replace h := h M7 eM7
  refine lv_aload (pc := 31) hx hb dX5_addJob_31 (lv_at hl 0 rfl) ?_
  refine lv_iload_n (pc := 33) hx hb dX5_addJob_33 rfl (lv_at hl 4 rfl) ?_
  refine pX5_131 (pc := 34) (v := p3) C hK hP hS hk4 dX5_addJob_34 (fun M8 H locs eM8 hP hS => ?_)
  replace h := h M8 eM8
  refine lv_aload (pc := 37) hx hb dX5_addJob_37 (lv_at hl 0 rfl) ?_
  refine lv_iconst (v := 0) (pc := 39) hx hb dX5_addJob_39 (by decide) ?_
  refine pX5_134 (pc := 40) (v := 0) C hK hP hS hk4 dX5_addJob_40 (fun M9 H locs eM9 hP hS => ?_)
  replace h := h M9 eM9
  refine lv_aload (pc := 43) hx hb dX5_addJob_43 (lv_at hl 0 rfl) ?_
  refine lv_iload (pc := 45) hx hb dX5_addJob_45 (lv_at hl 5 rfl) ?_
  refine pX5_137 (pc := 47) (v := p4) C hK hP hS hk4 dX5_addJob_47 (fun M10 H locs eM10 hP hS => ?_)
  replace h := h M10 eM10
  refine lv_aload (pc := 50) hx hb dX5_addJob_50 (lv_at hl 0 rfl) ?_
  refine lv_iload (pc := 52) hx hb dX5_addJob_52 (lv_at hl 6 rfl) ?_
  refine pX5_140 (pc := 54) (z := p5) C hK hP hS hk4 dX5_addJob_54 (fun M11 H locs eM11 hP hS => ?_)
  replace h := h M11 eM11
  refine lv_aload (pc := 57) hx hb dX5_addJob_57 (lv_at hl 0 rfl) ?_
  refine lv_iconst (v := 0) (pc := 59) hx hb dX5_addJob_59 (by decide) ?_
  refine pX5_144 (pc := 60) (v := 0) C hK hP hS hk4 dX5_addJob_60 (fun M12 H locs eM12 hP hS => ?_)
  replace h := h M12 eM12
  refine lv_aload_n (pc := 63) hx hb dX5_addJob_63 rfl (lv_at hl 1 rfl) ?_
  refine lv_dup (pc := 64) hx hb dX5_addJob_64 rfl ?_
  refine gX5_104 (pc := 65) C hK hP hk1 dX5_addJob_65 ?_
  refine lv_iconst (v := 1) (pc := 68) hx hb dX5_addJob_68 (by decide) ?_
  refine lv_iadd (pc := 69) hx hb dX5_addJob_69 ?_
  refine pX5_104 (pc := 70) (v := (M12.1 i 6) + 1) C hK hP hS hk1 dX5_addJob_70 (fun M13 H locs eM13 hP hS => ?_)
  replace h := h M13 eM13
  refine lv_aload_n (pc := 73) hx hb dX5_addJob_73 rfl (lv_at hl 1 rfl) ?_
  refine lv_dup (pc := 74) hx hb dX5_addJob_74 rfl ?_
  refine gX5_83 (pc := 75) C hK hP hk1 dX5_addJob_75 ?_
  refine lv_iconst (v := 1) (pc := 78) hx hb dX5_addJob_78 (by decide) ?_
  refine lv_iadd (pc := 79) hx hb dX5_addJob_79 ?_
  refine pX5_83 (pc := 80) (v := (M13.1 i 5) + 1) C hK hP hS hk1 dX5_addJob_80 (fun M14 H locs eM14 hP hS => ?_)
  replace h := h M14 eM14
  refine lv_aload_n (pc := 83) hx hb dX5_addJob_83 rfl (lv_at hl 1 rfl) ?_
  refine lv_aload_n (pc := 84) hx hb dX5_addJob_84 rfl (lv_at hl 1 rfl) ?_
  refine gX5_83 (pc := 85) C hK hP hk1 dX5_addJob_85 ?_
  refine lv_iconst (v := 1) (pc := 88) hx hb dX5_addJob_88 (by decide) ?_
  refine lv_isub (pc := 89) hx hb dX5_addJob_89 ?_
  refine m_callVI (pc := 90) (y := yX5_settle) (κ := 5) (As := [.int ((M14.1 i 5) - 1)]) (rest := []) C hK hP hS hl.1 ⟨Nat.zero_le _, Nat.zero_le _⟩ (c_X5_settle h) rfl rfl hk1 (by decide) rfl q_612 q_614 q_s12 q_2 q_615 ⟨rfl, rfl⟩ yd_X5_settle ⟨Nat.le_of_ble_eq_true rfl, Nat.le_of_ble_eq_true rfl⟩ (Nat.le_of_ble_eq_true rfl) dX5_addJob_90 (fun r16 M15 H locs h hP hS => ?_)
  refine lv_pop (pc := 93) hx hb dX5_addJob_93 rfl ?_
  refine lv_aload (pc := 94) hx hb dX5_addJob_94 (lv_at hl 0 rfl) ?_
  refine gX5_122 (pc := 96) C hK hP hk4 dX5_addJob_96 ?_
  exact m_iret (v := M15.1 j3 0) (pc := 99) C hr hlk hP hS dX5_addJob_99 h
/-! ForgeHeats$Shop.hasten (IZ)I -/
def wp_X5_hasten (n : Nat) (M : Mem) (i : Nat) (p1 : Int32) (p2 : Bool) (P : Int32 → Mem → Prop) : Prop := m_tp n i 5 ∧ (wp_X5_jobAt n M i p1 (fun j3 M1 => m_tp n j3 3 ∧ (∀ M5 : Mem, M5 = uI M1 j3 6 (bI p2) → (wp_X5_settle n M5 i p1 (fun r7 M6 => P r7 M6)))))
abbrev rm_X5_hasten : Room := { frames := 2, cells := 0, slots := 0, locals := 45 }
set_option maxHeartbeats 4000000 in
set_option maxRecDepth 100000 in
theorem c_X5_hasten {l : Launch} {D : va_G} {cA : Nat → ClassId} {b n : Nat} {M : Mem} {i : Nat} {p1 : Int32} {p2 : Bool} {P : Int32 → Mem → Prop} (h : wp_X5_hasten n M i p1 p2 P) : m_C l D cA b n n M yX5_hasten cX5_hasten 3 (some .int) rm_X5_hasten 0 0 [.ref (b + i), .int p1, .int (bI p2)] (rI P) := by
  refine m_enter (by decide) (Nat.le_of_ble_eq_true rfl) (fun p e s m below meth c C hr hlk hnm hK hP hS ls hl => ?_)
  have hx := C.1
  have hb := C.2.1
  have hl : lv_has ls 3 [(0, .ref (b + i)), (1, .int p1), (2, .int (bI p2))] := hl
  unfold wp_X5_hasten at h
  refine lv_aload_n (pc := 0) hx hb dX5_hasten_0 rfl (lv_at hl 0 rfl) ?_
  refine lv_iload_n (pc := 1) hx hb dX5_hasten_1 rfl (lv_at hl 1 rfl) ?_
  obtain ⟨hk2, h⟩ := h
  refine m_callVR (pc := 2) (y := yX5_jobAt) (κ := 5) (As := [.int p1]) (rest := []) C hK hP hS hl.1 ⟨Nat.zero_le _, Nat.zero_le _⟩ (c_X5_jobAt h) rfl rfl hk2 (by decide) rfl q_363 q_364 q_365 q_2 q_366 ⟨rfl, rfl⟩ yd_X5_jobAt ⟨Nat.le_of_ble_eq_true rfl, Nat.le_of_ble_eq_true rfl⟩ (Nat.le_of_ble_eq_true rfl) dX5_hasten_2 (fun j3 M1 H locs h hP hS => ?_)
  refine lv_iload_n (pc := 5) hx hb dX5_hasten_5 rfl (lv_at hl 2 rfl) ?_
  obtain ⟨hk4, h⟩ := h
  refine pX5_140 (pc := 6) (z := p2) C hK hP hS hk4 dX5_hasten_6 (fun M5 H locs eM5 hP hS => ?_)
  replace h := h M5 eM5
  refine lv_aload_n (pc := 9) hx hb dX5_hasten_9 rfl (lv_at hl 0 rfl) ?_
  refine lv_iload_n (pc := 10) hx hb dX5_hasten_10 rfl (lv_at hl 1 rfl) ?_
  refine m_callVI (pc := 11) (y := yX5_settle) (κ := 5) (As := [.int p1]) (rest := []) C hK hP hS hl.1 ⟨Nat.zero_le _, Nat.zero_le _⟩ (c_X5_settle h) rfl rfl hk2 (by decide) rfl q_612 q_614 q_s12 q_2 q_615 ⟨rfl, rfl⟩ yd_X5_settle ⟨Nat.le_of_ble_eq_true rfl, Nat.le_of_ble_eq_true rfl⟩ (Nat.le_of_ble_eq_true rfl) dX5_hasten_11 (fun r7 M6 H locs h hP hS => ?_)
  exact m_iret (v := r7) (pc := 14) C hr hlk hP hS dX5_hasten_14 h
/-! ForgeHeats$Shop.jobProperty (II)I -/
def wp_X5_jobProperty (n : Nat) (M : Mem) (i : Nat) (p1 : Int32) (p2 : Int32) (P : Int32 → Mem → Prop) : Prop := m_tp n i 5 ∧ (wp_X5_jobAt n M i p1 (fun j3 M1 => ((p2 = 0 → m_tp n j3 3 ∧ (P (M1.1 j3 0) M1)) ∧ (¬ p2 = 0 → ((p2 = 1 → m_tp n j3 3 ∧ (P (M1.1 j3 1) M1)) ∧ (¬ p2 = 1 → ((p2 = 2 → m_tp n j3 3 ∧ (P (M1.1 j3 2) M1)) ∧ (¬ p2 = 2 → ((p2 = 3 → m_tp n j3 3 ∧ (P (M1.1 j3 3) M1)) ∧ (¬ p2 = 3 → ((p2 = 4 → m_tp n j3 3 ∧ (P (M1.1 j3 4) M1)) ∧ (¬ p2 = 4 → ((p2 = 5 → m_tp n j3 3 ∧ (P (M1.1 j3 5) M1)) ∧ (¬ p2 = 5 → ((p2 = 6 → m_tp n j3 3 ∧ (P (bI (if (M1.1 j3 6 != 0) = false then false else true)) M1)) ∧ (¬ p2 = 6 → wp_X5_reasonToWait n M1 i j3 (fun r12 M11 => P r12 M11)))))))))))))))))
abbrev rm_X5_jobProperty : Room := { frames := 3, cells := 0, slots := 0, locals := 71 }
set_option maxHeartbeats 4000000 in
set_option maxRecDepth 100000 in
theorem c_X5_jobProperty {l : Launch} {D : va_G} {cA : Nat → ClassId} {b n : Nat} {M : Mem} {i : Nat} {p1 : Int32} {p2 : Int32} {P : Int32 → Mem → Prop} (h : wp_X5_jobProperty n M i p1 p2 P) : m_C l D cA b n n M yX5_jobProperty cX5_jobProperty 4 (some .int) rm_X5_jobProperty 0 0 [.ref (b + i), .int p1, .int p2] (rI P) := by
  refine m_enter (by decide) (Nat.le_of_ble_eq_true rfl) (fun p e s m below meth c C hr hlk hnm hK hP hS ls hl => ?_)
  have hx := C.1
  have hb := C.2.1
  have hl : lv_has ls 4 [(0, .ref (b + i)), (1, .int p1), (2, .int p2)] := hl
  unfold wp_X5_jobProperty at h
  refine lv_aload_n (pc := 0) hx hb dX5_jobProperty_0 rfl (lv_at hl 0 rfl) ?_
  refine lv_iload_n (pc := 1) hx hb dX5_jobProperty_1 rfl (lv_at hl 1 rfl) ?_
  obtain ⟨hk2, h⟩ := h
  refine m_callVR (pc := 2) (y := yX5_jobAt) (κ := 5) (As := [.int p1]) (rest := []) C hK hP hS hl.1 ⟨Nat.zero_le _, Nat.zero_le _⟩ (c_X5_jobAt h) rfl rfl hk2 (by decide) rfl q_363 q_364 q_365 q_2 q_366 ⟨rfl, rfl⟩ yd_X5_jobAt ⟨Nat.le_of_ble_eq_true rfl, Nat.le_of_ble_eq_true rfl⟩ (Nat.le_of_ble_eq_true rfl) dX5_jobProperty_2 (fun j3 M1 H locs h hP hS => ?_)
  refine lv_astore_n (lv' := [(3, .ref (b + j3)), (0, .ref (b + i)), (1, .int p1), (2, .int p2)]) (pc := 5) hx hb dX5_jobProperty_5 rfl hl (by decide) rfl (fun ls hl => ?_)
  refine lv_iload_n (pc := 6) hx hb dX5_jobProperty_6 rfl (lv_at hl 3 rfl) ?_
  by_cases n7_0 : p2 = 0
  · replace h := h.1 n7_0
    refine m_case (v := 0) (off := 41) (tgt := 48) (pc := 7) hx hb n7_0 dX5_jobProperty_7 (by decide) (by decide) (by decide) (by decide) ?_
    refine lv_aload_n (pc := 48) hx hb dX5_jobProperty_48 rfl (lv_at hl 0 rfl) ?_
    obtain ⟨hk4, h⟩ := h
    refine gX5_122 (pc := 49) C hK hP hk4 dX5_jobProperty_49 ?_
    exact m_iret (v := M1.1 j3 0) (pc := 52) C hr hlk hP hS dX5_jobProperty_52 h
  · replace h := h.2 n7_0
    by_cases n7_1 : p2 = 1
    · replace h := h.1 n7_1
      refine m_case (v := 1) (off := 46) (tgt := 53) (pc := 7) hx hb n7_1 dX5_jobProperty_7 (by decide) (by decide) (by decide) (by decide) ?_
      refine lv_aload_n (pc := 53) hx hb dX5_jobProperty_53 rfl (lv_at hl 0 rfl) ?_
      obtain ⟨hk5, h⟩ := h
      refine gX5_125 (pc := 54) C hK hP hk5 dX5_jobProperty_54 ?_
      exact m_iret (v := M1.1 j3 1) (pc := 57) C hr hlk hP hS dX5_jobProperty_57 h
    · replace h := h.2 n7_1
      by_cases n7_2 : p2 = 2
      · replace h := h.1 n7_2
        refine m_case (v := 2) (off := 51) (tgt := 58) (pc := 7) hx hb n7_2 dX5_jobProperty_7 (by decide) (by decide) (by decide) (by decide) ?_
        refine lv_aload_n (pc := 58) hx hb dX5_jobProperty_58 rfl (lv_at hl 0 rfl) ?_
        obtain ⟨hk6, h⟩ := h
        refine gX5_128 (pc := 59) C hK hP hk6 dX5_jobProperty_59 ?_
        exact m_iret (v := M1.1 j3 2) (pc := 62) C hr hlk hP hS dX5_jobProperty_62 h
      · replace h := h.2 n7_2
        by_cases n7_3 : p2 = 3
        · replace h := h.1 n7_3
          refine m_case (v := 3) (off := 56) (tgt := 63) (pc := 7) hx hb n7_3 dX5_jobProperty_7 (by decide) (by decide) (by decide) (by decide) ?_
          refine lv_aload_n (pc := 63) hx hb dX5_jobProperty_63 rfl (lv_at hl 0 rfl) ?_
          obtain ⟨hk7, h⟩ := h
          refine gX5_131 (pc := 64) C hK hP hk7 dX5_jobProperty_64 ?_
          exact m_iret (v := M1.1 j3 3) (pc := 67) C hr hlk hP hS dX5_jobProperty_67 h
        · replace h := h.2 n7_3
          by_cases n7_4 : p2 = 4
          · replace h := h.1 n7_4
            refine m_case (v := 4) (off := 61) (tgt := 68) (pc := 7) hx hb n7_4 dX5_jobProperty_7 (by decide) (by decide) (by decide) (by decide) ?_
            refine lv_aload_n (pc := 68) hx hb dX5_jobProperty_68 rfl (lv_at hl 0 rfl) ?_
            obtain ⟨hk8, h⟩ := h
            refine gX5_134 (pc := 69) C hK hP hk8 dX5_jobProperty_69 ?_
            exact m_iret (v := M1.1 j3 4) (pc := 72) C hr hlk hP hS dX5_jobProperty_72 h
          · replace h := h.2 n7_4
            by_cases n7_5 : p2 = 5
            · replace h := h.1 n7_5
              refine m_case (v := 5) (off := 66) (tgt := 73) (pc := 7) hx hb n7_5 dX5_jobProperty_7 (by decide) (by decide) (by decide) (by decide) ?_
              refine lv_aload_n (pc := 73) hx hb dX5_jobProperty_73 rfl (lv_at hl 0 rfl) ?_
              obtain ⟨hk9, h⟩ := h
              refine gX5_137 (pc := 74) C hK hP hk9 dX5_jobProperty_74 ?_
              exact m_iret (v := M1.1 j3 5) (pc := 77) C hr hlk hP hS dX5_jobProperty_77 h
            · replace h := h.2 n7_5
              by_cases n7_6 : p2 = 6
              · replace h := h.1 n7_6
                refine m_case (v := 6) (off := 71) (tgt := 78) (pc := 7) hx hb n7_6 dX5_jobProperty_7 (by decide) (by decide) (by decide) (by decide) ?_
                refine lv_aload_n (pc := 78) hx hb dX5_jobProperty_78 rfl (lv_at hl 0 rfl) ?_
                obtain ⟨hk10, h⟩ := h
                refine gX5_140 (pc := 79) C hK hP hk10 dX5_jobProperty_79 ?_
                refine m_joinZ (z := if (M1.1 j3 6 != 0) = false then false else true) (jp := 90) (rest := []) ?_ (fun hJ => ?_)
                rotate_left
                · skip
                  refine lv_if_eq (tgt := 89) (pc := 82) hx hb dX5_jobProperty_82 (by decide) (fun c82 => ?_) (fun c82 => ?_)
                  · skip
                    refine lv_iconst (v := 0) (pc := 89) hx hb dX5_jobProperty_89 (by decide) ?_
                    exact hJ _ false rfl (by rw [if_pos (bZ0 c82)])
                  · skip
                    refine lv_iconst (v := 1) (pc := 85) hx hb dX5_jobProperty_85 (by decide) ?_
                    refine lv_goto (tgt := 90) (pc := 86) hx hb dX5_jobProperty_86 (by decide) ?_
                    exact hJ _ true rfl (by rw [if_neg (by rw [(bZ1 c82)]; decide)])
                exact m_iret (v := bI (if (M1.1 j3 6 != 0) = false then false else true)) (pc := 90) C hr hlk hP hS dX5_jobProperty_90 h
              · replace h := h.2 n7_6
                refine lv_tableOut (tgt := 91) (pc := 7) hx hb dX5_jobProperty_7 (by have i0 := i_ne n7_0; have i1 := i_ne n7_1; have i2 := i_ne n7_2; have i3 := i_ne n7_3; have i4 := i_ne n7_4; have i5 := i_ne n7_5; have i6 := i_ne n7_6; simp only [m_lit] at *; omega) (by decide) ?_
                refine lv_aload_n (pc := 91) hx hb dX5_jobProperty_91 rfl (lv_at hl 1 rfl) ?_
                refine lv_aload_n (pc := 92) hx hb dX5_jobProperty_92 rfl (lv_at hl 0 rfl) ?_
                refine m_callVI (pc := 93) (y := yX5_reasonToWait) (κ := 5) (As := [.ref (b + j3)]) (rest := []) C hK hP hS hl.1 ⟨Nat.zero_le _, Nat.zero_le _⟩ (c_X5_reasonToWait h) rfl rfl hk2 (by decide) rfl q_517 q_519 q_s6 q_2 q_520 ⟨rfl, rfl⟩ yd_X5_reasonToWait ⟨Nat.le_of_ble_eq_true rfl, Nat.le_of_ble_eq_true rfl⟩ (Nat.le_of_ble_eq_true rfl) dX5_jobProperty_93 (fun r12 M11 H locs h hP hS => ?_)
                exact m_iret (v := r12) (pc := 96) C hr hlk hP hS dX5_jobProperty_96 h
/-! ForgeHeats$Shop.passMinute ()V -/
def wp_X5_passMinute (n : Nat) (M : Mem) (i : Nat) (P : Mem → Prop) : Prop := m_tp n i 5 ∧ (∀ M2 : Mem, M2 = uI M i 11 ((M.1 i 11) + 1) → (wp_X5_warmFurnace n M2 i (fun M3 => wp_X5_chargeFurnace n M3 i (fun M5 => ∃ j7 : Nat, M5.2.1 i 4 = some j7 ∧ (m_tp n j7 0 ∧ (((¬ (M5.1 j7 0) = (-1) → ∃ j9 : Nat, M5.2.1 i 4 = some j9 ∧ (m_tp n j9 0 ∧ (wp_X5_placeOf n M5 i (M5.1 j9 0) (fun r12 M11 => wp_X5_workPress n M11 i r12 (fun M13 => wp_X5_tendDies n M13 i (fun M15 => P M15)))))) ∧ ((M5.1 j7 0) = (-1) → wp_X5_loadPress n M5 i (fun M17 => wp_X5_tendDies n M17 i (fun M19 => P M19))))))))))
abbrev rm_X5_passMinute : Room := { frames := 3, cells := 0, slots := 0, locals := 72 }
set_option maxHeartbeats 4000000 in
set_option maxRecDepth 100000 in
theorem c_X5_passMinute {l : Launch} {D : va_G} {cA : Nat → ClassId} {b n : Nat} {M : Mem} {i : Nat} {P : Mem → Prop} (h : wp_X5_passMinute n M i P) : m_C l D cA b n n M yX5_passMinute cX5_passMinute 1 none rm_X5_passMinute 0 0 [.ref (b + i)] (rV P) := by
  refine m_enter (by decide) (Nat.le_of_ble_eq_true rfl) (fun p e s m below meth c C hr hlk hnm hK hP hS ls hl => ?_)
  have hx := C.1
  have hb := C.2.1
  have hl : lv_has ls 1 [(0, .ref (b + i))] := hl
  unfold wp_X5_passMinute at h
  refine lv_aload_n (pc := 0) hx hb dX5_passMinute_0 rfl (lv_at hl 0 rfl) ?_
  refine lv_dup (pc := 1) hx hb dX5_passMinute_1 rfl ?_
  obtain ⟨hk1, h⟩ := h
  refine gX5_107 (pc := 2) C hK hP hk1 dX5_passMinute_2 ?_
  refine lv_iconst (v := 1) (pc := 5) hx hb dX5_passMinute_5 (by decide) ?_
  refine lv_iadd (pc := 6) hx hb dX5_passMinute_6 ?_
  refine pX5_107 (pc := 7) (v := (M.1 i 11) + 1) C hK hP hS hk1 dX5_passMinute_7 (fun M2 H locs eM2 hP hS => ?_)
  replace h := h M2 eM2
  refine lv_aload_n (pc := 10) hx hb dX5_passMinute_10 rfl (lv_at hl 0 rfl) ?_
  refine m_callVV (pc := 11) (y := yX5_warmFurnace) (κ := 5) (As := []) (rest := []) C hK hP hS hl.1 ⟨Nat.zero_le _, Nat.zero_le _⟩ (c_X5_warmFurnace h) rfl rfl hk1 (by decide) rfl q_645 q_647 q_s13 q_2 q_648 ⟨rfl, rfl⟩ yd_X5_warmFurnace ⟨Nat.le_of_ble_eq_true rfl, Nat.le_of_ble_eq_true rfl⟩ (Nat.le_of_ble_eq_true rfl) dX5_passMinute_11 (fun M3 H locs h hP hS => ?_)
  refine lv_aload_n (pc := 14) hx hb dX5_passMinute_14 rfl (lv_at hl 0 rfl) ?_
  refine m_callVV (pc := 15) (y := yX5_chargeFurnace) (κ := 5) (As := []) (rest := []) C hK hP hS hl.1 ⟨Nat.zero_le _, Nat.zero_le _⟩ (c_X5_chargeFurnace h) rfl rfl hk1 (by decide) rfl q_652 q_654 q_s14 q_2 q_655 ⟨rfl, rfl⟩ yd_X5_chargeFurnace ⟨Nat.le_of_ble_eq_true rfl, Nat.le_of_ble_eq_true rfl⟩ (Nat.le_of_ble_eq_true rfl) dX5_passMinute_15 (fun M5 H locs h hP hS => ?_)
  refine lv_aload_n (pc := 18) hx hb dX5_passMinute_18 rfl (lv_at hl 0 rfl) ?_
  obtain ⟨j7, hj7, h⟩ := h
  refine gX5_52 (pc := 19) C hK hP hk1 hj7 dX5_passMinute_19 ?_
  obtain ⟨hk8, h⟩ := h
  refine gX5_159 (pc := 22) C hK hP hk8 dX5_passMinute_22 ?_
  refine lv_iconst (v := -1) (pc := 25) hx hb dX5_passMinute_25 (by decide) ?_
  refine lv_icmp_ne (tgt := 36) (pc := 26) hx hb dX5_passMinute_26 (by decide) (fun c26 => ?_) (fun c26 => ?_)
  · replace h := h.1 c26
    refine lv_aload_n (pc := 36) hx hb dX5_passMinute_36 rfl (lv_at hl 0 rfl) ?_
    refine lv_aload_n (pc := 37) hx hb dX5_passMinute_37 rfl (lv_at hl 0 rfl) ?_
    refine lv_aload_n (pc := 38) hx hb dX5_passMinute_38 rfl (lv_at hl 0 rfl) ?_
    obtain ⟨j9, hj9, h⟩ := h
    refine gX5_52 (pc := 39) C hK hP hk1 hj9 dX5_passMinute_39 ?_
    obtain ⟨hk10, h⟩ := h
    refine gX5_159 (pc := 42) C hK hP hk10 dX5_passMinute_42 ?_
    refine m_callVI (pc := 45) (y := yX5_placeOf) (κ := 5) (As := [.int (M5.1 j9 0)]) (rest := [.ref (b + i)]) C hK hP hS hl.1 ⟨Nat.zero_le _, Nat.zero_le _⟩ (c_X5_placeOf h) rfl rfl hk1 (by decide) rfl q_668 q_588 q_589 q_2 q_590 ⟨rfl, rfl⟩ yd_X5_placeOf ⟨Nat.le_of_ble_eq_true rfl, Nat.le_of_ble_eq_true rfl⟩ (Nat.le_of_ble_eq_true rfl) dX5_passMinute_45 (fun r12 M11 H locs h hP hS => ?_)
    refine m_callVV (pc := 48) (y := yX5_workPress) (κ := 5) (As := [.int r12]) (rest := []) C hK hP hS hl.1 ⟨Nat.zero_le _, Nat.zero_le _⟩ (c_X5_workPress h) rfl rfl hk1 (by decide) rfl q_669 q_671 q_s17 q_2 q_672 ⟨rfl, rfl⟩ yd_X5_workPress ⟨Nat.le_of_ble_eq_true rfl, Nat.le_of_ble_eq_true rfl⟩ (Nat.le_of_ble_eq_true rfl) dX5_passMinute_48 (fun M13 H locs h hP hS => ?_)
    refine lv_aload_n (pc := 51) hx hb dX5_passMinute_51 rfl (lv_at hl 0 rfl) ?_
    refine m_callVV (pc := 52) (y := yX5_tendDies) (κ := 5) (As := []) (rest := []) C hK hP hS hl.1 ⟨Nat.zero_le _, Nat.zero_le _⟩ (c_X5_tendDies h) rfl rfl hk1 (by decide) rfl q_684 q_686 q_s20 q_2 q_687 ⟨rfl, rfl⟩ yd_X5_tendDies ⟨Nat.le_of_ble_eq_true rfl, Nat.le_of_ble_eq_true rfl⟩ (Nat.le_of_ble_eq_true rfl) dX5_passMinute_52 (fun M15 H locs h hP hS => ?_)
    exact m_vret (pc := 55) C hr hlk hP hS dX5_passMinute_55 h
  · replace h := h.2 c26
    refine lv_aload_n (pc := 29) hx hb dX5_passMinute_29 rfl (lv_at hl 0 rfl) ?_
    refine m_callVV (pc := 30) (y := yX5_loadPress) (κ := 5) (As := []) (rest := []) C hK hP hS hl.1 ⟨Nat.zero_le _, Nat.zero_le _⟩ (c_X5_loadPress h) rfl rfl hk1 (by decide) rfl q_660 q_662 q_s16 q_2 q_663 ⟨rfl, rfl⟩ yd_X5_loadPress ⟨Nat.le_of_ble_eq_true rfl, Nat.le_of_ble_eq_true rfl⟩ (Nat.le_of_ble_eq_true rfl) dX5_passMinute_30 (fun M17 H locs h hP hS => ?_)
    refine lv_goto (tgt := 51) (pc := 33) hx hb dX5_passMinute_33 (by decide) ?_
    refine lv_aload_n (pc := 51) hx hb dX5_passMinute_51 rfl (lv_at hl 0 rfl) ?_
    refine m_callVV (pc := 52) (y := yX5_tendDies) (κ := 5) (As := []) (rest := []) C hK hP hS hl.1 ⟨Nat.zero_le _, Nat.zero_le _⟩ (c_X5_tendDies h) rfl rfl hk1 (by decide) rfl q_684 q_686 q_s20 q_2 q_687 ⟨rfl, rfl⟩ yd_X5_tendDies ⟨Nat.le_of_ble_eq_true rfl, Nat.le_of_ble_eq_true rfl⟩ (Nat.le_of_ble_eq_true rfl) dX5_passMinute_52 (fun M19 H locs h hP hS => ?_)
    exact m_vret (pc := 55) C hr hlk hP hS dX5_passMinute_55 h
/-! ForgeHeats$Shop.passMinutes (I)V -/
def wpB_X5_passMinutes_2 (n : Nat) (P : Mem → Prop) (R_ : Mem → Nat → Int32 → Int32 → Prop) (M : Mem) (x0 : Nat) (x1 : Int32) (x2 : Int32) : Prop := ((x1 ≤ x2 → P M) ∧ (¬ x1 ≤ x2 → m_tp n x0 5 ∧ (wp_X5_passMinute n M x0 (fun M1 => ∀ v4 : Int32, v4 = x2 + 1 → (R_ M1 x0 x1 v4)))))
def wpL_X5_passMinutes_2 (n : Nat) (P : Mem → Prop) : Nat → Mem → Nat → Int32 → Int32 → Prop
  | 0 => fun _ _ _ _ => False
  | f + 1 => fun M x0 x1 x2 => wpB_X5_passMinutes_2 n P (wpL_X5_passMinutes_2 n P f) M x0 x1 x2
def wp_X5_passMinutes (n : Nat) (M : Mem) (i : Nat) (p1 : Int32) (P : Mem → Prop) : Prop := ∃ f : Nat, wpL_X5_passMinutes_2 n P f M i p1 0
abbrev rm_X5_passMinutes : Room := { frames := 4, cells := 0, slots := 0, locals := 92 }
set_option maxHeartbeats 4000000 in
set_option maxRecDepth 100000 in
theorem c_X5_passMinutes {l : Launch} {D : va_G} {cA : Nat → ClassId} {b n : Nat} {M : Mem} {i : Nat} {p1 : Int32} {P : Mem → Prop} (h : wp_X5_passMinutes n M i p1 P) : m_C l D cA b n n M yX5_passMinutes cX5_passMinutes 3 none rm_X5_passMinutes 0 0 [.ref (b + i), .int p1] (rV P) := by
  refine m_enter (by decide) (Nat.le_of_ble_eq_true rfl) (fun p e s m below meth c C hr hlk hnm hK hP hS ls hl => ?_)
  have hx := C.1
  have hb := C.2.1
  have hl : lv_has ls 3 [(0, .ref (b + i)), (1, .int p1)] := hl
  have L2 : ∀ f : Nat, ∀ (M : Mem) (H : Heap) (locs : List Loc) (ls : Array Slot) (x0 : Nat) (x1 : Int32) (x2 : Int32), wpL_X5_passMinutes_2 n P f M x0 x1 x2 → m_H D cA b n M H → va_S (m_A b) s.heap H locs → lv_has ls 3 [(0, .ref (b + x0)), (1, .int x1), (2, .int x2)] → W p l e rm_X5_passMinutes s m ([.ref (b + i), .int p1] : List Value).toArray below meth c H locs 0 0 (MQ below (m_Q D cA b n (rV P)) ([.ref (b + i), .int p1] : List Value).toArray s 0 0 (m_A b)) (F0 m 2 ls []) := by
    clear h
    intro f
    induction f with
    | zero => intro M H locs ls x0 x1 x2 h; exact h.elim
    | succ f ih =>
      intro M H locs ls x0 x1 x2 h hP hS hl
      have h : wpB_X5_passMinutes_2 n P (wpL_X5_passMinutes_2 n P f) M x0 x1 x2 := h
      unfold wpB_X5_passMinutes_2 at h
      refine lv_iload_n (pc := 2) hx hb dX5_passMinutes_2 rfl (lv_at hl 2 rfl) ?_
      refine lv_iload_n (pc := 3) hx hb dX5_passMinutes_3 rfl (lv_at hl 1 rfl) ?_
      refine lv_icmp_ge (tgt := 17) (pc := 4) hx hb dX5_passMinutes_4 (by decide) (fun c4 => ?_) (fun c4 => ?_)
      · replace h := h.1 c4
        exact m_vret (pc := 17) C hr hlk hP hS dX5_passMinutes_17 h
      · replace h := h.2 c4
        refine lv_aload_n (pc := 7) hx hb dX5_passMinutes_7 rfl (lv_at hl 0 rfl) ?_
        obtain ⟨hk2, h⟩ := h
        refine m_callVV (pc := 8) (y := yX5_passMinute) (κ := 5) (As := []) (rest := []) C hK hP hS hl.1 ⟨Nat.zero_le _, Nat.zero_le _⟩ (c_X5_passMinute h) rfl rfl hk2 (by decide) rfl q_641 q_642 q_643 q_2 q_644 ⟨rfl, rfl⟩ yd_X5_passMinute ⟨Nat.le_of_ble_eq_true rfl, Nat.le_of_ble_eq_true rfl⟩ (Nat.le_of_ble_eq_true rfl) dX5_passMinutes_8 (fun M1 H locs h hP hS => ?_)
        obtain ⟨v4, ev4⟩ : ∃ y : Int32, y = x2 + 1 := ⟨_, rfl⟩
        replace h := h v4 ev4
        refine lv_iinc (v := v4) (lv' := [(2, .int v4), (0, .ref (b + x0)), (1, .int x1)]) (pc := 11) hx hb dX5_passMinutes_11 hl (k := 2) rfl (by rw [ev4]; rfl) (by decide) rfl (fun ls hl => ?_)
        refine lv_goto (tgt := 2) (pc := 14) hx hb dX5_passMinutes_14 (by decide) ?_
        exact ih _ _ _ _ _ _ _ h hP hS (lv_sub hl [1, 2, 0] rfl)
  unfold wp_X5_passMinutes at h
  refine lv_iconst (v := 0) (pc := 0) hx hb dX5_passMinutes_0 (by decide) ?_
  refine lv_istore_n (lv' := [(2, .int 0), (0, .ref (b + i)), (1, .int p1)]) (pc := 1) hx hb dX5_passMinutes_1 rfl hl (by decide) rfl (fun ls hl => ?_)
  obtain ⟨f, h⟩ := h
  exact L2 f _ _ _ _ _ _ _ h hP hS (lv_sub hl [1, 2, 0] rfl)
