/-! ForgeHeats.clearBuffer ()I -/
def wp_X6_clearBuffer (n : Nat) (M : Mem) (i : Nat) (P : Int32 → Mem → Prop) : Prop := m_tp n i 6 ∧ (∃ j2 : Nat, M.2.1 i 4 = some j2 ∧ (m_tp n j2 4 ∧ (wp_X4_empty n M j2 (fun r5 M3 => P r5 M3))))
abbrev rm_X6_clearBuffer : Room := { frames := 1, cells := 0, slots := 0, locals := 21 }
set_option maxHeartbeats 4000000 in
set_option maxRecDepth 100000 in
theorem c_X6_clearBuffer {l : Launch} {D : va_G} {cA : Nat → ClassId} {b n : Nat} {M : Mem} {i : Nat} {P : Int32 → Mem → Prop} (h : wp_X6_clearBuffer n M i P) : m_C l D cA b n n M yX6_clearBuffer cX6_clearBuffer 1 (some .int) rm_X6_clearBuffer 0 0 [.ref (b + i)] (rI P) := by
  refine m_enter (by decide) (Nat.le_of_ble_eq_true rfl) (fun p e s m below meth c C hr hlk hnm hK hP hS ls hl => ?_)
  have hx := C.1
  have hb := C.2.1
  have hl : lv_has ls 1 [(0, .ref (b + i))] := hl
  unfold wp_X6_clearBuffer at h
  refine lv_aload_n (pc := 0) hx hb dX6_clearBuffer_0 rfl (lv_at hl 0 rfl) ?_
  obtain ⟨hk1, h⟩ := h
  obtain ⟨j2, hj2, h⟩ := h
  refine gX6_26 (pc := 1) C hK hP hk1 hj2 dX6_clearBuffer_1 ?_
  obtain ⟨hk4, h⟩ := h
  refine m_callVI (pc := 4) (y := yX4_empty) (κ := 4) (As := []) (rest := []) C hK hP hS hl.1 ⟨Nat.zero_le _, Nat.zero_le _⟩ (c_X4_empty h) rfl rfl hk4 (by decide) rfl q_289 q_290 q_291 q_7 q_292 ⟨rfl, rfl⟩ yd_X4_empty ⟨Nat.le_of_ble_eq_true rfl, Nat.le_of_ble_eq_true rfl⟩ (Nat.le_of_ble_eq_true rfl) dX6_clearBuffer_4 (fun r5 M3 H locs h hP hS => ?_)
  exact m_iret (v := r5) (pc := 7) C hr hlk hP hS dX6_clearBuffer_7 h
/-! ForgeHeats.isWithin (III)Z -/
def wp_X6_isWithin (n : Nat) (M : Mem) (p1 : Int32) (p2 : Int32) (p3 : Int32) (P : Bool → Mem → Prop) : Prop := P (if p1 < p2 then false else (if p3 < p1 then false else true)) M
abbrev rm_X6_isWithin : Room := { frames := 0, cells := 0, slots := 0, locals := 0 }
set_option maxHeartbeats 4000000 in
set_option maxRecDepth 100000 in
theorem c_X6_isWithin {l : Launch} {D : va_G} {cA : Nat → ClassId} {b n : Nat} {M : Mem} {p1 : Int32} {p2 : Int32} {p3 : Int32} {P : Bool → Mem → Prop} (h : wp_X6_isWithin n M p1 p2 p3 P) : m_C l D cA b n n M yX6_isWithin cX6_isWithin 3 (some .boolean) rm_X6_isWithin 0 0 [.int p1, .int p2, .int p3] (rZ P) := by
  refine m_enter (by decide) (Nat.le_of_ble_eq_true rfl) (fun p e s m below meth c C hr hlk hnm hK hP hS ls hl => ?_)
  have hx := C.1
  have hb := C.2.1
  have hl : lv_has ls 3 [(0, .int p1), (1, .int p2), (2, .int p3)] := hl
  unfold wp_X6_isWithin at h
  refine lv_iload_n (pc := 0) hx hb dX6_isWithin_0 rfl (lv_at hl 0 rfl) ?_
  refine lv_iload_n (pc := 1) hx hb dX6_isWithin_1 rfl (lv_at hl 1 rfl) ?_
  refine m_joinZ (z := if p1 < p2 then false else (if p3 < p1 then false else true)) (jp := 15) (rest := []) ?_ (fun hJ => ?_)
  rotate_left
  · skip
    refine lv_icmp_lt (tgt := 14) (pc := 2) hx hb dX6_isWithin_2 (by decide) (fun c2 => ?_) (fun c2 => ?_)
    · skip
      refine lv_iconst (v := 0) (pc := 14) hx hb dX6_isWithin_14 (by decide) ?_
      exact hJ _ false rfl (by rw [if_pos c2])
    · skip
      refine lv_iload_n (pc := 5) hx hb dX6_isWithin_5 rfl (lv_at hl 0 rfl) ?_
      refine lv_iload_n (pc := 6) hx hb dX6_isWithin_6 rfl (lv_at hl 2 rfl) ?_
      refine lv_icmp_gt (tgt := 14) (pc := 7) hx hb dX6_isWithin_7 (by decide) (fun c7 => ?_) (fun c7 => ?_)
      · skip
        refine lv_iconst (v := 0) (pc := 14) hx hb dX6_isWithin_14 (by decide) ?_
        exact hJ _ false rfl (by rw [if_neg c2, if_pos c7])
      · skip
        refine lv_iconst (v := 1) (pc := 10) hx hb dX6_isWithin_10 (by decide) ?_
        refine lv_goto (tgt := 15) (pc := 11) hx hb dX6_isWithin_11 (by decide) ?_
        exact hJ _ true rfl (by rw [if_neg c2, if_neg c7])
  exact m_zret (v := if p1 < p2 then false else (if p3 < p1 then false else true)) (pc := 15) C hr hlk hP hS dX6_isWithin_15 h
/-! ForgeHeats.leastValue (I)I -/
def wp_X6_leastValue (n : Nat) (M : Mem) (p1 : Int32) (P : Int32 → Mem → Prop) : Prop := ((p1 = 0 → P 10 M) ∧ (¬ p1 = 0 → ((p1 = 2 → P 0 M) ∧ (¬ p1 = 2 → P 1 M))))
abbrev rm_X6_leastValue : Room := { frames := 0, cells := 0, slots := 0, locals := 0 }
set_option maxHeartbeats 4000000 in
set_option maxRecDepth 100000 in
theorem c_X6_leastValue {l : Launch} {D : va_G} {cA : Nat → ClassId} {b n : Nat} {M : Mem} {p1 : Int32} {P : Int32 → Mem → Prop} (h : wp_X6_leastValue n M p1 P) : m_C l D cA b n n M yX6_leastValue cX6_leastValue 1 (some .int) rm_X6_leastValue 0 0 [.int p1] (rI P) := by
  refine m_enter (by decide) (Nat.le_of_ble_eq_true rfl) (fun p e s m below meth c C hr hlk hnm hK hP hS ls hl => ?_)
  have hx := C.1
  have hb := C.2.1
  have hl : lv_has ls 1 [(0, .int p1)] := hl
  unfold wp_X6_leastValue at h
  refine lv_iload_n (pc := 0) hx hb dX6_leastValue_0 rfl (lv_at hl 0 rfl) ?_
  by_cases n1_0 : p1 = 0
  · replace h := h.1 n1_0
    refine m_lcase (v := 0) (tgt := 28) (pc := 1) (off := 27) hx hb n1_0 dX6_leastValue_1 (by decide) (by decide) (by decide) ?_
    refine lv_bipush (v := 10) (pc := 28) hx hb dX6_leastValue_28 (by decide) ?_
    exact m_iret (v := 10) (pc := 30) C hr hlk hP hS dX6_leastValue_30 h
  · replace h := h.2 n1_0
    by_cases n1_1 : p1 = 2
    · replace h := h.1 n1_1
      refine m_lcase (v := 2) (tgt := 31) (pc := 1) (off := 30) hx hb n1_1 dX6_leastValue_1 (by decide) (by decide) (by decide) ?_
      refine lv_iconst (v := 0) (pc := 31) hx hb dX6_leastValue_31 (by decide) ?_
      exact m_iret (v := 0) (pc := 32) C hr hlk hP hS dX6_leastValue_32 h
    · replace h := h.2 n1_1
      refine lv_lookup (off := 32) (tgt := 33) (pc := 1) hx hb dX6_leastValue_1 (by decide) (by have i0 := i_ne n1_0; have i1 := i_ne n1_1; simp only [m_lit] at *; simp [Op.lookupswitch.offset, Ne.symm i0, Ne.symm i1]) (by decide) ?_
      refine lv_iconst (v := 1) (pc := 33) hx hb dX6_leastValue_33 (by decide) ?_
      exact m_iret (v := 1) (pc := 34) C hr hlk hP hS dX6_leastValue_34 h
/-! ForgeHeats.mostValue (I)I -/
def wp_X6_mostValue (n : Nat) (M : Mem) (p1 : Int32) (P : Int32 → Mem → Prop) : Prop := ((p1 = 0 → P 300 M) ∧ (¬ p1 = 0 → ((p1 = 1 → P 200 M) ∧ (¬ p1 = 1 → ((p1 = 2 → P 3 M) ∧ (¬ p1 = 2 → P 30 M))))))
abbrev rm_X6_mostValue : Room := { frames := 0, cells := 0, slots := 0, locals := 0 }
set_option maxHeartbeats 4000000 in
set_option maxRecDepth 100000 in
theorem c_X6_mostValue {l : Launch} {D : va_G} {cA : Nat → ClassId} {b n : Nat} {M : Mem} {p1 : Int32} {P : Int32 → Mem → Prop} (h : wp_X6_mostValue n M p1 P) : m_C l D cA b n n M yX6_mostValue cX6_mostValue 1 (some .int) rm_X6_mostValue 0 0 [.int p1] (rI P) := by
  refine m_enter (by decide) (Nat.le_of_ble_eq_true rfl) (fun p e s m below meth c C hr hlk hnm hK hP hS ls hl => ?_)
  have hx := C.1
  have hb := C.2.1
  have hl : lv_has ls 1 [(0, .int p1)] := hl
  unfold wp_X6_mostValue at h
  refine lv_iload_n (pc := 0) hx hb dX6_mostValue_0 rfl (lv_at hl 0 rfl) ?_
  by_cases n1_0 : p1 = 0
  · replace h := h.1 n1_0
    refine m_case (v := 0) (off := 27) (tgt := 28) (pc := 1) hx hb n1_0 dX6_mostValue_1 (by decide) (by decide) (by decide) (by decide) ?_
    refine lv_sipush (v := 300) (pc := 28) hx hb dX6_mostValue_28 (by decide) ?_
    exact m_iret (v := 300) (pc := 31) C hr hlk hP hS dX6_mostValue_31 h
  · replace h := h.2 n1_0
    by_cases n1_1 : p1 = 1
    · replace h := h.1 n1_1
      refine m_case (v := 1) (off := 31) (tgt := 32) (pc := 1) hx hb n1_1 dX6_mostValue_1 (by decide) (by decide) (by decide) (by decide) ?_
      refine lv_sipush (v := 200) (pc := 32) hx hb dX6_mostValue_32 (by decide) ?_
      exact m_iret (v := 200) (pc := 35) C hr hlk hP hS dX6_mostValue_35 h
    · replace h := h.2 n1_1
      by_cases n1_2 : p1 = 2
      · replace h := h.1 n1_2
        refine m_case (v := 2) (off := 35) (tgt := 36) (pc := 1) hx hb n1_2 dX6_mostValue_1 (by decide) (by decide) (by decide) (by decide) ?_
        refine lv_iconst (v := 3) (pc := 36) hx hb dX6_mostValue_36 (by decide) ?_
        exact m_iret (v := 3) (pc := 37) C hr hlk hP hS dX6_mostValue_37 h
      · replace h := h.2 n1_2
        refine lv_tableOut (tgt := 38) (pc := 1) hx hb dX6_mostValue_1 (by have i0 := i_ne n1_0; have i1 := i_ne n1_1; have i2 := i_ne n1_2; simp only [m_lit] at *; omega) (by decide) ?_
        refine lv_bipush (v := 30) (pc := 38) hx hb dX6_mostValue_38 (by decide) ?_
        exact m_iret (v := 30) (pc := 40) C hr hlk hP hS dX6_mostValue_40 h
/-! ForgeHeats.pastAt (I)LForgeHeats$Shop; -/
def wp_X6_pastAt (n : Nat) (M : Mem) (i : Nat) (p1 : Int32) (P : Option Nat → Mem → Prop) : Prop := ((p1 < 0 → P none M) ∧ (¬ p1 < 0 → m_tp n i 6 ∧ (∃ j2 : Nat, M.2.1 i 2 = some j2 ∧ (m_tp n j2 15 ∧ ((((nI (m_len j2)) ≤ p1 → P none M) ∧ (¬ (nI (m_len j2)) ≤ p1 → ∃ j4 : Nat, M.2.1 i 2 = some j4 ∧ (m_tp n j4 15 ∧ (vp_in p1 (m_len j4) ∧ (∃ j7 : Nat, M.2.1 j4 p1.toNatClampNeg = some j7 ∧ (P (some j7) M)))))))))))
abbrev rm_X6_pastAt : Room := { frames := 0, cells := 0, slots := 0, locals := 0 }
set_option maxHeartbeats 4000000 in
set_option maxRecDepth 100000 in
theorem c_X6_pastAt {l : Launch} {D : va_G} {cA : Nat → ClassId} {b n : Nat} {M : Mem} {i : Nat} {p1 : Int32} {P : Option Nat → Mem → Prop} (h : wp_X6_pastAt n M i p1 P) : m_C l D cA b n n M yX6_pastAt cX6_pastAt 2 (some (.object "ForgeHeats$Shop")) rm_X6_pastAt 0 0 [.ref (b + i), .int p1] (rO b P) := by
  refine m_enter (by decide) (Nat.le_of_ble_eq_true rfl) (fun p e s m below meth c C hr hlk hnm hK hP hS ls hl => ?_)
  have hx := C.1
  have hb := C.2.1
  have hl : lv_has ls 2 [(0, .ref (b + i)), (1, .int p1)] := hl
  unfold wp_X6_pastAt at h
  refine lv_iload_n (pc := 0) hx hb dX6_pastAt_0 rfl (lv_at hl 1 rfl) ?_
  refine lv_if_lt (tgt := 22) (pc := 1) hx hb dX6_pastAt_1 (by decide) (fun c1 => ?_) (fun c1 => ?_)
  · replace h := h.1 c1
    refine lv_null (pc := 22) hx hb dX6_pastAt_22 ?_
    exact m_oret (v := none) (pc := 23) C hr hlk hP hS dX6_pastAt_23 h
  · replace h := h.2 c1
    refine lv_iload_n (pc := 4) hx hb dX6_pastAt_4 rfl (lv_at hl 1 rfl) ?_
    refine lv_aload_n (pc := 5) hx hb dX6_pastAt_5 rfl (lv_at hl 0 rfl) ?_
    obtain ⟨hk1, h⟩ := h
    obtain ⟨j2, hj2, h⟩ := h
    refine gX6_19 (pc := 6) C hK hP hk1 hj2 dX6_pastAt_6 ?_
    obtain ⟨hk3, h⟩ := h
    refine m_alen (pc := 9) (κ := 15) C hK hP hk3 (by decide) rfl dX6_pastAt_9 ?_
    refine lv_icmp_ge (tgt := 22) (pc := 10) hx hb dX6_pastAt_10 (by decide) (fun c10 => ?_) (fun c10 => ?_)
    · replace h := h.1 c10
      refine lv_null (pc := 22) hx hb dX6_pastAt_22 ?_
      exact m_oret (v := none) (pc := 23) C hr hlk hP hS dX6_pastAt_23 h
    · replace h := h.2 c10
      refine lv_aload_n (pc := 13) hx hb dX6_pastAt_13 rfl (lv_at hl 0 rfl) ?_
      obtain ⟨j4, hj4, h⟩ := h
      refine gX6_19 (pc := 14) C hK hP hk1 hj4 dX6_pastAt_14 ?_
      refine lv_iload_n (pc := 17) hx hb dX6_pastAt_17 rfl (lv_at hl 1 rfl) ?_
      obtain ⟨hk5, h⟩ := h
      obtain ⟨hi6, h⟩ := h
      obtain ⟨j7, hj7, h⟩ := h
      refine m_aldq (pc := 18) (κ := 15) C hK hP hk5 (by decide) rfl hi6 hj7 dX6_pastAt_18 ?_
      refine lv_goto (tgt := 23) (pc := 19) hx hb dX6_pastAt_19 (by decide) ?_
      exact m_oret (v := some j7) (pc := 23) C hr hlk hP hS dX6_pastAt_23 h
/-! ForgeHeats.numberOf (I)I -/
def wp_X6_numberOf (n : Nat) (M : Mem) (i : Nat) (p1 : Int32) (P : Int32 → Mem → Prop) : Prop := ((p1 = 0 → m_tp n i 6 ∧ (∃ j2 : Nat, M.2.1 i 0 = some j2 ∧ (m_tp n j2 5 ∧ (P (M.1 j2 11) M)))) ∧ (¬ p1 = 0 → ((p1 = 1 → m_tp n i 6 ∧ (∃ j5 : Nat, M.2.1 i 0 = some j5 ∧ (m_tp n j5 5 ∧ (P (M.1 j5 5) M)))) ∧ (¬ p1 = 1 → ((p1 = 2 → m_tp n i 6 ∧ (∃ j8 : Nat, M.2.1 i 0 = some j8 ∧ (m_tp n j8 5 ∧ (wp_X5_countRushJobs n M j8 (fun r11 M9 => P r11 M9))))) ∧ (¬ p1 = 2 → ((p1 = 3 → m_tp n i 6 ∧ (∃ j13 : Nat, M.2.1 i 0 = some j13 ∧ (m_tp n j13 5 ∧ (wp_X5_countInFurnace n M j13 (fun r16 M14 => P r16 M14))))) ∧ (¬ p1 = 3 → ((p1 = 4 → m_tp n i 6 ∧ (∃ j18 : Nat, M.2.1 i 0 = some j18 ∧ (m_tp n j18 5 ∧ (wp_X5_countMade n M j18 (fun r21 M19 => P r21 M19))))) ∧ (¬ p1 = 4 → ((p1 = 5 → m_tp n i 6 ∧ (∃ j23 : Nat, M.2.1 i 0 = some j23 ∧ (m_tp n j23 5 ∧ (wp_X5_countScrap n M j23 (fun r26 M24 => P r26 M24))))) ∧ (¬ p1 = 5 → ((p1 = 6 → m_tp n i 6 ∧ (∃ j28 : Nat, M.2.1 i 0 = some j28 ∧ (m_tp n j28 5 ∧ (P (M.1 j28 12) M)))) ∧ (¬ p1 = 6 → ((p1 = 7 → m_tp n i 6 ∧ (∃ j31 : Nat, M.2.1 i 0 = some j31 ∧ (m_tp n j31 5 ∧ (P (M.1 j31 13) M)))) ∧ (¬ p1 = 7 → ((p1 = 8 → m_tp n i 6 ∧ (∃ j34 : Nat, M.2.1 i 0 = some j34 ∧ (m_tp n j34 5 ∧ (P (M.1 j34 14) M)))) ∧ (¬ p1 = 8 → ((p1 = 9 → m_tp n i 6 ∧ (∃ j37 : Nat, M.2.1 i 0 = some j37 ∧ (m_tp n j37 5 ∧ (P (M.1 j37 15) M)))) ∧ (¬ p1 = 9 → ((p1 = 10 → m_tp n i 6 ∧ (∃ j40 : Nat, M.2.1 i 0 = some j40 ∧ (m_tp n j40 5 ∧ (wp_X5_dieBeingGround n M j40 (fun r43 M41 => P r43 M41))))) ∧ (¬ p1 = 10 → m_tp n i 6 ∧ (P (M.1 i 3) M)))))))))))))))))))))))
abbrev rm_X6_numberOf : Room := { frames := 2, cells := 0, slots := 0, locals := 44 }
set_option maxHeartbeats 4000000 in
set_option maxRecDepth 100000 in
theorem c_X6_numberOf {l : Launch} {D : va_G} {cA : Nat → ClassId} {b n : Nat} {M : Mem} {i : Nat} {p1 : Int32} {P : Int32 → Mem → Prop} (h : wp_X6_numberOf n M i p1 P) : m_C l D cA b n n M yX6_numberOf cX6_numberOf 2 (some .int) rm_X6_numberOf 0 0 [.ref (b + i), .int p1] (rI P) := by
  refine m_enter (by decide) (Nat.le_of_ble_eq_true rfl) (fun p e s m below meth c C hr hlk hnm hK hP hS ls hl => ?_)
  have hx := C.1
  have hb := C.2.1
  have hl : lv_has ls 2 [(0, .ref (b + i)), (1, .int p1)] := hl
  unfold wp_X6_numberOf at h
  refine lv_iload_n (pc := 0) hx hb dX6_numberOf_0 rfl (lv_at hl 1 rfl) ?_
  by_cases n1_0 : p1 = 0
  · replace h := h.1 n1_0
    refine m_case (v := 0) (off := 59) (tgt := 60) (pc := 1) hx hb n1_0 dX6_numberOf_1 (by decide) (by decide) (by decide) (by decide) ?_
    refine lv_aload_n (pc := 60) hx hb dX6_numberOf_60 rfl (lv_at hl 0 rfl) ?_
    obtain ⟨hk1, h⟩ := h
    obtain ⟨j2, hj2, h⟩ := h
    refine gX6_10 (pc := 61) C hK hP hk1 hj2 dX6_numberOf_61 ?_
    obtain ⟨hk3, h⟩ := h
    refine gX6_154 (pc := 64) C hK hP hk3 dX6_numberOf_64 ?_
    exact m_iret (v := M.1 j2 11) (pc := 67) C hr hlk hP hS dX6_numberOf_67 h
  · replace h := h.2 n1_0
    by_cases n1_1 : p1 = 1
    · replace h := h.1 n1_1
      refine m_case (v := 1) (off := 67) (tgt := 68) (pc := 1) hx hb n1_1 dX6_numberOf_1 (by decide) (by decide) (by decide) (by decide) ?_
      refine lv_aload_n (pc := 68) hx hb dX6_numberOf_68 rfl (lv_at hl 0 rfl) ?_
      obtain ⟨hk4, h⟩ := h
      obtain ⟨j5, hj5, h⟩ := h
      refine gX6_10 (pc := 69) C hK hP hk4 hj5 dX6_numberOf_69 ?_
      obtain ⟨hk6, h⟩ := h
      refine gX6_113 (pc := 72) C hK hP hk6 dX6_numberOf_72 ?_
      exact m_iret (v := M.1 j5 5) (pc := 75) C hr hlk hP hS dX6_numberOf_75 h
    · replace h := h.2 n1_1
      by_cases n1_2 : p1 = 2
      · replace h := h.1 n1_2
        refine m_case (v := 2) (off := 75) (tgt := 76) (pc := 1) hx hb n1_2 dX6_numberOf_1 (by decide) (by decide) (by decide) (by decide) ?_
        refine lv_aload_n (pc := 76) hx hb dX6_numberOf_76 rfl (lv_at hl 0 rfl) ?_
        obtain ⟨hk7, h⟩ := h
        obtain ⟨j8, hj8, h⟩ := h
        refine gX6_10 (pc := 77) C hK hP hk7 hj8 dX6_numberOf_77 ?_
        obtain ⟨hk10, h⟩ := h
        refine m_callVI (pc := 80) (y := yX5_countRushJobs) (κ := 5) (As := []) (rest := []) C hK hP hS hl.1 ⟨Nat.zero_le _, Nat.zero_le _⟩ (c_X5_countRushJobs h) rfl rfl hk10 (by decide) rfl q_358 q_359 q_360 q_2 q_361 ⟨rfl, rfl⟩ yd_X5_countRushJobs ⟨Nat.le_of_ble_eq_true rfl, Nat.le_of_ble_eq_true rfl⟩ (Nat.le_of_ble_eq_true rfl) dX6_numberOf_80 (fun r11 M9 H locs h hP hS => ?_)
        exact m_iret (v := r11) (pc := 83) C hr hlk hP hS dX6_numberOf_83 h
      · replace h := h.2 n1_2
        by_cases n1_3 : p1 = 3
        · replace h := h.1 n1_3
          refine m_case (v := 3) (off := 83) (tgt := 84) (pc := 1) hx hb n1_3 dX6_numberOf_1 (by decide) (by decide) (by decide) (by decide) ?_
          refine lv_aload_n (pc := 84) hx hb dX6_numberOf_84 rfl (lv_at hl 0 rfl) ?_
          obtain ⟨hk12, h⟩ := h
          obtain ⟨j13, hj13, h⟩ := h
          refine gX6_10 (pc := 85) C hK hP hk12 hj13 dX6_numberOf_85 ?_
          obtain ⟨hk15, h⟩ := h
          refine m_callVI (pc := 88) (y := yX5_countInFurnace) (κ := 5) (As := []) (rest := []) C hK hP hS hl.1 ⟨Nat.zero_le _, Nat.zero_le _⟩ (c_X5_countInFurnace h) rfl rfl hk15 (by decide) rfl q_366 q_367 q_368 q_2 q_369 ⟨rfl, rfl⟩ yd_X5_countInFurnace ⟨Nat.le_of_ble_eq_true rfl, Nat.le_of_ble_eq_true rfl⟩ (Nat.le_of_ble_eq_true rfl) dX6_numberOf_88 (fun r16 M14 H locs h hP hS => ?_)
          exact m_iret (v := r16) (pc := 91) C hr hlk hP hS dX6_numberOf_91 h
        · replace h := h.2 n1_3
          by_cases n1_4 : p1 = 4
          · replace h := h.1 n1_4
            refine m_case (v := 4) (off := 91) (tgt := 92) (pc := 1) hx hb n1_4 dX6_numberOf_1 (by decide) (by decide) (by decide) (by decide) ?_
            refine lv_aload_n (pc := 92) hx hb dX6_numberOf_92 rfl (lv_at hl 0 rfl) ?_
            obtain ⟨hk17, h⟩ := h
            obtain ⟨j18, hj18, h⟩ := h
            refine gX6_10 (pc := 93) C hK hP hk17 hj18 dX6_numberOf_93 ?_
            obtain ⟨hk20, h⟩ := h
            refine m_callVI (pc := 96) (y := yX5_countMade) (κ := 5) (As := []) (rest := []) C hK hP hS hl.1 ⟨Nat.zero_le _, Nat.zero_le _⟩ (c_X5_countMade h) rfl rfl hk20 (by decide) rfl q_337 q_338 q_339 q_2 q_340 ⟨rfl, rfl⟩ yd_X5_countMade ⟨Nat.le_of_ble_eq_true rfl, Nat.le_of_ble_eq_true rfl⟩ (Nat.le_of_ble_eq_true rfl) dX6_numberOf_96 (fun r21 M19 H locs h hP hS => ?_)
            exact m_iret (v := r21) (pc := 99) C hr hlk hP hS dX6_numberOf_99 h
          · replace h := h.2 n1_4
            by_cases n1_5 : p1 = 5
            · replace h := h.1 n1_5
              refine m_case (v := 5) (off := 99) (tgt := 100) (pc := 1) hx hb n1_5 dX6_numberOf_1 (by decide) (by decide) (by decide) (by decide) ?_
              refine lv_aload_n (pc := 100) hx hb dX6_numberOf_100 rfl (lv_at hl 0 rfl) ?_
              obtain ⟨hk22, h⟩ := h
              obtain ⟨j23, hj23, h⟩ := h
              refine gX6_10 (pc := 101) C hK hP hk22 hj23 dX6_numberOf_101 ?_
              obtain ⟨hk25, h⟩ := h
              refine m_callVI (pc := 104) (y := yX5_countScrap) (κ := 5) (As := []) (rest := []) C hK hP hS hl.1 ⟨Nat.zero_le _, Nat.zero_le _⟩ (c_X5_countScrap h) rfl rfl hk25 (by decide) rfl q_345 q_346 q_347 q_2 q_348 ⟨rfl, rfl⟩ yd_X5_countScrap ⟨Nat.le_of_ble_eq_true rfl, Nat.le_of_ble_eq_true rfl⟩ (Nat.le_of_ble_eq_true rfl) dX6_numberOf_104 (fun r26 M24 H locs h hP hS => ?_)
              exact m_iret (v := r26) (pc := 107) C hr hlk hP hS dX6_numberOf_107 h
            · replace h := h.2 n1_5
              by_cases n1_6 : p1 = 6
              · replace h := h.1 n1_6
                refine m_case (v := 6) (off := 107) (tgt := 108) (pc := 1) hx hb n1_6 dX6_numberOf_1 (by decide) (by decide) (by decide) (by decide) ?_
                refine lv_aload_n (pc := 108) hx hb dX6_numberOf_108 rfl (lv_at hl 0 rfl) ?_
                obtain ⟨hk27, h⟩ := h
                obtain ⟨j28, hj28, h⟩ := h
                refine gX6_10 (pc := 109) C hK hP hk27 hj28 dX6_numberOf_109 ?_
                obtain ⟨hk29, h⟩ := h
                refine gX6_309 (pc := 112) C hK hP hk29 dX6_numberOf_112 ?_
                exact m_iret (v := M.1 j28 12) (pc := 115) C hr hlk hP hS dX6_numberOf_115 h
              · replace h := h.2 n1_6
                by_cases n1_7 : p1 = 7
                · replace h := h.1 n1_7
                  refine m_case (v := 7) (off := 115) (tgt := 116) (pc := 1) hx hb n1_7 dX6_numberOf_1 (by decide) (by decide) (by decide) (by decide) ?_
                  refine lv_aload_n (pc := 116) hx hb dX6_numberOf_116 rfl (lv_at hl 0 rfl) ?_
                  obtain ⟨hk30, h⟩ := h
                  obtain ⟨j31, hj31, h⟩ := h
                  refine gX6_10 (pc := 117) C hK hP hk30 hj31 dX6_numberOf_117 ?_
                  obtain ⟨hk32, h⟩ := h
                  refine gX6_310 (pc := 120) C hK hP hk32 dX6_numberOf_120 ?_
                  exact m_iret (v := M.1 j31 13) (pc := 123) C hr hlk hP hS dX6_numberOf_123 h
                · replace h := h.2 n1_7
                  by_cases n1_8 : p1 = 8
                  · replace h := h.1 n1_8
                    refine m_case (v := 8) (off := 123) (tgt := 124) (pc := 1) hx hb n1_8 dX6_numberOf_1 (by decide) (by decide) (by decide) (by decide) ?_
                    refine lv_aload_n (pc := 124) hx hb dX6_numberOf_124 rfl (lv_at hl 0 rfl) ?_
                    obtain ⟨hk33, h⟩ := h
                    obtain ⟨j34, hj34, h⟩ := h
                    refine gX6_10 (pc := 125) C hK hP hk33 hj34 dX6_numberOf_125 ?_
                    obtain ⟨hk35, h⟩ := h
                    refine gX6_313 (pc := 128) C hK hP hk35 dX6_numberOf_128 ?_
                    exact m_iret (v := M.1 j34 14) (pc := 131) C hr hlk hP hS dX6_numberOf_131 h
                  · replace h := h.2 n1_8
                    by_cases n1_9 : p1 = 9
                    · replace h := h.1 n1_9
                      refine m_case (v := 9) (off := 131) (tgt := 132) (pc := 1) hx hb n1_9 dX6_numberOf_1 (by decide) (by decide) (by decide) (by decide) ?_
                      refine lv_aload_n (pc := 132) hx hb dX6_numberOf_132 rfl (lv_at hl 0 rfl) ?_
                      obtain ⟨hk36, h⟩ := h
                      obtain ⟨j37, hj37, h⟩ := h
                      refine gX6_10 (pc := 133) C hK hP hk36 hj37 dX6_numberOf_133 ?_
                      obtain ⟨hk38, h⟩ := h
                      refine gX6_316 (pc := 136) C hK hP hk38 dX6_numberOf_136 ?_
                      exact m_iret (v := M.1 j37 15) (pc := 139) C hr hlk hP hS dX6_numberOf_139 h
                    · replace h := h.2 n1_9
                      by_cases n1_10 : p1 = 10
                      · replace h := h.1 n1_10
                        refine m_case (v := 10) (off := 139) (tgt := 140) (pc := 1) hx hb n1_10 dX6_numberOf_1 (by decide) (by decide) (by decide) (by decide) ?_
                        refine lv_aload_n (pc := 140) hx hb dX6_numberOf_140 rfl (lv_at hl 0 rfl) ?_
                        obtain ⟨hk39, h⟩ := h
                        obtain ⟨j40, hj40, h⟩ := h
                        refine gX6_10 (pc := 141) C hK hP hk39 hj40 dX6_numberOf_141 ?_
                        obtain ⟨hk42, h⟩ := h
                        refine m_callVI (pc := 144) (y := yX5_dieBeingGround) (κ := 5) (As := []) (rest := []) C hK hP hS hl.1 ⟨Nat.zero_le _, Nat.zero_le _⟩ (c_X5_dieBeingGround h) rfl rfl hk42 (by decide) rfl q_370 q_371 q_372 q_2 q_373 ⟨rfl, rfl⟩ yd_X5_dieBeingGround ⟨Nat.le_of_ble_eq_true rfl, Nat.le_of_ble_eq_true rfl⟩ (Nat.le_of_ble_eq_true rfl) dX6_numberOf_144 (fun r43 M41 H locs h hP hS => ?_)
                        exact m_iret (v := r43) (pc := 147) C hr hlk hP hS dX6_numberOf_147 h
                      · replace h := h.2 n1_10
                        refine lv_tableOut (tgt := 148) (pc := 1) hx hb dX6_numberOf_1 (by have i0 := i_ne n1_0; have i1 := i_ne n1_1; have i2 := i_ne n1_2; have i3 := i_ne n1_3; have i4 := i_ne n1_4; have i5 := i_ne n1_5; have i6 := i_ne n1_6; have i7 := i_ne n1_7; have i8 := i_ne n1_8; have i9 := i_ne n1_9; have i10 := i_ne n1_10; simp only [m_lit] at *; omega) (by decide) ?_
                        refine lv_aload_n (pc := 148) hx hb dX6_numberOf_148 rfl (lv_at hl 0 rfl) ?_
                        obtain ⟨hk44, h⟩ := h
                        refine gX6_212 (pc := 149) C hK hP hk44 dX6_numberOf_149 ?_
                        exact m_iret (v := M.1 i 3) (pc := 152) C hr hlk hP hS dX6_numberOf_152 h
/-! ForgeHeats.foreseen (I)I -/
def wp_X6_foreseen (n : Nat) (M : Mem) (i : Nat) (p1 : Int32) (P : Int32 → Mem → Prop) : Prop := ((p1 = 0 → m_tp n i 6 ∧ (∃ j2 : Nat, M.2.1 i 1 = some j2 ∧ (m_tp n j2 5 ∧ (wp_X5_countMade n M j2 (fun r5 M3 => ∃ j6 : Nat, M3.2.1 i 0 = some j6 ∧ (m_tp n j6 5 ∧ (wp_X5_countMade n M3 j6 (fun r9 M7 => P (r5 - r9) M7)))))))) ∧ (¬ p1 = 0 → ((p1 = 1 → m_tp n i 6 ∧ (∃ j11 : Nat, M.2.1 i 1 = some j11 ∧ (m_tp n j11 5 ∧ (wp_X5_countScrap n M j11 (fun r14 M12 => ∃ j15 : Nat, M12.2.1 i 0 = some j15 ∧ (m_tp n j15 5 ∧ (wp_X5_countScrap n M12 j15 (fun r18 M16 => P (r14 - r18) M16)))))))) ∧ (¬ p1 = 1 → ((p1 = 2 → m_tp n i 6 ∧ (∃ j20 : Nat, M.2.1 i 1 = some j20 ∧ (m_tp n j20 5 ∧ (P (M.1 j20 5) M)))) ∧ (¬ p1 = 2 → ((p1 = 3 → m_tp n i 6 ∧ (∃ j23 : Nat, M.2.1 i 1 = some j23 ∧ (m_tp n j23 5 ∧ (∃ j25 : Nat, M.2.1 i 0 = some j25 ∧ (m_tp n j25 5 ∧ (P ((M.1 j23 15) - (M.1 j25 15)) M)))))) ∧ (¬ p1 = 3 → m_tp n i 6 ∧ (∃ j28 : Nat, M.2.1 i 1 = some j28 ∧ (m_tp n j28 5 ∧ (∃ j30 : Nat, M.2.1 i 0 = some j30 ∧ (m_tp n j30 5 ∧ (P ((M.1 j28 12) - (M.1 j30 12)) M)))))))))))))
abbrev rm_X6_foreseen : Room := { frames := 2, cells := 0, slots := 0, locals := 44 }
set_option maxHeartbeats 4000000 in
set_option maxRecDepth 100000 in
theorem c_X6_foreseen {l : Launch} {D : va_G} {cA : Nat → ClassId} {b n : Nat} {M : Mem} {i : Nat} {p1 : Int32} {P : Int32 → Mem → Prop} (h : wp_X6_foreseen n M i p1 P) : m_C l D cA b n n M yX6_foreseen cX6_foreseen 2 (some .int) rm_X6_foreseen 0 0 [.ref (b + i), .int p1] (rI P) := by
  refine m_enter (by decide) (Nat.le_of_ble_eq_true rfl) (fun p e s m below meth c C hr hlk hnm hK hP hS ls hl => ?_)
  have hx := C.1
  have hb := C.2.1
  have hl : lv_has ls 2 [(0, .ref (b + i)), (1, .int p1)] := hl
  unfold wp_X6_foreseen at h
  refine lv_iload_n (pc := 0) hx hb dX6_foreseen_0 rfl (lv_at hl 1 rfl) ?_
  by_cases n1_0 : p1 = 0
  · replace h := h.1 n1_0
    refine m_case (v := 0) (off := 31) (tgt := 32) (pc := 1) hx hb n1_0 dX6_foreseen_1 (by decide) (by decide) (by decide) (by decide) ?_
    refine lv_aload_n (pc := 32) hx hb dX6_foreseen_32 rfl (lv_at hl 0 rfl) ?_
    obtain ⟨hk1, h⟩ := h
    obtain ⟨j2, hj2, h⟩ := h
    refine gX6_16 (pc := 33) C hK hP hk1 hj2 dX6_foreseen_33 ?_
    obtain ⟨hk4, h⟩ := h
    refine m_callVI (pc := 36) (y := yX5_countMade) (κ := 5) (As := []) (rest := []) C hK hP hS hl.1 ⟨Nat.zero_le _, Nat.zero_le _⟩ (c_X5_countMade h) rfl rfl hk4 (by decide) rfl q_337 q_338 q_339 q_2 q_340 ⟨rfl, rfl⟩ yd_X5_countMade ⟨Nat.le_of_ble_eq_true rfl, Nat.le_of_ble_eq_true rfl⟩ (Nat.le_of_ble_eq_true rfl) dX6_foreseen_36 (fun r5 M3 H locs h hP hS => ?_)
    refine lv_aload_n (pc := 39) hx hb dX6_foreseen_39 rfl (lv_at hl 0 rfl) ?_
    obtain ⟨j6, hj6, h⟩ := h
    refine gX6_10 (pc := 40) C hK hP hk1 hj6 dX6_foreseen_40 ?_
    obtain ⟨hk8, h⟩ := h
    refine m_callVI (pc := 43) (y := yX5_countMade) (κ := 5) (As := []) (rest := [.int r5]) C hK hP hS hl.1 ⟨Nat.zero_le _, Nat.zero_le _⟩ (c_X5_countMade h) rfl rfl hk8 (by decide) rfl q_337 q_338 q_339 q_2 q_340 ⟨rfl, rfl⟩ yd_X5_countMade ⟨Nat.le_of_ble_eq_true rfl, Nat.le_of_ble_eq_true rfl⟩ (Nat.le_of_ble_eq_true rfl) dX6_foreseen_43 (fun r9 M7 H locs h hP hS => ?_)
    refine lv_isub (pc := 46) hx hb dX6_foreseen_46 ?_
    exact m_iret (v := r5 - r9) (pc := 47) C hr hlk hP hS dX6_foreseen_47 h
  · replace h := h.2 n1_0
    by_cases n1_1 : p1 = 1
    · replace h := h.1 n1_1
      refine m_case (v := 1) (off := 47) (tgt := 48) (pc := 1) hx hb n1_1 dX6_foreseen_1 (by decide) (by decide) (by decide) (by decide) ?_
      refine lv_aload_n (pc := 48) hx hb dX6_foreseen_48 rfl (lv_at hl 0 rfl) ?_
      obtain ⟨hk10, h⟩ := h
      obtain ⟨j11, hj11, h⟩ := h
      refine gX6_16 (pc := 49) C hK hP hk10 hj11 dX6_foreseen_49 ?_
      obtain ⟨hk13, h⟩ := h
      refine m_callVI (pc := 52) (y := yX5_countScrap) (κ := 5) (As := []) (rest := []) C hK hP hS hl.1 ⟨Nat.zero_le _, Nat.zero_le _⟩ (c_X5_countScrap h) rfl rfl hk13 (by decide) rfl q_345 q_346 q_347 q_2 q_348 ⟨rfl, rfl⟩ yd_X5_countScrap ⟨Nat.le_of_ble_eq_true rfl, Nat.le_of_ble_eq_true rfl⟩ (Nat.le_of_ble_eq_true rfl) dX6_foreseen_52 (fun r14 M12 H locs h hP hS => ?_)
      refine lv_aload_n (pc := 55) hx hb dX6_foreseen_55 rfl (lv_at hl 0 rfl) ?_
      obtain ⟨j15, hj15, h⟩ := h
      refine gX6_10 (pc := 56) C hK hP hk10 hj15 dX6_foreseen_56 ?_
      obtain ⟨hk17, h⟩ := h
      refine m_callVI (pc := 59) (y := yX5_countScrap) (κ := 5) (As := []) (rest := [.int r14]) C hK hP hS hl.1 ⟨Nat.zero_le _, Nat.zero_le _⟩ (c_X5_countScrap h) rfl rfl hk17 (by decide) rfl q_345 q_346 q_347 q_2 q_348 ⟨rfl, rfl⟩ yd_X5_countScrap ⟨Nat.le_of_ble_eq_true rfl, Nat.le_of_ble_eq_true rfl⟩ (Nat.le_of_ble_eq_true rfl) dX6_foreseen_59 (fun r18 M16 H locs h hP hS => ?_)
      refine lv_isub (pc := 62) hx hb dX6_foreseen_62 ?_
      exact m_iret (v := r14 - r18) (pc := 63) C hr hlk hP hS dX6_foreseen_63 h
    · replace h := h.2 n1_1
      by_cases n1_2 : p1 = 2
      · replace h := h.1 n1_2
        refine m_case (v := 2) (off := 63) (tgt := 64) (pc := 1) hx hb n1_2 dX6_foreseen_1 (by decide) (by decide) (by decide) (by decide) ?_
        refine lv_aload_n (pc := 64) hx hb dX6_foreseen_64 rfl (lv_at hl 0 rfl) ?_
        obtain ⟨hk19, h⟩ := h
        obtain ⟨j20, hj20, h⟩ := h
        refine gX6_16 (pc := 65) C hK hP hk19 hj20 dX6_foreseen_65 ?_
        obtain ⟨hk21, h⟩ := h
        refine gX6_113 (pc := 68) C hK hP hk21 dX6_foreseen_68 ?_
        exact m_iret (v := M.1 j20 5) (pc := 71) C hr hlk hP hS dX6_foreseen_71 h
      · replace h := h.2 n1_2
        by_cases n1_3 : p1 = 3
        · replace h := h.1 n1_3
          refine m_case (v := 3) (off := 71) (tgt := 72) (pc := 1) hx hb n1_3 dX6_foreseen_1 (by decide) (by decide) (by decide) (by decide) ?_
          refine lv_aload_n (pc := 72) hx hb dX6_foreseen_72 rfl (lv_at hl 0 rfl) ?_
          obtain ⟨hk22, h⟩ := h
          obtain ⟨j23, hj23, h⟩ := h
          refine gX6_16 (pc := 73) C hK hP hk22 hj23 dX6_foreseen_73 ?_
          obtain ⟨hk24, h⟩ := h
          refine gX6_316 (pc := 76) C hK hP hk24 dX6_foreseen_76 ?_
          refine lv_aload_n (pc := 79) hx hb dX6_foreseen_79 rfl (lv_at hl 0 rfl) ?_
          obtain ⟨j25, hj25, h⟩ := h
          refine gX6_10 (pc := 80) C hK hP hk22 hj25 dX6_foreseen_80 ?_
          obtain ⟨hk26, h⟩ := h
          refine gX6_316 (pc := 83) C hK hP hk26 dX6_foreseen_83 ?_
          refine lv_isub (pc := 86) hx hb dX6_foreseen_86 ?_
          exact m_iret (v := (M.1 j23 15) - (M.1 j25 15)) (pc := 87) C hr hlk hP hS dX6_foreseen_87 h
        · replace h := h.2 n1_3
          refine lv_tableOut (tgt := 88) (pc := 1) hx hb dX6_foreseen_1 (by have i0 := i_ne n1_0; have i1 := i_ne n1_1; have i2 := i_ne n1_2; have i3 := i_ne n1_3; simp only [m_lit] at *; omega) (by decide) ?_
          refine lv_aload_n (pc := 88) hx hb dX6_foreseen_88 rfl (lv_at hl 0 rfl) ?_
          obtain ⟨hk27, h⟩ := h
          obtain ⟨j28, hj28, h⟩ := h
          refine gX6_16 (pc := 89) C hK hP hk27 hj28 dX6_foreseen_89 ?_
          obtain ⟨hk29, h⟩ := h
          refine gX6_309 (pc := 92) C hK hP hk29 dX6_foreseen_92 ?_
          refine lv_aload_n (pc := 95) hx hb dX6_foreseen_95 rfl (lv_at hl 0 rfl) ?_
          obtain ⟨j30, hj30, h⟩ := h
          refine gX6_10 (pc := 96) C hK hP hk27 hj30 dX6_foreseen_96 ?_
          obtain ⟨hk31, h⟩ := h
          refine gX6_309 (pc := 99) C hK hP hk31 dX6_foreseen_99 ?_
          refine lv_isub (pc := 102) hx hb dX6_foreseen_102 ?_
          exact m_iret (v := (M.1 j28 12) - (M.1 j30 12)) (pc := 103) C hr hlk hP hS dX6_foreseen_103 h
/-! ForgeHeats.shareMade ()D -/
def wp_X6_shareMade (n : Nat) (M : Mem) (i : Nat) (P : UInt64 → Mem → Prop) : Prop := m_tp n i 6 ∧ (∃ j2 : Nat, M.2.1 i 0 = some j2 ∧ (m_tp n j2 5 ∧ (wp_X5_countMade n M j2 (fun r5 M3 => ∃ j6 : Nat, M3.2.1 i 0 = some j6 ∧ (m_tp n j6 5 ∧ (wp_X5_countScrap n M3 j6 (fun r9 M7 => ∀ v10 : Int32, v10 = (r5 + r9) → (((¬ v10 = 0 → vf_n64 (FP.ddiv (FP.i2d r5) (FP.i2d v10)) ∧ (P (FP.ddiv (FP.i2d r5) (FP.i2d v10)) M7)) ∧ (v10 = 0 → P (FP.dconst1) M7))))))))))
abbrev rm_X6_shareMade : Room := { frames := 2, cells := 0, slots := 0, locals := 44 }
set_option maxHeartbeats 4000000 in
set_option maxRecDepth 100000 in
theorem c_X6_shareMade {l : Launch} {D : va_G} {cA : Nat → ClassId} {b n : Nat} {M : Mem} {i : Nat} {P : UInt64 → Mem → Prop} (h : wp_X6_shareMade n M i P) : m_C l D cA b n n M yX6_shareMade cX6_shareMade 3 (some .double) rm_X6_shareMade 0 0 [.ref (b + i)] (rD P) := by
  refine m_enter (by decide) (Nat.le_of_ble_eq_true rfl) (fun p e s m below meth c C hr hlk hnm hK hP hS ls hl => ?_)
  have hx := C.1
  have hb := C.2.1
  have hl : lv_has ls 3 [(0, .ref (b + i))] := hl
  unfold wp_X6_shareMade at h
  refine lv_aload_n (pc := 0) hx hb dX6_shareMade_0 rfl (lv_at hl 0 rfl) ?_
  obtain ⟨hk1, h⟩ := h
  obtain ⟨j2, hj2, h⟩ := h
  refine gX6_10 (pc := 1) C hK hP hk1 hj2 dX6_shareMade_1 ?_
  obtain ⟨hk4, h⟩ := h
  refine m_callVI (pc := 4) (y := yX5_countMade) (κ := 5) (As := []) (rest := []) C hK hP hS hl.1 ⟨Nat.zero_le _, Nat.zero_le _⟩ (c_X5_countMade h) rfl rfl hk4 (by decide) rfl q_337 q_338 q_339 q_2 q_340 ⟨rfl, rfl⟩ yd_X5_countMade ⟨Nat.le_of_ble_eq_true rfl, Nat.le_of_ble_eq_true rfl⟩ (Nat.le_of_ble_eq_true rfl) dX6_shareMade_4 (fun r5 M3 H locs h hP hS => ?_)
  refine lv_istore_n (lv' := [(1, .int r5), (0, .ref (b + i))]) (pc := 7) hx hb dX6_shareMade_7 rfl hl (by decide) rfl (fun ls hl => ?_)
  refine lv_iload_n (pc := 8) hx hb dX6_shareMade_8 rfl (lv_at hl 0 rfl) ?_
  refine lv_aload_n (pc := 9) hx hb dX6_shareMade_9 rfl (lv_at hl 1 rfl) ?_
  obtain ⟨j6, hj6, h⟩ := h
  refine gX6_10 (pc := 10) C hK hP hk1 hj6 dX6_shareMade_10 ?_
  obtain ⟨hk8, h⟩ := h
  refine m_callVI (pc := 13) (y := yX5_countScrap) (κ := 5) (As := []) (rest := [.int r5]) C hK hP hS hl.1 ⟨Nat.zero_le _, Nat.zero_le _⟩ (c_X5_countScrap h) rfl rfl hk8 (by decide) rfl q_345 q_346 q_347 q_2 q_348 ⟨rfl, rfl⟩ yd_X5_countScrap ⟨Nat.le_of_ble_eq_true rfl, Nat.le_of_ble_eq_true rfl⟩ (Nat.le_of_ble_eq_true rfl) dX6_shareMade_13 (fun r9 M7 H locs h hP hS => ?_)
  refine lv_iadd (pc := 16) hx hb dX6_shareMade_16 ?_
  refine lv_topi (fun v10 ev10 => ?_)
  replace h := h v10 ev10
  refine lv_istore_n (lv' := [(2, .int v10), (1, .int r5), (0, .ref (b + i))]) (pc := 17) hx hb dX6_shareMade_17 rfl hl (by decide) rfl (fun ls hl => ?_)
  refine lv_iload_n (pc := 18) hx hb dX6_shareMade_18 rfl (lv_at hl 0 rfl) ?_
  refine lv_if_ne (tgt := 26) (pc := 19) hx hb dX6_shareMade_19 (by decide) (fun c19 => ?_) (fun c19 => ?_)
  · replace h := h.1 c19
    refine lv_iload_n (pc := 26) hx hb dX6_shareMade_26 rfl (lv_at hl 1 rfl) ?_
    refine lv_i2d (pc := 27) hx hb dX6_shareMade_27 ?_
    refine lv_iload_n (pc := 28) hx hb dX6_shareMade_28 rfl (lv_at hl 0 rfl) ?_
    refine lv_i2d (pc := 29) hx hb dX6_shareMade_29 ?_
    obtain ⟨hz11, h⟩ := h
    refine lv_ddiv (pc := 30) hx hb dX6_shareMade_30 hz11 ?_
    exact m_dret (v := FP.ddiv (FP.i2d r5) (FP.i2d v10)) (pc := 31) C hr hlk hP hS dX6_shareMade_31 h
  · replace h := h.2 c19
    refine lv_dconst1 (pc := 22) hx hb dX6_shareMade_22 ?_
    refine lv_goto (tgt := 31) (pc := 23) hx hb dX6_shareMade_23 (by decide) ?_
    exact m_dret (v := FP.dconst1) (pc := 31) C hr hlk hP hS dX6_shareMade_31 h
/-! ForgeHeats.bitsOf (D)J -/
def wpB_X6_bitsOf_18 (n : Nat) (P : Int64 → Mem → Prop) (R_ : Mem → UInt64 → Int64 → Int32 → Prop) (M : Mem) (x2 : UInt64) (x4 : Int64) (x6 : Int32) : Prop := ((1022 ≤ x6 → vf_n64 (FP.dsub x2 (FP.dconst1)) ∧ (vf_n64 (FP.dmul (FP.dsub x2 (FP.dconst1)) 4841369599423283200) ∧ (P ((x4 <<< ((52 : Int32).toInt64 &&& 63)) + (FP.d2l (FP.dmul (FP.dsub x2 (FP.dconst1)) 4841369599423283200))) M))) ∧ (¬ 1022 ≤ x6 → ((0 ≤ (Op.cmpValue (FP.dcmp x2 (FP.dconst1)) .g) → vf_n64 (FP.dsub x2 (FP.dconst1)) ∧ (vf_n64 (FP.dmul (FP.dsub x2 (FP.dconst1)) 4841369599423283200) ∧ (P ((x4 <<< ((52 : Int32).toInt64 &&& 63)) + (FP.d2l (FP.dmul (FP.dsub x2 (FP.dconst1)) 4841369599423283200))) M))) ∧ (¬ 0 ≤ (Op.cmpValue (FP.dcmp x2 (FP.dconst1)) .g) → vf_n64 (FP.dmul x2 4611686018427387904) ∧ (∀ v6 : UInt64, v6 = (FP.dmul x2 4611686018427387904) → (∀ v7 : Int64, v7 = (x4 - 1) → (∀ v8 : Int32, v8 = x6 + 1 → (R_ M v6 v7 v8))))))))
def wpL_X6_bitsOf_18 (n : Nat) (P : Int64 → Mem → Prop) : Nat → Mem → UInt64 → Int64 → Int32 → Prop
  | 0 => fun _ _ _ _ => False
  | f + 1 => fun M x2 x4 x6 => wpB_X6_bitsOf_18 n P (wpL_X6_bitsOf_18 n P f) M x2 x4 x6
def wp_X6_bitsOf (n : Nat) (M : Mem) (p1 : UInt64) (P : Int64 → Mem → Prop) : Prop := ((0 < (Op.cmpValue (FP.dcmp p1 (FP.dconst0)) .g) → ∃ f : Nat, wpL_X6_bitsOf_18 n P f M p1 1023 0) ∧ (¬ 0 < (Op.cmpValue (FP.dcmp p1 (FP.dconst0)) .g) → P 0 M))
abbrev rm_X6_bitsOf : Room := { frames := 0, cells := 0, slots := 0, locals := 0 }
set_option maxHeartbeats 4000000 in
set_option maxRecDepth 100000 in
theorem c_X6_bitsOf {l : Launch} {D : va_G} {cA : Nat → ClassId} {b n : Nat} {M : Mem} {p1 : UInt64} {P : Int64 → Mem → Prop} (h : wp_X6_bitsOf n M p1 P) : m_C l D cA b n n M yX6_bitsOf cX6_bitsOf 7 (some .long) rm_X6_bitsOf 0 0 [.double p1] (rL P) := by
  refine m_enter (by decide) (Nat.le_of_ble_eq_true rfl) (fun p e s m below meth c C hr hlk hnm hK hP hS ls hl => ?_)
  have hx := C.1
  have hb := C.2.1
  have hl : lv_has ls 7 [(0, .double p1)] := hl
  have L18 : ∀ f : Nat, ∀ (M : Mem) (H : Heap) (locs : List Loc) (ls : Array Slot) (x2 : UInt64) (x4 : Int64) (x6 : Int32), wpL_X6_bitsOf_18 n P f M x2 x4 x6 → m_H D cA b n M H → va_S (m_A b) s.heap H locs → lv_has ls 7 [(2, .double x2), (4, .long x4), (6, .int x6)] → W p l e rm_X6_bitsOf s m ([.double p1] : List Value).toArray below meth c H locs 0 0 (MQ below (m_Q D cA b n (rL P)) ([.double p1] : List Value).toArray s 0 0 (m_A b)) (F0 m 18 ls []) := by
    clear h
    intro f
    induction f with
    | zero => intro M H locs ls x2 x4 x6 h; exact h.elim
    | succ f ih =>
      intro M H locs ls x2 x4 x6 h hP hS hl
      have h : wpB_X6_bitsOf_18 n P (wpL_X6_bitsOf_18 n P f) M x2 x4 x6 := h
      unfold wpB_X6_bitsOf_18 at h
      refine lv_iload (pc := 18) hx hb dX6_bitsOf_18 (lv_at hl 2 rfl) ?_
      refine lv_sipush (v := 1022) (pc := 20) hx hb dX6_bitsOf_20 (by decide) ?_
      refine lv_icmp_ge (tgt := 50) (pc := 23) hx hb dX6_bitsOf_23 (by decide) (fun c23 => ?_) (fun c23 => ?_)
      · replace h := h.1 c23
        refine lv_lload (pc := 50) hx hb dX6_bitsOf_50 (lv_at hl 1 rfl) ?_
        refine lv_bipush (v := 52) (pc := 52) hx hb dX6_bitsOf_52 (by decide) ?_
        refine lv_lshl (pc := 54) hx hb dX6_bitsOf_54 rfl ?_
        refine lv_dload_n (pc := 55) hx hb dX6_bitsOf_55 rfl (lv_at hl 0 rfl) ?_
        refine lv_dconst1 (pc := 56) hx hb dX6_bitsOf_56 ?_
        obtain ⟨hz1, h⟩ := h
        refine lv_dsub (pc := 57) hx hb dX6_bitsOf_57 hz1 ?_
        refine lv_ldc2d (pc := 58) (v := 4841369599423283200) hx hb C.2.2.2.1 (C.2.2.2.2 _ q_580) dX6_bitsOf_58 ?_
        obtain ⟨hz2, h⟩ := h
        refine lv_dmul (pc := 61) hx hb dX6_bitsOf_61 hz2 ?_
        refine lv_d2l (pc := 62) hx hb dX6_bitsOf_62 ?_
        refine lv_ladd (pc := 63) hx hb dX6_bitsOf_63 ?_
        exact m_lret (v := (x4 <<< ((52 : Int32).toInt64 &&& 63)) + (FP.d2l (FP.dmul (FP.dsub x2 (FP.dconst1)) 4841369599423283200))) (pc := 64) C hr hlk hP hS dX6_bitsOf_64 h
      · replace h := h.2 c23
        refine lv_dload_n (pc := 26) hx hb dX6_bitsOf_26 rfl (lv_at hl 0 rfl) ?_
        refine lv_dconst1 (pc := 27) hx hb dX6_bitsOf_27 ?_
        refine lv_dcmp (pc := 28) hx hb dX6_bitsOf_28 ?_
        refine lv_if_ge (tgt := 50) (pc := 29) hx hb dX6_bitsOf_29 (by decide) (fun c29 => ?_) (fun c29 => ?_)
        · replace h := h.1 c29
          refine lv_lload (pc := 50) hx hb dX6_bitsOf_50 (lv_at hl 1 rfl) ?_
          refine lv_bipush (v := 52) (pc := 52) hx hb dX6_bitsOf_52 (by decide) ?_
          refine lv_lshl (pc := 54) hx hb dX6_bitsOf_54 rfl ?_
          refine lv_dload_n (pc := 55) hx hb dX6_bitsOf_55 rfl (lv_at hl 0 rfl) ?_
          refine lv_dconst1 (pc := 56) hx hb dX6_bitsOf_56 ?_
          obtain ⟨hz3, h⟩ := h
          refine lv_dsub (pc := 57) hx hb dX6_bitsOf_57 hz3 ?_
          refine lv_ldc2d (pc := 58) (v := 4841369599423283200) hx hb C.2.2.2.1 (C.2.2.2.2 _ q_580) dX6_bitsOf_58 ?_
          obtain ⟨hz4, h⟩ := h
          refine lv_dmul (pc := 61) hx hb dX6_bitsOf_61 hz4 ?_
          refine lv_d2l (pc := 62) hx hb dX6_bitsOf_62 ?_
          refine lv_ladd (pc := 63) hx hb dX6_bitsOf_63 ?_
          exact m_lret (v := (x4 <<< ((52 : Int32).toInt64 &&& 63)) + (FP.d2l (FP.dmul (FP.dsub x2 (FP.dconst1)) 4841369599423283200))) (pc := 64) C hr hlk hP hS dX6_bitsOf_64 h
        · replace h := h.2 c29
          refine lv_dload_n (pc := 32) hx hb dX6_bitsOf_32 rfl (lv_at hl 0 rfl) ?_
          refine lv_ldc2d (pc := 33) (v := 4611686018427387904) hx hb C.2.2.2.1 (C.2.2.2.2 _ q_579) dX6_bitsOf_33 ?_
          obtain ⟨hz5, h⟩ := h
          refine lv_dmul (pc := 36) hx hb dX6_bitsOf_36 hz5 ?_
          refine lv_topd (fun v6 ev6 => ?_)
          replace h := h v6 ev6
          refine lv_dstore_n (lv' := [(2, .double v6), (4, .long x4), (6, .int x6)]) (pc := 37) hx hb dX6_bitsOf_37 rfl hl (by decide) rfl (fun ls hl => ?_)
          refine lv_lload (pc := 38) hx hb dX6_bitsOf_38 (lv_at hl 1 rfl) ?_
          refine lv_lconst (v := 1) (pc := 40) hx hb dX6_bitsOf_40 rfl ?_
          refine lv_lsub (pc := 41) hx hb dX6_bitsOf_41 ?_
          refine lv_topl (fun v7 ev7 => ?_)
          replace h := h v7 ev7
          refine lv_lstore (lv' := [(4, .long v7), (2, .double v6), (6, .int x6)]) (pc := 42) hx hb dX6_bitsOf_42 hl (by decide) rfl (fun ls hl => ?_)
          obtain ⟨v8, ev8⟩ : ∃ y : Int32, y = x6 + 1 := ⟨_, rfl⟩
          replace h := h v8 ev8
          refine lv_iinc (v := v8) (lv' := [(6, .int v8), (4, .long v7), (2, .double v6)]) (pc := 44) hx hb dX6_bitsOf_44 hl (k := 2) rfl (by rw [ev8]; rfl) (by decide) rfl (fun ls hl => ?_)
          refine lv_goto (tgt := 18) (pc := 47) hx hb dX6_bitsOf_47 (by decide) ?_
          exact ih _ _ _ _ _ _ _ h hP hS (lv_sub hl [2, 1, 0] rfl)
  unfold wp_X6_bitsOf at h
  refine lv_dload_n (pc := 0) hx hb dX6_bitsOf_0 rfl (lv_at hl 0 rfl) ?_
  refine lv_dconst0 (pc := 1) hx hb dX6_bitsOf_1 ?_
  refine lv_dcmp (pc := 2) hx hb dX6_bitsOf_2 ?_
  refine lv_if_gt (tgt := 8) (pc := 3) hx hb dX6_bitsOf_3 (by decide) (fun c3 => ?_) (fun c3 => ?_)
  · replace h := h.1 c3
    refine lv_dload_n (pc := 8) hx hb dX6_bitsOf_8 rfl (lv_at hl 0 rfl) ?_
    refine lv_dstore_n (lv' := [(2, .double p1), (0, .double p1)]) (pc := 9) hx hb dX6_bitsOf_9 rfl hl (by decide) rfl (fun ls hl => ?_)
    refine lv_ldc2 (pc := 10) (v := 1023) hx hb C.2.2.2.1 (C.2.2.2.2 _ q_578) dX6_bitsOf_10 ?_
    refine lv_lstore (lv' := [(4, .long 1023), (2, .double p1), (0, .double p1)]) (pc := 13) hx hb dX6_bitsOf_13 hl (by decide) rfl (fun ls hl => ?_)
    refine lv_iconst (v := 0) (pc := 15) hx hb dX6_bitsOf_15 (by decide) ?_
    refine lv_istore (lv' := [(6, .int 0), (4, .long 1023), (2, .double p1), (0, .double p1)]) (pc := 16) hx hb dX6_bitsOf_16 hl (by decide) rfl (fun ls hl => ?_)
    obtain ⟨f, h⟩ := h
    exact L18 f _ _ _ _ _ _ _ h hP hS (lv_sub hl [2, 1, 0] rfl)
  · replace h := h.2 c3
    refine lv_lconst (v := 0) (pc := 6) hx hb dX6_bitsOf_6 rfl ?_
    exact m_lret (v := 0) (pc := 7) C hr hlk hP hS dX6_bitsOf_7 h
/-! ForgeHeats.mix (JJ)J -/
def wp_X6_mix (n : Nat) (M : Mem) (p1 : Int64) (p2 : Int64) (P : Int64 → Mem → Prop) : Prop := P ((31 * p1) + p2) M
abbrev rm_X6_mix : Room := { frames := 0, cells := 0, slots := 0, locals := 0 }
set_option maxHeartbeats 4000000 in
set_option maxRecDepth 100000 in
theorem c_X6_mix {l : Launch} {D : va_G} {cA : Nat → ClassId} {b n : Nat} {M : Mem} {p1 : Int64} {p2 : Int64} {P : Int64 → Mem → Prop} (h : wp_X6_mix n M p1 p2 P) : m_C l D cA b n n M yX6_mix cX6_mix 4 (some .long) rm_X6_mix 0 0 [.long p1, .long p2] (rL P) := by
  refine m_enter (by decide) (Nat.le_of_ble_eq_true rfl) (fun p e s m below meth c C hr hlk hnm hK hP hS ls hl => ?_)
  have hx := C.1
  have hb := C.2.1
  have hl : lv_has ls 4 [(0, .long p1), (2, .long p2)] := hl
  unfold wp_X6_mix at h
  refine lv_ldc2 (pc := 0) (v := 31) hx hb C.2.2.2.1 (C.2.2.2.2 _ q_385) dX6_mix_0 ?_
  refine lv_lload_n (pc := 3) hx hb dX6_mix_3 rfl (lv_at hl 0 rfl) ?_
  refine lv_lmul (pc := 4) hx hb dX6_mix_4 ?_
  refine lv_lload_n (pc := 5) hx hb dX6_mix_5 rfl (lv_at hl 1 rfl) ?_
  refine lv_ladd (pc := 6) hx hb dX6_mix_6 ?_
  exact m_lret (v := (31 * p1) + p2) (pc := 7) C hr hlk hP hS dX6_mix_7 h
/-! ForgeHeats.saved ()D -/
def wp_X6_saved (n : Nat) (M : Mem) (i : Nat) (P : UInt64 → Mem → Prop) : Prop := m_tp n i 6 ∧ (wp_X6_shareMade n M i (fun r3 M1 => P r3 M1))
abbrev rm_X6_saved : Room := { frames := 3, cells := 0, slots := 0, locals := 66 }
set_option maxHeartbeats 4000000 in
set_option maxRecDepth 100000 in
theorem c_X6_saved {l : Launch} {D : va_G} {cA : Nat → ClassId} {b n : Nat} {M : Mem} {i : Nat} {P : UInt64 → Mem → Prop} (h : wp_X6_saved n M i P) : m_C l D cA b n n M yX6_saved cX6_saved 1 (some .double) rm_X6_saved 0 0 [.ref (b + i)] (rD P) := by
  refine m_enter (by decide) (Nat.le_of_ble_eq_true rfl) (fun p e s m below meth c C hr hlk hnm hK hP hS ls hl => ?_)
  have hx := C.1
  have hb := C.2.1
  have hl : lv_has ls 1 [(0, .ref (b + i))] := hl
  unfold wp_X6_saved at h
  refine lv_aload_n (pc := 0) hx hb dX6_saved_0 rfl (lv_at hl 0 rfl) ?_
  obtain ⟨hk2, h⟩ := h
  refine m_callVD (pc := 1) (y := yX6_shareMade) (κ := 6) (As := []) (rest := []) C hK hP hS hl.1 ⟨Nat.zero_le _, Nat.zero_le _⟩ (c_X6_shareMade h) rfl rfl hk2 (by decide) rfl q_333 q_335 q_s5 q_1 q_336 ⟨rfl, rfl⟩ yd_X6_shareMade ⟨Nat.le_of_ble_eq_true rfl, Nat.le_of_ble_eq_true rfl⟩ (Nat.le_of_ble_eq_true rfl) dX6_saved_1 (fun r3 M1 H locs h hP hS => ?_)
  exact m_dret (v := r3) (pc := 4) C hr hlk hP hS dX6_saved_4 h
/-! ForgeHeats.dropOldest ()V -/
def wpB_X6_dropOldest_16 (n : Nat) (P : Mem → Prop) (R_ : Mem → Nat → Option Nat → Int32 → Int32 → Prop) (M : Mem) (x0 : Nat) (x1 : Option Nat) (x2 : Int32) (x3 : Int32) : Prop := ((x2 ≤ x3 → ((x2 < 0 → P M) ∧ (¬ x2 < 0 → m_tp n x0 6 ∧ (∃ j8 : Nat, M.2.1 x0 2 = some j8 ∧ (m_tp n j8 15 ∧ (∃ j10 : Nat, x1 = some j10 ∧ (m_tp n j10 5 ∧ (vp_in x2 (m_len j8) ∧ (∀ M13 : Mem, M13 = uR M j8 x2.toNatClampNeg (some j10) → (∀ M14 : Mem, M14 = uI M13 x0 3 x2 → (P M14))))))))))) ∧ (¬ x2 ≤ x3 → m_tp n x0 6 ∧ (∃ j16 : Nat, M.2.1 x0 2 = some j16 ∧ (∃ j17 : Nat, M.2.1 x0 2 = some j17 ∧ (m_tp n j17 15 ∧ (vp_in (x3 + 1) (m_len j17) ∧ (∃ j20 : Nat, M.2.1 j17 (x3 + 1).toNatClampNeg = some j20 ∧ (m_tp n j16 15 ∧ (m_tp n j20 5 ∧ (vp_in x3 (m_len j16) ∧ (∀ M24 : Mem, M24 = uR M j16 x3.toNatClampNeg (some j20) → (∀ v25 : Int32, v25 = x3 + 1 → (R_ M24 x0 x1 x2 v25)))))))))))))
def wpL_X6_dropOldest_16 (n : Nat) (P : Mem → Prop) : Nat → Mem → Nat → Option Nat → Int32 → Int32 → Prop
  | 0 => fun _ _ _ _ _ => False
  | f + 1 => fun M x0 x1 x2 x3 => wpB_X6_dropOldest_16 n P (wpL_X6_dropOldest_16 n P f) M x0 x1 x2 x3
def wp_X6_dropOldest (n : Nat) (M : Mem) (i : Nat) (P : Mem → Prop) : Prop := m_tp n i 6 ∧ (wp_X6_pastAt n M i 0 (fun o3 M1 => ∃ j4 : Nat, M1.2.1 i 2 = some j4 ∧ (m_tp n j4 15 ∧ (∀ v6 : Int32, v6 = ((nI (m_len j4)) - 1) → (∃ f : Nat, wpL_X6_dropOldest_16 n P f M1 i o3 v6 0)))))
abbrev rm_X6_dropOldest : Room := { frames := 1, cells := 0, slots := 0, locals := 21 }
set_option maxHeartbeats 4000000 in
set_option maxRecDepth 100000 in
theorem c_X6_dropOldest {l : Launch} {D : va_G} {cA : Nat → ClassId} {b n : Nat} {M : Mem} {i : Nat} {P : Mem → Prop} (h : wp_X6_dropOldest n M i P) : m_C l D cA b n n M yX6_dropOldest cX6_dropOldest 4 none rm_X6_dropOldest 0 0 [.ref (b + i)] (rV P) := by
  refine m_enter (by decide) (Nat.le_of_ble_eq_true rfl) (fun p e s m below meth c C hr hlk hnm hK hP hS ls hl => ?_)
  have hx := C.1
  have hb := C.2.1
  have hl : lv_has ls 4 [(0, .ref (b + i))] := hl
  have L16 : ∀ f : Nat, ∀ (M : Mem) (H : Heap) (locs : List Loc) (ls : Array Slot) (x0 : Nat) (x1 : Option Nat) (x2 : Int32) (x3 : Int32), wpL_X6_dropOldest_16 n P f M x0 x1 x2 x3 → m_H D cA b n M H → va_S (m_A b) s.heap H locs → lv_has ls 4 [(0, .ref (b + x0)), (1, va_rf ((x1).map (fun j => b + j))), (2, .int x2), (3, .int x3)] → W p l e rm_X6_dropOldest s m ([.ref (b + i)] : List Value).toArray below meth c H locs 0 0 (MQ below (m_Q D cA b n (rV P)) ([.ref (b + i)] : List Value).toArray s 0 0 (m_A b)) (F0 m 16 ls []) := by
    clear h
    intro f
    induction f with
    | zero => intro M H locs ls x0 x1 x2 x3 h; exact h.elim
    | succ f ih =>
      intro M H locs ls x0 x1 x2 x3 h hP hS hl
      have h : wpB_X6_dropOldest_16 n P (wpL_X6_dropOldest_16 n P f) M x0 x1 x2 x3 := h
      unfold wpB_X6_dropOldest_16 at h
      refine lv_iload_n (pc := 16) hx hb dX6_dropOldest_16 rfl (lv_at hl 3 rfl) ?_
      refine lv_iload_n (pc := 17) hx hb dX6_dropOldest_17 rfl (lv_at hl 2 rfl) ?_
      refine lv_icmp_ge (tgt := 41) (pc := 18) hx hb dX6_dropOldest_18 (by decide) (fun c18 => ?_) (fun c18 => ?_)
      · replace h := h.1 c18
        refine lv_iload_n (pc := 41) hx hb dX6_dropOldest_41 rfl (lv_at hl 2 rfl) ?_
        refine lv_if_lt (tgt := 57) (pc := 42) hx hb dX6_dropOldest_42 (by decide) (fun c42 => ?_) (fun c42 => ?_)
        · replace h := h.1 c42
          exact m_vret (pc := 57) C hr hlk hP hS dX6_dropOldest_57 h
        · replace h := h.2 c42
          refine lv_aload_n (pc := 45) hx hb dX6_dropOldest_45 rfl (lv_at hl 0 rfl) ?_
          obtain ⟨hk7, h⟩ := h
          obtain ⟨j8, hj8, h⟩ := h
          refine gX6_19 (pc := 46) C hK hP hk7 hj8 dX6_dropOldest_46 ?_
          refine lv_iload_n (pc := 49) hx hb dX6_dropOldest_49 rfl (lv_at hl 2 rfl) ?_
          refine m_aldO_n hx hb (pc := 50) dX6_dropOldest_50 rfl (lv_at hl 1 rfl) ?_
          obtain ⟨hk9, h⟩ := h
          obtain ⟨j10, eo, h⟩ := h
          try rw [eo]
          try rw [eo] at hl
          obtain ⟨hk11, h⟩ := h
          obtain ⟨hi12, h⟩ := h
          refine m_astq (pc := 51) (κ := 15) (ci := 5) C hK hP hS hk9 (by decide) rfl hk11 (by decide) rfl hi12 dX6_dropOldest_51 (fun M13 H locs eM13 hP hS => ?_)
          replace h := h M13 eM13
          refine lv_aload_n (pc := 52) hx hb dX6_dropOldest_52 rfl (lv_at hl 0 rfl) ?_
          refine lv_iload_n (pc := 53) hx hb dX6_dropOldest_53 rfl (lv_at hl 2 rfl) ?_
          refine pX6_212 (pc := 54) (v := x2) C hK hP hS hk7 dX6_dropOldest_54 (fun M14 H locs eM14 hP hS => ?_)
          replace h := h M14 eM14
          exact m_vret (pc := 57) C hr hlk hP hS dX6_dropOldest_57 h
      · replace h := h.2 c18
        refine lv_aload_n (pc := 21) hx hb dX6_dropOldest_21 rfl (lv_at hl 0 rfl) ?_
        obtain ⟨hk15, h⟩ := h
        obtain ⟨j16, hj16, h⟩ := h
        refine gX6_19 (pc := 22) C hK hP hk15 hj16 dX6_dropOldest_22 ?_
        refine lv_iload_n (pc := 25) hx hb dX6_dropOldest_25 rfl (lv_at hl 3 rfl) ?_
        refine lv_aload_n (pc := 26) hx hb dX6_dropOldest_26 rfl (lv_at hl 0 rfl) ?_
        obtain ⟨j17, hj17, h⟩ := h
        refine gX6_19 (pc := 27) C hK hP hk15 hj17 dX6_dropOldest_27 ?_
        refine lv_iload_n (pc := 30) hx hb dX6_dropOldest_30 rfl (lv_at hl 3 rfl) ?_
        refine lv_iconst (v := 1) (pc := 31) hx hb dX6_dropOldest_31 (by decide) ?_
        refine lv_iadd (pc := 32) hx hb dX6_dropOldest_32 ?_
        obtain ⟨hk18, h⟩ := h
        obtain ⟨hi19, h⟩ := h
        obtain ⟨j20, hj20, h⟩ := h
        refine m_aldq (pc := 33) (κ := 15) C hK hP hk18 (by decide) rfl hi19 hj20 dX6_dropOldest_33 ?_
        obtain ⟨hk21, h⟩ := h
        obtain ⟨hk22, h⟩ := h
        obtain ⟨hi23, h⟩ := h
        refine m_astq (pc := 34) (κ := 15) (ci := 5) C hK hP hS hk21 (by decide) rfl hk22 (by decide) rfl hi23 dX6_dropOldest_34 (fun M24 H locs eM24 hP hS => ?_)
        replace h := h M24 eM24
        obtain ⟨v25, ev25⟩ : ∃ y : Int32, y = x3 + 1 := ⟨_, rfl⟩
        replace h := h v25 ev25
        refine lv_iinc (v := v25) (lv' := [(3, .int v25), (0, .ref (b + x0)), (1, va_rf ((x1).map (fun j => b + j))), (2, .int x2)]) (pc := 35) hx hb dX6_dropOldest_35 hl (k := 3) rfl (by rw [ev25]; rfl) (by decide) rfl (fun ls hl => ?_)
        refine lv_goto (tgt := 16) (pc := 38) hx hb dX6_dropOldest_38 (by decide) ?_
        exact ih _ _ _ _ _ _ _ _ h hP hS (lv_sub hl [1, 2, 3, 0] rfl)
  unfold wp_X6_dropOldest at h
  refine lv_aload_n (pc := 0) hx hb dX6_dropOldest_0 rfl (lv_at hl 0 rfl) ?_
  refine lv_iconst (v := 0) (pc := 1) hx hb dX6_dropOldest_1 (by decide) ?_
  obtain ⟨hk2, h⟩ := h
  refine m_callVO (pc := 2) (y := yX6_pastAt) (κ := 6) (As := [.int 0]) (rest := []) C hK hP hS hl.1 ⟨Nat.zero_le _, Nat.zero_le _⟩ (c_X6_pastAt h) rfl rfl hk2 (by decide) rfl q_704 q_706 q_s34 q_1 q_707 ⟨rfl, rfl⟩ yd_X6_pastAt ⟨Nat.le_of_ble_eq_true rfl, Nat.le_of_ble_eq_true rfl⟩ (Nat.le_of_ble_eq_true rfl) dX6_dropOldest_2 (fun o3 M1 H locs h hP hS => ?_)
  refine m_astO_n (lv' := [(1, va_rf ((o3).map (fun j => b + j))), (0, .ref (b + i))]) hx hb (pc := 5) dX6_dropOldest_5 rfl hl (by decide) rfl (fun ls hl => ?_)
  refine lv_aload_n (pc := 6) hx hb dX6_dropOldest_6 rfl (lv_at hl 1 rfl) ?_
  obtain ⟨j4, hj4, h⟩ := h
  refine gX6_19 (pc := 7) C hK hP hk2 hj4 dX6_dropOldest_7 ?_
  obtain ⟨hk5, h⟩ := h
  refine m_alen (pc := 10) (κ := 15) C hK hP hk5 (by decide) rfl dX6_dropOldest_10 ?_
  refine lv_iconst (v := 1) (pc := 11) hx hb dX6_dropOldest_11 (by decide) ?_
  refine lv_isub (pc := 12) hx hb dX6_dropOldest_12 ?_
  refine lv_topi (fun v6 ev6 => ?_)
  replace h := h v6 ev6
  refine lv_istore_n (lv' := [(2, .int v6), (1, va_rf ((o3).map (fun j => b + j))), (0, .ref (b + i))]) (pc := 13) hx hb dX6_dropOldest_13 rfl hl (by decide) (by simp [m_cat]) (fun ls hl => ?_)
  refine lv_iconst (v := 0) (pc := 14) hx hb dX6_dropOldest_14 (by decide) ?_
  refine lv_istore_n (lv' := [(3, .int 0), (2, .int v6), (1, va_rf ((o3).map (fun j => b + j))), (0, .ref (b + i))]) (pc := 15) hx hb dX6_dropOldest_15 rfl hl (by decide) rfl (fun ls hl => ?_)
  obtain ⟨f, h⟩ := h
  exact L16 f _ _ _ _ _ _ _ _ h hP hS (lv_sub hl [3, 2, 1, 0] rfl)
/-! ForgeHeats.mixEquipment (J)J -/
def wpB_X6_mixEquipment_144 (n : Nat) (P : Int64 → Mem → Prop) (K_ : Mem → Nat → Int64 → Int32 → Prop) (R_ : Mem → Nat → Int64 → Int32 → Int32 → Prop) (M : Mem) (x0 : Nat) (x3 : Int64) (x5 : Int32) (x6 : Int32) : Prop := ((4 ≤ x6 → ∀ v1 : Int32, v1 = x5 + 1 → (K_ M x0 x3 v1)) ∧ (¬ 4 ≤ x6 → m_tp n x0 6 ∧ (∃ j3 : Nat, M.2.1 x0 0 = some j3 ∧ (m_tp n j3 5 ∧ (wp_X5_billetAt n M j3 x5 (fun j6 M4 => m_tp n j6 0 ∧ (wp_X0_property n M4 j6 x6 (fun r9 M7 => wp_X6_mix n M7 x3 ((r9).toInt64) (fun r11 M10 => ∀ v12 : Int32, v12 = x6 + 1 → (R_ M10 x0 r11 x5 v12))))))))))
def wpL_X6_mixEquipment_144 (n : Nat) (P : Int64 → Mem → Prop) (K_ : Mem → Nat → Int64 → Int32 → Prop) : Nat → Mem → Nat → Int64 → Int32 → Int32 → Prop
  | 0 => fun _ _ _ _ _ => False
  | f + 1 => fun M x0 x3 x5 x6 => wpB_X6_mixEquipment_144 n P K_ (wpL_X6_mixEquipment_144 n P K_ f) M x0 x3 x5 x6
def wpB_X6_mixEquipment_134 (n : Nat) (P : Int64 → Mem → Prop) (R_ : Mem → Nat → Int64 → Int32 → Prop) (M : Mem) (x0 : Nat) (x3 : Int64) (x5 : Int32) : Prop := ((6 < x5 → P x3 M) ∧ (¬ 6 < x5 → ∃ f : Nat, wpL_X6_mixEquipment_144 n P R_ f M x0 x3 x5 0))
def wpL_X6_mixEquipment_134 (n : Nat) (P : Int64 → Mem → Prop) : Nat → Mem → Nat → Int64 → Int32 → Prop
  | 0 => fun _ _ _ _ => False
  | f + 1 => fun M x0 x3 x5 => wpB_X6_mixEquipment_134 n P (wpL_X6_mixEquipment_134 n P f) M x0 x3 x5
def wpB_X6_mixEquipment_92 (n : Nat) (P : Int64 → Mem → Prop) (K_ : Mem → Nat → Int64 → Int32 → Prop) (R_ : Mem → Nat → Int64 → Int32 → Int32 → Prop) (M : Mem) (x0 : Nat) (x3 : Int64) (x5 : Int32) (x6 : Int32) : Prop := ((6 ≤ x6 → ∀ v13 : Int32, v13 = x5 + 1 → (K_ M x0 x3 v13)) ∧ (¬ 6 ≤ x6 → m_tp n x0 6 ∧ (∃ j15 : Nat, M.2.1 x0 0 = some j15 ∧ (m_tp n j15 5 ∧ (wp_X5_dieAt n M j15 x5 (fun j18 M16 => m_tp n j18 1 ∧ (wp_X1_property n M16 j18 x6 (fun r21 M19 => wp_X6_mix n M19 x3 ((r21).toInt64) (fun r23 M22 => ∀ v24 : Int32, v24 = x6 + 1 → (R_ M22 x0 r23 x5 v24))))))))))
def wpL_X6_mixEquipment_92 (n : Nat) (P : Int64 → Mem → Prop) (K_ : Mem → Nat → Int64 → Int32 → Prop) : Nat → Mem → Nat → Int64 → Int32 → Int32 → Prop
  | 0 => fun _ _ _ _ _ => False
  | f + 1 => fun M x0 x3 x5 x6 => wpB_X6_mixEquipment_92 n P K_ (wpL_X6_mixEquipment_92 n P K_ f) M x0 x3 x5 x6
def wpB_X6_mixEquipment_83 (n : Nat) (P : Int64 → Mem → Prop) (R_ : Mem → Nat → Int64 → Int32 → Prop) (M : Mem) (x0 : Nat) (x3 : Int64) (x5 : Int32) : Prop := ((5 ≤ x5 → ∃ f : Nat, wpL_X6_mixEquipment_134 n P f M x0 x3 0) ∧ (¬ 5 ≤ x5 → ∃ f : Nat, wpL_X6_mixEquipment_92 n P R_ f M x0 x3 x5 0))
def wpL_X6_mixEquipment_83 (n : Nat) (P : Int64 → Mem → Prop) : Nat → Mem → Nat → Int64 → Int32 → Prop
  | 0 => fun _ _ _ _ => False
  | f + 1 => fun M x0 x3 x5 => wpB_X6_mixEquipment_83 n P (wpL_X6_mixEquipment_83 n P f) M x0 x3 x5
def wpB_X6_mixEquipment_44 (n : Nat) (P : Int64 → Mem → Prop) (K_ : Mem → Nat → Int64 → Int32 → Prop) (R_ : Mem → Nat → Int64 → Int32 → Int32 → Prop) (M : Mem) (x0 : Nat) (x3 : Int64) (x5 : Int32) (x6 : Int32) : Prop := ((7 ≤ x6 → ∀ v25 : Int32, v25 = x5 + 1 → (K_ M x0 x3 v25)) ∧ (¬ 7 ≤ x6 → m_tp n x0 6 ∧ (∃ j27 : Nat, M.2.1 x0 0 = some j27 ∧ (m_tp n j27 5 ∧ (wp_X5_heatProperty n M j27 x5 x6 (fun r30 M28 => wp_X6_mix n M28 x3 ((r30).toInt64) (fun r32 M31 => ∀ v33 : Int32, v33 = x6 + 1 → (R_ M31 x0 r32 x5 v33))))))))
def wpL_X6_mixEquipment_44 (n : Nat) (P : Int64 → Mem → Prop) (K_ : Mem → Nat → Int64 → Int32 → Prop) : Nat → Mem → Nat → Int64 → Int32 → Int32 → Prop
  | 0 => fun _ _ _ _ _ => False
  | f + 1 => fun M x0 x3 x5 x6 => wpB_X6_mixEquipment_44 n P K_ (wpL_X6_mixEquipment_44 n P K_ f) M x0 x3 x5 x6
def wpB_X6_mixEquipment_35 (n : Nat) (P : Int64 → Mem → Prop) (R_ : Mem → Nat → Int64 → Int32 → Prop) (M : Mem) (x0 : Nat) (x3 : Int64) (x5 : Int32) : Prop := ((4 ≤ x5 → ∃ f : Nat, wpL_X6_mixEquipment_83 n P f M x0 x3 0) ∧ (¬ 4 ≤ x5 → ∃ f : Nat, wpL_X6_mixEquipment_44 n P R_ f M x0 x3 x5 0))
def wpL_X6_mixEquipment_35 (n : Nat) (P : Int64 → Mem → Prop) : Nat → Mem → Nat → Int64 → Int32 → Prop
  | 0 => fun _ _ _ _ => False
  | f + 1 => fun M x0 x3 x5 => wpB_X6_mixEquipment_35 n P (wpL_X6_mixEquipment_35 n P f) M x0 x3 x5
def wpB_X6_mixEquipment_5 (n : Nat) (P : Int64 → Mem → Prop) (R_ : Mem → Nat → Int64 → Int32 → Prop) (M : Mem) (x0 : Nat) (x3 : Int64) (x5 : Int32) : Prop := ((4 ≤ x5 → ∃ f : Nat, wpL_X6_mixEquipment_35 n P f M x0 x3 0) ∧ (¬ 4 ≤ x5 → m_tp n x0 6 ∧ (∃ j35 : Nat, M.2.1 x0 0 = some j35 ∧ (m_tp n j35 5 ∧ (wp_X5_valueOf n M j35 x5 (fun r38 M36 => wp_X6_mix n M36 x3 ((r38).toInt64) (fun r40 M39 => ∀ v41 : Int32, v41 = x5 + 1 → (R_ M39 x0 r40 v41))))))))
def wpL_X6_mixEquipment_5 (n : Nat) (P : Int64 → Mem → Prop) : Nat → Mem → Nat → Int64 → Int32 → Prop
  | 0 => fun _ _ _ _ => False
  | f + 1 => fun M x0 x3 x5 => wpB_X6_mixEquipment_5 n P (wpL_X6_mixEquipment_5 n P f) M x0 x3 x5
def wp_X6_mixEquipment (n : Nat) (M : Mem) (i : Nat) (p1 : Int64) (P : Int64 → Mem → Prop) : Prop := ∃ f : Nat, wpL_X6_mixEquipment_5 n P f M i p1 0
abbrev rm_X6_mixEquipment : Room := { frames := 3, cells := 0, slots := 0, locals := 69 }
set_option maxHeartbeats 4000000 in
set_option maxRecDepth 100000 in
theorem c_X6_mixEquipment {l : Launch} {D : va_G} {cA : Nat → ClassId} {b n : Nat} {M : Mem} {i : Nat} {p1 : Int64} {P : Int64 → Mem → Prop} (h : wp_X6_mixEquipment n M i p1 P) : m_C l D cA b n n M yX6_mixEquipment cX6_mixEquipment 7 (some .long) rm_X6_mixEquipment 0 0 [.ref (b + i), .long p1] (rL P) := by
  refine m_enter (by decide) (Nat.le_of_ble_eq_true rfl) (fun p e s m below meth c C hr hlk hnm hK hP hS ls hl => ?_)
  have hx := C.1
  have hb := C.2.1
  have hl : lv_has ls 7 [(0, .ref (b + i)), (1, .long p1)] := hl
  have L144 : ∀ K_ : Mem → Nat → Int64 → Int32 → Prop, (∀ (M : Mem) (H : Heap) (locs : List Loc) (ls : Array Slot) (x0 : Nat) (x3 : Int64) (x5 : Int32), K_ M x0 x3 x5 → m_H D cA b n M H → va_S (m_A b) s.heap H locs → lv_has ls 7 [(0, .ref (b + x0)), (3, .long x3), (5, .int x5)] → W p l e rm_X6_mixEquipment s m ([.ref (b + i), .long p1] : List Value).toArray below meth c H locs 0 0 (MQ below (m_Q D cA b n (rL P)) ([.ref (b + i), .long p1] : List Value).toArray s 0 0 (m_A b)) (F0 m 134 ls [])) → ∀ f : Nat, ∀ (M : Mem) (H : Heap) (locs : List Loc) (ls : Array Slot) (x0 : Nat) (x3 : Int64) (x5 : Int32) (x6 : Int32), wpL_X6_mixEquipment_144 n P K_ f M x0 x3 x5 x6 → m_H D cA b n M H → va_S (m_A b) s.heap H locs → lv_has ls 7 [(0, .ref (b + x0)), (3, .long x3), (5, .int x5), (6, .int x6)] → W p l e rm_X6_mixEquipment s m ([.ref (b + i), .long p1] : List Value).toArray below meth c H locs 0 0 (MQ below (m_Q D cA b n (rL P)) ([.ref (b + i), .long p1] : List Value).toArray s 0 0 (m_A b)) (F0 m 144 ls []) := by
    intro K_ hKk
    clear h
    intro f
    induction f with
    | zero => intro M H locs ls x0 x3 x5 x6 h; exact h.elim
    | succ f ih =>
      intro M H locs ls x0 x3 x5 x6 h hP hS hl
      have h : wpB_X6_mixEquipment_144 n P K_ (wpL_X6_mixEquipment_144 n P K_ f) M x0 x3 x5 x6 := h
      unfold wpB_X6_mixEquipment_144 at h
      refine lv_iload (pc := 144) hx hb dX6_mixEquipment_144 (lv_at hl 3 rfl) ?_
      refine lv_iconst (v := 4) (pc := 146) hx hb dX6_mixEquipment_146 (by decide) ?_
      refine lv_icmp_ge (tgt := 176) (pc := 147) hx hb dX6_mixEquipment_147 (by decide) (fun c147 => ?_) (fun c147 => ?_)
      · replace h := h.1 c147
        obtain ⟨v1, ev1⟩ : ∃ y : Int32, y = x5 + 1 := ⟨_, rfl⟩
        replace h := h v1 ev1
        refine lv_iinc (v := v1) (lv' := [(5, .int v1), (0, .ref (b + x0)), (3, .long x3), (6, .int x6)]) (pc := 176) hx hb dX6_mixEquipment_176 hl (k := 2) rfl (by rw [ev1]; rfl) (by decide) rfl (fun ls hl => ?_)
        refine lv_goto (tgt := 134) (pc := 179) hx hb dX6_mixEquipment_179 (by decide) ?_
        exact hKk _ _ _ _ _ _ _ h hP hS (lv_sub hl [1, 2, 0] rfl)
      · replace h := h.2 c147
        refine lv_lload_n (pc := 150) hx hb dX6_mixEquipment_150 rfl (lv_at hl 1 rfl) ?_
        refine lv_aload_n (pc := 151) hx hb dX6_mixEquipment_151 rfl (lv_at hl 0 rfl) ?_
        obtain ⟨hk2, h⟩ := h
        obtain ⟨j3, hj3, h⟩ := h
        refine gX6_10 (pc := 152) C hK hP hk2 hj3 dX6_mixEquipment_152 ?_
        refine lv_iload (pc := 155) hx hb dX6_mixEquipment_155 (lv_at hl 2 rfl) ?_
        obtain ⟨hk5, h⟩ := h
        refine m_callVR (pc := 157) (y := yX5_billetAt) (κ := 5) (As := [.int x5]) (rest := [.long x3]) C hK hP hS hl.1 ⟨Nat.zero_le _, Nat.zero_le _⟩ (c_X5_billetAt h) rfl rfl hk5 (by decide) rfl q_415 q_416 q_417 q_2 q_418 ⟨rfl, rfl⟩ yd_X5_billetAt ⟨Nat.le_of_ble_eq_true rfl, Nat.le_of_ble_eq_true rfl⟩ (Nat.le_of_ble_eq_true rfl) dX6_mixEquipment_157 (fun j6 M4 H locs h hP hS => ?_)
        refine lv_iload (pc := 160) hx hb dX6_mixEquipment_160 (lv_at hl 3 rfl) ?_
        obtain ⟨hk8, h⟩ := h
        refine m_callVI (pc := 162) (y := yX0_property) (κ := 0) (As := [.int x6]) (rest := [.long x3]) C hK hP hS hl.1 ⟨Nat.zero_le _, Nat.zero_le _⟩ (c_X0_property h) rfl rfl hk8 (by decide) rfl q_419 q_420 q_421 q_6 q_422 ⟨rfl, rfl⟩ yd_X0_property ⟨Nat.le_of_ble_eq_true rfl, Nat.le_of_ble_eq_true rfl⟩ (Nat.le_of_ble_eq_true rfl) dX6_mixEquipment_162 (fun r9 M7 H locs h hP hS => ?_)
        refine lv_i2l (pc := 165) hx hb dX6_mixEquipment_165 rfl ?_
        refine m_callSL (pc := 166) (y := yX6_mix) (As := [.long x3, .long ((r9).toInt64)]) (rest := []) C hK hP hS hl.1 ⟨Nat.zero_le _, Nat.zero_le _⟩ (c_X6_mix h) rfl rfl q_382 q_383 q_1 q_384 ⟨rfl, rfl⟩ yd_X6_mix ⟨Nat.le_of_ble_eq_true rfl, Nat.le_of_ble_eq_true rfl⟩ (Nat.le_of_ble_eq_true rfl) dX6_mixEquipment_166 (fun r11 M10 H locs h hP hS => ?_)
        refine lv_lstore_n (lv' := [(3, .long r11), (0, .ref (b + x0)), (5, .int x5), (6, .int x6)]) (pc := 169) hx hb dX6_mixEquipment_169 rfl hl (by decide) rfl (fun ls hl => ?_)
        obtain ⟨v12, ev12⟩ : ∃ y : Int32, y = x6 + 1 := ⟨_, rfl⟩
        replace h := h v12 ev12
        refine lv_iinc (v := v12) (lv' := [(6, .int v12), (3, .long r11), (0, .ref (b + x0)), (5, .int x5)]) (pc := 170) hx hb dX6_mixEquipment_170 hl (k := 3) rfl (by rw [ev12]; rfl) (by decide) rfl (fun ls hl => ?_)
        refine lv_goto (tgt := 144) (pc := 173) hx hb dX6_mixEquipment_173 (by decide) ?_
        exact ih _ _ _ _ _ _ _ _ h hP hS (lv_sub hl [2, 1, 3, 0] rfl)
  have L134 : ∀ f : Nat, ∀ (M : Mem) (H : Heap) (locs : List Loc) (ls : Array Slot) (x0 : Nat) (x3 : Int64) (x5 : Int32), wpL_X6_mixEquipment_134 n P f M x0 x3 x5 → m_H D cA b n M H → va_S (m_A b) s.heap H locs → lv_has ls 7 [(0, .ref (b + x0)), (3, .long x3), (5, .int x5)] → W p l e rm_X6_mixEquipment s m ([.ref (b + i), .long p1] : List Value).toArray below meth c H locs 0 0 (MQ below (m_Q D cA b n (rL P)) ([.ref (b + i), .long p1] : List Value).toArray s 0 0 (m_A b)) (F0 m 134 ls []) := by
    clear h
    intro f
    induction f with
    | zero => intro M H locs ls x0 x3 x5 h; exact h.elim
    | succ f ih =>
      intro M H locs ls x0 x3 x5 h hP hS hl
      have h : wpB_X6_mixEquipment_134 n P (wpL_X6_mixEquipment_134 n P f) M x0 x3 x5 := h
      unfold wpB_X6_mixEquipment_134 at h
      refine lv_iload (pc := 134) hx hb dX6_mixEquipment_134 (lv_at hl 2 rfl) ?_
      refine lv_bipush (v := 6) (pc := 136) hx hb dX6_mixEquipment_136 (by decide) ?_
      refine lv_icmp_gt (tgt := 182) (pc := 138) hx hb dX6_mixEquipment_138 (by decide) (fun c138 => ?_) (fun c138 => ?_)
      · replace h := h.1 c138
        refine lv_lload_n (pc := 182) hx hb dX6_mixEquipment_182 rfl (lv_at hl 1 rfl) ?_
        exact m_lret (v := x3) (pc := 183) C hr hlk hP hS dX6_mixEquipment_183 h
      · replace h := h.2 c138
        refine lv_iconst (v := 0) (pc := 141) hx hb dX6_mixEquipment_141 (by decide) ?_
        refine lv_istore (lv' := [(6, .int 0), (0, .ref (b + x0)), (3, .long x3), (5, .int x5)]) (pc := 142) hx hb dX6_mixEquipment_142 hl (by decide) rfl (fun ls hl => ?_)
        obtain ⟨f, h⟩ := h
        exact L144 _ ih f _ _ _ _ _ _ _ _ h hP hS (lv_sub hl [1, 2, 3, 0] rfl)
  have L92 : ∀ K_ : Mem → Nat → Int64 → Int32 → Prop, (∀ (M : Mem) (H : Heap) (locs : List Loc) (ls : Array Slot) (x0 : Nat) (x3 : Int64) (x5 : Int32), K_ M x0 x3 x5 → m_H D cA b n M H → va_S (m_A b) s.heap H locs → lv_has ls 7 [(0, .ref (b + x0)), (3, .long x3), (5, .int x5)] → W p l e rm_X6_mixEquipment s m ([.ref (b + i), .long p1] : List Value).toArray below meth c H locs 0 0 (MQ below (m_Q D cA b n (rL P)) ([.ref (b + i), .long p1] : List Value).toArray s 0 0 (m_A b)) (F0 m 83 ls [])) → ∀ f : Nat, ∀ (M : Mem) (H : Heap) (locs : List Loc) (ls : Array Slot) (x0 : Nat) (x3 : Int64) (x5 : Int32) (x6 : Int32), wpL_X6_mixEquipment_92 n P K_ f M x0 x3 x5 x6 → m_H D cA b n M H → va_S (m_A b) s.heap H locs → lv_has ls 7 [(0, .ref (b + x0)), (3, .long x3), (5, .int x5), (6, .int x6)] → W p l e rm_X6_mixEquipment s m ([.ref (b + i), .long p1] : List Value).toArray below meth c H locs 0 0 (MQ below (m_Q D cA b n (rL P)) ([.ref (b + i), .long p1] : List Value).toArray s 0 0 (m_A b)) (F0 m 92 ls []) := by
    intro K_ hKk
    clear h
    intro f
    induction f with
    | zero => intro M H locs ls x0 x3 x5 x6 h; exact h.elim
    | succ f ih =>
      intro M H locs ls x0 x3 x5 x6 h hP hS hl
      have h : wpB_X6_mixEquipment_92 n P K_ (wpL_X6_mixEquipment_92 n P K_ f) M x0 x3 x5 x6 := h
      unfold wpB_X6_mixEquipment_92 at h
      refine lv_iload (pc := 92) hx hb dX6_mixEquipment_92 (lv_at hl 3 rfl) ?_
      refine lv_bipush (v := 6) (pc := 94) hx hb dX6_mixEquipment_94 (by decide) ?_
      refine lv_icmp_ge (tgt := 125) (pc := 96) hx hb dX6_mixEquipment_96 (by decide) (fun c96 => ?_) (fun c96 => ?_)
      · replace h := h.1 c96
        obtain ⟨v13, ev13⟩ : ∃ y : Int32, y = x5 + 1 := ⟨_, rfl⟩
        replace h := h v13 ev13
        refine lv_iinc (v := v13) (lv' := [(5, .int v13), (0, .ref (b + x0)), (3, .long x3), (6, .int x6)]) (pc := 125) hx hb dX6_mixEquipment_125 hl (k := 2) rfl (by rw [ev13]; rfl) (by decide) rfl (fun ls hl => ?_)
        refine lv_goto (tgt := 83) (pc := 128) hx hb dX6_mixEquipment_128 (by decide) ?_
        exact hKk _ _ _ _ _ _ _ h hP hS (lv_sub hl [1, 2, 0] rfl)
      · replace h := h.2 c96
        refine lv_lload_n (pc := 99) hx hb dX6_mixEquipment_99 rfl (lv_at hl 1 rfl) ?_
        refine lv_aload_n (pc := 100) hx hb dX6_mixEquipment_100 rfl (lv_at hl 0 rfl) ?_
        obtain ⟨hk14, h⟩ := h
        obtain ⟨j15, hj15, h⟩ := h
        refine gX6_10 (pc := 101) C hK hP hk14 hj15 dX6_mixEquipment_101 ?_
        refine lv_iload (pc := 104) hx hb dX6_mixEquipment_104 (lv_at hl 2 rfl) ?_
        obtain ⟨hk17, h⟩ := h
        refine m_callVR (pc := 106) (y := yX5_dieAt) (κ := 5) (As := [.int x5]) (rest := [.long x3]) C hK hP hS hl.1 ⟨Nat.zero_le _, Nat.zero_le _⟩ (c_X5_dieAt h) rfl rfl hk17 (by decide) rfl q_410 q_375 q_376 q_2 q_377 ⟨rfl, rfl⟩ yd_X5_dieAt ⟨Nat.le_of_ble_eq_true rfl, Nat.le_of_ble_eq_true rfl⟩ (Nat.le_of_ble_eq_true rfl) dX6_mixEquipment_106 (fun j18 M16 H locs h hP hS => ?_)
        refine lv_iload (pc := 109) hx hb dX6_mixEquipment_109 (lv_at hl 3 rfl) ?_
        obtain ⟨hk20, h⟩ := h
        refine m_callVI (pc := 111) (y := yX1_property) (κ := 1) (As := [.int x6]) (rest := [.long x3]) C hK hP hS hl.1 ⟨Nat.zero_le _, Nat.zero_le _⟩ (c_X1_property h) rfl rfl hk20 (by decide) rfl q_411 q_412 q_413 q_4 q_414 ⟨rfl, rfl⟩ yd_X1_property ⟨Nat.le_of_ble_eq_true rfl, Nat.le_of_ble_eq_true rfl⟩ (Nat.le_of_ble_eq_true rfl) dX6_mixEquipment_111 (fun r21 M19 H locs h hP hS => ?_)
        refine lv_i2l (pc := 114) hx hb dX6_mixEquipment_114 rfl ?_
        refine m_callSL (pc := 115) (y := yX6_mix) (As := [.long x3, .long ((r21).toInt64)]) (rest := []) C hK hP hS hl.1 ⟨Nat.zero_le _, Nat.zero_le _⟩ (c_X6_mix h) rfl rfl q_382 q_383 q_1 q_384 ⟨rfl, rfl⟩ yd_X6_mix ⟨Nat.le_of_ble_eq_true rfl, Nat.le_of_ble_eq_true rfl⟩ (Nat.le_of_ble_eq_true rfl) dX6_mixEquipment_115 (fun r23 M22 H locs h hP hS => ?_)
        refine lv_lstore_n (lv' := [(3, .long r23), (0, .ref (b + x0)), (5, .int x5), (6, .int x6)]) (pc := 118) hx hb dX6_mixEquipment_118 rfl hl (by decide) rfl (fun ls hl => ?_)
        obtain ⟨v24, ev24⟩ : ∃ y : Int32, y = x6 + 1 := ⟨_, rfl⟩
        replace h := h v24 ev24
        refine lv_iinc (v := v24) (lv' := [(6, .int v24), (3, .long r23), (0, .ref (b + x0)), (5, .int x5)]) (pc := 119) hx hb dX6_mixEquipment_119 hl (k := 3) rfl (by rw [ev24]; rfl) (by decide) rfl (fun ls hl => ?_)
        refine lv_goto (tgt := 92) (pc := 122) hx hb dX6_mixEquipment_122 (by decide) ?_
        exact ih _ _ _ _ _ _ _ _ h hP hS (lv_sub hl [2, 1, 3, 0] rfl)
  have L83 : ∀ f : Nat, ∀ (M : Mem) (H : Heap) (locs : List Loc) (ls : Array Slot) (x0 : Nat) (x3 : Int64) (x5 : Int32), wpL_X6_mixEquipment_83 n P f M x0 x3 x5 → m_H D cA b n M H → va_S (m_A b) s.heap H locs → lv_has ls 7 [(0, .ref (b + x0)), (3, .long x3), (5, .int x5)] → W p l e rm_X6_mixEquipment s m ([.ref (b + i), .long p1] : List Value).toArray below meth c H locs 0 0 (MQ below (m_Q D cA b n (rL P)) ([.ref (b + i), .long p1] : List Value).toArray s 0 0 (m_A b)) (F0 m 83 ls []) := by
    clear h
    intro f
    induction f with
    | zero => intro M H locs ls x0 x3 x5 h; exact h.elim
    | succ f ih =>
      intro M H locs ls x0 x3 x5 h hP hS hl
      have h : wpB_X6_mixEquipment_83 n P (wpL_X6_mixEquipment_83 n P f) M x0 x3 x5 := h
      unfold wpB_X6_mixEquipment_83 at h
      refine lv_iload (pc := 83) hx hb dX6_mixEquipment_83 (lv_at hl 2 rfl) ?_
      refine lv_iconst (v := 5) (pc := 85) hx hb dX6_mixEquipment_85 (by decide) ?_
      refine lv_icmp_ge (tgt := 131) (pc := 86) hx hb dX6_mixEquipment_86 (by decide) (fun c86 => ?_) (fun c86 => ?_)
      · replace h := h.1 c86
        refine lv_iconst (v := 0) (pc := 131) hx hb dX6_mixEquipment_131 (by decide) ?_
        refine lv_istore (lv' := [(5, .int 0), (0, .ref (b + x0)), (3, .long x3)]) (pc := 132) hx hb dX6_mixEquipment_132 hl (by decide) rfl (fun ls hl => ?_)
        obtain ⟨f, h⟩ := h
        exact L134 f _ _ _ _ _ _ _ h hP hS (lv_sub hl [1, 2, 0] rfl)
      · replace h := h.2 c86
        refine lv_iconst (v := 0) (pc := 89) hx hb dX6_mixEquipment_89 (by decide) ?_
        refine lv_istore (lv' := [(6, .int 0), (0, .ref (b + x0)), (3, .long x3), (5, .int x5)]) (pc := 90) hx hb dX6_mixEquipment_90 hl (by decide) rfl (fun ls hl => ?_)
        obtain ⟨f, h⟩ := h
        exact L92 _ ih f _ _ _ _ _ _ _ _ h hP hS (lv_sub hl [1, 2, 3, 0] rfl)
  have L44 : ∀ K_ : Mem → Nat → Int64 → Int32 → Prop, (∀ (M : Mem) (H : Heap) (locs : List Loc) (ls : Array Slot) (x0 : Nat) (x3 : Int64) (x5 : Int32), K_ M x0 x3 x5 → m_H D cA b n M H → va_S (m_A b) s.heap H locs → lv_has ls 7 [(0, .ref (b + x0)), (3, .long x3), (5, .int x5)] → W p l e rm_X6_mixEquipment s m ([.ref (b + i), .long p1] : List Value).toArray below meth c H locs 0 0 (MQ below (m_Q D cA b n (rL P)) ([.ref (b + i), .long p1] : List Value).toArray s 0 0 (m_A b)) (F0 m 35 ls [])) → ∀ f : Nat, ∀ (M : Mem) (H : Heap) (locs : List Loc) (ls : Array Slot) (x0 : Nat) (x3 : Int64) (x5 : Int32) (x6 : Int32), wpL_X6_mixEquipment_44 n P K_ f M x0 x3 x5 x6 → m_H D cA b n M H → va_S (m_A b) s.heap H locs → lv_has ls 7 [(0, .ref (b + x0)), (3, .long x3), (5, .int x5), (6, .int x6)] → W p l e rm_X6_mixEquipment s m ([.ref (b + i), .long p1] : List Value).toArray below meth c H locs 0 0 (MQ below (m_Q D cA b n (rL P)) ([.ref (b + i), .long p1] : List Value).toArray s 0 0 (m_A b)) (F0 m 44 ls []) := by
    intro K_ hKk
    clear h
    intro f
    induction f with
    | zero => intro M H locs ls x0 x3 x5 x6 h; exact h.elim
    | succ f ih =>
      intro M H locs ls x0 x3 x5 x6 h hP hS hl
      have h : wpB_X6_mixEquipment_44 n P K_ (wpL_X6_mixEquipment_44 n P K_ f) M x0 x3 x5 x6 := h
      unfold wpB_X6_mixEquipment_44 at h
      refine lv_iload (pc := 44) hx hb dX6_mixEquipment_44 (lv_at hl 3 rfl) ?_
      refine lv_bipush (v := 7) (pc := 46) hx hb dX6_mixEquipment_46 (by decide) ?_
      refine lv_icmp_ge (tgt := 74) (pc := 48) hx hb dX6_mixEquipment_48 (by decide) (fun c48 => ?_) (fun c48 => ?_)
      · replace h := h.1 c48
        obtain ⟨v25, ev25⟩ : ∃ y : Int32, y = x5 + 1 := ⟨_, rfl⟩
        replace h := h v25 ev25
        refine lv_iinc (v := v25) (lv' := [(5, .int v25), (0, .ref (b + x0)), (3, .long x3), (6, .int x6)]) (pc := 74) hx hb dX6_mixEquipment_74 hl (k := 2) rfl (by rw [ev25]; rfl) (by decide) rfl (fun ls hl => ?_)
        refine lv_goto (tgt := 35) (pc := 77) hx hb dX6_mixEquipment_77 (by decide) ?_
        exact hKk _ _ _ _ _ _ _ h hP hS (lv_sub hl [1, 2, 0] rfl)
      · replace h := h.2 c48
        refine lv_lload_n (pc := 51) hx hb dX6_mixEquipment_51 rfl (lv_at hl 1 rfl) ?_
        refine lv_aload_n (pc := 52) hx hb dX6_mixEquipment_52 rfl (lv_at hl 0 rfl) ?_
        obtain ⟨hk26, h⟩ := h
        obtain ⟨j27, hj27, h⟩ := h
        refine gX6_10 (pc := 53) C hK hP hk26 hj27 dX6_mixEquipment_53 ?_
        refine lv_iload (pc := 56) hx hb dX6_mixEquipment_56 (lv_at hl 2 rfl) ?_
        refine lv_iload (pc := 58) hx hb dX6_mixEquipment_58 (lv_at hl 3 rfl) ?_
        obtain ⟨hk29, h⟩ := h
        refine m_callVI (pc := 60) (y := yX5_heatProperty) (κ := 5) (As := [.int x5, .int x6]) (rest := [.long x3]) C hK hP hS hl.1 ⟨Nat.zero_le _, Nat.zero_le _⟩ (c_X5_heatProperty h) rfl rfl hk29 (by decide) rfl q_394 q_395 q_396 q_2 q_397 ⟨rfl, rfl⟩ yd_X5_heatProperty ⟨Nat.le_of_ble_eq_true rfl, Nat.le_of_ble_eq_true rfl⟩ (Nat.le_of_ble_eq_true rfl) dX6_mixEquipment_60 (fun r30 M28 H locs h hP hS => ?_)
        refine lv_i2l (pc := 63) hx hb dX6_mixEquipment_63 rfl ?_
        refine m_callSL (pc := 64) (y := yX6_mix) (As := [.long x3, .long ((r30).toInt64)]) (rest := []) C hK hP hS hl.1 ⟨Nat.zero_le _, Nat.zero_le _⟩ (c_X6_mix h) rfl rfl q_382 q_383 q_1 q_384 ⟨rfl, rfl⟩ yd_X6_mix ⟨Nat.le_of_ble_eq_true rfl, Nat.le_of_ble_eq_true rfl⟩ (Nat.le_of_ble_eq_true rfl) dX6_mixEquipment_64 (fun r32 M31 H locs h hP hS => ?_)
        refine lv_lstore_n (lv' := [(3, .long r32), (0, .ref (b + x0)), (5, .int x5), (6, .int x6)]) (pc := 67) hx hb dX6_mixEquipment_67 rfl hl (by decide) rfl (fun ls hl => ?_)
        obtain ⟨v33, ev33⟩ : ∃ y : Int32, y = x6 + 1 := ⟨_, rfl⟩
        replace h := h v33 ev33
        refine lv_iinc (v := v33) (lv' := [(6, .int v33), (3, .long r32), (0, .ref (b + x0)), (5, .int x5)]) (pc := 68) hx hb dX6_mixEquipment_68 hl (k := 3) rfl (by rw [ev33]; rfl) (by decide) rfl (fun ls hl => ?_)
        refine lv_goto (tgt := 44) (pc := 71) hx hb dX6_mixEquipment_71 (by decide) ?_
        exact ih _ _ _ _ _ _ _ _ h hP hS (lv_sub hl [2, 1, 3, 0] rfl)
  have L35 : ∀ f : Nat, ∀ (M : Mem) (H : Heap) (locs : List Loc) (ls : Array Slot) (x0 : Nat) (x3 : Int64) (x5 : Int32), wpL_X6_mixEquipment_35 n P f M x0 x3 x5 → m_H D cA b n M H → va_S (m_A b) s.heap H locs → lv_has ls 7 [(0, .ref (b + x0)), (3, .long x3), (5, .int x5)] → W p l e rm_X6_mixEquipment s m ([.ref (b + i), .long p1] : List Value).toArray below meth c H locs 0 0 (MQ below (m_Q D cA b n (rL P)) ([.ref (b + i), .long p1] : List Value).toArray s 0 0 (m_A b)) (F0 m 35 ls []) := by
    clear h
    intro f
    induction f with
    | zero => intro M H locs ls x0 x3 x5 h; exact h.elim
    | succ f ih =>
      intro M H locs ls x0 x3 x5 h hP hS hl
      have h : wpB_X6_mixEquipment_35 n P (wpL_X6_mixEquipment_35 n P f) M x0 x3 x5 := h
      unfold wpB_X6_mixEquipment_35 at h
      refine lv_iload (pc := 35) hx hb dX6_mixEquipment_35 (lv_at hl 2 rfl) ?_
      refine lv_iconst (v := 4) (pc := 37) hx hb dX6_mixEquipment_37 (by decide) ?_
      refine lv_icmp_ge (tgt := 80) (pc := 38) hx hb dX6_mixEquipment_38 (by decide) (fun c38 => ?_) (fun c38 => ?_)
      · replace h := h.1 c38
        refine lv_iconst (v := 0) (pc := 80) hx hb dX6_mixEquipment_80 (by decide) ?_
        refine lv_istore (lv' := [(5, .int 0), (0, .ref (b + x0)), (3, .long x3)]) (pc := 81) hx hb dX6_mixEquipment_81 hl (by decide) rfl (fun ls hl => ?_)
        obtain ⟨f, h⟩ := h
        exact L83 f _ _ _ _ _ _ _ h hP hS (lv_sub hl [1, 2, 0] rfl)
      · replace h := h.2 c38
        refine lv_iconst (v := 0) (pc := 41) hx hb dX6_mixEquipment_41 (by decide) ?_
        refine lv_istore (lv' := [(6, .int 0), (0, .ref (b + x0)), (3, .long x3), (5, .int x5)]) (pc := 42) hx hb dX6_mixEquipment_42 hl (by decide) rfl (fun ls hl => ?_)
        obtain ⟨f, h⟩ := h
        exact L44 _ ih f _ _ _ _ _ _ _ _ h hP hS (lv_sub hl [1, 2, 3, 0] rfl)
  have L5 : ∀ f : Nat, ∀ (M : Mem) (H : Heap) (locs : List Loc) (ls : Array Slot) (x0 : Nat) (x3 : Int64) (x5 : Int32), wpL_X6_mixEquipment_5 n P f M x0 x3 x5 → m_H D cA b n M H → va_S (m_A b) s.heap H locs → lv_has ls 7 [(0, .ref (b + x0)), (3, .long x3), (5, .int x5)] → W p l e rm_X6_mixEquipment s m ([.ref (b + i), .long p1] : List Value).toArray below meth c H locs 0 0 (MQ below (m_Q D cA b n (rL P)) ([.ref (b + i), .long p1] : List Value).toArray s 0 0 (m_A b)) (F0 m 5 ls []) := by
    clear h
    intro f
    induction f with
    | zero => intro M H locs ls x0 x3 x5 h; exact h.elim
    | succ f ih =>
      intro M H locs ls x0 x3 x5 h hP hS hl
      have h : wpB_X6_mixEquipment_5 n P (wpL_X6_mixEquipment_5 n P f) M x0 x3 x5 := h
      unfold wpB_X6_mixEquipment_5 at h
      refine lv_iload (pc := 5) hx hb dX6_mixEquipment_5 (lv_at hl 2 rfl) ?_
      refine lv_iconst (v := 4) (pc := 7) hx hb dX6_mixEquipment_7 (by decide) ?_
      refine lv_icmp_ge (tgt := 32) (pc := 8) hx hb dX6_mixEquipment_8 (by decide) (fun c8 => ?_) (fun c8 => ?_)
      · replace h := h.1 c8
        refine lv_iconst (v := 0) (pc := 32) hx hb dX6_mixEquipment_32 (by decide) ?_
        refine lv_istore (lv' := [(5, .int 0), (0, .ref (b + x0)), (3, .long x3)]) (pc := 33) hx hb dX6_mixEquipment_33 hl (by decide) rfl (fun ls hl => ?_)
        obtain ⟨f, h⟩ := h
        exact L35 f _ _ _ _ _ _ _ h hP hS (lv_sub hl [1, 2, 0] rfl)
      · replace h := h.2 c8
        refine lv_lload_n (pc := 11) hx hb dX6_mixEquipment_11 rfl (lv_at hl 1 rfl) ?_
        refine lv_aload_n (pc := 12) hx hb dX6_mixEquipment_12 rfl (lv_at hl 0 rfl) ?_
        obtain ⟨hk34, h⟩ := h
        obtain ⟨j35, hj35, h⟩ := h
        refine gX6_10 (pc := 13) C hK hP hk34 hj35 dX6_mixEquipment_13 ?_
        refine lv_iload (pc := 16) hx hb dX6_mixEquipment_16 (lv_at hl 2 rfl) ?_
        obtain ⟨hk37, h⟩ := h
        refine m_callVI (pc := 18) (y := yX5_valueOf) (κ := 5) (As := [.int x5]) (rest := [.long x3]) C hK hP hS hl.1 ⟨Nat.zero_le _, Nat.zero_le _⟩ (c_X5_valueOf h) rfl rfl hk37 (by decide) rfl q_390 q_391 q_392 q_2 q_393 ⟨rfl, rfl⟩ yd_X5_valueOf ⟨Nat.le_of_ble_eq_true rfl, Nat.le_of_ble_eq_true rfl⟩ (Nat.le_of_ble_eq_true rfl) dX6_mixEquipment_18 (fun r38 M36 H locs h hP hS => ?_)
        refine lv_i2l (pc := 21) hx hb dX6_mixEquipment_21 rfl ?_
        refine m_callSL (pc := 22) (y := yX6_mix) (As := [.long x3, .long ((r38).toInt64)]) (rest := []) C hK hP hS hl.1 ⟨Nat.zero_le _, Nat.zero_le _⟩ (c_X6_mix h) rfl rfl q_382 q_383 q_1 q_384 ⟨rfl, rfl⟩ yd_X6_mix ⟨Nat.le_of_ble_eq_true rfl, Nat.le_of_ble_eq_true rfl⟩ (Nat.le_of_ble_eq_true rfl) dX6_mixEquipment_22 (fun r40 M39 H locs h hP hS => ?_)
        refine lv_lstore_n (lv' := [(3, .long r40), (0, .ref (b + x0)), (5, .int x5)]) (pc := 25) hx hb dX6_mixEquipment_25 rfl hl (by decide) rfl (fun ls hl => ?_)
        obtain ⟨v41, ev41⟩ : ∃ y : Int32, y = x5 + 1 := ⟨_, rfl⟩
        replace h := h v41 ev41
        refine lv_iinc (v := v41) (lv' := [(5, .int v41), (3, .long r40), (0, .ref (b + x0))]) (pc := 26) hx hb dX6_mixEquipment_26 hl (k := 2) rfl (by rw [ev41]; rfl) (by decide) rfl (fun ls hl => ?_)
        refine lv_goto (tgt := 5) (pc := 29) hx hb dX6_mixEquipment_29 (by decide) ?_
        exact ih _ _ _ _ _ _ _ h hP hS (lv_sub hl [2, 1, 0] rfl)
  unfold wp_X6_mixEquipment at h
  refine lv_lload_n (pc := 0) hx hb dX6_mixEquipment_0 rfl (lv_at hl 1 rfl) ?_
  refine lv_lstore_n (lv' := [(3, .long p1), (0, .ref (b + i)), (1, .long p1)]) (pc := 1) hx hb dX6_mixEquipment_1 rfl hl (by decide) rfl (fun ls hl => ?_)
  refine lv_iconst (v := 0) (pc := 2) hx hb dX6_mixEquipment_2 (by decide) ?_
  refine lv_istore (lv' := [(5, .int 0), (3, .long p1), (0, .ref (b + i)), (1, .long p1)]) (pc := 3) hx hb dX6_mixEquipment_3 hl (by decide) rfl (fun ls hl => ?_)
  obtain ⟨f, h⟩ := h
  exact L5 f _ _ _ _ _ _ _ h hP hS (lv_sub hl [2, 1, 0] rfl)
/-! ForgeHeats.remember ()V -/
def wp_X6_remember (n : Nat) (M : Mem) (i : Nat) (P : Mem → Prop) : Prop := m_tp n i 6 ∧ (∃ j2 : Nat, M.2.1 i 2 = some j2 ∧ (m_tp n j2 15 ∧ ((((M.1 i 3) < (nI (m_len j2)) → wp_X6_pastAt n M i (M.1 i 3) (fun o5 M4 => ((o5 = none → P M4) ∧ (∀ j6 : Nat, o5 = some j6 → ∃ j7 : Nat, M4.2.1 i 0 = some j7 ∧ (m_tp n j6 5 ∧ (wp_X5_copyFrom n M4 j6 j7 (fun M8 => ∀ M11 : Mem, M11 = uI M8 i 3 ((M8.1 i 3) + 1) → (P M11)))))))) ∧ (¬ (M.1 i 3) < (nI (m_len j2)) → wp_X6_dropOldest n M i (fun M12 => wp_X6_pastAt n M12 i (M12.1 i 3) (fun o15 M14 => ((o15 = none → P M14) ∧ (∀ j16 : Nat, o15 = some j16 → ∃ j17 : Nat, M14.2.1 i 0 = some j17 ∧ (m_tp n j16 5 ∧ (wp_X5_copyFrom n M14 j16 j17 (fun M18 => ∀ M21 : Mem, M21 = uI M18 i 3 ((M18.1 i 3) + 1) → (P M21)))))))))))))
abbrev rm_X6_remember : Room := { frames := 2, cells := 0, slots := 0, locals := 44 }
set_option maxHeartbeats 4000000 in
set_option maxRecDepth 100000 in
theorem c_X6_remember {l : Launch} {D : va_G} {cA : Nat → ClassId} {b n : Nat} {M : Mem} {i : Nat} {P : Mem → Prop} (h : wp_X6_remember n M i P) : m_C l D cA b n n M yX6_remember cX6_remember 2 none rm_X6_remember 0 0 [.ref (b + i)] (rV P) := by
  refine m_enter (by decide) (Nat.le_of_ble_eq_true rfl) (fun p e s m below meth c C hr hlk hnm hK hP hS ls hl => ?_)
  have hx := C.1
  have hb := C.2.1
  have hl : lv_has ls 2 [(0, .ref (b + i))] := hl
  unfold wp_X6_remember at h
  refine lv_aload_n (pc := 0) hx hb dX6_remember_0 rfl (lv_at hl 0 rfl) ?_
  obtain ⟨hk1, h⟩ := h
  refine gX6_212 (pc := 1) C hK hP hk1 dX6_remember_1 ?_
  refine lv_aload_n (pc := 4) hx hb dX6_remember_4 rfl (lv_at hl 0 rfl) ?_
  obtain ⟨j2, hj2, h⟩ := h
  refine gX6_19 (pc := 5) C hK hP hk1 hj2 dX6_remember_5 ?_
  obtain ⟨hk3, h⟩ := h
  refine m_alen (pc := 8) (κ := 15) C hK hP hk3 (by decide) rfl dX6_remember_8 ?_
  refine lv_icmp_lt (tgt := 16) (pc := 9) hx hb dX6_remember_9 (by decide) (fun c9 => ?_) (fun c9 => ?_)
  · replace h := h.1 c9
    refine lv_aload_n (pc := 16) hx hb dX6_remember_16 rfl (lv_at hl 0 rfl) ?_
    refine lv_aload_n (pc := 17) hx hb dX6_remember_17 rfl (lv_at hl 0 rfl) ?_
    refine gX6_212 (pc := 18) C hK hP hk1 dX6_remember_18 ?_
    refine m_callVO (pc := 21) (y := yX6_pastAt) (κ := 6) (As := [.int (M.1 i 3)]) (rest := []) C hK hP hS hl.1 ⟨Nat.zero_le _, Nat.zero_le _⟩ (c_X6_pastAt h) rfl rfl hk1 (by decide) rfl q_704 q_706 q_s34 q_1 q_707 ⟨rfl, rfl⟩ yd_X6_pastAt ⟨Nat.le_of_ble_eq_true rfl, Nat.le_of_ble_eq_true rfl⟩ (Nat.le_of_ble_eq_true rfl) dX6_remember_21 (fun o5 M4 H locs h hP hS => ?_)
    refine m_astO_n (lv' := [(1, va_rf ((o5).map (fun j => b + j))), (0, .ref (b + i))]) hx hb (pc := 24) dX6_remember_24 rfl hl (by decide) rfl (fun ls hl => ?_)
    refine m_aldO_n hx hb (pc := 25) dX6_remember_25 rfl (lv_at hl 0 rfl) ?_
    rcases eo : o5 with _ | j6
    · replace h := h.1 eo
      refine lv_ifnullN (tgt := 47) (pc := 26) hx hb dX6_remember_26 (by decide) ?_
      try rw [eo] at hl
      exact m_vret (pc := 47) C hr hlk hP hS dX6_remember_47 h
    · replace h := h.2 j6 eo
      refine lv_ifnull (pc := 26) hx hb dX6_remember_26 ?_
      try rw [eo] at hl
      refine lv_aload_n (pc := 29) hx hb dX6_remember_29 rfl (lv_at hl 0 rfl) ?_
      refine lv_aload_n (pc := 30) hx hb dX6_remember_30 rfl (lv_at hl 1 rfl) ?_
      obtain ⟨j7, hj7, h⟩ := h
      refine gX6_10 (pc := 31) C hK hP hk1 hj7 dX6_remember_31 ?_
      obtain ⟨hk9, h⟩ := h
      refine m_callVV (pc := 34) (y := yX5_copyFrom) (κ := 5) (As := [.ref (b + j7)]) (rest := []) C hK hP hS hl.1 ⟨Nat.zero_le _, Nat.zero_le _⟩ (c_X5_copyFrom h) rfl rfl hk9 (by decide) rfl q_448 q_449 q_450 q_2 q_451 ⟨rfl, rfl⟩ yd_X5_copyFrom ⟨Nat.le_of_ble_eq_true rfl, Nat.le_of_ble_eq_true rfl⟩ (Nat.le_of_ble_eq_true rfl) dX6_remember_34 (fun M8 H locs h hP hS => ?_)
      refine lv_aload_n (pc := 37) hx hb dX6_remember_37 rfl (lv_at hl 1 rfl) ?_
      refine lv_dup (pc := 38) hx hb dX6_remember_38 rfl ?_
      refine gX6_212 (pc := 39) C hK hP hk1 dX6_remember_39 ?_
      refine lv_iconst (v := 1) (pc := 42) hx hb dX6_remember_42 (by decide) ?_
      refine lv_iadd (pc := 43) hx hb dX6_remember_43 ?_
      refine pX6_212 (pc := 44) (v := (M8.1 i 3) + 1) C hK hP hS hk1 dX6_remember_44 (fun M11 H locs eM11 hP hS => ?_)
      replace h := h M11 eM11
      exact m_vret (pc := 47) C hr hlk hP hS dX6_remember_47 h
  · replace h := h.2 c9
    refine lv_aload_n (pc := 12) hx hb dX6_remember_12 rfl (lv_at hl 0 rfl) ?_
    refine m_callVV (pc := 13) (y := yX6_dropOldest) (κ := 6) (As := []) (rest := []) C hK hP hS hl.1 ⟨Nat.zero_le _, Nat.zero_le _⟩ (c_X6_dropOldest h) rfl rfl hk1 (by decide) rfl q_700 q_702 q_s33 q_1 q_703 ⟨rfl, rfl⟩ yd_X6_dropOldest ⟨Nat.le_of_ble_eq_true rfl, Nat.le_of_ble_eq_true rfl⟩ (Nat.le_of_ble_eq_true rfl) dX6_remember_13 (fun M12 H locs h hP hS => ?_)
    refine lv_aload_n (pc := 16) hx hb dX6_remember_16 rfl (lv_at hl 0 rfl) ?_
    refine lv_aload_n (pc := 17) hx hb dX6_remember_17 rfl (lv_at hl 0 rfl) ?_
    refine gX6_212 (pc := 18) C hK hP hk1 dX6_remember_18 ?_
    refine m_callVO (pc := 21) (y := yX6_pastAt) (κ := 6) (As := [.int (M12.1 i 3)]) (rest := []) C hK hP hS hl.1 ⟨Nat.zero_le _, Nat.zero_le _⟩ (c_X6_pastAt h) rfl rfl hk1 (by decide) rfl q_704 q_706 q_s34 q_1 q_707 ⟨rfl, rfl⟩ yd_X6_pastAt ⟨Nat.le_of_ble_eq_true rfl, Nat.le_of_ble_eq_true rfl⟩ (Nat.le_of_ble_eq_true rfl) dX6_remember_21 (fun o15 M14 H locs h hP hS => ?_)
    refine m_astO_n (lv' := [(1, va_rf ((o15).map (fun j => b + j))), (0, .ref (b + i))]) hx hb (pc := 24) dX6_remember_24 rfl hl (by decide) rfl (fun ls hl => ?_)
    refine m_aldO_n hx hb (pc := 25) dX6_remember_25 rfl (lv_at hl 0 rfl) ?_
    rcases eo : o15 with _ | j16
    · replace h := h.1 eo
      refine lv_ifnullN (tgt := 47) (pc := 26) hx hb dX6_remember_26 (by decide) ?_
      try rw [eo] at hl
      exact m_vret (pc := 47) C hr hlk hP hS dX6_remember_47 h
    · replace h := h.2 j16 eo
      refine lv_ifnull (pc := 26) hx hb dX6_remember_26 ?_
      try rw [eo] at hl
      refine lv_aload_n (pc := 29) hx hb dX6_remember_29 rfl (lv_at hl 0 rfl) ?_
      refine lv_aload_n (pc := 30) hx hb dX6_remember_30 rfl (lv_at hl 1 rfl) ?_
      obtain ⟨j17, hj17, h⟩ := h
      refine gX6_10 (pc := 31) C hK hP hk1 hj17 dX6_remember_31 ?_
      obtain ⟨hk19, h⟩ := h
      refine m_callVV (pc := 34) (y := yX5_copyFrom) (κ := 5) (As := [.ref (b + j17)]) (rest := []) C hK hP hS hl.1 ⟨Nat.zero_le _, Nat.zero_le _⟩ (c_X5_copyFrom h) rfl rfl hk19 (by decide) rfl q_448 q_449 q_450 q_2 q_451 ⟨rfl, rfl⟩ yd_X5_copyFrom ⟨Nat.le_of_ble_eq_true rfl, Nat.le_of_ble_eq_true rfl⟩ (Nat.le_of_ble_eq_true rfl) dX6_remember_34 (fun M18 H locs h hP hS => ?_)
      refine lv_aload_n (pc := 37) hx hb dX6_remember_37 rfl (lv_at hl 1 rfl) ?_
      refine lv_dup (pc := 38) hx hb dX6_remember_38 rfl ?_
      refine gX6_212 (pc := 39) C hK hP hk1 dX6_remember_39 ?_
      refine lv_iconst (v := 1) (pc := 42) hx hb dX6_remember_42 (by decide) ?_
      refine lv_iadd (pc := 43) hx hb dX6_remember_43 ?_
      refine pX6_212 (pc := 44) (v := (M18.1 i 3) + 1) C hK hP hS hk1 dX6_remember_44 (fun M21 H locs eM21 hP hS => ?_)
      replace h := h M21 eM21
      exact m_vret (pc := 47) C hr hlk hP hS dX6_remember_47 h
/-! ForgeHeats.passUntilGone (I)I -/
def wpB_X6_passUntilGone_2 (n : Nat) (P : Int32 → Mem → Prop) (R_ : Mem → Nat → Int32 → Int32 → Prop) (M : Mem) (x0 : Nat) (x1 : Int32) (x2 : Int32) : Prop := ((240 < x2 → P (-1) M) ∧ (¬ 240 < x2 → m_tp n x0 6 ∧ (∃ j2 : Nat, M.2.1 x0 1 = some j2 ∧ (m_tp n j2 5 ∧ (wp_X5_passMinute n M j2 (fun M3 => ∃ j6 : Nat, M3.2.1 x0 1 = some j6 ∧ (m_tp n j6 5 ∧ (wp_X5_placeOf n M3 j6 x1 (fun r9 M7 => ((¬ r9 = (-1) → ∀ v10 : Int32, v10 = x2 + 1 → (R_ M7 x0 x1 v10)) ∧ (r9 = (-1) → P x2 M7)))))))))))
def wpL_X6_passUntilGone_2 (n : Nat) (P : Int32 → Mem → Prop) : Nat → Mem → Nat → Int32 → Int32 → Prop
  | 0 => fun _ _ _ _ => False
  | f + 1 => fun M x0 x1 x2 => wpB_X6_passUntilGone_2 n P (wpL_X6_passUntilGone_2 n P f) M x0 x1 x2
def wp_X6_passUntilGone (n : Nat) (M : Mem) (i : Nat) (p1 : Int32) (P : Int32 → Mem → Prop) : Prop := ∃ f : Nat, wpL_X6_passUntilGone_2 n P f M i p1 1
abbrev rm_X6_passUntilGone : Room := { frames := 4, cells := 0, slots := 0, locals := 92 }
set_option maxHeartbeats 4000000 in
set_option maxRecDepth 100000 in
theorem c_X6_passUntilGone {l : Launch} {D : va_G} {cA : Nat → ClassId} {b n : Nat} {M : Mem} {i : Nat} {p1 : Int32} {P : Int32 → Mem → Prop} (h : wp_X6_passUntilGone n M i p1 P) : m_C l D cA b n n M yX6_passUntilGone cX6_passUntilGone 3 (some .int) rm_X6_passUntilGone 0 0 [.ref (b + i), .int p1] (rI P) := by
  refine m_enter (by decide) (Nat.le_of_ble_eq_true rfl) (fun p e s m below meth c C hr hlk hnm hK hP hS ls hl => ?_)
  have hx := C.1
  have hb := C.2.1
  have hl : lv_has ls 3 [(0, .ref (b + i)), (1, .int p1)] := hl
  have L2 : ∀ f : Nat, ∀ (M : Mem) (H : Heap) (locs : List Loc) (ls : Array Slot) (x0 : Nat) (x1 : Int32) (x2 : Int32), wpL_X6_passUntilGone_2 n P f M x0 x1 x2 → m_H D cA b n M H → va_S (m_A b) s.heap H locs → lv_has ls 3 [(0, .ref (b + x0)), (1, .int x1), (2, .int x2)] → W p l e rm_X6_passUntilGone s m ([.ref (b + i), .int p1] : List Value).toArray below meth c H locs 0 0 (MQ below (m_Q D cA b n (rI P)) ([.ref (b + i), .int p1] : List Value).toArray s 0 0 (m_A b)) (F0 m 2 ls []) := by
    clear h
    intro f
    induction f with
    | zero => intro M H locs ls x0 x1 x2 h; exact h.elim
    | succ f ih =>
      intro M H locs ls x0 x1 x2 h hP hS hl
      have h : wpB_X6_passUntilGone_2 n P (wpL_X6_passUntilGone_2 n P f) M x0 x1 x2 := h
      unfold wpB_X6_passUntilGone_2 at h
      refine lv_iload_n (pc := 2) hx hb dX6_passUntilGone_2 rfl (lv_at hl 2 rfl) ?_
      refine lv_sipush (v := 240) (pc := 3) hx hb dX6_passUntilGone_3 (by decide) ?_
      refine lv_icmp_gt (tgt := 36) (pc := 6) hx hb dX6_passUntilGone_6 (by decide) (fun c6 => ?_) (fun c6 => ?_)
      · replace h := h.1 c6
        refine lv_iconst (v := -1) (pc := 36) hx hb dX6_passUntilGone_36 (by decide) ?_
        exact m_iret (v := (-1)) (pc := 37) C hr hlk hP hS dX6_passUntilGone_37 h
      · replace h := h.2 c6
        refine lv_aload_n (pc := 9) hx hb dX6_passUntilGone_9 rfl (lv_at hl 0 rfl) ?_
        obtain ⟨hk1, h⟩ := h
        obtain ⟨j2, hj2, h⟩ := h
        refine gX6_16 (pc := 10) C hK hP hk1 hj2 dX6_passUntilGone_10 ?_
        obtain ⟨hk4, h⟩ := h
        refine m_callVV (pc := 13) (y := yX5_passMinute) (κ := 5) (As := []) (rest := []) C hK hP hS hl.1 ⟨Nat.zero_le _, Nat.zero_le _⟩ (c_X5_passMinute h) rfl rfl hk4 (by decide) rfl q_477 q_478 q_479 q_2 q_480 ⟨rfl, rfl⟩ yd_X5_passMinute ⟨Nat.le_of_ble_eq_true rfl, Nat.le_of_ble_eq_true rfl⟩ (Nat.le_of_ble_eq_true rfl) dX6_passUntilGone_13 (fun M3 H locs h hP hS => ?_)
        refine lv_aload_n (pc := 16) hx hb dX6_passUntilGone_16 rfl (lv_at hl 0 rfl) ?_
        obtain ⟨j6, hj6, h⟩ := h
        refine gX6_16 (pc := 17) C hK hP hk1 hj6 dX6_passUntilGone_17 ?_
        refine lv_iload_n (pc := 20) hx hb dX6_passUntilGone_20 rfl (lv_at hl 1 rfl) ?_
        obtain ⟨hk8, h⟩ := h
        refine m_callVI (pc := 21) (y := yX5_placeOf) (κ := 5) (As := [.int x1]) (rest := []) C hK hP hS hl.1 ⟨Nat.zero_le _, Nat.zero_le _⟩ (c_X5_placeOf h) rfl rfl hk8 (by decide) rfl q_541 q_505 q_506 q_2 q_507 ⟨rfl, rfl⟩ yd_X5_placeOf ⟨Nat.le_of_ble_eq_true rfl, Nat.le_of_ble_eq_true rfl⟩ (Nat.le_of_ble_eq_true rfl) dX6_passUntilGone_21 (fun r9 M7 H locs h hP hS => ?_)
        refine lv_iconst (v := -1) (pc := 24) hx hb dX6_passUntilGone_24 (by decide) ?_
        refine lv_icmp_ne (tgt := 30) (pc := 25) hx hb dX6_passUntilGone_25 (by decide) (fun c25 => ?_) (fun c25 => ?_)
        · replace h := h.1 c25
          obtain ⟨v10, ev10⟩ : ∃ y : Int32, y = x2 + 1 := ⟨_, rfl⟩
          replace h := h v10 ev10
          refine lv_iinc (v := v10) (lv' := [(2, .int v10), (0, .ref (b + x0)), (1, .int x1)]) (pc := 30) hx hb dX6_passUntilGone_30 hl (k := 2) rfl (by rw [ev10]; rfl) (by decide) rfl (fun ls hl => ?_)
          refine lv_goto (tgt := 2) (pc := 33) hx hb dX6_passUntilGone_33 (by decide) ?_
          exact ih _ _ _ _ _ _ _ h hP hS (lv_sub hl [1, 2, 0] rfl)
        · replace h := h.2 c25
          refine lv_iload_n (pc := 28) hx hb dX6_passUntilGone_28 rfl (lv_at hl 2 rfl) ?_
          exact m_iret (v := x2) (pc := 29) C hr hlk hP hS dX6_passUntilGone_29 h
  unfold wp_X6_passUntilGone at h
  refine lv_iconst (v := 1) (pc := 0) hx hb dX6_passUntilGone_0 (by decide) ?_
  refine lv_istore_n (lv' := [(2, .int 1), (0, .ref (b + i)), (1, .int p1)]) (pc := 1) hx hb dX6_passUntilGone_1 rfl hl (by decide) rfl (fun ls hl => ?_)
  obtain ⟨f, h⟩ := h
  exact L2 f _ _ _ _ _ _ _ h hP hS (lv_sub hl [1, 2, 0] rfl)
/-! ForgeHeats.firstError ()I -/
def wp_X6_firstError (n : Nat) (M : Mem) (i : Nat) (P : Int32 → Mem → Prop) : Prop := m_tp n i 6 ∧ (∃ j2 : Nat, M.2.1 i 4 = some j2 ∧ (m_tp n j2 4 ∧ (wp_X4_firstWrong n M j2 (fun r5 M3 => P r5 M3))))
abbrev rm_X6_firstError : Room := { frames := 4, cells := 0, slots := 0, locals := 85 }
set_option maxHeartbeats 4000000 in
set_option maxRecDepth 100000 in
theorem c_X6_firstError {l : Launch} {D : va_G} {cA : Nat → ClassId} {b n : Nat} {M : Mem} {i : Nat} {P : Int32 → Mem → Prop} (h : wp_X6_firstError n M i P) : m_C l D cA b n n M yX6_firstError cX6_firstError 1 (some .int) rm_X6_firstError 0 0 [.ref (b + i)] (rI P) := by
  refine m_enter (by decide) (Nat.le_of_ble_eq_true rfl) (fun p e s m below meth c C hr hlk hnm hK hP hS ls hl => ?_)
  have hx := C.1
  have hb := C.2.1
  have hl : lv_has ls 1 [(0, .ref (b + i))] := hl
  unfold wp_X6_firstError at h
  refine lv_aload_n (pc := 0) hx hb dX6_firstError_0 rfl (lv_at hl 0 rfl) ?_
  obtain ⟨hk1, h⟩ := h
  obtain ⟨j2, hj2, h⟩ := h
  refine gX6_26 (pc := 1) C hK hP hk1 hj2 dX6_firstError_1 ?_
  obtain ⟨hk4, h⟩ := h
  refine m_callVI (pc := 4) (y := yX4_firstWrong) (κ := 4) (As := []) (rest := []) C hK hP hS hl.1 ⟨Nat.zero_le _, Nat.zero_le _⟩ (c_X4_firstWrong h) rfl rfl hk4 (by decide) rfl q_297 q_298 q_299 q_7 q_300 ⟨rfl, rfl⟩ yd_X4_firstWrong ⟨Nat.le_of_ble_eq_true rfl, Nat.le_of_ble_eq_true rfl⟩ (Nat.le_of_ble_eq_true rfl) dX6_firstError_4 (fun r5 M3 H locs h hP hS => ?_)
  exact m_iret (v := r5) (pc := 7) C hr hlk hP hS dX6_firstError_7 h
/-! ForgeHeats.foresee (I)V -/
def wp_X6_foresee (n : Nat) (M : Mem) (i : Nat) (p1 : Int32) (P : Mem → Prop) : Prop := m_tp n i 6 ∧ (∃ j2 : Nat, M.2.1 i 1 = some j2 ∧ (∃ j3 : Nat, M.2.1 i 0 = some j3 ∧ (m_tp n j2 5 ∧ (wp_X5_copyFrom n M j2 j3 (fun M4 => ∃ j7 : Nat, M4.2.1 i 1 = some j7 ∧ (m_tp n j7 5 ∧ (wp_X5_passMinutes n M4 j7 p1 (fun M8 => P M8))))))))
abbrev rm_X6_foresee : Room := { frames := 5, cells := 0, slots := 0, locals := 114 }
set_option maxHeartbeats 4000000 in
set_option maxRecDepth 100000 in
theorem c_X6_foresee {l : Launch} {D : va_G} {cA : Nat → ClassId} {b n : Nat} {M : Mem} {i : Nat} {p1 : Int32} {P : Mem → Prop} (h : wp_X6_foresee n M i p1 P) : m_C l D cA b n n M yX6_foresee cX6_foresee 2 none rm_X6_foresee 0 0 [.ref (b + i), .int p1] (rV P) := by
  refine m_enter (by decide) (Nat.le_of_ble_eq_true rfl) (fun p e s m below meth c C hr hlk hnm hK hP hS ls hl => ?_)
  have hx := C.1
  have hb := C.2.1
  have hl : lv_has ls 2 [(0, .ref (b + i)), (1, .int p1)] := hl
  unfold wp_X6_foresee at h
  refine lv_aload_n (pc := 0) hx hb dX6_foresee_0 rfl (lv_at hl 0 rfl) ?_
  obtain ⟨hk1, h⟩ := h
  obtain ⟨j2, hj2, h⟩ := h
  refine gX6_16 (pc := 1) C hK hP hk1 hj2 dX6_foresee_1 ?_
  refine lv_aload_n (pc := 4) hx hb dX6_foresee_4 rfl (lv_at hl 0 rfl) ?_
  obtain ⟨j3, hj3, h⟩ := h
  refine gX6_10 (pc := 5) C hK hP hk1 hj3 dX6_foresee_5 ?_
  obtain ⟨hk5, h⟩ := h
  refine m_callVV (pc := 8) (y := yX5_copyFrom) (κ := 5) (As := [.ref (b + j3)]) (rest := []) C hK hP hS hl.1 ⟨Nat.zero_le _, Nat.zero_le _⟩ (c_X5_copyFrom h) rfl rfl hk5 (by decide) rfl q_448 q_449 q_450 q_2 q_451 ⟨rfl, rfl⟩ yd_X5_copyFrom ⟨Nat.le_of_ble_eq_true rfl, Nat.le_of_ble_eq_true rfl⟩ (Nat.le_of_ble_eq_true rfl) dX6_foresee_8 (fun M4 H locs h hP hS => ?_)
  refine lv_aload_n (pc := 11) hx hb dX6_foresee_11 rfl (lv_at hl 0 rfl) ?_
  obtain ⟨j7, hj7, h⟩ := h
  refine gX6_16 (pc := 12) C hK hP hk1 hj7 dX6_foresee_12 ?_
  refine lv_iload_n (pc := 15) hx hb dX6_foresee_15 rfl (lv_at hl 1 rfl) ?_
  obtain ⟨hk9, h⟩ := h
  refine m_callVV (pc := 16) (y := yX5_passMinutes) (κ := 5) (As := [.int p1]) (rest := []) C hK hP hS hl.1 ⟨Nat.zero_le _, Nat.zero_le _⟩ (c_X5_passMinutes h) rfl rfl hk9 (by decide) rfl q_562 q_563 q_564 q_2 q_565 ⟨rfl, rfl⟩ yd_X5_passMinutes ⟨Nat.le_of_ble_eq_true rfl, Nat.le_of_ble_eq_true rfl⟩ (Nat.le_of_ble_eq_true rfl) dX6_foresee_16 (fun M8 H locs h hP hS => ?_)
  exact m_vret (pc := 19) C hr hlk hP hS dX6_foresee_19 h
/-! ForgeHeats.goneBehind (I)I -/
def wp_X6_goneBehind (n : Nat) (M : Mem) (i : Nat) (p1 : Int32) (P : Int32 → Mem → Prop) : Prop := m_tp n i 6 ∧ (∃ j2 : Nat, M.2.1 i 1 = some j2 ∧ (∃ j3 : Nat, M.2.1 i 0 = some j3 ∧ (m_tp n j2 5 ∧ (wp_X5_copyFrom n M j2 j3 (fun M4 => wp_X6_passUntilGone n M4 i p1 (fun r8 M7 => P r8 M7))))))
abbrev rm_X6_goneBehind : Room := { frames := 5, cells := 0, slots := 0, locals := 114 }
set_option maxHeartbeats 4000000 in
set_option maxRecDepth 100000 in
theorem c_X6_goneBehind {l : Launch} {D : va_G} {cA : Nat → ClassId} {b n : Nat} {M : Mem} {i : Nat} {p1 : Int32} {P : Int32 → Mem → Prop} (h : wp_X6_goneBehind n M i p1 P) : m_C l D cA b n n M yX6_goneBehind cX6_goneBehind 2 (some .int) rm_X6_goneBehind 0 0 [.ref (b + i), .int p1] (rI P) := by
  refine m_enter (by decide) (Nat.le_of_ble_eq_true rfl) (fun p e s m below meth c C hr hlk hnm hK hP hS ls hl => ?_)
  have hx := C.1
  have hb := C.2.1
  have hl : lv_has ls 2 [(0, .ref (b + i)), (1, .int p1)] := hl
  unfold wp_X6_goneBehind at h
  refine lv_aload_n (pc := 0) hx hb dX6_goneBehind_0 rfl (lv_at hl 0 rfl) ?_
  obtain ⟨hk1, h⟩ := h
  obtain ⟨j2, hj2, h⟩ := h
  refine gX6_16 (pc := 1) C hK hP hk1 hj2 dX6_goneBehind_1 ?_
  refine lv_aload_n (pc := 4) hx hb dX6_goneBehind_4 rfl (lv_at hl 0 rfl) ?_
  obtain ⟨j3, hj3, h⟩ := h
  refine gX6_10 (pc := 5) C hK hP hk1 hj3 dX6_goneBehind_5 ?_
  obtain ⟨hk5, h⟩ := h
  refine m_callVV (pc := 8) (y := yX5_copyFrom) (κ := 5) (As := [.ref (b + j3)]) (rest := []) C hK hP hS hl.1 ⟨Nat.zero_le _, Nat.zero_le _⟩ (c_X5_copyFrom h) rfl rfl hk5 (by decide) rfl q_448 q_449 q_450 q_2 q_451 ⟨rfl, rfl⟩ yd_X5_copyFrom ⟨Nat.le_of_ble_eq_true rfl, Nat.le_of_ble_eq_true rfl⟩ (Nat.le_of_ble_eq_true rfl) dX6_goneBehind_8 (fun M4 H locs h hP hS => ?_)
  refine lv_aload_n (pc := 11) hx hb dX6_goneBehind_11 rfl (lv_at hl 0 rfl) ?_
  refine lv_iload_n (pc := 12) hx hb dX6_goneBehind_12 rfl (lv_at hl 1 rfl) ?_
  refine m_callVI (pc := 13) (y := yX6_passUntilGone) (κ := 6) (As := [.int p1]) (rest := []) C hK hP hS hl.1 ⟨Nat.zero_le _, Nat.zero_le _⟩ (c_X6_passUntilGone h) rfl rfl hk1 (by decide) rfl q_473 q_475 q_s15 q_1 q_476 ⟨rfl, rfl⟩ yd_X6_passUntilGone ⟨Nat.le_of_ble_eq_true rfl, Nat.le_of_ble_eq_true rfl⟩ (Nat.le_of_ble_eq_true rfl) dX6_goneBehind_13 (fun r8 M7 H locs h hP hS => ?_)
  exact m_iret (v := r8) (pc := 16) C hr hlk hP hS dX6_goneBehind_16 h
/-! ForgeHeats.gainByHaste (II)I -/
def wp_X6_gainByHaste (n : Nat) (M : Mem) (i : Nat) (p1 : Int32) (p2 : Int32) (P : Int32 → Mem → Prop) : Prop := m_tp n i 6 ∧ (∃ j2 : Nat, M.2.1 i 1 = some j2 ∧ (∃ j3 : Nat, M.2.1 i 0 = some j3 ∧ (m_tp n j2 5 ∧ (wp_X5_copyFrom n M j2 j3 (fun M4 => ∃ j7 : Nat, M4.2.1 i 1 = some j7 ∧ (m_tp n j7 5 ∧ (wp_X5_placeOf n M4 j7 p1 (fun r10 M8 => ∃ j11 : Nat, M8.2.1 i 1 = some j11 ∧ (m_tp n j11 5 ∧ (wp_X5_hasten n M8 j11 r10 true (fun r14 M12 => ((¬ r14 = r10 → wp_X6_passUntilGone n M12 i p1 (fun r16 M15 => ((¬ p2 = (-1) → P (if ¬ r16 = (-1) then (p2 - r16) else (-999)) M15) ∧ (p2 = (-1) → P (if ¬ r16 = (-1) then 999 else 0) M15)))) ∧ (r14 = r10 → P 0 M12)))))))))))))
abbrev rm_X6_gainByHaste : Room := { frames := 5, cells := 0, slots := 0, locals := 114 }
set_option maxHeartbeats 4000000 in
set_option maxRecDepth 100000 in
theorem c_X6_gainByHaste {l : Launch} {D : va_G} {cA : Nat → ClassId} {b n : Nat} {M : Mem} {i : Nat} {p1 : Int32} {p2 : Int32} {P : Int32 → Mem → Prop} (h : wp_X6_gainByHaste n M i p1 p2 P) : m_C l D cA b n n M yX6_gainByHaste cX6_gainByHaste 5 (some .int) rm_X6_gainByHaste 0 0 [.ref (b + i), .int p1, .int p2] (rI P) := by
  refine m_enter (by decide) (Nat.le_of_ble_eq_true rfl) (fun p e s m below meth c C hr hlk hnm hK hP hS ls hl => ?_)
  have hx := C.1
  have hb := C.2.1
  have hl : lv_has ls 5 [(0, .ref (b + i)), (1, .int p1), (2, .int p2)] := hl
  unfold wp_X6_gainByHaste at h
  refine lv_aload_n (pc := 0) hx hb dX6_gainByHaste_0 rfl (lv_at hl 0 rfl) ?_
  obtain ⟨hk1, h⟩ := h
  obtain ⟨j2, hj2, h⟩ := h
  refine gX6_16 (pc := 1) C hK hP hk1 hj2 dX6_gainByHaste_1 ?_
  refine lv_aload_n (pc := 4) hx hb dX6_gainByHaste_4 rfl (lv_at hl 0 rfl) ?_
  obtain ⟨j3, hj3, h⟩ := h
  refine gX6_10 (pc := 5) C hK hP hk1 hj3 dX6_gainByHaste_5 ?_
  obtain ⟨hk5, h⟩ := h
  refine m_callVV (pc := 8) (y := yX5_copyFrom) (κ := 5) (As := [.ref (b + j3)]) (rest := []) C hK hP hS hl.1 ⟨Nat.zero_le _, Nat.zero_le _⟩ (c_X5_copyFrom h) rfl rfl hk5 (by decide) rfl q_448 q_449 q_450 q_2 q_451 ⟨rfl, rfl⟩ yd_X5_copyFrom ⟨Nat.le_of_ble_eq_true rfl, Nat.le_of_ble_eq_true rfl⟩ (Nat.le_of_ble_eq_true rfl) dX6_gainByHaste_8 (fun M4 H locs h hP hS => ?_)
  refine lv_aload_n (pc := 11) hx hb dX6_gainByHaste_11 rfl (lv_at hl 0 rfl) ?_
  obtain ⟨j7, hj7, h⟩ := h
  refine gX6_16 (pc := 12) C hK hP hk1 hj7 dX6_gainByHaste_12 ?_
  refine lv_iload_n (pc := 15) hx hb dX6_gainByHaste_15 rfl (lv_at hl 1 rfl) ?_
  obtain ⟨hk9, h⟩ := h
  refine m_callVI (pc := 16) (y := yX5_placeOf) (κ := 5) (As := [.int p1]) (rest := []) C hK hP hS hl.1 ⟨Nat.zero_le _, Nat.zero_le _⟩ (c_X5_placeOf h) rfl rfl hk9 (by decide) rfl q_541 q_505 q_506 q_2 q_507 ⟨rfl, rfl⟩ yd_X5_placeOf ⟨Nat.le_of_ble_eq_true rfl, Nat.le_of_ble_eq_true rfl⟩ (Nat.le_of_ble_eq_true rfl) dX6_gainByHaste_16 (fun r10 M8 H locs h hP hS => ?_)
  refine lv_istore_n (lv' := [(3, .int r10), (0, .ref (b + i)), (1, .int p1), (2, .int p2)]) (pc := 19) hx hb dX6_gainByHaste_19 rfl hl (by decide) rfl (fun ls hl => ?_)
  refine lv_aload_n (pc := 20) hx hb dX6_gainByHaste_20 rfl (lv_at hl 1 rfl) ?_
  obtain ⟨j11, hj11, h⟩ := h
  refine gX6_16 (pc := 21) C hK hP hk1 hj11 dX6_gainByHaste_21 ?_
  refine lv_iload_n (pc := 24) hx hb dX6_gainByHaste_24 rfl (lv_at hl 0 rfl) ?_
  refine lv_iconst (v := 1) (pc := 25) hx hb dX6_gainByHaste_25 (by decide) ?_
  obtain ⟨hk13, h⟩ := h
  refine m_callVI (pc := 26) (y := yX5_hasten) (κ := 5) (As := [.int r10, .int (bI true)]) (rest := []) C hK hP hS hl.1 ⟨Nat.zero_le _, Nat.zero_le _⟩ (c_X5_hasten h) rfl rfl hk13 (by decide) rfl q_546 q_547 q_548 q_2 q_549 ⟨rfl, rfl⟩ yd_X5_hasten ⟨Nat.le_of_ble_eq_true rfl, Nat.le_of_ble_eq_true rfl⟩ (Nat.le_of_ble_eq_true rfl) dX6_gainByHaste_26 (fun r14 M12 H locs h hP hS => ?_)
  refine lv_iload_n (pc := 29) hx hb dX6_gainByHaste_29 rfl (lv_at hl 0 rfl) ?_
  refine lv_icmp_ne (tgt := 35) (pc := 30) hx hb dX6_gainByHaste_30 (by decide) (fun c30 => ?_) (fun c30 => ?_)
  · replace h := h.1 c30
    refine lv_aload_n (pc := 35) hx hb dX6_gainByHaste_35 rfl (lv_at hl 1 rfl) ?_
    refine lv_iload_n (pc := 36) hx hb dX6_gainByHaste_36 rfl (lv_at hl 2 rfl) ?_
    refine m_callVI (pc := 37) (y := yX6_passUntilGone) (κ := 6) (As := [.int p1]) (rest := []) C hK hP hS hl.1 ⟨Nat.zero_le _, Nat.zero_le _⟩ (c_X6_passUntilGone h) rfl rfl hk1 (by decide) rfl q_473 q_475 q_s15 q_1 q_476 ⟨rfl, rfl⟩ yd_X6_passUntilGone ⟨Nat.le_of_ble_eq_true rfl, Nat.le_of_ble_eq_true rfl⟩ (Nat.le_of_ble_eq_true rfl) dX6_gainByHaste_37 (fun r16 M15 H locs h hP hS => ?_)
    refine lv_istore (lv' := [(4, .int r16), (3, .int r10), (0, .ref (b + i)), (1, .int p1), (2, .int p2)]) (pc := 40) hx hb dX6_gainByHaste_40 hl (by decide) rfl (fun ls hl => ?_)
    refine lv_iload_n (pc := 42) hx hb dX6_gainByHaste_42 rfl (lv_at hl 4 rfl) ?_
    refine lv_iconst (v := -1) (pc := 43) hx hb dX6_gainByHaste_43 (by decide) ?_
    refine lv_icmp_ne (tgt := 61) (pc := 44) hx hb dX6_gainByHaste_44 (by decide) (fun c44 => ?_) (fun c44 => ?_)
    · replace h := h.1 c44
      refine lv_iload (pc := 61) hx hb dX6_gainByHaste_61 (lv_at hl 0 rfl) ?_
      refine lv_iconst (v := -1) (pc := 63) hx hb dX6_gainByHaste_63 (by decide) ?_
      refine m_join (v := if ¬ r16 = (-1) then (p2 - r16) else (-999)) (jp := 77) (rest := []) ?_ (fun hJ => ?_)
      rotate_left
      · skip
        refine lv_icmp_ne (tgt := 73) (pc := 64) hx hb dX6_gainByHaste_64 (by decide) (fun c64 => ?_) (fun c64 => ?_)
        · skip
          refine lv_iload_n (pc := 73) hx hb dX6_gainByHaste_73 rfl (lv_at hl 4 rfl) ?_
          refine lv_iload (pc := 74) hx hb dX6_gainByHaste_74 (lv_at hl 0 rfl) ?_
          refine lv_isub (pc := 76) hx hb dX6_gainByHaste_76 ?_
          exact hJ _ (by rw [if_pos c64])
        · skip
          refine lv_sipush (v := -999) (pc := 67) hx hb dX6_gainByHaste_67 (by decide) ?_
          refine lv_goto (tgt := 77) (pc := 70) hx hb dX6_gainByHaste_70 (by decide) ?_
          exact hJ _ (by rw [if_neg (fun hn => hn c64)])
      exact m_iret (v := if ¬ r16 = (-1) then (p2 - r16) else (-999)) (pc := 77) C hr hlk hP hS dX6_gainByHaste_77 h
    · replace h := h.2 c44
      refine lv_iload (pc := 47) hx hb dX6_gainByHaste_47 (lv_at hl 0 rfl) ?_
      refine lv_iconst (v := -1) (pc := 49) hx hb dX6_gainByHaste_49 (by decide) ?_
      refine m_join (v := if ¬ r16 = (-1) then 999 else 0) (jp := 60) (rest := []) ?_ (fun hJ => ?_)
      rotate_left
      · skip
        refine lv_icmp_ne (tgt := 57) (pc := 50) hx hb dX6_gainByHaste_50 (by decide) (fun c50 => ?_) (fun c50 => ?_)
        · skip
          refine lv_sipush (v := 999) (pc := 57) hx hb dX6_gainByHaste_57 (by decide) ?_
          exact hJ _ (by rw [if_pos c50])
        · skip
          refine lv_iconst (v := 0) (pc := 53) hx hb dX6_gainByHaste_53 (by decide) ?_
          refine lv_goto (tgt := 60) (pc := 54) hx hb dX6_gainByHaste_54 (by decide) ?_
          exact hJ _ (by rw [if_neg (fun hn => hn c50)])
      exact m_iret (v := if ¬ r16 = (-1) then 999 else 0) (pc := 60) C hr hlk hP hS dX6_gainByHaste_60 h
  · replace h := h.2 c30
    refine lv_iconst (v := 0) (pc := 33) hx hb dX6_gainByHaste_33 (by decide) ?_
    exact m_iret (v := 0) (pc := 34) C hr hlk hP hS dX6_gainByHaste_34 h
/-! ForgeHeats.bestNumberOfReheats (I)I -/
def wpB_X6_bestNumberOfReheats_10 (n : Nat) (P : Int32 → Mem → Prop) (R_ : Mem → Nat → Int32 → Int32 → Int32 → Int32 → Int32 → Prop) (M : Mem) (x0 : Nat) (x1 : Int32) (x2 : Int32) (x3 : Int32) (x4 : Int32) (x5 : Int32) : Prop := ((3 < x5 → P x2 M) ∧ (¬ 3 < x5 → m_tp n x0 6 ∧ (∃ j2 : Nat, M.2.1 x0 1 = some j2 ∧ (∃ j3 : Nat, M.2.1 x0 0 = some j3 ∧ (m_tp n j2 5 ∧ (wp_X5_copyFrom n M j2 j3 (fun M4 => ∃ j7 : Nat, M4.2.1 x0 1 = some j7 ∧ (m_tp n j7 5 ∧ (∀ M9 : Mem, M9 = uI M4 j7 9 x5 → (∃ j10 : Nat, M9.2.1 x0 1 = some j10 ∧ (m_tp n j10 5 ∧ (wp_X5_passMinutes n M9 j10 x1 (fun M11 => ∃ j14 : Nat, M11.2.1 x0 1 = some j14 ∧ (m_tp n j14 5 ∧ (wp_X5_countMade n M11 j14 (fun r17 M15 => ∃ j18 : Nat, M15.2.1 x0 1 = some j18 ∧ (m_tp n j18 5 ∧ (wp_X5_countScrap n M15 j18 (fun r21 M19 => ((x3 < r17 → ∀ v22 : Int32, v22 = x5 + 1 → (R_ M19 x0 x1 x5 r17 r21 v22)) ∧ (¬ x3 < r17 → ((¬ r17 = x3 → ∀ v23 : Int32, v23 = x5 + 1 → (R_ M19 x0 x1 x2 x3 x4 v23)) ∧ (r17 = x3 → ((x4 ≤ r21 → ∀ v24 : Int32, v24 = x5 + 1 → (R_ M19 x0 x1 x2 x3 x4 v24)) ∧ (¬ x4 ≤ r21 → ∀ v25 : Int32, v25 = x5 + 1 → (R_ M19 x0 x1 x5 r17 r21 v25))))))))))))))))))))))))))
def wpL_X6_bestNumberOfReheats_10 (n : Nat) (P : Int32 → Mem → Prop) : Nat → Mem → Nat → Int32 → Int32 → Int32 → Int32 → Int32 → Prop
  | 0 => fun _ _ _ _ _ _ _ => False
  | f + 1 => fun M x0 x1 x2 x3 x4 x5 => wpB_X6_bestNumberOfReheats_10 n P (wpL_X6_bestNumberOfReheats_10 n P f) M x0 x1 x2 x3 x4 x5
def wp_X6_bestNumberOfReheats (n : Nat) (M : Mem) (i : Nat) (p1 : Int32) (P : Int32 → Mem → Prop) : Prop := ∃ f : Nat, wpL_X6_bestNumberOfReheats_10 n P f M i p1 0 (-1) 0 0
abbrev rm_X6_bestNumberOfReheats : Room := { frames := 5, cells := 0, slots := 0, locals := 114 }
set_option maxHeartbeats 4000000 in
set_option maxRecDepth 100000 in
theorem c_X6_bestNumberOfReheats {l : Launch} {D : va_G} {cA : Nat → ClassId} {b n : Nat} {M : Mem} {i : Nat} {p1 : Int32} {P : Int32 → Mem → Prop} (h : wp_X6_bestNumberOfReheats n M i p1 P) : m_C l D cA b n n M yX6_bestNumberOfReheats cX6_bestNumberOfReheats 8 (some .int) rm_X6_bestNumberOfReheats 0 0 [.ref (b + i), .int p1] (rI P) := by
  refine m_enter (by decide) (Nat.le_of_ble_eq_true rfl) (fun p e s m below meth c C hr hlk hnm hK hP hS ls hl => ?_)
  have hx := C.1
  have hb := C.2.1
  have hl : lv_has ls 8 [(0, .ref (b + i)), (1, .int p1)] := hl
  have L10 : ∀ f : Nat, ∀ (M : Mem) (H : Heap) (locs : List Loc) (ls : Array Slot) (x0 : Nat) (x1 : Int32) (x2 : Int32) (x3 : Int32) (x4 : Int32) (x5 : Int32), wpL_X6_bestNumberOfReheats_10 n P f M x0 x1 x2 x3 x4 x5 → m_H D cA b n M H → va_S (m_A b) s.heap H locs → lv_has ls 8 [(0, .ref (b + x0)), (1, .int x1), (2, .int x2), (3, .int x3), (4, .int x4), (5, .int x5)] → W p l e rm_X6_bestNumberOfReheats s m ([.ref (b + i), .int p1] : List Value).toArray below meth c H locs 0 0 (MQ below (m_Q D cA b n (rI P)) ([.ref (b + i), .int p1] : List Value).toArray s 0 0 (m_A b)) (F0 m 10 ls []) := by
    clear h
    intro f
    induction f with
    | zero => intro M H locs ls x0 x1 x2 x3 x4 x5 h; exact h.elim
    | succ f ih =>
      intro M H locs ls x0 x1 x2 x3 x4 x5 h hP hS hl
      have h : wpB_X6_bestNumberOfReheats_10 n P (wpL_X6_bestNumberOfReheats_10 n P f) M x0 x1 x2 x3 x4 x5 := h
      unfold wpB_X6_bestNumberOfReheats_10 at h
      refine lv_iload (pc := 10) hx hb dX6_bestNumberOfReheats_10 (lv_at hl 5 rfl) ?_
      refine lv_iconst (v := 3) (pc := 12) hx hb dX6_bestNumberOfReheats_12 (by decide) ?_
      refine lv_icmp_gt (tgt := 97) (pc := 13) hx hb dX6_bestNumberOfReheats_13 (by decide) (fun c13 => ?_) (fun c13 => ?_)
      · replace h := h.1 c13
        refine lv_iload_n (pc := 97) hx hb dX6_bestNumberOfReheats_97 rfl (lv_at hl 2 rfl) ?_
        exact m_iret (v := x2) (pc := 98) C hr hlk hP hS dX6_bestNumberOfReheats_98 h
      · replace h := h.2 c13
        refine lv_aload_n (pc := 16) hx hb dX6_bestNumberOfReheats_16 rfl (lv_at hl 0 rfl) ?_
        obtain ⟨hk1, h⟩ := h
        obtain ⟨j2, hj2, h⟩ := h
        refine gX6_16 (pc := 17) C hK hP hk1 hj2 dX6_bestNumberOfReheats_17 ?_
        refine lv_aload_n (pc := 20) hx hb dX6_bestNumberOfReheats_20 rfl (lv_at hl 0 rfl) ?_
        obtain ⟨j3, hj3, h⟩ := h
        refine gX6_10 (pc := 21) C hK hP hk1 hj3 dX6_bestNumberOfReheats_21 ?_
        obtain ⟨hk5, h⟩ := h
        refine m_callVV (pc := 24) (y := yX5_copyFrom) (κ := 5) (As := [.ref (b + j3)]) (rest := []) C hK hP hS hl.1 ⟨Nat.zero_le _, Nat.zero_le _⟩ (c_X5_copyFrom h) rfl rfl hk5 (by decide) rfl q_448 q_449 q_450 q_2 q_451 ⟨rfl, rfl⟩ yd_X5_copyFrom ⟨Nat.le_of_ble_eq_true rfl, Nat.le_of_ble_eq_true rfl⟩ (Nat.le_of_ble_eq_true rfl) dX6_bestNumberOfReheats_24 (fun M4 H locs h hP hS => ?_)
        refine lv_aload_n (pc := 27) hx hb dX6_bestNumberOfReheats_27 rfl (lv_at hl 0 rfl) ?_
        obtain ⟨j7, hj7, h⟩ := h
        refine gX6_16 (pc := 28) C hK hP hk1 hj7 dX6_bestNumberOfReheats_28 ?_
        refine lv_iload (pc := 31) hx hb dX6_bestNumberOfReheats_31 (lv_at hl 5 rfl) ?_
        obtain ⟨hk8, h⟩ := h
        refine pX6_325 (pc := 33) (v := x5) C hK hP hS hk8 dX6_bestNumberOfReheats_33 (fun M9 H locs eM9 hP hS => ?_)
        replace h := h M9 eM9
        refine lv_aload_n (pc := 36) hx hb dX6_bestNumberOfReheats_36 rfl (lv_at hl 0 rfl) ?_
        obtain ⟨j10, hj10, h⟩ := h
        refine gX6_16 (pc := 37) C hK hP hk1 hj10 dX6_bestNumberOfReheats_37 ?_
        refine lv_iload_n (pc := 40) hx hb dX6_bestNumberOfReheats_40 rfl (lv_at hl 1 rfl) ?_
        obtain ⟨hk12, h⟩ := h
        refine m_callVV (pc := 41) (y := yX5_passMinutes) (κ := 5) (As := [.int x1]) (rest := []) C hK hP hS hl.1 ⟨Nat.zero_le _, Nat.zero_le _⟩ (c_X5_passMinutes h) rfl rfl hk12 (by decide) rfl q_562 q_563 q_564 q_2 q_565 ⟨rfl, rfl⟩ yd_X5_passMinutes ⟨Nat.le_of_ble_eq_true rfl, Nat.le_of_ble_eq_true rfl⟩ (Nat.le_of_ble_eq_true rfl) dX6_bestNumberOfReheats_41 (fun M11 H locs h hP hS => ?_)
        refine lv_aload_n (pc := 44) hx hb dX6_bestNumberOfReheats_44 rfl (lv_at hl 0 rfl) ?_
        obtain ⟨j14, hj14, h⟩ := h
        refine gX6_16 (pc := 45) C hK hP hk1 hj14 dX6_bestNumberOfReheats_45 ?_
        obtain ⟨hk16, h⟩ := h
        refine m_callVI (pc := 48) (y := yX5_countMade) (κ := 5) (As := []) (rest := []) C hK hP hS hl.1 ⟨Nat.zero_le _, Nat.zero_le _⟩ (c_X5_countMade h) rfl rfl hk16 (by decide) rfl q_337 q_338 q_339 q_2 q_340 ⟨rfl, rfl⟩ yd_X5_countMade ⟨Nat.le_of_ble_eq_true rfl, Nat.le_of_ble_eq_true rfl⟩ (Nat.le_of_ble_eq_true rfl) dX6_bestNumberOfReheats_48 (fun r17 M15 H locs h hP hS => ?_)
        refine lv_istore (lv' := [(6, .int r17), (0, .ref (b + x0)), (1, .int x1), (2, .int x2), (3, .int x3), (4, .int x4), (5, .int x5)]) (pc := 51) hx hb dX6_bestNumberOfReheats_51 hl (by decide) rfl (fun ls hl => ?_)
        refine lv_aload_n (pc := 53) hx hb dX6_bestNumberOfReheats_53 rfl (lv_at hl 1 rfl) ?_
        obtain ⟨j18, hj18, h⟩ := h
        refine gX6_16 (pc := 54) C hK hP hk1 hj18 dX6_bestNumberOfReheats_54 ?_
        obtain ⟨hk20, h⟩ := h
        refine m_callVI (pc := 57) (y := yX5_countScrap) (κ := 5) (As := []) (rest := []) C hK hP hS hl.1 ⟨Nat.zero_le _, Nat.zero_le _⟩ (c_X5_countScrap h) rfl rfl hk20 (by decide) rfl q_345 q_346 q_347 q_2 q_348 ⟨rfl, rfl⟩ yd_X5_countScrap ⟨Nat.le_of_ble_eq_true rfl, Nat.le_of_ble_eq_true rfl⟩ (Nat.le_of_ble_eq_true rfl) dX6_bestNumberOfReheats_57 (fun r21 M19 H locs h hP hS => ?_)
        refine lv_istore (lv' := [(7, .int r21), (6, .int r17), (0, .ref (b + x0)), (1, .int x1), (2, .int x2), (3, .int x3), (4, .int x4), (5, .int x5)]) (pc := 60) hx hb dX6_bestNumberOfReheats_60 hl (by decide) rfl (fun ls hl => ?_)
        refine lv_iload (pc := 62) hx hb dX6_bestNumberOfReheats_62 (lv_at hl 1 rfl) ?_
        refine lv_iload_n (pc := 64) hx hb dX6_bestNumberOfReheats_64 rfl (lv_at hl 5 rfl) ?_
        refine lv_icmp_gt (tgt := 81) (pc := 65) hx hb dX6_bestNumberOfReheats_65 (by decide) (fun c65 => ?_) (fun c65 => ?_)
        · replace h := h.1 c65
          refine lv_iload (pc := 81) hx hb dX6_bestNumberOfReheats_81 (lv_at hl 7 rfl) ?_
          refine lv_istore_n (lv' := [(2, .int x5), (7, .int r21), (6, .int r17), (0, .ref (b + x0)), (1, .int x1), (3, .int x3), (4, .int x4), (5, .int x5)]) (pc := 83) hx hb dX6_bestNumberOfReheats_83 rfl hl (by decide) rfl (fun ls hl => ?_)
          refine lv_iload (pc := 84) hx hb dX6_bestNumberOfReheats_84 (lv_at hl 2 rfl) ?_
          refine lv_istore_n (lv' := [(3, .int r17), (2, .int x5), (7, .int r21), (6, .int r17), (0, .ref (b + x0)), (1, .int x1), (4, .int x4), (5, .int x5)]) (pc := 86) hx hb dX6_bestNumberOfReheats_86 rfl hl (by decide) rfl (fun ls hl => ?_)
          refine lv_iload (pc := 87) hx hb dX6_bestNumberOfReheats_87 (lv_at hl 2 rfl) ?_
          refine lv_istore (lv' := [(4, .int r21), (3, .int r17), (2, .int x5), (7, .int r21), (6, .int r17), (0, .ref (b + x0)), (1, .int x1), (5, .int x5)]) (pc := 89) hx hb dX6_bestNumberOfReheats_89 hl (by decide) rfl (fun ls hl => ?_)
          obtain ⟨v22, ev22⟩ : ∃ y : Int32, y = x5 + 1 := ⟨_, rfl⟩
          replace h := h v22 ev22
          refine lv_iinc (v := v22) (lv' := [(5, .int v22), (4, .int r21), (3, .int r17), (2, .int x5), (7, .int r21), (6, .int r17), (0, .ref (b + x0)), (1, .int x1)]) (pc := 91) hx hb dX6_bestNumberOfReheats_91 hl (k := 7) rfl (by rw [ev22]; rfl) (by decide) rfl (fun ls hl => ?_)
          refine lv_goto (tgt := 10) (pc := 94) hx hb dX6_bestNumberOfReheats_94 (by decide) ?_
          exact ih _ _ _ _ _ _ _ _ _ _ h hP hS (lv_sub hl [6, 7, 3, 2, 1, 0] rfl)
        · replace h := h.2 c65
          refine lv_iload (pc := 68) hx hb dX6_bestNumberOfReheats_68 (lv_at hl 1 rfl) ?_
          refine lv_iload_n (pc := 70) hx hb dX6_bestNumberOfReheats_70 rfl (lv_at hl 5 rfl) ?_
          refine lv_icmp_ne (tgt := 91) (pc := 71) hx hb dX6_bestNumberOfReheats_71 (by decide) (fun c71 => ?_) (fun c71 => ?_)
          · replace h := h.1 c71
            obtain ⟨v23, ev23⟩ : ∃ y : Int32, y = x5 + 1 := ⟨_, rfl⟩
            replace h := h v23 ev23
            refine lv_iinc (v := v23) (lv' := [(5, .int v23), (7, .int r21), (6, .int r17), (0, .ref (b + x0)), (1, .int x1), (2, .int x2), (3, .int x3), (4, .int x4)]) (pc := 91) hx hb dX6_bestNumberOfReheats_91 hl (k := 7) rfl (by rw [ev23]; rfl) (by decide) rfl (fun ls hl => ?_)
            refine lv_goto (tgt := 10) (pc := 94) hx hb dX6_bestNumberOfReheats_94 (by decide) ?_
            exact ih _ _ _ _ _ _ _ _ _ _ h hP hS (lv_sub hl [3, 4, 5, 6, 7, 0] rfl)
          · replace h := h.2 c71
            refine lv_iload (pc := 74) hx hb dX6_bestNumberOfReheats_74 (lv_at hl 0 rfl) ?_
            refine lv_iload (pc := 76) hx hb dX6_bestNumberOfReheats_76 (lv_at hl 6 rfl) ?_
            refine lv_icmp_ge (tgt := 91) (pc := 78) hx hb dX6_bestNumberOfReheats_78 (by decide) (fun c78 => ?_) (fun c78 => ?_)
            · replace h := h.1 c78
              obtain ⟨v24, ev24⟩ : ∃ y : Int32, y = x5 + 1 := ⟨_, rfl⟩
              replace h := h v24 ev24
              refine lv_iinc (v := v24) (lv' := [(5, .int v24), (7, .int r21), (6, .int r17), (0, .ref (b + x0)), (1, .int x1), (2, .int x2), (3, .int x3), (4, .int x4)]) (pc := 91) hx hb dX6_bestNumberOfReheats_91 hl (k := 7) rfl (by rw [ev24]; rfl) (by decide) rfl (fun ls hl => ?_)
              refine lv_goto (tgt := 10) (pc := 94) hx hb dX6_bestNumberOfReheats_94 (by decide) ?_
              exact ih _ _ _ _ _ _ _ _ _ _ h hP hS (lv_sub hl [3, 4, 5, 6, 7, 0] rfl)
            · replace h := h.2 c78
              refine lv_iload (pc := 81) hx hb dX6_bestNumberOfReheats_81 (lv_at hl 7 rfl) ?_
              refine lv_istore_n (lv' := [(2, .int x5), (7, .int r21), (6, .int r17), (0, .ref (b + x0)), (1, .int x1), (3, .int x3), (4, .int x4), (5, .int x5)]) (pc := 83) hx hb dX6_bestNumberOfReheats_83 rfl hl (by decide) rfl (fun ls hl => ?_)
              refine lv_iload (pc := 84) hx hb dX6_bestNumberOfReheats_84 (lv_at hl 2 rfl) ?_
              refine lv_istore_n (lv' := [(3, .int r17), (2, .int x5), (7, .int r21), (6, .int r17), (0, .ref (b + x0)), (1, .int x1), (4, .int x4), (5, .int x5)]) (pc := 86) hx hb dX6_bestNumberOfReheats_86 rfl hl (by decide) rfl (fun ls hl => ?_)
              refine lv_iload (pc := 87) hx hb dX6_bestNumberOfReheats_87 (lv_at hl 2 rfl) ?_
              refine lv_istore (lv' := [(4, .int r21), (3, .int r17), (2, .int x5), (7, .int r21), (6, .int r17), (0, .ref (b + x0)), (1, .int x1), (5, .int x5)]) (pc := 89) hx hb dX6_bestNumberOfReheats_89 hl (by decide) rfl (fun ls hl => ?_)
              obtain ⟨v25, ev25⟩ : ∃ y : Int32, y = x5 + 1 := ⟨_, rfl⟩
              replace h := h v25 ev25
              refine lv_iinc (v := v25) (lv' := [(5, .int v25), (4, .int r21), (3, .int r17), (2, .int x5), (7, .int r21), (6, .int r17), (0, .ref (b + x0)), (1, .int x1)]) (pc := 91) hx hb dX6_bestNumberOfReheats_91 hl (k := 7) rfl (by rw [ev25]; rfl) (by decide) rfl (fun ls hl => ?_)
              refine lv_goto (tgt := 10) (pc := 94) hx hb dX6_bestNumberOfReheats_94 (by decide) ?_
              exact ih _ _ _ _ _ _ _ _ _ _ h hP hS (lv_sub hl [6, 7, 3, 2, 1, 0] rfl)
  unfold wp_X6_bestNumberOfReheats at h
  refine lv_iconst (v := 0) (pc := 0) hx hb dX6_bestNumberOfReheats_0 (by decide) ?_
  refine lv_istore_n (lv' := [(2, .int 0), (0, .ref (b + i)), (1, .int p1)]) (pc := 1) hx hb dX6_bestNumberOfReheats_1 rfl hl (by decide) rfl (fun ls hl => ?_)
  refine lv_iconst (v := -1) (pc := 2) hx hb dX6_bestNumberOfReheats_2 (by decide) ?_
  refine lv_istore_n (lv' := [(3, .int (-1)), (2, .int 0), (0, .ref (b + i)), (1, .int p1)]) (pc := 3) hx hb dX6_bestNumberOfReheats_3 rfl hl (by decide) rfl (fun ls hl => ?_)
  refine lv_iconst (v := 0) (pc := 4) hx hb dX6_bestNumberOfReheats_4 (by decide) ?_
  refine lv_istore (lv' := [(4, .int 0), (3, .int (-1)), (2, .int 0), (0, .ref (b + i)), (1, .int p1)]) (pc := 5) hx hb dX6_bestNumberOfReheats_5 hl (by decide) rfl (fun ls hl => ?_)
  refine lv_iconst (v := 0) (pc := 7) hx hb dX6_bestNumberOfReheats_7 (by decide) ?_
  refine lv_istore (lv' := [(5, .int 0), (4, .int 0), (3, .int (-1)), (2, .int 0), (0, .ref (b + i)), (1, .int p1)]) (pc := 8) hx hb dX6_bestNumberOfReheats_8 hl (by decide) rfl (fun ls hl => ?_)
  obtain ⟨f, h⟩ := h
  exact L10 f _ _ _ _ _ _ _ _ _ _ h hP hS (lv_sub hl [4, 5, 3, 2, 1, 0] rfl)
/-! ForgeHeats.mixJobs (J)J -/
def wpB_X6_mixJobs_20 (n : Nat) (P : Int64 → Mem → Prop) (K_ : Mem → Nat → Int64 → Int32 → Prop) (R_ : Mem → Nat → Int64 → Int32 → Int32 → Prop) (M : Mem) (x0 : Nat) (x3 : Int64) (x5 : Int32) (x6 : Int32) : Prop := ((8 ≤ x6 → m_tp n x0 6 ∧ (∃ j5 : Nat, M.2.1 x0 0 = some j5 ∧ (m_tp n j5 5 ∧ (wp_X5_jobAt n M j5 x5 (fun j8 M6 => m_tp n j8 3 ∧ (∀ v10 : Int32, v10 = (M6.1 j8 0) → (wp_X6_goneBehind n M6 x0 v10 (fun r12 M11 => wp_X6_mix n M11 x3 ((r12).toInt64) (fun r14 M13 => wp_X6_gainByHaste n M13 x0 v10 r12 (fun r16 M15 => wp_X6_mix n M15 r14 ((r16).toInt64) (fun r18 M17 => ∀ v19 : Int32, v19 = x5 + 1 → (K_ M17 x0 r18 v19)))))))))))) ∧ (¬ 8 ≤ x6 → m_tp n x0 6 ∧ (∃ j21 : Nat, M.2.1 x0 0 = some j21 ∧ (m_tp n j21 5 ∧ (wp_X5_jobProperty n M j21 x5 x6 (fun r24 M22 => wp_X6_mix n M22 x3 ((r24).toInt64) (fun r26 M25 => ∀ v27 : Int32, v27 = x6 + 1 → (R_ M25 x0 r26 x5 v27))))))))
def wpL_X6_mixJobs_20 (n : Nat) (P : Int64 → Mem → Prop) (K_ : Mem → Nat → Int64 → Int32 → Prop) : Nat → Mem → Nat → Int64 → Int32 → Int32 → Prop
  | 0 => fun _ _ _ _ _ => False
  | f + 1 => fun M x0 x3 x5 x6 => wpB_X6_mixJobs_20 n P K_ (wpL_X6_mixJobs_20 n P K_ f) M x0 x3 x5 x6
def wpB_X6_mixJobs_5 (n : Nat) (P : Int64 → Mem → Prop) (R_ : Mem → Nat → Int64 → Int32 → Prop) (M : Mem) (x0 : Nat) (x3 : Int64) (x5 : Int32) : Prop := m_tp n x0 6 ∧ (∃ j2 : Nat, M.2.1 x0 0 = some j2 ∧ (m_tp n j2 5 ∧ ((((M.1 j2 5) ≤ x5 → P x3 M) ∧ (¬ (M.1 j2 5) ≤ x5 → ∃ f : Nat, wpL_X6_mixJobs_20 n P R_ f M x0 x3 x5 0)))))
def wpL_X6_mixJobs_5 (n : Nat) (P : Int64 → Mem → Prop) : Nat → Mem → Nat → Int64 → Int32 → Prop
  | 0 => fun _ _ _ _ => False
  | f + 1 => fun M x0 x3 x5 => wpB_X6_mixJobs_5 n P (wpL_X6_mixJobs_5 n P f) M x0 x3 x5
def wp_X6_mixJobs (n : Nat) (M : Mem) (i : Nat) (p1 : Int64) (P : Int64 → Mem → Prop) : Prop := ∃ f : Nat, wpL_X6_mixJobs_5 n P f M i p1 0
abbrev rm_X6_mixJobs : Room := { frames := 6, cells := 0, slots := 0, locals := 138 }
set_option maxHeartbeats 4000000 in
set_option maxRecDepth 100000 in
theorem c_X6_mixJobs {l : Launch} {D : va_G} {cA : Nat → ClassId} {b n : Nat} {M : Mem} {i : Nat} {p1 : Int64} {P : Int64 → Mem → Prop} (h : wp_X6_mixJobs n M i p1 P) : m_C l D cA b n n M yX6_mixJobs cX6_mixJobs 8 (some .long) rm_X6_mixJobs 0 0 [.ref (b + i), .long p1] (rL P) := by
  refine m_enter (by decide) (Nat.le_of_ble_eq_true rfl) (fun p e s m below meth c C hr hlk hnm hK hP hS ls hl => ?_)
  have hx := C.1
  have hb := C.2.1
  have hl : lv_has ls 8 [(0, .ref (b + i)), (1, .long p1)] := hl
  have L20 : ∀ K_ : Mem → Nat → Int64 → Int32 → Prop, (∀ (M : Mem) (H : Heap) (locs : List Loc) (ls : Array Slot) (x0 : Nat) (x3 : Int64) (x5 : Int32), K_ M x0 x3 x5 → m_H D cA b n M H → va_S (m_A b) s.heap H locs → lv_has ls 8 [(0, .ref (b + x0)), (3, .long x3), (5, .int x5)] → W p l e rm_X6_mixJobs s m ([.ref (b + i), .long p1] : List Value).toArray below meth c H locs 0 0 (MQ below (m_Q D cA b n (rL P)) ([.ref (b + i), .long p1] : List Value).toArray s 0 0 (m_A b)) (F0 m 5 ls [])) → ∀ f : Nat, ∀ (M : Mem) (H : Heap) (locs : List Loc) (ls : Array Slot) (x0 : Nat) (x3 : Int64) (x5 : Int32) (x6 : Int32), wpL_X6_mixJobs_20 n P K_ f M x0 x3 x5 x6 → m_H D cA b n M H → va_S (m_A b) s.heap H locs → lv_has ls 8 [(0, .ref (b + x0)), (3, .long x3), (5, .int x5), (6, .int x6)] → W p l e rm_X6_mixJobs s m ([.ref (b + i), .long p1] : List Value).toArray below meth c H locs 0 0 (MQ below (m_Q D cA b n (rL P)) ([.ref (b + i), .long p1] : List Value).toArray s 0 0 (m_A b)) (F0 m 20 ls []) := by
    intro K_ hKk
    clear h
    intro f
    induction f with
    | zero => intro M H locs ls x0 x3 x5 x6 h; exact h.elim
    | succ f ih =>
      intro M H locs ls x0 x3 x5 x6 h hP hS hl
      have h : wpB_X6_mixJobs_20 n P K_ (wpL_X6_mixJobs_20 n P K_ f) M x0 x3 x5 x6 := h
      unfold wpB_X6_mixJobs_20 at h
      refine lv_iload (pc := 20) hx hb dX6_mixJobs_20 (lv_at hl 3 rfl) ?_
      refine lv_bipush (v := 8) (pc := 22) hx hb dX6_mixJobs_22 (by decide) ?_
      refine lv_icmp_ge (tgt := 50) (pc := 24) hx hb dX6_mixJobs_24 (by decide) (fun c24 => ?_) (fun c24 => ?_)
      · replace h := h.1 c24
        refine lv_aload_n (pc := 50) hx hb dX6_mixJobs_50 rfl (lv_at hl 0 rfl) ?_
        obtain ⟨hk4, h⟩ := h
        obtain ⟨j5, hj5, h⟩ := h
        refine gX6_10 (pc := 51) C hK hP hk4 hj5 dX6_mixJobs_51 ?_
        refine lv_iload (pc := 54) hx hb dX6_mixJobs_54 (lv_at hl 2 rfl) ?_
        obtain ⟨hk7, h⟩ := h
        refine m_callVR (pc := 56) (y := yX5_jobAt) (κ := 5) (As := [.int x5]) (rest := []) C hK hP hS hl.1 ⟨Nat.zero_le _, Nat.zero_le _⟩ (c_X5_jobAt h) rfl rfl hk7 (by decide) rfl q_443 q_363 q_364 q_2 q_365 ⟨rfl, rfl⟩ yd_X5_jobAt ⟨Nat.le_of_ble_eq_true rfl, Nat.le_of_ble_eq_true rfl⟩ (Nat.le_of_ble_eq_true rfl) dX6_mixJobs_56 (fun j8 M6 H locs h hP hS => ?_)
        obtain ⟨hk9, h⟩ := h
        refine gX6_340 (pc := 59) C hK hP hk9 dX6_mixJobs_59 ?_
        refine lv_topi (fun v10 ev10 => ?_)
        replace h := h v10 ev10
        refine lv_istore (lv' := [(6, .int v10), (0, .ref (b + x0)), (3, .long x3), (5, .int x5)]) (pc := 62) hx hb dX6_mixJobs_62 hl (by decide) rfl (fun ls hl => ?_)
        refine lv_aload_n (pc := 64) hx hb dX6_mixJobs_64 rfl (lv_at hl 1 rfl) ?_
        refine lv_iload (pc := 65) hx hb dX6_mixJobs_65 (lv_at hl 0 rfl) ?_
        refine m_callVI (pc := 67) (y := yX6_goneBehind) (κ := 6) (As := [.int v10]) (rest := []) C hK hP hS hl.1 ⟨Nat.zero_le _, Nat.zero_le _⟩ (c_X6_goneBehind h) rfl rfl hk4 (by decide) rfl q_444 q_446 q_s13 q_1 q_447 ⟨rfl, rfl⟩ yd_X6_goneBehind ⟨Nat.le_of_ble_eq_true rfl, Nat.le_of_ble_eq_true rfl⟩ (Nat.le_of_ble_eq_true rfl) dX6_mixJobs_67 (fun r12 M11 H locs h hP hS => ?_)
        refine lv_istore (lv' := [(7, .int r12), (6, .int v10), (0, .ref (b + x0)), (3, .long x3), (5, .int x5)]) (pc := 70) hx hb dX6_mixJobs_70 hl (by decide) rfl (fun ls hl => ?_)
        refine lv_lload_n (pc := 72) hx hb dX6_mixJobs_72 rfl (lv_at hl 3 rfl) ?_
        refine lv_iload (pc := 73) hx hb dX6_mixJobs_73 (lv_at hl 0 rfl) ?_
        refine lv_i2l (pc := 75) hx hb dX6_mixJobs_75 rfl ?_
        refine m_callSL (pc := 76) (y := yX6_mix) (As := [.long x3, .long ((r12).toInt64)]) (rest := []) C hK hP hS hl.1 ⟨Nat.zero_le _, Nat.zero_le _⟩ (c_X6_mix h) rfl rfl q_382 q_383 q_1 q_384 ⟨rfl, rfl⟩ yd_X6_mix ⟨Nat.le_of_ble_eq_true rfl, Nat.le_of_ble_eq_true rfl⟩ (Nat.le_of_ble_eq_true rfl) dX6_mixJobs_76 (fun r14 M13 H locs h hP hS => ?_)
        refine lv_lstore_n (lv' := [(3, .long r14), (7, .int r12), (6, .int v10), (0, .ref (b + x0)), (5, .int x5)]) (pc := 79) hx hb dX6_mixJobs_79 rfl hl (by decide) rfl (fun ls hl => ?_)
        refine lv_lload_n (pc := 80) hx hb dX6_mixJobs_80 rfl (lv_at hl 0 rfl) ?_
        refine lv_aload_n (pc := 81) hx hb dX6_mixJobs_81 rfl (lv_at hl 3 rfl) ?_
        refine lv_iload (pc := 82) hx hb dX6_mixJobs_82 (lv_at hl 2 rfl) ?_
        refine lv_iload (pc := 84) hx hb dX6_mixJobs_84 (lv_at hl 1 rfl) ?_
        refine m_callVI (pc := 86) (y := yX6_gainByHaste) (κ := 6) (As := [.int v10, .int r12]) (rest := [.long r14]) C hK hP hS hl.1 ⟨Nat.zero_le _, Nat.zero_le _⟩ (c_X6_gainByHaste h) rfl rfl hk4 (by decide) rfl q_542 q_544 q_s26 q_1 q_545 ⟨rfl, rfl⟩ yd_X6_gainByHaste ⟨Nat.le_of_ble_eq_true rfl, Nat.le_of_ble_eq_true rfl⟩ (Nat.le_of_ble_eq_true rfl) dX6_mixJobs_86 (fun r16 M15 H locs h hP hS => ?_)
        refine lv_i2l (pc := 89) hx hb dX6_mixJobs_89 rfl ?_
        refine m_callSL (pc := 90) (y := yX6_mix) (As := [.long r14, .long ((r16).toInt64)]) (rest := []) C hK hP hS hl.1 ⟨Nat.zero_le _, Nat.zero_le _⟩ (c_X6_mix h) rfl rfl q_382 q_383 q_1 q_384 ⟨rfl, rfl⟩ yd_X6_mix ⟨Nat.le_of_ble_eq_true rfl, Nat.le_of_ble_eq_true rfl⟩ (Nat.le_of_ble_eq_true rfl) dX6_mixJobs_90 (fun r18 M17 H locs h hP hS => ?_)
        refine lv_lstore_n (lv' := [(3, .long r18), (7, .int r12), (6, .int v10), (0, .ref (b + x0)), (5, .int x5)]) (pc := 93) hx hb dX6_mixJobs_93 rfl hl (by decide) rfl (fun ls hl => ?_)
        obtain ⟨v19, ev19⟩ : ∃ y : Int32, y = x5 + 1 := ⟨_, rfl⟩
        replace h := h v19 ev19
        refine lv_iinc (v := v19) (lv' := [(5, .int v19), (3, .long r18), (7, .int r12), (6, .int v10), (0, .ref (b + x0))]) (pc := 94) hx hb dX6_mixJobs_94 hl (k := 4) rfl (by rw [ev19]; rfl) (by decide) rfl (fun ls hl => ?_)
        refine lv_goto (tgt := 5) (pc := 97) hx hb dX6_mixJobs_97 (by decide) ?_
        exact hKk _ _ _ _ _ _ _ h hP hS (lv_sub hl [4, 1, 0] rfl)
      · replace h := h.2 c24
        refine lv_lload_n (pc := 27) hx hb dX6_mixJobs_27 rfl (lv_at hl 1 rfl) ?_
        refine lv_aload_n (pc := 28) hx hb dX6_mixJobs_28 rfl (lv_at hl 0 rfl) ?_
        obtain ⟨hk20, h⟩ := h
        obtain ⟨j21, hj21, h⟩ := h
        refine gX6_10 (pc := 29) C hK hP hk20 hj21 dX6_mixJobs_29 ?_
        refine lv_iload (pc := 32) hx hb dX6_mixJobs_32 (lv_at hl 2 rfl) ?_
        refine lv_iload (pc := 34) hx hb dX6_mixJobs_34 (lv_at hl 3 rfl) ?_
        obtain ⟨hk23, h⟩ := h
        refine m_callVI (pc := 36) (y := yX5_jobProperty) (κ := 5) (As := [.int x5, .int x6]) (rest := [.long x3]) C hK hP hS hl.1 ⟨Nat.zero_le _, Nat.zero_le _⟩ (c_X5_jobProperty h) rfl rfl hk23 (by decide) rfl q_427 q_428 q_429 q_2 q_430 ⟨rfl, rfl⟩ yd_X5_jobProperty ⟨Nat.le_of_ble_eq_true rfl, Nat.le_of_ble_eq_true rfl⟩ (Nat.le_of_ble_eq_true rfl) dX6_mixJobs_36 (fun r24 M22 H locs h hP hS => ?_)
        refine lv_i2l (pc := 39) hx hb dX6_mixJobs_39 rfl ?_
        refine m_callSL (pc := 40) (y := yX6_mix) (As := [.long x3, .long ((r24).toInt64)]) (rest := []) C hK hP hS hl.1 ⟨Nat.zero_le _, Nat.zero_le _⟩ (c_X6_mix h) rfl rfl q_382 q_383 q_1 q_384 ⟨rfl, rfl⟩ yd_X6_mix ⟨Nat.le_of_ble_eq_true rfl, Nat.le_of_ble_eq_true rfl⟩ (Nat.le_of_ble_eq_true rfl) dX6_mixJobs_40 (fun r26 M25 H locs h hP hS => ?_)
        refine lv_lstore_n (lv' := [(3, .long r26), (0, .ref (b + x0)), (5, .int x5), (6, .int x6)]) (pc := 43) hx hb dX6_mixJobs_43 rfl hl (by decide) rfl (fun ls hl => ?_)
        obtain ⟨v27, ev27⟩ : ∃ y : Int32, y = x6 + 1 := ⟨_, rfl⟩
        replace h := h v27 ev27
        refine lv_iinc (v := v27) (lv' := [(6, .int v27), (3, .long r26), (0, .ref (b + x0)), (5, .int x5)]) (pc := 44) hx hb dX6_mixJobs_44 hl (k := 3) rfl (by rw [ev27]; rfl) (by decide) rfl (fun ls hl => ?_)
        refine lv_goto (tgt := 20) (pc := 47) hx hb dX6_mixJobs_47 (by decide) ?_
        exact ih _ _ _ _ _ _ _ _ h hP hS (lv_sub hl [2, 1, 3, 0] rfl)
  have L5 : ∀ f : Nat, ∀ (M : Mem) (H : Heap) (locs : List Loc) (ls : Array Slot) (x0 : Nat) (x3 : Int64) (x5 : Int32), wpL_X6_mixJobs_5 n P f M x0 x3 x5 → m_H D cA b n M H → va_S (m_A b) s.heap H locs → lv_has ls 8 [(0, .ref (b + x0)), (3, .long x3), (5, .int x5)] → W p l e rm_X6_mixJobs s m ([.ref (b + i), .long p1] : List Value).toArray below meth c H locs 0 0 (MQ below (m_Q D cA b n (rL P)) ([.ref (b + i), .long p1] : List Value).toArray s 0 0 (m_A b)) (F0 m 5 ls []) := by
    clear h
    intro f
    induction f with
    | zero => intro M H locs ls x0 x3 x5 h; exact h.elim
    | succ f ih =>
      intro M H locs ls x0 x3 x5 h hP hS hl
      have h : wpB_X6_mixJobs_5 n P (wpL_X6_mixJobs_5 n P f) M x0 x3 x5 := h
      unfold wpB_X6_mixJobs_5 at h
      refine lv_iload (pc := 5) hx hb dX6_mixJobs_5 (lv_at hl 2 rfl) ?_
      refine lv_aload_n (pc := 7) hx hb dX6_mixJobs_7 rfl (lv_at hl 0 rfl) ?_
      obtain ⟨hk1, h⟩ := h
      obtain ⟨j2, hj2, h⟩ := h
      refine gX6_10 (pc := 8) C hK hP hk1 hj2 dX6_mixJobs_8 ?_
      obtain ⟨hk3, h⟩ := h
      refine gX6_113 (pc := 11) C hK hP hk3 dX6_mixJobs_11 ?_
      refine lv_icmp_ge (tgt := 100) (pc := 14) hx hb dX6_mixJobs_14 (by decide) (fun c14 => ?_) (fun c14 => ?_)
      · replace h := h.1 c14
        refine lv_lload_n (pc := 100) hx hb dX6_mixJobs_100 rfl (lv_at hl 1 rfl) ?_
        exact m_lret (v := x3) (pc := 101) C hr hlk hP hS dX6_mixJobs_101 h
      · replace h := h.2 c14
        refine lv_iconst (v := 0) (pc := 17) hx hb dX6_mixJobs_17 (by decide) ?_
        refine lv_istore (lv' := [(6, .int 0), (0, .ref (b + x0)), (3, .long x3), (5, .int x5)]) (pc := 18) hx hb dX6_mixJobs_18 hl (by decide) rfl (fun ls hl => ?_)
        obtain ⟨f, h⟩ := h
        exact L20 _ ih f _ _ _ _ _ _ _ _ h hP hS (lv_sub hl [1, 2, 3, 0] rfl)
  unfold wp_X6_mixJobs at h
  refine lv_lload_n (pc := 0) hx hb dX6_mixJobs_0 rfl (lv_at hl 1 rfl) ?_
  refine lv_lstore_n (lv' := [(3, .long p1), (0, .ref (b + i)), (1, .long p1)]) (pc := 1) hx hb dX6_mixJobs_1 rfl hl (by decide) rfl (fun ls hl => ?_)
  refine lv_iconst (v := 0) (pc := 2) hx hb dX6_mixJobs_2 (by decide) ?_
  refine lv_istore (lv' := [(5, .int 0), (3, .long p1), (0, .ref (b + i)), (1, .long p1)]) (pc := 3) hx hb dX6_mixJobs_3 hl (by decide) rfl (fun ls hl => ?_)
  obtain ⟨f, h⟩ := h
  exact L5 f _ _ _ _ _ _ _ h hP hS (lv_sub hl [2, 1, 0] rfl)
/-! ForgeHeats.digest ()J -/
def wpB_X6_digest_110 (n : Nat) (P : Int64 → Mem → Prop) (R_ : Mem → Nat → Int64 → Int32 → Prop) (M : Mem) (x0 : Nat) (x1 : Int64) (x3 : Int32) : Prop := m_tp n x0 6 ∧ (∃ j24 : Nat, M.2.1 x0 4 = some j24 ∧ (m_tp n j24 4 ∧ ((((M.1 j24 1) ≤ x3 → P x1 M) ∧ (¬ (M.1 j24 1) ≤ x3 → ∃ j26 : Nat, M.2.1 x0 4 = some j26 ∧ (m_tp n j26 4 ∧ (wp_X4_codeAt n M j26 x3 (fun r29 M27 => wp_X6_mix n M27 x1 ((r29).toInt64) (fun r31 M30 => ∀ v32 : Int32, v32 = x3 + 1 → (R_ M30 x0 r31 v32))))))))))
def wpL_X6_digest_110 (n : Nat) (P : Int64 → Mem → Prop) : Nat → Mem → Nat → Int64 → Int32 → Prop
  | 0 => fun _ _ _ _ => False
  | f + 1 => fun M x0 x1 x3 => wpB_X6_digest_110 n P (wpL_X6_digest_110 n P f) M x0 x1 x3
def wpB_X6_digest_49 (n : Nat) (P : Int64 → Mem → Prop) (R_ : Mem → Nat → Int64 → Int32 → Prop) (M : Mem) (x0 : Nat) (x1 : Int64) (x3 : Int32) : Prop := ((5 ≤ x3 → m_tp n x0 6 ∧ (wp_X6_bestNumberOfReheats n M x0 40 (fun r10 M8 => wp_X6_mix n M8 x1 ((r10).toInt64) (fun r12 M11 => wp_X6_shareMade n M11 x0 (fun r14 M13 => wp_X6_bitsOf n M13 r14 (fun r16 M15 => wp_X6_mix n M15 r12 r16 (fun r18 M17 => ∃ j19 : Nat, M17.2.1 x0 4 = some j19 ∧ (m_tp n j19 4 ∧ (wp_X6_mix n M17 r18 ((M17.1 j19 1).toInt64) (fun r22 M21 => ∃ f : Nat, wpL_X6_digest_110 n P f M21 x0 r22 0)))))))))) ∧ (¬ 5 ≤ x3 → m_tp n x0 6 ∧ (wp_X6_foreseen n M x0 x3 (fun r35 M33 => wp_X6_mix n M33 x1 ((r35).toInt64) (fun r37 M36 => ∀ v38 : Int32, v38 = x3 + 1 → (R_ M36 x0 r37 v38))))))
def wpL_X6_digest_49 (n : Nat) (P : Int64 → Mem → Prop) : Nat → Mem → Nat → Int64 → Int32 → Prop
  | 0 => fun _ _ _ _ => False
  | f + 1 => fun M x0 x1 x3 => wpB_X6_digest_49 n P (wpL_X6_digest_49 n P f) M x0 x1 x3
def wpB_X6_digest_6 (n : Nat) (P : Int64 → Mem → Prop) (R_ : Mem → Nat → Int64 → Int32 → Prop) (M : Mem) (x0 : Nat) (x1 : Int64) (x3 : Int32) : Prop := ((12 ≤ x3 → m_tp n x0 6 ∧ (wp_X6_mixEquipment n M x0 x1 (fun r3 M1 => wp_X6_mixJobs n M1 x0 r3 (fun r5 M4 => wp_X6_foresee n M4 x0 30 (fun M6 => ∃ f : Nat, wpL_X6_digest_49 n P f M6 x0 r5 0))))) ∧ (¬ 12 ≤ x3 → m_tp n x0 6 ∧ (wp_X6_numberOf n M x0 x3 (fun r41 M39 => wp_X6_mix n M39 x1 ((r41).toInt64) (fun r43 M42 => ∀ v44 : Int32, v44 = x3 + 1 → (R_ M42 x0 r43 v44))))))
def wpL_X6_digest_6 (n : Nat) (P : Int64 → Mem → Prop) : Nat → Mem → Nat → Int64 → Int32 → Prop
  | 0 => fun _ _ _ _ => False
  | f + 1 => fun M x0 x1 x3 => wpB_X6_digest_6 n P (wpL_X6_digest_6 n P f) M x0 x1 x3
def wp_X6_digest (n : Nat) (M : Mem) (i : Nat) (P : Int64 → Mem → Prop) : Prop := ∃ f : Nat, wpL_X6_digest_6 n P f M i 2857 0
abbrev rm_X6_digest : Room := { frames := 7, cells := 0, slots := 0, locals := 165 }
set_option maxHeartbeats 4000000 in
set_option maxRecDepth 100000 in
theorem c_X6_digest {l : Launch} {D : va_G} {cA : Nat → ClassId} {b n : Nat} {M : Mem} {i : Nat} {P : Int64 → Mem → Prop} (h : wp_X6_digest n M i P) : m_C l D cA b n n M yX6_digest cX6_digest 4 (some .long) rm_X6_digest 0 0 [.ref (b + i)] (rL P) := by
  refine m_enter (by decide) (Nat.le_of_ble_eq_true rfl) (fun p e s m below meth c C hr hlk hnm hK hP hS ls hl => ?_)
  have hx := C.1
  have hb := C.2.1
  have hl : lv_has ls 4 [(0, .ref (b + i))] := hl
  have L110 : ∀ f : Nat, ∀ (M : Mem) (H : Heap) (locs : List Loc) (ls : Array Slot) (x0 : Nat) (x1 : Int64) (x3 : Int32), wpL_X6_digest_110 n P f M x0 x1 x3 → m_H D cA b n M H → va_S (m_A b) s.heap H locs → lv_has ls 4 [(0, .ref (b + x0)), (1, .long x1), (3, .int x3)] → W p l e rm_X6_digest s m ([.ref (b + i)] : List Value).toArray below meth c H locs 0 0 (MQ below (m_Q D cA b n (rL P)) ([.ref (b + i)] : List Value).toArray s 0 0 (m_A b)) (F0 m 110 ls []) := by
    clear h
    intro f
    induction f with
    | zero => intro M H locs ls x0 x1 x3 h; exact h.elim
    | succ f ih =>
      intro M H locs ls x0 x1 x3 h hP hS hl
      have h : wpB_X6_digest_110 n P (wpL_X6_digest_110 n P f) M x0 x1 x3 := h
      unfold wpB_X6_digest_110 at h
      refine lv_iload_n (pc := 110) hx hb dX6_digest_110 rfl (lv_at hl 2 rfl) ?_
      refine lv_aload_n (pc := 111) hx hb dX6_digest_111 rfl (lv_at hl 0 rfl) ?_
      obtain ⟨hk23, h⟩ := h
      obtain ⟨j24, hj24, h⟩ := h
      refine gX6_26 (pc := 112) C hK hP hk23 hj24 dX6_digest_112 ?_
      obtain ⟨hk25, h⟩ := h
      refine gX6_291 (pc := 115) C hK hP hk25 dX6_digest_115 ?_
      refine lv_icmp_ge (tgt := 141) (pc := 118) hx hb dX6_digest_118 (by decide) (fun c118 => ?_) (fun c118 => ?_)
      · replace h := h.1 c118
        refine lv_lload_n (pc := 141) hx hb dX6_digest_141 rfl (lv_at hl 1 rfl) ?_
        exact m_lret (v := x1) (pc := 142) C hr hlk hP hS dX6_digest_142 h
      · replace h := h.2 c118
        refine lv_lload_n (pc := 121) hx hb dX6_digest_121 rfl (lv_at hl 1 rfl) ?_
        refine lv_aload_n (pc := 122) hx hb dX6_digest_122 rfl (lv_at hl 0 rfl) ?_
        obtain ⟨j26, hj26, h⟩ := h
        refine gX6_26 (pc := 123) C hK hP hk23 hj26 dX6_digest_123 ?_
        refine lv_iload_n (pc := 126) hx hb dX6_digest_126 rfl (lv_at hl 2 rfl) ?_
        obtain ⟨hk28, h⟩ := h
        refine m_callVI (pc := 127) (y := yX4_codeAt) (κ := 4) (As := [.int x3]) (rest := [.long x1]) C hK hP hS hl.1 ⟨Nat.zero_le _, Nat.zero_le _⟩ (c_X4_codeAt h) rfl rfl hk28 (by decide) rfl q_581 q_306 q_307 q_7 q_308 ⟨rfl, rfl⟩ yd_X4_codeAt ⟨Nat.le_of_ble_eq_true rfl, Nat.le_of_ble_eq_true rfl⟩ (Nat.le_of_ble_eq_true rfl) dX6_digest_127 (fun r29 M27 H locs h hP hS => ?_)
        refine lv_i2l (pc := 130) hx hb dX6_digest_130 rfl ?_
        refine m_callSL (pc := 131) (y := yX6_mix) (As := [.long x1, .long ((r29).toInt64)]) (rest := []) C hK hP hS hl.1 ⟨Nat.zero_le _, Nat.zero_le _⟩ (c_X6_mix h) rfl rfl q_382 q_383 q_1 q_384 ⟨rfl, rfl⟩ yd_X6_mix ⟨Nat.le_of_ble_eq_true rfl, Nat.le_of_ble_eq_true rfl⟩ (Nat.le_of_ble_eq_true rfl) dX6_digest_131 (fun r31 M30 H locs h hP hS => ?_)
        refine lv_lstore_n (lv' := [(1, .long r31), (0, .ref (b + x0)), (3, .int x3)]) (pc := 134) hx hb dX6_digest_134 rfl hl (by decide) rfl (fun ls hl => ?_)
        obtain ⟨v32, ev32⟩ : ∃ y : Int32, y = x3 + 1 := ⟨_, rfl⟩
        replace h := h v32 ev32
        refine lv_iinc (v := v32) (lv' := [(3, .int v32), (1, .long r31), (0, .ref (b + x0))]) (pc := 135) hx hb dX6_digest_135 hl (k := 2) rfl (by rw [ev32]; rfl) (by decide) rfl (fun ls hl => ?_)
        refine lv_goto (tgt := 110) (pc := 138) hx hb dX6_digest_138 (by decide) ?_
        exact ih _ _ _ _ _ _ _ h hP hS (lv_sub hl [2, 1, 0] rfl)
  have L49 : ∀ f : Nat, ∀ (M : Mem) (H : Heap) (locs : List Loc) (ls : Array Slot) (x0 : Nat) (x1 : Int64) (x3 : Int32), wpL_X6_digest_49 n P f M x0 x1 x3 → m_H D cA b n M H → va_S (m_A b) s.heap H locs → lv_has ls 4 [(0, .ref (b + x0)), (1, .long x1), (3, .int x3)] → W p l e rm_X6_digest s m ([.ref (b + i)] : List Value).toArray below meth c H locs 0 0 (MQ below (m_Q D cA b n (rL P)) ([.ref (b + i)] : List Value).toArray s 0 0 (m_A b)) (F0 m 49 ls []) := by
    clear h
    intro f
    induction f with
    | zero => intro M H locs ls x0 x1 x3 h; exact h.elim
    | succ f ih =>
      intro M H locs ls x0 x1 x3 h hP hS hl
      have h : wpB_X6_digest_49 n P (wpL_X6_digest_49 n P f) M x0 x1 x3 := h
      unfold wpB_X6_digest_49 at h
      refine lv_iload_n (pc := 49) hx hb dX6_digest_49 rfl (lv_at hl 2 rfl) ?_
      refine lv_iconst (v := 5) (pc := 50) hx hb dX6_digest_50 (by decide) ?_
      refine lv_icmp_ge (tgt := 71) (pc := 51) hx hb dX6_digest_51 (by decide) (fun c51 => ?_) (fun c51 => ?_)
      · replace h := h.1 c51
        refine lv_lload_n (pc := 71) hx hb dX6_digest_71 rfl (lv_at hl 1 rfl) ?_
        refine lv_aload_n (pc := 72) hx hb dX6_digest_72 rfl (lv_at hl 0 rfl) ?_
        refine lv_bipush (v := 40) (pc := 73) hx hb dX6_digest_73 (by decide) ?_
        obtain ⟨hk9, h⟩ := h
        refine m_callVI (pc := 75) (y := yX6_bestNumberOfReheats) (κ := 6) (As := [.int 40]) (rest := [.long x1]) C hK hP hS hl.1 ⟨Nat.zero_le _, Nat.zero_le _⟩ (c_X6_bestNumberOfReheats h) rfl rfl hk9 (by decide) rfl q_571 q_573 q_s30 q_1 q_574 ⟨rfl, rfl⟩ yd_X6_bestNumberOfReheats ⟨Nat.le_of_ble_eq_true rfl, Nat.le_of_ble_eq_true rfl⟩ (Nat.le_of_ble_eq_true rfl) dX6_digest_75 (fun r10 M8 H locs h hP hS => ?_)
        refine lv_i2l (pc := 78) hx hb dX6_digest_78 rfl ?_
        refine m_callSL (pc := 79) (y := yX6_mix) (As := [.long x1, .long ((r10).toInt64)]) (rest := []) C hK hP hS hl.1 ⟨Nat.zero_le _, Nat.zero_le _⟩ (c_X6_mix h) rfl rfl q_382 q_383 q_1 q_384 ⟨rfl, rfl⟩ yd_X6_mix ⟨Nat.le_of_ble_eq_true rfl, Nat.le_of_ble_eq_true rfl⟩ (Nat.le_of_ble_eq_true rfl) dX6_digest_79 (fun r12 M11 H locs h hP hS => ?_)
        refine lv_lstore_n (lv' := [(1, .long r12), (0, .ref (b + x0)), (3, .int x3)]) (pc := 82) hx hb dX6_digest_82 rfl hl (by decide) rfl (fun ls hl => ?_)
        refine lv_lload_n (pc := 83) hx hb dX6_digest_83 rfl (lv_at hl 0 rfl) ?_
        refine lv_aload_n (pc := 84) hx hb dX6_digest_84 rfl (lv_at hl 1 rfl) ?_
        refine m_callVD (pc := 85) (y := yX6_shareMade) (κ := 6) (As := []) (rest := [.long r12]) C hK hP hS hl.1 ⟨Nat.zero_le _, Nat.zero_le _⟩ (c_X6_shareMade h) rfl rfl hk9 (by decide) rfl q_333 q_335 q_s5 q_1 q_336 ⟨rfl, rfl⟩ yd_X6_shareMade ⟨Nat.le_of_ble_eq_true rfl, Nat.le_of_ble_eq_true rfl⟩ (Nat.le_of_ble_eq_true rfl) dX6_digest_85 (fun r14 M13 H locs h hP hS => ?_)
        refine m_callSL (pc := 88) (y := yX6_bitsOf) (As := [.double r14]) (rest := [.long r12]) C hK hP hS hl.1 ⟨Nat.zero_le _, Nat.zero_le _⟩ (c_X6_bitsOf h) rfl rfl q_575 q_576 q_1 q_577 ⟨rfl, rfl⟩ yd_X6_bitsOf ⟨Nat.le_of_ble_eq_true rfl, Nat.le_of_ble_eq_true rfl⟩ (Nat.le_of_ble_eq_true rfl) dX6_digest_88 (fun r16 M15 H locs h hP hS => ?_)
        refine m_callSL (pc := 91) (y := yX6_mix) (As := [.long r12, .long r16]) (rest := []) C hK hP hS hl.1 ⟨Nat.zero_le _, Nat.zero_le _⟩ (c_X6_mix h) rfl rfl q_382 q_383 q_1 q_384 ⟨rfl, rfl⟩ yd_X6_mix ⟨Nat.le_of_ble_eq_true rfl, Nat.le_of_ble_eq_true rfl⟩ (Nat.le_of_ble_eq_true rfl) dX6_digest_91 (fun r18 M17 H locs h hP hS => ?_)
        refine lv_lstore_n (lv' := [(1, .long r18), (0, .ref (b + x0)), (3, .int x3)]) (pc := 94) hx hb dX6_digest_94 rfl hl (by decide) rfl (fun ls hl => ?_)
        refine lv_lload_n (pc := 95) hx hb dX6_digest_95 rfl (lv_at hl 0 rfl) ?_
        refine lv_aload_n (pc := 96) hx hb dX6_digest_96 rfl (lv_at hl 1 rfl) ?_
        obtain ⟨j19, hj19, h⟩ := h
        refine gX6_26 (pc := 97) C hK hP hk9 hj19 dX6_digest_97 ?_
        obtain ⟨hk20, h⟩ := h
        refine gX6_291 (pc := 100) C hK hP hk20 dX6_digest_100 ?_
        refine lv_i2l (pc := 103) hx hb dX6_digest_103 rfl ?_
        refine m_callSL (pc := 104) (y := yX6_mix) (As := [.long r18, .long ((M17.1 j19 1).toInt64)]) (rest := []) C hK hP hS hl.1 ⟨Nat.zero_le _, Nat.zero_le _⟩ (c_X6_mix h) rfl rfl q_382 q_383 q_1 q_384 ⟨rfl, rfl⟩ yd_X6_mix ⟨Nat.le_of_ble_eq_true rfl, Nat.le_of_ble_eq_true rfl⟩ (Nat.le_of_ble_eq_true rfl) dX6_digest_104 (fun r22 M21 H locs h hP hS => ?_)
        refine lv_lstore_n (lv' := [(1, .long r22), (0, .ref (b + x0)), (3, .int x3)]) (pc := 107) hx hb dX6_digest_107 rfl hl (by decide) rfl (fun ls hl => ?_)
        refine lv_iconst (v := 0) (pc := 108) hx hb dX6_digest_108 (by decide) ?_
        refine lv_istore_n (lv' := [(3, .int 0), (1, .long r22), (0, .ref (b + x0))]) (pc := 109) hx hb dX6_digest_109 rfl hl (by decide) rfl (fun ls hl => ?_)
        obtain ⟨f, h⟩ := h
        exact L110 f _ _ _ _ _ _ _ h hP hS (lv_sub hl [2, 1, 0] rfl)
      · replace h := h.2 c51
        refine lv_lload_n (pc := 54) hx hb dX6_digest_54 rfl (lv_at hl 1 rfl) ?_
        refine lv_aload_n (pc := 55) hx hb dX6_digest_55 rfl (lv_at hl 0 rfl) ?_
        refine lv_iload_n (pc := 56) hx hb dX6_digest_56 rfl (lv_at hl 2 rfl) ?_
        obtain ⟨hk34, h⟩ := h
        refine m_callVI (pc := 57) (y := yX6_foreseen) (κ := 6) (As := [.int x3]) (rest := [.long x1]) C hK hP hS hl.1 ⟨Nat.zero_le _, Nat.zero_le _⟩ (c_X6_foreseen h) rfl rfl hk34 (by decide) rfl q_567 q_569 q_s29 q_1 q_570 ⟨rfl, rfl⟩ yd_X6_foreseen ⟨Nat.le_of_ble_eq_true rfl, Nat.le_of_ble_eq_true rfl⟩ (Nat.le_of_ble_eq_true rfl) dX6_digest_57 (fun r35 M33 H locs h hP hS => ?_)
        refine lv_i2l (pc := 60) hx hb dX6_digest_60 rfl ?_
        refine m_callSL (pc := 61) (y := yX6_mix) (As := [.long x1, .long ((r35).toInt64)]) (rest := []) C hK hP hS hl.1 ⟨Nat.zero_le _, Nat.zero_le _⟩ (c_X6_mix h) rfl rfl q_382 q_383 q_1 q_384 ⟨rfl, rfl⟩ yd_X6_mix ⟨Nat.le_of_ble_eq_true rfl, Nat.le_of_ble_eq_true rfl⟩ (Nat.le_of_ble_eq_true rfl) dX6_digest_61 (fun r37 M36 H locs h hP hS => ?_)
        refine lv_lstore_n (lv' := [(1, .long r37), (0, .ref (b + x0)), (3, .int x3)]) (pc := 64) hx hb dX6_digest_64 rfl hl (by decide) rfl (fun ls hl => ?_)
        obtain ⟨v38, ev38⟩ : ∃ y : Int32, y = x3 + 1 := ⟨_, rfl⟩
        replace h := h v38 ev38
        refine lv_iinc (v := v38) (lv' := [(3, .int v38), (1, .long r37), (0, .ref (b + x0))]) (pc := 65) hx hb dX6_digest_65 hl (k := 2) rfl (by rw [ev38]; rfl) (by decide) rfl (fun ls hl => ?_)
        refine lv_goto (tgt := 49) (pc := 68) hx hb dX6_digest_68 (by decide) ?_
        exact ih _ _ _ _ _ _ _ h hP hS (lv_sub hl [2, 1, 0] rfl)
  have L6 : ∀ f : Nat, ∀ (M : Mem) (H : Heap) (locs : List Loc) (ls : Array Slot) (x0 : Nat) (x1 : Int64) (x3 : Int32), wpL_X6_digest_6 n P f M x0 x1 x3 → m_H D cA b n M H → va_S (m_A b) s.heap H locs → lv_has ls 4 [(0, .ref (b + x0)), (1, .long x1), (3, .int x3)] → W p l e rm_X6_digest s m ([.ref (b + i)] : List Value).toArray below meth c H locs 0 0 (MQ below (m_Q D cA b n (rL P)) ([.ref (b + i)] : List Value).toArray s 0 0 (m_A b)) (F0 m 6 ls []) := by
    clear h
    intro f
    induction f with
    | zero => intro M H locs ls x0 x1 x3 h; exact h.elim
    | succ f ih =>
      intro M H locs ls x0 x1 x3 h hP hS hl
      have h : wpB_X6_digest_6 n P (wpL_X6_digest_6 n P f) M x0 x1 x3 := h
      unfold wpB_X6_digest_6 at h
      refine lv_iload_n (pc := 6) hx hb dX6_digest_6 rfl (lv_at hl 2 rfl) ?_
      refine lv_bipush (v := 12) (pc := 7) hx hb dX6_digest_7 (by decide) ?_
      refine lv_icmp_ge (tgt := 29) (pc := 9) hx hb dX6_digest_9 (by decide) (fun c9 => ?_) (fun c9 => ?_)
      · replace h := h.1 c9
        refine lv_aload_n (pc := 29) hx hb dX6_digest_29 rfl (lv_at hl 0 rfl) ?_
        refine lv_lload_n (pc := 30) hx hb dX6_digest_30 rfl (lv_at hl 1 rfl) ?_
        obtain ⟨hk2, h⟩ := h
        refine m_callVL (pc := 31) (y := yX6_mixEquipment) (κ := 6) (As := [.long x1]) (rest := []) C hK hP hS hl.1 ⟨Nat.zero_le _, Nat.zero_le _⟩ (c_X6_mixEquipment h) rfl rfl hk2 (by decide) rfl q_386 q_388 q_s7 q_1 q_389 ⟨rfl, rfl⟩ yd_X6_mixEquipment ⟨Nat.le_of_ble_eq_true rfl, Nat.le_of_ble_eq_true rfl⟩ (Nat.le_of_ble_eq_true rfl) dX6_digest_31 (fun r3 M1 H locs h hP hS => ?_)
        refine lv_lstore_n (lv' := [(1, .long r3), (0, .ref (b + x0)), (3, .int x3)]) (pc := 34) hx hb dX6_digest_34 rfl hl (by decide) rfl (fun ls hl => ?_)
        refine lv_aload_n (pc := 35) hx hb dX6_digest_35 rfl (lv_at hl 1 rfl) ?_
        refine lv_lload_n (pc := 36) hx hb dX6_digest_36 rfl (lv_at hl 0 rfl) ?_
        refine m_callVL (pc := 37) (y := yX6_mixJobs) (κ := 6) (As := [.long r3]) (rest := []) C hK hP hS hl.1 ⟨Nat.zero_le _, Nat.zero_le _⟩ (c_X6_mixJobs h) rfl rfl hk2 (by decide) rfl q_423 q_425 q_s10 q_1 q_426 ⟨rfl, rfl⟩ yd_X6_mixJobs ⟨Nat.le_of_ble_eq_true rfl, Nat.le_of_ble_eq_true rfl⟩ (Nat.le_of_ble_eq_true rfl) dX6_digest_37 (fun r5 M4 H locs h hP hS => ?_)
        refine lv_lstore_n (lv' := [(1, .long r5), (0, .ref (b + x0)), (3, .int x3)]) (pc := 40) hx hb dX6_digest_40 rfl hl (by decide) rfl (fun ls hl => ?_)
        refine lv_aload_n (pc := 41) hx hb dX6_digest_41 rfl (lv_at hl 1 rfl) ?_
        refine lv_bipush (v := 30) (pc := 42) hx hb dX6_digest_42 (by decide) ?_
        refine m_callVV (pc := 44) (y := yX6_foresee) (κ := 6) (As := [.int 30]) (rest := []) C hK hP hS hl.1 ⟨Nat.zero_le _, Nat.zero_le _⟩ (c_X6_foresee h) rfl rfl hk2 (by decide) rfl q_558 q_560 q_s28 q_1 q_561 ⟨rfl, rfl⟩ yd_X6_foresee ⟨Nat.le_of_ble_eq_true rfl, Nat.le_of_ble_eq_true rfl⟩ (Nat.le_of_ble_eq_true rfl) dX6_digest_44 (fun M6 H locs h hP hS => ?_)
        refine lv_iconst (v := 0) (pc := 47) hx hb dX6_digest_47 (by decide) ?_
        refine lv_istore_n (lv' := [(3, .int 0), (1, .long r5), (0, .ref (b + x0))]) (pc := 48) hx hb dX6_digest_48 rfl hl (by decide) rfl (fun ls hl => ?_)
        obtain ⟨f, h⟩ := h
        exact L49 f _ _ _ _ _ _ _ h hP hS (lv_sub hl [2, 1, 0] rfl)
      · replace h := h.2 c9
        refine lv_lload_n (pc := 12) hx hb dX6_digest_12 rfl (lv_at hl 1 rfl) ?_
        refine lv_aload_n (pc := 13) hx hb dX6_digest_13 rfl (lv_at hl 0 rfl) ?_
        refine lv_iload_n (pc := 14) hx hb dX6_digest_14 rfl (lv_at hl 2 rfl) ?_
        obtain ⟨hk40, h⟩ := h
        refine m_callVI (pc := 15) (y := yX6_numberOf) (κ := 6) (As := [.int x3]) (rest := [.long x1]) C hK hP hS hl.1 ⟨Nat.zero_le _, Nat.zero_le _⟩ (c_X6_numberOf h) rfl rfl hk40 (by decide) rfl q_354 q_356 q_s6 q_1 q_357 ⟨rfl, rfl⟩ yd_X6_numberOf ⟨Nat.le_of_ble_eq_true rfl, Nat.le_of_ble_eq_true rfl⟩ (Nat.le_of_ble_eq_true rfl) dX6_digest_15 (fun r41 M39 H locs h hP hS => ?_)
        refine lv_i2l (pc := 18) hx hb dX6_digest_18 rfl ?_
        refine m_callSL (pc := 19) (y := yX6_mix) (As := [.long x1, .long ((r41).toInt64)]) (rest := []) C hK hP hS hl.1 ⟨Nat.zero_le _, Nat.zero_le _⟩ (c_X6_mix h) rfl rfl q_382 q_383 q_1 q_384 ⟨rfl, rfl⟩ yd_X6_mix ⟨Nat.le_of_ble_eq_true rfl, Nat.le_of_ble_eq_true rfl⟩ (Nat.le_of_ble_eq_true rfl) dX6_digest_19 (fun r43 M42 H locs h hP hS => ?_)
        refine lv_lstore_n (lv' := [(1, .long r43), (0, .ref (b + x0)), (3, .int x3)]) (pc := 22) hx hb dX6_digest_22 rfl hl (by decide) rfl (fun ls hl => ?_)
        obtain ⟨v44, ev44⟩ : ∃ y : Int32, y = x3 + 1 := ⟨_, rfl⟩
        replace h := h v44 ev44
        refine lv_iinc (v := v44) (lv' := [(3, .int v44), (1, .long r43), (0, .ref (b + x0))]) (pc := 23) hx hb dX6_digest_23 hl (k := 2) rfl (by rw [ev44]; rfl) (by decide) rfl (fun ls hl => ?_)
        refine lv_goto (tgt := 6) (pc := 26) hx hb dX6_digest_26 (by decide) ?_
        exact ih _ _ _ _ _ _ _ h hP hS (lv_sub hl [2, 1, 0] rfl)
  unfold wp_X6_digest at h
  refine lv_ldc2 (pc := 0) (v := 2857) hx hb C.2.2.2.1 (C.2.2.2.2 _ q_353) dX6_digest_0 ?_
  refine lv_lstore_n (lv' := [(1, .long 2857), (0, .ref (b + i))]) (pc := 3) hx hb dX6_digest_3 rfl hl (by decide) rfl (fun ls hl => ?_)
  refine lv_iconst (v := 0) (pc := 4) hx hb dX6_digest_4 (by decide) ?_
  refine lv_istore_n (lv' := [(3, .int 0), (1, .long 2857), (0, .ref (b + i))]) (pc := 5) hx hb dX6_digest_5 rfl hl (by decide) rfl (fun ls hl => ?_)
  obtain ⟨f, h⟩ := h
  exact L6 f _ _ _ _ _ _ _ h hP hS (lv_sub hl [2, 1, 0] rfl)
