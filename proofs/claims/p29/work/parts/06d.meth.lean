/-! ForgeHeats.isWithin (III)Z -/
def wp_X6_isWithin (n : Nat) (M : Mem) (p1 : Int32) (p2 : Int32) (p3 : Int32) (P : Bool → Mem → Prop) : Prop := P (if p1 < p2 then false else (if p3 < p1 then false else true)) M
abbrev rm_X6_isWithin : Room := { frames := 0, cells := 0, slots := 0, locals := 0 }
set_option maxHeartbeats 4000000 in
set_option maxRecDepth 100000 in
theorem c_X6_isWithin {l : Launch} {D : va_G} {cA : Nat → ClassId} {b n : Nat} {M : Mem} {p1 : Int32} {p2 : Int32} {p3 : Int32} {P : Bool → Mem → Prop} (h : wp_X6_isWithin n M p1 p2 p3 P) : m_C l D cA b n n M yX6_isWithin cX6_isWithin 3 (some .boolean) rm_X6_isWithin 0 0 [.int p1, .int p2, .int p3] (rZ P) := by
  refine m_enter (by decide) (Nat.le_of_ble_eq_true rfl) (fun p e s m below meth c C hr hlk hnm hK hP hS ls hl => ?_)
  have hx := C.1
  have hb := C.2.1
  have hl : lv_has ls 3 [(0, .int p1), (1, .int p2), (2, .int p3)] := hl
  unfold wp_X6_isWithin at h
  refine lv_iload_n (pc := 0) hx hb dX6_isWithin_0 rfl (lv_at hl 0 rfl) ?_
  refine lv_iload_n (pc := 1) hx hb dX6_isWithin_1 rfl (lv_at hl 1 rfl) ?_
  refine m_joinZ (z := if p1 < p2 then false else (if p3 < p1 then false else true)) (jp := 15) (rest := []) ?_ (fun hJ => ?_)
  rotate_left
  · skip
    refine lv_icmp_lt (tgt := 14) (pc := 2) hx hb dX6_isWithin_2 (by decide) (fun c2 => ?_) (fun c2 => ?_)
    · skip
      refine lv_iconst (v := 0) (pc := 14) hx hb dX6_isWithin_14 (by decide) ?_
      exact hJ _ false rfl (by rw [if_pos c2])
    · skip
      refine lv_iload_n (pc := 5) hx hb dX6_isWithin_5 rfl (lv_at hl 0 rfl) ?_
      refine lv_iload_n (pc := 6) hx hb dX6_isWithin_6 rfl (lv_at hl 2 rfl) ?_
      refine lv_icmp_gt (tgt := 14) (pc := 7) hx hb dX6_isWithin_7 (by decide) (fun c7 => ?_) (fun c7 => ?_)
      · skip
        refine lv_iconst (v := 0) (pc := 14) hx hb dX6_isWithin_14 (by decide) ?_
        exact hJ _ false rfl (by rw [if_neg c2, if_pos c7])
      · skip
        refine lv_iconst (v := 1) (pc := 10) hx hb dX6_isWithin_10 (by decide) ?_
        refine lv_goto (tgt := 15) (pc := 11) hx hb dX6_isWithin_11 (by decide) ?_
        exact hJ _ true rfl (by rw [if_neg c2, if_neg c7])
  exact m_zret (v := if p1 < p2 then false else (if p3 < p1 then false else true)) (pc := 15) C hr hlk hP hS dX6_isWithin_15 h
/-! ForgeHeats.leastValue (I)I -/
def wp_X6_leastValue (n : Nat) (M : Mem) (p1 : Int32) (P : Int32 → Mem → Prop) : Prop := ((p1 = 0 → P 10 M) ∧ (¬ p1 = 0 → ((p1 = 2 → P 0 M) ∧ (¬ p1 = 2 → P 1 M))))
abbrev rm_X6_leastValue : Room := { frames := 0, cells := 0, slots := 0, locals := 0 }
set_option maxHeartbeats 4000000 in
set_option maxRecDepth 100000 in
theorem c_X6_leastValue {l : Launch} {D : va_G} {cA : Nat → ClassId} {b n : Nat} {M : Mem} {p1 : Int32} {P : Int32 → Mem → Prop} (h : wp_X6_leastValue n M p1 P) : m_C l D cA b n n M yX6_leastValue cX6_leastValue 1 (some .int) rm_X6_leastValue 0 0 [.int p1] (rI P) := by
  refine m_enter (by decide) (Nat.le_of_ble_eq_true rfl) (fun p e s m below meth c C hr hlk hnm hK hP hS ls hl => ?_)
  have hx := C.1
  have hb := C.2.1
  have hl : lv_has ls 1 [(0, .int p1)] := hl
  unfold wp_X6_leastValue at h
  refine lv_iload_n (pc := 0) hx hb dX6_leastValue_0 rfl (lv_at hl 0 rfl) ?_
  by_cases n1_0 : p1 = 0
  · replace h := h.1 n1_0
    refine m_lcase (v := 0) (tgt := 28) (pc := 1) (off := 27) hx hb n1_0 dX6_leastValue_1 (by decide) (by decide) (by decide) ?_
    refine lv_bipush (v := 10) (pc := 28) hx hb dX6_leastValue_28 (by decide) ?_
    exact m_iret (v := 10) (pc := 30) C hr hlk hP hS dX6_leastValue_30 h
  · replace h := h.2 n1_0
    by_cases n1_1 : p1 = 2
    · replace h := h.1 n1_1
      refine m_lcase (v := 2) (tgt := 31) (pc := 1) (off := 30) hx hb n1_1 dX6_leastValue_1 (by decide) (by decide) (by decide) ?_
      refine lv_iconst (v := 0) (pc := 31) hx hb dX6_leastValue_31 (by decide) ?_
      exact m_iret (v := 0) (pc := 32) C hr hlk hP hS dX6_leastValue_32 h
    · replace h := h.2 n1_1
      refine lv_lookup (off := 32) (tgt := 33) (pc := 1) hx hb dX6_leastValue_1 (by decide) (by have i0 := i_ne n1_0; have i1 := i_ne n1_1; simp only [m_lit] at *; simp [Op.lookupswitch.offset, Ne.symm i0, Ne.symm i1]) (by decide) ?_
      refine lv_iconst (v := 1) (pc := 33) hx hb dX6_leastValue_33 (by decide) ?_
      exact m_iret (v := 1) (pc := 34) C hr hlk hP hS dX6_leastValue_34 h
/-! ForgeHeats.mostValue (I)I -/
def wp_X6_mostValue (n : Nat) (M : Mem) (p1 : Int32) (P : Int32 → Mem → Prop) : Prop := ((p1 = 0 → P 300 M) ∧ (¬ p1 = 0 → ((p1 = 1 → P 200 M) ∧ (¬ p1 = 1 → ((p1 = 2 → P 3 M) ∧ (¬ p1 = 2 → P 30 M))))))
abbrev rm_X6_mostValue : Room := { frames := 0, cells := 0, slots := 0, locals := 0 }
set_option maxHeartbeats 4000000 in
set_option maxRecDepth 100000 in
theorem c_X6_mostValue {l : Launch} {D : va_G} {cA : Nat → ClassId} {b n : Nat} {M : Mem} {p1 : Int32} {P : Int32 → Mem → Prop} (h : wp_X6_mostValue n M p1 P) : m_C l D cA b n n M yX6_mostValue cX6_mostValue 1 (some .int) rm_X6_mostValue 0 0 [.int p1] (rI P) := by
  refine m_enter (by decide) (Nat.le_of_ble_eq_true rfl) (fun p e s m below meth c C hr hlk hnm hK hP hS ls hl => ?_)
  have hx := C.1
  have hb := C.2.1
  have hl : lv_has ls 1 [(0, .int p1)] := hl
  unfold wp_X6_mostValue at h
  refine lv_iload_n (pc := 0) hx hb dX6_mostValue_0 rfl (lv_at hl 0 rfl) ?_
  by_cases n1_0 : p1 = 0
  · replace h := h.1 n1_0
    refine m_case (v := 0) (off := 27) (tgt := 28) (pc := 1) hx hb n1_0 dX6_mostValue_1 (by decide) (by decide) (by decide) (by decide) ?_
    refine lv_sipush (v := 300) (pc := 28) hx hb dX6_mostValue_28 (by decide) ?_
    exact m_iret (v := 300) (pc := 31) C hr hlk hP hS dX6_mostValue_31 h
  · replace h := h.2 n1_0
    by_cases n1_1 : p1 = 1
    · replace h := h.1 n1_1
      refine m_case (v := 1) (off := 31) (tgt := 32) (pc := 1) hx hb n1_1 dX6_mostValue_1 (by decide) (by decide) (by decide) (by decide) ?_
      refine lv_sipush (v := 200) (pc := 32) hx hb dX6_mostValue_32 (by decide) ?_
      exact m_iret (v := 200) (pc := 35) C hr hlk hP hS dX6_mostValue_35 h
    · replace h := h.2 n1_1
      by_cases n1_2 : p1 = 2
      · replace h := h.1 n1_2
        refine m_case (v := 2) (off := 35) (tgt := 36) (pc := 1) hx hb n1_2 dX6_mostValue_1 (by decide) (by decide) (by decide) (by decide) ?_
        refine lv_iconst (v := 3) (pc := 36) hx hb dX6_mostValue_36 (by decide) ?_
        exact m_iret (v := 3) (pc := 37) C hr hlk hP hS dX6_mostValue_37 h
      · replace h := h.2 n1_2
        refine lv_tableOut (tgt := 38) (pc := 1) hx hb dX6_mostValue_1 (by have i0 := i_ne n1_0; have i1 := i_ne n1_1; have i2 := i_ne n1_2; simp only [m_lit] at *; omega) (by decide) ?_
        refine lv_bipush (v := 30) (pc := 38) hx hb dX6_mostValue_38 (by decide) ?_
        exact m_iret (v := 30) (pc := 40) C hr hlk hP hS dX6_mostValue_40 h
/-! ForgeHeats.pastAt (I)LForgeHeats$Shop; -/
def wp_X6_pastAt (n : Nat) (M : Mem) (i : Nat) (p1 : Int32) (P : Option Nat → Mem → Prop) : Prop := ((p1 < 0 → P none M) ∧ (¬ p1 < 0 → m_tp n i 6 ∧ (∃ j2 : Nat, M.2.1 i 2 = some j2 ∧ (m_tp n j2 15 ∧ ((((nI (m_len j2)) ≤ p1 → P none M) ∧ (¬ (nI (m_len j2)) ≤ p1 → ∃ j4 : Nat, M.2.1 i 2 = some j4 ∧ (m_tp n j4 15 ∧ (vp_in p1 (m_len j4) ∧ (∃ j7 : Nat, M.2.1 j4 p1.toNatClampNeg = some j7 ∧ (P (some j7) M)))))))))))
abbrev rm_X6_pastAt : Room := { frames := 0, cells := 0, slots := 0, locals := 0 }
set_option maxHeartbeats 4000000 in
set_option maxRecDepth 100000 in
theorem c_X6_pastAt {l : Launch} {D : va_G} {cA : Nat → ClassId} {b n : Nat} {M : Mem} {i : Nat} {p1 : Int32} {P : Option Nat → Mem → Prop} (h : wp_X6_pastAt n M i p1 P) : m_C l D cA b n n M yX6_pastAt cX6_pastAt 2 (some (.object "ForgeHeats$Shop")) rm_X6_pastAt 0 0 [.ref (b + i), .int p1] (rO b P) := by
  refine m_enter (by decide) (Nat.le_of_ble_eq_true rfl) (fun p e s m below meth c C hr hlk hnm hK hP hS ls hl => ?_)
  have hx := C.1
  have hb := C.2.1
  have hl : lv_has ls 2 [(0, .ref (b + i)), (1, .int p1)] := hl
  unfold wp_X6_pastAt at h
  refine lv_iload_n (pc := 0) hx hb dX6_pastAt_0 rfl (lv_at hl 1 rfl) ?_
  refine lv_if_lt (tgt := 22) (pc := 1) hx hb dX6_pastAt_1 (by decide) (fun c1 => ?_) (fun c1 => ?_)
  · replace h := h.1 c1
    refine lv_null (pc := 22) hx hb dX6_pastAt_22 ?_
    exact m_oret (v := none) (pc := 23) C hr hlk hP hS dX6_pastAt_23 h
  · replace h := h.2 c1
    refine lv_iload_n (pc := 4) hx hb dX6_pastAt_4 rfl (lv_at hl 1 rfl) ?_
    refine lv_aload_n (pc := 5) hx hb dX6_pastAt_5 rfl (lv_at hl 0 rfl) ?_
    obtain ⟨hk1, h⟩ := h
    obtain ⟨j2, hj2, h⟩ := h
    refine gX6_19 (pc := 6) C hK hP hk1 hj2 dX6_pastAt_6 ?_
    obtain ⟨hk3, h⟩ := h
    refine m_alen (pc := 9) (κ := 15) C hK hP hk3 (by decide) rfl dX6_pastAt_9 ?_
    refine lv_icmp_ge (tgt := 22) (pc := 10) hx hb dX6_pastAt_10 (by decide) (fun c10 => ?_) (fun c10 => ?_)
    · replace h := h.1 c10
      refine lv_null (pc := 22) hx hb dX6_pastAt_22 ?_
      exact m_oret (v := none) (pc := 23) C hr hlk hP hS dX6_pastAt_23 h
    · replace h := h.2 c10
      refine lv_aload_n (pc := 13) hx hb dX6_pastAt_13 rfl (lv_at hl 0 rfl) ?_
      obtain ⟨j4, hj4, h⟩ := h
      refine gX6_19 (pc := 14) C hK hP hk1 hj4 dX6_pastAt_14 ?_
      refine lv_iload_n (pc := 17) hx hb dX6_pastAt_17 rfl (lv_at hl 1 rfl) ?_
      obtain ⟨hk5, h⟩ := h
      obtain ⟨hi6, h⟩ := h
      obtain ⟨j7, hj7, h⟩ := h
      refine m_aldq (pc := 18) (κ := 15) C hK hP hk5 (by decide) rfl hi6 hj7 dX6_pastAt_18 ?_
      refine lv_goto (tgt := 23) (pc := 19) hx hb dX6_pastAt_19 (by decide) ?_
      exact m_oret (v := some j7) (pc := 23) C hr hlk hP hS dX6_pastAt_23 h
/-! ForgeHeats.numberOf (I)I -/
def wp_X6_numberOf (n : Nat) (M : Mem) (i : Nat) (p1 : Int32) (P : Int32 → Mem → Prop) : Prop := ((p1 = 0 → m_tp n i 6 ∧ (∃ j2 : Nat, M.2.1 i 0 = some j2 ∧ (m_tp n j2 5 ∧ (P (M.1 j2 11) M)))) ∧ (¬ p1 = 0 → ((p1 = 1 → m_tp n i 6 ∧ (∃ j5 : Nat, M.2.1 i 0 = some j5 ∧ (m_tp n j5 5 ∧ (P (M.1 j5 5) M)))) ∧ (¬ p1 = 1 → ((p1 = 2 → m_tp n i 6 ∧ (∃ j8 : Nat, M.2.1 i 0 = some j8 ∧ (m_tp n j8 5 ∧ (wp_X5_countRushJobs n M j8 (fun r11 M9 => P r11 M9))))) ∧ (¬ p1 = 2 → ((p1 = 3 → m_tp n i 6 ∧ (∃ j13 : Nat, M.2.1 i 0 = some j13 ∧ (m_tp n j13 5 ∧ (wp_X5_countInFurnace n M j13 (fun r16 M14 => P r16 M14))))) ∧ (¬ p1 = 3 → ((p1 = 4 → m_tp n i 6 ∧ (∃ j18 : Nat, M.2.1 i 0 = some j18 ∧ (m_tp n j18 5 ∧ (wp_X5_countMade n M j18 (fun r21 M19 => P r21 M19))))) ∧ (¬ p1 = 4 → ((p1 = 5 → m_tp n i 6 ∧ (∃ j23 : Nat, M.2.1 i 0 = some j23 ∧ (m_tp n j23 5 ∧ (wp_X5_countScrap n M j23 (fun r26 M24 => P r26 M24))))) ∧ (¬ p1 = 5 → ((p1 = 6 → m_tp n i 6 ∧ (∃ j28 : Nat, M.2.1 i 0 = some j28 ∧ (m_tp n j28 5 ∧ (P (M.1 j28 12) M)))) ∧ (¬ p1 = 6 → ((p1 = 7 → m_tp n i 6 ∧ (∃ j31 : Nat, M.2.1 i 0 = some j31 ∧ (m_tp n j31 5 ∧ (P (M.1 j31 13) M)))) ∧ (¬ p1 = 7 → ((p1 = 8 → m_tp n i 6 ∧ (∃ j34 : Nat, M.2.1 i 0 = some j34 ∧ (m_tp n j34 5 ∧ (P (M.1 j34 14) M)))) ∧ (¬ p1 = 8 → ((p1 = 9 → m_tp n i 6 ∧ (∃ j37 : Nat, M.2.1 i 0 = some j37 ∧ (m_tp n j37 5 ∧ (P (M.1 j37 15) M)))) ∧ (¬ p1 = 9 → ((p1 = 10 → m_tp n i 6 ∧ (∃ j40 : Nat, M.2.1 i 0 = some j40 ∧ (m_tp n j40 5 ∧ (wp_X5_dieBeingGround n M j40 (fun r43 M41 => P r43 M41))))) ∧ (¬ p1 = 10 → m_tp n i 6 ∧ (P (M.1 i 3) M)))))))))))))))))))))))
abbrev rm_X6_numberOf : Room := { frames := 2, cells := 0, slots := 0, locals := 44 }
set_option maxHeartbeats 4000000 in
set_option maxRecDepth 100000 in
theorem c_X6_numberOf {l : Launch} {D : va_G} {cA : Nat → ClassId} {b n : Nat} {M : Mem} {i : Nat} {p1 : Int32} {P : Int32 → Mem → Prop} (h : wp_X6_numberOf n M i p1 P) : m_C l D cA b n n M yX6_numberOf cX6_numberOf 2 (some .int) rm_X6_numberOf 0 0 [.ref (b + i), .int p1] (rI P) := by
  refine m_enter (by decide) (Nat.le_of_ble_eq_true rfl) (fun p e s m below meth c C hr hlk hnm hK hP hS ls hl => ?_)
  have hx := C.1
  have hb := C.2.1
  have hl : lv_has ls 2 [(0, .ref (b + i)), (1, .int p1)] := hl
  unfold wp_X6_numberOf at h
  refine lv_iload_n (pc := 0) hx hb dX6_numberOf_0 rfl (lv_at hl 1 rfl) ?_
  by_cases n1_0 : p1 = 0
  · replace h := h.1 n1_0
    refine m_case (v := 0) (off := 59) (tgt := 60) (pc := 1) hx hb n1_0 dX6_numberOf_1 (by decide) (by decide) (by decide) (by decide) ?_
    refine lv_aload_n (pc := 60) hx hb dX6_numberOf_60 rfl (lv_at hl 0 rfl) ?_
    obtain ⟨hk1, h⟩ := h
    obtain ⟨j2, hj2, h⟩ := h
    refine gX6_10 (pc := 61) C hK hP hk1 hj2 dX6_numberOf_61 ?_
    obtain ⟨hk3, h⟩ := h
    refine gX6_154 (pc := 64) C hK hP hk3 dX6_numberOf_64 ?_
    exact m_iret (v := M.1 j2 11) (pc := 67) C hr hlk hP hS dX6_numberOf_67 h
  · replace h := h.2 n1_0
    by_cases n1_1 : p1 = 1
    · replace h := h.1 n1_1
      refine m_case (v := 1) (off := 67) (tgt := 68) (pc := 1) hx hb n1_1 dX6_numberOf_1 (by decide) (by decide) (by decide) (by decide) ?_
      refine lv_aload_n (pc := 68) hx hb dX6_numberOf_68 rfl (lv_at hl 0 rfl) ?_
      obtain ⟨hk4, h⟩ := h
      obtain ⟨j5, hj5, h⟩ := h
      refine gX6_10 (pc := 69) C hK hP hk4 hj5 dX6_numberOf_69 ?_
      obtain ⟨hk6, h⟩ := h
      refine gX6_113 (pc := 72) C hK hP hk6 dX6_numberOf_72 ?_
      exact m_iret (v := M.1 j5 5) (pc := 75) C hr hlk hP hS dX6_numberOf_75 h
    · replace h := h.2 n1_1
      by_cases n1_2 : p1 = 2
      · replace h := h.1 n1_2
        refine m_case (v := 2) (off := 75) (tgt := 76) (pc := 1) hx hb n1_2 dX6_numberOf_1 (by decide) (by decide) (by decide) (by decide) ?_
        refine lv_aload_n (pc := 76) hx hb dX6_numberOf_76 rfl (lv_at hl 0 rfl) ?_
        obtain ⟨hk7, h⟩ := h
        obtain ⟨j8, hj8, h⟩ := h
        refine gX6_10 (pc := 77) C hK hP hk7 hj8 dX6_numberOf_77 ?_
        obtain ⟨hk10, h⟩ := h
        refine m_callVI (pc := 80) (y := yX5_countRushJobs) (κ := 5) (As := []) (rest := []) C hK hP hS hl.1 ⟨Nat.zero_le _, Nat.zero_le _⟩ (c_X5_countRushJobs h) rfl rfl hk10 (by decide) rfl q_410 q_411 q_412 q_2 q_413 ⟨rfl, rfl⟩ yd_X5_countRushJobs ⟨Nat.le_of_ble_eq_true rfl, Nat.le_of_ble_eq_true rfl⟩ (Nat.le_of_ble_eq_true rfl) dX6_numberOf_80 (fun r11 M9 H locs h hP hS => ?_)
        exact m_iret (v := r11) (pc := 83) C hr hlk hP hS dX6_numberOf_83 h
      · replace h := h.2 n1_2
        by_cases n1_3 : p1 = 3
        · replace h := h.1 n1_3
          refine m_case (v := 3) (off := 83) (tgt := 84) (pc := 1) hx hb n1_3 dX6_numberOf_1 (by decide) (by decide) (by decide) (by decide) ?_
          refine lv_aload_n (pc := 84) hx hb dX6_numberOf_84 rfl (lv_at hl 0 rfl) ?_
          obtain ⟨hk12, h⟩ := h
          obtain ⟨j13, hj13, h⟩ := h
          refine gX6_10 (pc := 85) C hK hP hk12 hj13 dX6_numberOf_85 ?_
          obtain ⟨hk15, h⟩ := h
          refine m_callVI (pc := 88) (y := yX5_countInFurnace) (κ := 5) (As := []) (rest := []) C hK hP hS hl.1 ⟨Nat.zero_le _, Nat.zero_le _⟩ (c_X5_countInFurnace h) rfl rfl hk15 (by decide) rfl q_414 q_415 q_416 q_2 q_417 ⟨rfl, rfl⟩ yd_X5_countInFurnace ⟨Nat.le_of_ble_eq_true rfl, Nat.le_of_ble_eq_true rfl⟩ (Nat.le_of_ble_eq_true rfl) dX6_numberOf_88 (fun r16 M14 H locs h hP hS => ?_)
          exact m_iret (v := r16) (pc := 91) C hr hlk hP hS dX6_numberOf_91 h
        · replace h := h.2 n1_3
          by_cases n1_4 : p1 = 4
          · replace h := h.1 n1_4
            refine m_case (v := 4) (off := 91) (tgt := 92) (pc := 1) hx hb n1_4 dX6_numberOf_1 (by decide) (by decide) (by decide) (by decide) ?_
            refine lv_aload_n (pc := 92) hx hb dX6_numberOf_92 rfl (lv_at hl 0 rfl) ?_
            obtain ⟨hk17, h⟩ := h
            obtain ⟨j18, hj18, h⟩ := h
            refine gX6_10 (pc := 93) C hK hP hk17 hj18 dX6_numberOf_93 ?_
            obtain ⟨hk20, h⟩ := h
            refine m_callVI (pc := 96) (y := yX5_countMade) (κ := 5) (As := []) (rest := []) C hK hP hS hl.1 ⟨Nat.zero_le _, Nat.zero_le _⟩ (c_X5_countMade h) rfl rfl hk20 (by decide) rfl q_418 q_419 q_420 q_2 q_421 ⟨rfl, rfl⟩ yd_X5_countMade ⟨Nat.le_of_ble_eq_true rfl, Nat.le_of_ble_eq_true rfl⟩ (Nat.le_of_ble_eq_true rfl) dX6_numberOf_96 (fun r21 M19 H locs h hP hS => ?_)
            exact m_iret (v := r21) (pc := 99) C hr hlk hP hS dX6_numberOf_99 h
          · replace h := h.2 n1_4
            by_cases n1_5 : p1 = 5
            · replace h := h.1 n1_5
              refine m_case (v := 5) (off := 99) (tgt := 100) (pc := 1) hx hb n1_5 dX6_numberOf_1 (by decide) (by decide) (by decide) (by decide) ?_
              refine lv_aload_n (pc := 100) hx hb dX6_numberOf_100 rfl (lv_at hl 0 rfl) ?_
              obtain ⟨hk22, h⟩ := h
              obtain ⟨j23, hj23, h⟩ := h
              refine gX6_10 (pc := 101) C hK hP hk22 hj23 dX6_numberOf_101 ?_
              obtain ⟨hk25, h⟩ := h
              refine m_callVI (pc := 104) (y := yX5_countScrap) (κ := 5) (As := []) (rest := []) C hK hP hS hl.1 ⟨Nat.zero_le _, Nat.zero_le _⟩ (c_X5_countScrap h) rfl rfl hk25 (by decide) rfl q_422 q_423 q_424 q_2 q_425 ⟨rfl, rfl⟩ yd_X5_countScrap ⟨Nat.le_of_ble_eq_true rfl, Nat.le_of_ble_eq_true rfl⟩ (Nat.le_of_ble_eq_true rfl) dX6_numberOf_104 (fun r26 M24 H locs h hP hS => ?_)
              exact m_iret (v := r26) (pc := 107) C hr hlk hP hS dX6_numberOf_107 h
            · replace h := h.2 n1_5
              by_cases n1_6 : p1 = 6
              · replace h := h.1 n1_6
                refine m_case (v := 6) (off := 107) (tgt := 108) (pc := 1) hx hb n1_6 dX6_numberOf_1 (by decide) (by decide) (by decide) (by decide) ?_
                refine lv_aload_n (pc := 108) hx hb dX6_numberOf_108 rfl (lv_at hl 0 rfl) ?_
                obtain ⟨hk27, h⟩ := h
                obtain ⟨j28, hj28, h⟩ := h
                refine gX6_10 (pc := 109) C hK hP hk27 hj28 dX6_numberOf_109 ?_
                obtain ⟨hk29, h⟩ := h
                refine gX6_309 (pc := 112) C hK hP hk29 dX6_numberOf_112 ?_
                exact m_iret (v := M.1 j28 12) (pc := 115) C hr hlk hP hS dX6_numberOf_115 h
              · replace h := h.2 n1_6
                by_cases n1_7 : p1 = 7
                · replace h := h.1 n1_7
                  refine m_case (v := 7) (off := 115) (tgt := 116) (pc := 1) hx hb n1_7 dX6_numberOf_1 (by decide) (by decide) (by decide) (by decide) ?_
                  refine lv_aload_n (pc := 116) hx hb dX6_numberOf_116 rfl (lv_at hl 0 rfl) ?_
                  obtain ⟨hk30, h⟩ := h
                  obtain ⟨j31, hj31, h⟩ := h
                  refine gX6_10 (pc := 117) C hK hP hk30 hj31 dX6_numberOf_117 ?_
                  obtain ⟨hk32, h⟩ := h
                  refine gX6_310 (pc := 120) C hK hP hk32 dX6_numberOf_120 ?_
                  exact m_iret (v := M.1 j31 13) (pc := 123) C hr hlk hP hS dX6_numberOf_123 h
                · replace h := h.2 n1_7
                  by_cases n1_8 : p1 = 8
                  · replace h := h.1 n1_8
                    refine m_case (v := 8) (off := 123) (tgt := 124) (pc := 1) hx hb n1_8 dX6_numberOf_1 (by decide) (by decide) (by decide) (by decide) ?_
                    refine lv_aload_n (pc := 124) hx hb dX6_numberOf_124 rfl (lv_at hl 0 rfl) ?_
                    obtain ⟨hk33, h⟩ := h
                    obtain ⟨j34, hj34, h⟩ := h
                    refine gX6_10 (pc := 125) C hK hP hk33 hj34 dX6_numberOf_125 ?_
                    obtain ⟨hk35, h⟩ := h
                    refine gX6_313 (pc := 128) C hK hP hk35 dX6_numberOf_128 ?_
                    exact m_iret (v := M.1 j34 14) (pc := 131) C hr hlk hP hS dX6_numberOf_131 h
                  · replace h := h.2 n1_8
                    by_cases n1_9 : p1 = 9
                    · replace h := h.1 n1_9
                      refine m_case (v := 9) (off := 131) (tgt := 132) (pc := 1) hx hb n1_9 dX6_numberOf_1 (by decide) (by decide) (by decide) (by decide) ?_
                      refine lv_aload_n (pc := 132) hx hb dX6_numberOf_132 rfl (lv_at hl 0 rfl) ?_
                      obtain ⟨hk36, h⟩ := h
                      obtain ⟨j37, hj37, h⟩ := h
                      refine gX6_10 (pc := 133) C hK hP hk36 hj37 dX6_numberOf_133 ?_
                      obtain ⟨hk38, h⟩ := h
                      refine gX6_316 (pc := 136) C hK hP hk38 dX6_numberOf_136 ?_
                      exact m_iret (v := M.1 j37 15) (pc := 139) C hr hlk hP hS dX6_numberOf_139 h
                    · replace h := h.2 n1_9
                      by_cases n1_10 : p1 = 10
                      · replace h := h.1 n1_10
                        refine m_case (v := 10) (off := 139) (tgt := 140) (pc := 1) hx hb n1_10 dX6_numberOf_1 (by decide) (by decide) (by decide) (by decide) ?_
                        refine lv_aload_n (pc := 140) hx hb dX6_numberOf_140 rfl (lv_at hl 0 rfl) ?_
                        obtain ⟨hk39, h⟩ := h
                        obtain ⟨j40, hj40, h⟩ := h
                        refine gX6_10 (pc := 141) C hK hP hk39 hj40 dX6_numberOf_141 ?_
                        obtain ⟨hk42, h⟩ := h
                        refine m_callVI (pc := 144) (y := yX5_dieBeingGround) (κ := 5) (As := []) (rest := []) C hK hP hS hl.1 ⟨Nat.zero_le _, Nat.zero_le _⟩ (c_X5_dieBeingGround h) rfl rfl hk42 (by decide) rfl q_426 q_427 q_428 q_2 q_429 ⟨rfl, rfl⟩ yd_X5_dieBeingGround ⟨Nat.le_of_ble_eq_true rfl, Nat.le_of_ble_eq_true rfl⟩ (Nat.le_of_ble_eq_true rfl) dX6_numberOf_144 (fun r43 M41 H locs h hP hS => ?_)
                        exact m_iret (v := r43) (pc := 147) C hr hlk hP hS dX6_numberOf_147 h
                      · replace h := h.2 n1_10
                        refine lv_tableOut (tgt := 148) (pc := 1) hx hb dX6_numberOf_1 (by have i0 := i_ne n1_0; have i1 := i_ne n1_1; have i2 := i_ne n1_2; have i3 := i_ne n1_3; have i4 := i_ne n1_4; have i5 := i_ne n1_5; have i6 := i_ne n1_6; have i7 := i_ne n1_7; have i8 := i_ne n1_8; have i9 := i_ne n1_9; have i10 := i_ne n1_10; simp only [m_lit] at *; omega) (by decide) ?_
                        refine lv_aload_n (pc := 148) hx hb dX6_numberOf_148 rfl (lv_at hl 0 rfl) ?_
                        obtain ⟨hk44, h⟩ := h
                        refine gX6_212 (pc := 149) C hK hP hk44 dX6_numberOf_149 ?_
                        exact m_iret (v := M.1 i 3) (pc := 152) C hr hlk hP hS dX6_numberOf_152 h
/-! ForgeHeats.shareMade ()D -/
def wp_X6_shareMade (n : Nat) (M : Mem) (i : Nat) (P : UInt64 → Mem → Prop) : Prop := m_tp n i 6 ∧ (∃ j2 : Nat, M.2.1 i 0 = some j2 ∧ (m_tp n j2 5 ∧ (wp_X5_countMade n M j2 (fun r5 M3 => ∃ j6 : Nat, M3.2.1 i 0 = some j6 ∧ (m_tp n j6 5 ∧ (wp_X5_countScrap n M3 j6 (fun r9 M7 => ∀ v10 : Int32, v10 = (r5 + r9) → (((¬ v10 = 0 → vf_n64 (FP.ddiv (FP.i2d r5) (FP.i2d v10)) ∧ (P (FP.ddiv (FP.i2d r5) (FP.i2d v10)) M7)) ∧ (v10 = 0 → P (FP.dconst1) M7))))))))))
abbrev rm_X6_shareMade : Room := { frames := 2, cells := 0, slots := 0, locals := 44 }
set_option maxHeartbeats 4000000 in
set_option maxRecDepth 100000 in
theorem c_X6_shareMade {l : Launch} {D : va_G} {cA : Nat → ClassId} {b n : Nat} {M : Mem} {i : Nat} {P : UInt64 → Mem → Prop} (h : wp_X6_shareMade n M i P) : m_C l D cA b n n M yX6_shareMade cX6_shareMade 3 (some .double) rm_X6_shareMade 0 0 [.ref (b + i)] (rD P) := by
  refine m_enter (by decide) (Nat.le_of_ble_eq_true rfl) (fun p e s m below meth c C hr hlk hnm hK hP hS ls hl => ?_)
  have hx := C.1
  have hb := C.2.1
  have hl : lv_has ls 3 [(0, .ref (b + i))] := hl
  unfold wp_X6_shareMade at h
  refine lv_aload_n (pc := 0) hx hb dX6_shareMade_0 rfl (lv_at hl 0 rfl) ?_
  obtain ⟨hk1, h⟩ := h
  obtain ⟨j2, hj2, h⟩ := h
  refine gX6_10 (pc := 1) C hK hP hk1 hj2 dX6_shareMade_1 ?_
  obtain ⟨hk4, h⟩ := h
  refine m_callVI (pc := 4) (y := yX5_countMade) (κ := 5) (As := []) (rest := []) C hK hP hS hl.1 ⟨Nat.zero_le _, Nat.zero_le _⟩ (c_X5_countMade h) rfl rfl hk4 (by decide) rfl q_418 q_419 q_420 q_2 q_421 ⟨rfl, rfl⟩ yd_X5_countMade ⟨Nat.le_of_ble_eq_true rfl, Nat.le_of_ble_eq_true rfl⟩ (Nat.le_of_ble_eq_true rfl) dX6_shareMade_4 (fun r5 M3 H locs h hP hS => ?_)
  refine lv_istore_n (lv' := [(1, .int r5), (0, .ref (b + i))]) (pc := 7) hx hb dX6_shareMade_7 rfl hl (by decide) rfl (fun ls hl => ?_)
  refine lv_iload_n (pc := 8) hx hb dX6_shareMade_8 rfl (lv_at hl 0 rfl) ?_
  refine lv_aload_n (pc := 9) hx hb dX6_shareMade_9 rfl (lv_at hl 1 rfl) ?_
  obtain ⟨j6, hj6, h⟩ := h
  refine gX6_10 (pc := 10) C hK hP hk1 hj6 dX6_shareMade_10 ?_
  obtain ⟨hk8, h⟩ := h
  refine m_callVI (pc := 13) (y := yX5_countScrap) (κ := 5) (As := []) (rest := [.int r5]) C hK hP hS hl.1 ⟨Nat.zero_le _, Nat.zero_le _⟩ (c_X5_countScrap h) rfl rfl hk8 (by decide) rfl q_422 q_423 q_424 q_2 q_425 ⟨rfl, rfl⟩ yd_X5_countScrap ⟨Nat.le_of_ble_eq_true rfl, Nat.le_of_ble_eq_true rfl⟩ (Nat.le_of_ble_eq_true rfl) dX6_shareMade_13 (fun r9 M7 H locs h hP hS => ?_)
  refine lv_iadd (pc := 16) hx hb dX6_shareMade_16 ?_
  refine lv_topi (fun v10 ev10 => ?_)
  replace h := h v10 ev10
  refine lv_istore_n (lv' := [(2, .int v10), (1, .int r5), (0, .ref (b + i))]) (pc := 17) hx hb dX6_shareMade_17 rfl hl (by decide) rfl (fun ls hl => ?_)
  refine lv_iload_n (pc := 18) hx hb dX6_shareMade_18 rfl (lv_at hl 0 rfl) ?_
  refine lv_if_ne (tgt := 26) (pc := 19) hx hb dX6_shareMade_19 (by decide) (fun c19 => ?_) (fun c19 => ?_)
  · replace h := h.1 c19
    refine lv_iload_n (pc := 26) hx hb dX6_shareMade_26 rfl (lv_at hl 1 rfl) ?_
    refine lv_i2d (pc := 27) hx hb dX6_shareMade_27 ?_
    refine lv_iload_n (pc := 28) hx hb dX6_shareMade_28 rfl (lv_at hl 0 rfl) ?_
    refine lv_i2d (pc := 29) hx hb dX6_shareMade_29 ?_
    obtain ⟨hz11, h⟩ := h
    refine lv_ddiv (pc := 30) hx hb dX6_shareMade_30 hz11 ?_
    exact m_dret (v := FP.ddiv (FP.i2d r5) (FP.i2d v10)) (pc := 31) C hr hlk hP hS dX6_shareMade_31 h
  · replace h := h.2 c19
    refine lv_dconst1 (pc := 22) hx hb dX6_shareMade_22 ?_
    refine lv_goto (tgt := 31) (pc := 23) hx hb dX6_shareMade_23 (by decide) ?_
    exact m_dret (v := FP.dconst1) (pc := 31) C hr hlk hP hS dX6_shareMade_31 h
/-! ForgeHeats.saved ()D -/
def wp_X6_saved (n : Nat) (M : Mem) (i : Nat) (P : UInt64 → Mem → Prop) : Prop := m_tp n i 6 ∧ (wp_X6_shareMade n M i (fun r3 M1 => P r3 M1))
abbrev rm_X6_saved : Room := { frames := 3, cells := 0, slots := 0, locals := 66 }
set_option maxHeartbeats 4000000 in
set_option maxRecDepth 100000 in
theorem c_X6_saved {l : Launch} {D : va_G} {cA : Nat → ClassId} {b n : Nat} {M : Mem} {i : Nat} {P : UInt64 → Mem → Prop} (h : wp_X6_saved n M i P) : m_C l D cA b n n M yX6_saved cX6_saved 1 (some .double) rm_X6_saved 0 0 [.ref (b + i)] (rD P) := by
  refine m_enter (by decide) (Nat.le_of_ble_eq_true rfl) (fun p e s m below meth c C hr hlk hnm hK hP hS ls hl => ?_)
  have hx := C.1
  have hb := C.2.1
  have hl : lv_has ls 1 [(0, .ref (b + i))] := hl
  unfold wp_X6_saved at h
  refine lv_aload_n (pc := 0) hx hb dX6_saved_0 rfl (lv_at hl 0 rfl) ?_
  obtain ⟨hk2, h⟩ := h
  refine m_callVD (pc := 1) (y := yX6_shareMade) (κ := 6) (As := []) (rest := []) C hK hP hS hl.1 ⟨Nat.zero_le _, Nat.zero_le _⟩ (c_X6_shareMade h) rfl rfl hk2 (by decide) rfl q_701 q_703 q_s21 q_1 q_704 ⟨rfl, rfl⟩ yd_X6_shareMade ⟨Nat.le_of_ble_eq_true rfl, Nat.le_of_ble_eq_true rfl⟩ (Nat.le_of_ble_eq_true rfl) dX6_saved_1 (fun r3 M1 H locs h hP hS => ?_)
  exact m_dret (v := r3) (pc := 4) C hr hlk hP hS dX6_saved_4 h
/-! ForgeHeats.dropOldest ()V -/
def wpB_X6_dropOldest_16 (n : Nat) (P : Mem → Prop) (R_ : Mem → Nat → Option Nat → Int32 → Int32 → Prop) (M : Mem) (x0 : Nat) (x1 : Option Nat) (x2 : Int32) (x3 : Int32) : Prop := ((x2 ≤ x3 → ((x2 < 0 → P M) ∧ (¬ x2 < 0 → m_tp n x0 6 ∧ (∃ j8 : Nat, M.2.1 x0 2 = some j8 ∧ (m_tp n j8 15 ∧ (∃ j10 : Nat, x1 = some j10 ∧ (m_tp n j10 5 ∧ (vp_in x2 (m_len j8) ∧ (∀ M13 : Mem, M13 = uR M j8 x2.toNatClampNeg (some j10) → (∀ M14 : Mem, M14 = uI M13 x0 3 x2 → (P M14))))))))))) ∧ (¬ x2 ≤ x3 → m_tp n x0 6 ∧ (∃ j16 : Nat, M.2.1 x0 2 = some j16 ∧ (∃ j17 : Nat, M.2.1 x0 2 = some j17 ∧ (m_tp n j17 15 ∧ (vp_in (x3 + 1) (m_len j17) ∧ (∃ j20 : Nat, M.2.1 j17 (x3 + 1).toNatClampNeg = some j20 ∧ (m_tp n j16 15 ∧ (m_tp n j20 5 ∧ (vp_in x3 (m_len j16) ∧ (∀ M24 : Mem, M24 = uR M j16 x3.toNatClampNeg (some j20) → (∀ v25 : Int32, v25 = x3 + 1 → (R_ M24 x0 x1 x2 v25)))))))))))))
def wpL_X6_dropOldest_16 (n : Nat) (P : Mem → Prop) : Nat → Mem → Nat → Option Nat → Int32 → Int32 → Prop
  | 0 => fun _ _ _ _ _ => False
  | f + 1 => fun M x0 x1 x2 x3 => wpB_X6_dropOldest_16 n P (wpL_X6_dropOldest_16 n P f) M x0 x1 x2 x3
def wp_X6_dropOldest (n : Nat) (M : Mem) (i : Nat) (P : Mem → Prop) : Prop := m_tp n i 6 ∧ (wp_X6_pastAt n M i 0 (fun o3 M1 => ∃ j4 : Nat, M1.2.1 i 2 = some j4 ∧ (m_tp n j4 15 ∧ (∀ v6 : Int32, v6 = ((nI (m_len j4)) - 1) → (∃ f : Nat, wpL_X6_dropOldest_16 n P f M1 i o3 v6 0)))))
abbrev rm_X6_dropOldest : Room := { frames := 1, cells := 0, slots := 0, locals := 21 }
set_option maxHeartbeats 4000000 in
set_option maxRecDepth 100000 in
theorem c_X6_dropOldest {l : Launch} {D : va_G} {cA : Nat → ClassId} {b n : Nat} {M : Mem} {i : Nat} {P : Mem → Prop} (h : wp_X6_dropOldest n M i P) : m_C l D cA b n n M yX6_dropOldest cX6_dropOldest 4 none rm_X6_dropOldest 0 0 [.ref (b + i)] (rV P) := by
  refine m_enter (by decide) (Nat.le_of_ble_eq_true rfl) (fun p e s m below meth c C hr hlk hnm hK hP hS ls hl => ?_)
  have hx := C.1
  have hb := C.2.1
  have hl : lv_has ls 4 [(0, .ref (b + i))] := hl
  have L16 : ∀ f : Nat, ∀ (M : Mem) (H : Heap) (locs : List Loc) (ls : Array Slot) (x0 : Nat) (x1 : Option Nat) (x2 : Int32) (x3 : Int32), wpL_X6_dropOldest_16 n P f M x0 x1 x2 x3 → m_H D cA b n M H → va_S (m_A b) s.heap H locs → lv_has ls 4 [(0, .ref (b + x0)), (1, va_rf ((x1).map (fun j => b + j))), (2, .int x2), (3, .int x3)] → W p l e rm_X6_dropOldest s m ([.ref (b + i)] : List Value).toArray below meth c H locs 0 0 (MQ below (m_Q D cA b n (rV P)) ([.ref (b + i)] : List Value).toArray s 0 0 (m_A b)) (F0 m 16 ls []) := by
    clear h
    intro f
    induction f with
    | zero => intro M H locs ls x0 x1 x2 x3 h; exact h.elim
    | succ f ih =>
      intro M H locs ls x0 x1 x2 x3 h hP hS hl
      have h : wpB_X6_dropOldest_16 n P (wpL_X6_dropOldest_16 n P f) M x0 x1 x2 x3 := h
      unfold wpB_X6_dropOldest_16 at h
      refine lv_iload_n (pc := 16) hx hb dX6_dropOldest_16 rfl (lv_at hl 3 rfl) ?_
      refine lv_iload_n (pc := 17) hx hb dX6_dropOldest_17 rfl (lv_at hl 2 rfl) ?_
      refine lv_icmp_ge (tgt := 41) (pc := 18) hx hb dX6_dropOldest_18 (by decide) (fun c18 => ?_) (fun c18 => ?_)
      · replace h := h.1 c18
        refine lv_iload_n (pc := 41) hx hb dX6_dropOldest_41 rfl (lv_at hl 2 rfl) ?_
        refine lv_if_lt (tgt := 57) (pc := 42) hx hb dX6_dropOldest_42 (by decide) (fun c42 => ?_) (fun c42 => ?_)
        · replace h := h.1 c42
          exact m_vret (pc := 57) C hr hlk hP hS dX6_dropOldest_57 h
        · replace h := h.2 c42
          refine lv_aload_n (pc := 45) hx hb dX6_dropOldest_45 rfl (lv_at hl 0 rfl) ?_
          obtain ⟨hk7, h⟩ := h
          obtain ⟨j8, hj8, h⟩ := h
          refine gX6_19 (pc := 46) C hK hP hk7 hj8 dX6_dropOldest_46 ?_
          refine lv_iload_n (pc := 49) hx hb dX6_dropOldest_49 rfl (lv_at hl 2 rfl) ?_
          refine m_aldO_n hx hb (pc := 50) dX6_dropOldest_50 rfl (lv_at hl 1 rfl) ?_
          obtain ⟨hk9, h⟩ := h
          obtain ⟨j10, eo, h⟩ := h
          try rw [eo]
          try rw [eo] at hl
          obtain ⟨hk11, h⟩ := h
          obtain ⟨hi12, h⟩ := h
          refine m_astq (pc := 51) (κ := 15) (ci := 5) C hK hP hS hk9 (by decide) rfl hk11 (by decide) rfl hi12 dX6_dropOldest_51 (fun M13 H locs eM13 hP hS => ?_)
          replace h := h M13 eM13
          refine lv_aload_n (pc := 52) hx hb dX6_dropOldest_52 rfl (lv_at hl 0 rfl) ?_
          refine lv_iload_n (pc := 53) hx hb dX6_dropOldest_53 rfl (lv_at hl 2 rfl) ?_
          refine pX6_212 (pc := 54) (v := x2) C hK hP hS hk7 dX6_dropOldest_54 (fun M14 H locs eM14 hP hS => ?_)
          replace h := h M14 eM14
          exact m_vret (pc := 57) C hr hlk hP hS dX6_dropOldest_57 h
      · replace h := h.2 c18
        refine lv_aload_n (pc := 21) hx hb dX6_dropOldest_21 rfl (lv_at hl 0 rfl) ?_
        obtain ⟨hk15, h⟩ := h
        obtain ⟨j16, hj16, h⟩ := h
        refine gX6_19 (pc := 22) C hK hP hk15 hj16 dX6_dropOldest_22 ?_
        refine lv_iload_n (pc := 25) hx hb dX6_dropOldest_25 rfl (lv_at hl 3 rfl) ?_
        refine lv_aload_n (pc := 26) hx hb dX6_dropOldest_26 rfl (lv_at hl 0 rfl) ?_
        obtain ⟨j17, hj17, h⟩ := h
        refine gX6_19 (pc := 27) C hK hP hk15 hj17 dX6_dropOldest_27 ?_
        refine lv_iload_n (pc := 30) hx hb dX6_dropOldest_30 rfl (lv_at hl 3 rfl) ?_
        refine lv_iconst (v := 1) (pc := 31) hx hb dX6_dropOldest_31 (by decide) ?_
        refine lv_iadd (pc := 32) hx hb dX6_dropOldest_32 ?_
        obtain ⟨hk18, h⟩ := h
        obtain ⟨hi19, h⟩ := h
        obtain ⟨j20, hj20, h⟩ := h
        refine m_aldq (pc := 33) (κ := 15) C hK hP hk18 (by decide) rfl hi19 hj20 dX6_dropOldest_33 ?_
        obtain ⟨hk21, h⟩ := h
        obtain ⟨hk22, h⟩ := h
        obtain ⟨hi23, h⟩ := h
        refine m_astq (pc := 34) (κ := 15) (ci := 5) C hK hP hS hk21 (by decide) rfl hk22 (by decide) rfl hi23 dX6_dropOldest_34 (fun M24 H locs eM24 hP hS => ?_)
        replace h := h M24 eM24
        obtain ⟨v25, ev25⟩ : ∃ y : Int32, y = x3 + 1 := ⟨_, rfl⟩
        replace h := h v25 ev25
        refine lv_iinc (v := v25) (lv' := [(3, .int v25), (0, .ref (b + x0)), (1, va_rf ((x1).map (fun j => b + j))), (2, .int x2)]) (pc := 35) hx hb dX6_dropOldest_35 hl (k := 3) rfl (by rw [ev25]; rfl) (by decide) rfl (fun ls hl => ?_)
        refine lv_goto (tgt := 16) (pc := 38) hx hb dX6_dropOldest_38 (by decide) ?_
        exact ih _ _ _ _ _ _ _ _ h hP hS (lv_sub hl [1, 2, 3, 0] rfl)
  unfold wp_X6_dropOldest at h
  refine lv_aload_n (pc := 0) hx hb dX6_dropOldest_0 rfl (lv_at hl 0 rfl) ?_
  refine lv_iconst (v := 0) (pc := 1) hx hb dX6_dropOldest_1 (by decide) ?_
  obtain ⟨hk2, h⟩ := h
  refine m_callVO (pc := 2) (y := yX6_pastAt) (κ := 6) (As := [.int 0]) (rest := []) C hK hP hS hl.1 ⟨Nat.zero_le _, Nat.zero_le _⟩ (c_X6_pastAt h) rfl rfl hk2 (by decide) rfl q_271 q_273 q_s0 q_1 q_274 ⟨rfl, rfl⟩ yd_X6_pastAt ⟨Nat.le_of_ble_eq_true rfl, Nat.le_of_ble_eq_true rfl⟩ (Nat.le_of_ble_eq_true rfl) dX6_dropOldest_2 (fun o3 M1 H locs h hP hS => ?_)
  refine m_astO_n (lv' := [(1, va_rf ((o3).map (fun j => b + j))), (0, .ref (b + i))]) hx hb (pc := 5) dX6_dropOldest_5 rfl hl (by decide) rfl (fun ls hl => ?_)
  refine lv_aload_n (pc := 6) hx hb dX6_dropOldest_6 rfl (lv_at hl 1 rfl) ?_
  obtain ⟨j4, hj4, h⟩ := h
  refine gX6_19 (pc := 7) C hK hP hk2 hj4 dX6_dropOldest_7 ?_
  obtain ⟨hk5, h⟩ := h
  refine m_alen (pc := 10) (κ := 15) C hK hP hk5 (by decide) rfl dX6_dropOldest_10 ?_
  refine lv_iconst (v := 1) (pc := 11) hx hb dX6_dropOldest_11 (by decide) ?_
  refine lv_isub (pc := 12) hx hb dX6_dropOldest_12 ?_
  refine lv_topi (fun v6 ev6 => ?_)
  replace h := h v6 ev6
  refine lv_istore_n (lv' := [(2, .int v6), (1, va_rf ((o3).map (fun j => b + j))), (0, .ref (b + i))]) (pc := 13) hx hb dX6_dropOldest_13 rfl hl (by decide) (by simp [m_cat]) (fun ls hl => ?_)
  refine lv_iconst (v := 0) (pc := 14) hx hb dX6_dropOldest_14 (by decide) ?_
  refine lv_istore_n (lv' := [(3, .int 0), (2, .int v6), (1, va_rf ((o3).map (fun j => b + j))), (0, .ref (b + i))]) (pc := 15) hx hb dX6_dropOldest_15 rfl hl (by decide) rfl (fun ls hl => ?_)
  obtain ⟨f, h⟩ := h
  exact L16 f _ _ _ _ _ _ _ _ h hP hS (lv_sub hl [3, 2, 1, 0] rfl)
/-! ForgeHeats.remember ()V -/
def wp_X6_remember (n : Nat) (M : Mem) (i : Nat) (P : Mem → Prop) : Prop := m_tp n i 6 ∧ (∃ j2 : Nat, M.2.1 i 2 = some j2 ∧ (m_tp n j2 15 ∧ ((((M.1 i 3) < (nI (m_len j2)) → wp_X6_pastAt n M i (M.1 i 3) (fun o5 M4 => ((o5 = none → P M4) ∧ (∀ j6 : Nat, o5 = some j6 → ∃ j7 : Nat, M4.2.1 i 0 = some j7 ∧ (m_tp n j6 5 ∧ (wp_X5_copyFrom n M4 j6 j7 (fun M8 => ∀ M11 : Mem, M11 = uI M8 i 3 ((M8.1 i 3) + 1) → (P M11)))))))) ∧ (¬ (M.1 i 3) < (nI (m_len j2)) → wp_X6_dropOldest n M i (fun M12 => wp_X6_pastAt n M12 i (M12.1 i 3) (fun o15 M14 => ((o15 = none → P M14) ∧ (∀ j16 : Nat, o15 = some j16 → ∃ j17 : Nat, M14.2.1 i 0 = some j17 ∧ (m_tp n j16 5 ∧ (wp_X5_copyFrom n M14 j16 j17 (fun M18 => ∀ M21 : Mem, M21 = uI M18 i 3 ((M18.1 i 3) + 1) → (P M21)))))))))))))
abbrev rm_X6_remember : Room := { frames := 2, cells := 0, slots := 0, locals := 44 }
set_option maxHeartbeats 4000000 in
set_option maxRecDepth 100000 in
theorem c_X6_remember {l : Launch} {D : va_G} {cA : Nat → ClassId} {b n : Nat} {M : Mem} {i : Nat} {P : Mem → Prop} (h : wp_X6_remember n M i P) : m_C l D cA b n n M yX6_remember cX6_remember 2 none rm_X6_remember 0 0 [.ref (b + i)] (rV P) := by
  refine m_enter (by decide) (Nat.le_of_ble_eq_true rfl) (fun p e s m below meth c C hr hlk hnm hK hP hS ls hl => ?_)
  have hx := C.1
  have hb := C.2.1
  have hl : lv_has ls 2 [(0, .ref (b + i))] := hl
  unfold wp_X6_remember at h
  refine lv_aload_n (pc := 0) hx hb dX6_remember_0 rfl (lv_at hl 0 rfl) ?_
  obtain ⟨hk1, h⟩ := h
  refine gX6_212 (pc := 1) C hK hP hk1 dX6_remember_1 ?_
  refine lv_aload_n (pc := 4) hx hb dX6_remember_4 rfl (lv_at hl 0 rfl) ?_
  obtain ⟨j2, hj2, h⟩ := h
  refine gX6_19 (pc := 5) C hK hP hk1 hj2 dX6_remember_5 ?_
  obtain ⟨hk3, h⟩ := h
  refine m_alen (pc := 8) (κ := 15) C hK hP hk3 (by decide) rfl dX6_remember_8 ?_
  refine lv_icmp_lt (tgt := 16) (pc := 9) hx hb dX6_remember_9 (by decide) (fun c9 => ?_) (fun c9 => ?_)
  · replace h := h.1 c9
    refine lv_aload_n (pc := 16) hx hb dX6_remember_16 rfl (lv_at hl 0 rfl) ?_
    refine lv_aload_n (pc := 17) hx hb dX6_remember_17 rfl (lv_at hl 0 rfl) ?_
    refine gX6_212 (pc := 18) C hK hP hk1 dX6_remember_18 ?_
    refine m_callVO (pc := 21) (y := yX6_pastAt) (κ := 6) (As := [.int (M.1 i 3)]) (rest := []) C hK hP hS hl.1 ⟨Nat.zero_le _, Nat.zero_le _⟩ (c_X6_pastAt h) rfl rfl hk1 (by decide) rfl q_271 q_273 q_s0 q_1 q_274 ⟨rfl, rfl⟩ yd_X6_pastAt ⟨Nat.le_of_ble_eq_true rfl, Nat.le_of_ble_eq_true rfl⟩ (Nat.le_of_ble_eq_true rfl) dX6_remember_21 (fun o5 M4 H locs h hP hS => ?_)
    refine m_astO_n (lv' := [(1, va_rf ((o5).map (fun j => b + j))), (0, .ref (b + i))]) hx hb (pc := 24) dX6_remember_24 rfl hl (by decide) rfl (fun ls hl => ?_)
    refine m_aldO_n hx hb (pc := 25) dX6_remember_25 rfl (lv_at hl 0 rfl) ?_
    rcases eo : o5 with _ | j6
    · replace h := h.1 eo
      refine lv_ifnullN (tgt := 47) (pc := 26) hx hb dX6_remember_26 (by decide) ?_
      try rw [eo] at hl
      exact m_vret (pc := 47) C hr hlk hP hS dX6_remember_47 h
    · replace h := h.2 j6 eo
      refine lv_ifnull (pc := 26) hx hb dX6_remember_26 ?_
      try rw [eo] at hl
      refine lv_aload_n (pc := 29) hx hb dX6_remember_29 rfl (lv_at hl 0 rfl) ?_
      refine lv_aload_n (pc := 30) hx hb dX6_remember_30 rfl (lv_at hl 1 rfl) ?_
      obtain ⟨j7, hj7, h⟩ := h
      refine gX6_10 (pc := 31) C hK hP hk1 hj7 dX6_remember_31 ?_
      obtain ⟨hk9, h⟩ := h
      refine m_callVV (pc := 34) (y := yX5_copyFrom) (κ := 5) (As := [.ref (b + j7)]) (rest := []) C hK hP hS hl.1 ⟨Nat.zero_le _, Nat.zero_le _⟩ (c_X5_copyFrom h) rfl rfl hk9 (by decide) rfl q_343 q_344 q_345 q_2 q_346 ⟨rfl, rfl⟩ yd_X5_copyFrom ⟨Nat.le_of_ble_eq_true rfl, Nat.le_of_ble_eq_true rfl⟩ (Nat.le_of_ble_eq_true rfl) dX6_remember_34 (fun M8 H locs h hP hS => ?_)
      refine lv_aload_n (pc := 37) hx hb dX6_remember_37 rfl (lv_at hl 1 rfl) ?_
      refine lv_dup (pc := 38) hx hb dX6_remember_38 rfl ?_
      refine gX6_212 (pc := 39) C hK hP hk1 dX6_remember_39 ?_
      refine lv_iconst (v := 1) (pc := 42) hx hb dX6_remember_42 (by decide) ?_
      refine lv_iadd (pc := 43) hx hb dX6_remember_43 ?_
      refine pX6_212 (pc := 44) (v := (M8.1 i 3) + 1) C hK hP hS hk1 dX6_remember_44 (fun M11 H locs eM11 hP hS => ?_)
      replace h := h M11 eM11
      exact m_vret (pc := 47) C hr hlk hP hS dX6_remember_47 h
  · replace h := h.2 c9
    refine lv_aload_n (pc := 12) hx hb dX6_remember_12 rfl (lv_at hl 0 rfl) ?_
    refine m_callVV (pc := 13) (y := yX6_dropOldest) (κ := 6) (As := []) (rest := []) C hK hP hS hl.1 ⟨Nat.zero_le _, Nat.zero_le _⟩ (c_X6_dropOldest h) rfl rfl hk1 (by decide) rfl q_547 q_549 q_s9 q_1 q_550 ⟨rfl, rfl⟩ yd_X6_dropOldest ⟨Nat.le_of_ble_eq_true rfl, Nat.le_of_ble_eq_true rfl⟩ (Nat.le_of_ble_eq_true rfl) dX6_remember_13 (fun M12 H locs h hP hS => ?_)
    refine lv_aload_n (pc := 16) hx hb dX6_remember_16 rfl (lv_at hl 0 rfl) ?_
    refine lv_aload_n (pc := 17) hx hb dX6_remember_17 rfl (lv_at hl 0 rfl) ?_
    refine gX6_212 (pc := 18) C hK hP hk1 dX6_remember_18 ?_
    refine m_callVO (pc := 21) (y := yX6_pastAt) (κ := 6) (As := [.int (M12.1 i 3)]) (rest := []) C hK hP hS hl.1 ⟨Nat.zero_le _, Nat.zero_le _⟩ (c_X6_pastAt h) rfl rfl hk1 (by decide) rfl q_271 q_273 q_s0 q_1 q_274 ⟨rfl, rfl⟩ yd_X6_pastAt ⟨Nat.le_of_ble_eq_true rfl, Nat.le_of_ble_eq_true rfl⟩ (Nat.le_of_ble_eq_true rfl) dX6_remember_21 (fun o15 M14 H locs h hP hS => ?_)
    refine m_astO_n (lv' := [(1, va_rf ((o15).map (fun j => b + j))), (0, .ref (b + i))]) hx hb (pc := 24) dX6_remember_24 rfl hl (by decide) rfl (fun ls hl => ?_)
    refine m_aldO_n hx hb (pc := 25) dX6_remember_25 rfl (lv_at hl 0 rfl) ?_
    rcases eo : o15 with _ | j16
    · replace h := h.1 eo
      refine lv_ifnullN (tgt := 47) (pc := 26) hx hb dX6_remember_26 (by decide) ?_
      try rw [eo] at hl
      exact m_vret (pc := 47) C hr hlk hP hS dX6_remember_47 h
    · replace h := h.2 j16 eo
      refine lv_ifnull (pc := 26) hx hb dX6_remember_26 ?_
      try rw [eo] at hl
      refine lv_aload_n (pc := 29) hx hb dX6_remember_29 rfl (lv_at hl 0 rfl) ?_
      refine lv_aload_n (pc := 30) hx hb dX6_remember_30 rfl (lv_at hl 1 rfl) ?_
      obtain ⟨j17, hj17, h⟩ := h
      refine gX6_10 (pc := 31) C hK hP hk1 hj17 dX6_remember_31 ?_
      obtain ⟨hk19, h⟩ := h
      refine m_callVV (pc := 34) (y := yX5_copyFrom) (κ := 5) (As := [.ref (b + j17)]) (rest := []) C hK hP hS hl.1 ⟨Nat.zero_le _, Nat.zero_le _⟩ (c_X5_copyFrom h) rfl rfl hk19 (by decide) rfl q_343 q_344 q_345 q_2 q_346 ⟨rfl, rfl⟩ yd_X5_copyFrom ⟨Nat.le_of_ble_eq_true rfl, Nat.le_of_ble_eq_true rfl⟩ (Nat.le_of_ble_eq_true rfl) dX6_remember_34 (fun M18 H locs h hP hS => ?_)
      refine lv_aload_n (pc := 37) hx hb dX6_remember_37 rfl (lv_at hl 1 rfl) ?_
      refine lv_dup (pc := 38) hx hb dX6_remember_38 rfl ?_
      refine gX6_212 (pc := 39) C hK hP hk1 dX6_remember_39 ?_
      refine lv_iconst (v := 1) (pc := 42) hx hb dX6_remember_42 (by decide) ?_
      refine lv_iadd (pc := 43) hx hb dX6_remember_43 ?_
      refine pX6_212 (pc := 44) (v := (M18.1 i 3) + 1) C hK hP hS hk1 dX6_remember_44 (fun M21 H locs eM21 hP hS => ?_)
      replace h := h M21 eM21
      exact m_vret (pc := 47) C hr hlk hP hS dX6_remember_47 h
