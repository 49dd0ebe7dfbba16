/-! ForgeHeats$Billet.<init> -/
def wp_X0_init (n : Nat) (M : Mem) (i : Nat) (P : Mem → Prop) : Prop := m_tp (n + 0) i 0 ∧ (∀ M2 : Mem, M2 = uI M i 0 (-1) → (0 = 0 ∧ (P M2)))
abbrev rm_X0_init : Room := { frames := 1, cells := 0, slots := 0, locals := 20 }
set_option maxHeartbeats 4000000 in
set_option maxRecDepth 100000 in
theorem c_X0_init {l : Launch} {D : va_G} {cA : Nat → ClassId} {b n : Nat} {M : Mem} {i : Nat} {P : Mem → Prop} (h : wp_X0_init n M i P) : m_CN l D cA b n (n + 0) M yX0_init cX0_init 1 rm_X0_init 0 [.ref (b + i)] (rV P) := by
  refine m_enterN (by decide) (Nat.le_of_ble_eq_true rfl) (fun p e s m below meth c C hr hlk hnm hB hY hK hP hS ls hl => ?_)
  have hx := C.1
  have hb := C.2.1
  have hl : lv_has ls 1 [(0, .ref (b + i))] := hl
  have hP : m_H D cA b (n + 0) M s.heap := hP
  unfold wp_X0_init at h
  refine lv_aload_n (pc := 0) hx hb dX0_init_0 rfl (lv_at hl 0 rfl) ?_
  refine m_objinit (pc := 1) C hl.1 q_140 q_21 q_22 ⟨Nat.le_of_ble_eq_true rfl, Nat.le_of_ble_eq_true rfl⟩ (Nat.le_of_ble_eq_true rfl) dX0_init_1 ?_
  refine lv_aload_n (pc := 4) hx hb dX0_init_4 rfl (lv_at hl 0 rfl) ?_
  refine lv_iconst (v := -1) (pc := 5) hx hb dX0_init_5 (by decide) ?_
  obtain ⟨hk1, h⟩ := h
  refine pX0_9 (pc := 6) (v := (-1)) C hK hP hS hk1 dX0_init_6 (fun M2 H locs eM2 hP hS => ?_)
  replace h := h M2 eM2
  obtain ⟨hk9, h⟩ := h
  exact m_vretN (pc := 9) hk9 C hr hlk hP hS dX0_init_9 h
/-! ForgeHeats$Die.<init> -/
def wp_X1_init (n : Nat) (M : Mem) (i : Nat) (P : Mem → Prop) : Prop := m_tp (n + 0) i 1 ∧ (∀ M2 : Mem, M2 = uI M i 0 3 → (∀ M3 : Mem, M3 = uI M2 i 1 60 → (0 = 0 ∧ (P M3))))
abbrev rm_X1_init : Room := { frames := 1, cells := 0, slots := 0, locals := 20 }
set_option maxHeartbeats 4000000 in
set_option maxRecDepth 100000 in
theorem c_X1_init {l : Launch} {D : va_G} {cA : Nat → ClassId} {b n : Nat} {M : Mem} {i : Nat} {P : Mem → Prop} (h : wp_X1_init n M i P) : m_CN l D cA b n (n + 0) M yX1_init cX1_init 1 rm_X1_init 0 [.ref (b + i)] (rV P) := by
  refine m_enterN (by decide) (Nat.le_of_ble_eq_true rfl) (fun p e s m below meth c C hr hlk hnm hB hY hK hP hS ls hl => ?_)
  have hx := C.1
  have hb := C.2.1
  have hl : lv_has ls 1 [(0, .ref (b + i))] := hl
  have hP : m_H D cA b (n + 0) M s.heap := hP
  unfold wp_X1_init at h
  refine lv_aload_n (pc := 0) hx hb dX1_init_0 rfl (lv_at hl 0 rfl) ?_
  refine m_objinit (pc := 1) C hl.1 q_66 q_21 q_22 ⟨Nat.le_of_ble_eq_true rfl, Nat.le_of_ble_eq_true rfl⟩ (Nat.le_of_ble_eq_true rfl) dX1_init_1 ?_
  refine lv_aload_n (pc := 4) hx hb dX1_init_4 rfl (lv_at hl 0 rfl) ?_
  refine lv_iconst (v := 3) (pc := 5) hx hb dX1_init_5 (by decide) ?_
  obtain ⟨hk1, h⟩ := h
  refine pX1_9 (pc := 6) (v := 3) C hK hP hS hk1 dX1_init_6 (fun M2 H locs eM2 hP hS => ?_)
  replace h := h M2 eM2
  refine lv_aload_n (pc := 9) hx hb dX1_init_9 rfl (lv_at hl 0 rfl) ?_
  refine lv_bipush (v := 60) (pc := 10) hx hb dX1_init_10 (by decide) ?_
  refine pX1_15 (pc := 12) (v := 60) C hK hP hS hk1 dX1_init_12 (fun M3 H locs eM3 hP hS => ?_)
  replace h := h M3 eM3
  obtain ⟨hk9, h⟩ := h
  exact m_vretN (pc := 15) hk9 C hr hlk hP hS dX1_init_15 h
/-! ForgeHeats$Heat.<init> -/
def wp_X2_init (n : Nat) (M : Mem) (i : Nat) (P : Mem → Prop) : Prop := m_tp (n + 0) i 2 ∧ (∀ M2 : Mem, M2 = uI M i 1 900 → (∀ M3 : Mem, M3 = uI M2 i 2 1100 → (0 = 0 ∧ (P M3))))
abbrev rm_X2_init : Room := { frames := 1, cells := 0, slots := 0, locals := 20 }
set_option maxHeartbeats 4000000 in
set_option maxRecDepth 100000 in
theorem c_X2_init {l : Launch} {D : va_G} {cA : Nat → ClassId} {b n : Nat} {M : Mem} {i : Nat} {P : Mem → Prop} (h : wp_X2_init n M i P) : m_CN l D cA b n (n + 0) M yX2_init cX2_init 1 rm_X2_init 0 [.ref (b + i)] (rV P) := by
  refine m_enterN (by decide) (Nat.le_of_ble_eq_true rfl) (fun p e s m below meth c C hr hlk hnm hB hY hK hP hS ls hl => ?_)
  have hx := C.1
  have hb := C.2.1
  have hl : lv_has ls 1 [(0, .ref (b + i))] := hl
  have hP : m_H D cA b (n + 0) M s.heap := hP
  unfold wp_X2_init at h
  refine lv_aload_n (pc := 0) hx hb dX2_init_0 rfl (lv_at hl 0 rfl) ?_
  refine m_objinit (pc := 1) C hl.1 q_35 q_21 q_22 ⟨Nat.le_of_ble_eq_true rfl, Nat.le_of_ble_eq_true rfl⟩ (Nat.le_of_ble_eq_true rfl) dX2_init_1 ?_
  refine lv_aload_n (pc := 4) hx hb dX2_init_4 rfl (lv_at hl 0 rfl) ?_
  refine lv_sipush (v := 900) (pc := 5) hx hb dX2_init_5 (by decide) ?_
  obtain ⟨hk1, h⟩ := h
  refine pX2_7 (pc := 8) (v := 900) C hK hP hS hk1 dX2_init_8 (fun M2 H locs eM2 hP hS => ?_)
  replace h := h M2 eM2
  refine lv_aload_n (pc := 11) hx hb dX2_init_11 rfl (lv_at hl 0 rfl) ?_
  refine lv_sipush (v := 1100) (pc := 12) hx hb dX2_init_12 (by decide) ?_
  refine pX2_13 (pc := 15) (v := 1100) C hK hP hS hk1 dX2_init_15 (fun M3 H locs eM3 hP hS => ?_)
  replace h := h M3 eM3
  obtain ⟨hk9, h⟩ := h
  exact m_vretN (pc := 18) hk9 C hr hlk hP hS dX2_init_18 h
/-! ForgeHeats$Job.<init> -/
def wp_X3_init (n : Nat) (M : Mem) (i : Nat) (P : Mem → Prop) : Prop := 0 = 0 ∧ (P M)
abbrev rm_X3_init : Room := { frames := 1, cells := 0, slots := 0, locals := 20 }
set_option maxHeartbeats 4000000 in
set_option maxRecDepth 100000 in
theorem c_X3_init {l : Launch} {D : va_G} {cA : Nat → ClassId} {b n : Nat} {M : Mem} {i : Nat} {P : Mem → Prop} (h : wp_X3_init n M i P) : m_CN l D cA b n (n + 0) M yX3_init cX3_init 1 rm_X3_init 0 [.ref (b + i)] (rV P) := by
  refine m_enterN (by decide) (Nat.le_of_ble_eq_true rfl) (fun p e s m below meth c C hr hlk hnm hB hY hK hP hS ls hl => ?_)
  have hx := C.1
  have hb := C.2.1
  have hl : lv_has ls 1 [(0, .ref (b + i))] := hl
  have hP : m_H D cA b (n + 0) M s.heap := hP
  unfold wp_X3_init at h
  refine lv_aload_n (pc := 0) hx hb dX3_init_0 rfl (lv_at hl 0 rfl) ?_
  refine m_objinit (pc := 1) C hl.1 q_100 q_21 q_22 ⟨Nat.le_of_ble_eq_true rfl, Nat.le_of_ble_eq_true rfl⟩ (Nat.le_of_ble_eq_true rfl) dX3_init_1 ?_
  obtain ⟨hk9, h⟩ := h
  exact m_vretN (pc := 4) hk9 C hr hlk hP hS dX3_init_4 h
/-! ForgeHeats$JobText.<init> -/
def wp_X4_init (n : Nat) (M : Mem) (i : Nat) (P : Mem → Prop) : Prop := 0 + 1 ≤ 1 ∧ (m_kd (n + 0) = 9 ∧ m_len (n + 0) = 60 ∧ (∀ M1 : Mem, M1 = uN M (n + 0) → (m_tp (n + 1) i 4 ∧ (∀ M4 : Mem, M4 = uR M1 i 0 (some ((n + 0))) → (1 = 1 ∧ (P M4))))))
abbrev rm_X4_init : Room := { frames := 1, cells := 1, slots := 1000, locals := 20 }
set_option maxHeartbeats 4000000 in
set_option maxRecDepth 100000 in
theorem c_X4_init {l : Launch} {D : va_G} {cA : Nat → ClassId} {b n : Nat} {M : Mem} {i : Nat} {P : Mem → Prop} (h : wp_X4_init n M i P) : m_CN l D cA b n (n + 1) M yX4_init cX4_init 1 rm_X4_init 1 [.ref (b + i)] (rV P) := by
  refine m_enterN (by decide) (Nat.le_of_ble_eq_true rfl) (fun p e s m below meth c C hr hlk hnm hB hY hK hP hS ls hl => ?_)
  have hx := C.1
  have hb := C.2.1
  have hl : lv_has ls 1 [(0, .ref (b + i))] := hl
  have hP : m_H D cA b (n + 0) M s.heap := hP
  unfold wp_X4_init at h
  refine lv_aload_n (pc := 0) hx hb dX4_init_0 rfl (lv_at hl 0 rfl) ?_
  refine m_objinit (pc := 1) C hl.1 q_229 q_21 q_22 ⟨Nat.le_of_ble_eq_true rfl, Nat.le_of_ble_eq_true rfl⟩ (Nat.le_of_ble_eq_true rfl) dX4_init_1 ?_
  refine lv_aload_n (pc := 4) hx hb dX4_init_4 rfl (lv_at hl 0 rfl) ?_
  refine lv_bipush (v := 60) (pc := 5) hx hb dX4_init_5 (by decide) ?_
  obtain ⟨hk2, ⟨hkd, hln, h⟩⟩ := h
  refine m_newarrN (pc := 7) (k := 0) (k' := 1) (κ := 9) (N := 60) (ty := .char) C hK hP hS hB rfl hkd (by decide) rfl rfl (fun _ => rfl) m_cell9 hln (by decide +kernel) (by decide) q_250 ⟨Nat.le_trans hk2 (Nat.le_of_ble_eq_true rfl), Nat.le_trans (Nat.mul_le_mul_left 1000 hk2) (Nat.le_of_ble_eq_true rfl)⟩ (Nat.le_of_ble_eq_true rfl) dX4_init_7 (fun M1 H locs eM1 hP hS => ?_)
  replace h := h M1 eM1
  obtain ⟨hk3, h⟩ := h
  refine pfX4_11 (pc := 9) C hK hP hS hnm hk3 dX4_init_9 (fun M4 H locs eM4 hP hS => ?_)
  replace h := h M4 eM4
  obtain ⟨hk9, h⟩ := h
  exact m_vretN (pc := 12) hk9 C hr hlk hP hS dX4_init_12 h
/-! ForgeHeats$Shop.<init> -/
def wpB_X5_init_153 (n : Nat) (P : Mem → Prop) (R_ : Nat → Mem → Nat → Int32 → Prop) (k : Nat) (M : Mem) (x0 : Nat) (x1 : Int32) : Prop := m_tp (n + k) x0 5 ∧ (∃ j32 : Nat, M.2.1 x0 3 = some j32 ∧ (m_tp (n + k) j32 11 ∧ ((((nI (m_len j32)) ≤ x1 → k + 1 ≤ 33 ∧ (m_kd (n + k) = 0 ∧ (∀ M34 : Mem, M34 = uN M (n + k) → ((k + 1) + 0 ≤ 33 ∧ (wp_X0_init (n + (k + 1)) M34 ((n + k)) (fun M36 => m_tp (n + (k + 1)) x0 5 ∧ (∀ M39 : Mem, M39 = uR M36 x0 4 (some ((n + k))) → ((k + 1) + 1 ≤ 33 ∧ (m_kd (n + (k + 1)) = 2 ∧ (∀ M40 : Mem, M40 = uN M39 (n + (k + 1)) → ((k + 2) + 0 ≤ 33 ∧ (wp_X2_init (n + (k + 2)) M40 ((n + (k + 1))) (fun M42 => m_tp (n + (k + 2)) x0 5 ∧ (∀ M45 : Mem, M45 = uR M42 x0 16 (some ((n + (k + 1)))) → ((k + 2) + 1 ≤ 33 ∧ (m_kd (n + (k + 2)) = 1 ∧ (∀ M46 : Mem, M46 = uN M45 (n + (k + 2)) → ((k + 3) + 0 ≤ 33 ∧ (wp_X1_init (n + (k + 3)) M46 ((n + (k + 2))) (fun M48 => m_tp (n + (k + 3)) x0 5 ∧ (∀ M51 : Mem, M51 = uR M48 x0 17 (some ((n + (k + 2)))) → ((k + 3) + 1 ≤ 33 ∧ (m_kd (n + (k + 3)) = 3 ∧ (∀ M52 : Mem, M52 = uN M51 (n + (k + 3)) → ((k + 4) + 0 ≤ 33 ∧ (wp_X3_init (n + (k + 4)) M52 ((n + (k + 3))) (fun M54 => m_tp (n + (k + 4)) x0 5 ∧ (∀ M57 : Mem, M57 = uR M54 x0 18 (some ((n + (k + 3)))) → ((k + 4) = 33 ∧ (P M57)))))))))))))))))))))))))))))) ∧ (¬ (nI (m_len j32)) ≤ x1 → ∃ j58 : Nat, M.2.1 x0 3 = some j58 ∧ (k + 1 ≤ 33 ∧ (m_kd (n + k) = 0 ∧ (∀ M59 : Mem, M59 = uN M (n + k) → ((k + 1) + 0 ≤ 33 ∧ (wp_X0_init (n + (k + 1)) M59 ((n + k)) (fun M61 => m_tp (n + (k + 1)) j58 11 ∧ (m_tp (n + (k + 1)) ((n + k)) 0 ∧ (vp_in x1 (m_len j58) ∧ (∀ M66 : Mem, M66 = uR M61 j58 x1.toNatClampNeg (some ((n + k))) → (∀ v67 : Int32, v67 = x1 + 1 → (R_ (k + 1) M66 x0 v67))))))))))))))))
def wpL_X5_init_153 (n : Nat) (P : Mem → Prop) : Nat → Nat → Mem → Nat → Int32 → Prop
  | 0 => fun _ _ _ _ => False
  | f + 1 => fun k M x0 x1 => wpB_X5_init_153 n P (wpL_X5_init_153 n P f) k M x0 x1
def wpB_X5_init_114 (n : Nat) (P : Mem → Prop) (R_ : Nat → Mem → Nat → Int32 → Prop) (k : Nat) (M : Mem) (x0 : Nat) (x1 : Int32) : Prop := m_tp (n + k) x0 5 ∧ (∃ j25 : Nat, M.2.1 x0 2 = some j25 ∧ (m_tp (n + k) j25 14 ∧ ((((nI (m_len j25)) ≤ x1 → k + 1 ≤ 33 ∧ (m_kd (n + k) = 11 ∧ m_len (n + k) = 6 ∧ (∀ M27 : Mem, M27 = uN M (n + k) → (m_tp (n + (k + 1)) x0 5 ∧ (∀ M30 : Mem, M30 = uR M27 x0 3 (some ((n + k))) → (∃ f : Nat, wpL_X5_init_153 n P f (k + 1) M30 x0 0)))))) ∧ (¬ (nI (m_len j25)) ≤ x1 → ∃ j68 : Nat, M.2.1 x0 2 = some j68 ∧ (k + 1 ≤ 33 ∧ (m_kd (n + k) = 3 ∧ (∀ M69 : Mem, M69 = uN M (n + k) → ((k + 1) + 0 ≤ 33 ∧ (wp_X3_init (n + (k + 1)) M69 ((n + k)) (fun M71 => m_tp (n + (k + 1)) j68 14 ∧ (m_tp (n + (k + 1)) ((n + k)) 3 ∧ (vp_in x1 (m_len j68) ∧ (∀ M76 : Mem, M76 = uR M71 j68 x1.toNatClampNeg (some ((n + k))) → (∀ v77 : Int32, v77 = x1 + 1 → (R_ (k + 1) M76 x0 v77))))))))))))))))
def wpL_X5_init_114 (n : Nat) (P : Mem → Prop) : Nat → Nat → Mem → Nat → Int32 → Prop
  | 0 => fun _ _ _ _ => False
  | f + 1 => fun k M x0 x1 => wpB_X5_init_114 n P (wpL_X5_init_114 n P f) k M x0 x1
def wpB_X5_init_75 (n : Nat) (P : Mem → Prop) (R_ : Nat → Mem → Nat → Int32 → Prop) (k : Nat) (M : Mem) (x0 : Nat) (x1 : Int32) : Prop := m_tp (n + k) x0 5 ∧ (∃ j18 : Nat, M.2.1 x0 1 = some j18 ∧ (m_tp (n + k) j18 12 ∧ ((((nI (m_len j18)) ≤ x1 → k + 1 ≤ 33 ∧ (m_kd (n + k) = 14 ∧ m_len (n + k) = 10 ∧ (∀ M20 : Mem, M20 = uN M (n + k) → (m_tp (n + (k + 1)) x0 5 ∧ (∀ M23 : Mem, M23 = uR M20 x0 2 (some ((n + k))) → (∃ f : Nat, wpL_X5_init_114 n P f (k + 1) M23 x0 0)))))) ∧ (¬ (nI (m_len j18)) ≤ x1 → ∃ j78 : Nat, M.2.1 x0 1 = some j78 ∧ (k + 1 ≤ 33 ∧ (m_kd (n + k) = 1 ∧ (∀ M79 : Mem, M79 = uN M (n + k) → ((k + 1) + 0 ≤ 33 ∧ (wp_X1_init (n + (k + 1)) M79 ((n + k)) (fun M81 => m_tp (n + (k + 1)) j78 12 ∧ (m_tp (n + (k + 1)) ((n + k)) 1 ∧ (vp_in x1 (m_len j78) ∧ (∀ M86 : Mem, M86 = uR M81 j78 x1.toNatClampNeg (some ((n + k))) → (∀ v87 : Int32, v87 = x1 + 1 → (R_ (k + 1) M86 x0 v87))))))))))))))))
def wpL_X5_init_75 (n : Nat) (P : Mem → Prop) : Nat → Nat → Mem → Nat → Int32 → Prop
  | 0 => fun _ _ _ _ => False
  | f + 1 => fun k M x0 x1 => wpB_X5_init_75 n P (wpL_X5_init_75 n P f) k M x0 x1
def wpB_X5_init_37 (n : Nat) (P : Mem → Prop) (R_ : Nat → Mem → Nat → Int32 → Prop) (k : Nat) (M : Mem) (x0 : Nat) (x1 : Int32) : Prop := m_tp (n + k) x0 5 ∧ (∃ j11 : Nat, M.2.1 x0 0 = some j11 ∧ (m_tp (n + k) j11 13 ∧ ((((nI (m_len j11)) ≤ x1 → k + 1 ≤ 33 ∧ (m_kd (n + k) = 12 ∧ m_len (n + k) = 5 ∧ (∀ M13 : Mem, M13 = uN M (n + k) → (m_tp (n + (k + 1)) x0 5 ∧ (∀ M16 : Mem, M16 = uR M13 x0 1 (some ((n + k))) → (∃ f : Nat, wpL_X5_init_75 n P f (k + 1) M16 x0 0)))))) ∧ (¬ (nI (m_len j11)) ≤ x1 → ∃ j88 : Nat, M.2.1 x0 0 = some j88 ∧ (k + 1 ≤ 33 ∧ (m_kd (n + k) = 2 ∧ (∀ M89 : Mem, M89 = uN M (n + k) → ((k + 1) + 0 ≤ 33 ∧ (wp_X2_init (n + (k + 1)) M89 ((n + k)) (fun M91 => m_tp (n + (k + 1)) j88 13 ∧ (m_tp (n + (k + 1)) ((n + k)) 2 ∧ (vp_in x1 (m_len j88) ∧ (∀ M96 : Mem, M96 = uR M91 j88 x1.toNatClampNeg (some ((n + k))) → (∀ v97 : Int32, v97 = x1 + 1 → (R_ (k + 1) M96 x0 v97))))))))))))))))
def wpL_X5_init_37 (n : Nat) (P : Mem → Prop) : Nat → Nat → Mem → Nat → Int32 → Prop
  | 0 => fun _ _ _ _ => False
  | f + 1 => fun k M x0 x1 => wpB_X5_init_37 n P (wpL_X5_init_37 n P f) k M x0 x1
def wp_X5_init (n : Nat) (M : Mem) (i : Nat) (P : Mem → Prop) : Prop := m_tp (n + 0) i 5 ∧ (∀ M2 : Mem, M2 = uI M i 7 150 → (∀ M3 : Mem, M3 = uI M2 i 8 40 → (∀ M4 : Mem, M4 = uI M3 i 9 1 → (∀ M5 : Mem, M5 = uI M4 i 10 5 → (0 + 1 ≤ 33 ∧ (m_kd (n + 0) = 13 ∧ m_len (n + 0) = 4 ∧ (∀ M6 : Mem, M6 = uN M5 (n + 0) → (m_tp (n + 1) i 5 ∧ (∀ M9 : Mem, M9 = uR M6 i 0 (some ((n + 0))) → (∃ f : Nat, wpL_X5_init_37 n P f 1 M9 i 0))))))))))
abbrev rm_X5_init : Room := { frames := 2, cells := 33, slots := 33000, locals := 40 }
set_option maxHeartbeats 4000000 in
set_option maxRecDepth 100000 in
theorem c_X5_init {l : Launch} {D : va_G} {cA : Nat → ClassId} {b n : Nat} {M : Mem} {i : Nat} {P : Mem → Prop} (h : wp_X5_init n M i P) : m_CN l D cA b n (n + 33) M yX5_init cX5_init 2 rm_X5_init 33 [.ref (b + i)] (rV P) := by
  refine m_enterN (by decide) (Nat.le_of_ble_eq_true rfl) (fun p e s m below meth c C hr hlk hnm hB hY hK hP hS ls hl => ?_)
  have hx := C.1
  have hb := C.2.1
  have hl : lv_has ls 2 [(0, .ref (b + i))] := hl
  have hP : m_H D cA b (n + 0) M s.heap := hP
  have L153 : ∀ f : Nat, ∀ (k : Nat) (M : Mem) (H : Heap) (locs : List Loc) (ls : Array Slot) (x0 : Nat) (x1 : Int32), wpL_X5_init_153 n P f k M x0 x1 → m_H D cA b (n + k) M H → va_S (m_A b) s.heap H locs → lv_has ls 2 [(0, .ref (b + x0)), (1, .int x1)] → W p l e rm_X5_init s m ([.ref (b + i)] : List Value).toArray below meth c H locs k (1000 * k) (MQ below (m_Q D cA b (n + 33) (rV P)) ([.ref (b + i)] : List Value).toArray s 33 (1000 * 33) (m_A b)) (F0 m 153 ls []) := by
    clear h
    intro f
    induction f with
    | zero => intro k M H locs ls x0 x1 h; exact h.elim
    | succ f ih =>
      intro k M H locs ls x0 x1 h hP hS hl
      have h : wpB_X5_init_153 n P (wpL_X5_init_153 n P f) k M x0 x1 := h
      unfold wpB_X5_init_153 at h
      refine lv_iload_n (pc := 153) hx hb dX5_init_153 rfl (lv_at hl 1 rfl) ?_
      refine lv_aload_n (pc := 154) hx hb dX5_init_154 rfl (lv_at hl 0 rfl) ?_
      obtain ⟨hk31, h⟩ := h
      obtain ⟨j32, hj32, h⟩ := h
      refine gX5_47 (pc := 155) C hK hP hk31 hj32 dX5_init_155 ?_
      obtain ⟨hk33, h⟩ := h
      refine m_alen (pc := 158) (κ := 11) C hK hP hk33 (by decide) rfl dX5_init_158 ?_
      refine lv_icmp_ge (tgt := 181) (pc := 159) hx hb dX5_init_159 (by decide) (fun c159 => ?_) (fun c159 => ?_)
      · replace h := h.1 c159
        refine lv_aload_n (pc := 181) hx hb dX5_init_181 rfl (lv_at hl 0 rfl) ?_
        obtain ⟨hk35, hkd, h⟩ := h
        refine m_newoN (pc := 182) (k := k) (k' := (k + 1)) (κ := 0) C hK hP hS hB rfl hkd (by decide) rfl inT0 tyX0_ok (by decide) q_134 q_136 q_6 ⟨Nat.le_trans hk35 (Nat.le_of_ble_eq_true rfl), Nat.le_trans (Nat.mul_le_mul_left 1000 hk35) (Nat.le_of_ble_eq_true rfl)⟩ (Nat.le_of_ble_eq_true rfl) dX5_init_182 (fun M34 H locs eM34 hP hS => ?_)
        replace h := h M34 eM34
        refine lv_dup (pc := 185) hx hb dX5_init_185 rfl ?_
        obtain ⟨hk37, h⟩ := h
        refine m_callNW (pc := 186) (y := yX0_init) (k := (k + 1)) (kc := 0) (k' := (k + 1)) (As := []) (rest := [.ref (b + (n + k)), .ref (b + x0)]) C hK hY hP hS hB hl.1 ⟨Nat.le_trans hk37 (Nat.le_of_ble_eq_true rfl), Nat.le_trans (Nat.mul_le_mul_left 1000 hk37) (Nat.le_of_ble_eq_true rfl)⟩ rfl (c_X0_init h) rfl rfl (host := "ForgeHeats") (by decide +kernel) q_138 rfl q_6 q_139 ⟨rfl, rfl⟩ yd_X0_init ⟨Nat.le_of_ble_eq_true rfl, Nat.le_of_ble_eq_true rfl⟩ (Nat.le_of_ble_eq_true rfl) dX5_init_186 (fun M36 H locs h hP hS => ?_)
        obtain ⟨hk38, h⟩ := h
        refine pfX5_52 (pc := 189) C hK hP hS hnm hk38 dX5_init_189 (fun M39 H locs eM39 hP hS => ?_)
        replace h := h M39 eM39
        refine lv_aload_n (pc := 192) hx hb dX5_init_192 rfl (lv_at hl 0 rfl) ?_
        obtain ⟨hk41, hkd, h⟩ := h
        refine m_newoN (pc := 193) (k := (k + 1)) (k' := (k + 2)) (κ := 2) C hK hP hS hB rfl hkd (by decide) rfl inT2 tyX2_ok (by decide) q_29 q_31 q_3 ⟨Nat.le_trans hk41 (Nat.le_of_ble_eq_true rfl), Nat.le_trans (Nat.mul_le_mul_left 1000 hk41) (Nat.le_of_ble_eq_true rfl)⟩ (Nat.le_of_ble_eq_true rfl) dX5_init_193 (fun M40 H locs eM40 hP hS => ?_)
        replace h := h M40 eM40
        refine lv_dup (pc := 196) hx hb dX5_init_196 rfl ?_
        obtain ⟨hk43, h⟩ := h
        refine m_callNW (pc := 197) (y := yX2_init) (k := (k + 2)) (kc := 0) (k' := (k + 2)) (As := []) (rest := [.ref (b + (n + (k + 1))), .ref (b + x0)]) C hK hY hP hS hB hl.1 ⟨Nat.le_trans hk43 (Nat.le_of_ble_eq_true rfl), Nat.le_trans (Nat.mul_le_mul_left 1000 hk43) (Nat.le_of_ble_eq_true rfl)⟩ rfl (c_X2_init h) rfl rfl (host := "ForgeHeats") (by decide +kernel) q_33 rfl q_3 q_34 ⟨rfl, rfl⟩ yd_X2_init ⟨Nat.le_of_ble_eq_true rfl, Nat.le_of_ble_eq_true rfl⟩ (Nat.le_of_ble_eq_true rfl) dX5_init_197 (fun M42 H locs h hP hS => ?_)
        obtain ⟨hk44, h⟩ := h
        refine pfX5_56 (pc := 200) C hK hP hS hnm hk44 dX5_init_200 (fun M45 H locs eM45 hP hS => ?_)
        replace h := h M45 eM45
        refine lv_aload_n (pc := 203) hx hb dX5_init_203 rfl (lv_at hl 0 rfl) ?_
        obtain ⟨hk47, hkd, h⟩ := h
        refine m_newoN (pc := 204) (k := (k + 2)) (k' := (k + 3)) (κ := 1) C hK hP hS hB rfl hkd (by decide) rfl inT1 tyX1_ok (by decide) q_60 q_62 q_4 ⟨Nat.le_trans hk47 (Nat.le_of_ble_eq_true rfl), Nat.le_trans (Nat.mul_le_mul_left 1000 hk47) (Nat.le_of_ble_eq_true rfl)⟩ (Nat.le_of_ble_eq_true rfl) dX5_init_204 (fun M46 H locs eM46 hP hS => ?_)
        replace h := h M46 eM46
        refine lv_dup (pc := 207) hx hb dX5_init_207 rfl ?_
        obtain ⟨hk49, h⟩ := h
        refine m_callNW (pc := 208) (y := yX1_init) (k := (k + 3)) (kc := 0) (k' := (k + 3)) (As := []) (rest := [.ref (b + (n + (k + 2))), .ref (b + x0)]) C hK hY hP hS hB hl.1 ⟨Nat.le_trans hk49 (Nat.le_of_ble_eq_true rfl), Nat.le_trans (Nat.mul_le_mul_left 1000 hk49) (Nat.le_of_ble_eq_true rfl)⟩ rfl (c_X1_init h) rfl rfl (host := "ForgeHeats") (by decide +kernel) q_64 rfl q_4 q_65 ⟨rfl, rfl⟩ yd_X1_init ⟨Nat.le_of_ble_eq_true rfl, Nat.le_of_ble_eq_true rfl⟩ (Nat.le_of_ble_eq_true rfl) dX5_init_208 (fun M48 H locs h hP hS => ?_)
        obtain ⟨hk50, h⟩ := h
        refine pfX5_60 (pc := 211) C hK hP hS hnm hk50 dX5_init_211 (fun M51 H locs eM51 hP hS => ?_)
        replace h := h M51 eM51
        refine lv_aload_n (pc := 214) hx hb dX5_init_214 rfl (lv_at hl 0 rfl) ?_
        obtain ⟨hk53, hkd, h⟩ := h
        refine m_newoN (pc := 215) (k := (k + 3)) (k' := (k + 4)) (κ := 3) C hK hP hS hB rfl hkd (by decide) rfl inT3 tyX3_ok (by decide) q_94 q_96 q_5 ⟨Nat.le_trans hk53 (Nat.le_of_ble_eq_true rfl), Nat.le_trans (Nat.mul_le_mul_left 1000 hk53) (Nat.le_of_ble_eq_true rfl)⟩ (Nat.le_of_ble_eq_true rfl) dX5_init_215 (fun M52 H locs eM52 hP hS => ?_)
        replace h := h M52 eM52
        refine lv_dup (pc := 218) hx hb dX5_init_218 rfl ?_
        obtain ⟨hk55, h⟩ := h
        refine m_callNW (pc := 219) (y := yX3_init) (k := (k + 4)) (kc := 0) (k' := (k + 4)) (As := []) (rest := [.ref (b + (n + (k + 3))), .ref (b + x0)]) C hK hY hP hS hB hl.1 ⟨Nat.le_trans hk55 (Nat.le_of_ble_eq_true rfl), Nat.le_trans (Nat.mul_le_mul_left 1000 hk55) (Nat.le_of_ble_eq_true rfl)⟩ rfl (c_X3_init h) rfl rfl (host := "ForgeHeats") (by decide +kernel) q_98 rfl q_5 q_99 ⟨rfl, rfl⟩ yd_X3_init ⟨Nat.le_of_ble_eq_true rfl, Nat.le_of_ble_eq_true rfl⟩ (Nat.le_of_ble_eq_true rfl) dX5_init_219 (fun M54 H locs h hP hS => ?_)
        obtain ⟨hk56, h⟩ := h
        refine pfX5_64 (pc := 222) C hK hP hS hnm hk56 dX5_init_222 (fun M57 H locs eM57 hP hS => ?_)
        replace h := h M57 eM57
        obtain ⟨hk9, h⟩ := h
        exact m_vretN (pc := 225) hk9 C hr hlk hP hS dX5_init_225 h
      · replace h := h.2 c159
        refine lv_aload_n (pc := 162) hx hb dX5_init_162 rfl (lv_at hl 0 rfl) ?_
        obtain ⟨j58, hj58, h⟩ := h
        refine gX5_47 (pc := 163) C hK hP hk31 hj58 dX5_init_163 ?_
        refine lv_iload_n (pc := 166) hx hb dX5_init_166 rfl (lv_at hl 1 rfl) ?_
        obtain ⟨hk60, hkd, h⟩ := h
        refine m_newoN (pc := 167) (k := k) (k' := (k + 1)) (κ := 0) C hK hP hS hB rfl hkd (by decide) rfl inT0 tyX0_ok (by decide) q_134 q_136 q_6 ⟨Nat.le_trans hk60 (Nat.le_of_ble_eq_true rfl), Nat.le_trans (Nat.mul_le_mul_left 1000 hk60) (Nat.le_of_ble_eq_true rfl)⟩ (Nat.le_of_ble_eq_true rfl) dX5_init_167 (fun M59 H locs eM59 hP hS => ?_)
        replace h := h M59 eM59
        refine lv_dup (pc := 170) hx hb dX5_init_170 rfl ?_
        obtain ⟨hk62, h⟩ := h
        refine m_callNW (pc := 171) (y := yX0_init) (k := (k + 1)) (kc := 0) (k' := (k + 1)) (As := []) (rest := [.ref (b + (n + k)), .int x1, .ref (b + j58)]) C hK hY hP hS hB hl.1 ⟨Nat.le_trans hk62 (Nat.le_of_ble_eq_true rfl), Nat.le_trans (Nat.mul_le_mul_left 1000 hk62) (Nat.le_of_ble_eq_true rfl)⟩ rfl (c_X0_init h) rfl rfl (host := "ForgeHeats") (by decide +kernel) q_138 rfl q_6 q_139 ⟨rfl, rfl⟩ yd_X0_init ⟨Nat.le_of_ble_eq_true rfl, Nat.le_of_ble_eq_true rfl⟩ (Nat.le_of_ble_eq_true rfl) dX5_init_171 (fun M61 H locs h hP hS => ?_)
        obtain ⟨hk63, h⟩ := h
        obtain ⟨hk64, h⟩ := h
        obtain ⟨hi65, h⟩ := h
        refine m_astq (pc := 174) (κ := 11) (ci := 0) C hK hP hS hk63 (by decide) rfl hk64 (by decide) rfl hi65 dX5_init_174 (fun M66 H locs eM66 hP hS => ?_)
        replace h := h M66 eM66
        obtain ⟨v67, ev67⟩ : ∃ y : Int32, y = x1 + 1 := ⟨_, rfl⟩
        replace h := h v67 ev67
        refine lv_iinc (v := v67) (lv' := [(1, .int v67), (0, .ref (b + x0))]) (pc := 175) hx hb dX5_init_175 hl (k := 1) rfl (by rw [ev67]; rfl) (by decide) rfl (fun ls hl => ?_)
        refine lv_goto (tgt := 153) (pc := 178) hx hb dX5_init_178 (by decide) ?_
        exact ih _ _ _ _ _ _ _ h hP hS (lv_sub hl [1, 0] rfl)
  have L114 : ∀ f : Nat, ∀ (k : Nat) (M : Mem) (H : Heap) (locs : List Loc) (ls : Array Slot) (x0 : Nat) (x1 : Int32), wpL_X5_init_114 n P f k M x0 x1 → m_H D cA b (n + k) M H → va_S (m_A b) s.heap H locs → lv_has ls 2 [(0, .ref (b + x0)), (1, .int x1)] → W p l e rm_X5_init s m ([.ref (b + i)] : List Value).toArray below meth c H locs k (1000 * k) (MQ below (m_Q D cA b (n + 33) (rV P)) ([.ref (b + i)] : List Value).toArray s 33 (1000 * 33) (m_A b)) (F0 m 114 ls []) := by
    clear h
    intro f
    induction f with
    | zero => intro k M H locs ls x0 x1 h; exact h.elim
    | succ f ih =>
      intro k M H locs ls x0 x1 h hP hS hl
      have h : wpB_X5_init_114 n P (wpL_X5_init_114 n P f) k M x0 x1 := h
      unfold wpB_X5_init_114 at h
      refine lv_iload_n (pc := 114) hx hb dX5_init_114 rfl (lv_at hl 1 rfl) ?_
      refine lv_aload_n (pc := 115) hx hb dX5_init_115 rfl (lv_at hl 0 rfl) ?_
      obtain ⟨hk24, h⟩ := h
      obtain ⟨j25, hj25, h⟩ := h
      refine gX5_40 (pc := 116) C hK hP hk24 hj25 dX5_init_116 ?_
      obtain ⟨hk26, h⟩ := h
      refine m_alen (pc := 119) (κ := 14) C hK hP hk26 (by decide) rfl dX5_init_119 ?_
      refine lv_icmp_ge (tgt := 142) (pc := 120) hx hb dX5_init_120 (by decide) (fun c120 => ?_) (fun c120 => ?_)
      · replace h := h.1 c120
        refine lv_aload_n (pc := 142) hx hb dX5_init_142 rfl (lv_at hl 0 rfl) ?_
        refine lv_bipush (v := 6) (pc := 143) hx hb dX5_init_143 (by decide) ?_
        obtain ⟨hk28, ⟨hkd, hln, h⟩⟩ := h
        refine m_newqN (pc := 145) (k := k) (k' := (k + 1)) (κ := 11) (N := 6) (E := "ForgeHeats$Billet") C hK hP hS hB rfl hkd (by decide) rfl hY.1 q_134 hln (by decide +kernel) ⟨Nat.le_trans hk28 (Nat.le_of_ble_eq_true rfl), Nat.le_trans (Nat.mul_le_mul_left 1000 hk28) (Nat.le_of_ble_eq_true rfl)⟩ (Nat.le_of_ble_eq_true rfl) dX5_init_145 (fun M27 H locs eM27 hP hS => ?_)
        replace h := h M27 eM27
        obtain ⟨hk29, h⟩ := h
        refine pfX5_47 (pc := 148) C hK hP hS hnm hk29 dX5_init_148 (fun M30 H locs eM30 hP hS => ?_)
        replace h := h M30 eM30
        refine lv_iconst (v := 0) (pc := 151) hx hb dX5_init_151 (by decide) ?_
        refine lv_istore_n (lv' := [(1, .int 0), (0, .ref (b + x0))]) (pc := 152) hx hb dX5_init_152 rfl hl (by decide) rfl (fun ls hl => ?_)
        obtain ⟨f, h⟩ := h
        exact L153 f _ _ _ _ _ _ _ h hP hS (lv_sub hl [1, 0] rfl)
      · replace h := h.2 c120
        refine lv_aload_n (pc := 123) hx hb dX5_init_123 rfl (lv_at hl 0 rfl) ?_
        obtain ⟨j68, hj68, h⟩ := h
        refine gX5_40 (pc := 124) C hK hP hk24 hj68 dX5_init_124 ?_
        refine lv_iload_n (pc := 127) hx hb dX5_init_127 rfl (lv_at hl 1 rfl) ?_
        obtain ⟨hk70, hkd, h⟩ := h
        refine m_newoN (pc := 128) (k := k) (k' := (k + 1)) (κ := 3) C hK hP hS hB rfl hkd (by decide) rfl inT3 tyX3_ok (by decide) q_94 q_96 q_5 ⟨Nat.le_trans hk70 (Nat.le_of_ble_eq_true rfl), Nat.le_trans (Nat.mul_le_mul_left 1000 hk70) (Nat.le_of_ble_eq_true rfl)⟩ (Nat.le_of_ble_eq_true rfl) dX5_init_128 (fun M69 H locs eM69 hP hS => ?_)
        replace h := h M69 eM69
        refine lv_dup (pc := 131) hx hb dX5_init_131 rfl ?_
        obtain ⟨hk72, h⟩ := h
        refine m_callNW (pc := 132) (y := yX3_init) (k := (k + 1)) (kc := 0) (k' := (k + 1)) (As := []) (rest := [.ref (b + (n + k)), .int x1, .ref (b + j68)]) C hK hY hP hS hB hl.1 ⟨Nat.le_trans hk72 (Nat.le_of_ble_eq_true rfl), Nat.le_trans (Nat.mul_le_mul_left 1000 hk72) (Nat.le_of_ble_eq_true rfl)⟩ rfl (c_X3_init h) rfl rfl (host := "ForgeHeats") (by decide +kernel) q_98 rfl q_5 q_99 ⟨rfl, rfl⟩ yd_X3_init ⟨Nat.le_of_ble_eq_true rfl, Nat.le_of_ble_eq_true rfl⟩ (Nat.le_of_ble_eq_true rfl) dX5_init_132 (fun M71 H locs h hP hS => ?_)
        obtain ⟨hk73, h⟩ := h
        obtain ⟨hk74, h⟩ := h
        obtain ⟨hi75, h⟩ := h
        refine m_astq (pc := 135) (κ := 14) (ci := 3) C hK hP hS hk73 (by decide) rfl hk74 (by decide) rfl hi75 dX5_init_135 (fun M76 H locs eM76 hP hS => ?_)
        replace h := h M76 eM76
        obtain ⟨v77, ev77⟩ : ∃ y : Int32, y = x1 + 1 := ⟨_, rfl⟩
        replace h := h v77 ev77
        refine lv_iinc (v := v77) (lv' := [(1, .int v77), (0, .ref (b + x0))]) (pc := 136) hx hb dX5_init_136 hl (k := 1) rfl (by rw [ev77]; rfl) (by decide) rfl (fun ls hl => ?_)
        refine lv_goto (tgt := 114) (pc := 139) hx hb dX5_init_139 (by decide) ?_
        exact ih _ _ _ _ _ _ _ h hP hS (lv_sub hl [1, 0] rfl)
  have L75 : ∀ f : Nat, ∀ (k : Nat) (M : Mem) (H : Heap) (locs : List Loc) (ls : Array Slot) (x0 : Nat) (x1 : Int32), wpL_X5_init_75 n P f k M x0 x1 → m_H D cA b (n + k) M H → va_S (m_A b) s.heap H locs → lv_has ls 2 [(0, .ref (b + x0)), (1, .int x1)] → W p l e rm_X5_init s m ([.ref (b + i)] : List Value).toArray below meth c H locs k (1000 * k) (MQ below (m_Q D cA b (n + 33) (rV P)) ([.ref (b + i)] : List Value).toArray s 33 (1000 * 33) (m_A b)) (F0 m 75 ls []) := by
    clear h
    intro f
    induction f with
    | zero => intro k M H locs ls x0 x1 h; exact h.elim
    | succ f ih =>
      intro k M H locs ls x0 x1 h hP hS hl
      have h : wpB_X5_init_75 n P (wpL_X5_init_75 n P f) k M x0 x1 := h
      unfold wpB_X5_init_75 at h
      refine lv_iload_n (pc := 75) hx hb dX5_init_75 rfl (lv_at hl 1 rfl) ?_
      refine lv_aload_n (pc := 76) hx hb dX5_init_76 rfl (lv_at hl 0 rfl) ?_
      obtain ⟨hk17, h⟩ := h
      obtain ⟨j18, hj18, h⟩ := h
      refine gX5_33 (pc := 77) C hK hP hk17 hj18 dX5_init_77 ?_
      obtain ⟨hk19, h⟩ := h
      refine m_alen (pc := 80) (κ := 12) C hK hP hk19 (by decide) rfl dX5_init_80 ?_
      refine lv_icmp_ge (tgt := 103) (pc := 81) hx hb dX5_init_81 (by decide) (fun c81 => ?_) (fun c81 => ?_)
      · replace h := h.1 c81
        refine lv_aload_n (pc := 103) hx hb dX5_init_103 rfl (lv_at hl 0 rfl) ?_
        refine lv_bipush (v := 10) (pc := 104) hx hb dX5_init_104 (by decide) ?_
        obtain ⟨hk21, ⟨hkd, hln, h⟩⟩ := h
        refine m_newqN (pc := 106) (k := k) (k' := (k + 1)) (κ := 14) (N := 10) (E := "ForgeHeats$Job") C hK hP hS hB rfl hkd (by decide) rfl hY.2.2.2.1 q_94 hln (by decide +kernel) ⟨Nat.le_trans hk21 (Nat.le_of_ble_eq_true rfl), Nat.le_trans (Nat.mul_le_mul_left 1000 hk21) (Nat.le_of_ble_eq_true rfl)⟩ (Nat.le_of_ble_eq_true rfl) dX5_init_106 (fun M20 H locs eM20 hP hS => ?_)
        replace h := h M20 eM20
        obtain ⟨hk22, h⟩ := h
        refine pfX5_40 (pc := 109) C hK hP hS hnm hk22 dX5_init_109 (fun M23 H locs eM23 hP hS => ?_)
        replace h := h M23 eM23
        refine lv_iconst (v := 0) (pc := 112) hx hb dX5_init_112 (by decide) ?_
        refine lv_istore_n (lv' := [(1, .int 0), (0, .ref (b + x0))]) (pc := 113) hx hb dX5_init_113 rfl hl (by decide) rfl (fun ls hl => ?_)
        obtain ⟨f, h⟩ := h
        exact L114 f _ _ _ _ _ _ _ h hP hS (lv_sub hl [1, 0] rfl)
      · replace h := h.2 c81
        refine lv_aload_n (pc := 84) hx hb dX5_init_84 rfl (lv_at hl 0 rfl) ?_
        obtain ⟨j78, hj78, h⟩ := h
        refine gX5_33 (pc := 85) C hK hP hk17 hj78 dX5_init_85 ?_
        refine lv_iload_n (pc := 88) hx hb dX5_init_88 rfl (lv_at hl 1 rfl) ?_
        obtain ⟨hk80, hkd, h⟩ := h
        refine m_newoN (pc := 89) (k := k) (k' := (k + 1)) (κ := 1) C hK hP hS hB rfl hkd (by decide) rfl inT1 tyX1_ok (by decide) q_60 q_62 q_4 ⟨Nat.le_trans hk80 (Nat.le_of_ble_eq_true rfl), Nat.le_trans (Nat.mul_le_mul_left 1000 hk80) (Nat.le_of_ble_eq_true rfl)⟩ (Nat.le_of_ble_eq_true rfl) dX5_init_89 (fun M79 H locs eM79 hP hS => ?_)
        replace h := h M79 eM79
        refine lv_dup (pc := 92) hx hb dX5_init_92 rfl ?_
        obtain ⟨hk82, h⟩ := h
        refine m_callNW (pc := 93) (y := yX1_init) (k := (k + 1)) (kc := 0) (k' := (k + 1)) (As := []) (rest := [.ref (b + (n + k)), .int x1, .ref (b + j78)]) C hK hY hP hS hB hl.1 ⟨Nat.le_trans hk82 (Nat.le_of_ble_eq_true rfl), Nat.le_trans (Nat.mul_le_mul_left 1000 hk82) (Nat.le_of_ble_eq_true rfl)⟩ rfl (c_X1_init h) rfl rfl (host := "ForgeHeats") (by decide +kernel) q_64 rfl q_4 q_65 ⟨rfl, rfl⟩ yd_X1_init ⟨Nat.le_of_ble_eq_true rfl, Nat.le_of_ble_eq_true rfl⟩ (Nat.le_of_ble_eq_true rfl) dX5_init_93 (fun M81 H locs h hP hS => ?_)
        obtain ⟨hk83, h⟩ := h
        obtain ⟨hk84, h⟩ := h
        obtain ⟨hi85, h⟩ := h
        refine m_astq (pc := 96) (κ := 12) (ci := 1) C hK hP hS hk83 (by decide) rfl hk84 (by decide) rfl hi85 dX5_init_96 (fun M86 H locs eM86 hP hS => ?_)
        replace h := h M86 eM86
        obtain ⟨v87, ev87⟩ : ∃ y : Int32, y = x1 + 1 := ⟨_, rfl⟩
        replace h := h v87 ev87
        refine lv_iinc (v := v87) (lv' := [(1, .int v87), (0, .ref (b + x0))]) (pc := 97) hx hb dX5_init_97 hl (k := 1) rfl (by rw [ev87]; rfl) (by decide) rfl (fun ls hl => ?_)
        refine lv_goto (tgt := 75) (pc := 100) hx hb dX5_init_100 (by decide) ?_
        exact ih _ _ _ _ _ _ _ h hP hS (lv_sub hl [1, 0] rfl)
  have L37 : ∀ f : Nat, ∀ (k : Nat) (M : Mem) (H : Heap) (locs : List Loc) (ls : Array Slot) (x0 : Nat) (x1 : Int32), wpL_X5_init_37 n P f k M x0 x1 → m_H D cA b (n + k) M H → va_S (m_A b) s.heap H locs → lv_has ls 2 [(0, .ref (b + x0)), (1, .int x1)] → W p l e rm_X5_init s m ([.ref (b + i)] : List Value).toArray below meth c H locs k (1000 * k) (MQ below (m_Q D cA b (n + 33) (rV P)) ([.ref (b + i)] : List Value).toArray s 33 (1000 * 33) (m_A b)) (F0 m 37 ls []) := by
    clear h
    intro f
    induction f with
    | zero => intro k M H locs ls x0 x1 h; exact h.elim
    | succ f ih =>
      intro k M H locs ls x0 x1 h hP hS hl
      have h : wpB_X5_init_37 n P (wpL_X5_init_37 n P f) k M x0 x1 := h
      unfold wpB_X5_init_37 at h
      refine lv_iload_n (pc := 37) hx hb dX5_init_37 rfl (lv_at hl 1 rfl) ?_
      refine lv_aload_n (pc := 38) hx hb dX5_init_38 rfl (lv_at hl 0 rfl) ?_
      obtain ⟨hk10, h⟩ := h
      obtain ⟨j11, hj11, h⟩ := h
      refine gX5_26 (pc := 39) C hK hP hk10 hj11 dX5_init_39 ?_
      obtain ⟨hk12, h⟩ := h
      refine m_alen (pc := 42) (κ := 13) C hK hP hk12 (by decide) rfl dX5_init_42 ?_
      refine lv_icmp_ge (tgt := 65) (pc := 43) hx hb dX5_init_43 (by decide) (fun c43 => ?_) (fun c43 => ?_)
      · replace h := h.1 c43
        refine lv_aload_n (pc := 65) hx hb dX5_init_65 rfl (lv_at hl 0 rfl) ?_
        refine lv_iconst (v := 5) (pc := 66) hx hb dX5_init_66 (by decide) ?_
        obtain ⟨hk14, ⟨hkd, hln, h⟩⟩ := h
        refine m_newqN (pc := 67) (k := k) (k' := (k + 1)) (κ := 12) (N := 5) (E := "ForgeHeats$Die") C hK hP hS hB rfl hkd (by decide) rfl hY.2.1 q_60 hln (by decide +kernel) ⟨Nat.le_trans hk14 (Nat.le_of_ble_eq_true rfl), Nat.le_trans (Nat.mul_le_mul_left 1000 hk14) (Nat.le_of_ble_eq_true rfl)⟩ (Nat.le_of_ble_eq_true rfl) dX5_init_67 (fun M13 H locs eM13 hP hS => ?_)
        replace h := h M13 eM13
        obtain ⟨hk15, h⟩ := h
        refine pfX5_33 (pc := 70) C hK hP hS hnm hk15 dX5_init_70 (fun M16 H locs eM16 hP hS => ?_)
        replace h := h M16 eM16
        refine lv_iconst (v := 0) (pc := 73) hx hb dX5_init_73 (by decide) ?_
        refine lv_istore_n (lv' := [(1, .int 0), (0, .ref (b + x0))]) (pc := 74) hx hb dX5_init_74 rfl hl (by decide) rfl (fun ls hl => ?_)
        obtain ⟨f, h⟩ := h
        exact L75 f _ _ _ _ _ _ _ h hP hS (lv_sub hl [1, 0] rfl)
      · replace h := h.2 c43
        refine lv_aload_n (pc := 46) hx hb dX5_init_46 rfl (lv_at hl 0 rfl) ?_
        obtain ⟨j88, hj88, h⟩ := h
        refine gX5_26 (pc := 47) C hK hP hk10 hj88 dX5_init_47 ?_
        refine lv_iload_n (pc := 50) hx hb dX5_init_50 rfl (lv_at hl 1 rfl) ?_
        obtain ⟨hk90, hkd, h⟩ := h
        refine m_newoN (pc := 51) (k := k) (k' := (k + 1)) (κ := 2) C hK hP hS hB rfl hkd (by decide) rfl inT2 tyX2_ok (by decide) q_29 q_31 q_3 ⟨Nat.le_trans hk90 (Nat.le_of_ble_eq_true rfl), Nat.le_trans (Nat.mul_le_mul_left 1000 hk90) (Nat.le_of_ble_eq_true rfl)⟩ (Nat.le_of_ble_eq_true rfl) dX5_init_51 (fun M89 H locs eM89 hP hS => ?_)
        replace h := h M89 eM89
        refine lv_dup (pc := 54) hx hb dX5_init_54 rfl ?_
        obtain ⟨hk92, h⟩ := h
        refine m_callNW (pc := 55) (y := yX2_init) (k := (k + 1)) (kc := 0) (k' := (k + 1)) (As := []) (rest := [.ref (b + (n + k)), .int x1, .ref (b + j88)]) C hK hY hP hS hB hl.1 ⟨Nat.le_trans hk92 (Nat.le_of_ble_eq_true rfl), Nat.le_trans (Nat.mul_le_mul_left 1000 hk92) (Nat.le_of_ble_eq_true rfl)⟩ rfl (c_X2_init h) rfl rfl (host := "ForgeHeats") (by decide +kernel) q_33 rfl q_3 q_34 ⟨rfl, rfl⟩ yd_X2_init ⟨Nat.le_of_ble_eq_true rfl, Nat.le_of_ble_eq_true rfl⟩ (Nat.le_of_ble_eq_true rfl) dX5_init_55 (fun M91 H locs h hP hS => ?_)
        obtain ⟨hk93, h⟩ := h
        obtain ⟨hk94, h⟩ := h
        obtain ⟨hi95, h⟩ := h
        refine m_astq (pc := 58) (κ := 13) (ci := 2) C hK hP hS hk93 (by decide) rfl hk94 (by decide) rfl hi95 dX5_init_58 (fun M96 H locs eM96 hP hS => ?_)
        replace h := h M96 eM96
        obtain ⟨v97, ev97⟩ : ∃ y : Int32, y = x1 + 1 := ⟨_, rfl⟩
        replace h := h v97 ev97
        refine lv_iinc (v := v97) (lv' := [(1, .int v97), (0, .ref (b + x0))]) (pc := 59) hx hb dX5_init_59 hl (k := 1) rfl (by rw [ev97]; rfl) (by decide) rfl (fun ls hl => ?_)
        refine lv_goto (tgt := 37) (pc := 62) hx hb dX5_init_62 (by decide) ?_
        exact ih _ _ _ _ _ _ _ h hP hS (lv_sub hl [1, 0] rfl)
  unfold wp_X5_init at h
  refine lv_aload_n (pc := 0) hx hb dX5_init_0 rfl (lv_at hl 0 rfl) ?_
  refine m_objinit (pc := 1) C hl.1 q_28 q_21 q_22 ⟨Nat.le_of_ble_eq_true rfl, Nat.le_of_ble_eq_true rfl⟩ (Nat.le_of_ble_eq_true rfl) dX5_init_1 ?_
  refine lv_aload_n (pc := 4) hx hb dX5_init_4 rfl (lv_at hl 0 rfl) ?_
  refine lv_sipush (v := 150) (pc := 5) hx hb dX5_init_5 (by decide) ?_
  obtain ⟨hk1, h⟩ := h
  refine pX5_9 (pc := 8) (v := 150) C hK hP hS hk1 dX5_init_8 (fun M2 H locs eM2 hP hS => ?_)
  replace h := h M2 eM2
  refine lv_aload_n (pc := 11) hx hb dX5_init_11 rfl (lv_at hl 0 rfl) ?_
  refine lv_bipush (v := 40) (pc := 12) hx hb dX5_init_12 (by decide) ?_
  refine pX5_15 (pc := 14) (v := 40) C hK hP hS hk1 dX5_init_14 (fun M3 H locs eM3 hP hS => ?_)
  replace h := h M3 eM3
  refine lv_aload_n (pc := 17) hx hb dX5_init_17 rfl (lv_at hl 0 rfl) ?_
  refine lv_iconst (v := 1) (pc := 18) hx hb dX5_init_18 (by decide) ?_
  refine pX5_18 (pc := 19) (v := 1) C hK hP hS hk1 dX5_init_19 (fun M4 H locs eM4 hP hS => ?_)
  replace h := h M4 eM4
  refine lv_aload_n (pc := 22) hx hb dX5_init_22 rfl (lv_at hl 0 rfl) ?_
  refine lv_iconst (v := 5) (pc := 23) hx hb dX5_init_23 (by decide) ?_
  refine pX5_21 (pc := 24) (v := 5) C hK hP hS hk1 dX5_init_24 (fun M5 H locs eM5 hP hS => ?_)
  replace h := h M5 eM5
  refine lv_aload_n (pc := 27) hx hb dX5_init_27 rfl (lv_at hl 0 rfl) ?_
  refine lv_iconst (v := 4) (pc := 28) hx hb dX5_init_28 (by decide) ?_
  obtain ⟨hk7, ⟨hkd, hln, h⟩⟩ := h
  refine m_newqN (pc := 29) (k := 0) (k' := 1) (κ := 13) (N := 4) (E := "ForgeHeats$Heat") C hK hP hS hB rfl hkd (by decide) rfl hY.2.2.1 q_29 hln (by decide +kernel) ⟨Nat.le_trans hk7 (Nat.le_of_ble_eq_true rfl), Nat.le_trans (Nat.mul_le_mul_left 1000 hk7) (Nat.le_of_ble_eq_true rfl)⟩ (Nat.le_of_ble_eq_true rfl) dX5_init_29 (fun M6 H locs eM6 hP hS => ?_)
  replace h := h M6 eM6
  obtain ⟨hk8, h⟩ := h
  refine pfX5_26 (pc := 32) C hK hP hS hnm hk8 dX5_init_32 (fun M9 H locs eM9 hP hS => ?_)
  replace h := h M9 eM9
  refine lv_iconst (v := 0) (pc := 35) hx hb dX5_init_35 (by decide) ?_
  refine lv_istore_n (lv' := [(1, .int 0), (0, .ref (b + i))]) (pc := 36) hx hb dX5_init_36 rfl hl (by decide) rfl (fun ls hl => ?_)
  obtain ⟨f, h⟩ := h
  exact L37 f _ _ _ _ _ _ _ h hP hS (lv_sub hl [1, 0] rfl)
/-! ForgeHeats.<init> -/
def wpB_X6_init_37 (n : Nat) (P : Mem → Prop) (R_ : Nat → Mem → Nat → Int32 → Prop) (k : Nat) (M : Mem) (x0 : Nat) (x1 : Int32) : Prop := m_tp (n + k) x0 6 ∧ (∃ j18 : Nat, M.2.1 x0 2 = some j18 ∧ (m_tp (n + k) j18 15 ∧ ((((nI (m_len j18)) ≤ x1 → k + 1 ≤ 275 ∧ (m_kd (n + k) = 4 ∧ (∀ M20 : Mem, M20 = uN M (n + k) → ((k + 1) + 1 ≤ 275 ∧ (wp_X4_init (n + (k + 1)) M20 ((n + k)) (fun M22 => m_tp (n + (k + 2)) x0 6 ∧ (∀ M25 : Mem, M25 = uR M22 x0 4 (some ((n + k))) → ((k + 2) = 275 ∧ (P M25))))))))) ∧ (¬ (nI (m_len j18)) ≤ x1 → ∃ j26 : Nat, M.2.1 x0 2 = some j26 ∧ (k + 1 ≤ 275 ∧ (m_kd (n + k) = 5 ∧ (∀ M27 : Mem, M27 = uN M (n + k) → ((k + 1) + 33 ≤ 275 ∧ (wp_X5_init (n + (k + 1)) M27 ((n + k)) (fun M29 => m_tp (n + (k + 34)) j26 15 ∧ (m_tp (n + (k + 34)) ((n + k)) 5 ∧ (vp_in x1 (m_len j26) ∧ (∀ M34 : Mem, M34 = uR M29 j26 x1.toNatClampNeg (some ((n + k))) → (∀ v35 : Int32, v35 = x1 + 1 → (R_ (k + 34) M34 x0 v35))))))))))))))))
def wpL_X6_init_37 (n : Nat) (P : Mem → Prop) : Nat → Nat → Mem → Nat → Int32 → Prop
  | 0 => fun _ _ _ _ => False
  | f + 1 => fun k M x0 x1 => wpB_X6_init_37 n P (wpL_X6_init_37 n P f) k M x0 x1
def wp_X6_init (n : Nat) (M : Mem) (i : Nat) (P : Mem → Prop) : Prop := 0 + 1 ≤ 275 ∧ (m_kd (n + 0) = 5 ∧ (∀ M1 : Mem, M1 = uN M (n + 0) → (1 + 33 ≤ 275 ∧ (wp_X5_init (n + 1) M1 ((n + 0)) (fun M3 => m_tp (n + 34) i 6 ∧ (∀ M6 : Mem, M6 = uR M3 i 0 (some ((n + 0))) → (34 + 1 ≤ 275 ∧ (m_kd (n + 34) = 5 ∧ (∀ M7 : Mem, M7 = uN M6 (n + 34) → (35 + 33 ≤ 275 ∧ (wp_X5_init (n + 35) M7 ((n + 34)) (fun M9 => m_tp (n + 68) i 6 ∧ (∀ M12 : Mem, M12 = uR M9 i 1 (some ((n + 34))) → (68 + 1 ≤ 275 ∧ (m_kd (n + 68) = 15 ∧ m_len (n + 68) = 6 ∧ (∀ M13 : Mem, M13 = uN M12 (n + 68) → (m_tp (n + 69) i 6 ∧ (∀ M16 : Mem, M16 = uR M13 i 2 (some ((n + 68))) → (∃ f : Nat, wpL_X6_init_37 n P f 69 M16 i 0)))))))))))))))))))
abbrev rm_X6_init : Room := { frames := 3, cells := 275, slots := 275000, locals := 61 }
set_option maxHeartbeats 4000000 in
set_option maxRecDepth 100000 in
theorem c_X6_init {l : Launch} {D : va_G} {cA : Nat → ClassId} {b n : Nat} {M : Mem} {i : Nat} {P : Mem → Prop} (h : wp_X6_init n M i P) : m_CN l D cA b n (n + 275) M yX6_init cX6_init 2 rm_X6_init 275 [.ref (b + i)] (rV P) := by
  refine m_enterN (by decide) (Nat.le_of_ble_eq_true rfl) (fun p e s m below meth c C hr hlk hnm hB hY hK hP hS ls hl => ?_)
  have hx := C.1
  have hb := C.2.1
  have hl : lv_has ls 2 [(0, .ref (b + i))] := hl
  have hP : m_H D cA b (n + 0) M s.heap := hP
  have L37 : ∀ f : Nat, ∀ (k : Nat) (M : Mem) (H : Heap) (locs : List Loc) (ls : Array Slot) (x0 : Nat) (x1 : Int32), wpL_X6_init_37 n P f k M x0 x1 → m_H D cA b (n + k) M H → va_S (m_A b) s.heap H locs → lv_has ls 2 [(0, .ref (b + x0)), (1, .int x1)] → W p l e rm_X6_init s m ([.ref (b + i)] : List Value).toArray below meth c H locs k (1000 * k) (MQ below (m_Q D cA b (n + 275) (rV P)) ([.ref (b + i)] : List Value).toArray s 275 (1000 * 275) (m_A b)) (F0 m 37 ls []) := by
    clear h
    intro f
    induction f with
    | zero => intro k M H locs ls x0 x1 h; exact h.elim
    | succ f ih =>
      intro k M H locs ls x0 x1 h hP hS hl
      have h : wpB_X6_init_37 n P (wpL_X6_init_37 n P f) k M x0 x1 := h
      unfold wpB_X6_init_37 at h
      refine lv_iload_n (pc := 37) hx hb dX6_init_37 rfl (lv_at hl 1 rfl) ?_
      refine lv_aload_n (pc := 38) hx hb dX6_init_38 rfl (lv_at hl 0 rfl) ?_
      obtain ⟨hk17, h⟩ := h
      obtain ⟨j18, hj18, h⟩ := h
      refine gX6_19 (pc := 39) C hK hP hk17 hj18 dX6_init_39 ?_
      obtain ⟨hk19, h⟩ := h
      refine m_alen (pc := 42) (κ := 15) C hK hP hk19 (by decide) rfl dX6_init_42 ?_
      refine lv_icmp_ge (tgt := 65) (pc := 43) hx hb dX6_init_43 (by decide) (fun c43 => ?_) (fun c43 => ?_)
      · replace h := h.1 c43
        refine lv_aload_n (pc := 65) hx hb dX6_init_65 rfl (lv_at hl 0 rfl) ?_
        obtain ⟨hk21, hkd, h⟩ := h
        refine m_newoN (pc := 66) (k := k) (k' := (k + 1)) (κ := 4) C hK hP hS hB rfl hkd (by decide) rfl inT4 tyX4_ok (by decide) q_224 q_225 q_7 ⟨Nat.le_trans hk21 (Nat.le_of_ble_eq_true rfl), Nat.le_trans (Nat.mul_le_mul_left 1000 hk21) (Nat.le_of_ble_eq_true rfl)⟩ (Nat.le_of_ble_eq_true rfl) dX6_init_66 (fun M20 H locs eM20 hP hS => ?_)
        replace h := h M20 eM20
        refine lv_dup (pc := 69) hx hb dX6_init_69 rfl ?_
        obtain ⟨hk23, h⟩ := h
        refine m_callNN (pc := 70) (y := yX4_init) (k := (k + 1)) (kc := 1) (k' := (k + 2)) (As := []) (rest := [.ref (b + (n + k)), .ref (b + x0)]) C hK hY hP hS hB hl.1 ⟨Nat.le_trans hk23 (Nat.le_of_ble_eq_true rfl), Nat.le_trans (Nat.mul_le_mul_left 1000 hk23) (Nat.le_of_ble_eq_true rfl)⟩ rfl (c_X4_init h) rfl rfl q_226 q_227 rfl q_7 q_228 ⟨rfl, rfl⟩ yd_X4_init ⟨Nat.le_of_ble_eq_true rfl, Nat.le_of_ble_eq_true rfl⟩ (Nat.le_of_ble_eq_true rfl) dX6_init_70 (fun M22 H locs h hP hS => ?_)
        obtain ⟨hk24, h⟩ := h
        refine pfX6_26 (pc := 73) C hK hP hS hnm hk24 dX6_init_73 (fun M25 H locs eM25 hP hS => ?_)
        replace h := h M25 eM25
        obtain ⟨hk9, h⟩ := h
        exact m_vretN (pc := 76) hk9 C hr hlk hP hS dX6_init_76 h
      · replace h := h.2 c43
        refine lv_aload_n (pc := 46) hx hb dX6_init_46 rfl (lv_at hl 0 rfl) ?_
        obtain ⟨j26, hj26, h⟩ := h
        refine gX6_19 (pc := 47) C hK hP hk17 hj26 dX6_init_47 ?_
        refine lv_iload_n (pc := 50) hx hb dX6_init_50 rfl (lv_at hl 1 rfl) ?_
        obtain ⟨hk28, hkd, h⟩ := h
        refine m_newoN (pc := 51) (k := k) (k' := (k + 1)) (κ := 5) C hK hP hS hB rfl hkd (by decide) rfl inT5 tyX5_ok (by decide) q_23 q_24 q_2 ⟨Nat.le_trans hk28 (Nat.le_of_ble_eq_true rfl), Nat.le_trans (Nat.mul_le_mul_left 1000 hk28) (Nat.le_of_ble_eq_true rfl)⟩ (Nat.le_of_ble_eq_true rfl) dX6_init_51 (fun M27 H locs eM27 hP hS => ?_)
        replace h := h M27 eM27
        refine lv_dup (pc := 54) hx hb dX6_init_54 rfl ?_
        obtain ⟨hk30, h⟩ := h
        refine m_callNN (pc := 55) (y := yX5_init) (k := (k + 1)) (kc := 33) (k' := (k + 34)) (As := []) (rest := [.ref (b + (n + k)), .int x1, .ref (b + j26)]) C hK hY hP hS hB hl.1 ⟨Nat.le_trans hk30 (Nat.le_of_ble_eq_true rfl), Nat.le_trans (Nat.mul_le_mul_left 1000 hk30) (Nat.le_of_ble_eq_true rfl)⟩ rfl (c_X5_init h) rfl rfl q_25 q_26 rfl q_2 q_27 ⟨rfl, rfl⟩ yd_X5_init ⟨Nat.le_of_ble_eq_true rfl, Nat.le_of_ble_eq_true rfl⟩ (Nat.le_of_ble_eq_true rfl) dX6_init_55 (fun M29 H locs h hP hS => ?_)
        obtain ⟨hk31, h⟩ := h
        obtain ⟨hk32, h⟩ := h
        obtain ⟨hi33, h⟩ := h
        refine m_astq (pc := 58) (κ := 15) (ci := 5) C hK hP hS hk31 (by decide) rfl hk32 (by decide) rfl hi33 dX6_init_58 (fun M34 H locs eM34 hP hS => ?_)
        replace h := h M34 eM34
        obtain ⟨v35, ev35⟩ : ∃ y : Int32, y = x1 + 1 := ⟨_, rfl⟩
        replace h := h v35 ev35
        refine lv_iinc (v := v35) (lv' := [(1, .int v35), (0, .ref (b + x0))]) (pc := 59) hx hb dX6_init_59 hl (k := 1) rfl (by rw [ev35]; rfl) (by decide) rfl (fun ls hl => ?_)
        refine lv_goto (tgt := 37) (pc := 62) hx hb dX6_init_62 (by decide) ?_
        exact ih _ _ _ _ _ _ _ h hP hS (lv_sub hl [1, 0] rfl)
  unfold wp_X6_init at h
  refine lv_aload_n (pc := 0) hx hb dX6_init_0 rfl (lv_at hl 0 rfl) ?_
  refine m_objinit (pc := 1) C hl.1 q_20 q_21 q_22 ⟨Nat.le_of_ble_eq_true rfl, Nat.le_of_ble_eq_true rfl⟩ (Nat.le_of_ble_eq_true rfl) dX6_init_1 ?_
  refine lv_aload_n (pc := 4) hx hb dX6_init_4 rfl (lv_at hl 0 rfl) ?_
  obtain ⟨hk2, hkd, h⟩ := h
  refine m_newoN (pc := 5) (k := 0) (k' := 1) (κ := 5) C hK hP hS hB rfl hkd (by decide) rfl inT5 tyX5_ok (by decide) q_23 q_24 q_2 ⟨Nat.le_trans hk2 (Nat.le_of_ble_eq_true rfl), Nat.le_trans (Nat.mul_le_mul_left 1000 hk2) (Nat.le_of_ble_eq_true rfl)⟩ (Nat.le_of_ble_eq_true rfl) dX6_init_5 (fun M1 H locs eM1 hP hS => ?_)
  replace h := h M1 eM1
  refine lv_dup (pc := 8) hx hb dX6_init_8 rfl ?_
  obtain ⟨hk4, h⟩ := h
  refine m_callNN (pc := 9) (y := yX5_init) (k := 1) (kc := 33) (k' := 34) (As := []) (rest := [.ref (b + (n + 0)), .ref (b + i)]) C hK hY hP hS hB hl.1 ⟨Nat.le_trans hk4 (Nat.le_of_ble_eq_true rfl), Nat.le_trans (Nat.mul_le_mul_left 1000 hk4) (Nat.le_of_ble_eq_true rfl)⟩ rfl (c_X5_init h) rfl rfl q_25 q_26 rfl q_2 q_27 ⟨rfl, rfl⟩ yd_X5_init ⟨Nat.le_of_ble_eq_true rfl, Nat.le_of_ble_eq_true rfl⟩ (Nat.le_of_ble_eq_true rfl) dX6_init_9 (fun M3 H locs h hP hS => ?_)
  obtain ⟨hk5, h⟩ := h
  refine pfX6_10 (pc := 12) C hK hP hS hnm hk5 dX6_init_12 (fun M6 H locs eM6 hP hS => ?_)
  replace h := h M6 eM6
  refine lv_aload_n (pc := 15) hx hb dX6_init_15 rfl (lv_at hl 0 rfl) ?_
  obtain ⟨hk8, hkd, h⟩ := h
  refine m_newoN (pc := 16) (k := 34) (k' := 35) (κ := 5) C hK hP hS hB rfl hkd (by decide) rfl inT5 tyX5_ok (by decide) q_23 q_24 q_2 ⟨Nat.le_trans hk8 (Nat.le_of_ble_eq_true rfl), Nat.le_trans (Nat.mul_le_mul_left 1000 hk8) (Nat.le_of_ble_eq_true rfl)⟩ (Nat.le_of_ble_eq_true rfl) dX6_init_16 (fun M7 H locs eM7 hP hS => ?_)
  replace h := h M7 eM7
  refine lv_dup (pc := 19) hx hb dX6_init_19 rfl ?_
  obtain ⟨hk10, h⟩ := h
  refine m_callNN (pc := 20) (y := yX5_init) (k := 35) (kc := 33) (k' := 68) (As := []) (rest := [.ref (b + (n + 34)), .ref (b + i)]) C hK hY hP hS hB hl.1 ⟨Nat.le_trans hk10 (Nat.le_of_ble_eq_true rfl), Nat.le_trans (Nat.mul_le_mul_left 1000 hk10) (Nat.le_of_ble_eq_true rfl)⟩ rfl (c_X5_init h) rfl rfl q_25 q_26 rfl q_2 q_27 ⟨rfl, rfl⟩ yd_X5_init ⟨Nat.le_of_ble_eq_true rfl, Nat.le_of_ble_eq_true rfl⟩ (Nat.le_of_ble_eq_true rfl) dX6_init_20 (fun M9 H locs h hP hS => ?_)
  obtain ⟨hk11, h⟩ := h
  refine pfX6_16 (pc := 23) C hK hP hS hnm hk11 dX6_init_23 (fun M12 H locs eM12 hP hS => ?_)
  replace h := h M12 eM12
  refine lv_aload_n (pc := 26) hx hb dX6_init_26 rfl (lv_at hl 0 rfl) ?_
  refine lv_bipush (v := 6) (pc := 27) hx hb dX6_init_27 (by decide) ?_
  obtain ⟨hk14, ⟨hkd, hln, h⟩⟩ := h
  refine m_newqN (pc := 29) (k := 68) (k' := 69) (κ := 15) (N := 6) (E := "ForgeHeats$Shop") C hK hP hS hB rfl hkd (by decide) rfl hY.2.2.2.2.1 q_23 hln (by decide +kernel) ⟨Nat.le_trans hk14 (Nat.le_of_ble_eq_true rfl), Nat.le_trans (Nat.mul_le_mul_left 1000 hk14) (Nat.le_of_ble_eq_true rfl)⟩ (Nat.le_of_ble_eq_true rfl) dX6_init_29 (fun M13 H locs eM13 hP hS => ?_)
  replace h := h M13 eM13
  obtain ⟨hk15, h⟩ := h
  refine pfX6_19 (pc := 32) C hK hP hS hnm hk15 dX6_init_32 (fun M16 H locs eM16 hP hS => ?_)
  replace h := h M16 eM16
  refine lv_iconst (v := 0) (pc := 35) hx hb dX6_init_35 (by decide) ?_
  refine lv_istore_n (lv' := [(1, .int 0), (0, .ref (b + i))]) (pc := 36) hx hb dX6_init_36 rfl hl (by decide) rfl (fun ls hl => ?_)
  obtain ⟨f, h⟩ := h
  exact L37 f _ _ _ _ _ _ _ h hP hS (lv_sub hl [1, 0] rfl)
