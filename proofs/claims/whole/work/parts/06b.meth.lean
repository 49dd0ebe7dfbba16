/-! ForgeHeats$JobText.isFull ()Z -/
def wp_X4_isFull (n : Nat) (M : Mem) (i : Nat) (P : Bool → Mem → Prop) : Prop := m_tp n i 4 ∧ (∃ j2 : Nat, M.2.1 i 0 = some j2 ∧ (m_tp n j2 9 ∧ (P (if (M.1 i 1) < (nI (m_len j2)) then false else true) M)))
abbrev rm_X4_isFull : Room := { frames := 0, cells := 0, slots := 0, locals := 0 }
set_option maxHeartbeats 4000000 in
set_option maxRecDepth 100000 in
theorem c_X4_isFull {l : Launch} {D : va_G} {cA : Nat → ClassId} {b n : Nat} {M : Mem} {i : Nat} {P : Bool → Mem → Prop} (h : wp_X4_isFull n M i P) : m_C l D cA b n n M yX4_isFull cX4_isFull 1 (some .boolean) rm_X4_isFull 0 0 [.ref (b + i)] (rZ P) := by
  refine m_enter (by decide) (Nat.le_of_ble_eq_true rfl) (fun p e s m below meth c C hr hlk hnm hK hP hS ls hl => ?_)
  have hx := C.1
  have hb := C.2.1
  have hl : lv_has ls 1 [(0, .ref (b + i))] := hl
  unfold wp_X4_isFull at h
  refine lv_aload_n (pc := 0) hx hb dX4_isFull_0 rfl (lv_at hl 0 rfl) ?_
  obtain ⟨hk1, h⟩ := h
  refine gX4_15 (pc := 1) C hK hP hk1 dX4_isFull_1 ?_
  refine lv_aload_n (pc := 4) hx hb dX4_isFull_4 rfl (lv_at hl 0 rfl) ?_
  obtain ⟨j2, hj2, h⟩ := h
  refine gX4_11 (pc := 5) C hK hP hk1 hj2 dX4_isFull_5 ?_
  obtain ⟨hk3, h⟩ := h
  refine m_alen (pc := 8) (κ := 9) C hK hP hk3 (by decide) rfl dX4_isFull_8 ?_
  refine m_joinZ (z := if (M.1 i 1) < (nI (m_len j2)) then false else true) (jp := 17) (rest := []) ?_ (fun hJ => ?_)
  rotate_left
  · skip
    refine lv_icmp_lt (tgt := 16) (pc := 9) hx hb dX4_isFull_9 (by decide) (fun c9 => ?_) (fun c9 => ?_)
    · skip
      refine lv_iconst (v := 0) (pc := 16) hx hb dX4_isFull_16 (by decide) ?_
      exact hJ _ false rfl (by rw [if_pos c9])
    · skip
      refine lv_iconst (v := 1) (pc := 12) hx hb dX4_isFull_12 (by decide) ?_
      refine lv_goto (tgt := 17) (pc := 13) hx hb dX4_isFull_13 (by decide) ?_
      exact hJ _ true rfl (by rw [if_neg c9])
  exact m_zret (v := if (M.1 i 1) < (nI (m_len j2)) then false else true) (pc := 17) C hr hlk hP hS dX4_isFull_17 h
/-! ForgeHeats$JobText.put (I)I -/
def wp_X4_put (n : Nat) (M : Mem) (i : Nat) (p1 : Int32) (P : Int32 → Mem → Prop) : Prop := m_tp n i 4 ∧ ((((M.1 i 1) < 0 → P (M.1 i 1) M) ∧ (¬ (M.1 i 1) < 0 → ∃ j2 : Nat, M.2.1 i 0 = some j2 ∧ (m_tp n j2 9 ∧ ((((nI (m_len j2)) ≤ (M.1 i 1) → P (M.1 i 1) M) ∧ (¬ (nI (m_len j2)) ≤ (M.1 i 1) → ∃ j4 : Nat, M.2.1 i 0 = some j4 ∧ (m_tp n j4 9 ∧ (vp_in (M.1 i 1) (m_len j4) ∧ (∀ M7 : Mem, M7 = uI M j4 (M.1 i 1).toNatClampNeg (vp_nar .char ((p1.toUInt32 % 65536).toInt32)) → (∀ M8 : Mem, M8 = uI M7 i 1 ((M7.1 i 1) + 1) → (P (M8.1 i 1) M8))))))))))))
abbrev rm_X4_put : Room := { frames := 0, cells := 0, slots := 0, locals := 0 }
set_option maxHeartbeats 4000000 in
set_option maxRecDepth 100000 in
theorem c_X4_put {l : Launch} {D : va_G} {cA : Nat → ClassId} {b n : Nat} {M : Mem} {i : Nat} {p1 : Int32} {P : Int32 → Mem → Prop} (h : wp_X4_put n M i p1 P) : m_C l D cA b n n M yX4_put cX4_put 2 (some .int) rm_X4_put 0 0 [.ref (b + i), .int p1] (rI P) := by
  refine m_enter (by decide) (Nat.le_of_ble_eq_true rfl) (fun p e s m below meth c C hr hlk hnm hK hP hS ls hl => ?_)
  have hx := C.1
  have hb := C.2.1
  have hl : lv_has ls 2 [(0, .ref (b + i)), (1, .int p1)] := hl
  unfold wp_X4_put at h
  refine lv_aload_n (pc := 0) hx hb dX4_put_0 rfl (lv_at hl 0 rfl) ?_
  obtain ⟨hk1, h⟩ := h
  refine gX4_15 (pc := 1) C hK hP hk1 dX4_put_1 ?_
  refine lv_if_lt (tgt := 40) (pc := 4) hx hb dX4_put_4 (by decide) (fun c4 => ?_) (fun c4 => ?_)
  · replace h := h.1 c4
    refine lv_aload_n (pc := 40) hx hb dX4_put_40 rfl (lv_at hl 0 rfl) ?_
    refine gX4_15 (pc := 41) C hK hP hk1 dX4_put_41 ?_
    exact m_iret (v := M.1 i 1) (pc := 44) C hr hlk hP hS dX4_put_44 h
  · replace h := h.2 c4
    refine lv_aload_n (pc := 7) hx hb dX4_put_7 rfl (lv_at hl 0 rfl) ?_
    refine gX4_15 (pc := 8) C hK hP hk1 dX4_put_8 ?_
    refine lv_aload_n (pc := 11) hx hb dX4_put_11 rfl (lv_at hl 0 rfl) ?_
    obtain ⟨j2, hj2, h⟩ := h
    refine gX4_11 (pc := 12) C hK hP hk1 hj2 dX4_put_12 ?_
    obtain ⟨hk3, h⟩ := h
    refine m_alen (pc := 15) (κ := 9) C hK hP hk3 (by decide) rfl dX4_put_15 ?_
    refine lv_icmp_ge (tgt := 40) (pc := 16) hx hb dX4_put_16 (by decide) (fun c16 => ?_) (fun c16 => ?_)
    · replace h := h.1 c16
      refine lv_aload_n (pc := 40) hx hb dX4_put_40 rfl (lv_at hl 0 rfl) ?_
      refine gX4_15 (pc := 41) C hK hP hk1 dX4_put_41 ?_
      exact m_iret (v := M.1 i 1) (pc := 44) C hr hlk hP hS dX4_put_44 h
    · replace h := h.2 c16
      refine lv_aload_n (pc := 19) hx hb dX4_put_19 rfl (lv_at hl 0 rfl) ?_
      obtain ⟨j4, hj4, h⟩ := h
      refine gX4_11 (pc := 20) C hK hP hk1 hj4 dX4_put_20 ?_
      refine lv_aload_n (pc := 23) hx hb dX4_put_23 rfl (lv_at hl 0 rfl) ?_
      refine gX4_15 (pc := 24) C hK hP hk1 dX4_put_24 ?_
      refine lv_iload_n (pc := 27) hx hb dX4_put_27 rfl (lv_at hl 1 rfl) ?_
      refine lv_i2c (pc := 28) hx hb dX4_put_28 rfl ?_
      obtain ⟨hk5, h⟩ := h
      obtain ⟨hi6, h⟩ := h
      refine m_cast (pc := 29) C hK hP hS hk5 hi6 dX4_put_29 (fun M7 H locs eM7 hP hS => ?_)
      replace h := h M7 eM7
      refine lv_aload_n (pc := 30) hx hb dX4_put_30 rfl (lv_at hl 0 rfl) ?_
      refine lv_dup (pc := 31) hx hb dX4_put_31 rfl ?_
      refine gX4_15 (pc := 32) C hK hP hk1 dX4_put_32 ?_
      refine lv_iconst (v := 1) (pc := 35) hx hb dX4_put_35 (by decide) ?_
      refine lv_iadd (pc := 36) hx hb dX4_put_36 ?_
      refine pX4_15 (pc := 37) (v := (M7.1 i 1) + 1) C hK hP hS hk1 dX4_put_37 (fun M8 H locs eM8 hP hS => ?_)
      replace h := h M8 eM8
      refine lv_aload_n (pc := 40) hx hb dX4_put_40 rfl (lv_at hl 0 rfl) ?_
      refine gX4_15 (pc := 41) C hK hP hk1 dX4_put_41 ?_
      exact m_iret (v := M8.1 i 1) (pc := 44) C hr hlk hP hS dX4_put_44 h
/-! ForgeHeats$JobText.empty ()I -/
def wp_X4_empty (n : Nat) (M : Mem) (i : Nat) (P : Int32 → Mem → Prop) : Prop := m_tp n i 4 ∧ (∀ v2 : Int32, v2 = (M.1 i 1) → (∀ M3 : Mem, M3 = uI M i 1 0 → (P v2 M3)))
abbrev rm_X4_empty : Room := { frames := 0, cells := 0, slots := 0, locals := 0 }
set_option maxHeartbeats 4000000 in
set_option maxRecDepth 100000 in
theorem c_X4_empty {l : Launch} {D : va_G} {cA : Nat → ClassId} {b n : Nat} {M : Mem} {i : Nat} {P : Int32 → Mem → Prop} (h : wp_X4_empty n M i P) : m_C l D cA b n n M yX4_empty cX4_empty 2 (some .int) rm_X4_empty 0 0 [.ref (b + i)] (rI P) := by
  refine m_enter (by decide) (Nat.le_of_ble_eq_true rfl) (fun p e s m below meth c C hr hlk hnm hK hP hS ls hl => ?_)
  have hx := C.1
  have hb := C.2.1
  have hl : lv_has ls 2 [(0, .ref (b + i))] := hl
  unfold wp_X4_empty at h
  refine lv_aload_n (pc := 0) hx hb dX4_empty_0 rfl (lv_at hl 0 rfl) ?_
  obtain ⟨hk1, h⟩ := h
  refine gX4_15 (pc := 1) C hK hP hk1 dX4_empty_1 ?_
  refine lv_topi (fun v2 ev2 => ?_)
  replace h := h v2 ev2
  refine lv_istore_n (lv' := [(1, .int v2), (0, .ref (b + i))]) (pc := 4) hx hb dX4_empty_4 rfl hl (by decide) rfl (fun ls hl => ?_)
  refine lv_aload_n (pc := 5) hx hb dX4_empty_5 rfl (lv_at hl 1 rfl) ?_
  refine lv_iconst (v := 0) (pc := 6) hx hb dX4_empty_6 (by decide) ?_
  refine pX4_15 (pc := 7) (v := 0) C hK hP hS hk1 dX4_empty_7 (fun M3 H locs eM3 hP hS => ?_)
  replace h := h M3 eM3
  refine lv_iload_n (pc := 10) hx hb dX4_empty_10 rfl (lv_at hl 0 rfl) ?_
  exact m_iret (v := v2) (pc := 11) C hr hlk hP hS dX4_empty_11 h
/-! ForgeHeats$JobText.codeAt (I)I -/
def wp_X4_codeAt (n : Nat) (M : Mem) (i : Nat) (p1 : Int32) (P : Int32 → Mem → Prop) : Prop := ((p1 < 0 → P 0 M) ∧ (¬ p1 < 0 → m_tp n i 4 ∧ (∃ j2 : Nat, M.2.1 i 0 = some j2 ∧ (m_tp n j2 9 ∧ ((((nI (m_len j2)) ≤ p1 → P 0 M) ∧ (¬ (nI (m_len j2)) ≤ p1 → ∃ j4 : Nat, M.2.1 i 0 = some j4 ∧ (m_tp n j4 9 ∧ (vp_in p1 (m_len j4) ∧ (P (M.1 j4 p1.toNatClampNeg) M))))))))))
abbrev rm_X4_codeAt : Room := { frames := 0, cells := 0, slots := 0, locals := 0 }
set_option maxHeartbeats 4000000 in
set_option maxRecDepth 100000 in
theorem c_X4_codeAt {l : Launch} {D : va_G} {cA : Nat → ClassId} {b n : Nat} {M : Mem} {i : Nat} {p1 : Int32} {P : Int32 → Mem → Prop} (h : wp_X4_codeAt n M i p1 P) : m_C l D cA b n n M yX4_codeAt cX4_codeAt 2 (some .int) rm_X4_codeAt 0 0 [.ref (b + i), .int p1] (rI P) := by
  refine m_enter (by decide) (Nat.le_of_ble_eq_true rfl) (fun p e s m below meth c C hr hlk hnm hK hP hS ls hl => ?_)
  have hx := C.1
  have hb := C.2.1
  have hl : lv_has ls 2 [(0, .ref (b + i)), (1, .int p1)] := hl
  unfold wp_X4_codeAt at h
  refine lv_iload_n (pc := 0) hx hb dX4_codeAt_0 rfl (lv_at hl 1 rfl) ?_
  refine lv_if_lt (tgt := 22) (pc := 1) hx hb dX4_codeAt_1 (by decide) (fun c1 => ?_) (fun c1 => ?_)
  · replace h := h.1 c1
    refine lv_iconst (v := 0) (pc := 22) hx hb dX4_codeAt_22 (by decide) ?_
    exact m_iret (v := 0) (pc := 23) C hr hlk hP hS dX4_codeAt_23 h
  · replace h := h.2 c1
    refine lv_iload_n (pc := 4) hx hb dX4_codeAt_4 rfl (lv_at hl 1 rfl) ?_
    refine lv_aload_n (pc := 5) hx hb dX4_codeAt_5 rfl (lv_at hl 0 rfl) ?_
    obtain ⟨hk1, h⟩ := h
    obtain ⟨j2, hj2, h⟩ := h
    refine gX4_11 (pc := 6) C hK hP hk1 hj2 dX4_codeAt_6 ?_
    obtain ⟨hk3, h⟩ := h
    refine m_alen (pc := 9) (κ := 9) C hK hP hk3 (by decide) rfl dX4_codeAt_9 ?_
    refine lv_icmp_ge (tgt := 22) (pc := 10) hx hb dX4_codeAt_10 (by decide) (fun c10 => ?_) (fun c10 => ?_)
    · replace h := h.1 c10
      refine lv_iconst (v := 0) (pc := 22) hx hb dX4_codeAt_22 (by decide) ?_
      exact m_iret (v := 0) (pc := 23) C hr hlk hP hS dX4_codeAt_23 h
    · replace h := h.2 c10
      refine lv_aload_n (pc := 13) hx hb dX4_codeAt_13 rfl (lv_at hl 0 rfl) ?_
      obtain ⟨j4, hj4, h⟩ := h
      refine gX4_11 (pc := 14) C hK hP hk1 hj4 dX4_codeAt_14 ?_
      refine lv_iload_n (pc := 17) hx hb dX4_codeAt_17 rfl (lv_at hl 1 rfl) ?_
      obtain ⟨hk5, h⟩ := h
      obtain ⟨hi6, h⟩ := h
      refine m_cald (pc := 18) C hK hP hk5 hi6 dX4_codeAt_18 ?_
      refine lv_goto (tgt := 23) (pc := 19) hx hb dX4_codeAt_19 (by decide) ?_
      exact m_iret (v := M.1 j4 p1.toNatClampNeg) (pc := 23) C hr hlk hP hS dX4_codeAt_23 h
/-! ForgeHeats$JobText.begin ()V -/
def wp_X4_begin (n : Nat) (M : Mem) (i : Nat) (P : Mem → Prop) : Prop := m_tp n i 4 ∧ (∀ M2 : Mem, M2 = uI M i 2 0 → (∀ M3 : Mem, M3 = uI M2 i 3 0 → (P M3)))
abbrev rm_X4_begin : Room := { frames := 0, cells := 0, slots := 0, locals := 0 }
set_option maxHeartbeats 4000000 in
set_option maxRecDepth 100000 in
theorem c_X4_begin {l : Launch} {D : va_G} {cA : Nat → ClassId} {b n : Nat} {M : Mem} {i : Nat} {P : Mem → Prop} (h : wp_X4_begin n M i P) : m_C l D cA b n n M yX4_begin cX4_begin 1 none rm_X4_begin 0 0 [.ref (b + i)] (rV P) := by
  refine m_enter (by decide) (Nat.le_of_ble_eq_true rfl) (fun p e s m below meth c C hr hlk hnm hK hP hS ls hl => ?_)
  have hx := C.1
  have hb := C.2.1
  have hl : lv_has ls 1 [(0, .ref (b + i))] := hl
  unfold wp_X4_begin at h
  refine lv_aload_n (pc := 0) hx hb dX4_begin_0 rfl (lv_at hl 0 rfl) ?_
  refine lv_iconst (v := 0) (pc := 1) hx hb dX4_begin_1 (by decide) ?_
  obtain ⟨hk1, h⟩ := h
  refine pX4_19 (pc := 2) (v := 0) C hK hP hS hk1 dX4_begin_2 (fun M2 H locs eM2 hP hS => ?_)
  replace h := h M2 eM2
  refine lv_aload_n (pc := 5) hx hb dX4_begin_5 rfl (lv_at hl 0 rfl) ?_
  refine lv_iconst (v := 0) (pc := 6) hx hb dX4_begin_6 (by decide) ?_
  refine pX4_22 (pc := 7) (v := 0) C hK hP hS hk1 dX4_begin_7 (fun M3 H locs eM3 hP hS => ?_)
  replace h := h M3 eM3
  exact m_vret (pc := 10) C hr hlk hP hS dX4_begin_10 h
/-! ForgeHeats$JobText.countParts ()I -/
def wpB_X4_countParts_4 (n : Nat) (P : Int32 → Mem → Prop) (R_ : Mem → Nat → Int32 → Int32 → Prop) (M : Mem) (x0 : Nat) (x1 : Int32) (x2 : Int32) : Prop := m_tp n x0 4 ∧ ((((M.1 x0 1) ≤ x2 → P x1 M) ∧ (¬ (M.1 x0 1) ≤ x2 → wp_X4_codeAt n M x0 x2 (fun r3 M2 => ((¬ r3 = 59 → ∀ v4 : Int32, v4 = x2 + 1 → (R_ M2 x0 x1 v4)) ∧ (r3 = 59 → ∀ v5 : Int32, v5 = x1 + 1 → (∀ v6 : Int32, v6 = x2 + 1 → (R_ M2 x0 v5 v6))))))))
def wpL_X4_countParts_4 (n : Nat) (P : Int32 → Mem → Prop) : Nat → Mem → Nat → Int32 → Int32 → Prop
  | 0 => fun _ _ _ _ => False
  | f + 1 => fun M x0 x1 x2 => wpB_X4_countParts_4 n P (wpL_X4_countParts_4 n P f) M x0 x1 x2
def wp_X4_countParts (n : Nat) (M : Mem) (i : Nat) (P : Int32 → Mem → Prop) : Prop := ∃ f : Nat, wpL_X4_countParts_4 n P f M i 1 0
abbrev rm_X4_countParts : Room := { frames := 1, cells := 0, slots := 0, locals := 21 }
set_option maxHeartbeats 4000000 in
set_option maxRecDepth 100000 in
theorem c_X4_countParts {l : Launch} {D : va_G} {cA : Nat → ClassId} {b n : Nat} {M : Mem} {i : Nat} {P : Int32 → Mem → Prop} (h : wp_X4_countParts n M i P) : m_C l D cA b n n M yX4_countParts cX4_countParts 3 (some .int) rm_X4_countParts 0 0 [.ref (b + i)] (rI P) := by
  refine m_enter (by decide) (Nat.le_of_ble_eq_true rfl) (fun p e s m below meth c C hr hlk hnm hK hP hS ls hl => ?_)
  have hx := C.1
  have hb := C.2.1
  have hl : lv_has ls 3 [(0, .ref (b + i))] := hl
  have L4 : ∀ f : Nat, ∀ (M : Mem) (H : Heap) (locs : List Loc) (ls : Array Slot) (x0 : Nat) (x1 : Int32) (x2 : Int32), wpL_X4_countParts_4 n P f M x0 x1 x2 → m_H D cA b n M H → va_S (m_A b) s.heap H locs → lv_has ls 3 [(0, .ref (b + x0)), (1, .int x1), (2, .int x2)] → W p l e rm_X4_countParts s m ([.ref (b + i)] : List Value).toArray below meth c H locs 0 0 (MQ below (m_Q D cA b n (rI P)) ([.ref (b + i)] : List Value).toArray s 0 0 (m_A b)) (F0 m 4 ls []) := by
    clear h
    intro f
    induction f with
    | zero => intro M H locs ls x0 x1 x2 h; exact h.elim
    | succ f ih =>
      intro M H locs ls x0 x1 x2 h hP hS hl
      have h : wpB_X4_countParts_4 n P (wpL_X4_countParts_4 n P f) M x0 x1 x2 := h
      unfold wpB_X4_countParts_4 at h
      refine lv_iload_n (pc := 4) hx hb dX4_countParts_4 rfl (lv_at hl 2 rfl) ?_
      refine lv_aload_n (pc := 5) hx hb dX4_countParts_5 rfl (lv_at hl 0 rfl) ?_
      obtain ⟨hk1, h⟩ := h
      refine gX4_15 (pc := 6) C hK hP hk1 dX4_countParts_6 ?_
      refine lv_icmp_ge (tgt := 31) (pc := 9) hx hb dX4_countParts_9 (by decide) (fun c9 => ?_) (fun c9 => ?_)
      · replace h := h.1 c9
        refine lv_iload_n (pc := 31) hx hb dX4_countParts_31 rfl (lv_at hl 1 rfl) ?_
        exact m_iret (v := x1) (pc := 32) C hr hlk hP hS dX4_countParts_32 h
      · replace h := h.2 c9
        refine lv_aload_n (pc := 12) hx hb dX4_countParts_12 rfl (lv_at hl 0 rfl) ?_
        refine lv_iload_n (pc := 13) hx hb dX4_countParts_13 rfl (lv_at hl 2 rfl) ?_
        refine m_callVI (pc := 14) (y := yX4_codeAt) (κ := 4) (As := [.int x2]) (rest := []) C hK hP hS hl.1 ⟨Nat.zero_le _, Nat.zero_le _⟩ (c_X4_codeAt h) rfl rfl hk1 (by decide) rfl q_305 q_306 q_307 q_7 q_308 ⟨rfl, rfl⟩ yd_X4_codeAt ⟨Nat.le_of_ble_eq_true rfl, Nat.le_of_ble_eq_true rfl⟩ (Nat.le_of_ble_eq_true rfl) dX4_countParts_14 (fun r3 M2 H locs h hP hS => ?_)
        refine lv_bipush (v := 59) (pc := 17) hx hb dX4_countParts_17 (by decide) ?_
        refine lv_icmp_ne (tgt := 25) (pc := 19) hx hb dX4_countParts_19 (by decide) (fun c19 => ?_) (fun c19 => ?_)
        · replace h := h.1 c19
          obtain ⟨v4, ev4⟩ : ∃ y : Int32, y = x2 + 1 := ⟨_, rfl⟩
          replace h := h v4 ev4
          refine lv_iinc (v := v4) (lv' := [(2, .int v4), (0, .ref (b + x0)), (1, .int x1)]) (pc := 25) hx hb dX4_countParts_25 hl (k := 2) rfl (by rw [ev4]; rfl) (by decide) rfl (fun ls hl => ?_)
          refine lv_goto (tgt := 4) (pc := 28) hx hb dX4_countParts_28 (by decide) ?_
          exact ih _ _ _ _ _ _ _ h hP hS (lv_sub hl [1, 2, 0] rfl)
        · replace h := h.2 c19
          obtain ⟨v5, ev5⟩ : ∃ y : Int32, y = x1 + 1 := ⟨_, rfl⟩
          replace h := h v5 ev5
          refine lv_iinc (v := v5) (lv' := [(1, .int v5), (0, .ref (b + x0)), (2, .int x2)]) (pc := 22) hx hb dX4_countParts_22 hl (k := 1) rfl (by rw [ev5]; rfl) (by decide) rfl (fun ls hl => ?_)
          obtain ⟨v6, ev6⟩ : ∃ y : Int32, y = x2 + 1 := ⟨_, rfl⟩
          replace h := h v6 ev6
          refine lv_iinc (v := v6) (lv' := [(2, .int v6), (1, .int v5), (0, .ref (b + x0))]) (pc := 25) hx hb dX4_countParts_25 hl (k := 2) rfl (by rw [ev6]; rfl) (by decide) rfl (fun ls hl => ?_)
          refine lv_goto (tgt := 4) (pc := 28) hx hb dX4_countParts_28 (by decide) ?_
          exact ih _ _ _ _ _ _ _ h hP hS (lv_sub hl [2, 1, 0] rfl)
  unfold wp_X4_countParts at h
  refine lv_iconst (v := 1) (pc := 0) hx hb dX4_countParts_0 (by decide) ?_
  refine lv_istore_n (lv' := [(1, .int 1), (0, .ref (b + i))]) (pc := 1) hx hb dX4_countParts_1 rfl hl (by decide) rfl (fun ls hl => ?_)
  refine lv_iconst (v := 0) (pc := 2) hx hb dX4_countParts_2 (by decide) ?_
  refine lv_istore_n (lv' := [(2, .int 0), (1, .int 1), (0, .ref (b + i))]) (pc := 3) hx hb dX4_countParts_3 rfl hl (by decide) rfl (fun ls hl => ?_)
  obtain ⟨f, h⟩ := h
  exact L4 f _ _ _ _ _ _ _ h hP hS (lv_sub hl [2, 1, 0] rfl)
/-! ForgeHeats$JobText.beginPart (I)V -/
def wp_X4_beginPart (n : Nat) (M : Mem) (i : Nat) (p1 : Int32) (P : Mem → Prop) : Prop := m_tp n i 4 ∧ (∀ M2 : Mem, M2 = uI M i 4 p1 → (∀ M3 : Mem, M3 = uI M2 i 7 9999 → (∀ M4 : Mem, M4 = uI M3 i 8 (bI false) → (∀ M5 : Mem, M5 = uI M4 i 3 1 → (P M5)))))
abbrev rm_X4_beginPart : Room := { frames := 0, cells := 0, slots := 0, locals := 0 }
set_option maxHeartbeats 4000000 in
set_option maxRecDepth 100000 in
theorem c_X4_beginPart {l : Launch} {D : va_G} {cA : Nat → ClassId} {b n : Nat} {M : Mem} {i : Nat} {p1 : Int32} {P : Mem → Prop} (h : wp_X4_beginPart n M i p1 P) : m_C l D cA b n n M yX4_beginPart cX4_beginPart 2 none rm_X4_beginPart 0 0 [.ref (b + i), .int p1] (rV P) := by
  refine m_enter (by decide) (Nat.le_of_ble_eq_true rfl) (fun p e s m below meth c C hr hlk hnm hK hP hS ls hl => ?_)
  have hx := C.1
  have hb := C.2.1
  have hl : lv_has ls 2 [(0, .ref (b + i)), (1, .int p1)] := hl
  unfold wp_X4_beginPart at h
  refine lv_aload_n (pc := 0) hx hb dX4_beginPart_0 rfl (lv_at hl 0 rfl) ?_
  refine lv_iload_n (pc := 1) hx hb dX4_beginPart_1 rfl (lv_at hl 1 rfl) ?_
  obtain ⟨hk1, h⟩ := h
  refine pX4_44 (pc := 2) (v := p1) C hK hP hS hk1 dX4_beginPart_2 (fun M2 H locs eM2 hP hS => ?_)
  replace h := h M2 eM2
  refine lv_aload_n (pc := 5) hx hb dX4_beginPart_5 rfl (lv_at hl 0 rfl) ?_
  refine lv_sipush (v := 9999) (pc := 6) hx hb dX4_beginPart_6 (by decide) ?_
  refine pX4_56 (pc := 9) (v := 9999) C hK hP hS hk1 dX4_beginPart_9 (fun M3 H locs eM3 hP hS => ?_)
  replace h := h M3 eM3
  refine lv_aload_n (pc := 12) hx hb dX4_beginPart_12 rfl (lv_at hl 0 rfl) ?_
  refine lv_iconst (v := 0) (pc := 13) hx hb dX4_beginPart_13 (by decide) ?_
  refine pX4_65 (pc := 14) (z := false) C hK hP hS hk1 dX4_beginPart_14 (fun M4 H locs eM4 hP hS => ?_)
  replace h := h M4 eM4
  refine lv_aload_n (pc := 17) hx hb dX4_beginPart_17 rfl (lv_at hl 0 rfl) ?_
  refine lv_iconst (v := 1) (pc := 18) hx hb dX4_beginPart_18 (by decide) ?_
  refine pX4_22 (pc := 19) (v := 1) C hK hP hS hk1 dX4_beginPart_19 (fun M5 H locs eM5 hP hS => ?_)
  replace h := h M5 eM5
  exact m_vret (pc := 22) C hr hlk hP hS dX4_beginPart_22 h
/-! ForgeHeats$JobText.readMoreDue (I)Z -/
def wp_X4_readMoreDue (n : Nat) (M : Mem) (i : Nat) (p1 : Int32) (P : Bool → Mem → Prop) : Prop := m_tp n i 4 ∧ (∀ M2 : Mem, M2 = uI M i 7 ((10 * (M.1 i 7)) + p1) → ((((if ¬ (M.1 i 7) = 0 then false else true) = true → P false M2) ∧ ((if ¬ (M.1 i 7) = 0 then false else true) = false → P (if 9999 < (M2.1 i 7) then false else true) M2))))
abbrev rm_X4_readMoreDue : Room := { frames := 0, cells := 0, slots := 0, locals := 0 }
set_option maxHeartbeats 4000000 in
set_option maxRecDepth 100000 in
theorem c_X4_readMoreDue {l : Launch} {D : va_G} {cA : Nat → ClassId} {b n : Nat} {M : Mem} {i : Nat} {p1 : Int32} {P : Bool → Mem → Prop} (h : wp_X4_readMoreDue n M i p1 P) : m_C l D cA b n n M yX4_readMoreDue cX4_readMoreDue 3 (some .boolean) rm_X4_readMoreDue 0 0 [.ref (b + i), .int p1] (rZ P) := by
  refine m_enter (by decide) (Nat.le_of_ble_eq_true rfl) (fun p e s m below meth c C hr hlk hnm hK hP hS ls hl => ?_)
  have hx := C.1
  have hb := C.2.1
  have hl : lv_has ls 3 [(0, .ref (b + i)), (1, .int p1)] := hl
  unfold wp_X4_readMoreDue at h
  refine lv_aload_n (pc := 0) hx hb dX4_readMoreDue_0 rfl (lv_at hl 0 rfl) ?_
  obtain ⟨hk1, h⟩ := h
  refine gX4_56 (pc := 1) C hK hP hk1 dX4_readMoreDue_1 ?_
  refine m_joinZ (z := if ¬ (M.1 i 7) = 0 then false else true) (jp := 12) (rest := []) ?_ (fun hJ => ?_)
  rotate_left
  · skip
    refine lv_if_ne (tgt := 11) (pc := 4) hx hb dX4_readMoreDue_4 (by decide) (fun c4 => ?_) (fun c4 => ?_)
    · skip
      refine lv_iconst (v := 0) (pc := 11) hx hb dX4_readMoreDue_11 (by decide) ?_
      exact hJ _ false rfl (by rw [if_pos c4])
    · skip
      refine lv_iconst (v := 1) (pc := 7) hx hb dX4_readMoreDue_7 (by decide) ?_
      refine lv_goto (tgt := 12) (pc := 8) hx hb dX4_readMoreDue_8 (by decide) ?_
      exact hJ _ true rfl (by rw [if_neg (fun hn => hn c4)])
  refine lv_istore_n (lv' := [(2, .int (bI (if ¬ (M.1 i 7) = 0 then false else true))), (0, .ref (b + i)), (1, .int p1)]) (pc := 12) hx hb dX4_readMoreDue_12 rfl hl (by decide) rfl (fun ls hl => ?_)
  refine lv_aload_n (pc := 13) hx hb dX4_readMoreDue_13 rfl (lv_at hl 1 rfl) ?_
  refine lv_bipush (v := 10) (pc := 14) hx hb dX4_readMoreDue_14 (by decide) ?_
  refine lv_aload_n (pc := 16) hx hb dX4_readMoreDue_16 rfl (lv_at hl 1 rfl) ?_
  refine gX4_56 (pc := 17) C hK hP hk1 dX4_readMoreDue_17 ?_
  refine lv_imul (pc := 20) hx hb dX4_readMoreDue_20 ?_
  refine lv_iload_n (pc := 21) hx hb dX4_readMoreDue_21 rfl (lv_at hl 2 rfl) ?_
  refine lv_iadd (pc := 22) hx hb dX4_readMoreDue_22 ?_
  refine pX4_56 (pc := 23) (v := (10 * (M.1 i 7)) + p1) C hK hP hS hk1 dX4_readMoreDue_23 (fun M2 H locs eM2 hP hS => ?_)
  replace h := h M2 eM2
  refine lv_iload_n (pc := 26) hx hb dX4_readMoreDue_26 rfl (lv_at hl 0 rfl) ?_
  refine lv_if_ne (tgt := 44) (pc := 27) hx hb dX4_readMoreDue_27 (by decide) (fun c27 => ?_) (fun c27 => ?_)
  · replace h := h.1 (bZ1 c27)
    refine lv_iconst (v := 0) (pc := 44) hx hb dX4_readMoreDue_44 (by decide) ?_
    exact m_zret (v := false) (pc := 45) C hr hlk hP hS dX4_readMoreDue_45 h
  · replace h := h.2 (bZ0 c27)
    refine lv_aload_n (pc := 30) hx hb dX4_readMoreDue_30 rfl (lv_at hl 1 rfl) ?_
    refine gX4_56 (pc := 31) C hK hP hk1 dX4_readMoreDue_31 ?_
    refine lv_sipush (v := 9999) (pc := 34) hx hb dX4_readMoreDue_34 (by decide) ?_
    refine m_joinZ (z := if 9999 < (M2.1 i 7) then false else true) (jp := 45) (rest := []) ?_ (fun hJ => ?_)
    rotate_left
    · skip
      refine lv_icmp_gt (tgt := 44) (pc := 37) hx hb dX4_readMoreDue_37 (by decide) (fun c37 => ?_) (fun c37 => ?_)
      · skip
        refine lv_iconst (v := 0) (pc := 44) hx hb dX4_readMoreDue_44 (by decide) ?_
        exact hJ _ false rfl (by rw [if_pos c37])
      · skip
        refine lv_iconst (v := 1) (pc := 40) hx hb dX4_readMoreDue_40 (by decide) ?_
        refine lv_goto (tgt := 45) (pc := 41) hx hb dX4_readMoreDue_41 (by decide) ?_
        exact hJ _ true rfl (by rw [if_neg c37])
    exact m_zret (v := if 9999 < (M2.1 i 7) then false else true) (pc := 45) C hr hlk hP hS dX4_readMoreDue_45 h
/-! ForgeHeats$JobText.readSeparator (I)Z -/
def wp_X4_readSeparator (n : Nat) (M : Mem) (i : Nat) (p1 : Int32) (P : Bool → Mem → Prop) : Prop := m_tp n i 4 ∧ (∀ M2 : Mem, M2 = uI M i 3 0 → (P (if ¬ p1 = 59 then false else true) M2))
abbrev rm_X4_readSeparator : Room := { frames := 0, cells := 0, slots := 0, locals := 0 }
set_option maxHeartbeats 4000000 in
set_option maxRecDepth 100000 in
theorem c_X4_readSeparator {l : Launch} {D : va_G} {cA : Nat → ClassId} {b n : Nat} {M : Mem} {i : Nat} {p1 : Int32} {P : Bool → Mem → Prop} (h : wp_X4_readSeparator n M i p1 P) : m_C l D cA b n n M yX4_readSeparator cX4_readSeparator 2 (some .boolean) rm_X4_readSeparator 0 0 [.ref (b + i), .int p1] (rZ P) := by
  refine m_enter (by decide) (Nat.le_of_ble_eq_true rfl) (fun p e s m below meth c C hr hlk hnm hK hP hS ls hl => ?_)
  have hx := C.1
  have hb := C.2.1
  have hl : lv_has ls 2 [(0, .ref (b + i)), (1, .int p1)] := hl
  unfold wp_X4_readSeparator at h
  refine lv_aload_n (pc := 0) hx hb dX4_readSeparator_0 rfl (lv_at hl 0 rfl) ?_
  refine lv_iconst (v := 0) (pc := 1) hx hb dX4_readSeparator_1 (by decide) ?_
  obtain ⟨hk1, h⟩ := h
  refine pX4_22 (pc := 2) (v := 0) C hK hP hS hk1 dX4_readSeparator_2 (fun M2 H locs eM2 hP hS => ?_)
  replace h := h M2 eM2
  refine lv_iload_n (pc := 5) hx hb dX4_readSeparator_5 rfl (lv_at hl 1 rfl) ?_
  refine lv_bipush (v := 59) (pc := 6) hx hb dX4_readSeparator_6 (by decide) ?_
  refine m_joinZ (z := if ¬ p1 = 59 then false else true) (jp := 16) (rest := []) ?_ (fun hJ => ?_)
  rotate_left
  · skip
    refine lv_icmp_ne (tgt := 15) (pc := 8) hx hb dX4_readSeparator_8 (by decide) (fun c8 => ?_) (fun c8 => ?_)
    · skip
      refine lv_iconst (v := 0) (pc := 15) hx hb dX4_readSeparator_15 (by decide) ?_
      exact hJ _ false rfl (by rw [if_pos c8])
    · skip
      refine lv_iconst (v := 1) (pc := 11) hx hb dX4_readSeparator_11 (by decide) ?_
      refine lv_goto (tgt := 16) (pc := 12) hx hb dX4_readSeparator_12 (by decide) ?_
      exact hJ _ true rfl (by rw [if_neg (fun hn => hn c8)])
  exact m_zret (v := if ¬ p1 = 59 then false else true) (pc := 16) C hr hlk hP hS dX4_readSeparator_16 h
/-! ForgeHeats$JobText.readEnd (I)Z -/
def wp_X4_readEnd (n : Nat) (M : Mem) (i : Nat) (p1 : Int32) (P : Bool → Mem → Prop) : Prop := ((¬ p1 = 33 → m_tp n i 4 ∧ (wp_X4_readSeparator n M i p1 (fun z3 M1 => P z3 M1))) ∧ (p1 = 33 → m_tp n i 4 ∧ (∀ M5 : Mem, M5 = uI M i 8 (bI true) → (∀ M6 : Mem, M6 = uI M5 i 3 8 → (P true M6)))))
abbrev rm_X4_readEnd : Room := { frames := 1, cells := 0, slots := 0, locals := 21 }
set_option maxHeartbeats 4000000 in
set_option maxRecDepth 100000 in
theorem c_X4_readEnd {l : Launch} {D : va_G} {cA : Nat → ClassId} {b n : Nat} {M : Mem} {i : Nat} {p1 : Int32} {P : Bool → Mem → Prop} (h : wp_X4_readEnd n M i p1 P) : m_C l D cA b n n M yX4_readEnd cX4_readEnd 2 (some .boolean) rm_X4_readEnd 0 0 [.ref (b + i), .int p1] (rZ P) := by
  refine m_enter (by decide) (Nat.le_of_ble_eq_true rfl) (fun p e s m below meth c C hr hlk hnm hK hP hS ls hl => ?_)
  have hx := C.1
  have hb := C.2.1
  have hl : lv_has ls 2 [(0, .ref (b + i)), (1, .int p1)] := hl
  unfold wp_X4_readEnd at h
  refine lv_iload_n (pc := 0) hx hb dX4_readEnd_0 rfl (lv_at hl 1 rfl) ?_
  refine lv_bipush (v := 33) (pc := 1) hx hb dX4_readEnd_1 (by decide) ?_
  refine lv_icmp_ne (tgt := 19) (pc := 3) hx hb dX4_readEnd_3 (by decide) (fun c3 => ?_) (fun c3 => ?_)
  · replace h := h.1 c3
    refine lv_aload_n (pc := 19) hx hb dX4_readEnd_19 rfl (lv_at hl 0 rfl) ?_
    refine lv_iload_n (pc := 20) hx hb dX4_readEnd_20 rfl (lv_at hl 1 rfl) ?_
    obtain ⟨hk2, h⟩ := h
    refine m_callVZ (pc := 21) (y := yX4_readSeparator) (κ := 4) (As := [.int p1]) (rest := []) C hK hP hS hl.1 ⟨Nat.zero_le _, Nat.zero_le _⟩ (c_X4_readSeparator h) rfl rfl hk2 (by decide) rfl q_321 q_323 q_s3 q_7 q_324 ⟨rfl, rfl⟩ yd_X4_readSeparator ⟨Nat.le_of_ble_eq_true rfl, Nat.le_of_ble_eq_true rfl⟩ (Nat.le_of_ble_eq_true rfl) dX4_readEnd_21 (fun z3 M1 H locs h hP hS => ?_)
    exact m_zret (v := z3) (pc := 24) C hr hlk hP hS dX4_readEnd_24 h
  · replace h := h.2 c3
    refine lv_aload_n (pc := 6) hx hb dX4_readEnd_6 rfl (lv_at hl 0 rfl) ?_
    refine lv_iconst (v := 1) (pc := 7) hx hb dX4_readEnd_7 (by decide) ?_
    obtain ⟨hk4, h⟩ := h
    refine pX4_65 (pc := 8) (z := true) C hK hP hS hk4 dX4_readEnd_8 (fun M5 H locs eM5 hP hS => ?_)
    replace h := h M5 eM5
    refine lv_aload_n (pc := 11) hx hb dX4_readEnd_11 rfl (lv_at hl 0 rfl) ?_
    refine lv_bipush (v := 8) (pc := 12) hx hb dX4_readEnd_12 (by decide) ?_
    refine pX4_22 (pc := 14) (v := 8) C hK hP hS hk4 dX4_readEnd_14 (fun M6 H locs eM6 hP hS => ?_)
    replace h := h M6 eM6
    refine lv_iconst (v := 1) (pc := 17) hx hb dX4_readEnd_17 (by decide) ?_
    exact m_zret (v := true) (pc := 18) C hr hlk hP hS dX4_readEnd_18 h
/-! ForgeHeats$JobText.read (I)Z -/
def wp_X4_read (n : Nat) (M : Mem) (i : Nat) (p1 : Int32) (P : Bool → Mem → Prop) : Prop := ∀ v1 : Int32, v1 = (if p1 < 48 then (-1) else (if 57 < p1 then (-1) else (p1 - 48))) → (m_tp n i 4 ∧ ((((M.1 i 3) = 0 → wp_X4_beginPart n M i v1 (fun M3 => P (if v1 ≤ 0 then false else true) M3)) ∧ (¬ (M.1 i 3) = 0 → (((M.1 i 3) = 1 → ((¬ p1 = 100 → ∀ M5 : Mem, M5 = uI M i 4 ((10 * (M.1 i 4)) + v1) → (((v1 = (-1) → P false M5) ∧ (¬ v1 = (-1) → P (if 40 < (M5.1 i 4) then false else true) M5)))) ∧ (p1 = 100 → ∀ M6 : Mem, M6 = uI M i 3 2 → (P true M6)))) ∧ (¬ (M.1 i 3) = 1 → (((M.1 i 3) = 2 → ∀ M7 : Mem, M7 = uI M i 5 v1 → (∀ M8 : Mem, M8 = uI M7 i 3 3 → (P (if v1 = (-1) then false else (if 5 ≤ v1 then false else true)) M8))) ∧ (¬ (M.1 i 3) = 2 → (((M.1 i 3) = 3 → ∀ M9 : Mem, M9 = uI M i 3 4 → (P (if ¬ p1 = 104 then false else true) M9)) ∧ (¬ (M.1 i 3) = 3 → (((M.1 i 3) = 4 → ∀ M10 : Mem, M10 = uI M i 6 v1 → (∀ M11 : Mem, M11 = uI M10 i 3 5 → (P (if v1 = (-1) then false else (if 4 ≤ v1 then false else true)) M11))) ∧ (¬ (M.1 i 3) = 4 → (((M.1 i 3) = 5 → ((¬ p1 = 64 → wp_X4_readEnd n M i p1 (fun z13 M12 => P z13 M12)) ∧ (p1 = 64 → ∀ M14 : Mem, M14 = uI M i 3 6 → (P true M14)))) ∧ (¬ (M.1 i 3) = 5 → (((M.1 i 3) = 6 → ∀ M15 : Mem, M15 = uI M i 7 v1 → (∀ M16 : Mem, M16 = uI M15 i 3 7 → (P (if v1 = (-1) then false else true) M16))) ∧ (¬ (M.1 i 3) = 6 → (((M.1 i 3) = 7 → ((¬ v1 = (-1) → wp_X4_readMoreDue n M i v1 (fun z18 M17 => P z18 M17)) ∧ (v1 = (-1) → wp_X4_readEnd n M i p1 (fun z20 M19 => P z20 M19)))) ∧ (¬ (M.1 i 3) = 7 → wp_X4_readSeparator n M i p1 (fun z22 M21 => P z22 M21)))))))))))))))))))
abbrev rm_X4_read : Room := { frames := 2, cells := 0, slots := 0, locals := 42 }
set_option maxHeartbeats 4000000 in
set_option maxRecDepth 100000 in
theorem c_X4_read {l : Launch} {D : va_G} {cA : Nat → ClassId} {b n : Nat} {M : Mem} {i : Nat} {p1 : Int32} {P : Bool → Mem → Prop} (h : wp_X4_read n M i p1 P) : m_C l D cA b n n M yX4_read cX4_read 3 (some .boolean) rm_X4_read 0 0 [.ref (b + i), .int p1] (rZ P) := by
  refine m_enter (by decide) (Nat.le_of_ble_eq_true rfl) (fun p e s m below meth c C hr hlk hnm hK hP hS ls hl => ?_)
  have hx := C.1
  have hb := C.2.1
  have hl : lv_has ls 3 [(0, .ref (b + i)), (1, .int p1)] := hl
  unfold wp_X4_read at h
  refine lv_iload_n (pc := 0) hx hb dX4_read_0 rfl (lv_at hl 1 rfl) ?_
  refine lv_bipush (v := 48) (pc := 1) hx hb dX4_read_1 (by decide) ?_
  refine m_join (v := if p1 < 48 then (-1) else (if 57 < p1 then (-1) else (p1 - 48))) (jp := 20) (rest := []) ?_ (fun hJ => ?_)
  rotate_left
  · skip
    refine lv_icmp_lt (tgt := 19) (pc := 3) hx hb dX4_read_3 (by decide) (fun c3 => ?_) (fun c3 => ?_)
    · skip
      refine lv_iconst (v := -1) (pc := 19) hx hb dX4_read_19 (by decide) ?_
      exact hJ _ (by rw [if_pos c3])
    · skip
      refine lv_iload_n (pc := 6) hx hb dX4_read_6 rfl (lv_at hl 1 rfl) ?_
      refine lv_bipush (v := 57) (pc := 7) hx hb dX4_read_7 (by decide) ?_
      refine lv_icmp_gt (tgt := 19) (pc := 9) hx hb dX4_read_9 (by decide) (fun c9 => ?_) (fun c9 => ?_)
      · skip
        refine lv_iconst (v := -1) (pc := 19) hx hb dX4_read_19 (by decide) ?_
        exact hJ _ (by rw [if_neg c3, if_pos c9])
      · skip
        refine lv_iload_n (pc := 12) hx hb dX4_read_12 rfl (lv_at hl 1 rfl) ?_
        refine lv_bipush (v := 48) (pc := 13) hx hb dX4_read_13 (by decide) ?_
        refine lv_isub (pc := 15) hx hb dX4_read_15 ?_
        refine lv_goto (tgt := 20) (pc := 16) hx hb dX4_read_16 (by decide) ?_
        exact hJ _ (by rw [if_neg c3, if_neg c9])
  refine lv_topi (fun v1 ev1 => ?_)
  replace h := h v1 ev1
  refine lv_istore_n (lv' := [(2, .int v1), (0, .ref (b + i)), (1, .int p1)]) (pc := 20) hx hb dX4_read_20 rfl hl (by decide) rfl (fun ls hl => ?_)
  refine lv_aload_n (pc := 21) hx hb dX4_read_21 rfl (lv_at hl 1 rfl) ?_
  obtain ⟨hk2, h⟩ := h
  refine gX4_22 (pc := 22) C hK hP hk2 dX4_read_22 ?_
  by_cases n25_0 : (M.1 i 3) = 0
  · replace h := h.1 n25_0
    refine m_case (v := 0) (off := 47) (tgt := 72) (pc := 25) hx hb n25_0 dX4_read_25 (by decide) (by decide) (by decide) (by decide) ?_
    refine lv_aload_n (pc := 72) hx hb dX4_read_72 rfl (lv_at hl 1 rfl) ?_
    refine lv_iload_n (pc := 73) hx hb dX4_read_73 rfl (lv_at hl 0 rfl) ?_
    refine m_callVV (pc := 74) (y := yX4_beginPart) (κ := 4) (As := [.int v1]) (rest := []) C hK hP hS hl.1 ⟨Nat.zero_le _, Nat.zero_le _⟩ (c_X4_beginPart h) rfl rfl hk2 (by decide) rfl q_313 q_315 q_s1 q_7 q_316 ⟨rfl, rfl⟩ yd_X4_beginPart ⟨Nat.le_of_ble_eq_true rfl, Nat.le_of_ble_eq_true rfl⟩ (Nat.le_of_ble_eq_true rfl) dX4_read_74 (fun M3 H locs h hP hS => ?_)
    refine lv_iload_n (pc := 77) hx hb dX4_read_77 rfl (lv_at hl 0 rfl) ?_
    refine m_joinZ (z := if v1 ≤ 0 then false else true) (jp := 86) (rest := []) ?_ (fun hJ => ?_)
    rotate_left
    · skip
      refine lv_if_le (tgt := 85) (pc := 78) hx hb dX4_read_78 (by decide) (fun c78 => ?_) (fun c78 => ?_)
      · skip
        refine lv_iconst (v := 0) (pc := 85) hx hb dX4_read_85 (by decide) ?_
        exact hJ _ false rfl (by rw [if_pos c78])
      · skip
        refine lv_iconst (v := 1) (pc := 81) hx hb dX4_read_81 (by decide) ?_
        refine lv_goto (tgt := 86) (pc := 82) hx hb dX4_read_82 (by decide) ?_
        exact hJ _ true rfl (by rw [if_neg c78])
    exact m_zret (v := if v1 ≤ 0 then false else true) (pc := 86) C hr hlk hP hS dX4_read_86 h
  · replace h := h.2 n25_0
    by_cases n25_1 : (M.1 i 3) = 1
    · replace h := h.1 n25_1
      refine m_case (v := 1) (off := 62) (tgt := 87) (pc := 25) hx hb n25_1 dX4_read_25 (by decide) (by decide) (by decide) (by decide) ?_
      refine lv_iload_n (pc := 87) hx hb dX4_read_87 rfl (lv_at hl 2 rfl) ?_
      refine lv_bipush (v := 100) (pc := 88) hx hb dX4_read_88 (by decide) ?_
      refine lv_icmp_ne (tgt := 100) (pc := 90) hx hb dX4_read_90 (by decide) (fun c90 => ?_) (fun c90 => ?_)
      · replace h := h.1 c90
        refine lv_aload_n (pc := 100) hx hb dX4_read_100 rfl (lv_at hl 1 rfl) ?_
        refine lv_bipush (v := 10) (pc := 101) hx hb dX4_read_101 (by decide) ?_
        refine lv_aload_n (pc := 103) hx hb dX4_read_103 rfl (lv_at hl 1 rfl) ?_
        refine gX4_44 (pc := 104) C hK hP hk2 dX4_read_104 ?_
        refine lv_imul (pc := 107) hx hb dX4_read_107 ?_
        refine lv_iload_n (pc := 108) hx hb dX4_read_108 rfl (lv_at hl 0 rfl) ?_
        refine lv_iadd (pc := 109) hx hb dX4_read_109 ?_
        refine pX4_44 (pc := 110) (v := (10 * (M.1 i 4)) + v1) C hK hP hS hk2 dX4_read_110 (fun M5 H locs eM5 hP hS => ?_)
        replace h := h M5 eM5
        refine lv_iload_n (pc := 113) hx hb dX4_read_113 rfl (lv_at hl 0 rfl) ?_
        refine lv_iconst (v := -1) (pc := 114) hx hb dX4_read_114 (by decide) ?_
        refine lv_icmp_eq (tgt := 131) (pc := 115) hx hb dX4_read_115 (by decide) (fun c115 => ?_) (fun c115 => ?_)
        · replace h := h.1 c115
          refine lv_iconst (v := 0) (pc := 131) hx hb dX4_read_131 (by decide) ?_
          exact m_zret (v := false) (pc := 132) C hr hlk hP hS dX4_read_132 h
        · replace h := h.2 c115
          refine lv_aload_n (pc := 118) hx hb dX4_read_118 rfl (lv_at hl 1 rfl) ?_
          refine gX4_44 (pc := 119) C hK hP hk2 dX4_read_119 ?_
          refine lv_bipush (v := 40) (pc := 122) hx hb dX4_read_122 (by decide) ?_
          refine m_joinZ (z := if 40 < (M5.1 i 4) then false else true) (jp := 132) (rest := []) ?_ (fun hJ => ?_)
          rotate_left
          · skip
            refine lv_icmp_gt (tgt := 131) (pc := 124) hx hb dX4_read_124 (by decide) (fun c124 => ?_) (fun c124 => ?_)
            · skip
              refine lv_iconst (v := 0) (pc := 131) hx hb dX4_read_131 (by decide) ?_
              exact hJ _ false rfl (by rw [if_pos c124])
            · skip
              refine lv_iconst (v := 1) (pc := 127) hx hb dX4_read_127 (by decide) ?_
              refine lv_goto (tgt := 132) (pc := 128) hx hb dX4_read_128 (by decide) ?_
              exact hJ _ true rfl (by rw [if_neg c124])
          exact m_zret (v := if 40 < (M5.1 i 4) then false else true) (pc := 132) C hr hlk hP hS dX4_read_132 h
      · replace h := h.2 c90
        refine lv_aload_n (pc := 93) hx hb dX4_read_93 rfl (lv_at hl 1 rfl) ?_
        refine lv_iconst (v := 2) (pc := 94) hx hb dX4_read_94 (by decide) ?_
        refine pX4_22 (pc := 95) (v := 2) C hK hP hS hk2 dX4_read_95 (fun M6 H locs eM6 hP hS => ?_)
        replace h := h M6 eM6
        refine lv_iconst (v := 1) (pc := 98) hx hb dX4_read_98 (by decide) ?_
        exact m_zret (v := true) (pc := 99) C hr hlk hP hS dX4_read_99 h
    · replace h := h.2 n25_1
      by_cases n25_2 : (M.1 i 3) = 2
      · replace h := h.1 n25_2
        refine m_case (v := 2) (off := 108) (tgt := 133) (pc := 25) hx hb n25_2 dX4_read_25 (by decide) (by decide) (by decide) (by decide) ?_
        refine lv_aload_n (pc := 133) hx hb dX4_read_133 rfl (lv_at hl 1 rfl) ?_
        refine lv_iload_n (pc := 134) hx hb dX4_read_134 rfl (lv_at hl 0 rfl) ?_
        refine pX4_47 (pc := 135) (v := v1) C hK hP hS hk2 dX4_read_135 (fun M7 H locs eM7 hP hS => ?_)
        replace h := h M7 eM7
        refine lv_aload_n (pc := 138) hx hb dX4_read_138 rfl (lv_at hl 1 rfl) ?_
        refine lv_iconst (v := 3) (pc := 139) hx hb dX4_read_139 (by decide) ?_
        refine pX4_22 (pc := 140) (v := 3) C hK hP hS hk2 dX4_read_140 (fun M8 H locs eM8 hP hS => ?_)
        replace h := h M8 eM8
        refine lv_iload_n (pc := 143) hx hb dX4_read_143 rfl (lv_at hl 0 rfl) ?_
        refine lv_iconst (v := -1) (pc := 144) hx hb dX4_read_144 (by decide) ?_
        refine m_joinZ (z := if v1 = (-1) then false else (if 5 ≤ v1 then false else true)) (jp := 158) (rest := []) ?_ (fun hJ => ?_)
        rotate_left
        · skip
          refine lv_icmp_eq (tgt := 157) (pc := 145) hx hb dX4_read_145 (by decide) (fun c145 => ?_) (fun c145 => ?_)
          · skip
            refine lv_iconst (v := 0) (pc := 157) hx hb dX4_read_157 (by decide) ?_
            exact hJ _ false rfl (by rw [if_pos c145])
          · skip
            refine lv_iload_n (pc := 148) hx hb dX4_read_148 rfl (lv_at hl 0 rfl) ?_
            refine lv_iconst (v := 5) (pc := 149) hx hb dX4_read_149 (by decide) ?_
            refine lv_icmp_ge (tgt := 157) (pc := 150) hx hb dX4_read_150 (by decide) (fun c150 => ?_) (fun c150 => ?_)
            · skip
              refine lv_iconst (v := 0) (pc := 157) hx hb dX4_read_157 (by decide) ?_
              exact hJ _ false rfl (by rw [if_neg c145, if_pos c150])
            · skip
              refine lv_iconst (v := 1) (pc := 153) hx hb dX4_read_153 (by decide) ?_
              refine lv_goto (tgt := 158) (pc := 154) hx hb dX4_read_154 (by decide) ?_
              exact hJ _ true rfl (by rw [if_neg c145, if_neg c150])
        exact m_zret (v := if v1 = (-1) then false else (if 5 ≤ v1 then false else true)) (pc := 158) C hr hlk hP hS dX4_read_158 h
      · replace h := h.2 n25_2
        by_cases n25_3 : (M.1 i 3) = 3
        · replace h := h.1 n25_3
          refine m_case (v := 3) (off := 134) (tgt := 159) (pc := 25) hx hb n25_3 dX4_read_25 (by decide) (by decide) (by decide) (by decide) ?_
          refine lv_aload_n (pc := 159) hx hb dX4_read_159 rfl (lv_at hl 1 rfl) ?_
          refine lv_iconst (v := 4) (pc := 160) hx hb dX4_read_160 (by decide) ?_
          refine pX4_22 (pc := 161) (v := 4) C hK hP hS hk2 dX4_read_161 (fun M9 H locs eM9 hP hS => ?_)
          replace h := h M9 eM9
          refine lv_iload_n (pc := 164) hx hb dX4_read_164 rfl (lv_at hl 2 rfl) ?_
          refine lv_bipush (v := 104) (pc := 165) hx hb dX4_read_165 (by decide) ?_
          refine m_joinZ (z := if ¬ p1 = 104 then false else true) (jp := 175) (rest := []) ?_ (fun hJ => ?_)
          rotate_left
          · skip
            refine lv_icmp_ne (tgt := 174) (pc := 167) hx hb dX4_read_167 (by decide) (fun c167 => ?_) (fun c167 => ?_)
            · skip
              refine lv_iconst (v := 0) (pc := 174) hx hb dX4_read_174 (by decide) ?_
              exact hJ _ false rfl (by rw [if_pos c167])
            · skip
              refine lv_iconst (v := 1) (pc := 170) hx hb dX4_read_170 (by decide) ?_
              refine lv_goto (tgt := 175) (pc := 171) hx hb dX4_read_171 (by decide) ?_
              exact hJ _ true rfl (by rw [if_neg (fun hn => hn c167)])
          exact m_zret (v := if ¬ p1 = 104 then false else true) (pc := 175) C hr hlk hP hS dX4_read_175 h
        · replace h := h.2 n25_3
          by_cases n25_4 : (M.1 i 3) = 4
          · replace h := h.1 n25_4
            refine m_case (v := 4) (off := 151) (tgt := 176) (pc := 25) hx hb n25_4 dX4_read_25 (by decide) (by decide) (by decide) (by decide) ?_
            refine lv_aload_n (pc := 176) hx hb dX4_read_176 rfl (lv_at hl 1 rfl) ?_
            refine lv_iload_n (pc := 177) hx hb dX4_read_177 rfl (lv_at hl 0 rfl) ?_
            refine pX4_50 (pc := 178) (v := v1) C hK hP hS hk2 dX4_read_178 (fun M10 H locs eM10 hP hS => ?_)
            replace h := h M10 eM10
            refine lv_aload_n (pc := 181) hx hb dX4_read_181 rfl (lv_at hl 1 rfl) ?_
            refine lv_iconst (v := 5) (pc := 182) hx hb dX4_read_182 (by decide) ?_
            refine pX4_22 (pc := 183) (v := 5) C hK hP hS hk2 dX4_read_183 (fun M11 H locs eM11 hP hS => ?_)
            replace h := h M11 eM11
            refine lv_iload_n (pc := 186) hx hb dX4_read_186 rfl (lv_at hl 0 rfl) ?_
            refine lv_iconst (v := -1) (pc := 187) hx hb dX4_read_187 (by decide) ?_
            refine m_joinZ (z := if v1 = (-1) then false else (if 4 ≤ v1 then false else true)) (jp := 201) (rest := []) ?_ (fun hJ => ?_)
            rotate_left
            · skip
              refine lv_icmp_eq (tgt := 200) (pc := 188) hx hb dX4_read_188 (by decide) (fun c188 => ?_) (fun c188 => ?_)
              · skip
                refine lv_iconst (v := 0) (pc := 200) hx hb dX4_read_200 (by decide) ?_
                exact hJ _ false rfl (by rw [if_pos c188])
              · skip
                refine lv_iload_n (pc := 191) hx hb dX4_read_191 rfl (lv_at hl 0 rfl) ?_
                refine lv_iconst (v := 4) (pc := 192) hx hb dX4_read_192 (by decide) ?_
                refine lv_icmp_ge (tgt := 200) (pc := 193) hx hb dX4_read_193 (by decide) (fun c193 => ?_) (fun c193 => ?_)
                · skip
                  refine lv_iconst (v := 0) (pc := 200) hx hb dX4_read_200 (by decide) ?_
                  exact hJ _ false rfl (by rw [if_neg c188, if_pos c193])
                · skip
                  refine lv_iconst (v := 1) (pc := 196) hx hb dX4_read_196 (by decide) ?_
                  refine lv_goto (tgt := 201) (pc := 197) hx hb dX4_read_197 (by decide) ?_
                  exact hJ _ true rfl (by rw [if_neg c188, if_neg c193])
            exact m_zret (v := if v1 = (-1) then false else (if 4 ≤ v1 then false else true)) (pc := 201) C hr hlk hP hS dX4_read_201 h
          · replace h := h.2 n25_4
            by_cases n25_5 : (M.1 i 3) = 5
            · replace h := h.1 n25_5
              refine m_case (v := 5) (off := 177) (tgt := 202) (pc := 25) hx hb n25_5 dX4_read_25 (by decide) (by decide) (by decide) (by decide) ?_
              refine lv_iload_n (pc := 202) hx hb dX4_read_202 rfl (lv_at hl 2 rfl) ?_
              refine lv_bipush (v := 64) (pc := 203) hx hb dX4_read_203 (by decide) ?_
              refine lv_icmp_ne (tgt := 216) (pc := 205) hx hb dX4_read_205 (by decide) (fun c205 => ?_) (fun c205 => ?_)
              · replace h := h.1 c205
                refine lv_aload_n (pc := 216) hx hb dX4_read_216 rfl (lv_at hl 1 rfl) ?_
                refine lv_iload_n (pc := 217) hx hb dX4_read_217 rfl (lv_at hl 2 rfl) ?_
                refine m_callVZ (pc := 218) (y := yX4_readEnd) (κ := 4) (As := [.int p1]) (rest := []) C hK hP hS hl.1 ⟨Nat.zero_le _, Nat.zero_le _⟩ (c_X4_readEnd h) rfl rfl hk2 (by decide) rfl q_317 q_319 q_s2 q_7 q_320 ⟨rfl, rfl⟩ yd_X4_readEnd ⟨Nat.le_of_ble_eq_true rfl, Nat.le_of_ble_eq_true rfl⟩ (Nat.le_of_ble_eq_true rfl) dX4_read_218 (fun z13 M12 H locs h hP hS => ?_)
                exact m_zret (v := z13) (pc := 221) C hr hlk hP hS dX4_read_221 h
              · replace h := h.2 c205
                refine lv_aload_n (pc := 208) hx hb dX4_read_208 rfl (lv_at hl 1 rfl) ?_
                refine lv_bipush (v := 6) (pc := 209) hx hb dX4_read_209 (by decide) ?_
                refine pX4_22 (pc := 211) (v := 6) C hK hP hS hk2 dX4_read_211 (fun M14 H locs eM14 hP hS => ?_)
                replace h := h M14 eM14
                refine lv_iconst (v := 1) (pc := 214) hx hb dX4_read_214 (by decide) ?_
                exact m_zret (v := true) (pc := 215) C hr hlk hP hS dX4_read_215 h
            · replace h := h.2 n25_5
              by_cases n25_6 : (M.1 i 3) = 6
              · replace h := h.1 n25_6
                refine m_case (v := 6) (off := 197) (tgt := 222) (pc := 25) hx hb n25_6 dX4_read_25 (by decide) (by decide) (by decide) (by decide) ?_
                refine lv_aload_n (pc := 222) hx hb dX4_read_222 rfl (lv_at hl 1 rfl) ?_
                refine lv_iload_n (pc := 223) hx hb dX4_read_223 rfl (lv_at hl 0 rfl) ?_
                refine pX4_56 (pc := 224) (v := v1) C hK hP hS hk2 dX4_read_224 (fun M15 H locs eM15 hP hS => ?_)
                replace h := h M15 eM15
                refine lv_aload_n (pc := 227) hx hb dX4_read_227 rfl (lv_at hl 1 rfl) ?_
                refine lv_bipush (v := 7) (pc := 228) hx hb dX4_read_228 (by decide) ?_
                refine pX4_22 (pc := 230) (v := 7) C hK hP hS hk2 dX4_read_230 (fun M16 H locs eM16 hP hS => ?_)
                replace h := h M16 eM16
                refine lv_iload_n (pc := 233) hx hb dX4_read_233 rfl (lv_at hl 0 rfl) ?_
                refine lv_iconst (v := -1) (pc := 234) hx hb dX4_read_234 (by decide) ?_
                refine m_joinZ (z := if v1 = (-1) then false else true) (jp := 243) (rest := []) ?_ (fun hJ => ?_)
                rotate_left
                · skip
                  refine lv_icmp_eq (tgt := 242) (pc := 235) hx hb dX4_read_235 (by decide) (fun c235 => ?_) (fun c235 => ?_)
                  · skip
                    refine lv_iconst (v := 0) (pc := 242) hx hb dX4_read_242 (by decide) ?_
                    exact hJ _ false rfl (by rw [if_pos c235])
                  · skip
                    refine lv_iconst (v := 1) (pc := 238) hx hb dX4_read_238 (by decide) ?_
                    refine lv_goto (tgt := 243) (pc := 239) hx hb dX4_read_239 (by decide) ?_
                    exact hJ _ true rfl (by rw [if_neg c235])
                exact m_zret (v := if v1 = (-1) then false else true) (pc := 243) C hr hlk hP hS dX4_read_243 h
              · replace h := h.2 n25_6
                by_cases n25_7 : (M.1 i 3) = 7
                · replace h := h.1 n25_7
                  refine m_case (v := 7) (off := 219) (tgt := 244) (pc := 25) hx hb n25_7 dX4_read_25 (by decide) (by decide) (by decide) (by decide) ?_
                  refine lv_iload_n (pc := 244) hx hb dX4_read_244 rfl (lv_at hl 0 rfl) ?_
                  refine lv_iconst (v := -1) (pc := 245) hx hb dX4_read_245 (by decide) ?_
                  refine lv_icmp_ne (tgt := 257) (pc := 246) hx hb dX4_read_246 (by decide) (fun c246 => ?_) (fun c246 => ?_)
                  · replace h := h.1 c246
                    refine lv_aload_n (pc := 257) hx hb dX4_read_257 rfl (lv_at hl 1 rfl) ?_
                    refine lv_iload_n (pc := 258) hx hb dX4_read_258 rfl (lv_at hl 0 rfl) ?_
                    refine m_callVZ (pc := 259) (y := yX4_readMoreDue) (κ := 4) (As := [.int v1]) (rest := []) C hK hP hS hl.1 ⟨Nat.zero_le _, Nat.zero_le _⟩ (c_X4_readMoreDue h) rfl rfl hk2 (by decide) rfl q_325 q_327 q_s4 q_7 q_328 ⟨rfl, rfl⟩ yd_X4_readMoreDue ⟨Nat.le_of_ble_eq_true rfl, Nat.le_of_ble_eq_true rfl⟩ (Nat.le_of_ble_eq_true rfl) dX4_read_259 (fun z18 M17 H locs h hP hS => ?_)
                    exact m_zret (v := z18) (pc := 262) C hr hlk hP hS dX4_read_262 h
                  · replace h := h.2 c246
                    refine lv_aload_n (pc := 249) hx hb dX4_read_249 rfl (lv_at hl 1 rfl) ?_
                    refine lv_iload_n (pc := 250) hx hb dX4_read_250 rfl (lv_at hl 2 rfl) ?_
                    refine m_callVZ (pc := 251) (y := yX4_readEnd) (κ := 4) (As := [.int p1]) (rest := []) C hK hP hS hl.1 ⟨Nat.zero_le _, Nat.zero_le _⟩ (c_X4_readEnd h) rfl rfl hk2 (by decide) rfl q_317 q_319 q_s2 q_7 q_320 ⟨rfl, rfl⟩ yd_X4_readEnd ⟨Nat.le_of_ble_eq_true rfl, Nat.le_of_ble_eq_true rfl⟩ (Nat.le_of_ble_eq_true rfl) dX4_read_251 (fun z20 M19 H locs h hP hS => ?_)
                    refine lv_goto (tgt := 262) (pc := 254) hx hb dX4_read_254 (by decide) ?_
                    exact m_zret (v := z20) (pc := 262) C hr hlk hP hS dX4_read_262 h
                · replace h := h.2 n25_7
                  refine lv_tableOut (tgt := 263) (pc := 25) hx hb dX4_read_25 (by have i0 := i_ne n25_0; have i1 := i_ne n25_1; have i2 := i_ne n25_2; have i3 := i_ne n25_3; have i4 := i_ne n25_4; have i5 := i_ne n25_5; have i6 := i_ne n25_6; have i7 := i_ne n25_7; simp only [m_lit] at *; omega) (by decide) ?_
                  refine lv_aload_n (pc := 263) hx hb dX4_read_263 rfl (lv_at hl 1 rfl) ?_
                  refine lv_iload_n (pc := 264) hx hb dX4_read_264 rfl (lv_at hl 2 rfl) ?_
                  refine m_callVZ (pc := 265) (y := yX4_readSeparator) (κ := 4) (As := [.int p1]) (rest := []) C hK hP hS hl.1 ⟨Nat.zero_le _, Nat.zero_le _⟩ (c_X4_readSeparator h) rfl rfl hk2 (by decide) rfl q_321 q_323 q_s3 q_7 q_324 ⟨rfl, rfl⟩ yd_X4_readSeparator ⟨Nat.le_of_ble_eq_true rfl, Nat.le_of_ble_eq_true rfl⟩ (Nat.le_of_ble_eq_true rfl) dX4_read_265 (fun z22 M21 H locs h hP hS => ?_)
                  exact m_zret (v := z22) (pc := 268) C hr hlk hP hS dX4_read_268 h
/-! ForgeHeats$JobText.firstWrong ()I -/
def wpB_X4_firstWrong_6 (n : Nat) (P : Int32 → Mem → Prop) (R_ : Mem → Nat → Int32 → Prop) (M : Mem) (x0 : Nat) (x1 : Int32) : Prop := m_tp n x0 4 ∧ ((((M.1 x0 1) ≤ x1 → P (M.1 x0 1) M) ∧ (¬ (M.1 x0 1) ≤ x1 → wp_X4_codeAt n M x0 x1 (fun r6 M5 => wp_X4_read n M5 x0 r6 (fun z8 M7 => ((z8 = true → ∀ v9 : Int32, v9 = x1 + 1 → (R_ M7 x0 v9)) ∧ (z8 = false → P x1 M7)))))))
def wpL_X4_firstWrong_6 (n : Nat) (P : Int32 → Mem → Prop) : Nat → Mem → Nat → Int32 → Prop
  | 0 => fun _ _ _ => False
  | f + 1 => fun M x0 x1 => wpB_X4_firstWrong_6 n P (wpL_X4_firstWrong_6 n P f) M x0 x1
def wp_X4_firstWrong (n : Nat) (M : Mem) (i : Nat) (P : Int32 → Mem → Prop) : Prop := m_tp n i 4 ∧ (wp_X4_begin n M i (fun M1 => ∃ f : Nat, wpL_X4_firstWrong_6 n P f M1 i 0))
abbrev rm_X4_firstWrong : Room := { frames := 3, cells := 0, slots := 0, locals := 64 }
set_option maxHeartbeats 4000000 in
set_option maxRecDepth 100000 in
theorem c_X4_firstWrong {l : Launch} {D : va_G} {cA : Nat → ClassId} {b n : Nat} {M : Mem} {i : Nat} {P : Int32 → Mem → Prop} (h : wp_X4_firstWrong n M i P) : m_C l D cA b n n M yX4_firstWrong cX4_firstWrong 2 (some .int) rm_X4_firstWrong 0 0 [.ref (b + i)] (rI P) := by
  refine m_enter (by decide) (Nat.le_of_ble_eq_true rfl) (fun p e s m below meth c C hr hlk hnm hK hP hS ls hl => ?_)
  have hx := C.1
  have hb := C.2.1
  have hl : lv_has ls 2 [(0, .ref (b + i))] := hl
  have L6 : ∀ f : Nat, ∀ (M : Mem) (H : Heap) (locs : List Loc) (ls : Array Slot) (x0 : Nat) (x1 : Int32), wpL_X4_firstWrong_6 n P f M x0 x1 → m_H D cA b n M H → va_S (m_A b) s.heap H locs → lv_has ls 2 [(0, .ref (b + x0)), (1, .int x1)] → W p l e rm_X4_firstWrong s m ([.ref (b + i)] : List Value).toArray below meth c H locs 0 0 (MQ below (m_Q D cA b n (rI P)) ([.ref (b + i)] : List Value).toArray s 0 0 (m_A b)) (F0 m 6 ls []) := by
    clear h
    intro f
    induction f with
    | zero => intro M H locs ls x0 x1 h; exact h.elim
    | succ f ih =>
      intro M H locs ls x0 x1 h hP hS hl
      have h : wpB_X4_firstWrong_6 n P (wpL_X4_firstWrong_6 n P f) M x0 x1 := h
      unfold wpB_X4_firstWrong_6 at h
      refine lv_iload_n (pc := 6) hx hb dX4_firstWrong_6 rfl (lv_at hl 1 rfl) ?_
      refine lv_aload_n (pc := 7) hx hb dX4_firstWrong_7 rfl (lv_at hl 0 rfl) ?_
      obtain ⟨hk4, h⟩ := h
      refine gX4_15 (pc := 8) C hK hP hk4 dX4_firstWrong_8 ?_
      refine lv_icmp_ge (tgt := 34) (pc := 11) hx hb dX4_firstWrong_11 (by decide) (fun c11 => ?_) (fun c11 => ?_)
      · replace h := h.1 c11
        refine lv_aload_n (pc := 34) hx hb dX4_firstWrong_34 rfl (lv_at hl 0 rfl) ?_
        refine gX4_15 (pc := 35) C hK hP hk4 dX4_firstWrong_35 ?_
        exact m_iret (v := M.1 x0 1) (pc := 38) C hr hlk hP hS dX4_firstWrong_38 h
      · replace h := h.2 c11
        refine lv_aload_n (pc := 14) hx hb dX4_firstWrong_14 rfl (lv_at hl 0 rfl) ?_
        refine lv_aload_n (pc := 15) hx hb dX4_firstWrong_15 rfl (lv_at hl 0 rfl) ?_
        refine lv_iload_n (pc := 16) hx hb dX4_firstWrong_16 rfl (lv_at hl 1 rfl) ?_
        refine m_callVI (pc := 17) (y := yX4_codeAt) (κ := 4) (As := [.int x1]) (rest := [.ref (b + x0)]) C hK hP hS hl.1 ⟨Nat.zero_le _, Nat.zero_le _⟩ (c_X4_codeAt h) rfl rfl hk4 (by decide) rfl q_305 q_306 q_307 q_7 q_308 ⟨rfl, rfl⟩ yd_X4_codeAt ⟨Nat.le_of_ble_eq_true rfl, Nat.le_of_ble_eq_true rfl⟩ (Nat.le_of_ble_eq_true rfl) dX4_firstWrong_17 (fun r6 M5 H locs h hP hS => ?_)
        refine m_callVZ (pc := 20) (y := yX4_read) (κ := 4) (As := [.int r6]) (rest := []) C hK hP hS hl.1 ⟨Nat.zero_le _, Nat.zero_le _⟩ (c_X4_read h) rfl rfl hk4 (by decide) rfl q_309 q_311 q_s0 q_7 q_312 ⟨rfl, rfl⟩ yd_X4_read ⟨Nat.le_of_ble_eq_true rfl, Nat.le_of_ble_eq_true rfl⟩ (Nat.le_of_ble_eq_true rfl) dX4_firstWrong_20 (fun z8 M7 H locs h hP hS => ?_)
        refine lv_if_ne (tgt := 28) (pc := 23) hx hb dX4_firstWrong_23 (by decide) (fun c23 => ?_) (fun c23 => ?_)
        · replace h := h.1 (bZ1 c23)
          obtain ⟨v9, ev9⟩ : ∃ y : Int32, y = x1 + 1 := ⟨_, rfl⟩
          replace h := h v9 ev9
          refine lv_iinc (v := v9) (lv' := [(1, .int v9), (0, .ref (b + x0))]) (pc := 28) hx hb dX4_firstWrong_28 hl (k := 1) rfl (by rw [ev9]; rfl) (by decide) rfl (fun ls hl => ?_)
          refine lv_goto (tgt := 6) (pc := 31) hx hb dX4_firstWrong_31 (by decide) ?_
          exact ih _ _ _ _ _ _ h hP hS (lv_sub hl [1, 0] rfl)
        · replace h := h.2 (bZ0 c23)
          refine lv_iload_n (pc := 26) hx hb dX4_firstWrong_26 rfl (lv_at hl 1 rfl) ?_
          exact m_iret (v := x1) (pc := 27) C hr hlk hP hS dX4_firstWrong_27 h
  unfold wp_X4_firstWrong at h
  refine lv_aload_n (pc := 0) hx hb dX4_firstWrong_0 rfl (lv_at hl 0 rfl) ?_
  obtain ⟨hk2, h⟩ := h
  refine m_callVV (pc := 1) (y := yX4_begin) (κ := 4) (As := []) (rest := []) C hK hP hS hl.1 ⟨Nat.zero_le _, Nat.zero_le _⟩ (c_X4_begin h) rfl rfl hk2 (by decide) rfl q_301 q_302 q_303 q_7 q_304 ⟨rfl, rfl⟩ yd_X4_begin ⟨Nat.le_of_ble_eq_true rfl, Nat.le_of_ble_eq_true rfl⟩ (Nat.le_of_ble_eq_true rfl) dX4_firstWrong_1 (fun M1 H locs h hP hS => ?_)
  refine lv_iconst (v := 0) (pc := 4) hx hb dX4_firstWrong_4 (by decide) ?_
  refine lv_istore_n (lv' := [(1, .int 0), (0, .ref (b + i))]) (pc := 5) hx hb dX4_firstWrong_5 rfl hl (by decide) rfl (fun ls hl => ?_)
  obtain ⟨f, h⟩ := h
  exact L6 f _ _ _ _ _ _ h hP hS (lv_sub hl [1, 0] rfl)
/-! ForgeHeats$JobText.isComplete ()Z -/
def wp_X4_isComplete (n : Nat) (M : Mem) (i : Nat) (P : Bool → Mem → Prop) : Prop := m_tp n i 4 ∧ (wp_X4_firstWrong n M i (fun r3 M1 => ((¬ r3 = (M1.1 i 1) → P false M1) ∧ (r3 = (M1.1 i 1) → (((M1.1 i 3) = 5 → P true M1) ∧ (¬ (M1.1 i 3) = 5 → (((M1.1 i 3) = 7 → P true M1) ∧ (¬ (M1.1 i 3) = 7 → P (if ¬ (M1.1 i 3) = 8 then false else true) M1))))))))
abbrev rm_X4_isComplete : Room := { frames := 4, cells := 0, slots := 0, locals := 85 }
set_option maxHeartbeats 4000000 in
set_option maxRecDepth 100000 in
theorem c_X4_isComplete {l : Launch} {D : va_G} {cA : Nat → ClassId} {b n : Nat} {M : Mem} {i : Nat} {P : Bool → Mem → Prop} (h : wp_X4_isComplete n M i P) : m_C l D cA b n n M yX4_isComplete cX4_isComplete 1 (some .boolean) rm_X4_isComplete 0 0 [.ref (b + i)] (rZ P) := by
  refine m_enter (by decide) (Nat.le_of_ble_eq_true rfl) (fun p e s m below meth c C hr hlk hnm hK hP hS ls hl => ?_)
  have hx := C.1
  have hb := C.2.1
  have hl : lv_has ls 1 [(0, .ref (b + i))] := hl
  unfold wp_X4_isComplete at h
  refine lv_aload_n (pc := 0) hx hb dX4_isComplete_0 rfl (lv_at hl 0 rfl) ?_
  obtain ⟨hk2, h⟩ := h
  refine m_callVI (pc := 1) (y := yX4_firstWrong) (κ := 4) (As := []) (rest := []) C hK hP hS hl.1 ⟨Nat.zero_le _, Nat.zero_le _⟩ (c_X4_firstWrong h) rfl rfl hk2 (by decide) rfl q_824 q_298 q_299 q_7 q_300 ⟨rfl, rfl⟩ yd_X4_firstWrong ⟨Nat.le_of_ble_eq_true rfl, Nat.le_of_ble_eq_true rfl⟩ (Nat.le_of_ble_eq_true rfl) dX4_isComplete_1 (fun r3 M1 H locs h hP hS => ?_)
  refine lv_aload_n (pc := 4) hx hb dX4_isComplete_4 rfl (lv_at hl 0 rfl) ?_
  refine gX4_15 (pc := 5) C hK hP hk2 dX4_isComplete_5 ?_
  refine lv_icmp_ne (tgt := 41) (pc := 8) hx hb dX4_isComplete_8 (by decide) (fun c8 => ?_) (fun c8 => ?_)
  · replace h := h.1 c8
    refine lv_iconst (v := 0) (pc := 41) hx hb dX4_isComplete_41 (by decide) ?_
    exact m_zret (v := false) (pc := 42) C hr hlk hP hS dX4_isComplete_42 h
  · replace h := h.2 c8
    refine lv_aload_n (pc := 11) hx hb dX4_isComplete_11 rfl (lv_at hl 0 rfl) ?_
    refine gX4_22 (pc := 12) C hK hP hk2 dX4_isComplete_12 ?_
    refine lv_iconst (v := 5) (pc := 15) hx hb dX4_isComplete_15 (by decide) ?_
    refine lv_icmp_eq (tgt := 37) (pc := 16) hx hb dX4_isComplete_16 (by decide) (fun c16 => ?_) (fun c16 => ?_)
    · replace h := h.1 c16
      refine lv_iconst (v := 1) (pc := 37) hx hb dX4_isComplete_37 (by decide) ?_
      refine lv_goto (tgt := 42) (pc := 38) hx hb dX4_isComplete_38 (by decide) ?_
      exact m_zret (v := true) (pc := 42) C hr hlk hP hS dX4_isComplete_42 h
    · replace h := h.2 c16
      refine lv_aload_n (pc := 19) hx hb dX4_isComplete_19 rfl (lv_at hl 0 rfl) ?_
      refine gX4_22 (pc := 20) C hK hP hk2 dX4_isComplete_20 ?_
      refine lv_bipush (v := 7) (pc := 23) hx hb dX4_isComplete_23 (by decide) ?_
      refine lv_icmp_eq (tgt := 37) (pc := 25) hx hb dX4_isComplete_25 (by decide) (fun c25 => ?_) (fun c25 => ?_)
      · replace h := h.1 c25
        refine lv_iconst (v := 1) (pc := 37) hx hb dX4_isComplete_37 (by decide) ?_
        refine lv_goto (tgt := 42) (pc := 38) hx hb dX4_isComplete_38 (by decide) ?_
        exact m_zret (v := true) (pc := 42) C hr hlk hP hS dX4_isComplete_42 h
      · replace h := h.2 c25
        refine lv_aload_n (pc := 28) hx hb dX4_isComplete_28 rfl (lv_at hl 0 rfl) ?_
        refine gX4_22 (pc := 29) C hK hP hk2 dX4_isComplete_29 ?_
        refine lv_bipush (v := 8) (pc := 32) hx hb dX4_isComplete_32 (by decide) ?_
        refine m_joinZ (z := if ¬ (M1.1 i 3) = 8 then false else true) (jp := 42) (rest := []) ?_ (fun hJ => ?_)
        rotate_left
        · skip
          refine lv_icmp_ne (tgt := 41) (pc := 34) hx hb dX4_isComplete_34 (by decide) (fun c34 => ?_) (fun c34 => ?_)
          · skip
            refine lv_iconst (v := 0) (pc := 41) hx hb dX4_isComplete_41 (by decide) ?_
            exact hJ _ false rfl (by rw [if_pos c34])
          · skip
            refine lv_iconst (v := 1) (pc := 37) hx hb dX4_isComplete_37 (by decide) ?_
            refine lv_goto (tgt := 42) (pc := 38) hx hb dX4_isComplete_38 (by decide) ?_
            exact hJ _ true rfl (by rw [if_neg (fun hn => hn c34)])
        exact m_zret (v := if ¬ (M1.1 i 3) = 8 then false else true) (pc := 42) C hr hlk hP hS dX4_isComplete_42 h
/-! ForgeHeats$JobText.readPart ()V -/
def wpB_X4_readPart_2 (n : Nat) (P : Mem → Prop) (R_ : Mem → Nat → Int32 → Prop) (M : Mem) (x0 : Nat) (x1 : Int32) : Prop := ((x1 = 0 → P M) ∧ (¬ x1 = 0 → m_tp n x0 4 ∧ ((((M.1 x0 1) ≤ (M.1 x0 2) → P M) ∧ (¬ (M.1 x0 1) ≤ (M.1 x0 2) → wp_X4_codeAt n M x0 (M.1 x0 2) (fun r3 M2 => wp_X4_read n M2 x0 r3 (fun z5 M4 => wp_X4_codeAt n M4 x0 (M4.1 x0 2) (fun r7 M6 => ∀ M8 : Mem, M8 = uI M6 x0 2 ((M6.1 x0 2) + 1) → (R_ M8 x0 (bI (if r7 = 59 then false else true)))))))))))
def wpL_X4_readPart_2 (n : Nat) (P : Mem → Prop) : Nat → Mem → Nat → Int32 → Prop
  | 0 => fun _ _ _ => False
  | f + 1 => fun M x0 x1 => wpB_X4_readPart_2 n P (wpL_X4_readPart_2 n P f) M x0 x1
def wp_X4_readPart (n : Nat) (M : Mem) (i : Nat) (P : Mem → Prop) : Prop := ∃ f : Nat, wpL_X4_readPart_2 n P f M i 1
abbrev rm_X4_readPart : Room := { frames := 3, cells := 0, slots := 0, locals := 64 }
set_option maxHeartbeats 4000000 in
set_option maxRecDepth 100000 in
theorem c_X4_readPart {l : Launch} {D : va_G} {cA : Nat → ClassId} {b n : Nat} {M : Mem} {i : Nat} {P : Mem → Prop} (h : wp_X4_readPart n M i P) : m_C l D cA b n n M yX4_readPart cX4_readPart 2 none rm_X4_readPart 0 0 [.ref (b + i)] (rV P) := by
  refine m_enter (by decide) (Nat.le_of_ble_eq_true rfl) (fun p e s m below meth c C hr hlk hnm hK hP hS ls hl => ?_)
  have hx := C.1
  have hb := C.2.1
  have hl : lv_has ls 2 [(0, .ref (b + i))] := hl
  have L2 : ∀ f : Nat, ∀ (M : Mem) (H : Heap) (locs : List Loc) (ls : Array Slot) (x0 : Nat) (x1 : Int32), wpL_X4_readPart_2 n P f M x0 x1 → m_H D cA b n M H → va_S (m_A b) s.heap H locs → lv_has ls 2 [(0, .ref (b + x0)), (1, .int x1)] → W p l e rm_X4_readPart s m ([.ref (b + i)] : List Value).toArray below meth c H locs 0 0 (MQ below (m_Q D cA b n (rV P)) ([.ref (b + i)] : List Value).toArray s 0 0 (m_A b)) (F0 m 2 ls []) := by
    clear h
    intro f
    induction f with
    | zero => intro M H locs ls x0 x1 h; exact h.elim
    | succ f ih =>
      intro M H locs ls x0 x1 h hP hS hl
      have h : wpB_X4_readPart_2 n P (wpL_X4_readPart_2 n P f) M x0 x1 := h
      unfold wpB_X4_readPart_2 at h
      refine lv_iload_n (pc := 2) hx hb dX4_readPart_2 rfl (lv_at hl 1 rfl) ?_
      refine lv_if_eq (tgt := 62) (pc := 3) hx hb dX4_readPart_3 (by decide) (fun c3 => ?_) (fun c3 => ?_)
      · replace h := h.1 c3
        exact m_vret (pc := 62) C hr hlk hP hS dX4_readPart_62 h
      · replace h := h.2 c3
        refine lv_aload_n (pc := 6) hx hb dX4_readPart_6 rfl (lv_at hl 0 rfl) ?_
        obtain ⟨hk1, h⟩ := h
        refine gX4_19 (pc := 7) C hK hP hk1 dX4_readPart_7 ?_
        refine lv_aload_n (pc := 10) hx hb dX4_readPart_10 rfl (lv_at hl 0 rfl) ?_
        refine gX4_15 (pc := 11) C hK hP hk1 dX4_readPart_11 ?_
        refine lv_icmp_ge (tgt := 62) (pc := 14) hx hb dX4_readPart_14 (by decide) (fun c14 => ?_) (fun c14 => ?_)
        · replace h := h.1 c14
          exact m_vret (pc := 62) C hr hlk hP hS dX4_readPart_62 h
        · replace h := h.2 c14
          refine lv_aload_n (pc := 17) hx hb dX4_readPart_17 rfl (lv_at hl 0 rfl) ?_
          refine lv_aload_n (pc := 18) hx hb dX4_readPart_18 rfl (lv_at hl 0 rfl) ?_
          refine lv_aload_n (pc := 19) hx hb dX4_readPart_19 rfl (lv_at hl 0 rfl) ?_
          refine gX4_19 (pc := 20) C hK hP hk1 dX4_readPart_20 ?_
          refine m_callVI (pc := 23) (y := yX4_codeAt) (κ := 4) (As := [.int (M.1 x0 2)]) (rest := [.ref (b + x0)]) C hK hP hS hl.1 ⟨Nat.zero_le _, Nat.zero_le _⟩ (c_X4_codeAt h) rfl rfl hk1 (by decide) rfl q_305 q_306 q_307 q_7 q_308 ⟨rfl, rfl⟩ yd_X4_codeAt ⟨Nat.le_of_ble_eq_true rfl, Nat.le_of_ble_eq_true rfl⟩ (Nat.le_of_ble_eq_true rfl) dX4_readPart_23 (fun r3 M2 H locs h hP hS => ?_)
          refine m_callVZ (pc := 26) (y := yX4_read) (κ := 4) (As := [.int r3]) (rest := []) C hK hP hS hl.1 ⟨Nat.zero_le _, Nat.zero_le _⟩ (c_X4_read h) rfl rfl hk1 (by decide) rfl q_309 q_311 q_s0 q_7 q_312 ⟨rfl, rfl⟩ yd_X4_read ⟨Nat.le_of_ble_eq_true rfl, Nat.le_of_ble_eq_true rfl⟩ (Nat.le_of_ble_eq_true rfl) dX4_readPart_26 (fun z5 M4 H locs h hP hS => ?_)
          refine lv_pop (pc := 29) hx hb dX4_readPart_29 rfl ?_
          refine lv_aload_n (pc := 30) hx hb dX4_readPart_30 rfl (lv_at hl 0 rfl) ?_
          refine lv_aload_n (pc := 31) hx hb dX4_readPart_31 rfl (lv_at hl 0 rfl) ?_
          refine gX4_19 (pc := 32) C hK hP hk1 dX4_readPart_32 ?_
          refine m_callVI (pc := 35) (y := yX4_codeAt) (κ := 4) (As := [.int (M4.1 x0 2)]) (rest := []) C hK hP hS hl.1 ⟨Nat.zero_le _, Nat.zero_le _⟩ (c_X4_codeAt h) rfl rfl hk1 (by decide) rfl q_305 q_306 q_307 q_7 q_308 ⟨rfl, rfl⟩ yd_X4_codeAt ⟨Nat.le_of_ble_eq_true rfl, Nat.le_of_ble_eq_true rfl⟩ (Nat.le_of_ble_eq_true rfl) dX4_readPart_35 (fun r7 M6 H locs h hP hS => ?_)
          refine lv_bipush (v := 59) (pc := 38) hx hb dX4_readPart_38 (by decide) ?_
          refine m_joinZ (z := if r7 = 59 then false else true) (jp := 48) (rest := []) ?_ (fun hJ => ?_)
          rotate_left
          · skip
            refine lv_icmp_eq (tgt := 47) (pc := 40) hx hb dX4_readPart_40 (by decide) (fun c40 => ?_) (fun c40 => ?_)
            · skip
              refine lv_iconst (v := 0) (pc := 47) hx hb dX4_readPart_47 (by decide) ?_
              exact hJ _ false rfl (by rw [if_pos c40])
            · skip
              refine lv_iconst (v := 1) (pc := 43) hx hb dX4_readPart_43 (by decide) ?_
              refine lv_goto (tgt := 48) (pc := 44) hx hb dX4_readPart_44 (by decide) ?_
              exact hJ _ true rfl (by rw [if_neg c40])
          refine lv_istore_n (lv' := [(1, .int (bI (if r7 = 59 then false else true))), (0, .ref (b + x0))]) (pc := 48) hx hb dX4_readPart_48 rfl hl (by decide) rfl (fun ls hl => ?_)
          refine lv_aload_n (pc := 49) hx hb dX4_readPart_49 rfl (lv_at hl 1 rfl) ?_
          refine lv_dup (pc := 50) hx hb dX4_readPart_50 rfl ?_
          refine gX4_19 (pc := 51) C hK hP hk1 dX4_readPart_51 ?_
          refine lv_iconst (v := 1) (pc := 54) hx hb dX4_readPart_54 (by decide) ?_
          refine lv_iadd (pc := 55) hx hb dX4_readPart_55 ?_
          refine pX4_19 (pc := 56) (v := (M6.1 x0 2) + 1) C hK hP hS hk1 dX4_readPart_56 (fun M8 H locs eM8 hP hS => ?_)
          replace h := h M8 eM8
          refine lv_goto (tgt := 2) (pc := 59) hx hb dX4_readPart_59 (by decide) ?_
          exact ih _ _ _ _ _ _ h hP hS (lv_sub hl [1, 0] rfl)
  unfold wp_X4_readPart at h
  refine lv_iconst (v := 1) (pc := 0) hx hb dX4_readPart_0 (by decide) ?_
  refine lv_istore_n (lv' := [(1, .int 1), (0, .ref (b + i))]) (pc := 1) hx hb dX4_readPart_1 rfl hl (by decide) rfl (fun ls hl => ?_)
  obtain ⟨f, h⟩ := h
  exact L2 f _ _ _ _ _ _ h hP hS (lv_sub hl [1, 0] rfl)
