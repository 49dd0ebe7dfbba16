/-! ForgeHeatsModel.thrown ()I -/
def wp_X7_thrown (n : Nat) (M : Mem) (i : Nat) (P : Int32 → Mem → Prop) : Prop := m_tp n i 7 ∧ (P (M.1 i 0) M)
abbrev rm_X7_thrown : Room := { frames := 0, cells := 0, slots := 0, locals := 0 }
set_option maxHeartbeats 4000000 in
set_option maxRecDepth 100000 in
theorem c_X7_thrown {l : Launch} {D : va_G} {cA : Nat → ClassId} {b n : Nat} {M : Mem} {i : Nat} {P : Int32 → Mem → Prop} (h : wp_X7_thrown n M i P) : m_C l D cA b n n M yX7_thrown cX7_thrown 1 (some .int) rm_X7_thrown 0 0 [.ref (b + i)] (rI P) := by
  refine m_enter (by decide) (Nat.le_of_ble_eq_true rfl) (fun p e s m below meth c C hr hlk hnm hK hP hS ls hl => ?_)
  have hx := C.1
  have hb := C.2.1
  have hl : lv_has ls 1 [(0, .ref (b + i))] := hl
  unfold wp_X7_thrown at h
  refine lv_aload_n (pc := 0) hx hb dX7_thrown_0 rfl (lv_at hl 0 rfl) ?_
  obtain ⟨hk1, h⟩ := h
  refine gX7_25 (pc := 1) C hK hP hk1 dX7_thrown_1 ?_
  exact m_iret (v := M.1 i 0) (pc := 4) C hr hlk hP hS dX7_thrown_4 h
/-! ForgeHeatsModel.in (III)Z -/
def wp_X7_in (n : Nat) (M : Mem) (p1 : Int32) (p2 : Int32) (p3 : Int32) (P : Bool → Mem → Prop) : Prop := P (if p1 < p2 then false else (if p3 < p1 then false else true)) M
abbrev rm_X7_in : Room := { frames := 0, cells := 0, slots := 0, locals := 0 }
set_option maxHeartbeats 4000000 in
set_option maxRecDepth 100000 in
theorem c_X7_in {l : Launch} {D : va_G} {cA : Nat → ClassId} {b n : Nat} {M : Mem} {p1 : Int32} {p2 : Int32} {p3 : Int32} {P : Bool → Mem → Prop} (h : wp_X7_in n M p1 p2 p3 P) : m_C l D cA b n n M yX7_in cX7_in 3 (some .boolean) rm_X7_in 0 0 [.int p1, .int p2, .int p3] (rZ P) := by
  refine m_enter (by decide) (Nat.le_of_ble_eq_true rfl) (fun p e s m below meth c C hr hlk hnm hK hP hS ls hl => ?_)
  have hx := C.1
  have hb := C.2.1
  have hl : lv_has ls 3 [(0, .int p1), (1, .int p2), (2, .int p3)] := hl
  unfold wp_X7_in at h
  refine lv_iload_n (pc := 0) hx hb dX7_in_0 rfl (lv_at hl 0 rfl) ?_
  refine lv_iload_n (pc := 1) hx hb dX7_in_1 rfl (lv_at hl 1 rfl) ?_
  refine m_joinZ (z := if p1 < p2 then false else (if p3 < p1 then false else true)) (jp := 15) (rest := []) ?_ (fun hJ => ?_)
  rotate_left
  · skip
    refine lv_icmp_lt (tgt := 14) (pc := 2) hx hb dX7_in_2 (by decide) (fun c2 => ?_) (fun c2 => ?_)
    · skip
      refine lv_iconst (v := 0) (pc := 14) hx hb dX7_in_14 (by decide) ?_
      exact hJ _ false rfl (by rw [if_pos c2])
    · skip
      refine lv_iload_n (pc := 5) hx hb dX7_in_5 rfl (lv_at hl 0 rfl) ?_
      refine lv_iload_n (pc := 6) hx hb dX7_in_6 rfl (lv_at hl 2 rfl) ?_
      refine lv_icmp_gt (tgt := 14) (pc := 7) hx hb dX7_in_7 (by decide) (fun c7 => ?_) (fun c7 => ?_)
      · skip
        refine lv_iconst (v := 0) (pc := 14) hx hb dX7_in_14 (by decide) ?_
        exact hJ _ false rfl (by rw [if_neg c2, if_pos c7])
      · skip
        refine lv_iconst (v := 1) (pc := 10) hx hb dX7_in_10 (by decide) ?_
        refine lv_goto (tgt := 15) (pc := 11) hx hb dX7_in_11 (by decide) ?_
        exact hJ _ true rfl (by rw [if_neg c2, if_neg c7])
  exact m_zret (v := if p1 < p2 then false else (if p3 < p1 then false else true)) (pc := 15) C hr hlk hP hS dX7_in_15 h
/-! ForgeHeatsModel.fails (I)I -/
def wp_X7_fails (n : Nat) (M : Mem) (i : Nat) (p1 : Int32) (P : Int32 → Mem → Prop) : Prop := m_tp n i 7 ∧ (∀ M2 : Mem, M2 = uI M i 0 p1 → (P 0 M2))
abbrev rm_X7_fails : Room := { frames := 0, cells := 0, slots := 0, locals := 0 }
set_option maxHeartbeats 4000000 in
set_option maxRecDepth 100000 in
theorem c_X7_fails {l : Launch} {D : va_G} {cA : Nat → ClassId} {b n : Nat} {M : Mem} {i : Nat} {p1 : Int32} {P : Int32 → Mem → Prop} (h : wp_X7_fails n M i p1 P) : m_C l D cA b n n M yX7_fails cX7_fails 2 (some .int) rm_X7_fails 0 0 [.ref (b + i), .int p1] (rI P) := by
  refine m_enter (by decide) (Nat.le_of_ble_eq_true rfl) (fun p e s m below meth c C hr hlk hnm hK hP hS ls hl => ?_)
  have hx := C.1
  have hb := C.2.1
  have hl : lv_has ls 2 [(0, .ref (b + i)), (1, .int p1)] := hl
  unfold wp_X7_fails at h
  refine lv_aload_n (pc := 0) hx hb dX7_fails_0 rfl (lv_at hl 0 rfl) ?_
  refine lv_iload_n (pc := 1) hx hb dX7_fails_1 rfl (lv_at hl 1 rfl) ?_
  obtain ⟨hk1, h⟩ := h
  refine pX7_25 (pc := 2) (v := p1) C hK hP hS hk1 dX7_fails_2 (fun M2 H locs eM2 hP hS => ?_)
  replace h := h M2 eM2
  refine lv_iconst (v := 0) (pc := 5) hx hb dX7_fails_5 (by decide) ?_
  exact m_iret (v := 0) (pc := 6) C hr hlk hP hS dX7_fails_6 h
/-! ForgeHeatsModel.isHeat (I)Z -/
def wp_X7_isHeat (n : Nat) (M : Mem) (p1 : Int32) (P : Bool → Mem → Prop) : Prop := wp_X7_in n M p1 0 3 (fun z2 M1 => P z2 M1)
abbrev rm_X7_isHeat : Room := { frames := 1, cells := 0, slots := 0, locals := 22 }
set_option maxHeartbeats 4000000 in
set_option maxRecDepth 100000 in
theorem c_X7_isHeat {l : Launch} {D : va_G} {cA : Nat → ClassId} {b n : Nat} {M : Mem} {p1 : Int32} {P : Bool → Mem → Prop} (h : wp_X7_isHeat n M p1 P) : m_C l D cA b n n M yX7_isHeat cX7_isHeat 1 (some .boolean) rm_X7_isHeat 0 0 [.int p1] (rZ P) := by
  refine m_enter (by decide) (Nat.le_of_ble_eq_true rfl) (fun p e s m below meth c C hr hlk hnm hK hP hS ls hl => ?_)
  have hx := C.1
  have hb := C.2.1
  have hl : lv_has ls 1 [(0, .int p1)] := hl
  unfold wp_X7_isHeat at h
  refine lv_iload_n (pc := 0) hx hb dX7_isHeat_0 rfl (lv_at hl 0 rfl) ?_
  refine lv_iconst (v := 0) (pc := 1) hx hb dX7_isHeat_1 (by decide) ?_
  refine lv_iconst (v := 3) (pc := 2) hx hb dX7_isHeat_2 (by decide) ?_
  refine m_callSZ (pc := 3) (y := yX7_in) (As := [.int p1, .int 0, .int 3]) (rest := []) C hK hP hS hl.1 ⟨Nat.zero_le _, Nat.zero_le _⟩ (c_X7_in h) rfl rfl q_973 q_974 q_8 q_975 ⟨rfl, rfl⟩ yd_X7_in ⟨Nat.le_of_ble_eq_true rfl, Nat.le_of_ble_eq_true rfl⟩ (Nat.le_of_ble_eq_true rfl) dX7_isHeat_3 (fun z2 M1 H locs h hP hS => ?_)
  exact m_zret (v := z2) (pc := 6) C hr hlk hP hS dX7_isHeat_6 h
/-! ForgeHeatsModel.isDie (I)Z -/
def wp_X7_isDie (n : Nat) (M : Mem) (p1 : Int32) (P : Bool → Mem → Prop) : Prop := wp_X7_in n M p1 0 4 (fun z2 M1 => P z2 M1)
abbrev rm_X7_isDie : Room := { frames := 1, cells := 0, slots := 0, locals := 22 }
set_option maxHeartbeats 4000000 in
set_option maxRecDepth 100000 in
theorem c_X7_isDie {l : Launch} {D : va_G} {cA : Nat → ClassId} {b n : Nat} {M : Mem} {p1 : Int32} {P : Bool → Mem → Prop} (h : wp_X7_isDie n M p1 P) : m_C l D cA b n n M yX7_isDie cX7_isDie 1 (some .boolean) rm_X7_isDie 0 0 [.int p1] (rZ P) := by
  refine m_enter (by decide) (Nat.le_of_ble_eq_true rfl) (fun p e s m below meth c C hr hlk hnm hK hP hS ls hl => ?_)
  have hx := C.1
  have hb := C.2.1
  have hl : lv_has ls 1 [(0, .int p1)] := hl
  unfold wp_X7_isDie at h
  refine lv_iload_n (pc := 0) hx hb dX7_isDie_0 rfl (lv_at hl 0 rfl) ?_
  refine lv_iconst (v := 0) (pc := 1) hx hb dX7_isDie_1 (by decide) ?_
  refine lv_iconst (v := 4) (pc := 2) hx hb dX7_isDie_2 (by decide) ?_
  refine m_callSZ (pc := 3) (y := yX7_in) (As := [.int p1, .int 0, .int 4]) (rest := []) C hK hP hS hl.1 ⟨Nat.zero_le _, Nat.zero_le _⟩ (c_X7_in h) rfl rfl q_973 q_974 q_8 q_975 ⟨rfl, rfl⟩ yd_X7_in ⟨Nat.le_of_ble_eq_true rfl, Nat.le_of_ble_eq_true rfl⟩ (Nat.le_of_ble_eq_true rfl) dX7_isDie_3 (fun z2 M1 H locs h hP hS => ?_)
  exact m_zret (v := z2) (pc := 6) C hr hlk hP hS dX7_isDie_6 h
/-! ForgeHeatsModel.saves ()V -/
def wpB_X7_saves_52 (n : Nat) (P : Mem → Prop) (R_ : Mem → Nat → Int32 → Prop) (M : Mem) (x0 : Nat) (x1 : Int32) : Prop := ((158 ≤ x1 → m_tp n x0 7 ∧ (∀ M3 : Mem, M3 = uI M x0 4 ((M.1 x0 4) + 1) → (P M3))) ∧ (¬ 158 ≤ x1 → m_tp n x0 7 ∧ (∃ j5 : Nat, M.2.1 x0 3 = some j5 ∧ (∃ j6 : Nat, M.2.1 x0 1 = some j6 ∧ (m_tp n j6 8 ∧ (vp_in x1 (m_len j6) ∧ (m_tp n j5 8 ∧ (vp_in ((158 * (M.1 x0 4)) + x1) (m_len j5) ∧ (∀ M11 : Mem, M11 = uI M j5 ((158 * (M.1 x0 4)) + x1).toNatClampNeg (M.1 j6 x1.toNatClampNeg) → (∀ v12 : Int32, v12 = x1 + 1 → (R_ M11 x0 v12)))))))))))
def wpL_X7_saves_52 (n : Nat) (P : Mem → Prop) : Nat → Mem → Nat → Int32 → Prop
  | 0 => fun _ _ _ => False
  | f + 1 => fun M x0 x1 => wpB_X7_saves_52 n P (wpL_X7_saves_52 n P f) M x0 x1
def wpB_X7_saves_11 (n : Nat) (P : Mem → Prop) (R_ : Mem → Nat → Int32 → Prop) (M : Mem) (x0 : Nat) (x1 : Int32) : Prop := ((790 ≤ x1 → m_tp n x0 7 ∧ (∀ M14 : Mem, M14 = uI M x0 4 ((M.1 x0 4) - 1) → (∃ f : Nat, wpL_X7_saves_52 n P f M14 x0 0))) ∧ (¬ 790 ≤ x1 → m_tp n x0 7 ∧ (∃ j16 : Nat, M.2.1 x0 3 = some j16 ∧ (∃ j17 : Nat, M.2.1 x0 3 = some j17 ∧ (m_tp n j17 8 ∧ (vp_in (x1 + 158) (m_len j17) ∧ (m_tp n j16 8 ∧ (vp_in x1 (m_len j16) ∧ (∀ M22 : Mem, M22 = uI M j16 x1.toNatClampNeg (M.1 j17 (x1 + 158).toNatClampNeg) → (∀ v23 : Int32, v23 = x1 + 1 → (R_ M22 x0 v23)))))))))))
def wpL_X7_saves_11 (n : Nat) (P : Mem → Prop) : Nat → Mem → Nat → Int32 → Prop
  | 0 => fun _ _ _ => False
  | f + 1 => fun M x0 x1 => wpB_X7_saves_11 n P (wpL_X7_saves_11 n P f) M x0 x1
def wp_X7_saves (n : Nat) (M : Mem) (i : Nat) (P : Mem → Prop) : Prop := m_tp n i 7 ∧ (((¬ (M.1 i 4) = 6 → ∃ f : Nat, wpL_X7_saves_52 n P f M i 0) ∧ ((M.1 i 4) = 6 → ∃ f : Nat, wpL_X7_saves_11 n P f M i 0)))
abbrev rm_X7_saves : Room := { frames := 0, cells := 0, slots := 0, locals := 0 }
set_option maxHeartbeats 4000000 in
set_option maxRecDepth 100000 in
theorem c_X7_saves {l : Launch} {D : va_G} {cA : Nat → ClassId} {b n : Nat} {M : Mem} {i : Nat} {P : Mem → Prop} (h : wp_X7_saves n M i P) : m_C l D cA b n n M yX7_saves cX7_saves 2 none rm_X7_saves 0 0 [.ref (b + i)] (rV P) := by
  refine m_enter (by decide) (Nat.le_of_ble_eq_true rfl) (fun p e s m below meth c C hr hlk hnm hK hP hS ls hl => ?_)
  have hx := C.1
  have hb := C.2.1
  have hl : lv_has ls 2 [(0, .ref (b + i))] := hl
  have L52 : ∀ f : Nat, ∀ (M : Mem) (H : Heap) (locs : List Loc) (ls : Array Slot) (x0 : Nat) (x1 : Int32), wpL_X7_saves_52 n P f M x0 x1 → m_H D cA b n M H → va_S (m_A b) s.heap H locs → lv_has ls 2 [(0, .ref (b + x0)), (1, .int x1)] → W p l e rm_X7_saves s m ([.ref (b + i)] : List Value).toArray below meth c H locs 0 0 (MQ below (m_Q D cA b n (rV P)) ([.ref (b + i)] : List Value).toArray s 0 0 (m_A b)) (F0 m 52 ls []) := by
    clear h
    intro f
    induction f with
    | zero => intro M H locs ls x0 x1 h; exact h.elim
    | succ f ih =>
      intro M H locs ls x0 x1 h hP hS hl
      have h : wpB_X7_saves_52 n P (wpL_X7_saves_52 n P f) M x0 x1 := h
      unfold wpB_X7_saves_52 at h
      refine lv_iload_n (pc := 52) hx hb dX7_saves_52 rfl (lv_at hl 1 rfl) ?_
      refine lv_sipush (v := 158) (pc := 53) hx hb dX7_saves_53 (by decide) ?_
      refine lv_icmp_ge (tgt := 86) (pc := 56) hx hb dX7_saves_56 (by decide) (fun c56 => ?_) (fun c56 => ?_)
      · replace h := h.1 c56
        refine lv_aload_n (pc := 86) hx hb dX7_saves_86 rfl (lv_at hl 0 rfl) ?_
        refine lv_dup (pc := 87) hx hb dX7_saves_87 rfl ?_
        obtain ⟨hk2, h⟩ := h
        refine gX7_33 (pc := 88) C hK hP hk2 dX7_saves_88 ?_
        refine lv_iconst (v := 1) (pc := 91) hx hb dX7_saves_91 (by decide) ?_
        refine lv_iadd (pc := 92) hx hb dX7_saves_92 ?_
        refine pX7_33 (pc := 93) (v := (M.1 x0 4) + 1) C hK hP hS hk2 dX7_saves_93 (fun M3 H locs eM3 hP hS => ?_)
        replace h := h M3 eM3
        exact m_vret (pc := 96) C hr hlk hP hS dX7_saves_96 h
      · replace h := h.2 c56
        refine lv_aload_n (pc := 59) hx hb dX7_saves_59 rfl (lv_at hl 0 rfl) ?_
        obtain ⟨hk4, h⟩ := h
        obtain ⟨j5, hj5, h⟩ := h
        refine gX7_16 (pc := 60) C hK hP hk4 hj5 dX7_saves_60 ?_
        refine lv_sipush (v := 158) (pc := 63) hx hb dX7_saves_63 (by decide) ?_
        refine lv_aload_n (pc := 66) hx hb dX7_saves_66 rfl (lv_at hl 0 rfl) ?_
        refine gX7_33 (pc := 67) C hK hP hk4 dX7_saves_67 ?_
        refine lv_imul (pc := 70) hx hb dX7_saves_70 ?_
        refine lv_iload_n (pc := 71) hx hb dX7_saves_71 rfl (lv_at hl 1 rfl) ?_
        refine lv_iadd (pc := 72) hx hb dX7_saves_72 ?_
        refine lv_aload_n (pc := 73) hx hb dX7_saves_73 rfl (lv_at hl 0 rfl) ?_
        obtain ⟨j6, hj6, h⟩ := h
        refine gX7_7 (pc := 74) C hK hP hk4 hj6 dX7_saves_74 ?_
        refine lv_iload_n (pc := 77) hx hb dX7_saves_77 rfl (lv_at hl 1 rfl) ?_
        obtain ⟨hk7, h⟩ := h
        obtain ⟨hi8, h⟩ := h
        refine m_iald (pc := 78) C hK hP hk7 hi8 dX7_saves_78 ?_
        obtain ⟨hk9, h⟩ := h
        obtain ⟨hi10, h⟩ := h
        refine m_iast (pc := 79) C hK hP hS hk9 hi10 dX7_saves_79 (fun M11 H locs eM11 hP hS => ?_)
        replace h := h M11 eM11
        obtain ⟨v12, ev12⟩ : ∃ y : Int32, y = x1 + 1 := ⟨_, rfl⟩
        replace h := h v12 ev12
        refine lv_iinc (v := v12) (lv' := [(1, .int v12), (0, .ref (b + x0))]) (pc := 80) hx hb dX7_saves_80 hl (k := 1) rfl (by rw [ev12]; rfl) (by decide) rfl (fun ls hl => ?_)
        refine lv_goto (tgt := 52) (pc := 83) hx hb dX7_saves_83 (by decide) ?_
        exact ih _ _ _ _ _ _ h hP hS (lv_sub hl [1, 0] rfl)
  have L11 : ∀ f : Nat, ∀ (M : Mem) (H : Heap) (locs : List Loc) (ls : Array Slot) (x0 : Nat) (x1 : Int32), wpL_X7_saves_11 n P f M x0 x1 → m_H D cA b n M H → va_S (m_A b) s.heap H locs → lv_has ls 2 [(0, .ref (b + x0)), (1, .int x1)] → W p l e rm_X7_saves s m ([.ref (b + i)] : List Value).toArray below meth c H locs 0 0 (MQ below (m_Q D cA b n (rV P)) ([.ref (b + i)] : List Value).toArray s 0 0 (m_A b)) (F0 m 11 ls []) := by
    clear h
    intro f
    induction f with
    | zero => intro M H locs ls x0 x1 h; exact h.elim
    | succ f ih =>
      intro M H locs ls x0 x1 h hP hS hl
      have h : wpB_X7_saves_11 n P (wpL_X7_saves_11 n P f) M x0 x1 := h
      unfold wpB_X7_saves_11 at h
      refine lv_iload_n (pc := 11) hx hb dX7_saves_11 rfl (lv_at hl 1 rfl) ?_
      refine lv_sipush (v := 790) (pc := 12) hx hb dX7_saves_12 (by decide) ?_
      refine lv_icmp_ge (tgt := 40) (pc := 15) hx hb dX7_saves_15 (by decide) (fun c15 => ?_) (fun c15 => ?_)
      · replace h := h.1 c15
        refine lv_aload_n (pc := 40) hx hb dX7_saves_40 rfl (lv_at hl 0 rfl) ?_
        refine lv_dup (pc := 41) hx hb dX7_saves_41 rfl ?_
        obtain ⟨hk13, h⟩ := h
        refine gX7_33 (pc := 42) C hK hP hk13 dX7_saves_42 ?_
        refine lv_iconst (v := 1) (pc := 45) hx hb dX7_saves_45 (by decide) ?_
        refine lv_isub (pc := 46) hx hb dX7_saves_46 ?_
        refine pX7_33 (pc := 47) (v := (M.1 x0 4) - 1) C hK hP hS hk13 dX7_saves_47 (fun M14 H locs eM14 hP hS => ?_)
        replace h := h M14 eM14
        refine lv_iconst (v := 0) (pc := 50) hx hb dX7_saves_50 (by decide) ?_
        refine lv_istore_n (lv' := [(1, .int 0), (0, .ref (b + x0))]) (pc := 51) hx hb dX7_saves_51 rfl hl (by decide) rfl (fun ls hl => ?_)
        obtain ⟨f, h⟩ := h
        exact L52 f _ _ _ _ _ _ h hP hS (lv_sub hl [1, 0] rfl)
      · replace h := h.2 c15
        refine lv_aload_n (pc := 18) hx hb dX7_saves_18 rfl (lv_at hl 0 rfl) ?_
        obtain ⟨hk15, h⟩ := h
        obtain ⟨j16, hj16, h⟩ := h
        refine gX7_16 (pc := 19) C hK hP hk15 hj16 dX7_saves_19 ?_
        refine lv_iload_n (pc := 22) hx hb dX7_saves_22 rfl (lv_at hl 1 rfl) ?_
        refine lv_aload_n (pc := 23) hx hb dX7_saves_23 rfl (lv_at hl 0 rfl) ?_
        obtain ⟨j17, hj17, h⟩ := h
        refine gX7_16 (pc := 24) C hK hP hk15 hj17 dX7_saves_24 ?_
        refine lv_iload_n (pc := 27) hx hb dX7_saves_27 rfl (lv_at hl 1 rfl) ?_
        refine lv_sipush (v := 158) (pc := 28) hx hb dX7_saves_28 (by decide) ?_
        refine lv_iadd (pc := 31) hx hb dX7_saves_31 ?_
        obtain ⟨hk18, h⟩ := h
        obtain ⟨hi19, h⟩ := h
        refine m_iald (pc := 32) C hK hP hk18 hi19 dX7_saves_32 ?_
        obtain ⟨hk20, h⟩ := h
        obtain ⟨hi21, h⟩ := h
        refine m_iast (pc := 33) C hK hP hS hk20 hi21 dX7_saves_33 (fun M22 H locs eM22 hP hS => ?_)
        replace h := h M22 eM22
        obtain ⟨v23, ev23⟩ : ∃ y : Int32, y = x1 + 1 := ⟨_, rfl⟩
        replace h := h v23 ev23
        refine lv_iinc (v := v23) (lv' := [(1, .int v23), (0, .ref (b + x0))]) (pc := 34) hx hb dX7_saves_34 hl (k := 1) rfl (by rw [ev23]; rfl) (by decide) rfl (fun ls hl => ?_)
        refine lv_goto (tgt := 11) (pc := 37) hx hb dX7_saves_37 (by decide) ?_
        exact ih _ _ _ _ _ _ h hP hS (lv_sub hl [1, 0] rfl)
  unfold wp_X7_saves at h
  refine lv_aload_n (pc := 0) hx hb dX7_saves_0 rfl (lv_at hl 0 rfl) ?_
  obtain ⟨hk1, h⟩ := h
  refine gX7_33 (pc := 1) C hK hP hk1 dX7_saves_1 ?_
  refine lv_bipush (v := 6) (pc := 4) hx hb dX7_saves_4 (by decide) ?_
  refine lv_icmp_ne (tgt := 50) (pc := 6) hx hb dX7_saves_6 (by decide) (fun c6 => ?_) (fun c6 => ?_)
  · replace h := h.1 c6
    refine lv_iconst (v := 0) (pc := 50) hx hb dX7_saves_50 (by decide) ?_
    refine lv_istore_n (lv' := [(1, .int 0), (0, .ref (b + i))]) (pc := 51) hx hb dX7_saves_51 rfl hl (by decide) rfl (fun ls hl => ?_)
    obtain ⟨f, h⟩ := h
    exact L52 f _ _ _ _ _ _ h hP hS (lv_sub hl [1, 0] rfl)
  · replace h := h.2 c6
    refine lv_iconst (v := 0) (pc := 9) hx hb dX7_saves_9 (by decide) ?_
    refine lv_istore_n (lv' := [(1, .int 0), (0, .ref (b + i))]) (pc := 10) hx hb dX7_saves_10 rfl hl (by decide) rfl (fun ls hl => ?_)
    obtain ⟨f, h⟩ := h
    exact L11 f _ _ _ _ _ _ h hP hS (lv_sub hl [1, 0] rfl)
/-! ForgeHeatsModel.putAside ()V -/
def wpB_X7_putAside_2 (n : Nat) (P : Mem → Prop) (R_ : Mem → Nat → Int32 → Prop) (M : Mem) (x0 : Nat) (x1 : Int32) : Prop := ((158 ≤ x1 → P M) ∧ (¬ 158 ≤ x1 → m_tp n x0 7 ∧ (∃ j2 : Nat, M.2.1 x0 2 = some j2 ∧ (∃ j3 : Nat, M.2.1 x0 1 = some j3 ∧ (m_tp n j3 8 ∧ (vp_in x1 (m_len j3) ∧ (m_tp n j2 8 ∧ (vp_in x1 (m_len j2) ∧ (∀ M8 : Mem, M8 = uI M j2 x1.toNatClampNeg (M.1 j3 x1.toNatClampNeg) → (∀ v9 : Int32, v9 = x1 + 1 → (R_ M8 x0 v9)))))))))))
def wpL_X7_putAside_2 (n : Nat) (P : Mem → Prop) : Nat → Mem → Nat → Int32 → Prop
  | 0 => fun _ _ _ => False
  | f + 1 => fun M x0 x1 => wpB_X7_putAside_2 n P (wpL_X7_putAside_2 n P f) M x0 x1
def wp_X7_putAside (n : Nat) (M : Mem) (i : Nat) (P : Mem → Prop) : Prop := ∃ f : Nat, wpL_X7_putAside_2 n P f M i 0
abbrev rm_X7_putAside : Room := { frames := 0, cells := 0, slots := 0, locals := 0 }
set_option maxHeartbeats 4000000 in
set_option maxRecDepth 100000 in
theorem c_X7_putAside {l : Launch} {D : va_G} {cA : Nat → ClassId} {b n : Nat} {M : Mem} {i : Nat} {P : Mem → Prop} (h : wp_X7_putAside n M i P) : m_C l D cA b n n M yX7_putAside cX7_putAside 2 none rm_X7_putAside 0 0 [.ref (b + i)] (rV P) := by
  refine m_enter (by decide) (Nat.le_of_ble_eq_true rfl) (fun p e s m below meth c C hr hlk hnm hK hP hS ls hl => ?_)
  have hx := C.1
  have hb := C.2.1
  have hl : lv_has ls 2 [(0, .ref (b + i))] := hl
  have L2 : ∀ f : Nat, ∀ (M : Mem) (H : Heap) (locs : List Loc) (ls : Array Slot) (x0 : Nat) (x1 : Int32), wpL_X7_putAside_2 n P f M x0 x1 → m_H D cA b n M H → va_S (m_A b) s.heap H locs → lv_has ls 2 [(0, .ref (b + x0)), (1, .int x1)] → W p l e rm_X7_putAside s m ([.ref (b + i)] : List Value).toArray below meth c H locs 0 0 (MQ below (m_Q D cA b n (rV P)) ([.ref (b + i)] : List Value).toArray s 0 0 (m_A b)) (F0 m 2 ls []) := by
    clear h
    intro f
    induction f with
    | zero => intro M H locs ls x0 x1 h; exact h.elim
    | succ f ih =>
      intro M H locs ls x0 x1 h hP hS hl
      have h : wpB_X7_putAside_2 n P (wpL_X7_putAside_2 n P f) M x0 x1 := h
      unfold wpB_X7_putAside_2 at h
      refine lv_iload_n (pc := 2) hx hb dX7_putAside_2 rfl (lv_at hl 1 rfl) ?_
      refine lv_sipush (v := 158) (pc := 3) hx hb dX7_putAside_3 (by decide) ?_
      refine lv_icmp_ge (tgt := 27) (pc := 6) hx hb dX7_putAside_6 (by decide) (fun c6 => ?_) (fun c6 => ?_)
      · replace h := h.1 c6
        exact m_vret (pc := 27) C hr hlk hP hS dX7_putAside_27 h
      · replace h := h.2 c6
        refine lv_aload_n (pc := 9) hx hb dX7_putAside_9 rfl (lv_at hl 0 rfl) ?_
        obtain ⟨hk1, h⟩ := h
        obtain ⟨j2, hj2, h⟩ := h
        refine gX7_13 (pc := 10) C hK hP hk1 hj2 dX7_putAside_10 ?_
        refine lv_iload_n (pc := 13) hx hb dX7_putAside_13 rfl (lv_at hl 1 rfl) ?_
        refine lv_aload_n (pc := 14) hx hb dX7_putAside_14 rfl (lv_at hl 0 rfl) ?_
        obtain ⟨j3, hj3, h⟩ := h
        refine gX7_7 (pc := 15) C hK hP hk1 hj3 dX7_putAside_15 ?_
        refine lv_iload_n (pc := 18) hx hb dX7_putAside_18 rfl (lv_at hl 1 rfl) ?_
        obtain ⟨hk4, h⟩ := h
        obtain ⟨hi5, h⟩ := h
        refine m_iald (pc := 19) C hK hP hk4 hi5 dX7_putAside_19 ?_
        obtain ⟨hk6, h⟩ := h
        obtain ⟨hi7, h⟩ := h
        refine m_iast (pc := 20) C hK hP hS hk6 hi7 dX7_putAside_20 (fun M8 H locs eM8 hP hS => ?_)
        replace h := h M8 eM8
        obtain ⟨v9, ev9⟩ : ∃ y : Int32, y = x1 + 1 := ⟨_, rfl⟩
        replace h := h v9 ev9
        refine lv_iinc (v := v9) (lv' := [(1, .int v9), (0, .ref (b + x0))]) (pc := 21) hx hb dX7_putAside_21 hl (k := 1) rfl (by rw [ev9]; rfl) (by decide) rfl (fun ls hl => ?_)
        refine lv_goto (tgt := 2) (pc := 24) hx hb dX7_putAside_24 (by decide) ?_
        exact ih _ _ _ _ _ _ h hP hS (lv_sub hl [1, 0] rfl)
  unfold wp_X7_putAside at h
  refine lv_iconst (v := 0) (pc := 0) hx hb dX7_putAside_0 (by decide) ?_
  refine lv_istore_n (lv' := [(1, .int 0), (0, .ref (b + i))]) (pc := 1) hx hb dX7_putAside_1 rfl hl (by decide) rfl (fun ls hl => ?_)
  obtain ⟨f, h⟩ := h
  exact L2 f _ _ _ _ _ _ h hP hS (lv_sub hl [1, 0] rfl)
/-! ForgeHeatsModel.takeBack ()V -/
def wpB_X7_takeBack_2 (n : Nat) (P : Mem → Prop) (R_ : Mem → Nat → Int32 → Prop) (M : Mem) (x0 : Nat) (x1 : Int32) : Prop := ((158 ≤ x1 → P M) ∧ (¬ 158 ≤ x1 → m_tp n x0 7 ∧ (∃ j2 : Nat, M.2.1 x0 1 = some j2 ∧ (∃ j3 : Nat, M.2.1 x0 2 = some j3 ∧ (m_tp n j3 8 ∧ (vp_in x1 (m_len j3) ∧ (m_tp n j2 8 ∧ (vp_in x1 (m_len j2) ∧ (∀ M8 : Mem, M8 = uI M j2 x1.toNatClampNeg (M.1 j3 x1.toNatClampNeg) → (∀ v9 : Int32, v9 = x1 + 1 → (R_ M8 x0 v9)))))))))))
def wpL_X7_takeBack_2 (n : Nat) (P : Mem → Prop) : Nat → Mem → Nat → Int32 → Prop
  | 0 => fun _ _ _ => False
  | f + 1 => fun M x0 x1 => wpB_X7_takeBack_2 n P (wpL_X7_takeBack_2 n P f) M x0 x1
def wp_X7_takeBack (n : Nat) (M : Mem) (i : Nat) (P : Mem → Prop) : Prop := ∃ f : Nat, wpL_X7_takeBack_2 n P f M i 0
abbrev rm_X7_takeBack : Room := { frames := 0, cells := 0, slots := 0, locals := 0 }
set_option maxHeartbeats 4000000 in
set_option maxRecDepth 100000 in
theorem c_X7_takeBack {l : Launch} {D : va_G} {cA : Nat → ClassId} {b n : Nat} {M : Mem} {i : Nat} {P : Mem → Prop} (h : wp_X7_takeBack n M i P) : m_C l D cA b n n M yX7_takeBack cX7_takeBack 2 none rm_X7_takeBack 0 0 [.ref (b + i)] (rV P) := by
  refine m_enter (by decide) (Nat.le_of_ble_eq_true rfl) (fun p e s m below meth c C hr hlk hnm hK hP hS ls hl => ?_)
  have hx := C.1
  have hb := C.2.1
  have hl : lv_has ls 2 [(0, .ref (b + i))] := hl
  have L2 : ∀ f : Nat, ∀ (M : Mem) (H : Heap) (locs : List Loc) (ls : Array Slot) (x0 : Nat) (x1 : Int32), wpL_X7_takeBack_2 n P f M x0 x1 → m_H D cA b n M H → va_S (m_A b) s.heap H locs → lv_has ls 2 [(0, .ref (b + x0)), (1, .int x1)] → W p l e rm_X7_takeBack s m ([.ref (b + i)] : List Value).toArray below meth c H locs 0 0 (MQ below (m_Q D cA b n (rV P)) ([.ref (b + i)] : List Value).toArray s 0 0 (m_A b)) (F0 m 2 ls []) := by
    clear h
    intro f
    induction f with
    | zero => intro M H locs ls x0 x1 h; exact h.elim
    | succ f ih =>
      intro M H locs ls x0 x1 h hP hS hl
      have h : wpB_X7_takeBack_2 n P (wpL_X7_takeBack_2 n P f) M x0 x1 := h
      unfold wpB_X7_takeBack_2 at h
      refine lv_iload_n (pc := 2) hx hb dX7_takeBack_2 rfl (lv_at hl 1 rfl) ?_
      refine lv_sipush (v := 158) (pc := 3) hx hb dX7_takeBack_3 (by decide) ?_
      refine lv_icmp_ge (tgt := 27) (pc := 6) hx hb dX7_takeBack_6 (by decide) (fun c6 => ?_) (fun c6 => ?_)
      · replace h := h.1 c6
        exact m_vret (pc := 27) C hr hlk hP hS dX7_takeBack_27 h
      · replace h := h.2 c6
        refine lv_aload_n (pc := 9) hx hb dX7_takeBack_9 rfl (lv_at hl 0 rfl) ?_
        obtain ⟨hk1, h⟩ := h
        obtain ⟨j2, hj2, h⟩ := h
        refine gX7_7 (pc := 10) C hK hP hk1 hj2 dX7_takeBack_10 ?_
        refine lv_iload_n (pc := 13) hx hb dX7_takeBack_13 rfl (lv_at hl 1 rfl) ?_
        refine lv_aload_n (pc := 14) hx hb dX7_takeBack_14 rfl (lv_at hl 0 rfl) ?_
        obtain ⟨j3, hj3, h⟩ := h
        refine gX7_13 (pc := 15) C hK hP hk1 hj3 dX7_takeBack_15 ?_
        refine lv_iload_n (pc := 18) hx hb dX7_takeBack_18 rfl (lv_at hl 1 rfl) ?_
        obtain ⟨hk4, h⟩ := h
        obtain ⟨hi5, h⟩ := h
        refine m_iald (pc := 19) C hK hP hk4 hi5 dX7_takeBack_19 ?_
        obtain ⟨hk6, h⟩ := h
        obtain ⟨hi7, h⟩ := h
        refine m_iast (pc := 20) C hK hP hS hk6 hi7 dX7_takeBack_20 (fun M8 H locs eM8 hP hS => ?_)
        replace h := h M8 eM8
        obtain ⟨v9, ev9⟩ : ∃ y : Int32, y = x1 + 1 := ⟨_, rfl⟩
        replace h := h v9 ev9
        refine lv_iinc (v := v9) (lv' := [(1, .int v9), (0, .ref (b + x0))]) (pc := 21) hx hb dX7_takeBack_21 hl (k := 1) rfl (by rw [ev9]; rfl) (by decide) rfl (fun ls hl => ?_)
        refine lv_goto (tgt := 2) (pc := 24) hx hb dX7_takeBack_24 (by decide) ?_
        exact ih _ _ _ _ _ _ h hP hS (lv_sub hl [1, 0] rfl)
  unfold wp_X7_takeBack at h
  refine lv_iconst (v := 0) (pc := 0) hx hb dX7_takeBack_0 (by decide) ?_
  refine lv_istore_n (lv' := [(1, .int 0), (0, .ref (b + i))]) (pc := 1) hx hb dX7_takeBack_1 rfl hl (by decide) rfl (fun ls hl => ?_)
  obtain ⟨f, h⟩ := h
  exact L2 f _ _ _ _ _ _ h hP hS (lv_sub hl [1, 0] rfl)
/-! ForgeHeatsModel.heatOf (II)I -/
def wp_X7_heatOf (n : Nat) (M : Mem) (i : Nat) (p1 : Int32) (p2 : Int32) (P : Int32 → Mem → Prop) : Prop := m_tp n i 7 ∧ (∃ j2 : Nat, M.2.1 i 1 = some j2 ∧ (m_tp n j2 8 ∧ (vp_in ((15 + (5 * p1)) + p2) (m_len j2) ∧ (P (M.1 j2 ((15 + (5 * p1)) + p2).toNatClampNeg) M))))
abbrev rm_X7_heatOf : Room := { frames := 0, cells := 0, slots := 0, locals := 0 }
set_option maxHeartbeats 4000000 in
set_option maxRecDepth 100000 in
theorem c_X7_heatOf {l : Launch} {D : va_G} {cA : Nat → ClassId} {b n : Nat} {M : Mem} {i : Nat} {p1 : Int32} {p2 : Int32} {P : Int32 → Mem → Prop} (h : wp_X7_heatOf n M i p1 p2 P) : m_C l D cA b n n M yX7_heatOf cX7_heatOf 3 (some .int) rm_X7_heatOf 0 0 [.ref (b + i), .int p1, .int p2] (rI P) := by
  refine m_enter (by decide) (Nat.le_of_ble_eq_true rfl) (fun p e s m below meth c C hr hlk hnm hK hP hS ls hl => ?_)
  have hx := C.1
  have hb := C.2.1
  have hl : lv_has ls 3 [(0, .ref (b + i)), (1, .int p1), (2, .int p2)] := hl
  unfold wp_X7_heatOf at h
  refine lv_aload_n (pc := 0) hx hb dX7_heatOf_0 rfl (lv_at hl 0 rfl) ?_
  obtain ⟨hk1, h⟩ := h
  obtain ⟨j2, hj2, h⟩ := h
  refine gX7_7 (pc := 1) C hK hP hk1 hj2 dX7_heatOf_1 ?_
  refine lv_bipush (v := 15) (pc := 4) hx hb dX7_heatOf_4 (by decide) ?_
  refine lv_iconst (v := 5) (pc := 6) hx hb dX7_heatOf_6 (by decide) ?_
  refine lv_iload_n (pc := 7) hx hb dX7_heatOf_7 rfl (lv_at hl 1 rfl) ?_
  refine lv_imul (pc := 8) hx hb dX7_heatOf_8 ?_
  refine lv_iadd (pc := 9) hx hb dX7_heatOf_9 ?_
  refine lv_iload_n (pc := 10) hx hb dX7_heatOf_10 rfl (lv_at hl 2 rfl) ?_
  refine lv_iadd (pc := 11) hx hb dX7_heatOf_11 ?_
  obtain ⟨hk3, h⟩ := h
  obtain ⟨hi4, h⟩ := h
  refine m_iald (pc := 12) C hK hP hk3 hi4 dX7_heatOf_12 ?_
  exact m_iret (v := M.1 j2 ((15 + (5 * p1)) + p2).toNatClampNeg) (pc := 13) C hr hlk hP hS dX7_heatOf_13 h
/-! ForgeHeatsModel.die0 (II)I -/
def wp_X7_die0 (n : Nat) (M : Mem) (i : Nat) (p1 : Int32) (p2 : Int32) (P : Int32 → Mem → Prop) : Prop := m_tp n i 7 ∧ (∃ j2 : Nat, M.2.1 i 1 = some j2 ∧ (m_tp n j2 8 ∧ (vp_in ((35 + (5 * p1)) + p2) (m_len j2) ∧ (P (M.1 j2 ((35 + (5 * p1)) + p2).toNatClampNeg) M))))
abbrev rm_X7_die0 : Room := { frames := 0, cells := 0, slots := 0, locals := 0 }
set_option maxHeartbeats 4000000 in
set_option maxRecDepth 100000 in
theorem c_X7_die0 {l : Launch} {D : va_G} {cA : Nat → ClassId} {b n : Nat} {M : Mem} {i : Nat} {p1 : Int32} {p2 : Int32} {P : Int32 → Mem → Prop} (h : wp_X7_die0 n M i p1 p2 P) : m_C l D cA b n n M yX7_die0 cX7_die0 3 (some .int) rm_X7_die0 0 0 [.ref (b + i), .int p1, .int p2] (rI P) := by
  refine m_enter (by decide) (Nat.le_of_ble_eq_true rfl) (fun p e s m below meth c C hr hlk hnm hK hP hS ls hl => ?_)
  have hx := C.1
  have hb := C.2.1
  have hl : lv_has ls 3 [(0, .ref (b + i)), (1, .int p1), (2, .int p2)] := hl
  unfold wp_X7_die0 at h
  refine lv_aload_n (pc := 0) hx hb dX7_die0_0 rfl (lv_at hl 0 rfl) ?_
  obtain ⟨hk1, h⟩ := h
  obtain ⟨j2, hj2, h⟩ := h
  refine gX7_7 (pc := 1) C hK hP hk1 hj2 dX7_die0_1 ?_
  refine lv_bipush (v := 35) (pc := 4) hx hb dX7_die0_4 (by decide) ?_
  refine lv_iconst (v := 5) (pc := 6) hx hb dX7_die0_6 (by decide) ?_
  refine lv_iload_n (pc := 7) hx hb dX7_die0_7 rfl (lv_at hl 1 rfl) ?_
  refine lv_imul (pc := 8) hx hb dX7_die0_8 ?_
  refine lv_iadd (pc := 9) hx hb dX7_die0_9 ?_
  refine lv_iload_n (pc := 10) hx hb dX7_die0_10 rfl (lv_at hl 2 rfl) ?_
  refine lv_iadd (pc := 11) hx hb dX7_die0_11 ?_
  obtain ⟨hk3, h⟩ := h
  obtain ⟨hi4, h⟩ := h
  refine m_iald (pc := 12) C hK hP hk3 hi4 dX7_die0_12 ?_
  exact m_iret (v := M.1 j2 ((35 + (5 * p1)) + p2).toNatClampNeg) (pc := 13) C hr hlk hP hS dX7_die0_13 h
/-! ForgeHeatsModel.job0 (II)I -/
def wp_X7_job0 (n : Nat) (M : Mem) (i : Nat) (p1 : Int32) (p2 : Int32) (P : Int32 → Mem → Prop) : Prop := m_tp n i 7 ∧ (∃ j2 : Nat, M.2.1 i 1 = some j2 ∧ (m_tp n j2 8 ∧ (vp_in ((60 + (7 * p1)) + p2) (m_len j2) ∧ (P (M.1 j2 ((60 + (7 * p1)) + p2).toNatClampNeg) M))))
abbrev rm_X7_job0 : Room := { frames := 0, cells := 0, slots := 0, locals := 0 }
set_option maxHeartbeats 4000000 in
set_option maxRecDepth 100000 in
theorem c_X7_job0 {l : Launch} {D : va_G} {cA : Nat → ClassId} {b n : Nat} {M : Mem} {i : Nat} {p1 : Int32} {p2 : Int32} {P : Int32 → Mem → Prop} (h : wp_X7_job0 n M i p1 p2 P) : m_C l D cA b n n M yX7_job0 cX7_job0 3 (some .int) rm_X7_job0 0 0 [.ref (b + i), .int p1, .int p2] (rI P) := by
  refine m_enter (by decide) (Nat.le_of_ble_eq_true rfl) (fun p e s m below meth c C hr hlk hnm hK hP hS ls hl => ?_)
  have hx := C.1
  have hb := C.2.1
  have hl : lv_has ls 3 [(0, .ref (b + i)), (1, .int p1), (2, .int p2)] := hl
  unfold wp_X7_job0 at h
  refine lv_aload_n (pc := 0) hx hb dX7_job0_0 rfl (lv_at hl 0 rfl) ?_
  obtain ⟨hk1, h⟩ := h
  obtain ⟨j2, hj2, h⟩ := h
  refine gX7_7 (pc := 1) C hK hP hk1 hj2 dX7_job0_1 ?_
  refine lv_bipush (v := 60) (pc := 4) hx hb dX7_job0_4 (by decide) ?_
  refine lv_bipush (v := 7) (pc := 6) hx hb dX7_job0_6 (by decide) ?_
  refine lv_iload_n (pc := 8) hx hb dX7_job0_8 rfl (lv_at hl 1 rfl) ?_
  refine lv_imul (pc := 9) hx hb dX7_job0_9 ?_
  refine lv_iadd (pc := 10) hx hb dX7_job0_10 ?_
  refine lv_iload_n (pc := 11) hx hb dX7_job0_11 rfl (lv_at hl 2 rfl) ?_
  refine lv_iadd (pc := 12) hx hb dX7_job0_12 ?_
  obtain ⟨hk3, h⟩ := h
  obtain ⟨hi4, h⟩ := h
  refine m_iald (pc := 13) C hK hP hk3 hi4 dX7_job0_13 ?_
  exact m_iret (v := M.1 j2 ((60 + (7 * p1)) + p2).toNatClampNeg) (pc := 14) C hr hlk hP hS dX7_job0_14 h
/-! ForgeHeatsModel.billet0 (II)I -/
def wp_X7_billet0 (n : Nat) (M : Mem) (i : Nat) (p1 : Int32) (p2 : Int32) (P : Int32 → Mem → Prop) : Prop := m_tp n i 7 ∧ (∃ j2 : Nat, M.2.1 i 1 = some j2 ∧ (m_tp n j2 8 ∧ (vp_in ((130 + (4 * p1)) + p2) (m_len j2) ∧ (P (M.1 j2 ((130 + (4 * p1)) + p2).toNatClampNeg) M))))
abbrev rm_X7_billet0 : Room := { frames := 0, cells := 0, slots := 0, locals := 0 }
set_option maxHeartbeats 4000000 in
set_option maxRecDepth 100000 in
theorem c_X7_billet0 {l : Launch} {D : va_G} {cA : Nat → ClassId} {b n : Nat} {M : Mem} {i : Nat} {p1 : Int32} {p2 : Int32} {P : Int32 → Mem → Prop} (h : wp_X7_billet0 n M i p1 p2 P) : m_C l D cA b n n M yX7_billet0 cX7_billet0 3 (some .int) rm_X7_billet0 0 0 [.ref (b + i), .int p1, .int p2] (rI P) := by
  refine m_enter (by decide) (Nat.le_of_ble_eq_true rfl) (fun p e s m below meth c C hr hlk hnm hK hP hS ls hl => ?_)
  have hx := C.1
  have hb := C.2.1
  have hl : lv_has ls 3 [(0, .ref (b + i)), (1, .int p1), (2, .int p2)] := hl
  unfold wp_X7_billet0 at h
  refine lv_aload_n (pc := 0) hx hb dX7_billet0_0 rfl (lv_at hl 0 rfl) ?_
  obtain ⟨hk1, h⟩ := h
  obtain ⟨j2, hj2, h⟩ := h
  refine gX7_7 (pc := 1) C hK hP hk1 hj2 dX7_billet0_1 ?_
  refine lv_sipush (v := 130) (pc := 4) hx hb dX7_billet0_4 (by decide) ?_
  refine lv_iconst (v := 4) (pc := 7) hx hb dX7_billet0_7 (by decide) ?_
  refine lv_iload_n (pc := 8) hx hb dX7_billet0_8 rfl (lv_at hl 1 rfl) ?_
  refine lv_imul (pc := 9) hx hb dX7_billet0_9 ?_
  refine lv_iadd (pc := 10) hx hb dX7_billet0_10 ?_
  refine lv_iload_n (pc := 11) hx hb dX7_billet0_11 rfl (lv_at hl 2 rfl) ?_
  refine lv_iadd (pc := 12) hx hb dX7_billet0_12 ?_
  obtain ⟨hk3, h⟩ := h
  obtain ⟨hi4, h⟩ := h
  refine m_iald (pc := 13) C hK hP hk3 hi4 dX7_billet0_13 ?_
  exact m_iret (v := M.1 j2 ((130 + (4 * p1)) + p2).toNatClampNeg) (pc := 14) C hr hlk hP hS dX7_billet0_14 h
/-! ForgeHeatsModel.lay (III)V -/
def wp_X7_lay (n : Nat) (M : Mem) (i : Nat) (p1 : Int32) (p2 : Int32) (p3 : Int32) (P : Mem → Prop) : Prop := m_tp n i 7 ∧ (∃ j2 : Nat, M.2.1 i 1 = some j2 ∧ (m_tp n j2 8 ∧ (vp_in ((130 + (4 * p1)) + p2) (m_len j2) ∧ (∀ M5 : Mem, M5 = uI M j2 ((130 + (4 * p1)) + p2).toNatClampNeg p3 → (P M5)))))
abbrev rm_X7_lay : Room := { frames := 0, cells := 0, slots := 0, locals := 0 }
set_option maxHeartbeats 4000000 in
set_option maxRecDepth 100000 in
theorem c_X7_lay {l : Launch} {D : va_G} {cA : Nat → ClassId} {b n : Nat} {M : Mem} {i : Nat} {p1 : Int32} {p2 : Int32} {p3 : Int32} {P : Mem → Prop} (h : wp_X7_lay n M i p1 p2 p3 P) : m_C l D cA b n n M yX7_lay cX7_lay 4 none rm_X7_lay 0 0 [.ref (b + i), .int p1, .int p2, .int p3] (rV P) := by
  refine m_enter (by decide) (Nat.le_of_ble_eq_true rfl) (fun p e s m below meth c C hr hlk hnm hK hP hS ls hl => ?_)
  have hx := C.1
  have hb := C.2.1
  have hl : lv_has ls 4 [(0, .ref (b + i)), (1, .int p1), (2, .int p2), (3, .int p3)] := hl
  unfold wp_X7_lay at h
  refine lv_aload_n (pc := 0) hx hb dX7_lay_0 rfl (lv_at hl 0 rfl) ?_
  obtain ⟨hk1, h⟩ := h
  obtain ⟨j2, hj2, h⟩ := h
  refine gX7_7 (pc := 1) C hK hP hk1 hj2 dX7_lay_1 ?_
  refine lv_sipush (v := 130) (pc := 4) hx hb dX7_lay_4 (by decide) ?_
  refine lv_iconst (v := 4) (pc := 7) hx hb dX7_lay_7 (by decide) ?_
  refine lv_iload_n (pc := 8) hx hb dX7_lay_8 rfl (lv_at hl 1 rfl) ?_
  refine lv_imul (pc := 9) hx hb dX7_lay_9 ?_
  refine lv_iadd (pc := 10) hx hb dX7_lay_10 ?_
  refine lv_iload_n (pc := 11) hx hb dX7_lay_11 rfl (lv_at hl 2 rfl) ?_
  refine lv_iadd (pc := 12) hx hb dX7_lay_12 ?_
  refine lv_iload_n (pc := 13) hx hb dX7_lay_13 rfl (lv_at hl 3 rfl) ?_
  obtain ⟨hk3, h⟩ := h
  obtain ⟨hi4, h⟩ := h
  refine m_iast (pc := 14) C hK hP hS hk3 hi4 dX7_lay_14 (fun M5 H locs eM5 hP hS => ?_)
  replace h := h M5 eM5
  exact m_vret (pc := 15) C hr hlk hP hS dX7_lay_15 h
/-! ForgeHeatsModel.isBeingGround (I)Z -/
def wp_X7_isBeingGround (n : Nat) (M : Mem) (i : Nat) (p1 : Int32) (P : Bool → Mem → Prop) : Prop := m_tp n i 7 ∧ (∃ j2 : Nat, M.2.1 i 1 = some j2 ∧ (m_tp n j2 8 ∧ (vp_in 13 (m_len j2) ∧ (P (if ¬ (M.1 j2 (13 : Int32).toNatClampNeg) = (p1 + 1) then false else true) M))))
abbrev rm_X7_isBeingGround : Room := { frames := 0, cells := 0, slots := 0, locals := 0 }
set_option maxHeartbeats 4000000 in
set_option maxRecDepth 100000 in
theorem c_X7_isBeingGround {l : Launch} {D : va_G} {cA : Nat → ClassId} {b n : Nat} {M : Mem} {i : Nat} {p1 : Int32} {P : Bool → Mem → Prop} (h : wp_X7_isBeingGround n M i p1 P) : m_C l D cA b n n M yX7_isBeingGround cX7_isBeingGround 2 (some .boolean) rm_X7_isBeingGround 0 0 [.ref (b + i), .int p1] (rZ P) := by
  refine m_enter (by decide) (Nat.le_of_ble_eq_true rfl) (fun p e s m below meth c C hr hlk hnm hK hP hS ls hl => ?_)
  have hx := C.1
  have hb := C.2.1
  have hl : lv_has ls 2 [(0, .ref (b + i)), (1, .int p1)] := hl
  unfold wp_X7_isBeingGround at h
  refine lv_aload_n (pc := 0) hx hb dX7_isBeingGround_0 rfl (lv_at hl 0 rfl) ?_
  obtain ⟨hk1, h⟩ := h
  obtain ⟨j2, hj2, h⟩ := h
  refine gX7_7 (pc := 1) C hK hP hk1 hj2 dX7_isBeingGround_1 ?_
  refine lv_bipush (v := 13) (pc := 4) hx hb dX7_isBeingGround_4 (by decide) ?_
  obtain ⟨hk3, h⟩ := h
  obtain ⟨hi4, h⟩ := h
  refine m_iald (pc := 6) C hK hP hk3 hi4 dX7_isBeingGround_6 ?_
  refine lv_iload_n (pc := 7) hx hb dX7_isBeingGround_7 rfl (lv_at hl 1 rfl) ?_
  refine lv_iconst (v := 1) (pc := 8) hx hb dX7_isBeingGround_8 (by decide) ?_
  refine lv_iadd (pc := 9) hx hb dX7_isBeingGround_9 ?_
  refine m_joinZ (z := if ¬ (M.1 j2 (13 : Int32).toNatClampNeg) = (p1 + 1) then false else true) (jp := 18) (rest := []) ?_ (fun hJ => ?_)
  rotate_left
  · skip
    refine lv_icmp_ne (tgt := 17) (pc := 10) hx hb dX7_isBeingGround_10 (by decide) (fun c10 => ?_) (fun c10 => ?_)
    · skip
      refine lv_iconst (v := 0) (pc := 17) hx hb dX7_isBeingGround_17 (by decide) ?_
      exact hJ _ false rfl (by rw [if_pos c10])
    · skip
      refine lv_iconst (v := 1) (pc := 13) hx hb dX7_isBeingGround_13 (by decide) ?_
      refine lv_goto (tgt := 18) (pc := 14) hx hb dX7_isBeingGround_14 (by decide) ?_
      exact hJ _ true rfl (by rw [if_neg (fun hn => hn c10)])
  exact m_zret (v := if ¬ (M.1 j2 (13 : Int32).toNatClampNeg) = (p1 + 1) then false else true) (pc := 18) C hr hlk hP hS dX7_isBeingGround_18 h
/-! ForgeHeatsModel.isWornOut (I)Z -/
def wp_X7_isWornOut (n : Nat) (M : Mem) (i : Nat) (p1 : Int32) (P : Bool → Mem → Prop) : Prop := m_tp n i 7 ∧ (wp_X7_die0 n M i p1 2 (fun r3 M1 => wp_X7_die0 n M1 i p1 1 (fun r5 M4 => P (if r3 < r5 then false else true) M4)))
abbrev rm_X7_isWornOut : Room := { frames := 1, cells := 0, slots := 0, locals := 22 }
set_option maxHeartbeats 4000000 in
set_option maxRecDepth 100000 in
theorem c_X7_isWornOut {l : Launch} {D : va_G} {cA : Nat → ClassId} {b n : Nat} {M : Mem} {i : Nat} {p1 : Int32} {P : Bool → Mem → Prop} (h : wp_X7_isWornOut n M i p1 P) : m_C l D cA b n n M yX7_isWornOut cX7_isWornOut 2 (some .boolean) rm_X7_isWornOut 0 0 [.ref (b + i), .int p1] (rZ P) := by
  refine m_enter (by decide) (Nat.le_of_ble_eq_true rfl) (fun p e s m below meth c C hr hlk hnm hK hP hS ls hl => ?_)
  have hx := C.1
  have hb := C.2.1
  have hl : lv_has ls 2 [(0, .ref (b + i)), (1, .int p1)] := hl
  unfold wp_X7_isWornOut at h
  refine lv_aload_n (pc := 0) hx hb dX7_isWornOut_0 rfl (lv_at hl 0 rfl) ?_
  refine lv_iload_n (pc := 1) hx hb dX7_isWornOut_1 rfl (lv_at hl 1 rfl) ?_
  refine lv_iconst (v := 2) (pc := 2) hx hb dX7_isWornOut_2 (by decide) ?_
  obtain ⟨hk2, h⟩ := h
  refine m_callVI (pc := 3) (y := yX7_die0) (κ := 7) (As := [.int p1, .int 2]) (rest := []) C hK hP hS hl.1 ⟨Nat.zero_le _, Nat.zero_le _⟩ (c_X7_die0 h) rfl rfl hk2 (by decide) rfl q_1003 q_1005 q_s39 q_8 q_1006 ⟨rfl, rfl⟩ yd_X7_die0 ⟨Nat.le_of_ble_eq_true rfl, Nat.le_of_ble_eq_true rfl⟩ (Nat.le_of_ble_eq_true rfl) dX7_isWornOut_3 (fun r3 M1 H locs h hP hS => ?_)
  refine lv_aload_n (pc := 6) hx hb dX7_isWornOut_6 rfl (lv_at hl 0 rfl) ?_
  refine lv_iload_n (pc := 7) hx hb dX7_isWornOut_7 rfl (lv_at hl 1 rfl) ?_
  refine lv_iconst (v := 1) (pc := 8) hx hb dX7_isWornOut_8 (by decide) ?_
  refine m_callVI (pc := 9) (y := yX7_die0) (κ := 7) (As := [.int p1, .int 1]) (rest := [.int r3]) C hK hP hS hl.1 ⟨Nat.zero_le _, Nat.zero_le _⟩ (c_X7_die0 h) rfl rfl hk2 (by decide) rfl q_1003 q_1005 q_s39 q_8 q_1006 ⟨rfl, rfl⟩ yd_X7_die0 ⟨Nat.le_of_ble_eq_true rfl, Nat.le_of_ble_eq_true rfl⟩ (Nat.le_of_ble_eq_true rfl) dX7_isWornOut_9 (fun r5 M4 H locs h hP hS => ?_)
  refine m_joinZ (z := if r3 < r5 then false else true) (jp := 20) (rest := []) ?_ (fun hJ => ?_)
  rotate_left
  · skip
    refine lv_icmp_lt (tgt := 19) (pc := 12) hx hb dX7_isWornOut_12 (by decide) (fun c12 => ?_) (fun c12 => ?_)
    · skip
      refine lv_iconst (v := 0) (pc := 19) hx hb dX7_isWornOut_19 (by decide) ?_
      exact hJ _ false rfl (by rw [if_pos c12])
    · skip
      refine lv_iconst (v := 1) (pc := 15) hx hb dX7_isWornOut_15 (by decide) ?_
      refine lv_goto (tgt := 20) (pc := 16) hx hb dX7_isWornOut_16 (by decide) ?_
      exact hJ _ true rfl (by rw [if_neg c12])
  exact m_zret (v := if r3 < r5 then false else true) (pc := 20) C hr hlk hP hS dX7_isWornOut_20 h
/-! ForgeHeatsModel.isFit (I)Z -/
def wp_X7_isFit (n : Nat) (M : Mem) (i : Nat) (p1 : Int32) (P : Bool → Mem → Prop) : Prop := m_tp n i 7 ∧ (wp_X7_isWornOut n M i p1 (fun z3 M1 => ((z3 = true → P false M1) ∧ (z3 = false → wp_X7_isBeingGround n M1 i p1 (fun z5 M4 => P (if z5 = true then false else true) M4)))))
abbrev rm_X7_isFit : Room := { frames := 2, cells := 0, slots := 0, locals := 43 }
set_option maxHeartbeats 4000000 in
set_option maxRecDepth 100000 in
theorem c_X7_isFit {l : Launch} {D : va_G} {cA : Nat → ClassId} {b n : Nat} {M : Mem} {i : Nat} {p1 : Int32} {P : Bool → Mem → Prop} (h : wp_X7_isFit n M i p1 P) : m_C l D cA b n n M yX7_isFit cX7_isFit 2 (some .boolean) rm_X7_isFit 0 0 [.ref (b + i), .int p1] (rZ P) := by
  refine m_enter (by decide) (Nat.le_of_ble_eq_true rfl) (fun p e s m below meth c C hr hlk hnm hK hP hS ls hl => ?_)
  have hx := C.1
  have hb := C.2.1
  have hl : lv_has ls 2 [(0, .ref (b + i)), (1, .int p1)] := hl
  unfold wp_X7_isFit at h
  refine lv_aload_n (pc := 0) hx hb dX7_isFit_0 rfl (lv_at hl 0 rfl) ?_
  refine lv_iload_n (pc := 1) hx hb dX7_isFit_1 rfl (lv_at hl 1 rfl) ?_
  obtain ⟨hk2, h⟩ := h
  refine m_callVZ (pc := 2) (y := yX7_isWornOut) (κ := 7) (As := [.int p1]) (rest := []) C hK hP hS hl.1 ⟨Nat.zero_le _, Nat.zero_le _⟩ (c_X7_isWornOut h) rfl rfl hk2 (by decide) rfl q_1122 q_1124 q_s62 q_8 q_1125 ⟨rfl, rfl⟩ yd_X7_isWornOut ⟨Nat.le_of_ble_eq_true rfl, Nat.le_of_ble_eq_true rfl⟩ (Nat.le_of_ble_eq_true rfl) dX7_isFit_2 (fun z3 M1 H locs h hP hS => ?_)
  refine lv_if_ne (tgt := 20) (pc := 5) hx hb dX7_isFit_5 (by decide) (fun c5 => ?_) (fun c5 => ?_)
  · replace h := h.1 (bZ1 c5)
    refine lv_iconst (v := 0) (pc := 20) hx hb dX7_isFit_20 (by decide) ?_
    exact m_zret (v := false) (pc := 21) C hr hlk hP hS dX7_isFit_21 h
  · replace h := h.2 (bZ0 c5)
    refine lv_aload_n (pc := 8) hx hb dX7_isFit_8 rfl (lv_at hl 0 rfl) ?_
    refine lv_iload_n (pc := 9) hx hb dX7_isFit_9 rfl (lv_at hl 1 rfl) ?_
    refine m_callVZ (pc := 10) (y := yX7_isBeingGround) (κ := 7) (As := [.int p1]) (rest := []) C hK hP hS hl.1 ⟨Nat.zero_le _, Nat.zero_le _⟩ (c_X7_isBeingGround h) rfl rfl hk2 (by decide) rfl q_999 q_1001 q_s38 q_8 q_1002 ⟨rfl, rfl⟩ yd_X7_isBeingGround ⟨Nat.le_of_ble_eq_true rfl, Nat.le_of_ble_eq_true rfl⟩ (Nat.le_of_ble_eq_true rfl) dX7_isFit_10 (fun z5 M4 H locs h hP hS => ?_)
    refine m_joinZ (z := if z5 = true then false else true) (jp := 21) (rest := []) ?_ (fun hJ => ?_)
    rotate_left
    · skip
      refine lv_if_ne (tgt := 20) (pc := 13) hx hb dX7_isFit_13 (by decide) (fun c13 => ?_) (fun c13 => ?_)
      · skip
        refine lv_iconst (v := 0) (pc := 20) hx hb dX7_isFit_20 (by decide) ?_
        exact hJ _ false rfl (by rw [if_pos (bZ1 c13)])
      · skip
        refine lv_iconst (v := 1) (pc := 16) hx hb dX7_isFit_16 (by decide) ?_
        refine lv_goto (tgt := 21) (pc := 17) hx hb dX7_isFit_17 (by decide) ?_
        exact hJ _ true rfl (by rw [if_neg (by rw [(bZ0 c13)]; decide)])
    exact m_zret (v := if z5 = true then false else true) (pc := 21) C hr hlk hP hS dX7_isFit_21 h
/-! ForgeHeatsModel.jobWith (I)I -/
def wpB_X7_jobWith_2 (n : Nat) (P : Int32 → Mem → Prop) (R_ : Mem → Nat → Int32 → Int32 → Prop) (M : Mem) (x0 : Nat) (x1 : Int32) (x2 : Int32) : Prop := m_tp n x0 7 ∧ (∃ j2 : Nat, M.2.1 x0 1 = some j2 ∧ (m_tp n j2 8 ∧ (vp_in 5 (m_len j2) ∧ ((((M.1 j2 (5 : Int32).toNatClampNeg) ≤ x2 → P (-1) M) ∧ (¬ (M.1 j2 (5 : Int32).toNatClampNeg) ≤ x2 → wp_X7_job0 n M x0 x2 0 (fun r6 M5 => ((¬ r6 = x1 → ∀ v7 : Int32, v7 = x2 + 1 → (R_ M5 x0 x1 v7)) ∧ (r6 = x1 → P x2 M5)))))))))
def wpL_X7_jobWith_2 (n : Nat) (P : Int32 → Mem → Prop) : Nat → Mem → Nat → Int32 → Int32 → Prop
  | 0 => fun _ _ _ _ => False
  | f + 1 => fun M x0 x1 x2 => wpB_X7_jobWith_2 n P (wpL_X7_jobWith_2 n P f) M x0 x1 x2
def wp_X7_jobWith (n : Nat) (M : Mem) (i : Nat) (p1 : Int32) (P : Int32 → Mem → Prop) : Prop := ∃ f : Nat, wpL_X7_jobWith_2 n P f M i p1 0
abbrev rm_X7_jobWith : Room := { frames := 1, cells := 0, slots := 0, locals := 22 }
set_option maxHeartbeats 4000000 in
set_option maxRecDepth 100000 in
theorem c_X7_jobWith {l : Launch} {D : va_G} {cA : Nat → ClassId} {b n : Nat} {M : Mem} {i : Nat} {p1 : Int32} {P : Int32 → Mem → Prop} (h : wp_X7_jobWith n M i p1 P) : m_C l D cA b n n M yX7_jobWith cX7_jobWith 3 (some .int) rm_X7_jobWith 0 0 [.ref (b + i), .int p1] (rI P) := by
  refine m_enter (by decide) (Nat.le_of_ble_eq_true rfl) (fun p e s m below meth c C hr hlk hnm hK hP hS ls hl => ?_)
  have hx := C.1
  have hb := C.2.1
  have hl : lv_has ls 3 [(0, .ref (b + i)), (1, .int p1)] := hl
  have L2 : ∀ f : Nat, ∀ (M : Mem) (H : Heap) (locs : List Loc) (ls : Array Slot) (x0 : Nat) (x1 : Int32) (x2 : Int32), wpL_X7_jobWith_2 n P f M x0 x1 x2 → m_H D cA b n M H → va_S (m_A b) s.heap H locs → lv_has ls 3 [(0, .ref (b + x0)), (1, .int x1), (2, .int x2)] → W p l e rm_X7_jobWith s m ([.ref (b + i), .int p1] : List Value).toArray below meth c H locs 0 0 (MQ below (m_Q D cA b n (rI P)) ([.ref (b + i), .int p1] : List Value).toArray s 0 0 (m_A b)) (F0 m 2 ls []) := by
    clear h
    intro f
    induction f with
    | zero => intro M H locs ls x0 x1 x2 h; exact h.elim
    | succ f ih =>
      intro M H locs ls x0 x1 x2 h hP hS hl
      have h : wpB_X7_jobWith_2 n P (wpL_X7_jobWith_2 n P f) M x0 x1 x2 := h
      unfold wpB_X7_jobWith_2 at h
      refine lv_iload_n (pc := 2) hx hb dX7_jobWith_2 rfl (lv_at hl 2 rfl) ?_
      refine lv_aload_n (pc := 3) hx hb dX7_jobWith_3 rfl (lv_at hl 0 rfl) ?_
      obtain ⟨hk1, h⟩ := h
      obtain ⟨j2, hj2, h⟩ := h
      refine gX7_7 (pc := 4) C hK hP hk1 hj2 dX7_jobWith_4 ?_
      refine lv_iconst (v := 5) (pc := 7) hx hb dX7_jobWith_7 (by decide) ?_
      obtain ⟨hk3, h⟩ := h
      obtain ⟨hi4, h⟩ := h
      refine m_iald (pc := 8) C hK hP hk3 hi4 dX7_jobWith_8 ?_
      refine lv_icmp_ge (tgt := 30) (pc := 9) hx hb dX7_jobWith_9 (by decide) (fun c9 => ?_) (fun c9 => ?_)
      · replace h := h.1 c9
        refine lv_iconst (v := -1) (pc := 30) hx hb dX7_jobWith_30 (by decide) ?_
        exact m_iret (v := (-1)) (pc := 31) C hr hlk hP hS dX7_jobWith_31 h
      · replace h := h.2 c9
        refine lv_aload_n (pc := 12) hx hb dX7_jobWith_12 rfl (lv_at hl 0 rfl) ?_
        refine lv_iload_n (pc := 13) hx hb dX7_jobWith_13 rfl (lv_at hl 2 rfl) ?_
        refine lv_iconst (v := 0) (pc := 14) hx hb dX7_jobWith_14 (by decide) ?_
        refine m_callVI (pc := 15) (y := yX7_job0) (κ := 7) (As := [.int x2, .int 0]) (rest := []) C hK hP hS hl.1 ⟨Nat.zero_le _, Nat.zero_le _⟩ (c_X7_job0 h) rfl rfl hk1 (by decide) rfl q_1031 q_1033 q_s43 q_8 q_1034 ⟨rfl, rfl⟩ yd_X7_job0 ⟨Nat.le_of_ble_eq_true rfl, Nat.le_of_ble_eq_true rfl⟩ (Nat.le_of_ble_eq_true rfl) dX7_jobWith_15 (fun r6 M5 H locs h hP hS => ?_)
        refine lv_iload_n (pc := 18) hx hb dX7_jobWith_18 rfl (lv_at hl 1 rfl) ?_
        refine lv_icmp_ne (tgt := 24) (pc := 19) hx hb dX7_jobWith_19 (by decide) (fun c19 => ?_) (fun c19 => ?_)
        · replace h := h.1 c19
          obtain ⟨v7, ev7⟩ : ∃ y : Int32, y = x2 + 1 := ⟨_, rfl⟩
          replace h := h v7 ev7
          refine lv_iinc (v := v7) (lv' := [(2, .int v7), (0, .ref (b + x0)), (1, .int x1)]) (pc := 24) hx hb dX7_jobWith_24 hl (k := 2) rfl (by rw [ev7]; rfl) (by decide) rfl (fun ls hl => ?_)
          refine lv_goto (tgt := 2) (pc := 27) hx hb dX7_jobWith_27 (by decide) ?_
          exact ih _ _ _ _ _ _ _ h hP hS (lv_sub hl [1, 2, 0] rfl)
        · replace h := h.2 c19
          refine lv_iload_n (pc := 22) hx hb dX7_jobWith_22 rfl (lv_at hl 2 rfl) ?_
          exact m_iret (v := x2) (pc := 23) C hr hlk hP hS dX7_jobWith_23 h
  unfold wp_X7_jobWith at h
  refine lv_iconst (v := 0) (pc := 0) hx hb dX7_jobWith_0 (by decide) ?_
  refine lv_istore_n (lv' := [(2, .int 0), (0, .ref (b + i)), (1, .int p1)]) (pc := 1) hx hb dX7_jobWith_1 rfl hl (by decide) rfl (fun ls hl => ?_)
  obtain ⟨f, h⟩ := h
  exact L2 f _ _ _ _ _ _ _ h hP hS (lv_sub hl [1, 2, 0] rfl)
/-! ForgeHeatsModel.isAhead (II)Z -/
def wp_X7_isAhead (n : Nat) (M : Mem) (i : Nat) (p1 : Int32) (p2 : Int32) (P : Bool → Mem → Prop) : Prop := m_tp n i 7 ∧ (wp_X7_job0 n M i p1 6 (fun r3 M1 => wp_X7_job0 n M1 i p2 6 (fun r5 M4 => ∀ v6 : Int32, v6 = (r3 - r5) → (wp_X7_job0 n M4 i p2 5 (fun r8 M7 => wp_X7_job0 n M7 i p1 5 (fun r10 M9 => ∀ v11 : Int32, v11 = (r8 - r10) → (P (if 0 < v6 then true else (if ¬ v6 = 0 then false else (if 0 < v11 then true else (if ¬ v11 = 0 then false else (if p2 ≤ p1 then false else true))))) M9)))))))
abbrev rm_X7_isAhead : Room := { frames := 1, cells := 0, slots := 0, locals := 22 }
set_option maxHeartbeats 4000000 in
set_option maxRecDepth 100000 in
theorem c_X7_isAhead {l : Launch} {D : va_G} {cA : Nat → ClassId} {b n : Nat} {M : Mem} {i : Nat} {p1 : Int32} {p2 : Int32} {P : Bool → Mem → Prop} (h : wp_X7_isAhead n M i p1 p2 P) : m_C l D cA b n n M yX7_isAhead cX7_isAhead 5 (some .boolean) rm_X7_isAhead 0 0 [.ref (b + i), .int p1, .int p2] (rZ P) := by
  refine m_enter (by decide) (Nat.le_of_ble_eq_true rfl) (fun p e s m below meth c C hr hlk hnm hK hP hS ls hl => ?_)
  have hx := C.1
  have hb := C.2.1
  have hl : lv_has ls 5 [(0, .ref (b + i)), (1, .int p1), (2, .int p2)] := hl
  unfold wp_X7_isAhead at h
  refine lv_aload_n (pc := 0) hx hb dX7_isAhead_0 rfl (lv_at hl 0 rfl) ?_
  refine lv_iload_n (pc := 1) hx hb dX7_isAhead_1 rfl (lv_at hl 1 rfl) ?_
  refine lv_bipush (v := 6) (pc := 2) hx hb dX7_isAhead_2 (by decide) ?_
  obtain ⟨hk2, h⟩ := h
  refine m_callVI (pc := 4) (y := yX7_job0) (κ := 7) (As := [.int p1, .int 6]) (rest := []) C hK hP hS hl.1 ⟨Nat.zero_le _, Nat.zero_le _⟩ (c_X7_job0 h) rfl rfl hk2 (by decide) rfl q_1031 q_1033 q_s43 q_8 q_1034 ⟨rfl, rfl⟩ yd_X7_job0 ⟨Nat.le_of_ble_eq_true rfl, Nat.le_of_ble_eq_true rfl⟩ (Nat.le_of_ble_eq_true rfl) dX7_isAhead_4 (fun r3 M1 H locs h hP hS => ?_)
  refine lv_aload_n (pc := 7) hx hb dX7_isAhead_7 rfl (lv_at hl 0 rfl) ?_
  refine lv_iload_n (pc := 8) hx hb dX7_isAhead_8 rfl (lv_at hl 2 rfl) ?_
  refine lv_bipush (v := 6) (pc := 9) hx hb dX7_isAhead_9 (by decide) ?_
  refine m_callVI (pc := 11) (y := yX7_job0) (κ := 7) (As := [.int p2, .int 6]) (rest := [.int r3]) C hK hP hS hl.1 ⟨Nat.zero_le _, Nat.zero_le _⟩ (c_X7_job0 h) rfl rfl hk2 (by decide) rfl q_1031 q_1033 q_s43 q_8 q_1034 ⟨rfl, rfl⟩ yd_X7_job0 ⟨Nat.le_of_ble_eq_true rfl, Nat.le_of_ble_eq_true rfl⟩ (Nat.le_of_ble_eq_true rfl) dX7_isAhead_11 (fun r5 M4 H locs h hP hS => ?_)
  refine lv_isub (pc := 14) hx hb dX7_isAhead_14 ?_
  refine lv_topi (fun v6 ev6 => ?_)
  replace h := h v6 ev6
  refine lv_istore_n (lv' := [(3, .int v6), (0, .ref (b + i)), (1, .int p1), (2, .int p2)]) (pc := 15) hx hb dX7_isAhead_15 rfl hl (by decide) rfl (fun ls hl => ?_)
  refine lv_aload_n (pc := 16) hx hb dX7_isAhead_16 rfl (lv_at hl 1 rfl) ?_
  refine lv_iload_n (pc := 17) hx hb dX7_isAhead_17 rfl (lv_at hl 3 rfl) ?_
  refine lv_iconst (v := 5) (pc := 18) hx hb dX7_isAhead_18 (by decide) ?_
  refine m_callVI (pc := 19) (y := yX7_job0) (κ := 7) (As := [.int p2, .int 5]) (rest := []) C hK hP hS hl.1 ⟨Nat.zero_le _, Nat.zero_le _⟩ (c_X7_job0 h) rfl rfl hk2 (by decide) rfl q_1031 q_1033 q_s43 q_8 q_1034 ⟨rfl, rfl⟩ yd_X7_job0 ⟨Nat.le_of_ble_eq_true rfl, Nat.le_of_ble_eq_true rfl⟩ (Nat.le_of_ble_eq_true rfl) dX7_isAhead_19 (fun r8 M7 H locs h hP hS => ?_)
  refine lv_aload_n (pc := 22) hx hb dX7_isAhead_22 rfl (lv_at hl 1 rfl) ?_
  refine lv_iload_n (pc := 23) hx hb dX7_isAhead_23 rfl (lv_at hl 2 rfl) ?_
  refine lv_iconst (v := 5) (pc := 24) hx hb dX7_isAhead_24 (by decide) ?_
  refine m_callVI (pc := 25) (y := yX7_job0) (κ := 7) (As := [.int p1, .int 5]) (rest := [.int r8]) C hK hP hS hl.1 ⟨Nat.zero_le _, Nat.zero_le _⟩ (c_X7_job0 h) rfl rfl hk2 (by decide) rfl q_1031 q_1033 q_s43 q_8 q_1034 ⟨rfl, rfl⟩ yd_X7_job0 ⟨Nat.le_of_ble_eq_true rfl, Nat.le_of_ble_eq_true rfl⟩ (Nat.le_of_ble_eq_true rfl) dX7_isAhead_25 (fun r10 M9 H locs h hP hS => ?_)
  refine lv_isub (pc := 28) hx hb dX7_isAhead_28 ?_
  refine lv_topi (fun v11 ev11 => ?_)
  replace h := h v11 ev11
  refine lv_istore (lv' := [(4, .int v11), (3, .int v6), (0, .ref (b + i)), (1, .int p1), (2, .int p2)]) (pc := 29) hx hb dX7_isAhead_29 hl (by decide) rfl (fun ls hl => ?_)
  refine lv_iload_n (pc := 31) hx hb dX7_isAhead_31 rfl (lv_at hl 1 rfl) ?_
  refine m_joinZ (z := if 0 < v6 then true else (if ¬ v6 = 0 then false else (if 0 < v11 then true else (if ¬ v11 = 0 then false else (if p2 ≤ p1 then false else true))))) (jp := 59) (rest := []) ?_ (fun hJ => ?_)
  rotate_left
  · skip
    refine lv_if_gt (tgt := 54) (pc := 32) hx hb dX7_isAhead_32 (by decide) (fun c32 => ?_) (fun c32 => ?_)
    · skip
      refine lv_iconst (v := 1) (pc := 54) hx hb dX7_isAhead_54 (by decide) ?_
      refine lv_goto (tgt := 59) (pc := 55) hx hb dX7_isAhead_55 (by decide) ?_
      exact hJ _ true rfl (by rw [if_pos c32])
    · skip
      refine lv_iload_n (pc := 35) hx hb dX7_isAhead_35 rfl (lv_at hl 1 rfl) ?_
      refine lv_if_ne (tgt := 58) (pc := 36) hx hb dX7_isAhead_36 (by decide) (fun c36 => ?_) (fun c36 => ?_)
      · skip
        refine lv_iconst (v := 0) (pc := 58) hx hb dX7_isAhead_58 (by decide) ?_
        exact hJ _ false rfl (by rw [if_neg c32, if_pos c36])
      · skip
        refine lv_iload (pc := 39) hx hb dX7_isAhead_39 (lv_at hl 0 rfl) ?_
        refine lv_if_gt (tgt := 54) (pc := 41) hx hb dX7_isAhead_41 (by decide) (fun c41 => ?_) (fun c41 => ?_)
        · skip
          refine lv_iconst (v := 1) (pc := 54) hx hb dX7_isAhead_54 (by decide) ?_
          refine lv_goto (tgt := 59) (pc := 55) hx hb dX7_isAhead_55 (by decide) ?_
          exact hJ _ true rfl (by rw [if_neg c32, if_neg (fun hn => hn c36), if_pos c41])
        · skip
          refine lv_iload (pc := 44) hx hb dX7_isAhead_44 (lv_at hl 0 rfl) ?_
          refine lv_if_ne (tgt := 58) (pc := 46) hx hb dX7_isAhead_46 (by decide) (fun c46 => ?_) (fun c46 => ?_)
          · skip
            refine lv_iconst (v := 0) (pc := 58) hx hb dX7_isAhead_58 (by decide) ?_
            exact hJ _ false rfl (by rw [if_neg c32, if_neg (fun hn => hn c36), if_neg c41, if_pos c46])
          · skip
            refine lv_iload_n (pc := 49) hx hb dX7_isAhead_49 rfl (lv_at hl 3 rfl) ?_
            refine lv_iload_n (pc := 50) hx hb dX7_isAhead_50 rfl (lv_at hl 4 rfl) ?_
            refine lv_icmp_ge (tgt := 58) (pc := 51) hx hb dX7_isAhead_51 (by decide) (fun c51 => ?_) (fun c51 => ?_)
            · skip
              refine lv_iconst (v := 0) (pc := 58) hx hb dX7_isAhead_58 (by decide) ?_
              exact hJ _ false rfl (by rw [if_neg c32, if_neg (fun hn => hn c36), if_neg c41, if_neg (fun hn => hn c46), if_pos c51])
            · skip
              refine lv_iconst (v := 1) (pc := 54) hx hb dX7_isAhead_54 (by decide) ?_
              refine lv_goto (tgt := 59) (pc := 55) hx hb dX7_isAhead_55 (by decide) ?_
              exact hJ _ true rfl (by rw [if_neg c32, if_neg (fun hn => hn c36), if_neg c41, if_neg (fun hn => hn c46), if_neg c51])
  exact m_zret (v := if 0 < v6 then true else (if ¬ v6 = 0 then false else (if 0 < v11 then true else (if ¬ v11 = 0 then false else (if p2 ≤ p1 then false else true))))) (pc := 59) C hr hlk hP hS dX7_isAhead_59 h
/-! ForgeHeatsModel.rankOf (I)I -/
def wpB_X7_rankOf_4 (n : Nat) (P : Int32 → Mem → Prop) (R_ : Mem → Nat → Int32 → Int32 → Int32 → Prop) (M : Mem) (x0 : Nat) (x1 : Int32) (x2 : Int32) (x3 : Int32) : Prop := m_tp n x0 7 ∧ (∃ j2 : Nat, M.2.1 x0 1 = some j2 ∧ (m_tp n j2 8 ∧ (vp_in 5 (m_len j2) ∧ ((((M.1 j2 (5 : Int32).toNatClampNeg) ≤ x3 → P x2 M) ∧ (¬ (M.1 j2 (5 : Int32).toNatClampNeg) ≤ x3 → ((x3 = x1 → ∀ v5 : Int32, v5 = (x2 + 0) → (∀ v6 : Int32, v6 = x3 + 1 → (R_ M x0 x1 v5 v6))) ∧ (¬ x3 = x1 → wp_X7_isAhead n M x0 x3 x1 (fun z8 M7 => ∀ v9 : Int32, v9 = (x2 + (bI (if z8 = false then false else true))) → (∀ v10 : Int32, v10 = x3 + 1 → (R_ M7 x0 x1 v9 v10)))))))))))
def wpL_X7_rankOf_4 (n : Nat) (P : Int32 → Mem → Prop) : Nat → Mem → Nat → Int32 → Int32 → Int32 → Prop
  | 0 => fun _ _ _ _ _ => False
  | f + 1 => fun M x0 x1 x2 x3 => wpB_X7_rankOf_4 n P (wpL_X7_rankOf_4 n P f) M x0 x1 x2 x3
def wp_X7_rankOf (n : Nat) (M : Mem) (i : Nat) (p1 : Int32) (P : Int32 → Mem → Prop) : Prop := ∃ f : Nat, wpL_X7_rankOf_4 n P f M i p1 0 0
abbrev rm_X7_rankOf : Room := { frames := 2, cells := 0, slots := 0, locals := 46 }
set_option maxHeartbeats 4000000 in
set_option maxRecDepth 100000 in
theorem c_X7_rankOf {l : Launch} {D : va_G} {cA : Nat → ClassId} {b n : Nat} {M : Mem} {i : Nat} {p1 : Int32} {P : Int32 → Mem → Prop} (h : wp_X7_rankOf n M i p1 P) : m_C l D cA b n n M yX7_rankOf cX7_rankOf 4 (some .int) rm_X7_rankOf 0 0 [.ref (b + i), .int p1] (rI P) := by
  refine m_enter (by decide) (Nat.le_of_ble_eq_true rfl) (fun p e s m below meth c C hr hlk hnm hK hP hS ls hl => ?_)
  have hx := C.1
  have hb := C.2.1
  have hl : lv_has ls 4 [(0, .ref (b + i)), (1, .int p1)] := hl
  have L4 : ∀ f : Nat, ∀ (M : Mem) (H : Heap) (locs : List Loc) (ls : Array Slot) (x0 : Nat) (x1 : Int32) (x2 : Int32) (x3 : Int32), wpL_X7_rankOf_4 n P f M x0 x1 x2 x3 → m_H D cA b n M H → va_S (m_A b) s.heap H locs → lv_has ls 4 [(0, .ref (b + x0)), (1, .int x1), (2, .int x2), (3, .int x3)] → W p l e rm_X7_rankOf s m ([.ref (b + i), .int p1] : List Value).toArray below meth c H locs 0 0 (MQ below (m_Q D cA b n (rI P)) ([.ref (b + i), .int p1] : List Value).toArray s 0 0 (m_A b)) (F0 m 4 ls []) := by
    clear h
    intro f
    induction f with
    | zero => intro M H locs ls x0 x1 x2 x3 h; exact h.elim
    | succ f ih =>
      intro M H locs ls x0 x1 x2 x3 h hP hS hl
      have h : wpB_X7_rankOf_4 n P (wpL_X7_rankOf_4 n P f) M x0 x1 x2 x3 := h
      unfold wpB_X7_rankOf_4 at h
      refine lv_iload_n (pc := 4) hx hb dX7_rankOf_4 rfl (lv_at hl 3 rfl) ?_
      refine lv_aload_n (pc := 5) hx hb dX7_rankOf_5 rfl (lv_at hl 0 rfl) ?_
      obtain ⟨hk1, h⟩ := h
      obtain ⟨j2, hj2, h⟩ := h
      refine gX7_7 (pc := 6) C hK hP hk1 hj2 dX7_rankOf_6 ?_
      refine lv_iconst (v := 5) (pc := 9) hx hb dX7_rankOf_9 (by decide) ?_
      obtain ⟨hk3, h⟩ := h
      obtain ⟨hi4, h⟩ := h
      refine m_iald (pc := 10) C hK hP hk3 hi4 dX7_rankOf_10 ?_
      refine lv_icmp_ge (tgt := 42) (pc := 11) hx hb dX7_rankOf_11 (by decide) (fun c11 => ?_) (fun c11 => ?_)
      · replace h := h.1 c11
        refine lv_iload_n (pc := 42) hx hb dX7_rankOf_42 rfl (lv_at hl 2 rfl) ?_
        exact m_iret (v := x2) (pc := 43) C hr hlk hP hS dX7_rankOf_43 h
      · replace h := h.2 c11
        refine lv_iload_n (pc := 14) hx hb dX7_rankOf_14 rfl (lv_at hl 2 rfl) ?_
        refine lv_iload_n (pc := 15) hx hb dX7_rankOf_15 rfl (lv_at hl 3 rfl) ?_
        refine lv_iload_n (pc := 16) hx hb dX7_rankOf_16 rfl (lv_at hl 1 rfl) ?_
        refine lv_icmp_eq (tgt := 33) (pc := 17) hx hb dX7_rankOf_17 (by decide) (fun c17 => ?_) (fun c17 => ?_)
        · replace h := h.1 c17
          refine lv_iconst (v := 0) (pc := 33) hx hb dX7_rankOf_33 (by decide) ?_
          refine lv_iadd (pc := 34) hx hb dX7_rankOf_34 ?_
          refine lv_topi (fun v5 ev5 => ?_)
          replace h := h v5 ev5
          refine lv_istore_n (lv' := [(2, .int v5), (0, .ref (b + x0)), (1, .int x1), (3, .int x3)]) (pc := 35) hx hb dX7_rankOf_35 rfl hl (by decide) rfl (fun ls hl => ?_)
          obtain ⟨v6, ev6⟩ : ∃ y : Int32, y = x3 + 1 := ⟨_, rfl⟩
          replace h := h v6 ev6
          refine lv_iinc (v := v6) (lv' := [(3, .int v6), (2, .int v5), (0, .ref (b + x0)), (1, .int x1)]) (pc := 36) hx hb dX7_rankOf_36 hl (k := 3) rfl (by rw [ev6]; rfl) (by decide) rfl (fun ls hl => ?_)
          refine lv_goto (tgt := 4) (pc := 39) hx hb dX7_rankOf_39 (by decide) ?_
          exact ih _ _ _ _ _ _ _ _ h hP hS (lv_sub hl [2, 3, 1, 0] rfl)
        · replace h := h.2 c17
          refine lv_aload_n (pc := 20) hx hb dX7_rankOf_20 rfl (lv_at hl 0 rfl) ?_
          refine lv_iload_n (pc := 21) hx hb dX7_rankOf_21 rfl (lv_at hl 3 rfl) ?_
          refine lv_iload_n (pc := 22) hx hb dX7_rankOf_22 rfl (lv_at hl 1 rfl) ?_
          refine m_callVZ (pc := 23) (y := yX7_isAhead) (κ := 7) (As := [.int x3, .int x1]) (rest := [.int x2]) C hK hP hS hl.1 ⟨Nat.zero_le _, Nat.zero_le _⟩ (c_X7_isAhead h) rfl rfl hk1 (by decide) rfl q_1067 q_1069 q_s51 q_8 q_1070 ⟨rfl, rfl⟩ yd_X7_isAhead ⟨Nat.le_of_ble_eq_true rfl, Nat.le_of_ble_eq_true rfl⟩ (Nat.le_of_ble_eq_true rfl) dX7_rankOf_23 (fun z8 M7 H locs h hP hS => ?_)
          refine m_joinZ (z := if z8 = false then false else true) (jp := 34) (rest := [.int x2]) ?_ (fun hJ => ?_)
          rotate_left
          · skip
            refine lv_if_eq (tgt := 33) (pc := 26) hx hb dX7_rankOf_26 (by decide) (fun c26 => ?_) (fun c26 => ?_)
            · skip
              refine lv_iconst (v := 0) (pc := 33) hx hb dX7_rankOf_33 (by decide) ?_
              exact hJ _ false rfl (by rw [if_pos (bZ0 c26)])
            · skip
              refine lv_iconst (v := 1) (pc := 29) hx hb dX7_rankOf_29 (by decide) ?_
              refine lv_goto (tgt := 34) (pc := 30) hx hb dX7_rankOf_30 (by decide) ?_
              exact hJ _ true rfl (by rw [if_neg (by rw [(bZ1 c26)]; decide)])
          refine lv_iadd (pc := 34) hx hb dX7_rankOf_34 ?_
          refine lv_topi (fun v9 ev9 => ?_)
          replace h := h v9 ev9
          refine lv_istore_n (lv' := [(2, .int v9), (0, .ref (b + x0)), (1, .int x1), (3, .int x3)]) (pc := 35) hx hb dX7_rankOf_35 rfl hl (by decide) rfl (fun ls hl => ?_)
          obtain ⟨v10, ev10⟩ : ∃ y : Int32, y = x3 + 1 := ⟨_, rfl⟩
          replace h := h v10 ev10
          refine lv_iinc (v := v10) (lv' := [(3, .int v10), (2, .int v9), (0, .ref (b + x0)), (1, .int x1)]) (pc := 36) hx hb dX7_rankOf_36 hl (k := 3) rfl (by rw [ev10]; rfl) (by decide) rfl (fun ls hl => ?_)
          refine lv_goto (tgt := 4) (pc := 39) hx hb dX7_rankOf_39 (by decide) ?_
          exact ih _ _ _ _ _ _ _ _ h hP hS (lv_sub hl [2, 3, 1, 0] rfl)
  unfold wp_X7_rankOf at h
  refine lv_iconst (v := 0) (pc := 0) hx hb dX7_rankOf_0 (by decide) ?_
  refine lv_istore_n (lv' := [(2, .int 0), (0, .ref (b + i)), (1, .int p1)]) (pc := 1) hx hb dX7_rankOf_1 rfl hl (by decide) rfl (fun ls hl => ?_)
  refine lv_iconst (v := 0) (pc := 2) hx hb dX7_rankOf_2 (by decide) ?_
  refine lv_istore_n (lv' := [(3, .int 0), (2, .int 0), (0, .ref (b + i)), (1, .int p1)]) (pc := 3) hx hb dX7_rankOf_3 rfl hl (by decide) rfl (fun ls hl => ?_)
  obtain ⟨f, h⟩ := h
  exact L4 f _ _ _ _ _ _ _ _ h hP hS (lv_sub hl [2, 3, 1, 0] rfl)
/-! ForgeHeatsModel.jobAt (I)I -/
def wpB_X7_jobAt_2 (n : Nat) (P : Int32 → Mem → Prop) (R_ : Mem → Nat → Int32 → Int32 → Prop) (M : Mem) (x0 : Nat) (x1 : Int32) (x2 : Int32) : Prop := m_tp n x0 7 ∧ (∃ j2 : Nat, M.2.1 x0 1 = some j2 ∧ (m_tp n j2 8 ∧ (vp_in 5 (m_len j2) ∧ ((((M.1 j2 (5 : Int32).toNatClampNeg) ≤ x2 → P (-1) M) ∧ (¬ (M.1 j2 (5 : Int32).toNatClampNeg) ≤ x2 → wp_X7_rankOf n M x0 x2 (fun r6 M5 => ((¬ r6 = x1 → ∀ v7 : Int32, v7 = x2 + 1 → (R_ M5 x0 x1 v7)) ∧ (r6 = x1 → P x2 M5)))))))))
def wpL_X7_jobAt_2 (n : Nat) (P : Int32 → Mem → Prop) : Nat → Mem → Nat → Int32 → Int32 → Prop
  | 0 => fun _ _ _ _ => False
  | f + 1 => fun M x0 x1 x2 => wpB_X7_jobAt_2 n P (wpL_X7_jobAt_2 n P f) M x0 x1 x2
def wp_X7_jobAt (n : Nat) (M : Mem) (i : Nat) (p1 : Int32) (P : Int32 → Mem → Prop) : Prop := ∃ f : Nat, wpL_X7_jobAt_2 n P f M i p1 0
abbrev rm_X7_jobAt : Room := { frames := 3, cells := 0, slots := 0, locals := 69 }
set_option maxHeartbeats 4000000 in
set_option maxRecDepth 100000 in
theorem c_X7_jobAt {l : Launch} {D : va_G} {cA : Nat → ClassId} {b n : Nat} {M : Mem} {i : Nat} {p1 : Int32} {P : Int32 → Mem → Prop} (h : wp_X7_jobAt n M i p1 P) : m_C l D cA b n n M yX7_jobAt cX7_jobAt 3 (some .int) rm_X7_jobAt 0 0 [.ref (b + i), .int p1] (rI P) := by
  refine m_enter (by decide) (Nat.le_of_ble_eq_true rfl) (fun p e s m below meth c C hr hlk hnm hK hP hS ls hl => ?_)
  have hx := C.1
  have hb := C.2.1
  have hl : lv_has ls 3 [(0, .ref (b + i)), (1, .int p1)] := hl
  have L2 : ∀ f : Nat, ∀ (M : Mem) (H : Heap) (locs : List Loc) (ls : Array Slot) (x0 : Nat) (x1 : Int32) (x2 : Int32), wpL_X7_jobAt_2 n P f M x0 x1 x2 → m_H D cA b n M H → va_S (m_A b) s.heap H locs → lv_has ls 3 [(0, .ref (b + x0)), (1, .int x1), (2, .int x2)] → W p l e rm_X7_jobAt s m ([.ref (b + i), .int p1] : List Value).toArray below meth c H locs 0 0 (MQ below (m_Q D cA b n (rI P)) ([.ref (b + i), .int p1] : List Value).toArray s 0 0 (m_A b)) (F0 m 2 ls []) := by
    clear h
    intro f
    induction f with
    | zero => intro M H locs ls x0 x1 x2 h; exact h.elim
    | succ f ih =>
      intro M H locs ls x0 x1 x2 h hP hS hl
      have h : wpB_X7_jobAt_2 n P (wpL_X7_jobAt_2 n P f) M x0 x1 x2 := h
      unfold wpB_X7_jobAt_2 at h
      refine lv_iload_n (pc := 2) hx hb dX7_jobAt_2 rfl (lv_at hl 2 rfl) ?_
      refine lv_aload_n (pc := 3) hx hb dX7_jobAt_3 rfl (lv_at hl 0 rfl) ?_
      obtain ⟨hk1, h⟩ := h
      obtain ⟨j2, hj2, h⟩ := h
      refine gX7_7 (pc := 4) C hK hP hk1 hj2 dX7_jobAt_4 ?_
      refine lv_iconst (v := 5) (pc := 7) hx hb dX7_jobAt_7 (by decide) ?_
      obtain ⟨hk3, h⟩ := h
      obtain ⟨hi4, h⟩ := h
      refine m_iald (pc := 8) C hK hP hk3 hi4 dX7_jobAt_8 ?_
      refine lv_icmp_ge (tgt := 29) (pc := 9) hx hb dX7_jobAt_9 (by decide) (fun c9 => ?_) (fun c9 => ?_)
      · replace h := h.1 c9
        refine lv_iconst (v := -1) (pc := 29) hx hb dX7_jobAt_29 (by decide) ?_
        exact m_iret (v := (-1)) (pc := 30) C hr hlk hP hS dX7_jobAt_30 h
      · replace h := h.2 c9
        refine lv_aload_n (pc := 12) hx hb dX7_jobAt_12 rfl (lv_at hl 0 rfl) ?_
        refine lv_iload_n (pc := 13) hx hb dX7_jobAt_13 rfl (lv_at hl 2 rfl) ?_
        refine m_callVI (pc := 14) (y := yX7_rankOf) (κ := 7) (As := [.int x2]) (rest := []) C hK hP hS hl.1 ⟨Nat.zero_le _, Nat.zero_le _⟩ (c_X7_rankOf h) rfl rfl hk1 (by decide) rfl q_1063 q_1065 q_s50 q_8 q_1066 ⟨rfl, rfl⟩ yd_X7_rankOf ⟨Nat.le_of_ble_eq_true rfl, Nat.le_of_ble_eq_true rfl⟩ (Nat.le_of_ble_eq_true rfl) dX7_jobAt_14 (fun r6 M5 H locs h hP hS => ?_)
        refine lv_iload_n (pc := 17) hx hb dX7_jobAt_17 rfl (lv_at hl 1 rfl) ?_
        refine lv_icmp_ne (tgt := 23) (pc := 18) hx hb dX7_jobAt_18 (by decide) (fun c18 => ?_) (fun c18 => ?_)
        · replace h := h.1 c18
          obtain ⟨v7, ev7⟩ : ∃ y : Int32, y = x2 + 1 := ⟨_, rfl⟩
          replace h := h v7 ev7
          refine lv_iinc (v := v7) (lv' := [(2, .int v7), (0, .ref (b + x0)), (1, .int x1)]) (pc := 23) hx hb dX7_jobAt_23 hl (k := 2) rfl (by rw [ev7]; rfl) (by decide) rfl (fun ls hl => ?_)
          refine lv_goto (tgt := 2) (pc := 26) hx hb dX7_jobAt_26 (by decide) ?_
          exact ih _ _ _ _ _ _ _ h hP hS (lv_sub hl [1, 2, 0] rfl)
        · replace h := h.2 c18
          refine lv_iload_n (pc := 21) hx hb dX7_jobAt_21 rfl (lv_at hl 2 rfl) ?_
          exact m_iret (v := x2) (pc := 22) C hr hlk hP hS dX7_jobAt_22 h
  unfold wp_X7_jobAt at h
  refine lv_iconst (v := 0) (pc := 0) hx hb dX7_jobAt_0 (by decide) ?_
  refine lv_istore_n (lv' := [(2, .int 0), (0, .ref (b + i)), (1, .int p1)]) (pc := 1) hx hb dX7_jobAt_1 rfl hl (by decide) rfl (fun ls hl => ?_)
  obtain ⟨f, h⟩ := h
  exact L2 f _ _ _ _ _ _ _ h hP hS (lv_sub hl [1, 2, 0] rfl)
/-! ForgeHeatsModel.jobOn (I)I -/
def wp_X7_jobOn (n : Nat) (M : Mem) (i : Nat) (p1 : Int32) (P : Int32 → Mem → Prop) : Prop := m_tp n i 7 ∧ (wp_X7_billet0 n M i p1 0 (fun r3 M1 => ((¬ r3 = 0 → wp_X7_billet0 n M1 i p1 0 (fun r5 M4 => wp_X7_jobWith n M4 i (r5 - 1) (fun r7 M6 => P r7 M6))) ∧ (r3 = 0 → P (-1) M1))))
abbrev rm_X7_jobOn : Room := { frames := 2, cells := 0, slots := 0, locals := 44 }
set_option maxHeartbeats 4000000 in
set_option maxRecDepth 100000 in
theorem c_X7_jobOn {l : Launch} {D : va_G} {cA : Nat → ClassId} {b n : Nat} {M : Mem} {i : Nat} {p1 : Int32} {P : Int32 → Mem → Prop} (h : wp_X7_jobOn n M i p1 P) : m_C l D cA b n n M yX7_jobOn cX7_jobOn 2 (some .int) rm_X7_jobOn 0 0 [.ref (b + i), .int p1] (rI P) := by
  refine m_enter (by decide) (Nat.le_of_ble_eq_true rfl) (fun p e s m below meth c C hr hlk hnm hK hP hS ls hl => ?_)
  have hx := C.1
  have hb := C.2.1
  have hl : lv_has ls 2 [(0, .ref (b + i)), (1, .int p1)] := hl
  unfold wp_X7_jobOn at h
  refine lv_aload_n (pc := 0) hx hb dX7_jobOn_0 rfl (lv_at hl 0 rfl) ?_
  refine lv_iload_n (pc := 1) hx hb dX7_jobOn_1 rfl (lv_at hl 1 rfl) ?_
  refine lv_iconst (v := 0) (pc := 2) hx hb dX7_jobOn_2 (by decide) ?_
  obtain ⟨hk2, h⟩ := h
  refine m_callVI (pc := 3) (y := yX7_billet0) (κ := 7) (As := [.int p1, .int 0]) (rest := []) C hK hP hS hl.1 ⟨Nat.zero_le _, Nat.zero_le _⟩ (c_X7_billet0 h) rfl rfl hk2 (by decide) rfl q_1039 q_1041 q_s45 q_8 q_1042 ⟨rfl, rfl⟩ yd_X7_billet0 ⟨Nat.le_of_ble_eq_true rfl, Nat.le_of_ble_eq_true rfl⟩ (Nat.le_of_ble_eq_true rfl) dX7_jobOn_3 (fun r3 M1 H locs h hP hS => ?_)
  refine lv_if_ne (tgt := 13) (pc := 6) hx hb dX7_jobOn_6 (by decide) (fun c6 => ?_) (fun c6 => ?_)
  · replace h := h.1 c6
    refine lv_aload_n (pc := 13) hx hb dX7_jobOn_13 rfl (lv_at hl 0 rfl) ?_
    refine lv_aload_n (pc := 14) hx hb dX7_jobOn_14 rfl (lv_at hl 0 rfl) ?_
    refine lv_iload_n (pc := 15) hx hb dX7_jobOn_15 rfl (lv_at hl 1 rfl) ?_
    refine lv_iconst (v := 0) (pc := 16) hx hb dX7_jobOn_16 (by decide) ?_
    refine m_callVI (pc := 17) (y := yX7_billet0) (κ := 7) (As := [.int p1, .int 0]) (rest := [.ref (b + i)]) C hK hP hS hl.1 ⟨Nat.zero_le _, Nat.zero_le _⟩ (c_X7_billet0 h) rfl rfl hk2 (by decide) rfl q_1039 q_1041 q_s45 q_8 q_1042 ⟨rfl, rfl⟩ yd_X7_billet0 ⟨Nat.le_of_ble_eq_true rfl, Nat.le_of_ble_eq_true rfl⟩ (Nat.le_of_ble_eq_true rfl) dX7_jobOn_17 (fun r5 M4 H locs h hP hS => ?_)
    refine lv_iconst (v := 1) (pc := 20) hx hb dX7_jobOn_20 (by decide) ?_
    refine lv_isub (pc := 21) hx hb dX7_jobOn_21 ?_
    refine m_callVI (pc := 22) (y := yX7_jobWith) (κ := 7) (As := [.int (r5 - 1)]) (rest := []) C hK hP hS hl.1 ⟨Nat.zero_le _, Nat.zero_le _⟩ (c_X7_jobWith h) rfl rfl hk2 (by decide) rfl q_1027 q_1029 q_s42 q_8 q_1030 ⟨rfl, rfl⟩ yd_X7_jobWith ⟨Nat.le_of_ble_eq_true rfl, Nat.le_of_ble_eq_true rfl⟩ (Nat.le_of_ble_eq_true rfl) dX7_jobOn_22 (fun r7 M6 H locs h hP hS => ?_)
    exact m_iret (v := r7) (pc := 25) C hr hlk hP hS dX7_jobOn_25 h
  · replace h := h.2 c6
    refine lv_iconst (v := -1) (pc := 9) hx hb dX7_jobOn_9 (by decide) ?_
    refine lv_goto (tgt := 25) (pc := 10) hx hb dX7_jobOn_10 (by decide) ?_
    exact m_iret (v := (-1)) (pc := 25) C hr hlk hP hS dX7_jobOn_25 h
/-! ForgeHeatsModel.billetsOf (III)I -/
def wpB_X7_billetsOf_6 (n : Nat) (P : Int32 → Mem → Prop) (R_ : Mem → Nat → Int32 → Int32 → Int32 → Int32 → Prop) (M : Mem) (x0 : Nat) (x1 : Int32) (x3 : Int32) (x4 : Int32) (x5 : Int32) : Prop := ((x3 < x5 → P x4 M) ∧ (¬ x3 < x5 → m_tp n x0 7 ∧ (wp_X7_jobOn n M x0 x5 (fun r3 M1 => ∀ v4 : Int32, v4 = (x4 + (bI (if ¬ r3 = x1 then false else true))) → (∀ v5 : Int32, v5 = x5 + 1 → (R_ M1 x0 x1 x3 v4 v5))))))
def wpL_X7_billetsOf_6 (n : Nat) (P : Int32 → Mem → Prop) : Nat → Mem → Nat → Int32 → Int32 → Int32 → Int32 → Prop
  | 0 => fun _ _ _ _ _ _ => False
  | f + 1 => fun M x0 x1 x3 x4 x5 => wpB_X7_billetsOf_6 n P (wpL_X7_billetsOf_6 n P f) M x0 x1 x3 x4 x5
def wp_X7_billetsOf (n : Nat) (M : Mem) (i : Nat) (p1 : Int32) (p2 : Int32) (p3 : Int32) (P : Int32 → Mem → Prop) : Prop := ∃ f : Nat, wpL_X7_billetsOf_6 n P f M i p1 p3 0 p2
abbrev rm_X7_billetsOf : Room := { frames := 3, cells := 0, slots := 0, locals := 65 }
set_option maxHeartbeats 4000000 in
set_option maxRecDepth 100000 in
theorem c_X7_billetsOf {l : Launch} {D : va_G} {cA : Nat → ClassId} {b n : Nat} {M : Mem} {i : Nat} {p1 : Int32} {p2 : Int32} {p3 : Int32} {P : Int32 → Mem → Prop} (h : wp_X7_billetsOf n M i p1 p2 p3 P) : m_C l D cA b n n M yX7_billetsOf cX7_billetsOf 6 (some .int) rm_X7_billetsOf 0 0 [.ref (b + i), .int p1, .int p2, .int p3] (rI P) := by
  refine m_enter (by decide) (Nat.le_of_ble_eq_true rfl) (fun p e s m below meth c C hr hlk hnm hK hP hS ls hl => ?_)
  have hx := C.1
  have hb := C.2.1
  have hl : lv_has ls 6 [(0, .ref (b + i)), (1, .int p1), (2, .int p2), (3, .int p3)] := hl
  have L6 : ∀ f : Nat, ∀ (M : Mem) (H : Heap) (locs : List Loc) (ls : Array Slot) (x0 : Nat) (x1 : Int32) (x3 : Int32) (x4 : Int32) (x5 : Int32), wpL_X7_billetsOf_6 n P f M x0 x1 x3 x4 x5 → m_H D cA b n M H → va_S (m_A b) s.heap H locs → lv_has ls 6 [(0, .ref (b + x0)), (1, .int x1), (3, .int x3), (4, .int x4), (5, .int x5)] → W p l e rm_X7_billetsOf s m ([.ref (b + i), .int p1, .int p2, .int p3] : List Value).toArray below meth c H locs 0 0 (MQ below (m_Q D cA b n (rI P)) ([.ref (b + i), .int p1, .int p2, .int p3] : List Value).toArray s 0 0 (m_A b)) (F0 m 6 ls []) := by
    clear h
    intro f
    induction f with
    | zero => intro M H locs ls x0 x1 x3 x4 x5 h; exact h.elim
    | succ f ih =>
      intro M H locs ls x0 x1 x3 x4 x5 h hP hS hl
      have h : wpB_X7_billetsOf_6 n P (wpL_X7_billetsOf_6 n P f) M x0 x1 x3 x4 x5 := h
      unfold wpB_X7_billetsOf_6 at h
      refine lv_iload (pc := 6) hx hb dX7_billetsOf_6 (lv_at hl 4 rfl) ?_
      refine lv_iload_n (pc := 8) hx hb dX7_billetsOf_8 rfl (lv_at hl 2 rfl) ?_
      refine lv_icmp_gt (tgt := 38) (pc := 9) hx hb dX7_billetsOf_9 (by decide) (fun c9 => ?_) (fun c9 => ?_)
      · replace h := h.1 c9
        refine lv_iload (pc := 38) hx hb dX7_billetsOf_38 (lv_at hl 3 rfl) ?_
        exact m_iret (v := x4) (pc := 40) C hr hlk hP hS dX7_billetsOf_40 h
      · replace h := h.2 c9
        refine lv_iload (pc := 12) hx hb dX7_billetsOf_12 (lv_at hl 3 rfl) ?_
        refine lv_aload_n (pc := 14) hx hb dX7_billetsOf_14 rfl (lv_at hl 0 rfl) ?_
        refine lv_iload (pc := 15) hx hb dX7_billetsOf_15 (lv_at hl 4 rfl) ?_
        obtain ⟨hk2, h⟩ := h
        refine m_callVI (pc := 17) (y := yX7_jobOn) (κ := 7) (As := [.int x5]) (rest := [.int x4]) C hK hP hS hl.1 ⟨Nat.zero_le _, Nat.zero_le _⟩ (c_X7_jobOn h) rfl rfl hk2 (by decide) rfl q_1035 q_1037 q_s44 q_8 q_1038 ⟨rfl, rfl⟩ yd_X7_jobOn ⟨Nat.le_of_ble_eq_true rfl, Nat.le_of_ble_eq_true rfl⟩ (Nat.le_of_ble_eq_true rfl) dX7_billetsOf_17 (fun r3 M1 H locs h hP hS => ?_)
        refine lv_iload_n (pc := 20) hx hb dX7_billetsOf_20 rfl (lv_at hl 1 rfl) ?_
        refine m_joinZ (z := if ¬ r3 = x1 then false else true) (jp := 29) (rest := [.int x4]) ?_ (fun hJ => ?_)
        rotate_left
        · skip
          refine lv_icmp_ne (tgt := 28) (pc := 21) hx hb dX7_billetsOf_21 (by decide) (fun c21 => ?_) (fun c21 => ?_)
          · skip
            refine lv_iconst (v := 0) (pc := 28) hx hb dX7_billetsOf_28 (by decide) ?_
            exact hJ _ false rfl (by rw [if_pos c21])
          · skip
            refine lv_iconst (v := 1) (pc := 24) hx hb dX7_billetsOf_24 (by decide) ?_
            refine lv_goto (tgt := 29) (pc := 25) hx hb dX7_billetsOf_25 (by decide) ?_
            exact hJ _ true rfl (by rw [if_neg (fun hn => hn c21)])
        refine lv_iadd (pc := 29) hx hb dX7_billetsOf_29 ?_
        refine lv_topi (fun v4 ev4 => ?_)
        replace h := h v4 ev4
        refine lv_istore (lv' := [(4, .int v4), (0, .ref (b + x0)), (1, .int x1), (3, .int x3), (5, .int x5)]) (pc := 30) hx hb dX7_billetsOf_30 hl (by decide) rfl (fun ls hl => ?_)
        obtain ⟨v5, ev5⟩ : ∃ y : Int32, y = x5 + 1 := ⟨_, rfl⟩
        replace h := h v5 ev5
        refine lv_iinc (v := v5) (lv' := [(5, .int v5), (4, .int v4), (0, .ref (b + x0)), (1, .int x1), (3, .int x3)]) (pc := 32) hx hb dX7_billetsOf_32 hl (k := 4) rfl (by rw [ev5]; rfl) (by decide) rfl (fun ls hl => ?_)
        refine lv_goto (tgt := 6) (pc := 35) hx hb dX7_billetsOf_35 (by decide) ?_
        exact ih _ _ _ _ _ _ _ _ _ h hP hS (lv_sub hl [2, 3, 4, 1, 0] rfl)
  unfold wp_X7_billetsOf at h
  refine lv_iconst (v := 0) (pc := 0) hx hb dX7_billetsOf_0 (by decide) ?_
  refine lv_istore (lv' := [(4, .int 0), (0, .ref (b + i)), (1, .int p1), (2, .int p2), (3, .int p3)]) (pc := 1) hx hb dX7_billetsOf_1 hl (by decide) rfl (fun ls hl => ?_)
  refine lv_iload_n (pc := 3) hx hb dX7_billetsOf_3 rfl (lv_at hl 3 rfl) ?_
  refine lv_istore (lv' := [(5, .int p2), (4, .int 0), (0, .ref (b + i)), (1, .int p1), (2, .int p2), (3, .int p3)]) (pc := 4) hx hb dX7_billetsOf_4 hl (by decide) rfl (fun ls hl => ?_)
  obtain ⟨f, h⟩ := h
  exact L6 f _ _ _ _ _ _ _ _ _ h hP hS (lv_sub hl [2, 3, 5, 1, 0] rfl)
/-! ForgeHeatsModel.lacks (I)I -/
def wp_X7_lacks (n : Nat) (M : Mem) (i : Nat) (p1 : Int32) (P : Int32 → Mem → Prop) : Prop := m_tp n i 7 ∧ (wp_X7_job0 n M i p1 3 (fun r3 M1 => wp_X7_job0 n M1 i p1 4 (fun r5 M4 => wp_X7_billetsOf n M4 i p1 0 6 (fun r7 M6 => P ((r3 - r5) - r7) M6))))
abbrev rm_X7_lacks : Room := { frames := 4, cells := 0, slots := 0, locals := 90 }
set_option maxHeartbeats 4000000 in
set_option maxRecDepth 100000 in
theorem c_X7_lacks {l : Launch} {D : va_G} {cA : Nat → ClassId} {b n : Nat} {M : Mem} {i : Nat} {p1 : Int32} {P : Int32 → Mem → Prop} (h : wp_X7_lacks n M i p1 P) : m_C l D cA b n n M yX7_lacks cX7_lacks 2 (some .int) rm_X7_lacks 0 0 [.ref (b + i), .int p1] (rI P) := by
  refine m_enter (by decide) (Nat.le_of_ble_eq_true rfl) (fun p e s m below meth c C hr hlk hnm hK hP hS ls hl => ?_)
  have hx := C.1
  have hb := C.2.1
  have hl : lv_has ls 2 [(0, .ref (b + i)), (1, .int p1)] := hl
  unfold wp_X7_lacks at h
  refine lv_aload_n (pc := 0) hx hb dX7_lacks_0 rfl (lv_at hl 0 rfl) ?_
  refine lv_iload_n (pc := 1) hx hb dX7_lacks_1 rfl (lv_at hl 1 rfl) ?_
  refine lv_iconst (v := 3) (pc := 2) hx hb dX7_lacks_2 (by decide) ?_
  obtain ⟨hk2, h⟩ := h
  refine m_callVI (pc := 3) (y := yX7_job0) (κ := 7) (As := [.int p1, .int 3]) (rest := []) C hK hP hS hl.1 ⟨Nat.zero_le _, Nat.zero_le _⟩ (c_X7_job0 h) rfl rfl hk2 (by decide) rfl q_1031 q_1033 q_s43 q_8 q_1034 ⟨rfl, rfl⟩ yd_X7_job0 ⟨Nat.le_of_ble_eq_true rfl, Nat.le_of_ble_eq_true rfl⟩ (Nat.le_of_ble_eq_true rfl) dX7_lacks_3 (fun r3 M1 H locs h hP hS => ?_)
  refine lv_aload_n (pc := 6) hx hb dX7_lacks_6 rfl (lv_at hl 0 rfl) ?_
  refine lv_iload_n (pc := 7) hx hb dX7_lacks_7 rfl (lv_at hl 1 rfl) ?_
  refine lv_iconst (v := 4) (pc := 8) hx hb dX7_lacks_8 (by decide) ?_
  refine m_callVI (pc := 9) (y := yX7_job0) (κ := 7) (As := [.int p1, .int 4]) (rest := [.int r3]) C hK hP hS hl.1 ⟨Nat.zero_le _, Nat.zero_le _⟩ (c_X7_job0 h) rfl rfl hk2 (by decide) rfl q_1031 q_1033 q_s43 q_8 q_1034 ⟨rfl, rfl⟩ yd_X7_job0 ⟨Nat.le_of_ble_eq_true rfl, Nat.le_of_ble_eq_true rfl⟩ (Nat.le_of_ble_eq_true rfl) dX7_lacks_9 (fun r5 M4 H locs h hP hS => ?_)
  refine lv_isub (pc := 12) hx hb dX7_lacks_12 ?_
  refine lv_aload_n (pc := 13) hx hb dX7_lacks_13 rfl (lv_at hl 0 rfl) ?_
  refine lv_iload_n (pc := 14) hx hb dX7_lacks_14 rfl (lv_at hl 1 rfl) ?_
  refine lv_iconst (v := 0) (pc := 15) hx hb dX7_lacks_15 (by decide) ?_
  refine lv_bipush (v := 6) (pc := 16) hx hb dX7_lacks_16 (by decide) ?_
  refine m_callVI (pc := 18) (y := yX7_billetsOf) (κ := 7) (As := [.int p1, .int 0, .int 6]) (rest := [.int (r3 - r5)]) C hK hP hS hl.1 ⟨Nat.zero_le _, Nat.zero_le _⟩ (c_X7_billetsOf h) rfl rfl hk2 (by decide) rfl q_1110 q_1112 q_s59 q_8 q_1113 ⟨rfl, rfl⟩ yd_X7_billetsOf ⟨Nat.le_of_ble_eq_true rfl, Nat.le_of_ble_eq_true rfl⟩ (Nat.le_of_ble_eq_true rfl) dX7_lacks_18 (fun r7 M6 H locs h hP hS => ?_)
  refine lv_isub (pc := 21) hx hb dX7_lacks_21 ?_
  exact m_iret (v := (r3 - r5) - r7) (pc := 22) C hr hlk hP hS dX7_lacks_22 h
/-! ForgeHeatsModel.freePlace ()I -/
def wpB_X7_freePlace_2 (n : Nat) (P : Int32 → Mem → Prop) (R_ : Mem → Nat → Int32 → Prop) (M : Mem) (x0 : Nat) (x1 : Int32) : Prop := ((6 ≤ x1 → P (-1) M) ∧ (¬ 6 ≤ x1 → m_tp n x0 7 ∧ (wp_X7_billet0 n M x0 x1 0 (fun r3 M1 => ((¬ r3 = 0 → ∀ v4 : Int32, v4 = x1 + 1 → (R_ M1 x0 v4)) ∧ (r3 = 0 → P x1 M1))))))
def wpL_X7_freePlace_2 (n : Nat) (P : Int32 → Mem → Prop) : Nat → Mem → Nat → Int32 → Prop
  | 0 => fun _ _ _ => False
  | f + 1 => fun M x0 x1 => wpB_X7_freePlace_2 n P (wpL_X7_freePlace_2 n P f) M x0 x1
def wp_X7_freePlace (n : Nat) (M : Mem) (i : Nat) (P : Int32 → Mem → Prop) : Prop := ∃ f : Nat, wpL_X7_freePlace_2 n P f M i 0
abbrev rm_X7_freePlace : Room := { frames := 1, cells := 0, slots := 0, locals := 22 }
set_option maxHeartbeats 4000000 in
set_option maxRecDepth 100000 in
theorem c_X7_freePlace {l : Launch} {D : va_G} {cA : Nat → ClassId} {b n : Nat} {M : Mem} {i : Nat} {P : Int32 → Mem → Prop} (h : wp_X7_freePlace n M i P) : m_C l D cA b n n M yX7_freePlace cX7_freePlace 2 (some .int) rm_X7_freePlace 0 0 [.ref (b + i)] (rI P) := by
  refine m_enter (by decide) (Nat.le_of_ble_eq_true rfl) (fun p e s m below meth c C hr hlk hnm hK hP hS ls hl => ?_)
  have hx := C.1
  have hb := C.2.1
  have hl : lv_has ls 2 [(0, .ref (b + i))] := hl
  have L2 : ∀ f : Nat, ∀ (M : Mem) (H : Heap) (locs : List Loc) (ls : Array Slot) (x0 : Nat) (x1 : Int32), wpL_X7_freePlace_2 n P f M x0 x1 → m_H D cA b n M H → va_S (m_A b) s.heap H locs → lv_has ls 2 [(0, .ref (b + x0)), (1, .int x1)] → W p l e rm_X7_freePlace s m ([.ref (b + i)] : List Value).toArray below meth c H locs 0 0 (MQ below (m_Q D cA b n (rI P)) ([.ref (b + i)] : List Value).toArray s 0 0 (m_A b)) (F0 m 2 ls []) := by
    clear h
    intro f
    induction f with
    | zero => intro M H locs ls x0 x1 h; exact h.elim
    | succ f ih =>
      intro M H locs ls x0 x1 h hP hS hl
      have h : wpB_X7_freePlace_2 n P (wpL_X7_freePlace_2 n P f) M x0 x1 := h
      unfold wpB_X7_freePlace_2 at h
      refine lv_iload_n (pc := 2) hx hb dX7_freePlace_2 rfl (lv_at hl 1 rfl) ?_
      refine lv_bipush (v := 6) (pc := 3) hx hb dX7_freePlace_3 (by decide) ?_
      refine lv_icmp_ge (tgt := 25) (pc := 5) hx hb dX7_freePlace_5 (by decide) (fun c5 => ?_) (fun c5 => ?_)
      · replace h := h.1 c5
        refine lv_iconst (v := -1) (pc := 25) hx hb dX7_freePlace_25 (by decide) ?_
        exact m_iret (v := (-1)) (pc := 26) C hr hlk hP hS dX7_freePlace_26 h
      · replace h := h.2 c5
        refine lv_aload_n (pc := 8) hx hb dX7_freePlace_8 rfl (lv_at hl 0 rfl) ?_
        refine lv_iload_n (pc := 9) hx hb dX7_freePlace_9 rfl (lv_at hl 1 rfl) ?_
        refine lv_iconst (v := 0) (pc := 10) hx hb dX7_freePlace_10 (by decide) ?_
        obtain ⟨hk2, h⟩ := h
        refine m_callVI (pc := 11) (y := yX7_billet0) (κ := 7) (As := [.int x1, .int 0]) (rest := []) C hK hP hS hl.1 ⟨Nat.zero_le _, Nat.zero_le _⟩ (c_X7_billet0 h) rfl rfl hk2 (by decide) rfl q_1039 q_1041 q_s45 q_8 q_1042 ⟨rfl, rfl⟩ yd_X7_billet0 ⟨Nat.le_of_ble_eq_true rfl, Nat.le_of_ble_eq_true rfl⟩ (Nat.le_of_ble_eq_true rfl) dX7_freePlace_11 (fun r3 M1 H locs h hP hS => ?_)
        refine lv_if_ne (tgt := 19) (pc := 14) hx hb dX7_freePlace_14 (by decide) (fun c14 => ?_) (fun c14 => ?_)
        · replace h := h.1 c14
          obtain ⟨v4, ev4⟩ : ∃ y : Int32, y = x1 + 1 := ⟨_, rfl⟩
          replace h := h v4 ev4
          refine lv_iinc (v := v4) (lv' := [(1, .int v4), (0, .ref (b + x0))]) (pc := 19) hx hb dX7_freePlace_19 hl (k := 1) rfl (by rw [ev4]; rfl) (by decide) rfl (fun ls hl => ?_)
          refine lv_goto (tgt := 2) (pc := 22) hx hb dX7_freePlace_22 (by decide) ?_
          exact ih _ _ _ _ _ _ h hP hS (lv_sub hl [1, 0] rfl)
        · replace h := h.2 c14
          refine lv_iload_n (pc := 17) hx hb dX7_freePlace_17 rfl (lv_at hl 1 rfl) ?_
          exact m_iret (v := x1) (pc := 18) C hr hlk hP hS dX7_freePlace_18 h
  unfold wp_X7_freePlace at h
  refine lv_iconst (v := 0) (pc := 0) hx hb dX7_freePlace_0 (by decide) ?_
  refine lv_istore_n (lv' := [(1, .int 0), (0, .ref (b + i))]) (pc := 1) hx hb dX7_freePlace_1 rfl hl (by decide) rfl (fun ls hl => ?_)
  obtain ⟨f, h⟩ := h
  exact L2 f _ _ _ _ _ _ h hP hS (lv_sub hl [1, 0] rfl)
/-! ForgeHeatsModel.clears (I)V -/
def wpB_X7_clears_2 (n : Nat) (P : Mem → Prop) (R_ : Mem → Nat → Int32 → Int32 → Prop) (M : Mem) (x0 : Nat) (x1 : Int32) (x2 : Int32) : Prop := ((4 ≤ x2 → P M) ∧ (¬ 4 ≤ x2 → m_tp n x0 7 ∧ (wp_X7_lay n M x0 x1 x2 0 (fun M1 => ∀ v4 : Int32, v4 = x2 + 1 → (R_ M1 x0 x1 v4)))))
def wpL_X7_clears_2 (n : Nat) (P : Mem → Prop) : Nat → Mem → Nat → Int32 → Int32 → Prop
  | 0 => fun _ _ _ _ => False
  | f + 1 => fun M x0 x1 x2 => wpB_X7_clears_2 n P (wpL_X7_clears_2 n P f) M x0 x1 x2
def wp_X7_clears (n : Nat) (M : Mem) (i : Nat) (p1 : Int32) (P : Mem → Prop) : Prop := ∃ f : Nat, wpL_X7_clears_2 n P f M i p1 0
abbrev rm_X7_clears : Room := { frames := 1, cells := 0, slots := 0, locals := 23 }
set_option maxHeartbeats 4000000 in
set_option maxRecDepth 100000 in
theorem c_X7_clears {l : Launch} {D : va_G} {cA : Nat → ClassId} {b n : Nat} {M : Mem} {i : Nat} {p1 : Int32} {P : Mem → Prop} (h : wp_X7_clears n M i p1 P) : m_C l D cA b n n M yX7_clears cX7_clears 3 none rm_X7_clears 0 0 [.ref (b + i), .int p1] (rV P) := by
  refine m_enter (by decide) (Nat.le_of_ble_eq_true rfl) (fun p e s m below meth c C hr hlk hnm hK hP hS ls hl => ?_)
  have hx := C.1
  have hb := C.2.1
  have hl : lv_has ls 3 [(0, .ref (b + i)), (1, .int p1)] := hl
  have L2 : ∀ f : Nat, ∀ (M : Mem) (H : Heap) (locs : List Loc) (ls : Array Slot) (x0 : Nat) (x1 : Int32) (x2 : Int32), wpL_X7_clears_2 n P f M x0 x1 x2 → m_H D cA b n M H → va_S (m_A b) s.heap H locs → lv_has ls 3 [(0, .ref (b + x0)), (1, .int x1), (2, .int x2)] → W p l e rm_X7_clears s m ([.ref (b + i), .int p1] : List Value).toArray below meth c H locs 0 0 (MQ below (m_Q D cA b n (rV P)) ([.ref (b + i), .int p1] : List Value).toArray s 0 0 (m_A b)) (F0 m 2 ls []) := by
    clear h
    intro f
    induction f with
    | zero => intro M H locs ls x0 x1 x2 h; exact h.elim
    | succ f ih =>
      intro M H locs ls x0 x1 x2 h hP hS hl
      have h : wpB_X7_clears_2 n P (wpL_X7_clears_2 n P f) M x0 x1 x2 := h
      unfold wpB_X7_clears_2 at h
      refine lv_iload_n (pc := 2) hx hb dX7_clears_2 rfl (lv_at hl 2 rfl) ?_
      refine lv_iconst (v := 4) (pc := 3) hx hb dX7_clears_3 (by decide) ?_
      refine lv_icmp_ge (tgt := 20) (pc := 4) hx hb dX7_clears_4 (by decide) (fun c4 => ?_) (fun c4 => ?_)
      · replace h := h.1 c4
        exact m_vret (pc := 20) C hr hlk hP hS dX7_clears_20 h
      · replace h := h.2 c4
        refine lv_aload_n (pc := 7) hx hb dX7_clears_7 rfl (lv_at hl 0 rfl) ?_
        refine lv_iload_n (pc := 8) hx hb dX7_clears_8 rfl (lv_at hl 1 rfl) ?_
        refine lv_iload_n (pc := 9) hx hb dX7_clears_9 rfl (lv_at hl 2 rfl) ?_
        refine lv_iconst (v := 0) (pc := 10) hx hb dX7_clears_10 (by decide) ?_
        obtain ⟨hk2, h⟩ := h
        refine m_callVV (pc := 11) (y := yX7_lay) (κ := 7) (As := [.int x1, .int x2, .int 0]) (rest := []) C hK hP hS hl.1 ⟨Nat.zero_le _, Nat.zero_le _⟩ (c_X7_lay h) rfl rfl hk2 (by decide) rfl q_1051 q_1053 q_s48 q_8 q_1054 ⟨rfl, rfl⟩ yd_X7_lay ⟨Nat.le_of_ble_eq_true rfl, Nat.le_of_ble_eq_true rfl⟩ (Nat.le_of_ble_eq_true rfl) dX7_clears_11 (fun M1 H locs h hP hS => ?_)
        obtain ⟨v4, ev4⟩ : ∃ y : Int32, y = x2 + 1 := ⟨_, rfl⟩
        replace h := h v4 ev4
        refine lv_iinc (v := v4) (lv' := [(2, .int v4), (0, .ref (b + x0)), (1, .int x1)]) (pc := 14) hx hb dX7_clears_14 hl (k := 2) rfl (by rw [ev4]; rfl) (by decide) rfl (fun ls hl => ?_)
        refine lv_goto (tgt := 2) (pc := 17) hx hb dX7_clears_17 (by decide) ?_
        exact ih _ _ _ _ _ _ _ h hP hS (lv_sub hl [1, 2, 0] rfl)
  unfold wp_X7_clears at h
  refine lv_iconst (v := 0) (pc := 0) hx hb dX7_clears_0 (by decide) ?_
  refine lv_istore_n (lv' := [(2, .int 0), (0, .ref (b + i)), (1, .int p1)]) (pc := 1) hx hb dX7_clears_1 rfl hl (by decide) rfl (fun ls hl => ?_)
  obtain ⟨f, h⟩ := h
  exact L2 f _ _ _ _ _ _ _ h hP hS (lv_sub hl [1, 2, 0] rfl)
/-! ForgeHeatsModel.moves (II)V -/
def wpB_X7_moves_2 (n : Nat) (P : Mem → Prop) (R_ : Mem → Nat → Int32 → Int32 → Int32 → Prop) (M : Mem) (x0 : Nat) (x1 : Int32) (x2 : Int32) (x3 : Int32) : Prop := ((4 ≤ x3 → m_tp n x0 7 ∧ (wp_X7_clears n M x0 x1 (fun M1 => P M1))) ∧ (¬ 4 ≤ x3 → m_tp n x0 7 ∧ (wp_X7_billet0 n M x0 x1 x3 (fun r6 M4 => wp_X7_lay n M4 x0 x2 x3 r6 (fun M7 => ∀ v9 : Int32, v9 = x3 + 1 → (R_ M7 x0 x1 x2 v9))))))
def wpL_X7_moves_2 (n : Nat) (P : Mem → Prop) : Nat → Mem → Nat → Int32 → Int32 → Int32 → Prop
  | 0 => fun _ _ _ _ _ => False
  | f + 1 => fun M x0 x1 x2 x3 => wpB_X7_moves_2 n P (wpL_X7_moves_2 n P f) M x0 x1 x2 x3
def wp_X7_moves (n : Nat) (M : Mem) (i : Nat) (p1 : Int32) (p2 : Int32) (P : Mem → Prop) : Prop := ∃ f : Nat, wpL_X7_moves_2 n P f M i p1 p2 0
abbrev rm_X7_moves : Room := { frames := 2, cells := 0, slots := 0, locals := 45 }
set_option maxHeartbeats 4000000 in
set_option maxRecDepth 100000 in
theorem c_X7_moves {l : Launch} {D : va_G} {cA : Nat → ClassId} {b n : Nat} {M : Mem} {i : Nat} {p1 : Int32} {p2 : Int32} {P : Mem → Prop} (h : wp_X7_moves n M i p1 p2 P) : m_C l D cA b n n M yX7_moves cX7_moves 4 none rm_X7_moves 0 0 [.ref (b + i), .int p1, .int p2] (rV P) := by
  refine m_enter (by decide) (Nat.le_of_ble_eq_true rfl) (fun p e s m below meth c C hr hlk hnm hK hP hS ls hl => ?_)
  have hx := C.1
  have hb := C.2.1
  have hl : lv_has ls 4 [(0, .ref (b + i)), (1, .int p1), (2, .int p2)] := hl
  have L2 : ∀ f : Nat, ∀ (M : Mem) (H : Heap) (locs : List Loc) (ls : Array Slot) (x0 : Nat) (x1 : Int32) (x2 : Int32) (x3 : Int32), wpL_X7_moves_2 n P f M x0 x1 x2 x3 → m_H D cA b n M H → va_S (m_A b) s.heap H locs → lv_has ls 4 [(0, .ref (b + x0)), (1, .int x1), (2, .int x2), (3, .int x3)] → W p l e rm_X7_moves s m ([.ref (b + i), .int p1, .int p2] : List Value).toArray below meth c H locs 0 0 (MQ below (m_Q D cA b n (rV P)) ([.ref (b + i), .int p1, .int p2] : List Value).toArray s 0 0 (m_A b)) (F0 m 2 ls []) := by
    clear h
    intro f
    induction f with
    | zero => intro M H locs ls x0 x1 x2 x3 h; exact h.elim
    | succ f ih =>
      intro M H locs ls x0 x1 x2 x3 h hP hS hl
      have h : wpB_X7_moves_2 n P (wpL_X7_moves_2 n P f) M x0 x1 x2 x3 := h
      unfold wpB_X7_moves_2 at h
      refine lv_iload_n (pc := 2) hx hb dX7_moves_2 rfl (lv_at hl 3 rfl) ?_
      refine lv_iconst (v := 4) (pc := 3) hx hb dX7_moves_3 (by decide) ?_
      refine lv_icmp_ge (tgt := 25) (pc := 4) hx hb dX7_moves_4 (by decide) (fun c4 => ?_) (fun c4 => ?_)
      · replace h := h.1 c4
        refine lv_aload_n (pc := 25) hx hb dX7_moves_25 rfl (lv_at hl 0 rfl) ?_
        refine lv_iload_n (pc := 26) hx hb dX7_moves_26 rfl (lv_at hl 1 rfl) ?_
        obtain ⟨hk2, h⟩ := h
        refine m_callVV (pc := 27) (y := yX7_clears) (κ := 7) (As := [.int x1]) (rest := []) C hK hP hS hl.1 ⟨Nat.zero_le _, Nat.zero_le _⟩ (c_X7_clears h) rfl rfl hk2 (by decide) rfl q_1047 q_1049 q_s47 q_8 q_1050 ⟨rfl, rfl⟩ yd_X7_clears ⟨Nat.le_of_ble_eq_true rfl, Nat.le_of_ble_eq_true rfl⟩ (Nat.le_of_ble_eq_true rfl) dX7_moves_27 (fun M1 H locs h hP hS => ?_)
        exact m_vret (pc := 30) C hr hlk hP hS dX7_moves_30 h
      · replace h := h.2 c4
        refine lv_aload_n (pc := 7) hx hb dX7_moves_7 rfl (lv_at hl 0 rfl) ?_
        refine lv_iload_n (pc := 8) hx hb dX7_moves_8 rfl (lv_at hl 2 rfl) ?_
        refine lv_iload_n (pc := 9) hx hb dX7_moves_9 rfl (lv_at hl 3 rfl) ?_
        refine lv_aload_n (pc := 10) hx hb dX7_moves_10 rfl (lv_at hl 0 rfl) ?_
        refine lv_iload_n (pc := 11) hx hb dX7_moves_11 rfl (lv_at hl 1 rfl) ?_
        refine lv_iload_n (pc := 12) hx hb dX7_moves_12 rfl (lv_at hl 3 rfl) ?_
        obtain ⟨hk5, h⟩ := h
        refine m_callVI (pc := 13) (y := yX7_billet0) (κ := 7) (As := [.int x1, .int x3]) (rest := [.int x3, .int x2, .ref (b + x0)]) C hK hP hS hl.1 ⟨Nat.zero_le _, Nat.zero_le _⟩ (c_X7_billet0 h) rfl rfl hk5 (by decide) rfl q_1039 q_1041 q_s45 q_8 q_1042 ⟨rfl, rfl⟩ yd_X7_billet0 ⟨Nat.le_of_ble_eq_true rfl, Nat.le_of_ble_eq_true rfl⟩ (Nat.le_of_ble_eq_true rfl) dX7_moves_13 (fun r6 M4 H locs h hP hS => ?_)
        refine m_callVV (pc := 16) (y := yX7_lay) (κ := 7) (As := [.int x2, .int x3, .int r6]) (rest := []) C hK hP hS hl.1 ⟨Nat.zero_le _, Nat.zero_le _⟩ (c_X7_lay h) rfl rfl hk5 (by decide) rfl q_1051 q_1053 q_s48 q_8 q_1054 ⟨rfl, rfl⟩ yd_X7_lay ⟨Nat.le_of_ble_eq_true rfl, Nat.le_of_ble_eq_true rfl⟩ (Nat.le_of_ble_eq_true rfl) dX7_moves_16 (fun M7 H locs h hP hS => ?_)
        obtain ⟨v9, ev9⟩ : ∃ y : Int32, y = x3 + 1 := ⟨_, rfl⟩
        replace h := h v9 ev9
        refine lv_iinc (v := v9) (lv' := [(3, .int v9), (0, .ref (b + x0)), (1, .int x1), (2, .int x2)]) (pc := 19) hx hb dX7_moves_19 hl (k := 3) rfl (by rw [ev9]; rfl) (by decide) rfl (fun ls hl => ?_)
        refine lv_goto (tgt := 2) (pc := 22) hx hb dX7_moves_22 (by decide) ?_
        exact ih _ _ _ _ _ _ _ _ h hP hS (lv_sub hl [1, 2, 3, 0] rfl)
  unfold wp_X7_moves at h
  refine lv_iconst (v := 0) (pc := 0) hx hb dX7_moves_0 (by decide) ?_
  refine lv_istore_n (lv' := [(3, .int 0), (0, .ref (b + i)), (1, .int p1), (2, .int p2)]) (pc := 1) hx hb dX7_moves_1 rfl hl (by decide) rfl (fun ls hl => ?_)
  obtain ⟨f, h⟩ := h
  exact L2 f _ _ _ _ _ _ _ _ h hP hS (lv_sub hl [1, 2, 3, 0] rfl)
/-! ForgeHeatsModel.scraps (I)V -/
def wp_X7_scraps (n : Nat) (M : Mem) (i : Nat) (p1 : Int32) (P : Mem → Prop) : Prop := m_tp n i 7 ∧ (∃ j2 : Nat, M.2.1 i 1 = some j2 ∧ (m_tp n j2 8 ∧ (vp_in 8 (m_len j2) ∧ (vp_in 8 (m_len j2) ∧ (∀ M6 : Mem, M6 = uI M j2 (8 : Int32).toNatClampNeg ((M.1 j2 (8 : Int32).toNatClampNeg) + 1) → (∃ j7 : Nat, M6.2.1 i 1 = some j7 ∧ (wp_X7_jobOn n M6 i p1 (fun r9 M8 => wp_X7_job0 n M8 i r9 2 (fun r11 M10 => m_tp n j7 8 ∧ (vp_in ((15 + (5 * r11)) + 4) (m_len j7) ∧ (vp_in ((15 + (5 * r11)) + 4) (m_len j7) ∧ (∀ M15 : Mem, M15 = uI M10 j7 ((15 + (5 * r11)) + 4).toNatClampNeg ((M10.1 j7 ((15 + (5 * r11)) + 4).toNatClampNeg) + 1) → (wp_X7_clears n M15 i p1 (fun M16 => P M16))))))))))))))
abbrev rm_X7_scraps : Room := { frames := 3, cells := 0, slots := 0, locals := 65 }
set_option maxHeartbeats 4000000 in
set_option maxRecDepth 100000 in
theorem c_X7_scraps {l : Launch} {D : va_G} {cA : Nat → ClassId} {b n : Nat} {M : Mem} {i : Nat} {p1 : Int32} {P : Mem → Prop} (h : wp_X7_scraps n M i p1 P) : m_C l D cA b n n M yX7_scraps cX7_scraps 2 none rm_X7_scraps 0 0 [.ref (b + i), .int p1] (rV P) := by
  refine m_enter (by decide) (Nat.le_of_ble_eq_true rfl) (fun p e s m below meth c C hr hlk hnm hK hP hS ls hl => ?_)
  have hx := C.1
  have hb := C.2.1
  have hl : lv_has ls 2 [(0, .ref (b + i)), (1, .int p1)] := hl
  unfold wp_X7_scraps at h
  refine lv_aload_n (pc := 0) hx hb dX7_scraps_0 rfl (lv_at hl 0 rfl) ?_
  obtain ⟨hk1, h⟩ := h
  obtain ⟨j2, hj2, h⟩ := h
  refine gX7_7 (pc := 1) C hK hP hk1 hj2 dX7_scraps_1 ?_
  refine lv_bipush (v := 8) (pc := 4) hx hb dX7_scraps_4 (by decide) ?_
  refine lv_dup2_11 (pc := 6) hx hb dX7_scraps_6 rfl rfl ?_
  obtain ⟨hk3, h⟩ := h
  obtain ⟨hi4, h⟩ := h
  refine m_iald (pc := 7) C hK hP hk3 hi4 dX7_scraps_7 ?_
  refine lv_iconst (v := 1) (pc := 8) hx hb dX7_scraps_8 (by decide) ?_
  refine lv_iadd (pc := 9) hx hb dX7_scraps_9 ?_
  obtain ⟨hi5, h⟩ := h
  refine m_iast (pc := 10) C hK hP hS hk3 hi5 dX7_scraps_10 (fun M6 H locs eM6 hP hS => ?_)
  replace h := h M6 eM6
  refine lv_aload_n (pc := 11) hx hb dX7_scraps_11 rfl (lv_at hl 0 rfl) ?_
  obtain ⟨j7, hj7, h⟩ := h
  refine gX7_7 (pc := 12) C hK hP hk1 hj7 dX7_scraps_12 ?_
  refine lv_bipush (v := 15) (pc := 15) hx hb dX7_scraps_15 (by decide) ?_
  refine lv_iconst (v := 5) (pc := 17) hx hb dX7_scraps_17 (by decide) ?_
  refine lv_aload_n (pc := 18) hx hb dX7_scraps_18 rfl (lv_at hl 0 rfl) ?_
  refine lv_aload_n (pc := 19) hx hb dX7_scraps_19 rfl (lv_at hl 0 rfl) ?_
  refine lv_iload_n (pc := 20) hx hb dX7_scraps_20 rfl (lv_at hl 1 rfl) ?_
  refine m_callVI (pc := 21) (y := yX7_jobOn) (κ := 7) (As := [.int p1]) (rest := [.ref (b + i), .int 5, .int 15, .ref (b + j7)]) C hK hP hS hl.1 ⟨Nat.zero_le _, Nat.zero_le _⟩ (c_X7_jobOn h) rfl rfl hk1 (by decide) rfl q_1035 q_1037 q_s44 q_8 q_1038 ⟨rfl, rfl⟩ yd_X7_jobOn ⟨Nat.le_of_ble_eq_true rfl, Nat.le_of_ble_eq_true rfl⟩ (Nat.le_of_ble_eq_true rfl) dX7_scraps_21 (fun r9 M8 H locs h hP hS => ?_)
  refine lv_iconst (v := 2) (pc := 24) hx hb dX7_scraps_24 (by decide) ?_
  refine m_callVI (pc := 25) (y := yX7_job0) (κ := 7) (As := [.int r9, .int 2]) (rest := [.int 5, .int 15, .ref (b + j7)]) C hK hP hS hl.1 ⟨Nat.zero_le _, Nat.zero_le _⟩ (c_X7_job0 h) rfl rfl hk1 (by decide) rfl q_1031 q_1033 q_s43 q_8 q_1034 ⟨rfl, rfl⟩ yd_X7_job0 ⟨Nat.le_of_ble_eq_true rfl, Nat.le_of_ble_eq_true rfl⟩ (Nat.le_of_ble_eq_true rfl) dX7_scraps_25 (fun r11 M10 H locs h hP hS => ?_)
  refine lv_imul (pc := 28) hx hb dX7_scraps_28 ?_
  refine lv_iadd (pc := 29) hx hb dX7_scraps_29 ?_
  refine lv_iconst (v := 4) (pc := 30) hx hb dX7_scraps_30 (by decide) ?_
  refine lv_iadd (pc := 31) hx hb dX7_scraps_31 ?_
  refine lv_dup2_11 (pc := 32) hx hb dX7_scraps_32 rfl rfl ?_
  obtain ⟨hk12, h⟩ := h
  obtain ⟨hi13, h⟩ := h
  refine m_iald (pc := 33) C hK hP hk12 hi13 dX7_scraps_33 ?_
  refine lv_iconst (v := 1) (pc := 34) hx hb dX7_scraps_34 (by decide) ?_
  refine lv_iadd (pc := 35) hx hb dX7_scraps_35 ?_
  obtain ⟨hi14, h⟩ := h
  refine m_iast (pc := 36) C hK hP hS hk12 hi14 dX7_scraps_36 (fun M15 H locs eM15 hP hS => ?_)
  replace h := h M15 eM15
  refine lv_aload_n (pc := 37) hx hb dX7_scraps_37 rfl (lv_at hl 0 rfl) ?_
  refine lv_iload_n (pc := 38) hx hb dX7_scraps_38 rfl (lv_at hl 1 rfl) ?_
  refine m_callVV (pc := 39) (y := yX7_clears) (κ := 7) (As := [.int p1]) (rest := []) C hK hP hS hl.1 ⟨Nat.zero_le _, Nat.zero_le _⟩ (c_X7_clears h) rfl rfl hk1 (by decide) rfl q_1047 q_1049 q_s47 q_8 q_1050 ⟨rfl, rfl⟩ yd_X7_clears ⟨Nat.le_of_ble_eq_true rfl, Nat.le_of_ble_eq_true rfl⟩ (Nat.le_of_ble_eq_true rfl) dX7_scraps_39 (fun M16 H locs h hP hS => ?_)
  exact m_vret (pc := 42) C hr hlk hP hS dX7_scraps_42 h
/-! ForgeHeatsModel.dropsJob (I)V -/
def wpB_X7_dropsJob_51 (n : Nat) (P : Mem → Prop) (R_ : Mem → Nat → Int32 → Int32 → Prop) (M : Mem) (x0 : Nat) (x2 : Int32) (x3 : Int32) : Prop := ((7 ≤ x3 → m_tp n x0 7 ∧ (∃ j8 : Nat, M.2.1 x0 1 = some j8 ∧ (m_tp n j8 8 ∧ (vp_in 5 (m_len j8) ∧ (vp_in 5 (m_len j8) ∧ (∀ M12 : Mem, M12 = uI M j8 (5 : Int32).toNatClampNeg ((M.1 j8 (5 : Int32).toNatClampNeg) - 1) → (P M12))))))) ∧ (¬ 7 ≤ x3 → m_tp n x0 7 ∧ (∃ j14 : Nat, M.2.1 x0 1 = some j14 ∧ (m_tp n j14 8 ∧ (vp_in (x2 + x3) (m_len j14) ∧ (∀ M17 : Mem, M17 = uI M j14 (x2 + x3).toNatClampNeg 0 → (∀ v18 : Int32, v18 = x3 + 1 → (R_ M17 x0 x2 v18))))))))
def wpL_X7_dropsJob_51 (n : Nat) (P : Mem → Prop) : Nat → Mem → Nat → Int32 → Int32 → Prop
  | 0 => fun _ _ _ _ => False
  | f + 1 => fun M x0 x2 x3 => wpB_X7_dropsJob_51 n P (wpL_X7_dropsJob_51 n P f) M x0 x2 x3
def wpB_X7_dropsJob_23 (n : Nat) (P : Mem → Prop) (R_ : Mem → Nat → Int32 → Int32 → Prop) (M : Mem) (x0 : Nat) (x2 : Int32) (x3 : Int32) : Prop := ((x2 ≤ x3 → ∃ f : Nat, wpL_X7_dropsJob_51 n P f M x0 x2 0) ∧ (¬ x2 ≤ x3 → m_tp n x0 7 ∧ (∃ j20 : Nat, M.2.1 x0 1 = some j20 ∧ (∃ j21 : Nat, M.2.1 x0 1 = some j21 ∧ (m_tp n j21 8 ∧ (vp_in (x3 + 7) (m_len j21) ∧ (m_tp n j20 8 ∧ (vp_in x3 (m_len j20) ∧ (∀ M26 : Mem, M26 = uI M j20 x3.toNatClampNeg (M.1 j21 (x3 + 7).toNatClampNeg) → (∀ v27 : Int32, v27 = x3 + 1 → (R_ M26 x0 x2 v27)))))))))))
def wpL_X7_dropsJob_23 (n : Nat) (P : Mem → Prop) : Nat → Mem → Nat → Int32 → Int32 → Prop
  | 0 => fun _ _ _ _ => False
  | f + 1 => fun M x0 x2 x3 => wpB_X7_dropsJob_23 n P (wpL_X7_dropsJob_23 n P f) M x0 x2 x3
def wp_X7_dropsJob (n : Nat) (M : Mem) (i : Nat) (p1 : Int32) (P : Mem → Prop) : Prop := m_tp n i 7 ∧ (∃ j2 : Nat, M.2.1 i 1 = some j2 ∧ (m_tp n j2 8 ∧ (vp_in 5 (m_len j2) ∧ (∀ v5 : Int32, v5 = (60 + (7 * ((M.1 j2 (5 : Int32).toNatClampNeg) - 1))) → (∀ v6 : Int32, v6 = (60 + (7 * p1)) → (∃ f : Nat, wpL_X7_dropsJob_23 n P f M i v5 v6))))))
abbrev rm_X7_dropsJob : Room := { frames := 0, cells := 0, slots := 0, locals := 0 }
set_option maxHeartbeats 4000000 in
set_option maxRecDepth 100000 in
theorem c_X7_dropsJob {l : Launch} {D : va_G} {cA : Nat → ClassId} {b n : Nat} {M : Mem} {i : Nat} {p1 : Int32} {P : Mem → Prop} (h : wp_X7_dropsJob n M i p1 P) : m_C l D cA b n n M yX7_dropsJob cX7_dropsJob 4 none rm_X7_dropsJob 0 0 [.ref (b + i), .int p1] (rV P) := by
  refine m_enter (by decide) (Nat.le_of_ble_eq_true rfl) (fun p e s m below meth c C hr hlk hnm hK hP hS ls hl => ?_)
  have hx := C.1
  have hb := C.2.1
  have hl : lv_has ls 4 [(0, .ref (b + i)), (1, .int p1)] := hl
  have L51 : ∀ f : Nat, ∀ (M : Mem) (H : Heap) (locs : List Loc) (ls : Array Slot) (x0 : Nat) (x2 : Int32) (x3 : Int32), wpL_X7_dropsJob_51 n P f M x0 x2 x3 → m_H D cA b n M H → va_S (m_A b) s.heap H locs → lv_has ls 4 [(0, .ref (b + x0)), (2, .int x2), (3, .int x3)] → W p l e rm_X7_dropsJob s m ([.ref (b + i), .int p1] : List Value).toArray below meth c H locs 0 0 (MQ below (m_Q D cA b n (rV P)) ([.ref (b + i), .int p1] : List Value).toArray s 0 0 (m_A b)) (F0 m 51 ls []) := by
    clear h
    intro f
    induction f with
    | zero => intro M H locs ls x0 x2 x3 h; exact h.elim
    | succ f ih =>
      intro M H locs ls x0 x2 x3 h hP hS hl
      have h : wpB_X7_dropsJob_51 n P (wpL_X7_dropsJob_51 n P f) M x0 x2 x3 := h
      unfold wpB_X7_dropsJob_51 at h
      refine lv_iload_n (pc := 51) hx hb dX7_dropsJob_51 rfl (lv_at hl 2 rfl) ?_
      refine lv_bipush (v := 7) (pc := 52) hx hb dX7_dropsJob_52 (by decide) ?_
      refine lv_icmp_ge (tgt := 72) (pc := 54) hx hb dX7_dropsJob_54 (by decide) (fun c54 => ?_) (fun c54 => ?_)
      · replace h := h.1 c54
        refine lv_aload_n (pc := 72) hx hb dX7_dropsJob_72 rfl (lv_at hl 0 rfl) ?_
        obtain ⟨hk7, h⟩ := h
        obtain ⟨j8, hj8, h⟩ := h
        refine gX7_7 (pc := 73) C hK hP hk7 hj8 dX7_dropsJob_73 ?_
        refine lv_iconst (v := 5) (pc := 76) hx hb dX7_dropsJob_76 (by decide) ?_
        refine lv_dup2_11 (pc := 77) hx hb dX7_dropsJob_77 rfl rfl ?_
        obtain ⟨hk9, h⟩ := h
        obtain ⟨hi10, h⟩ := h
        refine m_iald (pc := 78) C hK hP hk9 hi10 dX7_dropsJob_78 ?_
        refine lv_iconst (v := 1) (pc := 79) hx hb dX7_dropsJob_79 (by decide) ?_
        refine lv_isub (pc := 80) hx hb dX7_dropsJob_80 ?_
        obtain ⟨hi11, h⟩ := h
        refine m_iast (pc := 81) C hK hP hS hk9 hi11 dX7_dropsJob_81 (fun M12 H locs eM12 hP hS => ?_)
        replace h := h M12 eM12
        exact m_vret (pc := 82) C hr hlk hP hS dX7_dropsJob_82 h
      · replace h := h.2 c54
        refine lv_aload_n (pc := 57) hx hb dX7_dropsJob_57 rfl (lv_at hl 0 rfl) ?_
        obtain ⟨hk13, h⟩ := h
        obtain ⟨j14, hj14, h⟩ := h
        refine gX7_7 (pc := 58) C hK hP hk13 hj14 dX7_dropsJob_58 ?_
        refine lv_iload_n (pc := 61) hx hb dX7_dropsJob_61 rfl (lv_at hl 1 rfl) ?_
        refine lv_iload_n (pc := 62) hx hb dX7_dropsJob_62 rfl (lv_at hl 2 rfl) ?_
        refine lv_iadd (pc := 63) hx hb dX7_dropsJob_63 ?_
        refine lv_iconst (v := 0) (pc := 64) hx hb dX7_dropsJob_64 (by decide) ?_
        obtain ⟨hk15, h⟩ := h
        obtain ⟨hi16, h⟩ := h
        refine m_iast (pc := 65) C hK hP hS hk15 hi16 dX7_dropsJob_65 (fun M17 H locs eM17 hP hS => ?_)
        replace h := h M17 eM17
        obtain ⟨v18, ev18⟩ : ∃ y : Int32, y = x3 + 1 := ⟨_, rfl⟩
        replace h := h v18 ev18
        refine lv_iinc (v := v18) (lv' := [(3, .int v18), (0, .ref (b + x0)), (2, .int x2)]) (pc := 66) hx hb dX7_dropsJob_66 hl (k := 2) rfl (by rw [ev18]; rfl) (by decide) rfl (fun ls hl => ?_)
        refine lv_goto (tgt := 51) (pc := 69) hx hb dX7_dropsJob_69 (by decide) ?_
        exact ih _ _ _ _ _ _ _ h hP hS (lv_sub hl [1, 2, 0] rfl)
  have L23 : ∀ f : Nat, ∀ (M : Mem) (H : Heap) (locs : List Loc) (ls : Array Slot) (x0 : Nat) (x2 : Int32) (x3 : Int32), wpL_X7_dropsJob_23 n P f M x0 x2 x3 → m_H D cA b n M H → va_S (m_A b) s.heap H locs → lv_has ls 4 [(0, .ref (b + x0)), (2, .int x2), (3, .int x3)] → W p l e rm_X7_dropsJob s m ([.ref (b + i), .int p1] : List Value).toArray below meth c H locs 0 0 (MQ below (m_Q D cA b n (rV P)) ([.ref (b + i), .int p1] : List Value).toArray s 0 0 (m_A b)) (F0 m 23 ls []) := by
    clear h
    intro f
    induction f with
    | zero => intro M H locs ls x0 x2 x3 h; exact h.elim
    | succ f ih =>
      intro M H locs ls x0 x2 x3 h hP hS hl
      have h : wpB_X7_dropsJob_23 n P (wpL_X7_dropsJob_23 n P f) M x0 x2 x3 := h
      unfold wpB_X7_dropsJob_23 at h
      refine lv_iload_n (pc := 23) hx hb dX7_dropsJob_23 rfl (lv_at hl 2 rfl) ?_
      refine lv_iload_n (pc := 24) hx hb dX7_dropsJob_24 rfl (lv_at hl 1 rfl) ?_
      refine lv_icmp_ge (tgt := 49) (pc := 25) hx hb dX7_dropsJob_25 (by decide) (fun c25 => ?_) (fun c25 => ?_)
      · replace h := h.1 c25
        refine lv_iconst (v := 0) (pc := 49) hx hb dX7_dropsJob_49 (by decide) ?_
        refine lv_istore_n (lv' := [(3, .int 0), (0, .ref (b + x0)), (2, .int x2)]) (pc := 50) hx hb dX7_dropsJob_50 rfl hl (by decide) rfl (fun ls hl => ?_)
        obtain ⟨f, h⟩ := h
        exact L51 f _ _ _ _ _ _ _ h hP hS (lv_sub hl [1, 2, 0] rfl)
      · replace h := h.2 c25
        refine lv_aload_n (pc := 28) hx hb dX7_dropsJob_28 rfl (lv_at hl 0 rfl) ?_
        obtain ⟨hk19, h⟩ := h
        obtain ⟨j20, hj20, h⟩ := h
        refine gX7_7 (pc := 29) C hK hP hk19 hj20 dX7_dropsJob_29 ?_
        refine lv_iload_n (pc := 32) hx hb dX7_dropsJob_32 rfl (lv_at hl 2 rfl) ?_
        refine lv_aload_n (pc := 33) hx hb dX7_dropsJob_33 rfl (lv_at hl 0 rfl) ?_
        obtain ⟨j21, hj21, h⟩ := h
        refine gX7_7 (pc := 34) C hK hP hk19 hj21 dX7_dropsJob_34 ?_
        refine lv_iload_n (pc := 37) hx hb dX7_dropsJob_37 rfl (lv_at hl 2 rfl) ?_
        refine lv_bipush (v := 7) (pc := 38) hx hb dX7_dropsJob_38 (by decide) ?_
        refine lv_iadd (pc := 40) hx hb dX7_dropsJob_40 ?_
        obtain ⟨hk22, h⟩ := h
        obtain ⟨hi23, h⟩ := h
        refine m_iald (pc := 41) C hK hP hk22 hi23 dX7_dropsJob_41 ?_
        obtain ⟨hk24, h⟩ := h
        obtain ⟨hi25, h⟩ := h
        refine m_iast (pc := 42) C hK hP hS hk24 hi25 dX7_dropsJob_42 (fun M26 H locs eM26 hP hS => ?_)
        replace h := h M26 eM26
        obtain ⟨v27, ev27⟩ : ∃ y : Int32, y = x3 + 1 := ⟨_, rfl⟩
        replace h := h v27 ev27
        refine lv_iinc (v := v27) (lv' := [(3, .int v27), (0, .ref (b + x0)), (2, .int x2)]) (pc := 43) hx hb dX7_dropsJob_43 hl (k := 2) rfl (by rw [ev27]; rfl) (by decide) rfl (fun ls hl => ?_)
        refine lv_goto (tgt := 23) (pc := 46) hx hb dX7_dropsJob_46 (by decide) ?_
        exact ih _ _ _ _ _ _ _ h hP hS (lv_sub hl [1, 2, 0] rfl)
  unfold wp_X7_dropsJob at h
  refine lv_bipush (v := 60) (pc := 0) hx hb dX7_dropsJob_0 (by decide) ?_
  refine lv_bipush (v := 7) (pc := 2) hx hb dX7_dropsJob_2 (by decide) ?_
  refine lv_aload_n (pc := 4) hx hb dX7_dropsJob_4 rfl (lv_at hl 0 rfl) ?_
  obtain ⟨hk1, h⟩ := h
  obtain ⟨j2, hj2, h⟩ := h
  refine gX7_7 (pc := 5) C hK hP hk1 hj2 dX7_dropsJob_5 ?_
  refine lv_iconst (v := 5) (pc := 8) hx hb dX7_dropsJob_8 (by decide) ?_
  obtain ⟨hk3, h⟩ := h
  obtain ⟨hi4, h⟩ := h
  refine m_iald (pc := 9) C hK hP hk3 hi4 dX7_dropsJob_9 ?_
  refine lv_iconst (v := 1) (pc := 10) hx hb dX7_dropsJob_10 (by decide) ?_
  refine lv_isub (pc := 11) hx hb dX7_dropsJob_11 ?_
  refine lv_imul (pc := 12) hx hb dX7_dropsJob_12 ?_
  refine lv_iadd (pc := 13) hx hb dX7_dropsJob_13 ?_
  refine lv_topi (fun v5 ev5 => ?_)
  replace h := h v5 ev5
  refine lv_istore_n (lv' := [(2, .int v5), (0, .ref (b + i)), (1, .int p1)]) (pc := 14) hx hb dX7_dropsJob_14 rfl hl (by decide) rfl (fun ls hl => ?_)
  refine lv_bipush (v := 60) (pc := 15) hx hb dX7_dropsJob_15 (by decide) ?_
  refine lv_bipush (v := 7) (pc := 17) hx hb dX7_dropsJob_17 (by decide) ?_
  refine lv_iload_n (pc := 19) hx hb dX7_dropsJob_19 rfl (lv_at hl 2 rfl) ?_
  refine lv_imul (pc := 20) hx hb dX7_dropsJob_20 ?_
  refine lv_iadd (pc := 21) hx hb dX7_dropsJob_21 ?_
  refine lv_topi (fun v6 ev6 => ?_)
  replace h := h v6 ev6
  refine lv_istore_n (lv' := [(3, .int v6), (2, .int v5), (0, .ref (b + i)), (1, .int p1)]) (pc := 22) hx hb dX7_dropsJob_22 rfl hl (by decide) rfl (fun ls hl => ?_)
  obtain ⟨f, h⟩ := h
  exact L23 f _ _ _ _ _ _ _ h hP hS (lv_sub hl [2, 1, 0] rfl)
/-! ForgeHeatsModel.warms ()V -/
def wpB_X7_warms_2 (n : Nat) (P : Mem → Prop) (R_ : Mem → Nat → Int32 → Prop) (M : Mem) (x0 : Nat) (x1 : Int32) : Prop := ((6 ≤ x1 → P M) ∧ (¬ 6 ≤ x1 → m_tp n x0 7 ∧ (wp_X7_billet0 n M x0 x1 1 (fun r3 M1 => ∃ j4 : Nat, M1.2.1 x0 1 = some j4 ∧ (m_tp n j4 8 ∧ (vp_in 0 (m_len j4) ∧ (∀ v7 : Int32, v7 = (r3 + (M1.1 j4 (0 : Int32).toNatClampNeg)) → (wp_X7_billet0 n M1 x0 x1 0 (fun r9 M8 => ((r9 ≤ 0 → ∀ v10 : Int32, v10 = x1 + 1 → (R_ M8 x0 v10)) ∧ (¬ r9 ≤ 0 → wp_X7_lay n M8 x0 x1 1 (if v7 ≤ 1250 then v7 else 1250) (fun M11 => ∀ v13 : Int32, v13 = x1 + 1 → (R_ M11 x0 v13)))))))))))))
def wpL_X7_warms_2 (n : Nat) (P : Mem → Prop) : Nat → Mem → Nat → Int32 → Prop
  | 0 => fun _ _ _ => False
  | f + 1 => fun M x0 x1 => wpB_X7_warms_2 n P (wpL_X7_warms_2 n P f) M x0 x1
def wp_X7_warms (n : Nat) (M : Mem) (i : Nat) (P : Mem → Prop) : Prop := ∃ f : Nat, wpL_X7_warms_2 n P f M i 0
abbrev rm_X7_warms : Room := { frames := 1, cells := 0, slots := 0, locals := 23 }
set_option maxHeartbeats 4000000 in
set_option maxRecDepth 100000 in
theorem c_X7_warms {l : Launch} {D : va_G} {cA : Nat → ClassId} {b n : Nat} {M : Mem} {i : Nat} {P : Mem → Prop} (h : wp_X7_warms n M i P) : m_C l D cA b n n M yX7_warms cX7_warms 3 none rm_X7_warms 0 0 [.ref (b + i)] (rV P) := by
  refine m_enter (by decide) (Nat.le_of_ble_eq_true rfl) (fun p e s m below meth c C hr hlk hnm hK hP hS ls hl => ?_)
  have hx := C.1
  have hb := C.2.1
  have hl : lv_has ls 3 [(0, .ref (b + i))] := hl
  have L2 : ∀ f : Nat, ∀ (M : Mem) (H : Heap) (locs : List Loc) (ls : Array Slot) (x0 : Nat) (x1 : Int32), wpL_X7_warms_2 n P f M x0 x1 → m_H D cA b n M H → va_S (m_A b) s.heap H locs → lv_has ls 3 [(0, .ref (b + x0)), (1, .int x1)] → W p l e rm_X7_warms s m ([.ref (b + i)] : List Value).toArray below meth c H locs 0 0 (MQ below (m_Q D cA b n (rV P)) ([.ref (b + i)] : List Value).toArray s 0 0 (m_A b)) (F0 m 2 ls []) := by
    clear h
    intro f
    induction f with
    | zero => intro M H locs ls x0 x1 h; exact h.elim
    | succ f ih =>
      intro M H locs ls x0 x1 h hP hS hl
      have h : wpB_X7_warms_2 n P (wpL_X7_warms_2 n P f) M x0 x1 := h
      unfold wpB_X7_warms_2 at h
      refine lv_iload_n (pc := 2) hx hb dX7_warms_2 rfl (lv_at hl 1 rfl) ?_
      refine lv_bipush (v := 6) (pc := 3) hx hb dX7_warms_3 (by decide) ?_
      refine lv_icmp_ge (tgt := 57) (pc := 5) hx hb dX7_warms_5 (by decide) (fun c5 => ?_) (fun c5 => ?_)
      · replace h := h.1 c5
        exact m_vret (pc := 57) C hr hlk hP hS dX7_warms_57 h
      · replace h := h.2 c5
        refine lv_aload_n (pc := 8) hx hb dX7_warms_8 rfl (lv_at hl 0 rfl) ?_
        refine lv_iload_n (pc := 9) hx hb dX7_warms_9 rfl (lv_at hl 1 rfl) ?_
        refine lv_iconst (v := 1) (pc := 10) hx hb dX7_warms_10 (by decide) ?_
        obtain ⟨hk2, h⟩ := h
        refine m_callVI (pc := 11) (y := yX7_billet0) (κ := 7) (As := [.int x1, .int 1]) (rest := []) C hK hP hS hl.1 ⟨Nat.zero_le _, Nat.zero_le _⟩ (c_X7_billet0 h) rfl rfl hk2 (by decide) rfl q_1039 q_1041 q_s45 q_8 q_1042 ⟨rfl, rfl⟩ yd_X7_billet0 ⟨Nat.le_of_ble_eq_true rfl, Nat.le_of_ble_eq_true rfl⟩ (Nat.le_of_ble_eq_true rfl) dX7_warms_11 (fun r3 M1 H locs h hP hS => ?_)
        refine lv_aload_n (pc := 14) hx hb dX7_warms_14 rfl (lv_at hl 0 rfl) ?_
        obtain ⟨j4, hj4, h⟩ := h
        refine gX7_7 (pc := 15) C hK hP hk2 hj4 dX7_warms_15 ?_
        refine lv_iconst (v := 0) (pc := 18) hx hb dX7_warms_18 (by decide) ?_
        obtain ⟨hk5, h⟩ := h
        obtain ⟨hi6, h⟩ := h
        refine m_iald (pc := 19) C hK hP hk5 hi6 dX7_warms_19 ?_
        refine lv_iadd (pc := 20) hx hb dX7_warms_20 ?_
        refine lv_topi (fun v7 ev7 => ?_)
        replace h := h v7 ev7
        refine lv_istore_n (lv' := [(2, .int v7), (0, .ref (b + x0)), (1, .int x1)]) (pc := 21) hx hb dX7_warms_21 rfl hl (by decide) rfl (fun ls hl => ?_)
        refine lv_aload_n (pc := 22) hx hb dX7_warms_22 rfl (lv_at hl 1 rfl) ?_
        refine lv_iload_n (pc := 23) hx hb dX7_warms_23 rfl (lv_at hl 2 rfl) ?_
        refine lv_iconst (v := 0) (pc := 24) hx hb dX7_warms_24 (by decide) ?_
        refine m_callVI (pc := 25) (y := yX7_billet0) (κ := 7) (As := [.int x1, .int 0]) (rest := []) C hK hP hS hl.1 ⟨Nat.zero_le _, Nat.zero_le _⟩ (c_X7_billet0 h) rfl rfl hk2 (by decide) rfl q_1039 q_1041 q_s45 q_8 q_1042 ⟨rfl, rfl⟩ yd_X7_billet0 ⟨Nat.le_of_ble_eq_true rfl, Nat.le_of_ble_eq_true rfl⟩ (Nat.le_of_ble_eq_true rfl) dX7_warms_25 (fun r9 M8 H locs h hP hS => ?_)
        refine lv_if_le (tgt := 51) (pc := 28) hx hb dX7_warms_28 (by decide) (fun c28 => ?_) (fun c28 => ?_)
        · replace h := h.1 c28
          obtain ⟨v10, ev10⟩ : ∃ y : Int32, y = x1 + 1 := ⟨_, rfl⟩
          replace h := h v10 ev10
          refine lv_iinc (v := v10) (lv' := [(1, .int v10), (2, .int v7), (0, .ref (b + x0))]) (pc := 51) hx hb dX7_warms_51 hl (k := 2) rfl (by rw [ev10]; rfl) (by decide) rfl (fun ls hl => ?_)
          refine lv_goto (tgt := 2) (pc := 54) hx hb dX7_warms_54 (by decide) ?_
          exact ih _ _ _ _ _ _ h hP hS (lv_sub hl [2, 0] rfl)
        · replace h := h.2 c28
          refine lv_aload_n (pc := 31) hx hb dX7_warms_31 rfl (lv_at hl 1 rfl) ?_
          refine lv_iload_n (pc := 32) hx hb dX7_warms_32 rfl (lv_at hl 2 rfl) ?_
          refine lv_iconst (v := 1) (pc := 33) hx hb dX7_warms_33 (by decide) ?_
          refine lv_iload_n (pc := 34) hx hb dX7_warms_34 rfl (lv_at hl 0 rfl) ?_
          refine lv_sipush (v := 1250) (pc := 35) hx hb dX7_warms_35 (by decide) ?_
          refine m_join (v := if v7 ≤ 1250 then v7 else 1250) (jp := 48) (rest := [.int 1, .int x1, .ref (b + x0)]) ?_ (fun hJ => ?_)
          rotate_left
          · skip
            refine lv_icmp_le (tgt := 47) (pc := 38) hx hb dX7_warms_38 (by decide) (fun c38 => ?_) (fun c38 => ?_)
            · skip
              refine lv_iload_n (pc := 47) hx hb dX7_warms_47 rfl (lv_at hl 0 rfl) ?_
              exact hJ _ (by rw [if_pos c38])
            · skip
              refine lv_sipush (v := 1250) (pc := 41) hx hb dX7_warms_41 (by decide) ?_
              refine lv_goto (tgt := 48) (pc := 44) hx hb dX7_warms_44 (by decide) ?_
              exact hJ _ (by rw [if_neg c38])
          refine m_callVV (pc := 48) (y := yX7_lay) (κ := 7) (As := [.int x1, .int 1, .int (if v7 ≤ 1250 then v7 else 1250)]) (rest := []) C hK hP hS hl.1 ⟨Nat.zero_le _, Nat.zero_le _⟩ (c_X7_lay h) rfl rfl hk2 (by decide) rfl q_1051 q_1053 q_s48 q_8 q_1054 ⟨rfl, rfl⟩ yd_X7_lay ⟨Nat.le_of_ble_eq_true rfl, Nat.le_of_ble_eq_true rfl⟩ (Nat.le_of_ble_eq_true rfl) dX7_warms_48 (fun M11 H locs h hP hS => ?_)
          obtain ⟨v13, ev13⟩ : ∃ y : Int32, y = x1 + 1 := ⟨_, rfl⟩
          replace h := h v13 ev13
          refine lv_iinc (v := v13) (lv' := [(1, .int v13), (2, .int v7), (0, .ref (b + x0))]) (pc := 51) hx hb dX7_warms_51 hl (k := 2) rfl (by rw [ev13]; rfl) (by decide) rfl (fun ls hl => ?_)
          refine lv_goto (tgt := 2) (pc := 54) hx hb dX7_warms_54 (by decide) ?_
          exact ih _ _ _ _ _ _ h hP hS (lv_sub hl [2, 0] rfl)
  unfold wp_X7_warms at h
  refine lv_iconst (v := 0) (pc := 0) hx hb dX7_warms_0 (by decide) ?_
  refine lv_istore_n (lv' := [(1, .int 0), (0, .ref (b + i))]) (pc := 1) hx hb dX7_warms_1 rfl hl (by decide) rfl (fun ls hl => ?_)
  obtain ⟨f, h⟩ := h
  exact L2 f _ _ _ _ _ _ h hP hS (lv_sub hl [1, 0] rfl)
/-! ForgeHeatsModel.loads ()V -/
def wpB_X7_loads_18 (n : Nat) (P : Mem → Prop) (R_ : Mem → Nat → Int32 → Bool → Int32 → Prop) (M : Mem) (x0 : Nat) (x1 : Int32) (x2 : Bool) (x3 : Int32) : Prop := m_tp n x0 7 ∧ (∃ j5 : Nat, M.2.1 x0 1 = some j5 ∧ (m_tp n j5 8 ∧ (vp_in 5 (m_len j5) ∧ ((((M.1 j5 (5 : Int32).toNatClampNeg) ≤ x3 → P M) ∧ (¬ (M.1 j5 (5 : Int32).toNatClampNeg) ≤ x3 → ((x2 = false → P M) ∧ (x2 = true → wp_X7_jobAt n M x0 x3 (fun r9 M8 => wp_X7_job0 n M8 x0 r9 2 (fun r11 M10 => wp_X7_lacks n M10 x0 r9 (fun r13 M12 => ((r13 ≤ 0 → ∀ v14 : Int32, v14 = x3 + 1 → (R_ M12 x0 x1 x2 v14)) ∧ (¬ r13 ≤ 0 → wp_X7_heatOf n M12 x0 r11 0 (fun r16 M15 => ((r16 ≤ 0 → ∀ v17 : Int32, v17 = x3 + 1 → (R_ M15 x0 x1 x2 v17)) ∧ (¬ r16 ≤ 0 → ∃ j18 : Nat, M15.2.1 x0 1 = some j18 ∧ (m_tp n j18 8 ∧ (vp_in ((15 + (5 * r11)) + 0) (m_len j18) ∧ (vp_in ((15 + (5 * r11)) + 0) (m_len j18) ∧ (∀ M22 : Mem, M22 = uI M15 j18 ((15 + (5 * r11)) + 0).toNatClampNeg ((M15.1 j18 ((15 + (5 * r11)) + 0).toNatClampNeg) - 1) → (wp_X7_job0 n M22 x0 r9 0 (fun r24 M23 => wp_X7_lay n M23 x0 x1 0 (r24 + 1) (fun M25 => wp_X7_lay n M25 x0 x1 1 20 (fun M27 => wp_X7_lay n M27 x0 x1 2 0 (fun M29 => wp_X7_job0 n M29 x0 r9 1 (fun r32 M31 => wp_X7_die0 n M31 x0 r32 0 (fun r34 M33 => wp_X7_lay n M33 x0 x1 3 r34 (fun M35 => ∀ v37 : Int32, v37 = x3 + 1 → (R_ M35 x0 x1 false v37)))))))))))))))))))))))))))))
def wpL_X7_loads_18 (n : Nat) (P : Mem → Prop) : Nat → Mem → Nat → Int32 → Bool → Int32 → Prop
  | 0 => fun _ _ _ _ _ => False
  | f + 1 => fun M x0 x1 x2 x3 => wpB_X7_loads_18 n P (wpL_X7_loads_18 n P f) M x0 x1 x2 x3
def wp_X7_loads (n : Nat) (M : Mem) (i : Nat) (P : Mem → Prop) : Prop := m_tp n i 7 ∧ (wp_X7_freePlace n M i (fun r3 M1 => ∃ f : Nat, wpL_X7_loads_18 n P f M1 i r3 (if r3 = (-1) then false else true) 0))
abbrev rm_X7_loads : Room := { frames := 5, cells := 0, slots := 0, locals := 111 }
set_option maxHeartbeats 4000000 in
set_option maxRecDepth 100000 in
theorem c_X7_loads {l : Launch} {D : va_G} {cA : Nat → ClassId} {b n : Nat} {M : Mem} {i : Nat} {P : Mem → Prop} (h : wp_X7_loads n M i P) : m_C l D cA b n n M yX7_loads cX7_loads 6 none rm_X7_loads 0 0 [.ref (b + i)] (rV P) := by
  refine m_enter (by decide) (Nat.le_of_ble_eq_true rfl) (fun p e s m below meth c C hr hlk hnm hK hP hS ls hl => ?_)
  have hx := C.1
  have hb := C.2.1
  have hl : lv_has ls 6 [(0, .ref (b + i))] := hl
  have L18 : ∀ f : Nat, ∀ (M : Mem) (H : Heap) (locs : List Loc) (ls : Array Slot) (x0 : Nat) (x1 : Int32) (x2 : Bool) (x3 : Int32), wpL_X7_loads_18 n P f M x0 x1 x2 x3 → m_H D cA b n M H → va_S (m_A b) s.heap H locs → lv_has ls 6 [(0, .ref (b + x0)), (1, .int x1), (2, .int (bI x2)), (3, .int x3)] → W p l e rm_X7_loads s m ([.ref (b + i)] : List Value).toArray below meth c H locs 0 0 (MQ below (m_Q D cA b n (rV P)) ([.ref (b + i)] : List Value).toArray s 0 0 (m_A b)) (F0 m 18 ls []) := by
    clear h
    intro f
    induction f with
    | zero => intro M H locs ls x0 x1 x2 x3 h; exact h.elim
    | succ f ih =>
      intro M H locs ls x0 x1 x2 x3 h hP hS hl
      have h : wpB_X7_loads_18 n P (wpL_X7_loads_18 n P f) M x0 x1 x2 x3 := h
      unfold wpB_X7_loads_18 at h
      refine lv_iload_n (pc := 18) hx hb dX7_loads_18 rfl (lv_at hl 3 rfl) ?_
      refine lv_aload_n (pc := 19) hx hb dX7_loads_19 rfl (lv_at hl 0 rfl) ?_
      obtain ⟨hk4, h⟩ := h
      obtain ⟨j5, hj5, h⟩ := h
      refine gX7_7 (pc := 20) C hK hP hk4 hj5 dX7_loads_20 ?_
      refine lv_iconst (v := 5) (pc := 23) hx hb dX7_loads_23 (by decide) ?_
      obtain ⟨hk6, h⟩ := h
      obtain ⟨hi7, h⟩ := h
      refine m_iald (pc := 24) C hK hP hk6 hi7 dX7_loads_24 ?_
      refine lv_icmp_ge (tgt := 141) (pc := 25) hx hb dX7_loads_25 (by decide) (fun c25 => ?_) (fun c25 => ?_)
      · replace h := h.1 c25
        exact m_vret (pc := 141) C hr hlk hP hS dX7_loads_141 h
      · replace h := h.2 c25
        refine lv_iload_n (pc := 28) hx hb dX7_loads_28 rfl (lv_at hl 2 rfl) ?_
        refine lv_if_eq (tgt := 141) (pc := 29) hx hb dX7_loads_29 (by decide) (fun c29 => ?_) (fun c29 => ?_)
        · replace h := h.1 (bZ0 c29)
          exact m_vret (pc := 141) C hr hlk hP hS dX7_loads_141 h
        · replace h := h.2 (bZ1 c29)
          refine lv_aload_n (pc := 32) hx hb dX7_loads_32 rfl (lv_at hl 0 rfl) ?_
          refine lv_iload_n (pc := 33) hx hb dX7_loads_33 rfl (lv_at hl 3 rfl) ?_
          refine m_callVI (pc := 34) (y := yX7_jobAt) (κ := 7) (As := [.int x3]) (rest := []) C hK hP hS hl.1 ⟨Nat.zero_le _, Nat.zero_le _⟩ (c_X7_jobAt h) rfl rfl hk4 (by decide) rfl q_1102 q_1104 q_s57 q_8 q_1105 ⟨rfl, rfl⟩ yd_X7_jobAt ⟨Nat.le_of_ble_eq_true rfl, Nat.le_of_ble_eq_true rfl⟩ (Nat.le_of_ble_eq_true rfl) dX7_loads_34 (fun r9 M8 H locs h hP hS => ?_)
          refine lv_istore (lv' := [(4, .int r9), (0, .ref (b + x0)), (1, .int x1), (2, .int (bI x2)), (3, .int x3)]) (pc := 37) hx hb dX7_loads_37 hl (by decide) rfl (fun ls hl => ?_)
          refine lv_aload_n (pc := 39) hx hb dX7_loads_39 rfl (lv_at hl 1 rfl) ?_
          refine lv_iload (pc := 40) hx hb dX7_loads_40 (lv_at hl 0 rfl) ?_
          refine lv_iconst (v := 2) (pc := 42) hx hb dX7_loads_42 (by decide) ?_
          refine m_callVI (pc := 43) (y := yX7_job0) (κ := 7) (As := [.int r9, .int 2]) (rest := []) C hK hP hS hl.1 ⟨Nat.zero_le _, Nat.zero_le _⟩ (c_X7_job0 h) rfl rfl hk4 (by decide) rfl q_1031 q_1033 q_s43 q_8 q_1034 ⟨rfl, rfl⟩ yd_X7_job0 ⟨Nat.le_of_ble_eq_true rfl, Nat.le_of_ble_eq_true rfl⟩ (Nat.le_of_ble_eq_true rfl) dX7_loads_43 (fun r11 M10 H locs h hP hS => ?_)
          refine lv_istore (lv' := [(5, .int r11), (4, .int r9), (0, .ref (b + x0)), (1, .int x1), (2, .int (bI x2)), (3, .int x3)]) (pc := 46) hx hb dX7_loads_46 hl (by decide) rfl (fun ls hl => ?_)
          refine lv_aload_n (pc := 48) hx hb dX7_loads_48 rfl (lv_at hl 2 rfl) ?_
          refine lv_iload (pc := 49) hx hb dX7_loads_49 (lv_at hl 1 rfl) ?_
          refine m_callVI (pc := 51) (y := yX7_lacks) (κ := 7) (As := [.int r9]) (rest := []) C hK hP hS hl.1 ⟨Nat.zero_le _, Nat.zero_le _⟩ (c_X7_lacks h) rfl rfl hk4 (by decide) rfl q_1106 q_1108 q_s58 q_8 q_1109 ⟨rfl, rfl⟩ yd_X7_lacks ⟨Nat.le_of_ble_eq_true rfl, Nat.le_of_ble_eq_true rfl⟩ (Nat.le_of_ble_eq_true rfl) dX7_loads_51 (fun r13 M12 H locs h hP hS => ?_)
          refine lv_if_le (tgt := 135) (pc := 54) hx hb dX7_loads_54 (by decide) (fun c54 => ?_) (fun c54 => ?_)
          · replace h := h.1 c54
            obtain ⟨v14, ev14⟩ : ∃ y : Int32, y = x3 + 1 := ⟨_, rfl⟩
            replace h := h v14 ev14
            refine lv_iinc (v := v14) (lv' := [(3, .int v14), (5, .int r11), (4, .int r9), (0, .ref (b + x0)), (1, .int x1), (2, .int (bI x2))]) (pc := 135) hx hb dX7_loads_135 hl (k := 5) rfl (by rw [ev14]; rfl) (by decide) rfl (fun ls hl => ?_)
            refine lv_goto (tgt := 18) (pc := 138) hx hb dX7_loads_138 (by decide) ?_
            exact ih _ _ _ _ _ _ _ _ h hP hS (lv_sub hl [3, 4, 5, 0] rfl)
          · replace h := h.2 c54
            refine lv_aload_n (pc := 57) hx hb dX7_loads_57 rfl (lv_at hl 2 rfl) ?_
            refine lv_iload (pc := 58) hx hb dX7_loads_58 (lv_at hl 0 rfl) ?_
            refine lv_iconst (v := 0) (pc := 60) hx hb dX7_loads_60 (by decide) ?_
            refine m_callVI (pc := 61) (y := yX7_heatOf) (κ := 7) (As := [.int r11, .int 0]) (rest := []) C hK hP hS hl.1 ⟨Nat.zero_le _, Nat.zero_le _⟩ (c_X7_heatOf h) rfl rfl hk4 (by decide) rfl q_980 q_982 q_s36 q_8 q_983 ⟨rfl, rfl⟩ yd_X7_heatOf ⟨Nat.le_of_ble_eq_true rfl, Nat.le_of_ble_eq_true rfl⟩ (Nat.le_of_ble_eq_true rfl) dX7_loads_61 (fun r16 M15 H locs h hP hS => ?_)
            refine lv_if_le (tgt := 135) (pc := 64) hx hb dX7_loads_64 (by decide) (fun c64 => ?_) (fun c64 => ?_)
            · replace h := h.1 c64
              obtain ⟨v17, ev17⟩ : ∃ y : Int32, y = x3 + 1 := ⟨_, rfl⟩
              replace h := h v17 ev17
              refine lv_iinc (v := v17) (lv' := [(3, .int v17), (5, .int r11), (4, .int r9), (0, .ref (b + x0)), (1, .int x1), (2, .int (bI x2))]) (pc := 135) hx hb dX7_loads_135 hl (k := 5) rfl (by rw [ev17]; rfl) (by decide) rfl (fun ls hl => ?_)
              refine lv_goto (tgt := 18) (pc := 138) hx hb dX7_loads_138 (by decide) ?_
              exact ih _ _ _ _ _ _ _ _ h hP hS (lv_sub hl [3, 4, 5, 0] rfl)
            · replace h := h.2 c64
              refine lv_aload_n (pc := 67) hx hb dX7_loads_67 rfl (lv_at hl 2 rfl) ?_
              obtain ⟨j18, hj18, h⟩ := h
              refine gX7_7 (pc := 68) C hK hP hk4 hj18 dX7_loads_68 ?_
              refine lv_bipush (v := 15) (pc := 71) hx hb dX7_loads_71 (by decide) ?_
              refine lv_iconst (v := 5) (pc := 73) hx hb dX7_loads_73 (by decide) ?_
              refine lv_iload (pc := 74) hx hb dX7_loads_74 (lv_at hl 0 rfl) ?_
              refine lv_imul (pc := 76) hx hb dX7_loads_76 ?_
              refine lv_iadd (pc := 77) hx hb dX7_loads_77 ?_
              refine lv_iconst (v := 0) (pc := 78) hx hb dX7_loads_78 (by decide) ?_
              refine lv_iadd (pc := 79) hx hb dX7_loads_79 ?_
              refine lv_dup2_11 (pc := 80) hx hb dX7_loads_80 rfl rfl ?_
              obtain ⟨hk19, h⟩ := h
              obtain ⟨hi20, h⟩ := h
              refine m_iald (pc := 81) C hK hP hk19 hi20 dX7_loads_81 ?_
              refine lv_iconst (v := 1) (pc := 82) hx hb dX7_loads_82 (by decide) ?_
              refine lv_isub (pc := 83) hx hb dX7_loads_83 ?_
              obtain ⟨hi21, h⟩ := h
              refine m_iast (pc := 84) C hK hP hS hk19 hi21 dX7_loads_84 (fun M22 H locs eM22 hP hS => ?_)
              replace h := h M22 eM22
              refine lv_aload_n (pc := 85) hx hb dX7_loads_85 rfl (lv_at hl 2 rfl) ?_
              refine lv_iload_n (pc := 86) hx hb dX7_loads_86 rfl (lv_at hl 3 rfl) ?_
              refine lv_iconst (v := 0) (pc := 87) hx hb dX7_loads_87 (by decide) ?_
              refine lv_aload_n (pc := 88) hx hb dX7_loads_88 rfl (lv_at hl 2 rfl) ?_
              refine lv_iload (pc := 89) hx hb dX7_loads_89 (lv_at hl 1 rfl) ?_
              refine lv_iconst (v := 0) (pc := 91) hx hb dX7_loads_91 (by decide) ?_
              refine m_callVI (pc := 92) (y := yX7_job0) (κ := 7) (As := [.int r9, .int 0]) (rest := [.int 0, .int x1, .ref (b + x0)]) C hK hP hS hl.1 ⟨Nat.zero_le _, Nat.zero_le _⟩ (c_X7_job0 h) rfl rfl hk4 (by decide) rfl q_1031 q_1033 q_s43 q_8 q_1034 ⟨rfl, rfl⟩ yd_X7_job0 ⟨Nat.le_of_ble_eq_true rfl, Nat.le_of_ble_eq_true rfl⟩ (Nat.le_of_ble_eq_true rfl) dX7_loads_92 (fun r24 M23 H locs h hP hS => ?_)
              refine lv_iconst (v := 1) (pc := 95) hx hb dX7_loads_95 (by decide) ?_
              refine lv_iadd (pc := 96) hx hb dX7_loads_96 ?_
              refine m_callVV (pc := 97) (y := yX7_lay) (κ := 7) (As := [.int x1, .int 0, .int (r24 + 1)]) (rest := []) C hK hP hS hl.1 ⟨Nat.zero_le _, Nat.zero_le _⟩ (c_X7_lay h) rfl rfl hk4 (by decide) rfl q_1051 q_1053 q_s48 q_8 q_1054 ⟨rfl, rfl⟩ yd_X7_lay ⟨Nat.le_of_ble_eq_true rfl, Nat.le_of_ble_eq_true rfl⟩ (Nat.le_of_ble_eq_true rfl) dX7_loads_97 (fun M25 H locs h hP hS => ?_)
              refine lv_aload_n (pc := 100) hx hb dX7_loads_100 rfl (lv_at hl 2 rfl) ?_
              refine lv_iload_n (pc := 101) hx hb dX7_loads_101 rfl (lv_at hl 3 rfl) ?_
              refine lv_iconst (v := 1) (pc := 102) hx hb dX7_loads_102 (by decide) ?_
              refine lv_bipush (v := 20) (pc := 103) hx hb dX7_loads_103 (by decide) ?_
              refine m_callVV (pc := 105) (y := yX7_lay) (κ := 7) (As := [.int x1, .int 1, .int 20]) (rest := []) C hK hP hS hl.1 ⟨Nat.zero_le _, Nat.zero_le _⟩ (c_X7_lay h) rfl rfl hk4 (by decide) rfl q_1051 q_1053 q_s48 q_8 q_1054 ⟨rfl, rfl⟩ yd_X7_lay ⟨Nat.le_of_ble_eq_true rfl, Nat.le_of_ble_eq_true rfl⟩ (Nat.le_of_ble_eq_true rfl) dX7_loads_105 (fun M27 H locs h hP hS => ?_)
              refine lv_aload_n (pc := 108) hx hb dX7_loads_108 rfl (lv_at hl 2 rfl) ?_
              refine lv_iload_n (pc := 109) hx hb dX7_loads_109 rfl (lv_at hl 3 rfl) ?_
              refine lv_iconst (v := 2) (pc := 110) hx hb dX7_loads_110 (by decide) ?_
              refine lv_iconst (v := 0) (pc := 111) hx hb dX7_loads_111 (by decide) ?_
              refine m_callVV (pc := 112) (y := yX7_lay) (κ := 7) (As := [.int x1, .int 2, .int 0]) (rest := []) C hK hP hS hl.1 ⟨Nat.zero_le _, Nat.zero_le _⟩ (c_X7_lay h) rfl rfl hk4 (by decide) rfl q_1051 q_1053 q_s48 q_8 q_1054 ⟨rfl, rfl⟩ yd_X7_lay ⟨Nat.le_of_ble_eq_true rfl, Nat.le_of_ble_eq_true rfl⟩ (Nat.le_of_ble_eq_true rfl) dX7_loads_112 (fun M29 H locs h hP hS => ?_)
              refine lv_aload_n (pc := 115) hx hb dX7_loads_115 rfl (lv_at hl 2 rfl) ?_
              refine lv_iload_n (pc := 116) hx hb dX7_loads_116 rfl (lv_at hl 3 rfl) ?_
              refine lv_iconst (v := 3) (pc := 117) hx hb dX7_loads_117 (by decide) ?_
              refine lv_aload_n (pc := 118) hx hb dX7_loads_118 rfl (lv_at hl 2 rfl) ?_
              refine lv_aload_n (pc := 119) hx hb dX7_loads_119 rfl (lv_at hl 2 rfl) ?_
              refine lv_iload (pc := 120) hx hb dX7_loads_120 (lv_at hl 1 rfl) ?_
              refine lv_iconst (v := 1) (pc := 122) hx hb dX7_loads_122 (by decide) ?_
              refine m_callVI (pc := 123) (y := yX7_job0) (κ := 7) (As := [.int r9, .int 1]) (rest := [.ref (b + x0), .int 3, .int x1, .ref (b + x0)]) C hK hP hS hl.1 ⟨Nat.zero_le _, Nat.zero_le _⟩ (c_X7_job0 h) rfl rfl hk4 (by decide) rfl q_1031 q_1033 q_s43 q_8 q_1034 ⟨rfl, rfl⟩ yd_X7_job0 ⟨Nat.le_of_ble_eq_true rfl, Nat.le_of_ble_eq_true rfl⟩ (Nat.le_of_ble_eq_true rfl) dX7_loads_123 (fun r32 M31 H locs h hP hS => ?_)
              refine lv_iconst (v := 0) (pc := 126) hx hb dX7_loads_126 (by decide) ?_
              refine m_callVI (pc := 127) (y := yX7_die0) (κ := 7) (As := [.int r32, .int 0]) (rest := [.int 3, .int x1, .ref (b + x0)]) C hK hP hS hl.1 ⟨Nat.zero_le _, Nat.zero_le _⟩ (c_X7_die0 h) rfl rfl hk4 (by decide) rfl q_1003 q_1005 q_s39 q_8 q_1006 ⟨rfl, rfl⟩ yd_X7_die0 ⟨Nat.le_of_ble_eq_true rfl, Nat.le_of_ble_eq_true rfl⟩ (Nat.le_of_ble_eq_true rfl) dX7_loads_127 (fun r34 M33 H locs h hP hS => ?_)
              refine m_callVV (pc := 130) (y := yX7_lay) (κ := 7) (As := [.int x1, .int 3, .int r34]) (rest := []) C hK hP hS hl.1 ⟨Nat.zero_le _, Nat.zero_le _⟩ (c_X7_lay h) rfl rfl hk4 (by decide) rfl q_1051 q_1053 q_s48 q_8 q_1054 ⟨rfl, rfl⟩ yd_X7_lay ⟨Nat.le_of_ble_eq_true rfl, Nat.le_of_ble_eq_true rfl⟩ (Nat.le_of_ble_eq_true rfl) dX7_loads_130 (fun M35 H locs h hP hS => ?_)
              refine lv_iconst (v := 0) (pc := 133) hx hb dX7_loads_133 (by decide) ?_
              refine lv_istore_n (lv' := [(2, .int 0), (5, .int r11), (4, .int r9), (0, .ref (b + x0)), (1, .int x1), (3, .int x3)]) (pc := 134) hx hb dX7_loads_134 rfl hl (by decide) rfl (fun ls hl => ?_)
              obtain ⟨v37, ev37⟩ : ∃ y : Int32, y = x3 + 1 := ⟨_, rfl⟩
              replace h := h v37 ev37
              refine lv_iinc (v := v37) (lv' := [(3, .int v37), (2, .int 0), (5, .int r11), (4, .int r9), (0, .ref (b + x0)), (1, .int x1)]) (pc := 135) hx hb dX7_loads_135 hl (k := 5) rfl (by rw [ev37]; rfl) (by decide) rfl (fun ls hl => ?_)
              refine lv_goto (tgt := 18) (pc := 138) hx hb dX7_loads_138 (by decide) ?_
              exact ih _ _ _ _ _ _ _ _ h hP hS (lv_sub hl [4, 5, 1, 0] rfl)
  unfold wp_X7_loads at h
  refine lv_aload_n (pc := 0) hx hb dX7_loads_0 rfl (lv_at hl 0 rfl) ?_
  obtain ⟨hk2, h⟩ := h
  refine m_callVI (pc := 1) (y := yX7_freePlace) (κ := 7) (As := []) (rest := []) C hK hP hS hl.1 ⟨Nat.zero_le _, Nat.zero_le _⟩ (c_X7_freePlace h) rfl rfl hk2 (by decide) rfl q_1098 q_1100 q_s56 q_8 q_1101 ⟨rfl, rfl⟩ yd_X7_freePlace ⟨Nat.le_of_ble_eq_true rfl, Nat.le_of_ble_eq_true rfl⟩ (Nat.le_of_ble_eq_true rfl) dX7_loads_1 (fun r3 M1 H locs h hP hS => ?_)
  refine lv_istore_n (lv' := [(1, .int r3), (0, .ref (b + i))]) (pc := 4) hx hb dX7_loads_4 rfl hl (by decide) rfl (fun ls hl => ?_)
  refine lv_iload_n (pc := 5) hx hb dX7_loads_5 rfl (lv_at hl 0 rfl) ?_
  refine lv_iconst (v := -1) (pc := 6) hx hb dX7_loads_6 (by decide) ?_
  refine m_joinZ (z := if r3 = (-1) then false else true) (jp := 15) (rest := []) ?_ (fun hJ => ?_)
  rotate_left
  · skip
    refine lv_icmp_eq (tgt := 14) (pc := 7) hx hb dX7_loads_7 (by decide) (fun c7 => ?_) (fun c7 => ?_)
    · skip
      refine lv_iconst (v := 0) (pc := 14) hx hb dX7_loads_14 (by decide) ?_
      exact hJ _ false rfl (by rw [if_pos c7])
    · skip
      refine lv_iconst (v := 1) (pc := 10) hx hb dX7_loads_10 (by decide) ?_
      refine lv_goto (tgt := 15) (pc := 11) hx hb dX7_loads_11 (by decide) ?_
      exact hJ _ true rfl (by rw [if_neg c7])
  refine lv_istore_n (lv' := [(2, .int (bI (if r3 = (-1) then false else true))), (1, .int r3), (0, .ref (b + i))]) (pc := 15) hx hb dX7_loads_15 rfl hl (by decide) rfl (fun ls hl => ?_)
  refine lv_iconst (v := 0) (pc := 16) hx hb dX7_loads_16 (by decide) ?_
  refine lv_istore_n (lv' := [(3, .int 0), (2, .int (bI (if r3 = (-1) then false else true))), (1, .int r3), (0, .ref (b + i))]) (pc := 17) hx hb dX7_loads_17 rfl hl (by decide) rfl (fun ls hl => ?_)
  obtain ⟨f, h⟩ := h
  exact L18 f _ _ _ _ _ _ _ _ h hP hS (lv_sub hl [3, 2, 1, 0] rfl)
/-! ForgeHeatsModel.goesBack ()V -/
def wp_X7_goesBack (n : Nat) (M : Mem) (i : Nat) (P : Mem → Prop) : Prop := m_tp n i 7 ∧ (wp_X7_billet0 n M i 6 2 (fun r3 M1 => wp_X7_lay n M1 i 6 2 (r3 + 1) (fun M4 => wp_X7_freePlace n M4 i (fun r7 M6 => wp_X7_billet0 n M6 i 6 2 (fun r9 M8 => ∃ j10 : Nat, M8.2.1 i 1 = some j10 ∧ (m_tp n j10 8 ∧ (vp_in 2 (m_len j10) ∧ ((((M8.1 j10 (2 : Int32).toNatClampNeg) < r9 → wp_X7_scraps n M8 i 6 (fun M13 => P M13)) ∧ (¬ (M8.1 j10 (2 : Int32).toNatClampNeg) < r9 → ((¬ r7 = (-1) → wp_X7_moves n M8 i 6 r7 (fun M15 => P M15)) ∧ (r7 = (-1) → wp_X7_scraps n M8 i 6 (fun M17 => P M17)))))))))))))
abbrev rm_X7_goesBack : Room := { frames := 4, cells := 0, slots := 0, locals := 86 }
set_option maxHeartbeats 4000000 in
set_option maxRecDepth 100000 in
theorem c_X7_goesBack {l : Launch} {D : va_G} {cA : Nat → ClassId} {b n : Nat} {M : Mem} {i : Nat} {P : Mem → Prop} (h : wp_X7_goesBack n M i P) : m_C l D cA b n n M yX7_goesBack cX7_goesBack 2 none rm_X7_goesBack 0 0 [.ref (b + i)] (rV P) := by
  refine m_enter (by decide) (Nat.le_of_ble_eq_true rfl) (fun p e s m below meth c C hr hlk hnm hK hP hS ls hl => ?_)
  have hx := C.1
  have hb := C.2.1
  have hl : lv_has ls 2 [(0, .ref (b + i))] := hl
  unfold wp_X7_goesBack at h
  refine lv_aload_n (pc := 0) hx hb dX7_goesBack_0 rfl (lv_at hl 0 rfl) ?_
  refine lv_bipush (v := 6) (pc := 1) hx hb dX7_goesBack_1 (by decide) ?_
  refine lv_iconst (v := 2) (pc := 3) hx hb dX7_goesBack_3 (by decide) ?_
  refine lv_aload_n (pc := 4) hx hb dX7_goesBack_4 rfl (lv_at hl 0 rfl) ?_
  refine lv_bipush (v := 6) (pc := 5) hx hb dX7_goesBack_5 (by decide) ?_
  refine lv_iconst (v := 2) (pc := 7) hx hb dX7_goesBack_7 (by decide) ?_
  obtain ⟨hk2, h⟩ := h
  refine m_callVI (pc := 8) (y := yX7_billet0) (κ := 7) (As := [.int 6, .int 2]) (rest := [.int 2, .int 6, .ref (b + i)]) C hK hP hS hl.1 ⟨Nat.zero_le _, Nat.zero_le _⟩ (c_X7_billet0 h) rfl rfl hk2 (by decide) rfl q_1039 q_1041 q_s45 q_8 q_1042 ⟨rfl, rfl⟩ yd_X7_billet0 ⟨Nat.le_of_ble_eq_true rfl, Nat.le_of_ble_eq_true rfl⟩ (Nat.le_of_ble_eq_true rfl) dX7_goesBack_8 (fun r3 M1 H locs h hP hS => ?_)
  refine lv_iconst (v := 1) (pc := 11) hx hb dX7_goesBack_11 (by decide) ?_
  refine lv_iadd (pc := 12) hx hb dX7_goesBack_12 ?_
  refine m_callVV (pc := 13) (y := yX7_lay) (κ := 7) (As := [.int 6, .int 2, .int (r3 + 1)]) (rest := []) C hK hP hS hl.1 ⟨Nat.zero_le _, Nat.zero_le _⟩ (c_X7_lay h) rfl rfl hk2 (by decide) rfl q_1051 q_1053 q_s48 q_8 q_1054 ⟨rfl, rfl⟩ yd_X7_lay ⟨Nat.le_of_ble_eq_true rfl, Nat.le_of_ble_eq_true rfl⟩ (Nat.le_of_ble_eq_true rfl) dX7_goesBack_13 (fun M4 H locs h hP hS => ?_)
  refine lv_aload_n (pc := 16) hx hb dX7_goesBack_16 rfl (lv_at hl 0 rfl) ?_
  refine m_callVI (pc := 17) (y := yX7_freePlace) (κ := 7) (As := []) (rest := []) C hK hP hS hl.1 ⟨Nat.zero_le _, Nat.zero_le _⟩ (c_X7_freePlace h) rfl rfl hk2 (by decide) rfl q_1098 q_1100 q_s56 q_8 q_1101 ⟨rfl, rfl⟩ yd_X7_freePlace ⟨Nat.le_of_ble_eq_true rfl, Nat.le_of_ble_eq_true rfl⟩ (Nat.le_of_ble_eq_true rfl) dX7_goesBack_17 (fun r7 M6 H locs h hP hS => ?_)
  refine lv_istore_n (lv' := [(1, .int r7), (0, .ref (b + i))]) (pc := 20) hx hb dX7_goesBack_20 rfl hl (by decide) rfl (fun ls hl => ?_)
  refine lv_aload_n (pc := 21) hx hb dX7_goesBack_21 rfl (lv_at hl 1 rfl) ?_
  refine lv_bipush (v := 6) (pc := 22) hx hb dX7_goesBack_22 (by decide) ?_
  refine lv_iconst (v := 2) (pc := 24) hx hb dX7_goesBack_24 (by decide) ?_
  refine m_callVI (pc := 25) (y := yX7_billet0) (κ := 7) (As := [.int 6, .int 2]) (rest := []) C hK hP hS hl.1 ⟨Nat.zero_le _, Nat.zero_le _⟩ (c_X7_billet0 h) rfl rfl hk2 (by decide) rfl q_1039 q_1041 q_s45 q_8 q_1042 ⟨rfl, rfl⟩ yd_X7_billet0 ⟨Nat.le_of_ble_eq_true rfl, Nat.le_of_ble_eq_true rfl⟩ (Nat.le_of_ble_eq_true rfl) dX7_goesBack_25 (fun r9 M8 H locs h hP hS => ?_)
  refine lv_aload_n (pc := 28) hx hb dX7_goesBack_28 rfl (lv_at hl 1 rfl) ?_
  obtain ⟨j10, hj10, h⟩ := h
  refine gX7_7 (pc := 29) C hK hP hk2 hj10 dX7_goesBack_29 ?_
  refine lv_iconst (v := 2) (pc := 32) hx hb dX7_goesBack_32 (by decide) ?_
  obtain ⟨hk11, h⟩ := h
  obtain ⟨hi12, h⟩ := h
  refine m_iald (pc := 33) C hK hP hk11 hi12 dX7_goesBack_33 ?_
  refine lv_icmp_gt (tgt := 42) (pc := 34) hx hb dX7_goesBack_34 (by decide) (fun c34 => ?_) (fun c34 => ?_)
  · replace h := h.1 c34
    refine lv_aload_n (pc := 42) hx hb dX7_goesBack_42 rfl (lv_at hl 1 rfl) ?_
    refine lv_bipush (v := 6) (pc := 43) hx hb dX7_goesBack_43 (by decide) ?_
    refine m_callVV (pc := 45) (y := yX7_scraps) (κ := 7) (As := [.int 6]) (rest := []) C hK hP hS hl.1 ⟨Nat.zero_le _, Nat.zero_le _⟩ (c_X7_scraps h) rfl rfl hk2 (by decide) rfl q_1043 q_1045 q_s46 q_8 q_1046 ⟨rfl, rfl⟩ yd_X7_scraps ⟨Nat.le_of_ble_eq_true rfl, Nat.le_of_ble_eq_true rfl⟩ (Nat.le_of_ble_eq_true rfl) dX7_goesBack_45 (fun M13 H locs h hP hS => ?_)
    refine lv_goto (tgt := 58) (pc := 48) hx hb dX7_goesBack_48 (by decide) ?_
    exact m_vret (pc := 58) C hr hlk hP hS dX7_goesBack_58 h
  · replace h := h.2 c34
    refine lv_iload_n (pc := 37) hx hb dX7_goesBack_37 rfl (lv_at hl 0 rfl) ?_
    refine lv_iconst (v := -1) (pc := 38) hx hb dX7_goesBack_38 (by decide) ?_
    refine lv_icmp_ne (tgt := 51) (pc := 39) hx hb dX7_goesBack_39 (by decide) (fun c39 => ?_) (fun c39 => ?_)
    · replace h := h.1 c39
      refine lv_aload_n (pc := 51) hx hb dX7_goesBack_51 rfl (lv_at hl 1 rfl) ?_
      refine lv_bipush (v := 6) (pc := 52) hx hb dX7_goesBack_52 (by decide) ?_
      refine lv_iload_n (pc := 54) hx hb dX7_goesBack_54 rfl (lv_at hl 0 rfl) ?_
      refine m_callVV (pc := 55) (y := yX7_moves) (κ := 7) (As := [.int 6, .int r7]) (rest := []) C hK hP hS hl.1 ⟨Nat.zero_le _, Nat.zero_le _⟩ (c_X7_moves h) rfl rfl hk2 (by decide) rfl q_1130 q_1132 q_s64 q_8 q_1133 ⟨rfl, rfl⟩ yd_X7_moves ⟨Nat.le_of_ble_eq_true rfl, Nat.le_of_ble_eq_true rfl⟩ (Nat.le_of_ble_eq_true rfl) dX7_goesBack_55 (fun M15 H locs h hP hS => ?_)
      exact m_vret (pc := 58) C hr hlk hP hS dX7_goesBack_58 h
    · replace h := h.2 c39
      refine lv_aload_n (pc := 42) hx hb dX7_goesBack_42 rfl (lv_at hl 1 rfl) ?_
      refine lv_bipush (v := 6) (pc := 43) hx hb dX7_goesBack_43 (by decide) ?_
      refine m_callVV (pc := 45) (y := yX7_scraps) (κ := 7) (As := [.int 6]) (rest := []) C hK hP hS hl.1 ⟨Nat.zero_le _, Nat.zero_le _⟩ (c_X7_scraps h) rfl rfl hk2 (by decide) rfl q_1043 q_1045 q_s46 q_8 q_1046 ⟨rfl, rfl⟩ yd_X7_scraps ⟨Nat.le_of_ble_eq_true rfl, Nat.le_of_ble_eq_true rfl⟩ (Nat.le_of_ble_eq_true rfl) dX7_goesBack_45 (fun M17 H locs h hP hS => ?_)
      refine lv_goto (tgt := 58) (pc := 48) hx hb dX7_goesBack_48 (by decide) ?_
      exact m_vret (pc := 58) C hr hlk hP hS dX7_goesBack_58 h
/-! ForgeHeatsModel.makes (I)V -/
def wp_X7_makes (n : Nat) (M : Mem) (i : Nat) (p1 : Int32) (P : Mem → Prop) : Prop := m_tp n i 7 ∧ (wp_X7_clears n M i 6 (fun M1 => ∃ j4 : Nat, M1.2.1 i 1 = some j4 ∧ (m_tp n j4 8 ∧ (vp_in 7 (m_len j4) ∧ (vp_in 7 (m_len j4) ∧ (∀ M8 : Mem, M8 = uI M1 j4 (7 : Int32).toNatClampNeg ((M1.1 j4 (7 : Int32).toNatClampNeg) + 1) → (∃ j9 : Nat, M8.2.1 i 1 = some j9 ∧ (wp_X7_job0 n M8 i p1 2 (fun r11 M10 => m_tp n j9 8 ∧ (vp_in ((15 + (5 * r11)) + 3) (m_len j9) ∧ (vp_in ((15 + (5 * r11)) + 3) (m_len j9) ∧ (∀ M15 : Mem, M15 = uI M10 j9 ((15 + (5 * r11)) + 3).toNatClampNeg ((M10.1 j9 ((15 + (5 * r11)) + 3).toNatClampNeg) + 1) → (∃ j16 : Nat, M15.2.1 i 1 = some j16 ∧ (wp_X7_job0 n M15 i p1 1 (fun r18 M17 => m_tp n j16 8 ∧ (vp_in ((35 + (5 * r18)) + 3) (m_len j16) ∧ (vp_in ((35 + (5 * r18)) + 3) (m_len j16) ∧ (∀ M22 : Mem, M22 = uI M17 j16 ((35 + (5 * r18)) + 3).toNatClampNeg ((M17.1 j16 ((35 + (5 * r18)) + 3).toNatClampNeg) + 1) → (∃ j23 : Nat, M22.2.1 i 1 = some j23 ∧ (m_tp n j23 8 ∧ (vp_in ((60 + (7 * p1)) + 4) (m_len j23) ∧ (vp_in ((60 + (7 * p1)) + 4) (m_len j23) ∧ (∀ M27 : Mem, M27 = uI M22 j23 ((60 + (7 * p1)) + 4).toNatClampNeg ((M22.1 j23 ((60 + (7 * p1)) + 4).toNatClampNeg) + 1) → (wp_X7_job0 n M27 i p1 4 (fun r29 M28 => wp_X7_job0 n M28 i p1 3 (fun r31 M30 => ((¬ r29 = r31 → P M30) ∧ (r29 = r31 → ∃ j32 : Nat, M30.2.1 i 1 = some j32 ∧ (m_tp n j32 8 ∧ (vp_in 4 (m_len j32) ∧ (wp_X7_job0 n M30 i p1 5 (fun r36 M35 => ∀ v37 : Int32, v37 = (((M30.1 j32 (4 : Int32).toNatClampNeg) + 1) - r36) → (∃ j38 : Nat, M35.2.1 i 1 = some j38 ∧ (m_tp n j38 8 ∧ (vp_in 10 (m_len j38) ∧ (vp_in 10 (m_len j38) ∧ (∀ M42 : Mem, M42 = uI M35 j38 (10 : Int32).toNatClampNeg ((M35.1 j38 (10 : Int32).toNatClampNeg) + 1) → (∃ j43 : Nat, M42.2.1 i 1 = some j43 ∧ (m_tp n j43 8 ∧ (vp_in 11 (m_len j43) ∧ (vp_in 11 (m_len j43) ∧ (∀ M47 : Mem, M47 = uI M42 j43 (11 : Int32).toNatClampNeg ((M42.1 j43 (11 : Int32).toNatClampNeg) + (bI (if v37 ≤ 0 then false else true))) → (∃ j48 : Nat, M47.2.1 i 1 = some j48 ∧ (m_tp n j48 8 ∧ (vp_in 12 (m_len j48) ∧ (vp_in 12 (m_len j48) ∧ (∀ M52 : Mem, M52 = uI M47 j48 (12 : Int32).toNatClampNeg ((M47.1 j48 (12 : Int32).toNatClampNeg) + (if v37 ≤ 0 then 0 else v37)) → (wp_X7_dropsJob n M52 i p1 (fun M53 => P M53)))))))))))))))))))))))))))))))))))))))))))))))))
abbrev rm_X7_makes : Room := { frames := 2, cells := 0, slots := 0, locals := 45 }
set_option maxHeartbeats 4000000 in
set_option maxRecDepth 100000 in
theorem c_X7_makes {l : Launch} {D : va_G} {cA : Nat → ClassId} {b n : Nat} {M : Mem} {i : Nat} {p1 : Int32} {P : Mem → Prop} (h : wp_X7_makes n M i p1 P) : m_C l D cA b n n M yX7_makes cX7_makes 3 none rm_X7_makes 0 0 [.ref (b + i), .int p1] (rV P) := by
  refine m_enter (by decide) (Nat.le_of_ble_eq_true rfl) (fun p e s m below meth c C hr hlk hnm hK hP hS ls hl => ?_)
  have hx := C.1
  have hb := C.2.1
  have hl : lv_has ls 3 [(0, .ref (b + i)), (1, .int p1)] := hl
  unfold wp_X7_makes at h
  refine lv_aload_n (pc := 0) hx hb dX7_makes_0 rfl (lv_at hl 0 rfl) ?_
  refine lv_bipush (v := 6) (pc := 1) hx hb dX7_makes_1 (by decide) ?_
  obtain ⟨hk2, h⟩ := h
  refine m_callVV (pc := 3) (y := yX7_clears) (κ := 7) (As := [.int 6]) (rest := []) C hK hP hS hl.1 ⟨Nat.zero_le _, Nat.zero_le _⟩ (c_X7_clears h) rfl rfl hk2 (by decide) rfl q_1047 q_1049 q_s47 q_8 q_1050 ⟨rfl, rfl⟩ yd_X7_clears ⟨Nat.le_of_ble_eq_true rfl, Nat.le_of_ble_eq_true rfl⟩ (Nat.le_of_ble_eq_true rfl) dX7_makes_3 (fun M1 H locs h hP hS => ?_)
  refine lv_aload_n (pc := 6) hx hb dX7_makes_6 rfl (lv_at hl 0 rfl) ?_
  obtain ⟨j4, hj4, h⟩ := h
  refine gX7_7 (pc := 7) C hK hP hk2 hj4 dX7_makes_7 ?_
  refine lv_bipush (v := 7) (pc := 10) hx hb dX7_makes_10 (by decide) ?_
  refine lv_dup2_11 (pc := 12) hx hb dX7_makes_12 rfl rfl ?_
  obtain ⟨hk5, h⟩ := h
  obtain ⟨hi6, h⟩ := h
  refine m_iald (pc := 13) C hK hP hk5 hi6 dX7_makes_13 ?_
  refine lv_iconst (v := 1) (pc := 14) hx hb dX7_makes_14 (by decide) ?_
  refine lv_iadd (pc := 15) hx hb dX7_makes_15 ?_
  obtain ⟨hi7, h⟩ := h
  refine m_iast (pc := 16) C hK hP hS hk5 hi7 dX7_makes_16 (fun M8 H locs eM8 hP hS => ?_)
  replace h := h M8 eM8
  refine lv_aload_n (pc := 17) hx hb dX7_makes_17 rfl (lv_at hl 0 rfl) ?_
  obtain ⟨j9, hj9, h⟩ := h
  refine gX7_7 (pc := 18) C hK hP hk2 hj9 dX7_makes_18 ?_
  refine lv_bipush (v := 15) (pc := 21) hx hb dX7_makes_21 (by decide) ?_
  refine lv_iconst (v := 5) (pc := 23) hx hb dX7_makes_23 (by decide) ?_
  refine lv_aload_n (pc := 24) hx hb dX7_makes_24 rfl (lv_at hl 0 rfl) ?_
  refine lv_iload_n (pc := 25) hx hb dX7_makes_25 rfl (lv_at hl 1 rfl) ?_
  refine lv_iconst (v := 2) (pc := 26) hx hb dX7_makes_26 (by decide) ?_
  refine m_callVI (pc := 27) (y := yX7_job0) (κ := 7) (As := [.int p1, .int 2]) (rest := [.int 5, .int 15, .ref (b + j9)]) C hK hP hS hl.1 ⟨Nat.zero_le _, Nat.zero_le _⟩ (c_X7_job0 h) rfl rfl hk2 (by decide) rfl q_1031 q_1033 q_s43 q_8 q_1034 ⟨rfl, rfl⟩ yd_X7_job0 ⟨Nat.le_of_ble_eq_true rfl, Nat.le_of_ble_eq_true rfl⟩ (Nat.le_of_ble_eq_true rfl) dX7_makes_27 (fun r11 M10 H locs h hP hS => ?_)
  refine lv_imul (pc := 30) hx hb dX7_makes_30 ?_
  refine lv_iadd (pc := 31) hx hb dX7_makes_31 ?_
  refine lv_iconst (v := 3) (pc := 32) hx hb dX7_makes_32 (by decide) ?_
  refine lv_iadd (pc := 33) hx hb dX7_makes_33 ?_
  refine lv_dup2_11 (pc := 34) hx hb dX7_makes_34 rfl rfl ?_
  obtain ⟨hk12, h⟩ := h
  obtain ⟨hi13, h⟩ := h
  refine m_iald (pc := 35) C hK hP hk12 hi13 dX7_makes_35 ?_
  refine lv_iconst (v := 1) (pc := 36) hx hb dX7_makes_36 (by decide) ?_
  refine lv_iadd (pc := 37) hx hb dX7_makes_37 ?_
  obtain ⟨hi14, h⟩ := h
  refine m_iast (pc := 38) C hK hP hS hk12 hi14 dX7_makes_38 (fun M15 H locs eM15 hP hS => ?_)
  replace h := h M15 eM15
  refine lv_aload_n (pc := 39) hx hb dX7_makes_39 rfl (lv_at hl 0 rfl) ?_
  obtain ⟨j16, hj16, h⟩ := h
  refine gX7_7 (pc := 40) C hK hP hk2 hj16 dX7_makes_40 ?_
  refine lv_bipush (v := 35) (pc := 43) hx hb dX7_makes_43 (by decide) ?_
  refine lv_iconst (v := 5) (pc := 45) hx hb dX7_makes_45 (by decide) ?_
  refine lv_aload_n (pc := 46) hx hb dX7_makes_46 rfl (lv_at hl 0 rfl) ?_
  refine lv_iload_n (pc := 47) hx hb dX7_makes_47 rfl (lv_at hl 1 rfl) ?_
  refine lv_iconst (v := 1) (pc := 48) hx hb dX7_makes_48 (by decide) ?_
  refine m_callVI (pc := 49) (y := yX7_job0) (κ := 7) (As := [.int p1, .int 1]) (rest := [.int 5, .int 35, .ref (b + j16)]) C hK hP hS hl.1 ⟨Nat.zero_le _, Nat.zero_le _⟩ (c_X7_job0 h) rfl rfl hk2 (by decide) rfl q_1031 q_1033 q_s43 q_8 q_1034 ⟨rfl, rfl⟩ yd_X7_job0 ⟨Nat.le_of_ble_eq_true rfl, Nat.le_of_ble_eq_true rfl⟩ (Nat.le_of_ble_eq_true rfl) dX7_makes_49 (fun r18 M17 H locs h hP hS => ?_)
  refine lv_imul (pc := 52) hx hb dX7_makes_52 ?_
  refine lv_iadd (pc := 53) hx hb dX7_makes_53 ?_
  refine lv_iconst (v := 3) (pc := 54) hx hb dX7_makes_54 (by decide) ?_
  refine lv_iadd (pc := 55) hx hb dX7_makes_55 ?_
  refine lv_dup2_11 (pc := 56) hx hb dX7_makes_56 rfl rfl ?_
  obtain ⟨hk19, h⟩ := h
  obtain ⟨hi20, h⟩ := h
  refine m_iald (pc := 57) C hK hP hk19 hi20 dX7_makes_57 ?_
  refine lv_iconst (v := 1) (pc := 58) hx hb dX7_makes_58 (by decide) ?_
  refine lv_iadd (pc := 59) hx hb dX7_makes_59 ?_
  obtain ⟨hi21, h⟩ := h
  refine m_iast (pc := 60) C hK hP hS hk19 hi21 dX7_makes_60 (fun M22 H locs eM22 hP hS => ?_)
  replace h := h M22 eM22
  refine lv_aload_n (pc := 61) hx hb dX7_makes_61 rfl (lv_at hl 0 rfl) ?_
  obtain ⟨j23, hj23, h⟩ := h
  refine gX7_7 (pc := 62) C hK hP hk2 hj23 dX7_makes_62 ?_
  refine lv_bipush (v := 60) (pc := 65) hx hb dX7_makes_65 (by decide) ?_
  refine lv_bipush (v := 7) (pc := 67) hx hb dX7_makes_67 (by decide) ?_
  refine lv_iload_n (pc := 69) hx hb dX7_makes_69 rfl (lv_at hl 1 rfl) ?_
  refine lv_imul (pc := 70) hx hb dX7_makes_70 ?_
  refine lv_iadd (pc := 71) hx hb dX7_makes_71 ?_
  refine lv_iconst (v := 4) (pc := 72) hx hb dX7_makes_72 (by decide) ?_
  refine lv_iadd (pc := 73) hx hb dX7_makes_73 ?_
  refine lv_dup2_11 (pc := 74) hx hb dX7_makes_74 rfl rfl ?_
  obtain ⟨hk24, h⟩ := h
  obtain ⟨hi25, h⟩ := h
  refine m_iald (pc := 75) C hK hP hk24 hi25 dX7_makes_75 ?_
  refine lv_iconst (v := 1) (pc := 76) hx hb dX7_makes_76 (by decide) ?_
  refine lv_iadd (pc := 77) hx hb dX7_makes_77 ?_
  obtain ⟨hi26, h⟩ := h
  refine m_iast (pc := 78) C hK hP hS hk24 hi26 dX7_makes_78 (fun M27 H locs eM27 hP hS => ?_)
  replace h := h M27 eM27
  refine lv_aload_n (pc := 79) hx hb dX7_makes_79 rfl (lv_at hl 0 rfl) ?_
  refine lv_iload_n (pc := 80) hx hb dX7_makes_80 rfl (lv_at hl 1 rfl) ?_
  refine lv_iconst (v := 4) (pc := 81) hx hb dX7_makes_81 (by decide) ?_
  refine m_callVI (pc := 82) (y := yX7_job0) (κ := 7) (As := [.int p1, .int 4]) (rest := []) C hK hP hS hl.1 ⟨Nat.zero_le _, Nat.zero_le _⟩ (c_X7_job0 h) rfl rfl hk2 (by decide) rfl q_1031 q_1033 q_s43 q_8 q_1034 ⟨rfl, rfl⟩ yd_X7_job0 ⟨Nat.le_of_ble_eq_true rfl, Nat.le_of_ble_eq_true rfl⟩ (Nat.le_of_ble_eq_true rfl) dX7_makes_82 (fun r29 M28 H locs h hP hS => ?_)
  refine lv_aload_n (pc := 85) hx hb dX7_makes_85 rfl (lv_at hl 0 rfl) ?_
  refine lv_iload_n (pc := 86) hx hb dX7_makes_86 rfl (lv_at hl 1 rfl) ?_
  refine lv_iconst (v := 3) (pc := 87) hx hb dX7_makes_87 (by decide) ?_
  refine m_callVI (pc := 88) (y := yX7_job0) (κ := 7) (As := [.int p1, .int 3]) (rest := [.int r29]) C hK hP hS hl.1 ⟨Nat.zero_le _, Nat.zero_le _⟩ (c_X7_job0 h) rfl rfl hk2 (by decide) rfl q_1031 q_1033 q_s43 q_8 q_1034 ⟨rfl, rfl⟩ yd_X7_job0 ⟨Nat.le_of_ble_eq_true rfl, Nat.le_of_ble_eq_true rfl⟩ (Nat.le_of_ble_eq_true rfl) dX7_makes_88 (fun r31 M30 H locs h hP hS => ?_)
  refine lv_icmp_ne (tgt := 164) (pc := 91) hx hb dX7_makes_91 (by decide) (fun c91 => ?_) (fun c91 => ?_)
  · replace h := h.1 c91
    exact m_vret (pc := 164) C hr hlk hP hS dX7_makes_164 h
  · replace h := h.2 c91
    refine lv_aload_n (pc := 94) hx hb dX7_makes_94 rfl (lv_at hl 0 rfl) ?_
    obtain ⟨j32, hj32, h⟩ := h
    refine gX7_7 (pc := 95) C hK hP hk2 hj32 dX7_makes_95 ?_
    refine lv_iconst (v := 4) (pc := 98) hx hb dX7_makes_98 (by decide) ?_
    obtain ⟨hk33, h⟩ := h
    obtain ⟨hi34, h⟩ := h
    refine m_iald (pc := 99) C hK hP hk33 hi34 dX7_makes_99 ?_
    refine lv_iconst (v := 1) (pc := 100) hx hb dX7_makes_100 (by decide) ?_
    refine lv_iadd (pc := 101) hx hb dX7_makes_101 ?_
    refine lv_aload_n (pc := 102) hx hb dX7_makes_102 rfl (lv_at hl 0 rfl) ?_
    refine lv_iload_n (pc := 103) hx hb dX7_makes_103 rfl (lv_at hl 1 rfl) ?_
    refine lv_iconst (v := 5) (pc := 104) hx hb dX7_makes_104 (by decide) ?_
    refine m_callVI (pc := 105) (y := yX7_job0) (κ := 7) (As := [.int p1, .int 5]) (rest := [.int ((M30.1 j32 (4 : Int32).toNatClampNeg) + 1)]) C hK hP hS hl.1 ⟨Nat.zero_le _, Nat.zero_le _⟩ (c_X7_job0 h) rfl rfl hk2 (by decide) rfl q_1031 q_1033 q_s43 q_8 q_1034 ⟨rfl, rfl⟩ yd_X7_job0 ⟨Nat.le_of_ble_eq_true rfl, Nat.le_of_ble_eq_true rfl⟩ (Nat.le_of_ble_eq_true rfl) dX7_makes_105 (fun r36 M35 H locs h hP hS => ?_)
    refine lv_isub (pc := 108) hx hb dX7_makes_108 ?_
    refine lv_topi (fun v37 ev37 => ?_)
    replace h := h v37 ev37
    refine lv_istore_n (lv' := [(2, .int v37), (0, .ref (b + i)), (1, .int p1)]) (pc := 109) hx hb dX7_makes_109 rfl hl (by decide) rfl (fun ls hl => ?_)
    refine lv_aload_n (pc := 110) hx hb dX7_makes_110 rfl (lv_at hl 1 rfl) ?_
    obtain ⟨j38, hj38, h⟩ := h
    refine gX7_7 (pc := 111) C hK hP hk2 hj38 dX7_makes_111 ?_
    refine lv_bipush (v := 10) (pc := 114) hx hb dX7_makes_114 (by decide) ?_
    refine lv_dup2_11 (pc := 116) hx hb dX7_makes_116 rfl rfl ?_
    obtain ⟨hk39, h⟩ := h
    obtain ⟨hi40, h⟩ := h
    refine m_iald (pc := 117) C hK hP hk39 hi40 dX7_makes_117 ?_
    refine lv_iconst (v := 1) (pc := 118) hx hb dX7_makes_118 (by decide) ?_
    refine lv_iadd (pc := 119) hx hb dX7_makes_119 ?_
    obtain ⟨hi41, h⟩ := h
    refine m_iast (pc := 120) C hK hP hS hk39 hi41 dX7_makes_120 (fun M42 H locs eM42 hP hS => ?_)
    replace h := h M42 eM42
    refine lv_aload_n (pc := 121) hx hb dX7_makes_121 rfl (lv_at hl 1 rfl) ?_
    obtain ⟨j43, hj43, h⟩ := h
    refine gX7_7 (pc := 122) C hK hP hk2 hj43 dX7_makes_122 ?_
    refine lv_bipush (v := 11) (pc := 125) hx hb dX7_makes_125 (by decide) ?_
    refine lv_dup2_11 (pc := 127) hx hb dX7_makes_127 rfl rfl ?_
    obtain ⟨hk44, h⟩ := h
    obtain ⟨hi45, h⟩ := h
    refine m_iald (pc := 128) C hK hP hk44 hi45 dX7_makes_128 ?_
    refine lv_iload_n (pc := 129) hx hb dX7_makes_129 rfl (lv_at hl 0 rfl) ?_
    refine m_joinZ (z := if v37 ≤ 0 then false else true) (jp := 138) (rest := [.int (M42.1 j43 (11 : Int32).toNatClampNeg), .int 11, .ref (b + j43)]) ?_ (fun hJ => ?_)
    rotate_left
    · skip
      refine lv_if_le (tgt := 137) (pc := 130) hx hb dX7_makes_130 (by decide) (fun c130 => ?_) (fun c130 => ?_)
      · skip
        refine lv_iconst (v := 0) (pc := 137) hx hb dX7_makes_137 (by decide) ?_
        exact hJ _ false rfl (by rw [if_pos c130])
      · skip
        refine lv_iconst (v := 1) (pc := 133) hx hb dX7_makes_133 (by decide) ?_
        refine lv_goto (tgt := 138) (pc := 134) hx hb dX7_makes_134 (by decide) ?_
        exact hJ _ true rfl (by rw [if_neg c130])
    refine lv_iadd (pc := 138) hx hb dX7_makes_138 ?_
    obtain ⟨hi46, h⟩ := h
    refine m_iast (pc := 139) C hK hP hS hk44 hi46 dX7_makes_139 (fun M47 H locs eM47 hP hS => ?_)
    replace h := h M47 eM47
    refine lv_aload_n (pc := 140) hx hb dX7_makes_140 rfl (lv_at hl 1 rfl) ?_
    obtain ⟨j48, hj48, h⟩ := h
    refine gX7_7 (pc := 141) C hK hP hk2 hj48 dX7_makes_141 ?_
    refine lv_bipush (v := 12) (pc := 144) hx hb dX7_makes_144 (by decide) ?_
    refine lv_dup2_11 (pc := 146) hx hb dX7_makes_146 rfl rfl ?_
    obtain ⟨hk49, h⟩ := h
    obtain ⟨hi50, h⟩ := h
    refine m_iald (pc := 147) C hK hP hk49 hi50 dX7_makes_147 ?_
    refine lv_iload_n (pc := 148) hx hb dX7_makes_148 rfl (lv_at hl 0 rfl) ?_
    refine m_join (v := if v37 ≤ 0 then 0 else v37) (jp := 157) (rest := [.int (M47.1 j48 (12 : Int32).toNatClampNeg), .int 12, .ref (b + j48)]) ?_ (fun hJ => ?_)
    rotate_left
    · skip
      refine lv_if_le (tgt := 156) (pc := 149) hx hb dX7_makes_149 (by decide) (fun c149 => ?_) (fun c149 => ?_)
      · skip
        refine lv_iconst (v := 0) (pc := 156) hx hb dX7_makes_156 (by decide) ?_
        exact hJ _ (by rw [if_pos c149])
      · skip
        refine lv_iload_n (pc := 152) hx hb dX7_makes_152 rfl (lv_at hl 0 rfl) ?_
        refine lv_goto (tgt := 157) (pc := 153) hx hb dX7_makes_153 (by decide) ?_
        exact hJ _ (by rw [if_neg c149])
    refine lv_iadd (pc := 157) hx hb dX7_makes_157 ?_
    obtain ⟨hi51, h⟩ := h
    refine m_iast (pc := 158) C hK hP hS hk49 hi51 dX7_makes_158 (fun M52 H locs eM52 hP hS => ?_)
    replace h := h M52 eM52
    refine lv_aload_n (pc := 159) hx hb dX7_makes_159 rfl (lv_at hl 1 rfl) ?_
    refine lv_iload_n (pc := 160) hx hb dX7_makes_160 rfl (lv_at hl 2 rfl) ?_
    refine m_callVV (pc := 161) (y := yX7_dropsJob) (κ := 7) (As := [.int p1]) (rest := []) C hK hP hS hl.1 ⟨Nat.zero_le _, Nat.zero_le _⟩ (c_X7_dropsJob h) rfl rfl hk2 (by decide) rfl q_1055 q_1057 q_s49 q_8 q_1058 ⟨rfl, rfl⟩ yd_X7_dropsJob ⟨Nat.le_of_ble_eq_true rfl, Nat.le_of_ble_eq_true rfl⟩ (Nat.le_of_ble_eq_true rfl) dX7_makes_161 (fun M53 H locs h hP hS => ?_)
    exact m_vret (pc := 164) C hr hlk hP hS dX7_makes_164 h
/-! ForgeHeatsModel.presses (I)V -/
def wp_X7_presses (n : Nat) (M : Mem) (i : Nat) (p1 : Int32) (P : Mem → Prop) : Prop := m_tp n i 7 ∧ (wp_X7_job0 n M i p1 1 (fun r3 M1 => wp_X7_job0 n M1 i p1 2 (fun r5 M4 => wp_X7_billet0 n M4 i 6 1 (fun r7 M6 => wp_X7_isFit n M6 i r3 (fun z9 M8 => ((z9 = false → wp_X7_goesBack n M8 i (fun M10 => P M10)) ∧ (z9 = true → wp_X7_heatOf n M8 i r5 1 (fun r13 M12 => ((r13 ≤ r7 → wp_X7_heatOf n M12 i r5 2 (fun r15 M14 => ∀ v16 : Int32, v16 = (r15 - r7) → (∃ j17 : Nat, M14.2.1 i 1 = some j17 ∧ (m_tp n j17 8 ∧ (vp_in 9 (m_len j17) ∧ (vp_in 9 (m_len j17) ∧ (∀ M21 : Mem, M21 = uI M14 j17 (9 : Int32).toNatClampNeg ((M14.1 j17 (9 : Int32).toNatClampNeg) + 1) → (∃ j22 : Nat, M21.2.1 i 1 = some j22 ∧ (m_tp n j22 8 ∧ (vp_in ((35 + (5 * r3)) + 2) (m_len j22) ∧ (vp_in ((35 + (5 * r3)) + 2) (m_len j22) ∧ (∀ M26 : Mem, M26 = uI M21 j22 ((35 + (5 * r3)) + 2).toNatClampNeg ((M21.1 j22 ((35 + (5 * r3)) + 2).toNatClampNeg) + (1 + ((if v16 ≤ 0 then 0 else v16) / 100))) → (∃ j27 : Nat, M26.2.1 i 1 = some j27 ∧ (m_tp n j27 8 ∧ (vp_in 1 (m_len j27) ∧ (((20 ≤ (r7 - (M26.1 j27 (1 : Int32).toNatClampNeg)) → ∃ j30 : Nat, M26.2.1 i 1 = some j30 ∧ (m_tp n j30 8 ∧ (vp_in 1 (m_len j30) ∧ (wp_X7_lay n M26 i 6 1 (r7 - (M26.1 j30 (1 : Int32).toNatClampNeg)) (fun M33 => wp_X7_billet0 n M33 i 6 3 (fun r36 M35 => wp_X7_lay n M35 i 6 3 (r36 - 1) (fun M37 => wp_X7_billet0 n M37 i 6 3 (fun r40 M39 => ((¬ r40 = 0 → P M39) ∧ (r40 = 0 → wp_X7_makes n M39 i p1 (fun M41 => P M41))))))))))) ∧ (¬ 20 ≤ (r7 - (M26.1 j27 (1 : Int32).toNatClampNeg)) → wp_X7_lay n M26 i 6 1 20 (fun M43 => wp_X7_billet0 n M43 i 6 3 (fun r46 M45 => wp_X7_lay n M45 i 6 3 (r46 - 1) (fun M47 => wp_X7_billet0 n M47 i 6 3 (fun r50 M49 => ((¬ r50 = 0 → P M49) ∧ (r50 = 0 → wp_X7_makes n M49 i p1 (fun M51 => P M51))))))))))))))))))))))))) ∧ (¬ r13 ≤ r7 → wp_X7_goesBack n M12 i (fun M53 => P M53)))))))))))
abbrev rm_X7_presses : Room := { frames := 5, cells := 0, slots := 0, locals := 107 }
set_option maxHeartbeats 4000000 in
set_option maxRecDepth 100000 in
theorem c_X7_presses {l : Launch} {D : va_G} {cA : Nat → ClassId} {b n : Nat} {M : Mem} {i : Nat} {p1 : Int32} {P : Mem → Prop} (h : wp_X7_presses n M i p1 P) : m_C l D cA b n n M yX7_presses cX7_presses 6 none rm_X7_presses 0 0 [.ref (b + i), .int p1] (rV P) := by
  refine m_enter (by decide) (Nat.le_of_ble_eq_true rfl) (fun p e s m below meth c C hr hlk hnm hK hP hS ls hl => ?_)
  have hx := C.1
  have hb := C.2.1
  have hl : lv_has ls 6 [(0, .ref (b + i)), (1, .int p1)] := hl
  unfold wp_X7_presses at h
  refine lv_aload_n (pc := 0) hx hb dX7_presses_0 rfl (lv_at hl 0 rfl) ?_
  refine lv_iload_n (pc := 1) hx hb dX7_presses_1 rfl (lv_at hl 1 rfl) ?_
  refine lv_iconst (v := 1) (pc := 2) hx hb dX7_presses_2 (by decide) ?_
  obtain ⟨hk2, h⟩ := h
  refine m_callVI (pc := 3) (y := yX7_job0) (κ := 7) (As := [.int p1, .int 1]) (rest := []) C hK hP hS hl.1 ⟨Nat.zero_le _, Nat.zero_le _⟩ (c_X7_job0 h) rfl rfl hk2 (by decide) rfl q_1031 q_1033 q_s43 q_8 q_1034 ⟨rfl, rfl⟩ yd_X7_job0 ⟨Nat.le_of_ble_eq_true rfl, Nat.le_of_ble_eq_true rfl⟩ (Nat.le_of_ble_eq_true rfl) dX7_presses_3 (fun r3 M1 H locs h hP hS => ?_)
  refine lv_istore_n (lv' := [(2, .int r3), (0, .ref (b + i)), (1, .int p1)]) (pc := 6) hx hb dX7_presses_6 rfl hl (by decide) rfl (fun ls hl => ?_)
  refine lv_aload_n (pc := 7) hx hb dX7_presses_7 rfl (lv_at hl 1 rfl) ?_
  refine lv_iload_n (pc := 8) hx hb dX7_presses_8 rfl (lv_at hl 2 rfl) ?_
  refine lv_iconst (v := 2) (pc := 9) hx hb dX7_presses_9 (by decide) ?_
  refine m_callVI (pc := 10) (y := yX7_job0) (κ := 7) (As := [.int p1, .int 2]) (rest := []) C hK hP hS hl.1 ⟨Nat.zero_le _, Nat.zero_le _⟩ (c_X7_job0 h) rfl rfl hk2 (by decide) rfl q_1031 q_1033 q_s43 q_8 q_1034 ⟨rfl, rfl⟩ yd_X7_job0 ⟨Nat.le_of_ble_eq_true rfl, Nat.le_of_ble_eq_true rfl⟩ (Nat.le_of_ble_eq_true rfl) dX7_presses_10 (fun r5 M4 H locs h hP hS => ?_)
  refine lv_istore_n (lv' := [(3, .int r5), (2, .int r3), (0, .ref (b + i)), (1, .int p1)]) (pc := 13) hx hb dX7_presses_13 rfl hl (by decide) rfl (fun ls hl => ?_)
  refine lv_aload_n (pc := 14) hx hb dX7_presses_14 rfl (lv_at hl 2 rfl) ?_
  refine lv_bipush (v := 6) (pc := 15) hx hb dX7_presses_15 (by decide) ?_
  refine lv_iconst (v := 1) (pc := 17) hx hb dX7_presses_17 (by decide) ?_
  refine m_callVI (pc := 18) (y := yX7_billet0) (κ := 7) (As := [.int 6, .int 1]) (rest := []) C hK hP hS hl.1 ⟨Nat.zero_le _, Nat.zero_le _⟩ (c_X7_billet0 h) rfl rfl hk2 (by decide) rfl q_1039 q_1041 q_s45 q_8 q_1042 ⟨rfl, rfl⟩ yd_X7_billet0 ⟨Nat.le_of_ble_eq_true rfl, Nat.le_of_ble_eq_true rfl⟩ (Nat.le_of_ble_eq_true rfl) dX7_presses_18 (fun r7 M6 H locs h hP hS => ?_)
  refine lv_istore (lv' := [(4, .int r7), (3, .int r5), (2, .int r3), (0, .ref (b + i)), (1, .int p1)]) (pc := 21) hx hb dX7_presses_21 hl (by decide) rfl (fun ls hl => ?_)
  refine lv_aload_n (pc := 23) hx hb dX7_presses_23 rfl (lv_at hl 3 rfl) ?_
  refine lv_iload_n (pc := 24) hx hb dX7_presses_24 rfl (lv_at hl 2 rfl) ?_
  refine m_callVZ (pc := 25) (y := yX7_isFit) (κ := 7) (As := [.int r3]) (rest := []) C hK hP hS hl.1 ⟨Nat.zero_le _, Nat.zero_le _⟩ (c_X7_isFit h) rfl rfl hk2 (by decide) rfl q_1118 q_1120 q_s61 q_8 q_1121 ⟨rfl, rfl⟩ yd_X7_isFit ⟨Nat.le_of_ble_eq_true rfl, Nat.le_of_ble_eq_true rfl⟩ (Nat.le_of_ble_eq_true rfl) dX7_presses_25 (fun z9 M8 H locs h hP hS => ?_)
  refine lv_if_eq (tgt := 42) (pc := 28) hx hb dX7_presses_28 (by decide) (fun c28 => ?_) (fun c28 => ?_)
  · replace h := h.1 (bZ0 c28)
    refine lv_aload_n (pc := 42) hx hb dX7_presses_42 rfl (lv_at hl 3 rfl) ?_
    refine m_callVV (pc := 43) (y := yX7_goesBack) (κ := 7) (As := []) (rest := []) C hK hP hS hl.1 ⟨Nat.zero_le _, Nat.zero_le _⟩ (c_X7_goesBack h) rfl rfl hk2 (by decide) rfl q_1138 q_1140 q_s66 q_8 q_1141 ⟨rfl, rfl⟩ yd_X7_goesBack ⟨Nat.le_of_ble_eq_true rfl, Nat.le_of_ble_eq_true rfl⟩ (Nat.le_of_ble_eq_true rfl) dX7_presses_43 (fun M10 H locs h hP hS => ?_)
    exact m_vret (pc := 46) C hr hlk hP hS dX7_presses_46 h
  · replace h := h.2 (bZ1 c28)
    refine lv_iload (pc := 31) hx hb dX7_presses_31 (lv_at hl 0 rfl) ?_
    refine lv_aload_n (pc := 33) hx hb dX7_presses_33 rfl (lv_at hl 3 rfl) ?_
    refine lv_iload_n (pc := 34) hx hb dX7_presses_34 rfl (lv_at hl 1 rfl) ?_
    refine lv_iconst (v := 1) (pc := 35) hx hb dX7_presses_35 (by decide) ?_
    refine m_callVI (pc := 36) (y := yX7_heatOf) (κ := 7) (As := [.int r5, .int 1]) (rest := [.int r7]) C hK hP hS hl.1 ⟨Nat.zero_le _, Nat.zero_le _⟩ (c_X7_heatOf h) rfl rfl hk2 (by decide) rfl q_980 q_982 q_s36 q_8 q_983 ⟨rfl, rfl⟩ yd_X7_heatOf ⟨Nat.le_of_ble_eq_true rfl, Nat.le_of_ble_eq_true rfl⟩ (Nat.le_of_ble_eq_true rfl) dX7_presses_36 (fun r13 M12 H locs h hP hS => ?_)
    refine lv_icmp_ge (tgt := 47) (pc := 39) hx hb dX7_presses_39 (by decide) (fun c39 => ?_) (fun c39 => ?_)
    · replace h := h.1 c39
      refine lv_aload_n (pc := 47) hx hb dX7_presses_47 rfl (lv_at hl 3 rfl) ?_
      refine lv_iload_n (pc := 48) hx hb dX7_presses_48 rfl (lv_at hl 1 rfl) ?_
      refine lv_iconst (v := 2) (pc := 49) hx hb dX7_presses_49 (by decide) ?_
      refine m_callVI (pc := 50) (y := yX7_heatOf) (κ := 7) (As := [.int r5, .int 2]) (rest := []) C hK hP hS hl.1 ⟨Nat.zero_le _, Nat.zero_le _⟩ (c_X7_heatOf h) rfl rfl hk2 (by decide) rfl q_980 q_982 q_s36 q_8 q_983 ⟨rfl, rfl⟩ yd_X7_heatOf ⟨Nat.le_of_ble_eq_true rfl, Nat.le_of_ble_eq_true rfl⟩ (Nat.le_of_ble_eq_true rfl) dX7_presses_50 (fun r15 M14 H locs h hP hS => ?_)
      refine lv_iload (pc := 53) hx hb dX7_presses_53 (lv_at hl 0 rfl) ?_
      refine lv_isub (pc := 55) hx hb dX7_presses_55 ?_
      refine lv_topi (fun v16 ev16 => ?_)
      replace h := h v16 ev16
      refine lv_istore (lv' := [(5, .int v16), (4, .int r7), (3, .int r5), (2, .int r3), (0, .ref (b + i)), (1, .int p1)]) (pc := 56) hx hb dX7_presses_56 hl (by decide) rfl (fun ls hl => ?_)
      refine lv_aload_n (pc := 58) hx hb dX7_presses_58 rfl (lv_at hl 4 rfl) ?_
      obtain ⟨j17, hj17, h⟩ := h
      refine gX7_7 (pc := 59) C hK hP hk2 hj17 dX7_presses_59 ?_
      refine lv_bipush (v := 9) (pc := 62) hx hb dX7_presses_62 (by decide) ?_
      refine lv_dup2_11 (pc := 64) hx hb dX7_presses_64 rfl rfl ?_
      obtain ⟨hk18, h⟩ := h
      obtain ⟨hi19, h⟩ := h
      refine m_iald (pc := 65) C hK hP hk18 hi19 dX7_presses_65 ?_
      refine lv_iconst (v := 1) (pc := 66) hx hb dX7_presses_66 (by decide) ?_
      refine lv_iadd (pc := 67) hx hb dX7_presses_67 ?_
      obtain ⟨hi20, h⟩ := h
      refine m_iast (pc := 68) C hK hP hS hk18 hi20 dX7_presses_68 (fun M21 H locs eM21 hP hS => ?_)
      replace h := h M21 eM21
      refine lv_aload_n (pc := 69) hx hb dX7_presses_69 rfl (lv_at hl 4 rfl) ?_
      obtain ⟨j22, hj22, h⟩ := h
      refine gX7_7 (pc := 70) C hK hP hk2 hj22 dX7_presses_70 ?_
      refine lv_bipush (v := 35) (pc := 73) hx hb dX7_presses_73 (by decide) ?_
      refine lv_iconst (v := 5) (pc := 75) hx hb dX7_presses_75 (by decide) ?_
      refine lv_iload_n (pc := 76) hx hb dX7_presses_76 rfl (lv_at hl 3 rfl) ?_
      refine lv_imul (pc := 77) hx hb dX7_presses_77 ?_
      refine lv_iadd (pc := 78) hx hb dX7_presses_78 ?_
      refine lv_iconst (v := 2) (pc := 79) hx hb dX7_presses_79 (by decide) ?_
      refine lv_iadd (pc := 80) hx hb dX7_presses_80 ?_
      refine lv_dup2_11 (pc := 81) hx hb dX7_presses_81 rfl rfl ?_
      obtain ⟨hk23, h⟩ := h
      obtain ⟨hi24, h⟩ := h
      refine m_iald (pc := 82) C hK hP hk23 hi24 dX7_presses_82 ?_
      refine lv_iconst (v := 1) (pc := 83) hx hb dX7_presses_83 (by decide) ?_
      refine lv_iload (pc := 84) hx hb dX7_presses_84 (lv_at hl 0 rfl) ?_
      refine m_join (v := if v16 ≤ 0 then 0 else v16) (jp := 95) (rest := [.int 1, .int (M21.1 j22 ((35 + (5 * r3)) + 2).toNatClampNeg), .int ((35 + (5 * r3)) + 2), .ref (b + j22)]) ?_ (fun hJ => ?_)
      rotate_left
      · skip
        refine lv_if_le (tgt := 94) (pc := 86) hx hb dX7_presses_86 (by decide) (fun c86 => ?_) (fun c86 => ?_)
        · skip
          refine lv_iconst (v := 0) (pc := 94) hx hb dX7_presses_94 (by decide) ?_
          exact hJ _ (by rw [if_pos c86])
        · skip
          refine lv_iload (pc := 89) hx hb dX7_presses_89 (lv_at hl 0 rfl) ?_
          refine lv_goto (tgt := 95) (pc := 91) hx hb dX7_presses_91 (by decide) ?_
          exact hJ _ (by rw [if_neg c86])
      refine lv_bipush (v := 100) (pc := 95) hx hb dX7_presses_95 (by decide) ?_
      refine lv_idiv (pc := 97) hx hb dX7_presses_97 (by decide) ?_
      refine lv_iadd (pc := 98) hx hb dX7_presses_98 ?_
      refine lv_iadd (pc := 99) hx hb dX7_presses_99 ?_
      obtain ⟨hi25, h⟩ := h
      refine m_iast (pc := 100) C hK hP hS hk23 hi25 dX7_presses_100 (fun M26 H locs eM26 hP hS => ?_)
      replace h := h M26 eM26
      refine lv_aload_n (pc := 101) hx hb dX7_presses_101 rfl (lv_at hl 4 rfl) ?_
      refine lv_bipush (v := 6) (pc := 102) hx hb dX7_presses_102 (by decide) ?_
      refine lv_iconst (v := 1) (pc := 104) hx hb dX7_presses_104 (by decide) ?_
      refine lv_iload (pc := 105) hx hb dX7_presses_105 (lv_at hl 1 rfl) ?_
      refine lv_aload_n (pc := 107) hx hb dX7_presses_107 rfl (lv_at hl 4 rfl) ?_
      obtain ⟨j27, hj27, h⟩ := h
      refine gX7_7 (pc := 108) C hK hP hk2 hj27 dX7_presses_108 ?_
      refine lv_iconst (v := 1) (pc := 111) hx hb dX7_presses_111 (by decide) ?_
      obtain ⟨hk28, h⟩ := h
      obtain ⟨hi29, h⟩ := h
      refine m_iald (pc := 112) C hK hP hk28 hi29 dX7_presses_112 ?_
      refine lv_isub (pc := 113) hx hb dX7_presses_113 ?_
      refine lv_bipush (v := 20) (pc := 114) hx hb dX7_presses_114 (by decide) ?_
      refine lv_icmp_ge (tgt := 124) (pc := 116) hx hb dX7_presses_116 (by decide) (fun c116 => ?_) (fun c116 => ?_)
      · replace h := h.1 c116
        refine lv_iload (pc := 124) hx hb dX7_presses_124 (lv_at hl 1 rfl) ?_
        refine lv_aload_n (pc := 126) hx hb dX7_presses_126 rfl (lv_at hl 4 rfl) ?_
        obtain ⟨j30, hj30, h⟩ := h
        refine gX7_7 (pc := 127) C hK hP hk2 hj30 dX7_presses_127 ?_
        refine lv_iconst (v := 1) (pc := 130) hx hb dX7_presses_130 (by decide) ?_
        obtain ⟨hk31, h⟩ := h
        obtain ⟨hi32, h⟩ := h
        refine m_iald (pc := 131) C hK hP hk31 hi32 dX7_presses_131 ?_
        refine lv_isub (pc := 132) hx hb dX7_presses_132 ?_
        refine m_callVV (pc := 133) (y := yX7_lay) (κ := 7) (As := [.int 6, .int 1, .int (r7 - (M26.1 j30 (1 : Int32).toNatClampNeg))]) (rest := []) C hK hP hS hl.1 ⟨Nat.zero_le _, Nat.zero_le _⟩ (c_X7_lay h) rfl rfl hk2 (by decide) rfl q_1051 q_1053 q_s48 q_8 q_1054 ⟨rfl, rfl⟩ yd_X7_lay ⟨Nat.le_of_ble_eq_true rfl, Nat.le_of_ble_eq_true rfl⟩ (Nat.le_of_ble_eq_true rfl) dX7_presses_133 (fun M33 H locs h hP hS => ?_)
        refine lv_aload_n (pc := 136) hx hb dX7_presses_136 rfl (lv_at hl 4 rfl) ?_
        refine lv_bipush (v := 6) (pc := 137) hx hb dX7_presses_137 (by decide) ?_
        refine lv_iconst (v := 3) (pc := 139) hx hb dX7_presses_139 (by decide) ?_
        refine lv_aload_n (pc := 140) hx hb dX7_presses_140 rfl (lv_at hl 4 rfl) ?_
        refine lv_bipush (v := 6) (pc := 141) hx hb dX7_presses_141 (by decide) ?_
        refine lv_iconst (v := 3) (pc := 143) hx hb dX7_presses_143 (by decide) ?_
        refine m_callVI (pc := 144) (y := yX7_billet0) (κ := 7) (As := [.int 6, .int 3]) (rest := [.int 3, .int 6, .ref (b + i)]) C hK hP hS hl.1 ⟨Nat.zero_le _, Nat.zero_le _⟩ (c_X7_billet0 h) rfl rfl hk2 (by decide) rfl q_1039 q_1041 q_s45 q_8 q_1042 ⟨rfl, rfl⟩ yd_X7_billet0 ⟨Nat.le_of_ble_eq_true rfl, Nat.le_of_ble_eq_true rfl⟩ (Nat.le_of_ble_eq_true rfl) dX7_presses_144 (fun r36 M35 H locs h hP hS => ?_)
        refine lv_iconst (v := 1) (pc := 147) hx hb dX7_presses_147 (by decide) ?_
        refine lv_isub (pc := 148) hx hb dX7_presses_148 ?_
        refine m_callVV (pc := 149) (y := yX7_lay) (κ := 7) (As := [.int 6, .int 3, .int (r36 - 1)]) (rest := []) C hK hP hS hl.1 ⟨Nat.zero_le _, Nat.zero_le _⟩ (c_X7_lay h) rfl rfl hk2 (by decide) rfl q_1051 q_1053 q_s48 q_8 q_1054 ⟨rfl, rfl⟩ yd_X7_lay ⟨Nat.le_of_ble_eq_true rfl, Nat.le_of_ble_eq_true rfl⟩ (Nat.le_of_ble_eq_true rfl) dX7_presses_149 (fun M37 H locs h hP hS => ?_)
        refine lv_aload_n (pc := 152) hx hb dX7_presses_152 rfl (lv_at hl 4 rfl) ?_
        refine lv_bipush (v := 6) (pc := 153) hx hb dX7_presses_153 (by decide) ?_
        refine lv_iconst (v := 3) (pc := 155) hx hb dX7_presses_155 (by decide) ?_
        refine m_callVI (pc := 156) (y := yX7_billet0) (κ := 7) (As := [.int 6, .int 3]) (rest := []) C hK hP hS hl.1 ⟨Nat.zero_le _, Nat.zero_le _⟩ (c_X7_billet0 h) rfl rfl hk2 (by decide) rfl q_1039 q_1041 q_s45 q_8 q_1042 ⟨rfl, rfl⟩ yd_X7_billet0 ⟨Nat.le_of_ble_eq_true rfl, Nat.le_of_ble_eq_true rfl⟩ (Nat.le_of_ble_eq_true rfl) dX7_presses_156 (fun r40 M39 H locs h hP hS => ?_)
        refine lv_if_ne (tgt := 167) (pc := 159) hx hb dX7_presses_159 (by decide) (fun c159 => ?_) (fun c159 => ?_)
        · replace h := h.1 c159
          exact m_vret (pc := 167) C hr hlk hP hS dX7_presses_167 h
        · replace h := h.2 c159
          refine lv_aload_n (pc := 162) hx hb dX7_presses_162 rfl (lv_at hl 4 rfl) ?_
          refine lv_iload_n (pc := 163) hx hb dX7_presses_163 rfl (lv_at hl 5 rfl) ?_
          refine m_callVV (pc := 164) (y := yX7_makes) (κ := 7) (As := [.int p1]) (rest := []) C hK hP hS hl.1 ⟨Nat.zero_le _, Nat.zero_le _⟩ (c_X7_makes h) rfl rfl hk2 (by decide) rfl q_1142 q_1144 q_s67 q_8 q_1145 ⟨rfl, rfl⟩ yd_X7_makes ⟨Nat.le_of_ble_eq_true rfl, Nat.le_of_ble_eq_true rfl⟩ (Nat.le_of_ble_eq_true rfl) dX7_presses_164 (fun M41 H locs h hP hS => ?_)
          exact m_vret (pc := 167) C hr hlk hP hS dX7_presses_167 h
      · replace h := h.2 c116
        refine lv_bipush (v := 20) (pc := 119) hx hb dX7_presses_119 (by decide) ?_
        refine lv_goto (tgt := 133) (pc := 121) hx hb dX7_presses_121 (by decide) ?_
        refine m_callVV (pc := 133) (y := yX7_lay) (κ := 7) (As := [.int 6, .int 1, .int 20]) (rest := []) C hK hP hS hl.1 ⟨Nat.zero_le _, Nat.zero_le _⟩ (c_X7_lay h) rfl rfl hk2 (by decide) rfl q_1051 q_1053 q_s48 q_8 q_1054 ⟨rfl, rfl⟩ yd_X7_lay ⟨Nat.le_of_ble_eq_true rfl, Nat.le_of_ble_eq_true rfl⟩ (Nat.le_of_ble_eq_true rfl) dX7_presses_133 (fun M43 H locs h hP hS => ?_)
        refine lv_aload_n (pc := 136) hx hb dX7_presses_136 rfl (lv_at hl 4 rfl) ?_
        refine lv_bipush (v := 6) (pc := 137) hx hb dX7_presses_137 (by decide) ?_
        refine lv_iconst (v := 3) (pc := 139) hx hb dX7_presses_139 (by decide) ?_
        refine lv_aload_n (pc := 140) hx hb dX7_presses_140 rfl (lv_at hl 4 rfl) ?_
        refine lv_bipush (v := 6) (pc := 141) hx hb dX7_presses_141 (by decide) ?_
        refine lv_iconst (v := 3) (pc := 143) hx hb dX7_presses_143 (by decide) ?_
        refine m_callVI (pc := 144) (y := yX7_billet0) (κ := 7) (As := [.int 6, .int 3]) (rest := [.int 3, .int 6, .ref (b + i)]) C hK hP hS hl.1 ⟨Nat.zero_le _, Nat.zero_le _⟩ (c_X7_billet0 h) rfl rfl hk2 (by decide) rfl q_1039 q_1041 q_s45 q_8 q_1042 ⟨rfl, rfl⟩ yd_X7_billet0 ⟨Nat.le_of_ble_eq_true rfl, Nat.le_of_ble_eq_true rfl⟩ (Nat.le_of_ble_eq_true rfl) dX7_presses_144 (fun r46 M45 H locs h hP hS => ?_)
        refine lv_iconst (v := 1) (pc := 147) hx hb dX7_presses_147 (by decide) ?_
        refine lv_isub (pc := 148) hx hb dX7_presses_148 ?_
        refine m_callVV (pc := 149) (y := yX7_lay) (κ := 7) (As := [.int 6, .int 3, .int (r46 - 1)]) (rest := []) C hK hP hS hl.1 ⟨Nat.zero_le _, Nat.zero_le _⟩ (c_X7_lay h) rfl rfl hk2 (by decide) rfl q_1051 q_1053 q_s48 q_8 q_1054 ⟨rfl, rfl⟩ yd_X7_lay ⟨Nat.le_of_ble_eq_true rfl, Nat.le_of_ble_eq_true rfl⟩ (Nat.le_of_ble_eq_true rfl) dX7_presses_149 (fun M47 H locs h hP hS => ?_)
        refine lv_aload_n (pc := 152) hx hb dX7_presses_152 rfl (lv_at hl 4 rfl) ?_
        refine lv_bipush (v := 6) (pc := 153) hx hb dX7_presses_153 (by decide) ?_
        refine lv_iconst (v := 3) (pc := 155) hx hb dX7_presses_155 (by decide) ?_
        refine m_callVI (pc := 156) (y := yX7_billet0) (κ := 7) (As := [.int 6, .int 3]) (rest := []) C hK hP hS hl.1 ⟨Nat.zero_le _, Nat.zero_le _⟩ (c_X7_billet0 h) rfl rfl hk2 (by decide) rfl q_1039 q_1041 q_s45 q_8 q_1042 ⟨rfl, rfl⟩ yd_X7_billet0 ⟨Nat.le_of_ble_eq_true rfl, Nat.le_of_ble_eq_true rfl⟩ (Nat.le_of_ble_eq_true rfl) dX7_presses_156 (fun r50 M49 H locs h hP hS => ?_)
        refine lv_if_ne (tgt := 167) (pc := 159) hx hb dX7_presses_159 (by decide) (fun c159 => ?_) (fun c159 => ?_)
        · replace h := h.1 c159
          exact m_vret (pc := 167) C hr hlk hP hS dX7_presses_167 h
        · replace h := h.2 c159
          refine lv_aload_n (pc := 162) hx hb dX7_presses_162 rfl (lv_at hl 4 rfl) ?_
          refine lv_iload_n (pc := 163) hx hb dX7_presses_163 rfl (lv_at hl 5 rfl) ?_
          refine m_callVV (pc := 164) (y := yX7_makes) (κ := 7) (As := [.int p1]) (rest := []) C hK hP hS hl.1 ⟨Nat.zero_le _, Nat.zero_le _⟩ (c_X7_makes h) rfl rfl hk2 (by decide) rfl q_1142 q_1144 q_s67 q_8 q_1145 ⟨rfl, rfl⟩ yd_X7_makes ⟨Nat.le_of_ble_eq_true rfl, Nat.le_of_ble_eq_true rfl⟩ (Nat.le_of_ble_eq_true rfl) dX7_presses_164 (fun M51 H locs h hP hS => ?_)
          exact m_vret (pc := 167) C hr hlk hP hS dX7_presses_167 h
    · replace h := h.2 c39
      refine lv_aload_n (pc := 42) hx hb dX7_presses_42 rfl (lv_at hl 3 rfl) ?_
      refine m_callVV (pc := 43) (y := yX7_goesBack) (κ := 7) (As := []) (rest := []) C hK hP hS hl.1 ⟨Nat.zero_le _, Nat.zero_le _⟩ (c_X7_goesBack h) rfl rfl hk2 (by decide) rfl q_1138 q_1140 q_s66 q_8 q_1141 ⟨rfl, rfl⟩ yd_X7_goesBack ⟨Nat.le_of_ble_eq_true rfl, Nat.le_of_ble_eq_true rfl⟩ (Nat.le_of_ble_eq_true rfl) dX7_presses_43 (fun M53 H locs h hP hS => ?_)
      exact m_vret (pc := 46) C hr hlk hP hS dX7_presses_46 h
/-! ForgeHeatsModel.hottest (I)I -/
def wpB_X7_hottest_4 (n : Nat) (P : Int32 → Mem → Prop) (R_ : Mem → Nat → Int32 → Int32 → Int32 → Prop) (M : Mem) (x0 : Nat) (x1 : Int32) (x2 : Int32) (x3 : Int32) : Prop := ((6 ≤ x3 → P x2 M) ∧ (¬ 6 ≤ x3 → m_tp n x0 7 ∧ (wp_X7_jobOn n M x0 x3 (fun r3 M1 => ((¬ r3 = x1 → (((0 : Int32) = 0 → ∀ v4 : Int32, v4 = x3 + 1 → (R_ M1 x0 x1 x2 v4)) ∧ (¬ (0 : Int32) = 0 → ((x2 = (-1) → ∀ v5 : Int32, v5 = x3 + 1 → (R_ M1 x0 x1 x3 v5)) ∧ (¬ x2 = (-1) → wp_X7_billet0 n M1 x0 x3 1 (fun r7 M6 => wp_X7_billet0 n M6 x0 x2 1 (fun r9 M8 => ∀ v10 : Int32, v10 = (if r7 ≤ r9 then x2 else x3) → (∀ v11 : Int32, v11 = x3 + 1 → (R_ M8 x0 x1 v10 v11))))))))) ∧ (r3 = x1 → wp_X7_billet0 n M1 x0 x3 1 (fun r13 M12 => wp_X7_job0 n M12 x0 x1 2 (fun r15 M14 => wp_X7_heatOf n M14 x0 r15 2 (fun r17 M16 => (((if r13 < r17 then false else true) = false → ∀ v18 : Int32, v18 = x3 + 1 → (R_ M16 x0 x1 x2 v18)) ∧ ((if r13 < r17 then false else true) = true → ((x2 = (-1) → ∀ v19 : Int32, v19 = x3 + 1 → (R_ M16 x0 x1 x3 v19)) ∧ (¬ x2 = (-1) → wp_X7_billet0 n M16 x0 x3 1 (fun r21 M20 => wp_X7_billet0 n M20 x0 x2 1 (fun r23 M22 => ∀ v24 : Int32, v24 = (if r21 ≤ r23 then x2 else x3) → (∀ v25 : Int32, v25 = x3 + 1 → (R_ M22 x0 x1 v24 v25)))))))))))))))))
def wpL_X7_hottest_4 (n : Nat) (P : Int32 → Mem → Prop) : Nat → Mem → Nat → Int32 → Int32 → Int32 → Prop
  | 0 => fun _ _ _ _ _ => False
  | f + 1 => fun M x0 x1 x2 x3 => wpB_X7_hottest_4 n P (wpL_X7_hottest_4 n P f) M x0 x1 x2 x3
def wp_X7_hottest (n : Nat) (M : Mem) (i : Nat) (p1 : Int32) (P : Int32 → Mem → Prop) : Prop := ∃ f : Nat, wpL_X7_hottest_4 n P f M i p1 (-1) 0
abbrev rm_X7_hottest : Room := { frames := 3, cells := 0, slots := 0, locals := 65 }
set_option maxHeartbeats 4000000 in
set_option maxRecDepth 100000 in
theorem c_X7_hottest {l : Launch} {D : va_G} {cA : Nat → ClassId} {b n : Nat} {M : Mem} {i : Nat} {p1 : Int32} {P : Int32 → Mem → Prop} (h : wp_X7_hottest n M i p1 P) : m_C l D cA b n n M yX7_hottest cX7_hottest 5 (some .int) rm_X7_hottest 0 0 [.ref (b + i), .int p1] (rI P) := by
  refine m_enter (by decide) (Nat.le_of_ble_eq_true rfl) (fun p e s m below meth c C hr hlk hnm hK hP hS ls hl => ?_)
  have hx := C.1
  have hb := C.2.1
  have hl : lv_has ls 5 [(0, .ref (b + i)), (1, .int p1)] := hl
  have L4 : ∀ f : Nat, ∀ (M : Mem) (H : Heap) (locs : List Loc) (ls : Array Slot) (x0 : Nat) (x1 : Int32) (x2 : Int32) (x3 : Int32), wpL_X7_hottest_4 n P f M x0 x1 x2 x3 → m_H D cA b n M H → va_S (m_A b) s.heap H locs → lv_has ls 5 [(0, .ref (b + x0)), (1, .int x1), (2, .int x2), (3, .int x3)] → W p l e rm_X7_hottest s m ([.ref (b + i), .int p1] : List Value).toArray below meth c H locs 0 0 (MQ below (m_Q D cA b n (rI P)) ([.ref (b + i), .int p1] : List Value).toArray s 0 0 (m_A b)) (F0 m 4 ls []) := by
    clear h
    intro f
    induction f with
    | zero => intro M H locs ls x0 x1 x2 x3 h; exact h.elim
    | succ f ih =>
      intro M H locs ls x0 x1 x2 x3 h hP hS hl
      have h : wpB_X7_hottest_4 n P (wpL_X7_hottest_4 n P f) M x0 x1 x2 x3 := h
      unfold wpB_X7_hottest_4 at h
      refine lv_iload_n (pc := 4) hx hb dX7_hottest_4 rfl (lv_at hl 3 rfl) ?_
      refine lv_bipush (v := 6) (pc := 5) hx hb dX7_hottest_5 (by decide) ?_
      refine lv_icmp_ge (tgt := 83) (pc := 7) hx hb dX7_hottest_7 (by decide) (fun c7 => ?_) (fun c7 => ?_)
      · replace h := h.1 c7
        refine lv_iload_n (pc := 83) hx hb dX7_hottest_83 rfl (lv_at hl 2 rfl) ?_
        exact m_iret (v := x2) (pc := 84) C hr hlk hP hS dX7_hottest_84 h
      · replace h := h.2 c7
        refine lv_aload_n (pc := 10) hx hb dX7_hottest_10 rfl (lv_at hl 0 rfl) ?_
        refine lv_iload_n (pc := 11) hx hb dX7_hottest_11 rfl (lv_at hl 3 rfl) ?_
        obtain ⟨hk2, h⟩ := h
        refine m_callVI (pc := 12) (y := yX7_jobOn) (κ := 7) (As := [.int x3]) (rest := []) C hK hP hS hl.1 ⟨Nat.zero_le _, Nat.zero_le _⟩ (c_X7_jobOn h) rfl rfl hk2 (by decide) rfl q_1035 q_1037 q_s44 q_8 q_1038 ⟨rfl, rfl⟩ yd_X7_jobOn ⟨Nat.le_of_ble_eq_true rfl, Nat.le_of_ble_eq_true rfl⟩ (Nat.le_of_ble_eq_true rfl) dX7_hottest_12 (fun r3 M1 H locs h hP hS => ?_)
        refine lv_iload_n (pc := 15) hx hb dX7_hottest_15 rfl (lv_at hl 1 rfl) ?_
        refine lv_icmp_ne (tgt := 43) (pc := 16) hx hb dX7_hottest_16 (by decide) (fun c16 => ?_) (fun c16 => ?_)
        · replace h := h.1 c16
          refine lv_iconst (v := 0) (pc := 43) hx hb dX7_hottest_43 (by decide) ?_
          refine lv_istore (lv' := [(4, .int 0), (0, .ref (b + x0)), (1, .int x1), (2, .int x2), (3, .int x3)]) (pc := 44) hx hb dX7_hottest_44 hl (by decide) rfl (fun ls hl => ?_)
          refine lv_iload (pc := 46) hx hb dX7_hottest_46 (lv_at hl 0 rfl) ?_
          refine lv_if_eq (tgt := 75) (pc := 48) hx hb dX7_hottest_48 (by decide) (fun c48 => ?_) (fun c48 => ?_)
          · replace h := h.1 c48
            refine lv_iload_n (pc := 75) hx hb dX7_hottest_75 rfl (lv_at hl 3 rfl) ?_
            refine lv_istore_n (lv' := [(2, .int x2), (4, .int 0), (0, .ref (b + x0)), (1, .int x1), (3, .int x3)]) (pc := 76) hx hb dX7_hottest_76 rfl hl (by decide) rfl (fun ls hl => ?_)
            obtain ⟨v4, ev4⟩ : ∃ y : Int32, y = x3 + 1 := ⟨_, rfl⟩
            replace h := h v4 ev4
            refine lv_iinc (v := v4) (lv' := [(3, .int v4), (2, .int x2), (4, .int 0), (0, .ref (b + x0)), (1, .int x1)]) (pc := 77) hx hb dX7_hottest_77 hl (k := 4) rfl (by rw [ev4]; rfl) (by decide) rfl (fun ls hl => ?_)
            refine lv_goto (tgt := 4) (pc := 80) hx hb dX7_hottest_80 (by decide) ?_
            exact ih _ _ _ _ _ _ _ _ h hP hS (lv_sub hl [3, 4, 1, 0] rfl)
          · replace h := h.2 c48
            refine lv_iload_n (pc := 51) hx hb dX7_hottest_51 rfl (lv_at hl 3 rfl) ?_
            refine lv_iconst (v := -1) (pc := 52) hx hb dX7_hottest_52 (by decide) ?_
            refine lv_icmp_eq (tgt := 71) (pc := 53) hx hb dX7_hottest_53 (by decide) (fun c53 => ?_) (fun c53 => ?_)
            · replace h := h.1 c53
              refine lv_iload_n (pc := 71) hx hb dX7_hottest_71 rfl (lv_at hl 4 rfl) ?_
              refine lv_goto (tgt := 76) (pc := 72) hx hb dX7_hottest_72 (by decide) ?_
              refine lv_istore_n (lv' := [(2, .int x3), (4, .int 0), (0, .ref (b + x0)), (1, .int x1), (3, .int x3)]) (pc := 76) hx hb dX7_hottest_76 rfl hl (by decide) rfl (fun ls hl => ?_)
              obtain ⟨v5, ev5⟩ : ∃ y : Int32, y = x3 + 1 := ⟨_, rfl⟩
              replace h := h v5 ev5
              refine lv_iinc (v := v5) (lv' := [(3, .int v5), (2, .int x3), (4, .int 0), (0, .ref (b + x0)), (1, .int x1)]) (pc := 77) hx hb dX7_hottest_77 hl (k := 4) rfl (by rw [ev5]; rfl) (by decide) rfl (fun ls hl => ?_)
              refine lv_goto (tgt := 4) (pc := 80) hx hb dX7_hottest_80 (by decide) ?_
              exact ih _ _ _ _ _ _ _ _ h hP hS (lv_sub hl [3, 4, 1, 0] rfl)
            · replace h := h.2 c53
              refine lv_aload_n (pc := 56) hx hb dX7_hottest_56 rfl (lv_at hl 1 rfl) ?_
              refine lv_iload_n (pc := 57) hx hb dX7_hottest_57 rfl (lv_at hl 4 rfl) ?_
              refine lv_iconst (v := 1) (pc := 58) hx hb dX7_hottest_58 (by decide) ?_
              refine m_callVI (pc := 59) (y := yX7_billet0) (κ := 7) (As := [.int x3, .int 1]) (rest := []) C hK hP hS hl.1 ⟨Nat.zero_le _, Nat.zero_le _⟩ (c_X7_billet0 h) rfl rfl hk2 (by decide) rfl q_1039 q_1041 q_s45 q_8 q_1042 ⟨rfl, rfl⟩ yd_X7_billet0 ⟨Nat.le_of_ble_eq_true rfl, Nat.le_of_ble_eq_true rfl⟩ (Nat.le_of_ble_eq_true rfl) dX7_hottest_59 (fun r7 M6 H locs h hP hS => ?_)
              refine lv_aload_n (pc := 62) hx hb dX7_hottest_62 rfl (lv_at hl 1 rfl) ?_
              refine lv_iload_n (pc := 63) hx hb dX7_hottest_63 rfl (lv_at hl 3 rfl) ?_
              refine lv_iconst (v := 1) (pc := 64) hx hb dX7_hottest_64 (by decide) ?_
              refine m_callVI (pc := 65) (y := yX7_billet0) (κ := 7) (As := [.int x2, .int 1]) (rest := [.int r7]) C hK hP hS hl.1 ⟨Nat.zero_le _, Nat.zero_le _⟩ (c_X7_billet0 h) rfl rfl hk2 (by decide) rfl q_1039 q_1041 q_s45 q_8 q_1042 ⟨rfl, rfl⟩ yd_X7_billet0 ⟨Nat.le_of_ble_eq_true rfl, Nat.le_of_ble_eq_true rfl⟩ (Nat.le_of_ble_eq_true rfl) dX7_hottest_65 (fun r9 M8 H locs h hP hS => ?_)
              refine m_join (v := if r7 ≤ r9 then x2 else x3) (jp := 76) (rest := []) ?_ (fun hJ => ?_)
              rotate_left
              · skip
                refine lv_icmp_le (tgt := 75) (pc := 68) hx hb dX7_hottest_68 (by decide) (fun c68 => ?_) (fun c68 => ?_)
                · skip
                  refine lv_iload_n (pc := 75) hx hb dX7_hottest_75 rfl (lv_at hl 3 rfl) ?_
                  exact hJ _ (by rw [if_pos c68])
                · skip
                  refine lv_iload_n (pc := 71) hx hb dX7_hottest_71 rfl (lv_at hl 4 rfl) ?_
                  refine lv_goto (tgt := 76) (pc := 72) hx hb dX7_hottest_72 (by decide) ?_
                  exact hJ _ (by rw [if_neg c68])
              refine lv_topi (fun v10 ev10 => ?_)
              replace h := h v10 ev10
              refine lv_istore_n (lv' := [(2, .int v10), (4, .int 0), (0, .ref (b + x0)), (1, .int x1), (3, .int x3)]) (pc := 76) hx hb dX7_hottest_76 rfl hl (by decide) rfl (fun ls hl => ?_)
              obtain ⟨v11, ev11⟩ : ∃ y : Int32, y = x3 + 1 := ⟨_, rfl⟩
              replace h := h v11 ev11
              refine lv_iinc (v := v11) (lv' := [(3, .int v11), (2, .int v10), (4, .int 0), (0, .ref (b + x0)), (1, .int x1)]) (pc := 77) hx hb dX7_hottest_77 hl (k := 4) rfl (by rw [ev11]; rfl) (by decide) rfl (fun ls hl => ?_)
              refine lv_goto (tgt := 4) (pc := 80) hx hb dX7_hottest_80 (by decide) ?_
              exact ih _ _ _ _ _ _ _ _ h hP hS (lv_sub hl [3, 4, 1, 0] rfl)
        · replace h := h.2 c16
          refine lv_aload_n (pc := 19) hx hb dX7_hottest_19 rfl (lv_at hl 0 rfl) ?_
          refine lv_iload_n (pc := 20) hx hb dX7_hottest_20 rfl (lv_at hl 3 rfl) ?_
          refine lv_iconst (v := 1) (pc := 21) hx hb dX7_hottest_21 (by decide) ?_
          refine m_callVI (pc := 22) (y := yX7_billet0) (κ := 7) (As := [.int x3, .int 1]) (rest := []) C hK hP hS hl.1 ⟨Nat.zero_le _, Nat.zero_le _⟩ (c_X7_billet0 h) rfl rfl hk2 (by decide) rfl q_1039 q_1041 q_s45 q_8 q_1042 ⟨rfl, rfl⟩ yd_X7_billet0 ⟨Nat.le_of_ble_eq_true rfl, Nat.le_of_ble_eq_true rfl⟩ (Nat.le_of_ble_eq_true rfl) dX7_hottest_22 (fun r13 M12 H locs h hP hS => ?_)
          refine lv_aload_n (pc := 25) hx hb dX7_hottest_25 rfl (lv_at hl 0 rfl) ?_
          refine lv_aload_n (pc := 26) hx hb dX7_hottest_26 rfl (lv_at hl 0 rfl) ?_
          refine lv_iload_n (pc := 27) hx hb dX7_hottest_27 rfl (lv_at hl 1 rfl) ?_
          refine lv_iconst (v := 2) (pc := 28) hx hb dX7_hottest_28 (by decide) ?_
          refine m_callVI (pc := 29) (y := yX7_job0) (κ := 7) (As := [.int x1, .int 2]) (rest := [.ref (b + x0), .int r13]) C hK hP hS hl.1 ⟨Nat.zero_le _, Nat.zero_le _⟩ (c_X7_job0 h) rfl rfl hk2 (by decide) rfl q_1031 q_1033 q_s43 q_8 q_1034 ⟨rfl, rfl⟩ yd_X7_job0 ⟨Nat.le_of_ble_eq_true rfl, Nat.le_of_ble_eq_true rfl⟩ (Nat.le_of_ble_eq_true rfl) dX7_hottest_29 (fun r15 M14 H locs h hP hS => ?_)
          refine lv_iconst (v := 2) (pc := 32) hx hb dX7_hottest_32 (by decide) ?_
          refine m_callVI (pc := 33) (y := yX7_heatOf) (κ := 7) (As := [.int r15, .int 2]) (rest := [.int r13]) C hK hP hS hl.1 ⟨Nat.zero_le _, Nat.zero_le _⟩ (c_X7_heatOf h) rfl rfl hk2 (by decide) rfl q_980 q_982 q_s36 q_8 q_983 ⟨rfl, rfl⟩ yd_X7_heatOf ⟨Nat.le_of_ble_eq_true rfl, Nat.le_of_ble_eq_true rfl⟩ (Nat.le_of_ble_eq_true rfl) dX7_hottest_33 (fun r17 M16 H locs h hP hS => ?_)
          refine m_joinZ (z := if r13 < r17 then false else true) (jp := 44) (rest := []) ?_ (fun hJ => ?_)
          rotate_left
          · skip
            refine lv_icmp_lt (tgt := 43) (pc := 36) hx hb dX7_hottest_36 (by decide) (fun c36 => ?_) (fun c36 => ?_)
            · skip
              refine lv_iconst (v := 0) (pc := 43) hx hb dX7_hottest_43 (by decide) ?_
              exact hJ _ false rfl (by rw [if_pos c36])
            · skip
              refine lv_iconst (v := 1) (pc := 39) hx hb dX7_hottest_39 (by decide) ?_
              refine lv_goto (tgt := 44) (pc := 40) hx hb dX7_hottest_40 (by decide) ?_
              exact hJ _ true rfl (by rw [if_neg c36])
          refine lv_istore (lv' := [(4, .int (bI (if r13 < r17 then false else true))), (0, .ref (b + x0)), (1, .int x1), (2, .int x2), (3, .int x3)]) (pc := 44) hx hb dX7_hottest_44 hl (by decide) rfl (fun ls hl => ?_)
          refine lv_iload (pc := 46) hx hb dX7_hottest_46 (lv_at hl 0 rfl) ?_
          refine lv_if_eq (tgt := 75) (pc := 48) hx hb dX7_hottest_48 (by decide) (fun c48 => ?_) (fun c48 => ?_)
          · replace h := h.1 (bZ0 c48)
            refine lv_iload_n (pc := 75) hx hb dX7_hottest_75 rfl (lv_at hl 3 rfl) ?_
            refine lv_istore_n (lv' := [(2, .int x2), (4, .int (bI (if r13 < r17 then false else true))), (0, .ref (b + x0)), (1, .int x1), (3, .int x3)]) (pc := 76) hx hb dX7_hottest_76 rfl hl (by decide) rfl (fun ls hl => ?_)
            obtain ⟨v18, ev18⟩ : ∃ y : Int32, y = x3 + 1 := ⟨_, rfl⟩
            replace h := h v18 ev18
            refine lv_iinc (v := v18) (lv' := [(3, .int v18), (2, .int x2), (4, .int (bI (if r13 < r17 then false else true))), (0, .ref (b + x0)), (1, .int x1)]) (pc := 77) hx hb dX7_hottest_77 hl (k := 4) rfl (by rw [ev18]; rfl) (by decide) rfl (fun ls hl => ?_)
            refine lv_goto (tgt := 4) (pc := 80) hx hb dX7_hottest_80 (by decide) ?_
            exact ih _ _ _ _ _ _ _ _ h hP hS (lv_sub hl [3, 4, 1, 0] rfl)
          · replace h := h.2 (bZ1 c48)
            refine lv_iload_n (pc := 51) hx hb dX7_hottest_51 rfl (lv_at hl 3 rfl) ?_
            refine lv_iconst (v := -1) (pc := 52) hx hb dX7_hottest_52 (by decide) ?_
            refine lv_icmp_eq (tgt := 71) (pc := 53) hx hb dX7_hottest_53 (by decide) (fun c53 => ?_) (fun c53 => ?_)
            · replace h := h.1 c53
              refine lv_iload_n (pc := 71) hx hb dX7_hottest_71 rfl (lv_at hl 4 rfl) ?_
              refine lv_goto (tgt := 76) (pc := 72) hx hb dX7_hottest_72 (by decide) ?_
              refine lv_istore_n (lv' := [(2, .int x3), (4, .int (bI (if r13 < r17 then false else true))), (0, .ref (b + x0)), (1, .int x1), (3, .int x3)]) (pc := 76) hx hb dX7_hottest_76 rfl hl (by decide) rfl (fun ls hl => ?_)
              obtain ⟨v19, ev19⟩ : ∃ y : Int32, y = x3 + 1 := ⟨_, rfl⟩
              replace h := h v19 ev19
              refine lv_iinc (v := v19) (lv' := [(3, .int v19), (2, .int x3), (4, .int (bI (if r13 < r17 then false else true))), (0, .ref (b + x0)), (1, .int x1)]) (pc := 77) hx hb dX7_hottest_77 hl (k := 4) rfl (by rw [ev19]; rfl) (by decide) rfl (fun ls hl => ?_)
              refine lv_goto (tgt := 4) (pc := 80) hx hb dX7_hottest_80 (by decide) ?_
              exact ih _ _ _ _ _ _ _ _ h hP hS (lv_sub hl [3, 4, 1, 0] rfl)
            · replace h := h.2 c53
              refine lv_aload_n (pc := 56) hx hb dX7_hottest_56 rfl (lv_at hl 1 rfl) ?_
              refine lv_iload_n (pc := 57) hx hb dX7_hottest_57 rfl (lv_at hl 4 rfl) ?_
              refine lv_iconst (v := 1) (pc := 58) hx hb dX7_hottest_58 (by decide) ?_
              refine m_callVI (pc := 59) (y := yX7_billet0) (κ := 7) (As := [.int x3, .int 1]) (rest := []) C hK hP hS hl.1 ⟨Nat.zero_le _, Nat.zero_le _⟩ (c_X7_billet0 h) rfl rfl hk2 (by decide) rfl q_1039 q_1041 q_s45 q_8 q_1042 ⟨rfl, rfl⟩ yd_X7_billet0 ⟨Nat.le_of_ble_eq_true rfl, Nat.le_of_ble_eq_true rfl⟩ (Nat.le_of_ble_eq_true rfl) dX7_hottest_59 (fun r21 M20 H locs h hP hS => ?_)
              refine lv_aload_n (pc := 62) hx hb dX7_hottest_62 rfl (lv_at hl 1 rfl) ?_
              refine lv_iload_n (pc := 63) hx hb dX7_hottest_63 rfl (lv_at hl 3 rfl) ?_
              refine lv_iconst (v := 1) (pc := 64) hx hb dX7_hottest_64 (by decide) ?_
              refine m_callVI (pc := 65) (y := yX7_billet0) (κ := 7) (As := [.int x2, .int 1]) (rest := [.int r21]) C hK hP hS hl.1 ⟨Nat.zero_le _, Nat.zero_le _⟩ (c_X7_billet0 h) rfl rfl hk2 (by decide) rfl q_1039 q_1041 q_s45 q_8 q_1042 ⟨rfl, rfl⟩ yd_X7_billet0 ⟨Nat.le_of_ble_eq_true rfl, Nat.le_of_ble_eq_true rfl⟩ (Nat.le_of_ble_eq_true rfl) dX7_hottest_65 (fun r23 M22 H locs h hP hS => ?_)
              refine m_join (v := if r21 ≤ r23 then x2 else x3) (jp := 76) (rest := []) ?_ (fun hJ => ?_)
              rotate_left
              · skip
                refine lv_icmp_le (tgt := 75) (pc := 68) hx hb dX7_hottest_68 (by decide) (fun c68 => ?_) (fun c68 => ?_)
                · skip
                  refine lv_iload_n (pc := 75) hx hb dX7_hottest_75 rfl (lv_at hl 3 rfl) ?_
                  exact hJ _ (by rw [if_pos c68])
                · skip
                  refine lv_iload_n (pc := 71) hx hb dX7_hottest_71 rfl (lv_at hl 4 rfl) ?_
                  refine lv_goto (tgt := 76) (pc := 72) hx hb dX7_hottest_72 (by decide) ?_
                  exact hJ _ (by rw [if_neg c68])
              refine lv_topi (fun v24 ev24 => ?_)
              replace h := h v24 ev24
              refine lv_istore_n (lv' := [(2, .int v24), (4, .int (bI (if r13 < r17 then false else true))), (0, .ref (b + x0)), (1, .int x1), (3, .int x3)]) (pc := 76) hx hb dX7_hottest_76 rfl hl (by decide) rfl (fun ls hl => ?_)
              obtain ⟨v25, ev25⟩ : ∃ y : Int32, y = x3 + 1 := ⟨_, rfl⟩
              replace h := h v25 ev25
              refine lv_iinc (v := v25) (lv' := [(3, .int v25), (2, .int v24), (4, .int (bI (if r13 < r17 then false else true))), (0, .ref (b + x0)), (1, .int x1)]) (pc := 77) hx hb dX7_hottest_77 hl (k := 4) rfl (by rw [ev25]; rfl) (by decide) rfl (fun ls hl => ?_)
              refine lv_goto (tgt := 4) (pc := 80) hx hb dX7_hottest_80 (by decide) ?_
              exact ih _ _ _ _ _ _ _ _ h hP hS (lv_sub hl [3, 4, 1, 0] rfl)
  unfold wp_X7_hottest at h
  refine lv_iconst (v := -1) (pc := 0) hx hb dX7_hottest_0 (by decide) ?_
  refine lv_istore_n (lv' := [(2, .int (-1)), (0, .ref (b + i)), (1, .int p1)]) (pc := 1) hx hb dX7_hottest_1 rfl hl (by decide) rfl (fun ls hl => ?_)
  refine lv_iconst (v := 0) (pc := 2) hx hb dX7_hottest_2 (by decide) ?_
  refine lv_istore_n (lv' := [(3, .int 0), (2, .int (-1)), (0, .ref (b + i)), (1, .int p1)]) (pc := 3) hx hb dX7_hottest_3 rfl hl (by decide) rfl (fun ls hl => ?_)
  obtain ⟨f, h⟩ := h
  exact L4 f _ _ _ _ _ _ _ _ h hP hS (lv_sub hl [2, 3, 1, 0] rfl)
/-! ForgeHeatsModel.takes ()V -/
def wpB_X7_takes_2 (n : Nat) (P : Mem → Prop) (R_ : Mem → Nat → Int32 → Prop) (M : Mem) (x0 : Nat) (x1 : Int32) : Prop := m_tp n x0 7 ∧ (∃ j2 : Nat, M.2.1 x0 1 = some j2 ∧ (m_tp n j2 8 ∧ (vp_in 5 (m_len j2) ∧ ((((M.1 j2 (5 : Int32).toNatClampNeg) ≤ x1 → P M) ∧ (¬ (M.1 j2 (5 : Int32).toNatClampNeg) ≤ x1 → wp_X7_jobAt n M x0 x1 (fun r6 M5 => wp_X7_job0 n M5 x0 r6 1 (fun r8 M7 => wp_X7_isFit n M7 x0 r8 (fun z10 M9 => ((z10 = false → ((((-1) : Int32) = (-1) → ∀ v11 : Int32, v11 = x1 + 1 → (R_ M9 x0 v11)) ∧ (¬ ((-1) : Int32) = (-1) → wp_X7_moves n M9 x0 (-1) 6 (fun M12 => P M12)))) ∧ (z10 = true → wp_X7_hottest n M9 x0 r6 (fun r15 M14 => ((r15 = (-1) → ∀ v16 : Int32, v16 = x1 + 1 → (R_ M14 x0 v16)) ∧ (¬ r15 = (-1) → wp_X7_moves n M14 x0 r15 6 (fun M17 => P M17)))))))))))))))
def wpL_X7_takes_2 (n : Nat) (P : Mem → Prop) : Nat → Mem → Nat → Int32 → Prop
  | 0 => fun _ _ _ => False
  | f + 1 => fun M x0 x1 => wpB_X7_takes_2 n P (wpL_X7_takes_2 n P f) M x0 x1
def wp_X7_takes (n : Nat) (M : Mem) (i : Nat) (P : Mem → Prop) : Prop := ∃ f : Nat, wpL_X7_takes_2 n P f M i 0
abbrev rm_X7_takes : Room := { frames := 4, cells := 0, slots := 0, locals := 91 }
set_option maxHeartbeats 4000000 in
set_option maxRecDepth 100000 in
theorem c_X7_takes {l : Launch} {D : va_G} {cA : Nat → ClassId} {b n : Nat} {M : Mem} {i : Nat} {P : Mem → Prop} (h : wp_X7_takes n M i P) : m_C l D cA b n n M yX7_takes cX7_takes 4 none rm_X7_takes 0 0 [.ref (b + i)] (rV P) := by
  refine m_enter (by decide) (Nat.le_of_ble_eq_true rfl) (fun p e s m below meth c C hr hlk hnm hK hP hS ls hl => ?_)
  have hx := C.1
  have hb := C.2.1
  have hl : lv_has ls 4 [(0, .ref (b + i))] := hl
  have L2 : ∀ f : Nat, ∀ (M : Mem) (H : Heap) (locs : List Loc) (ls : Array Slot) (x0 : Nat) (x1 : Int32), wpL_X7_takes_2 n P f M x0 x1 → m_H D cA b n M H → va_S (m_A b) s.heap H locs → lv_has ls 4 [(0, .ref (b + x0)), (1, .int x1)] → W p l e rm_X7_takes s m ([.ref (b + i)] : List Value).toArray below meth c H locs 0 0 (MQ below (m_Q D cA b n (rV P)) ([.ref (b + i)] : List Value).toArray s 0 0 (m_A b)) (F0 m 2 ls []) := by
    clear h
    intro f
    induction f with
    | zero => intro M H locs ls x0 x1 h; exact h.elim
    | succ f ih =>
      intro M H locs ls x0 x1 h hP hS hl
      have h : wpB_X7_takes_2 n P (wpL_X7_takes_2 n P f) M x0 x1 := h
      unfold wpB_X7_takes_2 at h
      refine lv_iload_n (pc := 2) hx hb dX7_takes_2 rfl (lv_at hl 1 rfl) ?_
      refine lv_aload_n (pc := 3) hx hb dX7_takes_3 rfl (lv_at hl 0 rfl) ?_
      obtain ⟨hk1, h⟩ := h
      obtain ⟨j2, hj2, h⟩ := h
      refine gX7_7 (pc := 4) C hK hP hk1 hj2 dX7_takes_4 ?_
      refine lv_iconst (v := 5) (pc := 7) hx hb dX7_takes_7 (by decide) ?_
      obtain ⟨hk3, h⟩ := h
      obtain ⟨hi4, h⟩ := h
      refine m_iald (pc := 8) C hK hP hk3 hi4 dX7_takes_8 ?_
      refine lv_icmp_ge (tgt := 60) (pc := 9) hx hb dX7_takes_9 (by decide) (fun c9 => ?_) (fun c9 => ?_)
      · replace h := h.1 c9
        exact m_vret (pc := 60) C hr hlk hP hS dX7_takes_60 h
      · replace h := h.2 c9
        refine lv_aload_n (pc := 12) hx hb dX7_takes_12 rfl (lv_at hl 0 rfl) ?_
        refine lv_iload_n (pc := 13) hx hb dX7_takes_13 rfl (lv_at hl 1 rfl) ?_
        refine m_callVI (pc := 14) (y := yX7_jobAt) (κ := 7) (As := [.int x1]) (rest := []) C hK hP hS hl.1 ⟨Nat.zero_le _, Nat.zero_le _⟩ (c_X7_jobAt h) rfl rfl hk1 (by decide) rfl q_1102 q_1104 q_s57 q_8 q_1105 ⟨rfl, rfl⟩ yd_X7_jobAt ⟨Nat.le_of_ble_eq_true rfl, Nat.le_of_ble_eq_true rfl⟩ (Nat.le_of_ble_eq_true rfl) dX7_takes_14 (fun r6 M5 H locs h hP hS => ?_)
        refine lv_istore_n (lv' := [(2, .int r6), (0, .ref (b + x0)), (1, .int x1)]) (pc := 17) hx hb dX7_takes_17 rfl hl (by decide) rfl (fun ls hl => ?_)
        refine lv_aload_n (pc := 18) hx hb dX7_takes_18 rfl (lv_at hl 1 rfl) ?_
        refine lv_aload_n (pc := 19) hx hb dX7_takes_19 rfl (lv_at hl 1 rfl) ?_
        refine lv_iload_n (pc := 20) hx hb dX7_takes_20 rfl (lv_at hl 0 rfl) ?_
        refine lv_iconst (v := 1) (pc := 21) hx hb dX7_takes_21 (by decide) ?_
        refine m_callVI (pc := 22) (y := yX7_job0) (κ := 7) (As := [.int r6, .int 1]) (rest := [.ref (b + x0)]) C hK hP hS hl.1 ⟨Nat.zero_le _, Nat.zero_le _⟩ (c_X7_job0 h) rfl rfl hk1 (by decide) rfl q_1031 q_1033 q_s43 q_8 q_1034 ⟨rfl, rfl⟩ yd_X7_job0 ⟨Nat.le_of_ble_eq_true rfl, Nat.le_of_ble_eq_true rfl⟩ (Nat.le_of_ble_eq_true rfl) dX7_takes_22 (fun r8 M7 H locs h hP hS => ?_)
        refine m_callVZ (pc := 25) (y := yX7_isFit) (κ := 7) (As := [.int r8]) (rest := []) C hK hP hS hl.1 ⟨Nat.zero_le _, Nat.zero_le _⟩ (c_X7_isFit h) rfl rfl hk1 (by decide) rfl q_1118 q_1120 q_s61 q_8 q_1121 ⟨rfl, rfl⟩ yd_X7_isFit ⟨Nat.le_of_ble_eq_true rfl, Nat.le_of_ble_eq_true rfl⟩ (Nat.le_of_ble_eq_true rfl) dX7_takes_25 (fun z10 M9 H locs h hP hS => ?_)
        refine lv_if_eq (tgt := 39) (pc := 28) hx hb dX7_takes_28 (by decide) (fun c28 => ?_) (fun c28 => ?_)
        · replace h := h.1 (bZ0 c28)
          refine lv_iconst (v := -1) (pc := 39) hx hb dX7_takes_39 (by decide) ?_
          refine lv_istore_n (lv' := [(3, .int (-1)), (2, .int r6), (0, .ref (b + x0)), (1, .int x1)]) (pc := 40) hx hb dX7_takes_40 rfl hl (by decide) rfl (fun ls hl => ?_)
          refine lv_iload_n (pc := 41) hx hb dX7_takes_41 rfl (lv_at hl 0 rfl) ?_
          refine lv_iconst (v := -1) (pc := 42) hx hb dX7_takes_42 (by decide) ?_
          refine lv_icmp_eq (tgt := 54) (pc := 43) hx hb dX7_takes_43 (by decide) (fun c43 => ?_) (fun c43 => ?_)
          · replace h := h.1 c43
            obtain ⟨v11, ev11⟩ : ∃ y : Int32, y = x1 + 1 := ⟨_, rfl⟩
            replace h := h v11 ev11
            refine lv_iinc (v := v11) (lv' := [(1, .int v11), (3, .int (-1)), (2, .int r6), (0, .ref (b + x0))]) (pc := 54) hx hb dX7_takes_54 hl (k := 3) rfl (by rw [ev11]; rfl) (by decide) rfl (fun ls hl => ?_)
            refine lv_goto (tgt := 2) (pc := 57) hx hb dX7_takes_57 (by decide) ?_
            exact ih _ _ _ _ _ _ h hP hS (lv_sub hl [3, 0] rfl)
          · replace h := h.2 c43
            refine lv_aload_n (pc := 46) hx hb dX7_takes_46 rfl (lv_at hl 2 rfl) ?_
            refine lv_iload_n (pc := 47) hx hb dX7_takes_47 rfl (lv_at hl 0 rfl) ?_
            refine lv_bipush (v := 6) (pc := 48) hx hb dX7_takes_48 (by decide) ?_
            refine m_callVV (pc := 50) (y := yX7_moves) (κ := 7) (As := [.int (-1), .int 6]) (rest := []) C hK hP hS hl.1 ⟨Nat.zero_le _, Nat.zero_le _⟩ (c_X7_moves h) rfl rfl hk1 (by decide) rfl q_1130 q_1132 q_s64 q_8 q_1133 ⟨rfl, rfl⟩ yd_X7_moves ⟨Nat.le_of_ble_eq_true rfl, Nat.le_of_ble_eq_true rfl⟩ (Nat.le_of_ble_eq_true rfl) dX7_takes_50 (fun M12 H locs h hP hS => ?_)
            exact m_vret (pc := 53) C hr hlk hP hS dX7_takes_53 h
        · replace h := h.2 (bZ1 c28)
          refine lv_aload_n (pc := 31) hx hb dX7_takes_31 rfl (lv_at hl 1 rfl) ?_
          refine lv_iload_n (pc := 32) hx hb dX7_takes_32 rfl (lv_at hl 0 rfl) ?_
          refine m_callVI (pc := 33) (y := yX7_hottest) (κ := 7) (As := [.int r6]) (rest := []) C hK hP hS hl.1 ⟨Nat.zero_le _, Nat.zero_le _⟩ (c_X7_hottest h) rfl rfl hk1 (by decide) rfl q_1126 q_1128 q_s63 q_8 q_1129 ⟨rfl, rfl⟩ yd_X7_hottest ⟨Nat.le_of_ble_eq_true rfl, Nat.le_of_ble_eq_true rfl⟩ (Nat.le_of_ble_eq_true rfl) dX7_takes_33 (fun r15 M14 H locs h hP hS => ?_)
          refine lv_goto (tgt := 40) (pc := 36) hx hb dX7_takes_36 (by decide) ?_
          refine lv_istore_n (lv' := [(3, .int r15), (2, .int r6), (0, .ref (b + x0)), (1, .int x1)]) (pc := 40) hx hb dX7_takes_40 rfl hl (by decide) rfl (fun ls hl => ?_)
          refine lv_iload_n (pc := 41) hx hb dX7_takes_41 rfl (lv_at hl 0 rfl) ?_
          refine lv_iconst (v := -1) (pc := 42) hx hb dX7_takes_42 (by decide) ?_
          refine lv_icmp_eq (tgt := 54) (pc := 43) hx hb dX7_takes_43 (by decide) (fun c43 => ?_) (fun c43 => ?_)
          · replace h := h.1 c43
            obtain ⟨v16, ev16⟩ : ∃ y : Int32, y = x1 + 1 := ⟨_, rfl⟩
            replace h := h v16 ev16
            refine lv_iinc (v := v16) (lv' := [(1, .int v16), (3, .int r15), (2, .int r6), (0, .ref (b + x0))]) (pc := 54) hx hb dX7_takes_54 hl (k := 3) rfl (by rw [ev16]; rfl) (by decide) rfl (fun ls hl => ?_)
            refine lv_goto (tgt := 2) (pc := 57) hx hb dX7_takes_57 (by decide) ?_
            exact ih _ _ _ _ _ _ h hP hS (lv_sub hl [3, 0] rfl)
          · replace h := h.2 c43
            refine lv_aload_n (pc := 46) hx hb dX7_takes_46 rfl (lv_at hl 2 rfl) ?_
            refine lv_iload_n (pc := 47) hx hb dX7_takes_47 rfl (lv_at hl 0 rfl) ?_
            refine lv_bipush (v := 6) (pc := 48) hx hb dX7_takes_48 (by decide) ?_
            refine m_callVV (pc := 50) (y := yX7_moves) (κ := 7) (As := [.int r15, .int 6]) (rest := []) C hK hP hS hl.1 ⟨Nat.zero_le _, Nat.zero_le _⟩ (c_X7_moves h) rfl rfl hk1 (by decide) rfl q_1130 q_1132 q_s64 q_8 q_1133 ⟨rfl, rfl⟩ yd_X7_moves ⟨Nat.le_of_ble_eq_true rfl, Nat.le_of_ble_eq_true rfl⟩ (Nat.le_of_ble_eq_true rfl) dX7_takes_50 (fun M17 H locs h hP hS => ?_)
            exact m_vret (pc := 53) C hr hlk hP hS dX7_takes_53 h
  unfold wp_X7_takes at h
  refine lv_iconst (v := 0) (pc := 0) hx hb dX7_takes_0 (by decide) ?_
  refine lv_istore_n (lv' := [(1, .int 0), (0, .ref (b + i))]) (pc := 1) hx hb dX7_takes_1 rfl hl (by decide) rfl (fun ls hl => ?_)
  obtain ⟨f, h⟩ := h
  exact L2 f _ _ _ _ _ _ h hP hS (lv_sub hl [1, 0] rfl)
/-! ForgeHeatsModel.begins (I)V -/
def wp_X7_begins (n : Nat) (M : Mem) (i : Nat) (p1 : Int32) (P : Mem → Prop) : Prop := m_tp n i 7 ∧ (∃ j2 : Nat, M.2.1 i 1 = some j2 ∧ (m_tp n j2 8 ∧ (vp_in 13 (m_len j2) ∧ (∀ M5 : Mem, M5 = uI M j2 (13 : Int32).toNatClampNeg (p1 + 1) → (∃ j6 : Nat, M5.2.1 i 1 = some j6 ∧ (∃ j7 : Nat, M5.2.1 i 1 = some j7 ∧ (m_tp n j7 8 ∧ (vp_in 3 (m_len j7) ∧ (m_tp n j6 8 ∧ (vp_in 14 (m_len j6) ∧ (∀ M12 : Mem, M12 = uI M5 j6 (14 : Int32).toNatClampNeg (M5.1 j7 (3 : Int32).toNatClampNeg) → (P M12))))))))))))
abbrev rm_X7_begins : Room := { frames := 0, cells := 0, slots := 0, locals := 0 }
set_option maxHeartbeats 4000000 in
set_option maxRecDepth 100000 in
theorem c_X7_begins {l : Launch} {D : va_G} {cA : Nat → ClassId} {b n : Nat} {M : Mem} {i : Nat} {p1 : Int32} {P : Mem → Prop} (h : wp_X7_begins n M i p1 P) : m_C l D cA b n n M yX7_begins cX7_begins 2 none rm_X7_begins 0 0 [.ref (b + i), .int p1] (rV P) := by
  refine m_enter (by decide) (Nat.le_of_ble_eq_true rfl) (fun p e s m below meth c C hr hlk hnm hK hP hS ls hl => ?_)
  have hx := C.1
  have hb := C.2.1
  have hl : lv_has ls 2 [(0, .ref (b + i)), (1, .int p1)] := hl
  unfold wp_X7_begins at h
  refine lv_aload_n (pc := 0) hx hb dX7_begins_0 rfl (lv_at hl 0 rfl) ?_
  obtain ⟨hk1, h⟩ := h
  obtain ⟨j2, hj2, h⟩ := h
  refine gX7_7 (pc := 1) C hK hP hk1 hj2 dX7_begins_1 ?_
  refine lv_bipush (v := 13) (pc := 4) hx hb dX7_begins_4 (by decide) ?_
  refine lv_iload_n (pc := 6) hx hb dX7_begins_6 rfl (lv_at hl 1 rfl) ?_
  refine lv_iconst (v := 1) (pc := 7) hx hb dX7_begins_7 (by decide) ?_
  refine lv_iadd (pc := 8) hx hb dX7_begins_8 ?_
  obtain ⟨hk3, h⟩ := h
  obtain ⟨hi4, h⟩ := h
  refine m_iast (pc := 9) C hK hP hS hk3 hi4 dX7_begins_9 (fun M5 H locs eM5 hP hS => ?_)
  replace h := h M5 eM5
  refine lv_aload_n (pc := 10) hx hb dX7_begins_10 rfl (lv_at hl 0 rfl) ?_
  obtain ⟨j6, hj6, h⟩ := h
  refine gX7_7 (pc := 11) C hK hP hk1 hj6 dX7_begins_11 ?_
  refine lv_bipush (v := 14) (pc := 14) hx hb dX7_begins_14 (by decide) ?_
  refine lv_aload_n (pc := 16) hx hb dX7_begins_16 rfl (lv_at hl 0 rfl) ?_
  obtain ⟨j7, hj7, h⟩ := h
  refine gX7_7 (pc := 17) C hK hP hk1 hj7 dX7_begins_17 ?_
  refine lv_iconst (v := 3) (pc := 20) hx hb dX7_begins_20 (by decide) ?_
  obtain ⟨hk8, h⟩ := h
  obtain ⟨hi9, h⟩ := h
  refine m_iald (pc := 21) C hK hP hk8 hi9 dX7_begins_21 ?_
  obtain ⟨hk10, h⟩ := h
  obtain ⟨hi11, h⟩ := h
  refine m_iast (pc := 22) C hK hP hS hk10 hi11 dX7_begins_22 (fun M12 H locs eM12 hP hS => ?_)
  replace h := h M12 eM12
  exact m_vret (pc := 23) C hr hlk hP hS dX7_begins_23 h
/-! ForgeHeatsModel.stock (II)I -/
def wp_X7_stock (n : Nat) (M : Mem) (i : Nat) (p1 : Int32) (p2 : Int32) (P : Int32 → Mem → Prop) : Prop := m_tp n i 7 ∧ (∀ M2 : Mem, M2 = uI M i 0 0 → (wp_X7_isHeat n M2 p1 (fun z4 M3 => ((z4 = true → wp_X7_in n M3 p2 1 99 (fun z6 M5 => ((z6 = true → wp_X7_heatOf n M5 i p1 0 (fun r8 M7 => (((r8 + p2) ≤ 200 → wp_X7_saves n M7 i (fun M9 => ∃ j11 : Nat, M9.2.1 i 1 = some j11 ∧ (m_tp n j11 8 ∧ (vp_in ((15 + (5 * p1)) + 0) (m_len j11) ∧ (vp_in ((15 + (5 * p1)) + 0) (m_len j11) ∧ (∀ M15 : Mem, M15 = uI M9 j11 ((15 + (5 * p1)) + 0).toNatClampNeg ((M9.1 j11 ((15 + (5 * p1)) + 0).toNatClampNeg) + p2) → (wp_X7_heatOf n M15 i p1 0 (fun r17 M16 => P r17 M16)))))))) ∧ (¬ (r8 + p2) ≤ 200 → wp_X7_fails n M7 i 3 (fun r19 M18 => P r19 M18))))) ∧ (z6 = false → wp_X7_fails n M5 i 2 (fun r21 M20 => P r21 M20))))) ∧ (z4 = false → wp_X7_fails n M3 i 1 (fun r23 M22 => P r23 M22))))))
abbrev rm_X7_stock : Room := { frames := 2, cells := 0, slots := 0, locals := 42 }
set_option maxHeartbeats 4000000 in
set_option maxRecDepth 100000 in
theorem c_X7_stock {l : Launch} {D : va_G} {cA : Nat → ClassId} {b n : Nat} {M : Mem} {i : Nat} {p1 : Int32} {p2 : Int32} {P : Int32 → Mem → Prop} (h : wp_X7_stock n M i p1 p2 P) : m_C l D cA b n n M yX7_stock cX7_stock 3 (some .int) rm_X7_stock 0 0 [.ref (b + i), .int p1, .int p2] (rI P) := by
  refine m_enter (by decide) (Nat.le_of_ble_eq_true rfl) (fun p e s m below meth c C hr hlk hnm hK hP hS ls hl => ?_)
  have hx := C.1
  have hb := C.2.1
  have hl : lv_has ls 3 [(0, .ref (b + i)), (1, .int p1), (2, .int p2)] := hl
  unfold wp_X7_stock at h
  refine lv_aload_n (pc := 0) hx hb dX7_stock_0 rfl (lv_at hl 0 rfl) ?_
  refine lv_iconst (v := 0) (pc := 1) hx hb dX7_stock_1 (by decide) ?_
  obtain ⟨hk1, h⟩ := h
  refine pX7_25 (pc := 2) (v := 0) C hK hP hS hk1 dX7_stock_2 (fun M2 H locs eM2 hP hS => ?_)
  replace h := h M2 eM2
  refine lv_iload_n (pc := 5) hx hb dX7_stock_5 rfl (lv_at hl 1 rfl) ?_
  refine m_callSZ (pc := 6) (y := yX7_isHeat) (As := [.int p1]) (rest := []) C hK hP hS hl.1 ⟨Nat.zero_le _, Nat.zero_le _⟩ (c_X7_isHeat h) rfl rfl q_970 q_971 q_8 q_972 ⟨rfl, rfl⟩ yd_X7_isHeat ⟨Nat.le_of_ble_eq_true rfl, Nat.le_of_ble_eq_true rfl⟩ (Nat.le_of_ble_eq_true rfl) dX7_stock_6 (fun z4 M3 H locs h hP hS => ?_)
  refine lv_if_ne (tgt := 18) (pc := 9) hx hb dX7_stock_9 (by decide) (fun c9 => ?_) (fun c9 => ?_)
  · replace h := h.1 (bZ1 c9)
    refine lv_iload_n (pc := 18) hx hb dX7_stock_18 rfl (lv_at hl 2 rfl) ?_
    refine lv_iconst (v := 1) (pc := 19) hx hb dX7_stock_19 (by decide) ?_
    refine lv_bipush (v := 99) (pc := 20) hx hb dX7_stock_20 (by decide) ?_
    refine m_callSZ (pc := 22) (y := yX7_in) (As := [.int p2, .int 1, .int 99]) (rest := []) C hK hP hS hl.1 ⟨Nat.zero_le _, Nat.zero_le _⟩ (c_X7_in h) rfl rfl q_973 q_974 q_8 q_975 ⟨rfl, rfl⟩ yd_X7_in ⟨Nat.le_of_ble_eq_true rfl, Nat.le_of_ble_eq_true rfl⟩ (Nat.le_of_ble_eq_true rfl) dX7_stock_22 (fun z6 M5 H locs h hP hS => ?_)
    refine lv_if_ne (tgt := 34) (pc := 25) hx hb dX7_stock_25 (by decide) (fun c25 => ?_) (fun c25 => ?_)
    · replace h := h.1 (bZ1 c25)
      refine lv_aload_n (pc := 34) hx hb dX7_stock_34 rfl (lv_at hl 0 rfl) ?_
      refine lv_iload_n (pc := 35) hx hb dX7_stock_35 rfl (lv_at hl 1 rfl) ?_
      refine lv_iconst (v := 0) (pc := 36) hx hb dX7_stock_36 (by decide) ?_
      refine m_callVI (pc := 37) (y := yX7_heatOf) (κ := 7) (As := [.int p1, .int 0]) (rest := []) C hK hP hS hl.1 ⟨Nat.zero_le _, Nat.zero_le _⟩ (c_X7_heatOf h) rfl rfl hk1 (by decide) rfl q_980 q_982 q_s36 q_8 q_983 ⟨rfl, rfl⟩ yd_X7_heatOf ⟨Nat.le_of_ble_eq_true rfl, Nat.le_of_ble_eq_true rfl⟩ (Nat.le_of_ble_eq_true rfl) dX7_stock_37 (fun r8 M7 H locs h hP hS => ?_)
      refine lv_iload_n (pc := 40) hx hb dX7_stock_40 rfl (lv_at hl 2 rfl) ?_
      refine lv_iadd (pc := 41) hx hb dX7_stock_41 ?_
      refine lv_sipush (v := 200) (pc := 42) hx hb dX7_stock_42 (by decide) ?_
      refine lv_icmp_le (tgt := 54) (pc := 45) hx hb dX7_stock_45 (by decide) (fun c45 => ?_) (fun c45 => ?_)
      · replace h := h.1 c45
        refine lv_aload_n (pc := 54) hx hb dX7_stock_54 rfl (lv_at hl 0 rfl) ?_
        refine m_callVV (pc := 55) (y := yX7_saves) (κ := 7) (As := []) (rest := []) C hK hP hS hl.1 ⟨Nat.zero_le _, Nat.zero_le _⟩ (c_X7_saves h) rfl rfl hk1 (by decide) rfl q_984 q_986 q_s37 q_8 q_987 ⟨rfl, rfl⟩ yd_X7_saves ⟨Nat.le_of_ble_eq_true rfl, Nat.le_of_ble_eq_true rfl⟩ (Nat.le_of_ble_eq_true rfl) dX7_stock_55 (fun M9 H locs h hP hS => ?_)
        refine lv_aload_n (pc := 58) hx hb dX7_stock_58 rfl (lv_at hl 0 rfl) ?_
        obtain ⟨j11, hj11, h⟩ := h
        refine gX7_7 (pc := 59) C hK hP hk1 hj11 dX7_stock_59 ?_
        refine lv_bipush (v := 15) (pc := 62) hx hb dX7_stock_62 (by decide) ?_
        refine lv_iconst (v := 5) (pc := 64) hx hb dX7_stock_64 (by decide) ?_
        refine lv_iload_n (pc := 65) hx hb dX7_stock_65 rfl (lv_at hl 1 rfl) ?_
        refine lv_imul (pc := 66) hx hb dX7_stock_66 ?_
        refine lv_iadd (pc := 67) hx hb dX7_stock_67 ?_
        refine lv_iconst (v := 0) (pc := 68) hx hb dX7_stock_68 (by decide) ?_
        refine lv_iadd (pc := 69) hx hb dX7_stock_69 ?_
        refine lv_dup2_11 (pc := 70) hx hb dX7_stock_70 rfl rfl ?_
        obtain ⟨hk12, h⟩ := h
        obtain ⟨hi13, h⟩ := h
        refine m_iald (pc := 71) C hK hP hk12 hi13 dX7_stock_71 ?_
        refine lv_iload_n (pc := 72) hx hb dX7_stock_72 rfl (lv_at hl 2 rfl) ?_
        refine lv_iadd (pc := 73) hx hb dX7_stock_73 ?_
        obtain ⟨hi14, h⟩ := h
        refine m_iast (pc := 74) C hK hP hS hk12 hi14 dX7_stock_74 (fun M15 H locs eM15 hP hS => ?_)
        replace h := h M15 eM15
        refine lv_aload_n (pc := 75) hx hb dX7_stock_75 rfl (lv_at hl 0 rfl) ?_
        refine lv_iload_n (pc := 76) hx hb dX7_stock_76 rfl (lv_at hl 1 rfl) ?_
        refine lv_iconst (v := 0) (pc := 77) hx hb dX7_stock_77 (by decide) ?_
        refine m_callVI (pc := 78) (y := yX7_heatOf) (κ := 7) (As := [.int p1, .int 0]) (rest := []) C hK hP hS hl.1 ⟨Nat.zero_le _, Nat.zero_le _⟩ (c_X7_heatOf h) rfl rfl hk1 (by decide) rfl q_980 q_982 q_s36 q_8 q_983 ⟨rfl, rfl⟩ yd_X7_heatOf ⟨Nat.le_of_ble_eq_true rfl, Nat.le_of_ble_eq_true rfl⟩ (Nat.le_of_ble_eq_true rfl) dX7_stock_78 (fun r17 M16 H locs h hP hS => ?_)
        exact m_iret (v := r17) (pc := 81) C hr hlk hP hS dX7_stock_81 h
      · replace h := h.2 c45
        refine lv_aload_n (pc := 48) hx hb dX7_stock_48 rfl (lv_at hl 0 rfl) ?_
        refine lv_iconst (v := 3) (pc := 49) hx hb dX7_stock_49 (by decide) ?_
        refine m_callVI (pc := 50) (y := yX7_fails) (κ := 7) (As := [.int 3]) (rest := []) C hK hP hS hl.1 ⟨Nat.zero_le _, Nat.zero_le _⟩ (c_X7_fails h) rfl rfl hk1 (by decide) rfl q_976 q_978 q_s35 q_8 q_979 ⟨rfl, rfl⟩ yd_X7_fails ⟨Nat.le_of_ble_eq_true rfl, Nat.le_of_ble_eq_true rfl⟩ (Nat.le_of_ble_eq_true rfl) dX7_stock_50 (fun r19 M18 H locs h hP hS => ?_)
        exact m_iret (v := r19) (pc := 53) C hr hlk hP hS dX7_stock_53 h
    · replace h := h.2 (bZ0 c25)
      refine lv_aload_n (pc := 28) hx hb dX7_stock_28 rfl (lv_at hl 0 rfl) ?_
      refine lv_iconst (v := 2) (pc := 29) hx hb dX7_stock_29 (by decide) ?_
      refine m_callVI (pc := 30) (y := yX7_fails) (κ := 7) (As := [.int 2]) (rest := []) C hK hP hS hl.1 ⟨Nat.zero_le _, Nat.zero_le _⟩ (c_X7_fails h) rfl rfl hk1 (by decide) rfl q_976 q_978 q_s35 q_8 q_979 ⟨rfl, rfl⟩ yd_X7_fails ⟨Nat.le_of_ble_eq_true rfl, Nat.le_of_ble_eq_true rfl⟩ (Nat.le_of_ble_eq_true rfl) dX7_stock_30 (fun r21 M20 H locs h hP hS => ?_)
      exact m_iret (v := r21) (pc := 33) C hr hlk hP hS dX7_stock_33 h
  · replace h := h.2 (bZ0 c9)
    refine lv_aload_n (pc := 12) hx hb dX7_stock_12 rfl (lv_at hl 0 rfl) ?_
    refine lv_iconst (v := 1) (pc := 13) hx hb dX7_stock_13 (by decide) ?_
    refine m_callVI (pc := 14) (y := yX7_fails) (κ := 7) (As := [.int 1]) (rest := []) C hK hP hS hl.1 ⟨Nat.zero_le _, Nat.zero_le _⟩ (c_X7_fails h) rfl rfl hk1 (by decide) rfl q_976 q_978 q_s35 q_8 q_979 ⟨rfl, rfl⟩ yd_X7_fails ⟨Nat.le_of_ble_eq_true rfl, Nat.le_of_ble_eq_true rfl⟩ (Nat.le_of_ble_eq_true rfl) dX7_stock_14 (fun r23 M22 H locs h hP hS => ?_)
    exact m_iret (v := r23) (pc := 17) C hr hlk hP hS dX7_stock_17 h
/-! ForgeHeatsModel.range (III)I -/
def wp_X7_range (n : Nat) (M : Mem) (i : Nat) (p1 : Int32) (p2 : Int32) (p3 : Int32) (P : Int32 → Mem → Prop) : Prop := m_tp n i 7 ∧ (∀ M2 : Mem, M2 = uI M i 0 0 → (wp_X7_isHeat n M2 p1 (fun z4 M3 => ((z4 = true → wp_X7_in n M3 p2 600 1240 (fun z6 M5 => ((z6 = false → wp_X7_fails n M5 i 2 (fun r8 M7 => P r8 M7)) ∧ (z6 = true → wp_X7_in n M5 p3 p2 1240 (fun z10 M9 => ((z10 = true → wp_X7_saves n M9 i (fun M11 => wp_X7_heatOf n M11 i p1 1 (fun r14 M13 => wp_X7_heatOf n M13 i p1 2 (fun r16 M15 => ∀ v17 : Int32, v17 = ((10000 * r14) + r16) → (∃ j18 : Nat, M15.2.1 i 1 = some j18 ∧ (m_tp n j18 8 ∧ (vp_in ((15 + (5 * p1)) + 1) (m_len j18) ∧ (∀ M21 : Mem, M21 = uI M15 j18 ((15 + (5 * p1)) + 1).toNatClampNeg p2 → (∃ j22 : Nat, M21.2.1 i 1 = some j22 ∧ (m_tp n j22 8 ∧ (vp_in ((15 + (5 * p1)) + 2) (m_len j22) ∧ (∀ M25 : Mem, M25 = uI M21 j22 ((15 + (5 * p1)) + 2).toNatClampNeg p3 → (P v17 M25))))))))))))) ∧ (z10 = false → wp_X7_fails n M9 i 2 (fun r27 M26 => P r27 M26)))))))) ∧ (z4 = false → wp_X7_fails n M3 i 1 (fun r29 M28 => P r29 M28))))))
abbrev rm_X7_range : Room := { frames := 2, cells := 0, slots := 0, locals := 42 }
set_option maxHeartbeats 4000000 in
set_option maxRecDepth 100000 in
theorem c_X7_range {l : Launch} {D : va_G} {cA : Nat → ClassId} {b n : Nat} {M : Mem} {i : Nat} {p1 : Int32} {p2 : Int32} {p3 : Int32} {P : Int32 → Mem → Prop} (h : wp_X7_range n M i p1 p2 p3 P) : m_C l D cA b n n M yX7_range cX7_range 5 (some .int) rm_X7_range 0 0 [.ref (b + i), .int p1, .int p2, .int p3] (rI P) := by
  refine m_enter (by decide) (Nat.le_of_ble_eq_true rfl) (fun p e s m below meth c C hr hlk hnm hK hP hS ls hl => ?_)
  have hx := C.1
  have hb := C.2.1
  have hl : lv_has ls 5 [(0, .ref (b + i)), (1, .int p1), (2, .int p2), (3, .int p3)] := hl
  unfold wp_X7_range at h
  refine lv_aload_n (pc := 0) hx hb dX7_range_0 rfl (lv_at hl 0 rfl) ?_
  refine lv_iconst (v := 0) (pc := 1) hx hb dX7_range_1 (by decide) ?_
  obtain ⟨hk1, h⟩ := h
  refine pX7_25 (pc := 2) (v := 0) C hK hP hS hk1 dX7_range_2 (fun M2 H locs eM2 hP hS => ?_)
  replace h := h M2 eM2
  refine lv_iload_n (pc := 5) hx hb dX7_range_5 rfl (lv_at hl 1 rfl) ?_
  refine m_callSZ (pc := 6) (y := yX7_isHeat) (As := [.int p1]) (rest := []) C hK hP hS hl.1 ⟨Nat.zero_le _, Nat.zero_le _⟩ (c_X7_isHeat h) rfl rfl q_970 q_971 q_8 q_972 ⟨rfl, rfl⟩ yd_X7_isHeat ⟨Nat.le_of_ble_eq_true rfl, Nat.le_of_ble_eq_true rfl⟩ (Nat.le_of_ble_eq_true rfl) dX7_range_6 (fun z4 M3 H locs h hP hS => ?_)
  refine lv_if_ne (tgt := 18) (pc := 9) hx hb dX7_range_9 (by decide) (fun c9 => ?_) (fun c9 => ?_)
  · replace h := h.1 (bZ1 c9)
    refine lv_iload_n (pc := 18) hx hb dX7_range_18 rfl (lv_at hl 2 rfl) ?_
    refine lv_sipush (v := 600) (pc := 19) hx hb dX7_range_19 (by decide) ?_
    refine lv_sipush (v := 1240) (pc := 22) hx hb dX7_range_22 (by decide) ?_
    refine m_callSZ (pc := 25) (y := yX7_in) (As := [.int p2, .int 600, .int 1240]) (rest := []) C hK hP hS hl.1 ⟨Nat.zero_le _, Nat.zero_le _⟩ (c_X7_in h) rfl rfl q_973 q_974 q_8 q_975 ⟨rfl, rfl⟩ yd_X7_in ⟨Nat.le_of_ble_eq_true rfl, Nat.le_of_ble_eq_true rfl⟩ (Nat.le_of_ble_eq_true rfl) dX7_range_25 (fun z6 M5 H locs h hP hS => ?_)
    refine lv_if_eq (tgt := 42) (pc := 28) hx hb dX7_range_28 (by decide) (fun c28 => ?_) (fun c28 => ?_)
    · replace h := h.1 (bZ0 c28)
      refine lv_aload_n (pc := 42) hx hb dX7_range_42 rfl (lv_at hl 0 rfl) ?_
      refine lv_iconst (v := 2) (pc := 43) hx hb dX7_range_43 (by decide) ?_
      refine m_callVI (pc := 44) (y := yX7_fails) (κ := 7) (As := [.int 2]) (rest := []) C hK hP hS hl.1 ⟨Nat.zero_le _, Nat.zero_le _⟩ (c_X7_fails h) rfl rfl hk1 (by decide) rfl q_976 q_978 q_s35 q_8 q_979 ⟨rfl, rfl⟩ yd_X7_fails ⟨Nat.le_of_ble_eq_true rfl, Nat.le_of_ble_eq_true rfl⟩ (Nat.le_of_ble_eq_true rfl) dX7_range_44 (fun r8 M7 H locs h hP hS => ?_)
      exact m_iret (v := r8) (pc := 47) C hr hlk hP hS dX7_range_47 h
    · replace h := h.2 (bZ1 c28)
      refine lv_iload_n (pc := 31) hx hb dX7_range_31 rfl (lv_at hl 3 rfl) ?_
      refine lv_iload_n (pc := 32) hx hb dX7_range_32 rfl (lv_at hl 2 rfl) ?_
      refine lv_sipush (v := 1240) (pc := 33) hx hb dX7_range_33 (by decide) ?_
      refine m_callSZ (pc := 36) (y := yX7_in) (As := [.int p3, .int p2, .int 1240]) (rest := []) C hK hP hS hl.1 ⟨Nat.zero_le _, Nat.zero_le _⟩ (c_X7_in h) rfl rfl q_973 q_974 q_8 q_975 ⟨rfl, rfl⟩ yd_X7_in ⟨Nat.le_of_ble_eq_true rfl, Nat.le_of_ble_eq_true rfl⟩ (Nat.le_of_ble_eq_true rfl) dX7_range_36 (fun z10 M9 H locs h hP hS => ?_)
      refine lv_if_ne (tgt := 48) (pc := 39) hx hb dX7_range_39 (by decide) (fun c39 => ?_) (fun c39 => ?_)
      · replace h := h.1 (bZ1 c39)
        refine lv_aload_n (pc := 48) hx hb dX7_range_48 rfl (lv_at hl 0 rfl) ?_
        refine m_callVV (pc := 49) (y := yX7_saves) (κ := 7) (As := []) (rest := []) C hK hP hS hl.1 ⟨Nat.zero_le _, Nat.zero_le _⟩ (c_X7_saves h) rfl rfl hk1 (by decide) rfl q_984 q_986 q_s37 q_8 q_987 ⟨rfl, rfl⟩ yd_X7_saves ⟨Nat.le_of_ble_eq_true rfl, Nat.le_of_ble_eq_true rfl⟩ (Nat.le_of_ble_eq_true rfl) dX7_range_49 (fun M11 H locs h hP hS => ?_)
        refine lv_sipush (v := 10000) (pc := 52) hx hb dX7_range_52 (by decide) ?_
        refine lv_aload_n (pc := 55) hx hb dX7_range_55 rfl (lv_at hl 0 rfl) ?_
        refine lv_iload_n (pc := 56) hx hb dX7_range_56 rfl (lv_at hl 1 rfl) ?_
        refine lv_iconst (v := 1) (pc := 57) hx hb dX7_range_57 (by decide) ?_
        refine m_callVI (pc := 58) (y := yX7_heatOf) (κ := 7) (As := [.int p1, .int 1]) (rest := [.int 10000]) C hK hP hS hl.1 ⟨Nat.zero_le _, Nat.zero_le _⟩ (c_X7_heatOf h) rfl rfl hk1 (by decide) rfl q_980 q_982 q_s36 q_8 q_983 ⟨rfl, rfl⟩ yd_X7_heatOf ⟨Nat.le_of_ble_eq_true rfl, Nat.le_of_ble_eq_true rfl⟩ (Nat.le_of_ble_eq_true rfl) dX7_range_58 (fun r14 M13 H locs h hP hS => ?_)
        refine lv_imul (pc := 61) hx hb dX7_range_61 ?_
        refine lv_aload_n (pc := 62) hx hb dX7_range_62 rfl (lv_at hl 0 rfl) ?_
        refine lv_iload_n (pc := 63) hx hb dX7_range_63 rfl (lv_at hl 1 rfl) ?_
        refine lv_iconst (v := 2) (pc := 64) hx hb dX7_range_64 (by decide) ?_
        refine m_callVI (pc := 65) (y := yX7_heatOf) (κ := 7) (As := [.int p1, .int 2]) (rest := [.int (10000 * r14)]) C hK hP hS hl.1 ⟨Nat.zero_le _, Nat.zero_le _⟩ (c_X7_heatOf h) rfl rfl hk1 (by decide) rfl q_980 q_982 q_s36 q_8 q_983 ⟨rfl, rfl⟩ yd_X7_heatOf ⟨Nat.le_of_ble_eq_true rfl, Nat.le_of_ble_eq_true rfl⟩ (Nat.le_of_ble_eq_true rfl) dX7_range_65 (fun r16 M15 H locs h hP hS => ?_)
        refine lv_iadd (pc := 68) hx hb dX7_range_68 ?_
        refine lv_topi (fun v17 ev17 => ?_)
        replace h := h v17 ev17
        refine lv_istore (lv' := [(4, .int v17), (0, .ref (b + i)), (1, .int p1), (2, .int p2), (3, .int p3)]) (pc := 69) hx hb dX7_range_69 hl (by decide) rfl (fun ls hl => ?_)
        refine lv_aload_n (pc := 71) hx hb dX7_range_71 rfl (lv_at hl 1 rfl) ?_
        obtain ⟨j18, hj18, h⟩ := h
        refine gX7_7 (pc := 72) C hK hP hk1 hj18 dX7_range_72 ?_
        refine lv_bipush (v := 15) (pc := 75) hx hb dX7_range_75 (by decide) ?_
        refine lv_iconst (v := 5) (pc := 77) hx hb dX7_range_77 (by decide) ?_
        refine lv_iload_n (pc := 78) hx hb dX7_range_78 rfl (lv_at hl 2 rfl) ?_
        refine lv_imul (pc := 79) hx hb dX7_range_79 ?_
        refine lv_iadd (pc := 80) hx hb dX7_range_80 ?_
        refine lv_iconst (v := 1) (pc := 81) hx hb dX7_range_81 (by decide) ?_
        refine lv_iadd (pc := 82) hx hb dX7_range_82 ?_
        refine lv_iload_n (pc := 83) hx hb dX7_range_83 rfl (lv_at hl 3 rfl) ?_
        obtain ⟨hk19, h⟩ := h
        obtain ⟨hi20, h⟩ := h
        refine m_iast (pc := 84) C hK hP hS hk19 hi20 dX7_range_84 (fun M21 H locs eM21 hP hS => ?_)
        replace h := h M21 eM21
        refine lv_aload_n (pc := 85) hx hb dX7_range_85 rfl (lv_at hl 1 rfl) ?_
        obtain ⟨j22, hj22, h⟩ := h
        refine gX7_7 (pc := 86) C hK hP hk1 hj22 dX7_range_86 ?_
        refine lv_bipush (v := 15) (pc := 89) hx hb dX7_range_89 (by decide) ?_
        refine lv_iconst (v := 5) (pc := 91) hx hb dX7_range_91 (by decide) ?_
        refine lv_iload_n (pc := 92) hx hb dX7_range_92 rfl (lv_at hl 2 rfl) ?_
        refine lv_imul (pc := 93) hx hb dX7_range_93 ?_
        refine lv_iadd (pc := 94) hx hb dX7_range_94 ?_
        refine lv_iconst (v := 2) (pc := 95) hx hb dX7_range_95 (by decide) ?_
        refine lv_iadd (pc := 96) hx hb dX7_range_96 ?_
        refine lv_iload_n (pc := 97) hx hb dX7_range_97 rfl (lv_at hl 4 rfl) ?_
        obtain ⟨hk23, h⟩ := h
        obtain ⟨hi24, h⟩ := h
        refine m_iast (pc := 98) C hK hP hS hk23 hi24 dX7_range_98 (fun M25 H locs eM25 hP hS => ?_)
        replace h := h M25 eM25
        refine lv_iload (pc := 99) hx hb dX7_range_99 (lv_at hl 0 rfl) ?_
        exact m_iret (v := v17) (pc := 101) C hr hlk hP hS dX7_range_101 h
      · replace h := h.2 (bZ0 c39)
        refine lv_aload_n (pc := 42) hx hb dX7_range_42 rfl (lv_at hl 0 rfl) ?_
        refine lv_iconst (v := 2) (pc := 43) hx hb dX7_range_43 (by decide) ?_
        refine m_callVI (pc := 44) (y := yX7_fails) (κ := 7) (As := [.int 2]) (rest := []) C hK hP hS hl.1 ⟨Nat.zero_le _, Nat.zero_le _⟩ (c_X7_fails h) rfl rfl hk1 (by decide) rfl q_976 q_978 q_s35 q_8 q_979 ⟨rfl, rfl⟩ yd_X7_fails ⟨Nat.le_of_ble_eq_true rfl, Nat.le_of_ble_eq_true rfl⟩ (Nat.le_of_ble_eq_true rfl) dX7_range_44 (fun r27 M26 H locs h hP hS => ?_)
        exact m_iret (v := r27) (pc := 47) C hr hlk hP hS dX7_range_47 h
  · replace h := h.2 (bZ0 c9)
    refine lv_aload_n (pc := 12) hx hb dX7_range_12 rfl (lv_at hl 0 rfl) ?_
    refine lv_iconst (v := 1) (pc := 13) hx hb dX7_range_13 (by decide) ?_
    refine m_callVI (pc := 14) (y := yX7_fails) (κ := 7) (As := [.int 1]) (rest := []) C hK hP hS hl.1 ⟨Nat.zero_le _, Nat.zero_le _⟩ (c_X7_fails h) rfl rfl hk1 (by decide) rfl q_976 q_978 q_s35 q_8 q_979 ⟨rfl, rfl⟩ yd_X7_fails ⟨Nat.le_of_ble_eq_true rfl, Nat.le_of_ble_eq_true rfl⟩ (Nat.le_of_ble_eq_true rfl) dX7_range_14 (fun r29 M28 H locs h hP hS => ?_)
    exact m_iret (v := r29) (pc := 17) C hr hlk hP hS dX7_range_17 h
/-! ForgeHeatsModel.die (III)I -/
def wp_X7_die (n : Nat) (M : Mem) (i : Nat) (p1 : Int32) (p2 : Int32) (p3 : Int32) (P : Int32 → Mem → Prop) : Prop := m_tp n i 7 ∧ (∀ M2 : Mem, M2 = uI M i 0 0 → (wp_X7_isDie n M2 p1 (fun z4 M3 => ((z4 = true → wp_X7_in n M3 p2 1 9 (fun z6 M5 => ((z6 = false → wp_X7_fails n M5 i 2 (fun r8 M7 => P r8 M7)) ∧ (z6 = true → wp_X7_in n M5 p3 10 300 (fun z10 M9 => ((z10 = true → wp_X7_isBeingGround n M9 i p1 (fun z12 M11 => ((z12 = false → wp_X7_saves n M11 i (fun M13 => wp_X7_die0 n M13 i p1 2 (fun r16 M15 => ∃ j17 : Nat, M15.2.1 i 1 = some j17 ∧ (m_tp n j17 8 ∧ (vp_in ((35 + (5 * p1)) + 0) (m_len j17) ∧ (∀ M20 : Mem, M20 = uI M15 j17 ((35 + (5 * p1)) + 0).toNatClampNeg p2 → (∃ j21 : Nat, M20.2.1 i 1 = some j21 ∧ (m_tp n j21 8 ∧ (vp_in ((35 + (5 * p1)) + 1) (m_len j21) ∧ (∀ M24 : Mem, M24 = uI M20 j21 ((35 + (5 * p1)) + 1).toNatClampNeg p3 → (∃ j25 : Nat, M24.2.1 i 1 = some j25 ∧ (m_tp n j25 8 ∧ (vp_in ((35 + (5 * p1)) + 2) (m_len j25) ∧ (∀ M28 : Mem, M28 = uI M24 j25 ((35 + (5 * p1)) + 2).toNatClampNeg 0 → (P r16 M28))))))))))))))) ∧ (z12 = true → wp_X7_fails n M11 i 3 (fun r30 M29 => P r30 M29))))) ∧ (z10 = false → wp_X7_fails n M9 i 2 (fun r32 M31 => P r32 M31)))))))) ∧ (z4 = false → wp_X7_fails n M3 i 1 (fun r34 M33 => P r34 M33))))))
abbrev rm_X7_die : Room := { frames := 2, cells := 0, slots := 0, locals := 42 }
set_option maxHeartbeats 4000000 in
set_option maxRecDepth 100000 in
theorem c_X7_die {l : Launch} {D : va_G} {cA : Nat → ClassId} {b n : Nat} {M : Mem} {i : Nat} {p1 : Int32} {p2 : Int32} {p3 : Int32} {P : Int32 → Mem → Prop} (h : wp_X7_die n M i p1 p2 p3 P) : m_C l D cA b n n M yX7_die cX7_die 5 (some .int) rm_X7_die 0 0 [.ref (b + i), .int p1, .int p2, .int p3] (rI P) := by
  refine m_enter (by decide) (Nat.le_of_ble_eq_true rfl) (fun p e s m below meth c C hr hlk hnm hK hP hS ls hl => ?_)
  have hx := C.1
  have hb := C.2.1
  have hl : lv_has ls 5 [(0, .ref (b + i)), (1, .int p1), (2, .int p2), (3, .int p3)] := hl
  unfold wp_X7_die at h
  refine lv_aload_n (pc := 0) hx hb dX7_die_0 rfl (lv_at hl 0 rfl) ?_
  refine lv_iconst (v := 0) (pc := 1) hx hb dX7_die_1 (by decide) ?_
  obtain ⟨hk1, h⟩ := h
  refine pX7_25 (pc := 2) (v := 0) C hK hP hS hk1 dX7_die_2 (fun M2 H locs eM2 hP hS => ?_)
  replace h := h M2 eM2
  refine lv_iload_n (pc := 5) hx hb dX7_die_5 rfl (lv_at hl 1 rfl) ?_
  refine m_callSZ (pc := 6) (y := yX7_isDie) (As := [.int p1]) (rest := []) C hK hP hS hl.1 ⟨Nat.zero_le _, Nat.zero_le _⟩ (c_X7_isDie h) rfl rfl q_996 q_997 q_8 q_998 ⟨rfl, rfl⟩ yd_X7_isDie ⟨Nat.le_of_ble_eq_true rfl, Nat.le_of_ble_eq_true rfl⟩ (Nat.le_of_ble_eq_true rfl) dX7_die_6 (fun z4 M3 H locs h hP hS => ?_)
  refine lv_if_ne (tgt := 18) (pc := 9) hx hb dX7_die_9 (by decide) (fun c9 => ?_) (fun c9 => ?_)
  · replace h := h.1 (bZ1 c9)
    refine lv_iload_n (pc := 18) hx hb dX7_die_18 rfl (lv_at hl 2 rfl) ?_
    refine lv_iconst (v := 1) (pc := 19) hx hb dX7_die_19 (by decide) ?_
    refine lv_bipush (v := 9) (pc := 20) hx hb dX7_die_20 (by decide) ?_
    refine m_callSZ (pc := 22) (y := yX7_in) (As := [.int p2, .int 1, .int 9]) (rest := []) C hK hP hS hl.1 ⟨Nat.zero_le _, Nat.zero_le _⟩ (c_X7_in h) rfl rfl q_973 q_974 q_8 q_975 ⟨rfl, rfl⟩ yd_X7_in ⟨Nat.le_of_ble_eq_true rfl, Nat.le_of_ble_eq_true rfl⟩ (Nat.le_of_ble_eq_true rfl) dX7_die_22 (fun z6 M5 H locs h hP hS => ?_)
    refine lv_if_eq (tgt := 40) (pc := 25) hx hb dX7_die_25 (by decide) (fun c25 => ?_) (fun c25 => ?_)
    · replace h := h.1 (bZ0 c25)
      refine lv_aload_n (pc := 40) hx hb dX7_die_40 rfl (lv_at hl 0 rfl) ?_
      refine lv_iconst (v := 2) (pc := 41) hx hb dX7_die_41 (by decide) ?_
      refine m_callVI (pc := 42) (y := yX7_fails) (κ := 7) (As := [.int 2]) (rest := []) C hK hP hS hl.1 ⟨Nat.zero_le _, Nat.zero_le _⟩ (c_X7_fails h) rfl rfl hk1 (by decide) rfl q_976 q_978 q_s35 q_8 q_979 ⟨rfl, rfl⟩ yd_X7_fails ⟨Nat.le_of_ble_eq_true rfl, Nat.le_of_ble_eq_true rfl⟩ (Nat.le_of_ble_eq_true rfl) dX7_die_42 (fun r8 M7 H locs h hP hS => ?_)
      exact m_iret (v := r8) (pc := 45) C hr hlk hP hS dX7_die_45 h
    · replace h := h.2 (bZ1 c25)
      refine lv_iload_n (pc := 28) hx hb dX7_die_28 rfl (lv_at hl 3 rfl) ?_
      refine lv_bipush (v := 10) (pc := 29) hx hb dX7_die_29 (by decide) ?_
      refine lv_sipush (v := 300) (pc := 31) hx hb dX7_die_31 (by decide) ?_
      refine m_callSZ (pc := 34) (y := yX7_in) (As := [.int p3, .int 10, .int 300]) (rest := []) C hK hP hS hl.1 ⟨Nat.zero_le _, Nat.zero_le _⟩ (c_X7_in h) rfl rfl q_973 q_974 q_8 q_975 ⟨rfl, rfl⟩ yd_X7_in ⟨Nat.le_of_ble_eq_true rfl, Nat.le_of_ble_eq_true rfl⟩ (Nat.le_of_ble_eq_true rfl) dX7_die_34 (fun z10 M9 H locs h hP hS => ?_)
      refine lv_if_ne (tgt := 46) (pc := 37) hx hb dX7_die_37 (by decide) (fun c37 => ?_) (fun c37 => ?_)
      · replace h := h.1 (bZ1 c37)
        refine lv_aload_n (pc := 46) hx hb dX7_die_46 rfl (lv_at hl 0 rfl) ?_
        refine lv_iload_n (pc := 47) hx hb dX7_die_47 rfl (lv_at hl 1 rfl) ?_
        refine m_callVZ (pc := 48) (y := yX7_isBeingGround) (κ := 7) (As := [.int p1]) (rest := []) C hK hP hS hl.1 ⟨Nat.zero_le _, Nat.zero_le _⟩ (c_X7_isBeingGround h) rfl rfl hk1 (by decide) rfl q_999 q_1001 q_s38 q_8 q_1002 ⟨rfl, rfl⟩ yd_X7_isBeingGround ⟨Nat.le_of_ble_eq_true rfl, Nat.le_of_ble_eq_true rfl⟩ (Nat.le_of_ble_eq_true rfl) dX7_die_48 (fun z12 M11 H locs h hP hS => ?_)
        refine lv_if_eq (tgt := 60) (pc := 51) hx hb dX7_die_51 (by decide) (fun c51 => ?_) (fun c51 => ?_)
        · replace h := h.1 (bZ0 c51)
          refine lv_aload_n (pc := 60) hx hb dX7_die_60 rfl (lv_at hl 0 rfl) ?_
          refine m_callVV (pc := 61) (y := yX7_saves) (κ := 7) (As := []) (rest := []) C hK hP hS hl.1 ⟨Nat.zero_le _, Nat.zero_le _⟩ (c_X7_saves h) rfl rfl hk1 (by decide) rfl q_984 q_986 q_s37 q_8 q_987 ⟨rfl, rfl⟩ yd_X7_saves ⟨Nat.le_of_ble_eq_true rfl, Nat.le_of_ble_eq_true rfl⟩ (Nat.le_of_ble_eq_true rfl) dX7_die_61 (fun M13 H locs h hP hS => ?_)
          refine lv_aload_n (pc := 64) hx hb dX7_die_64 rfl (lv_at hl 0 rfl) ?_
          refine lv_iload_n (pc := 65) hx hb dX7_die_65 rfl (lv_at hl 1 rfl) ?_
          refine lv_iconst (v := 2) (pc := 66) hx hb dX7_die_66 (by decide) ?_
          refine m_callVI (pc := 67) (y := yX7_die0) (κ := 7) (As := [.int p1, .int 2]) (rest := []) C hK hP hS hl.1 ⟨Nat.zero_le _, Nat.zero_le _⟩ (c_X7_die0 h) rfl rfl hk1 (by decide) rfl q_1003 q_1005 q_s39 q_8 q_1006 ⟨rfl, rfl⟩ yd_X7_die0 ⟨Nat.le_of_ble_eq_true rfl, Nat.le_of_ble_eq_true rfl⟩ (Nat.le_of_ble_eq_true rfl) dX7_die_67 (fun r16 M15 H locs h hP hS => ?_)
          refine lv_istore (lv' := [(4, .int r16), (0, .ref (b + i)), (1, .int p1), (2, .int p2), (3, .int p3)]) (pc := 70) hx hb dX7_die_70 hl (by decide) rfl (fun ls hl => ?_)
          refine lv_aload_n (pc := 72) hx hb dX7_die_72 rfl (lv_at hl 1 rfl) ?_
          obtain ⟨j17, hj17, h⟩ := h
          refine gX7_7 (pc := 73) C hK hP hk1 hj17 dX7_die_73 ?_
          refine lv_bipush (v := 35) (pc := 76) hx hb dX7_die_76 (by decide) ?_
          refine lv_iconst (v := 5) (pc := 78) hx hb dX7_die_78 (by decide) ?_
          refine lv_iload_n (pc := 79) hx hb dX7_die_79 rfl (lv_at hl 2 rfl) ?_
          refine lv_imul (pc := 80) hx hb dX7_die_80 ?_
          refine lv_iadd (pc := 81) hx hb dX7_die_81 ?_
          refine lv_iconst (v := 0) (pc := 82) hx hb dX7_die_82 (by decide) ?_
          refine lv_iadd (pc := 83) hx hb dX7_die_83 ?_
          refine lv_iload_n (pc := 84) hx hb dX7_die_84 rfl (lv_at hl 3 rfl) ?_
          obtain ⟨hk18, h⟩ := h
          obtain ⟨hi19, h⟩ := h
          refine m_iast (pc := 85) C hK hP hS hk18 hi19 dX7_die_85 (fun M20 H locs eM20 hP hS => ?_)
          replace h := h M20 eM20
          refine lv_aload_n (pc := 86) hx hb dX7_die_86 rfl (lv_at hl 1 rfl) ?_
          obtain ⟨j21, hj21, h⟩ := h
          refine gX7_7 (pc := 87) C hK hP hk1 hj21 dX7_die_87 ?_
          refine lv_bipush (v := 35) (pc := 90) hx hb dX7_die_90 (by decide) ?_
          refine lv_iconst (v := 5) (pc := 92) hx hb dX7_die_92 (by decide) ?_
          refine lv_iload_n (pc := 93) hx hb dX7_die_93 rfl (lv_at hl 2 rfl) ?_
          refine lv_imul (pc := 94) hx hb dX7_die_94 ?_
          refine lv_iadd (pc := 95) hx hb dX7_die_95 ?_
          refine lv_iconst (v := 1) (pc := 96) hx hb dX7_die_96 (by decide) ?_
          refine lv_iadd (pc := 97) hx hb dX7_die_97 ?_
          refine lv_iload_n (pc := 98) hx hb dX7_die_98 rfl (lv_at hl 4 rfl) ?_
          obtain ⟨hk22, h⟩ := h
          obtain ⟨hi23, h⟩ := h
          refine m_iast (pc := 99) C hK hP hS hk22 hi23 dX7_die_99 (fun M24 H locs eM24 hP hS => ?_)
          replace h := h M24 eM24
          refine lv_aload_n (pc := 100) hx hb dX7_die_100 rfl (lv_at hl 1 rfl) ?_
          obtain ⟨j25, hj25, h⟩ := h
          refine gX7_7 (pc := 101) C hK hP hk1 hj25 dX7_die_101 ?_
          refine lv_bipush (v := 35) (pc := 104) hx hb dX7_die_104 (by decide) ?_
          refine lv_iconst (v := 5) (pc := 106) hx hb dX7_die_106 (by decide) ?_
          refine lv_iload_n (pc := 107) hx hb dX7_die_107 rfl (lv_at hl 2 rfl) ?_
          refine lv_imul (pc := 108) hx hb dX7_die_108 ?_
          refine lv_iadd (pc := 109) hx hb dX7_die_109 ?_
          refine lv_iconst (v := 2) (pc := 110) hx hb dX7_die_110 (by decide) ?_
          refine lv_iadd (pc := 111) hx hb dX7_die_111 ?_
          refine lv_iconst (v := 0) (pc := 112) hx hb dX7_die_112 (by decide) ?_
          obtain ⟨hk26, h⟩ := h
          obtain ⟨hi27, h⟩ := h
          refine m_iast (pc := 113) C hK hP hS hk26 hi27 dX7_die_113 (fun M28 H locs eM28 hP hS => ?_)
          replace h := h M28 eM28
          refine lv_iload (pc := 114) hx hb dX7_die_114 (lv_at hl 0 rfl) ?_
          exact m_iret (v := r16) (pc := 116) C hr hlk hP hS dX7_die_116 h
        · replace h := h.2 (bZ1 c51)
          refine lv_aload_n (pc := 54) hx hb dX7_die_54 rfl (lv_at hl 0 rfl) ?_
          refine lv_iconst (v := 3) (pc := 55) hx hb dX7_die_55 (by decide) ?_
          refine m_callVI (pc := 56) (y := yX7_fails) (κ := 7) (As := [.int 3]) (rest := []) C hK hP hS hl.1 ⟨Nat.zero_le _, Nat.zero_le _⟩ (c_X7_fails h) rfl rfl hk1 (by decide) rfl q_976 q_978 q_s35 q_8 q_979 ⟨rfl, rfl⟩ yd_X7_fails ⟨Nat.le_of_ble_eq_true rfl, Nat.le_of_ble_eq_true rfl⟩ (Nat.le_of_ble_eq_true rfl) dX7_die_56 (fun r30 M29 H locs h hP hS => ?_)
          exact m_iret (v := r30) (pc := 59) C hr hlk hP hS dX7_die_59 h
      · replace h := h.2 (bZ0 c37)
        refine lv_aload_n (pc := 40) hx hb dX7_die_40 rfl (lv_at hl 0 rfl) ?_
        refine lv_iconst (v := 2) (pc := 41) hx hb dX7_die_41 (by decide) ?_
        refine m_callVI (pc := 42) (y := yX7_fails) (κ := 7) (As := [.int 2]) (rest := []) C hK hP hS hl.1 ⟨Nat.zero_le _, Nat.zero_le _⟩ (c_X7_fails h) rfl rfl hk1 (by decide) rfl q_976 q_978 q_s35 q_8 q_979 ⟨rfl, rfl⟩ yd_X7_fails ⟨Nat.le_of_ble_eq_true rfl, Nat.le_of_ble_eq_true rfl⟩ (Nat.le_of_ble_eq_true rfl) dX7_die_42 (fun r32 M31 H locs h hP hS => ?_)
        exact m_iret (v := r32) (pc := 45) C hr hlk hP hS dX7_die_45 h
  · replace h := h.2 (bZ0 c9)
    refine lv_aload_n (pc := 12) hx hb dX7_die_12 rfl (lv_at hl 0 rfl) ?_
    refine lv_iconst (v := 1) (pc := 13) hx hb dX7_die_13 (by decide) ?_
    refine m_callVI (pc := 14) (y := yX7_fails) (κ := 7) (As := [.int 1]) (rest := []) C hK hP hS hl.1 ⟨Nat.zero_le _, Nat.zero_le _⟩ (c_X7_fails h) rfl rfl hk1 (by decide) rfl q_976 q_978 q_s35 q_8 q_979 ⟨rfl, rfl⟩ yd_X7_fails ⟨Nat.le_of_ble_eq_true rfl, Nat.le_of_ble_eq_true rfl⟩ (Nat.le_of_ble_eq_true rfl) dX7_die_14 (fun r34 M33 H locs h hP hS => ?_)
    exact m_iret (v := r34) (pc := 17) C hr hlk hP hS dX7_die_17 h
/-! ForgeHeatsModel.grind (I)I -/
def wp_X7_grind (n : Nat) (M : Mem) (i : Nat) (p1 : Int32) (P : Int32 → Mem → Prop) : Prop := m_tp n i 7 ∧ (∀ M2 : Mem, M2 = uI M i 0 0 → (wp_X7_isDie n M2 p1 (fun z4 M3 => ((z4 = true → ∃ j5 : Nat, M3.2.1 i 1 = some j5 ∧ (m_tp n j5 8 ∧ (vp_in 13 (m_len j5) ∧ ((((M3.1 j5 (13 : Int32).toNatClampNeg) ≤ 0 → wp_X7_saves n M3 i (fun M8 => wp_X7_begins n M8 i p1 (fun M10 => wp_X7_die0 n M10 i p1 2 (fun r13 M12 => P r13 M12)))) ∧ (¬ (M3.1 j5 (13 : Int32).toNatClampNeg) ≤ 0 → wp_X7_fails n M3 i 2 (fun r15 M14 => P r15 M14))))))) ∧ (z4 = false → wp_X7_fails n M3 i 1 (fun r17 M16 => P r17 M16))))))
abbrev rm_X7_grind : Room := { frames := 2, cells := 0, slots := 0, locals := 42 }
set_option maxHeartbeats 4000000 in
set_option maxRecDepth 100000 in
theorem c_X7_grind {l : Launch} {D : va_G} {cA : Nat → ClassId} {b n : Nat} {M : Mem} {i : Nat} {p1 : Int32} {P : Int32 → Mem → Prop} (h : wp_X7_grind n M i p1 P) : m_C l D cA b n n M yX7_grind cX7_grind 2 (some .int) rm_X7_grind 0 0 [.ref (b + i), .int p1] (rI P) := by
  refine m_enter (by decide) (Nat.le_of_ble_eq_true rfl) (fun p e s m below meth c C hr hlk hnm hK hP hS ls hl => ?_)
  have hx := C.1
  have hb := C.2.1
  have hl : lv_has ls 2 [(0, .ref (b + i)), (1, .int p1)] := hl
  unfold wp_X7_grind at h
  refine lv_aload_n (pc := 0) hx hb dX7_grind_0 rfl (lv_at hl 0 rfl) ?_
  refine lv_iconst (v := 0) (pc := 1) hx hb dX7_grind_1 (by decide) ?_
  obtain ⟨hk1, h⟩ := h
  refine pX7_25 (pc := 2) (v := 0) C hK hP hS hk1 dX7_grind_2 (fun M2 H locs eM2 hP hS => ?_)
  replace h := h M2 eM2
  refine lv_iload_n (pc := 5) hx hb dX7_grind_5 rfl (lv_at hl 1 rfl) ?_
  refine m_callSZ (pc := 6) (y := yX7_isDie) (As := [.int p1]) (rest := []) C hK hP hS hl.1 ⟨Nat.zero_le _, Nat.zero_le _⟩ (c_X7_isDie h) rfl rfl q_996 q_997 q_8 q_998 ⟨rfl, rfl⟩ yd_X7_isDie ⟨Nat.le_of_ble_eq_true rfl, Nat.le_of_ble_eq_true rfl⟩ (Nat.le_of_ble_eq_true rfl) dX7_grind_6 (fun z4 M3 H locs h hP hS => ?_)
  refine lv_if_ne (tgt := 18) (pc := 9) hx hb dX7_grind_9 (by decide) (fun c9 => ?_) (fun c9 => ?_)
  · replace h := h.1 (bZ1 c9)
    refine lv_aload_n (pc := 18) hx hb dX7_grind_18 rfl (lv_at hl 0 rfl) ?_
    obtain ⟨j5, hj5, h⟩ := h
    refine gX7_7 (pc := 19) C hK hP hk1 hj5 dX7_grind_19 ?_
    refine lv_bipush (v := 13) (pc := 22) hx hb dX7_grind_22 (by decide) ?_
    obtain ⟨hk6, h⟩ := h
    obtain ⟨hi7, h⟩ := h
    refine m_iald (pc := 24) C hK hP hk6 hi7 dX7_grind_24 ?_
    refine lv_if_le (tgt := 34) (pc := 25) hx hb dX7_grind_25 (by decide) (fun c25 => ?_) (fun c25 => ?_)
    · replace h := h.1 c25
      refine lv_aload_n (pc := 34) hx hb dX7_grind_34 rfl (lv_at hl 0 rfl) ?_
      refine m_callVV (pc := 35) (y := yX7_saves) (κ := 7) (As := []) (rest := []) C hK hP hS hl.1 ⟨Nat.zero_le _, Nat.zero_le _⟩ (c_X7_saves h) rfl rfl hk1 (by decide) rfl q_984 q_986 q_s37 q_8 q_987 ⟨rfl, rfl⟩ yd_X7_saves ⟨Nat.le_of_ble_eq_true rfl, Nat.le_of_ble_eq_true rfl⟩ (Nat.le_of_ble_eq_true rfl) dX7_grind_35 (fun M8 H locs h hP hS => ?_)
      refine lv_aload_n (pc := 38) hx hb dX7_grind_38 rfl (lv_at hl 0 rfl) ?_
      refine lv_iload_n (pc := 39) hx hb dX7_grind_39 rfl (lv_at hl 1 rfl) ?_
      refine m_callVV (pc := 40) (y := yX7_begins) (κ := 7) (As := [.int p1]) (rest := []) C hK hP hS hl.1 ⟨Nat.zero_le _, Nat.zero_le _⟩ (c_X7_begins h) rfl rfl hk1 (by decide) rfl q_1011 q_1013 q_s40 q_8 q_1014 ⟨rfl, rfl⟩ yd_X7_begins ⟨Nat.le_of_ble_eq_true rfl, Nat.le_of_ble_eq_true rfl⟩ (Nat.le_of_ble_eq_true rfl) dX7_grind_40 (fun M10 H locs h hP hS => ?_)
      refine lv_aload_n (pc := 43) hx hb dX7_grind_43 rfl (lv_at hl 0 rfl) ?_
      refine lv_iload_n (pc := 44) hx hb dX7_grind_44 rfl (lv_at hl 1 rfl) ?_
      refine lv_iconst (v := 2) (pc := 45) hx hb dX7_grind_45 (by decide) ?_
      refine m_callVI (pc := 46) (y := yX7_die0) (κ := 7) (As := [.int p1, .int 2]) (rest := []) C hK hP hS hl.1 ⟨Nat.zero_le _, Nat.zero_le _⟩ (c_X7_die0 h) rfl rfl hk1 (by decide) rfl q_1003 q_1005 q_s39 q_8 q_1006 ⟨rfl, rfl⟩ yd_X7_die0 ⟨Nat.le_of_ble_eq_true rfl, Nat.le_of_ble_eq_true rfl⟩ (Nat.le_of_ble_eq_true rfl) dX7_grind_46 (fun r13 M12 H locs h hP hS => ?_)
      exact m_iret (v := r13) (pc := 49) C hr hlk hP hS dX7_grind_49 h
    · replace h := h.2 c25
      refine lv_aload_n (pc := 28) hx hb dX7_grind_28 rfl (lv_at hl 0 rfl) ?_
      refine lv_iconst (v := 2) (pc := 29) hx hb dX7_grind_29 (by decide) ?_
      refine m_callVI (pc := 30) (y := yX7_fails) (κ := 7) (As := [.int 2]) (rest := []) C hK hP hS hl.1 ⟨Nat.zero_le _, Nat.zero_le _⟩ (c_X7_fails h) rfl rfl hk1 (by decide) rfl q_976 q_978 q_s35 q_8 q_979 ⟨rfl, rfl⟩ yd_X7_fails ⟨Nat.le_of_ble_eq_true rfl, Nat.le_of_ble_eq_true rfl⟩ (Nat.le_of_ble_eq_true rfl) dX7_grind_30 (fun r15 M14 H locs h hP hS => ?_)
      exact m_iret (v := r15) (pc := 33) C hr hlk hP hS dX7_grind_33 h
  · replace h := h.2 (bZ0 c9)
    refine lv_aload_n (pc := 12) hx hb dX7_grind_12 rfl (lv_at hl 0 rfl) ?_
    refine lv_iconst (v := 1) (pc := 13) hx hb dX7_grind_13 (by decide) ?_
    refine m_callVI (pc := 14) (y := yX7_fails) (κ := 7) (As := [.int 1]) (rest := []) C hK hP hS hl.1 ⟨Nat.zero_le _, Nat.zero_le _⟩ (c_X7_fails h) rfl rfl hk1 (by decide) rfl q_976 q_978 q_s35 q_8 q_979 ⟨rfl, rfl⟩ yd_X7_fails ⟨Nat.le_of_ble_eq_true rfl, Nat.le_of_ble_eq_true rfl⟩ (Nat.le_of_ble_eq_true rfl) dX7_grind_14 (fun r17 M16 H locs h hP hS => ?_)
    exact m_iret (v := r17) (pc := 17) C hr hlk hP hS dX7_grind_17 h
/-! ForgeHeatsModel.comes (IIIII)V -/
def wp_X7_comes (n : Nat) (M : Mem) (i : Nat) (p1 : Int32) (p2 : Int32) (p3 : Int32) (p4 : Int32) (p5 : Int32) (P : Mem → Prop) : Prop := m_tp n i 7 ∧ (∃ j2 : Nat, M.2.1 i 1 = some j2 ∧ (m_tp n j2 8 ∧ (vp_in 5 (m_len j2) ∧ (∀ v5 : Int32, v5 = (60 + (7 * (M.1 j2 (5 : Int32).toNatClampNeg))) → (∃ j6 : Nat, M.2.1 i 1 = some j6 ∧ (∃ j7 : Nat, M.2.1 i 1 = some j7 ∧ (m_tp n j7 8 ∧ (vp_in 6 (m_len j7) ∧ (m_tp n j6 8 ∧ (vp_in (v5 + 0) (m_len j6) ∧ (∀ M12 : Mem, M12 = uI M j6 (v5 + 0).toNatClampNeg (M.1 j7 (6 : Int32).toNatClampNeg) → (∃ j13 : Nat, M12.2.1 i 1 = some j13 ∧ (m_tp n j13 8 ∧ (vp_in (v5 + 1) (m_len j13) ∧ (∀ M16 : Mem, M16 = uI M12 j13 (v5 + 1).toNatClampNeg p1 → (∃ j17 : Nat, M16.2.1 i 1 = some j17 ∧ (m_tp n j17 8 ∧ (vp_in (v5 + 2) (m_len j17) ∧ (∀ M20 : Mem, M20 = uI M16 j17 (v5 + 2).toNatClampNeg p2 → (∃ j21 : Nat, M20.2.1 i 1 = some j21 ∧ (m_tp n j21 8 ∧ (vp_in (v5 + 3) (m_len j21) ∧ (∀ M24 : Mem, M24 = uI M20 j21 (v5 + 3).toNatClampNeg p3 → (∃ j25 : Nat, M24.2.1 i 1 = some j25 ∧ (m_tp n j25 8 ∧ (vp_in (v5 + 4) (m_len j25) ∧ (∀ M28 : Mem, M28 = uI M24 j25 (v5 + 4).toNatClampNeg 0 → (∃ j29 : Nat, M28.2.1 i 1 = some j29 ∧ (m_tp n j29 8 ∧ (vp_in (v5 + 5) (m_len j29) ∧ (∀ M32 : Mem, M32 = uI M28 j29 (v5 + 5).toNatClampNeg p4 → (∃ j33 : Nat, M32.2.1 i 1 = some j33 ∧ (m_tp n j33 8 ∧ (vp_in (v5 + 6) (m_len j33) ∧ (∀ M36 : Mem, M36 = uI M32 j33 (v5 + 6).toNatClampNeg p5 → (∃ j37 : Nat, M36.2.1 i 1 = some j37 ∧ (m_tp n j37 8 ∧ (vp_in 5 (m_len j37) ∧ (vp_in 5 (m_len j37) ∧ (∀ M41 : Mem, M41 = uI M36 j37 (5 : Int32).toNatClampNeg ((M36.1 j37 (5 : Int32).toNatClampNeg) + 1) → (∃ j42 : Nat, M41.2.1 i 1 = some j42 ∧ (m_tp n j42 8 ∧ (vp_in 6 (m_len j42) ∧ (vp_in 6 (m_len j42) ∧ (∀ M46 : Mem, M46 = uI M41 j42 (6 : Int32).toNatClampNeg ((M41.1 j42 (6 : Int32).toNatClampNeg) + 1) → (P M46))))))))))))))))))))))))))))))))))))))))))))))
abbrev rm_X7_comes : Room := { frames := 0, cells := 0, slots := 0, locals := 0 }
set_option maxHeartbeats 4000000 in
set_option maxRecDepth 100000 in
theorem c_X7_comes {l : Launch} {D : va_G} {cA : Nat → ClassId} {b n : Nat} {M : Mem} {i : Nat} {p1 : Int32} {p2 : Int32} {p3 : Int32} {p4 : Int32} {p5 : Int32} {P : Mem → Prop} (h : wp_X7_comes n M i p1 p2 p3 p4 p5 P) : m_C l D cA b n n M yX7_comes cX7_comes 7 none rm_X7_comes 0 0 [.ref (b + i), .int p1, .int p2, .int p3, .int p4, .int p5] (rV P) := by
  refine m_enter (by decide) (Nat.le_of_ble_eq_true rfl) (fun p e s m below meth c C hr hlk hnm hK hP hS ls hl => ?_)
  have hx := C.1
  have hb := C.2.1
  have hl : lv_has ls 7 [(0, .ref (b + i)), (1, .int p1), (2, .int p2), (3, .int p3), (4, .int p4), (5, .int p5)] := hl
  unfold wp_X7_comes at h
  refine lv_bipush (v := 60) (pc := 0) hx hb dX7_comes_0 (by decide) ?_
  refine lv_bipush (v := 7) (pc := 2) hx hb dX7_comes_2 (by decide) ?_
  refine lv_aload_n (pc := 4) hx hb dX7_comes_4 rfl (lv_at hl 0 rfl) ?_
  obtain ⟨hk1, h⟩ := h
  obtain ⟨j2, hj2, h⟩ := h
  refine gX7_7 (pc := 5) C hK hP hk1 hj2 dX7_comes_5 ?_
  refine lv_iconst (v := 5) (pc := 8) hx hb dX7_comes_8 (by decide) ?_
  obtain ⟨hk3, h⟩ := h
  obtain ⟨hi4, h⟩ := h
  refine m_iald (pc := 9) C hK hP hk3 hi4 dX7_comes_9 ?_
  refine lv_imul (pc := 10) hx hb dX7_comes_10 ?_
  refine lv_iadd (pc := 11) hx hb dX7_comes_11 ?_
  refine lv_topi (fun v5 ev5 => ?_)
  replace h := h v5 ev5
  refine lv_istore (lv' := [(6, .int v5), (0, .ref (b + i)), (1, .int p1), (2, .int p2), (3, .int p3), (4, .int p4), (5, .int p5)]) (pc := 12) hx hb dX7_comes_12 hl (by decide) rfl (fun ls hl => ?_)
  refine lv_aload_n (pc := 14) hx hb dX7_comes_14 rfl (lv_at hl 1 rfl) ?_
  obtain ⟨j6, hj6, h⟩ := h
  refine gX7_7 (pc := 15) C hK hP hk1 hj6 dX7_comes_15 ?_
  refine lv_iload (pc := 18) hx hb dX7_comes_18 (lv_at hl 0 rfl) ?_
  refine lv_iconst (v := 0) (pc := 20) hx hb dX7_comes_20 (by decide) ?_
  refine lv_iadd (pc := 21) hx hb dX7_comes_21 ?_
  refine lv_aload_n (pc := 22) hx hb dX7_comes_22 rfl (lv_at hl 1 rfl) ?_
  obtain ⟨j7, hj7, h⟩ := h
  refine gX7_7 (pc := 23) C hK hP hk1 hj7 dX7_comes_23 ?_
  refine lv_bipush (v := 6) (pc := 26) hx hb dX7_comes_26 (by decide) ?_
  obtain ⟨hk8, h⟩ := h
  obtain ⟨hi9, h⟩ := h
  refine m_iald (pc := 28) C hK hP hk8 hi9 dX7_comes_28 ?_
  obtain ⟨hk10, h⟩ := h
  obtain ⟨hi11, h⟩ := h
  refine m_iast (pc := 29) C hK hP hS hk10 hi11 dX7_comes_29 (fun M12 H locs eM12 hP hS => ?_)
  replace h := h M12 eM12
  refine lv_aload_n (pc := 30) hx hb dX7_comes_30 rfl (lv_at hl 1 rfl) ?_
  obtain ⟨j13, hj13, h⟩ := h
  refine gX7_7 (pc := 31) C hK hP hk1 hj13 dX7_comes_31 ?_
  refine lv_iload (pc := 34) hx hb dX7_comes_34 (lv_at hl 0 rfl) ?_
  refine lv_iconst (v := 1) (pc := 36) hx hb dX7_comes_36 (by decide) ?_
  refine lv_iadd (pc := 37) hx hb dX7_comes_37 ?_
  refine lv_iload_n (pc := 38) hx hb dX7_comes_38 rfl (lv_at hl 2 rfl) ?_
  obtain ⟨hk14, h⟩ := h
  obtain ⟨hi15, h⟩ := h
  refine m_iast (pc := 39) C hK hP hS hk14 hi15 dX7_comes_39 (fun M16 H locs eM16 hP hS => ?_)
  replace h := h M16 eM16
  refine lv_aload_n (pc := 40) hx hb dX7_comes_40 rfl (lv_at hl 1 rfl) ?_
  obtain ⟨j17, hj17, h⟩ := h
  refine gX7_7 (pc := 41) C hK hP hk1 hj17 dX7_comes_41 ?_
  refine lv_iload (pc := 44) hx hb dX7_comes_44 (lv_at hl 0 rfl) ?_
  refine lv_iconst (v := 2) (pc := 46) hx hb dX7_comes_46 (by decide) ?_
  refine lv_iadd (pc := 47) hx hb dX7_comes_47 ?_
  refine lv_iload_n (pc := 48) hx hb dX7_comes_48 rfl (lv_at hl 3 rfl) ?_
  obtain ⟨hk18, h⟩ := h
  obtain ⟨hi19, h⟩ := h
  refine m_iast (pc := 49) C hK hP hS hk18 hi19 dX7_comes_49 (fun M20 H locs eM20 hP hS => ?_)
  replace h := h M20 eM20
  refine lv_aload_n (pc := 50) hx hb dX7_comes_50 rfl (lv_at hl 1 rfl) ?_
  obtain ⟨j21, hj21, h⟩ := h
  refine gX7_7 (pc := 51) C hK hP hk1 hj21 dX7_comes_51 ?_
  refine lv_iload (pc := 54) hx hb dX7_comes_54 (lv_at hl 0 rfl) ?_
  refine lv_iconst (v := 3) (pc := 56) hx hb dX7_comes_56 (by decide) ?_
  refine lv_iadd (pc := 57) hx hb dX7_comes_57 ?_
  refine lv_iload_n (pc := 58) hx hb dX7_comes_58 rfl (lv_at hl 4 rfl) ?_
  obtain ⟨hk22, h⟩ := h
  obtain ⟨hi23, h⟩ := h
  refine m_iast (pc := 59) C hK hP hS hk22 hi23 dX7_comes_59 (fun M24 H locs eM24 hP hS => ?_)
  replace h := h M24 eM24
  refine lv_aload_n (pc := 60) hx hb dX7_comes_60 rfl (lv_at hl 1 rfl) ?_
  obtain ⟨j25, hj25, h⟩ := h
  refine gX7_7 (pc := 61) C hK hP hk1 hj25 dX7_comes_61 ?_
  refine lv_iload (pc := 64) hx hb dX7_comes_64 (lv_at hl 0 rfl) ?_
  refine lv_iconst (v := 4) (pc := 66) hx hb dX7_comes_66 (by decide) ?_
  refine lv_iadd (pc := 67) hx hb dX7_comes_67 ?_
  refine lv_iconst (v := 0) (pc := 68) hx hb dX7_comes_68 (by decide) ?_
  obtain ⟨hk26, h⟩ := h
  obtain ⟨hi27, h⟩ := h
  refine m_iast (pc := 69) C hK hP hS hk26 hi27 dX7_comes_69 (fun M28 H locs eM28 hP hS => ?_)
  replace h := h M28 eM28
  refine lv_aload_n (pc := 70) hx hb dX7_comes_70 rfl (lv_at hl 1 rfl) ?_
  obtain ⟨j29, hj29, h⟩ := h
  refine gX7_7 (pc := 71) C hK hP hk1 hj29 dX7_comes_71 ?_
  refine lv_iload (pc := 74) hx hb dX7_comes_74 (lv_at hl 0 rfl) ?_
  refine lv_iconst (v := 5) (pc := 76) hx hb dX7_comes_76 (by decide) ?_
  refine lv_iadd (pc := 77) hx hb dX7_comes_77 ?_
  refine lv_iload (pc := 78) hx hb dX7_comes_78 (lv_at hl 5 rfl) ?_
  obtain ⟨hk30, h⟩ := h
  obtain ⟨hi31, h⟩ := h
  refine m_iast (pc := 80) C hK hP hS hk30 hi31 dX7_comes_80 (fun M32 H locs eM32 hP hS => ?_)
  replace h := h M32 eM32
  refine lv_aload_n (pc := 81) hx hb dX7_comes_81 rfl (lv_at hl 1 rfl) ?_
  obtain ⟨j33, hj33, h⟩ := h
  refine gX7_7 (pc := 82) C hK hP hk1 hj33 dX7_comes_82 ?_
  refine lv_iload (pc := 85) hx hb dX7_comes_85 (lv_at hl 0 rfl) ?_
  refine lv_bipush (v := 6) (pc := 87) hx hb dX7_comes_87 (by decide) ?_
  refine lv_iadd (pc := 89) hx hb dX7_comes_89 ?_
  refine lv_iload (pc := 90) hx hb dX7_comes_90 (lv_at hl 6 rfl) ?_
  obtain ⟨hk34, h⟩ := h
  obtain ⟨hi35, h⟩ := h
  refine m_iast (pc := 92) C hK hP hS hk34 hi35 dX7_comes_92 (fun M36 H locs eM36 hP hS => ?_)
  replace h := h M36 eM36
  refine lv_aload_n (pc := 93) hx hb dX7_comes_93 rfl (lv_at hl 1 rfl) ?_
  obtain ⟨j37, hj37, h⟩ := h
  refine gX7_7 (pc := 94) C hK hP hk1 hj37 dX7_comes_94 ?_
  refine lv_iconst (v := 5) (pc := 97) hx hb dX7_comes_97 (by decide) ?_
  refine lv_dup2_11 (pc := 98) hx hb dX7_comes_98 rfl rfl ?_
  obtain ⟨hk38, h⟩ := h
  obtain ⟨hi39, h⟩ := h
  refine m_iald (pc := 99) C hK hP hk38 hi39 dX7_comes_99 ?_
  refine lv_iconst (v := 1) (pc := 100) hx hb dX7_comes_100 (by decide) ?_
  refine lv_iadd (pc := 101) hx hb dX7_comes_101 ?_
  obtain ⟨hi40, h⟩ := h
  refine m_iast (pc := 102) C hK hP hS hk38 hi40 dX7_comes_102 (fun M41 H locs eM41 hP hS => ?_)
  replace h := h M41 eM41
  refine lv_aload_n (pc := 103) hx hb dX7_comes_103 rfl (lv_at hl 1 rfl) ?_
  obtain ⟨j42, hj42, h⟩ := h
  refine gX7_7 (pc := 104) C hK hP hk1 hj42 dX7_comes_104 ?_
  refine lv_bipush (v := 6) (pc := 107) hx hb dX7_comes_107 (by decide) ?_
  refine lv_dup2_11 (pc := 109) hx hb dX7_comes_109 rfl rfl ?_
  obtain ⟨hk43, h⟩ := h
  obtain ⟨hi44, h⟩ := h
  refine m_iald (pc := 110) C hK hP hk43 hi44 dX7_comes_110 ?_
  refine lv_iconst (v := 1) (pc := 111) hx hb dX7_comes_111 (by decide) ?_
  refine lv_iadd (pc := 112) hx hb dX7_comes_112 ?_
  obtain ⟨hi45, h⟩ := h
  refine m_iast (pc := 113) C hK hP hS hk43 hi45 dX7_comes_113 (fun M46 H locs eM46 hP hS => ?_)
  replace h := h M46 eM46
  exact m_vret (pc := 114) C hr hlk hP hS dX7_comes_114 h
/-! ForgeHeatsModel.job (IIIIZ)I -/
def wp_X7_job (n : Nat) (M : Mem) (i : Nat) (p1 : Int32) (p2 : Int32) (p3 : Int32) (p4 : Int32) (p5 : Bool) (P : Int32 → Mem → Prop) : Prop := m_tp n i 7 ∧ (∀ M2 : Mem, M2 = uI M i 0 0 → (wp_X7_isDie n M2 p1 (fun z4 M3 => ((z4 = false → wp_X7_fails n M3 i 1 (fun r6 M5 => P r6 M5)) ∧ (z4 = true → wp_X7_isHeat n M3 p2 (fun z8 M7 => ((z8 = true → wp_X7_in n M7 p3 1 40 (fun z10 M9 => ((z10 = false → wp_X7_fails n M9 i 2 (fun r12 M11 => P r12 M11)) ∧ (z10 = true → wp_X7_in n M9 p4 0 9999 (fun z14 M13 => ((z14 = true → ∃ j15 : Nat, M13.2.1 i 1 = some j15 ∧ (m_tp n j15 8 ∧ (vp_in 5 (m_len j15) ∧ (((¬ (M13.1 j15 (5 : Int32).toNatClampNeg) = 10 → wp_X7_saves n M13 i (fun M18 => wp_X7_comes n M18 i p1 p2 p3 p4 (bI (if p5 = false then false else true)) (fun M20 => ∃ j22 : Nat, M20.2.1 i 1 = some j22 ∧ (m_tp n j22 8 ∧ (vp_in 6 (m_len j22) ∧ (P ((M20.1 j22 (6 : Int32).toNatClampNeg) - 1) M20)))))) ∧ ((M13.1 j15 (5 : Int32).toNatClampNeg) = 10 → wp_X7_fails n M13 i 3 (fun r26 M25 => P r26 M25))))))) ∧ (z14 = false → wp_X7_fails n M13 i 2 (fun r28 M27 => P r28 M27)))))))) ∧ (z8 = false → wp_X7_fails n M7 i 1 (fun r30 M29 => P r30 M29)))))))))
abbrev rm_X7_job : Room := { frames := 2, cells := 0, slots := 0, locals := 42 }
set_option maxHeartbeats 4000000 in
set_option maxRecDepth 100000 in
theorem c_X7_job {l : Launch} {D : va_G} {cA : Nat → ClassId} {b n : Nat} {M : Mem} {i : Nat} {p1 : Int32} {p2 : Int32} {p3 : Int32} {p4 : Int32} {p5 : Bool} {P : Int32 → Mem → Prop} (h : wp_X7_job n M i p1 p2 p3 p4 p5 P) : m_C l D cA b n n M yX7_job cX7_job 6 (some .int) rm_X7_job 0 0 [.ref (b + i), .int p1, .int p2, .int p3, .int p4, .int (bI p5)] (rI P) := by
  refine m_enter (by decide) (Nat.le_of_ble_eq_true rfl) (fun p e s m below meth c C hr hlk hnm hK hP hS ls hl => ?_)
  have hx := C.1
  have hb := C.2.1
  have hl : lv_has ls 6 [(0, .ref (b + i)), (1, .int p1), (2, .int p2), (3, .int p3), (4, .int p4), (5, .int (bI p5))] := hl
  unfold wp_X7_job at h
  refine lv_aload_n (pc := 0) hx hb dX7_job_0 rfl (lv_at hl 0 rfl) ?_
  refine lv_iconst (v := 0) (pc := 1) hx hb dX7_job_1 (by decide) ?_
  obtain ⟨hk1, h⟩ := h
  refine pX7_25 (pc := 2) (v := 0) C hK hP hS hk1 dX7_job_2 (fun M2 H locs eM2 hP hS => ?_)
  replace h := h M2 eM2
  refine lv_iload_n (pc := 5) hx hb dX7_job_5 rfl (lv_at hl 1 rfl) ?_
  refine m_callSZ (pc := 6) (y := yX7_isDie) (As := [.int p1]) (rest := []) C hK hP hS hl.1 ⟨Nat.zero_le _, Nat.zero_le _⟩ (c_X7_isDie h) rfl rfl q_996 q_997 q_8 q_998 ⟨rfl, rfl⟩ yd_X7_isDie ⟨Nat.le_of_ble_eq_true rfl, Nat.le_of_ble_eq_true rfl⟩ (Nat.le_of_ble_eq_true rfl) dX7_job_6 (fun z4 M3 H locs h hP hS => ?_)
  refine lv_if_eq (tgt := 19) (pc := 9) hx hb dX7_job_9 (by decide) (fun c9 => ?_) (fun c9 => ?_)
  · replace h := h.1 (bZ0 c9)
    refine lv_aload_n (pc := 19) hx hb dX7_job_19 rfl (lv_at hl 0 rfl) ?_
    refine lv_iconst (v := 1) (pc := 20) hx hb dX7_job_20 (by decide) ?_
    refine m_callVI (pc := 21) (y := yX7_fails) (κ := 7) (As := [.int 1]) (rest := []) C hK hP hS hl.1 ⟨Nat.zero_le _, Nat.zero_le _⟩ (c_X7_fails h) rfl rfl hk1 (by decide) rfl q_976 q_978 q_s35 q_8 q_979 ⟨rfl, rfl⟩ yd_X7_fails ⟨Nat.le_of_ble_eq_true rfl, Nat.le_of_ble_eq_true rfl⟩ (Nat.le_of_ble_eq_true rfl) dX7_job_21 (fun r6 M5 H locs h hP hS => ?_)
    exact m_iret (v := r6) (pc := 24) C hr hlk hP hS dX7_job_24 h
  · replace h := h.2 (bZ1 c9)
    refine lv_iload_n (pc := 12) hx hb dX7_job_12 rfl (lv_at hl 2 rfl) ?_
    refine m_callSZ (pc := 13) (y := yX7_isHeat) (As := [.int p2]) (rest := []) C hK hP hS hl.1 ⟨Nat.zero_le _, Nat.zero_le _⟩ (c_X7_isHeat h) rfl rfl q_970 q_971 q_8 q_972 ⟨rfl, rfl⟩ yd_X7_isHeat ⟨Nat.le_of_ble_eq_true rfl, Nat.le_of_ble_eq_true rfl⟩ (Nat.le_of_ble_eq_true rfl) dX7_job_13 (fun z8 M7 H locs h hP hS => ?_)
    refine lv_if_ne (tgt := 25) (pc := 16) hx hb dX7_job_16 (by decide) (fun c16 => ?_) (fun c16 => ?_)
    · replace h := h.1 (bZ1 c16)
      refine lv_iload_n (pc := 25) hx hb dX7_job_25 rfl (lv_at hl 3 rfl) ?_
      refine lv_iconst (v := 1) (pc := 26) hx hb dX7_job_26 (by decide) ?_
      refine lv_bipush (v := 40) (pc := 27) hx hb dX7_job_27 (by decide) ?_
      refine m_callSZ (pc := 29) (y := yX7_in) (As := [.int p3, .int 1, .int 40]) (rest := []) C hK hP hS hl.1 ⟨Nat.zero_le _, Nat.zero_le _⟩ (c_X7_in h) rfl rfl q_973 q_974 q_8 q_975 ⟨rfl, rfl⟩ yd_X7_in ⟨Nat.le_of_ble_eq_true rfl, Nat.le_of_ble_eq_true rfl⟩ (Nat.le_of_ble_eq_true rfl) dX7_job_29 (fun z10 M9 H locs h hP hS => ?_)
      refine lv_if_eq (tgt := 47) (pc := 32) hx hb dX7_job_32 (by decide) (fun c32 => ?_) (fun c32 => ?_)
      · replace h := h.1 (bZ0 c32)
        refine lv_aload_n (pc := 47) hx hb dX7_job_47 rfl (lv_at hl 0 rfl) ?_
        refine lv_iconst (v := 2) (pc := 48) hx hb dX7_job_48 (by decide) ?_
        refine m_callVI (pc := 49) (y := yX7_fails) (κ := 7) (As := [.int 2]) (rest := []) C hK hP hS hl.1 ⟨Nat.zero_le _, Nat.zero_le _⟩ (c_X7_fails h) rfl rfl hk1 (by decide) rfl q_976 q_978 q_s35 q_8 q_979 ⟨rfl, rfl⟩ yd_X7_fails ⟨Nat.le_of_ble_eq_true rfl, Nat.le_of_ble_eq_true rfl⟩ (Nat.le_of_ble_eq_true rfl) dX7_job_49 (fun r12 M11 H locs h hP hS => ?_)
        exact m_iret (v := r12) (pc := 52) C hr hlk hP hS dX7_job_52 h
      · replace h := h.2 (bZ1 c32)
        refine lv_iload (pc := 35) hx hb dX7_job_35 (lv_at hl 4 rfl) ?_
        refine lv_iconst (v := 0) (pc := 37) hx hb dX7_job_37 (by decide) ?_
        refine lv_sipush (v := 9999) (pc := 38) hx hb dX7_job_38 (by decide) ?_
        refine m_callSZ (pc := 41) (y := yX7_in) (As := [.int p4, .int 0, .int 9999]) (rest := []) C hK hP hS hl.1 ⟨Nat.zero_le _, Nat.zero_le _⟩ (c_X7_in h) rfl rfl q_973 q_974 q_8 q_975 ⟨rfl, rfl⟩ yd_X7_in ⟨Nat.le_of_ble_eq_true rfl, Nat.le_of_ble_eq_true rfl⟩ (Nat.le_of_ble_eq_true rfl) dX7_job_41 (fun z14 M13 H locs h hP hS => ?_)
        refine lv_if_ne (tgt := 53) (pc := 44) hx hb dX7_job_44 (by decide) (fun c44 => ?_) (fun c44 => ?_)
        · replace h := h.1 (bZ1 c44)
          refine lv_aload_n (pc := 53) hx hb dX7_job_53 rfl (lv_at hl 0 rfl) ?_
          obtain ⟨j15, hj15, h⟩ := h
          refine gX7_7 (pc := 54) C hK hP hk1 hj15 dX7_job_54 ?_
          refine lv_iconst (v := 5) (pc := 57) hx hb dX7_job_57 (by decide) ?_
          obtain ⟨hk16, h⟩ := h
          obtain ⟨hi17, h⟩ := h
          refine m_iald (pc := 58) C hK hP hk16 hi17 dX7_job_58 ?_
          refine lv_bipush (v := 10) (pc := 59) hx hb dX7_job_59 (by decide) ?_
          refine lv_icmp_ne (tgt := 70) (pc := 61) hx hb dX7_job_61 (by decide) (fun c61 => ?_) (fun c61 => ?_)
          · replace h := h.1 c61
            refine lv_aload_n (pc := 70) hx hb dX7_job_70 rfl (lv_at hl 0 rfl) ?_
            refine m_callVV (pc := 71) (y := yX7_saves) (κ := 7) (As := []) (rest := []) C hK hP hS hl.1 ⟨Nat.zero_le _, Nat.zero_le _⟩ (c_X7_saves h) rfl rfl hk1 (by decide) rfl q_984 q_986 q_s37 q_8 q_987 ⟨rfl, rfl⟩ yd_X7_saves ⟨Nat.le_of_ble_eq_true rfl, Nat.le_of_ble_eq_true rfl⟩ (Nat.le_of_ble_eq_true rfl) dX7_job_71 (fun M18 H locs h hP hS => ?_)
            refine lv_aload_n (pc := 74) hx hb dX7_job_74 rfl (lv_at hl 0 rfl) ?_
            refine lv_iload_n (pc := 75) hx hb dX7_job_75 rfl (lv_at hl 1 rfl) ?_
            refine lv_iload_n (pc := 76) hx hb dX7_job_76 rfl (lv_at hl 2 rfl) ?_
            refine lv_iload_n (pc := 77) hx hb dX7_job_77 rfl (lv_at hl 3 rfl) ?_
            refine lv_iload (pc := 78) hx hb dX7_job_78 (lv_at hl 4 rfl) ?_
            refine lv_iload (pc := 80) hx hb dX7_job_80 (lv_at hl 5 rfl) ?_
            refine m_joinZ (z := if p5 = false then false else true) (jp := 90) (rest := [.int p4, .int p3, .int p2, .int p1, .ref (b + i)]) ?_ (fun hJ => ?_)
            rotate_left
            · skip
              refine lv_if_eq (tgt := 89) (pc := 82) hx hb dX7_job_82 (by decide) (fun c82 => ?_) (fun c82 => ?_)
              · skip
                refine lv_iconst (v := 0) (pc := 89) hx hb dX7_job_89 (by decide) ?_
                exact hJ _ false rfl (by rw [if_pos (bZ0 c82)])
              · skip
                refine lv_iconst (v := 1) (pc := 85) hx hb dX7_job_85 (by decide) ?_
                refine lv_goto (tgt := 90) (pc := 86) hx hb dX7_job_86 (by decide) ?_
                exact hJ _ true rfl (by rw [if_neg (by rw [(bZ1 c82)]; decide)])
            refine m_callVV (pc := 90) (y := yX7_comes) (κ := 7) (As := [.int p1, .int p2, .int p3, .int p4, .int (bI (if p5 = false then false else true))]) (rest := []) C hK hP hS hl.1 ⟨Nat.zero_le _, Nat.zero_le _⟩ (c_X7_comes h) rfl rfl hk1 (by decide) rfl q_1019 q_1021 q_s41 q_8 q_1022 ⟨rfl, rfl⟩ yd_X7_comes ⟨Nat.le_of_ble_eq_true rfl, Nat.le_of_ble_eq_true rfl⟩ (Nat.le_of_ble_eq_true rfl) dX7_job_90 (fun M20 H locs h hP hS => ?_)
            refine lv_aload_n (pc := 93) hx hb dX7_job_93 rfl (lv_at hl 0 rfl) ?_
            obtain ⟨j22, hj22, h⟩ := h
            refine gX7_7 (pc := 94) C hK hP hk1 hj22 dX7_job_94 ?_
            refine lv_bipush (v := 6) (pc := 97) hx hb dX7_job_97 (by decide) ?_
            obtain ⟨hk23, h⟩ := h
            obtain ⟨hi24, h⟩ := h
            refine m_iald (pc := 99) C hK hP hk23 hi24 dX7_job_99 ?_
            refine lv_iconst (v := 1) (pc := 100) hx hb dX7_job_100 (by decide) ?_
            refine lv_isub (pc := 101) hx hb dX7_job_101 ?_
            exact m_iret (v := (M20.1 j22 (6 : Int32).toNatClampNeg) - 1) (pc := 102) C hr hlk hP hS dX7_job_102 h
          · replace h := h.2 c61
            refine lv_aload_n (pc := 64) hx hb dX7_job_64 rfl (lv_at hl 0 rfl) ?_
            refine lv_iconst (v := 3) (pc := 65) hx hb dX7_job_65 (by decide) ?_
            refine m_callVI (pc := 66) (y := yX7_fails) (κ := 7) (As := [.int 3]) (rest := []) C hK hP hS hl.1 ⟨Nat.zero_le _, Nat.zero_le _⟩ (c_X7_fails h) rfl rfl hk1 (by decide) rfl q_976 q_978 q_s35 q_8 q_979 ⟨rfl, rfl⟩ yd_X7_fails ⟨Nat.le_of_ble_eq_true rfl, Nat.le_of_ble_eq_true rfl⟩ (Nat.le_of_ble_eq_true rfl) dX7_job_66 (fun r26 M25 H locs h hP hS => ?_)
            exact m_iret (v := r26) (pc := 69) C hr hlk hP hS dX7_job_69 h
        · replace h := h.2 (bZ0 c44)
          refine lv_aload_n (pc := 47) hx hb dX7_job_47 rfl (lv_at hl 0 rfl) ?_
          refine lv_iconst (v := 2) (pc := 48) hx hb dX7_job_48 (by decide) ?_
          refine m_callVI (pc := 49) (y := yX7_fails) (κ := 7) (As := [.int 2]) (rest := []) C hK hP hS hl.1 ⟨Nat.zero_le _, Nat.zero_le _⟩ (c_X7_fails h) rfl rfl hk1 (by decide) rfl q_976 q_978 q_s35 q_8 q_979 ⟨rfl, rfl⟩ yd_X7_fails ⟨Nat.le_of_ble_eq_true rfl, Nat.le_of_ble_eq_true rfl⟩ (Nat.le_of_ble_eq_true rfl) dX7_job_49 (fun r28 M27 H locs h hP hS => ?_)
          exact m_iret (v := r28) (pc := 52) C hr hlk hP hS dX7_job_52 h
    · replace h := h.2 (bZ0 c16)
      refine lv_aload_n (pc := 19) hx hb dX7_job_19 rfl (lv_at hl 0 rfl) ?_
      refine lv_iconst (v := 1) (pc := 20) hx hb dX7_job_20 (by decide) ?_
      refine m_callVI (pc := 21) (y := yX7_fails) (κ := 7) (As := [.int 1]) (rest := []) C hK hP hS hl.1 ⟨Nat.zero_le _, Nat.zero_le _⟩ (c_X7_fails h) rfl rfl hk1 (by decide) rfl q_976 q_978 q_s35 q_8 q_979 ⟨rfl, rfl⟩ yd_X7_fails ⟨Nat.le_of_ble_eq_true rfl, Nat.le_of_ble_eq_true rfl⟩ (Nat.le_of_ble_eq_true rfl) dX7_job_21 (fun r30 M29 H locs h hP hS => ?_)
      exact m_iret (v := r30) (pc := 24) C hr hlk hP hS dX7_job_24 h
/-! ForgeHeatsModel.cancel (I)I -/
def wpB_X7_cancel_31 (n : Nat) (P : Int32 → Mem → Prop) (R_ : Mem → Nat → Int32 → Int32 → Int32 → Prop) (M : Mem) (x0 : Nat) (x2 : Int32) (x3 : Int32) (x4 : Int32) : Prop := ((6 < x4 → m_tp n x0 7 ∧ (wp_X7_dropsJob n M x0 x2 (fun M7 => P x3 M7))) ∧ (¬ 6 < x4 → m_tp n x0 7 ∧ (wp_X7_jobOn n M x0 x4 (fun r12 M10 => ((¬ r12 = x2 → ∀ v13 : Int32, v13 = x4 + 1 → (R_ M10 x0 x2 x3 v13)) ∧ (r12 = x2 → wp_X7_scraps n M10 x0 x4 (fun M14 => ∀ v16 : Int32, v16 = x3 + 1 → (∀ v17 : Int32, v17 = x4 + 1 → (R_ M14 x0 x2 v16 v17)))))))))
def wpL_X7_cancel_31 (n : Nat) (P : Int32 → Mem → Prop) : Nat → Mem → Nat → Int32 → Int32 → Int32 → Prop
  | 0 => fun _ _ _ _ _ => False
  | f + 1 => fun M x0 x2 x3 x4 => wpB_X7_cancel_31 n P (wpL_X7_cancel_31 n P f) M x0 x2 x3 x4
def wp_X7_cancel (n : Nat) (M : Mem) (i : Nat) (p1 : Int32) (P : Int32 → Mem → Prop) : Prop := m_tp n i 7 ∧ (∀ M2 : Mem, M2 = uI M i 0 0 → (wp_X7_jobWith n M2 i p1 (fun r4 M3 => ((¬ r4 = (-1) → wp_X7_saves n M3 i (fun M5 => ∃ f : Nat, wpL_X7_cancel_31 n P f M5 i r4 0 0)) ∧ (r4 = (-1) → wp_X7_fails n M3 i 1 (fun r19 M18 => P r19 M18))))))
abbrev rm_X7_cancel : Room := { frames := 4, cells := 0, slots := 0, locals := 86 }
set_option maxHeartbeats 4000000 in
set_option maxRecDepth 100000 in
theorem c_X7_cancel {l : Launch} {D : va_G} {cA : Nat → ClassId} {b n : Nat} {M : Mem} {i : Nat} {p1 : Int32} {P : Int32 → Mem → Prop} (h : wp_X7_cancel n M i p1 P) : m_C l D cA b n n M yX7_cancel cX7_cancel 5 (some .int) rm_X7_cancel 0 0 [.ref (b + i), .int p1] (rI P) := by
  refine m_enter (by decide) (Nat.le_of_ble_eq_true rfl) (fun p e s m below meth c C hr hlk hnm hK hP hS ls hl => ?_)
  have hx := C.1
  have hb := C.2.1
  have hl : lv_has ls 5 [(0, .ref (b + i)), (1, .int p1)] := hl
  have L31 : ∀ f : Nat, ∀ (M : Mem) (H : Heap) (locs : List Loc) (ls : Array Slot) (x0 : Nat) (x2 : Int32) (x3 : Int32) (x4 : Int32), wpL_X7_cancel_31 n P f M x0 x2 x3 x4 → m_H D cA b n M H → va_S (m_A b) s.heap H locs → lv_has ls 5 [(0, .ref (b + x0)), (2, .int x2), (3, .int x3), (4, .int x4)] → W p l e rm_X7_cancel s m ([.ref (b + i), .int p1] : List Value).toArray below meth c H locs 0 0 (MQ below (m_Q D cA b n (rI P)) ([.ref (b + i), .int p1] : List Value).toArray s 0 0 (m_A b)) (F0 m 31 ls []) := by
    clear h
    intro f
    induction f with
    | zero => intro M H locs ls x0 x2 x3 x4 h; exact h.elim
    | succ f ih =>
      intro M H locs ls x0 x2 x3 x4 h hP hS hl
      have h : wpB_X7_cancel_31 n P (wpL_X7_cancel_31 n P f) M x0 x2 x3 x4 := h
      unfold wpB_X7_cancel_31 at h
      refine lv_iload (pc := 31) hx hb dX7_cancel_31 (lv_at hl 3 rfl) ?_
      refine lv_bipush (v := 6) (pc := 33) hx hb dX7_cancel_33 (by decide) ?_
      refine lv_icmp_gt (tgt := 63) (pc := 35) hx hb dX7_cancel_35 (by decide) (fun c35 => ?_) (fun c35 => ?_)
      · replace h := h.1 c35
        refine lv_aload_n (pc := 63) hx hb dX7_cancel_63 rfl (lv_at hl 0 rfl) ?_
        refine lv_iload_n (pc := 64) hx hb dX7_cancel_64 rfl (lv_at hl 1 rfl) ?_
        obtain ⟨hk8, h⟩ := h
        refine m_callVV (pc := 65) (y := yX7_dropsJob) (κ := 7) (As := [.int x2]) (rest := []) C hK hP hS hl.1 ⟨Nat.zero_le _, Nat.zero_le _⟩ (c_X7_dropsJob h) rfl rfl hk8 (by decide) rfl q_1055 q_1057 q_s49 q_8 q_1058 ⟨rfl, rfl⟩ yd_X7_dropsJob ⟨Nat.le_of_ble_eq_true rfl, Nat.le_of_ble_eq_true rfl⟩ (Nat.le_of_ble_eq_true rfl) dX7_cancel_65 (fun M7 H locs h hP hS => ?_)
        refine lv_iload_n (pc := 68) hx hb dX7_cancel_68 rfl (lv_at hl 2 rfl) ?_
        exact m_iret (v := x3) (pc := 69) C hr hlk hP hS dX7_cancel_69 h
      · replace h := h.2 c35
        refine lv_aload_n (pc := 38) hx hb dX7_cancel_38 rfl (lv_at hl 0 rfl) ?_
        refine lv_iload (pc := 39) hx hb dX7_cancel_39 (lv_at hl 3 rfl) ?_
        obtain ⟨hk11, h⟩ := h
        refine m_callVI (pc := 41) (y := yX7_jobOn) (κ := 7) (As := [.int x4]) (rest := []) C hK hP hS hl.1 ⟨Nat.zero_le _, Nat.zero_le _⟩ (c_X7_jobOn h) rfl rfl hk11 (by decide) rfl q_1035 q_1037 q_s44 q_8 q_1038 ⟨rfl, rfl⟩ yd_X7_jobOn ⟨Nat.le_of_ble_eq_true rfl, Nat.le_of_ble_eq_true rfl⟩ (Nat.le_of_ble_eq_true rfl) dX7_cancel_41 (fun r12 M10 H locs h hP hS => ?_)
        refine lv_iload_n (pc := 44) hx hb dX7_cancel_44 rfl (lv_at hl 1 rfl) ?_
        refine lv_icmp_ne (tgt := 57) (pc := 45) hx hb dX7_cancel_45 (by decide) (fun c45 => ?_) (fun c45 => ?_)
        · replace h := h.1 c45
          obtain ⟨v13, ev13⟩ : ∃ y : Int32, y = x4 + 1 := ⟨_, rfl⟩
          replace h := h v13 ev13
          refine lv_iinc (v := v13) (lv' := [(4, .int v13), (0, .ref (b + x0)), (2, .int x2), (3, .int x3)]) (pc := 57) hx hb dX7_cancel_57 hl (k := 3) rfl (by rw [ev13]; rfl) (by decide) rfl (fun ls hl => ?_)
          refine lv_goto (tgt := 31) (pc := 60) hx hb dX7_cancel_60 (by decide) ?_
          exact ih _ _ _ _ _ _ _ _ h hP hS (lv_sub hl [1, 2, 3, 0] rfl)
        · replace h := h.2 c45
          refine lv_aload_n (pc := 48) hx hb dX7_cancel_48 rfl (lv_at hl 0 rfl) ?_
          refine lv_iload (pc := 49) hx hb dX7_cancel_49 (lv_at hl 3 rfl) ?_
          refine m_callVV (pc := 51) (y := yX7_scraps) (κ := 7) (As := [.int x4]) (rest := []) C hK hP hS hl.1 ⟨Nat.zero_le _, Nat.zero_le _⟩ (c_X7_scraps h) rfl rfl hk11 (by decide) rfl q_1043 q_1045 q_s46 q_8 q_1046 ⟨rfl, rfl⟩ yd_X7_scraps ⟨Nat.le_of_ble_eq_true rfl, Nat.le_of_ble_eq_true rfl⟩ (Nat.le_of_ble_eq_true rfl) dX7_cancel_51 (fun M14 H locs h hP hS => ?_)
          obtain ⟨v16, ev16⟩ : ∃ y : Int32, y = x3 + 1 := ⟨_, rfl⟩
          replace h := h v16 ev16
          refine lv_iinc (v := v16) (lv' := [(3, .int v16), (0, .ref (b + x0)), (2, .int x2), (4, .int x4)]) (pc := 54) hx hb dX7_cancel_54 hl (k := 2) rfl (by rw [ev16]; rfl) (by decide) rfl (fun ls hl => ?_)
          obtain ⟨v17, ev17⟩ : ∃ y : Int32, y = x4 + 1 := ⟨_, rfl⟩
          replace h := h v17 ev17
          refine lv_iinc (v := v17) (lv' := [(4, .int v17), (3, .int v16), (0, .ref (b + x0)), (2, .int x2)]) (pc := 57) hx hb dX7_cancel_57 hl (k := 3) rfl (by rw [ev17]; rfl) (by decide) rfl (fun ls hl => ?_)
          refine lv_goto (tgt := 31) (pc := 60) hx hb dX7_cancel_60 (by decide) ?_
          exact ih _ _ _ _ _ _ _ _ h hP hS (lv_sub hl [2, 3, 1, 0] rfl)
  unfold wp_X7_cancel at h
  refine lv_aload_n (pc := 0) hx hb dX7_cancel_0 rfl (lv_at hl 0 rfl) ?_
  refine lv_iconst (v := 0) (pc := 1) hx hb dX7_cancel_1 (by decide) ?_
  obtain ⟨hk1, h⟩ := h
  refine pX7_25 (pc := 2) (v := 0) C hK hP hS hk1 dX7_cancel_2 (fun M2 H locs eM2 hP hS => ?_)
  replace h := h M2 eM2
  refine lv_aload_n (pc := 5) hx hb dX7_cancel_5 rfl (lv_at hl 0 rfl) ?_
  refine lv_iload_n (pc := 6) hx hb dX7_cancel_6 rfl (lv_at hl 1 rfl) ?_
  refine m_callVI (pc := 7) (y := yX7_jobWith) (κ := 7) (As := [.int p1]) (rest := []) C hK hP hS hl.1 ⟨Nat.zero_le _, Nat.zero_le _⟩ (c_X7_jobWith h) rfl rfl hk1 (by decide) rfl q_1027 q_1029 q_s42 q_8 q_1030 ⟨rfl, rfl⟩ yd_X7_jobWith ⟨Nat.le_of_ble_eq_true rfl, Nat.le_of_ble_eq_true rfl⟩ (Nat.le_of_ble_eq_true rfl) dX7_cancel_7 (fun r4 M3 H locs h hP hS => ?_)
  refine lv_istore_n (lv' := [(2, .int r4), (0, .ref (b + i)), (1, .int p1)]) (pc := 10) hx hb dX7_cancel_10 rfl hl (by decide) rfl (fun ls hl => ?_)
  refine lv_iload_n (pc := 11) hx hb dX7_cancel_11 rfl (lv_at hl 0 rfl) ?_
  refine lv_iconst (v := -1) (pc := 12) hx hb dX7_cancel_12 (by decide) ?_
  refine lv_icmp_ne (tgt := 22) (pc := 13) hx hb dX7_cancel_13 (by decide) (fun c13 => ?_) (fun c13 => ?_)
  · replace h := h.1 c13
    refine lv_aload_n (pc := 22) hx hb dX7_cancel_22 rfl (lv_at hl 1 rfl) ?_
    refine m_callVV (pc := 23) (y := yX7_saves) (κ := 7) (As := []) (rest := []) C hK hP hS hl.1 ⟨Nat.zero_le _, Nat.zero_le _⟩ (c_X7_saves h) rfl rfl hk1 (by decide) rfl q_984 q_986 q_s37 q_8 q_987 ⟨rfl, rfl⟩ yd_X7_saves ⟨Nat.le_of_ble_eq_true rfl, Nat.le_of_ble_eq_true rfl⟩ (Nat.le_of_ble_eq_true rfl) dX7_cancel_23 (fun M5 H locs h hP hS => ?_)
    refine lv_iconst (v := 0) (pc := 26) hx hb dX7_cancel_26 (by decide) ?_
    refine lv_istore_n (lv' := [(3, .int 0), (2, .int r4), (0, .ref (b + i)), (1, .int p1)]) (pc := 27) hx hb dX7_cancel_27 rfl hl (by decide) rfl (fun ls hl => ?_)
    refine lv_iconst (v := 0) (pc := 28) hx hb dX7_cancel_28 (by decide) ?_
    refine lv_istore (lv' := [(4, .int 0), (3, .int 0), (2, .int r4), (0, .ref (b + i)), (1, .int p1)]) (pc := 29) hx hb dX7_cancel_29 hl (by decide) rfl (fun ls hl => ?_)
    obtain ⟨f, h⟩ := h
    exact L31 f _ _ _ _ _ _ _ _ h hP hS (lv_sub hl [3, 2, 1, 0] rfl)
  · replace h := h.2 c13
    refine lv_aload_n (pc := 16) hx hb dX7_cancel_16 rfl (lv_at hl 1 rfl) ?_
    refine lv_iconst (v := 1) (pc := 17) hx hb dX7_cancel_17 (by decide) ?_
    refine m_callVI (pc := 18) (y := yX7_fails) (κ := 7) (As := [.int 1]) (rest := []) C hK hP hS hl.1 ⟨Nat.zero_le _, Nat.zero_le _⟩ (c_X7_fails h) rfl rfl hk1 (by decide) rfl q_976 q_978 q_s35 q_8 q_979 ⟨rfl, rfl⟩ yd_X7_fails ⟨Nat.le_of_ble_eq_true rfl, Nat.le_of_ble_eq_true rfl⟩ (Nat.le_of_ble_eq_true rfl) dX7_cancel_18 (fun r19 M18 H locs h hP hS => ?_)
    exact m_iret (v := r19) (pc := 21) C hr hlk hP hS dX7_cancel_21 h
/-! ForgeHeatsModel.rush (IZ)I -/
def wp_X7_rush (n : Nat) (M : Mem) (i : Nat) (p1 : Int32) (p2 : Bool) (P : Int32 → Mem → Prop) : Prop := m_tp n i 7 ∧ (∀ M2 : Mem, M2 = uI M i 0 0 → (wp_X7_jobWith n M2 i p1 (fun r4 M3 => ((¬ r4 = (-1) → wp_X7_saves n M3 i (fun M5 => ∃ j7 : Nat, M5.2.1 i 1 = some j7 ∧ (m_tp n j7 8 ∧ (vp_in ((60 + (7 * r4)) + 6) (m_len j7) ∧ (∀ M10 : Mem, M10 = uI M5 j7 ((60 + (7 * r4)) + 6).toNatClampNeg (bI (if p2 = false then false else true)) → (wp_X7_rankOf n M10 i r4 (fun r12 M11 => P r12 M11))))))) ∧ (r4 = (-1) → wp_X7_fails n M3 i 1 (fun r14 M13 => P r14 M13))))))
abbrev rm_X7_rush : Room := { frames := 3, cells := 0, slots := 0, locals := 69 }
set_option maxHeartbeats 4000000 in
set_option maxRecDepth 100000 in
theorem c_X7_rush {l : Launch} {D : va_G} {cA : Nat → ClassId} {b n : Nat} {M : Mem} {i : Nat} {p1 : Int32} {p2 : Bool} {P : Int32 → Mem → Prop} (h : wp_X7_rush n M i p1 p2 P) : m_C l D cA b n n M yX7_rush cX7_rush 4 (some .int) rm_X7_rush 0 0 [.ref (b + i), .int p1, .int (bI p2)] (rI P) := by
  refine m_enter (by decide) (Nat.le_of_ble_eq_true rfl) (fun p e s m below meth c C hr hlk hnm hK hP hS ls hl => ?_)
  have hx := C.1
  have hb := C.2.1
  have hl : lv_has ls 4 [(0, .ref (b + i)), (1, .int p1), (2, .int (bI p2))] := hl
  unfold wp_X7_rush at h
  refine lv_aload_n (pc := 0) hx hb dX7_rush_0 rfl (lv_at hl 0 rfl) ?_
  refine lv_iconst (v := 0) (pc := 1) hx hb dX7_rush_1 (by decide) ?_
  obtain ⟨hk1, h⟩ := h
  refine pX7_25 (pc := 2) (v := 0) C hK hP hS hk1 dX7_rush_2 (fun M2 H locs eM2 hP hS => ?_)
  replace h := h M2 eM2
  refine lv_aload_n (pc := 5) hx hb dX7_rush_5 rfl (lv_at hl 0 rfl) ?_
  refine lv_iload_n (pc := 6) hx hb dX7_rush_6 rfl (lv_at hl 1 rfl) ?_
  refine m_callVI (pc := 7) (y := yX7_jobWith) (κ := 7) (As := [.int p1]) (rest := []) C hK hP hS hl.1 ⟨Nat.zero_le _, Nat.zero_le _⟩ (c_X7_jobWith h) rfl rfl hk1 (by decide) rfl q_1027 q_1029 q_s42 q_8 q_1030 ⟨rfl, rfl⟩ yd_X7_jobWith ⟨Nat.le_of_ble_eq_true rfl, Nat.le_of_ble_eq_true rfl⟩ (Nat.le_of_ble_eq_true rfl) dX7_rush_7 (fun r4 M3 H locs h hP hS => ?_)
  refine lv_istore_n (lv' := [(3, .int r4), (0, .ref (b + i)), (1, .int p1), (2, .int (bI p2))]) (pc := 10) hx hb dX7_rush_10 rfl hl (by decide) rfl (fun ls hl => ?_)
  refine lv_iload_n (pc := 11) hx hb dX7_rush_11 rfl (lv_at hl 0 rfl) ?_
  refine lv_iconst (v := -1) (pc := 12) hx hb dX7_rush_12 (by decide) ?_
  refine lv_icmp_ne (tgt := 22) (pc := 13) hx hb dX7_rush_13 (by decide) (fun c13 => ?_) (fun c13 => ?_)
  · replace h := h.1 c13
    refine lv_aload_n (pc := 22) hx hb dX7_rush_22 rfl (lv_at hl 1 rfl) ?_
    refine m_callVV (pc := 23) (y := yX7_saves) (κ := 7) (As := []) (rest := []) C hK hP hS hl.1 ⟨Nat.zero_le _, Nat.zero_le _⟩ (c_X7_saves h) rfl rfl hk1 (by decide) rfl q_984 q_986 q_s37 q_8 q_987 ⟨rfl, rfl⟩ yd_X7_saves ⟨Nat.le_of_ble_eq_true rfl, Nat.le_of_ble_eq_true rfl⟩ (Nat.le_of_ble_eq_true rfl) dX7_rush_23 (fun M5 H locs h hP hS => ?_)
    refine lv_aload_n (pc := 26) hx hb dX7_rush_26 rfl (lv_at hl 1 rfl) ?_
    obtain ⟨j7, hj7, h⟩ := h
    refine gX7_7 (pc := 27) C hK hP hk1 hj7 dX7_rush_27 ?_
    refine lv_bipush (v := 60) (pc := 30) hx hb dX7_rush_30 (by decide) ?_
    refine lv_bipush (v := 7) (pc := 32) hx hb dX7_rush_32 (by decide) ?_
    refine lv_iload_n (pc := 34) hx hb dX7_rush_34 rfl (lv_at hl 0 rfl) ?_
    refine lv_imul (pc := 35) hx hb dX7_rush_35 ?_
    refine lv_iadd (pc := 36) hx hb dX7_rush_36 ?_
    refine lv_bipush (v := 6) (pc := 37) hx hb dX7_rush_37 (by decide) ?_
    refine lv_iadd (pc := 39) hx hb dX7_rush_39 ?_
    refine lv_iload_n (pc := 40) hx hb dX7_rush_40 rfl (lv_at hl 3 rfl) ?_
    refine m_joinZ (z := if p2 = false then false else true) (jp := 49) (rest := [.int ((60 + (7 * r4)) + 6), .ref (b + j7)]) ?_ (fun hJ => ?_)
    rotate_left
    · skip
      refine lv_if_eq (tgt := 48) (pc := 41) hx hb dX7_rush_41 (by decide) (fun c41 => ?_) (fun c41 => ?_)
      · skip
        refine lv_iconst (v := 0) (pc := 48) hx hb dX7_rush_48 (by decide) ?_
        exact hJ _ false rfl (by rw [if_pos (bZ0 c41)])
      · skip
        refine lv_iconst (v := 1) (pc := 44) hx hb dX7_rush_44 (by decide) ?_
        refine lv_goto (tgt := 49) (pc := 45) hx hb dX7_rush_45 (by decide) ?_
        exact hJ _ true rfl (by rw [if_neg (by rw [(bZ1 c41)]; decide)])
    obtain ⟨hk8, h⟩ := h
    obtain ⟨hi9, h⟩ := h
    refine m_iast (pc := 49) C hK hP hS hk8 hi9 dX7_rush_49 (fun M10 H locs eM10 hP hS => ?_)
    replace h := h M10 eM10
    refine lv_aload_n (pc := 50) hx hb dX7_rush_50 rfl (lv_at hl 1 rfl) ?_
    refine lv_iload_n (pc := 51) hx hb dX7_rush_51 rfl (lv_at hl 0 rfl) ?_
    refine m_callVI (pc := 52) (y := yX7_rankOf) (κ := 7) (As := [.int r4]) (rest := []) C hK hP hS hl.1 ⟨Nat.zero_le _, Nat.zero_le _⟩ (c_X7_rankOf h) rfl rfl hk1 (by decide) rfl q_1063 q_1065 q_s50 q_8 q_1066 ⟨rfl, rfl⟩ yd_X7_rankOf ⟨Nat.le_of_ble_eq_true rfl, Nat.le_of_ble_eq_true rfl⟩ (Nat.le_of_ble_eq_true rfl) dX7_rush_52 (fun r12 M11 H locs h hP hS => ?_)
    exact m_iret (v := r12) (pc := 55) C hr hlk hP hS dX7_rush_55 h
  · replace h := h.2 c13
    refine lv_aload_n (pc := 16) hx hb dX7_rush_16 rfl (lv_at hl 1 rfl) ?_
    refine lv_iconst (v := 1) (pc := 17) hx hb dX7_rush_17 (by decide) ?_
    refine m_callVI (pc := 18) (y := yX7_fails) (κ := 7) (As := [.int 1]) (rest := []) C hK hP hS hl.1 ⟨Nat.zero_le _, Nat.zero_le _⟩ (c_X7_fails h) rfl rfl hk1 (by decide) rfl q_976 q_978 q_s35 q_8 q_979 ⟨rfl, rfl⟩ yd_X7_fails ⟨Nat.le_of_ble_eq_true rfl, Nat.le_of_ble_eq_true rfl⟩ (Nat.le_of_ble_eq_true rfl) dX7_rush_18 (fun r14 M13 H locs h hP hS => ?_)
    exact m_iret (v := r14) (pc := 21) C hr hlk hP hS dX7_rush_21 h
/-! ForgeHeatsModel.isSetting (II)Z -/
def wp_X7_isSetting (n : Nat) (M : Mem) (p1 : Int32) (p2 : Int32) (P : Bool → Mem → Prop) : Prop := ((p1 = 0 → wp_X7_in n M p2 10 300 (fun z2 M1 => P z2 M1)) ∧ (¬ p1 = 0 → ((p1 = 1 → wp_X7_in n M p2 1 200 (fun z4 M3 => P z4 M3)) ∧ (¬ p1 = 1 → ((p1 = 2 → wp_X7_in n M p2 0 3 (fun z6 M5 => P z6 M5)) ∧ (¬ p1 = 2 → wp_X7_in n M p2 1 30 (fun z8 M7 => P z8 M7)))))))
abbrev rm_X7_isSetting : Room := { frames := 1, cells := 0, slots := 0, locals := 22 }
set_option maxHeartbeats 4000000 in
set_option maxRecDepth 100000 in
theorem c_X7_isSetting {l : Launch} {D : va_G} {cA : Nat → ClassId} {b n : Nat} {M : Mem} {p1 : Int32} {p2 : Int32} {P : Bool → Mem → Prop} (h : wp_X7_isSetting n M p1 p2 P) : m_C l D cA b n n M yX7_isSetting cX7_isSetting 2 (some .boolean) rm_X7_isSetting 0 0 [.int p1, .int p2] (rZ P) := by
  refine m_enter (by decide) (Nat.le_of_ble_eq_true rfl) (fun p e s m below meth c C hr hlk hnm hK hP hS ls hl => ?_)
  have hx := C.1
  have hb := C.2.1
  have hl : lv_has ls 2 [(0, .int p1), (1, .int p2)] := hl
  unfold wp_X7_isSetting at h
  refine lv_iload_n (pc := 0) hx hb dX7_isSetting_0 rfl (lv_at hl 0 rfl) ?_
  by_cases n1_0 : p1 = 0
  · replace h := h.1 n1_0
    refine m_case (v := 0) (off := 27) (tgt := 28) (pc := 1) hx hb n1_0 dX7_isSetting_1 (by decide) (by decide) (by decide) (by decide) ?_
    refine lv_iload_n (pc := 28) hx hb dX7_isSetting_28 rfl (lv_at hl 1 rfl) ?_
    refine lv_bipush (v := 10) (pc := 29) hx hb dX7_isSetting_29 (by decide) ?_
    refine lv_sipush (v := 300) (pc := 31) hx hb dX7_isSetting_31 (by decide) ?_
    refine m_callSZ (pc := 34) (y := yX7_in) (As := [.int p2, .int 10, .int 300]) (rest := []) C hK hP hS hl.1 ⟨Nat.zero_le _, Nat.zero_le _⟩ (c_X7_in h) rfl rfl q_973 q_974 q_8 q_975 ⟨rfl, rfl⟩ yd_X7_in ⟨Nat.le_of_ble_eq_true rfl, Nat.le_of_ble_eq_true rfl⟩ (Nat.le_of_ble_eq_true rfl) dX7_isSetting_34 (fun z2 M1 H locs h hP hS => ?_)
    exact m_zret (v := z2) (pc := 37) C hr hlk hP hS dX7_isSetting_37 h
  · replace h := h.2 n1_0
    by_cases n1_1 : p1 = 1
    · replace h := h.1 n1_1
      refine m_case (v := 1) (off := 37) (tgt := 38) (pc := 1) hx hb n1_1 dX7_isSetting_1 (by decide) (by decide) (by decide) (by decide) ?_
      refine lv_iload_n (pc := 38) hx hb dX7_isSetting_38 rfl (lv_at hl 1 rfl) ?_
      refine lv_iconst (v := 1) (pc := 39) hx hb dX7_isSetting_39 (by decide) ?_
      refine lv_sipush (v := 200) (pc := 40) hx hb dX7_isSetting_40 (by decide) ?_
      refine m_callSZ (pc := 43) (y := yX7_in) (As := [.int p2, .int 1, .int 200]) (rest := []) C hK hP hS hl.1 ⟨Nat.zero_le _, Nat.zero_le _⟩ (c_X7_in h) rfl rfl q_973 q_974 q_8 q_975 ⟨rfl, rfl⟩ yd_X7_in ⟨Nat.le_of_ble_eq_true rfl, Nat.le_of_ble_eq_true rfl⟩ (Nat.le_of_ble_eq_true rfl) dX7_isSetting_43 (fun z4 M3 H locs h hP hS => ?_)
      exact m_zret (v := z4) (pc := 46) C hr hlk hP hS dX7_isSetting_46 h
    · replace h := h.2 n1_1
      by_cases n1_2 : p1 = 2
      · replace h := h.1 n1_2
        refine m_case (v := 2) (off := 46) (tgt := 47) (pc := 1) hx hb n1_2 dX7_isSetting_1 (by decide) (by decide) (by decide) (by decide) ?_
        refine lv_iload_n (pc := 47) hx hb dX7_isSetting_47 rfl (lv_at hl 1 rfl) ?_
        refine lv_iconst (v := 0) (pc := 48) hx hb dX7_isSetting_48 (by decide) ?_
        refine lv_iconst (v := 3) (pc := 49) hx hb dX7_isSetting_49 (by decide) ?_
        refine m_callSZ (pc := 50) (y := yX7_in) (As := [.int p2, .int 0, .int 3]) (rest := []) C hK hP hS hl.1 ⟨Nat.zero_le _, Nat.zero_le _⟩ (c_X7_in h) rfl rfl q_973 q_974 q_8 q_975 ⟨rfl, rfl⟩ yd_X7_in ⟨Nat.le_of_ble_eq_true rfl, Nat.le_of_ble_eq_true rfl⟩ (Nat.le_of_ble_eq_true rfl) dX7_isSetting_50 (fun z6 M5 H locs h hP hS => ?_)
        exact m_zret (v := z6) (pc := 53) C hr hlk hP hS dX7_isSetting_53 h
      · replace h := h.2 n1_2
        refine lv_tableOut (tgt := 54) (pc := 1) hx hb dX7_isSetting_1 (by have i0 := i_ne n1_0; have i1 := i_ne n1_1; have i2 := i_ne n1_2; simp only [m_lit] at *; omega) (by decide) ?_
        refine lv_iload_n (pc := 54) hx hb dX7_isSetting_54 rfl (lv_at hl 1 rfl) ?_
        refine lv_iconst (v := 1) (pc := 55) hx hb dX7_isSetting_55 (by decide) ?_
        refine lv_bipush (v := 30) (pc := 56) hx hb dX7_isSetting_56 (by decide) ?_
        refine m_callSZ (pc := 58) (y := yX7_in) (As := [.int p2, .int 1, .int 30]) (rest := []) C hK hP hS hl.1 ⟨Nat.zero_le _, Nat.zero_le _⟩ (c_X7_in h) rfl rfl q_973 q_974 q_8 q_975 ⟨rfl, rfl⟩ yd_X7_in ⟨Nat.le_of_ble_eq_true rfl, Nat.le_of_ble_eq_true rfl⟩ (Nat.le_of_ble_eq_true rfl) dX7_isSetting_58 (fun z8 M7 H locs h hP hS => ?_)
        exact m_zret (v := z8) (pc := 61) C hr hlk hP hS dX7_isSetting_61 h
/-! ForgeHeatsModel.set (II)I -/
def wp_X7_set (n : Nat) (M : Mem) (i : Nat) (p1 : Int32) (p2 : Int32) (P : Int32 → Mem → Prop) : Prop := m_tp n i 7 ∧ (∀ M2 : Mem, M2 = uI M i 0 0 → (wp_X7_in n M2 p1 0 3 (fun z4 M3 => ((z4 = true → wp_X7_isSetting n M3 p1 p2 (fun z6 M5 => ((z6 = true → wp_X7_saves n M5 i (fun M7 => ∃ j9 : Nat, M7.2.1 i 1 = some j9 ∧ (m_tp n j9 8 ∧ (vp_in p1 (m_len j9) ∧ (∀ v12 : Int32, v12 = (M7.1 j9 p1.toNatClampNeg) → (∃ j13 : Nat, M7.2.1 i 1 = some j13 ∧ (m_tp n j13 8 ∧ (vp_in p1 (m_len j13) ∧ (∀ M16 : Mem, M16 = uI M7 j13 p1.toNatClampNeg p2 → (P v12 M16)))))))))) ∧ (z6 = false → wp_X7_fails n M5 i 2 (fun r18 M17 => P r18 M17))))) ∧ (z4 = false → wp_X7_fails n M3 i 1 (fun r20 M19 => P r20 M19))))))
abbrev rm_X7_set : Room := { frames := 2, cells := 0, slots := 0, locals := 43 }
set_option maxHeartbeats 4000000 in
set_option maxRecDepth 100000 in
theorem c_X7_set {l : Launch} {D : va_G} {cA : Nat → ClassId} {b n : Nat} {M : Mem} {i : Nat} {p1 : Int32} {p2 : Int32} {P : Int32 → Mem → Prop} (h : wp_X7_set n M i p1 p2 P) : m_C l D cA b n n M yX7_set cX7_set 4 (some .int) rm_X7_set 0 0 [.ref (b + i), .int p1, .int p2] (rI P) := by
  refine m_enter (by decide) (Nat.le_of_ble_eq_true rfl) (fun p e s m below meth c C hr hlk hnm hK hP hS ls hl => ?_)
  have hx := C.1
  have hb := C.2.1
  have hl : lv_has ls 4 [(0, .ref (b + i)), (1, .int p1), (2, .int p2)] := hl
  unfold wp_X7_set at h
  refine lv_aload_n (pc := 0) hx hb dX7_set_0 rfl (lv_at hl 0 rfl) ?_
  refine lv_iconst (v := 0) (pc := 1) hx hb dX7_set_1 (by decide) ?_
  obtain ⟨hk1, h⟩ := h
  refine pX7_25 (pc := 2) (v := 0) C hK hP hS hk1 dX7_set_2 (fun M2 H locs eM2 hP hS => ?_)
  replace h := h M2 eM2
  refine lv_iload_n (pc := 5) hx hb dX7_set_5 rfl (lv_at hl 1 rfl) ?_
  refine lv_iconst (v := 0) (pc := 6) hx hb dX7_set_6 (by decide) ?_
  refine lv_iconst (v := 3) (pc := 7) hx hb dX7_set_7 (by decide) ?_
  refine m_callSZ (pc := 8) (y := yX7_in) (As := [.int p1, .int 0, .int 3]) (rest := []) C hK hP hS hl.1 ⟨Nat.zero_le _, Nat.zero_le _⟩ (c_X7_in h) rfl rfl q_973 q_974 q_8 q_975 ⟨rfl, rfl⟩ yd_X7_in ⟨Nat.le_of_ble_eq_true rfl, Nat.le_of_ble_eq_true rfl⟩ (Nat.le_of_ble_eq_true rfl) dX7_set_8 (fun z4 M3 H locs h hP hS => ?_)
  refine lv_if_ne (tgt := 20) (pc := 11) hx hb dX7_set_11 (by decide) (fun c11 => ?_) (fun c11 => ?_)
  · replace h := h.1 (bZ1 c11)
    refine lv_iload_n (pc := 20) hx hb dX7_set_20 rfl (lv_at hl 1 rfl) ?_
    refine lv_iload_n (pc := 21) hx hb dX7_set_21 rfl (lv_at hl 2 rfl) ?_
    refine m_callSZ (pc := 22) (y := yX7_isSetting) (As := [.int p1, .int p2]) (rest := []) C hK hP hS hl.1 ⟨Nat.zero_le _, Nat.zero_le _⟩ (c_X7_isSetting h) rfl rfl q_1075 q_1076 q_8 q_1077 ⟨rfl, rfl⟩ yd_X7_isSetting ⟨Nat.le_of_ble_eq_true rfl, Nat.le_of_ble_eq_true rfl⟩ (Nat.le_of_ble_eq_true rfl) dX7_set_22 (fun z6 M5 H locs h hP hS => ?_)
    refine lv_if_ne (tgt := 34) (pc := 25) hx hb dX7_set_25 (by decide) (fun c25 => ?_) (fun c25 => ?_)
    · replace h := h.1 (bZ1 c25)
      refine lv_aload_n (pc := 34) hx hb dX7_set_34 rfl (lv_at hl 0 rfl) ?_
      refine m_callVV (pc := 35) (y := yX7_saves) (κ := 7) (As := []) (rest := []) C hK hP hS hl.1 ⟨Nat.zero_le _, Nat.zero_le _⟩ (c_X7_saves h) rfl rfl hk1 (by decide) rfl q_984 q_986 q_s37 q_8 q_987 ⟨rfl, rfl⟩ yd_X7_saves ⟨Nat.le_of_ble_eq_true rfl, Nat.le_of_ble_eq_true rfl⟩ (Nat.le_of_ble_eq_true rfl) dX7_set_35 (fun M7 H locs h hP hS => ?_)
      refine lv_aload_n (pc := 38) hx hb dX7_set_38 rfl (lv_at hl 0 rfl) ?_
      obtain ⟨j9, hj9, h⟩ := h
      refine gX7_7 (pc := 39) C hK hP hk1 hj9 dX7_set_39 ?_
      refine lv_iload_n (pc := 42) hx hb dX7_set_42 rfl (lv_at hl 1 rfl) ?_
      obtain ⟨hk10, h⟩ := h
      obtain ⟨hi11, h⟩ := h
      refine m_iald (pc := 43) C hK hP hk10 hi11 dX7_set_43 ?_
      refine lv_topi (fun v12 ev12 => ?_)
      replace h := h v12 ev12
      refine lv_istore_n (lv' := [(3, .int v12), (0, .ref (b + i)), (1, .int p1), (2, .int p2)]) (pc := 44) hx hb dX7_set_44 rfl hl (by decide) rfl (fun ls hl => ?_)
      refine lv_aload_n (pc := 45) hx hb dX7_set_45 rfl (lv_at hl 1 rfl) ?_
      obtain ⟨j13, hj13, h⟩ := h
      refine gX7_7 (pc := 46) C hK hP hk1 hj13 dX7_set_46 ?_
      refine lv_iload_n (pc := 49) hx hb dX7_set_49 rfl (lv_at hl 2 rfl) ?_
      refine lv_iload_n (pc := 50) hx hb dX7_set_50 rfl (lv_at hl 3 rfl) ?_
      obtain ⟨hk14, h⟩ := h
      obtain ⟨hi15, h⟩ := h
      refine m_iast (pc := 51) C hK hP hS hk14 hi15 dX7_set_51 (fun M16 H locs eM16 hP hS => ?_)
      replace h := h M16 eM16
      refine lv_iload_n (pc := 52) hx hb dX7_set_52 rfl (lv_at hl 0 rfl) ?_
      exact m_iret (v := v12) (pc := 53) C hr hlk hP hS dX7_set_53 h
    · replace h := h.2 (bZ0 c25)
      refine lv_aload_n (pc := 28) hx hb dX7_set_28 rfl (lv_at hl 0 rfl) ?_
      refine lv_iconst (v := 2) (pc := 29) hx hb dX7_set_29 (by decide) ?_
      refine m_callVI (pc := 30) (y := yX7_fails) (κ := 7) (As := [.int 2]) (rest := []) C hK hP hS hl.1 ⟨Nat.zero_le _, Nat.zero_le _⟩ (c_X7_fails h) rfl rfl hk1 (by decide) rfl q_976 q_978 q_s35 q_8 q_979 ⟨rfl, rfl⟩ yd_X7_fails ⟨Nat.le_of_ble_eq_true rfl, Nat.le_of_ble_eq_true rfl⟩ (Nat.le_of_ble_eq_true rfl) dX7_set_30 (fun r18 M17 H locs h hP hS => ?_)
      exact m_iret (v := r18) (pc := 33) C hr hlk hP hS dX7_set_33 h
  · replace h := h.2 (bZ0 c11)
    refine lv_aload_n (pc := 14) hx hb dX7_set_14 rfl (lv_at hl 0 rfl) ?_
    refine lv_iconst (v := 1) (pc := 15) hx hb dX7_set_15 (by decide) ?_
    refine m_callVI (pc := 16) (y := yX7_fails) (κ := 7) (As := [.int 1]) (rest := []) C hK hP hS hl.1 ⟨Nat.zero_le _, Nat.zero_le _⟩ (c_X7_fails h) rfl rfl hk1 (by decide) rfl q_976 q_978 q_s35 q_8 q_979 ⟨rfl, rfl⟩ yd_X7_fails ⟨Nat.le_of_ble_eq_true rfl, Nat.le_of_ble_eq_true rfl⟩ (Nat.le_of_ble_eq_true rfl) dX7_set_16 (fun r20 M19 H locs h hP hS => ?_)
    exact m_iret (v := r20) (pc := 19) C hr hlk hP hS dX7_set_19 h
/-! ForgeHeatsModel.append (I)I -/
def wp_X7_append (n : Nat) (M : Mem) (i : Nat) (p1 : Int32) (P : Int32 → Mem → Prop) : Prop := m_tp n i 7 ∧ (∀ M2 : Mem, M2 = uI M i 0 0 → (wp_X7_in n M2 p1 33 126 (fun z4 M3 => ((z4 = true → ((¬ (M3.1 i 6) = 60 → ∃ j5 : Nat, M3.2.1 i 5 = some j5 ∧ (m_tp n j5 8 ∧ (vp_in (M3.1 i 6) (m_len j5) ∧ (∀ M8 : Mem, M8 = uI M3 j5 (M3.1 i 6).toNatClampNeg p1 → (∀ M9 : Mem, M9 = uI M8 i 6 ((M8.1 i 6) + 1) → (P (M9.1 i 6) M9)))))) ∧ ((M3.1 i 6) = 60 → wp_X7_fails n M3 i 2 (fun r11 M10 => P r11 M10)))) ∧ (z4 = false → wp_X7_fails n M3 i 1 (fun r13 M12 => P r13 M12))))))
abbrev rm_X7_append : Room := { frames := 1, cells := 0, slots := 0, locals := 22 }
set_option maxHeartbeats 4000000 in
set_option maxRecDepth 100000 in
theorem c_X7_append {l : Launch} {D : va_G} {cA : Nat → ClassId} {b n : Nat} {M : Mem} {i : Nat} {p1 : Int32} {P : Int32 → Mem → Prop} (h : wp_X7_append n M i p1 P) : m_C l D cA b n n M yX7_append cX7_append 2 (some .int) rm_X7_append 0 0 [.ref (b + i), .int p1] (rI P) := by
  refine m_enter (by decide) (Nat.le_of_ble_eq_true rfl) (fun p e s m below meth c C hr hlk hnm hK hP hS ls hl => ?_)
  have hx := C.1
  have hb := C.2.1
  have hl : lv_has ls 2 [(0, .ref (b + i)), (1, .int p1)] := hl
  unfold wp_X7_append at h
  refine lv_aload_n (pc := 0) hx hb dX7_append_0 rfl (lv_at hl 0 rfl) ?_
  refine lv_iconst (v := 0) (pc := 1) hx hb dX7_append_1 (by decide) ?_
  obtain ⟨hk1, h⟩ := h
  refine pX7_25 (pc := 2) (v := 0) C hK hP hS hk1 dX7_append_2 (fun M2 H locs eM2 hP hS => ?_)
  replace h := h M2 eM2
  refine lv_iload_n (pc := 5) hx hb dX7_append_5 rfl (lv_at hl 1 rfl) ?_
  refine lv_bipush (v := 33) (pc := 6) hx hb dX7_append_6 (by decide) ?_
  refine lv_bipush (v := 126) (pc := 8) hx hb dX7_append_8 (by decide) ?_
  refine m_callSZ (pc := 10) (y := yX7_in) (As := [.int p1, .int 33, .int 126]) (rest := []) C hK hP hS hl.1 ⟨Nat.zero_le _, Nat.zero_le _⟩ (c_X7_in h) rfl rfl q_973 q_974 q_8 q_975 ⟨rfl, rfl⟩ yd_X7_in ⟨Nat.le_of_ble_eq_true rfl, Nat.le_of_ble_eq_true rfl⟩ (Nat.le_of_ble_eq_true rfl) dX7_append_10 (fun z4 M3 H locs h hP hS => ?_)
  refine lv_if_ne (tgt := 22) (pc := 13) hx hb dX7_append_13 (by decide) (fun c13 => ?_) (fun c13 => ?_)
  · replace h := h.1 (bZ1 c13)
    refine lv_aload_n (pc := 22) hx hb dX7_append_22 rfl (lv_at hl 0 rfl) ?_
    refine gX7_157 (pc := 23) C hK hP hk1 dX7_append_23 ?_
    refine lv_bipush (v := 60) (pc := 26) hx hb dX7_append_26 (by decide) ?_
    refine lv_icmp_ne (tgt := 37) (pc := 28) hx hb dX7_append_28 (by decide) (fun c28 => ?_) (fun c28 => ?_)
    · replace h := h.1 c28
      refine lv_aload_n (pc := 37) hx hb dX7_append_37 rfl (lv_at hl 0 rfl) ?_
      obtain ⟨j5, hj5, h⟩ := h
      refine gX7_19 (pc := 38) C hK hP hk1 hj5 dX7_append_38 ?_
      refine lv_aload_n (pc := 41) hx hb dX7_append_41 rfl (lv_at hl 0 rfl) ?_
      refine gX7_157 (pc := 42) C hK hP hk1 dX7_append_42 ?_
      refine lv_iload_n (pc := 45) hx hb dX7_append_45 rfl (lv_at hl 1 rfl) ?_
      obtain ⟨hk6, h⟩ := h
      obtain ⟨hi7, h⟩ := h
      refine m_iast (pc := 46) C hK hP hS hk6 hi7 dX7_append_46 (fun M8 H locs eM8 hP hS => ?_)
      replace h := h M8 eM8
      refine lv_aload_n (pc := 47) hx hb dX7_append_47 rfl (lv_at hl 0 rfl) ?_
      refine lv_dup (pc := 48) hx hb dX7_append_48 rfl ?_
      refine gX7_157 (pc := 49) C hK hP hk1 dX7_append_49 ?_
      refine lv_iconst (v := 1) (pc := 52) hx hb dX7_append_52 (by decide) ?_
      refine lv_iadd (pc := 53) hx hb dX7_append_53 ?_
      refine pX7_157 (pc := 54) (v := (M8.1 i 6) + 1) C hK hP hS hk1 dX7_append_54 (fun M9 H locs eM9 hP hS => ?_)
      replace h := h M9 eM9
      refine lv_aload_n (pc := 57) hx hb dX7_append_57 rfl (lv_at hl 0 rfl) ?_
      refine gX7_157 (pc := 58) C hK hP hk1 dX7_append_58 ?_
      exact m_iret (v := M9.1 i 6) (pc := 61) C hr hlk hP hS dX7_append_61 h
    · replace h := h.2 c28
      refine lv_aload_n (pc := 31) hx hb dX7_append_31 rfl (lv_at hl 0 rfl) ?_
      refine lv_iconst (v := 2) (pc := 32) hx hb dX7_append_32 (by decide) ?_
      refine m_callVI (pc := 33) (y := yX7_fails) (κ := 7) (As := [.int 2]) (rest := []) C hK hP hS hl.1 ⟨Nat.zero_le _, Nat.zero_le _⟩ (c_X7_fails h) rfl rfl hk1 (by decide) rfl q_976 q_978 q_s35 q_8 q_979 ⟨rfl, rfl⟩ yd_X7_fails ⟨Nat.le_of_ble_eq_true rfl, Nat.le_of_ble_eq_true rfl⟩ (Nat.le_of_ble_eq_true rfl) dX7_append_33 (fun r11 M10 H locs h hP hS => ?_)
      exact m_iret (v := r11) (pc := 36) C hr hlk hP hS dX7_append_36 h
  · replace h := h.2 (bZ0 c13)
    refine lv_aload_n (pc := 16) hx hb dX7_append_16 rfl (lv_at hl 0 rfl) ?_
    refine lv_iconst (v := 1) (pc := 17) hx hb dX7_append_17 (by decide) ?_
    refine m_callVI (pc := 18) (y := yX7_fails) (κ := 7) (As := [.int 1]) (rest := []) C hK hP hS hl.1 ⟨Nat.zero_le _, Nat.zero_le _⟩ (c_X7_fails h) rfl rfl hk1 (by decide) rfl q_976 q_978 q_s35 q_8 q_979 ⟨rfl, rfl⟩ yd_X7_fails ⟨Nat.le_of_ble_eq_true rfl, Nat.le_of_ble_eq_true rfl⟩ (Nat.le_of_ble_eq_true rfl) dX7_append_18 (fun r13 M12 H locs h hP hS => ?_)
    exact m_iret (v := r13) (pc := 21) C hr hlk hP hS dX7_append_21 h
/-! ForgeHeatsModel.clearBuffer ()I -/
def wp_X7_clearBuffer (n : Nat) (M : Mem) (i : Nat) (P : Int32 → Mem → Prop) : Prop := m_tp n i 7 ∧ (∀ M2 : Mem, M2 = uI M i 0 0 → (∀ v3 : Int32, v3 = (M2.1 i 6) → (∀ M4 : Mem, M4 = uI M2 i 6 0 → (P v3 M4))))
abbrev rm_X7_clearBuffer : Room := { frames := 0, cells := 0, slots := 0, locals := 0 }
set_option maxHeartbeats 4000000 in
set_option maxRecDepth 100000 in
theorem c_X7_clearBuffer {l : Launch} {D : va_G} {cA : Nat → ClassId} {b n : Nat} {M : Mem} {i : Nat} {P : Int32 → Mem → Prop} (h : wp_X7_clearBuffer n M i P) : m_C l D cA b n n M yX7_clearBuffer cX7_clearBuffer 2 (some .int) rm_X7_clearBuffer 0 0 [.ref (b + i)] (rI P) := by
  refine m_enter (by decide) (Nat.le_of_ble_eq_true rfl) (fun p e s m below meth c C hr hlk hnm hK hP hS ls hl => ?_)
  have hx := C.1
  have hb := C.2.1
  have hl : lv_has ls 2 [(0, .ref (b + i))] := hl
  unfold wp_X7_clearBuffer at h
  refine lv_aload_n (pc := 0) hx hb dX7_clearBuffer_0 rfl (lv_at hl 0 rfl) ?_
  refine lv_iconst (v := 0) (pc := 1) hx hb dX7_clearBuffer_1 (by decide) ?_
  obtain ⟨hk1, h⟩ := h
  refine pX7_25 (pc := 2) (v := 0) C hK hP hS hk1 dX7_clearBuffer_2 (fun M2 H locs eM2 hP hS => ?_)
  replace h := h M2 eM2
  refine lv_aload_n (pc := 5) hx hb dX7_clearBuffer_5 rfl (lv_at hl 0 rfl) ?_
  refine gX7_157 (pc := 6) C hK hP hk1 dX7_clearBuffer_6 ?_
  refine lv_topi (fun v3 ev3 => ?_)
  replace h := h v3 ev3
  refine lv_istore_n (lv' := [(1, .int v3), (0, .ref (b + i))]) (pc := 9) hx hb dX7_clearBuffer_9 rfl hl (by decide) rfl (fun ls hl => ?_)
  refine lv_aload_n (pc := 10) hx hb dX7_clearBuffer_10 rfl (lv_at hl 1 rfl) ?_
  refine lv_iconst (v := 0) (pc := 11) hx hb dX7_clearBuffer_11 (by decide) ?_
  refine pX7_157 (pc := 12) (v := 0) C hK hP hS hk1 dX7_clearBuffer_12 (fun M4 H locs eM4 hP hS => ?_)
  replace h := h M4 eM4
  refine lv_iload_n (pc := 15) hx hb dX7_clearBuffer_15 rfl (lv_at hl 0 rfl) ?_
  exact m_iret (v := v3) (pc := 16) C hr hlk hP hS dX7_clearBuffer_16 h
/-! ForgeHeatsModel.sign ()I -/
def wp_X7_sign (n : Nat) (M : Mem) (i : Nat) (P : Int32 → Mem → Prop) : Prop := m_tp n i 7 ∧ ((((M.1 i 6) ≤ (M.1 i 7) → P 0 M) ∧ (¬ (M.1 i 6) ≤ (M.1 i 7) → ∃ j2 : Nat, M.2.1 i 5 = some j2 ∧ (m_tp n j2 8 ∧ (vp_in (M.1 i 7) (m_len j2) ∧ (P (M.1 j2 (M.1 i 7).toNatClampNeg) M))))))
abbrev rm_X7_sign : Room := { frames := 0, cells := 0, slots := 0, locals := 0 }
set_option maxHeartbeats 4000000 in
set_option maxRecDepth 100000 in
theorem c_X7_sign {l : Launch} {D : va_G} {cA : Nat → ClassId} {b n : Nat} {M : Mem} {i : Nat} {P : Int32 → Mem → Prop} (h : wp_X7_sign n M i P) : m_C l D cA b n n M yX7_sign cX7_sign 1 (some .int) rm_X7_sign 0 0 [.ref (b + i)] (rI P) := by
  refine m_enter (by decide) (Nat.le_of_ble_eq_true rfl) (fun p e s m below meth c C hr hlk hnm hK hP hS ls hl => ?_)
  have hx := C.1
  have hb := C.2.1
  have hl : lv_has ls 1 [(0, .ref (b + i))] := hl
  unfold wp_X7_sign at h
  refine lv_aload_n (pc := 0) hx hb dX7_sign_0 rfl (lv_at hl 0 rfl) ?_
  obtain ⟨hk1, h⟩ := h
  refine gX7_160 (pc := 1) C hK hP hk1 dX7_sign_1 ?_
  refine lv_aload_n (pc := 4) hx hb dX7_sign_4 rfl (lv_at hl 0 rfl) ?_
  refine gX7_157 (pc := 5) C hK hP hk1 dX7_sign_5 ?_
  refine lv_icmp_ge (tgt := 23) (pc := 8) hx hb dX7_sign_8 (by decide) (fun c8 => ?_) (fun c8 => ?_)
  · replace h := h.1 c8
    refine lv_iconst (v := 0) (pc := 23) hx hb dX7_sign_23 (by decide) ?_
    exact m_iret (v := 0) (pc := 24) C hr hlk hP hS dX7_sign_24 h
  · replace h := h.2 c8
    refine lv_aload_n (pc := 11) hx hb dX7_sign_11 rfl (lv_at hl 0 rfl) ?_
    obtain ⟨j2, hj2, h⟩ := h
    refine gX7_19 (pc := 12) C hK hP hk1 hj2 dX7_sign_12 ?_
    refine lv_aload_n (pc := 15) hx hb dX7_sign_15 rfl (lv_at hl 0 rfl) ?_
    refine gX7_160 (pc := 16) C hK hP hk1 dX7_sign_16 ?_
    obtain ⟨hk3, h⟩ := h
    obtain ⟨hi4, h⟩ := h
    refine m_iald (pc := 19) C hK hP hk3 hi4 dX7_sign_19 ?_
    refine lv_goto (tgt := 24) (pc := 20) hx hb dX7_sign_20 (by decide) ?_
    exact m_iret (v := M.1 j2 (M.1 i 7).toNatClampNeg) (pc := 24) C hr hlk hP hS dX7_sign_24 h
/-! ForgeHeatsModel.takesSign (I)Z -/
def wp_X7_takesSign (n : Nat) (M : Mem) (i : Nat) (p1 : Int32) (P : Bool → Mem → Prop) : Prop := m_tp n i 7 ∧ ((((M.1 i 8 != 0) = false → ∀ M2 : Mem, M2 = uI M i 7 ((M.1 i 7) + (bI (if (0 : Int32) = 0 then false else true))) → (P false M2)) ∧ ((M.1 i 8 != 0) = true → wp_X7_sign n M i (fun r4 M3 => ∀ M5 : Mem, M5 = uI M3 i 7 ((M3.1 i 7) + (bI (if (if ¬ r4 = p1 then false else true) = false then false else true))) → (P (if ¬ r4 = p1 then false else true) M5)))))
abbrev rm_X7_takesSign : Room := { frames := 1, cells := 0, slots := 0, locals := 20 }
set_option maxHeartbeats 4000000 in
set_option maxRecDepth 100000 in
theorem c_X7_takesSign {l : Launch} {D : va_G} {cA : Nat → ClassId} {b n : Nat} {M : Mem} {i : Nat} {p1 : Int32} {P : Bool → Mem → Prop} (h : wp_X7_takesSign n M i p1 P) : m_C l D cA b n n M yX7_takesSign cX7_takesSign 3 (some .boolean) rm_X7_takesSign 0 0 [.ref (b + i), .int p1] (rZ P) := by
  refine m_enter (by decide) (Nat.le_of_ble_eq_true rfl) (fun p e s m below meth c C hr hlk hnm hK hP hS ls hl => ?_)
  have hx := C.1
  have hb := C.2.1
  have hl : lv_has ls 3 [(0, .ref (b + i)), (1, .int p1)] := hl
  unfold wp_X7_takesSign at h
  refine lv_aload_n (pc := 0) hx hb dX7_takesSign_0 rfl (lv_at hl 0 rfl) ?_
  obtain ⟨hk1, h⟩ := h
  refine gX7_163 (pc := 1) C hK hP hk1 dX7_takesSign_1 ?_
  refine lv_if_eq (tgt := 19) (pc := 4) hx hb dX7_takesSign_4 (by decide) (fun c4 => ?_) (fun c4 => ?_)
  · replace h := h.1 (bZ0 c4)
    refine lv_iconst (v := 0) (pc := 19) hx hb dX7_takesSign_19 (by decide) ?_
    refine lv_istore_n (lv' := [(2, .int 0), (0, .ref (b + i)), (1, .int p1)]) (pc := 20) hx hb dX7_takesSign_20 rfl hl (by decide) rfl (fun ls hl => ?_)
    refine lv_aload_n (pc := 21) hx hb dX7_takesSign_21 rfl (lv_at hl 1 rfl) ?_
    refine lv_dup (pc := 22) hx hb dX7_takesSign_22 rfl ?_
    refine gX7_160 (pc := 23) C hK hP hk1 dX7_takesSign_23 ?_
    refine lv_iload_n (pc := 26) hx hb dX7_takesSign_26 rfl (lv_at hl 0 rfl) ?_
    refine m_joinZ (z := if (0 : Int32) = 0 then false else true) (jp := 35) (rest := [.int (M.1 i 7), .ref (b + i)]) ?_ (fun hJ => ?_)
    rotate_left
    · skip
      refine lv_if_eq (tgt := 34) (pc := 27) hx hb dX7_takesSign_27 (by decide) (fun c27 => ?_) (fun c27 => ?_)
      · skip
        refine lv_iconst (v := 0) (pc := 34) hx hb dX7_takesSign_34 (by decide) ?_
        exact hJ _ false rfl (by rw [if_pos c27])
      · skip
        refine lv_iconst (v := 1) (pc := 30) hx hb dX7_takesSign_30 (by decide) ?_
        refine lv_goto (tgt := 35) (pc := 31) hx hb dX7_takesSign_31 (by decide) ?_
        exact hJ _ true rfl (by rw [if_neg c27])
    refine lv_iadd (pc := 35) hx hb dX7_takesSign_35 ?_
    refine pX7_160 (pc := 36) (v := (M.1 i 7) + (bI (if (0 : Int32) = 0 then false else true))) C hK hP hS hk1 dX7_takesSign_36 (fun M2 H locs eM2 hP hS => ?_)
    replace h := h M2 eM2
    refine lv_iload_n (pc := 39) hx hb dX7_takesSign_39 rfl (lv_at hl 0 rfl) ?_
    exact m_zret (v := false) (pc := 40) C hr hlk hP hS dX7_takesSign_40 h
  · replace h := h.2 (bZ1 c4)
    refine lv_aload_n (pc := 7) hx hb dX7_takesSign_7 rfl (lv_at hl 0 rfl) ?_
    refine m_callVI (pc := 8) (y := yX7_sign) (κ := 7) (As := []) (rest := []) C hK hP hS hl.1 ⟨Nat.zero_le _, Nat.zero_le _⟩ (c_X7_sign h) rfl rfl hk1 (by decide) rfl q_1174 q_1176 q_s72 q_8 q_1177 ⟨rfl, rfl⟩ yd_X7_sign ⟨Nat.le_of_ble_eq_true rfl, Nat.le_of_ble_eq_true rfl⟩ (Nat.le_of_ble_eq_true rfl) dX7_takesSign_8 (fun r4 M3 H locs h hP hS => ?_)
    refine lv_iload_n (pc := 11) hx hb dX7_takesSign_11 rfl (lv_at hl 1 rfl) ?_
    refine m_joinZ (z := if ¬ r4 = p1 then false else true) (jp := 20) (rest := []) ?_ (fun hJ => ?_)
    rotate_left
    · skip
      refine lv_icmp_ne (tgt := 19) (pc := 12) hx hb dX7_takesSign_12 (by decide) (fun c12 => ?_) (fun c12 => ?_)
      · skip
        refine lv_iconst (v := 0) (pc := 19) hx hb dX7_takesSign_19 (by decide) ?_
        exact hJ _ false rfl (by rw [if_pos c12])
      · skip
        refine lv_iconst (v := 1) (pc := 15) hx hb dX7_takesSign_15 (by decide) ?_
        refine lv_goto (tgt := 20) (pc := 16) hx hb dX7_takesSign_16 (by decide) ?_
        exact hJ _ true rfl (by rw [if_neg (fun hn => hn c12)])
    refine lv_istore_n (lv' := [(2, .int (bI (if ¬ r4 = p1 then false else true))), (0, .ref (b + i)), (1, .int p1)]) (pc := 20) hx hb dX7_takesSign_20 rfl hl (by decide) rfl (fun ls hl => ?_)
    refine lv_aload_n (pc := 21) hx hb dX7_takesSign_21 rfl (lv_at hl 1 rfl) ?_
    refine lv_dup (pc := 22) hx hb dX7_takesSign_22 rfl ?_
    refine gX7_160 (pc := 23) C hK hP hk1 dX7_takesSign_23 ?_
    refine lv_iload_n (pc := 26) hx hb dX7_takesSign_26 rfl (lv_at hl 0 rfl) ?_
    refine m_joinZ (z := if (if ¬ r4 = p1 then false else true) = false then false else true) (jp := 35) (rest := [.int (M3.1 i 7), .ref (b + i)]) ?_ (fun hJ => ?_)
    rotate_left
    · skip
      refine lv_if_eq (tgt := 34) (pc := 27) hx hb dX7_takesSign_27 (by decide) (fun c27 => ?_) (fun c27 => ?_)
      · skip
        refine lv_iconst (v := 0) (pc := 34) hx hb dX7_takesSign_34 (by decide) ?_
        exact hJ _ false rfl (by rw [if_pos (bZ0 c27)])
      · skip
        refine lv_iconst (v := 1) (pc := 30) hx hb dX7_takesSign_30 (by decide) ?_
        refine lv_goto (tgt := 35) (pc := 31) hx hb dX7_takesSign_31 (by decide) ?_
        exact hJ _ true rfl (by rw [if_neg (by rw [(bZ1 c27)]; decide)])
    refine lv_iadd (pc := 35) hx hb dX7_takesSign_35 ?_
    refine pX7_160 (pc := 36) (v := (M3.1 i 7) + (bI (if (if ¬ r4 = p1 then false else true) = false then false else true))) C hK hP hS hk1 dX7_takesSign_36 (fun M5 H locs eM5 hP hS => ?_)
    replace h := h M5 eM5
    refine lv_iload_n (pc := 39) hx hb dX7_takesSign_39 rfl (lv_at hl 0 rfl) ?_
    exact m_zret (v := if ¬ r4 = p1 then false else true) (pc := 40) C hr hlk hP hS dX7_takesSign_40 h
/-! ForgeHeatsModel.number (II)I -/
def wpB_X7_number_74 (n : Nat) (P : Int32 → Mem → Prop) (R_ : Mem → Nat → Int32 → Int32 → Prop) (M : Mem) (x0 : Nat) (x2 : Int32) (x3 : Int32) : Prop := m_tp n x0 7 ∧ ((((M.1 x0 8 != 0) = false → P x3 M) ∧ ((M.1 x0 8 != 0) = true → ((x3 ≤ 0 → P x3 M) ∧ (¬ x3 ≤ 0 → wp_X7_sign n M x0 (fun r9 M8 => wp_X7_in n M8 r9 48 57 (fun z11 M10 => ((z11 = false → P x3 M10) ∧ (z11 = true → wp_X7_sign n M10 x0 (fun r13 M12 => ((x2 < (((10 * x3) + r13) - 48) → P x3 M12) ∧ (¬ x2 < (((10 * x3) + r13) - 48) → wp_X7_sign n M12 x0 (fun r15 M14 => ∀ v16 : Int32, v16 = (((10 * x3) + r15) - 48) → (∀ M17 : Mem, M17 = uI M14 x0 7 ((M14.1 x0 7) + 1) → (R_ M17 x0 x2 v16)))))))))))))))
def wpL_X7_number_74 (n : Nat) (P : Int32 → Mem → Prop) : Nat → Mem → Nat → Int32 → Int32 → Prop
  | 0 => fun _ _ _ _ => False
  | f + 1 => fun M x0 x2 x3 => wpB_X7_number_74 n P (wpL_X7_number_74 n P f) M x0 x2 x3
def wp_X7_number (n : Nat) (M : Mem) (i : Nat) (p1 : Int32) (p2 : Int32) (P : Int32 → Mem → Prop) : Prop := m_tp n i 7 ∧ ((((M.1 i 8 != 0) = false → ∀ M2 : Mem, M2 = uI M i 8 (bI false) → (wp_X7_sign n M2 i (fun r4 M3 => ∀ v5 : Int32, v5 = (r4 - 48) → (∀ M6 : Mem, M6 = uI M3 i 7 ((M3.1 i 7) + (bI (if (M3.1 i 8 != 0) = false then false else true))) → (∃ f : Nat, wpL_X7_number_74 n P f M6 i p2 v5))))) ∧ ((M.1 i 8 != 0) = true → wp_X7_sign n M i (fun r19 M18 => wp_X7_in n M18 r19 (48 + p1) (if 9 ≤ p2 then 57 else (48 + p2)) (fun z21 M20 => ∀ M22 : Mem, M22 = uI M20 i 8 (bI (if z21 = false then false else true)) → (wp_X7_sign n M22 i (fun r24 M23 => ∀ v25 : Int32, v25 = (r24 - 48) → (∀ M26 : Mem, M26 = uI M23 i 7 ((M23.1 i 7) + (bI (if (M23.1 i 8 != 0) = false then false else true))) → (∃ f : Nat, wpL_X7_number_74 n P f M26 i p2 v25)))))))))
abbrev rm_X7_number : Room := { frames := 1, cells := 0, slots := 0, locals := 22 }
set_option maxHeartbeats 4000000 in
set_option maxRecDepth 100000 in
theorem c_X7_number {l : Launch} {D : va_G} {cA : Nat → ClassId} {b n : Nat} {M : Mem} {i : Nat} {p1 : Int32} {p2 : Int32} {P : Int32 → Mem → Prop} (h : wp_X7_number n M i p1 p2 P) : m_C l D cA b n n M yX7_number cX7_number 4 (some .int) rm_X7_number 0 0 [.ref (b + i), .int p1, .int p2] (rI P) := by
  refine m_enter (by decide) (Nat.le_of_ble_eq_true rfl) (fun p e s m below meth c C hr hlk hnm hK hP hS ls hl => ?_)
  have hx := C.1
  have hb := C.2.1
  have hl : lv_has ls 4 [(0, .ref (b + i)), (1, .int p1), (2, .int p2)] := hl
  have L74 : ∀ f : Nat, ∀ (M : Mem) (H : Heap) (locs : List Loc) (ls : Array Slot) (x0 : Nat) (x2 : Int32) (x3 : Int32), wpL_X7_number_74 n P f M x0 x2 x3 → m_H D cA b n M H → va_S (m_A b) s.heap H locs → lv_has ls 4 [(0, .ref (b + x0)), (2, .int x2), (3, .int x3)] → W p l e rm_X7_number s m ([.ref (b + i), .int p1, .int p2] : List Value).toArray below meth c H locs 0 0 (MQ below (m_Q D cA b n (rI P)) ([.ref (b + i), .int p1, .int p2] : List Value).toArray s 0 0 (m_A b)) (F0 m 74 ls []) := by
    clear h
    intro f
    induction f with
    | zero => intro M H locs ls x0 x2 x3 h; exact h.elim
    | succ f ih =>
      intro M H locs ls x0 x2 x3 h hP hS hl
      have h : wpB_X7_number_74 n P (wpL_X7_number_74 n P f) M x0 x2 x3 := h
      unfold wpB_X7_number_74 at h
      refine lv_aload_n (pc := 74) hx hb dX7_number_74 rfl (lv_at hl 0 rfl) ?_
      obtain ⟨hk7, h⟩ := h
      refine gX7_163 (pc := 75) C hK hP hk7 dX7_number_75 ?_
      refine lv_if_eq (tgt := 141) (pc := 78) hx hb dX7_number_78 (by decide) (fun c78 => ?_) (fun c78 => ?_)
      · replace h := h.1 (bZ0 c78)
        refine lv_iload_n (pc := 141) hx hb dX7_number_141 rfl (lv_at hl 2 rfl) ?_
        exact m_iret (v := x3) (pc := 142) C hr hlk hP hS dX7_number_142 h
      · replace h := h.2 (bZ1 c78)
        refine lv_iload_n (pc := 81) hx hb dX7_number_81 rfl (lv_at hl 2 rfl) ?_
        refine lv_if_le (tgt := 141) (pc := 82) hx hb dX7_number_82 (by decide) (fun c82 => ?_) (fun c82 => ?_)
        · replace h := h.1 c82
          refine lv_iload_n (pc := 141) hx hb dX7_number_141 rfl (lv_at hl 2 rfl) ?_
          exact m_iret (v := x3) (pc := 142) C hr hlk hP hS dX7_number_142 h
        · replace h := h.2 c82
          refine lv_aload_n (pc := 85) hx hb dX7_number_85 rfl (lv_at hl 0 rfl) ?_
          refine m_callVI (pc := 86) (y := yX7_sign) (κ := 7) (As := []) (rest := []) C hK hP hS hl.1 ⟨Nat.zero_le _, Nat.zero_le _⟩ (c_X7_sign h) rfl rfl hk7 (by decide) rfl q_1174 q_1176 q_s72 q_8 q_1177 ⟨rfl, rfl⟩ yd_X7_sign ⟨Nat.le_of_ble_eq_true rfl, Nat.le_of_ble_eq_true rfl⟩ (Nat.le_of_ble_eq_true rfl) dX7_number_86 (fun r9 M8 H locs h hP hS => ?_)
          refine lv_bipush (v := 48) (pc := 89) hx hb dX7_number_89 (by decide) ?_
          refine lv_bipush (v := 57) (pc := 91) hx hb dX7_number_91 (by decide) ?_
          refine m_callSZ (pc := 93) (y := yX7_in) (As := [.int r9, .int 48, .int 57]) (rest := []) C hK hP hS hl.1 ⟨Nat.zero_le _, Nat.zero_le _⟩ (c_X7_in h) rfl rfl q_973 q_974 q_8 q_975 ⟨rfl, rfl⟩ yd_X7_in ⟨Nat.le_of_ble_eq_true rfl, Nat.le_of_ble_eq_true rfl⟩ (Nat.le_of_ble_eq_true rfl) dX7_number_93 (fun z11 M10 H locs h hP hS => ?_)
          refine lv_if_eq (tgt := 141) (pc := 96) hx hb dX7_number_96 (by decide) (fun c96 => ?_) (fun c96 => ?_)
          · replace h := h.1 (bZ0 c96)
            refine lv_iload_n (pc := 141) hx hb dX7_number_141 rfl (lv_at hl 2 rfl) ?_
            exact m_iret (v := x3) (pc := 142) C hr hlk hP hS dX7_number_142 h
          · replace h := h.2 (bZ1 c96)
            refine lv_bipush (v := 10) (pc := 99) hx hb dX7_number_99 (by decide) ?_
            refine lv_iload_n (pc := 101) hx hb dX7_number_101 rfl (lv_at hl 2 rfl) ?_
            refine lv_imul (pc := 102) hx hb dX7_number_102 ?_
            refine lv_aload_n (pc := 103) hx hb dX7_number_103 rfl (lv_at hl 0 rfl) ?_
            refine m_callVI (pc := 104) (y := yX7_sign) (κ := 7) (As := []) (rest := [.int (10 * x3)]) C hK hP hS hl.1 ⟨Nat.zero_le _, Nat.zero_le _⟩ (c_X7_sign h) rfl rfl hk7 (by decide) rfl q_1174 q_1176 q_s72 q_8 q_1177 ⟨rfl, rfl⟩ yd_X7_sign ⟨Nat.le_of_ble_eq_true rfl, Nat.le_of_ble_eq_true rfl⟩ (Nat.le_of_ble_eq_true rfl) dX7_number_104 (fun r13 M12 H locs h hP hS => ?_)
            refine lv_iadd (pc := 107) hx hb dX7_number_107 ?_
            refine lv_bipush (v := 48) (pc := 108) hx hb dX7_number_108 (by decide) ?_
            refine lv_isub (pc := 110) hx hb dX7_number_110 ?_
            refine lv_iload_n (pc := 111) hx hb dX7_number_111 rfl (lv_at hl 1 rfl) ?_
            refine lv_icmp_gt (tgt := 141) (pc := 112) hx hb dX7_number_112 (by decide) (fun c112 => ?_) (fun c112 => ?_)
            · replace h := h.1 c112
              refine lv_iload_n (pc := 141) hx hb dX7_number_141 rfl (lv_at hl 2 rfl) ?_
              exact m_iret (v := x3) (pc := 142) C hr hlk hP hS dX7_number_142 h
            · replace h := h.2 c112
              refine lv_bipush (v := 10) (pc := 115) hx hb dX7_number_115 (by decide) ?_
              refine lv_iload_n (pc := 117) hx hb dX7_number_117 rfl (lv_at hl 2 rfl) ?_
              refine lv_imul (pc := 118) hx hb dX7_number_118 ?_
              refine lv_aload_n (pc := 119) hx hb dX7_number_119 rfl (lv_at hl 0 rfl) ?_
              refine m_callVI (pc := 120) (y := yX7_sign) (κ := 7) (As := []) (rest := [.int (10 * x3)]) C hK hP hS hl.1 ⟨Nat.zero_le _, Nat.zero_le _⟩ (c_X7_sign h) rfl rfl hk7 (by decide) rfl q_1174 q_1176 q_s72 q_8 q_1177 ⟨rfl, rfl⟩ yd_X7_sign ⟨Nat.le_of_ble_eq_true rfl, Nat.le_of_ble_eq_true rfl⟩ (Nat.le_of_ble_eq_true rfl) dX7_number_120 (fun r15 M14 H locs h hP hS => ?_)
              refine lv_iadd (pc := 123) hx hb dX7_number_123 ?_
              refine lv_bipush (v := 48) (pc := 124) hx hb dX7_number_124 (by decide) ?_
              refine lv_isub (pc := 126) hx hb dX7_number_126 ?_
              refine lv_topi (fun v16 ev16 => ?_)
              replace h := h v16 ev16
              refine lv_istore_n (lv' := [(3, .int v16), (0, .ref (b + x0)), (2, .int x2)]) (pc := 127) hx hb dX7_number_127 rfl hl (by decide) rfl (fun ls hl => ?_)
              refine lv_aload_n (pc := 128) hx hb dX7_number_128 rfl (lv_at hl 1 rfl) ?_
              refine lv_dup (pc := 129) hx hb dX7_number_129 rfl ?_
              refine gX7_160 (pc := 130) C hK hP hk7 dX7_number_130 ?_
              refine lv_iconst (v := 1) (pc := 133) hx hb dX7_number_133 (by decide) ?_
              refine lv_iadd (pc := 134) hx hb dX7_number_134 ?_
              refine pX7_160 (pc := 135) (v := (M14.1 x0 7) + 1) C hK hP hS hk7 dX7_number_135 (fun M17 H locs eM17 hP hS => ?_)
              replace h := h M17 eM17
              refine lv_goto (tgt := 74) (pc := 138) hx hb dX7_number_138 (by decide) ?_
              exact ih _ _ _ _ _ _ _ h hP hS (lv_sub hl [1, 2, 0] rfl)
  unfold wp_X7_number at h
  refine lv_aload_n (pc := 0) hx hb dX7_number_0 rfl (lv_at hl 0 rfl) ?_
  refine lv_aload_n (pc := 1) hx hb dX7_number_1 rfl (lv_at hl 0 rfl) ?_
  obtain ⟨hk1, h⟩ := h
  refine gX7_163 (pc := 2) C hK hP hk1 dX7_number_2 ?_
  refine lv_if_eq (tgt := 41) (pc := 5) hx hb dX7_number_5 (by decide) (fun c5 => ?_) (fun c5 => ?_)
  · replace h := h.1 (bZ0 c5)
    refine lv_iconst (v := 0) (pc := 41) hx hb dX7_number_41 (by decide) ?_
    refine pX7_163 (pc := 42) (z := false) C hK hP hS hk1 dX7_number_42 (fun M2 H locs eM2 hP hS => ?_)
    replace h := h M2 eM2
    refine lv_aload_n (pc := 45) hx hb dX7_number_45 rfl (lv_at hl 0 rfl) ?_
    refine m_callVI (pc := 46) (y := yX7_sign) (κ := 7) (As := []) (rest := []) C hK hP hS hl.1 ⟨Nat.zero_le _, Nat.zero_le _⟩ (c_X7_sign h) rfl rfl hk1 (by decide) rfl q_1174 q_1176 q_s72 q_8 q_1177 ⟨rfl, rfl⟩ yd_X7_sign ⟨Nat.le_of_ble_eq_true rfl, Nat.le_of_ble_eq_true rfl⟩ (Nat.le_of_ble_eq_true rfl) dX7_number_46 (fun r4 M3 H locs h hP hS => ?_)
    refine lv_bipush (v := 48) (pc := 49) hx hb dX7_number_49 (by decide) ?_
    refine lv_isub (pc := 51) hx hb dX7_number_51 ?_
    refine lv_topi (fun v5 ev5 => ?_)
    replace h := h v5 ev5
    refine lv_istore_n (lv' := [(3, .int v5), (0, .ref (b + i)), (1, .int p1), (2, .int p2)]) (pc := 52) hx hb dX7_number_52 rfl hl (by decide) rfl (fun ls hl => ?_)
    refine lv_aload_n (pc := 53) hx hb dX7_number_53 rfl (lv_at hl 1 rfl) ?_
    refine lv_dup (pc := 54) hx hb dX7_number_54 rfl ?_
    refine gX7_160 (pc := 55) C hK hP hk1 dX7_number_55 ?_
    refine lv_aload_n (pc := 58) hx hb dX7_number_58 rfl (lv_at hl 1 rfl) ?_
    refine gX7_163 (pc := 59) C hK hP hk1 dX7_number_59 ?_
    refine m_joinZ (z := if (M3.1 i 8 != 0) = false then false else true) (jp := 70) (rest := [.int (M3.1 i 7), .ref (b + i)]) ?_ (fun hJ => ?_)
    rotate_left
    · skip
      refine lv_if_eq (tgt := 69) (pc := 62) hx hb dX7_number_62 (by decide) (fun c62 => ?_) (fun c62 => ?_)
      · skip
        refine lv_iconst (v := 0) (pc := 69) hx hb dX7_number_69 (by decide) ?_
        exact hJ _ false rfl (by rw [if_pos (bZ0 c62)])
      · skip
        refine lv_iconst (v := 1) (pc := 65) hx hb dX7_number_65 (by decide) ?_
        refine lv_goto (tgt := 70) (pc := 66) hx hb dX7_number_66 (by decide) ?_
        exact hJ _ true rfl (by rw [if_neg (by rw [(bZ1 c62)]; decide)])
    refine lv_iadd (pc := 70) hx hb dX7_number_70 ?_
    refine pX7_160 (pc := 71) (v := (M3.1 i 7) + (bI (if (M3.1 i 8 != 0) = false then false else true))) C hK hP hS hk1 dX7_number_71 (fun M6 H locs eM6 hP hS => ?_)
    replace h := h M6 eM6
    obtain ⟨f, h⟩ := h
    exact L74 f _ _ _ _ _ _ _ h hP hS (lv_sub hl [1, 3, 0] rfl)
  · replace h := h.2 (bZ1 c5)
    refine lv_aload_n (pc := 8) hx hb dX7_number_8 rfl (lv_at hl 0 rfl) ?_
    refine m_callVI (pc := 9) (y := yX7_sign) (κ := 7) (As := []) (rest := [.ref (b + i)]) C hK hP hS hl.1 ⟨Nat.zero_le _, Nat.zero_le _⟩ (c_X7_sign h) rfl rfl hk1 (by decide) rfl q_1174 q_1176 q_s72 q_8 q_1177 ⟨rfl, rfl⟩ yd_X7_sign ⟨Nat.le_of_ble_eq_true rfl, Nat.le_of_ble_eq_true rfl⟩ (Nat.le_of_ble_eq_true rfl) dX7_number_9 (fun r19 M18 H locs h hP hS => ?_)
    refine lv_bipush (v := 48) (pc := 12) hx hb dX7_number_12 (by decide) ?_
    refine lv_iload_n (pc := 14) hx hb dX7_number_14 rfl (lv_at hl 1 rfl) ?_
    refine lv_iadd (pc := 15) hx hb dX7_number_15 ?_
    refine lv_iload_n (pc := 16) hx hb dX7_number_16 rfl (lv_at hl 2 rfl) ?_
    refine lv_bipush (v := 9) (pc := 17) hx hb dX7_number_17 (by decide) ?_
    refine m_join (v := if 9 ≤ p2 then 57 else (48 + p2)) (jp := 31) (rest := [.int (48 + p1), .int r19, .ref (b + i)]) ?_ (fun hJ => ?_)
    rotate_left
    · skip
      refine lv_icmp_ge (tgt := 29) (pc := 19) hx hb dX7_number_19 (by decide) (fun c19 => ?_) (fun c19 => ?_)
      · skip
        refine lv_bipush (v := 57) (pc := 29) hx hb dX7_number_29 (by decide) ?_
        exact hJ _ (by rw [if_pos c19])
      · skip
        refine lv_bipush (v := 48) (pc := 22) hx hb dX7_number_22 (by decide) ?_
        refine lv_iload_n (pc := 24) hx hb dX7_number_24 rfl (lv_at hl 2 rfl) ?_
        refine lv_iadd (pc := 25) hx hb dX7_number_25 ?_
        refine lv_goto (tgt := 31) (pc := 26) hx hb dX7_number_26 (by decide) ?_
        exact hJ _ (by rw [if_neg c19])
    refine m_callSZ (pc := 31) (y := yX7_in) (As := [.int r19, .int (48 + p1), .int (if 9 ≤ p2 then 57 else (48 + p2))]) (rest := [.ref (b + i)]) C hK hP hS hl.1 ⟨Nat.zero_le _, Nat.zero_le _⟩ (c_X7_in h) rfl rfl q_973 q_974 q_8 q_975 ⟨rfl, rfl⟩ yd_X7_in ⟨Nat.le_of_ble_eq_true rfl, Nat.le_of_ble_eq_true rfl⟩ (Nat.le_of_ble_eq_true rfl) dX7_number_31 (fun z21 M20 H locs h hP hS => ?_)
    refine m_joinZ (z := if z21 = false then false else true) (jp := 42) (rest := [.ref (b + i)]) ?_ (fun hJ => ?_)
    rotate_left
    · skip
      refine lv_if_eq (tgt := 41) (pc := 34) hx hb dX7_number_34 (by decide) (fun c34 => ?_) (fun c34 => ?_)
      · skip
        refine lv_iconst (v := 0) (pc := 41) hx hb dX7_number_41 (by decide) ?_
        exact hJ _ false rfl (by rw [if_pos (bZ0 c34)])
      · skip
        refine lv_iconst (v := 1) (pc := 37) hx hb dX7_number_37 (by decide) ?_
        refine lv_goto (tgt := 42) (pc := 38) hx hb dX7_number_38 (by decide) ?_
        exact hJ _ true rfl (by rw [if_neg (by rw [(bZ1 c34)]; decide)])
    refine pX7_163 (pc := 42) (z := if z21 = false then false else true) C hK hP hS hk1 dX7_number_42 (fun M22 H locs eM22 hP hS => ?_)
    replace h := h M22 eM22
    refine lv_aload_n (pc := 45) hx hb dX7_number_45 rfl (lv_at hl 0 rfl) ?_
    refine m_callVI (pc := 46) (y := yX7_sign) (κ := 7) (As := []) (rest := []) C hK hP hS hl.1 ⟨Nat.zero_le _, Nat.zero_le _⟩ (c_X7_sign h) rfl rfl hk1 (by decide) rfl q_1174 q_1176 q_s72 q_8 q_1177 ⟨rfl, rfl⟩ yd_X7_sign ⟨Nat.le_of_ble_eq_true rfl, Nat.le_of_ble_eq_true rfl⟩ (Nat.le_of_ble_eq_true rfl) dX7_number_46 (fun r24 M23 H locs h hP hS => ?_)
    refine lv_bipush (v := 48) (pc := 49) hx hb dX7_number_49 (by decide) ?_
    refine lv_isub (pc := 51) hx hb dX7_number_51 ?_
    refine lv_topi (fun v25 ev25 => ?_)
    replace h := h v25 ev25
    refine lv_istore_n (lv' := [(3, .int v25), (0, .ref (b + i)), (1, .int p1), (2, .int p2)]) (pc := 52) hx hb dX7_number_52 rfl hl (by decide) rfl (fun ls hl => ?_)
    refine lv_aload_n (pc := 53) hx hb dX7_number_53 rfl (lv_at hl 1 rfl) ?_
    refine lv_dup (pc := 54) hx hb dX7_number_54 rfl ?_
    refine gX7_160 (pc := 55) C hK hP hk1 dX7_number_55 ?_
    refine lv_aload_n (pc := 58) hx hb dX7_number_58 rfl (lv_at hl 1 rfl) ?_
    refine gX7_163 (pc := 59) C hK hP hk1 dX7_number_59 ?_
    refine m_joinZ (z := if (M23.1 i 8 != 0) = false then false else true) (jp := 70) (rest := [.int (M23.1 i 7), .ref (b + i)]) ?_ (fun hJ => ?_)
    rotate_left
    · skip
      refine lv_if_eq (tgt := 69) (pc := 62) hx hb dX7_number_62 (by decide) (fun c62 => ?_) (fun c62 => ?_)
      · skip
        refine lv_iconst (v := 0) (pc := 69) hx hb dX7_number_69 (by decide) ?_
        exact hJ _ false rfl (by rw [if_pos (bZ0 c62)])
      · skip
        refine lv_iconst (v := 1) (pc := 65) hx hb dX7_number_65 (by decide) ?_
        refine lv_goto (tgt := 70) (pc := 66) hx hb dX7_number_66 (by decide) ?_
        exact hJ _ true rfl (by rw [if_neg (by rw [(bZ1 c62)]; decide)])
    refine lv_iadd (pc := 70) hx hb dX7_number_70 ?_
    refine pX7_160 (pc := 71) (v := (M23.1 i 7) + (bI (if (M23.1 i 8 != 0) = false then false else true))) C hK hP hS hk1 dX7_number_71 (fun M26 H locs eM26 hP hS => ?_)
    replace h := h M26 eM26
    obtain ⟨f, h⟩ := h
    exact L74 f _ _ _ _ _ _ _ h hP hS (lv_sub hl [1, 3, 0] rfl)
/-! ForgeHeatsModel.readsPart ()V -/
def wp_X7_readsPart (n : Nat) (M : Mem) (i : Nat) (P : Mem → Prop) : Prop := m_tp n i 7 ∧ (wp_X7_number n M i 1 40 (fun r3 M1 => wp_X7_takesSign n M1 i 100 (fun z5 M4 => ∀ M6 : Mem, M6 = uI M4 i 8 (bI z5) → (wp_X7_number n M6 i 0 4 (fun r8 M7 => wp_X7_takesSign n M7 i 104 (fun z10 M9 => ∀ M11 : Mem, M11 = uI M9 i 8 (bI z10) → (wp_X7_number n M11 i 0 3 (fun r13 M12 => wp_X7_takesSign n M12 i 64 (fun z15 M14 => ((z15 = false → wp_X7_takesSign n M14 i 33 (fun z17 M16 => (((M16.1 i 8 != 0) = false → P M16) ∧ ((M16.1 i 8 != 0) = true → ∃ j18 : Nat, M16.2.1 i 9 = some j18 ∧ (m_tp n j18 8 ∧ (vp_in (5 * (M16.1 i 10)) (m_len j18) ∧ (∀ M21 : Mem, M21 = uI M16 j18 (5 * (M16.1 i 10)).toNatClampNeg r8 → (∃ j22 : Nat, M21.2.1 i 9 = some j22 ∧ (m_tp n j22 8 ∧ (vp_in ((5 * (M21.1 i 10)) + 1) (m_len j22) ∧ (∀ M25 : Mem, M25 = uI M21 j22 ((5 * (M21.1 i 10)) + 1).toNatClampNeg r13 → (∃ j26 : Nat, M25.2.1 i 9 = some j26 ∧ (m_tp n j26 8 ∧ (vp_in ((5 * (M25.1 i 10)) + 2) (m_len j26) ∧ (∀ M29 : Mem, M29 = uI M25 j26 ((5 * (M25.1 i 10)) + 2).toNatClampNeg r3 → (∃ j30 : Nat, M29.2.1 i 9 = some j30 ∧ (m_tp n j30 8 ∧ (vp_in ((5 * (M29.1 i 10)) + 3) (m_len j30) ∧ (∀ M33 : Mem, M33 = uI M29 j30 ((5 * (M29.1 i 10)) + 3).toNatClampNeg 9999 → (∃ j34 : Nat, M33.2.1 i 9 = some j34 ∧ (m_tp n j34 8 ∧ (vp_in ((5 * (M33.1 i 10)) + 4) (m_len j34) ∧ (∀ M37 : Mem, M37 = uI M33 j34 ((5 * (M33.1 i 10)) + 4).toNatClampNeg (bI (if z17 = false then false else true)) → (∀ M38 : Mem, M38 = uI M37 i 10 ((M37.1 i 10) + 1) → (P M38))))))))))))))))))))))))) ∧ (z15 = true → wp_X7_number n M14 i 0 9999 (fun r40 M39 => wp_X7_takesSign n M39 i 33 (fun z42 M41 => (((M41.1 i 8 != 0) = false → P M41) ∧ ((M41.1 i 8 != 0) = true → ∃ j43 : Nat, M41.2.1 i 9 = some j43 ∧ (m_tp n j43 8 ∧ (vp_in (5 * (M41.1 i 10)) (m_len j43) ∧ (∀ M46 : Mem, M46 = uI M41 j43 (5 * (M41.1 i 10)).toNatClampNeg r8 → (∃ j47 : Nat, M46.2.1 i 9 = some j47 ∧ (m_tp n j47 8 ∧ (vp_in ((5 * (M46.1 i 10)) + 1) (m_len j47) ∧ (∀ M50 : Mem, M50 = uI M46 j47 ((5 * (M46.1 i 10)) + 1).toNatClampNeg r13 → (∃ j51 : Nat, M50.2.1 i 9 = some j51 ∧ (m_tp n j51 8 ∧ (vp_in ((5 * (M50.1 i 10)) + 2) (m_len j51) ∧ (∀ M54 : Mem, M54 = uI M50 j51 ((5 * (M50.1 i 10)) + 2).toNatClampNeg r3 → (∃ j55 : Nat, M54.2.1 i 9 = some j55 ∧ (m_tp n j55 8 ∧ (vp_in ((5 * (M54.1 i 10)) + 3) (m_len j55) ∧ (∀ M58 : Mem, M58 = uI M54 j55 ((5 * (M54.1 i 10)) + 3).toNatClampNeg r40 → (∃ j59 : Nat, M58.2.1 i 9 = some j59 ∧ (m_tp n j59 8 ∧ (vp_in ((5 * (M58.1 i 10)) + 4) (m_len j59) ∧ (∀ M62 : Mem, M62 = uI M58 j59 ((5 * (M58.1 i 10)) + 4).toNatClampNeg (bI (if z42 = false then false else true)) → (∀ M63 : Mem, M63 = uI M62 i 10 ((M62.1 i 10) + 1) → (P M63))))))))))))))))))))))))))))))))))))
abbrev rm_X7_readsPart : Room := { frames := 2, cells := 0, slots := 0, locals := 45 }
set_option maxHeartbeats 4000000 in
set_option maxRecDepth 100000 in
theorem c_X7_readsPart {l : Launch} {D : va_G} {cA : Nat → ClassId} {b n : Nat} {M : Mem} {i : Nat} {P : Mem → Prop} (h : wp_X7_readsPart n M i P) : m_C l D cA b n n M yX7_readsPart cX7_readsPart 6 none rm_X7_readsPart 0 0 [.ref (b + i)] (rV P) := by
  refine m_enter (by decide) (Nat.le_of_ble_eq_true rfl) (fun p e s m below meth c C hr hlk hnm hK hP hS ls hl => ?_)
  have hx := C.1
  have hb := C.2.1
  have hl : lv_has ls 6 [(0, .ref (b + i))] := hl
  unfold wp_X7_readsPart at h
  refine lv_aload_n (pc := 0) hx hb dX7_readsPart_0 rfl (lv_at hl 0 rfl) ?_
  refine lv_iconst (v := 1) (pc := 1) hx hb dX7_readsPart_1 (by decide) ?_
  refine lv_bipush (v := 40) (pc := 2) hx hb dX7_readsPart_2 (by decide) ?_
  obtain ⟨hk2, h⟩ := h
  refine m_callVI (pc := 4) (y := yX7_number) (κ := 7) (As := [.int 1, .int 40]) (rest := []) C hK hP hS hl.1 ⟨Nat.zero_le _, Nat.zero_le _⟩ (c_X7_number h) rfl rfl hk2 (by decide) rfl q_1170 q_1172 q_s71 q_8 q_1173 ⟨rfl, rfl⟩ yd_X7_number ⟨Nat.le_of_ble_eq_true rfl, Nat.le_of_ble_eq_true rfl⟩ (Nat.le_of_ble_eq_true rfl) dX7_readsPart_4 (fun r3 M1 H locs h hP hS => ?_)
  refine lv_istore_n (lv' := [(1, .int r3), (0, .ref (b + i))]) (pc := 7) hx hb dX7_readsPart_7 rfl hl (by decide) rfl (fun ls hl => ?_)
  refine lv_aload_n (pc := 8) hx hb dX7_readsPart_8 rfl (lv_at hl 1 rfl) ?_
  refine lv_aload_n (pc := 9) hx hb dX7_readsPart_9 rfl (lv_at hl 1 rfl) ?_
  refine lv_bipush (v := 100) (pc := 10) hx hb dX7_readsPart_10 (by decide) ?_
  refine m_callVZ (pc := 12) (y := yX7_takesSign) (κ := 7) (As := [.int 100]) (rest := [.ref (b + i)]) C hK hP hS hl.1 ⟨Nat.zero_le _, Nat.zero_le _⟩ (c_X7_takesSign h) rfl rfl hk2 (by decide) rfl q_1178 q_1180 q_s73 q_8 q_1181 ⟨rfl, rfl⟩ yd_X7_takesSign ⟨Nat.le_of_ble_eq_true rfl, Nat.le_of_ble_eq_true rfl⟩ (Nat.le_of_ble_eq_true rfl) dX7_readsPart_12 (fun z5 M4 H locs h hP hS => ?_)
  refine pX7_163 (pc := 15) (z := z5) C hK hP hS hk2 dX7_readsPart_15 (fun M6 H locs eM6 hP hS => ?_)
  replace h := h M6 eM6
  refine lv_aload_n (pc := 18) hx hb dX7_readsPart_18 rfl (lv_at hl 1 rfl) ?_
  refine lv_iconst (v := 0) (pc := 19) hx hb dX7_readsPart_19 (by decide) ?_
  refine lv_iconst (v := 4) (pc := 20) hx hb dX7_readsPart_20 (by decide) ?_
  refine m_callVI (pc := 21) (y := yX7_number) (κ := 7) (As := [.int 0, .int 4]) (rest := []) C hK hP hS hl.1 ⟨Nat.zero_le _, Nat.zero_le _⟩ (c_X7_number h) rfl rfl hk2 (by decide) rfl q_1170 q_1172 q_s71 q_8 q_1173 ⟨rfl, rfl⟩ yd_X7_number ⟨Nat.le_of_ble_eq_true rfl, Nat.le_of_ble_eq_true rfl⟩ (Nat.le_of_ble_eq_true rfl) dX7_readsPart_21 (fun r8 M7 H locs h hP hS => ?_)
  refine lv_istore_n (lv' := [(2, .int r8), (1, .int r3), (0, .ref (b + i))]) (pc := 24) hx hb dX7_readsPart_24 rfl hl (by decide) rfl (fun ls hl => ?_)
  refine lv_aload_n (pc := 25) hx hb dX7_readsPart_25 rfl (lv_at hl 2 rfl) ?_
  refine lv_aload_n (pc := 26) hx hb dX7_readsPart_26 rfl (lv_at hl 2 rfl) ?_
  refine lv_bipush (v := 104) (pc := 27) hx hb dX7_readsPart_27 (by decide) ?_
  refine m_callVZ (pc := 29) (y := yX7_takesSign) (κ := 7) (As := [.int 104]) (rest := [.ref (b + i)]) C hK hP hS hl.1 ⟨Nat.zero_le _, Nat.zero_le _⟩ (c_X7_takesSign h) rfl rfl hk2 (by decide) rfl q_1178 q_1180 q_s73 q_8 q_1181 ⟨rfl, rfl⟩ yd_X7_takesSign ⟨Nat.le_of_ble_eq_true rfl, Nat.le_of_ble_eq_true rfl⟩ (Nat.le_of_ble_eq_true rfl) dX7_readsPart_29 (fun z10 M9 H locs h hP hS => ?_)
  refine pX7_163 (pc := 32) (z := z10) C hK hP hS hk2 dX7_readsPart_32 (fun M11 H locs eM11 hP hS => ?_)
  replace h := h M11 eM11
  refine lv_aload_n (pc := 35) hx hb dX7_readsPart_35 rfl (lv_at hl 2 rfl) ?_
  refine lv_iconst (v := 0) (pc := 36) hx hb dX7_readsPart_36 (by decide) ?_
  refine lv_iconst (v := 3) (pc := 37) hx hb dX7_readsPart_37 (by decide) ?_
  refine m_callVI (pc := 38) (y := yX7_number) (κ := 7) (As := [.int 0, .int 3]) (rest := []) C hK hP hS hl.1 ⟨Nat.zero_le _, Nat.zero_le _⟩ (c_X7_number h) rfl rfl hk2 (by decide) rfl q_1170 q_1172 q_s71 q_8 q_1173 ⟨rfl, rfl⟩ yd_X7_number ⟨Nat.le_of_ble_eq_true rfl, Nat.le_of_ble_eq_true rfl⟩ (Nat.le_of_ble_eq_true rfl) dX7_readsPart_38 (fun r13 M12 H locs h hP hS => ?_)
  refine lv_istore_n (lv' := [(3, .int r13), (2, .int r8), (1, .int r3), (0, .ref (b + i))]) (pc := 41) hx hb dX7_readsPart_41 rfl hl (by decide) rfl (fun ls hl => ?_)
  refine lv_aload_n (pc := 42) hx hb dX7_readsPart_42 rfl (lv_at hl 3 rfl) ?_
  refine lv_bipush (v := 64) (pc := 43) hx hb dX7_readsPart_43 (by decide) ?_
  refine m_callVZ (pc := 45) (y := yX7_takesSign) (κ := 7) (As := [.int 64]) (rest := []) C hK hP hS hl.1 ⟨Nat.zero_le _, Nat.zero_le _⟩ (c_X7_takesSign h) rfl rfl hk2 (by decide) rfl q_1178 q_1180 q_s73 q_8 q_1181 ⟨rfl, rfl⟩ yd_X7_takesSign ⟨Nat.le_of_ble_eq_true rfl, Nat.le_of_ble_eq_true rfl⟩ (Nat.le_of_ble_eq_true rfl) dX7_readsPart_45 (fun z15 M14 H locs h hP hS => ?_)
  refine lv_if_eq (tgt := 62) (pc := 48) hx hb dX7_readsPart_48 (by decide) (fun c48 => ?_) (fun c48 => ?_)
  · replace h := h.1 (bZ0 c48)
    refine lv_sipush (v := 9999) (pc := 62) hx hb dX7_readsPart_62 (by decide) ?_
    refine lv_istore (lv' := [(4, .int 9999), (3, .int r13), (2, .int r8), (1, .int r3), (0, .ref (b + i))]) (pc := 65) hx hb dX7_readsPart_65 hl (by decide) rfl (fun ls hl => ?_)
    refine lv_aload_n (pc := 67) hx hb dX7_readsPart_67 rfl (lv_at hl 4 rfl) ?_
    refine lv_bipush (v := 33) (pc := 68) hx hb dX7_readsPart_68 (by decide) ?_
    refine m_callVZ (pc := 70) (y := yX7_takesSign) (κ := 7) (As := [.int 33]) (rest := []) C hK hP hS hl.1 ⟨Nat.zero_le _, Nat.zero_le _⟩ (c_X7_takesSign h) rfl rfl hk2 (by decide) rfl q_1178 q_1180 q_s73 q_8 q_1181 ⟨rfl, rfl⟩ yd_X7_takesSign ⟨Nat.le_of_ble_eq_true rfl, Nat.le_of_ble_eq_true rfl⟩ (Nat.le_of_ble_eq_true rfl) dX7_readsPart_70 (fun z17 M16 H locs h hP hS => ?_)
    refine m_joinZ (z := if z17 = false then false else true) (jp := 81) (rest := []) ?_ (fun hJ => ?_)
    rotate_left
    · skip
      refine lv_if_eq (tgt := 80) (pc := 73) hx hb dX7_readsPart_73 (by decide) (fun c73 => ?_) (fun c73 => ?_)
      · skip
        refine lv_iconst (v := 0) (pc := 80) hx hb dX7_readsPart_80 (by decide) ?_
        exact hJ _ false rfl (by rw [if_pos (bZ0 c73)])
      · skip
        refine lv_iconst (v := 1) (pc := 76) hx hb dX7_readsPart_76 (by decide) ?_
        refine lv_goto (tgt := 81) (pc := 77) hx hb dX7_readsPart_77 (by decide) ?_
        exact hJ _ true rfl (by rw [if_neg (by rw [(bZ1 c73)]; decide)])
    refine lv_istore (lv' := [(5, .int (bI (if z17 = false then false else true))), (4, .int 9999), (3, .int r13), (2, .int r8), (1, .int r3), (0, .ref (b + i))]) (pc := 81) hx hb dX7_readsPart_81 hl (by decide) rfl (fun ls hl => ?_)
    refine lv_aload_n (pc := 83) hx hb dX7_readsPart_83 rfl (lv_at hl 5 rfl) ?_
    refine gX7_163 (pc := 84) C hK hP hk2 dX7_readsPart_84 ?_
    refine lv_if_eq (tgt := 170) (pc := 87) hx hb dX7_readsPart_87 (by decide) (fun c87 => ?_) (fun c87 => ?_)
    · replace h := h.1 (bZ0 c87)
      exact m_vret (pc := 170) C hr hlk hP hS dX7_readsPart_170 h
    · replace h := h.2 (bZ1 c87)
      refine lv_aload_n (pc := 90) hx hb dX7_readsPart_90 rfl (lv_at hl 5 rfl) ?_
      obtain ⟨j18, hj18, h⟩ := h
      refine gX7_22 (pc := 91) C hK hP hk2 hj18 dX7_readsPart_91 ?_
      refine lv_iconst (v := 5) (pc := 94) hx hb dX7_readsPart_94 (by decide) ?_
      refine lv_aload_n (pc := 95) hx hb dX7_readsPart_95 rfl (lv_at hl 5 rfl) ?_
      refine gX7_176 (pc := 96) C hK hP hk2 dX7_readsPart_96 ?_
      refine lv_imul (pc := 99) hx hb dX7_readsPart_99 ?_
      refine lv_iload_n (pc := 100) hx hb dX7_readsPart_100 rfl (lv_at hl 3 rfl) ?_
      obtain ⟨hk19, h⟩ := h
      obtain ⟨hi20, h⟩ := h
      refine m_iast (pc := 101) C hK hP hS hk19 hi20 dX7_readsPart_101 (fun M21 H locs eM21 hP hS => ?_)
      replace h := h M21 eM21
      refine lv_aload_n (pc := 102) hx hb dX7_readsPart_102 rfl (lv_at hl 5 rfl) ?_
      obtain ⟨j22, hj22, h⟩ := h
      refine gX7_22 (pc := 103) C hK hP hk2 hj22 dX7_readsPart_103 ?_
      refine lv_iconst (v := 5) (pc := 106) hx hb dX7_readsPart_106 (by decide) ?_
      refine lv_aload_n (pc := 107) hx hb dX7_readsPart_107 rfl (lv_at hl 5 rfl) ?_
      refine gX7_176 (pc := 108) C hK hP hk2 dX7_readsPart_108 ?_
      refine lv_imul (pc := 111) hx hb dX7_readsPart_111 ?_
      refine lv_iconst (v := 1) (pc := 112) hx hb dX7_readsPart_112 (by decide) ?_
      refine lv_iadd (pc := 113) hx hb dX7_readsPart_113 ?_
      refine lv_iload_n (pc := 114) hx hb dX7_readsPart_114 rfl (lv_at hl 2 rfl) ?_
      obtain ⟨hk23, h⟩ := h
      obtain ⟨hi24, h⟩ := h
      refine m_iast (pc := 115) C hK hP hS hk23 hi24 dX7_readsPart_115 (fun M25 H locs eM25 hP hS => ?_)
      replace h := h M25 eM25
      refine lv_aload_n (pc := 116) hx hb dX7_readsPart_116 rfl (lv_at hl 5 rfl) ?_
      obtain ⟨j26, hj26, h⟩ := h
      refine gX7_22 (pc := 117) C hK hP hk2 hj26 dX7_readsPart_117 ?_
      refine lv_iconst (v := 5) (pc := 120) hx hb dX7_readsPart_120 (by decide) ?_
      refine lv_aload_n (pc := 121) hx hb dX7_readsPart_121 rfl (lv_at hl 5 rfl) ?_
      refine gX7_176 (pc := 122) C hK hP hk2 dX7_readsPart_122 ?_
      refine lv_imul (pc := 125) hx hb dX7_readsPart_125 ?_
      refine lv_iconst (v := 2) (pc := 126) hx hb dX7_readsPart_126 (by decide) ?_
      refine lv_iadd (pc := 127) hx hb dX7_readsPart_127 ?_
      refine lv_iload_n (pc := 128) hx hb dX7_readsPart_128 rfl (lv_at hl 4 rfl) ?_
      obtain ⟨hk27, h⟩ := h
      obtain ⟨hi28, h⟩ := h
      refine m_iast (pc := 129) C hK hP hS hk27 hi28 dX7_readsPart_129 (fun M29 H locs eM29 hP hS => ?_)
      replace h := h M29 eM29
      refine lv_aload_n (pc := 130) hx hb dX7_readsPart_130 rfl (lv_at hl 5 rfl) ?_
      obtain ⟨j30, hj30, h⟩ := h
      refine gX7_22 (pc := 131) C hK hP hk2 hj30 dX7_readsPart_131 ?_
      refine lv_iconst (v := 5) (pc := 134) hx hb dX7_readsPart_134 (by decide) ?_
      refine lv_aload_n (pc := 135) hx hb dX7_readsPart_135 rfl (lv_at hl 5 rfl) ?_
      refine gX7_176 (pc := 136) C hK hP hk2 dX7_readsPart_136 ?_
      refine lv_imul (pc := 139) hx hb dX7_readsPart_139 ?_
      refine lv_iconst (v := 3) (pc := 140) hx hb dX7_readsPart_140 (by decide) ?_
      refine lv_iadd (pc := 141) hx hb dX7_readsPart_141 ?_
      refine lv_iload (pc := 142) hx hb dX7_readsPart_142 (lv_at hl 1 rfl) ?_
      obtain ⟨hk31, h⟩ := h
      obtain ⟨hi32, h⟩ := h
      refine m_iast (pc := 144) C hK hP hS hk31 hi32 dX7_readsPart_144 (fun M33 H locs eM33 hP hS => ?_)
      replace h := h M33 eM33
      refine lv_aload_n (pc := 145) hx hb dX7_readsPart_145 rfl (lv_at hl 5 rfl) ?_
      obtain ⟨j34, hj34, h⟩ := h
      refine gX7_22 (pc := 146) C hK hP hk2 hj34 dX7_readsPart_146 ?_
      refine lv_iconst (v := 5) (pc := 149) hx hb dX7_readsPart_149 (by decide) ?_
      refine lv_aload_n (pc := 150) hx hb dX7_readsPart_150 rfl (lv_at hl 5 rfl) ?_
      refine gX7_176 (pc := 151) C hK hP hk2 dX7_readsPart_151 ?_
      refine lv_imul (pc := 154) hx hb dX7_readsPart_154 ?_
      refine lv_iconst (v := 4) (pc := 155) hx hb dX7_readsPart_155 (by decide) ?_
      refine lv_iadd (pc := 156) hx hb dX7_readsPart_156 ?_
      refine lv_iload (pc := 157) hx hb dX7_readsPart_157 (lv_at hl 0 rfl) ?_
      obtain ⟨hk35, h⟩ := h
      obtain ⟨hi36, h⟩ := h
      refine m_iast (pc := 159) C hK hP hS hk35 hi36 dX7_readsPart_159 (fun M37 H locs eM37 hP hS => ?_)
      replace h := h M37 eM37
      refine lv_aload_n (pc := 160) hx hb dX7_readsPart_160 rfl (lv_at hl 5 rfl) ?_
      refine lv_dup (pc := 161) hx hb dX7_readsPart_161 rfl ?_
      refine gX7_176 (pc := 162) C hK hP hk2 dX7_readsPart_162 ?_
      refine lv_iconst (v := 1) (pc := 165) hx hb dX7_readsPart_165 (by decide) ?_
      refine lv_iadd (pc := 166) hx hb dX7_readsPart_166 ?_
      refine pX7_176 (pc := 167) (v := (M37.1 i 10) + 1) C hK hP hS hk2 dX7_readsPart_167 (fun M38 H locs eM38 hP hS => ?_)
      replace h := h M38 eM38
      exact m_vret (pc := 170) C hr hlk hP hS dX7_readsPart_170 h
  · replace h := h.2 (bZ1 c48)
    refine lv_aload_n (pc := 51) hx hb dX7_readsPart_51 rfl (lv_at hl 3 rfl) ?_
    refine lv_iconst (v := 0) (pc := 52) hx hb dX7_readsPart_52 (by decide) ?_
    refine lv_sipush (v := 9999) (pc := 53) hx hb dX7_readsPart_53 (by decide) ?_
    refine m_callVI (pc := 56) (y := yX7_number) (κ := 7) (As := [.int 0, .int 9999]) (rest := []) C hK hP hS hl.1 ⟨Nat.zero_le _, Nat.zero_le _⟩ (c_X7_number h) rfl rfl hk2 (by decide) rfl q_1170 q_1172 q_s71 q_8 q_1173 ⟨rfl, rfl⟩ yd_X7_number ⟨Nat.le_of_ble_eq_true rfl, Nat.le_of_ble_eq_true rfl⟩ (Nat.le_of_ble_eq_true rfl) dX7_readsPart_56 (fun r40 M39 H locs h hP hS => ?_)
    refine lv_goto (tgt := 65) (pc := 59) hx hb dX7_readsPart_59 (by decide) ?_
    refine lv_istore (lv' := [(4, .int r40), (3, .int r13), (2, .int r8), (1, .int r3), (0, .ref (b + i))]) (pc := 65) hx hb dX7_readsPart_65 hl (by decide) rfl (fun ls hl => ?_)
    refine lv_aload_n (pc := 67) hx hb dX7_readsPart_67 rfl (lv_at hl 4 rfl) ?_
    refine lv_bipush (v := 33) (pc := 68) hx hb dX7_readsPart_68 (by decide) ?_
    refine m_callVZ (pc := 70) (y := yX7_takesSign) (κ := 7) (As := [.int 33]) (rest := []) C hK hP hS hl.1 ⟨Nat.zero_le _, Nat.zero_le _⟩ (c_X7_takesSign h) rfl rfl hk2 (by decide) rfl q_1178 q_1180 q_s73 q_8 q_1181 ⟨rfl, rfl⟩ yd_X7_takesSign ⟨Nat.le_of_ble_eq_true rfl, Nat.le_of_ble_eq_true rfl⟩ (Nat.le_of_ble_eq_true rfl) dX7_readsPart_70 (fun z42 M41 H locs h hP hS => ?_)
    refine m_joinZ (z := if z42 = false then false else true) (jp := 81) (rest := []) ?_ (fun hJ => ?_)
    rotate_left
    · skip
      refine lv_if_eq (tgt := 80) (pc := 73) hx hb dX7_readsPart_73 (by decide) (fun c73 => ?_) (fun c73 => ?_)
      · skip
        refine lv_iconst (v := 0) (pc := 80) hx hb dX7_readsPart_80 (by decide) ?_
        exact hJ _ false rfl (by rw [if_pos (bZ0 c73)])
      · skip
        refine lv_iconst (v := 1) (pc := 76) hx hb dX7_readsPart_76 (by decide) ?_
        refine lv_goto (tgt := 81) (pc := 77) hx hb dX7_readsPart_77 (by decide) ?_
        exact hJ _ true rfl (by rw [if_neg (by rw [(bZ1 c73)]; decide)])
    refine lv_istore (lv' := [(5, .int (bI (if z42 = false then false else true))), (4, .int r40), (3, .int r13), (2, .int r8), (1, .int r3), (0, .ref (b + i))]) (pc := 81) hx hb dX7_readsPart_81 hl (by decide) rfl (fun ls hl => ?_)
    refine lv_aload_n (pc := 83) hx hb dX7_readsPart_83 rfl (lv_at hl 5 rfl) ?_
    refine gX7_163 (pc := 84) C hK hP hk2 dX7_readsPart_84 ?_
    refine lv_if_eq (tgt := 170) (pc := 87) hx hb dX7_readsPart_87 (by decide) (fun c87 => ?_) (fun c87 => ?_)
    · replace h := h.1 (bZ0 c87)
      exact m_vret (pc := 170) C hr hlk hP hS dX7_readsPart_170 h
    · replace h := h.2 (bZ1 c87)
      refine lv_aload_n (pc := 90) hx hb dX7_readsPart_90 rfl (lv_at hl 5 rfl) ?_
      obtain ⟨j43, hj43, h⟩ := h
      refine gX7_22 (pc := 91) C hK hP hk2 hj43 dX7_readsPart_91 ?_
      refine lv_iconst (v := 5) (pc := 94) hx hb dX7_readsPart_94 (by decide) ?_
      refine lv_aload_n (pc := 95) hx hb dX7_readsPart_95 rfl (lv_at hl 5 rfl) ?_
      refine gX7_176 (pc := 96) C hK hP hk2 dX7_readsPart_96 ?_
      refine lv_imul (pc := 99) hx hb dX7_readsPart_99 ?_
      refine lv_iload_n (pc := 100) hx hb dX7_readsPart_100 rfl (lv_at hl 3 rfl) ?_
      obtain ⟨hk44, h⟩ := h
      obtain ⟨hi45, h⟩ := h
      refine m_iast (pc := 101) C hK hP hS hk44 hi45 dX7_readsPart_101 (fun M46 H locs eM46 hP hS => ?_)
      replace h := h M46 eM46
      refine lv_aload_n (pc := 102) hx hb dX7_readsPart_102 rfl (lv_at hl 5 rfl) ?_
      obtain ⟨j47, hj47, h⟩ := h
      refine gX7_22 (pc := 103) C hK hP hk2 hj47 dX7_readsPart_103 ?_
      refine lv_iconst (v := 5) (pc := 106) hx hb dX7_readsPart_106 (by decide) ?_
      refine lv_aload_n (pc := 107) hx hb dX7_readsPart_107 rfl (lv_at hl 5 rfl) ?_
      refine gX7_176 (pc := 108) C hK hP hk2 dX7_readsPart_108 ?_
      refine lv_imul (pc := 111) hx hb dX7_readsPart_111 ?_
      refine lv_iconst (v := 1) (pc := 112) hx hb dX7_readsPart_112 (by decide) ?_
      refine lv_iadd (pc := 113) hx hb dX7_readsPart_113 ?_
      refine lv_iload_n (pc := 114) hx hb dX7_readsPart_114 rfl (lv_at hl 2 rfl) ?_
      obtain ⟨hk48, h⟩ := h
      obtain ⟨hi49, h⟩ := h
      refine m_iast (pc := 115) C hK hP hS hk48 hi49 dX7_readsPart_115 (fun M50 H locs eM50 hP hS => ?_)
      replace h := h M50 eM50
      refine lv_aload_n (pc := 116) hx hb dX7_readsPart_116 rfl (lv_at hl 5 rfl) ?_
      obtain ⟨j51, hj51, h⟩ := h
      refine gX7_22 (pc := 117) C hK hP hk2 hj51 dX7_readsPart_117 ?_
      refine lv_iconst (v := 5) (pc := 120) hx hb dX7_readsPart_120 (by decide) ?_
      refine lv_aload_n (pc := 121) hx hb dX7_readsPart_121 rfl (lv_at hl 5 rfl) ?_
      refine gX7_176 (pc := 122) C hK hP hk2 dX7_readsPart_122 ?_
      refine lv_imul (pc := 125) hx hb dX7_readsPart_125 ?_
      refine lv_iconst (v := 2) (pc := 126) hx hb dX7_readsPart_126 (by decide) ?_
      refine lv_iadd (pc := 127) hx hb dX7_readsPart_127 ?_
      refine lv_iload_n (pc := 128) hx hb dX7_readsPart_128 rfl (lv_at hl 4 rfl) ?_
      obtain ⟨hk52, h⟩ := h
      obtain ⟨hi53, h⟩ := h
      refine m_iast (pc := 129) C hK hP hS hk52 hi53 dX7_readsPart_129 (fun M54 H locs eM54 hP hS => ?_)
      replace h := h M54 eM54
      refine lv_aload_n (pc := 130) hx hb dX7_readsPart_130 rfl (lv_at hl 5 rfl) ?_
      obtain ⟨j55, hj55, h⟩ := h
      refine gX7_22 (pc := 131) C hK hP hk2 hj55 dX7_readsPart_131 ?_
      refine lv_iconst (v := 5) (pc := 134) hx hb dX7_readsPart_134 (by decide) ?_
      refine lv_aload_n (pc := 135) hx hb dX7_readsPart_135 rfl (lv_at hl 5 rfl) ?_
      refine gX7_176 (pc := 136) C hK hP hk2 dX7_readsPart_136 ?_
      refine lv_imul (pc := 139) hx hb dX7_readsPart_139 ?_
      refine lv_iconst (v := 3) (pc := 140) hx hb dX7_readsPart_140 (by decide) ?_
      refine lv_iadd (pc := 141) hx hb dX7_readsPart_141 ?_
      refine lv_iload (pc := 142) hx hb dX7_readsPart_142 (lv_at hl 1 rfl) ?_
      obtain ⟨hk56, h⟩ := h
      obtain ⟨hi57, h⟩ := h
      refine m_iast (pc := 144) C hK hP hS hk56 hi57 dX7_readsPart_144 (fun M58 H locs eM58 hP hS => ?_)
      replace h := h M58 eM58
      refine lv_aload_n (pc := 145) hx hb dX7_readsPart_145 rfl (lv_at hl 5 rfl) ?_
      obtain ⟨j59, hj59, h⟩ := h
      refine gX7_22 (pc := 146) C hK hP hk2 hj59 dX7_readsPart_146 ?_
      refine lv_iconst (v := 5) (pc := 149) hx hb dX7_readsPart_149 (by decide) ?_
      refine lv_aload_n (pc := 150) hx hb dX7_readsPart_150 rfl (lv_at hl 5 rfl) ?_
      refine gX7_176 (pc := 151) C hK hP hk2 dX7_readsPart_151 ?_
      refine lv_imul (pc := 154) hx hb dX7_readsPart_154 ?_
      refine lv_iconst (v := 4) (pc := 155) hx hb dX7_readsPart_155 (by decide) ?_
      refine lv_iadd (pc := 156) hx hb dX7_readsPart_156 ?_
      refine lv_iload (pc := 157) hx hb dX7_readsPart_157 (lv_at hl 0 rfl) ?_
      obtain ⟨hk60, h⟩ := h
      obtain ⟨hi61, h⟩ := h
      refine m_iast (pc := 159) C hK hP hS hk60 hi61 dX7_readsPart_159 (fun M62 H locs eM62 hP hS => ?_)
      replace h := h M62 eM62
      refine lv_aload_n (pc := 160) hx hb dX7_readsPart_160 rfl (lv_at hl 5 rfl) ?_
      refine lv_dup (pc := 161) hx hb dX7_readsPart_161 rfl ?_
      refine gX7_176 (pc := 162) C hK hP hk2 dX7_readsPart_162 ?_
      refine lv_iconst (v := 1) (pc := 165) hx hb dX7_readsPart_165 (by decide) ?_
      refine lv_iadd (pc := 166) hx hb dX7_readsPart_166 ?_
      refine pX7_176 (pc := 167) (v := (M62.1 i 10) + 1) C hK hP hS hk2 dX7_readsPart_167 (fun M63 H locs eM63 hP hS => ?_)
      replace h := h M63 eM63
      exact m_vret (pc := 170) C hr hlk hP hS dX7_readsPart_170 h
/-! ForgeHeatsModel.readsAll ()V -/
def wpB_X7_readsAll_19 (n : Nat) (P : Mem → Prop) (R_ : Mem → Nat → Prop) (M : Mem) (x0 : Nat) : Prop := m_tp n x0 7 ∧ ((((M.1 x0 8 != 0) = false → P M) ∧ ((M.1 x0 8 != 0) = true → (((M.1 x0 6) ≤ (M.1 x0 7) → P M) ∧ (¬ (M.1 x0 6) ≤ (M.1 x0 7) → wp_X7_takesSign n M x0 59 (fun z9 M8 => ∀ M10 : Mem, M10 = uI M8 x0 8 (bI z9) → ((((M10.1 x0 8 != 0) = false → R_ M10 x0) ∧ ((M10.1 x0 8 != 0) = true → wp_X7_readsPart n M10 x0 (fun M11 => R_ M11 x0))))))))))
def wpL_X7_readsAll_19 (n : Nat) (P : Mem → Prop) : Nat → Mem → Nat → Prop
  | 0 => fun _ _ => False
  | f + 1 => fun M x0 => wpB_X7_readsAll_19 n P (wpL_X7_readsAll_19 n P f) M x0
def wp_X7_readsAll (n : Nat) (M : Mem) (i : Nat) (P : Mem → Prop) : Prop := m_tp n i 7 ∧ (∀ M2 : Mem, M2 = uI M i 7 0 → (∀ M3 : Mem, M3 = uI M2 i 8 (bI true) → (∀ M4 : Mem, M4 = uI M3 i 10 0 → (wp_X7_readsPart n M4 i (fun M5 => ∃ f : Nat, wpL_X7_readsAll_19 n P f M5 i)))))
abbrev rm_X7_readsAll : Room := { frames := 3, cells := 0, slots := 0, locals := 70 }
set_option maxHeartbeats 4000000 in
set_option maxRecDepth 100000 in
theorem c_X7_readsAll {l : Launch} {D : va_G} {cA : Nat → ClassId} {b n : Nat} {M : Mem} {i : Nat} {P : Mem → Prop} (h : wp_X7_readsAll n M i P) : m_C l D cA b n n M yX7_readsAll cX7_readsAll 1 none rm_X7_readsAll 0 0 [.ref (b + i)] (rV P) := by
  refine m_enter (by decide) (Nat.le_of_ble_eq_true rfl) (fun p e s m below meth c C hr hlk hnm hK hP hS ls hl => ?_)
  have hx := C.1
  have hb := C.2.1
  have hl : lv_has ls 1 [(0, .ref (b + i))] := hl
  have L19 : ∀ f : Nat, ∀ (M : Mem) (H : Heap) (locs : List Loc) (ls : Array Slot) (x0 : Nat), wpL_X7_readsAll_19 n P f M x0 → m_H D cA b n M H → va_S (m_A b) s.heap H locs → lv_has ls 1 [(0, .ref (b + x0))] → W p l e rm_X7_readsAll s m ([.ref (b + i)] : List Value).toArray below meth c H locs 0 0 (MQ below (m_Q D cA b n (rV P)) ([.ref (b + i)] : List Value).toArray s 0 0 (m_A b)) (F0 m 19 ls []) := by
    clear h
    intro f
    induction f with
    | zero => intro M H locs ls x0 h; exact h.elim
    | succ f ih =>
      intro M H locs ls x0 h hP hS hl
      have h : wpB_X7_readsAll_19 n P (wpL_X7_readsAll_19 n P f) M x0 := h
      unfold wpB_X7_readsAll_19 at h
      refine lv_aload_n (pc := 19) hx hb dX7_readsAll_19 rfl (lv_at hl 0 rfl) ?_
      obtain ⟨hk7, h⟩ := h
      refine gX7_163 (pc := 20) C hK hP hk7 dX7_readsAll_20 ?_
      refine lv_if_eq (tgt := 61) (pc := 23) hx hb dX7_readsAll_23 (by decide) (fun c23 => ?_) (fun c23 => ?_)
      · replace h := h.1 (bZ0 c23)
        exact m_vret (pc := 61) C hr hlk hP hS dX7_readsAll_61 h
      · replace h := h.2 (bZ1 c23)
        refine lv_aload_n (pc := 26) hx hb dX7_readsAll_26 rfl (lv_at hl 0 rfl) ?_
        refine gX7_160 (pc := 27) C hK hP hk7 dX7_readsAll_27 ?_
        refine lv_aload_n (pc := 30) hx hb dX7_readsAll_30 rfl (lv_at hl 0 rfl) ?_
        refine gX7_157 (pc := 31) C hK hP hk7 dX7_readsAll_31 ?_
        refine lv_icmp_ge (tgt := 61) (pc := 34) hx hb dX7_readsAll_34 (by decide) (fun c34 => ?_) (fun c34 => ?_)
        · replace h := h.1 c34
          exact m_vret (pc := 61) C hr hlk hP hS dX7_readsAll_61 h
        · replace h := h.2 c34
          refine lv_aload_n (pc := 37) hx hb dX7_readsAll_37 rfl (lv_at hl 0 rfl) ?_
          refine lv_aload_n (pc := 38) hx hb dX7_readsAll_38 rfl (lv_at hl 0 rfl) ?_
          refine lv_bipush (v := 59) (pc := 39) hx hb dX7_readsAll_39 (by decide) ?_
          refine m_callVZ (pc := 41) (y := yX7_takesSign) (κ := 7) (As := [.int 59]) (rest := [.ref (b + x0)]) C hK hP hS hl.1 ⟨Nat.zero_le _, Nat.zero_le _⟩ (c_X7_takesSign h) rfl rfl hk7 (by decide) rfl q_1178 q_1180 q_s73 q_8 q_1181 ⟨rfl, rfl⟩ yd_X7_takesSign ⟨Nat.le_of_ble_eq_true rfl, Nat.le_of_ble_eq_true rfl⟩ (Nat.le_of_ble_eq_true rfl) dX7_readsAll_41 (fun z9 M8 H locs h hP hS => ?_)
          refine pX7_163 (pc := 44) (z := z9) C hK hP hS hk7 dX7_readsAll_44 (fun M10 H locs eM10 hP hS => ?_)
          replace h := h M10 eM10
          refine lv_aload_n (pc := 47) hx hb dX7_readsAll_47 rfl (lv_at hl 0 rfl) ?_
          refine gX7_163 (pc := 48) C hK hP hk7 dX7_readsAll_48 ?_
          refine lv_if_eq (tgt := 19) (pc := 51) hx hb dX7_readsAll_51 (by decide) (fun c51 => ?_) (fun c51 => ?_)
          · replace h := h.1 (bZ0 c51)
            exact ih _ _ _ _ _ h hP hS (lv_sub hl [0] rfl)
          · replace h := h.2 (bZ1 c51)
            refine lv_aload_n (pc := 54) hx hb dX7_readsAll_54 rfl (lv_at hl 0 rfl) ?_
            refine m_callVV (pc := 55) (y := yX7_readsPart) (κ := 7) (As := []) (rest := []) C hK hP hS hl.1 ⟨Nat.zero_le _, Nat.zero_le _⟩ (c_X7_readsPart h) rfl rfl hk7 (by decide) rfl q_1166 q_1168 q_s70 q_8 q_1169 ⟨rfl, rfl⟩ yd_X7_readsPart ⟨Nat.le_of_ble_eq_true rfl, Nat.le_of_ble_eq_true rfl⟩ (Nat.le_of_ble_eq_true rfl) dX7_readsAll_55 (fun M11 H locs h hP hS => ?_)
            refine lv_goto (tgt := 19) (pc := 58) hx hb dX7_readsAll_58 (by decide) ?_
            exact ih _ _ _ _ _ h hP hS (lv_sub hl [0] rfl)
  unfold wp_X7_readsAll at h
  refine lv_aload_n (pc := 0) hx hb dX7_readsAll_0 rfl (lv_at hl 0 rfl) ?_
  refine lv_iconst (v := 0) (pc := 1) hx hb dX7_readsAll_1 (by decide) ?_
  obtain ⟨hk1, h⟩ := h
  refine pX7_160 (pc := 2) (v := 0) C hK hP hS hk1 dX7_readsAll_2 (fun M2 H locs eM2 hP hS => ?_)
  replace h := h M2 eM2
  refine lv_aload_n (pc := 5) hx hb dX7_readsAll_5 rfl (lv_at hl 0 rfl) ?_
  refine lv_iconst (v := 1) (pc := 6) hx hb dX7_readsAll_6 (by decide) ?_
  refine pX7_163 (pc := 7) (z := true) C hK hP hS hk1 dX7_readsAll_7 (fun M3 H locs eM3 hP hS => ?_)
  replace h := h M3 eM3
  refine lv_aload_n (pc := 10) hx hb dX7_readsAll_10 rfl (lv_at hl 0 rfl) ?_
  refine lv_iconst (v := 0) (pc := 11) hx hb dX7_readsAll_11 (by decide) ?_
  refine pX7_176 (pc := 12) (v := 0) C hK hP hS hk1 dX7_readsAll_12 (fun M4 H locs eM4 hP hS => ?_)
  replace h := h M4 eM4
  refine lv_aload_n (pc := 15) hx hb dX7_readsAll_15 rfl (lv_at hl 0 rfl) ?_
  refine m_callVV (pc := 16) (y := yX7_readsPart) (κ := 7) (As := []) (rest := []) C hK hP hS hl.1 ⟨Nat.zero_le _, Nat.zero_le _⟩ (c_X7_readsPart h) rfl rfl hk1 (by decide) rfl q_1166 q_1168 q_s70 q_8 q_1169 ⟨rfl, rfl⟩ yd_X7_readsPart ⟨Nat.le_of_ble_eq_true rfl, Nat.le_of_ble_eq_true rfl⟩ (Nat.le_of_ble_eq_true rfl) dX7_readsAll_16 (fun M5 H locs h hP hS => ?_)
  obtain ⟨f, h⟩ := h
  exact L19 f _ _ _ _ _ h hP hS (lv_sub hl [0] rfl)
/-! ForgeHeatsModel.firstError ()I -/
def wp_X7_firstError (n : Nat) (M : Mem) (i : Nat) (P : Int32 → Mem → Prop) : Prop := m_tp n i 7 ∧ (∀ M2 : Mem, M2 = uI M i 0 0 → (wp_X7_readsAll n M2 i (fun M3 => P (M3.1 i 7) M3)))
abbrev rm_X7_firstError : Room := { frames := 4, cells := 0, slots := 0, locals := 90 }
set_option maxHeartbeats 4000000 in
set_option maxRecDepth 100000 in
theorem c_X7_firstError {l : Launch} {D : va_G} {cA : Nat → ClassId} {b n : Nat} {M : Mem} {i : Nat} {P : Int32 → Mem → Prop} (h : wp_X7_firstError n M i P) : m_C l D cA b n n M yX7_firstError cX7_firstError 1 (some .int) rm_X7_firstError 0 0 [.ref (b + i)] (rI P) := by
  refine m_enter (by decide) (Nat.le_of_ble_eq_true rfl) (fun p e s m below meth c C hr hlk hnm hK hP hS ls hl => ?_)
  have hx := C.1
  have hb := C.2.1
  have hl : lv_has ls 1 [(0, .ref (b + i))] := hl
  unfold wp_X7_firstError at h
  refine lv_aload_n (pc := 0) hx hb dX7_firstError_0 rfl (lv_at hl 0 rfl) ?_
  refine lv_iconst (v := 0) (pc := 1) hx hb dX7_firstError_1 (by decide) ?_
  obtain ⟨hk1, h⟩ := h
  refine pX7_25 (pc := 2) (v := 0) C hK hP hS hk1 dX7_firstError_2 (fun M2 H locs eM2 hP hS => ?_)
  replace h := h M2 eM2
  refine lv_aload_n (pc := 5) hx hb dX7_firstError_5 rfl (lv_at hl 0 rfl) ?_
  refine m_callVV (pc := 6) (y := yX7_readsAll) (κ := 7) (As := []) (rest := []) C hK hP hS hl.1 ⟨Nat.zero_le _, Nat.zero_le _⟩ (c_X7_readsAll h) rfl rfl hk1 (by decide) rfl q_1162 q_1164 q_s69 q_8 q_1165 ⟨rfl, rfl⟩ yd_X7_readsAll ⟨Nat.le_of_ble_eq_true rfl, Nat.le_of_ble_eq_true rfl⟩ (Nat.le_of_ble_eq_true rfl) dX7_firstError_6 (fun M3 H locs h hP hS => ?_)
  refine lv_aload_n (pc := 9) hx hb dX7_firstError_9 rfl (lv_at hl 0 rfl) ?_
  refine gX7_160 (pc := 10) C hK hP hk1 dX7_firstError_10 ?_
  exact m_iret (v := M3.1 i 7) (pc := 13) C hr hlk hP hS dX7_firstError_13 h
/-! ForgeHeatsModel.addAll ()I -/
def wpB_X7_addAll_55 (n : Nat) (P : Int32 → Mem → Prop) (R_ : Mem → Nat → Int32 → Prop) (M : Mem) (x0 : Nat) (x1 : Int32) : Prop := m_tp n x0 7 ∧ ((((5 * (M.1 x0 10)) ≤ x1 → ∃ j12 : Nat, M.2.1 x0 1 = some j12 ∧ (m_tp n j12 8 ∧ (vp_in 5 (m_len j12) ∧ (P (M.1 j12 (5 : Int32).toNatClampNeg) M)))) ∧ (¬ (5 * (M.1 x0 10)) ≤ x1 → ∃ j15 : Nat, M.2.1 x0 9 = some j15 ∧ (m_tp n j15 8 ∧ (vp_in x1 (m_len j15) ∧ (∃ j18 : Nat, M.2.1 x0 9 = some j18 ∧ (m_tp n j18 8 ∧ (vp_in (x1 + 1) (m_len j18) ∧ (∃ j21 : Nat, M.2.1 x0 9 = some j21 ∧ (m_tp n j21 8 ∧ (vp_in (x1 + 2) (m_len j21) ∧ (∃ j24 : Nat, M.2.1 x0 9 = some j24 ∧ (m_tp n j24 8 ∧ (vp_in (x1 + 3) (m_len j24) ∧ (∃ j27 : Nat, M.2.1 x0 9 = some j27 ∧ (m_tp n j27 8 ∧ (vp_in (x1 + 4) (m_len j27) ∧ (wp_X7_comes n M x0 (M.1 j15 x1.toNatClampNeg) (M.1 j18 (x1 + 1).toNatClampNeg) (M.1 j21 (x1 + 2).toNatClampNeg) (M.1 j24 (x1 + 3).toNatClampNeg) (M.1 j27 (x1 + 4).toNatClampNeg) (fun M30 => ∀ v32 : Int32, v32 = x1 + 5 → (R_ M30 x0 v32))))))))))))))))))))
def wpL_X7_addAll_55 (n : Nat) (P : Int32 → Mem → Prop) : Nat → Mem → Nat → Int32 → Prop
  | 0 => fun _ _ _ => False
  | f + 1 => fun M x0 x1 => wpB_X7_addAll_55 n P (wpL_X7_addAll_55 n P f) M x0 x1
def wp_X7_addAll (n : Nat) (M : Mem) (i : Nat) (P : Int32 → Mem → Prop) : Prop := m_tp n i 7 ∧ (∀ M2 : Mem, M2 = uI M i 0 0 → (wp_X7_readsAll n M2 i (fun M3 => (((M3.1 i 8 != 0) = true → ∃ j5 : Nat, M3.2.1 i 1 = some j5 ∧ (m_tp n j5 8 ∧ (vp_in 5 (m_len j5) ∧ (((((M3.1 j5 (5 : Int32).toNatClampNeg) + (M3.1 i 10)) ≤ 10 → wp_X7_saves n M3 i (fun M8 => ∀ M10 : Mem, M10 = uI M8 i 6 0 → (∃ f : Nat, wpL_X7_addAll_55 n P f M10 i 0))) ∧ (¬ ((M3.1 j5 (5 : Int32).toNatClampNeg) + (M3.1 i 10)) ≤ 10 → wp_X7_fails n M3 i 2 (fun r34 M33 => P r34 M33))))))) ∧ ((M3.1 i 8 != 0) = false → wp_X7_fails n M3 i 1 (fun r36 M35 => P r36 M35))))))
abbrev rm_X7_addAll : Room := { frames := 4, cells := 0, slots := 0, locals := 90 }
set_option maxHeartbeats 4000000 in
set_option maxRecDepth 100000 in
theorem c_X7_addAll {l : Launch} {D : va_G} {cA : Nat → ClassId} {b n : Nat} {M : Mem} {i : Nat} {P : Int32 → Mem → Prop} (h : wp_X7_addAll n M i P) : m_C l D cA b n n M yX7_addAll cX7_addAll 2 (some .int) rm_X7_addAll 0 0 [.ref (b + i)] (rI P) := by
  refine m_enter (by decide) (Nat.le_of_ble_eq_true rfl) (fun p e s m below meth c C hr hlk hnm hK hP hS ls hl => ?_)
  have hx := C.1
  have hb := C.2.1
  have hl : lv_has ls 2 [(0, .ref (b + i))] := hl
  have L55 : ∀ f : Nat, ∀ (M : Mem) (H : Heap) (locs : List Loc) (ls : Array Slot) (x0 : Nat) (x1 : Int32), wpL_X7_addAll_55 n P f M x0 x1 → m_H D cA b n M H → va_S (m_A b) s.heap H locs → lv_has ls 2 [(0, .ref (b + x0)), (1, .int x1)] → W p l e rm_X7_addAll s m ([.ref (b + i)] : List Value).toArray below meth c H locs 0 0 (MQ below (m_Q D cA b n (rI P)) ([.ref (b + i)] : List Value).toArray s 0 0 (m_A b)) (F0 m 55 ls []) := by
    clear h
    intro f
    induction f with
    | zero => intro M H locs ls x0 x1 h; exact h.elim
    | succ f ih =>
      intro M H locs ls x0 x1 h hP hS hl
      have h : wpB_X7_addAll_55 n P (wpL_X7_addAll_55 n P f) M x0 x1 := h
      unfold wpB_X7_addAll_55 at h
      refine lv_iload_n (pc := 55) hx hb dX7_addAll_55 rfl (lv_at hl 1 rfl) ?_
      refine lv_iconst (v := 5) (pc := 56) hx hb dX7_addAll_56 (by decide) ?_
      refine lv_aload_n (pc := 57) hx hb dX7_addAll_57 rfl (lv_at hl 0 rfl) ?_
      obtain ⟨hk11, h⟩ := h
      refine gX7_176 (pc := 58) C hK hP hk11 dX7_addAll_58 ?_
      refine lv_imul (pc := 61) hx hb dX7_addAll_61 ?_
      refine lv_icmp_ge (tgt := 113) (pc := 62) hx hb dX7_addAll_62 (by decide) (fun c62 => ?_) (fun c62 => ?_)
      · replace h := h.1 c62
        refine lv_aload_n (pc := 113) hx hb dX7_addAll_113 rfl (lv_at hl 0 rfl) ?_
        obtain ⟨j12, hj12, h⟩ := h
        refine gX7_7 (pc := 114) C hK hP hk11 hj12 dX7_addAll_114 ?_
        refine lv_iconst (v := 5) (pc := 117) hx hb dX7_addAll_117 (by decide) ?_
        obtain ⟨hk13, h⟩ := h
        obtain ⟨hi14, h⟩ := h
        refine m_iald (pc := 118) C hK hP hk13 hi14 dX7_addAll_118 ?_
        exact m_iret (v := M.1 j12 (5 : Int32).toNatClampNeg) (pc := 119) C hr hlk hP hS dX7_addAll_119 h
      · replace h := h.2 c62
        refine lv_aload_n (pc := 65) hx hb dX7_addAll_65 rfl (lv_at hl 0 rfl) ?_
        refine lv_aload_n (pc := 66) hx hb dX7_addAll_66 rfl (lv_at hl 0 rfl) ?_
        obtain ⟨j15, hj15, h⟩ := h
        refine gX7_22 (pc := 67) C hK hP hk11 hj15 dX7_addAll_67 ?_
        refine lv_iload_n (pc := 70) hx hb dX7_addAll_70 rfl (lv_at hl 1 rfl) ?_
        obtain ⟨hk16, h⟩ := h
        obtain ⟨hi17, h⟩ := h
        refine m_iald (pc := 71) C hK hP hk16 hi17 dX7_addAll_71 ?_
        refine lv_aload_n (pc := 72) hx hb dX7_addAll_72 rfl (lv_at hl 0 rfl) ?_
        obtain ⟨j18, hj18, h⟩ := h
        refine gX7_22 (pc := 73) C hK hP hk11 hj18 dX7_addAll_73 ?_
        refine lv_iload_n (pc := 76) hx hb dX7_addAll_76 rfl (lv_at hl 1 rfl) ?_
        refine lv_iconst (v := 1) (pc := 77) hx hb dX7_addAll_77 (by decide) ?_
        refine lv_iadd (pc := 78) hx hb dX7_addAll_78 ?_
        obtain ⟨hk19, h⟩ := h
        obtain ⟨hi20, h⟩ := h
        refine m_iald (pc := 79) C hK hP hk19 hi20 dX7_addAll_79 ?_
        refine lv_aload_n (pc := 80) hx hb dX7_addAll_80 rfl (lv_at hl 0 rfl) ?_
        obtain ⟨j21, hj21, h⟩ := h
        refine gX7_22 (pc := 81) C hK hP hk11 hj21 dX7_addAll_81 ?_
        refine lv_iload_n (pc := 84) hx hb dX7_addAll_84 rfl (lv_at hl 1 rfl) ?_
        refine lv_iconst (v := 2) (pc := 85) hx hb dX7_addAll_85 (by decide) ?_
        refine lv_iadd (pc := 86) hx hb dX7_addAll_86 ?_
        obtain ⟨hk22, h⟩ := h
        obtain ⟨hi23, h⟩ := h
        refine m_iald (pc := 87) C hK hP hk22 hi23 dX7_addAll_87 ?_
        refine lv_aload_n (pc := 88) hx hb dX7_addAll_88 rfl (lv_at hl 0 rfl) ?_
        obtain ⟨j24, hj24, h⟩ := h
        refine gX7_22 (pc := 89) C hK hP hk11 hj24 dX7_addAll_89 ?_
        refine lv_iload_n (pc := 92) hx hb dX7_addAll_92 rfl (lv_at hl 1 rfl) ?_
        refine lv_iconst (v := 3) (pc := 93) hx hb dX7_addAll_93 (by decide) ?_
        refine lv_iadd (pc := 94) hx hb dX7_addAll_94 ?_
        obtain ⟨hk25, h⟩ := h
        obtain ⟨hi26, h⟩ := h
        refine m_iald (pc := 95) C hK hP hk25 hi26 dX7_addAll_95 ?_
        refine lv_aload_n (pc := 96) hx hb dX7_addAll_96 rfl (lv_at hl 0 rfl) ?_
        obtain ⟨j27, hj27, h⟩ := h
        refine gX7_22 (pc := 97) C hK hP hk11 hj27 dX7_addAll_97 ?_
        refine lv_iload_n (pc := 100) hx hb dX7_addAll_100 rfl (lv_at hl 1 rfl) ?_
        refine lv_iconst (v := 4) (pc := 101) hx hb dX7_addAll_101 (by decide) ?_
        refine lv_iadd (pc := 102) hx hb dX7_addAll_102 ?_
        obtain ⟨hk28, h⟩ := h
        obtain ⟨hi29, h⟩ := h
        refine m_iald (pc := 103) C hK hP hk28 hi29 dX7_addAll_103 ?_
        refine m_callVV (pc := 104) (y := yX7_comes) (κ := 7) (As := [.int (M.1 j15 x1.toNatClampNeg), .int (M.1 j18 (x1 + 1).toNatClampNeg), .int (M.1 j21 (x1 + 2).toNatClampNeg), .int (M.1 j24 (x1 + 3).toNatClampNeg), .int (M.1 j27 (x1 + 4).toNatClampNeg)]) (rest := []) C hK hP hS hl.1 ⟨Nat.zero_le _, Nat.zero_le _⟩ (c_X7_comes h) rfl rfl hk11 (by decide) rfl q_1019 q_1021 q_s41 q_8 q_1022 ⟨rfl, rfl⟩ yd_X7_comes ⟨Nat.le_of_ble_eq_true rfl, Nat.le_of_ble_eq_true rfl⟩ (Nat.le_of_ble_eq_true rfl) dX7_addAll_104 (fun M30 H locs h hP hS => ?_)
        obtain ⟨v32, ev32⟩ : ∃ y : Int32, y = x1 + 5 := ⟨_, rfl⟩
        replace h := h v32 ev32
        refine lv_iinc (v := v32) (lv' := [(1, .int v32), (0, .ref (b + x0))]) (pc := 107) hx hb dX7_addAll_107 hl (k := 1) rfl (by rw [ev32]; rfl) (by decide) rfl (fun ls hl => ?_)
        refine lv_goto (tgt := 55) (pc := 110) hx hb dX7_addAll_110 (by decide) ?_
        exact ih _ _ _ _ _ _ h hP hS (lv_sub hl [1, 0] rfl)
  unfold wp_X7_addAll at h
  refine lv_aload_n (pc := 0) hx hb dX7_addAll_0 rfl (lv_at hl 0 rfl) ?_
  refine lv_iconst (v := 0) (pc := 1) hx hb dX7_addAll_1 (by decide) ?_
  obtain ⟨hk1, h⟩ := h
  refine pX7_25 (pc := 2) (v := 0) C hK hP hS hk1 dX7_addAll_2 (fun M2 H locs eM2 hP hS => ?_)
  replace h := h M2 eM2
  refine lv_aload_n (pc := 5) hx hb dX7_addAll_5 rfl (lv_at hl 0 rfl) ?_
  refine m_callVV (pc := 6) (y := yX7_readsAll) (κ := 7) (As := []) (rest := []) C hK hP hS hl.1 ⟨Nat.zero_le _, Nat.zero_le _⟩ (c_X7_readsAll h) rfl rfl hk1 (by decide) rfl q_1162 q_1164 q_s69 q_8 q_1165 ⟨rfl, rfl⟩ yd_X7_readsAll ⟨Nat.le_of_ble_eq_true rfl, Nat.le_of_ble_eq_true rfl⟩ (Nat.le_of_ble_eq_true rfl) dX7_addAll_6 (fun M3 H locs h hP hS => ?_)
  refine lv_aload_n (pc := 9) hx hb dX7_addAll_9 rfl (lv_at hl 0 rfl) ?_
  refine gX7_163 (pc := 10) C hK hP hk1 dX7_addAll_10 ?_
  refine lv_if_ne (tgt := 22) (pc := 13) hx hb dX7_addAll_13 (by decide) (fun c13 => ?_) (fun c13 => ?_)
  · replace h := h.1 (bZ1 c13)
    refine lv_aload_n (pc := 22) hx hb dX7_addAll_22 rfl (lv_at hl 0 rfl) ?_
    obtain ⟨j5, hj5, h⟩ := h
    refine gX7_7 (pc := 23) C hK hP hk1 hj5 dX7_addAll_23 ?_
    refine lv_iconst (v := 5) (pc := 26) hx hb dX7_addAll_26 (by decide) ?_
    obtain ⟨hk6, h⟩ := h
    obtain ⟨hi7, h⟩ := h
    refine m_iald (pc := 27) C hK hP hk6 hi7 dX7_addAll_27 ?_
    refine lv_aload_n (pc := 28) hx hb dX7_addAll_28 rfl (lv_at hl 0 rfl) ?_
    refine gX7_176 (pc := 29) C hK hP hk1 dX7_addAll_29 ?_
    refine lv_iadd (pc := 32) hx hb dX7_addAll_32 ?_
    refine lv_bipush (v := 10) (pc := 33) hx hb dX7_addAll_33 (by decide) ?_
    refine lv_icmp_le (tgt := 44) (pc := 35) hx hb dX7_addAll_35 (by decide) (fun c35 => ?_) (fun c35 => ?_)
    · replace h := h.1 c35
      refine lv_aload_n (pc := 44) hx hb dX7_addAll_44 rfl (lv_at hl 0 rfl) ?_
      refine m_callVV (pc := 45) (y := yX7_saves) (κ := 7) (As := []) (rest := []) C hK hP hS hl.1 ⟨Nat.zero_le _, Nat.zero_le _⟩ (c_X7_saves h) rfl rfl hk1 (by decide) rfl q_984 q_986 q_s37 q_8 q_987 ⟨rfl, rfl⟩ yd_X7_saves ⟨Nat.le_of_ble_eq_true rfl, Nat.le_of_ble_eq_true rfl⟩ (Nat.le_of_ble_eq_true rfl) dX7_addAll_45 (fun M8 H locs h hP hS => ?_)
      refine lv_aload_n (pc := 48) hx hb dX7_addAll_48 rfl (lv_at hl 0 rfl) ?_
      refine lv_iconst (v := 0) (pc := 49) hx hb dX7_addAll_49 (by decide) ?_
      refine pX7_157 (pc := 50) (v := 0) C hK hP hS hk1 dX7_addAll_50 (fun M10 H locs eM10 hP hS => ?_)
      replace h := h M10 eM10
      refine lv_iconst (v := 0) (pc := 53) hx hb dX7_addAll_53 (by decide) ?_
      refine lv_istore_n (lv' := [(1, .int 0), (0, .ref (b + i))]) (pc := 54) hx hb dX7_addAll_54 rfl hl (by decide) rfl (fun ls hl => ?_)
      obtain ⟨f, h⟩ := h
      exact L55 f _ _ _ _ _ _ h hP hS (lv_sub hl [1, 0] rfl)
    · replace h := h.2 c35
      refine lv_aload_n (pc := 38) hx hb dX7_addAll_38 rfl (lv_at hl 0 rfl) ?_
      refine lv_iconst (v := 2) (pc := 39) hx hb dX7_addAll_39 (by decide) ?_
      refine m_callVI (pc := 40) (y := yX7_fails) (κ := 7) (As := [.int 2]) (rest := []) C hK hP hS hl.1 ⟨Nat.zero_le _, Nat.zero_le _⟩ (c_X7_fails h) rfl rfl hk1 (by decide) rfl q_976 q_978 q_s35 q_8 q_979 ⟨rfl, rfl⟩ yd_X7_fails ⟨Nat.le_of_ble_eq_true rfl, Nat.le_of_ble_eq_true rfl⟩ (Nat.le_of_ble_eq_true rfl) dX7_addAll_40 (fun r34 M33 H locs h hP hS => ?_)
      exact m_iret (v := r34) (pc := 43) C hr hlk hP hS dX7_addAll_43 h
  · replace h := h.2 (bZ0 c13)
    refine lv_aload_n (pc := 16) hx hb dX7_addAll_16 rfl (lv_at hl 0 rfl) ?_
    refine lv_iconst (v := 1) (pc := 17) hx hb dX7_addAll_17 (by decide) ?_
    refine m_callVI (pc := 18) (y := yX7_fails) (κ := 7) (As := [.int 1]) (rest := []) C hK hP hS hl.1 ⟨Nat.zero_le _, Nat.zero_le _⟩ (c_X7_fails h) rfl rfl hk1 (by decide) rfl q_976 q_978 q_s35 q_8 q_979 ⟨rfl, rfl⟩ yd_X7_fails ⟨Nat.le_of_ble_eq_true rfl, Nat.le_of_ble_eq_true rfl⟩ (Nat.le_of_ble_eq_true rfl) dX7_addAll_18 (fun r36 M35 H locs h hP hS => ?_)
    exact m_iret (v := r36) (pc := 21) C hr hlk hP hS dX7_addAll_21 h
/-! ForgeHeatsModel.undo ()I -/
def wpB_X7_undo_30 (n : Nat) (P : Int32 → Mem → Prop) (R_ : Mem → Nat → Int32 → Prop) (M : Mem) (x0 : Nat) (x1 : Int32) : Prop := ((158 ≤ x1 → m_tp n x0 7 ∧ (P (M.1 x0 4) M)) ∧ (¬ 158 ≤ x1 → m_tp n x0 7 ∧ (∃ j6 : Nat, M.2.1 x0 1 = some j6 ∧ (∃ j7 : Nat, M.2.1 x0 3 = some j7 ∧ (m_tp n j7 8 ∧ (vp_in ((158 * (M.1 x0 4)) + x1) (m_len j7) ∧ (m_tp n j6 8 ∧ (vp_in x1 (m_len j6) ∧ (∀ M12 : Mem, M12 = uI M j6 x1.toNatClampNeg (M.1 j7 ((158 * (M.1 x0 4)) + x1).toNatClampNeg) → (∀ v13 : Int32, v13 = x1 + 1 → (R_ M12 x0 v13)))))))))))
def wpL_X7_undo_30 (n : Nat) (P : Int32 → Mem → Prop) : Nat → Mem → Nat → Int32 → Prop
  | 0 => fun _ _ _ => False
  | f + 1 => fun M x0 x1 => wpB_X7_undo_30 n P (wpL_X7_undo_30 n P f) M x0 x1
def wp_X7_undo (n : Nat) (M : Mem) (i : Nat) (P : Int32 → Mem → Prop) : Prop := m_tp n i 7 ∧ (∀ M2 : Mem, M2 = uI M i 0 0 → (((¬ (M2.1 i 4) = 0 → ∀ M3 : Mem, M3 = uI M2 i 4 ((M2.1 i 4) - 1) → (∃ f : Nat, wpL_X7_undo_30 n P f M3 i 0)) ∧ ((M2.1 i 4) = 0 → wp_X7_fails n M2 i 1 (fun r15 M14 => P r15 M14)))))
abbrev rm_X7_undo : Room := { frames := 1, cells := 0, slots := 0, locals := 21 }
set_option maxHeartbeats 4000000 in
set_option maxRecDepth 100000 in
theorem c_X7_undo {l : Launch} {D : va_G} {cA : Nat → ClassId} {b n : Nat} {M : Mem} {i : Nat} {P : Int32 → Mem → Prop} (h : wp_X7_undo n M i P) : m_C l D cA b n n M yX7_undo cX7_undo 2 (some .int) rm_X7_undo 0 0 [.ref (b + i)] (rI P) := by
  refine m_enter (by decide) (Nat.le_of_ble_eq_true rfl) (fun p e s m below meth c C hr hlk hnm hK hP hS ls hl => ?_)
  have hx := C.1
  have hb := C.2.1
  have hl : lv_has ls 2 [(0, .ref (b + i))] := hl
  have L30 : ∀ f : Nat, ∀ (M : Mem) (H : Heap) (locs : List Loc) (ls : Array Slot) (x0 : Nat) (x1 : Int32), wpL_X7_undo_30 n P f M x0 x1 → m_H D cA b n M H → va_S (m_A b) s.heap H locs → lv_has ls 2 [(0, .ref (b + x0)), (1, .int x1)] → W p l e rm_X7_undo s m ([.ref (b + i)] : List Value).toArray below meth c H locs 0 0 (MQ below (m_Q D cA b n (rI P)) ([.ref (b + i)] : List Value).toArray s 0 0 (m_A b)) (F0 m 30 ls []) := by
    clear h
    intro f
    induction f with
    | zero => intro M H locs ls x0 x1 h; exact h.elim
    | succ f ih =>
      intro M H locs ls x0 x1 h hP hS hl
      have h : wpB_X7_undo_30 n P (wpL_X7_undo_30 n P f) M x0 x1 := h
      unfold wpB_X7_undo_30 at h
      refine lv_iload_n (pc := 30) hx hb dX7_undo_30 rfl (lv_at hl 1 rfl) ?_
      refine lv_sipush (v := 158) (pc := 31) hx hb dX7_undo_31 (by decide) ?_
      refine lv_icmp_ge (tgt := 64) (pc := 34) hx hb dX7_undo_34 (by decide) (fun c34 => ?_) (fun c34 => ?_)
      · replace h := h.1 c34
        refine lv_aload_n (pc := 64) hx hb dX7_undo_64 rfl (lv_at hl 0 rfl) ?_
        obtain ⟨hk4, h⟩ := h
        refine gX7_33 (pc := 65) C hK hP hk4 dX7_undo_65 ?_
        exact m_iret (v := M.1 x0 4) (pc := 68) C hr hlk hP hS dX7_undo_68 h
      · replace h := h.2 c34
        refine lv_aload_n (pc := 37) hx hb dX7_undo_37 rfl (lv_at hl 0 rfl) ?_
        obtain ⟨hk5, h⟩ := h
        obtain ⟨j6, hj6, h⟩ := h
        refine gX7_7 (pc := 38) C hK hP hk5 hj6 dX7_undo_38 ?_
        refine lv_iload_n (pc := 41) hx hb dX7_undo_41 rfl (lv_at hl 1 rfl) ?_
        refine lv_aload_n (pc := 42) hx hb dX7_undo_42 rfl (lv_at hl 0 rfl) ?_
        obtain ⟨j7, hj7, h⟩ := h
        refine gX7_16 (pc := 43) C hK hP hk5 hj7 dX7_undo_43 ?_
        refine lv_sipush (v := 158) (pc := 46) hx hb dX7_undo_46 (by decide) ?_
        refine lv_aload_n (pc := 49) hx hb dX7_undo_49 rfl (lv_at hl 0 rfl) ?_
        refine gX7_33 (pc := 50) C hK hP hk5 dX7_undo_50 ?_
        refine lv_imul (pc := 53) hx hb dX7_undo_53 ?_
        refine lv_iload_n (pc := 54) hx hb dX7_undo_54 rfl (lv_at hl 1 rfl) ?_
        refine lv_iadd (pc := 55) hx hb dX7_undo_55 ?_
        obtain ⟨hk8, h⟩ := h
        obtain ⟨hi9, h⟩ := h
        refine m_iald (pc := 56) C hK hP hk8 hi9 dX7_undo_56 ?_
        obtain ⟨hk10, h⟩ := h
        obtain ⟨hi11, h⟩ := h
        refine m_iast (pc := 57) C hK hP hS hk10 hi11 dX7_undo_57 (fun M12 H locs eM12 hP hS => ?_)
        replace h := h M12 eM12
        obtain ⟨v13, ev13⟩ : ∃ y : Int32, y = x1 + 1 := ⟨_, rfl⟩
        replace h := h v13 ev13
        refine lv_iinc (v := v13) (lv' := [(1, .int v13), (0, .ref (b + x0))]) (pc := 58) hx hb dX7_undo_58 hl (k := 1) rfl (by rw [ev13]; rfl) (by decide) rfl (fun ls hl => ?_)
        refine lv_goto (tgt := 30) (pc := 61) hx hb dX7_undo_61 (by decide) ?_
        exact ih _ _ _ _ _ _ h hP hS (lv_sub hl [1, 0] rfl)
  unfold wp_X7_undo at h
  refine lv_aload_n (pc := 0) hx hb dX7_undo_0 rfl (lv_at hl 0 rfl) ?_
  refine lv_iconst (v := 0) (pc := 1) hx hb dX7_undo_1 (by decide) ?_
  obtain ⟨hk1, h⟩ := h
  refine pX7_25 (pc := 2) (v := 0) C hK hP hS hk1 dX7_undo_2 (fun M2 H locs eM2 hP hS => ?_)
  replace h := h M2 eM2
  refine lv_aload_n (pc := 5) hx hb dX7_undo_5 rfl (lv_at hl 0 rfl) ?_
  refine gX7_33 (pc := 6) C hK hP hk1 dX7_undo_6 ?_
  refine lv_if_ne (tgt := 18) (pc := 9) hx hb dX7_undo_9 (by decide) (fun c9 => ?_) (fun c9 => ?_)
  · replace h := h.1 c9
    refine lv_aload_n (pc := 18) hx hb dX7_undo_18 rfl (lv_at hl 0 rfl) ?_
    refine lv_dup (pc := 19) hx hb dX7_undo_19 rfl ?_
    refine gX7_33 (pc := 20) C hK hP hk1 dX7_undo_20 ?_
    refine lv_iconst (v := 1) (pc := 23) hx hb dX7_undo_23 (by decide) ?_
    refine lv_isub (pc := 24) hx hb dX7_undo_24 ?_
    refine pX7_33 (pc := 25) (v := (M2.1 i 4) - 1) C hK hP hS hk1 dX7_undo_25 (fun M3 H locs eM3 hP hS => ?_)
    replace h := h M3 eM3
    refine lv_iconst (v := 0) (pc := 28) hx hb dX7_undo_28 (by decide) ?_
    refine lv_istore_n (lv' := [(1, .int 0), (0, .ref (b + i))]) (pc := 29) hx hb dX7_undo_29 rfl hl (by decide) rfl (fun ls hl => ?_)
    obtain ⟨f, h⟩ := h
    exact L30 f _ _ _ _ _ _ h hP hS (lv_sub hl [1, 0] rfl)
  · replace h := h.2 c9
    refine lv_aload_n (pc := 12) hx hb dX7_undo_12 rfl (lv_at hl 0 rfl) ?_
    refine lv_iconst (v := 1) (pc := 13) hx hb dX7_undo_13 (by decide) ?_
    refine m_callVI (pc := 14) (y := yX7_fails) (κ := 7) (As := [.int 1]) (rest := []) C hK hP hS hl.1 ⟨Nat.zero_le _, Nat.zero_le _⟩ (c_X7_fails h) rfl rfl hk1 (by decide) rfl q_976 q_978 q_s35 q_8 q_979 ⟨rfl, rfl⟩ yd_X7_fails ⟨Nat.le_of_ble_eq_true rfl, Nat.le_of_ble_eq_true rfl⟩ (Nat.le_of_ble_eq_true rfl) dX7_undo_14 (fun r15 M14 H locs h hP hS => ?_)
    exact m_iret (v := r15) (pc := 17) C hr hlk hP hS dX7_undo_17 h
/-! ForgeHeatsModel.billetsWith (I)I -/
def wpB_X7_billetsWith_4 (n : Nat) (P : Int32 → Mem → Prop) (R_ : Mem → Nat → Int32 → Int32 → Int32 → Prop) (M : Mem) (x0 : Nat) (x1 : Int32) (x2 : Int32) (x3 : Int32) : Prop := ((6 < x3 → P x2 M) ∧ (¬ 6 < x3 → m_tp n x0 7 ∧ (wp_X7_jobOn n M x0 x3 (fun r3 M1 => ((r3 = (-1) → ∀ v4 : Int32, v4 = (x2 + 0) → (∀ v5 : Int32, v5 = x3 + 1 → (R_ M1 x0 x1 v4 v5))) ∧ (¬ r3 = (-1) → wp_X7_jobOn n M1 x0 x3 (fun r7 M6 => wp_X7_job0 n M6 x0 r7 2 (fun r9 M8 => ∀ v10 : Int32, v10 = (x2 + (bI (if ¬ r9 = x1 then false else true))) → (∀ v11 : Int32, v11 = x3 + 1 → (R_ M8 x0 x1 v10 v11))))))))))
def wpL_X7_billetsWith_4 (n : Nat) (P : Int32 → Mem → Prop) : Nat → Mem → Nat → Int32 → Int32 → Int32 → Prop
  | 0 => fun _ _ _ _ _ => False
  | f + 1 => fun M x0 x1 x2 x3 => wpB_X7_billetsWith_4 n P (wpL_X7_billetsWith_4 n P f) M x0 x1 x2 x3
def wp_X7_billetsWith (n : Nat) (M : Mem) (i : Nat) (p1 : Int32) (P : Int32 → Mem → Prop) : Prop := ∃ f : Nat, wpL_X7_billetsWith_4 n P f M i p1 0 0
abbrev rm_X7_billetsWith : Room := { frames := 3, cells := 0, slots := 0, locals := 65 }
set_option maxHeartbeats 4000000 in
set_option maxRecDepth 100000 in
theorem c_X7_billetsWith {l : Launch} {D : va_G} {cA : Nat → ClassId} {b n : Nat} {M : Mem} {i : Nat} {p1 : Int32} {P : Int32 → Mem → Prop} (h : wp_X7_billetsWith n M i p1 P) : m_C l D cA b n n M yX7_billetsWith cX7_billetsWith 4 (some .int) rm_X7_billetsWith 0 0 [.ref (b + i), .int p1] (rI P) := by
  refine m_enter (by decide) (Nat.le_of_ble_eq_true rfl) (fun p e s m below meth c C hr hlk hnm hK hP hS ls hl => ?_)
  have hx := C.1
  have hb := C.2.1
  have hl : lv_has ls 4 [(0, .ref (b + i)), (1, .int p1)] := hl
  have L4 : ∀ f : Nat, ∀ (M : Mem) (H : Heap) (locs : List Loc) (ls : Array Slot) (x0 : Nat) (x1 : Int32) (x2 : Int32) (x3 : Int32), wpL_X7_billetsWith_4 n P f M x0 x1 x2 x3 → m_H D cA b n M H → va_S (m_A b) s.heap H locs → lv_has ls 4 [(0, .ref (b + x0)), (1, .int x1), (2, .int x2), (3, .int x3)] → W p l e rm_X7_billetsWith s m ([.ref (b + i), .int p1] : List Value).toArray below meth c H locs 0 0 (MQ below (m_Q D cA b n (rI P)) ([.ref (b + i), .int p1] : List Value).toArray s 0 0 (m_A b)) (F0 m 4 ls []) := by
    clear h
    intro f
    induction f with
    | zero => intro M H locs ls x0 x1 x2 x3 h; exact h.elim
    | succ f ih =>
      intro M H locs ls x0 x1 x2 x3 h hP hS hl
      have h : wpB_X7_billetsWith_4 n P (wpL_X7_billetsWith_4 n P f) M x0 x1 x2 x3 := h
      unfold wpB_X7_billetsWith_4 at h
      refine lv_iload_n (pc := 4) hx hb dX7_billetsWith_4 rfl (lv_at hl 3 rfl) ?_
      refine lv_bipush (v := 6) (pc := 5) hx hb dX7_billetsWith_5 (by decide) ?_
      refine lv_icmp_gt (tgt := 47) (pc := 7) hx hb dX7_billetsWith_7 (by decide) (fun c7 => ?_) (fun c7 => ?_)
      · replace h := h.1 c7
        refine lv_iload_n (pc := 47) hx hb dX7_billetsWith_47 rfl (lv_at hl 2 rfl) ?_
        exact m_iret (v := x2) (pc := 48) C hr hlk hP hS dX7_billetsWith_48 h
      · replace h := h.2 c7
        refine lv_iload_n (pc := 10) hx hb dX7_billetsWith_10 rfl (lv_at hl 2 rfl) ?_
        refine lv_aload_n (pc := 11) hx hb dX7_billetsWith_11 rfl (lv_at hl 0 rfl) ?_
        refine lv_iload_n (pc := 12) hx hb dX7_billetsWith_12 rfl (lv_at hl 3 rfl) ?_
        obtain ⟨hk2, h⟩ := h
        refine m_callVI (pc := 13) (y := yX7_jobOn) (κ := 7) (As := [.int x3]) (rest := [.int x2]) C hK hP hS hl.1 ⟨Nat.zero_le _, Nat.zero_le _⟩ (c_X7_jobOn h) rfl rfl hk2 (by decide) rfl q_1035 q_1037 q_s44 q_8 q_1038 ⟨rfl, rfl⟩ yd_X7_jobOn ⟨Nat.le_of_ble_eq_true rfl, Nat.le_of_ble_eq_true rfl⟩ (Nat.le_of_ble_eq_true rfl) dX7_billetsWith_13 (fun r3 M1 H locs h hP hS => ?_)
        refine lv_iconst (v := -1) (pc := 16) hx hb dX7_billetsWith_16 (by decide) ?_
        refine lv_icmp_eq (tgt := 38) (pc := 17) hx hb dX7_billetsWith_17 (by decide) (fun c17 => ?_) (fun c17 => ?_)
        · replace h := h.1 c17
          refine lv_iconst (v := 0) (pc := 38) hx hb dX7_billetsWith_38 (by decide) ?_
          refine lv_iadd (pc := 39) hx hb dX7_billetsWith_39 ?_
          refine lv_topi (fun v4 ev4 => ?_)
          replace h := h v4 ev4
          refine lv_istore_n (lv' := [(2, .int v4), (0, .ref (b + x0)), (1, .int x1), (3, .int x3)]) (pc := 40) hx hb dX7_billetsWith_40 rfl hl (by decide) rfl (fun ls hl => ?_)
          obtain ⟨v5, ev5⟩ : ∃ y : Int32, y = x3 + 1 := ⟨_, rfl⟩
          replace h := h v5 ev5
          refine lv_iinc (v := v5) (lv' := [(3, .int v5), (2, .int v4), (0, .ref (b + x0)), (1, .int x1)]) (pc := 41) hx hb dX7_billetsWith_41 hl (k := 3) rfl (by rw [ev5]; rfl) (by decide) rfl (fun ls hl => ?_)
          refine lv_goto (tgt := 4) (pc := 44) hx hb dX7_billetsWith_44 (by decide) ?_
          exact ih _ _ _ _ _ _ _ _ h hP hS (lv_sub hl [2, 3, 1, 0] rfl)
        · replace h := h.2 c17
          refine lv_aload_n (pc := 20) hx hb dX7_billetsWith_20 rfl (lv_at hl 0 rfl) ?_
          refine lv_aload_n (pc := 21) hx hb dX7_billetsWith_21 rfl (lv_at hl 0 rfl) ?_
          refine lv_iload_n (pc := 22) hx hb dX7_billetsWith_22 rfl (lv_at hl 3 rfl) ?_
          refine m_callVI (pc := 23) (y := yX7_jobOn) (κ := 7) (As := [.int x3]) (rest := [.ref (b + x0), .int x2]) C hK hP hS hl.1 ⟨Nat.zero_le _, Nat.zero_le _⟩ (c_X7_jobOn h) rfl rfl hk2 (by decide) rfl q_1035 q_1037 q_s44 q_8 q_1038 ⟨rfl, rfl⟩ yd_X7_jobOn ⟨Nat.le_of_ble_eq_true rfl, Nat.le_of_ble_eq_true rfl⟩ (Nat.le_of_ble_eq_true rfl) dX7_billetsWith_23 (fun r7 M6 H locs h hP hS => ?_)
          refine lv_iconst (v := 2) (pc := 26) hx hb dX7_billetsWith_26 (by decide) ?_
          refine m_callVI (pc := 27) (y := yX7_job0) (κ := 7) (As := [.int r7, .int 2]) (rest := [.int x2]) C hK hP hS hl.1 ⟨Nat.zero_le _, Nat.zero_le _⟩ (c_X7_job0 h) rfl rfl hk2 (by decide) rfl q_1031 q_1033 q_s43 q_8 q_1034 ⟨rfl, rfl⟩ yd_X7_job0 ⟨Nat.le_of_ble_eq_true rfl, Nat.le_of_ble_eq_true rfl⟩ (Nat.le_of_ble_eq_true rfl) dX7_billetsWith_27 (fun r9 M8 H locs h hP hS => ?_)
          refine lv_iload_n (pc := 30) hx hb dX7_billetsWith_30 rfl (lv_at hl 1 rfl) ?_
          refine m_joinZ (z := if ¬ r9 = x1 then false else true) (jp := 39) (rest := [.int x2]) ?_ (fun hJ => ?_)
          rotate_left
          · skip
            refine lv_icmp_ne (tgt := 38) (pc := 31) hx hb dX7_billetsWith_31 (by decide) (fun c31 => ?_) (fun c31 => ?_)
            · skip
              refine lv_iconst (v := 0) (pc := 38) hx hb dX7_billetsWith_38 (by decide) ?_
              exact hJ _ false rfl (by rw [if_pos c31])
            · skip
              refine lv_iconst (v := 1) (pc := 34) hx hb dX7_billetsWith_34 (by decide) ?_
              refine lv_goto (tgt := 39) (pc := 35) hx hb dX7_billetsWith_35 (by decide) ?_
              exact hJ _ true rfl (by rw [if_neg (fun hn => hn c31)])
          refine lv_iadd (pc := 39) hx hb dX7_billetsWith_39 ?_
          refine lv_topi (fun v10 ev10 => ?_)
          replace h := h v10 ev10
          refine lv_istore_n (lv' := [(2, .int v10), (0, .ref (b + x0)), (1, .int x1), (3, .int x3)]) (pc := 40) hx hb dX7_billetsWith_40 rfl hl (by decide) rfl (fun ls hl => ?_)
          obtain ⟨v11, ev11⟩ : ∃ y : Int32, y = x3 + 1 := ⟨_, rfl⟩
          replace h := h v11 ev11
          refine lv_iinc (v := v11) (lv' := [(3, .int v11), (2, .int v10), (0, .ref (b + x0)), (1, .int x1)]) (pc := 41) hx hb dX7_billetsWith_41 hl (k := 3) rfl (by rw [ev11]; rfl) (by decide) rfl (fun ls hl => ?_)
          refine lv_goto (tgt := 4) (pc := 44) hx hb dX7_billetsWith_44 (by decide) ?_
          exact ih _ _ _ _ _ _ _ _ h hP hS (lv_sub hl [2, 3, 1, 0] rfl)
  unfold wp_X7_billetsWith at h
  refine lv_iconst (v := 0) (pc := 0) hx hb dX7_billetsWith_0 (by decide) ?_
  refine lv_istore_n (lv' := [(2, .int 0), (0, .ref (b + i)), (1, .int p1)]) (pc := 1) hx hb dX7_billetsWith_1 rfl hl (by decide) rfl (fun ls hl => ?_)
  refine lv_iconst (v := 0) (pc := 2) hx hb dX7_billetsWith_2 (by decide) ?_
  refine lv_istore_n (lv' := [(3, .int 0), (2, .int 0), (0, .ref (b + i)), (1, .int p1)]) (pc := 3) hx hb dX7_billetsWith_3 rfl hl (by decide) rfl (fun ls hl => ?_)
  obtain ⟨f, h⟩ := h
  exact L4 f _ _ _ _ _ _ _ _ h hP hS (lv_sub hl [2, 3, 1, 0] rfl)
/-! ForgeHeatsModel.lackedWith (I)I -/
def wpB_X7_lackedWith_4 (n : Nat) (P : Int32 → Mem → Prop) (R_ : Mem → Nat → Int32 → Int32 → Int32 → Prop) (M : Mem) (x0 : Nat) (x1 : Int32) (x2 : Int32) (x3 : Int32) : Prop := m_tp n x0 7 ∧ (∃ j2 : Nat, M.2.1 x0 1 = some j2 ∧ (m_tp n j2 8 ∧ (vp_in 5 (m_len j2) ∧ ((((M.1 j2 (5 : Int32).toNatClampNeg) ≤ x3 → P x2 M) ∧ (¬ (M.1 j2 (5 : Int32).toNatClampNeg) ≤ x3 → wp_X7_job0 n M x0 x3 2 (fun r6 M5 => ((¬ r6 = x1 → ∀ v7 : Int32, v7 = (x2 + 0) → (∀ v8 : Int32, v8 = x3 + 1 → (R_ M5 x0 x1 v7 v8))) ∧ (r6 = x1 → wp_X7_lacks n M5 x0 x3 (fun r10 M9 => ∀ v11 : Int32, v11 = (x2 + r10) → (∀ v12 : Int32, v12 = x3 + 1 → (R_ M9 x0 x1 v11 v12))))))))))))
def wpL_X7_lackedWith_4 (n : Nat) (P : Int32 → Mem → Prop) : Nat → Mem → Nat → Int32 → Int32 → Int32 → Prop
  | 0 => fun _ _ _ _ _ => False
  | f + 1 => fun M x0 x1 x2 x3 => wpB_X7_lackedWith_4 n P (wpL_X7_lackedWith_4 n P f) M x0 x1 x2 x3
def wp_X7_lackedWith (n : Nat) (M : Mem) (i : Nat) (p1 : Int32) (P : Int32 → Mem → Prop) : Prop := ∃ f : Nat, wpL_X7_lackedWith_4 n P f M i p1 0 0
abbrev rm_X7_lackedWith : Room := { frames := 5, cells := 0, slots := 0, locals := 111 }
set_option maxHeartbeats 4000000 in
set_option maxRecDepth 100000 in
theorem c_X7_lackedWith {l : Launch} {D : va_G} {cA : Nat → ClassId} {b n : Nat} {M : Mem} {i : Nat} {p1 : Int32} {P : Int32 → Mem → Prop} (h : wp_X7_lackedWith n M i p1 P) : m_C l D cA b n n M yX7_lackedWith cX7_lackedWith 4 (some .int) rm_X7_lackedWith 0 0 [.ref (b + i), .int p1] (rI P) := by
  refine m_enter (by decide) (Nat.le_of_ble_eq_true rfl) (fun p e s m below meth c C hr hlk hnm hK hP hS ls hl => ?_)
  have hx := C.1
  have hb := C.2.1
  have hl : lv_has ls 4 [(0, .ref (b + i)), (1, .int p1)] := hl
  have L4 : ∀ f : Nat, ∀ (M : Mem) (H : Heap) (locs : List Loc) (ls : Array Slot) (x0 : Nat) (x1 : Int32) (x2 : Int32) (x3 : Int32), wpL_X7_lackedWith_4 n P f M x0 x1 x2 x3 → m_H D cA b n M H → va_S (m_A b) s.heap H locs → lv_has ls 4 [(0, .ref (b + x0)), (1, .int x1), (2, .int x2), (3, .int x3)] → W p l e rm_X7_lackedWith s m ([.ref (b + i), .int p1] : List Value).toArray below meth c H locs 0 0 (MQ below (m_Q D cA b n (rI P)) ([.ref (b + i), .int p1] : List Value).toArray s 0 0 (m_A b)) (F0 m 4 ls []) := by
    clear h
    intro f
    induction f with
    | zero => intro M H locs ls x0 x1 x2 x3 h; exact h.elim
    | succ f ih =>
      intro M H locs ls x0 x1 x2 x3 h hP hS hl
      have h : wpB_X7_lackedWith_4 n P (wpL_X7_lackedWith_4 n P f) M x0 x1 x2 x3 := h
      unfold wpB_X7_lackedWith_4 at h
      refine lv_iload_n (pc := 4) hx hb dX7_lackedWith_4 rfl (lv_at hl 3 rfl) ?_
      refine lv_aload_n (pc := 5) hx hb dX7_lackedWith_5 rfl (lv_at hl 0 rfl) ?_
      obtain ⟨hk1, h⟩ := h
      obtain ⟨j2, hj2, h⟩ := h
      refine gX7_7 (pc := 6) C hK hP hk1 hj2 dX7_lackedWith_6 ?_
      refine lv_iconst (v := 5) (pc := 9) hx hb dX7_lackedWith_9 (by decide) ?_
      obtain ⟨hk3, h⟩ := h
      obtain ⟨hi4, h⟩ := h
      refine m_iald (pc := 10) C hK hP hk3 hi4 dX7_lackedWith_10 ?_
      refine lv_icmp_ge (tgt := 42) (pc := 11) hx hb dX7_lackedWith_11 (by decide) (fun c11 => ?_) (fun c11 => ?_)
      · replace h := h.1 c11
        refine lv_iload_n (pc := 42) hx hb dX7_lackedWith_42 rfl (lv_at hl 2 rfl) ?_
        exact m_iret (v := x2) (pc := 43) C hr hlk hP hS dX7_lackedWith_43 h
      · replace h := h.2 c11
        refine lv_iload_n (pc := 14) hx hb dX7_lackedWith_14 rfl (lv_at hl 2 rfl) ?_
        refine lv_aload_n (pc := 15) hx hb dX7_lackedWith_15 rfl (lv_at hl 0 rfl) ?_
        refine lv_iload_n (pc := 16) hx hb dX7_lackedWith_16 rfl (lv_at hl 3 rfl) ?_
        refine lv_iconst (v := 2) (pc := 17) hx hb dX7_lackedWith_17 (by decide) ?_
        refine m_callVI (pc := 18) (y := yX7_job0) (κ := 7) (As := [.int x3, .int 2]) (rest := [.int x2]) C hK hP hS hl.1 ⟨Nat.zero_le _, Nat.zero_le _⟩ (c_X7_job0 h) rfl rfl hk1 (by decide) rfl q_1031 q_1033 q_s43 q_8 q_1034 ⟨rfl, rfl⟩ yd_X7_job0 ⟨Nat.le_of_ble_eq_true rfl, Nat.le_of_ble_eq_true rfl⟩ (Nat.le_of_ble_eq_true rfl) dX7_lackedWith_18 (fun r6 M5 H locs h hP hS => ?_)
        refine lv_iload_n (pc := 21) hx hb dX7_lackedWith_21 rfl (lv_at hl 1 rfl) ?_
        refine lv_icmp_ne (tgt := 33) (pc := 22) hx hb dX7_lackedWith_22 (by decide) (fun c22 => ?_) (fun c22 => ?_)
        · replace h := h.1 c22
          refine lv_iconst (v := 0) (pc := 33) hx hb dX7_lackedWith_33 (by decide) ?_
          refine lv_iadd (pc := 34) hx hb dX7_lackedWith_34 ?_
          refine lv_topi (fun v7 ev7 => ?_)
          replace h := h v7 ev7
          refine lv_istore_n (lv' := [(2, .int v7), (0, .ref (b + x0)), (1, .int x1), (3, .int x3)]) (pc := 35) hx hb dX7_lackedWith_35 rfl hl (by decide) rfl (fun ls hl => ?_)
          obtain ⟨v8, ev8⟩ : ∃ y : Int32, y = x3 + 1 := ⟨_, rfl⟩
          replace h := h v8 ev8
          refine lv_iinc (v := v8) (lv' := [(3, .int v8), (2, .int v7), (0, .ref (b + x0)), (1, .int x1)]) (pc := 36) hx hb dX7_lackedWith_36 hl (k := 3) rfl (by rw [ev8]; rfl) (by decide) rfl (fun ls hl => ?_)
          refine lv_goto (tgt := 4) (pc := 39) hx hb dX7_lackedWith_39 (by decide) ?_
          exact ih _ _ _ _ _ _ _ _ h hP hS (lv_sub hl [2, 3, 1, 0] rfl)
        · replace h := h.2 c22
          refine lv_aload_n (pc := 25) hx hb dX7_lackedWith_25 rfl (lv_at hl 0 rfl) ?_
          refine lv_iload_n (pc := 26) hx hb dX7_lackedWith_26 rfl (lv_at hl 3 rfl) ?_
          refine m_callVI (pc := 27) (y := yX7_lacks) (κ := 7) (As := [.int x3]) (rest := [.int x2]) C hK hP hS hl.1 ⟨Nat.zero_le _, Nat.zero_le _⟩ (c_X7_lacks h) rfl rfl hk1 (by decide) rfl q_1106 q_1108 q_s58 q_8 q_1109 ⟨rfl, rfl⟩ yd_X7_lacks ⟨Nat.le_of_ble_eq_true rfl, Nat.le_of_ble_eq_true rfl⟩ (Nat.le_of_ble_eq_true rfl) dX7_lackedWith_27 (fun r10 M9 H locs h hP hS => ?_)
          refine lv_goto (tgt := 34) (pc := 30) hx hb dX7_lackedWith_30 (by decide) ?_
          refine lv_iadd (pc := 34) hx hb dX7_lackedWith_34 ?_
          refine lv_topi (fun v11 ev11 => ?_)
          replace h := h v11 ev11
          refine lv_istore_n (lv' := [(2, .int v11), (0, .ref (b + x0)), (1, .int x1), (3, .int x3)]) (pc := 35) hx hb dX7_lackedWith_35 rfl hl (by decide) rfl (fun ls hl => ?_)
          obtain ⟨v12, ev12⟩ : ∃ y : Int32, y = x3 + 1 := ⟨_, rfl⟩
          replace h := h v12 ev12
          refine lv_iinc (v := v12) (lv' := [(3, .int v12), (2, .int v11), (0, .ref (b + x0)), (1, .int x1)]) (pc := 36) hx hb dX7_lackedWith_36 hl (k := 3) rfl (by rw [ev12]; rfl) (by decide) rfl (fun ls hl => ?_)
          refine lv_goto (tgt := 4) (pc := 39) hx hb dX7_lackedWith_39 (by decide) ?_
          exact ih _ _ _ _ _ _ _ _ h hP hS (lv_sub hl [2, 3, 1, 0] rfl)
  unfold wp_X7_lackedWith at h
  refine lv_iconst (v := 0) (pc := 0) hx hb dX7_lackedWith_0 (by decide) ?_
  refine lv_istore_n (lv' := [(2, .int 0), (0, .ref (b + i)), (1, .int p1)]) (pc := 1) hx hb dX7_lackedWith_1 rfl hl (by decide) rfl (fun ls hl => ?_)
  refine lv_iconst (v := 0) (pc := 2) hx hb dX7_lackedWith_2 (by decide) ?_
  refine lv_istore_n (lv' := [(3, .int 0), (2, .int 0), (0, .ref (b + i)), (1, .int p1)]) (pc := 3) hx hb dX7_lackedWith_3 rfl hl (by decide) rfl (fun ls hl => ?_)
  obtain ⟨f, h⟩ := h
  exact L4 f _ _ _ _ _ _ _ _ h hP hS (lv_sub hl [2, 3, 1, 0] rfl)
/-! ForgeHeatsModel.tellsHeat (II)I -/
def wp_X7_tellsHeat (n : Nat) (M : Mem) (i : Nat) (p1 : Int32) (p2 : Int32) (P : Int32 → Mem → Prop) : Prop := ((p2 = 3 → m_tp n i 7 ∧ (wp_X7_billetsWith n M i p1 (fun r3 M1 => P r3 M1))) ∧ (¬ p2 = 3 → ((p2 = 4 → m_tp n i 7 ∧ (wp_X7_heatOf n M i p1 3 (fun r6 M4 => P r6 M4))) ∧ (¬ p2 = 4 → ((p2 = 5 → m_tp n i 7 ∧ (wp_X7_heatOf n M i p1 4 (fun r9 M7 => P r9 M7))) ∧ (¬ p2 = 5 → ((p2 = 6 → m_tp n i 7 ∧ (wp_X7_lackedWith n M i p1 (fun r12 M10 => P r12 M10))) ∧ (¬ p2 = 6 → m_tp n i 7 ∧ (wp_X7_heatOf n M i p1 p2 (fun r15 M13 => P r15 M13))))))))))
abbrev rm_X7_tellsHeat : Room := { frames := 6, cells := 0, slots := 0, locals := 134 }
set_option maxHeartbeats 4000000 in
set_option maxRecDepth 100000 in
theorem c_X7_tellsHeat {l : Launch} {D : va_G} {cA : Nat → ClassId} {b n : Nat} {M : Mem} {i : Nat} {p1 : Int32} {p2 : Int32} {P : Int32 → Mem → Prop} (h : wp_X7_tellsHeat n M i p1 p2 P) : m_C l D cA b n n M yX7_tellsHeat cX7_tellsHeat 3 (some .int) rm_X7_tellsHeat 0 0 [.ref (b + i), .int p1, .int p2] (rI P) := by
  refine m_enter (by decide) (Nat.le_of_ble_eq_true rfl) (fun p e s m below meth c C hr hlk hnm hK hP hS ls hl => ?_)
  have hx := C.1
  have hb := C.2.1
  have hl : lv_has ls 3 [(0, .ref (b + i)), (1, .int p1), (2, .int p2)] := hl
  unfold wp_X7_tellsHeat at h
  refine lv_iload_n (pc := 0) hx hb dX7_tellsHeat_0 rfl (lv_at hl 2 rfl) ?_
  by_cases n1_0 : p2 = 3
  · replace h := h.1 n1_0
    refine m_case (v := 3) (off := 31) (tgt := 32) (pc := 1) hx hb n1_0 dX7_tellsHeat_1 (by decide) (by decide) (by decide) (by decide) ?_
    refine lv_aload_n (pc := 32) hx hb dX7_tellsHeat_32 rfl (lv_at hl 0 rfl) ?_
    refine lv_iload_n (pc := 33) hx hb dX7_tellsHeat_33 rfl (lv_at hl 1 rfl) ?_
    obtain ⟨hk2, h⟩ := h
    refine m_callVI (pc := 34) (y := yX7_billetsWith) (κ := 7) (As := [.int p1]) (rest := []) C hK hP hS hl.1 ⟨Nat.zero_le _, Nat.zero_le _⟩ (c_X7_billetsWith h) rfl rfl hk2 (by decide) rfl q_1198 q_1200 q_s75 q_8 q_1201 ⟨rfl, rfl⟩ yd_X7_billetsWith ⟨Nat.le_of_ble_eq_true rfl, Nat.le_of_ble_eq_true rfl⟩ (Nat.le_of_ble_eq_true rfl) dX7_tellsHeat_34 (fun r3 M1 H locs h hP hS => ?_)
    exact m_iret (v := r3) (pc := 37) C hr hlk hP hS dX7_tellsHeat_37 h
  · replace h := h.2 n1_0
    by_cases n1_1 : p2 = 4
    · replace h := h.1 n1_1
      refine m_case (v := 4) (off := 37) (tgt := 38) (pc := 1) hx hb n1_1 dX7_tellsHeat_1 (by decide) (by decide) (by decide) (by decide) ?_
      refine lv_aload_n (pc := 38) hx hb dX7_tellsHeat_38 rfl (lv_at hl 0 rfl) ?_
      refine lv_iload_n (pc := 39) hx hb dX7_tellsHeat_39 rfl (lv_at hl 1 rfl) ?_
      refine lv_iconst (v := 3) (pc := 40) hx hb dX7_tellsHeat_40 (by decide) ?_
      obtain ⟨hk5, h⟩ := h
      refine m_callVI (pc := 41) (y := yX7_heatOf) (κ := 7) (As := [.int p1, .int 3]) (rest := []) C hK hP hS hl.1 ⟨Nat.zero_le _, Nat.zero_le _⟩ (c_X7_heatOf h) rfl rfl hk5 (by decide) rfl q_980 q_982 q_s36 q_8 q_983 ⟨rfl, rfl⟩ yd_X7_heatOf ⟨Nat.le_of_ble_eq_true rfl, Nat.le_of_ble_eq_true rfl⟩ (Nat.le_of_ble_eq_true rfl) dX7_tellsHeat_41 (fun r6 M4 H locs h hP hS => ?_)
      exact m_iret (v := r6) (pc := 44) C hr hlk hP hS dX7_tellsHeat_44 h
    · replace h := h.2 n1_1
      by_cases n1_2 : p2 = 5
      · replace h := h.1 n1_2
        refine m_case (v := 5) (off := 44) (tgt := 45) (pc := 1) hx hb n1_2 dX7_tellsHeat_1 (by decide) (by decide) (by decide) (by decide) ?_
        refine lv_aload_n (pc := 45) hx hb dX7_tellsHeat_45 rfl (lv_at hl 0 rfl) ?_
        refine lv_iload_n (pc := 46) hx hb dX7_tellsHeat_46 rfl (lv_at hl 1 rfl) ?_
        refine lv_iconst (v := 4) (pc := 47) hx hb dX7_tellsHeat_47 (by decide) ?_
        obtain ⟨hk8, h⟩ := h
        refine m_callVI (pc := 48) (y := yX7_heatOf) (κ := 7) (As := [.int p1, .int 4]) (rest := []) C hK hP hS hl.1 ⟨Nat.zero_le _, Nat.zero_le _⟩ (c_X7_heatOf h) rfl rfl hk8 (by decide) rfl q_980 q_982 q_s36 q_8 q_983 ⟨rfl, rfl⟩ yd_X7_heatOf ⟨Nat.le_of_ble_eq_true rfl, Nat.le_of_ble_eq_true rfl⟩ (Nat.le_of_ble_eq_true rfl) dX7_tellsHeat_48 (fun r9 M7 H locs h hP hS => ?_)
        exact m_iret (v := r9) (pc := 51) C hr hlk hP hS dX7_tellsHeat_51 h
      · replace h := h.2 n1_2
        by_cases n1_3 : p2 = 6
        · replace h := h.1 n1_3
          refine m_case (v := 6) (off := 51) (tgt := 52) (pc := 1) hx hb n1_3 dX7_tellsHeat_1 (by decide) (by decide) (by decide) (by decide) ?_
          refine lv_aload_n (pc := 52) hx hb dX7_tellsHeat_52 rfl (lv_at hl 0 rfl) ?_
          refine lv_iload_n (pc := 53) hx hb dX7_tellsHeat_53 rfl (lv_at hl 1 rfl) ?_
          obtain ⟨hk11, h⟩ := h
          refine m_callVI (pc := 54) (y := yX7_lackedWith) (κ := 7) (As := [.int p1]) (rest := []) C hK hP hS hl.1 ⟨Nat.zero_le _, Nat.zero_le _⟩ (c_X7_lackedWith h) rfl rfl hk11 (by decide) rfl q_1202 q_1204 q_s76 q_8 q_1205 ⟨rfl, rfl⟩ yd_X7_lackedWith ⟨Nat.le_of_ble_eq_true rfl, Nat.le_of_ble_eq_true rfl⟩ (Nat.le_of_ble_eq_true rfl) dX7_tellsHeat_54 (fun r12 M10 H locs h hP hS => ?_)
          exact m_iret (v := r12) (pc := 57) C hr hlk hP hS dX7_tellsHeat_57 h
        · replace h := h.2 n1_3
          refine lv_tableOut (tgt := 58) (pc := 1) hx hb dX7_tellsHeat_1 (by have i0 := i_ne n1_0; have i1 := i_ne n1_1; have i2 := i_ne n1_2; have i3 := i_ne n1_3; simp only [m_lit] at *; omega) (by decide) ?_
          refine lv_aload_n (pc := 58) hx hb dX7_tellsHeat_58 rfl (lv_at hl 0 rfl) ?_
          refine lv_iload_n (pc := 59) hx hb dX7_tellsHeat_59 rfl (lv_at hl 1 rfl) ?_
          refine lv_iload_n (pc := 60) hx hb dX7_tellsHeat_60 rfl (lv_at hl 2 rfl) ?_
          obtain ⟨hk14, h⟩ := h
          refine m_callVI (pc := 61) (y := yX7_heatOf) (κ := 7) (As := [.int p1, .int p2]) (rest := []) C hK hP hS hl.1 ⟨Nat.zero_le _, Nat.zero_le _⟩ (c_X7_heatOf h) rfl rfl hk14 (by decide) rfl q_980 q_982 q_s36 q_8 q_983 ⟨rfl, rfl⟩ yd_X7_heatOf ⟨Nat.le_of_ble_eq_true rfl, Nat.le_of_ble_eq_true rfl⟩ (Nat.le_of_ble_eq_true rfl) dX7_tellsHeat_61 (fun r15 M13 H locs h hP hS => ?_)
          exact m_iret (v := r15) (pc := 64) C hr hlk hP hS dX7_tellsHeat_64 h
/-! ForgeHeatsModel.heat (II)I -/
def wp_X7_heat (n : Nat) (M : Mem) (i : Nat) (p1 : Int32) (p2 : Int32) (P : Int32 → Mem → Prop) : Prop := m_tp n i 7 ∧ (∀ M2 : Mem, M2 = uI M i 0 0 → (wp_X7_isHeat n M2 p1 (fun z4 M3 => ((z4 = true → wp_X7_in n M3 p2 0 6 (fun z6 M5 => ((z6 = false → wp_X7_fails n M5 i 2 (fun r8 M7 => P r8 M7)) ∧ (z6 = true → wp_X7_tellsHeat n M5 i p1 p2 (fun r10 M9 => P r10 M9))))) ∧ (z4 = false → wp_X7_fails n M3 i 1 (fun r12 M11 => P r12 M11))))))
abbrev rm_X7_heat : Room := { frames := 7, cells := 0, slots := 0, locals := 156 }
set_option maxHeartbeats 4000000 in
set_option maxRecDepth 100000 in
theorem c_X7_heat {l : Launch} {D : va_G} {cA : Nat → ClassId} {b n : Nat} {M : Mem} {i : Nat} {p1 : Int32} {p2 : Int32} {P : Int32 → Mem → Prop} (h : wp_X7_heat n M i p1 p2 P) : m_C l D cA b n n M yX7_heat cX7_heat 3 (some .int) rm_X7_heat 0 0 [.ref (b + i), .int p1, .int p2] (rI P) := by
  refine m_enter (by decide) (Nat.le_of_ble_eq_true rfl) (fun p e s m below meth c C hr hlk hnm hK hP hS ls hl => ?_)
  have hx := C.1
  have hb := C.2.1
  have hl : lv_has ls 3 [(0, .ref (b + i)), (1, .int p1), (2, .int p2)] := hl
  unfold wp_X7_heat at h
  refine lv_aload_n (pc := 0) hx hb dX7_heat_0 rfl (lv_at hl 0 rfl) ?_
  refine lv_iconst (v := 0) (pc := 1) hx hb dX7_heat_1 (by decide) ?_
  obtain ⟨hk1, h⟩ := h
  refine pX7_25 (pc := 2) (v := 0) C hK hP hS hk1 dX7_heat_2 (fun M2 H locs eM2 hP hS => ?_)
  replace h := h M2 eM2
  refine lv_iload_n (pc := 5) hx hb dX7_heat_5 rfl (lv_at hl 1 rfl) ?_
  refine m_callSZ (pc := 6) (y := yX7_isHeat) (As := [.int p1]) (rest := []) C hK hP hS hl.1 ⟨Nat.zero_le _, Nat.zero_le _⟩ (c_X7_isHeat h) rfl rfl q_970 q_971 q_8 q_972 ⟨rfl, rfl⟩ yd_X7_isHeat ⟨Nat.le_of_ble_eq_true rfl, Nat.le_of_ble_eq_true rfl⟩ (Nat.le_of_ble_eq_true rfl) dX7_heat_6 (fun z4 M3 H locs h hP hS => ?_)
  refine lv_if_ne (tgt := 18) (pc := 9) hx hb dX7_heat_9 (by decide) (fun c9 => ?_) (fun c9 => ?_)
  · replace h := h.1 (bZ1 c9)
    refine lv_iload_n (pc := 18) hx hb dX7_heat_18 rfl (lv_at hl 2 rfl) ?_
    refine lv_iconst (v := 0) (pc := 19) hx hb dX7_heat_19 (by decide) ?_
    refine lv_bipush (v := 6) (pc := 20) hx hb dX7_heat_20 (by decide) ?_
    refine m_callSZ (pc := 22) (y := yX7_in) (As := [.int p2, .int 0, .int 6]) (rest := []) C hK hP hS hl.1 ⟨Nat.zero_le _, Nat.zero_le _⟩ (c_X7_in h) rfl rfl q_973 q_974 q_8 q_975 ⟨rfl, rfl⟩ yd_X7_in ⟨Nat.le_of_ble_eq_true rfl, Nat.le_of_ble_eq_true rfl⟩ (Nat.le_of_ble_eq_true rfl) dX7_heat_22 (fun z6 M5 H locs h hP hS => ?_)
    refine lv_if_eq (tgt := 37) (pc := 25) hx hb dX7_heat_25 (by decide) (fun c25 => ?_) (fun c25 => ?_)
    · replace h := h.1 (bZ0 c25)
      refine lv_aload_n (pc := 37) hx hb dX7_heat_37 rfl (lv_at hl 0 rfl) ?_
      refine lv_iconst (v := 2) (pc := 38) hx hb dX7_heat_38 (by decide) ?_
      refine m_callVI (pc := 39) (y := yX7_fails) (κ := 7) (As := [.int 2]) (rest := []) C hK hP hS hl.1 ⟨Nat.zero_le _, Nat.zero_le _⟩ (c_X7_fails h) rfl rfl hk1 (by decide) rfl q_976 q_978 q_s35 q_8 q_979 ⟨rfl, rfl⟩ yd_X7_fails ⟨Nat.le_of_ble_eq_true rfl, Nat.le_of_ble_eq_true rfl⟩ (Nat.le_of_ble_eq_true rfl) dX7_heat_39 (fun r8 M7 H locs h hP hS => ?_)
      exact m_iret (v := r8) (pc := 42) C hr hlk hP hS dX7_heat_42 h
    · replace h := h.2 (bZ1 c25)
      refine lv_aload_n (pc := 28) hx hb dX7_heat_28 rfl (lv_at hl 0 rfl) ?_
      refine lv_iload_n (pc := 29) hx hb dX7_heat_29 rfl (lv_at hl 1 rfl) ?_
      refine lv_iload_n (pc := 30) hx hb dX7_heat_30 rfl (lv_at hl 2 rfl) ?_
      refine m_callVI (pc := 31) (y := yX7_tellsHeat) (κ := 7) (As := [.int p1, .int p2]) (rest := []) C hK hP hS hl.1 ⟨Nat.zero_le _, Nat.zero_le _⟩ (c_X7_tellsHeat h) rfl rfl hk1 (by decide) rfl q_1194 q_1196 q_s74 q_8 q_1197 ⟨rfl, rfl⟩ yd_X7_tellsHeat ⟨Nat.le_of_ble_eq_true rfl, Nat.le_of_ble_eq_true rfl⟩ (Nat.le_of_ble_eq_true rfl) dX7_heat_31 (fun r10 M9 H locs h hP hS => ?_)
      refine lv_goto (tgt := 42) (pc := 34) hx hb dX7_heat_34 (by decide) ?_
      exact m_iret (v := r10) (pc := 42) C hr hlk hP hS dX7_heat_42 h
  · replace h := h.2 (bZ0 c9)
    refine lv_aload_n (pc := 12) hx hb dX7_heat_12 rfl (lv_at hl 0 rfl) ?_
    refine lv_iconst (v := 1) (pc := 13) hx hb dX7_heat_13 (by decide) ?_
    refine m_callVI (pc := 14) (y := yX7_fails) (κ := 7) (As := [.int 1]) (rest := []) C hK hP hS hl.1 ⟨Nat.zero_le _, Nat.zero_le _⟩ (c_X7_fails h) rfl rfl hk1 (by decide) rfl q_976 q_978 q_s35 q_8 q_979 ⟨rfl, rfl⟩ yd_X7_fails ⟨Nat.le_of_ble_eq_true rfl, Nat.le_of_ble_eq_true rfl⟩ (Nat.le_of_ble_eq_true rfl) dX7_heat_14 (fun r12 M11 H locs h hP hS => ?_)
    exact m_iret (v := r12) (pc := 17) C hr hlk hP hS dX7_heat_17 h
/-! ForgeHeatsModel.tellsDie (II)I -/
def wp_X7_tellsDie (n : Nat) (M : Mem) (i : Nat) (p1 : Int32) (p2 : Int32) (P : Int32 → Mem → Prop) : Prop := ((¬ p2 = 3 → m_tp n i 7 ∧ (wp_X7_die0 n M i p1 (if p2 ≤ 3 then p2 else (p2 - 1)) (fun r3 M1 => P r3 M1))) ∧ (p2 = 3 → m_tp n i 7 ∧ (wp_X7_isBeingGround n M i p1 (fun z6 M4 => ((z6 = false → P 0 M4) ∧ (z6 = true → ∃ j7 : Nat, M4.2.1 i 1 = some j7 ∧ (m_tp n j7 8 ∧ (vp_in 14 (m_len j7) ∧ (P (M4.1 j7 (14 : Int32).toNatClampNeg) M4)))))))))
abbrev rm_X7_tellsDie : Room := { frames := 1, cells := 0, slots := 0, locals := 22 }
set_option maxHeartbeats 4000000 in
set_option maxRecDepth 100000 in
theorem c_X7_tellsDie {l : Launch} {D : va_G} {cA : Nat → ClassId} {b n : Nat} {M : Mem} {i : Nat} {p1 : Int32} {p2 : Int32} {P : Int32 → Mem → Prop} (h : wp_X7_tellsDie n M i p1 p2 P) : m_C l D cA b n n M yX7_tellsDie cX7_tellsDie 3 (some .int) rm_X7_tellsDie 0 0 [.ref (b + i), .int p1, .int p2] (rI P) := by
  refine m_enter (by decide) (Nat.le_of_ble_eq_true rfl) (fun p e s m below meth c C hr hlk hnm hK hP hS ls hl => ?_)
  have hx := C.1
  have hb := C.2.1
  have hl : lv_has ls 3 [(0, .ref (b + i)), (1, .int p1), (2, .int p2)] := hl
  unfold wp_X7_tellsDie at h
  refine lv_iload_n (pc := 0) hx hb dX7_tellsDie_0 rfl (lv_at hl 2 rfl) ?_
  refine lv_iconst (v := 3) (pc := 1) hx hb dX7_tellsDie_1 (by decide) ?_
  refine lv_icmp_ne (tgt := 25) (pc := 2) hx hb dX7_tellsDie_2 (by decide) (fun c2 => ?_) (fun c2 => ?_)
  · replace h := h.1 c2
    refine lv_aload_n (pc := 25) hx hb dX7_tellsDie_25 rfl (lv_at hl 0 rfl) ?_
    refine lv_iload_n (pc := 26) hx hb dX7_tellsDie_26 rfl (lv_at hl 1 rfl) ?_
    refine lv_iload_n (pc := 27) hx hb dX7_tellsDie_27 rfl (lv_at hl 2 rfl) ?_
    refine lv_iconst (v := 3) (pc := 28) hx hb dX7_tellsDie_28 (by decide) ?_
    refine m_join (v := if p2 ≤ 3 then p2 else (p2 - 1)) (jp := 39) (rest := [.int p1, .ref (b + i)]) ?_ (fun hJ => ?_)
    rotate_left
    · skip
      refine lv_icmp_le (tgt := 38) (pc := 29) hx hb dX7_tellsDie_29 (by decide) (fun c29 => ?_) (fun c29 => ?_)
      · skip
        refine lv_iload_n (pc := 38) hx hb dX7_tellsDie_38 rfl (lv_at hl 2 rfl) ?_
        exact hJ _ (by rw [if_pos c29])
      · skip
        refine lv_iload_n (pc := 32) hx hb dX7_tellsDie_32 rfl (lv_at hl 2 rfl) ?_
        refine lv_iconst (v := 1) (pc := 33) hx hb dX7_tellsDie_33 (by decide) ?_
        refine lv_isub (pc := 34) hx hb dX7_tellsDie_34 ?_
        refine lv_goto (tgt := 39) (pc := 35) hx hb dX7_tellsDie_35 (by decide) ?_
        exact hJ _ (by rw [if_neg c29])
    obtain ⟨hk2, h⟩ := h
    refine m_callVI (pc := 39) (y := yX7_die0) (κ := 7) (As := [.int p1, .int (if p2 ≤ 3 then p2 else (p2 - 1))]) (rest := []) C hK hP hS hl.1 ⟨Nat.zero_le _, Nat.zero_le _⟩ (c_X7_die0 h) rfl rfl hk2 (by decide) rfl q_1003 q_1005 q_s39 q_8 q_1006 ⟨rfl, rfl⟩ yd_X7_die0 ⟨Nat.le_of_ble_eq_true rfl, Nat.le_of_ble_eq_true rfl⟩ (Nat.le_of_ble_eq_true rfl) dX7_tellsDie_39 (fun r3 M1 H locs h hP hS => ?_)
    exact m_iret (v := r3) (pc := 42) C hr hlk hP hS dX7_tellsDie_42 h
  · replace h := h.2 c2
    refine lv_aload_n (pc := 5) hx hb dX7_tellsDie_5 rfl (lv_at hl 0 rfl) ?_
    refine lv_iload_n (pc := 6) hx hb dX7_tellsDie_6 rfl (lv_at hl 1 rfl) ?_
    obtain ⟨hk5, h⟩ := h
    refine m_callVZ (pc := 7) (y := yX7_isBeingGround) (κ := 7) (As := [.int p1]) (rest := []) C hK hP hS hl.1 ⟨Nat.zero_le _, Nat.zero_le _⟩ (c_X7_isBeingGround h) rfl rfl hk5 (by decide) rfl q_999 q_1001 q_s38 q_8 q_1002 ⟨rfl, rfl⟩ yd_X7_isBeingGround ⟨Nat.le_of_ble_eq_true rfl, Nat.le_of_ble_eq_true rfl⟩ (Nat.le_of_ble_eq_true rfl) dX7_tellsDie_7 (fun z6 M4 H locs h hP hS => ?_)
    refine lv_if_eq (tgt := 23) (pc := 10) hx hb dX7_tellsDie_10 (by decide) (fun c10 => ?_) (fun c10 => ?_)
    · replace h := h.1 (bZ0 c10)
      refine lv_iconst (v := 0) (pc := 23) hx hb dX7_tellsDie_23 (by decide) ?_
      exact m_iret (v := 0) (pc := 24) C hr hlk hP hS dX7_tellsDie_24 h
    · replace h := h.2 (bZ1 c10)
      refine lv_aload_n (pc := 13) hx hb dX7_tellsDie_13 rfl (lv_at hl 0 rfl) ?_
      obtain ⟨j7, hj7, h⟩ := h
      refine gX7_7 (pc := 14) C hK hP hk5 hj7 dX7_tellsDie_14 ?_
      refine lv_bipush (v := 14) (pc := 17) hx hb dX7_tellsDie_17 (by decide) ?_
      obtain ⟨hk8, h⟩ := h
      obtain ⟨hi9, h⟩ := h
      refine m_iald (pc := 19) C hK hP hk8 hi9 dX7_tellsDie_19 ?_
      refine lv_goto (tgt := 24) (pc := 20) hx hb dX7_tellsDie_20 (by decide) ?_
      exact m_iret (v := M4.1 j7 (14 : Int32).toNatClampNeg) (pc := 24) C hr hlk hP hS dX7_tellsDie_24 h
/-! ForgeHeatsModel.dieOf (II)I -/
def wp_X7_dieOf (n : Nat) (M : Mem) (i : Nat) (p1 : Int32) (p2 : Int32) (P : Int32 → Mem → Prop) : Prop := m_tp n i 7 ∧ (∀ M2 : Mem, M2 = uI M i 0 0 → (wp_X7_isDie n M2 p1 (fun z4 M3 => ((z4 = true → wp_X7_in n M3 p2 0 5 (fun z6 M5 => ((z6 = false → wp_X7_fails n M5 i 2 (fun r8 M7 => P r8 M7)) ∧ (z6 = true → wp_X7_tellsDie n M5 i p1 p2 (fun r10 M9 => P r10 M9))))) ∧ (z4 = false → wp_X7_fails n M3 i 1 (fun r12 M11 => P r12 M11))))))
abbrev rm_X7_dieOf : Room := { frames := 2, cells := 0, slots := 0, locals := 44 }
set_option maxHeartbeats 4000000 in
set_option maxRecDepth 100000 in
theorem c_X7_dieOf {l : Launch} {D : va_G} {cA : Nat → ClassId} {b n : Nat} {M : Mem} {i : Nat} {p1 : Int32} {p2 : Int32} {P : Int32 → Mem → Prop} (h : wp_X7_dieOf n M i p1 p2 P) : m_C l D cA b n n M yX7_dieOf cX7_dieOf 3 (some .int) rm_X7_dieOf 0 0 [.ref (b + i), .int p1, .int p2] (rI P) := by
  refine m_enter (by decide) (Nat.le_of_ble_eq_true rfl) (fun p e s m below meth c C hr hlk hnm hK hP hS ls hl => ?_)
  have hx := C.1
  have hb := C.2.1
  have hl : lv_has ls 3 [(0, .ref (b + i)), (1, .int p1), (2, .int p2)] := hl
  unfold wp_X7_dieOf at h
  refine lv_aload_n (pc := 0) hx hb dX7_dieOf_0 rfl (lv_at hl 0 rfl) ?_
  refine lv_iconst (v := 0) (pc := 1) hx hb dX7_dieOf_1 (by decide) ?_
  obtain ⟨hk1, h⟩ := h
  refine pX7_25 (pc := 2) (v := 0) C hK hP hS hk1 dX7_dieOf_2 (fun M2 H locs eM2 hP hS => ?_)
  replace h := h M2 eM2
  refine lv_iload_n (pc := 5) hx hb dX7_dieOf_5 rfl (lv_at hl 1 rfl) ?_
  refine m_callSZ (pc := 6) (y := yX7_isDie) (As := [.int p1]) (rest := []) C hK hP hS hl.1 ⟨Nat.zero_le _, Nat.zero_le _⟩ (c_X7_isDie h) rfl rfl q_996 q_997 q_8 q_998 ⟨rfl, rfl⟩ yd_X7_isDie ⟨Nat.le_of_ble_eq_true rfl, Nat.le_of_ble_eq_true rfl⟩ (Nat.le_of_ble_eq_true rfl) dX7_dieOf_6 (fun z4 M3 H locs h hP hS => ?_)
  refine lv_if_ne (tgt := 18) (pc := 9) hx hb dX7_dieOf_9 (by decide) (fun c9 => ?_) (fun c9 => ?_)
  · replace h := h.1 (bZ1 c9)
    refine lv_iload_n (pc := 18) hx hb dX7_dieOf_18 rfl (lv_at hl 2 rfl) ?_
    refine lv_iconst (v := 0) (pc := 19) hx hb dX7_dieOf_19 (by decide) ?_
    refine lv_iconst (v := 5) (pc := 20) hx hb dX7_dieOf_20 (by decide) ?_
    refine m_callSZ (pc := 21) (y := yX7_in) (As := [.int p2, .int 0, .int 5]) (rest := []) C hK hP hS hl.1 ⟨Nat.zero_le _, Nat.zero_le _⟩ (c_X7_in h) rfl rfl q_973 q_974 q_8 q_975 ⟨rfl, rfl⟩ yd_X7_in ⟨Nat.le_of_ble_eq_true rfl, Nat.le_of_ble_eq_true rfl⟩ (Nat.le_of_ble_eq_true rfl) dX7_dieOf_21 (fun z6 M5 H locs h hP hS => ?_)
    refine lv_if_eq (tgt := 36) (pc := 24) hx hb dX7_dieOf_24 (by decide) (fun c24 => ?_) (fun c24 => ?_)
    · replace h := h.1 (bZ0 c24)
      refine lv_aload_n (pc := 36) hx hb dX7_dieOf_36 rfl (lv_at hl 0 rfl) ?_
      refine lv_iconst (v := 2) (pc := 37) hx hb dX7_dieOf_37 (by decide) ?_
      refine m_callVI (pc := 38) (y := yX7_fails) (κ := 7) (As := [.int 2]) (rest := []) C hK hP hS hl.1 ⟨Nat.zero_le _, Nat.zero_le _⟩ (c_X7_fails h) rfl rfl hk1 (by decide) rfl q_976 q_978 q_s35 q_8 q_979 ⟨rfl, rfl⟩ yd_X7_fails ⟨Nat.le_of_ble_eq_true rfl, Nat.le_of_ble_eq_true rfl⟩ (Nat.le_of_ble_eq_true rfl) dX7_dieOf_38 (fun r8 M7 H locs h hP hS => ?_)
      exact m_iret (v := r8) (pc := 41) C hr hlk hP hS dX7_dieOf_41 h
    · replace h := h.2 (bZ1 c24)
      refine lv_aload_n (pc := 27) hx hb dX7_dieOf_27 rfl (lv_at hl 0 rfl) ?_
      refine lv_iload_n (pc := 28) hx hb dX7_dieOf_28 rfl (lv_at hl 1 rfl) ?_
      refine lv_iload_n (pc := 29) hx hb dX7_dieOf_29 rfl (lv_at hl 2 rfl) ?_
      refine m_callVI (pc := 30) (y := yX7_tellsDie) (κ := 7) (As := [.int p1, .int p2]) (rest := []) C hK hP hS hl.1 ⟨Nat.zero_le _, Nat.zero_le _⟩ (c_X7_tellsDie h) rfl rfl hk1 (by decide) rfl q_1210 q_1212 q_s77 q_8 q_1213 ⟨rfl, rfl⟩ yd_X7_tellsDie ⟨Nat.le_of_ble_eq_true rfl, Nat.le_of_ble_eq_true rfl⟩ (Nat.le_of_ble_eq_true rfl) dX7_dieOf_30 (fun r10 M9 H locs h hP hS => ?_)
      refine lv_goto (tgt := 41) (pc := 33) hx hb dX7_dieOf_33 (by decide) ?_
      exact m_iret (v := r10) (pc := 41) C hr hlk hP hS dX7_dieOf_41 h
  · replace h := h.2 (bZ0 c9)
    refine lv_aload_n (pc := 12) hx hb dX7_dieOf_12 rfl (lv_at hl 0 rfl) ?_
    refine lv_iconst (v := 1) (pc := 13) hx hb dX7_dieOf_13 (by decide) ?_
    refine m_callVI (pc := 14) (y := yX7_fails) (κ := 7) (As := [.int 1]) (rest := []) C hK hP hS hl.1 ⟨Nat.zero_le _, Nat.zero_le _⟩ (c_X7_fails h) rfl rfl hk1 (by decide) rfl q_976 q_978 q_s35 q_8 q_979 ⟨rfl, rfl⟩ yd_X7_fails ⟨Nat.le_of_ble_eq_true rfl, Nat.le_of_ble_eq_true rfl⟩ (Nat.le_of_ble_eq_true rfl) dX7_dieOf_14 (fun r12 M11 H locs h hP hS => ?_)
    exact m_iret (v := r12) (pc := 17) C hr hlk hP hS dX7_dieOf_17 h
/-! ForgeHeatsModel.reason (I)I -/
def wp_X7_reason (n : Nat) (M : Mem) (i : Nat) (p1 : Int32) (P : Int32 → Mem → Prop) : Prop := m_tp n i 7 ∧ (wp_X7_job0 n M i p1 1 (fun r3 M1 => wp_X7_jobOn n M1 i 6 (fun r5 M4 => ((¬ r5 = p1 → wp_X7_isFit n M4 i r3 (fun z7 M6 => ((z7 = true → wp_X7_billetsOf n M6 i p1 0 5 (fun r9 M8 => ((¬ r9 = 0 → wp_X7_hottest n M8 i p1 (fun r11 M10 => ((¬ r11 = (-1) → wp_X7_jobOn n M10 i 6 (fun r13 M12 => P (if r13 = (-1) then 6 else 5) M12)) ∧ (r11 = (-1) → P 4 M10)))) ∧ (r9 = 0 → wp_X7_job0 n M8 i p1 2 (fun r15 M14 => wp_X7_heatOf n M14 i r15 0 (fun r17 M16 => ((¬ r17 = 0 → wp_X7_hottest n M16 i p1 (fun r19 M18 => ((¬ r19 = (-1) → wp_X7_jobOn n M18 i 6 (fun r21 M20 => P (if r21 = (-1) then 6 else 5) M20)) ∧ (r19 = (-1) → P 4 M18)))) ∧ (r17 = 0 → P 3 M16)))))))) ∧ (z7 = false → wp_X7_isBeingGround n M6 i r3 (fun z23 M22 => P (if z23 = false then 2 else 1) M22))))) ∧ (r5 = p1 → P 0 M4)))))
abbrev rm_X7_reason : Room := { frames := 4, cells := 0, slots := 0, locals := 90 }
set_option maxHeartbeats 4000000 in
set_option maxRecDepth 100000 in
theorem c_X7_reason {l : Launch} {D : va_G} {cA : Nat → ClassId} {b n : Nat} {M : Mem} {i : Nat} {p1 : Int32} {P : Int32 → Mem → Prop} (h : wp_X7_reason n M i p1 P) : m_C l D cA b n n M yX7_reason cX7_reason 3 (some .int) rm_X7_reason 0 0 [.ref (b + i), .int p1] (rI P) := by
  refine m_enter (by decide) (Nat.le_of_ble_eq_true rfl) (fun p e s m below meth c C hr hlk hnm hK hP hS ls hl => ?_)
  have hx := C.1
  have hb := C.2.1
  have hl : lv_has ls 3 [(0, .ref (b + i)), (1, .int p1)] := hl
  unfold wp_X7_reason at h
  refine lv_aload_n (pc := 0) hx hb dX7_reason_0 rfl (lv_at hl 0 rfl) ?_
  refine lv_iload_n (pc := 1) hx hb dX7_reason_1 rfl (lv_at hl 1 rfl) ?_
  refine lv_iconst (v := 1) (pc := 2) hx hb dX7_reason_2 (by decide) ?_
  obtain ⟨hk2, h⟩ := h
  refine m_callVI (pc := 3) (y := yX7_job0) (κ := 7) (As := [.int p1, .int 1]) (rest := []) C hK hP hS hl.1 ⟨Nat.zero_le _, Nat.zero_le _⟩ (c_X7_job0 h) rfl rfl hk2 (by decide) rfl q_1031 q_1033 q_s43 q_8 q_1034 ⟨rfl, rfl⟩ yd_X7_job0 ⟨Nat.le_of_ble_eq_true rfl, Nat.le_of_ble_eq_true rfl⟩ (Nat.le_of_ble_eq_true rfl) dX7_reason_3 (fun r3 M1 H locs h hP hS => ?_)
  refine lv_istore_n (lv' := [(2, .int r3), (0, .ref (b + i)), (1, .int p1)]) (pc := 6) hx hb dX7_reason_6 rfl hl (by decide) rfl (fun ls hl => ?_)
  refine lv_aload_n (pc := 7) hx hb dX7_reason_7 rfl (lv_at hl 1 rfl) ?_
  refine lv_bipush (v := 6) (pc := 8) hx hb dX7_reason_8 (by decide) ?_
  refine m_callVI (pc := 10) (y := yX7_jobOn) (κ := 7) (As := [.int 6]) (rest := []) C hK hP hS hl.1 ⟨Nat.zero_le _, Nat.zero_le _⟩ (c_X7_jobOn h) rfl rfl hk2 (by decide) rfl q_1035 q_1037 q_s44 q_8 q_1038 ⟨rfl, rfl⟩ yd_X7_jobOn ⟨Nat.le_of_ble_eq_true rfl, Nat.le_of_ble_eq_true rfl⟩ (Nat.le_of_ble_eq_true rfl) dX7_reason_10 (fun r5 M4 H locs h hP hS => ?_)
  refine lv_iload_n (pc := 13) hx hb dX7_reason_13 rfl (lv_at hl 2 rfl) ?_
  refine lv_icmp_ne (tgt := 19) (pc := 14) hx hb dX7_reason_14 (by decide) (fun c14 => ?_) (fun c14 => ?_)
  · replace h := h.1 c14
    refine lv_aload_n (pc := 19) hx hb dX7_reason_19 rfl (lv_at hl 1 rfl) ?_
    refine lv_iload_n (pc := 20) hx hb dX7_reason_20 rfl (lv_at hl 0 rfl) ?_
    refine m_callVZ (pc := 21) (y := yX7_isFit) (κ := 7) (As := [.int r3]) (rest := []) C hK hP hS hl.1 ⟨Nat.zero_le _, Nat.zero_le _⟩ (c_X7_isFit h) rfl rfl hk2 (by decide) rfl q_1118 q_1120 q_s61 q_8 q_1121 ⟨rfl, rfl⟩ yd_X7_isFit ⟨Nat.le_of_ble_eq_true rfl, Nat.le_of_ble_eq_true rfl⟩ (Nat.le_of_ble_eq_true rfl) dX7_reason_21 (fun z7 M6 H locs h hP hS => ?_)
    refine lv_if_ne (tgt := 41) (pc := 24) hx hb dX7_reason_24 (by decide) (fun c24 => ?_) (fun c24 => ?_)
    · replace h := h.1 (bZ1 c24)
      refine lv_aload_n (pc := 41) hx hb dX7_reason_41 rfl (lv_at hl 1 rfl) ?_
      refine lv_iload_n (pc := 42) hx hb dX7_reason_42 rfl (lv_at hl 2 rfl) ?_
      refine lv_iconst (v := 0) (pc := 43) hx hb dX7_reason_43 (by decide) ?_
      refine lv_iconst (v := 5) (pc := 44) hx hb dX7_reason_44 (by decide) ?_
      refine m_callVI (pc := 45) (y := yX7_billetsOf) (κ := 7) (As := [.int p1, .int 0, .int 5]) (rest := []) C hK hP hS hl.1 ⟨Nat.zero_le _, Nat.zero_le _⟩ (c_X7_billetsOf h) rfl rfl hk2 (by decide) rfl q_1110 q_1112 q_s59 q_8 q_1113 ⟨rfl, rfl⟩ yd_X7_billetsOf ⟨Nat.le_of_ble_eq_true rfl, Nat.le_of_ble_eq_true rfl⟩ (Nat.le_of_ble_eq_true rfl) dX7_reason_45 (fun r9 M8 H locs h hP hS => ?_)
      refine lv_if_ne (tgt := 67) (pc := 48) hx hb dX7_reason_48 (by decide) (fun c48 => ?_) (fun c48 => ?_)
      · replace h := h.1 c48
        refine lv_aload_n (pc := 67) hx hb dX7_reason_67 rfl (lv_at hl 1 rfl) ?_
        refine lv_iload_n (pc := 68) hx hb dX7_reason_68 rfl (lv_at hl 2 rfl) ?_
        refine m_callVI (pc := 69) (y := yX7_hottest) (κ := 7) (As := [.int p1]) (rest := []) C hK hP hS hl.1 ⟨Nat.zero_le _, Nat.zero_le _⟩ (c_X7_hottest h) rfl rfl hk2 (by decide) rfl q_1126 q_1128 q_s63 q_8 q_1129 ⟨rfl, rfl⟩ yd_X7_hottest ⟨Nat.le_of_ble_eq_true rfl, Nat.le_of_ble_eq_true rfl⟩ (Nat.le_of_ble_eq_true rfl) dX7_reason_69 (fun r11 M10 H locs h hP hS => ?_)
        refine lv_iconst (v := -1) (pc := 72) hx hb dX7_reason_72 (by decide) ?_
        refine lv_icmp_ne (tgt := 78) (pc := 73) hx hb dX7_reason_73 (by decide) (fun c73 => ?_) (fun c73 => ?_)
        · replace h := h.1 c73
          refine lv_aload_n (pc := 78) hx hb dX7_reason_78 rfl (lv_at hl 1 rfl) ?_
          refine lv_bipush (v := 6) (pc := 79) hx hb dX7_reason_79 (by decide) ?_
          refine m_callVI (pc := 81) (y := yX7_jobOn) (κ := 7) (As := [.int 6]) (rest := []) C hK hP hS hl.1 ⟨Nat.zero_le _, Nat.zero_le _⟩ (c_X7_jobOn h) rfl rfl hk2 (by decide) rfl q_1035 q_1037 q_s44 q_8 q_1038 ⟨rfl, rfl⟩ yd_X7_jobOn ⟨Nat.le_of_ble_eq_true rfl, Nat.le_of_ble_eq_true rfl⟩ (Nat.le_of_ble_eq_true rfl) dX7_reason_81 (fun r13 M12 H locs h hP hS => ?_)
          refine lv_iconst (v := -1) (pc := 84) hx hb dX7_reason_84 (by decide) ?_
          refine m_join (v := if r13 = (-1) then 6 else 5) (jp := 94) (rest := []) ?_ (fun hJ => ?_)
          rotate_left
          · skip
            refine lv_icmp_eq (tgt := 92) (pc := 85) hx hb dX7_reason_85 (by decide) (fun c85 => ?_) (fun c85 => ?_)
            · skip
              refine lv_bipush (v := 6) (pc := 92) hx hb dX7_reason_92 (by decide) ?_
              exact hJ _ (by rw [if_pos c85])
            · skip
              refine lv_iconst (v := 5) (pc := 88) hx hb dX7_reason_88 (by decide) ?_
              refine lv_goto (tgt := 94) (pc := 89) hx hb dX7_reason_89 (by decide) ?_
              exact hJ _ (by rw [if_neg c85])
          exact m_iret (v := if r13 = (-1) then 6 else 5) (pc := 94) C hr hlk hP hS dX7_reason_94 h
        · replace h := h.2 c73
          refine lv_iconst (v := 4) (pc := 76) hx hb dX7_reason_76 (by decide) ?_
          exact m_iret (v := 4) (pc := 77) C hr hlk hP hS dX7_reason_77 h
      · replace h := h.2 c48
        refine lv_aload_n (pc := 51) hx hb dX7_reason_51 rfl (lv_at hl 1 rfl) ?_
        refine lv_aload_n (pc := 52) hx hb dX7_reason_52 rfl (lv_at hl 1 rfl) ?_
        refine lv_iload_n (pc := 53) hx hb dX7_reason_53 rfl (lv_at hl 2 rfl) ?_
        refine lv_iconst (v := 2) (pc := 54) hx hb dX7_reason_54 (by decide) ?_
        refine m_callVI (pc := 55) (y := yX7_job0) (κ := 7) (As := [.int p1, .int 2]) (rest := [.ref (b + i)]) C hK hP hS hl.1 ⟨Nat.zero_le _, Nat.zero_le _⟩ (c_X7_job0 h) rfl rfl hk2 (by decide) rfl q_1031 q_1033 q_s43 q_8 q_1034 ⟨rfl, rfl⟩ yd_X7_job0 ⟨Nat.le_of_ble_eq_true rfl, Nat.le_of_ble_eq_true rfl⟩ (Nat.le_of_ble_eq_true rfl) dX7_reason_55 (fun r15 M14 H locs h hP hS => ?_)
        refine lv_iconst (v := 0) (pc := 58) hx hb dX7_reason_58 (by decide) ?_
        refine m_callVI (pc := 59) (y := yX7_heatOf) (κ := 7) (As := [.int r15, .int 0]) (rest := []) C hK hP hS hl.1 ⟨Nat.zero_le _, Nat.zero_le _⟩ (c_X7_heatOf h) rfl rfl hk2 (by decide) rfl q_980 q_982 q_s36 q_8 q_983 ⟨rfl, rfl⟩ yd_X7_heatOf ⟨Nat.le_of_ble_eq_true rfl, Nat.le_of_ble_eq_true rfl⟩ (Nat.le_of_ble_eq_true rfl) dX7_reason_59 (fun r17 M16 H locs h hP hS => ?_)
        refine lv_if_ne (tgt := 67) (pc := 62) hx hb dX7_reason_62 (by decide) (fun c62 => ?_) (fun c62 => ?_)
        · replace h := h.1 c62
          refine lv_aload_n (pc := 67) hx hb dX7_reason_67 rfl (lv_at hl 1 rfl) ?_
          refine lv_iload_n (pc := 68) hx hb dX7_reason_68 rfl (lv_at hl 2 rfl) ?_
          refine m_callVI (pc := 69) (y := yX7_hottest) (κ := 7) (As := [.int p1]) (rest := []) C hK hP hS hl.1 ⟨Nat.zero_le _, Nat.zero_le _⟩ (c_X7_hottest h) rfl rfl hk2 (by decide) rfl q_1126 q_1128 q_s63 q_8 q_1129 ⟨rfl, rfl⟩ yd_X7_hottest ⟨Nat.le_of_ble_eq_true rfl, Nat.le_of_ble_eq_true rfl⟩ (Nat.le_of_ble_eq_true rfl) dX7_reason_69 (fun r19 M18 H locs h hP hS => ?_)
          refine lv_iconst (v := -1) (pc := 72) hx hb dX7_reason_72 (by decide) ?_
          refine lv_icmp_ne (tgt := 78) (pc := 73) hx hb dX7_reason_73 (by decide) (fun c73 => ?_) (fun c73 => ?_)
          · replace h := h.1 c73
            refine lv_aload_n (pc := 78) hx hb dX7_reason_78 rfl (lv_at hl 1 rfl) ?_
            refine lv_bipush (v := 6) (pc := 79) hx hb dX7_reason_79 (by decide) ?_
            refine m_callVI (pc := 81) (y := yX7_jobOn) (κ := 7) (As := [.int 6]) (rest := []) C hK hP hS hl.1 ⟨Nat.zero_le _, Nat.zero_le _⟩ (c_X7_jobOn h) rfl rfl hk2 (by decide) rfl q_1035 q_1037 q_s44 q_8 q_1038 ⟨rfl, rfl⟩ yd_X7_jobOn ⟨Nat.le_of_ble_eq_true rfl, Nat.le_of_ble_eq_true rfl⟩ (Nat.le_of_ble_eq_true rfl) dX7_reason_81 (fun r21 M20 H locs h hP hS => ?_)
            refine lv_iconst (v := -1) (pc := 84) hx hb dX7_reason_84 (by decide) ?_
            refine m_join (v := if r21 = (-1) then 6 else 5) (jp := 94) (rest := []) ?_ (fun hJ => ?_)
            rotate_left
            · skip
              refine lv_icmp_eq (tgt := 92) (pc := 85) hx hb dX7_reason_85 (by decide) (fun c85 => ?_) (fun c85 => ?_)
              · skip
                refine lv_bipush (v := 6) (pc := 92) hx hb dX7_reason_92 (by decide) ?_
                exact hJ _ (by rw [if_pos c85])
              · skip
                refine lv_iconst (v := 5) (pc := 88) hx hb dX7_reason_88 (by decide) ?_
                refine lv_goto (tgt := 94) (pc := 89) hx hb dX7_reason_89 (by decide) ?_
                exact hJ _ (by rw [if_neg c85])
            exact m_iret (v := if r21 = (-1) then 6 else 5) (pc := 94) C hr hlk hP hS dX7_reason_94 h
          · replace h := h.2 c73
            refine lv_iconst (v := 4) (pc := 76) hx hb dX7_reason_76 (by decide) ?_
            exact m_iret (v := 4) (pc := 77) C hr hlk hP hS dX7_reason_77 h
        · replace h := h.2 c62
          refine lv_iconst (v := 3) (pc := 65) hx hb dX7_reason_65 (by decide) ?_
          exact m_iret (v := 3) (pc := 66) C hr hlk hP hS dX7_reason_66 h
    · replace h := h.2 (bZ0 c24)
      refine lv_aload_n (pc := 27) hx hb dX7_reason_27 rfl (lv_at hl 1 rfl) ?_
      refine lv_iload_n (pc := 28) hx hb dX7_reason_28 rfl (lv_at hl 0 rfl) ?_
      refine m_callVZ (pc := 29) (y := yX7_isBeingGround) (κ := 7) (As := [.int r3]) (rest := []) C hK hP hS hl.1 ⟨Nat.zero_le _, Nat.zero_le _⟩ (c_X7_isBeingGround h) rfl rfl hk2 (by decide) rfl q_999 q_1001 q_s38 q_8 q_1002 ⟨rfl, rfl⟩ yd_X7_isBeingGround ⟨Nat.le_of_ble_eq_true rfl, Nat.le_of_ble_eq_true rfl⟩ (Nat.le_of_ble_eq_true rfl) dX7_reason_29 (fun z23 M22 H locs h hP hS => ?_)
      refine m_join (v := if z23 = false then 2 else 1) (jp := 40) (rest := []) ?_ (fun hJ => ?_)
      rotate_left
      · skip
        refine lv_if_eq (tgt := 39) (pc := 32) hx hb dX7_reason_32 (by decide) (fun c32 => ?_) (fun c32 => ?_)
        · skip
          refine lv_iconst (v := 2) (pc := 39) hx hb dX7_reason_39 (by decide) ?_
          exact hJ _ (by rw [if_pos (bZ0 c32)])
        · skip
          refine lv_iconst (v := 1) (pc := 35) hx hb dX7_reason_35 (by decide) ?_
          refine lv_goto (tgt := 40) (pc := 36) hx hb dX7_reason_36 (by decide) ?_
          exact hJ _ (by rw [if_neg (by rw [(bZ1 c32)]; decide)])
      exact m_iret (v := if z23 = false then 2 else 1) (pc := 40) C hr hlk hP hS dX7_reason_40 h
  · replace h := h.2 c14
    refine lv_iconst (v := 0) (pc := 17) hx hb dX7_reason_17 (by decide) ?_
    exact m_iret (v := 0) (pc := 18) C hr hlk hP hS dX7_reason_18 h
/-! ForgeHeatsModel.tellsJob (II)I -/
def wp_X7_tellsJob (n : Nat) (M : Mem) (i : Nat) (p1 : Int32) (p2 : Int32) (P : Int32 → Mem → Prop) : Prop := m_tp n i 7 ∧ (wp_X7_jobAt n M i p1 (fun r3 M1 => ((¬ r3 = (-1) → ((¬ p2 = 7 → wp_X7_job0 n M1 i r3 p2 (fun r5 M4 => P r5 M4)) ∧ (p2 = 7 → wp_X7_reason n M1 i r3 (fun r7 M6 => P r7 M6)))) ∧ (r3 = (-1) → P (-1) M1))))
abbrev rm_X7_tellsJob : Room := { frames := 5, cells := 0, slots := 0, locals := 112 }
set_option maxHeartbeats 4000000 in
set_option maxRecDepth 100000 in
theorem c_X7_tellsJob {l : Launch} {D : va_G} {cA : Nat → ClassId} {b n : Nat} {M : Mem} {i : Nat} {p1 : Int32} {p2 : Int32} {P : Int32 → Mem → Prop} (h : wp_X7_tellsJob n M i p1 p2 P) : m_C l D cA b n n M yX7_tellsJob cX7_tellsJob 4 (some .int) rm_X7_tellsJob 0 0 [.ref (b + i), .int p1, .int p2] (rI P) := by
  refine m_enter (by decide) (Nat.le_of_ble_eq_true rfl) (fun p e s m below meth c C hr hlk hnm hK hP hS ls hl => ?_)
  have hx := C.1
  have hb := C.2.1
  have hl : lv_has ls 4 [(0, .ref (b + i)), (1, .int p1), (2, .int p2)] := hl
  unfold wp_X7_tellsJob at h
  refine lv_aload_n (pc := 0) hx hb dX7_tellsJob_0 rfl (lv_at hl 0 rfl) ?_
  refine lv_iload_n (pc := 1) hx hb dX7_tellsJob_1 rfl (lv_at hl 1 rfl) ?_
  obtain ⟨hk2, h⟩ := h
  refine m_callVI (pc := 2) (y := yX7_jobAt) (κ := 7) (As := [.int p1]) (rest := []) C hK hP hS hl.1 ⟨Nat.zero_le _, Nat.zero_le _⟩ (c_X7_jobAt h) rfl rfl hk2 (by decide) rfl q_1102 q_1104 q_s57 q_8 q_1105 ⟨rfl, rfl⟩ yd_X7_jobAt ⟨Nat.le_of_ble_eq_true rfl, Nat.le_of_ble_eq_true rfl⟩ (Nat.le_of_ble_eq_true rfl) dX7_tellsJob_2 (fun r3 M1 H locs h hP hS => ?_)
  refine lv_istore_n (lv' := [(3, .int r3), (0, .ref (b + i)), (1, .int p1), (2, .int p2)]) (pc := 5) hx hb dX7_tellsJob_5 rfl hl (by decide) rfl (fun ls hl => ?_)
  refine lv_iload_n (pc := 6) hx hb dX7_tellsJob_6 rfl (lv_at hl 0 rfl) ?_
  refine lv_iconst (v := -1) (pc := 7) hx hb dX7_tellsJob_7 (by decide) ?_
  refine lv_icmp_ne (tgt := 13) (pc := 8) hx hb dX7_tellsJob_8 (by decide) (fun c8 => ?_) (fun c8 => ?_)
  · replace h := h.1 c8
    refine lv_iload_n (pc := 13) hx hb dX7_tellsJob_13 rfl (lv_at hl 3 rfl) ?_
    refine lv_bipush (v := 7) (pc := 14) hx hb dX7_tellsJob_14 (by decide) ?_
    refine lv_icmp_ne (tgt := 27) (pc := 16) hx hb dX7_tellsJob_16 (by decide) (fun c16 => ?_) (fun c16 => ?_)
    · replace h := h.1 c16
      refine lv_aload_n (pc := 27) hx hb dX7_tellsJob_27 rfl (lv_at hl 1 rfl) ?_
      refine lv_iload_n (pc := 28) hx hb dX7_tellsJob_28 rfl (lv_at hl 0 rfl) ?_
      refine lv_iload_n (pc := 29) hx hb dX7_tellsJob_29 rfl (lv_at hl 3 rfl) ?_
      refine m_callVI (pc := 30) (y := yX7_job0) (κ := 7) (As := [.int r3, .int p2]) (rest := []) C hK hP hS hl.1 ⟨Nat.zero_le _, Nat.zero_le _⟩ (c_X7_job0 h) rfl rfl hk2 (by decide) rfl q_1031 q_1033 q_s43 q_8 q_1034 ⟨rfl, rfl⟩ yd_X7_job0 ⟨Nat.le_of_ble_eq_true rfl, Nat.le_of_ble_eq_true rfl⟩ (Nat.le_of_ble_eq_true rfl) dX7_tellsJob_30 (fun r5 M4 H locs h hP hS => ?_)
      exact m_iret (v := r5) (pc := 33) C hr hlk hP hS dX7_tellsJob_33 h
    · replace h := h.2 c16
      refine lv_aload_n (pc := 19) hx hb dX7_tellsJob_19 rfl (lv_at hl 1 rfl) ?_
      refine lv_iload_n (pc := 20) hx hb dX7_tellsJob_20 rfl (lv_at hl 0 rfl) ?_
      refine m_callVI (pc := 21) (y := yX7_reason) (κ := 7) (As := [.int r3]) (rest := []) C hK hP hS hl.1 ⟨Nat.zero_le _, Nat.zero_le _⟩ (c_X7_reason h) rfl rfl hk2 (by decide) rfl q_1222 q_1224 q_s79 q_8 q_1225 ⟨rfl, rfl⟩ yd_X7_reason ⟨Nat.le_of_ble_eq_true rfl, Nat.le_of_ble_eq_true rfl⟩ (Nat.le_of_ble_eq_true rfl) dX7_tellsJob_21 (fun r7 M6 H locs h hP hS => ?_)
      refine lv_goto (tgt := 33) (pc := 24) hx hb dX7_tellsJob_24 (by decide) ?_
      exact m_iret (v := r7) (pc := 33) C hr hlk hP hS dX7_tellsJob_33 h
  · replace h := h.2 c8
    refine lv_iconst (v := -1) (pc := 11) hx hb dX7_tellsJob_11 (by decide) ?_
    exact m_iret (v := (-1)) (pc := 12) C hr hlk hP hS dX7_tellsJob_12 h
/-! ForgeHeatsModel.jobOf (II)I -/
def wp_X7_jobOf (n : Nat) (M : Mem) (i : Nat) (p1 : Int32) (p2 : Int32) (P : Int32 → Mem → Prop) : Prop := m_tp n i 7 ∧ (∀ M2 : Mem, M2 = uI M i 0 0 → (((p1 < 0 → wp_X7_fails n M2 i 1 (fun r4 M3 => P r4 M3)) ∧ (¬ p1 < 0 → wp_X7_in n M2 p2 0 7 (fun z6 M5 => ((z6 = false → wp_X7_fails n M5 i 1 (fun r8 M7 => P r8 M7)) ∧ (z6 = true → wp_X7_tellsJob n M5 i p1 p2 (fun r10 M9 => P r10 M9))))))))
abbrev rm_X7_jobOf : Room := { frames := 6, cells := 0, slots := 0, locals := 135 }
set_option maxHeartbeats 4000000 in
set_option maxRecDepth 100000 in
theorem c_X7_jobOf {l : Launch} {D : va_G} {cA : Nat → ClassId} {b n : Nat} {M : Mem} {i : Nat} {p1 : Int32} {p2 : Int32} {P : Int32 → Mem → Prop} (h : wp_X7_jobOf n M i p1 p2 P) : m_C l D cA b n n M yX7_jobOf cX7_jobOf 3 (some .int) rm_X7_jobOf 0 0 [.ref (b + i), .int p1, .int p2] (rI P) := by
  refine m_enter (by decide) (Nat.le_of_ble_eq_true rfl) (fun p e s m below meth c C hr hlk hnm hK hP hS ls hl => ?_)
  have hx := C.1
  have hb := C.2.1
  have hl : lv_has ls 3 [(0, .ref (b + i)), (1, .int p1), (2, .int p2)] := hl
  unfold wp_X7_jobOf at h
  refine lv_aload_n (pc := 0) hx hb dX7_jobOf_0 rfl (lv_at hl 0 rfl) ?_
  refine lv_iconst (v := 0) (pc := 1) hx hb dX7_jobOf_1 (by decide) ?_
  obtain ⟨hk1, h⟩ := h
  refine pX7_25 (pc := 2) (v := 0) C hK hP hS hk1 dX7_jobOf_2 (fun M2 H locs eM2 hP hS => ?_)
  replace h := h M2 eM2
  refine lv_iload_n (pc := 5) hx hb dX7_jobOf_5 rfl (lv_at hl 1 rfl) ?_
  refine lv_if_lt (tgt := 28) (pc := 6) hx hb dX7_jobOf_6 (by decide) (fun c6 => ?_) (fun c6 => ?_)
  · replace h := h.1 c6
    refine lv_aload_n (pc := 28) hx hb dX7_jobOf_28 rfl (lv_at hl 0 rfl) ?_
    refine lv_iconst (v := 1) (pc := 29) hx hb dX7_jobOf_29 (by decide) ?_
    refine m_callVI (pc := 30) (y := yX7_fails) (κ := 7) (As := [.int 1]) (rest := []) C hK hP hS hl.1 ⟨Nat.zero_le _, Nat.zero_le _⟩ (c_X7_fails h) rfl rfl hk1 (by decide) rfl q_976 q_978 q_s35 q_8 q_979 ⟨rfl, rfl⟩ yd_X7_fails ⟨Nat.le_of_ble_eq_true rfl, Nat.le_of_ble_eq_true rfl⟩ (Nat.le_of_ble_eq_true rfl) dX7_jobOf_30 (fun r4 M3 H locs h hP hS => ?_)
    exact m_iret (v := r4) (pc := 33) C hr hlk hP hS dX7_jobOf_33 h
  · replace h := h.2 c6
    refine lv_iload_n (pc := 9) hx hb dX7_jobOf_9 rfl (lv_at hl 2 rfl) ?_
    refine lv_iconst (v := 0) (pc := 10) hx hb dX7_jobOf_10 (by decide) ?_
    refine lv_bipush (v := 7) (pc := 11) hx hb dX7_jobOf_11 (by decide) ?_
    refine m_callSZ (pc := 13) (y := yX7_in) (As := [.int p2, .int 0, .int 7]) (rest := []) C hK hP hS hl.1 ⟨Nat.zero_le _, Nat.zero_le _⟩ (c_X7_in h) rfl rfl q_973 q_974 q_8 q_975 ⟨rfl, rfl⟩ yd_X7_in ⟨Nat.le_of_ble_eq_true rfl, Nat.le_of_ble_eq_true rfl⟩ (Nat.le_of_ble_eq_true rfl) dX7_jobOf_13 (fun z6 M5 H locs h hP hS => ?_)
    refine lv_if_eq (tgt := 28) (pc := 16) hx hb dX7_jobOf_16 (by decide) (fun c16 => ?_) (fun c16 => ?_)
    · replace h := h.1 (bZ0 c16)
      refine lv_aload_n (pc := 28) hx hb dX7_jobOf_28 rfl (lv_at hl 0 rfl) ?_
      refine lv_iconst (v := 1) (pc := 29) hx hb dX7_jobOf_29 (by decide) ?_
      refine m_callVI (pc := 30) (y := yX7_fails) (κ := 7) (As := [.int 1]) (rest := []) C hK hP hS hl.1 ⟨Nat.zero_le _, Nat.zero_le _⟩ (c_X7_fails h) rfl rfl hk1 (by decide) rfl q_976 q_978 q_s35 q_8 q_979 ⟨rfl, rfl⟩ yd_X7_fails ⟨Nat.le_of_ble_eq_true rfl, Nat.le_of_ble_eq_true rfl⟩ (Nat.le_of_ble_eq_true rfl) dX7_jobOf_30 (fun r8 M7 H locs h hP hS => ?_)
      exact m_iret (v := r8) (pc := 33) C hr hlk hP hS dX7_jobOf_33 h
    · replace h := h.2 (bZ1 c16)
      refine lv_aload_n (pc := 19) hx hb dX7_jobOf_19 rfl (lv_at hl 0 rfl) ?_
      refine lv_iload_n (pc := 20) hx hb dX7_jobOf_20 rfl (lv_at hl 1 rfl) ?_
      refine lv_iload_n (pc := 21) hx hb dX7_jobOf_21 rfl (lv_at hl 2 rfl) ?_
      refine m_callVI (pc := 22) (y := yX7_tellsJob) (κ := 7) (As := [.int p1, .int p2]) (rest := []) C hK hP hS hl.1 ⟨Nat.zero_le _, Nat.zero_le _⟩ (c_X7_tellsJob h) rfl rfl hk1 (by decide) rfl q_1218 q_1220 q_s78 q_8 q_1221 ⟨rfl, rfl⟩ yd_X7_tellsJob ⟨Nat.le_of_ble_eq_true rfl, Nat.le_of_ble_eq_true rfl⟩ (Nat.le_of_ble_eq_true rfl) dX7_jobOf_22 (fun r10 M9 H locs h hP hS => ?_)
      refine lv_goto (tgt := 33) (pc := 25) hx hb dX7_jobOf_25 (by decide) ?_
      exact m_iret (v := r10) (pc := 33) C hr hlk hP hS dX7_jobOf_33 h
/-! ForgeHeatsModel.tellsBillet (II)I -/
def wp_X7_tellsBillet (n : Nat) (M : Mem) (i : Nat) (p1 : Int32) (p2 : Int32) (P : Int32 → Mem → Prop) : Prop := m_tp n i 7 ∧ (wp_X7_billet0 n M i p1 0 (fun r3 M1 => ((¬ r3 = 0 → ((¬ p2 = 0 → wp_X7_billet0 n M1 i p1 p2 (fun r5 M4 => P r5 M4)) ∧ (p2 = 0 → wp_X7_billet0 n M1 i p1 0 (fun r7 M6 => P (r7 - 1) M6)))) ∧ (r3 = 0 → P (-1) M1))))
abbrev rm_X7_tellsBillet : Room := { frames := 1, cells := 0, slots := 0, locals := 22 }
set_option maxHeartbeats 4000000 in
set_option maxRecDepth 100000 in
theorem c_X7_tellsBillet {l : Launch} {D : va_G} {cA : Nat → ClassId} {b n : Nat} {M : Mem} {i : Nat} {p1 : Int32} {p2 : Int32} {P : Int32 → Mem → Prop} (h : wp_X7_tellsBillet n M i p1 p2 P) : m_C l D cA b n n M yX7_tellsBillet cX7_tellsBillet 3 (some .int) rm_X7_tellsBillet 0 0 [.ref (b + i), .int p1, .int p2] (rI P) := by
  refine m_enter (by decide) (Nat.le_of_ble_eq_true rfl) (fun p e s m below meth c C hr hlk hnm hK hP hS ls hl => ?_)
  have hx := C.1
  have hb := C.2.1
  have hl : lv_has ls 3 [(0, .ref (b + i)), (1, .int p1), (2, .int p2)] := hl
  unfold wp_X7_tellsBillet at h
  refine lv_aload_n (pc := 0) hx hb dX7_tellsBillet_0 rfl (lv_at hl 0 rfl) ?_
  refine lv_iload_n (pc := 1) hx hb dX7_tellsBillet_1 rfl (lv_at hl 1 rfl) ?_
  refine lv_iconst (v := 0) (pc := 2) hx hb dX7_tellsBillet_2 (by decide) ?_
  obtain ⟨hk2, h⟩ := h
  refine m_callVI (pc := 3) (y := yX7_billet0) (κ := 7) (As := [.int p1, .int 0]) (rest := []) C hK hP hS hl.1 ⟨Nat.zero_le _, Nat.zero_le _⟩ (c_X7_billet0 h) rfl rfl hk2 (by decide) rfl q_1039 q_1041 q_s45 q_8 q_1042 ⟨rfl, rfl⟩ yd_X7_billet0 ⟨Nat.le_of_ble_eq_true rfl, Nat.le_of_ble_eq_true rfl⟩ (Nat.le_of_ble_eq_true rfl) dX7_tellsBillet_3 (fun r3 M1 H locs h hP hS => ?_)
  refine lv_if_ne (tgt := 11) (pc := 6) hx hb dX7_tellsBillet_6 (by decide) (fun c6 => ?_) (fun c6 => ?_)
  · replace h := h.1 c6
    refine lv_iload_n (pc := 11) hx hb dX7_tellsBillet_11 rfl (lv_at hl 2 rfl) ?_
    refine lv_if_ne (tgt := 26) (pc := 12) hx hb dX7_tellsBillet_12 (by decide) (fun c12 => ?_) (fun c12 => ?_)
    · replace h := h.1 c12
      refine lv_aload_n (pc := 26) hx hb dX7_tellsBillet_26 rfl (lv_at hl 0 rfl) ?_
      refine lv_iload_n (pc := 27) hx hb dX7_tellsBillet_27 rfl (lv_at hl 1 rfl) ?_
      refine lv_iload_n (pc := 28) hx hb dX7_tellsBillet_28 rfl (lv_at hl 2 rfl) ?_
      refine m_callVI (pc := 29) (y := yX7_billet0) (κ := 7) (As := [.int p1, .int p2]) (rest := []) C hK hP hS hl.1 ⟨Nat.zero_le _, Nat.zero_le _⟩ (c_X7_billet0 h) rfl rfl hk2 (by decide) rfl q_1039 q_1041 q_s45 q_8 q_1042 ⟨rfl, rfl⟩ yd_X7_billet0 ⟨Nat.le_of_ble_eq_true rfl, Nat.le_of_ble_eq_true rfl⟩ (Nat.le_of_ble_eq_true rfl) dX7_tellsBillet_29 (fun r5 M4 H locs h hP hS => ?_)
      exact m_iret (v := r5) (pc := 32) C hr hlk hP hS dX7_tellsBillet_32 h
    · replace h := h.2 c12
      refine lv_aload_n (pc := 15) hx hb dX7_tellsBillet_15 rfl (lv_at hl 0 rfl) ?_
      refine lv_iload_n (pc := 16) hx hb dX7_tellsBillet_16 rfl (lv_at hl 1 rfl) ?_
      refine lv_iconst (v := 0) (pc := 17) hx hb dX7_tellsBillet_17 (by decide) ?_
      refine m_callVI (pc := 18) (y := yX7_billet0) (κ := 7) (As := [.int p1, .int 0]) (rest := []) C hK hP hS hl.1 ⟨Nat.zero_le _, Nat.zero_le _⟩ (c_X7_billet0 h) rfl rfl hk2 (by decide) rfl q_1039 q_1041 q_s45 q_8 q_1042 ⟨rfl, rfl⟩ yd_X7_billet0 ⟨Nat.le_of_ble_eq_true rfl, Nat.le_of_ble_eq_true rfl⟩ (Nat.le_of_ble_eq_true rfl) dX7_tellsBillet_18 (fun r7 M6 H locs h hP hS => ?_)
      refine lv_iconst (v := 1) (pc := 21) hx hb dX7_tellsBillet_21 (by decide) ?_
      refine lv_isub (pc := 22) hx hb dX7_tellsBillet_22 ?_
      refine lv_goto (tgt := 32) (pc := 23) hx hb dX7_tellsBillet_23 (by decide) ?_
      exact m_iret (v := r7 - 1) (pc := 32) C hr hlk hP hS dX7_tellsBillet_32 h
  · replace h := h.2 c6
    refine lv_iconst (v := -1) (pc := 9) hx hb dX7_tellsBillet_9 (by decide) ?_
    exact m_iret (v := (-1)) (pc := 10) C hr hlk hP hS dX7_tellsBillet_10 h
/-! ForgeHeatsModel.billet (II)I -/
def wp_X7_billet (n : Nat) (M : Mem) (i : Nat) (p1 : Int32) (p2 : Int32) (P : Int32 → Mem → Prop) : Prop := m_tp n i 7 ∧ (∀ M2 : Mem, M2 = uI M i 0 0 → (wp_X7_in n M2 p1 0 6 (fun z4 M3 => ((z4 = true → wp_X7_in n M3 p2 0 3 (fun z6 M5 => ((z6 = false → wp_X7_fails n M5 i 2 (fun r8 M7 => P r8 M7)) ∧ (z6 = true → wp_X7_tellsBillet n M5 i p1 p2 (fun r10 M9 => P r10 M9))))) ∧ (z4 = false → wp_X7_fails n M3 i 1 (fun r12 M11 => P r12 M11))))))
abbrev rm_X7_billet : Room := { frames := 2, cells := 0, slots := 0, locals := 44 }
set_option maxHeartbeats 4000000 in
set_option maxRecDepth 100000 in
theorem c_X7_billet {l : Launch} {D : va_G} {cA : Nat → ClassId} {b n : Nat} {M : Mem} {i : Nat} {p1 : Int32} {p2 : Int32} {P : Int32 → Mem → Prop} (h : wp_X7_billet n M i p1 p2 P) : m_C l D cA b n n M yX7_billet cX7_billet 3 (some .int) rm_X7_billet 0 0 [.ref (b + i), .int p1, .int p2] (rI P) := by
  refine m_enter (by decide) (Nat.le_of_ble_eq_true rfl) (fun p e s m below meth c C hr hlk hnm hK hP hS ls hl => ?_)
  have hx := C.1
  have hb := C.2.1
  have hl : lv_has ls 3 [(0, .ref (b + i)), (1, .int p1), (2, .int p2)] := hl
  unfold wp_X7_billet at h
  refine lv_aload_n (pc := 0) hx hb dX7_billet_0 rfl (lv_at hl 0 rfl) ?_
  refine lv_iconst (v := 0) (pc := 1) hx hb dX7_billet_1 (by decide) ?_
  obtain ⟨hk1, h⟩ := h
  refine pX7_25 (pc := 2) (v := 0) C hK hP hS hk1 dX7_billet_2 (fun M2 H locs eM2 hP hS => ?_)
  replace h := h M2 eM2
  refine lv_iload_n (pc := 5) hx hb dX7_billet_5 rfl (lv_at hl 1 rfl) ?_
  refine lv_iconst (v := 0) (pc := 6) hx hb dX7_billet_6 (by decide) ?_
  refine lv_bipush (v := 6) (pc := 7) hx hb dX7_billet_7 (by decide) ?_
  refine m_callSZ (pc := 9) (y := yX7_in) (As := [.int p1, .int 0, .int 6]) (rest := []) C hK hP hS hl.1 ⟨Nat.zero_le _, Nat.zero_le _⟩ (c_X7_in h) rfl rfl q_973 q_974 q_8 q_975 ⟨rfl, rfl⟩ yd_X7_in ⟨Nat.le_of_ble_eq_true rfl, Nat.le_of_ble_eq_true rfl⟩ (Nat.le_of_ble_eq_true rfl) dX7_billet_9 (fun z4 M3 H locs h hP hS => ?_)
  refine lv_if_ne (tgt := 21) (pc := 12) hx hb dX7_billet_12 (by decide) (fun c12 => ?_) (fun c12 => ?_)
  · replace h := h.1 (bZ1 c12)
    refine lv_iload_n (pc := 21) hx hb dX7_billet_21 rfl (lv_at hl 2 rfl) ?_
    refine lv_iconst (v := 0) (pc := 22) hx hb dX7_billet_22 (by decide) ?_
    refine lv_iconst (v := 3) (pc := 23) hx hb dX7_billet_23 (by decide) ?_
    refine m_callSZ (pc := 24) (y := yX7_in) (As := [.int p2, .int 0, .int 3]) (rest := []) C hK hP hS hl.1 ⟨Nat.zero_le _, Nat.zero_le _⟩ (c_X7_in h) rfl rfl q_973 q_974 q_8 q_975 ⟨rfl, rfl⟩ yd_X7_in ⟨Nat.le_of_ble_eq_true rfl, Nat.le_of_ble_eq_true rfl⟩ (Nat.le_of_ble_eq_true rfl) dX7_billet_24 (fun z6 M5 H locs h hP hS => ?_)
    refine lv_if_eq (tgt := 39) (pc := 27) hx hb dX7_billet_27 (by decide) (fun c27 => ?_) (fun c27 => ?_)
    · replace h := h.1 (bZ0 c27)
      refine lv_aload_n (pc := 39) hx hb dX7_billet_39 rfl (lv_at hl 0 rfl) ?_
      refine lv_iconst (v := 2) (pc := 40) hx hb dX7_billet_40 (by decide) ?_
      refine m_callVI (pc := 41) (y := yX7_fails) (κ := 7) (As := [.int 2]) (rest := []) C hK hP hS hl.1 ⟨Nat.zero_le _, Nat.zero_le _⟩ (c_X7_fails h) rfl rfl hk1 (by decide) rfl q_976 q_978 q_s35 q_8 q_979 ⟨rfl, rfl⟩ yd_X7_fails ⟨Nat.le_of_ble_eq_true rfl, Nat.le_of_ble_eq_true rfl⟩ (Nat.le_of_ble_eq_true rfl) dX7_billet_41 (fun r8 M7 H locs h hP hS => ?_)
      exact m_iret (v := r8) (pc := 44) C hr hlk hP hS dX7_billet_44 h
    · replace h := h.2 (bZ1 c27)
      refine lv_aload_n (pc := 30) hx hb dX7_billet_30 rfl (lv_at hl 0 rfl) ?_
      refine lv_iload_n (pc := 31) hx hb dX7_billet_31 rfl (lv_at hl 1 rfl) ?_
      refine lv_iload_n (pc := 32) hx hb dX7_billet_32 rfl (lv_at hl 2 rfl) ?_
      refine m_callVI (pc := 33) (y := yX7_tellsBillet) (κ := 7) (As := [.int p1, .int p2]) (rest := []) C hK hP hS hl.1 ⟨Nat.zero_le _, Nat.zero_le _⟩ (c_X7_tellsBillet h) rfl rfl hk1 (by decide) rfl q_1230 q_1232 q_s80 q_8 q_1233 ⟨rfl, rfl⟩ yd_X7_tellsBillet ⟨Nat.le_of_ble_eq_true rfl, Nat.le_of_ble_eq_true rfl⟩ (Nat.le_of_ble_eq_true rfl) dX7_billet_33 (fun r10 M9 H locs h hP hS => ?_)
      refine lv_goto (tgt := 44) (pc := 36) hx hb dX7_billet_36 (by decide) ?_
      exact m_iret (v := r10) (pc := 44) C hr hlk hP hS dX7_billet_44 h
  · replace h := h.2 (bZ0 c12)
    refine lv_aload_n (pc := 15) hx hb dX7_billet_15 rfl (lv_at hl 0 rfl) ?_
    refine lv_iconst (v := 1) (pc := 16) hx hb dX7_billet_16 (by decide) ?_
    refine m_callVI (pc := 17) (y := yX7_fails) (κ := 7) (As := [.int 1]) (rest := []) C hK hP hS hl.1 ⟨Nat.zero_le _, Nat.zero_le _⟩ (c_X7_fails h) rfl rfl hk1 (by decide) rfl q_976 q_978 q_s35 q_8 q_979 ⟨rfl, rfl⟩ yd_X7_fails ⟨Nat.le_of_ble_eq_true rfl, Nat.le_of_ble_eq_true rfl⟩ (Nat.le_of_ble_eq_true rfl) dX7_billet_17 (fun r12 M11 H locs h hP hS => ?_)
    exact m_iret (v := r12) (pc := 20) C hr hlk hP hS dX7_billet_20 h
/-! ForgeHeatsModel.rushJobs ()I -/
def wpB_X7_rushJobs_4 (n : Nat) (P : Int32 → Mem → Prop) (R_ : Mem → Nat → Int32 → Int32 → Prop) (M : Mem) (x0 : Nat) (x1 : Int32) (x2 : Int32) : Prop := m_tp n x0 7 ∧ (∃ j2 : Nat, M.2.1 x0 1 = some j2 ∧ (m_tp n j2 8 ∧ (vp_in 5 (m_len j2) ∧ ((((M.1 j2 (5 : Int32).toNatClampNeg) ≤ x2 → P x1 M) ∧ (¬ (M.1 j2 (5 : Int32).toNatClampNeg) ≤ x2 → wp_X7_job0 n M x0 x2 6 (fun r6 M5 => ∀ v7 : Int32, v7 = (x1 + r6) → (∀ v8 : Int32, v8 = x2 + 1 → (R_ M5 x0 v7 v8)))))))))
def wpL_X7_rushJobs_4 (n : Nat) (P : Int32 → Mem → Prop) : Nat → Mem → Nat → Int32 → Int32 → Prop
  | 0 => fun _ _ _ _ => False
  | f + 1 => fun M x0 x1 x2 => wpB_X7_rushJobs_4 n P (wpL_X7_rushJobs_4 n P f) M x0 x1 x2
def wp_X7_rushJobs (n : Nat) (M : Mem) (i : Nat) (P : Int32 → Mem → Prop) : Prop := ∃ f : Nat, wpL_X7_rushJobs_4 n P f M i 0 0
abbrev rm_X7_rushJobs : Room := { frames := 1, cells := 0, slots := 0, locals := 22 }
set_option maxHeartbeats 4000000 in
set_option maxRecDepth 100000 in
theorem c_X7_rushJobs {l : Launch} {D : va_G} {cA : Nat → ClassId} {b n : Nat} {M : Mem} {i : Nat} {P : Int32 → Mem → Prop} (h : wp_X7_rushJobs n M i P) : m_C l D cA b n n M yX7_rushJobs cX7_rushJobs 3 (some .int) rm_X7_rushJobs 0 0 [.ref (b + i)] (rI P) := by
  refine m_enter (by decide) (Nat.le_of_ble_eq_true rfl) (fun p e s m below meth c C hr hlk hnm hK hP hS ls hl => ?_)
  have hx := C.1
  have hb := C.2.1
  have hl : lv_has ls 3 [(0, .ref (b + i))] := hl
  have L4 : ∀ f : Nat, ∀ (M : Mem) (H : Heap) (locs : List Loc) (ls : Array Slot) (x0 : Nat) (x1 : Int32) (x2 : Int32), wpL_X7_rushJobs_4 n P f M x0 x1 x2 → m_H D cA b n M H → va_S (m_A b) s.heap H locs → lv_has ls 3 [(0, .ref (b + x0)), (1, .int x1), (2, .int x2)] → W p l e rm_X7_rushJobs s m ([.ref (b + i)] : List Value).toArray below meth c H locs 0 0 (MQ below (m_Q D cA b n (rI P)) ([.ref (b + i)] : List Value).toArray s 0 0 (m_A b)) (F0 m 4 ls []) := by
    clear h
    intro f
    induction f with
    | zero => intro M H locs ls x0 x1 x2 h; exact h.elim
    | succ f ih =>
      intro M H locs ls x0 x1 x2 h hP hS hl
      have h : wpB_X7_rushJobs_4 n P (wpL_X7_rushJobs_4 n P f) M x0 x1 x2 := h
      unfold wpB_X7_rushJobs_4 at h
      refine lv_iload_n (pc := 4) hx hb dX7_rushJobs_4 rfl (lv_at hl 2 rfl) ?_
      refine lv_aload_n (pc := 5) hx hb dX7_rushJobs_5 rfl (lv_at hl 0 rfl) ?_
      obtain ⟨hk1, h⟩ := h
      obtain ⟨j2, hj2, h⟩ := h
      refine gX7_7 (pc := 6) C hK hP hk1 hj2 dX7_rushJobs_6 ?_
      refine lv_iconst (v := 5) (pc := 9) hx hb dX7_rushJobs_9 (by decide) ?_
      obtain ⟨hk3, h⟩ := h
      obtain ⟨hi4, h⟩ := h
      refine m_iald (pc := 10) C hK hP hk3 hi4 dX7_rushJobs_10 ?_
      refine lv_icmp_ge (tgt := 30) (pc := 11) hx hb dX7_rushJobs_11 (by decide) (fun c11 => ?_) (fun c11 => ?_)
      · replace h := h.1 c11
        refine lv_iload_n (pc := 30) hx hb dX7_rushJobs_30 rfl (lv_at hl 1 rfl) ?_
        exact m_iret (v := x1) (pc := 31) C hr hlk hP hS dX7_rushJobs_31 h
      · replace h := h.2 c11
        refine lv_iload_n (pc := 14) hx hb dX7_rushJobs_14 rfl (lv_at hl 1 rfl) ?_
        refine lv_aload_n (pc := 15) hx hb dX7_rushJobs_15 rfl (lv_at hl 0 rfl) ?_
        refine lv_iload_n (pc := 16) hx hb dX7_rushJobs_16 rfl (lv_at hl 2 rfl) ?_
        refine lv_bipush (v := 6) (pc := 17) hx hb dX7_rushJobs_17 (by decide) ?_
        refine m_callVI (pc := 19) (y := yX7_job0) (κ := 7) (As := [.int x2, .int 6]) (rest := [.int x1]) C hK hP hS hl.1 ⟨Nat.zero_le _, Nat.zero_le _⟩ (c_X7_job0 h) rfl rfl hk1 (by decide) rfl q_1031 q_1033 q_s43 q_8 q_1034 ⟨rfl, rfl⟩ yd_X7_job0 ⟨Nat.le_of_ble_eq_true rfl, Nat.le_of_ble_eq_true rfl⟩ (Nat.le_of_ble_eq_true rfl) dX7_rushJobs_19 (fun r6 M5 H locs h hP hS => ?_)
        refine lv_iadd (pc := 22) hx hb dX7_rushJobs_22 ?_
        refine lv_topi (fun v7 ev7 => ?_)
        replace h := h v7 ev7
        refine lv_istore_n (lv' := [(1, .int v7), (0, .ref (b + x0)), (2, .int x2)]) (pc := 23) hx hb dX7_rushJobs_23 rfl hl (by decide) rfl (fun ls hl => ?_)
        obtain ⟨v8, ev8⟩ : ∃ y : Int32, y = x2 + 1 := ⟨_, rfl⟩
        replace h := h v8 ev8
        refine lv_iinc (v := v8) (lv' := [(2, .int v8), (1, .int v7), (0, .ref (b + x0))]) (pc := 24) hx hb dX7_rushJobs_24 hl (k := 2) rfl (by rw [ev8]; rfl) (by decide) rfl (fun ls hl => ?_)
        refine lv_goto (tgt := 4) (pc := 27) hx hb dX7_rushJobs_27 (by decide) ?_
        exact ih _ _ _ _ _ _ _ h hP hS (lv_sub hl [2, 1, 0] rfl)
  unfold wp_X7_rushJobs at h
  refine lv_iconst (v := 0) (pc := 0) hx hb dX7_rushJobs_0 (by decide) ?_
  refine lv_istore_n (lv' := [(1, .int 0), (0, .ref (b + i))]) (pc := 1) hx hb dX7_rushJobs_1 rfl hl (by decide) rfl (fun ls hl => ?_)
  refine lv_iconst (v := 0) (pc := 2) hx hb dX7_rushJobs_2 (by decide) ?_
  refine lv_istore_n (lv' := [(2, .int 0), (1, .int 0), (0, .ref (b + i))]) (pc := 3) hx hb dX7_rushJobs_3 rfl hl (by decide) rfl (fun ls hl => ?_)
  obtain ⟨f, h⟩ := h
  exact L4 f _ _ _ _ _ _ _ h hP hS (lv_sub hl [2, 1, 0] rfl)
/-! ForgeHeatsModel.inFurnace ()I -/
def wpB_X7_inFurnace_4 (n : Nat) (P : Int32 → Mem → Prop) (R_ : Mem → Nat → Int32 → Int32 → Prop) (M : Mem) (x0 : Nat) (x1 : Int32) (x2 : Int32) : Prop := ((6 ≤ x2 → P x1 M) ∧ (¬ 6 ≤ x2 → m_tp n x0 7 ∧ (wp_X7_billet0 n M x0 x2 0 (fun r3 M1 => ∀ v4 : Int32, v4 = (x1 + (bI (if r3 ≤ 0 then false else true))) → (∀ v5 : Int32, v5 = x2 + 1 → (R_ M1 x0 v4 v5))))))
def wpL_X7_inFurnace_4 (n : Nat) (P : Int32 → Mem → Prop) : Nat → Mem → Nat → Int32 → Int32 → Prop
  | 0 => fun _ _ _ _ => False
  | f + 1 => fun M x0 x1 x2 => wpB_X7_inFurnace_4 n P (wpL_X7_inFurnace_4 n P f) M x0 x1 x2
def wp_X7_inFurnace (n : Nat) (M : Mem) (i : Nat) (P : Int32 → Mem → Prop) : Prop := ∃ f : Nat, wpL_X7_inFurnace_4 n P f M i 0 0
abbrev rm_X7_inFurnace : Room := { frames := 1, cells := 0, slots := 0, locals := 22 }
set_option maxHeartbeats 4000000 in
set_option maxRecDepth 100000 in
theorem c_X7_inFurnace {l : Launch} {D : va_G} {cA : Nat → ClassId} {b n : Nat} {M : Mem} {i : Nat} {P : Int32 → Mem → Prop} (h : wp_X7_inFurnace n M i P) : m_C l D cA b n n M yX7_inFurnace cX7_inFurnace 3 (some .int) rm_X7_inFurnace 0 0 [.ref (b + i)] (rI P) := by
  refine m_enter (by decide) (Nat.le_of_ble_eq_true rfl) (fun p e s m below meth c C hr hlk hnm hK hP hS ls hl => ?_)
  have hx := C.1
  have hb := C.2.1
  have hl : lv_has ls 3 [(0, .ref (b + i))] := hl
  have L4 : ∀ f : Nat, ∀ (M : Mem) (H : Heap) (locs : List Loc) (ls : Array Slot) (x0 : Nat) (x1 : Int32) (x2 : Int32), wpL_X7_inFurnace_4 n P f M x0 x1 x2 → m_H D cA b n M H → va_S (m_A b) s.heap H locs → lv_has ls 3 [(0, .ref (b + x0)), (1, .int x1), (2, .int x2)] → W p l e rm_X7_inFurnace s m ([.ref (b + i)] : List Value).toArray below meth c H locs 0 0 (MQ below (m_Q D cA b n (rI P)) ([.ref (b + i)] : List Value).toArray s 0 0 (m_A b)) (F0 m 4 ls []) := by
    clear h
    intro f
    induction f with
    | zero => intro M H locs ls x0 x1 x2 h; exact h.elim
    | succ f ih =>
      intro M H locs ls x0 x1 x2 h hP hS hl
      have h : wpB_X7_inFurnace_4 n P (wpL_X7_inFurnace_4 n P f) M x0 x1 x2 := h
      unfold wpB_X7_inFurnace_4 at h
      refine lv_iload_n (pc := 4) hx hb dX7_inFurnace_4 rfl (lv_at hl 2 rfl) ?_
      refine lv_bipush (v := 6) (pc := 5) hx hb dX7_inFurnace_5 (by decide) ?_
      refine lv_icmp_ge (tgt := 33) (pc := 7) hx hb dX7_inFurnace_7 (by decide) (fun c7 => ?_) (fun c7 => ?_)
      · replace h := h.1 c7
        refine lv_iload_n (pc := 33) hx hb dX7_inFurnace_33 rfl (lv_at hl 1 rfl) ?_
        exact m_iret (v := x1) (pc := 34) C hr hlk hP hS dX7_inFurnace_34 h
      · replace h := h.2 c7
        refine lv_iload_n (pc := 10) hx hb dX7_inFurnace_10 rfl (lv_at hl 1 rfl) ?_
        refine lv_aload_n (pc := 11) hx hb dX7_inFurnace_11 rfl (lv_at hl 0 rfl) ?_
        refine lv_iload_n (pc := 12) hx hb dX7_inFurnace_12 rfl (lv_at hl 2 rfl) ?_
        refine lv_iconst (v := 0) (pc := 13) hx hb dX7_inFurnace_13 (by decide) ?_
        obtain ⟨hk2, h⟩ := h
        refine m_callVI (pc := 14) (y := yX7_billet0) (κ := 7) (As := [.int x2, .int 0]) (rest := [.int x1]) C hK hP hS hl.1 ⟨Nat.zero_le _, Nat.zero_le _⟩ (c_X7_billet0 h) rfl rfl hk2 (by decide) rfl q_1039 q_1041 q_s45 q_8 q_1042 ⟨rfl, rfl⟩ yd_X7_billet0 ⟨Nat.le_of_ble_eq_true rfl, Nat.le_of_ble_eq_true rfl⟩ (Nat.le_of_ble_eq_true rfl) dX7_inFurnace_14 (fun r3 M1 H locs h hP hS => ?_)
        refine m_joinZ (z := if r3 ≤ 0 then false else true) (jp := 25) (rest := [.int x1]) ?_ (fun hJ => ?_)
        rotate_left
        · skip
          refine lv_if_le (tgt := 24) (pc := 17) hx hb dX7_inFurnace_17 (by decide) (fun c17 => ?_) (fun c17 => ?_)
          · skip
            refine lv_iconst (v := 0) (pc := 24) hx hb dX7_inFurnace_24 (by decide) ?_
            exact hJ _ false rfl (by rw [if_pos c17])
          · skip
            refine lv_iconst (v := 1) (pc := 20) hx hb dX7_inFurnace_20 (by decide) ?_
            refine lv_goto (tgt := 25) (pc := 21) hx hb dX7_inFurnace_21 (by decide) ?_
            exact hJ _ true rfl (by rw [if_neg c17])
        refine lv_iadd (pc := 25) hx hb dX7_inFurnace_25 ?_
        refine lv_topi (fun v4 ev4 => ?_)
        replace h := h v4 ev4
        refine lv_istore_n (lv' := [(1, .int v4), (0, .ref (b + x0)), (2, .int x2)]) (pc := 26) hx hb dX7_inFurnace_26 rfl hl (by decide) rfl (fun ls hl => ?_)
        obtain ⟨v5, ev5⟩ : ∃ y : Int32, y = x2 + 1 := ⟨_, rfl⟩
        replace h := h v5 ev5
        refine lv_iinc (v := v5) (lv' := [(2, .int v5), (1, .int v4), (0, .ref (b + x0))]) (pc := 27) hx hb dX7_inFurnace_27 hl (k := 2) rfl (by rw [ev5]; rfl) (by decide) rfl (fun ls hl => ?_)
        refine lv_goto (tgt := 4) (pc := 30) hx hb dX7_inFurnace_30 (by decide) ?_
        exact ih _ _ _ _ _ _ _ h hP hS (lv_sub hl [2, 1, 0] rfl)
  unfold wp_X7_inFurnace at h
  refine lv_iconst (v := 0) (pc := 0) hx hb dX7_inFurnace_0 (by decide) ?_
  refine lv_istore_n (lv' := [(1, .int 0), (0, .ref (b + i))]) (pc := 1) hx hb dX7_inFurnace_1 rfl hl (by decide) rfl (fun ls hl => ?_)
  refine lv_iconst (v := 0) (pc := 2) hx hb dX7_inFurnace_2 (by decide) ?_
  refine lv_istore_n (lv' := [(2, .int 0), (1, .int 0), (0, .ref (b + i))]) (pc := 3) hx hb dX7_inFurnace_3 rfl hl (by decide) rfl (fun ls hl => ?_)
  obtain ⟨f, h⟩ := h
  exact L4 f _ _ _ _ _ _ _ h hP hS (lv_sub hl [2, 1, 0] rfl)
/-! ForgeHeatsModel.counts (I)I -/
def wp_X7_counts (n : Nat) (M : Mem) (i : Nat) (p1 : Int32) (P : Int32 → Mem → Prop) : Prop := ((p1 = 0 → m_tp n i 7 ∧ (∃ j2 : Nat, M.2.1 i 1 = some j2 ∧ (m_tp n j2 8 ∧ (vp_in 4 (m_len j2) ∧ (P (M.1 j2 (4 : Int32).toNatClampNeg) M))))) ∧ (¬ p1 = 0 → ((p1 = 1 → m_tp n i 7 ∧ (∃ j6 : Nat, M.2.1 i 1 = some j6 ∧ (m_tp n j6 8 ∧ (vp_in 5 (m_len j6) ∧ (P (M.1 j6 (5 : Int32).toNatClampNeg) M))))) ∧ (¬ p1 = 1 → ((p1 = 2 → m_tp n i 7 ∧ (wp_X7_rushJobs n M i (fun r11 M9 => P r11 M9))) ∧ (¬ p1 = 2 → ((p1 = 3 → m_tp n i 7 ∧ (wp_X7_inFurnace n M i (fun r14 M12 => P r14 M12))) ∧ (¬ p1 = 3 → ((p1 = 4 → m_tp n i 7 ∧ (∃ j16 : Nat, M.2.1 i 1 = some j16 ∧ (m_tp n j16 8 ∧ (vp_in ((7 + p1) - 4) (m_len j16) ∧ (P (M.1 j16 ((7 + p1) - 4).toNatClampNeg) M))))) ∧ (¬ p1 = 4 → ((p1 = 5 → m_tp n i 7 ∧ (∃ j20 : Nat, M.2.1 i 1 = some j20 ∧ (m_tp n j20 8 ∧ (vp_in ((7 + p1) - 4) (m_len j20) ∧ (P (M.1 j20 ((7 + p1) - 4).toNatClampNeg) M))))) ∧ (¬ p1 = 5 → ((p1 = 6 → m_tp n i 7 ∧ (∃ j24 : Nat, M.2.1 i 1 = some j24 ∧ (m_tp n j24 8 ∧ (vp_in ((7 + p1) - 4) (m_len j24) ∧ (P (M.1 j24 ((7 + p1) - 4).toNatClampNeg) M))))) ∧ (¬ p1 = 6 → ((p1 = 7 → m_tp n i 7 ∧ (∃ j28 : Nat, M.2.1 i 1 = some j28 ∧ (m_tp n j28 8 ∧ (vp_in ((7 + p1) - 4) (m_len j28) ∧ (P (M.1 j28 ((7 + p1) - 4).toNatClampNeg) M))))) ∧ (¬ p1 = 7 → ((p1 = 8 → m_tp n i 7 ∧ (∃ j32 : Nat, M.2.1 i 1 = some j32 ∧ (m_tp n j32 8 ∧ (vp_in ((7 + p1) - 4) (m_len j32) ∧ (P (M.1 j32 ((7 + p1) - 4).toNatClampNeg) M))))) ∧ (¬ p1 = 8 → ((p1 = 9 → m_tp n i 7 ∧ (∃ j36 : Nat, M.2.1 i 1 = some j36 ∧ (m_tp n j36 8 ∧ (vp_in ((7 + p1) - 4) (m_len j36) ∧ (P (M.1 j36 ((7 + p1) - 4).toNatClampNeg) M))))) ∧ (¬ p1 = 9 → ((p1 = 10 → m_tp n i 7 ∧ (∃ j40 : Nat, M.2.1 i 1 = some j40 ∧ (m_tp n j40 8 ∧ (vp_in 13 (m_len j40) ∧ (P ((M.1 j40 (13 : Int32).toNatClampNeg) - 1) M))))) ∧ (¬ p1 = 10 → ((p1 = 11 → m_tp n i 7 ∧ (P (M.1 i 4) M)) ∧ (¬ p1 = 11 → m_tp n i 7 ∧ (∃ j45 : Nat, M.2.1 i 1 = some j45 ∧ (m_tp n j45 8 ∧ (vp_in ((7 + p1) - 4) (m_len j45) ∧ (P (M.1 j45 ((7 + p1) - 4).toNatClampNeg) M))))))))))))))))))))))))))))
abbrev rm_X7_counts : Room := { frames := 2, cells := 0, slots := 0, locals := 44 }
set_option maxHeartbeats 4000000 in
set_option maxRecDepth 100000 in
theorem c_X7_counts {l : Launch} {D : va_G} {cA : Nat → ClassId} {b n : Nat} {M : Mem} {i : Nat} {p1 : Int32} {P : Int32 → Mem → Prop} (h : wp_X7_counts n M i p1 P) : m_C l D cA b n n M yX7_counts cX7_counts 2 (some .int) rm_X7_counts 0 0 [.ref (b + i), .int p1] (rI P) := by
  refine m_enter (by decide) (Nat.le_of_ble_eq_true rfl) (fun p e s m below meth c C hr hlk hnm hK hP hS ls hl => ?_)
  have hx := C.1
  have hb := C.2.1
  have hl : lv_has ls 2 [(0, .ref (b + i)), (1, .int p1)] := hl
  unfold wp_X7_counts at h
  refine lv_iload_n (pc := 0) hx hb dX7_counts_0 rfl (lv_at hl 1 rfl) ?_
  by_cases n1_0 : p1 = 0
  · replace h := h.1 n1_0
    refine m_case (v := 0) (off := 63) (tgt := 64) (pc := 1) hx hb n1_0 dX7_counts_1 (by decide) (by decide) (by decide) (by decide) ?_
    refine lv_aload_n (pc := 64) hx hb dX7_counts_64 rfl (lv_at hl 0 rfl) ?_
    obtain ⟨hk1, h⟩ := h
    obtain ⟨j2, hj2, h⟩ := h
    refine gX7_7 (pc := 65) C hK hP hk1 hj2 dX7_counts_65 ?_
    refine lv_iconst (v := 4) (pc := 68) hx hb dX7_counts_68 (by decide) ?_
    obtain ⟨hk3, h⟩ := h
    obtain ⟨hi4, h⟩ := h
    refine m_iald (pc := 69) C hK hP hk3 hi4 dX7_counts_69 ?_
    exact m_iret (v := M.1 j2 (4 : Int32).toNatClampNeg) (pc := 70) C hr hlk hP hS dX7_counts_70 h
  · replace h := h.2 n1_0
    by_cases n1_1 : p1 = 1
    · replace h := h.1 n1_1
      refine m_case (v := 1) (off := 70) (tgt := 71) (pc := 1) hx hb n1_1 dX7_counts_1 (by decide) (by decide) (by decide) (by decide) ?_
      refine lv_aload_n (pc := 71) hx hb dX7_counts_71 rfl (lv_at hl 0 rfl) ?_
      obtain ⟨hk5, h⟩ := h
      obtain ⟨j6, hj6, h⟩ := h
      refine gX7_7 (pc := 72) C hK hP hk5 hj6 dX7_counts_72 ?_
      refine lv_iconst (v := 5) (pc := 75) hx hb dX7_counts_75 (by decide) ?_
      obtain ⟨hk7, h⟩ := h
      obtain ⟨hi8, h⟩ := h
      refine m_iald (pc := 76) C hK hP hk7 hi8 dX7_counts_76 ?_
      exact m_iret (v := M.1 j6 (5 : Int32).toNatClampNeg) (pc := 77) C hr hlk hP hS dX7_counts_77 h
    · replace h := h.2 n1_1
      by_cases n1_2 : p1 = 2
      · replace h := h.1 n1_2
        refine m_case (v := 2) (off := 77) (tgt := 78) (pc := 1) hx hb n1_2 dX7_counts_1 (by decide) (by decide) (by decide) (by decide) ?_
        refine lv_aload_n (pc := 78) hx hb dX7_counts_78 rfl (lv_at hl 0 rfl) ?_
        obtain ⟨hk10, h⟩ := h
        refine m_callVI (pc := 79) (y := yX7_rushJobs) (κ := 7) (As := []) (rest := []) C hK hP hS hl.1 ⟨Nat.zero_le _, Nat.zero_le _⟩ (c_X7_rushJobs h) rfl rfl hk10 (by decide) rfl q_1242 q_1244 q_s82 q_8 q_1245 ⟨rfl, rfl⟩ yd_X7_rushJobs ⟨Nat.le_of_ble_eq_true rfl, Nat.le_of_ble_eq_true rfl⟩ (Nat.le_of_ble_eq_true rfl) dX7_counts_79 (fun r11 M9 H locs h hP hS => ?_)
        exact m_iret (v := r11) (pc := 82) C hr hlk hP hS dX7_counts_82 h
      · replace h := h.2 n1_2
        by_cases n1_3 : p1 = 3
        · replace h := h.1 n1_3
          refine m_case (v := 3) (off := 82) (tgt := 83) (pc := 1) hx hb n1_3 dX7_counts_1 (by decide) (by decide) (by decide) (by decide) ?_
          refine lv_aload_n (pc := 83) hx hb dX7_counts_83 rfl (lv_at hl 0 rfl) ?_
          obtain ⟨hk13, h⟩ := h
          refine m_callVI (pc := 84) (y := yX7_inFurnace) (κ := 7) (As := []) (rest := []) C hK hP hS hl.1 ⟨Nat.zero_le _, Nat.zero_le _⟩ (c_X7_inFurnace h) rfl rfl hk13 (by decide) rfl q_1246 q_1248 q_s83 q_8 q_1249 ⟨rfl, rfl⟩ yd_X7_inFurnace ⟨Nat.le_of_ble_eq_true rfl, Nat.le_of_ble_eq_true rfl⟩ (Nat.le_of_ble_eq_true rfl) dX7_counts_84 (fun r14 M12 H locs h hP hS => ?_)
          exact m_iret (v := r14) (pc := 87) C hr hlk hP hS dX7_counts_87 h
        · replace h := h.2 n1_3
          by_cases n1_4 : p1 = 4
          · replace h := h.1 n1_4
            refine m_case (v := 4) (off := 102) (tgt := 103) (pc := 1) hx hb n1_4 dX7_counts_1 (by decide) (by decide) (by decide) (by decide) ?_
            refine lv_aload_n (pc := 103) hx hb dX7_counts_103 rfl (lv_at hl 0 rfl) ?_
            obtain ⟨hk15, h⟩ := h
            obtain ⟨j16, hj16, h⟩ := h
            refine gX7_7 (pc := 104) C hK hP hk15 hj16 dX7_counts_104 ?_
            refine lv_bipush (v := 7) (pc := 107) hx hb dX7_counts_107 (by decide) ?_
            refine lv_iload_n (pc := 109) hx hb dX7_counts_109 rfl (lv_at hl 1 rfl) ?_
            refine lv_iadd (pc := 110) hx hb dX7_counts_110 ?_
            refine lv_iconst (v := 4) (pc := 111) hx hb dX7_counts_111 (by decide) ?_
            refine lv_isub (pc := 112) hx hb dX7_counts_112 ?_
            obtain ⟨hk17, h⟩ := h
            obtain ⟨hi18, h⟩ := h
            refine m_iald (pc := 113) C hK hP hk17 hi18 dX7_counts_113 ?_
            exact m_iret (v := M.1 j16 ((7 + p1) - 4).toNatClampNeg) (pc := 114) C hr hlk hP hS dX7_counts_114 h
          · replace h := h.2 n1_4
            by_cases n1_5 : p1 = 5
            · replace h := h.1 n1_5
              refine m_case (v := 5) (off := 102) (tgt := 103) (pc := 1) hx hb n1_5 dX7_counts_1 (by decide) (by decide) (by decide) (by decide) ?_
              refine lv_aload_n (pc := 103) hx hb dX7_counts_103 rfl (lv_at hl 0 rfl) ?_
              obtain ⟨hk19, h⟩ := h
              obtain ⟨j20, hj20, h⟩ := h
              refine gX7_7 (pc := 104) C hK hP hk19 hj20 dX7_counts_104 ?_
              refine lv_bipush (v := 7) (pc := 107) hx hb dX7_counts_107 (by decide) ?_
              refine lv_iload_n (pc := 109) hx hb dX7_counts_109 rfl (lv_at hl 1 rfl) ?_
              refine lv_iadd (pc := 110) hx hb dX7_counts_110 ?_
              refine lv_iconst (v := 4) (pc := 111) hx hb dX7_counts_111 (by decide) ?_
              refine lv_isub (pc := 112) hx hb dX7_counts_112 ?_
              obtain ⟨hk21, h⟩ := h
              obtain ⟨hi22, h⟩ := h
              refine m_iald (pc := 113) C hK hP hk21 hi22 dX7_counts_113 ?_
              exact m_iret (v := M.1 j20 ((7 + p1) - 4).toNatClampNeg) (pc := 114) C hr hlk hP hS dX7_counts_114 h
            · replace h := h.2 n1_5
              by_cases n1_6 : p1 = 6
              · replace h := h.1 n1_6
                refine m_case (v := 6) (off := 102) (tgt := 103) (pc := 1) hx hb n1_6 dX7_counts_1 (by decide) (by decide) (by decide) (by decide) ?_
                refine lv_aload_n (pc := 103) hx hb dX7_counts_103 rfl (lv_at hl 0 rfl) ?_
                obtain ⟨hk23, h⟩ := h
                obtain ⟨j24, hj24, h⟩ := h
                refine gX7_7 (pc := 104) C hK hP hk23 hj24 dX7_counts_104 ?_
                refine lv_bipush (v := 7) (pc := 107) hx hb dX7_counts_107 (by decide) ?_
                refine lv_iload_n (pc := 109) hx hb dX7_counts_109 rfl (lv_at hl 1 rfl) ?_
                refine lv_iadd (pc := 110) hx hb dX7_counts_110 ?_
                refine lv_iconst (v := 4) (pc := 111) hx hb dX7_counts_111 (by decide) ?_
                refine lv_isub (pc := 112) hx hb dX7_counts_112 ?_
                obtain ⟨hk25, h⟩ := h
                obtain ⟨hi26, h⟩ := h
                refine m_iald (pc := 113) C hK hP hk25 hi26 dX7_counts_113 ?_
                exact m_iret (v := M.1 j24 ((7 + p1) - 4).toNatClampNeg) (pc := 114) C hr hlk hP hS dX7_counts_114 h
              · replace h := h.2 n1_6
                by_cases n1_7 : p1 = 7
                · replace h := h.1 n1_7
                  refine m_case (v := 7) (off := 102) (tgt := 103) (pc := 1) hx hb n1_7 dX7_counts_1 (by decide) (by decide) (by decide) (by decide) ?_
                  refine lv_aload_n (pc := 103) hx hb dX7_counts_103 rfl (lv_at hl 0 rfl) ?_
                  obtain ⟨hk27, h⟩ := h
                  obtain ⟨j28, hj28, h⟩ := h
                  refine gX7_7 (pc := 104) C hK hP hk27 hj28 dX7_counts_104 ?_
                  refine lv_bipush (v := 7) (pc := 107) hx hb dX7_counts_107 (by decide) ?_
                  refine lv_iload_n (pc := 109) hx hb dX7_counts_109 rfl (lv_at hl 1 rfl) ?_
                  refine lv_iadd (pc := 110) hx hb dX7_counts_110 ?_
                  refine lv_iconst (v := 4) (pc := 111) hx hb dX7_counts_111 (by decide) ?_
                  refine lv_isub (pc := 112) hx hb dX7_counts_112 ?_
                  obtain ⟨hk29, h⟩ := h
                  obtain ⟨hi30, h⟩ := h
                  refine m_iald (pc := 113) C hK hP hk29 hi30 dX7_counts_113 ?_
                  exact m_iret (v := M.1 j28 ((7 + p1) - 4).toNatClampNeg) (pc := 114) C hr hlk hP hS dX7_counts_114 h
                · replace h := h.2 n1_7
                  by_cases n1_8 : p1 = 8
                  · replace h := h.1 n1_8
                    refine m_case (v := 8) (off := 102) (tgt := 103) (pc := 1) hx hb n1_8 dX7_counts_1 (by decide) (by decide) (by decide) (by decide) ?_
                    refine lv_aload_n (pc := 103) hx hb dX7_counts_103 rfl (lv_at hl 0 rfl) ?_
                    obtain ⟨hk31, h⟩ := h
                    obtain ⟨j32, hj32, h⟩ := h
                    refine gX7_7 (pc := 104) C hK hP hk31 hj32 dX7_counts_104 ?_
                    refine lv_bipush (v := 7) (pc := 107) hx hb dX7_counts_107 (by decide) ?_
                    refine lv_iload_n (pc := 109) hx hb dX7_counts_109 rfl (lv_at hl 1 rfl) ?_
                    refine lv_iadd (pc := 110) hx hb dX7_counts_110 ?_
                    refine lv_iconst (v := 4) (pc := 111) hx hb dX7_counts_111 (by decide) ?_
                    refine lv_isub (pc := 112) hx hb dX7_counts_112 ?_
                    obtain ⟨hk33, h⟩ := h
                    obtain ⟨hi34, h⟩ := h
                    refine m_iald (pc := 113) C hK hP hk33 hi34 dX7_counts_113 ?_
                    exact m_iret (v := M.1 j32 ((7 + p1) - 4).toNatClampNeg) (pc := 114) C hr hlk hP hS dX7_counts_114 h
                  · replace h := h.2 n1_8
                    by_cases n1_9 : p1 = 9
                    · replace h := h.1 n1_9
                      refine m_case (v := 9) (off := 102) (tgt := 103) (pc := 1) hx hb n1_9 dX7_counts_1 (by decide) (by decide) (by decide) (by decide) ?_
                      refine lv_aload_n (pc := 103) hx hb dX7_counts_103 rfl (lv_at hl 0 rfl) ?_
                      obtain ⟨hk35, h⟩ := h
                      obtain ⟨j36, hj36, h⟩ := h
                      refine gX7_7 (pc := 104) C hK hP hk35 hj36 dX7_counts_104 ?_
                      refine lv_bipush (v := 7) (pc := 107) hx hb dX7_counts_107 (by decide) ?_
                      refine lv_iload_n (pc := 109) hx hb dX7_counts_109 rfl (lv_at hl 1 rfl) ?_
                      refine lv_iadd (pc := 110) hx hb dX7_counts_110 ?_
                      refine lv_iconst (v := 4) (pc := 111) hx hb dX7_counts_111 (by decide) ?_
                      refine lv_isub (pc := 112) hx hb dX7_counts_112 ?_
                      obtain ⟨hk37, h⟩ := h
                      obtain ⟨hi38, h⟩ := h
                      refine m_iald (pc := 113) C hK hP hk37 hi38 dX7_counts_113 ?_
                      exact m_iret (v := M.1 j36 ((7 + p1) - 4).toNatClampNeg) (pc := 114) C hr hlk hP hS dX7_counts_114 h
                    · replace h := h.2 n1_9
                      by_cases n1_10 : p1 = 10
                      · replace h := h.1 n1_10
                        refine m_case (v := 10) (off := 87) (tgt := 88) (pc := 1) hx hb n1_10 dX7_counts_1 (by decide) (by decide) (by decide) (by decide) ?_
                        refine lv_aload_n (pc := 88) hx hb dX7_counts_88 rfl (lv_at hl 0 rfl) ?_
                        obtain ⟨hk39, h⟩ := h
                        obtain ⟨j40, hj40, h⟩ := h
                        refine gX7_7 (pc := 89) C hK hP hk39 hj40 dX7_counts_89 ?_
                        refine lv_bipush (v := 13) (pc := 92) hx hb dX7_counts_92 (by decide) ?_
                        obtain ⟨hk41, h⟩ := h
                        obtain ⟨hi42, h⟩ := h
                        refine m_iald (pc := 94) C hK hP hk41 hi42 dX7_counts_94 ?_
                        refine lv_iconst (v := 1) (pc := 95) hx hb dX7_counts_95 (by decide) ?_
                        refine lv_isub (pc := 96) hx hb dX7_counts_96 ?_
                        exact m_iret (v := (M.1 j40 (13 : Int32).toNatClampNeg) - 1) (pc := 97) C hr hlk hP hS dX7_counts_97 h
                      · replace h := h.2 n1_10
                        by_cases n1_11 : p1 = 11
                        · replace h := h.1 n1_11
                          refine m_case (v := 11) (off := 97) (tgt := 98) (pc := 1) hx hb n1_11 dX7_counts_1 (by decide) (by decide) (by decide) (by decide) ?_
                          refine lv_aload_n (pc := 98) hx hb dX7_counts_98 rfl (lv_at hl 0 rfl) ?_
                          obtain ⟨hk43, h⟩ := h
                          refine gX7_33 (pc := 99) C hK hP hk43 dX7_counts_99 ?_
                          exact m_iret (v := M.1 i 4) (pc := 102) C hr hlk hP hS dX7_counts_102 h
                        · replace h := h.2 n1_11
                          refine lv_tableOut (tgt := 103) (pc := 1) hx hb dX7_counts_1 (by have i0 := i_ne n1_0; have i1 := i_ne n1_1; have i2 := i_ne n1_2; have i3 := i_ne n1_3; have i4 := i_ne n1_4; have i5 := i_ne n1_5; have i6 := i_ne n1_6; have i7 := i_ne n1_7; have i8 := i_ne n1_8; have i9 := i_ne n1_9; have i10 := i_ne n1_10; have i11 := i_ne n1_11; simp only [m_lit] at *; omega) (by decide) ?_
                          refine lv_aload_n (pc := 103) hx hb dX7_counts_103 rfl (lv_at hl 0 rfl) ?_
                          obtain ⟨hk44, h⟩ := h
                          obtain ⟨j45, hj45, h⟩ := h
                          refine gX7_7 (pc := 104) C hK hP hk44 hj45 dX7_counts_104 ?_
                          refine lv_bipush (v := 7) (pc := 107) hx hb dX7_counts_107 (by decide) ?_
                          refine lv_iload_n (pc := 109) hx hb dX7_counts_109 rfl (lv_at hl 1 rfl) ?_
                          refine lv_iadd (pc := 110) hx hb dX7_counts_110 ?_
                          refine lv_iconst (v := 4) (pc := 111) hx hb dX7_counts_111 (by decide) ?_
                          refine lv_isub (pc := 112) hx hb dX7_counts_112 ?_
                          obtain ⟨hk46, h⟩ := h
                          obtain ⟨hi47, h⟩ := h
                          refine m_iald (pc := 113) C hK hP hk46 hi47 dX7_counts_113 ?_
                          exact m_iret (v := M.1 j45 ((7 + p1) - 4).toNatClampNeg) (pc := 114) C hr hlk hP hS dX7_counts_114 h
/-! ForgeHeatsModel.count (I)I -/
def wp_X7_count (n : Nat) (M : Mem) (i : Nat) (p1 : Int32) (P : Int32 → Mem → Prop) : Prop := m_tp n i 7 ∧ (∀ M2 : Mem, M2 = uI M i 0 0 → (wp_X7_in n M2 p1 0 11 (fun z4 M3 => ((z4 = false → wp_X7_fails n M3 i 1 (fun r6 M5 => P r6 M5)) ∧ (z4 = true → wp_X7_counts n M3 i p1 (fun r8 M7 => P r8 M7))))))
abbrev rm_X7_count : Room := { frames := 3, cells := 0, slots := 0, locals := 65 }
set_option maxHeartbeats 4000000 in
set_option maxRecDepth 100000 in
theorem c_X7_count {l : Launch} {D : va_G} {cA : Nat → ClassId} {b n : Nat} {M : Mem} {i : Nat} {p1 : Int32} {P : Int32 → Mem → Prop} (h : wp_X7_count n M i p1 P) : m_C l D cA b n n M yX7_count cX7_count 2 (some .int) rm_X7_count 0 0 [.ref (b + i), .int p1] (rI P) := by
  refine m_enter (by decide) (Nat.le_of_ble_eq_true rfl) (fun p e s m below meth c C hr hlk hnm hK hP hS ls hl => ?_)
  have hx := C.1
  have hb := C.2.1
  have hl : lv_has ls 2 [(0, .ref (b + i)), (1, .int p1)] := hl
  unfold wp_X7_count at h
  refine lv_aload_n (pc := 0) hx hb dX7_count_0 rfl (lv_at hl 0 rfl) ?_
  refine lv_iconst (v := 0) (pc := 1) hx hb dX7_count_1 (by decide) ?_
  obtain ⟨hk1, h⟩ := h
  refine pX7_25 (pc := 2) (v := 0) C hK hP hS hk1 dX7_count_2 (fun M2 H locs eM2 hP hS => ?_)
  replace h := h M2 eM2
  refine lv_iload_n (pc := 5) hx hb dX7_count_5 rfl (lv_at hl 1 rfl) ?_
  refine lv_iconst (v := 0) (pc := 6) hx hb dX7_count_6 (by decide) ?_
  refine lv_bipush (v := 11) (pc := 7) hx hb dX7_count_7 (by decide) ?_
  refine m_callSZ (pc := 9) (y := yX7_in) (As := [.int p1, .int 0, .int 11]) (rest := []) C hK hP hS hl.1 ⟨Nat.zero_le _, Nat.zero_le _⟩ (c_X7_in h) rfl rfl q_973 q_974 q_8 q_975 ⟨rfl, rfl⟩ yd_X7_in ⟨Nat.le_of_ble_eq_true rfl, Nat.le_of_ble_eq_true rfl⟩ (Nat.le_of_ble_eq_true rfl) dX7_count_9 (fun z4 M3 H locs h hP hS => ?_)
  refine lv_if_eq (tgt := 23) (pc := 12) hx hb dX7_count_12 (by decide) (fun c12 => ?_) (fun c12 => ?_)
  · replace h := h.1 (bZ0 c12)
    refine lv_aload_n (pc := 23) hx hb dX7_count_23 rfl (lv_at hl 0 rfl) ?_
    refine lv_iconst (v := 1) (pc := 24) hx hb dX7_count_24 (by decide) ?_
    refine m_callVI (pc := 25) (y := yX7_fails) (κ := 7) (As := [.int 1]) (rest := []) C hK hP hS hl.1 ⟨Nat.zero_le _, Nat.zero_le _⟩ (c_X7_fails h) rfl rfl hk1 (by decide) rfl q_976 q_978 q_s35 q_8 q_979 ⟨rfl, rfl⟩ yd_X7_fails ⟨Nat.le_of_ble_eq_true rfl, Nat.le_of_ble_eq_true rfl⟩ (Nat.le_of_ble_eq_true rfl) dX7_count_25 (fun r6 M5 H locs h hP hS => ?_)
    exact m_iret (v := r6) (pc := 28) C hr hlk hP hS dX7_count_28 h
  · replace h := h.2 (bZ1 c12)
    refine lv_aload_n (pc := 15) hx hb dX7_count_15 rfl (lv_at hl 0 rfl) ?_
    refine lv_iload_n (pc := 16) hx hb dX7_count_16 rfl (lv_at hl 1 rfl) ?_
    refine m_callVI (pc := 17) (y := yX7_counts) (κ := 7) (As := [.int p1]) (rest := []) C hK hP hS hl.1 ⟨Nat.zero_le _, Nat.zero_le _⟩ (c_X7_counts h) rfl rfl hk1 (by decide) rfl q_1238 q_1240 q_s81 q_8 q_1241 ⟨rfl, rfl⟩ yd_X7_counts ⟨Nat.le_of_ble_eq_true rfl, Nat.le_of_ble_eq_true rfl⟩ (Nat.le_of_ble_eq_true rfl) dX7_count_17 (fun r8 M7 H locs h hP hS => ?_)
    refine lv_goto (tgt := 28) (pc := 20) hx hb dX7_count_20 (by decide) ?_
    exact m_iret (v := r8) (pc := 28) C hr hlk hP hS dX7_count_28 h
/-! ForgeHeatsModel.setting (I)I -/
def wp_X7_setting (n : Nat) (M : Mem) (i : Nat) (p1 : Int32) (P : Int32 → Mem → Prop) : Prop := m_tp n i 7 ∧ (∀ M2 : Mem, M2 = uI M i 0 0 → (wp_X7_in n M2 p1 0 3 (fun z4 M3 => ((z4 = false → wp_X7_fails n M3 i 1 (fun r6 M5 => P r6 M5)) ∧ (z4 = true → ∃ j7 : Nat, M3.2.1 i 1 = some j7 ∧ (m_tp n j7 8 ∧ (vp_in p1 (m_len j7) ∧ (P (M3.1 j7 p1.toNatClampNeg) M3))))))))
abbrev rm_X7_setting : Room := { frames := 1, cells := 0, slots := 0, locals := 22 }
set_option maxHeartbeats 4000000 in
set_option maxRecDepth 100000 in
theorem c_X7_setting {l : Launch} {D : va_G} {cA : Nat → ClassId} {b n : Nat} {M : Mem} {i : Nat} {p1 : Int32} {P : Int32 → Mem → Prop} (h : wp_X7_setting n M i p1 P) : m_C l D cA b n n M yX7_setting cX7_setting 2 (some .int) rm_X7_setting 0 0 [.ref (b + i), .int p1] (rI P) := by
  refine m_enter (by decide) (Nat.le_of_ble_eq_true rfl) (fun p e s m below meth c C hr hlk hnm hK hP hS ls hl => ?_)
  have hx := C.1
  have hb := C.2.1
  have hl : lv_has ls 2 [(0, .ref (b + i)), (1, .int p1)] := hl
  unfold wp_X7_setting at h
  refine lv_aload_n (pc := 0) hx hb dX7_setting_0 rfl (lv_at hl 0 rfl) ?_
  refine lv_iconst (v := 0) (pc := 1) hx hb dX7_setting_1 (by decide) ?_
  obtain ⟨hk1, h⟩ := h
  refine pX7_25 (pc := 2) (v := 0) C hK hP hS hk1 dX7_setting_2 (fun M2 H locs eM2 hP hS => ?_)
  replace h := h M2 eM2
  refine lv_iload_n (pc := 5) hx hb dX7_setting_5 rfl (lv_at hl 1 rfl) ?_
  refine lv_iconst (v := 0) (pc := 6) hx hb dX7_setting_6 (by decide) ?_
  refine lv_iconst (v := 3) (pc := 7) hx hb dX7_setting_7 (by decide) ?_
  refine m_callSZ (pc := 8) (y := yX7_in) (As := [.int p1, .int 0, .int 3]) (rest := []) C hK hP hS hl.1 ⟨Nat.zero_le _, Nat.zero_le _⟩ (c_X7_in h) rfl rfl q_973 q_974 q_8 q_975 ⟨rfl, rfl⟩ yd_X7_in ⟨Nat.le_of_ble_eq_true rfl, Nat.le_of_ble_eq_true rfl⟩ (Nat.le_of_ble_eq_true rfl) dX7_setting_8 (fun z4 M3 H locs h hP hS => ?_)
  refine lv_if_eq (tgt := 23) (pc := 11) hx hb dX7_setting_11 (by decide) (fun c11 => ?_) (fun c11 => ?_)
  · replace h := h.1 (bZ0 c11)
    refine lv_aload_n (pc := 23) hx hb dX7_setting_23 rfl (lv_at hl 0 rfl) ?_
    refine lv_iconst (v := 1) (pc := 24) hx hb dX7_setting_24 (by decide) ?_
    refine m_callVI (pc := 25) (y := yX7_fails) (κ := 7) (As := [.int 1]) (rest := []) C hK hP hS hl.1 ⟨Nat.zero_le _, Nat.zero_le _⟩ (c_X7_fails h) rfl rfl hk1 (by decide) rfl q_976 q_978 q_s35 q_8 q_979 ⟨rfl, rfl⟩ yd_X7_fails ⟨Nat.le_of_ble_eq_true rfl, Nat.le_of_ble_eq_true rfl⟩ (Nat.le_of_ble_eq_true rfl) dX7_setting_25 (fun r6 M5 H locs h hP hS => ?_)
    exact m_iret (v := r6) (pc := 28) C hr hlk hP hS dX7_setting_28 h
  · replace h := h.2 (bZ1 c11)
    refine lv_aload_n (pc := 14) hx hb dX7_setting_14 rfl (lv_at hl 0 rfl) ?_
    obtain ⟨j7, hj7, h⟩ := h
    refine gX7_7 (pc := 15) C hK hP hk1 hj7 dX7_setting_15 ?_
    refine lv_iload_n (pc := 18) hx hb dX7_setting_18 rfl (lv_at hl 1 rfl) ?_
    obtain ⟨hk8, h⟩ := h
    obtain ⟨hi9, h⟩ := h
    refine m_iald (pc := 19) C hK hP hk8 hi9 dX7_setting_19 ?_
    refine lv_goto (tgt := 28) (pc := 20) hx hb dX7_setting_20 (by decide) ?_
    exact m_iret (v := M3.1 j7 p1.toNatClampNeg) (pc := 28) C hr hlk hP hS dX7_setting_28 h
/-! ForgeHeatsModel.saved ()D -/
def wp_X7_saved (n : Nat) (M : Mem) (i : Nat) (P : UInt64 → Mem → Prop) : Prop := m_tp n i 7 ∧ (∀ M2 : Mem, M2 = uI M i 0 0 → (∃ j3 : Nat, M2.2.1 i 1 = some j3 ∧ (m_tp n j3 8 ∧ (vp_in 7 (m_len j3) ∧ (∃ j6 : Nat, M2.2.1 i 1 = some j6 ∧ (m_tp n j6 8 ∧ (vp_in 8 (m_len j6) ∧ (∀ v9 : Int32, v9 = ((M2.1 j3 (7 : Int32).toNatClampNeg) + (M2.1 j6 (8 : Int32).toNatClampNeg)) → (((¬ v9 = 0 → ∃ j10 : Nat, M2.2.1 i 1 = some j10 ∧ (m_tp n j10 8 ∧ (vp_in 7 (m_len j10) ∧ (vf_n64 (FP.ddiv (FP.i2d (M2.1 j10 (7 : Int32).toNatClampNeg)) (FP.i2d v9)) ∧ (P (FP.ddiv (FP.i2d (M2.1 j10 (7 : Int32).toNatClampNeg)) (FP.i2d v9)) M2))))) ∧ (v9 = 0 → P (FP.dconst1) M2)))))))))))
abbrev rm_X7_saved : Room := { frames := 0, cells := 0, slots := 0, locals := 0 }
set_option maxHeartbeats 4000000 in
set_option maxRecDepth 100000 in
theorem c_X7_saved {l : Launch} {D : va_G} {cA : Nat → ClassId} {b n : Nat} {M : Mem} {i : Nat} {P : UInt64 → Mem → Prop} (h : wp_X7_saved n M i P) : m_C l D cA b n n M yX7_saved cX7_saved 2 (some .double) rm_X7_saved 0 0 [.ref (b + i)] (rD P) := by
  refine m_enter (by decide) (Nat.le_of_ble_eq_true rfl) (fun p e s m below meth c C hr hlk hnm hK hP hS ls hl => ?_)
  have hx := C.1
  have hb := C.2.1
  have hl : lv_has ls 2 [(0, .ref (b + i))] := hl
  unfold wp_X7_saved at h
  refine lv_aload_n (pc := 0) hx hb dX7_saved_0 rfl (lv_at hl 0 rfl) ?_
  refine lv_iconst (v := 0) (pc := 1) hx hb dX7_saved_1 (by decide) ?_
  obtain ⟨hk1, h⟩ := h
  refine pX7_25 (pc := 2) (v := 0) C hK hP hS hk1 dX7_saved_2 (fun M2 H locs eM2 hP hS => ?_)
  replace h := h M2 eM2
  refine lv_aload_n (pc := 5) hx hb dX7_saved_5 rfl (lv_at hl 0 rfl) ?_
  obtain ⟨j3, hj3, h⟩ := h
  refine gX7_7 (pc := 6) C hK hP hk1 hj3 dX7_saved_6 ?_
  refine lv_bipush (v := 7) (pc := 9) hx hb dX7_saved_9 (by decide) ?_
  obtain ⟨hk4, h⟩ := h
  obtain ⟨hi5, h⟩ := h
  refine m_iald (pc := 11) C hK hP hk4 hi5 dX7_saved_11 ?_
  refine lv_aload_n (pc := 12) hx hb dX7_saved_12 rfl (lv_at hl 0 rfl) ?_
  obtain ⟨j6, hj6, h⟩ := h
  refine gX7_7 (pc := 13) C hK hP hk1 hj6 dX7_saved_13 ?_
  refine lv_bipush (v := 8) (pc := 16) hx hb dX7_saved_16 (by decide) ?_
  obtain ⟨hk7, h⟩ := h
  obtain ⟨hi8, h⟩ := h
  refine m_iald (pc := 18) C hK hP hk7 hi8 dX7_saved_18 ?_
  refine lv_iadd (pc := 19) hx hb dX7_saved_19 ?_
  refine lv_topi (fun v9 ev9 => ?_)
  replace h := h v9 ev9
  refine lv_istore_n (lv' := [(1, .int v9), (0, .ref (b + i))]) (pc := 20) hx hb dX7_saved_20 rfl hl (by decide) rfl (fun ls hl => ?_)
  refine lv_iload_n (pc := 21) hx hb dX7_saved_21 rfl (lv_at hl 0 rfl) ?_
  refine lv_if_ne (tgt := 29) (pc := 22) hx hb dX7_saved_22 (by decide) (fun c22 => ?_) (fun c22 => ?_)
  · replace h := h.1 c22
    refine lv_aload_n (pc := 29) hx hb dX7_saved_29 rfl (lv_at hl 1 rfl) ?_
    obtain ⟨j10, hj10, h⟩ := h
    refine gX7_7 (pc := 30) C hK hP hk1 hj10 dX7_saved_30 ?_
    refine lv_bipush (v := 7) (pc := 33) hx hb dX7_saved_33 (by decide) ?_
    obtain ⟨hk11, h⟩ := h
    obtain ⟨hi12, h⟩ := h
    refine m_iald (pc := 35) C hK hP hk11 hi12 dX7_saved_35 ?_
    refine lv_i2d (pc := 36) hx hb dX7_saved_36 ?_
    refine lv_iload_n (pc := 37) hx hb dX7_saved_37 rfl (lv_at hl 0 rfl) ?_
    refine lv_i2d (pc := 38) hx hb dX7_saved_38 ?_
    obtain ⟨hz13, h⟩ := h
    refine lv_ddiv (pc := 39) hx hb dX7_saved_39 hz13 ?_
    exact m_dret (v := FP.ddiv (FP.i2d (M2.1 j10 (7 : Int32).toNatClampNeg)) (FP.i2d v9)) (pc := 40) C hr hlk hP hS dX7_saved_40 h
  · replace h := h.2 c22
    refine lv_dconst1 (pc := 25) hx hb dX7_saved_25 ?_
    refine lv_goto (tgt := 40) (pc := 26) hx hb dX7_saved_26 (by decide) ?_
    exact m_dret (v := FP.dconst1) (pc := 40) C hr hlk hP hS dX7_saved_40 h
/-! ForgeHeatsModel.hashes (J)V -/
def wp_X7_hashes (n : Nat) (M : Mem) (i : Nat) (p1 : Int64) (P : Mem → Prop) : Prop := m_tp n i 7 ∧ (∀ M2 : Mem, M2 = uL M i 11 ((31 * (M.2.2 i 11)) + p1) → (P M2))
abbrev rm_X7_hashes : Room := { frames := 0, cells := 0, slots := 0, locals := 0 }
set_option maxHeartbeats 4000000 in
set_option maxRecDepth 100000 in
theorem c_X7_hashes {l : Launch} {D : va_G} {cA : Nat → ClassId} {b n : Nat} {M : Mem} {i : Nat} {p1 : Int64} {P : Mem → Prop} (h : wp_X7_hashes n M i p1 P) : m_C l D cA b n n M yX7_hashes cX7_hashes 3 none rm_X7_hashes 0 0 [.ref (b + i), .long p1] (rV P) := by
  refine m_enter (by decide) (Nat.le_of_ble_eq_true rfl) (fun p e s m below meth c C hr hlk hnm hK hP hS ls hl => ?_)
  have hx := C.1
  have hb := C.2.1
  have hl : lv_has ls 3 [(0, .ref (b + i)), (1, .long p1)] := hl
  unfold wp_X7_hashes at h
  refine lv_aload_n (pc := 0) hx hb dX7_hashes_0 rfl (lv_at hl 0 rfl) ?_
  refine lv_ldc2 (pc := 1) (v := 31) hx hb C.2.2.2.1 (C.2.2.2.2 _ q_1307) dX7_hashes_1 ?_
  refine lv_aload_n (pc := 4) hx hb dX7_hashes_4 rfl (lv_at hl 0 rfl) ?_
  obtain ⟨hk1, h⟩ := h
  refine gX7_236 (pc := 5) C hK hP hk1 dX7_hashes_5 ?_
  refine lv_lmul (pc := 8) hx hb dX7_hashes_8 ?_
  refine lv_lload_n (pc := 9) hx hb dX7_hashes_9 rfl (lv_at hl 1 rfl) ?_
  refine lv_ladd (pc := 10) hx hb dX7_hashes_10 ?_
  refine pX7_236 (pc := 11) (v := (31 * (M.2.2 i 11)) + p1) C hK hP hS hk1 dX7_hashes_11 (fun M2 H locs eM2 hP hS => ?_)
  replace h := h M2 eM2
  exact m_vret (pc := 14) C hr hlk hP hS dX7_hashes_14 h
/-! ForgeHeatsModel.hashesShop ()V -/
def wpB_X7_hashesShop_86 (n : Nat) (P : Mem → Prop) (K_ : Mem → Nat → Int32 → Prop) (R_ : Mem → Nat → Int32 → Int32 → Prop) (M : Mem) (x0 : Nat) (x1 : Int32) (x2 : Int32) : Prop := ((4 ≤ x2 → ∀ v1 : Int32, v1 = x1 + 1 → (K_ M x0 v1)) ∧ (¬ 4 ≤ x2 → m_tp n x0 7 ∧ (wp_X7_tellsBillet n M x0 x1 x2 (fun r4 M2 => wp_X7_hashes n M2 x0 ((r4).toInt64) (fun M5 => ∀ v7 : Int32, v7 = x2 + 1 → (R_ M5 x0 x1 v7))))))
def wpL_X7_hashesShop_86 (n : Nat) (P : Mem → Prop) (K_ : Mem → Nat → Int32 → Prop) : Nat → Mem → Nat → Int32 → Int32 → Prop
  | 0 => fun _ _ _ _ => False
  | f + 1 => fun M x0 x1 x2 => wpB_X7_hashesShop_86 n P K_ (wpL_X7_hashesShop_86 n P K_ f) M x0 x1 x2
def wpB_X7_hashesShop_78 (n : Nat) (P : Mem → Prop) (R_ : Mem → Nat → Int32 → Prop) (M : Mem) (x0 : Nat) (x1 : Int32) : Prop := ((6 < x1 → P M) ∧ (¬ 6 < x1 → ∃ f : Nat, wpL_X7_hashesShop_86 n P R_ f M x0 x1 0))
def wpL_X7_hashesShop_78 (n : Nat) (P : Mem → Prop) : Nat → Mem → Nat → Int32 → Prop
  | 0 => fun _ _ _ => False
  | f + 1 => fun M x0 x1 => wpB_X7_hashesShop_78 n P (wpL_X7_hashesShop_78 n P f) M x0 x1
def wpB_X7_hashesShop_47 (n : Nat) (P : Mem → Prop) (K_ : Mem → Nat → Int32 → Prop) (R_ : Mem → Nat → Int32 → Int32 → Prop) (M : Mem) (x0 : Nat) (x1 : Int32) (x2 : Int32) : Prop := ((6 ≤ x2 → ∀ v8 : Int32, v8 = x1 + 1 → (K_ M x0 v8)) ∧ (¬ 6 ≤ x2 → m_tp n x0 7 ∧ (wp_X7_tellsDie n M x0 x1 x2 (fun r11 M9 => wp_X7_hashes n M9 x0 ((r11).toInt64) (fun M12 => ∀ v14 : Int32, v14 = x2 + 1 → (R_ M12 x0 x1 v14))))))
def wpL_X7_hashesShop_47 (n : Nat) (P : Mem → Prop) (K_ : Mem → Nat → Int32 → Prop) : Nat → Mem → Nat → Int32 → Int32 → Prop
  | 0 => fun _ _ _ _ => False
  | f + 1 => fun M x0 x1 x2 => wpB_X7_hashesShop_47 n P K_ (wpL_X7_hashesShop_47 n P K_ f) M x0 x1 x2
def wpB_X7_hashesShop_40 (n : Nat) (P : Mem → Prop) (R_ : Mem → Nat → Int32 → Prop) (M : Mem) (x0 : Nat) (x1 : Int32) : Prop := ((5 ≤ x1 → ∃ f : Nat, wpL_X7_hashesShop_78 n P f M x0 0) ∧ (¬ 5 ≤ x1 → ∃ f : Nat, wpL_X7_hashesShop_47 n P R_ f M x0 x1 0))
def wpL_X7_hashesShop_40 (n : Nat) (P : Mem → Prop) : Nat → Mem → Nat → Int32 → Prop
  | 0 => fun _ _ _ => False
  | f + 1 => fun M x0 x1 => wpB_X7_hashesShop_40 n P (wpL_X7_hashesShop_40 n P f) M x0 x1
def wpB_X7_hashesShop_9 (n : Nat) (P : Mem → Prop) (K_ : Mem → Nat → Int32 → Prop) (R_ : Mem → Nat → Int32 → Int32 → Prop) (M : Mem) (x0 : Nat) (x1 : Int32) (x2 : Int32) : Prop := ((7 ≤ x2 → ∀ v15 : Int32, v15 = x1 + 1 → (K_ M x0 v15)) ∧ (¬ 7 ≤ x2 → m_tp n x0 7 ∧ (wp_X7_tellsHeat n M x0 x1 x2 (fun r18 M16 => wp_X7_hashes n M16 x0 ((r18).toInt64) (fun M19 => ∀ v21 : Int32, v21 = x2 + 1 → (R_ M19 x0 x1 v21))))))
def wpL_X7_hashesShop_9 (n : Nat) (P : Mem → Prop) (K_ : Mem → Nat → Int32 → Prop) : Nat → Mem → Nat → Int32 → Int32 → Prop
  | 0 => fun _ _ _ _ => False
  | f + 1 => fun M x0 x1 x2 => wpB_X7_hashesShop_9 n P K_ (wpL_X7_hashesShop_9 n P K_ f) M x0 x1 x2
def wpB_X7_hashesShop_2 (n : Nat) (P : Mem → Prop) (R_ : Mem → Nat → Int32 → Prop) (M : Mem) (x0 : Nat) (x1 : Int32) : Prop := ((4 ≤ x1 → ∃ f : Nat, wpL_X7_hashesShop_40 n P f M x0 0) ∧ (¬ 4 ≤ x1 → ∃ f : Nat, wpL_X7_hashesShop_9 n P R_ f M x0 x1 0))
def wpL_X7_hashesShop_2 (n : Nat) (P : Mem → Prop) : Nat → Mem → Nat → Int32 → Prop
  | 0 => fun _ _ _ => False
  | f + 1 => fun M x0 x1 => wpB_X7_hashesShop_2 n P (wpL_X7_hashesShop_2 n P f) M x0 x1
def wp_X7_hashesShop (n : Nat) (M : Mem) (i : Nat) (P : Mem → Prop) : Prop := ∃ f : Nat, wpL_X7_hashesShop_2 n P f M i 0
abbrev rm_X7_hashesShop : Room := { frames := 7, cells := 0, slots := 0, locals := 156 }
set_option maxHeartbeats 4000000 in
set_option maxRecDepth 100000 in
theorem c_X7_hashesShop {l : Launch} {D : va_G} {cA : Nat → ClassId} {b n : Nat} {M : Mem} {i : Nat} {P : Mem → Prop} (h : wp_X7_hashesShop n M i P) : m_C l D cA b n n M yX7_hashesShop cX7_hashesShop 3 none rm_X7_hashesShop 0 0 [.ref (b + i)] (rV P) := by
  refine m_enter (by decide) (Nat.le_of_ble_eq_true rfl) (fun p e s m below meth c C hr hlk hnm hK hP hS ls hl => ?_)
  have hx := C.1
  have hb := C.2.1
  have hl : lv_has ls 3 [(0, .ref (b + i))] := hl
  have L86 : ∀ K_ : Mem → Nat → Int32 → Prop, (∀ (M : Mem) (H : Heap) (locs : List Loc) (ls : Array Slot) (x0 : Nat) (x1 : Int32), K_ M x0 x1 → m_H D cA b n M H → va_S (m_A b) s.heap H locs → lv_has ls 3 [(0, .ref (b + x0)), (1, .int x1)] → W p l e rm_X7_hashesShop s m ([.ref (b + i)] : List Value).toArray below meth c H locs 0 0 (MQ below (m_Q D cA b n (rV P)) ([.ref (b + i)] : List Value).toArray s 0 0 (m_A b)) (F0 m 78 ls [])) → ∀ f : Nat, ∀ (M : Mem) (H : Heap) (locs : List Loc) (ls : Array Slot) (x0 : Nat) (x1 : Int32) (x2 : Int32), wpL_X7_hashesShop_86 n P K_ f M x0 x1 x2 → m_H D cA b n M H → va_S (m_A b) s.heap H locs → lv_has ls 3 [(0, .ref (b + x0)), (1, .int x1), (2, .int x2)] → W p l e rm_X7_hashesShop s m ([.ref (b + i)] : List Value).toArray below meth c H locs 0 0 (MQ below (m_Q D cA b n (rV P)) ([.ref (b + i)] : List Value).toArray s 0 0 (m_A b)) (F0 m 86 ls []) := by
    intro K_ hKk
    clear h
    intro f
    induction f with
    | zero => intro M H locs ls x0 x1 x2 h; exact h.elim
    | succ f ih =>
      intro M H locs ls x0 x1 x2 h hP hS hl
      have h : wpB_X7_hashesShop_86 n P K_ (wpL_X7_hashesShop_86 n P K_ f) M x0 x1 x2 := h
      unfold wpB_X7_hashesShop_86 at h
      refine lv_iload_n (pc := 86) hx hb dX7_hashesShop_86 rfl (lv_at hl 2 rfl) ?_
      refine lv_iconst (v := 4) (pc := 87) hx hb dX7_hashesShop_87 (by decide) ?_
      refine lv_icmp_ge (tgt := 108) (pc := 88) hx hb dX7_hashesShop_88 (by decide) (fun c88 => ?_) (fun c88 => ?_)
      · replace h := h.1 c88
        obtain ⟨v1, ev1⟩ : ∃ y : Int32, y = x1 + 1 := ⟨_, rfl⟩
        replace h := h v1 ev1
        refine lv_iinc (v := v1) (lv' := [(1, .int v1), (0, .ref (b + x0)), (2, .int x2)]) (pc := 108) hx hb dX7_hashesShop_108 hl (k := 1) rfl (by rw [ev1]; rfl) (by decide) rfl (fun ls hl => ?_)
        refine lv_goto (tgt := 78) (pc := 111) hx hb dX7_hashesShop_111 (by decide) ?_
        exact hKk _ _ _ _ _ _ h hP hS (lv_sub hl [1, 0] rfl)
      · replace h := h.2 c88
        refine lv_aload_n (pc := 91) hx hb dX7_hashesShop_91 rfl (lv_at hl 0 rfl) ?_
        refine lv_aload_n (pc := 92) hx hb dX7_hashesShop_92 rfl (lv_at hl 0 rfl) ?_
        refine lv_iload_n (pc := 93) hx hb dX7_hashesShop_93 rfl (lv_at hl 1 rfl) ?_
        refine lv_iload_n (pc := 94) hx hb dX7_hashesShop_94 rfl (lv_at hl 2 rfl) ?_
        obtain ⟨hk3, h⟩ := h
        refine m_callVI (pc := 95) (y := yX7_tellsBillet) (κ := 7) (As := [.int x1, .int x2]) (rest := [.ref (b + x0)]) C hK hP hS hl.1 ⟨Nat.zero_le _, Nat.zero_le _⟩ (c_X7_tellsBillet h) rfl rfl hk3 (by decide) rfl q_1230 q_1232 q_s80 q_8 q_1233 ⟨rfl, rfl⟩ yd_X7_tellsBillet ⟨Nat.le_of_ble_eq_true rfl, Nat.le_of_ble_eq_true rfl⟩ (Nat.le_of_ble_eq_true rfl) dX7_hashesShop_95 (fun r4 M2 H locs h hP hS => ?_)
        refine lv_i2l (pc := 98) hx hb dX7_hashesShop_98 rfl ?_
        refine m_callVV (pc := 99) (y := yX7_hashes) (κ := 7) (As := [.long ((r4).toInt64)]) (rest := []) C hK hP hS hl.1 ⟨Nat.zero_le _, Nat.zero_le _⟩ (c_X7_hashes h) rfl rfl hk3 (by decide) rfl q_1303 q_1305 q_s90 q_8 q_1306 ⟨rfl, rfl⟩ yd_X7_hashes ⟨Nat.le_of_ble_eq_true rfl, Nat.le_of_ble_eq_true rfl⟩ (Nat.le_of_ble_eq_true rfl) dX7_hashesShop_99 (fun M5 H locs h hP hS => ?_)
        obtain ⟨v7, ev7⟩ : ∃ y : Int32, y = x2 + 1 := ⟨_, rfl⟩
        replace h := h v7 ev7
        refine lv_iinc (v := v7) (lv' := [(2, .int v7), (0, .ref (b + x0)), (1, .int x1)]) (pc := 102) hx hb dX7_hashesShop_102 hl (k := 2) rfl (by rw [ev7]; rfl) (by decide) rfl (fun ls hl => ?_)
        refine lv_goto (tgt := 86) (pc := 105) hx hb dX7_hashesShop_105 (by decide) ?_
        exact ih _ _ _ _ _ _ _ h hP hS (lv_sub hl [1, 2, 0] rfl)
  have L78 : ∀ f : Nat, ∀ (M : Mem) (H : Heap) (locs : List Loc) (ls : Array Slot) (x0 : Nat) (x1 : Int32), wpL_X7_hashesShop_78 n P f M x0 x1 → m_H D cA b n M H → va_S (m_A b) s.heap H locs → lv_has ls 3 [(0, .ref (b + x0)), (1, .int x1)] → W p l e rm_X7_hashesShop s m ([.ref (b + i)] : List Value).toArray below meth c H locs 0 0 (MQ below (m_Q D cA b n (rV P)) ([.ref (b + i)] : List Value).toArray s 0 0 (m_A b)) (F0 m 78 ls []) := by
    clear h
    intro f
    induction f with
    | zero => intro M H locs ls x0 x1 h; exact h.elim
    | succ f ih =>
      intro M H locs ls x0 x1 h hP hS hl
      have h : wpB_X7_hashesShop_78 n P (wpL_X7_hashesShop_78 n P f) M x0 x1 := h
      unfold wpB_X7_hashesShop_78 at h
      refine lv_iload_n (pc := 78) hx hb dX7_hashesShop_78 rfl (lv_at hl 1 rfl) ?_
      refine lv_bipush (v := 6) (pc := 79) hx hb dX7_hashesShop_79 (by decide) ?_
      refine lv_icmp_gt (tgt := 114) (pc := 81) hx hb dX7_hashesShop_81 (by decide) (fun c81 => ?_) (fun c81 => ?_)
      · replace h := h.1 c81
        exact m_vret (pc := 114) C hr hlk hP hS dX7_hashesShop_114 h
      · replace h := h.2 c81
        refine lv_iconst (v := 0) (pc := 84) hx hb dX7_hashesShop_84 (by decide) ?_
        refine lv_istore_n (lv' := [(2, .int 0), (0, .ref (b + x0)), (1, .int x1)]) (pc := 85) hx hb dX7_hashesShop_85 rfl hl (by decide) rfl (fun ls hl => ?_)
        obtain ⟨f, h⟩ := h
        exact L86 _ ih f _ _ _ _ _ _ _ h hP hS (lv_sub hl [1, 2, 0] rfl)
  have L47 : ∀ K_ : Mem → Nat → Int32 → Prop, (∀ (M : Mem) (H : Heap) (locs : List Loc) (ls : Array Slot) (x0 : Nat) (x1 : Int32), K_ M x0 x1 → m_H D cA b n M H → va_S (m_A b) s.heap H locs → lv_has ls 3 [(0, .ref (b + x0)), (1, .int x1)] → W p l e rm_X7_hashesShop s m ([.ref (b + i)] : List Value).toArray below meth c H locs 0 0 (MQ below (m_Q D cA b n (rV P)) ([.ref (b + i)] : List Value).toArray s 0 0 (m_A b)) (F0 m 40 ls [])) → ∀ f : Nat, ∀ (M : Mem) (H : Heap) (locs : List Loc) (ls : Array Slot) (x0 : Nat) (x1 : Int32) (x2 : Int32), wpL_X7_hashesShop_47 n P K_ f M x0 x1 x2 → m_H D cA b n M H → va_S (m_A b) s.heap H locs → lv_has ls 3 [(0, .ref (b + x0)), (1, .int x1), (2, .int x2)] → W p l e rm_X7_hashesShop s m ([.ref (b + i)] : List Value).toArray below meth c H locs 0 0 (MQ below (m_Q D cA b n (rV P)) ([.ref (b + i)] : List Value).toArray s 0 0 (m_A b)) (F0 m 47 ls []) := by
    intro K_ hKk
    clear h
    intro f
    induction f with
    | zero => intro M H locs ls x0 x1 x2 h; exact h.elim
    | succ f ih =>
      intro M H locs ls x0 x1 x2 h hP hS hl
      have h : wpB_X7_hashesShop_47 n P K_ (wpL_X7_hashesShop_47 n P K_ f) M x0 x1 x2 := h
      unfold wpB_X7_hashesShop_47 at h
      refine lv_iload_n (pc := 47) hx hb dX7_hashesShop_47 rfl (lv_at hl 2 rfl) ?_
      refine lv_bipush (v := 6) (pc := 48) hx hb dX7_hashesShop_48 (by decide) ?_
      refine lv_icmp_ge (tgt := 70) (pc := 50) hx hb dX7_hashesShop_50 (by decide) (fun c50 => ?_) (fun c50 => ?_)
      · replace h := h.1 c50
        obtain ⟨v8, ev8⟩ : ∃ y : Int32, y = x1 + 1 := ⟨_, rfl⟩
        replace h := h v8 ev8
        refine lv_iinc (v := v8) (lv' := [(1, .int v8), (0, .ref (b + x0)), (2, .int x2)]) (pc := 70) hx hb dX7_hashesShop_70 hl (k := 1) rfl (by rw [ev8]; rfl) (by decide) rfl (fun ls hl => ?_)
        refine lv_goto (tgt := 40) (pc := 73) hx hb dX7_hashesShop_73 (by decide) ?_
        exact hKk _ _ _ _ _ _ h hP hS (lv_sub hl [1, 0] rfl)
      · replace h := h.2 c50
        refine lv_aload_n (pc := 53) hx hb dX7_hashesShop_53 rfl (lv_at hl 0 rfl) ?_
        refine lv_aload_n (pc := 54) hx hb dX7_hashesShop_54 rfl (lv_at hl 0 rfl) ?_
        refine lv_iload_n (pc := 55) hx hb dX7_hashesShop_55 rfl (lv_at hl 1 rfl) ?_
        refine lv_iload_n (pc := 56) hx hb dX7_hashesShop_56 rfl (lv_at hl 2 rfl) ?_
        obtain ⟨hk10, h⟩ := h
        refine m_callVI (pc := 57) (y := yX7_tellsDie) (κ := 7) (As := [.int x1, .int x2]) (rest := [.ref (b + x0)]) C hK hP hS hl.1 ⟨Nat.zero_le _, Nat.zero_le _⟩ (c_X7_tellsDie h) rfl rfl hk10 (by decide) rfl q_1210 q_1212 q_s77 q_8 q_1213 ⟨rfl, rfl⟩ yd_X7_tellsDie ⟨Nat.le_of_ble_eq_true rfl, Nat.le_of_ble_eq_true rfl⟩ (Nat.le_of_ble_eq_true rfl) dX7_hashesShop_57 (fun r11 M9 H locs h hP hS => ?_)
        refine lv_i2l (pc := 60) hx hb dX7_hashesShop_60 rfl ?_
        refine m_callVV (pc := 61) (y := yX7_hashes) (κ := 7) (As := [.long ((r11).toInt64)]) (rest := []) C hK hP hS hl.1 ⟨Nat.zero_le _, Nat.zero_le _⟩ (c_X7_hashes h) rfl rfl hk10 (by decide) rfl q_1303 q_1305 q_s90 q_8 q_1306 ⟨rfl, rfl⟩ yd_X7_hashes ⟨Nat.le_of_ble_eq_true rfl, Nat.le_of_ble_eq_true rfl⟩ (Nat.le_of_ble_eq_true rfl) dX7_hashesShop_61 (fun M12 H locs h hP hS => ?_)
        obtain ⟨v14, ev14⟩ : ∃ y : Int32, y = x2 + 1 := ⟨_, rfl⟩
        replace h := h v14 ev14
        refine lv_iinc (v := v14) (lv' := [(2, .int v14), (0, .ref (b + x0)), (1, .int x1)]) (pc := 64) hx hb dX7_hashesShop_64 hl (k := 2) rfl (by rw [ev14]; rfl) (by decide) rfl (fun ls hl => ?_)
        refine lv_goto (tgt := 47) (pc := 67) hx hb dX7_hashesShop_67 (by decide) ?_
        exact ih _ _ _ _ _ _ _ h hP hS (lv_sub hl [1, 2, 0] rfl)
  have L40 : ∀ f : Nat, ∀ (M : Mem) (H : Heap) (locs : List Loc) (ls : Array Slot) (x0 : Nat) (x1 : Int32), wpL_X7_hashesShop_40 n P f M x0 x1 → m_H D cA b n M H → va_S (m_A b) s.heap H locs → lv_has ls 3 [(0, .ref (b + x0)), (1, .int x1)] → W p l e rm_X7_hashesShop s m ([.ref (b + i)] : List Value).toArray below meth c H locs 0 0 (MQ below (m_Q D cA b n (rV P)) ([.ref (b + i)] : List Value).toArray s 0 0 (m_A b)) (F0 m 40 ls []) := by
    clear h
    intro f
    induction f with
    | zero => intro M H locs ls x0 x1 h; exact h.elim
    | succ f ih =>
      intro M H locs ls x0 x1 h hP hS hl
      have h : wpB_X7_hashesShop_40 n P (wpL_X7_hashesShop_40 n P f) M x0 x1 := h
      unfold wpB_X7_hashesShop_40 at h
      refine lv_iload_n (pc := 40) hx hb dX7_hashesShop_40 rfl (lv_at hl 1 rfl) ?_
      refine lv_iconst (v := 5) (pc := 41) hx hb dX7_hashesShop_41 (by decide) ?_
      refine lv_icmp_ge (tgt := 76) (pc := 42) hx hb dX7_hashesShop_42 (by decide) (fun c42 => ?_) (fun c42 => ?_)
      · replace h := h.1 c42
        refine lv_iconst (v := 0) (pc := 76) hx hb dX7_hashesShop_76 (by decide) ?_
        refine lv_istore_n (lv' := [(1, .int 0), (0, .ref (b + x0))]) (pc := 77) hx hb dX7_hashesShop_77 rfl hl (by decide) rfl (fun ls hl => ?_)
        obtain ⟨f, h⟩ := h
        exact L78 f _ _ _ _ _ _ h hP hS (lv_sub hl [1, 0] rfl)
      · replace h := h.2 c42
        refine lv_iconst (v := 0) (pc := 45) hx hb dX7_hashesShop_45 (by decide) ?_
        refine lv_istore_n (lv' := [(2, .int 0), (0, .ref (b + x0)), (1, .int x1)]) (pc := 46) hx hb dX7_hashesShop_46 rfl hl (by decide) rfl (fun ls hl => ?_)
        obtain ⟨f, h⟩ := h
        exact L47 _ ih f _ _ _ _ _ _ _ h hP hS (lv_sub hl [1, 2, 0] rfl)
  have L9 : ∀ K_ : Mem → Nat → Int32 → Prop, (∀ (M : Mem) (H : Heap) (locs : List Loc) (ls : Array Slot) (x0 : Nat) (x1 : Int32), K_ M x0 x1 → m_H D cA b n M H → va_S (m_A b) s.heap H locs → lv_has ls 3 [(0, .ref (b + x0)), (1, .int x1)] → W p l e rm_X7_hashesShop s m ([.ref (b + i)] : List Value).toArray below meth c H locs 0 0 (MQ below (m_Q D cA b n (rV P)) ([.ref (b + i)] : List Value).toArray s 0 0 (m_A b)) (F0 m 2 ls [])) → ∀ f : Nat, ∀ (M : Mem) (H : Heap) (locs : List Loc) (ls : Array Slot) (x0 : Nat) (x1 : Int32) (x2 : Int32), wpL_X7_hashesShop_9 n P K_ f M x0 x1 x2 → m_H D cA b n M H → va_S (m_A b) s.heap H locs → lv_has ls 3 [(0, .ref (b + x0)), (1, .int x1), (2, .int x2)] → W p l e rm_X7_hashesShop s m ([.ref (b + i)] : List Value).toArray below meth c H locs 0 0 (MQ below (m_Q D cA b n (rV P)) ([.ref (b + i)] : List Value).toArray s 0 0 (m_A b)) (F0 m 9 ls []) := by
    intro K_ hKk
    clear h
    intro f
    induction f with
    | zero => intro M H locs ls x0 x1 x2 h; exact h.elim
    | succ f ih =>
      intro M H locs ls x0 x1 x2 h hP hS hl
      have h : wpB_X7_hashesShop_9 n P K_ (wpL_X7_hashesShop_9 n P K_ f) M x0 x1 x2 := h
      unfold wpB_X7_hashesShop_9 at h
      refine lv_iload_n (pc := 9) hx hb dX7_hashesShop_9 rfl (lv_at hl 2 rfl) ?_
      refine lv_bipush (v := 7) (pc := 10) hx hb dX7_hashesShop_10 (by decide) ?_
      refine lv_icmp_ge (tgt := 32) (pc := 12) hx hb dX7_hashesShop_12 (by decide) (fun c12 => ?_) (fun c12 => ?_)
      · replace h := h.1 c12
        obtain ⟨v15, ev15⟩ : ∃ y : Int32, y = x1 + 1 := ⟨_, rfl⟩
        replace h := h v15 ev15
        refine lv_iinc (v := v15) (lv' := [(1, .int v15), (0, .ref (b + x0)), (2, .int x2)]) (pc := 32) hx hb dX7_hashesShop_32 hl (k := 1) rfl (by rw [ev15]; rfl) (by decide) rfl (fun ls hl => ?_)
        refine lv_goto (tgt := 2) (pc := 35) hx hb dX7_hashesShop_35 (by decide) ?_
        exact hKk _ _ _ _ _ _ h hP hS (lv_sub hl [1, 0] rfl)
      · replace h := h.2 c12
        refine lv_aload_n (pc := 15) hx hb dX7_hashesShop_15 rfl (lv_at hl 0 rfl) ?_
        refine lv_aload_n (pc := 16) hx hb dX7_hashesShop_16 rfl (lv_at hl 0 rfl) ?_
        refine lv_iload_n (pc := 17) hx hb dX7_hashesShop_17 rfl (lv_at hl 1 rfl) ?_
        refine lv_iload_n (pc := 18) hx hb dX7_hashesShop_18 rfl (lv_at hl 2 rfl) ?_
        obtain ⟨hk17, h⟩ := h
        refine m_callVI (pc := 19) (y := yX7_tellsHeat) (κ := 7) (As := [.int x1, .int x2]) (rest := [.ref (b + x0)]) C hK hP hS hl.1 ⟨Nat.zero_le _, Nat.zero_le _⟩ (c_X7_tellsHeat h) rfl rfl hk17 (by decide) rfl q_1194 q_1196 q_s74 q_8 q_1197 ⟨rfl, rfl⟩ yd_X7_tellsHeat ⟨Nat.le_of_ble_eq_true rfl, Nat.le_of_ble_eq_true rfl⟩ (Nat.le_of_ble_eq_true rfl) dX7_hashesShop_19 (fun r18 M16 H locs h hP hS => ?_)
        refine lv_i2l (pc := 22) hx hb dX7_hashesShop_22 rfl ?_
        refine m_callVV (pc := 23) (y := yX7_hashes) (κ := 7) (As := [.long ((r18).toInt64)]) (rest := []) C hK hP hS hl.1 ⟨Nat.zero_le _, Nat.zero_le _⟩ (c_X7_hashes h) rfl rfl hk17 (by decide) rfl q_1303 q_1305 q_s90 q_8 q_1306 ⟨rfl, rfl⟩ yd_X7_hashes ⟨Nat.le_of_ble_eq_true rfl, Nat.le_of_ble_eq_true rfl⟩ (Nat.le_of_ble_eq_true rfl) dX7_hashesShop_23 (fun M19 H locs h hP hS => ?_)
        obtain ⟨v21, ev21⟩ : ∃ y : Int32, y = x2 + 1 := ⟨_, rfl⟩
        replace h := h v21 ev21
        refine lv_iinc (v := v21) (lv' := [(2, .int v21), (0, .ref (b + x0)), (1, .int x1)]) (pc := 26) hx hb dX7_hashesShop_26 hl (k := 2) rfl (by rw [ev21]; rfl) (by decide) rfl (fun ls hl => ?_)
        refine lv_goto (tgt := 9) (pc := 29) hx hb dX7_hashesShop_29 (by decide) ?_
        exact ih _ _ _ _ _ _ _ h hP hS (lv_sub hl [1, 2, 0] rfl)
  have L2 : ∀ f : Nat, ∀ (M : Mem) (H : Heap) (locs : List Loc) (ls : Array Slot) (x0 : Nat) (x1 : Int32), wpL_X7_hashesShop_2 n P f M x0 x1 → m_H D cA b n M H → va_S (m_A b) s.heap H locs → lv_has ls 3 [(0, .ref (b + x0)), (1, .int x1)] → W p l e rm_X7_hashesShop s m ([.ref (b + i)] : List Value).toArray below meth c H locs 0 0 (MQ below (m_Q D cA b n (rV P)) ([.ref (b + i)] : List Value).toArray s 0 0 (m_A b)) (F0 m 2 ls []) := by
    clear h
    intro f
    induction f with
    | zero => intro M H locs ls x0 x1 h; exact h.elim
    | succ f ih =>
      intro M H locs ls x0 x1 h hP hS hl
      have h : wpB_X7_hashesShop_2 n P (wpL_X7_hashesShop_2 n P f) M x0 x1 := h
      unfold wpB_X7_hashesShop_2 at h
      refine lv_iload_n (pc := 2) hx hb dX7_hashesShop_2 rfl (lv_at hl 1 rfl) ?_
      refine lv_iconst (v := 4) (pc := 3) hx hb dX7_hashesShop_3 (by decide) ?_
      refine lv_icmp_ge (tgt := 38) (pc := 4) hx hb dX7_hashesShop_4 (by decide) (fun c4 => ?_) (fun c4 => ?_)
      · replace h := h.1 c4
        refine lv_iconst (v := 0) (pc := 38) hx hb dX7_hashesShop_38 (by decide) ?_
        refine lv_istore_n (lv' := [(1, .int 0), (0, .ref (b + x0))]) (pc := 39) hx hb dX7_hashesShop_39 rfl hl (by decide) rfl (fun ls hl => ?_)
        obtain ⟨f, h⟩ := h
        exact L40 f _ _ _ _ _ _ h hP hS (lv_sub hl [1, 0] rfl)
      · replace h := h.2 c4
        refine lv_iconst (v := 0) (pc := 7) hx hb dX7_hashesShop_7 (by decide) ?_
        refine lv_istore_n (lv' := [(2, .int 0), (0, .ref (b + x0)), (1, .int x1)]) (pc := 8) hx hb dX7_hashesShop_8 rfl hl (by decide) rfl (fun ls hl => ?_)
        obtain ⟨f, h⟩ := h
        exact L9 _ ih f _ _ _ _ _ _ _ h hP hS (lv_sub hl [1, 2, 0] rfl)
  unfold wp_X7_hashesShop at h
  refine lv_iconst (v := 0) (pc := 0) hx hb dX7_hashesShop_0 (by decide) ?_
  refine lv_istore_n (lv' := [(1, .int 0), (0, .ref (b + i))]) (pc := 1) hx hb dX7_hashesShop_1 rfl hl (by decide) rfl (fun ls hl => ?_)
  obtain ⟨f, h⟩ := h
  exact L2 f _ _ _ _ _ _ h hP hS (lv_sub hl [1, 0] rfl)
/-! ForgeHeatsModel.grinds ()V -/
def wpB_X7_grinds_113 (n : Nat) (P : Mem → Prop) (R_ : Mem → Nat → Int32 → Prop) (M : Mem) (x0 : Nat) (x1 : Int32) : Prop := ((5 ≤ x1 → P M) ∧ (¬ 5 ≤ x1 → m_tp n x0 7 ∧ (∃ j6 : Nat, M.2.1 x0 1 = some j6 ∧ (m_tp n j6 8 ∧ (vp_in 13 (m_len j6) ∧ (((¬ (M.1 j6 (13 : Int32).toNatClampNeg) = 0 → P M) ∧ ((M.1 j6 (13 : Int32).toNatClampNeg) = 0 → wp_X7_isWornOut n M x0 x1 (fun z10 M9 => ((z10 = false → ∀ v11 : Int32, v11 = x1 + 1 → (R_ M9 x0 v11)) ∧ (z10 = true → wp_X7_begins n M9 x0 x1 (fun M12 => ∀ v14 : Int32, v14 = x1 + 1 → (R_ M12 x0 v14)))))))))))))
def wpL_X7_grinds_113 (n : Nat) (P : Mem → Prop) : Nat → Mem → Nat → Int32 → Prop
  | 0 => fun _ _ _ => False
  | f + 1 => fun M x0 x1 => wpB_X7_grinds_113 n P (wpL_X7_grinds_113 n P f) M x0 x1
def wp_X7_grinds (n : Nat) (M : Mem) (i : Nat) (P : Mem → Prop) : Prop := m_tp n i 7 ∧ (∃ j2 : Nat, M.2.1 i 1 = some j2 ∧ (m_tp n j2 8 ∧ (vp_in 13 (m_len j2) ∧ ((((M.1 j2 (13 : Int32).toNatClampNeg) ≤ 0 → ∃ f : Nat, wpL_X7_grinds_113 n P f M i 0) ∧ (¬ (M.1 j2 (13 : Int32).toNatClampNeg) ≤ 0 → ∃ j15 : Nat, M.2.1 i 1 = some j15 ∧ (m_tp n j15 8 ∧ (vp_in 14 (m_len j15) ∧ (vp_in 14 (m_len j15) ∧ (∀ M19 : Mem, M19 = uI M j15 (14 : Int32).toNatClampNeg ((M.1 j15 (14 : Int32).toNatClampNeg) - 1) → (∃ j20 : Nat, M19.2.1 i 1 = some j20 ∧ (m_tp n j20 8 ∧ (vp_in 14 (m_len j20) ∧ (((¬ (M19.1 j20 (14 : Int32).toNatClampNeg) = 0 → ∃ f : Nat, wpL_X7_grinds_113 n P f M19 i 0) ∧ ((M19.1 j20 (14 : Int32).toNatClampNeg) = 0 → ∃ j23 : Nat, M19.2.1 i 1 = some j23 ∧ (m_tp n j23 8 ∧ (vp_in 13 (m_len j23) ∧ (∀ v26 : Int32, v26 = (35 + (5 * ((M19.1 j23 (13 : Int32).toNatClampNeg) - 1))) → (∃ j27 : Nat, M19.2.1 i 1 = some j27 ∧ (m_tp n j27 8 ∧ (vp_in (v26 + 2) (m_len j27) ∧ (∀ M30 : Mem, M30 = uI M19 j27 (v26 + 2).toNatClampNeg 0 → (∃ j31 : Nat, M30.2.1 i 1 = some j31 ∧ (∃ j32 : Nat, M30.2.1 i 1 = some j32 ∧ (m_tp n j32 8 ∧ (vp_in (v26 + 1) (m_len j32) ∧ (((15 ≤ (M30.1 j32 (v26 + 1).toNatClampNeg) → ∃ j35 : Nat, M30.2.1 i 1 = some j35 ∧ (m_tp n j35 8 ∧ (vp_in (v26 + 1) (m_len j35) ∧ (m_tp n j31 8 ∧ (vp_in (v26 + 1) (m_len j31) ∧ (∀ M40 : Mem, M40 = uI M30 j31 (v26 + 1).toNatClampNeg ((M30.1 j35 (v26 + 1).toNatClampNeg) - 5) → (∃ j41 : Nat, M40.2.1 i 1 = some j41 ∧ (m_tp n j41 8 ∧ (vp_in (v26 + 4) (m_len j41) ∧ (vp_in (v26 + 4) (m_len j41) ∧ (∀ M45 : Mem, M45 = uI M40 j41 (v26 + 4).toNatClampNeg ((M40.1 j41 (v26 + 4).toNatClampNeg) + 1) → (∃ j46 : Nat, M45.2.1 i 1 = some j46 ∧ (m_tp n j46 8 ∧ (vp_in 13 (m_len j46) ∧ (∀ M49 : Mem, M49 = uI M45 j46 (13 : Int32).toNatClampNeg 0 → (∃ f : Nat, wpL_X7_grinds_113 n P f M49 i 0)))))))))))))))) ∧ (¬ 15 ≤ (M30.1 j32 (v26 + 1).toNatClampNeg) → m_tp n j31 8 ∧ (vp_in (v26 + 1) (m_len j31) ∧ (∀ M52 : Mem, M52 = uI M30 j31 (v26 + 1).toNatClampNeg 10 → (∃ j53 : Nat, M52.2.1 i 1 = some j53 ∧ (m_tp n j53 8 ∧ (vp_in (v26 + 4) (m_len j53) ∧ (vp_in (v26 + 4) (m_len j53) ∧ (∀ M57 : Mem, M57 = uI M52 j53 (v26 + 4).toNatClampNeg ((M52.1 j53 (v26 + 4).toNatClampNeg) + 1) → (∃ j58 : Nat, M57.2.1 i 1 = some j58 ∧ (m_tp n j58 8 ∧ (vp_in 13 (m_len j58) ∧ (∀ M61 : Mem, M61 = uI M57 j58 (13 : Int32).toNatClampNeg 0 → (∃ f : Nat, wpL_X7_grinds_113 n P f M61 i 0))))))))))))))))))))))))))))))))))))))))))
abbrev rm_X7_grinds : Room := { frames := 2, cells := 0, slots := 0, locals := 43 }
set_option maxHeartbeats 4000000 in
set_option maxRecDepth 100000 in
theorem c_X7_grinds {l : Launch} {D : va_G} {cA : Nat → ClassId} {b n : Nat} {M : Mem} {i : Nat} {P : Mem → Prop} (h : wp_X7_grinds n M i P) : m_C l D cA b n n M yX7_grinds cX7_grinds 2 none rm_X7_grinds 0 0 [.ref (b + i)] (rV P) := by
  refine m_enter (by decide) (Nat.le_of_ble_eq_true rfl) (fun p e s m below meth c C hr hlk hnm hK hP hS ls hl => ?_)
  have hx := C.1
  have hb := C.2.1
  have hl : lv_has ls 2 [(0, .ref (b + i))] := hl
  have L113 : ∀ f : Nat, ∀ (M : Mem) (H : Heap) (locs : List Loc) (ls : Array Slot) (x0 : Nat) (x1 : Int32), wpL_X7_grinds_113 n P f M x0 x1 → m_H D cA b n M H → va_S (m_A b) s.heap H locs → lv_has ls 2 [(0, .ref (b + x0)), (1, .int x1)] → W p l e rm_X7_grinds s m ([.ref (b + i)] : List Value).toArray below meth c H locs 0 0 (MQ below (m_Q D cA b n (rV P)) ([.ref (b + i)] : List Value).toArray s 0 0 (m_A b)) (F0 m 113 ls []) := by
    clear h
    intro f
    induction f with
    | zero => intro M H locs ls x0 x1 h; exact h.elim
    | succ f ih =>
      intro M H locs ls x0 x1 h hP hS hl
      have h : wpB_X7_grinds_113 n P (wpL_X7_grinds_113 n P f) M x0 x1 := h
      unfold wpB_X7_grinds_113 at h
      refine lv_iload_n (pc := 113) hx hb dX7_grinds_113 rfl (lv_at hl 1 rfl) ?_
      refine lv_iconst (v := 5) (pc := 114) hx hb dX7_grinds_114 (by decide) ?_
      refine lv_icmp_ge (tgt := 147) (pc := 115) hx hb dX7_grinds_115 (by decide) (fun c115 => ?_) (fun c115 => ?_)
      · replace h := h.1 c115
        exact m_vret (pc := 147) C hr hlk hP hS dX7_grinds_147 h
      · replace h := h.2 c115
        refine lv_aload_n (pc := 118) hx hb dX7_grinds_118 rfl (lv_at hl 0 rfl) ?_
        obtain ⟨hk5, h⟩ := h
        obtain ⟨j6, hj6, h⟩ := h
        refine gX7_7 (pc := 119) C hK hP hk5 hj6 dX7_grinds_119 ?_
        refine lv_bipush (v := 13) (pc := 122) hx hb dX7_grinds_122 (by decide) ?_
        obtain ⟨hk7, h⟩ := h
        obtain ⟨hi8, h⟩ := h
        refine m_iald (pc := 124) C hK hP hk7 hi8 dX7_grinds_124 ?_
        refine lv_if_ne (tgt := 147) (pc := 125) hx hb dX7_grinds_125 (by decide) (fun c125 => ?_) (fun c125 => ?_)
        · replace h := h.1 c125
          exact m_vret (pc := 147) C hr hlk hP hS dX7_grinds_147 h
        · replace h := h.2 c125
          refine lv_aload_n (pc := 128) hx hb dX7_grinds_128 rfl (lv_at hl 0 rfl) ?_
          refine lv_iload_n (pc := 129) hx hb dX7_grinds_129 rfl (lv_at hl 1 rfl) ?_
          refine m_callVZ (pc := 130) (y := yX7_isWornOut) (κ := 7) (As := [.int x1]) (rest := []) C hK hP hS hl.1 ⟨Nat.zero_le _, Nat.zero_le _⟩ (c_X7_isWornOut h) rfl rfl hk5 (by decide) rfl q_1122 q_1124 q_s62 q_8 q_1125 ⟨rfl, rfl⟩ yd_X7_isWornOut ⟨Nat.le_of_ble_eq_true rfl, Nat.le_of_ble_eq_true rfl⟩ (Nat.le_of_ble_eq_true rfl) dX7_grinds_130 (fun z10 M9 H locs h hP hS => ?_)
          refine lv_if_eq (tgt := 141) (pc := 133) hx hb dX7_grinds_133 (by decide) (fun c133 => ?_) (fun c133 => ?_)
          · replace h := h.1 (bZ0 c133)
            obtain ⟨v11, ev11⟩ : ∃ y : Int32, y = x1 + 1 := ⟨_, rfl⟩
            replace h := h v11 ev11
            refine lv_iinc (v := v11) (lv' := [(1, .int v11), (0, .ref (b + x0))]) (pc := 141) hx hb dX7_grinds_141 hl (k := 1) rfl (by rw [ev11]; rfl) (by decide) rfl (fun ls hl => ?_)
            refine lv_goto (tgt := 113) (pc := 144) hx hb dX7_grinds_144 (by decide) ?_
            exact ih _ _ _ _ _ _ h hP hS (lv_sub hl [1, 0] rfl)
          · replace h := h.2 (bZ1 c133)
            refine lv_aload_n (pc := 136) hx hb dX7_grinds_136 rfl (lv_at hl 0 rfl) ?_
            refine lv_iload_n (pc := 137) hx hb dX7_grinds_137 rfl (lv_at hl 1 rfl) ?_
            refine m_callVV (pc := 138) (y := yX7_begins) (κ := 7) (As := [.int x1]) (rest := []) C hK hP hS hl.1 ⟨Nat.zero_le _, Nat.zero_le _⟩ (c_X7_begins h) rfl rfl hk5 (by decide) rfl q_1011 q_1013 q_s40 q_8 q_1014 ⟨rfl, rfl⟩ yd_X7_begins ⟨Nat.le_of_ble_eq_true rfl, Nat.le_of_ble_eq_true rfl⟩ (Nat.le_of_ble_eq_true rfl) dX7_grinds_138 (fun M12 H locs h hP hS => ?_)
            obtain ⟨v14, ev14⟩ : ∃ y : Int32, y = x1 + 1 := ⟨_, rfl⟩
            replace h := h v14 ev14
            refine lv_iinc (v := v14) (lv' := [(1, .int v14), (0, .ref (b + x0))]) (pc := 141) hx hb dX7_grinds_141 hl (k := 1) rfl (by rw [ev14]; rfl) (by decide) rfl (fun ls hl => ?_)
            refine lv_goto (tgt := 113) (pc := 144) hx hb dX7_grinds_144 (by decide) ?_
            exact ih _ _ _ _ _ _ h hP hS (lv_sub hl [1, 0] rfl)
  unfold wp_X7_grinds at h
  refine lv_aload_n (pc := 0) hx hb dX7_grinds_0 rfl (lv_at hl 0 rfl) ?_
  obtain ⟨hk1, h⟩ := h
  obtain ⟨j2, hj2, h⟩ := h
  refine gX7_7 (pc := 1) C hK hP hk1 hj2 dX7_grinds_1 ?_
  refine lv_bipush (v := 13) (pc := 4) hx hb dX7_grinds_4 (by decide) ?_
  obtain ⟨hk3, h⟩ := h
  obtain ⟨hi4, h⟩ := h
  refine m_iald (pc := 6) C hK hP hk3 hi4 dX7_grinds_6 ?_
  refine lv_if_le (tgt := 111) (pc := 7) hx hb dX7_grinds_7 (by decide) (fun c7 => ?_) (fun c7 => ?_)
  · replace h := h.1 c7
    refine lv_iconst (v := 0) (pc := 111) hx hb dX7_grinds_111 (by decide) ?_
    refine lv_istore_n (lv' := [(1, .int 0), (0, .ref (b + i))]) (pc := 112) hx hb dX7_grinds_112 rfl hl (by decide) rfl (fun ls hl => ?_)
    obtain ⟨f, h⟩ := h
    exact L113 f _ _ _ _ _ _ h hP hS (lv_sub hl [1, 0] rfl)
  · replace h := h.2 c7
    refine lv_aload_n (pc := 10) hx hb dX7_grinds_10 rfl (lv_at hl 0 rfl) ?_
    obtain ⟨j15, hj15, h⟩ := h
    refine gX7_7 (pc := 11) C hK hP hk1 hj15 dX7_grinds_11 ?_
    refine lv_bipush (v := 14) (pc := 14) hx hb dX7_grinds_14 (by decide) ?_
    refine lv_dup2_11 (pc := 16) hx hb dX7_grinds_16 rfl rfl ?_
    obtain ⟨hk16, h⟩ := h
    obtain ⟨hi17, h⟩ := h
    refine m_iald (pc := 17) C hK hP hk16 hi17 dX7_grinds_17 ?_
    refine lv_iconst (v := 1) (pc := 18) hx hb dX7_grinds_18 (by decide) ?_
    refine lv_isub (pc := 19) hx hb dX7_grinds_19 ?_
    obtain ⟨hi18, h⟩ := h
    refine m_iast (pc := 20) C hK hP hS hk16 hi18 dX7_grinds_20 (fun M19 H locs eM19 hP hS => ?_)
    replace h := h M19 eM19
    refine lv_aload_n (pc := 21) hx hb dX7_grinds_21 rfl (lv_at hl 0 rfl) ?_
    obtain ⟨j20, hj20, h⟩ := h
    refine gX7_7 (pc := 22) C hK hP hk1 hj20 dX7_grinds_22 ?_
    refine lv_bipush (v := 14) (pc := 25) hx hb dX7_grinds_25 (by decide) ?_
    obtain ⟨hk21, h⟩ := h
    obtain ⟨hi22, h⟩ := h
    refine m_iald (pc := 27) C hK hP hk21 hi22 dX7_grinds_27 ?_
    refine lv_if_ne (tgt := 111) (pc := 28) hx hb dX7_grinds_28 (by decide) (fun c28 => ?_) (fun c28 => ?_)
    · replace h := h.1 c28
      refine lv_iconst (v := 0) (pc := 111) hx hb dX7_grinds_111 (by decide) ?_
      refine lv_istore_n (lv' := [(1, .int 0), (0, .ref (b + i))]) (pc := 112) hx hb dX7_grinds_112 rfl hl (by decide) rfl (fun ls hl => ?_)
      obtain ⟨f, h⟩ := h
      exact L113 f _ _ _ _ _ _ h hP hS (lv_sub hl [1, 0] rfl)
    · replace h := h.2 c28
      refine lv_bipush (v := 35) (pc := 31) hx hb dX7_grinds_31 (by decide) ?_
      refine lv_iconst (v := 5) (pc := 33) hx hb dX7_grinds_33 (by decide) ?_
      refine lv_aload_n (pc := 34) hx hb dX7_grinds_34 rfl (lv_at hl 0 rfl) ?_
      obtain ⟨j23, hj23, h⟩ := h
      refine gX7_7 (pc := 35) C hK hP hk1 hj23 dX7_grinds_35 ?_
      refine lv_bipush (v := 13) (pc := 38) hx hb dX7_grinds_38 (by decide) ?_
      obtain ⟨hk24, h⟩ := h
      obtain ⟨hi25, h⟩ := h
      refine m_iald (pc := 40) C hK hP hk24 hi25 dX7_grinds_40 ?_
      refine lv_iconst (v := 1) (pc := 41) hx hb dX7_grinds_41 (by decide) ?_
      refine lv_isub (pc := 42) hx hb dX7_grinds_42 ?_
      refine lv_imul (pc := 43) hx hb dX7_grinds_43 ?_
      refine lv_iadd (pc := 44) hx hb dX7_grinds_44 ?_
      refine lv_topi (fun v26 ev26 => ?_)
      replace h := h v26 ev26
      refine lv_istore_n (lv' := [(1, .int v26), (0, .ref (b + i))]) (pc := 45) hx hb dX7_grinds_45 rfl hl (by decide) rfl (fun ls hl => ?_)
      refine lv_aload_n (pc := 46) hx hb dX7_grinds_46 rfl (lv_at hl 1 rfl) ?_
      obtain ⟨j27, hj27, h⟩ := h
      refine gX7_7 (pc := 47) C hK hP hk1 hj27 dX7_grinds_47 ?_
      refine lv_iload_n (pc := 50) hx hb dX7_grinds_50 rfl (lv_at hl 0 rfl) ?_
      refine lv_iconst (v := 2) (pc := 51) hx hb dX7_grinds_51 (by decide) ?_
      refine lv_iadd (pc := 52) hx hb dX7_grinds_52 ?_
      refine lv_iconst (v := 0) (pc := 53) hx hb dX7_grinds_53 (by decide) ?_
      obtain ⟨hk28, h⟩ := h
      obtain ⟨hi29, h⟩ := h
      refine m_iast (pc := 54) C hK hP hS hk28 hi29 dX7_grinds_54 (fun M30 H locs eM30 hP hS => ?_)
      replace h := h M30 eM30
      refine lv_aload_n (pc := 55) hx hb dX7_grinds_55 rfl (lv_at hl 1 rfl) ?_
      obtain ⟨j31, hj31, h⟩ := h
      refine gX7_7 (pc := 56) C hK hP hk1 hj31 dX7_grinds_56 ?_
      refine lv_iload_n (pc := 59) hx hb dX7_grinds_59 rfl (lv_at hl 0 rfl) ?_
      refine lv_iconst (v := 1) (pc := 60) hx hb dX7_grinds_60 (by decide) ?_
      refine lv_iadd (pc := 61) hx hb dX7_grinds_61 ?_
      refine lv_aload_n (pc := 62) hx hb dX7_grinds_62 rfl (lv_at hl 1 rfl) ?_
      obtain ⟨j32, hj32, h⟩ := h
      refine gX7_7 (pc := 63) C hK hP hk1 hj32 dX7_grinds_63 ?_
      refine lv_iload_n (pc := 66) hx hb dX7_grinds_66 rfl (lv_at hl 0 rfl) ?_
      refine lv_iconst (v := 1) (pc := 67) hx hb dX7_grinds_67 (by decide) ?_
      refine lv_iadd (pc := 68) hx hb dX7_grinds_68 ?_
      obtain ⟨hk33, h⟩ := h
      obtain ⟨hi34, h⟩ := h
      refine m_iald (pc := 69) C hK hP hk33 hi34 dX7_grinds_69 ?_
      refine lv_bipush (v := 15) (pc := 70) hx hb dX7_grinds_70 (by decide) ?_
      refine lv_icmp_ge (tgt := 80) (pc := 72) hx hb dX7_grinds_72 (by decide) (fun c72 => ?_) (fun c72 => ?_)
      · replace h := h.1 c72
        refine lv_aload_n (pc := 80) hx hb dX7_grinds_80 rfl (lv_at hl 1 rfl) ?_
        obtain ⟨j35, hj35, h⟩ := h
        refine gX7_7 (pc := 81) C hK hP hk1 hj35 dX7_grinds_81 ?_
        refine lv_iload_n (pc := 84) hx hb dX7_grinds_84 rfl (lv_at hl 0 rfl) ?_
        refine lv_iconst (v := 1) (pc := 85) hx hb dX7_grinds_85 (by decide) ?_
        refine lv_iadd (pc := 86) hx hb dX7_grinds_86 ?_
        obtain ⟨hk36, h⟩ := h
        obtain ⟨hi37, h⟩ := h
        refine m_iald (pc := 87) C hK hP hk36 hi37 dX7_grinds_87 ?_
        refine lv_iconst (v := 5) (pc := 88) hx hb dX7_grinds_88 (by decide) ?_
        refine lv_isub (pc := 89) hx hb dX7_grinds_89 ?_
        obtain ⟨hk38, h⟩ := h
        obtain ⟨hi39, h⟩ := h
        refine m_iast (pc := 90) C hK hP hS hk38 hi39 dX7_grinds_90 (fun M40 H locs eM40 hP hS => ?_)
        replace h := h M40 eM40
        refine lv_aload_n (pc := 91) hx hb dX7_grinds_91 rfl (lv_at hl 1 rfl) ?_
        obtain ⟨j41, hj41, h⟩ := h
        refine gX7_7 (pc := 92) C hK hP hk1 hj41 dX7_grinds_92 ?_
        refine lv_iload_n (pc := 95) hx hb dX7_grinds_95 rfl (lv_at hl 0 rfl) ?_
        refine lv_iconst (v := 4) (pc := 96) hx hb dX7_grinds_96 (by decide) ?_
        refine lv_iadd (pc := 97) hx hb dX7_grinds_97 ?_
        refine lv_dup2_11 (pc := 98) hx hb dX7_grinds_98 rfl rfl ?_
        obtain ⟨hk42, h⟩ := h
        obtain ⟨hi43, h⟩ := h
        refine m_iald (pc := 99) C hK hP hk42 hi43 dX7_grinds_99 ?_
        refine lv_iconst (v := 1) (pc := 100) hx hb dX7_grinds_100 (by decide) ?_
        refine lv_iadd (pc := 101) hx hb dX7_grinds_101 ?_
        obtain ⟨hi44, h⟩ := h
        refine m_iast (pc := 102) C hK hP hS hk42 hi44 dX7_grinds_102 (fun M45 H locs eM45 hP hS => ?_)
        replace h := h M45 eM45
        refine lv_aload_n (pc := 103) hx hb dX7_grinds_103 rfl (lv_at hl 1 rfl) ?_
        obtain ⟨j46, hj46, h⟩ := h
        refine gX7_7 (pc := 104) C hK hP hk1 hj46 dX7_grinds_104 ?_
        refine lv_bipush (v := 13) (pc := 107) hx hb dX7_grinds_107 (by decide) ?_
        refine lv_iconst (v := 0) (pc := 109) hx hb dX7_grinds_109 (by decide) ?_
        obtain ⟨hk47, h⟩ := h
        obtain ⟨hi48, h⟩ := h
        refine m_iast (pc := 110) C hK hP hS hk47 hi48 dX7_grinds_110 (fun M49 H locs eM49 hP hS => ?_)
        replace h := h M49 eM49
        refine lv_iconst (v := 0) (pc := 111) hx hb dX7_grinds_111 (by decide) ?_
        refine lv_istore_n (lv' := [(1, .int 0), (0, .ref (b + i))]) (pc := 112) hx hb dX7_grinds_112 rfl hl (by decide) rfl (fun ls hl => ?_)
        obtain ⟨f, h⟩ := h
        exact L113 f _ _ _ _ _ _ h hP hS (lv_sub hl [1, 0] rfl)
      · replace h := h.2 c72
        refine lv_bipush (v := 10) (pc := 75) hx hb dX7_grinds_75 (by decide) ?_
        refine lv_goto (tgt := 90) (pc := 77) hx hb dX7_grinds_77 (by decide) ?_
        obtain ⟨hk50, h⟩ := h
        obtain ⟨hi51, h⟩ := h
        refine m_iast (pc := 90) C hK hP hS hk50 hi51 dX7_grinds_90 (fun M52 H locs eM52 hP hS => ?_)
        replace h := h M52 eM52
        refine lv_aload_n (pc := 91) hx hb dX7_grinds_91 rfl (lv_at hl 1 rfl) ?_
        obtain ⟨j53, hj53, h⟩ := h
        refine gX7_7 (pc := 92) C hK hP hk1 hj53 dX7_grinds_92 ?_
        refine lv_iload_n (pc := 95) hx hb dX7_grinds_95 rfl (lv_at hl 0 rfl) ?_
        refine lv_iconst (v := 4) (pc := 96) hx hb dX7_grinds_96 (by decide) ?_
        refine lv_iadd (pc := 97) hx hb dX7_grinds_97 ?_
        refine lv_dup2_11 (pc := 98) hx hb dX7_grinds_98 rfl rfl ?_
        obtain ⟨hk54, h⟩ := h
        obtain ⟨hi55, h⟩ := h
        refine m_iald (pc := 99) C hK hP hk54 hi55 dX7_grinds_99 ?_
        refine lv_iconst (v := 1) (pc := 100) hx hb dX7_grinds_100 (by decide) ?_
        refine lv_iadd (pc := 101) hx hb dX7_grinds_101 ?_
        obtain ⟨hi56, h⟩ := h
        refine m_iast (pc := 102) C hK hP hS hk54 hi56 dX7_grinds_102 (fun M57 H locs eM57 hP hS => ?_)
        replace h := h M57 eM57
        refine lv_aload_n (pc := 103) hx hb dX7_grinds_103 rfl (lv_at hl 1 rfl) ?_
        obtain ⟨j58, hj58, h⟩ := h
        refine gX7_7 (pc := 104) C hK hP hk1 hj58 dX7_grinds_104 ?_
        refine lv_bipush (v := 13) (pc := 107) hx hb dX7_grinds_107 (by decide) ?_
        refine lv_iconst (v := 0) (pc := 109) hx hb dX7_grinds_109 (by decide) ?_
        obtain ⟨hk59, h⟩ := h
        obtain ⟨hi60, h⟩ := h
        refine m_iast (pc := 110) C hK hP hS hk59 hi60 dX7_grinds_110 (fun M61 H locs eM61 hP hS => ?_)
        replace h := h M61 eM61
        refine lv_iconst (v := 0) (pc := 111) hx hb dX7_grinds_111 (by decide) ?_
        refine lv_istore_n (lv' := [(1, .int 0), (0, .ref (b + i))]) (pc := 112) hx hb dX7_grinds_112 rfl hl (by decide) rfl (fun ls hl => ?_)
        obtain ⟨f, h⟩ := h
        exact L113 f _ _ _ _ _ _ h hP hS (lv_sub hl [1, 0] rfl)
/-! ForgeHeatsModel.minute ()V -/
def wp_X7_minute (n : Nat) (M : Mem) (i : Nat) (P : Mem → Prop) : Prop := m_tp n i 7 ∧ (wp_X7_warms n M i (fun M1 => wp_X7_loads n M1 i (fun M4 => wp_X7_jobOn n M4 i 6 (fun r7 M6 => ((¬ r7 = (-1) → wp_X7_presses n M6 i r7 (fun M8 => wp_X7_grinds n M8 i (fun M10 => ∃ j12 : Nat, M10.2.1 i 1 = some j12 ∧ (m_tp n j12 8 ∧ (vp_in 4 (m_len j12) ∧ (vp_in 4 (m_len j12) ∧ (∀ M16 : Mem, M16 = uI M10 j12 (4 : Int32).toNatClampNeg ((M10.1 j12 (4 : Int32).toNatClampNeg) + 1) → (P M16)))))))) ∧ (r7 = (-1) → wp_X7_takes n M6 i (fun M17 => wp_X7_grinds n M17 i (fun M19 => ∃ j21 : Nat, M19.2.1 i 1 = some j21 ∧ (m_tp n j21 8 ∧ (vp_in 4 (m_len j21) ∧ (vp_in 4 (m_len j21) ∧ (∀ M25 : Mem, M25 = uI M19 j21 (4 : Int32).toNatClampNeg ((M19.1 j21 (4 : Int32).toNatClampNeg) + 1) → (P M25)))))))))))))
abbrev rm_X7_minute : Room := { frames := 6, cells := 0, slots := 0, locals := 136 }
set_option maxHeartbeats 4000000 in
set_option maxRecDepth 100000 in
theorem c_X7_minute {l : Launch} {D : va_G} {cA : Nat → ClassId} {b n : Nat} {M : Mem} {i : Nat} {P : Mem → Prop} (h : wp_X7_minute n M i P) : m_C l D cA b n n M yX7_minute cX7_minute 2 none rm_X7_minute 0 0 [.ref (b + i)] (rV P) := by
  refine m_enter (by decide) (Nat.le_of_ble_eq_true rfl) (fun p e s m below meth c C hr hlk hnm hK hP hS ls hl => ?_)
  have hx := C.1
  have hb := C.2.1
  have hl : lv_has ls 2 [(0, .ref (b + i))] := hl
  unfold wp_X7_minute at h
  refine lv_aload_n (pc := 0) hx hb dX7_minute_0 rfl (lv_at hl 0 rfl) ?_
  obtain ⟨hk2, h⟩ := h
  refine m_callVV (pc := 1) (y := yX7_warms) (κ := 7) (As := []) (rest := []) C hK hP hS hl.1 ⟨Nat.zero_le _, Nat.zero_le _⟩ (c_X7_warms h) rfl rfl hk2 (by decide) rfl q_1090 q_1092 q_s54 q_8 q_1093 ⟨rfl, rfl⟩ yd_X7_warms ⟨Nat.le_of_ble_eq_true rfl, Nat.le_of_ble_eq_true rfl⟩ (Nat.le_of_ble_eq_true rfl) dX7_minute_1 (fun M1 H locs h hP hS => ?_)
  refine lv_aload_n (pc := 4) hx hb dX7_minute_4 rfl (lv_at hl 0 rfl) ?_
  refine m_callVV (pc := 5) (y := yX7_loads) (κ := 7) (As := []) (rest := []) C hK hP hS hl.1 ⟨Nat.zero_le _, Nat.zero_le _⟩ (c_X7_loads h) rfl rfl hk2 (by decide) rfl q_1094 q_1096 q_s55 q_8 q_1097 ⟨rfl, rfl⟩ yd_X7_loads ⟨Nat.le_of_ble_eq_true rfl, Nat.le_of_ble_eq_true rfl⟩ (Nat.le_of_ble_eq_true rfl) dX7_minute_5 (fun M4 H locs h hP hS => ?_)
  refine lv_aload_n (pc := 8) hx hb dX7_minute_8 rfl (lv_at hl 0 rfl) ?_
  refine lv_bipush (v := 6) (pc := 9) hx hb dX7_minute_9 (by decide) ?_
  refine m_callVI (pc := 11) (y := yX7_jobOn) (κ := 7) (As := [.int 6]) (rest := []) C hK hP hS hl.1 ⟨Nat.zero_le _, Nat.zero_le _⟩ (c_X7_jobOn h) rfl rfl hk2 (by decide) rfl q_1035 q_1037 q_s44 q_8 q_1038 ⟨rfl, rfl⟩ yd_X7_jobOn ⟨Nat.le_of_ble_eq_true rfl, Nat.le_of_ble_eq_true rfl⟩ (Nat.le_of_ble_eq_true rfl) dX7_minute_11 (fun r7 M6 H locs h hP hS => ?_)
  refine lv_istore_n (lv' := [(1, .int r7), (0, .ref (b + i))]) (pc := 14) hx hb dX7_minute_14 rfl hl (by decide) rfl (fun ls hl => ?_)
  refine lv_iload_n (pc := 15) hx hb dX7_minute_15 rfl (lv_at hl 0 rfl) ?_
  refine lv_iconst (v := -1) (pc := 16) hx hb dX7_minute_16 (by decide) ?_
  refine lv_icmp_ne (tgt := 27) (pc := 17) hx hb dX7_minute_17 (by decide) (fun c17 => ?_) (fun c17 => ?_)
  · replace h := h.1 c17
    refine lv_aload_n (pc := 27) hx hb dX7_minute_27 rfl (lv_at hl 1 rfl) ?_
    refine lv_iload_n (pc := 28) hx hb dX7_minute_28 rfl (lv_at hl 0 rfl) ?_
    refine m_callVV (pc := 29) (y := yX7_presses) (κ := 7) (As := [.int r7]) (rest := []) C hK hP hS hl.1 ⟨Nat.zero_le _, Nat.zero_le _⟩ (c_X7_presses h) rfl rfl hk2 (by decide) rfl q_1134 q_1136 q_s65 q_8 q_1137 ⟨rfl, rfl⟩ yd_X7_presses ⟨Nat.le_of_ble_eq_true rfl, Nat.le_of_ble_eq_true rfl⟩ (Nat.le_of_ble_eq_true rfl) dX7_minute_29 (fun M8 H locs h hP hS => ?_)
    refine lv_aload_n (pc := 32) hx hb dX7_minute_32 rfl (lv_at hl 1 rfl) ?_
    refine m_callVV (pc := 33) (y := yX7_grinds) (κ := 7) (As := []) (rest := []) C hK hP hS hl.1 ⟨Nat.zero_le _, Nat.zero_le _⟩ (c_X7_grinds h) rfl rfl hk2 (by decide) rfl q_1146 q_1148 q_s68 q_8 q_1149 ⟨rfl, rfl⟩ yd_X7_grinds ⟨Nat.le_of_ble_eq_true rfl, Nat.le_of_ble_eq_true rfl⟩ (Nat.le_of_ble_eq_true rfl) dX7_minute_33 (fun M10 H locs h hP hS => ?_)
    refine lv_aload_n (pc := 36) hx hb dX7_minute_36 rfl (lv_at hl 1 rfl) ?_
    obtain ⟨j12, hj12, h⟩ := h
    refine gX7_7 (pc := 37) C hK hP hk2 hj12 dX7_minute_37 ?_
    refine lv_iconst (v := 4) (pc := 40) hx hb dX7_minute_40 (by decide) ?_
    refine lv_dup2_11 (pc := 41) hx hb dX7_minute_41 rfl rfl ?_
    obtain ⟨hk13, h⟩ := h
    obtain ⟨hi14, h⟩ := h
    refine m_iald (pc := 42) C hK hP hk13 hi14 dX7_minute_42 ?_
    refine lv_iconst (v := 1) (pc := 43) hx hb dX7_minute_43 (by decide) ?_
    refine lv_iadd (pc := 44) hx hb dX7_minute_44 ?_
    obtain ⟨hi15, h⟩ := h
    refine m_iast (pc := 45) C hK hP hS hk13 hi15 dX7_minute_45 (fun M16 H locs eM16 hP hS => ?_)
    replace h := h M16 eM16
    exact m_vret (pc := 46) C hr hlk hP hS dX7_minute_46 h
  · replace h := h.2 c17
    refine lv_aload_n (pc := 20) hx hb dX7_minute_20 rfl (lv_at hl 1 rfl) ?_
    refine m_callVV (pc := 21) (y := yX7_takes) (κ := 7) (As := []) (rest := []) C hK hP hS hl.1 ⟨Nat.zero_le _, Nat.zero_le _⟩ (c_X7_takes h) rfl rfl hk2 (by decide) rfl q_1114 q_1116 q_s60 q_8 q_1117 ⟨rfl, rfl⟩ yd_X7_takes ⟨Nat.le_of_ble_eq_true rfl, Nat.le_of_ble_eq_true rfl⟩ (Nat.le_of_ble_eq_true rfl) dX7_minute_21 (fun M17 H locs h hP hS => ?_)
    refine lv_goto (tgt := 32) (pc := 24) hx hb dX7_minute_24 (by decide) ?_
    refine lv_aload_n (pc := 32) hx hb dX7_minute_32 rfl (lv_at hl 1 rfl) ?_
    refine m_callVV (pc := 33) (y := yX7_grinds) (κ := 7) (As := []) (rest := []) C hK hP hS hl.1 ⟨Nat.zero_le _, Nat.zero_le _⟩ (c_X7_grinds h) rfl rfl hk2 (by decide) rfl q_1146 q_1148 q_s68 q_8 q_1149 ⟨rfl, rfl⟩ yd_X7_grinds ⟨Nat.le_of_ble_eq_true rfl, Nat.le_of_ble_eq_true rfl⟩ (Nat.le_of_ble_eq_true rfl) dX7_minute_33 (fun M19 H locs h hP hS => ?_)
    refine lv_aload_n (pc := 36) hx hb dX7_minute_36 rfl (lv_at hl 1 rfl) ?_
    obtain ⟨j21, hj21, h⟩ := h
    refine gX7_7 (pc := 37) C hK hP hk2 hj21 dX7_minute_37 ?_
    refine lv_iconst (v := 4) (pc := 40) hx hb dX7_minute_40 (by decide) ?_
    refine lv_dup2_11 (pc := 41) hx hb dX7_minute_41 rfl rfl ?_
    obtain ⟨hk22, h⟩ := h
    obtain ⟨hi23, h⟩ := h
    refine m_iald (pc := 42) C hK hP hk22 hi23 dX7_minute_42 ?_
    refine lv_iconst (v := 1) (pc := 43) hx hb dX7_minute_43 (by decide) ?_
    refine lv_iadd (pc := 44) hx hb dX7_minute_44 ?_
    obtain ⟨hi24, h⟩ := h
    refine m_iast (pc := 45) C hK hP hS hk22 hi24 dX7_minute_45 (fun M25 H locs eM25 hP hS => ?_)
    replace h := h M25 eM25
    exact m_vret (pc := 46) C hr hlk hP hS dX7_minute_46 h
/-! ForgeHeatsModel.minutes (I)I -/
def wpB_X7_minutes_10 (n : Nat) (P : Int32 → Mem → Prop) (R_ : Mem → Nat → Int32 → Int32 → Int32 → Prop) (M : Mem) (x0 : Nat) (x1 : Int32) (x2 : Int32) (x3 : Int32) : Prop := ((x1 ≤ x3 → m_tp n x0 7 ∧ (∃ j7 : Nat, M.2.1 x0 1 = some j7 ∧ (m_tp n j7 8 ∧ (vp_in 7 (m_len j7) ∧ (P ((M.1 j7 (7 : Int32).toNatClampNeg) - x2) M))))) ∧ (¬ x1 ≤ x3 → m_tp n x0 7 ∧ (wp_X7_minute n M x0 (fun M10 => ∀ v13 : Int32, v13 = x3 + 1 → (R_ M10 x0 x1 x2 v13)))))
def wpL_X7_minutes_10 (n : Nat) (P : Int32 → Mem → Prop) : Nat → Mem → Nat → Int32 → Int32 → Int32 → Prop
  | 0 => fun _ _ _ _ _ => False
  | f + 1 => fun M x0 x1 x2 x3 => wpB_X7_minutes_10 n P (wpL_X7_minutes_10 n P f) M x0 x1 x2 x3
def wp_X7_minutes (n : Nat) (M : Mem) (i : Nat) (p1 : Int32) (P : Int32 → Mem → Prop) : Prop := m_tp n i 7 ∧ (∃ j2 : Nat, M.2.1 i 1 = some j2 ∧ (m_tp n j2 8 ∧ (vp_in 7 (m_len j2) ∧ (∀ v5 : Int32, v5 = (M.1 j2 (7 : Int32).toNatClampNeg) → (∃ f : Nat, wpL_X7_minutes_10 n P f M i p1 v5 0)))))
abbrev rm_X7_minutes : Room := { frames := 7, cells := 0, slots := 0, locals := 157 }
set_option maxHeartbeats 4000000 in
set_option maxRecDepth 100000 in
theorem c_X7_minutes {l : Launch} {D : va_G} {cA : Nat → ClassId} {b n : Nat} {M : Mem} {i : Nat} {p1 : Int32} {P : Int32 → Mem → Prop} (h : wp_X7_minutes n M i p1 P) : m_C l D cA b n n M yX7_minutes cX7_minutes 4 (some .int) rm_X7_minutes 0 0 [.ref (b + i), .int p1] (rI P) := by
  refine m_enter (by decide) (Nat.le_of_ble_eq_true rfl) (fun p e s m below meth c C hr hlk hnm hK hP hS ls hl => ?_)
  have hx := C.1
  have hb := C.2.1
  have hl : lv_has ls 4 [(0, .ref (b + i)), (1, .int p1)] := hl
  have L10 : ∀ f : Nat, ∀ (M : Mem) (H : Heap) (locs : List Loc) (ls : Array Slot) (x0 : Nat) (x1 : Int32) (x2 : Int32) (x3 : Int32), wpL_X7_minutes_10 n P f M x0 x1 x2 x3 → m_H D cA b n M H → va_S (m_A b) s.heap H locs → lv_has ls 4 [(0, .ref (b + x0)), (1, .int x1), (2, .int x2), (3, .int x3)] → W p l e rm_X7_minutes s m ([.ref (b + i), .int p1] : List Value).toArray below meth c H locs 0 0 (MQ below (m_Q D cA b n (rI P)) ([.ref (b + i), .int p1] : List Value).toArray s 0 0 (m_A b)) (F0 m 10 ls []) := by
    clear h
    intro f
    induction f with
    | zero => intro M H locs ls x0 x1 x2 x3 h; exact h.elim
    | succ f ih =>
      intro M H locs ls x0 x1 x2 x3 h hP hS hl
      have h : wpB_X7_minutes_10 n P (wpL_X7_minutes_10 n P f) M x0 x1 x2 x3 := h
      unfold wpB_X7_minutes_10 at h
      refine lv_iload_n (pc := 10) hx hb dX7_minutes_10 rfl (lv_at hl 3 rfl) ?_
      refine lv_iload_n (pc := 11) hx hb dX7_minutes_11 rfl (lv_at hl 1 rfl) ?_
      refine lv_icmp_ge (tgt := 25) (pc := 12) hx hb dX7_minutes_12 (by decide) (fun c12 => ?_) (fun c12 => ?_)
      · replace h := h.1 c12
        refine lv_aload_n (pc := 25) hx hb dX7_minutes_25 rfl (lv_at hl 0 rfl) ?_
        obtain ⟨hk6, h⟩ := h
        obtain ⟨j7, hj7, h⟩ := h
        refine gX7_7 (pc := 26) C hK hP hk6 hj7 dX7_minutes_26 ?_
        refine lv_bipush (v := 7) (pc := 29) hx hb dX7_minutes_29 (by decide) ?_
        obtain ⟨hk8, h⟩ := h
        obtain ⟨hi9, h⟩ := h
        refine m_iald (pc := 31) C hK hP hk8 hi9 dX7_minutes_31 ?_
        refine lv_iload_n (pc := 32) hx hb dX7_minutes_32 rfl (lv_at hl 2 rfl) ?_
        refine lv_isub (pc := 33) hx hb dX7_minutes_33 ?_
        exact m_iret (v := (M.1 j7 (7 : Int32).toNatClampNeg) - x2) (pc := 34) C hr hlk hP hS dX7_minutes_34 h
      · replace h := h.2 c12
        refine lv_aload_n (pc := 15) hx hb dX7_minutes_15 rfl (lv_at hl 0 rfl) ?_
        obtain ⟨hk11, h⟩ := h
        refine m_callVV (pc := 16) (y := yX7_minute) (κ := 7) (As := []) (rest := []) C hK hP hS hl.1 ⟨Nat.zero_le _, Nat.zero_le _⟩ (c_X7_minute h) rfl rfl hk11 (by decide) rfl q_1086 q_1088 q_s53 q_8 q_1089 ⟨rfl, rfl⟩ yd_X7_minute ⟨Nat.le_of_ble_eq_true rfl, Nat.le_of_ble_eq_true rfl⟩ (Nat.le_of_ble_eq_true rfl) dX7_minutes_16 (fun M10 H locs h hP hS => ?_)
        obtain ⟨v13, ev13⟩ : ∃ y : Int32, y = x3 + 1 := ⟨_, rfl⟩
        replace h := h v13 ev13
        refine lv_iinc (v := v13) (lv' := [(3, .int v13), (0, .ref (b + x0)), (1, .int x1), (2, .int x2)]) (pc := 19) hx hb dX7_minutes_19 hl (k := 3) rfl (by rw [ev13]; rfl) (by decide) rfl (fun ls hl => ?_)
        refine lv_goto (tgt := 10) (pc := 22) hx hb dX7_minutes_22 (by decide) ?_
        exact ih _ _ _ _ _ _ _ _ h hP hS (lv_sub hl [1, 2, 3, 0] rfl)
  unfold wp_X7_minutes at h
  refine lv_aload_n (pc := 0) hx hb dX7_minutes_0 rfl (lv_at hl 0 rfl) ?_
  obtain ⟨hk1, h⟩ := h
  obtain ⟨j2, hj2, h⟩ := h
  refine gX7_7 (pc := 1) C hK hP hk1 hj2 dX7_minutes_1 ?_
  refine lv_bipush (v := 7) (pc := 4) hx hb dX7_minutes_4 (by decide) ?_
  obtain ⟨hk3, h⟩ := h
  obtain ⟨hi4, h⟩ := h
  refine m_iald (pc := 6) C hK hP hk3 hi4 dX7_minutes_6 ?_
  refine lv_topi (fun v5 ev5 => ?_)
  replace h := h v5 ev5
  refine lv_istore_n (lv' := [(2, .int v5), (0, .ref (b + i)), (1, .int p1)]) (pc := 7) hx hb dX7_minutes_7 rfl hl (by decide) rfl (fun ls hl => ?_)
  refine lv_iconst (v := 0) (pc := 8) hx hb dX7_minutes_8 (by decide) ?_
  refine lv_istore_n (lv' := [(3, .int 0), (2, .int v5), (0, .ref (b + i)), (1, .int p1)]) (pc := 9) hx hb dX7_minutes_9 rfl hl (by decide) rfl (fun ls hl => ?_)
  obtain ⟨f, h⟩ := h
  exact L10 f _ _ _ _ _ _ _ _ h hP hS (lv_sub hl [2, 3, 1, 0] rfl)
/-! ForgeHeatsModel.pass (I)I -/
def wp_X7_pass (n : Nat) (M : Mem) (i : Nat) (p1 : Int32) (P : Int32 → Mem → Prop) : Prop := m_tp n i 7 ∧ (∀ M2 : Mem, M2 = uI M i 0 0 → (wp_X7_in n M2 p1 1 120 (fun z4 M3 => ((z4 = true → ∃ j5 : Nat, M3.2.1 i 1 = some j5 ∧ (m_tp n j5 8 ∧ (vp_in 4 (m_len j5) ∧ (((((M3.1 j5 (4 : Int32).toNatClampNeg) + p1) ≤ 9999 → wp_X7_saves n M3 i (fun M8 => wp_X7_minutes n M8 i p1 (fun r11 M10 => P r11 M10))) ∧ (¬ ((M3.1 j5 (4 : Int32).toNatClampNeg) + p1) ≤ 9999 → wp_X7_fails n M3 i 2 (fun r13 M12 => P r13 M12))))))) ∧ (z4 = false → wp_X7_fails n M3 i 1 (fun r15 M14 => P r15 M14))))))
abbrev rm_X7_pass : Room := { frames := 8, cells := 0, slots := 0, locals := 180 }
set_option maxHeartbeats 4000000 in
set_option maxRecDepth 100000 in
theorem c_X7_pass {l : Launch} {D : va_G} {cA : Nat → ClassId} {b n : Nat} {M : Mem} {i : Nat} {p1 : Int32} {P : Int32 → Mem → Prop} (h : wp_X7_pass n M i p1 P) : m_C l D cA b n n M yX7_pass cX7_pass 2 (some .int) rm_X7_pass 0 0 [.ref (b + i), .int p1] (rI P) := by
  refine m_enter (by decide) (Nat.le_of_ble_eq_true rfl) (fun p e s m below meth c C hr hlk hnm hK hP hS ls hl => ?_)
  have hx := C.1
  have hb := C.2.1
  have hl : lv_has ls 2 [(0, .ref (b + i)), (1, .int p1)] := hl
  unfold wp_X7_pass at h
  refine lv_aload_n (pc := 0) hx hb dX7_pass_0 rfl (lv_at hl 0 rfl) ?_
  refine lv_iconst (v := 0) (pc := 1) hx hb dX7_pass_1 (by decide) ?_
  obtain ⟨hk1, h⟩ := h
  refine pX7_25 (pc := 2) (v := 0) C hK hP hS hk1 dX7_pass_2 (fun M2 H locs eM2 hP hS => ?_)
  replace h := h M2 eM2
  refine lv_iload_n (pc := 5) hx hb dX7_pass_5 rfl (lv_at hl 1 rfl) ?_
  refine lv_iconst (v := 1) (pc := 6) hx hb dX7_pass_6 (by decide) ?_
  refine lv_bipush (v := 120) (pc := 7) hx hb dX7_pass_7 (by decide) ?_
  refine m_callSZ (pc := 9) (y := yX7_in) (As := [.int p1, .int 1, .int 120]) (rest := []) C hK hP hS hl.1 ⟨Nat.zero_le _, Nat.zero_le _⟩ (c_X7_in h) rfl rfl q_973 q_974 q_8 q_975 ⟨rfl, rfl⟩ yd_X7_in ⟨Nat.le_of_ble_eq_true rfl, Nat.le_of_ble_eq_true rfl⟩ (Nat.le_of_ble_eq_true rfl) dX7_pass_9 (fun z4 M3 H locs h hP hS => ?_)
  refine lv_if_ne (tgt := 21) (pc := 12) hx hb dX7_pass_12 (by decide) (fun c12 => ?_) (fun c12 => ?_)
  · replace h := h.1 (bZ1 c12)
    refine lv_aload_n (pc := 21) hx hb dX7_pass_21 rfl (lv_at hl 0 rfl) ?_
    obtain ⟨j5, hj5, h⟩ := h
    refine gX7_7 (pc := 22) C hK hP hk1 hj5 dX7_pass_22 ?_
    refine lv_iconst (v := 4) (pc := 25) hx hb dX7_pass_25 (by decide) ?_
    obtain ⟨hk6, h⟩ := h
    obtain ⟨hi7, h⟩ := h
    refine m_iald (pc := 26) C hK hP hk6 hi7 dX7_pass_26 ?_
    refine lv_iload_n (pc := 27) hx hb dX7_pass_27 rfl (lv_at hl 1 rfl) ?_
    refine lv_iadd (pc := 28) hx hb dX7_pass_28 ?_
    refine lv_sipush (v := 9999) (pc := 29) hx hb dX7_pass_29 (by decide) ?_
    refine lv_icmp_le (tgt := 41) (pc := 32) hx hb dX7_pass_32 (by decide) (fun c32 => ?_) (fun c32 => ?_)
    · replace h := h.1 c32
      refine lv_aload_n (pc := 41) hx hb dX7_pass_41 rfl (lv_at hl 0 rfl) ?_
      refine m_callVV (pc := 42) (y := yX7_saves) (κ := 7) (As := []) (rest := []) C hK hP hS hl.1 ⟨Nat.zero_le _, Nat.zero_le _⟩ (c_X7_saves h) rfl rfl hk1 (by decide) rfl q_984 q_986 q_s37 q_8 q_987 ⟨rfl, rfl⟩ yd_X7_saves ⟨Nat.le_of_ble_eq_true rfl, Nat.le_of_ble_eq_true rfl⟩ (Nat.le_of_ble_eq_true rfl) dX7_pass_42 (fun M8 H locs h hP hS => ?_)
      refine lv_aload_n (pc := 45) hx hb dX7_pass_45 rfl (lv_at hl 0 rfl) ?_
      refine lv_iload_n (pc := 46) hx hb dX7_pass_46 rfl (lv_at hl 1 rfl) ?_
      refine m_callVI (pc := 47) (y := yX7_minutes) (κ := 7) (As := [.int p1]) (rest := []) C hK hP hS hl.1 ⟨Nat.zero_le _, Nat.zero_le _⟩ (c_X7_minutes h) rfl rfl hk1 (by decide) rfl q_1082 q_1084 q_s52 q_8 q_1085 ⟨rfl, rfl⟩ yd_X7_minutes ⟨Nat.le_of_ble_eq_true rfl, Nat.le_of_ble_eq_true rfl⟩ (Nat.le_of_ble_eq_true rfl) dX7_pass_47 (fun r11 M10 H locs h hP hS => ?_)
      exact m_iret (v := r11) (pc := 50) C hr hlk hP hS dX7_pass_50 h
    · replace h := h.2 c32
      refine lv_aload_n (pc := 35) hx hb dX7_pass_35 rfl (lv_at hl 0 rfl) ?_
      refine lv_iconst (v := 2) (pc := 36) hx hb dX7_pass_36 (by decide) ?_
      refine m_callVI (pc := 37) (y := yX7_fails) (κ := 7) (As := [.int 2]) (rest := []) C hK hP hS hl.1 ⟨Nat.zero_le _, Nat.zero_le _⟩ (c_X7_fails h) rfl rfl hk1 (by decide) rfl q_976 q_978 q_s35 q_8 q_979 ⟨rfl, rfl⟩ yd_X7_fails ⟨Nat.le_of_ble_eq_true rfl, Nat.le_of_ble_eq_true rfl⟩ (Nat.le_of_ble_eq_true rfl) dX7_pass_37 (fun r13 M12 H locs h hP hS => ?_)
      exact m_iret (v := r13) (pc := 40) C hr hlk hP hS dX7_pass_40 h
  · replace h := h.2 (bZ0 c12)
    refine lv_aload_n (pc := 15) hx hb dX7_pass_15 rfl (lv_at hl 0 rfl) ?_
    refine lv_iconst (v := 1) (pc := 16) hx hb dX7_pass_16 (by decide) ?_
    refine m_callVI (pc := 17) (y := yX7_fails) (κ := 7) (As := [.int 1]) (rest := []) C hK hP hS hl.1 ⟨Nat.zero_le _, Nat.zero_le _⟩ (c_X7_fails h) rfl rfl hk1 (by decide) rfl q_976 q_978 q_s35 q_8 q_979 ⟨rfl, rfl⟩ yd_X7_fails ⟨Nat.le_of_ble_eq_true rfl, Nat.le_of_ble_eq_true rfl⟩ (Nat.le_of_ble_eq_true rfl) dX7_pass_17 (fun r15 M14 H locs h hP hS => ?_)
    exact m_iret (v := r15) (pc := 20) C hr hlk hP hS dX7_pass_20 h
/-! ForgeHeatsModel.passed (II)I -/
def wp_X7_passed (n : Nat) (M : Mem) (i : Nat) (p1 : Int32) (p2 : Int32) (P : Int32 → Mem → Prop) : Prop := m_tp n i 7 ∧ (wp_X7_putAside n M i (fun M1 => ∃ j4 : Nat, M1.2.1 i 1 = some j4 ∧ (m_tp n j4 8 ∧ (vp_in 8 (m_len j4) ∧ (∀ v7 : Int32, v7 = (M1.1 j4 (8 : Int32).toNatClampNeg) → (∃ j8 : Nat, M1.2.1 i 1 = some j8 ∧ (m_tp n j8 8 ∧ (vp_in 12 (m_len j8) ∧ (∀ v11 : Int32, v11 = (M1.1 j8 (12 : Int32).toNatClampNeg) → (∃ j12 : Nat, M1.2.1 i 1 = some j12 ∧ (m_tp n j12 8 ∧ (vp_in 9 (m_len j12) ∧ (∀ v15 : Int32, v15 = (M1.1 j12 (9 : Int32).toNatClampNeg) → (wp_X7_minutes n M1 i p1 (fun r17 M16 => ((¬ p2 = 0 → ((¬ p2 = 1 → ((¬ p2 = 2 → ((¬ p2 = 3 → ∃ j18 : Nat, M16.2.1 i 1 = some j18 ∧ (m_tp n j18 8 ∧ (vp_in 9 (m_len j18) ∧ (∀ v21 : Int32, v21 = ((M16.1 j18 (9 : Int32).toNatClampNeg) - v15) → (wp_X7_takeBack n M16 i (fun M22 => P v21 M22)))))) ∧ (p2 = 3 → ∃ j24 : Nat, M16.2.1 i 1 = some j24 ∧ (m_tp n j24 8 ∧ (vp_in 12 (m_len j24) ∧ (∀ v27 : Int32, v27 = ((M16.1 j24 (12 : Int32).toNatClampNeg) - v11) → (wp_X7_takeBack n M16 i (fun M28 => P v27 M28)))))))) ∧ (p2 = 2 → ∃ j30 : Nat, M16.2.1 i 1 = some j30 ∧ (m_tp n j30 8 ∧ (vp_in 5 (m_len j30) ∧ (∀ v33 : Int32, v33 = (M16.1 j30 (5 : Int32).toNatClampNeg) → (wp_X7_takeBack n M16 i (fun M34 => P v33 M34)))))))) ∧ (p2 = 1 → ∃ j36 : Nat, M16.2.1 i 1 = some j36 ∧ (m_tp n j36 8 ∧ (vp_in 8 (m_len j36) ∧ (∀ v39 : Int32, v39 = ((M16.1 j36 (8 : Int32).toNatClampNeg) - v7) → (wp_X7_takeBack n M16 i (fun M40 => P v39 M40)))))))) ∧ (p2 = 0 → wp_X7_takeBack n M16 i (fun M42 => P r17 M42))))))))))))))))))
abbrev rm_X7_passed : Room := { frames := 8, cells := 0, slots := 0, locals := 180 }
set_option maxHeartbeats 4000000 in
set_option maxRecDepth 100000 in
theorem c_X7_passed {l : Launch} {D : va_G} {cA : Nat → ClassId} {b n : Nat} {M : Mem} {i : Nat} {p1 : Int32} {p2 : Int32} {P : Int32 → Mem → Prop} (h : wp_X7_passed n M i p1 p2 P) : m_C l D cA b n n M yX7_passed cX7_passed 8 (some .int) rm_X7_passed 0 0 [.ref (b + i), .int p1, .int p2] (rI P) := by
  refine m_enter (by decide) (Nat.le_of_ble_eq_true rfl) (fun p e s m below meth c C hr hlk hnm hK hP hS ls hl => ?_)
  have hx := C.1
  have hb := C.2.1
  have hl : lv_has ls 8 [(0, .ref (b + i)), (1, .int p1), (2, .int p2)] := hl
  unfold wp_X7_passed at h
  refine lv_aload_n (pc := 0) hx hb dX7_passed_0 rfl (lv_at hl 0 rfl) ?_
  obtain ⟨hk2, h⟩ := h
  refine m_callVV (pc := 1) (y := yX7_putAside) (κ := 7) (As := []) (rest := []) C hK hP hS hl.1 ⟨Nat.zero_le _, Nat.zero_le _⟩ (c_X7_putAside h) rfl rfl hk2 (by decide) rfl q_1262 q_1264 q_s85 q_8 q_1265 ⟨rfl, rfl⟩ yd_X7_putAside ⟨Nat.le_of_ble_eq_true rfl, Nat.le_of_ble_eq_true rfl⟩ (Nat.le_of_ble_eq_true rfl) dX7_passed_1 (fun M1 H locs h hP hS => ?_)
  refine lv_aload_n (pc := 4) hx hb dX7_passed_4 rfl (lv_at hl 0 rfl) ?_
  obtain ⟨j4, hj4, h⟩ := h
  refine gX7_7 (pc := 5) C hK hP hk2 hj4 dX7_passed_5 ?_
  refine lv_bipush (v := 8) (pc := 8) hx hb dX7_passed_8 (by decide) ?_
  obtain ⟨hk5, h⟩ := h
  obtain ⟨hi6, h⟩ := h
  refine m_iald (pc := 10) C hK hP hk5 hi6 dX7_passed_10 ?_
  refine lv_topi (fun v7 ev7 => ?_)
  replace h := h v7 ev7
  refine lv_istore_n (lv' := [(3, .int v7), (0, .ref (b + i)), (1, .int p1), (2, .int p2)]) (pc := 11) hx hb dX7_passed_11 rfl hl (by decide) rfl (fun ls hl => ?_)
  refine lv_aload_n (pc := 12) hx hb dX7_passed_12 rfl (lv_at hl 1 rfl) ?_
  obtain ⟨j8, hj8, h⟩ := h
  refine gX7_7 (pc := 13) C hK hP hk2 hj8 dX7_passed_13 ?_
  refine lv_bipush (v := 12) (pc := 16) hx hb dX7_passed_16 (by decide) ?_
  obtain ⟨hk9, h⟩ := h
  obtain ⟨hi10, h⟩ := h
  refine m_iald (pc := 18) C hK hP hk9 hi10 dX7_passed_18 ?_
  refine lv_topi (fun v11 ev11 => ?_)
  replace h := h v11 ev11
  refine lv_istore (lv' := [(4, .int v11), (3, .int v7), (0, .ref (b + i)), (1, .int p1), (2, .int p2)]) (pc := 19) hx hb dX7_passed_19 hl (by decide) rfl (fun ls hl => ?_)
  refine lv_aload_n (pc := 21) hx hb dX7_passed_21 rfl (lv_at hl 2 rfl) ?_
  obtain ⟨j12, hj12, h⟩ := h
  refine gX7_7 (pc := 22) C hK hP hk2 hj12 dX7_passed_22 ?_
  refine lv_bipush (v := 9) (pc := 25) hx hb dX7_passed_25 (by decide) ?_
  obtain ⟨hk13, h⟩ := h
  obtain ⟨hi14, h⟩ := h
  refine m_iald (pc := 27) C hK hP hk13 hi14 dX7_passed_27 ?_
  refine lv_topi (fun v15 ev15 => ?_)
  replace h := h v15 ev15
  refine lv_istore (lv' := [(5, .int v15), (4, .int v11), (3, .int v7), (0, .ref (b + i)), (1, .int p1), (2, .int p2)]) (pc := 28) hx hb dX7_passed_28 hl (by decide) rfl (fun ls hl => ?_)
  refine lv_aload_n (pc := 30) hx hb dX7_passed_30 rfl (lv_at hl 3 rfl) ?_
  refine lv_iload_n (pc := 31) hx hb dX7_passed_31 rfl (lv_at hl 4 rfl) ?_
  refine m_callVI (pc := 32) (y := yX7_minutes) (κ := 7) (As := [.int p1]) (rest := []) C hK hP hS hl.1 ⟨Nat.zero_le _, Nat.zero_le _⟩ (c_X7_minutes h) rfl rfl hk2 (by decide) rfl q_1082 q_1084 q_s52 q_8 q_1085 ⟨rfl, rfl⟩ yd_X7_minutes ⟨Nat.le_of_ble_eq_true rfl, Nat.le_of_ble_eq_true rfl⟩ (Nat.le_of_ble_eq_true rfl) dX7_passed_32 (fun r17 M16 H locs h hP hS => ?_)
  refine lv_istore (lv' := [(6, .int r17), (5, .int v15), (4, .int v11), (3, .int v7), (0, .ref (b + i)), (1, .int p1), (2, .int p2)]) (pc := 35) hx hb dX7_passed_35 hl (by decide) rfl (fun ls hl => ?_)
  refine lv_iload_n (pc := 37) hx hb dX7_passed_37 rfl (lv_at hl 6 rfl) ?_
  refine lv_if_ne (tgt := 46) (pc := 38) hx hb dX7_passed_38 (by decide) (fun c38 => ?_) (fun c38 => ?_)
  · replace h := h.1 c38
    refine lv_iload_n (pc := 46) hx hb dX7_passed_46 rfl (lv_at hl 6 rfl) ?_
    refine lv_iconst (v := 1) (pc := 47) hx hb dX7_passed_47 (by decide) ?_
    refine lv_icmp_ne (tgt := 63) (pc := 48) hx hb dX7_passed_48 (by decide) (fun c48 => ?_) (fun c48 => ?_)
    · replace h := h.1 c48
      refine lv_iload_n (pc := 63) hx hb dX7_passed_63 rfl (lv_at hl 6 rfl) ?_
      refine lv_iconst (v := 2) (pc := 64) hx hb dX7_passed_64 (by decide) ?_
      refine lv_icmp_ne (tgt := 77) (pc := 65) hx hb dX7_passed_65 (by decide) (fun c65 => ?_) (fun c65 => ?_)
      · replace h := h.1 c65
        refine lv_iload_n (pc := 77) hx hb dX7_passed_77 rfl (lv_at hl 6 rfl) ?_
        refine lv_iconst (v := 3) (pc := 78) hx hb dX7_passed_78 (by decide) ?_
        refine lv_icmp_ne (tgt := 95) (pc := 79) hx hb dX7_passed_79 (by decide) (fun c79 => ?_) (fun c79 => ?_)
        · replace h := h.1 c79
          refine lv_aload_n (pc := 95) hx hb dX7_passed_95 rfl (lv_at hl 4 rfl) ?_
          obtain ⟨j18, hj18, h⟩ := h
          refine gX7_7 (pc := 96) C hK hP hk2 hj18 dX7_passed_96 ?_
          refine lv_bipush (v := 9) (pc := 99) hx hb dX7_passed_99 (by decide) ?_
          obtain ⟨hk19, h⟩ := h
          obtain ⟨hi20, h⟩ := h
          refine m_iald (pc := 101) C hK hP hk19 hi20 dX7_passed_101 ?_
          refine lv_iload (pc := 102) hx hb dX7_passed_102 (lv_at hl 1 rfl) ?_
          refine lv_isub (pc := 104) hx hb dX7_passed_104 ?_
          refine lv_topi (fun v21 ev21 => ?_)
          replace h := h v21 ev21
          refine lv_istore (lv' := [(7, .int v21), (6, .int r17), (5, .int v15), (4, .int v11), (3, .int v7), (0, .ref (b + i)), (1, .int p1), (2, .int p2)]) (pc := 105) hx hb dX7_passed_105 hl (by decide) rfl (fun ls hl => ?_)
          refine lv_aload_n (pc := 107) hx hb dX7_passed_107 rfl (lv_at hl 5 rfl) ?_
          refine m_callVV (pc := 108) (y := yX7_takeBack) (κ := 7) (As := []) (rest := []) C hK hP hS hl.1 ⟨Nat.zero_le _, Nat.zero_le _⟩ (c_X7_takeBack h) rfl rfl hk2 (by decide) rfl q_1266 q_1268 q_s86 q_8 q_1269 ⟨rfl, rfl⟩ yd_X7_takeBack ⟨Nat.le_of_ble_eq_true rfl, Nat.le_of_ble_eq_true rfl⟩ (Nat.le_of_ble_eq_true rfl) dX7_passed_108 (fun M22 H locs h hP hS => ?_)
          refine lv_iload (pc := 111) hx hb dX7_passed_111 (lv_at hl 0 rfl) ?_
          exact m_iret (v := v21) (pc := 113) C hr hlk hP hS dX7_passed_113 h
        · replace h := h.2 c79
          refine lv_aload_n (pc := 82) hx hb dX7_passed_82 rfl (lv_at hl 4 rfl) ?_
          obtain ⟨j24, hj24, h⟩ := h
          refine gX7_7 (pc := 83) C hK hP hk2 hj24 dX7_passed_83 ?_
          refine lv_bipush (v := 12) (pc := 86) hx hb dX7_passed_86 (by decide) ?_
          obtain ⟨hk25, h⟩ := h
          obtain ⟨hi26, h⟩ := h
          refine m_iald (pc := 88) C hK hP hk25 hi26 dX7_passed_88 ?_
          refine lv_iload (pc := 89) hx hb dX7_passed_89 (lv_at hl 2 rfl) ?_
          refine lv_isub (pc := 91) hx hb dX7_passed_91 ?_
          refine lv_goto (tgt := 105) (pc := 92) hx hb dX7_passed_92 (by decide) ?_
          refine lv_topi (fun v27 ev27 => ?_)
          replace h := h v27 ev27
          refine lv_istore (lv' := [(7, .int v27), (6, .int r17), (5, .int v15), (4, .int v11), (3, .int v7), (0, .ref (b + i)), (1, .int p1), (2, .int p2)]) (pc := 105) hx hb dX7_passed_105 hl (by decide) rfl (fun ls hl => ?_)
          refine lv_aload_n (pc := 107) hx hb dX7_passed_107 rfl (lv_at hl 5 rfl) ?_
          refine m_callVV (pc := 108) (y := yX7_takeBack) (κ := 7) (As := []) (rest := []) C hK hP hS hl.1 ⟨Nat.zero_le _, Nat.zero_le _⟩ (c_X7_takeBack h) rfl rfl hk2 (by decide) rfl q_1266 q_1268 q_s86 q_8 q_1269 ⟨rfl, rfl⟩ yd_X7_takeBack ⟨Nat.le_of_ble_eq_true rfl, Nat.le_of_ble_eq_true rfl⟩ (Nat.le_of_ble_eq_true rfl) dX7_passed_108 (fun M28 H locs h hP hS => ?_)
          refine lv_iload (pc := 111) hx hb dX7_passed_111 (lv_at hl 0 rfl) ?_
          exact m_iret (v := v27) (pc := 113) C hr hlk hP hS dX7_passed_113 h
      · replace h := h.2 c65
        refine lv_aload_n (pc := 68) hx hb dX7_passed_68 rfl (lv_at hl 4 rfl) ?_
        obtain ⟨j30, hj30, h⟩ := h
        refine gX7_7 (pc := 69) C hK hP hk2 hj30 dX7_passed_69 ?_
        refine lv_iconst (v := 5) (pc := 72) hx hb dX7_passed_72 (by decide) ?_
        obtain ⟨hk31, h⟩ := h
        obtain ⟨hi32, h⟩ := h
        refine m_iald (pc := 73) C hK hP hk31 hi32 dX7_passed_73 ?_
        refine lv_goto (tgt := 105) (pc := 74) hx hb dX7_passed_74 (by decide) ?_
        refine lv_topi (fun v33 ev33 => ?_)
        replace h := h v33 ev33
        refine lv_istore (lv' := [(7, .int v33), (6, .int r17), (5, .int v15), (4, .int v11), (3, .int v7), (0, .ref (b + i)), (1, .int p1), (2, .int p2)]) (pc := 105) hx hb dX7_passed_105 hl (by decide) rfl (fun ls hl => ?_)
        refine lv_aload_n (pc := 107) hx hb dX7_passed_107 rfl (lv_at hl 5 rfl) ?_
        refine m_callVV (pc := 108) (y := yX7_takeBack) (κ := 7) (As := []) (rest := []) C hK hP hS hl.1 ⟨Nat.zero_le _, Nat.zero_le _⟩ (c_X7_takeBack h) rfl rfl hk2 (by decide) rfl q_1266 q_1268 q_s86 q_8 q_1269 ⟨rfl, rfl⟩ yd_X7_takeBack ⟨Nat.le_of_ble_eq_true rfl, Nat.le_of_ble_eq_true rfl⟩ (Nat.le_of_ble_eq_true rfl) dX7_passed_108 (fun M34 H locs h hP hS => ?_)
        refine lv_iload (pc := 111) hx hb dX7_passed_111 (lv_at hl 0 rfl) ?_
        exact m_iret (v := v33) (pc := 113) C hr hlk hP hS dX7_passed_113 h
    · replace h := h.2 c48
      refine lv_aload_n (pc := 51) hx hb dX7_passed_51 rfl (lv_at hl 4 rfl) ?_
      obtain ⟨j36, hj36, h⟩ := h
      refine gX7_7 (pc := 52) C hK hP hk2 hj36 dX7_passed_52 ?_
      refine lv_bipush (v := 8) (pc := 55) hx hb dX7_passed_55 (by decide) ?_
      obtain ⟨hk37, h⟩ := h
      obtain ⟨hi38, h⟩ := h
      refine m_iald (pc := 57) C hK hP hk37 hi38 dX7_passed_57 ?_
      refine lv_iload_n (pc := 58) hx hb dX7_passed_58 rfl (lv_at hl 3 rfl) ?_
      refine lv_isub (pc := 59) hx hb dX7_passed_59 ?_
      refine lv_goto (tgt := 105) (pc := 60) hx hb dX7_passed_60 (by decide) ?_
      refine lv_topi (fun v39 ev39 => ?_)
      replace h := h v39 ev39
      refine lv_istore (lv' := [(7, .int v39), (6, .int r17), (5, .int v15), (4, .int v11), (3, .int v7), (0, .ref (b + i)), (1, .int p1), (2, .int p2)]) (pc := 105) hx hb dX7_passed_105 hl (by decide) rfl (fun ls hl => ?_)
      refine lv_aload_n (pc := 107) hx hb dX7_passed_107 rfl (lv_at hl 5 rfl) ?_
      refine m_callVV (pc := 108) (y := yX7_takeBack) (κ := 7) (As := []) (rest := []) C hK hP hS hl.1 ⟨Nat.zero_le _, Nat.zero_le _⟩ (c_X7_takeBack h) rfl rfl hk2 (by decide) rfl q_1266 q_1268 q_s86 q_8 q_1269 ⟨rfl, rfl⟩ yd_X7_takeBack ⟨Nat.le_of_ble_eq_true rfl, Nat.le_of_ble_eq_true rfl⟩ (Nat.le_of_ble_eq_true rfl) dX7_passed_108 (fun M40 H locs h hP hS => ?_)
      refine lv_iload (pc := 111) hx hb dX7_passed_111 (lv_at hl 0 rfl) ?_
      exact m_iret (v := v39) (pc := 113) C hr hlk hP hS dX7_passed_113 h
  · replace h := h.2 c38
    refine lv_iload (pc := 41) hx hb dX7_passed_41 (lv_at hl 0 rfl) ?_
    refine lv_goto (tgt := 105) (pc := 43) hx hb dX7_passed_43 (by decide) ?_
    refine lv_istore (lv' := [(7, .int r17), (6, .int r17), (5, .int v15), (4, .int v11), (3, .int v7), (0, .ref (b + i)), (1, .int p1), (2, .int p2)]) (pc := 105) hx hb dX7_passed_105 hl (by decide) rfl (fun ls hl => ?_)
    refine lv_aload_n (pc := 107) hx hb dX7_passed_107 rfl (lv_at hl 5 rfl) ?_
    refine m_callVV (pc := 108) (y := yX7_takeBack) (κ := 7) (As := []) (rest := []) C hK hP hS hl.1 ⟨Nat.zero_le _, Nat.zero_le _⟩ (c_X7_takeBack h) rfl rfl hk2 (by decide) rfl q_1266 q_1268 q_s86 q_8 q_1269 ⟨rfl, rfl⟩ yd_X7_takeBack ⟨Nat.le_of_ble_eq_true rfl, Nat.le_of_ble_eq_true rfl⟩ (Nat.le_of_ble_eq_true rfl) dX7_passed_108 (fun M42 H locs h hP hS => ?_)
    refine lv_iload (pc := 111) hx hb dX7_passed_111 (lv_at hl 0 rfl) ?_
    exact m_iret (v := r17) (pc := 113) C hr hlk hP hS dX7_passed_113 h
/-! ForgeHeatsModel.ifPassed (II)I -/
def wp_X7_ifPassed (n : Nat) (M : Mem) (i : Nat) (p1 : Int32) (p2 : Int32) (P : Int32 → Mem → Prop) : Prop := m_tp n i 7 ∧ (∀ M2 : Mem, M2 = uI M i 0 0 → (wp_X7_in n M2 p1 1 240 (fun z4 M3 => ((z4 = false → wp_X7_fails n M3 i 1 (fun r6 M5 => P r6 M5)) ∧ (z4 = true → wp_X7_in n M3 p2 0 4 (fun z8 M7 => ((z8 = false → wp_X7_fails n M7 i 1 (fun r10 M9 => P r10 M9)) ∧ (z8 = true → wp_X7_passed n M7 i p1 p2 (fun r12 M11 => P r12 M11)))))))))
abbrev rm_X7_ifPassed : Room := { frames := 9, cells := 0, slots := 0, locals := 207 }
set_option maxHeartbeats 4000000 in
set_option maxRecDepth 100000 in
theorem c_X7_ifPassed {l : Launch} {D : va_G} {cA : Nat → ClassId} {b n : Nat} {M : Mem} {i : Nat} {p1 : Int32} {p2 : Int32} {P : Int32 → Mem → Prop} (h : wp_X7_ifPassed n M i p1 p2 P) : m_C l D cA b n n M yX7_ifPassed cX7_ifPassed 3 (some .int) rm_X7_ifPassed 0 0 [.ref (b + i), .int p1, .int p2] (rI P) := by
  refine m_enter (by decide) (Nat.le_of_ble_eq_true rfl) (fun p e s m below meth c C hr hlk hnm hK hP hS ls hl => ?_)
  have hx := C.1
  have hb := C.2.1
  have hl : lv_has ls 3 [(0, .ref (b + i)), (1, .int p1), (2, .int p2)] := hl
  unfold wp_X7_ifPassed at h
  refine lv_aload_n (pc := 0) hx hb dX7_ifPassed_0 rfl (lv_at hl 0 rfl) ?_
  refine lv_iconst (v := 0) (pc := 1) hx hb dX7_ifPassed_1 (by decide) ?_
  obtain ⟨hk1, h⟩ := h
  refine pX7_25 (pc := 2) (v := 0) C hK hP hS hk1 dX7_ifPassed_2 (fun M2 H locs eM2 hP hS => ?_)
  replace h := h M2 eM2
  refine lv_iload_n (pc := 5) hx hb dX7_ifPassed_5 rfl (lv_at hl 1 rfl) ?_
  refine lv_iconst (v := 1) (pc := 6) hx hb dX7_ifPassed_6 (by decide) ?_
  refine lv_sipush (v := 240) (pc := 7) hx hb dX7_ifPassed_7 (by decide) ?_
  refine m_callSZ (pc := 10) (y := yX7_in) (As := [.int p1, .int 1, .int 240]) (rest := []) C hK hP hS hl.1 ⟨Nat.zero_le _, Nat.zero_le _⟩ (c_X7_in h) rfl rfl q_973 q_974 q_8 q_975 ⟨rfl, rfl⟩ yd_X7_in ⟨Nat.le_of_ble_eq_true rfl, Nat.le_of_ble_eq_true rfl⟩ (Nat.le_of_ble_eq_true rfl) dX7_ifPassed_10 (fun z4 M3 H locs h hP hS => ?_)
  refine lv_if_eq (tgt := 34) (pc := 13) hx hb dX7_ifPassed_13 (by decide) (fun c13 => ?_) (fun c13 => ?_)
  · replace h := h.1 (bZ0 c13)
    refine lv_aload_n (pc := 34) hx hb dX7_ifPassed_34 rfl (lv_at hl 0 rfl) ?_
    refine lv_iconst (v := 1) (pc := 35) hx hb dX7_ifPassed_35 (by decide) ?_
    refine m_callVI (pc := 36) (y := yX7_fails) (κ := 7) (As := [.int 1]) (rest := []) C hK hP hS hl.1 ⟨Nat.zero_le _, Nat.zero_le _⟩ (c_X7_fails h) rfl rfl hk1 (by decide) rfl q_976 q_978 q_s35 q_8 q_979 ⟨rfl, rfl⟩ yd_X7_fails ⟨Nat.le_of_ble_eq_true rfl, Nat.le_of_ble_eq_true rfl⟩ (Nat.le_of_ble_eq_true rfl) dX7_ifPassed_36 (fun r6 M5 H locs h hP hS => ?_)
    exact m_iret (v := r6) (pc := 39) C hr hlk hP hS dX7_ifPassed_39 h
  · replace h := h.2 (bZ1 c13)
    refine lv_iload_n (pc := 16) hx hb dX7_ifPassed_16 rfl (lv_at hl 2 rfl) ?_
    refine lv_iconst (v := 0) (pc := 17) hx hb dX7_ifPassed_17 (by decide) ?_
    refine lv_iconst (v := 4) (pc := 18) hx hb dX7_ifPassed_18 (by decide) ?_
    refine m_callSZ (pc := 19) (y := yX7_in) (As := [.int p2, .int 0, .int 4]) (rest := []) C hK hP hS hl.1 ⟨Nat.zero_le _, Nat.zero_le _⟩ (c_X7_in h) rfl rfl q_973 q_974 q_8 q_975 ⟨rfl, rfl⟩ yd_X7_in ⟨Nat.le_of_ble_eq_true rfl, Nat.le_of_ble_eq_true rfl⟩ (Nat.le_of_ble_eq_true rfl) dX7_ifPassed_19 (fun z8 M7 H locs h hP hS => ?_)
    refine lv_if_eq (tgt := 34) (pc := 22) hx hb dX7_ifPassed_22 (by decide) (fun c22 => ?_) (fun c22 => ?_)
    · replace h := h.1 (bZ0 c22)
      refine lv_aload_n (pc := 34) hx hb dX7_ifPassed_34 rfl (lv_at hl 0 rfl) ?_
      refine lv_iconst (v := 1) (pc := 35) hx hb dX7_ifPassed_35 (by decide) ?_
      refine m_callVI (pc := 36) (y := yX7_fails) (κ := 7) (As := [.int 1]) (rest := []) C hK hP hS hl.1 ⟨Nat.zero_le _, Nat.zero_le _⟩ (c_X7_fails h) rfl rfl hk1 (by decide) rfl q_976 q_978 q_s35 q_8 q_979 ⟨rfl, rfl⟩ yd_X7_fails ⟨Nat.le_of_ble_eq_true rfl, Nat.le_of_ble_eq_true rfl⟩ (Nat.le_of_ble_eq_true rfl) dX7_ifPassed_36 (fun r10 M9 H locs h hP hS => ?_)
      exact m_iret (v := r10) (pc := 39) C hr hlk hP hS dX7_ifPassed_39 h
    · replace h := h.2 (bZ1 c22)
      refine lv_aload_n (pc := 25) hx hb dX7_ifPassed_25 rfl (lv_at hl 0 rfl) ?_
      refine lv_iload_n (pc := 26) hx hb dX7_ifPassed_26 rfl (lv_at hl 1 rfl) ?_
      refine lv_iload_n (pc := 27) hx hb dX7_ifPassed_27 rfl (lv_at hl 2 rfl) ?_
      refine m_callVI (pc := 28) (y := yX7_passed) (κ := 7) (As := [.int p1, .int p2]) (rest := []) C hK hP hS hl.1 ⟨Nat.zero_le _, Nat.zero_le _⟩ (c_X7_passed h) rfl rfl hk1 (by decide) rfl q_1258 q_1260 q_s84 q_8 q_1261 ⟨rfl, rfl⟩ yd_X7_passed ⟨Nat.le_of_ble_eq_true rfl, Nat.le_of_ble_eq_true rfl⟩ (Nat.le_of_ble_eq_true rfl) dX7_ifPassed_28 (fun r12 M11 H locs h hP hS => ?_)
      refine lv_goto (tgt := 39) (pc := 31) hx hb dX7_ifPassed_31 (by decide) ?_
      exact m_iret (v := r12) (pc := 39) C hr hlk hP hS dX7_ifPassed_39 h
/-! ForgeHeatsModel.untilGone (IZ)I -/
def wpB_X7_untilGone_51 (n : Nat) (P : Int32 → Mem → Prop) (R_ : Mem → Nat → Int32 → Int32 → Prop) (M : Mem) (x0 : Nat) (x1 : Int32) (x4 : Int32) : Prop := ((240 ≤ x4 → m_tp n x0 7 ∧ (wp_X7_jobWith n M x0 x1 (fun r15 M13 => wp_X7_takeBack n M13 x0 (fun M16 => P (if (if ¬ r15 = (-1) then false else true) = false then (-1) else x4) M16)))) ∧ (¬ 240 ≤ x4 → m_tp n x0 7 ∧ (wp_X7_jobWith n M x0 x1 (fun r20 M18 => ((r20 = (-1) → wp_X7_jobWith n M18 x0 x1 (fun r22 M21 => wp_X7_takeBack n M21 x0 (fun M23 => P (if (if ¬ r22 = (-1) then false else true) = false then (-1) else x4) M23))) ∧ (¬ r20 = (-1) → wp_X7_minute n M18 x0 (fun M25 => ∀ v27 : Int32, v27 = x4 + 1 → (R_ M25 x0 x1 v27))))))))
def wpL_X7_untilGone_51 (n : Nat) (P : Int32 → Mem → Prop) : Nat → Mem → Nat → Int32 → Int32 → Prop
  | 0 => fun _ _ _ _ => False
  | f + 1 => fun M x0 x1 x4 => wpB_X7_untilGone_51 n P (wpL_X7_untilGone_51 n P f) M x0 x1 x4
def wp_X7_untilGone (n : Nat) (M : Mem) (i : Nat) (p1 : Int32) (p2 : Bool) (P : Int32 → Mem → Prop) : Prop := m_tp n i 7 ∧ (wp_X7_putAside n M i (fun M1 => wp_X7_jobWith n M1 i p1 (fun r5 M4 => ∃ j6 : Nat, M4.2.1 i 1 = some j6 ∧ (((p2 = false → ∃ j7 : Nat, M4.2.1 i 1 = some j7 ∧ (m_tp n j7 8 ∧ (vp_in ((60 + (7 * r5)) + 6) (m_len j7) ∧ (m_tp n j6 8 ∧ (vp_in ((60 + (7 * r5)) + 6) (m_len j6) ∧ (∀ M12 : Mem, M12 = uI M4 j6 ((60 + (7 * r5)) + 6).toNatClampNeg (M4.1 j7 ((60 + (7 * r5)) + 6).toNatClampNeg) → (∃ f : Nat, wpL_X7_untilGone_51 n P f M12 i p1 0))))))) ∧ (p2 = true → m_tp n j6 8 ∧ (vp_in ((60 + (7 * r5)) + 6) (m_len j6) ∧ (∀ M30 : Mem, M30 = uI M4 j6 ((60 + (7 * r5)) + 6).toNatClampNeg 1 → (∃ f : Nat, wpL_X7_untilGone_51 n P f M30 i p1 0)))))))))
abbrev rm_X7_untilGone : Room := { frames := 7, cells := 0, slots := 0, locals := 157 }
set_option maxHeartbeats 4000000 in
set_option maxRecDepth 100000 in
theorem c_X7_untilGone {l : Launch} {D : va_G} {cA : Nat → ClassId} {b n : Nat} {M : Mem} {i : Nat} {p1 : Int32} {p2 : Bool} {P : Int32 → Mem → Prop} (h : wp_X7_untilGone n M i p1 p2 P) : m_C l D cA b n n M yX7_untilGone cX7_untilGone 6 (some .int) rm_X7_untilGone 0 0 [.ref (b + i), .int p1, .int (bI p2)] (rI P) := by
  refine m_enter (by decide) (Nat.le_of_ble_eq_true rfl) (fun p e s m below meth c C hr hlk hnm hK hP hS ls hl => ?_)
  have hx := C.1
  have hb := C.2.1
  have hl : lv_has ls 6 [(0, .ref (b + i)), (1, .int p1), (2, .int (bI p2))] := hl
  have L51 : ∀ f : Nat, ∀ (M : Mem) (H : Heap) (locs : List Loc) (ls : Array Slot) (x0 : Nat) (x1 : Int32) (x4 : Int32), wpL_X7_untilGone_51 n P f M x0 x1 x4 → m_H D cA b n M H → va_S (m_A b) s.heap H locs → lv_has ls 6 [(0, .ref (b + x0)), (1, .int x1), (4, .int x4)] → W p l e rm_X7_untilGone s m ([.ref (b + i), .int p1, .int (bI p2)] : List Value).toArray below meth c H locs 0 0 (MQ below (m_Q D cA b n (rI P)) ([.ref (b + i), .int p1, .int (bI p2)] : List Value).toArray s 0 0 (m_A b)) (F0 m 51 ls []) := by
    clear h
    intro f
    induction f with
    | zero => intro M H locs ls x0 x1 x4 h; exact h.elim
    | succ f ih =>
      intro M H locs ls x0 x1 x4 h hP hS hl
      have h : wpB_X7_untilGone_51 n P (wpL_X7_untilGone_51 n P f) M x0 x1 x4 := h
      unfold wpB_X7_untilGone_51 at h
      refine lv_iload (pc := 51) hx hb dX7_untilGone_51 (lv_at hl 2 rfl) ?_
      refine lv_sipush (v := 240) (pc := 53) hx hb dX7_untilGone_53 (by decide) ?_
      refine lv_icmp_ge (tgt := 78) (pc := 56) hx hb dX7_untilGone_56 (by decide) (fun c56 => ?_) (fun c56 => ?_)
      · replace h := h.1 c56
        refine lv_aload_n (pc := 78) hx hb dX7_untilGone_78 rfl (lv_at hl 0 rfl) ?_
        refine lv_iload_n (pc := 79) hx hb dX7_untilGone_79 rfl (lv_at hl 1 rfl) ?_
        obtain ⟨hk14, h⟩ := h
        refine m_callVI (pc := 80) (y := yX7_jobWith) (κ := 7) (As := [.int x1]) (rest := []) C hK hP hS hl.1 ⟨Nat.zero_le _, Nat.zero_le _⟩ (c_X7_jobWith h) rfl rfl hk14 (by decide) rfl q_1027 q_1029 q_s42 q_8 q_1030 ⟨rfl, rfl⟩ yd_X7_jobWith ⟨Nat.le_of_ble_eq_true rfl, Nat.le_of_ble_eq_true rfl⟩ (Nat.le_of_ble_eq_true rfl) dX7_untilGone_80 (fun r15 M13 H locs h hP hS => ?_)
        refine lv_iconst (v := -1) (pc := 83) hx hb dX7_untilGone_83 (by decide) ?_
        refine m_joinZ (z := if ¬ r15 = (-1) then false else true) (jp := 92) (rest := []) ?_ (fun hJ => ?_)
        rotate_left
        · skip
          refine lv_icmp_ne (tgt := 91) (pc := 84) hx hb dX7_untilGone_84 (by decide) (fun c84 => ?_) (fun c84 => ?_)
          · skip
            refine lv_iconst (v := 0) (pc := 91) hx hb dX7_untilGone_91 (by decide) ?_
            exact hJ _ false rfl (by rw [if_pos c84])
          · skip
            refine lv_iconst (v := 1) (pc := 87) hx hb dX7_untilGone_87 (by decide) ?_
            refine lv_goto (tgt := 92) (pc := 88) hx hb dX7_untilGone_88 (by decide) ?_
            exact hJ _ true rfl (by rw [if_neg (fun hn => hn c84)])
        refine lv_istore (lv' := [(5, .int (bI (if ¬ r15 = (-1) then false else true))), (0, .ref (b + x0)), (1, .int x1), (4, .int x4)]) (pc := 92) hx hb dX7_untilGone_92 hl (by decide) rfl (fun ls hl => ?_)
        refine lv_aload_n (pc := 94) hx hb dX7_untilGone_94 rfl (lv_at hl 1 rfl) ?_
        refine m_callVV (pc := 95) (y := yX7_takeBack) (κ := 7) (As := []) (rest := []) C hK hP hS hl.1 ⟨Nat.zero_le _, Nat.zero_le _⟩ (c_X7_takeBack h) rfl rfl hk14 (by decide) rfl q_1266 q_1268 q_s86 q_8 q_1269 ⟨rfl, rfl⟩ yd_X7_takeBack ⟨Nat.le_of_ble_eq_true rfl, Nat.le_of_ble_eq_true rfl⟩ (Nat.le_of_ble_eq_true rfl) dX7_untilGone_95 (fun M16 H locs h hP hS => ?_)
        refine lv_iload (pc := 98) hx hb dX7_untilGone_98 (lv_at hl 0 rfl) ?_
        refine m_join (v := if (if ¬ r15 = (-1) then false else true) = false then (-1) else x4) (jp := 109) (rest := []) ?_ (fun hJ => ?_)
        rotate_left
        · skip
          refine lv_if_eq (tgt := 108) (pc := 100) hx hb dX7_untilGone_100 (by decide) (fun c100 => ?_) (fun c100 => ?_)
          · skip
            refine lv_iconst (v := -1) (pc := 108) hx hb dX7_untilGone_108 (by decide) ?_
            exact hJ _ (by rw [if_pos (bZ0 c100)])
          · skip
            refine lv_iload (pc := 103) hx hb dX7_untilGone_103 (lv_at hl 3 rfl) ?_
            refine lv_goto (tgt := 109) (pc := 105) hx hb dX7_untilGone_105 (by decide) ?_
            exact hJ _ (by rw [if_neg (by rw [(bZ1 c100)]; decide)])
        exact m_iret (v := if (if ¬ r15 = (-1) then false else true) = false then (-1) else x4) (pc := 109) C hr hlk hP hS dX7_untilGone_109 h
      · replace h := h.2 c56
        refine lv_aload_n (pc := 59) hx hb dX7_untilGone_59 rfl (lv_at hl 0 rfl) ?_
        refine lv_iload_n (pc := 60) hx hb dX7_untilGone_60 rfl (lv_at hl 1 rfl) ?_
        obtain ⟨hk19, h⟩ := h
        refine m_callVI (pc := 61) (y := yX7_jobWith) (κ := 7) (As := [.int x1]) (rest := []) C hK hP hS hl.1 ⟨Nat.zero_le _, Nat.zero_le _⟩ (c_X7_jobWith h) rfl rfl hk19 (by decide) rfl q_1027 q_1029 q_s42 q_8 q_1030 ⟨rfl, rfl⟩ yd_X7_jobWith ⟨Nat.le_of_ble_eq_true rfl, Nat.le_of_ble_eq_true rfl⟩ (Nat.le_of_ble_eq_true rfl) dX7_untilGone_61 (fun r20 M18 H locs h hP hS => ?_)
        refine lv_iconst (v := -1) (pc := 64) hx hb dX7_untilGone_64 (by decide) ?_
        refine lv_icmp_eq (tgt := 78) (pc := 65) hx hb dX7_untilGone_65 (by decide) (fun c65 => ?_) (fun c65 => ?_)
        · replace h := h.1 c65
          refine lv_aload_n (pc := 78) hx hb dX7_untilGone_78 rfl (lv_at hl 0 rfl) ?_
          refine lv_iload_n (pc := 79) hx hb dX7_untilGone_79 rfl (lv_at hl 1 rfl) ?_
          refine m_callVI (pc := 80) (y := yX7_jobWith) (κ := 7) (As := [.int x1]) (rest := []) C hK hP hS hl.1 ⟨Nat.zero_le _, Nat.zero_le _⟩ (c_X7_jobWith h) rfl rfl hk19 (by decide) rfl q_1027 q_1029 q_s42 q_8 q_1030 ⟨rfl, rfl⟩ yd_X7_jobWith ⟨Nat.le_of_ble_eq_true rfl, Nat.le_of_ble_eq_true rfl⟩ (Nat.le_of_ble_eq_true rfl) dX7_untilGone_80 (fun r22 M21 H locs h hP hS => ?_)
          refine lv_iconst (v := -1) (pc := 83) hx hb dX7_untilGone_83 (by decide) ?_
          refine m_joinZ (z := if ¬ r22 = (-1) then false else true) (jp := 92) (rest := []) ?_ (fun hJ => ?_)
          rotate_left
          · skip
            refine lv_icmp_ne (tgt := 91) (pc := 84) hx hb dX7_untilGone_84 (by decide) (fun c84 => ?_) (fun c84 => ?_)
            · skip
              refine lv_iconst (v := 0) (pc := 91) hx hb dX7_untilGone_91 (by decide) ?_
              exact hJ _ false rfl (by rw [if_pos c84])
            · skip
              refine lv_iconst (v := 1) (pc := 87) hx hb dX7_untilGone_87 (by decide) ?_
              refine lv_goto (tgt := 92) (pc := 88) hx hb dX7_untilGone_88 (by decide) ?_
              exact hJ _ true rfl (by rw [if_neg (fun hn => hn c84)])
          refine lv_istore (lv' := [(5, .int (bI (if ¬ r22 = (-1) then false else true))), (0, .ref (b + x0)), (1, .int x1), (4, .int x4)]) (pc := 92) hx hb dX7_untilGone_92 hl (by decide) rfl (fun ls hl => ?_)
          refine lv_aload_n (pc := 94) hx hb dX7_untilGone_94 rfl (lv_at hl 1 rfl) ?_
          refine m_callVV (pc := 95) (y := yX7_takeBack) (κ := 7) (As := []) (rest := []) C hK hP hS hl.1 ⟨Nat.zero_le _, Nat.zero_le _⟩ (c_X7_takeBack h) rfl rfl hk19 (by decide) rfl q_1266 q_1268 q_s86 q_8 q_1269 ⟨rfl, rfl⟩ yd_X7_takeBack ⟨Nat.le_of_ble_eq_true rfl, Nat.le_of_ble_eq_true rfl⟩ (Nat.le_of_ble_eq_true rfl) dX7_untilGone_95 (fun M23 H locs h hP hS => ?_)
          refine lv_iload (pc := 98) hx hb dX7_untilGone_98 (lv_at hl 0 rfl) ?_
          refine m_join (v := if (if ¬ r22 = (-1) then false else true) = false then (-1) else x4) (jp := 109) (rest := []) ?_ (fun hJ => ?_)
          rotate_left
          · skip
            refine lv_if_eq (tgt := 108) (pc := 100) hx hb dX7_untilGone_100 (by decide) (fun c100 => ?_) (fun c100 => ?_)
            · skip
              refine lv_iconst (v := -1) (pc := 108) hx hb dX7_untilGone_108 (by decide) ?_
              exact hJ _ (by rw [if_pos (bZ0 c100)])
            · skip
              refine lv_iload (pc := 103) hx hb dX7_untilGone_103 (lv_at hl 3 rfl) ?_
              refine lv_goto (tgt := 109) (pc := 105) hx hb dX7_untilGone_105 (by decide) ?_
              exact hJ _ (by rw [if_neg (by rw [(bZ1 c100)]; decide)])
          exact m_iret (v := if (if ¬ r22 = (-1) then false else true) = false then (-1) else x4) (pc := 109) C hr hlk hP hS dX7_untilGone_109 h
        · replace h := h.2 c65
          refine lv_aload_n (pc := 68) hx hb dX7_untilGone_68 rfl (lv_at hl 0 rfl) ?_
          refine m_callVV (pc := 69) (y := yX7_minute) (κ := 7) (As := []) (rest := []) C hK hP hS hl.1 ⟨Nat.zero_le _, Nat.zero_le _⟩ (c_X7_minute h) rfl rfl hk19 (by decide) rfl q_1086 q_1088 q_s53 q_8 q_1089 ⟨rfl, rfl⟩ yd_X7_minute ⟨Nat.le_of_ble_eq_true rfl, Nat.le_of_ble_eq_true rfl⟩ (Nat.le_of_ble_eq_true rfl) dX7_untilGone_69 (fun M25 H locs h hP hS => ?_)
          obtain ⟨v27, ev27⟩ : ∃ y : Int32, y = x4 + 1 := ⟨_, rfl⟩
          replace h := h v27 ev27
          refine lv_iinc (v := v27) (lv' := [(4, .int v27), (0, .ref (b + x0)), (1, .int x1)]) (pc := 72) hx hb dX7_untilGone_72 hl (k := 2) rfl (by rw [ev27]; rfl) (by decide) rfl (fun ls hl => ?_)
          refine lv_goto (tgt := 51) (pc := 75) hx hb dX7_untilGone_75 (by decide) ?_
          exact ih _ _ _ _ _ _ _ h hP hS (lv_sub hl [1, 2, 0] rfl)
  unfold wp_X7_untilGone at h
  refine lv_aload_n (pc := 0) hx hb dX7_untilGone_0 rfl (lv_at hl 0 rfl) ?_
  obtain ⟨hk2, h⟩ := h
  refine m_callVV (pc := 1) (y := yX7_putAside) (κ := 7) (As := []) (rest := []) C hK hP hS hl.1 ⟨Nat.zero_le _, Nat.zero_le _⟩ (c_X7_putAside h) rfl rfl hk2 (by decide) rfl q_1262 q_1264 q_s85 q_8 q_1265 ⟨rfl, rfl⟩ yd_X7_putAside ⟨Nat.le_of_ble_eq_true rfl, Nat.le_of_ble_eq_true rfl⟩ (Nat.le_of_ble_eq_true rfl) dX7_untilGone_1 (fun M1 H locs h hP hS => ?_)
  refine lv_aload_n (pc := 4) hx hb dX7_untilGone_4 rfl (lv_at hl 0 rfl) ?_
  refine lv_iload_n (pc := 5) hx hb dX7_untilGone_5 rfl (lv_at hl 1 rfl) ?_
  refine m_callVI (pc := 6) (y := yX7_jobWith) (κ := 7) (As := [.int p1]) (rest := []) C hK hP hS hl.1 ⟨Nat.zero_le _, Nat.zero_le _⟩ (c_X7_jobWith h) rfl rfl hk2 (by decide) rfl q_1027 q_1029 q_s42 q_8 q_1030 ⟨rfl, rfl⟩ yd_X7_jobWith ⟨Nat.le_of_ble_eq_true rfl, Nat.le_of_ble_eq_true rfl⟩ (Nat.le_of_ble_eq_true rfl) dX7_untilGone_6 (fun r5 M4 H locs h hP hS => ?_)
  refine lv_istore_n (lv' := [(3, .int r5), (0, .ref (b + i)), (1, .int p1), (2, .int (bI p2))]) (pc := 9) hx hb dX7_untilGone_9 rfl hl (by decide) rfl (fun ls hl => ?_)
  refine lv_aload_n (pc := 10) hx hb dX7_untilGone_10 rfl (lv_at hl 1 rfl) ?_
  obtain ⟨j6, hj6, h⟩ := h
  refine gX7_7 (pc := 11) C hK hP hk2 hj6 dX7_untilGone_11 ?_
  refine lv_bipush (v := 60) (pc := 14) hx hb dX7_untilGone_14 (by decide) ?_
  refine lv_bipush (v := 7) (pc := 16) hx hb dX7_untilGone_16 (by decide) ?_
  refine lv_iload_n (pc := 18) hx hb dX7_untilGone_18 rfl (lv_at hl 0 rfl) ?_
  refine lv_imul (pc := 19) hx hb dX7_untilGone_19 ?_
  refine lv_iadd (pc := 20) hx hb dX7_untilGone_20 ?_
  refine lv_bipush (v := 6) (pc := 21) hx hb dX7_untilGone_21 (by decide) ?_
  refine lv_iadd (pc := 23) hx hb dX7_untilGone_23 ?_
  refine lv_iload_n (pc := 24) hx hb dX7_untilGone_24 rfl (lv_at hl 3 rfl) ?_
  refine lv_if_eq (tgt := 32) (pc := 25) hx hb dX7_untilGone_25 (by decide) (fun c25 => ?_) (fun c25 => ?_)
  · replace h := h.1 (bZ0 c25)
    refine lv_aload_n (pc := 32) hx hb dX7_untilGone_32 rfl (lv_at hl 1 rfl) ?_
    obtain ⟨j7, hj7, h⟩ := h
    refine gX7_7 (pc := 33) C hK hP hk2 hj7 dX7_untilGone_33 ?_
    refine lv_bipush (v := 60) (pc := 36) hx hb dX7_untilGone_36 (by decide) ?_
    refine lv_bipush (v := 7) (pc := 38) hx hb dX7_untilGone_38 (by decide) ?_
    refine lv_iload_n (pc := 40) hx hb dX7_untilGone_40 rfl (lv_at hl 0 rfl) ?_
    refine lv_imul (pc := 41) hx hb dX7_untilGone_41 ?_
    refine lv_iadd (pc := 42) hx hb dX7_untilGone_42 ?_
    refine lv_bipush (v := 6) (pc := 43) hx hb dX7_untilGone_43 (by decide) ?_
    refine lv_iadd (pc := 45) hx hb dX7_untilGone_45 ?_
    obtain ⟨hk8, h⟩ := h
    obtain ⟨hi9, h⟩ := h
    refine m_iald (pc := 46) C hK hP hk8 hi9 dX7_untilGone_46 ?_
    obtain ⟨hk10, h⟩ := h
    obtain ⟨hi11, h⟩ := h
    refine m_iast (pc := 47) C hK hP hS hk10 hi11 dX7_untilGone_47 (fun M12 H locs eM12 hP hS => ?_)
    replace h := h M12 eM12
    refine lv_iconst (v := 0) (pc := 48) hx hb dX7_untilGone_48 (by decide) ?_
    refine lv_istore (lv' := [(4, .int 0), (3, .int r5), (0, .ref (b + i)), (1, .int p1), (2, .int (bI p2))]) (pc := 49) hx hb dX7_untilGone_49 hl (by decide) rfl (fun ls hl => ?_)
    obtain ⟨f, h⟩ := h
    exact L51 f _ _ _ _ _ _ _ h hP hS (lv_sub hl [2, 3, 0] rfl)
  · replace h := h.2 (bZ1 c25)
    refine lv_iconst (v := 1) (pc := 28) hx hb dX7_untilGone_28 (by decide) ?_
    refine lv_goto (tgt := 47) (pc := 29) hx hb dX7_untilGone_29 (by decide) ?_
    obtain ⟨hk28, h⟩ := h
    obtain ⟨hi29, h⟩ := h
    refine m_iast (pc := 47) C hK hP hS hk28 hi29 dX7_untilGone_47 (fun M30 H locs eM30 hP hS => ?_)
    replace h := h M30 eM30
    refine lv_iconst (v := 0) (pc := 48) hx hb dX7_untilGone_48 (by decide) ?_
    refine lv_istore (lv' := [(4, .int 0), (3, .int r5), (0, .ref (b + i)), (1, .int p1), (2, .int (bI p2))]) (pc := 49) hx hb dX7_untilGone_49 hl (by decide) rfl (fun ls hl => ?_)
    obtain ⟨f, h⟩ := h
    exact L51 f _ _ _ _ _ _ _ h hP hS (lv_sub hl [2, 3, 0] rfl)
/-! ForgeHeatsModel.doneIn (I)I -/
def wp_X7_doneIn (n : Nat) (M : Mem) (i : Nat) (p1 : Int32) (P : Int32 → Mem → Prop) : Prop := m_tp n i 7 ∧ (∀ M2 : Mem, M2 = uI M i 0 0 → (wp_X7_jobWith n M2 i p1 (fun r4 M3 => ((r4 = (-1) → wp_X7_fails n M3 i 1 (fun r6 M5 => P r6 M5)) ∧ (¬ r4 = (-1) → wp_X7_untilGone n M3 i p1 false (fun r8 M7 => P r8 M7))))))
abbrev rm_X7_doneIn : Room := { frames := 8, cells := 0, slots := 0, locals := 182 }
set_option maxHeartbeats 4000000 in
set_option maxRecDepth 100000 in
theorem c_X7_doneIn {l : Launch} {D : va_G} {cA : Nat → ClassId} {b n : Nat} {M : Mem} {i : Nat} {p1 : Int32} {P : Int32 → Mem → Prop} (h : wp_X7_doneIn n M i p1 P) : m_C l D cA b n n M yX7_doneIn cX7_doneIn 2 (some .int) rm_X7_doneIn 0 0 [.ref (b + i), .int p1] (rI P) := by
  refine m_enter (by decide) (Nat.le_of_ble_eq_true rfl) (fun p e s m below meth c C hr hlk hnm hK hP hS ls hl => ?_)
  have hx := C.1
  have hb := C.2.1
  have hl : lv_has ls 2 [(0, .ref (b + i)), (1, .int p1)] := hl
  unfold wp_X7_doneIn at h
  refine lv_aload_n (pc := 0) hx hb dX7_doneIn_0 rfl (lv_at hl 0 rfl) ?_
  refine lv_iconst (v := 0) (pc := 1) hx hb dX7_doneIn_1 (by decide) ?_
  obtain ⟨hk1, h⟩ := h
  refine pX7_25 (pc := 2) (v := 0) C hK hP hS hk1 dX7_doneIn_2 (fun M2 H locs eM2 hP hS => ?_)
  replace h := h M2 eM2
  refine lv_aload_n (pc := 5) hx hb dX7_doneIn_5 rfl (lv_at hl 0 rfl) ?_
  refine lv_iload_n (pc := 6) hx hb dX7_doneIn_6 rfl (lv_at hl 1 rfl) ?_
  refine m_callVI (pc := 7) (y := yX7_jobWith) (κ := 7) (As := [.int p1]) (rest := []) C hK hP hS hl.1 ⟨Nat.zero_le _, Nat.zero_le _⟩ (c_X7_jobWith h) rfl rfl hk1 (by decide) rfl q_1027 q_1029 q_s42 q_8 q_1030 ⟨rfl, rfl⟩ yd_X7_jobWith ⟨Nat.le_of_ble_eq_true rfl, Nat.le_of_ble_eq_true rfl⟩ (Nat.le_of_ble_eq_true rfl) dX7_doneIn_7 (fun r4 M3 H locs h hP hS => ?_)
  refine lv_iconst (v := -1) (pc := 10) hx hb dX7_doneIn_10 (by decide) ?_
  refine lv_icmp_eq (tgt := 23) (pc := 11) hx hb dX7_doneIn_11 (by decide) (fun c11 => ?_) (fun c11 => ?_)
  · replace h := h.1 c11
    refine lv_aload_n (pc := 23) hx hb dX7_doneIn_23 rfl (lv_at hl 0 rfl) ?_
    refine lv_iconst (v := 1) (pc := 24) hx hb dX7_doneIn_24 (by decide) ?_
    refine m_callVI (pc := 25) (y := yX7_fails) (κ := 7) (As := [.int 1]) (rest := []) C hK hP hS hl.1 ⟨Nat.zero_le _, Nat.zero_le _⟩ (c_X7_fails h) rfl rfl hk1 (by decide) rfl q_976 q_978 q_s35 q_8 q_979 ⟨rfl, rfl⟩ yd_X7_fails ⟨Nat.le_of_ble_eq_true rfl, Nat.le_of_ble_eq_true rfl⟩ (Nat.le_of_ble_eq_true rfl) dX7_doneIn_25 (fun r6 M5 H locs h hP hS => ?_)
    exact m_iret (v := r6) (pc := 28) C hr hlk hP hS dX7_doneIn_28 h
  · replace h := h.2 c11
    refine lv_aload_n (pc := 14) hx hb dX7_doneIn_14 rfl (lv_at hl 0 rfl) ?_
    refine lv_iload_n (pc := 15) hx hb dX7_doneIn_15 rfl (lv_at hl 1 rfl) ?_
    refine lv_iconst (v := 0) (pc := 16) hx hb dX7_doneIn_16 (by decide) ?_
    refine m_callVI (pc := 17) (y := yX7_untilGone) (κ := 7) (As := [.int p1, .int (bI false)]) (rest := []) C hK hP hS hl.1 ⟨Nat.zero_le _, Nat.zero_le _⟩ (c_X7_untilGone h) rfl rfl hk1 (by decide) rfl q_1274 q_1276 q_s87 q_8 q_1277 ⟨rfl, rfl⟩ yd_X7_untilGone ⟨Nat.le_of_ble_eq_true rfl, Nat.le_of_ble_eq_true rfl⟩ (Nat.le_of_ble_eq_true rfl) dX7_doneIn_17 (fun r8 M7 H locs h hP hS => ?_)
    refine lv_goto (tgt := 28) (pc := 20) hx hb dX7_doneIn_20 (by decide) ?_
    exact m_iret (v := r8) (pc := 28) C hr hlk hP hS dX7_doneIn_28 h
/-! ForgeHeatsModel.earlier (I)I -/
def wp_X7_earlier (n : Nat) (M : Mem) (i : Nat) (p1 : Int32) (P : Int32 → Mem → Prop) : Prop := m_tp n i 7 ∧ (wp_X7_untilGone n M i p1 false (fun r3 M1 => wp_X7_untilGone n M1 i p1 true (fun r5 M4 => ((r3 = (-1) → P (if ¬ r3 = r5 then (if ¬ r3 = (-1) then (-999) else 999) else 0) M4) ∧ (¬ r3 = (-1) → ((¬ r5 = (-1) → P (r3 - r5) M4) ∧ (r5 = (-1) → P (if ¬ r3 = r5 then (if ¬ r3 = (-1) then (-999) else 999) else 0) M4)))))))
abbrev rm_X7_earlier : Room := { frames := 8, cells := 0, slots := 0, locals := 182 }
set_option maxHeartbeats 4000000 in
set_option maxRecDepth 100000 in
theorem c_X7_earlier {l : Launch} {D : va_G} {cA : Nat → ClassId} {b n : Nat} {M : Mem} {i : Nat} {p1 : Int32} {P : Int32 → Mem → Prop} (h : wp_X7_earlier n M i p1 P) : m_C l D cA b n n M yX7_earlier cX7_earlier 4 (some .int) rm_X7_earlier 0 0 [.ref (b + i), .int p1] (rI P) := by
  refine m_enter (by decide) (Nat.le_of_ble_eq_true rfl) (fun p e s m below meth c C hr hlk hnm hK hP hS ls hl => ?_)
  have hx := C.1
  have hb := C.2.1
  have hl : lv_has ls 4 [(0, .ref (b + i)), (1, .int p1)] := hl
  unfold wp_X7_earlier at h
  refine lv_aload_n (pc := 0) hx hb dX7_earlier_0 rfl (lv_at hl 0 rfl) ?_
  refine lv_iload_n (pc := 1) hx hb dX7_earlier_1 rfl (lv_at hl 1 rfl) ?_
  refine lv_iconst (v := 0) (pc := 2) hx hb dX7_earlier_2 (by decide) ?_
  obtain ⟨hk2, h⟩ := h
  refine m_callVI (pc := 3) (y := yX7_untilGone) (κ := 7) (As := [.int p1, .int (bI false)]) (rest := []) C hK hP hS hl.1 ⟨Nat.zero_le _, Nat.zero_le _⟩ (c_X7_untilGone h) rfl rfl hk2 (by decide) rfl q_1274 q_1276 q_s87 q_8 q_1277 ⟨rfl, rfl⟩ yd_X7_untilGone ⟨Nat.le_of_ble_eq_true rfl, Nat.le_of_ble_eq_true rfl⟩ (Nat.le_of_ble_eq_true rfl) dX7_earlier_3 (fun r3 M1 H locs h hP hS => ?_)
  refine lv_istore_n (lv' := [(2, .int r3), (0, .ref (b + i)), (1, .int p1)]) (pc := 6) hx hb dX7_earlier_6 rfl hl (by decide) rfl (fun ls hl => ?_)
  refine lv_aload_n (pc := 7) hx hb dX7_earlier_7 rfl (lv_at hl 1 rfl) ?_
  refine lv_iload_n (pc := 8) hx hb dX7_earlier_8 rfl (lv_at hl 2 rfl) ?_
  refine lv_iconst (v := 1) (pc := 9) hx hb dX7_earlier_9 (by decide) ?_
  refine m_callVI (pc := 10) (y := yX7_untilGone) (κ := 7) (As := [.int p1, .int (bI true)]) (rest := []) C hK hP hS hl.1 ⟨Nat.zero_le _, Nat.zero_le _⟩ (c_X7_untilGone h) rfl rfl hk2 (by decide) rfl q_1274 q_1276 q_s87 q_8 q_1277 ⟨rfl, rfl⟩ yd_X7_untilGone ⟨Nat.le_of_ble_eq_true rfl, Nat.le_of_ble_eq_true rfl⟩ (Nat.le_of_ble_eq_true rfl) dX7_earlier_10 (fun r5 M4 H locs h hP hS => ?_)
  refine lv_istore_n (lv' := [(3, .int r5), (2, .int r3), (0, .ref (b + i)), (1, .int p1)]) (pc := 13) hx hb dX7_earlier_13 rfl hl (by decide) rfl (fun ls hl => ?_)
  refine lv_iload_n (pc := 14) hx hb dX7_earlier_14 rfl (lv_at hl 1 rfl) ?_
  refine lv_iconst (v := -1) (pc := 15) hx hb dX7_earlier_15 (by decide) ?_
  refine lv_icmp_eq (tgt := 24) (pc := 16) hx hb dX7_earlier_16 (by decide) (fun c16 => ?_) (fun c16 => ?_)
  · replace h := h.1 c16
    refine lv_iload_n (pc := 24) hx hb dX7_earlier_24 rfl (lv_at hl 1 rfl) ?_
    refine lv_iload_n (pc := 25) hx hb dX7_earlier_25 rfl (lv_at hl 0 rfl) ?_
    refine m_join (v := if ¬ r3 = r5 then (if ¬ r3 = (-1) then (-999) else 999) else 0) (jp := 47) (rest := []) ?_ (fun hJ => ?_)
    rotate_left
    · skip
      refine lv_icmp_ne (tgt := 33) (pc := 26) hx hb dX7_earlier_26 (by decide) (fun c26 => ?_) (fun c26 => ?_)
      · skip
        refine lv_iload_n (pc := 33) hx hb dX7_earlier_33 rfl (lv_at hl 1 rfl) ?_
        refine lv_iconst (v := -1) (pc := 34) hx hb dX7_earlier_34 (by decide) ?_
        refine lv_icmp_ne (tgt := 44) (pc := 35) hx hb dX7_earlier_35 (by decide) (fun c35 => ?_) (fun c35 => ?_)
        · skip
          refine lv_sipush (v := -999) (pc := 44) hx hb dX7_earlier_44 (by decide) ?_
          exact hJ _ (by rw [if_pos c26, if_pos c35])
        · skip
          refine lv_sipush (v := 999) (pc := 38) hx hb dX7_earlier_38 (by decide) ?_
          refine lv_goto (tgt := 47) (pc := 41) hx hb dX7_earlier_41 (by decide) ?_
          exact hJ _ (by rw [if_pos c26, if_neg (fun hn => hn c35)])
      · skip
        refine lv_iconst (v := 0) (pc := 29) hx hb dX7_earlier_29 (by decide) ?_
        refine lv_goto (tgt := 47) (pc := 30) hx hb dX7_earlier_30 (by decide) ?_
        exact hJ _ (by rw [if_neg (fun hn => hn c26)])
    exact m_iret (v := if ¬ r3 = r5 then (if ¬ r3 = (-1) then (-999) else 999) else 0) (pc := 47) C hr hlk hP hS dX7_earlier_47 h
  · replace h := h.2 c16
    refine lv_iload_n (pc := 19) hx hb dX7_earlier_19 rfl (lv_at hl 0 rfl) ?_
    refine lv_iconst (v := -1) (pc := 20) hx hb dX7_earlier_20 (by decide) ?_
    refine lv_icmp_ne (tgt := 48) (pc := 21) hx hb dX7_earlier_21 (by decide) (fun c21 => ?_) (fun c21 => ?_)
    · replace h := h.1 c21
      refine lv_iload_n (pc := 48) hx hb dX7_earlier_48 rfl (lv_at hl 1 rfl) ?_
      refine lv_iload_n (pc := 49) hx hb dX7_earlier_49 rfl (lv_at hl 0 rfl) ?_
      refine lv_isub (pc := 50) hx hb dX7_earlier_50 ?_
      exact m_iret (v := r3 - r5) (pc := 51) C hr hlk hP hS dX7_earlier_51 h
    · replace h := h.2 c21
      refine lv_iload_n (pc := 24) hx hb dX7_earlier_24 rfl (lv_at hl 1 rfl) ?_
      refine lv_iload_n (pc := 25) hx hb dX7_earlier_25 rfl (lv_at hl 0 rfl) ?_
      refine m_join (v := if ¬ r3 = r5 then (if ¬ r3 = (-1) then (-999) else 999) else 0) (jp := 47) (rest := []) ?_ (fun hJ => ?_)
      rotate_left
      · skip
        refine lv_icmp_ne (tgt := 33) (pc := 26) hx hb dX7_earlier_26 (by decide) (fun c26 => ?_) (fun c26 => ?_)
        · skip
          refine lv_iload_n (pc := 33) hx hb dX7_earlier_33 rfl (lv_at hl 1 rfl) ?_
          refine lv_iconst (v := -1) (pc := 34) hx hb dX7_earlier_34 (by decide) ?_
          refine lv_icmp_ne (tgt := 44) (pc := 35) hx hb dX7_earlier_35 (by decide) (fun c35 => ?_) (fun c35 => ?_)
          · skip
            refine lv_sipush (v := -999) (pc := 44) hx hb dX7_earlier_44 (by decide) ?_
            exact hJ _ (by rw [if_pos c26, if_pos c35])
          · skip
            refine lv_sipush (v := 999) (pc := 38) hx hb dX7_earlier_38 (by decide) ?_
            refine lv_goto (tgt := 47) (pc := 41) hx hb dX7_earlier_41 (by decide) ?_
            exact hJ _ (by rw [if_pos c26, if_neg (fun hn => hn c35)])
        · skip
          refine lv_iconst (v := 0) (pc := 29) hx hb dX7_earlier_29 (by decide) ?_
          refine lv_goto (tgt := 47) (pc := 30) hx hb dX7_earlier_30 (by decide) ?_
          exact hJ _ (by rw [if_neg (fun hn => hn c26)])
      exact m_iret (v := if ¬ r3 = r5 then (if ¬ r3 = (-1) then (-999) else 999) else 0) (pc := 47) C hr hlk hP hS dX7_earlier_47 h
/-! ForgeHeatsModel.ifRush (I)I -/
def wp_X7_ifRush (n : Nat) (M : Mem) (i : Nat) (p1 : Int32) (P : Int32 → Mem → Prop) : Prop := m_tp n i 7 ∧ (∀ M2 : Mem, M2 = uI M i 0 0 → (wp_X7_jobWith n M2 i p1 (fun r4 M3 => ((r4 = (-1) → wp_X7_fails n M3 i 1 (fun r6 M5 => P r6 M5)) ∧ (¬ r4 = (-1) → wp_X7_earlier n M3 i p1 (fun r8 M7 => P r8 M7))))))
abbrev rm_X7_ifRush : Room := { frames := 9, cells := 0, slots := 0, locals := 205 }
set_option maxHeartbeats 4000000 in
set_option maxRecDepth 100000 in
theorem c_X7_ifRush {l : Launch} {D : va_G} {cA : Nat → ClassId} {b n : Nat} {M : Mem} {i : Nat} {p1 : Int32} {P : Int32 → Mem → Prop} (h : wp_X7_ifRush n M i p1 P) : m_C l D cA b n n M yX7_ifRush cX7_ifRush 2 (some .int) rm_X7_ifRush 0 0 [.ref (b + i), .int p1] (rI P) := by
  refine m_enter (by decide) (Nat.le_of_ble_eq_true rfl) (fun p e s m below meth c C hr hlk hnm hK hP hS ls hl => ?_)
  have hx := C.1
  have hb := C.2.1
  have hl : lv_has ls 2 [(0, .ref (b + i)), (1, .int p1)] := hl
  unfold wp_X7_ifRush at h
  refine lv_aload_n (pc := 0) hx hb dX7_ifRush_0 rfl (lv_at hl 0 rfl) ?_
  refine lv_iconst (v := 0) (pc := 1) hx hb dX7_ifRush_1 (by decide) ?_
  obtain ⟨hk1, h⟩ := h
  refine pX7_25 (pc := 2) (v := 0) C hK hP hS hk1 dX7_ifRush_2 (fun M2 H locs eM2 hP hS => ?_)
  replace h := h M2 eM2
  refine lv_aload_n (pc := 5) hx hb dX7_ifRush_5 rfl (lv_at hl 0 rfl) ?_
  refine lv_iload_n (pc := 6) hx hb dX7_ifRush_6 rfl (lv_at hl 1 rfl) ?_
  refine m_callVI (pc := 7) (y := yX7_jobWith) (κ := 7) (As := [.int p1]) (rest := []) C hK hP hS hl.1 ⟨Nat.zero_le _, Nat.zero_le _⟩ (c_X7_jobWith h) rfl rfl hk1 (by decide) rfl q_1027 q_1029 q_s42 q_8 q_1030 ⟨rfl, rfl⟩ yd_X7_jobWith ⟨Nat.le_of_ble_eq_true rfl, Nat.le_of_ble_eq_true rfl⟩ (Nat.le_of_ble_eq_true rfl) dX7_ifRush_7 (fun r4 M3 H locs h hP hS => ?_)
  refine lv_iconst (v := -1) (pc := 10) hx hb dX7_ifRush_10 (by decide) ?_
  refine lv_icmp_eq (tgt := 22) (pc := 11) hx hb dX7_ifRush_11 (by decide) (fun c11 => ?_) (fun c11 => ?_)
  · replace h := h.1 c11
    refine lv_aload_n (pc := 22) hx hb dX7_ifRush_22 rfl (lv_at hl 0 rfl) ?_
    refine lv_iconst (v := 1) (pc := 23) hx hb dX7_ifRush_23 (by decide) ?_
    refine m_callVI (pc := 24) (y := yX7_fails) (κ := 7) (As := [.int 1]) (rest := []) C hK hP hS hl.1 ⟨Nat.zero_le _, Nat.zero_le _⟩ (c_X7_fails h) rfl rfl hk1 (by decide) rfl q_976 q_978 q_s35 q_8 q_979 ⟨rfl, rfl⟩ yd_X7_fails ⟨Nat.le_of_ble_eq_true rfl, Nat.le_of_ble_eq_true rfl⟩ (Nat.le_of_ble_eq_true rfl) dX7_ifRush_24 (fun r6 M5 H locs h hP hS => ?_)
    exact m_iret (v := r6) (pc := 27) C hr hlk hP hS dX7_ifRush_27 h
  · replace h := h.2 c11
    refine lv_aload_n (pc := 14) hx hb dX7_ifRush_14 rfl (lv_at hl 0 rfl) ?_
    refine lv_iload_n (pc := 15) hx hb dX7_ifRush_15 rfl (lv_at hl 1 rfl) ?_
    refine m_callVI (pc := 16) (y := yX7_earlier) (κ := 7) (As := [.int p1]) (rest := []) C hK hP hS hl.1 ⟨Nat.zero_le _, Nat.zero_le _⟩ (c_X7_earlier h) rfl rfl hk1 (by decide) rfl q_1282 q_1284 q_s88 q_8 q_1285 ⟨rfl, rfl⟩ yd_X7_earlier ⟨Nat.le_of_ble_eq_true rfl, Nat.le_of_ble_eq_true rfl⟩ (Nat.le_of_ble_eq_true rfl) dX7_ifRush_16 (fun r8 M7 H locs h hP hS => ?_)
    refine lv_goto (tgt := 27) (pc := 19) hx hb dX7_ifRush_19 (by decide) ?_
    exact m_iret (v := r8) (pc := 27) C hr hlk hP hS dX7_ifRush_27 h
/-! ForgeHeatsModel.reheatsFor (I)I -/
def wpB_X7_reheatsFor_18 (n : Nat) (P : Int32 → Mem → Prop) (R_ : Mem → Nat → Int32 → Int32 → Int32 → Int32 → Int32 → Int32 → Prop) (M : Mem) (x0 : Nat) (x1 : Int32) (x2 : Int32) (x3 : Int32) (x4 : Int32) (x5 : Int32) (x6 : Int32) : Prop := ((4 ≤ x6 → m_tp n x0 7 ∧ (∃ j7 : Nat, M.2.1 x0 1 = some j7 ∧ (m_tp n j7 8 ∧ (vp_in 2 (m_len j7) ∧ (∀ M10 : Mem, M10 = uI M j7 (2 : Int32).toNatClampNeg x2 → (P x3 M10)))))) ∧ (¬ 4 ≤ x6 → m_tp n x0 7 ∧ (∃ j12 : Nat, M.2.1 x0 1 = some j12 ∧ (m_tp n j12 8 ∧ (vp_in 2 (m_len j12) ∧ (∀ M15 : Mem, M15 = uI M j12 (2 : Int32).toNatClampNeg x6 → (wp_X7_passed n M15 x0 x1 0 (fun r17 M16 => wp_X7_passed n M16 x0 x1 1 (fun r19 M18 => ((x3 = (-1) → ∀ v20 : Int32, v20 = x6 + 1 → (R_ M18 x0 x1 x2 x6 r17 r19 v20)) ∧ (¬ x3 = (-1) → ((x4 < r17 → ∀ v21 : Int32, v21 = x6 + 1 → (R_ M18 x0 x1 x2 x6 r17 r19 v21)) ∧ (¬ x4 < r17 → ((¬ r17 = x4 → ∀ v22 : Int32, v22 = x6 + 1 → (R_ M18 x0 x1 x2 x3 x4 x5 v22)) ∧ (r17 = x4 → ((x5 ≤ r19 → ∀ v23 : Int32, v23 = x6 + 1 → (R_ M18 x0 x1 x2 x3 x4 x5 v23)) ∧ (¬ x5 ≤ r19 → ∀ v24 : Int32, v24 = x6 + 1 → (R_ M18 x0 x1 x2 x6 r17 r19 v24))))))))))))))))))
def wpL_X7_reheatsFor_18 (n : Nat) (P : Int32 → Mem → Prop) : Nat → Mem → Nat → Int32 → Int32 → Int32 → Int32 → Int32 → Int32 → Prop
  | 0 => fun _ _ _ _ _ _ _ _ => False
  | f + 1 => fun M x0 x1 x2 x3 x4 x5 x6 => wpB_X7_reheatsFor_18 n P (wpL_X7_reheatsFor_18 n P f) M x0 x1 x2 x3 x4 x5 x6
def wp_X7_reheatsFor (n : Nat) (M : Mem) (i : Nat) (p1 : Int32) (P : Int32 → Mem → Prop) : Prop := m_tp n i 7 ∧ (∃ j2 : Nat, M.2.1 i 1 = some j2 ∧ (m_tp n j2 8 ∧ (vp_in 2 (m_len j2) ∧ (∀ v5 : Int32, v5 = (M.1 j2 (2 : Int32).toNatClampNeg) → (∃ f : Nat, wpL_X7_reheatsFor_18 n P f M i p1 v5 (-1) 0 0 0)))))
abbrev rm_X7_reheatsFor : Room := { frames := 9, cells := 0, slots := 0, locals := 207 }
set_option maxHeartbeats 4000000 in
set_option maxRecDepth 100000 in
theorem c_X7_reheatsFor {l : Launch} {D : va_G} {cA : Nat → ClassId} {b n : Nat} {M : Mem} {i : Nat} {p1 : Int32} {P : Int32 → Mem → Prop} (h : wp_X7_reheatsFor n M i p1 P) : m_C l D cA b n n M yX7_reheatsFor cX7_reheatsFor 9 (some .int) rm_X7_reheatsFor 0 0 [.ref (b + i), .int p1] (rI P) := by
  refine m_enter (by decide) (Nat.le_of_ble_eq_true rfl) (fun p e s m below meth c C hr hlk hnm hK hP hS ls hl => ?_)
  have hx := C.1
  have hb := C.2.1
  have hl : lv_has ls 9 [(0, .ref (b + i)), (1, .int p1)] := hl
  have L18 : ∀ f : Nat, ∀ (M : Mem) (H : Heap) (locs : List Loc) (ls : Array Slot) (x0 : Nat) (x1 : Int32) (x2 : Int32) (x3 : Int32) (x4 : Int32) (x5 : Int32) (x6 : Int32), wpL_X7_reheatsFor_18 n P f M x0 x1 x2 x3 x4 x5 x6 → m_H D cA b n M H → va_S (m_A b) s.heap H locs → lv_has ls 9 [(0, .ref (b + x0)), (1, .int x1), (2, .int x2), (3, .int x3), (4, .int x4), (5, .int x5), (6, .int x6)] → W p l e rm_X7_reheatsFor s m ([.ref (b + i), .int p1] : List Value).toArray below meth c H locs 0 0 (MQ below (m_Q D cA b n (rI P)) ([.ref (b + i), .int p1] : List Value).toArray s 0 0 (m_A b)) (F0 m 18 ls []) := by
    clear h
    intro f
    induction f with
    | zero => intro M H locs ls x0 x1 x2 x3 x4 x5 x6 h; exact h.elim
    | succ f ih =>
      intro M H locs ls x0 x1 x2 x3 x4 x5 x6 h hP hS hl
      have h : wpB_X7_reheatsFor_18 n P (wpL_X7_reheatsFor_18 n P f) M x0 x1 x2 x3 x4 x5 x6 := h
      unfold wpB_X7_reheatsFor_18 at h
      refine lv_iload (pc := 18) hx hb dX7_reheatsFor_18 (lv_at hl 6 rfl) ?_
      refine lv_iconst (v := 4) (pc := 20) hx hb dX7_reheatsFor_20 (by decide) ?_
      refine lv_icmp_ge (tgt := 91) (pc := 21) hx hb dX7_reheatsFor_21 (by decide) (fun c21 => ?_) (fun c21 => ?_)
      · replace h := h.1 c21
        refine lv_aload_n (pc := 91) hx hb dX7_reheatsFor_91 rfl (lv_at hl 0 rfl) ?_
        obtain ⟨hk6, h⟩ := h
        obtain ⟨j7, hj7, h⟩ := h
        refine gX7_7 (pc := 92) C hK hP hk6 hj7 dX7_reheatsFor_92 ?_
        refine lv_iconst (v := 2) (pc := 95) hx hb dX7_reheatsFor_95 (by decide) ?_
        refine lv_iload_n (pc := 96) hx hb dX7_reheatsFor_96 rfl (lv_at hl 2 rfl) ?_
        obtain ⟨hk8, h⟩ := h
        obtain ⟨hi9, h⟩ := h
        refine m_iast (pc := 97) C hK hP hS hk8 hi9 dX7_reheatsFor_97 (fun M10 H locs eM10 hP hS => ?_)
        replace h := h M10 eM10
        refine lv_iload_n (pc := 98) hx hb dX7_reheatsFor_98 rfl (lv_at hl 3 rfl) ?_
        exact m_iret (v := x3) (pc := 99) C hr hlk hP hS dX7_reheatsFor_99 h
      · replace h := h.2 c21
        refine lv_aload_n (pc := 24) hx hb dX7_reheatsFor_24 rfl (lv_at hl 0 rfl) ?_
        obtain ⟨hk11, h⟩ := h
        obtain ⟨j12, hj12, h⟩ := h
        refine gX7_7 (pc := 25) C hK hP hk11 hj12 dX7_reheatsFor_25 ?_
        refine lv_iconst (v := 2) (pc := 28) hx hb dX7_reheatsFor_28 (by decide) ?_
        refine lv_iload (pc := 29) hx hb dX7_reheatsFor_29 (lv_at hl 6 rfl) ?_
        obtain ⟨hk13, h⟩ := h
        obtain ⟨hi14, h⟩ := h
        refine m_iast (pc := 31) C hK hP hS hk13 hi14 dX7_reheatsFor_31 (fun M15 H locs eM15 hP hS => ?_)
        replace h := h M15 eM15
        refine lv_aload_n (pc := 32) hx hb dX7_reheatsFor_32 rfl (lv_at hl 0 rfl) ?_
        refine lv_iload_n (pc := 33) hx hb dX7_reheatsFor_33 rfl (lv_at hl 1 rfl) ?_
        refine lv_iconst (v := 0) (pc := 34) hx hb dX7_reheatsFor_34 (by decide) ?_
        refine m_callVI (pc := 35) (y := yX7_passed) (κ := 7) (As := [.int x1, .int 0]) (rest := []) C hK hP hS hl.1 ⟨Nat.zero_le _, Nat.zero_le _⟩ (c_X7_passed h) rfl rfl hk11 (by decide) rfl q_1258 q_1260 q_s84 q_8 q_1261 ⟨rfl, rfl⟩ yd_X7_passed ⟨Nat.le_of_ble_eq_true rfl, Nat.le_of_ble_eq_true rfl⟩ (Nat.le_of_ble_eq_true rfl) dX7_reheatsFor_35 (fun r17 M16 H locs h hP hS => ?_)
        refine lv_istore (lv' := [(7, .int r17), (0, .ref (b + x0)), (1, .int x1), (2, .int x2), (3, .int x3), (4, .int x4), (5, .int x5), (6, .int x6)]) (pc := 38) hx hb dX7_reheatsFor_38 hl (by decide) rfl (fun ls hl => ?_)
        refine lv_aload_n (pc := 40) hx hb dX7_reheatsFor_40 rfl (lv_at hl 1 rfl) ?_
        refine lv_iload_n (pc := 41) hx hb dX7_reheatsFor_41 rfl (lv_at hl 2 rfl) ?_
        refine lv_iconst (v := 1) (pc := 42) hx hb dX7_reheatsFor_42 (by decide) ?_
        refine m_callVI (pc := 43) (y := yX7_passed) (κ := 7) (As := [.int x1, .int 1]) (rest := []) C hK hP hS hl.1 ⟨Nat.zero_le _, Nat.zero_le _⟩ (c_X7_passed h) rfl rfl hk11 (by decide) rfl q_1258 q_1260 q_s84 q_8 q_1261 ⟨rfl, rfl⟩ yd_X7_passed ⟨Nat.le_of_ble_eq_true rfl, Nat.le_of_ble_eq_true rfl⟩ (Nat.le_of_ble_eq_true rfl) dX7_reheatsFor_43 (fun r19 M18 H locs h hP hS => ?_)
        refine lv_istore (lv' := [(8, .int r19), (7, .int r17), (0, .ref (b + x0)), (1, .int x1), (2, .int x2), (3, .int x3), (4, .int x4), (5, .int x5), (6, .int x6)]) (pc := 46) hx hb dX7_reheatsFor_46 hl (by decide) rfl (fun ls hl => ?_)
        refine lv_iload_n (pc := 48) hx hb dX7_reheatsFor_48 rfl (lv_at hl 5 rfl) ?_
        refine lv_iconst (v := -1) (pc := 49) hx hb dX7_reheatsFor_49 (by decide) ?_
        refine lv_icmp_eq (tgt := 74) (pc := 50) hx hb dX7_reheatsFor_50 (by decide) (fun c50 => ?_) (fun c50 => ?_)
        · replace h := h.1 c50
          refine lv_iload (pc := 74) hx hb dX7_reheatsFor_74 (lv_at hl 8 rfl) ?_
          refine lv_istore_n (lv' := [(3, .int x6), (8, .int r19), (7, .int r17), (0, .ref (b + x0)), (1, .int x1), (2, .int x2), (4, .int x4), (5, .int x5), (6, .int x6)]) (pc := 76) hx hb dX7_reheatsFor_76 rfl hl (by decide) rfl (fun ls hl => ?_)
          refine lv_iload (pc := 77) hx hb dX7_reheatsFor_77 (lv_at hl 2 rfl) ?_
          refine lv_istore (lv' := [(4, .int r17), (3, .int x6), (8, .int r19), (7, .int r17), (0, .ref (b + x0)), (1, .int x1), (2, .int x2), (5, .int x5), (6, .int x6)]) (pc := 79) hx hb dX7_reheatsFor_79 hl (by decide) rfl (fun ls hl => ?_)
          refine lv_iload (pc := 81) hx hb dX7_reheatsFor_81 (lv_at hl 2 rfl) ?_
          refine lv_istore (lv' := [(5, .int r19), (4, .int r17), (3, .int x6), (8, .int r19), (7, .int r17), (0, .ref (b + x0)), (1, .int x1), (2, .int x2), (6, .int x6)]) (pc := 83) hx hb dX7_reheatsFor_83 hl (by decide) rfl (fun ls hl => ?_)
          obtain ⟨v20, ev20⟩ : ∃ y : Int32, y = x6 + 1 := ⟨_, rfl⟩
          replace h := h v20 ev20
          refine lv_iinc (v := v20) (lv' := [(6, .int v20), (5, .int r19), (4, .int r17), (3, .int x6), (8, .int r19), (7, .int r17), (0, .ref (b + x0)), (1, .int x1), (2, .int x2)]) (pc := 85) hx hb dX7_reheatsFor_85 hl (k := 8) rfl (by rw [ev20]; rfl) (by decide) rfl (fun ls hl => ?_)
          refine lv_goto (tgt := 18) (pc := 88) hx hb dX7_reheatsFor_88 (by decide) ?_
          exact ih _ _ _ _ _ _ _ _ _ _ _ h hP hS (lv_sub hl [6, 7, 8, 3, 2, 1, 0] rfl)
        · replace h := h.2 c50
          refine lv_iload (pc := 53) hx hb dX7_reheatsFor_53 (lv_at hl 1 rfl) ?_
          refine lv_iload (pc := 55) hx hb dX7_reheatsFor_55 (lv_at hl 6 rfl) ?_
          refine lv_icmp_gt (tgt := 74) (pc := 57) hx hb dX7_reheatsFor_57 (by decide) (fun c57 => ?_) (fun c57 => ?_)
          · replace h := h.1 c57
            refine lv_iload (pc := 74) hx hb dX7_reheatsFor_74 (lv_at hl 8 rfl) ?_
            refine lv_istore_n (lv' := [(3, .int x6), (8, .int r19), (7, .int r17), (0, .ref (b + x0)), (1, .int x1), (2, .int x2), (4, .int x4), (5, .int x5), (6, .int x6)]) (pc := 76) hx hb dX7_reheatsFor_76 rfl hl (by decide) rfl (fun ls hl => ?_)
            refine lv_iload (pc := 77) hx hb dX7_reheatsFor_77 (lv_at hl 2 rfl) ?_
            refine lv_istore (lv' := [(4, .int r17), (3, .int x6), (8, .int r19), (7, .int r17), (0, .ref (b + x0)), (1, .int x1), (2, .int x2), (5, .int x5), (6, .int x6)]) (pc := 79) hx hb dX7_reheatsFor_79 hl (by decide) rfl (fun ls hl => ?_)
            refine lv_iload (pc := 81) hx hb dX7_reheatsFor_81 (lv_at hl 2 rfl) ?_
            refine lv_istore (lv' := [(5, .int r19), (4, .int r17), (3, .int x6), (8, .int r19), (7, .int r17), (0, .ref (b + x0)), (1, .int x1), (2, .int x2), (6, .int x6)]) (pc := 83) hx hb dX7_reheatsFor_83 hl (by decide) rfl (fun ls hl => ?_)
            obtain ⟨v21, ev21⟩ : ∃ y : Int32, y = x6 + 1 := ⟨_, rfl⟩
            replace h := h v21 ev21
            refine lv_iinc (v := v21) (lv' := [(6, .int v21), (5, .int r19), (4, .int r17), (3, .int x6), (8, .int r19), (7, .int r17), (0, .ref (b + x0)), (1, .int x1), (2, .int x2)]) (pc := 85) hx hb dX7_reheatsFor_85 hl (k := 8) rfl (by rw [ev21]; rfl) (by decide) rfl (fun ls hl => ?_)
            refine lv_goto (tgt := 18) (pc := 88) hx hb dX7_reheatsFor_88 (by decide) ?_
            exact ih _ _ _ _ _ _ _ _ _ _ _ h hP hS (lv_sub hl [6, 7, 8, 3, 2, 1, 0] rfl)
          · replace h := h.2 c57
            refine lv_iload (pc := 60) hx hb dX7_reheatsFor_60 (lv_at hl 1 rfl) ?_
            refine lv_iload (pc := 62) hx hb dX7_reheatsFor_62 (lv_at hl 6 rfl) ?_
            refine lv_icmp_ne (tgt := 85) (pc := 64) hx hb dX7_reheatsFor_64 (by decide) (fun c64 => ?_) (fun c64 => ?_)
            · replace h := h.1 c64
              obtain ⟨v22, ev22⟩ : ∃ y : Int32, y = x6 + 1 := ⟨_, rfl⟩
              replace h := h v22 ev22
              refine lv_iinc (v := v22) (lv' := [(6, .int v22), (8, .int r19), (7, .int r17), (0, .ref (b + x0)), (1, .int x1), (2, .int x2), (3, .int x3), (4, .int x4), (5, .int x5)]) (pc := 85) hx hb dX7_reheatsFor_85 hl (k := 8) rfl (by rw [ev22]; rfl) (by decide) rfl (fun ls hl => ?_)
              refine lv_goto (tgt := 18) (pc := 88) hx hb dX7_reheatsFor_88 (by decide) ?_
              exact ih _ _ _ _ _ _ _ _ _ _ _ h hP hS (lv_sub hl [3, 4, 5, 6, 7, 8, 0] rfl)
            · replace h := h.2 c64
              refine lv_iload (pc := 67) hx hb dX7_reheatsFor_67 (lv_at hl 0 rfl) ?_
              refine lv_iload (pc := 69) hx hb dX7_reheatsFor_69 (lv_at hl 7 rfl) ?_
              refine lv_icmp_ge (tgt := 85) (pc := 71) hx hb dX7_reheatsFor_71 (by decide) (fun c71 => ?_) (fun c71 => ?_)
              · replace h := h.1 c71
                obtain ⟨v23, ev23⟩ : ∃ y : Int32, y = x6 + 1 := ⟨_, rfl⟩
                replace h := h v23 ev23
                refine lv_iinc (v := v23) (lv' := [(6, .int v23), (8, .int r19), (7, .int r17), (0, .ref (b + x0)), (1, .int x1), (2, .int x2), (3, .int x3), (4, .int x4), (5, .int x5)]) (pc := 85) hx hb dX7_reheatsFor_85 hl (k := 8) rfl (by rw [ev23]; rfl) (by decide) rfl (fun ls hl => ?_)
                refine lv_goto (tgt := 18) (pc := 88) hx hb dX7_reheatsFor_88 (by decide) ?_
                exact ih _ _ _ _ _ _ _ _ _ _ _ h hP hS (lv_sub hl [3, 4, 5, 6, 7, 8, 0] rfl)
              · replace h := h.2 c71
                refine lv_iload (pc := 74) hx hb dX7_reheatsFor_74 (lv_at hl 8 rfl) ?_
                refine lv_istore_n (lv' := [(3, .int x6), (8, .int r19), (7, .int r17), (0, .ref (b + x0)), (1, .int x1), (2, .int x2), (4, .int x4), (5, .int x5), (6, .int x6)]) (pc := 76) hx hb dX7_reheatsFor_76 rfl hl (by decide) rfl (fun ls hl => ?_)
                refine lv_iload (pc := 77) hx hb dX7_reheatsFor_77 (lv_at hl 2 rfl) ?_
                refine lv_istore (lv' := [(4, .int r17), (3, .int x6), (8, .int r19), (7, .int r17), (0, .ref (b + x0)), (1, .int x1), (2, .int x2), (5, .int x5), (6, .int x6)]) (pc := 79) hx hb dX7_reheatsFor_79 hl (by decide) rfl (fun ls hl => ?_)
                refine lv_iload (pc := 81) hx hb dX7_reheatsFor_81 (lv_at hl 2 rfl) ?_
                refine lv_istore (lv' := [(5, .int r19), (4, .int r17), (3, .int x6), (8, .int r19), (7, .int r17), (0, .ref (b + x0)), (1, .int x1), (2, .int x2), (6, .int x6)]) (pc := 83) hx hb dX7_reheatsFor_83 hl (by decide) rfl (fun ls hl => ?_)
                obtain ⟨v24, ev24⟩ : ∃ y : Int32, y = x6 + 1 := ⟨_, rfl⟩
                replace h := h v24 ev24
                refine lv_iinc (v := v24) (lv' := [(6, .int v24), (5, .int r19), (4, .int r17), (3, .int x6), (8, .int r19), (7, .int r17), (0, .ref (b + x0)), (1, .int x1), (2, .int x2)]) (pc := 85) hx hb dX7_reheatsFor_85 hl (k := 8) rfl (by rw [ev24]; rfl) (by decide) rfl (fun ls hl => ?_)
                refine lv_goto (tgt := 18) (pc := 88) hx hb dX7_reheatsFor_88 (by decide) ?_
                exact ih _ _ _ _ _ _ _ _ _ _ _ h hP hS (lv_sub hl [6, 7, 8, 3, 2, 1, 0] rfl)
  unfold wp_X7_reheatsFor at h
  refine lv_aload_n (pc := 0) hx hb dX7_reheatsFor_0 rfl (lv_at hl 0 rfl) ?_
  obtain ⟨hk1, h⟩ := h
  obtain ⟨j2, hj2, h⟩ := h
  refine gX7_7 (pc := 1) C hK hP hk1 hj2 dX7_reheatsFor_1 ?_
  refine lv_iconst (v := 2) (pc := 4) hx hb dX7_reheatsFor_4 (by decide) ?_
  obtain ⟨hk3, h⟩ := h
  obtain ⟨hi4, h⟩ := h
  refine m_iald (pc := 5) C hK hP hk3 hi4 dX7_reheatsFor_5 ?_
  refine lv_topi (fun v5 ev5 => ?_)
  replace h := h v5 ev5
  refine lv_istore_n (lv' := [(2, .int v5), (0, .ref (b + i)), (1, .int p1)]) (pc := 6) hx hb dX7_reheatsFor_6 rfl hl (by decide) rfl (fun ls hl => ?_)
  refine lv_iconst (v := -1) (pc := 7) hx hb dX7_reheatsFor_7 (by decide) ?_
  refine lv_istore_n (lv' := [(3, .int (-1)), (2, .int v5), (0, .ref (b + i)), (1, .int p1)]) (pc := 8) hx hb dX7_reheatsFor_8 rfl hl (by decide) rfl (fun ls hl => ?_)
  refine lv_iconst (v := 0) (pc := 9) hx hb dX7_reheatsFor_9 (by decide) ?_
  refine lv_istore (lv' := [(4, .int 0), (3, .int (-1)), (2, .int v5), (0, .ref (b + i)), (1, .int p1)]) (pc := 10) hx hb dX7_reheatsFor_10 hl (by decide) rfl (fun ls hl => ?_)
  refine lv_iconst (v := 0) (pc := 12) hx hb dX7_reheatsFor_12 (by decide) ?_
  refine lv_istore (lv' := [(5, .int 0), (4, .int 0), (3, .int (-1)), (2, .int v5), (0, .ref (b + i)), (1, .int p1)]) (pc := 13) hx hb dX7_reheatsFor_13 hl (by decide) rfl (fun ls hl => ?_)
  refine lv_iconst (v := 0) (pc := 15) hx hb dX7_reheatsFor_15 (by decide) ?_
  refine lv_istore (lv' := [(6, .int 0), (5, .int 0), (4, .int 0), (3, .int (-1)), (2, .int v5), (0, .ref (b + i)), (1, .int p1)]) (pc := 16) hx hb dX7_reheatsFor_16 hl (by decide) rfl (fun ls hl => ?_)
  obtain ⟨f, h⟩ := h
  exact L18 f _ _ _ _ _ _ _ _ _ _ _ h hP hS (lv_sub hl [5, 6, 4, 3, 2, 1, 0] rfl)
/-! ForgeHeatsModel.bestReheats (I)I -/
def wp_X7_bestReheats (n : Nat) (M : Mem) (i : Nat) (p1 : Int32) (P : Int32 → Mem → Prop) : Prop := m_tp n i 7 ∧ (∀ M2 : Mem, M2 = uI M i 0 0 → (wp_X7_in n M2 p1 1 120 (fun z4 M3 => ((z4 = false → wp_X7_fails n M3 i 1 (fun r6 M5 => P r6 M5)) ∧ (z4 = true → wp_X7_reheatsFor n M3 i p1 (fun r8 M7 => P r8 M7))))))
abbrev rm_X7_bestReheats : Room := { frames := 10, cells := 0, slots := 0, locals := 235 }
set_option maxHeartbeats 4000000 in
set_option maxRecDepth 100000 in
theorem c_X7_bestReheats {l : Launch} {D : va_G} {cA : Nat → ClassId} {b n : Nat} {M : Mem} {i : Nat} {p1 : Int32} {P : Int32 → Mem → Prop} (h : wp_X7_bestReheats n M i p1 P) : m_C l D cA b n n M yX7_bestReheats cX7_bestReheats 2 (some .int) rm_X7_bestReheats 0 0 [.ref (b + i), .int p1] (rI P) := by
  refine m_enter (by decide) (Nat.le_of_ble_eq_true rfl) (fun p e s m below meth c C hr hlk hnm hK hP hS ls hl => ?_)
  have hx := C.1
  have hb := C.2.1
  have hl : lv_has ls 2 [(0, .ref (b + i)), (1, .int p1)] := hl
  unfold wp_X7_bestReheats at h
  refine lv_aload_n (pc := 0) hx hb dX7_bestReheats_0 rfl (lv_at hl 0 rfl) ?_
  refine lv_iconst (v := 0) (pc := 1) hx hb dX7_bestReheats_1 (by decide) ?_
  obtain ⟨hk1, h⟩ := h
  refine pX7_25 (pc := 2) (v := 0) C hK hP hS hk1 dX7_bestReheats_2 (fun M2 H locs eM2 hP hS => ?_)
  replace h := h M2 eM2
  refine lv_iload_n (pc := 5) hx hb dX7_bestReheats_5 rfl (lv_at hl 1 rfl) ?_
  refine lv_iconst (v := 1) (pc := 6) hx hb dX7_bestReheats_6 (by decide) ?_
  refine lv_bipush (v := 120) (pc := 7) hx hb dX7_bestReheats_7 (by decide) ?_
  refine m_callSZ (pc := 9) (y := yX7_in) (As := [.int p1, .int 1, .int 120]) (rest := []) C hK hP hS hl.1 ⟨Nat.zero_le _, Nat.zero_le _⟩ (c_X7_in h) rfl rfl q_973 q_974 q_8 q_975 ⟨rfl, rfl⟩ yd_X7_in ⟨Nat.le_of_ble_eq_true rfl, Nat.le_of_ble_eq_true rfl⟩ (Nat.le_of_ble_eq_true rfl) dX7_bestReheats_9 (fun z4 M3 H locs h hP hS => ?_)
  refine lv_if_eq (tgt := 23) (pc := 12) hx hb dX7_bestReheats_12 (by decide) (fun c12 => ?_) (fun c12 => ?_)
  · replace h := h.1 (bZ0 c12)
    refine lv_aload_n (pc := 23) hx hb dX7_bestReheats_23 rfl (lv_at hl 0 rfl) ?_
    refine lv_iconst (v := 1) (pc := 24) hx hb dX7_bestReheats_24 (by decide) ?_
    refine m_callVI (pc := 25) (y := yX7_fails) (κ := 7) (As := [.int 1]) (rest := []) C hK hP hS hl.1 ⟨Nat.zero_le _, Nat.zero_le _⟩ (c_X7_fails h) rfl rfl hk1 (by decide) rfl q_976 q_978 q_s35 q_8 q_979 ⟨rfl, rfl⟩ yd_X7_fails ⟨Nat.le_of_ble_eq_true rfl, Nat.le_of_ble_eq_true rfl⟩ (Nat.le_of_ble_eq_true rfl) dX7_bestReheats_25 (fun r6 M5 H locs h hP hS => ?_)
    exact m_iret (v := r6) (pc := 28) C hr hlk hP hS dX7_bestReheats_28 h
  · replace h := h.2 (bZ1 c12)
    refine lv_aload_n (pc := 15) hx hb dX7_bestReheats_15 rfl (lv_at hl 0 rfl) ?_
    refine lv_iload_n (pc := 16) hx hb dX7_bestReheats_16 rfl (lv_at hl 1 rfl) ?_
    refine m_callVI (pc := 17) (y := yX7_reheatsFor) (κ := 7) (As := [.int p1]) (rest := []) C hK hP hS hl.1 ⟨Nat.zero_le _, Nat.zero_le _⟩ (c_X7_reheatsFor h) rfl rfl hk1 (by decide) rfl q_1290 q_1292 q_s89 q_8 q_1293 ⟨rfl, rfl⟩ yd_X7_reheatsFor ⟨Nat.le_of_ble_eq_true rfl, Nat.le_of_ble_eq_true rfl⟩ (Nat.le_of_ble_eq_true rfl) dX7_bestReheats_17 (fun r8 M7 H locs h hP hS => ?_)
    refine lv_goto (tgt := 28) (pc := 20) hx hb dX7_bestReheats_20 (by decide) ?_
    exact m_iret (v := r8) (pc := 28) C hr hlk hP hS dX7_bestReheats_28 h
