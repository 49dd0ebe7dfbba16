/-! ForgeHeatsLaw.low (II)I -/
def wp_L_low (n : Nat) (M : Mem) (p1 : Int32) (p2 : Int32) (P : Int32 → Mem → Prop) : Prop := ¬ p2 = 0 ∧ (P ((p1 &&& 2147483647) - (p1 &&& 2147483647) / p2 * p2) M)
abbrev rm_L_low : Room := { frames := 0, cells := 0, slots := 0, locals := 0 }
set_option maxHeartbeats 4000000 in
set_option maxRecDepth 100000 in
theorem c_L_low {l : Launch} {D : va_G} {cA : Nat → ClassId} {b n : Nat} {M : Mem} {p1 : Int32} {p2 : Int32} {P : Int32 → Mem → Prop} (h : wp_L_low n M p1 p2 P) : m_C l D cA b n n M yL_low cL_low 2 (some .int) rm_L_low 0 0 [.int p1, .int p2] (rI P) := by
  refine m_enter (by decide) (Nat.le_of_ble_eq_true rfl) (fun p e s m below meth c C hr hlk hnm hK hP hS ls hl => ?_)
  have hx := C.1
  have hb := C.2.1
  have hl : lv_has ls 2 [(0, .int p1), (1, .int p2)] := hl
  unfold wp_L_low at h
  refine lv_iload_n (pc := 0) hx hb dL_low_0 rfl (lv_at hl 0 rfl) ?_
  refine lv_ldc (pc := 1) (v := 2147483647) hx hb C.2.2.2.1 (C.2.2.2.2 _ q_535) dL_low_1 ?_
  refine lv_iand (pc := 3) hx hb dL_low_3 ?_
  refine lv_iload_n (pc := 4) hx hb dL_low_4 rfl (lv_at hl 1 rfl) ?_
  obtain ⟨hz, h⟩ := h
  refine lv_irem (pc := 5) hx hb dL_low_5 hz ?_
  exact m_iret (v := (p1 &&& 2147483647) - (p1 &&& 2147483647) / p2 * p2) (pc := 6) C hr hlk hP hS dL_low_6 h
/-! ForgeHeatsLaw.told (LForgeHeats;)J -/
def wpB_L_told_203 (n : Nat) (P : Int64 → Mem → Prop) (K_ : Mem → Nat → Int64 → Int32 → Prop) (R_ : Mem → Nat → Int64 → Int32 → Int32 → Prop) (M : Mem) (x0 : Nat) (x1 : Int64) (x3 : Int32) (x4 : Int32) : Prop := ((8 ≤ x4 → ∀ v4 : Int32, v4 = x3 + 1 → (K_ M x0 x1 v4)) ∧ (¬ 8 ≤ x4 → m_tp n x0 6 ∧ (wp_X6_jobOf n M x0 x3 x4 (fun r7 M5 => ∀ v8 : Int64, v8 = ((31 * x1) + ((r7).toInt64)) → (∀ v9 : Int32, v9 = x4 + 1 → (R_ M5 x0 v8 x3 v9))))))
def wpL_L_told_203 (n : Nat) (P : Int64 → Mem → Prop) (K_ : Mem → Nat → Int64 → Int32 → Prop) : Nat → Mem → Nat → Int64 → Int32 → Int32 → Prop
  | 0 => fun _ _ _ _ _ => False
  | f + 1 => fun M x0 x1 x3 x4 => wpB_L_told_203 n P K_ (wpL_L_told_203 n P K_ f) M x0 x1 x3 x4
def wpB_L_told_191 (n : Nat) (P : Int64 → Mem → Prop) (R_ : Mem → Nat → Int64 → Int32 → Prop) (M : Mem) (x0 : Nat) (x1 : Int64) (x3 : Int32) : Prop := m_tp n x0 6 ∧ (wp_X6_count n M x0 1 (fun r3 M1 => ((r3 ≤ x3 → P x1 M1) ∧ (¬ r3 ≤ x3 → ∃ f : Nat, wpL_L_told_203 n P R_ f M1 x0 x1 x3 0))))
def wpL_L_told_191 (n : Nat) (P : Int64 → Mem → Prop) : Nat → Mem → Nat → Int64 → Int32 → Prop
  | 0 => fun _ _ _ _ => False
  | f + 1 => fun M x0 x1 x3 => wpB_L_told_191 n P (wpL_L_told_191 n P f) M x0 x1 x3
def wpB_L_told_156 (n : Nat) (P : Int64 → Mem → Prop) (K_ : Mem → Nat → Int64 → Int32 → Prop) (R_ : Mem → Nat → Int64 → Int32 → Int32 → Prop) (M : Mem) (x0 : Nat) (x1 : Int64) (x3 : Int32) (x4 : Int32) : Prop := ((4 ≤ x4 → ∀ v10 : Int32, v10 = x3 + 1 → (K_ M x0 x1 v10)) ∧ (¬ 4 ≤ x4 → m_tp n x0 6 ∧ (wp_X6_billet n M x0 x3 x4 (fun r13 M11 => ∀ v14 : Int64, v14 = ((31 * x1) + ((r13).toInt64)) → (∀ v15 : Int32, v15 = x4 + 1 → (R_ M11 x0 v14 x3 v15))))))
def wpL_L_told_156 (n : Nat) (P : Int64 → Mem → Prop) (K_ : Mem → Nat → Int64 → Int32 → Prop) : Nat → Mem → Nat → Int64 → Int32 → Int32 → Prop
  | 0 => fun _ _ _ _ _ => False
  | f + 1 => fun M x0 x1 x3 x4 => wpB_L_told_156 n P K_ (wpL_L_told_156 n P K_ f) M x0 x1 x3 x4
def wpB_L_told_147 (n : Nat) (P : Int64 → Mem → Prop) (R_ : Mem → Nat → Int64 → Int32 → Prop) (M : Mem) (x0 : Nat) (x1 : Int64) (x3 : Int32) : Prop := ((7 ≤ x3 → ∃ f : Nat, wpL_L_told_191 n P f M x0 x1 0) ∧ (¬ 7 ≤ x3 → ∃ f : Nat, wpL_L_told_156 n P R_ f M x0 x1 x3 0))
def wpL_L_told_147 (n : Nat) (P : Int64 → Mem → Prop) : Nat → Mem → Nat → Int64 → Int32 → Prop
  | 0 => fun _ _ _ _ => False
  | f + 1 => fun M x0 x1 x3 => wpB_L_told_147 n P (wpL_L_told_147 n P f) M x0 x1 x3
def wpB_L_told_111 (n : Nat) (P : Int64 → Mem → Prop) (K_ : Mem → Nat → Int64 → Int32 → Prop) (R_ : Mem → Nat → Int64 → Int32 → Int32 → Prop) (M : Mem) (x0 : Nat) (x1 : Int64) (x3 : Int32) (x4 : Int32) : Prop := ((6 ≤ x4 → ∀ v16 : Int32, v16 = x3 + 1 → (K_ M x0 x1 v16)) ∧ (¬ 6 ≤ x4 → m_tp n x0 6 ∧ (wp_X6_dieOf n M x0 x3 x4 (fun r19 M17 => ∀ v20 : Int64, v20 = ((31 * x1) + ((r19).toInt64)) → (∀ v21 : Int32, v21 = x4 + 1 → (R_ M17 x0 v20 x3 v21))))))
def wpL_L_told_111 (n : Nat) (P : Int64 → Mem → Prop) (K_ : Mem → Nat → Int64 → Int32 → Prop) : Nat → Mem → Nat → Int64 → Int32 → Int32 → Prop
  | 0 => fun _ _ _ _ _ => False
  | f + 1 => fun M x0 x1 x3 x4 => wpB_L_told_111 n P K_ (wpL_L_told_111 n P K_ f) M x0 x1 x3 x4
def wpB_L_told_103 (n : Nat) (P : Int64 → Mem → Prop) (R_ : Mem → Nat → Int64 → Int32 → Prop) (M : Mem) (x0 : Nat) (x1 : Int64) (x3 : Int32) : Prop := ((5 ≤ x3 → ∃ f : Nat, wpL_L_told_147 n P f M x0 x1 0) ∧ (¬ 5 ≤ x3 → ∃ f : Nat, wpL_L_told_111 n P R_ f M x0 x1 x3 0))
def wpL_L_told_103 (n : Nat) (P : Int64 → Mem → Prop) : Nat → Mem → Nat → Int64 → Int32 → Prop
  | 0 => fun _ _ _ _ => False
  | f + 1 => fun M x0 x1 x3 => wpB_L_told_103 n P (wpL_L_told_103 n P f) M x0 x1 x3
def wpB_L_told_67 (n : Nat) (P : Int64 → Mem → Prop) (K_ : Mem → Nat → Int64 → Int32 → Prop) (R_ : Mem → Nat → Int64 → Int32 → Int32 → Prop) (M : Mem) (x0 : Nat) (x1 : Int64) (x3 : Int32) (x4 : Int32) : Prop := ((7 ≤ x4 → ∀ v22 : Int32, v22 = x3 + 1 → (K_ M x0 x1 v22)) ∧ (¬ 7 ≤ x4 → m_tp n x0 6 ∧ (wp_X6_heat n M x0 x3 x4 (fun r25 M23 => ∀ v26 : Int64, v26 = ((31 * x1) + ((r25).toInt64)) → (∀ v27 : Int32, v27 = x4 + 1 → (R_ M23 x0 v26 x3 v27))))))
def wpL_L_told_67 (n : Nat) (P : Int64 → Mem → Prop) (K_ : Mem → Nat → Int64 → Int32 → Prop) : Nat → Mem → Nat → Int64 → Int32 → Int32 → Prop
  | 0 => fun _ _ _ _ _ => False
  | f + 1 => fun M x0 x1 x3 x4 => wpB_L_told_67 n P K_ (wpL_L_told_67 n P K_ f) M x0 x1 x3 x4
def wpB_L_told_59 (n : Nat) (P : Int64 → Mem → Prop) (R_ : Mem → Nat → Int64 → Int32 → Prop) (M : Mem) (x0 : Nat) (x1 : Int64) (x3 : Int32) : Prop := ((4 ≤ x3 → ∃ f : Nat, wpL_L_told_103 n P f M x0 x1 0) ∧ (¬ 4 ≤ x3 → ∃ f : Nat, wpL_L_told_67 n P R_ f M x0 x1 x3 0))
def wpL_L_told_59 (n : Nat) (P : Int64 → Mem → Prop) : Nat → Mem → Nat → Int64 → Int32 → Prop
  | 0 => fun _ _ _ _ => False
  | f + 1 => fun M x0 x1 x3 => wpB_L_told_59 n P (wpL_L_told_59 n P f) M x0 x1 x3
def wpB_L_told_33 (n : Nat) (P : Int64 → Mem → Prop) (R_ : Mem → Nat → Int64 → Int32 → Prop) (M : Mem) (x0 : Nat) (x1 : Int64) (x3 : Int32) : Prop := ((4 ≤ x3 → ∃ f : Nat, wpL_L_told_59 n P f M x0 x1 0) ∧ (¬ 4 ≤ x3 → m_tp n x0 6 ∧ (wp_X6_setting n M x0 x3 (fun r30 M28 => ∀ v31 : Int64, v31 = ((31 * x1) + ((r30).toInt64)) → (∀ v32 : Int32, v32 = x3 + 1 → (R_ M28 x0 v31 v32))))))
def wpL_L_told_33 (n : Nat) (P : Int64 → Mem → Prop) : Nat → Mem → Nat → Int64 → Int32 → Prop
  | 0 => fun _ _ _ _ => False
  | f + 1 => fun M x0 x1 x3 => wpB_L_told_33 n P (wpL_L_told_33 n P f) M x0 x1 x3
def wpB_L_told_6 (n : Nat) (P : Int64 → Mem → Prop) (R_ : Mem → Nat → Int64 → Int32 → Prop) (M : Mem) (x0 : Nat) (x1 : Int64) (x3 : Int32) : Prop := ((11 ≤ x3 → ∃ f : Nat, wpL_L_told_33 n P f M x0 x1 0) ∧ (¬ 11 ≤ x3 → m_tp n x0 6 ∧ (wp_X6_count n M x0 x3 (fun r35 M33 => ∀ v36 : Int64, v36 = ((31 * x1) + ((r35).toInt64)) → (∀ v37 : Int32, v37 = x3 + 1 → (R_ M33 x0 v36 v37))))))
def wpL_L_told_6 (n : Nat) (P : Int64 → Mem → Prop) : Nat → Mem → Nat → Int64 → Int32 → Prop
  | 0 => fun _ _ _ _ => False
  | f + 1 => fun M x0 x1 x3 => wpB_L_told_6 n P (wpL_L_told_6 n P f) M x0 x1 x3
def wp_L_told (n : Nat) (M : Mem) (p1 : Nat) (P : Int64 → Mem → Prop) : Prop := ∃ f : Nat, wpL_L_told_6 n P f M p1 3 0
abbrev rm_L_told : Room := { frames := 5, cells := 0, slots := 0, locals := 116 }
set_option maxHeartbeats 4000000 in
set_option maxRecDepth 100000 in
theorem c_L_told {l : Launch} {D : va_G} {cA : Nat → ClassId} {b n : Nat} {M : Mem} {p1 : Nat} {P : Int64 → Mem → Prop} (h : wp_L_told n M p1 P) : m_C l D cA b n n M yL_told cL_told 5 (some .long) rm_L_told 0 0 [.ref (b + p1)] (rL P) := by
  refine m_enter (by decide) (Nat.le_of_ble_eq_true rfl) (fun p e s m below meth c C hr hlk hnm hK hP hS ls hl => ?_)
  have hx := C.1
  have hb := C.2.1
  have hl : lv_has ls 5 [(0, .ref (b + p1))] := hl
  have L203 : ∀ K_ : Mem → Nat → Int64 → Int32 → Prop, (∀ (M : Mem) (H : Heap) (locs : List Loc) (ls : Array Slot) (x0 : Nat) (x1 : Int64) (x3 : Int32), K_ M x0 x1 x3 → m_H D cA b n M H → va_S (m_A b) s.heap H locs → lv_has ls 5 [(0, .ref (b + x0)), (1, .long x1), (3, .int x3)] → W p l e rm_L_told s m ([.ref (b + p1)] : List Value).toArray below meth c H locs 0 0 (MQ below (m_Q D cA b n (rL P)) ([.ref (b + p1)] : List Value).toArray s 0 0 (m_A b)) (F0 m 191 ls [])) → ∀ f : Nat, ∀ (M : Mem) (H : Heap) (locs : List Loc) (ls : Array Slot) (x0 : Nat) (x1 : Int64) (x3 : Int32) (x4 : Int32), wpL_L_told_203 n P K_ f M x0 x1 x3 x4 → m_H D cA b n M H → va_S (m_A b) s.heap H locs → lv_has ls 5 [(0, .ref (b + x0)), (1, .long x1), (3, .int x3), (4, .int x4)] → W p l e rm_L_told s m ([.ref (b + p1)] : List Value).toArray below meth c H locs 0 0 (MQ below (m_Q D cA b n (rL P)) ([.ref (b + p1)] : List Value).toArray s 0 0 (m_A b)) (F0 m 203 ls []) := by
    intro K_ hKk
    clear h
    intro f
    induction f with
    | zero => intro M H locs ls x0 x1 x3 x4 h; exact h.elim
    | succ f ih =>
      intro M H locs ls x0 x1 x3 x4 h hP hS hl
      have h : wpB_L_told_203 n P K_ (wpL_L_told_203 n P K_ f) M x0 x1 x3 x4 := h
      unfold wpB_L_told_203 at h
      refine lv_iload (pc := 203) hx hb dL_told_203 (lv_at hl 3 rfl) ?_
      refine lv_bipush (v := 8) (pc := 205) hx hb dL_told_205 (by decide) ?_
      refine lv_icmp_ge (tgt := 231) (pc := 207) hx hb dL_told_207 (by decide) (fun c207 => ?_) (fun c207 => ?_)
      · replace h := h.1 c207
        obtain ⟨v4, ev4⟩ : ∃ y : Int32, y = x3 + 1 := ⟨_, rfl⟩
        replace h := h v4 ev4
        refine lv_iinc (v := v4) (lv' := [(3, .int v4), (0, .ref (b + x0)), (1, .long x1), (4, .int x4)]) (pc := 231) hx hb dL_told_231 hl (k := 2) rfl (by rw [ev4]; rfl) (by decide) rfl (fun ls hl => ?_)
        refine lv_goto (tgt := 191) (pc := 234) hx hb dL_told_234 (by decide) ?_
        exact hKk _ _ _ _ _ _ _ h hP hS (lv_sub hl [1, 2, 0] rfl)
      · replace h := h.2 c207
        refine lv_ldc2 (pc := 210) (v := 31) hx hb C.2.2.2.1 (C.2.2.2.2 _ q_441) dL_told_210 ?_
        refine lv_lload_n (pc := 213) hx hb dL_told_213 rfl (lv_at hl 1 rfl) ?_
        refine lv_lmul (pc := 214) hx hb dL_told_214 ?_
        refine lv_aload_n (pc := 215) hx hb dL_told_215 rfl (lv_at hl 0 rfl) ?_
        refine lv_iload_n (pc := 216) hx hb dL_told_216 rfl (lv_at hl 2 rfl) ?_
        refine lv_iload (pc := 217) hx hb dL_told_217 (lv_at hl 3 rfl) ?_
        obtain ⟨hk6, h⟩ := h
        refine m_callVI (pc := 219) (y := yX6_jobOf) (κ := 6) (As := [.int x3, .int x4]) (rest := [.long (31 * x1)]) C hK hP hS hl.1 ⟨Nat.zero_le _, Nat.zero_le _⟩ (c_X6_jobOf h) rfl rfl hk6 (by decide) rfl q_508 q_509 q_510 q_1 q_511 ⟨rfl, rfl⟩ yd_X6_jobOf ⟨Nat.le_of_ble_eq_true rfl, Nat.le_of_ble_eq_true rfl⟩ (Nat.le_of_ble_eq_true rfl) dL_told_219 (fun r7 M5 H locs h hP hS => ?_)
        refine lv_i2l (pc := 222) hx hb dL_told_222 rfl ?_
        refine lv_ladd (pc := 223) hx hb dL_told_223 ?_
        refine lv_topl (fun v8 ev8 => ?_)
        replace h := h v8 ev8
        refine lv_lstore_n (lv' := [(1, .long v8), (0, .ref (b + x0)), (3, .int x3), (4, .int x4)]) (pc := 224) hx hb dL_told_224 rfl hl (by decide) rfl (fun ls hl => ?_)
        obtain ⟨v9, ev9⟩ : ∃ y : Int32, y = x4 + 1 := ⟨_, rfl⟩
        replace h := h v9 ev9
        refine lv_iinc (v := v9) (lv' := [(4, .int v9), (1, .long v8), (0, .ref (b + x0)), (3, .int x3)]) (pc := 225) hx hb dL_told_225 hl (k := 3) rfl (by rw [ev9]; rfl) (by decide) rfl (fun ls hl => ?_)
        refine lv_goto (tgt := 203) (pc := 228) hx hb dL_told_228 (by decide) ?_
        exact ih _ _ _ _ _ _ _ _ h hP hS (lv_sub hl [2, 1, 3, 0] rfl)
  have L191 : ∀ f : Nat, ∀ (M : Mem) (H : Heap) (locs : List Loc) (ls : Array Slot) (x0 : Nat) (x1 : Int64) (x3 : Int32), wpL_L_told_191 n P f M x0 x1 x3 → m_H D cA b n M H → va_S (m_A b) s.heap H locs → lv_has ls 5 [(0, .ref (b + x0)), (1, .long x1), (3, .int x3)] → W p l e rm_L_told s m ([.ref (b + p1)] : List Value).toArray below meth c H locs 0 0 (MQ below (m_Q D cA b n (rL P)) ([.ref (b + p1)] : List Value).toArray s 0 0 (m_A b)) (F0 m 191 ls []) := by
    clear h
    intro f
    induction f with
    | zero => intro M H locs ls x0 x1 x3 h; exact h.elim
    | succ f ih =>
      intro M H locs ls x0 x1 x3 h hP hS hl
      have h : wpB_L_told_191 n P (wpL_L_told_191 n P f) M x0 x1 x3 := h
      unfold wpB_L_told_191 at h
      refine lv_iload_n (pc := 191) hx hb dL_told_191 rfl (lv_at hl 2 rfl) ?_
      refine lv_aload_n (pc := 192) hx hb dL_told_192 rfl (lv_at hl 0 rfl) ?_
      refine lv_iconst (v := 1) (pc := 193) hx hb dL_told_193 (by decide) ?_
      obtain ⟨hk2, h⟩ := h
      refine m_callVI (pc := 194) (y := yX6_count) (κ := 6) (As := [.int 1]) (rest := [.int x3]) C hK hP hS hl.1 ⟨Nat.zero_le _, Nat.zero_le _⟩ (c_X6_count h) rfl rfl hk2 (by decide) rfl q_383 q_384 q_385 q_1 q_386 ⟨rfl, rfl⟩ yd_X6_count ⟨Nat.le_of_ble_eq_true rfl, Nat.le_of_ble_eq_true rfl⟩ (Nat.le_of_ble_eq_true rfl) dL_told_194 (fun r3 M1 H locs h hP hS => ?_)
      refine lv_icmp_ge (tgt := 237) (pc := 197) hx hb dL_told_197 (by decide) (fun c197 => ?_) (fun c197 => ?_)
      · replace h := h.1 c197
        refine lv_lload_n (pc := 237) hx hb dL_told_237 rfl (lv_at hl 1 rfl) ?_
        exact m_lret (v := x1) (pc := 238) C hr hlk hP hS dL_told_238 h
      · replace h := h.2 c197
        refine lv_iconst (v := 0) (pc := 200) hx hb dL_told_200 (by decide) ?_
        refine lv_istore (lv' := [(4, .int 0), (0, .ref (b + x0)), (1, .long x1), (3, .int x3)]) (pc := 201) hx hb dL_told_201 hl (by decide) rfl (fun ls hl => ?_)
        obtain ⟨f, h⟩ := h
        exact L203 _ ih f _ _ _ _ _ _ _ _ h hP hS (lv_sub hl [1, 2, 3, 0] rfl)
  have L156 : ∀ K_ : Mem → Nat → Int64 → Int32 → Prop, (∀ (M : Mem) (H : Heap) (locs : List Loc) (ls : Array Slot) (x0 : Nat) (x1 : Int64) (x3 : Int32), K_ M x0 x1 x3 → m_H D cA b n M H → va_S (m_A b) s.heap H locs → lv_has ls 5 [(0, .ref (b + x0)), (1, .long x1), (3, .int x3)] → W p l e rm_L_told s m ([.ref (b + p1)] : List Value).toArray below meth c H locs 0 0 (MQ below (m_Q D cA b n (rL P)) ([.ref (b + p1)] : List Value).toArray s 0 0 (m_A b)) (F0 m 147 ls [])) → ∀ f : Nat, ∀ (M : Mem) (H : Heap) (locs : List Loc) (ls : Array Slot) (x0 : Nat) (x1 : Int64) (x3 : Int32) (x4 : Int32), wpL_L_told_156 n P K_ f M x0 x1 x3 x4 → m_H D cA b n M H → va_S (m_A b) s.heap H locs → lv_has ls 5 [(0, .ref (b + x0)), (1, .long x1), (3, .int x3), (4, .int x4)] → W p l e rm_L_told s m ([.ref (b + p1)] : List Value).toArray below meth c H locs 0 0 (MQ below (m_Q D cA b n (rL P)) ([.ref (b + p1)] : List Value).toArray s 0 0 (m_A b)) (F0 m 156 ls []) := by
    intro K_ hKk
    clear h
    intro f
    induction f with
    | zero => intro M H locs ls x0 x1 x3 x4 h; exact h.elim
    | succ f ih =>
      intro M H locs ls x0 x1 x3 x4 h hP hS hl
      have h : wpB_L_told_156 n P K_ (wpL_L_told_156 n P K_ f) M x0 x1 x3 x4 := h
      unfold wpB_L_told_156 at h
      refine lv_iload (pc := 156) hx hb dL_told_156 (lv_at hl 3 rfl) ?_
      refine lv_iconst (v := 4) (pc := 158) hx hb dL_told_158 (by decide) ?_
      refine lv_icmp_ge (tgt := 183) (pc := 159) hx hb dL_told_159 (by decide) (fun c159 => ?_) (fun c159 => ?_)
      · replace h := h.1 c159
        obtain ⟨v10, ev10⟩ : ∃ y : Int32, y = x3 + 1 := ⟨_, rfl⟩
        replace h := h v10 ev10
        refine lv_iinc (v := v10) (lv' := [(3, .int v10), (0, .ref (b + x0)), (1, .long x1), (4, .int x4)]) (pc := 183) hx hb dL_told_183 hl (k := 2) rfl (by rw [ev10]; rfl) (by decide) rfl (fun ls hl => ?_)
        refine lv_goto (tgt := 147) (pc := 186) hx hb dL_told_186 (by decide) ?_
        exact hKk _ _ _ _ _ _ _ h hP hS (lv_sub hl [1, 2, 0] rfl)
      · replace h := h.2 c159
        refine lv_ldc2 (pc := 162) (v := 31) hx hb C.2.2.2.1 (C.2.2.2.2 _ q_441) dL_told_162 ?_
        refine lv_lload_n (pc := 165) hx hb dL_told_165 rfl (lv_at hl 1 rfl) ?_
        refine lv_lmul (pc := 166) hx hb dL_told_166 ?_
        refine lv_aload_n (pc := 167) hx hb dL_told_167 rfl (lv_at hl 0 rfl) ?_
        refine lv_iload_n (pc := 168) hx hb dL_told_168 rfl (lv_at hl 2 rfl) ?_
        refine lv_iload (pc := 169) hx hb dL_told_169 (lv_at hl 3 rfl) ?_
        obtain ⟨hk12, h⟩ := h
        refine m_callVI (pc := 171) (y := yX6_billet) (κ := 6) (As := [.int x3, .int x4]) (rest := [.long (31 * x1)]) C hK hP hS hl.1 ⟨Nat.zero_le _, Nat.zero_le _⟩ (c_X6_billet h) rfl rfl hk12 (by decide) rfl q_498 q_499 q_500 q_1 q_501 ⟨rfl, rfl⟩ yd_X6_billet ⟨Nat.le_of_ble_eq_true rfl, Nat.le_of_ble_eq_true rfl⟩ (Nat.le_of_ble_eq_true rfl) dL_told_171 (fun r13 M11 H locs h hP hS => ?_)
        refine lv_i2l (pc := 174) hx hb dL_told_174 rfl ?_
        refine lv_ladd (pc := 175) hx hb dL_told_175 ?_
        refine lv_topl (fun v14 ev14 => ?_)
        replace h := h v14 ev14
        refine lv_lstore_n (lv' := [(1, .long v14), (0, .ref (b + x0)), (3, .int x3), (4, .int x4)]) (pc := 176) hx hb dL_told_176 rfl hl (by decide) rfl (fun ls hl => ?_)
        obtain ⟨v15, ev15⟩ : ∃ y : Int32, y = x4 + 1 := ⟨_, rfl⟩
        replace h := h v15 ev15
        refine lv_iinc (v := v15) (lv' := [(4, .int v15), (1, .long v14), (0, .ref (b + x0)), (3, .int x3)]) (pc := 177) hx hb dL_told_177 hl (k := 3) rfl (by rw [ev15]; rfl) (by decide) rfl (fun ls hl => ?_)
        refine lv_goto (tgt := 156) (pc := 180) hx hb dL_told_180 (by decide) ?_
        exact ih _ _ _ _ _ _ _ _ h hP hS (lv_sub hl [2, 1, 3, 0] rfl)
  have L147 : ∀ f : Nat, ∀ (M : Mem) (H : Heap) (locs : List Loc) (ls : Array Slot) (x0 : Nat) (x1 : Int64) (x3 : Int32), wpL_L_told_147 n P f M x0 x1 x3 → m_H D cA b n M H → va_S (m_A b) s.heap H locs → lv_has ls 5 [(0, .ref (b + x0)), (1, .long x1), (3, .int x3)] → W p l e rm_L_told s m ([.ref (b + p1)] : List Value).toArray below meth c H locs 0 0 (MQ below (m_Q D cA b n (rL P)) ([.ref (b + p1)] : List Value).toArray s 0 0 (m_A b)) (F0 m 147 ls []) := by
    clear h
    intro f
    induction f with
    | zero => intro M H locs ls x0 x1 x3 h; exact h.elim
    | succ f ih =>
      intro M H locs ls x0 x1 x3 h hP hS hl
      have h : wpB_L_told_147 n P (wpL_L_told_147 n P f) M x0 x1 x3 := h
      unfold wpB_L_told_147 at h
      refine lv_iload_n (pc := 147) hx hb dL_told_147 rfl (lv_at hl 2 rfl) ?_
      refine lv_bipush (v := 7) (pc := 148) hx hb dL_told_148 (by decide) ?_
      refine lv_icmp_ge (tgt := 189) (pc := 150) hx hb dL_told_150 (by decide) (fun c150 => ?_) (fun c150 => ?_)
      · replace h := h.1 c150
        refine lv_iconst (v := 0) (pc := 189) hx hb dL_told_189 (by decide) ?_
        refine lv_istore_n (lv' := [(3, .int 0), (0, .ref (b + x0)), (1, .long x1)]) (pc := 190) hx hb dL_told_190 rfl hl (by decide) rfl (fun ls hl => ?_)
        obtain ⟨f, h⟩ := h
        exact L191 f _ _ _ _ _ _ _ h hP hS (lv_sub hl [1, 2, 0] rfl)
      · replace h := h.2 c150
        refine lv_iconst (v := 0) (pc := 153) hx hb dL_told_153 (by decide) ?_
        refine lv_istore (lv' := [(4, .int 0), (0, .ref (b + x0)), (1, .long x1), (3, .int x3)]) (pc := 154) hx hb dL_told_154 hl (by decide) rfl (fun ls hl => ?_)
        obtain ⟨f, h⟩ := h
        exact L156 _ ih f _ _ _ _ _ _ _ _ h hP hS (lv_sub hl [1, 2, 3, 0] rfl)
  have L111 : ∀ K_ : Mem → Nat → Int64 → Int32 → Prop, (∀ (M : Mem) (H : Heap) (locs : List Loc) (ls : Array Slot) (x0 : Nat) (x1 : Int64) (x3 : Int32), K_ M x0 x1 x3 → m_H D cA b n M H → va_S (m_A b) s.heap H locs → lv_has ls 5 [(0, .ref (b + x0)), (1, .long x1), (3, .int x3)] → W p l e rm_L_told s m ([.ref (b + p1)] : List Value).toArray below meth c H locs 0 0 (MQ below (m_Q D cA b n (rL P)) ([.ref (b + p1)] : List Value).toArray s 0 0 (m_A b)) (F0 m 103 ls [])) → ∀ f : Nat, ∀ (M : Mem) (H : Heap) (locs : List Loc) (ls : Array Slot) (x0 : Nat) (x1 : Int64) (x3 : Int32) (x4 : Int32), wpL_L_told_111 n P K_ f M x0 x1 x3 x4 → m_H D cA b n M H → va_S (m_A b) s.heap H locs → lv_has ls 5 [(0, .ref (b + x0)), (1, .long x1), (3, .int x3), (4, .int x4)] → W p l e rm_L_told s m ([.ref (b + p1)] : List Value).toArray below meth c H locs 0 0 (MQ below (m_Q D cA b n (rL P)) ([.ref (b + p1)] : List Value).toArray s 0 0 (m_A b)) (F0 m 111 ls []) := by
    intro K_ hKk
    clear h
    intro f
    induction f with
    | zero => intro M H locs ls x0 x1 x3 x4 h; exact h.elim
    | succ f ih =>
      intro M H locs ls x0 x1 x3 x4 h hP hS hl
      have h : wpB_L_told_111 n P K_ (wpL_L_told_111 n P K_ f) M x0 x1 x3 x4 := h
      unfold wpB_L_told_111 at h
      refine lv_iload (pc := 111) hx hb dL_told_111 (lv_at hl 3 rfl) ?_
      refine lv_bipush (v := 6) (pc := 113) hx hb dL_told_113 (by decide) ?_
      refine lv_icmp_ge (tgt := 139) (pc := 115) hx hb dL_told_115 (by decide) (fun c115 => ?_) (fun c115 => ?_)
      · replace h := h.1 c115
        obtain ⟨v16, ev16⟩ : ∃ y : Int32, y = x3 + 1 := ⟨_, rfl⟩
        replace h := h v16 ev16
        refine lv_iinc (v := v16) (lv' := [(3, .int v16), (0, .ref (b + x0)), (1, .long x1), (4, .int x4)]) (pc := 139) hx hb dL_told_139 hl (k := 2) rfl (by rw [ev16]; rfl) (by decide) rfl (fun ls hl => ?_)
        refine lv_goto (tgt := 103) (pc := 142) hx hb dL_told_142 (by decide) ?_
        exact hKk _ _ _ _ _ _ _ h hP hS (lv_sub hl [1, 2, 0] rfl)
      · replace h := h.2 c115
        refine lv_ldc2 (pc := 118) (v := 31) hx hb C.2.2.2.1 (C.2.2.2.2 _ q_441) dL_told_118 ?_
        refine lv_lload_n (pc := 121) hx hb dL_told_121 rfl (lv_at hl 1 rfl) ?_
        refine lv_lmul (pc := 122) hx hb dL_told_122 ?_
        refine lv_aload_n (pc := 123) hx hb dL_told_123 rfl (lv_at hl 0 rfl) ?_
        refine lv_iload_n (pc := 124) hx hb dL_told_124 rfl (lv_at hl 2 rfl) ?_
        refine lv_iload (pc := 125) hx hb dL_told_125 (lv_at hl 3 rfl) ?_
        obtain ⟨hk18, h⟩ := h
        refine m_callVI (pc := 127) (y := yX6_dieOf) (κ := 6) (As := [.int x3, .int x4]) (rest := [.long (31 * x1)]) C hK hP hS hl.1 ⟨Nat.zero_le _, Nat.zero_le _⟩ (c_X6_dieOf h) rfl rfl hk18 (by decide) rfl q_488 q_489 q_490 q_1 q_491 ⟨rfl, rfl⟩ yd_X6_dieOf ⟨Nat.le_of_ble_eq_true rfl, Nat.le_of_ble_eq_true rfl⟩ (Nat.le_of_ble_eq_true rfl) dL_told_127 (fun r19 M17 H locs h hP hS => ?_)
        refine lv_i2l (pc := 130) hx hb dL_told_130 rfl ?_
        refine lv_ladd (pc := 131) hx hb dL_told_131 ?_
        refine lv_topl (fun v20 ev20 => ?_)
        replace h := h v20 ev20
        refine lv_lstore_n (lv' := [(1, .long v20), (0, .ref (b + x0)), (3, .int x3), (4, .int x4)]) (pc := 132) hx hb dL_told_132 rfl hl (by decide) rfl (fun ls hl => ?_)
        obtain ⟨v21, ev21⟩ : ∃ y : Int32, y = x4 + 1 := ⟨_, rfl⟩
        replace h := h v21 ev21
        refine lv_iinc (v := v21) (lv' := [(4, .int v21), (1, .long v20), (0, .ref (b + x0)), (3, .int x3)]) (pc := 133) hx hb dL_told_133 hl (k := 3) rfl (by rw [ev21]; rfl) (by decide) rfl (fun ls hl => ?_)
        refine lv_goto (tgt := 111) (pc := 136) hx hb dL_told_136 (by decide) ?_
        exact ih _ _ _ _ _ _ _ _ h hP hS (lv_sub hl [2, 1, 3, 0] rfl)
  have L103 : ∀ f : Nat, ∀ (M : Mem) (H : Heap) (locs : List Loc) (ls : Array Slot) (x0 : Nat) (x1 : Int64) (x3 : Int32), wpL_L_told_103 n P f M x0 x1 x3 → m_H D cA b n M H → va_S (m_A b) s.heap H locs → lv_has ls 5 [(0, .ref (b + x0)), (1, .long x1), (3, .int x3)] → W p l e rm_L_told s m ([.ref (b + p1)] : List Value).toArray below meth c H locs 0 0 (MQ below (m_Q D cA b n (rL P)) ([.ref (b + p1)] : List Value).toArray s 0 0 (m_A b)) (F0 m 103 ls []) := by
    clear h
    intro f
    induction f with
    | zero => intro M H locs ls x0 x1 x3 h; exact h.elim
    | succ f ih =>
      intro M H locs ls x0 x1 x3 h hP hS hl
      have h : wpB_L_told_103 n P (wpL_L_told_103 n P f) M x0 x1 x3 := h
      unfold wpB_L_told_103 at h
      refine lv_iload_n (pc := 103) hx hb dL_told_103 rfl (lv_at hl 2 rfl) ?_
      refine lv_iconst (v := 5) (pc := 104) hx hb dL_told_104 (by decide) ?_
      refine lv_icmp_ge (tgt := 145) (pc := 105) hx hb dL_told_105 (by decide) (fun c105 => ?_) (fun c105 => ?_)
      · replace h := h.1 c105
        refine lv_iconst (v := 0) (pc := 145) hx hb dL_told_145 (by decide) ?_
        refine lv_istore_n (lv' := [(3, .int 0), (0, .ref (b + x0)), (1, .long x1)]) (pc := 146) hx hb dL_told_146 rfl hl (by decide) rfl (fun ls hl => ?_)
        obtain ⟨f, h⟩ := h
        exact L147 f _ _ _ _ _ _ _ h hP hS (lv_sub hl [1, 2, 0] rfl)
      · replace h := h.2 c105
        refine lv_iconst (v := 0) (pc := 108) hx hb dL_told_108 (by decide) ?_
        refine lv_istore (lv' := [(4, .int 0), (0, .ref (b + x0)), (1, .long x1), (3, .int x3)]) (pc := 109) hx hb dL_told_109 hl (by decide) rfl (fun ls hl => ?_)
        obtain ⟨f, h⟩ := h
        exact L111 _ ih f _ _ _ _ _ _ _ _ h hP hS (lv_sub hl [1, 2, 3, 0] rfl)
  have L67 : ∀ K_ : Mem → Nat → Int64 → Int32 → Prop, (∀ (M : Mem) (H : Heap) (locs : List Loc) (ls : Array Slot) (x0 : Nat) (x1 : Int64) (x3 : Int32), K_ M x0 x1 x3 → m_H D cA b n M H → va_S (m_A b) s.heap H locs → lv_has ls 5 [(0, .ref (b + x0)), (1, .long x1), (3, .int x3)] → W p l e rm_L_told s m ([.ref (b + p1)] : List Value).toArray below meth c H locs 0 0 (MQ below (m_Q D cA b n (rL P)) ([.ref (b + p1)] : List Value).toArray s 0 0 (m_A b)) (F0 m 59 ls [])) → ∀ f : Nat, ∀ (M : Mem) (H : Heap) (locs : List Loc) (ls : Array Slot) (x0 : Nat) (x1 : Int64) (x3 : Int32) (x4 : Int32), wpL_L_told_67 n P K_ f M x0 x1 x3 x4 → m_H D cA b n M H → va_S (m_A b) s.heap H locs → lv_has ls 5 [(0, .ref (b + x0)), (1, .long x1), (3, .int x3), (4, .int x4)] → W p l e rm_L_told s m ([.ref (b + p1)] : List Value).toArray below meth c H locs 0 0 (MQ below (m_Q D cA b n (rL P)) ([.ref (b + p1)] : List Value).toArray s 0 0 (m_A b)) (F0 m 67 ls []) := by
    intro K_ hKk
    clear h
    intro f
    induction f with
    | zero => intro M H locs ls x0 x1 x3 x4 h; exact h.elim
    | succ f ih =>
      intro M H locs ls x0 x1 x3 x4 h hP hS hl
      have h : wpB_L_told_67 n P K_ (wpL_L_told_67 n P K_ f) M x0 x1 x3 x4 := h
      unfold wpB_L_told_67 at h
      refine lv_iload (pc := 67) hx hb dL_told_67 (lv_at hl 3 rfl) ?_
      refine lv_bipush (v := 7) (pc := 69) hx hb dL_told_69 (by decide) ?_
      refine lv_icmp_ge (tgt := 95) (pc := 71) hx hb dL_told_71 (by decide) (fun c71 => ?_) (fun c71 => ?_)
      · replace h := h.1 c71
        obtain ⟨v22, ev22⟩ : ∃ y : Int32, y = x3 + 1 := ⟨_, rfl⟩
        replace h := h v22 ev22
        refine lv_iinc (v := v22) (lv' := [(3, .int v22), (0, .ref (b + x0)), (1, .long x1), (4, .int x4)]) (pc := 95) hx hb dL_told_95 hl (k := 2) rfl (by rw [ev22]; rfl) (by decide) rfl (fun ls hl => ?_)
        refine lv_goto (tgt := 59) (pc := 98) hx hb dL_told_98 (by decide) ?_
        exact hKk _ _ _ _ _ _ _ h hP hS (lv_sub hl [1, 2, 0] rfl)
      · replace h := h.2 c71
        refine lv_ldc2 (pc := 74) (v := 31) hx hb C.2.2.2.1 (C.2.2.2.2 _ q_441) dL_told_74 ?_
        refine lv_lload_n (pc := 77) hx hb dL_told_77 rfl (lv_at hl 1 rfl) ?_
        refine lv_lmul (pc := 78) hx hb dL_told_78 ?_
        refine lv_aload_n (pc := 79) hx hb dL_told_79 rfl (lv_at hl 0 rfl) ?_
        refine lv_iload_n (pc := 80) hx hb dL_told_80 rfl (lv_at hl 2 rfl) ?_
        refine lv_iload (pc := 81) hx hb dL_told_81 (lv_at hl 3 rfl) ?_
        obtain ⟨hk24, h⟩ := h
        refine m_callVI (pc := 83) (y := yX6_heat) (κ := 6) (As := [.int x3, .int x4]) (rest := [.long (31 * x1)]) C hK hP hS hl.1 ⟨Nat.zero_le _, Nat.zero_le _⟩ (c_X6_heat h) rfl rfl hk24 (by decide) rfl q_466 q_467 q_468 q_1 q_469 ⟨rfl, rfl⟩ yd_X6_heat ⟨Nat.le_of_ble_eq_true rfl, Nat.le_of_ble_eq_true rfl⟩ (Nat.le_of_ble_eq_true rfl) dL_told_83 (fun r25 M23 H locs h hP hS => ?_)
        refine lv_i2l (pc := 86) hx hb dL_told_86 rfl ?_
        refine lv_ladd (pc := 87) hx hb dL_told_87 ?_
        refine lv_topl (fun v26 ev26 => ?_)
        replace h := h v26 ev26
        refine lv_lstore_n (lv' := [(1, .long v26), (0, .ref (b + x0)), (3, .int x3), (4, .int x4)]) (pc := 88) hx hb dL_told_88 rfl hl (by decide) rfl (fun ls hl => ?_)
        obtain ⟨v27, ev27⟩ : ∃ y : Int32, y = x4 + 1 := ⟨_, rfl⟩
        replace h := h v27 ev27
        refine lv_iinc (v := v27) (lv' := [(4, .int v27), (1, .long v26), (0, .ref (b + x0)), (3, .int x3)]) (pc := 89) hx hb dL_told_89 hl (k := 3) rfl (by rw [ev27]; rfl) (by decide) rfl (fun ls hl => ?_)
        refine lv_goto (tgt := 67) (pc := 92) hx hb dL_told_92 (by decide) ?_
        exact ih _ _ _ _ _ _ _ _ h hP hS (lv_sub hl [2, 1, 3, 0] rfl)
  have L59 : ∀ f : Nat, ∀ (M : Mem) (H : Heap) (locs : List Loc) (ls : Array Slot) (x0 : Nat) (x1 : Int64) (x3 : Int32), wpL_L_told_59 n P f M x0 x1 x3 → m_H D cA b n M H → va_S (m_A b) s.heap H locs → lv_has ls 5 [(0, .ref (b + x0)), (1, .long x1), (3, .int x3)] → W p l e rm_L_told s m ([.ref (b + p1)] : List Value).toArray below meth c H locs 0 0 (MQ below (m_Q D cA b n (rL P)) ([.ref (b + p1)] : List Value).toArray s 0 0 (m_A b)) (F0 m 59 ls []) := by
    clear h
    intro f
    induction f with
    | zero => intro M H locs ls x0 x1 x3 h; exact h.elim
    | succ f ih =>
      intro M H locs ls x0 x1 x3 h hP hS hl
      have h : wpB_L_told_59 n P (wpL_L_told_59 n P f) M x0 x1 x3 := h
      unfold wpB_L_told_59 at h
      refine lv_iload_n (pc := 59) hx hb dL_told_59 rfl (lv_at hl 2 rfl) ?_
      refine lv_iconst (v := 4) (pc := 60) hx hb dL_told_60 (by decide) ?_
      refine lv_icmp_ge (tgt := 101) (pc := 61) hx hb dL_told_61 (by decide) (fun c61 => ?_) (fun c61 => ?_)
      · replace h := h.1 c61
        refine lv_iconst (v := 0) (pc := 101) hx hb dL_told_101 (by decide) ?_
        refine lv_istore_n (lv' := [(3, .int 0), (0, .ref (b + x0)), (1, .long x1)]) (pc := 102) hx hb dL_told_102 rfl hl (by decide) rfl (fun ls hl => ?_)
        obtain ⟨f, h⟩ := h
        exact L103 f _ _ _ _ _ _ _ h hP hS (lv_sub hl [1, 2, 0] rfl)
      · replace h := h.2 c61
        refine lv_iconst (v := 0) (pc := 64) hx hb dL_told_64 (by decide) ?_
        refine lv_istore (lv' := [(4, .int 0), (0, .ref (b + x0)), (1, .long x1), (3, .int x3)]) (pc := 65) hx hb dL_told_65 hl (by decide) rfl (fun ls hl => ?_)
        obtain ⟨f, h⟩ := h
        exact L67 _ ih f _ _ _ _ _ _ _ _ h hP hS (lv_sub hl [1, 2, 3, 0] rfl)
  have L33 : ∀ f : Nat, ∀ (M : Mem) (H : Heap) (locs : List Loc) (ls : Array Slot) (x0 : Nat) (x1 : Int64) (x3 : Int32), wpL_L_told_33 n P f M x0 x1 x3 → m_H D cA b n M H → va_S (m_A b) s.heap H locs → lv_has ls 5 [(0, .ref (b + x0)), (1, .long x1), (3, .int x3)] → W p l e rm_L_told s m ([.ref (b + p1)] : List Value).toArray below meth c H locs 0 0 (MQ below (m_Q D cA b n (rL P)) ([.ref (b + p1)] : List Value).toArray s 0 0 (m_A b)) (F0 m 33 ls []) := by
    clear h
    intro f
    induction f with
    | zero => intro M H locs ls x0 x1 x3 h; exact h.elim
    | succ f ih =>
      intro M H locs ls x0 x1 x3 h hP hS hl
      have h : wpB_L_told_33 n P (wpL_L_told_33 n P f) M x0 x1 x3 := h
      unfold wpB_L_told_33 at h
      refine lv_iload_n (pc := 33) hx hb dL_told_33 rfl (lv_at hl 2 rfl) ?_
      refine lv_iconst (v := 4) (pc := 34) hx hb dL_told_34 (by decide) ?_
      refine lv_icmp_ge (tgt := 57) (pc := 35) hx hb dL_told_35 (by decide) (fun c35 => ?_) (fun c35 => ?_)
      · replace h := h.1 c35
        refine lv_iconst (v := 0) (pc := 57) hx hb dL_told_57 (by decide) ?_
        refine lv_istore_n (lv' := [(3, .int 0), (0, .ref (b + x0)), (1, .long x1)]) (pc := 58) hx hb dL_told_58 rfl hl (by decide) rfl (fun ls hl => ?_)
        obtain ⟨f, h⟩ := h
        exact L59 f _ _ _ _ _ _ _ h hP hS (lv_sub hl [1, 2, 0] rfl)
      · replace h := h.2 c35
        refine lv_ldc2 (pc := 38) (v := 31) hx hb C.2.2.2.1 (C.2.2.2.2 _ q_441) dL_told_38 ?_
        refine lv_lload_n (pc := 41) hx hb dL_told_41 rfl (lv_at hl 1 rfl) ?_
        refine lv_lmul (pc := 42) hx hb dL_told_42 ?_
        refine lv_aload_n (pc := 43) hx hb dL_told_43 rfl (lv_at hl 0 rfl) ?_
        refine lv_iload_n (pc := 44) hx hb dL_told_44 rfl (lv_at hl 2 rfl) ?_
        obtain ⟨hk29, h⟩ := h
        refine m_callVI (pc := 45) (y := yX6_setting) (κ := 6) (As := [.int x3]) (rest := [.long (31 * x1)]) C hK hP hS hl.1 ⟨Nat.zero_le _, Nat.zero_le _⟩ (c_X6_setting h) rfl rfl hk29 (by decide) rfl q_442 q_443 q_444 q_1 q_445 ⟨rfl, rfl⟩ yd_X6_setting ⟨Nat.le_of_ble_eq_true rfl, Nat.le_of_ble_eq_true rfl⟩ (Nat.le_of_ble_eq_true rfl) dL_told_45 (fun r30 M28 H locs h hP hS => ?_)
        refine lv_i2l (pc := 48) hx hb dL_told_48 rfl ?_
        refine lv_ladd (pc := 49) hx hb dL_told_49 ?_
        refine lv_topl (fun v31 ev31 => ?_)
        replace h := h v31 ev31
        refine lv_lstore_n (lv' := [(1, .long v31), (0, .ref (b + x0)), (3, .int x3)]) (pc := 50) hx hb dL_told_50 rfl hl (by decide) rfl (fun ls hl => ?_)
        obtain ⟨v32, ev32⟩ : ∃ y : Int32, y = x3 + 1 := ⟨_, rfl⟩
        replace h := h v32 ev32
        refine lv_iinc (v := v32) (lv' := [(3, .int v32), (1, .long v31), (0, .ref (b + x0))]) (pc := 51) hx hb dL_told_51 hl (k := 2) rfl (by rw [ev32]; rfl) (by decide) rfl (fun ls hl => ?_)
        refine lv_goto (tgt := 33) (pc := 54) hx hb dL_told_54 (by decide) ?_
        exact ih _ _ _ _ _ _ _ h hP hS (lv_sub hl [2, 1, 0] rfl)
  have L6 : ∀ f : Nat, ∀ (M : Mem) (H : Heap) (locs : List Loc) (ls : Array Slot) (x0 : Nat) (x1 : Int64) (x3 : Int32), wpL_L_told_6 n P f M x0 x1 x3 → m_H D cA b n M H → va_S (m_A b) s.heap H locs → lv_has ls 5 [(0, .ref (b + x0)), (1, .long x1), (3, .int x3)] → W p l e rm_L_told s m ([.ref (b + p1)] : List Value).toArray below meth c H locs 0 0 (MQ below (m_Q D cA b n (rL P)) ([.ref (b + p1)] : List Value).toArray s 0 0 (m_A b)) (F0 m 6 ls []) := by
    clear h
    intro f
    induction f with
    | zero => intro M H locs ls x0 x1 x3 h; exact h.elim
    | succ f ih =>
      intro M H locs ls x0 x1 x3 h hP hS hl
      have h : wpB_L_told_6 n P (wpL_L_told_6 n P f) M x0 x1 x3 := h
      unfold wpB_L_told_6 at h
      refine lv_iload_n (pc := 6) hx hb dL_told_6 rfl (lv_at hl 2 rfl) ?_
      refine lv_bipush (v := 11) (pc := 7) hx hb dL_told_7 (by decide) ?_
      refine lv_icmp_ge (tgt := 31) (pc := 9) hx hb dL_told_9 (by decide) (fun c9 => ?_) (fun c9 => ?_)
      · replace h := h.1 c9
        refine lv_iconst (v := 0) (pc := 31) hx hb dL_told_31 (by decide) ?_
        refine lv_istore_n (lv' := [(3, .int 0), (0, .ref (b + x0)), (1, .long x1)]) (pc := 32) hx hb dL_told_32 rfl hl (by decide) rfl (fun ls hl => ?_)
        obtain ⟨f, h⟩ := h
        exact L33 f _ _ _ _ _ _ _ h hP hS (lv_sub hl [1, 2, 0] rfl)
      · replace h := h.2 c9
        refine lv_ldc2 (pc := 12) (v := 31) hx hb C.2.2.2.1 (C.2.2.2.2 _ q_441) dL_told_12 ?_
        refine lv_lload_n (pc := 15) hx hb dL_told_15 rfl (lv_at hl 1 rfl) ?_
        refine lv_lmul (pc := 16) hx hb dL_told_16 ?_
        refine lv_aload_n (pc := 17) hx hb dL_told_17 rfl (lv_at hl 0 rfl) ?_
        refine lv_iload_n (pc := 18) hx hb dL_told_18 rfl (lv_at hl 2 rfl) ?_
        obtain ⟨hk34, h⟩ := h
        refine m_callVI (pc := 19) (y := yX6_count) (κ := 6) (As := [.int x3]) (rest := [.long (31 * x1)]) C hK hP hS hl.1 ⟨Nat.zero_le _, Nat.zero_le _⟩ (c_X6_count h) rfl rfl hk34 (by decide) rfl q_383 q_384 q_385 q_1 q_386 ⟨rfl, rfl⟩ yd_X6_count ⟨Nat.le_of_ble_eq_true rfl, Nat.le_of_ble_eq_true rfl⟩ (Nat.le_of_ble_eq_true rfl) dL_told_19 (fun r35 M33 H locs h hP hS => ?_)
        refine lv_i2l (pc := 22) hx hb dL_told_22 rfl ?_
        refine lv_ladd (pc := 23) hx hb dL_told_23 ?_
        refine lv_topl (fun v36 ev36 => ?_)
        replace h := h v36 ev36
        refine lv_lstore_n (lv' := [(1, .long v36), (0, .ref (b + x0)), (3, .int x3)]) (pc := 24) hx hb dL_told_24 rfl hl (by decide) rfl (fun ls hl => ?_)
        obtain ⟨v37, ev37⟩ : ∃ y : Int32, y = x3 + 1 := ⟨_, rfl⟩
        replace h := h v37 ev37
        refine lv_iinc (v := v37) (lv' := [(3, .int v37), (1, .long v36), (0, .ref (b + x0))]) (pc := 25) hx hb dL_told_25 hl (k := 2) rfl (by rw [ev37]; rfl) (by decide) rfl (fun ls hl => ?_)
        refine lv_goto (tgt := 6) (pc := 28) hx hb dL_told_28 (by decide) ?_
        exact ih _ _ _ _ _ _ _ h hP hS (lv_sub hl [2, 1, 0] rfl)
  unfold wp_L_told at h
  refine lv_ldc2 (pc := 0) (v := 3) hx hb C.2.2.2.1 (C.2.2.2.2 _ q_440) dL_told_0 ?_
  refine lv_lstore_n (lv' := [(1, .long 3), (0, .ref (b + p1))]) (pc := 3) hx hb dL_told_3 rfl hl (by decide) rfl (fun ls hl => ?_)
  refine lv_iconst (v := 0) (pc := 4) hx hb dL_told_4 (by decide) ?_
  refine lv_istore_n (lv' := [(3, .int 0), (1, .long 3), (0, .ref (b + p1))]) (pc := 5) hx hb dL_told_5 rfl hl (by decide) rfl (fun ls hl => ?_)
  obtain ⟨f, h⟩ := h
  exact L6 f _ _ _ _ _ _ _ h hP hS (lv_sub hl [2, 1, 0] rfl)
/-! ForgeHeatsLaw.acts (LForgeHeats;II)I -/
def wp_L_acts (n : Nat) (M : Mem) (p1 : Nat) (p2 : Int32) (p3 : Int32) (P : Int32 → Mem → Prop) : Prop := ∀ v1 : Int32, v1 = ((p2 >>> (4 &&& 31)) &&& 3) → (wp_L_low n M (p2 >>> (6 &&& 31)) 5 (fun r3 M2 => m_tp n p1 6 ∧ (wp_X6_count n M2 p1 1 (fun r6 M4 => ((¬ r6 = 0 → wp_L_low n M4 (p2 >>> (9 &&& 31)) r6 (fun r8 M7 => wp_X6_jobOf n M7 p1 r8 0 (fun r10 M9 => (((p2 &&& 15) = 0 → wp_L_low n M9 p3 40 (fun r12 M11 => ∀ v13 : Int32, v13 = (1 + r12) → (wp_X6_heat n M11 p1 v1 0 (fun r15 M14 => (((r15 + v13) ≤ 200 → wp_X6_stock n M14 p1 v1 v13 (fun r17 M16 => P ((100 * v1) + v13) M16)) ∧ (¬ (r15 + v13) ≤ 200 → P (-1) M14)))))) ∧ (¬ (p2 &&& 15) = 0 → (((p2 &&& 15) = 1 → wp_L_low n M9 p3 40 (fun r19 M18 => ∀ v20 : Int32, v20 = (1 + r19) → (wp_X6_heat n M18 p1 v1 0 (fun r22 M21 => (((r22 + v20) ≤ 200 → wp_X6_stock n M21 p1 v1 v20 (fun r24 M23 => P ((100 * v1) + v20) M23)) ∧ (¬ (r22 + v20) ≤ 200 → P (-1) M21)))))) ∧ (¬ (p2 &&& 15) = 1 → (((p2 &&& 15) = 2 → wp_L_low n M9 p3 641 (fun r26 M25 => ∀ v27 : Int32, v27 = (600 + r26) → (wp_L_low n M25 (p3 >>> (10 &&& 31)) (1241 - v27) (fun r29 M28 => wp_X6_range n M28 p1 v1 v27 (v27 + r29) (fun r31 M30 => P 0 M30))))) ∧ (¬ (p2 &&& 15) = 2 → (((p2 &&& 15) = 3 → wp_X6_dieOf n M9 p1 r3 3 (fun r33 M32 => ((r33 ≤ 0 → wp_L_low n M32 p3 9 (fun r35 M34 => wp_L_low n M34 (p3 >>> (4 &&& 31)) 40 (fun r37 M36 => wp_X6_die n M36 p1 r3 (1 + r35) (10 + r37) (fun r39 M38 => P 0 M38)))) ∧ (¬ r33 ≤ 0 → P (-1) M32)))) ∧ (¬ (p2 &&& 15) = 3 → (((p2 &&& 15) = 4 → wp_X6_count n M9 p1 10 (fun r41 M40 => ((r41 < 0 → wp_X6_grind n M40 p1 r3 (fun r43 M42 => P 0 M42)) ∧ (¬ r41 < 0 → P (-1) M40)))) ∧ (¬ (p2 &&& 15) = 4 → (((p2 &&& 15) = 5 → ∀ v44 : Int32, v44 = (p3 &&& 3) → (((¬ v44 = 0 → ((¬ v44 = 1 → ((¬ v44 = 2 → wp_L_low n M9 (p3 >>> (2 &&& 31)) 30 (fun r46 M45 => wp_X6_set n M45 p1 v44 (1 + r46) (fun r48 M47 => P 0 M47))) ∧ (v44 = 2 → wp_X6_set n M9 p1 v44 ((p3 >>> (2 &&& 31)) &&& 3) (fun r50 M49 => P 0 M49)))) ∧ (v44 = 1 → wp_L_low n M9 (p3 >>> (2 &&& 31)) 200 (fun r52 M51 => wp_X6_set n M51 p1 v44 (1 + r52) (fun r54 M53 => P 0 M53))))) ∧ (v44 = 0 → wp_L_low n M9 (p3 >>> (2 &&& 31)) 291 (fun r56 M55 => wp_X6_set n M55 p1 v44 (10 + r56) (fun r58 M57 => P 0 M57)))))) ∧ (¬ (p2 &&& 15) = 5 → (((p2 &&& 15) = 6 → ((¬ r6 = 0 → wp_X6_cancel n M9 p1 r10 (fun r60 M59 => P 0 M59)) ∧ (r6 = 0 → P (-1) M9))) ∧ (¬ (p2 &&& 15) = 6 → (((p2 &&& 15) = 7 → ((¬ r6 = 0 → wp_X6_rush n M9 p1 r10 (if ¬ (p3 &&& 1) = 0 then false else true) (fun r62 M61 => P 0 M61)) ∧ (r6 = 0 → P (-1) M9))) ∧ (¬ (p2 &&& 15) = 7 → (((p2 &&& 15) = 8 → ((¬ r6 = 10 → wp_L_low n M9 p3 6 (fun r64 M63 => wp_L_low n M63 (p3 >>> (3 &&& 31)) 400 (fun r66 M65 => wp_X6_job n M65 p1 r3 v1 (1 + r64) r66 (if ¬ ((p3 >>> (12 &&& 31)) &&& 3) = 0 then false else true) (fun r68 M67 => P 0 M67)))) ∧ (r6 = 10 → P (-1) M9))) ∧ (¬ (p2 &&& 15) = 8 → (((p2 &&& 15) = 9 → ((¬ r6 = 10 → wp_L_low n M9 p3 6 (fun r70 M69 => wp_L_low n M69 (p3 >>> (3 &&& 31)) 400 (fun r72 M71 => wp_X6_job n M71 p1 r3 v1 (1 + r70) r72 (if ¬ ((p3 >>> (12 &&& 31)) &&& 3) = 0 then false else true) (fun r74 M73 => P 0 M73)))) ∧ (r6 = 10 → P (-1) M9))) ∧ (¬ (p2 &&& 15) = 9 → (((p2 &&& 15) = 10 → ((¬ r6 = 10 → wp_L_low n M9 p3 6 (fun r76 M75 => wp_L_low n M75 (p3 >>> (3 &&& 31)) 400 (fun r78 M77 => wp_X6_job n M77 p1 r3 v1 (1 + r76) r78 (if ¬ ((p3 >>> (12 &&& 31)) &&& 3) = 0 then false else true) (fun r80 M79 => P 0 M79)))) ∧ (r6 = 10 → P (-1) M9))) ∧ (¬ (p2 &&& 15) = 10 → wp_L_low n M9 p3 (if ¬ ((p3 >>> (7 &&& 31)) &&& 3) = 0 then 6 else 60) (fun r82 M81 => wp_X6_pass n M81 p1 (1 + r82) (fun r84 M83 => P 0 M83))))))))))))))))))))))))))) ∧ (r6 = 0 → (((p2 &&& 15) = 0 → wp_L_low n M4 p3 40 (fun r86 M85 => ∀ v87 : Int32, v87 = (1 + r86) → (wp_X6_heat n M85 p1 v1 0 (fun r89 M88 => (((r89 + v87) ≤ 200 → wp_X6_stock n M88 p1 v1 v87 (fun r91 M90 => P ((100 * v1) + v87) M90)) ∧ (¬ (r89 + v87) ≤ 200 → P (-1) M88)))))) ∧ (¬ (p2 &&& 15) = 0 → (((p2 &&& 15) = 1 → wp_L_low n M4 p3 40 (fun r93 M92 => ∀ v94 : Int32, v94 = (1 + r93) → (wp_X6_heat n M92 p1 v1 0 (fun r96 M95 => (((r96 + v94) ≤ 200 → wp_X6_stock n M95 p1 v1 v94 (fun r98 M97 => P ((100 * v1) + v94) M97)) ∧ (¬ (r96 + v94) ≤ 200 → P (-1) M95)))))) ∧ (¬ (p2 &&& 15) = 1 → (((p2 &&& 15) = 2 → wp_L_low n M4 p3 641 (fun r100 M99 => ∀ v101 : Int32, v101 = (600 + r100) → (wp_L_low n M99 (p3 >>> (10 &&& 31)) (1241 - v101) (fun r103 M102 => wp_X6_range n M102 p1 v1 v101 (v101 + r103) (fun r105 M104 => P 0 M104))))) ∧ (¬ (p2 &&& 15) = 2 → (((p2 &&& 15) = 3 → wp_X6_dieOf n M4 p1 r3 3 (fun r107 M106 => ((r107 ≤ 0 → wp_L_low n M106 p3 9 (fun r109 M108 => wp_L_low n M108 (p3 >>> (4 &&& 31)) 40 (fun r111 M110 => wp_X6_die n M110 p1 r3 (1 + r109) (10 + r111) (fun r113 M112 => P 0 M112)))) ∧ (¬ r107 ≤ 0 → P (-1) M106)))) ∧ (¬ (p2 &&& 15) = 3 → (((p2 &&& 15) = 4 → wp_X6_count n M4 p1 10 (fun r115 M114 => ((r115 < 0 → wp_X6_grind n M114 p1 r3 (fun r117 M116 => P 0 M116)) ∧ (¬ r115 < 0 → P (-1) M114)))) ∧ (¬ (p2 &&& 15) = 4 → (((p2 &&& 15) = 5 → ∀ v118 : Int32, v118 = (p3 &&& 3) → (((¬ v118 = 0 → ((¬ v118 = 1 → ((¬ v118 = 2 → wp_L_low n M4 (p3 >>> (2 &&& 31)) 30 (fun r120 M119 => wp_X6_set n M119 p1 v118 (1 + r120) (fun r122 M121 => P 0 M121))) ∧ (v118 = 2 → wp_X6_set n M4 p1 v118 ((p3 >>> (2 &&& 31)) &&& 3) (fun r124 M123 => P 0 M123)))) ∧ (v118 = 1 → wp_L_low n M4 (p3 >>> (2 &&& 31)) 200 (fun r126 M125 => wp_X6_set n M125 p1 v118 (1 + r126) (fun r128 M127 => P 0 M127))))) ∧ (v118 = 0 → wp_L_low n M4 (p3 >>> (2 &&& 31)) 291 (fun r130 M129 => wp_X6_set n M129 p1 v118 (10 + r130) (fun r132 M131 => P 0 M131)))))) ∧ (¬ (p2 &&& 15) = 5 → (((p2 &&& 15) = 6 → ((¬ r6 = 0 → wp_X6_cancel n M4 p1 (-1) (fun r134 M133 => P 0 M133)) ∧ (r6 = 0 → P (-1) M4))) ∧ (¬ (p2 &&& 15) = 6 → (((p2 &&& 15) = 7 → ((¬ r6 = 0 → wp_X6_rush n M4 p1 (-1) (if ¬ (p3 &&& 1) = 0 then false else true) (fun r136 M135 => P 0 M135)) ∧ (r6 = 0 → P (-1) M4))) ∧ (¬ (p2 &&& 15) = 7 → (((p2 &&& 15) = 8 → ((¬ r6 = 10 → wp_L_low n M4 p3 6 (fun r138 M137 => wp_L_low n M137 (p3 >>> (3 &&& 31)) 400 (fun r140 M139 => wp_X6_job n M139 p1 r3 v1 (1 + r138) r140 (if ¬ ((p3 >>> (12 &&& 31)) &&& 3) = 0 then false else true) (fun r142 M141 => P 0 M141)))) ∧ (r6 = 10 → P (-1) M4))) ∧ (¬ (p2 &&& 15) = 8 → (((p2 &&& 15) = 9 → ((¬ r6 = 10 → wp_L_low n M4 p3 6 (fun r144 M143 => wp_L_low n M143 (p3 >>> (3 &&& 31)) 400 (fun r146 M145 => wp_X6_job n M145 p1 r3 v1 (1 + r144) r146 (if ¬ ((p3 >>> (12 &&& 31)) &&& 3) = 0 then false else true) (fun r148 M147 => P 0 M147)))) ∧ (r6 = 10 → P (-1) M4))) ∧ (¬ (p2 &&& 15) = 9 → (((p2 &&& 15) = 10 → ((¬ r6 = 10 → wp_L_low n M4 p3 6 (fun r150 M149 => wp_L_low n M149 (p3 >>> (3 &&& 31)) 400 (fun r152 M151 => wp_X6_job n M151 p1 r3 v1 (1 + r150) r152 (if ¬ ((p3 >>> (12 &&& 31)) &&& 3) = 0 then false else true) (fun r154 M153 => P 0 M153)))) ∧ (r6 = 10 → P (-1) M4))) ∧ (¬ (p2 &&& 15) = 10 → wp_L_low n M4 p3 (if ¬ ((p3 >>> (7 &&& 31)) &&& 3) = 0 then 6 else 60) (fun r156 M155 => wp_X6_pass n M155 p1 (1 + r156) (fun r158 M157 => P 0 M157))))))))))))))))))))))))))))))
abbrev rm_L_acts : Room := { frames := 6, cells := 0, slots := 0, locals := 136 }
set_option maxHeartbeats 4000000 in
set_option maxRecDepth 100000 in
theorem c_L_acts {l : Launch} {D : va_G} {cA : Nat → ClassId} {b n : Nat} {M : Mem} {p1 : Nat} {p2 : Int32} {p3 : Int32} {P : Int32 → Mem → Prop} (h : wp_L_acts n M p1 p2 p3 P) : m_C l D cA b n n M yL_acts cL_acts 10 (some .int) rm_L_acts 0 0 [.ref (b + p1), .int p2, .int p3] (rI P) := by
  refine m_enter (by decide) (Nat.le_of_ble_eq_true rfl) (fun p e s m below meth c C hr hlk hnm hK hP hS ls hl => ?_)
  have hx := C.1
  have hb := C.2.1
  have hl : lv_has ls 10 [(0, .ref (b + p1)), (1, .int p2), (2, .int p3)] := hl
  unfold wp_L_acts at h
  refine lv_iload_n (pc := 0) hx hb dL_acts_0 rfl (lv_at hl 1 rfl) ?_
  refine lv_iconst (v := 4) (pc := 1) hx hb dL_acts_1 (by decide) ?_
  refine lv_ishr (pc := 2) hx hb dL_acts_2 ?_
  refine lv_iconst (v := 3) (pc := 3) hx hb dL_acts_3 (by decide) ?_
  refine lv_iand (pc := 4) hx hb dL_acts_4 ?_
  refine lv_topi (fun v1 ev1 => ?_)
  replace h := h v1 ev1
  refine lv_istore_n (lv' := [(3, .int v1), (0, .ref (b + p1)), (1, .int p2), (2, .int p3)]) (pc := 5) hx hb dL_acts_5 rfl hl (by decide) rfl (fun ls hl => ?_)
  refine lv_iload_n (pc := 6) hx hb dL_acts_6 rfl (lv_at hl 2 rfl) ?_
  refine lv_bipush (v := 6) (pc := 7) hx hb dL_acts_7 (by decide) ?_
  refine lv_ishr (pc := 9) hx hb dL_acts_9 ?_
  refine lv_iconst (v := 5) (pc := 10) hx hb dL_acts_10 (by decide) ?_
  refine m_callSI (pc := 11) (y := yL_low) (As := [.int (p2 >>> (6 &&& 31)), .int 5]) (rest := []) C hK hP hS hl.1 ⟨Nat.zero_le _, Nat.zero_le _⟩ (c_L_low h) rfl rfl q_532 q_533 q_0 q_534 ⟨rfl, rfl⟩ yd_L_low ⟨Nat.le_of_ble_eq_true rfl, Nat.le_of_ble_eq_true rfl⟩ (Nat.le_of_ble_eq_true rfl) dL_acts_11 (fun r3 M2 H locs h hP hS => ?_)
  refine lv_istore (lv' := [(4, .int r3), (3, .int v1), (0, .ref (b + p1)), (1, .int p2), (2, .int p3)]) (pc := 14) hx hb dL_acts_14 hl (by decide) rfl (fun ls hl => ?_)
  refine lv_aload_n (pc := 16) hx hb dL_acts_16 rfl (lv_at hl 2 rfl) ?_
  refine lv_iconst (v := 1) (pc := 17) hx hb dL_acts_17 (by decide) ?_
  obtain ⟨hk5, h⟩ := h
  refine m_callVI (pc := 18) (y := yX6_count) (κ := 6) (As := [.int 1]) (rest := []) C hK hP hS hl.1 ⟨Nat.zero_le _, Nat.zero_le _⟩ (c_X6_count h) rfl rfl hk5 (by decide) rfl q_383 q_384 q_385 q_1 q_386 ⟨rfl, rfl⟩ yd_X6_count ⟨Nat.le_of_ble_eq_true rfl, Nat.le_of_ble_eq_true rfl⟩ (Nat.le_of_ble_eq_true rfl) dL_acts_18 (fun r6 M4 H locs h hP hS => ?_)
  refine lv_istore (lv' := [(5, .int r6), (4, .int r3), (3, .int v1), (0, .ref (b + p1)), (1, .int p2), (2, .int p3)]) (pc := 21) hx hb dL_acts_21 hl (by decide) rfl (fun ls hl => ?_)
  refine lv_iload (pc := 23) hx hb dL_acts_23 (lv_at hl 0 rfl) ?_
  refine lv_if_ne (tgt := 32) (pc := 25) hx hb dL_acts_25 (by decide) (fun c25 => ?_) (fun c25 => ?_)
  · replace h := h.1 c25
    refine lv_aload_n (pc := 32) hx hb dL_acts_32 rfl (lv_at hl 3 rfl) ?_
    refine lv_iload_n (pc := 33) hx hb dL_acts_33 rfl (lv_at hl 4 rfl) ?_
    refine lv_bipush (v := 9) (pc := 34) hx hb dL_acts_34 (by decide) ?_
    refine lv_ishr (pc := 36) hx hb dL_acts_36 ?_
    refine lv_iload (pc := 37) hx hb dL_acts_37 (lv_at hl 0 rfl) ?_
    refine m_callSI (pc := 39) (y := yL_low) (As := [.int (p2 >>> (9 &&& 31)), .int r6]) (rest := [.ref (b + p1)]) C hK hP hS hl.1 ⟨Nat.zero_le _, Nat.zero_le _⟩ (c_L_low h) rfl rfl q_532 q_533 q_0 q_534 ⟨rfl, rfl⟩ yd_L_low ⟨Nat.le_of_ble_eq_true rfl, Nat.le_of_ble_eq_true rfl⟩ (Nat.le_of_ble_eq_true rfl) dL_acts_39 (fun r8 M7 H locs h hP hS => ?_)
    refine lv_iconst (v := 0) (pc := 42) hx hb dL_acts_42 (by decide) ?_
    refine m_callVI (pc := 43) (y := yX6_jobOf) (κ := 6) (As := [.int r8, .int 0]) (rest := []) C hK hP hS hl.1 ⟨Nat.zero_le _, Nat.zero_le _⟩ (c_X6_jobOf h) rfl rfl hk5 (by decide) rfl q_508 q_509 q_510 q_1 q_511 ⟨rfl, rfl⟩ yd_X6_jobOf ⟨Nat.le_of_ble_eq_true rfl, Nat.le_of_ble_eq_true rfl⟩ (Nat.le_of_ble_eq_true rfl) dL_acts_43 (fun r10 M9 H locs h hP hS => ?_)
    refine lv_istore (lv' := [(6, .int r10), (5, .int r6), (4, .int r3), (3, .int v1), (0, .ref (b + p1)), (1, .int p2), (2, .int p3)]) (pc := 46) hx hb dL_acts_46 hl (by decide) rfl (fun ls hl => ?_)
    refine lv_iload_n (pc := 48) hx hb dL_acts_48 rfl (lv_at hl 5 rfl) ?_
    refine lv_bipush (v := 15) (pc := 49) hx hb dL_acts_49 (by decide) ?_
    refine lv_iand (pc := 51) hx hb dL_acts_51 ?_
    by_cases n52_0 : (p2 &&& 15) = 0
    · replace h := h.1 n52_0
      refine m_case (v := 0) (off := 60) (tgt := 112) (pc := 52) hx hb n52_0 dL_acts_52 (by decide) (by decide) (by decide) (by decide) ?_
      refine lv_iconst (v := 1) (pc := 112) hx hb dL_acts_112 (by decide) ?_
      refine lv_iload_n (pc := 113) hx hb dL_acts_113 rfl (lv_at hl 6 rfl) ?_
      refine lv_bipush (v := 40) (pc := 114) hx hb dL_acts_114 (by decide) ?_
      refine m_callSI (pc := 116) (y := yL_low) (As := [.int p3, .int 40]) (rest := [.int 1]) C hK hP hS hl.1 ⟨Nat.zero_le _, Nat.zero_le _⟩ (c_L_low h) rfl rfl q_532 q_533 q_0 q_534 ⟨rfl, rfl⟩ yd_L_low ⟨Nat.le_of_ble_eq_true rfl, Nat.le_of_ble_eq_true rfl⟩ (Nat.le_of_ble_eq_true rfl) dL_acts_116 (fun r12 M11 H locs h hP hS => ?_)
      refine lv_iadd (pc := 119) hx hb dL_acts_119 ?_
      refine lv_topi (fun v13 ev13 => ?_)
      replace h := h v13 ev13
      refine lv_istore (lv' := [(7, .int v13), (6, .int r10), (5, .int r6), (4, .int r3), (3, .int v1), (0, .ref (b + p1)), (1, .int p2), (2, .int p3)]) (pc := 120) hx hb dL_acts_120 hl (by decide) rfl (fun ls hl => ?_)
      refine lv_aload_n (pc := 122) hx hb dL_acts_122 rfl (lv_at hl 5 rfl) ?_
      refine lv_iload_n (pc := 123) hx hb dL_acts_123 rfl (lv_at hl 4 rfl) ?_
      refine lv_iconst (v := 0) (pc := 124) hx hb dL_acts_124 (by decide) ?_
      refine m_callVI (pc := 125) (y := yX6_heat) (κ := 6) (As := [.int v1, .int 0]) (rest := []) C hK hP hS hl.1 ⟨Nat.zero_le _, Nat.zero_le _⟩ (c_X6_heat h) rfl rfl hk5 (by decide) rfl q_466 q_467 q_468 q_1 q_469 ⟨rfl, rfl⟩ yd_X6_heat ⟨Nat.le_of_ble_eq_true rfl, Nat.le_of_ble_eq_true rfl⟩ (Nat.le_of_ble_eq_true rfl) dL_acts_125 (fun r15 M14 H locs h hP hS => ?_)
      refine lv_iload (pc := 128) hx hb dL_acts_128 (lv_at hl 0 rfl) ?_
      refine lv_iadd (pc := 130) hx hb dL_acts_130 ?_
      refine lv_sipush (v := 200) (pc := 131) hx hb dL_acts_131 (by decide) ?_
      refine lv_icmp_le (tgt := 139) (pc := 134) hx hb dL_acts_134 (by decide) (fun c134 => ?_) (fun c134 => ?_)
      · replace h := h.1 c134
        refine lv_aload_n (pc := 139) hx hb dL_acts_139 rfl (lv_at hl 5 rfl) ?_
        refine lv_iload_n (pc := 140) hx hb dL_acts_140 rfl (lv_at hl 4 rfl) ?_
        refine lv_iload (pc := 141) hx hb dL_acts_141 (lv_at hl 0 rfl) ?_
        refine m_callVI (pc := 143) (y := yX6_stock) (κ := 6) (As := [.int v1, .int v13]) (rest := []) C hK hP hS hl.1 ⟨Nat.zero_le _, Nat.zero_le _⟩ (c_X6_stock h) rfl rfl hk5 (by decide) rfl q_536 q_537 q_538 q_1 q_539 ⟨rfl, rfl⟩ yd_X6_stock ⟨Nat.le_of_ble_eq_true rfl, Nat.le_of_ble_eq_true rfl⟩ (Nat.le_of_ble_eq_true rfl) dL_acts_143 (fun r17 M16 H locs h hP hS => ?_)
        refine lv_pop (pc := 146) hx hb dL_acts_146 rfl ?_
        refine lv_bipush (v := 100) (pc := 147) hx hb dL_acts_147 (by decide) ?_
        refine lv_iload_n (pc := 149) hx hb dL_acts_149 rfl (lv_at hl 4 rfl) ?_
        refine lv_imul (pc := 150) hx hb dL_acts_150 ?_
        refine lv_iload (pc := 151) hx hb dL_acts_151 (lv_at hl 0 rfl) ?_
        refine lv_iadd (pc := 153) hx hb dL_acts_153 ?_
        exact m_iret (v := (100 * v1) + v13) (pc := 154) C hr hlk hP hS dL_acts_154 h
      · replace h := h.2 c134
        refine lv_iconst (v := -1) (pc := 137) hx hb dL_acts_137 (by decide) ?_
        exact m_iret (v := (-1)) (pc := 138) C hr hlk hP hS dL_acts_138 h
    · replace h := h.2 n52_0
      by_cases n52_1 : (p2 &&& 15) = 1
      · replace h := h.1 n52_1
        refine m_case (v := 1) (off := 60) (tgt := 112) (pc := 52) hx hb n52_1 dL_acts_52 (by decide) (by decide) (by decide) (by decide) ?_
        refine lv_iconst (v := 1) (pc := 112) hx hb dL_acts_112 (by decide) ?_
        refine lv_iload_n (pc := 113) hx hb dL_acts_113 rfl (lv_at hl 6 rfl) ?_
        refine lv_bipush (v := 40) (pc := 114) hx hb dL_acts_114 (by decide) ?_
        refine m_callSI (pc := 116) (y := yL_low) (As := [.int p3, .int 40]) (rest := [.int 1]) C hK hP hS hl.1 ⟨Nat.zero_le _, Nat.zero_le _⟩ (c_L_low h) rfl rfl q_532 q_533 q_0 q_534 ⟨rfl, rfl⟩ yd_L_low ⟨Nat.le_of_ble_eq_true rfl, Nat.le_of_ble_eq_true rfl⟩ (Nat.le_of_ble_eq_true rfl) dL_acts_116 (fun r19 M18 H locs h hP hS => ?_)
        refine lv_iadd (pc := 119) hx hb dL_acts_119 ?_
        refine lv_topi (fun v20 ev20 => ?_)
        replace h := h v20 ev20
        refine lv_istore (lv' := [(7, .int v20), (6, .int r10), (5, .int r6), (4, .int r3), (3, .int v1), (0, .ref (b + p1)), (1, .int p2), (2, .int p3)]) (pc := 120) hx hb dL_acts_120 hl (by decide) rfl (fun ls hl => ?_)
        refine lv_aload_n (pc := 122) hx hb dL_acts_122 rfl (lv_at hl 5 rfl) ?_
        refine lv_iload_n (pc := 123) hx hb dL_acts_123 rfl (lv_at hl 4 rfl) ?_
        refine lv_iconst (v := 0) (pc := 124) hx hb dL_acts_124 (by decide) ?_
        refine m_callVI (pc := 125) (y := yX6_heat) (κ := 6) (As := [.int v1, .int 0]) (rest := []) C hK hP hS hl.1 ⟨Nat.zero_le _, Nat.zero_le _⟩ (c_X6_heat h) rfl rfl hk5 (by decide) rfl q_466 q_467 q_468 q_1 q_469 ⟨rfl, rfl⟩ yd_X6_heat ⟨Nat.le_of_ble_eq_true rfl, Nat.le_of_ble_eq_true rfl⟩ (Nat.le_of_ble_eq_true rfl) dL_acts_125 (fun r22 M21 H locs h hP hS => ?_)
        refine lv_iload (pc := 128) hx hb dL_acts_128 (lv_at hl 0 rfl) ?_
        refine lv_iadd (pc := 130) hx hb dL_acts_130 ?_
        refine lv_sipush (v := 200) (pc := 131) hx hb dL_acts_131 (by decide) ?_
        refine lv_icmp_le (tgt := 139) (pc := 134) hx hb dL_acts_134 (by decide) (fun c134 => ?_) (fun c134 => ?_)
        · replace h := h.1 c134
          refine lv_aload_n (pc := 139) hx hb dL_acts_139 rfl (lv_at hl 5 rfl) ?_
          refine lv_iload_n (pc := 140) hx hb dL_acts_140 rfl (lv_at hl 4 rfl) ?_
          refine lv_iload (pc := 141) hx hb dL_acts_141 (lv_at hl 0 rfl) ?_
          refine m_callVI (pc := 143) (y := yX6_stock) (κ := 6) (As := [.int v1, .int v20]) (rest := []) C hK hP hS hl.1 ⟨Nat.zero_le _, Nat.zero_le _⟩ (c_X6_stock h) rfl rfl hk5 (by decide) rfl q_536 q_537 q_538 q_1 q_539 ⟨rfl, rfl⟩ yd_X6_stock ⟨Nat.le_of_ble_eq_true rfl, Nat.le_of_ble_eq_true rfl⟩ (Nat.le_of_ble_eq_true rfl) dL_acts_143 (fun r24 M23 H locs h hP hS => ?_)
          refine lv_pop (pc := 146) hx hb dL_acts_146 rfl ?_
          refine lv_bipush (v := 100) (pc := 147) hx hb dL_acts_147 (by decide) ?_
          refine lv_iload_n (pc := 149) hx hb dL_acts_149 rfl (lv_at hl 4 rfl) ?_
          refine lv_imul (pc := 150) hx hb dL_acts_150 ?_
          refine lv_iload (pc := 151) hx hb dL_acts_151 (lv_at hl 0 rfl) ?_
          refine lv_iadd (pc := 153) hx hb dL_acts_153 ?_
          exact m_iret (v := (100 * v1) + v20) (pc := 154) C hr hlk hP hS dL_acts_154 h
        · replace h := h.2 c134
          refine lv_iconst (v := -1) (pc := 137) hx hb dL_acts_137 (by decide) ?_
          exact m_iret (v := (-1)) (pc := 138) C hr hlk hP hS dL_acts_138 h
      · replace h := h.2 n52_1
        by_cases n52_2 : (p2 &&& 15) = 2
        · replace h := h.1 n52_2
          refine m_case (v := 2) (off := 103) (tgt := 155) (pc := 52) hx hb n52_2 dL_acts_52 (by decide) (by decide) (by decide) (by decide) ?_
          refine lv_sipush (v := 600) (pc := 155) hx hb dL_acts_155 (by decide) ?_
          refine lv_iload_n (pc := 158) hx hb dL_acts_158 rfl (lv_at hl 6 rfl) ?_
          refine lv_sipush (v := 641) (pc := 159) hx hb dL_acts_159 (by decide) ?_
          refine m_callSI (pc := 162) (y := yL_low) (As := [.int p3, .int 641]) (rest := [.int 600]) C hK hP hS hl.1 ⟨Nat.zero_le _, Nat.zero_le _⟩ (c_L_low h) rfl rfl q_532 q_533 q_0 q_534 ⟨rfl, rfl⟩ yd_L_low ⟨Nat.le_of_ble_eq_true rfl, Nat.le_of_ble_eq_true rfl⟩ (Nat.le_of_ble_eq_true rfl) dL_acts_162 (fun r26 M25 H locs h hP hS => ?_)
          refine lv_iadd (pc := 165) hx hb dL_acts_165 ?_
          refine lv_topi (fun v27 ev27 => ?_)
          replace h := h v27 ev27
          refine lv_istore (lv' := [(8, .int v27), (6, .int r10), (5, .int r6), (4, .int r3), (3, .int v1), (0, .ref (b + p1)), (1, .int p2), (2, .int p3)]) (pc := 166) hx hb dL_acts_166 hl (by decide) rfl (fun ls hl => ?_)
          refine lv_aload_n (pc := 168) hx hb dL_acts_168 rfl (lv_at hl 5 rfl) ?_
          refine lv_iload_n (pc := 169) hx hb dL_acts_169 rfl (lv_at hl 4 rfl) ?_
          refine lv_iload (pc := 170) hx hb dL_acts_170 (lv_at hl 0 rfl) ?_
          refine lv_iload (pc := 172) hx hb dL_acts_172 (lv_at hl 0 rfl) ?_
          refine lv_iload_n (pc := 174) hx hb dL_acts_174 rfl (lv_at hl 7 rfl) ?_
          refine lv_bipush (v := 10) (pc := 175) hx hb dL_acts_175 (by decide) ?_
          refine lv_ishr (pc := 177) hx hb dL_acts_177 ?_
          refine lv_sipush (v := 1241) (pc := 178) hx hb dL_acts_178 (by decide) ?_
          refine lv_iload (pc := 181) hx hb dL_acts_181 (lv_at hl 0 rfl) ?_
          refine lv_isub (pc := 183) hx hb dL_acts_183 ?_
          refine m_callSI (pc := 184) (y := yL_low) (As := [.int (p3 >>> (10 &&& 31)), .int (1241 - v27)]) (rest := [.int v27, .int v27, .int v1, .ref (b + p1)]) C hK hP hS hl.1 ⟨Nat.zero_le _, Nat.zero_le _⟩ (c_L_low h) rfl rfl q_532 q_533 q_0 q_534 ⟨rfl, rfl⟩ yd_L_low ⟨Nat.le_of_ble_eq_true rfl, Nat.le_of_ble_eq_true rfl⟩ (Nat.le_of_ble_eq_true rfl) dL_acts_184 (fun r29 M28 H locs h hP hS => ?_)
          refine lv_iadd (pc := 187) hx hb dL_acts_187 ?_
          refine m_callVI (pc := 188) (y := yX6_range) (κ := 6) (As := [.int v1, .int v27, .int (v27 + r29)]) (rest := []) C hK hP hS hl.1 ⟨Nat.zero_le _, Nat.zero_le _⟩ (c_X6_range h) rfl rfl hk5 (by decide) rfl q_551 q_552 q_553 q_1 q_554 ⟨rfl, rfl⟩ yd_X6_range ⟨Nat.le_of_ble_eq_true rfl, Nat.le_of_ble_eq_true rfl⟩ (Nat.le_of_ble_eq_true rfl) dL_acts_188 (fun r31 M30 H locs h hP hS => ?_)
          refine lv_pop (pc := 191) hx hb dL_acts_191 rfl ?_
          refine lv_iconst (v := 0) (pc := 192) hx hb dL_acts_192 (by decide) ?_
          exact m_iret (v := 0) (pc := 193) C hr hlk hP hS dL_acts_193 h
        · replace h := h.2 n52_2
          by_cases n52_3 : (p2 &&& 15) = 3
          · replace h := h.1 n52_3
            refine m_case (v := 3) (off := 142) (tgt := 194) (pc := 52) hx hb n52_3 dL_acts_52 (by decide) (by decide) (by decide) (by decide) ?_
            refine lv_aload_n (pc := 194) hx hb dL_acts_194 rfl (lv_at hl 4 rfl) ?_
            refine lv_iload (pc := 195) hx hb dL_acts_195 (lv_at hl 2 rfl) ?_
            refine lv_iconst (v := 3) (pc := 197) hx hb dL_acts_197 (by decide) ?_
            refine m_callVI (pc := 198) (y := yX6_dieOf) (κ := 6) (As := [.int r3, .int 3]) (rest := []) C hK hP hS hl.1 ⟨Nat.zero_le _, Nat.zero_le _⟩ (c_X6_dieOf h) rfl rfl hk5 (by decide) rfl q_488 q_489 q_490 q_1 q_491 ⟨rfl, rfl⟩ yd_X6_dieOf ⟨Nat.le_of_ble_eq_true rfl, Nat.le_of_ble_eq_true rfl⟩ (Nat.le_of_ble_eq_true rfl) dL_acts_198 (fun r33 M32 H locs h hP hS => ?_)
            refine lv_if_le (tgt := 206) (pc := 201) hx hb dL_acts_201 (by decide) (fun c201 => ?_) (fun c201 => ?_)
            · replace h := h.1 c201
              refine lv_aload_n (pc := 206) hx hb dL_acts_206 rfl (lv_at hl 4 rfl) ?_
              refine lv_iload (pc := 207) hx hb dL_acts_207 (lv_at hl 2 rfl) ?_
              refine lv_iconst (v := 1) (pc := 209) hx hb dL_acts_209 (by decide) ?_
              refine lv_iload_n (pc := 210) hx hb dL_acts_210 rfl (lv_at hl 6 rfl) ?_
              refine lv_bipush (v := 9) (pc := 211) hx hb dL_acts_211 (by decide) ?_
              refine m_callSI (pc := 213) (y := yL_low) (As := [.int p3, .int 9]) (rest := [.int 1, .int r3, .ref (b + p1)]) C hK hP hS hl.1 ⟨Nat.zero_le _, Nat.zero_le _⟩ (c_L_low h) rfl rfl q_532 q_533 q_0 q_534 ⟨rfl, rfl⟩ yd_L_low ⟨Nat.le_of_ble_eq_true rfl, Nat.le_of_ble_eq_true rfl⟩ (Nat.le_of_ble_eq_true rfl) dL_acts_213 (fun r35 M34 H locs h hP hS => ?_)
              refine lv_iadd (pc := 216) hx hb dL_acts_216 ?_
              refine lv_bipush (v := 10) (pc := 217) hx hb dL_acts_217 (by decide) ?_
              refine lv_iload_n (pc := 219) hx hb dL_acts_219 rfl (lv_at hl 6 rfl) ?_
              refine lv_iconst (v := 4) (pc := 220) hx hb dL_acts_220 (by decide) ?_
              refine lv_ishr (pc := 221) hx hb dL_acts_221 ?_
              refine lv_bipush (v := 40) (pc := 222) hx hb dL_acts_222 (by decide) ?_
              refine m_callSI (pc := 224) (y := yL_low) (As := [.int (p3 >>> (4 &&& 31)), .int 40]) (rest := [.int 10, .int (1 + r35), .int r3, .ref (b + p1)]) C hK hP hS hl.1 ⟨Nat.zero_le _, Nat.zero_le _⟩ (c_L_low h) rfl rfl q_532 q_533 q_0 q_534 ⟨rfl, rfl⟩ yd_L_low ⟨Nat.le_of_ble_eq_true rfl, Nat.le_of_ble_eq_true rfl⟩ (Nat.le_of_ble_eq_true rfl) dL_acts_224 (fun r37 M36 H locs h hP hS => ?_)
              refine lv_iadd (pc := 227) hx hb dL_acts_227 ?_
              refine m_callVI (pc := 228) (y := yX6_die) (κ := 6) (As := [.int r3, .int (1 + r35), .int (10 + r37)]) (rest := []) C hK hP hS hl.1 ⟨Nat.zero_le _, Nat.zero_le _⟩ (c_X6_die h) rfl rfl hk5 (by decide) rfl q_556 q_557 q_558 q_1 q_559 ⟨rfl, rfl⟩ yd_X6_die ⟨Nat.le_of_ble_eq_true rfl, Nat.le_of_ble_eq_true rfl⟩ (Nat.le_of_ble_eq_true rfl) dL_acts_228 (fun r39 M38 H locs h hP hS => ?_)
              refine lv_pop (pc := 231) hx hb dL_acts_231 rfl ?_
              refine lv_iconst (v := 0) (pc := 232) hx hb dL_acts_232 (by decide) ?_
              exact m_iret (v := 0) (pc := 233) C hr hlk hP hS dL_acts_233 h
            · replace h := h.2 c201
              refine lv_iconst (v := -1) (pc := 204) hx hb dL_acts_204 (by decide) ?_
              exact m_iret (v := (-1)) (pc := 205) C hr hlk hP hS dL_acts_205 h
          · replace h := h.2 n52_3
            by_cases n52_4 : (p2 &&& 15) = 4
            · replace h := h.1 n52_4
              refine m_case (v := 4) (off := 182) (tgt := 234) (pc := 52) hx hb n52_4 dL_acts_52 (by decide) (by decide) (by decide) (by decide) ?_
              refine lv_aload_n (pc := 234) hx hb dL_acts_234 rfl (lv_at hl 4 rfl) ?_
              refine lv_bipush (v := 10) (pc := 235) hx hb dL_acts_235 (by decide) ?_
              refine m_callVI (pc := 237) (y := yX6_count) (κ := 6) (As := [.int 10]) (rest := []) C hK hP hS hl.1 ⟨Nat.zero_le _, Nat.zero_le _⟩ (c_X6_count h) rfl rfl hk5 (by decide) rfl q_383 q_384 q_385 q_1 q_386 ⟨rfl, rfl⟩ yd_X6_count ⟨Nat.le_of_ble_eq_true rfl, Nat.le_of_ble_eq_true rfl⟩ (Nat.le_of_ble_eq_true rfl) dL_acts_237 (fun r41 M40 H locs h hP hS => ?_)
              refine lv_if_lt (tgt := 245) (pc := 240) hx hb dL_acts_240 (by decide) (fun c240 => ?_) (fun c240 => ?_)
              · replace h := h.1 c240
                refine lv_aload_n (pc := 245) hx hb dL_acts_245 rfl (lv_at hl 4 rfl) ?_
                refine lv_iload (pc := 246) hx hb dL_acts_246 (lv_at hl 2 rfl) ?_
                refine m_callVI (pc := 248) (y := yX6_grind) (κ := 6) (As := [.int r3]) (rest := []) C hK hP hS hl.1 ⟨Nat.zero_le _, Nat.zero_le _⟩ (c_X6_grind h) rfl rfl hk5 (by decide) rfl q_563 q_564 q_565 q_1 q_566 ⟨rfl, rfl⟩ yd_X6_grind ⟨Nat.le_of_ble_eq_true rfl, Nat.le_of_ble_eq_true rfl⟩ (Nat.le_of_ble_eq_true rfl) dL_acts_248 (fun r43 M42 H locs h hP hS => ?_)
                refine lv_pop (pc := 251) hx hb dL_acts_251 rfl ?_
                refine lv_iconst (v := 0) (pc := 252) hx hb dL_acts_252 (by decide) ?_
                exact m_iret (v := 0) (pc := 253) C hr hlk hP hS dL_acts_253 h
              · replace h := h.2 c240
                refine lv_iconst (v := -1) (pc := 243) hx hb dL_acts_243 (by decide) ?_
                exact m_iret (v := (-1)) (pc := 244) C hr hlk hP hS dL_acts_244 h
            · replace h := h.2 n52_4
              by_cases n52_5 : (p2 &&& 15) = 5
              · replace h := h.1 n52_5
                refine m_case (v := 5) (off := 202) (tgt := 254) (pc := 52) hx hb n52_5 dL_acts_52 (by decide) (by decide) (by decide) (by decide) ?_
                refine lv_iload_n (pc := 254) hx hb dL_acts_254 rfl (lv_at hl 6 rfl) ?_
                refine lv_iconst (v := 3) (pc := 255) hx hb dL_acts_255 (by decide) ?_
                refine lv_iand (pc := 256) hx hb dL_acts_256 ?_
                refine lv_topi (fun v44 ev44 => ?_)
                replace h := h v44 ev44
                refine lv_istore (lv' := [(9, .int v44), (6, .int r10), (5, .int r6), (4, .int r3), (3, .int v1), (0, .ref (b + p1)), (1, .int p2), (2, .int p3)]) (pc := 257) hx hb dL_acts_257 hl (by decide) rfl (fun ls hl => ?_)
                refine lv_aload_n (pc := 259) hx hb dL_acts_259 rfl (lv_at hl 5 rfl) ?_
                refine lv_iload (pc := 260) hx hb dL_acts_260 (lv_at hl 0 rfl) ?_
                refine lv_iload (pc := 262) hx hb dL_acts_262 (lv_at hl 0 rfl) ?_
                refine lv_if_ne (tgt := 282) (pc := 264) hx hb dL_acts_264 (by decide) (fun c264 => ?_) (fun c264 => ?_)
                · replace h := h.1 c264
                  refine lv_iload (pc := 282) hx hb dL_acts_282 (lv_at hl 0 rfl) ?_
                  refine lv_iconst (v := 1) (pc := 284) hx hb dL_acts_284 (by decide) ?_
                  refine lv_icmp_ne (tgt := 302) (pc := 285) hx hb dL_acts_285 (by decide) (fun c285 => ?_) (fun c285 => ?_)
                  · replace h := h.1 c285
                    refine lv_iload (pc := 302) hx hb dL_acts_302 (lv_at hl 0 rfl) ?_
                    refine lv_iconst (v := 2) (pc := 304) hx hb dL_acts_304 (by decide) ?_
                    refine lv_icmp_ne (tgt := 316) (pc := 305) hx hb dL_acts_305 (by decide) (fun c305 => ?_) (fun c305 => ?_)
                    · replace h := h.1 c305
                      refine lv_iconst (v := 1) (pc := 316) hx hb dL_acts_316 (by decide) ?_
                      refine lv_iload_n (pc := 317) hx hb dL_acts_317 rfl (lv_at hl 7 rfl) ?_
                      refine lv_iconst (v := 2) (pc := 318) hx hb dL_acts_318 (by decide) ?_
                      refine lv_ishr (pc := 319) hx hb dL_acts_319 ?_
                      refine lv_bipush (v := 30) (pc := 320) hx hb dL_acts_320 (by decide) ?_
                      refine m_callSI (pc := 322) (y := yL_low) (As := [.int (p3 >>> (2 &&& 31)), .int 30]) (rest := [.int 1, .int v44, .ref (b + p1)]) C hK hP hS hl.1 ⟨Nat.zero_le _, Nat.zero_le _⟩ (c_L_low h) rfl rfl q_532 q_533 q_0 q_534 ⟨rfl, rfl⟩ yd_L_low ⟨Nat.le_of_ble_eq_true rfl, Nat.le_of_ble_eq_true rfl⟩ (Nat.le_of_ble_eq_true rfl) dL_acts_322 (fun r46 M45 H locs h hP hS => ?_)
                      refine lv_iadd (pc := 325) hx hb dL_acts_325 ?_
                      refine m_callVI (pc := 326) (y := yX6_set) (κ := 6) (As := [.int v44, .int (1 + r46)]) (rest := []) C hK hP hS hl.1 ⟨Nat.zero_le _, Nat.zero_le _⟩ (c_X6_set h) rfl rfl hk5 (by decide) rfl q_568 q_569 q_570 q_1 q_571 ⟨rfl, rfl⟩ yd_X6_set ⟨Nat.le_of_ble_eq_true rfl, Nat.le_of_ble_eq_true rfl⟩ (Nat.le_of_ble_eq_true rfl) dL_acts_326 (fun r48 M47 H locs h hP hS => ?_)
                      refine lv_pop (pc := 329) hx hb dL_acts_329 rfl ?_
                      refine lv_iconst (v := 0) (pc := 330) hx hb dL_acts_330 (by decide) ?_
                      exact m_iret (v := 0) (pc := 331) C hr hlk hP hS dL_acts_331 h
                    · replace h := h.2 c305
                      refine lv_iload_n (pc := 308) hx hb dL_acts_308 rfl (lv_at hl 7 rfl) ?_
                      refine lv_iconst (v := 2) (pc := 309) hx hb dL_acts_309 (by decide) ?_
                      refine lv_ishr (pc := 310) hx hb dL_acts_310 ?_
                      refine lv_iconst (v := 3) (pc := 311) hx hb dL_acts_311 (by decide) ?_
                      refine lv_iand (pc := 312) hx hb dL_acts_312 ?_
                      refine lv_goto (tgt := 326) (pc := 313) hx hb dL_acts_313 (by decide) ?_
                      refine m_callVI (pc := 326) (y := yX6_set) (κ := 6) (As := [.int v44, .int ((p3 >>> (2 &&& 31)) &&& 3)]) (rest := []) C hK hP hS hl.1 ⟨Nat.zero_le _, Nat.zero_le _⟩ (c_X6_set h) rfl rfl hk5 (by decide) rfl q_568 q_569 q_570 q_1 q_571 ⟨rfl, rfl⟩ yd_X6_set ⟨Nat.le_of_ble_eq_true rfl, Nat.le_of_ble_eq_true rfl⟩ (Nat.le_of_ble_eq_true rfl) dL_acts_326 (fun r50 M49 H locs h hP hS => ?_)
                      refine lv_pop (pc := 329) hx hb dL_acts_329 rfl ?_
                      refine lv_iconst (v := 0) (pc := 330) hx hb dL_acts_330 (by decide) ?_
                      exact m_iret (v := 0) (pc := 331) C hr hlk hP hS dL_acts_331 h
                  · replace h := h.2 c285
                    refine lv_iconst (v := 1) (pc := 288) hx hb dL_acts_288 (by decide) ?_
                    refine lv_iload_n (pc := 289) hx hb dL_acts_289 rfl (lv_at hl 7 rfl) ?_
                    refine lv_iconst (v := 2) (pc := 290) hx hb dL_acts_290 (by decide) ?_
                    refine lv_ishr (pc := 291) hx hb dL_acts_291 ?_
                    refine lv_sipush (v := 200) (pc := 292) hx hb dL_acts_292 (by decide) ?_
                    refine m_callSI (pc := 295) (y := yL_low) (As := [.int (p3 >>> (2 &&& 31)), .int 200]) (rest := [.int 1, .int v44, .ref (b + p1)]) C hK hP hS hl.1 ⟨Nat.zero_le _, Nat.zero_le _⟩ (c_L_low h) rfl rfl q_532 q_533 q_0 q_534 ⟨rfl, rfl⟩ yd_L_low ⟨Nat.le_of_ble_eq_true rfl, Nat.le_of_ble_eq_true rfl⟩ (Nat.le_of_ble_eq_true rfl) dL_acts_295 (fun r52 M51 H locs h hP hS => ?_)
                    refine lv_iadd (pc := 298) hx hb dL_acts_298 ?_
                    refine lv_goto (tgt := 326) (pc := 299) hx hb dL_acts_299 (by decide) ?_
                    refine m_callVI (pc := 326) (y := yX6_set) (κ := 6) (As := [.int v44, .int (1 + r52)]) (rest := []) C hK hP hS hl.1 ⟨Nat.zero_le _, Nat.zero_le _⟩ (c_X6_set h) rfl rfl hk5 (by decide) rfl q_568 q_569 q_570 q_1 q_571 ⟨rfl, rfl⟩ yd_X6_set ⟨Nat.le_of_ble_eq_true rfl, Nat.le_of_ble_eq_true rfl⟩ (Nat.le_of_ble_eq_true rfl) dL_acts_326 (fun r54 M53 H locs h hP hS => ?_)
                    refine lv_pop (pc := 329) hx hb dL_acts_329 rfl ?_
                    refine lv_iconst (v := 0) (pc := 330) hx hb dL_acts_330 (by decide) ?_
                    exact m_iret (v := 0) (pc := 331) C hr hlk hP hS dL_acts_331 h
                · replace h := h.2 c264
                  refine lv_bipush (v := 10) (pc := 267) hx hb dL_acts_267 (by decide) ?_
                  refine lv_iload_n (pc := 269) hx hb dL_acts_269 rfl (lv_at hl 7 rfl) ?_
                  refine lv_iconst (v := 2) (pc := 270) hx hb dL_acts_270 (by decide) ?_
                  refine lv_ishr (pc := 271) hx hb dL_acts_271 ?_
                  refine lv_sipush (v := 291) (pc := 272) hx hb dL_acts_272 (by decide) ?_
                  refine m_callSI (pc := 275) (y := yL_low) (As := [.int (p3 >>> (2 &&& 31)), .int 291]) (rest := [.int 10, .int v44, .ref (b + p1)]) C hK hP hS hl.1 ⟨Nat.zero_le _, Nat.zero_le _⟩ (c_L_low h) rfl rfl q_532 q_533 q_0 q_534 ⟨rfl, rfl⟩ yd_L_low ⟨Nat.le_of_ble_eq_true rfl, Nat.le_of_ble_eq_true rfl⟩ (Nat.le_of_ble_eq_true rfl) dL_acts_275 (fun r56 M55 H locs h hP hS => ?_)
                  refine lv_iadd (pc := 278) hx hb dL_acts_278 ?_
                  refine lv_goto (tgt := 326) (pc := 279) hx hb dL_acts_279 (by decide) ?_
                  refine m_callVI (pc := 326) (y := yX6_set) (κ := 6) (As := [.int v44, .int (10 + r56)]) (rest := []) C hK hP hS hl.1 ⟨Nat.zero_le _, Nat.zero_le _⟩ (c_X6_set h) rfl rfl hk5 (by decide) rfl q_568 q_569 q_570 q_1 q_571 ⟨rfl, rfl⟩ yd_X6_set ⟨Nat.le_of_ble_eq_true rfl, Nat.le_of_ble_eq_true rfl⟩ (Nat.le_of_ble_eq_true rfl) dL_acts_326 (fun r58 M57 H locs h hP hS => ?_)
                  refine lv_pop (pc := 329) hx hb dL_acts_329 rfl ?_
                  refine lv_iconst (v := 0) (pc := 330) hx hb dL_acts_330 (by decide) ?_
                  exact m_iret (v := 0) (pc := 331) C hr hlk hP hS dL_acts_331 h
              · replace h := h.2 n52_5
                by_cases n52_6 : (p2 &&& 15) = 6
                · replace h := h.1 n52_6
                  refine m_case (v := 6) (off := 280) (tgt := 332) (pc := 52) hx hb n52_6 dL_acts_52 (by decide) (by decide) (by decide) (by decide) ?_
                  refine lv_iload (pc := 332) hx hb dL_acts_332 (lv_at hl 1 rfl) ?_
                  refine lv_if_ne (tgt := 339) (pc := 334) hx hb dL_acts_334 (by decide) (fun c334 => ?_) (fun c334 => ?_)
                  · replace h := h.1 c334
                    refine lv_aload_n (pc := 339) hx hb dL_acts_339 rfl (lv_at hl 4 rfl) ?_
                    refine lv_iload (pc := 340) hx hb dL_acts_340 (lv_at hl 0 rfl) ?_
                    refine m_callVI (pc := 342) (y := yX6_cancel) (κ := 6) (As := [.int r10]) (rest := []) C hK hP hS hl.1 ⟨Nat.zero_le _, Nat.zero_le _⟩ (c_X6_cancel h) rfl rfl hk5 (by decide) rfl q_583 q_584 q_585 q_1 q_586 ⟨rfl, rfl⟩ yd_X6_cancel ⟨Nat.le_of_ble_eq_true rfl, Nat.le_of_ble_eq_true rfl⟩ (Nat.le_of_ble_eq_true rfl) dL_acts_342 (fun r60 M59 H locs h hP hS => ?_)
                    refine lv_pop (pc := 345) hx hb dL_acts_345 rfl ?_
                    refine lv_iconst (v := 0) (pc := 346) hx hb dL_acts_346 (by decide) ?_
                    exact m_iret (v := 0) (pc := 347) C hr hlk hP hS dL_acts_347 h
                  · replace h := h.2 c334
                    refine lv_iconst (v := -1) (pc := 337) hx hb dL_acts_337 (by decide) ?_
                    exact m_iret (v := (-1)) (pc := 338) C hr hlk hP hS dL_acts_338 h
                · replace h := h.2 n52_6
                  by_cases n52_7 : (p2 &&& 15) = 7
                  · replace h := h.1 n52_7
                    refine m_case (v := 7) (off := 296) (tgt := 348) (pc := 52) hx hb n52_7 dL_acts_52 (by decide) (by decide) (by decide) (by decide) ?_
                    refine lv_iload (pc := 348) hx hb dL_acts_348 (lv_at hl 1 rfl) ?_
                    refine lv_if_ne (tgt := 355) (pc := 350) hx hb dL_acts_350 (by decide) (fun c350 => ?_) (fun c350 => ?_)
                    · replace h := h.1 c350
                      refine lv_aload_n (pc := 355) hx hb dL_acts_355 rfl (lv_at hl 4 rfl) ?_
                      refine lv_iload (pc := 356) hx hb dL_acts_356 (lv_at hl 0 rfl) ?_
                      refine lv_iload_n (pc := 358) hx hb dL_acts_358 rfl (lv_at hl 6 rfl) ?_
                      refine lv_iconst (v := 1) (pc := 359) hx hb dL_acts_359 (by decide) ?_
                      refine lv_iand (pc := 360) hx hb dL_acts_360 ?_
                      refine m_joinZ (z := if ¬ (p3 &&& 1) = 0 then false else true) (jp := 369) (rest := [.int r10, .ref (b + p1)]) ?_ (fun hJ => ?_)
                      rotate_left
                      · skip
                        refine lv_if_ne (tgt := 368) (pc := 361) hx hb dL_acts_361 (by decide) (fun c361 => ?_) (fun c361 => ?_)
                        · skip
                          refine lv_iconst (v := 0) (pc := 368) hx hb dL_acts_368 (by decide) ?_
                          exact hJ _ false rfl (by rw [if_pos c361])
                        · skip
                          refine lv_iconst (v := 1) (pc := 364) hx hb dL_acts_364 (by decide) ?_
                          refine lv_goto (tgt := 369) (pc := 365) hx hb dL_acts_365 (by decide) ?_
                          exact hJ _ true rfl (by rw [if_neg (fun hn => hn c361)])
                      refine m_callVI (pc := 369) (y := yX6_rush) (κ := 6) (As := [.int r10, .int (bI (if ¬ (p3 &&& 1) = 0 then false else true))]) (rest := []) C hK hP hS hl.1 ⟨Nat.zero_le _, Nat.zero_le _⟩ (c_X6_rush h) rfl rfl hk5 (by decide) rfl q_604 q_605 q_606 q_1 q_607 ⟨rfl, rfl⟩ yd_X6_rush ⟨Nat.le_of_ble_eq_true rfl, Nat.le_of_ble_eq_true rfl⟩ (Nat.le_of_ble_eq_true rfl) dL_acts_369 (fun r62 M61 H locs h hP hS => ?_)
                      refine lv_pop (pc := 372) hx hb dL_acts_372 rfl ?_
                      refine lv_iconst (v := 0) (pc := 373) hx hb dL_acts_373 (by decide) ?_
                      exact m_iret (v := 0) (pc := 374) C hr hlk hP hS dL_acts_374 h
                    · replace h := h.2 c350
                      refine lv_iconst (v := -1) (pc := 353) hx hb dL_acts_353 (by decide) ?_
                      exact m_iret (v := (-1)) (pc := 354) C hr hlk hP hS dL_acts_354 h
                  · replace h := h.2 n52_7
                    by_cases n52_8 : (p2 &&& 15) = 8
                    · replace h := h.1 n52_8
                      refine m_case (v := 8) (off := 323) (tgt := 375) (pc := 52) hx hb n52_8 dL_acts_52 (by decide) (by decide) (by decide) (by decide) ?_
                      refine lv_iload (pc := 375) hx hb dL_acts_375 (lv_at hl 1 rfl) ?_
                      refine lv_bipush (v := 10) (pc := 377) hx hb dL_acts_377 (by decide) ?_
                      refine lv_icmp_ne (tgt := 384) (pc := 379) hx hb dL_acts_379 (by decide) (fun c379 => ?_) (fun c379 => ?_)
                      · replace h := h.1 c379
                        refine lv_aload_n (pc := 384) hx hb dL_acts_384 rfl (lv_at hl 4 rfl) ?_
                        refine lv_iload (pc := 385) hx hb dL_acts_385 (lv_at hl 2 rfl) ?_
                        refine lv_iload_n (pc := 387) hx hb dL_acts_387 rfl (lv_at hl 3 rfl) ?_
                        refine lv_iconst (v := 1) (pc := 388) hx hb dL_acts_388 (by decide) ?_
                        refine lv_iload_n (pc := 389) hx hb dL_acts_389 rfl (lv_at hl 6 rfl) ?_
                        refine lv_bipush (v := 6) (pc := 390) hx hb dL_acts_390 (by decide) ?_
                        refine m_callSI (pc := 392) (y := yL_low) (As := [.int p3, .int 6]) (rest := [.int 1, .int v1, .int r3, .ref (b + p1)]) C hK hP hS hl.1 ⟨Nat.zero_le _, Nat.zero_le _⟩ (c_L_low h) rfl rfl q_532 q_533 q_0 q_534 ⟨rfl, rfl⟩ yd_L_low ⟨Nat.le_of_ble_eq_true rfl, Nat.le_of_ble_eq_true rfl⟩ (Nat.le_of_ble_eq_true rfl) dL_acts_392 (fun r64 M63 H locs h hP hS => ?_)
                        refine lv_iadd (pc := 395) hx hb dL_acts_395 ?_
                        refine lv_iload_n (pc := 396) hx hb dL_acts_396 rfl (lv_at hl 6 rfl) ?_
                        refine lv_iconst (v := 3) (pc := 397) hx hb dL_acts_397 (by decide) ?_
                        refine lv_ishr (pc := 398) hx hb dL_acts_398 ?_
                        refine lv_sipush (v := 400) (pc := 399) hx hb dL_acts_399 (by decide) ?_
                        refine m_callSI (pc := 402) (y := yL_low) (As := [.int (p3 >>> (3 &&& 31)), .int 400]) (rest := [.int (1 + r64), .int v1, .int r3, .ref (b + p1)]) C hK hP hS hl.1 ⟨Nat.zero_le _, Nat.zero_le _⟩ (c_L_low h) rfl rfl q_532 q_533 q_0 q_534 ⟨rfl, rfl⟩ yd_L_low ⟨Nat.le_of_ble_eq_true rfl, Nat.le_of_ble_eq_true rfl⟩ (Nat.le_of_ble_eq_true rfl) dL_acts_402 (fun r66 M65 H locs h hP hS => ?_)
                        refine lv_iload_n (pc := 405) hx hb dL_acts_405 rfl (lv_at hl 6 rfl) ?_
                        refine lv_bipush (v := 12) (pc := 406) hx hb dL_acts_406 (by decide) ?_
                        refine lv_ishr (pc := 408) hx hb dL_acts_408 ?_
                        refine lv_iconst (v := 3) (pc := 409) hx hb dL_acts_409 (by decide) ?_
                        refine lv_iand (pc := 410) hx hb dL_acts_410 ?_
                        refine m_joinZ (z := if ¬ ((p3 >>> (12 &&& 31)) &&& 3) = 0 then false else true) (jp := 419) (rest := [.int r66, .int (1 + r64), .int v1, .int r3, .ref (b + p1)]) ?_ (fun hJ => ?_)
                        rotate_left
                        · skip
                          refine lv_if_ne (tgt := 418) (pc := 411) hx hb dL_acts_411 (by decide) (fun c411 => ?_) (fun c411 => ?_)
                          · skip
                            refine lv_iconst (v := 0) (pc := 418) hx hb dL_acts_418 (by decide) ?_
                            exact hJ _ false rfl (by rw [if_pos c411])
                          · skip
                            refine lv_iconst (v := 1) (pc := 414) hx hb dL_acts_414 (by decide) ?_
                            refine lv_goto (tgt := 419) (pc := 415) hx hb dL_acts_415 (by decide) ?_
                            exact hJ _ true rfl (by rw [if_neg (fun hn => hn c411)])
                        refine m_callVI (pc := 419) (y := yX6_job) (κ := 6) (As := [.int r3, .int v1, .int (1 + r64), .int r66, .int (bI (if ¬ ((p3 >>> (12 &&& 31)) &&& 3) = 0 then false else true))]) (rest := []) C hK hP hS hl.1 ⟨Nat.zero_le _, Nat.zero_le _⟩ (c_X6_job h) rfl rfl hk5 (by decide) rfl q_620 q_621 q_622 q_1 q_623 ⟨rfl, rfl⟩ yd_X6_job ⟨Nat.le_of_ble_eq_true rfl, Nat.le_of_ble_eq_true rfl⟩ (Nat.le_of_ble_eq_true rfl) dL_acts_419 (fun r68 M67 H locs h hP hS => ?_)
                        refine lv_pop (pc := 422) hx hb dL_acts_422 rfl ?_
                        refine lv_iconst (v := 0) (pc := 423) hx hb dL_acts_423 (by decide) ?_
                        exact m_iret (v := 0) (pc := 424) C hr hlk hP hS dL_acts_424 h
                      · replace h := h.2 c379
                        refine lv_iconst (v := -1) (pc := 382) hx hb dL_acts_382 (by decide) ?_
                        exact m_iret (v := (-1)) (pc := 383) C hr hlk hP hS dL_acts_383 h
                    · replace h := h.2 n52_8
                      by_cases n52_9 : (p2 &&& 15) = 9
                      · replace h := h.1 n52_9
                        refine m_case (v := 9) (off := 323) (tgt := 375) (pc := 52) hx hb n52_9 dL_acts_52 (by decide) (by decide) (by decide) (by decide) ?_
                        refine lv_iload (pc := 375) hx hb dL_acts_375 (lv_at hl 1 rfl) ?_
                        refine lv_bipush (v := 10) (pc := 377) hx hb dL_acts_377 (by decide) ?_
                        refine lv_icmp_ne (tgt := 384) (pc := 379) hx hb dL_acts_379 (by decide) (fun c379 => ?_) (fun c379 => ?_)
                        · replace h := h.1 c379
                          refine lv_aload_n (pc := 384) hx hb dL_acts_384 rfl (lv_at hl 4 rfl) ?_
                          refine lv_iload (pc := 385) hx hb dL_acts_385 (lv_at hl 2 rfl) ?_
                          refine lv_iload_n (pc := 387) hx hb dL_acts_387 rfl (lv_at hl 3 rfl) ?_
                          refine lv_iconst (v := 1) (pc := 388) hx hb dL_acts_388 (by decide) ?_
                          refine lv_iload_n (pc := 389) hx hb dL_acts_389 rfl (lv_at hl 6 rfl) ?_
                          refine lv_bipush (v := 6) (pc := 390) hx hb dL_acts_390 (by decide) ?_
                          refine m_callSI (pc := 392) (y := yL_low) (As := [.int p3, .int 6]) (rest := [.int 1, .int v1, .int r3, .ref (b + p1)]) C hK hP hS hl.1 ⟨Nat.zero_le _, Nat.zero_le _⟩ (c_L_low h) rfl rfl q_532 q_533 q_0 q_534 ⟨rfl, rfl⟩ yd_L_low ⟨Nat.le_of_ble_eq_true rfl, Nat.le_of_ble_eq_true rfl⟩ (Nat.le_of_ble_eq_true rfl) dL_acts_392 (fun r70 M69 H locs h hP hS => ?_)
                          refine lv_iadd (pc := 395) hx hb dL_acts_395 ?_
                          refine lv_iload_n (pc := 396) hx hb dL_acts_396 rfl (lv_at hl 6 rfl) ?_
                          refine lv_iconst (v := 3) (pc := 397) hx hb dL_acts_397 (by decide) ?_
                          refine lv_ishr (pc := 398) hx hb dL_acts_398 ?_
                          refine lv_sipush (v := 400) (pc := 399) hx hb dL_acts_399 (by decide) ?_
                          refine m_callSI (pc := 402) (y := yL_low) (As := [.int (p3 >>> (3 &&& 31)), .int 400]) (rest := [.int (1 + r70), .int v1, .int r3, .ref (b + p1)]) C hK hP hS hl.1 ⟨Nat.zero_le _, Nat.zero_le _⟩ (c_L_low h) rfl rfl q_532 q_533 q_0 q_534 ⟨rfl, rfl⟩ yd_L_low ⟨Nat.le_of_ble_eq_true rfl, Nat.le_of_ble_eq_true rfl⟩ (Nat.le_of_ble_eq_true rfl) dL_acts_402 (fun r72 M71 H locs h hP hS => ?_)
                          refine lv_iload_n (pc := 405) hx hb dL_acts_405 rfl (lv_at hl 6 rfl) ?_
                          refine lv_bipush (v := 12) (pc := 406) hx hb dL_acts_406 (by decide) ?_
                          refine lv_ishr (pc := 408) hx hb dL_acts_408 ?_
                          refine lv_iconst (v := 3) (pc := 409) hx hb dL_acts_409 (by decide) ?_
                          refine lv_iand (pc := 410) hx hb dL_acts_410 ?_
                          refine m_joinZ (z := if ¬ ((p3 >>> (12 &&& 31)) &&& 3) = 0 then false else true) (jp := 419) (rest := [.int r72, .int (1 + r70), .int v1, .int r3, .ref (b + p1)]) ?_ (fun hJ => ?_)
                          rotate_left
                          · skip
                            refine lv_if_ne (tgt := 418) (pc := 411) hx hb dL_acts_411 (by decide) (fun c411 => ?_) (fun c411 => ?_)
                            · skip
                              refine lv_iconst (v := 0) (pc := 418) hx hb dL_acts_418 (by decide) ?_
                              exact hJ _ false rfl (by rw [if_pos c411])
                            · skip
                              refine lv_iconst (v := 1) (pc := 414) hx hb dL_acts_414 (by decide) ?_
                              refine lv_goto (tgt := 419) (pc := 415) hx hb dL_acts_415 (by decide) ?_
                              exact hJ _ true rfl (by rw [if_neg (fun hn => hn c411)])
                          refine m_callVI (pc := 419) (y := yX6_job) (κ := 6) (As := [.int r3, .int v1, .int (1 + r70), .int r72, .int (bI (if ¬ ((p3 >>> (12 &&& 31)) &&& 3) = 0 then false else true))]) (rest := []) C hK hP hS hl.1 ⟨Nat.zero_le _, Nat.zero_le _⟩ (c_X6_job h) rfl rfl hk5 (by decide) rfl q_620 q_621 q_622 q_1 q_623 ⟨rfl, rfl⟩ yd_X6_job ⟨Nat.le_of_ble_eq_true rfl, Nat.le_of_ble_eq_true rfl⟩ (Nat.le_of_ble_eq_true rfl) dL_acts_419 (fun r74 M73 H locs h hP hS => ?_)
                          refine lv_pop (pc := 422) hx hb dL_acts_422 rfl ?_
                          refine lv_iconst (v := 0) (pc := 423) hx hb dL_acts_423 (by decide) ?_
                          exact m_iret (v := 0) (pc := 424) C hr hlk hP hS dL_acts_424 h
                        · replace h := h.2 c379
                          refine lv_iconst (v := -1) (pc := 382) hx hb dL_acts_382 (by decide) ?_
                          exact m_iret (v := (-1)) (pc := 383) C hr hlk hP hS dL_acts_383 h
                      · replace h := h.2 n52_9
                        by_cases n52_10 : (p2 &&& 15) = 10
                        · replace h := h.1 n52_10
                          refine m_case (v := 10) (off := 323) (tgt := 375) (pc := 52) hx hb n52_10 dL_acts_52 (by decide) (by decide) (by decide) (by decide) ?_
                          refine lv_iload (pc := 375) hx hb dL_acts_375 (lv_at hl 1 rfl) ?_
                          refine lv_bipush (v := 10) (pc := 377) hx hb dL_acts_377 (by decide) ?_
                          refine lv_icmp_ne (tgt := 384) (pc := 379) hx hb dL_acts_379 (by decide) (fun c379 => ?_) (fun c379 => ?_)
                          · replace h := h.1 c379
                            refine lv_aload_n (pc := 384) hx hb dL_acts_384 rfl (lv_at hl 4 rfl) ?_
                            refine lv_iload (pc := 385) hx hb dL_acts_385 (lv_at hl 2 rfl) ?_
                            refine lv_iload_n (pc := 387) hx hb dL_acts_387 rfl (lv_at hl 3 rfl) ?_
                            refine lv_iconst (v := 1) (pc := 388) hx hb dL_acts_388 (by decide) ?_
                            refine lv_iload_n (pc := 389) hx hb dL_acts_389 rfl (lv_at hl 6 rfl) ?_
                            refine lv_bipush (v := 6) (pc := 390) hx hb dL_acts_390 (by decide) ?_
                            refine m_callSI (pc := 392) (y := yL_low) (As := [.int p3, .int 6]) (rest := [.int 1, .int v1, .int r3, .ref (b + p1)]) C hK hP hS hl.1 ⟨Nat.zero_le _, Nat.zero_le _⟩ (c_L_low h) rfl rfl q_532 q_533 q_0 q_534 ⟨rfl, rfl⟩ yd_L_low ⟨Nat.le_of_ble_eq_true rfl, Nat.le_of_ble_eq_true rfl⟩ (Nat.le_of_ble_eq_true rfl) dL_acts_392 (fun r76 M75 H locs h hP hS => ?_)
                            refine lv_iadd (pc := 395) hx hb dL_acts_395 ?_
                            refine lv_iload_n (pc := 396) hx hb dL_acts_396 rfl (lv_at hl 6 rfl) ?_
                            refine lv_iconst (v := 3) (pc := 397) hx hb dL_acts_397 (by decide) ?_
                            refine lv_ishr (pc := 398) hx hb dL_acts_398 ?_
                            refine lv_sipush (v := 400) (pc := 399) hx hb dL_acts_399 (by decide) ?_
                            refine m_callSI (pc := 402) (y := yL_low) (As := [.int (p3 >>> (3 &&& 31)), .int 400]) (rest := [.int (1 + r76), .int v1, .int r3, .ref (b + p1)]) C hK hP hS hl.1 ⟨Nat.zero_le _, Nat.zero_le _⟩ (c_L_low h) rfl rfl q_532 q_533 q_0 q_534 ⟨rfl, rfl⟩ yd_L_low ⟨Nat.le_of_ble_eq_true rfl, Nat.le_of_ble_eq_true rfl⟩ (Nat.le_of_ble_eq_true rfl) dL_acts_402 (fun r78 M77 H locs h hP hS => ?_)
                            refine lv_iload_n (pc := 405) hx hb dL_acts_405 rfl (lv_at hl 6 rfl) ?_
                            refine lv_bipush (v := 12) (pc := 406) hx hb dL_acts_406 (by decide) ?_
                            refine lv_ishr (pc := 408) hx hb dL_acts_408 ?_
                            refine lv_iconst (v := 3) (pc := 409) hx hb dL_acts_409 (by decide) ?_
                            refine lv_iand (pc := 410) hx hb dL_acts_410 ?_
                            refine m_joinZ (z := if ¬ ((p3 >>> (12 &&& 31)) &&& 3) = 0 then false else true) (jp := 419) (rest := [.int r78, .int (1 + r76), .int v1, .int r3, .ref (b + p1)]) ?_ (fun hJ => ?_)
                            rotate_left
                            · skip
                              refine lv_if_ne (tgt := 418) (pc := 411) hx hb dL_acts_411 (by decide) (fun c411 => ?_) (fun c411 => ?_)
                              · skip
                                refine lv_iconst (v := 0) (pc := 418) hx hb dL_acts_418 (by decide) ?_
                                exact hJ _ false rfl (by rw [if_pos c411])
                              · skip
                                refine lv_iconst (v := 1) (pc := 414) hx hb dL_acts_414 (by decide) ?_
                                refine lv_goto (tgt := 419) (pc := 415) hx hb dL_acts_415 (by decide) ?_
                                exact hJ _ true rfl (by rw [if_neg (fun hn => hn c411)])
                            refine m_callVI (pc := 419) (y := yX6_job) (κ := 6) (As := [.int r3, .int v1, .int (1 + r76), .int r78, .int (bI (if ¬ ((p3 >>> (12 &&& 31)) &&& 3) = 0 then false else true))]) (rest := []) C hK hP hS hl.1 ⟨Nat.zero_le _, Nat.zero_le _⟩ (c_X6_job h) rfl rfl hk5 (by decide) rfl q_620 q_621 q_622 q_1 q_623 ⟨rfl, rfl⟩ yd_X6_job ⟨Nat.le_of_ble_eq_true rfl, Nat.le_of_ble_eq_true rfl⟩ (Nat.le_of_ble_eq_true rfl) dL_acts_419 (fun r80 M79 H locs h hP hS => ?_)
                            refine lv_pop (pc := 422) hx hb dL_acts_422 rfl ?_
                            refine lv_iconst (v := 0) (pc := 423) hx hb dL_acts_423 (by decide) ?_
                            exact m_iret (v := 0) (pc := 424) C hr hlk hP hS dL_acts_424 h
                          · replace h := h.2 c379
                            refine lv_iconst (v := -1) (pc := 382) hx hb dL_acts_382 (by decide) ?_
                            exact m_iret (v := (-1)) (pc := 383) C hr hlk hP hS dL_acts_383 h
                        · replace h := h.2 n52_10
                          refine lv_tableOut (tgt := 425) (pc := 52) hx hb dL_acts_52 (by have i0 := i_ne n52_0; have i1 := i_ne n52_1; have i2 := i_ne n52_2; have i3 := i_ne n52_3; have i4 := i_ne n52_4; have i5 := i_ne n52_5; have i6 := i_ne n52_6; have i7 := i_ne n52_7; have i8 := i_ne n52_8; have i9 := i_ne n52_9; have i10 := i_ne n52_10; simp only [m_lit] at *; omega) (by decide) ?_
                          refine lv_aload_n (pc := 425) hx hb dL_acts_425 rfl (lv_at hl 4 rfl) ?_
                          refine lv_iconst (v := 1) (pc := 426) hx hb dL_acts_426 (by decide) ?_
                          refine lv_iload_n (pc := 427) hx hb dL_acts_427 rfl (lv_at hl 6 rfl) ?_
                          refine lv_iload_n (pc := 428) hx hb dL_acts_428 rfl (lv_at hl 6 rfl) ?_
                          refine lv_bipush (v := 7) (pc := 429) hx hb dL_acts_429 (by decide) ?_
                          refine lv_ishr (pc := 431) hx hb dL_acts_431 ?_
                          refine lv_iconst (v := 3) (pc := 432) hx hb dL_acts_432 (by decide) ?_
                          refine lv_iand (pc := 433) hx hb dL_acts_433 ?_
                          refine m_join (v := if ¬ ((p3 >>> (7 &&& 31)) &&& 3) = 0 then 6 else 60) (jp := 444) (rest := [.int p3, .int 1, .ref (b + p1)]) ?_ (fun hJ => ?_)
                          rotate_left
                          · skip
                            refine lv_if_ne (tgt := 442) (pc := 434) hx hb dL_acts_434 (by decide) (fun c434 => ?_) (fun c434 => ?_)
                            · skip
                              refine lv_bipush (v := 6) (pc := 442) hx hb dL_acts_442 (by decide) ?_
                              exact hJ _ (by rw [if_pos c434])
                            · skip
                              refine lv_bipush (v := 60) (pc := 437) hx hb dL_acts_437 (by decide) ?_
                              refine lv_goto (tgt := 444) (pc := 439) hx hb dL_acts_439 (by decide) ?_
                              exact hJ _ (by rw [if_neg (fun hn => hn c434)])
                          refine m_callSI (pc := 444) (y := yL_low) (As := [.int p3, .int (if ¬ ((p3 >>> (7 &&& 31)) &&& 3) = 0 then 6 else 60)]) (rest := [.int 1, .ref (b + p1)]) C hK hP hS hl.1 ⟨Nat.zero_le _, Nat.zero_le _⟩ (c_L_low h) rfl rfl q_532 q_533 q_0 q_534 ⟨rfl, rfl⟩ yd_L_low ⟨Nat.le_of_ble_eq_true rfl, Nat.le_of_ble_eq_true rfl⟩ (Nat.le_of_ble_eq_true rfl) dL_acts_444 (fun r82 M81 H locs h hP hS => ?_)
                          refine lv_iadd (pc := 447) hx hb dL_acts_447 ?_
                          refine m_callVI (pc := 448) (y := yX6_pass) (κ := 6) (As := [.int (1 + r82)]) (rest := []) C hK hP hS hl.1 ⟨Nat.zero_le _, Nat.zero_le _⟩ (c_X6_pass h) rfl rfl hk5 (by decide) rfl q_631 q_632 q_633 q_1 q_634 ⟨rfl, rfl⟩ yd_X6_pass ⟨Nat.le_of_ble_eq_true rfl, Nat.le_of_ble_eq_true rfl⟩ (Nat.le_of_ble_eq_true rfl) dL_acts_448 (fun r84 M83 H locs h hP hS => ?_)
                          refine lv_pop (pc := 451) hx hb dL_acts_451 rfl ?_
                          refine lv_iconst (v := 0) (pc := 452) hx hb dL_acts_452 (by decide) ?_
                          exact m_iret (v := 0) (pc := 453) C hr hlk hP hS dL_acts_453 h
  · replace h := h.2 c25
    refine lv_iconst (v := -1) (pc := 28) hx hb dL_acts_28 (by decide) ?_
    refine lv_goto (tgt := 46) (pc := 29) hx hb dL_acts_29 (by decide) ?_
    refine lv_istore (lv' := [(6, .int (-1)), (5, .int r6), (4, .int r3), (3, .int v1), (0, .ref (b + p1)), (1, .int p2), (2, .int p3)]) (pc := 46) hx hb dL_acts_46 hl (by decide) rfl (fun ls hl => ?_)
    refine lv_iload_n (pc := 48) hx hb dL_acts_48 rfl (lv_at hl 5 rfl) ?_
    refine lv_bipush (v := 15) (pc := 49) hx hb dL_acts_49 (by decide) ?_
    refine lv_iand (pc := 51) hx hb dL_acts_51 ?_
    by_cases n52_0 : (p2 &&& 15) = 0
    · replace h := h.1 n52_0
      refine m_case (v := 0) (off := 60) (tgt := 112) (pc := 52) hx hb n52_0 dL_acts_52 (by decide) (by decide) (by decide) (by decide) ?_
      refine lv_iconst (v := 1) (pc := 112) hx hb dL_acts_112 (by decide) ?_
      refine lv_iload_n (pc := 113) hx hb dL_acts_113 rfl (lv_at hl 6 rfl) ?_
      refine lv_bipush (v := 40) (pc := 114) hx hb dL_acts_114 (by decide) ?_
      refine m_callSI (pc := 116) (y := yL_low) (As := [.int p3, .int 40]) (rest := [.int 1]) C hK hP hS hl.1 ⟨Nat.zero_le _, Nat.zero_le _⟩ (c_L_low h) rfl rfl q_532 q_533 q_0 q_534 ⟨rfl, rfl⟩ yd_L_low ⟨Nat.le_of_ble_eq_true rfl, Nat.le_of_ble_eq_true rfl⟩ (Nat.le_of_ble_eq_true rfl) dL_acts_116 (fun r86 M85 H locs h hP hS => ?_)
      refine lv_iadd (pc := 119) hx hb dL_acts_119 ?_
      refine lv_topi (fun v87 ev87 => ?_)
      replace h := h v87 ev87
      refine lv_istore (lv' := [(7, .int v87), (6, .int (-1)), (5, .int r6), (4, .int r3), (3, .int v1), (0, .ref (b + p1)), (1, .int p2), (2, .int p3)]) (pc := 120) hx hb dL_acts_120 hl (by decide) rfl (fun ls hl => ?_)
      refine lv_aload_n (pc := 122) hx hb dL_acts_122 rfl (lv_at hl 5 rfl) ?_
      refine lv_iload_n (pc := 123) hx hb dL_acts_123 rfl (lv_at hl 4 rfl) ?_
      refine lv_iconst (v := 0) (pc := 124) hx hb dL_acts_124 (by decide) ?_
      refine m_callVI (pc := 125) (y := yX6_heat) (κ := 6) (As := [.int v1, .int 0]) (rest := []) C hK hP hS hl.1 ⟨Nat.zero_le _, Nat.zero_le _⟩ (c_X6_heat h) rfl rfl hk5 (by decide) rfl q_466 q_467 q_468 q_1 q_469 ⟨rfl, rfl⟩ yd_X6_heat ⟨Nat.le_of_ble_eq_true rfl, Nat.le_of_ble_eq_true rfl⟩ (Nat.le_of_ble_eq_true rfl) dL_acts_125 (fun r89 M88 H locs h hP hS => ?_)
      refine lv_iload (pc := 128) hx hb dL_acts_128 (lv_at hl 0 rfl) ?_
      refine lv_iadd (pc := 130) hx hb dL_acts_130 ?_
      refine lv_sipush (v := 200) (pc := 131) hx hb dL_acts_131 (by decide) ?_
      refine lv_icmp_le (tgt := 139) (pc := 134) hx hb dL_acts_134 (by decide) (fun c134 => ?_) (fun c134 => ?_)
      · replace h := h.1 c134
        refine lv_aload_n (pc := 139) hx hb dL_acts_139 rfl (lv_at hl 5 rfl) ?_
        refine lv_iload_n (pc := 140) hx hb dL_acts_140 rfl (lv_at hl 4 rfl) ?_
        refine lv_iload (pc := 141) hx hb dL_acts_141 (lv_at hl 0 rfl) ?_
        refine m_callVI (pc := 143) (y := yX6_stock) (κ := 6) (As := [.int v1, .int v87]) (rest := []) C hK hP hS hl.1 ⟨Nat.zero_le _, Nat.zero_le _⟩ (c_X6_stock h) rfl rfl hk5 (by decide) rfl q_536 q_537 q_538 q_1 q_539 ⟨rfl, rfl⟩ yd_X6_stock ⟨Nat.le_of_ble_eq_true rfl, Nat.le_of_ble_eq_true rfl⟩ (Nat.le_of_ble_eq_true rfl) dL_acts_143 (fun r91 M90 H locs h hP hS => ?_)
        refine lv_pop (pc := 146) hx hb dL_acts_146 rfl ?_
        refine lv_bipush (v := 100) (pc := 147) hx hb dL_acts_147 (by decide) ?_
        refine lv_iload_n (pc := 149) hx hb dL_acts_149 rfl (lv_at hl 4 rfl) ?_
        refine lv_imul (pc := 150) hx hb dL_acts_150 ?_
        refine lv_iload (pc := 151) hx hb dL_acts_151 (lv_at hl 0 rfl) ?_
        refine lv_iadd (pc := 153) hx hb dL_acts_153 ?_
        exact m_iret (v := (100 * v1) + v87) (pc := 154) C hr hlk hP hS dL_acts_154 h
      · replace h := h.2 c134
        refine lv_iconst (v := -1) (pc := 137) hx hb dL_acts_137 (by decide) ?_
        exact m_iret (v := (-1)) (pc := 138) C hr hlk hP hS dL_acts_138 h
    · replace h := h.2 n52_0
      by_cases n52_1 : (p2 &&& 15) = 1
      · replace h := h.1 n52_1
        refine m_case (v := 1) (off := 60) (tgt := 112) (pc := 52) hx hb n52_1 dL_acts_52 (by decide) (by decide) (by decide) (by decide) ?_
        refine lv_iconst (v := 1) (pc := 112) hx hb dL_acts_112 (by decide) ?_
        refine lv_iload_n (pc := 113) hx hb dL_acts_113 rfl (lv_at hl 6 rfl) ?_
        refine lv_bipush (v := 40) (pc := 114) hx hb dL_acts_114 (by decide) ?_
        refine m_callSI (pc := 116) (y := yL_low) (As := [.int p3, .int 40]) (rest := [.int 1]) C hK hP hS hl.1 ⟨Nat.zero_le _, Nat.zero_le _⟩ (c_L_low h) rfl rfl q_532 q_533 q_0 q_534 ⟨rfl, rfl⟩ yd_L_low ⟨Nat.le_of_ble_eq_true rfl, Nat.le_of_ble_eq_true rfl⟩ (Nat.le_of_ble_eq_true rfl) dL_acts_116 (fun r93 M92 H locs h hP hS => ?_)
        refine lv_iadd (pc := 119) hx hb dL_acts_119 ?_
        refine lv_topi (fun v94 ev94 => ?_)
        replace h := h v94 ev94
        refine lv_istore (lv' := [(7, .int v94), (6, .int (-1)), (5, .int r6), (4, .int r3), (3, .int v1), (0, .ref (b + p1)), (1, .int p2), (2, .int p3)]) (pc := 120) hx hb dL_acts_120 hl (by decide) rfl (fun ls hl => ?_)
        refine lv_aload_n (pc := 122) hx hb dL_acts_122 rfl (lv_at hl 5 rfl) ?_
        refine lv_iload_n (pc := 123) hx hb dL_acts_123 rfl (lv_at hl 4 rfl) ?_
        refine lv_iconst (v := 0) (pc := 124) hx hb dL_acts_124 (by decide) ?_
        refine m_callVI (pc := 125) (y := yX6_heat) (κ := 6) (As := [.int v1, .int 0]) (rest := []) C hK hP hS hl.1 ⟨Nat.zero_le _, Nat.zero_le _⟩ (c_X6_heat h) rfl rfl hk5 (by decide) rfl q_466 q_467 q_468 q_1 q_469 ⟨rfl, rfl⟩ yd_X6_heat ⟨Nat.le_of_ble_eq_true rfl, Nat.le_of_ble_eq_true rfl⟩ (Nat.le_of_ble_eq_true rfl) dL_acts_125 (fun r96 M95 H locs h hP hS => ?_)
        refine lv_iload (pc := 128) hx hb dL_acts_128 (lv_at hl 0 rfl) ?_
        refine lv_iadd (pc := 130) hx hb dL_acts_130 ?_
        refine lv_sipush (v := 200) (pc := 131) hx hb dL_acts_131 (by decide) ?_
        refine lv_icmp_le (tgt := 139) (pc := 134) hx hb dL_acts_134 (by decide) (fun c134 => ?_) (fun c134 => ?_)
        · replace h := h.1 c134
          refine lv_aload_n (pc := 139) hx hb dL_acts_139 rfl (lv_at hl 5 rfl) ?_
          refine lv_iload_n (pc := 140) hx hb dL_acts_140 rfl (lv_at hl 4 rfl) ?_
          refine lv_iload (pc := 141) hx hb dL_acts_141 (lv_at hl 0 rfl) ?_
          refine m_callVI (pc := 143) (y := yX6_stock) (κ := 6) (As := [.int v1, .int v94]) (rest := []) C hK hP hS hl.1 ⟨Nat.zero_le _, Nat.zero_le _⟩ (c_X6_stock h) rfl rfl hk5 (by decide) rfl q_536 q_537 q_538 q_1 q_539 ⟨rfl, rfl⟩ yd_X6_stock ⟨Nat.le_of_ble_eq_true rfl, Nat.le_of_ble_eq_true rfl⟩ (Nat.le_of_ble_eq_true rfl) dL_acts_143 (fun r98 M97 H locs h hP hS => ?_)
          refine lv_pop (pc := 146) hx hb dL_acts_146 rfl ?_
          refine lv_bipush (v := 100) (pc := 147) hx hb dL_acts_147 (by decide) ?_
          refine lv_iload_n (pc := 149) hx hb dL_acts_149 rfl (lv_at hl 4 rfl) ?_
          refine lv_imul (pc := 150) hx hb dL_acts_150 ?_
          refine lv_iload (pc := 151) hx hb dL_acts_151 (lv_at hl 0 rfl) ?_
          refine lv_iadd (pc := 153) hx hb dL_acts_153 ?_
          exact m_iret (v := (100 * v1) + v94) (pc := 154) C hr hlk hP hS dL_acts_154 h
        · replace h := h.2 c134
          refine lv_iconst (v := -1) (pc := 137) hx hb dL_acts_137 (by decide) ?_
          exact m_iret (v := (-1)) (pc := 138) C hr hlk hP hS dL_acts_138 h
      · replace h := h.2 n52_1
        by_cases n52_2 : (p2 &&& 15) = 2
        · replace h := h.1 n52_2
          refine m_case (v := 2) (off := 103) (tgt := 155) (pc := 52) hx hb n52_2 dL_acts_52 (by decide) (by decide) (by decide) (by decide) ?_
          refine lv_sipush (v := 600) (pc := 155) hx hb dL_acts_155 (by decide) ?_
          refine lv_iload_n (pc := 158) hx hb dL_acts_158 rfl (lv_at hl 6 rfl) ?_
          refine lv_sipush (v := 641) (pc := 159) hx hb dL_acts_159 (by decide) ?_
          refine m_callSI (pc := 162) (y := yL_low) (As := [.int p3, .int 641]) (rest := [.int 600]) C hK hP hS hl.1 ⟨Nat.zero_le _, Nat.zero_le _⟩ (c_L_low h) rfl rfl q_532 q_533 q_0 q_534 ⟨rfl, rfl⟩ yd_L_low ⟨Nat.le_of_ble_eq_true rfl, Nat.le_of_ble_eq_true rfl⟩ (Nat.le_of_ble_eq_true rfl) dL_acts_162 (fun r100 M99 H locs h hP hS => ?_)
          refine lv_iadd (pc := 165) hx hb dL_acts_165 ?_
          refine lv_topi (fun v101 ev101 => ?_)
          replace h := h v101 ev101
          refine lv_istore (lv' := [(8, .int v101), (6, .int (-1)), (5, .int r6), (4, .int r3), (3, .int v1), (0, .ref (b + p1)), (1, .int p2), (2, .int p3)]) (pc := 166) hx hb dL_acts_166 hl (by decide) rfl (fun ls hl => ?_)
          refine lv_aload_n (pc := 168) hx hb dL_acts_168 rfl (lv_at hl 5 rfl) ?_
          refine lv_iload_n (pc := 169) hx hb dL_acts_169 rfl (lv_at hl 4 rfl) ?_
          refine lv_iload (pc := 170) hx hb dL_acts_170 (lv_at hl 0 rfl) ?_
          refine lv_iload (pc := 172) hx hb dL_acts_172 (lv_at hl 0 rfl) ?_
          refine lv_iload_n (pc := 174) hx hb dL_acts_174 rfl (lv_at hl 7 rfl) ?_
          refine lv_bipush (v := 10) (pc := 175) hx hb dL_acts_175 (by decide) ?_
          refine lv_ishr (pc := 177) hx hb dL_acts_177 ?_
          refine lv_sipush (v := 1241) (pc := 178) hx hb dL_acts_178 (by decide) ?_
          refine lv_iload (pc := 181) hx hb dL_acts_181 (lv_at hl 0 rfl) ?_
          refine lv_isub (pc := 183) hx hb dL_acts_183 ?_
          refine m_callSI (pc := 184) (y := yL_low) (As := [.int (p3 >>> (10 &&& 31)), .int (1241 - v101)]) (rest := [.int v101, .int v101, .int v1, .ref (b + p1)]) C hK hP hS hl.1 ⟨Nat.zero_le _, Nat.zero_le _⟩ (c_L_low h) rfl rfl q_532 q_533 q_0 q_534 ⟨rfl, rfl⟩ yd_L_low ⟨Nat.le_of_ble_eq_true rfl, Nat.le_of_ble_eq_true rfl⟩ (Nat.le_of_ble_eq_true rfl) dL_acts_184 (fun r103 M102 H locs h hP hS => ?_)
          refine lv_iadd (pc := 187) hx hb dL_acts_187 ?_
          refine m_callVI (pc := 188) (y := yX6_range) (κ := 6) (As := [.int v1, .int v101, .int (v101 + r103)]) (rest := []) C hK hP hS hl.1 ⟨Nat.zero_le _, Nat.zero_le _⟩ (c_X6_range h) rfl rfl hk5 (by decide) rfl q_551 q_552 q_553 q_1 q_554 ⟨rfl, rfl⟩ yd_X6_range ⟨Nat.le_of_ble_eq_true rfl, Nat.le_of_ble_eq_true rfl⟩ (Nat.le_of_ble_eq_true rfl) dL_acts_188 (fun r105 M104 H locs h hP hS => ?_)
          refine lv_pop (pc := 191) hx hb dL_acts_191 rfl ?_
          refine lv_iconst (v := 0) (pc := 192) hx hb dL_acts_192 (by decide) ?_
          exact m_iret (v := 0) (pc := 193) C hr hlk hP hS dL_acts_193 h
        · replace h := h.2 n52_2
          by_cases n52_3 : (p2 &&& 15) = 3
          · replace h := h.1 n52_3
            refine m_case (v := 3) (off := 142) (tgt := 194) (pc := 52) hx hb n52_3 dL_acts_52 (by decide) (by decide) (by decide) (by decide) ?_
            refine lv_aload_n (pc := 194) hx hb dL_acts_194 rfl (lv_at hl 4 rfl) ?_
            refine lv_iload (pc := 195) hx hb dL_acts_195 (lv_at hl 2 rfl) ?_
            refine lv_iconst (v := 3) (pc := 197) hx hb dL_acts_197 (by decide) ?_
            refine m_callVI (pc := 198) (y := yX6_dieOf) (κ := 6) (As := [.int r3, .int 3]) (rest := []) C hK hP hS hl.1 ⟨Nat.zero_le _, Nat.zero_le _⟩ (c_X6_dieOf h) rfl rfl hk5 (by decide) rfl q_488 q_489 q_490 q_1 q_491 ⟨rfl, rfl⟩ yd_X6_dieOf ⟨Nat.le_of_ble_eq_true rfl, Nat.le_of_ble_eq_true rfl⟩ (Nat.le_of_ble_eq_true rfl) dL_acts_198 (fun r107 M106 H locs h hP hS => ?_)
            refine lv_if_le (tgt := 206) (pc := 201) hx hb dL_acts_201 (by decide) (fun c201 => ?_) (fun c201 => ?_)
            · replace h := h.1 c201
              refine lv_aload_n (pc := 206) hx hb dL_acts_206 rfl (lv_at hl 4 rfl) ?_
              refine lv_iload (pc := 207) hx hb dL_acts_207 (lv_at hl 2 rfl) ?_
              refine lv_iconst (v := 1) (pc := 209) hx hb dL_acts_209 (by decide) ?_
              refine lv_iload_n (pc := 210) hx hb dL_acts_210 rfl (lv_at hl 6 rfl) ?_
              refine lv_bipush (v := 9) (pc := 211) hx hb dL_acts_211 (by decide) ?_
              refine m_callSI (pc := 213) (y := yL_low) (As := [.int p3, .int 9]) (rest := [.int 1, .int r3, .ref (b + p1)]) C hK hP hS hl.1 ⟨Nat.zero_le _, Nat.zero_le _⟩ (c_L_low h) rfl rfl q_532 q_533 q_0 q_534 ⟨rfl, rfl⟩ yd_L_low ⟨Nat.le_of_ble_eq_true rfl, Nat.le_of_ble_eq_true rfl⟩ (Nat.le_of_ble_eq_true rfl) dL_acts_213 (fun r109 M108 H locs h hP hS => ?_)
              refine lv_iadd (pc := 216) hx hb dL_acts_216 ?_
              refine lv_bipush (v := 10) (pc := 217) hx hb dL_acts_217 (by decide) ?_
              refine lv_iload_n (pc := 219) hx hb dL_acts_219 rfl (lv_at hl 6 rfl) ?_
              refine lv_iconst (v := 4) (pc := 220) hx hb dL_acts_220 (by decide) ?_
              refine lv_ishr (pc := 221) hx hb dL_acts_221 ?_
              refine lv_bipush (v := 40) (pc := 222) hx hb dL_acts_222 (by decide) ?_
              refine m_callSI (pc := 224) (y := yL_low) (As := [.int (p3 >>> (4 &&& 31)), .int 40]) (rest := [.int 10, .int (1 + r109), .int r3, .ref (b + p1)]) C hK hP hS hl.1 ⟨Nat.zero_le _, Nat.zero_le _⟩ (c_L_low h) rfl rfl q_532 q_533 q_0 q_534 ⟨rfl, rfl⟩ yd_L_low ⟨Nat.le_of_ble_eq_true rfl, Nat.le_of_ble_eq_true rfl⟩ (Nat.le_of_ble_eq_true rfl) dL_acts_224 (fun r111 M110 H locs h hP hS => ?_)
              refine lv_iadd (pc := 227) hx hb dL_acts_227 ?_
              refine m_callVI (pc := 228) (y := yX6_die) (κ := 6) (As := [.int r3, .int (1 + r109), .int (10 + r111)]) (rest := []) C hK hP hS hl.1 ⟨Nat.zero_le _, Nat.zero_le _⟩ (c_X6_die h) rfl rfl hk5 (by decide) rfl q_556 q_557 q_558 q_1 q_559 ⟨rfl, rfl⟩ yd_X6_die ⟨Nat.le_of_ble_eq_true rfl, Nat.le_of_ble_eq_true rfl⟩ (Nat.le_of_ble_eq_true rfl) dL_acts_228 (fun r113 M112 H locs h hP hS => ?_)
              refine lv_pop (pc := 231) hx hb dL_acts_231 rfl ?_
              refine lv_iconst (v := 0) (pc := 232) hx hb dL_acts_232 (by decide) ?_
              exact m_iret (v := 0) (pc := 233) C hr hlk hP hS dL_acts_233 h
            · replace h := h.2 c201
              refine lv_iconst (v := -1) (pc := 204) hx hb dL_acts_204 (by decide) ?_
              exact m_iret (v := (-1)) (pc := 205) C hr hlk hP hS dL_acts_205 h
          · replace h := h.2 n52_3
            by_cases n52_4 : (p2 &&& 15) = 4
            · replace h := h.1 n52_4
              refine m_case (v := 4) (off := 182) (tgt := 234) (pc := 52) hx hb n52_4 dL_acts_52 (by decide) (by decide) (by decide) (by decide) ?_
              refine lv_aload_n (pc := 234) hx hb dL_acts_234 rfl (lv_at hl 4 rfl) ?_
              refine lv_bipush (v := 10) (pc := 235) hx hb dL_acts_235 (by decide) ?_
              refine m_callVI (pc := 237) (y := yX6_count) (κ := 6) (As := [.int 10]) (rest := []) C hK hP hS hl.1 ⟨Nat.zero_le _, Nat.zero_le _⟩ (c_X6_count h) rfl rfl hk5 (by decide) rfl q_383 q_384 q_385 q_1 q_386 ⟨rfl, rfl⟩ yd_X6_count ⟨Nat.le_of_ble_eq_true rfl, Nat.le_of_ble_eq_true rfl⟩ (Nat.le_of_ble_eq_true rfl) dL_acts_237 (fun r115 M114 H locs h hP hS => ?_)
              refine lv_if_lt (tgt := 245) (pc := 240) hx hb dL_acts_240 (by decide) (fun c240 => ?_) (fun c240 => ?_)
              · replace h := h.1 c240
                refine lv_aload_n (pc := 245) hx hb dL_acts_245 rfl (lv_at hl 4 rfl) ?_
                refine lv_iload (pc := 246) hx hb dL_acts_246 (lv_at hl 2 rfl) ?_
                refine m_callVI (pc := 248) (y := yX6_grind) (κ := 6) (As := [.int r3]) (rest := []) C hK hP hS hl.1 ⟨Nat.zero_le _, Nat.zero_le _⟩ (c_X6_grind h) rfl rfl hk5 (by decide) rfl q_563 q_564 q_565 q_1 q_566 ⟨rfl, rfl⟩ yd_X6_grind ⟨Nat.le_of_ble_eq_true rfl, Nat.le_of_ble_eq_true rfl⟩ (Nat.le_of_ble_eq_true rfl) dL_acts_248 (fun r117 M116 H locs h hP hS => ?_)
                refine lv_pop (pc := 251) hx hb dL_acts_251 rfl ?_
                refine lv_iconst (v := 0) (pc := 252) hx hb dL_acts_252 (by decide) ?_
                exact m_iret (v := 0) (pc := 253) C hr hlk hP hS dL_acts_253 h
              · replace h := h.2 c240
                refine lv_iconst (v := -1) (pc := 243) hx hb dL_acts_243 (by decide) ?_
                exact m_iret (v := (-1)) (pc := 244) C hr hlk hP hS dL_acts_244 h
            · replace h := h.2 n52_4
              by_cases n52_5 : (p2 &&& 15) = 5
              · replace h := h.1 n52_5
                refine m_case (v := 5) (off := 202) (tgt := 254) (pc := 52) hx hb n52_5 dL_acts_52 (by decide) (by decide) (by decide) (by decide) ?_
                refine lv_iload_n (pc := 254) hx hb dL_acts_254 rfl (lv_at hl 6 rfl) ?_
                refine lv_iconst (v := 3) (pc := 255) hx hb dL_acts_255 (by decide) ?_
                refine lv_iand (pc := 256) hx hb dL_acts_256 ?_
                refine lv_topi (fun v118 ev118 => ?_)
                replace h := h v118 ev118
                refine lv_istore (lv' := [(9, .int v118), (6, .int (-1)), (5, .int r6), (4, .int r3), (3, .int v1), (0, .ref (b + p1)), (1, .int p2), (2, .int p3)]) (pc := 257) hx hb dL_acts_257 hl (by decide) rfl (fun ls hl => ?_)
                refine lv_aload_n (pc := 259) hx hb dL_acts_259 rfl (lv_at hl 5 rfl) ?_
                refine lv_iload (pc := 260) hx hb dL_acts_260 (lv_at hl 0 rfl) ?_
                refine lv_iload (pc := 262) hx hb dL_acts_262 (lv_at hl 0 rfl) ?_
                refine lv_if_ne (tgt := 282) (pc := 264) hx hb dL_acts_264 (by decide) (fun c264 => ?_) (fun c264 => ?_)
                · replace h := h.1 c264
                  refine lv_iload (pc := 282) hx hb dL_acts_282 (lv_at hl 0 rfl) ?_
                  refine lv_iconst (v := 1) (pc := 284) hx hb dL_acts_284 (by decide) ?_
                  refine lv_icmp_ne (tgt := 302) (pc := 285) hx hb dL_acts_285 (by decide) (fun c285 => ?_) (fun c285 => ?_)
                  · replace h := h.1 c285
                    refine lv_iload (pc := 302) hx hb dL_acts_302 (lv_at hl 0 rfl) ?_
                    refine lv_iconst (v := 2) (pc := 304) hx hb dL_acts_304 (by decide) ?_
                    refine lv_icmp_ne (tgt := 316) (pc := 305) hx hb dL_acts_305 (by decide) (fun c305 => ?_) (fun c305 => ?_)
                    · replace h := h.1 c305
                      refine lv_iconst (v := 1) (pc := 316) hx hb dL_acts_316 (by decide) ?_
                      refine lv_iload_n (pc := 317) hx hb dL_acts_317 rfl (lv_at hl 7 rfl) ?_
                      refine lv_iconst (v := 2) (pc := 318) hx hb dL_acts_318 (by decide) ?_
                      refine lv_ishr (pc := 319) hx hb dL_acts_319 ?_
                      refine lv_bipush (v := 30) (pc := 320) hx hb dL_acts_320 (by decide) ?_
                      refine m_callSI (pc := 322) (y := yL_low) (As := [.int (p3 >>> (2 &&& 31)), .int 30]) (rest := [.int 1, .int v118, .ref (b + p1)]) C hK hP hS hl.1 ⟨Nat.zero_le _, Nat.zero_le _⟩ (c_L_low h) rfl rfl q_532 q_533 q_0 q_534 ⟨rfl, rfl⟩ yd_L_low ⟨Nat.le_of_ble_eq_true rfl, Nat.le_of_ble_eq_true rfl⟩ (Nat.le_of_ble_eq_true rfl) dL_acts_322 (fun r120 M119 H locs h hP hS => ?_)
                      refine lv_iadd (pc := 325) hx hb dL_acts_325 ?_
                      refine m_callVI (pc := 326) (y := yX6_set) (κ := 6) (As := [.int v118, .int (1 + r120)]) (rest := []) C hK hP hS hl.1 ⟨Nat.zero_le _, Nat.zero_le _⟩ (c_X6_set h) rfl rfl hk5 (by decide) rfl q_568 q_569 q_570 q_1 q_571 ⟨rfl, rfl⟩ yd_X6_set ⟨Nat.le_of_ble_eq_true rfl, Nat.le_of_ble_eq_true rfl⟩ (Nat.le_of_ble_eq_true rfl) dL_acts_326 (fun r122 M121 H locs h hP hS => ?_)
                      refine lv_pop (pc := 329) hx hb dL_acts_329 rfl ?_
                      refine lv_iconst (v := 0) (pc := 330) hx hb dL_acts_330 (by decide) ?_
                      exact m_iret (v := 0) (pc := 331) C hr hlk hP hS dL_acts_331 h
                    · replace h := h.2 c305
                      refine lv_iload_n (pc := 308) hx hb dL_acts_308 rfl (lv_at hl 7 rfl) ?_
                      refine lv_iconst (v := 2) (pc := 309) hx hb dL_acts_309 (by decide) ?_
                      refine lv_ishr (pc := 310) hx hb dL_acts_310 ?_
                      refine lv_iconst (v := 3) (pc := 311) hx hb dL_acts_311 (by decide) ?_
                      refine lv_iand (pc := 312) hx hb dL_acts_312 ?_
                      refine lv_goto (tgt := 326) (pc := 313) hx hb dL_acts_313 (by decide) ?_
                      refine m_callVI (pc := 326) (y := yX6_set) (κ := 6) (As := [.int v118, .int ((p3 >>> (2 &&& 31)) &&& 3)]) (rest := []) C hK hP hS hl.1 ⟨Nat.zero_le _, Nat.zero_le _⟩ (c_X6_set h) rfl rfl hk5 (by decide) rfl q_568 q_569 q_570 q_1 q_571 ⟨rfl, rfl⟩ yd_X6_set ⟨Nat.le_of_ble_eq_true rfl, Nat.le_of_ble_eq_true rfl⟩ (Nat.le_of_ble_eq_true rfl) dL_acts_326 (fun r124 M123 H locs h hP hS => ?_)
                      refine lv_pop (pc := 329) hx hb dL_acts_329 rfl ?_
                      refine lv_iconst (v := 0) (pc := 330) hx hb dL_acts_330 (by decide) ?_
                      exact m_iret (v := 0) (pc := 331) C hr hlk hP hS dL_acts_331 h
                  · replace h := h.2 c285
                    refine lv_iconst (v := 1) (pc := 288) hx hb dL_acts_288 (by decide) ?_
                    refine lv_iload_n (pc := 289) hx hb dL_acts_289 rfl (lv_at hl 7 rfl) ?_
                    refine lv_iconst (v := 2) (pc := 290) hx hb dL_acts_290 (by decide) ?_
                    refine lv_ishr (pc := 291) hx hb dL_acts_291 ?_
                    refine lv_sipush (v := 200) (pc := 292) hx hb dL_acts_292 (by decide) ?_
                    refine m_callSI (pc := 295) (y := yL_low) (As := [.int (p3 >>> (2 &&& 31)), .int 200]) (rest := [.int 1, .int v118, .ref (b + p1)]) C hK hP hS hl.1 ⟨Nat.zero_le _, Nat.zero_le _⟩ (c_L_low h) rfl rfl q_532 q_533 q_0 q_534 ⟨rfl, rfl⟩ yd_L_low ⟨Nat.le_of_ble_eq_true rfl, Nat.le_of_ble_eq_true rfl⟩ (Nat.le_of_ble_eq_true rfl) dL_acts_295 (fun r126 M125 H locs h hP hS => ?_)
                    refine lv_iadd (pc := 298) hx hb dL_acts_298 ?_
                    refine lv_goto (tgt := 326) (pc := 299) hx hb dL_acts_299 (by decide) ?_
                    refine m_callVI (pc := 326) (y := yX6_set) (κ := 6) (As := [.int v118, .int (1 + r126)]) (rest := []) C hK hP hS hl.1 ⟨Nat.zero_le _, Nat.zero_le _⟩ (c_X6_set h) rfl rfl hk5 (by decide) rfl q_568 q_569 q_570 q_1 q_571 ⟨rfl, rfl⟩ yd_X6_set ⟨Nat.le_of_ble_eq_true rfl, Nat.le_of_ble_eq_true rfl⟩ (Nat.le_of_ble_eq_true rfl) dL_acts_326 (fun r128 M127 H locs h hP hS => ?_)
                    refine lv_pop (pc := 329) hx hb dL_acts_329 rfl ?_
                    refine lv_iconst (v := 0) (pc := 330) hx hb dL_acts_330 (by decide) ?_
                    exact m_iret (v := 0) (pc := 331) C hr hlk hP hS dL_acts_331 h
                · replace h := h.2 c264
                  refine lv_bipush (v := 10) (pc := 267) hx hb dL_acts_267 (by decide) ?_
                  refine lv_iload_n (pc := 269) hx hb dL_acts_269 rfl (lv_at hl 7 rfl) ?_
                  refine lv_iconst (v := 2) (pc := 270) hx hb dL_acts_270 (by decide) ?_
                  refine lv_ishr (pc := 271) hx hb dL_acts_271 ?_
                  refine lv_sipush (v := 291) (pc := 272) hx hb dL_acts_272 (by decide) ?_
                  refine m_callSI (pc := 275) (y := yL_low) (As := [.int (p3 >>> (2 &&& 31)), .int 291]) (rest := [.int 10, .int v118, .ref (b + p1)]) C hK hP hS hl.1 ⟨Nat.zero_le _, Nat.zero_le _⟩ (c_L_low h) rfl rfl q_532 q_533 q_0 q_534 ⟨rfl, rfl⟩ yd_L_low ⟨Nat.le_of_ble_eq_true rfl, Nat.le_of_ble_eq_true rfl⟩ (Nat.le_of_ble_eq_true rfl) dL_acts_275 (fun r130 M129 H locs h hP hS => ?_)
                  refine lv_iadd (pc := 278) hx hb dL_acts_278 ?_
                  refine lv_goto (tgt := 326) (pc := 279) hx hb dL_acts_279 (by decide) ?_
                  refine m_callVI (pc := 326) (y := yX6_set) (κ := 6) (As := [.int v118, .int (10 + r130)]) (rest := []) C hK hP hS hl.1 ⟨Nat.zero_le _, Nat.zero_le _⟩ (c_X6_set h) rfl rfl hk5 (by decide) rfl q_568 q_569 q_570 q_1 q_571 ⟨rfl, rfl⟩ yd_X6_set ⟨Nat.le_of_ble_eq_true rfl, Nat.le_of_ble_eq_true rfl⟩ (Nat.le_of_ble_eq_true rfl) dL_acts_326 (fun r132 M131 H locs h hP hS => ?_)
                  refine lv_pop (pc := 329) hx hb dL_acts_329 rfl ?_
                  refine lv_iconst (v := 0) (pc := 330) hx hb dL_acts_330 (by decide) ?_
                  exact m_iret (v := 0) (pc := 331) C hr hlk hP hS dL_acts_331 h
              · replace h := h.2 n52_5
                by_cases n52_6 : (p2 &&& 15) = 6
                · replace h := h.1 n52_6
                  refine m_case (v := 6) (off := 280) (tgt := 332) (pc := 52) hx hb n52_6 dL_acts_52 (by decide) (by decide) (by decide) (by decide) ?_
                  refine lv_iload (pc := 332) hx hb dL_acts_332 (lv_at hl 1 rfl) ?_
                  refine lv_if_ne (tgt := 339) (pc := 334) hx hb dL_acts_334 (by decide) (fun c334 => ?_) (fun c334 => ?_)
                  · replace h := h.1 c334
                    refine lv_aload_n (pc := 339) hx hb dL_acts_339 rfl (lv_at hl 4 rfl) ?_
                    refine lv_iload (pc := 340) hx hb dL_acts_340 (lv_at hl 0 rfl) ?_
                    refine m_callVI (pc := 342) (y := yX6_cancel) (κ := 6) (As := [.int (-1)]) (rest := []) C hK hP hS hl.1 ⟨Nat.zero_le _, Nat.zero_le _⟩ (c_X6_cancel h) rfl rfl hk5 (by decide) rfl q_583 q_584 q_585 q_1 q_586 ⟨rfl, rfl⟩ yd_X6_cancel ⟨Nat.le_of_ble_eq_true rfl, Nat.le_of_ble_eq_true rfl⟩ (Nat.le_of_ble_eq_true rfl) dL_acts_342 (fun r134 M133 H locs h hP hS => ?_)
                    refine lv_pop (pc := 345) hx hb dL_acts_345 rfl ?_
                    refine lv_iconst (v := 0) (pc := 346) hx hb dL_acts_346 (by decide) ?_
                    exact m_iret (v := 0) (pc := 347) C hr hlk hP hS dL_acts_347 h
                  · replace h := h.2 c334
                    refine lv_iconst (v := -1) (pc := 337) hx hb dL_acts_337 (by decide) ?_
                    exact m_iret (v := (-1)) (pc := 338) C hr hlk hP hS dL_acts_338 h
                · replace h := h.2 n52_6
                  by_cases n52_7 : (p2 &&& 15) = 7
                  · replace h := h.1 n52_7
                    refine m_case (v := 7) (off := 296) (tgt := 348) (pc := 52) hx hb n52_7 dL_acts_52 (by decide) (by decide) (by decide) (by decide) ?_
                    refine lv_iload (pc := 348) hx hb dL_acts_348 (lv_at hl 1 rfl) ?_
                    refine lv_if_ne (tgt := 355) (pc := 350) hx hb dL_acts_350 (by decide) (fun c350 => ?_) (fun c350 => ?_)
                    · replace h := h.1 c350
                      refine lv_aload_n (pc := 355) hx hb dL_acts_355 rfl (lv_at hl 4 rfl) ?_
                      refine lv_iload (pc := 356) hx hb dL_acts_356 (lv_at hl 0 rfl) ?_
                      refine lv_iload_n (pc := 358) hx hb dL_acts_358 rfl (lv_at hl 6 rfl) ?_
                      refine lv_iconst (v := 1) (pc := 359) hx hb dL_acts_359 (by decide) ?_
                      refine lv_iand (pc := 360) hx hb dL_acts_360 ?_
                      refine m_joinZ (z := if ¬ (p3 &&& 1) = 0 then false else true) (jp := 369) (rest := [.int (-1), .ref (b + p1)]) ?_ (fun hJ => ?_)
                      rotate_left
                      · skip
                        refine lv_if_ne (tgt := 368) (pc := 361) hx hb dL_acts_361 (by decide) (fun c361 => ?_) (fun c361 => ?_)
                        · skip
                          refine lv_iconst (v := 0) (pc := 368) hx hb dL_acts_368 (by decide) ?_
                          exact hJ _ false rfl (by rw [if_pos c361])
                        · skip
                          refine lv_iconst (v := 1) (pc := 364) hx hb dL_acts_364 (by decide) ?_
                          refine lv_goto (tgt := 369) (pc := 365) hx hb dL_acts_365 (by decide) ?_
                          exact hJ _ true rfl (by rw [if_neg (fun hn => hn c361)])
                      refine m_callVI (pc := 369) (y := yX6_rush) (κ := 6) (As := [.int (-1), .int (bI (if ¬ (p3 &&& 1) = 0 then false else true))]) (rest := []) C hK hP hS hl.1 ⟨Nat.zero_le _, Nat.zero_le _⟩ (c_X6_rush h) rfl rfl hk5 (by decide) rfl q_604 q_605 q_606 q_1 q_607 ⟨rfl, rfl⟩ yd_X6_rush ⟨Nat.le_of_ble_eq_true rfl, Nat.le_of_ble_eq_true rfl⟩ (Nat.le_of_ble_eq_true rfl) dL_acts_369 (fun r136 M135 H locs h hP hS => ?_)
                      refine lv_pop (pc := 372) hx hb dL_acts_372 rfl ?_
                      refine lv_iconst (v := 0) (pc := 373) hx hb dL_acts_373 (by decide) ?_
                      exact m_iret (v := 0) (pc := 374) C hr hlk hP hS dL_acts_374 h
                    · replace h := h.2 c350
                      refine lv_iconst (v := -1) (pc := 353) hx hb dL_acts_353 (by decide) ?_
                      exact m_iret (v := (-1)) (pc := 354) C hr hlk hP hS dL_acts_354 h
                  · replace h := h.2 n52_7
                    by_cases n52_8 : (p2 &&& 15) = 8
                    · replace h := h.1 n52_8
                      refine m_case (v := 8) (off := 323) (tgt := 375) (pc := 52) hx hb n52_8 dL_acts_52 (by decide) (by decide) (by decide) (by decide) ?_
                      refine lv_iload (pc := 375) hx hb dL_acts_375 (lv_at hl 1 rfl) ?_
                      refine lv_bipush (v := 10) (pc := 377) hx hb dL_acts_377 (by decide) ?_
                      refine lv_icmp_ne (tgt := 384) (pc := 379) hx hb dL_acts_379 (by decide) (fun c379 => ?_) (fun c379 => ?_)
                      · replace h := h.1 c379
                        refine lv_aload_n (pc := 384) hx hb dL_acts_384 rfl (lv_at hl 4 rfl) ?_
                        refine lv_iload (pc := 385) hx hb dL_acts_385 (lv_at hl 2 rfl) ?_
                        refine lv_iload_n (pc := 387) hx hb dL_acts_387 rfl (lv_at hl 3 rfl) ?_
                        refine lv_iconst (v := 1) (pc := 388) hx hb dL_acts_388 (by decide) ?_
                        refine lv_iload_n (pc := 389) hx hb dL_acts_389 rfl (lv_at hl 6 rfl) ?_
                        refine lv_bipush (v := 6) (pc := 390) hx hb dL_acts_390 (by decide) ?_
                        refine m_callSI (pc := 392) (y := yL_low) (As := [.int p3, .int 6]) (rest := [.int 1, .int v1, .int r3, .ref (b + p1)]) C hK hP hS hl.1 ⟨Nat.zero_le _, Nat.zero_le _⟩ (c_L_low h) rfl rfl q_532 q_533 q_0 q_534 ⟨rfl, rfl⟩ yd_L_low ⟨Nat.le_of_ble_eq_true rfl, Nat.le_of_ble_eq_true rfl⟩ (Nat.le_of_ble_eq_true rfl) dL_acts_392 (fun r138 M137 H locs h hP hS => ?_)
                        refine lv_iadd (pc := 395) hx hb dL_acts_395 ?_
                        refine lv_iload_n (pc := 396) hx hb dL_acts_396 rfl (lv_at hl 6 rfl) ?_
                        refine lv_iconst (v := 3) (pc := 397) hx hb dL_acts_397 (by decide) ?_
                        refine lv_ishr (pc := 398) hx hb dL_acts_398 ?_
                        refine lv_sipush (v := 400) (pc := 399) hx hb dL_acts_399 (by decide) ?_
                        refine m_callSI (pc := 402) (y := yL_low) (As := [.int (p3 >>> (3 &&& 31)), .int 400]) (rest := [.int (1 + r138), .int v1, .int r3, .ref (b + p1)]) C hK hP hS hl.1 ⟨Nat.zero_le _, Nat.zero_le _⟩ (c_L_low h) rfl rfl q_532 q_533 q_0 q_534 ⟨rfl, rfl⟩ yd_L_low ⟨Nat.le_of_ble_eq_true rfl, Nat.le_of_ble_eq_true rfl⟩ (Nat.le_of_ble_eq_true rfl) dL_acts_402 (fun r140 M139 H locs h hP hS => ?_)
                        refine lv_iload_n (pc := 405) hx hb dL_acts_405 rfl (lv_at hl 6 rfl) ?_
                        refine lv_bipush (v := 12) (pc := 406) hx hb dL_acts_406 (by decide) ?_
                        refine lv_ishr (pc := 408) hx hb dL_acts_408 ?_
                        refine lv_iconst (v := 3) (pc := 409) hx hb dL_acts_409 (by decide) ?_
                        refine lv_iand (pc := 410) hx hb dL_acts_410 ?_
                        refine m_joinZ (z := if ¬ ((p3 >>> (12 &&& 31)) &&& 3) = 0 then false else true) (jp := 419) (rest := [.int r140, .int (1 + r138), .int v1, .int r3, .ref (b + p1)]) ?_ (fun hJ => ?_)
                        rotate_left
                        · skip
                          refine lv_if_ne (tgt := 418) (pc := 411) hx hb dL_acts_411 (by decide) (fun c411 => ?_) (fun c411 => ?_)
                          · skip
                            refine lv_iconst (v := 0) (pc := 418) hx hb dL_acts_418 (by decide) ?_
                            exact hJ _ false rfl (by rw [if_pos c411])
                          · skip
                            refine lv_iconst (v := 1) (pc := 414) hx hb dL_acts_414 (by decide) ?_
                            refine lv_goto (tgt := 419) (pc := 415) hx hb dL_acts_415 (by decide) ?_
                            exact hJ _ true rfl (by rw [if_neg (fun hn => hn c411)])
                        refine m_callVI (pc := 419) (y := yX6_job) (κ := 6) (As := [.int r3, .int v1, .int (1 + r138), .int r140, .int (bI (if ¬ ((p3 >>> (12 &&& 31)) &&& 3) = 0 then false else true))]) (rest := []) C hK hP hS hl.1 ⟨Nat.zero_le _, Nat.zero_le _⟩ (c_X6_job h) rfl rfl hk5 (by decide) rfl q_620 q_621 q_622 q_1 q_623 ⟨rfl, rfl⟩ yd_X6_job ⟨Nat.le_of_ble_eq_true rfl, Nat.le_of_ble_eq_true rfl⟩ (Nat.le_of_ble_eq_true rfl) dL_acts_419 (fun r142 M141 H locs h hP hS => ?_)
                        refine lv_pop (pc := 422) hx hb dL_acts_422 rfl ?_
                        refine lv_iconst (v := 0) (pc := 423) hx hb dL_acts_423 (by decide) ?_
                        exact m_iret (v := 0) (pc := 424) C hr hlk hP hS dL_acts_424 h
                      · replace h := h.2 c379
                        refine lv_iconst (v := -1) (pc := 382) hx hb dL_acts_382 (by decide) ?_
                        exact m_iret (v := (-1)) (pc := 383) C hr hlk hP hS dL_acts_383 h
                    · replace h := h.2 n52_8
                      by_cases n52_9 : (p2 &&& 15) = 9
                      · replace h := h.1 n52_9
                        refine m_case (v := 9) (off := 323) (tgt := 375) (pc := 52) hx hb n52_9 dL_acts_52 (by decide) (by decide) (by decide) (by decide) ?_
                        refine lv_iload (pc := 375) hx hb dL_acts_375 (lv_at hl 1 rfl) ?_
                        refine lv_bipush (v := 10) (pc := 377) hx hb dL_acts_377 (by decide) ?_
                        refine lv_icmp_ne (tgt := 384) (pc := 379) hx hb dL_acts_379 (by decide) (fun c379 => ?_) (fun c379 => ?_)
                        · replace h := h.1 c379
                          refine lv_aload_n (pc := 384) hx hb dL_acts_384 rfl (lv_at hl 4 rfl) ?_
                          refine lv_iload (pc := 385) hx hb dL_acts_385 (lv_at hl 2 rfl) ?_
                          refine lv_iload_n (pc := 387) hx hb dL_acts_387 rfl (lv_at hl 3 rfl) ?_
                          refine lv_iconst (v := 1) (pc := 388) hx hb dL_acts_388 (by decide) ?_
                          refine lv_iload_n (pc := 389) hx hb dL_acts_389 rfl (lv_at hl 6 rfl) ?_
                          refine lv_bipush (v := 6) (pc := 390) hx hb dL_acts_390 (by decide) ?_
                          refine m_callSI (pc := 392) (y := yL_low) (As := [.int p3, .int 6]) (rest := [.int 1, .int v1, .int r3, .ref (b + p1)]) C hK hP hS hl.1 ⟨Nat.zero_le _, Nat.zero_le _⟩ (c_L_low h) rfl rfl q_532 q_533 q_0 q_534 ⟨rfl, rfl⟩ yd_L_low ⟨Nat.le_of_ble_eq_true rfl, Nat.le_of_ble_eq_true rfl⟩ (Nat.le_of_ble_eq_true rfl) dL_acts_392 (fun r144 M143 H locs h hP hS => ?_)
                          refine lv_iadd (pc := 395) hx hb dL_acts_395 ?_
                          refine lv_iload_n (pc := 396) hx hb dL_acts_396 rfl (lv_at hl 6 rfl) ?_
                          refine lv_iconst (v := 3) (pc := 397) hx hb dL_acts_397 (by decide) ?_
                          refine lv_ishr (pc := 398) hx hb dL_acts_398 ?_
                          refine lv_sipush (v := 400) (pc := 399) hx hb dL_acts_399 (by decide) ?_
                          refine m_callSI (pc := 402) (y := yL_low) (As := [.int (p3 >>> (3 &&& 31)), .int 400]) (rest := [.int (1 + r144), .int v1, .int r3, .ref (b + p1)]) C hK hP hS hl.1 ⟨Nat.zero_le _, Nat.zero_le _⟩ (c_L_low h) rfl rfl q_532 q_533 q_0 q_534 ⟨rfl, rfl⟩ yd_L_low ⟨Nat.le_of_ble_eq_true rfl, Nat.le_of_ble_eq_true rfl⟩ (Nat.le_of_ble_eq_true rfl) dL_acts_402 (fun r146 M145 H locs h hP hS => ?_)
                          refine lv_iload_n (pc := 405) hx hb dL_acts_405 rfl (lv_at hl 6 rfl) ?_
                          refine lv_bipush (v := 12) (pc := 406) hx hb dL_acts_406 (by decide) ?_
                          refine lv_ishr (pc := 408) hx hb dL_acts_408 ?_
                          refine lv_iconst (v := 3) (pc := 409) hx hb dL_acts_409 (by decide) ?_
                          refine lv_iand (pc := 410) hx hb dL_acts_410 ?_
                          refine m_joinZ (z := if ¬ ((p3 >>> (12 &&& 31)) &&& 3) = 0 then false else true) (jp := 419) (rest := [.int r146, .int (1 + r144), .int v1, .int r3, .ref (b + p1)]) ?_ (fun hJ => ?_)
                          rotate_left
                          · skip
                            refine lv_if_ne (tgt := 418) (pc := 411) hx hb dL_acts_411 (by decide) (fun c411 => ?_) (fun c411 => ?_)
                            · skip
                              refine lv_iconst (v := 0) (pc := 418) hx hb dL_acts_418 (by decide) ?_
                              exact hJ _ false rfl (by rw [if_pos c411])
                            · skip
                              refine lv_iconst (v := 1) (pc := 414) hx hb dL_acts_414 (by decide) ?_
                              refine lv_goto (tgt := 419) (pc := 415) hx hb dL_acts_415 (by decide) ?_
                              exact hJ _ true rfl (by rw [if_neg (fun hn => hn c411)])
                          refine m_callVI (pc := 419) (y := yX6_job) (κ := 6) (As := [.int r3, .int v1, .int (1 + r144), .int r146, .int (bI (if ¬ ((p3 >>> (12 &&& 31)) &&& 3) = 0 then false else true))]) (rest := []) C hK hP hS hl.1 ⟨Nat.zero_le _, Nat.zero_le _⟩ (c_X6_job h) rfl rfl hk5 (by decide) rfl q_620 q_621 q_622 q_1 q_623 ⟨rfl, rfl⟩ yd_X6_job ⟨Nat.le_of_ble_eq_true rfl, Nat.le_of_ble_eq_true rfl⟩ (Nat.le_of_ble_eq_true rfl) dL_acts_419 (fun r148 M147 H locs h hP hS => ?_)
                          refine lv_pop (pc := 422) hx hb dL_acts_422 rfl ?_
                          refine lv_iconst (v := 0) (pc := 423) hx hb dL_acts_423 (by decide) ?_
                          exact m_iret (v := 0) (pc := 424) C hr hlk hP hS dL_acts_424 h
                        · replace h := h.2 c379
                          refine lv_iconst (v := -1) (pc := 382) hx hb dL_acts_382 (by decide) ?_
                          exact m_iret (v := (-1)) (pc := 383) C hr hlk hP hS dL_acts_383 h
                      · replace h := h.2 n52_9
                        by_cases n52_10 : (p2 &&& 15) = 10
                        · replace h := h.1 n52_10
                          refine m_case (v := 10) (off := 323) (tgt := 375) (pc := 52) hx hb n52_10 dL_acts_52 (by decide) (by decide) (by decide) (by decide) ?_
                          refine lv_iload (pc := 375) hx hb dL_acts_375 (lv_at hl 1 rfl) ?_
                          refine lv_bipush (v := 10) (pc := 377) hx hb dL_acts_377 (by decide) ?_
                          refine lv_icmp_ne (tgt := 384) (pc := 379) hx hb dL_acts_379 (by decide) (fun c379 => ?_) (fun c379 => ?_)
                          · replace h := h.1 c379
                            refine lv_aload_n (pc := 384) hx hb dL_acts_384 rfl (lv_at hl 4 rfl) ?_
                            refine lv_iload (pc := 385) hx hb dL_acts_385 (lv_at hl 2 rfl) ?_
                            refine lv_iload_n (pc := 387) hx hb dL_acts_387 rfl (lv_at hl 3 rfl) ?_
                            refine lv_iconst (v := 1) (pc := 388) hx hb dL_acts_388 (by decide) ?_
                            refine lv_iload_n (pc := 389) hx hb dL_acts_389 rfl (lv_at hl 6 rfl) ?_
                            refine lv_bipush (v := 6) (pc := 390) hx hb dL_acts_390 (by decide) ?_
                            refine m_callSI (pc := 392) (y := yL_low) (As := [.int p3, .int 6]) (rest := [.int 1, .int v1, .int r3, .ref (b + p1)]) C hK hP hS hl.1 ⟨Nat.zero_le _, Nat.zero_le _⟩ (c_L_low h) rfl rfl q_532 q_533 q_0 q_534 ⟨rfl, rfl⟩ yd_L_low ⟨Nat.le_of_ble_eq_true rfl, Nat.le_of_ble_eq_true rfl⟩ (Nat.le_of_ble_eq_true rfl) dL_acts_392 (fun r150 M149 H locs h hP hS => ?_)
                            refine lv_iadd (pc := 395) hx hb dL_acts_395 ?_
                            refine lv_iload_n (pc := 396) hx hb dL_acts_396 rfl (lv_at hl 6 rfl) ?_
                            refine lv_iconst (v := 3) (pc := 397) hx hb dL_acts_397 (by decide) ?_
                            refine lv_ishr (pc := 398) hx hb dL_acts_398 ?_
                            refine lv_sipush (v := 400) (pc := 399) hx hb dL_acts_399 (by decide) ?_
                            refine m_callSI (pc := 402) (y := yL_low) (As := [.int (p3 >>> (3 &&& 31)), .int 400]) (rest := [.int (1 + r150), .int v1, .int r3, .ref (b + p1)]) C hK hP hS hl.1 ⟨Nat.zero_le _, Nat.zero_le _⟩ (c_L_low h) rfl rfl q_532 q_533 q_0 q_534 ⟨rfl, rfl⟩ yd_L_low ⟨Nat.le_of_ble_eq_true rfl, Nat.le_of_ble_eq_true rfl⟩ (Nat.le_of_ble_eq_true rfl) dL_acts_402 (fun r152 M151 H locs h hP hS => ?_)
                            refine lv_iload_n (pc := 405) hx hb dL_acts_405 rfl (lv_at hl 6 rfl) ?_
                            refine lv_bipush (v := 12) (pc := 406) hx hb dL_acts_406 (by decide) ?_
                            refine lv_ishr (pc := 408) hx hb dL_acts_408 ?_
                            refine lv_iconst (v := 3) (pc := 409) hx hb dL_acts_409 (by decide) ?_
                            refine lv_iand (pc := 410) hx hb dL_acts_410 ?_
                            refine m_joinZ (z := if ¬ ((p3 >>> (12 &&& 31)) &&& 3) = 0 then false else true) (jp := 419) (rest := [.int r152, .int (1 + r150), .int v1, .int r3, .ref (b + p1)]) ?_ (fun hJ => ?_)
                            rotate_left
                            · skip
                              refine lv_if_ne (tgt := 418) (pc := 411) hx hb dL_acts_411 (by decide) (fun c411 => ?_) (fun c411 => ?_)
                              · skip
                                refine lv_iconst (v := 0) (pc := 418) hx hb dL_acts_418 (by decide) ?_
                                exact hJ _ false rfl (by rw [if_pos c411])
                              · skip
                                refine lv_iconst (v := 1) (pc := 414) hx hb dL_acts_414 (by decide) ?_
                                refine lv_goto (tgt := 419) (pc := 415) hx hb dL_acts_415 (by decide) ?_
                                exact hJ _ true rfl (by rw [if_neg (fun hn => hn c411)])
                            refine m_callVI (pc := 419) (y := yX6_job) (κ := 6) (As := [.int r3, .int v1, .int (1 + r150), .int r152, .int (bI (if ¬ ((p3 >>> (12 &&& 31)) &&& 3) = 0 then false else true))]) (rest := []) C hK hP hS hl.1 ⟨Nat.zero_le _, Nat.zero_le _⟩ (c_X6_job h) rfl rfl hk5 (by decide) rfl q_620 q_621 q_622 q_1 q_623 ⟨rfl, rfl⟩ yd_X6_job ⟨Nat.le_of_ble_eq_true rfl, Nat.le_of_ble_eq_true rfl⟩ (Nat.le_of_ble_eq_true rfl) dL_acts_419 (fun r154 M153 H locs h hP hS => ?_)
                            refine lv_pop (pc := 422) hx hb dL_acts_422 rfl ?_
                            refine lv_iconst (v := 0) (pc := 423) hx hb dL_acts_423 (by decide) ?_
                            exact m_iret (v := 0) (pc := 424) C hr hlk hP hS dL_acts_424 h
                          · replace h := h.2 c379
                            refine lv_iconst (v := -1) (pc := 382) hx hb dL_acts_382 (by decide) ?_
                            exact m_iret (v := (-1)) (pc := 383) C hr hlk hP hS dL_acts_383 h
                        · replace h := h.2 n52_10
                          refine lv_tableOut (tgt := 425) (pc := 52) hx hb dL_acts_52 (by have i0 := i_ne n52_0; have i1 := i_ne n52_1; have i2 := i_ne n52_2; have i3 := i_ne n52_3; have i4 := i_ne n52_4; have i5 := i_ne n52_5; have i6 := i_ne n52_6; have i7 := i_ne n52_7; have i8 := i_ne n52_8; have i9 := i_ne n52_9; have i10 := i_ne n52_10; simp only [m_lit] at *; omega) (by decide) ?_
                          refine lv_aload_n (pc := 425) hx hb dL_acts_425 rfl (lv_at hl 4 rfl) ?_
                          refine lv_iconst (v := 1) (pc := 426) hx hb dL_acts_426 (by decide) ?_
                          refine lv_iload_n (pc := 427) hx hb dL_acts_427 rfl (lv_at hl 6 rfl) ?_
                          refine lv_iload_n (pc := 428) hx hb dL_acts_428 rfl (lv_at hl 6 rfl) ?_
                          refine lv_bipush (v := 7) (pc := 429) hx hb dL_acts_429 (by decide) ?_
                          refine lv_ishr (pc := 431) hx hb dL_acts_431 ?_
                          refine lv_iconst (v := 3) (pc := 432) hx hb dL_acts_432 (by decide) ?_
                          refine lv_iand (pc := 433) hx hb dL_acts_433 ?_
                          refine m_join (v := if ¬ ((p3 >>> (7 &&& 31)) &&& 3) = 0 then 6 else 60) (jp := 444) (rest := [.int p3, .int 1, .ref (b + p1)]) ?_ (fun hJ => ?_)
                          rotate_left
                          · skip
                            refine lv_if_ne (tgt := 442) (pc := 434) hx hb dL_acts_434 (by decide) (fun c434 => ?_) (fun c434 => ?_)
                            · skip
                              refine lv_bipush (v := 6) (pc := 442) hx hb dL_acts_442 (by decide) ?_
                              exact hJ _ (by rw [if_pos c434])
                            · skip
                              refine lv_bipush (v := 60) (pc := 437) hx hb dL_acts_437 (by decide) ?_
                              refine lv_goto (tgt := 444) (pc := 439) hx hb dL_acts_439 (by decide) ?_
                              exact hJ _ (by rw [if_neg (fun hn => hn c434)])
                          refine m_callSI (pc := 444) (y := yL_low) (As := [.int p3, .int (if ¬ ((p3 >>> (7 &&& 31)) &&& 3) = 0 then 6 else 60)]) (rest := [.int 1, .ref (b + p1)]) C hK hP hS hl.1 ⟨Nat.zero_le _, Nat.zero_le _⟩ (c_L_low h) rfl rfl q_532 q_533 q_0 q_534 ⟨rfl, rfl⟩ yd_L_low ⟨Nat.le_of_ble_eq_true rfl, Nat.le_of_ble_eq_true rfl⟩ (Nat.le_of_ble_eq_true rfl) dL_acts_444 (fun r156 M155 H locs h hP hS => ?_)
                          refine lv_iadd (pc := 447) hx hb dL_acts_447 ?_
                          refine m_callVI (pc := 448) (y := yX6_pass) (κ := 6) (As := [.int (1 + r156)]) (rest := []) C hK hP hS hl.1 ⟨Nat.zero_le _, Nat.zero_le _⟩ (c_X6_pass h) rfl rfl hk5 (by decide) rfl q_631 q_632 q_633 q_1 q_634 ⟨rfl, rfl⟩ yd_X6_pass ⟨Nat.le_of_ble_eq_true rfl, Nat.le_of_ble_eq_true rfl⟩ (Nat.le_of_ble_eq_true rfl) dL_acts_448 (fun r158 M157 H locs h hP hS => ?_)
                          refine lv_pop (pc := 451) hx hb dL_acts_451 rfl ?_
                          refine lv_iconst (v := 0) (pc := 452) hx hb dL_acts_452 (by decide) ?_
                          exact m_iret (v := 0) (pc := 453) C hr hlk hP hS dL_acts_453 h
/-! ForgeHeatsLaw.holds (LForgeHeats;[I)Z -/
def wpB_L_holds_317 (n : Nat) (P : Bool → Mem → Prop) (K_ : Mem → Nat → Int32 → Int32 → Int32 → Int32 → Int32 → Int32 → Int32 → Prop) (R_ : Mem → Nat → Int32 → Int32 → Int32 → Int32 → Int32 → Int32 → Int32 → Int32 → Int32 → Prop) (M : Mem) (x0 : Nat) (x2 : Int32) (x3 : Int32) (x4 : Int32) (x5 : Int32) (x6 : Int32) (x7 : Int32) (x8 : Int32) (x9 : Int32) (x10 : Int32) : Prop := ((7 ≤ x10 → ((x8 = 0 → m_tp n x0 6 ∧ (wp_X6_billet n M x0 6 0 (fun r25 M23 => wp_X6_jobOf n M23 x0 x8 0 (fun r27 M26 => wp_X6_jobOf n M26 x0 x8 6 (fun r29 M28 => ∀ v30 : Int32, v30 = (x7 + r29) → ((((1 : Int32) = 0 → P false M28) ∧ (¬ (1 : Int32) = 0 → wp_X6_jobOf n M28 x0 x8 4 (fun r32 M31 => wp_X6_jobOf n M31 x0 x8 3 (fun r34 M33 => ((r34 ≤ r32 → P false M33) ∧ (¬ r34 ≤ r32 → wp_X6_jobOf n M33 x0 x8 3 (fun r36 M35 => wp_X6_jobOf n M35 x0 x8 4 (fun r38 M37 => (((r36 - r38) < x9 → P false M37) ∧ (¬ (r36 - r38) < x9 → wp_X6_jobOf n M37 x0 x8 7 (fun r40 M39 => (((bI (if ¬ r40 = 0 then false else true)) = (bI (if ¬ r25 = r27 then false else true)) → ∀ v41 : Int32, v41 = x8 + 1 → (K_ M39 x0 x2 x3 x4 x5 x6 v30 v41)) ∧ (¬ (bI (if ¬ r40 = 0 then false else true)) = (bI (if ¬ r25 = r27 then false else true)) → P false M39))))))))))))))))))) ∧ (¬ x8 = 0 → m_tp n x0 6 ∧ (wp_X6_jobOf n M x0 x8 6 (fun r44 M42 => wp_X6_jobOf n M42 x0 (x8 - 1) 6 (fun r46 M45 => ((r44 < r46 → wp_X6_billet n M45 x0 6 0 (fun r48 M47 => wp_X6_jobOf n M47 x0 x8 0 (fun r50 M49 => wp_X6_jobOf n M49 x0 x8 6 (fun r52 M51 => ∀ v53 : Int32, v53 = (x7 + r52) → ((((1 : Int32) = 0 → P false M51) ∧ (¬ (1 : Int32) = 0 → wp_X6_jobOf n M51 x0 x8 4 (fun r55 M54 => wp_X6_jobOf n M54 x0 x8 3 (fun r57 M56 => ((r57 ≤ r55 → P false M56) ∧ (¬ r57 ≤ r55 → wp_X6_jobOf n M56 x0 x8 3 (fun r59 M58 => wp_X6_jobOf n M58 x0 x8 4 (fun r61 M60 => (((r59 - r61) < x9 → P false M60) ∧ (¬ (r59 - r61) < x9 → wp_X6_jobOf n M60 x0 x8 7 (fun r63 M62 => (((bI (if ¬ r63 = 0 then false else true)) = (bI (if ¬ r48 = r50 then false else true)) → ∀ v64 : Int32, v64 = x8 + 1 → (K_ M62 x0 x2 x3 x4 x5 x6 v53 v64)) ∧ (¬ (bI (if ¬ r63 = 0 then false else true)) = (bI (if ¬ r48 = r50 then false else true)) → P false M62)))))))))))))))))) ∧ (¬ r44 < r46 → wp_X6_jobOf n M45 x0 x8 6 (fun r66 M65 => wp_X6_jobOf n M65 x0 (x8 - 1) 6 (fun r68 M67 => ((¬ r66 = r68 → wp_X6_billet n M67 x0 6 0 (fun r70 M69 => wp_X6_jobOf n M69 x0 x8 0 (fun r72 M71 => wp_X6_jobOf n M71 x0 x8 6 (fun r74 M73 => ∀ v75 : Int32, v75 = (x7 + r74) → ((((0 : Int32) = 0 → P false M73) ∧ (¬ (0 : Int32) = 0 → wp_X6_jobOf n M73 x0 x8 4 (fun r77 M76 => wp_X6_jobOf n M76 x0 x8 3 (fun r79 M78 => ((r79 ≤ r77 → P false M78) ∧ (¬ r79 ≤ r77 → wp_X6_jobOf n M78 x0 x8 3 (fun r81 M80 => wp_X6_jobOf n M80 x0 x8 4 (fun r83 M82 => (((r81 - r83) < x9 → P false M82) ∧ (¬ (r81 - r83) < x9 → wp_X6_jobOf n M82 x0 x8 7 (fun r85 M84 => (((bI (if ¬ r85 = 0 then false else true)) = (bI (if ¬ r70 = r72 then false else true)) → ∀ v86 : Int32, v86 = x8 + 1 → (K_ M84 x0 x2 x3 x4 x5 x6 v75 v86)) ∧ (¬ (bI (if ¬ r85 = 0 then false else true)) = (bI (if ¬ r70 = r72 then false else true)) → P false M84)))))))))))))))))) ∧ (r66 = r68 → wp_X6_jobOf n M67 x0 x8 5 (fun r88 M87 => wp_X6_jobOf n M87 x0 (x8 - 1) 5 (fun r90 M89 => ((r90 < r88 → wp_X6_billet n M89 x0 6 0 (fun r92 M91 => wp_X6_jobOf n M91 x0 x8 0 (fun r94 M93 => wp_X6_jobOf n M93 x0 x8 6 (fun r96 M95 => ∀ v97 : Int32, v97 = (x7 + r96) → ((((1 : Int32) = 0 → P false M95) ∧ (¬ (1 : Int32) = 0 → wp_X6_jobOf n M95 x0 x8 4 (fun r99 M98 => wp_X6_jobOf n M98 x0 x8 3 (fun r101 M100 => ((r101 ≤ r99 → P false M100) ∧ (¬ r101 ≤ r99 → wp_X6_jobOf n M100 x0 x8 3 (fun r103 M102 => wp_X6_jobOf n M102 x0 x8 4 (fun r105 M104 => (((r103 - r105) < x9 → P false M104) ∧ (¬ (r103 - r105) < x9 → wp_X6_jobOf n M104 x0 x8 7 (fun r107 M106 => (((bI (if ¬ r107 = 0 then false else true)) = (bI (if ¬ r92 = r94 then false else true)) → ∀ v108 : Int32, v108 = x8 + 1 → (K_ M106 x0 x2 x3 x4 x5 x6 v97 v108)) ∧ (¬ (bI (if ¬ r107 = 0 then false else true)) = (bI (if ¬ r92 = r94 then false else true)) → P false M106)))))))))))))))))) ∧ (¬ r90 < r88 → wp_X6_jobOf n M89 x0 x8 5 (fun r110 M109 => wp_X6_jobOf n M109 x0 (x8 - 1) 5 (fun r112 M111 => ((¬ r110 = r112 → wp_X6_billet n M111 x0 6 0 (fun r114 M113 => wp_X6_jobOf n M113 x0 x8 0 (fun r116 M115 => wp_X6_jobOf n M115 x0 x8 6 (fun r118 M117 => ∀ v119 : Int32, v119 = (x7 + r118) → ((((0 : Int32) = 0 → P false M117) ∧ (¬ (0 : Int32) = 0 → wp_X6_jobOf n M117 x0 x8 4 (fun r121 M120 => wp_X6_jobOf n M120 x0 x8 3 (fun r123 M122 => ((r123 ≤ r121 → P false M122) ∧ (¬ r123 ≤ r121 → wp_X6_jobOf n M122 x0 x8 3 (fun r125 M124 => wp_X6_jobOf n M124 x0 x8 4 (fun r127 M126 => (((r125 - r127) < x9 → P false M126) ∧ (¬ (r125 - r127) < x9 → wp_X6_jobOf n M126 x0 x8 7 (fun r129 M128 => (((bI (if ¬ r129 = 0 then false else true)) = (bI (if ¬ r114 = r116 then false else true)) → ∀ v130 : Int32, v130 = x8 + 1 → (K_ M128 x0 x2 x3 x4 x5 x6 v119 v130)) ∧ (¬ (bI (if ¬ r129 = 0 then false else true)) = (bI (if ¬ r114 = r116 then false else true)) → P false M128)))))))))))))))))) ∧ (r110 = r112 → wp_X6_jobOf n M111 x0 x8 0 (fun r132 M131 => wp_X6_jobOf n M131 x0 (x8 - 1) 0 (fun r134 M133 => wp_X6_billet n M133 x0 6 0 (fun r136 M135 => wp_X6_jobOf n M135 x0 x8 0 (fun r138 M137 => wp_X6_jobOf n M137 x0 x8 6 (fun r140 M139 => ∀ v141 : Int32, v141 = (x7 + r140) → ((((if r132 ≤ r134 then false else true) = false → P false M139) ∧ ((if r132 ≤ r134 then false else true) = true → wp_X6_jobOf n M139 x0 x8 4 (fun r143 M142 => wp_X6_jobOf n M142 x0 x8 3 (fun r145 M144 => ((r145 ≤ r143 → P false M144) ∧ (¬ r145 ≤ r143 → wp_X6_jobOf n M144 x0 x8 3 (fun r147 M146 => wp_X6_jobOf n M146 x0 x8 4 (fun r149 M148 => (((r147 - r149) < x9 → P false M148) ∧ (¬ (r147 - r149) < x9 → wp_X6_jobOf n M148 x0 x8 7 (fun r151 M150 => (((bI (if ¬ r151 = 0 then false else true)) = (bI (if ¬ r136 = r138 then false else true)) → ∀ v152 : Int32, v152 = x8 + 1 → (K_ M150 x0 x2 x3 x4 x5 x6 v141 v152)) ∧ (¬ (bI (if ¬ r151 = 0 then false else true)) = (bI (if ¬ r136 = r138 then false else true)) → P false M150))))))))))))))))))))))))))))))))))))))) ∧ (¬ 7 ≤ x10 → m_tp n x0 6 ∧ (wp_X6_billet n M x0 x10 0 (fun r155 M153 => wp_X6_jobOf n M153 x0 x8 0 (fun r157 M156 => ∀ v158 : Int32, v158 = (x9 + (bI (if ¬ r155 = r157 then false else true))) → (∀ v159 : Int32, v159 = x10 + 1 → (R_ M156 x0 x2 x3 x4 x5 x6 x7 x8 v158 v159)))))))
def wpL_L_holds_317 (n : Nat) (P : Bool → Mem → Prop) (K_ : Mem → Nat → Int32 → Int32 → Int32 → Int32 → Int32 → Int32 → Int32 → Prop) : Nat → Mem → Nat → Int32 → Int32 → Int32 → Int32 → Int32 → Int32 → Int32 → Int32 → Int32 → Prop
  | 0 => fun _ _ _ _ _ _ _ _ _ _ _ => False
  | f + 1 => fun M x0 x2 x3 x4 x5 x6 x7 x8 x9 x10 => wpB_L_holds_317 n P K_ (wpL_L_holds_317 n P K_ f) M x0 x2 x3 x4 x5 x6 x7 x8 x9 x10
def wpB_L_holds_304 (n : Nat) (P : Bool → Mem → Prop) (R_ : Mem → Nat → Int32 → Int32 → Int32 → Int32 → Int32 → Int32 → Int32 → Prop) (M : Mem) (x0 : Nat) (x2 : Int32) (x3 : Int32) (x4 : Int32) (x5 : Int32) (x6 : Int32) (x7 : Int32) (x8 : Int32) : Prop := ((x6 ≤ x8 → m_tp n x0 6 ∧ (wp_X6_saved n M x0 (fun r6 M4 => wp_X6_count n M4 x0 4 (fun r8 M7 => ((¬ x2 = r8 → P false M7) ∧ (x2 = r8 → ((¬ x4 = x2 → P false M7) ∧ (x4 = x2 → wp_X6_count n M7 x0 5 (fun r10 M9 => ((¬ x3 = r10 → P false M9) ∧ (x3 = r10 → wp_X6_count n M9 x0 3 (fun r12 M11 => ((¬ x5 = r12 → P false M11) ∧ (x5 = r12 → wp_X6_count n M11 x0 2 (fun r14 M13 => ((¬ x7 = r14 → P false M13) ∧ (x7 = r14 → wp_X6_count n M13 x0 9 (fun r16 M15 => wp_X6_count n M15 x0 8 (fun r18 M17 => ((r16 < r18 → P false M17) ∧ (¬ r16 < r18 → wp_X6_count n M17 x0 8 (fun r20 M19 => wp_X6_count n M19 x0 7 (fun r22 M21 => ((r22 < r20 → P false M21) ∧ (¬ r22 < r20 → (((Op.cmpValue (FP.dcmp r6 (FP.dconst0)) .l) < 0 → P false M21) ∧ (¬ (Op.cmpValue (FP.dcmp r6 (FP.dconst0)) .l) < 0 → P (if 0 < (Op.cmpValue (FP.dcmp r6 (FP.dconst1)) .g) then false else true) M21))))))))))))))))))))))))))) ∧ (¬ x6 ≤ x8 → ∃ f : Nat, wpL_L_holds_317 n P R_ f M x0 x2 x3 x4 x5 x6 x7 x8 0 0))
def wpL_L_holds_304 (n : Nat) (P : Bool → Mem → Prop) : Nat → Mem → Nat → Int32 → Int32 → Int32 → Int32 → Int32 → Int32 → Int32 → Prop
  | 0 => fun _ _ _ _ _ _ _ _ _ => False
  | f + 1 => fun M x0 x2 x3 x4 x5 x6 x7 x8 => wpB_L_holds_304 n P (wpL_L_holds_304 n P f) M x0 x2 x3 x4 x5 x6 x7 x8
def wpB_L_holds_174 (n : Nat) (P : Bool → Mem → Prop) (R_ : Mem → Nat → Int32 → Int32 → Int32 → Int32 → Int32 → Prop) (M : Mem) (x0 : Nat) (x2 : Int32) (x3 : Int32) (x4 : Int32) (x5 : Int32) (x6 : Int32) : Prop := ((7 ≤ x6 → m_tp n x0 6 ∧ (wp_X6_count n M x0 1 (fun r3 M1 => ∃ f : Nat, wpL_L_holds_304 n P f M1 x0 x2 x3 x4 x5 r3 0 0))) ∧ (¬ 7 ≤ x6 → m_tp n x0 6 ∧ (wp_X6_billet n M x0 x6 1 (fun r162 M160 => wp_X6_billet n M160 x0 x6 0 (fun r164 M163 => ∀ v165 : Int32, v165 = (x5 + (bI (if 6 ≤ x6 then false else (if (if r164 < 0 then false else true) = false then false else true)))) → ((((if r164 < 0 then false else true) = false → ∀ v166 : Int32, v166 = x6 + 1 → (R_ M163 x0 x2 x3 x4 v165 v166)) ∧ ((if r164 < 0 then false else true) = true → ((r162 < 20 → P false M163) ∧ (¬ r162 < 20 → ((1250 < r162 → P false M163) ∧ (¬ 1250 < r162 → wp_X6_billet n M163 x0 x6 3 (fun r168 M167 => ((r168 < 1 → P false M167) ∧ (¬ r168 < 1 → wp_X6_billet n M167 x0 x6 3 (fun r170 M169 => ((9 < r170 → P false M169) ∧ (¬ 9 < r170 → wp_X6_billet n M169 x0 x6 2 (fun r172 M171 => ((r172 ≤ 3 → ∀ v173 : Int32, v173 = x6 + 1 → (R_ M171 x0 x2 x3 x4 v165 v173)) ∧ (¬ r172 ≤ 3 → P false M171)))))))))))))))))))))
def wpL_L_holds_174 (n : Nat) (P : Bool → Mem → Prop) : Nat → Mem → Nat → Int32 → Int32 → Int32 → Int32 → Int32 → Prop
  | 0 => fun _ _ _ _ _ _ _ => False
  | f + 1 => fun M x0 x2 x3 x4 x5 x6 => wpB_L_holds_174 n P (wpL_L_holds_174 n P f) M x0 x2 x3 x4 x5 x6
def wpB_L_holds_96 (n : Nat) (P : Bool → Mem → Prop) (R_ : Mem → Nat → Int32 → Int32 → Int32 → Int32 → Prop) (M : Mem) (x0 : Nat) (x2 : Int32) (x3 : Int32) (x4 : Int32) (x5 : Int32) : Prop := ((5 ≤ x5 → ∃ f : Nat, wpL_L_holds_174 n P f M x0 x2 x3 x4 0 0) ∧ (¬ 5 ≤ x5 → m_tp n x0 6 ∧ (wp_X6_dieOf n M x0 x5 4 (fun r176 M174 => ∀ v177 : Int32, v177 = (x4 + r176) → (wp_X6_dieOf n M174 x0 x5 3 (fun r179 M178 => wp_X6_count n M178 x0 10 (fun r181 M180 => ((¬ (bI (if r179 ≤ 0 then false else true)) = (bI (if ¬ r181 = x5 then false else true)) → P false M180) ∧ ((bI (if r179 ≤ 0 then false else true)) = (bI (if ¬ r181 = x5 then false else true)) → wp_X6_dieOf n M180 x0 x5 1 (fun r183 M182 => ((10 ≤ r183 → ∀ v184 : Int32, v184 = x5 + 1 → (R_ M182 x0 x2 x3 v177 v184)) ∧ (¬ 10 ≤ r183 → P false M182))))))))))))
def wpL_L_holds_96 (n : Nat) (P : Bool → Mem → Prop) : Nat → Mem → Nat → Int32 → Int32 → Int32 → Int32 → Prop
  | 0 => fun _ _ _ _ _ _ => False
  | f + 1 => fun M x0 x2 x3 x4 x5 => wpB_L_holds_96 n P (wpL_L_holds_96 n P f) M x0 x2 x3 x4 x5
def wpB_L_holds_10 (n : Nat) (P : Bool → Mem → Prop) (R_ : Mem → Nat → Nat → Int32 → Int32 → Int32 → Int32 → Prop) (M : Mem) (x0 : Nat) (x1 : Nat) (x2 : Int32) (x3 : Int32) (x4 : Int32) (x5 : Int32) : Prop := ((4 ≤ x5 → ∃ f : Nat, wpL_L_holds_96 n P f M x0 x2 x3 x4 0) ∧ (¬ 4 ≤ x5 → m_tp n x0 6 ∧ (wp_X6_heat n M x0 x5 0 (fun r187 M185 => wp_X6_heat n M185 x0 x5 3 (fun r189 M188 => wp_X6_heat n M188 x0 x5 4 (fun r191 M190 => wp_X6_heat n M190 x0 x5 5 (fun r193 M192 => m_tp n x1 8 ∧ (vp_in x5 (m_len x1) ∧ (((¬ (((r187 + r189) + r191) + r193) = (M192.1 x1 x5.toNatClampNeg) → P false M192) ∧ ((((r187 + r189) + r191) + r193) = (M192.1 x1 x5.toNatClampNeg) → wp_X6_heat n M192 x0 x5 6 (fun r197 M196 => ((0 ≤ r197 → wp_X6_heat n M196 x0 x5 4 (fun r199 M198 => ∀ v200 : Int32, v200 = (x2 + r199) → (wp_X6_heat n M198 x0 x5 5 (fun r202 M201 => ∀ v203 : Int32, v203 = (x3 + r202) → (∀ v204 : Int32, v204 = x5 + 1 → (R_ M201 x0 x1 v200 v203 x4 v204)))))) ∧ (¬ 0 ≤ r197 → P false M196))))))))))))))
def wpL_L_holds_10 (n : Nat) (P : Bool → Mem → Prop) : Nat → Mem → Nat → Nat → Int32 → Int32 → Int32 → Int32 → Prop
  | 0 => fun _ _ _ _ _ _ _ => False
  | f + 1 => fun M x0 x1 x2 x3 x4 x5 => wpB_L_holds_10 n P (wpL_L_holds_10 n P f) M x0 x1 x2 x3 x4 x5
def wp_L_holds (n : Nat) (M : Mem) (p1 : Nat) (p2 : Nat) (P : Bool → Mem → Prop) : Prop := ∃ f : Nat, wpL_L_holds_10 n P f M p1 p2 0 0 0 0
abbrev rm_L_holds : Room := { frames := 5, cells := 0, slots := 0, locals := 116 }
set_option maxHeartbeats 4000000 in
set_option maxRecDepth 100000 in
theorem c_L_holds {l : Launch} {D : va_G} {cA : Nat → ClassId} {b n : Nat} {M : Mem} {p1 : Nat} {p2 : Nat} {P : Bool → Mem → Prop} (h : wp_L_holds n M p1 p2 P) : m_C l D cA b n n M yL_holds cL_holds 12 (some .boolean) rm_L_holds 0 0 [.ref (b + p1), .ref (b + p2)] (rZ P) := by
  refine m_enter (by decide) (Nat.le_of_ble_eq_true rfl) (fun p e s m below meth c C hr hlk hnm hK hP hS ls hl => ?_)
  have hx := C.1
  have hb := C.2.1
  have hl : lv_has ls 12 [(0, .ref (b + p1)), (1, .ref (b + p2))] := hl
  have L317 : ∀ K_ : Mem → Nat → Int32 → Int32 → Int32 → Int32 → Int32 → Int32 → Int32 → Prop, (∀ (M : Mem) (H : Heap) (locs : List Loc) (ls : Array Slot) (x0 : Nat) (x2 : Int32) (x3 : Int32) (x4 : Int32) (x5 : Int32) (x6 : Int32) (x7 : Int32) (x8 : Int32), K_ M x0 x2 x3 x4 x5 x6 x7 x8 → m_H D cA b n M H → va_S (m_A b) s.heap H locs → lv_has ls 12 [(0, .ref (b + x0)), (2, .int x2), (3, .int x3), (4, .int x4), (5, .int x5), (6, .int x6), (7, .int x7), (8, .int x8)] → W p l e rm_L_holds s m ([.ref (b + p1), .ref (b + p2)] : List Value).toArray below meth c H locs 0 0 (MQ below (m_Q D cA b n (rZ P)) ([.ref (b + p1), .ref (b + p2)] : List Value).toArray s 0 0 (m_A b)) (F0 m 304 ls [])) → ∀ f : Nat, ∀ (M : Mem) (H : Heap) (locs : List Loc) (ls : Array Slot) (x0 : Nat) (x2 : Int32) (x3 : Int32) (x4 : Int32) (x5 : Int32) (x6 : Int32) (x7 : Int32) (x8 : Int32) (x9 : Int32) (x10 : Int32), wpL_L_holds_317 n P K_ f M x0 x2 x3 x4 x5 x6 x7 x8 x9 x10 → m_H D cA b n M H → va_S (m_A b) s.heap H locs → lv_has ls 12 [(0, .ref (b + x0)), (2, .int x2), (3, .int x3), (4, .int x4), (5, .int x5), (6, .int x6), (7, .int x7), (8, .int x8), (9, .int x9), (10, .int x10)] → W p l e rm_L_holds s m ([.ref (b + p1), .ref (b + p2)] : List Value).toArray below meth c H locs 0 0 (MQ below (m_Q D cA b n (rZ P)) ([.ref (b + p1), .ref (b + p2)] : List Value).toArray s 0 0 (m_A b)) (F0 m 317 ls []) := by
    intro K_ hKk
    clear h
    intro f
    induction f with
    | zero => intro M H locs ls x0 x2 x3 x4 x5 x6 x7 x8 x9 x10 h; exact h.elim
    | succ f ih =>
      intro M H locs ls x0 x2 x3 x4 x5 x6 x7 x8 x9 x10 h hP hS hl
      have h : wpB_L_holds_317 n P K_ (wpL_L_holds_317 n P K_ f) M x0 x2 x3 x4 x5 x6 x7 x8 x9 x10 := h
      unfold wpB_L_holds_317 at h
      refine lv_iload (pc := 317) hx hb dL_holds_317 (lv_at hl 9 rfl) ?_
      refine lv_bipush (v := 7) (pc := 319) hx hb dL_holds_319 (by decide) ?_
      refine lv_icmp_ge (tgt := 357) (pc := 321) hx hb dL_holds_321 (by decide) (fun c321 => ?_) (fun c321 => ?_)
      · replace h := h.1 c321
        refine lv_iload (pc := 357) hx hb dL_holds_357 (lv_at hl 7 rfl) ?_
        refine lv_if_eq (tgt := 461) (pc := 359) hx hb dL_holds_359 (by decide) (fun c359 => ?_) (fun c359 => ?_)
        · replace h := h.1 c359
          refine lv_iconst (v := 1) (pc := 461) hx hb dL_holds_461 (by decide) ?_
          refine lv_goto (tgt := 466) (pc := 462) hx hb dL_holds_462 (by decide) ?_
          refine lv_istore (lv' := [(10, .int 1), (0, .ref (b + x0)), (2, .int x2), (3, .int x3), (4, .int x4), (5, .int x5), (6, .int x6), (7, .int x7), (8, .int x8), (9, .int x9)]) (pc := 466) hx hb dL_holds_466 hl (by decide) rfl (fun ls hl => ?_)
          refine lv_aload_n (pc := 468) hx hb dL_holds_468 rfl (lv_at hl 1 rfl) ?_
          refine lv_bipush (v := 6) (pc := 469) hx hb dL_holds_469 (by decide) ?_
          refine lv_iconst (v := 0) (pc := 471) hx hb dL_holds_471 (by decide) ?_
          obtain ⟨hk24, h⟩ := h
          refine m_callVI (pc := 472) (y := yX6_billet) (κ := 6) (As := [.int 6, .int 0]) (rest := []) C hK hP hS hl.1 ⟨Nat.zero_le _, Nat.zero_le _⟩ (c_X6_billet h) rfl rfl hk24 (by decide) rfl q_498 q_499 q_500 q_1 q_501 ⟨rfl, rfl⟩ yd_X6_billet ⟨Nat.le_of_ble_eq_true rfl, Nat.le_of_ble_eq_true rfl⟩ (Nat.le_of_ble_eq_true rfl) dL_holds_472 (fun r25 M23 H locs h hP hS => ?_)
          refine lv_aload_n (pc := 475) hx hb dL_holds_475 rfl (lv_at hl 1 rfl) ?_
          refine lv_iload (pc := 476) hx hb dL_holds_476 (lv_at hl 8 rfl) ?_
          refine lv_iconst (v := 0) (pc := 478) hx hb dL_holds_478 (by decide) ?_
          refine m_callVI (pc := 479) (y := yX6_jobOf) (κ := 6) (As := [.int x8, .int 0]) (rest := [.int r25]) C hK hP hS hl.1 ⟨Nat.zero_le _, Nat.zero_le _⟩ (c_X6_jobOf h) rfl rfl hk24 (by decide) rfl q_508 q_509 q_510 q_1 q_511 ⟨rfl, rfl⟩ yd_X6_jobOf ⟨Nat.le_of_ble_eq_true rfl, Nat.le_of_ble_eq_true rfl⟩ (Nat.le_of_ble_eq_true rfl) dL_holds_479 (fun r27 M26 H locs h hP hS => ?_)
          refine m_joinZ (z := if ¬ r25 = r27 then false else true) (jp := 490) (rest := []) ?_ (fun hJ => ?_)
          rotate_left
          · skip
            refine lv_icmp_ne (tgt := 489) (pc := 482) hx hb dL_holds_482 (by decide) (fun c482 => ?_) (fun c482 => ?_)
            · skip
              refine lv_iconst (v := 0) (pc := 489) hx hb dL_holds_489 (by decide) ?_
              exact hJ _ false rfl (by rw [if_pos c482])
            · skip
              refine lv_iconst (v := 1) (pc := 485) hx hb dL_holds_485 (by decide) ?_
              refine lv_goto (tgt := 490) (pc := 486) hx hb dL_holds_486 (by decide) ?_
              exact hJ _ true rfl (by rw [if_neg (fun hn => hn c482)])
          refine lv_istore (lv' := [(11, .int (bI (if ¬ r25 = r27 then false else true))), (10, .int 1), (0, .ref (b + x0)), (2, .int x2), (3, .int x3), (4, .int x4), (5, .int x5), (6, .int x6), (7, .int x7), (8, .int x8), (9, .int x9)]) (pc := 490) hx hb dL_holds_490 hl (by decide) rfl (fun ls hl => ?_)
          refine lv_iload (pc := 492) hx hb dL_holds_492 (lv_at hl 8 rfl) ?_
          refine lv_aload_n (pc := 494) hx hb dL_holds_494 rfl (lv_at hl 2 rfl) ?_
          refine lv_iload (pc := 495) hx hb dL_holds_495 (lv_at hl 9 rfl) ?_
          refine lv_bipush (v := 6) (pc := 497) hx hb dL_holds_497 (by decide) ?_
          refine m_callVI (pc := 499) (y := yX6_jobOf) (κ := 6) (As := [.int x8, .int 6]) (rest := [.int x7]) C hK hP hS hl.1 ⟨Nat.zero_le _, Nat.zero_le _⟩ (c_X6_jobOf h) rfl rfl hk24 (by decide) rfl q_508 q_509 q_510 q_1 q_511 ⟨rfl, rfl⟩ yd_X6_jobOf ⟨Nat.le_of_ble_eq_true rfl, Nat.le_of_ble_eq_true rfl⟩ (Nat.le_of_ble_eq_true rfl) dL_holds_499 (fun r29 M28 H locs h hP hS => ?_)
          refine lv_iadd (pc := 502) hx hb dL_holds_502 ?_
          refine lv_topi (fun v30 ev30 => ?_)
          replace h := h v30 ev30
          refine lv_istore (lv' := [(7, .int v30), (11, .int (bI (if ¬ r25 = r27 then false else true))), (10, .int 1), (0, .ref (b + x0)), (2, .int x2), (3, .int x3), (4, .int x4), (5, .int x5), (6, .int x6), (8, .int x8), (9, .int x9)]) (pc := 503) hx hb dL_holds_503 hl (by decide) rfl (fun ls hl => ?_)
          refine lv_iload (pc := 505) hx hb dL_holds_505 (lv_at hl 2 rfl) ?_
          refine lv_if_eq (tgt := 568) (pc := 507) hx hb dL_holds_507 (by decide) (fun c507 => ?_) (fun c507 => ?_)
          · replace h := h.1 c507
            refine lv_iconst (v := 0) (pc := 568) hx hb dL_holds_568 (by decide) ?_
            exact m_zret (v := false) (pc := 569) C hr hlk hP hS dL_holds_569 h
          · replace h := h.2 c507
            refine lv_aload_n (pc := 510) hx hb dL_holds_510 rfl (lv_at hl 3 rfl) ?_
            refine lv_iload (pc := 511) hx hb dL_holds_511 (lv_at hl 9 rfl) ?_
            refine lv_iconst (v := 4) (pc := 513) hx hb dL_holds_513 (by decide) ?_
            refine m_callVI (pc := 514) (y := yX6_jobOf) (κ := 6) (As := [.int x8, .int 4]) (rest := []) C hK hP hS hl.1 ⟨Nat.zero_le _, Nat.zero_le _⟩ (c_X6_jobOf h) rfl rfl hk24 (by decide) rfl q_508 q_509 q_510 q_1 q_511 ⟨rfl, rfl⟩ yd_X6_jobOf ⟨Nat.le_of_ble_eq_true rfl, Nat.le_of_ble_eq_true rfl⟩ (Nat.le_of_ble_eq_true rfl) dL_holds_514 (fun r32 M31 H locs h hP hS => ?_)
            refine lv_aload_n (pc := 517) hx hb dL_holds_517 rfl (lv_at hl 3 rfl) ?_
            refine lv_iload (pc := 518) hx hb dL_holds_518 (lv_at hl 9 rfl) ?_
            refine lv_iconst (v := 3) (pc := 520) hx hb dL_holds_520 (by decide) ?_
            refine m_callVI (pc := 521) (y := yX6_jobOf) (κ := 6) (As := [.int x8, .int 3]) (rest := [.int r32]) C hK hP hS hl.1 ⟨Nat.zero_le _, Nat.zero_le _⟩ (c_X6_jobOf h) rfl rfl hk24 (by decide) rfl q_508 q_509 q_510 q_1 q_511 ⟨rfl, rfl⟩ yd_X6_jobOf ⟨Nat.le_of_ble_eq_true rfl, Nat.le_of_ble_eq_true rfl⟩ (Nat.le_of_ble_eq_true rfl) dL_holds_521 (fun r34 M33 H locs h hP hS => ?_)
            refine lv_icmp_ge (tgt := 568) (pc := 524) hx hb dL_holds_524 (by decide) (fun c524 => ?_) (fun c524 => ?_)
            · replace h := h.1 c524
              refine lv_iconst (v := 0) (pc := 568) hx hb dL_holds_568 (by decide) ?_
              exact m_zret (v := false) (pc := 569) C hr hlk hP hS dL_holds_569 h
            · replace h := h.2 c524
              refine lv_iload (pc := 527) hx hb dL_holds_527 (lv_at hl 10 rfl) ?_
              refine lv_aload_n (pc := 529) hx hb dL_holds_529 rfl (lv_at hl 3 rfl) ?_
              refine lv_iload (pc := 530) hx hb dL_holds_530 (lv_at hl 9 rfl) ?_
              refine lv_iconst (v := 3) (pc := 532) hx hb dL_holds_532 (by decide) ?_
              refine m_callVI (pc := 533) (y := yX6_jobOf) (κ := 6) (As := [.int x8, .int 3]) (rest := [.int x9]) C hK hP hS hl.1 ⟨Nat.zero_le _, Nat.zero_le _⟩ (c_X6_jobOf h) rfl rfl hk24 (by decide) rfl q_508 q_509 q_510 q_1 q_511 ⟨rfl, rfl⟩ yd_X6_jobOf ⟨Nat.le_of_ble_eq_true rfl, Nat.le_of_ble_eq_true rfl⟩ (Nat.le_of_ble_eq_true rfl) dL_holds_533 (fun r36 M35 H locs h hP hS => ?_)
              refine lv_aload_n (pc := 536) hx hb dL_holds_536 rfl (lv_at hl 3 rfl) ?_
              refine lv_iload (pc := 537) hx hb dL_holds_537 (lv_at hl 9 rfl) ?_
              refine lv_iconst (v := 4) (pc := 539) hx hb dL_holds_539 (by decide) ?_
              refine m_callVI (pc := 540) (y := yX6_jobOf) (κ := 6) (As := [.int x8, .int 4]) (rest := [.int r36, .int x9]) C hK hP hS hl.1 ⟨Nat.zero_le _, Nat.zero_le _⟩ (c_X6_jobOf h) rfl rfl hk24 (by decide) rfl q_508 q_509 q_510 q_1 q_511 ⟨rfl, rfl⟩ yd_X6_jobOf ⟨Nat.le_of_ble_eq_true rfl, Nat.le_of_ble_eq_true rfl⟩ (Nat.le_of_ble_eq_true rfl) dL_holds_540 (fun r38 M37 H locs h hP hS => ?_)
              refine lv_isub (pc := 543) hx hb dL_holds_543 ?_
              refine lv_icmp_gt (tgt := 568) (pc := 544) hx hb dL_holds_544 (by decide) (fun c544 => ?_) (fun c544 => ?_)
              · replace h := h.1 c544
                refine lv_iconst (v := 0) (pc := 568) hx hb dL_holds_568 (by decide) ?_
                exact m_zret (v := false) (pc := 569) C hr hlk hP hS dL_holds_569 h
              · replace h := h.2 c544
                refine lv_aload_n (pc := 547) hx hb dL_holds_547 rfl (lv_at hl 3 rfl) ?_
                refine lv_iload (pc := 548) hx hb dL_holds_548 (lv_at hl 9 rfl) ?_
                refine lv_bipush (v := 7) (pc := 550) hx hb dL_holds_550 (by decide) ?_
                refine m_callVI (pc := 552) (y := yX6_jobOf) (κ := 6) (As := [.int x8, .int 7]) (rest := []) C hK hP hS hl.1 ⟨Nat.zero_le _, Nat.zero_le _⟩ (c_X6_jobOf h) rfl rfl hk24 (by decide) rfl q_508 q_509 q_510 q_1 q_511 ⟨rfl, rfl⟩ yd_X6_jobOf ⟨Nat.le_of_ble_eq_true rfl, Nat.le_of_ble_eq_true rfl⟩ (Nat.le_of_ble_eq_true rfl) dL_holds_552 (fun r40 M39 H locs h hP hS => ?_)
                refine m_joinZ (z := if ¬ r40 = 0 then false else true) (jp := 563) (rest := []) ?_ (fun hJ => ?_)
                rotate_left
                · skip
                  refine lv_if_ne (tgt := 562) (pc := 555) hx hb dL_holds_555 (by decide) (fun c555 => ?_) (fun c555 => ?_)
                  · skip
                    refine lv_iconst (v := 0) (pc := 562) hx hb dL_holds_562 (by decide) ?_
                    exact hJ _ false rfl (by rw [if_pos c555])
                  · skip
                    refine lv_iconst (v := 1) (pc := 558) hx hb dL_holds_558 (by decide) ?_
                    refine lv_goto (tgt := 563) (pc := 559) hx hb dL_holds_559 (by decide) ?_
                    exact hJ _ true rfl (by rw [if_neg (fun hn => hn c555)])
                refine lv_iload (pc := 563) hx hb dL_holds_563 (lv_at hl 1 rfl) ?_
                refine lv_icmp_eq (tgt := 570) (pc := 565) hx hb dL_holds_565 (by decide) (fun c565 => ?_) (fun c565 => ?_)
                · replace h := h.1 c565
                  obtain ⟨v41, ev41⟩ : ∃ y : Int32, y = x8 + 1 := ⟨_, rfl⟩
                  replace h := h v41 ev41
                  refine lv_iinc (v := v41) (lv' := [(8, .int v41), (7, .int v30), (11, .int (bI (if ¬ r25 = r27 then false else true))), (10, .int 1), (0, .ref (b + x0)), (2, .int x2), (3, .int x3), (4, .int x4), (5, .int x5), (6, .int x6), (9, .int x9)]) (pc := 570) hx hb dL_holds_570 hl (k := 9) rfl (by rw [ev41]; rfl) (by decide) rfl (fun ls hl => ?_)
                  refine lv_goto (tgt := 304) (pc := 573) hx hb dL_holds_573 (by decide) ?_
                  exact hKk _ _ _ _ _ _ _ _ _ _ _ _ h hP hS (lv_sub hl [4, 5, 6, 7, 8, 9, 1, 0] rfl)
                · replace h := h.2 c565
                  refine lv_iconst (v := 0) (pc := 568) hx hb dL_holds_568 (by decide) ?_
                  exact m_zret (v := false) (pc := 569) C hr hlk hP hS dL_holds_569 h
        · replace h := h.2 c359
          refine lv_aload_n (pc := 362) hx hb dL_holds_362 rfl (lv_at hl 0 rfl) ?_
          refine lv_iload (pc := 363) hx hb dL_holds_363 (lv_at hl 7 rfl) ?_
          refine lv_bipush (v := 6) (pc := 365) hx hb dL_holds_365 (by decide) ?_
          obtain ⟨hk43, h⟩ := h
          refine m_callVI (pc := 367) (y := yX6_jobOf) (κ := 6) (As := [.int x8, .int 6]) (rest := []) C hK hP hS hl.1 ⟨Nat.zero_le _, Nat.zero_le _⟩ (c_X6_jobOf h) rfl rfl hk43 (by decide) rfl q_508 q_509 q_510 q_1 q_511 ⟨rfl, rfl⟩ yd_X6_jobOf ⟨Nat.le_of_ble_eq_true rfl, Nat.le_of_ble_eq_true rfl⟩ (Nat.le_of_ble_eq_true rfl) dL_holds_367 (fun r44 M42 H locs h hP hS => ?_)
          refine lv_aload_n (pc := 370) hx hb dL_holds_370 rfl (lv_at hl 0 rfl) ?_
          refine lv_iload (pc := 371) hx hb dL_holds_371 (lv_at hl 7 rfl) ?_
          refine lv_iconst (v := 1) (pc := 373) hx hb dL_holds_373 (by decide) ?_
          refine lv_isub (pc := 374) hx hb dL_holds_374 ?_
          refine lv_bipush (v := 6) (pc := 375) hx hb dL_holds_375 (by decide) ?_
          refine m_callVI (pc := 377) (y := yX6_jobOf) (κ := 6) (As := [.int (x8 - 1), .int 6]) (rest := [.int r44]) C hK hP hS hl.1 ⟨Nat.zero_le _, Nat.zero_le _⟩ (c_X6_jobOf h) rfl rfl hk43 (by decide) rfl q_508 q_509 q_510 q_1 q_511 ⟨rfl, rfl⟩ yd_X6_jobOf ⟨Nat.le_of_ble_eq_true rfl, Nat.le_of_ble_eq_true rfl⟩ (Nat.le_of_ble_eq_true rfl) dL_holds_377 (fun r46 M45 H locs h hP hS => ?_)
          refine lv_icmp_lt (tgt := 461) (pc := 380) hx hb dL_holds_380 (by decide) (fun c380 => ?_) (fun c380 => ?_)
          · replace h := h.1 c380
            refine lv_iconst (v := 1) (pc := 461) hx hb dL_holds_461 (by decide) ?_
            refine lv_goto (tgt := 466) (pc := 462) hx hb dL_holds_462 (by decide) ?_
            refine lv_istore (lv' := [(10, .int 1), (0, .ref (b + x0)), (2, .int x2), (3, .int x3), (4, .int x4), (5, .int x5), (6, .int x6), (7, .int x7), (8, .int x8), (9, .int x9)]) (pc := 466) hx hb dL_holds_466 hl (by decide) rfl (fun ls hl => ?_)
            refine lv_aload_n (pc := 468) hx hb dL_holds_468 rfl (lv_at hl 1 rfl) ?_
            refine lv_bipush (v := 6) (pc := 469) hx hb dL_holds_469 (by decide) ?_
            refine lv_iconst (v := 0) (pc := 471) hx hb dL_holds_471 (by decide) ?_
            refine m_callVI (pc := 472) (y := yX6_billet) (κ := 6) (As := [.int 6, .int 0]) (rest := []) C hK hP hS hl.1 ⟨Nat.zero_le _, Nat.zero_le _⟩ (c_X6_billet h) rfl rfl hk43 (by decide) rfl q_498 q_499 q_500 q_1 q_501 ⟨rfl, rfl⟩ yd_X6_billet ⟨Nat.le_of_ble_eq_true rfl, Nat.le_of_ble_eq_true rfl⟩ (Nat.le_of_ble_eq_true rfl) dL_holds_472 (fun r48 M47 H locs h hP hS => ?_)
            refine lv_aload_n (pc := 475) hx hb dL_holds_475 rfl (lv_at hl 1 rfl) ?_
            refine lv_iload (pc := 476) hx hb dL_holds_476 (lv_at hl 8 rfl) ?_
            refine lv_iconst (v := 0) (pc := 478) hx hb dL_holds_478 (by decide) ?_
            refine m_callVI (pc := 479) (y := yX6_jobOf) (κ := 6) (As := [.int x8, .int 0]) (rest := [.int r48]) C hK hP hS hl.1 ⟨Nat.zero_le _, Nat.zero_le _⟩ (c_X6_jobOf h) rfl rfl hk43 (by decide) rfl q_508 q_509 q_510 q_1 q_511 ⟨rfl, rfl⟩ yd_X6_jobOf ⟨Nat.le_of_ble_eq_true rfl, Nat.le_of_ble_eq_true rfl⟩ (Nat.le_of_ble_eq_true rfl) dL_holds_479 (fun r50 M49 H locs h hP hS => ?_)
            refine m_joinZ (z := if ¬ r48 = r50 then false else true) (jp := 490) (rest := []) ?_ (fun hJ => ?_)
            rotate_left
            · skip
              refine lv_icmp_ne (tgt := 489) (pc := 482) hx hb dL_holds_482 (by decide) (fun c482 => ?_) (fun c482 => ?_)
              · skip
                refine lv_iconst (v := 0) (pc := 489) hx hb dL_holds_489 (by decide) ?_
                exact hJ _ false rfl (by rw [if_pos c482])
              · skip
                refine lv_iconst (v := 1) (pc := 485) hx hb dL_holds_485 (by decide) ?_
                refine lv_goto (tgt := 490) (pc := 486) hx hb dL_holds_486 (by decide) ?_
                exact hJ _ true rfl (by rw [if_neg (fun hn => hn c482)])
            refine lv_istore (lv' := [(11, .int (bI (if ¬ r48 = r50 then false else true))), (10, .int 1), (0, .ref (b + x0)), (2, .int x2), (3, .int x3), (4, .int x4), (5, .int x5), (6, .int x6), (7, .int x7), (8, .int x8), (9, .int x9)]) (pc := 490) hx hb dL_holds_490 hl (by decide) rfl (fun ls hl => ?_)
            refine lv_iload (pc := 492) hx hb dL_holds_492 (lv_at hl 8 rfl) ?_
            refine lv_aload_n (pc := 494) hx hb dL_holds_494 rfl (lv_at hl 2 rfl) ?_
            refine lv_iload (pc := 495) hx hb dL_holds_495 (lv_at hl 9 rfl) ?_
            refine lv_bipush (v := 6) (pc := 497) hx hb dL_holds_497 (by decide) ?_
            refine m_callVI (pc := 499) (y := yX6_jobOf) (κ := 6) (As := [.int x8, .int 6]) (rest := [.int x7]) C hK hP hS hl.1 ⟨Nat.zero_le _, Nat.zero_le _⟩ (c_X6_jobOf h) rfl rfl hk43 (by decide) rfl q_508 q_509 q_510 q_1 q_511 ⟨rfl, rfl⟩ yd_X6_jobOf ⟨Nat.le_of_ble_eq_true rfl, Nat.le_of_ble_eq_true rfl⟩ (Nat.le_of_ble_eq_true rfl) dL_holds_499 (fun r52 M51 H locs h hP hS => ?_)
            refine lv_iadd (pc := 502) hx hb dL_holds_502 ?_
            refine lv_topi (fun v53 ev53 => ?_)
            replace h := h v53 ev53
            refine lv_istore (lv' := [(7, .int v53), (11, .int (bI (if ¬ r48 = r50 then false else true))), (10, .int 1), (0, .ref (b + x0)), (2, .int x2), (3, .int x3), (4, .int x4), (5, .int x5), (6, .int x6), (8, .int x8), (9, .int x9)]) (pc := 503) hx hb dL_holds_503 hl (by decide) rfl (fun ls hl => ?_)
            refine lv_iload (pc := 505) hx hb dL_holds_505 (lv_at hl 2 rfl) ?_
            refine lv_if_eq (tgt := 568) (pc := 507) hx hb dL_holds_507 (by decide) (fun c507 => ?_) (fun c507 => ?_)
            · replace h := h.1 c507
              refine lv_iconst (v := 0) (pc := 568) hx hb dL_holds_568 (by decide) ?_
              exact m_zret (v := false) (pc := 569) C hr hlk hP hS dL_holds_569 h
            · replace h := h.2 c507
              refine lv_aload_n (pc := 510) hx hb dL_holds_510 rfl (lv_at hl 3 rfl) ?_
              refine lv_iload (pc := 511) hx hb dL_holds_511 (lv_at hl 9 rfl) ?_
              refine lv_iconst (v := 4) (pc := 513) hx hb dL_holds_513 (by decide) ?_
              refine m_callVI (pc := 514) (y := yX6_jobOf) (κ := 6) (As := [.int x8, .int 4]) (rest := []) C hK hP hS hl.1 ⟨Nat.zero_le _, Nat.zero_le _⟩ (c_X6_jobOf h) rfl rfl hk43 (by decide) rfl q_508 q_509 q_510 q_1 q_511 ⟨rfl, rfl⟩ yd_X6_jobOf ⟨Nat.le_of_ble_eq_true rfl, Nat.le_of_ble_eq_true rfl⟩ (Nat.le_of_ble_eq_true rfl) dL_holds_514 (fun r55 M54 H locs h hP hS => ?_)
              refine lv_aload_n (pc := 517) hx hb dL_holds_517 rfl (lv_at hl 3 rfl) ?_
              refine lv_iload (pc := 518) hx hb dL_holds_518 (lv_at hl 9 rfl) ?_
              refine lv_iconst (v := 3) (pc := 520) hx hb dL_holds_520 (by decide) ?_
              refine m_callVI (pc := 521) (y := yX6_jobOf) (κ := 6) (As := [.int x8, .int 3]) (rest := [.int r55]) C hK hP hS hl.1 ⟨Nat.zero_le _, Nat.zero_le _⟩ (c_X6_jobOf h) rfl rfl hk43 (by decide) rfl q_508 q_509 q_510 q_1 q_511 ⟨rfl, rfl⟩ yd_X6_jobOf ⟨Nat.le_of_ble_eq_true rfl, Nat.le_of_ble_eq_true rfl⟩ (Nat.le_of_ble_eq_true rfl) dL_holds_521 (fun r57 M56 H locs h hP hS => ?_)
              refine lv_icmp_ge (tgt := 568) (pc := 524) hx hb dL_holds_524 (by decide) (fun c524 => ?_) (fun c524 => ?_)
              · replace h := h.1 c524
                refine lv_iconst (v := 0) (pc := 568) hx hb dL_holds_568 (by decide) ?_
                exact m_zret (v := false) (pc := 569) C hr hlk hP hS dL_holds_569 h
              · replace h := h.2 c524
                refine lv_iload (pc := 527) hx hb dL_holds_527 (lv_at hl 10 rfl) ?_
                refine lv_aload_n (pc := 529) hx hb dL_holds_529 rfl (lv_at hl 3 rfl) ?_
                refine lv_iload (pc := 530) hx hb dL_holds_530 (lv_at hl 9 rfl) ?_
                refine lv_iconst (v := 3) (pc := 532) hx hb dL_holds_532 (by decide) ?_
                refine m_callVI (pc := 533) (y := yX6_jobOf) (κ := 6) (As := [.int x8, .int 3]) (rest := [.int x9]) C hK hP hS hl.1 ⟨Nat.zero_le _, Nat.zero_le _⟩ (c_X6_jobOf h) rfl rfl hk43 (by decide) rfl q_508 q_509 q_510 q_1 q_511 ⟨rfl, rfl⟩ yd_X6_jobOf ⟨Nat.le_of_ble_eq_true rfl, Nat.le_of_ble_eq_true rfl⟩ (Nat.le_of_ble_eq_true rfl) dL_holds_533 (fun r59 M58 H locs h hP hS => ?_)
                refine lv_aload_n (pc := 536) hx hb dL_holds_536 rfl (lv_at hl 3 rfl) ?_
                refine lv_iload (pc := 537) hx hb dL_holds_537 (lv_at hl 9 rfl) ?_
                refine lv_iconst (v := 4) (pc := 539) hx hb dL_holds_539 (by decide) ?_
                refine m_callVI (pc := 540) (y := yX6_jobOf) (κ := 6) (As := [.int x8, .int 4]) (rest := [.int r59, .int x9]) C hK hP hS hl.1 ⟨Nat.zero_le _, Nat.zero_le _⟩ (c_X6_jobOf h) rfl rfl hk43 (by decide) rfl q_508 q_509 q_510 q_1 q_511 ⟨rfl, rfl⟩ yd_X6_jobOf ⟨Nat.le_of_ble_eq_true rfl, Nat.le_of_ble_eq_true rfl⟩ (Nat.le_of_ble_eq_true rfl) dL_holds_540 (fun r61 M60 H locs h hP hS => ?_)
                refine lv_isub (pc := 543) hx hb dL_holds_543 ?_
                refine lv_icmp_gt (tgt := 568) (pc := 544) hx hb dL_holds_544 (by decide) (fun c544 => ?_) (fun c544 => ?_)
                · replace h := h.1 c544
                  refine lv_iconst (v := 0) (pc := 568) hx hb dL_holds_568 (by decide) ?_
                  exact m_zret (v := false) (pc := 569) C hr hlk hP hS dL_holds_569 h
                · replace h := h.2 c544
                  refine lv_aload_n (pc := 547) hx hb dL_holds_547 rfl (lv_at hl 3 rfl) ?_
                  refine lv_iload (pc := 548) hx hb dL_holds_548 (lv_at hl 9 rfl) ?_
                  refine lv_bipush (v := 7) (pc := 550) hx hb dL_holds_550 (by decide) ?_
                  refine m_callVI (pc := 552) (y := yX6_jobOf) (κ := 6) (As := [.int x8, .int 7]) (rest := []) C hK hP hS hl.1 ⟨Nat.zero_le _, Nat.zero_le _⟩ (c_X6_jobOf h) rfl rfl hk43 (by decide) rfl q_508 q_509 q_510 q_1 q_511 ⟨rfl, rfl⟩ yd_X6_jobOf ⟨Nat.le_of_ble_eq_true rfl, Nat.le_of_ble_eq_true rfl⟩ (Nat.le_of_ble_eq_true rfl) dL_holds_552 (fun r63 M62 H locs h hP hS => ?_)
                  refine m_joinZ (z := if ¬ r63 = 0 then false else true) (jp := 563) (rest := []) ?_ (fun hJ => ?_)
                  rotate_left
                  · skip
                    refine lv_if_ne (tgt := 562) (pc := 555) hx hb dL_holds_555 (by decide) (fun c555 => ?_) (fun c555 => ?_)
                    · skip
                      refine lv_iconst (v := 0) (pc := 562) hx hb dL_holds_562 (by decide) ?_
                      exact hJ _ false rfl (by rw [if_pos c555])
                    · skip
                      refine lv_iconst (v := 1) (pc := 558) hx hb dL_holds_558 (by decide) ?_
                      refine lv_goto (tgt := 563) (pc := 559) hx hb dL_holds_559 (by decide) ?_
                      exact hJ _ true rfl (by rw [if_neg (fun hn => hn c555)])
                  refine lv_iload (pc := 563) hx hb dL_holds_563 (lv_at hl 1 rfl) ?_
                  refine lv_icmp_eq (tgt := 570) (pc := 565) hx hb dL_holds_565 (by decide) (fun c565 => ?_) (fun c565 => ?_)
                  · replace h := h.1 c565
                    obtain ⟨v64, ev64⟩ : ∃ y : Int32, y = x8 + 1 := ⟨_, rfl⟩
                    replace h := h v64 ev64
                    refine lv_iinc (v := v64) (lv' := [(8, .int v64), (7, .int v53), (11, .int (bI (if ¬ r48 = r50 then false else true))), (10, .int 1), (0, .ref (b + x0)), (2, .int x2), (3, .int x3), (4, .int x4), (5, .int x5), (6, .int x6), (9, .int x9)]) (pc := 570) hx hb dL_holds_570 hl (k := 9) rfl (by rw [ev64]; rfl) (by decide) rfl (fun ls hl => ?_)
                    refine lv_goto (tgt := 304) (pc := 573) hx hb dL_holds_573 (by decide) ?_
                    exact hKk _ _ _ _ _ _ _ _ _ _ _ _ h hP hS (lv_sub hl [4, 5, 6, 7, 8, 9, 1, 0] rfl)
                  · replace h := h.2 c565
                    refine lv_iconst (v := 0) (pc := 568) hx hb dL_holds_568 (by decide) ?_
                    exact m_zret (v := false) (pc := 569) C hr hlk hP hS dL_holds_569 h
          · replace h := h.2 c380
            refine lv_aload_n (pc := 383) hx hb dL_holds_383 rfl (lv_at hl 0 rfl) ?_
            refine lv_iload (pc := 384) hx hb dL_holds_384 (lv_at hl 7 rfl) ?_
            refine lv_bipush (v := 6) (pc := 386) hx hb dL_holds_386 (by decide) ?_
            refine m_callVI (pc := 388) (y := yX6_jobOf) (κ := 6) (As := [.int x8, .int 6]) (rest := []) C hK hP hS hl.1 ⟨Nat.zero_le _, Nat.zero_le _⟩ (c_X6_jobOf h) rfl rfl hk43 (by decide) rfl q_508 q_509 q_510 q_1 q_511 ⟨rfl, rfl⟩ yd_X6_jobOf ⟨Nat.le_of_ble_eq_true rfl, Nat.le_of_ble_eq_true rfl⟩ (Nat.le_of_ble_eq_true rfl) dL_holds_388 (fun r66 M65 H locs h hP hS => ?_)
            refine lv_aload_n (pc := 391) hx hb dL_holds_391 rfl (lv_at hl 0 rfl) ?_
            refine lv_iload (pc := 392) hx hb dL_holds_392 (lv_at hl 7 rfl) ?_
            refine lv_iconst (v := 1) (pc := 394) hx hb dL_holds_394 (by decide) ?_
            refine lv_isub (pc := 395) hx hb dL_holds_395 ?_
            refine lv_bipush (v := 6) (pc := 396) hx hb dL_holds_396 (by decide) ?_
            refine m_callVI (pc := 398) (y := yX6_jobOf) (κ := 6) (As := [.int (x8 - 1), .int 6]) (rest := [.int r66]) C hK hP hS hl.1 ⟨Nat.zero_le _, Nat.zero_le _⟩ (c_X6_jobOf h) rfl rfl hk43 (by decide) rfl q_508 q_509 q_510 q_1 q_511 ⟨rfl, rfl⟩ yd_X6_jobOf ⟨Nat.le_of_ble_eq_true rfl, Nat.le_of_ble_eq_true rfl⟩ (Nat.le_of_ble_eq_true rfl) dL_holds_398 (fun r68 M67 H locs h hP hS => ?_)
            refine lv_icmp_ne (tgt := 465) (pc := 401) hx hb dL_holds_401 (by decide) (fun c401 => ?_) (fun c401 => ?_)
            · replace h := h.1 c401
              refine lv_iconst (v := 0) (pc := 465) hx hb dL_holds_465 (by decide) ?_
              refine lv_istore (lv' := [(10, .int 0), (0, .ref (b + x0)), (2, .int x2), (3, .int x3), (4, .int x4), (5, .int x5), (6, .int x6), (7, .int x7), (8, .int x8), (9, .int x9)]) (pc := 466) hx hb dL_holds_466 hl (by decide) rfl (fun ls hl => ?_)
              refine lv_aload_n (pc := 468) hx hb dL_holds_468 rfl (lv_at hl 1 rfl) ?_
              refine lv_bipush (v := 6) (pc := 469) hx hb dL_holds_469 (by decide) ?_
              refine lv_iconst (v := 0) (pc := 471) hx hb dL_holds_471 (by decide) ?_
              refine m_callVI (pc := 472) (y := yX6_billet) (κ := 6) (As := [.int 6, .int 0]) (rest := []) C hK hP hS hl.1 ⟨Nat.zero_le _, Nat.zero_le _⟩ (c_X6_billet h) rfl rfl hk43 (by decide) rfl q_498 q_499 q_500 q_1 q_501 ⟨rfl, rfl⟩ yd_X6_billet ⟨Nat.le_of_ble_eq_true rfl, Nat.le_of_ble_eq_true rfl⟩ (Nat.le_of_ble_eq_true rfl) dL_holds_472 (fun r70 M69 H locs h hP hS => ?_)
              refine lv_aload_n (pc := 475) hx hb dL_holds_475 rfl (lv_at hl 1 rfl) ?_
              refine lv_iload (pc := 476) hx hb dL_holds_476 (lv_at hl 8 rfl) ?_
              refine lv_iconst (v := 0) (pc := 478) hx hb dL_holds_478 (by decide) ?_
              refine m_callVI (pc := 479) (y := yX6_jobOf) (κ := 6) (As := [.int x8, .int 0]) (rest := [.int r70]) C hK hP hS hl.1 ⟨Nat.zero_le _, Nat.zero_le _⟩ (c_X6_jobOf h) rfl rfl hk43 (by decide) rfl q_508 q_509 q_510 q_1 q_511 ⟨rfl, rfl⟩ yd_X6_jobOf ⟨Nat.le_of_ble_eq_true rfl, Nat.le_of_ble_eq_true rfl⟩ (Nat.le_of_ble_eq_true rfl) dL_holds_479 (fun r72 M71 H locs h hP hS => ?_)
              refine m_joinZ (z := if ¬ r70 = r72 then false else true) (jp := 490) (rest := []) ?_ (fun hJ => ?_)
              rotate_left
              · skip
                refine lv_icmp_ne (tgt := 489) (pc := 482) hx hb dL_holds_482 (by decide) (fun c482 => ?_) (fun c482 => ?_)
                · skip
                  refine lv_iconst (v := 0) (pc := 489) hx hb dL_holds_489 (by decide) ?_
                  exact hJ _ false rfl (by rw [if_pos c482])
                · skip
                  refine lv_iconst (v := 1) (pc := 485) hx hb dL_holds_485 (by decide) ?_
                  refine lv_goto (tgt := 490) (pc := 486) hx hb dL_holds_486 (by decide) ?_
                  exact hJ _ true rfl (by rw [if_neg (fun hn => hn c482)])
              refine lv_istore (lv' := [(11, .int (bI (if ¬ r70 = r72 then false else true))), (10, .int 0), (0, .ref (b + x0)), (2, .int x2), (3, .int x3), (4, .int x4), (5, .int x5), (6, .int x6), (7, .int x7), (8, .int x8), (9, .int x9)]) (pc := 490) hx hb dL_holds_490 hl (by decide) rfl (fun ls hl => ?_)
              refine lv_iload (pc := 492) hx hb dL_holds_492 (lv_at hl 8 rfl) ?_
              refine lv_aload_n (pc := 494) hx hb dL_holds_494 rfl (lv_at hl 2 rfl) ?_
              refine lv_iload (pc := 495) hx hb dL_holds_495 (lv_at hl 9 rfl) ?_
              refine lv_bipush (v := 6) (pc := 497) hx hb dL_holds_497 (by decide) ?_
              refine m_callVI (pc := 499) (y := yX6_jobOf) (κ := 6) (As := [.int x8, .int 6]) (rest := [.int x7]) C hK hP hS hl.1 ⟨Nat.zero_le _, Nat.zero_le _⟩ (c_X6_jobOf h) rfl rfl hk43 (by decide) rfl q_508 q_509 q_510 q_1 q_511 ⟨rfl, rfl⟩ yd_X6_jobOf ⟨Nat.le_of_ble_eq_true rfl, Nat.le_of_ble_eq_true rfl⟩ (Nat.le_of_ble_eq_true rfl) dL_holds_499 (fun r74 M73 H locs h hP hS => ?_)
              refine lv_iadd (pc := 502) hx hb dL_holds_502 ?_
              refine lv_topi (fun v75 ev75 => ?_)
              replace h := h v75 ev75
              refine lv_istore (lv' := [(7, .int v75), (11, .int (bI (if ¬ r70 = r72 then false else true))), (10, .int 0), (0, .ref (b + x0)), (2, .int x2), (3, .int x3), (4, .int x4), (5, .int x5), (6, .int x6), (8, .int x8), (9, .int x9)]) (pc := 503) hx hb dL_holds_503 hl (by decide) rfl (fun ls hl => ?_)
              refine lv_iload (pc := 505) hx hb dL_holds_505 (lv_at hl 2 rfl) ?_
              refine lv_if_eq (tgt := 568) (pc := 507) hx hb dL_holds_507 (by decide) (fun c507 => ?_) (fun c507 => ?_)
              · replace h := h.1 c507
                refine lv_iconst (v := 0) (pc := 568) hx hb dL_holds_568 (by decide) ?_
                exact m_zret (v := false) (pc := 569) C hr hlk hP hS dL_holds_569 h
              · replace h := h.2 c507
                refine lv_aload_n (pc := 510) hx hb dL_holds_510 rfl (lv_at hl 3 rfl) ?_
                refine lv_iload (pc := 511) hx hb dL_holds_511 (lv_at hl 9 rfl) ?_
                refine lv_iconst (v := 4) (pc := 513) hx hb dL_holds_513 (by decide) ?_
                refine m_callVI (pc := 514) (y := yX6_jobOf) (κ := 6) (As := [.int x8, .int 4]) (rest := []) C hK hP hS hl.1 ⟨Nat.zero_le _, Nat.zero_le _⟩ (c_X6_jobOf h) rfl rfl hk43 (by decide) rfl q_508 q_509 q_510 q_1 q_511 ⟨rfl, rfl⟩ yd_X6_jobOf ⟨Nat.le_of_ble_eq_true rfl, Nat.le_of_ble_eq_true rfl⟩ (Nat.le_of_ble_eq_true rfl) dL_holds_514 (fun r77 M76 H locs h hP hS => ?_)
                refine lv_aload_n (pc := 517) hx hb dL_holds_517 rfl (lv_at hl 3 rfl) ?_
                refine lv_iload (pc := 518) hx hb dL_holds_518 (lv_at hl 9 rfl) ?_
                refine lv_iconst (v := 3) (pc := 520) hx hb dL_holds_520 (by decide) ?_
                refine m_callVI (pc := 521) (y := yX6_jobOf) (κ := 6) (As := [.int x8, .int 3]) (rest := [.int r77]) C hK hP hS hl.1 ⟨Nat.zero_le _, Nat.zero_le _⟩ (c_X6_jobOf h) rfl rfl hk43 (by decide) rfl q_508 q_509 q_510 q_1 q_511 ⟨rfl, rfl⟩ yd_X6_jobOf ⟨Nat.le_of_ble_eq_true rfl, Nat.le_of_ble_eq_true rfl⟩ (Nat.le_of_ble_eq_true rfl) dL_holds_521 (fun r79 M78 H locs h hP hS => ?_)
                refine lv_icmp_ge (tgt := 568) (pc := 524) hx hb dL_holds_524 (by decide) (fun c524 => ?_) (fun c524 => ?_)
                · replace h := h.1 c524
                  refine lv_iconst (v := 0) (pc := 568) hx hb dL_holds_568 (by decide) ?_
                  exact m_zret (v := false) (pc := 569) C hr hlk hP hS dL_holds_569 h
                · replace h := h.2 c524
                  refine lv_iload (pc := 527) hx hb dL_holds_527 (lv_at hl 10 rfl) ?_
                  refine lv_aload_n (pc := 529) hx hb dL_holds_529 rfl (lv_at hl 3 rfl) ?_
                  refine lv_iload (pc := 530) hx hb dL_holds_530 (lv_at hl 9 rfl) ?_
                  refine lv_iconst (v := 3) (pc := 532) hx hb dL_holds_532 (by decide) ?_
                  refine m_callVI (pc := 533) (y := yX6_jobOf) (κ := 6) (As := [.int x8, .int 3]) (rest := [.int x9]) C hK hP hS hl.1 ⟨Nat.zero_le _, Nat.zero_le _⟩ (c_X6_jobOf h) rfl rfl hk43 (by decide) rfl q_508 q_509 q_510 q_1 q_511 ⟨rfl, rfl⟩ yd_X6_jobOf ⟨Nat.le_of_ble_eq_true rfl, Nat.le_of_ble_eq_true rfl⟩ (Nat.le_of_ble_eq_true rfl) dL_holds_533 (fun r81 M80 H locs h hP hS => ?_)
                  refine lv_aload_n (pc := 536) hx hb dL_holds_536 rfl (lv_at hl 3 rfl) ?_
                  refine lv_iload (pc := 537) hx hb dL_holds_537 (lv_at hl 9 rfl) ?_
                  refine lv_iconst (v := 4) (pc := 539) hx hb dL_holds_539 (by decide) ?_
                  refine m_callVI (pc := 540) (y := yX6_jobOf) (κ := 6) (As := [.int x8, .int 4]) (rest := [.int r81, .int x9]) C hK hP hS hl.1 ⟨Nat.zero_le _, Nat.zero_le _⟩ (c_X6_jobOf h) rfl rfl hk43 (by decide) rfl q_508 q_509 q_510 q_1 q_511 ⟨rfl, rfl⟩ yd_X6_jobOf ⟨Nat.le_of_ble_eq_true rfl, Nat.le_of_ble_eq_true rfl⟩ (Nat.le_of_ble_eq_true rfl) dL_holds_540 (fun r83 M82 H locs h hP hS => ?_)
                  refine lv_isub (pc := 543) hx hb dL_holds_543 ?_
                  refine lv_icmp_gt (tgt := 568) (pc := 544) hx hb dL_holds_544 (by decide) (fun c544 => ?_) (fun c544 => ?_)
                  · replace h := h.1 c544
                    refine lv_iconst (v := 0) (pc := 568) hx hb dL_holds_568 (by decide) ?_
                    exact m_zret (v := false) (pc := 569) C hr hlk hP hS dL_holds_569 h
                  · replace h := h.2 c544
                    refine lv_aload_n (pc := 547) hx hb dL_holds_547 rfl (lv_at hl 3 rfl) ?_
                    refine lv_iload (pc := 548) hx hb dL_holds_548 (lv_at hl 9 rfl) ?_
                    refine lv_bipush (v := 7) (pc := 550) hx hb dL_holds_550 (by decide) ?_
                    refine m_callVI (pc := 552) (y := yX6_jobOf) (κ := 6) (As := [.int x8, .int 7]) (rest := []) C hK hP hS hl.1 ⟨Nat.zero_le _, Nat.zero_le _⟩ (c_X6_jobOf h) rfl rfl hk43 (by decide) rfl q_508 q_509 q_510 q_1 q_511 ⟨rfl, rfl⟩ yd_X6_jobOf ⟨Nat.le_of_ble_eq_true rfl, Nat.le_of_ble_eq_true rfl⟩ (Nat.le_of_ble_eq_true rfl) dL_holds_552 (fun r85 M84 H locs h hP hS => ?_)
                    refine m_joinZ (z := if ¬ r85 = 0 then false else true) (jp := 563) (rest := []) ?_ (fun hJ => ?_)
                    rotate_left
                    · skip
                      refine lv_if_ne (tgt := 562) (pc := 555) hx hb dL_holds_555 (by decide) (fun c555 => ?_) (fun c555 => ?_)
                      · skip
                        refine lv_iconst (v := 0) (pc := 562) hx hb dL_holds_562 (by decide) ?_
                        exact hJ _ false rfl (by rw [if_pos c555])
                      · skip
                        refine lv_iconst (v := 1) (pc := 558) hx hb dL_holds_558 (by decide) ?_
                        refine lv_goto (tgt := 563) (pc := 559) hx hb dL_holds_559 (by decide) ?_
                        exact hJ _ true rfl (by rw [if_neg (fun hn => hn c555)])
                    refine lv_iload (pc := 563) hx hb dL_holds_563 (lv_at hl 1 rfl) ?_
                    refine lv_icmp_eq (tgt := 570) (pc := 565) hx hb dL_holds_565 (by decide) (fun c565 => ?_) (fun c565 => ?_)
                    · replace h := h.1 c565
                      obtain ⟨v86, ev86⟩ : ∃ y : Int32, y = x8 + 1 := ⟨_, rfl⟩
                      replace h := h v86 ev86
                      refine lv_iinc (v := v86) (lv' := [(8, .int v86), (7, .int v75), (11, .int (bI (if ¬ r70 = r72 then false else true))), (10, .int 0), (0, .ref (b + x0)), (2, .int x2), (3, .int x3), (4, .int x4), (5, .int x5), (6, .int x6), (9, .int x9)]) (pc := 570) hx hb dL_holds_570 hl (k := 9) rfl (by rw [ev86]; rfl) (by decide) rfl (fun ls hl => ?_)
                      refine lv_goto (tgt := 304) (pc := 573) hx hb dL_holds_573 (by decide) ?_
                      exact hKk _ _ _ _ _ _ _ _ _ _ _ _ h hP hS (lv_sub hl [4, 5, 6, 7, 8, 9, 1, 0] rfl)
                    · replace h := h.2 c565
                      refine lv_iconst (v := 0) (pc := 568) hx hb dL_holds_568 (by decide) ?_
                      exact m_zret (v := false) (pc := 569) C hr hlk hP hS dL_holds_569 h
            · replace h := h.2 c401
              refine lv_aload_n (pc := 404) hx hb dL_holds_404 rfl (lv_at hl 0 rfl) ?_
              refine lv_iload (pc := 405) hx hb dL_holds_405 (lv_at hl 7 rfl) ?_
              refine lv_iconst (v := 5) (pc := 407) hx hb dL_holds_407 (by decide) ?_
              refine m_callVI (pc := 408) (y := yX6_jobOf) (κ := 6) (As := [.int x8, .int 5]) (rest := []) C hK hP hS hl.1 ⟨Nat.zero_le _, Nat.zero_le _⟩ (c_X6_jobOf h) rfl rfl hk43 (by decide) rfl q_508 q_509 q_510 q_1 q_511 ⟨rfl, rfl⟩ yd_X6_jobOf ⟨Nat.le_of_ble_eq_true rfl, Nat.le_of_ble_eq_true rfl⟩ (Nat.le_of_ble_eq_true rfl) dL_holds_408 (fun r88 M87 H locs h hP hS => ?_)
              refine lv_aload_n (pc := 411) hx hb dL_holds_411 rfl (lv_at hl 0 rfl) ?_
              refine lv_iload (pc := 412) hx hb dL_holds_412 (lv_at hl 7 rfl) ?_
              refine lv_iconst (v := 1) (pc := 414) hx hb dL_holds_414 (by decide) ?_
              refine lv_isub (pc := 415) hx hb dL_holds_415 ?_
              refine lv_iconst (v := 5) (pc := 416) hx hb dL_holds_416 (by decide) ?_
              refine m_callVI (pc := 417) (y := yX6_jobOf) (κ := 6) (As := [.int (x8 - 1), .int 5]) (rest := [.int r88]) C hK hP hS hl.1 ⟨Nat.zero_le _, Nat.zero_le _⟩ (c_X6_jobOf h) rfl rfl hk43 (by decide) rfl q_508 q_509 q_510 q_1 q_511 ⟨rfl, rfl⟩ yd_X6_jobOf ⟨Nat.le_of_ble_eq_true rfl, Nat.le_of_ble_eq_true rfl⟩ (Nat.le_of_ble_eq_true rfl) dL_holds_417 (fun r90 M89 H locs h hP hS => ?_)
              refine lv_icmp_gt (tgt := 461) (pc := 420) hx hb dL_holds_420 (by decide) (fun c420 => ?_) (fun c420 => ?_)
              · replace h := h.1 c420
                refine lv_iconst (v := 1) (pc := 461) hx hb dL_holds_461 (by decide) ?_
                refine lv_goto (tgt := 466) (pc := 462) hx hb dL_holds_462 (by decide) ?_
                refine lv_istore (lv' := [(10, .int 1), (0, .ref (b + x0)), (2, .int x2), (3, .int x3), (4, .int x4), (5, .int x5), (6, .int x6), (7, .int x7), (8, .int x8), (9, .int x9)]) (pc := 466) hx hb dL_holds_466 hl (by decide) rfl (fun ls hl => ?_)
                refine lv_aload_n (pc := 468) hx hb dL_holds_468 rfl (lv_at hl 1 rfl) ?_
                refine lv_bipush (v := 6) (pc := 469) hx hb dL_holds_469 (by decide) ?_
                refine lv_iconst (v := 0) (pc := 471) hx hb dL_holds_471 (by decide) ?_
                refine m_callVI (pc := 472) (y := yX6_billet) (κ := 6) (As := [.int 6, .int 0]) (rest := []) C hK hP hS hl.1 ⟨Nat.zero_le _, Nat.zero_le _⟩ (c_X6_billet h) rfl rfl hk43 (by decide) rfl q_498 q_499 q_500 q_1 q_501 ⟨rfl, rfl⟩ yd_X6_billet ⟨Nat.le_of_ble_eq_true rfl, Nat.le_of_ble_eq_true rfl⟩ (Nat.le_of_ble_eq_true rfl) dL_holds_472 (fun r92 M91 H locs h hP hS => ?_)
                refine lv_aload_n (pc := 475) hx hb dL_holds_475 rfl (lv_at hl 1 rfl) ?_
                refine lv_iload (pc := 476) hx hb dL_holds_476 (lv_at hl 8 rfl) ?_
                refine lv_iconst (v := 0) (pc := 478) hx hb dL_holds_478 (by decide) ?_
                refine m_callVI (pc := 479) (y := yX6_jobOf) (κ := 6) (As := [.int x8, .int 0]) (rest := [.int r92]) C hK hP hS hl.1 ⟨Nat.zero_le _, Nat.zero_le _⟩ (c_X6_jobOf h) rfl rfl hk43 (by decide) rfl q_508 q_509 q_510 q_1 q_511 ⟨rfl, rfl⟩ yd_X6_jobOf ⟨Nat.le_of_ble_eq_true rfl, Nat.le_of_ble_eq_true rfl⟩ (Nat.le_of_ble_eq_true rfl) dL_holds_479 (fun r94 M93 H locs h hP hS => ?_)
                refine m_joinZ (z := if ¬ r92 = r94 then false else true) (jp := 490) (rest := []) ?_ (fun hJ => ?_)
                rotate_left
                · skip
                  refine lv_icmp_ne (tgt := 489) (pc := 482) hx hb dL_holds_482 (by decide) (fun c482 => ?_) (fun c482 => ?_)
                  · skip
                    refine lv_iconst (v := 0) (pc := 489) hx hb dL_holds_489 (by decide) ?_
                    exact hJ _ false rfl (by rw [if_pos c482])
                  · skip
                    refine lv_iconst (v := 1) (pc := 485) hx hb dL_holds_485 (by decide) ?_
                    refine lv_goto (tgt := 490) (pc := 486) hx hb dL_holds_486 (by decide) ?_
                    exact hJ _ true rfl (by rw [if_neg (fun hn => hn c482)])
                refine lv_istore (lv' := [(11, .int (bI (if ¬ r92 = r94 then false else true))), (10, .int 1), (0, .ref (b + x0)), (2, .int x2), (3, .int x3), (4, .int x4), (5, .int x5), (6, .int x6), (7, .int x7), (8, .int x8), (9, .int x9)]) (pc := 490) hx hb dL_holds_490 hl (by decide) rfl (fun ls hl => ?_)
                refine lv_iload (pc := 492) hx hb dL_holds_492 (lv_at hl 8 rfl) ?_
                refine lv_aload_n (pc := 494) hx hb dL_holds_494 rfl (lv_at hl 2 rfl) ?_
                refine lv_iload (pc := 495) hx hb dL_holds_495 (lv_at hl 9 rfl) ?_
                refine lv_bipush (v := 6) (pc := 497) hx hb dL_holds_497 (by decide) ?_
                refine m_callVI (pc := 499) (y := yX6_jobOf) (κ := 6) (As := [.int x8, .int 6]) (rest := [.int x7]) C hK hP hS hl.1 ⟨Nat.zero_le _, Nat.zero_le _⟩ (c_X6_jobOf h) rfl rfl hk43 (by decide) rfl q_508 q_509 q_510 q_1 q_511 ⟨rfl, rfl⟩ yd_X6_jobOf ⟨Nat.le_of_ble_eq_true rfl, Nat.le_of_ble_eq_true rfl⟩ (Nat.le_of_ble_eq_true rfl) dL_holds_499 (fun r96 M95 H locs h hP hS => ?_)
                refine lv_iadd (pc := 502) hx hb dL_holds_502 ?_
                refine lv_topi (fun v97 ev97 => ?_)
                replace h := h v97 ev97
                refine lv_istore (lv' := [(7, .int v97), (11, .int (bI (if ¬ r92 = r94 then false else true))), (10, .int 1), (0, .ref (b + x0)), (2, .int x2), (3, .int x3), (4, .int x4), (5, .int x5), (6, .int x6), (8, .int x8), (9, .int x9)]) (pc := 503) hx hb dL_holds_503 hl (by decide) rfl (fun ls hl => ?_)
                refine lv_iload (pc := 505) hx hb dL_holds_505 (lv_at hl 2 rfl) ?_
                refine lv_if_eq (tgt := 568) (pc := 507) hx hb dL_holds_507 (by decide) (fun c507 => ?_) (fun c507 => ?_)
                · replace h := h.1 c507
                  refine lv_iconst (v := 0) (pc := 568) hx hb dL_holds_568 (by decide) ?_
                  exact m_zret (v := false) (pc := 569) C hr hlk hP hS dL_holds_569 h
                · replace h := h.2 c507
                  refine lv_aload_n (pc := 510) hx hb dL_holds_510 rfl (lv_at hl 3 rfl) ?_
                  refine lv_iload (pc := 511) hx hb dL_holds_511 (lv_at hl 9 rfl) ?_
                  refine lv_iconst (v := 4) (pc := 513) hx hb dL_holds_513 (by decide) ?_
                  refine m_callVI (pc := 514) (y := yX6_jobOf) (κ := 6) (As := [.int x8, .int 4]) (rest := []) C hK hP hS hl.1 ⟨Nat.zero_le _, Nat.zero_le _⟩ (c_X6_jobOf h) rfl rfl hk43 (by decide) rfl q_508 q_509 q_510 q_1 q_511 ⟨rfl, rfl⟩ yd_X6_jobOf ⟨Nat.le_of_ble_eq_true rfl, Nat.le_of_ble_eq_true rfl⟩ (Nat.le_of_ble_eq_true rfl) dL_holds_514 (fun r99 M98 H locs h hP hS => ?_)
                  refine lv_aload_n (pc := 517) hx hb dL_holds_517 rfl (lv_at hl 3 rfl) ?_
                  refine lv_iload (pc := 518) hx hb dL_holds_518 (lv_at hl 9 rfl) ?_
                  refine lv_iconst (v := 3) (pc := 520) hx hb dL_holds_520 (by decide) ?_
                  refine m_callVI (pc := 521) (y := yX6_jobOf) (κ := 6) (As := [.int x8, .int 3]) (rest := [.int r99]) C hK hP hS hl.1 ⟨Nat.zero_le _, Nat.zero_le _⟩ (c_X6_jobOf h) rfl rfl hk43 (by decide) rfl q_508 q_509 q_510 q_1 q_511 ⟨rfl, rfl⟩ yd_X6_jobOf ⟨Nat.le_of_ble_eq_true rfl, Nat.le_of_ble_eq_true rfl⟩ (Nat.le_of_ble_eq_true rfl) dL_holds_521 (fun r101 M100 H locs h hP hS => ?_)
                  refine lv_icmp_ge (tgt := 568) (pc := 524) hx hb dL_holds_524 (by decide) (fun c524 => ?_) (fun c524 => ?_)
                  · replace h := h.1 c524
                    refine lv_iconst (v := 0) (pc := 568) hx hb dL_holds_568 (by decide) ?_
                    exact m_zret (v := false) (pc := 569) C hr hlk hP hS dL_holds_569 h
                  · replace h := h.2 c524
                    refine lv_iload (pc := 527) hx hb dL_holds_527 (lv_at hl 10 rfl) ?_
                    refine lv_aload_n (pc := 529) hx hb dL_holds_529 rfl (lv_at hl 3 rfl) ?_
                    refine lv_iload (pc := 530) hx hb dL_holds_530 (lv_at hl 9 rfl) ?_
                    refine lv_iconst (v := 3) (pc := 532) hx hb dL_holds_532 (by decide) ?_
                    refine m_callVI (pc := 533) (y := yX6_jobOf) (κ := 6) (As := [.int x8, .int 3]) (rest := [.int x9]) C hK hP hS hl.1 ⟨Nat.zero_le _, Nat.zero_le _⟩ (c_X6_jobOf h) rfl rfl hk43 (by decide) rfl q_508 q_509 q_510 q_1 q_511 ⟨rfl, rfl⟩ yd_X6_jobOf ⟨Nat.le_of_ble_eq_true rfl, Nat.le_of_ble_eq_true rfl⟩ (Nat.le_of_ble_eq_true rfl) dL_holds_533 (fun r103 M102 H locs h hP hS => ?_)
                    refine lv_aload_n (pc := 536) hx hb dL_holds_536 rfl (lv_at hl 3 rfl) ?_
                    refine lv_iload (pc := 537) hx hb dL_holds_537 (lv_at hl 9 rfl) ?_
                    refine lv_iconst (v := 4) (pc := 539) hx hb dL_holds_539 (by decide) ?_
                    refine m_callVI (pc := 540) (y := yX6_jobOf) (κ := 6) (As := [.int x8, .int 4]) (rest := [.int r103, .int x9]) C hK hP hS hl.1 ⟨Nat.zero_le _, Nat.zero_le _⟩ (c_X6_jobOf h) rfl rfl hk43 (by decide) rfl q_508 q_509 q_510 q_1 q_511 ⟨rfl, rfl⟩ yd_X6_jobOf ⟨Nat.le_of_ble_eq_true rfl, Nat.le_of_ble_eq_true rfl⟩ (Nat.le_of_ble_eq_true rfl) dL_holds_540 (fun r105 M104 H locs h hP hS => ?_)
                    refine lv_isub (pc := 543) hx hb dL_holds_543 ?_
                    refine lv_icmp_gt (tgt := 568) (pc := 544) hx hb dL_holds_544 (by decide) (fun c544 => ?_) (fun c544 => ?_)
                    · replace h := h.1 c544
                      refine lv_iconst (v := 0) (pc := 568) hx hb dL_holds_568 (by decide) ?_
                      exact m_zret (v := false) (pc := 569) C hr hlk hP hS dL_holds_569 h
                    · replace h := h.2 c544
                      refine lv_aload_n (pc := 547) hx hb dL_holds_547 rfl (lv_at hl 3 rfl) ?_
                      refine lv_iload (pc := 548) hx hb dL_holds_548 (lv_at hl 9 rfl) ?_
                      refine lv_bipush (v := 7) (pc := 550) hx hb dL_holds_550 (by decide) ?_
                      refine m_callVI (pc := 552) (y := yX6_jobOf) (κ := 6) (As := [.int x8, .int 7]) (rest := []) C hK hP hS hl.1 ⟨Nat.zero_le _, Nat.zero_le _⟩ (c_X6_jobOf h) rfl rfl hk43 (by decide) rfl q_508 q_509 q_510 q_1 q_511 ⟨rfl, rfl⟩ yd_X6_jobOf ⟨Nat.le_of_ble_eq_true rfl, Nat.le_of_ble_eq_true rfl⟩ (Nat.le_of_ble_eq_true rfl) dL_holds_552 (fun r107 M106 H locs h hP hS => ?_)
                      refine m_joinZ (z := if ¬ r107 = 0 then false else true) (jp := 563) (rest := []) ?_ (fun hJ => ?_)
                      rotate_left
                      · skip
                        refine lv_if_ne (tgt := 562) (pc := 555) hx hb dL_holds_555 (by decide) (fun c555 => ?_) (fun c555 => ?_)
                        · skip
                          refine lv_iconst (v := 0) (pc := 562) hx hb dL_holds_562 (by decide) ?_
                          exact hJ _ false rfl (by rw [if_pos c555])
                        · skip
                          refine lv_iconst (v := 1) (pc := 558) hx hb dL_holds_558 (by decide) ?_
                          refine lv_goto (tgt := 563) (pc := 559) hx hb dL_holds_559 (by decide) ?_
                          exact hJ _ true rfl (by rw [if_neg (fun hn => hn c555)])
                      refine lv_iload (pc := 563) hx hb dL_holds_563 (lv_at hl 1 rfl) ?_
                      refine lv_icmp_eq (tgt := 570) (pc := 565) hx hb dL_holds_565 (by decide) (fun c565 => ?_) (fun c565 => ?_)
                      · replace h := h.1 c565
                        obtain ⟨v108, ev108⟩ : ∃ y : Int32, y = x8 + 1 := ⟨_, rfl⟩
                        replace h := h v108 ev108
                        refine lv_iinc (v := v108) (lv' := [(8, .int v108), (7, .int v97), (11, .int (bI (if ¬ r92 = r94 then false else true))), (10, .int 1), (0, .ref (b + x0)), (2, .int x2), (3, .int x3), (4, .int x4), (5, .int x5), (6, .int x6), (9, .int x9)]) (pc := 570) hx hb dL_holds_570 hl (k := 9) rfl (by rw [ev108]; rfl) (by decide) rfl (fun ls hl => ?_)
                        refine lv_goto (tgt := 304) (pc := 573) hx hb dL_holds_573 (by decide) ?_
                        exact hKk _ _ _ _ _ _ _ _ _ _ _ _ h hP hS (lv_sub hl [4, 5, 6, 7, 8, 9, 1, 0] rfl)
                      · replace h := h.2 c565
                        refine lv_iconst (v := 0) (pc := 568) hx hb dL_holds_568 (by decide) ?_
                        exact m_zret (v := false) (pc := 569) C hr hlk hP hS dL_holds_569 h
              · replace h := h.2 c420
                refine lv_aload_n (pc := 423) hx hb dL_holds_423 rfl (lv_at hl 0 rfl) ?_
                refine lv_iload (pc := 424) hx hb dL_holds_424 (lv_at hl 7 rfl) ?_
                refine lv_iconst (v := 5) (pc := 426) hx hb dL_holds_426 (by decide) ?_
                refine m_callVI (pc := 427) (y := yX6_jobOf) (κ := 6) (As := [.int x8, .int 5]) (rest := []) C hK hP hS hl.1 ⟨Nat.zero_le _, Nat.zero_le _⟩ (c_X6_jobOf h) rfl rfl hk43 (by decide) rfl q_508 q_509 q_510 q_1 q_511 ⟨rfl, rfl⟩ yd_X6_jobOf ⟨Nat.le_of_ble_eq_true rfl, Nat.le_of_ble_eq_true rfl⟩ (Nat.le_of_ble_eq_true rfl) dL_holds_427 (fun r110 M109 H locs h hP hS => ?_)
                refine lv_aload_n (pc := 430) hx hb dL_holds_430 rfl (lv_at hl 0 rfl) ?_
                refine lv_iload (pc := 431) hx hb dL_holds_431 (lv_at hl 7 rfl) ?_
                refine lv_iconst (v := 1) (pc := 433) hx hb dL_holds_433 (by decide) ?_
                refine lv_isub (pc := 434) hx hb dL_holds_434 ?_
                refine lv_iconst (v := 5) (pc := 435) hx hb dL_holds_435 (by decide) ?_
                refine m_callVI (pc := 436) (y := yX6_jobOf) (κ := 6) (As := [.int (x8 - 1), .int 5]) (rest := [.int r110]) C hK hP hS hl.1 ⟨Nat.zero_le _, Nat.zero_le _⟩ (c_X6_jobOf h) rfl rfl hk43 (by decide) rfl q_508 q_509 q_510 q_1 q_511 ⟨rfl, rfl⟩ yd_X6_jobOf ⟨Nat.le_of_ble_eq_true rfl, Nat.le_of_ble_eq_true rfl⟩ (Nat.le_of_ble_eq_true rfl) dL_holds_436 (fun r112 M111 H locs h hP hS => ?_)
                refine lv_icmp_ne (tgt := 465) (pc := 439) hx hb dL_holds_439 (by decide) (fun c439 => ?_) (fun c439 => ?_)
                · replace h := h.1 c439
                  refine lv_iconst (v := 0) (pc := 465) hx hb dL_holds_465 (by decide) ?_
                  refine lv_istore (lv' := [(10, .int 0), (0, .ref (b + x0)), (2, .int x2), (3, .int x3), (4, .int x4), (5, .int x5), (6, .int x6), (7, .int x7), (8, .int x8), (9, .int x9)]) (pc := 466) hx hb dL_holds_466 hl (by decide) rfl (fun ls hl => ?_)
                  refine lv_aload_n (pc := 468) hx hb dL_holds_468 rfl (lv_at hl 1 rfl) ?_
                  refine lv_bipush (v := 6) (pc := 469) hx hb dL_holds_469 (by decide) ?_
                  refine lv_iconst (v := 0) (pc := 471) hx hb dL_holds_471 (by decide) ?_
                  refine m_callVI (pc := 472) (y := yX6_billet) (κ := 6) (As := [.int 6, .int 0]) (rest := []) C hK hP hS hl.1 ⟨Nat.zero_le _, Nat.zero_le _⟩ (c_X6_billet h) rfl rfl hk43 (by decide) rfl q_498 q_499 q_500 q_1 q_501 ⟨rfl, rfl⟩ yd_X6_billet ⟨Nat.le_of_ble_eq_true rfl, Nat.le_of_ble_eq_true rfl⟩ (Nat.le_of_ble_eq_true rfl) dL_holds_472 (fun r114 M113 H locs h hP hS => ?_)
                  refine lv_aload_n (pc := 475) hx hb dL_holds_475 rfl (lv_at hl 1 rfl) ?_
                  refine lv_iload (pc := 476) hx hb dL_holds_476 (lv_at hl 8 rfl) ?_
                  refine lv_iconst (v := 0) (pc := 478) hx hb dL_holds_478 (by decide) ?_
                  refine m_callVI (pc := 479) (y := yX6_jobOf) (κ := 6) (As := [.int x8, .int 0]) (rest := [.int r114]) C hK hP hS hl.1 ⟨Nat.zero_le _, Nat.zero_le _⟩ (c_X6_jobOf h) rfl rfl hk43 (by decide) rfl q_508 q_509 q_510 q_1 q_511 ⟨rfl, rfl⟩ yd_X6_jobOf ⟨Nat.le_of_ble_eq_true rfl, Nat.le_of_ble_eq_true rfl⟩ (Nat.le_of_ble_eq_true rfl) dL_holds_479 (fun r116 M115 H locs h hP hS => ?_)
                  refine m_joinZ (z := if ¬ r114 = r116 then false else true) (jp := 490) (rest := []) ?_ (fun hJ => ?_)
                  rotate_left
                  · skip
                    refine lv_icmp_ne (tgt := 489) (pc := 482) hx hb dL_holds_482 (by decide) (fun c482 => ?_) (fun c482 => ?_)
                    · skip
                      refine lv_iconst (v := 0) (pc := 489) hx hb dL_holds_489 (by decide) ?_
                      exact hJ _ false rfl (by rw [if_pos c482])
                    · skip
                      refine lv_iconst (v := 1) (pc := 485) hx hb dL_holds_485 (by decide) ?_
                      refine lv_goto (tgt := 490) (pc := 486) hx hb dL_holds_486 (by decide) ?_
                      exact hJ _ true rfl (by rw [if_neg (fun hn => hn c482)])
                  refine lv_istore (lv' := [(11, .int (bI (if ¬ r114 = r116 then false else true))), (10, .int 0), (0, .ref (b + x0)), (2, .int x2), (3, .int x3), (4, .int x4), (5, .int x5), (6, .int x6), (7, .int x7), (8, .int x8), (9, .int x9)]) (pc := 490) hx hb dL_holds_490 hl (by decide) rfl (fun ls hl => ?_)
                  refine lv_iload (pc := 492) hx hb dL_holds_492 (lv_at hl 8 rfl) ?_
                  refine lv_aload_n (pc := 494) hx hb dL_holds_494 rfl (lv_at hl 2 rfl) ?_
                  refine lv_iload (pc := 495) hx hb dL_holds_495 (lv_at hl 9 rfl) ?_
                  refine lv_bipush (v := 6) (pc := 497) hx hb dL_holds_497 (by decide) ?_
                  refine m_callVI (pc := 499) (y := yX6_jobOf) (κ := 6) (As := [.int x8, .int 6]) (rest := [.int x7]) C hK hP hS hl.1 ⟨Nat.zero_le _, Nat.zero_le _⟩ (c_X6_jobOf h) rfl rfl hk43 (by decide) rfl q_508 q_509 q_510 q_1 q_511 ⟨rfl, rfl⟩ yd_X6_jobOf ⟨Nat.le_of_ble_eq_true rfl, Nat.le_of_ble_eq_true rfl⟩ (Nat.le_of_ble_eq_true rfl) dL_holds_499 (fun r118 M117 H locs h hP hS => ?_)
                  refine lv_iadd (pc := 502) hx hb dL_holds_502 ?_
                  refine lv_topi (fun v119 ev119 => ?_)
                  replace h := h v119 ev119
                  refine lv_istore (lv' := [(7, .int v119), (11, .int (bI (if ¬ r114 = r116 then false else true))), (10, .int 0), (0, .ref (b + x0)), (2, .int x2), (3, .int x3), (4, .int x4), (5, .int x5), (6, .int x6), (8, .int x8), (9, .int x9)]) (pc := 503) hx hb dL_holds_503 hl (by decide) rfl (fun ls hl => ?_)
                  refine lv_iload (pc := 505) hx hb dL_holds_505 (lv_at hl 2 rfl) ?_
                  refine lv_if_eq (tgt := 568) (pc := 507) hx hb dL_holds_507 (by decide) (fun c507 => ?_) (fun c507 => ?_)
                  · replace h := h.1 c507
                    refine lv_iconst (v := 0) (pc := 568) hx hb dL_holds_568 (by decide) ?_
                    exact m_zret (v := false) (pc := 569) C hr hlk hP hS dL_holds_569 h
                  · replace h := h.2 c507
                    refine lv_aload_n (pc := 510) hx hb dL_holds_510 rfl (lv_at hl 3 rfl) ?_
                    refine lv_iload (pc := 511) hx hb dL_holds_511 (lv_at hl 9 rfl) ?_
                    refine lv_iconst (v := 4) (pc := 513) hx hb dL_holds_513 (by decide) ?_
                    refine m_callVI (pc := 514) (y := yX6_jobOf) (κ := 6) (As := [.int x8, .int 4]) (rest := []) C hK hP hS hl.1 ⟨Nat.zero_le _, Nat.zero_le _⟩ (c_X6_jobOf h) rfl rfl hk43 (by decide) rfl q_508 q_509 q_510 q_1 q_511 ⟨rfl, rfl⟩ yd_X6_jobOf ⟨Nat.le_of_ble_eq_true rfl, Nat.le_of_ble_eq_true rfl⟩ (Nat.le_of_ble_eq_true rfl) dL_holds_514 (fun r121 M120 H locs h hP hS => ?_)
                    refine lv_aload_n (pc := 517) hx hb dL_holds_517 rfl (lv_at hl 3 rfl) ?_
                    refine lv_iload (pc := 518) hx hb dL_holds_518 (lv_at hl 9 rfl) ?_
                    refine lv_iconst (v := 3) (pc := 520) hx hb dL_holds_520 (by decide) ?_
                    refine m_callVI (pc := 521) (y := yX6_jobOf) (κ := 6) (As := [.int x8, .int 3]) (rest := [.int r121]) C hK hP hS hl.1 ⟨Nat.zero_le _, Nat.zero_le _⟩ (c_X6_jobOf h) rfl rfl hk43 (by decide) rfl q_508 q_509 q_510 q_1 q_511 ⟨rfl, rfl⟩ yd_X6_jobOf ⟨Nat.le_of_ble_eq_true rfl, Nat.le_of_ble_eq_true rfl⟩ (Nat.le_of_ble_eq_true rfl) dL_holds_521 (fun r123 M122 H locs h hP hS => ?_)
                    refine lv_icmp_ge (tgt := 568) (pc := 524) hx hb dL_holds_524 (by decide) (fun c524 => ?_) (fun c524 => ?_)
                    · replace h := h.1 c524
                      refine lv_iconst (v := 0) (pc := 568) hx hb dL_holds_568 (by decide) ?_
                      exact m_zret (v := false) (pc := 569) C hr hlk hP hS dL_holds_569 h
                    · replace h := h.2 c524
                      refine lv_iload (pc := 527) hx hb dL_holds_527 (lv_at hl 10 rfl) ?_
                      refine lv_aload_n (pc := 529) hx hb dL_holds_529 rfl (lv_at hl 3 rfl) ?_
                      refine lv_iload (pc := 530) hx hb dL_holds_530 (lv_at hl 9 rfl) ?_
                      refine lv_iconst (v := 3) (pc := 532) hx hb dL_holds_532 (by decide) ?_
                      refine m_callVI (pc := 533) (y := yX6_jobOf) (κ := 6) (As := [.int x8, .int 3]) (rest := [.int x9]) C hK hP hS hl.1 ⟨Nat.zero_le _, Nat.zero_le _⟩ (c_X6_jobOf h) rfl rfl hk43 (by decide) rfl q_508 q_509 q_510 q_1 q_511 ⟨rfl, rfl⟩ yd_X6_jobOf ⟨Nat.le_of_ble_eq_true rfl, Nat.le_of_ble_eq_true rfl⟩ (Nat.le_of_ble_eq_true rfl) dL_holds_533 (fun r125 M124 H locs h hP hS => ?_)
                      refine lv_aload_n (pc := 536) hx hb dL_holds_536 rfl (lv_at hl 3 rfl) ?_
                      refine lv_iload (pc := 537) hx hb dL_holds_537 (lv_at hl 9 rfl) ?_
                      refine lv_iconst (v := 4) (pc := 539) hx hb dL_holds_539 (by decide) ?_
                      refine m_callVI (pc := 540) (y := yX6_jobOf) (κ := 6) (As := [.int x8, .int 4]) (rest := [.int r125, .int x9]) C hK hP hS hl.1 ⟨Nat.zero_le _, Nat.zero_le _⟩ (c_X6_jobOf h) rfl rfl hk43 (by decide) rfl q_508 q_509 q_510 q_1 q_511 ⟨rfl, rfl⟩ yd_X6_jobOf ⟨Nat.le_of_ble_eq_true rfl, Nat.le_of_ble_eq_true rfl⟩ (Nat.le_of_ble_eq_true rfl) dL_holds_540 (fun r127 M126 H locs h hP hS => ?_)
                      refine lv_isub (pc := 543) hx hb dL_holds_543 ?_
                      refine lv_icmp_gt (tgt := 568) (pc := 544) hx hb dL_holds_544 (by decide) (fun c544 => ?_) (fun c544 => ?_)
                      · replace h := h.1 c544
                        refine lv_iconst (v := 0) (pc := 568) hx hb dL_holds_568 (by decide) ?_
                        exact m_zret (v := false) (pc := 569) C hr hlk hP hS dL_holds_569 h
                      · replace h := h.2 c544
                        refine lv_aload_n (pc := 547) hx hb dL_holds_547 rfl (lv_at hl 3 rfl) ?_
                        refine lv_iload (pc := 548) hx hb dL_holds_548 (lv_at hl 9 rfl) ?_
                        refine lv_bipush (v := 7) (pc := 550) hx hb dL_holds_550 (by decide) ?_
                        refine m_callVI (pc := 552) (y := yX6_jobOf) (κ := 6) (As := [.int x8, .int 7]) (rest := []) C hK hP hS hl.1 ⟨Nat.zero_le _, Nat.zero_le _⟩ (c_X6_jobOf h) rfl rfl hk43 (by decide) rfl q_508 q_509 q_510 q_1 q_511 ⟨rfl, rfl⟩ yd_X6_jobOf ⟨Nat.le_of_ble_eq_true rfl, Nat.le_of_ble_eq_true rfl⟩ (Nat.le_of_ble_eq_true rfl) dL_holds_552 (fun r129 M128 H locs h hP hS => ?_)
                        refine m_joinZ (z := if ¬ r129 = 0 then false else true) (jp := 563) (rest := []) ?_ (fun hJ => ?_)
                        rotate_left
                        · skip
                          refine lv_if_ne (tgt := 562) (pc := 555) hx hb dL_holds_555 (by decide) (fun c555 => ?_) (fun c555 => ?_)
                          · skip
                            refine lv_iconst (v := 0) (pc := 562) hx hb dL_holds_562 (by decide) ?_
                            exact hJ _ false rfl (by rw [if_pos c555])
                          · skip
                            refine lv_iconst (v := 1) (pc := 558) hx hb dL_holds_558 (by decide) ?_
                            refine lv_goto (tgt := 563) (pc := 559) hx hb dL_holds_559 (by decide) ?_
                            exact hJ _ true rfl (by rw [if_neg (fun hn => hn c555)])
                        refine lv_iload (pc := 563) hx hb dL_holds_563 (lv_at hl 1 rfl) ?_
                        refine lv_icmp_eq (tgt := 570) (pc := 565) hx hb dL_holds_565 (by decide) (fun c565 => ?_) (fun c565 => ?_)
                        · replace h := h.1 c565
                          obtain ⟨v130, ev130⟩ : ∃ y : Int32, y = x8 + 1 := ⟨_, rfl⟩
                          replace h := h v130 ev130
                          refine lv_iinc (v := v130) (lv' := [(8, .int v130), (7, .int v119), (11, .int (bI (if ¬ r114 = r116 then false else true))), (10, .int 0), (0, .ref (b + x0)), (2, .int x2), (3, .int x3), (4, .int x4), (5, .int x5), (6, .int x6), (9, .int x9)]) (pc := 570) hx hb dL_holds_570 hl (k := 9) rfl (by rw [ev130]; rfl) (by decide) rfl (fun ls hl => ?_)
                          refine lv_goto (tgt := 304) (pc := 573) hx hb dL_holds_573 (by decide) ?_
                          exact hKk _ _ _ _ _ _ _ _ _ _ _ _ h hP hS (lv_sub hl [4, 5, 6, 7, 8, 9, 1, 0] rfl)
                        · replace h := h.2 c565
                          refine lv_iconst (v := 0) (pc := 568) hx hb dL_holds_568 (by decide) ?_
                          exact m_zret (v := false) (pc := 569) C hr hlk hP hS dL_holds_569 h
                · replace h := h.2 c439
                  refine lv_aload_n (pc := 442) hx hb dL_holds_442 rfl (lv_at hl 0 rfl) ?_
                  refine lv_iload (pc := 443) hx hb dL_holds_443 (lv_at hl 7 rfl) ?_
                  refine lv_iconst (v := 0) (pc := 445) hx hb dL_holds_445 (by decide) ?_
                  refine m_callVI (pc := 446) (y := yX6_jobOf) (κ := 6) (As := [.int x8, .int 0]) (rest := []) C hK hP hS hl.1 ⟨Nat.zero_le _, Nat.zero_le _⟩ (c_X6_jobOf h) rfl rfl hk43 (by decide) rfl q_508 q_509 q_510 q_1 q_511 ⟨rfl, rfl⟩ yd_X6_jobOf ⟨Nat.le_of_ble_eq_true rfl, Nat.le_of_ble_eq_true rfl⟩ (Nat.le_of_ble_eq_true rfl) dL_holds_446 (fun r132 M131 H locs h hP hS => ?_)
                  refine lv_aload_n (pc := 449) hx hb dL_holds_449 rfl (lv_at hl 0 rfl) ?_
                  refine lv_iload (pc := 450) hx hb dL_holds_450 (lv_at hl 7 rfl) ?_
                  refine lv_iconst (v := 1) (pc := 452) hx hb dL_holds_452 (by decide) ?_
                  refine lv_isub (pc := 453) hx hb dL_holds_453 ?_
                  refine lv_iconst (v := 0) (pc := 454) hx hb dL_holds_454 (by decide) ?_
                  refine m_callVI (pc := 455) (y := yX6_jobOf) (κ := 6) (As := [.int (x8 - 1), .int 0]) (rest := [.int r132]) C hK hP hS hl.1 ⟨Nat.zero_le _, Nat.zero_le _⟩ (c_X6_jobOf h) rfl rfl hk43 (by decide) rfl q_508 q_509 q_510 q_1 q_511 ⟨rfl, rfl⟩ yd_X6_jobOf ⟨Nat.le_of_ble_eq_true rfl, Nat.le_of_ble_eq_true rfl⟩ (Nat.le_of_ble_eq_true rfl) dL_holds_455 (fun r134 M133 H locs h hP hS => ?_)
                  refine m_joinZ (z := if r132 ≤ r134 then false else true) (jp := 466) (rest := []) ?_ (fun hJ => ?_)
                  rotate_left
                  · skip
                    refine lv_icmp_le (tgt := 465) (pc := 458) hx hb dL_holds_458 (by decide) (fun c458 => ?_) (fun c458 => ?_)
                    · skip
                      refine lv_iconst (v := 0) (pc := 465) hx hb dL_holds_465 (by decide) ?_
                      exact hJ _ false rfl (by rw [if_pos c458])
                    · skip
                      refine lv_iconst (v := 1) (pc := 461) hx hb dL_holds_461 (by decide) ?_
                      refine lv_goto (tgt := 466) (pc := 462) hx hb dL_holds_462 (by decide) ?_
                      exact hJ _ true rfl (by rw [if_neg c458])
                  refine lv_istore (lv' := [(10, .int (bI (if r132 ≤ r134 then false else true))), (0, .ref (b + x0)), (2, .int x2), (3, .int x3), (4, .int x4), (5, .int x5), (6, .int x6), (7, .int x7), (8, .int x8), (9, .int x9)]) (pc := 466) hx hb dL_holds_466 hl (by decide) rfl (fun ls hl => ?_)
                  refine lv_aload_n (pc := 468) hx hb dL_holds_468 rfl (lv_at hl 1 rfl) ?_
                  refine lv_bipush (v := 6) (pc := 469) hx hb dL_holds_469 (by decide) ?_
                  refine lv_iconst (v := 0) (pc := 471) hx hb dL_holds_471 (by decide) ?_
                  refine m_callVI (pc := 472) (y := yX6_billet) (κ := 6) (As := [.int 6, .int 0]) (rest := []) C hK hP hS hl.1 ⟨Nat.zero_le _, Nat.zero_le _⟩ (c_X6_billet h) rfl rfl hk43 (by decide) rfl q_498 q_499 q_500 q_1 q_501 ⟨rfl, rfl⟩ yd_X6_billet ⟨Nat.le_of_ble_eq_true rfl, Nat.le_of_ble_eq_true rfl⟩ (Nat.le_of_ble_eq_true rfl) dL_holds_472 (fun r136 M135 H locs h hP hS => ?_)
                  refine lv_aload_n (pc := 475) hx hb dL_holds_475 rfl (lv_at hl 1 rfl) ?_
                  refine lv_iload (pc := 476) hx hb dL_holds_476 (lv_at hl 8 rfl) ?_
                  refine lv_iconst (v := 0) (pc := 478) hx hb dL_holds_478 (by decide) ?_
                  refine m_callVI (pc := 479) (y := yX6_jobOf) (κ := 6) (As := [.int x8, .int 0]) (rest := [.int r136]) C hK hP hS hl.1 ⟨Nat.zero_le _, Nat.zero_le _⟩ (c_X6_jobOf h) rfl rfl hk43 (by decide) rfl q_508 q_509 q_510 q_1 q_511 ⟨rfl, rfl⟩ yd_X6_jobOf ⟨Nat.le_of_ble_eq_true rfl, Nat.le_of_ble_eq_true rfl⟩ (Nat.le_of_ble_eq_true rfl) dL_holds_479 (fun r138 M137 H locs h hP hS => ?_)
                  refine m_joinZ (z := if ¬ r136 = r138 then false else true) (jp := 490) (rest := []) ?_ (fun hJ => ?_)
                  rotate_left
                  · skip
                    refine lv_icmp_ne (tgt := 489) (pc := 482) hx hb dL_holds_482 (by decide) (fun c482 => ?_) (fun c482 => ?_)
                    · skip
                      refine lv_iconst (v := 0) (pc := 489) hx hb dL_holds_489 (by decide) ?_
                      exact hJ _ false rfl (by rw [if_pos c482])
                    · skip
                      refine lv_iconst (v := 1) (pc := 485) hx hb dL_holds_485 (by decide) ?_
                      refine lv_goto (tgt := 490) (pc := 486) hx hb dL_holds_486 (by decide) ?_
                      exact hJ _ true rfl (by rw [if_neg (fun hn => hn c482)])
                  refine lv_istore (lv' := [(11, .int (bI (if ¬ r136 = r138 then false else true))), (10, .int (bI (if r132 ≤ r134 then false else true))), (0, .ref (b + x0)), (2, .int x2), (3, .int x3), (4, .int x4), (5, .int x5), (6, .int x6), (7, .int x7), (8, .int x8), (9, .int x9)]) (pc := 490) hx hb dL_holds_490 hl (by decide) rfl (fun ls hl => ?_)
                  refine lv_iload (pc := 492) hx hb dL_holds_492 (lv_at hl 8 rfl) ?_
                  refine lv_aload_n (pc := 494) hx hb dL_holds_494 rfl (lv_at hl 2 rfl) ?_
                  refine lv_iload (pc := 495) hx hb dL_holds_495 (lv_at hl 9 rfl) ?_
                  refine lv_bipush (v := 6) (pc := 497) hx hb dL_holds_497 (by decide) ?_
                  refine m_callVI (pc := 499) (y := yX6_jobOf) (κ := 6) (As := [.int x8, .int 6]) (rest := [.int x7]) C hK hP hS hl.1 ⟨Nat.zero_le _, Nat.zero_le _⟩ (c_X6_jobOf h) rfl rfl hk43 (by decide) rfl q_508 q_509 q_510 q_1 q_511 ⟨rfl, rfl⟩ yd_X6_jobOf ⟨Nat.le_of_ble_eq_true rfl, Nat.le_of_ble_eq_true rfl⟩ (Nat.le_of_ble_eq_true rfl) dL_holds_499 (fun r140 M139 H locs h hP hS => ?_)
                  refine lv_iadd (pc := 502) hx hb dL_holds_502 ?_
                  refine lv_topi (fun v141 ev141 => ?_)
                  replace h := h v141 ev141
                  refine lv_istore (lv' := [(7, .int v141), (11, .int (bI (if ¬ r136 = r138 then false else true))), (10, .int (bI (if r132 ≤ r134 then false else true))), (0, .ref (b + x0)), (2, .int x2), (3, .int x3), (4, .int x4), (5, .int x5), (6, .int x6), (8, .int x8), (9, .int x9)]) (pc := 503) hx hb dL_holds_503 hl (by decide) rfl (fun ls hl => ?_)
                  refine lv_iload (pc := 505) hx hb dL_holds_505 (lv_at hl 2 rfl) ?_
                  refine lv_if_eq (tgt := 568) (pc := 507) hx hb dL_holds_507 (by decide) (fun c507 => ?_) (fun c507 => ?_)
                  · replace h := h.1 (bZ0 c507)
                    refine lv_iconst (v := 0) (pc := 568) hx hb dL_holds_568 (by decide) ?_
                    exact m_zret (v := false) (pc := 569) C hr hlk hP hS dL_holds_569 h
                  · replace h := h.2 (bZ1 c507)
                    refine lv_aload_n (pc := 510) hx hb dL_holds_510 rfl (lv_at hl 3 rfl) ?_
                    refine lv_iload (pc := 511) hx hb dL_holds_511 (lv_at hl 9 rfl) ?_
                    refine lv_iconst (v := 4) (pc := 513) hx hb dL_holds_513 (by decide) ?_
                    refine m_callVI (pc := 514) (y := yX6_jobOf) (κ := 6) (As := [.int x8, .int 4]) (rest := []) C hK hP hS hl.1 ⟨Nat.zero_le _, Nat.zero_le _⟩ (c_X6_jobOf h) rfl rfl hk43 (by decide) rfl q_508 q_509 q_510 q_1 q_511 ⟨rfl, rfl⟩ yd_X6_jobOf ⟨Nat.le_of_ble_eq_true rfl, Nat.le_of_ble_eq_true rfl⟩ (Nat.le_of_ble_eq_true rfl) dL_holds_514 (fun r143 M142 H locs h hP hS => ?_)
                    refine lv_aload_n (pc := 517) hx hb dL_holds_517 rfl (lv_at hl 3 rfl) ?_
                    refine lv_iload (pc := 518) hx hb dL_holds_518 (lv_at hl 9 rfl) ?_
                    refine lv_iconst (v := 3) (pc := 520) hx hb dL_holds_520 (by decide) ?_
                    refine m_callVI (pc := 521) (y := yX6_jobOf) (κ := 6) (As := [.int x8, .int 3]) (rest := [.int r143]) C hK hP hS hl.1 ⟨Nat.zero_le _, Nat.zero_le _⟩ (c_X6_jobOf h) rfl rfl hk43 (by decide) rfl q_508 q_509 q_510 q_1 q_511 ⟨rfl, rfl⟩ yd_X6_jobOf ⟨Nat.le_of_ble_eq_true rfl, Nat.le_of_ble_eq_true rfl⟩ (Nat.le_of_ble_eq_true rfl) dL_holds_521 (fun r145 M144 H locs h hP hS => ?_)
                    refine lv_icmp_ge (tgt := 568) (pc := 524) hx hb dL_holds_524 (by decide) (fun c524 => ?_) (fun c524 => ?_)
                    · replace h := h.1 c524
                      refine lv_iconst (v := 0) (pc := 568) hx hb dL_holds_568 (by decide) ?_
                      exact m_zret (v := false) (pc := 569) C hr hlk hP hS dL_holds_569 h
                    · replace h := h.2 c524
                      refine lv_iload (pc := 527) hx hb dL_holds_527 (lv_at hl 10 rfl) ?_
                      refine lv_aload_n (pc := 529) hx hb dL_holds_529 rfl (lv_at hl 3 rfl) ?_
                      refine lv_iload (pc := 530) hx hb dL_holds_530 (lv_at hl 9 rfl) ?_
                      refine lv_iconst (v := 3) (pc := 532) hx hb dL_holds_532 (by decide) ?_
                      refine m_callVI (pc := 533) (y := yX6_jobOf) (κ := 6) (As := [.int x8, .int 3]) (rest := [.int x9]) C hK hP hS hl.1 ⟨Nat.zero_le _, Nat.zero_le _⟩ (c_X6_jobOf h) rfl rfl hk43 (by decide) rfl q_508 q_509 q_510 q_1 q_511 ⟨rfl, rfl⟩ yd_X6_jobOf ⟨Nat.le_of_ble_eq_true rfl, Nat.le_of_ble_eq_true rfl⟩ (Nat.le_of_ble_eq_true rfl) dL_holds_533 (fun r147 M146 H locs h hP hS => ?_)
                      refine lv_aload_n (pc := 536) hx hb dL_holds_536 rfl (lv_at hl 3 rfl) ?_
                      refine lv_iload (pc := 537) hx hb dL_holds_537 (lv_at hl 9 rfl) ?_
                      refine lv_iconst (v := 4) (pc := 539) hx hb dL_holds_539 (by decide) ?_
                      refine m_callVI (pc := 540) (y := yX6_jobOf) (κ := 6) (As := [.int x8, .int 4]) (rest := [.int r147, .int x9]) C hK hP hS hl.1 ⟨Nat.zero_le _, Nat.zero_le _⟩ (c_X6_jobOf h) rfl rfl hk43 (by decide) rfl q_508 q_509 q_510 q_1 q_511 ⟨rfl, rfl⟩ yd_X6_jobOf ⟨Nat.le_of_ble_eq_true rfl, Nat.le_of_ble_eq_true rfl⟩ (Nat.le_of_ble_eq_true rfl) dL_holds_540 (fun r149 M148 H locs h hP hS => ?_)
                      refine lv_isub (pc := 543) hx hb dL_holds_543 ?_
                      refine lv_icmp_gt (tgt := 568) (pc := 544) hx hb dL_holds_544 (by decide) (fun c544 => ?_) (fun c544 => ?_)
                      · replace h := h.1 c544
                        refine lv_iconst (v := 0) (pc := 568) hx hb dL_holds_568 (by decide) ?_
                        exact m_zret (v := false) (pc := 569) C hr hlk hP hS dL_holds_569 h
                      · replace h := h.2 c544
                        refine lv_aload_n (pc := 547) hx hb dL_holds_547 rfl (lv_at hl 3 rfl) ?_
                        refine lv_iload (pc := 548) hx hb dL_holds_548 (lv_at hl 9 rfl) ?_
                        refine lv_bipush (v := 7) (pc := 550) hx hb dL_holds_550 (by decide) ?_
                        refine m_callVI (pc := 552) (y := yX6_jobOf) (κ := 6) (As := [.int x8, .int 7]) (rest := []) C hK hP hS hl.1 ⟨Nat.zero_le _, Nat.zero_le _⟩ (c_X6_jobOf h) rfl rfl hk43 (by decide) rfl q_508 q_509 q_510 q_1 q_511 ⟨rfl, rfl⟩ yd_X6_jobOf ⟨Nat.le_of_ble_eq_true rfl, Nat.le_of_ble_eq_true rfl⟩ (Nat.le_of_ble_eq_true rfl) dL_holds_552 (fun r151 M150 H locs h hP hS => ?_)
                        refine m_joinZ (z := if ¬ r151 = 0 then false else true) (jp := 563) (rest := []) ?_ (fun hJ => ?_)
                        rotate_left
                        · skip
                          refine lv_if_ne (tgt := 562) (pc := 555) hx hb dL_holds_555 (by decide) (fun c555 => ?_) (fun c555 => ?_)
                          · skip
                            refine lv_iconst (v := 0) (pc := 562) hx hb dL_holds_562 (by decide) ?_
                            exact hJ _ false rfl (by rw [if_pos c555])
                          · skip
                            refine lv_iconst (v := 1) (pc := 558) hx hb dL_holds_558 (by decide) ?_
                            refine lv_goto (tgt := 563) (pc := 559) hx hb dL_holds_559 (by decide) ?_
                            exact hJ _ true rfl (by rw [if_neg (fun hn => hn c555)])
                        refine lv_iload (pc := 563) hx hb dL_holds_563 (lv_at hl 1 rfl) ?_
                        refine lv_icmp_eq (tgt := 570) (pc := 565) hx hb dL_holds_565 (by decide) (fun c565 => ?_) (fun c565 => ?_)
                        · replace h := h.1 c565
                          obtain ⟨v152, ev152⟩ : ∃ y : Int32, y = x8 + 1 := ⟨_, rfl⟩
                          replace h := h v152 ev152
                          refine lv_iinc (v := v152) (lv' := [(8, .int v152), (7, .int v141), (11, .int (bI (if ¬ r136 = r138 then false else true))), (10, .int (bI (if r132 ≤ r134 then false else true))), (0, .ref (b + x0)), (2, .int x2), (3, .int x3), (4, .int x4), (5, .int x5), (6, .int x6), (9, .int x9)]) (pc := 570) hx hb dL_holds_570 hl (k := 9) rfl (by rw [ev152]; rfl) (by decide) rfl (fun ls hl => ?_)
                          refine lv_goto (tgt := 304) (pc := 573) hx hb dL_holds_573 (by decide) ?_
                          exact hKk _ _ _ _ _ _ _ _ _ _ _ _ h hP hS (lv_sub hl [4, 5, 6, 7, 8, 9, 1, 0] rfl)
                        · replace h := h.2 c565
                          refine lv_iconst (v := 0) (pc := 568) hx hb dL_holds_568 (by decide) ?_
                          exact m_zret (v := false) (pc := 569) C hr hlk hP hS dL_holds_569 h
      · replace h := h.2 c321
        refine lv_iload (pc := 324) hx hb dL_holds_324 (lv_at hl 8 rfl) ?_
        refine lv_aload_n (pc := 326) hx hb dL_holds_326 rfl (lv_at hl 0 rfl) ?_
        refine lv_iload (pc := 327) hx hb dL_holds_327 (lv_at hl 9 rfl) ?_
        refine lv_iconst (v := 0) (pc := 329) hx hb dL_holds_329 (by decide) ?_
        obtain ⟨hk154, h⟩ := h
        refine m_callVI (pc := 330) (y := yX6_billet) (κ := 6) (As := [.int x10, .int 0]) (rest := [.int x9]) C hK hP hS hl.1 ⟨Nat.zero_le _, Nat.zero_le _⟩ (c_X6_billet h) rfl rfl hk154 (by decide) rfl q_498 q_499 q_500 q_1 q_501 ⟨rfl, rfl⟩ yd_X6_billet ⟨Nat.le_of_ble_eq_true rfl, Nat.le_of_ble_eq_true rfl⟩ (Nat.le_of_ble_eq_true rfl) dL_holds_330 (fun r155 M153 H locs h hP hS => ?_)
        refine lv_aload_n (pc := 333) hx hb dL_holds_333 rfl (lv_at hl 0 rfl) ?_
        refine lv_iload (pc := 334) hx hb dL_holds_334 (lv_at hl 7 rfl) ?_
        refine lv_iconst (v := 0) (pc := 336) hx hb dL_holds_336 (by decide) ?_
        refine m_callVI (pc := 337) (y := yX6_jobOf) (κ := 6) (As := [.int x8, .int 0]) (rest := [.int r155, .int x9]) C hK hP hS hl.1 ⟨Nat.zero_le _, Nat.zero_le _⟩ (c_X6_jobOf h) rfl rfl hk154 (by decide) rfl q_508 q_509 q_510 q_1 q_511 ⟨rfl, rfl⟩ yd_X6_jobOf ⟨Nat.le_of_ble_eq_true rfl, Nat.le_of_ble_eq_true rfl⟩ (Nat.le_of_ble_eq_true rfl) dL_holds_337 (fun r157 M156 H locs h hP hS => ?_)
        refine m_joinZ (z := if ¬ r155 = r157 then false else true) (jp := 348) (rest := [.int x9]) ?_ (fun hJ => ?_)
        rotate_left
        · skip
          refine lv_icmp_ne (tgt := 347) (pc := 340) hx hb dL_holds_340 (by decide) (fun c340 => ?_) (fun c340 => ?_)
          · skip
            refine lv_iconst (v := 0) (pc := 347) hx hb dL_holds_347 (by decide) ?_
            exact hJ _ false rfl (by rw [if_pos c340])
          · skip
            refine lv_iconst (v := 1) (pc := 343) hx hb dL_holds_343 (by decide) ?_
            refine lv_goto (tgt := 348) (pc := 344) hx hb dL_holds_344 (by decide) ?_
            exact hJ _ true rfl (by rw [if_neg (fun hn => hn c340)])
        refine lv_iadd (pc := 348) hx hb dL_holds_348 ?_
        refine lv_topi (fun v158 ev158 => ?_)
        replace h := h v158 ev158
        refine lv_istore (lv' := [(9, .int v158), (0, .ref (b + x0)), (2, .int x2), (3, .int x3), (4, .int x4), (5, .int x5), (6, .int x6), (7, .int x7), (8, .int x8), (10, .int x10)]) (pc := 349) hx hb dL_holds_349 hl (by decide) rfl (fun ls hl => ?_)
        obtain ⟨v159, ev159⟩ : ∃ y : Int32, y = x10 + 1 := ⟨_, rfl⟩
        replace h := h v159 ev159
        refine lv_iinc (v := v159) (lv' := [(10, .int v159), (9, .int v158), (0, .ref (b + x0)), (2, .int x2), (3, .int x3), (4, .int x4), (5, .int x5), (6, .int x6), (7, .int x7), (8, .int x8)]) (pc := 351) hx hb dL_holds_351 hl (k := 9) rfl (by rw [ev159]; rfl) (by decide) rfl (fun ls hl => ?_)
        refine lv_goto (tgt := 317) (pc := 354) hx hb dL_holds_354 (by decide) ?_
        exact ih _ _ _ _ _ _ _ _ _ _ _ _ _ _ h hP hS (lv_sub hl [2, 3, 4, 5, 6, 7, 8, 9, 1, 0] rfl)
  have L304 : ∀ f : Nat, ∀ (M : Mem) (H : Heap) (locs : List Loc) (ls : Array Slot) (x0 : Nat) (x2 : Int32) (x3 : Int32) (x4 : Int32) (x5 : Int32) (x6 : Int32) (x7 : Int32) (x8 : Int32), wpL_L_holds_304 n P f M x0 x2 x3 x4 x5 x6 x7 x8 → m_H D cA b n M H → va_S (m_A b) s.heap H locs → lv_has ls 12 [(0, .ref (b + x0)), (2, .int x2), (3, .int x3), (4, .int x4), (5, .int x5), (6, .int x6), (7, .int x7), (8, .int x8)] → W p l e rm_L_holds s m ([.ref (b + p1), .ref (b + p2)] : List Value).toArray below meth c H locs 0 0 (MQ below (m_Q D cA b n (rZ P)) ([.ref (b + p1), .ref (b + p2)] : List Value).toArray s 0 0 (m_A b)) (F0 m 304 ls []) := by
    clear h
    intro f
    induction f with
    | zero => intro M H locs ls x0 x2 x3 x4 x5 x6 x7 x8 h; exact h.elim
    | succ f ih =>
      intro M H locs ls x0 x2 x3 x4 x5 x6 x7 x8 h hP hS hl
      have h : wpB_L_holds_304 n P (wpL_L_holds_304 n P f) M x0 x2 x3 x4 x5 x6 x7 x8 := h
      unfold wpB_L_holds_304 at h
      refine lv_iload (pc := 304) hx hb dL_holds_304 (lv_at hl 7 rfl) ?_
      refine lv_iload (pc := 306) hx hb dL_holds_306 (lv_at hl 5 rfl) ?_
      refine lv_icmp_ge (tgt := 576) (pc := 308) hx hb dL_holds_308 (by decide) (fun c308 => ?_) (fun c308 => ?_)
      · replace h := h.1 c308
        refine lv_aload_n (pc := 576) hx hb dL_holds_576 rfl (lv_at hl 0 rfl) ?_
        obtain ⟨hk5, h⟩ := h
        refine m_callVD (pc := 577) (y := yX6_saved) (κ := 6) (As := []) (rest := []) C hK hP hS hl.1 ⟨Nat.zero_le _, Nat.zero_le _⟩ (c_X6_saved h) rfl rfl hk5 (by decide) rfl q_697 q_698 q_699 q_1 q_700 ⟨rfl, rfl⟩ yd_X6_saved ⟨Nat.le_of_ble_eq_true rfl, Nat.le_of_ble_eq_true rfl⟩ (Nat.le_of_ble_eq_true rfl) dL_holds_577 (fun r6 M4 H locs h hP hS => ?_)
        refine lv_dstore (lv' := [(8, .double r6), (0, .ref (b + x0)), (2, .int x2), (3, .int x3), (4, .int x4), (5, .int x5), (6, .int x6), (7, .int x7)]) (pc := 580) hx hb dL_holds_580 hl (by decide) rfl (fun ls hl => ?_)
        refine lv_iload_n (pc := 582) hx hb dL_holds_582 rfl (lv_at hl 2 rfl) ?_
        refine lv_aload_n (pc := 583) hx hb dL_holds_583 rfl (lv_at hl 1 rfl) ?_
        refine lv_iconst (v := 4) (pc := 584) hx hb dL_holds_584 (by decide) ?_
        refine m_callVI (pc := 585) (y := yX6_count) (κ := 6) (As := [.int 4]) (rest := [.int x2]) C hK hP hS hl.1 ⟨Nat.zero_le _, Nat.zero_le _⟩ (c_X6_count h) rfl rfl hk5 (by decide) rfl q_383 q_384 q_385 q_1 q_386 ⟨rfl, rfl⟩ yd_X6_count ⟨Nat.le_of_ble_eq_true rfl, Nat.le_of_ble_eq_true rfl⟩ (Nat.le_of_ble_eq_true rfl) dL_holds_585 (fun r8 M7 H locs h hP hS => ?_)
        refine lv_icmp_ne (tgt := 674) (pc := 588) hx hb dL_holds_588 (by decide) (fun c588 => ?_) (fun c588 => ?_)
        · replace h := h.1 c588
          refine lv_iconst (v := 0) (pc := 674) hx hb dL_holds_674 (by decide) ?_
          exact m_zret (v := false) (pc := 675) C hr hlk hP hS dL_holds_675 h
        · replace h := h.2 c588
          refine lv_iload (pc := 591) hx hb dL_holds_591 (lv_at hl 4 rfl) ?_
          refine lv_iload_n (pc := 593) hx hb dL_holds_593 rfl (lv_at hl 2 rfl) ?_
          refine lv_icmp_ne (tgt := 674) (pc := 594) hx hb dL_holds_594 (by decide) (fun c594 => ?_) (fun c594 => ?_)
          · replace h := h.1 c594
            refine lv_iconst (v := 0) (pc := 674) hx hb dL_holds_674 (by decide) ?_
            exact m_zret (v := false) (pc := 675) C hr hlk hP hS dL_holds_675 h
          · replace h := h.2 c594
            refine lv_iload_n (pc := 597) hx hb dL_holds_597 rfl (lv_at hl 3 rfl) ?_
            refine lv_aload_n (pc := 598) hx hb dL_holds_598 rfl (lv_at hl 1 rfl) ?_
            refine lv_iconst (v := 5) (pc := 599) hx hb dL_holds_599 (by decide) ?_
            refine m_callVI (pc := 600) (y := yX6_count) (κ := 6) (As := [.int 5]) (rest := [.int x3]) C hK hP hS hl.1 ⟨Nat.zero_le _, Nat.zero_le _⟩ (c_X6_count h) rfl rfl hk5 (by decide) rfl q_383 q_384 q_385 q_1 q_386 ⟨rfl, rfl⟩ yd_X6_count ⟨Nat.le_of_ble_eq_true rfl, Nat.le_of_ble_eq_true rfl⟩ (Nat.le_of_ble_eq_true rfl) dL_holds_600 (fun r10 M9 H locs h hP hS => ?_)
            refine lv_icmp_ne (tgt := 674) (pc := 603) hx hb dL_holds_603 (by decide) (fun c603 => ?_) (fun c603 => ?_)
            · replace h := h.1 c603
              refine lv_iconst (v := 0) (pc := 674) hx hb dL_holds_674 (by decide) ?_
              exact m_zret (v := false) (pc := 675) C hr hlk hP hS dL_holds_675 h
            · replace h := h.2 c603
              refine lv_iload (pc := 606) hx hb dL_holds_606 (lv_at hl 5 rfl) ?_
              refine lv_aload_n (pc := 608) hx hb dL_holds_608 rfl (lv_at hl 1 rfl) ?_
              refine lv_iconst (v := 3) (pc := 609) hx hb dL_holds_609 (by decide) ?_
              refine m_callVI (pc := 610) (y := yX6_count) (κ := 6) (As := [.int 3]) (rest := [.int x5]) C hK hP hS hl.1 ⟨Nat.zero_le _, Nat.zero_le _⟩ (c_X6_count h) rfl rfl hk5 (by decide) rfl q_383 q_384 q_385 q_1 q_386 ⟨rfl, rfl⟩ yd_X6_count ⟨Nat.le_of_ble_eq_true rfl, Nat.le_of_ble_eq_true rfl⟩ (Nat.le_of_ble_eq_true rfl) dL_holds_610 (fun r12 M11 H locs h hP hS => ?_)
              refine lv_icmp_ne (tgt := 674) (pc := 613) hx hb dL_holds_613 (by decide) (fun c613 => ?_) (fun c613 => ?_)
              · replace h := h.1 c613
                refine lv_iconst (v := 0) (pc := 674) hx hb dL_holds_674 (by decide) ?_
                exact m_zret (v := false) (pc := 675) C hr hlk hP hS dL_holds_675 h
              · replace h := h.2 c613
                refine lv_iload (pc := 616) hx hb dL_holds_616 (lv_at hl 7 rfl) ?_
                refine lv_aload_n (pc := 618) hx hb dL_holds_618 rfl (lv_at hl 1 rfl) ?_
                refine lv_iconst (v := 2) (pc := 619) hx hb dL_holds_619 (by decide) ?_
                refine m_callVI (pc := 620) (y := yX6_count) (κ := 6) (As := [.int 2]) (rest := [.int x7]) C hK hP hS hl.1 ⟨Nat.zero_le _, Nat.zero_le _⟩ (c_X6_count h) rfl rfl hk5 (by decide) rfl q_383 q_384 q_385 q_1 q_386 ⟨rfl, rfl⟩ yd_X6_count ⟨Nat.le_of_ble_eq_true rfl, Nat.le_of_ble_eq_true rfl⟩ (Nat.le_of_ble_eq_true rfl) dL_holds_620 (fun r14 M13 H locs h hP hS => ?_)
                refine lv_icmp_ne (tgt := 674) (pc := 623) hx hb dL_holds_623 (by decide) (fun c623 => ?_) (fun c623 => ?_)
                · replace h := h.1 c623
                  refine lv_iconst (v := 0) (pc := 674) hx hb dL_holds_674 (by decide) ?_
                  exact m_zret (v := false) (pc := 675) C hr hlk hP hS dL_holds_675 h
                · replace h := h.2 c623
                  refine lv_aload_n (pc := 626) hx hb dL_holds_626 rfl (lv_at hl 1 rfl) ?_
                  refine lv_bipush (v := 9) (pc := 627) hx hb dL_holds_627 (by decide) ?_
                  refine m_callVI (pc := 629) (y := yX6_count) (κ := 6) (As := [.int 9]) (rest := []) C hK hP hS hl.1 ⟨Nat.zero_le _, Nat.zero_le _⟩ (c_X6_count h) rfl rfl hk5 (by decide) rfl q_383 q_384 q_385 q_1 q_386 ⟨rfl, rfl⟩ yd_X6_count ⟨Nat.le_of_ble_eq_true rfl, Nat.le_of_ble_eq_true rfl⟩ (Nat.le_of_ble_eq_true rfl) dL_holds_629 (fun r16 M15 H locs h hP hS => ?_)
                  refine lv_aload_n (pc := 632) hx hb dL_holds_632 rfl (lv_at hl 1 rfl) ?_
                  refine lv_bipush (v := 8) (pc := 633) hx hb dL_holds_633 (by decide) ?_
                  refine m_callVI (pc := 635) (y := yX6_count) (κ := 6) (As := [.int 8]) (rest := [.int r16]) C hK hP hS hl.1 ⟨Nat.zero_le _, Nat.zero_le _⟩ (c_X6_count h) rfl rfl hk5 (by decide) rfl q_383 q_384 q_385 q_1 q_386 ⟨rfl, rfl⟩ yd_X6_count ⟨Nat.le_of_ble_eq_true rfl, Nat.le_of_ble_eq_true rfl⟩ (Nat.le_of_ble_eq_true rfl) dL_holds_635 (fun r18 M17 H locs h hP hS => ?_)
                  refine lv_icmp_lt (tgt := 674) (pc := 638) hx hb dL_holds_638 (by decide) (fun c638 => ?_) (fun c638 => ?_)
                  · replace h := h.1 c638
                    refine lv_iconst (v := 0) (pc := 674) hx hb dL_holds_674 (by decide) ?_
                    exact m_zret (v := false) (pc := 675) C hr hlk hP hS dL_holds_675 h
                  · replace h := h.2 c638
                    refine lv_aload_n (pc := 641) hx hb dL_holds_641 rfl (lv_at hl 1 rfl) ?_
                    refine lv_bipush (v := 8) (pc := 642) hx hb dL_holds_642 (by decide) ?_
                    refine m_callVI (pc := 644) (y := yX6_count) (κ := 6) (As := [.int 8]) (rest := []) C hK hP hS hl.1 ⟨Nat.zero_le _, Nat.zero_le _⟩ (c_X6_count h) rfl rfl hk5 (by decide) rfl q_383 q_384 q_385 q_1 q_386 ⟨rfl, rfl⟩ yd_X6_count ⟨Nat.le_of_ble_eq_true rfl, Nat.le_of_ble_eq_true rfl⟩ (Nat.le_of_ble_eq_true rfl) dL_holds_644 (fun r20 M19 H locs h hP hS => ?_)
                    refine lv_aload_n (pc := 647) hx hb dL_holds_647 rfl (lv_at hl 1 rfl) ?_
                    refine lv_bipush (v := 7) (pc := 648) hx hb dL_holds_648 (by decide) ?_
                    refine m_callVI (pc := 650) (y := yX6_count) (κ := 6) (As := [.int 7]) (rest := [.int r20]) C hK hP hS hl.1 ⟨Nat.zero_le _, Nat.zero_le _⟩ (c_X6_count h) rfl rfl hk5 (by decide) rfl q_383 q_384 q_385 q_1 q_386 ⟨rfl, rfl⟩ yd_X6_count ⟨Nat.le_of_ble_eq_true rfl, Nat.le_of_ble_eq_true rfl⟩ (Nat.le_of_ble_eq_true rfl) dL_holds_650 (fun r22 M21 H locs h hP hS => ?_)
                    refine lv_icmp_gt (tgt := 674) (pc := 653) hx hb dL_holds_653 (by decide) (fun c653 => ?_) (fun c653 => ?_)
                    · replace h := h.1 c653
                      refine lv_iconst (v := 0) (pc := 674) hx hb dL_holds_674 (by decide) ?_
                      exact m_zret (v := false) (pc := 675) C hr hlk hP hS dL_holds_675 h
                    · replace h := h.2 c653
                      refine lv_dload (pc := 656) hx hb dL_holds_656 (lv_at hl 0 rfl) ?_
                      refine lv_dconst0 (pc := 658) hx hb dL_holds_658 ?_
                      refine lv_dcmp (pc := 659) hx hb dL_holds_659 ?_
                      refine lv_if_lt (tgt := 674) (pc := 660) hx hb dL_holds_660 (by decide) (fun c660 => ?_) (fun c660 => ?_)
                      · replace h := h.1 c660
                        refine lv_iconst (v := 0) (pc := 674) hx hb dL_holds_674 (by decide) ?_
                        exact m_zret (v := false) (pc := 675) C hr hlk hP hS dL_holds_675 h
                      · replace h := h.2 c660
                        refine lv_dload (pc := 663) hx hb dL_holds_663 (lv_at hl 0 rfl) ?_
                        refine lv_dconst1 (pc := 665) hx hb dL_holds_665 ?_
                        refine lv_dcmp (pc := 666) hx hb dL_holds_666 ?_
                        refine m_joinZ (z := if 0 < (Op.cmpValue (FP.dcmp r6 (FP.dconst1)) .g) then false else true) (jp := 675) (rest := []) ?_ (fun hJ => ?_)
                        rotate_left
                        · skip
                          refine lv_if_gt (tgt := 674) (pc := 667) hx hb dL_holds_667 (by decide) (fun c667 => ?_) (fun c667 => ?_)
                          · skip
                            refine lv_iconst (v := 0) (pc := 674) hx hb dL_holds_674 (by decide) ?_
                            exact hJ _ false rfl (by rw [if_pos c667])
                          · skip
                            refine lv_iconst (v := 1) (pc := 670) hx hb dL_holds_670 (by decide) ?_
                            refine lv_goto (tgt := 675) (pc := 671) hx hb dL_holds_671 (by decide) ?_
                            exact hJ _ true rfl (by rw [if_neg c667])
                        exact m_zret (v := if 0 < (Op.cmpValue (FP.dcmp r6 (FP.dconst1)) .g) then false else true) (pc := 675) C hr hlk hP hS dL_holds_675 h
      · replace h := h.2 c308
        refine lv_iconst (v := 0) (pc := 311) hx hb dL_holds_311 (by decide) ?_
        refine lv_istore (lv' := [(9, .int 0), (0, .ref (b + x0)), (2, .int x2), (3, .int x3), (4, .int x4), (5, .int x5), (6, .int x6), (7, .int x7), (8, .int x8)]) (pc := 312) hx hb dL_holds_312 hl (by decide) rfl (fun ls hl => ?_)
        refine lv_iconst (v := 0) (pc := 314) hx hb dL_holds_314 (by decide) ?_
        refine lv_istore (lv' := [(10, .int 0), (9, .int 0), (0, .ref (b + x0)), (2, .int x2), (3, .int x3), (4, .int x4), (5, .int x5), (6, .int x6), (7, .int x7), (8, .int x8)]) (pc := 315) hx hb dL_holds_315 hl (by decide) rfl (fun ls hl => ?_)
        obtain ⟨f, h⟩ := h
        exact L317 _ ih f _ _ _ _ _ _ _ _ _ _ _ _ _ _ h hP hS (lv_sub hl [2, 3, 4, 5, 6, 7, 8, 9, 1, 0] rfl)
  have L174 : ∀ f : Nat, ∀ (M : Mem) (H : Heap) (locs : List Loc) (ls : Array Slot) (x0 : Nat) (x2 : Int32) (x3 : Int32) (x4 : Int32) (x5 : Int32) (x6 : Int32), wpL_L_holds_174 n P f M x0 x2 x3 x4 x5 x6 → m_H D cA b n M H → va_S (m_A b) s.heap H locs → lv_has ls 12 [(0, .ref (b + x0)), (2, .int x2), (3, .int x3), (4, .int x4), (5, .int x5), (6, .int x6)] → W p l e rm_L_holds s m ([.ref (b + p1), .ref (b + p2)] : List Value).toArray below meth c H locs 0 0 (MQ below (m_Q D cA b n (rZ P)) ([.ref (b + p1), .ref (b + p2)] : List Value).toArray s 0 0 (m_A b)) (F0 m 174 ls []) := by
    clear h
    intro f
    induction f with
    | zero => intro M H locs ls x0 x2 x3 x4 x5 x6 h; exact h.elim
    | succ f ih =>
      intro M H locs ls x0 x2 x3 x4 x5 x6 h hP hS hl
      have h : wpB_L_holds_174 n P (wpL_L_holds_174 n P f) M x0 x2 x3 x4 x5 x6 := h
      unfold wpB_L_holds_174 at h
      refine lv_iload (pc := 174) hx hb dL_holds_174 (lv_at hl 5 rfl) ?_
      refine lv_bipush (v := 7) (pc := 176) hx hb dL_holds_176 (by decide) ?_
      refine lv_icmp_ge (tgt := 291) (pc := 178) hx hb dL_holds_178 (by decide) (fun c178 => ?_) (fun c178 => ?_)
      · replace h := h.1 c178
        refine lv_aload_n (pc := 291) hx hb dL_holds_291 rfl (lv_at hl 0 rfl) ?_
        refine lv_iconst (v := 1) (pc := 292) hx hb dL_holds_292 (by decide) ?_
        obtain ⟨hk2, h⟩ := h
        refine m_callVI (pc := 293) (y := yX6_count) (κ := 6) (As := [.int 1]) (rest := []) C hK hP hS hl.1 ⟨Nat.zero_le _, Nat.zero_le _⟩ (c_X6_count h) rfl rfl hk2 (by decide) rfl q_383 q_384 q_385 q_1 q_386 ⟨rfl, rfl⟩ yd_X6_count ⟨Nat.le_of_ble_eq_true rfl, Nat.le_of_ble_eq_true rfl⟩ (Nat.le_of_ble_eq_true rfl) dL_holds_293 (fun r3 M1 H locs h hP hS => ?_)
        refine lv_istore (lv' := [(6, .int r3), (0, .ref (b + x0)), (2, .int x2), (3, .int x3), (4, .int x4), (5, .int x5)]) (pc := 296) hx hb dL_holds_296 hl (by decide) rfl (fun ls hl => ?_)
        refine lv_iconst (v := 0) (pc := 298) hx hb dL_holds_298 (by decide) ?_
        refine lv_istore (lv' := [(7, .int 0), (6, .int r3), (0, .ref (b + x0)), (2, .int x2), (3, .int x3), (4, .int x4), (5, .int x5)]) (pc := 299) hx hb dL_holds_299 hl (by decide) rfl (fun ls hl => ?_)
        refine lv_iconst (v := 0) (pc := 301) hx hb dL_holds_301 (by decide) ?_
        refine lv_istore (lv' := [(8, .int 0), (7, .int 0), (6, .int r3), (0, .ref (b + x0)), (2, .int x2), (3, .int x3), (4, .int x4), (5, .int x5)]) (pc := 302) hx hb dL_holds_302 hl (by decide) rfl (fun ls hl => ?_)
        obtain ⟨f, h⟩ := h
        exact L304 f _ _ _ _ _ _ _ _ _ _ _ _ h hP hS (lv_sub hl [3, 4, 5, 6, 7, 2, 1, 0] rfl)
      · replace h := h.2 c178
        refine lv_aload_n (pc := 181) hx hb dL_holds_181 rfl (lv_at hl 0 rfl) ?_
        refine lv_iload (pc := 182) hx hb dL_holds_182 (lv_at hl 5 rfl) ?_
        refine lv_iconst (v := 1) (pc := 184) hx hb dL_holds_184 (by decide) ?_
        obtain ⟨hk161, h⟩ := h
        refine m_callVI (pc := 185) (y := yX6_billet) (κ := 6) (As := [.int x6, .int 1]) (rest := []) C hK hP hS hl.1 ⟨Nat.zero_le _, Nat.zero_le _⟩ (c_X6_billet h) rfl rfl hk161 (by decide) rfl q_498 q_499 q_500 q_1 q_501 ⟨rfl, rfl⟩ yd_X6_billet ⟨Nat.le_of_ble_eq_true rfl, Nat.le_of_ble_eq_true rfl⟩ (Nat.le_of_ble_eq_true rfl) dL_holds_185 (fun r162 M160 H locs h hP hS => ?_)
        refine lv_istore (lv' := [(7, .int r162), (0, .ref (b + x0)), (2, .int x2), (3, .int x3), (4, .int x4), (5, .int x5), (6, .int x6)]) (pc := 188) hx hb dL_holds_188 hl (by decide) rfl (fun ls hl => ?_)
        refine lv_aload_n (pc := 190) hx hb dL_holds_190 rfl (lv_at hl 1 rfl) ?_
        refine lv_iload (pc := 191) hx hb dL_holds_191 (lv_at hl 6 rfl) ?_
        refine lv_iconst (v := 0) (pc := 193) hx hb dL_holds_193 (by decide) ?_
        refine m_callVI (pc := 194) (y := yX6_billet) (κ := 6) (As := [.int x6, .int 0]) (rest := []) C hK hP hS hl.1 ⟨Nat.zero_le _, Nat.zero_le _⟩ (c_X6_billet h) rfl rfl hk161 (by decide) rfl q_498 q_499 q_500 q_1 q_501 ⟨rfl, rfl⟩ yd_X6_billet ⟨Nat.le_of_ble_eq_true rfl, Nat.le_of_ble_eq_true rfl⟩ (Nat.le_of_ble_eq_true rfl) dL_holds_194 (fun r164 M163 H locs h hP hS => ?_)
        refine m_joinZ (z := if r164 < 0 then false else true) (jp := 205) (rest := []) ?_ (fun hJ => ?_)
        rotate_left
        · skip
          refine lv_if_lt (tgt := 204) (pc := 197) hx hb dL_holds_197 (by decide) (fun c197 => ?_) (fun c197 => ?_)
          · skip
            refine lv_iconst (v := 0) (pc := 204) hx hb dL_holds_204 (by decide) ?_
            exact hJ _ false rfl (by rw [if_pos c197])
          · skip
            refine lv_iconst (v := 1) (pc := 200) hx hb dL_holds_200 (by decide) ?_
            refine lv_goto (tgt := 205) (pc := 201) hx hb dL_holds_201 (by decide) ?_
            exact hJ _ true rfl (by rw [if_neg c197])
        refine lv_istore (lv' := [(8, .int (bI (if r164 < 0 then false else true))), (7, .int r162), (0, .ref (b + x0)), (2, .int x2), (3, .int x3), (4, .int x4), (5, .int x5), (6, .int x6)]) (pc := 205) hx hb dL_holds_205 hl (by decide) rfl (fun ls hl => ?_)
        refine lv_iload (pc := 207) hx hb dL_holds_207 (lv_at hl 6 rfl) ?_
        refine lv_iload (pc := 209) hx hb dL_holds_209 (lv_at hl 7 rfl) ?_
        refine lv_bipush (v := 6) (pc := 211) hx hb dL_holds_211 (by decide) ?_
        refine m_joinZ (z := if 6 ≤ x6 then false else (if (if r164 < 0 then false else true) = false then false else true)) (jp := 226) (rest := [.int x5]) ?_ (fun hJ => ?_)
        rotate_left
        · skip
          refine lv_icmp_ge (tgt := 225) (pc := 213) hx hb dL_holds_213 (by decide) (fun c213 => ?_) (fun c213 => ?_)
          · skip
            refine lv_iconst (v := 0) (pc := 225) hx hb dL_holds_225 (by decide) ?_
            exact hJ _ false rfl (by rw [if_pos c213])
          · skip
            refine lv_iload (pc := 216) hx hb dL_holds_216 (lv_at hl 0 rfl) ?_
            refine lv_if_eq (tgt := 225) (pc := 218) hx hb dL_holds_218 (by decide) (fun c218 => ?_) (fun c218 => ?_)
            · skip
              refine lv_iconst (v := 0) (pc := 225) hx hb dL_holds_225 (by decide) ?_
              exact hJ _ false rfl (by rw [if_neg c213, if_pos (bZ0 c218)])
            · skip
              refine lv_iconst (v := 1) (pc := 221) hx hb dL_holds_221 (by decide) ?_
              refine lv_goto (tgt := 226) (pc := 222) hx hb dL_holds_222 (by decide) ?_
              exact hJ _ true rfl (by rw [if_neg c213, if_neg (by rw [(bZ1 c218)]; decide)])
        refine lv_iadd (pc := 226) hx hb dL_holds_226 ?_
        refine lv_topi (fun v165 ev165 => ?_)
        replace h := h v165 ev165
        refine lv_istore (lv' := [(5, .int v165), (8, .int (bI (if r164 < 0 then false else true))), (7, .int r162), (0, .ref (b + x0)), (2, .int x2), (3, .int x3), (4, .int x4), (6, .int x6)]) (pc := 227) hx hb dL_holds_227 hl (by decide) rfl (fun ls hl => ?_)
        refine lv_iload (pc := 229) hx hb dL_holds_229 (lv_at hl 1 rfl) ?_
        refine lv_if_eq (tgt := 285) (pc := 231) hx hb dL_holds_231 (by decide) (fun c231 => ?_) (fun c231 => ?_)
        · replace h := h.1 (bZ0 c231)
          obtain ⟨v166, ev166⟩ : ∃ y : Int32, y = x6 + 1 := ⟨_, rfl⟩
          replace h := h v166 ev166
          refine lv_iinc (v := v166) (lv' := [(6, .int v166), (5, .int v165), (8, .int (bI (if r164 < 0 then false else true))), (7, .int r162), (0, .ref (b + x0)), (2, .int x2), (3, .int x3), (4, .int x4)]) (pc := 285) hx hb dL_holds_285 hl (k := 7) rfl (by rw [ev166]; rfl) (by decide) rfl (fun ls hl => ?_)
          refine lv_goto (tgt := 174) (pc := 288) hx hb dL_holds_288 (by decide) ?_
          exact ih _ _ _ _ _ _ _ _ _ _ h hP hS (lv_sub hl [4, 5, 6, 7, 1, 0] rfl)
        · replace h := h.2 (bZ1 c231)
          refine lv_iload (pc := 234) hx hb dL_holds_234 (lv_at hl 2 rfl) ?_
          refine lv_bipush (v := 20) (pc := 236) hx hb dL_holds_236 (by decide) ?_
          refine lv_icmp_lt (tgt := 283) (pc := 238) hx hb dL_holds_238 (by decide) (fun c238 => ?_) (fun c238 => ?_)
          · replace h := h.1 c238
            refine lv_iconst (v := 0) (pc := 283) hx hb dL_holds_283 (by decide) ?_
            exact m_zret (v := false) (pc := 284) C hr hlk hP hS dL_holds_284 h
          · replace h := h.2 c238
            refine lv_iload (pc := 241) hx hb dL_holds_241 (lv_at hl 2 rfl) ?_
            refine lv_sipush (v := 1250) (pc := 243) hx hb dL_holds_243 (by decide) ?_
            refine lv_icmp_gt (tgt := 283) (pc := 246) hx hb dL_holds_246 (by decide) (fun c246 => ?_) (fun c246 => ?_)
            · replace h := h.1 c246
              refine lv_iconst (v := 0) (pc := 283) hx hb dL_holds_283 (by decide) ?_
              exact m_zret (v := false) (pc := 284) C hr hlk hP hS dL_holds_284 h
            · replace h := h.2 c246
              refine lv_aload_n (pc := 249) hx hb dL_holds_249 rfl (lv_at hl 3 rfl) ?_
              refine lv_iload (pc := 250) hx hb dL_holds_250 (lv_at hl 7 rfl) ?_
              refine lv_iconst (v := 3) (pc := 252) hx hb dL_holds_252 (by decide) ?_
              refine m_callVI (pc := 253) (y := yX6_billet) (κ := 6) (As := [.int x6, .int 3]) (rest := []) C hK hP hS hl.1 ⟨Nat.zero_le _, Nat.zero_le _⟩ (c_X6_billet h) rfl rfl hk161 (by decide) rfl q_498 q_499 q_500 q_1 q_501 ⟨rfl, rfl⟩ yd_X6_billet ⟨Nat.le_of_ble_eq_true rfl, Nat.le_of_ble_eq_true rfl⟩ (Nat.le_of_ble_eq_true rfl) dL_holds_253 (fun r168 M167 H locs h hP hS => ?_)
              refine lv_iconst (v := 1) (pc := 256) hx hb dL_holds_256 (by decide) ?_
              refine lv_icmp_lt (tgt := 283) (pc := 257) hx hb dL_holds_257 (by decide) (fun c257 => ?_) (fun c257 => ?_)
              · replace h := h.1 c257
                refine lv_iconst (v := 0) (pc := 283) hx hb dL_holds_283 (by decide) ?_
                exact m_zret (v := false) (pc := 284) C hr hlk hP hS dL_holds_284 h
              · replace h := h.2 c257
                refine lv_aload_n (pc := 260) hx hb dL_holds_260 rfl (lv_at hl 3 rfl) ?_
                refine lv_iload (pc := 261) hx hb dL_holds_261 (lv_at hl 7 rfl) ?_
                refine lv_iconst (v := 3) (pc := 263) hx hb dL_holds_263 (by decide) ?_
                refine m_callVI (pc := 264) (y := yX6_billet) (κ := 6) (As := [.int x6, .int 3]) (rest := []) C hK hP hS hl.1 ⟨Nat.zero_le _, Nat.zero_le _⟩ (c_X6_billet h) rfl rfl hk161 (by decide) rfl q_498 q_499 q_500 q_1 q_501 ⟨rfl, rfl⟩ yd_X6_billet ⟨Nat.le_of_ble_eq_true rfl, Nat.le_of_ble_eq_true rfl⟩ (Nat.le_of_ble_eq_true rfl) dL_holds_264 (fun r170 M169 H locs h hP hS => ?_)
                refine lv_bipush (v := 9) (pc := 267) hx hb dL_holds_267 (by decide) ?_
                refine lv_icmp_gt (tgt := 283) (pc := 269) hx hb dL_holds_269 (by decide) (fun c269 => ?_) (fun c269 => ?_)
                · replace h := h.1 c269
                  refine lv_iconst (v := 0) (pc := 283) hx hb dL_holds_283 (by decide) ?_
                  exact m_zret (v := false) (pc := 284) C hr hlk hP hS dL_holds_284 h
                · replace h := h.2 c269
                  refine lv_aload_n (pc := 272) hx hb dL_holds_272 rfl (lv_at hl 3 rfl) ?_
                  refine lv_iload (pc := 273) hx hb dL_holds_273 (lv_at hl 7 rfl) ?_
                  refine lv_iconst (v := 2) (pc := 275) hx hb dL_holds_275 (by decide) ?_
                  refine m_callVI (pc := 276) (y := yX6_billet) (κ := 6) (As := [.int x6, .int 2]) (rest := []) C hK hP hS hl.1 ⟨Nat.zero_le _, Nat.zero_le _⟩ (c_X6_billet h) rfl rfl hk161 (by decide) rfl q_498 q_499 q_500 q_1 q_501 ⟨rfl, rfl⟩ yd_X6_billet ⟨Nat.le_of_ble_eq_true rfl, Nat.le_of_ble_eq_true rfl⟩ (Nat.le_of_ble_eq_true rfl) dL_holds_276 (fun r172 M171 H locs h hP hS => ?_)
                  refine lv_iconst (v := 3) (pc := 279) hx hb dL_holds_279 (by decide) ?_
                  refine lv_icmp_le (tgt := 285) (pc := 280) hx hb dL_holds_280 (by decide) (fun c280 => ?_) (fun c280 => ?_)
                  · replace h := h.1 c280
                    obtain ⟨v173, ev173⟩ : ∃ y : Int32, y = x6 + 1 := ⟨_, rfl⟩
                    replace h := h v173 ev173
                    refine lv_iinc (v := v173) (lv' := [(6, .int v173), (5, .int v165), (8, .int (bI (if r164 < 0 then false else true))), (7, .int r162), (0, .ref (b + x0)), (2, .int x2), (3, .int x3), (4, .int x4)]) (pc := 285) hx hb dL_holds_285 hl (k := 7) rfl (by rw [ev173]; rfl) (by decide) rfl (fun ls hl => ?_)
                    refine lv_goto (tgt := 174) (pc := 288) hx hb dL_holds_288 (by decide) ?_
                    exact ih _ _ _ _ _ _ _ _ _ _ h hP hS (lv_sub hl [4, 5, 6, 7, 1, 0] rfl)
                  · replace h := h.2 c280
                    refine lv_iconst (v := 0) (pc := 283) hx hb dL_holds_283 (by decide) ?_
                    exact m_zret (v := false) (pc := 284) C hr hlk hP hS dL_holds_284 h
  have L96 : ∀ f : Nat, ∀ (M : Mem) (H : Heap) (locs : List Loc) (ls : Array Slot) (x0 : Nat) (x2 : Int32) (x3 : Int32) (x4 : Int32) (x5 : Int32), wpL_L_holds_96 n P f M x0 x2 x3 x4 x5 → m_H D cA b n M H → va_S (m_A b) s.heap H locs → lv_has ls 12 [(0, .ref (b + x0)), (2, .int x2), (3, .int x3), (4, .int x4), (5, .int x5)] → W p l e rm_L_holds s m ([.ref (b + p1), .ref (b + p2)] : List Value).toArray below meth c H locs 0 0 (MQ below (m_Q D cA b n (rZ P)) ([.ref (b + p1), .ref (b + p2)] : List Value).toArray s 0 0 (m_A b)) (F0 m 96 ls []) := by
    clear h
    intro f
    induction f with
    | zero => intro M H locs ls x0 x2 x3 x4 x5 h; exact h.elim
    | succ f ih =>
      intro M H locs ls x0 x2 x3 x4 x5 h hP hS hl
      have h : wpB_L_holds_96 n P (wpL_L_holds_96 n P f) M x0 x2 x3 x4 x5 := h
      unfold wpB_L_holds_96 at h
      refine lv_iload (pc := 96) hx hb dL_holds_96 (lv_at hl 4 rfl) ?_
      refine lv_iconst (v := 5) (pc := 98) hx hb dL_holds_98 (by decide) ?_
      refine lv_icmp_ge (tgt := 168) (pc := 99) hx hb dL_holds_99 (by decide) (fun c99 => ?_) (fun c99 => ?_)
      · replace h := h.1 c99
        refine lv_iconst (v := 0) (pc := 168) hx hb dL_holds_168 (by decide) ?_
        refine lv_istore (lv' := [(5, .int 0), (0, .ref (b + x0)), (2, .int x2), (3, .int x3), (4, .int x4)]) (pc := 169) hx hb dL_holds_169 hl (by decide) rfl (fun ls hl => ?_)
        refine lv_iconst (v := 0) (pc := 171) hx hb dL_holds_171 (by decide) ?_
        refine lv_istore (lv' := [(6, .int 0), (5, .int 0), (0, .ref (b + x0)), (2, .int x2), (3, .int x3), (4, .int x4)]) (pc := 172) hx hb dL_holds_172 hl (by decide) rfl (fun ls hl => ?_)
        obtain ⟨f, h⟩ := h
        exact L174 f _ _ _ _ _ _ _ _ _ _ h hP hS (lv_sub hl [2, 3, 4, 5, 1, 0] rfl)
      · replace h := h.2 c99
        refine lv_iload (pc := 102) hx hb dL_holds_102 (lv_at hl 3 rfl) ?_
        refine lv_aload_n (pc := 104) hx hb dL_holds_104 rfl (lv_at hl 0 rfl) ?_
        refine lv_iload (pc := 105) hx hb dL_holds_105 (lv_at hl 4 rfl) ?_
        refine lv_iconst (v := 4) (pc := 107) hx hb dL_holds_107 (by decide) ?_
        obtain ⟨hk175, h⟩ := h
        refine m_callVI (pc := 108) (y := yX6_dieOf) (κ := 6) (As := [.int x5, .int 4]) (rest := [.int x4]) C hK hP hS hl.1 ⟨Nat.zero_le _, Nat.zero_le _⟩ (c_X6_dieOf h) rfl rfl hk175 (by decide) rfl q_488 q_489 q_490 q_1 q_491 ⟨rfl, rfl⟩ yd_X6_dieOf ⟨Nat.le_of_ble_eq_true rfl, Nat.le_of_ble_eq_true rfl⟩ (Nat.le_of_ble_eq_true rfl) dL_holds_108 (fun r176 M174 H locs h hP hS => ?_)
        refine lv_iadd (pc := 111) hx hb dL_holds_111 ?_
        refine lv_topi (fun v177 ev177 => ?_)
        replace h := h v177 ev177
        refine lv_istore (lv' := [(4, .int v177), (0, .ref (b + x0)), (2, .int x2), (3, .int x3), (5, .int x5)]) (pc := 112) hx hb dL_holds_112 hl (by decide) rfl (fun ls hl => ?_)
        refine lv_aload_n (pc := 114) hx hb dL_holds_114 rfl (lv_at hl 1 rfl) ?_
        refine lv_iload (pc := 115) hx hb dL_holds_115 (lv_at hl 4 rfl) ?_
        refine lv_iconst (v := 3) (pc := 117) hx hb dL_holds_117 (by decide) ?_
        refine m_callVI (pc := 118) (y := yX6_dieOf) (κ := 6) (As := [.int x5, .int 3]) (rest := []) C hK hP hS hl.1 ⟨Nat.zero_le _, Nat.zero_le _⟩ (c_X6_dieOf h) rfl rfl hk175 (by decide) rfl q_488 q_489 q_490 q_1 q_491 ⟨rfl, rfl⟩ yd_X6_dieOf ⟨Nat.le_of_ble_eq_true rfl, Nat.le_of_ble_eq_true rfl⟩ (Nat.le_of_ble_eq_true rfl) dL_holds_118 (fun r179 M178 H locs h hP hS => ?_)
        refine m_joinZ (z := if r179 ≤ 0 then false else true) (jp := 129) (rest := []) ?_ (fun hJ => ?_)
        rotate_left
        · skip
          refine lv_if_le (tgt := 128) (pc := 121) hx hb dL_holds_121 (by decide) (fun c121 => ?_) (fun c121 => ?_)
          · skip
            refine lv_iconst (v := 0) (pc := 128) hx hb dL_holds_128 (by decide) ?_
            exact hJ _ false rfl (by rw [if_pos c121])
          · skip
            refine lv_iconst (v := 1) (pc := 124) hx hb dL_holds_124 (by decide) ?_
            refine lv_goto (tgt := 129) (pc := 125) hx hb dL_holds_125 (by decide) ?_
            exact hJ _ true rfl (by rw [if_neg c121])
        refine lv_aload_n (pc := 129) hx hb dL_holds_129 rfl (lv_at hl 1 rfl) ?_
        refine lv_bipush (v := 10) (pc := 130) hx hb dL_holds_130 (by decide) ?_
        refine m_callVI (pc := 132) (y := yX6_count) (κ := 6) (As := [.int 10]) (rest := [.int (bI (if r179 ≤ 0 then false else true))]) C hK hP hS hl.1 ⟨Nat.zero_le _, Nat.zero_le _⟩ (c_X6_count h) rfl rfl hk175 (by decide) rfl q_383 q_384 q_385 q_1 q_386 ⟨rfl, rfl⟩ yd_X6_count ⟨Nat.le_of_ble_eq_true rfl, Nat.le_of_ble_eq_true rfl⟩ (Nat.le_of_ble_eq_true rfl) dL_holds_132 (fun r181 M180 H locs h hP hS => ?_)
        refine lv_iload (pc := 135) hx hb dL_holds_135 (lv_at hl 4 rfl) ?_
        refine m_joinZ (z := if ¬ r181 = x5 then false else true) (jp := 145) (rest := [.int (bI (if r179 ≤ 0 then false else true))]) ?_ (fun hJ => ?_)
        rotate_left
        · skip
          refine lv_icmp_ne (tgt := 144) (pc := 137) hx hb dL_holds_137 (by decide) (fun c137 => ?_) (fun c137 => ?_)
          · skip
            refine lv_iconst (v := 0) (pc := 144) hx hb dL_holds_144 (by decide) ?_
            exact hJ _ false rfl (by rw [if_pos c137])
          · skip
            refine lv_iconst (v := 1) (pc := 140) hx hb dL_holds_140 (by decide) ?_
            refine lv_goto (tgt := 145) (pc := 141) hx hb dL_holds_141 (by decide) ?_
            exact hJ _ true rfl (by rw [if_neg (fun hn => hn c137)])
        refine lv_icmp_ne (tgt := 160) (pc := 145) hx hb dL_holds_145 (by decide) (fun c145 => ?_) (fun c145 => ?_)
        · replace h := h.1 c145
          refine lv_iconst (v := 0) (pc := 160) hx hb dL_holds_160 (by decide) ?_
          exact m_zret (v := false) (pc := 161) C hr hlk hP hS dL_holds_161 h
        · replace h := h.2 c145
          refine lv_aload_n (pc := 148) hx hb dL_holds_148 rfl (lv_at hl 1 rfl) ?_
          refine lv_iload (pc := 149) hx hb dL_holds_149 (lv_at hl 4 rfl) ?_
          refine lv_iconst (v := 1) (pc := 151) hx hb dL_holds_151 (by decide) ?_
          refine m_callVI (pc := 152) (y := yX6_dieOf) (κ := 6) (As := [.int x5, .int 1]) (rest := []) C hK hP hS hl.1 ⟨Nat.zero_le _, Nat.zero_le _⟩ (c_X6_dieOf h) rfl rfl hk175 (by decide) rfl q_488 q_489 q_490 q_1 q_491 ⟨rfl, rfl⟩ yd_X6_dieOf ⟨Nat.le_of_ble_eq_true rfl, Nat.le_of_ble_eq_true rfl⟩ (Nat.le_of_ble_eq_true rfl) dL_holds_152 (fun r183 M182 H locs h hP hS => ?_)
          refine lv_bipush (v := 10) (pc := 155) hx hb dL_holds_155 (by decide) ?_
          refine lv_icmp_ge (tgt := 162) (pc := 157) hx hb dL_holds_157 (by decide) (fun c157 => ?_) (fun c157 => ?_)
          · replace h := h.1 c157
            obtain ⟨v184, ev184⟩ : ∃ y : Int32, y = x5 + 1 := ⟨_, rfl⟩
            replace h := h v184 ev184
            refine lv_iinc (v := v184) (lv' := [(5, .int v184), (4, .int v177), (0, .ref (b + x0)), (2, .int x2), (3, .int x3)]) (pc := 162) hx hb dL_holds_162 hl (k := 4) rfl (by rw [ev184]; rfl) (by decide) rfl (fun ls hl => ?_)
            refine lv_goto (tgt := 96) (pc := 165) hx hb dL_holds_165 (by decide) ?_
            exact ih _ _ _ _ _ _ _ _ _ h hP hS (lv_sub hl [2, 3, 4, 1, 0] rfl)
          · replace h := h.2 c157
            refine lv_iconst (v := 0) (pc := 160) hx hb dL_holds_160 (by decide) ?_
            exact m_zret (v := false) (pc := 161) C hr hlk hP hS dL_holds_161 h
  have L10 : ∀ f : Nat, ∀ (M : Mem) (H : Heap) (locs : List Loc) (ls : Array Slot) (x0 : Nat) (x1 : Nat) (x2 : Int32) (x3 : Int32) (x4 : Int32) (x5 : Int32), wpL_L_holds_10 n P f M x0 x1 x2 x3 x4 x5 → m_H D cA b n M H → va_S (m_A b) s.heap H locs → lv_has ls 12 [(0, .ref (b + x0)), (1, .ref (b + x1)), (2, .int x2), (3, .int x3), (4, .int x4), (5, .int x5)] → W p l e rm_L_holds s m ([.ref (b + p1), .ref (b + p2)] : List Value).toArray below meth c H locs 0 0 (MQ below (m_Q D cA b n (rZ P)) ([.ref (b + p1), .ref (b + p2)] : List Value).toArray s 0 0 (m_A b)) (F0 m 10 ls []) := by
    clear h
    intro f
    induction f with
    | zero => intro M H locs ls x0 x1 x2 x3 x4 x5 h; exact h.elim
    | succ f ih =>
      intro M H locs ls x0 x1 x2 x3 x4 x5 h hP hS hl
      have h : wpB_L_holds_10 n P (wpL_L_holds_10 n P f) M x0 x1 x2 x3 x4 x5 := h
      unfold wpB_L_holds_10 at h
      refine lv_iload (pc := 10) hx hb dL_holds_10 (lv_at hl 5 rfl) ?_
      refine lv_iconst (v := 4) (pc := 12) hx hb dL_holds_12 (by decide) ?_
      refine lv_icmp_ge (tgt := 93) (pc := 13) hx hb dL_holds_13 (by decide) (fun c13 => ?_) (fun c13 => ?_)
      · replace h := h.1 c13
        refine lv_iconst (v := 0) (pc := 93) hx hb dL_holds_93 (by decide) ?_
        refine lv_istore (lv' := [(5, .int 0), (0, .ref (b + x0)), (1, .ref (b + x1)), (2, .int x2), (3, .int x3), (4, .int x4)]) (pc := 94) hx hb dL_holds_94 hl (by decide) rfl (fun ls hl => ?_)
        obtain ⟨f, h⟩ := h
        exact L96 f _ _ _ _ _ _ _ _ _ h hP hS (lv_sub hl [1, 3, 4, 5, 0] rfl)
      · replace h := h.2 c13
        refine lv_aload_n (pc := 16) hx hb dL_holds_16 rfl (lv_at hl 0 rfl) ?_
        refine lv_iload (pc := 17) hx hb dL_holds_17 (lv_at hl 5 rfl) ?_
        refine lv_iconst (v := 0) (pc := 19) hx hb dL_holds_19 (by decide) ?_
        obtain ⟨hk186, h⟩ := h
        refine m_callVI (pc := 20) (y := yX6_heat) (κ := 6) (As := [.int x5, .int 0]) (rest := []) C hK hP hS hl.1 ⟨Nat.zero_le _, Nat.zero_le _⟩ (c_X6_heat h) rfl rfl hk186 (by decide) rfl q_466 q_467 q_468 q_1 q_469 ⟨rfl, rfl⟩ yd_X6_heat ⟨Nat.le_of_ble_eq_true rfl, Nat.le_of_ble_eq_true rfl⟩ (Nat.le_of_ble_eq_true rfl) dL_holds_20 (fun r187 M185 H locs h hP hS => ?_)
        refine lv_aload_n (pc := 23) hx hb dL_holds_23 rfl (lv_at hl 0 rfl) ?_
        refine lv_iload (pc := 24) hx hb dL_holds_24 (lv_at hl 5 rfl) ?_
        refine lv_iconst (v := 3) (pc := 26) hx hb dL_holds_26 (by decide) ?_
        refine m_callVI (pc := 27) (y := yX6_heat) (κ := 6) (As := [.int x5, .int 3]) (rest := [.int r187]) C hK hP hS hl.1 ⟨Nat.zero_le _, Nat.zero_le _⟩ (c_X6_heat h) rfl rfl hk186 (by decide) rfl q_466 q_467 q_468 q_1 q_469 ⟨rfl, rfl⟩ yd_X6_heat ⟨Nat.le_of_ble_eq_true rfl, Nat.le_of_ble_eq_true rfl⟩ (Nat.le_of_ble_eq_true rfl) dL_holds_27 (fun r189 M188 H locs h hP hS => ?_)
        refine lv_iadd (pc := 30) hx hb dL_holds_30 ?_
        refine lv_aload_n (pc := 31) hx hb dL_holds_31 rfl (lv_at hl 0 rfl) ?_
        refine lv_iload (pc := 32) hx hb dL_holds_32 (lv_at hl 5 rfl) ?_
        refine lv_iconst (v := 4) (pc := 34) hx hb dL_holds_34 (by decide) ?_
        refine m_callVI (pc := 35) (y := yX6_heat) (κ := 6) (As := [.int x5, .int 4]) (rest := [.int (r187 + r189)]) C hK hP hS hl.1 ⟨Nat.zero_le _, Nat.zero_le _⟩ (c_X6_heat h) rfl rfl hk186 (by decide) rfl q_466 q_467 q_468 q_1 q_469 ⟨rfl, rfl⟩ yd_X6_heat ⟨Nat.le_of_ble_eq_true rfl, Nat.le_of_ble_eq_true rfl⟩ (Nat.le_of_ble_eq_true rfl) dL_holds_35 (fun r191 M190 H locs h hP hS => ?_)
        refine lv_iadd (pc := 38) hx hb dL_holds_38 ?_
        refine lv_aload_n (pc := 39) hx hb dL_holds_39 rfl (lv_at hl 0 rfl) ?_
        refine lv_iload (pc := 40) hx hb dL_holds_40 (lv_at hl 5 rfl) ?_
        refine lv_iconst (v := 5) (pc := 42) hx hb dL_holds_42 (by decide) ?_
        refine m_callVI (pc := 43) (y := yX6_heat) (κ := 6) (As := [.int x5, .int 5]) (rest := [.int ((r187 + r189) + r191)]) C hK hP hS hl.1 ⟨Nat.zero_le _, Nat.zero_le _⟩ (c_X6_heat h) rfl rfl hk186 (by decide) rfl q_466 q_467 q_468 q_1 q_469 ⟨rfl, rfl⟩ yd_X6_heat ⟨Nat.le_of_ble_eq_true rfl, Nat.le_of_ble_eq_true rfl⟩ (Nat.le_of_ble_eq_true rfl) dL_holds_43 (fun r193 M192 H locs h hP hS => ?_)
        refine lv_iadd (pc := 46) hx hb dL_holds_46 ?_
        refine lv_aload_n (pc := 47) hx hb dL_holds_47 rfl (lv_at hl 1 rfl) ?_
        refine lv_iload (pc := 48) hx hb dL_holds_48 (lv_at hl 5 rfl) ?_
        obtain ⟨hk194, h⟩ := h
        obtain ⟨hi195, h⟩ := h
        refine m_iald (pc := 50) C hK hP hk194 hi195 dL_holds_50 ?_
        refine lv_icmp_ne (tgt := 65) (pc := 51) hx hb dL_holds_51 (by decide) (fun c51 => ?_) (fun c51 => ?_)
        · replace h := h.1 c51
          refine lv_iconst (v := 0) (pc := 65) hx hb dL_holds_65 (by decide) ?_
          exact m_zret (v := false) (pc := 66) C hr hlk hP hS dL_holds_66 h
        · replace h := h.2 c51
          refine lv_aload_n (pc := 54) hx hb dL_holds_54 rfl (lv_at hl 0 rfl) ?_
          refine lv_iload (pc := 55) hx hb dL_holds_55 (lv_at hl 5 rfl) ?_
          refine lv_bipush (v := 6) (pc := 57) hx hb dL_holds_57 (by decide) ?_
          refine m_callVI (pc := 59) (y := yX6_heat) (κ := 6) (As := [.int x5, .int 6]) (rest := []) C hK hP hS hl.1 ⟨Nat.zero_le _, Nat.zero_le _⟩ (c_X6_heat h) rfl rfl hk186 (by decide) rfl q_466 q_467 q_468 q_1 q_469 ⟨rfl, rfl⟩ yd_X6_heat ⟨Nat.le_of_ble_eq_true rfl, Nat.le_of_ble_eq_true rfl⟩ (Nat.le_of_ble_eq_true rfl) dL_holds_59 (fun r197 M196 H locs h hP hS => ?_)
          refine lv_if_ge (tgt := 67) (pc := 62) hx hb dL_holds_62 (by decide) (fun c62 => ?_) (fun c62 => ?_)
          · replace h := h.1 c62
            refine lv_iload_n (pc := 67) hx hb dL_holds_67 rfl (lv_at hl 2 rfl) ?_
            refine lv_aload_n (pc := 68) hx hb dL_holds_68 rfl (lv_at hl 0 rfl) ?_
            refine lv_iload (pc := 69) hx hb dL_holds_69 (lv_at hl 5 rfl) ?_
            refine lv_iconst (v := 4) (pc := 71) hx hb dL_holds_71 (by decide) ?_
            refine m_callVI (pc := 72) (y := yX6_heat) (κ := 6) (As := [.int x5, .int 4]) (rest := [.int x2]) C hK hP hS hl.1 ⟨Nat.zero_le _, Nat.zero_le _⟩ (c_X6_heat h) rfl rfl hk186 (by decide) rfl q_466 q_467 q_468 q_1 q_469 ⟨rfl, rfl⟩ yd_X6_heat ⟨Nat.le_of_ble_eq_true rfl, Nat.le_of_ble_eq_true rfl⟩ (Nat.le_of_ble_eq_true rfl) dL_holds_72 (fun r199 M198 H locs h hP hS => ?_)
            refine lv_iadd (pc := 75) hx hb dL_holds_75 ?_
            refine lv_topi (fun v200 ev200 => ?_)
            replace h := h v200 ev200
            refine lv_istore_n (lv' := [(2, .int v200), (0, .ref (b + x0)), (1, .ref (b + x1)), (3, .int x3), (4, .int x4), (5, .int x5)]) (pc := 76) hx hb dL_holds_76 rfl hl (by decide) rfl (fun ls hl => ?_)
            refine lv_iload_n (pc := 77) hx hb dL_holds_77 rfl (lv_at hl 3 rfl) ?_
            refine lv_aload_n (pc := 78) hx hb dL_holds_78 rfl (lv_at hl 1 rfl) ?_
            refine lv_iload (pc := 79) hx hb dL_holds_79 (lv_at hl 5 rfl) ?_
            refine lv_iconst (v := 5) (pc := 81) hx hb dL_holds_81 (by decide) ?_
            refine m_callVI (pc := 82) (y := yX6_heat) (κ := 6) (As := [.int x5, .int 5]) (rest := [.int x3]) C hK hP hS hl.1 ⟨Nat.zero_le _, Nat.zero_le _⟩ (c_X6_heat h) rfl rfl hk186 (by decide) rfl q_466 q_467 q_468 q_1 q_469 ⟨rfl, rfl⟩ yd_X6_heat ⟨Nat.le_of_ble_eq_true rfl, Nat.le_of_ble_eq_true rfl⟩ (Nat.le_of_ble_eq_true rfl) dL_holds_82 (fun r202 M201 H locs h hP hS => ?_)
            refine lv_iadd (pc := 85) hx hb dL_holds_85 ?_
            refine lv_topi (fun v203 ev203 => ?_)
            replace h := h v203 ev203
            refine lv_istore_n (lv' := [(3, .int v203), (2, .int v200), (0, .ref (b + x0)), (1, .ref (b + x1)), (4, .int x4), (5, .int x5)]) (pc := 86) hx hb dL_holds_86 rfl hl (by decide) rfl (fun ls hl => ?_)
            obtain ⟨v204, ev204⟩ : ∃ y : Int32, y = x5 + 1 := ⟨_, rfl⟩
            replace h := h v204 ev204
            refine lv_iinc (v := v204) (lv' := [(5, .int v204), (3, .int v203), (2, .int v200), (0, .ref (b + x0)), (1, .ref (b + x1)), (4, .int x4)]) (pc := 87) hx hb dL_holds_87 hl (k := 5) rfl (by rw [ev204]; rfl) (by decide) rfl (fun ls hl => ?_)
            refine lv_goto (tgt := 10) (pc := 90) hx hb dL_holds_90 (by decide) ?_
            exact ih _ _ _ _ _ _ _ _ _ _ h hP hS (lv_sub hl [3, 4, 2, 1, 5, 0] rfl)
          · replace h := h.2 c62
            refine lv_iconst (v := 0) (pc := 65) hx hb dL_holds_65 (by decide) ?_
            exact m_zret (v := false) (pc := 66) C hr hlk hP hS dL_holds_66 h
  unfold wp_L_holds at h
  refine lv_iconst (v := 0) (pc := 0) hx hb dL_holds_0 (by decide) ?_
  refine lv_istore_n (lv' := [(2, .int 0), (0, .ref (b + p1)), (1, .ref (b + p2))]) (pc := 1) hx hb dL_holds_1 rfl hl (by decide) rfl (fun ls hl => ?_)
  refine lv_iconst (v := 0) (pc := 2) hx hb dL_holds_2 (by decide) ?_
  refine lv_istore_n (lv' := [(3, .int 0), (2, .int 0), (0, .ref (b + p1)), (1, .ref (b + p2))]) (pc := 3) hx hb dL_holds_3 rfl hl (by decide) rfl (fun ls hl => ?_)
  refine lv_iconst (v := 0) (pc := 4) hx hb dL_holds_4 (by decide) ?_
  refine lv_istore (lv' := [(4, .int 0), (3, .int 0), (2, .int 0), (0, .ref (b + p1)), (1, .ref (b + p2))]) (pc := 5) hx hb dL_holds_5 hl (by decide) rfl (fun ls hl => ?_)
  refine lv_iconst (v := 0) (pc := 7) hx hb dL_holds_7 (by decide) ?_
  refine lv_istore (lv' := [(5, .int 0), (4, .int 0), (3, .int 0), (2, .int 0), (0, .ref (b + p1)), (1, .ref (b + p2))]) (pc := 8) hx hb dL_holds_8 hl (by decide) rfl (fun ls hl => ?_)
  obtain ⟨f, h⟩ := h
  exact L10 f _ _ _ _ _ _ _ _ _ _ h hP hS (lv_sub hl [4, 5, 3, 2, 1, 0] rfl)
