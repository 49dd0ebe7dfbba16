def wpB_L_law_245 (xs : Nat → Int32) (L : Nat) (K_ : Mem → Int32 → Prop) (R_ : Mem → Int32 → Int64 → Prop) (M : Mem) (x4 : Int32) (x11 : Int64) : Prop := wp_L_holds 278 M 0 276 (fun z20 M19 => ((z20 = false → False) ∧ (z20 = true → wp_L_told 278 M19 0 (fun r22 M21 => (((lg_cmp r22 x11) = 0 → ∀ v23 : Int32, v23 = x4 + 1 → (K_ M21 v23)) ∧ (¬ (lg_cmp r22 x11) = 0 → False))))))
def wpL_L_law_245 (xs : Nat → Int32) (L : Nat) (K_ : Mem → Int32 → Prop) : Nat → Mem → Int32 → Int64 → Prop
  | 0 => fun _ _ _ => False
  | f + 1 => fun M x4 x11 => wpB_L_law_245 xs L K_ (wpL_L_law_245 xs L K_ f) M x4 x11
def wpB_L_law_219 (xs : Nat → Int32) (L : Nat) (K_ : Mem → Int32 → Prop) (R_ : Mem → Int32 → Int32 → Int32 → Int64 → Prop) (M : Mem) (x4 : Int32) (x7 : Int32) (x10 : Int32) (x11 : Int64) : Prop := ((x10 < 0 → ∃ f : Nat, wpL_L_law_245 xs L K_ f M x4 x11) ∧ (¬ x10 < 0 → m_tp 278 277 8 ∧ (vp_in x7 (m_len 277) ∧ (∀ M26 : Mem, M26 = uI M 277 x7.toNatClampNeg x10 → (m_tp 278 276 8 ∧ (vp_in (x10 / 100) (m_len 276) ∧ (vp_in (x10 / 100) (m_len 276) ∧ (∀ M30 : Mem, M30 = uI M26 276 (x10 / 100).toNatClampNeg ((M26.1 276 (x10 / 100).toNatClampNeg) + (x10 - x10 / 100 * 100)) → (∃ f : Nat, wpL_L_law_245 xs L K_ f M30 x4 x11)))))))))
def wpL_L_law_219 (xs : Nat → Int32) (L : Nat) (K_ : Mem → Int32 → Prop) : Nat → Mem → Int32 → Int32 → Int32 → Int64 → Prop
  | 0 => fun _ _ _ _ _ => False
  | f + 1 => fun M x4 x7 x10 x11 => wpB_L_law_219 xs L K_ (wpL_L_law_219 xs L K_ f) M x4 x7 x10 x11
def wpB_L_law_160 (xs : Nat → Int32) (L : Nat) (K_ : Mem → Int32 → Prop) (R_ : Mem → Int32 → Int32 → Int32 → Int32 → Int64 → Int32 → Int64 → Prop) (M : Mem) (x4 : Int32) (x5 : Int32) (x6 : Int32) (x7 : Int32) (x8 : Int64) (x10 : Int32) (x11 : Int64) : Prop := ((x10 < 0 → ∃ f : Nat, wpL_L_law_219 xs L K_ f M x4 x7 x10 x11) ∧ (¬ x10 < 0 → ((¬ ((x5 >>> (13 &&& 31)) &&& 1) = 0 → ∃ f : Nat, wpL_L_law_219 xs L K_ f M x4 x7 x10 x11) ∧ (((x5 >>> (13 &&& 31)) &&& 1) = 0 → m_tp 278 0 6 ∧ (wp_X6_undo 278 M 0 (fun r33 M31 => ((¬ r33 = x7 → False) ∧ (r33 = x7 → wp_L_told 278 M31 0 (fun r35 M34 => ((¬ (lg_cmp r35 x8) = 0 → False) ∧ ((lg_cmp r35 x8) = 0 → wp_L_acts 278 M34 0 x5 x6 (fun r37 M36 => ((¬ r37 = x10 → False) ∧ (r37 = x10 → wp_L_told 278 M36 0 (fun r39 M38 => (((lg_cmp r39 x11) = 0 → ∃ f : Nat, wpL_L_law_219 xs L K_ f M38 x4 x7 x10 x11) ∧ (¬ (lg_cmp r39 x11) = 0 → False)))))))))))))))))
def wpL_L_law_160 (xs : Nat → Int32) (L : Nat) (K_ : Mem → Int32 → Prop) : Nat → Mem → Int32 → Int32 → Int32 → Int32 → Int64 → Int32 → Int64 → Prop
  | 0 => fun _ _ _ _ _ _ _ _ => False
  | f + 1 => fun M x4 x5 x6 x7 x8 x10 x11 => wpB_L_law_160 xs L K_ (wpL_L_law_160 xs L K_ f) M x4 x5 x6 x7 x8 x10 x11
def wpB_L_law_99 (xs : Nat → Int32) (L : Nat) (K_ : Mem → Int32 → Prop) (R_ : Mem → Int32 → Int32 → Int32 → Prop) (M : Mem) (x4 : Int32) (x5 : Int32) (x6 : Int32) : Prop := m_tp 278 0 6 ∧ (wp_X6_count 278 M 0 11 (fun r10 M8 => wp_L_told 278 M8 0 (fun r12 M11 => wp_L_acts 278 M11 0 x5 x6 (fun r14 M13 => wp_L_told 278 M13 0 (fun r16 M15 => ((0 ≤ r14 → wp_X6_count 278 M15 0 11 (fun r18 M17 => ((r18 = (r10 + 1) → ∃ f : Nat, wpL_L_law_160 xs L K_ f M17 x4 x5 x6 r10 r12 r14 r16) ∧ (¬ r18 = (r10 + 1) → False)))) ∧ (¬ 0 ≤ r14 → (((lg_cmp r16 r12) = 0 → ∃ f : Nat, wpL_L_law_160 xs L K_ f M15 x4 x5 x6 r10 r12 r14 r16) ∧ (¬ (lg_cmp r16 r12) = 0 → False)))))))))
def wpL_L_law_99 (xs : Nat → Int32) (L : Nat) (K_ : Mem → Int32 → Prop) : Nat → Mem → Int32 → Int32 → Int32 → Prop
  | 0 => fun _ _ _ _ => False
  | f + 1 => fun M x4 x5 x6 => wpB_L_law_99 xs L K_ (wpL_L_law_99 xs L K_ f) M x4 x5 x6
def wpB_L_law_63 (xs : Nat → Int32) (L : Nat) (K_ : Mem → Int32 → Prop) (R_ : Mem → Int32 → Int32 → Int32 → Int32 → Prop) (M : Mem) (x4 : Int32) (x5 : Int32) (x6 : Int32) (x7 : Int32) : Prop := ((x7 ≤ 3 → ∃ f : Nat, wpL_L_law_99 xs L K_ f M x4 x5 x6) ∧ (¬ x7 ≤ 3 → m_tp 278 0 6 ∧ (wp_X6_undo 278 M 0 (fun r42 M40 => m_tp 278 277 8 ∧ (vp_in x7 (m_len 277) ∧ (m_tp 278 276 8 ∧ (vp_in ((M40.1 277 x7.toNatClampNeg) / 100) (m_len 276) ∧ (vp_in x7 (m_len 277) ∧ (vp_in ((M40.1 277 x7.toNatClampNeg) / 100) (m_len 276) ∧ (∀ M49 : Mem, M49 = uI M40 276 ((M40.1 277 x7.toNatClampNeg) / 100).toNatClampNeg ((M40.1 276 ((M40.1 277 x7.toNatClampNeg) / 100).toNatClampNeg) - ((M40.1 277 x7.toNatClampNeg) - (M40.1 277 x7.toNatClampNeg) / 100 * 100)) → (∀ v50 : Int32, v50 = x7 + (-1) → (R_ M49 x4 x5 x6 v50))))))))))))
def wpL_L_law_63 (xs : Nat → Int32) (L : Nat) (K_ : Mem → Int32 → Prop) : Nat → Mem → Int32 → Int32 → Int32 → Int32 → Prop
  | 0 => fun _ _ _ _ _ => False
  | f + 1 => fun M x4 x5 x6 x7 => wpB_L_law_63 xs L K_ (wpL_L_law_63 xs L K_ f) M x4 x5 x6 x7
def wpB_L_law_20 (xs : Nat → Int32) (L : Nat) (R_ : Mem → Int32 → Prop) (M : Mem) (x4 : Int32) : Prop := ((36 ≤ x4 → True) ∧ (¬ 36 ≤ x4 → wp_L_cell xs L M (2 * x4) (fun r1 M2 => wp_L_cell xs L M2 ((2 * x4) + 1) (fun r3 M4 => m_tp 278 0 6 ∧ (wp_X6_count 278 M4 0 11 (fun r7 M5 => ((¬ r7 = 6 → ∃ f : Nat, wpL_L_law_99 xs L R_ f M5 x4 r1 r3) ∧ (r7 = 6 → ∃ f : Nat, wpL_L_law_63 xs L R_ f M5 x4 r1 r3 5))))))))
def wpL_L_law_20 (xs : Nat → Int32) (L : Nat) : Nat → Mem → Int32 → Prop
  | 0 => fun _ _ => False
  | f + 1 => fun M x4 => wpB_L_law_20 xs L (wpL_L_law_20 xs L f) M x4
set_option maxHeartbeats 16000000 in
set_option maxRecDepth 100000 in
theorem law_loop {p : Program} {l : Launch} {e : Env} {s : State} {m : MethodId} {below : List Frame} {meth : Method} {c : Code} {D : va_G} {cA : Nat → ClassId} {b sb L : Nat} {xs : Nat → Int32} (C0 : lw_At p s m meth c sb L xs) (hbs : s.heap.size = b) (hK : m_K D cA s) : ∀ f : Nat, ∀ (M : Mem) (H : Heap) (locs : List Loc) (ls : Array Slot) (x4 : Int32), wpL_L_law_20 xs L f M x4 → m_H D cA b 278 M H → va_S (m_A b) s.heap H locs → lv_has ls 13 [(0, .ref sb), (1, .ref (b + 0)), (2, .ref (b + 276)), (3, .ref (b + 277)), (4, .int x4)] → W p l e room_1 s m #[Value.ref sb] below meth c H locs 278 (1000 * 278) (lw_Z below #[Value.ref sb] s) (F0 m 20 ls []) := by
  obtain ⟨hx, hb, hr, hml, hown, hts, hX, hbl, hlocks, hgv⟩ := C0
  have hbA : ¬ m_A b sb := by
    show ¬ b ≤ sb
    omega
  have C : CallFix p m c cL_law 13 s #[Value.ref sb] lw_T RL := ⟨hx, hb, hml, hown, fun w hw => hts w (List.mem_filter.mp hw).1⟩
  have L245 : ∀ K_ : Mem → Int32 → Prop, (∀ (M : Mem) (H : Heap) (locs : List Loc) (ls : Array Slot) (x4 : Int32), K_ M x4 → m_H D cA b 278 M H → va_S (m_A b) s.heap H locs → lv_has ls 13 [(0, .ref sb), (1, .ref (b + 0)), (2, .ref (b + 276)), (3, .ref (b + 277)), (4, .int x4)] → W p l e room_1 s m #[Value.ref sb] below meth c H locs 278 (1000 * 278) (lw_Z below #[Value.ref sb] s) (F0 m 20 ls [])) → ∀ f : Nat, ∀ (M : Mem) (H : Heap) (locs : List Loc) (ls : Array Slot) (x4 : Int32) (x11 : Int64), wpL_L_law_245 xs L K_ f M x4 x11 → m_H D cA b 278 M H → va_S (m_A b) s.heap H locs → lv_has ls 13 [(0, .ref sb), (1, .ref (b + 0)), (2, .ref (b + 276)), (3, .ref (b + 277)), (4, .int x4), (11, .long x11)] → W p l e room_1 s m #[Value.ref sb] below meth c H locs 278 (1000 * 278) (lw_Z below #[Value.ref sb] s) (F0 m 245 ls []) := by
    intro K_ hKk
    intro f
    induction f with
    | zero => intro M H locs ls x4 x11 h; exact h.elim
    | succ f ih =>
      intro M H locs ls x4 x11 h hP hS hl
      have h : wpB_L_law_245 xs L K_ (wpL_L_law_245 xs L K_ f) M x4 x11 := h
      unfold wpB_L_law_245 at h
      refine lv_aload_n (pc := 245) hx hb dL_law_245 rfl (lv_at hl 1 rfl) ?_
      refine lv_aload_n (pc := 246) hx hb dL_law_246 rfl (lv_at hl 2 rfl) ?_
      refine m_callSZ (pc := 247) (y := yL_holds) (As := [.ref (b + 0), .ref (b + 276)]) (rest := []) C hK hP hS hl.1 ⟨Nat.le_of_ble_eq_true rfl, Nat.le_of_ble_eq_true rfl⟩ (c_L_holds h) rfl rfl q_694 q_695 q_0 q_696 ⟨rfl, rfl⟩ yd_L_holds ⟨Nat.le_of_ble_eq_true rfl, Nat.le_of_ble_eq_true rfl⟩ (Nat.le_of_ble_eq_true rfl) dL_law_247 (fun z20 M19 H locs h hP hS => ?_)
      refine lv_if_eq (tgt := 263) (pc := 250) hx hb dL_law_250 (by decide) (fun c250 => ?_) (fun c250 => ?_)
      · replace h := h.1 (bZ0 c250)
        refine lv_iconst (v := 0) (pc := 263) hx hb dL_law_263 (by decide) ?_
        exact h.elim
      · replace h := h.2 (bZ1 c250)
        refine lv_aload_n (pc := 253) hx hb dL_law_253 rfl (lv_at hl 1 rfl) ?_
        refine m_callSL (pc := 254) (y := yL_told) (As := [.ref (b + 0)]) (rest := []) C hK hP hS hl.1 ⟨Nat.le_of_ble_eq_true rfl, Nat.le_of_ble_eq_true rfl⟩ (c_L_told h) rfl rfl q_437 q_438 q_0 q_439 ⟨rfl, rfl⟩ yd_L_told ⟨Nat.le_of_ble_eq_true rfl, Nat.le_of_ble_eq_true rfl⟩ (Nat.le_of_ble_eq_true rfl) dL_law_254 (fun r22 M21 H locs h hP hS => ?_)
        refine lv_lload (pc := 257) hx hb dL_law_257 (lv_at hl 5 rfl) ?_
        refine W.lcmp (pc := 259) hx hb dL_law_259 ?_
        refine lv_if_eq (tgt := 265) (pc := 260) hx hb dL_law_260 (by decide) (fun c260 => ?_) (fun c260 => ?_)
        · replace h := h.1 c260
          obtain ⟨v23, ev23⟩ : ∃ y : Int32, y = x4 + 1 := ⟨_, rfl⟩
          replace h := h v23 ev23
          refine lv_iinc (v := v23) (lv' := [(4, .int v23), (0, .ref sb), (1, .ref (b + 0)), (2, .ref (b + 276)), (3, .ref (b + 277)), (11, .long x11)]) (pc := 265) hx hb dL_law_265 hl (k := 4) rfl (by rw [ev23]; rfl) (by decide) rfl (fun ls hl => ?_)
          refine lv_goto (tgt := 20) (pc := 268) hx hb dL_law_268 (by decide) ?_
          exact hKk _ _ _ _ _ h hP hS (lv_sub hl [1, 2, 3, 4, 0] rfl)
        · replace h := h.2 c260
          refine lv_iconst (v := 0) (pc := 263) hx hb dL_law_263 (by decide) ?_
          exact h.elim
  have L219 : ∀ K_ : Mem → Int32 → Prop, (∀ (M : Mem) (H : Heap) (locs : List Loc) (ls : Array Slot) (x4 : Int32), K_ M x4 → m_H D cA b 278 M H → va_S (m_A b) s.heap H locs → lv_has ls 13 [(0, .ref sb), (1, .ref (b + 0)), (2, .ref (b + 276)), (3, .ref (b + 277)), (4, .int x4)] → W p l e room_1 s m #[Value.ref sb] below meth c H locs 278 (1000 * 278) (lw_Z below #[Value.ref sb] s) (F0 m 20 ls [])) → ∀ f : Nat, ∀ (M : Mem) (H : Heap) (locs : List Loc) (ls : Array Slot) (x4 : Int32) (x7 : Int32) (x10 : Int32) (x11 : Int64), wpL_L_law_219 xs L K_ f M x4 x7 x10 x11 → m_H D cA b 278 M H → va_S (m_A b) s.heap H locs → lv_has ls 13 [(0, .ref sb), (1, .ref (b + 0)), (2, .ref (b + 276)), (3, .ref (b + 277)), (4, .int x4), (7, .int x7), (10, .int x10), (11, .long x11)] → W p l e room_1 s m #[Value.ref sb] below meth c H locs 278 (1000 * 278) (lw_Z below #[Value.ref sb] s) (F0 m 219 ls []) := by
    intro K_ hKk
    intro f
    induction f with
    | zero => intro M H locs ls x4 x7 x10 x11 h; exact h.elim
    | succ f ih =>
      intro M H locs ls x4 x7 x10 x11 h hP hS hl
      have h : wpB_L_law_219 xs L K_ (wpL_L_law_219 xs L K_ f) M x4 x7 x10 x11 := h
      unfold wpB_L_law_219 at h
      refine lv_iload (pc := 219) hx hb dL_law_219 (lv_at hl 6 rfl) ?_
      refine lv_if_lt (tgt := 245) (pc := 221) hx hb dL_law_221 (by decide) (fun c221 => ?_) (fun c221 => ?_)
      · replace h := h.1 c221
        obtain ⟨f, h⟩ := h
        exact L245 _ hKk f _ _ _ _ _ _ h hP hS (lv_sub hl [0, 1, 2, 3, 4, 7] rfl)
      · replace h := h.2 c221
        refine lv_aload_n (pc := 224) hx hb dL_law_224 rfl (lv_at hl 3 rfl) ?_
        refine lv_iload (pc := 225) hx hb dL_law_225 (lv_at hl 5 rfl) ?_
        refine lv_iload (pc := 227) hx hb dL_law_227 (lv_at hl 6 rfl) ?_
        obtain ⟨hk24, h⟩ := h
        obtain ⟨hi25, h⟩ := h
        refine m_iast (pc := 229) C hK hP hS hk24 hi25 dL_law_229 (fun M26 H locs eM26 hP hS => ?_)
        replace h := h M26 eM26
        refine lv_aload_n (pc := 230) hx hb dL_law_230 rfl (lv_at hl 2 rfl) ?_
        refine lv_iload (pc := 231) hx hb dL_law_231 (lv_at hl 6 rfl) ?_
        refine lv_bipush (v := 100) (pc := 233) hx hb dL_law_233 (by decide) ?_
        refine lv_idiv (pc := 235) hx hb dL_law_235 (by decide) ?_
        refine lv_dup2_11 (pc := 236) hx hb dL_law_236 rfl rfl ?_
        obtain ⟨hk27, h⟩ := h
        obtain ⟨hi28, h⟩ := h
        refine m_iald (pc := 237) C hK hP hk27 hi28 dL_law_237 ?_
        refine lv_iload (pc := 238) hx hb dL_law_238 (lv_at hl 6 rfl) ?_
        refine lv_bipush (v := 100) (pc := 240) hx hb dL_law_240 (by decide) ?_
        refine lv_irem (pc := 242) hx hb dL_law_242 (by decide) ?_
        refine lv_iadd (pc := 243) hx hb dL_law_243 ?_
        obtain ⟨hi29, h⟩ := h
        refine m_iast (pc := 244) C hK hP hS hk27 hi29 dL_law_244 (fun M30 H locs eM30 hP hS => ?_)
        replace h := h M30 eM30
        obtain ⟨f, h⟩ := h
        exact L245 _ hKk f _ _ _ _ _ _ h hP hS (lv_sub hl [0, 1, 2, 3, 4, 7] rfl)
  have L160 : ∀ K_ : Mem → Int32 → Prop, (∀ (M : Mem) (H : Heap) (locs : List Loc) (ls : Array Slot) (x4 : Int32), K_ M x4 → m_H D cA b 278 M H → va_S (m_A b) s.heap H locs → lv_has ls 13 [(0, .ref sb), (1, .ref (b + 0)), (2, .ref (b + 276)), (3, .ref (b + 277)), (4, .int x4)] → W p l e room_1 s m #[Value.ref sb] below meth c H locs 278 (1000 * 278) (lw_Z below #[Value.ref sb] s) (F0 m 20 ls [])) → ∀ f : Nat, ∀ (M : Mem) (H : Heap) (locs : List Loc) (ls : Array Slot) (x4 : Int32) (x5 : Int32) (x6 : Int32) (x7 : Int32) (x8 : Int64) (x10 : Int32) (x11 : Int64), wpL_L_law_160 xs L K_ f M x4 x5 x6 x7 x8 x10 x11 → m_H D cA b 278 M H → va_S (m_A b) s.heap H locs → lv_has ls 13 [(0, .ref sb), (1, .ref (b + 0)), (2, .ref (b + 276)), (3, .ref (b + 277)), (4, .int x4), (5, .int x5), (6, .int x6), (7, .int x7), (8, .long x8), (10, .int x10), (11, .long x11)] → W p l e room_1 s m #[Value.ref sb] below meth c H locs 278 (1000 * 278) (lw_Z below #[Value.ref sb] s) (F0 m 160 ls []) := by
    intro K_ hKk
    intro f
    induction f with
    | zero => intro M H locs ls x4 x5 x6 x7 x8 x10 x11 h; exact h.elim
    | succ f ih =>
      intro M H locs ls x4 x5 x6 x7 x8 x10 x11 h hP hS hl
      have h : wpB_L_law_160 xs L K_ (wpL_L_law_160 xs L K_ f) M x4 x5 x6 x7 x8 x10 x11 := h
      unfold wpB_L_law_160 at h
      refine lv_iload (pc := 160) hx hb dL_law_160 (lv_at hl 9 rfl) ?_
      refine lv_if_lt (tgt := 219) (pc := 162) hx hb dL_law_162 (by decide) (fun c162 => ?_) (fun c162 => ?_)
      · replace h := h.1 c162
        obtain ⟨f, h⟩ := h
        exact L219 _ hKk f _ _ _ _ _ _ _ _ h hP hS (lv_sub hl [0, 1, 2, 3, 4, 7, 9, 10] rfl)
      · replace h := h.2 c162
        refine lv_iload (pc := 165) hx hb dL_law_165 (lv_at hl 5 rfl) ?_
        refine lv_bipush (v := 13) (pc := 167) hx hb dL_law_167 (by decide) ?_
        refine lv_ishr (pc := 169) hx hb dL_law_169 ?_
        refine lv_iconst (v := 1) (pc := 170) hx hb dL_law_170 (by decide) ?_
        refine lv_iand (pc := 171) hx hb dL_law_171 ?_
        refine lv_if_ne (tgt := 219) (pc := 172) hx hb dL_law_172 (by decide) (fun c172 => ?_) (fun c172 => ?_)
        · replace h := h.1 c172
          obtain ⟨f, h⟩ := h
          exact L219 _ hKk f _ _ _ _ _ _ _ _ h hP hS (lv_sub hl [0, 1, 2, 3, 4, 7, 9, 10] rfl)
        · replace h := h.2 c172
          refine lv_aload_n (pc := 175) hx hb dL_law_175 rfl (lv_at hl 1 rfl) ?_
          obtain ⟨hk32, h⟩ := h
          refine m_callVI (pc := 176) (y := yX6_undo) (κ := 6) (As := []) (rest := []) C hK hP hS hl.1 ⟨Nat.le_of_ble_eq_true rfl, Nat.le_of_ble_eq_true rfl⟩ (c_X6_undo h) rfl rfl hk32 (by decide) rfl q_267 q_268 q_269 q_1 q_270 ⟨rfl, rfl⟩ yd_X6_undo ⟨Nat.le_of_ble_eq_true rfl, Nat.le_of_ble_eq_true rfl⟩ (Nat.le_of_ble_eq_true rfl) dL_law_176 (fun r33 M31 H locs h hP hS => ?_)
          refine lv_iload (pc := 179) hx hb dL_law_179 (lv_at hl 7 rfl) ?_
          refine lv_icmp_ne (tgt := 217) (pc := 181) hx hb dL_law_181 (by decide) (fun c181 => ?_) (fun c181 => ?_)
          · replace h := h.1 c181
            refine lv_iconst (v := 0) (pc := 217) hx hb dL_law_217 (by decide) ?_
            exact h.elim
          · replace h := h.2 c181
            refine lv_aload_n (pc := 184) hx hb dL_law_184 rfl (lv_at hl 1 rfl) ?_
            refine m_callSL (pc := 185) (y := yL_told) (As := [.ref (b + 0)]) (rest := []) C hK hP hS hl.1 ⟨Nat.le_of_ble_eq_true rfl, Nat.le_of_ble_eq_true rfl⟩ (c_L_told h) rfl rfl q_437 q_438 q_0 q_439 ⟨rfl, rfl⟩ yd_L_told ⟨Nat.le_of_ble_eq_true rfl, Nat.le_of_ble_eq_true rfl⟩ (Nat.le_of_ble_eq_true rfl) dL_law_185 (fun r35 M34 H locs h hP hS => ?_)
            refine lv_lload (pc := 188) hx hb dL_law_188 (lv_at hl 8 rfl) ?_
            refine W.lcmp (pc := 190) hx hb dL_law_190 ?_
            refine lv_if_ne (tgt := 217) (pc := 191) hx hb dL_law_191 (by decide) (fun c191 => ?_) (fun c191 => ?_)
            · replace h := h.1 c191
              refine lv_iconst (v := 0) (pc := 217) hx hb dL_law_217 (by decide) ?_
              exact h.elim
            · replace h := h.2 c191
              refine lv_aload_n (pc := 194) hx hb dL_law_194 rfl (lv_at hl 1 rfl) ?_
              refine lv_iload (pc := 195) hx hb dL_law_195 (lv_at hl 5 rfl) ?_
              refine lv_iload (pc := 197) hx hb dL_law_197 (lv_at hl 6 rfl) ?_
              refine m_callSI (pc := 199) (y := yL_acts) (As := [.ref (b + 0), .int x5, .int x6]) (rest := []) C hK hP hS hl.1 ⟨Nat.le_of_ble_eq_true rfl, Nat.le_of_ble_eq_true rfl⟩ (c_L_acts h) rfl rfl q_529 q_530 q_0 q_531 ⟨rfl, rfl⟩ yd_L_acts ⟨Nat.le_of_ble_eq_true rfl, Nat.le_of_ble_eq_true rfl⟩ (Nat.le_of_ble_eq_true rfl) dL_law_199 (fun r37 M36 H locs h hP hS => ?_)
              refine lv_iload (pc := 202) hx hb dL_law_202 (lv_at hl 9 rfl) ?_
              refine lv_icmp_ne (tgt := 217) (pc := 204) hx hb dL_law_204 (by decide) (fun c204 => ?_) (fun c204 => ?_)
              · replace h := h.1 c204
                refine lv_iconst (v := 0) (pc := 217) hx hb dL_law_217 (by decide) ?_
                exact h.elim
              · replace h := h.2 c204
                refine lv_aload_n (pc := 207) hx hb dL_law_207 rfl (lv_at hl 1 rfl) ?_
                refine m_callSL (pc := 208) (y := yL_told) (As := [.ref (b + 0)]) (rest := []) C hK hP hS hl.1 ⟨Nat.le_of_ble_eq_true rfl, Nat.le_of_ble_eq_true rfl⟩ (c_L_told h) rfl rfl q_437 q_438 q_0 q_439 ⟨rfl, rfl⟩ yd_L_told ⟨Nat.le_of_ble_eq_true rfl, Nat.le_of_ble_eq_true rfl⟩ (Nat.le_of_ble_eq_true rfl) dL_law_208 (fun r39 M38 H locs h hP hS => ?_)
                refine lv_lload (pc := 211) hx hb dL_law_211 (lv_at hl 10 rfl) ?_
                refine W.lcmp (pc := 213) hx hb dL_law_213 ?_
                refine lv_if_eq (tgt := 219) (pc := 214) hx hb dL_law_214 (by decide) (fun c214 => ?_) (fun c214 => ?_)
                · replace h := h.1 c214
                  obtain ⟨f, h⟩ := h
                  exact L219 _ hKk f _ _ _ _ _ _ _ _ h hP hS (lv_sub hl [0, 1, 2, 3, 4, 7, 9, 10] rfl)
                · replace h := h.2 c214
                  refine lv_iconst (v := 0) (pc := 217) hx hb dL_law_217 (by decide) ?_
                  exact h.elim
  have L99 : ∀ K_ : Mem → Int32 → Prop, (∀ (M : Mem) (H : Heap) (locs : List Loc) (ls : Array Slot) (x4 : Int32), K_ M x4 → m_H D cA b 278 M H → va_S (m_A b) s.heap H locs → lv_has ls 13 [(0, .ref sb), (1, .ref (b + 0)), (2, .ref (b + 276)), (3, .ref (b + 277)), (4, .int x4)] → W p l e room_1 s m #[Value.ref sb] below meth c H locs 278 (1000 * 278) (lw_Z below #[Value.ref sb] s) (F0 m 20 ls [])) → ∀ f : Nat, ∀ (M : Mem) (H : Heap) (locs : List Loc) (ls : Array Slot) (x4 : Int32) (x5 : Int32) (x6 : Int32), wpL_L_law_99 xs L K_ f M x4 x5 x6 → m_H D cA b 278 M H → va_S (m_A b) s.heap H locs → lv_has ls 13 [(0, .ref sb), (1, .ref (b + 0)), (2, .ref (b + 276)), (3, .ref (b + 277)), (4, .int x4), (5, .int x5), (6, .int x6)] → W p l e room_1 s m #[Value.ref sb] below meth c H locs 278 (1000 * 278) (lw_Z below #[Value.ref sb] s) (F0 m 99 ls []) := by
    intro K_ hKk
    intro f
    induction f with
    | zero => intro M H locs ls x4 x5 x6 h; exact h.elim
    | succ f ih =>
      intro M H locs ls x4 x5 x6 h hP hS hl
      have h : wpB_L_law_99 xs L K_ (wpL_L_law_99 xs L K_ f) M x4 x5 x6 := h
      unfold wpB_L_law_99 at h
      refine lv_aload_n (pc := 99) hx hb dL_law_99 rfl (lv_at hl 1 rfl) ?_
      refine lv_bipush (v := 11) (pc := 100) hx hb dL_law_100 (by decide) ?_
      obtain ⟨hk9, h⟩ := h
      refine m_callVI (pc := 102) (y := yX6_count) (κ := 6) (As := [.int 11]) (rest := []) C hK hP hS hl.1 ⟨Nat.le_of_ble_eq_true rfl, Nat.le_of_ble_eq_true rfl⟩ (c_X6_count h) rfl rfl hk9 (by decide) rfl q_383 q_384 q_385 q_1 q_386 ⟨rfl, rfl⟩ yd_X6_count ⟨Nat.le_of_ble_eq_true rfl, Nat.le_of_ble_eq_true rfl⟩ (Nat.le_of_ble_eq_true rfl) dL_law_102 (fun r10 M8 H locs h hP hS => ?_)
      refine lv_istore (lv' := [(7, .int r10), (0, .ref sb), (1, .ref (b + 0)), (2, .ref (b + 276)), (3, .ref (b + 277)), (4, .int x4), (5, .int x5), (6, .int x6)]) (pc := 105) hx hb dL_law_105 hl (by decide) rfl (fun ls hl => ?_)
      refine lv_aload_n (pc := 107) hx hb dL_law_107 rfl (lv_at hl 2 rfl) ?_
      refine m_callSL (pc := 108) (y := yL_told) (As := [.ref (b + 0)]) (rest := []) C hK hP hS hl.1 ⟨Nat.le_of_ble_eq_true rfl, Nat.le_of_ble_eq_true rfl⟩ (c_L_told h) rfl rfl q_437 q_438 q_0 q_439 ⟨rfl, rfl⟩ yd_L_told ⟨Nat.le_of_ble_eq_true rfl, Nat.le_of_ble_eq_true rfl⟩ (Nat.le_of_ble_eq_true rfl) dL_law_108 (fun r12 M11 H locs h hP hS => ?_)
      refine lv_lstore (lv' := [(8, .long r12), (7, .int r10), (0, .ref sb), (1, .ref (b + 0)), (2, .ref (b + 276)), (3, .ref (b + 277)), (4, .int x4), (5, .int x5), (6, .int x6)]) (pc := 111) hx hb dL_law_111 hl (by decide) rfl (fun ls hl => ?_)
      refine lv_aload_n (pc := 113) hx hb dL_law_113 rfl (lv_at hl 3 rfl) ?_
      refine lv_iload (pc := 114) hx hb dL_law_114 (lv_at hl 7 rfl) ?_
      refine lv_iload (pc := 116) hx hb dL_law_116 (lv_at hl 8 rfl) ?_
      refine m_callSI (pc := 118) (y := yL_acts) (As := [.ref (b + 0), .int x5, .int x6]) (rest := []) C hK hP hS hl.1 ⟨Nat.le_of_ble_eq_true rfl, Nat.le_of_ble_eq_true rfl⟩ (c_L_acts h) rfl rfl q_529 q_530 q_0 q_531 ⟨rfl, rfl⟩ yd_L_acts ⟨Nat.le_of_ble_eq_true rfl, Nat.le_of_ble_eq_true rfl⟩ (Nat.le_of_ble_eq_true rfl) dL_law_118 (fun r14 M13 H locs h hP hS => ?_)
      refine lv_istore (lv' := [(10, .int r14), (8, .long r12), (7, .int r10), (0, .ref sb), (1, .ref (b + 0)), (2, .ref (b + 276)), (3, .ref (b + 277)), (4, .int x4), (5, .int x5), (6, .int x6)]) (pc := 121) hx hb dL_law_121 hl (by decide) rfl (fun ls hl => ?_)
      refine lv_aload_n (pc := 123) hx hb dL_law_123 rfl (lv_at hl 4 rfl) ?_
      refine m_callSL (pc := 124) (y := yL_told) (As := [.ref (b + 0)]) (rest := []) C hK hP hS hl.1 ⟨Nat.le_of_ble_eq_true rfl, Nat.le_of_ble_eq_true rfl⟩ (c_L_told h) rfl rfl q_437 q_438 q_0 q_439 ⟨rfl, rfl⟩ yd_L_told ⟨Nat.le_of_ble_eq_true rfl, Nat.le_of_ble_eq_true rfl⟩ (Nat.le_of_ble_eq_true rfl) dL_law_124 (fun r16 M15 H locs h hP hS => ?_)
      refine lv_lstore (lv' := [(11, .long r16), (10, .int r14), (8, .long r12), (7, .int r10), (0, .ref sb), (1, .ref (b + 0)), (2, .ref (b + 276)), (3, .ref (b + 277)), (4, .int x4), (5, .int x5), (6, .int x6)]) (pc := 127) hx hb dL_law_127 hl (by decide) rfl (fun ls hl => ?_)
      refine lv_iload (pc := 129) hx hb dL_law_129 (lv_at hl 1 rfl) ?_
      refine lv_if_ge (tgt := 145) (pc := 131) hx hb dL_law_131 (by decide) (fun c131 => ?_) (fun c131 => ?_)
      · replace h := h.1 c131
        refine lv_aload_n (pc := 145) hx hb dL_law_145 rfl (lv_at hl 5 rfl) ?_
        refine lv_bipush (v := 11) (pc := 146) hx hb dL_law_146 (by decide) ?_
        refine m_callVI (pc := 148) (y := yX6_count) (κ := 6) (As := [.int 11]) (rest := []) C hK hP hS hl.1 ⟨Nat.le_of_ble_eq_true rfl, Nat.le_of_ble_eq_true rfl⟩ (c_X6_count h) rfl rfl hk9 (by decide) rfl q_383 q_384 q_385 q_1 q_386 ⟨rfl, rfl⟩ yd_X6_count ⟨Nat.le_of_ble_eq_true rfl, Nat.le_of_ble_eq_true rfl⟩ (Nat.le_of_ble_eq_true rfl) dL_law_148 (fun r18 M17 H locs h hP hS => ?_)
        refine lv_iload (pc := 151) hx hb dL_law_151 (lv_at hl 3 rfl) ?_
        refine lv_iconst (v := 1) (pc := 153) hx hb dL_law_153 (by decide) ?_
        refine lv_iadd (pc := 154) hx hb dL_law_154 ?_
        refine lv_icmp_eq (tgt := 160) (pc := 155) hx hb dL_law_155 (by decide) (fun c155 => ?_) (fun c155 => ?_)
        · replace h := h.1 c155
          obtain ⟨f, h⟩ := h
          exact L160 _ hKk f _ _ _ _ _ _ _ _ _ _ _ h hP hS (lv_sub hl [4, 5, 6, 7, 8, 9, 10, 3, 2, 1, 0] rfl)
        · replace h := h.2 c155
          refine lv_iconst (v := 0) (pc := 158) hx hb dL_law_158 (by decide) ?_
          exact h.elim
      · replace h := h.2 c131
        refine lv_lload (pc := 134) hx hb dL_law_134 (lv_at hl 0 rfl) ?_
        refine lv_lload (pc := 136) hx hb dL_law_136 (lv_at hl 2 rfl) ?_
        refine W.lcmp (pc := 138) hx hb dL_law_138 ?_
        refine lv_if_eq (tgt := 160) (pc := 139) hx hb dL_law_139 (by decide) (fun c139 => ?_) (fun c139 => ?_)
        · replace h := h.1 c139
          obtain ⟨f, h⟩ := h
          exact L160 _ hKk f _ _ _ _ _ _ _ _ _ _ _ h hP hS (lv_sub hl [4, 5, 6, 7, 8, 9, 10, 3, 2, 1, 0] rfl)
        · replace h := h.2 c139
          refine lv_goto (tgt := 158) (pc := 142) hx hb dL_law_142 (by decide) ?_
          refine lv_iconst (v := 0) (pc := 158) hx hb dL_law_158 (by decide) ?_
          exact h.elim
  have L63 : ∀ K_ : Mem → Int32 → Prop, (∀ (M : Mem) (H : Heap) (locs : List Loc) (ls : Array Slot) (x4 : Int32), K_ M x4 → m_H D cA b 278 M H → va_S (m_A b) s.heap H locs → lv_has ls 13 [(0, .ref sb), (1, .ref (b + 0)), (2, .ref (b + 276)), (3, .ref (b + 277)), (4, .int x4)] → W p l e room_1 s m #[Value.ref sb] below meth c H locs 278 (1000 * 278) (lw_Z below #[Value.ref sb] s) (F0 m 20 ls [])) → ∀ f : Nat, ∀ (M : Mem) (H : Heap) (locs : List Loc) (ls : Array Slot) (x4 : Int32) (x5 : Int32) (x6 : Int32) (x7 : Int32), wpL_L_law_63 xs L K_ f M x4 x5 x6 x7 → m_H D cA b 278 M H → va_S (m_A b) s.heap H locs → lv_has ls 13 [(0, .ref sb), (1, .ref (b + 0)), (2, .ref (b + 276)), (3, .ref (b + 277)), (4, .int x4), (5, .int x5), (6, .int x6), (7, .int x7)] → W p l e room_1 s m #[Value.ref sb] below meth c H locs 278 (1000 * 278) (lw_Z below #[Value.ref sb] s) (F0 m 63 ls []) := by
    intro K_ hKk
    intro f
    induction f with
    | zero => intro M H locs ls x4 x5 x6 x7 h; exact h.elim
    | succ f ih =>
      intro M H locs ls x4 x5 x6 x7 h hP hS hl
      have h : wpB_L_law_63 xs L K_ (wpL_L_law_63 xs L K_ f) M x4 x5 x6 x7 := h
      unfold wpB_L_law_63 at h
      refine lv_iload (pc := 63) hx hb dL_law_63 (lv_at hl 7 rfl) ?_
      refine lv_iconst (v := 3) (pc := 65) hx hb dL_law_65 (by decide) ?_
      refine lv_icmp_le (tgt := 99) (pc := 66) hx hb dL_law_66 (by decide) (fun c66 => ?_) (fun c66 => ?_)
      · replace h := h.1 c66
        obtain ⟨f, h⟩ := h
        exact L99 _ hKk f _ _ _ _ _ _ _ h hP hS (lv_sub hl [0, 1, 2, 3, 4, 5, 6] rfl)
      · replace h := h.2 c66
        refine lv_aload_n (pc := 69) hx hb dL_law_69 rfl (lv_at hl 1 rfl) ?_
        obtain ⟨hk41, h⟩ := h
        refine m_callVI (pc := 70) (y := yX6_undo) (κ := 6) (As := []) (rest := []) C hK hP hS hl.1 ⟨Nat.le_of_ble_eq_true rfl, Nat.le_of_ble_eq_true rfl⟩ (c_X6_undo h) rfl rfl hk41 (by decide) rfl q_267 q_268 q_269 q_1 q_270 ⟨rfl, rfl⟩ yd_X6_undo ⟨Nat.le_of_ble_eq_true rfl, Nat.le_of_ble_eq_true rfl⟩ (Nat.le_of_ble_eq_true rfl) dL_law_70 (fun r42 M40 H locs h hP hS => ?_)
        refine lv_pop (pc := 73) hx hb dL_law_73 rfl ?_
        refine lv_aload_n (pc := 74) hx hb dL_law_74 rfl (lv_at hl 2 rfl) ?_
        refine lv_aload_n (pc := 75) hx hb dL_law_75 rfl (lv_at hl 3 rfl) ?_
        refine lv_iload (pc := 76) hx hb dL_law_76 (lv_at hl 7 rfl) ?_
        obtain ⟨hk43, h⟩ := h
        obtain ⟨hi44, h⟩ := h
        refine m_iald (pc := 78) C hK hP hk43 hi44 dL_law_78 ?_
        refine lv_bipush (v := 100) (pc := 79) hx hb dL_law_79 (by decide) ?_
        refine lv_idiv (pc := 81) hx hb dL_law_81 (by decide) ?_
        refine lv_dup2_11 (pc := 82) hx hb dL_law_82 rfl rfl ?_
        obtain ⟨hk45, h⟩ := h
        obtain ⟨hi46, h⟩ := h
        refine m_iald (pc := 83) C hK hP hk45 hi46 dL_law_83 ?_
        refine lv_aload_n (pc := 84) hx hb dL_law_84 rfl (lv_at hl 3 rfl) ?_
        refine lv_iload (pc := 85) hx hb dL_law_85 (lv_at hl 7 rfl) ?_
        obtain ⟨hi47, h⟩ := h
        refine m_iald (pc := 87) C hK hP hk43 hi47 dL_law_87 ?_
        refine lv_bipush (v := 100) (pc := 88) hx hb dL_law_88 (by decide) ?_
        refine lv_irem (pc := 90) hx hb dL_law_90 (by decide) ?_
        refine lv_isub (pc := 91) hx hb dL_law_91 ?_
        obtain ⟨hi48, h⟩ := h
        refine m_iast (pc := 92) C hK hP hS hk45 hi48 dL_law_92 (fun M49 H locs eM49 hP hS => ?_)
        replace h := h M49 eM49
        obtain ⟨v50, ev50⟩ : ∃ y : Int32, y = x7 + (-1) := ⟨_, rfl⟩
        replace h := h v50 ev50
        refine lv_iinc (v := v50) (lv' := [(7, .int v50), (0, .ref sb), (1, .ref (b + 0)), (2, .ref (b + 276)), (3, .ref (b + 277)), (4, .int x4), (5, .int x5), (6, .int x6)]) (pc := 93) hx hb dL_law_93 hl (k := 7) rfl (by rw [ev50]; rfl) (by decide) rfl (fun ls hl => ?_)
        refine lv_goto (tgt := 63) (pc := 96) hx hb dL_law_96 (by decide) ?_
        exact ih _ _ _ _ _ _ _ _ h hP hS (lv_sub hl [1, 2, 3, 4, 5, 6, 7, 0] rfl)
  intro f
  induction f with
  | zero => intro M H locs ls x4 h; exact h.elim
  | succ f ih =>
    intro M H locs ls x4 h hP hS hl
    have h : wpB_L_law_20 xs L (wpL_L_law_20 xs L f) M x4 := h
    unfold wpB_L_law_20 at h
    refine lv_iload (pc := 20) hx hb dL_law_20 (lv_at hl 4 rfl) ?_
    refine lv_bipush (v := 36) (pc := 22) hx hb dL_law_22 (by decide) ?_
    refine lv_icmp_ge (tgt := 271) (pc := 24) hx hb dL_law_24 (by decide) (fun c24 => ?_) (fun c24 => ?_)
    · replace h := h.1 c24
      refine lv_iconst (v := 1) (pc := 271) hx hb dL_law_271 (by decide) ?_
      refine va_forget (fun q hq => by rw [hbs]; exact hS.2.2 q hq) ?_
      refine W.widen (k := 652991) (n := 7142724) (Nat.le_of_ble_eq_true rfl) (Nat.le_of_ble_eq_true rfl) ?_
      exact lw_ret (d0 := s.drawn) (Drawn.sameBut.refl s.drawn lw_cs) hx hb hr hlocks dL_law_272
    · replace h := h.2 c24
      refine lv_aload_n (pc := 27) hx hb dL_law_27 rfl (lv_at hl 0 rfl) ?_
      refine lv_iconst (v := 2) (pc := 28) hx hb dL_law_28 (by decide) ?_
      refine lv_iload (pc := 29) hx hb dL_law_29 (lv_at hl 4 rfl) ?_
      refine lv_imul (pc := 31) hx hb dL_law_31 ?_
      refine m_callSX (pc := 32) (y := yL_cell) (np := 2) (As := [.ref sb, .int (2 * x4)]) (rest := []) C hK hX hbl hbA hP hS hl.1 ⟨Nat.le_of_ble_eq_true rfl, Nat.le_of_ble_eq_true rfl⟩ (c_L_cell hbA h) rfl rfl q_434 q_435 q_0 q_436 ⟨rfl, rfl⟩ yd_L_cell ⟨Nat.le_of_ble_eq_true rfl, Nat.le_of_ble_eq_true rfl⟩ (Nat.le_of_ble_eq_true rfl) dL_law_32 (fun r1 M2 H locs h hP hS => ?_)
      refine lv_istore (lv' := [(5, .int r1), (0, .ref sb), (1, .ref (b + 0)), (2, .ref (b + 276)), (3, .ref (b + 277)), (4, .int x4)]) (pc := 35) hx hb dL_law_35 hl (by decide) rfl (fun ls hl => ?_)
      refine lv_aload_n (pc := 37) hx hb dL_law_37 rfl (lv_at hl 1 rfl) ?_
      refine lv_iconst (v := 2) (pc := 38) hx hb dL_law_38 (by decide) ?_
      refine lv_iload (pc := 39) hx hb dL_law_39 (lv_at hl 5 rfl) ?_
      refine lv_imul (pc := 41) hx hb dL_law_41 ?_
      refine lv_iconst (v := 1) (pc := 42) hx hb dL_law_42 (by decide) ?_
      refine lv_iadd (pc := 43) hx hb dL_law_43 ?_
      refine m_callSX (pc := 44) (y := yL_cell) (np := 2) (As := [.ref sb, .int ((2 * x4) + 1)]) (rest := []) C hK hX hbl hbA hP hS hl.1 ⟨Nat.le_of_ble_eq_true rfl, Nat.le_of_ble_eq_true rfl⟩ (c_L_cell hbA h) rfl rfl q_434 q_435 q_0 q_436 ⟨rfl, rfl⟩ yd_L_cell ⟨Nat.le_of_ble_eq_true rfl, Nat.le_of_ble_eq_true rfl⟩ (Nat.le_of_ble_eq_true rfl) dL_law_44 (fun r3 M4 H locs h hP hS => ?_)
      refine lv_istore (lv' := [(6, .int r3), (5, .int r1), (0, .ref sb), (1, .ref (b + 0)), (2, .ref (b + 276)), (3, .ref (b + 277)), (4, .int x4)]) (pc := 47) hx hb dL_law_47 hl (by decide) rfl (fun ls hl => ?_)
      refine lv_aload_n (pc := 49) hx hb dL_law_49 rfl (lv_at hl 3 rfl) ?_
      refine lv_bipush (v := 11) (pc := 50) hx hb dL_law_50 (by decide) ?_
      obtain ⟨hk6, h⟩ := h
      refine m_callVI (pc := 52) (y := yX6_count) (κ := 6) (As := [.int 11]) (rest := []) C hK hP hS hl.1 ⟨Nat.le_of_ble_eq_true rfl, Nat.le_of_ble_eq_true rfl⟩ (c_X6_count h) rfl rfl hk6 (by decide) rfl q_383 q_384 q_385 q_1 q_386 ⟨rfl, rfl⟩ yd_X6_count ⟨Nat.le_of_ble_eq_true rfl, Nat.le_of_ble_eq_true rfl⟩ (Nat.le_of_ble_eq_true rfl) dL_law_52 (fun r7 M5 H locs h hP hS => ?_)
      refine lv_bipush (v := 6) (pc := 55) hx hb dL_law_55 (by decide) ?_
      refine lv_icmp_ne (tgt := 99) (pc := 57) hx hb dL_law_57 (by decide) (fun c57 => ?_) (fun c57 => ?_)
      · replace h := h.1 c57
        obtain ⟨f, h⟩ := h
        exact L99 _ ih f _ _ _ _ _ _ _ h hP hS (lv_sub hl [2, 3, 4, 5, 6, 1, 0] rfl)
      · replace h := h.2 c57
        refine lv_iconst (v := 5) (pc := 60) hx hb dL_law_60 (by decide) ?_
        refine lv_istore (lv' := [(7, .int 5), (6, .int r3), (5, .int r1), (0, .ref sb), (1, .ref (b + 0)), (2, .ref (b + 276)), (3, .ref (b + 277)), (4, .int x4)]) (pc := 61) hx hb dL_law_61 hl (by decide) rfl (fun ls hl => ?_)
        obtain ⟨f, h⟩ := h
        exact L63 _ ih f _ _ _ _ _ _ _ _ h hP hS (lv_sub hl [3, 4, 5, 6, 7, 2, 1, 0] rfl)
def wp_L_law (xs : Nat → Int32) (L : Nat) (f : Nat) (M : Mem) : Prop := 0 + 1 ≤ 6000 ∧ (m_kd (0 + 0) = 6 ∧ (∀ M1 : Mem, M1 = uN M (0 + 0) → (1 + 275 ≤ 6000 ∧ (wp_X6_init (0 + 1) M1 ((0 + 0)) (fun M3 => 276 + 1 ≤ 6000 ∧ (m_kd (0 + 276) = 8 ∧ m_len (0 + 276) = 4 ∧ (∀ M5 : Mem, M5 = uN M3 (0 + 276) → (277 + 1 ≤ 6000 ∧ (m_kd (0 + 277) = 8 ∧ m_len (0 + 277) = 8 ∧ (∀ M7 : Mem, M7 = uN M5 (0 + 277) → (wpL_L_law_20 xs L f M7 0)))))))))))
set_option maxHeartbeats 16000000 in
set_option maxRecDepth 100000 in
theorem law_start {p : Program} {l : Launch} {e : Env} {s : State} {m : MethodId} {below : List Frame} {meth : Method} {c : Code} {D : va_G} {cA : Nat → ClassId} {b sb L : Nat} {xs : Nat → Int32} (C0 : lw_At p s m meth c sb L xs) (hbs : s.heap.size = b) (hK : m_K D cA s) (hY : m_Y s) {f : Nat} {M : Mem} (h : wp_L_law xs L f M) (ls : Array Slot) (hl : lv_has ls 13 [(0, .ref sb)]) : W p l e room_1 s m #[Value.ref sb] below meth c s.heap [] 0 0 (lw_Z below #[Value.ref sb] s) (F0 m 0 ls []) := by
  have L20 := law_loop (l := l) (e := e) (m := m) (below := below) C0 hbs hK
  obtain ⟨hx, hb, hr, hml, hown, hts, hX, hbl, hlocks, hgv⟩ := C0
  have hbA : ¬ m_A b sb := by
    show ¬ b ≤ sb
    omega
  have C : CallFix p m c cL_law 13 s #[Value.ref sb] lw_T RL := ⟨hx, hb, hml, hown, fun w hw => hts w (List.mem_filter.mp hw).1⟩
  have hB : s.heap.size = b + 0 := hbs
  have hS : va_S (m_A b) s.heap s.heap [] := va_S.rf
  have hP : m_H D cA b (0 + 0) M s.heap := ⟨fun k q h => by simp [m_ws] at h, by omega⟩
  show W p l e room_1 s m #[Value.ref sb] below meth c s.heap [] 0 (1000 * 0) (lw_Z below #[Value.ref sb] s) (F0 m 0 ls [])
  unfold wp_L_law at h
  obtain ⟨hk2, hkd, h⟩ := h
  refine m_newoN (pc := 0) (k := 0) (k' := 1) (κ := 6) C hK hP hS hB rfl hkd (by decide) rfl inT6 tyX6_ok (by decide) q_15 q_16 q_1 ⟨Nat.le_trans hk2 (Nat.le_of_ble_eq_true rfl), Nat.le_trans (Nat.mul_le_mul_left 1000 hk2) (Nat.le_of_ble_eq_true rfl)⟩ (Nat.le_of_ble_eq_true rfl) dL_law_0 (fun M1 H locs eM1 hP hS => ?_)
  replace h := h M1 eM1
  refine lv_dup (pc := 3) hx hb dL_law_3 rfl ?_
  obtain ⟨hk4, h⟩ := h
  refine m_callNN (pc := 4) (y := yX6_init) (k := 1) (kc := 275) (k' := 276) (As := []) (rest := [.ref (b + (0 + 0))]) C hK hY hP hS hB hl.1 ⟨Nat.le_trans hk4 (Nat.le_of_ble_eq_true rfl), Nat.le_trans (Nat.mul_le_mul_left 1000 hk4) (Nat.le_of_ble_eq_true rfl)⟩ rfl (c_X6_init h) rfl rfl q_17 q_18 rfl q_1 q_19 ⟨rfl, rfl⟩ yd_X6_init ⟨Nat.le_of_ble_eq_true rfl, Nat.le_of_ble_eq_true rfl⟩ (Nat.le_of_ble_eq_true rfl) dL_law_4 (fun M3 H locs h hP hS => ?_)
  refine lv_astore_n (lv' := [(1, .ref (b + (0 + 0))), (0, .ref sb)]) (pc := 7) hx hb dL_law_7 rfl hl (by decide) rfl (fun ls hl => ?_)
  refine lv_iconst (v := 4) (pc := 8) hx hb dL_law_8 (by decide) ?_
  obtain ⟨hk6, ⟨hkd, hln, h⟩⟩ := h
  refine m_newarrN (pc := 9) (k := 276) (k' := 277) (κ := 8) (N := 4) (ty := .int) C hK hP hS hB rfl hkd (by decide) rfl rfl (fun _ => rfl) m_cell8 hln (by decide +kernel) (by decide) q_705 ⟨Nat.le_trans hk6 (Nat.le_of_ble_eq_true rfl), Nat.le_trans (Nat.mul_le_mul_left 1000 hk6) (Nat.le_of_ble_eq_true rfl)⟩ (Nat.le_of_ble_eq_true rfl) dL_law_9 (fun M5 H locs eM5 hP hS => ?_)
  replace h := h M5 eM5
  refine lv_astore_n (lv' := [(2, .ref (b + (0 + 276))), (1, .ref (b + (0 + 0))), (0, .ref sb)]) (pc := 11) hx hb dL_law_11 rfl hl (by decide) rfl (fun ls hl => ?_)
  refine lv_bipush (v := 8) (pc := 12) hx hb dL_law_12 (by decide) ?_
  obtain ⟨hk8, ⟨hkd, hln, h⟩⟩ := h
  refine m_newarrN (pc := 14) (k := 277) (k' := 278) (κ := 8) (N := 8) (ty := .int) C hK hP hS hB rfl hkd (by decide) rfl rfl (fun _ => rfl) m_cell8 hln (by decide +kernel) (by decide) q_705 ⟨Nat.le_trans hk8 (Nat.le_of_ble_eq_true rfl), Nat.le_trans (Nat.mul_le_mul_left 1000 hk8) (Nat.le_of_ble_eq_true rfl)⟩ (Nat.le_of_ble_eq_true rfl) dL_law_14 (fun M7 H locs eM7 hP hS => ?_)
  replace h := h M7 eM7
  refine lv_astore_n (lv' := [(3, .ref (b + (0 + 277))), (2, .ref (b + (0 + 276))), (1, .ref (b + (0 + 0))), (0, .ref sb)]) (pc := 16) hx hb dL_law_16 rfl hl (by decide) rfl (fun ls hl => ?_)
  refine lv_iconst (v := 0) (pc := 17) hx hb dL_law_17 (by decide) ?_
  refine lv_istore (lv' := [(4, .int 0), (3, .ref (b + (0 + 277))), (2, .ref (b + (0 + 276))), (1, .ref (b + (0 + 0))), (0, .ref sb)]) (pc := 18) hx hb dL_law_18 hl (by decide) rfl (fun ls hl => ?_)
  exact L20 f _ _ _ _ _ h hP hS (lv_sub hl [4, 3, 2, 1, 0] rfl)
