/-! java/lang/Double.isNaN -/
def wp_Jxe99ae_isNaN_b9ae7 (n : Nat) (M : Mem) (p1 : UInt64) (P : Bool → Mem → Prop) : Prop := P (if (Op.cmpValue (FP.dcmp p1 p1) .l) = 0 then false else true) M
abbrev rm_Jxe99ae_isNaN_b9ae7 : Room := { frames := 0, cells := 0, slots := 0, locals := 0 }
set_option maxHeartbeats 4000000 in
set_option maxRecDepth 100000 in
theorem c_Jxe99ae_isNaN_b9ae7 {l : Launch} {D : va_G} {cA : Nat → ClassId} {b n : Nat} {M : Mem} {p1 : UInt64} {P : Bool → Mem → Prop} (h : wp_Jxe99ae_isNaN_b9ae7 n M p1 P) : m_C l D cA b n n M yJxe99ae_isNaN_b9ae7 cJxe99ae_isNaN_b9ae7 2 (some .boolean) rm_Jxe99ae_isNaN_b9ae7 0 0 [.double p1] (rZ P) := by
  refine m_enter (by decide) (Nat.le_of_ble_eq_true rfl) (fun p e s m below meth c C hr hlk hnm hK hP hS ls hl => ?_)
  have hx := C.1
  have hb := C.2.1
  have hl : lv_has ls 2 [(0, .double p1)] := hl
  unfold wp_Jxe99ae_isNaN_b9ae7 at h
  refine lv_dload_n (pc := 0) hx hb dJxe99ae_isNaN_b9ae7_0 rfl (lv_at hl 0 rfl) ?_
  refine lv_dload_n (pc := 1) hx hb dJxe99ae_isNaN_b9ae7_1 rfl (lv_at hl 0 rfl) ?_
  refine lv_dcmp (pc := 2) hx hb dJxe99ae_isNaN_b9ae7_2 ?_
  refine m_joinZ (z := if (Op.cmpValue (FP.dcmp p1 p1) .l) = 0 then false else true) (jp := 11) (rest := []) ?_ (fun hJ => ?_)
  rotate_left
  · skip
    refine lv_if_eq (tgt := 10) (pc := 3) hx hb dJxe99ae_isNaN_b9ae7_3 (by decide) (fun c3 => ?_) (fun c3 => ?_)
    · skip
      refine lv_iconst (v := 0) (pc := 10) hx hb dJxe99ae_isNaN_b9ae7_10 (by decide) ?_
      exact hJ _ false rfl (by rw [if_pos c3])
    · skip
      refine lv_iconst (v := 1) (pc := 6) hx hb dJxe99ae_isNaN_b9ae7_6 (by decide) ?_
      refine lv_goto (tgt := 11) (pc := 7) hx hb dJxe99ae_isNaN_b9ae7_7 (by decide) ?_
      exact hJ _ true rfl (by rw [if_neg c3])
  exact m_zret (v := if (Op.cmpValue (FP.dcmp p1 p1) .l) = 0 then false else true) (pc := 11) C hr hlk hP hS dJxe99ae_isNaN_b9ae7_11 h
/-! java/lang/Double.doubleToLongBits -/
def wp_Jxe99ae_doubleToLongBits_ccdee (n : Nat) (M : Mem) (p1 : UInt64) (P : Int64 → Mem → Prop) : Prop := wp_Jxe99ae_isNaN_b9ae7 n M p1 (fun z2 M1 => ((z2 = true → P 9221120237041090560 M1) ∧ (z2 = false → P ((p1).toInt64) M1)))
abbrev rm_Jxe99ae_doubleToLongBits_ccdee : Room := { frames := 1, cells := 0, slots := 0, locals := 24 }
set_option maxHeartbeats 4000000 in
set_option maxRecDepth 100000 in
theorem c_Jxe99ae_doubleToLongBits_ccdee {l : Launch} {D : va_G} {cA : Nat → ClassId} {b n : Nat} {M : Mem} {p1 : UInt64} {P : Int64 → Mem → Prop} (h : wp_Jxe99ae_doubleToLongBits_ccdee n M p1 P) : m_C l D cA b n n M yJxe99ae_doubleToLongBits_ccdee cJxe99ae_doubleToLongBits_ccdee 2 (some .long) rm_Jxe99ae_doubleToLongBits_ccdee 0 0 [.double p1] (rL P) := by
  refine m_enter (by decide) (Nat.le_of_ble_eq_true rfl) (fun p e s m below meth c C hr hlk hnm hK hP hS ls hl => ?_)
  have hx := C.1
  have hb := C.2.1
  have hl : lv_has ls 2 [(0, .double p1)] := hl
  unfold wp_Jxe99ae_doubleToLongBits_ccdee at h
  refine lv_dload_n (pc := 0) hx hb dJxe99ae_doubleToLongBits_ccdee_0 rfl (lv_at hl 0 rfl) ?_
  refine m_callSZ (pc := 1) (y := yJxe99ae_isNaN_b9ae7) (As := [.double p1]) (rest := []) C hK hP hS hl.1 ⟨Nat.zero_le _, Nat.zero_le _⟩ (c_Jxe99ae_isNaN_b9ae7 h) rfl rfl q_1316 q_1317 q_16 q_1318 ⟨rfl, rfl⟩ yd_Jxe99ae_isNaN_b9ae7 ⟨Nat.le_of_ble_eq_true rfl, Nat.le_of_ble_eq_true rfl⟩ (Nat.le_of_ble_eq_true rfl) dJxe99ae_doubleToLongBits_ccdee_1 (fun z2 M1 H locs h hP hS => ?_)
  refine lv_if_ne (tgt := 12) (pc := 4) hx hb dJxe99ae_doubleToLongBits_ccdee_4 (by decide) (fun c4 => ?_) (fun c4 => ?_)
  · replace h := h.1 (bZ1 c4)
    refine lv_ldc2 (pc := 12) (v := 9221120237041090560) hx hb C.2.2.2.1 (C.2.2.2.2 _ q_1322) dJxe99ae_doubleToLongBits_ccdee_12 ?_
    exact m_lret (v := 9221120237041090560) (pc := 15) C hr hlk hP hS dJxe99ae_doubleToLongBits_ccdee_15 h
  · replace h := h.2 (bZ0 c4)
    refine lv_dload_n (pc := 7) hx hb dJxe99ae_doubleToLongBits_ccdee_7 rfl (lv_at hl 0 rfl) ?_
    refine vn_d2l (pc := 8) hx hb (C.2.2.1.trans hl.1.symm) C.2.2.2.1 (C.2.2.2.2 _ q_1319) (C.2.2.2.2 _ q_1321) (C.2.2.2.2 _ q_1320) (C.2.2.2.2 _ q_16) (Nat.le_of_ble_eq_true rfl) (Nat.le_of_ble_eq_true rfl) dJxe99ae_doubleToLongBits_ccdee_8 ?_
    exact m_lret (v := (p1).toInt64) (pc := 11) C hr hlk hP hS dJxe99ae_doubleToLongBits_ccdee_11 h
/-! ForgeHeatsModel.digest -/
def wpB_X7_digest_192 (n : Nat) (P : Int64 → Mem → Prop) (R_ : Mem → Nat → Int32 → Prop) (M : Mem) (x0 : Nat) (x1 : Int32) : Prop := m_tp n x0 7 ∧ ((((M.1 x0 6) ≤ x1 → P (M.2.2 x0 11) M) ∧ (¬ (M.1 x0 6) ≤ x1 → ∃ j24 : Nat, M.2.1 x0 5 = some j24 ∧ (m_tp n j24 8 ∧ (vp_in x1 (m_len j24) ∧ (wp_X7_hashes n M x0 ((M.1 j24 x1.toNatClampNeg).toInt64) (fun M27 => ∀ v29 : Int32, v29 = x1 + 1 → (R_ M27 x0 v29))))))))
def wpL_X7_digest_192 (n : Nat) (P : Int64 → Mem → Prop) : Nat → Mem → Nat → Int32 → Prop
  | 0 => fun _ _ _ => False
  | f + 1 => fun M x0 x1 => wpB_X7_digest_192 n P (wpL_X7_digest_192 n P f) M x0 x1
def wpB_X7_digest_136 (n : Nat) (P : Int64 → Mem → Prop) (R_ : Mem → Nat → Int32 → Prop) (M : Mem) (x0 : Nat) (x1 : Int32) : Prop := ((5 ≤ x1 → m_tp n x0 7 ∧ (wp_X7_reheatsFor n M x0 40 (fun r12 M10 => wp_X7_hashes n M10 x0 ((r12).toInt64) (fun M13 => wp_X7_saved n M13 x0 (fun r16 M15 => wp_Jxe99ae_doubleToLongBits_ccdee n M15 r16 (fun r18 M17 => wp_X7_hashes n M17 x0 r18 (fun M19 => wp_X7_hashes n M19 x0 ((M19.1 x0 6).toInt64) (fun M21 => ∃ f : Nat, wpL_X7_digest_192 n P f M21 x0 0)))))))) ∧ (¬ 5 ≤ x1 → m_tp n x0 7 ∧ (wp_X7_passed n M x0 30 x1 (fun r32 M30 => wp_X7_hashes n M30 x0 ((r32).toInt64) (fun M33 => ∀ v35 : Int32, v35 = x1 + 1 → (R_ M33 x0 v35))))))
def wpL_X7_digest_136 (n : Nat) (P : Int64 → Mem → Prop) : Nat → Mem → Nat → Int32 → Prop
  | 0 => fun _ _ _ => False
  | f + 1 => fun M x0 x1 => wpB_X7_digest_136 n P (wpL_X7_digest_136 n P f) M x0 x1
def wpB_X7_digest_73 (n : Nat) (P : Int64 → Mem → Prop) (K_ : Mem → Nat → Int32 → Prop) (R_ : Mem → Nat → Int32 → Int32 → Prop) (M : Mem) (x0 : Nat) (x1 : Int32) (x2 : Int32) : Prop := ((8 ≤ x2 → m_tp n x0 7 ∧ (wp_X7_jobAt n M x0 x1 (fun r38 M36 => wp_X7_job0 n M36 x0 r38 0 (fun r40 M39 => wp_X7_untilGone n M39 x0 r40 false (fun r42 M41 => wp_X7_hashes n M41 x0 ((r42).toInt64) (fun M43 => wp_X7_earlier n M43 x0 r40 (fun r46 M45 => wp_X7_hashes n M45 x0 ((r46).toInt64) (fun M47 => ∀ v49 : Int32, v49 = x1 + 1 → (K_ M47 x0 v49))))))))) ∧ (¬ 8 ≤ x2 → m_tp n x0 7 ∧ (wp_X7_tellsJob n M x0 x1 x2 (fun r52 M50 => wp_X7_hashes n M50 x0 ((r52).toInt64) (fun M53 => ∀ v55 : Int32, v55 = x2 + 1 → (R_ M53 x0 x1 v55))))))
def wpL_X7_digest_73 (n : Nat) (P : Int64 → Mem → Prop) (K_ : Mem → Nat → Int32 → Prop) : Nat → Mem → Nat → Int32 → Int32 → Prop
  | 0 => fun _ _ _ _ => False
  | f + 1 => fun M x0 x1 x2 => wpB_X7_digest_73 n P K_ (wpL_X7_digest_73 n P K_ f) M x0 x1 x2
def wpB_X7_digest_61 (n : Nat) (P : Int64 → Mem → Prop) (R_ : Mem → Nat → Int32 → Prop) (M : Mem) (x0 : Nat) (x1 : Int32) : Prop := m_tp n x0 7 ∧ (∃ j7 : Nat, M.2.1 x0 1 = some j7 ∧ (m_tp n j7 8 ∧ (vp_in 5 (m_len j7) ∧ ((((M.1 j7 (5 : Int32).toNatClampNeg) ≤ x1 → ∃ f : Nat, wpL_X7_digest_136 n P f M x0 0) ∧ (¬ (M.1 j7 (5 : Int32).toNatClampNeg) ≤ x1 → ∃ f : Nat, wpL_X7_digest_73 n P R_ f M x0 x1 0))))))
def wpL_X7_digest_61 (n : Nat) (P : Int64 → Mem → Prop) : Nat → Mem → Nat → Int32 → Prop
  | 0 => fun _ _ _ => False
  | f + 1 => fun M x0 x1 => wpB_X7_digest_61 n P (wpL_X7_digest_61 n P f) M x0 x1
def wpB_X7_digest_33 (n : Nat) (P : Int64 → Mem → Prop) (R_ : Mem → Nat → Int32 → Prop) (M : Mem) (x0 : Nat) (x1 : Int32) : Prop := ((4 ≤ x1 → m_tp n x0 7 ∧ (wp_X7_hashesShop n M x0 (fun M3 => ∃ f : Nat, wpL_X7_digest_61 n P f M3 x0 0))) ∧ (¬ 4 ≤ x1 → m_tp n x0 7 ∧ (∃ j57 : Nat, M.2.1 x0 1 = some j57 ∧ (m_tp n j57 8 ∧ (vp_in x1 (m_len j57) ∧ (wp_X7_hashes n M x0 ((M.1 j57 x1.toNatClampNeg).toInt64) (fun M60 => ∀ v62 : Int32, v62 = x1 + 1 → (R_ M60 x0 v62))))))))
def wpL_X7_digest_33 (n : Nat) (P : Int64 → Mem → Prop) : Nat → Mem → Nat → Int32 → Prop
  | 0 => fun _ _ _ => False
  | f + 1 => fun M x0 x1 => wpB_X7_digest_33 n P (wpL_X7_digest_33 n P f) M x0 x1
def wpB_X7_digest_9 (n : Nat) (P : Int64 → Mem → Prop) (R_ : Mem → Nat → Int32 → Prop) (M : Mem) (x0 : Nat) (x1 : Int32) : Prop := ((12 ≤ x1 → ∃ f : Nat, wpL_X7_digest_33 n P f M x0 0) ∧ (¬ 12 ≤ x1 → m_tp n x0 7 ∧ (wp_X7_counts n M x0 x1 (fun r65 M63 => wp_X7_hashes n M63 x0 ((r65).toInt64) (fun M66 => ∀ v68 : Int32, v68 = x1 + 1 → (R_ M66 x0 v68))))))
def wpL_X7_digest_9 (n : Nat) (P : Int64 → Mem → Prop) : Nat → Mem → Nat → Int32 → Prop
  | 0 => fun _ _ _ => False
  | f + 1 => fun M x0 x1 => wpB_X7_digest_9 n P (wpL_X7_digest_9 n P f) M x0 x1
def wp_X7_digest (n : Nat) (M : Mem) (i : Nat) (P : Int64 → Mem → Prop) : Prop := m_tp n i 7 ∧ (∀ M2 : Mem, M2 = uL M i 11 2857 → (∃ f : Nat, wpL_X7_digest_9 n P f M2 i 0))
abbrev rm_X7_digest : Room := { frames := 10, cells := 0, slots := 0, locals := 235 }
set_option maxHeartbeats 4000000 in
set_option maxRecDepth 100000 in
theorem c_X7_digest {l : Launch} {D : va_G} {cA : Nat → ClassId} {b n : Nat} {M : Mem} {i : Nat} {P : Int64 → Mem → Prop} (h : wp_X7_digest n M i P) : m_C l D cA b n n M yX7_digest cX7_digest 3 (some .long) rm_X7_digest 0 0 [.ref (b + i)] (rL P) := by
  refine m_enter (by decide) (Nat.le_of_ble_eq_true rfl) (fun p e s m below meth c C hr hlk hnm hK hP hS ls hl => ?_)
  have hx := C.1
  have hb := C.2.1
  have hl : lv_has ls 3 [(0, .ref (b + i))] := hl
  have L192 : ∀ f : Nat, ∀ (M : Mem) (H : Heap) (locs : List Loc) (ls : Array Slot) (x0 : Nat) (x1 : Int32), wpL_X7_digest_192 n P f M x0 x1 → m_H D cA b n M H → va_S (m_A b) s.heap H locs → lv_has ls 3 [(0, .ref (b + x0)), (1, .int x1)] → W p l e rm_X7_digest s m ([.ref (b + i)] : List Value).toArray below meth c H locs 0 0 (MQ below (m_Q D cA b n (rL P)) ([.ref (b + i)] : List Value).toArray s 0 0 (m_A b)) (F0 m 192 ls []) := by
    clear h
    intro f
    induction f with
    | zero => intro M H locs ls x0 x1 h; exact h.elim
    | succ f ih =>
      intro M H locs ls x0 x1 h hP hS hl
      have h : wpB_X7_digest_192 n P (wpL_X7_digest_192 n P f) M x0 x1 := h
      unfold wpB_X7_digest_192 at h
      refine lv_iload_n (pc := 192) hx hb dX7_digest_192 rfl (lv_at hl 1 rfl) ?_
      refine lv_aload_n (pc := 193) hx hb dX7_digest_193 rfl (lv_at hl 0 rfl) ?_
      obtain ⟨hk23, h⟩ := h
      refine gX7_157 (pc := 194) C hK hP hk23 dX7_digest_194 ?_
      refine lv_icmp_ge (tgt := 217) (pc := 197) hx hb dX7_digest_197 (by decide) (fun c197 => ?_) (fun c197 => ?_)
      · replace h := h.1 c197
        refine lv_aload_n (pc := 217) hx hb dX7_digest_217 rfl (lv_at hl 0 rfl) ?_
        refine gX7_236 (pc := 218) C hK hP hk23 dX7_digest_218 ?_
        exact m_lret (v := M.2.2 x0 11) (pc := 221) C hr hlk hP hS dX7_digest_221 h
      · replace h := h.2 c197
        refine lv_aload_n (pc := 200) hx hb dX7_digest_200 rfl (lv_at hl 0 rfl) ?_
        refine lv_aload_n (pc := 201) hx hb dX7_digest_201 rfl (lv_at hl 0 rfl) ?_
        obtain ⟨j24, hj24, h⟩ := h
        refine gX7_19 (pc := 202) C hK hP hk23 hj24 dX7_digest_202 ?_
        refine lv_iload_n (pc := 205) hx hb dX7_digest_205 rfl (lv_at hl 1 rfl) ?_
        obtain ⟨hk25, h⟩ := h
        obtain ⟨hi26, h⟩ := h
        refine m_iald (pc := 206) C hK hP hk25 hi26 dX7_digest_206 ?_
        refine lv_i2l (pc := 207) hx hb dX7_digest_207 rfl ?_
        refine m_callVV (pc := 208) (y := yX7_hashes) (κ := 7) (As := [.long ((M.1 j24 x1.toNatClampNeg).toInt64)]) (rest := []) C hK hP hS hl.1 ⟨Nat.zero_le _, Nat.zero_le _⟩ (c_X7_hashes h) rfl rfl hk23 (by decide) rfl q_1303 q_1305 q_s90 q_8 q_1306 ⟨rfl, rfl⟩ yd_X7_hashes ⟨Nat.le_of_ble_eq_true rfl, Nat.le_of_ble_eq_true rfl⟩ (Nat.le_of_ble_eq_true rfl) dX7_digest_208 (fun M27 H locs h hP hS => ?_)
        obtain ⟨v29, ev29⟩ : ∃ y : Int32, y = x1 + 1 := ⟨_, rfl⟩
        replace h := h v29 ev29
        refine lv_iinc (v := v29) (lv' := [(1, .int v29), (0, .ref (b + x0))]) (pc := 211) hx hb dX7_digest_211 hl (k := 1) rfl (by rw [ev29]; rfl) (by decide) rfl (fun ls hl => ?_)
        refine lv_goto (tgt := 192) (pc := 214) hx hb dX7_digest_214 (by decide) ?_
        exact ih _ _ _ _ _ _ h hP hS (lv_sub hl [1, 0] rfl)
  have L136 : ∀ f : Nat, ∀ (M : Mem) (H : Heap) (locs : List Loc) (ls : Array Slot) (x0 : Nat) (x1 : Int32), wpL_X7_digest_136 n P f M x0 x1 → m_H D cA b n M H → va_S (m_A b) s.heap H locs → lv_has ls 3 [(0, .ref (b + x0)), (1, .int x1)] → W p l e rm_X7_digest s m ([.ref (b + i)] : List Value).toArray below meth c H locs 0 0 (MQ below (m_Q D cA b n (rL P)) ([.ref (b + i)] : List Value).toArray s 0 0 (m_A b)) (F0 m 136 ls []) := by
    clear h
    intro f
    induction f with
    | zero => intro M H locs ls x0 x1 h; exact h.elim
    | succ f ih =>
      intro M H locs ls x0 x1 h hP hS hl
      have h : wpB_X7_digest_136 n P (wpL_X7_digest_136 n P f) M x0 x1 := h
      unfold wpB_X7_digest_136 at h
      refine lv_iload_n (pc := 136) hx hb dX7_digest_136 rfl (lv_at hl 1 rfl) ?_
      refine lv_iconst (v := 5) (pc := 137) hx hb dX7_digest_137 (by decide) ?_
      refine lv_icmp_ge (tgt := 159) (pc := 138) hx hb dX7_digest_138 (by decide) (fun c138 => ?_) (fun c138 => ?_)
      · replace h := h.1 c138
        refine lv_aload_n (pc := 159) hx hb dX7_digest_159 rfl (lv_at hl 0 rfl) ?_
        refine lv_aload_n (pc := 160) hx hb dX7_digest_160 rfl (lv_at hl 0 rfl) ?_
        refine lv_bipush (v := 40) (pc := 161) hx hb dX7_digest_161 (by decide) ?_
        obtain ⟨hk11, h⟩ := h
        refine m_callVI (pc := 163) (y := yX7_reheatsFor) (κ := 7) (As := [.int 40]) (rest := [.ref (b + x0)]) C hK hP hS hl.1 ⟨Nat.zero_le _, Nat.zero_le _⟩ (c_X7_reheatsFor h) rfl rfl hk11 (by decide) rfl q_1290 q_1292 q_s89 q_8 q_1293 ⟨rfl, rfl⟩ yd_X7_reheatsFor ⟨Nat.le_of_ble_eq_true rfl, Nat.le_of_ble_eq_true rfl⟩ (Nat.le_of_ble_eq_true rfl) dX7_digest_163 (fun r12 M10 H locs h hP hS => ?_)
        refine lv_i2l (pc := 166) hx hb dX7_digest_166 rfl ?_
        refine m_callVV (pc := 167) (y := yX7_hashes) (κ := 7) (As := [.long ((r12).toInt64)]) (rest := []) C hK hP hS hl.1 ⟨Nat.zero_le _, Nat.zero_le _⟩ (c_X7_hashes h) rfl rfl hk11 (by decide) rfl q_1303 q_1305 q_s90 q_8 q_1306 ⟨rfl, rfl⟩ yd_X7_hashes ⟨Nat.le_of_ble_eq_true rfl, Nat.le_of_ble_eq_true rfl⟩ (Nat.le_of_ble_eq_true rfl) dX7_digest_167 (fun M13 H locs h hP hS => ?_)
        refine lv_aload_n (pc := 170) hx hb dX7_digest_170 rfl (lv_at hl 0 rfl) ?_
        refine lv_aload_n (pc := 171) hx hb dX7_digest_171 rfl (lv_at hl 0 rfl) ?_
        refine m_callVD (pc := 172) (y := yX7_saved) (κ := 7) (As := []) (rest := [.ref (b + x0)]) C hK hP hS hl.1 ⟨Nat.zero_le _, Nat.zero_le _⟩ (c_X7_saved h) rfl rfl hk11 (by decide) rfl q_1312 q_1295 q_1296 q_8 q_1297 ⟨rfl, rfl⟩ yd_X7_saved ⟨Nat.le_of_ble_eq_true rfl, Nat.le_of_ble_eq_true rfl⟩ (Nat.le_of_ble_eq_true rfl) dX7_digest_172 (fun r16 M15 H locs h hP hS => ?_)
        refine m_callSL (pc := 175) (y := yJxe99ae_doubleToLongBits_ccdee) (As := [.double r16]) (rest := [.ref (b + x0)]) C hK hP hS hl.1 ⟨Nat.zero_le _, Nat.zero_le _⟩ (c_Jxe99ae_doubleToLongBits_ccdee h) rfl rfl q_1313 q_1314 q_16 q_1315 ⟨rfl, rfl⟩ yd_Jxe99ae_doubleToLongBits_ccdee ⟨Nat.le_of_ble_eq_true rfl, Nat.le_of_ble_eq_true rfl⟩ (Nat.le_of_ble_eq_true rfl) dX7_digest_175 (fun r18 M17 H locs h hP hS => ?_)
        refine m_callVV (pc := 178) (y := yX7_hashes) (κ := 7) (As := [.long r18]) (rest := []) C hK hP hS hl.1 ⟨Nat.zero_le _, Nat.zero_le _⟩ (c_X7_hashes h) rfl rfl hk11 (by decide) rfl q_1303 q_1305 q_s90 q_8 q_1306 ⟨rfl, rfl⟩ yd_X7_hashes ⟨Nat.le_of_ble_eq_true rfl, Nat.le_of_ble_eq_true rfl⟩ (Nat.le_of_ble_eq_true rfl) dX7_digest_178 (fun M19 H locs h hP hS => ?_)
        refine lv_aload_n (pc := 181) hx hb dX7_digest_181 rfl (lv_at hl 0 rfl) ?_
        refine lv_aload_n (pc := 182) hx hb dX7_digest_182 rfl (lv_at hl 0 rfl) ?_
        refine gX7_157 (pc := 183) C hK hP hk11 dX7_digest_183 ?_
        refine lv_i2l (pc := 186) hx hb dX7_digest_186 rfl ?_
        refine m_callVV (pc := 187) (y := yX7_hashes) (κ := 7) (As := [.long ((M19.1 x0 6).toInt64)]) (rest := []) C hK hP hS hl.1 ⟨Nat.zero_le _, Nat.zero_le _⟩ (c_X7_hashes h) rfl rfl hk11 (by decide) rfl q_1303 q_1305 q_s90 q_8 q_1306 ⟨rfl, rfl⟩ yd_X7_hashes ⟨Nat.le_of_ble_eq_true rfl, Nat.le_of_ble_eq_true rfl⟩ (Nat.le_of_ble_eq_true rfl) dX7_digest_187 (fun M21 H locs h hP hS => ?_)
        refine lv_iconst (v := 0) (pc := 190) hx hb dX7_digest_190 (by decide) ?_
        refine lv_istore_n (lv' := [(1, .int 0), (0, .ref (b + x0))]) (pc := 191) hx hb dX7_digest_191 rfl hl (by decide) rfl (fun ls hl => ?_)
        obtain ⟨f, h⟩ := h
        exact L192 f _ _ _ _ _ _ h hP hS (lv_sub hl [1, 0] rfl)
      · replace h := h.2 c138
        refine lv_aload_n (pc := 141) hx hb dX7_digest_141 rfl (lv_at hl 0 rfl) ?_
        refine lv_aload_n (pc := 142) hx hb dX7_digest_142 rfl (lv_at hl 0 rfl) ?_
        refine lv_bipush (v := 30) (pc := 143) hx hb dX7_digest_143 (by decide) ?_
        refine lv_iload_n (pc := 145) hx hb dX7_digest_145 rfl (lv_at hl 1 rfl) ?_
        obtain ⟨hk31, h⟩ := h
        refine m_callVI (pc := 146) (y := yX7_passed) (κ := 7) (As := [.int 30, .int x1]) (rest := [.ref (b + x0)]) C hK hP hS hl.1 ⟨Nat.zero_le _, Nat.zero_le _⟩ (c_X7_passed h) rfl rfl hk31 (by decide) rfl q_1258 q_1260 q_s84 q_8 q_1261 ⟨rfl, rfl⟩ yd_X7_passed ⟨Nat.le_of_ble_eq_true rfl, Nat.le_of_ble_eq_true rfl⟩ (Nat.le_of_ble_eq_true rfl) dX7_digest_146 (fun r32 M30 H locs h hP hS => ?_)
        refine lv_i2l (pc := 149) hx hb dX7_digest_149 rfl ?_
        refine m_callVV (pc := 150) (y := yX7_hashes) (κ := 7) (As := [.long ((r32).toInt64)]) (rest := []) C hK hP hS hl.1 ⟨Nat.zero_le _, Nat.zero_le _⟩ (c_X7_hashes h) rfl rfl hk31 (by decide) rfl q_1303 q_1305 q_s90 q_8 q_1306 ⟨rfl, rfl⟩ yd_X7_hashes ⟨Nat.le_of_ble_eq_true rfl, Nat.le_of_ble_eq_true rfl⟩ (Nat.le_of_ble_eq_true rfl) dX7_digest_150 (fun M33 H locs h hP hS => ?_)
        obtain ⟨v35, ev35⟩ : ∃ y : Int32, y = x1 + 1 := ⟨_, rfl⟩
        replace h := h v35 ev35
        refine lv_iinc (v := v35) (lv' := [(1, .int v35), (0, .ref (b + x0))]) (pc := 153) hx hb dX7_digest_153 hl (k := 1) rfl (by rw [ev35]; rfl) (by decide) rfl (fun ls hl => ?_)
        refine lv_goto (tgt := 136) (pc := 156) hx hb dX7_digest_156 (by decide) ?_
        exact ih _ _ _ _ _ _ h hP hS (lv_sub hl [1, 0] rfl)
  have L73 : ∀ K_ : Mem → Nat → Int32 → Prop, (∀ (M : Mem) (H : Heap) (locs : List Loc) (ls : Array Slot) (x0 : Nat) (x1 : Int32), K_ M x0 x1 → m_H D cA b n M H → va_S (m_A b) s.heap H locs → lv_has ls 3 [(0, .ref (b + x0)), (1, .int x1)] → W p l e rm_X7_digest s m ([.ref (b + i)] : List Value).toArray below meth c H locs 0 0 (MQ below (m_Q D cA b n (rL P)) ([.ref (b + i)] : List Value).toArray s 0 0 (m_A b)) (F0 m 61 ls [])) → ∀ f : Nat, ∀ (M : Mem) (H : Heap) (locs : List Loc) (ls : Array Slot) (x0 : Nat) (x1 : Int32) (x2 : Int32), wpL_X7_digest_73 n P K_ f M x0 x1 x2 → m_H D cA b n M H → va_S (m_A b) s.heap H locs → lv_has ls 3 [(0, .ref (b + x0)), (1, .int x1), (2, .int x2)] → W p l e rm_X7_digest s m ([.ref (b + i)] : List Value).toArray below meth c H locs 0 0 (MQ below (m_Q D cA b n (rL P)) ([.ref (b + i)] : List Value).toArray s 0 0 (m_A b)) (F0 m 73 ls []) := by
    intro K_ hKk
    clear h
    intro f
    induction f with
    | zero => intro M H locs ls x0 x1 x2 h; exact h.elim
    | succ f ih =>
      intro M H locs ls x0 x1 x2 h hP hS hl
      have h : wpB_X7_digest_73 n P K_ (wpL_X7_digest_73 n P K_ f) M x0 x1 x2 := h
      unfold wpB_X7_digest_73 at h
      refine lv_iload_n (pc := 73) hx hb dX7_digest_73 rfl (lv_at hl 2 rfl) ?_
      refine lv_bipush (v := 8) (pc := 74) hx hb dX7_digest_74 (by decide) ?_
      refine lv_icmp_ge (tgt := 96) (pc := 76) hx hb dX7_digest_76 (by decide) (fun c76 => ?_) (fun c76 => ?_)
      · replace h := h.1 c76
        refine lv_aload_n (pc := 96) hx hb dX7_digest_96 rfl (lv_at hl 0 rfl) ?_
        refine lv_aload_n (pc := 97) hx hb dX7_digest_97 rfl (lv_at hl 0 rfl) ?_
        refine lv_iload_n (pc := 98) hx hb dX7_digest_98 rfl (lv_at hl 1 rfl) ?_
        obtain ⟨hk37, h⟩ := h
        refine m_callVI (pc := 99) (y := yX7_jobAt) (κ := 7) (As := [.int x1]) (rest := [.ref (b + x0)]) C hK hP hS hl.1 ⟨Nat.zero_le _, Nat.zero_le _⟩ (c_X7_jobAt h) rfl rfl hk37 (by decide) rfl q_1102 q_1104 q_s57 q_8 q_1105 ⟨rfl, rfl⟩ yd_X7_jobAt ⟨Nat.le_of_ble_eq_true rfl, Nat.le_of_ble_eq_true rfl⟩ (Nat.le_of_ble_eq_true rfl) dX7_digest_99 (fun r38 M36 H locs h hP hS => ?_)
        refine lv_iconst (v := 0) (pc := 102) hx hb dX7_digest_102 (by decide) ?_
        refine m_callVI (pc := 103) (y := yX7_job0) (κ := 7) (As := [.int r38, .int 0]) (rest := []) C hK hP hS hl.1 ⟨Nat.zero_le _, Nat.zero_le _⟩ (c_X7_job0 h) rfl rfl hk37 (by decide) rfl q_1031 q_1033 q_s43 q_8 q_1034 ⟨rfl, rfl⟩ yd_X7_job0 ⟨Nat.le_of_ble_eq_true rfl, Nat.le_of_ble_eq_true rfl⟩ (Nat.le_of_ble_eq_true rfl) dX7_digest_103 (fun r40 M39 H locs h hP hS => ?_)
        refine lv_istore_n (lv' := [(2, .int r40), (0, .ref (b + x0)), (1, .int x1)]) (pc := 106) hx hb dX7_digest_106 rfl hl (by decide) rfl (fun ls hl => ?_)
        refine lv_aload_n (pc := 107) hx hb dX7_digest_107 rfl (lv_at hl 1 rfl) ?_
        refine lv_aload_n (pc := 108) hx hb dX7_digest_108 rfl (lv_at hl 1 rfl) ?_
        refine lv_iload_n (pc := 109) hx hb dX7_digest_109 rfl (lv_at hl 0 rfl) ?_
        refine lv_iconst (v := 0) (pc := 110) hx hb dX7_digest_110 (by decide) ?_
        refine m_callVI (pc := 111) (y := yX7_untilGone) (κ := 7) (As := [.int r40, .int (bI false)]) (rest := [.ref (b + x0)]) C hK hP hS hl.1 ⟨Nat.zero_le _, Nat.zero_le _⟩ (c_X7_untilGone h) rfl rfl hk37 (by decide) rfl q_1274 q_1276 q_s87 q_8 q_1277 ⟨rfl, rfl⟩ yd_X7_untilGone ⟨Nat.le_of_ble_eq_true rfl, Nat.le_of_ble_eq_true rfl⟩ (Nat.le_of_ble_eq_true rfl) dX7_digest_111 (fun r42 M41 H locs h hP hS => ?_)
        refine lv_i2l (pc := 114) hx hb dX7_digest_114 rfl ?_
        refine m_callVV (pc := 115) (y := yX7_hashes) (κ := 7) (As := [.long ((r42).toInt64)]) (rest := []) C hK hP hS hl.1 ⟨Nat.zero_le _, Nat.zero_le _⟩ (c_X7_hashes h) rfl rfl hk37 (by decide) rfl q_1303 q_1305 q_s90 q_8 q_1306 ⟨rfl, rfl⟩ yd_X7_hashes ⟨Nat.le_of_ble_eq_true rfl, Nat.le_of_ble_eq_true rfl⟩ (Nat.le_of_ble_eq_true rfl) dX7_digest_115 (fun M43 H locs h hP hS => ?_)
        refine lv_aload_n (pc := 118) hx hb dX7_digest_118 rfl (lv_at hl 1 rfl) ?_
        refine lv_aload_n (pc := 119) hx hb dX7_digest_119 rfl (lv_at hl 1 rfl) ?_
        refine lv_iload_n (pc := 120) hx hb dX7_digest_120 rfl (lv_at hl 0 rfl) ?_
        refine m_callVI (pc := 121) (y := yX7_earlier) (κ := 7) (As := [.int r40]) (rest := [.ref (b + x0)]) C hK hP hS hl.1 ⟨Nat.zero_le _, Nat.zero_le _⟩ (c_X7_earlier h) rfl rfl hk37 (by decide) rfl q_1282 q_1284 q_s88 q_8 q_1285 ⟨rfl, rfl⟩ yd_X7_earlier ⟨Nat.le_of_ble_eq_true rfl, Nat.le_of_ble_eq_true rfl⟩ (Nat.le_of_ble_eq_true rfl) dX7_digest_121 (fun r46 M45 H locs h hP hS => ?_)
        refine lv_i2l (pc := 124) hx hb dX7_digest_124 rfl ?_
        refine m_callVV (pc := 125) (y := yX7_hashes) (κ := 7) (As := [.long ((r46).toInt64)]) (rest := []) C hK hP hS hl.1 ⟨Nat.zero_le _, Nat.zero_le _⟩ (c_X7_hashes h) rfl rfl hk37 (by decide) rfl q_1303 q_1305 q_s90 q_8 q_1306 ⟨rfl, rfl⟩ yd_X7_hashes ⟨Nat.le_of_ble_eq_true rfl, Nat.le_of_ble_eq_true rfl⟩ (Nat.le_of_ble_eq_true rfl) dX7_digest_125 (fun M47 H locs h hP hS => ?_)
        obtain ⟨v49, ev49⟩ : ∃ y : Int32, y = x1 + 1 := ⟨_, rfl⟩
        replace h := h v49 ev49
        refine lv_iinc (v := v49) (lv' := [(1, .int v49), (2, .int r40), (0, .ref (b + x0))]) (pc := 128) hx hb dX7_digest_128 hl (k := 2) rfl (by rw [ev49]; rfl) (by decide) rfl (fun ls hl => ?_)
        refine lv_goto (tgt := 61) (pc := 131) hx hb dX7_digest_131 (by decide) ?_
        exact hKk _ _ _ _ _ _ h hP hS (lv_sub hl [2, 0] rfl)
      · replace h := h.2 c76
        refine lv_aload_n (pc := 79) hx hb dX7_digest_79 rfl (lv_at hl 0 rfl) ?_
        refine lv_aload_n (pc := 80) hx hb dX7_digest_80 rfl (lv_at hl 0 rfl) ?_
        refine lv_iload_n (pc := 81) hx hb dX7_digest_81 rfl (lv_at hl 1 rfl) ?_
        refine lv_iload_n (pc := 82) hx hb dX7_digest_82 rfl (lv_at hl 2 rfl) ?_
        obtain ⟨hk51, h⟩ := h
        refine m_callVI (pc := 83) (y := yX7_tellsJob) (κ := 7) (As := [.int x1, .int x2]) (rest := [.ref (b + x0)]) C hK hP hS hl.1 ⟨Nat.zero_le _, Nat.zero_le _⟩ (c_X7_tellsJob h) rfl rfl hk51 (by decide) rfl q_1218 q_1220 q_s78 q_8 q_1221 ⟨rfl, rfl⟩ yd_X7_tellsJob ⟨Nat.le_of_ble_eq_true rfl, Nat.le_of_ble_eq_true rfl⟩ (Nat.le_of_ble_eq_true rfl) dX7_digest_83 (fun r52 M50 H locs h hP hS => ?_)
        refine lv_i2l (pc := 86) hx hb dX7_digest_86 rfl ?_
        refine m_callVV (pc := 87) (y := yX7_hashes) (κ := 7) (As := [.long ((r52).toInt64)]) (rest := []) C hK hP hS hl.1 ⟨Nat.zero_le _, Nat.zero_le _⟩ (c_X7_hashes h) rfl rfl hk51 (by decide) rfl q_1303 q_1305 q_s90 q_8 q_1306 ⟨rfl, rfl⟩ yd_X7_hashes ⟨Nat.le_of_ble_eq_true rfl, Nat.le_of_ble_eq_true rfl⟩ (Nat.le_of_ble_eq_true rfl) dX7_digest_87 (fun M53 H locs h hP hS => ?_)
        obtain ⟨v55, ev55⟩ : ∃ y : Int32, y = x2 + 1 := ⟨_, rfl⟩
        replace h := h v55 ev55
        refine lv_iinc (v := v55) (lv' := [(2, .int v55), (0, .ref (b + x0)), (1, .int x1)]) (pc := 90) hx hb dX7_digest_90 hl (k := 2) rfl (by rw [ev55]; rfl) (by decide) rfl (fun ls hl => ?_)
        refine lv_goto (tgt := 73) (pc := 93) hx hb dX7_digest_93 (by decide) ?_
        exact ih _ _ _ _ _ _ _ h hP hS (lv_sub hl [1, 2, 0] rfl)
  have L61 : ∀ f : Nat, ∀ (M : Mem) (H : Heap) (locs : List Loc) (ls : Array Slot) (x0 : Nat) (x1 : Int32), wpL_X7_digest_61 n P f M x0 x1 → m_H D cA b n M H → va_S (m_A b) s.heap H locs → lv_has ls 3 [(0, .ref (b + x0)), (1, .int x1)] → W p l e rm_X7_digest s m ([.ref (b + i)] : List Value).toArray below meth c H locs 0 0 (MQ below (m_Q D cA b n (rL P)) ([.ref (b + i)] : List Value).toArray s 0 0 (m_A b)) (F0 m 61 ls []) := by
    clear h
    intro f
    induction f with
    | zero => intro M H locs ls x0 x1 h; exact h.elim
    | succ f ih =>
      intro M H locs ls x0 x1 h hP hS hl
      have h : wpB_X7_digest_61 n P (wpL_X7_digest_61 n P f) M x0 x1 := h
      unfold wpB_X7_digest_61 at h
      refine lv_iload_n (pc := 61) hx hb dX7_digest_61 rfl (lv_at hl 1 rfl) ?_
      refine lv_aload_n (pc := 62) hx hb dX7_digest_62 rfl (lv_at hl 0 rfl) ?_
      obtain ⟨hk6, h⟩ := h
      obtain ⟨j7, hj7, h⟩ := h
      refine gX7_7 (pc := 63) C hK hP hk6 hj7 dX7_digest_63 ?_
      refine lv_iconst (v := 5) (pc := 66) hx hb dX7_digest_66 (by decide) ?_
      obtain ⟨hk8, h⟩ := h
      obtain ⟨hi9, h⟩ := h
      refine m_iald (pc := 67) C hK hP hk8 hi9 dX7_digest_67 ?_
      refine lv_icmp_ge (tgt := 134) (pc := 68) hx hb dX7_digest_68 (by decide) (fun c68 => ?_) (fun c68 => ?_)
      · replace h := h.1 c68
        refine lv_iconst (v := 0) (pc := 134) hx hb dX7_digest_134 (by decide) ?_
        refine lv_istore_n (lv' := [(1, .int 0), (0, .ref (b + x0))]) (pc := 135) hx hb dX7_digest_135 rfl hl (by decide) rfl (fun ls hl => ?_)
        obtain ⟨f, h⟩ := h
        exact L136 f _ _ _ _ _ _ h hP hS (lv_sub hl [1, 0] rfl)
      · replace h := h.2 c68
        refine lv_iconst (v := 0) (pc := 71) hx hb dX7_digest_71 (by decide) ?_
        refine lv_istore_n (lv' := [(2, .int 0), (0, .ref (b + x0)), (1, .int x1)]) (pc := 72) hx hb dX7_digest_72 rfl hl (by decide) rfl (fun ls hl => ?_)
        obtain ⟨f, h⟩ := h
        exact L73 _ ih f _ _ _ _ _ _ _ h hP hS (lv_sub hl [1, 2, 0] rfl)
  have L33 : ∀ f : Nat, ∀ (M : Mem) (H : Heap) (locs : List Loc) (ls : Array Slot) (x0 : Nat) (x1 : Int32), wpL_X7_digest_33 n P f M x0 x1 → m_H D cA b n M H → va_S (m_A b) s.heap H locs → lv_has ls 3 [(0, .ref (b + x0)), (1, .int x1)] → W p l e rm_X7_digest s m ([.ref (b + i)] : List Value).toArray below meth c H locs 0 0 (MQ below (m_Q D cA b n (rL P)) ([.ref (b + i)] : List Value).toArray s 0 0 (m_A b)) (F0 m 33 ls []) := by
    clear h
    intro f
    induction f with
    | zero => intro M H locs ls x0 x1 h; exact h.elim
    | succ f ih =>
      intro M H locs ls x0 x1 h hP hS hl
      have h : wpB_X7_digest_33 n P (wpL_X7_digest_33 n P f) M x0 x1 := h
      unfold wpB_X7_digest_33 at h
      refine lv_iload_n (pc := 33) hx hb dX7_digest_33 rfl (lv_at hl 1 rfl) ?_
      refine lv_iconst (v := 4) (pc := 34) hx hb dX7_digest_34 (by decide) ?_
      refine lv_icmp_ge (tgt := 55) (pc := 35) hx hb dX7_digest_35 (by decide) (fun c35 => ?_) (fun c35 => ?_)
      · replace h := h.1 c35
        refine lv_aload_n (pc := 55) hx hb dX7_digest_55 rfl (lv_at hl 0 rfl) ?_
        obtain ⟨hk4, h⟩ := h
        refine m_callVV (pc := 56) (y := yX7_hashesShop) (κ := 7) (As := []) (rest := []) C hK hP hS hl.1 ⟨Nat.zero_le _, Nat.zero_le _⟩ (c_X7_hashesShop h) rfl rfl hk4 (by decide) rfl q_1308 q_1310 q_s91 q_8 q_1311 ⟨rfl, rfl⟩ yd_X7_hashesShop ⟨Nat.le_of_ble_eq_true rfl, Nat.le_of_ble_eq_true rfl⟩ (Nat.le_of_ble_eq_true rfl) dX7_digest_56 (fun M3 H locs h hP hS => ?_)
        refine lv_iconst (v := 0) (pc := 59) hx hb dX7_digest_59 (by decide) ?_
        refine lv_istore_n (lv' := [(1, .int 0), (0, .ref (b + x0))]) (pc := 60) hx hb dX7_digest_60 rfl hl (by decide) rfl (fun ls hl => ?_)
        obtain ⟨f, h⟩ := h
        exact L61 f _ _ _ _ _ _ h hP hS (lv_sub hl [1, 0] rfl)
      · replace h := h.2 c35
        refine lv_aload_n (pc := 38) hx hb dX7_digest_38 rfl (lv_at hl 0 rfl) ?_
        refine lv_aload_n (pc := 39) hx hb dX7_digest_39 rfl (lv_at hl 0 rfl) ?_
        obtain ⟨hk56, h⟩ := h
        obtain ⟨j57, hj57, h⟩ := h
        refine gX7_7 (pc := 40) C hK hP hk56 hj57 dX7_digest_40 ?_
        refine lv_iload_n (pc := 43) hx hb dX7_digest_43 rfl (lv_at hl 1 rfl) ?_
        obtain ⟨hk58, h⟩ := h
        obtain ⟨hi59, h⟩ := h
        refine m_iald (pc := 44) C hK hP hk58 hi59 dX7_digest_44 ?_
        refine lv_i2l (pc := 45) hx hb dX7_digest_45 rfl ?_
        refine m_callVV (pc := 46) (y := yX7_hashes) (κ := 7) (As := [.long ((M.1 j57 x1.toNatClampNeg).toInt64)]) (rest := []) C hK hP hS hl.1 ⟨Nat.zero_le _, Nat.zero_le _⟩ (c_X7_hashes h) rfl rfl hk56 (by decide) rfl q_1303 q_1305 q_s90 q_8 q_1306 ⟨rfl, rfl⟩ yd_X7_hashes ⟨Nat.le_of_ble_eq_true rfl, Nat.le_of_ble_eq_true rfl⟩ (Nat.le_of_ble_eq_true rfl) dX7_digest_46 (fun M60 H locs h hP hS => ?_)
        obtain ⟨v62, ev62⟩ : ∃ y : Int32, y = x1 + 1 := ⟨_, rfl⟩
        replace h := h v62 ev62
        refine lv_iinc (v := v62) (lv' := [(1, .int v62), (0, .ref (b + x0))]) (pc := 49) hx hb dX7_digest_49 hl (k := 1) rfl (by rw [ev62]; rfl) (by decide) rfl (fun ls hl => ?_)
        refine lv_goto (tgt := 33) (pc := 52) hx hb dX7_digest_52 (by decide) ?_
        exact ih _ _ _ _ _ _ h hP hS (lv_sub hl [1, 0] rfl)
  have L9 : ∀ f : Nat, ∀ (M : Mem) (H : Heap) (locs : List Loc) (ls : Array Slot) (x0 : Nat) (x1 : Int32), wpL_X7_digest_9 n P f M x0 x1 → m_H D cA b n M H → va_S (m_A b) s.heap H locs → lv_has ls 3 [(0, .ref (b + x0)), (1, .int x1)] → W p l e rm_X7_digest s m ([.ref (b + i)] : List Value).toArray below meth c H locs 0 0 (MQ below (m_Q D cA b n (rL P)) ([.ref (b + i)] : List Value).toArray s 0 0 (m_A b)) (F0 m 9 ls []) := by
    clear h
    intro f
    induction f with
    | zero => intro M H locs ls x0 x1 h; exact h.elim
    | succ f ih =>
      intro M H locs ls x0 x1 h hP hS hl
      have h : wpB_X7_digest_9 n P (wpL_X7_digest_9 n P f) M x0 x1 := h
      unfold wpB_X7_digest_9 at h
      refine lv_iload_n (pc := 9) hx hb dX7_digest_9 rfl (lv_at hl 1 rfl) ?_
      refine lv_bipush (v := 12) (pc := 10) hx hb dX7_digest_10 (by decide) ?_
      refine lv_icmp_ge (tgt := 31) (pc := 12) hx hb dX7_digest_12 (by decide) (fun c12 => ?_) (fun c12 => ?_)
      · replace h := h.1 c12
        refine lv_iconst (v := 0) (pc := 31) hx hb dX7_digest_31 (by decide) ?_
        refine lv_istore_n (lv' := [(1, .int 0), (0, .ref (b + x0))]) (pc := 32) hx hb dX7_digest_32 rfl hl (by decide) rfl (fun ls hl => ?_)
        obtain ⟨f, h⟩ := h
        exact L33 f _ _ _ _ _ _ h hP hS (lv_sub hl [1, 0] rfl)
      · replace h := h.2 c12
        refine lv_aload_n (pc := 15) hx hb dX7_digest_15 rfl (lv_at hl 0 rfl) ?_
        refine lv_aload_n (pc := 16) hx hb dX7_digest_16 rfl (lv_at hl 0 rfl) ?_
        refine lv_iload_n (pc := 17) hx hb dX7_digest_17 rfl (lv_at hl 1 rfl) ?_
        obtain ⟨hk64, h⟩ := h
        refine m_callVI (pc := 18) (y := yX7_counts) (κ := 7) (As := [.int x1]) (rest := [.ref (b + x0)]) C hK hP hS hl.1 ⟨Nat.zero_le _, Nat.zero_le _⟩ (c_X7_counts h) rfl rfl hk64 (by decide) rfl q_1238 q_1240 q_s81 q_8 q_1241 ⟨rfl, rfl⟩ yd_X7_counts ⟨Nat.le_of_ble_eq_true rfl, Nat.le_of_ble_eq_true rfl⟩ (Nat.le_of_ble_eq_true rfl) dX7_digest_18 (fun r65 M63 H locs h hP hS => ?_)
        refine lv_i2l (pc := 21) hx hb dX7_digest_21 rfl ?_
        refine m_callVV (pc := 22) (y := yX7_hashes) (κ := 7) (As := [.long ((r65).toInt64)]) (rest := []) C hK hP hS hl.1 ⟨Nat.zero_le _, Nat.zero_le _⟩ (c_X7_hashes h) rfl rfl hk64 (by decide) rfl q_1303 q_1305 q_s90 q_8 q_1306 ⟨rfl, rfl⟩ yd_X7_hashes ⟨Nat.le_of_ble_eq_true rfl, Nat.le_of_ble_eq_true rfl⟩ (Nat.le_of_ble_eq_true rfl) dX7_digest_22 (fun M66 H locs h hP hS => ?_)
        obtain ⟨v68, ev68⟩ : ∃ y : Int32, y = x1 + 1 := ⟨_, rfl⟩
        replace h := h v68 ev68
        refine lv_iinc (v := v68) (lv' := [(1, .int v68), (0, .ref (b + x0))]) (pc := 25) hx hb dX7_digest_25 hl (k := 1) rfl (by rw [ev68]; rfl) (by decide) rfl (fun ls hl => ?_)
        refine lv_goto (tgt := 9) (pc := 28) hx hb dX7_digest_28 (by decide) ?_
        exact ih _ _ _ _ _ _ h hP hS (lv_sub hl [1, 0] rfl)
  unfold wp_X7_digest at h
  refine lv_aload_n (pc := 0) hx hb dX7_digest_0 rfl (lv_at hl 0 rfl) ?_
  refine lv_ldc2 (pc := 1) (v := 2857) hx hb C.2.2.2.1 (C.2.2.2.2 _ q_1302) dX7_digest_1 ?_
  obtain ⟨hk1, h⟩ := h
  refine pX7_236 (pc := 4) (v := 2857) C hK hP hS hk1 dX7_digest_4 (fun M2 H locs eM2 hP hS => ?_)
  replace h := h M2 eM2
  refine lv_iconst (v := 0) (pc := 7) hx hb dX7_digest_7 (by decide) ?_
  refine lv_istore_n (lv' := [(1, .int 0), (0, .ref (b + i))]) (pc := 8) hx hb dX7_digest_8 rfl hl (by decide) rfl (fun ls hl => ?_)
  obtain ⟨f, h⟩ := h
  exact L9 f _ _ _ _ _ _ h hP hS (lv_sub hl [1, 0] rfl)
/-! ForgeHeats.stock (II)I -/
def wp_X6_stock (n : Nat) (M : Mem) (i : Nat) (p1 : Int32) (p2 : Int32) (P : Int32 → Mem → Prop) (T : String → Mem → Prop) : Prop := wp_X6_isWithin n M p1 0 3 (fun z2 M1 => ((z2 = true → wp_X6_isWithin n M1 p2 1 99 (fun z4 M3 => ((z4 = true → m_tp n i 6 ∧ (∃ j6 : Nat, M3.2.1 i 0 = some j6 ∧ (m_tp n j6 5 ∧ (wp_X5_heatAt n M3 j6 p1 (fun j9 M7 => m_tp n j9 2 ∧ (((((M7.1 j9 0) + p2) ≤ 200 → wp_X6_remember n M7 i (fun M11 => ∀ M13 : Mem, M13 = uI M11 j9 0 ((M11.1 j9 0) + p2) → (P (M13.1 j9 0) M13))) ∧ (¬ ((M7.1 j9 0) + p2) ≤ 200 → T "java/lang/IllegalStateException" M7)))))))) ∧ (z4 = false → T "java/lang/IllegalArgumentException" M3)))) ∧ (z2 = false → T "java/lang/IndexOutOfBoundsException" M1)))
abbrev rm_X6_stock : Room := { frames := 6, cells := 1, slots := 6, locals := 90 }
set_option maxHeartbeats 4000000 in
set_option maxRecDepth 100000 in
theorem c_X6_stock {l : Launch} (hlt : l.stackTraces = false) {D : va_G} {cA : Nat → ClassId} {b n : Nat} {M : Mem} {i : Nat} {p1 : Int32} {p2 : Int32} {P : Int32 → Mem → Prop} {T : String → Mem → Prop} (h : wp_X6_stock n M i p1 p2 P T) : m_CX l D cA b n M yX6_stock (Cond.code yX6_stock cX6_stock 4 (some .int)) rm_X6_stock [.ref (b + i), .int p1, .int p2] (rI P) T := by
  refine m_enterX (by decide) (Nat.le_of_ble_eq_true rfl) (fun p e s m below meth c C hr hlk ht hZ hK hP hS ls hl => ?_)
  have hx := C.1
  have hb := C.2.1
  have hl : lv_has ls 4 [(0, .ref (b + i)), (1, .int p1), (2, .int p2)] := hl
  unfold wp_X6_stock at h
  refine lv_iload_n (pc := 0) hx hb dX6_stock_0 rfl (lv_at hl 1 rfl) ?_
  refine lv_iconst (v := 0) (pc := 1) hx hb dX6_stock_1 (by decide) ?_
  refine lv_iconst (v := 3) (pc := 2) hx hb dX6_stock_2 (by decide) ?_
  refine m_callSZ (pc := 3) (y := yX6_isWithin) (As := [.int p1, .int 0, .int 3]) (rest := []) C hK hP hS hl.1 ⟨Nat.zero_le _, Nat.zero_le _⟩ (c_X6_isWithin h) rfl rfl q_592 q_593 q_1 q_594 ⟨rfl, rfl⟩ yd_X6_isWithin ⟨Nat.le_of_ble_eq_true rfl, Nat.le_of_ble_eq_true rfl⟩ (Nat.le_of_ble_eq_true rfl) dX6_stock_3 (fun z2 M1 H locs h hP hS => ?_)
  refine lv_if_ne (tgt := 19) (pc := 6) hx hb dX6_stock_6 (by decide) (fun c6 => ?_) (fun c6 => ?_)
  · replace h := h.1 (bZ1 c6)
    refine lv_iload_n (pc := 19) hx hb dX6_stock_19 rfl (lv_at hl 2 rfl) ?_
    refine lv_iconst (v := 1) (pc := 20) hx hb dX6_stock_20 (by decide) ?_
    refine lv_bipush (v := 99) (pc := 21) hx hb dX6_stock_21 (by decide) ?_
    refine m_callSZ (pc := 23) (y := yX6_isWithin) (As := [.int p2, .int 1, .int 99]) (rest := []) C hK hP hS hl.1 ⟨Nat.zero_le _, Nat.zero_le _⟩ (c_X6_isWithin h) rfl rfl q_592 q_593 q_1 q_594 ⟨rfl, rfl⟩ yd_X6_isWithin ⟨Nat.le_of_ble_eq_true rfl, Nat.le_of_ble_eq_true rfl⟩ (Nat.le_of_ble_eq_true rfl) dX6_stock_23 (fun z4 M3 H locs h hP hS => ?_)
    refine lv_if_ne (tgt := 39) (pc := 26) hx hb dX6_stock_26 (by decide) (fun c26 => ?_) (fun c26 => ?_)
    · replace h := h.1 (bZ1 c26)
      refine lv_aload_n (pc := 39) hx hb dX6_stock_39 rfl (lv_at hl 0 rfl) ?_
      obtain ⟨hk5, h⟩ := h
      obtain ⟨j6, hj6, h⟩ := h
      refine gX6_10 (pc := 40) C hK hP hk5 hj6 dX6_stock_40 ?_
      refine lv_iload_n (pc := 43) hx hb dX6_stock_43 rfl (lv_at hl 1 rfl) ?_
      obtain ⟨hk8, h⟩ := h
      refine m_callVR (pc := 44) (y := yX5_heatAt) (κ := 5) (As := [.int p1]) (rest := []) C hK hP hS hl.1 ⟨Nat.zero_le _, Nat.zero_le _⟩ (c_X5_heatAt h) rfl rfl hk8 (by decide) rfl q_679 q_342 q_343 q_2 q_344 ⟨rfl, rfl⟩ yd_X5_heatAt ⟨Nat.le_of_ble_eq_true rfl, Nat.le_of_ble_eq_true rfl⟩ (Nat.le_of_ble_eq_true rfl) dX6_stock_44 (fun j9 M7 H locs h hP hS => ?_)
      refine lv_astore_n (lv' := [(3, .ref (b + j9)), (0, .ref (b + i)), (1, .int p1), (2, .int p2)]) (pc := 47) hx hb dX6_stock_47 rfl hl (by decide) rfl (fun ls hl => ?_)
      refine lv_aload_n (pc := 48) hx hb dX6_stock_48 rfl (lv_at hl 0 rfl) ?_
      obtain ⟨hk10, h⟩ := h
      refine gX6_50 (pc := 49) C hK hP hk10 dX6_stock_49 ?_
      refine lv_iload_n (pc := 52) hx hb dX6_stock_52 rfl (lv_at hl 3 rfl) ?_
      refine lv_iadd (pc := 53) hx hb dX6_stock_53 ?_
      refine lv_sipush (v := 200) (pc := 54) hx hb dX6_stock_54 (by decide) ?_
      refine lv_icmp_le (tgt := 70) (pc := 57) hx hb dX6_stock_57 (by decide) (fun c57 => ?_) (fun c57 => ?_)
      · replace h := h.1 c57
        refine lv_aload_n (pc := 70) hx hb dX6_stock_70 rfl (lv_at hl 1 rfl) ?_
        refine m_callVV (pc := 71) (y := yX6_remember) (κ := 6) (As := []) (rest := []) C hK hP hS hl.1 ⟨Nat.zero_le _, Nat.zero_le _⟩ (c_X6_remember h) rfl rfl hk5 (by decide) rfl q_696 q_698 q_s32 q_1 q_699 ⟨rfl, rfl⟩ yd_X6_remember ⟨Nat.le_of_ble_eq_true rfl, Nat.le_of_ble_eq_true rfl⟩ (Nat.le_of_ble_eq_true rfl) dX6_stock_71 (fun M11 H locs h hP hS => ?_)
        refine lv_aload_n (pc := 74) hx hb dX6_stock_74 rfl (lv_at hl 0 rfl) ?_
        refine lv_dup (pc := 75) hx hb dX6_stock_75 rfl ?_
        refine gX6_50 (pc := 76) C hK hP hk10 dX6_stock_76 ?_
        refine lv_iload_n (pc := 79) hx hb dX6_stock_79 rfl (lv_at hl 3 rfl) ?_
        refine lv_iadd (pc := 80) hx hb dX6_stock_80 ?_
        refine pX6_50 (pc := 81) (v := (M11.1 j9 0) + p2) C hK hP hS hk10 dX6_stock_81 (fun M13 H locs eM13 hP hS => ?_)
        replace h := h M13 eM13
        refine lv_aload_n (pc := 84) hx hb dX6_stock_84 rfl (lv_at hl 0 rfl) ?_
        refine gX6_50 (pc := 85) C hK hP hk10 dX6_stock_85 ?_
        exact m_retX (m_iret (v := M13.1 j9 0) (pc := 88) C hr hlk hP hS dX6_stock_88 h)
      · replace h := h.2 c57
        exact m_throw1 (pc := 60) (is := 58) (text := "too much stock") hlt C hlk ht hZ hP hS hl (by decide +kernel) q_680 q_14 ⟨⟨Nat.le_of_ble_eq_true rfl, Nat.le_of_ble_eq_true rfl⟩, Nat.le_of_ble_eq_true rfl, Nat.le_of_ble_eq_true rfl⟩ dX6_stock_60 dX6_stock_63 dX6_stock_64 dX6_stock_66 dX6_stock_69 h
    · replace h := h.2 (bZ0 c26)
      exact m_throw0 (pc := 29) (is := 43) (text := "billets out of range") hlt C hlk ht hZ hP hS hl (by decide +kernel) q_663 q_13 ⟨⟨Nat.le_of_ble_eq_true rfl, Nat.le_of_ble_eq_true rfl⟩, Nat.le_of_ble_eq_true rfl, Nat.le_of_ble_eq_true rfl⟩ dX6_stock_29 dX6_stock_32 dX6_stock_33 dX6_stock_35 dX6_stock_38 h
  · replace h := h.2 (bZ0 c6)
    exact m_throw2 (pc := 9) (is := 36) (text := "no such heat") hlt C hlk ht hZ hP hS hl (by decide +kernel) q_595 q_12 ⟨⟨Nat.le_of_ble_eq_true rfl, Nat.le_of_ble_eq_true rfl⟩, Nat.le_of_ble_eq_true rfl, Nat.le_of_ble_eq_true rfl⟩ dX6_stock_9 dX6_stock_12 dX6_stock_13 dX6_stock_15 dX6_stock_18 h
/-! ForgeHeats.range (III)I -/
def wp_X6_range (n : Nat) (M : Mem) (i : Nat) (p1 : Int32) (p2 : Int32) (p3 : Int32) (P : Int32 → Mem → Prop) (T : String → Mem → Prop) : Prop := wp_X6_isWithin n M p1 0 3 (fun z2 M1 => ((z2 = true → wp_X6_isWithin n M1 p2 600 1240 (fun z4 M3 => ((z4 = false → T "java/lang/IllegalArgumentException" M3) ∧ (z4 = true → wp_X6_isWithin n M3 p3 p2 1240 (fun z6 M5 => ((z6 = true → m_tp n i 6 ∧ (wp_X6_remember n M5 i (fun M7 => ∃ j10 : Nat, M7.2.1 i 0 = some j10 ∧ (m_tp n j10 5 ∧ (wp_X5_heatAt n M7 j10 p1 (fun j13 M11 => m_tp n j13 2 ∧ (∀ v15 : Int32, v15 = ((10000 * (M11.1 j13 1)) + (M11.1 j13 2)) → (∀ M16 : Mem, M16 = uI M11 j13 1 p2 → (∀ M17 : Mem, M17 = uI M16 j13 2 p3 → (P v15 M17)))))))))) ∧ (z6 = false → T "java/lang/IllegalArgumentException" M5))))))) ∧ (z2 = false → T "java/lang/IndexOutOfBoundsException" M1)))
abbrev rm_X6_range : Room := { frames := 6, cells := 1, slots := 6, locals := 90 }
set_option maxHeartbeats 4000000 in
set_option maxRecDepth 100000 in
theorem c_X6_range {l : Launch} (hlt : l.stackTraces = false) {D : va_G} {cA : Nat → ClassId} {b n : Nat} {M : Mem} {i : Nat} {p1 : Int32} {p2 : Int32} {p3 : Int32} {P : Int32 → Mem → Prop} {T : String → Mem → Prop} (h : wp_X6_range n M i p1 p2 p3 P T) : m_CX l D cA b n M yX6_range (Cond.code yX6_range cX6_range 6 (some .int)) rm_X6_range [.ref (b + i), .int p1, .int p2, .int p3] (rI P) T := by
  refine m_enterX (by decide) (Nat.le_of_ble_eq_true rfl) (fun p e s m below meth c C hr hlk ht hZ hK hP hS ls hl => ?_)
  have hx := C.1
  have hb := C.2.1
  have hl : lv_has ls 6 [(0, .ref (b + i)), (1, .int p1), (2, .int p2), (3, .int p3)] := hl
  unfold wp_X6_range at h
  refine lv_iload_n (pc := 0) hx hb dX6_range_0 rfl (lv_at hl 1 rfl) ?_
  refine lv_iconst (v := 0) (pc := 1) hx hb dX6_range_1 (by decide) ?_
  refine lv_iconst (v := 3) (pc := 2) hx hb dX6_range_2 (by decide) ?_
  refine m_callSZ (pc := 3) (y := yX6_isWithin) (As := [.int p1, .int 0, .int 3]) (rest := []) C hK hP hS hl.1 ⟨Nat.zero_le _, Nat.zero_le _⟩ (c_X6_isWithin h) rfl rfl q_592 q_593 q_1 q_594 ⟨rfl, rfl⟩ yd_X6_isWithin ⟨Nat.le_of_ble_eq_true rfl, Nat.le_of_ble_eq_true rfl⟩ (Nat.le_of_ble_eq_true rfl) dX6_range_3 (fun z2 M1 H locs h hP hS => ?_)
  refine lv_if_ne (tgt := 19) (pc := 6) hx hb dX6_range_6 (by decide) (fun c6 => ?_) (fun c6 => ?_)
  · replace h := h.1 (bZ1 c6)
    refine lv_iload_n (pc := 19) hx hb dX6_range_19 rfl (lv_at hl 2 rfl) ?_
    refine lv_sipush (v := 600) (pc := 20) hx hb dX6_range_20 (by decide) ?_
    refine lv_sipush (v := 1240) (pc := 23) hx hb dX6_range_23 (by decide) ?_
    refine m_callSZ (pc := 26) (y := yX6_isWithin) (As := [.int p2, .int 600, .int 1240]) (rest := []) C hK hP hS hl.1 ⟨Nat.zero_le _, Nat.zero_le _⟩ (c_X6_isWithin h) rfl rfl q_592 q_593 q_1 q_594 ⟨rfl, rfl⟩ yd_X6_isWithin ⟨Nat.le_of_ble_eq_true rfl, Nat.le_of_ble_eq_true rfl⟩ (Nat.le_of_ble_eq_true rfl) dX6_range_26 (fun z4 M3 H locs h hP hS => ?_)
    refine lv_if_eq (tgt := 43) (pc := 29) hx hb dX6_range_29 (by decide) (fun c29 => ?_) (fun c29 => ?_)
    · replace h := h.1 (bZ0 c29)
      exact m_throw0 (pc := 43) (is := 64) (text := "temperature out of range") hlt C hlk ht hZ hP hS hl (by decide +kernel) q_663 q_13 ⟨⟨Nat.le_of_ble_eq_true rfl, Nat.le_of_ble_eq_true rfl⟩, Nat.le_of_ble_eq_true rfl, Nat.le_of_ble_eq_true rfl⟩ dX6_range_43 dX6_range_46 dX6_range_47 dX6_range_49 dX6_range_52 h
    · replace h := h.2 (bZ1 c29)
      refine lv_iload_n (pc := 32) hx hb dX6_range_32 rfl (lv_at hl 3 rfl) ?_
      refine lv_iload_n (pc := 33) hx hb dX6_range_33 rfl (lv_at hl 2 rfl) ?_
      refine lv_sipush (v := 1240) (pc := 34) hx hb dX6_range_34 (by decide) ?_
      refine m_callSZ (pc := 37) (y := yX6_isWithin) (As := [.int p3, .int p2, .int 1240]) (rest := []) C hK hP hS hl.1 ⟨Nat.zero_le _, Nat.zero_le _⟩ (c_X6_isWithin h) rfl rfl q_592 q_593 q_1 q_594 ⟨rfl, rfl⟩ yd_X6_isWithin ⟨Nat.le_of_ble_eq_true rfl, Nat.le_of_ble_eq_true rfl⟩ (Nat.le_of_ble_eq_true rfl) dX6_range_37 (fun z6 M5 H locs h hP hS => ?_)
      refine lv_if_ne (tgt := 53) (pc := 40) hx hb dX6_range_40 (by decide) (fun c40 => ?_) (fun c40 => ?_)
      · replace h := h.1 (bZ1 c40)
        refine lv_aload_n (pc := 53) hx hb dX6_range_53 rfl (lv_at hl 0 rfl) ?_
        obtain ⟨hk8, h⟩ := h
        refine m_callVV (pc := 54) (y := yX6_remember) (κ := 6) (As := []) (rest := []) C hK hP hS hl.1 ⟨Nat.zero_le _, Nat.zero_le _⟩ (c_X6_remember h) rfl rfl hk8 (by decide) rfl q_696 q_698 q_s32 q_1 q_699 ⟨rfl, rfl⟩ yd_X6_remember ⟨Nat.le_of_ble_eq_true rfl, Nat.le_of_ble_eq_true rfl⟩ (Nat.le_of_ble_eq_true rfl) dX6_range_54 (fun M7 H locs h hP hS => ?_)
        refine lv_aload_n (pc := 57) hx hb dX6_range_57 rfl (lv_at hl 0 rfl) ?_
        obtain ⟨j10, hj10, h⟩ := h
        refine gX6_10 (pc := 58) C hK hP hk8 hj10 dX6_range_58 ?_
        refine lv_iload_n (pc := 61) hx hb dX6_range_61 rfl (lv_at hl 1 rfl) ?_
        obtain ⟨hk12, h⟩ := h
        refine m_callVR (pc := 62) (y := yX5_heatAt) (κ := 5) (As := [.int p1]) (rest := []) C hK hP hS hl.1 ⟨Nat.zero_le _, Nat.zero_le _⟩ (c_X5_heatAt h) rfl rfl hk12 (by decide) rfl q_679 q_342 q_343 q_2 q_344 ⟨rfl, rfl⟩ yd_X5_heatAt ⟨Nat.le_of_ble_eq_true rfl, Nat.le_of_ble_eq_true rfl⟩ (Nat.le_of_ble_eq_true rfl) dX6_range_62 (fun j13 M11 H locs h hP hS => ?_)
        refine lv_astore (lv' := [(4, .ref (b + j13)), (0, .ref (b + i)), (1, .int p1), (2, .int p2), (3, .int p3)]) (pc := 65) hx hb dX6_range_65 hl (by decide) rfl (fun ls hl => ?_)
        refine lv_sipush (v := 10000) (pc := 67) hx hb dX6_range_67 (by decide) ?_
        refine lv_aload (pc := 70) hx hb dX6_range_70 (lv_at hl 0 rfl) ?_
        obtain ⟨hk14, h⟩ := h
        refine gX6_66 (pc := 72) C hK hP hk14 dX6_range_72 ?_
        refine lv_imul (pc := 75) hx hb dX6_range_75 ?_
        refine lv_aload (pc := 76) hx hb dX6_range_76 (lv_at hl 0 rfl) ?_
        refine gX6_69 (pc := 78) C hK hP hk14 dX6_range_78 ?_
        refine lv_iadd (pc := 81) hx hb dX6_range_81 ?_
        refine lv_topi (fun v15 ev15 => ?_)
        replace h := h v15 ev15
        refine lv_istore (lv' := [(5, .int v15), (4, .ref (b + j13)), (0, .ref (b + i)), (1, .int p1), (2, .int p2), (3, .int p3)]) (pc := 82) hx hb dX6_range_82 hl (by decide) rfl (fun ls hl => ?_)
        refine lv_aload (pc := 84) hx hb dX6_range_84 (lv_at hl 1 rfl) ?_
        refine lv_iload_n (pc := 86) hx hb dX6_range_86 rfl (lv_at hl 4 rfl) ?_
        refine pX6_66 (pc := 87) (v := p2) C hK hP hS hk14 dX6_range_87 (fun M16 H locs eM16 hP hS => ?_)
        replace h := h M16 eM16
        refine lv_aload (pc := 90) hx hb dX6_range_90 (lv_at hl 1 rfl) ?_
        refine lv_iload_n (pc := 92) hx hb dX6_range_92 rfl (lv_at hl 5 rfl) ?_
        refine pX6_69 (pc := 93) (v := p3) C hK hP hS hk14 dX6_range_93 (fun M17 H locs eM17 hP hS => ?_)
        replace h := h M17 eM17
        refine lv_iload (pc := 96) hx hb dX6_range_96 (lv_at hl 0 rfl) ?_
        exact m_retX (m_iret (v := v15) (pc := 98) C hr hlk hP hS dX6_range_98 h)
      · replace h := h.2 (bZ0 c40)
        exact m_throw0 (pc := 43) (is := 64) (text := "temperature out of range") hlt C hlk ht hZ hP hS hl (by decide +kernel) q_663 q_13 ⟨⟨Nat.le_of_ble_eq_true rfl, Nat.le_of_ble_eq_true rfl⟩, Nat.le_of_ble_eq_true rfl, Nat.le_of_ble_eq_true rfl⟩ dX6_range_43 dX6_range_46 dX6_range_47 dX6_range_49 dX6_range_52 h
  · replace h := h.2 (bZ0 c6)
    exact m_throw2 (pc := 9) (is := 36) (text := "no such heat") hlt C hlk ht hZ hP hS hl (by decide +kernel) q_595 q_12 ⟨⟨Nat.le_of_ble_eq_true rfl, Nat.le_of_ble_eq_true rfl⟩, Nat.le_of_ble_eq_true rfl, Nat.le_of_ble_eq_true rfl⟩ dX6_range_9 dX6_range_12 dX6_range_13 dX6_range_15 dX6_range_18 h
/-! ForgeHeats.die (III)I -/
def wp_X6_die (n : Nat) (M : Mem) (i : Nat) (p1 : Int32) (p2 : Int32) (p3 : Int32) (P : Int32 → Mem → Prop) (T : String → Mem → Prop) : Prop := wp_X6_isWithin n M p1 0 4 (fun z2 M1 => ((z2 = true → wp_X6_isWithin n M1 p2 1 9 (fun z4 M3 => ((z4 = false → T "java/lang/IllegalArgumentException" M3) ∧ (z4 = true → wp_X6_isWithin n M3 p3 10 300 (fun z6 M5 => ((z6 = true → m_tp n i 6 ∧ (∃ j8 : Nat, M5.2.1 i 0 = some j8 ∧ (m_tp n j8 5 ∧ (wp_X5_dieAt n M5 j8 p1 (fun j11 M9 => m_tp n j11 1 ∧ (wp_X1_isBeingGround n M9 j11 (fun z14 M12 => ((z14 = false → wp_X6_remember n M12 i (fun M15 => ∀ v17 : Int32, v17 = (M15.1 j11 2) → (∀ M18 : Mem, M18 = uI M15 j11 0 p2 → (∀ M19 : Mem, M19 = uI M18 j11 1 p3 → (∀ M20 : Mem, M20 = uI M19 j11 2 0 → (P v17 M20)))))) ∧ (z14 = true → T "java/lang/IllegalStateException" M12))))))))) ∧ (z6 = false → T "java/lang/IllegalArgumentException" M5))))))) ∧ (z2 = false → T "java/lang/IndexOutOfBoundsException" M1)))
abbrev rm_X6_die : Room := { frames := 6, cells := 1, slots := 6, locals := 90 }
set_option maxHeartbeats 4000000 in
set_option maxRecDepth 100000 in
theorem c_X6_die {l : Launch} (hlt : l.stackTraces = false) {D : va_G} {cA : Nat → ClassId} {b n : Nat} {M : Mem} {i : Nat} {p1 : Int32} {p2 : Int32} {p3 : Int32} {P : Int32 → Mem → Prop} {T : String → Mem → Prop} (h : wp_X6_die n M i p1 p2 p3 P T) : m_CX l D cA b n M yX6_die (Cond.code yX6_die cX6_die 6 (some .int)) rm_X6_die [.ref (b + i), .int p1, .int p2, .int p3] (rI P) T := by
  refine m_enterX (by decide) (Nat.le_of_ble_eq_true rfl) (fun p e s m below meth c C hr hlk ht hZ hK hP hS ls hl => ?_)
  have hx := C.1
  have hb := C.2.1
  have hl : lv_has ls 6 [(0, .ref (b + i)), (1, .int p1), (2, .int p2), (3, .int p3)] := hl
  unfold wp_X6_die at h
  refine lv_iload_n (pc := 0) hx hb dX6_die_0 rfl (lv_at hl 1 rfl) ?_
  refine lv_iconst (v := 0) (pc := 1) hx hb dX6_die_1 (by decide) ?_
  refine lv_iconst (v := 4) (pc := 2) hx hb dX6_die_2 (by decide) ?_
  refine m_callSZ (pc := 3) (y := yX6_isWithin) (As := [.int p1, .int 0, .int 4]) (rest := []) C hK hP hS hl.1 ⟨Nat.zero_le _, Nat.zero_le _⟩ (c_X6_isWithin h) rfl rfl q_592 q_593 q_1 q_594 ⟨rfl, rfl⟩ yd_X6_isWithin ⟨Nat.le_of_ble_eq_true rfl, Nat.le_of_ble_eq_true rfl⟩ (Nat.le_of_ble_eq_true rfl) dX6_die_3 (fun z2 M1 H locs h hP hS => ?_)
  refine lv_if_ne (tgt := 19) (pc := 6) hx hb dX6_die_6 (by decide) (fun c6 => ?_) (fun c6 => ?_)
  · replace h := h.1 (bZ1 c6)
    refine lv_iload_n (pc := 19) hx hb dX6_die_19 rfl (lv_at hl 2 rfl) ?_
    refine lv_iconst (v := 1) (pc := 20) hx hb dX6_die_20 (by decide) ?_
    refine lv_bipush (v := 9) (pc := 21) hx hb dX6_die_21 (by decide) ?_
    refine m_callSZ (pc := 23) (y := yX6_isWithin) (As := [.int p2, .int 1, .int 9]) (rest := []) C hK hP hS hl.1 ⟨Nat.zero_le _, Nat.zero_le _⟩ (c_X6_isWithin h) rfl rfl q_592 q_593 q_1 q_594 ⟨rfl, rfl⟩ yd_X6_isWithin ⟨Nat.le_of_ble_eq_true rfl, Nat.le_of_ble_eq_true rfl⟩ (Nat.le_of_ble_eq_true rfl) dX6_die_23 (fun z4 M3 H locs h hP hS => ?_)
    refine lv_if_eq (tgt := 41) (pc := 26) hx hb dX6_die_26 (by decide) (fun c26 => ?_) (fun c26 => ?_)
    · replace h := h.1 (bZ0 c26)
      exact m_throw0 (pc := 41) (is := 74) (text := "blows or limit out of range") hlt C hlk ht hZ hP hS hl (by decide +kernel) q_663 q_13 ⟨⟨Nat.le_of_ble_eq_true rfl, Nat.le_of_ble_eq_true rfl⟩, Nat.le_of_ble_eq_true rfl, Nat.le_of_ble_eq_true rfl⟩ dX6_die_41 dX6_die_44 dX6_die_45 dX6_die_47 dX6_die_50 h
    · replace h := h.2 (bZ1 c26)
      refine lv_iload_n (pc := 29) hx hb dX6_die_29 rfl (lv_at hl 3 rfl) ?_
      refine lv_bipush (v := 10) (pc := 30) hx hb dX6_die_30 (by decide) ?_
      refine lv_sipush (v := 300) (pc := 32) hx hb dX6_die_32 (by decide) ?_
      refine m_callSZ (pc := 35) (y := yX6_isWithin) (As := [.int p3, .int 10, .int 300]) (rest := []) C hK hP hS hl.1 ⟨Nat.zero_le _, Nat.zero_le _⟩ (c_X6_isWithin h) rfl rfl q_592 q_593 q_1 q_594 ⟨rfl, rfl⟩ yd_X6_isWithin ⟨Nat.le_of_ble_eq_true rfl, Nat.le_of_ble_eq_true rfl⟩ (Nat.le_of_ble_eq_true rfl) dX6_die_35 (fun z6 M5 H locs h hP hS => ?_)
      refine lv_if_ne (tgt := 51) (pc := 38) hx hb dX6_die_38 (by decide) (fun c38 => ?_) (fun c38 => ?_)
      · replace h := h.1 (bZ1 c38)
        refine lv_aload_n (pc := 51) hx hb dX6_die_51 rfl (lv_at hl 0 rfl) ?_
        obtain ⟨hk7, h⟩ := h
        obtain ⟨j8, hj8, h⟩ := h
        refine gX6_10 (pc := 52) C hK hP hk7 hj8 dX6_die_52 ?_
        refine lv_iload_n (pc := 55) hx hb dX6_die_55 rfl (lv_at hl 1 rfl) ?_
        obtain ⟨hk10, h⟩ := h
        refine m_callVR (pc := 56) (y := yX5_dieAt) (κ := 5) (As := [.int p1]) (rest := []) C hK hP hS hl.1 ⟨Nat.zero_le _, Nat.zero_le _⟩ (c_X5_dieAt h) rfl rfl hk10 (by decide) rfl q_410 q_375 q_376 q_2 q_377 ⟨rfl, rfl⟩ yd_X5_dieAt ⟨Nat.le_of_ble_eq_true rfl, Nat.le_of_ble_eq_true rfl⟩ (Nat.le_of_ble_eq_true rfl) dX6_die_56 (fun j11 M9 H locs h hP hS => ?_)
        refine lv_astore (lv' := [(4, .ref (b + j11)), (0, .ref (b + i)), (1, .int p1), (2, .int p2), (3, .int p3)]) (pc := 59) hx hb dX6_die_59 hl (by decide) rfl (fun ls hl => ?_)
        refine lv_aload (pc := 61) hx hb dX6_die_61 (lv_at hl 0 rfl) ?_
        obtain ⟨hk13, h⟩ := h
        refine m_callVZ (pc := 63) (y := yX1_isBeingGround) (κ := 1) (As := []) (rest := []) C hK hP hS hl.1 ⟨Nat.zero_le _, Nat.zero_le _⟩ (c_X1_isBeingGround h) rfl rfl hk13 (by decide) rfl q_725 q_379 q_380 q_4 q_381 ⟨rfl, rfl⟩ yd_X1_isBeingGround ⟨Nat.le_of_ble_eq_true rfl, Nat.le_of_ble_eq_true rfl⟩ (Nat.le_of_ble_eq_true rfl) dX6_die_63 (fun z14 M12 H locs h hP hS => ?_)
        refine lv_if_eq (tgt := 79) (pc := 66) hx hb dX6_die_66 (by decide) (fun c66 => ?_) (fun c66 => ?_)
        · replace h := h.1 (bZ0 c66)
          refine lv_aload_n (pc := 79) hx hb dX6_die_79 rfl (lv_at hl 1 rfl) ?_
          refine m_callVV (pc := 80) (y := yX6_remember) (κ := 6) (As := []) (rest := []) C hK hP hS hl.1 ⟨Nat.zero_le _, Nat.zero_le _⟩ (c_X6_remember h) rfl rfl hk7 (by decide) rfl q_696 q_698 q_s32 q_1 q_699 ⟨rfl, rfl⟩ yd_X6_remember ⟨Nat.le_of_ble_eq_true rfl, Nat.le_of_ble_eq_true rfl⟩ (Nat.le_of_ble_eq_true rfl) dX6_die_80 (fun M15 H locs h hP hS => ?_)
          refine lv_aload (pc := 83) hx hb dX6_die_83 (lv_at hl 0 rfl) ?_
          refine gX6_88 (pc := 85) C hK hP hk13 dX6_die_85 ?_
          refine lv_topi (fun v17 ev17 => ?_)
          replace h := h v17 ev17
          refine lv_istore (lv' := [(5, .int v17), (4, .ref (b + j11)), (0, .ref (b + i)), (1, .int p1), (2, .int p2), (3, .int p3)]) (pc := 88) hx hb dX6_die_88 hl (by decide) rfl (fun ls hl => ?_)
          refine lv_aload (pc := 90) hx hb dX6_die_90 (lv_at hl 1 rfl) ?_
          refine lv_iload_n (pc := 92) hx hb dX6_die_92 rfl (lv_at hl 4 rfl) ?_
          refine pX6_91 (pc := 93) (v := p2) C hK hP hS hk13 dX6_die_93 (fun M18 H locs eM18 hP hS => ?_)
          replace h := h M18 eM18
          refine lv_aload (pc := 96) hx hb dX6_die_96 (lv_at hl 1 rfl) ?_
          refine lv_iload_n (pc := 98) hx hb dX6_die_98 rfl (lv_at hl 5 rfl) ?_
          refine pX6_94 (pc := 99) (v := p3) C hK hP hS hk13 dX6_die_99 (fun M19 H locs eM19 hP hS => ?_)
          replace h := h M19 eM19
          refine lv_aload (pc := 102) hx hb dX6_die_102 (lv_at hl 1 rfl) ?_
          refine lv_iconst (v := 0) (pc := 104) hx hb dX6_die_104 (by decide) ?_
          refine pX6_88 (pc := 105) (v := 0) C hK hP hS hk13 dX6_die_105 (fun M20 H locs eM20 hP hS => ?_)
          replace h := h M20 eM20
          refine lv_iload (pc := 108) hx hb dX6_die_108 (lv_at hl 0 rfl) ?_
          exact m_retX (m_iret (v := v17) (pc := 110) C hr hlk hP hS dX6_die_110 h)
        · replace h := h.2 (bZ1 c66)
          exact m_throw1 (pc := 69) (is := 86) (text := "the die is being ground") hlt C hlk ht hZ hP hS hl (by decide +kernel) q_680 q_14 ⟨⟨Nat.le_of_ble_eq_true rfl, Nat.le_of_ble_eq_true rfl⟩, Nat.le_of_ble_eq_true rfl, Nat.le_of_ble_eq_true rfl⟩ dX6_die_69 dX6_die_72 dX6_die_73 dX6_die_75 dX6_die_78 h
      · replace h := h.2 (bZ0 c38)
        exact m_throw0 (pc := 41) (is := 74) (text := "blows or limit out of range") hlt C hlk ht hZ hP hS hl (by decide +kernel) q_663 q_13 ⟨⟨Nat.le_of_ble_eq_true rfl, Nat.le_of_ble_eq_true rfl⟩, Nat.le_of_ble_eq_true rfl, Nat.le_of_ble_eq_true rfl⟩ dX6_die_41 dX6_die_44 dX6_die_45 dX6_die_47 dX6_die_50 h
  · replace h := h.2 (bZ0 c6)
    exact m_throw2 (pc := 9) (is := 72) (text := "no such die") hlt C hlk ht hZ hP hS hl (by decide +kernel) q_595 q_12 ⟨⟨Nat.le_of_ble_eq_true rfl, Nat.le_of_ble_eq_true rfl⟩, Nat.le_of_ble_eq_true rfl, Nat.le_of_ble_eq_true rfl⟩ dX6_die_9 dX6_die_12 dX6_die_13 dX6_die_15 dX6_die_18 h
/-! ForgeHeats.grind (I)I -/
def wp_X6_grind (n : Nat) (M : Mem) (i : Nat) (p1 : Int32) (P : Int32 → Mem → Prop) (T : String → Mem → Prop) : Prop := wp_X6_isWithin n M p1 0 4 (fun z2 M1 => ((z2 = true → m_tp n i 6 ∧ (∃ j4 : Nat, M1.2.1 i 0 = some j4 ∧ (m_tp n j4 5 ∧ (wp_X5_dieBeingGround n M1 j4 (fun r7 M5 => ((r7 = (-1) → wp_X6_remember n M5 i (fun M8 => ∃ j10 : Nat, M8.2.1 i 0 = some j10 ∧ (m_tp n j10 5 ∧ (wp_X5_dieAt n M8 j10 p1 (fun j13 M11 => ∃ j14 : Nat, M11.2.1 i 0 = some j14 ∧ (m_tp n j14 5 ∧ (m_tp n j13 1 ∧ (∀ M17 : Mem, M17 = uI M11 j13 3 (M11.1 j14 10) → (P (M17.1 j13 2) M17))))))))) ∧ (¬ r7 = (-1) → T "java/lang/IllegalStateException" M5))))))) ∧ (z2 = false → T "java/lang/IndexOutOfBoundsException" M1)))
abbrev rm_X6_grind : Room := { frames := 6, cells := 1, slots := 6, locals := 90 }
set_option maxHeartbeats 4000000 in
set_option maxRecDepth 100000 in
theorem c_X6_grind {l : Launch} (hlt : l.stackTraces = false) {D : va_G} {cA : Nat → ClassId} {b n : Nat} {M : Mem} {i : Nat} {p1 : Int32} {P : Int32 → Mem → Prop} {T : String → Mem → Prop} (h : wp_X6_grind n M i p1 P T) : m_CX l D cA b n M yX6_grind (Cond.code yX6_grind cX6_grind 3 (some .int)) rm_X6_grind [.ref (b + i), .int p1] (rI P) T := by
  refine m_enterX (by decide) (Nat.le_of_ble_eq_true rfl) (fun p e s m below meth c C hr hlk ht hZ hK hP hS ls hl => ?_)
  have hx := C.1
  have hb := C.2.1
  have hl : lv_has ls 3 [(0, .ref (b + i)), (1, .int p1)] := hl
  unfold wp_X6_grind at h
  refine lv_iload_n (pc := 0) hx hb dX6_grind_0 rfl (lv_at hl 1 rfl) ?_
  refine lv_iconst (v := 0) (pc := 1) hx hb dX6_grind_1 (by decide) ?_
  refine lv_iconst (v := 4) (pc := 2) hx hb dX6_grind_2 (by decide) ?_
  refine m_callSZ (pc := 3) (y := yX6_isWithin) (As := [.int p1, .int 0, .int 4]) (rest := []) C hK hP hS hl.1 ⟨Nat.zero_le _, Nat.zero_le _⟩ (c_X6_isWithin h) rfl rfl q_592 q_593 q_1 q_594 ⟨rfl, rfl⟩ yd_X6_isWithin ⟨Nat.le_of_ble_eq_true rfl, Nat.le_of_ble_eq_true rfl⟩ (Nat.le_of_ble_eq_true rfl) dX6_grind_3 (fun z2 M1 H locs h hP hS => ?_)
  refine lv_if_ne (tgt := 19) (pc := 6) hx hb dX6_grind_6 (by decide) (fun c6 => ?_) (fun c6 => ?_)
  · replace h := h.1 (bZ1 c6)
    refine lv_aload_n (pc := 19) hx hb dX6_grind_19 rfl (lv_at hl 0 rfl) ?_
    obtain ⟨hk3, h⟩ := h
    obtain ⟨j4, hj4, h⟩ := h
    refine gX6_10 (pc := 20) C hK hP hk3 hj4 dX6_grind_20 ?_
    obtain ⟨hk6, h⟩ := h
    refine m_callVI (pc := 23) (y := yX5_dieBeingGround) (κ := 5) (As := []) (rest := []) C hK hP hS hl.1 ⟨Nat.zero_le _, Nat.zero_le _⟩ (c_X5_dieBeingGround h) rfl rfl hk6 (by decide) rfl q_370 q_371 q_372 q_2 q_373 ⟨rfl, rfl⟩ yd_X5_dieBeingGround ⟨Nat.le_of_ble_eq_true rfl, Nat.le_of_ble_eq_true rfl⟩ (Nat.le_of_ble_eq_true rfl) dX6_grind_23 (fun r7 M5 H locs h hP hS => ?_)
    refine lv_iconst (v := -1) (pc := 26) hx hb dX6_grind_26 (by decide) ?_
    refine lv_icmp_eq (tgt := 40) (pc := 27) hx hb dX6_grind_27 (by decide) (fun c27 => ?_) (fun c27 => ?_)
    · replace h := h.1 c27
      refine lv_aload_n (pc := 40) hx hb dX6_grind_40 rfl (lv_at hl 0 rfl) ?_
      refine m_callVV (pc := 41) (y := yX6_remember) (κ := 6) (As := []) (rest := []) C hK hP hS hl.1 ⟨Nat.zero_le _, Nat.zero_le _⟩ (c_X6_remember h) rfl rfl hk3 (by decide) rfl q_696 q_698 q_s32 q_1 q_699 ⟨rfl, rfl⟩ yd_X6_remember ⟨Nat.le_of_ble_eq_true rfl, Nat.le_of_ble_eq_true rfl⟩ (Nat.le_of_ble_eq_true rfl) dX6_grind_41 (fun M8 H locs h hP hS => ?_)
      refine lv_aload_n (pc := 44) hx hb dX6_grind_44 rfl (lv_at hl 0 rfl) ?_
      obtain ⟨j10, hj10, h⟩ := h
      refine gX6_10 (pc := 45) C hK hP hk3 hj10 dX6_grind_45 ?_
      refine lv_iload_n (pc := 48) hx hb dX6_grind_48 rfl (lv_at hl 1 rfl) ?_
      obtain ⟨hk12, h⟩ := h
      refine m_callVR (pc := 49) (y := yX5_dieAt) (κ := 5) (As := [.int p1]) (rest := []) C hK hP hS hl.1 ⟨Nat.zero_le _, Nat.zero_le _⟩ (c_X5_dieAt h) rfl rfl hk12 (by decide) rfl q_410 q_375 q_376 q_2 q_377 ⟨rfl, rfl⟩ yd_X5_dieAt ⟨Nat.le_of_ble_eq_true rfl, Nat.le_of_ble_eq_true rfl⟩ (Nat.le_of_ble_eq_true rfl) dX6_grind_49 (fun j13 M11 H locs h hP hS => ?_)
      refine lv_astore_n (lv' := [(2, .ref (b + j13)), (0, .ref (b + i)), (1, .int p1)]) (pc := 52) hx hb dX6_grind_52 rfl hl (by decide) rfl (fun ls hl => ?_)
      refine lv_aload_n (pc := 53) hx hb dX6_grind_53 rfl (lv_at hl 0 rfl) ?_
      refine lv_aload_n (pc := 54) hx hb dX6_grind_54 rfl (lv_at hl 1 rfl) ?_
      obtain ⟨j14, hj14, h⟩ := h
      refine gX6_10 (pc := 55) C hK hP hk3 hj14 dX6_grind_55 ?_
      obtain ⟨hk15, h⟩ := h
      refine gX6_103 (pc := 58) C hK hP hk15 dX6_grind_58 ?_
      obtain ⟨hk16, h⟩ := h
      refine pX6_106 (pc := 61) (v := M11.1 j14 10) C hK hP hS hk16 dX6_grind_61 (fun M17 H locs eM17 hP hS => ?_)
      replace h := h M17 eM17
      refine lv_aload_n (pc := 64) hx hb dX6_grind_64 rfl (lv_at hl 0 rfl) ?_
      refine gX6_88 (pc := 65) C hK hP hk16 dX6_grind_65 ?_
      exact m_retX (m_iret (v := M17.1 j13 2) (pc := 68) C hr hlk hP hS dX6_grind_68 h)
    · replace h := h.2 c27
      exact m_throw1 (pc := 30) (is := 101) (text := "a die is being ground") hlt C hlk ht hZ hP hS hl (by decide +kernel) q_680 q_14 ⟨⟨Nat.le_of_ble_eq_true rfl, Nat.le_of_ble_eq_true rfl⟩, Nat.le_of_ble_eq_true rfl, Nat.le_of_ble_eq_true rfl⟩ dX6_grind_30 dX6_grind_33 dX6_grind_34 dX6_grind_36 dX6_grind_39 h
  · replace h := h.2 (bZ0 c6)
    exact m_throw2 (pc := 9) (is := 72) (text := "no such die") hlt C hlk ht hZ hP hS hl (by decide +kernel) q_595 q_12 ⟨⟨Nat.le_of_ble_eq_true rfl, Nat.le_of_ble_eq_true rfl⟩, Nat.le_of_ble_eq_true rfl, Nat.le_of_ble_eq_true rfl⟩ dX6_grind_9 dX6_grind_12 dX6_grind_13 dX6_grind_15 dX6_grind_18 h
/-! ForgeHeats.job (IIIIZ)I -/
def wp_X6_job (n : Nat) (M : Mem) (i : Nat) (p1 : Int32) (p2 : Int32) (p3 : Int32) (p4 : Int32) (p5 : Bool) (P : Int32 → Mem → Prop) (T : String → Mem → Prop) : Prop := wp_X6_isWithin n M p1 0 4 (fun z2 M1 => ((z2 = false → T "java/lang/IndexOutOfBoundsException" M1) ∧ (z2 = true → wp_X6_isWithin n M1 p2 0 3 (fun z4 M3 => ((z4 = true → wp_X6_isWithin n M3 p3 1 40 (fun z6 M5 => ((z6 = false → T "java/lang/IllegalArgumentException" M5) ∧ (z6 = true → wp_X6_isWithin n M5 p4 0 9999 (fun z8 M7 => ((z8 = true → m_tp n i 6 ∧ (∃ j10 : Nat, M7.2.1 i 0 = some j10 ∧ (m_tp n j10 5 ∧ ((((M7.1 j10 5) < 10 → wp_X6_remember n M7 i (fun M12 => ∃ j14 : Nat, M12.2.1 i 0 = some j14 ∧ (m_tp n j14 5 ∧ (wp_X5_addJob n M12 j14 p1 p2 p3 p4 p5 (fun r17 M15 => P r17 M15))))) ∧ (¬ (M7.1 j10 5) < 10 → T "java/lang/IllegalStateException" M7)))))) ∧ (z8 = false → T "java/lang/IllegalArgumentException" M7))))))) ∧ (z4 = false → T "java/lang/IndexOutOfBoundsException" M3))))))
abbrev rm_X6_job : Room := { frames := 6, cells := 1, slots := 6, locals := 90 }
set_option maxHeartbeats 4000000 in
set_option maxRecDepth 100000 in
theorem c_X6_job {l : Launch} (hlt : l.stackTraces = false) {D : va_G} {cA : Nat → ClassId} {b n : Nat} {M : Mem} {i : Nat} {p1 : Int32} {p2 : Int32} {p3 : Int32} {p4 : Int32} {p5 : Bool} {P : Int32 → Mem → Prop} {T : String → Mem → Prop} (h : wp_X6_job n M i p1 p2 p3 p4 p5 P T) : m_CX l D cA b n M yX6_job (Cond.code yX6_job cX6_job 6 (some .int)) rm_X6_job [.ref (b + i), .int p1, .int p2, .int p3, .int p4, .int (bI p5)] (rI P) T := by
  refine m_enterX (by decide) (Nat.le_of_ble_eq_true rfl) (fun p e s m below meth c C hr hlk ht hZ hK hP hS ls hl => ?_)
  have hx := C.1
  have hb := C.2.1
  have hl : lv_has ls 6 [(0, .ref (b + i)), (1, .int p1), (2, .int p2), (3, .int p3), (4, .int p4), (5, .int (bI p5))] := hl
  unfold wp_X6_job at h
  refine lv_iload_n (pc := 0) hx hb dX6_job_0 rfl (lv_at hl 1 rfl) ?_
  refine lv_iconst (v := 0) (pc := 1) hx hb dX6_job_1 (by decide) ?_
  refine lv_iconst (v := 4) (pc := 2) hx hb dX6_job_2 (by decide) ?_
  refine m_callSZ (pc := 3) (y := yX6_isWithin) (As := [.int p1, .int 0, .int 4]) (rest := []) C hK hP hS hl.1 ⟨Nat.zero_le _, Nat.zero_le _⟩ (c_X6_isWithin h) rfl rfl q_592 q_593 q_1 q_594 ⟨rfl, rfl⟩ yd_X6_isWithin ⟨Nat.le_of_ble_eq_true rfl, Nat.le_of_ble_eq_true rfl⟩ (Nat.le_of_ble_eq_true rfl) dX6_job_3 (fun z2 M1 H locs h hP hS => ?_)
  refine lv_if_eq (tgt := 18) (pc := 6) hx hb dX6_job_6 (by decide) (fun c6 => ?_) (fun c6 => ?_)
  · replace h := h.1 (bZ0 c6)
    exact m_throw2 (pc := 18) (is := 109) (text := "no such die or heat") hlt C hlk ht hZ hP hS hl (by decide +kernel) q_595 q_12 ⟨⟨Nat.le_of_ble_eq_true rfl, Nat.le_of_ble_eq_true rfl⟩, Nat.le_of_ble_eq_true rfl, Nat.le_of_ble_eq_true rfl⟩ dX6_job_18 dX6_job_21 dX6_job_22 dX6_job_24 dX6_job_27 h
  · replace h := h.2 (bZ1 c6)
    refine lv_iload_n (pc := 9) hx hb dX6_job_9 rfl (lv_at hl 2 rfl) ?_
    refine lv_iconst (v := 0) (pc := 10) hx hb dX6_job_10 (by decide) ?_
    refine lv_iconst (v := 3) (pc := 11) hx hb dX6_job_11 (by decide) ?_
    refine m_callSZ (pc := 12) (y := yX6_isWithin) (As := [.int p2, .int 0, .int 3]) (rest := []) C hK hP hS hl.1 ⟨Nat.zero_le _, Nat.zero_le _⟩ (c_X6_isWithin h) rfl rfl q_592 q_593 q_1 q_594 ⟨rfl, rfl⟩ yd_X6_isWithin ⟨Nat.le_of_ble_eq_true rfl, Nat.le_of_ble_eq_true rfl⟩ (Nat.le_of_ble_eq_true rfl) dX6_job_12 (fun z4 M3 H locs h hP hS => ?_)
    refine lv_if_ne (tgt := 28) (pc := 15) hx hb dX6_job_15 (by decide) (fun c15 => ?_) (fun c15 => ?_)
    · replace h := h.1 (bZ1 c15)
      refine lv_iload_n (pc := 28) hx hb dX6_job_28 rfl (lv_at hl 3 rfl) ?_
      refine lv_iconst (v := 1) (pc := 29) hx hb dX6_job_29 (by decide) ?_
      refine lv_bipush (v := 40) (pc := 30) hx hb dX6_job_30 (by decide) ?_
      refine m_callSZ (pc := 32) (y := yX6_isWithin) (As := [.int p3, .int 1, .int 40]) (rest := []) C hK hP hS hl.1 ⟨Nat.zero_le _, Nat.zero_le _⟩ (c_X6_isWithin h) rfl rfl q_592 q_593 q_1 q_594 ⟨rfl, rfl⟩ yd_X6_isWithin ⟨Nat.le_of_ble_eq_true rfl, Nat.le_of_ble_eq_true rfl⟩ (Nat.le_of_ble_eq_true rfl) dX6_job_32 (fun z6 M5 H locs h hP hS => ?_)
      refine lv_if_eq (tgt := 50) (pc := 35) hx hb dX6_job_35 (by decide) (fun c35 => ?_) (fun c35 => ?_)
      · replace h := h.1 (bZ0 c35)
        exact m_throw0 (pc := 50) (is := 111) (text := "pieces or due out of range") hlt C hlk ht hZ hP hS hl (by decide +kernel) q_663 q_13 ⟨⟨Nat.le_of_ble_eq_true rfl, Nat.le_of_ble_eq_true rfl⟩, Nat.le_of_ble_eq_true rfl, Nat.le_of_ble_eq_true rfl⟩ dX6_job_50 dX6_job_53 dX6_job_54 dX6_job_56 dX6_job_59 h
      · replace h := h.2 (bZ1 c35)
        refine lv_iload (pc := 38) hx hb dX6_job_38 (lv_at hl 4 rfl) ?_
        refine lv_iconst (v := 0) (pc := 40) hx hb dX6_job_40 (by decide) ?_
        refine lv_sipush (v := 9999) (pc := 41) hx hb dX6_job_41 (by decide) ?_
        refine m_callSZ (pc := 44) (y := yX6_isWithin) (As := [.int p4, .int 0, .int 9999]) (rest := []) C hK hP hS hl.1 ⟨Nat.zero_le _, Nat.zero_le _⟩ (c_X6_isWithin h) rfl rfl q_592 q_593 q_1 q_594 ⟨rfl, rfl⟩ yd_X6_isWithin ⟨Nat.le_of_ble_eq_true rfl, Nat.le_of_ble_eq_true rfl⟩ (Nat.le_of_ble_eq_true rfl) dX6_job_44 (fun z8 M7 H locs h hP hS => ?_)
        refine lv_if_ne (tgt := 60) (pc := 47) hx hb dX6_job_47 (by decide) (fun c47 => ?_) (fun c47 => ?_)
        · replace h := h.1 (bZ1 c47)
          refine lv_aload_n (pc := 60) hx hb dX6_job_60 rfl (lv_at hl 0 rfl) ?_
          obtain ⟨hk9, h⟩ := h
          obtain ⟨j10, hj10, h⟩ := h
          refine gX6_10 (pc := 61) C hK hP hk9 hj10 dX6_job_61 ?_
          obtain ⟨hk11, h⟩ := h
          refine gX6_113 (pc := 64) C hK hP hk11 dX6_job_64 ?_
          refine lv_bipush (v := 10) (pc := 67) hx hb dX6_job_67 (by decide) ?_
          refine lv_icmp_lt (tgt := 82) (pc := 69) hx hb dX6_job_69 (by decide) (fun c69 => ?_) (fun c69 => ?_)
          · replace h := h.1 c69
            refine lv_aload_n (pc := 82) hx hb dX6_job_82 rfl (lv_at hl 0 rfl) ?_
            refine m_callVV (pc := 83) (y := yX6_remember) (κ := 6) (As := []) (rest := []) C hK hP hS hl.1 ⟨Nat.zero_le _, Nat.zero_le _⟩ (c_X6_remember h) rfl rfl hk9 (by decide) rfl q_696 q_698 q_s32 q_1 q_699 ⟨rfl, rfl⟩ yd_X6_remember ⟨Nat.le_of_ble_eq_true rfl, Nat.le_of_ble_eq_true rfl⟩ (Nat.le_of_ble_eq_true rfl) dX6_job_83 (fun M12 H locs h hP hS => ?_)
            refine lv_aload_n (pc := 86) hx hb dX6_job_86 rfl (lv_at hl 0 rfl) ?_
            obtain ⟨j14, hj14, h⟩ := h
            refine gX6_10 (pc := 87) C hK hP hk9 hj14 dX6_job_87 ?_
            refine lv_iload_n (pc := 90) hx hb dX6_job_90 rfl (lv_at hl 1 rfl) ?_
            refine lv_iload_n (pc := 91) hx hb dX6_job_91 rfl (lv_at hl 2 rfl) ?_
            refine lv_iload_n (pc := 92) hx hb dX6_job_92 rfl (lv_at hl 3 rfl) ?_
            refine lv_iload (pc := 93) hx hb dX6_job_93 (lv_at hl 4 rfl) ?_
            refine lv_iload (pc := 95) hx hb dX6_job_95 (lv_at hl 5 rfl) ?_
            obtain ⟨hk16, h⟩ := h
            refine m_callVI (pc := 97) (y := yX5_addJob) (κ := 5) (As := [.int p1, .int p2, .int p3, .int p4, .int (bI p5)]) (rest := []) C hK hP hS hl.1 ⟨Nat.zero_le _, Nat.zero_le _⟩ (c_X5_addJob h) rfl rfl hk16 (by decide) rfl q_745 q_746 q_747 q_2 q_748 ⟨rfl, rfl⟩ yd_X5_addJob ⟨Nat.le_of_ble_eq_true rfl, Nat.le_of_ble_eq_true rfl⟩ (Nat.le_of_ble_eq_true rfl) dX6_job_97 (fun r17 M15 H locs h hP hS => ?_)
            exact m_retX (m_iret (v := r17) (pc := 100) C hr hlk hP hS dX6_job_100 h)
          · replace h := h.2 c69
            exact m_throw1 (pc := 72) (is := 116) (text := "too many jobs") hlt C hlk ht hZ hP hS hl (by decide +kernel) q_680 q_14 ⟨⟨Nat.le_of_ble_eq_true rfl, Nat.le_of_ble_eq_true rfl⟩, Nat.le_of_ble_eq_true rfl, Nat.le_of_ble_eq_true rfl⟩ dX6_job_72 dX6_job_75 dX6_job_76 dX6_job_78 dX6_job_81 h
        · replace h := h.2 (bZ0 c47)
          exact m_throw0 (pc := 50) (is := 111) (text := "pieces or due out of range") hlt C hlk ht hZ hP hS hl (by decide +kernel) q_663 q_13 ⟨⟨Nat.le_of_ble_eq_true rfl, Nat.le_of_ble_eq_true rfl⟩, Nat.le_of_ble_eq_true rfl, Nat.le_of_ble_eq_true rfl⟩ dX6_job_50 dX6_job_53 dX6_job_54 dX6_job_56 dX6_job_59 h
    · replace h := h.2 (bZ0 c15)
      exact m_throw2 (pc := 18) (is := 109) (text := "no such die or heat") hlt C hlk ht hZ hP hS hl (by decide +kernel) q_595 q_12 ⟨⟨Nat.le_of_ble_eq_true rfl, Nat.le_of_ble_eq_true rfl⟩, Nat.le_of_ble_eq_true rfl, Nat.le_of_ble_eq_true rfl⟩ dX6_job_18 dX6_job_21 dX6_job_22 dX6_job_24 dX6_job_27 h
/-! ForgeHeats.cancel (I)I -/
def wp_X6_cancel (n : Nat) (M : Mem) (i : Nat) (p1 : Int32) (P : Int32 → Mem → Prop) (T : String → Mem → Prop) : Prop := m_tp n i 6 ∧ (∃ j2 : Nat, M.2.1 i 0 = some j2 ∧ (m_tp n j2 5 ∧ (wp_X5_placeOf n M j2 p1 (fun r5 M3 => ((¬ r5 = (-1) → wp_X6_remember n M3 i (fun M6 => ∃ j8 : Nat, M6.2.1 i 0 = some j8 ∧ (m_tp n j8 5 ∧ (wp_X5_dropJob n M6 j8 r5 (fun r11 M9 => P r11 M9))))) ∧ (r5 = (-1) → T "java/lang/IndexOutOfBoundsException" M3))))))
abbrev rm_X6_cancel : Room := { frames := 6, cells := 1, slots := 6, locals := 90 }
set_option maxHeartbeats 4000000 in
set_option maxRecDepth 100000 in
theorem c_X6_cancel {l : Launch} (hlt : l.stackTraces = false) {D : va_G} {cA : Nat → ClassId} {b n : Nat} {M : Mem} {i : Nat} {p1 : Int32} {P : Int32 → Mem → Prop} {T : String → Mem → Prop} (h : wp_X6_cancel n M i p1 P T) : m_CX l D cA b n M yX6_cancel (Cond.code yX6_cancel cX6_cancel 3 (some .int)) rm_X6_cancel [.ref (b + i), .int p1] (rI P) T := by
  refine m_enterX (by decide) (Nat.le_of_ble_eq_true rfl) (fun p e s m below meth c C hr hlk ht hZ hK hP hS ls hl => ?_)
  have hx := C.1
  have hb := C.2.1
  have hl : lv_has ls 3 [(0, .ref (b + i)), (1, .int p1)] := hl
  unfold wp_X6_cancel at h
  refine lv_aload_n (pc := 0) hx hb dX6_cancel_0 rfl (lv_at hl 0 rfl) ?_
  obtain ⟨hk1, h⟩ := h
  obtain ⟨j2, hj2, h⟩ := h
  refine gX6_10 (pc := 1) C hK hP hk1 hj2 dX6_cancel_1 ?_
  refine lv_iload_n (pc := 4) hx hb dX6_cancel_4 rfl (lv_at hl 1 rfl) ?_
  obtain ⟨hk4, h⟩ := h
  refine m_callVI (pc := 5) (y := yX5_placeOf) (κ := 5) (As := [.int p1]) (rest := []) C hK hP hS hl.1 ⟨Nat.zero_le _, Nat.zero_le _⟩ (c_X5_placeOf h) rfl rfl hk4 (by decide) rfl q_541 q_505 q_506 q_2 q_507 ⟨rfl, rfl⟩ yd_X5_placeOf ⟨Nat.le_of_ble_eq_true rfl, Nat.le_of_ble_eq_true rfl⟩ (Nat.le_of_ble_eq_true rfl) dX6_cancel_5 (fun r5 M3 H locs h hP hS => ?_)
  refine lv_istore_n (lv' := [(2, .int r5), (0, .ref (b + i)), (1, .int p1)]) (pc := 8) hx hb dX6_cancel_8 rfl hl (by decide) rfl (fun ls hl => ?_)
  refine lv_iload_n (pc := 9) hx hb dX6_cancel_9 rfl (lv_at hl 0 rfl) ?_
  refine lv_iconst (v := -1) (pc := 10) hx hb dX6_cancel_10 (by decide) ?_
  refine lv_icmp_ne (tgt := 24) (pc := 11) hx hb dX6_cancel_11 (by decide) (fun c11 => ?_) (fun c11 => ?_)
  · replace h := h.1 c11
    refine lv_aload_n (pc := 24) hx hb dX6_cancel_24 rfl (lv_at hl 1 rfl) ?_
    refine m_callVV (pc := 25) (y := yX6_remember) (κ := 6) (As := []) (rest := []) C hK hP hS hl.1 ⟨Nat.zero_le _, Nat.zero_le _⟩ (c_X6_remember h) rfl rfl hk1 (by decide) rfl q_696 q_698 q_s32 q_1 q_699 ⟨rfl, rfl⟩ yd_X6_remember ⟨Nat.le_of_ble_eq_true rfl, Nat.le_of_ble_eq_true rfl⟩ (Nat.le_of_ble_eq_true rfl) dX6_cancel_25 (fun M6 H locs h hP hS => ?_)
    refine lv_aload_n (pc := 28) hx hb dX6_cancel_28 rfl (lv_at hl 1 rfl) ?_
    obtain ⟨j8, hj8, h⟩ := h
    refine gX6_10 (pc := 29) C hK hP hk1 hj8 dX6_cancel_29 ?_
    refine lv_iload_n (pc := 32) hx hb dX6_cancel_32 rfl (lv_at hl 0 rfl) ?_
    obtain ⟨hk10, h⟩ := h
    refine m_callVI (pc := 33) (y := yX5_dropJob) (κ := 5) (As := [.int r5]) (rest := []) C hK hP hS hl.1 ⟨Nat.zero_le _, Nat.zero_le _⟩ (c_X5_dropJob h) rfl rfl hk10 (by decide) rfl q_757 q_758 q_759 q_2 q_760 ⟨rfl, rfl⟩ yd_X5_dropJob ⟨Nat.le_of_ble_eq_true rfl, Nat.le_of_ble_eq_true rfl⟩ (Nat.le_of_ble_eq_true rfl) dX6_cancel_33 (fun r11 M9 H locs h hP hS => ?_)
    exact m_retX (m_iret (v := r11) (pc := 36) C hr hlk hP hS dX6_cancel_36 h)
  · replace h := h.2 c11
    exact m_throw2 (pc := 14) (is := 126) (text := "no such job") hlt C hlk ht hZ hP hS hl (by decide +kernel) q_595 q_12 ⟨⟨Nat.le_of_ble_eq_true rfl, Nat.le_of_ble_eq_true rfl⟩, Nat.le_of_ble_eq_true rfl, Nat.le_of_ble_eq_true rfl⟩ dX6_cancel_14 dX6_cancel_17 dX6_cancel_18 dX6_cancel_20 dX6_cancel_23 h
/-! ForgeHeats.rush (IZ)I -/
def wp_X6_rush (n : Nat) (M : Mem) (i : Nat) (p1 : Int32) (p2 : Bool) (P : Int32 → Mem → Prop) (T : String → Mem → Prop) : Prop := m_tp n i 6 ∧ (∃ j2 : Nat, M.2.1 i 0 = some j2 ∧ (m_tp n j2 5 ∧ (wp_X5_placeOf n M j2 p1 (fun r5 M3 => ((¬ r5 = (-1) → wp_X6_remember n M3 i (fun M6 => ∃ j8 : Nat, M6.2.1 i 0 = some j8 ∧ (m_tp n j8 5 ∧ (wp_X5_hasten n M6 j8 r5 p2 (fun r11 M9 => P r11 M9))))) ∧ (r5 = (-1) → T "java/lang/IndexOutOfBoundsException" M3))))))
abbrev rm_X6_rush : Room := { frames := 6, cells := 1, slots := 6, locals := 90 }
set_option maxHeartbeats 4000000 in
set_option maxRecDepth 100000 in
theorem c_X6_rush {l : Launch} (hlt : l.stackTraces = false) {D : va_G} {cA : Nat → ClassId} {b n : Nat} {M : Mem} {i : Nat} {p1 : Int32} {p2 : Bool} {P : Int32 → Mem → Prop} {T : String → Mem → Prop} (h : wp_X6_rush n M i p1 p2 P T) : m_CX l D cA b n M yX6_rush (Cond.code yX6_rush cX6_rush 4 (some .int)) rm_X6_rush [.ref (b + i), .int p1, .int (bI p2)] (rI P) T := by
  refine m_enterX (by decide) (Nat.le_of_ble_eq_true rfl) (fun p e s m below meth c C hr hlk ht hZ hK hP hS ls hl => ?_)
  have hx := C.1
  have hb := C.2.1
  have hl : lv_has ls 4 [(0, .ref (b + i)), (1, .int p1), (2, .int (bI p2))] := hl
  unfold wp_X6_rush at h
  refine lv_aload_n (pc := 0) hx hb dX6_rush_0 rfl (lv_at hl 0 rfl) ?_
  obtain ⟨hk1, h⟩ := h
  obtain ⟨j2, hj2, h⟩ := h
  refine gX6_10 (pc := 1) C hK hP hk1 hj2 dX6_rush_1 ?_
  refine lv_iload_n (pc := 4) hx hb dX6_rush_4 rfl (lv_at hl 1 rfl) ?_
  obtain ⟨hk4, h⟩ := h
  refine m_callVI (pc := 5) (y := yX5_placeOf) (κ := 5) (As := [.int p1]) (rest := []) C hK hP hS hl.1 ⟨Nat.zero_le _, Nat.zero_le _⟩ (c_X5_placeOf h) rfl rfl hk4 (by decide) rfl q_541 q_505 q_506 q_2 q_507 ⟨rfl, rfl⟩ yd_X5_placeOf ⟨Nat.le_of_ble_eq_true rfl, Nat.le_of_ble_eq_true rfl⟩ (Nat.le_of_ble_eq_true rfl) dX6_rush_5 (fun r5 M3 H locs h hP hS => ?_)
  refine lv_istore_n (lv' := [(3, .int r5), (0, .ref (b + i)), (1, .int p1), (2, .int (bI p2))]) (pc := 8) hx hb dX6_rush_8 rfl hl (by decide) rfl (fun ls hl => ?_)
  refine lv_iload_n (pc := 9) hx hb dX6_rush_9 rfl (lv_at hl 0 rfl) ?_
  refine lv_iconst (v := -1) (pc := 10) hx hb dX6_rush_10 (by decide) ?_
  refine lv_icmp_ne (tgt := 24) (pc := 11) hx hb dX6_rush_11 (by decide) (fun c11 => ?_) (fun c11 => ?_)
  · replace h := h.1 c11
    refine lv_aload_n (pc := 24) hx hb dX6_rush_24 rfl (lv_at hl 1 rfl) ?_
    refine m_callVV (pc := 25) (y := yX6_remember) (κ := 6) (As := []) (rest := []) C hK hP hS hl.1 ⟨Nat.zero_le _, Nat.zero_le _⟩ (c_X6_remember h) rfl rfl hk1 (by decide) rfl q_696 q_698 q_s32 q_1 q_699 ⟨rfl, rfl⟩ yd_X6_remember ⟨Nat.le_of_ble_eq_true rfl, Nat.le_of_ble_eq_true rfl⟩ (Nat.le_of_ble_eq_true rfl) dX6_rush_25 (fun M6 H locs h hP hS => ?_)
    refine lv_aload_n (pc := 28) hx hb dX6_rush_28 rfl (lv_at hl 1 rfl) ?_
    obtain ⟨j8, hj8, h⟩ := h
    refine gX6_10 (pc := 29) C hK hP hk1 hj8 dX6_rush_29 ?_
    refine lv_iload_n (pc := 32) hx hb dX6_rush_32 rfl (lv_at hl 0 rfl) ?_
    refine lv_iload_n (pc := 33) hx hb dX6_rush_33 rfl (lv_at hl 3 rfl) ?_
    obtain ⟨hk10, h⟩ := h
    refine m_callVI (pc := 34) (y := yX5_hasten) (κ := 5) (As := [.int r5, .int (bI p2)]) (rest := []) C hK hP hS hl.1 ⟨Nat.zero_le _, Nat.zero_le _⟩ (c_X5_hasten h) rfl rfl hk10 (by decide) rfl q_546 q_547 q_548 q_2 q_549 ⟨rfl, rfl⟩ yd_X5_hasten ⟨Nat.le_of_ble_eq_true rfl, Nat.le_of_ble_eq_true rfl⟩ (Nat.le_of_ble_eq_true rfl) dX6_rush_34 (fun r11 M9 H locs h hP hS => ?_)
    exact m_retX (m_iret (v := r11) (pc := 37) C hr hlk hP hS dX6_rush_37 h)
  · replace h := h.2 c11
    exact m_throw2 (pc := 14) (is := 126) (text := "no such job") hlt C hlk ht hZ hP hS hl (by decide +kernel) q_595 q_12 ⟨⟨Nat.le_of_ble_eq_true rfl, Nat.le_of_ble_eq_true rfl⟩, Nat.le_of_ble_eq_true rfl, Nat.le_of_ble_eq_true rfl⟩ dX6_rush_14 dX6_rush_17 dX6_rush_18 dX6_rush_20 dX6_rush_23 h
/-! ForgeHeats.set (II)I -/
def wp_X6_set (n : Nat) (M : Mem) (i : Nat) (p1 : Int32) (p2 : Int32) (P : Int32 → Mem → Prop) (T : String → Mem → Prop) : Prop := wp_X6_isWithin n M p1 0 3 (fun z2 M1 => ((z2 = true → wp_X6_leastValue n M1 p1 (fun r4 M3 => wp_X6_mostValue n M3 p1 (fun r6 M5 => wp_X6_isWithin n M5 p2 r4 r6 (fun z8 M7 => ((z8 = true → m_tp n i 6 ∧ (wp_X6_remember n M7 i (fun M9 => ∃ j12 : Nat, M9.2.1 i 0 = some j12 ∧ (m_tp n j12 5 ∧ (wp_X5_valueOf n M9 j12 p1 (fun r15 M13 => ∃ j16 : Nat, M13.2.1 i 0 = some j16 ∧ (m_tp n j16 5 ∧ (wp_X5_putValue n M13 j16 p1 p2 (fun M17 => P r15 M17))))))))) ∧ (z8 = false → T "java/lang/IllegalArgumentException" M7)))))) ∧ (z2 = false → T "java/lang/IndexOutOfBoundsException" M1)))
abbrev rm_X6_set : Room := { frames := 6, cells := 1, slots := 6, locals := 90 }
set_option maxHeartbeats 4000000 in
set_option maxRecDepth 100000 in
theorem c_X6_set {l : Launch} (hlt : l.stackTraces = false) {D : va_G} {cA : Nat → ClassId} {b n : Nat} {M : Mem} {i : Nat} {p1 : Int32} {p2 : Int32} {P : Int32 → Mem → Prop} {T : String → Mem → Prop} (h : wp_X6_set n M i p1 p2 P T) : m_CX l D cA b n M yX6_set (Cond.code yX6_set cX6_set 4 (some .int)) rm_X6_set [.ref (b + i), .int p1, .int p2] (rI P) T := by
  refine m_enterX (by decide) (Nat.le_of_ble_eq_true rfl) (fun p e s m below meth c C hr hlk ht hZ hK hP hS ls hl => ?_)
  have hx := C.1
  have hb := C.2.1
  have hl : lv_has ls 4 [(0, .ref (b + i)), (1, .int p1), (2, .int p2)] := hl
  unfold wp_X6_set at h
  refine lv_iload_n (pc := 0) hx hb dX6_set_0 rfl (lv_at hl 1 rfl) ?_
  refine lv_iconst (v := 0) (pc := 1) hx hb dX6_set_1 (by decide) ?_
  refine lv_iconst (v := 3) (pc := 2) hx hb dX6_set_2 (by decide) ?_
  refine m_callSZ (pc := 3) (y := yX6_isWithin) (As := [.int p1, .int 0, .int 3]) (rest := []) C hK hP hS hl.1 ⟨Nat.zero_le _, Nat.zero_le _⟩ (c_X6_isWithin h) rfl rfl q_592 q_593 q_1 q_594 ⟨rfl, rfl⟩ yd_X6_isWithin ⟨Nat.le_of_ble_eq_true rfl, Nat.le_of_ble_eq_true rfl⟩ (Nat.le_of_ble_eq_true rfl) dX6_set_3 (fun z2 M1 H locs h hP hS => ?_)
  refine lv_if_ne (tgt := 19) (pc := 6) hx hb dX6_set_6 (by decide) (fun c6 => ?_) (fun c6 => ?_)
  · replace h := h.1 (bZ1 c6)
    refine lv_iload_n (pc := 19) hx hb dX6_set_19 rfl (lv_at hl 2 rfl) ?_
    refine lv_iload_n (pc := 20) hx hb dX6_set_20 rfl (lv_at hl 1 rfl) ?_
    refine m_callSI (pc := 21) (y := yX6_leastValue) (As := [.int p1]) (rest := [.int p2]) C hK hP hS hl.1 ⟨Nat.zero_le _, Nat.zero_le _⟩ (c_X6_leastValue h) rfl rfl q_776 q_777 q_1 q_778 ⟨rfl, rfl⟩ yd_X6_leastValue ⟨Nat.le_of_ble_eq_true rfl, Nat.le_of_ble_eq_true rfl⟩ (Nat.le_of_ble_eq_true rfl) dX6_set_21 (fun r4 M3 H locs h hP hS => ?_)
    refine lv_iload_n (pc := 24) hx hb dX6_set_24 rfl (lv_at hl 1 rfl) ?_
    refine m_callSI (pc := 25) (y := yX6_mostValue) (As := [.int p1]) (rest := [.int r4, .int p2]) C hK hP hS hl.1 ⟨Nat.zero_le _, Nat.zero_le _⟩ (c_X6_mostValue h) rfl rfl q_779 q_780 q_1 q_781 ⟨rfl, rfl⟩ yd_X6_mostValue ⟨Nat.le_of_ble_eq_true rfl, Nat.le_of_ble_eq_true rfl⟩ (Nat.le_of_ble_eq_true rfl) dX6_set_25 (fun r6 M5 H locs h hP hS => ?_)
    refine m_callSZ (pc := 28) (y := yX6_isWithin) (As := [.int p2, .int r4, .int r6]) (rest := []) C hK hP hS hl.1 ⟨Nat.zero_le _, Nat.zero_le _⟩ (c_X6_isWithin h) rfl rfl q_592 q_593 q_1 q_594 ⟨rfl, rfl⟩ yd_X6_isWithin ⟨Nat.le_of_ble_eq_true rfl, Nat.le_of_ble_eq_true rfl⟩ (Nat.le_of_ble_eq_true rfl) dX6_set_28 (fun z8 M7 H locs h hP hS => ?_)
    refine lv_if_ne (tgt := 44) (pc := 31) hx hb dX6_set_31 (by decide) (fun c31 => ?_) (fun c31 => ?_)
    · replace h := h.1 (bZ1 c31)
      refine lv_aload_n (pc := 44) hx hb dX6_set_44 rfl (lv_at hl 0 rfl) ?_
      obtain ⟨hk10, h⟩ := h
      refine m_callVV (pc := 45) (y := yX6_remember) (κ := 6) (As := []) (rest := []) C hK hP hS hl.1 ⟨Nat.zero_le _, Nat.zero_le _⟩ (c_X6_remember h) rfl rfl hk10 (by decide) rfl q_696 q_698 q_s32 q_1 q_699 ⟨rfl, rfl⟩ yd_X6_remember ⟨Nat.le_of_ble_eq_true rfl, Nat.le_of_ble_eq_true rfl⟩ (Nat.le_of_ble_eq_true rfl) dX6_set_45 (fun M9 H locs h hP hS => ?_)
      refine lv_aload_n (pc := 48) hx hb dX6_set_48 rfl (lv_at hl 0 rfl) ?_
      obtain ⟨j12, hj12, h⟩ := h
      refine gX6_10 (pc := 49) C hK hP hk10 hj12 dX6_set_49 ?_
      refine lv_iload_n (pc := 52) hx hb dX6_set_52 rfl (lv_at hl 1 rfl) ?_
      obtain ⟨hk14, h⟩ := h
      refine m_callVI (pc := 53) (y := yX5_valueOf) (κ := 5) (As := [.int p1]) (rest := []) C hK hP hS hl.1 ⟨Nat.zero_le _, Nat.zero_le _⟩ (c_X5_valueOf h) rfl rfl hk14 (by decide) rfl q_390 q_391 q_392 q_2 q_393 ⟨rfl, rfl⟩ yd_X5_valueOf ⟨Nat.le_of_ble_eq_true rfl, Nat.le_of_ble_eq_true rfl⟩ (Nat.le_of_ble_eq_true rfl) dX6_set_53 (fun r15 M13 H locs h hP hS => ?_)
      refine lv_istore_n (lv' := [(3, .int r15), (0, .ref (b + i)), (1, .int p1), (2, .int p2)]) (pc := 56) hx hb dX6_set_56 rfl hl (by decide) rfl (fun ls hl => ?_)
      refine lv_aload_n (pc := 57) hx hb dX6_set_57 rfl (lv_at hl 1 rfl) ?_
      obtain ⟨j16, hj16, h⟩ := h
      refine gX6_10 (pc := 58) C hK hP hk10 hj16 dX6_set_58 ?_
      refine lv_iload_n (pc := 61) hx hb dX6_set_61 rfl (lv_at hl 2 rfl) ?_
      refine lv_iload_n (pc := 62) hx hb dX6_set_62 rfl (lv_at hl 3 rfl) ?_
      obtain ⟨hk18, h⟩ := h
      refine m_callVV (pc := 63) (y := yX5_putValue) (κ := 5) (As := [.int p1, .int p2]) (rest := []) C hK hP hS hl.1 ⟨Nat.zero_le _, Nat.zero_le _⟩ (c_X5_putValue h) rfl rfl hk18 (by decide) rfl q_783 q_784 q_785 q_2 q_786 ⟨rfl, rfl⟩ yd_X5_putValue ⟨Nat.le_of_ble_eq_true rfl, Nat.le_of_ble_eq_true rfl⟩ (Nat.le_of_ble_eq_true rfl) dX6_set_63 (fun M17 H locs h hP hS => ?_)
      refine lv_iload_n (pc := 66) hx hb dX6_set_66 rfl (lv_at hl 0 rfl) ?_
      exact m_retX (m_iret (v := r15) (pc := 67) C hr hlk hP hS dX6_set_67 h)
    · replace h := h.2 (bZ0 c31)
      exact m_throw0 (pc := 34) (is := 143) (text := "value out of range") hlt C hlk ht hZ hP hS hl (by decide +kernel) q_663 q_13 ⟨⟨Nat.le_of_ble_eq_true rfl, Nat.le_of_ble_eq_true rfl⟩, Nat.le_of_ble_eq_true rfl, Nat.le_of_ble_eq_true rfl⟩ dX6_set_34 dX6_set_37 dX6_set_38 dX6_set_40 dX6_set_43 h
  · replace h := h.2 (bZ0 c6)
    exact m_throw2 (pc := 9) (is := 135) (text := "no such setting") hlt C hlk ht hZ hP hS hl (by decide +kernel) q_595 q_12 ⟨⟨Nat.le_of_ble_eq_true rfl, Nat.le_of_ble_eq_true rfl⟩, Nat.le_of_ble_eq_true rfl, Nat.le_of_ble_eq_true rfl⟩ dX6_set_9 dX6_set_12 dX6_set_13 dX6_set_15 dX6_set_18 h
/-! ForgeHeats.pass (I)I -/
def wp_X6_pass (n : Nat) (M : Mem) (i : Nat) (p1 : Int32) (P : Int32 → Mem → Prop) (T : String → Mem → Prop) : Prop := wp_X6_isWithin n M p1 1 120 (fun z2 M1 => ((z2 = true → m_tp n i 6 ∧ (∃ j4 : Nat, M1.2.1 i 0 = some j4 ∧ (m_tp n j4 5 ∧ (((((M1.1 j4 11) + p1) ≤ 9999 → wp_X6_remember n M1 i (fun M6 => ∃ j8 : Nat, M6.2.1 i 0 = some j8 ∧ (m_tp n j8 5 ∧ (wp_X5_countMade n M6 j8 (fun r11 M9 => ∃ j12 : Nat, M9.2.1 i 0 = some j12 ∧ (m_tp n j12 5 ∧ (wp_X5_passMinutes n M9 j12 p1 (fun M13 => ∃ j16 : Nat, M13.2.1 i 0 = some j16 ∧ (m_tp n j16 5 ∧ (wp_X5_countMade n M13 j16 (fun r19 M17 => P (r19 - r11) M17))))))))))) ∧ (¬ ((M1.1 j4 11) + p1) ≤ 9999 → T "java/lang/IllegalStateException" M1)))))) ∧ (z2 = false → T "java/lang/IllegalArgumentException" M1)))
abbrev rm_X6_pass : Room := { frames := 6, cells := 1, slots := 6, locals := 114 }
set_option maxHeartbeats 4000000 in
set_option maxRecDepth 100000 in
theorem c_X6_pass {l : Launch} (hlt : l.stackTraces = false) {D : va_G} {cA : Nat → ClassId} {b n : Nat} {M : Mem} {i : Nat} {p1 : Int32} {P : Int32 → Mem → Prop} {T : String → Mem → Prop} (h : wp_X6_pass n M i p1 P T) : m_CX l D cA b n M yX6_pass (Cond.code yX6_pass cX6_pass 3 (some .int)) rm_X6_pass [.ref (b + i), .int p1] (rI P) T := by
  refine m_enterX (by decide) (Nat.le_of_ble_eq_true rfl) (fun p e s m below meth c C hr hlk ht hZ hK hP hS ls hl => ?_)
  have hx := C.1
  have hb := C.2.1
  have hl : lv_has ls 3 [(0, .ref (b + i)), (1, .int p1)] := hl
  unfold wp_X6_pass at h
  refine lv_iload_n (pc := 0) hx hb dX6_pass_0 rfl (lv_at hl 1 rfl) ?_
  refine lv_iconst (v := 1) (pc := 1) hx hb dX6_pass_1 (by decide) ?_
  refine lv_bipush (v := 120) (pc := 2) hx hb dX6_pass_2 (by decide) ?_
  refine m_callSZ (pc := 4) (y := yX6_isWithin) (As := [.int p1, .int 1, .int 120]) (rest := []) C hK hP hS hl.1 ⟨Nat.zero_le _, Nat.zero_le _⟩ (c_X6_isWithin h) rfl rfl q_592 q_593 q_1 q_594 ⟨rfl, rfl⟩ yd_X6_isWithin ⟨Nat.le_of_ble_eq_true rfl, Nat.le_of_ble_eq_true rfl⟩ (Nat.le_of_ble_eq_true rfl) dX6_pass_4 (fun z2 M1 H locs h hP hS => ?_)
  refine lv_if_ne (tgt := 20) (pc := 7) hx hb dX6_pass_7 (by decide) (fun c7 => ?_) (fun c7 => ?_)
  · replace h := h.1 (bZ1 c7)
    refine lv_aload_n (pc := 20) hx hb dX6_pass_20 rfl (lv_at hl 0 rfl) ?_
    obtain ⟨hk3, h⟩ := h
    obtain ⟨j4, hj4, h⟩ := h
    refine gX6_10 (pc := 21) C hK hP hk3 hj4 dX6_pass_21 ?_
    obtain ⟨hk5, h⟩ := h
    refine gX6_154 (pc := 24) C hK hP hk5 dX6_pass_24 ?_
    refine lv_iload_n (pc := 27) hx hb dX6_pass_27 rfl (lv_at hl 1 rfl) ?_
    refine lv_iadd (pc := 28) hx hb dX6_pass_28 ?_
    refine lv_sipush (v := 9999) (pc := 29) hx hb dX6_pass_29 (by decide) ?_
    refine lv_icmp_le (tgt := 45) (pc := 32) hx hb dX6_pass_32 (by decide) (fun c32 => ?_) (fun c32 => ?_)
    · replace h := h.1 c32
      refine lv_aload_n (pc := 45) hx hb dX6_pass_45 rfl (lv_at hl 0 rfl) ?_
      refine m_callVV (pc := 46) (y := yX6_remember) (κ := 6) (As := []) (rest := []) C hK hP hS hl.1 ⟨Nat.zero_le _, Nat.zero_le _⟩ (c_X6_remember h) rfl rfl hk3 (by decide) rfl q_696 q_698 q_s32 q_1 q_699 ⟨rfl, rfl⟩ yd_X6_remember ⟨Nat.le_of_ble_eq_true rfl, Nat.le_of_ble_eq_true rfl⟩ (Nat.le_of_ble_eq_true rfl) dX6_pass_46 (fun M6 H locs h hP hS => ?_)
      refine lv_aload_n (pc := 49) hx hb dX6_pass_49 rfl (lv_at hl 0 rfl) ?_
      obtain ⟨j8, hj8, h⟩ := h
      refine gX6_10 (pc := 50) C hK hP hk3 hj8 dX6_pass_50 ?_
      obtain ⟨hk10, h⟩ := h
      refine m_callVI (pc := 53) (y := yX5_countMade) (κ := 5) (As := []) (rest := []) C hK hP hS hl.1 ⟨Nat.zero_le _, Nat.zero_le _⟩ (c_X5_countMade h) rfl rfl hk10 (by decide) rfl q_337 q_338 q_339 q_2 q_340 ⟨rfl, rfl⟩ yd_X5_countMade ⟨Nat.le_of_ble_eq_true rfl, Nat.le_of_ble_eq_true rfl⟩ (Nat.le_of_ble_eq_true rfl) dX6_pass_53 (fun r11 M9 H locs h hP hS => ?_)
      refine lv_istore_n (lv' := [(2, .int r11), (0, .ref (b + i)), (1, .int p1)]) (pc := 56) hx hb dX6_pass_56 rfl hl (by decide) rfl (fun ls hl => ?_)
      refine lv_aload_n (pc := 57) hx hb dX6_pass_57 rfl (lv_at hl 1 rfl) ?_
      obtain ⟨j12, hj12, h⟩ := h
      refine gX6_10 (pc := 58) C hK hP hk3 hj12 dX6_pass_58 ?_
      refine lv_iload_n (pc := 61) hx hb dX6_pass_61 rfl (lv_at hl 2 rfl) ?_
      obtain ⟨hk14, h⟩ := h
      refine m_callVV (pc := 62) (y := yX5_passMinutes) (κ := 5) (As := [.int p1]) (rest := []) C hK hP hS hl.1 ⟨Nat.zero_le _, Nat.zero_le _⟩ (c_X5_passMinutes h) rfl rfl hk14 (by decide) rfl q_562 q_563 q_564 q_2 q_565 ⟨rfl, rfl⟩ yd_X5_passMinutes ⟨Nat.le_of_ble_eq_true rfl, Nat.le_of_ble_eq_true rfl⟩ (Nat.le_of_ble_eq_true rfl) dX6_pass_62 (fun M13 H locs h hP hS => ?_)
      refine lv_aload_n (pc := 65) hx hb dX6_pass_65 rfl (lv_at hl 1 rfl) ?_
      obtain ⟨j16, hj16, h⟩ := h
      refine gX6_10 (pc := 66) C hK hP hk3 hj16 dX6_pass_66 ?_
      obtain ⟨hk18, h⟩ := h
      refine m_callVI (pc := 69) (y := yX5_countMade) (κ := 5) (As := []) (rest := []) C hK hP hS hl.1 ⟨Nat.zero_le _, Nat.zero_le _⟩ (c_X5_countMade h) rfl rfl hk18 (by decide) rfl q_337 q_338 q_339 q_2 q_340 ⟨rfl, rfl⟩ yd_X5_countMade ⟨Nat.le_of_ble_eq_true rfl, Nat.le_of_ble_eq_true rfl⟩ (Nat.le_of_ble_eq_true rfl) dX6_pass_69 (fun r19 M17 H locs h hP hS => ?_)
      refine lv_iload_n (pc := 72) hx hb dX6_pass_72 rfl (lv_at hl 0 rfl) ?_
      refine lv_isub (pc := 73) hx hb dX6_pass_73 ?_
      exact m_retX (m_iret (v := r19 - r11) (pc := 74) C hr hlk hP hS dX6_pass_74 h)
    · replace h := h.2 c32
      exact m_throw1 (pc := 35) (is := 157) (text := "too many minutes") hlt C hlk ht hZ hP hS hl (by decide +kernel) q_680 q_14 ⟨⟨Nat.le_of_ble_eq_true rfl, Nat.le_of_ble_eq_true rfl⟩, Nat.le_of_ble_eq_true rfl, Nat.le_of_ble_eq_true rfl⟩ dX6_pass_35 dX6_pass_38 dX6_pass_39 dX6_pass_41 dX6_pass_44 h
  · replace h := h.2 (bZ0 c7)
    exact m_throw0 (pc := 10) (is := 152) (text := "minutes out of range") hlt C hlk ht hZ hP hS hl (by decide +kernel) q_663 q_13 ⟨⟨Nat.le_of_ble_eq_true rfl, Nat.le_of_ble_eq_true rfl⟩, Nat.le_of_ble_eq_true rfl, Nat.le_of_ble_eq_true rfl⟩ dX6_pass_10 dX6_pass_13 dX6_pass_14 dX6_pass_16 dX6_pass_19 h
/-! ForgeHeats.append (I)I -/
def wp_X6_append (n : Nat) (M : Mem) (i : Nat) (p1 : Int32) (P : Int32 → Mem → Prop) (T : String → Mem → Prop) : Prop := wp_X6_isWithin n M p1 33 126 (fun z2 M1 => ((z2 = true → m_tp n i 6 ∧ (∃ j4 : Nat, M1.2.1 i 4 = some j4 ∧ (m_tp n j4 4 ∧ (wp_X4_isFull n M1 j4 (fun z7 M5 => ((z7 = false → ∃ j8 : Nat, M5.2.1 i 4 = some j8 ∧ (m_tp n j8 4 ∧ (wp_X4_put n M5 j8 p1 (fun r11 M9 => P r11 M9)))) ∧ (z7 = true → T "java/lang/IllegalStateException" M5))))))) ∧ (z2 = false → T "java/lang/IllegalArgumentException" M1)))
abbrev rm_X6_append : Room := { frames := 6, cells := 1, slots := 6, locals := 90 }
set_option maxHeartbeats 4000000 in
set_option maxRecDepth 100000 in
theorem c_X6_append {l : Launch} (hlt : l.stackTraces = false) {D : va_G} {cA : Nat → ClassId} {b n : Nat} {M : Mem} {i : Nat} {p1 : Int32} {P : Int32 → Mem → Prop} {T : String → Mem → Prop} (h : wp_X6_append n M i p1 P T) : m_CX l D cA b n M yX6_append (Cond.code yX6_append cX6_append 2 (some .int)) rm_X6_append [.ref (b + i), .int p1] (rI P) T := by
  refine m_enterX (by decide) (Nat.le_of_ble_eq_true rfl) (fun p e s m below meth c C hr hlk ht hZ hK hP hS ls hl => ?_)
  have hx := C.1
  have hb := C.2.1
  have hl : lv_has ls 2 [(0, .ref (b + i)), (1, .int p1)] := hl
  unfold wp_X6_append at h
  refine lv_iload_n (pc := 0) hx hb dX6_append_0 rfl (lv_at hl 1 rfl) ?_
  refine lv_bipush (v := 33) (pc := 1) hx hb dX6_append_1 (by decide) ?_
  refine lv_bipush (v := 126) (pc := 3) hx hb dX6_append_3 (by decide) ?_
  refine m_callSZ (pc := 5) (y := yX6_isWithin) (As := [.int p1, .int 33, .int 126]) (rest := []) C hK hP hS hl.1 ⟨Nat.zero_le _, Nat.zero_le _⟩ (c_X6_isWithin h) rfl rfl q_592 q_593 q_1 q_594 ⟨rfl, rfl⟩ yd_X6_isWithin ⟨Nat.le_of_ble_eq_true rfl, Nat.le_of_ble_eq_true rfl⟩ (Nat.le_of_ble_eq_true rfl) dX6_append_5 (fun z2 M1 H locs h hP hS => ?_)
  refine lv_if_ne (tgt := 21) (pc := 8) hx hb dX6_append_8 (by decide) (fun c8 => ?_) (fun c8 => ?_)
  · replace h := h.1 (bZ1 c8)
    refine lv_aload_n (pc := 21) hx hb dX6_append_21 rfl (lv_at hl 0 rfl) ?_
    obtain ⟨hk3, h⟩ := h
    obtain ⟨j4, hj4, h⟩ := h
    refine gX6_26 (pc := 22) C hK hP hk3 hj4 dX6_append_22 ?_
    obtain ⟨hk6, h⟩ := h
    refine m_callVZ (pc := 25) (y := yX4_isFull) (κ := 4) (As := []) (rest := []) C hK hP hS hl.1 ⟨Nat.zero_le _, Nat.zero_le _⟩ (c_X4_isFull h) rfl rfl hk6 (by decide) rfl q_804 q_805 q_806 q_7 q_807 ⟨rfl, rfl⟩ yd_X4_isFull ⟨Nat.le_of_ble_eq_true rfl, Nat.le_of_ble_eq_true rfl⟩ (Nat.le_of_ble_eq_true rfl) dX6_append_25 (fun z7 M5 H locs h hP hS => ?_)
    refine lv_if_eq (tgt := 41) (pc := 28) hx hb dX6_append_28 (by decide) (fun c28 => ?_) (fun c28 => ?_)
    · replace h := h.1 (bZ0 c28)
      refine lv_aload_n (pc := 41) hx hb dX6_append_41 rfl (lv_at hl 0 rfl) ?_
      obtain ⟨j8, hj8, h⟩ := h
      refine gX6_26 (pc := 42) C hK hP hk3 hj8 dX6_append_42 ?_
      refine lv_iload_n (pc := 45) hx hb dX6_append_45 rfl (lv_at hl 1 rfl) ?_
      obtain ⟨hk10, h⟩ := h
      refine m_callVI (pc := 46) (y := yX4_put) (κ := 4) (As := [.int p1]) (rest := []) C hK hP hS hl.1 ⟨Nat.zero_le _, Nat.zero_le _⟩ (c_X4_put h) rfl rfl hk10 (by decide) rfl q_809 q_810 q_811 q_7 q_812 ⟨rfl, rfl⟩ yd_X4_put ⟨Nat.le_of_ble_eq_true rfl, Nat.le_of_ble_eq_true rfl⟩ (Nat.le_of_ble_eq_true rfl) dX6_append_46 (fun r11 M9 H locs h hP hS => ?_)
      exact m_retX (m_iret (v := r11) (pc := 49) C hr hlk hP hS dX6_append_49 h)
    · replace h := h.2 (bZ1 c28)
      exact m_throw1 (pc := 31) (is := 171) (text := "the buffer is full") hlt C hlk ht hZ hP hS hl (by decide +kernel) q_680 q_14 ⟨⟨Nat.le_of_ble_eq_true rfl, Nat.le_of_ble_eq_true rfl⟩, Nat.le_of_ble_eq_true rfl, Nat.le_of_ble_eq_true rfl⟩ dX6_append_31 dX6_append_34 dX6_append_35 dX6_append_37 dX6_append_40 h
  · replace h := h.2 (bZ0 c8)
    exact m_throw0 (pc := 11) (is := 166) (text := "no such character") hlt C hlk ht hZ hP hS hl (by decide +kernel) q_663 q_13 ⟨⟨Nat.le_of_ble_eq_true rfl, Nat.le_of_ble_eq_true rfl⟩, Nat.le_of_ble_eq_true rfl, Nat.le_of_ble_eq_true rfl⟩ dX6_append_11 dX6_append_14 dX6_append_15 dX6_append_17 dX6_append_20 h
/-! ForgeHeats.addAll ()I -/
def wpB_X6_addAll_65 (n : Nat) (P : Int32 → Mem → Prop) (T : String → Mem → Prop) (R_ : Mem → Nat → Int32 → Int32 → Prop) (M : Mem) (x0 : Nat) (x1 : Int32) (x2 : Int32) : Prop := ((x1 ≤ x2 → m_tp n x0 6 ∧ (∃ j19 : Nat, M.2.1 x0 4 = some j19 ∧ (m_tp n j19 4 ∧ (wp_X4_empty n M j19 (fun r22 M20 => ∃ j23 : Nat, M20.2.1 x0 0 = some j23 ∧ (m_tp n j23 5 ∧ (P (M20.1 j23 5) M20))))))) ∧ (¬ x1 ≤ x2 → m_tp n x0 6 ∧ (∃ j26 : Nat, M.2.1 x0 4 = some j26 ∧ (m_tp n j26 4 ∧ (wp_X4_readPart n M j26 (fun M27 => ∃ j30 : Nat, M27.2.1 x0 0 = some j30 ∧ (∃ j31 : Nat, M27.2.1 x0 4 = some j31 ∧ (m_tp n j31 4 ∧ (∃ j33 : Nat, M27.2.1 x0 4 = some j33 ∧ (m_tp n j33 4 ∧ (∃ j35 : Nat, M27.2.1 x0 4 = some j35 ∧ (m_tp n j35 4 ∧ (∃ j37 : Nat, M27.2.1 x0 4 = some j37 ∧ (m_tp n j37 4 ∧ (∃ j39 : Nat, M27.2.1 x0 4 = some j39 ∧ (m_tp n j39 4 ∧ (m_tp n j30 5 ∧ (wp_X5_addJob n M27 j30 (M27.1 j31 5) (M27.1 j33 6) (M27.1 j35 4) (M27.1 j37 7) (M27.1 j39 8 != 0) (fun r43 M41 => ∀ v44 : Int32, v44 = x2 + 1 → (R_ M41 x0 x1 v44))))))))))))))))))))
def wpL_X6_addAll_65 (n : Nat) (P : Int32 → Mem → Prop) (T : String → Mem → Prop) : Nat → Mem → Nat → Int32 → Int32 → Prop
  | 0 => fun _ _ _ _ => False
  | f + 1 => fun M x0 x1 x2 => wpB_X6_addAll_65 n P T (wpL_X6_addAll_65 n P T f) M x0 x1 x2
def wp_X6_addAll (n : Nat) (M : Mem) (i : Nat) (P : Int32 → Mem → Prop) (T : String → Mem → Prop) : Prop := m_tp n i 6 ∧ (∃ j2 : Nat, M.2.1 i 4 = some j2 ∧ (m_tp n j2 4 ∧ (wp_X4_isComplete n M j2 (fun z5 M3 => ((z5 = true → ∃ j6 : Nat, M3.2.1 i 4 = some j6 ∧ (m_tp n j6 4 ∧ (wp_X4_countParts n M3 j6 (fun r9 M7 => ∃ j10 : Nat, M7.2.1 i 0 = some j10 ∧ (m_tp n j10 5 ∧ (((((M7.1 j10 5) + r9) ≤ 10 → wp_X6_remember n M7 i (fun M12 => ∃ j14 : Nat, M12.2.1 i 4 = some j14 ∧ (m_tp n j14 4 ∧ (wp_X4_begin n M12 j14 (fun M15 => ∃ f : Nat, wpL_X6_addAll_65 n P T f M15 i r9 0))))) ∧ (¬ ((M7.1 j10 5) + r9) ≤ 10 → T "java/lang/IllegalStateException" M7)))))))) ∧ (z5 = false → T "java/lang/IllegalArgumentException" M3))))))
abbrev rm_X6_addAll : Room := { frames := 6, cells := 1, slots := 6, locals := 105 }
set_option maxHeartbeats 4000000 in
set_option maxRecDepth 100000 in
theorem c_X6_addAll {l : Launch} (hlt : l.stackTraces = false) {D : va_G} {cA : Nat → ClassId} {b n : Nat} {M : Mem} {i : Nat} {P : Int32 → Mem → Prop} {T : String → Mem → Prop} (h : wp_X6_addAll n M i P T) : m_CX l D cA b n M yX6_addAll (Cond.code yX6_addAll cX6_addAll 3 (some .int)) rm_X6_addAll [.ref (b + i)] (rI P) T := by
  refine m_enterX (by decide) (Nat.le_of_ble_eq_true rfl) (fun p e s m below meth c C hr hlk ht hZ hK hP hS ls hl => ?_)
  have hx := C.1
  have hb := C.2.1
  have hl : lv_has ls 3 [(0, .ref (b + i))] := hl
  have L65 : ∀ f : Nat, ∀ (M : Mem) (H : Heap) (locs : List Loc) (ls : Array Slot) (x0 : Nat) (x1 : Int32) (x2 : Int32), wpL_X6_addAll_65 n P T f M x0 x1 x2 → m_H D cA b n M H → va_S (m_A b) s.heap H locs → lv_has ls 3 [(0, .ref (b + x0)), (1, .int x1), (2, .int x2)] → W p l e rm_X6_addAll s m ([.ref (b + i)] : List Value).toArray below meth c H locs 0 0 (vx_MQ below (m_Q D cA b n (rI P)) (m_X D cA b n T) ([.ref (b + i)] : List Value).toArray s 1 6 (m_A b)) (F0 m 65 ls []) := by
    clear h
    intro f
    induction f with
    | zero => intro M H locs ls x0 x1 x2 h; exact h.elim
    | succ f ih =>
      intro M H locs ls x0 x1 x2 h hP hS hl
      have h : wpB_X6_addAll_65 n P T (wpL_X6_addAll_65 n P T f) M x0 x1 x2 := h
      unfold wpB_X6_addAll_65 at h
      refine lv_iload_n (pc := 65) hx hb dX6_addAll_65 rfl (lv_at hl 2 rfl) ?_
      refine lv_iload_n (pc := 66) hx hb dX6_addAll_66 rfl (lv_at hl 1 rfl) ?_
      refine lv_icmp_ge (tgt := 126) (pc := 67) hx hb dX6_addAll_67 (by decide) (fun c67 => ?_) (fun c67 => ?_)
      · replace h := h.1 c67
        refine lv_aload_n (pc := 126) hx hb dX6_addAll_126 rfl (lv_at hl 0 rfl) ?_
        obtain ⟨hk18, h⟩ := h
        obtain ⟨j19, hj19, h⟩ := h
        refine gX6_26 (pc := 127) C hK hP hk18 hj19 dX6_addAll_127 ?_
        obtain ⟨hk21, h⟩ := h
        refine m_callVI (pc := 130) (y := yX4_empty) (κ := 4) (As := []) (rest := []) C hK hP hS hl.1 ⟨Nat.zero_le _, Nat.zero_le _⟩ (c_X4_empty h) rfl rfl hk21 (by decide) rfl q_289 q_290 q_291 q_7 q_292 ⟨rfl, rfl⟩ yd_X4_empty ⟨Nat.le_of_ble_eq_true rfl, Nat.le_of_ble_eq_true rfl⟩ (Nat.le_of_ble_eq_true rfl) dX6_addAll_130 (fun r22 M20 H locs h hP hS => ?_)
        refine lv_pop (pc := 133) hx hb dX6_addAll_133 rfl ?_
        refine lv_aload_n (pc := 134) hx hb dX6_addAll_134 rfl (lv_at hl 0 rfl) ?_
        obtain ⟨j23, hj23, h⟩ := h
        refine gX6_10 (pc := 135) C hK hP hk18 hj23 dX6_addAll_135 ?_
        obtain ⟨hk24, h⟩ := h
        refine gX6_113 (pc := 138) C hK hP hk24 dX6_addAll_138 ?_
        exact m_retX (m_iret (v := M20.1 j23 5) (pc := 141) C hr hlk hP hS dX6_addAll_141 h)
      · replace h := h.2 c67
        refine lv_aload_n (pc := 70) hx hb dX6_addAll_70 rfl (lv_at hl 0 rfl) ?_
        obtain ⟨hk25, h⟩ := h
        obtain ⟨j26, hj26, h⟩ := h
        refine gX6_26 (pc := 71) C hK hP hk25 hj26 dX6_addAll_71 ?_
        obtain ⟨hk28, h⟩ := h
        refine m_callVV (pc := 74) (y := yX4_readPart) (κ := 4) (As := []) (rest := []) C hK hP hS hl.1 ⟨Nat.zero_le _, Nat.zero_le _⟩ (c_X4_readPart h) rfl rfl hk28 (by decide) rfl q_831 q_832 q_833 q_7 q_834 ⟨rfl, rfl⟩ yd_X4_readPart ⟨Nat.le_of_ble_eq_true rfl, Nat.le_of_ble_eq_true rfl⟩ (Nat.le_of_ble_eq_true rfl) dX6_addAll_74 (fun M27 H locs h hP hS => ?_)
        refine lv_aload_n (pc := 77) hx hb dX6_addAll_77 rfl (lv_at hl 0 rfl) ?_
        obtain ⟨j30, hj30, h⟩ := h
        refine gX6_10 (pc := 78) C hK hP hk25 hj30 dX6_addAll_78 ?_
        refine lv_aload_n (pc := 81) hx hb dX6_addAll_81 rfl (lv_at hl 0 rfl) ?_
        obtain ⟨j31, hj31, h⟩ := h
        refine gX6_26 (pc := 82) C hK hP hk25 hj31 dX6_addAll_82 ?_
        obtain ⟨hk32, h⟩ := h
        refine gX6_196 (pc := 85) C hK hP hk32 dX6_addAll_85 ?_
        refine lv_aload_n (pc := 88) hx hb dX6_addAll_88 rfl (lv_at hl 0 rfl) ?_
        obtain ⟨j33, hj33, h⟩ := h
        refine gX6_26 (pc := 89) C hK hP hk25 hj33 dX6_addAll_89 ?_
        obtain ⟨hk34, h⟩ := h
        refine gX6_199 (pc := 92) C hK hP hk34 dX6_addAll_92 ?_
        refine lv_aload_n (pc := 95) hx hb dX6_addAll_95 rfl (lv_at hl 0 rfl) ?_
        obtain ⟨j35, hj35, h⟩ := h
        refine gX6_26 (pc := 96) C hK hP hk25 hj35 dX6_addAll_96 ?_
        obtain ⟨hk36, h⟩ := h
        refine gX6_202 (pc := 99) C hK hP hk36 dX6_addAll_99 ?_
        refine lv_aload_n (pc := 102) hx hb dX6_addAll_102 rfl (lv_at hl 0 rfl) ?_
        obtain ⟨j37, hj37, h⟩ := h
        refine gX6_26 (pc := 103) C hK hP hk25 hj37 dX6_addAll_103 ?_
        obtain ⟨hk38, h⟩ := h
        refine gX6_205 (pc := 106) C hK hP hk38 dX6_addAll_106 ?_
        refine lv_aload_n (pc := 109) hx hb dX6_addAll_109 rfl (lv_at hl 0 rfl) ?_
        obtain ⟨j39, hj39, h⟩ := h
        refine gX6_26 (pc := 110) C hK hP hk25 hj39 dX6_addAll_110 ?_
        obtain ⟨hk40, h⟩ := h
        refine gX6_208 (pc := 113) C hK hP hk40 dX6_addAll_113 ?_
        obtain ⟨hk42, h⟩ := h
        refine m_callVI (pc := 116) (y := yX5_addJob) (κ := 5) (As := [.int (M27.1 j31 5), .int (M27.1 j33 6), .int (M27.1 j35 4), .int (M27.1 j37 7), .int (bI (M27.1 j39 8 != 0))]) (rest := []) C hK hP hS hl.1 ⟨Nat.zero_le _, Nat.zero_le _⟩ (c_X5_addJob h) rfl rfl hk42 (by decide) rfl q_745 q_746 q_747 q_2 q_748 ⟨rfl, rfl⟩ yd_X5_addJob ⟨Nat.le_of_ble_eq_true rfl, Nat.le_of_ble_eq_true rfl⟩ (Nat.le_of_ble_eq_true rfl) dX6_addAll_116 (fun r43 M41 H locs h hP hS => ?_)
        refine lv_pop (pc := 119) hx hb dX6_addAll_119 rfl ?_
        obtain ⟨v44, ev44⟩ : ∃ y : Int32, y = x2 + 1 := ⟨_, rfl⟩
        replace h := h v44 ev44
        refine lv_iinc (v := v44) (lv' := [(2, .int v44), (0, .ref (b + x0)), (1, .int x1)]) (pc := 120) hx hb dX6_addAll_120 hl (k := 2) rfl (by rw [ev44]; rfl) (by decide) rfl (fun ls hl => ?_)
        refine lv_goto (tgt := 65) (pc := 123) hx hb dX6_addAll_123 (by decide) ?_
        exact ih _ _ _ _ _ _ _ h hP hS (lv_sub hl [1, 2, 0] rfl)
  unfold wp_X6_addAll at h
  refine lv_aload_n (pc := 0) hx hb dX6_addAll_0 rfl (lv_at hl 0 rfl) ?_
  obtain ⟨hk1, h⟩ := h
  obtain ⟨j2, hj2, h⟩ := h
  refine gX6_26 (pc := 1) C hK hP hk1 hj2 dX6_addAll_1 ?_
  obtain ⟨hk4, h⟩ := h
  refine m_callVZ (pc := 4) (y := yX4_isComplete) (κ := 4) (As := []) (rest := []) C hK hP hS hl.1 ⟨Nat.zero_le _, Nat.zero_le _⟩ (c_X4_isComplete h) rfl rfl hk4 (by decide) rfl q_820 q_821 q_822 q_7 q_823 ⟨rfl, rfl⟩ yd_X4_isComplete ⟨Nat.le_of_ble_eq_true rfl, Nat.le_of_ble_eq_true rfl⟩ (Nat.le_of_ble_eq_true rfl) dX6_addAll_4 (fun z5 M3 H locs h hP hS => ?_)
  refine lv_if_ne (tgt := 20) (pc := 7) hx hb dX6_addAll_7 (by decide) (fun c7 => ?_) (fun c7 => ?_)
  · replace h := h.1 (bZ1 c7)
    refine lv_aload_n (pc := 20) hx hb dX6_addAll_20 rfl (lv_at hl 0 rfl) ?_
    obtain ⟨j6, hj6, h⟩ := h
    refine gX6_26 (pc := 21) C hK hP hk1 hj6 dX6_addAll_21 ?_
    obtain ⟨hk8, h⟩ := h
    refine m_callVI (pc := 24) (y := yX4_countParts) (κ := 4) (As := []) (rest := []) C hK hP hS hl.1 ⟨Nat.zero_le _, Nat.zero_le _⟩ (c_X4_countParts h) rfl rfl hk8 (by decide) rfl q_826 q_827 q_828 q_7 q_829 ⟨rfl, rfl⟩ yd_X4_countParts ⟨Nat.le_of_ble_eq_true rfl, Nat.le_of_ble_eq_true rfl⟩ (Nat.le_of_ble_eq_true rfl) dX6_addAll_24 (fun r9 M7 H locs h hP hS => ?_)
    refine lv_istore_n (lv' := [(1, .int r9), (0, .ref (b + i))]) (pc := 27) hx hb dX6_addAll_27 rfl hl (by decide) rfl (fun ls hl => ?_)
    refine lv_aload_n (pc := 28) hx hb dX6_addAll_28 rfl (lv_at hl 1 rfl) ?_
    obtain ⟨j10, hj10, h⟩ := h
    refine gX6_10 (pc := 29) C hK hP hk1 hj10 dX6_addAll_29 ?_
    obtain ⟨hk11, h⟩ := h
    refine gX6_113 (pc := 32) C hK hP hk11 dX6_addAll_32 ?_
    refine lv_iload_n (pc := 35) hx hb dX6_addAll_35 rfl (lv_at hl 0 rfl) ?_
    refine lv_iadd (pc := 36) hx hb dX6_addAll_36 ?_
    refine lv_bipush (v := 10) (pc := 37) hx hb dX6_addAll_37 (by decide) ?_
    refine lv_icmp_le (tgt := 52) (pc := 39) hx hb dX6_addAll_39 (by decide) (fun c39 => ?_) (fun c39 => ?_)
    · replace h := h.1 c39
      refine lv_aload_n (pc := 52) hx hb dX6_addAll_52 rfl (lv_at hl 1 rfl) ?_
      refine m_callVV (pc := 53) (y := yX6_remember) (κ := 6) (As := []) (rest := []) C hK hP hS hl.1 ⟨Nat.zero_le _, Nat.zero_le _⟩ (c_X6_remember h) rfl rfl hk1 (by decide) rfl q_696 q_698 q_s32 q_1 q_699 ⟨rfl, rfl⟩ yd_X6_remember ⟨Nat.le_of_ble_eq_true rfl, Nat.le_of_ble_eq_true rfl⟩ (Nat.le_of_ble_eq_true rfl) dX6_addAll_53 (fun M12 H locs h hP hS => ?_)
      refine lv_aload_n (pc := 56) hx hb dX6_addAll_56 rfl (lv_at hl 1 rfl) ?_
      obtain ⟨j14, hj14, h⟩ := h
      refine gX6_26 (pc := 57) C hK hP hk1 hj14 dX6_addAll_57 ?_
      obtain ⟨hk16, h⟩ := h
      refine m_callVV (pc := 60) (y := yX4_begin) (κ := 4) (As := []) (rest := []) C hK hP hS hl.1 ⟨Nat.zero_le _, Nat.zero_le _⟩ (c_X4_begin h) rfl rfl hk16 (by decide) rfl q_830 q_302 q_303 q_7 q_304 ⟨rfl, rfl⟩ yd_X4_begin ⟨Nat.le_of_ble_eq_true rfl, Nat.le_of_ble_eq_true rfl⟩ (Nat.le_of_ble_eq_true rfl) dX6_addAll_60 (fun M15 H locs h hP hS => ?_)
      refine lv_iconst (v := 0) (pc := 63) hx hb dX6_addAll_63 (by decide) ?_
      refine lv_istore_n (lv' := [(2, .int 0), (1, .int r9), (0, .ref (b + i))]) (pc := 64) hx hb dX6_addAll_64 rfl hl (by decide) rfl (fun ls hl => ?_)
      obtain ⟨f, h⟩ := h
      exact L65 f _ _ _ _ _ _ _ h hP hS (lv_sub hl [2, 1, 0] rfl)
    · replace h := h.2 c39
      exact m_throw1 (pc := 42) (is := 116) (text := "too many jobs") hlt C hlk ht hZ hP hS hl (by decide +kernel) q_680 q_14 ⟨⟨Nat.le_of_ble_eq_true rfl, Nat.le_of_ble_eq_true rfl⟩, Nat.le_of_ble_eq_true rfl, Nat.le_of_ble_eq_true rfl⟩ dX6_addAll_42 dX6_addAll_45 dX6_addAll_46 dX6_addAll_48 dX6_addAll_51 h
  · replace h := h.2 (bZ0 c7)
    exact m_throw0 (pc := 10) (is := 185) (text := "no jobs as a text") hlt C hlk ht hZ hP hS hl (by decide +kernel) q_663 q_13 ⟨⟨Nat.le_of_ble_eq_true rfl, Nat.le_of_ble_eq_true rfl⟩, Nat.le_of_ble_eq_true rfl, Nat.le_of_ble_eq_true rfl⟩ dX6_addAll_10 dX6_addAll_13 dX6_addAll_14 dX6_addAll_16 dX6_addAll_19 h
/-! ForgeHeats.undo ()I -/
def wp_X6_undo (n : Nat) (M : Mem) (i : Nat) (P : Int32 → Mem → Prop) (T : String → Mem → Prop) : Prop := m_tp n i 6 ∧ (wp_X6_pastAt n M i ((M.1 i 3) - 1) (fun o3 M2 => ((o3 = none → T "java/lang/IllegalStateException" M2) ∧ (∀ j4 : Nat, o3 = some j4 → ∃ j5 : Nat, M2.2.1 i 0 = some j5 ∧ (m_tp n j5 5 ∧ (wp_X5_copyFrom n M2 j5 j4 (fun M6 => ∀ M9 : Mem, M9 = uI M6 i 3 ((M6.1 i 3) - 1) → (P (M9.1 i 3) M9))))))))
abbrev rm_X6_undo : Room := { frames := 6, cells := 1, slots := 6, locals := 90 }
set_option maxHeartbeats 4000000 in
set_option maxRecDepth 100000 in
theorem c_X6_undo {l : Launch} (hlt : l.stackTraces = false) {D : va_G} {cA : Nat → ClassId} {b n : Nat} {M : Mem} {i : Nat} {P : Int32 → Mem → Prop} {T : String → Mem → Prop} (h : wp_X6_undo n M i P T) : m_CX l D cA b n M yX6_undo (Cond.code yX6_undo cX6_undo 2 (some .int)) rm_X6_undo [.ref (b + i)] (rI P) T := by
  refine m_enterX (by decide) (Nat.le_of_ble_eq_true rfl) (fun p e s m below meth c C hr hlk ht hZ hK hP hS ls hl => ?_)
  have hx := C.1
  have hb := C.2.1
  have hl : lv_has ls 2 [(0, .ref (b + i))] := hl
  unfold wp_X6_undo at h
  refine lv_aload_n (pc := 0) hx hb dX6_undo_0 rfl (lv_at hl 0 rfl) ?_
  refine lv_aload_n (pc := 1) hx hb dX6_undo_1 rfl (lv_at hl 0 rfl) ?_
  obtain ⟨hk1, h⟩ := h
  refine gX6_212 (pc := 2) C hK hP hk1 dX6_undo_2 ?_
  refine lv_iconst (v := 1) (pc := 5) hx hb dX6_undo_5 (by decide) ?_
  refine lv_isub (pc := 6) hx hb dX6_undo_6 ?_
  refine m_callVO (pc := 7) (y := yX6_pastAt) (κ := 6) (As := [.int ((M.1 i 3) - 1)]) (rest := []) C hK hP hS hl.1 ⟨Nat.zero_le _, Nat.zero_le _⟩ (c_X6_pastAt h) rfl rfl hk1 (by decide) rfl q_704 q_706 q_s34 q_1 q_707 ⟨rfl, rfl⟩ yd_X6_pastAt ⟨Nat.le_of_ble_eq_true rfl, Nat.le_of_ble_eq_true rfl⟩ (Nat.le_of_ble_eq_true rfl) dX6_undo_7 (fun o3 M2 H locs h hP hS => ?_)
  refine m_astO_n (lv' := [(1, va_rf ((o3).map (fun j => b + j))), (0, .ref (b + i))]) hx hb (pc := 10) dX6_undo_10 rfl hl (by decide) rfl (fun ls hl => ?_)
  refine m_aldO_n hx hb (pc := 11) dX6_undo_11 rfl (lv_at hl 0 rfl) ?_
  rcases eo : o3 with _ | j4
  · replace h := h.1 eo
    refine lv_ifnonnullN (pc := 12) hx hb dX6_undo_12 ?_
    try rw [eo] at hl
    exact m_throw1 (pc := 15) (is := 219) (text := "no saved state") hlt C hlk ht hZ hP hS hl (by decide +kernel) q_680 q_14 ⟨⟨Nat.le_of_ble_eq_true rfl, Nat.le_of_ble_eq_true rfl⟩, Nat.le_of_ble_eq_true rfl, Nat.le_of_ble_eq_true rfl⟩ dX6_undo_15 dX6_undo_18 dX6_undo_19 dX6_undo_21 dX6_undo_24 h
  · replace h := h.2 j4 eo
    refine lv_ifnonnull (tgt := 25) (pc := 12) hx hb dX6_undo_12 (by decide) ?_
    try rw [eo] at hl
    refine lv_aload_n (pc := 25) hx hb dX6_undo_25 rfl (lv_at hl 1 rfl) ?_
    obtain ⟨j5, hj5, h⟩ := h
    refine gX6_10 (pc := 26) C hK hP hk1 hj5 dX6_undo_26 ?_
    refine lv_aload_n (pc := 29) hx hb dX6_undo_29 rfl (lv_at hl 0 rfl) ?_
    obtain ⟨hk7, h⟩ := h
    refine m_callVV (pc := 30) (y := yX5_copyFrom) (κ := 5) (As := [.ref (b + j4)]) (rest := []) C hK hP hS hl.1 ⟨Nat.zero_le _, Nat.zero_le _⟩ (c_X5_copyFrom h) rfl rfl hk7 (by decide) rfl q_448 q_449 q_450 q_2 q_451 ⟨rfl, rfl⟩ yd_X5_copyFrom ⟨Nat.le_of_ble_eq_true rfl, Nat.le_of_ble_eq_true rfl⟩ (Nat.le_of_ble_eq_true rfl) dX6_undo_30 (fun M6 H locs h hP hS => ?_)
    refine lv_aload_n (pc := 33) hx hb dX6_undo_33 rfl (lv_at hl 1 rfl) ?_
    refine lv_dup (pc := 34) hx hb dX6_undo_34 rfl ?_
    refine gX6_212 (pc := 35) C hK hP hk1 dX6_undo_35 ?_
    refine lv_iconst (v := 1) (pc := 38) hx hb dX6_undo_38 (by decide) ?_
    refine lv_isub (pc := 39) hx hb dX6_undo_39 ?_
    refine pX6_212 (pc := 40) (v := (M6.1 i 3) - 1) C hK hP hS hk1 dX6_undo_40 (fun M9 H locs eM9 hP hS => ?_)
    replace h := h M9 eM9
    refine lv_aload_n (pc := 43) hx hb dX6_undo_43 rfl (lv_at hl 1 rfl) ?_
    refine gX6_212 (pc := 44) C hK hP hk1 dX6_undo_44 ?_
    exact m_retX (m_iret (v := M9.1 i 3) (pc := 47) C hr hlk hP hS dX6_undo_47 h)
/-! ForgeHeats.heat (II)I -/
def wp_X6_heat (n : Nat) (M : Mem) (i : Nat) (p1 : Int32) (p2 : Int32) (P : Int32 → Mem → Prop) (T : String → Mem → Prop) : Prop := wp_X6_isWithin n M p1 0 3 (fun z2 M1 => ((z2 = true → wp_X6_isWithin n M1 p2 0 6 (fun z4 M3 => ((z4 = true → m_tp n i 6 ∧ (∃ j6 : Nat, M3.2.1 i 0 = some j6 ∧ (m_tp n j6 5 ∧ (wp_X5_heatProperty n M3 j6 p1 p2 (fun r9 M7 => P r9 M7))))) ∧ (z4 = false → T "java/lang/IllegalArgumentException" M3)))) ∧ (z2 = false → T "java/lang/IndexOutOfBoundsException" M1)))
abbrev rm_X6_heat : Room := { frames := 6, cells := 1, slots := 6, locals := 90 }
set_option maxHeartbeats 4000000 in
set_option maxRecDepth 100000 in
theorem c_X6_heat {l : Launch} (hlt : l.stackTraces = false) {D : va_G} {cA : Nat → ClassId} {b n : Nat} {M : Mem} {i : Nat} {p1 : Int32} {p2 : Int32} {P : Int32 → Mem → Prop} {T : String → Mem → Prop} (h : wp_X6_heat n M i p1 p2 P T) : m_CX l D cA b n M yX6_heat (Cond.code yX6_heat cX6_heat 3 (some .int)) rm_X6_heat [.ref (b + i), .int p1, .int p2] (rI P) T := by
  refine m_enterX (by decide) (Nat.le_of_ble_eq_true rfl) (fun p e s m below meth c C hr hlk ht hZ hK hP hS ls hl => ?_)
  have hx := C.1
  have hb := C.2.1
  have hl : lv_has ls 3 [(0, .ref (b + i)), (1, .int p1), (2, .int p2)] := hl
  unfold wp_X6_heat at h
  refine lv_iload_n (pc := 0) hx hb dX6_heat_0 rfl (lv_at hl 1 rfl) ?_
  refine lv_iconst (v := 0) (pc := 1) hx hb dX6_heat_1 (by decide) ?_
  refine lv_iconst (v := 3) (pc := 2) hx hb dX6_heat_2 (by decide) ?_
  refine m_callSZ (pc := 3) (y := yX6_isWithin) (As := [.int p1, .int 0, .int 3]) (rest := []) C hK hP hS hl.1 ⟨Nat.zero_le _, Nat.zero_le _⟩ (c_X6_isWithin h) rfl rfl q_592 q_593 q_1 q_594 ⟨rfl, rfl⟩ yd_X6_isWithin ⟨Nat.le_of_ble_eq_true rfl, Nat.le_of_ble_eq_true rfl⟩ (Nat.le_of_ble_eq_true rfl) dX6_heat_3 (fun z2 M1 H locs h hP hS => ?_)
  refine lv_if_ne (tgt := 19) (pc := 6) hx hb dX6_heat_6 (by decide) (fun c6 => ?_) (fun c6 => ?_)
  · replace h := h.1 (bZ1 c6)
    refine lv_iload_n (pc := 19) hx hb dX6_heat_19 rfl (lv_at hl 2 rfl) ?_
    refine lv_iconst (v := 0) (pc := 20) hx hb dX6_heat_20 (by decide) ?_
    refine lv_bipush (v := 6) (pc := 21) hx hb dX6_heat_21 (by decide) ?_
    refine m_callSZ (pc := 23) (y := yX6_isWithin) (As := [.int p2, .int 0, .int 6]) (rest := []) C hK hP hS hl.1 ⟨Nat.zero_le _, Nat.zero_le _⟩ (c_X6_isWithin h) rfl rfl q_592 q_593 q_1 q_594 ⟨rfl, rfl⟩ yd_X6_isWithin ⟨Nat.le_of_ble_eq_true rfl, Nat.le_of_ble_eq_true rfl⟩ (Nat.le_of_ble_eq_true rfl) dX6_heat_23 (fun z4 M3 H locs h hP hS => ?_)
    refine lv_if_ne (tgt := 39) (pc := 26) hx hb dX6_heat_26 (by decide) (fun c26 => ?_) (fun c26 => ?_)
    · replace h := h.1 (bZ1 c26)
      refine lv_aload_n (pc := 39) hx hb dX6_heat_39 rfl (lv_at hl 0 rfl) ?_
      obtain ⟨hk5, h⟩ := h
      obtain ⟨j6, hj6, h⟩ := h
      refine gX6_10 (pc := 40) C hK hP hk5 hj6 dX6_heat_40 ?_
      refine lv_iload_n (pc := 43) hx hb dX6_heat_43 rfl (lv_at hl 1 rfl) ?_
      refine lv_iload_n (pc := 44) hx hb dX6_heat_44 rfl (lv_at hl 2 rfl) ?_
      obtain ⟨hk8, h⟩ := h
      refine m_callVI (pc := 45) (y := yX5_heatProperty) (κ := 5) (As := [.int p1, .int p2]) (rest := []) C hK hP hS hl.1 ⟨Nat.zero_le _, Nat.zero_le _⟩ (c_X5_heatProperty h) rfl rfl hk8 (by decide) rfl q_394 q_395 q_396 q_2 q_397 ⟨rfl, rfl⟩ yd_X5_heatProperty ⟨Nat.le_of_ble_eq_true rfl, Nat.le_of_ble_eq_true rfl⟩ (Nat.le_of_ble_eq_true rfl) dX6_heat_45 (fun r9 M7 H locs h hP hS => ?_)
      exact m_retX (m_iret (v := r9) (pc := 48) C hr hlk hP hS dX6_heat_48 h)
    · replace h := h.2 (bZ0 c26)
      exact m_throw0 (pc := 29) (is := 225) (text := "no such property") hlt C hlk ht hZ hP hS hl (by decide +kernel) q_663 q_13 ⟨⟨Nat.le_of_ble_eq_true rfl, Nat.le_of_ble_eq_true rfl⟩, Nat.le_of_ble_eq_true rfl, Nat.le_of_ble_eq_true rfl⟩ dX6_heat_29 dX6_heat_32 dX6_heat_33 dX6_heat_35 dX6_heat_38 h
  · replace h := h.2 (bZ0 c6)
    exact m_throw2 (pc := 9) (is := 36) (text := "no such heat") hlt C hlk ht hZ hP hS hl (by decide +kernel) q_595 q_12 ⟨⟨Nat.le_of_ble_eq_true rfl, Nat.le_of_ble_eq_true rfl⟩, Nat.le_of_ble_eq_true rfl, Nat.le_of_ble_eq_true rfl⟩ dX6_heat_9 dX6_heat_12 dX6_heat_13 dX6_heat_15 dX6_heat_18 h
/-! ForgeHeats.dieOf (II)I -/
def wp_X6_dieOf (n : Nat) (M : Mem) (i : Nat) (p1 : Int32) (p2 : Int32) (P : Int32 → Mem → Prop) (T : String → Mem → Prop) : Prop := wp_X6_isWithin n M p1 0 4 (fun z2 M1 => ((z2 = true → wp_X6_isWithin n M1 p2 0 5 (fun z4 M3 => ((z4 = true → m_tp n i 6 ∧ (∃ j6 : Nat, M3.2.1 i 0 = some j6 ∧ (m_tp n j6 5 ∧ (wp_X5_dieAt n M3 j6 p1 (fun j9 M7 => m_tp n j9 1 ∧ (wp_X1_property n M7 j9 p2 (fun r12 M10 => P r12 M10))))))) ∧ (z4 = false → T "java/lang/IllegalArgumentException" M3)))) ∧ (z2 = false → T "java/lang/IndexOutOfBoundsException" M1)))
abbrev rm_X6_dieOf : Room := { frames := 6, cells := 1, slots := 6, locals := 90 }
set_option maxHeartbeats 4000000 in
set_option maxRecDepth 100000 in
theorem c_X6_dieOf {l : Launch} (hlt : l.stackTraces = false) {D : va_G} {cA : Nat → ClassId} {b n : Nat} {M : Mem} {i : Nat} {p1 : Int32} {p2 : Int32} {P : Int32 → Mem → Prop} {T : String → Mem → Prop} (h : wp_X6_dieOf n M i p1 p2 P T) : m_CX l D cA b n M yX6_dieOf (Cond.code yX6_dieOf cX6_dieOf 3 (some .int)) rm_X6_dieOf [.ref (b + i), .int p1, .int p2] (rI P) T := by
  refine m_enterX (by decide) (Nat.le_of_ble_eq_true rfl) (fun p e s m below meth c C hr hlk ht hZ hK hP hS ls hl => ?_)
  have hx := C.1
  have hb := C.2.1
  have hl : lv_has ls 3 [(0, .ref (b + i)), (1, .int p1), (2, .int p2)] := hl
  unfold wp_X6_dieOf at h
  refine lv_iload_n (pc := 0) hx hb dX6_dieOf_0 rfl (lv_at hl 1 rfl) ?_
  refine lv_iconst (v := 0) (pc := 1) hx hb dX6_dieOf_1 (by decide) ?_
  refine lv_iconst (v := 4) (pc := 2) hx hb dX6_dieOf_2 (by decide) ?_
  refine m_callSZ (pc := 3) (y := yX6_isWithin) (As := [.int p1, .int 0, .int 4]) (rest := []) C hK hP hS hl.1 ⟨Nat.zero_le _, Nat.zero_le _⟩ (c_X6_isWithin h) rfl rfl q_592 q_593 q_1 q_594 ⟨rfl, rfl⟩ yd_X6_isWithin ⟨Nat.le_of_ble_eq_true rfl, Nat.le_of_ble_eq_true rfl⟩ (Nat.le_of_ble_eq_true rfl) dX6_dieOf_3 (fun z2 M1 H locs h hP hS => ?_)
  refine lv_if_ne (tgt := 19) (pc := 6) hx hb dX6_dieOf_6 (by decide) (fun c6 => ?_) (fun c6 => ?_)
  · replace h := h.1 (bZ1 c6)
    refine lv_iload_n (pc := 19) hx hb dX6_dieOf_19 rfl (lv_at hl 2 rfl) ?_
    refine lv_iconst (v := 0) (pc := 20) hx hb dX6_dieOf_20 (by decide) ?_
    refine lv_iconst (v := 5) (pc := 21) hx hb dX6_dieOf_21 (by decide) ?_
    refine m_callSZ (pc := 22) (y := yX6_isWithin) (As := [.int p2, .int 0, .int 5]) (rest := []) C hK hP hS hl.1 ⟨Nat.zero_le _, Nat.zero_le _⟩ (c_X6_isWithin h) rfl rfl q_592 q_593 q_1 q_594 ⟨rfl, rfl⟩ yd_X6_isWithin ⟨Nat.le_of_ble_eq_true rfl, Nat.le_of_ble_eq_true rfl⟩ (Nat.le_of_ble_eq_true rfl) dX6_dieOf_22 (fun z4 M3 H locs h hP hS => ?_)
    refine lv_if_ne (tgt := 38) (pc := 25) hx hb dX6_dieOf_25 (by decide) (fun c25 => ?_) (fun c25 => ?_)
    · replace h := h.1 (bZ1 c25)
      refine lv_aload_n (pc := 38) hx hb dX6_dieOf_38 rfl (lv_at hl 0 rfl) ?_
      obtain ⟨hk5, h⟩ := h
      obtain ⟨j6, hj6, h⟩ := h
      refine gX6_10 (pc := 39) C hK hP hk5 hj6 dX6_dieOf_39 ?_
      refine lv_iload_n (pc := 42) hx hb dX6_dieOf_42 rfl (lv_at hl 1 rfl) ?_
      obtain ⟨hk8, h⟩ := h
      refine m_callVR (pc := 43) (y := yX5_dieAt) (κ := 5) (As := [.int p1]) (rest := []) C hK hP hS hl.1 ⟨Nat.zero_le _, Nat.zero_le _⟩ (c_X5_dieAt h) rfl rfl hk8 (by decide) rfl q_410 q_375 q_376 q_2 q_377 ⟨rfl, rfl⟩ yd_X5_dieAt ⟨Nat.le_of_ble_eq_true rfl, Nat.le_of_ble_eq_true rfl⟩ (Nat.le_of_ble_eq_true rfl) dX6_dieOf_43 (fun j9 M7 H locs h hP hS => ?_)
      refine lv_iload_n (pc := 46) hx hb dX6_dieOf_46 rfl (lv_at hl 2 rfl) ?_
      obtain ⟨hk11, h⟩ := h
      refine m_callVI (pc := 47) (y := yX1_property) (κ := 1) (As := [.int p2]) (rest := []) C hK hP hS hl.1 ⟨Nat.zero_le _, Nat.zero_le _⟩ (c_X1_property h) rfl rfl hk11 (by decide) rfl q_411 q_412 q_413 q_4 q_414 ⟨rfl, rfl⟩ yd_X1_property ⟨Nat.le_of_ble_eq_true rfl, Nat.le_of_ble_eq_true rfl⟩ (Nat.le_of_ble_eq_true rfl) dX6_dieOf_47 (fun r12 M10 H locs h hP hS => ?_)
      exact m_retX (m_iret (v := r12) (pc := 50) C hr hlk hP hS dX6_dieOf_50 h)
    · replace h := h.2 (bZ0 c25)
      exact m_throw0 (pc := 28) (is := 225) (text := "no such property") hlt C hlk ht hZ hP hS hl (by decide +kernel) q_663 q_13 ⟨⟨Nat.le_of_ble_eq_true rfl, Nat.le_of_ble_eq_true rfl⟩, Nat.le_of_ble_eq_true rfl, Nat.le_of_ble_eq_true rfl⟩ dX6_dieOf_28 dX6_dieOf_31 dX6_dieOf_32 dX6_dieOf_34 dX6_dieOf_37 h
  · replace h := h.2 (bZ0 c6)
    exact m_throw2 (pc := 9) (is := 72) (text := "no such die") hlt C hlk ht hZ hP hS hl (by decide +kernel) q_595 q_12 ⟨⟨Nat.le_of_ble_eq_true rfl, Nat.le_of_ble_eq_true rfl⟩, Nat.le_of_ble_eq_true rfl, Nat.le_of_ble_eq_true rfl⟩ dX6_dieOf_9 dX6_dieOf_12 dX6_dieOf_13 dX6_dieOf_15 dX6_dieOf_18 h
/-! ForgeHeats.jobOf (II)I -/
def wp_X6_jobOf (n : Nat) (M : Mem) (i : Nat) (p1 : Int32) (p2 : Int32) (P : Int32 → Mem → Prop) (T : String → Mem → Prop) : Prop := ((p1 < 0 → T "java/lang/IllegalArgumentException" M) ∧ (¬ p1 < 0 → wp_X6_isWithin n M p2 0 7 (fun z2 M1 => ((z2 = true → m_tp n i 6 ∧ (∃ j4 : Nat, M1.2.1 i 0 = some j4 ∧ (m_tp n j4 5 ∧ ((((M1.1 j4 5) ≤ p1 → P (-1) M1) ∧ (¬ (M1.1 j4 5) ≤ p1 → ∃ j6 : Nat, M1.2.1 i 0 = some j6 ∧ (m_tp n j6 5 ∧ (wp_X5_jobProperty n M1 j6 p1 p2 (fun r9 M7 => P r9 M7))))))))) ∧ (z2 = false → T "java/lang/IllegalArgumentException" M1)))))
abbrev rm_X6_jobOf : Room := { frames := 6, cells := 1, slots := 6, locals := 94 }
set_option maxHeartbeats 4000000 in
set_option maxRecDepth 100000 in
theorem c_X6_jobOf {l : Launch} (hlt : l.stackTraces = false) {D : va_G} {cA : Nat → ClassId} {b n : Nat} {M : Mem} {i : Nat} {p1 : Int32} {p2 : Int32} {P : Int32 → Mem → Prop} {T : String → Mem → Prop} (h : wp_X6_jobOf n M i p1 p2 P T) : m_CX l D cA b n M yX6_jobOf (Cond.code yX6_jobOf cX6_jobOf 3 (some .int)) rm_X6_jobOf [.ref (b + i), .int p1, .int p2] (rI P) T := by
  refine m_enterX (by decide) (Nat.le_of_ble_eq_true rfl) (fun p e s m below meth c C hr hlk ht hZ hK hP hS ls hl => ?_)
  have hx := C.1
  have hb := C.2.1
  have hl : lv_has ls 3 [(0, .ref (b + i)), (1, .int p1), (2, .int p2)] := hl
  unfold wp_X6_jobOf at h
  refine lv_iload_n (pc := 0) hx hb dX6_jobOf_0 rfl (lv_at hl 1 rfl) ?_
  refine lv_if_lt (tgt := 14) (pc := 1) hx hb dX6_jobOf_1 (by decide) (fun c1 => ?_) (fun c1 => ?_)
  · replace h := h.1 c1
    exact m_throw0 (pc := 14) (is := 234) (text := "no such place or property") hlt C hlk ht hZ hP hS hl (by decide +kernel) q_663 q_13 ⟨⟨Nat.le_of_ble_eq_true rfl, Nat.le_of_ble_eq_true rfl⟩, Nat.le_of_ble_eq_true rfl, Nat.le_of_ble_eq_true rfl⟩ dX6_jobOf_14 dX6_jobOf_17 dX6_jobOf_18 dX6_jobOf_20 dX6_jobOf_23 h
  · replace h := h.2 c1
    refine lv_iload_n (pc := 4) hx hb dX6_jobOf_4 rfl (lv_at hl 2 rfl) ?_
    refine lv_iconst (v := 0) (pc := 5) hx hb dX6_jobOf_5 (by decide) ?_
    refine lv_bipush (v := 7) (pc := 6) hx hb dX6_jobOf_6 (by decide) ?_
    refine m_callSZ (pc := 8) (y := yX6_isWithin) (As := [.int p2, .int 0, .int 7]) (rest := []) C hK hP hS hl.1 ⟨Nat.zero_le _, Nat.zero_le _⟩ (c_X6_isWithin h) rfl rfl q_592 q_593 q_1 q_594 ⟨rfl, rfl⟩ yd_X6_isWithin ⟨Nat.le_of_ble_eq_true rfl, Nat.le_of_ble_eq_true rfl⟩ (Nat.le_of_ble_eq_true rfl) dX6_jobOf_8 (fun z2 M1 H locs h hP hS => ?_)
    refine lv_if_ne (tgt := 24) (pc := 11) hx hb dX6_jobOf_11 (by decide) (fun c11 => ?_) (fun c11 => ?_)
    · replace h := h.1 (bZ1 c11)
      refine lv_iload_n (pc := 24) hx hb dX6_jobOf_24 rfl (lv_at hl 1 rfl) ?_
      refine lv_aload_n (pc := 25) hx hb dX6_jobOf_25 rfl (lv_at hl 0 rfl) ?_
      obtain ⟨hk3, h⟩ := h
      obtain ⟨j4, hj4, h⟩ := h
      refine gX6_10 (pc := 26) C hK hP hk3 hj4 dX6_jobOf_26 ?_
      obtain ⟨hk5, h⟩ := h
      refine gX6_113 (pc := 29) C hK hP hk5 dX6_jobOf_29 ?_
      refine lv_icmp_ge (tgt := 47) (pc := 32) hx hb dX6_jobOf_32 (by decide) (fun c32 => ?_) (fun c32 => ?_)
      · replace h := h.1 c32
        refine lv_iconst (v := -1) (pc := 47) hx hb dX6_jobOf_47 (by decide) ?_
        exact m_retX (m_iret (v := (-1)) (pc := 48) C hr hlk hP hS dX6_jobOf_48 h)
      · replace h := h.2 c32
        refine lv_aload_n (pc := 35) hx hb dX6_jobOf_35 rfl (lv_at hl 0 rfl) ?_
        obtain ⟨j6, hj6, h⟩ := h
        refine gX6_10 (pc := 36) C hK hP hk3 hj6 dX6_jobOf_36 ?_
        refine lv_iload_n (pc := 39) hx hb dX6_jobOf_39 rfl (lv_at hl 1 rfl) ?_
        refine lv_iload_n (pc := 40) hx hb dX6_jobOf_40 rfl (lv_at hl 2 rfl) ?_
        obtain ⟨hk8, h⟩ := h
        refine m_callVI (pc := 41) (y := yX5_jobProperty) (κ := 5) (As := [.int p1, .int p2]) (rest := []) C hK hP hS hl.1 ⟨Nat.zero_le _, Nat.zero_le _⟩ (c_X5_jobProperty h) rfl rfl hk8 (by decide) rfl q_427 q_428 q_429 q_2 q_430 ⟨rfl, rfl⟩ yd_X5_jobProperty ⟨Nat.le_of_ble_eq_true rfl, Nat.le_of_ble_eq_true rfl⟩ (Nat.le_of_ble_eq_true rfl) dX6_jobOf_41 (fun r9 M7 H locs h hP hS => ?_)
        refine lv_goto (tgt := 48) (pc := 44) hx hb dX6_jobOf_44 (by decide) ?_
        exact m_retX (m_iret (v := r9) (pc := 48) C hr hlk hP hS dX6_jobOf_48 h)
    · replace h := h.2 (bZ0 c11)
      exact m_throw0 (pc := 14) (is := 234) (text := "no such place or property") hlt C hlk ht hZ hP hS hl (by decide +kernel) q_663 q_13 ⟨⟨Nat.le_of_ble_eq_true rfl, Nat.le_of_ble_eq_true rfl⟩, Nat.le_of_ble_eq_true rfl, Nat.le_of_ble_eq_true rfl⟩ dX6_jobOf_14 dX6_jobOf_17 dX6_jobOf_18 dX6_jobOf_20 dX6_jobOf_23 h
/-! ForgeHeats.billet (II)I -/
def wp_X6_billet (n : Nat) (M : Mem) (i : Nat) (p1 : Int32) (p2 : Int32) (P : Int32 → Mem → Prop) (T : String → Mem → Prop) : Prop := wp_X6_isWithin n M p1 0 6 (fun z2 M1 => ((z2 = true → wp_X6_isWithin n M1 p2 0 3 (fun z4 M3 => ((z4 = true → m_tp n i 6 ∧ (∃ j6 : Nat, M3.2.1 i 0 = some j6 ∧ (m_tp n j6 5 ∧ (wp_X5_billetAt n M3 j6 p1 (fun j9 M7 => m_tp n j9 0 ∧ (wp_X0_property n M7 j9 p2 (fun r12 M10 => P r12 M10))))))) ∧ (z4 = false → T "java/lang/IllegalArgumentException" M3)))) ∧ (z2 = false → T "java/lang/IndexOutOfBoundsException" M1)))
abbrev rm_X6_billet : Room := { frames := 6, cells := 1, slots := 6, locals := 90 }
set_option maxHeartbeats 4000000 in
set_option maxRecDepth 100000 in
theorem c_X6_billet {l : Launch} (hlt : l.stackTraces = false) {D : va_G} {cA : Nat → ClassId} {b n : Nat} {M : Mem} {i : Nat} {p1 : Int32} {p2 : Int32} {P : Int32 → Mem → Prop} {T : String → Mem → Prop} (h : wp_X6_billet n M i p1 p2 P T) : m_CX l D cA b n M yX6_billet (Cond.code yX6_billet cX6_billet 3 (some .int)) rm_X6_billet [.ref (b + i), .int p1, .int p2] (rI P) T := by
  refine m_enterX (by decide) (Nat.le_of_ble_eq_true rfl) (fun p e s m below meth c C hr hlk ht hZ hK hP hS ls hl => ?_)
  have hx := C.1
  have hb := C.2.1
  have hl : lv_has ls 3 [(0, .ref (b + i)), (1, .int p1), (2, .int p2)] := hl
  unfold wp_X6_billet at h
  refine lv_iload_n (pc := 0) hx hb dX6_billet_0 rfl (lv_at hl 1 rfl) ?_
  refine lv_iconst (v := 0) (pc := 1) hx hb dX6_billet_1 (by decide) ?_
  refine lv_bipush (v := 6) (pc := 2) hx hb dX6_billet_2 (by decide) ?_
  refine m_callSZ (pc := 4) (y := yX6_isWithin) (As := [.int p1, .int 0, .int 6]) (rest := []) C hK hP hS hl.1 ⟨Nat.zero_le _, Nat.zero_le _⟩ (c_X6_isWithin h) rfl rfl q_592 q_593 q_1 q_594 ⟨rfl, rfl⟩ yd_X6_isWithin ⟨Nat.le_of_ble_eq_true rfl, Nat.le_of_ble_eq_true rfl⟩ (Nat.le_of_ble_eq_true rfl) dX6_billet_4 (fun z2 M1 H locs h hP hS => ?_)
  refine lv_if_ne (tgt := 20) (pc := 7) hx hb dX6_billet_7 (by decide) (fun c7 => ?_) (fun c7 => ?_)
  · replace h := h.1 (bZ1 c7)
    refine lv_iload_n (pc := 20) hx hb dX6_billet_20 rfl (lv_at hl 2 rfl) ?_
    refine lv_iconst (v := 0) (pc := 21) hx hb dX6_billet_21 (by decide) ?_
    refine lv_iconst (v := 3) (pc := 22) hx hb dX6_billet_22 (by decide) ?_
    refine m_callSZ (pc := 23) (y := yX6_isWithin) (As := [.int p2, .int 0, .int 3]) (rest := []) C hK hP hS hl.1 ⟨Nat.zero_le _, Nat.zero_le _⟩ (c_X6_isWithin h) rfl rfl q_592 q_593 q_1 q_594 ⟨rfl, rfl⟩ yd_X6_isWithin ⟨Nat.le_of_ble_eq_true rfl, Nat.le_of_ble_eq_true rfl⟩ (Nat.le_of_ble_eq_true rfl) dX6_billet_23 (fun z4 M3 H locs h hP hS => ?_)
    refine lv_if_ne (tgt := 39) (pc := 26) hx hb dX6_billet_26 (by decide) (fun c26 => ?_) (fun c26 => ?_)
    · replace h := h.1 (bZ1 c26)
      refine lv_aload_n (pc := 39) hx hb dX6_billet_39 rfl (lv_at hl 0 rfl) ?_
      obtain ⟨hk5, h⟩ := h
      obtain ⟨j6, hj6, h⟩ := h
      refine gX6_10 (pc := 40) C hK hP hk5 hj6 dX6_billet_40 ?_
      refine lv_iload_n (pc := 43) hx hb dX6_billet_43 rfl (lv_at hl 1 rfl) ?_
      obtain ⟨hk8, h⟩ := h
      refine m_callVR (pc := 44) (y := yX5_billetAt) (κ := 5) (As := [.int p1]) (rest := []) C hK hP hS hl.1 ⟨Nat.zero_le _, Nat.zero_le _⟩ (c_X5_billetAt h) rfl rfl hk8 (by decide) rfl q_415 q_416 q_417 q_2 q_418 ⟨rfl, rfl⟩ yd_X5_billetAt ⟨Nat.le_of_ble_eq_true rfl, Nat.le_of_ble_eq_true rfl⟩ (Nat.le_of_ble_eq_true rfl) dX6_billet_44 (fun j9 M7 H locs h hP hS => ?_)
      refine lv_iload_n (pc := 47) hx hb dX6_billet_47 rfl (lv_at hl 2 rfl) ?_
      obtain ⟨hk11, h⟩ := h
      refine m_callVI (pc := 48) (y := yX0_property) (κ := 0) (As := [.int p2]) (rest := []) C hK hP hS hl.1 ⟨Nat.zero_le _, Nat.zero_le _⟩ (c_X0_property h) rfl rfl hk11 (by decide) rfl q_419 q_420 q_421 q_6 q_422 ⟨rfl, rfl⟩ yd_X0_property ⟨Nat.le_of_ble_eq_true rfl, Nat.le_of_ble_eq_true rfl⟩ (Nat.le_of_ble_eq_true rfl) dX6_billet_48 (fun r12 M10 H locs h hP hS => ?_)
      exact m_retX (m_iret (v := r12) (pc := 51) C hr hlk hP hS dX6_billet_51 h)
    · replace h := h.2 (bZ0 c26)
      exact m_throw0 (pc := 29) (is := 225) (text := "no such property") hlt C hlk ht hZ hP hS hl (by decide +kernel) q_663 q_13 ⟨⟨Nat.le_of_ble_eq_true rfl, Nat.le_of_ble_eq_true rfl⟩, Nat.le_of_ble_eq_true rfl, Nat.le_of_ble_eq_true rfl⟩ dX6_billet_29 dX6_billet_32 dX6_billet_33 dX6_billet_35 dX6_billet_38 h
  · replace h := h.2 (bZ0 c7)
    exact m_throw2 (pc := 10) (is := 239) (text := "no such place") hlt C hlk ht hZ hP hS hl (by decide +kernel) q_595 q_12 ⟨⟨Nat.le_of_ble_eq_true rfl, Nat.le_of_ble_eq_true rfl⟩, Nat.le_of_ble_eq_true rfl, Nat.le_of_ble_eq_true rfl⟩ dX6_billet_10 dX6_billet_13 dX6_billet_14 dX6_billet_16 dX6_billet_19 h
/-! ForgeHeats.count (I)I -/
def wp_X6_count (n : Nat) (M : Mem) (i : Nat) (p1 : Int32) (P : Int32 → Mem → Prop) (T : String → Mem → Prop) : Prop := wp_X6_isWithin n M p1 0 11 (fun z2 M1 => ((z2 = true → m_tp n i 6 ∧ (wp_X6_numberOf n M1 i p1 (fun r5 M3 => P r5 M3))) ∧ (z2 = false → T "java/lang/IllegalArgumentException" M1)))
abbrev rm_X6_count : Room := { frames := 6, cells := 1, slots := 6, locals := 90 }
set_option maxHeartbeats 4000000 in
set_option maxRecDepth 100000 in
theorem c_X6_count {l : Launch} (hlt : l.stackTraces = false) {D : va_G} {cA : Nat → ClassId} {b n : Nat} {M : Mem} {i : Nat} {p1 : Int32} {P : Int32 → Mem → Prop} {T : String → Mem → Prop} (h : wp_X6_count n M i p1 P T) : m_CX l D cA b n M yX6_count (Cond.code yX6_count cX6_count 2 (some .int)) rm_X6_count [.ref (b + i), .int p1] (rI P) T := by
  refine m_enterX (by decide) (Nat.le_of_ble_eq_true rfl) (fun p e s m below meth c C hr hlk ht hZ hK hP hS ls hl => ?_)
  have hx := C.1
  have hb := C.2.1
  have hl : lv_has ls 2 [(0, .ref (b + i)), (1, .int p1)] := hl
  unfold wp_X6_count at h
  refine lv_iload_n (pc := 0) hx hb dX6_count_0 rfl (lv_at hl 1 rfl) ?_
  refine lv_iconst (v := 0) (pc := 1) hx hb dX6_count_1 (by decide) ?_
  refine lv_bipush (v := 11) (pc := 2) hx hb dX6_count_2 (by decide) ?_
  refine m_callSZ (pc := 4) (y := yX6_isWithin) (As := [.int p1, .int 0, .int 11]) (rest := []) C hK hP hS hl.1 ⟨Nat.zero_le _, Nat.zero_le _⟩ (c_X6_isWithin h) rfl rfl q_592 q_593 q_1 q_594 ⟨rfl, rfl⟩ yd_X6_isWithin ⟨Nat.le_of_ble_eq_true rfl, Nat.le_of_ble_eq_true rfl⟩ (Nat.le_of_ble_eq_true rfl) dX6_count_4 (fun z2 M1 H locs h hP hS => ?_)
  refine lv_if_ne (tgt := 20) (pc := 7) hx hb dX6_count_7 (by decide) (fun c7 => ?_) (fun c7 => ?_)
  · replace h := h.1 (bZ1 c7)
    refine lv_aload_n (pc := 20) hx hb dX6_count_20 rfl (lv_at hl 0 rfl) ?_
    refine lv_iload_n (pc := 21) hx hb dX6_count_21 rfl (lv_at hl 1 rfl) ?_
    obtain ⟨hk4, h⟩ := h
    refine m_callVI (pc := 22) (y := yX6_numberOf) (κ := 6) (As := [.int p1]) (rest := []) C hK hP hS hl.1 ⟨Nat.zero_le _, Nat.zero_le _⟩ (c_X6_numberOf h) rfl rfl hk4 (by decide) rfl q_354 q_356 q_s6 q_1 q_357 ⟨rfl, rfl⟩ yd_X6_numberOf ⟨Nat.le_of_ble_eq_true rfl, Nat.le_of_ble_eq_true rfl⟩ (Nat.le_of_ble_eq_true rfl) dX6_count_22 (fun r5 M3 H locs h hP hS => ?_)
    exact m_retX (m_iret (v := r5) (pc := 25) C hr hlk hP hS dX6_count_25 h)
  · replace h := h.2 (bZ0 c7)
    exact m_throw0 (pc := 10) (is := 248) (text := "no such number") hlt C hlk ht hZ hP hS hl (by decide +kernel) q_663 q_13 ⟨⟨Nat.le_of_ble_eq_true rfl, Nat.le_of_ble_eq_true rfl⟩, Nat.le_of_ble_eq_true rfl, Nat.le_of_ble_eq_true rfl⟩ dX6_count_10 dX6_count_13 dX6_count_14 dX6_count_16 dX6_count_19 h
/-! ForgeHeats.setting (I)I -/
def wp_X6_setting (n : Nat) (M : Mem) (i : Nat) (p1 : Int32) (P : Int32 → Mem → Prop) (T : String → Mem → Prop) : Prop := wp_X6_isWithin n M p1 0 3 (fun z2 M1 => ((z2 = true → m_tp n i 6 ∧ (∃ j4 : Nat, M1.2.1 i 0 = some j4 ∧ (m_tp n j4 5 ∧ (wp_X5_valueOf n M1 j4 p1 (fun r7 M5 => P r7 M5))))) ∧ (z2 = false → T "java/lang/IndexOutOfBoundsException" M1)))
abbrev rm_X6_setting : Room := { frames := 6, cells := 1, slots := 6, locals := 90 }
set_option maxHeartbeats 4000000 in
set_option maxRecDepth 100000 in
theorem c_X6_setting {l : Launch} (hlt : l.stackTraces = false) {D : va_G} {cA : Nat → ClassId} {b n : Nat} {M : Mem} {i : Nat} {p1 : Int32} {P : Int32 → Mem → Prop} {T : String → Mem → Prop} (h : wp_X6_setting n M i p1 P T) : m_CX l D cA b n M yX6_setting (Cond.code yX6_setting cX6_setting 2 (some .int)) rm_X6_setting [.ref (b + i), .int p1] (rI P) T := by
  refine m_enterX (by decide) (Nat.le_of_ble_eq_true rfl) (fun p e s m below meth c C hr hlk ht hZ hK hP hS ls hl => ?_)
  have hx := C.1
  have hb := C.2.1
  have hl : lv_has ls 2 [(0, .ref (b + i)), (1, .int p1)] := hl
  unfold wp_X6_setting at h
  refine lv_iload_n (pc := 0) hx hb dX6_setting_0 rfl (lv_at hl 1 rfl) ?_
  refine lv_iconst (v := 0) (pc := 1) hx hb dX6_setting_1 (by decide) ?_
  refine lv_iconst (v := 3) (pc := 2) hx hb dX6_setting_2 (by decide) ?_
  refine m_callSZ (pc := 3) (y := yX6_isWithin) (As := [.int p1, .int 0, .int 3]) (rest := []) C hK hP hS hl.1 ⟨Nat.zero_le _, Nat.zero_le _⟩ (c_X6_isWithin h) rfl rfl q_592 q_593 q_1 q_594 ⟨rfl, rfl⟩ yd_X6_isWithin ⟨Nat.le_of_ble_eq_true rfl, Nat.le_of_ble_eq_true rfl⟩ (Nat.le_of_ble_eq_true rfl) dX6_setting_3 (fun z2 M1 H locs h hP hS => ?_)
  refine lv_if_ne (tgt := 19) (pc := 6) hx hb dX6_setting_6 (by decide) (fun c6 => ?_) (fun c6 => ?_)
  · replace h := h.1 (bZ1 c6)
    refine lv_aload_n (pc := 19) hx hb dX6_setting_19 rfl (lv_at hl 0 rfl) ?_
    obtain ⟨hk3, h⟩ := h
    obtain ⟨j4, hj4, h⟩ := h
    refine gX6_10 (pc := 20) C hK hP hk3 hj4 dX6_setting_20 ?_
    refine lv_iload_n (pc := 23) hx hb dX6_setting_23 rfl (lv_at hl 1 rfl) ?_
    obtain ⟨hk6, h⟩ := h
    refine m_callVI (pc := 24) (y := yX5_valueOf) (κ := 5) (As := [.int p1]) (rest := []) C hK hP hS hl.1 ⟨Nat.zero_le _, Nat.zero_le _⟩ (c_X5_valueOf h) rfl rfl hk6 (by decide) rfl q_390 q_391 q_392 q_2 q_393 ⟨rfl, rfl⟩ yd_X5_valueOf ⟨Nat.le_of_ble_eq_true rfl, Nat.le_of_ble_eq_true rfl⟩ (Nat.le_of_ble_eq_true rfl) dX6_setting_24 (fun r7 M5 H locs h hP hS => ?_)
    exact m_retX (m_iret (v := r7) (pc := 27) C hr hlk hP hS dX6_setting_27 h)
  · replace h := h.2 (bZ0 c6)
    exact m_throw2 (pc := 9) (is := 135) (text := "no such setting") hlt C hlk ht hZ hP hS hl (by decide +kernel) q_595 q_12 ⟨⟨Nat.le_of_ble_eq_true rfl, Nat.le_of_ble_eq_true rfl⟩, Nat.le_of_ble_eq_true rfl, Nat.le_of_ble_eq_true rfl⟩ dX6_setting_9 dX6_setting_12 dX6_setting_13 dX6_setting_15 dX6_setting_18 h
/-! ForgeHeats.ifPassed (II)I -/
def wp_X6_ifPassed (n : Nat) (M : Mem) (i : Nat) (p1 : Int32) (p2 : Int32) (P : Int32 → Mem → Prop) (T : String → Mem → Prop) : Prop := wp_X6_isWithin n M p1 1 240 (fun z2 M1 => ((z2 = false → T "java/lang/IllegalArgumentException" M1) ∧ (z2 = true → wp_X6_isWithin n M1 p2 0 4 (fun z4 M3 => ((z4 = true → m_tp n i 6 ∧ (wp_X6_foresee n M3 i p1 (fun M5 => wp_X6_foreseen n M5 i p2 (fun r9 M8 => P r9 M8)))) ∧ (z4 = false → T "java/lang/IllegalArgumentException" M3))))))
abbrev rm_X6_ifPassed : Room := { frames := 6, cells := 1, slots := 6, locals := 135 }
set_option maxHeartbeats 4000000 in
set_option maxRecDepth 100000 in
theorem c_X6_ifPassed {l : Launch} (hlt : l.stackTraces = false) {D : va_G} {cA : Nat → ClassId} {b n : Nat} {M : Mem} {i : Nat} {p1 : Int32} {p2 : Int32} {P : Int32 → Mem → Prop} {T : String → Mem → Prop} (h : wp_X6_ifPassed n M i p1 p2 P T) : m_CX l D cA b n M yX6_ifPassed (Cond.code yX6_ifPassed cX6_ifPassed 3 (some .int)) rm_X6_ifPassed [.ref (b + i), .int p1, .int p2] (rI P) T := by
  refine m_enterX (by decide) (Nat.le_of_ble_eq_true rfl) (fun p e s m below meth c C hr hlk ht hZ hK hP hS ls hl => ?_)
  have hx := C.1
  have hb := C.2.1
  have hl : lv_has ls 3 [(0, .ref (b + i)), (1, .int p1), (2, .int p2)] := hl
  unfold wp_X6_ifPassed at h
  refine lv_iload_n (pc := 0) hx hb dX6_ifPassed_0 rfl (lv_at hl 1 rfl) ?_
  refine lv_iconst (v := 1) (pc := 1) hx hb dX6_ifPassed_1 (by decide) ?_
  refine lv_sipush (v := 240) (pc := 2) hx hb dX6_ifPassed_2 (by decide) ?_
  refine m_callSZ (pc := 5) (y := yX6_isWithin) (As := [.int p1, .int 1, .int 240]) (rest := []) C hK hP hS hl.1 ⟨Nat.zero_le _, Nat.zero_le _⟩ (c_X6_isWithin h) rfl rfl q_592 q_593 q_1 q_594 ⟨rfl, rfl⟩ yd_X6_isWithin ⟨Nat.le_of_ble_eq_true rfl, Nat.le_of_ble_eq_true rfl⟩ (Nat.le_of_ble_eq_true rfl) dX6_ifPassed_5 (fun z2 M1 H locs h hP hS => ?_)
  refine lv_if_eq (tgt := 20) (pc := 8) hx hb dX6_ifPassed_8 (by decide) (fun c8 => ?_) (fun c8 => ?_)
  · replace h := h.1 (bZ0 c8)
    exact m_throw0 (pc := 20) (is := 253) (text := "minutes or what out of range") hlt C hlk ht hZ hP hS hl (by decide +kernel) q_663 q_13 ⟨⟨Nat.le_of_ble_eq_true rfl, Nat.le_of_ble_eq_true rfl⟩, Nat.le_of_ble_eq_true rfl, Nat.le_of_ble_eq_true rfl⟩ dX6_ifPassed_20 dX6_ifPassed_23 dX6_ifPassed_24 dX6_ifPassed_26 dX6_ifPassed_29 h
  · replace h := h.2 (bZ1 c8)
    refine lv_iload_n (pc := 11) hx hb dX6_ifPassed_11 rfl (lv_at hl 2 rfl) ?_
    refine lv_iconst (v := 0) (pc := 12) hx hb dX6_ifPassed_12 (by decide) ?_
    refine lv_iconst (v := 4) (pc := 13) hx hb dX6_ifPassed_13 (by decide) ?_
    refine m_callSZ (pc := 14) (y := yX6_isWithin) (As := [.int p2, .int 0, .int 4]) (rest := []) C hK hP hS hl.1 ⟨Nat.zero_le _, Nat.zero_le _⟩ (c_X6_isWithin h) rfl rfl q_592 q_593 q_1 q_594 ⟨rfl, rfl⟩ yd_X6_isWithin ⟨Nat.le_of_ble_eq_true rfl, Nat.le_of_ble_eq_true rfl⟩ (Nat.le_of_ble_eq_true rfl) dX6_ifPassed_14 (fun z4 M3 H locs h hP hS => ?_)
    refine lv_if_ne (tgt := 30) (pc := 17) hx hb dX6_ifPassed_17 (by decide) (fun c17 => ?_) (fun c17 => ?_)
    · replace h := h.1 (bZ1 c17)
      refine lv_aload_n (pc := 30) hx hb dX6_ifPassed_30 rfl (lv_at hl 0 rfl) ?_
      refine lv_iload_n (pc := 31) hx hb dX6_ifPassed_31 rfl (lv_at hl 1 rfl) ?_
      obtain ⟨hk6, h⟩ := h
      refine m_callVV (pc := 32) (y := yX6_foresee) (κ := 6) (As := [.int p1]) (rest := []) C hK hP hS hl.1 ⟨Nat.zero_le _, Nat.zero_le _⟩ (c_X6_foresee h) rfl rfl hk6 (by decide) rfl q_558 q_560 q_s28 q_1 q_561 ⟨rfl, rfl⟩ yd_X6_foresee ⟨Nat.le_of_ble_eq_true rfl, Nat.le_of_ble_eq_true rfl⟩ (Nat.le_of_ble_eq_true rfl) dX6_ifPassed_32 (fun M5 H locs h hP hS => ?_)
      refine lv_aload_n (pc := 35) hx hb dX6_ifPassed_35 rfl (lv_at hl 0 rfl) ?_
      refine lv_iload_n (pc := 36) hx hb dX6_ifPassed_36 rfl (lv_at hl 2 rfl) ?_
      refine m_callVI (pc := 37) (y := yX6_foreseen) (κ := 6) (As := [.int p2]) (rest := []) C hK hP hS hl.1 ⟨Nat.zero_le _, Nat.zero_le _⟩ (c_X6_foreseen h) rfl rfl hk6 (by decide) rfl q_567 q_569 q_s29 q_1 q_570 ⟨rfl, rfl⟩ yd_X6_foreseen ⟨Nat.le_of_ble_eq_true rfl, Nat.le_of_ble_eq_true rfl⟩ (Nat.le_of_ble_eq_true rfl) dX6_ifPassed_37 (fun r9 M8 H locs h hP hS => ?_)
      exact m_retX (m_iret (v := r9) (pc := 40) C hr hlk hP hS dX6_ifPassed_40 h)
    · replace h := h.2 (bZ0 c17)
      exact m_throw0 (pc := 20) (is := 253) (text := "minutes or what out of range") hlt C hlk ht hZ hP hS hl (by decide +kernel) q_663 q_13 ⟨⟨Nat.le_of_ble_eq_true rfl, Nat.le_of_ble_eq_true rfl⟩, Nat.le_of_ble_eq_true rfl, Nat.le_of_ble_eq_true rfl⟩ dX6_ifPassed_20 dX6_ifPassed_23 dX6_ifPassed_24 dX6_ifPassed_26 dX6_ifPassed_29 h
/-! ForgeHeats.doneIn (I)I -/
def wp_X6_doneIn (n : Nat) (M : Mem) (i : Nat) (p1 : Int32) (P : Int32 → Mem → Prop) (T : String → Mem → Prop) : Prop := m_tp n i 6 ∧ (∃ j2 : Nat, M.2.1 i 0 = some j2 ∧ (m_tp n j2 5 ∧ (wp_X5_placeOf n M j2 p1 (fun r5 M3 => ((¬ r5 = (-1) → wp_X6_goneBehind n M3 i p1 (fun r7 M6 => P r7 M6)) ∧ (r5 = (-1) → T "java/lang/IndexOutOfBoundsException" M3))))))
abbrev rm_X6_doneIn : Room := { frames := 6, cells := 1, slots := 6, locals := 135 }
set_option maxHeartbeats 4000000 in
set_option maxRecDepth 100000 in
theorem c_X6_doneIn {l : Launch} (hlt : l.stackTraces = false) {D : va_G} {cA : Nat → ClassId} {b n : Nat} {M : Mem} {i : Nat} {p1 : Int32} {P : Int32 → Mem → Prop} {T : String → Mem → Prop} (h : wp_X6_doneIn n M i p1 P T) : m_CX l D cA b n M yX6_doneIn (Cond.code yX6_doneIn cX6_doneIn 2 (some .int)) rm_X6_doneIn [.ref (b + i), .int p1] (rI P) T := by
  refine m_enterX (by decide) (Nat.le_of_ble_eq_true rfl) (fun p e s m below meth c C hr hlk ht hZ hK hP hS ls hl => ?_)
  have hx := C.1
  have hb := C.2.1
  have hl : lv_has ls 2 [(0, .ref (b + i)), (1, .int p1)] := hl
  unfold wp_X6_doneIn at h
  refine lv_aload_n (pc := 0) hx hb dX6_doneIn_0 rfl (lv_at hl 0 rfl) ?_
  obtain ⟨hk1, h⟩ := h
  obtain ⟨j2, hj2, h⟩ := h
  refine gX6_10 (pc := 1) C hK hP hk1 hj2 dX6_doneIn_1 ?_
  refine lv_iload_n (pc := 4) hx hb dX6_doneIn_4 rfl (lv_at hl 1 rfl) ?_
  obtain ⟨hk4, h⟩ := h
  refine m_callVI (pc := 5) (y := yX5_placeOf) (κ := 5) (As := [.int p1]) (rest := []) C hK hP hS hl.1 ⟨Nat.zero_le _, Nat.zero_le _⟩ (c_X5_placeOf h) rfl rfl hk4 (by decide) rfl q_541 q_505 q_506 q_2 q_507 ⟨rfl, rfl⟩ yd_X5_placeOf ⟨Nat.le_of_ble_eq_true rfl, Nat.le_of_ble_eq_true rfl⟩ (Nat.le_of_ble_eq_true rfl) dX6_doneIn_5 (fun r5 M3 H locs h hP hS => ?_)
  refine lv_iconst (v := -1) (pc := 8) hx hb dX6_doneIn_8 (by decide) ?_
  refine lv_icmp_ne (tgt := 22) (pc := 9) hx hb dX6_doneIn_9 (by decide) (fun c9 => ?_) (fun c9 => ?_)
  · replace h := h.1 c9
    refine lv_aload_n (pc := 22) hx hb dX6_doneIn_22 rfl (lv_at hl 0 rfl) ?_
    refine lv_iload_n (pc := 23) hx hb dX6_doneIn_23 rfl (lv_at hl 1 rfl) ?_
    refine m_callVI (pc := 24) (y := yX6_goneBehind) (κ := 6) (As := [.int p1]) (rest := []) C hK hP hS hl.1 ⟨Nat.zero_le _, Nat.zero_le _⟩ (c_X6_goneBehind h) rfl rfl hk1 (by decide) rfl q_444 q_446 q_s13 q_1 q_447 ⟨rfl, rfl⟩ yd_X6_goneBehind ⟨Nat.le_of_ble_eq_true rfl, Nat.le_of_ble_eq_true rfl⟩ (Nat.le_of_ble_eq_true rfl) dX6_doneIn_24 (fun r7 M6 H locs h hP hS => ?_)
    exact m_retX (m_iret (v := r7) (pc := 27) C hr hlk hP hS dX6_doneIn_27 h)
  · replace h := h.2 c9
    exact m_throw2 (pc := 12) (is := 126) (text := "no such job") hlt C hlk ht hZ hP hS hl (by decide +kernel) q_595 q_12 ⟨⟨Nat.le_of_ble_eq_true rfl, Nat.le_of_ble_eq_true rfl⟩, Nat.le_of_ble_eq_true rfl, Nat.le_of_ble_eq_true rfl⟩ dX6_doneIn_12 dX6_doneIn_15 dX6_doneIn_16 dX6_doneIn_18 dX6_doneIn_21 h
/-! ForgeHeats.ifRush (I)I -/
def wp_X6_ifRush (n : Nat) (M : Mem) (i : Nat) (p1 : Int32) (P : Int32 → Mem → Prop) (T : String → Mem → Prop) : Prop := m_tp n i 6 ∧ (∃ j2 : Nat, M.2.1 i 0 = some j2 ∧ (m_tp n j2 5 ∧ (wp_X5_placeOf n M j2 p1 (fun r5 M3 => ((¬ r5 = (-1) → wp_X6_goneBehind n M3 i p1 (fun r7 M6 => wp_X6_gainByHaste n M6 i p1 r7 (fun r9 M8 => P r9 M8))) ∧ (r5 = (-1) → T "java/lang/IndexOutOfBoundsException" M3))))))
abbrev rm_X6_ifRush : Room := { frames := 6, cells := 1, slots := 6, locals := 138 }
set_option maxHeartbeats 4000000 in
set_option maxRecDepth 100000 in
theorem c_X6_ifRush {l : Launch} (hlt : l.stackTraces = false) {D : va_G} {cA : Nat → ClassId} {b n : Nat} {M : Mem} {i : Nat} {p1 : Int32} {P : Int32 → Mem → Prop} {T : String → Mem → Prop} (h : wp_X6_ifRush n M i p1 P T) : m_CX l D cA b n M yX6_ifRush (Cond.code yX6_ifRush cX6_ifRush 2 (some .int)) rm_X6_ifRush [.ref (b + i), .int p1] (rI P) T := by
  refine m_enterX (by decide) (Nat.le_of_ble_eq_true rfl) (fun p e s m below meth c C hr hlk ht hZ hK hP hS ls hl => ?_)
  have hx := C.1
  have hb := C.2.1
  have hl : lv_has ls 2 [(0, .ref (b + i)), (1, .int p1)] := hl
  unfold wp_X6_ifRush at h
  refine lv_aload_n (pc := 0) hx hb dX6_ifRush_0 rfl (lv_at hl 0 rfl) ?_
  obtain ⟨hk1, h⟩ := h
  obtain ⟨j2, hj2, h⟩ := h
  refine gX6_10 (pc := 1) C hK hP hk1 hj2 dX6_ifRush_1 ?_
  refine lv_iload_n (pc := 4) hx hb dX6_ifRush_4 rfl (lv_at hl 1 rfl) ?_
  obtain ⟨hk4, h⟩ := h
  refine m_callVI (pc := 5) (y := yX5_placeOf) (κ := 5) (As := [.int p1]) (rest := []) C hK hP hS hl.1 ⟨Nat.zero_le _, Nat.zero_le _⟩ (c_X5_placeOf h) rfl rfl hk4 (by decide) rfl q_541 q_505 q_506 q_2 q_507 ⟨rfl, rfl⟩ yd_X5_placeOf ⟨Nat.le_of_ble_eq_true rfl, Nat.le_of_ble_eq_true rfl⟩ (Nat.le_of_ble_eq_true rfl) dX6_ifRush_5 (fun r5 M3 H locs h hP hS => ?_)
  refine lv_iconst (v := -1) (pc := 8) hx hb dX6_ifRush_8 (by decide) ?_
  refine lv_icmp_ne (tgt := 22) (pc := 9) hx hb dX6_ifRush_9 (by decide) (fun c9 => ?_) (fun c9 => ?_)
  · replace h := h.1 c9
    refine lv_aload_n (pc := 22) hx hb dX6_ifRush_22 rfl (lv_at hl 0 rfl) ?_
    refine lv_iload_n (pc := 23) hx hb dX6_ifRush_23 rfl (lv_at hl 1 rfl) ?_
    refine lv_aload_n (pc := 24) hx hb dX6_ifRush_24 rfl (lv_at hl 0 rfl) ?_
    refine lv_iload_n (pc := 25) hx hb dX6_ifRush_25 rfl (lv_at hl 1 rfl) ?_
    refine m_callVI (pc := 26) (y := yX6_goneBehind) (κ := 6) (As := [.int p1]) (rest := [.int p1, .ref (b + i)]) C hK hP hS hl.1 ⟨Nat.zero_le _, Nat.zero_le _⟩ (c_X6_goneBehind h) rfl rfl hk1 (by decide) rfl q_444 q_446 q_s13 q_1 q_447 ⟨rfl, rfl⟩ yd_X6_goneBehind ⟨Nat.le_of_ble_eq_true rfl, Nat.le_of_ble_eq_true rfl⟩ (Nat.le_of_ble_eq_true rfl) dX6_ifRush_26 (fun r7 M6 H locs h hP hS => ?_)
    refine m_callVI (pc := 29) (y := yX6_gainByHaste) (κ := 6) (As := [.int p1, .int r7]) (rest := []) C hK hP hS hl.1 ⟨Nat.zero_le _, Nat.zero_le _⟩ (c_X6_gainByHaste h) rfl rfl hk1 (by decide) rfl q_542 q_544 q_s26 q_1 q_545 ⟨rfl, rfl⟩ yd_X6_gainByHaste ⟨Nat.le_of_ble_eq_true rfl, Nat.le_of_ble_eq_true rfl⟩ (Nat.le_of_ble_eq_true rfl) dX6_ifRush_29 (fun r9 M8 H locs h hP hS => ?_)
    exact m_retX (m_iret (v := r9) (pc := 32) C hr hlk hP hS dX6_ifRush_32 h)
  · replace h := h.2 c9
    exact m_throw2 (pc := 12) (is := 126) (text := "no such job") hlt C hlk ht hZ hP hS hl (by decide +kernel) q_595 q_12 ⟨⟨Nat.le_of_ble_eq_true rfl, Nat.le_of_ble_eq_true rfl⟩, Nat.le_of_ble_eq_true rfl, Nat.le_of_ble_eq_true rfl⟩ dX6_ifRush_12 dX6_ifRush_15 dX6_ifRush_16 dX6_ifRush_18 dX6_ifRush_21 h
/-! ForgeHeats.bestReheats (I)I -/
def wp_X6_bestReheats (n : Nat) (M : Mem) (i : Nat) (p1 : Int32) (P : Int32 → Mem → Prop) (T : String → Mem → Prop) : Prop := wp_X6_isWithin n M p1 1 120 (fun z2 M1 => ((z2 = true → m_tp n i 6 ∧ (wp_X6_bestNumberOfReheats n M1 i p1 (fun r5 M3 => P r5 M3))) ∧ (z2 = false → T "java/lang/IllegalArgumentException" M1)))
abbrev rm_X6_bestReheats : Room := { frames := 6, cells := 1, slots := 6, locals := 141 }
set_option maxHeartbeats 4000000 in
set_option maxRecDepth 100000 in
theorem c_X6_bestReheats {l : Launch} (hlt : l.stackTraces = false) {D : va_G} {cA : Nat → ClassId} {b n : Nat} {M : Mem} {i : Nat} {p1 : Int32} {P : Int32 → Mem → Prop} {T : String → Mem → Prop} (h : wp_X6_bestReheats n M i p1 P T) : m_CX l D cA b n M yX6_bestReheats (Cond.code yX6_bestReheats cX6_bestReheats 2 (some .int)) rm_X6_bestReheats [.ref (b + i), .int p1] (rI P) T := by
  refine m_enterX (by decide) (Nat.le_of_ble_eq_true rfl) (fun p e s m below meth c C hr hlk ht hZ hK hP hS ls hl => ?_)
  have hx := C.1
  have hb := C.2.1
  have hl : lv_has ls 2 [(0, .ref (b + i)), (1, .int p1)] := hl
  unfold wp_X6_bestReheats at h
  refine lv_iload_n (pc := 0) hx hb dX6_bestReheats_0 rfl (lv_at hl 1 rfl) ?_
  refine lv_iconst (v := 1) (pc := 1) hx hb dX6_bestReheats_1 (by decide) ?_
  refine lv_bipush (v := 120) (pc := 2) hx hb dX6_bestReheats_2 (by decide) ?_
  refine m_callSZ (pc := 4) (y := yX6_isWithin) (As := [.int p1, .int 1, .int 120]) (rest := []) C hK hP hS hl.1 ⟨Nat.zero_le _, Nat.zero_le _⟩ (c_X6_isWithin h) rfl rfl q_592 q_593 q_1 q_594 ⟨rfl, rfl⟩ yd_X6_isWithin ⟨Nat.le_of_ble_eq_true rfl, Nat.le_of_ble_eq_true rfl⟩ (Nat.le_of_ble_eq_true rfl) dX6_bestReheats_4 (fun z2 M1 H locs h hP hS => ?_)
  refine lv_if_ne (tgt := 20) (pc := 7) hx hb dX6_bestReheats_7 (by decide) (fun c7 => ?_) (fun c7 => ?_)
  · replace h := h.1 (bZ1 c7)
    refine lv_aload_n (pc := 20) hx hb dX6_bestReheats_20 rfl (lv_at hl 0 rfl) ?_
    refine lv_iload_n (pc := 21) hx hb dX6_bestReheats_21 rfl (lv_at hl 1 rfl) ?_
    obtain ⟨hk4, h⟩ := h
    refine m_callVI (pc := 22) (y := yX6_bestNumberOfReheats) (κ := 6) (As := [.int p1]) (rest := []) C hK hP hS hl.1 ⟨Nat.zero_le _, Nat.zero_le _⟩ (c_X6_bestNumberOfReheats h) rfl rfl hk4 (by decide) rfl q_571 q_573 q_s30 q_1 q_574 ⟨rfl, rfl⟩ yd_X6_bestNumberOfReheats ⟨Nat.le_of_ble_eq_true rfl, Nat.le_of_ble_eq_true rfl⟩ (Nat.le_of_ble_eq_true rfl) dX6_bestReheats_22 (fun r5 M3 H locs h hP hS => ?_)
    exact m_retX (m_iret (v := r5) (pc := 25) C hr hlk hP hS dX6_bestReheats_25 h)
  · replace h := h.2 (bZ0 c7)
    exact m_throw0 (pc := 10) (is := 152) (text := "minutes out of range") hlt C hlk ht hZ hP hS hl (by decide +kernel) q_663 q_13 ⟨⟨Nat.le_of_ble_eq_true rfl, Nat.le_of_ble_eq_true rfl⟩, Nat.le_of_ble_eq_true rfl, Nat.le_of_ble_eq_true rfl⟩ dX6_bestReheats_10 dX6_bestReheats_13 dX6_bestReheats_14 dX6_bestReheats_16 dX6_bestReheats_19 h
