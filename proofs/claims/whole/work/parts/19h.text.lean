/-! Calls: undo, the buffer, the first error. -/
section TXC
variable {M M' : Mem} {A : Ab} {Q : Nat → Ab} {s b b' j : Nat} {cd cd' : Nat → Nat} {p1 : Int32} {P : Int32 → Mem → Prop}
theorem KC.txt (h : KC M A Q s b cd) (e : ∀ a, a < 274 → M'.1 a = M.1 a) (e2 : M'.2.1 = M.2.1) (t : M'.1 274 1 = nI b') (hb : b' ≤ 60) (hq : ∀ i, i < b' → M'.1 275 i = nI (cd' i)) (hc : ∀ i, i < b' → 33 ≤ cd' i ∧ cd' i ≤ 126) : KC M' A Q s b' cd' := by
  obtain ⟨hd, ⟨π1, h1⟩, ⟨π2, E2, h2⟩, ⟨ρ, r1, r2, r3⟩, h3, hs, _⟩ := h
  refine ⟨?_, ⟨π1, h1.on fun a _ _ => ⟨e a (by omega), by rw [e2]⟩⟩, ⟨π2, E2, h2.on fun a _ _ => ⟨e a (by omega), by rw [e2]⟩⟩, ⟨ρ, fun i hi => ⟨(r1 i hi).1, by rw [e2]; exact (r1 i hi).2⟩, r2, fun i hi => ?_⟩, by rw [e 0 (by omega)]; exact h3, hs, t, hb, hq, hc⟩
  · unfold Hd
    rw [e2]; exact hd
  · obtain ⟨π3, E3, k3, k4⟩ := r3 i hi
    have := (r1 i hi).1
    exact ⟨π3, E3, k3.on fun a _ _ => ⟨e a (by omega), by rw [e2]⟩, k4⟩
theorem KC.row (h : KC M A Q s b cd) {r : Nat → Int32} (hb : b' ≤ b) (h1 : r 1 = nI b') : KC (wR M 274 r) A Q s b' cd := by
  have hb60 := h.2.2.2.2.2.2.2.1
  have hq := h.2.2.2.2.2.2.2.2.1
  have hc := h.2.2.2.2.2.2.2.2.2
  exact h.txt (fun a ha => wR_o (by omega)) rfl (by rw [wR_1]; exact h1) (by omega) (fun i hi => by rw [wR_o (by omega)]; exact hq i (by omega)) fun i hi => hc i (by omega)
theorem KR.txt (h : KR M A Q s b cd) (e77 : M'.1 277 = M.1 277) (e79 : M'.1 279 = M.1 279) (e2 : M'.2.1 = M.2.1) (e4 : M'.1 276 4 = M.1 276 4) (e6 : M'.1 276 6 = nI b') (hq : ∀ i, i < b' → M'.1 280 i = nI (cd' i)) : KR M' A Q s b' cd' := by
  obtain ⟨hB, hR, h4, hQ, h6, _⟩ := h
  exact ⟨by unfold RB; rw [e2]; exact hB, by rw [e77]; exact hR, e4.trans h4, by rw [e79]; exact hQ, e6, hq⟩
/-! undo -/
theorem lx_undo (h : KC M A Q s b cd) (kp : KP A Q s j) (h0 : s = 0 → P 1 M) (hp : 0 < s → ∀ A' M', Cp A' (Q (s - 1)) (cnt (Q (s - 1))) → KC M' A' Q (s - 1) b cd → FrL M M' → M'.2.2 282 0 = (nI (s - 1)).toInt64 → P 0 M') : wp_L_undo 283 M 0 282 P := by
  have hh := h
  obtain ⟨hd, ⟨π1, h1⟩, ⟨π2, E2, h2⟩, ⟨ρ, r1, r2, r3⟩, h3, hs6, ht, hb, hq, hc⟩ := h
  by_cases hs : s = 0
  · subst hs
    refine ⟨tp6, tp6, fun e => ⟨fun _ => ⟨rfl, h0 rfl⟩, fun j4 e4 => (by cases e4)⟩, fun e => ?_⟩
    rw [h3] at e
    exact absurd (by decide) e
  · obtain ⟨s1, rfl⟩ : ∃ s1, s = s1 + 1 := ⟨s - 1, by omega⟩
    have e1 : M.1 0 3 - 1 = nI s1 := by rw [h3, nI_pred]
    obtain ⟨π3, E3, k3, k4⟩ := r3 s1 (by omega)
    have hρ := (r1 s1 (by omega)).1
    have hcp := k4 (by omega)
    obtain ⟨N, T, _, _, hI⟩ := kp.2 s1 (by omega)
    refine ⟨tp6, tp6, ?_⟩
    rw [e1]
    refine x_pastAt hd.2.2.1 (i := s1) (by omega) rfl (r1 s1 (by omega)).2 ⟨fun e => (by cases e), fun j4 e4 => ?_⟩
    cases e4
    refine ⟨1, hd.1, tp5a, x_copyFrom h1 k3 (hI.copy hcp).1.1 (Or.inl (by omega)) fun M6 A6 c6 q6 M9 e9 => ?_⟩
    have k6 := hh.shop c6
    have e63 : M6.1 0 3 = nI (s1 + 1) := k6.2.2.2.2.1
    rw [e63, nI_pred] at e9
    have g1 : ∀ a, a ≠ 0 → M9.1 a = M6.1 a := fun a ha => by rw [e9]; exact uI_a ha
    have g2 : M9.2.1 = M6.2.1 := by rw [e9]; rfl
    have g3 : M9.1 0 3 = nI s1 := by rw [e9]; exact uI_s
    have k9 : KC M9 A6 Q s1 b cd := by
      obtain ⟨hd, ⟨π1, h1⟩, ⟨π2, E2, h2⟩, ⟨ρ, r1, r2, r3⟩, h3, hs6, ht, hb, hq, hc⟩ := k6
      refine ⟨by unfold Hd; rw [g2]; exact hd, ⟨π1, h1.on fun a _ _ => ⟨g1 a (by omega), by rw [g2]⟩⟩, ⟨π2, E2, h2.on fun a _ _ => ⟨g1 a (by omega), by rw [g2]⟩⟩, ⟨ρ, fun i hi => ⟨(r1 i hi).1, by rw [g2]; exact (r1 i hi).2⟩, r2, fun i hi => ?_⟩, g3, by omega, by rw [g1 274 (by omega)]; exact ht, hb, fun i hi => by rw [g1 275 (by omega)]; exact hq i hi, hc⟩
      obtain ⟨π3, E3, k3, k4⟩ := r3 i hi
      have := (r1 i hi).1
      exact ⟨π3, E3, k3.on fun a _ _ => ⟨g1 a (by omega), by rw [g2]⟩, fun hi2 => k4 (by omega)⟩
    rw [g3]
    exact lx_ok k9 (FrL.tr c6.frc.1 fun a ha => ⟨g1 a (by omega), by rw [g2]⟩) fun M' a1 a2 a3 => hp (by omega) A6 M' (q6.tr hcp) a1 a2 a3
theorem rx_undo (h : KR M A Q s b cd) (hs6 : s ≤ 6) (kp : KP A Q s j) (h0 : s = 0 → ∀ r M', KR M' A Q s b cd → FrR M M' → M'.1 276 0 = 1 → P r M') (hp : 0 < s → ∀ M', (∀ A', Cp A' (Q (s - 1)) (cnt (Q (s - 1))) → KR M' A' Q (s - 1) b cd) → FrR M M' → M'.1 276 0 = 0 → P (nI (s - 1)) M') : wp_X7_undo 283 M 276 P := by
  refine ⟨tp7, fun M2 e2 => ?_⟩
  subst e2
  obtain ⟨h2, f2, z2⟩ := h.th FrR.rf (v := 0)
  generalize uI M 276 0 0 = M2 at h2 f2 z2 ⊢
  have e4 := h2.2.2.1
  refine ⟨fun e M3 e3 => ?_, fun e => ?_⟩
  · have hs : 0 < s := by
      rcases Nat.eq_zero_or_pos s with w | w
      · rw [e4, w] at e; exact absurd rfl e
      · exact w
    obtain ⟨s1, rfl⟩ : ∃ s1, s = s1 + 1 := ⟨s - 1, by omega⟩
    rw [e4, nI_pred] at e3
    have g1 : ∀ a, a ≠ 276 → M3.1 a = M2.1 a := fun a ha => by rw [e3]; exact uI_a ha
    have g2 : M3.2 = M2.2 := by rw [e3]; rfl
    have g4 : M3.1 276 4 = nI s1 := by rw [e3]; exact uI_s
    have gf : ∀ f, f ≠ 4 → M3.1 276 f = M2.1 276 f := fun f hf => by rw [e3]; exact uI_o (by omega)
    have hB : RB M3 := by unfold RB; rw [g2]; exact h2.1
    refine ⟨159, ?_⟩
    have L : ∀ f i, i + f = 158 → wpL_X7_undo_30 283 P (f + 1) (wR M3 277 (fun x => if x < i then M2.1 279 (158 * s1 + x) else M2.1 277 x)) 276 (nI i) := by
      intro f
      induction f with
      | zero =>
        intro i hi
        have : i = 158 := by omega
        subst this
        refine ⟨fun _ => ⟨tp7, ?_⟩, fun e => absurd (cGe (n := 158) rfl rfl (by omega) (by omega)) e⟩
        rw [wR_o (by omega), g4]
        refine hp (by omega) _ (fun A' hA => ?_) (f2.tr ⟨fun a ha => ⟨by rw [wR_o (by omega)]; exact g1 a (by omega), by rw [wR_2, g2]⟩, fun k => by rw [wR_2, g2]⟩) (by rw [wR_o (by omega), gf 0 (by omega)]; exact z2)
        obtain ⟨ι', hR'⟩ := h2.2.2.2.1 s1 (by omega)
        have hc10 := kp.le.2 s1 (by omega)
        have ec : cnt A' = cnt (Q s1) := by
          unfold cnt
          rw [hA.1 5 (by omega) (by omega)]
          rfl
        have e11 : A' 0 11 = Q s1 0 11 := hA.1 11 (by omega) (by omega)
        refine ⟨hB, ⟨ι', ?_⟩, by rw [wR_o (by omega)]; exact g4, fun i hi => ?_, by rw [wR_o (by omega), gf 6 (by omega)]; exact h2.2.2.2.2.1, fun i hi => by rw [wR_o (by omega), g1 280 (by omega)]; exact h2.2.2.2.2.2 i hi⟩
        · rw [ec, e11, wR_1]
          refine (hR'.eq158 hc10 fun k hk => ?_).copy hc10 hA
          show (if k < 158 then M2.1 279 (158 * s1 + k) else M2.1 277 k) = _
          rw [if_pos hk]
        · rw [wR_o (by omega), g1 279 (by omega)]
          exact h2.2.2.2.1 i (by omega)
      | succ f ih =>
        intro i hi
        have ix : (158 * (wR M3 277 (fun x => if x < i then M2.1 279 (158 * s1 + x) else M2.1 277 x)).1 276 4) + nI i = nI (158 * s1 + i) := by
          rw [wR_o (by omega), g4, show (158 : Int32) = nI 158 from rfl, nI_mul, nI_add]
        refine ⟨fun e => absurd e (cLt (n := 158) rfl rfl (by omega) (by omega)), fun _ => ⟨tp7, 277, hB.1, 279, hB.2.2.1, tp8c, by rw [ix, len8c]; exact vpI rfl (by omega) (by omega), tp8, by rw [len8]; exact vpI rfl (by omega : i < 158) (by omega), fun M12 e12 v13 e13 => ?_⟩⟩
        rw [ix, nI_clamp (by omega), nI_clamp (by omega), wR_o (by omega), g1 279 (by omega), wR_uI, uS_run (g := fun x => M2.1 279 (158 * s1 + x))] at e12
        rw [e12, e13, nI_1]
        exact ih (i + 1) (by omega)
    have := L 158 0 (by omega)
    have e0 : wR M3 277 (fun x => if x < 0 then M2.1 279 (158 * s1 + x) else M2.1 277 x) = M3 := wR_self (by
      rw [g1 277 (by omega)]
      funext x
      rw [if_neg (by omega)])
    rw [e0] at this
    exact this
  · have hs : s = 0 := by
      rw [e4] at e
      exact (nI_eq (b := 0) (by omega) (by omega)).mp e
    exact rx_fail h2 f2 fun M' c1 c2 c3 => h0 hs 0 M' c1 c2 c3
/-! append, clearBuffer, firstError -/
def oAppend (b : Nat) (p1 : Int32) : Int32 := if inB p1 33 126 = true then (if b = 60 then 2 else 0) else 1
theorem nar_char : ∀ n, n < 127 → vp_nar .char (((nI n).toUInt32 % 65536).toInt32) = nI n := by decide +kernel
theorem lx_append (h : KC M A Q s b cd) (hp : ∀ M', ((oAppend b p1 ≠ 0 → KC M' A Q s b cd) ∧ (oAppend b p1 = 0 → ∃ n, p1 = nI n ∧ KC M' A Q s (b + 1) (fun i => if i = b then n else cd i) ∧ M'.2.2 282 0 = (nI (b + 1)).toInt64)) → FrL M M' → P (oAppend b p1) M') : wp_L_append 283 M 0 p1 282 P := by
  have hd := h.1
  have ht := h.2.2.2.2.2.2.1
  have hb := h.2.2.2.2.2.2.2.1
  have hq := h.2.2.2.2.2.2.2.2.1
  have hc := h.2.2.2.2.2.2.2.2.2
  have no : oAppend b p1 ≠ 0 → P (oAppend b p1) M := fun w => hp M ⟨fun _ => h, fun z => absurd z w⟩ FrL.rf
  refine ⟨tp6, ⟨fun e1 => ⟨tp6, 274, hd.2.2.2.1, tp4, tp4, 275, hd.2.2.2.2, tp9, fun e2 => ⟨274, hd.2.2.2.1, tp4, tp4, fun e3 => ?_, fun e3 => ⟨275, hd.2.2.2.2, tp9, fun e4 => ?_, fun e4 => ⟨275, hd.2.2.2.2, tp9, ?_, fun M7 e7 M8 e8 => ?_⟩⟩⟩, fun e2 => Or.inr ⟨rfl, ?_⟩⟩, fun e1 => Or.inl ⟨rfl, ?_⟩⟩⟩
  · rw [ht] at e3
    exact absurd e3 (nI_pos (by omega))
  · rw [ht, len9] at e4
    rw [ht, len9] at e2
    have h60 := (nI_leI (by omega) (by omega)).mp e4
    rw [if_neg (fun w => by have := (nI_ltI (by omega) (by omega)).mp w; omega)] at e2
    cases e2
  · rw [ht, len9] at e4 ⊢
    refine vpI rfl ?_ (by omega)
    rcases Nat.lt_or_ge b 60 with w | w
    · exact w
    · exact absurd ((nI_leI (by omega) (by omega)).mpr w) e4
  · have hb60 : b < 60 := by
      rw [ht, len9] at e4
      rcases Nat.lt_or_ge b 60 with w | w
      · exact w
      · exact absurd ((nI_leI (by omega) (by omega)).mpr w) e4
    obtain ⟨n, hn, hn2, hn3⟩ := inB_get (l := 33) (h := 126) (by omega) (by omega) e1
    have eo : oAppend b p1 = 0 := by
      unfold oAppend
      rw [if_pos (show inB p1 33 126 = true from e1), if_neg (by omega)]
    rw [eo] at hp
    rw [ht, nI_clamp (by omega), hn, nar_char n (by omega)] at e7
    have t7 : M7.1 274 1 = nI b := by rw [e7, uI_a (by omega)]; exact ht
    rw [t7, nI_1] at e8
    have t8 : M8.1 274 1 = nI (b + 1) := by rw [e8]; exact uI_s
    rw [t8]
    have k8 : KC M8 A Q s (b + 1) (fun i => if i = b then n else cd i) := by
      refine h.txt (fun a ha => by rw [e8, uI_a (by omega), e7, uI_a (by omega)]) (by rw [e8, e7]; rfl) t8 (by omega) (fun i hi => ?_) fun i hi => ?_
      · rw [e8, uI_a (by omega), e7]
        show _ = nI (if i = b then n else cd i)
        by_cases w : i = b
        · subst w
          rw [if_pos rfl, uI_s]
        · rw [if_neg w, uI_o (by omega)]; exact hq i (by omega)
      · show 33 ≤ (if i = b then n else cd i) ∧ (if i = b then n else cd i) ≤ 126
        by_cases w : i = b
        · rw [if_pos w]; omega
        · rw [if_neg w]; exact hc i (by omega)
    exact lx_ok k8 (fun a ha => ⟨by rw [e8, uI_a (by omega), e7, uI_a (by omega)], by rw [e8, e7]; rfl⟩) fun M' a1 a2 a3 => hp M' ⟨fun w => absurd rfl w, fun _ => ⟨n, hn, a1, a3⟩⟩ a2
  · rw [ht, len9] at e2
    have h60 : b = 60 := by
      by_cases w : b < 60
      · rw [if_pos ((nI_ltI (by omega) (by omega)).mpr w)] at e2; cases e2
      · omega
    have eo : oAppend b p1 = 2 := by
      unfold oAppend
      rw [if_pos (show inB p1 33 126 = true from e1), if_pos h60]
    have := no (by rw [eo]; decide)
    rwa [eo] at this
  · have eo : oAppend b p1 = 1 := by
      unfold oAppend
      rw [show inB p1 33 126 = false from e1]; rfl
    have := no (by rw [eo]; decide)
    rwa [eo] at this
theorem rx_append (h : KR M A Q s b cd) (hb : b ≤ 60) (hp : ∀ r M', ((oAppend b p1 ≠ 0 → KR M' A Q s b cd) ∧ (oAppend b p1 = 0 → (∀ n, p1 = nI n → KR M' A Q s (b + 1) (fun i => if i = b then n else cd i)) ∧ r = nI (b + 1))) → FrR M M' → M'.1 276 0 = oAppend b p1 → P r M') : wp_X7_append 283 M 276 p1 P := by
  refine ⟨tp7, fun M2 e2 => ?_⟩
  subst e2
  obtain ⟨h2, f2, z2⟩ := h.th FrR.rf (v := 0)
  generalize uI M 276 0 0 = M2 at h2 f2 z2 ⊢
  have h6 := h2.2.2.2.2.1
  have hq := h2.2.2.2.2.2
  have no : ∀ {x : Int32}, oAppend b p1 = x → x ≠ 0 → wp_X7_fails 283 M2 276 x P := fun {x} eo hx => rx_fail h2 f2 fun M' c1 c2 c3 => hp 0 M' ⟨fun _ => c1, fun w => absurd (eo.symm.trans w) hx⟩ c2 (c3.trans eo.symm)
  refine ⟨fun e1 => ⟨fun e2 => ⟨280, h2.1.2.2.2.1, tp8d, ?_, fun M8 e8 M9 e9 => ?_⟩, fun e2 => no ?_ (by decide)⟩, fun e1 => no ?_ (by decide)⟩
  · rw [h6, len8d]
    refine vpI rfl ?_ (by omega)
    have : b ≠ 60 := fun w => e2 (by rw [h6, w]; rfl)
    omega
  · have hb60 : b ≠ 60 := fun w => e2 (by rw [h6, w]; rfl)
    have eo : oAppend b p1 = 0 := by
      unfold oAppend
      rw [if_pos (show inB p1 33 126 = true from e1), if_neg hb60]
    rw [eo] at hp
    rw [h6, nI_clamp (by omega)] at e8
    have t8 : M8.1 276 6 = nI b := by rw [e8, uI_a (by omega)]; exact h6
    rw [t8, nI_1] at e9
    have t9 : M9.1 276 6 = nI (b + 1) := by rw [e9]; exact uI_s
    have ga : ∀ a, a ≠ 276 → a ≠ 280 → M9.1 a = M2.1 a := fun a h1 h2 => by rw [e9, uI_a h1, e8, uI_a h2]
    have gf : ∀ f, f ≠ 6 → M9.1 276 f = M2.1 276 f := fun f hf => by rw [e9, uI_o (by omega), e8, uI_a (by omega)]
    have g2 : M9.2 = M2.2 := by rw [e9, e8]; rfl
    rw [t9]
    refine hp _ M9 ⟨fun w => absurd rfl w, fun _ => ⟨fun n hn => h2.txt (ga 277 (by omega) (by omega)) (ga 279 (by omega) (by omega)) (by rw [g2]) (gf 4 (by omega)) t9 fun i hi => ?_, rfl⟩⟩ (f2.tr ⟨fun a ha => ⟨ga a (by omega) (by omega), by rw [g2]⟩, fun k => by rw [g2]⟩) ((gf 0 (by omega)).trans z2)
    rw [e9, uI_a (by omega), e8]
    show _ = nI (if i = b then n else cd i)
    by_cases w : i = b
    · subst w
      rw [if_pos rfl, uI_s, hn]
    · rw [if_neg w, uI_o (by omega)]; exact hq i (by omega)
  · have h60 : b = 60 := by
      rw [h6] at e2
      exact (nI_eq (b := 60) (by omega) (by omega)).mp e2
    unfold oAppend
    rw [if_pos (show inB p1 33 126 = true from e1), if_pos h60]
  · unfold oAppend
    rw [show inB p1 33 126 = false from e1]; rfl
theorem x_clear (h : KC M A Q s b cd) (hp : ∀ M', KC M' A Q s 0 cd → FrL M M' → P (nI b) M') : wp_X6_clearBuffer 283 M 0 P := by
  have hd := h.1
  have ht := h.2.2.2.2.2.2.1
  refine ⟨tp6, 274, hd.2.2.2.1, tp4, tp4, fun v2 e2 M3 e3 => ?_⟩
  rw [e2, ht]
  refine hp M3 ?_ fun a ha => ⟨by rw [e3, uI_a (by omega)], by rw [e3]; rfl⟩
  exact h.txt (fun a ha => by rw [e3, uI_a (by omega)]) (by rw [e3]; rfl) (by rw [e3]; exact uI_s) (by omega) (fun i hi => by omega) fun i hi => by omega
theorem r_clear (h : KR M A Q s b cd) (hp : ∀ M', KR M' A Q s 0 cd → FrR M M' → P (nI b) M') : wp_X7_clearBuffer 283 M 276 P := by
  refine ⟨tp7, fun M2 e2 => ?_⟩
  subst e2
  obtain ⟨h2, f2, z2⟩ := h.th FrR.rf (v := 0)
  generalize uI M 276 0 0 = M2 at h2 f2 z2 ⊢
  intro v3 e3 M4 e4
  rw [e3, h2.2.2.2.2.1]
  refine hp M4 ?_ (f2.tr ⟨fun a ha => ⟨by rw [e4, uI_a (by omega)], by rw [e4]; rfl⟩, fun k => by rw [e4]; rfl⟩)
  exact h2.txt (by rw [e4, uI_a (by omega)]) (by rw [e4, uI_a (by omega)]) (by rw [e4]; rfl) (by rw [e4]; exact uI_o (by omega)) (by rw [e4]; exact uI_s) fun i hi => by omega
def prA (cd : Nat → Nat) (b : Nat) (g : Nat → Int32) : Nat × Nat × (Nat → Int32) × Bool := prs cd b (b + 1) 0 0 g
theorem x_firstErr (h : KC M A Q s b cd) {g : Nat → Int32} (hp : ∀ M', KC M' A Q s b cd → FrL M M' → P (nI (prA cd b g).1) M') : wp_X6_firstError 283 M 0 P := by
  have hd := h.1
  have ht := h.2.2.2.2.2.2.1
  have hb := h.2.2.2.2.2.2.2.1
  have hq := h.2.2.2.2.2.2.2.2.1
  have hc := h.2.2.2.2.2.2.2.2.2
  refine ⟨tp6, 274, hd.2.2.2.1, tp4, ?_⟩
  have key := x_firstWrong (B := M) (s := M.1 274) (q := fun k => nI (cd k)) (P := P) hd.2.2.2.2 hq hb ht
  rw [wR_self rfl] at key
  refine key ?_
  have sc := prs_scan (g := g) (t := 0) hc (f := b + 1) (a := 0) (s := uS (uS (M.1 274) 2 0) 3 0) (by omega) (by omega) uS_s
  rw [Nat.sub_zero] at sc
  rw [sc.1]
  exact hp _ (h.row (Nat.le_refl _) (by rw [scan_o (by omega), uS_o (by omega), uS_o (by omega)]; exact ht)) fun a ha => ⟨wR_o (by omega), rfl⟩
/-- the reference has read all -/
theorem r_readsM (h2 : KR M A Q s b cd) (hb : b ≤ 60) (hc : ∀ i, i < b → 33 ≤ cd i ∧ cd i ≤ 126) {P : Mem → Prop} (hp : ∀ M', KR M' A Q s b cd → FrR M M' → M'.1 276 0 = M.1 276 0 → M'.1 276 7 = nI (prA cd b (M.1 281)).1 → M'.1 276 8 = bI (prA cd b (M.1 281)).2.2.2 → M'.1 276 10 = nI (prA cd b (M.1 281)).2.1 → M'.1 281 = (prA cd b (M.1 281)).2.2.1 → P M') : wp_X7_readsAll 283 M 276 P := by
  have h6 := h2.2.2.2.2.1
  have hq := h2.2.2.2.2.2
  have key := r_readsAll (B := M) (g := M.1 281) (r := M.1 276) (P := P) h2.1 hq hc hb h6
  rw [wR_self (B := M) (a := 281) rfl, wR_self (B := M) (a := 276) rfl] at key
  have key : P (wR (wR M 281 (prA cd b (M.1 281)).2.2.1) 276 (rowE (M.1 276) (prA cd b (M.1 281)))) → wp_X7_readsAll 283 M 276 P := key
  refine key ?_
  have ro : ∀ f, f ≠ 7 → f ≠ 8 → f ≠ 10 → (wR (wR M 281 (prA cd b (M.1 281)).2.2.1) 276 (rowE (M.1 276) (prA cd b (M.1 281)))).1 276 f = M.1 276 f := fun f a1 a2 a3 => by
    rw [wR_1]
    unfold rowE
    rw [uS_o a3, uS_o a2, uS_o a1]
  have oo : ∀ a, a ≠ 276 → a ≠ 281 → (wR (wR M 281 (prA cd b (M.1 281)).2.2.1) 276 (rowE (M.1 276) (prA cd b (M.1 281)))).1 a = M.1 a := fun a a1 a2 => by rw [wR_o a1, wR_o a2]
  refine hp _ (h2.txt (oo 277 (by omega) (by omega)) (oo 279 (by omega) (by omega)) rfl (ro 4 (by omega) (by omega) (by omega)) ((ro 6 (by omega) (by omega) (by omega)).trans h6) fun i hi => by rw [oo 280 (by omega) (by omega)]; exact hq i hi) ⟨fun a ha => ⟨oo a (by omega) (by omega), rfl⟩, fun _ => rfl⟩ (ro 0 (by omega) (by omega) (by omega)) ?_ ?_ ?_ ?_
  · rw [wR_1]
    unfold rowE
    rw [uS_o (by omega), uS_o (by omega), uS_s]
  · rw [wR_1]
    unfold rowE
    rw [uS_o (by omega), uS_s]
  · rw [wR_1]
    exact uS_s
  · rw [wR_o (by omega), wR_1]
theorem r_firstErr (h : KR M A Q s b cd) (hb : b ≤ 60) (hc : ∀ i, i < b → 33 ≤ cd i ∧ cd i ≤ 126) (hp : ∀ M', KR M' A Q s b cd → FrR M M' → P (nI (prA cd b (M.1 281)).1) M') : wp_X7_firstError 283 M 276 P := by
  refine ⟨tp7, fun M2 e2 => ?_⟩
  have e81 : M2.1 281 = M.1 281 := by rw [e2, uI_a (by omega)]
  subst e2
  obtain ⟨h2, f2, z2⟩ := h.th FrR.rf (v := 0)
  generalize uI M 276 0 0 = M2 at h2 f2 z2 e81 ⊢
  refine r_readsM h2 hb hc fun M' a1 a2 a3 a4 a5 a6 a7 => ?_
  rw [a4, e81]
  exact hp M' a1 (f2.tr a2)
end TXC
