/-! Calls that change nothing, the rest of them. -/
theorem oI_n1 {o : Option Nat} {c : Nat} (hc : c ≤ 10) (h : ∀ k, o = some k → k < c) : oI o = -1 ↔ o = none := by
  cases o with
  | none => exact ⟨fun _ => rfl, fun _ => rfl⟩
  | some k => exact ⟨fun e => absurd e (nI_n1 (by have := h k rfl; omega)), fun e => (by cases e)⟩
theorem place_lt {A : Ab} {c k : Nat} {x : Int32} (h : placeA A c x = some k) : k < c := by have := (fst9_some h).2.1; omega
section LKD
variable {M : Mem} {A : Ab} {Q : Nat → Ab} {s b j : Nat} {cd : Nat → Nat} {p1 p2 : Int32} {P : Int32 → Mem → Prop}

theorem lx_dieOf (h : KC M A Q s b cd) (hv : KV A j) (hj : j ≤ 600) (hp : ∀ M', KC M' A Q s b cd → FrL M M' → ((oDieOf A p1 p2).1 = 0 → M'.2.2 282 0 = (oDieOf A p1 p2).2.toInt64) → P (oDieOf A p1 p2).1 M') : wp_L_dieOf 283 M 0 p1 p2 282 P := by
  obtain ⟨N, T, hN, hT, hI⟩ := hv
  obtain ⟨π1, h1⟩ := h.2.1
  obtain ⟨π2, E2, h2⟩ := h.2.2.1
  have hd := h.1
  refine ⟨tp6, ⟨fun e1 => ⟨fun e2 => ?_, fun e2 => Or.inr ⟨rfl, ?_⟩⟩, fun e1 => Or.inl ⟨rfl, ?_⟩⟩⟩
  · obtain ⟨n, hn, hn2, hn3⟩ := inB_get (l := 0) (h := 4) (by omega) (by omega) e1
    have eo : oDieOf A p1 p2 = (0, dieV A n p2) := by
      unfold oDieOf
      rw [show inB p1 0 4 = true from e1, show inB p2 0 5 = true from e2, hn, nI_clamp (by omega)]; rfl
    rw [eo] at hp
    exact ⟨tp6, 1, hd.1, tp5a, x_dieAt h1 (by omega) hn ⟨h1.tpD (by omega), x1_property h1 (by omega) (lx_ok h FrL.rf fun M' c1 c2 c3 => hp M' c1 c2 fun _ => c3)⟩⟩
  · have eo : oDieOf A p1 p2 = (2, 0) := by
      unfold oDieOf
      rw [show inB p1 0 4 = true from e1, show inB p2 0 5 = false from e2]; rfl
    rw [eo] at hp
    exact hp M h FrL.rf fun w => absurd w (by decide)
  · have eo : oDieOf A p1 p2 = (1, 0) := by
      unfold oDieOf
      rw [show inB p1 0 4 = false from e1]; rfl
    rw [eo] at hp
    exact hp M h FrL.rf fun w => absurd w (by decide)
theorem rx_dieOf (h : KR M A Q s b cd) (hv : KV A j) (hj : j ≤ 600) (hp : ∀ r M', KR M' A Q s b cd → FrR M M' → M'.1 276 0 = (oDieOf A p1 p2).1 → ((oDieOf A p1 p2).1 = 0 → r = (oDieOf A p1 p2).2) → P r M') : wp_X7_dieOf 283 M 276 p1 p2 P := by
  obtain ⟨N, T, hN, hT, hI⟩ := hv
  have hc := hI.1.1.2.1
  refine ⟨tp7, fun M2 e2 => ?_⟩
  subst e2
  obtain ⟨h2, f2, z2⟩ := h.th FrR.rf (v := 0)
  generalize uI M 276 0 0 = M2 at h2 f2 z2 ⊢
  obtain ⟨ι, hR⟩ := h2.2.1
  refine ⟨fun e1 => ⟨fun e2 => rx_fail h2 f2 fun M' c1 c2 c3 => ?_, fun e2 => ?_⟩, fun e1 => rx_fail h2 f2 fun M' c1 c2 c3 => ?_⟩
  · have eo : oDieOf A p1 p2 = (2, 0) := by
      unfold oDieOf
      rw [show inB p1 0 4 = true from e1, show inB p2 0 5 = false from e2]; rfl
    rw [eo] at hp
    exact hp 0 M' c1 c2 c3 fun w => absurd w (by decide)
  · obtain ⟨n, hn, hn2, hn3⟩ := inB_get (l := 0) (h := 4) (by omega) (by omega) e1
    obtain ⟨m, hm, hm2, hm3⟩ := inB_get (l := 0) (h := 5) (by omega) (by omega) e2
    have eo : oDieOf A p1 p2 = (0, dieV A n p2) := by
      unfold oDieOf
      rw [show inB p1 0 4 = true from e1, show inB p2 0 5 = true from e2, hn, nI_clamp (by omega)]; rfl
    rw [eo] at hp
    rw [← sM_self (M := M2)]
    refine r_tellsDie h2.1 hR hI.2.2.2.2.1 (d := n) (n := m) (by omega) (by omega) hn hm ?_
    rw [sM_self]
    exact hp _ M2 h2 f2 z2 fun _ => rfl
  · have eo : oDieOf A p1 p2 = (1, 0) := by
      unfold oDieOf
      rw [show inB p1 0 4 = false from e1]; rfl
    rw [eo] at hp
    exact hp 0 M' c1 c2 c3 fun w => absurd w (by decide)
theorem lx_billet (h : KC M A Q s b cd) (hv : KV A j) (hj : j ≤ 600) (hp : ∀ M', KC M' A Q s b cd → FrL M M' → ((oBillet A p1 p2).1 = 0 → M'.2.2 282 0 = (oBillet A p1 p2).2.toInt64) → P (oBillet A p1 p2).1 M') : wp_L_billet 283 M 0 p1 p2 282 P := by
  obtain ⟨N, T, hN, hT, hI⟩ := hv
  obtain ⟨π1, h1⟩ := h.2.1
  obtain ⟨π2, E2, h2⟩ := h.2.2.1
  have hd := h.1
  refine ⟨tp6, ⟨fun e1 => ⟨fun e2 => ?_, fun e2 => Or.inr ⟨rfl, ?_⟩⟩, fun e1 => Or.inl ⟨rfl, ?_⟩⟩⟩
  · obtain ⟨n, hn, hn2, hn3⟩ := inB_get (l := 0) (h := 6) (by omega) (by omega) e1
    have eo : oBillet A p1 p2 = (0, bilV A n p2) := by
      unfold oBillet
      rw [show inB p1 0 6 = true from e1, show inB p2 0 3 = true from e2, hn, nI_clamp (by omega)]; rfl
    rw [eo] at hp
    exact ⟨tp6, 1, hd.1, tp5a, x_billetAt h1 (by omega) hn ⟨h1.tpB (by omega), x0_property h1 (by omega) (lx_ok h FrL.rf fun M' c1 c2 c3 => hp M' c1 c2 fun _ => c3)⟩⟩
  · have eo : oBillet A p1 p2 = (2, 0) := by
      unfold oBillet
      rw [show inB p1 0 6 = true from e1, show inB p2 0 3 = false from e2]; rfl
    rw [eo] at hp
    exact hp M h FrL.rf fun w => absurd w (by decide)
  · have eo : oBillet A p1 p2 = (1, 0) := by
      unfold oBillet
      rw [show inB p1 0 6 = false from e1]; rfl
    rw [eo] at hp
    exact hp M h FrL.rf fun w => absurd w (by decide)
theorem rx_billet (h : KR M A Q s b cd) (hv : KV A j) (hj : j ≤ 600) (hp : ∀ r M', KR M' A Q s b cd → FrR M M' → M'.1 276 0 = (oBillet A p1 p2).1 → ((oBillet A p1 p2).1 = 0 → r = (oBillet A p1 p2).2) → P r M') : wp_X7_billet 283 M 276 p1 p2 P := by
  obtain ⟨N, T, hN, hT, hI⟩ := hv
  have hc := hI.1.1.2.1
  refine ⟨tp7, fun M2 e2 => ?_⟩
  subst e2
  obtain ⟨h2, f2, z2⟩ := h.th FrR.rf (v := 0)
  generalize uI M 276 0 0 = M2 at h2 f2 z2 ⊢
  obtain ⟨ι, hR⟩ := h2.2.1
  refine ⟨fun e1 => ⟨fun e2 => rx_fail h2 f2 fun M' c1 c2 c3 => ?_, fun e2 => ?_⟩, fun e1 => rx_fail h2 f2 fun M' c1 c2 c3 => ?_⟩
  · have eo : oBillet A p1 p2 = (2, 0) := by
      unfold oBillet
      rw [show inB p1 0 6 = true from e1, show inB p2 0 3 = false from e2]; rfl
    rw [eo] at hp
    exact hp 0 M' c1 c2 c3 fun w => absurd w (by decide)
  · obtain ⟨n, hn, hn2, hn3⟩ := inB_get (l := 0) (h := 6) (by omega) (by omega) e1
    obtain ⟨m, hm, hm2, hm3⟩ := inB_get (l := 0) (h := 3) (by omega) (by omega) e2
    have eo : oBillet A p1 p2 = (0, bilV A n p2) := by
      unfold oBillet
      rw [show inB p1 0 6 = true from e1, show inB p2 0 3 = true from e2, hn, nI_clamp (by omega)]; rfl
    rw [eo] at hp
    rw [← sM_self (M := M2)]
    refine r_tellsBillet h2.1 hR (p := n) (n := m) (by omega) (by omega) hn hm ?_
    rw [sM_self]
    exact hp _ M2 h2 f2 z2 fun _ => rfl
  · have eo : oBillet A p1 p2 = (1, 0) := by
      unfold oBillet
      rw [show inB p1 0 6 = false from e1]; rfl
    rw [eo] at hp
    exact hp 0 M' c1 c2 c3 fun w => absurd w (by decide)
theorem lx_ifPassed (h : KC M A Q s b cd) (hv : KV A j) (hj : j ≤ 600) (hp : ∀ M', KC M' A Q s b cd → FrL M M' → ((oIfPassed A p1 p2).1 = 0 → M'.2.2 282 0 = (oIfPassed A p1 p2).2.toInt64) → P (oIfPassed A p1 p2).1 M') : wp_L_ifPassed 283 M 0 p1 p2 282 P := by
  obtain ⟨N, T, hN, hT, hI⟩ := hv
  obtain ⟨π1, h1⟩ := h.2.1
  obtain ⟨π2, E2, h2⟩ := h.2.2.1
  have hd := h.1
  refine ⟨tp6, ⟨fun e1 => ⟨rfl, ?_⟩, fun e1 => ⟨fun e2 => ?_, fun e2 => ⟨rfl, ?_⟩⟩⟩⟩
  · have eo : oIfPassed A p1 p2 = (1, 0) := by
      unfold oIfPassed
      rw [show inB p1 1 240 = false from e1]; rfl
    rw [eo] at hp
    exact hp M h FrL.rf fun w => absurd w (by decide)
  · obtain ⟨n, hn, hn2, hn3⟩ := inB_get (l := 1) (h := 240) (by omega) (by omega) e1
    have eo : oIfPassed A p1 p2 = (0, foreV A (mins n A) p2) := by
      unfold oIfPassed
      rw [show inB p1 1 240 = true from e1, show inB p2 0 4 = true from e2, hn, nI_clamp (by omega)]; rfl
    rw [eo] at hp
    exact ⟨tp6, x_foresee h1 h2 hd hI (n := n) (by omega) hn fun M3 π3 E3 h3 hq => x_foreseen h1 h3 hd hq (lx_ok (h.trial h3) h3.frc.1 fun M' c1 c2 c3 => hp M' c1 c2 fun _ => c3)⟩
  · have eo : oIfPassed A p1 p2 = (1, 0) := by
      unfold oIfPassed
      rw [show inB p1 1 240 = true from e1, show inB p2 0 4 = false from e2]; rfl
    rw [eo] at hp
    exact hp M h FrL.rf fun w => absurd w (by decide)
theorem rx_ifPassed (h : KR M A Q s b cd) (hv : KV A j) (hj : j ≤ 600) (hp : ∀ r M', KR M' A Q s b cd → FrR M M' → M'.1 276 0 = (oIfPassed A p1 p2).1 → ((oIfPassed A p1 p2).1 = 0 → r = (oIfPassed A p1 p2).2) → P r M') : wp_X7_ifPassed 283 M 276 p1 p2 P := by
  obtain ⟨N, T, hN, hT, hI⟩ := hv
  have hc := hI.1.1.2.1
  refine ⟨tp7, fun M2 e2 => ?_⟩
  subst e2
  obtain ⟨h2, f2, z2⟩ := h.th FrR.rf (v := 0)
  generalize uI M 276 0 0 = M2 at h2 f2 z2 ⊢
  obtain ⟨ι, hR⟩ := h2.2.1
  refine ⟨fun e1 => rx_fail h2 f2 fun M' c1 c2 c3 => ?_, fun e1 => ⟨fun e2 => rx_fail h2 f2 fun M' c1 c2 c3 => ?_, fun e2 => ?_⟩⟩
  · have eo : oIfPassed A p1 p2 = (1, 0) := by
      unfold oIfPassed
      rw [show inB p1 1 240 = false from e1]; rfl
    rw [eo] at hp
    exact hp 0 M' c1 c2 c3 fun w => absurd w (by decide)
  · have eo : oIfPassed A p1 p2 = (1, 0) := by
      unfold oIfPassed
      rw [show inB p1 1 240 = true from e1, show inB p2 0 4 = false from e2]; rfl
    rw [eo] at hp
    exact hp 0 M' c1 c2 c3 fun w => absurd w (by decide)
  · obtain ⟨n, hn, hn2, hn3⟩ := inB_get (l := 1) (h := 240) (by omega) (by omega) e1
    obtain ⟨m, hm, hm2, hm3⟩ := inB_get (l := 0) (h := 4) (by omega) (by omega) e2
    have eo : oIfPassed A p1 p2 = (0, foreV A (mins n A) p2) := by
      unfold oIfPassed
      rw [show inB p1 1 240 = true from e1, show inB p2 0 4 = true from e2, hn, nI_clamp (by omega)]; rfl
    rw [eo] at hp
    exact r_passed h2.1 hR hI (n := n) (q := m) (by omega) (by omega) hn hm fun M3 k3 => hp _ M3 (h2.sim (by rw [hI.cn]; exact hc) k3).1 (f2.tr (h2.sim (by rw [hI.cn]; exact hc) k3).2.1) ((h2.sim (by rw [hI.cn]; exact hc) k3).2.2.trans z2) fun _ => rfl
theorem lx_count (h : KC M A Q s b cd) (hv : KV A j) (hj : j ≤ 600) (hp : ∀ M', KC M' A Q s b cd → FrL M M' → ((oCount A s p1).1 = 0 → M'.2.2 282 0 = (oCount A s p1).2.toInt64) → P (oCount A s p1).1 M') : wp_L_count 283 M 0 p1 282 P := by
  obtain ⟨N, T, hN, hT, hI⟩ := hv
  obtain ⟨π1, h1⟩ := h.2.1
  obtain ⟨π2, E2, h2⟩ := h.2.2.1
  have hd := h.1
  refine ⟨tp6, ⟨fun e1 => ?_, fun e1 => ⟨rfl, ?_⟩⟩⟩
  · obtain ⟨n, hn, hn2, hn3⟩ := inB_get (l := 0) (h := 11) (by omega) (by omega) e1
    have eo : oCount A s p1 = (0, numV A (cnt A) (nI s) (nI n)) := by
      unfold oCount
      rw [show inB p1 0 11 = true from e1, hn]
      try rw [nI_clamp (by omega)]
      rfl
    rw [eo] at hp
    rw [← h.2.2.2.2.1, ← hn] at hp
    exact ⟨tp6, x_numberOf h1 hI.1.1 hd.1 (lx_ok h FrL.rf fun M' c1 c2 c3 => hp M' c1 c2 fun _ => c3)⟩
  · have eo : oCount A s p1 = (1, 0) := by
      unfold oCount
      rw [show inB p1 0 11 = false from e1]; rfl
    rw [eo] at hp
    exact hp M h FrL.rf fun w => absurd w (by decide)
theorem rx_count (h : KR M A Q s b cd) (hv : KV A j) (hj : j ≤ 600) (hp : ∀ r M', KR M' A Q s b cd → FrR M M' → M'.1 276 0 = (oCount A s p1).1 → ((oCount A s p1).1 = 0 → r = (oCount A s p1).2) → P r M') : wp_X7_count 283 M 276 p1 P := by
  obtain ⟨N, T, hN, hT, hI⟩ := hv
  have hc := hI.1.1.2.1
  refine ⟨tp7, fun M2 e2 => ?_⟩
  subst e2
  obtain ⟨h2, f2, z2⟩ := h.th FrR.rf (v := 0)
  generalize uI M 276 0 0 = M2 at h2 f2 z2 ⊢
  obtain ⟨ι, hR⟩ := h2.2.1
  refine ⟨fun e1 => rx_fail h2 f2 fun M' c1 c2 c3 => ?_, fun e1 => ?_⟩
  · have eo : oCount A s p1 = (1, 0) := by
      unfold oCount
      rw [show inB p1 0 11 = false from e1]; rfl
    rw [eo] at hp
    exact hp 0 M' c1 c2 c3 fun w => absurd w (by decide)
  · obtain ⟨n, hn, hn2, hn3⟩ := inB_get (l := 0) (h := 11) (by omega) (by omega) e1
    have eo : oCount A s p1 = (0, numV A (cnt A) (nI s) (nI n)) := by
      unfold oCount
      rw [show inB p1 0 11 = true from e1, hn]
      try rw [nI_clamp (by omega)]
      rfl
    rw [eo] at hp
    rw [← sM_self (M := M2)]
    refine r_counts h2.1 hR hI.1 hI.2.2.2.1 (n := n) (by omega) hn ?_
    rw [sM_self, h2.2.2.1, hn]
    exact hp _ M2 h2 f2 z2 fun _ => rfl
theorem lx_setting (h : KC M A Q s b cd) (hv : KV A j) (hj : j ≤ 600) (hp : ∀ M', KC M' A Q s b cd → FrL M M' → ((oSetting A p1).1 = 0 → M'.2.2 282 0 = (oSetting A p1).2.toInt64) → P (oSetting A p1).1 M') : wp_L_setting 283 M 0 p1 282 P := by
  obtain ⟨N, T, hN, hT, hI⟩ := hv
  obtain ⟨π1, h1⟩ := h.2.1
  obtain ⟨π2, E2, h2⟩ := h.2.2.1
  have hd := h.1
  refine ⟨tp6, ⟨fun e1 => ?_, fun e1 => ⟨rfl, ?_⟩⟩⟩
  · obtain ⟨n, hn, hn2, hn3⟩ := inB_get (l := 0) (h := 3) (by omega) (by omega) e1
    have eo : oSetting A p1 = (0, A 0 (7 + n)) := by
      unfold oSetting
      rw [show inB p1 0 3 = true from e1, hn]
      try rw [nI_clamp (by omega)]
      rfl
    rw [eo] at hp
    exact ⟨tp6, 1, hd.1, tp5a, x_valueOf h1 (i := n) (by omega) hn (lx_ok h FrL.rf fun M' c1 c2 c3 => hp M' c1 c2 fun _ => c3)⟩
  · have eo : oSetting A p1 = (1, 0) := by
      unfold oSetting
      rw [show inB p1 0 3 = false from e1]; rfl
    rw [eo] at hp
    exact hp M h FrL.rf fun w => absurd w (by decide)
theorem rx_setting (h : KR M A Q s b cd) (hv : KV A j) (hj : j ≤ 600) (hp : ∀ r M', KR M' A Q s b cd → FrR M M' → M'.1 276 0 = (oSetting A p1).1 → ((oSetting A p1).1 = 0 → r = (oSetting A p1).2) → P r M') : wp_X7_setting 283 M 276 p1 P := by
  obtain ⟨N, T, hN, hT, hI⟩ := hv
  have hc := hI.1.1.2.1
  refine ⟨tp7, fun M2 e2 => ?_⟩
  subst e2
  obtain ⟨h2, f2, z2⟩ := h.th FrR.rf (v := 0)
  generalize uI M 276 0 0 = M2 at h2 f2 z2 ⊢
  obtain ⟨ι, hR⟩ := h2.2.1
  refine ⟨fun e1 => rx_fail h2 f2 fun M' c1 c2 c3 => ?_, fun e1 => ?_⟩
  · have eo : oSetting A p1 = (1, 0) := by
      unfold oSetting
      rw [show inB p1 0 3 = false from e1]; rfl
    rw [eo] at hp
    exact hp 0 M' c1 c2 c3 fun w => absurd w (by decide)
  · obtain ⟨n, hn, hn2, hn3⟩ := inB_get (l := 0) (h := 3) (by omega) (by omega) e1
    have eo : oSetting A p1 = (0, A 0 (7 + n)) := by
      unfold oSetting
      rw [show inB p1 0 3 = true from e1, hn]
      try rw [nI_clamp (by omega)]
      rfl
    rw [eo] at hp
    refine ⟨277, h2.1.1, tp8, by rw [len8]; exact vpI hn (by omega) (by omega), ?_⟩
    rw [hn, nI_clamp (by omega), hR.1.1 n (by omega)]
    exact hp _ M2 h2 f2 z2 fun _ => rfl
theorem lx_bestReheats (h : KC M A Q s b cd) (hv : KV A j) (hj : j ≤ 600) (hp : ∀ M', KC M' A Q s b cd → FrL M M' → ((oBest A p1).1 = 0 → M'.2.2 282 0 = (oBest A p1).2.toInt64) → P (oBest A p1).1 M') : wp_L_bestReheats 283 M 0 p1 282 P := by
  obtain ⟨N, T, hN, hT, hI⟩ := hv
  obtain ⟨π1, h1⟩ := h.2.1
  obtain ⟨π2, E2, h2⟩ := h.2.2.1
  have hd := h.1
  refine ⟨tp6, ⟨fun e1 => ?_, fun e1 => ⟨rfl, ?_⟩⟩⟩
  · obtain ⟨n, hn, hn2, hn3⟩ := inB_get (l := 1) (h := 120) (by omega) (by omega) e1
    have eo : oBest A p1 = (0, (bst A n 3).1) := by
      unfold oBest
      rw [show inB p1 1 120 = true from e1, hn]
      try rw [nI_clamp (by omega)]
      rfl
    rw [eo] at hp
    exact ⟨tp6, x_bestNumberOfReheats h1 h2 hd hI (n := n) (by omega) hn fun M3 π3 E3 h3 => lx_ok (h.trial h3) h3.frc.1 fun M' c1 c2 c3 => hp M' c1 c2 fun _ => c3⟩
  · have eo : oBest A p1 = (1, 0) := by
      unfold oBest
      rw [show inB p1 1 120 = false from e1]; rfl
    rw [eo] at hp
    exact hp M h FrL.rf fun w => absurd w (by decide)
theorem rx_bestReheats (h : KR M A Q s b cd) (hv : KV A j) (hj : j ≤ 600) (hp : ∀ r M', KR M' A Q s b cd → FrR M M' → M'.1 276 0 = (oBest A p1).1 → ((oBest A p1).1 = 0 → r = (oBest A p1).2) → P r M') : wp_X7_bestReheats 283 M 276 p1 P := by
  obtain ⟨N, T, hN, hT, hI⟩ := hv
  have hc := hI.1.1.2.1
  refine ⟨tp7, fun M2 e2 => ?_⟩
  subst e2
  obtain ⟨h2, f2, z2⟩ := h.th FrR.rf (v := 0)
  generalize uI M 276 0 0 = M2 at h2 f2 z2 ⊢
  obtain ⟨ι, hR⟩ := h2.2.1
  refine ⟨fun e1 => rx_fail h2 f2 fun M' c1 c2 c3 => ?_, fun e1 => ?_⟩
  · have eo : oBest A p1 = (1, 0) := by
      unfold oBest
      rw [show inB p1 1 120 = false from e1]; rfl
    rw [eo] at hp
    exact hp 0 M' c1 c2 c3 fun w => absurd w (by decide)
  · obtain ⟨n, hn, hn2, hn3⟩ := inB_get (l := 1) (h := 120) (by omega) (by omega) e1
    have eo : oBest A p1 = (0, (bst A n 3).1) := by
      unfold oBest
      rw [show inB p1 1 120 = true from e1, hn]
      try rw [nI_clamp (by omega)]
      rfl
    rw [eo] at hp
    exact r_reheatsFor h2.1 hR hI (n := n) (by omega) hn fun M3 k3 => hp _ M3 (h2.sim (by rw [hI.cn]; exact hc) k3).1 (f2.tr (h2.sim (by rw [hI.cn]; exact hc) k3).2.1) ((h2.sim (by rw [hI.cn]; exact hc) k3).2.2.trans z2) fun _ => rfl
theorem lx_doneIn (h : KC M A Q s b cd) (hv : KV A j) (hj : j ≤ 600) (hp : ∀ M', KC M' A Q s b cd → FrL M M' → ((oDoneIn A p1).1 = 0 → M'.2.2 282 0 = (oDoneIn A p1).2.toInt64) → P (oDoneIn A p1).1 M') : wp_L_doneIn 283 M 0 p1 282 P := by
  obtain ⟨N, T, hN, hT, hI⟩ := hv
  obtain ⟨π1, h1⟩ := h.2.1
  obtain ⟨π2, E2, h2⟩ := h.2.2.1
  have hd := h.1
  have on := oI_n1 (o := placeA A (cnt A) p1) hI.1.1.2.1 fun k e => place_lt e
  refine ⟨tp6, tp6, 1, hd.1, tp5a, x_placeOf h1 hI.1.1 ⟨fun e => ?_, fun e => ⟨rfl, ?_⟩⟩⟩
  · have eo : oDoneIn A p1 = (0, goneL 240 1 A p1) := if_neg fun w => e (on.mpr w)
    rw [eo] at hp
    exact x_goneBehind h1 h2 hd hI (by omega) fun M3 π3 E3 h3 => lx_ok (h.trial h3) h3.frc.1 fun M' c1 c2 c3 => hp M' c1 c2 fun _ => c3
  · have eo : oDoneIn A p1 = (1, 0) := if_pos (on.mp e)
    rw [eo] at hp
    exact hp M h FrL.rf fun w => absurd w (by decide)
theorem mapI_n1 {A : Ab} {c : Nat} {m : Int32} {ι : Nat → Nat} {σ : Nat → Int32} (hR : Rel A c m ι σ) (hc : c ≤ 10) {x : Int32} : oI ((placeA A c x).map ι) = -1 ↔ placeA A c x = none := by
  cases e : placeA A c x with
  | none => exact ⟨fun _ => rfl, fun _ => rfl⟩
  | some k => exact ⟨fun w => absurd w (nI_n1 (by have := hR.2.2.2.2.1.1.1 k (place_lt e); omega)), fun w => (by cases w)⟩
theorem rx_doneIn (h : KR M A Q s b cd) (hv : KV A j) (hj : j ≤ 600) (hp : ∀ r M', KR M' A Q s b cd → FrR M M' → M'.1 276 0 = (oDoneIn A p1).1 → ((oDoneIn A p1).1 = 0 → r = (oDoneIn A p1).2) → P r M') : wp_X7_doneIn 283 M 276 p1 P := by
  obtain ⟨N, T, hN, hT, hI⟩ := hv
  have hc := hI.1.1.2.1
  refine ⟨tp7, fun M2 e2 => ?_⟩
  subst e2
  obtain ⟨h2, f2, z2⟩ := h.th FrR.rf (v := 0)
  generalize uI M 276 0 0 = M2 at h2 f2 z2 ⊢
  obtain ⟨ι, hR⟩ := h2.2.1
  have on := mapI_n1 hR hc (x := p1)
  rw [← sM_self (M := M2)]
  refine r_jobWith h2.1 hR hI.1 ?_
  rw [sM_self]
  refine ⟨fun e => rx_fail h2 f2 fun M' c1 c2 c3 => ?_, fun e => ?_⟩
  · have eo : oDoneIn A p1 = (1, 0) := if_pos (on.mp e)
    rw [eo] at hp
    exact hp 0 M' c1 c2 c3 fun w => absurd w (by decide)
  · have ne : placeA A (cnt A) p1 ≠ none := fun w => e (on.mpr w)
    have eo : oDoneIn A p1 = (0, goneL 240 1 A p1) := if_neg ne
    rw [eo] at hp
    cases ek : placeA A (cnt A) p1 with
    | none => exact absurd ek ne
    | some k => exact (r_untilGone h2.1 hR hI (by omega) ek fun M3 k3 => hp _ M3 (h2.sim (by rw [hI.cn]; exact hc) k3).1 (f2.tr (h2.sim (by rw [hI.cn]; exact hc) k3).2.1) ((h2.sim (by rw [hI.cn]; exact hc) k3).2.2.trans z2) fun _ => rfl).1
def okR (A : Ab) (p1 : Int32) (p : Nat) : Prop := ∀ k, placeA A (cnt A) p1 = some k → p < cnt A ∧ srt (hasteA A k p) (cnt A)
theorem lx_ifRush (h : KC M A Q s b cd) (hv : KV A j) (hj : j ≤ 600) (hp : ∀ p, okR A p1 p → ∀ M', KC M' A Q s b cd → FrL M M' → ((oIfRush A p1 p).1 = 0 → M'.2.2 282 0 = (oIfRush A p1 p).2.toInt64) → P (oIfRush A p1 p).1 M') : wp_L_ifRush 283 M 0 p1 282 P := by
  obtain ⟨N, T, hN, hT, hI⟩ := hv
  obtain ⟨π1, h1⟩ := h.2.1
  obtain ⟨π2, E2, h2⟩ := h.2.2.1
  have hd := h.1
  have on := oI_n1 (o := placeA A (cnt A) p1) hI.1.1.2.1 fun k e => place_lt e
  refine ⟨tp6, tp6, 1, hd.1, tp5a, x_placeOf h1 hI.1.1 ⟨fun e => ?_, fun e => ⟨rfl, ?_⟩⟩⟩
  · cases ek : placeA A (cnt A) p1 with
    | none => exact absurd (on.mpr ek) e
    | some k =>
      refine x_goneBehind h1 h2 hd hI (by omega) fun M3 π3 E3 h3 => x_gainByHaste h1 h3 hd hI (by omega) ek fun p M4 π4 E4 p1' p2' h4 => ?_
      have ok : okR A p1 p := fun k' e' => by
        rw [ek] at e'
        cases e'
        exact ⟨p1', p2'⟩
      have key := hp p ok
      have eo : oIfRush A p1 p = (0, gainV (goneL 240 1 A p1) (goneL 240 1 (hasteA A k p) p1)) := by unfold oIfRush; rw [ek]
      rw [eo] at key
      generalize gainV (goneL 240 1 A p1) (goneL 240 1 (hasteA A k p) p1) = v at key ⊢
      exact lx_ok (h.trial h4) h4.frc.1 fun M' c1 c2 c3 => key M' c1 c2 fun _ => c3
  · have key := hp 0 fun k ek => by rw [on.mp e] at ek; cases ek
    have eo : oIfRush A p1 0 = (1, 0) := by unfold oIfRush; rw [on.mp e]
    rw [eo] at key
    exact key M h FrL.rf fun w => absurd w (by decide)
theorem rx_ifRush {p : Nat} (h : KR M A Q s b cd) (hv : KV A j) (hj : j ≤ 600) (ok : okR A p1 p) (hp : ∀ r M', KR M' A Q s b cd → FrR M M' → M'.1 276 0 = (oIfRush A p1 p).1 → ((oIfRush A p1 p).1 = 0 → r = (oIfRush A p1 p).2) → P r M') : wp_X7_ifRush 283 M 276 p1 P := by
  obtain ⟨N, T, hN, hT, hI⟩ := hv
  have hc := hI.1.1.2.1
  refine ⟨tp7, fun M2 e2 => ?_⟩
  subst e2
  obtain ⟨h2, f2, z2⟩ := h.th FrR.rf (v := 0)
  generalize uI M 276 0 0 = M2 at h2 f2 z2 ⊢
  obtain ⟨ι, hR⟩ := h2.2.1
  have on := mapI_n1 hR hc (x := p1)
  rw [← sM_self (M := M2)]
  refine r_jobWith h2.1 hR hI.1 ?_
  rw [sM_self]
  refine ⟨fun e => rx_fail h2 f2 fun M' c1 c2 c3 => ?_, fun e => ?_⟩
  · have eo : oIfRush A p1 p = (1, 0) := by unfold oIfRush; rw [on.mp e]
    rw [eo] at hp
    exact hp 0 M' c1 c2 c3 fun w => absurd w (by decide)
  · have ne : placeA A (cnt A) p1 ≠ none := fun w => e (on.mpr w)
    cases ek : placeA A (cnt A) p1 with
    | none => exact absurd ek ne
    | some k =>
      have eo : oIfRush A p1 p = (0, gainV (goneL 240 1 A p1) (goneL 240 1 (hasteA A k p) p1)) := by unfold oIfRush; rw [ek]
      rw [eo] at hp
      refine r_earlier h2.1 hR hI (by omega) ek (ok k ek).1 (ok k ek).2 fun M3 k3 => ?_
      generalize gainV (goneL 240 1 A p1) (goneL 240 1 (hasteA A k p) p1) = v at hp ⊢
      exact hp _ M3 (h2.sim (by rw [hI.cn]; exact hc) k3).1 (f2.tr (h2.sim (by rw [hI.cn]; exact hc) k3).2.1) ((h2.sim (by rw [hI.cn]; exact hc) k3).2.2.trans z2) fun _ => rfl
theorem nn_get {x : Int32} (h : ¬ x < 0) : ∃ n, x = nI n ∧ n < 2 ^ 31 := by
  rw [Int32.lt_iff_toInt_lt] at h
  have h0 : (0 : Int32).toInt = 0 := rfl
  rw [h0] at h
  have hl := Int32.toInt_lt x
  refine ⟨x.toInt.toNat, ?_, by omega⟩
  rw [← Int32.toInt_inj, nI_toInt (by omega)]
  omega
theorem lx_jobOf (h : KC M A Q s b cd) (hv : KV A j) (hj : j ≤ 600) (hp : ∀ M', KC M' A Q s b cd → FrL M M' → ((oJobOf A p1 p2).1 = 0 → M'.2.2 282 0 = (oJobOf A p1 p2).2.toInt64) → P (oJobOf A p1 p2).1 M') : wp_L_jobOf 283 M 0 p1 p2 282 P := by
  obtain ⟨N, T, hN, hT, hI⟩ := hv
  obtain ⟨π1, h1⟩ := h.2.1
  have hd := h.1
  refine ⟨tp6, fun e0 => ⟨rfl, ?_⟩, fun e0 => ⟨fun e1 => ⟨tp6, 1, hd.1, tp5a, fun e2 => ?_, fun e2 => ⟨1, hd.1, tp5a, ?_⟩⟩, fun e1 => ⟨rfl, ?_⟩⟩⟩
  · have eo : oJobOf A p1 p2 = (1, 0) := if_pos e0
    rw [eo] at hp
    exact hp M h FrL.rf fun w => absurd w (by decide)
  · rw [h1.N] at e2
    have eo : oJobOf A p1 p2 = (0, -1) := by unfold oJobOf; rw [if_neg e0, show inB p2 0 7 = true from e1, if_pos rfl, if_pos e2]
    rw [eo] at hp
    exact lx_ok h FrL.rf fun M' c1 c2 c3 => hp M' c1 c2 fun _ => c3
  · rw [h1.N] at e2
    obtain ⟨n, hn, hn2⟩ := nn_get e0
    have hnc : n < cnt A := by
      rcases Nat.lt_or_ge n (cnt A) with w | w
      · exact w
      · exact absurd (by rw [hI.1.1.1, hn]; exact (nI_leI (by omega) (by omega)).mpr w) e2
    have eo : oJobOf A p1 p2 = (0, jobV A n p2) := by unfold oJobOf; rw [if_neg e0, show inB p2 0 7 = true from e1, if_pos rfl, if_neg e2, hn, nI_clamp (by omega)]
    rw [eo] at hp
    exact x_jobProperty h1 hI.1.1 hnc hn (lx_ok h FrL.rf fun M' c1 c2 c3 => hp M' c1 c2 fun _ => c3)
  · have eo : oJobOf A p1 p2 = (1, 0) := by unfold oJobOf; rw [if_neg e0, show inB p2 0 7 = false from e1]; rfl
    rw [eo] at hp
    exact hp M h FrL.rf fun w => absurd w (by decide)
theorem rx_jobOf (h : KR M A Q s b cd) (hv : KV A j) (hj : j ≤ 600) (hp : ∀ r M', KR M' A Q s b cd → FrR M M' → M'.1 276 0 = (oJobOf A p1 p2).1 → ((oJobOf A p1 p2).1 = 0 → r = (oJobOf A p1 p2).2) → P r M') : wp_X7_jobOf 283 M 276 p1 p2 P := by
  obtain ⟨N, T, hN, hT, hI⟩ := hv
  have hc := hI.1.1.2.1
  refine ⟨tp7, fun M2 e2 => ?_⟩
  subst e2
  obtain ⟨h2, f2, z2⟩ := h.th FrR.rf (v := 0)
  generalize uI M 276 0 0 = M2 at h2 f2 z2 ⊢
  obtain ⟨ι, hR⟩ := h2.2.1
  refine ⟨fun e0 => rx_fail h2 f2 fun M' c1 c2 c3 => ?_, fun e0 => ⟨fun e1 => rx_fail h2 f2 fun M' c1 c2 c3 => ?_, fun e1 => ?_⟩⟩
  · have eo : oJobOf A p1 p2 = (1, 0) := if_pos e0
    rw [eo] at hp
    exact hp 0 M' c1 c2 c3 fun w => absurd w (by decide)
  · have eo : oJobOf A p1 p2 = (1, 0) := by unfold oJobOf; rw [if_neg e0, show inB p2 0 7 = false from e1]; rfl
    rw [eo] at hp
    exact hp 0 M' c1 c2 c3 fun w => absurd w (by decide)
  · obtain ⟨n, hn, hn2⟩ := nn_get e0
    obtain ⟨m, hm, hm2, hm3⟩ := inB_get (l := 0) (h := 7) (by omega) (by omega) e1
    rw [← sM_self (M := M2)]
    by_cases w : n < cnt A
    · have e2 : ¬ A 0 5 ≤ p1 := fun z => by
        rw [hI.1.1.1, hn] at z
        have := (nI_leI (by omega) (by omega)).mp z
        omega
      have eo : oJobOf A p1 p2 = (0, jobV A n p2) := by unfold oJobOf; rw [if_neg e0, show inB p2 0 7 = true from e1, if_pos rfl, if_neg e2, hn, nI_clamp (by omega)]
      rw [eo] at hp
      refine r_tellsJob h2.1 hR hI.1 hI.2.1 hI.2.2.2.1 hI.2.2.2.2.1 w (n := m) (by omega) hn hm ?_
      rw [sM_self]
      exact hp _ M2 h2 f2 z2 fun _ => rfl
    · have e2 : A 0 5 ≤ p1 := by
        rw [hI.1.1.1, hn]
        exact (nI_leI (by omega) (by omega)).mpr (by omega)
      have eo : oJobOf A p1 p2 = (0, -1) := by unfold oJobOf; rw [if_neg e0, show inB p2 0 7 = true from e1, if_pos rfl, if_pos e2]
      rw [eo] at hp
      refine r_tellsJob_none h2.1 hR hI.1 (fun k hk z => ?_) ?_
      · rw [hn] at z
        have := (nI_eq (by omega) (by omega)).mp z
        omega
      · rw [sM_self]
        exact hp _ M2 h2 f2 z2 fun _ => rfl
end LKD
