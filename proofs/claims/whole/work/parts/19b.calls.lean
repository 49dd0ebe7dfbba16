/-! Calls: what they answer; those that change nothing. -/
def inB (p lo hi : Int32) : Bool := if p < lo then false else if hi < p then false else true
theorem inB_get {p : Int32} {l h : Nat} (hl : l < 2 ^ 31) (hh : h < 2 ^ 31) (e : inB p (nI l) (nI h) = true) : ∃ n, p = nI n ∧ l ≤ n ∧ n ≤ h := by
  unfold inB at e
  split at e
  · cases e
  · rename_i h1
    split at e
    · cases e
    · rename_i h2
      rw [Int32.lt_iff_toInt_lt, nI_toInt hl] at h1
      rw [Int32.lt_iff_toInt_lt, nI_toInt hh] at h2
      refine ⟨p.toInt.toNat, ?_, by omega, by omega⟩
      rw [← Int32.toInt_inj, nI_toInt (by omega)]
      omega
theorem tp10 : m_tp 283 282 10 := ⟨by decide, by decide⟩
theorem len282 : m_len 282 = 1 := by decide
def FrL (M M' : Mem) : Prop := ∀ a, 276 ≤ a → M'.1 a = M.1 a ∧ M'.2.1 a = M.2.1 a
theorem FrL.tr {M M1 M2 : Mem} (h : FrL M M1) (k : FrL M1 M2) : FrL M M2 := fun a ha => ⟨(k a ha).1.trans (h a ha).1, (k a ha).2.trans (h a ha).2⟩
theorem FrL.rf {M : Mem} : FrL M M := fun _ _ => ⟨rfl, rfl⟩
section CLS
variable {M M1 M2 M' : Mem} {A A' : Ab} {Q Q' : Nat → Ab} {s b j s' b' : Nat} {cd cd' : Nat → Nat} {π : Nat → Nat}
theorem KR.frl (h : KR M A Q s b cd) (e : FrL M M') : KR M' A Q s b cd := by
  obtain ⟨hB, ⟨ι, hR⟩, h4, hQ, h6, hq⟩ := h
  refine ⟨by unfold RB; rw [(e 276 (by omega)).2]; exact hB, ⟨ι, by rw [(e 277 (by omega)).1]; exact hR⟩, by rw [(e 276 (by omega)).1]; exact h4, fun i hi => ?_, by rw [(e 276 (by omega)).1]; exact h6, fun i hi => by rw [(e 280 (by omega)).1]; exact hq i hi⟩
  rw [(e 279 (by omega)).1]; exact hQ i hi
/-- the class's answer is written down -/
theorem lx_ok {r : Int32} {P : Int32 → Mem → Prop} (h : KC M1 A Q s b cd) (f : FrL M M1) (hp : ∀ M', KC M' A Q s b cd → FrL M M' → M'.2.2 282 0 = r.toInt64 → P 0 M') : m_tp 283 282 10 ∧ (vp_in 0 (m_len 282) ∧ (∀ M6 : Mem, M6 = uL M1 282 (0 : Int32).toNatClampNeg (r.toInt64) → P 0 M6)) := by
  refine ⟨tp10, by rw [len282]; exact vpI (i := 0) rfl (by omega) (by omega), fun M6 e6 => ?_⟩
  subst e6
  exact hp _ (h.fr fun a _ => ⟨rfl, rfl⟩) (f.tr fun a _ => ⟨rfl, rfl⟩) uL_s
theorem KR.th (h : KR M A Q s b cd) (f : FrR M1 M) {v : Int32} : KR (uI M 276 0 v) A Q s b cd ∧ FrR M1 (uI M 276 0 v) ∧ (uI M 276 0 v).1 276 0 = v := by
  obtain ⟨hB, ⟨ι, hR⟩, h4, hQ, h6, hq⟩ := h
  refine ⟨⟨hB, ⟨ι, by rw [uI_a (by omega)]; exact hR⟩, by rw [uI_o (by omega)]; exact h4, fun i hi => ?_, by rw [uI_o (by omega)]; exact h6, fun i hi => by rw [uI_a (by omega)]; exact hq i hi⟩, f.tr ⟨fun a ha => ⟨uI_a (by omega), rfl⟩, fun _ => rfl⟩, uI_s⟩
  rw [uI_a (by omega)]; exact hQ i hi
theorem rx_fail {x : Int32} {P : Int32 → Mem → Prop} (h : KR M2 A Q s b cd) (f : FrR M M2) (hp : ∀ M', KR M' A Q s b cd → FrR M M' → M'.1 276 0 = x → P 0 M') : wp_X7_fails 283 M2 276 x P := by
  refine ⟨tp7, fun M3 e3 => ?_⟩
  subst e3
  have := h.th f (v := x)
  exact hp _ this.1 this.2.1 this.2.2
theorem KR.sim (h : KR M A Q s b cd) (hc : cnt A ≤ 10) (k : SimR M M') : KR M' A Q s b cd ∧ FrR M M' ∧ M'.1 276 0 = M.1 276 0 := by
  obtain ⟨hB, ⟨ι, hR⟩, h4, hQ, h6, hq⟩ := h
  obtain ⟨k1, k2, k3⟩ := k
  refine ⟨⟨by unfold RB; rw [k2]; exact hB, ⟨ι, hR.eq158 hc k3⟩, by rw [k1 276 (by omega) (by omega)]; exact h4, fun i hi => ?_, by rw [k1 276 (by omega) (by omega)]; exact h6, fun i hi => by rw [k1 280 (by omega) (by omega)]; exact hq i hi⟩, ⟨fun a ha => ⟨k1 a (by omega) (by omega), by rw [k2]⟩, fun i => by rw [k2]⟩, by rw [k1 276 (by omega) (by omega)]⟩
  rw [k1 279 (by omega) (by omega)]; exact hQ i hi
end CLS
def oHeat (A : Ab) (p1 p2 : Int32) : Int32 × Int32 := if inB p1 0 3 = true then (if inB p2 0 6 = true then (0, heatV A (cnt A) p1.toNatClampNeg p2) else (2, 0)) else (1, 0)
def oDieOf (A : Ab) (p1 p2 : Int32) : Int32 × Int32 := if inB p1 0 4 = true then (if inB p2 0 5 = true then (0, dieV A p1.toNatClampNeg p2) else (2, 0)) else (1, 0)
def oBillet (A : Ab) (p1 p2 : Int32) : Int32 × Int32 := if inB p1 0 6 = true then (if inB p2 0 3 = true then (0, bilV A p1.toNatClampNeg p2) else (2, 0)) else (1, 0)
def oJobOf (A : Ab) (p1 p2 : Int32) : Int32 × Int32 := if p1 < 0 then (1, 0) else if inB p2 0 7 = true then (0, if A 0 5 ≤ p1 then -1 else jobV A p1.toNatClampNeg p2) else (1, 0)
def oCount (A : Ab) (s : Nat) (p1 : Int32) : Int32 × Int32 := if inB p1 0 11 = true then (0, numV A (cnt A) (nI s) p1) else (1, 0)
def oSetting (A : Ab) (p1 : Int32) : Int32 × Int32 := if inB p1 0 3 = true then (0, A 0 (7 + p1.toNatClampNeg)) else (1, 0)
def oIfPassed (A : Ab) (p1 p2 : Int32) : Int32 × Int32 := if inB p1 1 240 = true then (if inB p2 0 4 = true then (0, foreV A (mins p1.toNatClampNeg A) p2) else (1, 0)) else (1, 0)
def oDoneIn (A : Ab) (p1 : Int32) : Int32 × Int32 := if placeA A (cnt A) p1 = none then (1, 0) else (0, goneL 240 1 A p1)
def oIfRush (A : Ab) (p1 : Int32) (p : Nat) : Int32 × Int32 := match placeA A (cnt A) p1 with
  | none => (1, 0)
  | some k => (0, gainV (goneL 240 1 A p1) (goneL 240 1 (hasteA A k p) p1))
def oBest (A : Ab) (p1 : Int32) : Int32 × Int32 := if inB p1 1 120 = true then (0, (bst A p1.toNatClampNeg 3).1) else (1, 0)
section LKC
variable {M : Mem} {A : Ab} {Q : Nat → Ab} {s b j : Nat} {cd : Nat → Nat} {p1 p2 : Int32} {P : Int32 → Mem → Prop}
theorem lx_heat (h : KC M A Q s b cd) (hv : KV A j) (hp : ∀ M', KC M' A Q s b cd → FrL M M' → ((oHeat A p1 p2).1 = 0 → M'.2.2 282 0 = (oHeat A p1 p2).2.toInt64) → P (oHeat A p1 p2).1 M') : wp_L_heat 283 M 0 p1 p2 282 P := by
  obtain ⟨N, T, -, -, hI⟩ := hv
  obtain ⟨π1, h1⟩ := h.2.1
  have hd := h.1
  refine ⟨tp6, ⟨fun e1 => ⟨fun e2 => ⟨tp6, 1, hd.1, tp5a, ?_⟩, fun e2 => Or.inr ⟨rfl, ?_⟩⟩, fun e1 => Or.inl ⟨rfl, ?_⟩⟩⟩
  · obtain ⟨n, hn, _, hn3⟩ := inB_get (l := 0) (h := 3) (by omega) (by omega) e1
    have eo : oHeat A p1 p2 = (0, heatV A (cnt A) n p2) := by
      unfold oHeat
      rw [show inB p1 0 3 = true from e1, show inB p2 0 6 = true from e2, hn, nI_clamp (by omega)]; rfl
    rw [eo] at hp
    exact x_heatProperty h1 hI.1.1 (by omega) hn (lx_ok h FrL.rf fun M' c1 c2 c3 => hp M' c1 c2 fun _ => c3)
  · have eo : oHeat A p1 p2 = (2, 0) := by
      unfold oHeat
      rw [show inB p1 0 3 = true from e1, show inB p2 0 6 = false from e2]; rfl
    rw [eo] at hp
    exact hp M h FrL.rf fun w => absurd w (by decide)
  · have eo : oHeat A p1 p2 = (1, 0) := by
      unfold oHeat
      rw [show inB p1 0 3 = false from e1]; rfl
    rw [eo] at hp
    exact hp M h FrL.rf fun w => absurd w (by decide)
theorem rx_heat (h : KR M A Q s b cd) (hv : KV A j) (hp : ∀ r M', KR M' A Q s b cd → FrR M M' → M'.1 276 0 = (oHeat A p1 p2).1 → ((oHeat A p1 p2).1 = 0 → r = (oHeat A p1 p2).2) → P r M') : wp_X7_heat 283 M 276 p1 p2 P := by
  obtain ⟨N, T, -, -, hI⟩ := hv
  refine ⟨tp7, fun M2 e2 => ?_⟩
  subst e2
  obtain ⟨h2, f2, z2⟩ := h.th FrR.rf (v := 0)
  generalize uI M 276 0 0 = M2 at h2 f2 z2 ⊢
  refine ⟨fun e1 => ⟨fun e2 => rx_fail h2 f2 fun M' c1 c2 c3 => ?_, fun e2 => ?_⟩, fun e1 => rx_fail h2 f2 fun M' c1 c2 c3 => ?_⟩
  · have eo : oHeat A p1 p2 = (2, 0) := by
      unfold oHeat
      rw [show inB p1 0 3 = true from e1, show inB p2 0 6 = false from e2]; rfl
    rw [eo] at hp
    exact hp 0 M' c1 c2 c3 fun w => absurd w (by decide)
  · obtain ⟨n, hn, _, hn3⟩ := inB_get (l := 0) (h := 3) (by omega) (by omega) e1
    obtain ⟨m, hm, _, hm3⟩ := inB_get (l := 0) (h := 6) (by omega) (by omega) e2
    have eo : oHeat A p1 p2 = (0, heatV A (cnt A) n p2) := by
      unfold oHeat
      rw [show inB p1 0 3 = true from e1, show inB p2 0 6 = true from e2, hn, nI_clamp (by omega)]; rfl
    rw [eo] at hp
    obtain ⟨ι, hR⟩ := h2.2.1
    rw [← sM_self (M := M2)]
    refine r_tellsHeat h2.1 hR hI.1 hI.2.1 (i := n) (n := m) (by omega) (by omega) hn hm ?_
    rw [sM_self]
    exact hp _ M2 h2 f2 z2 fun _ => rfl
  · have eo : oHeat A p1 p2 = (1, 0) := by
      unfold oHeat
      rw [show inB p1 0 3 = false from e1]; rfl
    rw [eo] at hp
    exact hp 0 M' c1 c2 c3 fun w => absurd w (by decide)
end LKC
