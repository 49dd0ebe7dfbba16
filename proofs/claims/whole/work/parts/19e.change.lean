/-! Calls that change the shop: die, grind, set, pass. -/
def oDie (A : Ab) (p1 p2 p3 : Int32) : Int32 × Int32 × Ab := if inB p1 0 4 = true then (if inB p2 1 9 = true then (if inB p3 10 300 = true then (if A (7 + p1.toNatClampNeg) 3 ≤ 0 then (0, A (7 + p1.toNatClampNeg) 2, aU (aU (aU A (7 + p1.toNatClampNeg) 0 p2) (7 + p1.toNatClampNeg) 1 p3) (7 + p1.toNatClampNeg) 2 0) else (3, 0, A)) else (2, 0, A)) else (2, 0, A)) else (1, 0, A)
def oGrind (A : Ab) (p1 : Int32) : Int32 × Int32 × Ab := if inB p1 0 4 = true then (if groundA A = none then (0, A (7 + p1.toNatClampNeg) 2, aU A (7 + p1.toNatClampNeg) 3 (A 0 10)) else (2, 0, A)) else (1, 0, A)
def inS (p1 p2 : Int32) : Bool := if p1 = 0 then inB p2 10 300 else if p1 = 1 then inB p2 1 200 else if p1 = 2 then inB p2 0 3 else inB p2 1 30
def oSet (A : Ab) (p1 p2 : Int32) : Int32 × Int32 × Ab := if inB p1 0 3 = true then (if inS p1 p2 = true then (0, A 0 (7 + p1.toNatClampNeg), aU A 0 (7 + p1.toNatClampNeg) p2) else (2, 0, A)) else (1, 0, A)
def oPass (A : Ab) (p1 : Int32) : Int32 × Int32 × Ab := if inB p1 1 120 = true then (if A 0 11 + p1 ≤ 9999 then (0, madeA (mins p1.toNatClampNeg A) - madeA A, mins p1.toNatClampNeg A) else (2, 0, A)) else (1, 0, A)
section DGS
variable {M : Mem} {A A' : Ab} {Q : Nat → Ab} {s b j : Nat} {cd : Nat → Nat} {p1 p2 p3 : Int32} {P : Int32 → Mem → Prop}
theorem Iv.withD {c N T : Nat} (h : Iv A c N T) (e : ∀ r f, ¬ (7 ≤ r ∧ r < 12) → A' r f = A r f) (hD : iD A') : Iv A' c N T := by
  have hc := h.1.1.2.1
  obtain ⟨j, e1, l, bb, d, ss, t⟩ := h
  refine ⟨j.congr (fun f hf => e _ _ (by omega)) (fun k hk f hf => e _ _ (by omega)), fun k hk => ?_, fun k hk => ?_, ⟨fun p hp => ?_, fun p hp => ?_⟩, hD, ?_, fun q hq => ?_⟩
  · rw [e _ _ (by omega)]
    have := bc_congr (A' := A') (A := A) (k := k) (fun p hp => e _ _ (by omega)) (e _ _ (by omega))
    exact (e1.bc hk).trans (by rw [← this]; rfl)
  · obtain ⟨p, m, e1, e2, e3, e4⟩ := l k hk
    exact ⟨p, m, (e _ _ (by omega)).trans e1, (e _ _ (by omega)).trans e2, e3, by rw [bc_congr (fun p hp => e _ _ (by omega)) (e _ _ (by omega))]; exact e4⟩
  · rw [e _ _ (by omega), e _ _ (by omega)]
    rcases bb.1 p hp with w | ⟨⟨k, hk, w⟩, z⟩
    · exact Or.inl w
    · exact Or.inr ⟨⟨k, hk, by rw [e _ _ (by omega)]; exact w⟩, z⟩
  · rw [e _ _ (by omega)]; exact bb.2 p hp
  · unfold iS
    rw [e _ _ (by omega), e _ _ (by omega), e _ _ (by omega), e _ _ (by omega)]
    exact ss
  · obtain ⟨s0, a, b0, e1, e2, e3, e4, e5, e6⟩ := t q hq
    exact ⟨s0, a, b0, (e _ _ (by omega)).trans e1, e2, (e _ _ (by omega)).trans e3, e4, (e _ _ (by omega)).trans e5, e6⟩
theorem lx_die (h : KC M A Q s b cd) (hv : KV A j) (hp : ∀ M', KC M' (oDie A p1 p2 p3).2.2 (qO (oDie A p1 p2 p3).1 Q s A) (sO (oDie A p1 p2 p3).1 s) b cd → FrL M M' → ((oDie A p1 p2 p3).1 = 0 → M'.2.2 282 0 = (oDie A p1 p2 p3).2.1.toInt64) → P (oDie A p1 p2 p3).1 M') : wp_L_die 283 M 0 p1 p2 p3 282 P := by
  obtain ⟨N, T, -, -, hI⟩ := hv
  obtain ⟨π1, h1⟩ := h.2.1
  have hd := h.1
  refine ⟨tp6, ⟨fun e1 => ⟨fun e2 => Or.inr (Or.inl ⟨rfl, ?_⟩), fun e2 => ⟨fun e3 => ⟨tp6, 1, hd.1, tp5a, ?_⟩, fun e3 => Or.inr (Or.inl ⟨rfl, ?_⟩)⟩⟩, fun e1 => Or.inl ⟨rfl, ?_⟩⟩⟩
  · have eo : oDie A p1 p2 p3 = (2, 0, A) := by
      unfold oDie
      rw [if_pos (show inB p1 0 4 = true from e1), show inB p2 1 9 = false from e2]; rfl
    exact hp_no hp eo (by decide) h
  · obtain ⟨n, hn, _, hn3⟩ := inB_get (l := 0) (h := 4) (by omega) (by omega) e1
    refine x_dieAt h1 (i := n) (by omega) hn ⟨h1.tpD (by omega), x_isBeingGround h1 (by omega) ⟨fun e4 => ?_, fun e4 => Or.inr (Or.inr ⟨rfl, ?_⟩)⟩⟩
    · have e4 : A (7 + n) 3 ≤ 0 := by simpa using e4
      have eo : oDie A p1 p2 p3 = (0, A (7 + n) 2, aU (aU (aU A (7 + n) 0 p2) (7 + n) 1 p3) (7 + n) 2 0) := by
        unfold oDie
        rw [if_pos (show inB p1 0 4 = true from e1), if_pos (show inB p2 1 9 = true from e2), if_pos (show inB p3 10 300 = true from e3), hn, nI_clamp (by omega), if_pos e4]
      refine x_remember h hI.1.1 fun M3 k3 f3 v17 e17 M18 e18 M19 e19 M20 e20 => ?_
      obtain ⟨π3, c3⟩ := k3.2.1
      rw [c3.D (by omega)] at e17
      have c4 := ((c3.uD (i := n) (by omega) e18).uD (i := n) (by omega) e19).uD (i := n) (by omega) e20
      rw [e17]
      exact lx_mut k3 f3 c4 (hp_ok hp eo)
    · have e4 : ¬ A (7 + n) 3 ≤ 0 := by simpa using e4
      have eo : oDie A p1 p2 p3 = (3, 0, A) := by
        unfold oDie
        rw [if_pos (show inB p1 0 4 = true from e1), if_pos (show inB p2 1 9 = true from e2), if_pos (show inB p3 10 300 = true from e3), hn, nI_clamp (by omega), if_neg e4]
      exact hp_no hp eo (by decide) h
  · have eo : oDie A p1 p2 p3 = (2, 0, A) := by
      unfold oDie
      rw [if_pos (show inB p1 0 4 = true from e1), if_pos (show inB p2 1 9 = true from e2), show inB p3 10 300 = false from e3]; rfl
    exact hp_no hp eo (by decide) h
  · have eo : oDie A p1 p2 p3 = (1, 0, A) := by
      unfold oDie
      rw [show inB p1 0 4 = false from e1]; rfl
    exact hp_no hp eo (by decide) h
theorem rx_die (h : KR M A Q s b cd) (hs : s ≤ 6) (kp : KP A Q s j) (hp : ∀ r M', KR M' (oDie A p1 p2 p3).2.2 (qO (oDie A p1 p2 p3).1 Q s A) (sO (oDie A p1 p2 p3).1 s) b cd → FrR M M' → M'.1 276 0 = (oDie A p1 p2 p3).1 → ((oDie A p1 p2 p3).1 = 0 → r = (oDie A p1 p2 p3).2.1) → P r M') : wp_X7_die 283 M 276 p1 p2 p3 P := by
  have hc := kp.le.1
  have hv := kp.1
  obtain ⟨N, T, -, -, hI⟩ := hv
  refine ⟨tp7, fun M2 e2 => ?_⟩
  subst e2
  obtain ⟨h2, f2, z2⟩ := h.th FrR.rf (v := 0)
  generalize uI M 276 0 0 = M2 at h2 f2 z2 ⊢
  obtain ⟨ι, hR⟩ := h2.2.1
  refine ⟨fun e1 => ⟨fun e2 => hr_no hp ?_ (by decide) h2 f2, fun e2 => ⟨fun e3 => ?_, fun e3 => hr_no hp ?_ (by decide) h2 f2⟩⟩, fun e1 => hr_no hp ?_ (by decide) h2 f2⟩
  · unfold oDie
    rw [if_pos (show inB p1 0 4 = true from e1), show inB p2 1 9 = false from e2]; rfl
  · obtain ⟨n, hn, _, hn3⟩ := inB_get (l := 0) (h := 4) (by omega) (by omega) e1
    rw [← sM_self (M := M2)]
    refine r_isBeingGround h2.1 hR.2.1 hI.2.2.2.2.1 (d := n) (by omega) hn ?_
    rw [sM_self]
    refine ⟨fun e4 => ?_, fun e4 => hr_no hp ?_ (by decide) h2 f2⟩
    · have e4 : A (7 + n) 3 ≤ 0 := Int32.not_lt.mp (of_decide_eq_false e4)
      have eo : oDie A p1 p2 p3 = (0, A (7 + n) 2, aU (aU (aU A (7 + n) 0 p2) (7 + n) 1 p3) (7 + n) 2 0) := by
        unfold oDie
        rw [if_pos (show inB p1 0 4 = true from e1), if_pos (show inB p2 1 9 = true from e2), if_pos (show inB p3 10 300 = true from e3), hn, nI_clamp (by omega), if_pos e4]
      have hp := hr_ok hp eo
      refine r_savesK h2 hs kp fun M3 k3 f3 z3 => ?_
      obtain ⟨ι3, hR3⟩ := k3.2.1
      rw [← sM_self (M := M3)]
      refine r_die0 k3.1 (d := n) (f := 2) (by omega) (by omega) hn rfl ?_
      rw [hR3.2.2.2.1 n (by omega) 2 (by omega), show dF 2 = 2 from rfl]
      have ix0 : (35 + 5 * p1) + 0 = nI (35 + 5 * n + 0) := ix3 (a := 35) (b := 5) hn (f := 0) rfl
      have ix1 : (35 + 5 * p1) + 1 = nI (35 + 5 * n + 1) := ix3 (a := 35) (b := 5) hn (f := 1) rfl
      have ix2 : (35 + 5 * p1) + 2 = nI (35 + 5 * n + 2) := ix3 (a := 35) (b := 5) hn (f := 2) rfl
      refine ⟨277, k3.1.1, tp8, by rw [len8]; exact vpI ix0 (by omega) (by omega), fun M20 e20 => ?_⟩
      rw [ix0, nI_clamp (by omega), sM_uI] at e20
      subst e20
      refine ⟨277, k3.1.1, tp8, by rw [len8]; exact vpI ix1 (by omega) (by omega), fun M24 e24 => ?_⟩
      rw [ix1, nI_clamp (by omega), sM_uI] at e24
      subst e24
      refine ⟨277, k3.1.1, tp8, by rw [len8]; exact vpI ix2 (by omega) (by omega), fun M28 e28 => ?_⟩
      rw [ix2, nI_clamp (by omega), sM_uI] at e28
      subst e28
      have km := rx_mut k3 (A' := aU (aU (aU A (7 + n) 0 p2) (7 + n) 1 p3) (7 + n) 2 0) (σ' := uS (uS (uS (M3.1 277) (35 + 5 * n + 0) p2) (35 + 5 * n + 1) p3) (35 + 5 * n + 2) 0) ⟨ι3, by rw [cnt_r (by omega), cnt_r (by omega), cnt_r (by omega), up_r (by omega), up_r (by omega), up_r (by omega)]; exact ((hR3.dieF hc (d := n) (f := 0) (by omega) (by omega)).dieF hc (d := n) (f := 1) (by omega) (by omega)).dieF hc (d := n) (f := 2) (by omega) (by omega)⟩
      exact hp _ km.1 ((f2.tr f3).tr km.2.1) (km.2.2.trans (z3.trans z2))
    · have e4 : ¬ A (7 + n) 3 ≤ 0 := fun w => absurd (of_decide_eq_true e4) (Int32.not_lt.mpr w)
      unfold oDie
      rw [if_pos (show inB p1 0 4 = true from e1), if_pos (show inB p2 1 9 = true from e2), if_pos (show inB p3 10 300 = true from e3), hn, nI_clamp (by omega), if_neg e4]
  · unfold oDie
    rw [if_pos (show inB p1 0 4 = true from e1), if_pos (show inB p2 1 9 = true from e2), show inB p3 10 300 = false from e3]; rfl
  · unfold oDie
    rw [show inB p1 0 4 = false from e1]; rfl
theorem px_die (hv : KV A j) : KV (oDie A p1 p2 p3).2.2 (j + 1) := by
  have hm := hv.mono (i := j + 1) (by omega)
  unfold oDie
  split
  · rename_i e1
    split
    · rename_i e2
      split
      · rename_i e3
        split
        · obtain ⟨N, T, h1, h2, hI⟩ := hm
          have hc := hI.1.1.2.1
          obtain ⟨n, hn, _, hn3⟩ := inB_get (l := 0) (h := 4) (by omega) (by omega) e1
          obtain ⟨bl, hbl, hb1, hb2⟩ := inB_get (l := 1) (h := 9) (by omega) (by omega) e2
          obtain ⟨l, hl, hl1, hl2⟩ := inB_get (l := 10) (h := 300) (by omega) (by omega) e3
          rw [hn, nI_clamp (by omega)]
          refine ⟨N, T, h1, h2, ?_⟩
          show Iv (aU (aU (aU A (7 + n) 0 p2) (7 + n) 1 p3) (7 + n) 2 0) (cnt (aU (aU (aU A (7 + n) 0 p2) (7 + n) 1 p3) (7 + n) 2 0)) N T
          rw [cnt_r (by omega), cnt_r (by omega), cnt_r (by omega)]
          have d := hI.2.2.2.2.1
          refine hI.withD (fun r f hr => by rw [up_r (by omega), up_r (by omega), up_r (by omega)]) ⟨fun q hq => ?_, fun q q' hq hq' x1 x2 => ?_⟩
          · obtain ⟨b1, l1, g1, y1, y2, y3, y4, y5, y6, y7⟩ := d.1 q hq
            by_cases w : q = n
            · subst w
              exact ⟨bl, l, g1, by rw [up_f (by omega), up_f (by omega), up_s]; exact hbl, hb1, hb2, by rw [up_f (by omega), up_s]; exact hl, hl2, by rw [up_f (by omega), up_f (by omega), up_f (by omega)]; exact y6, y7⟩
            · refine ⟨b1, l1, g1, ?_, y2, y3, ?_, y5, ?_, y7⟩
              · rw [up_r (by omega), up_r (by omega), up_r (by omega)]; exact y1
              · rw [up_r (by omega), up_r (by omega), up_r (by omega)]; exact y4
              · rw [up_r (by omega), up_r (by omega), up_r (by omega)]; exact y6
          · rw [up_f (by omega), up_f (by omega), up_f (by omega)] at x1 x2
            exact d.2 q q' hq hq' x1 x2
        · exact hm
      · exact hm
    · exact hm
  · exact hm
theorem lx_grind (h : KC M A Q s b cd) (hv : KV A j) (hp : ∀ M', KC M' (oGrind A p1).2.2 (qO (oGrind A p1).1 Q s A) (sO (oGrind A p1).1 s) b cd → FrL M M' → ((oGrind A p1).1 = 0 → M'.2.2 282 0 = (oGrind A p1).2.1.toInt64) → P (oGrind A p1).1 M') : wp_L_grind 283 M 0 p1 282 P := by
  obtain ⟨N, T, -, -, hI⟩ := hv
  obtain ⟨π1, h1⟩ := h.2.1
  have hd := h.1
  have hg5 : ∀ d, groundA A = some d → d < 5 := fun d e => by have := (fst9_some e).2.1; omega
  have on := oI_n1 (o := groundA A) (c := 5) (by omega) hg5
  refine ⟨tp6, ⟨fun e1 => ⟨tp6, 1, hd.1, tp5a, x_dieBeingGround h1 ⟨fun e2 => ?_, fun e2 => Or.inr ⟨rfl, ?_⟩⟩⟩, fun e1 => Or.inl ⟨rfl, ?_⟩⟩⟩
  · obtain ⟨n, hn, _, hn3⟩ := inB_get (l := 0) (h := 4) (by omega) (by omega) e1
    have eo : oGrind A p1 = (0, A (7 + n) 2, aU A (7 + n) 3 (A 0 10)) := by
      unfold oGrind
      rw [if_pos (show inB p1 0 4 = true from e1), if_pos (on.mp e2), hn, nI_clamp (by omega)]
    refine x_remember h hI.1.1 fun M3 k3 f3 => ?_
    obtain ⟨π3, c3⟩ := k3.2.1
    refine ⟨1, k3.1.1, tp5a, x_dieAt c3 (i := n) (by omega) hn ⟨1, k3.1.1, tp5a, c3.tpD (by omega), fun M17 e17 => ?_⟩⟩
    rw [c3.N] at e17
    have c4 := c3.uD (i := n) (by omega) e17
    rw [c4.D (by omega), up_f (by omega)]
    exact lx_mut k3 f3 c4 (hp_ok hp eo)
  · have eo : oGrind A p1 = (2, 0, A) := by
      unfold oGrind
      rw [if_pos (show inB p1 0 4 = true from e1), if_neg (fun w => e2 (on.mpr w))]
    exact hp_no hp eo (by decide) h
  · have eo : oGrind A p1 = (1, 0, A) := by
      unfold oGrind
      rw [show inB p1 0 4 = false from e1]; rfl
    exact hp_no hp eo (by decide) h
theorem RG_13 {σ : Nat → Int32} (h : RG A σ) : σ 13 ≤ 0 ↔ groundA A = none := by
  unfold RG at h
  cases e : groundA A with
  | none =>
    rw [e] at h
    have h : σ 13 = 0 := h
    rw [h]
    exact ⟨fun _ => rfl, fun _ => Int32.le_refl _⟩
  | some d =>
    rw [e] at h
    have hd : d < 5 := by have := (fst9_some e).2.1; omega
    have h : σ 13 = nI (d + 1) := h.1
    rw [h]
    refine ⟨fun w => ?_, fun w => by cases w⟩
    have := (nI_leI (b := 0) (by omega) (by omega)).mp w
    omega
theorem rx_grind (h : KR M A Q s b cd) (hs : s ≤ 6) (kp : KP A Q s j) (hp : ∀ r M', KR M' (oGrind A p1).2.2 (qO (oGrind A p1).1 Q s A) (sO (oGrind A p1).1 s) b cd → FrR M M' → M'.1 276 0 = (oGrind A p1).1 → ((oGrind A p1).1 = 0 → r = (oGrind A p1).2.1) → P r M') : wp_X7_grind 283 M 276 p1 P := by
  have hc := kp.le.1
  have hv := kp.1
  obtain ⟨N, T, -, -, hI⟩ := hv
  refine ⟨tp7, fun M2 e2 => ?_⟩
  subst e2
  obtain ⟨h2, f2, z2⟩ := h.th FrR.rf (v := 0)
  generalize uI M 276 0 0 = M2 at h2 f2 z2 ⊢
  obtain ⟨ι, hR⟩ := h2.2.1
  refine ⟨fun e1 => ⟨277, h2.1.1, tp8, by rw [len8]; exact vpI (i := 13) rfl (by omega) (by omega), fun e2 => ?_, fun e2 => hr_no hp ?_ (by decide) h2 f2⟩, fun e1 => hr_no hp ?_ (by decide) h2 f2⟩
  · obtain ⟨n, hn, _, hn3⟩ := inB_get (l := 0) (h := 4) (by omega) (by omega) e1
    have hg := (RG_13 hR.2.1).mp e2
    have eo : oGrind A p1 = (0, A (7 + n) 2, aU A (7 + n) 3 (A 0 10)) := by
      unfold oGrind
      rw [if_pos (show inB p1 0 4 = true from e1), if_pos hg, hn, nI_clamp (by omega)]
    have hp := hr_ok hp eo
    refine r_savesK h2 hs kp fun M3 k3 f3 z3 => ?_
    obtain ⟨ι3, hR3⟩ := k3.2.1
    rw [← sM_self (M := M3)]
    refine r_begins k3.1 (d := n) hn ?_
    refine r_die0 k3.1 (d := n) (f := 2) (by omega) (by omega) hn rfl ?_
    obtain ⟨w0, x0, r0, g0, q1, q2, q3, q4, q5, q6, q7, q8, q9⟩ := hI.2.2.2.2.2.1
    have e3 : M3.1 277 3 = A 0 10 := hR3.1.1 3 (by omega)
    rw [uS_o (by omega), uS_o (by omega), hR3.2.2.2.1 n (by omega) 2 (by omega), show dF 2 = 2 from rfl, e3]
    have km := rx_mut k3 (A' := aU A (7 + n) 3 (A 0 10)) (σ' := uS (uS (M3.1 277) 13 (nI n + 1)) 14 (A 0 10)) ⟨ι3, by rw [cnt_r (by omega), up_r (by omega)]; exact hR3.begin hc hg (by omega) (by rw [q7]; exact (nI_ltI (a := 0) (by omega) (by omega)).mpr (by omega))⟩
    exact hp _ km.1 ((f2.tr f3).tr km.2.1) (km.2.2.trans (z3.trans z2))
  · have hg : ¬ groundA A = none := fun w => e2 ((RG_13 hR.2.1).mpr w)
    unfold oGrind
    rw [if_pos (show inB p1 0 4 = true from e1), if_neg hg]
  · unfold oGrind
    rw [show inB p1 0 4 = false from e1]; rfl
theorem px_grind (hv : KV A j) : KV (oGrind A p1).2.2 (j + 1) := by
  have hm := hv.mono (i := j + 1) (by omega)
  unfold oGrind
  split
  · rename_i e1
    split
    · rename_i hg
      obtain ⟨N, T, h1, h2, hI⟩ := hm
      obtain ⟨n, hn, _, hn3⟩ := inB_get (l := 0) (h := 4) (by omega) (by omega) e1
      obtain ⟨w0, x0, r0, g0, q1, q2, q3, q4, q5, q6, q7, q8, q9⟩ := hI.2.2.2.2.2.1
      rw [hn, nI_clamp (by omega)]
      refine ⟨N, T, h1, h2, ?_⟩
      show Iv (aU A (7 + n) 3 (A 0 10)) (cnt (aU A (7 + n) 3 (A 0 10))) N T
      rw [cnt_r (by omega), q7]
      exact hI.toGo (by omega) q9 fun e he _ => groundA_none hg he
    · exact hm
  · exact hm
theorem x_bounds {R : Int32 → Int32 → Mem → Prop} (hp : ∀ lo hi, inB p2 lo hi = inS p1 p2 → R lo hi M) : wp_X6_leastValue 283 M p1 (fun r4 M3 => wp_X6_mostValue 283 M3 p1 (fun r6 M5 => R r4 r6 M5)) := by
  unfold inS at hp
  refine ⟨fun e => ⟨fun _ => hp _ _ (by rw [if_pos e]), fun n => absurd e n⟩, fun n0 => ⟨fun e => ⟨fun w => absurd w n0, fun _ => ⟨fun w => ?_, fun n1 => ⟨fun _ => hp _ _ (by rw [if_neg n0, if_neg n1, if_pos e]), fun n => absurd e n⟩⟩⟩, fun n2 => ⟨fun w => absurd w n0, fun _ => ⟨fun e => hp _ _ (by rw [if_neg n0, if_pos e]), fun n1 => ⟨fun w => absurd w n2, fun _ => hp _ _ (by rw [if_neg n0, if_neg n1, if_neg n2])⟩⟩⟩⟩⟩
  rw [w] at e
  exact absurd e (by decide)
theorem r_isSetting {P : Bool → Mem → Prop} (hp : P (inS p1 p2) M) : wp_X7_isSetting 283 M p1 p2 P := by
  unfold inS at hp
  refine ⟨fun e => ?_, fun n0 => ⟨fun e => ?_, fun n1 => ⟨fun e => ?_, fun n2 => ?_⟩⟩⟩
  · rw [if_pos e] at hp; exact hp
  · rw [if_neg n0, if_pos e] at hp; exact hp
  · rw [if_neg n0, if_neg n1, if_pos e] at hp; exact hp
  · rw [if_neg n0, if_neg n1, if_neg n2] at hp; exact hp
theorem lx_set (h : KC M A Q s b cd) (hv : KV A j) (hp : ∀ M', KC M' (oSet A p1 p2).2.2 (qO (oSet A p1 p2).1 Q s A) (sO (oSet A p1 p2).1 s) b cd → FrL M M' → ((oSet A p1 p2).1 = 0 → M'.2.2 282 0 = (oSet A p1 p2).2.1.toInt64) → P (oSet A p1 p2).1 M') : wp_L_set 283 M 0 p1 p2 282 P := by
  obtain ⟨N, T, -, -, hI⟩ := hv
  have hd := h.1
  refine ⟨tp6, ⟨fun e1 => x_bounds (p2 := p2) fun lo hi eb => ⟨fun e2 => ⟨tp6, ?_⟩, fun e2 => Or.inr ⟨rfl, ?_⟩⟩, fun e1 => Or.inl ⟨rfl, ?_⟩⟩⟩
  · obtain ⟨n, hn, _, hn3⟩ := inB_get (l := 0) (h := 3) (by omega) (by omega) e1
    have e2 : inS p1 p2 = true := by rw [← eb]; exact e2
    have eo : oSet A p1 p2 = (0, A 0 (7 + n), aU A 0 (7 + n) p2) := by
      unfold oSet
      rw [if_pos (show inB p1 0 3 = true from e1), if_pos e2, hn, nI_clamp (by omega)]
    refine x_remember h hI.1.1 fun M3 k3 f3 => ?_
    obtain ⟨π3, c3⟩ := k3.2.1
    refine ⟨1, k3.1.1, tp5a, x_valueOf c3 (i := n) (by omega) hn ⟨1, k3.1.1, tp5a, x_putValue c3 (i := n) (by omega) hn fun M4 c4 => lx_mut k3 f3 c4 (hp_ok hp eo)⟩⟩
  · have e2 : inS p1 p2 = false := by rw [← eb]; exact e2
    have eo : oSet A p1 p2 = (2, 0, A) := by
      unfold oSet
      rw [if_pos (show inB p1 0 3 = true from e1), e2]; rfl
    exact hp_no hp eo (by decide) h
  · have eo : oSet A p1 p2 = (1, 0, A) := by
      unfold oSet
      rw [show inB p1 0 3 = false from e1]; rfl
    exact hp_no hp eo (by decide) h
theorem rx_set (h : KR M A Q s b cd) (hs : s ≤ 6) (kp : KP A Q s j) (hp : ∀ r M', KR M' (oSet A p1 p2).2.2 (qO (oSet A p1 p2).1 Q s A) (sO (oSet A p1 p2).1 s) b cd → FrR M M' → M'.1 276 0 = (oSet A p1 p2).1 → ((oSet A p1 p2).1 = 0 → r = (oSet A p1 p2).2.1) → P r M') : wp_X7_set 283 M 276 p1 p2 P := by
  have hc := kp.le.1
  refine ⟨tp7, fun M2 e2 => ?_⟩
  subst e2
  obtain ⟨h2, f2, z2⟩ := h.th FrR.rf (v := 0)
  generalize uI M 276 0 0 = M2 at h2 f2 z2 ⊢
  refine ⟨fun e1 => r_isSetting ⟨fun e2 => ?_, fun e2 => hr_no hp ?_ (by decide) h2 f2⟩, fun e1 => hr_no hp ?_ (by decide) h2 f2⟩
  · obtain ⟨n, hn, _, hn3⟩ := inB_get (l := 0) (h := 3) (by omega) (by omega) e1
    have eo : oSet A p1 p2 = (0, A 0 (7 + n), aU A 0 (7 + n) p2) := by
      unfold oSet
      rw [if_pos (show inB p1 0 3 = true from e1), if_pos e2, hn, nI_clamp (by omega)]
    have hp := hr_ok hp eo
    refine r_savesK h2 hs kp fun M3 k3 f3 z3 => ?_
    obtain ⟨ι3, hR3⟩ := k3.2.1
    rw [← sM_self (M := M3)]
    refine ⟨277, k3.1.1, tp8, by rw [len8]; exact vpI hn (by omega) (by omega), fun v12 e12 => ⟨277, k3.1.1, tp8, by rw [len8]; exact vpI hn (by omega) (by omega), fun M16 e16 => ?_⟩⟩
    rw [hn, nI_clamp (by omega), sM_1, hR3.1.1 n (by omega)] at e12
    rw [hn, nI_clamp (by omega), sM_uI] at e16
    subst e12 e16
    have km := rx_mut k3 (A' := aU A 0 (7 + n) p2) (σ' := uS (M3.1 277) n p2) ⟨ι3, by rw [cnt_f (by omega), up_f (by omega)]; exact hR3.set hc (by omega)⟩
    exact hp _ km.1 ((f2.tr f3).tr km.2.1) (km.2.2.trans (z3.trans z2))
  · unfold oSet
    rw [if_pos (show inB p1 0 3 = true from e1), e2]; rfl
  · unfold oSet
    rw [show inB p1 0 3 = false from e1]; rfl
theorem px_set (hv : KV A j) : KV (oSet A p1 p2).2.2 (j + 1) := by
  have hm := hv.mono (i := j + 1) (by omega)
  unfold oSet
  split
  · rename_i e1
    split
    · rename_i e2
      obtain ⟨N, T, h1, h2, hI⟩ := hm
      obtain ⟨n, hn, _, hn3⟩ := inB_get (l := 0) (h := 3) (by omega) (by omega) e1
      refine ⟨N, T, h1, h2, ?_⟩
      show Iv (aU A 0 (7 + p1.toNatClampNeg) p2) (cnt (aU A 0 (7 + p1.toNatClampNeg) p2)) N T
      rw [hn, nI_clamp (by omega), cnt_f (by omega)]
      refine hI.setting (by omega) ?_
      obtain ⟨w0, x0, r0, g0, q1, q2, q3, q4, q5, q6, q7, q8, q9⟩ := hI.2.2.2.2.2.1
      unfold inS at e2
      rcases (by omega : n = 0 ∨ n = 1 ∨ n = 2 ∨ n = 3) with rfl | rfl | rfl | rfl
      · rw [if_pos (show p1 = 0 from hn)] at e2
        obtain ⟨v, hv, hv2, hv3⟩ := inB_get (l := 10) (h := 300) (by omega) (by omega) e2
        exact ⟨v, x0, r0, g0, by rw [up_s]; exact hv, hv3, by rw [up_f (by omega)]; exact q3, q4, by rw [up_f (by omega)]; exact q5, q6, by rw [up_f (by omega)]; exact q7, q8, q9⟩
      · rw [if_neg (by rw [hn]; decide), if_pos (show p1 = 1 from hn)] at e2
        obtain ⟨v, hv, hv2, hv3⟩ := inB_get (l := 1) (h := 200) (by omega) (by omega) e2
        exact ⟨w0, v, r0, g0, by rw [up_f (by omega)]; exact q1, q2, by rw [up_s]; exact hv, hv3, by rw [up_f (by omega)]; exact q5, q6, by rw [up_f (by omega)]; exact q7, q8, q9⟩
      · rw [if_neg (by rw [hn]; decide), if_neg (by rw [hn]; decide), if_pos (show p1 = 2 from hn)] at e2
        obtain ⟨v, hv, hv2, hv3⟩ := inB_get (l := 0) (h := 3) (by omega) (by omega) e2
        exact ⟨w0, x0, v, g0, by rw [up_f (by omega)]; exact q1, q2, by rw [up_f (by omega)]; exact q3, q4, by rw [up_s]; exact hv, hv3, by rw [up_f (by omega)]; exact q7, q8, q9⟩
      · rw [if_neg (by rw [hn]; decide), if_neg (by rw [hn]; decide), if_neg (by rw [hn]; decide)] at e2
        obtain ⟨v, hv, hv2, hv3⟩ := inB_get (l := 1) (h := 30) (by omega) (by omega) e2
        exact ⟨w0, x0, r0, v, by rw [up_f (by omega)]; exact q1, q2, by rw [up_f (by omega)]; exact q3, q4, by rw [up_f (by omega)]; exact q5, q6, by rw [up_s]; exact hv, hv2, hv3⟩
    · exact hm
  · exact hm
theorem lx_pass (h : KC M A Q s b cd) (hv : KV A j) (hj : j ≤ 600) (hp : ∀ M', KC M' (oPass A p1).2.2 (qO (oPass A p1).1 Q s A) (sO (oPass A p1).1 s) b cd → FrL M M' → ((oPass A p1).1 = 0 → M'.2.2 282 0 = (oPass A p1).2.1.toInt64) → P (oPass A p1).1 M') : wp_L_pass 283 M 0 p1 282 P := by
  obtain ⟨N, T, hN, hT, hI⟩ := hv
  obtain ⟨π1, h1⟩ := h.2.1
  have hd := h.1
  refine ⟨tp6, ⟨fun e1 => ⟨tp6, 1, hd.1, tp5a, fun e2 => ?_, fun e2 => Or.inr ⟨rfl, ?_⟩⟩, fun e1 => Or.inl ⟨rfl, ?_⟩⟩⟩
  · obtain ⟨n, hn, _, hn3⟩ := inB_get (l := 1) (h := 120) (by omega) (by omega) e1
    rw [h1.N] at e2
    have eo : oPass A p1 = (0, madeA (mins n A) - madeA A, mins n A) := by
      unfold oPass
      rw [if_pos (show inB p1 1 120 = true from e1), if_pos e2, hn, nI_clamp (by omega)]
    refine x_remember h hI.1.1 fun M3 k3 f3 => ?_
    obtain ⟨π3, c3⟩ := k3.2.1
    refine ⟨1, k3.1.1, tp5a, x_countMade c3 ⟨1, k3.1.1, tp5a, x_passMinutes c3 hI (n := n) (by omega) hn fun M4 π4 c4 => ?_⟩⟩
    have k4 := k3.shop c4
    exact ⟨1, k4.1.1, tp5a, x_countMade c4 (lx_mut k3 f3 c4 (hp_ok hp eo))⟩
  · rw [h1.N] at e2
    have eo : oPass A p1 = (2, 0, A) := by
      unfold oPass
      rw [if_pos (show inB p1 1 120 = true from e1), if_neg e2]
    exact hp_no hp eo (by decide) h
  · have eo : oPass A p1 = (1, 0, A) := by
      unfold oPass
      rw [show inB p1 1 120 = false from e1]; rfl
    exact hp_no hp eo (by decide) h
theorem rx_pass (h : KR M A Q s b cd) (hs : s ≤ 6) (kp : KP A Q s j) (hj : j ≤ 600) (hp : ∀ r M', KR M' (oPass A p1).2.2 (qO (oPass A p1).1 Q s A) (sO (oPass A p1).1 s) b cd → FrR M M' → M'.1 276 0 = (oPass A p1).1 → ((oPass A p1).1 = 0 → r = (oPass A p1).2.1) → P r M') : wp_X7_pass 283 M 276 p1 P := by
  have hv := kp.1
  obtain ⟨N, T, hN, hT, hI⟩ := hv
  refine ⟨tp7, fun M2 e2 => ?_⟩
  subst e2
  obtain ⟨h2, f2, z2⟩ := h.th FrR.rf (v := 0)
  generalize uI M 276 0 0 = M2 at h2 f2 z2 ⊢
  obtain ⟨ι, hR⟩ := h2.2.1
  have e4 : M2.1 277 (4 : Int32).toNatClampNeg = A 0 11 := hR.1.2.1
  refine ⟨fun e1 => ⟨277, h2.1.1, tp8, by rw [len8]; exact vpI (i := 4) rfl (by omega) (by omega), fun e2 => ?_, fun e2 => hr_no hp ?_ (by decide) h2 f2⟩, fun e1 => hr_no hp ?_ (by decide) h2 f2⟩
  · obtain ⟨n, hn, _, hn3⟩ := inB_get (l := 1) (h := 120) (by omega) (by omega) e1
    rw [e4] at e2
    have eo : oPass A p1 = (0, madeA (mins n A) - madeA A, mins n A) := by
      unfold oPass
      rw [if_pos (show inB p1 1 120 = true from e1), if_pos e2, hn, nI_clamp (by omega)]
    have hp := hr_ok hp eo
    refine r_savesK h2 hs kp fun M3 k3 f3 z3 => ?_
    obtain ⟨ι3, hR3⟩ := k3.2.1
    rw [← sM_self (M := M3)]
    refine r_minutes k3.1 hR3 hI (n := n) (by omega) hn fun ι' σ' hR' => ?_
    have km := rx_mut k3 (A' := mins n A) (σ' := σ') ⟨ι', hR'⟩
    exact hp _ km.1 ((f2.tr f3).tr km.2.1) (km.2.2.trans (z3.trans z2))
  · rw [e4] at e2
    unfold oPass
    rw [if_pos (show inB p1 1 120 = true from e1), if_neg e2]
  · unfold oPass
    rw [show inB p1 1 120 = false from e1]; rfl
theorem px_pass (hv : KV A j) (hj : j ≤ 600) : KV (oPass A p1).2.2 (j + 1) := by
  have hm := hv.mono (i := j + 1) (by omega)
  unfold oPass
  split
  · rename_i e1
    split
    · obtain ⟨N, T, h1, h2, hI⟩ := hv
      obtain ⟨n, hn, _, hn3⟩ := inB_get (l := 1) (h := 120) (by omega) (by omega) e1
      rw [hn, nI_clamp (by omega)]
      exact ⟨N, T + n, by omega, by omega, hI.many (by omega)⟩
    · exact hm
  · exact hm
end DGS
