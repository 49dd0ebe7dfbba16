/-! Calls that change the shop: none of them throws here. -/
section ZMU
variable {M : Mem} {A : Ab} {Q : Nat → Ab} {s b j N T : Nat} {cd : Nat → Nat} {τ : Nat → Int32} {P : Int32 → Mem → Prop} {p1 p2 p3 : Int32}
theorem z_stock (h : KC M A Q s b cd) (ok : okN A (cnt A)) {i m : Nat} (h1 : p1 = nI i) (hi : i < 4) (h2 : p2 = nI m) (hm1 : 1 ≤ m) (hm : m ≤ 99) (hle : A (2 + i) 0 + p2 ≤ 200) (hp : ∀ r M', KC M' (aU A (2 + i) 0 (A (2 + i) 0 + p2)) (pQ Q s A) (sN s) b cd → FrL M M' → P r M') : wp_X6_stock 278 M 0 p1 p2 P := by
  obtain ⟨π1, c1⟩ := h.2.1
  have e1 : inB p1 0 3 = true := inB_of (l := 0) (h := 3) h1 (by omega) (by omega) (by omega)
  have e2 : inB p2 1 99 = true := inB_of (l := 1) (h := 99) h2 hm1 hm (by omega)
  refine ⟨fun _ => ⟨fun _ => ⟨tp6, 1, h.1.1, tp5a, x_heatAt c1 hi h1 ⟨c1.tpH hi, fun _ => ?_, fun e => ?_⟩⟩, no_f e2⟩, no_f e1⟩
  · refine x_remember h ok fun M3 k3 f3 M4 e4 => ?_
    obtain ⟨π3, c3⟩ := k3.2.1
    rw [c3.H hi] at e4
    have c4 := c3.uH hi e4
    exact hp _ M4 (k3.shop c4) (FrL.tr f3.1 c4.frc.1)
  · rw [c1.H hi] at e
    exact absurd hle e
theorem z_range (h : KC M A Q s b cd) (ok : okN A (cnt A)) {i a d : Nat} (h1 : p1 = nI i) (hi : i < 4) (h2 : p2 = nI a) (ha : 600 ≤ a ∧ a ≤ 1240) (h3 : p3 = nI d) (hd : a ≤ d ∧ d ≤ 1240) (hp : ∀ r M', KC M' (aU (aU A (2 + i) 1 p2) (2 + i) 2 p3) (pQ Q s A) (sN s) b cd → FrL M M' → P r M') : wp_X6_range 278 M 0 p1 p2 p3 P := by
  have e1 : inB p1 0 3 = true := inB_of (l := 0) (h := 3) h1 (by omega) (by omega) (by omega)
  have e2 : inB p2 600 1240 = true := inB_of (l := 600) (h := 1240) h2 ha.1 ha.2 (by omega)
  have e3 : inB p3 p2 1240 = true := by rw [h2]; exact inB_of (l := a) (h := 1240) h3 hd.1 hd.2 (by omega)
  refine ⟨fun _ => ⟨no_f e2, fun _ => ⟨fun _ => ⟨tp6, x_remember h ok fun M3 k3 f3 => ?_⟩, no_f e3⟩⟩, no_f e1⟩
  obtain ⟨π3, c3⟩ := k3.2.1
  refine ⟨1, k3.1.1, tp5a, x_heatAt c3 hi h1 ⟨c3.tpH hi, fun v15 e15 M16 e16 M17 e17 => ?_⟩⟩
  have c4 := (c3.uH hi e16).uH hi e17
  exact hp _ M17 (k3.shop c4) (FrL.tr f3.1 c4.frc.1)
theorem z_die (h : KC M A Q s b cd) (ok : okN A (cnt A)) {i a d : Nat} (h1 : p1 = nI i) (hi : i < 5) (h2 : p2 = nI a) (ha : 1 ≤ a ∧ a ≤ 9) (h3 : p3 = nI d) (hd : 10 ≤ d ∧ d ≤ 300) (hg : A (7 + i) 3 ≤ 0) (hp : ∀ r M', KC M' (aU (aU (aU A (7 + i) 0 p2) (7 + i) 1 p3) (7 + i) 2 0) (pQ Q s A) (sN s) b cd → FrL M M' → P r M') : wp_X6_die 278 M 0 p1 p2 p3 P := by
  obtain ⟨π1, c1⟩ := h.2.1
  have e1 : inB p1 0 4 = true := inB_of (l := 0) (h := 4) h1 (by omega) (by omega) (by omega)
  have e2 : inB p2 1 9 = true := inB_of (l := 1) (h := 9) h2 ha.1 ha.2 (by omega)
  have e3 : inB p3 10 300 = true := inB_of (l := 10) (h := 300) h3 hd.1 hd.2 (by omega)
  refine ⟨fun _ => ⟨no_f e2, fun _ => ⟨fun _ => ⟨tp6, 1, h.1.1, tp5a, x_dieAt c1 hi h1 ⟨c1.tpD hi, x_isBeingGround c1 hi ⟨fun _ => ?_, fun e => ?_⟩⟩⟩, no_f e3⟩⟩, no_f e1⟩
  · refine x_remember h ok fun M3 k3 f3 v17 e17 M18 e18 M19 e19 M20 e20 => ?_
    obtain ⟨π3, c3⟩ := k3.2.1
    have c4 := ((c3.uD hi e18).uD hi e19).uD hi e20
    exact hp _ M20 (k3.shop c4) (FrL.tr f3.1 c4.frc.1)
  · have e : ¬ A (7 + i) 3 ≤ 0 := by simpa using e
    exact absurd hg e
theorem z_grind (h : KC M A Q s b cd) (ok : okN A (cnt A)) {i : Nat} (h1 : p1 = nI i) (hi : i < 5) (hg : groundA A = none) (hp : ∀ r M', KC M' (aU A (7 + i) 3 (A 0 10)) (pQ Q s A) (sN s) b cd → FrL M M' → P r M') : wp_X6_grind 278 M 0 p1 P := by
  obtain ⟨π1, c1⟩ := h.2.1
  have e1 : inB p1 0 4 = true := inB_of (l := 0) (h := 4) h1 (by omega) (by omega) (by omega)
  refine ⟨fun _ => ⟨tp6, 1, h.1.1, tp5a, x_dieBeingGround c1 ⟨fun _ => x_remember h ok fun M3 k3 f3 => ?_, fun e => absurd (by rw [hg]; rfl) e⟩⟩, no_f e1⟩
  obtain ⟨π3, c3⟩ := k3.2.1
  refine ⟨1, k3.1.1, tp5a, x_dieAt c3 hi h1 ⟨1, k3.1.1, tp5a, c3.tpD hi, fun M17 e17 => ?_⟩⟩
  rw [c3.N] at e17
  have c4 := c3.uD hi e17
  exact hp _ M17 (k3.shop c4) (FrL.tr f3.1 c4.frc.1)
theorem z_set (h : KC M A Q s b cd) (ok : okN A (cnt A)) {i : Nat} (h1 : p1 = nI i) (hi : i < 4) (hs : inS p1 p2 = true) (hp : ∀ r M', KC M' (aU A 0 (7 + i) p2) (pQ Q s A) (sN s) b cd → FrL M M' → P r M') : wp_X6_set 278 M 0 p1 p2 P := by
  have e1 : inB p1 0 3 = true := inB_of (l := 0) (h := 3) h1 (by omega) (by omega) (by omega)
  refine ⟨fun _ => x_bounds (p2 := p2) fun lo hi' eb => ⟨fun _ => ⟨tp6, x_remember h ok fun M3 k3 f3 => ?_⟩, fun e => ?_⟩, no_f e1⟩
  · obtain ⟨π3, c3⟩ := k3.2.1
    exact ⟨1, k3.1.1, tp5a, x_valueOf c3 hi h1 ⟨1, k3.1.1, tp5a, x_putValue c3 hi h1 fun M4 c4 => hp _ M4 (k3.shop c4) (FrL.tr f3.1 c4.frc.1)⟩⟩
  · have e : inB p2 lo hi' = false := e
    rw [eb, hs] at e
    cases e
/-- the number of a job is that of its place -/
theorem place_is (hI : Iv A (cnt A) N T) {k : Nat} (hk : k < cnt A) : placeA A (cnt A) (A (13 + k) 0) = some k := by
  cases e : placeA A (cnt A) (A (13 + k) 0) with
  | none =>
    have := fst9_none e k (by omega) (by omega)
    simp at this
  | some i =>
    obtain ⟨_, h2, h3, _⟩ := fst9_some e
    simp only [decide_eq_true_eq] at h3
    rw [hI.1.inj (k := i) (l := k) (by omega) hk h3]
theorem z_cancel (h : KC M A Q s b cd) (hI : Iv A (cnt A) N T) {k : Nat} (hk : k < cnt A) (h1 : p1 = A (13 + k) 0) (hp : ∀ r M', KC M' (dropA A (cnt A) k) (pQ Q s A) (sN s) b cd → FrL M M' → P r M') : wp_X6_cancel 278 M 0 p1 P := by
  obtain ⟨π1, c1⟩ := h.2.1
  have hc := hI.1.1.2.1
  have ek : placeA A (cnt A) p1 = some k := by rw [h1]; exact place_is hI hk
  refine ⟨tp6, 1, h.1.1, tp5a, x_placeOf c1 hI.1.1 ?_⟩
  rw [ek]
  refine ⟨fun _ => x_remember h hI.1.1 fun M3 k3 f3 => ?_, fun e => absurd e (nI_n1 (by omega))⟩
  obtain ⟨π3, c3⟩ := k3.2.1
  exact ⟨1, k3.1.1, tp5a, x_dropJob c3 hI.1.1 hk rfl fun M4 c4 => hp _ M4 (k3.shop c4) (FrL.tr f3.1 c4.frc.1)⟩
theorem z_rush (h : KC M A Q s b cd) (hI : Iv A (cnt A) N T) {k : Nat} {z : Bool} (hk : k < cnt A) (h1 : p1 = A (13 + k) 0) (hp : ∀ p, p < cnt A → srt (hasZ A k p z) (cnt A) → ∀ r M', KC M' (hasZ A k p z) (pQ Q s A) (sN s) b cd → FrL M M' → P r M') : wp_X6_rush 278 M 0 p1 z P := by
  obtain ⟨π1, c1⟩ := h.2.1
  have hc := hI.1.1.2.1
  have ek : placeA A (cnt A) p1 = some k := by rw [h1]; exact place_is hI hk
  refine ⟨tp6, 1, h.1.1, tp5a, x_placeOf c1 hI.1.1 ?_⟩
  rw [ek]
  refine ⟨fun _ => x_remember h hI.1.1 fun M3 k3 f3 => ?_, fun e => absurd e (nI_n1 (by omega))⟩
  obtain ⟨π3, c3⟩ := k3.2.1
  exact ⟨1, k3.1.1, tp5a, x_hasten c3 hI.1.1.1 hc hk hI.1.2.1 (fun l hl hne q => hne (hI.1.inj hl hk q)) rfl fun p M4 hp4 c4 s4 => hp p hp4 s4 _ M4 (k3.shop c4) (FrL.tr f3.1 c4.frc.1)⟩
theorem z_job (h : KC M A Q s b cd) (hI : Iv A (cnt A) N T) (hc : cnt A < 10) {d g pc u : Int32} {z : Bool} {dn gn pn un : Nat} (h1 : d = nI dn) (hd : dn < 5) (h2 : g = nI gn) (hg : gn < 4) (h3 : pc = nI pn) (hp1 : 1 ≤ pn ∧ pn ≤ 40) (h4 : u = nI un) (hu : un ≤ 9999) (hp : ∀ q, q < cnt A + 1 → srt (addQ A (cnt A) d g pc u z q) (cnt A + 1) → ∀ r M', KC M' (addQ A (cnt A) d g pc u z q) (pQ Q s A) (sN s) b cd → FrL M M' → P r M') : wp_X6_job 278 M 0 d g pc u z P := by
  obtain ⟨π1, c1⟩ := h.2.1
  have e1 : inB d 0 4 = true := inB_of (l := 0) (h := 4) h1 (by omega) (by omega) (by omega)
  have e2 : inB g 0 3 = true := inB_of (l := 0) (h := 3) h2 (by omega) (by omega) (by omega)
  have e3 : inB pc 1 40 = true := inB_of (l := 1) (h := 40) h3 hp1.1 hp1.2 (by omega)
  have e4 : inB u 0 9999 = true := inB_of (l := 0) (h := 9999) h4 (by omega) hu (by omega)
  refine ⟨no_f e1, fun _ => ⟨fun _ => ⟨no_f e3, fun _ => ⟨fun _ => ⟨tp6, 1, h.1.1, tp5a, fun _ => x_remember h hI.1.1 fun M3 k3 f3 => ?_, fun e => ?_⟩, no_f e4⟩⟩, no_f e2⟩⟩
  · obtain ⟨π3, c3⟩ := k3.2.1
    exact ⟨1, k3.1.1, tp5a, x_addJob c3 hI.1.1.1 hc hI.1.2.1 (fun k hk => hI.new hk) fun q M4 hq c4 s4 => hp q hq s4 _ M4 (k3.shop c4) (FrL.tr f3.1 c4.frc.1)⟩
  · rw [c1.N, hI.1.1.1] at e
    exact absurd ((nI_ltI (b := 10) (by omega) (by omega)).mpr hc) e
theorem z_pass (h : KC M A Q s b cd) (hI : Iv A (cnt A) N T) (hT : T < 2 ^ 29) {n t : Nat} (h1 : p1 = nI n) (hn1 : 1 ≤ n) (hn : n ≤ 120) (ht : A 0 11 = nI t) (ht2 : t + n ≤ 9999) (hp : ∀ r M', KC M' (mins n A) (pQ Q s A) (sN s) b cd → FrL M M' → P r M') : wp_X6_pass 278 M 0 p1 P := by
  obtain ⟨π1, c1⟩ := h.2.1
  have e1 : inB p1 1 120 = true := inB_of (l := 1) (h := 120) h1 hn1 hn (by omega)
  refine ⟨fun _ => ⟨tp6, 1, h.1.1, tp5a, fun _ => x_remember h hI.1.1 fun M3 k3 f3 => ?_, fun e => ?_⟩, no_f e1⟩
  · obtain ⟨π3, c3⟩ := k3.2.1
    refine ⟨1, k3.1.1, tp5a, x_countMade c3 ⟨1, k3.1.1, tp5a, x_passMinutes c3 hI (n := n) (by omega) h1 fun M4 π4 c4 => ?_⟩⟩
    have k4 := k3.shop c4
    exact ⟨1, k4.1.1, tp5a, x_countMade c4 (hp _ M4 k4 (FrL.tr f3.1 c4.frc.1))⟩
  · rw [c1.N, ht, h1, nI_add] at e
    exact absurd ((nI_leI (b := 9999) (by omega) (by omega)).mpr ht2) e
theorem z_undo (h : KC M A Q s b cd) (hs : 0 < s) (hI : okN (Q (s - 1)) (cnt (Q (s - 1)))) (hp : ∀ A' M', Cp A' (Q (s - 1)) (cnt (Q (s - 1))) → KC M' A' Q (s - 1) b cd → FrL M M' → P (nI (s - 1)) M') : wp_X6_undo 278 M 0 P := by
  have hh := h
  obtain ⟨hd, ⟨π1, h1⟩, ⟨π2, E2, h2⟩, ⟨ρ, r1, r2, r3⟩, h3, hs6, ht, hb, hq, hc⟩ := h
  obtain ⟨s1, rfl⟩ : ∃ s1, s = s1 + 1 := ⟨s - 1, by omega⟩
  have e1 : M.1 0 3 - 1 = nI s1 := by rw [h3, nI_pred]
  obtain ⟨π3, E3, k3, k4⟩ := r3 s1 (by omega)
  have hρ := (r1 s1 (by omega)).1
  have hcp := k4 (by omega)
  refine ⟨tp6, ?_⟩
  rw [e1]
  refine x_pastAt hd.2.2.1 (i := s1) (by omega) rfl (r1 s1 (by omega)).2 ⟨fun e => (by cases e), fun j4 e4 => ?_⟩
  cases e4
  have okE : okN E3 (cnt (Q s1)) := by
    have hI : okN (Q s1) (cnt (Q s1)) := hI
    refine ⟨(hcp.1 5 (by omega) (by omega)).trans hI.1, hI.2.1, fun k hk => ?_⟩
    rw [hcp.2.2.2.1 k hk 1 (by omega), hcp.2.2.2.1 k hk 2 (by omega), hcp.2.2.2.1 k hk 6 (by omega)]
    exact hI.2.2 k hk
  refine ⟨1, hd.1, tp5a, x_copyFrom h1 k3 okE (Or.inl (by omega)) fun M6 A6 c6 q6 M9 e9 => ?_⟩
  have k6 := hh.shop c6
  have e63 : M6.1 0 3 = nI (s1 + 1) := k6.2.2.2.2.1
  rw [e63, nI_pred] at e9
  have g1 : ∀ a, a ≠ 0 → M9.1 a = M6.1 a := fun a ha => by rw [e9]; exact uI_a ha
  have g2 : M9.2.1 = M6.2.1 := by rw [e9]; rfl
  have g3 : M9.1 0 3 = nI s1 := by rw [e9]; exact uI_s
  have k9 : KC M9 A6 Q s1 b cd := by
    obtain ⟨hd, ⟨π1, h1⟩, ⟨π2, E2, h2⟩, ⟨ρ, r1, r2, r3⟩, h3, hs6, ht, hb, hq, hc⟩ := k6
    refine ⟨by unfold Hd; rw [g2]; exact hd, ⟨π1, h1.on fun a _ _ => ⟨g1 a (by omega), by rw [g2]⟩⟩, ⟨π2, E2, h2.on fun a _ _ => ⟨g1 a (by omega), by rw [g2]⟩⟩, ⟨ρ, fun i hi => ⟨(r1 i hi).1, by rw [g2]; exact (r1 i hi).2⟩, r2, fun i hi => ?_⟩, g3, by omega, by rw [g1 274 (by omega)]; exact ht, hb, fun i hi => by rw [g1 275 (by omega)]; exact hq i hi, hc⟩
    obtain ⟨π3, E3, k3, k4⟩ := r3 i hi
    have := (r1 i hi).1
    exact ⟨π3, E3, k3.on fun a _ _ => ⟨g1 a (by omega), by rw [g2]⟩, fun hi2 => k4 (by omega)⟩
  rw [g3]
  exact hp A6 M9 (q6.tr hcp) k9 (FrL.tr c6.frc.1 fun a ha => ⟨g1 a (by omega), by rw [g2]⟩)
end ZMU
