/-! Calls that tell: none of them throws here. -/
theorem inB_of {p : Int32} {n l h : Nat} (hp : p = nI n) (h1 : l ≤ n) (h2 : n ≤ h) (hh : h < 2 ^ 31) : inB p (nI l) (nI h) = true := by
  subst hp
  unfold inB
  rw [if_neg (fun w => by have := (nI_ltI (by omega) (by omega)).mp w; omega), if_neg (fun w => by have := (nI_ltI (by omega) (by omega)).mp w; omega)]
theorem no_f {z : Bool} {P : Prop} (h : z = true) : z = false → P := fun e => by rw [h] at e; cases e
section YLK
variable {M : Mem} {A : Ab} {Q : Nat → Ab} {s b : Nat} {cd : Nat → Nat} {P : Int32 → Mem → Prop}
theorem y_count (h : KC M A Q s b cd) (ok : okN A (cnt A)) {n : Nat} {w : Int32} (hw : w = nI n) (hn : n ≤ 11) (hp : P (numV A (cnt A) (nI s) w) M) : wp_X6_count 278 M 0 w P := by
  obtain ⟨π1, h1⟩ := h.2.1
  have e1 : inB w 0 11 = true := inB_of (l := 0) (h := 11) hw (by omega) hn (by omega)
  refine ⟨fun _ => ⟨tp6, x_numberOf h1 ok h.1.1 ?_⟩, no_f e1⟩
  rw [h.2.2.2.2.1]
  exact hp
theorem y_setting (h : KC M A Q s b cd) {n : Nat} {w : Int32} (hw : w = nI n) (hn : n < 4) (hp : P (A 0 (7 + n)) M) : wp_X6_setting 278 M 0 w P := by
  obtain ⟨π1, h1⟩ := h.2.1
  have e1 : inB w 0 3 = true := inB_of (l := 0) (h := 3) hw (by omega) (by omega) (by omega)
  exact ⟨fun _ => ⟨tp6, 1, h.1.1, tp5a, x_valueOf h1 hn hw hp⟩, no_f e1⟩
theorem y_heat (h : KC M A Q s b cd) (ok : okN A (cnt A)) {i n : Nat} {x w : Int32} (hx : x = nI i) (hi : i < 4) (hw : w = nI n) (hn : n < 7) (hp : P (heatV A (cnt A) i w) M) : wp_X6_heat 278 M 0 x w P := by
  obtain ⟨π1, h1⟩ := h.2.1
  have e1 : inB x 0 3 = true := inB_of (l := 0) (h := 3) hx (by omega) (by omega) (by omega)
  have e2 : inB w 0 6 = true := inB_of (l := 0) (h := 6) hw (by omega) (by omega) (by omega)
  exact ⟨fun _ => ⟨fun _ => ⟨tp6, 1, h.1.1, tp5a, x_heatProperty h1 ok hi hx hp⟩, no_f e2⟩, no_f e1⟩
theorem y_dieOf (h : KC M A Q s b cd) {i n : Nat} {x w : Int32} (hx : x = nI i) (hi : i < 5) (hw : w = nI n) (hn : n < 6) (hp : P (dieV A i w) M) : wp_X6_dieOf 278 M 0 x w P := by
  obtain ⟨π1, h1⟩ := h.2.1
  have e1 : inB x 0 4 = true := inB_of (l := 0) (h := 4) hx (by omega) (by omega) (by omega)
  have e2 : inB w 0 5 = true := inB_of (l := 0) (h := 5) hw (by omega) (by omega) (by omega)
  exact ⟨fun _ => ⟨fun _ => ⟨tp6, 1, h.1.1, tp5a, x_dieAt h1 hi hx ⟨h1.tpD hi, x1_property h1 hi hp⟩⟩, no_f e2⟩, no_f e1⟩
theorem y_billet (h : KC M A Q s b cd) {i n : Nat} {x w : Int32} (hx : x = nI i) (hi : i < 7) (hw : w = nI n) (hn : n < 4) (hp : P (bilV A i w) M) : wp_X6_billet 278 M 0 x w P := by
  obtain ⟨π1, h1⟩ := h.2.1
  have e1 : inB x 0 6 = true := inB_of (l := 0) (h := 6) hx (by omega) (by omega) (by omega)
  have e2 : inB w 0 3 = true := inB_of (l := 0) (h := 3) hw (by omega) (by omega) (by omega)
  exact ⟨fun _ => ⟨fun _ => ⟨tp6, 1, h.1.1, tp5a, x_billetAt h1 hi hx ⟨h1.tpB hi, x0_property h1 hi hp⟩⟩, no_f e2⟩, no_f e1⟩
theorem y_jobOf (h : KC M A Q s b cd) (ok : okN A (cnt A)) {i n : Nat} {x w : Int32} (hx : x = nI i) (hi : i < cnt A) (hw : w = nI n) (hn : n < 8) (hp : P (jobV A i w) M) : wp_X6_jobOf 278 M 0 x w P := by
  obtain ⟨π1, h1⟩ := h.2.1
  have hc := ok.2.1
  have e2 : inB w 0 7 = true := inB_of (l := 0) (h := 7) hw (by omega) (by omega) (by omega)
  refine ⟨fun e => absurd e (by rw [hx]; exact nI_pos (by omega)), fun _ => ⟨fun _ => ⟨tp6, 1, h.1.1, tp5a, fun e => ?_, fun _ => ⟨1, h.1.1, tp5a, x_jobProperty h1 ok hi hx hp⟩⟩, no_f e2⟩⟩
  rw [h1.N, ok.1, hx] at e
  have := (nI_leI (by omega) (by omega)).mp e
  omega
theorem y_saved (h : KC M A Q s b cd) {T : Nat} (hH : iH A T) (hT : T < 2 ^ 27) {P : UInt64 → Mem → Prop} (hp : P (shareV A) M) : wp_X6_saved 278 M 0 P := by
  obtain ⟨π1, h1⟩ := h.2.1
  exact ⟨tp6, x_shareMade h1 h.1.1 hH hT hp⟩
theorem y_told (h : KC M A Q s b cd) (ok : okN A (cnt A)) {P : Int64 → Mem → Prop} (hp : P (tol A (cnt A)) M) : wp_L_told 278 M 0 P := by
  have hc := ok.2.1
  -- the jobs
  have J8 : ∀ (K_ : Mem → Nat → Int64 → Int32 → Prop) (i : Nat), i < cnt A → ∀ f w z, w + f = 8 → (∀ v, v = nI i + 1 → K_ M 0 (tA (fun w => jobV A i (nI w)) f w z) v) → wpL_L_told_203 278 P K_ (f + 1) M 0 z (nI i) (nI w) := by
    intro K_ i hi f
    induction f with
    | zero =>
      intro w z hw k
      exact ⟨fun _ => k, fun e => absurd ((nI_leI (a := 8) (b := w) (by omega) (by omega)).mpr (by omega)) e⟩
    | succ f ih =>
      intro w z hw k
      refine ⟨fun e => absurd ((nI_leI (a := 8) (b := w) (by omega) (by omega)).mp e) (by omega), fun _ => ⟨tp6, y_jobOf h ok rfl hi rfl (by omega) fun v8 e8 v9 e9 => ?_⟩⟩
      rw [e8, e9, nI_1]
      exact ih (w + 1) _ (by omega) k
  have J : ∀ f i z, i + f = cnt A → P (tB (fun i w => jobV A i (nI w)) 8 f i z) M → wpL_L_told_191 278 P (f + 1) M 0 z (nI i) := by
    intro f
    induction f with
    | zero =>
      intro i z hi k
      refine ⟨tp6, y_count h ok (n := 1) rfl (by omega) ⟨fun _ => k, fun e => absurd ?_ e⟩⟩
      show A 0 5 ≤ nI i
      rw [ok.1]
      exact (nI_leI (by omega) (by omega)).mpr (by omega)
    | succ f ih =>
      intro i z hi k
      refine ⟨tp6, y_count h ok (n := 1) rfl (by omega) ⟨fun e => ?_, fun _ => ⟨9, J8 _ i (by omega) 8 0 z (by omega) fun v ev => ?_⟩⟩⟩
      · have e : A 0 5 ≤ nI i := e
        rw [ok.1] at e
        have := (nI_leI (by omega) (by omega)).mp e
        omega
      · rw [ev, nI_1]
        exact ih (i + 1) _ (by omega) k
  -- the billets
  have B4 : ∀ (K_ : Mem → Nat → Int64 → Int32 → Prop) (i : Nat), i < 7 → ∀ f w z, w + f = 4 → (∀ v, v = nI i + 1 → K_ M 0 (tA (fun w => bilV A i (nI w)) f w z) v) → wpL_L_told_156 278 P K_ (f + 1) M 0 z (nI i) (nI w) := by
    intro K_ i hi f
    induction f with
    | zero =>
      intro w z hw k
      exact ⟨fun _ => k, fun e => absurd ((nI_leI (a := 4) (b := w) (by omega) (by omega)).mpr (by omega)) e⟩
    | succ f ih =>
      intro w z hw k
      refine ⟨fun e => absurd ((nI_leI (a := 4) (b := w) (by omega) (by omega)).mp e) (by omega), fun _ => ⟨tp6, y_billet h rfl hi rfl (by omega) fun v8 e8 v9 e9 => ?_⟩⟩
      rw [e8, e9, nI_1]
      exact ih (w + 1) _ (by omega) k
  have B : ∀ f i z, i + f = 7 → P (tB (fun i w => jobV A i (nI w)) 8 (cnt A) 0 (tB (fun i w => bilV A i (nI w)) 4 f i z)) M → wpL_L_told_147 278 P (f + 1) M 0 z (nI i) := by
    intro f
    induction f with
    | zero =>
      intro i z hi k
      exact ⟨fun _ => ⟨cnt A + 1, J (cnt A) 0 z (by omega) k⟩, fun e => absurd ((nI_leI (a := 7) (b := i) (by omega) (by omega)).mpr (by omega)) e⟩
    | succ f ih =>
      intro i z hi k
      refine ⟨fun e => absurd ((nI_leI (a := 7) (b := i) (by omega) (by omega)).mp e) (by omega), fun _ => ⟨5, B4 _ i (by omega) 4 0 z (by omega) fun v ev => ?_⟩⟩
      rw [ev, nI_1]
      exact ih (i + 1) _ (by omega) k
  -- the dies
  have D6 : ∀ (K_ : Mem → Nat → Int64 → Int32 → Prop) (i : Nat), i < 5 → ∀ f w z, w + f = 6 → (∀ v, v = nI i + 1 → K_ M 0 (tA (fun w => dieV A i (nI w)) f w z) v) → wpL_L_told_111 278 P K_ (f + 1) M 0 z (nI i) (nI w) := by
    intro K_ i hi f
    induction f with
    | zero =>
      intro w z hw k
      exact ⟨fun _ => k, fun e => absurd ((nI_leI (a := 6) (b := w) (by omega) (by omega)).mpr (by omega)) e⟩
    | succ f ih =>
      intro w z hw k
      refine ⟨fun e => absurd ((nI_leI (a := 6) (b := w) (by omega) (by omega)).mp e) (by omega), fun _ => ⟨tp6, y_dieOf h rfl hi rfl (by omega) fun v8 e8 v9 e9 => ?_⟩⟩
      rw [e8, e9, nI_1]
      exact ih (w + 1) _ (by omega) k
  have D : ∀ f i z, i + f = 5 → P (tB (fun i w => jobV A i (nI w)) 8 (cnt A) 0 (tB (fun i w => bilV A i (nI w)) 4 7 0 (tB (fun i w => dieV A i (nI w)) 6 f i z))) M → wpL_L_told_103 278 P (f + 1) M 0 z (nI i) := by
    intro f
    induction f with
    | zero =>
      intro i z hi k
      exact ⟨fun _ => ⟨8, B 7 0 z (by omega) k⟩, fun e => absurd ((nI_leI (a := 5) (b := i) (by omega) (by omega)).mpr (by omega)) e⟩
    | succ f ih =>
      intro i z hi k
      refine ⟨fun e => absurd ((nI_leI (a := 5) (b := i) (by omega) (by omega)).mp e) (by omega), fun _ => ⟨7, D6 _ i (by omega) 6 0 z (by omega) fun v ev => ?_⟩⟩
      rw [ev, nI_1]
      exact ih (i + 1) _ (by omega) k
  -- the heats
  have H7 : ∀ (K_ : Mem → Nat → Int64 → Int32 → Prop) (i : Nat), i < 4 → ∀ f w z, w + f = 7 → (∀ v, v = nI i + 1 → K_ M 0 (tA (fun w => heatV A (cnt A) i (nI w)) f w z) v) → wpL_L_told_67 278 P K_ (f + 1) M 0 z (nI i) (nI w) := by
    intro K_ i hi f
    induction f with
    | zero =>
      intro w z hw k
      exact ⟨fun _ => k, fun e => absurd ((nI_leI (a := 7) (b := w) (by omega) (by omega)).mpr (by omega)) e⟩
    | succ f ih =>
      intro w z hw k
      refine ⟨fun e => absurd ((nI_leI (a := 7) (b := w) (by omega) (by omega)).mp e) (by omega), fun _ => ⟨tp6, y_heat h ok rfl hi rfl (by omega) fun v8 e8 v9 e9 => ?_⟩⟩
      rw [e8, e9, nI_1]
      exact ih (w + 1) _ (by omega) k
  have H : ∀ f i z, i + f = 4 → P (tB (fun i w => jobV A i (nI w)) 8 (cnt A) 0 (tB (fun i w => bilV A i (nI w)) 4 7 0 (tB (fun i w => dieV A i (nI w)) 6 5 0 (tB (fun i w => heatV A (cnt A) i (nI w)) 7 f i z)))) M → wpL_L_told_59 278 P (f + 1) M 0 z (nI i) := by
    intro f
    induction f with
    | zero =>
      intro i z hi k
      exact ⟨fun _ => ⟨6, D 5 0 z (by omega) k⟩, fun e => absurd ((nI_leI (a := 4) (b := i) (by omega) (by omega)).mpr (by omega)) e⟩
    | succ f ih =>
      intro i z hi k
      refine ⟨fun e => absurd ((nI_leI (a := 4) (b := i) (by omega) (by omega)).mp e) (by omega), fun _ => ⟨8, H7 _ i (by omega) 7 0 z (by omega) fun v ev => ?_⟩⟩
      rw [ev, nI_1]
      exact ih (i + 1) _ (by omega) k
  -- the settings
  have S : ∀ f i z, i + f = 4 → P (tB (fun i w => jobV A i (nI w)) 8 (cnt A) 0 (tB (fun i w => bilV A i (nI w)) 4 7 0 (tB (fun i w => dieV A i (nI w)) 6 5 0 (tB (fun i w => heatV A (cnt A) i (nI w)) 7 4 0 (tA (fun w => A 0 (7 + w)) f i z))))) M → wpL_L_told_33 278 P (f + 1) M 0 z (nI i) := by
    intro f
    induction f with
    | zero =>
      intro i z hi k
      exact ⟨fun _ => ⟨5, H 4 0 z (by omega) k⟩, fun e => absurd ((nI_leI (a := 4) (b := i) (by omega) (by omega)).mpr (by omega)) e⟩
    | succ f ih =>
      intro i z hi k
      refine ⟨fun e => absurd ((nI_leI (a := 4) (b := i) (by omega) (by omega)).mp e) (by omega), fun _ => ⟨tp6, y_setting h (n := i) rfl (by omega) fun v8 e8 v9 e9 => ?_⟩⟩
      rw [e8, e9, nI_1]
      exact ih (i + 1) _ (by omega) k
  -- the counts
  have C : ∀ f i z, i + f = 11 → P (tB (fun i w => jobV A i (nI w)) 8 (cnt A) 0 (tB (fun i w => bilV A i (nI w)) 4 7 0 (tB (fun i w => dieV A i (nI w)) 6 5 0 (tB (fun i w => heatV A (cnt A) i (nI w)) 7 4 0 (tA (fun w => A 0 (7 + w)) 4 0 (tA (fun w => numV A (cnt A) 0 (nI w)) f i z)))))) M → wpL_L_told_6 278 P (f + 1) M 0 z (nI i) := by
    intro f
    induction f with
    | zero =>
      intro i z hi k
      exact ⟨fun _ => ⟨5, S 4 0 z (by omega) k⟩, fun e => absurd ((nI_leI (a := 11) (b := i) (by omega) (by omega)).mpr (by omega)) e⟩
    | succ f ih =>
      intro i z hi k
      refine ⟨fun e => absurd ((nI_leI (a := 11) (b := i) (by omega) (by omega)).mp e) (by omega), fun _ => ⟨tp6, y_count h ok rfl (by omega) fun v8 e8 v9 e9 => ?_⟩⟩
      have en : numV A (cnt A) (nI s) (nI i) = numV A (cnt A) 0 (nI i) := by
        rcases (by omega : i = 0 ∨ i = 1 ∨ i = 2 ∨ i = 3 ∨ i = 4 ∨ i = 5 ∨ i = 6 ∨ i = 7 ∨ i = 8 ∨ i = 9 ∨ i = 10) with rfl | rfl | rfl | rfl | rfl | rfl | rfl | rfl | rfl | rfl | rfl <;> rfl
      rw [e8, e9, nI_1, en]
      exact ih (i + 1) _ (by omega) k
  exact ⟨12, C 11 0 3 (by omega) hp⟩
end YLK
