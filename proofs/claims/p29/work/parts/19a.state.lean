/-! The whole state: the class's side, the reference's side, what is kept. -/
def KC (M : Mem) (A : Ab) (Q : Nat → Ab) (s b : Nat) (cd : Nat → Nat) : Prop := Hd M ∧ (∃ π, CF M M 1 π A) ∧ (∃ π E, CF M M 35 π E) ∧ (∃ ρ : Nat → Nat, (∀ i, i < 6 → ρ i < 6 ∧ M.2.1 69 i = some (70 + 34 * ρ i)) ∧ (∀ i j, i < 6 → j < 6 → ρ i = ρ j → i = j) ∧ ∀ i, i < 6 → ∃ π E, CF M M (70 + 34 * ρ i) π E ∧ (i < s → Cp E (Q i) (cnt (Q i)))) ∧ M.1 0 3 = nI s ∧ s ≤ 6 ∧ M.1 274 1 = nI b ∧ b ≤ 60 ∧ (∀ i, i < b → M.1 275 i = nI (cd i)) ∧ ∀ i, i < b → 33 ≤ cd i ∧ cd i ≤ 126
def KV (A : Ab) (j : Nat) : Prop := ∃ N T, N ≤ 10 * j ∧ T ≤ 300 * j ∧ Iv A (cnt A) N T
def FrC (M M' : Mem) : Prop := (∀ a, 276 ≤ a → M'.1 a = M.1 a ∧ M'.2.1 a = M.2.1 a) ∧ M'.2.2 = M.2.2
theorem FrC.rf {M : Mem} : FrC M M := ⟨fun _ _ => ⟨rfl, rfl⟩, rfl⟩
theorem FrC.tr {M M1 M2 : Mem} (h : FrC M M1) (k : FrC M1 M2) : FrC M M2 := ⟨fun a ha => ⟨(k.1 a ha).1.trans (h.1 a ha).1, (k.1 a ha).2.trans (h.1 a ha).2⟩, k.2.trans h.2⟩
theorem CF.frc {B M : Mem} {S : Nat} {π : Nat → Nat} {A : Ab} (h : CF B M S π A) : FrC B M := by
  have hl := (kdS h.1 (r := 33) (by omega)).2
  exact ⟨fun a ha => h.fr.1 a (by omega), h.fr.2⟩
section KST
variable {M M' : Mem} {A A' : Ab} {Q : Nat → Ab} {s b j : Nat} {cd : Nat → Nat} {π : Nat → Nat}
theorem KC.fr (h : KC M A Q s b cd) (e : ∀ a, a < 276 → M'.1 a = M.1 a ∧ M'.2.1 a = M.2.1 a) : KC M' A Q s b cd := by
  obtain ⟨hd, ⟨π1, h1⟩, ⟨π2, E2, h2⟩, ⟨ρ, r1, r2, r3⟩, h3, hs, ht, hb, hq, hc⟩ := h
  refine ⟨?_, ⟨π1, h1.on fun a _ _ => e a (by omega)⟩, ⟨π2, E2, h2.on fun a _ _ => e a (by omega)⟩, ⟨ρ, fun i hi => ⟨(r1 i hi).1, by rw [(e 69 (by omega)).2]; exact (r1 i hi).2⟩, r2, fun i hi => ?_⟩, by rw [(e 0 (by omega)).1]; exact h3, hs, by rw [(e 274 (by omega)).1]; exact ht, hb, fun i hi => by rw [(e 275 (by omega)).1]; exact hq i hi, hc⟩
  · unfold Hd
    rw [(e 0 (by omega)).2, (e 274 (by omega)).2]; exact hd
  · obtain ⟨π3, E3, k3, k4⟩ := r3 i hi
    have := (r1 i hi).1
    exact ⟨π3, E3, k3.on fun a _ _ => e a (by omega), k4⟩
theorem KC.shop (h : KC M A Q s b cd) (k : CF M M' 1 π A') : KC M' A' Q s b cd := by
  obtain ⟨hd, ⟨π1, h1⟩, ⟨π2, E2, h2⟩, ⟨ρ, r1, r2, r3⟩, h3, hs, ht, hb, hq, hc⟩ := h
  have e := k.fr.1
  refine ⟨?_, ⟨π, k.base⟩, ⟨π2, E2, h2.on fun a _ _ => e a (by omega)⟩, ⟨ρ, fun i hi => ⟨(r1 i hi).1, by rw [(e 69 (by omega)).2]; exact (r1 i hi).2⟩, r2, fun i hi => ?_⟩, by rw [(e 0 (by omega)).1]; exact h3, hs, by rw [(e 274 (by omega)).1]; exact ht, hb, fun i hi => by rw [(e 275 (by omega)).1]; exact hq i hi, hc⟩
  · unfold Hd
    rw [(e 0 (by omega)).2, (e 274 (by omega)).2]; exact hd
  · obtain ⟨π3, E3, k3, k4⟩ := r3 i hi
    exact ⟨π3, E3, k3.on fun a _ _ => e a (by omega), k4⟩
theorem KV.mono (h : KV A j) {i : Nat} (hi : j ≤ i) : KV A i := by
  obtain ⟨N, T, h1, h2, h3⟩ := h
  exact ⟨N, T, by omega, by omega, h3⟩
end KST
/-! What is saved. -/
def sN (s : Nat) : Nat := if s = 6 then 6 else s + 1
def pQ (Q : Nat → Ab) (s : Nat) (A : Ab) : Nat → Ab := fun i => if i + 1 = sN s then A else Q (if s = 6 then i + 1 else i)
theorem tp15 : m_tp 278 69 15 := ⟨by decide, by decide⟩
theorem len69 : m_len 69 = 6 := by decide
section REM
variable {M M' : Mem} {A A' : Ab} {Q : Nat → Ab} {s b j : Nat} {cd : Nat → Nat} {π : Nat → Nat}
theorem x_pastAt (h2 : M.2.1 0 2 = some 69) {i a : Nat} (hi : i < 6) {x : Int32} (hx : x = nI i) (hr : M.2.1 69 i = some a) {P : Option Nat → Mem → Prop} (hp : P (some a) M) : wp_X6_pastAt 278 M 0 x P := by
  subst hx
  refine ⟨fun e => absurd e (nI_pos (by omega)), fun _ => ⟨tp6, 69, h2, tp15, fun e => ?_, fun _ => ⟨69, h2, tp15, by rw [len69]; exact vpI rfl hi (by omega), a, by rw [nI_clamp (by omega)]; exact hr, hp⟩⟩⟩
  rw [len69] at e
  exact absurd ((nI_leI (by omega) (by omega)).mp e) (by omega)
theorem x_saveNext (h : KC M A Q s b cd) (hs : s < 6) (ok : okN A (cnt A)) {x : Int32} (hx : x = nI s) {P : Mem → Prop} (hp : ∀ M', KC M' A (fun i => if i + 1 = s + 1 then A else Q i) (s + 1) b cd → FrC M M' → P M') : wp_X6_pastAt 278 M 0 x (fun o5 M4 => ((o5 = none → P M4) ∧ (∀ j6 : Nat, o5 = some j6 → ∃ j7 : Nat, M4.2.1 0 0 = some j7 ∧ (m_tp 278 j6 5 ∧ (wp_X5_copyFrom 278 M4 j6 j7 (fun M8 => ∀ M11 : Mem, M11 = uI M8 0 3 ((M8.1 0 3) + 1) → (P M11))))))) := by
  obtain ⟨hd, ⟨π1, h1⟩, ⟨π2, E2, h2⟩, ⟨ρ, r1, r2, r3⟩, h3, hs6, ht, hb, hq, hc⟩ := h
  obtain ⟨π3, E3, k3, k4⟩ := r3 s hs
  have hρ := (r1 s hs).1
  refine x_pastAt hd.2.2.1 hs hx (r1 s hs).2 ⟨fun e => (by cases e), fun j6 e6 => ?_⟩
  cases e6
  refine ⟨1, hd.1, k3.tp0, x_copyFrom k3 h1 ok (Or.inr (by omega)) fun M8 A8 c1 c2 M11 e11 => ?_⟩
  have f8 := c1.fr.1
  have e3 : M8.1 0 3 = nI s := by rw [(f8 0 (by omega)).1]; exact h3
  rw [e3, nI_1] at e11
  have f1 : ∀ a, a ≠ 0 → M11.1 a = M8.1 a := fun a ha => by rw [e11]; exact uI_a ha
  have f2 : M11.2.1 = M8.2.1 := by rw [e11]; rfl
  have f3 : M11.1 0 3 = nI (s + 1) := by rw [e11]; exact uI_s
  have fa : ∀ a, a ≠ 0 → ¬ (70 + 34 * ρ s ≤ a ∧ a < 70 + 34 * ρ s + 34) → M11.1 a = M.1 a ∧ M11.2.1 a = M.2.1 a := fun a h0 ha => ⟨(f1 a h0).trans (f8 a ha).1, by rw [f2]; exact (f8 a ha).2⟩
  have fb : ∀ a, ¬ (70 + 34 * ρ s ≤ a ∧ a < 70 + 34 * ρ s + 34) → M11.2.1 a = M.2.1 a := fun a ha => by rw [f2]; exact (f8 a ha).2
  refine hp M11 ⟨?_, ⟨π1, h1.on fun a _ _ => fa a (by omega) (by omega)⟩, ⟨π2, E2, h2.on fun a _ _ => fa a (by omega) (by omega)⟩, ⟨ρ, fun i hi => ⟨(r1 i hi).1, by rw [fb 69 (by omega)]; exact (r1 i hi).2⟩, r2, fun i hi => ?_⟩, f3, by omega, by rw [(fa 274 (by omega) (by omega)).1]; exact ht, hb, fun i hi => by rw [(fa 275 (by omega) (by omega)).1]; exact hq i hi, hc⟩ ⟨fun a ha => fa a (by omega) (by omega), ?_⟩
  · unfold Hd
    rw [fb 0 (by omega), fb 274 (by omega)]; exact hd
  · by_cases e : i = s
    · subst e
      refine ⟨π3, A8, c1.base.on fun a _ _ => ⟨f1 a (by omega), by rw [f2]⟩, fun _ => ?_⟩
      show Cp A8 (if i + 1 = i + 1 then A else Q i) (cnt (if i + 1 = i + 1 then A else Q i))
      rw [if_pos rfl]; exact c2
    · obtain ⟨π4, E4, k5, k6⟩ := r3 i hi
      have hρi := (r1 i hi).1
      have hne : ρ i ≠ ρ s := fun w => e (r2 i s hi hs w)
      refine ⟨π4, E4, k5.on fun a _ _ => fa a (by omega) (by omega), fun hi2 => ?_⟩
      show Cp E4 (if i + 1 = s + 1 then A else Q i) (cnt (if i + 1 = s + 1 then A else Q i))
      rw [if_neg (by omega)]; exact k6 (by omega)
  · rw [e11]; exact c1.fr.2
theorem x_dropOldest (h : KC M A Q 6 b cd) {P : Mem → Prop} (hp : ∀ M', KC M' A (fun i => Q (i + 1)) 5 b cd → FrC M M' → P M') : wp_X6_dropOldest 278 M 0 P := by
  obtain ⟨hd, ⟨π1, h1⟩, ⟨π2, E2, h2⟩, ⟨ρ, r1, r2, r3⟩, h3, hs6, ht, hb, hq, hc⟩ := h
  refine ⟨tp6, x_pastAt hd.2.2.1 (i := 0) (by omega) rfl (r1 0 (by omega)).2 ⟨69, hd.2.2.1, tp15, fun v6 e6 => ⟨6, ?_⟩⟩⟩
  have e5 : v6 = nI 5 := by rw [e6, len69]; rfl
  subst e5
  have hρ0 := (r1 0 (by omega)).1
  have L : ∀ f i, i + f = 5 → wpL_X6_dropOldest_16 278 P (f + 1) (M.1, fun a k => if a = 69 ∧ k < i then M.2.1 69 (k + 1) else M.2.1 a k, M.2.2) 0 (some (70 + 34 * ρ 0)) (nI 5) (nI i) := by
    intro f
    induction f with
    | zero =>
      intro i hi
      have : i = 5 := by omega
      subst this
      refine ⟨fun _ => ⟨fun e => absurd e (nI_pos (by omega)), fun _ => ⟨tp6, 69, hd.2.2.1, tp15, _, rfl, tpS0 (Or.inr (Or.inr ⟨ρ 0, hρ0, rfl⟩)), by rw [len69]; exact vpI rfl (by omega : 5 < 6) (by omega), fun M13 e13 M14 e14 => ?_⟩⟩, fun e => absurd (cGe (n := 5) rfl rfl (by omega) (by omega)) e⟩
      rw [nI_clamp (by omega)] at e13
      subst e13
      have f1 : ∀ a, a ≠ 0 → M14.1 a = M.1 a := fun a ha => by rw [e14, uI_a ha]; rfl
      have f3 : M14.1 0 3 = nI 5 := by rw [e14]; exact uI_s
      have f2 : ∀ a, a ≠ 69 → M14.2.1 a = M.2.1 a := fun a ha => by
        rw [e14]
        funext k
        show (if a = 69 ∧ k = 5 then some (70 + 34 * ρ 0) else if a = 69 ∧ k < 5 then M.2.1 69 (k + 1) else M.2.1 a k) = M.2.1 a k
        rw [if_neg (fun w => ha w.1), if_neg (fun w => ha w.1)]
      have f4 : ∀ i, i < 6 → M14.2.1 69 i = some (70 + 34 * ρ (if i = 5 then 0 else i + 1)) := fun i hi => by
        rw [e14]
        show (if 69 = 69 ∧ i = 5 then some (70 + 34 * ρ 0) else if 69 = 69 ∧ i < 5 then M.2.1 69 (i + 1) else M.2.1 69 i) = _
        by_cases w : i = 5
        · rw [if_pos ⟨rfl, w⟩, if_pos w]
        · rw [if_neg (fun z => w z.2), if_pos ⟨rfl, by omega⟩, if_neg w]
          exact (r1 (i + 1) (by omega)).2
      refine hp M14 ⟨?_, ⟨π1, h1.on fun a _ _ => ⟨f1 a (by omega), f2 a (by omega)⟩⟩, ⟨π2, E2, h2.on fun a _ _ => ⟨f1 a (by omega), f2 a (by omega)⟩⟩, ⟨fun i => ρ (if i = 5 then 0 else i + 1), fun i hi => ⟨(r1 _ (by split <;> omega)).1, f4 i hi⟩, fun i l hi hl e => ?_, fun i hi => ?_⟩, f3, by omega, by rw [f1 274 (by omega)]; exact ht, hb, fun i hi => by rw [f1 275 (by omega)]; exact hq i hi, hc⟩ ⟨fun a ha => ⟨f1 a (by omega), f2 a (by omega)⟩, by rw [e14]; rfl⟩
      · unfold Hd
        rw [f2 0 (by omega), f2 274 (by omega)]; exact hd
      · have := r2 _ _ (by split <;> omega) (by split <;> omega) e
        split at this <;> split at this <;> omega
      · have hr := (r1 (if i = 5 then 0 else i + 1) (by split <;> omega)).1
        obtain ⟨π4, E4, k5, k6⟩ := r3 (if i = 5 then 0 else i + 1) (by split <;> omega)
        refine ⟨π4, E4, k5.on fun a _ _ => ⟨f1 a (by omega), f2 a (by omega)⟩, fun hi2 => ?_⟩
        rw [if_neg (by omega)] at k6
        exact k6 (by omega)
    | succ f ih =>
      intro i hi
      refine ⟨fun e => absurd e (cLt (n := 5) rfl rfl (by omega) (by omega)), fun _ => ⟨tp6, 69, hd.2.2.1, 69, hd.2.2.1, tp15, by rw [nI_1, len69]; exact vpI rfl (by omega : i + 1 < 6) (by omega), 70 + 34 * ρ (i + 1), ?_, tp15, tpS0 (Or.inr (Or.inr ⟨_, (r1 (i + 1) (by omega)).1, rfl⟩)), by rw [len69]; exact vpI rfl (by omega : i < 6) (by omega), fun M24 e24 v25 e25 => ?_⟩⟩
      · rw [nI_1, nI_clamp (by omega)]
        show (if 69 = 69 ∧ i + 1 < i then M.2.1 69 (i + 1 + 1) else M.2.1 69 (i + 1)) = _
        rw [if_neg (by omega)]
        exact (r1 (i + 1) (by omega)).2
      · rw [nI_clamp (by omega)] at e24
        have em : M24 = (M.1, fun a k => if a = 69 ∧ k < i + 1 then M.2.1 69 (k + 1) else M.2.1 a k, M.2.2) := by
          rw [e24]
          refine Prod.ext rfl (Prod.ext (funext fun a => funext fun k => ?_) rfl)
          show (if a = 69 ∧ k = i then some (70 + 34 * ρ (i + 1)) else if a = 69 ∧ k < i then M.2.1 69 (k + 1) else M.2.1 a k) = if a = 69 ∧ k < i + 1 then M.2.1 69 (k + 1) else M.2.1 a k
          by_cases ha : a = 69
          · by_cases hk : k = i
            · rw [if_pos ⟨ha, hk⟩, if_pos ⟨ha, by omega⟩, hk]
              exact ((r1 (i + 1) (by omega)).2).symm
            · by_cases hk2 : k < i
              · rw [if_neg (fun w => hk w.2), if_pos ⟨ha, hk2⟩, if_pos ⟨ha, by omega⟩]
              · rw [if_neg (fun w => hk w.2), if_neg (fun w => hk2 w.2), if_neg (fun w => absurd w.2 (by omega))]
          · rw [if_neg (fun w => ha w.1), if_neg (fun w => ha w.1), if_neg (fun w => ha w.1)]
        rw [em, e25, nI_1]
        exact ih (i + 1) (by omega)
  have := L 5 0 (by omega)
  have e0 : (M.1, (fun a k => if a = 69 ∧ k < 0 then M.2.1 69 (k + 1) else M.2.1 a k), M.2.2) = M := by
    refine Prod.ext rfl (Prod.ext (funext fun a => funext fun k => ?_) rfl)
    show (if a = 69 ∧ k < 0 then M.2.1 69 (k + 1) else M.2.1 a k) = M.2.1 a k
    rw [if_neg (by omega)]
  rw [e0] at this
  exact this
theorem x_remember (h : KC M A Q s b cd) (ok : okN A (cnt A)) {P : Mem → Prop} (hp : ∀ M', KC M' A (pQ Q s A) (sN s) b cd → FrC M M' → P M') : wp_X6_remember 278 M 0 P := by
  have h' := h
  obtain ⟨hd, _, _, _, h3, hs6, _⟩ := h
  refine ⟨tp6, 69, hd.2.2.1, tp15, fun e => ?_, fun e => ?_⟩
  · rw [h3, len69] at e
    have hs := (nI_ltI (by omega) (by omega)).mp e
    refine x_saveNext h' hs ok h3 fun M2 k2 f2 => hp M2 ?_ f2
    have e1 : sN s = s + 1 := if_neg (by omega)
    have e2 : pQ Q s A = fun i => if i + 1 = s + 1 then A else Q i := by
      funext i
      unfold pQ
      rw [e1, show (if s = 6 then i + 1 else i) = i from if_neg (by omega)]
    rw [e1, e2]
    exact k2
  · rw [h3, len69] at e
    have hs : s = 6 := by
      rcases Nat.lt_or_ge s 6 with w | w
      · exact absurd ((nI_ltI (by omega) (by omega)).mpr w) e
      · omega
    subst hs
    refine x_dropOldest h' fun M2 k2 f2 => x_saveNext k2 (by omega) ok k2.2.2.2.2.1 fun M3 k3 f3 => hp M3 ?_ (f2.tr f3)
    have e2 : pQ Q 6 A = fun i => if i + 1 = 5 + 1 then A else Q (i + 1) := by
      funext i
      rfl
    rw [e2]
    exact k3
end REM
