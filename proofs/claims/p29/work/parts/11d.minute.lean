/-! A minute of the class's shop. -/
def cnt (A : Ab) : Nat := (A 0 5).toNatClampNeg
theorem okN.cn {A : Ab} {c : Nat} (o : okN A c) : cnt A = c := by
  unfold cnt
  rw [o.1, nI_clamp (by have := o.2.1; omega)]
def warmV (A : Ab) (r : Nat) : Int32 := if A r 1 + A 0 7 < 1250 then A r 1 + A 0 7 else 1250
def aWarm (A : Ab) (n : Nat) : Ab := fun r f => if 24 ≤ r ∧ r < 24 + n ∧ f = 1 ∧ A r 0 ≠ -1 then warmV A r else A r f
def chargeAt (A : Ab) (k p : Nat) : Ab := aU (aU (aU (aU (aU (aU A (2 + hj A k) 0 (A (2 + hj A k) 0 - 1)) (13 + k) 7 (A (13 + k) 7 + 1)) (24 + p) 0 (A (13 + k) 0)) (24 + p) 1 20) (24 + p) 2 0) (24 + p) 3 (A (7 + dj A k) 0)
def canCh (A : Ab) (k : Nat) : Bool := !decide (A (2 + hj A k) 0 ≤ 0) && !decide (lackA A k ≤ 0)
def aCharge (A : Ab) (c : Nat) : Ab := match freeA A with
  | none => A
  | some p => match fst9 (canCh A) c 0 with
    | none => A
    | some k => chargeAt A k p
/-- the billet of the place p goes to the place q -/
def mvB (A : Ab) (q p : Nat) : Ab := aU (rowC A (24 + q) 4 (A (24 + p))) (24 + p) 0 (-1)
def canLd (A : Ab) (k : Nat) : Bool := !decide (A (13 + k) 7 ≤ 0) && (okDie A (dj A k) && (hotA A k).isSome)
def aLoad (A : Ab) (c : Nat) : Ab := match fst9 (canLd A) c 0 with
  | none => A
  | some k => match hotA A k with
    | none => A
    | some p => mvB A 6 p
def scrA (A : Ab) (k : Nat) : Ab := aU (aU (aU A (13 + k) 7 (A (13 + k) 7 - 1)) (2 + hj A k) 4 (A (2 + hj A k) 4 + 1)) 30 0 (-1)
def heatUp (A : Ab) : Ab := aU A 30 2 (A 30 2 + 1)
def aBack (A : Ab) (k : Nat) : Ab := match freeA A with
  | none => scrA (heatUp A) k
  | some p => if A 30 2 + 1 ≤ A 0 9 then mvB (heatUp A) p 6 else scrA (heatUp A) k
def wearV (A : Ab) (k : Nat) : Int32 := A (7 + dj A k) 2 + (1 + (if 0 < A (2 + hj A k) 2 - A 30 1 then A (2 + hj A k) 2 - A 30 1 else 0) / 100)
def strikeA (A : Ab) (k : Nat) : Ab := aU (aU (aU (aU A (7 + dj A k) 2 (wearV A k)) 30 1 (if 20 < A 30 1 - A 0 8 then A 30 1 - A 0 8 else 20)) 30 3 (A 30 3 - 1)) 0 12 (A 0 12 + 1)
def makeA (A : Ab) (k : Nat) : Ab := aU (aU (aU (aU (aU A 30 0 (-1)) (13 + k) 7 (A (13 + k) 7 - 1)) (13 + k) 4 (A (13 + k) 4 + 1)) (2 + hj A k) 3 (A (2 + hj A k) 3 + 1)) (7 + dj A k) 4 (A (7 + dj A k) 4 + 1)
def lateV (A : Ab) (k : Nat) : Int32 := A 0 11 - A (13 + k) 5
def goneA (A : Ab) (k : Nat) : Ab := if lateV A k ≤ 0 then aU A 0 13 (A 0 13 + 1) else aU (aU (aU A 0 13 (A 0 13 + 1)) 0 14 (A 0 14 + 1)) 0 15 (A 0 15 + lateV A k)
def aMade (A : Ab) (c k : Nat) : Ab := if A (13 + k) 4 + 1 < A (13 + k) 3 then makeA A k else remA (goneA (makeA A k) k) c k
def aWork (A : Ab) (c k : Nat) : Ab := if okDie A (dj A k) = true ∧ A (2 + hj A k) 1 ≤ A 30 1 then (if A 30 3 - 1 ≤ 0 then aMade (strikeA A k) c k else strikeA A k) else aBack A k
def grindA (A : Ab) (d : Nat) : Ab := if 0 < A (7 + d) 3 - 1 then aU A (7 + d) 3 (A (7 + d) 3 - 1) else aU (aU (aU (aU A (7 + d) 3 (A (7 + d) 3 - 1)) (7 + d) 2 0) (7 + d) 1 (if 10 < A (7 + d) 1 - 5 then A (7 + d) 1 - 5 else 10)) (7 + d) 5 (A (7 + d) 5 + 1)
def wornA (A : Ab) : Option Nat := fst9 (fun d => !decide (A (7 + d) 2 < A (7 + d) 1)) 5 0
def tendW (A : Ab) : Ab := match wornA A with
  | none => A
  | some d => aU A (7 + d) 3 (A 0 10)
def aTend (A : Ab) : Ab := match groundA A with
  | none => tendW A
  | some d => if A (7 + d) 3 - 1 ≤ 0 then tendW (grindA A d) else grindA A d
def aPress (A : Ab) (c : Nat) : Ab := if A 30 0 = -1 then aLoad A c else match placeA A c (A 30 0) with
  | none => A
  | some k => aWork A c k
def aTick (A : Ab) : Ab := aU A 0 11 (A 0 11 + 1)
def aMinute (A : Ab) : Ab := aTend (aPress (aCharge (aWarm (aTick A) 6) (cnt A)) (cnt A))
theorem fst9_some {c : Nat → Bool} : ∀ {f i k : Nat}, fst9 c f i = some k → i ≤ k ∧ k < i + f ∧ c k = true ∧ ∀ j, i ≤ j → j < k → c j = false := by
  intro f
  induction f with
  | zero => intro i k h; cases h
  | succ f ih =>
    intro i k h
    unfold fst9 at h
    by_cases e : c i = true
    · rw [if_pos e] at h
      cases h
      exact ⟨Nat.le_refl _, by omega, e, fun j h1 h2 => by omega⟩
    · rw [if_neg e] at h
      obtain ⟨h1, h2, h3, h4⟩ := ih h
      refine ⟨by omega, by omega, h3, fun j h5 h6 => ?_⟩
      by_cases q : j = i
      · subst q; simpa using e
      · exact h4 j (by omega) h6
theorem fst9_none {c : Nat → Bool} : ∀ {f i : Nat}, fst9 c f i = none → ∀ j, i ≤ j → j < i + f → c j = false := by
  intro f
  induction f with
  | zero => intro i h j h1 h2; omega
  | succ f ih =>
    intro i h j h1 h2
    unfold fst9 at h
    by_cases e : c i = true
    · rw [if_pos e] at h
      cases h
    · rw [if_neg e] at h
      by_cases q : j = i
      · subst q; simpa using e
      · exact ih h j (by omega) (by omega)
theorem fst9_congr {c c' : Nat → Bool} : ∀ {f i : Nat}, (∀ j, i ≤ j → j < i + f → c j = c' j) → fst9 c f i = fst9 c' f i := by
  intro f
  induction f with
  | zero => intro i h; rfl
  | succ f ih =>
    intro i h
    unfold fst9
    rw [h i (Nat.le_refl i) (by omega), ih (fun j h1 h2 => h j (by omega) (by omega))]
section MIN
variable {B M M' : Mem} {S : Nat} {π : Nat → Nat} {A : Ab} {c : Nat}
theorem x_warmFurnace (h : CF B M S π A) {P : Mem → Prop} (hp : ∀ M', CF B M' S π (aWarm A 6) → P M') : wp_X5_warmFurnace 278 M S P := by
  refine ⟨h.tp0, S + 23, h.furn.1, h.furn.2.1, fun v hv => ⟨7, ?_⟩⟩
  rw [h.furn.2.2] at hv
  have L : ∀ f i (M1 : Mem), i + f = 6 → CF B M1 S π (aWarm A i) → wpL_X5_warmFurnace_10 278 P (f + 1) M1 S (S + 23) v (nI i) := by
    intro f
    induction f with
    | zero =>
      intro i M1 hi h1
      have : i = 6 := by omega
      subst this
      exact ⟨fun _ => hp M1 h1, fun k => absurd (cGe hv rfl (by omega) (by omega)) k⟩
    | succ f ih =>
      intro i M1 hi h1
      have e0 : ∀ g, aWarm A i (24 + i) g = A (24 + i) g := fun g => by unfold aWarm; rw [if_neg (by omega)]
      refine ⟨fun k => absurd k (cLt hv rfl (by omega) (by omega)), fun _ => ⟨h1.furn.2.1, by rw [h1.furn.2.2]; exact vp_in_nI (by omega) (by omega), S + 24 + i, h1.furnAt (by omega), h1.tpB (by omega), fun he w hw => ?_, fun hne => ⟨h1.tp0, fun M2 e2 w hw => ?_⟩⟩⟩
      · rw [h1.Bi (by omega), e0] at he
        rw [hw, nI_1]
        refine ih (i + 1) M1 (by omega) ?_
        rw [show aWarm A (i + 1) = aWarm A i by
          funext r g
          unfold aWarm
          by_cases q : r = 24 + i
          · subst q
            rw [if_neg (fun z => z.2.2.2 he), if_neg (by omega)]
          · by_cases q2 : 24 ≤ r ∧ r < 24 + i ∧ g = 1 ∧ A r 0 ≠ -1
            · rw [if_pos q2, if_pos ⟨q2.1, by omega, q2.2.2⟩]
            · rw [if_neg q2, if_neg (fun z => q2 ⟨z.1, by omega, z.2.2⟩)]]
        exact h1
      · rw [h1.Bi (by omega), e0] at hne
        rw [h1.Bi (by omega), h1.N, e0, show aWarm A i 0 7 = A 0 7 by unfold aWarm; rw [if_neg (by omega)]] at e2
        have h2 := h1.uB (by omega) e2
        rw [hw, nI_1]
        refine ih (i + 1) M2 (by omega) ?_
        rw [show aWarm A (i + 1) = aU (aWarm A i) (24 + i) 1 (warmV A (24 + i)) by
          funext r g
          unfold aU aWarm
          by_cases q : r = 24 + i ∧ g = 1
          · obtain ⟨rfl, rfl⟩ := q
            rw [if_pos ⟨by omega, by omega, rfl, hne⟩, if_pos ⟨rfl, rfl⟩]
          · rw [if_neg q]
            by_cases q2 : 24 ≤ r ∧ r < 24 + i ∧ g = 1 ∧ A r 0 ≠ -1
            · rw [if_pos q2, if_pos ⟨q2.1, by omega, q2.2.2⟩]
            · rw [if_neg q2, if_neg (fun z => q2 ⟨z.1, by omega, z.2.2⟩)]]
        exact h2
  refine L 6 0 M rfl ?_
  rw [show aWarm A 0 = A by funext r g; unfold aWarm; rw [if_neg (by omega)]]
  exact h
theorem x_chargeFurnace (h : CF B M S π A) (ok : okN A c) {P : Mem → Prop} (hp : ∀ M', CF B M' S π (aCharge A c) → P M') : wp_X5_chargeFurnace 278 M S P := by
  have hc := ok.2.1
  refine ⟨h.tp0, x_freePlace h ⟨fun e => ?_, fun j e => ⟨c + 1, ?_⟩⟩⟩
  · cases ef : freeA A with
    | none => exact hp M (by unfold aCharge; rw [ef]; exact h)
    | some p => rw [ef] at e; cases e
  · cases ef : freeA A with
    | none => rw [ef] at e; cases e
    | some p =>
      rw [ef] at e
      cases e
      have hp7 : p < 6 := by have := (fst9_some ef).2.1; omega
      have L : ∀ f i, i + f = c → (∀ M', CF B M' S π (match fst9 (canCh A) f i with | none => A | some k => chargeAt A k p) → P M') → wpL_X5_chargeFurnace_12 278 P (f + 1) M S (S + 24 + p) (nI i) := by
        intro f
        induction f with
        | zero =>
          intro i hi hp
          exact ⟨h.tp0, fun _ => hp M h, fun k => absurd (cGe ((h.N 5).trans ok.1) rfl (by omega) (by omega)) k⟩
        | succ f ih =>
          intro i hi hp
          have hh := ok.h (k := i) (by omega)
          have hd := ok.d (k := i) (by omega)
          refine ⟨h.tp0, fun k => absurd k (cLt ((h.N 5).trans ok.1) rfl (by omega) (by omega)), fun _ => x_jobAt h (k := i) (by omega) rfl ⟨h.tpJ (by omega), x_heatAt h hh.1 ((h.J (by omega) 2).trans hh.2) ⟨h.tpH hh.1, fun e v hv => ?_, fun e => x_lack h (by omega) ⟨fun e2 v hv => ?_, fun e2 M16 e16 M17 e17 => ⟨h.tpB (by omega), fun M19 e19 M20 e20 M21 e21 => ?_⟩⟩⟩⟩⟩
          · rw [h.H hh.1] at e
            rw [hv, nI_1]
            refine ih (i + 1) (by omega) ?_
            unfold fst9 at hp
            rwa [if_neg (by unfold canCh; simp [e])] at hp
          · rw [hv, nI_1]
            refine ih (i + 1) (by omega) ?_
            unfold fst9 at hp
            rwa [if_neg (by unfold canCh; simp [e2])] at hp
          · rw [h.H hh.1] at e e16
            have h16 := h.uH hh.1 e16
            rw [h16.J (by omega), up_r (by omega)] at e17
            have h17 := h16.uJ (by omega) e17
            rw [h17.J (by omega), up_f (by omega), up_r (by omega)] at e19
            have h19 := h17.uB (by omega) e19
            have h20 := h19.uB (by omega) e20
            have h21 := h20.uB (by omega) e21
            refine x_dieAt h21 hd.1 ?_ ⟨h21.tpD hd.1, fun M25 e25 => ?_⟩
            · rw [h21.J (by omega), up_r (by omega), up_r (by omega), up_r (by omega), up_f (by omega), up_r (by omega)]
              exact hd.2
            · rw [h21.D hd.1, up_r (by omega), up_r (by omega), up_r (by omega), up_r (by omega), up_r (by omega)] at e25
              have h25 := h21.uB (by omega) e25
              unfold fst9 at hp
              rw [if_pos (by unfold canCh; simp [e, e2])] at hp
              exact hp M25 h25
      refine L c 0 (by omega) ?_
      unfold aCharge at hp
      rw [ef] at hp
      exact hp
theorem x0_copyIn (h : CF B M S π A) {p q : Nat} (hp7 : p < 7) (hq7 : q < 7) (hpq : p ≠ q) {P : Mem → Prop} (hp : ∀ M', CF B M' S π (rowC A (24 + q) 4 (A (24 + p))) → P M') : wp_X0_copyFrom 278 M (S + 24 + q) (S + 24 + p) P := by
  have rd : ∀ {M1 : Mem} {n : Nat} (_ : CF B M1 S π (rowC A (24 + q) n (A (24 + p)))) (f : Nat), M1.1 (S + 24 + p) f = A (24 + p) f := fun h1 f => by rw [h1.Bi hp7, rowC_o (by omega)]
  have h0 := h
  rw [← rowC_0 (A := A) (r := 24 + q) (g := A (24 + p))] at h0
  refine ⟨h.tpB hp7, h.tpB hq7, fun M3 e3 M4 e4 M5 e5 M6 e6 => ?_⟩
  rw [rd h0] at e3
  have h3 := h0.uB hq7 e3
  rw [rowC_1] at h3
  rw [rd h3] at e4
  have h4 := h3.uB hq7 e4
  rw [rowC_1] at h4
  rw [rd h4] at e5
  have h5 := h4.uB hq7 e5
  rw [rowC_1] at h5
  rw [rd h5] at e6
  have h6 := h5.uB hq7 e6
  rw [rowC_1] at h6
  exact hp M6 h6
theorem hotA_lt {k p : Nat} (h : hotA A k = some p) : p < 6 := by
  unfold hotA at h
  have L : ∀ f i (x : Int32 × Option Nat), i + f = 6 → (∀ p, x.2 = some p → p < 6) → ∀ p, (foldN (hotG A k) f i x).2 = some p → p < 6 := by
    intro f
    induction f with
    | zero => intro i x _ hx p hp; exact hx p hp
    | succ f ih =>
      intro i x hi hx p hp
      refine ih (i + 1) _ (by omega) (fun q hq => ?_) p hp
      unfold hotG at hq
      split at hq
      · cases hq; omega
      · exact hx q hq
  exact L 6 0 _ rfl (fun q hq => by cases hq) p h
theorem x_loadPress (h : CF B M S π A) (ok : okN A c) {P : Mem → Prop} (hp : ∀ M', CF B M' S π (aLoad A c) → P M') : wp_X5_loadPress 278 M S P := by
  have hc := ok.2.1
  refine ⟨c + 1, ?_⟩
  have L : ∀ f i, i + f = c → (∀ M', CF B M' S π (match fst9 (canLd A) f i with | none => A | some k => match hotA A k with | none => A | some p => mvB A 6 p) → P M') → wpL_X5_loadPress_2 278 P (f + 1) M S (nI i) := by
    intro f
    induction f with
    | zero =>
      intro i hi hp
      exact ⟨h.tp0, fun _ => hp M h, fun k => absurd (cGe ((h.N 5).trans ok.1) rfl (by omega) (by omega)) k⟩
    | succ f ih =>
      intro i hi hp
      have hd := ok.d (k := i) (by omega)
      refine ⟨h.tp0, fun k => absurd k (cLt ((h.N 5).trans ok.1) rfl (by omega) (by omega)), fun _ => x_jobAt h (k := i) (by omega) rfl ⟨h.tpJ (by omega), fun e v hv => ?_, fun e => x_dieAt h hd.1 ((h.J (by omega) 1).trans hd.2) ⟨h.tpD hd.1, x_canForge h hd.1 ⟨fun e2 v hv => ?_, fun e2 => x_hottestReady h ok (k := i) (by omega) ⟨fun e3 v hv => ?_, fun j e3 => ?_⟩⟩⟩⟩⟩
      · rw [h.J (by omega)] at e
        rw [hv, nI_1]
        refine ih (i + 1) (by omega) ?_
        unfold fst9 at hp
        rwa [if_neg (by unfold canLd; simp [e])] at hp
      · rw [hv, nI_1]
        refine ih (i + 1) (by omega) ?_
        unfold fst9 at hp
        rwa [if_neg (by unfold canLd; simp [e2])] at hp
      · rw [hv, nI_1]
        refine ih (i + 1) (by omega) ?_
        unfold fst9 at hp
        have e4 : hotA A i = none := by
          cases q : hotA A i with
          | none => rfl
          | some p => rw [q] at e3; cases e3
        rwa [if_neg (by unfold canLd; simp [e4])] at hp
      · rw [h.J (by omega)] at e
        cases q : hotA A i with
        | none => rw [q] at e3; cases e3
        | some p =>
          rw [q] at e3
          cases e3
          have hp6 := hotA_lt q
          unfold fst9 at hp
          rw [if_pos (by unfold canLd; simp [e, e2, q])] at hp
          simp only [q] at hp
          refine ⟨S + 30, h.press, h.tpB6, x0_copyIn h (p := p) (q := 6) (by omega) (by omega) (by omega) fun M17 h17 => ⟨h.tpB (by omega), fun M21 e21 => hp M21 (h17.uB (by omega) e21)⟩⟩
  exact L c 0 (by omega) hp
theorem freeA_up {f : Nat} {v : Int32} : freeA (aU A 30 f v) = freeA A := fst9_congr fun j _ hj => by rw [up_r (by omega)]
theorem x_sendBack (h : CF B M S π A) (ok : okN A c) {k : Nat} (hk : k < c) {P : Mem → Prop} (hp : ∀ M', CF B M' S π (aBack A k) → P M') : wp_X5_sendBack 278 M S (S + 13 + π k) (S + 2 + hj A k) P := by
  have hc := ok.2.1
  have hh := ok.h hk
  have scr : ∀ M4, CF B M4 S π (heatUp A) → (∀ M', CF B M' S π (scrA (heatUp A) k) → P M') → m_tp 278 (S + 13 + π k) 3 ∧ (∀ M9 : Mem, M9 = uI M4 (S + 13 + π k) 7 ((M4.1 (S + 13 + π k) 7) - 1) → (m_tp 278 (S + 2 + hj A k) 2 ∧ (∀ M11 : Mem, M11 = uI M9 (S + 2 + hj A k) 4 ((M9.1 (S + 2 + hj A k) 4) + 1) → (∃ j12 : Nat, M11.2.1 S 4 = some j12 ∧ (m_tp 278 j12 0 ∧ (∀ M14 : Mem, M14 = uI M11 j12 0 (-1) → (P M14))))))) := by
    intro M4 h4 hp
    refine ⟨h4.tpJ (by omega), fun M9 e9 => ?_⟩
    rw [h4.J (by omega)] at e9
    have h9 := h4.uJ (by omega) e9
    refine ⟨h4.tpH hh.1, fun M11 e11 => ?_⟩
    rw [h9.H hh.1, up_r (by omega)] at e11
    have h11 := h9.uH hh.1 e11
    refine ⟨S + 30, h11.press, h11.tpB6, fun M14 e14 => hp M14 ?_⟩
    have h14 := h11.uB6 e14
    have ehj : hj (heatUp A) k = hj A k := by unfold hj heatUp; rw [up_r (by omega)]
    unfold scrA
    rw [ehj]
    exact h14
  refine ⟨h.tp0, S + 30, h.press, h.tpB6, fun M4 e4 => ?_⟩
  rw [h.B6] at e4
  have h4 : CF B M4 S π (heatUp A) := h.uB6 e4
  have ef : freeA (heatUp A) = freeA A := freeA_up
  refine x_freePlace h4 ⟨fun e => ?_, fun j e => ⟨S + 30, h4.press, h4.tpB6, fun e2 => ?_, fun e2 => ?_⟩⟩
  · rw [ef] at e
    cases q : freeA A with
    | some p => rw [q] at e; cases e
    | none =>
      unfold aBack at hp
      rw [q] at hp
      exact scr M4 h4 hp
  · rw [ef] at e
    cases q : freeA A with
    | none => rw [q] at e; cases e
    | some p =>
      rw [q] at e
      cases e
      have hp6 : p < 6 := by have := (fst9_some q).2.1; omega
      rw [h4.B6, h4.N] at e2
      unfold aBack at hp
      rw [q] at hp
      have e3 : A 30 2 + 1 ≤ A 0 9 := by
        unfold heatUp at e2
        rwa [up_s, up_r (by omega)] at e2
      simp only [if_pos e3] at hp
      exact ⟨S + 30, h4.press, h4.tpB (by omega), x0_copyIn h4 (p := 6) (q := p) (by omega) (by omega) (by omega) fun M18 h18 => ⟨S + 30, h18.press, h18.tpB6, fun M23 e23 => hp M23 (h18.uB6 e23)⟩⟩
  · rw [ef] at e
    cases q : freeA A with
    | none => rw [q] at e; cases e
    | some p =>
      rw [h4.B6, h4.N] at e2
      unfold aBack at hp
      rw [q] at hp
      have e3 : ¬ A 30 2 + 1 ≤ A 0 9 := by
        unfold heatUp at e2
        rwa [up_s, up_r (by omega)] at e2
      simp only [if_neg e3] at hp
      exact scr M4 h4 hp
theorem x_countGone (h : CF B M S π A) {k : Nat} (hk : k < 10) {P : Mem → Prop} (hp : ∀ M', CF B M' S π (goneA A k) → P M') : wp_X5_countGone 278 M S (S + 13 + π k) P := by
  refine ⟨h.tp0, fun M2 e2 => ?_⟩
  rw [h.N] at e2
  have h2 := h.uN e2
  refine ⟨h2.tpJ hk, fun v hv => ?_⟩
  rw [h2.N, h2.J hk, up_f (by omega), up_r (by omega)] at hv
  have hv : v = lateV A k := hv
  subst hv
  refine ⟨fun e => hp M2 ?_, fun e M5 e5 M6 e6 => hp M6 ?_⟩
  · unfold goneA
    rw [if_pos e]
    exact h2
  · rw [h2.N, up_f (by omega)] at e5
    have h5 := h2.uN e5
    rw [h5.N, up_f (by omega), up_f (by omega)] at e6
    unfold goneA
    rw [if_neg e]
    exact h5.uN e6
theorem okN.hd {A' : Ab} {k : Nat} (e1 : A' (13 + k) 1 = A (13 + k) 1) (e2 : A' (13 + k) 2 = A (13 + k) 2) : hj A' k = hj A k ∧ dj A' k = dj A k := by
  unfold hj dj
  rw [e1, e2]
  exact ⟨rfl, rfl⟩
theorem x_workPress (h : CF B M S π A) (ok : okN A c) {k : Nat} (hk : k < c) {x : Int32} (hx : x = nI k) {P : Mem → Prop} (hp : ∀ M' π', CF B M' S π' (aWork A c k) → P M') : wp_X5_workPress 278 M S x P := by
  have hc := ok.2.1
  have hh := ok.h hk
  have hd := ok.d hk
  refine ⟨h.tp0, x_jobAt h (k := k) (by omega) hx ⟨h.tpJ (by omega), x_heatAt h hh.1 ((h.J (by omega) 2).trans hh.2) (x_dieAt h hd.1 ((h.J (by omega) 1).trans hd.2) ⟨h.tpD hd.1, x_canForge h hd.1 ⟨fun e => ?_, fun e => ⟨S + 30, h.press, h.tpB6, h.tpH hh.1, fun e2 => ⟨S + 30, h.press, h.tpB6, fun M19 e19 => ?_⟩, fun e2 => ?_⟩⟩⟩)⟩⟩
  · refine x_sendBack h ok hk fun M' h' => hp M' π ?_
    unfold aWork
    rw [if_neg (fun q => by rw [e] at q; exact absurd q.1 (by decide))]
    exact h'
  · rw [h.H hh.1, h.B6] at e2
    rw [h.D hd.1, h.H hh.1, h.B6] at e19
    have h19 := h.uD hd.1 e19
    refine ⟨S + 30, h19.press, S + 30, h19.press, h19.tpB6, h19.tpB6, fun M24 e24 => ?_⟩
    rw [h19.B6, h19.N, up_r (by omega), up_r (by omega)] at e24
    have h24 := h19.uB6 e24
    refine ⟨S + 30, h24.press, h24.tpB6, fun M27 e27 M28 e28 => ?_⟩
    rw [h24.B6, up_f (by omega), up_r (by omega)] at e27
    have h27 := h24.uB6 e27
    rw [h27.N, up_r (by omega), up_r (by omega), up_r (by omega)] at e28
    have h28 : CF B M28 S π (strikeA A k) := h27.uN e28
    have e303 : strikeA A k 30 3 = A 30 3 - 1 := by unfold strikeA; rw [up_r (by omega), up_s]
    have sJ : ∀ f, strikeA A k (13 + k) f = A (13 + k) f := fun f => by
      unfold strikeA
      rw [up_r (by omega), up_r (by omega), up_r (by omega), up_r (by omega)]
    have sjd := okN.hd (A := A) (A' := strikeA A k) (k := k) (sJ 1) (sJ 2)
    refine ⟨S + 30, h28.press, h28.tpB6, fun e3 => ⟨S + 30, h28.press, h28.tpB6, fun M33 e33 M34 e34 M35 e35 M36 e36 M37 e37 => ?_⟩, fun e3 => hp M28 π ?_⟩
    · rw [h28.B6, e303] at e3
      have h33 := h28.uB6 e33
      rw [h33.J (by omega), up_r (by omega)] at e34
      have h34 := h33.uJ (by omega) e34
      rw [h34.J (by omega), up_f (by omega), up_r (by omega)] at e35
      have h35 := h34.uJ (by omega) e35
      rw [h35.H hh.1, up_r (by omega), up_r (by omega), up_r (by omega)] at e36
      have h36 := h35.uH hh.1 e36
      rw [h36.D hd.1, up_r (by omega), up_r (by omega), up_r (by omega), up_r (by omega)] at e37
      have h37' := h36.uD hd.1 e37
      have h37 : CF B M37 S π (makeA (strikeA A k) k) := by
        unfold makeA
        rw [sjd.1, sjd.2]
        exact h37'
      have m4 : makeA (strikeA A k) k (13 + k) 4 = strikeA A k (13 + k) 4 + 1 := by
        unfold makeA
        rw [up_r (by rw [sjd.2]; omega), up_r (by rw [sjd.1]; omega), up_s]
      have m3 : makeA (strikeA A k) k (13 + k) 3 = strikeA A k (13 + k) 3 := by
        unfold makeA
        rw [up_r (by rw [sjd.2]; omega), up_r (by rw [sjd.1]; omega), up_f (by omega), up_f (by omega), up_r (by omega)]
      have ew : aWork A c k = aMade (strikeA A k) c k := by
        unfold aWork
        rw [if_pos ⟨e, e2⟩, if_pos e3]
      rw [ew] at hp
      unfold aMade at hp
      rw [h37.J (by omega), h37.J (by omega), m4, m3]
      refine ⟨fun e4 => hp M37 π ?_, fun e4 => x_countGone h37 (by omega) fun M38 h38 => ?_⟩
      · rw [if_pos e4]; exact h37
      · rw [if_neg e4] at hp
        refine x_removeJob (c := c) h38 ?_ hc hk hx fun M40 h40 _ => hp M40 _ h40
        have : ∀ A0 : Ab, goneA A0 k 0 5 = A0 0 5 := fun A0 => by
          unfold goneA
          split
          · rw [up_f (by omega)]
          · rw [up_f (by omega), up_f (by omega), up_f (by omega)]
        rw [this]
        unfold makeA strikeA
        rw [up_r (by omega), up_r (by omega), up_r (by omega), up_r (by omega), up_r (by omega), up_f (by omega), up_r (by omega), up_r (by omega), up_r (by omega)]
        exact ok.1
    · rw [h28.B6, e303] at e3
      unfold aWork
      rw [if_pos ⟨e, e2⟩, if_neg e3]
      exact h28
  · rw [h.H hh.1, h.B6] at e2
    refine x_sendBack h ok hk fun M' h' => hp M' π ?_
    unfold aWork
    rw [if_neg (fun q => e2 q.2)]
    exact h'
theorem x_tendW (h : CF B M S π A) {P : Mem → Prop} (hp : ∀ M', CF B M' S π (tendW A) → P M') : ∃ f, wpL_X5_tendDies_30 278 P f M S 0 := by
  refine ⟨6, ?_⟩
  have L : ∀ f i, i + f = 5 → (∀ M', CF B M' S π (match fst9 (fun d => !decide (A (7 + d) 2 < A (7 + d) 1)) f i with | none => A | some d => aU A (7 + d) 3 (A 0 10)) → P M') → wpL_X5_tendDies_30 278 P (f + 1) M S (nI i) := by
    intro f
    induction f with
    | zero =>
      intro i hi hp
      exact ⟨fun _ => hp M h, fun k => absurd (cGe (n := 5) rfl rfl (by omega) (by omega)) k⟩
    | succ f ih =>
      intro i hi hp
      refine ⟨fun k => absurd k (cLt (n := 5) rfl rfl (by omega) (by omega)), fun _ => ⟨h.tp0, x_dieAt h (i := i) (by omega) rfl ⟨h.tpD (by omega), x_isWornOut h (by omega) ⟨fun e v hv => ?_, fun e M11 e11 => ?_⟩⟩⟩⟩
      · rw [hv, nI_1]
        refine ih (i + 1) (by omega) ?_
        unfold fst9 at hp
        rwa [if_neg (by rw [e]; decide)] at hp
      · unfold fst9 at hp
        rw [if_pos e] at hp
        rw [h.N] at e11
        exact hp M11 (h.uD (by omega) e11)
  exact L 5 0 rfl hp
theorem x_tendDies (h : CF B M S π A) {P : Mem → Prop} (hp : ∀ M', CF B M' S π (aTend A) → P M') : wp_X5_tendDies 278 M S P := by
  refine ⟨h.tp0, x_dieBeingGround h ?_⟩
  unfold aTend at hp
  cases q : groundA A with
  | none =>
    rw [q] at hp
    exact ⟨fun _ => x_tendW h hp, fun e => absurd rfl e⟩
  | some d =>
    rw [q] at hp
    have hd : d < 5 := by have := (fst9_some q).2.1; omega
    have h0 : 0 < A (7 + d) 3 := by
      have := (fst9_some q).2.2.1
      simp only [Bool.not_eq_true', decide_eq_false_iff_not] at this
      exact Int32.not_le.mp this
    refine ⟨fun e => absurd e ?_, fun _ => x_dieAt h hd rfl ⟨h.tpD hd, h.tpD hd, fun M2 e2 => ?_⟩⟩
    · show ¬ nI d = -1
      intro e
      have := congrArg Int32.toInt e
      rw [nI_toInt (by omega)] at this
      have h1 : (-1 : Int32).toInt = -1 := by decide
      rw [h1] at this
      omega
    · rw [h.D hd] at e2
      have h2 := h.uD hd e2
      refine ⟨fun e => ?_, fun e M3 e3 M4 e4 M5 e5 => ?_⟩
      · rw [h2.D hd, up_s] at e
        have e' : ¬ A (7 + d) 3 - 1 ≤ 0 := Int32.not_le.mpr e
        simp only [if_neg e'] at hp
        have eg : grindA A d = aU A (7 + d) 3 (A (7 + d) 3 - 1) := by unfold grindA; rw [if_pos e]
        rw [eg] at hp
        refine x_isBeingGround h2 hd ⟨fun e6 => ?_, fun _ => hp M2 h2⟩
        rw [up_s] at e6
        simp [e'] at e6
      · rw [h2.D hd, up_s] at e
        have e' : A (7 + d) 3 - 1 ≤ 0 := Int32.not_lt.mp e
        simp only [if_pos e'] at hp
        have h3 := h2.uD hd e3
        rw [h3.D hd, up_f (by omega), up_f (by omega)] at e4
        have h4 := h3.uD hd e4
        rw [h4.D hd, up_f (by omega), up_f (by omega), up_f (by omega)] at e5
        have h5 := h4.uD hd e5
        have eg : grindA A d = aU (aU (aU (aU A (7 + d) 3 (A (7 + d) 3 - 1)) (7 + d) 2 0) (7 + d) 1 (if 10 < A (7 + d) 1 - 5 then A (7 + d) 1 - 5 else 10)) (7 + d) 5 (A (7 + d) 5 + 1) := by unfold grindA; rw [if_neg e]
        rw [← eg] at h5
        refine x_isBeingGround h5 hd ⟨fun _ => x_tendW h5 hp, fun e6 => ?_⟩
        rw [eg, up_f (by omega), up_f (by omega), up_f (by omega), up_s] at e6
        simp [e'] at e6
end MIN
/-- what a minute needs of a shop, and what it keeps -/
def okM (A : Ab) (c : Nat) : Prop := okN A c ∧ (A 30 0 = -1 ∨ ∃ k, k < c ∧ A (13 + k) 0 = A 30 0)
theorem okM.place {A : Ab} {c : Nat} (o : okM A c) (h : A 30 0 ≠ -1) : ∃ k, k < c ∧ placeA A c (A 30 0) = some k := by
  rcases o.2 with e | ⟨k, hk, e⟩
  · exact absurd e h
  · cases q : placeA A c (A 30 0) with
    | some j => exact ⟨j, by have := (fst9_some q).2.1; omega, rfl⟩
    | none =>
      have := fst9_none q k (by omega) (by omega)
      simp [e] at this
theorem aWarm_o {A : Ab} {n r f : Nat} (h : ¬ (24 ≤ r ∧ r < 24 + n ∧ f = 1)) : aWarm A n r f = A r f := by
  unfold aWarm
  rw [if_neg (fun q => h ⟨q.1, q.2.1, q.2.2.1⟩)]
theorem okN.congr {A A' : Ab} {c : Nat} (o : okN A c) (h0 : A' 0 5 = A 0 5) (hJ : ∀ k, k < c → ∀ f, f ≠ 7 → A' (13 + k) f = A (13 + k) f) : okN A' c := by
  refine ⟨h0.trans o.1, o.2.1, fun k hk => ?_⟩
  rw [hJ k hk 1 (by omega), hJ k hk 2 (by omega), hJ k hk 6 (by omega)]
  exact o.2.2 k hk
theorem okM.congr {A A' : Ab} {c : Nat} (o : okM A c) (h0 : A' 0 5 = A 0 5) (hJ : ∀ k, k < c → ∀ f, f ≠ 7 → A' (13 + k) f = A (13 + k) f) (hB : A' 30 0 = A 30 0) : okM A' c := by
  refine ⟨o.1.congr h0 hJ, ?_⟩
  rcases o.2 with e | ⟨k, hk, e⟩
  · exact Or.inl (hB.trans e)
  · exact Or.inr ⟨k, hk, by rw [hB, hJ k hk 0 (by omega)]; exact e⟩
theorem aCharge_o {A : Ab} {c r f : Nat} (hc : c ≤ 10) (h1 : ¬ (24 ≤ r ∧ r ≤ 29)) (h2 : ¬ (2 ≤ r ∧ r < 6 ∧ f = 0)) (h3 : ¬ (13 ≤ r ∧ r < 23 ∧ f = 7)) (ok : okN A c) : aCharge A c r f = A r f := by
  unfold aCharge
  cases q : freeA A with
  | none => rfl
  | some p =>
    have hp : p < 6 := by have := (fst9_some q).2.1; omega
    cases q2 : fst9 (canCh A) c 0 with
    | none => rfl
    | some k =>
      have hk : k < c := by have := (fst9_some q2).2.1; omega
      have hh := (ok.h hk).1
      show chargeAt A k p r f = A r f
      unfold chargeAt
      rw [up_o (by omega), up_o (by omega), up_o (by omega), up_o (by omega), up_o (by omega), up_o (by omega)]
theorem okM.tick {A : Ab} {c : Nat} (o : okM A c) : okM (aTick A) c := o.congr (up_f (by omega)) (fun k hk f _ => up_r (by omega)) (up_r (by omega))
theorem okM.warm {A : Ab} {c n : Nat} (o : okM A c) : okM (aWarm A n) c := o.congr (aWarm_o (by omega)) (fun k hk f _ => aWarm_o (by have := o.1.2.1; omega)) (aWarm_o (by omega))
theorem okM.charge {A : Ab} {c : Nat} (o : okM A c) : okM (aCharge A c) c := o.congr (aCharge_o o.1.2.1 (by omega) (by omega) (by omega) o.1) (fun k hk f hf => aCharge_o o.1.2.1 (by have := o.1.2.1; omega) (by omega) (by omega) o.1) (aCharge_o o.1.2.1 (by omega) (by omega) (by omega) o.1)
section MIN2
variable {B M M' : Mem} {S : Nat} {π : Nat → Nat} {A : Ab} {c : Nat}
theorem x_passMinute (h : CF B M S π A) (ok : okM A c) {P : Mem → Prop} (hp : ∀ M' π', CF B M' S π' (aMinute A) → P M') : wp_X5_passMinute 278 M S P := by
  have ecn : cnt A = c := ok.1.cn
  unfold aMinute at hp
  rw [ecn] at hp
  refine ⟨h.tp0, fun M2 e2 => ?_⟩
  rw [h.N] at e2
  have h2 : CF B M2 S π (aTick A) := h.uN e2
  refine x_warmFurnace h2 fun M3 h3 => x_chargeFurnace h3 ok.tick.warm.1 fun M5 h5 => ⟨S + 30, h5.press, h5.tpB6, fun e => ⟨S + 30, h5.press, h5.tpB6, ?_⟩, fun e => ?_⟩
  · have ok5 := (ok.tick.warm (n := 6)).charge
    rw [h5.B6] at e ⊢
    obtain ⟨k, hk, ek⟩ := ok5.place e
    refine x_placeOf h5 ok5.1 ?_
    rw [ek]
    refine x_workPress h5 ok5.1 hk rfl fun M13 π' h13 => ?_
    refine x_tendDies h13 fun M15 h15 => hp M15 π' ?_
    unfold aPress
    rw [if_neg e, ek]
    exact h15
  · rw [h5.B6] at e
    refine x_loadPress h5 ok.tick.warm.charge.1 fun M17 h17 => x_tendDies h17 fun M19 h19 => hp M19 π ?_
    unfold aPress
    rw [if_pos e]
    exact h19
end MIN2
