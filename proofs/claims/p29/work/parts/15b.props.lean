/-! What is told of a heat, a die, a job, a billet, and of the shop: the class. -/
def heatV (A : Ab) (c i : Nat) (w : Int32) : Int32 := if w = 0 then A (2 + i) 0 else if w = 1 then A (2 + i) 1 else if w = 2 then A (2 + i) 2 else if w = 3 then bilOfA A c (nI i) else if w = 4 then A (2 + i) 3 else if w = 5 then A (2 + i) 4 else lackOfA A c (nI i)
def dieV (A : Ab) (d : Nat) (w : Int32) : Int32 := if w = 0 then A (7 + d) 0 else if w = 1 then A (7 + d) 1 else if w = 2 then A (7 + d) 2 else if w = 3 then A (7 + d) 3 else if w = 4 then A (7 + d) 4 else A (7 + d) 5
def bilV (A : Ab) (p : Nat) (w : Int32) : Int32 := if A (24 + p) 0 = -1 then -1 else if w = 0 then A (24 + p) 0 else if w = 1 then A (24 + p) 1 else if w = 2 then A (24 + p) 2 else A (24 + p) 3
def reasonV (A : Ab) (k : Nat) : Int32 := if A 30 0 = A (13 + k) 0 then 0 else if ¬ A (7 + dj A k) 3 ≤ 0 then 1 else if ¬ A (7 + dj A k) 2 < A (7 + dj A k) 1 then 2 else if A (13 + k) 7 = 0 ∧ A (2 + hj A k) 0 = 0 then 3 else if hotA A k = none then 4 else if A 30 0 = -1 then 6 else 5
def jobV (A : Ab) (k : Nat) (w : Int32) : Int32 := if w = 0 then A (13 + k) 0 else if w = 1 then A (13 + k) 1 else if w = 2 then A (13 + k) 2 else if w = 3 then A (13 + k) 3 else if w = 4 then A (13 + k) 4 else if w = 5 then A (13 + k) 5 else if w = 6 then A (13 + k) 6 else reasonV A k
def numV (A : Ab) (c : Nat) (s w : Int32) : Int32 := if w = 0 then A 0 11 else if w = 1 then A 0 5 else if w = 2 then rushA A c else if w = 3 then furnA A else if w = 4 then madeA A else if w = 5 then scrapA A else if w = 6 then A 0 12 else if w = 7 then A 0 13 else if w = 8 then A 0 14 else if w = 9 then A 0 15 else if w = 10 then oI (groundA A) else s
section PROPS
variable {B M : Mem} {S : Nat} {π : Nat → Nat} {A : Ab} {c : Nat}
theorem x_heatProperty (h : CF B M S π A) (ok : okN A c) {i : Nat} (hi : i < 4) {x w : Int32} (hx : x = nI i) {P : Int32 → Mem → Prop} (hp : P (heatV A c i w) M) : wp_X5_heatProperty 278 M S x w P := by
  refine ⟨h.tp0, x_heatAt h hi hx ?_⟩
  subst hx
  have ht := h.tpH hi
  unfold heatV at hp
  refine ⟨fun e => ⟨ht, ?_⟩, fun n0 => ⟨fun e => ⟨ht, ?_⟩, fun n1 => ⟨fun e => ⟨ht, ?_⟩, fun n2 => ⟨fun e => x_countBilletsOf h ok ?_, fun n3 => ⟨fun e => ⟨ht, ?_⟩, fun n4 => ⟨fun e => ⟨ht, ?_⟩, fun n5 => x_countLackOf h ok ?_⟩⟩⟩⟩⟩⟩
  · rw [h.H hi]; rwa [if_pos e] at hp
  · rw [h.H hi]; rwa [if_neg n0, if_pos e] at hp
  · rw [h.H hi]; rwa [if_neg n0, if_neg n1, if_pos e] at hp
  · rwa [if_neg n0, if_neg n1, if_neg n2, if_pos e] at hp
  · rw [h.H hi]; rwa [if_neg n0, if_neg n1, if_neg n2, if_neg n3, if_pos e] at hp
  · rw [h.H hi]; rwa [if_neg n0, if_neg n1, if_neg n2, if_neg n3, if_neg n4, if_pos e] at hp
  · rwa [if_neg n0, if_neg n1, if_neg n2, if_neg n3, if_neg n4, if_neg n5] at hp
theorem x1_property (h : CF B M S π A) {i : Nat} (hi : i < 5) {w : Int32} {P : Int32 → Mem → Prop} (hp : P (dieV A i w) M) : wp_X1_property 278 M (S + 7 + i) w P := by
  have ht := h.tpD hi
  unfold dieV at hp
  refine ⟨fun e => ⟨ht, ?_⟩, fun n0 => ⟨fun e => ⟨ht, ?_⟩, fun n1 => ⟨fun e => ⟨ht, ?_⟩, fun n2 => ⟨fun e => ⟨ht, ?_⟩, fun n3 => ⟨fun e => ⟨ht, ?_⟩, fun n4 => ⟨ht, ?_⟩⟩⟩⟩⟩⟩
  · rw [h.D hi]; rwa [if_pos e] at hp
  · rw [h.D hi]; rwa [if_neg n0, if_pos e] at hp
  · rw [h.D hi]; rwa [if_neg n0, if_neg n1, if_pos e] at hp
  · rw [h.D hi]; rwa [if_neg n0, if_neg n1, if_neg n2, if_pos e] at hp
  · rw [h.D hi]; rwa [if_neg n0, if_neg n1, if_neg n2, if_neg n3, if_pos e] at hp
  · rw [h.D hi]; rwa [if_neg n0, if_neg n1, if_neg n2, if_neg n3, if_neg n4] at hp
theorem x0_property (h : CF B M S π A) {i : Nat} (hi : i < 7) {w : Int32} {P : Int32 → Mem → Prop} (hp : P (bilV A i w) M) : wp_X0_property 278 M (S + 24 + i) w P := by
  refine ⟨h.tpB hi, fun e => ?_, fun e => ?_⟩
  · unfold bilV at hp
    rw [h.Bi hi] at e
    rw [if_neg e] at hp
    refine ⟨fun e => ?_, fun n0 => ⟨fun e => ?_, fun n1 => ⟨fun e => ?_, fun n2 => ?_⟩⟩⟩
    · rw [h.Bi hi]; rwa [if_pos e] at hp
    · rw [h.Bi hi]; rwa [if_neg n0, if_pos e] at hp
    · rw [h.Bi hi]; rwa [if_neg n0, if_neg n1, if_pos e] at hp
    · rw [h.Bi hi]; rwa [if_neg n0, if_neg n1, if_neg n2] at hp
  · unfold bilV at hp
    rw [h.Bi hi] at e
    rwa [if_pos e] at hp
theorem x_reasonToWait (h : CF B M S π A) (ok : okN A c) {k : Nat} (hk : k < c) {P : Int32 → Mem → Prop} (hp : P (reasonV A k) M) : wp_X5_reasonToWait 278 M S (S + 13 + π k) P := by
  have hc := ok.2.1
  have hk10 : k < 10 := by omega
  have hd := ok.d hk
  have hh := ok.h hk
  refine ⟨h.tpJ hk10, h.tp0, x_dieAt h hd.1 (by rw [h.J hk10]; exact hd.2) ⟨S + 30, h.press, h.tpB6, fun e => ⟨h.tpD hd.1, ?_⟩, fun e => ?_⟩⟩
  · rw [h.B6, h.J hk10] at e
    unfold reasonV at hp
    rw [if_neg e] at hp
    refine x_isBeingGround h hd.1 ⟨fun z => x_isWornOut h hd.1 ⟨fun z2 => ?_, fun z2 => ?_⟩, fun z => ?_⟩
    · have g0 : A (7 + dj A k) 3 ≤ 0 := by simpa using z
      have g1 : A (7 + dj A k) 2 < A (7 + dj A k) 1 := by simpa using z2
      rw [if_neg (fun q => q g0), if_neg (fun q => q g1)] at hp
      have fin : ¬ (A (13 + k) 7 = 0 ∧ A (2 + hj A k) 0 = 0) → wp_X5_hottestReady 278 M S (S + 13 + π k) (fun o13 M12 => ((o13 = none → P 4 M12) ∧ (∀ j14 : Nat, o13 = some j14 → ∃ j15 : Nat, M12.2.1 S 4 = some j15 ∧ (m_tp 278 j15 0 ∧ (P (if (M12.1 j15 0) = (-1) then 6 else 5) M12))))) := fun q => by
        rw [if_neg q] at hp
        refine x_hottestReady h ok hk ⟨fun y => ?_, fun j y => ⟨S + 30, h.press, h.tpB6, ?_⟩⟩
        · cases q2 : hotA A k with
          | none => rwa [if_pos q2] at hp
          | some p => rw [q2] at y; cases y
        · cases q2 : hotA A k with
          | none => rw [q2] at y; cases y
          | some p =>
            rw [if_neg (by rw [q2]; simp)] at hp
            rw [h.B6]; exact hp
      refine ⟨fun y => fin fun q => y ((h.J hk10 7).trans q.1), fun y => ?_⟩
      rw [h.J hk10] at y
      refine x_heatAt h hh.1 (by rw [h.J hk10]; exact hh.2) ⟨h.tpH hh.1, fun y2 => fin fun q => y2 ((h.H hh.1 0).trans q.2), fun y2 => ?_⟩
      rw [h.H hh.1] at y2
      rwa [if_pos ⟨y, y2⟩] at hp
    · have g0 : A (7 + dj A k) 3 ≤ 0 := by simpa using z
      have g1 : ¬ A (7 + dj A k) 2 < A (7 + dj A k) 1 := by simpa using z2
      rwa [if_neg (fun q => q g0), if_pos g1] at hp
    · have g0 : ¬ A (7 + dj A k) 3 ≤ 0 := by simpa using z
      rwa [if_pos g0] at hp
  · rw [h.B6, h.J hk10] at e
    unfold reasonV at hp
    rwa [if_pos e] at hp
theorem x_jobProperty (h : CF B M S π A) (ok : okN A c) {k : Nat} (hk : k < c) {x w : Int32} (hx : x = nI k) {P : Int32 → Mem → Prop} (hp : P (jobV A k w) M) : wp_X5_jobProperty 278 M S x w P := by
  have hc := ok.2.1
  have hk10 : k < 10 := by omega
  have ht := h.tpJ hk10
  refine ⟨h.tp0, x_jobAt h hk10 hx ?_⟩
  unfold jobV at hp
  refine ⟨fun e => ⟨ht, ?_⟩, fun n0 => ⟨fun e => ⟨ht, ?_⟩, fun n1 => ⟨fun e => ⟨ht, ?_⟩, fun n2 => ⟨fun e => ⟨ht, ?_⟩, fun n3 => ⟨fun e => ⟨ht, ?_⟩, fun n4 => ⟨fun e => ⟨ht, ?_⟩, fun n5 => ⟨fun e => ⟨ht, ?_⟩, fun n6 => x_reasonToWait h ok hk ?_⟩⟩⟩⟩⟩⟩⟩
  · rw [h.J hk10]; rwa [if_pos e] at hp
  · rw [h.J hk10]; rwa [if_neg n0, if_pos e] at hp
  · rw [h.J hk10]; rwa [if_neg n0, if_neg n1, if_pos e] at hp
  · rw [h.J hk10]; rwa [if_neg n0, if_neg n1, if_neg n2, if_pos e] at hp
  · rw [h.J hk10]; rwa [if_neg n0, if_neg n1, if_neg n2, if_neg n3, if_pos e] at hp
  · rw [h.J hk10]; rwa [if_neg n0, if_neg n1, if_neg n2, if_neg n3, if_neg n4, if_pos e] at hp
  · rw [h.J hk10]
    rw [if_neg n0, if_neg n1, if_neg n2, if_neg n3, if_neg n4, if_neg n5, if_pos e] at hp
    have : bI (if (A (13 + k) 6 != 0) = false then false else true) = A (13 + k) 6 := by
      rcases (ok.2.2 k hk).2.2 with q | q <;> rw [q] <;> decide
    rw [this]; exact hp
  · rwa [if_neg n0, if_neg n1, if_neg n2, if_neg n3, if_neg n4, if_neg n5, if_neg n6] at hp
theorem x_numberOf (h : CF B M 1 π A) (ok : okN A c) (h0 : M.2.1 0 0 = some 1) {w : Int32} {P : Int32 → Mem → Prop} (hp : P (numV A c (M.1 0 3) w) M) : wp_X6_numberOf 278 M 0 w P := by
  have t6 : m_tp 278 0 6 := ⟨by decide, by decide⟩
  have t5 : m_tp 278 1 5 := h.tp0
  unfold numV at hp
  refine ⟨fun e => ⟨t6, 1, h0, t5, ?_⟩, fun n0 => ⟨fun e => ⟨t6, 1, h0, t5, ?_⟩, fun n1 => ⟨fun e => ⟨t6, 1, h0, t5, x_countRushJobs h ok ?_⟩, fun n2 => ⟨fun e => ⟨t6, 1, h0, t5, x_countInFurnace h ?_⟩, fun n3 => ⟨fun e => ⟨t6, 1, h0, t5, x_countMade h ?_⟩, fun n4 => ⟨fun e => ⟨t6, 1, h0, t5, x_countScrap h ?_⟩, fun n5 => ⟨fun e => ⟨t6, 1, h0, t5, ?_⟩, fun n6 => ⟨fun e => ⟨t6, 1, h0, t5, ?_⟩, fun n7 => ⟨fun e => ⟨t6, 1, h0, t5, ?_⟩, fun n8 => ⟨fun e => ⟨t6, 1, h0, t5, ?_⟩, fun n9 => ⟨fun e => ⟨t6, 1, h0, t5, x_dieBeingGround h ?_⟩, fun n10 => ⟨t6, ?_⟩⟩⟩⟩⟩⟩⟩⟩⟩⟩⟩⟩
  · rw [h.N]; rwa [if_pos e] at hp
  · rw [h.N]; rwa [if_neg n0, if_pos e] at hp
  · rwa [if_neg n0, if_neg n1, if_pos e] at hp
  · rwa [if_neg n0, if_neg n1, if_neg n2, if_pos e] at hp
  · rwa [if_neg n0, if_neg n1, if_neg n2, if_neg n3, if_pos e] at hp
  · rwa [if_neg n0, if_neg n1, if_neg n2, if_neg n3, if_neg n4, if_pos e] at hp
  · rw [h.N]; rwa [if_neg n0, if_neg n1, if_neg n2, if_neg n3, if_neg n4, if_neg n5, if_pos e] at hp
  · rw [h.N]; rwa [if_neg n0, if_neg n1, if_neg n2, if_neg n3, if_neg n4, if_neg n5, if_neg n6, if_pos e] at hp
  · rw [h.N]; rwa [if_neg n0, if_neg n1, if_neg n2, if_neg n3, if_neg n4, if_neg n5, if_neg n6, if_neg n7, if_pos e] at hp
  · rw [h.N]; rwa [if_neg n0, if_neg n1, if_neg n2, if_neg n3, if_neg n4, if_neg n5, if_neg n6, if_neg n7, if_neg n8, if_pos e] at hp
  · rwa [if_neg n0, if_neg n1, if_neg n2, if_neg n3, if_neg n4, if_neg n5, if_neg n6, if_neg n7, if_neg n8, if_neg n9, if_pos e] at hp
  · rwa [if_neg n0, if_neg n1, if_neg n2, if_neg n3, if_neg n4, if_neg n5, if_neg n6, if_neg n7, if_neg n8, if_neg n9, if_neg n10] at hp
end PROPS
