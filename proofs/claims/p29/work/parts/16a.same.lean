/-! Nothing looks at what is not there. -/
def vis (c r f : Nat) : Prop := (r = 0 ∧ 5 ≤ f ∧ f < 16) ∨ (2 ≤ r ∧ r < 6 ∧ f < 5) ∨ (7 ≤ r ∧ r < 12 ∧ f < 6) ∨ (13 ≤ r ∧ r < 13 + c ∧ f < 8) ∨ (24 ≤ r ∧ r < 31 ∧ f < 4)
def Cq (E A : Ab) (c : Nat) : Prop := ∀ r f, vis c r f → E r f = A r f
theorem Cp.cq {E A : Ab} {c : Nat} (h : Cp E A c) : Cq E A c := fun r f v => by
  rcases v with ⟨rfl, h1, h2⟩ | ⟨h1, h2, h3⟩ | ⟨h1, h2, h3⟩ | ⟨h1, h2, h3⟩ | ⟨h1, h2, h3⟩
  · exact h.1 f h1 h2
  · have := h.2.1 (r - 2) (by omega) f h3
    rwa [show 2 + (r - 2) = r by omega] at this
  · have := h.2.2.1 (r - 7) (by omega) f h3
    rwa [show 7 + (r - 7) = r by omega] at this
  · have := h.2.2.2.1 (r - 13) (by omega) f h3
    rwa [show 13 + (r - 13) = r by omega] at this
  · have := h.2.2.2.2 (r - 24) (by omega) f h3
    rwa [show 24 + (r - 24) = r by omega] at this
section CQ
variable {E A : Ab} {c k N T : Nat}
theorem Cq.tr {G : Ab} (h : Cq E A c) (h' : Cq A G c) : Cq E G c := fun r f v => (h r f v).trans (h' r f v)
theorem Cq.sy (h : Cq E A c) : Cq A E c := fun r f v => (h r f v).symm
theorem Cq.le (h : Cq E A c) {c' : Nat} (hc : c' ≤ c) : Cq E A c' := fun r f v => h r f (by unfold vis at *; omega)
theorem Cq.n (h : Cq E A c) {f : Nat} (h1 : 5 ≤ f) (h2 : f < 16) : E 0 f = A 0 f := h 0 f (Or.inl ⟨rfl, h1, h2⟩)
theorem Cq.h (h : Cq E A c) {i f : Nat} (hi : i < 4) (hf : f < 5) : E (2 + i) f = A (2 + i) f := h _ f (by unfold vis; omega)
theorem Cq.d (h : Cq E A c) {i f : Nat} (hi : i < 5) (hf : f < 6) : E (7 + i) f = A (7 + i) f := h _ f (by unfold vis; omega)
theorem Cq.j (h : Cq E A c) {i f : Nat} (hi : i < c) (hf : f < 8) (h6 : f < 9) : E (13 + i) f = A (13 + i) f := h _ f (by unfold vis; omega)
theorem Cq.b (h : Cq E A c) {i f : Nat} (hi : i < 7) (hf : f < 4) : E (24 + i) f = A (24 + i) f := h _ f (by unfold vis; omega)
theorem Cq.b6 (h : Cq E A c) {f : Nat} (hf : f < 4) : E 30 f = A 30 f := h _ f (by unfold vis; omega)
theorem Cq.up (h : Cq E A c) {r f : Nat} {v v' : Int32} (hv : v = v') : Cq (aU E r f v) (aU A r f v') c := fun r' f' w => by
  subst hv
  by_cases q : r' = r ∧ f' = f
  · rw [q.1, q.2, up_s, up_s]
  · rw [up_o q, up_o q]; exact h r' f' w
theorem Cq.ehj (h : Cq E A c) (hk : k < c) : hj E k = hj A k := by
  show (E (13 + k) 2).toNatClampNeg = (A (13 + k) 2).toNatClampNeg
  rw [h.j hk (by omega) (by omega)]
theorem Cq.edj (h : Cq E A c) (hk : k < c) : dj E k = dj A k := by
  show (E (13 + k) 1).toNatClampNeg = (A (13 + k) 1).toNatClampNeg
  rw [h.j hk (by omega) (by omega)]
theorem Cq.cn (h : Cq E A c) : cnt E = cnt A := by unfold cnt; rw [h.n (by omega) (by omega)]
theorem Cq.place (h : Cq E A c) {x : Int32} : placeA E c x = placeA A c x := fst9_congr fun j _ hj => by rw [h.j (by omega) (by omega) (by omega)]
theorem Cq.free (h : Cq E A c) : freeA E = freeA A := fst9_congr fun j _ hj => by rw [h.b (by omega) (by omega)]
theorem Cq.ground (h : Cq E A c) : groundA E = groundA A := fst9_congr fun j _ hj => by rw [h.d (by omega) (by omega)]
theorem Cq.worn (h : Cq E A c) : wornA E = wornA A := fst9_congr fun j _ hj => by rw [h.d (by omega) (by omega), h.d (by omega) (by omega)]
theorem Cq.okd {d : Nat} (h : Cq E A c) (hd : d < 5) : okDie E d = okDie A d := by unfold okDie; rw [h.d hd (by omega), h.d hd (by omega), h.d hd (by omega)]
theorem Cq.hot (h : Cq E A c) (hk : k < c) (hh : hj A k < 4) : hotA E k = hotA A k := by
  unfold hotA
  rw [h.ehj hk, h.h hh (by omega)]
  congr 1
  exact foldN_congr fun j _ hj => funext fun a => by unfold hotG; rw [h.b (by omega) (by omega), h.b (by omega) (by omega), h.j hk (by omega) (by omega)]
theorem Cq.lack (h : Cq E A c) (hk : k < c) : lackA E k = lackA A k := by unfold lackA; rw [h.j hk (by omega) (by omega), h.j hk (by omega) (by omega), h.j hk (by omega) (by omega)]
theorem Cq.made (h : Cq E A c) : madeA E = madeA A := foldN_congr fun j _ hj => funext fun a => by rw [h.h (by omega) (by omega)]
theorem Cq.tick (h : Cq E A c) : Cq (aTick E) (aTick A) c := h.up (by rw [h.n (by omega) (by omega)])
theorem Cq.warm (h : Cq E A c) : Cq (aWarm E 6) (aWarm A 6) c := fun r f v => by
  unfold aWarm
  by_cases q : 24 ≤ r ∧ r < 24 + 6 ∧ f = 1
  · have e0 : E r 0 = A r 0 := h r 0 (by unfold vis; omega)
    have e1 : E r 1 = A r 1 := h r 1 (by unfold vis; omega)
    unfold warmV
    rw [e0, e1, h.n (by omega) (by omega), h r f v]
  · rw [if_neg (fun z => q ⟨z.1, z.2.1, z.2.2.1⟩), if_neg (fun z => q ⟨z.1, z.2.1, z.2.2.1⟩)]
    exact h r f v
theorem Cq.charge (h : Cq E A c) (ok : okN A c) : Cq (aCharge E c) (aCharge A c) c := by
  unfold aCharge
  rw [h.free, show fst9 (canCh E) c 0 = fst9 (canCh A) c 0 from fst9_congr fun j _ hj => by
    have hj : j < c := by omega
    unfold canCh
    rw [h.ehj hj, h.h (ok.h hj).1 (by omega), h.lack hj]]
  cases freeA A with
  | none => exact h
  | some p =>
    cases q : fst9 (canCh A) c 0 with
    | none => exact h
    | some k =>
      have hk : k < c := by have := (fst9_some q).2.1; omega
      show Cq (chargeAt E k p) (chargeAt A k p) c
      unfold chargeAt
      rw [h.ehj hk, h.edj hk]
      exact (((((h.up (by rw [h.h (ok.h hk).1 (by omega)])).up (by rw [h.j hk (by omega) (by omega)])).up (h.j hk (by omega) (by omega))).up rfl).up rfl).up (h.d (ok.d hk).1 (by omega))
theorem Cq.mv (h : Cq E A c) {q p : Nat} (hp : p < 7) : Cq (mvB E q p) (mvB A q p) c := by
  unfold mvB
  refine Cq.up (fun r f v => ?_) rfl
  by_cases z : r = 24 + q ∧ f < 4
  · rw [z.1, rowC_s z.2, rowC_s z.2]; exact h.b hp z.2
  · unfold rowC
    rw [if_neg z, if_neg z]; exact h r f v
theorem Cq.load (h : Cq E A c) (ok : okN A c) : Cq (aLoad E c) (aLoad A c) c := by
  unfold aLoad
  rw [show fst9 (canLd E) c 0 = fst9 (canLd A) c 0 from fst9_congr fun j _ hj => by
    have hj : j < c := by omega
    unfold canLd
    rw [h.j hj (by omega) (by omega), h.edj hj, h.okd (ok.d hj).1, h.hot hj (ok.h hj).1]]
  cases q : fst9 (canLd A) c 0 with
  | none => exact h
  | some k =>
    have hk : k < c := by have := (fst9_some q).2.1; omega
    show Cq (match hotA E k with | none => E | some p => mvB E 6 p) (match hotA A k with | none => A | some p => mvB A 6 p) c
    rw [h.hot hk (ok.h hk).1]
    cases q2 : hotA A k with
    | none => exact h
    | some p => exact h.mv (by have := hotA_lt q2; omega)
theorem Cq.scr (h : Cq E A c) (hk : k < c) (hh : hj A k < 4) : Cq (scrA E k) (scrA A k) c := by
  unfold scrA
  rw [h.ehj hk]
  exact ((h.up (by rw [h.j hk (by omega) (by omega)])).up (by rw [h.h hh (by omega)])).up rfl
end CQ
