/-! A job comes. -/
def addQ (A : Ab) (c : Nat) (d g p u : Int32) (z : Bool) (q : Nat) : Ab := rowsP (addA A c d g p u z) (mv c q)
section ADD
variable {A : Ab} {c N T q : Nat} {d g p u : Int32} {z : Bool}
theorem add_r {r : Nat} (h0 : r ≠ 0) (hc : r ≠ 13 + c) : addA A c d g p u z r = A r := by
  funext f
  unfold addA
  rw [up_r h0, up_r h0, up_r hc, up_r hc, up_r hc, up_r hc, up_r hc, up_r hc, up_r hc, up_r hc]
theorem add_5 : addA A c d g p u z 0 5 = nI (c + 1) := up_s
theorem add_6 : addA A c d g p u z 0 6 = A 0 6 + 1 := by
  unfold addA
  rw [up_f (by omega), up_s]
theorem add_0 {f : Nat} (h5 : f ≠ 5) (h6 : f ≠ 6) : addA A c d g p u z 0 f = A 0 f := by
  unfold addA
  rw [up_f h5, up_f h6, up_r (by omega), up_r (by omega), up_r (by omega), up_r (by omega), up_r (by omega), up_r (by omega), up_r (by omega), up_r (by omega)]
theorem add_c : addA A c d g p u z (13 + c) 0 = A 0 6 ∧ addA A c d g p u z (13 + c) 1 = d ∧ addA A c d g p u z (13 + c) 2 = g ∧ addA A c d g p u z (13 + c) 3 = p ∧ addA A c d g p u z (13 + c) 4 = 0 ∧ addA A c d g p u z (13 + c) 5 = u ∧ addA A c d g p u z (13 + c) 6 = bI z ∧ addA A c d g p u z (13 + c) 7 = 0 := by
  unfold addA
  refine ⟨?_, ?_, ?_, ?_, ?_, ?_, ?_, ?_⟩
  · rw [up_r (by omega), up_r (by omega), up_f (by omega), up_f (by omega), up_f (by omega), up_f (by omega), up_f (by omega), up_f (by omega), up_f (by omega), up_s]
  · rw [up_r (by omega), up_r (by omega), up_f (by omega), up_f (by omega), up_f (by omega), up_f (by omega), up_f (by omega), up_f (by omega), up_s]
  · rw [up_r (by omega), up_r (by omega), up_f (by omega), up_f (by omega), up_f (by omega), up_f (by omega), up_f (by omega), up_s]
  · rw [up_r (by omega), up_r (by omega), up_f (by omega), up_f (by omega), up_f (by omega), up_f (by omega), up_s]
  · rw [up_r (by omega), up_r (by omega), up_f (by omega), up_f (by omega), up_f (by omega), up_s]
  · rw [up_r (by omega), up_r (by omega), up_f (by omega), up_f (by omega), up_s]
  · rw [up_r (by omega), up_r (by omega), up_f (by omega), up_s]
  · rw [up_r (by omega), up_r (by omega), up_s]
theorem Iv.new (h : Iv A c N T) {k : Nat} (hk : k < c) : A (13 + k) 0 ≠ A 0 6 := by
  obtain ⟨m, e, hm⟩ := h.1.2.2.1 k hk
  rw [e, h.1.2.2.2.1]
  intro w
  have hN := h.1.2.2.2.2.1
  have := (nI_eq (by omega) (by omega)).mp w
  omega
theorem Iv.add (h : Iv A c N T) (hc : c < 10) (hN : N + 1 < 1000000) {dn gn pn un : Nat} (hd : d = nI dn) (hd5 : dn < 5) (hg : g = nI gn) (hg4 : gn < 4) (hp : p = nI pn) (hp1 : 1 ≤ pn) (hp2 : pn ≤ 40) (hu : u = nI un) (hu2 : un ≤ 9999) (hq : q < c + 1) (hs : srt (addQ A c d g p u z q) (c + 1)) : Iv (addQ A c d g p u z q) (c + 1) (N + 1) T := by
  have hnew := fun k (hk : k < c) => h.new hk
  obtain ⟨j1, j3, j4, j5, j6, j7, e, l, b, di, s, t⟩ := h.un
  obtain ⟨c0, c1, c2, c3, c4, c5, c6, c7⟩ := add_c (A := A) (c := c) (d := d) (g := g) (p := p) (u := u) (z := z)
  have o : ∀ r, r ≠ 0 → r ≠ 13 + c → addA A c d g p u z r = A r := fun r h1 h2 => add_r h1 h2
  have J : ∀ k, k < c → addA A c d g p u z (13 + k) = A (13 + k) := fun k hk => o _ (by omega) (by omega)
  have nb : ∀ r, r < 7 → A (24 + r) 0 ≠ A 0 6 := fun r hr w => by
    rcases b.1 r hr with y | ⟨⟨k, hk, y⟩, _⟩
    · rw [y, j4] at w
      exact nI_n1 (by omega) w.symm
    · exact hnew k hk (by rw [← y]; exact w)
  have cb : ∀ k, k < c → bc (addA A c d g p u z) k = bc A k := fun k hk => by
    unfold bc bcF
    rw [J k hk]
    exact cntN_congr fun r hr => by
      show decide (addA A c d g p u z (24 + r) 0 = _) = decide (A (24 + r) 0 = _)
      rw [o _ (by omega) (by omega)]
  have cc : bc (addA A c d g p u z) c = 0 := by
    unfold bc bcF
    rw [c0]
    refine cntN_false fun r hr => decide_eq_false fun w => ?_
    have w : addA A c d g p u z (24 + r) 0 = A 0 6 := w
    rw [o _ (by omega) (by omega)] at w
    exact nb r hr w
  have key : iU (addA A c d g p u z) (c + 1) (N + 1) T := by
    refine ⟨⟨add_5, by omega, fun k hk => ?_⟩, fun k hk => ?_, by rw [add_6, j4, nI_1], hN, fun k k' hk hk' w => ?_, fun k hk => ?_, fun k hk => ?_, fun k hk => ?_, ⟨fun r hr => ?_, fun r hr => ?_⟩, ⟨fun i hi => ?_, fun i i' hi hi' x1 x2 => ?_⟩, ?_, fun i hi => ?_⟩
    · by_cases w : k = c
      · subst w
        rw [c1, c2, c6]
        exact ⟨⟨dn, hd5, hd⟩, ⟨gn, hg4, hg⟩, by cases z <;> simp [bI]⟩
      · rw [J k (by omega)]; exact j1.2.2 k (by omega)
    · by_cases w : k = c
      · subst w
        exact ⟨N, by rw [c0]; exact j4, by omega⟩
      · rw [J k (by omega)]
        obtain ⟨m, e1, e2⟩ := j3 k (by omega)
        exact ⟨m, e1, by omega⟩
    · by_cases w1 : k = c
      · by_cases w2 : k' = c
        · omega
        · rw [w1, c0, J k' (by omega)] at w
          exact absurd w.symm (hnew k' (by omega))
      · by_cases w2 : k' = c
        · rw [w2, c0, J k (by omega)] at w
          exact absurd w (hnew k (by omega))
        · rw [J k (by omega), J k' (by omega)] at w
          exact j6 k k' (by omega) (by omega) w
    · by_cases w : k = c
      · subst w
        exact ⟨pn, 0, un, by rw [c3]; exact hp, by rw [c4]; rfl, by rw [c5]; exact hu, by omega, hp2, hu2⟩
      · rw [J k (by omega)]; exact j7 k (by omega)
    · show addA A c d g p u z (13 + k) 7 = nI (bc (addA A c d g p u z) k)
      by_cases w : k = c
      · subst w
        rw [c7, cc]; rfl
      · rw [J k (by omega), cb k (by omega)]; exact e.bc (by omega)
    · by_cases w : k = c
      · subst w
        exact ⟨pn, 0, by rw [c3]; exact hp, by rw [c4]; rfl, hp2, by rw [cc]; omega⟩
      · obtain ⟨p', m, f1, f2, f3, f4⟩ := l k (by omega)
        exact ⟨p', m, by rw [J k (by omega)]; exact f1, by rw [J k (by omega)]; exact f2, f3, by rw [cb k (by omega)]; exact f4⟩
    · rw [o _ (by omega) (by omega)]
      rcases b.1 r hr with y | ⟨⟨k, hk, y⟩, w⟩
      · exact Or.inl y
      · exact Or.inr ⟨⟨k, by omega, by rw [J k hk]; exact y⟩, w⟩
    · rw [o _ (by omega) (by omega)]; exact b.2 r hr
    · rw [o _ (by omega) (by omega)]; exact di.1 i hi
    · rw [o _ (by omega) (by omega)] at x1 x2
      exact di.2 i i' hi hi' x1 x2
    · unfold iS
      rw [add_0 (by omega) (by omega), add_0 (by omega) (by omega), add_0 (by omega) (by omega), add_0 (by omega) (by omega)]; exact s
    · rw [o _ (by omega) (by omega)]; exact t i hi
  exact (key.moved (k := c) (p := q) (by omega) hq).iv hs
theorem addQ_0 {f : Nat} (h5 : f ≠ 5) (h6 : f ≠ 6) : addQ A c d g p u z q 0 f = A 0 f := by
  unfold addQ
  rw [rowsP_o (by omega), add_0 h5 h6]
theorem addQ_cnt (hc : c < 10) : cnt (addQ A c d g p u z q) = c + 1 := by
  unfold cnt addQ
  rw [rowsP_o (by omega), add_5, nI_clamp (by omega)]
theorem addQ_6 : addQ A c d g p u z q 0 6 = A 0 6 + 1 := by
  unfold addQ
  rw [rowsP_o (by omega), add_6]
/-- the picture behind the coming of a job -/
theorem Rel.came {m : Int32} {ι : Nat → Nat} {σ σ' : Nat → Int32} (h : Rel A c m ι σ) (hI : Iv A c N T) (hc : c < 10) (h5 : σ' 5 = nI (c + 1)) (h6 : σ' 6 = A 0 6 + 1) (hr : ∀ f, f < 7 → σ' (60 + 7 * c + f) = addA A c d g p u z (13 + c) f) (ho : ∀ i, i ≠ 5 → i ≠ 6 → ¬ (60 + 7 * c ≤ i ∧ i < 67 + 7 * c) → σ' i = σ i) : Rel (addA A c d g p u z) (c + 1) m (fun k => if k = c then c else ι k) σ' := by
  obtain ⟨⟨a1, a2, a3, a4, a5, a6, a7⟩, hG, hH, hD, ⟨⟨b1, b2, b3⟩, hJ, hO⟩, hP⟩ := h
  obtain ⟨c0, _⟩ := add_c (A := A) (c := c) (d := d) (g := g) (p := p) (u := u) (z := z)
  have o : ∀ r, r ≠ 0 → r ≠ 13 + c → addA A c d g p u z r = A r := fun r h1 h2 => add_r h1 h2
  refine ⟨⟨fun i hi => ?_, ?_, ?_, ?_, ?_, ?_, fun i hi => ?_⟩, hG.congr (fun i _ hi => ho i (by omega) (by omega) (by omega)) (fun e he => by rw [o _ (by omega) (by omega)]), hH.congr (fun i _ hi => ho i (by omega) (by omega) (by omega)) (fun i hi f _ => by rw [o _ (by omega) (by omega)]), hD.congr (fun i _ hi => ho i (by omega) (by omega) (by omega)) (fun e he f _ => by rw [o _ (by omega) (by omega)]), ⟨⟨fun k hk => ?_, fun k l hk hl e => ?_, fun i hi => ?_⟩, fun k hk f hf => ?_, fun k l hk hl => ?_⟩, hP.congr (fun i _ hi => ho i (by omega) (by omega) (by omega)) (fun r hr f _ => by rw [o _ (by omega) (by omega)])⟩
  · rw [ho i (by omega) (by omega) (by omega), add_0 (by omega) (by omega)]; exact a1 i hi
  · rw [ho 4 (by omega) (by omega) (by omega)]; exact a2
  · rw [h5, add_5]
  · rw [h6, add_6]
  · rw [ho 7 (by omega) (by omega) (by omega), madeA_congr (A := A) (fun i hi => by rw [o _ (by omega) (by omega)])]; exact a5
  · rw [ho 8 (by omega) (by omega) (by omega), scrapA_congr (A := A) (fun i hi => by rw [o _ (by omega) (by omega)])]; exact a6
  · rw [ho (9 + i) (by omega) (by omega) (by omega), add_0 (by omega) (by omega)]; exact a7 i hi
  · show (if k = c then c else ι k) < c + 1
    split
    · omega
    · have := b1 k (by omega); omega
  · have e : (if k = c then c else ι k) = (if l = c then c else ι l) := e
    by_cases w1 : k = c
    · by_cases w2 : l = c
      · omega
      · rw [if_pos w1, if_neg w2] at e
        have := b1 l (by omega)
        omega
    · by_cases w2 : l = c
      · rw [if_neg w1, if_pos w2] at e
        have := b1 k (by omega)
        omega
      · rw [if_neg w1, if_neg w2] at e
        exact b2 k l (by omega) (by omega) e
  · by_cases w : i = c
    · exact ⟨c, by omega, by show (if c = c then c else ι c) = i; rw [if_pos rfl]; omega⟩
    · obtain ⟨k, hk, ek⟩ := b3 i (by omega)
      exact ⟨k, by omega, by show (if k = c then c else ι k) = i; rw [if_neg (by omega)]; exact ek⟩
  · show σ' (60 + 7 * (if k = c then c else ι k) + f) = _
    by_cases w : k = c
    · rw [if_pos w, w]; exact hr f hf
    · have := b1 k (by omega)
      rw [if_neg w, ho _ (by omega) (by omega) (by omega), o _ (by omega) (by omega)]; exact hJ k (by omega) f hf
  · show (if k = c then c else ι k) < (if l = c then c else ι l) ↔ _
    have lt : ∀ k, k < c → A (13 + k) 0 < A 0 6 := fun k hk => by
      obtain ⟨m0, e1, e2⟩ := hI.1.2.2.1 k hk
      have hN := hI.1.2.2.2.2.1
      rw [e1, hI.1.2.2.2.1]
      exact (nI_ltI (by omega) (by omega)).mpr e2
    by_cases w1 : k = c
    · by_cases w2 : l = c
      · subst w1 w2
        exact ⟨fun w => by omega, fun w => (Int32.lt_irrefl w).elim⟩
      · have := b1 l (by omega)
        rw [if_pos w1, if_neg w2, w1, c0, o _ (by omega) (by omega)]
        exact ⟨fun w => by omega, fun w => absurd (lt l (by omega)) (Int32.lt_asymm w)⟩
    · by_cases w2 : l = c
      · have := b1 k (by omega)
        rw [if_neg w1, if_pos w2, w2, c0, o _ (by omega) (by omega)]
        exact ⟨fun _ => lt k (by omega), fun _ => this⟩
      · rw [if_neg w1, if_neg w2, o _ (by omega) (by omega), o _ (by omega) (by omega)]
        exact hO k l (by omega) (by omega)
theorem r_comes {B : Mem} {m : Int32} {ι : Nat → Nat} {σ : Nat → Int32} (hB : RB B) (hR : Rel A c m ι σ) (hI : Iv A c N T) (hc : c < 10) {y : Int32} (hy : y = bI z) {P : Mem → Prop} (hp : ∀ σ', Rel (addA A c d g p u z) (c + 1) m (fun k => if k = c then c else ι k) σ' → P (sM B σ')) : wp_X7_comes 283 (sM B σ) 276 d g p u y P := by
  subst hy
  have c5 : σ 5 = nI c := hR.c5 hI.1.1
  have c6 : σ 6 = A 0 6 := hR.1.2.2.2.1
  refine ⟨tp7, 277, hB.1, tp8, by rw [len8]; exact vpI (i := 5) rfl (by omega) (by omega), fun v5 e5 => ?_⟩
  rw [sM_1, show (5 : Int32).toNatClampNeg = 5 from rfl, c5, show (60 : Int32) + 7 * nI c = nI (60 + 7 * c) from by rw [← nI_add, ← nI_mul]; rfl] at e5
  subst e5
  have ix : ∀ f : Nat, nI (60 + 7 * c) + nI f = nI (60 + 7 * c + f) := fun f => nI_add _ _
  have vp : ∀ f : Nat, f < 7 → vp_in (nI (60 + 7 * c) + nI f) (m_len 277) := fun f hf => by rw [ix, len8]; exact vpI rfl (by omega) (by omega)
  have cl : ∀ f : Nat, f < 7 → (nI (60 + 7 * c) + nI f).toNatClampNeg = 60 + 7 * c + f := fun f hf => by rw [ix, nI_clamp (by omega)]
  refine ⟨277, hB.1, 277, hB.1, tp8, by rw [len8]; exact vpI (i := 6) rfl (by omega) (by omega), tp8, vp 0 (by omega), fun M12 e12 => ?_⟩
  rw [show (nI (60 + 7 * c) + 0).toNatClampNeg = 60 + 7 * c + 0 from cl 0 (by omega), sM_1, show (6 : Int32).toNatClampNeg = 6 from rfl, c6, sM_uI] at e12
  subst e12
  refine ⟨277, hB.1, tp8, vp 1 (by omega), fun M16 e16 => ?_⟩
  rw [show (nI (60 + 7 * c) + 1).toNatClampNeg = 60 + 7 * c + 1 from cl 1 (by omega), sM_uI] at e16
  subst e16
  refine ⟨277, hB.1, tp8, vp 2 (by omega), fun M16 e16 => ?_⟩
  rw [show (nI (60 + 7 * c) + 2).toNatClampNeg = 60 + 7 * c + 2 from cl 2 (by omega), sM_uI] at e16
  subst e16
  refine ⟨277, hB.1, tp8, vp 3 (by omega), fun M16 e16 => ?_⟩
  rw [show (nI (60 + 7 * c) + 3).toNatClampNeg = 60 + 7 * c + 3 from cl 3 (by omega), sM_uI] at e16
  subst e16
  refine ⟨277, hB.1, tp8, vp 4 (by omega), fun M16 e16 => ?_⟩
  rw [show (nI (60 + 7 * c) + 4).toNatClampNeg = 60 + 7 * c + 4 from cl 4 (by omega), sM_uI] at e16
  subst e16
  refine ⟨277, hB.1, tp8, vp 5 (by omega), fun M16 e16 => ?_⟩
  rw [show (nI (60 + 7 * c) + 5).toNatClampNeg = 60 + 7 * c + 5 from cl 5 (by omega), sM_uI] at e16
  subst e16
  refine ⟨277, hB.1, tp8, vp 6 (by omega), fun M16 e16 => ?_⟩
  rw [show (nI (60 + 7 * c) + 6).toNatClampNeg = 60 + 7 * c + 6 from cl 6 (by omega), sM_uI] at e16
  subst e16
  refine r_inc hB (i := 5) (by omega) rfl (g := fun w => w + 1) ?_
  refine r_inc hB (i := 6) (by omega) rfl (g := fun w => w + 1) ?_
  refine hp _ (hR.came hI hc ?_ ?_ (fun f hf => ?_) fun i h5 h6 hi => ?_)
  · rw [uS_o (by omega), uS_s, uS_o (by omega), uS_o (by omega), uS_o (by omega), uS_o (by omega), uS_o (by omega), uS_o (by omega), uS_o (by omega), c5, nI_1]
  · rw [uS_s, uS_o (by omega), uS_o (by omega), uS_o (by omega), uS_o (by omega), uS_o (by omega), uS_o (by omega), uS_o (by omega), uS_o (by omega), c6]
  · obtain ⟨c0, c1, c2, c3, c4, c5', c6', c7⟩ := add_c (A := A) (c := c) (d := d) (g := g) (p := p) (u := u) (z := z)
    rw [uS_o (by omega), uS_o (by omega)]
    rcases (by omega : f = 0 ∨ f = 1 ∨ f = 2 ∨ f = 3 ∨ f = 4 ∨ f = 5 ∨ f = 6) with rfl | rfl | rfl | rfl | rfl | rfl | rfl
    · rw [c0, uS_o (by omega), uS_o (by omega), uS_o (by omega), uS_o (by omega), uS_o (by omega), uS_o (by omega), uS_s]
    · rw [c1, uS_o (by omega), uS_o (by omega), uS_o (by omega), uS_o (by omega), uS_o (by omega), uS_s]
    · rw [c2, uS_o (by omega), uS_o (by omega), uS_o (by omega), uS_o (by omega), uS_s]
    · rw [c3, uS_o (by omega), uS_o (by omega), uS_o (by omega), uS_s]
    · rw [c4, uS_o (by omega), uS_o (by omega), uS_s]
    · rw [c5', uS_o (by omega), uS_s]
    · rw [c6', uS_s]
  · rw [uS_o (by omega), uS_o (by omega), uS_o (by omega), uS_o (by omega), uS_o (by omega), uS_o (by omega), uS_o (by omega), uS_o (by omega), uS_o (by omega)]
end ADD
/-! job -/
def oJob (A : Ab) (d g p u : Int32) (z : Bool) (q : Nat) : Int32 × Int32 × Ab := if inB d 0 4 = true then (if inB g 0 3 = true then (if inB p 1 40 = true then (if inB u 0 9999 = true then (if A 0 5 < 10 then (0, A 0 6, addQ A (cnt A) d g p u z q) else (3, 0, A)) else (2, 0, A)) else (2, 0, A)) else (1, 0, A)) else (1, 0, A)
def okJ (A : Ab) (d g p u : Int32) (z : Bool) (q : Nat) : Prop := (oJob A d g p u z q).1 = 0 → q < cnt A + 1 ∧ srt (addQ A (cnt A) d g p u z q) (cnt A + 1)
section JOB
variable {M : Mem} {A : Ab} {Q : Nat → Ab} {s b j : Nat} {cd : Nat → Nat} {d g p u : Int32} {z : Bool} {P : Int32 → Mem → Prop}
theorem lx_job (h : KC M A Q s b cd) (hv : KV A j) (hp : ∀ q, okJ A d g p u z q → ∀ M', KC M' (oJob A d g p u z q).2.2 (qO (oJob A d g p u z q).1 Q s A) (sO (oJob A d g p u z q).1 s) b cd → FrL M M' → ((oJob A d g p u z q).1 = 0 → M'.2.2 282 0 = (oJob A d g p u z q).2.1.toInt64) → P (oJob A d g p u z q).1 M') : wp_L_job 283 M 0 d g p u z 282 P := by
  obtain ⟨N, T, -, -, hI⟩ := hv
  obtain ⟨π1, h1⟩ := h.2.1
  have hd := h.1
  have no : ∀ {x : Int32}, oJob A d g p u z 0 = (x, 0, A) → x ≠ 0 → P x M := fun {x} eo hx => hp_no (hp 0 fun w => by rw [eo] at w; exact absurd w hx) eo hx h
  refine ⟨tp6, ⟨fun e1 => Or.inl ⟨rfl, ?_⟩, fun e1 => ⟨fun e2 => ⟨fun e3 => Or.inr (Or.inl ⟨rfl, ?_⟩), fun e3 => ⟨fun e4 => ⟨tp6, 1, hd.1, tp5a, fun e5 => ?_, fun e5 => Or.inr (Or.inr ⟨rfl, ?_⟩)⟩, fun e4 => Or.inr (Or.inl ⟨rfl, ?_⟩)⟩⟩, fun e2 => Or.inl ⟨rfl, ?_⟩⟩⟩⟩
  · refine no ?_ (by decide)
    unfold oJob
    rw [show inB d 0 4 = false from e1]; rfl
  · refine no ?_ (by decide)
    unfold oJob
    rw [if_pos (show inB d 0 4 = true from e1), if_pos (show inB g 0 3 = true from e2), show inB p 1 40 = false from e3]; rfl
  · rw [h1.N] at e5
    have hc : cnt A < 10 := by
      rw [hI.1.1.1] at e5
      have := hI.1.1.2.1
      exact (nI_ltI (b := 10) (by omega) (by omega)).mp e5
    have eo : ∀ q, oJob A d g p u z q = (0, A 0 6, addQ A (cnt A) d g p u z q) := fun q => by
      unfold oJob
      rw [if_pos (show inB d 0 4 = true from e1), if_pos (show inB g 0 3 = true from e2), if_pos (show inB p 1 40 = true from e3), if_pos (show inB u 0 9999 = true from e4), if_pos e5]
    refine x_remember h hI.1.1 fun M3 k3 f3 => ?_
    obtain ⟨π3, c3⟩ := k3.2.1
    refine ⟨1, k3.1.1, tp5a, x_addJob c3 hI.1.1.1 hc hI.1.2.1 (fun k hk => hI.new hk) fun q M4 hq c4 s4 => ?_⟩
    exact lx_mut k3 f3 c4 (hp_ok (hp q fun _ => ⟨hq, s4⟩) (eo q))
  · rw [h1.N] at e5
    refine no ?_ (by decide)
    unfold oJob
    rw [if_pos (show inB d 0 4 = true from e1), if_pos (show inB g 0 3 = true from e2), if_pos (show inB p 1 40 = true from e3), if_pos (show inB u 0 9999 = true from e4), if_neg e5]
  · refine no ?_ (by decide)
    unfold oJob
    rw [if_pos (show inB d 0 4 = true from e1), if_pos (show inB g 0 3 = true from e2), if_pos (show inB p 1 40 = true from e3), show inB u 0 9999 = false from e4]; rfl
  · refine no ?_ (by decide)
    unfold oJob
    rw [if_pos (show inB d 0 4 = true from e1), show inB g 0 3 = false from e2]; rfl
theorem rx_job {q : Nat} (h : KR M A Q s b cd) (hs : s ≤ 6) (kp : KP A Q s j) (ok : okJ A d g p u z q) (hp : ∀ r M', KR M' (oJob A d g p u z q).2.2 (qO (oJob A d g p u z q).1 Q s A) (sO (oJob A d g p u z q).1 s) b cd → FrR M M' → M'.1 276 0 = (oJob A d g p u z q).1 → ((oJob A d g p u z q).1 = 0 → r = (oJob A d g p u z q).2.1) → P r M') : wp_X7_job 283 M 276 d g p u z P := by
  have hv := kp.1
  obtain ⟨N, T, hN, hT, hI⟩ := hv
  have hc10 := hI.1.1.2.1
  refine ⟨tp7, fun M2 e2 => ?_⟩
  subst e2
  obtain ⟨h2, f2, z2⟩ := h.th FrR.rf (v := 0)
  generalize uI M 276 0 0 = M2 at h2 f2 z2 ⊢
  obtain ⟨ι, hR⟩ := h2.2.1
  have e55 : M2.1 277 (5 : Int32).toNatClampNeg = A 0 5 := hR.1.2.2.1
  refine ⟨fun e1 => hr_no hp ?_ (by decide) h2 f2, fun e1 => ⟨fun e2 => ⟨fun e3 => hr_no hp ?_ (by decide) h2 f2, fun e3 => ⟨fun e4 => ⟨277, h2.1.1, tp8, by rw [len8]; exact vpI (i := 5) rfl (by omega) (by omega), fun e5 => ?_, fun e5 => hr_no hp ?_ (by decide) h2 f2⟩, fun e4 => hr_no hp ?_ (by decide) h2 f2⟩⟩, fun e2 => hr_no hp ?_ (by decide) h2 f2⟩⟩
  · unfold oJob
    rw [show inB d 0 4 = false from e1]; rfl
  · unfold oJob
    rw [if_pos (show inB d 0 4 = true from e1), if_pos (show inB g 0 3 = true from e2), show inB p 1 40 = false from e3]; rfl
  · rw [e55, hI.1.1.1] at e5
    have hc : cnt A < 10 := by
      rcases Nat.lt_or_ge (cnt A) 10 with w | w
      · exact w
      · exact absurd (show nI (cnt A) = 10 by rw [show cnt A = 10 by omega]; rfl) e5
    have e5' : A 0 5 < 10 := by
      rw [hI.1.1.1]
      exact (nI_ltI (b := 10) (by omega) (by omega)).mpr hc
    have eo : oJob A d g p u z q = (0, A 0 6, addQ A (cnt A) d g p u z q) := by
      unfold oJob
      rw [if_pos (show inB d 0 4 = true from e1), if_pos (show inB g 0 3 = true from e2), if_pos (show inB p 1 40 = true from e3), if_pos (show inB u 0 9999 = true from e4), if_pos e5']
    have hq := (ok (by rw [eo])).1
    have hp := hr_ok hp eo
    refine r_savesK h2 hs kp fun M3 k3 f3 z3 => ?_
    obtain ⟨ι3, hR3⟩ := k3.2.1
    rw [← sM_self (M := M3)]
    refine r_comes (z := z) k3.1 hR3 hI hc (by cases z <;> rfl) fun σ' hR' => ?_
    have hRq := hR'.rows (by omega) (mv_perm (k := cnt A) (p := q) (c := cnt A + 1) (by omega) hq)
    have e6 : σ' 6 = A 0 6 + 1 := hR'.1.2.2.2.1.trans add_6
    refine ⟨277, k3.1.1, tp8, by rw [len8]; exact vpI (i := 6) rfl (by omega) (by omega), ?_⟩
    rw [sM_1, show (6 : Int32).toNatClampNeg = 6 from rfl, e6, hI.1.2.2.2.1, nI_1, nI_pred, ← hI.1.2.2.2.1]
    have km := rx_mut k3 (A' := addQ A (cnt A) d g p u z q) (σ' := σ') ⟨_, by rw [addQ_cnt hc, addQ_0 (by omega) (by omega)]; exact hRq⟩
    exact hp _ km.1 ((f2.tr f3).tr km.2.1) (km.2.2.trans (z3.trans z2))
  · rw [e55] at e5
    have e5' : ¬ A 0 5 < 10 := by rw [e5]; exact Int32.lt_irrefl
    unfold oJob
    rw [if_pos (show inB d 0 4 = true from e1), if_pos (show inB g 0 3 = true from e2), if_pos (show inB p 1 40 = true from e3), if_pos (show inB u 0 9999 = true from e4), if_neg e5']
  · unfold oJob
    rw [if_pos (show inB d 0 4 = true from e1), if_pos (show inB g 0 3 = true from e2), if_pos (show inB p 1 40 = true from e3), show inB u 0 9999 = false from e4]; rfl
  · unfold oJob
    rw [if_pos (show inB d 0 4 = true from e1), show inB g 0 3 = false from e2]; rfl
theorem px_job {q : Nat} (hv : KV A j) (hj : j ≤ 600) (ok : okJ A d g p u z q) : KV (oJob A d g p u z q).2.2 (j + 1) := by
  have hm := hv.mono (i := j + 1) (by omega)
  unfold okJ at ok
  unfold oJob at ok ⊢
  split
  · rename_i e1
    split
    · rename_i e2
      split
      · rename_i e3
        split
        · rename_i e4
          split
          · rename_i e5
            rw [if_pos e1, if_pos e2, if_pos e3, if_pos e4, if_pos e5] at ok
            obtain ⟨hq, hs⟩ := ok rfl
            obtain ⟨N, T, h1, h2, hI⟩ := hv
            have hc : cnt A < 10 := by
              rw [hI.1.1.1] at e5
              have := hI.1.1.2.1
              exact (nI_ltI (b := 10) (by omega) (by omega)).mp e5
            obtain ⟨dn, hd, _, hd2⟩ := inB_get (l := 0) (h := 4) (by omega) (by omega) e1
            obtain ⟨gn, hg, _, hg2⟩ := inB_get (l := 0) (h := 3) (by omega) (by omega) e2
            obtain ⟨pn, hp, hp1, hp2⟩ := inB_get (l := 1) (h := 40) (by omega) (by omega) e3
            obtain ⟨un, hu, _, hu2⟩ := inB_get (l := 0) (h := 9999) (by omega) (by omega) e4
            refine ⟨N + 1, T, by omega, by omega, ?_⟩
            show Iv (addQ A (cnt A) d g p u z q) (cnt (addQ A (cnt A) d g p u z q)) (N + 1) T
            rw [addQ_cnt hc]
            exact hI.add hc (by omega) hd (by omega) hg (by omega) hp hp1 hp2 hu hu2 hq hs
          · exact hm
        · exact hm
      · exact hm
    · exact hm
  · exact hm
end JOB
