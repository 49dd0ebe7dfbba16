/-! The reference: billets go to and fro, become scrap. -/
section RMW
variable {B : Mem} {A A' : Ab} {c N : Nat} {m : Int32} {ι : Nat → Nat} {σ σ' : Nat → Int32}
theorem r_clears (hB : RB B) {p : Nat} (hp7 : p < 7) {x : Int32} (hx : x = nI p) {P : Mem → Prop} (hp : ∀ σ', (∀ i, ¬ (130 + 4 * p ≤ i ∧ i < 134 + 4 * p) → σ' i = σ i) → (∀ f, f < 4 → σ' (130 + 4 * p + f) = 0) → P (sM B σ')) : wp_X7_clears 283 (sM B σ) 276 x P := by
  refine ⟨5, ?_⟩
  have L : ∀ f i (σ1 : Nat → Int32), i + f = 4 → (∀ i, ¬ (130 + 4 * p ≤ i ∧ i < 134 + 4 * p) → σ1 i = σ i) → (∀ g, g < i → σ1 (130 + 4 * p + g) = 0) → wpL_X7_clears_2 283 P (f + 1) (sM B σ1) 276 x (nI i) := by
    intro f
    induction f with
    | zero =>
      intro i σ1 hi h1 h2
      exact ⟨fun _ => hp σ1 h1 (fun f hf => h2 f (by omega)), fun k => absurd (cGe (n := 4) rfl rfl (by omega) (by omega)) k⟩
    | succ f ih =>
      intro i σ1 hi h1 h2
      refine ⟨fun k => absurd k (cLt (n := 4) rfl rfl (by omega) (by omega)), fun _ => ⟨tp7, r_lay hB hp7 (f := i) (by omega) hx rfl fun v hv => ?_⟩⟩
      rw [hv, nI_1]
      refine ih (i + 1) _ (by omega) (fun j hj => by rw [uS_o (by omega)]; exact h1 j hj) (fun g hg => ?_)
      by_cases q : g = i
      · subst q; exact uS_s
      · rw [uS_o (by omega)]; exact h2 g (by omega)
  exact L 4 0 σ rfl (fun _ _ => rfl) (fun g hg => by omega)
theorem r_moves (hB : RB B) {p q : Nat} (hp7 : p < 7) (hq7 : q < 7) (hpq : p ≠ q) {x y : Int32} (hx : x = nI p) (hy : y = nI q) {P : Mem → Prop} (hp : ∀ σ', (∀ i, ¬ (130 + 4 * p ≤ i ∧ i < 134 + 4 * p) → ¬ (130 + 4 * q ≤ i ∧ i < 134 + 4 * q) → σ' i = σ i) → (∀ f, f < 4 → σ' (130 + 4 * q + f) = σ (130 + 4 * p + f)) → (∀ f, f < 4 → σ' (130 + 4 * p + f) = 0) → P (sM B σ')) : wp_X7_moves 283 (sM B σ) 276 x y P := by
  refine ⟨5, ?_⟩
  have L : ∀ f i (σ1 : Nat → Int32), i + f = 4 → (∀ i, ¬ (130 + 4 * q ≤ i ∧ i < 134 + 4 * q) → σ1 i = σ i) → (∀ g, g < i → σ1 (130 + 4 * q + g) = σ (130 + 4 * p + g)) → wpL_X7_moves_2 283 P (f + 1) (sM B σ1) 276 x y (nI i) := by
    intro f
    induction f with
    | zero =>
      intro i σ1 hi h1 h2
      refine ⟨fun _ => ⟨tp7, r_clears hB hp7 hx fun σ' h3 h4 => hp σ' (fun j hj1 hj2 => by rw [h3 j hj1]; exact h1 j hj2) (fun f hf => by rw [h3 _ (by omega)]; exact h2 f (by omega)) h4⟩, fun k => absurd (cGe (n := 4) rfl rfl (by omega) (by omega)) k⟩
    | succ f ih =>
      intro i σ1 hi h1 h2
      refine ⟨fun k => absurd k (cLt (n := 4) rfl rfl (by omega) (by omega)), fun _ => ⟨tp7, r_billet0 hB hp7 (f := i) (by omega) hx rfl (r_lay hB hq7 (f := i) (by omega) hy rfl fun v hv => ?_)⟩⟩
      rw [hv, nI_1]
      refine ih (i + 1) _ (by omega) (fun j hj => by rw [uS_o (by omega)]; exact h1 j hj) (fun g hg => ?_)
      by_cases q : g = i
      · subst q; rw [uS_s]; exact h1 _ (by omega)
      · rw [uS_o (by omega)]; exact h2 g (by omega)
  exact L 4 0 σ rfl (fun _ _ => rfl) (fun g hg => by omega)
/-- the picture behind a move -/
theorem Rel.moved (h : Rel A c m ι σ) (hc : c ≤ 10) {p q : Nat} (hp7 : p < 7) (hq7 : q < 7) (hpq : p ≠ q) (hs : ∀ i, ¬ (130 + 4 * p ≤ i ∧ i < 134 + 4 * p) → ¬ (130 + 4 * q ≤ i ∧ i < 134 + 4 * q) → σ' i = σ i) (h1 : ∀ f, f < 4 → σ' (130 + 4 * q + f) = σ (130 + 4 * p + f)) (h2 : ∀ f, f < 4 → σ' (130 + 4 * p + f) = 0) : Rel (mvB A q p) c m ι σ' := by
  have hP := h.2.2.2.2.2
  refine h.bil hc (fun i hi => hs i (by omega) (by omega)) (fun r hr f => ?_) (fun r hr => ?_)
  · unfold mvB
    rw [up_r (by omega), rowC_o (by omega)]
  · unfold mvB
    by_cases e : r = p
    · subst e
      rw [up_s]
      refine ⟨?_, fun z => absurd rfl z⟩
      have := h2 0 (by omega)
      rw [Nat.add_zero] at this
      rw [this]; decide
    · by_cases e2 : r = q
      · subst e2
        rw [up_r (by omega), rowC_s (by omega)]
        refine ⟨?_, fun hn f hf h0 => ?_⟩
        · have := h1 0 (by omega)
          rw [Nat.add_zero, Nat.add_zero] at this
          rw [this]; exact (hP p hp7).1
        · rw [h1 f hf, up_r (by omega), rowC_s hf]
          exact (hP p hp7).2 hn f hf h0
      · rw [up_r (by omega), rowC_o (by omega)]
        refine ⟨?_, fun hn f hf h0 => ?_⟩
        · rw [hs _ (by omega) (by omega)]; exact (hP r hr).1
        · rw [hs _ (by omega) (by omega), up_r (by omega), rowC_o (by omega)]
          exact (hP r hr).2 hn f hf h0
theorem r_scraps (hB : RB B) (hR : Rel A c m ι σ) (hI : iJ A c N) {p k : Nat} (hp7 : p < 7) (hk : k < c) (hpk : A (24 + p) 0 = A (13 + k) 0) {x : Int32} (hx : x = nI p) {P : Mem → Prop} (hp : ∀ σ', Rel (aU (aU A (2 + hj A k) 4 (A (2 + hj A k) 4 + 1)) (24 + p) 0 (-1)) c m ι σ' → P (sM B σ')) : wp_X7_scraps 283 (sM B σ) 276 x P := by
  have hc := hI.1.2.1
  have hik := hR.2.2.2.2.1.1.1 k hk
  have hh := hI.1.h hk
  have i8 : (8 : Int32).toNatClampNeg = 8 := rfl
  refine ⟨tp7, 277, hB.1, tp8, by rw [len8]; exact vpI (i := 8) rfl (by omega) (by omega), by rw [len8]; exact vpI (i := 8) rfl (by omega) (by omega), fun M6 e6 => ?_⟩
  rw [i8, sM_1, sM_uI] at e6
  rw [e6]
  -- the picture but for the scrap of all
  have hR6 : Rel A c m ι (uS (uS σ 8 (σ 8 + 1)) 8 (σ 8)) := by
    have : uS (uS σ 8 (σ 8 + 1)) 8 (σ 8) = σ := by
      funext j
      unfold uS
      by_cases q : j = 8
      · rw [if_pos q, q]
      · rw [if_neg q, if_neg q]
    rw [this]; exact hR
  -- jobOn looks at other cells
  have jo : ∀ {P : Int32 → Mem → Prop}, P (nI (ι k)) (sM B (uS σ 8 (σ 8 + 1))) → wp_X7_jobOn 283 (sM B (uS σ 8 (σ 8 + 1))) 276 x P := by
    intro P hp
    have w : Rel (aU A 2 4 (A 2 4 + 1)) c m ι (uS (uS σ 8 (σ 8 + 1)) 19 (σ 19 + 1)) := hR.heat4 hc (i := 0) (by omega)
    -- a picture with the first heat's scrap one more
    have w2 : Rel (aU A 2 4 (A 2 4 + 1)) c m ι (uS (uS σ 8 (σ 8 + 1)) 19 (σ 19 + 1)) := w
    have e0 : σ (130 + 4 * p + 0) = A (24 + p) 0 + 1 := (hR.2.2.2.2.2 p hp7).1
    have hne : A (24 + p) 0 ≠ -1 := by rw [hpk]; exact hI.num hk
    have hz : ¬ σ (130 + 4 * p + 0) = 0 := by
      intro q
      exact hne ((hR.2.2.2.2.2.zero hp7).mp q)
    refine ⟨tp7, r_billet0 hB hp7 (f := 0) (by omega) hx rfl ⟨fun _ => r_billet0 hB hp7 (f := 0) (by omega) hx rfl ?_, fun e => absurd (by rw [uS_o (by omega)] at e; exact e) hz⟩⟩
    rw [uS_o (by omega), e0, Int32.add_sub_cancel, hpk]
    -- jobWith
    have c5 := hR.c5 hI.1
    refine ⟨c + 1, ?_⟩
    have L : ∀ f i, i + f = c → i ≤ ι k → wpL_X7_jobWith_2 283 P (f + 1) (sM B (uS σ 8 (σ 8 + 1))) 276 (A (13 + k) 0) (nI i) := by
      intro f
      induction f with
      | zero => intro i hi h1; omega
      | succ f ih =>
        intro i hi h1
        refine ⟨tp7, r_len5 hB (P := fun z => (z ≤ nI i → _) ∧ (¬ z ≤ nI i → _)) ⟨fun q => absurd q (cLt ((uS_o (by omega)).trans c5) rfl (by omega) (by omega)), fun _ => r_job0 hB (k := i) (f := 0) (by omega) (by omega) rfl rfl ⟨fun hne v hv => ?_, fun he => ?_⟩⟩⟩
        · rw [hv, nI_1]
          refine ih (i + 1) (by omega) ?_
          rcases Nat.lt_or_ge i (ι k) with q | q
          · exact q
          · exfalso
            apply hne
            rw [uS_o (by omega), show i = ι k by omega, hR.job hk (by omega)]
        · rw [uS_o (by omega)] at he
          obtain ⟨l, hl, el⟩ := hR.2.2.2.2.1.1.2.2 i (by omega)
          rw [← el, hR.job hl (by omega)] at he
          rw [← el, hI.2.2.2.2.2.1 l k hl hk he]
          exact hp
    exact L c 0 (by omega) (by omega)
  refine ⟨277, hB.1, jo (r_job0 hB (k := ι k) (f := 2) (by omega) (by omega) rfl rfl ?_)⟩
  have e2 : uS σ 8 (σ 8 + 1) (60 + 7 * ι k + 2) = nI (hj A k) := by rw [uS_o (by omega)]; exact (hR.job hk (by omega)).trans hh.2
  have ix : (15 + 5 * uS σ 8 (σ 8 + 1) (60 + 7 * ι k + 2)) + 4 = nI (15 + 5 * hj A k + 4) := ix3 (a := 15) (b := 5) e2 rfl
  refine ⟨tp8, by rw [ix, len8]; exact vp_in_nI (by omega) (by omega), by rw [ix, len8]; exact vp_in_nI (by omega) (by omega), fun M15 e15 => ?_⟩
  rw [ix, nI_clamp (by omega), sM_1, sM_uI, uS_o (by omega)] at e15
  rw [e15]
  have r15 : Rel (aU A (2 + hj A k) 4 (A (2 + hj A k) 4 + 1)) c m ι (uS (uS σ 8 (σ 8 + 1)) (15 + 5 * hj A k + 4) (σ (15 + 5 * hj A k + 4) + 1)) := hR.heat4 hc hh.1
  refine r_clears hB hp7 hx fun σ' h1 h2 => hp σ' ?_
  refine r15.bil hc (fun i hi => h1 i (by omega)) (fun r hr f => up_r (by omega)) (fun q hq => ?_)
  by_cases e : q = p
  · subst e
    rw [up_s]
    refine ⟨?_, fun z => absurd rfl z⟩
    have := h2 0 (by omega)
    rw [Nat.add_zero] at this
    rw [this]; decide
  · refine ⟨?_, fun hn f hf h0 => ?_⟩
    · rw [h1 _ (by omega), up_r (by omega)]; exact (r15.2.2.2.2.2 q hq).1
    · rw [up_r (by omega)] at hn
      rw [h1 _ (by omega), up_r (by omega)]; exact (r15.2.2.2.2.2 q hq).2 hn f hf h0
/-- a field of a billet that is there -/
theorem Rel.bilF (h : Rel A c m ι σ) (hc : c ≤ 10) {p f : Nat} (hp7 : p < 7) (hf : f < 4) (h0 : 0 < f) {v : Int32} : Rel (aU A (24 + p) f v) c m ι (uS σ (130 + 4 * p + f) v) :=
  h.bil hc (fun i hi => uS_o (by omega)) (fun r hr g => up_r (by omega)) (fun q hq => ⟨by rw [uS_o (by omega), up_f (by omega)]; exact (h.2.2.2.2.2 q hq).1, fun hn g hg hg0 => by
    rw [up_f (by omega)] at hn
    by_cases e : q = p ∧ g = f
    · obtain ⟨rfl, rfl⟩ := e
      rw [uS_s, up_s]
    · rw [uS_o (by omega), up_o (by omega)]; exact (h.2.2.2.2.2 q hq).2 hn g hg hg0⟩)
theorem iJ.congr {A A' : Ab} {c N : Nat} (hI : iJ A c N) (h0 : ∀ f, f < 7 → A' 0 f = A 0 f) (hJ : ∀ k, k < c → ∀ f, f < 7 → A' (13 + k) f = A (13 + k) f) : iJ A' c N := by
  obtain ⟨⟨a1, a2, a3⟩, b, d, e, f, g, i⟩ := hI
  refine ⟨⟨?_, a2, fun k hk => ?_⟩, fun x y hxy hy => ?_, fun k hk => ?_, ?_, f, fun k l hk hl => ?_, fun k hk => ?_⟩
  · rw [h0 5 (by omega)]; exact a1
  · rw [hJ k hk 1 (by omega), hJ k hk 2 (by omega), hJ k hk 6 (by omega)]; exact a3 k hk
  · have := b x y hxy hy
    unfold bef at this ⊢
    rw [hJ x (by omega) 6 (by omega), hJ y hy 6 (by omega), hJ x (by omega) 5 (by omega), hJ y hy 5 (by omega), hJ x (by omega) 0 (by omega), hJ y hy 0 (by omega)]
    exact this
  · rw [hJ k hk 0 (by omega)]; exact d k hk
  · rw [h0 6 (by omega)]; exact e
  · rw [hJ k hk 0 (by omega), hJ l hl 0 (by omega)]; exact g k l hk hl
  · rw [hJ k hk 3 (by omega), hJ k hk 4 (by omega), hJ k hk 5 (by omega)]; exact i k hk
/-- the press's billet goes back -/
theorem r_goesBack (hB : RB B) (hR : Rel A c m ι σ) (hI : iJ A c N) {k : Nat} (hk : k < c) (hpk : A 30 0 = A (13 + k) 0) {P : Mem → Prop} (hp : ∀ σ', Rel (aBack A k) c m ι σ' → P (sM B σ')) : wp_X7_goesBack 283 (sM B σ) 276 P := by
  have hc := hI.1.2.1
  have hne : A (24 + 6) 0 ≠ -1 := by show A 30 0 ≠ -1; rw [hpk]; exact hI.num hk
  have b2 : σ (130 + 4 * 6 + 2) = A 30 2 := (hR.2.2.2.2.2 6 (by omega)).2 hne 2 (by omega) (by omega)
  have r1 : Rel (heatUp A) c m ι (uS σ (130 + 4 * 6 + 2) (A 30 2 + 1)) := hR.bilF hc (p := 6) (by omega) (by omega) (by omega)
  have i1 : iJ (heatUp A) c N := hI.congr (fun f hf => up_r (by omega)) (fun k hk f hf => up_r (by omega))
  have ef : freeA (heatUp A) = freeA A := freeA_up
  refine ⟨tp7, r_billet0 hB (p := 6) (f := 2) (by omega) (by omega) rfl rfl (r_lay hB (p := 6) (f := 2) (by omega) (by omega) rfl rfl ?_)⟩
  rw [b2]
  refine r_freePlace hB r1.2.2.2.2.2 (r_billet0 hB (p := 6) (f := 2) (by omega) (by omega) rfl rfl ⟨277, hB.1, tp8, by rw [len8]; exact vpI (i := 2) rfl (by omega) (by omega), ?_⟩)
  rw [uS_s, sM_1, show (2 : Int32).toNatClampNeg = 2 from rfl, uS_o (by omega), hR.1.1 2 (by omega), ef]
  have ehj : hj (heatUp A) k = hj A k := by unfold hj heatUp; rw [up_r (by omega)]
  have hpk1 : heatUp A (24 + 6) 0 = heatUp A (13 + k) 0 := by
    unfold heatUp
    rw [up_f (by omega), up_r (by omega)]; exact hpk
  have scr : (∀ σ', Rel (scrA (heatUp A) k) c m ι σ' → P (sM B σ')) → wp_X7_scraps 283 (sM B (uS σ (130 + 4 * 6 + 2) (A 30 2 + 1))) 276 6 (fun M13 => P M13) := by
    intro hp
    refine r_scraps hB r1 i1 (p := 6) (by omega) hk hpk1 rfl fun σ' h1 => hp σ' ?_
    unfold scrA
    have h2 := h1.job7 hc hk (v := heatUp A (13 + k) 7 - 1)
    have hh := (i1.1.h hk).1
    rw [show aU (aU (aU (heatUp A) (13 + k) 7 (heatUp A (13 + k) 7 - 1)) (2 + hj (heatUp A) k) 4 (heatUp A (2 + hj (heatUp A) k) 4 + 1)) 30 0 (-1) = aU (aU (aU (heatUp A) (2 + hj (heatUp A) k) 4 (heatUp A (2 + hj (heatUp A) k) 4 + 1)) (24 + 6) 0 (-1)) (13 + k) 7 (heatUp A (13 + k) 7 - 1) by
      funext r f
      unfold aU
      by_cases e1 : r = 13 + k
      · subst e1
        simp only [show ¬ (13 + k = 30) by omega, show ¬ (13 + k = 24 + 6) by omega, show ¬ (13 + k = 2 + hj (heatUp A) k) by omega, false_and, if_false]
      · simp only [e1, false_and, if_false]]
    exact h2
  unfold aBack at hp
  cases q : freeA A with
  | none =>
    rw [q] at hp
    refine ⟨fun e => scr hp, fun e => ⟨fun z => absurd rfl z, fun _ => scr hp⟩⟩
  | some p =>
    rw [q] at hp
    have hp6 : p < 6 := by have := (fst9_some q).2.1; omega
    refine ⟨fun e => ?_, fun e => ⟨fun _ => ?_, fun z => absurd z (nI_n1 (by omega))⟩⟩
    · have e' : ¬ A 30 2 + 1 ≤ A 0 9 := Int32.not_le.mpr e
      simp only [if_neg e'] at hp
      exact scr hp
    · have e' : A 30 2 + 1 ≤ A 0 9 := Int32.not_lt.mp e
      simp only [if_pos e'] at hp
      exact r_moves hB (p := 6) (q := p) (by omega) (by omega) (by omega) rfl rfl fun σ' h1 h2 h3 => hp σ' (r1.moved hc (by omega) (by omega) (by omega) h1 h2 h3)
theorem hotA_job {k p : Nat} (h : hotA A k = some p) : A (24 + p) 0 = A (13 + k) 0 := by
  unfold hotA at h
  have L : ∀ f i (x : Int32 × Option Nat), (∀ p, x.2 = some p → A (24 + p) 0 = A (13 + k) 0) → ∀ p, (foldN (hotG A k) f i x).2 = some p → A (24 + p) 0 = A (13 + k) 0 := by
    intro f
    induction f with
    | zero => intro i x hx p hp; exact hx p hp
    | succ f ih =>
      intro i x hx p hp
      refine ih (i + 1) _ (fun q hq => ?_) p hp
      unfold hotG at hq
      split at hq
      · rename_i z
        cases hq; exact z.1
      · exact hx q hq
  exact L 6 0 _ (fun q hq => by cases hq) p h
theorem cntN_pos {p : Nat → Bool} {x : Nat} : ∀ {n : Nat}, x < n → p x = true → 0 < cntN p n := by
  intro n
  induction n with
  | zero => intro h; omega
  | succ n ih =>
    intro hx hp
    unfold cntN
    by_cases e : x = n
    · subst e; rw [hp]; simp
    · have := ih (by omega) hp
      omega
theorem canLd_iff (hC : iC A c) {k : Nat} (hk : k < c) : canLd A k = true ↔ okDie A (dj A k) = true ∧ (hotA A k).isSome = true := by
  unfold canLd
  simp only [Bool.and_eq_true, Bool.not_eq_true', decide_eq_false_iff_not]
  constructor
  · intro h; exact h.2
  · intro h
    refine ⟨?_, h⟩
    obtain ⟨p, hp⟩ := Option.isSome_iff_exists.mp h.2
    have h6 := hotA_lt hp
    have hj9 := hotA_job hp
    rw [hC k hk]
    have : 0 < cntN (fun p => decide (A (24 + p) 0 = A (13 + k) 0)) 7 := cntN_pos (x := p) (by omega) (by simpa using hj9)
    have h7 := cntN_le (p := fun p => decide (A (24 + p) 0 = A (13 + k) 0)) (n := 7)
    exact nI_nle this (by omega)
theorem r_takes (hB : RB B) (hR : Rel A c m ι σ) (hI : iJ A c N) (hC : iC A c) (hBl : iB A c) (hD : iD A) {P : Mem → Prop} (hp : ∀ σ', Rel (aLoad A c) c m ι σ' → P (sM B σ')) : wp_X7_takes 283 (sM B σ) 276 P := by
  have hc := hI.1.2.1
  have c5 := hR.c5 hI.1
  have hb := hR.2.2.2.2.1.1
  refine ⟨c + 1, ?_⟩
  have L : ∀ f i, i + f = c → (∀ σ', Rel (match fst9 (canLd A) f i with | none => A | some k => match hotA A k with | none => A | some p => mvB A 6 p) c m ι σ' → P (sM B σ')) → wpL_X7_takes_2 283 P (f + 1) (sM B σ) 276 (nI i) := by
    intro f
    induction f with
    | zero =>
      intro i hi hp
      exact ⟨tp7, r_len5 hB (P := fun z => (z ≤ nI i → _) ∧ (¬ z ≤ nI i → _)) ⟨fun _ => hp σ hR, fun k => absurd (cGe c5 rfl (by omega) (by omega)) k⟩⟩
    | succ f ih =>
      intro i hi hp
      have hik := hb.1 i (by omega)
      have hd := hI.1.d (k := i) (by omega)
      unfold fst9 at hp
      refine ⟨tp7, r_len5 hB (P := fun z => (z ≤ nI i → _) ∧ (¬ z ≤ nI i → _)) ⟨fun k => absurd k (cLt c5 rfl (by omega) (by omega)), fun _ => r_jobAt hB hR hI (k := i) (by omega) rfl (r_job0 hB (k := ι i) (f := 1) (by omega) (by omega) rfl rfl (r_isFit hB hR.2.2.2.1 hR.2.1 hD hd.1 ((hR.job (by omega) (by omega)).trans hd.2) ⟨fun e => ⟨fun _ v hv => ?_, fun z => absurd rfl z⟩, fun e => r_hottest hB hR hI hBl (k := i) (by omega) rfl ⟨fun e2 v hv => ?_, fun e2 => ?_⟩⟩))⟩⟩
      · rw [hv, nI_1]
        refine ih (i + 1) (by omega) ?_
        rwa [if_neg (fun z => by rw [canLd_iff hC (by omega), e] at z; exact absurd z.1 (by decide))] at hp
      · rw [hv, nI_1]
        refine ih (i + 1) (by omega) ?_
        have e3 : hotA A i = none := by
          cases q : hotA A i with
          | none => rfl
          | some p =>
            have := hotA_lt q
            rw [q] at e2; exact absurd e2 (nI_n1 (by omega))
        rwa [if_neg (fun z => by rw [canLd_iff hC (by omega), e3] at z; exact absurd z.2 (by decide))] at hp
      · cases q : hotA A i with
        | none => rw [q] at e2; exact absurd rfl e2
        | some p =>
          have h6 := hotA_lt q
          rw [if_pos ((canLd_iff hC (by omega)).mpr ⟨e, by rw [q]; rfl⟩)] at hp
          simp only [q] at hp
          exact r_moves hB (p := p) (q := 6) (by omega) (by omega) (by omega) rfl rfl fun σ' h1 h2 h3 => hp σ' (hR.moved hc (by omega) (by omega) (by omega) h1 h2 h3)
  exact L c 0 (by omega) hp
end RMW
