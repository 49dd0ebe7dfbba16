/-! The reference: a job goes, a piece is made, the press works, dies are ground. -/
theorem aU_comm {A : Ab} {r f r' f' : Nat} {v v' : Int32} (h : ¬ (r = r' ∧ f = f')) : aU (aU A r f v) r' f' v' = aU (aU A r' f' v') r f v := by
  funext q g
  unfold aU
  by_cases h1 : q = r' ∧ g = f'
  · rw [if_pos h1, if_neg (fun z => h ⟨z.1.symm.trans h1.1, z.2.symm.trans h1.2⟩), if_pos h1]
  · rw [if_neg h1, if_neg h1]
theorem mvr {k c j : Nat} (hj : j < c - 1) : mv k (c - 1) j = if k ≤ j then j + 1 else j := by
  unfold mv
  (repeat' split) <;> omega
section RPR
variable {B : Mem} {A A' : Ab} {c N : Nat} {m : Int32} {ι : Nat → Nat} {σ σ' : Nat → Int32}
theorem r_rd (hB : RB B) {i : Nat} (hi : i < 158) {x : Int32} (hx : x = nI i) {P : Int32 → Prop} (hp : P (σ i)) : ∃ j2 : Nat, (sM B σ).2.1 276 1 = some j2 ∧ (m_tp 283 j2 8 ∧ (vp_in x (m_len j2) ∧ P ((sM B σ).1 j2 x.toNatClampNeg))) := ⟨277, hB.1, tp8, by rw [len8]; exact vpI hx hi (by omega), by rw [sM_1, clI hx hi]; exact hp⟩
/-- 's[i] += ..': the array, then a write -/
theorem r_inc (hB : RB B) {i : Nat} (hi : i < 158) {x : Int32} (hx : x = nI i) {g : Int32 → Int32} {P : Mem → Prop} (hp : P (sM B (uS σ i (g (σ i))))) : ∃ j2 : Nat, (sM B σ).2.1 276 1 = some j2 ∧ (m_tp 283 j2 8 ∧ (vp_in x (m_len j2) ∧ (vp_in x (m_len j2) ∧ (∀ M6 : Mem, M6 = uI (sM B σ) j2 x.toNatClampNeg (g ((sM B σ).1 j2 x.toNatClampNeg)) → P M6)))) := by
  refine ⟨277, hB.1, tp8, by rw [len8]; exact vpI hx hi (by omega), by rw [len8]; exact vpI hx hi (by omega), fun M6 e6 => ?_⟩
  rw [sM_1, clI hx hi, sM_uI] at e6
  rw [e6]; exact hp
theorem r_dropsJob (hB : RB B) (c5 : σ 5 = nI c) (hc : c ≤ 10) {i0 : Nat} (hi : i0 < c) {x : Int32} (hx : x = nI i0) {P : Mem → Prop} (hp : ∀ σ', σ' 5 = nI (c - 1) → (∀ i, i ≠ 5 → ¬ (60 ≤ i ∧ i < 130) → σ' i = σ i) → (∀ j g, j < c - 1 → g < 7 → σ' (60 + 7 * j + g) = σ (60 + 7 * (if j < i0 then j else j + 1) + g)) → P (sM B σ')) : wp_X7_dropsJob 283 (sM B σ) 276 x P := by
  have ec : nI c - 1 = nI (c - 1) := by
    have : c = (c - 1) + 1 := by omega
    rw [this, nI_pred]; rfl
  refine ⟨tp7, 277, hB.1, tp8, by rw [len8]; exact vpI (i := 5) rfl (by omega) (by omega), fun v5 h5 v6 h6 => ⟨7 * (c - 1 - i0) + 1, ?_⟩⟩
  rw [sM_1, show (5 : Int32).toNatClampNeg = 5 from rfl, c5, ec, show (60 : Int32) + 7 * nI (c - 1) = nI (60 + 7 * (c - 1)) from by rw [← nI_add, ← nI_mul]; rfl] at h5
  rw [hx, show (60 : Int32) + 7 * nI i0 = nI (60 + 7 * i0) from by rw [← nI_add, ← nI_mul]; rfl] at h6
  rw [h5, h6]
  have L2 : ∀ f g (σ1 : Nat → Int32), g + f = 7 → σ1 5 = nI c → (∀ i, ¬ (60 ≤ i ∧ i < 130) → σ1 i = σ i) → (∀ j g, j < c - 1 → g < 7 → σ1 (60 + 7 * j + g) = σ (60 + 7 * (if j < i0 then j else j + 1) + g)) → wpL_X7_dropsJob_51 283 P (f + 1) (sM B σ1) 276 (nI (60 + 7 * (c - 1))) (nI g) := by
    intro f
    induction f with
    | zero =>
      intro g σ1 hg h1 h2 h3
      refine ⟨fun _ => ⟨tp7, r_inc hB (i := 5) (by omega) rfl (g := fun z => z - 1) ?_⟩, fun k => absurd (cGe (n := 7) rfl rfl (by omega) (by omega)) k⟩
      refine hp _ (by rw [uS_s, h1, ec]) (fun i hi1 hi2 => by rw [uS_o hi1]; exact h2 i hi2) (fun j g hj hg => by rw [uS_o (by omega)]; exact h3 j g hj hg)
    | succ f ih =>
      intro g σ1 hg h1 h2 h3
      refine ⟨fun k => absurd k (cLt (n := 7) rfl rfl (by omega) (by omega)), fun _ => ⟨tp7, 277, hB.1, tp8, by rw [nI_add, len8]; exact vp_in_nI (by omega) (by omega), fun M17 e17 v hv => ?_⟩⟩
      rw [nI_add, nI_clamp (by omega), sM_uI] at e17
      rw [e17, hv, nI_1]
      exact ih (g + 1) _ (by omega) (by rw [uS_o (by omega)]; exact h1) (fun i hi => by rw [uS_o (by omega)]; exact h2 i hi) (fun j g hj hg => by rw [uS_o (by omega)]; exact h3 j g hj hg)
  have L1 : ∀ f t (σ1 : Nat → Int32), t + f = 60 + 7 * (c - 1) → 60 + 7 * i0 ≤ t → (∀ i, i < 60 + 7 * i0 → σ1 i = σ i) → (∀ i, 60 + 7 * i0 ≤ i → i < t → σ1 i = σ (i + 7)) → (∀ i, t ≤ i → σ1 i = σ i) → wpL_X7_dropsJob_23 283 P (f + 1) (sM B σ1) 276 (nI (60 + 7 * (c - 1))) (nI t) := by
    intro f
    induction f with
    | zero =>
      intro t σ1 ht h0 h1 h2 h3
      refine ⟨fun _ => ⟨8, L2 7 0 σ1 rfl (by rw [h1 5 (by omega)]; exact c5) (fun i hi => ?_) (fun j g hj hg => ?_)⟩, fun k => absurd (cGe rfl rfl (by omega) (by omega)) k⟩
      · by_cases q : i < 60 + 7 * i0
        · exact h1 i q
        · exact h3 i (by omega)
      · by_cases q : j < i0
        · rw [if_pos q]; exact h1 _ (by omega)
        · rw [if_neg q, h2 _ (by omega) (by omega)]
          congr 1; omega
    | succ f ih =>
      intro t σ1 ht h0 h1 h2 h3
      refine ⟨fun k => absurd k (cLt rfl rfl (by omega) (by omega)), fun _ => ⟨tp7, 277, hB.1, 277, hB.1, tp8, ?_, tp8, ?_, fun M26 e26 v hv => ?_⟩⟩
      · rw [show nI t + 7 = nI (t + 7) from nI_add t 7, len8]; exact vp_in_nI (by omega) (by omega)
      · rw [len8]; exact vp_in_nI (by omega) (by omega)
      · rw [show nI t + 7 = nI (t + 7) from nI_add t 7, nI_clamp (by omega), nI_clamp (by omega), sM_1, sM_uI] at e26
        rw [e26, hv, nI_1]
        refine ih (t + 1) _ (by omega) (by omega) (fun i hi => by rw [uS_o (by omega)]; exact h1 i hi) (fun i hi1 hi2 => ?_) (fun i hi => by rw [uS_o (by omega)]; exact h3 i (by omega))
        by_cases q : i = t
        · subst q; rw [uS_s]; exact h3 _ (by omega)
        · rw [uS_o q]; exact h2 i hi1 (by omega)
  exact L1 (7 * (c - 1 - i0)) (60 + 7 * i0) σ (by omega) (Nat.le_refl _) (fun _ _ => rfl) (fun i h1 h2 => by omega) (fun _ _ => rfl)
/-- the picture behind the going of the job k -/
theorem Rel.removed (h : Rel A c m ι σ) (hc : c ≤ 10) {k : Nat} (hk : k < c) (h5 : σ' 5 = nI (c - 1)) (ho : ∀ i, i ≠ 5 → ¬ (60 ≤ i ∧ i < 130) → σ' i = σ i) (hj : ∀ j g, j < c - 1 → g < 7 → σ' (60 + 7 * j + g) = σ (60 + 7 * (if j < ι k then j else j + 1) + g)) : ∃ ι', Rel (remA A c k) (c - 1) m ι' σ' := by
  obtain ⟨⟨a1, a2, a3, a4, a5, a6, a7⟩, hG, hH, hD, ⟨⟨b1, b2, b3⟩, hJ, hO⟩, hP⟩ := h
  have ro : ∀ r f, ¬ (13 ≤ r ∧ r < 23) → ¬ (r = 0 ∧ f = 5) → remA A c k r f = A r f := fun r f h1 h2 => by
    unfold remA
    rw [rowsP_o h1, up_o h2]
  have rJ : ∀ j, j < c - 1 → ∀ f, remA A c k (13 + j) f = A (13 + (if k ≤ j then j + 1 else j)) f := fun j hj f => by
    unfold remA
    rw [rowsP_J (by omega), mvr hj, up_r (by split <;> omega)]
  let g : Nat → Nat := fun j => if k ≤ j then j + 1 else j
  have gk : ∀ j, g j ≠ k := fun j => by show (if k ≤ j then j + 1 else j) ≠ k; split <;> omega
  have gc : ∀ j, j < c - 1 → g j < c := fun j hj => by show (if k ≤ j then j + 1 else j) < c; split <;> omega
  have ne : ∀ j, j < c - 1 → ι (g j) ≠ ι k := fun j hj e => gk j (b2 _ _ (gc j hj) hk e)
  refine ⟨fun j => if ι (g j) < ι k then ι (g j) else ι (g j) - 1, ⟨fun i hi => ?_, ?_, ?_, ?_, ?_, ?_, fun i hi => ?_⟩, hG.congr (fun i _ hi => ho i (by omega) (by omega)) (fun d hd => ro _ _ (by omega) (by omega)), hH.congr (fun i _ hi => ho i (by omega) (by omega)) (fun i hi f _ => ro _ _ (by omega) (by omega)), hD.congr (fun i _ hi => ho i (by omega) (by omega)) (fun d hd f _ => ro _ _ (by omega) (by omega)), ⟨⟨fun j hj => ?_, fun j l hj hl e => ?_, fun i hi => ?_⟩, fun j hj1 f hf => ?_, fun j l hj hl => ?_⟩, hP.congr (fun i _ hi => ho i (by omega) (by omega)) (fun p hp f _ => ro _ _ (by omega) (by omega))⟩
  · rw [ho i (by omega) (by omega), ro _ _ (by omega) (by omega)]; exact a1 i hi
  · rw [ho 4 (by omega) (by omega)]; exact a2
  · rw [h5]
    unfold remA
    rw [rowsP_o (by omega), up_s]
  · rw [ho 6 (by omega) (by omega), ro _ _ (by omega) (by omega)]; exact a4
  · rw [ho 7 (by omega) (by omega), madeA_congr (A := A) (fun i hi => ro _ _ (by omega) (by omega))]; exact a5
  · rw [ho 8 (by omega) (by omega), scrapA_congr (A := A) (fun i hi => ro _ _ (by omega) (by omega))]; exact a6
  · rw [ho (9 + i) (by omega) (by omega), ro _ _ (by omega) (by omega)]; exact a7 i hi
  · have h1 := b1 _ (gc j hj)
    have h2 := b1 k hk
    have h3 := ne j hj
    show (if ι (g j) < ι k then ι (g j) else ι (g j) - 1) < c - 1
    split <;> omega
  · have e : (if ι (g j) < ι k then ι (g j) else ι (g j) - 1) = (if ι (g l) < ι k then ι (g l) else ι (g l) - 1) := e
    have h3 := ne j hj
    have h4 := ne l hl
    have : ι (g j) = ι (g l) := by
      split at e <;> split at e <;> omega
    have h6 : g j = g l := b2 _ _ (gc j hj) (gc l hl) this
    have h7 : (if k ≤ j then j + 1 else j) = (if k ≤ l then l + 1 else l) := h6
    split at h7 <;> split at h7 <;> omega
  · have hik := b1 k hk
    obtain ⟨l, hl, el⟩ := b3 (if i < ι k then i else i + 1) (by split <;> omega)
    have hlk : l ≠ k := by
      intro q
      subst q
      split at el <;> omega
    refine ⟨if l < k then l else l - 1, by split <;> omega, ?_⟩
    have gl : g (if l < k then l else l - 1) = l := by
      show (if k ≤ (if l < k then l else l - 1) then (if l < k then l else l - 1) + 1 else (if l < k then l else l - 1)) = l
      by_cases q : l < k
      · rw [if_pos q, if_neg (by omega)]
      · rw [if_neg q, if_pos (by omega)]; omega
    show (if ι (g (if l < k then l else l - 1)) < ι k then ι (g (if l < k then l else l - 1)) else ι (g (if l < k then l else l - 1)) - 1) = i
    rw [gl, el]
    by_cases q : i < ι k
    · rw [if_pos q, if_pos q]
    · rw [if_neg q, if_neg (by omega)]; omega
  · have h3 := ne j hj1
    have hgc := gc j hj1
    have h1 := b1 _ hgc
    have h2 := b1 k hk
    rw [hj _ f (by show (if ι (g j) < ι k then ι (g j) else ι (g j) - 1) < c - 1; split <;> omega) hf, rJ j hj1 f, show (if (if ι (g j) < ι k then ι (g j) else ι (g j) - 1) < ι k then (if ι (g j) < ι k then ι (g j) else ι (g j) - 1) else (if ι (g j) < ι k then ι (g j) else ι (g j) - 1) + 1) = ι (g j) by
      by_cases q : ι (g j) < ι k
      · rw [if_pos q, if_pos q]
      · rw [if_neg q, if_neg (by omega)]; omega]
    exact hJ _ hgc f hf
  · have h3 := ne j hj
    have h4 := ne l hl
    have := hO _ _ (gc j hj) (gc l hl)
    rw [rJ j hj 0, rJ l hl 0, ← this]
    show (if ι (g j) < ι k then ι (g j) else ι (g j) - 1) < (if ι (g l) < ι k then ι (g l) else ι (g l) - 1) ↔ ι (g j) < ι (g l)
    split <;> split <;> omega
/-- a piece of a heat, and of all -/
theorem Rel.heat3 (h : Rel A c m ι σ) (hc : c ≤ 10) {i : Nat} (hi : i < 4) {v : Int32} : Rel (aU A (2 + i) 3 (A (2 + i) 3 + v)) c m ι (uS (uS σ 7 (σ 7 + v)) (15 + 5 * i + 3) (σ (15 + 5 * i + 3) + v)) := by
  obtain ⟨⟨a1, a2, a3, a4, a5, a6, a7⟩, hG, hH, hD, hJ, hP⟩ := h
  refine ⟨⟨fun j hj => ?_, ?_, ?_, ?_, ?_, ?_, fun j hj => ?_⟩, hG.congr (fun j _ hj => ?_) (fun d hd => up_r (by omega)), fun j hj f hf => ?_, hD.congr (fun j _ hj => ?_) (fun d hd f _ => up_r (by omega)), hJ.congr hc (fun j _ hj => ?_) (fun k hk f _ => up_r (by omega)), hP.congr (fun j _ hj => ?_) (fun p hp f _ => up_r (by omega))⟩
  · rw [uS_o (by omega), uS_o (by omega), up_r (by omega)]; exact a1 j hj
  · rw [uS_o (by omega), uS_o (by omega)]; exact a2
  · rw [uS_o (by omega), uS_o (by omega), up_r (by omega)]; exact a3
  · rw [uS_o (by omega), uS_o (by omega), up_r (by omega)]; exact a4
  · rw [uS_o (by omega), uS_s, madeA_up hi, a5]
  · rw [uS_o (by omega), uS_o (by omega), scrapA_congr (A := A) (fun j hj => up_f (by omega))]; exact a6
  · rw [uS_o (by omega), uS_o (by omega), up_r (by omega)]; exact a7 j hj
  · rw [uS_o (by omega), uS_o (by omega)]
  · by_cases e : j = i ∧ f = 3
    · obtain ⟨rfl, rfl⟩ := e
      rw [up_s, uS_s, hH j hj 3 (by omega)]
    · rw [uS_o (by omega), uS_o (by omega), up_o (by omega)]; exact hH j hj f hf
  · rw [uS_o (by omega), uS_o (by omega)]
  · rw [uS_o (by omega), uS_o (by omega)]
  · rw [uS_o (by omega), uS_o (by omega)]
/-- a field of a die, but the minutes to go -/
theorem Rel.dieF (h : Rel A c m ι σ) (hc : c ≤ 10) {d f : Nat} (hd : d < 5) (hf : f < 5) {v : Int32} : Rel (aU A (7 + d) (dF f) v) c m ι (uS σ (35 + 5 * d + f) v) :=
  ⟨h.1.congr (fun j hj => uS_o (by omega)) (fun f _ _ _ => up_r (by omega)) (fun j hj => up_r (by omega)) (fun j hj => up_r (by omega)), h.2.1.congr (fun j _ hj => uS_o (by omega)) (fun e he => up_f (by unfold dF; split <;> omega)), h.2.2.1.congr (fun j _ hj => uS_o (by omega)) (fun i hi f _ => up_r (by omega)), fun e he g hg => by
    by_cases q : e = d ∧ g = f
    · obtain ⟨rfl, rfl⟩ := q
      rw [up_s]; exact uS_s
    · rw [uS_o (by omega), up_o (fun z => q ⟨by omega, by have := z.2; unfold dF at this; split at this <;> split at this <;> omega⟩)]; exact h.2.2.2.1 e he g hg, h.2.2.2.2.1.congr hc (fun j _ hj => uS_o (by omega)) (fun k hk f _ => up_r (by omega)), h.2.2.2.2.2.congr (fun j _ hj => uS_o (by omega)) (fun p hp f _ => up_r (by omega))⟩
/-- the pieces made of a job -/
theorem Rel.job4 (h : Rel A c m ι σ) (hc : c ≤ 10) {k : Nat} (hk : k < c) {v : Int32} : Rel (aU A (13 + k) 4 v) c m ι (uS σ (60 + 7 * ι k + 4) v) := by
  obtain ⟨hN, hG, hH, hD, ⟨hb, hJ, hO⟩, hP⟩ := h
  have hik := hb.1 k hk
  refine ⟨hN.congr (fun j hj => uS_o (by omega)) (fun f _ _ _ => up_r (by omega)) (fun j hj => up_r (by omega)) (fun j hj => up_r (by omega)), hG.congr (fun j _ hj => uS_o (by omega)) (fun e he => up_r (by omega)), hH.congr (fun j _ hj => uS_o (by omega)) (fun i hi f _ => up_r (by omega)), hD.congr (fun j _ hj => uS_o (by omega)) (fun d hd f _ => up_r (by omega)), ⟨hb, fun l hl f hf => ?_, fun l l' hl hl' => ?_⟩, hP.congr (fun j _ hj => uS_o (by omega)) (fun p hp f _ => up_r (by omega))⟩
  · have hil := hb.1 l hl
    by_cases q : l = k ∧ f = 4
    · obtain ⟨rfl, rfl⟩ := q
      rw [up_s, uS_s]
    · have : ¬ (60 + 7 * ι l + f = 60 + 7 * ι k + 4) := fun e => q ⟨hb.2.1 l k hl hk (by omega), by omega⟩
      rw [uS_o this, up_o (by omega)]; exact hJ l hl f hf
  · rw [up_f (by omega), up_f (by omega)]; exact hO l l' hl hl'
/-- blows, gone, late, minutes late -/
theorem Rel.numF (h : Rel A c m ι σ) (hc : c ≤ 10) {i : Nat} (hi : i < 4) {v : Int32} : Rel (aU A 0 (12 + i) v) c m ι (uS σ (9 + i) v) := by
  obtain ⟨⟨a1, a2, a3, a4, a5, a6, a7⟩, hG, hH, hD, hJ, hP⟩ := h
  refine ⟨⟨fun j hj => ?_, ?_, ?_, ?_, ?_, ?_, fun j hj => ?_⟩, hG.congr (fun j _ hj => uS_o (by omega)) (fun d hd => up_r (by omega)), hH.congr (fun j _ hj => uS_o (by omega)) (fun j hj f _ => up_r (by omega)), hD.congr (fun j _ hj => uS_o (by omega)) (fun d hd f _ => up_r (by omega)), hJ.congr hc (fun j _ hj => uS_o (by omega)) (fun k hk f _ => up_r (by omega)), hP.congr (fun j _ hj => uS_o (by omega)) (fun p hp f _ => up_r (by omega))⟩
  · rw [uS_o (by omega), up_f (by omega)]; exact a1 j hj
  · rw [uS_o (by omega)]; exact a2
  · rw [uS_o (by omega), up_f (by omega)]; exact a3
  · rw [uS_o (by omega), up_f (by omega)]; exact a4
  · rw [uS_o (by omega), madeA_congr (A := A) (fun j hj => up_r (by omega))]; exact a5
  · rw [uS_o (by omega), scrapA_congr (A := A) (fun j hj => up_r (by omega))]; exact a6
  · by_cases q : j = i
    · subst q; rw [uS_s, up_s]
    · rw [uS_o (by omega), up_f (by omega)]; exact a7 j hj
theorem uS_id {σ : Nat → Int32} {i : Nat} : uS σ i (σ i) = σ := by
  funext k
  unfold uS
  split
  · rename_i h; rw [h]
  · rfl
/-- the press is emptied -/
theorem Rel.pressed (h : Rel A c m ι σ) (hc : c ≤ 10) (hs : ∀ i, ¬ (130 + 4 * 6 ≤ i ∧ i < 134 + 4 * 6) → σ' i = σ i) (h0 : ∀ f, f < 4 → σ' (130 + 4 * 6 + f) = 0) : Rel (aU A 30 0 (-1)) c m ι σ' := by
  refine h.bil hc (fun i hi => hs i (by omega)) (fun r hr f => up_r (by omega)) (fun q hq => ?_)
  by_cases e : q = 6
  · subst e
    rw [up_s]
    refine ⟨?_, fun z => absurd rfl z⟩
    have := h0 0 (by omega)
    rw [Nat.add_zero] at this
    rw [this]; decide
  · refine ⟨?_, fun hn f hf h0 => ?_⟩
    · rw [hs _ (by omega), up_r (by omega)]; exact (h.2.2.2.2.2 q hq).1
    · rw [up_r (by omega)] at hn
      rw [hs _ (by omega), up_r (by omega)]; exact (h.2.2.2.2.2 q hq).2 hn f hf h0
theorem r_makes (hB : RB B) (hR : Rel A c m ι σ) (hI : iJ A c N) (hm : A 0 11 = m + 1) {k : Nat} (hk : k < c) {x : Int32} (hx : x = nI (ι k)) {P : Mem → Prop}
    (hp1 : A (13 + k) 4 + 1 < A (13 + k) 3 → ∀ σ', Rel (makeA A k) c m ι σ' → P (sM B σ')) (hp2 : ¬ A (13 + k) 4 + 1 < A (13 + k) 3 → ∀ ι' σ', Rel (remA (goneA (makeA A k) k) c k) (c - 1) m ι' σ' → P (sM B σ')) : wp_X7_makes 283 (sM B σ) 276 x P := by
  have hc := hI.1.2.1
  have hik := hR.2.2.2.2.1.1.1 k hk
  have hh := hI.1.h hk
  have hd := hI.1.d hk
  refine ⟨tp7, r_clears hB (p := 6) (by omega) rfl fun σ1 h1 h2 => ?_⟩
  have r1 := hR.pressed hc h1 h2
  have J1 : ∀ f, f < 7 → σ1 (60 + 7 * ι k + f) = A (13 + k) f := fun f hf => by rw [h1 _ (by omega)]; exact hR.job hk hf
  refine r_inc hB (i := 7) (by omega) rfl (g := fun z => z + 1) ?_
  have e2 : uS σ1 7 (σ1 7 + 1) (60 + 7 * ι k + 2) = nI (hj A k) := by rw [uS_o (by omega), J1 2 (by omega)]; exact hh.2
  have ix : (15 + 5 * uS σ1 7 (σ1 7 + 1) (60 + 7 * ι k + 2)) + 3 = nI (15 + 5 * hj A k + 3) := ix3 (a := 15) (b := 5) e2 rfl
  refine ⟨277, hB.1, r_job0 hB (k := ι k) (f := 2) (by omega) (by omega) hx rfl ⟨tp8, by rw [ix, len8]; exact vp_in_nI (by omega) (by omega), by rw [ix, len8]; exact vp_in_nI (by omega) (by omega), fun M15 e15 => ?_⟩⟩
  rw [ix, nI_clamp (by omega), sM_1, sM_uI, uS_o (by omega)] at e15
  rw [e15]
  have r2 := r1.heat3 hc hh.1 (v := 1)
  generalize hσ2 : uS (uS σ1 7 (σ1 7 + 1)) (15 + 5 * hj A k + 3) (σ1 (15 + 5 * hj A k + 3) + 1) = σ2 at r2 ⊢
  have J2 : ∀ f, f < 7 → σ2 (60 + 7 * ι k + f) = A (13 + k) f := fun f hf => by rw [← hσ2, uS_o (by omega), uS_o (by omega)]; exact J1 f hf
  have ix2 : (35 + 5 * σ2 (60 + 7 * ι k + 1)) + 3 = nI (35 + 5 * dj A k + 3) := ix3 (a := 35) (b := 5) (by rw [J2 1 (by omega)]; exact hd.2) rfl
  refine ⟨277, hB.1, r_job0 hB (k := ι k) (f := 1) (by omega) (by omega) hx rfl ⟨tp8, by rw [ix2, len8]; exact vp_in_nI (by omega) (by omega), by rw [ix2, len8]; exact vp_in_nI (by omega) (by omega), fun M22 e22 => ?_⟩⟩
  rw [ix2, nI_clamp (by omega), sM_1, sM_uI] at e22
  rw [e22]
  have s4 : σ2 (35 + 5 * dj A k + 3) = A (7 + dj A k) 4 := by
    rw [r2.2.2.2.1 _ hd.1 3 (by omega), up_r (by omega), up_r (by omega)]; rfl
  rw [s4]
  have r3 := r2.dieF hc hd.1 (f := 3) (by omega) (v := A (7 + dj A k) 4 + 1)
  generalize hσ3 : uS σ2 (35 + 5 * dj A k + 3) (A (7 + dj A k) 4 + 1) = σ3 at r3 ⊢
  have J3 : ∀ f, f < 7 → σ3 (60 + 7 * ι k + f) = A (13 + k) f := fun f hf => by rw [← hσ3, uS_o (by omega)]; exact J2 f hf
  have ix3' : (60 + 7 * x) + 4 = nI (60 + 7 * ι k + 4) := ix3 (a := 60) (b := 7) hx rfl
  refine r_inc hB (i := 60 + 7 * ι k + 4) (by omega) ix3' (g := fun z => z + 1) ?_
  rw [J3 4 (by omega)]
  have r4 := (r3.job4 hc hk (v := A (13 + k) 4 + 1)).job7 hc hk (v := A (13 + k) 7 - 1)
  generalize hσ4 : uS σ3 (60 + 7 * ι k + 4) (A (13 + k) 4 + 1) = σ4 at r4 ⊢
  have em : aU (aU (aU (aU (aU A 30 0 (-1)) (2 + hj A k) 3 (aU A 30 0 (-1) (2 + hj A k) 3 + 1)) (7 + dj A k) (dF 3) (A (7 + dj A k) 4 + 1)) (13 + k) 4 (A (13 + k) 4 + 1)) (13 + k) 7 (A (13 + k) 7 - 1) = makeA A k := by
    unfold makeA
    rw [up_r (by omega), show dF 3 = 4 from rfl, aU_comm (r := 13 + k) (f := 4) (r' := 13 + k) (f' := 7) (by omega), aU_comm (r := 7 + dj A k) (r' := 13 + k) (by omega), aU_comm (r := 2 + hj A k) (r' := 13 + k) (by omega), aU_comm (r := 7 + dj A k) (r' := 13 + k) (by omega), aU_comm (r := 2 + hj A k) (r' := 13 + k) (by omega)]
  rw [em] at r4
  have J4 : ∀ f, f < 7 → f ≠ 4 → σ4 (60 + 7 * ι k + f) = A (13 + k) f := fun f hf hne => by rw [← hσ4, uS_o (by omega)]; exact J3 f hf
  have J44 : σ4 (60 + 7 * ι k + 4) = A (13 + k) 4 + 1 := by rw [← hσ4, uS_s]
  obtain ⟨pp, mm, uu, ep, emm, eu, hlt, hp40, hu⟩ := hI.2.2.2.2.2.2 k hk
  refine r_job0 hB (k := ι k) (f := 4) (by omega) (by omega) hx rfl (r_job0 hB (k := ι k) (f := 3) (by omega) (by omega) hx rfl ?_)
  rw [J44, J4 3 (by omega) (by omega)]
  have lt_iff : A (13 + k) 4 + 1 < A (13 + k) 3 ↔ ¬ A (13 + k) 4 + 1 = A (13 + k) 3 := by
    rw [ep, emm, nI_1, nI_ltI (by omega) (by omega), nI_eq (by omega) (by omega)]
    omega
  refine ⟨fun e => hp1 (lt_iff.mpr e) σ4 r4, fun e => ?_⟩
  have e' : ¬ A (13 + k) 4 + 1 < A (13 + k) 3 := fun z => (lt_iff.mp z) e
  have hp2 := hp2 e'
  refine ⟨277, hB.1, tp8, by rw [len8]; exact vpI (i := 4) rfl (by omega) (by omega), r_job0 hB (k := ι k) (f := 5) (by omega) (by omega) hx rfl fun v hv => ?_⟩
  rw [sM_1, show (4 : Int32).toNatClampNeg = 4 from rfl] at hv
  have mJ : ∀ f, f ≠ 4 → f ≠ 7 → makeA A k (13 + k) f = A (13 + k) f := fun f h4 h7 => by
    unfold makeA
    rw [up_r (by omega), up_r (by omega), up_f (by omega), up_f (by omega), up_r (by omega)]
  have m0 : ∀ f, makeA A k 0 f = A 0 f := fun f => by
    unfold makeA
    rw [up_r (by omega), up_r (by omega), up_r (by omega), up_r (by omega), up_r (by omega)]
  have ev : v = lateV (makeA A k) k := by
    unfold lateV
    rw [hv, r4.1.2.1, J4 5 (by omega) (by omega), mJ 5 (by omega) (by omega), m0, hm]
  refine r_inc hB (i := 10) (by omega) rfl (g := fun z => z + 1) (r_inc hB (i := 11) (by omega) rfl (g := fun z => z + _) (r_inc hB (i := 12) (by omega) rfl (g := fun z => z + _) ?_))
  have s10 : σ4 10 = makeA A k 0 13 := r4.1.2.2.2.2.2.2 1 (by omega)
  have s11 : σ4 11 = makeA A k 0 14 := r4.1.2.2.2.2.2.2 2 (by omega)
  have s12 : σ4 12 = makeA A k 0 15 := r4.1.2.2.2.2.2.2 3 (by omega)
  have r5 : Rel (goneA (makeA A k) k) c m ι (uS (uS (uS σ4 10 (σ4 10 + 1)) 11 (uS σ4 10 (σ4 10 + 1) 11 + bI (if v ≤ 0 then false else true))) 12 (uS (uS σ4 10 (σ4 10 + 1)) 11 (uS σ4 10 (σ4 10 + 1) 11 + bI (if v ≤ 0 then false else true)) 12 + (if v ≤ 0 then 0 else v))) := by
    have r := r4.numF hc (i := 1) (by omega) (v := makeA A k 0 13 + 1)
    unfold goneA
    rw [← ev]
    by_cases q : v ≤ 0
    · rw [if_pos q, if_pos q, if_pos q, show bI false = 0 from rfl, Int32.add_zero, Int32.add_zero, uS_id, uS_id, s10]
      exact r
    · rw [if_neg q, if_neg q, if_neg q, show bI true = 1 from rfl]
      have r' := (r.numF hc (i := 2) (by omega) (v := makeA A k 0 14 + 1)).numF hc (i := 3) (by omega) (v := makeA A k 0 15 + v)
      rw [uS_o (by omega), uS_o (by omega), uS_o (by omega), s10, s11, s12]
      exact r'
  generalize uS (uS (uS σ4 10 (σ4 10 + 1)) 11 (uS σ4 10 (σ4 10 + 1) 11 + bI (if v ≤ 0 then false else true))) 12 (uS (uS σ4 10 (σ4 10 + 1)) 11 (uS σ4 10 (σ4 10 + 1) 11 + bI (if v ≤ 0 then false else true)) 12 + (if v ≤ 0 then 0 else v)) = σ5 at r5 ⊢
  have c5 : σ5 5 = nI c := by
    rw [r5.1.2.2.1]
    unfold goneA
    split
    · rw [up_f (by omega), m0]; exact hI.1.1
    · rw [up_f (by omega), up_f (by omega), up_f (by omega), m0]; exact hI.1.1
  refine r_dropsJob hB c5 hc hik hx fun σ' h5 ho hj => ?_
  obtain ⟨ι', hr⟩ := r5.removed hc hk h5 ho hj
  exact hp2 ι' σ' hr
end RPR
