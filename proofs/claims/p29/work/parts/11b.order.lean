/-! The order of the jobs: swaps, settling, removing; adding and dropping a job; copies. -/
def bef (x y : Nat → Int32) : Bool := if (x 6 != 0) = (y 6 != 0) then (if x 5 = y 5 then !decide (y 0 ≤ x 0) else !decide (y 5 ≤ x 5)) else x 6 != 0
def rk (x : Int32) : Int := if x = 0 then 1 else 0
theorem bef_iff {x y : Nat → Int32} : bef x y = true ↔ rk (x 6) < rk (y 6) ∨ (rk (x 6) = rk (y 6) ∧ ((x 5).toInt < (y 5).toInt ∨ ((x 5).toInt = (y 5).toInt ∧ (x 0).toInt < (y 0).toInt))) := by
  have e5 : x 5 = y 5 ↔ (x 5).toInt = (y 5).toInt := Int32.toInt_inj.symm
  have l5 : y 5 ≤ x 5 ↔ (y 5).toInt ≤ (x 5).toInt := Int32.le_iff_toInt_le
  have l0 : y 0 ≤ x 0 ↔ (y 0).toInt ≤ (x 0).toInt := Int32.le_iff_toInt_le
  have k6 : ∀ z : Int32, ((z != 0) = true ∧ rk z = 0) ∨ ((z != 0) = false ∧ rk z = 1) := by
    intro z
    unfold rk
    by_cases h : z = 0
    · subst h; right; decide
    · left; simp [h]
  have m5 : x 5 < y 5 ↔ (x 5).toInt < (y 5).toInt := Int32.lt_iff_toInt_lt
  have m0 : x 0 < y 0 ↔ (x 0).toInt < (y 0).toInt := Int32.lt_iff_toInt_lt
  unfold bef
  by_cases h5 : x 5 = y 5
  · have h5' := e5.mp h5
    rcases k6 (x 6) with ⟨hx, rx⟩ | ⟨hx, rx⟩ <;> rcases k6 (y 6) with ⟨hy, ry⟩ | ⟨hy, ry⟩ <;> rw [hx, hy, rx, ry] <;> simp [h5, l0, m0]
  · have h5' : ¬ (x 5).toInt = (y 5).toInt := fun q => h5 (e5.mpr q)
    rcases k6 (x 6) with ⟨hx, rx⟩ | ⟨hx, rx⟩ <;> rcases k6 (y 6) with ⟨hy, ry⟩ | ⟨hy, ry⟩ <;> rw [hx, hy, rx, ry] <;> simp [h5, h5', l5, m5]
theorem bef_trans {x y z : Nat → Int32} (h : bef x y = true) (k : bef y z = true) : bef x z = true := by
  rw [bef_iff] at h k ⊢
  omega
theorem bef_asymm {x y : Nat → Int32} (h : bef x y = true) : bef y x = false := by
  cases e : bef y x
  · rfl
  · rw [bef_iff] at h e
    omega
theorem bef_total {x y : Nat → Int32} (h : bef x y = false) (hn : x 0 ≠ y 0) : bef y x = true := by
  have hn' : (x 0).toInt ≠ (y 0).toInt := fun e => hn (Int32.toInt_inj.mp e)
  cases e : bef y x
  · exfalso
    have h1 : ¬ bef x y = true := by rw [h]; decide
    have h2 : ¬ bef y x = true := by rw [e]; decide
    rw [bef_iff] at h1 h2
    omega
  · rfl
def rowsP (A : Ab) (ρ : Nat → Nat) : Ab := fun r f => if 13 ≤ r ∧ r < 23 then A (13 + ρ (r - 13)) f else A r f
theorem rowsP_J {A : Ab} {ρ : Nat → Nat} {k : Nat} (hk : k < 10) : rowsP A ρ (13 + k) = A (13 + ρ k) := by
  funext f
  unfold rowsP
  rw [if_pos (by omega), show 13 + k - 13 = k by omega]
theorem rowsP_o {A : Ab} {ρ : Nat → Nat} {r : Nat} (h : ¬ (13 ≤ r ∧ r < 23)) : rowsP A ρ r = A r := by
  funext f
  unfold rowsP
  rw [if_neg h]
theorem rowsP_id {A : Ab} {ρ : Nat → Nat} (h : ∀ k, k < 10 → ρ k = k) : rowsP A ρ = A := by
  funext r f
  unfold rowsP
  split
  · rename_i hr
    rw [h _ (by omega)]
    congr 1; omega
  · rfl
def mv (i p k : Nat) : Nat := if k = p then i else if i ≤ k ∧ k < p then k + 1 else if p < k ∧ k ≤ i then k - 1 else k
def sw (a b k : Nat) : Nat := if k = a then b else if k = b then a else k
theorem prm_sw {a b : Nat} (ha : a < 10) (hb : b < 10) : prm (sw a b) := by
  unfold prm sw
  constructor
  · intro k hk
    (repeat' split) <;> omega
  · intro k j hk hj h
    (repeat' split at h) <;> omega
theorem mv_self {i k : Nat} : mv i i k = k := by
  unfold mv
  (repeat' split) <;> omega
theorem mv_up {i p k : Nat} (h : i ≤ p) : mv i p (sw p (p + 1) k) = mv i (p + 1) k := by
  unfold mv sw
  (repeat' split) <;> omega
theorem mv_down {i p k : Nat} (h : p ≤ i) (h0 : 0 < p) : mv i p (sw p (p - 1) k) = mv i (p - 1) k := by
  unfold mv sw
  (repeat' split) <;> omega
theorem prm_comp {π ρ : Nat → Nat} (h : prm π) (k : prm ρ) : prm (fun j => π (ρ j)) := ⟨fun j hj => h.1 _ (k.1 j hj), fun a b ha hb e => k.2 a b ha hb (h.2 _ _ (k.1 a ha) (k.1 b hb) e)⟩
section ORD
variable {B M M' : Mem} {S : Nat} {π : Nat → Nat} {A : Ab} {c : Nat}
theorem CF.rows (h : CF B M S π A) {ρ : Nat → Nat} (hρ : prm ρ) (e1 : M'.1 = M.1) (e2 : ∀ a k, M'.2.1 a k = if a = S + 12 ∧ k < 10 then some (S + 13 + π (ρ k)) else M.2.1 a k) (e3 : M'.2.2 = M.2.2) : CF B M' S (fun k => π (ρ k)) (rowsP A ρ) := by
  obtain ⟨h1, h2, ⟨r0, r1, r2, r3, r4, r5, r6, r7, r8, r9, r10, r11⟩, h4, h5⟩ := h
  refine ⟨h1, prm_comp h2 hρ, ⟨?_, ?_, ?_, ?_, ?_, ?_, ?_, ?_, ?_, ?_, ?_, ?_⟩, ?_, ?_⟩
  · rw [e2, if_neg (by omega)]; exact r0
  · rw [e2, if_neg (by omega)]; exact r1
  · rw [e2, if_neg (by omega)]; exact r2
  · rw [e2, if_neg (by omega)]; exact r3
  · rw [e2, if_neg (by omega)]; exact r4
  · rw [e2, if_neg (by omega)]; exact r5
  · rw [e2, if_neg (by omega)]; exact r6
  · rw [e2, if_neg (by omega)]; exact r7
  · intro k hk; rw [e2, if_neg (by omega)]; exact r8 k hk
  · intro k hk; rw [e2, if_neg (by omega)]; exact r9 k hk
  · intro k hk; rw [e2, if_pos (by omega)]
  · intro k hk; rw [e2, if_neg (by omega)]; exact r11 k hk
  · intro r hr f
    rw [e1]
    by_cases hj : 13 ≤ r ∧ r < 23
    · have e : r = 13 + (r - 13) := by omega
      rw [e, adrJ (by omega), rowsP_J (by omega)]
      have := h4 (13 + ρ (r - 13)) (by have := hρ.1 (r - 13) (by omega); omega) f
      rwa [adrJ (hρ.1 _ (by omega))] at this
    · rw [adrO hj, rowsP_o hj]
      have := h4 r hr f
      rwa [adrO hj] at this
  · refine ⟨fun a ha => ⟨by rw [e1]; exact (h5.1 a ha).1, ?_⟩, e3.trans h5.2⟩
    funext k
    rw [e2, if_neg (by omega), (h5.1 a ha).2]
theorem x_swapJobs (h : CF B M S π A) {a b : Nat} (ha : a < 10) (hb : b < 10) {x y : Int32} (hx : x = nI a) (hy : y = nI b) {P : Mem → Prop} (hp : ∀ M', CF B M' S (fun k => π (sw a b k)) (rowsP A (sw a b)) → M'.1 = M.1 → P M') : wp_X5_swapJobs 278 M S x y P := by
  subst hx hy
  have hl : m_len (S + 12) = 10 := lenS h.1 (by omega)
  have ht : m_tp 278 (S + 12) 14 := tpS h.1 (by omega) rfl
  obtain ⟨r0, r1, r2, r3, r4, r5, r6, r7, r8, r9, r10, r11⟩ := h.2.2.1
  have hN : (nI a).toNatClampNeg = a := nI_clamp (by omega)
  have hN' : (nI b).toNatClampNeg = b := nI_clamp (by omega)
  have hva : vp_in (nI a) (m_len (S + 12)) := by rw [hl]; exact vp_in_nI ha (by omega)
  have hvb : vp_in (nI b) (m_len (S + 12)) := by rw [hl]; exact vp_in_nI hb (by omega)
  unfold wp_X5_swapJobs
  refine ⟨fun q => absurd q (nI_pos (by omega)), fun _ => ⟨h.tp0, S + 12, r2, ht, fun q => absurd q (by rw [hl]; exact cLt rfl rfl ha (by omega)), fun _ => ⟨fun q => absurd q (nI_pos (by omega)), fun _ => ⟨S + 12, r2, ht, fun q => absurd q (by rw [hl]; exact cLt rfl rfl hb (by omega)), fun _ => ⟨S + 12, r2, ht, hva, S + 13 + π a, by rw [hN]; exact r10 a ha, S + 12, r2, S + 12, r2, ht, hvb, S + 13 + π b, by rw [hN']; exact r10 b hb, ht, h.tpJ hb, hva, fun M1 e1 => ⟨S + 12, ?_, ht, h.tpJ ha, hvb, fun M2 e2 => ?_⟩⟩⟩⟩⟩⟩
  · rw [e1, uR_o (by omega)]; exact r2
  · rw [hN] at e1
    rw [hN'] at e2
    refine hp M2 (h.rows (prm_sw ha hb) ?_ ?_ ?_) ?_
    · rw [e2, e1]; rfl
    · intro q k
      rw [e2, e1]
      simp only [uR]
      by_cases hq : q = S + 12
      · subst hq
        by_cases hk : k < 10
        · unfold sw
          by_cases k1 : k = b
          · subst k1
            by_cases k2 : k = a
            · subst k2; simp [hk]
            · simp [k2, hk]
          · by_cases k2 : k = a
            · subst k2; simp [k1, hk]
            · simp [k1, k2, hk, r10 k hk]
        · have k1 : k ≠ b := by omega
          have k2 : k ≠ a := by omega
          simp [k1, k2, hk]
      · simp [hq]
    · rw [e2, e1]; rfl
    · rw [e2, e1]; rfl
theorem x_comesBefore (h : CF B M S π A) {a b : Nat} (ha : a < 10) (hb : b < 10) {P : Bool → Mem → Prop} (hp : P (bef (A (13 + a)) (A (13 + b))) M) : wp_X3_comesBefore 278 M (S + 13 + π a) (S + 13 + π b) P := by
  refine ⟨h.tpJ ha, h.tpJ hb, ?_⟩
  simp only [h.J ha, h.J hb]
  unfold bef at hp
  have key : (bI (A (13 + a) 6 != 0) = bI (A (13 + b) 6 != 0)) ↔ ((A (13 + a) 6 != 0) = (A (13 + b) 6 != 0)) := by
    cases (A (13 + a) 6 != 0) <;> cases (A (13 + b) 6 != 0) <;> decide
  refine ⟨fun e => ⟨fun e5 => ?_, fun e5 => ?_⟩, fun e => ?_⟩
  · rw [if_pos (key.mp e), if_pos e5] at hp
    by_cases q : A (13 + b) 0 ≤ A (13 + a) 0
    · simpa [q] using hp
    · simpa [q] using hp
  · rw [if_pos (key.mp e), if_neg e5] at hp
    by_cases q : A (13 + b) 5 ≤ A (13 + a) 5
    · simpa [q] using hp
    · simpa [q] using hp
  · rwa [if_neg (fun q => e (key.mpr q))] at hp
def srt (A : Ab) (c : Nat) : Prop := ∀ a b, a < b → b < c → bef (A (13 + a)) (A (13 + b)) = true
def srtX (A : Ab) (c i : Nat) : Prop := ∀ a b, a < b → b < c → a ≠ i → b ≠ i → bef (A (13 + a)) (A (13 + b)) = true
/-- sorted again behind the move of i to p -/
theorem srt_mv {i p : Nat} (hc : c ≤ 10) (hi : i < c) (hp : p < c) (hx : srtX A c i) (h1 : ∀ k, k < c → k ≠ i → (p ≤ k ∧ k < i ∨ p < k ∧ i < k) → bef (A (13 + i)) (A (13 + k)) = true) (h2 : ∀ k, k < c → k ≠ i → (k < p ∧ k < i ∨ i < k ∧ k ≤ p) → bef (A (13 + k)) (A (13 + i)) = true) : srt (rowsP A (mv i p)) c := by
  intro a b hab hb
  rw [rowsP_J (by omega), rowsP_J (by omega)]
  unfold mv
  by_cases ea : a = p
  · subst ea
    rw [if_pos rfl, if_neg (by omega)]
    by_cases q1 : i ≤ b ∧ b < a
    · omega
    · rw [if_neg q1]
      by_cases q2 : a < b ∧ b ≤ i
      · rw [if_pos q2]
        exact h1 (b - 1) (by omega) (by omega) (Or.inl (by omega))
      · rw [if_neg q2]
        exact h1 b (by omega) (by omega) (Or.inr (by omega))
  · rw [if_neg ea]
    by_cases eb : b = p
    · subst eb
      rw [if_pos rfl]
      by_cases q1 : i ≤ a ∧ a < b
      · rw [if_pos q1]
        exact h2 (a + 1) (by omega) (by omega) (Or.inr (by omega))
      · rw [if_neg q1]
        by_cases q2 : b < a ∧ a ≤ i
        · omega
        · rw [if_neg q2]
          exact h2 a (by omega) (by omega) (Or.inl (by omega))
    · rw [if_neg eb]
      by_cases q1 : i ≤ a ∧ a < p
      · rw [if_pos q1]
        by_cases q3 : i ≤ b ∧ b < p
        · rw [if_pos q3]; exact hx _ _ (by omega) (by omega) (by omega) (by omega)
        · rw [if_neg q3]
          by_cases q4 : p < b ∧ b ≤ i
          · omega
          · rw [if_neg q4]; exact hx _ _ (by omega) (by omega) (by omega) (by omega)
      · rw [if_neg q1]
        by_cases q2 : p < a ∧ a ≤ i
        · rw [if_pos q2]
          by_cases q3 : i ≤ b ∧ b < p
          · omega
          · rw [if_neg q3]
            by_cases q4 : p < b ∧ b ≤ i
            · rw [if_pos q4]; exact hx _ _ (by omega) (by omega) (by omega) (by omega)
            · rw [if_neg q4]; exact hx _ _ (by omega) (by omega) (by omega) (by omega)
        · rw [if_neg q2]
          by_cases q3 : i ≤ b ∧ b < p
          · rw [if_pos q3]; exact hx _ _ (by omega) (by omega) (by omega) (by omega)
          · rw [if_neg q3]
            by_cases q4 : p < b ∧ b ≤ i
            · rw [if_pos q4]; exact hx _ _ (by omega) (by omega) (by omega) (by omega)
            · rw [if_neg q4]; exact hx _ _ (by omega) (by omega) (by omega) (by omega)
theorem mv_at {i p : Nat} : mv i p p = i := by unfold mv; simp
theorem CF.mvSelf (h : CF B M S π A) (i : Nat) : CF B M S (fun k => π (mv i i k)) (rowsP A (mv i i)) := by
  rw [rowsP_id (fun k _ => mv_self)]
  simpa only [mv_self] using h
theorem rowsP_comp {ρ τ : Nat → Nat} (hτ : prm τ) : rowsP (rowsP A ρ) τ = rowsP A (fun k => ρ (τ k)) := by
  funext r f
  by_cases hr : 13 ≤ r ∧ r < 23
  · have e : r = 13 + (r - 13) := by omega
    rw [e, rowsP_J (by omega), rowsP_J (hτ.1 _ (by omega)), rowsP_J (by omega)]
  · rw [rowsP_o hr, rowsP_o hr, rowsP_o hr]
/-- the job at the place i finds its place; all others keep their order -/
theorem x_settle (h : CF B M S π A) (hc0 : A 0 5 = nI c) (hc : c ≤ 10) {i : Nat} (hi : i < c) (hx : srtX A c i) (hd : ∀ k, k < c → k ≠ i → A (13 + k) 0 ≠ A (13 + i) 0) {x : Int32} (hxi : x = nI i) {P : Int32 → Mem → Prop}
    (hp : ∀ p M', p < c → CF B M' S (fun k => π (mv i p k)) (rowsP A (mv i p)) → M'.1 = M.1 → srt (rowsP A (mv i p)) c → P (nI p) M') : wp_X5_settle 278 M S x P := by
  subst hxi
  have L2 : ∀ f p (M1 : Mem), p + f + 1 = c → i ≤ p → CF B M1 S (fun k => π (mv i p k)) (rowsP A (mv i p)) → M1.1 = M.1 → (∀ k, k < i → bef (A (13 + k)) (A (13 + i)) = true) → (∀ k, i < k → k ≤ p → bef (A (13 + k)) (A (13 + i)) = true) → wpL_X5_settle_38 278 P (f + 1) M1 S (nI p) := by
    intro f
    induction f with
    | zero =>
      intro p M1 hpf hip h1 e1 hlo hmid
      refine ⟨h1.tp0, fun _ => hp p M1 (by omega) h1 e1 (srt_mv hc hi (by omega) hx (fun k hk hki q => by omega) (fun k hk hki q => ?_)), fun q => absurd (cGe (n := c - 1) (i := p) ?_ rfl (by omega) (by omega)) q⟩
      · rcases q with ⟨q1, q2⟩ | ⟨q1, q2⟩
        · exact hlo k q2
        · exact hmid k q1 q2
      · rw [(h1.N 5), rowsP_o (by omega), hc0]
        have : c = (c - 1) + 1 := by omega
        rw [this, nI_pred]; rfl
    | succ f ih =>
      intro p M1 hpf hip h1 e1 hlo hmid
      refine ⟨h1.tp0, fun q => absurd q (cLt (n := c - 1) (i := p) ?_ rfl (by omega) (by omega)), fun _ => x_jobAt h1 (k := p + 1) (by omega) (nI_1 p) (x_jobAt h1 (k := p) (by omega) rfl ⟨h1.tpJ (by omega), x_comesBefore h1 (by omega) (by omega) ⟨fun eb => ?_, fun eb => ?_⟩⟩)⟩
      · rw [(h1.N 5), rowsP_o (by omega), hc0]
        have : c = (c - 1) + 1 := by omega
        rw [this, nI_pred]; rfl
      · rw [rowsP_J (by omega), rowsP_J (by omega), mv_at, show mv i p (p + 1) = p + 1 by unfold mv; (repeat' split) <;> omega] at eb
        have hb := bef_total eb (hd (p + 1) (by omega) (by omega))
        refine hp p M1 (by omega) h1 e1 (srt_mv hc hi (by omega) hx (fun k hk hki q => ?_) (fun k hk hki q => ?_))
        · by_cases e : k = p + 1
          · subst e; exact hb
          · exact bef_trans hb (hx _ _ (by omega) hk (by omega) hki)
        · rcases q with ⟨q1, q2⟩ | ⟨q1, q2⟩
          · exact hlo k q2
          · exact hmid k q1 q2
      · rw [rowsP_J (by omega), rowsP_J (by omega), mv_at, show mv i p (p + 1) = p + 1 by unfold mv; (repeat' split) <;> omega] at eb
        refine x_swapJobs h1 (a := p) (b := p + 1) (by omega) (by omega) rfl (nI_1 p) fun M2 h2 e2 v hv => ?_
        rw [rowsP_comp (prm_sw (by omega) (by omega))] at h2
        simp only [mv_up hip] at h2
        rw [hv, nI_1]
        refine ih (p + 1) M2 (by omega) (by omega) h2 (e2.trans e1) hlo (fun k hk1 hk2 => ?_)
        by_cases e : k = p + 1
        · subst e; exact eb
        · exact hmid k hk1 (by omega)
  have L1 : ∀ f p (M1 : Mem), p = f → p ≤ i → CF B M1 S (fun k => π (mv i p k)) (rowsP A (mv i p)) → M1.1 = M.1 → (∀ k, p ≤ k → k < i → bef (A (13 + i)) (A (13 + k)) = true) → wpL_X5_settle_2 278 P (f + 1) M1 S (nI p) := by
    have stop : ∀ p (M1 : Mem), p ≤ i → CF B M1 S (fun k => π (mv i p k)) (rowsP A (mv i p)) → M1.1 = M.1 → (∀ k, p ≤ k → k < i → bef (A (13 + i)) (A (13 + k)) = true) → (∀ k, k < p → bef (A (13 + k)) (A (13 + i)) = true) → ∃ f, wpL_X5_settle_38 278 P f M1 S (nI p) := by
      intro p M1 hpi h1 e1 hmid hlo
      by_cases e : p = i
      · subst e
        exact ⟨c - p - 1 + 1, L2 (c - p - 1) p M1 (by omega) (by omega) h1 e1 hlo (fun k _ _ => by omega)⟩
      · refine ⟨1, h1.tp0, fun q => absurd q (cLt (n := c - 1) (i := p) ?_ rfl (by omega) (by omega)), fun _ => x_jobAt h1 (k := p + 1) (by omega) (nI_1 p) (x_jobAt h1 (k := p) (by omega) rfl ⟨h1.tpJ (by omega), x_comesBefore h1 (by omega) (by omega) ⟨fun eb => ?_, fun eb => ?_⟩⟩)⟩
        · rw [(h1.N 5), rowsP_o (by omega), hc0]
          have : c = (c - 1) + 1 := by omega
          rw [this, nI_pred]; rfl
        · refine hp p M1 (by omega) h1 e1 (srt_mv hc hi (by omega) hx (fun k hk hki q => ?_) (fun k hk hki q => ?_))
          · rcases q with ⟨q1, q2⟩ | ⟨q1, q2⟩
            · exact hmid k q1 q2
            · exact bef_trans (hmid (i - 1) (by omega) (by omega)) (hx _ _ (by omega) hk (by omega) hki)
          · rcases q with ⟨q1, q2⟩ | ⟨q1, q2⟩
            · exact hlo k q1
            · omega
        · exfalso
          rw [rowsP_J (by omega), rowsP_J (by omega), mv_at, show mv i p (p + 1) = p by unfold mv; (repeat' split) <;> omega] at eb
          have := bef_asymm (hmid p (by omega) (by omega))
          rw [eb] at this
          exact absurd this (by decide)
    intro f
    induction f with
    | zero =>
      intro p M1 hpf hpi h1 e1 hmid
      subst hpf
      exact ⟨fun _ => stop 0 M1 hpi h1 e1 hmid (fun k hk => by omega), fun q => absurd (by decide) q⟩
    | succ f ih =>
      intro p M1 hpf hpi h1 e1 hmid
      subst hpf
      refine ⟨fun q => absurd q (nI_nle (by omega) (by omega)), fun _ => ⟨h1.tp0, x_jobAt h1 (k := f + 1) (by omega) rfl (x_jobAt h1 (k := f) (by omega) (nI_pred f) ⟨h1.tpJ (by omega), x_comesBefore h1 (by omega) (by omega) ⟨fun eb => ?_, fun eb => ?_⟩⟩)⟩⟩
      · rw [rowsP_J (by omega), rowsP_J (by omega), mv_at, show mv i (f + 1) f = f by unfold mv; (repeat' split) <;> omega] at eb
        refine stop (f + 1) M1 hpi h1 e1 hmid (fun k hk => ?_)
        have hb := bef_total eb (fun e => hd f (by omega) (by omega) e.symm)
        by_cases e : k = f
        · subst e; exact hb
        · exact bef_trans (hx k f (by omega) (by omega) (by omega) (by omega)) hb
      · rw [rowsP_J (by omega), rowsP_J (by omega), mv_at, show mv i (f + 1) f = f by unfold mv; (repeat' split) <;> omega] at eb
        refine x_swapJobs h1 (a := f + 1) (b := f) (by omega) (by omega) rfl (nI_pred f) fun M2 h2 e2 v hv => ?_
        rw [rowsP_comp (prm_sw (by omega) (by omega))] at h2
        have hm : ∀ k, mv i (f + 1) (sw (f + 1) f k) = mv i f k := fun k => mv_down (p := f + 1) hpi (by omega)
        simp only [hm] at h2
        rw [hv, show nI (f + 1) + (-1) = nI f from by rw [← nI_pred f, Int32.sub_eq_add_neg]]
        refine ih f M2 rfl (by omega) h2 (e2.trans e1) (fun k hk1 hk2 => ?_)
        by_cases e : k = f
        · subst e; exact eb
        · exact hmid k (by omega) hk2
  exact ⟨i + 1, L1 i i M rfl (Nat.le_refl i) (h.mvSelf i) rfl (fun k _ _ => by omega)⟩
end ORD
