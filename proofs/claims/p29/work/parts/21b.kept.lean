/-! What else is kept: billets, dies, counts, and what became of the billets. -/
def Jx (A : Ab) (q : Nat) : Prop := ∀ p, p < 7 → p ≠ q → A (24 + p) 0 ≠ -1 → ∃ t r, A (24 + p) 1 = nI t ∧ 20 ≤ t ∧ t ≤ 1250 ∧ A (24 + p) 2 = nI r ∧ r ≤ 3
def Jd (A : Ab) : Prop := ∀ d, d < 5 → ∃ l, A (7 + d) 1 = nI l ∧ 10 ≤ l ∧ l ≤ 300
def Jc (A : Ab) (T U : Nat) : Prop := ∃ a b e t, A 0 13 = nI a ∧ A 0 14 = nI b ∧ A 0 15 = nI e ∧ A 0 11 = nI t ∧ b ≤ a ∧ b ≤ e ∧ a ≤ T ∧ t ≤ U ∧ e ≤ T * U
/-- all but the billet of the place q -/
def Kx (A : Ab) (c T U q : Nat) (τ : Nat → Int32) : Prop := Jx A q ∧ Jd A ∧ Jc A T U ∧ dieS A = madeS A ∧ ∀ h, h < 4 → tot A c h = τ h
def Kv (A : Ab) (c T U : Nat) (τ : Nat → Int32) : Prop := Kx A c T U 7 τ
section KVS
variable {A A' : Ab} {c T U T' U' q k p : Nat} {τ : Nat → Int32}
theorem Jx.congr (h : Jx A q) (hB : ∀ p, p < 7 → p ≠ q → ∀ f, f < 3 → A' (24 + p) f = A (24 + p) f) : Jx A' q := fun p hp hq h0 => by
  rw [hB p hp hq 0 (by omega)] at h0
  rw [hB p hp hq 1 (by omega), hB p hp hq 2 (by omega)]
  exact h p hp hq h0
/-- the place left out is empty -/
theorem Jx.full (h : Jx A q) (q' : Nat) (hq : A (24 + q) 0 = -1) : Jx A q' := fun p hp _ h0 => by
  by_cases e : p = q
  · subst e; exact absurd hq h0
  · exact h p hp e h0
theorem Jx.rest (h : Jx A 7) (q' : Nat) : Jx A q' := fun p hp _ h0 => h p hp (by omega) h0
theorem Jd.congr (h : Jd A) (hD : ∀ d, d < 5 → A' (7 + d) 1 = A (7 + d) 1) : Jd A' := fun d hd => by rw [hD d hd]; exact h d hd
theorem Jc.congr (h : Jc A T U) (h0 : ∀ f, f = 11 ∨ f = 13 ∨ f = 14 ∨ f = 15 → A' 0 f = A 0 f) : Jc A' T U := by
  unfold Jc
  rw [h0 11 (by omega), h0 13 (by omega), h0 14 (by omega), h0 15 (by omega)]
  exact h
theorem Jc.mono (h : Jc A T U) (hT : T ≤ T') (hU : U ≤ U') : Jc A T' U' := by
  obtain ⟨a, b, e, t, e1, e2, e3, e4, h1, h2, h3, h4, h5⟩ := h
  exact ⟨a, b, e, t, e1, e2, e3, e4, h1, h2, by omega, by omega, Nat.le_trans h5 (Nat.mul_le_mul hT hU)⟩
theorem dies_congr (hD : ∀ d, d < 5 → A' (7 + d) 4 = A (7 + d) 4) : dieS A' = dieS A := sumN_congr hD
theorem mades_congr (hH : ∀ i, i < 4 → A' (2 + i) 3 = A (2 + i) 3) : madeS A' = madeS A := sumN_congr hH
theorem dm_congr (h : dieS A = madeS A) (hD : ∀ d, d < 5 → A' (7 + d) 4 = A (7 + d) 4) (hH : ∀ i, i < 4 → A' (2 + i) 3 = A (2 + i) 3) : dieS A' = madeS A' := by rw [dies_congr hD, mades_congr hH]; exact h
theorem tot_congr (hH : ∀ i, i < 4 → ∀ f, f = 0 ∨ f = 3 ∨ f = 4 → A' (2 + i) f = A (2 + i) f) (hJ : ∀ k, k < c → A' (13 + k) 2 = A (13 + k) 2 ∧ A' (13 + k) 7 = A (13 + k) 7) {h : Nat} (hh : h < 4) : tot A' c h = tot A c h := by
  unfold tot
  rw [hH h hh 0 (by omega), hH h hh 3 (by omega), hH h hh 4 (by omega), sumN_congr (t' := bt A' (nI h)) (t := bt A (nI h)) (fun k hk => by unfold bt; rw [(hJ k hk).1, (hJ k hk).2])]
theorem Kx.congr (h : Kx A c T U q τ) (h0 : ∀ f, f = 11 ∨ f = 13 ∨ f = 14 ∨ f = 15 → A' 0 f = A 0 f) (hH : ∀ i, i < 4 → ∀ f, f = 0 ∨ f = 3 ∨ f = 4 → A' (2 + i) f = A (2 + i) f) (hD : ∀ d, d < 5 → A' (7 + d) 1 = A (7 + d) 1 ∧ A' (7 + d) 4 = A (7 + d) 4) (hJ : ∀ k, k < c → A' (13 + k) 2 = A (13 + k) 2 ∧ A' (13 + k) 7 = A (13 + k) 7) (hB : ∀ p, p < 7 → p ≠ q → ∀ f, f < 3 → A' (24 + p) f = A (24 + p) f) : Kx A' c T U q τ :=
  ⟨h.1.congr hB, h.2.1.congr fun d hd => (hD d hd).1, h.2.2.1.congr h0, dm_congr h.2.2.2.1 (fun d hd => (hD d hd).2) (fun i hi => hH i hi 3 (by omega)), fun i hi => (tot_congr hH hJ hi).trans (h.2.2.2.2 i hi)⟩
theorem Kx.mono (h : Kx A c T U q τ) (hT : T ≤ T') (hU : U ≤ U') : Kx A c T' U' q τ := ⟨h.1, h.2.1, h.2.2.1.mono hT hU, h.2.2.2⟩
theorem Kx.full (h : Kx A c T U q τ) (q' : Nat) (hq : A (24 + q) 0 = -1) : Kx A c T U q' τ := ⟨h.1.full q' hq, h.2⟩
theorem Kv.x (h : Kv A c T U τ) (q' : Nat) : Kx A c T U q' τ := ⟨h.1.rest q', h.2⟩
theorem Kv.copy (h : Kv A c T U τ) (hC : Cp A' A c) : Kv A' c T U τ :=
  Kx.congr h (fun f hf => hC.1 f (by omega) (by omega)) (fun i hi f hf => hC.2.1 i hi f (by omega)) (fun d hd => ⟨hC.2.2.1 d hd 1 (by omega), hC.2.2.1 d hd 4 (by omega)⟩) (fun k hk => ⟨hC.2.2.2.1 k hk 2 (by omega), hC.2.2.2.1 k hk 7 (by omega)⟩) (fun p hp _ f hf => hC.2.2.2.2 p hp f (by omega))
theorem Kv.tick (h : Kv A c T U τ) (hc : c ≤ 10) : Kv (aTick A) c T (U + 1) τ := by
  have o : ∀ r f, ¬ (r = 0 ∧ f = 11) → aTick A r f = A r f := fun r f hr => up_o hr
  refine ⟨h.1.congr fun p hp _ f hf => o _ _ (by omega), h.2.1.congr fun d hd => o _ _ (by omega), ?_, dm_congr h.2.2.2.1 (fun d hd => o _ _ (by omega)) (fun i hi => o _ _ (by omega)), fun i hi => (tot_congr (fun i hi f hf => o _ _ (by omega)) (fun k hk => ⟨o _ _ (by omega), o _ _ (by omega)⟩) hi).trans (h.2.2.2.2 i hi)⟩
  obtain ⟨a, b, e, t, e1, e2, e3, e4, h1, h2, h3, h4, h5⟩ := h.2.2.1
  refine ⟨a, b, e, t + 1, (o _ _ (by omega)).trans e1, (o _ _ (by omega)).trans e2, (o _ _ (by omega)).trans e3, ?_, h1, h2, h3, by omega, Nat.le_trans h5 (Nat.mul_le_mul_left _ (by omega))⟩
  show aU A 0 11 (A 0 11 + 1) 0 11 = _
  rw [up_s, e4, nI_1]
theorem Kv.warm (h : Kv A c T U τ) (hc : c ≤ 10) (s : iS A) : Kv (aWarm A 6) c T U τ := by
  have o : ∀ r f, ¬ (24 ≤ r ∧ r < 30 ∧ f = 1) → aWarm A 6 r f = A r f := fun r f hr => aWarm_o (by omega)
  refine ⟨fun p hp hq h0 => ?_, h.2.1.congr fun d hd => o _ _ (by omega), h.2.2.1.congr fun f hf => o _ _ (by omega), dm_congr h.2.2.2.1 (fun d hd => o _ _ (by omega)) (fun i hi => o _ _ (by omega)), fun i hi => (tot_congr (fun i hi f hf => o _ _ (by omega)) (fun k hk => ⟨o _ _ (by omega), o _ _ (by omega)⟩) hi).trans (h.2.2.2.2 i hi)⟩
  rw [o _ _ (by omega)] at h0
  obtain ⟨t, r, e1, h1, h2, e2, h3⟩ := h.1 p hp hq h0
  obtain ⟨w, _, _, _, ew, hw, _⟩ := s
  rw [o _ 2 (by omega)]
  by_cases hp6 : p < 6
  · unfold aWarm
    rw [if_pos ⟨by omega, by omega, rfl, h0⟩]
    unfold warmV
    rw [e1, ew, nI_add]
    by_cases z : nI (t + w) < 1250
    · rw [if_pos z]
      have := (nI_ltI (a := t + w) (b := 1250) (by omega) (by omega)).mp z
      exact ⟨t + w, r, rfl, by omega, by omega, e2, h3⟩
    · rw [if_neg z]
      exact ⟨1250, r, rfl, by omega, by omega, e2, h3⟩
  · rw [o _ 1 (by omega)]
    exact ⟨t, r, e1, h1, h2, e2, h3⟩
/-- the count of one job's billets changes -/
theorem sum_job {i h : Nat} (hk : k < c) (e2 : A (13 + k) 2 = nI i) (hi : i < 4) (hh : h < 4) (J2 : ∀ l, l < c → A' (13 + l) 2 = A (13 + l) 2) (J7 : ∀ l, l < c → l ≠ k → A' (13 + l) 7 = A (13 + l) 7) : sumN (bt A' (nI h)) c = sumN (bt A (nI h)) c + (if h = i then A' (13 + k) 7 - A (13 + k) 7 else 0) := by
  rw [sumN_upd (t := bt A (nI h)) (t' := bt A' (nI h)) hk (fun l hl hne => by unfold bt; rw [J2 l hl, J7 l hl hne])]
  congr 1
  unfold bt
  rw [J2 k hk, e2]
  by_cases z : h = i
  · subst z
    rw [if_pos rfl, if_pos rfl, if_pos rfl]
  · rw [if_neg z, if_neg (fun w => z ((nI_eq (by omega) (by omega)).mp w).symm), if_neg (fun w => z ((nI_eq (by omega) (by omega)).mp w).symm)]
    decide
theorem i32_ch {s σ m z x : Int32} : s - 1 + (σ + (x + 1 - x)) + m + z = s + σ + m + z := by grind
theorem i32_sc {s σ m z x : Int32} : s + (σ + (x - 1 - x)) + m + (z + 1) = s + σ + m + z := by grind
theorem i32_mk {s σ m z x : Int32} : s + (σ + (x - 1 - x)) + (m + 1) + z = s + σ + m + z := by grind
theorem Kv.chg (h : Kv A c T U τ) (ok : okN A c) (hk : k < c) (hp : p < 6) : Kv (chargeAt A k p) c T U τ := by
  have hc := ok.2.1
  have hh := ok.h hk
  have hd := ok.d hk
  have o : ∀ r f, r ≠ 24 + p → ¬ (r = 2 + hj A k ∧ f = 0) → ¬ (r = 13 + k ∧ f = 7) → chargeAt A k p r f = A r f := fun r f h1 h2 h3 => by
    unfold chargeAt
    rw [up_r h1, up_r h1, up_r h1, up_r h1, up_o h3, up_o h2]
  have c1 : chargeAt A k p (24 + p) 1 = 20 := by unfold chargeAt; rw [up_f (by omega), up_f (by omega), up_s]
  have c2 : chargeAt A k p (24 + p) 2 = 0 := by unfold chargeAt; rw [up_f (by omega), up_s]
  have c7 : chargeAt A k p (13 + k) 7 = A (13 + k) 7 + 1 := by unfold chargeAt; rw [up_r (by omega), up_r (by omega), up_r (by omega), up_r (by omega), up_s]
  have cs : chargeAt A k p (2 + hj A k) 0 = A (2 + hj A k) 0 - 1 := by unfold chargeAt; rw [up_r (by omega), up_r (by omega), up_r (by omega), up_r (by omega), up_r (by omega), up_s]
  refine ⟨fun r hr hq h0 => ?_, h.2.1.congr fun d hd => o _ _ (by omega) (by omega) (by omega), h.2.2.1.congr fun f hf => o _ _ (by omega) (by omega) (by omega), dm_congr h.2.2.2.1 (fun d hd => o _ _ (by omega) (by omega) (by omega)) (fun i hi => o _ _ (by omega) (by omega) (by omega)), fun i hi => ?_⟩
  · by_cases z : r = p
    · subst z
      exact ⟨20, 0, by rw [c1]; rfl, by omega, by omega, by rw [c2]; rfl, by omega⟩
    · rw [o _ _ (by omega) (by omega) (by omega)] at h0
      rw [o _ _ (by omega) (by omega) (by omega), o _ _ (by omega) (by omega) (by omega)]
      exact h.1 r hr hq h0
  · refine Eq.trans ?_ (h.2.2.2.2 i hi)
    unfold tot
    rw [sum_job (A := A) (A' := chargeAt A k p) hk hh.2 hh.1 hi (fun l hl => o _ _ (by omega) (by omega) (by omega)) (fun l hl hne => o _ _ (by omega) (by omega) (by omega)), c7, o (2 + i) 3 (by omega) (by omega) (by omega), o (2 + i) 4 (by omega) (by omega) (by omega)]
    by_cases z : i = hj A k
    · rw [if_pos z, z, cs]
      exact i32_ch
    · rw [if_neg z, o _ _ (by omega) (by omega) (by omega), Int32.add_zero]
theorem Kv.charge (h : Kv A c T U τ) (ok : okN A c) : Kv (aCharge A c) c T U τ := by
  unfold aCharge
  cases q : freeA A with
  | none => exact h
  | some p =>
    have hp6 : p < 6 := by have := (fst9_some q).2.1; omega
    show Kv (match fst9 (canCh A) c 0 with | none => A | some k => chargeAt A k p) c T U τ
    cases q2 : fst9 (canCh A) c 0 with
    | none => exact h
    | some k => exact h.chg ok (by have := (fst9_some q2).2.1; omega) hp6
/-- a billet moves to another place -/
theorem Kv.moved {q : Nat} (h : Kv A c T U τ) (hc : c ≤ 10) (hq : q < 7) (hp : p < 7) (hne : q ≠ p) (hx : A (24 + p) 0 ≠ -1) : Kv (mvB A q p) c T U τ := by
  have o : ∀ r f, r ≠ 24 + q → r ≠ 24 + p → mvB A q p r f = A r f := fun r f h1 h2 => mvB_o h1 h2
  have mq : ∀ f, f < 4 → mvB A q p (24 + q) f = A (24 + p) f := fun f hf => by unfold mvB; rw [up_r (by omega), rowC_s hf]
  have mp : mvB A q p (24 + p) 0 = -1 := by unfold mvB; rw [up_s]
  refine ⟨fun r hr hq h0 => ?_, h.2.1.congr fun d hd => o _ _ (by omega) (by omega), h.2.2.1.congr fun f hf => o _ _ (by omega) (by omega), dm_congr h.2.2.2.1 (fun d hd => o _ _ (by omega) (by omega)) (fun i hi => o _ _ (by omega) (by omega)), fun i hi => (tot_congr (fun i hi f hf => o _ _ (by omega) (by omega)) (fun k hk => ⟨o _ _ (by omega) (by omega), o _ _ (by omega) (by omega)⟩) hi).trans (h.2.2.2.2 i hi)⟩
  by_cases z : r = p
  · subst z; exact absurd mp h0
  · by_cases z2 : r = q
    · subst z2
      rw [mq 1 (by omega), mq 2 (by omega)]
      exact h.1 p hp (by omega) hx
    · rw [o _ _ (by omega) (by omega)] at h0
      rw [o _ _ (by omega) (by omega), o _ _ (by omega) (by omega)]
      exact h.1 r hr hq h0
theorem Kv.load (h : Kv A c T U τ) (hc : c ≤ 10) (hn : ∀ k, k < c → A (13 + k) 0 ≠ -1) : Kv (aLoad A c) c T U τ := by
  unfold aLoad
  cases q : fst9 (canLd A) c 0 with
  | none => exact h
  | some k =>
    have hk : k < c := by have := (fst9_some q).2.1; omega
    show Kv (match hotA A k with | none => A | some p => mvB A 6 p) c T U τ
    cases q2 : hotA A k with
    | none => exact h
    | some p =>
      have h6 := hotA_lt q2
      exact h.moved hc (q := 6) (p := p) (by omega) (by omega) (by omega) (by rw [hotA_job q2]; exact hn k hk)
theorem Kx.scr (h : Kx A c T U 6 τ) (ok : okN A c) (hk : k < c) : Kv (scrA A k) c T U τ := by
  have hc := ok.2.1
  have hh := ok.h hk
  have o : ∀ r f, ¬ (r = 30 ∧ f = 0) → ¬ (r = 2 + hj A k ∧ f = 4) → ¬ (r = 13 + k ∧ f = 7) → scrA A k r f = A r f := fun r f h1 h2 h3 => by
    unfold scrA
    rw [up_o h1, up_o h2, up_o h3]
  have s0 : scrA A k 30 0 = -1 := by unfold scrA; rw [up_s]
  have s7 : scrA A k (13 + k) 7 = A (13 + k) 7 - 1 := by unfold scrA; rw [up_r (by omega), up_r (by omega), up_s]
  have s4 : scrA A k (2 + hj A k) 4 = A (2 + hj A k) 4 + 1 := by unfold scrA; rw [up_r (by omega), up_s]
  have key : Kx (scrA A k) c T U 6 τ := by
    refine ⟨h.1.congr fun p hp hq f hf => o _ _ (by omega) (by omega) (by omega), h.2.1.congr fun d hd => o _ _ (by omega) (by omega) (by omega), h.2.2.1.congr fun f hf => o _ _ (by omega) (by omega) (by omega), dm_congr h.2.2.2.1 (fun d hd => o _ _ (by omega) (by omega) (by omega)) (fun i hi => o _ _ (by omega) (by omega) (by omega)), fun i hi => ?_⟩
    refine Eq.trans ?_ (h.2.2.2.2 i hi)
    unfold tot
    rw [sum_job (A := A) (A' := scrA A k) hk hh.2 hh.1 hi (fun l hl => o _ _ (by omega) (by omega) (by omega)) (fun l hl hne => o _ _ (by omega) (by omega) (by omega)), s7, o (2 + i) 3 (by omega) (by omega) (by omega), o (2 + i) 0 (by omega) (by omega) (by omega)]
    by_cases z : i = hj A k
    · rw [if_pos z, z, s4]
      exact i32_sc
    · rw [if_neg z, o _ _ (by omega) (by omega) (by omega), Int32.add_zero]
  exact key.full 7 s0
theorem Kx.hotter (h : Kx A c T U 6 τ) (hc : c ≤ 10) : Kx (heatUp A) c T U 6 τ := by
  have o : ∀ r f, ¬ (r = 30 ∧ f = 2) → heatUp A r f = A r f := fun r f h1 => up_o h1
  exact h.congr (fun f hf => o _ _ (by omega)) (fun i hi f hf => o _ _ (by omega)) (fun d hd => ⟨o _ _ (by omega), o _ _ (by omega)⟩) (fun k hk => ⟨o _ _ (by omega), o _ _ (by omega)⟩) (fun p hp hq f hf => o _ _ (by omega))
theorem Kv.back (h : Kv A c T U τ) (ok : okN A c) (s : iS A) (hk : k < c) (hx : A 30 0 ≠ -1) : Kv (aBack A k) c T U τ := by
  have hc := ok.2.1
  have o : ∀ r f, ¬ (r = 30 ∧ f = 2) → heatUp A r f = A r f := fun r f h1 => up_o h1
  have okh : okN (heatUp A) c := ⟨(o _ _ (by omega)).trans ok.1, hc, fun l hl => by rw [o _ _ (by omega), o _ _ (by omega), o _ _ (by omega)]; exact ok.2.2 l hl⟩
  have hs : Kv (scrA (heatUp A) k) c T U τ := ((h.x 6).hotter hc).scr okh hk
  unfold aBack
  cases q : freeA A with
  | none => exact hs
  | some p =>
    have hp6 : p < 6 := by have := (fst9_some q).2.1; omega
    show Kv (if A 30 2 + 1 ≤ A 0 9 then mvB (heatUp A) p 6 else scrA (heatUp A) k) c T U τ
    split
    · rename_i hle
      obtain ⟨t, r, e1, h1, h2, e2, h3⟩ := h.1 6 (by omega) (by omega) hx
      obtain ⟨_, _, g, _, _, _, _, _, eg, hg, _⟩ := s
      have e2 : A 30 2 = nI r := e2
      have hv : Kv (heatUp A) c T U τ := by
        refine ⟨fun p' hp' hq' h0 => ?_, ((h.x 6).hotter hc).2⟩
        by_cases z : p' = 6
        · subst z
          refine ⟨t, r + 1, by rw [o _ _ (by omega)]; exact e1, h1, h2, ?_, ?_⟩
          · show aU A 30 2 (A 30 2 + 1) 30 2 = _
            rw [up_s, e2, nI_1]
          · rw [e2, eg, nI_1] at hle
            have := (nI_leI (by omega) (by omega)).mp hle
            omega
        · exact ((h.x 6).hotter hc).1 p' hp' z h0
      exact hv.moved hc (q := p) (p := 6) (by omega) (by omega) (by omega) (by rw [o _ _ (by omega)]; exact hx)
    · exact hs
theorem Kv.strike (h : Kv A c T U τ) (ok : okN A c) (s : iS A) (hk : k < c) (hx : A 30 0 ≠ -1) : Kv (strikeA A k) c T U τ := by
  have hc := ok.2.1
  have hd := (ok.d hk).1
  have o : ∀ r f, ¬ (r = 0 ∧ f = 12) → ¬ (r = 30 ∧ (f = 1 ∨ f = 3)) → ¬ (r = 7 + dj A k ∧ f = 2) → strikeA A k r f = A r f := fun r f h1 h2 h3 => by
    unfold strikeA
    rw [up_o h1, up_o (by omega), up_o (by omega), up_o h3]
  have s1 : strikeA A k 30 1 = if 20 < A 30 1 - A 0 8 then A 30 1 - A 0 8 else 20 := by unfold strikeA; rw [up_r (by omega), up_f (by omega), up_s]
  refine ⟨fun r hr hq h0 => ?_, h.2.1.congr fun d hd => o _ _ (by omega) (by omega) (by omega), h.2.2.1.congr fun f hf => o _ _ (by omega) (by omega) (by omega), dm_congr h.2.2.2.1 (fun d hd => o _ _ (by omega) (by omega) (by omega)) (fun i hi => o _ _ (by omega) (by omega) (by omega)), fun i hi => (tot_congr (fun i hi f hf => o _ _ (by omega) (by omega) (by omega)) (fun k hk => ⟨o _ _ (by omega) (by omega) (by omega), o _ _ (by omega) (by omega) (by omega)⟩) hi).trans (h.2.2.2.2 i hi)⟩
  rw [o _ _ (by omega) (by omega) (by omega)] at h0
  obtain ⟨t, g, e1, h1, h2, e2, h3⟩ := h.1 r hr hq h0
  rw [o _ 2 (by omega) (by omega) (by omega)]
  by_cases z : r = 6
  · subst z
    have e1 : A 30 1 = nI t := e1
    obtain ⟨_, y, _, _, _, _, ey, hy, _⟩ := s
    show ∃ t r, strikeA A k 30 1 = nI t ∧ _
    rw [s1, e1, ey]
    split
    · rename_i z
      rw [Int32.lt_iff_toInt_lt, nI_sub_toInt (by omega) (by omega)] at z
      have z : (20 : Int) < (t : Int) - y := z
      refine ⟨t - y, g, ?_, by omega, by omega, e2, h3⟩
      rw [← Int32.toInt_inj, nI_sub_toInt (by omega) (by omega), nI_toInt (by omega)]
      omega
    · exact ⟨20, g, rfl, by omega, by omega, e2, h3⟩
  · rw [o _ _ (by omega) (by omega) (by omega)]
    exact ⟨t, g, e1, h1, h2, e2, h3⟩
end KVS
