/-! The reference warms, loads, moves, scraps. -/
theorem madeA_up {A : Ab} {h : Nat} (hh : h < 4) {v : Int32} : madeA (aU A (2 + h) 3 (A (2 + h) 3 + v)) = madeA A + v := by
  unfold madeA
  rcases (by omega : h = 0 ∨ h = 1 ∨ h = 2 ∨ h = 3) with rfl | rfl | rfl | rfl <;> simp [foldN, aU] <;> ac_rfl
theorem scrapA_up {A : Ab} {h : Nat} (hh : h < 4) {v : Int32} : scrapA (aU A (2 + h) 4 (A (2 + h) 4 + v)) = scrapA A + v := by
  unfold scrapA
  rcases (by omega : h = 0 ∨ h = 1 ∨ h = 2 ∨ h = 3) with rfl | rfl | rfl | rfl <;> simp [foldN, aU] <;> ac_rfl
section RMV
variable {B : Mem} {A A' : Ab} {c N : Nat} {m : Int32} {ι : Nat → Nat} {σ σ' : Nat → Int32}
theorem Rel.bil (h : Rel A c m ι σ) (hc : c ≤ 10) (hs : ∀ i, i < 130 → σ' i = σ i) (hA : ∀ r, r < 24 → ∀ f, A' r f = A r f) (hP : RP A' σ') : Rel A' c m ι σ' :=
  ⟨h.1.congr (fun i hi => hs i (by omega)) (fun f _ _ _ => hA 0 (by omega) f) (fun i hi => hA _ (by omega) _) (fun i hi => hA _ (by omega) _), h.2.1.congr (fun i _ hi => hs i (by omega)) (fun d hd => hA _ (by omega) _), h.2.2.1.congr (fun i _ hi => hs i (by omega)) (fun i hi f _ => hA _ (by omega) _), h.2.2.2.1.congr (fun i _ hi => hs i (by omega)) (fun d hd f _ => hA _ (by omega) _), h.2.2.2.2.1.congr hc (fun i _ hi => hs i (by omega)) (fun k hk f _ => hA _ (by omega) _), hP⟩
/-- the counter of a job isn't in the reference -/
theorem Rel.job7 (h : Rel A c m ι σ) (hc : c ≤ 10) {k : Nat} (hk : k < c) {v : Int32} : Rel (aU A (13 + k) 7 v) c m ι σ :=
  ⟨h.1.congr (fun i hi => rfl) (fun f _ _ _ => up_r (by omega)) (fun i hi => up_r (by omega)) (fun i hi => up_r (by omega)), h.2.1.congr (fun i _ hi => rfl) (fun d hd => up_r (by omega)), h.2.2.1.congr (fun i _ hi => rfl) (fun i hi f _ => up_r (by omega)), h.2.2.2.1.congr (fun i _ hi => rfl) (fun d hd f _ => up_r (by omega)), h.2.2.2.2.1.congr hc (fun i _ hi => rfl) (fun k hk f _ => up_f (by omega)), h.2.2.2.2.2.congr (fun i _ hi => rfl) (fun p hp f _ => up_r (by omega))⟩
/-- the stock -/
theorem Rel.heat0 (h : Rel A c m ι σ) (hc : c ≤ 10) {i : Nat} (hi : i < 4) {v : Int32} : Rel (aU A (2 + i) 0 v) c m ι (uS σ (15 + 5 * i) v) :=
  ⟨h.1.congr (fun j hj => uS_o (by omega)) (fun f _ _ _ => up_r (by omega)) (fun j hj => up_f (by omega)) (fun j hj => up_f (by omega)), h.2.1.congr (fun j _ hj => uS_o (by omega)) (fun d hd => up_r (by omega)), fun j hj f hf => by
    by_cases e : j = i ∧ f = 0
    · obtain ⟨rfl, rfl⟩ := e
      rw [up_s]; exact uS_s
    · rw [uS_o (by omega), up_o (by omega)]; exact h.2.2.1 j hj f hf, h.2.2.2.1.congr (fun j _ hj => uS_o (by omega)) (fun d hd f _ => up_r (by omega)), h.2.2.2.2.1.congr hc (fun j _ hj => uS_o (by omega)) (fun k hk f _ => up_r (by omega)), h.2.2.2.2.2.congr (fun j _ hj => uS_o (by omega)) (fun p hp f _ => up_r (by omega))⟩
/-- scrap of a heat, and of all -/
theorem Rel.heat4 (h : Rel A c m ι σ) (hc : c ≤ 10) {i : Nat} (hi : i < 4) {v : Int32} : Rel (aU A (2 + i) 4 (A (2 + i) 4 + v)) c m ι (uS (uS σ 8 (σ 8 + v)) (15 + 5 * i + 4) (σ (15 + 5 * i + 4) + v)) := by
  obtain ⟨⟨a1, a2, a3, a4, a5, a6, a7⟩, hG, hH, hD, hJ, hP⟩ := h
  refine ⟨⟨fun j hj => ?_, ?_, ?_, ?_, ?_, ?_, fun j hj => ?_⟩, hG.congr (fun j _ hj => ?_) (fun d hd => up_r (by omega)), fun j hj f hf => ?_, hD.congr (fun j _ hj => ?_) (fun d hd f _ => up_r (by omega)), hJ.congr hc (fun j _ hj => ?_) (fun k hk f _ => up_r (by omega)), hP.congr (fun j _ hj => ?_) (fun p hp f _ => up_r (by omega))⟩
  · rw [uS_o (by omega), uS_o (by omega), up_r (by omega)]; exact a1 j hj
  · rw [uS_o (by omega), uS_o (by omega)]; exact a2
  · rw [uS_o (by omega), uS_o (by omega), up_r (by omega)]; exact a3
  · rw [uS_o (by omega), uS_o (by omega), up_r (by omega)]; exact a4
  · rw [uS_o (by omega), uS_o (by omega), madeA_congr (A := A) (fun j hj => up_f (by omega))]; exact a5
  · rw [uS_o (by omega), uS_s, scrapA_up hi, a6]
  · rw [uS_o (by omega), uS_o (by omega), up_r (by omega)]; exact a7 j hj
  · rw [uS_o (by omega), uS_o (by omega)]
  · by_cases e : j = i ∧ f = 4
    · obtain ⟨rfl, rfl⟩ := e
      rw [up_s, uS_s, hH j hj 4 (by omega)]
    · rw [uS_o (by omega), uS_o (by omega), up_o (by omega)]; exact hH j hj f hf
  · rw [uS_o (by omega), uS_o (by omega)]
  · rw [uS_o (by omega), uS_o (by omega)]
  · rw [uS_o (by omega), uS_o (by omega)]
theorem r_warms (hB : RB B) (hR : Rel A c m ι σ) (hI : iJ A c N) (hBl : iB A c) {P : Mem → Prop} (hp : ∀ σ', Rel (aWarm A 6) c m ι σ' → P (sM B σ')) : wp_X7_warms 283 (sM B σ) 276 P := by
  have hc := hI.1.2.1
  refine ⟨7, ?_⟩
  have L : ∀ f i (σ1 : Nat → Int32), i + f = 6 → Rel (aWarm A i) c m ι σ1 → wpL_X7_warms_2 283 P (f + 1) (sM B σ1) 276 (nI i) := by
    intro f
    induction f with
    | zero =>
      intro i σ1 hi h1
      have : i = 6 := by omega
      subst this
      exact ⟨fun _ => hp σ1 h1, fun k => absurd (cGe (n := 6) rfl rfl (by omega) (by omega)) k⟩
    | succ f ih =>
      intro i σ1 hi h1
      have e0 : ∀ g, aWarm A i (24 + i) g = A (24 + i) g := fun g => by unfold aWarm; rw [if_neg (by omega)]
      have e7 : aWarm A i 0 7 = A 0 7 := by unfold aWarm; rw [if_neg (by omega)]
      refine ⟨fun k => absurd k (cLt (n := 6) rfl rfl (by omega) (by omega)), fun _ => ⟨tp7, r_billet0 hB (p := i) (f := 1) (by omega) (by omega) rfl rfl ⟨277, hB.1, tp8, by rw [len8]; exact vpI (i := 0) rfl (by omega) (by omega), fun v7 h7 => r_billet0 hB (p := i) (f := 0) (by omega) (by omega) rfl rfl ⟨fun e v hv => ?_, fun e => r_lay hB (p := i) (f := 1) (by omega) (by omega) rfl rfl fun v hv => ?_⟩⟩⟩⟩
      · rw [hv, nI_1]
        refine ih (i + 1) σ1 (by omega) ?_
        have he : A (24 + i) 0 = -1 := by
          rcases hBl.1 i (by omega) with q | ⟨⟨k, hk, q⟩, -⟩
          · exact q
          · exfalso
            obtain ⟨n, en, hn⟩ := hI.2.2.1 k hk
            have h3 := hI.2.2.2.2.1
            rw [show 130 + 4 * i + 0 = 130 + 4 * i from rfl, (h1.2.2.2.2.2 i (by omega)).1, e0, q, en, nI_1] at e
            exact nI_nle (by omega) (by omega) e
        rw [show aWarm A (i + 1) = aWarm A i by
          funext r g
          unfold aWarm
          by_cases q : r = 24 + i
          · subst q
            rw [if_neg (fun z => z.2.2.2 he), if_neg (by omega)]
          · by_cases q2 : 24 ≤ r ∧ r < 24 + i ∧ g = 1 ∧ A r 0 ≠ -1
            · rw [if_pos q2, if_pos ⟨q2.1, by omega, q2.2.2⟩]
            · rw [if_neg q2, if_neg (fun z => q2 ⟨z.1, by omega, z.2.2⟩)]]
        exact h1
      · rw [hv, nI_1]
        refine ih (i + 1) _ (by omega) ?_
        have hne : A (24 + i) 0 ≠ -1 := by
          intro q
          apply e
          rw [show 130 + 4 * i + 0 = 130 + 4 * i from rfl, (h1.2.2.2.2.2 i (by omega)).1, e0, q]
          decide
        have b1 : σ1 (130 + 4 * i + 1) = A (24 + i) 1 := by rw [(h1.2.2.2.2.2 i (by omega)).2 (by rw [e0]; exact hne) 1 (by omega) (by omega), e0]
        have s0 : σ1 0 = A 0 7 := (h1.1.1 0 (by omega)).trans e7
        rw [sM_1, show (0 : Int32).toNatClampNeg = 0 from rfl, b1, s0] at h7
        have hw : (if v7 ≤ 1250 then v7 else 1250) = warmV A (24 + i) := by
          unfold warmV
          rw [← h7]
          by_cases q : v7 < 1250
          · rw [if_pos q, if_pos (Int32.le_of_lt q)]
          · rw [if_neg q]
            by_cases q2 : v7 ≤ 1250
            · rw [if_pos q2]; exact Int32.le_antisymm q2 (Int32.not_lt.mp q)
            · rw [if_neg q2]
        rw [hw]
        rw [show aWarm A (i + 1) = aU (aWarm A i) (24 + i) 1 (warmV A (24 + i)) by
          funext r g
          unfold aU aWarm
          by_cases q : r = 24 + i ∧ g = 1
          · obtain ⟨rfl, rfl⟩ := q
            rw [if_pos ⟨by omega, by omega, rfl, hne⟩, if_pos ⟨rfl, rfl⟩]
          · rw [if_neg q]
            by_cases q2 : 24 ≤ r ∧ r < 24 + i ∧ g = 1 ∧ A r 0 ≠ -1
            · rw [if_pos q2, if_pos ⟨q2.1, by omega, q2.2.2⟩]
            · rw [if_neg q2, if_neg (fun z => q2 ⟨z.1, by omega, z.2.2⟩)]]
        refine h1.bil hc (fun j hj => uS_o (by omega)) (fun r hr g => up_r (by omega)) (fun p hp => ⟨?_, fun hn g hg h0 => ?_⟩)
        · rw [uS_o (by omega), up_f (by omega)]; exact (h1.2.2.2.2.2 p hp).1
        · rw [up_f (by omega)] at hn
          by_cases q : p = i ∧ g = 1
          · obtain ⟨rfl, rfl⟩ := q
            rw [uS_s, up_s]
          · rw [uS_o (by omega), up_o (by omega)]; exact (h1.2.2.2.2.2 p hp).2 hn g hg h0
  refine L 6 0 σ rfl ?_
  rw [show aWarm A 0 = A by funext r g; unfold aWarm; rw [if_neg (by omega)]]
  exact hR
theorem canCh_ref {A : Ab} {k : Nat} : canCh A k = true ↔ ¬ A (2 + hj A k) 0 ≤ 0 ∧ ¬ lackA A k ≤ 0 := by
  unfold canCh
  simp
theorem r_loads (hB : RB B) (hR : Rel A c m ι σ) (hI : iJ A c N) (hC : iC A c) {P : Mem → Prop} (hp : ∀ σ', Rel (aCharge A c) c m ι σ' → P (sM B σ')) : wp_X7_loads 283 (sM B σ) 276 P := by
  have hc := hI.1.2.1
  have c5 := hR.c5 hI.1
  have hb := hR.2.2.2.2.1.1
  refine ⟨tp7, r_freePlace hB hR.2.2.2.2.2 ?_⟩
  cases ef : freeA A with
  | none =>
    refine ⟨1, tp7, r_len5 hB (P := fun z => (z ≤ 0 → _) ∧ (¬ z ≤ 0 → _)) ⟨fun _ => ?_, fun _ => ⟨fun _ => ?_, fun q => absurd q (by decide)⟩⟩⟩
    · refine hp σ ?_
      unfold aCharge; rw [ef]; exact hR
    · refine hp σ ?_
      unfold aCharge; rw [ef]; exact hR
  | some p =>
    have hp6 : p < 6 := by have := (fst9_some ef).2.1; omega
    refine ⟨c + 1, ?_⟩
    rw [show (if oI (some p) = (-1) then false else true) = true by rw [if_neg (show ¬ oI (some p) = -1 from nI_n1 (by omega))]]
    have L : ∀ f i, i + f = c → (∀ σ', Rel (match fst9 (canCh A) f i with | none => A | some k => chargeAt A k p) c m ι σ' → P (sM B σ')) → wpL_X7_loads_18 283 P (f + 1) (sM B σ) 276 (oI (some p)) true (nI i) := by
      intro f
      induction f with
      | zero =>
        intro i hi hp
        exact ⟨tp7, r_len5 hB (P := fun z => (z ≤ nI i → _) ∧ (¬ z ≤ nI i → _)) ⟨fun _ => hp σ hR, fun k => absurd (cGe c5 rfl (by omega) (by omega)) k⟩⟩
      | succ f ih =>
        intro i hi hp
        have hik := hb.1 i (by omega)
        have hh := hI.1.h (k := i) (by omega)
        have hd := hI.1.d (k := i) (by omega)
        unfold fst9 at hp
        refine ⟨tp7, r_len5 hB (P := fun z => (z ≤ nI i → _) ∧ (¬ z ≤ nI i → _)) ⟨fun k => absurd k (cLt c5 rfl (by omega) (by omega)), fun _ => ⟨fun q => absurd q (by decide), fun _ => r_jobAt hB hR hI (k := i) (by omega) rfl (r_job0 hB (k := ι i) (f := 2) (by omega) (by omega) rfl rfl (r_lacks hB hR hI hC (k := i) (by omega) rfl ⟨fun e v hv => ?_, fun e => ?_⟩))⟩⟩⟩
        · rw [hv, nI_1]
          refine ih (i + 1) (by omega) ?_
          rwa [if_neg (fun z => (canCh_ref.mp z).2 e)] at hp
        · have e2 : σ (60 + 7 * ι i + 2) = nI (hj A i) := (hR.job (by omega) (by omega)).trans hh.2
          have s0 : σ (15 + 5 * hj A i + 0) = A (2 + hj A i) 0 := hR.2.2.1 _ hh.1 0 (by omega)
          have ix : (15 + 5 * σ (60 + 7 * ι i + 2)) + 0 = nI (15 + 5 * hj A i + 0) := ix3 (a := 15) (b := 5) e2 rfl
          refine r_heatOf hB hh.1 (f := 0) (by omega) e2 rfl ⟨fun q v hv => ?_, fun q => ⟨277, hB.1, tp8, ?_, ?_, fun M22 e22 => ?_⟩⟩
          · rw [s0] at q
            rw [hv, nI_1]
            refine ih (i + 1) (by omega) ?_
            rwa [if_neg (fun z => (canCh_ref.mp z).1 q)] at hp
          · rw [ix, len8]; exact vp_in_nI (by omega) (by omega)
          · rw [ix, len8]; exact vp_in_nI (by omega) (by omega)
          · rw [s0] at q
            rw [if_pos (canCh_ref.mpr ⟨q, e⟩)] at hp
            have hp : ∀ σ', Rel (chargeAt A i p) c m ι σ' → P (sM B σ') := hp
            rw [ix, nI_clamp (by omega), sM_1, s0, sM_uI] at e22
            rw [e22]
            refine r_job0 hB (k := ι i) (f := 0) (by omega) (by omega) rfl rfl (r_lay hB (p := p) (f := 0) (by omega) (by omega) rfl rfl (r_lay hB (p := p) (f := 1) (by omega) (by omega) rfl rfl (r_lay hB (p := p) (f := 2) (by omega) (by omega) rfl rfl (r_job0 hB (k := ι i) (f := 1) (by omega) (by omega) rfl rfl (r_die0 hB hd.1 (f := 0) (by omega) ?_ rfl (r_lay hB (p := p) (f := 3) (by omega) (by omega) rfl rfl ?_))))))
            · rw [uS_o (by omega), uS_o (by omega), uS_o (by omega), uS_o (by omega), hR.job (by omega) (by omega)]
              exact hd.2
            · intro v hv
              have fin : ∀ f2, wpL_X7_loads_18 283 P (f2 + 1) (sM B (uS (uS (uS (uS (uS σ (15 + 5 * hj A i + 0) (A (2 + hj A i) 0 - 1)) (130 + 4 * p + 0) (uS σ (15 + 5 * hj A i + 0) (A (2 + hj A i) 0 - 1) (60 + 7 * ι i + 0) + 1)) (130 + 4 * p + 1) 20) (130 + 4 * p + 2) 0) (130 + 4 * p + 3) (uS (uS (uS (uS σ (15 + 5 * hj A i + 0) (A (2 + hj A i) 0 - 1)) (130 + 4 * p + 0) (uS σ (15 + 5 * hj A i + 0) (A (2 + hj A i) 0 - 1) (60 + 7 * ι i + 0) + 1)) (130 + 4 * p + 1) 20) (130 + 4 * p + 2) 0 (35 + 5 * dj A i + 0)))) 276 (oI (some p)) false v := by
                intro f2
                have rel : Rel (chargeAt A i p) c m ι (uS (uS (uS (uS (uS σ (15 + 5 * hj A i + 0) (A (2 + hj A i) 0 - 1)) (130 + 4 * p + 0) (uS σ (15 + 5 * hj A i + 0) (A (2 + hj A i) 0 - 1) (60 + 7 * ι i + 0) + 1)) (130 + 4 * p + 1) 20) (130 + 4 * p + 2) 0) (130 + 4 * p + 3) (uS (uS (uS (uS σ (15 + 5 * hj A i + 0) (A (2 + hj A i) 0 - 1)) (130 + 4 * p + 0) (uS σ (15 + 5 * hj A i + 0) (A (2 + hj A i) 0 - 1) (60 + 7 * ι i + 0) + 1)) (130 + 4 * p + 1) 20) (130 + 4 * p + 2) 0 (35 + 5 * dj A i + 0))) := by
                  have r1 := (hR.heat0 hc hh.1 (v := A (2 + hj A i) 0 - 1)).job7 hc (k := i) (by omega) (v := A (13 + i) 7 + 1)
                  unfold chargeAt
                  refine r1.bil hc (fun j hj => ?_) (fun r hr f => ?_) (fun q hq => ⟨?_, fun hn g hg h0 => ?_⟩)
                  · rw [uS_o (by omega), uS_o (by omega), uS_o (by omega), uS_o (by omega)]; rfl
                  · rw [up_r (by omega), up_r (by omega), up_r (by omega), up_r (by omega)]
                  · rw [uS_o (by omega), uS_o (by omega), uS_o (by omega), up_f (by omega), up_f (by omega), up_f (by omega)]
                    by_cases z : q = p
                    · subst z
                      rw [up_s, show 130 + 4 * q + 0 = 130 + 4 * q from rfl, uS_s, uS_o (by omega), hR.job (by omega) (by omega)]
                    · rw [uS_o (by omega), up_r (by omega)]
                      have := (r1.2.2.2.2.2 q hq).1
                      rw [up_r (by omega), up_r (by omega)] at this
                      rw [up_r (by omega), up_r (by omega)]
                      exact this
                  · rw [up_f (by omega), up_f (by omega), up_f (by omega)] at hn
                    by_cases z : q = p
                    · subst z
                      rcases (by omega : g = 1 ∨ g = 2 ∨ g = 3) with rfl | rfl | rfl
                      · rw [uS_o (by omega), uS_o (by omega), uS_s, up_f (by omega), up_f (by omega), up_s]
                      · rw [uS_o (by omega), uS_s, up_f (by omega), up_s]
                      · rw [uS_s, up_s, uS_o (by omega), uS_o (by omega), uS_o (by omega), uS_o (by omega), hR.2.2.2.1 _ hd.1 0 (by omega)]
                        rfl
                    · rw [up_r (by omega)] at hn
                      rw [uS_o (by omega), uS_o (by omega), uS_o (by omega), uS_o (by omega), up_r (by omega), up_r (by omega), up_r (by omega), up_r (by omega)]
                      exact (r1.2.2.2.2.2 q hq).2 hn g hg h0
                exact ⟨tp7, r_len5 hB (P := fun z => (z ≤ v → _) ∧ (¬ z ≤ v → _)) ⟨fun _ => hp _ rel, fun _ => ⟨fun _ => hp _ rel, fun q => absurd q (by decide)⟩⟩⟩
              exact fin _
    refine L c 0 (by omega) ?_
    unfold aCharge at hp
    rw [ef] at hp
    exact hp
end RMV
