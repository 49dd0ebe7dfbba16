/-! The reference's looks at billets and dies. -/
section RLK2
variable {B : Mem} {A : Ab} {c N : Nat} {m : Int32} {ι : Nat → Nat} {σ : Nat → Int32}
theorem iJ.num {A : Ab} {c N : Nat} (hI : iJ A c N) {k : Nat} (hk : k < c) : A (13 + k) 0 ≠ -1 := by
  obtain ⟨n, e, hn⟩ := hI.2.2.1 k hk
  have := hI.2.2.2.2.1
  rw [e]
  exact nI_n1 (by omega)
theorem plB_iff {A : Ab} {c N : Nat} (hI : iJ A c N) {k p : Nat} (hk : k < c) : plB A c p = some k ↔ A (24 + p) 0 = A (13 + k) 0 := by
  unfold plB
  constructor
  · intro h
    split at h
    · cases h
    · have := (fst9_some h).2.2.1
      simp only [decide_eq_true_eq] at this
      exact this.symm
  · intro h
    rw [if_neg (by rw [h]; exact hI.num hk), h]
    cases q : placeA A c (A (13 + k) 0) with
    | none =>
      have := fst9_none q k (by omega) (by omega)
      simp at this
    | some l =>
      obtain ⟨-, hl, e, -⟩ := fst9_some q
      simp only [decide_eq_true_eq] at e
      rw [hI.2.2.2.2.2.1 l k (by omega) hk e]
theorem plB_lt {A : Ab} {c k p : Nat} (h : plB A c p = some k) : k < c := by
  unfold plB at h
  split at h
  · cases h
  · have := (fst9_some h).2.1; omega
theorem jobOn_eq (hR : Rel A c m ι σ) (hI : iJ A c N) {k p : Nat} (hk : k < c) : oI ((plB A c p).map ι) = nI (ι k) ↔ A (24 + p) 0 = A (13 + k) 0 := by
  have hb := hR.2.2.2.2.1.1
  have hc := hI.1.2.1
  have hik := hb.1 k hk
  rw [← plB_iff hI hk]
  cases q : plB A c p with
  | none => exact ⟨fun e => absurd e.symm (nI_n1 (by omega)), fun e => by cases e⟩
  | some l =>
    have hl := plB_lt q
    have hil := hb.1 l hl
    constructor
    · intro e
      rw [hb.2.1 l k hl hk ((nI_eq (by omega) (by omega)).mp e)]
    · intro e
      cases e; rfl
theorem r_billetsOf (hB : RB B) (hR : Rel A c m ι σ) (hI : iJ A c N) {k n : Nat} (hk : k < c) (hn : n < 7) {x y z : Int32} (hx : x = nI (ι k)) (hy : y = nI 0) (hz : z = nI n) {P : Int32 → Mem → Prop} (hp : P (nI (cntN (fun p => decide (A (24 + p) 0 = A (13 + k) 0)) (n + 1))) (sM B σ)) : wp_X7_billetsOf 283 (sM B σ) 276 x y z P := by
  subst hx hy hz
  refine ⟨n + 2, ?_⟩
  have L : ∀ f i, i + f = n + 1 → wpL_X7_billetsOf_6 283 P (f + 1) (sM B σ) 276 (nI (ι k)) (nI n) (nI (cntN (fun p => decide (A (24 + p) 0 = A (13 + k) 0)) i)) (nI i) := by
    intro f
    induction f with
    | zero =>
      intro i hi
      have : i = n + 1 := by omega
      subst this
      exact ⟨fun _ => hp, fun q => absurd (cGt (n := n) (i := n + 1) rfl rfl (by omega) (by omega)) q⟩
    | succ f ih =>
      intro i hi
      refine ⟨fun q => absurd q (cNgt rfl rfl (by omega) (by omega)), fun _ => ⟨tp7, r_jobOn hB hR hI (p := i) (by omega) rfl fun v hv w hw => ?_⟩⟩
      have := ih (i + 1) (by omega)
      unfold cntN at this
      rw [hv, hw, nI_1]
      by_cases q : A (24 + i) 0 = A (13 + k) 0
      · rw [if_pos (by simpa using q), ← nI_1] at this
        rw [if_neg (fun z => z ((jobOn_eq hR hI hk).mpr q))]
        exact this
      · rw [if_neg (by simpa using q), Nat.add_zero] at this
        rw [if_pos (fun z => q ((jobOn_eq hR hI hk).mp z)), show bI false = 0 from rfl, Int32.add_zero]
        exact this
  exact L (n + 1) 0 (by omega)
theorem r_lacks (hB : RB B) (hR : Rel A c m ι σ) (hI : iJ A c N) (hC : iC A c) {k : Nat} (hk : k < c) {x : Int32} (hx : x = nI (ι k)) {P : Int32 → Mem → Prop} (hp : P (lackA A k) (sM B σ)) : wp_X7_lacks 283 (sM B σ) 276 x P := by
  have hc := hI.1.2.1
  have hik := hR.2.2.2.2.1.1.1 k hk
  refine ⟨tp7, r_job0 hB (k := ι k) (f := 3) (by omega) (by omega) hx rfl (r_job0 hB (k := ι k) (f := 4) (by omega) (by omega) hx rfl (r_billetsOf hB hR hI hk (n := 6) (by omega) hx rfl rfl ?_))⟩
  rw [hR.job hk (by omega), hR.job hk (by omega)]
  unfold lackA at hp
  rw [hC k hk] at hp
  exact hp
theorem RP.zero (h : RP A σ) {p : Nat} (hp : p < 7) : σ (130 + 4 * p) = 0 ↔ A (24 + p) 0 = -1 := by
  rw [(h p hp).1]
  constructor
  · intro e
    have : A (24 + p) 0 = (A (24 + p) 0 + 1) - 1 := (Int32.add_sub_cancel _ _).symm
    rw [this, e]; decide
  · intro e; rw [e]; decide
theorem r_freePlace (hB : RB B) (hR : RP A σ) {P : Int32 → Mem → Prop} (hp : P (oI (freeA A)) (sM B σ)) : wp_X7_freePlace 283 (sM B σ) 276 P := by
  refine ⟨7, ?_⟩
  have L : ∀ f i, i + f = 6 → P (oI (fst9 (fun p => decide (A (24 + p) 0 = -1)) f i)) (sM B σ) → wpL_X7_freePlace_2 283 P (f + 1) (sM B σ) 276 (nI i) := by
    intro f
    induction f with
    | zero =>
      intro i hi hp
      exact ⟨fun _ => hp, fun k => absurd (cGe (n := 6) rfl rfl (by omega) (by omega)) k⟩
    | succ f ih =>
      intro i hi hp
      unfold fst9 at hp
      refine ⟨fun k => absurd k (cLt (n := 6) rfl rfl (by omega) (by omega)), fun _ => ⟨tp7, r_billet0 hB (p := i) (f := 0) (by omega) (by omega) rfl rfl ⟨fun hne v hv => ?_, fun he => ?_⟩⟩⟩
      · rw [hv, nI_1]
        refine ih (i + 1) (by omega) ?_
        rwa [if_neg (by simpa using fun q => hne ((hR.zero (by omega)).mpr q))] at hp
      · rwa [if_pos (by simpa using (hR.zero (p := i) (by omega)).mp he)] at hp
  exact L 6 0 rfl hp
theorem groundA_iff (hD : iD A) {d : Nat} (hd : d < 5) : groundA A = some d ↔ 0 < A (7 + d) 3 := by
  constructor
  · intro h
    have := (fst9_some h).2.2.1
    simp only [Bool.not_eq_true', decide_eq_false_iff_not] at this
    exact Int32.not_le.mp this
  · intro h
    cases q : groundA A with
    | none =>
      have := fst9_none q d (by omega) (by omega)
      simp only [Bool.not_eq_false', decide_eq_true_eq] at this
      exact absurd h (Int32.not_lt.mpr this)
    | some e =>
      obtain ⟨-, he, h2, -⟩ := fst9_some q
      simp only [Bool.not_eq_true', decide_eq_false_iff_not] at h2
      rw [hD.2 e d (by omega) hd (Int32.not_le.mp h2) h]
theorem RG.at (hR : RG A σ) (hD : iD A) {d : Nat} (hd : d < 5) : σ 13 = nI d + 1 ↔ 0 < A (7 + d) 3 := by
  rw [← groundA_iff hD hd, nI_1]
  unfold RG at hR
  cases q : groundA A with
  | none =>
    rw [q] at hR
    have hR : σ 13 = 0 := hR
    rw [hR]
    exact ⟨fun e => absurd e.symm (nI_ne0 (by omega) (by omega)), fun e => by cases e⟩
  | some e =>
    rw [q] at hR
    have he : e < 5 := by have := (fst9_some q).2.1; omega
    rw [hR.1]
    constructor
    · intro z
      rw [(nI_eq (by omega) (by omega)).mp z |> fun z => (by omega : e = d)]
    · intro z; cases z; rfl
theorem r_13 (hB : RB B) {P : Int32 → Prop} (hp : P (σ 13)) : ∃ j2 : Nat, (sM B σ).2.1 276 1 = some j2 ∧ (m_tp 283 j2 8 ∧ (vp_in 13 (m_len j2) ∧ P ((sM B σ).1 j2 (13 : Int32).toNatClampNeg))) := ⟨277, hB.1, tp8, by rw [len8]; exact vpI (i := 13) rfl (by omega) (by omega), by rw [sM_1]; exact hp⟩
theorem r_isBeingGround (hB : RB B) (hR : RG A σ) (hD : iD A) {d : Nat} (hd : d < 5) {x : Int32} (hx : x = nI d) {P : Bool → Mem → Prop} (hp : P (decide (0 < A (7 + d) 3)) (sM B σ)) : wp_X7_isBeingGround 283 (sM B σ) 276 x P := by
  subst hx
  refine ⟨tp7, r_13 hB (P := fun z => P (if ¬ z = nI d + 1 then false else true) _) ?_⟩
  by_cases q : 0 < A (7 + d) 3
  · rw [if_neg (fun z => z ((hR.at hD hd).mpr q))]
    simpa [q] using hp
  · rw [if_pos (fun z => q ((hR.at hD hd).mp z))]
    simpa [q] using hp
theorem r_isWornOut (hB : RB B) (hR : RD A σ) {d : Nat} (hd : d < 5) {x : Int32} (hx : x = nI d) {P : Bool → Mem → Prop} (hp : P (!decide (A (7 + d) 2 < A (7 + d) 1)) (sM B σ)) : wp_X7_isWornOut 283 (sM B σ) 276 x P := by
  refine ⟨tp7, r_die0 hB hd (f := 2) (by omega) hx rfl (r_die0 hB hd (f := 1) (by omega) hx rfl ?_)⟩
  rw [hR d hd 2 (by omega), hR d hd 1 (by omega), show dF 2 = 2 from rfl, show dF 1 = 1 from rfl]
  by_cases q : A (7 + d) 2 < A (7 + d) 1
  · simpa [q] using hp
  · simpa [q] using hp
theorem r_isFit (hB : RB B) (hR : RD A σ) (hG : RG A σ) (hD : iD A) {d : Nat} (hd : d < 5) {x : Int32} (hx : x = nI d) {P : Bool → Mem → Prop} (hp : P (okDie A d) (sM B σ)) : wp_X7_isFit 283 (sM B σ) 276 x P := by
  unfold okDie at hp
  refine ⟨tp7, r_isWornOut hB hR hd hx ⟨fun e => ?_, fun e => r_isBeingGround hB hG hD hd hx ?_⟩⟩
  · simp only [Bool.not_eq_true', decide_eq_false_iff_not] at e
    have : A (7 + d) 1 ≤ A (7 + d) 2 := Int32.not_lt.mp e
    simpa [this] using hp
  · simp only [Bool.not_eq_false', decide_eq_true_eq] at e
    have : ¬ A (7 + d) 1 ≤ A (7 + d) 2 := Int32.not_le.mpr e
    by_cases q : 0 < A (7 + d) 3
    · simpa [this, q] using hp
    · simpa [this, q] using hp
theorem r_hottest (hB : RB B) (hR : Rel A c m ι σ) (hI : iJ A c N) (hBl : iB A c) {k : Nat} (hk : k < c) {x : Int32} (hx : x = nI (ι k)) {P : Int32 → Mem → Prop} (hp : P (oI (hotA A k)) (sM B σ)) : wp_X7_hottest 283 (sM B σ) 276 x P := by
  have hc := hI.1.2.1
  have hik := hR.2.2.2.2.1.1.1 k hk
  have hh := hI.1.h hk
  subst hx
  refine ⟨7, ?_⟩
  have good : ∀ s : Int32 × Option Nat, Prop := fun s => True
  have L : ∀ f i (s : Int32 × Option Nat), i + f = 6 → (match s.2 with | none => s.1 = A (2 + hj A k) 2 | some b => b < 6 ∧ A (24 + b) 0 = A (13 + k) 0 ∧ s.1 = A (24 + b) 1 + 1 ∧ ¬ A (24 + b) 1 < A (2 + hj A k) 2) → P (oI (foldN (hotG A k) f i s).2) (sM B σ) → wpL_X7_hottest_4 283 P (f + 1) (sM B σ) 276 (nI (ι k)) (oI s.2) (nI i) := by
    intro f
    induction f with
    | zero =>
      intro i s hi hs hp
      exact ⟨fun _ => hp, fun k => absurd (cGe (n := 6) rfl rfl (by omega) (by omega)) k⟩
    | succ f ih =>
      intro i s hi hs hp
      have hp : P (oI (foldN (hotG A k) f (i + 1) (hotG A k i s)).2) (sM B σ) := hp
      obtain ⟨t, et, ht⟩ := hBl.2 i (by omega)
      refine ⟨fun k => absurd k (cLt (n := 6) rfl rfl (by omega) (by omega)), fun _ => ⟨tp7, r_jobOn hB hR hI (p := i) (by omega) rfl ⟨fun hne => ⟨fun _ v hv => ?_, fun q => absurd rfl q⟩, fun he => ?_⟩⟩⟩
      · rw [jobOn_eq hR hI hk] at hne
        rw [hv, nI_1]
        refine ih (i + 1) s (by omega) hs ?_
        rwa [hotG, if_neg (fun q => hne q.1)] at hp
      · rw [jobOn_eq hR hI hk] at he
        have hpr : A (24 + i) 0 ≠ -1 := by rw [he]; exact hI.num hk
        have b1 : σ (130 + 4 * i + 1) = A (24 + i) 1 := (hR.2.2.2.2.2 i (by omega)).2 hpr 1 (by omega) (by omega)
        refine r_billet0 hB (p := i) (f := 1) (by omega) (by omega) rfl rfl (r_job0 hB (k := ι k) (f := 2) (by omega) (by omega) rfl rfl (r_heatOf hB hh.1 (f := 2) (by omega) ((hR.job hk (by omega)).trans hh.2) rfl ?_))
        rw [b1, hR.2.2.1 _ hh.1 2 (by omega)]
        cases hs2 : s.2 with
        | none =>
          rw [hs2] at hs
          have hs : s.1 = A (2 + hj A k) 2 := hs
          by_cases q : A (24 + i) 1 < A (2 + hj A k) 2
          · rw [if_pos q]
            refine ⟨fun _ v hv => ?_, fun z => by cases z⟩
            rw [hv, nI_1, ← hs2]
            refine ih (i + 1) s (by omega) (by rw [hs2]; exact hs) ?_
            rwa [hotG, if_neg (fun z => z.2 (by rw [hs]; exact q))] at hp
          · rw [if_neg q]
            refine ⟨fun z => by (cases z), fun _ => ⟨fun _ v hv => ?_, fun z => absurd rfl z⟩⟩
            rw [hv, nI_1]
            refine ih (i + 1) (A (24 + i) 1 + 1, some i) (by omega) ⟨by omega, he, rfl, q⟩ ?_
            rwa [hotG, if_pos ⟨he, by rw [hs]; exact q⟩] at hp
        | some b =>
          rw [hs2] at hs
          obtain ⟨hb6, heb, hs1, hsb⟩ := hs
          obtain ⟨u, eu, hu⟩ := hBl.2 b (by omega)
          have hprb : A (24 + b) 0 ≠ -1 := by rw [heb]; exact hI.num hk
          have b2 : σ (130 + 4 * b + 1) = A (24 + b) 1 := (hR.2.2.2.2.2 b (by omega)).2 hprb 1 (by omega) (by omega)
          have cmp : ¬ A (24 + i) 1 < s.1 ↔ u < t := by
            rw [hs1, et, eu, nI_1, nI_ltI (by omega) (by omega)]
            omega
          have cmp2 : A (24 + i) 1 ≤ A (24 + b) 1 ↔ t ≤ u := by rw [et, eu]; exact nI_leI (by omega) (by omega)
          by_cases q : A (24 + i) 1 < A (2 + hj A k) 2
          · rw [if_pos q]
            refine ⟨fun _ v hv => ?_, fun z => by cases z⟩
            rw [hv, nI_1, ← hs2]
            refine ih (i + 1) s (by omega) (by rw [hs2]; exact ⟨hb6, heb, hs1, hsb⟩) ?_
            rw [hotG, if_neg (fun z => ?_)] at hp
            · exact hp
            · have h1 := cmp.mp z.2
              apply hsb
              rw [eu]
              rw [et] at q
              exact Int32.lt_trans ((nI_ltI (by omega) (by omega)).mpr h1) q
          · rw [if_neg q]
            refine ⟨fun z => by (cases z), fun _ => ⟨fun z => absurd z (nI_n1 (by omega)), fun _ => r_billet0 hB (p := i) (f := 1) (by omega) (by omega) rfl rfl (r_billet0 hB (p := b) (f := 1) (by omega) (by omega) rfl rfl fun v hv w hw => ?_)⟩⟩
            rw [b1, b2] at hv
            rw [hw, nI_1, hv]
            by_cases q2 : A (24 + i) 1 ≤ A (24 + b) 1
            · rw [if_pos q2, ← hs2]
              refine ih (i + 1) s (by omega) (by rw [hs2]; exact ⟨hb6, heb, hs1, hsb⟩) ?_
              rwa [hotG, if_neg (fun z => absurd (cmp.mp z.2) (by have := cmp2.mp q2; omega))] at hp
            · rw [if_neg q2]
              refine ih (i + 1) (A (24 + i) 1 + 1, some i) (by omega) ⟨by omega, he, rfl, q⟩ ?_
              rwa [hotG, if_pos ⟨he, cmp.mpr (by
                rcases Nat.lt_or_ge u t with z | z
                · exact z
                · exact absurd (cmp2.mpr z) q2)⟩] at hp
  exact L 6 0 (A (2 + hj A k) 2, none) rfl rfl hp
end RLK2
