/-! The reference: the press works; the dies. -/
section RPS
variable {B : Mem} {A A' : Ab} {c N : Nat} {m : Int32} {ι : Nat → Nat} {σ σ' : Nat → Int32}
theorem cnt_of {A : Ab} {c : Nat} (h : A 0 5 = nI c) (hc : c ≤ 10) : cnt A = c := by
  unfold cnt
  rw [h, nI_clamp (by omega)]
theorem makeA_0 {A : Ab} {k f : Nat} : makeA A k 0 f = A 0 f := by
  unfold makeA
  rw [up_r (by omega), up_r (by omega), up_r (by omega), up_r (by omega), up_r (by omega)]
theorem strikeA_0 {A : Ab} {k f : Nat} (hf : f ≠ 12) : strikeA A k 0 f = A 0 f := by
  unfold strikeA
  rw [up_f hf, up_r (by omega), up_r (by omega), up_r (by omega)]
theorem strikeA_J {A : Ab} {k l f : Nat} (hl : l < 10) (hd : dj A k < 5) : strikeA A k (13 + l) f = A (13 + l) f := by
  unfold strikeA
  rw [up_r (by omega), up_r (by omega), up_r (by omega), up_r (by omega)]
theorem goneA_5 {A : Ab} {k f : Nat} (hf : f < 13) : goneA A k 0 f = A 0 f := by
  unfold goneA
  split
  · rw [up_f (by omega)]
  · rw [up_f (by omega), up_f (by omega), up_f (by omega)]
theorem remA_5 {A : Ab} {c k : Nat} : remA A c k 0 5 = nI (c - 1) := by
  unfold remA
  rw [rowsP_o (by omega), up_s]
theorem mvB_o {A : Ab} {q p r f : Nat} (h1 : r ≠ 24 + q) (h2 : r ≠ 24 + p) : mvB A q p r f = A r f := by
  unfold mvB
  rw [up_r h2, rowC_o h1]
theorem aBack_o {A : Ab} {k r f : Nat} (hk : k < 10) (hh : hj A k < 4) (h1 : ¬ (24 ≤ r ∧ r ≤ 30)) (h2 : ¬ (2 ≤ r ∧ r < 6 ∧ f = 4)) (h3 : ¬ (13 ≤ r ∧ r < 23 ∧ f = 7)) : aBack A k r f = A r f := by
  have ehj : hj (heatUp A) k = hj A k := by unfold hj heatUp; rw [up_r (by omega)]
  have e0 : heatUp A r f = A r f := by unfold heatUp; rw [up_r (by omega)]
  have scr : scrA (heatUp A) k r f = A r f := by
    unfold scrA
    rw [ehj, up_r (by omega), up_o (by omega), up_o (by omega)]
    exact e0
  unfold aBack
  cases q : freeA A with
  | none => exact scr
  | some p =>
    have hp6 : p < 6 := by have := (fst9_some q).2.1; omega
    show (if A 30 2 + 1 ≤ A 0 9 then mvB (heatUp A) p 6 else scrA (heatUp A) k) r f = A r f
    split
    · rw [mvB_o (by omega) (by omega)]; exact e0
    · exact scr
theorem r_presses (hB : RB B) (hR : Rel A c m ι σ) (hI : iJ A c N) (hBl : iB A c) (hD : iD A) (hm : A 0 11 = m + 1) {k : Nat} (hk : k < c) (hpk : A 30 0 = A (13 + k) 0) {x : Int32} (hx : x = nI (ι k)) {P : Mem → Prop} (hp : ∀ ι' σ', Rel (aWork A c k) (cnt (aWork A c k)) m ι' σ' → P (sM B σ')) : wp_X7_presses 283 (sM B σ) 276 x P := by
  have hc := hI.1.2.1
  have hik := hR.2.2.2.2.1.1.1 k hk
  have hh := hI.1.h hk
  have hd := hI.1.d hk
  have hne : A (24 + 6) 0 ≠ -1 := by show A 30 0 ≠ -1; rw [hpk]; exact hI.num hk
  have b1 : σ (130 + 4 * 6 + 1) = A 30 1 := (hR.2.2.2.2.2 6 (by omega)).2 hne 1 (by omega) (by omega)
  have b3 : σ (130 + 4 * 6 + 3) = A 30 3 := (hR.2.2.2.2.2 6 (by omega)).2 hne 3 (by omega) (by omega)
  have back : aWork A c k = aBack A k → wp_X7_goesBack 283 (sM B σ) 276 (fun M53 => P M53) := by
    intro ew
    refine r_goesBack hB hR hI hk hpk fun σ' h1 => hp ι σ' ?_
    rw [ew, cnt_of (c := c) (by rw [aBack_o (by omega) hh.1 (by omega) (by omega) (by omega)]; exact hI.1.1) hc]
    exact h1
  refine ⟨tp7, r_job0 hB (k := ι k) (f := 1) (by omega) (by omega) hx rfl (r_job0 hB (k := ι k) (f := 2) (by omega) (by omega) hx rfl (r_billet0 hB (p := 6) (f := 1) (by omega) (by omega) rfl rfl (r_isFit hB hR.2.2.2.1 hR.2.1 hD hd.1 ((hR.job hk (by omega)).trans hd.2) ⟨fun e => back ?_, fun e => r_heatOf hB hh.1 (f := 1) (by omega) ((hR.job hk (by omega)).trans hh.2) rfl ⟨fun e2 => r_heatOf hB hh.1 (f := 2) (by omega) ((hR.job hk (by omega)).trans hh.2) rfl fun v16 h16 => ?_, fun e2 => back ?_⟩⟩)))⟩
  · unfold aWork
    rw [if_neg (fun q => by rw [e] at q; exact absurd q.1 (by decide))]
  · rw [b1, hR.2.2.1 _ hh.1 1 (by omega)] at e2
    rw [b1, hR.2.2.1 _ hh.1 2 (by omega)] at h16
    rw [b1]
    refine r_inc hB (i := 9) (by omega) rfl (g := fun z => z + 1) ?_
    have jd : uS σ 9 (σ 9 + 1) (60 + 7 * ι k + 1) = nI (dj A k) := by rw [uS_o (by omega)]; exact (hR.job hk (by omega)).trans hd.2
    have jd' : σ (60 + 7 * ι k + 1) = nI (dj A k) := (hR.job hk (by omega)).trans hd.2
    refine r_inc hB (i := 35 + 5 * dj A k + 2) (by omega) (ix3 (a := 35) (b := 5) jd' rfl) (g := fun z => z + (1 + (if v16 ≤ 0 then 0 else v16) / 100)) ?_
    have s9 : σ 9 = A 0 12 := hR.1.2.2.2.2.2.2 0 (by omega)
    have sw2 : σ (35 + 5 * dj A k + 2) = A (7 + dj A k) 2 := hR.2.2.2.1 _ hd.1 2 (by omega)
    have ew : A (7 + dj A k) 2 + (1 + (if v16 ≤ 0 then 0 else v16) / 100) = wearV A k := by
      unfold wearV
      rw [← h16]
      by_cases q : v16 ≤ 0
      · rw [if_pos q, if_neg (Int32.not_lt.mpr q)]
      · rw [if_neg q, if_pos (Int32.not_le.mp q)]
    have ra : Rel (aU A 0 12 (A 0 12 + 1)) c m ι (uS σ 9 (σ 9 + 1)) := by rw [s9]; exact hR.numF hc (i := 0) (by omega)
    have rb : Rel (aU (aU A 0 12 (A 0 12 + 1)) (7 + dj A k) 2 (wearV A k)) c m ι (uS (uS σ 9 (σ 9 + 1)) (35 + 5 * dj A k + 2) (uS σ 9 (σ 9 + 1) (35 + 5 * dj A k + 2) + (1 + (if v16 ≤ 0 then 0 else v16) / 100))) := by
      rw [uS_o (by omega), sw2, ew]
      exact ra.dieF hc hd.1 (f := 2) (by omega)
    generalize hσ2 : uS (uS σ 9 (σ 9 + 1)) (35 + 5 * dj A k + 2) (uS σ 9 (σ 9 + 1) (35 + 5 * dj A k + 2) + (1 + (if v16 ≤ 0 then 0 else v16) / 100)) = σ2 at rb ⊢
    have s1 : σ2 1 = A 0 8 := by rw [← hσ2, uS_o (by omega), uS_o (by omega)]; exact hR.1.1 1 (by omega)
    have b32 : σ2 (130 + 4 * 6 + 3) = A 30 3 := by rw [← hσ2, uS_o (by omega), uS_o (by omega)]; exact b3
    obtain ⟨bb, eb, hb1, hb9⟩ : ∃ b, A 30 3 = nI b ∧ 1 ≤ b ∧ b ≤ 9 := by
      rcases hBl.1 6 (by omega) with q | q
      · exact absurd q hne
      · exact q.2
    have tail : wp_X7_lay 283 (sM B σ2) 276 6 1 (if 20 < A 30 1 - A 0 8 then A 30 1 - A 0 8 else 20) (fun M33 => wp_X7_billet0 283 M33 276 6 3 (fun r36 M35 => wp_X7_lay 283 M35 276 6 3 (r36 - 1) (fun M37 => wp_X7_billet0 283 M37 276 6 3 (fun r40 M39 => ((¬ r40 = 0 → P M39) ∧ (r40 = 0 → wp_X7_makes 283 M39 276 x (fun M41 => P M41))))))) := by
      refine r_lay hB (p := 6) (f := 1) (by omega) (by omega) rfl rfl (r_billet0 hB (p := 6) (f := 3) (by omega) (by omega) rfl rfl (r_lay hB (p := 6) (f := 3) (by omega) (by omega) rfl rfl (r_billet0 hB (p := 6) (f := 3) (by omega) (by omega) rfl rfl ?_)))
      have q3 : uS σ2 (130 + 4 * 6 + 1) (if 20 < A 30 1 - A 0 8 then A 30 1 - A 0 8 else 20) (130 + 4 * 6 + 3) = A 30 3 := by rw [uS_o (by omega)]; exact b32
      rw [q3, uS_s]
      have rd : Rel (aU (aU (aU (aU A 0 12 (A 0 12 + 1)) (7 + dj A k) 2 (wearV A k)) 30 1 (if 20 < A 30 1 - A 0 8 then A 30 1 - A 0 8 else 20)) 30 3 (A 30 3 - 1)) c m ι (uS (uS σ2 (130 + 4 * 6 + 1) (if 20 < A 30 1 - A 0 8 then A 30 1 - A 0 8 else 20)) (130 + 4 * 6 + 3) (A 30 3 - 1)) := (rb.bilF hc (p := 6) (f := 1) (by omega) (by omega) (by omega)).bilF hc (p := 6) (f := 3) (by omega) (by omega) (by omega)
      have es : aU (aU (aU (aU A 0 12 (A 0 12 + 1)) (7 + dj A k) 2 (wearV A k)) 30 1 (if 20 < A 30 1 - A 0 8 then A 30 1 - A 0 8 else 20)) 30 3 (A 30 3 - 1) = strikeA A k := by
        unfold strikeA
        rw [aU_comm (A := A) (r := 0) (f := 12) (r' := 7 + dj A k) (by omega), aU_comm (r := 0) (f := 12) (r' := 30) (f' := 1) (by omega), aU_comm (r := 0) (f := 12) (r' := 30) (f' := 3) (by omega)]
      rw [es] at rd
      have z0 : A 30 3 - 1 = 0 ↔ A 30 3 - 1 ≤ 0 := by
        rw [eb, show bb = (bb - 1) + 1 by omega, nI_pred]
        constructor
        · intro q; rw [q]; decide
        · intro q
          rcases Nat.eq_zero_or_pos (bb - 1) with z | z
          · rw [z]; rfl
          · exact absurd q (nI_nle z (by omega))
      have eaw : aWork A c k = if A 30 3 - 1 ≤ 0 then aMade (strikeA A k) c k else strikeA A k := by
        unfold aWork
        rw [if_pos ⟨e, e2⟩]
      have s5 : strikeA A k 0 5 = nI c := by rw [strikeA_0 (by omega)]; exact hI.1.1
      refine ⟨fun q => hp ι _ ?_, fun q => ?_⟩
      · rw [eaw, if_neg (fun z => q (z0.mpr z)), cnt_of s5 hc]
        exact rd
      · rw [if_pos (z0.mp q)] at eaw
        have iS' : iJ (strikeA A k) c N := hI.congr (fun f hf => strikeA_0 (by omega)) (fun l hl f hf => strikeA_J (by omega) hd.1)
        unfold aMade at eaw
        refine r_makes hB rd iS' (by rw [strikeA_0 (by omega)]; exact hm) hk hx (fun q2 σ' h => hp ι σ' ?_) (fun q2 ι' σ' h => hp ι' σ' ?_)
        · rw [eaw, if_pos q2, cnt_of (c := c) (by rw [makeA_0]; exact s5) hc]
          exact h
        · rw [eaw, if_neg q2, cnt_of (c := c - 1) remA_5 (by omega)]
          exact h
    refine ⟨277, hB.1, tp8, by rw [len8]; exact vpI (i := 1) rfl (by omega) (by omega), fun q => ⟨277, hB.1, tp8, by rw [len8]; exact vpI (i := 1) rfl (by omega) (by omega), ?_⟩, fun q => ?_⟩
    · rw [sM_1, show (1 : Int32).toNatClampNeg = 1 from rfl, s1] at q ⊢
      have : (if 20 < A 30 1 - A 0 8 then A 30 1 - A 0 8 else 20) = A 30 1 - A 0 8 := by
        by_cases z : 20 < A 30 1 - A 0 8
        · rw [if_pos z]
        · rw [if_neg z]; exact Int32.le_antisymm q (Int32.not_lt.mp z)
      rw [this] at tail
      exact tail
    · rw [sM_1, show (1 : Int32).toNatClampNeg = 1 from rfl, s1] at q
      have : (if 20 < A 30 1 - A 0 8 then A 30 1 - A 0 8 else 20) = 20 := by
        rw [if_neg (fun z => q (Int32.le_of_lt z))]
      rw [this] at tail
      exact tail
  · rw [b1, hR.2.2.1 _ hh.1 1 (by omega)] at e2
    unfold aWork
    rw [if_neg (fun q => e2 q.2)]
/-- a die begins to be ground -/
theorem groundA_none (h : groundA A = none) {d : Nat} (hd : d < 5) : A (7 + d) 3 ≤ 0 := by
  have := fst9_none h d (by omega) (by omega)
  simpa using this
theorem groundA_set {v : Int32} (h : groundA A = none) {d : Nat} (hd : d < 5) (hv : 0 < v) : groundA (aU A (7 + d) 3 v) = some d := by
  cases q : groundA (aU A (7 + d) 3 v) with
  | none =>
    have := groundA_none q hd
    rw [up_s] at this
    exact absurd hv (Int32.not_lt.mpr this)
  | some e =>
    obtain ⟨-, he, h2, -⟩ := fst9_some q
    by_cases z : e = d
    · rw [z]
    · rw [up_r (by omega)] at h2
      have := groundA_none h (d := e) (by omega)
      simp [this] at h2
theorem Rel.begin (h : Rel A c m ι σ) (hc : c ≤ 10) (hg : groundA A = none) {d : Nat} (hd : d < 5) {v : Int32} (hv : 0 < v) : Rel (aU A (7 + d) 3 v) c m ι (uS (uS σ 13 (nI d + 1)) 14 v) := by
  obtain ⟨hN, hG, hH, hD, hJ, hP⟩ := h
  refine ⟨hN.congr (fun j hj => by rw [uS_o (by omega), uS_o (by omega)]) (fun f _ _ _ => up_r (by omega)) (fun j hj => up_r (by omega)) (fun j hj => up_r (by omega)), ?_, hH.congr (fun j _ hj => by rw [uS_o (by omega), uS_o (by omega)]) (fun i hi f _ => up_r (by omega)), hD.congr (fun j _ hj => by rw [uS_o (by omega), uS_o (by omega)]) (fun e he f hf => up_f hf), hJ.congr hc (fun j _ hj => by rw [uS_o (by omega), uS_o (by omega)]) (fun k hk f _ => up_r (by omega)), hP.congr (fun j _ hj => by rw [uS_o (by omega), uS_o (by omega)]) (fun p hp f _ => up_r (by omega))⟩
  unfold RG
  rw [groundA_set hg hd hv]
  refine ⟨?_, ?_⟩
  · rw [uS_o (by omega), uS_s, nI_1]
  · rw [uS_s, up_s]
theorem r_begins (hB : RB B) {d : Nat} {x : Int32} (hx : x = nI d) {P : Mem → Prop} (hp : P (sM B (uS (uS σ 13 (nI d + 1)) 14 (σ 3)))) : wp_X7_begins 283 (sM B σ) 276 x P := by
  subst hx
  refine ⟨tp7, 277, hB.1, tp8, by rw [len8]; exact vpI (i := 13) rfl (by omega) (by omega), fun M5 e5 => ?_⟩
  rw [show (13 : Int32).toNatClampNeg = 13 from rfl, sM_uI] at e5
  rw [e5]
  refine ⟨277, hB.1, 277, hB.1, tp8, by rw [len8]; exact vpI (i := 3) rfl (by omega) (by omega), tp8, by rw [len8]; exact vpI (i := 14) rfl (by omega) (by omega), fun M12 e12 => ?_⟩
  rw [show (14 : Int32).toNatClampNeg = 14 from rfl, show (3 : Int32).toNatClampNeg = 3 from rfl, sM_1, sM_uI, uS_o (by omega)] at e12
  rw [e12]
  exact hp
theorem r_tendW (hB : RB B) (hR : Rel A c m ι σ) (hc : c ≤ 10) (hS : iS A) (hg : groundA A = none) {P : Mem → Prop} (hp : ∀ σ', Rel (tendW A) c m ι σ' → P (sM B σ')) : ∃ f, wpL_X7_grinds_113 283 P f (sM B σ) 276 0 := by
  refine ⟨6, ?_⟩
  have g13 : σ 13 = 0 := by
    have := hR.2.1
    unfold RG at this
    rw [hg] at this
    exact this
  obtain ⟨w, x, r, g, -, -, -, -, -, -, eg, hg1, hg2⟩ := hS
  have s3 : σ 3 = nI g := (hR.1.1 3 (by omega)).trans eg
  have L : ∀ f i, i + f = 5 → (∀ σ', Rel (match fst9 (fun d => !decide (A (7 + d) 2 < A (7 + d) 1)) f i with | none => A | some d => aU A (7 + d) 3 (A 0 10)) c m ι σ' → P (sM B σ')) → wpL_X7_grinds_113 283 P (f + 1) (sM B σ) 276 (nI i) := by
    intro f
    induction f with
    | zero =>
      intro i hi hp
      exact ⟨fun _ => hp σ hR, fun k => absurd (cGe (n := 5) rfl rfl (by omega) (by omega)) k⟩
    | succ f ih =>
      intro i hi hp
      unfold fst9 at hp
      refine ⟨fun k => absurd k (cLt (n := 5) rfl rfl (by omega) (by omega)), fun _ => ⟨tp7, r_13 hB (P := fun z => (¬ z = 0 → _) ∧ (z = 0 → _)) ⟨fun q => absurd g13 q, fun _ => r_isWornOut hB hR.2.2.2.1 (d := i) (by omega) rfl ⟨fun e v hv => ?_, fun e => r_begins hB (d := i) rfl fun v hv => ?_⟩⟩⟩⟩
      · rw [hv, nI_1]
        refine ih (i + 1) (by omega) ?_
        rwa [if_neg (by rw [e]; decide)] at hp
      · rw [if_pos e] at hp
        have rel : Rel (aU A (7 + i) 3 (A 0 10)) c m ι (uS (uS σ 13 (nI i + 1)) 14 (σ 3)) := by
          rw [s3, ← eg]
          exact hR.begin hc hg (by omega) (by rw [eg]; exact Int32.not_le.mp (nI_nle (by omega) (by omega)))
        have fin := hp _ rel
        have go : ∀ f2, wpL_X7_grinds_113 283 P (f2 + 1) (sM B (uS (uS σ 13 (nI i + 1)) 14 (σ 3))) 276 v := fun f2 => by
          refine ⟨fun _ => fin, fun _ => ⟨tp7, r_13 hB (P := fun z => (¬ z = 0 → _) ∧ (z = 0 → _)) ⟨fun _ => fin, fun q => ?_⟩⟩⟩
          rw [uS_o (by omega), uS_s, nI_1] at q
          exact absurd q (nI_ne0 (by omega) (by omega))
        exact go f
  exact L 5 0 rfl hp
theorem Rel.toGo (h : Rel A c m ι σ) (hc : c ≤ 10) {d : Nat} (hd : d < 5) (hg : groundA A = some d) {v : Int32} (hv : 0 < v) : Rel (aU A (7 + d) 3 v) c m ι (uS σ 14 v) := by
  obtain ⟨hN, hG, hH, hD, hJ, hP⟩ := h
  refine ⟨hN.congr (fun j hj => uS_o (by omega)) (fun f _ _ _ => up_r (by omega)) (fun j hj => up_r (by omega)) (fun j hj => up_r (by omega)), ?_, hH.congr (fun j _ hj => uS_o (by omega)) (fun i hi f _ => up_r (by omega)), hD.congr (fun j _ hj => uS_o (by omega)) (fun e he f hf => up_f hf), hJ.congr hc (fun j _ hj => uS_o (by omega)) (fun k hk f _ => up_r (by omega)), hP.congr (fun j _ hj => uS_o (by omega)) (fun p hp f _ => up_r (by omega))⟩
  have e : groundA (aU A (7 + d) 3 v) = some d := by
    obtain ⟨-, -, h1, h2⟩ := fst9_some hg
    cases q : groundA (aU A (7 + d) 3 v) with
    | none =>
      have := groundA_none q hd
      rw [up_s] at this
      exact absurd hv (Int32.not_lt.mpr this)
    | some e =>
      obtain ⟨-, he, h3, h4⟩ := fst9_some q
      rcases Nat.lt_trichotomy e d with z | z | z
      · have := h2 e (by omega) z
        rw [up_r (by omega)] at h3
        rw [h3] at this
        exact absurd this (by decide)
      · rw [z]
      · have := h4 d (by omega) z
        rw [up_s] at this
        simp only [Bool.not_eq_false', decide_eq_true_eq] at this
        exact absurd hv (Int32.not_lt.mpr this)
  unfold RG at hG ⊢
  rw [hg] at hG
  rw [e]
  refine ⟨?_, ?_⟩
  · rw [uS_o (by omega)]; exact hG.1
  · rw [uS_s, up_s]
/-- the grinding ends -/
theorem Rel.ground0 (h : Rel A c m ι σ) (hc : c ≤ 10) (hD0 : iD A) {d : Nat} (hd : d < 5) (hg : groundA A = some d) {v : Int32} (hv : ¬ 0 < v) : Rel (aU A (7 + d) 3 v) c m ι (uS σ 13 0) ∧ groundA (aU A (7 + d) 3 v) = none := by
  obtain ⟨hN, hG, hH, hD, hJ, hP⟩ := h
  have e : groundA (aU A (7 + d) 3 v) = none := by
    cases q : groundA (aU A (7 + d) 3 v) with
    | none => rfl
    | some e =>
      obtain ⟨-, he, h3, h4⟩ := fst9_some q
      simp only [Bool.not_eq_true', decide_eq_false_iff_not] at h3
      by_cases z : e = d
      · rw [z, up_s] at h3
        exact absurd (Int32.not_le.mp h3) hv
      · rw [up_r (by omega)] at h3
        exact absurd (hD0.2 e d (by omega) hd (Int32.not_le.mp h3) ((groundA_iff hD0 hd).mp hg)) z
  refine ⟨⟨hN.congr (fun j hj => uS_o (by omega)) (fun f _ _ _ => up_r (by omega)) (fun j hj => up_r (by omega)) (fun j hj => up_r (by omega)), ?_, hH.congr (fun j _ hj => uS_o (by omega)) (fun i hi f _ => up_r (by omega)), hD.congr (fun j _ hj => uS_o (by omega)) (fun e he f hf => up_f hf), hJ.congr hc (fun j _ hj => uS_o (by omega)) (fun k hk f _ => up_r (by omega)), hP.congr (fun j _ hj => uS_o (by omega)) (fun p hp f _ => up_r (by omega))⟩, e⟩
  unfold RG
  rw [e]
  exact uS_s
theorem RG.some (h : RG A σ) {d : Nat} (hg : groundA A = some d) : σ 13 = nI (d + 1) ∧ σ 14 = A (7 + d) 3 := by
  unfold RG at h
  rw [hg] at h
  exact h
theorem r_grinds (hB : RB B) (hR : Rel A c m ι σ) (hc : c ≤ 10) (hS : iS A) (hD : iD A) {P : Mem → Prop} (hp : ∀ σ', Rel (aTend A) c m ι σ' → P (sM B σ')) : wp_X7_grinds 283 (sM B σ) 276 P := by
  unfold aTend at hp
  cases hg : groundA A with
  | none =>
    rw [hg] at hp
    have g13 : σ 13 = 0 := by
      have := hR.2.1
      unfold RG at this
      rw [hg] at this
      exact this
    refine ⟨tp7, r_13 hB (P := fun z => (z ≤ 0 → _) ∧ (¬ z ≤ 0 → _)) ⟨fun _ => r_tendW hB hR hc hS hg hp, fun q => absurd (by rw [g13]; decide) q⟩⟩
  | some d =>
    rw [hg] at hp
    have hd : d < 5 := by have := (fst9_some hg).2.1; omega
    obtain ⟨g13, g14⟩ := hR.2.1.some hg
    obtain ⟨bb, ll, gg, -, -, -, el, hl300, eg, hg30⟩ := hD.1 d hd
    have h0 := (groundA_iff hD hd).mp hg
    have hg1 : 1 ≤ gg := by
      rcases Nat.eq_zero_or_pos gg with z | z
      · rw [eg, z] at h0; exact absurd h0 (by decide)
      · exact z
    refine ⟨tp7, r_13 hB (P := fun z => (z ≤ 0 → _) ∧ (¬ z ≤ 0 → _)) ⟨fun q => absurd q (by rw [g13]; exact nI_nle (by omega) (by omega)), fun _ => r_inc hB (i := 14) (by omega) rfl (g := fun z => z - 1) ?_⟩⟩
    have e1 : A (7 + d) 3 - 1 = nI (gg - 1) := by rw [eg, show gg = (gg - 1) + 1 by omega, nI_pred]; rfl
    have s13 : ∀ v, uS σ 14 v 13 = nI (d + 1) := fun v => by rw [uS_o (by omega)]; exact g13
    refine ⟨277, hB.1, tp8, by rw [len8]; exact vpI (i := 14) rfl (by omega) (by omega), ?_⟩
    rw [sM_1, show (14 : Int32).toNatClampNeg = 14 from rfl, uS_s, g14, e1]
    refine ⟨fun q => ?_, fun q => ⟨277, hB.1, tp8, by rw [len8]; exact vpI (i := 13) rfl (by omega) (by omega), fun v26 h26 => ?_⟩⟩
    · have hpos : 0 < gg - 1 := by
        rcases Nat.eq_zero_or_pos (gg - 1) with z | z
        · rw [z] at q; exact absurd rfl q
        · exact z
      have e2 : ¬ A (7 + d) 3 - 1 ≤ 0 := by rw [e1]; exact nI_nle hpos (by omega)
      have e3 : 0 < A (7 + d) 3 - 1 := Int32.not_le.mp e2
      simp only [if_neg e2] at hp
      have eg' : grindA A d = aU A (7 + d) 3 (nI (gg - 1)) := by unfold grindA; rw [if_pos e3, e1]
      rw [eg'] at hp
      have fin := hp _ (hR.toGo hc hd hg (v := nI (gg - 1)) (by rw [← e1]; exact e3))
      refine ⟨1, fun _ => fin, fun _ => ⟨tp7, r_13 hB (P := fun z => (¬ z = 0 → _) ∧ (z = 0 → _)) ⟨fun _ => fin, fun z => ?_⟩⟩⟩
      rw [s13] at z
      exact absurd z (nI_ne0 (by omega) (by omega))
    · have z1 : gg - 1 = 0 := (nI_eq (a := gg - 1) (b := 0) (by omega) (by omega)).mp q
      have e2 : A (7 + d) 3 - 1 ≤ 0 := by rw [e1, z1]; decide
      have e3 : ¬ 0 < A (7 + d) 3 - 1 := Int32.not_lt.mpr e2
      simp only [if_pos e2] at hp
      rw [sM_1, show (13 : Int32).toNatClampNeg = 13 from rfl, s13, nI_pred, show (35 : Int32) + 5 * nI d = nI (35 + 5 * d) from by rw [← nI_add, ← nI_mul]; rfl] at h26
      subst h26
      have i2 : nI (35 + 5 * d) + 2 = nI (35 + 5 * d + 2) := nI_add _ 2
      have i1 : nI (35 + 5 * d) + 1 = nI (35 + 5 * d + 1) := nI_add _ 1
      have i4 : nI (35 + 5 * d) + 4 = nI (35 + 5 * d + 4) := nI_add _ 4
      refine ⟨277, hB.1, tp8, by rw [i2, len8]; exact vp_in_nI (by omega) (by omega), fun M30 e30 => ?_⟩
      rw [i2, nI_clamp (by omega), sM_uI] at e30
      rw [e30]
      -- the chain of pictures
      have ra := hR.dieF hc hd (f := 2) (by omega) (v := 0)
      have l1 : σ (35 + 5 * d + 1) = A (7 + d) 1 := hR.2.2.2.1 d hd 1 (by omega)
      have l4 : σ (35 + 5 * d + 4) = A (7 + d) 5 := hR.2.2.2.1 d hd 4 (by omega)
      have lim : ∀ w, w = (if 10 < A (7 + d) 1 - 5 then A (7 + d) 1 - 5 else 10) → (∃ f, wpL_X7_grinds_113 283 P f (sM B (uS (uS (uS (uS (uS σ 14 (nI (gg - 1))) (35 + 5 * d + 2) 0) (35 + 5 * d + 1) w) (35 + 5 * d + 4) (A (7 + d) 5 + 1)) 13 0)) 276 0) := by
        intro w hw
        have hD2 : iD (aU (aU (aU A (7 + d) 2 0) (7 + d) 1 w) (7 + d) 5 (A (7 + d) 5 + 1)) := by
          have r3 : ∀ e, aU (aU (aU A (7 + d) 2 0) (7 + d) 1 w) (7 + d) 5 (A (7 + d) 5 + 1) (7 + e) 3 = A (7 + e) 3 := fun e => by rw [up_f (by omega), up_f (by omega), up_f (by omega)]
          refine ⟨fun e he => ?_, fun e e' he he' h1 h2 => ?_⟩
          · obtain ⟨b, l, g, q1, q2, q3, q4, q5, q6, q7⟩ := hD.1 e he
            have hl' : ∃ l', aU (aU (aU A (7 + d) 2 0) (7 + d) 1 w) (7 + d) 5 (A (7 + d) 5 + 1) (7 + e) 1 = nI l' ∧ l' ≤ 300 := by
              rw [up_f (by omega)]
              by_cases z : e = d
              · subst z
                rw [up_s, hw]
                by_cases q : 10 < A (7 + e) 1 - 5
                · rw [if_pos q]
                  have : A (7 + e) 1 - 5 = nI l - nI 5 := by rw [q4]; rfl
                  rw [this] at q ⊢
                  have t := nI_sub_toInt (a := l) (b := 5) (by omega) (by omega)
                  have q' := Int32.lt_iff_toInt_lt.mp q
                  rw [t, show (10 : Int32).toInt = 10 from rfl] at q'
                  exact ⟨l - 5, by rw [← Int32.toInt_inj, t, nI_toInt (by omega)]; omega, by omega⟩
                · rw [if_neg q]; exact ⟨10, rfl, by omega⟩
              · rw [up_r (by omega), up_r (by omega)]; exact ⟨l, q4, q5⟩
            obtain ⟨l', el', hl''⟩ := hl'
            exact ⟨b, l', g, by rw [up_f (by omega), up_f (by omega), up_f (by omega)]; exact q1, q2, q3, el', hl'', by rw [r3]; exact q6, q7⟩
          · rw [r3] at h1 h2
            exact hD.2 e e' he he' h1 h2
        have rb := (ra.dieF hc hd (f := 1) (by omega) (v := w)).dieF hc hd (f := 4) (by omega) (v := A (7 + d) 5 + 1)
        have hg2 : groundA (aU (aU (aU A (7 + d) 2 0) (7 + d) 1 w) (7 + d) 5 (A (7 + d) 5 + 1)) = some d := by
          rw [groundA_congr (A := A) (fun e he => by rw [up_f (by omega), up_f (by omega), up_f (by omega)])]; exact hg
        obtain ⟨rc, hgn⟩ := Rel.ground0 (A := aU (aU (aU A (7 + d) 2 0) (7 + d) 1 w) (7 + d) 5 (A (7 + d) 5 + 1)) rb hc hD2 hd hg2 (v := A (7 + d) 3 - 1) e3
        have eg' : grindA A d = aU (aU (aU (aU A (7 + d) 2 0) (7 + d) 1 w) (7 + d) 5 (A (7 + d) 5 + 1)) (7 + d) 3 (A (7 + d) 3 - 1) := by
          unfold grindA
          rw [if_neg e3, hw, aU_comm (r := 7 + d) (f := 3) (r' := 7 + d) (f' := 2) (by omega), aU_comm (r := 7 + d) (f := 3) (r' := 7 + d) (f' := 1) (by omega), aU_comm (r := 7 + d) (f := 3) (r' := 7 + d) (f' := 5) (by omega)]
        rw [← eg'] at rc hgn
        -- the cell 14 is free now
        have rd : Rel (grindA A d) c m ι (uS (uS (uS (uS (uS σ 14 (nI (gg - 1))) (35 + 5 * d + 2) 0) (35 + 5 * d + 1) w) (35 + 5 * d + 4) (A (7 + d) 5 + 1)) 13 0) := by
          have same : ∀ i, i ≠ 14 → uS (uS (uS (uS (uS σ 14 (nI (gg - 1))) (35 + 5 * d + 2) 0) (35 + 5 * d + 1) w) (35 + 5 * d + 4) (A (7 + d) 5 + 1)) 13 0 i = uS (uS (uS (uS σ (35 + 5 * d + 2) 0) (35 + 5 * d + 1) w) (35 + 5 * d + 4) (A (7 + d) 5 + 1)) 13 0 i := fun i hi => by
            simp only [uS, hi, if_false]
          obtain ⟨x1, x2, x3, x4, x5, x6⟩ := rc
          refine ⟨x1.congr (fun j hj => same j (by omega)) (fun f _ _ _ => rfl) (fun j hj => rfl) (fun j hj => rfl), ?_, x3.congr (fun j _ hj => same j (by omega)) (fun i hi f _ => rfl), x4.congr (fun j _ hj => same j (by omega)) (fun e he f hf => rfl), x5.congr hc (fun j _ hj => same j (by omega)) (fun k hk f _ => rfl), x6.congr (fun j _ hj => same j (by omega)) (fun p hp f _ => rfl)⟩
          unfold RG
          rw [hgn]
          exact uS_s
        have hS2 : iS (grindA A d) := by
          have z : ∀ f, grindA A d 0 f = A 0 f := fun f => by rw [eg', up_r (by omega), up_r (by omega), up_r (by omega), up_r (by omega)]
          unfold iS
          rw [z, z, z, z]
          exact hS
        exact r_tendW hB rd hc hS2 hgn hp
      have rest : ∀ w, w = (if 10 < A (7 + d) 1 - 5 then A (7 + d) 1 - 5 else 10) → (∀ M52 : Mem, M52 = uI (sM B (uS (uS σ 14 (nI (gg - 1))) (35 + 5 * d + 2) 0)) 277 (35 + 5 * d + 1) w → (∃ j53 : Nat, M52.2.1 276 1 = Option.some j53 ∧ (m_tp 283 j53 8 ∧ (vp_in (nI (35 + 5 * d) + 4) (m_len j53) ∧ (vp_in (nI (35 + 5 * d) + 4) (m_len j53) ∧ (∀ M57 : Mem, M57 = uI M52 j53 (nI (35 + 5 * d) + 4).toNatClampNeg ((M52.1 j53 (nI (35 + 5 * d) + 4).toNatClampNeg) + 1) → (∃ j58 : Nat, M57.2.1 276 1 = Option.some j58 ∧ (m_tp 283 j58 8 ∧ (vp_in 13 (m_len j58) ∧ (∀ M61 : Mem, M61 = uI M57 j58 (13 : Int32).toNatClampNeg 0 → (∃ f : Nat, wpL_X7_grinds_113 283 P f M61 276 0))))))))))) := by
        intro w hw M52 e52
        rw [sM_uI] at e52
        rw [e52]
        refine r_inc hB (i := 35 + 5 * d + 4) (by omega) i4 (g := fun z => z + 1) ?_
        refine ⟨277, hB.1, tp8, by rw [len8]; exact vpI (i := 13) rfl (by omega) (by omega), fun M61 e61 => ?_⟩
        rw [show (13 : Int32).toNatClampNeg = 13 from rfl, sM_uI] at e61
        rw [e61]
        have := lim w hw
        rw [← l4] at this
        rw [uS_o (by omega), uS_o (by omega), uS_o (by omega)]
        exact this
      refine ⟨277, hB.1, 277, hB.1, tp8, by rw [i1, len8]; exact vp_in_nI (by omega) (by omega), ?_⟩
      rw [i1, nI_clamp (by omega), sM_1, uS_o (by omega), uS_o (by omega), l1, el]
      have l15 : (15 : Int32) ≤ nI ll ↔ 15 ≤ ll := nI_leI (a := 15) (by omega) (by omega)
      have sub5 : nI ll - 5 = nI ll - nI 5 := rfl
      have t := nI_sub_toInt (a := ll) (b := 5) (by omega) (by omega)
      have lt10 : 10 < nI ll - 5 ↔ 15 < ll := by
        rw [sub5, Int32.lt_iff_toInt_lt, t, show (10 : Int32).toInt = 10 from rfl]
        omega
      refine ⟨fun q => ⟨277, hB.1, tp8, by rw [len8]; exact vp_in_nI (by omega) (by omega), tp8, by rw [len8]; exact vp_in_nI (by omega) (by omega), ?_⟩, fun q => ⟨tp8, by rw [len8]; exact vp_in_nI (by omega) (by omega), ?_⟩⟩
      · rw [sM_1, uS_o (by omega), uS_o (by omega), l1, el]
        refine rest (nI ll - 5) ?_
        rw [el]
        by_cases z : 15 < ll
        · rw [if_pos (lt10.mpr z)]
        · rw [if_neg (fun y => z (lt10.mp y)), show ll = 15 by have := l15.mp q; omega]; decide
      · refine rest 10 ?_
        rw [el, if_neg (fun y => q (l15.mpr (by have := lt10.mp y; omega)))]
end RPS
