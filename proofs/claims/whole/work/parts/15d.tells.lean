/-! What the reference tells: properties. -/
section TEP
variable {B : Mem} {σ σ' : Nat → Int32} {A A' : Ab} {c N T : Nat} {m : Int32} {ι : Nat → Nat}
theorem plB_none (hBl : iB A c) {p : Nat} (hp : p < 7) : plB A c p = none ↔ A (24 + p) 0 = -1 := by
  unfold plB
  constructor
  · intro h
    split at h
    · assumption
    · rename_i hne
      rcases hBl.1 p hp with y | ⟨⟨k, hk, y⟩, -⟩
      · exact y
      · have := fst9_none h k (by omega) (by omega)
        simp [y] at this
  · intro h; rw [if_pos h]
theorem oI_map_n1 {o : Option Nat} {b : Nat} (hb : b < 2 ^ 31) (h : ∀ k, o = some k → ι k < b) : oI (o.map ι) = -1 ↔ o = none := by
  cases o with
  | none => exact ⟨fun _ => rfl, fun _ => rfl⟩
  | some k =>
    constructor
    · intro e; exact absurd e (nI_n1 (by have := h k rfl; omega))
    · intro e; cases e
theorem jobOn_n1 (hR : Rel A c m ι σ) (hBl : iB A c) (hc : c ≤ 10) {p : Nat} (hp : p < 7) : oI ((plB A c p).map ι) = -1 ↔ A (24 + p) 0 = -1 := by
  rw [oI_map_n1 (b := 10) (by omega) (fun k h => by have := hR.2.2.2.2.1.1.1 k (plB_lt h); omega), plB_none hBl hp]
theorem r_tellsHeat (hB : RB B) (hR : Rel A c m ι σ) (hI : iJ A c N) (hC : iC A c) {i n : Nat} (hi : i < 4) (hn : n < 7) {x w : Int32} (hx : x = nI i) (hw : w = nI n) {P : Int32 → Mem → Prop} (hp : P (heatV A c i w) (sM B σ)) : wp_X7_tellsHeat 283 (sM B σ) 276 x w P := by
  have hH := hR.2.2.1
  unfold heatV at hp
  refine ⟨fun e => ⟨tp7, r_billetsWith hB hR hI hC ?_⟩, fun n3 => ⟨fun e => ⟨tp7, r_heatOf hB hi (f := 3) (by omega) hx rfl ?_⟩, fun n4 => ⟨fun e => ⟨tp7, r_heatOf hB hi (f := 4) (by omega) hx rfl ?_⟩, fun n5 => ⟨fun e => ⟨tp7, r_lackedWith hB hR hI hC ?_⟩, fun n6 => ⟨tp7, ?_⟩⟩⟩⟩⟩
  · rw [e] at hp; rw [hx]; exact hp
  · rw [e] at hp; rw [hH i hi 3 (by omega)]; exact hp
  · rw [e] at hp; rw [hH i hi 4 (by omega)]; exact hp
  · rw [e] at hp; rw [hx]; exact hp
  · rcases (by omega : n = 0 ∨ n = 1 ∨ n = 2 ∨ n = 3 ∨ n = 4 ∨ n = 5 ∨ n = 6) with rfl | rfl | rfl | rfl | rfl | rfl | rfl
    · rw [hw] at hp; exact r_heatOf hB hi (f := 0) (by omega) hx hw (by rw [hH i hi 0 (by omega)]; exact hp)
    · rw [hw] at hp; exact r_heatOf hB hi (f := 1) (by omega) hx hw (by rw [hH i hi 1 (by omega)]; exact hp)
    · rw [hw] at hp; exact r_heatOf hB hi (f := 2) (by omega) hx hw (by rw [hH i hi 2 (by omega)]; exact hp)
    · exact absurd hw n3
    · exact absurd hw n4
    · exact absurd hw n5
    · exact absurd hw n6
theorem r_tellsDie (hB : RB B) (hR : Rel A c m ι σ) (hD : iD A) {d n : Nat} (hd : d < 5) (hn : n < 6) {x w : Int32} (hx : x = nI d) (hw : w = nI n) {P : Int32 → Mem → Prop} (hp : P (dieV A d w) (sM B σ)) : wp_X7_tellsDie 283 (sM B σ) 276 x w P := by
  have hRD := hR.2.2.2.1
  unfold dieV at hp
  refine ⟨fun n3 => ⟨tp7, ?_⟩, fun e => ⟨tp7, r_isBeingGround hB hR.2.1 hD hd hx ⟨fun z => ?_, fun z => ?_⟩⟩⟩
  · rcases (by omega : n = 0 ∨ n = 1 ∨ n = 2 ∨ n = 3 ∨ n = 4 ∨ n = 5) with rfl | rfl | rfl | rfl | rfl | rfl
    · rw [hw] at hp; exact r_die0 hB hd (f := 0) (by omega) hx (by rw [hw]; rfl) (by rw [hRD d hd 0 (by omega)]; exact hp)
    · rw [hw] at hp; exact r_die0 hB hd (f := 1) (by omega) hx (by rw [hw]; rfl) (by rw [hRD d hd 1 (by omega)]; exact hp)
    · rw [hw] at hp; exact r_die0 hB hd (f := 2) (by omega) hx (by rw [hw]; rfl) (by rw [hRD d hd 2 (by omega)]; exact hp)
    · exact absurd hw n3
    · rw [hw] at hp; exact r_die0 hB hd (f := 3) (by omega) hx (by rw [hw]; rfl) (by rw [hRD d hd 3 (by omega)]; exact hp)
    · rw [hw] at hp; exact r_die0 hB hd (f := 4) (by omega) hx (by rw [hw]; rfl) (by rw [hRD d hd 4 (by omega)]; exact hp)
  · rw [e] at hp
    obtain ⟨b1, l1, g1, -, -, -, -, -, eg, hg⟩ := hD.1 d hd
    have h0 : g1 = 0 := by
      simp only [decide_eq_false_iff_not] at z
      rcases Nat.eq_zero_or_pos g1 with y | y
      · exact y
      · exact absurd (by rw [eg, show (0 : Int32) = nI 0 from rfl, nI_ltI (by omega) (by omega)]; omega) z
    have hp' : P (A (7 + d) 3) (sM B σ) := hp
    rw [eg, h0] at hp'
    exact hp'
  · rw [e] at hp
    simp only [decide_eq_true_eq] at z
    have hg := (groundA_iff hD hd).mpr z
    refine r_rd hB (i := 14) (x := 14) (by omega) rfl (P := fun v => P v (sM B σ)) ?_
    rw [(hR.2.1.some hg).2]
    exact hp
theorem r_jobAt_none (hB : RB B) (hR : Rel A c m ι σ) (hI : iJ A c N) {x : Int32} (hx : ∀ k, k < c → x ≠ nI k) {P : Int32 → Mem → Prop} (hp : P (-1) (sM B σ)) : wp_X7_jobAt 283 (sM B σ) 276 x P := by
  have hc := hI.1.2.1
  have c5 := hR.c5 hI.1
  have hb := hR.2.2.2.2.1.1
  refine ⟨c + 1, ?_⟩
  have L : ∀ f i, i + f = c → wpL_X7_jobAt_2 283 P (f + 1) (sM B σ) 276 x (nI i) := by
    intro f
    induction f with
    | zero =>
      intro i hi
      have : i = c := by omega
      subst this
      exact ⟨tp7, r_len5 hB (P := fun z => (z ≤ nI i → _) ∧ (¬ z ≤ nI i → _)) ⟨fun _ => hp, fun q => absurd (cGe c5 rfl (by omega) (by omega)) q⟩⟩
    | succ f ih =>
      intro i hi
      obtain ⟨l, hl, el⟩ := hb.2.2 i (by omega)
      refine ⟨tp7, r_len5 hB (P := fun z => (z ≤ nI i → _) ∧ (¬ z ≤ nI i → _)) ⟨fun k => absurd k (cLt c5 rfl (by omega) (by omega)), fun _ => r_rankOf hB hR hI hl (by rw [el]) ⟨fun e v hv => ?_, fun e => ?_⟩⟩⟩
      · rw [hv, nI_1]; exact ih (i + 1) (by omega)
      · exact absurd e.symm (hx l hl)
  exact L c 0 (by omega)
theorem r_reason (hB : RB B) (hR : Rel A c m ι σ) (hI : iJ A c N) (hC : iC A c) (hBl : iB A c) (hD : iD A) {k : Nat} (hk : k < c) {x : Int32} (hx : x = nI (ι k)) {P : Int32 → Mem → Prop} (hp : P (reasonV A k) (sM B σ)) : wp_X7_reason 283 (sM B σ) 276 x P := by
  have hc := hI.1.2.1
  have hik := hR.2.2.2.2.1.1.1 k hk
  have hd := hI.1.d hk
  have hh := hI.1.h hk
  unfold reasonV at hp
  refine ⟨tp7, r_job0 hB (k := ι k) (f := 1) (by omega) (by omega) hx rfl (r_jobOn hB hR hI (p := 6) (by omega) rfl ⟨fun e => ?_, fun e => ?_⟩)⟩
  · rw [hx] at e
    have e6 : ¬ A 30 0 = A (13 + k) 0 := fun z => e ((jobOn_eq (p := 6) hR hI hk).mpr z)
    rw [if_neg e6] at hp
    rw [hR.job hk (by omega)]
    refine r_isFit hB hR.2.2.2.1 hR.2.1 hD hd.1 hd.2 ⟨fun z => ?_, fun z => ?_⟩
    · have z' : ¬ 0 < A (7 + dj A k) 3 ∧ ¬ A (7 + dj A k) 1 ≤ A (7 + dj A k) 2 := by
        unfold okDie at z
        simpa using z
      rw [if_neg (fun y => y (Int32.not_lt.mp z'.1)), if_neg (fun y => y (Int32.not_le.mp z'.2))] at hp
      have ec : cntN (fun p => decide (A (24 + p) 0 = A (13 + k) 0)) 7 = cntN (fun p => decide (A (24 + p) 0 = A (13 + k) 0)) 6 := by
        show cntN (fun p => decide (A (24 + p) 0 = A (13 + k) 0)) 6 + _ = _
        rw [if_neg (by simpa using e6)]; rfl
      have fin : ¬ (A (13 + k) 7 = 0 ∧ A (2 + hj A k) 0 = 0) → wp_X7_hottest 283 (sM B σ) 276 x (fun r11 M10 => ((¬ r11 = (-1) → wp_X7_jobOn 283 M10 276 6 (fun r13 M12 => P (if r13 = (-1) then 6 else 5) M12)) ∧ (r11 = (-1) → P 4 M10))) := fun q => by
        rw [if_neg q] at hp
        refine r_hottest hB hR hI hBl hk hx ⟨fun y => r_jobOn hB hR hI (p := 6) (by omega) rfl ?_, fun y => ?_⟩
        · cases q2 : hotA A k with
          | none => rw [q2] at y; exact absurd rfl y
          | some p =>
            rw [if_neg (by rw [q2]; simp)] at hp
            have := jobOn_n1 (p := 6) hR hBl hc (by omega)
            by_cases w : A 30 0 = -1
            · rw [if_pos w] at hp
              rw [if_pos (this.mpr w)]; exact hp
            · rw [if_neg w] at hp
              rw [if_neg (fun v => w (this.mp v))]; exact hp
        · cases q2 : hotA A k with
          | none => rwa [if_pos q2] at hp
          | some p =>
            rw [q2] at y
            exact absurd y (nI_n1 (by have := hotA_lt q2; omega))
      refine r_billetsOf hB hR hI hk (n := 5) (by omega) hx rfl rfl ⟨fun y => fin fun q => y ?_, fun y => ?_⟩
      · have := q.1
        rw [hC k hk, ec] at this
        exact this
      · have y7 : A (13 + k) 7 = 0 := by rw [hC k hk, ec]; exact y
        refine r_job0 hB (k := ι k) (f := 2) (by omega) (by omega) hx rfl ?_
        rw [hR.job hk (by omega), hh.2]
        refine r_heatOf hB hh.1 (f := 0) (by omega) rfl rfl ?_
        rw [hR.2.2.1 _ hh.1 0 (by omega)]
        refine ⟨fun y2 => fin fun q => y2 q.2, fun y2 => ?_⟩
        rwa [if_pos ⟨y7, y2⟩] at hp
    · refine r_isBeingGround hB hR.2.1 hD hd.1 hd.2 ?_
      by_cases y : 0 < A (7 + dj A k) 3
      · rw [if_pos (Int32.not_le.mpr y)] at hp
        rw [decide_eq_true y]; exact hp
      · rw [if_neg (fun w => w (Int32.not_lt.mp y))] at hp
        have : ¬ A (7 + dj A k) 2 < A (7 + dj A k) 1 := by
          unfold okDie at z
          rw [decide_eq_false y] at z
          simpa using z
        rw [if_pos this] at hp
        rw [decide_eq_false y]; exact hp
  · rw [hx] at e
    have e6 : A 30 0 = A (13 + k) 0 := (jobOn_eq (p := 6) hR hI hk).mp e
    rwa [if_pos e6] at hp
theorem r_tellsJob (hB : RB B) (hR : Rel A c m ι σ) (hI : iJ A c N) (hC : iC A c) (hBl : iB A c) (hD : iD A) {k n : Nat} (hk : k < c) (hn : n < 8) {x w : Int32} (hx : x = nI k) (hw : w = nI n) {P : Int32 → Mem → Prop} (hp : P (jobV A k w) (sM B σ)) : wp_X7_tellsJob 283 (sM B σ) 276 x w P := by
  have hc := hI.1.2.1
  have hik := hR.2.2.2.2.1.1.1 k hk
  refine ⟨tp7, r_jobAt hB hR hI hk hx ⟨fun _ => ⟨fun n7 => ?_, fun e => r_reason hB hR hI hC hBl hD hk rfl ?_⟩, fun e => absurd e (nI_n1 (by omega))⟩⟩
  · rcases (by omega : n = 0 ∨ n = 1 ∨ n = 2 ∨ n = 3 ∨ n = 4 ∨ n = 5 ∨ n = 6 ∨ n = 7) with rfl | rfl | rfl | rfl | rfl | rfl | rfl | rfl
    · rw [hw] at hp; exact r_job0 hB (k := ι k) (f := 0) (by omega) (by omega) rfl hw (by rw [hR.job hk (by omega)]; exact hp)
    · rw [hw] at hp; exact r_job0 hB (k := ι k) (f := 1) (by omega) (by omega) rfl hw (by rw [hR.job hk (by omega)]; exact hp)
    · rw [hw] at hp; exact r_job0 hB (k := ι k) (f := 2) (by omega) (by omega) rfl hw (by rw [hR.job hk (by omega)]; exact hp)
    · rw [hw] at hp; exact r_job0 hB (k := ι k) (f := 3) (by omega) (by omega) rfl hw (by rw [hR.job hk (by omega)]; exact hp)
    · rw [hw] at hp; exact r_job0 hB (k := ι k) (f := 4) (by omega) (by omega) rfl hw (by rw [hR.job hk (by omega)]; exact hp)
    · rw [hw] at hp; exact r_job0 hB (k := ι k) (f := 5) (by omega) (by omega) rfl hw (by rw [hR.job hk (by omega)]; exact hp)
    · rw [hw] at hp; exact r_job0 hB (k := ι k) (f := 6) (by omega) (by omega) rfl hw (by rw [hR.job hk (by omega)]; exact hp)
    · exact absurd hw n7
  · unfold jobV at hp
    rw [e] at hp; exact hp
theorem r_tellsJob_none (hB : RB B) (hR : Rel A c m ι σ) (hI : iJ A c N) {x w : Int32} (hx : ∀ k, k < c → x ≠ nI k) {P : Int32 → Mem → Prop} (hp : P (-1) (sM B σ)) : wp_X7_tellsJob 283 (sM B σ) 276 x w P :=
  ⟨tp7, r_jobAt_none hB hR hI hx ⟨fun e => absurd rfl e, fun _ => hp⟩⟩
theorem r_tellsBillet (hB : RB B) (hR : Rel A c m ι σ) {p n : Nat} (hp7 : p < 7) (hn : n < 4) {x w : Int32} (hx : x = nI p) (hw : w = nI n) {P : Int32 → Mem → Prop} (hp : P (bilV A p w) (sM B σ)) : wp_X7_tellsBillet 283 (sM B σ) 276 x w P := by
  have hRP := hR.2.2.2.2.2
  have e0 := hRP.zero hp7
  unfold bilV at hp
  refine ⟨tp7, r_billet0 hB hp7 (f := 0) (by omega) hx rfl ⟨fun e => ?_, fun e => ?_⟩⟩
  · have hne : ¬ A (24 + p) 0 = -1 := fun z => e (e0.mpr z)
    rw [if_neg hne] at hp
    refine ⟨fun n0 => ?_, fun z => r_billet0 hB hp7 (f := 0) (by omega) hx rfl ?_⟩
    · rcases (by omega : n = 0 ∨ n = 1 ∨ n = 2 ∨ n = 3) with rfl | rfl | rfl | rfl
      · exact absurd hw n0
      · rw [hw] at hp; exact r_billet0 hB hp7 (f := 1) (by omega) hx hw (by rw [(hRP p hp7).2 hne 1 (by omega) (by omega)]; exact hp)
      · rw [hw] at hp; exact r_billet0 hB hp7 (f := 2) (by omega) hx hw (by rw [(hRP p hp7).2 hne 2 (by omega) (by omega)]; exact hp)
      · rw [hw] at hp; exact r_billet0 hB hp7 (f := 3) (by omega) hx hw (by rw [(hRP p hp7).2 hne 3 (by omega) (by omega)]; exact hp)
    · rw [show 130 + 4 * p + 0 = 130 + 4 * p from rfl, (hRP p hp7).1, Int32.add_sub_cancel]
      rw [z] at hp; exact hp
  · have := e0.mp e
    rwa [if_pos this] at hp
theorem r_counts (hB : RB B) (hR : Rel A c (A 0 11) ι σ) (hI : iJ A c N) (hBl : iB A c) {n : Nat} (hn : n < 12) {w : Int32} (hw : w = nI n) {P : Int32 → Mem → Prop} (hp : P (numV A c (B.1 276 4) w) (sM B σ)) : wp_X7_counts 283 (sM B σ) 276 w P := by
  have hRN := hR.1
  unfold numV at hp
  have rd : ∀ i, i < 158 → ∀ x, x = nI i → ∀ v, σ i = v → P v (sM B σ) → m_tp 283 276 7 ∧ ∃ j2 : Nat, (sM B σ).2.1 276 1 = some j2 ∧ (m_tp 283 j2 8 ∧ (vp_in x (m_len j2) ∧ P ((sM B σ).1 j2 x.toNatClampNeg) (sM B σ))) := fun i hi x hx v hv hq => ⟨tp7, r_rd hB (P := fun v => P v (sM B σ)) hi hx (by rw [hv]; exact hq)⟩
  refine ⟨fun e => rd 4 (by omega) 4 rfl _ hRN.2.1 ?_, fun n0 => ⟨fun e => rd 5 (by omega) 5 rfl _ hRN.2.2.1 ?_, fun n1 => ⟨fun e => ⟨tp7, r_rushJobs hB hR hI ?_⟩, fun n2 => ⟨fun e => ⟨tp7, r_inFurnace hB hR hI hBl ?_⟩, fun n3 => ⟨fun e => ?_, fun n4 => ⟨fun e => ?_, fun n5 => ⟨fun e => ?_, fun n6 => ⟨fun e => ?_, fun n7 => ⟨fun e => ?_, fun n8 => ⟨fun e => ?_, fun n9 => ⟨fun e => ⟨tp7, r_rd hB (i := 13) (x := 13) (by omega) rfl (P := fun v => P (v - 1) (sM B σ)) ?_⟩, fun n10 => ⟨fun e => ⟨tp7, ?_⟩, fun n11 => ?_⟩⟩⟩⟩⟩⟩⟩⟩⟩⟩⟩⟩
  · rw [e] at hp; exact hp
  · rw [e] at hp; exact hp
  · rw [e] at hp; exact hp
  · rw [e] at hp; exact hp
  · rw [e] at hp ⊢; exact rd 7 (by omega) _ rfl _ hRN.2.2.2.2.1 hp
  · rw [e] at hp ⊢; exact rd 8 (by omega) _ rfl _ hRN.2.2.2.2.2.1 hp
  · rw [e] at hp ⊢; exact rd 9 (by omega) _ rfl _ (hRN.2.2.2.2.2.2 0 (by omega)) hp
  · rw [e] at hp ⊢; exact rd 10 (by omega) _ rfl _ (hRN.2.2.2.2.2.2 1 (by omega)) hp
  · rw [e] at hp ⊢; exact rd 11 (by omega) _ rfl _ (hRN.2.2.2.2.2.2 2 (by omega)) hp
  · rw [e] at hp ⊢; exact rd 12 (by omega) _ rfl _ (hRN.2.2.2.2.2.2 3 (by omega)) hp
  · rw [e] at hp
    have hp' : P (oI (groundA A)) (sM B σ) := hp
    have hG := hR.2.1
    unfold RG at hG
    cases q : groundA A with
    | none =>
      rw [q] at hG hp'
      rw [hG]; exact hp'
    | some d =>
      rw [q] at hG hp'
      rw [hG.1, ← nI_1, Int32.add_sub_cancel]; exact hp'
  · rw [e] at hp
    rw [sM_o (by omega)]; exact hp
  · exfalso
    rcases (by omega : n = 0 ∨ n = 1 ∨ n = 2 ∨ n = 3 ∨ n = 4 ∨ n = 5 ∨ n = 6 ∨ n = 7 ∨ n = 8 ∨ n = 9 ∨ n = 10 ∨ n = 11) with rfl | rfl | rfl | rfl | rfl | rfl | rfl | rfl | rfl | rfl | rfl | rfl
    · exact n0 hw
    · exact n1 hw
    · exact n2 hw
    · exact n3 hw
    · exact n4 hw
    · exact n5 hw
    · exact n6 hw
    · exact n7 hw
    · exact n8 hw
    · exact n9 hw
    · exact n10 hw
    · exact n11 hw
end TEP
