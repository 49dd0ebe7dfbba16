/-! The law's acts: what is called, and that none of it throws. -/
section YAC
variable {M : Mem} {A : Ab} {Q : Nat → Ab} {s b j : Nat} {cd : Nat → Nat} {τ : Nat → Int32} {P : Int32 → Mem → Prop} {v w : Int32}
theorem z_low {x n : Int32} {m : Nat} (hn : n = nI m) (h0 : 0 < m) (hm : m < 2 ^ 31) (hp : P (lo x n) M) : wp_L_low 278 M x n P := ⟨by rw [hn]; exact nI_ne0 h0 hm, hp⟩
theorem ok_no {x : Int32} (e : v &&& 15 = x) (h : x ≠ 7 ∧ x ≠ 8 ∧ x ≠ 9 ∧ x ≠ 10) : okP A v w 0 := by
  refine ⟨fun q => absurd (e.symm.trans q) h.1, fun q => ?_⟩
  rcases q with q | q | q
  · exact absurd (e.symm.trans q) h.2.1
  · exact absurd (e.symm.trans q) h.2.2.1
  · exact absurd (e.symm.trans q) h.2.2.2
theorem zr : (0 : Int32) ≠ -1 := by decide
theorem y_acts (h : KC M A Q s b cd) (kw : KW A j τ) (hj : j ≤ 100) (hn : ∀ p, okP A v w p → act A v w p = (-1, A) → P (-1) M)
    (hy : ∀ p, okP A v w p → (act A v w p).1 ≠ -1 → ∀ M', KC M' (act A v w p).2 (pQ Q s A) (sN s) b cd → FrL M M' → P (act A v w p).1 M') : wp_L_acts 278 M 0 v w P := by
  obtain ⟨N, T, U, hNj, hT, hU, hI, kv⟩ := id kw
  have ok := hI.1.1
  have hc := ok.2.1
  obtain ⟨eh, hh⟩ := vH_is v
  obtain ⟨ed, hd⟩ := vD_is v
  have hy' : ∀ {p r A'}, okP A v w p → act A v w p = (r, A') → r ≠ -1 → ∀ M', KC M' A' (pQ Q s A) (sN s) b cd → FrL M M' → P r M' := fun {p r A'} o e hr M' k f => by
    have := hy p o (by rw [e]; exact hr) M' (by rw [e]; exact k) f
    rw [e] at this
    exact this
  have n1 : numV A (cnt A) (nI s) 1 = A 0 5 := rfl
  -- stock
  have St : v &&& 15 = 0 ∨ v &&& 15 = 1 → wp_L_low 278 M w 40 (fun r86 M85 => ∀ v87 : Int32, v87 = (1 + r86) → (wp_X6_heat 278 M85 0 (vH v) 0 (fun r89 M88 => (((r89 + v87) ≤ 200 → wp_X6_stock 278 M88 0 (vH v) v87 (fun r91 M90 => P ((100 * (vH v)) + v87) M90)) ∧ (¬ (r89 + v87) ≤ 200 → P (-1) M88))))) := by
    intro hx
    obtain ⟨q, e, hq⟩ := lo_is w (n := 40) (m := 40) rfl (by omega) (by omega)
    have e1 : 1 + lo w 40 = nI (1 + q) := by rw [e]; exact nI_add 1 q
    have ho : okP A v w 0 := by
      rcases hx with hx | hx
      · exact ok_no hx (by decide)
      · exact ok_no hx (by decide)
    have ea : act A v w 0 = aStock A v w := by
      unfold act
      rcases hx with hx | hx
      · rw [if_pos hx]
      · rw [if_neg (by rw [hx]; decide), if_pos hx]
    refine z_low (m := 40) rfl (by omega) (by omega) fun v87 e87 => y_heat h ok eh hh (n := 0) rfl (by omega) ?_
    rw [e87]
    show (A (2 + hN v) 0 + (1 + lo w 40) ≤ 200 → _) ∧ (¬ A (2 + hN v) 0 + (1 + lo w 40) ≤ 200 → _)
    refine ⟨fun hle => z_stock h ok eh hh e1 (by omega) (by omega) hle fun r M' k f => ?_, fun hle => hn 0 ho ?_⟩
    · refine hy' ho (p := 0) (A' := aU A (2 + hN v) 0 (A (2 + hN v) 0 + (1 + lo w 40))) ?_ ?_ M' k f
      · rw [ea]; unfold aStock; rw [if_pos hle]
      · rw [e1, eh, show (100 : Int32) = nI 100 from rfl, pk_mul, nI_add]
        exact nI_n1 (by omega)
    · rw [ea]; unfold aStock; rw [if_neg hle]
  -- range
  have Rg : v &&& 15 = 2 → wp_L_low 278 M w 641 (fun r26 M25 => ∀ v27 : Int32, v27 = (600 + r26) → (wp_L_low 278 M25 (sh w 10) (1241 - v27) (fun r29 M28 => wp_X6_range 278 M28 0 (vH v) v27 (v27 + r29) (fun r31 M30 => P 0 M30)))) := by
    intro hx
    obtain ⟨q, e, hq⟩ := lo_is w (n := 641) (m := 641) rfl (by omega) (by omega)
    have e1 : 600 + lo w 641 = nI (600 + q) := by rw [e]; exact nI_add 600 q
    have e2 : 1241 - (600 + lo w 641) = nI (641 - q) := by
      rw [e1]
      have := pk_sub (a := 1241) (b := 600 + q) (by omega)
      rw [show 1241 - (600 + q) = 641 - q by omega] at this
      exact this
    obtain ⟨u, eu, hu⟩ := lo_is (sh w 10) e2 (by omega) (by omega)
    refine z_low (m := 641) rfl (by omega) (by omega) fun v27 e27 => ?_
    rw [e27]
    refine z_low e2 (by omega) (by omega) (z_range h ok eh hh e1 (by omega) (d := 600 + q + u) (by rw [e1, ← e1, eu, e1, nI_add]) (by omega) fun r M' k f => ?_)
    refine hy' (ok_no hx (by decide)) (p := 0) ?_ zr M' k f
    unfold act
    rw [if_neg (by rw [hx]; decide), if_neg (by rw [hx]; decide), if_pos hx]
    rfl
  -- die
  have Di : v &&& 15 = 3 → wp_X6_dieOf 278 M 0 (vD v) 3 (fun r33 M32 => ((r33 ≤ 0 → wp_L_low 278 M32 w 9 (fun r35 M34 => wp_L_low 278 M34 (sh w 4) 40 (fun r37 M36 => wp_X6_die 278 M36 0 (vD v) (1 + r35) (10 + r37) (fun r39 M38 => P 0 M38)))) ∧ (¬ r33 ≤ 0 → P (-1) M32))) := by
    intro hx
    obtain ⟨q, e, hq⟩ := lo_is w (n := 9) (m := 9) rfl (by omega) (by omega)
    obtain ⟨l, el, hl⟩ := lo_is (sh w 4) (n := 40) (m := 40) rfl (by omega) (by omega)
    have ea : act A v w 0 = aDie A v w := by
      unfold act
      rw [if_neg (by rw [hx]; decide), if_neg (by rw [hx]; decide), if_neg (by rw [hx]; decide), if_pos hx]
    refine y_dieOf h ed hd (n := 3) rfl (by omega) ⟨fun hle => ?_, fun hle => hn 0 (ok_no hx (by decide)) ?_⟩
    · have hle : A (7 + dN v) 3 ≤ 0 := hle
      refine z_low (m := 9) rfl (by omega) (by omega) (z_low (m := 40) rfl (by omega) (by omega) (z_die h ok ed hd (a := 1 + q) (by rw [e]; exact nI_add 1 q) (by omega) (d := 10 + l) (by rw [el]; exact nI_add 10 l) (by omega) hle fun r M' k f => ?_))
      refine hy' (ok_no hx (by decide)) (p := 0) ?_ zr M' k f
      rw [ea]; unfold aDie; rw [if_pos hle]
    · have hle : ¬ A (7 + dN v) 3 ≤ 0 := hle
      rw [ea]; unfold aDie; rw [if_neg hle]
  -- grind
  have Gr : v &&& 15 = 4 → wp_X6_count 278 M 0 10 (fun r41 M40 => ((r41 < 0 → wp_X6_grind 278 M40 0 (vD v) (fun r43 M42 => P 0 M42)) ∧ (¬ r41 < 0 → P (-1) M40))) := by
    intro hx
    have ea : act A v w 0 = aGrind A v := by
      unfold act
      rw [if_neg (by rw [hx]; decide), if_neg (by rw [hx]; decide), if_neg (by rw [hx]; decide), if_neg (by rw [hx]; decide), if_pos hx]
    refine y_count h ok (n := 10) rfl (by omega) ⟨fun hg => ?_, fun hg => hn 0 (ok_no hx (by decide)) ?_⟩
    · have hg : oI (groundA A) < 0 := hg
      have g0 := g_none hg fun e he => by have := (fst9_some he).2.1; omega
      refine z_grind h ok ed hd g0 fun r M' k f => ?_
      refine hy' (ok_no hx (by decide)) (p := 0) ?_ zr M' k f
      rw [ea]; unfold aGrind; rw [if_pos hg]
    · have hg : ¬ oI (groundA A) < 0 := hg
      rw [ea]; unfold aGrind; rw [if_neg hg]
  -- set
  have Se : v &&& 15 = 5 → ∀ v44 : Int32, v44 = (w &&& 3) → (((¬ v44 = 0 → ((¬ v44 = 1 → ((¬ v44 = 2 → wp_L_low 278 M (sh w 2) 30 (fun r46 M45 => wp_X6_set 278 M45 0 v44 (1 + r46) (fun r48 M47 => P 0 M47))) ∧ (v44 = 2 → wp_X6_set 278 M 0 v44 ((sh w 2) &&& 3) (fun r50 M49 => P 0 M49)))) ∧ (v44 = 1 → wp_L_low 278 M (sh w 2) 200 (fun r52 M51 => wp_X6_set 278 M51 0 v44 (1 + r52) (fun r54 M53 => P 0 M53))))) ∧ (v44 = 0 → wp_L_low 278 M (sh w 2) 291 (fun r56 M55 => wp_X6_set 278 M55 0 v44 (10 + r56) (fun r58 M57 => P 0 M57))))) := by
    intro hx v44 e44
    obtain ⟨n, q, en, hn4, eq, c0, c1, c2, c3⟩ := sV_is w
    rw [en] at e44
    have ea : act A v w 0 = aSet A w := by
      unfold act
      rw [if_neg (by rw [hx]; decide), if_neg (by rw [hx]; decide), if_neg (by rw [hx]; decide), if_neg (by rw [hx]; decide), if_neg (by rw [hx]; decide), if_pos hx]
    have go : ∀ x : Int32, x = sV w → wp_X6_set 278 M 0 v44 x (fun r48 M47 => P 0 M47) := fun x ex => by
      subst ex
      refine z_set h ok e44 hn4 ?_ fun r M' k f => ?_
      · unfold inS
        rw [e44]
        rcases (by omega : n = 0 ∨ n = 1 ∨ n = 2 ∨ n = 3) with rfl | rfl | rfl | rfl
        · rw [if_pos (show nI 0 = 0 from rfl)]
          exact inB_of (l := 10) (h := 300) eq (c0 rfl).1 (c0 rfl).2 (by omega)
        · rw [if_neg (show ¬ nI 1 = 0 by decide), if_pos (show nI 1 = 1 from rfl)]
          exact inB_of (l := 1) (h := 200) eq (c1 rfl).1 (c1 rfl).2 (by omega)
        · rw [if_neg (show ¬ nI 2 = 0 by decide), if_neg (show ¬ nI 2 = 1 by decide), if_pos (show nI 2 = 2 from rfl)]
          exact inB_of (l := 0) (h := 3) eq (by omega) (c2 rfl) (by omega)
        · rw [if_neg (show ¬ nI 3 = 0 by decide), if_neg (show ¬ nI 3 = 1 by decide), if_neg (show ¬ nI 3 = 2 by decide)]
          exact inB_of (l := 1) (h := 30) eq (c3 rfl).1 (c3 rfl).2 (by omega)
      · refine hy' (ok_no hx (by decide)) (p := 0) ?_ zr M' k f
        rw [ea]; unfold aSet; rw [en, nI_clamp (by omega)]
    have ew : w &&& 3 = v44 := by rw [en, e44]
    refine ⟨fun z0 => ⟨fun z1 => ⟨fun z2 => z_low (m := 30) rfl (by omega) (by omega) (go _ ?_), fun z2 => go _ ?_⟩, fun z1 => z_low (m := 200) rfl (by omega) (by omega) (go _ ?_)⟩, fun z0 => z_low (m := 291) rfl (by omega) (by omega) (go _ ?_)⟩
    · unfold sV; rw [ew, if_neg z0, if_neg z1, if_neg z2]
    · unfold sV; rw [ew, if_neg z0, if_neg z1, if_pos z2]
    · unfold sV; rw [ew, if_neg z0, if_pos z1]
    · unfold sV; rw [ew, if_pos z0]
  -- the job that the cell names
  have n6 : v &&& 15 = 6 → act A v w 0 = aCancel A v := fun hx => by
    unfold act
    rw [if_neg (by rw [hx]; decide), if_neg (by rw [hx]; decide), if_neg (by rw [hx]; decide), if_neg (by rw [hx]; decide), if_neg (by rw [hx]; decide), if_neg (by rw [hx]; decide), if_pos hx]
  have n7 : ∀ p, v &&& 15 = 7 → act A v w p = aRush A v w p := fun p hx => by
    unfold act
    rw [if_neg (by rw [hx]; decide), if_neg (by rw [hx]; decide), if_neg (by rw [hx]; decide), if_neg (by rw [hx]; decide), if_neg (by rw [hx]; decide), if_neg (by rw [hx]; decide), if_neg (by rw [hx]; decide), if_pos hx]
  have n8 : ∀ p, v &&& 15 = 8 ∨ v &&& 15 = 9 ∨ v &&& 15 = 10 → act A v w p = aJob A v w p := fun p hx => by
    unfold act
    rcases hx with hx | hx | hx
    · rw [if_neg (by rw [hx]; decide), if_neg (by rw [hx]; decide), if_neg (by rw [hx]; decide), if_neg (by rw [hx]; decide), if_neg (by rw [hx]; decide), if_neg (by rw [hx]; decide), if_neg (by rw [hx]; decide), if_neg (by rw [hx]; decide), if_pos hx]
    · rw [if_neg (by rw [hx]; decide), if_neg (by rw [hx]; decide), if_neg (by rw [hx]; decide), if_neg (by rw [hx]; decide), if_neg (by rw [hx]; decide), if_neg (by rw [hx]; decide), if_neg (by rw [hx]; decide), if_neg (by rw [hx]; decide), if_neg (by rw [hx]; decide), if_pos hx]
    · rw [if_neg (by rw [hx]; decide), if_neg (by rw [hx]; decide), if_neg (by rw [hx]; decide), if_neg (by rw [hx]; decide), if_neg (by rw [hx]; decide), if_neg (by rw [hx]; decide), if_neg (by rw [hx]; decide), if_neg (by rw [hx]; decide), if_neg (by rw [hx]; decide), if_neg (by rw [hx]; decide), if_pos hx]
  have Jo : v &&& 15 = 8 ∨ v &&& 15 = 9 ∨ v &&& 15 = 10 → ((¬ numV A (cnt A) (nI s) 1 = 10 → wp_L_low 278 M w 6 (fun r64 M63 => wp_L_low 278 M63 (sh w 3) 400 (fun r66 M65 => wp_X6_job 278 M65 0 (vD v) (vH v) (1 + r64) r66 (if ¬ ((sh w 12) &&& 3) = 0 then false else true) (fun r68 M67 => P 0 M67)))) ∧ (numV A (cnt A) (nI s) 1 = 10 → P (-1) M)) := by
    intro hx
    have x7 : ¬ v &&& 15 = 7 := by rcases hx with hx | hx | hx <;> rw [hx] <;> decide
    rw [n1]
    obtain ⟨q, e, hq⟩ := lo_is w (n := 6) (m := 6) rfl (by omega) (by omega)
    obtain ⟨u, eu, hu⟩ := lo_is (sh w 3) (n := 400) (m := 400) rfl (by omega) (by omega)
    refine ⟨fun h0 => z_low (m := 6) rfl (by omega) (by omega) (z_low (m := 400) rfl (by omega) (by omega) (z_job h hI (c_lt ok h0) ed hd eh hh (pn := 1 + q) (by rw [e]; exact nI_add 1 q) (by omega) eu (by omega) fun p hp hs r M' k f => ?_)), fun h0 => hn 0 ⟨fun z => absurd z x7, fun _ z => absurd h0 z⟩ ?_⟩
    · refine hy' (p := p) ⟨fun z => absurd z x7, fun _ _ => ⟨hp, hs⟩⟩ ?_ zr M' k f
      rw [n8 p hx]; unfold aJob; rw [if_neg h0]; rfl
    · rw [n8 0 hx]; unfold aJob; rw [if_pos h0]
  have Pa : ¬ v &&& 15 = 0 → ¬ v &&& 15 = 1 → ¬ v &&& 15 = 2 → ¬ v &&& 15 = 3 → ¬ v &&& 15 = 4 → ¬ v &&& 15 = 5 → ¬ v &&& 15 = 6 → ¬ v &&& 15 = 7 → ¬ v &&& 15 = 8 → ¬ v &&& 15 = 9 → ¬ v &&& 15 = 10 → wp_L_low 278 M w (if ¬ ((sh w 7) &&& 3) = 0 then 6 else 60) (fun r82 M81 => wp_X6_pass 278 M81 0 (1 + r82) (fun r84 M83 => P 0 M83)) := by
    intro m0 m1 m2 m3 m4 m5 m6 m7 m8 m9 m10
    obtain ⟨n, en, hn1, hn6⟩ := pN_is w
    obtain ⟨_, _, _, t, _, _, _, et, _, _, _, ht, _⟩ := kv.2.2.1
    have hz : ∃ m, (if ¬ ((sh w 7) &&& 3) = 0 then (6 : Int32) else 60) = nI m ∧ 0 < m ∧ m < 2 ^ 31 := by
      split
      · exact ⟨6, rfl, by omega, by omega⟩
      · exact ⟨60, rfl, by omega, by omega⟩
    obtain ⟨m, em, hm0, hm1⟩ := hz
    refine z_low em hm0 hm1 (z_pass h hI (by omega) (n := n) en hn1 (by omega) et (by omega) fun r M' k f => ?_)
    refine hy' (p := 0) ⟨fun z => absurd z m7, fun z => ?_⟩ ?_ zr M' k f
    · rcases z with z | z | z
      · exact absurd z m8
      · exact absurd z m9
      · exact absurd z m10
    · unfold act
      rw [if_neg m0, if_neg m1, if_neg m2, if_neg m3, if_neg m4, if_neg m5, if_neg m6, if_neg m7, if_neg m8, if_neg m9, if_neg m10]
      unfold aPass
      rw [en, nI_clamp (by omega)]
  intro v1 e1
  have e1 : v1 = vH v := e1
  subst e1
  refine z_low (m := 5) rfl (by omega) (by omega) ⟨tp6, y_count h ok (n := 1) rfl (by omega) ⟨fun j0 => ?_, fun j0 => ?_⟩⟩
  · have j0 : ¬ A 0 5 = 0 := j0
    obtain ⟨ek, hk⟩ := vK_is v ok.1 (c_pos ok j0) hc
    refine z_low (m := cnt A) ok.1 (c_pos ok j0) (by omega) (y_jobOf h ok ek hk (n := 0) rfl (by omega) ?_)
    refine ⟨fun n => St (Or.inl n), fun m0 => ⟨fun n => St (Or.inr n), fun m1 => ⟨Rg, fun m2 => ⟨Di, fun m3 => ⟨Gr, fun m4 => ⟨Se, fun m5 => ⟨fun m6 => ⟨fun _ => ?_, fun z => absurd z j0⟩, fun m6 => ⟨fun m7 => ⟨fun _ => ?_, fun z => absurd z j0⟩, fun m7 => ⟨fun n => Jo (Or.inl n), fun m8 => ⟨fun n => Jo (Or.inr (Or.inl n)), fun m9 => ⟨fun n => Jo (Or.inr (Or.inr n)), fun m10 => Pa m0 m1 m2 m3 m4 m5 m6 m7 m8 m9 m10⟩⟩⟩⟩⟩⟩⟩⟩⟩⟩⟩
    · refine z_cancel h hI hk rfl fun r M' k f => ?_
      refine hy' (ok_no m6 (by decide)) (p := 0) ?_ zr M' k f
      rw [n6 m6]; unfold aCancel; rw [if_neg j0]
    · refine z_rush h hI hk rfl fun p hp hs r M' k f => ?_
      refine hy' (p := p) ⟨fun _ _ => ⟨hp, hs⟩, fun z => ?_⟩ ?_ zr M' k f
      · rcases z with z | z | z <;> rw [m7] at z <;> exact absurd z (by decide)
      · rw [n7 p m7]; unfold aRush; rw [if_neg j0]; rfl
  · have j0 : A 0 5 = 0 := j0
    refine ⟨fun n => St (Or.inl n), fun m0 => ⟨fun n => St (Or.inr n), fun m1 => ⟨Rg, fun m2 => ⟨Di, fun m3 => ⟨Gr, fun m4 => ⟨Se, fun m5 => ⟨fun m6 => ⟨fun z => absurd j0 z, fun _ => hn 0 (ok_no m6 (by decide)) ?_⟩, fun m6 => ⟨fun m7 => ⟨fun z => absurd j0 z, fun _ => hn 0 ⟨fun _ z => absurd j0 z, fun z => ?_⟩ ?_⟩, fun m7 => ⟨fun n => Jo (Or.inl n), fun m8 => ⟨fun n => Jo (Or.inr (Or.inl n)), fun m9 => ⟨fun n => Jo (Or.inr (Or.inr n)), fun m10 => Pa m0 m1 m2 m3 m4 m5 m6 m7 m8 m9 m10⟩⟩⟩⟩⟩⟩⟩⟩⟩⟩⟩
    · rw [n6 m6]; unfold aCancel; rw [if_pos j0]
    · rcases z with z | z | z <;> rw [m7] at z <;> exact absurd z (by decide)
    · rw [n7 0 m7]; unfold aRush; rw [if_pos j0]
end YAC
