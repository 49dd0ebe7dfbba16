/-! The reference's minute is the shop's. -/
section MI
variable {B : Mem} {σ σ' : Nat → Int32} {A A' : Ab} {c N T : Nat} {m : Int32} {ι : Nat → Nat}
theorem Rel.tick (h : Rel A c m ι σ) (hc : c ≤ 10) : Rel (aTick A) c m ι σ :=
  ⟨h.1.congr (fun _ _ => rfl) (fun f _ _ hf => up_f hf) (fun i hi => up_r (by omega)) (fun i hi => up_r (by omega)), h.2.1.congr (fun _ _ _ => rfl) (fun d hd => up_r (by omega)), h.2.2.1.congr (fun _ _ _ => rfl) (fun i hi f _ => up_r (by omega)), h.2.2.2.1.congr (fun _ _ _ => rfl) (fun d hd f _ => up_r (by omega)), h.2.2.2.2.1.congr hc (fun _ _ _ => rfl) (fun k hk f _ => up_r (by omega)), h.2.2.2.2.2.congr (fun _ _ _ => rfl) (fun p hp f _ => up_r (by omega))⟩
theorem Rel.min (h : Rel A c m ι σ) (hc : c ≤ 10) {v : Int32} : Rel A c v ι (uS σ 4 v) := by
  obtain ⟨⟨a1, a2, a3, a4, a5, a6, a7⟩, hG, hH, hD, hJ, hP⟩ := h
  refine ⟨⟨fun j hj => ?_, uS_s, ?_, ?_, ?_, ?_, fun j hj => ?_⟩, hG.congr (fun j _ hj => uS_o (by omega)) (fun d hd => rfl), hH.congr (fun j _ hj => uS_o (by omega)) (fun j hj f _ => rfl), hD.congr (fun j _ hj => uS_o (by omega)) (fun d hd f _ => rfl), hJ.congr hc (fun j _ hj => uS_o (by omega)) (fun k hk f _ => rfl), hP.congr (fun j _ hj => uS_o (by omega)) (fun p hp f _ => rfl)⟩
  · rw [uS_o (by omega)]; exact a1 j hj
  · rw [uS_o (by omega)]; exact a3
  · rw [uS_o (by omega)]; exact a4
  · rw [uS_o (by omega)]; exact a5
  · rw [uS_o (by omega)]; exact a6
  · rw [uS_o (by omega)]; exact a7 j hj
theorem aMinute_11 (h : Iv A c N T) : aMinute A 0 11 = A 0 11 + 1 := by
  have hc := h.1.1.2.1
  have h1 := h.tick.warm
  have h2 := h1.charge
  unfold aMinute
  rw [h.cn]
  have e1 : aCharge (aWarm (aTick A) 6) c 0 11 = A 0 11 + 1 := by
    rw [aCharge_o hc (by omega) (by omega) (by omega) h1.1.1, aWarm_o (by omega)]
    unfold aTick
    rw [up_s]
  rw [← e1]
  generalize hX : aCharge (aWarm (aTick A) 6) c = X at h2
  have e2 : ∀ Y : Ab, aTend Y 0 11 = Y 0 11 := fun Y => by
    have g : ∀ d, grindA Y d 0 11 = Y 0 11 := fun d => by
      unfold grindA
      split
      · rw [up_r (by omega)]
      · rw [up_r (by omega), up_r (by omega), up_r (by omega), up_r (by omega)]
    have w : ∀ Z : Ab, tendW Z 0 11 = Z 0 11 := fun Z => by
      unfold tendW
      cases wornA Z with
      | none => rfl
      | some d => show aU Z (7 + d) 3 _ 0 11 = _; rw [up_r (by omega)]
    unfold aTend
    cases groundA Y with
    | none => exact w Y
    | some d =>
      show (if Y (7 + d) 3 - 1 ≤ 0 then tendW (grindA Y d) else grindA Y d) 0 11 = _
      split
      · rw [w, g]
      · rw [g]
  rw [e2]
  unfold aPress
  split
  · unfold aLoad
    cases q : fst9 (canLd X) c 0 with
    | none => rfl
    | some k =>
      show (match hotA X k with | none => X | some p => mvB X 6 p) 0 11 = _
      cases hotA X k with
      | none => rfl
      | some p => exact mvB_o (by omega) (by omega)
  · cases q : placeA X c (X 30 0) with
    | none => rfl
    | some k =>
      have hk : k < c := by have := (fst9_some q).2.1; omega
      show aWork X c k 0 11 = _
      unfold aWork
      split
      · split
        · unfold aMade
          split
          · rw [makeA_0, strikeA_0 (by omega)]
          · rw [remA_o (by omega) (by omega), goneA_5 (by omega), makeA_0, strikeA_0 (by omega)]
        · rw [strikeA_0 (by omega)]
      · exact aBack_o (by omega) (h2.1.1.h hk).1 (by omega) (by omega) (by omega)
theorem r_minute (hB : RB B) (hR : Rel A c (A 0 11) ι σ) (h : Iv A c N T) (hT : T < 2 ^ 30) {P : Mem → Prop} (hp : ∀ ι' σ', Rel (aMinute A) (cnt (aMinute A)) (aMinute A 0 11) ι' σ' → P (sM B σ')) : wp_X7_minute 283 (sM B σ) 276 P := by
  have hc := h.1.1.2.1
  have h1 := h.tick
  have h2 := h1.warm
  have h3 := h2.charge
  have h4 := h3.press hT
  have e11 := aMinute_11 h
  have e1 : aCharge (aWarm (aTick A) 6) c 0 11 = A 0 11 + 1 := by
    rw [aCharge_o hc (by omega) (by omega) (by omega) h2.1.1, aWarm_o (by omega)]
    unfold aTick
    rw [up_s]
  have fin : ∀ ι' σ', Rel (aPress (aCharge (aWarm (aTick A) 6) c) c) (cnt (aPress (aCharge (aWarm (aTick A) 6) c) c)) (A 0 11) ι' σ' → wp_X7_grinds 283 (sM B σ') 276 (fun M10 => ∃ j12 : Nat, M10.2.1 276 1 = some j12 ∧ (m_tp 283 j12 8 ∧ (vp_in 4 (m_len j12) ∧ (vp_in 4 (m_len j12) ∧ (∀ M16 : Mem, M16 = uI M10 j12 (4 : Int32).toNatClampNeg ((M10.1 j12 (4 : Int32).toNatClampNeg) + 1) → (P M16)))))) := fun ι' σ' hR4 => by
    refine r_grinds hB hR4 h4.1.1.2.1 h4.2.2.2.2.2.1 h4.2.2.2.2.1 fun σ2 hR5 => r_inc hB (i := 4) (by omega) rfl (g := fun v => v + 1) ?_
    have := hR5.min (v := A 0 11 + 1) h4.1.1.2.1
    rw [← hR5.1.2.1, hR5.1.2.1] at this
    refine hp ι' _ ?_
    rw [e11]
    have e : σ2 4 = A 0 11 := hR5.1.2.1
    unfold aMinute
    rw [h.cn, h4.tend.cn]
    rw [e]
    exact this
  refine ⟨tp7, r_warms hB (hR.tick hc) h1.1 h1.2.2.2.1 fun σ1 hR1 => r_loads hB hR1 h2.1 h2.2.1 fun σ2 hR2 => r_jobOn hB hR2 h3.1 (p := 6) (by omega) rfl ⟨fun e => ?_, fun e => ?_⟩⟩
  · cases q : plB (aCharge (aWarm (aTick A) 6) c) c 6 with
    | none => rw [q] at e; exact absurd rfl e
    | some k =>
      have hk : k < c := by
        unfold plB at q
        split at q
        · cases q
        · have := (fst9_some q).2.1; omega
      have ek := (plB_iff h3.1 hk).mp q
      refine r_presses hB hR2 h3.1 h3.2.2.2.1 h3.2.2.2.2.1 e1 hk ek rfl fun ι' σ3 hR3 => fin ι' σ3 ?_
      have ep : aPress (aCharge (aWarm (aTick A) 6) c) c = aWork (aCharge (aWarm (aTick A) 6) c) c k := by
        unfold aPress
        unfold plB at q
        split at q
        · cases q
        · rename_i hne
          rw [if_neg hne, q]
      rw [ep]
      exact hR3
  · have he : aCharge (aWarm (aTick A) 6) c 30 0 = -1 := by
      cases q : plB (aCharge (aWarm (aTick A) 6) c) c 6 with
      | none =>
        unfold plB at q
        split at q
        · assumption
        · rename_i hne
          obtain ⟨k, -, y⟩ := h3.okM.place hne
          rw [show 24 + 6 = 30 from rfl] at q
          rw [q] at y; cases y
      | some k =>
        rw [q] at e
        have hk : k < c := by
          unfold plB at q
          split at q
          · cases q
          · have := (fst9_some q).2.1; omega
        exact absurd e (nI_n1 (by have := hR2.2.2.2.2.1.1.1 k hk; omega))
    have ep : aPress (aCharge (aWarm (aTick A) 6) c) c = aLoad (aCharge (aWarm (aTick A) 6) c) c := by
      unfold aPress
      rw [if_pos he]
    refine r_takes hB hR2 h3.1 h3.2.1 h3.2.2.2.1 h3.2.2.2.2.1 fun σ3 hR3 => fin ι σ3 ?_
    rw [h4.cn |> fun z => (by have := (h3.load he).cn; rw [← ep] at this; exact this : cnt (aPress (aCharge (aWarm (aTick A) 6) c) c) = c), ep]
    exact hR3
end MI
