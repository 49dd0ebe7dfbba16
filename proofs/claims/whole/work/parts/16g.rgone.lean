/-! What would be: the reference until a job is gone, as a rush job or not. -/
section RGN
variable {B M : Mem} {σ σ' : Nat → Int32} {A A' : Ab} {c N T : Nat} {m : Int32} {ι : Nat → Nat}
theorem Rel.job6 (h : Rel A c m ι σ) (hc : c ≤ 10) {k : Nat} (hk : k < c) {v : Int32} : Rel (aU A (13 + k) 6 v) c m ι (uS σ (60 + 7 * ι k + 6) v) := by
  have hik := h.2.2.2.2.1.1.1 k hk
  obtain ⟨hN, hG, hH, hD, hJ, hP⟩ := h
  refine ⟨hN.congr (fun i hi => uS_o (by omega)) (fun f _ _ _ => up_r (by omega)) (fun i hi => up_r (by omega)) (fun i hi => up_r (by omega)), hG.congr (fun i _ hi => uS_o (by omega)) (fun d hd => up_r (by omega)), hH.congr (fun i _ hi => uS_o (by omega)) (fun i hi f _ => up_r (by omega)), hD.congr (fun i _ hi => uS_o (by omega)) (fun d hd f _ => up_r (by omega)), ⟨hJ.1, fun l hl f hf => ?_, fun l l' hl hl' => ?_⟩, hP.congr (fun i _ hi => uS_o (by omega)) (fun p hp f _ => up_r (by omega))⟩
  · have hil := hJ.1.1 l hl
    by_cases q : l = k ∧ f = 6
    · rw [q.1, q.2, uS_s, up_s]
    · have : ¬ (ι l = ι k ∧ f = 6) := fun z => q ⟨hJ.1.2.1 l k hl hk z.1, z.2⟩
      rw [uS_o (by omega), up_o (by omega)]; exact hJ.2.1 l hl f hf
  · rw [up_f (by omega), up_f (by omega)]; exact hJ.2.2 l l' hl hl'
theorem Rel.rows (h : Rel A c m ι σ) (hc : c ≤ 10) {ρ : Nat → Nat} (hρ : (∀ i, i < c → ρ i < c) ∧ (∀ i l, i < c → l < c → ρ i = ρ l → i = l) ∧ ∀ i, i < c → ∃ j, j < c ∧ ρ j = i) : Rel (rowsP A ρ) c m (fun j => ι (ρ j)) σ := by
  obtain ⟨hN, hG, hH, hD, hJ, hP⟩ := h
  obtain ⟨r1, r2, r3⟩ := hρ
  have o : ∀ r, ¬ (13 ≤ r ∧ r < 23) → rowsP A ρ r = A r := fun r h => rowsP_o h
  refine ⟨hN.congr (fun _ _ => rfl) (fun f _ _ _ => by rw [o _ (by omega)]) (fun i hi => by rw [o _ (by omega)]) (fun i hi => by rw [o _ (by omega)]), hG.congr (fun _ _ _ => rfl) (fun d hd => by rw [o _ (by omega)]), hH.congr (fun _ _ _ => rfl) (fun i hi f _ => by rw [o _ (by omega)]), hD.congr (fun _ _ _ => rfl) (fun d hd f _ => by rw [o _ (by omega)]), ⟨⟨fun k hk => hJ.1.1 _ (r1 k hk), fun k l hk hl e => r2 k l hk hl (hJ.1.2.1 _ _ (r1 k hk) (r1 l hl) e), fun i hi => ?_⟩, fun k hk f hf => ?_, fun k l hk hl => ?_⟩, hP.congr (fun _ _ _ => rfl) (fun p hp f _ => by rw [o _ (by omega)])⟩
  · obtain ⟨k, hk, ek⟩ := hJ.1.2.2 i hi
    obtain ⟨j, hj, ej⟩ := r3 k hk
    exact ⟨j, hj, by show ι (ρ j) = i; rw [ej]; exact ek⟩
  · rw [rowsP_J (by omega)]; exact hJ.2.1 _ (r1 k hk) f hf
  · rw [rowsP_J (by omega), rowsP_J (by omega)]; exact hJ.2.2 _ _ (r1 k hk) (r1 l hl)
theorem Rel.haste (h : Rel A c m ι σ) (hc : c ≤ 10) {k p : Nat} (hk : k < c) (hp : p < c) : Rel (hasteA A k p) c m (fun j => ι (mv k p j)) (uS σ (60 + 7 * ι k + 6) 1) := (h.job6 hc hk).rows hc (mv_perm hk hp)
theorem place_haste (hI : Iv A c N T) {k p : Nat} {x : Int32} (hk : placeA A c x = some k) (hp : p < c) : placeA (hasteA A k p) c x ≠ none := fun e => by
  have hc := hI.1.1.2.1
  obtain ⟨-, hkc, ex, -⟩ := fst9_some hk
  simp only [decide_eq_true_eq] at ex
  have hkc : k < c := by omega
  have := fst9_none e p (by omega) (by omega)
  unfold hasteA at this
  rw [rowsP_J (by omega), mv_at, up_f (by omega)] at this
  simp [ex] at this
theorem r_goneLoop (hB : RB B) {x : Int32} {P : Int32 → Mem → Prop} : ∀ (f i : Nat) (A : Ab) (c T : Nat) (σ : Nat → Int32) (ι : Nat → Nat), i + f = 240 → Rel A c (A 0 11) ι σ → Iv A c N T → T + f < 2 ^ 30 → (∀ σ', wp_X7_takeBack 283 (sM B σ') 276 (fun M' => P (if placeA A c x = none then nI i else goneL f (i + 1) A x) M')) → wpL_X7_untilGone_51 283 P (f + 1) (sM B σ) 276 x (nI i) := by
  intro f
  have gone : ∀ (A : Ab) (c T : Nat) (σ : Nat → Int32) (ι : Nat → Nat) (i : Nat), Rel A c (A 0 11) ι σ → Iv A c N T → placeA A c x = none → (∀ σ', wp_X7_takeBack 283 (sM B σ') 276 (fun M' => P (nI i) M')) → wp_X7_jobWith 283 (sM B σ) 276 x (fun r15 M13 => wp_X7_takeBack 283 M13 276 (fun M16 => P (if (if ¬ r15 = (-1) then false else true) = false then (-1) else nI i) M16)) := fun A c T σ ι i h1 hI e hk => by
    refine r_jobWith hB h1 hI.1 ?_
    rw [e]
    have : (if (if ¬ oI (Option.map ι none) = (-1) then false else true) = false then (-1) else nI i) = nI i := rfl
    rw [this]
    exact hk σ
  have still : ∀ (A : Ab) (c T : Nat) (σ : Nat → Int32) (ι : Nat → Nat) (k : Nat), Rel A c (A 0 11) ι σ → Iv A c N T → placeA A c x = some k → oI ((placeA A c x).map ι) ≠ -1 := fun A c T σ ι k h1 hI e => by
    rw [e]
    exact nI_n1 (by
      have := h1.2.2.2.2.1.1.1 k (by have := (fst9_some e).2.1; omega)
      have := hI.1.1.2.1
      omega)
  induction f with
  | zero =>
    intro i A c T σ ι hi h1 hI hT hk
    have : i = 240 := by omega
    subst this
    refine ⟨fun _ => ⟨tp7, ?_⟩, fun q => absurd (cGe (x := 240) (n := 240) rfl rfl (by omega) (by omega)) q⟩
    cases e : placeA A c x with
    | none =>
      simp only [e, if_true] at hk
      exact gone A c T σ ι 240 h1 hI e hk
    | some k =>
      have hne := still A c T σ ι k h1 hI e
      have hk2 : ∀ σ', wp_X7_takeBack 283 (sM B σ') 276 (fun M' => P (-1) M') := fun σ' => by
        have := hk σ'
        rw [e, if_neg (by simp)] at this
        exact this
      have ev : (if (if ¬ oI (Option.map ι (placeA A c x)) = (-1) then false else true) = false then (-1) else nI 240) = -1 := by rw [if_pos hne]; rfl
      refine r_jobWith hB h1 hI.1 ?_
      rw [ev]
      exact hk2 σ
  | succ f ih =>
    intro i A c T σ ι hi h1 hI hT hk
    refine ⟨fun q => absurd q (cLt (x := 240) (n := 240) rfl rfl (by omega) (by omega)), fun _ => ⟨tp7, r_jobWith hB h1 hI.1 ⟨fun e => ?_, fun e => ?_⟩⟩⟩
    · cases e2 : placeA A c x with
      | some k => exact absurd e (still A c T σ ι k h1 hI e2)
      | none =>
        simp only [e2, if_true] at hk
        exact gone A c T σ ι i h1 hI e2 hk
    · cases e2 : placeA A c x with
      | none => rw [e2] at e; exact absurd rfl e
      | some k =>
        refine r_minute hB h1 hI (by omega) fun ι2 σ2 h2 v27 h27 => ?_
        rw [h27, nI_1]
        refine ih (i + 1) _ _ _ σ2 ι2 (by omega) h2 (hI.minute (by omega)) (by omega) fun σ3 => ?_
        have := hk σ3
        rw [e2, if_neg (by simp)] at this
        exact this
theorem r_untilGone (hB : RB M) (hR : Rel A c (A 0 11) ι (M.1 277)) (hI : Iv A c N T) (hT : T + 240 < 2 ^ 30) {x : Int32} {k : Nat} (hk : placeA A c x = some k) {P : Int32 → Mem → Prop} (hp : ∀ M', SimR M M' → P (goneL 240 1 A x) M') : wp_X7_untilGone 283 M 276 x false P ∧ True := by
  have hc := hI.1.1.2.1
  have hkc : k < c := by have := (fst9_some hk).2.1; omega
  have hik := hR.2.2.2.2.1.1.1 k hkc
  refine ⟨⟨tp7, r_putAside hB ?_⟩, trivial⟩
  generalize hM1 : wR M 278 (fun x => if x < 158 then M.1 277 x else M.1 278 x) = M1
  have hB1 : RB M1 := by rw [← hM1]; exact hB
  have e1 : M1.1 277 = M.1 277 := by rw [← hM1, wR_o (by omega)]
  have e8 : ∀ k, k < 158 → M1.1 278 k = M.1 277 k := fun k hk => by
    rw [← hM1, wR_1]
    show (if k < 158 then _ else _) = _
    rw [if_pos hk]
  have eo : ∀ a, a ≠ 278 → M1.1 a = M.1 a := fun a ha => by rw [← hM1, wR_o ha]
  have e2 : M1.2 = M.2 := by rw [← hM1]; rfl
  have hR1 : Rel A c (A 0 11) ι (M1.1 277) := by rw [e1]; exact hR
  rw [← sM_self (M := M1)]
  have bk : ∀ (σ' : Nat → Int32) (Q : Mem → Prop), (∀ M', SimR M M' → Q M') → wp_X7_takeBack 283 (sM M1 σ') 276 Q := fun σ' Q hQ => by
    refine r_takeBack (M := sM M1 σ') hB1 (hQ _ ⟨fun a h1 h2 => ?_, ?_, fun k hk => ?_⟩)
    · rw [wR_o h1, sM_o h1]; exact eo a h2
    · exact e2
    · rw [wR_1]
      show (if k < 158 then (sM M1 σ').1 278 k else _) = _
      rw [if_pos hk, sM_o (by omega)]; exact e8 k hk
  refine r_jobWith hB1 hR1 hI.1 ⟨277, hB1.1, fun _ => ?_, fun e => by cases e⟩
  rw [hk]
  have ix : (60 + 7 * oI (Option.map ι (some k))) + 6 = nI (60 + 7 * ι k + 6) := ix3 (a := 60) (b := 7) rfl (f := 6) rfl
  refine ⟨277, hB1.1, tp8, by rw [len8]; exact vpI ix (by omega) (by omega), tp8, by rw [len8]; exact vpI ix (by omega) (by omega), fun M12 e12 => ⟨241, ?_⟩⟩
  rw [ix, nI_clamp (by omega), sM_uI, sM_1, uS_id] at e12
  rw [e12]
  refine r_goneLoop (N := N) hB1 240 0 A c T _ ι (by omega) hR1 hI hT fun σ' => bk σ' _ fun M' h' => ?_
  rw [hk, if_neg (by simp)]
  exact hp M' h'
theorem r_untilGoneT (hB : RB M) (hR : Rel A c (A 0 11) ι (M.1 277)) (hI : Iv A c N T) (hT : T + 240 < 2 ^ 30) {x : Int32} {k p : Nat} (hk : placeA A c x = some k) (hpc : p < c) (hs : srt (hasteA A k p) c) {P : Int32 → Mem → Prop} (hp : ∀ M', SimR M M' → P (goneL 240 1 (hasteA A k p) x) M') : wp_X7_untilGone 283 M 276 x true P := by
  have hc := hI.1.1.2.1
  have hkc : k < c := by have := (fst9_some hk).2.1; omega
  have hik := hR.2.2.2.2.1.1.1 k hkc
  refine ⟨tp7, r_putAside hB ?_⟩
  generalize hM1 : wR M 278 (fun x => if x < 158 then M.1 277 x else M.1 278 x) = M1
  have hB1 : RB M1 := by rw [← hM1]; exact hB
  have e1 : M1.1 277 = M.1 277 := by rw [← hM1, wR_o (by omega)]
  have e8 : ∀ k, k < 158 → M1.1 278 k = M.1 277 k := fun k hk => by
    rw [← hM1, wR_1]
    show (if k < 158 then _ else _) = _
    rw [if_pos hk]
  have eo : ∀ a, a ≠ 278 → M1.1 a = M.1 a := fun a ha => by rw [← hM1, wR_o ha]
  have e2 : M1.2 = M.2 := by rw [← hM1]; rfl
  have hR1 : Rel A c (A 0 11) ι (M1.1 277) := by rw [e1]; exact hR
  rw [← sM_self (M := M1)]
  have bk : ∀ (σ' : Nat → Int32) (Q : Mem → Prop), (∀ M', SimR M M' → Q M') → wp_X7_takeBack 283 (sM M1 σ') 276 Q := fun σ' Q hQ => by
    refine r_takeBack (M := sM M1 σ') hB1 (hQ _ ⟨fun a h1 h2 => ?_, ?_, fun k hk => ?_⟩)
    · rw [wR_o h1, sM_o h1]; exact eo a h2
    · exact e2
    · rw [wR_1]
      show (if k < 158 then (sM M1 σ').1 278 k else _) = _
      rw [if_pos hk, sM_o (by omega)]; exact e8 k hk
  refine r_jobWith hB1 hR1 hI.1 ⟨277, hB1.1, fun e => absurd e (by decide), fun _ => ?_⟩
  rw [hk]
  have ix : (60 + 7 * oI (Option.map ι (some k))) + 6 = nI (60 + 7 * ι k + 6) := ix3 (a := 60) (b := 7) rfl (f := 6) rfl
  refine ⟨tp8, by rw [len8]; exact vpI ix (by omega) (by omega), fun M12 e12 => ⟨241, ?_⟩⟩
  rw [ix, nI_clamp (by omega), sM_uI] at e12
  rw [e12]
  have hIH : Iv (hasteA A k p) c N T := ((hI.un.six hkc (z := true)).moved hkc hpc).iv hs
  have h11 : hasteA A k p 0 11 = A 0 11 := by unfold hasteA; rw [rowsP_o (by omega), up_r (by omega)]
  refine r_goneLoop (N := N) hB1 240 0 (hasteA A k p) c T _ _ (by omega) (by rw [h11]; exact hR1.haste hc hkc hpc) hIH hT fun σ' => bk σ' _ fun M' h' => ?_
  rw [if_neg (place_haste hI hk hpc)]
  exact hp M' h'
theorem r_earlier (hB : RB M) (hR : Rel A c (A 0 11) ι (M.1 277)) (hI : Iv A c N T) (hT : T + 240 < 2 ^ 30) {x : Int32} {k p : Nat} (hk : placeA A c x = some k) (hpc : p < c) (hs : srt (hasteA A k p) c) {P : Int32 → Mem → Prop} (hp : ∀ M', SimR M M' → P (gainV (goneL 240 1 A x) (goneL 240 1 (hasteA A k p) x)) M') : wp_X7_earlier 283 M 276 x P := by
  have hc := hI.1.1.2.1
  refine ⟨tp7, (r_untilGone hB hR hI hT hk fun M1 h1 => r_untilGoneT (h1.rb hB) (hR.eq158 hc h1.2.2) hI hT hk hpc hs fun M2 h2 => ?_).1⟩
  have fin := hp M2 (h1.tr h2)
  unfold gainV at fin
  refine ⟨fun e => ?_, fun e => ⟨fun e2 => ?_, fun e2 => ?_⟩⟩
  · rw [if_pos e] at fin
    by_cases q : goneL 240 1 (hasteA A k p) x = -1
    · rw [if_pos q] at fin
      rw [if_neg (fun z => z (by rw [e, q]))]; exact fin
    · rw [if_neg q] at fin
      rw [if_pos (fun z => q (by rw [← z, e])), if_neg (fun z => z e)]; exact fin
  · rw [if_neg e, if_neg e2] at fin; exact fin
  · rw [if_neg e, if_pos e2] at fin
    rw [if_pos (fun z => e (by rw [z, e2])), if_pos e]; exact fin
end RGN
