/-! Minutes do not look at haste, nor at what is not there: the press, the dies, the whole minute. -/
section CQ2
variable {E A : Ab} {c k N T : Nat}
theorem Cq.back (h : Cq E A c) (hc : c ≤ 10) (hk : k < c) (hh : hj A k < 4) : Cq (aBack E k) (aBack A k) c := by
  have h1 : Cq (heatUp E) (heatUp A) c := h.up (by rw [h.b6 (by omega)])
  have hh1 : hj (heatUp A) k < 4 := by
    have : hj (heatUp A) k = hj A k := by unfold hj heatUp; rw [up_o]; rintro ⟨z, -⟩; omega
    rw [this]; exact hh
  unfold aBack
  rw [h.free]
  cases freeA A with
  | none => exact h1.scr hk hh1
  | some p =>
    show Cq (if E 30 2 + 1 ≤ E 0 9 then mvB (heatUp E) p 6 else scrA (heatUp E) k) (if A 30 2 + 1 ≤ A 0 9 then mvB (heatUp A) p 6 else scrA (heatUp A) k) c
    rw [h.b6 (by omega), h.n (by omega) (by omega)]
    split
    · exact h1.mv (by omega)
    · exact h1.scr hk hh1
theorem Cq.strike (h : Cq E A c) (hk : k < c) (hh : hj A k < 4) (hd : dj A k < 5) : Cq (strikeA E k) (strikeA A k) c := by
  unfold strikeA wearV
  rw [h.ehj hk, h.edj hk]
  exact (((h.up (by rw [h.d hd (by omega), h.h hh (by omega), h.b6 (by omega)])).up (by rw [h.b6 (by omega), h.n (by omega) (by omega)])).up (by rw [h.b6 (by omega)])).up (by rw [h.n (by omega) (by omega)])
theorem Cq.make (h : Cq E A c) (hk : k < c) (hh : hj A k < 4) (hd : dj A k < 5) : Cq (makeA E k) (makeA A k) c := by
  unfold makeA
  rw [h.ehj hk, h.edj hk]
  exact ((((h.up rfl).up (by rw [h.j hk (by omega) (by omega)])).up (by rw [h.j hk (by omega) (by omega)])).up (by rw [h.h hh (by omega)])).up (by rw [h.d hd (by omega)])
theorem Cq.gone (h : Cq E A c) (hk : k < c) : Cq (goneA E k) (goneA A k) c := by
  have e : lateV E k = lateV A k := by unfold lateV; rw [h.n (by omega) (by omega), h.j hk (by omega) (by omega)]
  unfold goneA
  rw [e]
  split
  · exact h.up (by rw [h.n (by omega) (by omega)])
  · exact ((h.up (by rw [h.n (by omega) (by omega)])).up (by rw [h.n (by omega) (by omega)])).up (by rw [h.n (by omega) (by omega)])
theorem Cq.rem (h : Cq E A c) (hc : c ≤ 10) : Cq (remA E c k) (remA A c k) (c - 1) := fun r f v => by
  by_cases q : 13 ≤ r ∧ r < 23
  · have hi : r - 13 < c - 1 := by unfold vis at v; omega
    have e1 := remA_J (A := E) (k := k) hc hi
    have e2 := remA_J (A := A) (k := k) hc hi
    rw [show 13 + (r - 13) = r by omega] at e1 e2
    rw [e1, e2]
    refine h.j ?_ ?_ ?_
    · split <;> omega
    · unfold vis at v; omega
    · unfold vis at v; omega
  · by_cases q2 : r = 0 ∧ f = 5
    · rw [q2.1, q2.2, remA_5, remA_5]
    · rw [remA_o q q2, remA_o q q2]
      exact h r f (by unfold vis at *; omega)
theorem Cq.work (h : Cq E A c) (hI : Iv A c N T) (hk : k < c) : Cq (aWork E c k) (aWork A c k) (cnt (aWork A c k)) := by
  have hc := hI.1.1.2.1
  have hh := (hI.1.1.h hk).1
  have hd := (hI.1.1.d hk).1
  have h5 := hI.1.1.1
  have hs := h.strike hk hh hd
  have hh1 : hj (strikeA A k) k < 4 := by rw [strike_hj (by omega) hd]; exact hh
  have hd1 : dj (strikeA A k) k < 5 := by rw [strike_dj (by omega) hd]; exact hd
  have s5 : strikeA A k 0 5 = nI c := by rw [strikeA_0 (by omega)]; exact h5
  unfold aWork
  rw [h.edj hk, h.ehj hk, h.okd hd, h.h hh (by omega), h.b6 (by omega), h.b6 (by omega)]
  split
  · split
    · unfold aMade
      rw [hs.j hk (by omega) (by omega), hs.j hk (by omega) (by omega)]
      split
      · rw [cnt_of (c := c) (by rw [makeA_0]; exact s5) hc]
        exact hs.make hk hh1 hd1
      · rw [cnt_of (c := c - 1) remA_5 (by omega)]
        exact ((hs.make hk hh1 hd1).gone hk).rem hc
    · rw [cnt_of (c := c) s5 hc]; exact hs
  · rw [cnt_of (c := c) (by rw [aBack_o (by omega) hh (by omega) (by omega) (by omega)]; exact h5) hc]
    exact h.back hc hk hh
theorem Cq.press (h : Cq E A c) (hI : Iv A c N T) : Cq (aPress E c) (aPress A c) (cnt (aPress A c)) := by
  unfold aPress
  rw [h.b6 (by omega), h.place]
  split
  · rename_i he
    rw [(hI.load he).cn]
    exact h.load hI.1.1
  · cases q : placeA A c (A 30 0) with
    | none =>
      show Cq E A (cnt A)
      rw [hI.cn]; exact h
    | some k =>
      exact h.work hI (by have := (fst9_some q).2.1; omega)
theorem Cq.grind {d : Nat} (h : Cq E A c) (hd : d < 5) : Cq (grindA E d) (grindA A d) c := by
  unfold grindA
  rw [h.d hd (by omega), h.d hd (by omega), h.d hd (by omega)]
  split
  · exact h.up rfl
  · exact (((h.up rfl).up rfl).up rfl).up rfl
theorem Cq.toTend (h : Cq E A c) : Cq (tendW E) (tendW A) c := by
  unfold tendW
  rw [h.worn]
  cases wornA A with
  | none => exact h
  | some d => exact h.up (h.n (by omega) (by omega))
theorem Cq.tend (h : Cq E A c) : Cq (aTend E) (aTend A) c := by
  unfold aTend
  rw [h.ground]
  cases q : groundA A with
  | none => exact h.toTend
  | some d =>
    have hd : d < 5 := by have := (fst9_some q).2.1; omega
    show Cq (if E (7 + d) 3 - 1 ≤ 0 then tendW (grindA E d) else grindA E d) (if A (7 + d) 3 - 1 ≤ 0 then tendW (grindA A d) else grindA A d) c
    rw [h.d hd (by omega)]
    split
    · exact (h.grind hd).toTend
    · exact h.grind hd
theorem Cq.minute (h : Cq E A c) (hI : Iv A c N T) (hT : T < 2 ^ 30) : Cq (aMinute E) (aMinute A) (cnt (aMinute A)) := by
  have h2 := hI.tick.warm
  have h3 := h2.charge
  have h4 := h3.press hT
  have := ((h.tick.warm.charge h2.1.1).press h3).tend
  rw [hI.minute hT |>.cn |> fun z => (by
    unfold aMinute
    rw [hI.cn]
    exact h4.tend.cn : cnt (aMinute A) = cnt (aPress (aCharge (aWarm (aTick A) 6) c) c))]
  unfold aMinute
  rw [h.cn, hI.cn]
  exact this
theorem Cq.many {n : Nat} (h : Cq E A c) (hI : Iv A c N T) (hT : T + n < 2 ^ 30) : Cq (mins n E) (mins n A) (cnt (mins n A)) := by
  induction n generalizing A E c T with
  | zero =>
    show Cq E A (cnt A)
    rw [hI.cn]; exact h
  | succ n ih => exact ih (h.minute hI (by omega)) (hI.minute (by omega)) (by omega)
/-- a copy keeps what A keeps -/
theorem Iv.copy {A' : Ab} (h : Iv A c N T) (hC : Cp A' A c) : Iv A' c N T := by
  obtain ⟨e0, e1, e2, e3, e4⟩ := hC
  have hc := h.1.1.2.1
  obtain ⟨j, e, l, b, d, s, t⟩ := h
  refine ⟨⟨⟨(e0 5 (by omega) (by omega)).trans j.1.1, hc, fun i hi => ?_⟩, fun a a' ha ha' => ?_, fun i hi => ?_, (e0 6 (by omega) (by omega)).trans j.2.2.2.1, j.2.2.2.2.1, fun i i' hi hi' q => ?_, fun i hi => ?_⟩, fun i hi => ?_, fun i hi => ?_, ⟨fun p hp => ?_, fun p hp => ?_⟩, ⟨fun i hi => ?_, fun i i' hi hi' h1 h2 => ?_⟩, ?_, fun i hi => ?_⟩
  · rw [e3 i hi 1 (by omega), e3 i hi 2 (by omega), e3 i hi 6 (by omega)]; exact j.1.2.2 i hi
  · have := j.2.1 a a' ha ha'
    rw [bef_iff] at this ⊢
    rw [e3 a (by omega) 0 (by omega), e3 a (by omega) 5 (by omega), e3 a (by omega) 6 (by omega), e3 a' ha' 0 (by omega), e3 a' ha' 5 (by omega), e3 a' ha' 6 (by omega)]
    exact this
  · rw [e3 i hi 0 (by omega)]; exact j.2.2.1 i hi
  · rw [e3 i hi 0 (by omega), e3 i' hi' 0 (by omega)] at q; exact j.inj hi hi' q
  · rw [e3 i hi 3 (by omega), e3 i hi 4 (by omega), e3 i hi 5 (by omega)]; exact j.2.2.2.2.2.2 i hi
  · rw [e3 i hi 7 (by omega)]
    have := bc_congr (A' := A') (A := A) (k := i) (fun p hp => e4 p hp 0 (by omega)) (e3 i hi 0 (by omega))
    exact (e.bc hi).trans (by rw [← this]; rfl)
  · obtain ⟨p, m, f1, f2, f3, f4⟩ := l i hi
    exact ⟨p, m, (e3 i hi 3 (by omega)).trans f1, (e3 i hi 4 (by omega)).trans f2, f3, by rw [bc_congr (A := A) (fun p hp => e4 p hp 0 (by omega)) (e3 i hi 0 (by omega))]; exact f4⟩
  · rw [e4 p hp 0 (by omega), e4 p hp 3 (by omega)]
    rcases b.1 p hp with y | ⟨⟨k, hk, y⟩, w⟩
    · exact Or.inl y
    · exact Or.inr ⟨⟨k, hk, by rw [e3 k hk 0 (by omega)]; exact y⟩, w⟩
  · rw [e4 p hp 1 (by omega)]; exact b.2 p hp
  · obtain ⟨b1, l1, g1, x⟩ := d.1 i hi
    rw [e2 i hi 0 (by omega), e2 i hi 1 (by omega), e2 i hi 3 (by omega)]
    exact ⟨b1, l1, g1, x⟩
  · rw [e2 i hi 3 (by omega)] at h1
    rw [e2 i' hi' 3 (by omega)] at h2
    exact d.2 i i' hi hi' h1 h2
  · unfold iS
    rw [e0 7 (by omega) (by omega), e0 8 (by omega) (by omega), e0 9 (by omega) (by omega), e0 10 (by omega) (by omega)]
    exact s
  · rw [e1 i hi 0 (by omega), e1 i hi 3 (by omega), e1 i hi 4 (by omega)]
    exact t i hi
end CQ2
