/-! What else is kept: a piece is made, a job goes, the dies, a minute. -/
section KVM
variable {A A' : Ab} {c N T U T' U' q k p : Nat} {τ : Nat → Int32}
theorem i32_p {a x : Int32} : a + (x + 1 - x) = a + 1 := by grind
theorem Kx.make (h : Kx A c T U 6 τ) (ok : okN A c) (hk : k < c) : Kv (makeA A k) c T U τ := by
  have hc := ok.2.1
  have hh := ok.h hk
  have hd := ok.d hk
  have o : ∀ r f, ¬ (r = 30 ∧ f = 0) → ¬ (r = 2 + hj A k ∧ f = 3) → ¬ (r = 13 + k ∧ (f = 7 ∨ f = 4)) → ¬ (r = 7 + dj A k ∧ f = 4) → makeA A k r f = A r f := fun r f h1 h2 h3 h4 => by
    unfold makeA
    rw [up_o h4, up_o h2, up_o (by omega), up_o (by omega), up_o h1]
  have s0 : makeA A k 30 0 = -1 := by unfold makeA; rw [up_r (by omega), up_r (by omega), up_r (by omega), up_r (by omega), up_s]
  have s7 : makeA A k (13 + k) 7 = A (13 + k) 7 - 1 := by unfold makeA; rw [up_r (by omega), up_r (by omega), up_f (by omega), up_s]
  have s3 : makeA A k (2 + hj A k) 3 = A (2 + hj A k) 3 + 1 := by unfold makeA; rw [up_r (by omega), up_s]
  have s4 : makeA A k (7 + dj A k) 4 = A (7 + dj A k) 4 + 1 := by unfold makeA; rw [up_s]
  have key : Kx (makeA A k) c T U 6 τ := by
    refine ⟨h.1.congr fun p hp hq f hf => o _ _ (by omega) (by omega) (by omega) (by omega), h.2.1.congr fun d hd => o _ _ (by omega) (by omega) (by omega) (by omega), h.2.2.1.congr fun f hf => o _ _ (by omega) (by omega) (by omega) (by omega), ?_, fun i hi => ?_⟩
    · unfold dieS madeS
      rw [sumN_upd (t := fun d => A (7 + d) 4) (k := dj A k) hd.1 (fun j hj hne => o _ _ (by omega) (by omega) (by omega) (by omega)), sumN_upd (t := fun i => A (2 + i) 3) (k := hj A k) hh.1 (fun j hj hne => o _ _ (by omega) (by omega) (by omega) (by omega)), s3, s4]
      have e : sumN (fun d => A (7 + d) 4) 5 = sumN (fun i => A (2 + i) 3) 4 := h.2.2.2.1
      rw [e, i32_p, i32_p]
    · refine Eq.trans ?_ (h.2.2.2.2 i hi)
      unfold tot
      rw [sum_job (A := A) (A' := makeA A k) hk hh.2 hh.1 hi (fun l hl => o _ _ (by omega) (by omega) (by omega) (by omega)) (fun l hl hne => o _ _ (by omega) (by omega) (by omega) (by omega)), s7, o (2 + i) 4 (by omega) (by omega) (by omega) (by omega), o (2 + i) 0 (by omega) (by omega) (by omega) (by omega)]
      by_cases z : i = hj A k
      · rw [if_pos z, z, s3]
        exact i32_mk
      · rw [if_neg z, o _ _ (by omega) (by omega) (by omega) (by omega), Int32.add_zero]
  exact key.full 7 s0
/-- a job goes, late or not -/
theorem Kv.gone (h : Kv A c T U τ) (hc : c ≤ 10) {u : Nat} (hu : A (13 + k) 5 = nI u) (hu2 : u ≤ 9999) (hU : U < 2 ^ 20) (hT : T * U < 2 ^ 28) : Kv (goneA A k) c (T + 1) U τ := by
  have o : ∀ r f, ¬ (r = 0 ∧ (f = 13 ∨ f = 14 ∨ f = 15)) → goneA A k r f = A r f := fun r f hr => by
    unfold goneA
    split
    · rw [up_o (by omega)]
    · rw [up_o (by omega), up_o (by omega), up_o (by omega)]
  refine ⟨h.1.congr fun p hp hq f hf => o _ _ (by omega), h.2.1.congr fun d hd => o _ _ (by omega), ?_, dm_congr h.2.2.2.1 (fun d hd => o _ _ (by omega)) (fun i hi => o _ _ (by omega)), fun i hi => (tot_congr (fun i hi f hf => o _ _ (by omega)) (fun k hk => ⟨o _ _ (by omega), o _ _ (by omega)⟩) hi).trans (h.2.2.2.2 i hi)⟩
  obtain ⟨a, b, e, t, e1, e2, e3, e4, h1, h2, h3, h4, h5⟩ := h.2.2.1
  have lv : (lateV A k).toInt = (t : Int) - u := by unfold lateV; rw [e4, hu, nI_sub_toInt (by omega) (by omega)]
  have e11 := (o 0 11 (by omega)).trans e4
  have hm : (T + 1) * U = T * U + U := Nat.succ_mul T U
  unfold goneA at e11 ⊢
  by_cases z : lateV A k ≤ 0
  · rw [if_pos z] at e11 ⊢
    exact ⟨a + 1, b, e, t, by rw [up_s, e1, nI_1], by rw [up_f (by omega)]; exact e2, by rw [up_f (by omega)]; exact e3, e11, by omega, h2, by omega, h4, by omega⟩
  · rw [if_neg z] at e11 ⊢
    rw [Int32.le_iff_toInt_le, lv] at z
    have z : ¬ (t : Int) - u ≤ 0 := z
    have el : lateV A k = nI (t - u) := by rw [← Int32.toInt_inj, lv, nI_toInt (by omega)]; omega
    refine ⟨a + 1, b + 1, e + (t - u), t, ?_, ?_, ?_, e11, by omega, by omega, by omega, h4, by omega⟩
    · rw [up_f (by omega), up_f (by omega), up_s, e1, nI_1]
    · rw [up_f (by omega), up_s, e2, nI_1]
    · rw [up_s, e3, el, nI_add]
theorem Kv.rem (h : Kv A c T U τ) (hc : c ≤ 10) (hk : k < c) (h7 : A (13 + k) 7 = 0) : Kv (remA A c k) (c - 1) T U τ := by
  have o : ∀ r f, ¬ (13 ≤ r ∧ r < 23) → ¬ (r = 0 ∧ f = 5) → remA A c k r f = A r f := fun r f h1 h2 => remA_o h1 h2
  obtain ⟨n, rfl⟩ : ∃ n, c = n + 1 := ⟨c - 1, by omega⟩
  refine ⟨h.1.congr fun p hp hq f hf => o _ _ (by omega) (by omega), h.2.1.congr fun d hd => o _ _ (by omega) (by omega), h.2.2.1.congr fun f hf => o _ _ (by omega) (by omega), dm_congr h.2.2.2.1 (fun d hd => o _ _ (by omega) (by omega)) (fun i hi => o _ _ (by omega) (by omega)), fun i hi => ?_⟩
  refine Eq.trans ?_ (h.2.2.2.2 i hi)
  have e : sumN (bt (remA A (n + 1) k) (nI i)) n = sumN (bt A (nI i)) (n + 1) := by
    have d := sumN_del (g := bt A (nI i)) (k := k) (c := n) hk
    have z : bt A (nI i) k = 0 := by
      unfold bt
      rw [h7]
      split <;> rfl
    rw [z, Int32.sub_zero] at d
    rw [← d]
    refine sumN_congr fun l hl => ?_
    have := remA_J (A := A) (c := n + 1) (k := k) (i := l) hc (by omega)
    show bt (remA A (n + 1) k) (nI i) l = bt A (nI i) (if k ≤ l then l + 1 else l)
    unfold bt
    rw [this]
  show tot (remA A (n + 1) k) n i = _
  unfold tot
  rw [e, o _ 0 (by omega) (by omega), o _ 3 (by omega) (by omega), o _ 4 (by omega) (by omega)]
theorem okN.strike (ok : okN A c) (hk : k < c) : okN (strikeA A k) c := by
  have hc := ok.2.1
  have hd := (ok.d hk).1
  refine ⟨by rw [strikeA_0 (by omega)]; exact ok.1, hc, fun l hl => ?_⟩
  rw [strikeA_J (by omega) hd, strikeA_J (by omega) hd, strikeA_J (by omega) hd]
  exact ok.2.2 l hl
theorem Kv.work (h : Kv A c T U τ) (hI : Iv A c N T) (hk : k < c) (hpk : A 30 0 = A (13 + k) 0) (hU : U < 2 ^ 20) (hT : T * U < 2 ^ 28) : Kv (aWork A c k) (cnt (aWork A c k)) (T + 1) U τ := by
  have ok := hI.1.1
  have hc := ok.2.1
  have hh := (ok.h hk).1
  have hd := (ok.d hk).1
  have hx : A 30 0 ≠ -1 := by rw [hpk]; exact hI.1.num hk
  have hs := h.strike ok hI.2.2.2.2.2.1 hk hx
  have oks := ok.strike hk
  have hm := (hs.x 6).make oks hk
  have s5 : strikeA A k 0 5 = nI c := oks.1
  unfold aWork
  split
  · split
    · unfold aMade
      rw [strikeA_J (by omega) hd, strikeA_J (by omega) hd]
      split
      · rw [cnt_of (c := c) (by rw [makeA_0]; exact s5) hc]
        exact hm.mono (by omega) (Nat.le_refl _)
      · rename_i hlast
        rw [cnt_of (c := c - 1) remA_5 (by omega)]
        obtain ⟨pp, m, u, e1, e2, e3, h1, h2, h3⟩ := hI.1.2.2.2.2.2.2 k hk
        obtain ⟨pp', m', f1, f2, f3, f4⟩ := hI.2.2.1 k hk
        have ep : pp' = pp := (nI_eq (by omega) (by omega)).mp (f1.symm.trans e1)
        have em : m' = m := (nI_eq (by omega) (by omega)).mp (f2.symm.trans e2)
        subst ep em
        have hmp : ¬ m' + 1 < pp' := fun w => hlast (by
          rw [e1, e2, nI_1]
          exact (nI_ltI (by omega) (by omega)).mpr w)
        have hb0 := (hI.take (p := 6) (k := k) (by omega) hk hpk).2.1
        have e7 : A (13 + k) 7 = nI 1 := by rw [hI.2.1.bc hk, show bc A k = 1 by omega]
        have g5 : makeA (strikeA A k) k (13 + k) 5 = nI u := by
          rw [made_o (by omega) hd _ _ (by omega) (by omega) (by omega) (by omega) (by omega)]
          exact e3
        have g := hm.gone (k := k) hc g5 h3 hU hT
        refine g.rem hc hk ?_
        have : goneA (makeA (strikeA A k) k) k (13 + k) 7 = makeA (strikeA A k) k (13 + k) 7 := by
          unfold goneA
          split
          · rw [up_r (by omega)]
          · rw [up_r (by omega), up_r (by omega), up_r (by omega)]
        rw [this, made_7 (by omega) hd hh, e7]
        decide
    · rw [cnt_of (c := c) s5 hc]; exact hs.mono (by omega) (Nat.le_refl _)
  · rw [cnt_of (c := c) (by rw [aBack_o (by omega) hh (by omega) (by omega) (by omega)]; exact ok.1) hc]
    exact (h.back ok hI.2.2.2.2.2.1 hk hx).mono (by omega) (Nat.le_refl _)
theorem Kv.press (h : Kv A c T U τ) (hI : Iv A c N T) (hU : U < 2 ^ 20) (hT : T * U < 2 ^ 28) : Kv (aPress A c) (cnt (aPress A c)) (T + 1) U τ := by
  unfold aPress
  split
  · rename_i he
    rw [(hI.load he).cn]
    exact (h.load hI.1.1.2.1 fun k hk => hI.1.num hk).mono (by omega) (Nat.le_refl _)
  · cases q : placeA A c (A 30 0) with
    | none =>
      show Kv A (cnt A) (T + 1) U τ
      rw [hI.cn]; exact Kx.mono h (by omega) (Nat.le_refl _)
    | some k =>
      have hk : k < c := by have := (fst9_some q).2.1; omega
      have e := (fst9_some q).2.2.1
      simp only [decide_eq_true_eq] at e
      exact h.work hI hk e.symm hU hT
theorem Kv.grind {d : Nat} (h : Kv A c T U τ) (hc : c ≤ 10) (hd : d < 5) : Kv (grindA A d) c T U τ := by
  have o : ∀ r f, ¬ (r = 7 + d ∧ (f = 1 ∨ f = 2 ∨ f = 3 ∨ f = 5)) → grindA A d r f = A r f := fun r f hr => by
    unfold grindA
    split
    · rw [up_o (by omega)]
    · rw [up_o (by omega), up_o (by omega), up_o (by omega), up_o (by omega)]
  refine ⟨h.1.congr fun p hp hq f hf => o _ _ (by omega), fun e he => ?_, h.2.2.1.congr fun f hf => o _ _ (by omega), dm_congr h.2.2.2.1 (fun d hd => o _ _ (by omega)) (fun i hi => o _ _ (by omega)), fun i hi => (tot_congr (fun i hi f hf => o _ _ (by omega)) (fun k hk => ⟨o _ _ (by omega), o _ _ (by omega)⟩) hi).trans (h.2.2.2.2 i hi)⟩
  obtain ⟨l, e1, h1, h2⟩ := h.2.1 e he
  by_cases z : e = d
  · subst z
    unfold grindA
    split
    · exact ⟨l, by rw [up_f (by omega)]; exact e1, h1, h2⟩
    · rw [up_f (by omega), up_s, e1]
      split
      · rename_i w
        have w : 10 < nI l - nI 5 := w
        rw [Int32.lt_iff_toInt_lt, nI_sub_toInt (by omega) (by omega)] at w
        have w : (10 : Int) < (l : Int) - (5 : Nat) := w
        refine ⟨l - 5, ?_, by omega, by omega⟩
        show nI l - nI 5 = _
        rw [← Int32.toInt_inj, nI_sub_toInt (by omega) (by omega), nI_toInt (by omega)]
        omega
      · exact ⟨10, rfl, by omega, by omega⟩
  · rw [o _ _ (by omega)]
    exact ⟨l, e1, h1, h2⟩
theorem Kv.worn (h : Kv A c T U τ) (hc : c ≤ 10) : Kv (tendW A) c T U τ := by
  unfold tendW
  cases q : wornA A with
  | none => exact h
  | some d =>
    have hd : d < 5 := by have := (fst9_some q).2.1; omega
    have o : ∀ r f, ¬ (r = 7 + d ∧ f = 3) → aU A (7 + d) 3 (A 0 10) r f = A r f := fun r f h1 => up_o h1
    exact Kx.congr h (fun f hf => o _ _ (by omega)) (fun i hi f hf => o _ _ (by omega)) (fun d hd => ⟨o _ _ (by omega), o _ _ (by omega)⟩) (fun k hk => ⟨o _ _ (by omega), o _ _ (by omega)⟩) (fun p hp hq f hf => o _ _ (by omega))
theorem Kv.tend (h : Kv A c T U τ) (hc : c ≤ 10) : Kv (aTend A) c T U τ := by
  unfold aTend
  cases q : groundA A with
  | none => exact h.worn hc
  | some d =>
    have hd : d < 5 := by have := (fst9_some q).2.1; omega
    show Kv (if A (7 + d) 3 - 1 ≤ 0 then tendW (grindA A d) else grindA A d) c T U τ
    split
    · exact (h.grind hc hd).worn hc
    · exact h.grind hc hd
theorem Kv.minute (h : Kv A c T U τ) (hI : Iv A c N T) (hU : U + 1 < 2 ^ 20) (hT : T * (U + 1) < 2 ^ 28) (hT2 : T < 2 ^ 29) : Kv (aMinute A) (cnt (aMinute A)) (T + 1) (U + 1) τ := by
  have hc := hI.1.1.2.1
  have i1 := hI.tick
  have i2 := i1.warm
  have i3 := i2.charge
  have k1 := h.tick hc
  have k2 := k1.warm hc i1.2.2.2.2.2.1
  have k3 := k2.charge i2.1.1
  have k4 := k3.press i3 hU hT
  have i4 := i3.press (by omega)
  have k5 := k4.tend i4.1.1.2.1
  have ec := i4.tend.cn
  have e : aMinute A = aTend (aPress (aCharge (aWarm (aTick A) 6) c) c) := by unfold aMinute; rw [hI.cn]
  rw [e, ec]
  exact k5
theorem Kv.many {n : Nat} (h : Kv A c T U τ) (hI : Iv A c N T) (hU : U + n < 2 ^ 20) (hT : (T + n) * (U + n) < 2 ^ 28) (hT2 : T + n < 2 ^ 29) : Kv (mins n A) (cnt (mins n A)) (T + n) (U + n) τ := by
  induction n generalizing A c T U with
  | zero =>
    show Kv A (cnt A) T U τ
    rw [hI.cn]; exact h
  | succ n ih =>
    have hm : T * (U + 1) ≤ (T + (n + 1)) * (U + (n + 1)) := Nat.mul_le_mul (by omega) (by omega)
    have := ih (h.minute hI (by omega) (by omega) (by omega)) (hI.minute (by omega)) (by omega) (by rw [show T + 1 + n = T + (n + 1) by omega, show U + 1 + n = U + (n + 1) by omega]; exact hT) (by omega)
    rw [show T + 1 + n = T + (n + 1) by omega, show U + 1 + n = U + (n + 1) by omega] at this
    exact this
end KVM
