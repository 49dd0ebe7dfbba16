/-! Calls that change the jobs: rush, cancel. -/
def hasZ (A : Ab) (k p : Nat) (z : Bool) : Ab := rowsP (aU A (13 + k) 6 (bI z)) (mv k p)
def okZ (A : Ab) (p1 : Int32) (z : Bool) (p : Nat) : Prop := ∀ k, placeA A (cnt A) p1 = some k → p < cnt A ∧ srt (hasZ A k p z) (cnt A)
def oRush (A : Ab) (p1 : Int32) (z : Bool) (p : Nat) : Int32 × Int32 × Ab := match placeA A (cnt A) p1 with
  | none => (1, 0, A)
  | some k => (0, nI p, hasZ A k p z)
def oCancel (A : Ab) (p1 : Int32) : Int32 × Int32 × Ab := match placeA A (cnt A) p1 with
  | none => (1, 0, A)
  | some k => (0, A (13 + k) 7, dropA A (cnt A) k)
section RSH
variable {M : Mem} {A : Ab} {Q : Nat → Ab} {s b j : Nat} {cd : Nat → Nat} {p1 : Int32} {z : Bool} {P : Int32 → Mem → Prop}
theorem hasZ_0 {k p f : Nat} : hasZ A k p z 0 f = A 0 f := by
  unfold hasZ
  rw [rowsP_o (by omega), up_r (by omega)]
theorem hasZ_cnt {k p : Nat} : cnt (hasZ A k p z) = cnt A := by
  unfold cnt
  rw [hasZ_0]
theorem Iv.hsz {c N T k p : Nat} (h : Iv A c N T) (hk : k < c) (hp : p < c) (hs : srt (hasZ A k p z) c) : Iv (hasZ A k p z) c N T := ((h.un.six hk).moved hk hp).iv hs
theorem lx_rush (h : KC M A Q s b cd) (hv : KV A j) (hp : ∀ p, okZ A p1 z p → ∀ M', KC M' (oRush A p1 z p).2.2 (qO (oRush A p1 z p).1 Q s A) (sO (oRush A p1 z p).1 s) b cd → FrL M M' → ((oRush A p1 z p).1 = 0 → M'.2.2 282 0 = (oRush A p1 z p).2.1.toInt64) → P (oRush A p1 z p).1 M') : wp_L_rush 283 M 0 p1 z 282 P := by
  obtain ⟨N, T, -, -, hI⟩ := hv
  obtain ⟨π1, h1⟩ := h.2.1
  have hd := h.1
  have hc := hI.1.1.2.1
  have on := oI_n1 (o := placeA A (cnt A) p1) hc fun k e => place_lt e
  refine ⟨tp6, tp6, 1, hd.1, tp5a, x_placeOf h1 hI.1.1 ⟨fun e => ?_, fun e => ⟨rfl, ?_⟩⟩⟩
  · cases ek : placeA A (cnt A) p1 with
    | none => exact absurd (on.mpr ek) e
    | some k =>
      have hk := place_lt ek
      refine x_remember h hI.1.1 fun M3 k3 f3 => ?_
      obtain ⟨π3, c3⟩ := k3.2.1
      refine ⟨1, k3.1.1, tp5a, x_hasten c3 hI.1.1.1 hc hk hI.1.2.1 (fun l hl hne q => hne (hI.1.inj hl hk q)) rfl fun p M4 hp4 c4 s4 => ?_⟩
      have ok : okZ A p1 z p := fun k' e' => by
        rw [ek] at e'
        cases e'
        exact ⟨hp4, s4⟩
      have eo : oRush A p1 z p = (0, nI p, hasZ A k p z) := by unfold oRush; rw [ek]
      exact lx_mut k3 f3 c4 (hp_ok (hp p ok) eo)
  · have ok : okZ A p1 z 0 := fun k ek => by rw [on.mp e] at ek; cases ek
    have eo : oRush A p1 z 0 = (1, 0, A) := by unfold oRush; rw [on.mp e]
    exact hp_no (hp 0 ok) eo (by decide) h
theorem rx_rush {p : Nat} (h : KR M A Q s b cd) (hs : s ≤ 6) (kp : KP A Q s j) (ok : okZ A p1 z p) (hp : ∀ r M', KR M' (oRush A p1 z p).2.2 (qO (oRush A p1 z p).1 Q s A) (sO (oRush A p1 z p).1 s) b cd → FrR M M' → M'.1 276 0 = (oRush A p1 z p).1 → ((oRush A p1 z p).1 = 0 → r = (oRush A p1 z p).2.1) → P r M') : wp_X7_rush 283 M 276 p1 z P := by
  have hc := kp.le.1
  have hv := kp.1
  obtain ⟨N, T, -, -, hI⟩ := hv
  refine ⟨tp7, fun M2 e2 => ?_⟩
  subst e2
  obtain ⟨h2, f2, z2⟩ := h.th FrR.rf (v := 0)
  generalize uI M 276 0 0 = M2 at h2 f2 z2 ⊢
  obtain ⟨ι, hR⟩ := h2.2.1
  have on := mapI_n1 hR hc (x := p1)
  rw [← sM_self (M := M2)]
  refine r_jobWith h2.1 hR hI.1 ?_
  rw [sM_self]
  refine ⟨fun e => ?_, fun e => hr_no hp ?_ (by decide) h2 f2⟩
  · cases ek : placeA A (cnt A) p1 with
    | none => exact absurd (on.mpr ek) e
    | some k =>
      have hk := place_lt ek
      have hpc := (ok k ek).1
      have hsr := (ok k ek).2
      have hik := hR.2.2.2.2.1.1.1 k hk
      have eo : oRush A p1 z p = (0, nI p, hasZ A k p z) := by unfold oRush; rw [ek]
      have hp := hr_ok hp eo
      refine r_savesK2 h2 hs kp fun M3 k3 f3 z3 e77 => ?_
      have hR3 : Rel A (cnt A) (A 0 11) ι (M3.1 277) := by rw [e77]; exact hR
      rw [← sM_self (M := M3)]
      have ix : (60 + 7 * oI (Option.map ι (some k))) + 6 = nI (60 + 7 * ι k + 6) := ix3 (a := 60) (b := 7) rfl (f := 6) rfl
      refine ⟨277, k3.1.1, tp8, by rw [len8]; exact vpI ix (by omega) (by omega), fun M10 e10 => ?_⟩
      have ez : bI (if z = false then false else true) = bI z := by cases z <;> rfl
      rw [ix, nI_clamp (by omega), sM_uI, ez] at e10
      subst e10
      have hR' : Rel (hasZ A k p z) (cnt A) (A 0 11) (fun j => ι (mv k p j)) (uS (M3.1 277) (60 + 7 * ι k + 6) (bI z)) := (hR3.job6 hc hk).rows hc (mv_perm hk hpc)
      have hI' := hI.hsz hk hpc hsr
      refine r_rankOf k3.1 hR' hI'.1 hpc (by rw [mv_at]; rfl) ?_
      have km := rx_mut k3 (A' := hasZ A k p z) (σ' := uS (M3.1 277) (60 + 7 * ι k + 6) (bI z)) ⟨_, by rw [hasZ_cnt, hasZ_0]; exact hR'⟩
      exact hp _ km.1 ((f2.tr f3).tr km.2.1) (km.2.2.trans (z3.trans z2))
  · unfold oRush
    rw [on.mp e]
theorem px_rush {p : Nat} (hv : KV A j) (ok : okZ A p1 z p) : KV (oRush A p1 z p).2.2 (j + 1) := by
  have hm := hv.mono (i := j + 1) (by omega)
  unfold oRush
  cases ek : placeA A (cnt A) p1 with
  | none => exact hm
  | some k =>
    obtain ⟨N, T, h1, h2, hI⟩ := hm
    refine ⟨N, T, h1, h2, ?_⟩
    show Iv (hasZ A k p z) (cnt (hasZ A k p z)) N T
    rw [hasZ_cnt]
    exact hI.hsz (place_lt ek) (ok k ek).1 (ok k ek).2
end RSH
/-! A job is cancelled. -/
def cuN (A : Ab) (x : Int32) (i : Nat) : Nat := cntN (fun p => decide (A (24 + p) 0 = x)) i
def cutA (A : Ab) (x : Int32) (h k i : Nat) : Ab := fun r f => if 24 ≤ r ∧ r < 24 + i ∧ f = 0 ∧ A r 0 = x then -1 else if r = 2 + h ∧ f = 4 then A r f + nI (cuN A x i) else if r = 13 + k ∧ f = 7 then A r f - nI (cuN A x i) else A r f
section CUT
variable {A : Ab} {x : Int32} {h k i c N T : Nat}
theorem cuN_1 : cuN A x (i + 1) = cuN A x i + (if A (24 + i) 0 = x then 1 else 0) := by
  show cuN A x i + (if decide (A (24 + i) 0 = x) = true then 1 else 0) = _
  by_cases w : A (24 + i) 0 = x <;> simp [w]
theorem cutA_0 : cutA A x h k 0 = A := by
  funext r f
  unfold cutA
  rw [if_neg (by omega), show cuN A x 0 = 0 from rfl]
  show (if r = 2 + h ∧ f = 4 then A r f + 0 else if r = 13 + k ∧ f = 7 then A r f - 0 else A r f) = A r f
  rw [Int32.add_zero, Int32.sub_zero]
  split
  · rfl
  · split <;> rfl
theorem cutA_no (hn : A (24 + i) 0 ≠ x) : cutA A x h k (i + 1) = cutA A x h k i := by
  funext r f
  unfold cutA
  rw [cuN_1, if_neg hn]
  by_cases w : 24 ≤ r ∧ r < 24 + i ∧ f = 0 ∧ A r 0 = x
  · rw [if_pos w, if_pos ⟨w.1, by omega, w.2.2⟩]
  · have w2 : ¬ (24 ≤ r ∧ r < 24 + (i + 1) ∧ f = 0 ∧ A r 0 = x) := fun q => by
      by_cases e : r = 24 + i
      · subst e; exact hn q.2.2.2
      · exact w ⟨q.1, by omega, q.2.2⟩
    rw [if_neg w, if_neg w2]
    rfl
theorem cutA_b {p : Nat} (hp : i ≤ p) : cutA A x h k i (24 + p) 0 = A (24 + p) 0 := by
  unfold cutA
  rw [if_neg (by omega), if_neg (by omega), if_neg (by omega)]
theorem cutA_k {f : Nat} (hk : k < 10) (hf : f ≠ 7) {l : Nat} (hl : l < 10) (hh : h < 4) : cutA A x h k i (13 + l) f = A (13 + l) f := by
  unfold cutA
  rw [if_neg (by omega), if_neg (by omega), if_neg (by omega)]
theorem cutA_00 {f : Nat} : cutA A x h k i 0 f = A 0 f := by
  unfold cutA
  rw [if_neg (by omega), if_neg (by omega), if_neg (by omega)]
theorem cutA_yes (hk : k < 10) (hh : h < 4) (hi : i < 7) (hn : A (24 + i) 0 = x) : cutA A x h k (i + 1) = aU (aU (aU (cutA A x h k i) (13 + k) 7 (cutA A x h k i (13 + k) 7 - 1)) (24 + i) 0 (-1)) (2 + h) 4 (cutA A x h k i (2 + h) 4 + 1) := by
  have e4 : cutA A x h k i (2 + h) 4 = A (2 + h) 4 + nI (cuN A x i) := by
    unfold cutA
    rw [if_neg (by omega), if_pos ⟨rfl, rfl⟩]
  have e7 : cutA A x h k i (13 + k) 7 = A (13 + k) 7 - nI (cuN A x i) := by
    unfold cutA
    rw [if_neg (by omega), if_neg (by omega), if_pos ⟨rfl, rfl⟩]
  rw [e4, e7]
  funext r f
  by_cases w4 : r = 2 + h ∧ f = 4
  · obtain ⟨rfl, rfl⟩ := w4
    rw [up_s]
    unfold cutA
    rw [if_neg (by omega), if_pos ⟨rfl, rfl⟩, cuN_1, if_pos hn, ← nI_1, Int32.add_assoc]
  · rw [up_o w4]
    by_cases w0 : r = 24 + i ∧ f = 0
    · obtain ⟨rfl, rfl⟩ := w0
      rw [up_s]
      unfold cutA
      rw [if_pos ⟨by omega, by omega, rfl, hn⟩]
    · rw [up_o w0]
      by_cases w7 : r = 13 + k ∧ f = 7
      · obtain ⟨rfl, rfl⟩ := w7
        rw [up_s]
        unfold cutA
        rw [if_neg (by omega), if_neg (by omega), if_pos ⟨rfl, rfl⟩, cuN_1, if_pos hn, ← nI_1]
        rw [Int32.sub_sub]
      · rw [up_o w7]
        unfold cutA
        rw [if_neg w4, if_neg w4, if_neg w7, if_neg w7]
        by_cases w : 24 ≤ r ∧ r < 24 + i ∧ f = 0 ∧ A r 0 = x
        · rw [if_pos w, if_pos ⟨w.1, by omega, w.2.2⟩]
        · rw [if_neg w, if_neg (fun q => w ⟨q.1, by omega, q.2.2⟩)]
theorem cut_keep (hI : Iv A c N T) (hk : k < c) (hT : T + 7 < 2 ^ 30) : ∀ i, i ≤ 7 → Iv (cutA A (A (13 + k) 0) (hj A k) k i) c N (T + cuN A (A (13 + k) 0) i) := by
  have hc := hI.1.1.2.1
  have hh := (hI.1.1.h hk).1
  intro i
  induction i with
  | zero =>
    intro _
    rw [cutA_0]
    exact hI
  | succ i ih =>
    intro hi
    have w := ih (by omega)
    have hn : cuN A (A (13 + k) 0) i ≤ 7 := Nat.le_trans cntN_le (by omega)
    by_cases e : A (24 + i) 0 = A (13 + k) 0
    · have t := (w.take (p := i) (k := k) (by omega) hk (by rw [cutA_b (Nat.le_refl _), cutA_k (by omega) (by omega) (by omega) hh]; exact e)).1
      have t2 := t.heat (i := hj A k) (f := 4) hh (Or.inr rfl) (by omega)
      rw [up_r (by omega), up_r (by omega)] at t2
      rw [cutA_yes (by omega) hh (by omega) e, cuN_1, if_pos e]
      exact t2
    · rw [cutA_no e, cuN_1, if_neg e]
      exact w
theorem cut_bc (hI : Iv A c N T) (hk : k < c) : bc (cutA A (A (13 + k) 0) h k 7) k = 0 := by
  have hc := hI.1.1.2.1
  have ek : cutA A (A (13 + k) 0) h k 7 (13 + k) 0 = A (13 + k) 0 := by
    unfold cutA
    rw [if_neg (by omega), if_neg (by omega), if_neg (by omega)]
  unfold bc bcF
  rw [ek]
  refine cntN_false fun p hp => decide_eq_false fun w => ?_
  have w : cutA A (A (13 + k) 0) h k 7 (24 + p) 0 = A (13 + k) 0 := w
  unfold cutA at w
  by_cases q : A (24 + p) 0 = A (13 + k) 0
  · rw [if_pos ⟨by omega, by omega, rfl, q⟩] at w
    exact hI.1.num hk w.symm
  · rw [if_neg (fun z => q z.2.2.2), if_neg (by omega), if_neg (by omega)] at w
    exact q w
theorem drop_cp (hI : Iv A c N T) (hk : k < c) : Cp (dropA A c k) (remA (cutA A (A (13 + k) 0) (hj A k) k 7) c k) (c - 1) := by
  have hc := hI.1.1.2.1
  have hh := (hI.1.1.h hk).1
  have e7 : A (13 + k) 7 = nI (cuN A (A (13 + k) 0) 7) := hI.2.1.bc hk
  have dc : ∀ r f, ¬ (r = 13 + k ∧ f = 7) → aU (clrA A (A (13 + k) 0) 7) (2 + hj A k) 4 (A (2 + hj A k) 4 + A (13 + k) 7) r f = cutA A (A (13 + k) 0) (hj A k) k 7 r f := fun r f hr => by
    by_cases w4 : r = 2 + hj A k ∧ f = 4
    · obtain ⟨rfl, rfl⟩ := w4
      rw [up_s]
      unfold cutA
      rw [if_neg (by omega), if_pos ⟨rfl, rfl⟩, e7]
    · rw [up_o w4]
      unfold cutA clrA
      rw [if_neg w4, if_neg hr]
  unfold dropA
  refine ⟨fun f a b => ?_, fun i hi f hf => ?_, fun i hi f hf => ?_, fun i hi f hf => ?_, fun i hi f hf => ?_⟩
  · by_cases w : f = 5
    · subst w
      rw [remA_5, remA_5]
    · rw [remA_o (by omega) (by omega), remA_o (by omega) (by omega)]; exact dc _ _ (by omega)
  · rw [remA_o (by omega) (by omega), remA_o (by omega) (by omega)]; exact dc _ _ (by omega)
  · rw [remA_o (by omega) (by omega), remA_o (by omega) (by omega)]; exact dc _ _ (by omega)
  · rw [remA_J hc hi, remA_J hc hi]
    refine dc _ _ ?_
    split <;> omega
  · rw [remA_o (by omega) (by omega), remA_o (by omega) (by omega)]; exact dc _ _ (by omega)
theorem drop_5 : cnt (dropA A c k) = cnt (remA A c k) := by
  unfold cnt dropA
  rw [remA_5, remA_5]
theorem remA_cnt (hc : c ≤ 10) : cnt (remA A c k) = c - 1 := by
  unfold cnt
  rw [remA_5, nI_clamp (by omega)]
theorem drop_iv (hI : Iv A c N T) (hk : k < c) (hT : T + 7 < 2 ^ 30) : Iv (dropA A c k) (c - 1) N (T + 7) := by
  have w := ((cut_keep hI hk hT 7 (Nat.le_refl _)).rem hk (cut_bc hI hk)).copy (drop_cp hI hk)
  exact w.mono (by have : cuN A (A (13 + k) 0) 7 ≤ 7 := cntN_le; omega)
end CUT
section CAN
variable {M : Mem} {A : Ab} {Q : Nat → Ab} {s b j : Nat} {cd : Nat → Nat} {p1 : Int32} {P : Int32 → Mem → Prop}
theorem lx_cancel (h : KC M A Q s b cd) (hv : KV A j) (hp : ∀ M', KC M' (oCancel A p1).2.2 (qO (oCancel A p1).1 Q s A) (sO (oCancel A p1).1 s) b cd → FrL M M' → ((oCancel A p1).1 = 0 → M'.2.2 282 0 = (oCancel A p1).2.1.toInt64) → P (oCancel A p1).1 M') : wp_L_cancel 283 M 0 p1 282 P := by
  obtain ⟨N, T, -, -, hI⟩ := hv
  obtain ⟨π1, h1⟩ := h.2.1
  have hd := h.1
  have hc := hI.1.1.2.1
  have on := oI_n1 (o := placeA A (cnt A) p1) hc fun k e => place_lt e
  refine ⟨tp6, tp6, 1, hd.1, tp5a, x_placeOf h1 hI.1.1 ⟨fun e => ?_, fun e => ⟨rfl, ?_⟩⟩⟩
  · cases ek : placeA A (cnt A) p1 with
    | none => exact absurd (on.mpr ek) e
    | some k =>
      have hk := place_lt ek
      refine x_remember h hI.1.1 fun M3 k3 f3 => ?_
      obtain ⟨π3, c3⟩ := k3.2.1
      refine ⟨1, k3.1.1, tp5a, x_dropJob c3 hI.1.1 hk rfl fun M4 c4 => ?_⟩
      have eo : oCancel A p1 = (0, A (13 + k) 7, dropA A (cnt A) k) := by unfold oCancel; rw [ek]
      exact lx_mut k3 f3 c4 (hp_ok hp eo)
  · have eo : oCancel A p1 = (1, 0, A) := by unfold oCancel; rw [on.mp e]
    exact hp_no hp eo (by decide) h
theorem r_cutLoop {B : Mem} {σ : Nat → Int32} {ι : Nat → Nat} {c N T k : Nat} {m : Int32} (hB : RB B) (hR : Rel A c m ι σ) (hI : Iv A c N T) (hT : T + 7 < 2 ^ 30) (hk : k < c) (hp : ∀ ι' σ', Rel (remA (cutA A (A (13 + k) 0) (hj A k) k 7) c k) (c - 1) m ι' σ' → P (nI (cuN A (A (13 + k) 0) 7)) (sM B σ')) : ∃ f : Nat, wpL_X7_cancel_31 283 P f (sM B σ) 276 (nI (ι k)) 0 0 := by
  have hc := hI.1.1.2.1
  have hh := (hI.1.1.h hk).1
  have hik := hR.2.2.2.2.1.1.1 k hk
  refine ⟨8, ?_⟩
  have L : ∀ f i (σ : Nat → Int32), i + f = 7 → Rel (cutA A (A (13 + k) 0) (hj A k) k i) c m ι σ → wpL_X7_cancel_31 283 P (f + 1) (sM B σ) 276 (nI (ι k)) (nI (cuN A (A (13 + k) 0) i)) (nI i) := by
    intro f
    induction f with
    | zero =>
      intro i σ hi hR
      have : i = 7 := by omega
      subst this
      have hIi := cut_keep hI hk hT 7 (Nat.le_refl _)
      refine ⟨fun _ => ⟨tp7, r_dropsJob hB (hR.c5 hIi.1.1) hc hik rfl fun σ' a1 a2 a3 => ?_⟩, fun e => absurd (cGt (n := 6) rfl rfl (by omega) (by omega)) e⟩
      obtain ⟨ι', hR'⟩ := hR.removed hc hk a1 a2 a3
      exact hp ι' σ' hR'
    | succ f ih =>
      intro i σ hi hR
      have hIi := cut_keep hI hk hT i (by omega)
      have eb : cutA A (A (13 + k) 0) (hj A k) k i (24 + i) 0 = A (24 + i) 0 := cutA_b (Nat.le_refl _)
      have en : ∀ l, l < c → cutA A (A (13 + k) 0) (hj A k) k i (13 + l) 0 = A (13 + l) 0 := fun l hl => cutA_k (by omega) (by omega) (by omega) hh
      refine ⟨fun e => absurd e (cNgt (n := 6) rfl rfl (by omega) (by omega)), fun _ => ⟨tp7, r_jobOn hB hR hIi.1 (p := i) (by omega) rfl ⟨fun e => ?_, fun e => ?_⟩⟩⟩
      · intro v13 e13
        have ne : A (24 + i) 0 ≠ A (13 + k) 0 := fun w => e (by
          have : plB (cutA A (A (13 + k) 0) (hj A k) k i) c i = some k := by
            unfold plB
            rw [eb, w, if_neg (hI.1.num hk)]
            have := place_at hIi.1 hk
            rwa [en k hk] at this
          rw [this]; rfl)
        rw [e13, nI_1]
        have key := ih (i + 1) σ (by omega) (by rw [cutA_no ne]; exact hR)
        rwa [cuN_1, if_neg ne] at key
      · have ye : A (24 + i) 0 = A (13 + k) 0 := by
          cases ep : plB (cutA A (A (13 + k) 0) (hj A k) k i) c i with
          | none =>
            rw [ep] at e
            exact absurd e.symm (nI_n1 (by omega))
          | some l =>
            rw [ep] at e
            unfold plB at ep
            rw [eb] at ep
            split at ep
            · cases ep
            · have hl := place_lt ep
              have hil := hR.2.2.2.2.1.1.1 l hl
              have e2 : ι l = ι k := (nI_eq (by omega) (by omega)).mp e
              have e3 : l = k := hR.2.2.2.2.1.1.2.1 l k hl hk e2
              have := (fst9_some ep).2.2.1
              rw [e3] at this
              have := of_decide_eq_true this
              rw [en k hk] at this
              exact this.symm
        have hj2 : hj (cutA A (A (13 + k) 0) (hj A k) k i) k = hj A k := by
          show (cutA A (A (13 + k) 0) (hj A k) k i (13 + k) 2).toNatClampNeg = hj A k
          rw [cutA_k (by omega) (by omega) (by omega) hh]
          rfl
        refine r_scraps hB hR hIi.1 (k := k) (p := i) (by omega) hk (by rw [eb, en k hk]; exact ye) rfl fun σ' hR' => ?_
        intro v16 e16 v17 e17
        rw [e16, e17, nI_1, nI_1]
        have key := ih (i + 1) σ' (by omega) (by
          rw [cutA_yes (by omega) hh (by omega) ye]
          have h7 := hR'.job7 hc hk (v := cutA A (A (13 + k) 0) (hj A k) k i (13 + k) 7 - 1)
          rw [hj2] at h7
          have eq : aU (aU (aU (cutA A (A (13 + k) 0) (hj A k) k i) (2 + hj A k) 4 (cutA A (A (13 + k) 0) (hj A k) k i (2 + hj A k) 4 + 1)) (24 + i) 0 (-1)) (13 + k) 7 (cutA A (A (13 + k) 0) (hj A k) k i (13 + k) 7 - 1) = aU (aU (aU (cutA A (A (13 + k) 0) (hj A k) k i) (13 + k) 7 (cutA A (A (13 + k) 0) (hj A k) k i (13 + k) 7 - 1)) (24 + i) 0 (-1)) (2 + hj A k) 4 (cutA A (A (13 + k) 0) (hj A k) k i (2 + hj A k) 4 + 1) := by
            funext r f
            by_cases w7 : r = 13 + k ∧ f = 7
            · rw [w7.1, w7.2, up_s, up_r (by omega), up_r (by omega), up_s]
            · rw [up_o w7]
              by_cases w0 : r = 24 + i ∧ f = 0
              · rw [w0.1, w0.2, up_s, up_r (by omega), up_s]
              · rw [up_o w0]
                by_cases w4 : r = 2 + hj A k ∧ f = 4
                · rw [w4.1, w4.2, up_s, up_s]
                · rw [up_o w4, up_o w4, up_o w0, up_o w7]
          rw [← eq]
          exact h7)
        rwa [cuN_1, if_pos ye] at key
  exact L 7 0 σ (by omega) (by rw [cutA_0]; exact hR)
theorem drop_0 {c k f : Nat} (hf : f ≠ 5) (hh : hj A k < 4) : dropA A c k 0 f = A 0 f := by
  unfold dropA
  rw [remA_o (by omega) (by omega), up_r (by omega)]
  unfold clrA
  rw [if_neg (by omega)]
theorem rx_cancel (h : KR M A Q s b cd) (hs : s ≤ 6) (kp : KP A Q s j) (hj6 : j ≤ 600) (hp : ∀ r M', KR M' (oCancel A p1).2.2 (qO (oCancel A p1).1 Q s A) (sO (oCancel A p1).1 s) b cd → FrR M M' → M'.1 276 0 = (oCancel A p1).1 → ((oCancel A p1).1 = 0 → r = (oCancel A p1).2.1) → P r M') : wp_X7_cancel 283 M 276 p1 P := by
  have hc := kp.le.1
  have hv := kp.1
  obtain ⟨N, T, hN, hT, hI⟩ := hv
  refine ⟨tp7, fun M2 e2 => ?_⟩
  subst e2
  obtain ⟨h2, f2, z2⟩ := h.th FrR.rf (v := 0)
  generalize uI M 276 0 0 = M2 at h2 f2 z2 ⊢
  obtain ⟨ι, hR⟩ := h2.2.1
  have on := mapI_n1 hR hc (x := p1)
  rw [← sM_self (M := M2)]
  refine r_jobWith h2.1 hR hI.1 ?_
  rw [sM_self]
  refine ⟨fun e => ?_, fun e => hr_no hp ?_ (by decide) h2 f2⟩
  · cases ek : placeA A (cnt A) p1 with
    | none => exact absurd (on.mpr ek) e
    | some k =>
      have hk := place_lt ek
      have hh := (hI.1.1.h hk).1
      have eo : oCancel A p1 = (0, A (13 + k) 7, dropA A (cnt A) k) := by unfold oCancel; rw [ek]
      have hp := hr_ok hp eo
      refine r_savesK2 h2 hs kp fun M3 k3 f3 z3 e77 => ?_
      have hR3 : Rel A (cnt A) (A 0 11) ι (M3.1 277) := by rw [e77]; exact hR
      rw [← sM_self (M := M3)]
      refine r_cutLoop (T := T) k3.1 hR3 hI (by omega) hk fun ι' σ' hR' => ?_
      have e7 : A (13 + k) 7 = nI (cuN A (A (13 + k) 0) 7) := hI.2.1.bc hk
      rw [← e7]
      have km := rx_mut k3 (A' := dropA A (cnt A) k) (σ' := σ') ⟨ι', by
        rw [drop_5, remA_cnt hc, drop_0 (by omega) hh]
        exact hR'.copy (by omega) (drop_cp hI hk)⟩
      exact hp _ km.1 ((f2.tr f3).tr km.2.1) (km.2.2.trans (z3.trans z2))
  · unfold oCancel
    rw [on.mp e]
theorem px_cancel (hv : KV A j) (hj6 : j ≤ 600) : KV (oCancel A p1).2.2 (j + 1) := by
  have hm := hv.mono (i := j + 1) (by omega)
  unfold oCancel
  cases ek : placeA A (cnt A) p1 with
  | none => exact hm
  | some k =>
    obtain ⟨N, T, h1, h2, hI⟩ := hv
    refine ⟨N, T + 7, by omega, by omega, ?_⟩
    show Iv (dropA A (cnt A) k) (cnt (dropA A (cnt A) k)) N (T + 7)
    rw [drop_5, remA_cnt hI.1.1.2.1]
    exact drop_iv hI (place_lt ek) (by omega)
end CAN
