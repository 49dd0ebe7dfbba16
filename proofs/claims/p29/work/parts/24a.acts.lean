/-! What the law's acts do to a value. -/
theorem and_nI (x : Int32) (k : Nat) : ∃ q, x &&& nI (2 ^ k - 1) = nI q ∧ q < 2 ^ k := by
  obtain ⟨a, ea⟩ : ∃ a, x = nI a := ⟨x.toBitVec.toNat, Int32.toBitVec_inj.mp (by show _ = BitVec.ofNat 32 _; simp)⟩
  have h : nI a &&& nI (2 ^ k - 1) = nI (a &&& (2 ^ k - 1)) := by
    apply Int32.toBitVec_inj.1
    show BitVec.ofNat 32 a &&& BitVec.ofNat 32 (2 ^ k - 1) = BitVec.ofNat 32 (a &&& (2 ^ k - 1))
    apply BitVec.eq_of_getLsbD_eq
    intro i hi
    rw [BitVec.getLsbD_and, BitVec.getLsbD_ofNat, BitVec.getLsbD_ofNat, BitVec.getLsbD_ofNat, Nat.testBit_and]
    simp [hi]
  rw [ea, h, Nat.and_two_pow_sub_one_eq_mod]
  exact ⟨a % 2 ^ k, rfl, Nat.mod_lt _ (Nat.two_pow_pos k)⟩
theorem and_3 (x : Int32) : ∃ q, x &&& 3 = nI q ∧ q < 4 := and_nI x 2
/-- a shift to the right -/
def sh (x k : Int32) : Int32 := x >>> (k &&& 31)
def lo (x n : Int32) : Int32 := (x &&& 2147483647) - (x &&& 2147483647) / n * n
theorem lo_is (x : Int32) {n : Int32} {m : Nat} (hn : n = nI m) (h0 : 0 < m) (hm : m < 2 ^ 31) : ∃ q, lo x n = nI q ∧ q < m := by
  subst hn
  obtain ⟨a, ea, ha⟩ := and_nI x 31
  have e : (2147483647 : Int32) = nI (2 ^ 31 - 1) := by decide
  unfold lo
  rw [e, ea, pk_rem ha h0 hm]
  exact ⟨a % m, rfl, Nat.mod_lt _ h0⟩
def vH (v : Int32) : Int32 := (sh v 4) &&& 3
def vD (v : Int32) : Int32 := lo (sh v 6) 5
def hN (v : Int32) : Nat := (vH v).toNatClampNeg
def dN (v : Int32) : Nat := (vD v).toNatClampNeg
def vK (A : Ab) (v : Int32) : Nat := (lo (sh v 9) (A 0 5)).toNatClampNeg
theorem vH_is (v : Int32) : vH v = nI (hN v) ∧ hN v < 4 := by
  obtain ⟨q, e, h⟩ := and_3 (sh v 4)
  have e' : vH v = nI q := e
  unfold hN
  rw [e', nI_clamp (by omega)]
  exact ⟨rfl, h⟩
theorem vD_is (v : Int32) : vD v = nI (dN v) ∧ dN v < 5 := by
  obtain ⟨q, e, h⟩ := lo_is (sh v 6) (n := 5) (m := 5) rfl (by omega) (by omega)
  have e' : vD v = nI q := e
  unfold dN
  rw [e', nI_clamp (by omega)]
  exact ⟨rfl, h⟩
theorem vK_is {A : Ab} {c : Nat} (v : Int32) (h5 : A 0 5 = nI c) (h0 : 0 < c) (hc : c ≤ 10) : lo (sh v 9) (A 0 5) = nI (vK A v) ∧ vK A v < c := by
  obtain ⟨q, e, h⟩ := lo_is (sh v 9) (n := A 0 5) (m := c) h5 h0 (by omega)
  unfold vK
  rw [e, nI_clamp (by omega)]
  exact ⟨rfl, h⟩
def aStock (A : Ab) (v w : Int32) : Int32 × Ab := if A (2 + hN v) 0 + (1 + lo w 40) ≤ 200 then (100 * vH v + (1 + lo w 40), aU A (2 + hN v) 0 (A (2 + hN v) 0 + (1 + lo w 40))) else (-1, A)
def aRange (A : Ab) (v w : Int32) : Int32 × Ab := (0, aU (aU A (2 + hN v) 1 (600 + lo w 641)) (2 + hN v) 2 ((600 + lo w 641) + lo (sh w 10) (1241 - (600 + lo w 641))))
def aDie (A : Ab) (v w : Int32) : Int32 × Ab := if A (7 + dN v) 3 ≤ 0 then (0, aU (aU (aU A (7 + dN v) 0 (1 + lo w 9)) (7 + dN v) 1 (10 + lo (sh w 4) 40)) (7 + dN v) 2 0) else (-1, A)
def aGrind (A : Ab) (v : Int32) : Int32 × Ab := if oI (groundA A) < 0 then (0, aU A (7 + dN v) 3 (A 0 10)) else (-1, A)
def sV (w : Int32) : Int32 := if w &&& 3 = 0 then 10 + lo (sh w 2) 291 else if w &&& 3 = 1 then 1 + lo (sh w 2) 200 else if w &&& 3 = 2 then (sh w 2) &&& 3 else 1 + lo (sh w 2) 30
def aSet (A : Ab) (w : Int32) : Int32 × Ab := (0, aU A 0 (7 + (w &&& 3).toNatClampNeg) (sV w))
def aCancel (A : Ab) (v : Int32) : Int32 × Ab := if A 0 5 = 0 then (-1, A) else (0, dropA A (cnt A) (vK A v))
def wZ (w : Int32) : Bool := if ¬ (w &&& 1) = 0 then false else true
def aRush (A : Ab) (v w : Int32) (p : Nat) : Int32 × Ab := if A 0 5 = 0 then (-1, A) else (0, hasZ A (vK A v) p (wZ w))
def jZ (w : Int32) : Bool := if ¬ ((sh w 12) &&& 3) = 0 then false else true
def aJob (A : Ab) (v w : Int32) (p : Nat) : Int32 × Ab := if A 0 5 = 10 then (-1, A) else (0, addQ A (cnt A) (vD v) (vH v) (1 + lo w 6) (lo (sh w 3) 400) (jZ w) p)
def pN (w : Int32) : Int32 := 1 + lo w (if ¬ ((sh w 7) &&& 3) = 0 then 6 else 60)
def aPass (A : Ab) (w : Int32) : Int32 × Ab := (0, mins (pN w).toNatClampNeg A)
def act (A : Ab) (v w : Int32) (p : Nat) : Int32 × Ab := if v &&& 15 = 0 then aStock A v w else if v &&& 15 = 1 then aStock A v w else if v &&& 15 = 2 then aRange A v w else if v &&& 15 = 3 then aDie A v w else if v &&& 15 = 4 then aGrind A v else if v &&& 15 = 5 then aSet A w else if v &&& 15 = 6 then aCancel A v else if v &&& 15 = 7 then aRush A v w p else if v &&& 15 = 8 then aJob A v w p else if v &&& 15 = 9 then aJob A v w p else if v &&& 15 = 10 then aJob A v w p else aPass A w
def okP (A : Ab) (v w : Int32) (p : Nat) : Prop := (v &&& 15 = 7 → A 0 5 ≠ 0 → p < cnt A ∧ srt (hasZ A (vK A v) p (wZ w)) (cnt A)) ∧ (v &&& 15 = 8 ∨ v &&& 15 = 9 ∨ v &&& 15 = 10 → A 0 5 ≠ 10 → p < cnt A + 1 ∧ srt (addQ A (cnt A) (vD v) (vH v) (1 + lo w 6) (lo (sh w 3) 400) (jZ w) p) (cnt A + 1))
theorem pN_is (w : Int32) : ∃ n, pN w = nI n ∧ 1 ≤ n ∧ n ≤ 60 := by
  unfold pN
  split
  · obtain ⟨q, e, h⟩ := lo_is w (n := 6) (m := 6) rfl (by omega) (by omega)
    rw [e]
    exact ⟨1 + q, nI_add 1 q, by omega, by omega⟩
  · obtain ⟨q, e, h⟩ := lo_is w (n := 60) (m := 60) rfl (by omega) (by omega)
    rw [e]
    exact ⟨1 + q, nI_add 1 q, by omega, by omega⟩
/-- the setting and its new number -/
theorem sV_is (w : Int32) : ∃ n q, w &&& 3 = nI n ∧ n < 4 ∧ sV w = nI q ∧ (n = 0 → 10 ≤ q ∧ q ≤ 300) ∧ (n = 1 → 1 ≤ q ∧ q ≤ 200) ∧ (n = 2 → q ≤ 3) ∧ (n = 3 → 1 ≤ q ∧ q ≤ 30) := by
  obtain ⟨n, en, hn⟩ := and_3 w
  unfold sV
  rw [en]
  rcases (by omega : n = 0 ∨ n = 1 ∨ n = 2 ∨ n = 3) with rfl | rfl | rfl | rfl
  · obtain ⟨q, e, h⟩ := lo_is (sh w 2) (n := 291) (m := 291) rfl (by omega) (by omega)
    refine ⟨0, 10 + q, rfl, by omega, ?_, by omega, by omega, by omega, by omega⟩
    rw [if_pos (show nI 0 = 0 from rfl), e]
    exact nI_add 10 q
  · obtain ⟨q, e, h⟩ := lo_is (sh w 2) (n := 200) (m := 200) rfl (by omega) (by omega)
    refine ⟨1, 1 + q, rfl, by omega, ?_, by omega, by omega, by omega, by omega⟩
    rw [if_neg (show ¬ nI 1 = 0 by decide), if_pos (show nI 1 = 1 from rfl), e]
    exact nI_add 1 q
  · obtain ⟨q, e, h⟩ := and_3 (sh w 2)
    refine ⟨2, q, rfl, by omega, ?_, by omega, by omega, by omega, by omega⟩
    rw [if_neg (show ¬ nI 2 = 0 by decide), if_neg (show ¬ nI 2 = 1 by decide), if_pos (show nI 2 = 2 from rfl)]
    exact e
  · obtain ⟨q, e, h⟩ := lo_is (sh w 2) (n := 30) (m := 30) rfl (by omega) (by omega)
    refine ⟨3, 1 + q, rfl, by omega, ?_, by omega, by omega, by omega, by omega⟩
    rw [if_neg (show ¬ nI 3 = 0 by decide), if_neg (show ¬ nI 3 = 1 by decide), if_neg (show ¬ nI 3 = 2 by decide), e]
    exact nI_add 1 q
section KEP
variable {A : Ab} {j : Nat} {τ : Nat → Int32} {v w : Int32} {p : Nat}
theorem cnt_up {r f : Nat} {x : Int32} (h : ¬ (r = 0 ∧ f = 5)) : cnt (aU A r f x) = cnt A := by
  unfold cnt
  rw [up_o (fun q => h ⟨q.1.symm, q.2.symm⟩)]
theorem kw_same (h : KW A j τ) : KW A j (fun h => if h = 0 then τ h + nI 0 else τ h) := by
  have e : (fun h => if h = 0 then τ h + nI 0 else τ h) = τ := funext fun h => by
    split
    · exact Int32.add_zero _
    · rfl
  rw [e]; exact h
def KO (o : Int32 × Ab) (j : Nat) (τ : Nat → Int32) : Prop := o.1 ≠ -1 → ∃ i m, i < 4 ∧ m ≤ 40 ∧ o.1 = nI (100 * i + m) ∧ KW o.2 j (fun h => if h = i then τ h + nI m else τ h)
theorem ko_0 {A' : Ab} (h : KW A' j τ) : KO (0, A') j τ := fun _ => ⟨0, 0, by omega, by omega, rfl, kw_same h⟩
theorem ko_no {A' : Ab} : KO (-1, A') j τ := fun n => absurd rfl n
theorem k_stock (h : KW A j τ) : KO (aStock A v w) (j + 1) τ := by
  obtain ⟨N, T, U, h1, h2, h3, hI, kv⟩ := h
  obtain ⟨eh, hh⟩ := vH_is v
  obtain ⟨q, e, hq⟩ := lo_is w (n := 40) (m := 40) rfl (by omega) (by omega)
  have e1 : 1 + lo w 40 = nI (1 + q) := by rw [e]; exact nI_add 1 q
  obtain ⟨s0, _, _, es, hs, _⟩ := hI.2.2.2.2.2.2 _ hh
  unfold aStock
  rw [e1, eh]
  split
  · rename_i hle
    intro _
    have hle2 := hle
    rw [es, nI_add] at hle2
    have hle3 := (nI_leI (b := 200) (by omega) (by omega)).mp hle2
    refine ⟨hN v, 1 + q, hh, by omega, ?_, N, T, U, by omega, by omega, by omega, ?_, ?_⟩
    · show 100 * nI (hN v) + nI (1 + q) = _
      rw [show (100 : Int32) = nI 100 from rfl, pk_mul, nI_add]
    · show Iv (aU A (2 + hN v) 0 (A (2 + hN v) 0 + nI (1 + q))) (cnt (aU A (2 + hN v) 0 (A (2 + hN v) 0 + nI (1 + q)))) N T
      rw [cnt_up (by omega), es, nI_add]
      exact hI.stock hh hle3
    · show Kv (aU A (2 + hN v) 0 (A (2 + hN v) 0 + nI (1 + q))) (cnt (aU A (2 + hN v) 0 (A (2 + hN v) 0 + nI (1 + q)))) T U _
      rw [cnt_up (by omega)]
      exact kv.stock hI.1.1.2.1 hh
  · exact ko_no
theorem k_range (h : KW A j τ) : KO (aRange A v w) (j + 1) τ := by
  obtain ⟨N, T, U, h1, h2, h3, hI, kv⟩ := h
  have hc := hI.1.1.2.1
  obtain ⟨eh, hh⟩ := vH_is v
  refine ko_0 ⟨N, T, U, by omega, by omega, by omega, ?_, ?_⟩
  · rw [cnt_up (by omega), cnt_up (by omega)]
    exact hI.congr (fun f hf => by rw [up_r (by omega), up_r (by omega)]) (fun q hq => ⟨by rw [up_f (by omega), up_f (by omega)], by rw [up_f (by omega), up_f (by omega)], by rw [up_f (by omega), up_f (by omega)]⟩) (fun d hd => ⟨by rw [up_r (by omega), up_r (by omega)], by rw [up_r (by omega), up_r (by omega)], by rw [up_r (by omega), up_r (by omega)]⟩) (fun k hk f hf => by rw [up_r (by omega), up_r (by omega)]) (fun p hp => ⟨by rw [up_r (by omega), up_r (by omega)], by rw [up_r (by omega), up_r (by omega)], by rw [up_r (by omega), up_r (by omega)]⟩)
  · rw [cnt_up (by omega), cnt_up (by omega)]
    exact kv.range hc hh
theorem k_die (h : KW A j τ) : KO (aDie A v w) (j + 1) τ := by
  obtain ⟨N, T, U, h1, h2, h3, hI, kv⟩ := h
  have hc := hI.1.1.2.1
  obtain ⟨ed, hd⟩ := vD_is v
  obtain ⟨q, e, hq⟩ := lo_is w (n := 9) (m := 9) rfl (by omega) (by omega)
  obtain ⟨l, el, hl⟩ := lo_is (sh w 4) (n := 40) (m := 40) rfl (by omega) (by omega)
  have e1 : 1 + lo w 9 = nI (1 + q) := by rw [e]; exact nI_add 1 q
  have e2 : 10 + lo (sh w 4) 40 = nI (10 + l) := by rw [el]; exact nI_add 10 l
  unfold aDie
  rw [e1, e2]
  split
  · refine ko_0 ⟨N, T, U, by omega, by omega, by omega, ?_, ?_⟩
    · rw [cnt_up (by omega), cnt_up (by omega), cnt_up (by omega)]
      have d := hI.2.2.2.2.1
      refine hI.withD (fun r f hr => by rw [up_r (by omega), up_r (by omega), up_r (by omega)]) ⟨fun x hx => ?_, fun x x' hx hx' x1 x2 => ?_⟩
      · obtain ⟨b1, l1, g1, y1, y2, y3, y4, y5, y6, y7⟩ := d.1 x hx
        by_cases z : x = dN v
        · subst z
          exact ⟨1 + q, 10 + l, g1, by rw [up_f (by omega), up_f (by omega), up_s], by omega, by omega, by rw [up_f (by omega), up_s], by omega, by rw [up_f (by omega), up_f (by omega), up_f (by omega)]; exact y6, y7⟩
        · refine ⟨b1, l1, g1, ?_, y2, y3, ?_, y5, ?_, y7⟩
          · rw [up_r (by omega), up_r (by omega), up_r (by omega)]; exact y1
          · rw [up_r (by omega), up_r (by omega), up_r (by omega)]; exact y4
          · rw [up_r (by omega), up_r (by omega), up_r (by omega)]; exact y6
      · rw [up_f (by omega), up_f (by omega), up_f (by omega)] at x1 x2
        exact d.2 x x' hx hx' x1 x2
    · rw [cnt_up (by omega), cnt_up (by omega), cnt_up (by omega)]
      exact kv.die hc hd (l := 10 + l) rfl (by omega) (by omega)
  · exact ko_no
theorem g_none {o : Option Nat} (h : oI o < 0) (ho : ∀ e, o = some e → e < 5) : o = none := by
  cases o with
  | none => rfl
  | some e =>
    have := ho e rfl
    exact absurd h (nI_pos (by omega))
theorem k_grind (h : KW A j τ) : KO (aGrind A v) (j + 1) τ := by
  obtain ⟨N, T, U, h1, h2, h3, hI, kv⟩ := h
  obtain ⟨ed, hd⟩ := vD_is v
  obtain ⟨w0, x0, r0, g0, q1, q2, q3, q4, q5, q6, q7, q8, q9⟩ := hI.2.2.2.2.2.1
  unfold aGrind
  split
  · rename_i hg
    have hn := g_none hg fun e he => by have := (fst9_some he).2.1; omega
    refine ko_0 ⟨N, T, U, by omega, by omega, by omega, ?_, ?_⟩
    · rw [cnt_up (by omega), q7]
      exact hI.toGo hd q9 fun e he _ => groundA_none hn he
    · rw [cnt_up (by omega)]
      exact kv.toGo hI.1.1.2.1 hd
  · exact ko_no
theorem k_set (h : KW A j τ) : KO (aSet A w) (j + 1) τ := by
  obtain ⟨N, T, U, h1, h2, h3, hI, kv⟩ := h
  obtain ⟨n, q, en, hn, eq, c0, c1, c2, c3⟩ := sV_is w
  obtain ⟨w0, x0, r0, g0, q1, q2, q3, q4, q5, q6, q7, q8, q9⟩ := hI.2.2.2.2.2.1
  unfold aSet
  rw [en, nI_clamp (by omega), eq]
  refine ko_0 ⟨N, T, U, by omega, by omega, by omega, ?_, ?_⟩
  · rw [cnt_up (by omega)]
    refine hI.setting hn ?_
    rcases (by omega : n = 0 ∨ n = 1 ∨ n = 2 ∨ n = 3) with rfl | rfl | rfl | rfl
    · exact ⟨q, x0, r0, g0, up_s, (c0 rfl).2, by rw [up_f (by omega)]; exact q3, q4, by rw [up_f (by omega)]; exact q5, q6, by rw [up_f (by omega)]; exact q7, q8, q9⟩
    · exact ⟨w0, q, r0, g0, by rw [up_f (by omega)]; exact q1, q2, up_s, (c1 rfl).2, by rw [up_f (by omega)]; exact q5, q6, by rw [up_f (by omega)]; exact q7, q8, q9⟩
    · exact ⟨w0, x0, q, g0, by rw [up_f (by omega)]; exact q1, q2, by rw [up_f (by omega)]; exact q3, q4, up_s, c2 rfl, by rw [up_f (by omega)]; exact q7, q8, q9⟩
    · exact ⟨w0, x0, r0, q, by rw [up_f (by omega)]; exact q1, q2, by rw [up_f (by omega)]; exact q3, q4, by rw [up_f (by omega)]; exact q5, q6, up_s, (c3 rfl).1, (c3 rfl).2⟩
  · rw [cnt_up (by omega)]
    exact kv.setting hI.1.1.2.1 hn
theorem c_pos {c : Nat} (ok : okN A c) (h : ¬ A 0 5 = 0) : 0 < c := by
  rcases Nat.eq_zero_or_pos c with e | e
  · subst e; exact absurd ok.1 h
  · exact e
theorem c_lt {c : Nat} (ok : okN A c) (h : ¬ A 0 5 = 10) : c < 10 := by
  have := ok.2.1
  rcases Nat.lt_or_ge c 10 with e | e
  · exact e
  · have : c = 10 := by omega
    subst this; exact absurd ok.1 h
theorem k_cancel (h : KW A j τ) (hj : j ≤ 100) : KO (aCancel A v) (j + 1) τ := by
  obtain ⟨N, T, U, h1, h2, h3, hI, kv⟩ := h
  unfold aCancel
  split
  · exact ko_no
  · rename_i h0
    have hk := (vK_is v hI.1.1.1 (c_pos hI.1.1 h0) hI.1.1.2.1).2
    have ec : cnt (dropA A (cnt A) (vK A v)) = cnt A - 1 := by rw [drop_5, remA_cnt hI.1.1.2.1]
    refine ko_0 ⟨N, T + 7, U, by omega, by omega, by omega, ?_, ?_⟩
    · rw [ec]; exact drop_iv hI hk (by omega)
    · rw [ec]; exact (kv.drop hI hk).mono (by omega) (Nat.le_refl _)
theorem k_rush (h : KW A j τ) (ok : A 0 5 ≠ 0 → p < cnt A ∧ srt (hasZ A (vK A v) p (wZ w)) (cnt A)) : KO (aRush A v w p) (j + 1) τ := by
  obtain ⟨N, T, U, h1, h2, h3, hI, kv⟩ := h
  unfold aRush
  split
  · exact ko_no
  · rename_i h0
    have hk := (vK_is v hI.1.1.1 (c_pos hI.1.1 h0) hI.1.1.2.1).2
    obtain ⟨hp, hs⟩ := ok h0
    refine ko_0 ⟨N, T, U, by omega, by omega, by omega, ?_, ?_⟩
    · rw [hasZ_cnt]; exact hI.hsz hk hp hs
    · rw [hasZ_cnt]; exact kv.hsz hI.1.1.2.1 hk hp
theorem k_job (h : KW A j τ) (hj : j ≤ 100) (ok : A 0 5 ≠ 10 → p < cnt A + 1 ∧ srt (addQ A (cnt A) (vD v) (vH v) (1 + lo w 6) (lo (sh w 3) 400) (jZ w) p) (cnt A + 1)) : KO (aJob A v w p) (j + 1) τ := by
  obtain ⟨N, T, U, h1, h2, h3, hI, kv⟩ := h
  obtain ⟨eh, hh⟩ := vH_is v
  obtain ⟨ed, hd⟩ := vD_is v
  obtain ⟨q, e, hq⟩ := lo_is w (n := 6) (m := 6) rfl (by omega) (by omega)
  obtain ⟨u, eu, hu⟩ := lo_is (sh w 3) (n := 400) (m := 400) rfl (by omega) (by omega)
  have e1 : 1 + lo w 6 = nI (1 + q) := by rw [e]; exact nI_add 1 q
  unfold aJob
  split
  · exact ko_no
  · rename_i h0
    have hc := c_lt hI.1.1 h0
    obtain ⟨hp, hs⟩ := ok h0
    refine ko_0 ⟨N + 1, T, U, by omega, by omega, by omega, ?_, ?_⟩
    · rw [addQ_cnt hc]
      exact hI.add hc (by omega) ed hd eh hh e1 (by omega) (by omega) eu (by omega) hp hs
    · rw [addQ_cnt hc]
      exact kv.add hc hp
theorem k_pass (h : KW A j τ) (hj : j ≤ 100) : KO (aPass A w) (j + 1) τ := by
  obtain ⟨N, T, U, h1, h2, h3, hI, kv⟩ := h
  obtain ⟨n, en, hn1, hn⟩ := pN_is w
  unfold aPass
  rw [en, nI_clamp (by omega)]
  have hm : (T + n) * (U + n) ≤ 6800 * 6100 := Nat.mul_le_mul (by omega) (by omega)
  exact ko_0 ⟨N, T + n, U + n, by omega, by omega, by omega, hI.many (by omega), kv.many hI (by omega) (by omega) (by omega)⟩
/-- an act keeps what is kept -/
theorem k_act (h : KW A j τ) (hj : j ≤ 100) (ok : okP A v w p) : KO (act A v w p) (j + 1) τ := by
  unfold act
  split
  · exact k_stock h
  split
  · exact k_stock h
  split
  · exact k_range h
  split
  · exact k_die h
  split
  · exact k_grind h
  split
  · exact k_set h
  split
  · exact k_cancel h hj
  split
  · rename_i e; exact k_rush h (ok.1 e)
  split
  · rename_i e; exact k_job h hj (ok.2 (Or.inl e))
  split
  · rename_i e; exact k_job h hj (ok.2 (Or.inr (Or.inl e)))
  split
  · rename_i e; exact k_job h hj (ok.2 (Or.inr (Or.inr e)))
  · exact k_pass h hj
end KEP
