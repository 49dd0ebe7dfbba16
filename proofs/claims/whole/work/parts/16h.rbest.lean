/-! The best number of reheats: the reference. -/
section RBE
variable {B M : Mem} {σ σ' : Nat → Int32} {A A' : Ab} {c N T : Nat} {m : Int32} {ι : Nat → Nat}
theorem Rel.set (h : Rel A c m ι σ) (hc : c ≤ 10) {i : Nat} (hi : i < 4) {v : Int32} : Rel (aU A 0 (7 + i) v) c m ι (uS σ i v) := by
  obtain ⟨⟨a1, a2, a3, a4, a5, a6, a7⟩, hG, hH, hD, hJ, hP⟩ := h
  refine ⟨⟨fun j hj => ?_, ?_, ?_, ?_, ?_, ?_, fun j hj => ?_⟩, hG.congr (fun j h1 hj => uS_o (by omega)) (fun d hd => up_r (by omega)), hH.congr (fun j h1 hj => uS_o (by omega)) (fun j hj f _ => up_r (by omega)), hD.congr (fun j h1 hj => uS_o (by omega)) (fun d hd f _ => up_r (by omega)), hJ.congr hc (fun j h1 hj => uS_o (by omega)) (fun k hk f _ => up_r (by omega)), hP.congr (fun j h1 hj => uS_o (by omega)) (fun p hp f _ => up_r (by omega))⟩
  · by_cases q : j = i
    · subst q; rw [uS_s, up_s]
    · rw [uS_o q, up_f (by omega)]; exact a1 j hj
  · rw [uS_o (by omega)]; exact a2
  · rw [uS_o (by omega), up_f (by omega)]; exact a3
  · rw [uS_o (by omega), up_f (by omega)]; exact a4
  · rw [uS_o (by omega), madeA_congr (A := A) (fun j hj => up_r (by omega))]; exact a5
  · rw [uS_o (by omega), scrapA_congr (A := A) (fun j hj => up_r (by omega))]; exact a6
  · rw [uS_o (by omega), up_f (by omega)]; exact a7 j hj
theorem sub_lt {a b z : Nat} (ha : a < 2 ^ 30) (hb : b < 2 ^ 30) (hz : z < 2 ^ 30) : nI a - nI z < nI b - nI z ↔ nI a < nI b := by
  rw [Int32.lt_iff_toInt_lt, nI_sub_toInt ha hz, nI_sub_toInt hb hz, nI_ltI (by omega) (by omega)]; omega
theorem sub_le {a b z : Nat} (ha : a < 2 ^ 30) (hb : b < 2 ^ 30) (hz : z < 2 ^ 30) : nI a - nI z ≤ nI b - nI z ↔ nI a ≤ nI b := by
  rw [Int32.le_iff_toInt_le, nI_sub_toInt ha hz, nI_sub_toInt hb hz, nI_leI (by omega) (by omega)]; omega
theorem sub_eq {a b z : Nat} (ha : a < 2 ^ 30) (hb : b < 2 ^ 30) (hz : z < 2 ^ 30) : nI a - nI z = nI b - nI z ↔ nI a = nI b := by
  rw [← Int32.toInt_inj, nI_sub_toInt ha hz, nI_sub_toInt hb hz, nI_eq (by omega) (by omega)]; omega
theorem madeA_9 {v : Int32} : madeA (aU A 0 9 v) = madeA A := madeA_congr fun j hj => up_r (by omega)
theorem scrapA_9 {v : Int32} : scrapA (aU A 0 9 v) = scrapA A := scrapA_congr fun j hj => up_r (by omega)
theorem bst_in {n : Nat} (h : ∀ r, r ≤ 3 → (∃ a, mkV A n r = nI a ∧ a < 2 ^ 30) ∧ ∃ b, scV A n r = nI b ∧ b < 2 ^ 30) : ∀ r, r ≤ 3 → (∃ i, (bst A n r).1 = nI i ∧ i ≤ 3) ∧ (∃ a, (bst A n r).2.1 = nI a ∧ a < 2 ^ 30) ∧ ∃ b, (bst A n r).2.2 = nI b ∧ b < 2 ^ 30 := by
  intro r
  induction r with
  | zero => intro hr; exact ⟨⟨0, rfl, by omega⟩, (h 0 hr).1, (h 0 hr).2⟩
  | succ r ih =>
    intro hr
    unfold bst
    split
    · exact ⟨⟨r + 1, rfl, hr⟩, (h _ hr).1, (h _ hr).2⟩
    · exact ih (by omega)
theorem r_reheatsFor (hB : RB M) (hR : Rel A c (A 0 11) ι (M.1 277)) (hI : Iv A c N T) {n : Nat} (hT : 4 * (T + n) < 2 ^ 30) {x : Int32} (hx : x = nI n) {P : Int32 → Mem → Prop} (hp : ∀ M', SimR M M' → P (bst A n 3).1 M') : wp_X7_reheatsFor 283 M 276 x P := by
  have hc := hI.1.1.2.1
  refine ⟨tp7, 277, hB.1, tp8, by rw [len8]; exact vpI (i := 2) rfl (by omega) (by omega), fun v5 h5 => ⟨5, ?_⟩⟩
  rw [show (2 : Int32).toNatClampNeg = 2 from rfl] at h5
  obtain ⟨za, eza, hza⟩ := made_nat hI.2.2.2.2.2.2
  obtain ⟨zb, ezb, hzb⟩ := scrap_nat hI.2.2.2.2.2.2
  have hv : ∀ r, r ≤ 3 → (∃ a, mkV A n r = nI a ∧ a < 2 ^ 30) ∧ ∃ b, scV A n r = nI b ∧ b < 2 ^ 30 := fun r hr => by
    have := ((hI.reheats hr).many (n := n) (by omega)).2.2.2.2.2.2
    obtain ⟨a, ea, ha⟩ := made_nat this
    obtain ⟨b, eb, hb⟩ := scrap_nat this
    exact ⟨⟨a, ea, by omega⟩, b, eb, by omega⟩
  have hbst := bst_in hv
  -- the memories on the way
  let Q : Mem → Prop := fun M1 => (∀ a, a ≠ 277 → a ≠ 278 → M1.1 a = M.1 a) ∧ M1.2 = M.2 ∧ ∀ k, k < 158 → k ≠ 2 → M1.1 277 k = M.1 277 k
  have one : ∀ (M1 : Mem) (b ms ls : Int32) (r f : Nat), r ≤ 3 → Q M1 → (∀ M2, Q M2 → (b = -1 → wpL_X7_reheatsFor_18 283 P f M2 276 x v5 (nI r) (mkV A n r - madeA A) (scV A n r - scrapA A) (nI (r + 1))) ∧ (¬ b = -1 → (ms < mkV A n r - madeA A → wpL_X7_reheatsFor_18 283 P f M2 276 x v5 (nI r) (mkV A n r - madeA A) (scV A n r - scrapA A) (nI (r + 1))) ∧ (¬ ms < mkV A n r - madeA A → (¬ mkV A n r - madeA A = ms → wpL_X7_reheatsFor_18 283 P f M2 276 x v5 b ms ls (nI (r + 1))) ∧ (mkV A n r - madeA A = ms → (ls ≤ scV A n r - scrapA A → wpL_X7_reheatsFor_18 283 P f M2 276 x v5 b ms ls (nI (r + 1))) ∧ (¬ ls ≤ scV A n r - scrapA A → wpL_X7_reheatsFor_18 283 P f M2 276 x v5 (nI r) (mkV A n r - madeA A) (scV A n r - scrapA A) (nI (r + 1))))))) → wpL_X7_reheatsFor_18 283 P (f + 1) M1 276 x v5 b ms ls (nI r) := fun M1 b ms ls r f hr hQ hk => by
    have hB1 : RB M1 := by unfold RB; rw [hQ.2.1]; exact hB
    refine ⟨fun q => absurd q (cLt (x := 4) (n := 4) rfl rfl (by omega) (by omega)), fun _ => ⟨tp7, 277, hB1.1, tp8, by rw [len8]; exact vpI (i := 2) rfl (by omega) (by omega), fun M15 e15 => ?_⟩⟩
    rw [show (2 : Int32).toNatClampNeg = 2 from rfl] at e15
    have hB15 : RB M15 := by rw [e15]; exact hB1
    have hIr := hI.reheats hr
    have s15 : M15.1 277 2 = nI r := by rw [e15, uI_s]
    have o15 : ∀ k, k ≠ 2 → M15.1 277 k = M1.1 277 k := fun k hk => by rw [e15, uI_o (by omega)]
    have a15 : ∀ a, a ≠ 277 → M15.1 a = M1.1 a := fun a ha => by rw [e15, uI_a ha]
    have t15 : M15.2 = M1.2 := by rw [e15]; rfl
    have hR15 : Rel (aU A 0 9 (nI r)) c (aU A 0 9 (nI r) 0 11) ι (M15.1 277) := by
      rw [up_f (show (11 : Nat) ≠ 9 by omega)]
      refine (hR.set hc (i := 2) (by omega) (v := nI r)).eq158 hc fun k hk => ?_
      by_cases q : k = 2
      · subst q; rw [uS_s, s15]
      · rw [uS_o q, o15 k q]; exact hQ.2.2 k hk q
    refine r_passed hB15 hR15 hIr (by omega) (q := 0) (by omega) hx rfl fun M16 h16 => r_passed (h16.rb hB15) (hR15.eq158 hc h16.2.2) hIr (by omega) (q := 1) (by omega) hx rfl fun M18 h18 => ?_
    have h := h16.tr h18
    have hQ2 : Q M18 := ⟨fun a h1 h2 => by rw [h.1 a h1 h2, a15 a h1]; exact hQ.1 a h1 h2, by rw [h.2.1, t15]; exact hQ.2.1, fun k hk h2 => by rw [h.2.2 k hk, o15 k h2]; exact hQ.2.2 k hk h2⟩
    have k := hk M18 hQ2
    have f0 : foreV (aU A 0 9 (nI r)) (mins n (aU A 0 9 (nI r))) (nI 0) = mkV A n r - madeA A := by
      show madeA (mins n (aU A 0 9 (nI r))) - madeA (aU A 0 9 (nI r)) = _
      rw [madeA_9]; rfl
    have f1 : foreV (aU A 0 9 (nI r)) (mins n (aU A 0 9 (nI r))) (nI 1) = scV A n r - scrapA A := by
      show scrapA (mins n (aU A 0 9 (nI r))) - scrapA (aU A 0 9 (nI r)) = _
      rw [scrapA_9]; rfl
    rw [f0, f1]
    refine ⟨fun e v hv => ?_, fun e => ⟨fun e1 v hv => ?_, fun e1 => ⟨fun e2 v hv => ?_, fun e2 => ⟨fun e3 v hv => ?_, fun e3 v hv => ?_⟩⟩⟩⟩
    · rw [hv, nI_1]; exact k.1 e
    · rw [hv, nI_1]; exact (k.2 e).1 e1
    · rw [hv, nI_1]; exact ((k.2 e).2 e1).1 e2
    · rw [hv, nI_1]; exact (((k.2 e).2 e1).2 e2).1 e3
    · rw [hv, nI_1]; exact (((k.2 e).2 e1).2 e2).2 e3
  have L : ∀ f r (M1 : Mem), r + f = 3 → Q M1 → wpL_X7_reheatsFor_18 283 P (f + 1) M1 276 x v5 (bst A n r).1 ((bst A n r).2.1 - madeA A) ((bst A n r).2.2 - scrapA A) (nI (r + 1)) := by
    intro f
    induction f with
    | zero =>
      intro r M1 hr hQ
      have : r = 3 := by omega
      subst this
      have hB1 : RB M1 := by unfold RB; rw [hQ.2.1]; exact hB
      refine ⟨fun _ => ⟨tp7, 277, hB1.1, tp8, by rw [len8]; exact vpI (i := 2) rfl (by omega) (by omega), fun M10 e10 => hp M10 ⟨fun a h1 h2 => ?_, ?_, fun k hk => ?_⟩⟩, fun q => absurd (cGe (x := 4) (n := 4) (i := 4) rfl rfl (by omega) (by omega)) q⟩
      · rw [e10, uI_a h1]; exact hQ.1 a h1 h2
      · rw [e10]; exact hQ.2.1
      · rw [show (2 : Int32).toNatClampNeg = 2 from rfl] at e10
        by_cases q : k = 2
        · subst q; rw [e10, uI_s, h5]
        · rw [e10, uI_o (by omega)]; exact hQ.2.2 k hk q
    | succ f ih =>
      intro r M1 hr hQ
      refine one M1 _ _ _ (r + 1) (f + 1) (by omega) hQ fun M2 hQ2 => ?_
      have := ih (r + 1) M2 (by omega) hQ2
      unfold bst at this
      obtain ⟨⟨i, ei, hi3⟩, ⟨a, ea, ha⟩, b, eb, hb⟩ := hbst r (by omega)
      obtain ⟨⟨a', ea', ha'⟩, b', eb', hb'⟩ := hv (r + 1) (by omega)
      have lt : (bst A n r).2.1 - madeA A < mkV A n (r + 1) - madeA A ↔ (bst A n r).2.1 < mkV A n (r + 1) := by rw [ea, ea', eza]; exact sub_lt ha ha' (by omega)
      have eq : mkV A n (r + 1) - madeA A = (bst A n r).2.1 - madeA A ↔ mkV A n (r + 1) = (bst A n r).2.1 := by rw [ea, ea', eza]; exact sub_eq ha' ha (by omega)
      have le : (bst A n r).2.2 - scrapA A ≤ scV A n (r + 1) - scrapA A ↔ (bst A n r).2.2 ≤ scV A n (r + 1) := by rw [eb, eb', ezb]; exact sub_le hb hb' (by omega)
      rw [lt, eq, le]
      refine ⟨fun e => ?_, fun _ => ⟨fun e => ?_, fun e => ⟨fun e1 => ?_, fun e1 => ⟨fun e2 => ?_, fun e2 => ?_⟩⟩⟩⟩
      · rw [ei] at e; exact absurd e (nI_n1 (by omega))
      · rw [if_pos (Or.inl e)] at this; exact this
      · rw [if_neg (by rintro (z | z); exact e z; exact e1 z.1)] at this; exact this
      · rw [if_neg (by rintro (z | z); exact e z; exact z.2 e2)] at this; exact this
      · rw [if_pos (Or.inr ⟨e1, e2⟩)] at this; exact this
  refine one M (-1) 0 0 0 4 (by omega) ⟨fun _ _ _ => rfl, rfl, fun _ _ _ => rfl⟩ fun M2 hQ2 => ⟨fun _ => L 3 0 M2 (by omega) hQ2, fun e => absurd rfl e⟩
end RBE
