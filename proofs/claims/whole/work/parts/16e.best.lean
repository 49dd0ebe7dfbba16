/-! The best number of reheats: the class. -/
section BE
variable {B M : Mem} {π π' : Nat → Nat} {A E : Ab} {c N T : Nat}
theorem Iv.setting (h : Iv A c N T) {i : Nat} (hi : i < 4) {v : Int32} (hs : iS (aU A 0 (7 + i) v)) : Iv (aU A 0 (7 + i) v) c N T := by
  have hc := h.1.1.2.1
  obtain ⟨j, e, l, b, d, s, t⟩ := h
  have o : ∀ r f, ¬ (r = 0 ∧ f = 7 + i) → aU A 0 (7 + i) v r f = A r f := fun r f h => up_o h
  refine ⟨j.congr (fun f hf => o _ _ (by omega)) (fun k hk f hf => o _ _ (by omega)), fun k hk => ?_, fun k hk => ?_, ⟨fun p hp => ?_, fun p hp => ?_⟩, ⟨fun q hq => ?_, fun q q' hq hq' h1 h2 => ?_⟩, hs, fun q hq => ?_⟩
  · rw [o _ _ (by omega)]
    have := bc_congr (A' := aU A 0 (7 + i) v) (A := A) (k := k) (fun p hp => o _ _ (by omega)) (o _ _ (by omega))
    exact (e.bc hk).trans (by rw [← this]; rfl)
  · obtain ⟨p, m, e1, e2, e3, e4⟩ := l k hk
    exact ⟨p, m, (o _ _ (by omega)).trans e1, (o _ _ (by omega)).trans e2, e3, by rw [bc_congr (A := A) (fun p hp => o _ _ (by omega)) (o _ _ (by omega))]; exact e4⟩
  · rw [o _ _ (by omega), o _ _ (by omega)]
    rcases b.1 p hp with y | ⟨⟨k, hk, y⟩, w⟩
    · exact Or.inl y
    · exact Or.inr ⟨⟨k, hk, by rw [o _ _ (by omega)]; exact y⟩, w⟩
  · rw [o _ _ (by omega)]; exact b.2 p hp
  · rw [o _ _ (by omega), o _ _ (by omega), o _ _ (by omega)]; exact d.1 q hq
  · rw [o _ _ (by omega)] at h1 h2
    exact d.2 q q' hq hq' h1 h2
  · rw [o _ _ (by omega), o _ _ (by omega), o _ _ (by omega)]; exact t q hq
theorem Iv.reheats (h : Iv A c N T) {r : Nat} (hr : r ≤ 3) : Iv (aU A 0 9 (nI r)) c N T := by
  refine h.setting (i := 2) (by omega) ?_
  obtain ⟨w, x, r0, g, e1, h1, e2, h2, e3, h3, e4, h4⟩ := h.2.2.2.2.2.1
  exact ⟨w, x, r, g, by rw [up_f (by omega)]; exact e1, h1, by rw [up_f (by omega)]; exact e2, h2, up_s, hr, by rw [up_f (by omega)]; exact e4, h4⟩
theorem made_nat (h : iH A T) : ∃ a, madeA A = nI a ∧ a ≤ 4 * T := by
  obtain ⟨s0, a0, b0, -, -, e0, h0, -⟩ := h 0 (by omega)
  obtain ⟨s1, a1, b1, -, -, e1, h1, -⟩ := h 1 (by omega)
  obtain ⟨s2, a2, b2, -, -, e2, h2, -⟩ := h 2 (by omega)
  obtain ⟨s3, a3, b3, -, -, e3, h3, -⟩ := h 3 (by omega)
  refine ⟨a0 + a1 + a2 + a3, ?_, by omega⟩
  show 0 + A (2 + 0) 3 + A (2 + 1) 3 + A (2 + 2) 3 + A (2 + 3) 3 = _
  rw [e0, e1, e2, e3, Int32.zero_add, nI_add, nI_add, nI_add]
theorem scrap_nat (h : iH A T) : ∃ a, scrapA A = nI a ∧ a ≤ 4 * T := by
  obtain ⟨s0, b0, a0, -, -, -, -, e0, h0⟩ := h 0 (by omega)
  obtain ⟨s1, b1, a1, -, -, -, -, e1, h1⟩ := h 1 (by omega)
  obtain ⟨s2, b2, a2, -, -, -, -, e2, h2⟩ := h 2 (by omega)
  obtain ⟨s3, b3, a3, -, -, -, -, e3, h3⟩ := h 3 (by omega)
  refine ⟨a0 + a1 + a2 + a3, ?_, by omega⟩
  show 0 + A (2 + 0) 4 + A (2 + 1) 4 + A (2 + 2) 4 + A (2 + 3) 4 = _
  rw [e0, e1, e2, e3, Int32.zero_add, nI_add, nI_add, nI_add]
def mkV (A : Ab) (n r : Nat) : Int32 := madeA (mins n (aU A 0 9 (nI r)))
def scV (A : Ab) (n r : Nat) : Int32 := scrapA (mins n (aU A 0 9 (nI r)))
def bst (A : Ab) (n : Nat) : Nat → Int32 × Int32 × Int32
  | 0 => (nI 0, mkV A n 0, scV A n 0)
  | r + 1 => if (bst A n r).2.1 < mkV A n (r + 1) ∨ (mkV A n (r + 1) = (bst A n r).2.1 ∧ ¬ (bst A n r).2.2 ≤ scV A n (r + 1)) then (nI (r + 1), mkV A n (r + 1), scV A n (r + 1)) else bst A n r
theorem Cp.nine {v : Int32} (h : Cp E A c) (hc : c ≤ 10) : Cp (aU E 0 9 v) (aU A 0 9 v) c := by
  obtain ⟨g0, g1, g2, g3, g4⟩ := h
  refine ⟨fun f a b => ?_, fun i hi f hf => ?_, fun i hi f hf => ?_, fun i hi f hf => ?_, fun i hi f hf => ?_⟩
  · by_cases q : f = 9
    · subst q; rw [up_s, up_s]
    · rw [up_f q, up_f q]; exact g0 f a b
  · rw [up_r (by omega), up_r (by omega)]; exact g1 i hi f hf
  · rw [up_r (by omega), up_r (by omega)]; exact g2 i hi f hf
  · rw [up_r (by omega), up_r (by omega)]; exact g3 i hi f hf
  · rw [up_r (by omega), up_r (by omega)]; exact g4 i hi f hf
theorem x_bestNumberOfReheats (h1 : CF B B 1 π A) (ht : CF B M 35 π' E) (hd : Hd B) (hI : Iv A c N T) {n : Nat} (hT : 4 * (T + n) < 2 ^ 30) {x : Int32} (hx : x = nI n) {P : Int32 → Mem → Prop} (hp : ∀ M' π'' E', CF B M' 35 π'' E' → P (bst A n 3).1 M') : wp_X6_bestNumberOfReheats 283 M 0 x P := by
  have hc := hI.1.1.2.1
  -- one trial
  have one : ∀ (M1 : Mem) (π1 : Nat → Nat) (E1 : Ab) (b m s : Int32) (r f : Nat), r ≤ 3 → CF B M1 35 π1 E1 → (∀ M2 π2 E2, CF B M2 35 π2 E2 → (m < mkV A n r → wpL_X6_bestNumberOfReheats_10 283 P f M2 0 x (nI r) (mkV A n r) (scV A n r) (nI (r + 1))) ∧ (¬ m < mkV A n r → (¬ mkV A n r = m → wpL_X6_bestNumberOfReheats_10 283 P f M2 0 x b m s (nI (r + 1))) ∧ (mkV A n r = m → (s ≤ scV A n r → wpL_X6_bestNumberOfReheats_10 283 P f M2 0 x b m s (nI (r + 1))) ∧ (¬ s ≤ scV A n r → wpL_X6_bestNumberOfReheats_10 283 P f M2 0 x (nI r) (mkV A n r) (scV A n r) (nI (r + 1)))))) → wpL_X6_bestNumberOfReheats_10 283 P (f + 1) M1 0 x b m s (nI r) := fun M1 π1 E1 b m s r f hr ht1 hk => by
    have H := tr_head ht1 hd
    refine ⟨fun q => absurd q (cNgt (x := 3) (n := 3) rfl rfl (by omega) (by omega)), fun _ => ⟨tp6, 35, H.2.1, 1, H.1, tp5b, tr_copy h1 ht1 hI.1.1 fun M2 E2 h2 h3 => ⟨35, (tr_head h2 hd).2.1, tp5b, fun M9 e9 => ?_⟩⟩⟩
    have h9 := h2.uN e9
    have cp := h3.nine (v := nI r) hc
    have hIr := hI.reheats hr
    refine ⟨35, (tr_head h9 hd).2.1, tp5b, x_passMinutes h9 (hIr.copy cp) (by omega) hx fun M11 π11 h11 => ⟨35, (tr_head h11 hd).2.1, tp5b, x_countMade h11 ⟨35, (tr_head h11 hd).2.1, tp5b, x_countScrap h11 ?_⟩⟩⟩
    have cq := cp.cq.many (n := n) hIr (by omega)
    rw [cq.made, cq.scrap]
    have k := hk M11 π11 _ h11
    refine ⟨fun e v hv => ?_, fun e => ⟨fun e1 v hv => ?_, fun e1 => ⟨fun e2 v hv => ?_, fun e2 v hv => ?_⟩⟩⟩
    · rw [hv, nI_1]; exact k.1 e
    · rw [hv, nI_1]; exact (k.2 e).1 e1
    · rw [hv, nI_1]; exact ((k.2 e).2 e1).1 e2
    · rw [hv, nI_1]; exact ((k.2 e).2 e1).2 e2
  have L : ∀ f r (M1 : Mem) (π1 : Nat → Nat) (E1 : Ab), r + f = 3 → CF B M1 35 π1 E1 → wpL_X6_bestNumberOfReheats_10 283 P (f + 1) M1 0 x (bst A n r).1 (bst A n r).2.1 (bst A n r).2.2 (nI (r + 1)) := by
    intro f
    induction f with
    | zero =>
      intro r M1 π1 E1 hr h1
      have : r = 3 := by omega
      subst this
      exact ⟨fun _ => hp M1 π1 E1 h1, fun q => absurd (cGt (x := 3) (n := 3) (i := 4) rfl rfl (by omega) (by omega)) q⟩
    | succ f ih =>
      intro r M1 π1 E1 hr h1
      refine one M1 π1 E1 _ _ _ (r + 1) (f + 1) (by omega) h1 fun M2 π2 E2 h2 => ?_
      have := ih (r + 1) M2 π2 E2 (by omega) h2
      unfold bst at this
      refine ⟨fun e => ?_, fun e => ⟨fun e1 => ?_, fun e1 => ⟨fun e2 => ?_, fun e2 => ?_⟩⟩⟩
      · rw [if_pos (Or.inl e)] at this; exact this
      · rw [if_neg (by rintro (z | z); exact e z; exact e1 z.1)] at this; exact this
      · rw [if_neg (by rintro (z | z); exact e z; exact z.2 e2)] at this; exact this
      · rw [if_pos (Or.inr ⟨e1, e2⟩)] at this; exact this
  refine ⟨5, one M π' E 0 (-1) 0 0 4 (by omega) ht fun M2 π2 E2 h2 => ?_⟩
  have pos : (-1 : Int32) < mkV A n 0 := by
    obtain ⟨a, ea, ha⟩ := made_nat ((hI.reheats (r := 0) (by omega)).many (n := n) (by omega)).2.2.2.2.2.2
    unfold mkV
    rw [ea, Int32.lt_iff_toInt_lt, nI_toInt (by omega), show (-1 : Int32).toInt = -1 from rfl]
    omega
  exact ⟨fun _ => L 3 0 M2 π2 E2 (by omega) h2, fun e => absurd pos e⟩
end BE
