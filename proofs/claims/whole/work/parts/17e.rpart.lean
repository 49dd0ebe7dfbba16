/-! The text: the reference reads a part, and tells it. -/
def told5 (g : Nat → Int32) (t d h p u z : Nat) : Nat → Int32 := uS (uS (uS (uS (uS g (5 * t) (nI d)) (5 * t + 1) (nI h)) (5 * t + 2) (nI p)) (5 * t + 3) (nI u)) (5 * t + 4) (nI z)
theorem wR_wR_uI {B : Mem} {g r : Nat → Int32} {i : Nat} {v : Int32} : uI (wR (wR B 281 g) 276 r) 281 i v = wR (wR B 281 (uS g i v)) 276 r := by
  unfold uI wR uS
  refine Prod.ext (funext fun x => funext fun k => ?_) rfl
  show (if x = 281 ∧ k = i then v else (if x = 276 then r else if x = 281 then g else B.1 x) k) = (if x = 276 then r else if x = 281 then (fun k => if k = i then v else g k) else B.1 x) k
  by_cases h : x = 281
  · subst h; simp
  · simp [h]
def rowR (r : Nat → Int32) (p : Nat) : Nat → Int32 := uS r 7 (nI p)
def rowD (r : Nat → Int32) (p : Nat) : Nat → Int32 := uS (uS r 7 (nI p)) 8 0
section RPX
variable {B : Mem} {g r : Nat → Int32} {cd : Nat → Nat} {b a t : Nat}
theorem rowR_R {p q : Nat} : uS (rowR r p) 7 (nI q) = rowR r q := by
  funext k
  unfold rowR uS
  split <;> rfl
theorem rowD_D {p : Nat} : uS (rowD r p) 8 (bI false) = rowD r p := uS_same uS_s
theorem r_told (hB : RB B) {s : Nat → Int32} (h10 : s 10 = nI t) (ht : 5 * t + 4 < 96) {d h p u z : Int32} {dn hn pn un zn : Nat} (hd : d = nI dn) (hh : h = nI hn) (hpp : p = nI pn) (hu : u = nI un) (hz : z = nI zn) {P : Mem → Prop} (hp : P (wR (wR B 281 (told5 g t dn hn pn un zn)) 276 (uS s 10 (nI (t + 1))))) : ∃ j18 : Nat, (wR (wR B 281 g) 276 s).2.1 276 9 = some j18 ∧ (m_tp 283 j18 8 ∧ (vp_in (5 * ((wR (wR B 281 g) 276 s).1 276 10)) (m_len j18) ∧ (∀ M21 : Mem, M21 = uI (wR (wR B 281 g) 276 s) j18 (5 * ((wR (wR B 281 g) 276 s).1 276 10)).toNatClampNeg d → (∃ j22 : Nat, M21.2.1 276 9 = some j22 ∧ (m_tp 283 j22 8 ∧ (vp_in ((5 * (M21.1 276 10)) + 1) (m_len j22) ∧ (∀ M25 : Mem, M25 = uI M21 j22 ((5 * (M21.1 276 10)) + 1).toNatClampNeg h → (∃ j26 : Nat, M25.2.1 276 9 = some j26 ∧ (m_tp 283 j26 8 ∧ (vp_in ((5 * (M25.1 276 10)) + 2) (m_len j26) ∧ (∀ M29 : Mem, M29 = uI M25 j26 ((5 * (M25.1 276 10)) + 2).toNatClampNeg p → (∃ j30 : Nat, M29.2.1 276 9 = some j30 ∧ (m_tp 283 j30 8 ∧ (vp_in ((5 * (M29.1 276 10)) + 3) (m_len j30) ∧ (∀ M33 : Mem, M33 = uI M29 j30 ((5 * (M29.1 276 10)) + 3).toNatClampNeg u → (∃ j34 : Nat, M33.2.1 276 9 = some j34 ∧ (m_tp 283 j34 8 ∧ (vp_in ((5 * (M33.1 276 10)) + 4) (m_len j34) ∧ (∀ M37 : Mem, M37 = uI M33 j34 ((5 * (M33.1 276 10)) + 4).toNatClampNeg z → (∀ M38 : Mem, M38 = uI M37 276 10 ((M37.1 276 10) + 1) → (P M38))))))))))))))))))))) := by
  subst hd hh hpp hu hz
  have ix : ∀ (i : Nat) (x : Int32) (g' : Nat → Int32), x = nI i → (5 * ((wR (wR B 281 g') 276 s).1 276 10)) + x = nI (5 * t + i) := fun i x g' hx => by
    rw [wR_1, h10, hx, show (5 : Int32) = nI 5 from rfl, nI_mul, nI_add]
  have ix0 : ∀ (g' : Nat → Int32), 5 * ((wR (wR B 281 g') 276 s).1 276 10) = nI (5 * t) := fun g' => by
    rw [wR_1, h10, show (5 : Int32) = nI 5 from rfl, nI_mul]
  have h9 := hB.2.2.2.2
  refine ⟨281, h9, tp8e, by rw [ix0, len8e]; exact vpI rfl (by omega : 5 * t < 96) (by omega), fun M21 e21 => ?_⟩
  rw [ix0, nI_clamp (by omega), wR_wR_uI] at e21
  subst e21
  refine ⟨281, h9, tp8e, by rw [ix 1 1 _ rfl, len8e]; exact vpI rfl (by omega : 5 * t + 1 < 96) (by omega), fun M21 e21 => ?_⟩
  rw [ix 1 1 _ rfl, nI_clamp (by omega), wR_wR_uI] at e21
  subst e21
  refine ⟨281, h9, tp8e, by rw [ix 2 2 _ rfl, len8e]; exact vpI rfl (by omega : 5 * t + 2 < 96) (by omega), fun M21 e21 => ?_⟩
  rw [ix 2 2 _ rfl, nI_clamp (by omega), wR_wR_uI] at e21
  subst e21
  refine ⟨281, h9, tp8e, by rw [ix 3 3 _ rfl, len8e]; exact vpI rfl (by omega : 5 * t + 3 < 96) (by omega), fun M21 e21 => ?_⟩
  rw [ix 3 3 _ rfl, nI_clamp (by omega), wR_wR_uI] at e21
  subst e21
  refine ⟨281, h9, tp8e, by rw [ix 4 4 _ rfl, len8e]; exact vpI rfl (by omega : 5 * t + 4 < 96) (by omega), fun M21 e21 => ?_⟩
  rw [ix 4 4 _ rfl, nI_clamp (by omega), wR_wR_uI] at e21
  subst e21
  intro M38 e38
  rw [wR_1, wR_uI, h10, nI_1] at e38
  rw [e38]
  exact hp
theorem r_readsPart (hB : RB B) (hq : ∀ i, i < b → B.1 280 i = nI (cd i)) (hc : ∀ i, i < b → 33 ≤ cd i ∧ cd i ≤ 126) (hb : b ≤ 60) (h6 : r 6 = nI b) (h7 : r 7 = nI a) (ha : a ≤ b) (h8 : r 8 = 1) (h10 : r 10 = nI t) (ht : 5 * t + 4 < 96) {P : Mem → Prop} (hf : ∀ a', prt cd b a = (a', none) → P (wR (wR B 281 g) 276 (rowD r a'))) (hk : ∀ a' p d h u z, prt cd b a = (a', some (p, d, h, u, z)) → P (wR (wR B 281 (told5 g t d h p u z)) 276 (uS (rowR r a') 10 (nI (t + 1))))) : wp_X7_readsPart 283 (wR (wR B 281 g) 276 r) 276 P := by
  have hB1 : RB (wR B 281 g) := hB
  have hq1 : ∀ i, i < b → (wR B 281 g).1 280 i = nI (cd i) := fun i hi => by rw [wR_o (by omega)]; exact hq i hi
  have R6 : ∀ p, rowR r p 6 = nI b := fun p => by unfold rowR; rw [uS_o (by omega)]; exact h6
  have R7 : ∀ p, rowR r p 7 = nI p := fun p => uS_s
  have R8 : ∀ p, rowR r p 8 = 1 := fun p => by unfold rowR; rw [uS_o (by omega)]; exact h8
  have R10 : ∀ p, rowR r p 10 = nI t := fun p => by unfold rowR; rw [uS_o (by omega)]; exact h10
  have D6 : ∀ p, rowD r p 6 = nI b := fun p => by unfold rowD; rw [uS_o (by omega), uS_o (by omega)]; exact h6
  have D7 : ∀ p, rowD r p 7 = nI p := fun p => by unfold rowD; rw [uS_o (by omega), uS_s]
  have D8 : ∀ p, rowD r p 8 = 0 := fun p => uS_s
  have RD : ∀ p, uS (rowR r p) 8 (bI false) = rowD r p := fun p => rfl
  have RR : ∀ p, uS (rowR r p) 8 (bI true) = rowR r p := fun p => uS_same (R8 p)
  have DD : ∀ p, uS (rowD r p) 8 (bI false) = rowD r p := fun p => rowD_D
  have start : r = rowR r a := (uS_same h7).symm
  rw [start]
  unfold prt at hf hk
  -- the tails, when it is not well
  have tail2 : ∀ p, p ≤ b → P (wR (wR B 281 g) 276 (rowD r p)) → ∀ Q : Bool → Mem → Prop, wp_X7_takesSign 283 (wR (wR B 281 g) 276 (rowD r p)) 276 33 (fun z17 M16 => (((M16.1 276 8 != 0) = false → P M16) ∧ ((M16.1 276 8 != 0) = true → Q z17 M16))) := fun p _ hP Q => by
    refine r_takes_dead (D8 p) ⟨fun _ => hP, fun e => ?_⟩
    rw [wR_1, D8] at e; exact absurd e (by decide)
  refine ⟨tp7, r_number hB1 hq1 hc hb (lo := 1) (hi := 40) (by omega) (by omega) (R6 a) (R7 a) (by omega) (R8 a) rfl rfl (fun x ex => ?_) (fun ex v => ?_)⟩
  · have hx := num_le ex
    simp only [ex] at hf hk
    rw [rowR_R]
    refine r_sgnTaken hB1 hq1 hc hb (R6 _) (R7 _) (by omega) (R8 _) (n := 100) rfl (by omega) (by omega) (fun l1 l2 => ?_) (fun ln => ?_)
    · intro M6 e6
      rw [if_pos ⟨l1, l2⟩] at hf hk
      rw [rowR_R, wR_uI, RR] at e6
      rw [e6]
      refine r_number hB1 hq1 hc hb (lo := 0) (hi := 4) (by omega) (by omega) (R6 _) (R7 _) (by omega) (R8 _) rfl rfl (fun y ey => ?_) (fun ey v => ?_)
      · have hy := num_le ey
        simp only [ey] at hf hk
        rw [rowR_R]
        refine r_sgnTaken hB1 hq1 hc hb (R6 _) (R7 _) (by omega) (R8 _) (n := 104) rfl (by omega) (by omega) (fun l3 l4 => ?_) (fun ln => ?_)
        · intro M11 e11
          rw [if_pos ⟨l3, l4⟩] at hf hk
          rw [rowR_R, wR_uI, RR] at e11
          rw [e11]
          refine r_number hB1 hq1 hc hb (lo := 0) (hi := 3) (by omega) (by omega) (R6 _) (R7 _) (by omega) (R8 _) rfl rfl (fun w ew => ?_) (fun ew v => ?_)
          · have hw := num_le ew
            simp only [ew] at hf hk
            rw [rowR_R]
            refine r_sgnTaken hB1 hq1 hc hb (R6 _) (R7 _) (by omega) (R8 _) (n := 64) rfl (by omega) (by omega) (fun l5 l6 => ?_) (fun ln => ?_)
            · refine ⟨fun e => absurd e (by decide), fun _ => ?_⟩
              rw [if_pos ⟨l5, l6⟩] at hf hk
              rw [rowR_R]
              refine r_number hB1 hq1 hc hb (lo := 0) (hi := 9999) (by omega) (by omega) (R6 _) (R7 _) (by omega) (R8 _) rfl rfl (fun u eu => ?_) (fun eu v => ?_)
              · have hu := num_le eu
                simp only [eu] at hf hk
                rw [rowR_R]
                refine r_sgnTaken hB1 hq1 hc hb (R6 _) (R7 _) (by omega) (R8 _) (n := 33) rfl (by omega) (by omega) (fun l7 l8 => ?_) (fun ln => ?_)
                · rw [if_pos ⟨l7, l8⟩] at hk
                  rw [rowR_R]
                  refine ⟨fun e => ?_, fun _ => r_told hB (R10 _) ht rfl rfl rfl rfl (zn := 1) rfl (hk _ _ _ _ _ _ rfl)⟩
                  rw [wR_1, R8] at e; exact absurd e (by decide)
                · rw [if_neg ln] at hk
                  refine ⟨fun e => ?_, fun _ => r_told hB (R10 _) ht rfl rfl rfl rfl (zn := 0) rfl (hk _ _ _ _ _ _ rfl)⟩
                  rw [wR_1, R8] at e; exact absurd e (by decide)
              · simp only [eu] at hf
                exact tail2 _ (by omega) (hf _ rfl) _
            · refine ⟨fun _ => ?_, fun e => absurd e (by decide)⟩
              rw [if_neg ln] at hf hk
              refine r_sgnTaken hB1 hq1 hc hb (R6 _) (R7 _) (by omega) (R8 _) (n := 33) rfl (by omega) (by omega) (fun l7 l8 => ?_) (fun ln2 => ?_)
              · rw [if_pos ⟨l7, l8⟩] at hk
                rw [rowR_R]
                refine ⟨fun e => ?_, fun _ => r_told hB (R10 _) ht rfl rfl rfl (un := 9999) rfl (zn := 1) rfl (hk _ _ _ _ _ _ rfl)⟩
                rw [wR_1, R8] at e; exact absurd e (by decide)
              · rw [if_neg ln2] at hk
                refine ⟨fun e => ?_, fun _ => r_told hB (R10 _) ht rfl rfl rfl (un := 9999) rfl (zn := 0) rfl (hk _ _ _ _ _ _ rfl)⟩
                rw [wR_1, R8] at e; exact absurd e (by decide)
          · simp only [ew] at hf
            refine r_takes_dead (D8 _) ⟨fun _ => tail2 _ (by omega) (hf _ rfl) _, fun e => absurd e (by decide)⟩
        · intro M11 e11
          rw [if_neg ln] at hf
          rw [wR_uI, RD] at e11
          rw [e11]
          refine r_number_dead hB1 hq1 hb (D6 _) (D7 _) (by omega) (D8 _) fun v => r_takes_dead (D8 _) ⟨fun _ => tail2 _ (by omega) (hf _ rfl) _, fun e => absurd e (by decide)⟩
      · simp only [ey] at hf
        refine r_takes_dead (D8 _) fun M11 e11 => ?_
        rw [wR_uI, DD] at e11
        rw [e11]
        refine r_number_dead hB1 hq1 hb (D6 _) (D7 _) (by omega) (D8 _) fun v => r_takes_dead (D8 _) ⟨fun _ => tail2 _ (by omega) (hf _ rfl) _, fun e => absurd e (by decide)⟩
    · intro M6 e6
      rw [if_neg ln] at hf
      rw [wR_uI, RD] at e6
      rw [e6]
      refine r_number_dead hB1 hq1 hb (D6 _) (D7 _) (by omega) (D8 _) fun v => r_takes_dead (D8 _) fun M11 e11 => ?_
      rw [wR_uI, DD] at e11
      rw [e11]
      refine r_number_dead hB1 hq1 hb (D6 _) (D7 _) (by omega) (D8 _) fun v => r_takes_dead (D8 _) ⟨fun _ => tail2 _ (by omega) (hf _ rfl) _, fun e => absurd e (by decide)⟩
  · simp only [ex] at hf
    refine r_takes_dead (D8 a) fun M6 e6 => ?_
    rw [wR_uI, DD] at e6
    rw [e6]
    refine r_number_dead hB1 hq1 hb (D6 _) (D7 _) (by omega) (D8 _) fun v => r_takes_dead (D8 _) fun M11 e11 => ?_
    rw [wR_uI, DD] at e11
    rw [e11]
    refine r_number_dead hB1 hq1 hb (D6 _) (D7 _) (by omega) (D8 _) fun v => r_takes_dead (D8 _) ⟨fun _ => tail2 _ (by omega) (hf _ rfl) _, fun e => absurd e (by decide)⟩
end RPX
