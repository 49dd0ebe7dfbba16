/-! Floats: the share of pieces, and its bits. -/
theorem fl_dec {x : UInt64} {E F : Nat} (hx : x.toNat = E * 4503599627370496 + F) (hF : F < 4503599627370496) (h1 : 1 ≤ E) (h2 : E ≤ 2046) : FP.Core.val64 x = .fin false (4503599627370496 + F) ((E : Int) - 1075) := by
  have e1 : FP.Core.fieldE FP.Core.b64 x.toNat = E := by
    unfold FP.Core.fieldE
    rw [FP.Core.tails_b64, show FP.Core.b64.exps = 2048 by decide, hx]
    omega
  have e2 : FP.Core.fieldT FP.Core.b64 x.toNat = F := by
    unfold FP.Core.fieldT
    rw [FP.Core.tails_b64, hx]
    omega
  have e3 : FP.Core.fieldS FP.Core.b64 x.toNat = false := by
    unfold FP.Core.fieldS
    rw [FP.Core.tails_b64, show FP.Core.b64.exps = 2048 by decide, hx]
    have : (E * 4503599627370496 + F) / 2 ^ 52 / 2048 % 2 = 0 := by omega
    rw [this]; rfl
  unfold FP.Core.val64 FP.Core.decode
  rw [e1, e2, e3, show FP.Core.b64.exps = 2048 by decide, if_neg (by omega), if_neg (by omega), FP.Core.tails_b64, FP.Core.qmin_b64]
  congr 1
  omega
theorem fl_nn {x : UInt64} : FP.Core.val64 x ≠ .nan ↔ x &&& 0x7fffffffffffffff ≤ 0x7ff0000000000000 := by
  rw [FP.Core.ne_nan, UInt64.le_iff_toNat_le, FP.Core.mask_toNat]
  rfl
theorem fl_whole {a : Nat} {s : Bool} {c : Nat} {q : Int} (ha : 0 < a) (ha2 : a < 2147483648) (h : FP.Core.Whole (a : Int) (.fin s c q)) (hf : FP.Core.fits FP.Core.b64 (.fin s c q)) : s = false ∧ c = a * 2 ^ (-q).toNat ∧ q ≤ 0 ∧ 0 < c := by
  have hs := FP.Core.whole_sign h (by omega)
  rw [decide_eq_false (by omega)] at hs
  have hn := FP.Core.whole_natAbs h
  rw [Int.natAbs_natCast] at hn
  have hq : q ≤ 0 := by
    rcases hf.2.2.2 with w | w
    · rw [w, FP.Core.qmin_b64]; decide
    · rw [FP.Core.tails_b64] at w
      by_cases z : q ≤ 0
      · exact z
      · rw [show (-q).toNat = 0 by omega] at hn
        have := Nat.two_pow_pos q.toNat
        have := Nat.le_mul_of_pos_right c this
        omega
  rw [show q.toNat = 0 by omega, Nat.pow_zero, Nat.mul_one] at hn
  refine ⟨hs, hn, hq, ?_⟩
  rw [hn]
  exact Nat.mul_pos ha (Nat.two_pow_pos _)
theorem fl_share {a b : Nat} (ha : 0 < a) (hab : a ≤ b) (hb : b < 2147483648) : ∃ E F, (FP.ddiv (FP.i2d (Int32.ofNat a)) (FP.i2d (Int32.ofNat b))).toNat = E * 4503599627370496 + F ∧ F < 4503599627370496 ∧ 1 ≤ E ∧ E ≤ 1023 ∧ E * 4503599627370496 + F ≤ 4607182418800017408 := by
  have ti : ∀ n : Nat, n < 2147483648 → (Int32.ofNat n).toInt = (n : Int) := fun n hn => by
    rw [Int32.toInt_ofNat', show Int32.size = 4294967296 from rfl]
    apply Int.bmod_eq_of_le <;> omega
  obtain ⟨s, c, q, ea⟩ := FP.Core.i2d_fin (Int32.ofNat a)
  obtain ⟨t, d, r, eb⟩ := FP.Core.i2d_fin (Int32.ofNat b)
  have wa := FP.Core.i2d_int (Int32.ofNat a)
  have wb := FP.Core.i2d_int (Int32.ofNat b)
  have fa := FP.Core.val64_fits (FP.Core.i2d (Int32.ofNat a))
  have fb := FP.Core.val64_fits (FP.Core.i2d (Int32.ofNat b))
  unfold FP.Core.DInt at wa wb
  rw [ti a (by omega), ea] at wa
  rw [ti b (by omega), eb] at wb
  rw [ea] at fa
  rw [eb] at fb
  obtain ⟨rfl, ec, hq, _⟩ := fl_whole ha (by omega) wa fa
  obtain ⟨rfl, ed, hr, hd⟩ := fl_whole (by omega) (by omega) wb fb
  have e : FP.Core.val64 (FP.ddiv (FP.i2d (Int32.ofNat a)) (FP.i2d (Int32.ofNat b))) = FP.Core.roundRatio FP.Core.b64 false a b 0 := by
    rw [FP.ddiv_core, FP.i2d_core, FP.Core.val64_ddiv, ea, eb]
    show (if d = 0 then _ else FP.Core.roundRatio FP.Core.b64 (false != false) c d (q - r)) = _
    rw [if_neg (by omega)]
    refine FP.Core.roundRatio_congr hd (by omega) ?_
    obtain ⟨Q, rfl⟩ : ∃ Q : Nat, q = -(Q : Int) := ⟨(-q).toNat, by omega⟩
    obtain ⟨R, rfl⟩ : ∃ R : Nat, r = -(R : Int) := ⟨(-r).toNat, by omega⟩
    rw [show (-(-(Q : Int))).toNat = Q by omega] at ec
    rw [show (-(-(R : Int))).toNat = R by omega] at ed
    rw [ec, ed, show (-(Q : Int) - -(R : Int) - 0).toNat = R - Q by omega, show (0 - (-(Q : Int) - -(R : Int))).toNat = Q - R by omega]
    have k : (2 : Nat) ^ Q * 2 ^ (R - Q) = 2 ^ R * 2 ^ (Q - R) := by
      rw [← Nat.pow_add, ← Nat.pow_add]
      congr 1
      omega
    calc a * 2 ^ Q * b * 2 ^ (R - Q) = a * b * (2 ^ Q * 2 ^ (R - Q)) := by simp only [Nat.mul_assoc, Nat.mul_comm, Nat.mul_left_comm]
      _ = a * b * (2 ^ R * 2 ^ (Q - R)) := by rw [k]
      _ = a * (b * 2 ^ R) * 2 ^ (Q - R) := by simp only [Nat.mul_assoc, Nat.mul_comm, Nat.mul_left_comm]
  have nn : FP.Core.val64 (FP.ddiv (FP.i2d (Int32.ofNat a)) (FP.i2d (Int32.ofNat b))) ≠ .nan := by rw [e]; exact FP.Core.roundRatio_ne_nan _ _ _ _ _
  have sg := FP.Core.sgn_bits nn
  rw [e, FP.Core.sgn_roundRatio] at sg
  have hs : ¬ 2 ^ 63 ≤ (FP.ddiv (FP.i2d (Int32.ofNat a)) (FP.i2d (Int32.ofNat b))).toNat := of_decide_eq_false sg.symm
  generalize FP.ddiv (FP.i2d (Int32.ofNat a)) (FP.i2d (Int32.ofNat b)) = x at e hs
  have iu : FP.Core.inUnits a 0 FP.Core.b64.qmin = a * 2 ^ 1074 := by
    unfold FP.Core.inUnits
    rw [FP.Core.qmin_b64, show ((0 : Int) - -1074).toNat = 1074 by decide]
  have up := FP.Core.mag_le FP.Core.good_b64 (n := x.toNat) (m := 1023 * FP.Core.b64.tails) (e0 := FP.Core.b64.qmin) e (by omega) (Int.le_refl _) (by rw [FP.Core.qmin_b64]; decide) (by
    rw [FP.Core.unitsOf_start (by omega), iu, FP.Core.tails_b64, Int.sub_self, show (0 : Int).toNat = 0 from rfl, Nat.pow_zero, Nat.mul_one, ← Nat.pow_add, Nat.mul_comm]
    exact Nat.mul_le_mul_left _ hab)
  have lo := FP.Core.mag_ge FP.Core.good_b64 (n := x.toNat) (m := 1 * FP.Core.b64.tails) (e0 := FP.Core.b64.qmin) e (by omega) (Int.le_refl _) (by rw [FP.Core.qmin_b64]; decide) (by decide) (by
    rw [FP.Core.unitsOf_start (by omega), iu, FP.Core.tails_b64, Int.sub_self, show (0 : Int).toNat = 0 from rfl, Nat.pow_zero, Nat.mul_one]
    calc 2 ^ 52 * 2 ^ (1 - 1) * b ≤ 2 ^ 52 * 2 ^ (1 - 1) * 2147483648 := Nat.mul_le_mul_left _ (by omega)
      _ = 2 ^ 83 := by decide
      _ ≤ 2 ^ 1074 := Nat.pow_le_pow_right (by omega) (by omega)
      _ = 1 * 2 ^ 1074 := (Nat.one_mul _).symm
      _ ≤ a * 2 ^ 1074 := Nat.mul_le_mul_right _ ha)
  rw [FP.Core.mag_toNat64, FP.Core.tails_b64] at up lo
  have h63 : x.toNat % 2 ^ 63 = x.toNat := Nat.mod_eq_of_lt (by omega)
  rw [h63] at up lo
  refine ⟨x.toNat / 4503599627370496, x.toNat % 4503599627370496, ?_, ?_, ?_, ?_, ?_⟩ <;> omega
theorem fl_none {b : Nat} (h0 : 0 < b) (hb : b < 2147483648) : FP.ddiv (FP.i2d 0) (FP.i2d (Int32.ofNat b)) = FP.dconst0 := by
  have ti : ∀ n : Nat, n < 2147483648 → (Int32.ofNat n).toInt = (n : Int) := fun n hn => by
    rw [Int32.toInt_ofNat', show Int32.size = 4294967296 from rfl]
    apply Int.bmod_eq_of_le <;> omega
  obtain ⟨t, d, r, eb⟩ := FP.Core.i2d_fin (Int32.ofNat b)
  have wb := FP.Core.i2d_int (Int32.ofNat b)
  have fb := FP.Core.val64_fits (FP.Core.i2d (Int32.ofNat b))
  unfold FP.Core.DInt at wb
  rw [ti b (by omega), eb] at wb
  rw [eb] at fb
  obtain ⟨rfl, ed, hr, hd⟩ := fl_whole (by omega) (by omega) wb fb
  refine FP.Core.val64_inj ?_ ?_
  · rw [FP.ddiv_core, FP.i2d_core, FP.Core.val64_ddiv, eb, show FP.Core.i2d 0 = FP.Core.dconst0 by decide, FP.Core.val64_dconst0]
    show (if d = 0 then _ else FP.Core.roundRatio FP.Core.b64 (false != false) 0 d _) ≠ _
    rw [if_neg (by omega)]
    exact FP.Core.roundRatio_ne_nan _ _ _ _ _
  · rw [FP.ddiv_core, FP.i2d_core, FP.Core.val64_ddiv, eb, show FP.Core.i2d 0 = FP.Core.dconst0 by decide, FP.Core.val64_dconst0, FP.dconst0_core, FP.Core.val64_dconst0]
    show (if d = 0 then _ else FP.Core.roundRatio FP.Core.b64 (false != false) 0 d _) = _
    rw [if_neg (by omega)]
    rfl
def shareV (A : Ab) : UInt64 := if madeA A + scrapA A = 0 then FP.dconst1 else FP.ddiv (FP.i2d (madeA A)) (FP.i2d (madeA A + scrapA A))
section FLV
variable {B M : Mem} {π : Nat → Nat} {A : Ab} {c N T : Nat} {m : Int32} {ι : Nat → Nat} {σ : Nat → Int32}
theorem share_is (hH : iH A T) (hT : T < 2 ^ 27) : shareV A = FP.dconst0 ∨ ∃ E F, (shareV A).toNat = E * 4503599627370496 + F ∧ F < 4503599627370496 ∧ 1 ≤ E ∧ E ≤ 1023 ∧ E * 4503599627370496 + F ≤ 4607182418800017408 := by
  obtain ⟨a, ea, ha⟩ := made_nat hH
  obtain ⟨b, eb, hb⟩ := scrap_nat hH
  unfold shareV
  rw [ea, eb, nI_add]
  by_cases z : a + b = 0
  · rw [z, if_pos (show nI 0 = 0 from rfl)]
    exact Or.inr ⟨1023, 0, by decide, by omega, by omega, by omega, by omega⟩
  · rw [if_neg (show ¬ nI (a + b) = 0 from fun w => z ((nI_eq (b := 0) (by omega) (by omega)).mp w))]
    by_cases y : a = 0
    · subst y
      exact Or.inl (fl_none (by omega) (by omega))
    · exact Or.inr (fl_share (by omega) (by omega) (by omega))
theorem share_nn (hH : iH A T) (hT : T < 2 ^ 27) : FP.Core.val64 (shareV A) ≠ .nan := by
  rcases share_is hH hT with h | ⟨E, F, h1, h2, h3, h4, _⟩
  · rw [h, FP.dconst0_core, FP.Core.val64_dconst0]; intro z; cases z
  · rw [fl_dec h1 h2 h3 (by omega)]; intro z; cases z
theorem share_div (hH : iH A T) (hT : T < 2 ^ 27) (h : ¬ madeA A + scrapA A = 0) : vf_n64 (FP.ddiv (FP.i2d (madeA A)) (FP.i2d (madeA A + scrapA A))) := by
  have := share_nn hH hT
  unfold shareV at this
  rw [if_neg h] at this
  exact fl_nn.mp this
theorem x_shareMade (h : CF B M 1 π A) (h0 : M.2.1 0 0 = some 1) (hH : iH A T) (hT : T < 2 ^ 27) {P : UInt64 → Mem → Prop} (hp : P (shareV A) M) : wp_X6_shareMade 278 M 0 P := by
  refine ⟨tp6, 1, h0, tp5a, x_countMade h ⟨1, h0, tp5a, x_countScrap h fun v10 e10 => ⟨fun n => ?_, fun e => ?_⟩⟩⟩
  · rw [e10] at n ⊢
    unfold shareV at hp
    rw [if_neg n] at hp
    exact ⟨share_div hH hT n, hp⟩
  · rw [e10] at e
    unfold shareV at hp
    rw [if_pos e] at hp
    exact hp
end FLV
