/-! Floats: the share of pieces, and its bits. -/
theorem fl_dec {x : UInt64} {E F : Nat} (hx : x.toNat = E * 4503599627370496 + F) (hF : F < 4503599627370496) (h1 : 1 ≤ E) (h2 : E ≤ 2046) : FP.Core.val64 x = .fin false (4503599627370496 + F) ((E : Int) - 1075) := by
  have e1 : FP.Core.fieldE FP.Core.b64 x.toNat = E := by
    unfold FP.Core.fieldE
    rw [FP.Core.tails_b64, show FP.Core.b64.exps = 2048 by decide, hx]
    omega
  have e2 : FP.Core.fieldT FP.Core.b64 x.toNat = F := by
    unfold FP.Core.fieldT
    rw [FP.Core.tails_b64, hx]
    omega
  have e3 : FP.Core.fieldS FP.Core.b64 x.toNat = false := by
    unfold FP.Core.fieldS
    rw [FP.Core.tails_b64, show FP.Core.b64.exps = 2048 by decide, hx]
    have : (E * 4503599627370496 + F) / 2 ^ 52 / 2048 % 2 = 0 := by omega
    rw [this]; rfl
  unfold FP.Core.val64 FP.Core.decode
  rw [e1, e2, e3, show FP.Core.b64.exps = 2048 by decide, if_neg (by omega), if_neg (by omega), FP.Core.tails_b64, FP.Core.qmin_b64]
  congr 1
  omega
theorem fl_nn {x : UInt64} : FP.Core.val64 x ≠ .nan ↔ x &&& 0x7fffffffffffffff ≤ 0x7ff0000000000000 := by
  rw [FP.Core.ne_nan, UInt64.le_iff_toNat_le, FP.Core.mask_toNat]
  rfl
/-- twice -/
theorem fl_two {x : UInt64} {E F : Nat} (hx : x.toNat = E * 4503599627370496 + F) (hF : F < 4503599627370496) (h1 : 1 ≤ E) (h2 : E ≤ 2045) : (FP.dmul x 4611686018427387904).toNat = (E + 1) * 4503599627370496 + F := by
  have hy : (UInt64.ofNat ((E + 1) * 4503599627370496 + F)).toNat = (E + 1) * 4503599627370496 + F := by
    rw [UInt64.toNat_ofNat']
    omega
  have d := fl_dec hx hF h1 (by omega)
  have dy := fl_dec hy hF (by omega) (by omega)
  have d2 := fl_dec (x := 4611686018427387904) (E := 1024) (F := 0) (by decide) (by omega) (by omega) (by omega)
  have e : FP.Core.val64 (FP.dmul x 4611686018427387904) = FP.Core.val64 (UInt64.ofNat ((E + 1) * 4503599627370496 + F)) := by
    rw [FP.dmul_core, FP.Core.val64_dmul, d, d2, dy]
    refine FP.Core.roundRatio_exact FP.Core.good_b64 (by decide) ?_ ?_
    · have := FP.Core.val64_fits (UInt64.ofNat ((E + 1) * 4503599627370496 + F))
      rw [dy] at this
      exact this
    · rw [show ((E : Int) - 1075 + (((1024 : Nat) : Int) - 1075) - (((E + 1 : Nat) : Int) - 1075)).toNat = 0 by omega, show ((((E + 1 : Nat) : Int) - 1075) - ((E : Int) - 1075 + (((1024 : Nat) : Int) - 1075))).toNat = 52 by omega]
      omega
  have := FP.Core.val64_inj (by rw [e, dy]; intro z; cases z) e
  rw [this, hy]
/-- at least one -/
theorem fl_cmp {x : UInt64} {E F : Nat} (hx : x.toNat = E * 4503599627370496 + F) (hF : F < 4503599627370496) (h1 : 1 ≤ E) (h2 : E ≤ 2046) : (0 ≤ (Op.cmpValue (FP.dcmp x (FP.dconst1)) .g) ↔ 1023 ≤ E) := by
  have n1 : FP.Core.val64 x ≠ .nan := by rw [fl_dec hx hF h1 h2]; intro z; cases z
  have n2 : FP.Core.val64 FP.Core.dconst1 ≠ .nan := by rw [FP.Core.val64_dconst1]; intro z; cases z
  have k1 : FP.Core.dkey x = (x.toNat : Int) := by
    unfold FP.Core.dkey
    rw [if_neg (by omega)]
  have k2 : FP.Core.dkey FP.Core.dconst1 = 4607182418800017408 := by decide
  have hk := FP.Core.dcmp_lt_key n1 n2
  rw [k1, k2, hx] at hk
  rw [FP.dcmp_core, FP.dconst1_core]
  cases e : FP.Core.dcmp x FP.Core.dconst1 with
  | none => exact absurd (FP.Core.dcmp_key n1 n2) (by rw [e]; intro z; cases z)
  | some o =>
    rw [e] at hk
    cases o with
    | lt =>
      have := hk.mp rfl
      constructor
      · intro w; exact absurd w (by decide)
      · intro w; omega
    | eq =>
      constructor
      · intro w
        have : ¬ ((E * 4503599627370496 + F : Nat) : Int) < 4607182418800017408 := fun z => by have := hk.mpr z; cases this
        omega
      · intro w; decide
    | gt =>
      constructor
      · intro w
        have : ¬ ((E * 4503599627370496 + F : Nat) : Int) < 4607182418800017408 := fun z => by have := hk.mpr z; cases this
        omega
      · intro w; decide
/-- more than zero -/
theorem fl_pos {x : UInt64} {E F : Nat} (hx : x.toNat = E * 4503599627370496 + F) (hF : F < 4503599627370496) (h1 : 1 ≤ E) (h2 : E ≤ 2046) : 0 < (Op.cmpValue (FP.dcmp x (FP.dconst0)) .g) := by
  have n1 : FP.Core.val64 x ≠ .nan := by rw [fl_dec hx hF h1 h2]; intro z; cases z
  have n2 : FP.Core.val64 FP.Core.dconst0 ≠ .nan := by rw [FP.Core.val64_dconst0]; intro z; cases z
  have k1 : FP.Core.dkey x = (x.toNat : Int) := by
    unfold FP.Core.dkey
    rw [if_neg (by omega)]
  have k2 : FP.Core.dkey FP.Core.dconst0 = 0 := by decide
  have hk := FP.Core.dcmp_gt_key n1 n2
  rw [k1, k2, hx] at hk
  rw [FP.dcmp_core, FP.dconst0_core, hk.mpr (by omega)]
  decide
theorem fl_wh {s1 : Bool} {c' F K : Nat} {q' : Int} (hq : -((K + 52 : Nat) : Int) ≤ q') (key : FP.Core.signed s1 (c' * 2 ^ (q' + ((K + 52 : Nat) : Int)).toNat) = ((F * 2 ^ K : Nat) : Int)) : FP.Core.signed s1 (c' * 4503599627370496 * 2 ^ q'.toNat) = (F : Int) * ((2 ^ (-q').toNat : Nat) : Int) := by
  have hp : ((2 ^ K : Nat) : Int) ≠ 0 := by
    have := Nat.two_pow_pos K
    omega
  have e52 : (4503599627370496 : Nat) = 2 ^ 52 := by decide
  by_cases hn : 0 ≤ q'
  · obtain ⟨m, rfl⟩ : ∃ m : Nat, q' = m := ⟨q'.toNat, by omega⟩
    rw [show ((m : Int) + ((K + 52 : Nat) : Int)).toNat = m + K + 52 by omega, Nat.pow_add, Nat.pow_add, show c' * (2 ^ m * 2 ^ K * 2 ^ 52) = (c' * 2 ^ 52 * 2 ^ m) * 2 ^ K by simp only [Nat.mul_assoc, Nat.mul_comm, Nat.mul_left_comm], FP.Core.signed_mul] at key
    rw [show ((m : Int)).toNat = m by omega, show (-(m : Int)).toNat = 0 by omega, Nat.pow_zero, e52]
    rw [Int.natCast_mul] at key
    have := Int.eq_of_mul_eq_mul_right hp key
    rw [this]
    exact (Int.mul_one _).symm
  · obtain ⟨m, rfl⟩ : ∃ m : Nat, q' = -(m : Int) := ⟨(-q').toNat, by omega⟩
    rw [show (-(m : Int)).toNat = 0 by omega, show (-(-(m : Int))).toNat = m by omega, Nat.pow_zero, Nat.mul_one]
    have hm : m ≤ K + 52 := by omega
    have k2 : FP.Core.signed s1 (c' * 2 ^ (52 + K)) = ((F * 2 ^ m * 2 ^ K : Nat) : Int) := by
      have : c' * 2 ^ (52 + K) = c' * 2 ^ (-(m : Int) + ((K + 52 : Nat) : Int)).toNat * 2 ^ m := by
        rw [Nat.mul_assoc, ← Nat.pow_add, show (-(m : Int) + ((K + 52 : Nat) : Int)).toNat + m = 52 + K by omega]
      rw [this, FP.Core.signed_mul, key, ← Int.natCast_mul]
      congr 1
      simp only [Nat.mul_assoc, Nat.mul_comm, Nat.mul_left_comm]
    rw [Nat.pow_add, ← Nat.mul_assoc, FP.Core.signed_mul, Int.natCast_mul] at k2
    have := Int.eq_of_mul_eq_mul_right hp k2
    rw [e52, this, Int.natCast_mul]
/-- the rest behind the point -/
theorem fl_rest {x : UInt64} {F : Nat} (hx : x.toNat = 1023 * 4503599627370496 + F) (hF : F < 4503599627370496) : FP.Core.val64 (FP.dsub x FP.dconst1) ≠ .nan ∧ FP.Core.val64 (FP.dmul (FP.dsub x FP.dconst1) 4841369599423283200) ≠ .nan ∧ FP.d2l (FP.dmul (FP.dsub x FP.dconst1) 4841369599423283200) = Int64.ofNat F := by
  have d := fl_dec hx hF (by omega) (by omega)
  have d52 := fl_dec (x := 4841369599423283200) (E := 1075) (F := 0) (by decide) (by omega) (by omega) (by omega)
  obtain ⟨s1, c', q', hr, hu⟩ : ∃ s1 c' q', FP.Core.val64 (FP.dsub x FP.dconst1) = .fin s1 c' q' ∧ FP.Core.signed s1 (FP.Core.inUnits c' q' FP.Core.b64.qmin) = FP.Core.inUnits F (-52) FP.Core.b64.qmin := by
    have e : FP.Core.val64 (FP.dsub x FP.dconst1) = FP.Core.round FP.Core.b64 (FP.Core.exactSum (.fin false (4503599627370496 + F) (-52)) (.fin true 4503599627370496 (-52))) := by
      rw [FP.dsub_core, FP.dconst1_core, FP.Core.val64_dsub, d, FP.Core.val64_dconst1]
      rfl
    have es : FP.Core.exactSum (.fin false (4503599627370496 + F) (-52)) (.fin true 4503599627370496 (-52)) = .fin false F (-52) := by
      have eu : FP.Core.sumUnits false (4503599627370496 + F) (-52) true 4503599627370496 (-52) (min (-52) (-52)) = (F : Int) := by
        unfold FP.Core.sumUnits FP.Core.signed FP.Core.inUnits
        rw [show ((-52 : Int) - min (-52) (-52)).toNat = 0 by decide]
        simp
        omega
      show FP.Core.Datum.fin (FP.Core.sumSign false true (FP.Core.sumUnits false (4503599627370496 + F) (-52) true 4503599627370496 (-52) (min (-52) (-52)))) (FP.Core.sumUnits false (4503599627370496 + F) (-52) true 4503599627370496 (-52) (min (-52) (-52))).natAbs (min (-52) (-52)) = _
      rw [eu]
      unfold FP.Core.sumSign
      by_cases z : F = 0
      · subst z; rfl
      · rw [if_neg (by omega), decide_eq_false (by omega)]
        rfl
    rw [es] at e
    obtain ⟨c', q', h1, h2⟩ := FP.Core.round_exact FP.Core.good_b64 false (c := F) (q := -52) (by show F < 9007199254740992; omega) (by decide) (by decide)
    exact ⟨false, c', q', e.trans h1, by rw [h2]; rfl⟩
  have hfit := FP.Core.val64_fits (FP.dsub x FP.dconst1)
  rw [hr] at hfit
  have hq : (-1074 : Int) ≤ q' := by have := hfit.2.1; rw [FP.Core.qmin_b64] at this; exact this
  rw [FP.Core.qmin_b64] at hu
  unfold FP.Core.inUnits at hu
  rw [show ((-52 : Int) - -1074).toNat = 1022 by decide] at hu
  have hw : FP.Core.Whole (F : Int) (FP.Core.exactProduct (.fin s1 c' q') (.fin false 4503599627370496 0)) := by
    show FP.Core.signed (s1 != false) (c' * 4503599627370496 * 2 ^ (q' + 0).toNat) = (F : Int) * ((2 ^ (-(q' + 0)).toNat : Nat) : Int)
    rw [show (s1 != false) = s1 by cases s1 <;> rfl, Int.add_zero]
    exact fl_wh (K := 1022) hq hu
  have e2 : FP.Core.val64 (FP.dmul (FP.dsub x FP.dconst1) 4841369599423283200) = FP.Core.round FP.Core.b64 (FP.Core.exactProduct (.fin s1 c' q') (.fin false 4503599627370496 0)) := by
    rw [FP.dmul_core, FP.Core.val64_dmul, hr, d52]
    rfl
  have hw2 : FP.Core.DInt (F : Int) (FP.dmul (FP.dsub x FP.dconst1) 4841369599423283200) := by
    unfold FP.Core.DInt
    rw [e2]
    exact FP.Core.whole_round FP.Core.good_b64 FP.Core.wide_b64 (by show (F : Int).natAbs ≤ 9007199254740992; omega) hw
  refine ⟨(by rw [hr]; intro z; cases z), FP.Core.DInt_ne_nan hw2, ?_⟩
  have ei : (Int64.ofNat F).toInt = (F : Int) := by
    rw [Int64.toInt_ofNat', show Int64.size = 18446744073709551616 from rfl]
    apply Int.bmod_eq_of_le <;> omega
  rw [FP.d2l_core]
  exact FP.Core.d2l_int (by rw [ei]; exact hw2)

theorem fl_whole {a : Nat} {s : Bool} {c : Nat} {q : Int} (ha : 0 < a) (ha2 : a < 2147483648) (h : FP.Core.Whole (a : Int) (.fin s c q)) (hf : FP.Core.fits FP.Core.b64 (.fin s c q)) : s = false ∧ c = a * 2 ^ (-q).toNat ∧ q ≤ 0 ∧ 0 < c := by
  have hs := FP.Core.whole_sign h (by omega)
  rw [decide_eq_false (by omega)] at hs
  have hn := FP.Core.whole_natAbs h
  rw [Int.natAbs_natCast] at hn
  have hq : q ≤ 0 := by
    rcases hf.2.2.2 with w | w
    · rw [w, FP.Core.qmin_b64]; decide
    · rw [FP.Core.tails_b64] at w
      by_cases z : q ≤ 0
      · exact z
      · rw [show (-q).toNat = 0 by omega] at hn
        have := Nat.two_pow_pos q.toNat
        have := Nat.le_mul_of_pos_right c this
        omega
  rw [show q.toNat = 0 by omega, Nat.pow_zero, Nat.mul_one] at hn
  refine ⟨hs, hn, hq, ?_⟩
  rw [hn]
  exact Nat.mul_pos ha (Nat.two_pow_pos _)
theorem fl_share {a b : Nat} (ha : 0 < a) (hab : a ≤ b) (hb : b < 2147483648) : ∃ E F, (FP.ddiv (FP.i2d (Int32.ofNat a)) (FP.i2d (Int32.ofNat b))).toNat = E * 4503599627370496 + F ∧ F < 4503599627370496 ∧ 1 ≤ E ∧ E ≤ 1023 := by
  have ti : ∀ n : Nat, n < 2147483648 → (Int32.ofNat n).toInt = (n : Int) := fun n hn => by
    rw [Int32.toInt_ofNat', show Int32.size = 4294967296 from rfl]
    apply Int.bmod_eq_of_le <;> omega
  obtain ⟨s, c, q, ea⟩ := FP.Core.i2d_fin (Int32.ofNat a)
  obtain ⟨t, d, r, eb⟩ := FP.Core.i2d_fin (Int32.ofNat b)
  have wa := FP.Core.i2d_int (Int32.ofNat a)
  have wb := FP.Core.i2d_int (Int32.ofNat b)
  have fa := FP.Core.val64_fits (FP.Core.i2d (Int32.ofNat a))
  have fb := FP.Core.val64_fits (FP.Core.i2d (Int32.ofNat b))
  unfold FP.Core.DInt at wa wb
  rw [ti a (by omega), ea] at wa
  rw [ti b (by omega), eb] at wb
  rw [ea] at fa
  rw [eb] at fb
  obtain ⟨rfl, ec, hq, _⟩ := fl_whole ha (by omega) wa fa
  obtain ⟨rfl, ed, hr, hd⟩ := fl_whole (by omega) (by omega) wb fb
  have e : FP.Core.val64 (FP.ddiv (FP.i2d (Int32.ofNat a)) (FP.i2d (Int32.ofNat b))) = FP.Core.roundRatio FP.Core.b64 false a b 0 := by
    rw [FP.ddiv_core, FP.i2d_core, FP.Core.val64_ddiv, ea, eb]
    show (if d = 0 then _ else FP.Core.roundRatio FP.Core.b64 (false != false) c d (q - r)) = _
    rw [if_neg (by omega)]
    refine FP.Core.roundRatio_congr hd (by omega) ?_
    obtain ⟨Q, rfl⟩ : ∃ Q : Nat, q = -(Q : Int) := ⟨(-q).toNat, by omega⟩
    obtain ⟨R, rfl⟩ : ∃ R : Nat, r = -(R : Int) := ⟨(-r).toNat, by omega⟩
    rw [show (-(-(Q : Int))).toNat = Q by omega] at ec
    rw [show (-(-(R : Int))).toNat = R by omega] at ed
    rw [ec, ed, show (-(Q : Int) - -(R : Int) - 0).toNat = R - Q by omega, show (0 - (-(Q : Int) - -(R : Int))).toNat = Q - R by omega]
    have k : (2 : Nat) ^ Q * 2 ^ (R - Q) = 2 ^ R * 2 ^ (Q - R) := by
      rw [← Nat.pow_add, ← Nat.pow_add]
      congr 1
      omega
    calc a * 2 ^ Q * b * 2 ^ (R - Q) = a * b * (2 ^ Q * 2 ^ (R - Q)) := by simp only [Nat.mul_assoc, Nat.mul_comm, Nat.mul_left_comm]
      _ = a * b * (2 ^ R * 2 ^ (Q - R)) := by rw [k]
      _ = a * (b * 2 ^ R) * 2 ^ (Q - R) := by simp only [Nat.mul_assoc, Nat.mul_comm, Nat.mul_left_comm]
  have nn : FP.Core.val64 (FP.ddiv (FP.i2d (Int32.ofNat a)) (FP.i2d (Int32.ofNat b))) ≠ .nan := by rw [e]; exact FP.Core.roundRatio_ne_nan _ _ _ _ _
  have sg := FP.Core.sgn_bits nn
  rw [e, FP.Core.sgn_roundRatio] at sg
  have hs : ¬ 2 ^ 63 ≤ (FP.ddiv (FP.i2d (Int32.ofNat a)) (FP.i2d (Int32.ofNat b))).toNat := of_decide_eq_false sg.symm
  generalize FP.ddiv (FP.i2d (Int32.ofNat a)) (FP.i2d (Int32.ofNat b)) = x at e hs
  have iu : FP.Core.inUnits a 0 FP.Core.b64.qmin = a * 2 ^ 1074 := by
    unfold FP.Core.inUnits
    rw [FP.Core.qmin_b64, show ((0 : Int) - -1074).toNat = 1074 by decide]
  have up := FP.Core.mag_le FP.Core.good_b64 (n := x.toNat) (m := 1023 * FP.Core.b64.tails) (e0 := FP.Core.b64.qmin) e (by omega) (Int.le_refl _) (by rw [FP.Core.qmin_b64]; decide) (by
    rw [FP.Core.unitsOf_start (by omega), iu, FP.Core.tails_b64, Int.sub_self, show (0 : Int).toNat = 0 from rfl, Nat.pow_zero, Nat.mul_one, ← Nat.pow_add, Nat.mul_comm]
    exact Nat.mul_le_mul_left _ hab)
  have lo := FP.Core.mag_ge FP.Core.good_b64 (n := x.toNat) (m := 1 * FP.Core.b64.tails) (e0 := FP.Core.b64.qmin) e (by omega) (Int.le_refl _) (by rw [FP.Core.qmin_b64]; decide) (by decide) (by
    rw [FP.Core.unitsOf_start (by omega), iu, FP.Core.tails_b64, Int.sub_self, show (0 : Int).toNat = 0 from rfl, Nat.pow_zero, Nat.mul_one]
    calc 2 ^ 52 * 2 ^ (1 - 1) * b ≤ 2 ^ 52 * 2 ^ (1 - 1) * 2147483648 := Nat.mul_le_mul_left _ (by omega)
      _ = 2 ^ 83 := by decide
      _ ≤ 2 ^ 1074 := Nat.pow_le_pow_right (by omega) (by omega)
      _ = 1 * 2 ^ 1074 := (Nat.one_mul _).symm
      _ ≤ a * 2 ^ 1074 := Nat.mul_le_mul_right _ ha)
  rw [FP.Core.mag_toNat64, FP.Core.tails_b64] at up lo
  have h63 : x.toNat % 2 ^ 63 = x.toNat := Nat.mod_eq_of_lt (by omega)
  rw [h63] at up lo
  refine ⟨x.toNat / 4503599627370496, x.toNat % 4503599627370496, ?_, ?_, ?_, ?_⟩ <;> omega
theorem fl_none {b : Nat} (h0 : 0 < b) (hb : b < 2147483648) : FP.ddiv (FP.i2d 0) (FP.i2d (Int32.ofNat b)) = FP.dconst0 := by
  have ti : ∀ n : Nat, n < 2147483648 → (Int32.ofNat n).toInt = (n : Int) := fun n hn => by
    rw [Int32.toInt_ofNat', show Int32.size = 4294967296 from rfl]
    apply Int.bmod_eq_of_le <;> omega
  obtain ⟨t, d, r, eb⟩ := FP.Core.i2d_fin (Int32.ofNat b)
  have wb := FP.Core.i2d_int (Int32.ofNat b)
  have fb := FP.Core.val64_fits (FP.Core.i2d (Int32.ofNat b))
  unfold FP.Core.DInt at wb
  rw [ti b (by omega), eb] at wb
  rw [eb] at fb
  obtain ⟨rfl, ed, hr, hd⟩ := fl_whole (by omega) (by omega) wb fb
  refine FP.Core.val64_inj ?_ ?_
  · rw [FP.ddiv_core, FP.i2d_core, FP.Core.val64_ddiv, eb, show FP.Core.i2d 0 = FP.Core.dconst0 by decide, FP.Core.val64_dconst0]
    show (if d = 0 then _ else FP.Core.roundRatio FP.Core.b64 (false != false) 0 d _) ≠ _
    rw [if_neg (by omega)]
    exact FP.Core.roundRatio_ne_nan _ _ _ _ _
  · rw [FP.ddiv_core, FP.i2d_core, FP.Core.val64_ddiv, eb, show FP.Core.i2d 0 = FP.Core.dconst0 by decide, FP.Core.val64_dconst0, FP.dconst0_core, FP.Core.val64_dconst0]
    show (if d = 0 then _ else FP.Core.roundRatio FP.Core.b64 (false != false) 0 d _) = _
    rw [if_neg (by omega)]
    rfl
theorem fl_shl : ∀ e, e < 1024 → Int64.ofNat e <<< ((52 : Int32).toInt64 &&& 63) = Int64.ofNat (e * 4503599627370496) := by decide +kernel
theorem fl_long {x : UInt64} : x.toInt64 = Int64.ofNat x.toNat := by
  show x.toInt64 = (UInt64.ofNat x.toNat).toInt64
  rw [UInt64.ofNat_toNat]
theorem fl_add {a b : Nat} : Int64.ofNat a + Int64.ofNat b = Int64.ofNat (a + b) := (Int64.ofNat_add a b).symm
theorem fl_pred {a : Nat} : Int64.ofNat (a + 1) - 1 = Int64.ofNat a := by
  rw [Int64.ofNat_add]
  show Int64.ofNat a + 1 - 1 = _
  rw [Int64.add_sub_cancel]
theorem fl_1023 : (1023 : Int64) = Int64.ofNat 1023 := rfl
def shareV (A : Ab) : UInt64 := if madeA A + scrapA A = 0 then FP.dconst1 else FP.ddiv (FP.i2d (madeA A)) (FP.i2d (madeA A + scrapA A))
def bitsV (A : Ab) : Int64 := Int64.ofNat (shareV A).toNat
section FLV
variable {B M : Mem} {π : Nat → Nat} {A : Ab} {c N T : Nat} {m : Int32} {ι : Nat → Nat} {σ : Nat → Int32}
theorem share_is (hH : iH A T) (hT : T < 2 ^ 27) : shareV A = FP.dconst0 ∨ ∃ E F, (shareV A).toNat = E * 4503599627370496 + F ∧ F < 4503599627370496 ∧ 1 ≤ E ∧ E ≤ 1023 := by
  obtain ⟨a, ea, ha⟩ := made_nat hH
  obtain ⟨b, eb, hb⟩ := scrap_nat hH
  unfold shareV
  rw [ea, eb, nI_add]
  by_cases z : a + b = 0
  · rw [z, if_pos (show nI 0 = 0 from rfl)]
    exact Or.inr ⟨1023, 0, by decide, by omega, by omega, by omega⟩
  · rw [if_neg (show ¬ nI (a + b) = 0 from fun w => z ((nI_eq (b := 0) (by omega) (by omega)).mp w))]
    by_cases y : a = 0
    · subst y
      exact Or.inl (fl_none (by omega) (by omega))
    · exact Or.inr (fl_share (by omega) (by omega) (by omega))
theorem share_nn (hH : iH A T) (hT : T < 2 ^ 27) : FP.Core.val64 (shareV A) ≠ .nan := by
  rcases share_is hH hT with h | ⟨E, F, h1, h2, h3, h4⟩
  · rw [h, FP.dconst0_core, FP.Core.val64_dconst0]; intro z; cases z
  · rw [fl_dec h1 h2 h3 (by omega)]; intro z; cases z
theorem share_div (hH : iH A T) (hT : T < 2 ^ 27) (h : ¬ madeA A + scrapA A = 0) : vf_n64 (FP.ddiv (FP.i2d (madeA A)) (FP.i2d (madeA A + scrapA A))) := by
  have := share_nn hH hT
  unfold shareV at this
  rw [if_neg h] at this
  exact fl_nn.mp this
theorem x_shareMade (h : CF B M 1 π A) (h0 : M.2.1 0 0 = some 1) (hH : iH A T) (hT : T < 2 ^ 27) {P : UInt64 → Mem → Prop} (hp : P (shareV A) M) : wp_X6_shareMade 283 M 0 P := by
  refine ⟨tp6, 1, h0, tp5a, x_countMade h ⟨1, h0, tp5a, x_countScrap h fun v10 e10 => ⟨fun n => ?_, fun e => ?_⟩⟩⟩
  · rw [e10] at n ⊢
    unfold shareV at hp
    rw [if_neg n] at hp
    exact ⟨share_div hH hT n, hp⟩
  · rw [e10] at e
    unfold shareV at hp
    rw [if_pos e] at hp
    exact hp
theorem sM_uIo {B : Mem} {σ : Nat → Int32} {i k : Nat} {v : Int32} (h : i ≠ 277) : uI (sM B σ) i k v = sM (uI B i k v) σ := by
  unfold uI sM
  refine Prod.ext (funext fun a => funext fun j => ?_) rfl
  show (if a = i ∧ j = k then v else (if a = 277 then σ else B.1 a) j) = (if a = 277 then σ else fun l => if a = i ∧ l = k then v else B.1 a l) j
  by_cases w : a = 277
  · rw [if_neg (fun q => h (q.1.symm.trans w)), if_pos w, if_pos w]
  · rw [if_neg w, if_neg w]
theorem r_saved (hB : RB B) (hR : Rel A c m ι σ) (hH : iH A T) (hT : T < 2 ^ 27) {P : UInt64 → Mem → Prop} (hp : P (shareV A) (sM (uI B 276 0 0) σ)) : wp_X7_saved 283 (sM B σ) 276 P := by
  have e7 := hR.1.2.2.2.2.1
  have e8 := hR.1.2.2.2.2.2.1
  refine ⟨tp7, fun M2 e2 => ?_⟩
  have e3 : M2 = sM (uI B 276 0 0) σ := by rw [e2, sM_uIo (by omega)]
  rw [e3]
  refine ⟨277, hB.1, tp8, by rw [len8]; exact vpI (i := 7) rfl (by omega) (by omega), 277, hB.1, tp8, by rw [len8]; exact vpI (i := 8) rfl (by omega) (by omega), fun v9 e9 => ?_⟩
  have e9' : v9 = madeA A + scrapA A := by
    rw [e9, sM_1]
    show σ 7 + σ 8 = _
    rw [e7, e8]
  subst e9'
  refine ⟨fun n => ⟨277, hB.1, tp8, by rw [len8]; exact vpI (i := 7) rfl (by omega) (by omega), ?_⟩, fun e => ?_⟩
  · rw [sM_1, show σ (7 : Int32).toNatClampNeg = madeA A from e7]
    unfold shareV at hp
    rw [if_neg n] at hp
    exact ⟨share_div hH hT n, hp⟩
  · unfold shareV at hp
    rw [if_pos e] at hp
    exact hp
theorem x_bitsOf (hH : iH A T) (hT : T < 2 ^ 27) {P : Int64 → Mem → Prop} (hp : P (bitsV A) M) : wp_X6_bitsOf 283 M (shareV A) P := by
  rcases share_is hH hT with h | ⟨E, F, h1, h2, h3, h4⟩
  · have e : bitsV A = 0 := by unfold bitsV; rw [h]; rfl
    rw [e] at hp
    rw [h]
    exact ⟨fun w => absurd w (by decide), fun _ => hp⟩
  · refine ⟨fun _ => ⟨1023 - E + 1, ?_⟩, fun w => absurd (fl_pos h1 h2 h3 (by omega)) w⟩
    have e : bitsV A = Int64.ofNat (E * 4503599627370496 + F) := by unfold bitsV; rw [h1]
    rw [e] at hp
    have L : ∀ n (x : UInt64) (G e k : Nat), x.toNat = G * 4503599627370496 + F → G + n = 1023 → e = E + n → k + n = 1023 - E → wpL_X6_bitsOf_18 283 P (n + 1) M x (Int64.ofNat e) (nI k) := by
      intro n
      induction n with
      | zero =>
        intro x G e k hx hg he hk
        have : G = 1023 := by omega
        subst this
        have r := fl_rest hx h2
        have fin : P ((Int64.ofNat e <<< ((52 : Int32).toInt64 &&& 63)) + (FP.d2l (FP.dmul (FP.dsub x (FP.dconst1)) 4841369599423283200))) M := by
          rw [r.2.2, fl_shl e (by omega), fl_add]
          have : e = E := by omega
          rw [this]; exact hp
        exact ⟨fun _ => ⟨fl_nn.mp r.1, fl_nn.mp r.2.1, fin⟩, fun _ => ⟨fun _ => ⟨fl_nn.mp r.1, fl_nn.mp r.2.1, fin⟩, fun w => absurd ((fl_cmp hx h2 (by omega) (by omega)).mpr (by omega)) w⟩⟩
      | succ n ih =>
        intro x G e k hx hg he hk
        have t := fl_two hx h2 (by omega) (by omega)
        refine ⟨fun w => ?_, fun _ => ⟨fun w => ?_, fun _ => ⟨fl_nn.mp ?_, fun v6 e6 v7 e7 v8 e8 => ?_⟩⟩⟩
        · rw [show (1022 : Int32) = nI 1022 from rfl] at w
          have := (nI_leI (by omega) (by omega)).mp w
          omega
        · have := (fl_cmp hx h2 (by omega) (by omega)).mp w
          omega
        · rw [fl_dec t h2 (by omega) (by omega)]; intro z; cases z
        · rw [e7, e8, nI_1, show e = (e - 1) + 1 by omega, fl_pred]
          exact ih v6 (G + 1) (e - 1) (k + 1) (by rw [e6]; exact t) (by omega) (by omega) (by omega)
    exact L (1023 - E) (shareV A) E 1023 0 h1 (by omega) (by omega) (by omega)
theorem r_bits (hH : iH A T) (hT : T < 2 ^ 27) {P : Int64 → Mem → Prop} (hp : P (bitsV A) M) : wp_Jxe99ae_doubleToLongBits_ccdee 283 M (shareV A) P := by
  have nn := share_nn hH hT
  have e : FP.dcmp (shareV A) (shareV A) = some .eq := FP.Core.dcmp_refl ((FP.Core.notNaN_iff _).mpr nn)
  show ((_ = true → _) ∧ (_ = false → _))
  rw [e]
  refine ⟨fun w => absurd w (by decide), fun _ => ?_⟩
  rw [fl_long]; exact hp
end FLV
