/-! The share of pieces lies between 0 and 1. -/
theorem ov_gt {x y : Int} (h : y ≤ x) : ¬ Op.cmpValue (some (compare x y)) .l < 0 := by
  by_cases e : x = y
  · rw [(FP.Core.compare_eq_iff _ _).mpr e]; decide
  · rw [(FP.Core.compare_gt_iff _ _).mpr (by omega)]; decide
theorem ov_lt {x y : Int} (h : x ≤ y) : ¬ 0 < Op.cmpValue (some (compare x y)) .g := by
  by_cases e : x = y
  · rw [(FP.Core.compare_eq_iff _ _).mpr e]; decide
  · rw [(FP.Core.compare_lt_iff _ _).mpr (by omega)]; decide
theorem share_01 {A : Ab} {T : Nat} (hH : iH A T) (hT : T < 2 ^ 27) : ¬ Op.cmpValue (FP.dcmp (shareV A) FP.dconst0) .l < 0 ∧ ¬ 0 < Op.cmpValue (FP.dcmp (shareV A) FP.dconst1) .g := by
  have nn := share_nn hH hT
  have hb : (shareV A).toNat ≤ 4607182418800017408 := by
    rcases share_is hH hT with h | ⟨E, F, h1, h2, h3, h4, h5⟩
    · rw [h]; decide
    · omega
  have k : FP.Core.dkey (shareV A) = ((shareV A).toNat : Int) := by
    unfold FP.Core.dkey
    rw [if_neg (by omega)]
  have k0 : FP.Core.dkey FP.dconst0 = 0 := by decide
  have k1 : FP.Core.dkey FP.dconst1 = 4607182418800017408 := by decide
  have n0 : FP.Core.val64 FP.dconst0 ≠ .nan := by rw [FP.dconst0_core, FP.Core.val64_dconst0]; intro z; cases z
  have n1 : FP.Core.val64 FP.dconst1 ≠ .nan := by rw [FP.dconst1_core, FP.Core.val64_dconst1]; intro z; cases z
  rw [FP.dcmp_core, FP.Core.dcmp_key nn n0, FP.Core.dcmp_key nn n1, k, k0, k1]
  exact ⟨ov_gt (by omega), ov_lt (by omega)⟩
