/-! The first state: the reference; the law's pure part. -/
def sF (i j : Nat) : Nat → Int32 := fun k => if k = 0 then 150 else if k = 1 then 40 else if k = 2 then 1 else if k = 3 then 5 else if 15 ≤ k ∧ k < 15 + 5 * i ∧ (k - 15) % 5 = 1 then 900 else if 15 ≤ k ∧ k < 15 + 5 * i ∧ (k - 15) % 5 = 2 then 1100 else if 35 ≤ k ∧ k < 35 + 5 * j ∧ (k - 35) % 5 = 0 then 3 else if 35 ≤ k ∧ k < 35 + 5 * j ∧ (k - 35) % 5 = 1 then 60 else 0
theorem sF_0 : uS (uS (uS (uS (fun _ => 0) 0 150) 1 40) 2 1) 3 5 = sF 0 0 := by
  funext k
  unfold uS sF
  repeat' split
  all_goals first | rfl | (exfalso; omega)
theorem sF_h {i : Nat} (hi : i < 4) : uS (uS (sF i 0) (15 + 5 * i + 1) 900) (15 + 5 * i + 2) 1100 = sF (i + 1) 0 := by
  funext k
  unfold uS sF
  repeat' split
  all_goals first | rfl | (exfalso; omega)
theorem sF_d {j : Nat} (hj : j < 5) : uS (uS (sF 4 j) (35 + 5 * j + 0) 3) (35 + 5 * j + 1) 60 = sF 4 (j + 1) := by
  funext k
  unfold uS sF
  repeat' split
  all_goals first | rfl | (exfalso; omega)
theorem x_newRef {M : Mem} {P : Mem → Prop} (hp : ∀ M', (∀ a, a < 276 → M'.1 a = M.1 a ∧ M'.2.1 a = M.2.1 a) → RB M' → M'.1 277 = sF 4 5 → M'.1 276 4 = 0 → M'.1 276 6 = 0 → P M') : wp_X7_init 277 (uN M 276) 276 P := by
  have d8 : m_kd 277 = 8 ∧ m_kd 278 = 8 ∧ m_kd 279 = 8 ∧ m_kd 280 = 8 ∧ m_kd 281 = 8 := by decide
  have t7 : m_kd 276 = 7 := by decide
  refine ⟨by omega, d8.1, len8, fun M1 e1 => ⟨⟨by omega, t7⟩, fun M4 e4 => ⟨by omega, d8.2.1, len8b, fun M5 e5 => ⟨⟨by omega, t7⟩, fun M8 e8 => ⟨by omega, d8.2.2.1, len8c, fun M9 e9 => ⟨⟨by omega, t7⟩, fun M12 e12 => ⟨by omega, d8.2.2.2.1, len8d, fun M13 e13 => ⟨⟨by omega, t7⟩, fun M16 e16 => ⟨by omega, d8.2.2.2.2, len8e, fun M17 e17 => ⟨⟨by omega, t7⟩, fun M20 e20 M21 e21 => ?_⟩⟩⟩⟩⟩⟩⟩⟩⟩⟩
  have g1 : ∀ a, a < 276 → M21.1 a = M.1 a := fun a ha => by
    rw [e21, uI_a (by omega), e20, e17, e16, e13, e12, e9, e8, e5, e4, e1]
    funext f
    show (if a = 281 then 0 else if a = 280 then 0 else if a = 279 then 0 else if a = 278 then 0 else if a = 277 then 0 else if a = 276 then 0 else M.1 a f) = M.1 a f
    rw [if_neg (by omega), if_neg (by omega), if_neg (by omega), if_neg (by omega), if_neg (by omega), if_neg (by omega)]
  have g2 : ∀ a, a < 276 → M21.2.1 a = M.2.1 a := fun a ha => by
    rw [e21]
    show M20.2.1 a = M.2.1 a
    funext f
    rw [e20, uR_o (by omega), e17]
    show (if a = 281 then none else M16.2.1 a f) = M.2.1 a f
    rw [if_neg (by omega), e16, uR_o (by omega), e13]
    show (if a = 280 then none else M12.2.1 a f) = M.2.1 a f
    rw [if_neg (by omega), e12, uR_o (by omega), e9]
    show (if a = 279 then none else M8.2.1 a f) = M.2.1 a f
    rw [if_neg (by omega), e8, uR_o (by omega), e5]
    show (if a = 278 then none else M4.2.1 a f) = M.2.1 a f
    rw [if_neg (by omega), e4, uR_o (by omega), e1]
    show (if a = 277 then none else if a = 276 then none else M.2.1 a f) = M.2.1 a f
    rw [if_neg (by omega), if_neg (by omega)]
  have u281 : ∀ f, M17.2.1 276 f = M16.2.1 276 f := fun f => by
    rw [e17]
    show (if 276 = 281 then none else M16.2.1 276 f) = M16.2.1 276 f
    rw [if_neg (by omega)]
  have u280 : ∀ f, M13.2.1 276 f = M12.2.1 276 f := fun f => by
    rw [e13]
    show (if 276 = 280 then none else M12.2.1 276 f) = M12.2.1 276 f
    rw [if_neg (by omega)]
  have u279 : ∀ f, M9.2.1 276 f = M8.2.1 276 f := fun f => by
    rw [e9]
    show (if 276 = 279 then none else M8.2.1 276 f) = M8.2.1 276 f
    rw [if_neg (by omega)]
  have u278 : ∀ f, M5.2.1 276 f = M4.2.1 276 f := fun f => by
    rw [e5]
    show (if 276 = 278 then none else M4.2.1 276 f) = M4.2.1 276 f
    rw [if_neg (by omega)]
  have hB : RB M21 := by
    have e2 : M21.2.1 = M20.2.1 := by rw [e21]; rfl
    unfold RB
    rw [e2]
    refine ⟨?_, ?_, ?_, ?_, ?_⟩
    · rw [e20, uR_o (by omega), u281, e16, uR_o (by omega), u280, e12, uR_o (by omega), u279, e8, uR_o (by omega), u278, e4]; exact uR_s
    · rw [e20, uR_o (by omega), u281, e16, uR_o (by omega), u280, e12, uR_o (by omega), u279, e8]; exact uR_s
    · rw [e20, uR_o (by omega), u281, e16, uR_o (by omega), u280, e12]; exact uR_s
    · rw [e20, uR_o (by omega), u281, e16]; exact uR_s
    · rw [e20]; exact uR_s
  have z77 : M21.1 277 = fun _ => 0 := by
    rw [e21, uI_a (by omega), e20, e17, e16, e13, e12, e9, e8, e5, e4, e1]
    funext f
    show (if 277 = 281 then 0 else if 277 = 280 then 0 else if 277 = 279 then 0 else if 277 = 278 then 0 else if 277 = 277 then 0 else if 277 = 276 then 0 else M.1 277 f) = 0
    rw [if_neg (by omega), if_neg (by omega), if_neg (by omega), if_neg (by omega), if_pos rfl]
  have z76 : ∀ f, M21.1 276 f = 0 := fun f => by
    by_cases w : f = 0
    · subst w
      rw [e21]; exact uI_s
    · rw [e21, uI_o (by omega), e20, e17, e16, e13, e12, e9, e8, e5, e4, e1]
      show (if 276 = 281 then 0 else if 276 = 280 then 0 else if 276 = 279 then 0 else if 276 = 278 then 0 else if 276 = 277 then 0 else if 276 = 276 then 0 else M.1 276 f) = 0
      rw [if_neg (by omega), if_neg (by omega), if_neg (by omega), if_neg (by omega), if_neg (by omega), if_pos rfl]
  have t8 : m_tp (277 + 5) 277 8 := ⟨by omega, d8.1⟩
  have t7' : m_tp (277 + 5) 276 7 := ⟨by omega, t7⟩
  have LD : ∀ f j, j + f = 5 → wpL_X7_init_130 277 P (f + 1) 5 (sM M21 (sF 4 j)) 276 (nI j) := by
    intro f
    induction f with
    | zero =>
      intro j hj
      have : j = 5 := by omega
      subst this
      refine ⟨fun _ => ⟨rfl, hp _ (fun a ha => ⟨by rw [sM_o (by omega)]; exact g1 a ha, g2 a ha⟩) hB sM_1 (by rw [sM_o (by omega)]; exact z76 4) (by rw [sM_o (by omega)]; exact z76 6)⟩, fun e => absurd (cGe (n := 5) rfl rfl (by omega) (by omega)) e⟩
    | succ f ih =>
      intro j hj
      have ix0 : (35 + 5 * nI j) + 0 = nI (35 + 5 * j + 0) := ix3 (a := 35) (b := 5) rfl (f := 0) rfl
      have ix1 : (35 + 5 * nI j) + 1 = nI (35 + 5 * j + 1) := ix3 (a := 35) (b := 5) rfl (f := 1) rfl
      refine ⟨fun e => absurd e (cLt (n := 5) rfl rfl (by omega) (by omega)), fun _ => ⟨t7', 277, hB.1, t8, by rw [len8]; exact vpI ix0 (by omega) (by omega), fun M42 e42 => ?_⟩⟩
      rw [ix0, nI_clamp (by omega), sM_uI] at e42
      subst e42
      refine ⟨277, hB.1, t8, by rw [len8]; exact vpI ix1 (by omega) (by omega), fun M46 e46 v47 e47 => ?_⟩
      rw [ix1, nI_clamp (by omega), sM_uI, sF_d (by omega)] at e46
      rw [e46, e47, nI_1]
      exact ih (j + 1) (by omega)
  have LH : ∀ f i, i + f = 4 → wpL_X7_init_85 277 P (f + 1) 5 (sM M21 (sF i 0)) 276 (nI i) := by
    intro f
    induction f with
    | zero =>
      intro i hi
      have : i = 4 := by omega
      subst this
      exact ⟨fun _ => ⟨6, LD 5 0 (by omega)⟩, fun e => absurd (cGe (n := 4) rfl rfl (by omega) (by omega)) e⟩
    | succ f ih =>
      intro i hi
      have ix1 : (15 + 5 * nI i) + 1 = nI (15 + 5 * i + 1) := ix3 (a := 15) (b := 5) rfl (f := 1) rfl
      have ix2 : (15 + 5 * nI i) + 2 = nI (15 + 5 * i + 2) := ix3 (a := 15) (b := 5) rfl (f := 2) rfl
      refine ⟨fun e => absurd e (cLt (n := 4) rfl rfl (by omega) (by omega)), fun _ => ⟨t7', 277, hB.1, t8, by rw [len8]; exact vpI ix1 (by omega) (by omega), fun M42 e42 => ?_⟩⟩
      rw [ix1, nI_clamp (by omega), sM_uI] at e42
      subst e42
      refine ⟨277, hB.1, t8, by rw [len8]; exact vpI ix2 (by omega) (by omega), fun M46 e46 v47 e47 => ?_⟩
      rw [ix2, nI_clamp (by omega), sM_uI, sF_h (by omega)] at e46
      rw [e46, e47, nI_1]
      exact ih (i + 1) (by omega)
  have eM : M21 = sM M21 (fun _ => 0) := by
    rw [← z77]; exact sM_self.symm
  refine ⟨277, hB.1, t8, by rw [len8]; exact vpI (i := 0) rfl (by omega) (by omega), fun M25 e25 => ?_⟩
  rw [eM] at e25
  have e25 : M25 = sM M21 (uS (fun _ => 0) 0 150) := by rw [e25]; exact sM_uI
  subst e25
  refine ⟨277, hB.1, t8, by rw [len8]; exact vpI (i := 1) rfl (by omega) (by omega), fun M29 e29 => ?_⟩
  have e29 : M29 = sM M21 (uS (uS (fun _ => 0) 0 150) 1 40) := by rw [e29]; exact sM_uI
  subst e29
  refine ⟨277, hB.1, t8, by rw [len8]; exact vpI (i := 2) rfl (by omega) (by omega), fun M33 e33 => ?_⟩
  have e33 : M33 = sM M21 (uS (uS (uS (fun _ => 0) 0 150) 1 40) 2 1) := by rw [e33]; exact sM_uI
  subst e33
  refine ⟨277, hB.1, t8, by rw [len8]; exact vpI (i := 3) rfl (by omega) (by omega), fun M37 e37 => ⟨5, ?_⟩⟩
  have e37 : M37 = sM M21 (sF 0 0) := by rw [e37, ← sF_0]; exact sM_uI
  rw [e37]
  exact LH 4 0 (by omega)
theorem A0_iv : Iv A0 0 0 0 := by
  have d0 : ∀ d, d < 5 → A0 (7 + d) 0 = 3 ∧ A0 (7 + d) 1 = 60 ∧ A0 (7 + d) 3 = 0 := fun d hd => by
    rw [A0_d (by omega), A0_d (by omega), A0_d (by omega)]
    exact ⟨rfl, rfl, rfl⟩
  have b0 : ∀ p, p < 7 → A0 (24 + p) 0 = -1 ∧ A0 (24 + p) 1 = 0 := fun p hp => by
    rw [A0_b (by omega), A0_b (by omega)]
    exact ⟨rfl, rfl⟩
  have h0 : ∀ h, h < 4 → A0 (2 + h) 0 = 0 ∧ A0 (2 + h) 3 = 0 ∧ A0 (2 + h) 4 = 0 := fun h hh => by
    rw [A0_h (by omega), A0_h (by omega), A0_h (by omega)]
    exact ⟨rfl, rfl, rfl⟩
  refine ⟨⟨⟨rfl, by omega, fun k hk => by omega⟩, fun a b _ hb => by omega, fun k hk => by omega, rfl, by omega, fun k l hk => by omega, fun k hk => by omega⟩, fun k hk => by omega, fun k hk => by omega, ⟨fun p hp => Or.inl (b0 p hp).1, fun p hp => ⟨0, (b0 p hp).2, by omega⟩⟩, ⟨fun d hd => ⟨3, 60, 0, (d0 d hd).1, by omega, by omega, (d0 d hd).2.1, by omega, (d0 d hd).2.2, by omega⟩, fun d e hd he h1 h2 => ?_⟩, ⟨150, 40, 1, 5, rfl, by omega, rfl, by omega, rfl, by omega, rfl, by omega, by omega⟩, fun h hh => ⟨0, 0, 0, (h0 h hh).1, by omega, (h0 h hh).2.1, by omega, (h0 h hh).2.2, by omega⟩⟩
  rw [(d0 d hd).2.2] at h1
  exact absurd h1 (by decide)
theorem A0_rel : Rel A0 0 (A0 0 11) (fun k => k) (sF 4 5) := by
  have g0 : groundA A0 = none := by decide
  refine ⟨⟨fun i hi => ?_, rfl, rfl, rfl, by decide, by decide, fun i hi => ?_⟩, ?_, fun h hh f hf => ?_, fun d hd f hf => ?_, ⟨⟨fun k hk => by omega, fun k l hk => by omega, fun i hi => by omega⟩, fun k hk => by omega, fun k l hk => by omega⟩, fun p hp => ⟨?_, fun hne => ?_⟩⟩
  · rcases (by omega : i = 0 ∨ i = 1 ∨ i = 2 ∨ i = 3) with rfl | rfl | rfl | rfl <;> rfl
  · rcases (by omega : i = 0 ∨ i = 1 ∨ i = 2 ∨ i = 3) with rfl | rfl | rfl | rfl <;> rfl
  · unfold RG
    rw [g0]
    rfl
  · rw [A0_h (by omega)]
    unfold sF
    rw [if_neg (show ¬ 15 + 5 * h + f = 0 by omega), if_neg (show ¬ 15 + 5 * h + f = 1 by omega), if_neg (show ¬ 15 + 5 * h + f = 2 by omega), if_neg (show ¬ 15 + 5 * h + f = 3 by omega)]
    repeat' split
    all_goals first | rfl | (exfalso; omega)
  · rw [A0_d (by omega)]
    unfold sF dF
    rw [if_neg (show ¬ 35 + 5 * d + f = 0 by omega), if_neg (show ¬ 35 + 5 * d + f = 1 by omega), if_neg (show ¬ 35 + 5 * d + f = 2 by omega), if_neg (show ¬ 35 + 5 * d + f = 3 by omega)]
    repeat' split
    all_goals first | rfl | (exfalso; omega)
  · rw [A0_b (by omega)]
    unfold sF
    repeat' split
    all_goals first | rfl | (exfalso; omega)
  · exact absurd (by rw [A0_b (by omega)]; rfl) hne
theorem pure_law (xs : Nat → Int32) {L : Nat} (hL : L ≤ 3072) : ∃ f : Nat, wp_L_law xs L f m_M0 := by
  refine ⟨513, by omega, by decide, fun M1 e1 => ⟨by omega, ?_⟩⟩
  rw [e1]
  refine x_newForge fun M3 hF h4 h5 h6 => ⟨by omega, by decide, fun M5 e5 => ⟨by omega, ?_⟩⟩
  rw [e5]
  refine x_newRef fun M7 eo hB h77 z4 z6 => ⟨by omega, by decide, by decide, fun M9 e9 => ?_⟩
  have o9 : ∀ a, a ≠ 282 → M9.1 a = M7.1 a ∧ M9.2.1 a = M7.2.1 a := fun a ha => by
    rw [e9]
    exact ⟨funext fun f => if_neg ha, funext fun f => if_neg ha⟩
  have e3 : ∀ a, a < 276 → M9.1 a = M3.1 a ∧ M9.2.1 a = M3.2.1 a := fun a ha => ⟨(o9 a (by omega)).1.trans (eo a ha).1, (o9 a (by omega)).2.trans (eo a ha).2⟩
  have c0 : cnt A0 = 0 := A0_iv.cn
  refine law_goes hL 512 0 283 M9 (by omega) (by omega) ⟨A0, fun _ => A0, 0, 0, fun _ => 33, ?_, ?_, ?_⟩
  · obtain ⟨a1, a2, a3, a4, a5, a6, a7⟩ := hF
    have k3 : KC M3 A0 (fun _ => A0) 0 0 (fun _ => 33) := ⟨⟨a1, a2, a3, h4, h5⟩, ⟨_, a4⟩, ⟨_, A0, a5⟩, ⟨fun i => i, fun i hi => ⟨hi, (a6 i hi).1⟩, fun i j _ _ e => e, fun i hi => ⟨_, A0, (a6 i hi).2, fun h => by omega⟩⟩, a7, by omega, h6, by omega, fun i hi => by omega, fun i hi => by omega⟩
    exact k3.fr e3
  · refine ⟨?_, ⟨fun k => k, ?_⟩, ?_, fun i hi => by omega, ?_, fun i hi => by omega⟩
    · unfold RB
      rw [(o9 276 (by omega)).2]; exact hB
    · rw [(o9 277 (by omega)).1, h77, c0]; exact A0_rel
    · rw [(o9 276 (by omega)).1]; exact z4
    · rw [(o9 276 (by omega)).1]; exact z6
  · exact ⟨⟨0, 0, by omega, by omega, by rw [c0]; exact A0_iv⟩, fun i hi => by omega⟩
