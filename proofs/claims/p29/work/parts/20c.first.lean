/-! The first state: the class's object, the reference's object. -/
def FI (M : Mem) (n : Nat) : Prop := M.2.1 0 0 = some 1 ∧ M.2.1 0 1 = some 35 ∧ M.2.1 0 2 = some 69 ∧ CF M M 1 (fun k => k) A0 ∧ CF M M 35 (fun k => k) A0 ∧ (∀ i, i < n → M.2.1 69 i = some (70 + 34 * i) ∧ CF M M (70 + 34 * i) (fun k => k) A0) ∧ M.1 0 3 = 0
section FST
variable {B M M' : Mem} {S k n : Nat}
theorem shM_o {a : Nat} (h : ¬ (S ≤ a ∧ a < S + k)) : (shM B S k).1 a = B.1 a ∧ (shM B S k).2.1 a = B.2.1 a := ⟨funext fun f => if_neg h, funext fun f => if_neg h⟩
theorem shM_cf (hS : isShop S) (e : ∀ a, S ≤ a → a < S + 34 → M.1 a = (shM B S 34).1 a ∧ M.2.1 a = (shM B S 34).2.1 a) : CF M M S (fun k => k) A0 := by
  have rd : ∀ r f t, tg r f = t → t < 34 → M.2.1 (S + r) f = some (S + t) := fun r f t h1 h2 => by
    have := tg_gt (r := r) (f := f)
    rw [(e (S + r) (by omega) (by omega)).2]
    exact shM_rd h1 h2
  refine ⟨hS, ⟨fun k hk => hk, fun k l _ _ e => e⟩, ⟨rd 0 0 1 rfl (by omega), rd 0 1 6 rfl (by omega), rd 0 2 12 rfl (by omega), rd 0 3 23 rfl (by omega), rd 0 4 30 rfl (by omega), rd 0 16 31 rfl (by omega), rd 0 17 32 rfl (by omega), rd 0 18 33 rfl (by omega), fun h hh => ?_, fun d hd => ?_, fun l hl => ?_, fun p hp => ?_⟩, fun r hr f => ?_, FrS.rf⟩
  · rw [Nat.add_assoc]
    refine rd 1 h (2 + h) ?_ (by omega)
    unfold tg
    rw [if_neg (by omega), if_pos (by omega)]
  · rw [Nat.add_assoc]
    refine rd 6 d (7 + d) ?_ (by omega)
    unfold tg
    rw [if_neg (by omega), if_neg (by omega), if_pos (by omega)]
  · rw [Nat.add_assoc]
    refine rd 12 l (13 + l) ?_ (by omega)
    unfold tg
    rw [if_neg (by omega), if_neg (by omega), if_neg (by omega), if_pos (by omega)]
  · rw [Nat.add_assoc]
    refine rd 23 p (24 + p) ?_ (by omega)
    unfold tg
    rw [if_neg (by omega), if_neg (by omega), if_neg (by omega), if_neg (by omega), if_pos (by omega)]
  · have ea : adr S (fun k => k) r = S + r := by
      unfold adr
      split
      · show S + 13 + (r - 13) = S + r
        omega
      · rfl
    rw [ea, (e (S + r) (by omega) (by omega)).1]
    show (if S ≤ S + r ∧ S + r < S + 34 then A0 (S + r - S) f else B.1 (S + r) f) = A0 r f
    rw [if_pos (by omega), show S + r - S = r by omega]
theorem FI.step {i : Nat} (h : FI M i) (hi : i < 6) (hM : M' = uR (shM M (70 + 34 * i) 34) 69 i (some (70 + 34 * i))) : FI M' (i + 1) := by
  obtain ⟨a1, a2, a3, a4, a5, a6, a7⟩ := h
  have eo : ∀ a, a ≠ 69 → ¬ (70 + 34 * i ≤ a ∧ a < 70 + 34 * i + 34) → M'.1 a = M.1 a ∧ M'.2.1 a = M.2.1 a := fun a h69 ha => by
    have so := shM_o (B := M) ha
    rw [hM]
    refine ⟨so.1, ?_⟩
    rw [← so.2]
    funext f
    exact uR_o (by omega)
  have e0 := eo 0 (by omega) (by omega)
  refine ⟨by rw [e0.2]; exact a1, by rw [e0.2]; exact a2, by rw [e0.2]; exact a3, a4.on fun a _ _ => eo a (by omega) (by omega), a5.on fun a _ _ => eo a (by omega) (by omega), fun l hl => ?_, by rw [e0.1]; exact a7⟩
  by_cases w : l = i
  · subst w
    refine ⟨by rw [hM]; exact uR_s, shM_cf (B := M) (Or.inr (Or.inr ⟨l, hi, rfl⟩)) fun a h1 h2 => ?_⟩
    rw [hM]
    exact ⟨rfl, funext fun f => uR_o (by omega)⟩
  · have al := a6 l (by omega)
    refine ⟨?_, al.2.on fun a _ _ => eo a (by omega) (by omega)⟩
    rw [hM, uR_o (by omega), (shM_o (B := M) (by omega)).2]
    exact al.1
theorem x_newForge {P : Mem → Prop} (hp : ∀ M', FI M' 6 → M'.2.1 0 4 = some 274 → M'.2.1 274 0 = some 275 → M'.1 274 1 = 0 → P M') : wp_X6_init 1 (uN M 0) 0 P := by
  have L : ∀ f i (M : Mem), i + f = 6 → FI M i → wpL_X6_init_37 1 P (f + 1) (69 + 34 * i) M 0 (nI i) := by
    intro f
    induction f with
    | zero =>
      intro i M hi hF
      have : i = 6 := by omega
      subst this
      refine ⟨⟨by omega, by decide⟩, 69, hF.2.2.1, ⟨by omega, by decide⟩, fun _ => ⟨by omega, by decide, fun M20 e20 => ⟨by omega, by omega, by decide, by decide, fun M21 e21 => ⟨⟨by omega, by decide⟩, fun M22 e22 => ⟨rfl, ⟨by omega, by decide⟩, fun M25 e25 => ⟨by omega, ?_⟩⟩⟩⟩⟩, fun e => ?_⟩
      · have e2 : ∀ a, a ≠ 274 → a ≠ 275 → M25.1 a = M.1 a := fun a h1 h2 => by
          rw [e25, e22, e21, e20]
          funext f
          show (if a = 275 then 0 else if a = 274 then 0 else M.1 a f) = M.1 a f
          rw [if_neg h2, if_neg h1]
        have e3 : ∀ a, a ≠ 274 → a ≠ 275 → a ≠ 0 → M25.2.1 a = M.2.1 a := fun a h1 h2 h0 => by
          rw [e25, e22, e21, e20]
          funext f
          show (if a = 0 ∧ f = 4 then some 274 else if a = 274 ∧ f = 0 then some 275 else if a = 275 then none else if a = 274 then none else M.2.1 a f) = M.2.1 a f
          rw [if_neg (fun q => h0 q.1), if_neg (fun q => h1 q.1), if_neg h2, if_neg h1]
        have e4 : ∀ f, f ≠ 4 → M25.2.1 0 f = M.2.1 0 f := fun f hf => by
          rw [e25, e22, e21, e20]
          show (if 0 = 0 ∧ f = 4 then some 274 else if 0 = 274 ∧ f = 0 then some 275 else if 0 = 275 then none else if 0 = 274 then none else M.2.1 0 f) = M.2.1 0 f
          rw [if_neg (fun q => hf q.2), if_neg (by omega), if_neg (by omega), if_neg (by omega)]
        obtain ⟨a1, a2, a3, a4, a5, a6, a7⟩ := hF
        refine hp M25 ⟨(e4 0 (by omega)).trans a1, (e4 1 (by omega)).trans a2, (e4 2 (by omega)).trans a3, a4.on fun a _ _ => ⟨e2 a (by omega) (by omega), e3 a (by omega) (by omega) (by omega)⟩, a5.on fun a _ _ => ⟨e2 a (by omega) (by omega), e3 a (by omega) (by omega) (by omega)⟩, fun l hl => ⟨by rw [e3 69 (by omega) (by omega) (by omega)]; exact (a6 l hl).1, (a6 l hl).2.on fun a _ _ => ⟨e2 a (by omega) (by omega), e3 a (by omega) (by omega) (by omega)⟩⟩, by rw [e2 0 (by omega) (by omega)]; exact a7⟩ ?_ ?_ ?_
        · rw [e25]; exact uR_s
        · rw [e25, uR_o (by omega), e22]; exact uR_s
        · rw [e25, e22, e21, e20]
          rfl
      · exact absurd (show nI (m_len 69) ≤ nI 6 from Int32.le_refl _) e
    | succ f ih =>
      intro i M hi hF
      have hS : isShop (1 + (69 + 34 * i)) := Or.inr (Or.inr ⟨i, by omega, by omega⟩)
      refine ⟨⟨by omega, by decide⟩, 69, hF.2.2.1, ⟨by omega, by decide⟩, fun e => ?_, fun _ => ⟨69, hF.2.2.1, by omega, kdN hS (r := 0) (by omega) (by omega) rfl, fun M27 e27 => ⟨by omega, ?_⟩⟩⟩
      · rw [len69] at e
        have := (nI_leI (by omega) (by omega)).mp e
        omega
      · rw [e27]
        refine x_shopNew (S := 1 + (69 + 34 * i)) hS ⟨⟨by omega, by decide⟩, tpN hS (r := 0) rfl (by omega) (by omega) rfl, by rw [len69]; exact vpI (n := 6) rfl (by omega : i < 6) (by omega), fun M34 e34 v35 e35 => ?_⟩
        rw [nI_clamp (by omega), show 1 + (69 + 34 * i) = 70 + 34 * i by omega] at e34
        have key := ih (i + 1) M34 (by omega) (hF.step (by omega) e34)
        rw [e35, nI_1]
        rw [show 69 + 34 * (i + 1) = 69 + 34 * i + 34 by omega] at key
        exact key
  have h1 : isShop 1 := Or.inl rfl
  have h35 : isShop 35 := Or.inr (Or.inl rfl)
  refine ⟨by omega, by decide, fun M1 e1 => ⟨by omega, ?_⟩⟩
  rw [e1]
  refine x_shopNew (S := 1) h1 ⟨⟨by omega, by decide⟩, fun M6 e6 => ⟨by omega, by decide, fun M7 e7 => ⟨by omega, ?_⟩⟩⟩
  rw [e7]
  refine x_shopNew (S := 35) h35 ⟨⟨by omega, by decide⟩, fun M12 e12 => ⟨by omega, by decide, by decide, fun M13 e13 => ⟨⟨by omega, by decide⟩, fun M16 e16 => ⟨7, ?_⟩⟩⟩⟩
  refine L 6 0 M16 (by omega) ?_
  have o6 : ∀ a, a ≠ 0 → M6.1 a = (shM (uN M 0) 1 34).1 a ∧ M6.2.1 a = (shM (uN M 0) 1 34).2.1 a := fun a ha => by
    rw [e6]
    exact ⟨rfl, funext fun f => uR_o (by omega)⟩
  have o12 : ∀ a, a ≠ 0 → M12.1 a = (shM M6 35 34).1 a ∧ M12.2.1 a = (shM M6 35 34).2.1 a := fun a ha => by
    rw [e12]
    exact ⟨rfl, funext fun f => uR_o (by omega)⟩
  have o16 : ∀ a, a ≠ 0 → a ≠ 69 → M16.1 a = M12.1 a ∧ M16.2.1 a = M12.2.1 a := fun a ha h69 => by
    rw [e16, e13]
    refine ⟨funext fun f => ?_, funext fun f => ?_⟩
    · show (if a = 69 then 0 else M12.1 a f) = _
      rw [if_neg h69]
    · show (if a = 0 ∧ f = 2 then some 69 else if a = 69 then none else M12.2.1 a f) = _
      rw [if_neg (fun q => ha q.1), if_neg h69]
  have c1 : CF M16 M16 1 (fun k => k) A0 := shM_cf (B := uN M 0) h1 fun a q1 q2 => by
    have r16 := o16 a (by omega) (by omega)
    have r12 := o12 a (by omega)
    have rs := shM_o (B := M6) (S := 35) (k := 34) (a := a) (by omega)
    have r6 := o6 a (by omega)
    exact ⟨r16.1.trans (r12.1.trans (rs.1.trans r6.1)), r16.2.trans (r12.2.trans (rs.2.trans r6.2))⟩
  have c35 : CF M16 M16 35 (fun k => k) A0 := shM_cf (B := M6) h35 fun a q1 q2 => by
    have r16 := o16 a (by omega) (by omega)
    have r12 := o12 a (by omega)
    exact ⟨r16.1.trans r12.1, r16.2.trans r12.2⟩
  have z0 : ∀ f, f ≠ 0 → f ≠ 1 → f ≠ 2 → True := fun _ _ _ _ => trivial
  refine ⟨?_, ?_, ?_, c1, c35, fun i hi => by omega, ?_⟩
  · rw [e16, uR_o (by omega), e13]
    show (if 0 = 69 then none else M12.2.1 0 0) = _
    rw [if_neg (by omega), e12, uR_o (by omega), (shM_o (by omega)).2]
    show (if 0 = 35 then none else M6.2.1 0 0) = _
    rw [if_neg (by omega), e6]; exact uR_s
  · rw [e16, uR_o (by omega), e13]
    show (if 0 = 69 then none else M12.2.1 0 1) = _
    rw [if_neg (by omega), e12]; exact uR_s
  · rw [e16]; exact uR_s
  · rw [e16, e13]
    show (if 0 = 69 then 0 else M12.1 0 3) = 0
    rw [if_neg (by omega), e12]
    show (shM (uN M6 35) 35 34).1 0 3 = 0
    rw [(shM_o (by omega)).1]
    show (if 0 = 35 then 0 else M6.1 0 3) = 0
    rw [if_neg (by omega), e6]
    show (shM (uN (uN M 0) 1) 1 34).1 0 3 = 0
    rw [(shM_o (by omega)).1]
    show (if 0 = 1 then 0 else (uN M 0).1 0 3) = 0
    rw [if_neg (by omega)]
    show (if 0 = 0 then 0 else M.1 0 3) = 0
    rw [if_pos rfl]
end FST
