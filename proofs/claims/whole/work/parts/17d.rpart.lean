/-! The text: the reference reads a part. -/
def topN (hi : Nat) : Nat := if 9 ≤ hi then 57 else 48 + hi
def num (cd : Nat → Nat) (b lo hi a : Nat) : Option (Nat × Nat) := if a < b ∧ 48 + lo ≤ cd a ∧ cd a ≤ topN hi then some (numL cd hi (b - (a + 1)) (cd a - 48) (a + 1)) else none
/-- where the part ends or fails, and what it tells -/
def prt (cd : Nat → Nat) (b a : Nat) : Nat × Option (Nat × Nat × Nat × Nat × Nat) :=
  match num cd b 1 40 a with
  | none => (a, none)
  | some x => if x.2 < b ∧ cd x.2 = 100 then
      match num cd b 0 4 (x.2 + 1) with
      | none => (x.2 + 1, none)
      | some y => if y.2 < b ∧ cd y.2 = 104 then
          match num cd b 0 3 (y.2 + 1) with
          | none => (y.2 + 1, none)
          | some z => if z.2 < b ∧ cd z.2 = 64 then
              match num cd b 0 9999 (z.2 + 1) with
              | none => (z.2 + 1, none)
              | some u => if u.2 < b ∧ cd u.2 = 33 then (u.2 + 1, some (x.1, y.1, z.1, u.1, 1)) else (u.2, some (x.1, y.1, z.1, u.1, 0))
            else if z.2 < b ∧ cd z.2 = 33 then (z.2 + 1, some (x.1, y.1, z.1, 9999, 1)) else (z.2, some (x.1, y.1, z.1, 9999, 0))
        else (y.2, none)
    else (x.2, none)
theorem numL_le {cd : Nat → Nat} {hi : Nat} : ∀ {f v a : Nat}, a ≤ (numL cd hi f v a).2 ∧ (numL cd hi f v a).2 ≤ a + f := by
  intro f
  induction f with
  | zero => intro v a; exact ⟨Nat.le_refl _, Nat.le_refl _⟩
  | succ f ih =>
    intro v a
    unfold numL
    split
    · have := ih (v := 10 * v + (cd a - 48)) (a := a + 1)
      omega
    · show a ≤ a ∧ a ≤ a + (f + 1); omega
theorem num_le {cd : Nat → Nat} {b lo hi a : Nat} {x : Nat × Nat} (h : num cd b lo hi a = some x) : a < x.2 ∧ x.2 ≤ b := by
  unfold num at h
  split at h
  · cases h
    have := numL_le (cd := cd) (hi := hi) (f := b - (a + 1)) (v := cd a - 48) (a := a + 1)
    omega
  · cases h
section RPT
variable {C : Mem} {r : Nat → Int32} {cd : Nat → Nat} {b a : Nat}
theorem r_number (hB : RB C) (hq : ∀ i, i < b → C.1 280 i = nI (cd i)) (hc : ∀ i, i < b → 33 ≤ cd i ∧ cd i ≤ 126) (hb : b ≤ 60) {lo hi : Nat} (hlo : lo ≤ 9) (hh : hi ≤ 9999) (h6 : r 6 = nI b) (h7 : r 7 = nI a) (ha : a < 2 ^ 30) (h8 : r 8 = 1) {x y : Int32} (hx : x = nI lo) (hy : y = nI hi) {P : Int32 → Mem → Prop} (h1 : ∀ z, num cd b lo hi a = some z → P (nI z.1) (wR C 276 (uS r 7 (nI z.2)))) (h0 : num cd b lo hi a = none → ∀ v, P v (wR C 276 (uS r 8 0))) : wp_X7_number 283 (wR C 276 r) 276 x y P := by
  subst hx hy
  have hs := sgn_le (a := a) hc
  refine ⟨tp7, fun e => ?_, fun _ => r_sign hB hq hb h6 h7 ha fun M22 e22 => ?_⟩
  · rw [wR_1, h8] at e; exact absurd e (by decide)
  · have et : (if 9 ≤ nI hi then (57 : Int32) else 48 + nI hi) = nI (topN hi) := by
      unfold topN
      rw [show (9 : Int32) = nI 9 from rfl]
      by_cases z : 9 ≤ hi
      · rw [if_pos z, if_pos ((nI_leI (a := 9) (by omega) (by omega)).mpr z)]; rfl
      · rw [if_neg z, if_neg (fun w => z ((nI_leI (a := 9) (by omega) (by omega)).mp w)), show (48 : Int32) = nI 48 from rfl, nI_add]
    have ht : topN hi ≤ 57 := by unfold topN; split <;> omega
    rw [et, show (48 : Int32) + nI lo = nI (48 + lo) from by rw [show (48 : Int32) = nI 48 from rfl, nI_add], in_nI (by omega) (by omega) (by omega), wR_uI] at e22
    by_cases z : a < b ∧ 48 + lo ≤ cd a ∧ cd a ≤ topN hi
    · have es : sgn cd b a = cd a := by unfold sgn; rw [if_pos z.1]
      have ez : num cd b lo hi a = some (numL cd hi (b - (a + 1)) (cd a - 48) (a + 1)) := by unfold num; rw [if_pos z]
      have hp := h1 _ ez
      rw [es, decide_eq_true z.2, uS_same (show r 8 = bI (if true = false then false else true) from h8)] at e22
      rw [e22]
      refine r_sign hB hq hb h6 h7 ha fun v25 h25 M26 e26 => ⟨b - (a + 1) + 1, ?_⟩
      rw [wR_1, wR_uI, h7, h8, show nI a + bI (if ((1 : Int32) != 0) = false then false else true) = nI (a + 1) from nI_1 a] at e26
      have ev : v25 = nI (cd a - 48) := by
        rw [h25, es, show (48 : Int32) = nI 48 from rfl, ← Int32.toInt_inj, nI_sub_toInt (by omega) (by omega), nI_toInt (by omega)]
        omega
      rw [e26, ev]
      refine r_numL hB hq hc hb hh _ (a + 1) (cd a - 48) _ (by omega) (by rw [uS_o (by omega)]; exact h6) uS_s (by rw [uS_o (by omega)]; exact h8) (by omega) ?_
      have eu : ∀ w, uS (uS r 7 (nI (a + 1))) 7 w = uS r 7 w := fun w => by
        funext k
        unfold uS
        split <;> rfl
      rw [eu]; exact hp
    · have ez : num cd b lo hi a = none := by unfold num; rw [if_neg z]
      have ed : decide (48 + lo ≤ sgn cd b a ∧ sgn cd b a ≤ topN hi) = false := by
        apply decide_eq_false
        intro w
        unfold sgn at w
        split at w
        · exact z ⟨by assumption, w⟩
        · omega
      rw [ed] at e22
      have hp := h0 ez
      have e22 : M22 = wR C 276 (uS r 8 0) := e22
      rw [e22]
      refine r_sign hB hq hb (by rw [uS_o (by omega)]; exact h6) (by rw [uS_o (by omega)]; exact h7) ha fun v25 h25 M26 e26 => ?_
      have e3 : M26 = wR C 276 (uS r 8 0) := by
        rw [e26, wR_1, wR_uI, uS_s]
        congr 1
        exact uS_same (by show uS r 8 0 7 = uS r 8 0 7 + 0; rw [Int32.add_zero])
      rw [e3]
      refine ⟨1, tp7, fun _ => hp v25, fun e => ?_⟩
      rw [wR_1, uS_s] at e; exact absurd e (by decide)
end RPT
