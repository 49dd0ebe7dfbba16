/-! The reference's saved states: it saves, puts aside, takes back. -/
/-- the array of the object a is g, all else as in B -/
def wR (B : Mem) (a : Nat) (g : Nat → Int32) : Mem := (fun x => if x = a then g else B.1 x, B.2.1, B.2.2)
theorem wR_1 {B : Mem} {a : Nat} {g : Nat → Int32} : (wR B a g).1 a = g := by simp [wR]
theorem wR_o {B : Mem} {a b : Nat} {g : Nat → Int32} (h : b ≠ a) : (wR B a g).1 b = B.1 b := by simp [wR, h]
theorem wR_2 {B : Mem} {a : Nat} {g : Nat → Int32} : (wR B a g).2 = B.2 := rfl
theorem wR_self {B : Mem} {a : Nat} {g : Nat → Int32} (h : g = B.1 a) : wR B a g = B := by
  subst h
  refine Prod.ext (funext fun x => ?_) rfl
  show (if x = a then B.1 a else B.1 x) = B.1 x
  split
  · rename_i h; rw [h]
  · rfl
theorem wR_uI {B : Mem} {a i : Nat} {g : Nat → Int32} {v : Int32} : uI (wR B a g) a i v = wR B a (uS g i v) := by
  unfold uI wR uS
  refine Prod.ext (funext fun x => funext fun k => ?_) rfl
  show (if x = a ∧ k = i then v else (if x = a then g else B.1 x) k) = (if x = a then (fun k => if k = i then v else g k) else B.1 x) k
  by_cases h : x = a
  · subst h; simp
  · simp [h]
theorem sM_wR {B : Mem} {σ : Nat → Int32} : wR B 277 σ = sM B σ := rfl
theorem uI_a {M : Mem} {i k j : Nat} {v : Int32} (h : j ≠ i) : (uI M i k v).1 j = M.1 j := by funext l; exact uI_o (fun z => h z.1)
theorem tp8b : m_tp 283 278 8 := ⟨by decide, by decide⟩
theorem tp8c : m_tp 283 279 8 := ⟨by decide, by decide⟩
theorem tp8d : m_tp 283 280 8 := ⟨by decide, by decide⟩
theorem tp8e : m_tp 283 281 8 := ⟨by decide, by decide⟩
theorem len8b : m_len 278 = 158 := by decide
theorem len8c : m_len 279 = 948 := by decide
theorem len8d : m_len 280 = 60 := by decide
theorem len8e : m_len 281 = 96 := by decide
theorem uS_run {g h : Nat → Int32} {i : Nat} : uS (fun x => if x < i then g x else h x) i (g i) = fun x => if x < i + 1 then g x else h x := by
  funext x
  unfold uS
  by_cases e : x = i
  · subst e; rw [if_pos rfl, if_pos (by omega)]
  · rw [if_neg e]
    show (if x < i then g x else h x) = _
    by_cases q : x < i
    · rw [if_pos q, if_pos (by omega)]
    · rw [if_neg q, if_neg (by omega)]
section SV
variable {M : Mem}
theorem r_putAside (hB : RB M) {P : Mem → Prop} (hp : P (wR M 278 (fun x => if x < 158 then M.1 277 x else M.1 278 x))) : wp_X7_putAside 283 M 276 P := by
  refine ⟨159, ?_⟩
  have L : ∀ f i, i + f = 158 → wpL_X7_putAside_2 283 P (f + 1) (wR M 278 (fun x => if x < i then M.1 277 x else M.1 278 x)) 276 (nI i) := by
    intro f
    induction f with
    | zero =>
      intro i hi
      have : i = 158 := by omega
      subst this
      exact ⟨fun _ => hp, fun k => absurd (cGe (x := 158) (n := 158) rfl rfl (by omega) (by omega)) k⟩
    | succ f ih =>
      intro i hi
      refine ⟨fun k => absurd k (cLt (n := 158) rfl rfl (by omega) (by omega)), fun _ => ⟨tp7, 278, hB.2.1, 277, hB.1, tp8, by rw [len8]; exact vpI rfl (by omega : i < 158) (by omega), tp8b, by rw [len8b]; exact vpI rfl (by omega : i < 158) (by omega), fun M8 e8 v9 e9 => ?_⟩⟩
      rw [wR_o (by omega), nI_clamp (by omega), wR_uI, uS_run] at e8
      rw [e8, e9, nI_1]
      exact ih (i + 1) (by omega)
  have := L 158 0 (by omega)
  rw [wR_self (by funext x; rw [if_neg (by omega)])] at this
  exact this
theorem r_takeBack (hB : RB M) {P : Mem → Prop} (hp : P (wR M 277 (fun x => if x < 158 then M.1 278 x else M.1 277 x))) : wp_X7_takeBack 283 M 276 P := by
  refine ⟨159, ?_⟩
  have L : ∀ f i, i + f = 158 → wpL_X7_takeBack_2 283 P (f + 1) (wR M 277 (fun x => if x < i then M.1 278 x else M.1 277 x)) 276 (nI i) := by
    intro f
    induction f with
    | zero =>
      intro i hi
      have : i = 158 := by omega
      subst this
      exact ⟨fun _ => hp, fun k => absurd (cGe (x := 158) (n := 158) rfl rfl (by omega) (by omega)) k⟩
    | succ f ih =>
      intro i hi
      refine ⟨fun k => absurd k (cLt (n := 158) rfl rfl (by omega) (by omega)), fun _ => ⟨tp7, 277, hB.1, 278, hB.2.1, tp8b, by rw [len8b]; exact vpI rfl (by omega : i < 158) (by omega), tp8, by rw [len8]; exact vpI rfl (by omega : i < 158) (by omega), fun M8 e8 v9 e9 => ?_⟩⟩
      rw [wR_o (by omega), nI_clamp (by omega), wR_uI, uS_run] at e8
      rw [e8, e9, nI_1]
      exact ih (i + 1) (by omega)
  have := L 158 0 (by omega)
  rw [wR_self (by funext x; rw [if_neg (by omega)])] at this
  exact this
theorem r_saveRow (hB : RB M) {s : Nat} (hs : s < 6) (h4 : M.1 276 4 = nI s) {P : Mem → Prop} (hp : ∀ M', M' = uI (wR M 279 (fun x => if 158 * s ≤ x ∧ x < 158 * s + 158 then M.1 277 (x - 158 * s) else M.1 279 x)) 276 4 (nI (s + 1)) → P M') : ∃ f : Nat, wpL_X7_saves_52 283 P f M 276 0 := by
  refine ⟨159, ?_⟩
  have L : ∀ f i, i + f = 158 → wpL_X7_saves_52 283 P (f + 1) (wR M 279 (fun x => if 158 * s ≤ x ∧ x < 158 * s + i then M.1 277 (x - 158 * s) else M.1 279 x)) 276 (nI i) := by
    intro f
    induction f with
    | zero =>
      intro i hi
      have : i = 158 := by omega
      subst this
      refine ⟨fun _ => ⟨tp7, fun M3 e3 => hp M3 ?_⟩, fun k => absurd (cGe (x := 158) (n := 158) rfl rfl (by omega) (by omega)) k⟩
      rw [wR_o (by omega), h4, nI_1] at e3
      exact e3
    | succ f ih =>
      intro i hi
      have ix : (158 * (wR M 279 (fun x => if 158 * s ≤ x ∧ x < 158 * s + i then M.1 277 (x - 158 * s) else M.1 279 x)).1 276 4) + nI i = nI (158 * s + i) := by
        rw [wR_o (by omega), h4, show (158 : Int32) = nI 158 from rfl, nI_mul, nI_add]
      refine ⟨fun k => absurd k (cLt (n := 158) rfl rfl (by omega) (by omega)), fun _ => ⟨tp7, 279, hB.2.2.1, 277, hB.1, tp8, by rw [len8]; exact vpI rfl (by omega : i < 158) (by omega), tp8c, by rw [len8c]; exact vpI ix (by omega) (by omega), fun M8 e8 v9 e9 => ?_⟩⟩
      rw [ix, wR_o (by omega), nI_clamp (by omega), nI_clamp (by omega), wR_uI] at e8
      rw [e8, e9, nI_1]
      have eg : uS (fun x => if 158 * s ≤ x ∧ x < 158 * s + i then M.1 277 (x - 158 * s) else M.1 279 x) (158 * s + i) (M.1 277 i) = fun x => if 158 * s ≤ x ∧ x < 158 * s + (i + 1) then M.1 277 (x - 158 * s) else M.1 279 x := by
        funext x
        unfold uS
        by_cases e : x = 158 * s + i
        · subst e
          rw [if_pos rfl, if_pos (by omega), show 158 * s + i - 158 * s = i by omega]
        · rw [if_neg e]
          show (if 158 * s ≤ x ∧ x < 158 * s + i then M.1 277 (x - 158 * s) else M.1 279 x) = _
          by_cases q : 158 * s ≤ x ∧ x < 158 * s + i
          · rw [if_pos q, if_pos (by omega)]
          · rw [if_neg q, if_neg (by omega)]
      rw [eg]
      exact ih (i + 1) (by omega)
  have := L 158 0 (by omega)
  rw [wR_self (by funext x; rw [if_neg (by omega)])] at this
  exact this
theorem r_saves (hB : RB M) {s : Nat} (hs : s ≤ 6) (h4 : M.1 276 4 = nI s) {P : Mem → Prop} (hp : ∀ M', (∀ a, a ≠ 276 → a ≠ 279 → M'.1 a = M.1 a) → (∀ f, f ≠ 4 → M'.1 276 f = M.1 276 f) → M'.2 = M.2 → M'.1 276 4 = nI (if s = 6 then 6 else s + 1) → (∀ i k, i < (if s = 6 then 6 else s + 1) → k < 158 → M'.1 279 (158 * i + k) = if i + 1 = (if s = 6 then 6 else s + 1) then M.1 277 k else M.1 279 (158 * (if s = 6 then i + 1 else i) + k)) → P M') : wp_X7_saves 283 M 276 P := by
  refine ⟨tp7, fun e => ?_, fun e => ?_⟩
  · have hs6 : s ≠ 6 := fun z => e (by rw [h4, z]; rfl)
    refine r_saveRow hB (by omega) h4 fun M' e' => hp M' (fun a h1 h2 => ?_) (fun f hf => ?_) ?_ ?_ (fun i k hi hk => ?_)
    · rw [e', uI_a h1, wR_o h2]
    · subst e'
      show (if 276 = 276 ∧ f = 4 then _ else _) = _
      rw [if_neg (fun q => hf q.2), wR_o (by omega)]
    · rw [e']; rfl
    · rw [if_neg hs6, e', uI_s]
    · rw [if_neg hs6] at hi
      rw [e', uI_a (by omega), wR_1, if_neg hs6, if_neg hs6]
      by_cases q : i = s
      · subst q
        rw [if_pos (by omega), if_pos rfl, show 158 * i + k - 158 * i = k by omega]
      · rw [if_neg (by omega), if_neg (by omega)]
  · have hs6 : s = 6 := by
      rw [h4] at e
      exact (nI_eq (by omega) (by omega)).mp e
    subst hs6
    refine ⟨791, ?_⟩
    have L : ∀ f i, i + f = 790 → wpL_X7_saves_11 283 P (f + 1) (wR M 279 (fun x => if x < i then M.1 279 (x + 158) else M.1 279 x)) 276 (nI i) := by
      intro f
      induction f with
      | zero =>
        intro i hi
        have : i = 790 := by omega
        subst this
        refine ⟨fun _ => ⟨tp7, fun M3 e3 => ?_⟩, fun k => absurd (cGe (x := 790) (n := 790) rfl rfl (by omega) (by omega)) k⟩
        rw [wR_o (by omega), h4, show nI 6 - 1 = nI 5 from rfl] at e3
        have hB3 : RB M3 := by rw [e3]; exact hB
        have h43 : M3.1 276 4 = nI 5 := by rw [e3, uI_s]
        have o3 : ∀ a, a ≠ 276 → a ≠ 279 → M3.1 a = M.1 a := fun a h1 h2 => by rw [e3, uI_a h1, wR_o h2]
        have r3 : M3.1 279 = fun x => if x < 790 then M.1 279 (x + 158) else M.1 279 x := by rw [e3, uI_a (by omega), wR_1]
        refine r_saveRow hB3 (by omega) h43 fun M' e' => hp M' (fun a h1 h2 => ?_) (fun f hf => ?_) ?_ ?_ (fun i k hi hk => ?_)
        · rw [e', uI_a h1, wR_o h2, o3 a h1 h2]
        · subst e'
          show (if 276 = 276 ∧ f = 4 then _ else _) = _
          rw [if_neg (fun q => hf q.2), wR_o (by omega), e3]
          show (if 276 = 276 ∧ f = 4 then _ else _) = _
          rw [if_neg (fun q => hf q.2), wR_o (by omega)]
        · rw [e', e3]; rfl
        · rw [if_pos rfl, e', uI_s]
        · rw [if_pos rfl] at hi
          rw [e', uI_a (by omega), wR_1, if_pos rfl, if_pos rfl, o3 277 (by omega) (by omega)]
          by_cases q : i = 5
          · subst q
            rw [if_pos (by omega), if_pos rfl, show 158 * 5 + k - 158 * 5 = k by omega]
          · rw [if_neg (by omega), if_neg (by omega), r3]
            show (if 158 * i + k < 790 then _ else _) = _
            rw [if_pos (by omega), show 158 * i + k + 158 = 158 * (i + 1) + k by omega]
      | succ f ih =>
        intro i hi
        have ix : nI i + 158 = nI (i + 158) := by rw [show (158 : Int32) = nI 158 from rfl, nI_add]
        refine ⟨fun k => absurd k (cLt (n := 790) rfl rfl (by omega) (by omega)), fun _ => ⟨tp7, 279, hB.2.2.1, 279, hB.2.2.1, tp8c, by rw [len8c]; exact vpI ix (by omega) (by omega), tp8c, by rw [len8c]; exact vpI rfl (by omega : i < 948) (by omega), fun M8 e8 v9 e9 => ?_⟩⟩
        rw [ix, wR_1, nI_clamp (by omega), nI_clamp (by omega), wR_uI] at e8
        rw [e8, e9, nI_1]
        have eg : uS (fun x => if x < i then M.1 279 (x + 158) else M.1 279 x) i (if i + 158 < i then M.1 279 (i + 158 + 158) else M.1 279 (i + 158)) = fun x => if x < i + 1 then M.1 279 (x + 158) else M.1 279 x := by
          rw [if_neg (by omega)]
          exact uS_run (g := fun x => M.1 279 (x + 158))
        rw [eg]
        exact ih (i + 1) (by omega)
    have := L 790 0 (by omega)
    rw [wR_self (by funext x; rw [if_neg (by omega)])] at this
    exact this
end SV
