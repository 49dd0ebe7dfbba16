/-! THE PURE PART. A shop of the class in the memory, and its abstract value: a table of rows (jobs by their place in the order). -/
abbrev Ab : Type := Nat → Nat → Int32
def aU (A : Ab) (r f : Nat) (v : Int32) : Ab := fun r' f' => if r' = r ∧ f' = f then v else A r' f'
theorem up_s {A : Ab} {r f : Nat} {v : Int32} : aU A r f v r f = v := by simp [aU]
theorem up_o {A : Ab} {r f r' f' : Nat} {v : Int32} (h : ¬ (r' = r ∧ f' = f)) : aU A r f v r' f' = A r' f' := by simp [aU, h]
theorem up_r {A : Ab} {r f r' f' : Nat} {v : Int32} (h : r' ≠ r) : aU A r f v r' f' = A r' f' := up_o (fun e => h e.1)
theorem up_f {A : Ab} {r f r' f' : Nat} {v : Int32} (h : f' ≠ f) : aU A r f v r' f' = A r' f' := up_o (fun e => h e.2)
def isShop (S : Nat) : Prop := S = 1 ∨ S = 35 ∨ ∃ p, p < 6 ∧ S = 70 + 34 * p
theorem kdS {S r : Nat} (hS : isShop S) (hr : r < 34) : m_kd (S + r) = m_sk r ∧ S + r < 274 := by
  unfold m_kd
  rcases hS with rfl | rfl | ⟨p, hp, rfl⟩
  · rw [if_neg (by omega), if_pos (by omega)]
    refine ⟨?_, by omega⟩
    congr 1; omega
  · rw [if_neg (by omega), if_pos (by omega)]
    refine ⟨?_, by omega⟩
    congr 1; omega
  · rw [if_neg (by omega), if_neg (by omega), if_neg (by omega), if_pos (by omega)]
    refine ⟨?_, by omega⟩
    congr 1; omega
theorem tpS {S r κ : Nat} (hS : isShop S) (hr : r < 34) (hk : m_sk r = κ) : m_tp 278 (S + r) κ := ⟨by have := (kdS hS hr).2; omega, by rw [(kdS hS hr).1, hk]⟩
theorem tpS0 {S : Nat} (hS : isShop S) : m_tp 278 S 5 := tpS (r := 0) hS (by omega) rfl
theorem lenS {S r : Nat} (hS : isShop S) (hr : r < 34) : m_len (S + r) = m_sl r := by
  unfold m_len
  rcases hS with rfl | rfl | ⟨p, hp, rfl⟩
  · rw [if_pos (by omega)]
    congr 1; omega
  · rw [if_pos (by omega)]
    congr 1; omega
  · rw [if_neg (by omega), if_neg (by omega), if_pos (by omega)]
    congr 1; omega
theorem skH {h : Nat} (hh : h < 4) : m_sk (2 + h) = 2 := by
  rcases (by omega : h = 0 ∨ h = 1 ∨ h = 2 ∨ h = 3) with rfl | rfl | rfl | rfl <;> rfl
theorem skD {d : Nat} (hd : d < 5) : m_sk (7 + d) = 1 := by
  rcases (by omega : d = 0 ∨ d = 1 ∨ d = 2 ∨ d = 3 ∨ d = 4) with rfl | rfl | rfl | rfl | rfl <;> rfl
theorem skJ {k : Nat} (hk : k < 10) : m_sk (13 + k) = 3 := by
  rcases (by omega : k = 0 ∨ k = 1 ∨ k = 2 ∨ k = 3 ∨ k = 4 ∨ k = 5 ∨ k = 6 ∨ k = 7 ∨ k = 8 ∨ k = 9) with rfl | rfl | rfl | rfl | rfl | rfl | rfl | rfl | rfl | rfl <;> rfl
theorem skB {p : Nat} (hp : p < 7) : m_sk (24 + p) = 0 := by
  rcases (by omega : p = 0 ∨ p = 1 ∨ p = 2 ∨ p = 3 ∨ p = 4 ∨ p = 5 ∨ p = 6) with rfl | rfl | rfl | rfl | rfl | rfl | rfl <;> rfl
def prm (π : Nat → Nat) : Prop := (∀ k, k < 10 → π k < 10) ∧ ∀ k j, k < 10 → j < 10 → π k = π j → k = j
def adr (S : Nat) (π : Nat → Nat) (r : Nat) : Nat := if 13 ≤ r ∧ r < 23 then S + 13 + π (r - 13) else S + r
theorem adrJ {S k : Nat} {π : Nat → Nat} (hk : k < 10) : adr S π (13 + k) = S + 13 + π k := by
  unfold adr
  rw [if_pos (by omega)]
  congr 2; omega
theorem adrO {S r : Nat} {π : Nat → Nat} (h : ¬ (13 ≤ r ∧ r < 23)) : adr S π r = S + r := by
  unfold adr
  rw [if_neg h]
theorem adr_in {S r : Nat} {π : Nat → Nat} (hπ : prm π) (hr : r < 34) : S ≤ adr S π r ∧ adr S π r < S + 34 := by
  unfold adr
  split
  · have := hπ.1 (r - 13) (by omega)
    omega
  · omega
theorem adr_inj {S r q : Nat} {π : Nat → Nat} (hπ : prm π) (hr : r < 34) (hq : q < 34) (h : adr S π r = adr S π q) : r = q := by
  unfold adr at h
  split at h <;> split at h
  · have := hπ.2 (r - 13) (q - 13) (by omega) (by omega) (by omega)
    omega
  · have := hπ.1 (r - 13) (by omega)
    omega
  · have := hπ.1 (q - 13) (by omega)
    omega
  · omega
def refsS (M : Mem) (S : Nat) (π : Nat → Nat) : Prop := M.2.1 S 0 = some (S + 1) ∧ M.2.1 S 1 = some (S + 6) ∧ M.2.1 S 2 = some (S + 12) ∧ M.2.1 S 3 = some (S + 23) ∧ M.2.1 S 4 = some (S + 30) ∧ M.2.1 S 16 = some (S + 31) ∧ M.2.1 S 17 = some (S + 32) ∧ M.2.1 S 18 = some (S + 33) ∧ (∀ h, h < 4 → M.2.1 (S + 1) h = some (S + 2 + h)) ∧ (∀ d, d < 5 → M.2.1 (S + 6) d = some (S + 7 + d)) ∧ (∀ k, k < 10 → M.2.1 (S + 12) k = some (S + 13 + π k)) ∧ ∀ p, p < 6 → M.2.1 (S + 23) p = some (S + 24 + p)
/-- what lies outside the shop S is as in B -/
def FrS (S : Nat) (B M : Mem) : Prop := (∀ a, ¬ (S ≤ a ∧ a < S + 34) → M.1 a = B.1 a ∧ M.2.1 a = B.2.1 a) ∧ M.2.2 = B.2.2
/-- in M the shop S has the value A, its jobs lie by π; all else is as in B -/
def CF (B M : Mem) (S : Nat) (π : Nat → Nat) (A : Ab) : Prop := isShop S ∧ prm π ∧ refsS M S π ∧ (∀ r, r < 34 → ∀ f, M.1 (adr S π r) f = A r f) ∧ FrS S B M
theorem FrS.rf {S : Nat} {B : Mem} : FrS S B B := ⟨fun _ _ => ⟨rfl, rfl⟩, rfl⟩
theorem FrS.tr {S : Nat} {B C M : Mem} (h : FrS S B C) (k : FrS S C M) : FrS S B M := ⟨fun a ha => ⟨((k.1 a ha).1).trans (h.1 a ha).1, ((k.1 a ha).2).trans (h.1 a ha).2⟩, k.2.trans h.2⟩
section CFS
variable {B M M' : Mem} {S : Nat} {π : Nat → Nat} {A : Ab}
theorem CF.tp0 (h : CF B M S π A) : m_tp 278 S 5 := tpS0 h.1
theorem CF.base (h : CF B M S π A) : CF M M S π A := ⟨h.1, h.2.1, h.2.2.1, h.2.2.2.1, FrS.rf⟩
theorem CF.rebase (h : CF M M' S π A) (k : FrS S B M) : CF B M' S π A := ⟨h.1, h.2.1, h.2.2.1, h.2.2.2.1, k.tr h.2.2.2.2⟩
theorem CF.fr (h : CF B M S π A) : FrS S B M := h.2.2.2.2
theorem CF.at (h : CF B M S π A) {r : Nat} (hr : r < 34) (f : Nat) : M.1 (adr S π r) f = A r f := h.2.2.2.1 r hr f
theorem CF.N (h : CF B M S π A) (f : Nat) : M.1 S f = A 0 f := by have := h.at (r := 0) (by omega) f; rwa [adrO (by omega)] at this
theorem CF.H (h : CF B M S π A) {i : Nat} (hi : i < 4) (f : Nat) : M.1 (S + 2 + i) f = A (2 + i) f := by have := h.at (r := 2 + i) (by omega) f; rwa [adrO (by omega), ← Nat.add_assoc] at this
theorem CF.D (h : CF B M S π A) {i : Nat} (hi : i < 5) (f : Nat) : M.1 (S + 7 + i) f = A (7 + i) f := by have := h.at (r := 7 + i) (by omega) f; rwa [adrO (by omega), ← Nat.add_assoc] at this
theorem CF.J (h : CF B M S π A) {k : Nat} (hk : k < 10) (f : Nat) : M.1 (S + 13 + π k) f = A (13 + k) f := by have := h.at (r := 13 + k) (by omega) f; rwa [adrJ hk] at this
theorem CF.Bi (h : CF B M S π A) {i : Nat} (hi : i < 7) (f : Nat) : M.1 (S + 24 + i) f = A (24 + i) f := by have := h.at (r := 24 + i) (by omega) f; rwa [adrO (by omega), ← Nat.add_assoc] at this
theorem CF.B6 (h : CF B M S π A) (f : Nat) : M.1 (S + 30) f = A 30 f := h.Bi (i := 6) (by omega) f
theorem CF.tpH (h : CF B M S π A) {i : Nat} (hi : i < 4) : m_tp 278 (S + 2 + i) 2 := by have := tpS (r := 2 + i) h.1 (by omega) (skH hi); rwa [← Nat.add_assoc] at this
theorem CF.tpD (h : CF B M S π A) {i : Nat} (hi : i < 5) : m_tp 278 (S + 7 + i) 1 := by have := tpS (r := 7 + i) h.1 (by omega) (skD hi); rwa [← Nat.add_assoc] at this
theorem CF.tpJ (h : CF B M S π A) {k : Nat} (hk : k < 10) : m_tp 278 (S + 13 + π k) 3 := by
  have hp := h.2.1.1 k hk
  have := tpS (r := 13 + π k) h.1 (by omega) (skJ hp); rwa [← Nat.add_assoc] at this
theorem CF.tpB (h : CF B M S π A) {i : Nat} (hi : i < 7) : m_tp 278 (S + 24 + i) 0 := by have := tpS (r := 24 + i) h.1 (by omega) (skB hi); rwa [← Nat.add_assoc] at this
theorem CF.tpB6 (h : CF B M S π A) : m_tp 278 (S + 30) 0 := h.tpB (i := 6) (by omega)
/-- a cell of the shop is written -/
theorem CF.up (h : CF B M S π A) {r f : Nat} {v : Int32} (hr : r < 34) (e : M' = uI M (adr S π r) f v) : CF B M' S π (aU A r f v) := by
  obtain ⟨h1, h2, h3, h4, h5⟩ := h
  have hin := adr_in (S := S) h2 hr
  subst e
  refine ⟨h1, h2, h3, fun r' hr' f' => ?_, ⟨fun a ha => ⟨?_, (h5.1 a ha).2⟩, h5.2⟩⟩
  · show (if adr S π r' = adr S π r ∧ f' = f then v else M.1 (adr S π r') f') = if r' = r ∧ f' = f then v else A r' f'
    by_cases e : r' = r ∧ f' = f
    · obtain ⟨rfl, rfl⟩ := e
      simp
    · rw [if_neg e, if_neg (fun q => e ⟨adr_inj h2 hr' hr q.1, q.2⟩), h4 r' hr' f']
  · funext f'
    show (if a = adr S π r ∧ f' = f then v else M.1 a f') = B.1 a f'
    rw [if_neg (fun q => ha (by rw [q.1]; exact hin)), (h5.1 a ha).1]
theorem CF.uN (h : CF B M S π A) {f : Nat} {v : Int32} (e : M' = uI M S f v) : CF B M' S π (aU A 0 f v) := h.up (r := 0) (by omega) (by rw [adrO (by omega)]; exact e)
theorem CF.uH (h : CF B M S π A) {i f : Nat} {v : Int32} (hi : i < 4) (e : M' = uI M (S + 2 + i) f v) : CF B M' S π (aU A (2 + i) f v) := h.up (r := 2 + i) (by omega) (by rw [adrO (by omega), ← Nat.add_assoc]; exact e)
theorem CF.uD (h : CF B M S π A) {i f : Nat} {v : Int32} (hi : i < 5) (e : M' = uI M (S + 7 + i) f v) : CF B M' S π (aU A (7 + i) f v) := h.up (r := 7 + i) (by omega) (by rw [adrO (by omega), ← Nat.add_assoc]; exact e)
theorem CF.uJ (h : CF B M S π A) {k f : Nat} {v : Int32} (hk : k < 10) (e : M' = uI M (S + 13 + π k) f v) : CF B M' S π (aU A (13 + k) f v) := h.up (r := 13 + k) (by omega) (by rw [adrJ hk]; exact e)
theorem CF.uB (h : CF B M S π A) {i f : Nat} {v : Int32} (hi : i < 7) (e : M' = uI M (S + 24 + i) f v) : CF B M' S π (aU A (24 + i) f v) := h.up (r := 24 + i) (by omega) (by rw [adrO (by omega), ← Nat.add_assoc]; exact e)
theorem CF.uB6 (h : CF B M S π A) {f : Nat} {v : Int32} (e : M' = uI M (S + 30) f v) : CF B M' S π (aU A 30 f v) := h.uB (i := 6) (by omega) e
-- the ways to an element
theorem x_heatAt (h : CF B M S π A) {i : Nat} (hi : i < 4) {x : Int32} (hx : x = nI i) {P : Nat → Mem → Prop} (hp : P (S + 2 + i) M) : wp_X5_heatAt 278 M S x P := by
  subst hx
  have hl : m_len (S + 1) = 4 := lenS h.1 (by omega)
  obtain ⟨r0, r1, r2, r3, r4, r5, r6, r7, r8, r9, r10, r11⟩ := h.2.2.1
  unfold wp_X5_heatAt
  refine ⟨fun c => absurd c (nI_pos (by omega)), fun _ => ⟨h.tp0, S + 1, r0, tpS h.1 (by omega) rfl, fun c => ?_, fun _ => ⟨S + 1, r0, tpS h.1 (by omega) rfl, ?_, S + 2 + i, ?_, hp⟩⟩⟩
  · rw [hl] at c
    exact absurd ((nI_leI (by omega) (by omega)).mp c) (by omega)
  · rw [hl]; exact vp_in_nI hi (by omega)
  · rw [nI_clamp (by omega)]; exact r8 i hi
theorem x_dieAt (h : CF B M S π A) {i : Nat} (hi : i < 5) {x : Int32} (hx : x = nI i) {P : Nat → Mem → Prop} (hp : P (S + 7 + i) M) : wp_X5_dieAt 278 M S x P := by
  subst hx
  have hl : m_len (S + 6) = 5 := lenS h.1 (by omega)
  obtain ⟨r0, r1, r2, r3, r4, r5, r6, r7, r8, r9, r10, r11⟩ := h.2.2.1
  unfold wp_X5_dieAt
  refine ⟨fun c => absurd c (nI_pos (by omega)), fun _ => ⟨h.tp0, S + 6, r1, tpS h.1 (by omega) rfl, fun c => ?_, fun _ => ⟨S + 6, r1, tpS h.1 (by omega) rfl, ?_, S + 7 + i, ?_, hp⟩⟩⟩
  · rw [hl] at c
    exact absurd ((nI_leI (by omega) (by omega)).mp c) (by omega)
  · rw [hl]; exact vp_in_nI hi (by omega)
  · rw [nI_clamp (by omega)]; exact r9 i hi
theorem x_jobAt (h : CF B M S π A) {k : Nat} (hk : k < 10) {x : Int32} (hx : x = nI k) {P : Nat → Mem → Prop} (hp : P (S + 13 + π k) M) : wp_X5_jobAt 278 M S x P := by
  subst hx
  have hl : m_len (S + 12) = 10 := lenS h.1 (by omega)
  obtain ⟨r0, r1, r2, r3, r4, r5, r6, r7, r8, r9, r10, r11⟩ := h.2.2.1
  unfold wp_X5_jobAt
  refine ⟨fun c => absurd c (nI_pos (by omega)), fun _ => ⟨h.tp0, S + 12, r2, tpS h.1 (by omega) rfl, fun c => ?_, fun _ => ⟨S + 12, r2, tpS h.1 (by omega) rfl, ?_, S + 13 + π k, ?_, hp⟩⟩⟩
  · rw [hl] at c
    exact absurd ((nI_leI (by omega) (by omega)).mp c) (by omega)
  · rw [hl]; exact vp_in_nI hk (by omega)
  · rw [nI_clamp (by omega)]; exact r10 k hk
theorem x_billetAt (h : CF B M S π A) {i : Nat} (hi : i < 7) {x : Int32} (hx : x = nI i) {P : Nat → Mem → Prop} (hp : P (S + 24 + i) M) : wp_X5_billetAt 278 M S x P := by
  subst hx
  have hl : m_len (S + 23) = 6 := lenS h.1 (by omega)
  obtain ⟨r0, r1, r2, r3, r4, r5, r6, r7, r8, r9, r10, r11⟩ := h.2.2.1
  unfold wp_X5_billetAt
  refine ⟨fun c => absurd c (nI_pos (by omega)), fun _ => ⟨h.tp0, S + 23, r3, tpS h.1 (by omega) rfl, fun c => ?_, fun c => ⟨S + 23, r3, tpS h.1 (by omega) rfl, ?_⟩⟩⟩
  · rw [hl] at c
    have hc := (nI_leI (by omega) (by omega)).mp c
    refine ⟨S + 30, r4, ?_⟩
    rwa [show S + 30 = S + 24 + i by omega]
  · rw [hl] at c
    have hi6 : i < 6 := by
      rcases Nat.lt_or_ge i 6 with q | q
      · exact q
      · exact absurd ((nI_leI (by omega) (by omega)).mpr q) c
    exact ⟨by rw [hl]; exact vp_in_nI hi6 (by omega), S + 24 + i, by rw [nI_clamp (by omega)]; exact r11 i hi6, hp⟩
theorem CF.furn (h : CF B M S π A) : M.2.1 S 3 = some (S + 23) ∧ m_tp 278 (S + 23) 11 ∧ m_len (S + 23) = 6 := ⟨h.2.2.1.2.2.2.1, tpS h.1 (by omega) rfl, lenS h.1 (by omega)⟩
theorem CF.furnAt (h : CF B M S π A) {i : Nat} (hi : i < 6) : M.2.1 (S + 23) (nI i).toNatClampNeg = some (S + 24 + i) := by
  rw [nI_clamp (by omega)]
  exact h.2.2.1.2.2.2.2.2.2.2.2.2.2.2 i hi
theorem CF.press (h : CF B M S π A) : M.2.1 S 4 = some (S + 30) := h.2.2.1.2.2.2.2.1
end CFS
