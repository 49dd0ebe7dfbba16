/-! The reference: its array, how it holds a shop's value, and the ways to its cells. -/
def uS (σ : Nat → Int32) (i : Nat) (v : Int32) : Nat → Int32 := fun k => if k = i then v else σ k
theorem vpI {i n : Nat} {x : Int32} (hx : x = nI i) (h : i < n) (hn : n < 2 ^ 31) : vp_in x n := by
  subst hx
  exact vp_in_nI h hn
section RACC
variable {B : Mem} {σ : Nat → Int32}
end RACC
-- the value of a shop, as the reference holds it
def RN (A : Ab) (m : Int32) (σ : Nat → Int32) : Prop := (∀ i, i < 4 → σ i = A 0 (7 + i)) ∧ σ 4 = m ∧ σ 5 = A 0 5 ∧ σ 6 = A 0 6 ∧ σ 7 = madeA A ∧ σ 8 = scrapA A ∧ ∀ i, i < 4 → σ (9 + i) = A 0 (12 + i)
def RH (A : Ab) (σ : Nat → Int32) : Prop := ∀ h, h < 4 → ∀ f, f < 5 → σ (15 + 5 * h + f) = A (2 + h) f
def bij (c : Nat) (ι : Nat → Nat) : Prop := (∀ k, k < c → ι k < c) ∧ (∀ k l, k < c → l < c → ι k = ι l → k = l) ∧ ∀ i, i < c → ∃ k, k < c ∧ ι k = i
def RJ (A : Ab) (c : Nat) (ι : Nat → Nat) (σ : Nat → Int32) : Prop := bij c ι ∧ (∀ k, k < c → ∀ f, f < 7 → σ (60 + 7 * ι k + f) = A (13 + k) f) ∧ ∀ k l, k < c → l < c → (ι k < ι l ↔ A (13 + k) 0 < A (13 + l) 0)
theorem foldN_congr {α : Type} {g g' : Nat → α → α} : ∀ {f i : Nat} {a : α}, (∀ j, i ≤ j → j < i + f → g j = g' j) → foldN g f i a = foldN g' f i a := by
  intro f
  induction f with
  | zero => intro i a h; rfl
  | succ f ih =>
    intro i a h
    show foldN g f (i + 1) (g i a) = foldN g' f (i + 1) (g' i a)
    rw [h i (Nat.le_refl i) (by omega), ih (fun j h1 h2 => h j (by omega) (by omega))]
section RCON
variable {A A' : Ab} {c : Nat} {m : Int32} {ι : Nat → Nat} {σ σ' : Nat → Int32}
theorem madeA_congr (h : ∀ i, i < 4 → A' (2 + i) 3 = A (2 + i) 3) : madeA A' = madeA A := foldN_congr fun j _ hj => by rw [h j (by omega)]
theorem scrapA_congr (h : ∀ i, i < 4 → A' (2 + i) 4 = A (2 + i) 4) : scrapA A' = scrapA A := foldN_congr fun j _ hj => by rw [h j (by omega)]
theorem RN.congr (h : RN A m σ) (hs : ∀ i, i < 13 → σ' i = σ i) (h0 : ∀ f, 5 ≤ f → f < 16 → f ≠ 11 → A' 0 f = A 0 f) (h3 : ∀ i, i < 4 → A' (2 + i) 3 = A (2 + i) 3) (h4 : ∀ i, i < 4 → A' (2 + i) 4 = A (2 + i) 4) : RN A' m σ' := by
  obtain ⟨a1, a2, a3, a4, a5, a6, a7⟩ := h
  refine ⟨fun i hi => ?_, ?_, ?_, ?_, ?_, ?_, fun i hi => ?_⟩
  · rw [hs i (by omega), h0 (7 + i) (by omega) (by omega) (by omega)]; exact a1 i hi
  · rw [hs 4 (by omega)]; exact a2
  · rw [hs 5 (by omega), h0 5 (by omega) (by omega) (by omega)]; exact a3
  · rw [hs 6 (by omega), h0 6 (by omega) (by omega) (by omega)]; exact a4
  · rw [hs 7 (by omega), madeA_congr h3]; exact a5
  · rw [hs 8 (by omega), scrapA_congr h4]; exact a6
  · rw [hs (9 + i) (by omega), h0 (12 + i) (by omega) (by omega) (by omega)]; exact a7 i hi
theorem RH.congr (h : RH A σ) (hs : ∀ i, 15 ≤ i → i < 35 → σ' i = σ i) (hA : ∀ i, i < 4 → ∀ f, f < 5 → A' (2 + i) f = A (2 + i) f) : RH A' σ' := fun i hi f hf => by
  rw [hs _ (by omega) (by omega), hA i hi f hf]; exact h i hi f hf
theorem RJ.congr (h : RJ A c ι σ) (hc : c ≤ 10) (hs : ∀ i, 60 ≤ i → i < 130 → σ' i = σ i) (hA : ∀ k, k < c → ∀ f, f < 7 → A' (13 + k) f = A (13 + k) f) : RJ A' c ι σ' := by
  refine ⟨h.1, fun k hk f hf => ?_, fun k l hk hl => ?_⟩
  · have := h.1.1 k hk
    rw [hs _ (by omega) (by omega), hA k hk f hf]; exact h.2.1 k hk f hf
  · rw [hA k hk 0 (by omega), hA l hl 0 (by omega)]; exact h.2.2 k l hk hl
end RCON
