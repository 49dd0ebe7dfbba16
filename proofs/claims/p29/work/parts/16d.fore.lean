/-! What would be: the class looks ahead with its trial shop. -/
theorem CF.on {B M M' : Mem} {S : Nat} {π : Nat → Nat} {A : Ab} (h : CF B M S π A) (e : ∀ a, S ≤ a → a < S + 34 → M'.1 a = M.1 a ∧ M'.2.1 a = M.2.1 a) : CF M' M' S π A := by
  obtain ⟨h1, h2, ⟨r0, r1, r2, r3, r4, r5, r6, r7, r8, r9, r10, r11⟩, h4, -⟩ := h
  have f : ∀ a, S ≤ a → a < S + 34 → M'.2.1 a = M.2.1 a := fun a x y => (e a x y).2
  refine ⟨h1, h2, ⟨?_, ?_, ?_, ?_, ?_, ?_, ?_, ?_, fun i hi => ?_, fun i hi => ?_, fun i hi => ?_, fun i hi => ?_⟩, fun r hr k => ?_, FrS.rf⟩
  · rw [f S (by omega) (by omega)]; exact r0
  · rw [f S (by omega) (by omega)]; exact r1
  · rw [f S (by omega) (by omega)]; exact r2
  · rw [f S (by omega) (by omega)]; exact r3
  · rw [f S (by omega) (by omega)]; exact r4
  · rw [f S (by omega) (by omega)]; exact r5
  · rw [f S (by omega) (by omega)]; exact r6
  · rw [f S (by omega) (by omega)]; exact r7
  · rw [f (S + 1) (by omega) (by omega)]; exact r8 i hi
  · rw [f (S + 6) (by omega) (by omega)]; exact r9 i hi
  · rw [f (S + 12) (by omega) (by omega)]; exact r10 i hi
  · rw [f (S + 23) (by omega) (by omega)]; exact r11 i hi
  · have := adr_in (S := S) h2 hr
    rw [(e _ this.1 this.2).1]; exact h4 r hr k
/-- the references of the class's object -/
def Hd (M : Mem) : Prop := M.2.1 0 0 = some 1 ∧ M.2.1 0 1 = some 35 ∧ M.2.1 0 2 = some 69 ∧ M.2.1 0 4 = some 274 ∧ M.2.1 274 0 = some 275
theorem tp6 : m_tp 278 0 6 := ⟨by decide, by decide⟩
theorem tp5a : m_tp 278 1 5 := ⟨by decide, by decide⟩
section FO
variable {B M : Mem} {π π' : Nat → Nat} {A E : Ab} {c N T : Nat}
theorem Cq.rows {ρ : Nat → Nat} (h : Cq E A c) (h1 : ∀ k, k < c → ρ k < c) (hc : c ≤ 10) : Cq (rowsP E ρ) (rowsP A ρ) c := fun r f v => by
  by_cases q : 13 ≤ r ∧ r < 23
  · have hi : r - 13 < c := by unfold vis at v; omega
    have e1 := rowsP_J (A := E) (ρ := ρ) (k := r - 13) (by omega)
    have e2 := rowsP_J (A := A) (ρ := ρ) (k := r - 13) (by omega)
    rw [show 13 + (r - 13) = r by omega] at e1 e2
    rw [e1, e2]
    exact h.j (h1 _ hi) (by unfold vis at v; omega) (by unfold vis at v; omega)
  · rw [rowsP_o q, rowsP_o q]; exact h r f v
end FO
