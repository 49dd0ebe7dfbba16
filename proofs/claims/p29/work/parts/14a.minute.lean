/-! The reference's minute is the shop's. -/
section MI
variable {B : Mem} {σ σ' : Nat → Int32} {A A' : Ab} {c N T : Nat} {m : Int32} {ι : Nat → Nat}
theorem aMinute_11 (h : Iv A c N T) : aMinute A 0 11 = A 0 11 + 1 := by
  have hc := h.1.1.2.1
  have h1 := h.tick.warm
  have h2 := h1.charge
  unfold aMinute
  rw [h.cn]
  have e1 : aCharge (aWarm (aTick A) 6) c 0 11 = A 0 11 + 1 := by
    rw [aCharge_o hc (by omega) (by omega) (by omega) h1.1.1, aWarm_o (by omega)]
    unfold aTick
    rw [up_s]
  rw [← e1]
  generalize hX : aCharge (aWarm (aTick A) 6) c = X at h2
  have e2 : ∀ Y : Ab, aTend Y 0 11 = Y 0 11 := fun Y => by
    have g : ∀ d, grindA Y d 0 11 = Y 0 11 := fun d => by
      unfold grindA
      split
      · rw [up_r (by omega)]
      · rw [up_r (by omega), up_r (by omega), up_r (by omega), up_r (by omega)]
    have w : ∀ Z : Ab, tendW Z 0 11 = Z 0 11 := fun Z => by
      unfold tendW
      cases wornA Z with
      | none => rfl
      | some d => show aU Z (7 + d) 3 _ 0 11 = _; rw [up_r (by omega)]
    unfold aTend
    cases groundA Y with
    | none => exact w Y
    | some d =>
      show (if Y (7 + d) 3 - 1 ≤ 0 then tendW (grindA Y d) else grindA Y d) 0 11 = _
      split
      · rw [w, g]
      · rw [g]
  rw [e2]
  unfold aPress
  split
  · unfold aLoad
    cases q : fst9 (canLd X) c 0 with
    | none => rfl
    | some k =>
      show (match hotA X k with | none => X | some p => mvB X 6 p) 0 11 = _
      cases hotA X k with
      | none => rfl
      | some p => exact mvB_o (by omega) (by omega)
  · cases q : placeA X c (X 30 0) with
    | none => rfl
    | some k =>
      have hk : k < c := by have := (fst9_some q).2.1; omega
      show aWork X c k 0 11 = _
      unfold aWork
      split
      · split
        · unfold aMade
          split
          · rw [makeA_0, strikeA_0 (by omega)]
          · rw [remA_o (by omega) (by omega), goneA_5 (by omega), makeA_0, strikeA_0 (by omega)]
        · rw [strikeA_0 (by omega)]
      · exact aBack_o (by omega) (h2.1.1.h hk).1 (by omega) (by omega) (by omega)
end MI
