/-! The text: the class reads a code. -/
def dgt (x : Int32) : Int32 := if x < 48 then -1 else if 57 < x then -1 else x - 48
def sepC (s : Nat → Int32) : Nat → Int32 := uS s 3 0
def endC (s : Nat → Int32) (x : Int32) : Nat → Int32 := if x = 33 then uS (uS s 8 1) 3 8 else sepC s
def endOk (x : Int32) : Bool := if x = 33 then true else decide (x = 59)
def okC (s : Nat → Int32) (x : Int32) : Bool :=
  if s 3 = 0 then !decide (dgt x ≤ 0)
  else if s 3 = 1 then (if x = 100 then true else if dgt x = -1 then false else !decide (40 < 10 * s 4 + dgt x))
  else if s 3 = 2 then (if dgt x = -1 then false else !decide (5 ≤ dgt x))
  else if s 3 = 3 then decide (x = 104)
  else if s 3 = 4 then (if dgt x = -1 then false else !decide (4 ≤ dgt x))
  else if s 3 = 5 then (if x = 64 then true else endOk x)
  else if s 3 = 6 then !decide (dgt x = -1)
  else if s 3 = 7 then (if dgt x = -1 then endOk x else if s 7 = 0 then false else !decide (9999 < 10 * s 7 + dgt x))
  else decide (x = 59)
def nxt (s : Nat → Int32) (x : Int32) : Nat → Int32 :=
  if s 3 = 0 then uS (uS (uS (uS s 4 (dgt x)) 7 9999) 8 0) 3 1
  else if s 3 = 1 then (if x = 100 then uS s 3 2 else uS s 4 (10 * s 4 + dgt x))
  else if s 3 = 2 then uS (uS s 5 (dgt x)) 3 3
  else if s 3 = 3 then uS s 3 4
  else if s 3 = 4 then uS (uS s 6 (dgt x)) 3 5
  else if s 3 = 5 then (if x = 64 then uS s 3 6 else endC s x)
  else if s 3 = 6 then uS (uS s 7 (dgt x)) 3 7
  else if s 3 = 7 then (if dgt x = -1 then endC s x else uS s 7 (10 * s 7 + dgt x))
  else sepC s
theorem tp4 : m_tp 283 274 4 := ⟨by decide, by decide⟩
theorem tp9 : m_tp 283 275 9 := ⟨by decide, by decide⟩
theorem len9 : m_len 275 = 60 := by decide
theorem ite_ft {p : Prop} [Decidable p] : (if p then false else true) = !decide p := by by_cases h : p <;> simp [h]
section TXT
variable {B : Mem} {s : Nat → Int32}
theorem x_sep {x : Int32} {P : Bool → Mem → Prop} (hp : P (decide (x = 59)) (wR B 274 (sepC s))) : wp_X4_readSeparator 283 (wR B 274 s) 274 x P := by
  refine ⟨tp4, fun M2 e2 => ?_⟩
  rw [wR_uI] at e2
  have : (!decide (¬ x = 59)) = decide (x = 59) := by simp
  rw [e2, ite_ft, this]
  exact hp
theorem x_end {x : Int32} {P : Bool → Mem → Prop} (hp : P (endOk x) (wR B 274 (endC s x))) : wp_X4_readEnd 283 (wR B 274 s) 274 x P := by
  unfold endOk endC at hp
  refine ⟨fun n => ⟨tp4, x_sep ?_⟩, fun e => ⟨tp4, fun M5 e5 M6 e6 => ?_⟩⟩
  · rw [if_neg n, if_neg n] at hp; exact hp
  · rw [if_pos e, if_pos e] at hp
    rw [wR_uI] at e5
    rw [e5, wR_uI] at e6
    rw [e6]; exact hp
theorem x_more {x : Int32} {P : Bool → Mem → Prop} (hp : P (if s 7 = 0 then false else !decide (9999 < 10 * s 7 + x)) (wR B 274 (uS s 7 (10 * s 7 + x)))) : wp_X4_readMoreDue 283 (wR B 274 s) 274 x P := by
  refine ⟨tp4, fun M2 e2 => ?_⟩
  rw [wR_1, wR_uI] at e2
  refine ⟨fun e => ?_, fun e => ?_⟩
  · rw [wR_1] at e
    have : s 7 = 0 := by
      rcases Decidable.em (s 7 = 0) with q | q
      · exact q
      · simp [q] at e
    rw [if_pos this] at hp
    rw [e2]; exact hp
  · rw [wR_1] at e
    have : ¬ s 7 = 0 := by
      intro q
      simp [q] at e
    rw [if_neg this] at hp
    rw [e2, wR_1, uS_s, ite_ft]; exact hp
theorem x_read {x : Int32} {P : Bool → Mem → Prop} (hp : P (okC s x) (wR B 274 (nxt s x))) : wp_X4_read 283 (wR B 274 s) 274 x P := by
  refine fun v1 h1 => ⟨tp4, ?_⟩
  have hv : v1 = dgt x := h1
  rw [wR_1]
  unfold okC nxt at hp
  refine ⟨fun e => ⟨tp4, fun M2 e2 M3 e3 M4 e4 M5 e5 => ?_⟩, fun n0 => ⟨fun e => ⟨fun n => fun M5 e5 => ?_, fun y M6 e6 => ?_⟩, fun n1 => ⟨fun e M7 e7 M8 e8 => ?_, fun n2 => ⟨fun e M9 e9 => ?_, fun n3 => ⟨fun e M10 e10 M11 e11 => ?_, fun n4 => ⟨fun e => ⟨fun n => x_end ?_, fun y M14 e14 => ?_⟩, fun n5 => ⟨fun e M15 e15 M16 e16 => ?_, fun n6 => ⟨fun e => ⟨fun n => x_more ?_, fun y => x_end ?_⟩, fun n7 => x_sep ?_⟩⟩⟩⟩⟩⟩⟩⟩
  · rw [if_pos e, if_pos e] at hp
    rw [wR_uI] at e2
    rw [e2, wR_uI] at e3
    rw [e3, wR_uI] at e4
    rw [e4, wR_uI] at e5
    rw [e5, hv, ite_ft]; exact hp
  · rw [if_neg n0, if_neg n0, if_pos e, if_pos e, if_neg n, if_neg n] at hp
    rw [wR_uI] at e5
    refine ⟨fun y => ?_, fun y => ?_⟩
    · rw [hv] at y
      rw [if_pos y] at hp
      rw [e5, hv]; exact hp
    · rw [hv] at y
      rw [if_neg y] at hp
      rw [e5, wR_1, uS_s, hv, ite_ft]; exact hp
  · rw [if_neg n0, if_neg n0, if_pos e, if_pos e, if_pos y, if_pos y] at hp
    rw [wR_uI] at e6
    rw [e6]; exact hp
  · rw [if_neg n0, if_neg n0, if_neg n1, if_neg n1, if_pos e, if_pos e] at hp
    rw [wR_uI] at e7
    rw [e7, wR_uI] at e8
    rw [e8, hv, ite_ft]; exact hp
  · rw [if_neg n0, if_neg n0, if_neg n1, if_neg n1, if_neg n2, if_neg n2, if_pos e, if_pos e] at hp
    rw [wR_uI] at e9
    rw [e9, ite_ft]; simpa using hp
  · rw [if_neg n0, if_neg n0, if_neg n1, if_neg n1, if_neg n2, if_neg n2, if_neg n3, if_neg n3, if_pos e, if_pos e] at hp
    rw [wR_uI] at e10
    rw [e10, wR_uI] at e11
    rw [e11, hv, ite_ft]; exact hp
  · rw [if_neg n0, if_neg n0, if_neg n1, if_neg n1, if_neg n2, if_neg n2, if_neg n3, if_neg n3, if_neg n4, if_neg n4, if_pos e, if_pos e, if_neg n, if_neg n] at hp
    exact hp
  · rw [if_neg n0, if_neg n0, if_neg n1, if_neg n1, if_neg n2, if_neg n2, if_neg n3, if_neg n3, if_neg n4, if_neg n4, if_pos e, if_pos e, if_pos y, if_pos y] at hp
    rw [wR_uI] at e14
    rw [e14]; exact hp
  · rw [if_neg n0, if_neg n0, if_neg n1, if_neg n1, if_neg n2, if_neg n2, if_neg n3, if_neg n3, if_neg n4, if_neg n4, if_neg n5, if_neg n5, if_pos e, if_pos e] at hp
    rw [wR_uI] at e15
    rw [e15, wR_uI] at e16
    rw [e16, hv, ite_ft]; exact hp
  · rw [hv] at n
    rw [if_neg n0, if_neg n0, if_neg n1, if_neg n1, if_neg n2, if_neg n2, if_neg n3, if_neg n3, if_neg n4, if_neg n4, if_neg n5, if_neg n5, if_neg n6, if_neg n6, if_pos e, if_pos e, if_neg n, if_neg n] at hp
    rw [hv]; exact hp
  · rw [hv] at y
    rw [if_neg n0, if_neg n0, if_neg n1, if_neg n1, if_neg n2, if_neg n2, if_neg n3, if_neg n3, if_neg n4, if_neg n4, if_neg n5, if_neg n5, if_neg n6, if_neg n6, if_pos e, if_pos e, if_pos y, if_pos y] at hp
    exact hp
  · rw [if_neg n0, if_neg n0, if_neg n1, if_neg n1, if_neg n2, if_neg n2, if_neg n3, if_neg n3, if_neg n4, if_neg n4, if_neg n5, if_neg n5, if_neg n6, if_neg n6, if_neg n7, if_neg n7] at hp
    exact hp
end TXT
