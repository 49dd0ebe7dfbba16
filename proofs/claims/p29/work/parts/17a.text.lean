/-! The text: the class reads a code. -/
def dgt (x : Int32) : Int32 := if x < 48 then -1 else if 57 < x then -1 else x - 48
def sepC (s : Nat → Int32) : Nat → Int32 := uS s 3 0
def endC (s : Nat → Int32) (x : Int32) : Nat → Int32 := if x = 33 then uS (uS s 8 1) 3 8 else sepC s
def endOk (x : Int32) : Bool := if x = 33 then true else decide (x = 59)
def okC (s : Nat → Int32) (x : Int32) : Bool :=
  if s 3 = 0 then !decide (dgt x ≤ 0)
  else if s 3 = 1 then (if x = 100 then true else if dgt x = -1 then false else !decide (40 < 10 * s 4 + dgt x))
  else if s 3 = 2 then (if dgt x = -1 then false else !decide (5 ≤ dgt x))
  else if s 3 = 3 then decide (x = 104)
  else if s 3 = 4 then (if dgt x = -1 then false else !decide (4 ≤ dgt x))
  else if s 3 = 5 then (if x = 64 then true else endOk x)
  else if s 3 = 6 then !decide (dgt x = -1)
  else if s 3 = 7 then (if dgt x = -1 then endOk x else if s 7 = 0 then false else !decide (9999 < 10 * s 7 + dgt x))
  else decide (x = 59)
def nxt (s : Nat → Int32) (x : Int32) : Nat → Int32 :=
  if s 3 = 0 then uS (uS (uS (uS s 4 (dgt x)) 7 9999) 8 0) 3 1
  else if s 3 = 1 then (if x = 100 then uS s 3 2 else uS s 4 (10 * s 4 + dgt x))
  else if s 3 = 2 then uS (uS s 5 (dgt x)) 3 3
  else if s 3 = 3 then uS s 3 4
  else if s 3 = 4 then uS (uS s 6 (dgt x)) 3 5
  else if s 3 = 5 then (if x = 64 then uS s 3 6 else endC s x)
  else if s 3 = 6 then uS (uS s 7 (dgt x)) 3 7
  else if s 3 = 7 then (if dgt x = -1 then endC s x else uS s 7 (10 * s 7 + dgt x))
  else sepC s
section TXT
variable {B : Mem} {s : Nat → Int32}
end TXT
