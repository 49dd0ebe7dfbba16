/-! From the law's entry, given what is to be shown of the memory. Laid by gen3.py. -/
def m_M0 : Mem := (fun _ _ => 0, fun _ _ => none, fun _ _ => 0)
set_option maxHeartbeats 8000000 in
set_option maxRecDepth 100000 in
theorem m_start {p : Program} {e : Env} {s : State} {m : MethodId} {below : List Frame} {meth : Method} {c : Code} (l : Launch) {sb L f : Nat} {xs : Nat → Int32} (C0 : lw_At p s m meth c sb L xs) (hp : wp_L_law xs L f m_M0) : W p l e room_1 s m #[Value.ref sb] below meth c s.heap [] 0 0 (lw_Z below #[Value.ref sb] s) (entryFrame m ([Value.ref sb] : List Value).toArray 13) := by
  obtain ⟨hx, hb, hr, hml, hown, hts, hX, hbl, hlocks, hgv⟩ := id C0
  obtain ⟨c0, i0, k0⟩ := u_known (C := RX0) (T := TX0) (N := 4) (n := 4) hts (by decide +kernel : ∀ w ∈ wsX00, w ∈ lw_tbl) (hts (.instantiable RX0 4) (by decide +kernel))
  obtain ⟨c1, i1, k1⟩ := u_known (C := RX1) (T := TX1) (N := 6) (n := 6) hts (by decide +kernel : ∀ w ∈ wsX10, w ∈ lw_tbl) (hts (.instantiable RX1 6) (by decide +kernel))
  obtain ⟨c2, i2, k2⟩ := u_known (C := RX2) (T := TX2) (N := 5) (n := 5) hts (by decide +kernel : ∀ w ∈ wsX20, w ∈ lw_tbl) (hts (.instantiable RX2 5) (by decide +kernel))
  obtain ⟨c3, i3, k3⟩ := u_known (C := RX3) (T := TX3) (N := 8) (n := 8) hts (by decide +kernel : ∀ w ∈ wsX30, w ∈ lw_tbl) (hts (.instantiable RX3 8) (by decide +kernel))
  obtain ⟨c4, i4, k4⟩ := u_known (C := RX4) (T := TX4) (N := 9) (n := 9) hts (by decide +kernel : ∀ w ∈ wsX40, w ∈ lw_tbl) (hts (.instantiable RX4 9) (by decide +kernel))
  obtain ⟨c5, i5, k5⟩ := u_known (C := RX5) (T := TX5) (N := 19) (n := 19) hts (by decide +kernel : ∀ w ∈ wsX50, w ∈ lw_tbl) (hts (.instantiable RX5 19) (by decide +kernel))
  obtain ⟨c6, i6, k6⟩ := u_known (C := RX6) (T := TX6) (N := 5) (n := 5) hts (by decide +kernel : ∀ w ∈ wsX60, w ∈ lw_tbl) (hts (.instantiable RX6 5) (by decide +kernel))
  obtain ⟨a8, b8, d8, e8, f8, g8⟩ := Cond.arrayClass_spec (type := .int) (hts (.arrayClass .int) (by decide +kernel))
  obtain ⟨a9, b9, d9, e9, f9, g9⟩ := Cond.arrayClass_spec (type := .char) (hts (.arrayClass .char) (by decide +kernel))
  obtain ⟨a10, b10, d10, e10, f10, g10⟩ := Cond.arrayClass_spec (type := .int) (hts (.arrayClass .int) (by decide +kernel))
  have o11 : va_AO RX0 s := va_AO.of (hts (.arrayOver (.object RX0)) (by decide +kernel))
  obtain ⟨d11, a11, b11, h11, -, f11, g11, e11⟩ := Cond.arrayOver_spec o11
  have o12 : va_AO RX1 s := va_AO.of (hts (.arrayOver (.object RX1)) (by decide +kernel))
  obtain ⟨d12, a12, b12, h12, -, f12, g12, e12⟩ := Cond.arrayOver_spec o12
  have o13 : va_AO RX2 s := va_AO.of (hts (.arrayOver (.object RX2)) (by decide +kernel))
  obtain ⟨d13, a13, b13, h13, -, f13, g13, e13⟩ := Cond.arrayOver_spec o13
  have o14 : va_AO RX3 s := va_AO.of (hts (.arrayOver (.object RX3)) (by decide +kernel))
  obtain ⟨d14, a14, b14, h14, -, f14, g14, e14⟩ := Cond.arrayOver_spec o14
  have o15 : va_AO RX5 s := va_AO.of (hts (.arrayOver (.object RX5)) (by decide +kernel))
  obtain ⟨d15, a15, b15, h15, -, f15, g15, e15⟩ := Cond.arrayOver_spec o15
  obtain ⟨D, hD⟩ : ∃ D : va_G, ∀ (k : Nat) (q : vw_C), m_cl[k]? = some q → u_Kn s q.1 q.2.1 q.2.2 (D.1 k) (D.2 k) := by
    refine ⟨(fun k => if k = 0 then c0 else if k = 1 then c1 else if k = 2 then c2 else if k = 3 then c3 else if k = 4 then c4 else if k = 5 then c5 else c6, fun k => if k = 0 then i0 else if k = 1 then i1 else if k = 2 then i2 else if k = 3 then i3 else if k = 4 then i4 else if k = 5 then i5 else i6), ?_⟩
    intro k q hq
    match k, hq with
    | 0, hq => cases hq; exact k0
    | 1, hq => cases hq; exact k1
    | 2, hq => cases hq; exact k2
    | 3, hq => cases hq; exact k3
    | 4, hq => cases hq; exact k4
    | 5, hq => cases hq; exact k5
    | 6, hq => cases hq; exact k6
    | k + 7, hq => simp [m_cl] at hq
  obtain ⟨cA, z8, z9, z10, z11, z12, z13, z14, z15⟩ : ∃ cA : Nat → ClassId, cA 8 = a8 ∧ cA 9 = a9 ∧ cA 10 = a10 ∧ cA 11 = a11 ∧ cA 12 = a12 ∧ cA 13 = a13 ∧ cA 14 = a14 ∧ cA 15 = a15 := ⟨fun k => if k = 8 then a8 else if k = 9 then a9 else if k = 10 then a10 else if k = 11 then a11 else if k = 12 then a12 else if k = 13 then a13 else if k = 14 then a14 else a15, rfl, rfl, rfl, rfl, rfl, rfl, rfl, rfl⟩
  have hK : m_K D cA s := by
    refine ⟨hD, ?_⟩
    intro k q hq
    match k, hq with
    | 0, hq => cases hq; exact ⟨by rw [z8]; exact fun n z => ⟨fun k h => (by cases h), b8, f8, d8, g8⟩, by rw [z8]; exact e8⟩
    | 1, hq => cases hq; exact ⟨by rw [z9]; exact fun n z => ⟨fun k h => (by cases h), b9, f9, d9, g9⟩, by rw [z9]; exact e9⟩
    | 2, hq => cases hq; exact ⟨by rw [z10]; exact fun n z => ⟨fun k h => (by cases h), b10, f10, d10, g10⟩, by rw [z10]; exact e10⟩
    | 3, hq => cases hq; exact ⟨by rw [z11]; exact fun n z => ⟨fun k h => (by cases h), b11, f11, d11, g11⟩, by rw [z11]; exact ⟨b11, d11, f11, g11, h11, e11⟩⟩
    | 4, hq => cases hq; exact ⟨by rw [z12]; exact fun n z => ⟨fun k h => (by cases h), b12, f12, d12, g12⟩, by rw [z12]; exact ⟨b12, d12, f12, g12, h12, e12⟩⟩
    | 5, hq => cases hq; exact ⟨by rw [z13]; exact fun n z => ⟨fun k h => (by cases h), b13, f13, d13, g13⟩, by rw [z13]; exact ⟨b13, d13, f13, g13, h13, e13⟩⟩
    | 6, hq => cases hq; exact ⟨by rw [z14]; exact fun n z => ⟨fun k h => (by cases h), b14, f14, d14, g14⟩, by rw [z14]; exact ⟨b14, d14, f14, g14, h14, e14⟩⟩
    | 7, hq => cases hq; exact ⟨by rw [z15]; exact fun n z => ⟨fun k h => (by cases h), b15, f15, d15, g15⟩, by rw [z15]; exact ⟨b15, d15, f15, g15, h15, e15⟩⟩
    | k + 8, hq => simp [m_tys] at hq
  have hY : m_Y s := ⟨o11, o12, o13, o14, o15, fun q hq => by
    simp only [m_nw, List.mem_cons, List.not_mem_nil, or_false] at hq
    rcases hq with rfl | rfl | rfl | rfl
    all_goals exact va_Nw.of rfl (hts _ (by decide +kernel))⟩
  have hl := lv_entry ([.ref sb]) (n := 13) (Nat.le_of_ble_eq_true rfl)
  rw [lg_entry_eq]
  generalize (lg_sl ([.ref sb]) ++ List.replicate (13 - (lg_sl ([.ref sb])).length) Slot.unset).toArray = ls at hl ⊢
  exact law_start C0 rfl hK hY hp ls hl
