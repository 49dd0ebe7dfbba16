/-! What is kept by the calls that change the shop. -/
section KCA
variable {A A' : Ab} {c N T U k p i : Nat} {τ : Nat → Int32}
theorem i32_st {s σ m z x : Int32} : s + x + σ + m + z = s + σ + m + z + x := by grind
theorem i32_cut {s σ m z x y : Int32} : s + (σ + (x - y - x)) + m + (z + y) = s + σ + m + z := by grind
theorem Kv.stock (h : Kv A c T U τ) (hc : c ≤ 10) (hi : i < 4) {x : Int32} : Kv (aU A (2 + i) 0 (A (2 + i) 0 + x)) c T U (fun h => if h = i then τ h + x else τ h) := by
  have o : ∀ r f, ¬ (r = 2 + i ∧ f = 0) → aU A (2 + i) 0 (A (2 + i) 0 + x) r f = A r f := fun r f h1 => up_o h1
  refine ⟨h.1.congr fun p hp hq f hf => o _ _ (by omega), h.2.1.congr fun d hd => o _ _ (by omega), h.2.2.1.congr fun f hf => o _ _ (by omega), dm_congr h.2.2.2.1 (fun d hd => o _ _ (by omega)) (fun i hi => o _ _ (by omega)), fun l hl => ?_⟩
  show tot _ c l = if l = i then τ l + x else τ l
  rw [← h.2.2.2.2 l hl]
  have es : sumN (bt (aU A (2 + i) 0 (A (2 + i) 0 + x)) (nI l)) c = sumN (bt A (nI l)) c := sumN_congr fun k hk => by unfold bt; rw [o _ 2 (by omega), o _ 7 (by omega)]
  unfold tot
  rw [es, o _ 3 (by omega), o _ 4 (by omega)]
  by_cases z : l = i
  · subst z
    rw [if_pos rfl, up_s]
    exact i32_st
  · rw [if_neg z, o _ _ (by omega)]
theorem Kv.range (h : Kv A c T U τ) (hc : c ≤ 10) (hi : i < 4) {x y : Int32} : Kv (aU (aU A (2 + i) 1 x) (2 + i) 2 y) c T U τ := by
  have o : ∀ r f, ¬ (r = 2 + i ∧ (f = 1 ∨ f = 2)) → aU (aU A (2 + i) 1 x) (2 + i) 2 y r f = A r f := fun r f h1 => by rw [up_o (by omega), up_o (by omega)]
  exact Kx.congr h (fun f hf => o _ _ (by omega)) (fun i hi f hf => o _ _ (by omega)) (fun d hd => ⟨o _ _ (by omega), o _ _ (by omega)⟩) (fun k hk => ⟨o _ _ (by omega), o _ _ (by omega)⟩) (fun p hp hq f hf => o _ _ (by omega))
theorem Kv.die (h : Kv A c T U τ) (hc : c ≤ 10) (hi : i < 5) {x y z : Int32} {l : Nat} (hl : y = nI l) (h1 : 10 ≤ l) (h2 : l ≤ 300) : Kv (aU (aU (aU A (7 + i) 0 x) (7 + i) 1 y) (7 + i) 2 z) c T U τ := by
  have o : ∀ r f, ¬ (r = 7 + i ∧ (f = 0 ∨ f = 1 ∨ f = 2)) → aU (aU (aU A (7 + i) 0 x) (7 + i) 1 y) (7 + i) 2 z r f = A r f := fun r f h1 => by rw [up_o (by omega), up_o (by omega), up_o (by omega)]
  refine ⟨h.1.congr fun p hp hq f hf => o _ _ (by omega), fun e he => ?_, h.2.2.1.congr fun f hf => o _ _ (by omega), dm_congr h.2.2.2.1 (fun d hd => o _ _ (by omega)) (fun i hi => o _ _ (by omega)), fun i hi => (tot_congr (fun i hi f hf => o _ _ (by omega)) (fun k hk => ⟨o _ _ (by omega), o _ _ (by omega)⟩) hi).trans (h.2.2.2.2 i hi)⟩
  by_cases w : e = i
  · subst w
    exact ⟨l, by rw [up_f (by omega), up_s]; exact hl, h1, h2⟩
  · rw [o _ _ (by omega)]
    exact h.2.1 e he
theorem Kv.toGo (h : Kv A c T U τ) (hc : c ≤ 10) (hi : i < 5) {x : Int32} : Kv (aU A (7 + i) 3 x) c T U τ := by
  have o : ∀ r f, ¬ (r = 7 + i ∧ f = 3) → aU A (7 + i) 3 x r f = A r f := fun r f h1 => up_o h1
  exact Kx.congr h (fun f hf => o _ _ (by omega)) (fun i hi f hf => o _ _ (by omega)) (fun d hd => ⟨o _ _ (by omega), o _ _ (by omega)⟩) (fun k hk => ⟨o _ _ (by omega), o _ _ (by omega)⟩) (fun p hp hq f hf => o _ _ (by omega))
theorem Kv.setting (h : Kv A c T U τ) (hc : c ≤ 10) (hi : i < 4) {x : Int32} : Kv (aU A 0 (7 + i) x) c T U τ := by
  have o : ∀ r f, ¬ (r = 0 ∧ f = 7 + i) → aU A 0 (7 + i) x r f = A r f := fun r f h1 => up_o h1
  exact Kx.congr h (fun f hf => o _ _ (by omega)) (fun i hi f hf => o _ _ (by omega)) (fun d hd => ⟨o _ _ (by omega), o _ _ (by omega)⟩) (fun k hk => ⟨o _ _ (by omega), o _ _ (by omega)⟩) (fun p hp hq f hf => o _ _ (by omega))
theorem bt_rows {B : Ab} {ρ : Nat → Nat} {x : Int32} (hk : k < 10) : bt (rowsP B ρ) x k = bt B x (ρ k) := by
  unfold bt
  rw [rowsP_J hk]
theorem Kv.rows (h : Kv A c T U τ) (hc : c ≤ 10) (hk : k < c) (hp : p < c) : Kv (rowsP A (mv k p)) c T U τ := by
  have o : ∀ r f, ¬ (13 ≤ r ∧ r < 23) → rowsP A (mv k p) r f = A r f := fun r f h1 => by rw [rowsP_o h1]
  refine ⟨h.1.congr fun p hp hq f hf => o _ _ (by omega), h.2.1.congr fun d hd => o _ _ (by omega), h.2.2.1.congr fun f hf => o _ _ (by omega), dm_congr h.2.2.2.1 (fun d hd => o _ _ (by omega)) (fun i hi => o _ _ (by omega)), fun l hl => ?_⟩
  refine Eq.trans ?_ (h.2.2.2.2 l hl)
  unfold tot
  rw [o _ 0 (by omega), o _ 3 (by omega), o _ 4 (by omega), sumN_congr (t' := bt (rowsP A (mv k p)) (nI l)) (t := fun j => bt A (nI l) (mv k p j)) (fun j hj => bt_rows (by omega)), sumN_mv hk hp]
theorem Kv.hsz {z : Bool} (h : Kv A c T U τ) (hc : c ≤ 10) (hk : k < c) (hp : p < c) : Kv (hasZ A k p z) c T U τ := by
  have o : ∀ r f, ¬ (r = 13 + k ∧ f = 6) → aU A (13 + k) 6 (bI z) r f = A r f := fun r f h1 => up_o h1
  exact Kv.rows (Kx.congr h (fun f hf => o _ _ (by omega)) (fun i hi f hf => o _ _ (by omega)) (fun d hd => ⟨o _ _ (by omega), o _ _ (by omega)⟩) (fun k hk => ⟨o _ _ (by omega), o _ _ (by omega)⟩) (fun p hp hq f hf => o _ _ (by omega))) hc hk hp
theorem Kv.add {d g pc u : Int32} {z : Bool} {q : Nat} (h : Kv A c T U τ) (hc : c < 10) (hq : q < c + 1) : Kv (addQ A c d g pc u z q) (c + 1) T U τ := by
  have o0 : ∀ f, f ≠ 5 → f ≠ 6 → addA A c d g pc u z 0 f = A 0 f := fun f h1 h2 => add_0 h1 h2
  have o : ∀ r, r ≠ 0 → r ≠ 13 + c → addA A c d g pc u z r = A r := fun r h1 h2 => add_r h1 h2
  obtain ⟨_, _, c2, _, _, _, _, c7⟩ := add_c (A := A) (c := c) (d := d) (g := g) (p := pc) (u := u) (z := z)
  have key : Kv (addA A c d g pc u z) (c + 1) T U τ := by
    refine ⟨h.1.congr fun p hp hq f hf => by rw [o _ (by omega) (by omega)], h.2.1.congr fun d hd => by rw [o _ (by omega) (by omega)], h.2.2.1.congr fun f hf => o0 _ (by omega) (by omega), dm_congr h.2.2.2.1 (fun d hd => by rw [o _ (by omega) (by omega)]) (fun i hi => by rw [o _ (by omega) (by omega)]), fun l hl => ?_⟩
    refine Eq.trans ?_ (h.2.2.2.2 l hl)
    have e : sumN (bt (addA A c d g pc u z) (nI l)) (c + 1) = sumN (bt A (nI l)) c := by
      show sumN (bt (addA A c d g pc u z) (nI l)) c + bt (addA A c d g pc u z) (nI l) c = _
      rw [sumN_congr (t' := bt (addA A c d g pc u z) (nI l)) (t := bt A (nI l)) (fun j hj => by unfold bt; rw [o _ (by omega) (by omega)])]
      have : bt (addA A c d g pc u z) (nI l) c = 0 := by
        unfold bt
        rw [c7]
        split <;> rfl
      rw [this, Int32.add_zero]
    unfold tot
    rw [e, o (2 + l) (by omega) (by omega)]
  exact Kv.rows key (by omega) (by omega) hq
theorem Kv.cut {x : Int32} (h : Kv A c T U τ) (ok : okN A c) (hk : k < c) : Kv (cutA A x (hj A k) k 7) c T U τ := by
  have hc := ok.2.1
  have hh := ok.h hk
  have o : ∀ r f, ¬ (24 ≤ r ∧ r < 31 ∧ f = 0) → ¬ (r = 2 + hj A k ∧ f = 4) → ¬ (r = 13 + k ∧ f = 7) → cutA A x (hj A k) k 7 r f = A r f := fun r f h1 h2 h3 => by
    unfold cutA
    rw [if_neg (fun w => h1 ⟨w.1, by omega, w.2.2.1⟩), if_neg h2, if_neg h3]
  have s4 : cutA A x (hj A k) k 7 (2 + hj A k) 4 = A (2 + hj A k) 4 + nI (cuN A x 7) := by
    unfold cutA
    rw [if_neg (by omega), if_pos ⟨rfl, rfl⟩]
  have s7 : cutA A x (hj A k) k 7 (13 + k) 7 = A (13 + k) 7 - nI (cuN A x 7) := by
    unfold cutA
    rw [if_neg (by omega), if_neg (by omega), if_pos ⟨rfl, rfl⟩]
  refine ⟨fun p hp hq h0 => ?_, h.2.1.congr fun d hd => o _ _ (by omega) (by omega) (by omega), h.2.2.1.congr fun f hf => o _ _ (by omega) (by omega) (by omega), dm_congr h.2.2.2.1 (fun d hd => o _ _ (by omega) (by omega) (by omega)) (fun i hi => o _ _ (by omega) (by omega) (by omega)), fun i hi => ?_⟩
  · rw [o _ 1 (by omega) (by omega) (by omega), o _ 2 (by omega) (by omega) (by omega)]
    refine h.1 p hp hq fun w => h0 ?_
    unfold cutA
    split
    · rfl
    · rw [if_neg (by omega), if_neg (by omega)]; exact w
  · refine Eq.trans ?_ (h.2.2.2.2 i hi)
    unfold tot
    rw [sum_job (A := A) (A' := cutA A x (hj A k) k 7) hk hh.2 hh.1 hi (fun l hl => o _ _ (by omega) (by omega) (by omega)) (fun l hl hne => o _ _ (by omega) (by omega) (by omega)), s7, o (2 + i) 3 (by omega) (by omega) (by omega), o (2 + i) 0 (by omega) (by omega) (by omega)]
    by_cases z : i = hj A k
    · rw [if_pos z, z, s4]
      exact i32_cut
    · rw [if_neg z, o _ _ (by omega) (by omega) (by omega), Int32.add_zero]
theorem Kv.drop (h : Kv A c T U τ) (hI : Iv A c N T) (hk : k < c) : Kv (dropA A c k) (c - 1) T U τ := by
  have hc := hI.1.1.2.1
  have w := h.cut (x := A (13 + k) 0) hI.1.1 hk
  refine (w.rem hc hk ?_).copy (drop_cp hI hk)
  unfold cutA
  rw [if_neg (by omega), if_neg (by omega), if_pos ⟨rfl, rfl⟩, show A (13 + k) 7 = nI (cuN A (A (13 + k) 0) 7) from hI.2.1.bc hk, Int32.sub_self]
end KCA
/-- all that is kept of a value, j turns after the start -/
def KW (A : Ab) (j : Nat) (τ : Nat → Int32) : Prop := ∃ N T U, N ≤ j ∧ T ≤ 67 * j ∧ U ≤ 60 * j ∧ Iv A (cnt A) N T ∧ Kv A (cnt A) T U τ
theorem KW.mono {A : Ab} {j i : Nat} {τ : Nat → Int32} (h : KW A j τ) (hi : j ≤ i) : KW A i τ := by
  obtain ⟨N, T, U, h1, h2, h3, h4⟩ := h
  exact ⟨N, T, U, by omega, by omega, by omega, h4⟩
theorem KW.copy {A A' : Ab} {j : Nat} {τ : Nat → Int32} (h : KW A j τ) (hC : Cp A' A (cnt A)) : KW A' j τ := by
  obtain ⟨N, T, U, h1, h2, h3, h4, h5⟩ := h
  have e : cnt A' = cnt A := hC.cq.cn
  exact ⟨N, T, U, h1, h2, h3, by rw [e]; exact h4.copy hC, by rw [e]; exact h5.copy hC⟩
theorem A0_kw : KW A0 0 (fun _ => 0) := by
  have e : cnt A0 = 0 := rfl
  refine ⟨0, 0, 0, by omega, by omega, by omega, by rw [e]; exact A0_iv, ?_⟩
  rw [e]
  refine ⟨fun p hp _ h0 => absurd ?_ h0, fun d hd => ⟨60, ?_, by omega, by omega⟩, ⟨0, 0, 0, 0, rfl, rfl, rfl, rfl, by omega, by omega, by omega, by omega, by omega⟩, ?_, fun h hh => ?_⟩
  · rw [A0_b (by omega)]; rfl
  · rw [A0_d (by omega)]; rfl
  · decide
  · rcases (by omega : h = 0 ∨ h = 1 ∨ h = 2 ∨ h = 3) with rfl | rfl | rfl | rfl <;> decide
