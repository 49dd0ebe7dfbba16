/-! Calls that change the shop. -/
def qO (x : Int32) (Q : Nat → Ab) (s : Nat) (A : Ab) : Nat → Ab := if x = 0 then pQ Q s A else Q
def sO (x : Int32) (s : Nat) : Nat := if x = 0 then sN s else s
theorem qO_n {x : Int32} {Q : Nat → Ab} {s : Nat} {A : Ab} (h : x ≠ 0) : qO x Q s A = Q := if_neg h
theorem sO_n {x : Int32} {s : Nat} (h : x ≠ 0) : sO x s = s := if_neg h
theorem qO_0 {Q : Nat → Ab} {s : Nat} {A : Ab} : qO 0 Q s A = pQ Q s A := if_pos rfl
theorem sO_0 {s : Nat} : sO 0 s = sN s := if_pos rfl
section MUT
variable {M M2 M3 M4 : Mem} {A A' : Ab} {Q Q' : Nat → Ab} {s s' b j : Nat} {cd : Nat → Nat} {P : Int32 → Mem → Prop} {o : Int32 × Int32 × Ab} {v x : Int32} {π : Nat → Nat}
theorem hp_ok (hp : ∀ M', KC M' o.2.2 (qO o.1 Q s A) (sO o.1 s) b cd → FrL M M' → (o.1 = 0 → M'.2.2 282 0 = o.2.1.toInt64) → P o.1 M') (eo : o = (0, v, A')) : ∀ M', KC M' A' (pQ Q s A) (sN s) b cd → FrL M M' → M'.2.2 282 0 = v.toInt64 → P 0 M' := by
  subst eo
  exact fun M' c1 c2 c3 => hp M' (by rw [qO_0, sO_0]; exact c1) c2 fun _ => c3
theorem hp_no (hp : ∀ M', KC M' o.2.2 (qO o.1 Q s A) (sO o.1 s) b cd → FrL M M' → (o.1 = 0 → M'.2.2 282 0 = o.2.1.toInt64) → P o.1 M') (eo : o = (x, 0, A)) (hx : x ≠ 0) (h : KC M A Q s b cd) : P x M := by
  subst eo
  exact hp M (by rw [qO_n hx, sO_n hx]; exact h) FrL.rf fun w => absurd w hx
theorem hr_ok (hp : ∀ r M', KR M' o.2.2 (qO o.1 Q s A) (sO o.1 s) b cd → FrR M M' → M'.1 276 0 = o.1 → (o.1 = 0 → r = o.2.1) → P r M') (eo : o = (0, v, A')) : ∀ M', KR M' A' (pQ Q s A) (sN s) b cd → FrR M M' → M'.1 276 0 = 0 → P v M' := by
  subst eo
  exact fun M' c1 c2 c3 => hp v M' (by rw [qO_0, sO_0]; exact c1) c2 c3 fun _ => rfl
theorem hr_no (hp : ∀ r M', KR M' o.2.2 (qO o.1 Q s A) (sO o.1 s) b cd → FrR M M' → M'.1 276 0 = o.1 → (o.1 = 0 → r = o.2.1) → P r M') (eo : o = (x, 0, A)) (hx : x ≠ 0) (h2 : KR M2 A Q s b cd) (f2 : FrR M M2) : wp_X7_fails 283 M2 276 x P := by
  subst eo
  exact rx_fail h2 f2 fun M' c1 c2 c3 => hp 0 M' (by rw [qO_n hx, sO_n hx]; exact c1) c2 c3 fun w => absurd w hx
theorem lx_mut (k3 : KC M3 A Q' s' b cd) (f3 : FrC M M3) (c4 : CF M3 M4 1 π A') (hp : ∀ M', KC M' A' Q' s' b cd → FrL M M' → M'.2.2 282 0 = v.toInt64 → P 0 M') : m_tp 283 282 10 ∧ (vp_in 0 (m_len 282) ∧ (∀ M6 : Mem, M6 = uL M4 282 (0 : Int32).toNatClampNeg (v.toInt64) → P 0 M6)) :=
  lx_ok (k3.shop c4) (FrL.tr f3.1 c4.frc.1) hp
theorem rx_mut (k3 : KR M3 A Q' s' b cd) {σ' : Nat → Int32} (hR : ∃ ι, Rel A' (cnt A') (A' 0 11) ι σ') : KR (sM M3 σ') A' Q' s' b cd ∧ FrR M3 (sM M3 σ') ∧ (sM M3 σ').1 276 0 = M3.1 276 0 := by
  obtain ⟨hB, _, h4, hQ, h6, hq⟩ := k3
  refine ⟨⟨hB, by rw [sM_1]; exact hR, by rw [sM_o (by omega)]; exact h4, fun i hi => ?_, by rw [sM_o (by omega)]; exact h6, fun i hi => by rw [sM_o (by omega)]; exact hq i hi⟩, ⟨fun a ha => ⟨sM_o (by omega), rfl⟩, fun _ => rfl⟩, by rw [sM_o (by omega)]⟩
  rw [sM_o (by omega)]; exact hQ i hi
theorem KP.le (kp : KP A Q s j) : cnt A ≤ 10 ∧ ∀ i, i < s → cnt (Q i) ≤ 10 := by
  obtain ⟨⟨N, T, _, _, hI⟩, hq⟩ := kp
  refine ⟨hI.1.1.2.1, fun i hi => ?_⟩
  obtain ⟨N, T, _, _, hI⟩ := hq i hi
  exact hI.1.1.2.1
theorem KP.push (kp : KP A Q s j) (hs : s ≤ 6) (ka : KV A' (j + 1)) : KP A' (pQ Q s A) (sN s) (j + 1) := by
  refine ⟨ka, fun i hi => ?_⟩
  unfold pQ
  split
  · exact kp.1.mono (by omega)
  · unfold sN at hi
    split at hi
    · rename_i h1 h2
      rw [if_pos h2]
      have e1 : sN s = 6 := if_pos h2
      exact (kp.2 _ (by omega)).mono (by omega)
    · rename_i h1 h2
      rw [if_neg h2]
      have e1 : sN s = s + 1 := if_neg h2
      exact (kp.2 _ (by omega)).mono (by omega)
theorem r_savesK2 (h : KR M A Q s b cd) (hs : s ≤ 6) (kp : KP A Q s j) {P : Mem → Prop} (hp : ∀ M', KR M' A (pQ Q s A) (sN s) b cd → FrR M M' → M'.1 276 0 = M.1 276 0 → M'.1 277 = M.1 277 → P M') : wp_X7_saves 283 M 276 P := by
  obtain ⟨hB, ⟨ι, hR⟩, h4, hQ, h6, hq⟩ := h
  refine r_saves hB hs h4 fun M' e1 e2 e3 e4 e5 => hp M' ⟨by unfold RB; rw [e3]; exact hB, ⟨ι, by rw [e1 277 (by omega) (by omega)]; exact hR⟩, e4, fun i hi => ?_, by rw [e2 6 (by omega)]; exact h6, fun i hi => by rw [e1 280 (by omega) (by omega)]; exact hq i hi⟩ ⟨fun a ha => ⟨e1 a (by omega) (by omega), by rw [e3]⟩, fun k => by rw [e3]⟩ (e2 0 (by omega)) (e1 277 (by omega) (by omega))
  have hi' : i < (if s = 6 then 6 else s + 1) := hi
  by_cases w : i + 1 = sN s
  · have e : pQ Q s A i = A := if_pos w
    rw [e]
    refine ⟨ι, hR.eq158 kp.le.1 fun k hk => ?_⟩
    show M'.1 279 (158 * i + k) = _
    rw [e5 i k hi' hk]
    exact if_pos w
  · have e : pQ Q s A i = Q (if s = 6 then i + 1 else i) := if_neg w
    have hlt : (if s = 6 then i + 1 else i) < s := by
      have w' : ¬ i + 1 = (if s = 6 then 6 else s + 1) := w
      split at hi' <;> split at w' <;> split <;> omega
    rw [e]
    obtain ⟨ι', hR'⟩ := hQ _ hlt
    refine ⟨ι', hR'.eq158 (kp.le.2 _ hlt) fun k hk => ?_⟩
    show M'.1 279 (158 * i + k) = M.1 279 (158 * (if s = 6 then i + 1 else i) + k)
    rw [e5 i k hi' hk]
    exact if_neg w
theorem r_savesK3 (h : KR M A Q s b cd) (hs : s ≤ 6) (kp : KP A Q s j) {P : Mem → Prop} (hp : ∀ M', KR M' A (pQ Q s A) (sN s) b cd → FrR M M' → M'.1 276 0 = M.1 276 0 → ((∀ f, f ≠ 4 → M'.1 276 f = M.1 276 f) ∧ M'.1 281 = M.1 281) → P M') : wp_X7_saves 283 M 276 P := by
  obtain ⟨hB, ⟨ι, hR⟩, h4, hQ, h6, hq⟩ := h
  refine r_saves hB hs h4 fun M' e1 e2 e3 e4 e5 => hp M' ⟨by unfold RB; rw [e3]; exact hB, ⟨ι, by rw [e1 277 (by omega) (by omega)]; exact hR⟩, e4, fun i hi => ?_, by rw [e2 6 (by omega)]; exact h6, fun i hi => by rw [e1 280 (by omega) (by omega)]; exact hq i hi⟩ ⟨fun a ha => ⟨e1 a (by omega) (by omega), by rw [e3]⟩, fun k => by rw [e3]⟩ (e2 0 (by omega)) ⟨e2, e1 281 (by omega) (by omega)⟩
  have hi' : i < (if s = 6 then 6 else s + 1) := hi
  by_cases w : i + 1 = sN s
  · have e : pQ Q s A i = A := if_pos w
    rw [e]
    refine ⟨ι, hR.eq158 kp.le.1 fun k hk => ?_⟩
    show M'.1 279 (158 * i + k) = _
    rw [e5 i k hi' hk]
    exact if_pos w
  · have e : pQ Q s A i = Q (if s = 6 then i + 1 else i) := if_neg w
    have hlt : (if s = 6 then i + 1 else i) < s := by
      have w' : ¬ i + 1 = (if s = 6 then 6 else s + 1) := w
      split at hi' <;> split at w' <;> split <;> omega
    rw [e]
    obtain ⟨ι', hR'⟩ := hQ _ hlt
    refine ⟨ι', hR'.eq158 (kp.le.2 _ hlt) fun k hk => ?_⟩
    show M'.1 279 (158 * i + k) = M.1 279 (158 * (if s = 6 then i + 1 else i) + k)
    rw [e5 i k hi' hk]
    exact if_neg w
theorem r_savesK (h : KR M A Q s b cd) (hs : s ≤ 6) (kp : KP A Q s j) {P : Mem → Prop} (hp : ∀ M', KR M' A (pQ Q s A) (sN s) b cd → FrR M M' → M'.1 276 0 = M.1 276 0 → P M') : wp_X7_saves 283 M 276 P := r_savesK2 h hs kp fun M' a b c _ => hp M' a b c
end MUT
/-! stock, range -/
def oStock (A : Ab) (p1 p2 : Int32) : Int32 × Int32 × Ab := if inB p1 0 3 = true then (if inB p2 1 99 = true then (if A (2 + p1.toNatClampNeg) 0 + p2 ≤ 200 then (0, A (2 + p1.toNatClampNeg) 0 + p2, aU A (2 + p1.toNatClampNeg) 0 (A (2 + p1.toNatClampNeg) 0 + p2)) else (3, 0, A)) else (2, 0, A)) else (1, 0, A)
def oRange (A : Ab) (p1 p2 p3 : Int32) : Int32 × Int32 × Ab := if inB p1 0 3 = true then (if inB p2 600 1240 = true then (if inB p3 p2 1240 = true then (0, 10000 * A (2 + p1.toNatClampNeg) 1 + A (2 + p1.toNatClampNeg) 2, aU (aU A (2 + p1.toNatClampNeg) 1 p2) (2 + p1.toNatClampNeg) 2 p3) else (2, 0, A)) else (2, 0, A)) else (1, 0, A)
section STK
variable {M : Mem} {A : Ab} {Q : Nat → Ab} {s b j : Nat} {cd : Nat → Nat} {p1 p2 p3 : Int32} {P : Int32 → Mem → Prop}
theorem cnt_r {r f : Nat} {v : Int32} (h : r ≠ 0) : cnt (aU A r f v) = cnt A := by
  unfold cnt
  rw [up_r (fun w => h w.symm)]
theorem cnt_f {f : Nat} {v : Int32} (h : f ≠ 5) : cnt (aU A 0 f v) = cnt A := by
  unfold cnt
  rw [up_f (fun w => h w.symm)]
theorem Iv.stock {c N T : Nat} (h : Iv A c N T) {i n : Nat} (hi : i < 4) (hn : n ≤ 200) : Iv (aU A (2 + i) 0 (nI n)) c N T := by
  have hc := h.1.1.2.1
  have h2 : Iv (aU A (2 + i) 1 (A (2 + i) 1)) c N T := h.congr (fun f hf => up_r (by omega)) (fun q hq => ⟨up_o (by omega), up_o (by omega), up_o (by omega)⟩) (fun d hd => ⟨up_r (by omega), up_r (by omega), up_r (by omega)⟩) (fun k hk f hf => up_r (by omega)) (fun p hp => ⟨up_r (by omega), up_r (by omega), up_r (by omega)⟩)
  obtain ⟨j, e, l, bb, d, ss, t⟩ := h
  refine ⟨j.congr (fun f hf => up_r (by omega)) (fun k hk f hf => up_r (by omega)), fun k hk => ?_, fun k hk => ?_, ⟨fun p hp => ?_, fun p hp => ?_⟩, ⟨fun q hq => ?_, fun q q' hq hq' h1 h2 => ?_⟩, ?_, fun q hq => ?_⟩
  · rw [up_r (by omega)]
    have := bc_congr (A' := aU A (2 + i) 0 (nI n)) (A := A) (k := k) (fun p hp => up_r (by omega)) (up_r (by omega))
    exact (e.bc hk).trans (by rw [← this]; rfl)
  · obtain ⟨p, m, e1, e2, e3, e4⟩ := l k hk
    exact ⟨p, m, (up_r (by omega)).trans e1, (up_r (by omega)).trans e2, e3, by rw [bc_congr (fun p hp => up_r (by omega)) (up_r (by omega))]; exact e4⟩
  · rw [up_r (by omega), up_r (by omega)]
    rcases bb.1 p hp with w | ⟨⟨k, hk, w⟩, z⟩
    · exact Or.inl w
    · exact Or.inr ⟨⟨k, hk, by rw [up_r (by omega)]; exact w⟩, z⟩
  · rw [up_r (by omega)]; exact bb.2 p hp
  · obtain ⟨b1, l1, g1, x⟩ := d.1 q hq
    rw [up_r (by omega), up_r (by omega), up_r (by omega)]
    exact ⟨b1, l1, g1, x⟩
  · rw [up_r (by omega)] at h1 h2
    exact d.2 q q' hq hq' h1 h2
  · unfold iS
    rw [up_r (by omega), up_r (by omega), up_r (by omega), up_r (by omega)]
    exact ss
  · obtain ⟨s0, a, b0, e1, e2, e3, e4, e5, e6⟩ := t q hq
    by_cases w : q = i
    · subst w
      exact ⟨n, a, b0, up_s, hn, by rw [up_f (by omega)]; exact e3, e4, by rw [up_f (by omega)]; exact e5, e6⟩
    · exact ⟨s0, a, b0, by rw [up_r (by omega)]; exact e1, e2, by rw [up_r (by omega)]; exact e3, e4, by rw [up_r (by omega)]; exact e5, e6⟩
theorem lx_stock (h : KC M A Q s b cd) (hv : KV A j) (hp : ∀ M', KC M' (oStock A p1 p2).2.2 (qO (oStock A p1 p2).1 Q s A) (sO (oStock A p1 p2).1 s) b cd → FrL M M' → ((oStock A p1 p2).1 = 0 → M'.2.2 282 0 = (oStock A p1 p2).2.1.toInt64) → P (oStock A p1 p2).1 M') : wp_L_stock 283 M 0 p1 p2 282 P := by
  obtain ⟨N, T, -, -, hI⟩ := hv
  obtain ⟨π1, h1⟩ := h.2.1
  have hd := h.1
  refine ⟨tp6, ⟨fun e1 => ⟨fun e2 => ⟨tp6, 1, hd.1, tp5a, ?_⟩, fun e2 => Or.inr (Or.inl ⟨rfl, ?_⟩)⟩, fun e1 => Or.inl ⟨rfl, ?_⟩⟩⟩
  · obtain ⟨n, hn, _, hn3⟩ := inB_get (l := 0) (h := 3) (by omega) (by omega) e1
    refine x_heatAt h1 (i := n) (by omega) hn ⟨h1.tpH (by omega), fun e3 => ?_, fun e3 => Or.inr (Or.inr ⟨rfl, ?_⟩)⟩
    · rw [h1.H (by omega)] at e3
      have eo : oStock A p1 p2 = (0, A (2 + n) 0 + p2, aU A (2 + n) 0 (A (2 + n) 0 + p2)) := by
        unfold oStock
        rw [if_pos (show inB p1 0 3 = true from e1), if_pos (show inB p2 1 99 = true from e2), hn, nI_clamp (by omega), if_pos e3]
      refine x_remember h hI.1.1 fun M3 k3 f3 M4 e4 => ?_
      obtain ⟨π3, c3⟩ := k3.2.1
      rw [c3.H (by omega)] at e4
      have c4 := c3.uH (i := n) (by omega) e4
      rw [c4.H (by omega), up_s]
      exact lx_mut k3 f3 c4 (hp_ok hp eo)
    · rw [h1.H (by omega)] at e3
      have eo : oStock A p1 p2 = (3, 0, A) := by
        unfold oStock
        rw [if_pos (show inB p1 0 3 = true from e1), if_pos (show inB p2 1 99 = true from e2), hn, nI_clamp (by omega), if_neg e3]
      exact hp_no hp eo (by decide) h
  · have eo : oStock A p1 p2 = (2, 0, A) := by
      unfold oStock
      rw [if_pos (show inB p1 0 3 = true from e1), show inB p2 1 99 = false from e2]; rfl
    exact hp_no hp eo (by decide) h
  · have eo : oStock A p1 p2 = (1, 0, A) := by
      unfold oStock
      rw [show inB p1 0 3 = false from e1]; rfl
    exact hp_no hp eo (by decide) h
theorem rx_stock (h : KR M A Q s b cd) (hs : s ≤ 6) (kp : KP A Q s j) (hp : ∀ r M', KR M' (oStock A p1 p2).2.2 (qO (oStock A p1 p2).1 Q s A) (sO (oStock A p1 p2).1 s) b cd → FrR M M' → M'.1 276 0 = (oStock A p1 p2).1 → ((oStock A p1 p2).1 = 0 → r = (oStock A p1 p2).2.1) → P r M') : wp_X7_stock 283 M 276 p1 p2 P := by
  have hc := kp.le.1
  refine ⟨tp7, fun M2 e2 => ?_⟩
  subst e2
  obtain ⟨h2, f2, z2⟩ := h.th FrR.rf (v := 0)
  generalize uI M 276 0 0 = M2 at h2 f2 z2 ⊢
  obtain ⟨ι, hR⟩ := h2.2.1
  refine ⟨fun e1 => ⟨fun e2 => ?_, fun e2 => hr_no hp ?_ (by decide) h2 f2⟩, fun e1 => hr_no hp ?_ (by decide) h2 f2⟩
  · obtain ⟨n, hn, _, hn3⟩ := inB_get (l := 0) (h := 3) (by omega) (by omega) e1
    rw [← sM_self (M := M2)]
    refine r_heatOf h2.1 (h := n) (f := 0) (by omega) (by omega) hn rfl ?_
    rw [hR.2.2.1 n (by omega) 0 (by omega), sM_self]
    refine ⟨fun e3 => ?_, fun e3 => hr_no hp ?_ (by decide) h2 f2⟩
    · have eo : oStock A p1 p2 = (0, A (2 + n) 0 + p2, aU A (2 + n) 0 (A (2 + n) 0 + p2)) := by
        unfold oStock
        rw [if_pos (show inB p1 0 3 = true from e1), if_pos (show inB p2 1 99 = true from e2), hn, nI_clamp (by omega), if_pos e3]
      have hp := hr_ok hp eo
      refine r_savesK h2 hs kp fun M3 k3 f3 z3 => ?_
      obtain ⟨ι3, hR3⟩ := k3.2.1
      rw [← sM_self (M := M3)]
      have ix : (15 + 5 * p1) + 0 = nI (15 + 5 * n + 0) := ix3 (a := 15) (b := 5) hn (f := 0) rfl
      refine r_inc k3.1 (i := 15 + 5 * n + 0) (by omega) ix (g := fun w => w + p2) ?_
      rw [hR3.2.2.1 n (by omega) 0 (by omega)]
      refine r_heatOf k3.1 (h := n) (f := 0) (by omega) (by omega) hn rfl ?_
      rw [uS_s]
      have km := rx_mut k3 (A' := aU A (2 + n) 0 (A (2 + n) 0 + p2)) (σ' := uS (M3.1 277) (15 + 5 * n + 0) (A (2 + n) 0 + p2)) ⟨ι3, by rw [cnt_r (by omega), up_r (by omega)]; exact hR3.heat0 hc (by omega)⟩
      exact hp _ km.1 ((f2.tr f3).tr km.2.1) (km.2.2.trans (z3.trans z2))
    · unfold oStock
      rw [if_pos (show inB p1 0 3 = true from e1), if_pos (show inB p2 1 99 = true from e2), hn, nI_clamp (by omega), if_neg e3]
  · unfold oStock
    rw [if_pos (show inB p1 0 3 = true from e1), show inB p2 1 99 = false from e2]; rfl
  · unfold oStock
    rw [show inB p1 0 3 = false from e1]; rfl
theorem px_stock (hv : KV A j) : KV (oStock A p1 p2).2.2 (j + 1) := by
  have hm := hv.mono (i := j + 1) (by omega)
  unfold oStock
  split
  · rename_i e1
    split
    · rename_i e2
      split
      · rename_i e3
        obtain ⟨N, T, h1, h2, hI⟩ := hm
        obtain ⟨n, hn, _, hn3⟩ := inB_get (l := 0) (h := 3) (by omega) (by omega) e1
        obtain ⟨m, hm, _, hm3⟩ := inB_get (l := 1) (h := 99) (by omega) (by omega) e2
        rw [hn, nI_clamp (by omega)] at e3 ⊢
        obtain ⟨s0, _, _, q1, q2, _⟩ := hI.2.2.2.2.2.2 n (by omega)
        rw [q1, hm, nI_add] at e3
        have := (nI_leI (b := 200) (by omega) (by omega)).mp e3
        refine ⟨N, T, h1, h2, ?_⟩
        show Iv (aU A (2 + n) 0 (A (2 + n) 0 + p2)) (cnt (aU A (2 + n) 0 (A (2 + n) 0 + p2))) N T
        rw [cnt_r (by omega), q1, hm, nI_add]
        exact hI.stock (by omega) this
      · exact hm
    · exact hm
  · exact hm
theorem lx_range (h : KC M A Q s b cd) (hv : KV A j) (hp : ∀ M', KC M' (oRange A p1 p2 p3).2.2 (qO (oRange A p1 p2 p3).1 Q s A) (sO (oRange A p1 p2 p3).1 s) b cd → FrL M M' → ((oRange A p1 p2 p3).1 = 0 → M'.2.2 282 0 = (oRange A p1 p2 p3).2.1.toInt64) → P (oRange A p1 p2 p3).1 M') : wp_L_range 283 M 0 p1 p2 p3 282 P := by
  obtain ⟨N, T, -, -, hI⟩ := hv
  have hd := h.1
  refine ⟨tp6, ⟨fun e1 => ⟨fun e2 => Or.inr ⟨rfl, ?_⟩, fun e2 => ⟨fun e3 => ⟨tp6, ?_⟩, fun e3 => Or.inr ⟨rfl, ?_⟩⟩⟩, fun e1 => Or.inl ⟨rfl, ?_⟩⟩⟩
  · have eo : oRange A p1 p2 p3 = (2, 0, A) := by
      unfold oRange
      rw [if_pos (show inB p1 0 3 = true from e1), show inB p2 600 1240 = false from e2]; rfl
    exact hp_no hp eo (by decide) h
  · obtain ⟨n, hn, _, hn3⟩ := inB_get (l := 0) (h := 3) (by omega) (by omega) e1
    have eo : oRange A p1 p2 p3 = (0, 10000 * A (2 + n) 1 + A (2 + n) 2, aU (aU A (2 + n) 1 p2) (2 + n) 2 p3) := by
      unfold oRange
      rw [if_pos (show inB p1 0 3 = true from e1), if_pos (show inB p2 600 1240 = true from e2), if_pos (show inB p3 p2 1240 = true from e3), hn, nI_clamp (by omega)]
    refine x_remember h hI.1.1 fun M3 k3 f3 => ?_
    obtain ⟨π3, c3⟩ := k3.2.1
    refine ⟨1, k3.1.1, tp5a, x_heatAt c3 (i := n) (by omega) hn ⟨c3.tpH (by omega), fun v15 e15 M16 e16 M17 e17 => ?_⟩⟩
    rw [c3.H (by omega), c3.H (by omega)] at e15
    have c4 := (c3.uH (i := n) (by omega) e16).uH (i := n) (by omega) e17
    rw [e15]
    exact lx_mut k3 f3 c4 (hp_ok hp eo)
  · have eo : oRange A p1 p2 p3 = (2, 0, A) := by
      unfold oRange
      rw [if_pos (show inB p1 0 3 = true from e1), if_pos (show inB p2 600 1240 = true from e2), show inB p3 p2 1240 = false from e3]; rfl
    exact hp_no hp eo (by decide) h
  · have eo : oRange A p1 p2 p3 = (1, 0, A) := by
      unfold oRange
      rw [show inB p1 0 3 = false from e1]; rfl
    exact hp_no hp eo (by decide) h
theorem Rel.heatF {c : Nat} {m : Int32} {ι : Nat → Nat} {σ : Nat → Int32} (h : Rel A c m ι σ) (hc : c ≤ 10) {i f : Nat} (hi : i < 4) (hf : f < 3) {v : Int32} : Rel (aU A (2 + i) f v) c m ι (uS σ (15 + 5 * i + f) v) :=
  ⟨h.1.congr (fun k hk => uS_o (by omega)) (fun g _ _ _ => up_r (by omega)) (fun k hk => up_o (by omega)) (fun k hk => up_o (by omega)), h.2.1.congr (fun k a b => uS_o (by omega)) (fun d hd => up_r (by omega)), fun k hk g hg => by
    by_cases w : k = i ∧ g = f
    · obtain ⟨rfl, rfl⟩ := w
      rw [uS_s, up_s]
    · rw [uS_o (by omega), up_o (by omega)]; exact h.2.2.1 k hk g hg, h.2.2.2.1.congr (fun k a b => uS_o (by omega)) (fun d hd g hg => up_r (by omega)), h.2.2.2.2.1.congr hc (fun k a b => uS_o (by omega)) (fun k hk g hg => up_r (by omega)), h.2.2.2.2.2.congr (fun k a b => uS_o (by omega)) (fun p hp g hg => up_r (by omega))⟩
theorem rx_range (h : KR M A Q s b cd) (hs : s ≤ 6) (kp : KP A Q s j) (hp : ∀ r M', KR M' (oRange A p1 p2 p3).2.2 (qO (oRange A p1 p2 p3).1 Q s A) (sO (oRange A p1 p2 p3).1 s) b cd → FrR M M' → M'.1 276 0 = (oRange A p1 p2 p3).1 → ((oRange A p1 p2 p3).1 = 0 → r = (oRange A p1 p2 p3).2.1) → P r M') : wp_X7_range 283 M 276 p1 p2 p3 P := by
  have hc := kp.le.1
  refine ⟨tp7, fun M2 e2 => ?_⟩
  subst e2
  obtain ⟨h2, f2, z2⟩ := h.th FrR.rf (v := 0)
  generalize uI M 276 0 0 = M2 at h2 f2 z2 ⊢
  refine ⟨fun e1 => ⟨fun e2 => hr_no hp ?_ (by decide) h2 f2, fun e2 => ⟨fun e3 => ?_, fun e3 => hr_no hp ?_ (by decide) h2 f2⟩⟩, fun e1 => hr_no hp ?_ (by decide) h2 f2⟩
  · unfold oRange
    rw [if_pos (show inB p1 0 3 = true from e1), show inB p2 600 1240 = false from e2]; rfl
  · obtain ⟨n, hn, _, hn3⟩ := inB_get (l := 0) (h := 3) (by omega) (by omega) e1
    have eo : oRange A p1 p2 p3 = (0, 10000 * A (2 + n) 1 + A (2 + n) 2, aU (aU A (2 + n) 1 p2) (2 + n) 2 p3) := by
      unfold oRange
      rw [if_pos (show inB p1 0 3 = true from e1), if_pos (show inB p2 600 1240 = true from e2), if_pos (show inB p3 p2 1240 = true from e3), hn, nI_clamp (by omega)]
    have hp := hr_ok hp eo
    refine r_savesK h2 hs kp fun M3 k3 f3 z3 => ?_
    obtain ⟨ι3, hR3⟩ := k3.2.1
    rw [← sM_self (M := M3)]
    refine r_heatOf k3.1 (h := n) (f := 1) (by omega) (by omega) hn rfl ?_
    refine r_heatOf k3.1 (h := n) (f := 2) (by omega) (by omega) hn rfl fun v17 e17 => ?_
    rw [hR3.2.2.1 n (by omega) 1 (by omega), hR3.2.2.1 n (by omega) 2 (by omega)] at e17
    subst e17
    have ix1 : (15 + 5 * p1) + 1 = nI (15 + 5 * n + 1) := ix3 (a := 15) (b := 5) hn (f := 1) rfl
    have ix2 : (15 + 5 * p1) + 2 = nI (15 + 5 * n + 2) := ix3 (a := 15) (b := 5) hn (f := 2) rfl
    refine ⟨277, k3.1.1, tp8, by rw [len8]; exact vpI ix1 (by omega) (by omega), fun M21 e21 => ⟨277, ?_, tp8, by rw [len8]; exact vpI ix2 (by omega) (by omega), fun M25 e25 => ?_⟩⟩
    · rw [e21]; exact k3.1.1
    · rw [ix1, nI_clamp (by omega), sM_uI] at e21
      rw [ix2, nI_clamp (by omega), e21, sM_uI] at e25
      subst e25
      have km := rx_mut k3 (A' := aU (aU A (2 + n) 1 p2) (2 + n) 2 p3) (σ' := uS (uS (M3.1 277) (15 + 5 * n + 1) p2) (15 + 5 * n + 2) p3) ⟨ι3, by rw [cnt_r (by omega), cnt_r (by omega), up_r (by omega), up_r (by omega)]; exact (hR3.heatF hc (by omega) (by omega)).heatF hc (by omega) (by omega)⟩
      exact hp _ km.1 ((f2.tr f3).tr km.2.1) (km.2.2.trans (z3.trans z2))
  · unfold oRange
    rw [if_pos (show inB p1 0 3 = true from e1), if_pos (show inB p2 600 1240 = true from e2), show inB p3 p2 1240 = false from e3]; rfl
  · unfold oRange
    rw [show inB p1 0 3 = false from e1]; rfl
theorem px_range (hv : KV A j) : KV (oRange A p1 p2 p3).2.2 (j + 1) := by
  have hm := hv.mono (i := j + 1) (by omega)
  unfold oRange
  split
  · split
    · split
      · obtain ⟨N, T, h1, h2, hI⟩ := hm
        have hc := hI.1.1.2.1
        refine ⟨N, T, h1, h2, ?_⟩
        show Iv (aU (aU A (2 + p1.toNatClampNeg) 1 p2) (2 + p1.toNatClampNeg) 2 p3) (cnt (aU (aU A (2 + p1.toNatClampNeg) 1 p2) (2 + p1.toNatClampNeg) 2 p3)) N T
        rename_i e1 _ _
        obtain ⟨n, hn, _, hn3⟩ := inB_get (l := 0) (h := 3) (by omega) (by omega) e1
        rw [hn, nI_clamp (by omega), cnt_r (by omega), cnt_r (by omega)]
        exact hI.congr (fun f hf => by rw [up_r (by omega), up_r (by omega)]) (fun q hq => ⟨by rw [up_f (by omega), up_f (by omega)], by rw [up_f (by omega), up_f (by omega)], by rw [up_f (by omega), up_f (by omega)]⟩) (fun d hd => ⟨by rw [up_r (by omega), up_r (by omega)], by rw [up_r (by omega), up_r (by omega)], by rw [up_r (by omega), up_r (by omega)]⟩) (fun k hk f hf => by rw [up_r (by omega), up_r (by omega)]) (fun p hp => ⟨by rw [up_r (by omega), up_r (by omega)], by rw [up_r (by omega), up_r (by omega)], by rw [up_r (by omega), up_r (by omega)]⟩)
      · exact hm
    · exact hm
  · exact hm
end STK
