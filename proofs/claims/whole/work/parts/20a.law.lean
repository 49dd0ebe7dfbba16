/-! The law: every call. -/
def KS (M : Mem) (j : Nat) : Prop := ∃ A Q s b cd, KC M A Q s b cd ∧ KR M A Q s b cd ∧ KP A Q s j
theorem lg_self {x : Int64} : lg_cmp x x = 0 := by
  unfold lg_cmp
  rw [if_neg (show ¬ x > x from Int64.lt_irrefl), if_pos rfl]
section LAW
variable {M M5 M9 : Mem} {A A' : Ab} {Q Q' : Nat → Ab} {s s' b b' j : Nat} {cd cd' : Nat → Nat}
theorem ks_next (c5 : KC M5 A Q s b cd) (c9 : KR M9 A Q s b cd) (f9 : FrR M5 M9) (kp : KP A Q s j) : KS M9 j := ⟨A, Q, s, b, cd, c5.fr fun a ha => f9.1 a (Or.inl ha), c9, kp⟩
theorem fin_ok {r6 r11 r13 x4 : Int32} {M12 : Mem} {R : Mem → Int32 → Prop} (h1 : r13 = r6) (h2 : r6 = 0 → M12.2.2 282 0 = r11.toInt64) (h3 : R M12 (x4 + 6)) : (r13 = r6 → ((¬ r6 = 0 → ∀ v14 : Int32, v14 = x4 + 6 → R M12 v14) ∧ (r6 = 0 → m_tp 283 282 10 ∧ (vp_in 0 (m_len 282) ∧ ((((lg_cmp (M12.2.2 282 (0 : Int32).toNatClampNeg) ((r11).toInt64)) = 0 → ∀ v17 : Int32, v17 = x4 + 6 → R M12 v17) ∧ (¬ (lg_cmp (M12.2.2 282 (0 : Int32).toNatClampNeg) ((r11).toInt64)) = 0 → False))))))) ∧ (¬ r13 = r6 → False) := by
  refine ⟨fun _ => ⟨fun _ v e => by rw [e]; exact h3, fun e => ⟨tp10, by rw [len282]; exact vpI (i := 0) rfl (by omega) (by omega), fun _ v e => by rw [e]; exact h3, fun n => n ?_⟩⟩, fun n => n h1⟩
  show lg_cmp (M12.2.2 282 0) _ = 0
  rw [h2 e, lg_self]
theorem fin_th {o1 o2 r x4 : Int32} {R : Mem → Int32 → Prop} (z9 : M9.1 276 0 = o1) (v5 : o1 = 0 → M5.2.2 282 0 = o2.toInt64) (w9 : o1 = 0 → r = o2) (f9 : FrR M5 M9) (h3 : R M9 (x4 + 6)) : wp_X7_thrown 283 M9 276 (fun r13 M12 => (r13 = o1 → ((¬ o1 = 0 → ∀ v14 : Int32, v14 = x4 + 6 → R M12 v14) ∧ (o1 = 0 → m_tp 283 282 10 ∧ (vp_in 0 (m_len 282) ∧ ((((lg_cmp (M12.2.2 282 (0 : Int32).toNatClampNeg) ((r).toInt64)) = 0 → ∀ v17 : Int32, v17 = x4 + 6 → R M12 v17) ∧ (¬ (lg_cmp (M12.2.2 282 (0 : Int32).toNatClampNeg) ((r).toInt64)) = 0 → False))))))) ∧ (¬ r13 = o1 → False)) := ⟨tp7, fin_ok z9 (fun e => by rw [f9.2 0, v5 e, w9 e]) h3⟩
theorem KP.out {x : Int32} (kp : KP A Q s j) (hs : s ≤ 6) (ka : KV A' (j + 1)) : KP A' (qO x Q s A) (sO x s) (j + 1) := by
  by_cases e : x = 0
  · subst e
    rw [qO_0, sO_0]
    exact kp.push hs ka
  · rw [qO_n e, sO_n e]
    exact ⟨ka, fun i hi => (kp.2 i hi).mono (by omega)⟩
theorem KR.ds {M0 : Mem} {z : Int64} (h : KR M0 A Q s b cd) (hc : cnt A ≤ 10) (d : DS M0 M z) : KR M A Q s b cd ∧ FrR M0 M := by
  obtain ⟨hB, ⟨ι, hR⟩, h4, hQ, h6, hq⟩ := h
  obtain ⟨d1, d2, d3, d4, d5, d6⟩ := d
  refine ⟨⟨by unfold RB; rw [d3]; exact hB, ⟨ι, hR.eq158 hc d4⟩, (d2 4 (by omega)).trans h4, fun i hi => ?_, (d2 6 (by omega)).trans h6, fun i hi => by rw [d1 280 (by omega) (by omega) (by omega)]; exact hq i hi⟩, fun a ha => ⟨d1 a (by omega) (by omega) (by omega), by rw [d3]⟩, fun k => d6 282 k (by omega)⟩
  rw [d1 279 (by omega) (by omega) (by omega)]; exact hQ i hi
theorem law_goes {xs : Nat → Int32} {L : Nat} (hL : L ≤ 3072) : ∀ f j k M, j + f = 512 → k ≤ 283 + j → KS M j → wpL_L_law_23 xs L (f + 1) k M (nI (6 * j)) := by
  have eL : (Int32.ofNat L - 6).toInt = (L : Int) - 6 := nI_sub_toInt (a := L) (b := 6) (by omega) (by omega)
  intro f
  induction f with
  | zero =>
    intro j k M hj _ _
    refine ⟨fun _ => trivial, fun e => absurd ?_ e⟩
    rw [Int32.lt_iff_toInt_lt, eL, nI_toInt (by omega)]
    omega
  | succ f ih =>
    intro j k M hj6 hk hS
    refine ⟨fun _ => trivial, fun e => ?_⟩
    rw [Int32.lt_iff_toInt_lt, eL, nI_toInt (by omega)] at e
    have hj : j ≤ 600 := by omega
    have kk : k + 1 ≤ 6000 := by omega
    have vp : ∀ i : Nat, i < 6 → vp_in (nI (6 * j) + nI i) L := fun i hi => by rw [nI_add]; exact vpI rfl (by omega) (by omega)
    have goOn : ∀ k' M', k' ≤ k + 1 → KS M' (j + 1) → wpL_L_law_23 xs L (f + 1) k' M' (nI (6 * j) + 6) := fun k' M' hk' hS' => by
      have := ih (j + 1) k' M' (by omega) (by omega) hS'
      have e6 : nI (6 * j) + 6 = nI (6 * (j + 1)) := nI_add (6 * j) 6
      rw [e6]; exact this
    obtain ⟨A, Q, s, b, cd, hC, hR, kp⟩ := hS
    have hs : s ≤ 6 := hC.2.2.2.2.2.1
    have hb : b ≤ 60 := hC.2.2.2.2.2.2.2.1
    have hc := hC.2.2.2.2.2.2.2.2.2
    refine ⟨vpI rfl (by omega) (by omega), ?_⟩
    refine ⟨fun _ => ?_, fun _ => ⟨fun _ => ?_, fun _ => ⟨fun _ => ?_, fun _ => ⟨fun _ => ?_, fun _ => ⟨fun _ => ?_, fun _ => ⟨fun _ => ?_, fun _ => ⟨fun _ => ?_, fun _ => ⟨fun _ => ?_, fun _ => ⟨fun _ => ?_, fun _ => ⟨fun _ => ?_, fun _ => ⟨fun _ => ?_, fun _ => ⟨fun _ => ?_, fun _ => ⟨fun _ => ?_, fun _ => ⟨fun _ => ?_, fun _ => ⟨fun _ => ?_, fun _ => ⟨fun _ => ?_, fun _ => ⟨fun _ => ?_, fun _ => ⟨fun _ => ?_, fun _ => ⟨fun _ => ?_, fun _ => ⟨fun _ => ?_, fun _ => ⟨fun _ => ?_, fun _ => ⟨fun _ => ?_, fun _ => ⟨fun _ => ?_, fun _ => ⟨fun _ => ?_, fun _ => ⟨fun _ => ?_, fun _ => ⟨fun _ => ?_, fun _ => ?_⟩⟩⟩⟩⟩⟩⟩⟩⟩⟩⟩⟩⟩⟩⟩⟩⟩⟩⟩⟩⟩⟩⟩⟩⟩⟩
    · exact ⟨vp 1 (by omega), vp 2 (by omega), kk, lx_stock hC kp.1  fun M5 c5 f5 v5 => ⟨vp 1 (by omega), vp 2 (by omega), tp7, rx_stock (hR.frl f5) hs kp  fun r M9 c9 f9 z9 w9 => fin_th (R := wpL_L_law_23 xs L (f + 1) (k + 1)) z9 v5 w9 f9 (goOn (k + 1) M9 (Nat.le_refl _) (ks_next c5 c9 f9 (kp.out hs (px_stock kp.1 ))))⟩⟩
    · exact ⟨vp 1 (by omega), vp 2 (by omega), vp 3 (by omega), kk, lx_range hC kp.1  fun M5 c5 f5 v5 => ⟨vp 1 (by omega), vp 2 (by omega), vp 3 (by omega), tp7, rx_range (hR.frl f5) hs kp  fun r M9 c9 f9 z9 w9 => fin_th (R := wpL_L_law_23 xs L (f + 1) (k + 1)) z9 v5 w9 f9 (goOn (k + 1) M9 (Nat.le_refl _) (ks_next c5 c9 f9 (kp.out hs (px_range kp.1 ))))⟩⟩
    · exact ⟨vp 1 (by omega), vp 2 (by omega), vp 3 (by omega), kk, lx_die hC kp.1  fun M5 c5 f5 v5 => ⟨vp 1 (by omega), vp 2 (by omega), vp 3 (by omega), tp7, rx_die (hR.frl f5) hs kp  fun r M9 c9 f9 z9 w9 => fin_th (R := wpL_L_law_23 xs L (f + 1) (k + 1)) z9 v5 w9 f9 (goOn (k + 1) M9 (Nat.le_refl _) (ks_next c5 c9 f9 (kp.out hs (px_die kp.1 ))))⟩⟩
    · exact ⟨vp 1 (by omega), kk, lx_grind hC kp.1  fun M5 c5 f5 v5 => ⟨vp 1 (by omega), tp7, rx_grind (hR.frl f5) hs kp  fun r M9 c9 f9 z9 w9 => fin_th (R := wpL_L_law_23 xs L (f + 1) (k + 1)) z9 v5 w9 f9 (goOn (k + 1) M9 (Nat.le_refl _) (ks_next c5 c9 f9 (kp.out hs (px_grind kp.1 ))))⟩⟩
    · exact ⟨vp 1 (by omega), vp 2 (by omega), vp 3 (by omega), vp 4 (by omega), vp 5 (by omega), kk, lx_job hC kp.1  fun q ok M5 c5 f5 v5 => ⟨vp 1 (by omega), vp 2 (by omega), vp 3 (by omega), vp 4 (by omega), vp 5 (by omega), tp7, rx_job (hR.frl f5) hs kp ok fun r M9 c9 f9 z9 w9 => fin_th (R := wpL_L_law_23 xs L (f + 1) (k + 1)) z9 v5 w9 f9 (goOn (k + 1) M9 (Nat.le_refl _) (ks_next c5 c9 f9 (kp.out hs (px_job kp.1 hj ok))))⟩⟩
    · exact ⟨vp 1 (by omega), kk, lx_cancel hC kp.1  fun M5 c5 f5 v5 => ⟨vp 1 (by omega), tp7, rx_cancel (hR.frl f5) hs kp hj fun r M9 c9 f9 z9 w9 => fin_th (R := wpL_L_law_23 xs L (f + 1) (k + 1)) z9 v5 w9 f9 (goOn (k + 1) M9 (Nat.le_refl _) (ks_next c5 c9 f9 (kp.out hs (px_cancel kp.1 hj))))⟩⟩
    · exact ⟨vp 1 (by omega), vp 2 (by omega), kk, lx_rush hC kp.1  fun q ok M5 c5 f5 v5 => ⟨vp 1 (by omega), vp 2 (by omega), tp7, rx_rush (hR.frl f5) hs kp ok fun r M9 c9 f9 z9 w9 => fin_th (R := wpL_L_law_23 xs L (f + 1) (k + 1)) z9 v5 w9 f9 (goOn (k + 1) M9 (Nat.le_refl _) (ks_next c5 c9 f9 (kp.out hs (px_rush kp.1  ok))))⟩⟩
    · exact ⟨vp 1 (by omega), vp 2 (by omega), kk, lx_set hC kp.1  fun M5 c5 f5 v5 => ⟨vp 1 (by omega), vp 2 (by omega), tp7, rx_set (hR.frl f5) hs kp  fun r M9 c9 f9 z9 w9 => fin_th (R := wpL_L_law_23 xs L (f + 1) (k + 1)) z9 v5 w9 f9 (goOn (k + 1) M9 (Nat.le_refl _) (ks_next c5 c9 f9 (kp.out hs (px_set kp.1 ))))⟩⟩
    · exact ⟨vp 1 (by omega), kk, lx_pass hC kp.1 hj fun M5 c5 f5 v5 => ⟨vp 1 (by omega), tp7, rx_pass (hR.frl f5) hs kp hj fun r M9 c9 f9 z9 w9 => fin_th (R := wpL_L_law_23 xs L (f + 1) (k + 1)) z9 v5 w9 f9 (goOn (k + 1) M9 (Nat.le_refl _) (ks_next c5 c9 f9 (kp.out hs (px_pass kp.1 hj))))⟩⟩
    · refine ⟨vp 1 (by omega), kk, lx_append hC fun M5 c5 f5 => ⟨vp 1 (by omega), tp7, rx_append (hR.frl f5) hb fun r M9 c9 f9 z9 => ⟨tp7, fin_ok (R := wpL_L_law_23 xs L (f + 1) (k + 1)) z9 (fun e => by obtain ⟨n, _, _, e5⟩ := c5.2 e; rw [f9.2 0, e5, (c9.2 e).2]) (goOn (k + 1) M9 (Nat.le_refl _) ?_)⟩⟩⟩
      by_cases e : oAppend b (xs (nI (6 * j) + 1).toNatClampNeg) = 0
      · obtain ⟨n, hn, k5, _⟩ := c5.2 e
        exact ks_next k5 ((c9.2 e).1 n hn) f9 (kp.mono (by omega))
      · exact ks_next (c5.1 e) (c9.1 e) f9 (kp.mono (by omega))
    · exact ⟨tp6, x_clear hC fun M5 c5 f5 => ⟨tp7, r_clear (hR.frl f5) fun M9 c9 f9 => ⟨fun _ v e => by rw [e]; exact goOn k M9 (by omega) (ks_next c5 c9 f9 (kp.mono (by omega))), fun n => n rfl⟩⟩⟩
    · exact ⟨tp6, x_firstErr (g := M.1 281) hC fun M5 c5 f5 => ⟨tp7, r_firstErr (hR.frl f5) hb hc fun M9 c9 f9 => ⟨fun _ v e => by rw [e]; exact goOn k M9 (by omega) (ks_next c5 c9 f9 (kp.mono (by omega))), fun n => n (by rw [(f5 281 (by omega)).1])⟩⟩⟩
    · exact ⟨kk, lx_addAll (g := M.1 281) hC kp.1 hj (fun w M5 c5 f5 => ⟨tp7, by
        have E : prA cd b (M5.1 281) = prA cd b (M.1 281) := by rw [(f5 281 (by omega)).1]
        refine rx_addAll (hR.frl f5) hs hb hc kp hj (qf := fun _ => 0) (fun _ r M9 c9 f9 z9 => ⟨tp7, fin_ok (R := wpL_L_law_23 xs L (f + 1) (k + 1)) z9 (fun e => absurd e (by decide)) (goOn (k + 1) M9 (Nat.le_refl _) (ks_next c5 c9 f9 (kp.mono (by omega))))⟩) (fun w2 => ?_) fun w2 => ?_
        · rw [E, w] at w2; cases w2
        · rw [E, w] at w2; cases w2⟩) (fun w hn M5 c5 f5 => ⟨tp7, by
        have E : prA cd b (M5.1 281) = prA cd b (M.1 281) := by rw [(f5 281 (by omega)).1]
        refine rx_addAll (hR.frl f5) hs hb hc kp hj (qf := fun _ => 0) (fun w2 => ?_) (fun _ _ r M9 c9 f9 z9 => ⟨tp7, fin_ok (R := wpL_L_law_23 xs L (f + 1) (k + 1)) z9 (fun e => absurd e (by decide)) (goOn (k + 1) M9 (Nat.le_refl _) (ks_next c5 c9 f9 (kp.mono (by omega))))⟩) fun w2 h2 => ?_
        · rw [E, w] at w2; cases w2
        · rw [E] at h2; exact absurd h2 hn⟩) fun w hn qf M5 ok c5 f5 v5 => ⟨tp7, by
        have E : prA cd b (M5.1 281) = prA cd b (M.1 281) := by rw [(f5 281 (by omega)).1]
        have pm := prs_many (g := M.1 281) (t := 0) hc (f := b + 1) (a := 0) (by omega) (by omega) (by omega) rfl
        have hle : (prA cd b (M.1 281)).2.1 ≤ 10 := by have : (prA cd b (M.1 281)).2.1 ≤ (b + 1) / 6 := pm.1; omega
        have hG : okG (prA cd b (M.1 281)).2.2.1 (prA cd b (M.1 281)).2.1 := fun i hi => prs_vals hc (f := b + 1) (a := 0) (t := 0) (g := M.1 281) (by omega) w i (by omega) hi
        refine rx_addAll (hR.frl f5) hs hb hc kp hj (qf := qf) (fun w2 => ?_) (fun w2 h2 => ?_) fun w2 h2 => ?_
        · rw [E, w] at w2; cases w2
        · rw [E] at h2; exact absurd hn h2
        · rw [E]
          refine ⟨ok, fun M9 c9 f9 z9 => ⟨tp7, fin_ok (R := wpL_L_law_23 xs L (f + 1) (k + 1)) z9 (fun _ => by rw [f9.2 0, v5]) (goOn (k + 1) M9 (Nat.le_refl _) (ks_next c5 c9 f9 (kp.push hs (px_addAll kp.1 hj hG hle hn ok))))⟩⟩⟩⟩
    · refine ⟨kk, lx_undo hC kp (fun e0 => ⟨tp7, rx_undo hR hs kp (fun _ r M9 c9 f9 z9 => ⟨tp7, fin_ok (R := wpL_L_law_23 xs L (f + 1) (k + 1)) z9 (fun e => absurd e (by decide)) (goOn (k + 1) M9 (Nat.le_refl _) (ks_next hC c9 f9 (kp.mono (by omega))))⟩) fun h => by omega⟩) fun hs0 A' M5 hA c5 f5 v5 => ⟨tp7, rx_undo (hR.frl f5) hs kp (fun e0 => by omega) fun _ M9 c9 f9 z9 => ⟨tp7, fin_ok (R := wpL_L_law_23 xs L (f + 1) (k + 1)) z9 (fun _ => by rw [f9.2 0, v5]) (goOn (k + 1) M9 (Nat.le_refl _) (ks_next c5 (c9 A' hA) f9 ⟨?_, fun i hi => (kp.2 i (by omega)).mono (by omega)⟩))⟩⟩⟩
      obtain ⟨N, T, q1, q2, hI⟩ := (kp.2 (s - 1) (by omega)).mono (i := j + 1) (by omega)
      have ec : cnt A' = cnt (Q (s - 1)) := by
        unfold cnt
        rw [hA.1 5 (by omega) (by omega)]
      exact ⟨N, T, q1, q2, by rw [ec]; exact hI.copy hA⟩
    · exact ⟨vp 1 (by omega), vp 2 (by omega), kk, lx_heat hC kp.1  fun M5 c5 f5 v5 => ⟨vp 1 (by omega), vp 2 (by omega), tp7, rx_heat (hR.frl f5) kp.1  fun r M9 c9 f9 z9 w9 => fin_th (R := wpL_L_law_23 xs L (f + 1) (k + 1)) z9 v5 w9 f9 (goOn (k + 1) M9 (Nat.le_refl _) (ks_next c5 c9 f9 (kp.mono (by omega))))⟩⟩
    · exact ⟨vp 1 (by omega), vp 2 (by omega), kk, lx_dieOf hC kp.1 hj fun M5 c5 f5 v5 => ⟨vp 1 (by omega), vp 2 (by omega), tp7, rx_dieOf (hR.frl f5) kp.1 hj fun r M9 c9 f9 z9 w9 => fin_th (R := wpL_L_law_23 xs L (f + 1) (k + 1)) z9 v5 w9 f9 (goOn (k + 1) M9 (Nat.le_refl _) (ks_next c5 c9 f9 (kp.mono (by omega))))⟩⟩
    · exact ⟨vp 1 (by omega), vp 2 (by omega), kk, lx_jobOf hC kp.1 hj fun M5 c5 f5 v5 => ⟨vp 1 (by omega), vp 2 (by omega), tp7, rx_jobOf (hR.frl f5) kp.1 hj fun r M9 c9 f9 z9 w9 => fin_th (R := wpL_L_law_23 xs L (f + 1) (k + 1)) z9 v5 w9 f9 (goOn (k + 1) M9 (Nat.le_refl _) (ks_next c5 c9 f9 (kp.mono (by omega))))⟩⟩
    · exact ⟨vp 1 (by omega), vp 2 (by omega), kk, lx_billet hC kp.1 hj fun M5 c5 f5 v5 => ⟨vp 1 (by omega), vp 2 (by omega), tp7, rx_billet (hR.frl f5) kp.1 hj fun r M9 c9 f9 z9 w9 => fin_th (R := wpL_L_law_23 xs L (f + 1) (k + 1)) z9 v5 w9 f9 (goOn (k + 1) M9 (Nat.le_refl _) (ks_next c5 c9 f9 (kp.mono (by omega))))⟩⟩
    · exact ⟨vp 1 (by omega), kk, lx_count hC kp.1 hj fun M5 c5 f5 v5 => ⟨vp 1 (by omega), tp7, rx_count (hR.frl f5) kp.1 hj fun r M9 c9 f9 z9 w9 => fin_th (R := wpL_L_law_23 xs L (f + 1) (k + 1)) z9 v5 w9 f9 (goOn (k + 1) M9 (Nat.le_refl _) (ks_next c5 c9 f9 (kp.mono (by omega))))⟩⟩
    · exact ⟨vp 1 (by omega), kk, lx_setting hC kp.1 hj fun M5 c5 f5 v5 => ⟨vp 1 (by omega), tp7, rx_setting (hR.frl f5) kp.1 hj fun r M9 c9 f9 z9 w9 => fin_th (R := wpL_L_law_23 xs L (f + 1) (k + 1)) z9 v5 w9 f9 (goOn (k + 1) M9 (Nat.le_refl _) (ks_next c5 c9 f9 (kp.mono (by omega))))⟩⟩
    · exact ⟨vp 1 (by omega), vp 2 (by omega), kk, lx_ifPassed hC kp.1 hj fun M5 c5 f5 v5 => ⟨vp 1 (by omega), vp 2 (by omega), tp7, rx_ifPassed (hR.frl f5) kp.1 hj fun r M9 c9 f9 z9 w9 => fin_th (R := wpL_L_law_23 xs L (f + 1) (k + 1)) z9 v5 w9 f9 (goOn (k + 1) M9 (Nat.le_refl _) (ks_next c5 c9 f9 (kp.mono (by omega))))⟩⟩
    · exact ⟨vp 1 (by omega), kk, lx_doneIn hC kp.1 hj fun M5 c5 f5 v5 => ⟨vp 1 (by omega), tp7, rx_doneIn (hR.frl f5) kp.1 hj fun r M9 c9 f9 z9 w9 => fin_th (R := wpL_L_law_23 xs L (f + 1) (k + 1)) z9 v5 w9 f9 (goOn (k + 1) M9 (Nat.le_refl _) (ks_next c5 c9 f9 (kp.mono (by omega))))⟩⟩
    · exact ⟨vp 1 (by omega), kk, lx_ifRush hC kp.1 hj fun p ok M5 c5 f5 v5 => ⟨vp 1 (by omega), tp7, rx_ifRush (hR.frl f5) kp.1 hj ok fun r M9 c9 f9 z9 w9 => fin_th (R := wpL_L_law_23 xs L (f + 1) (k + 1)) z9 v5 w9 f9 (goOn (k + 1) M9 (Nat.le_refl _) (ks_next c5 c9 f9 (kp.mono (by omega))))⟩⟩
    · exact ⟨vp 1 (by omega), kk, lx_bestReheats hC kp.1 hj fun M5 c5 f5 v5 => ⟨vp 1 (by omega), tp7, rx_bestReheats (hR.frl f5) kp.1 hj fun r M9 c9 f9 z9 w9 => fin_th (R := wpL_L_law_23 xs L (f + 1) (k + 1)) z9 v5 w9 f9 (goOn (k + 1) M9 (Nat.le_refl _) (ks_next c5 c9 f9 (kp.mono (by omega))))⟩⟩
    · obtain ⟨N, T, q1, q2, hI⟩ := kp.1
      obtain ⟨π1, h1⟩ := hC.2.1
      obtain ⟨ι, hRl⟩ := hR.2.1
      refine ⟨tp6, tp6, x_shareMade h1 hC.1.1 hI.2.2.2.2.2.2 (by omega) ⟨tp7, ?_⟩⟩
      have eM : sM (uI M 276 0 0) (M.1 277) = uI M 276 0 0 := by
        have : sM (uI M 276 0 0) ((uI M 276 0 0).1 277) = uI M 276 0 0 := sM_self
        rwa [uI_a (by omega)] at this
      rw [← sM_self (M := M)]
      refine r_saved hR.1 hRl hI.2.2.2.2.2.2 (by omega) ?_
      have ee : FP.dcmp (shareV A) (shareV A) = some .eq := FP.Core.dcmp_refl ((FP.Core.notNaN_iff _).mpr (share_nn hI.2.2.2.2.2.2 (by omega)))
      rw [eM, ee]
      have th := hR.th FrR.rf (v := 0)
      refine ⟨fun _ v e => ?_, fun n => absurd (by decide) n⟩
      rw [e]
      exact goOn k _ (by omega) (ks_next hC th.1 th.2.1 (kp.mono (by omega)))
    · obtain ⟨N, T, q1, q2, hI⟩ := kp.1
      have hC2 := hC
      obtain ⟨hd, ⟨π1, h1⟩, ⟨π2, E2, h2⟩, _, h3, _, ht, _, hq, _⟩ := hC2
      refine ⟨tp6, x_digest (q := fun i => nI (cd i)) h1 h2 hd hI (by omega) ht hq hb fun pf M5 π5 E5 ho c5 => ⟨tp7, ?_⟩⟩
      rw [h3]
      have f5 : FrL M M5 := c5.frc.1
      have hR5 := hR.frl f5
      obtain ⟨ι, hRl⟩ := hR5.2.1
      refine r_digest hR5.1 hRl hI (by omega) ho hR5.2.2.1 hR5.2.2.2.2.1 hR5.2.2.2.2.2 hb fun M9 d9 z9 => ?_
      have kd := hR5.ds hI.1.1.2.1 d9
      refine ⟨fun _ v e => ?_, fun n => absurd lg_self n⟩
      rw [e]
      exact goOn k M9 (by omega) (ks_next (hC.trial c5) kd.1 kd.2 (kp.mono (by omega)))
    · intro v e
      rw [e]
      exact goOn k M (by omega) ⟨A, Q, s, b, cd, hC, hR, kp.mono (by omega)⟩
end LAW
