/-! The law: one turn. -/
theorem lg_self {x : Int64} : lg_cmp x x = 0 := by
  unfold lg_cmp
  rw [if_neg (show ¬ x > x from Int64.lt_irrefl), if_pos rfl]
/-- what is saved, and what is written of it -/
def Sv (M : Mem) (Q : Nat → Ab) (s t : Nat) (σ : Nat → Nat → Int32) : Prop := ∀ i, i < s → KW (Q i) t (σ i) ∧ ∃ k m, k < 4 ∧ m ≤ 40 ∧ M.1 277 i = nI (100 * k + m) ∧ ∀ h, h < 4 → σ (i + 1) h = if h = k then σ i h + nI m else σ i h
/-- a state of the law's loop -/
def StL (M : Mem) (t : Nat) (A : Ab) (Q : Nat → Ab) (s b : Nat) (cd : Nat → Nat) (σ : Nat → Nat → Int32) : Prop := KC M A Q s b cd ∧ KW A t (σ s) ∧ (∀ i, i < 4 → M.1 276 i = σ s i) ∧ Sv M Q s t σ
section LAW
variable {xs : Nat → Int32} {L : Nat} {M M' : Mem} {A : Ab} {Q : Nat → Ab} {s b t : Nat} {cd : Nat → Nat} {σ : Nat → Nat → Int32} {K_ : Mem → Int32 → Prop} {x4 x5 x6 x7 x10 : Int32} {x8 x11 : Int64}
theorem KW.ok {j : Nat} {τ : Nat → Int32} (h : KW A j τ) : okN A (cnt A) := by
  obtain ⟨N, T, U, _, _, _, hI, _⟩ := h
  exact hI.1.1
theorem KW.eqv {j : Nat} {τ τ' : Nat → Int32} (h : KW A j τ) (e : ∀ i, i < 4 → τ i = τ' i) : KW A j τ' := by
  obtain ⟨N, T, U, h1, h2, h3, hI, kx⟩ := h
  exact ⟨N, T, U, h1, h2, h3, hI, kx.1, kx.2.1, kx.2.2.1, kx.2.2.2.1, fun i hi => (kx.2.2.2.2 i hi).trans (e i hi)⟩
theorem Sv.fr (h : Sv M Q s t σ) (e : M'.1 277 = M.1 277) {t' : Nat} (ht : t ≤ t') : Sv M' Q s t' σ := fun i hi => by
  obtain ⟨k1, k, m, h1, h2, h3, h4⟩ := h i hi
  exact ⟨k1.mono ht, k, m, h1, h2, by rw [e]; exact h3, h4⟩
theorem k_245 (h : StL M t A Q s b cd σ) (ht : t ≤ 100) (e11 : tol A (cnt A) = x11) (hk : ∀ v, v = x4 + 1 → K_ M v) : wpL_L_law_245 xs L K_ 1 M x4 x11 := by
  obtain ⟨kc, kw, ha, sv⟩ := h
  refine y_holds kc kw ht ha ⟨fun w => (by cases w), fun _ => y_told kc kw.ok ⟨fun _ => hk, fun w => absurd ?_ w⟩⟩
  rw [e11]
  exact lg_self
theorem k_219n (h : StL M t A Q s b cd σ) (ht : t ≤ 100) (e11 : tol A (cnt A) = x11) (h0 : x10 < 0) (hk : ∀ v, v = x4 + 1 → K_ M v) : wpL_L_law_219 xs L K_ 1 M x4 x7 x10 x11 := ⟨fun _ => ⟨1, k_245 h ht e11 hk⟩, fun w => absurd h0 w⟩
/-- an act is written down -/
theorem k_219 {A1 : Ab} {Q1 : Nat → Ab} {k m : Nat} (kc : KC M A1 Q1 (s + 1) b cd) (hs : s ≤ 5) (hk4 : k < 4) (hm : m ≤ 40) (kw : KW A1 (t + 1) (fun h => if h = k then σ s h + nI m else σ s h)) (ha : ∀ i, i < 4 → M.1 276 i = σ s i) (sv : Sv M Q1 s t σ) (kq : KW (Q1 s) t (σ s)) (ht : t + 1 ≤ 100) (e7 : x7 = nI s) (e10 : x10 = nI (100 * k + m)) (e11 : tol A1 (cnt A1) = x11)
    (hk : ∀ M' A' Q' s' b cd σ', StL M' (t + 1) A' Q' s' b cd σ' → ∀ v, v = x4 + 1 → K_ M' v) : wpL_L_law_219 xs L K_ 1 M x4 x7 x10 x11 := by
  have ed : x10 / 100 = nI k := by
    rw [e10, show (100 : Int32) = nI 100 from rfl, pk_div (by omega) (by omega) (by omega), show (100 * k + m) / 100 = k by omega]
  have er : x10 - x10 / 100 * 100 = nI m := by
    rw [e10, show (100 : Int32) = nI 100 from rfl, pk_rem (by omega) (by omega) (by omega), show (100 * k + m) % 100 = m by omega]
  refine ⟨fun w => absurd w (by rw [e10]; exact nI_pos (by omega)), fun _ => ⟨tp277, by rw [len277, e7]; exact vpI rfl (by omega) (by omega), fun M26 e26 => ⟨tp276, by rw [len276, ed]; exact vpI rfl hk4 (by omega), by rw [len276, ed]; exact vpI rfl hk4 (by omega), fun M30 e30 => ⟨1, ?_⟩⟩⟩⟩
  rw [e7, nI_clamp (by omega)] at e26
  rw [er, ed, nI_clamp (by omega), show M26.1 276 k = σ s k by rw [e26, uI_a (by omega)]; exact ha k hk4] at e30
  have o : ∀ a, a < 276 → M30.1 a = M.1 a ∧ M30.2.1 a = M.2.1 a := fun a ha => by
    rw [e30, e26]
    exact ⟨by rw [uI_a (by omega), uI_a (by omega)], rfl⟩
  have a6 : ∀ i, i < 4 → M30.1 276 i = if i = k then σ s i + nI m else σ s i := fun i hi => by
    rw [e30]
    by_cases z : i = k
    · subst z; rw [if_pos rfl, uI_s]
    · rw [if_neg z, uI_o (fun q => z q.2), e26, uI_a (by omega)]
      exact ha i hi
  have a7 : ∀ i, M30.1 277 i = if i = s then x10 else M.1 277 i := fun i => by
    rw [e30, uI_a (by omega), e26]
    by_cases z : i = s
    · subst z; rw [if_pos rfl, uI_s]
    · rw [if_neg z, uI_o (fun q => z q.2)]
  have stn : StL M30 (t + 1) A1 Q1 (s + 1) b cd (fun i => if i = s + 1 then (fun h => if h = k then σ s h + nI m else σ s h) else σ i) := by
    refine ⟨kc.fr o, ?_, fun i hi => ?_, fun i hi => ?_⟩
    · show KW A1 (t + 1) (if s + 1 = s + 1 then _ else _)
      rw [if_pos rfl]; exact kw
    · show M30.1 276 i = (if s + 1 = s + 1 then (fun h => if h = k then σ s h + nI m else σ s h) else σ (s + 1)) i
      rw [if_pos rfl]; exact a6 i hi
    · show KW (Q1 i) (t + 1) (if i = s + 1 then _ else σ i) ∧ ∃ k' m', k' < 4 ∧ m' ≤ 40 ∧ M30.1 277 i = nI (100 * k' + m') ∧ ∀ h, h < 4 → (if i + 1 = s + 1 then (fun h => if h = k then σ s h + nI m else σ s h) else σ (i + 1)) h = if h = k' then (if i = s + 1 then (fun h => if h = k then σ s h + nI m else σ s h) else σ i) h + nI m' else (if i = s + 1 then (fun h => if h = k then σ s h + nI m else σ s h) else σ i) h
      rw [if_neg (show ¬ i = s + 1 by omega)]
      by_cases z : i = s
      · subst z
        refine ⟨kq.mono (by omega), k, m, hk4, hm, by rw [a7, if_pos rfl]; exact e10, fun h hh => ?_⟩
        rw [if_pos rfl]
      · obtain ⟨k1, k', m', h1, h2, h3, h4⟩ := sv i (by omega)
        refine ⟨k1.mono (by omega), k', m', h1, h2, by rw [a7, if_neg z]; exact h3, fun h hh => ?_⟩
        rw [if_neg (by omega)]
        exact h4 h hh
  exact k_245 stn ht e11 (fun v ev => hk _ _ _ _ _ _ _ stn v ev)
theorem pQ_s (hs : s ≤ 5) : pQ Q s A s = A ∧ sN s = s + 1 ∧ ∀ i, i < s → pQ Q s A i = Q i := by
  have e1 : sN s = s + 1 := if_neg (by omega)
  refine ⟨?_, e1, fun i hi => ?_⟩
  · unfold pQ
    rw [e1, if_pos rfl]
  · unfold pQ
    rw [e1, if_neg (by omega), if_neg (show ¬ s = 6 by omega)]
/-- behind an act: undone and done again, or not -/
theorem k_160 {p : Nat} (kc : KC M (act A x5 x6 p).2 (pQ Q s A) (s + 1) b cd) (hs : s ≤ 5) (kw : KW A t (σ s)) (ht : t + 1 ≤ 100) (ok : okP A x5 x6 p) (hr : (act A x5 x6 p).1 ≠ -1) (ha : ∀ i, i < 4 → M.1 276 i = σ s i) (sv : Sv M Q s t σ) (e7 : x7 = nI s) (e8 : x8 = tol A (cnt A)) (e10 : x10 = (act A x5 x6 p).1) (e11 : tol (act A x5 x6 p).2 (cnt (act A x5 x6 p).2) = x11)
    (hk : ∀ M' A' Q' s' b cd σ', StL M' (t + 1) A' Q' s' b cd σ' → ∀ v, v = x4 + 1 → K_ M' v) : wpL_L_law_160 xs L K_ 1 M x4 x5 x6 x7 x8 x10 x11 := by
  obtain ⟨p1, p2, p3⟩ := pQ_s (Q := Q) (A := A) hs
  obtain ⟨k, m, hk4, hm, er, kw1⟩ := k_act kw (by omega) ok hr
  have e10' : x10 = nI (100 * k + m) := e10.trans er
  have sv1 : Sv M (pQ Q s A) s t σ := fun i hi => by rw [p3 i hi]; exact sv i hi
  have n0 : ¬ x10 < 0 := by rw [e10']; exact nI_pos (by omega)
  refine ⟨fun w => absurd w n0, fun _ => ⟨fun _ => ⟨1, ?_⟩, fun _ => ⟨tp6, z_undo kc (by omega) (by rw [Nat.add_sub_cancel, p1]; exact kw.ok) fun A2 M2 cp2 kc2 f2 => ?_⟩⟩⟩
  · exact k_219 kc hs hk4 hm kw1 ha sv1 (by rw [p1]; exact kw) ht e7 e10' e11 hk
  · rw [Nat.add_sub_cancel, p1] at cp2
    rw [Nat.add_sub_cancel] at kc2
    rw [Nat.add_sub_cancel]
    have c2 := cp2.cq
    have kw2 : KW A2 t (σ s) := kw.copy cp2
    have ec2 : cnt A2 = cnt A := c2.cn
    have et2 : tol A2 (cnt A2) = x8 := by rw [ec2, e8]; exact c2.told kw.ok
    refine ⟨fun w => absurd e7.symm w, fun _ => y_told kc2 kw2.ok ⟨fun w => absurd ?_ w, fun _ => ?_⟩⟩
    · rw [et2]; exact lg_self
    · refine y_acts kc2 kw2 (by omega) (fun p' ok' e' => ?_) fun p' ok' hr' M3 kc3 f3 => ?_
      · have := (e_act c2 kw (by omega) ok' ok).1
        rw [e'] at this
        exact absurd this.symm hr
      · obtain ⟨q1, q2⟩ := e_act c2 kw (by omega) ok' ok
        obtain ⟨r1, r2, r3⟩ := pQ_s (Q := pQ Q s A) (A := A2) hs
        have kw3 : KW (act A2 x5 x6 p').2 (t + 1) (fun h => if h = k then σ s h + nI m else σ s h) := kw1.copy q2.cp
        have et3 : tol (act A2 x5 x6 p').2 (cnt (act A2 x5 x6 p').2) = x11 := by rw [q2.cn, ← e11]; exact q2.told kw1.ok
        rw [r2] at kc3
        refine ⟨fun w => absurd (q1.trans e10.symm) w, fun _ => y_told kc3 kw3.ok ⟨fun _ => ⟨1, ?_⟩, fun w => absurd ?_ w⟩⟩
        · have f23 := f2.tr f3
          refine k_219 kc3 hs hk4 hm kw3 (fun i hi => by rw [(f23 276 (by omega)).1]; exact ha i hi) ?_ (by rw [r1]; exact kw2) ht e7 e10' et3 hk
          intro i hi
          rw [r3 i hi, p3 i hi]
          exact (sv.fr (f23 277 (by omega)).1 (Nat.le_refl t)) i hi
        · rw [et3]; exact lg_self
theorem k_99 (h : StL M t A Q s b cd σ) (hs : s ≤ 5) (ht : t + 1 ≤ 100) (hk : ∀ M' A' Q' s' b cd σ', StL M' (t + 1) A' Q' s' b cd σ' → ∀ v, v = x4 + 1 → K_ M' v) : wpL_L_law_99 xs L K_ 1 M x4 x5 x6 := by
  obtain ⟨kc, kw, ha, sv⟩ := h
  have ok := kw.ok
  obtain ⟨p1, p2, p3⟩ := pQ_s (Q := Q) (A := A) hs
  have c11 : ∀ {A : Ab} {c s : Nat}, numV A c (nI s) 11 = nI s := fun {A c s} => rfl
  refine ⟨tp6, y_count kc ok (n := 11) rfl (by omega) (y_told kc ok (y_acts kc kw (by omega) (fun p okp e => ?_) fun p okp hr M3 kc3 f3 => ?_))⟩
  · -- nothing is done
    refine y_told kc ok ⟨fun w => absurd w (by decide), fun _ => ⟨fun _ => ⟨1, ?_⟩, fun w => absurd lg_self w⟩⟩
    have hn : StL M (t + 1) A Q s b cd σ := ⟨kc, kw.mono (by omega), ha, sv.fr rfl (by omega)⟩
    exact ⟨fun _ => ⟨1, k_219n hn (by omega) rfl (by decide) fun v ev => hk _ _ _ _ _ _ _ hn v ev⟩, fun w => absurd (by decide) w⟩
  · obtain ⟨k, m, hk4, hm, er, kw1⟩ := k_act kw (by omega) okp hr
    rw [p2] at kc3
    refine y_told kc3 kw1.ok ⟨fun _ => y_count kc3 kw1.ok (n := 11) rfl (by omega) ⟨fun _ => ⟨1, ?_⟩, fun w => absurd ?_ w⟩, fun w => absurd ?_ w⟩
    · exact k_160 kc3 hs kw ht okp hr (fun i hi => by rw [(f3 276 (by omega)).1]; exact ha i hi) (sv.fr (f3 277 (by omega)).1 (Nat.le_refl t)) rfl rfl rfl rfl hk
    · show nI (s + 1) = nI s + 1
      rw [nI_1]
    · rw [er]
      exact (nI_leI (a := 0) (by omega) (by omega)).mpr (by omega)
/-- two are undone -/
theorem k_63 (ht : t + 1 ≤ 100) (hk : ∀ M' A' Q' s' b cd σ', StL M' (t + 1) A' Q' s' b cd σ' → ∀ v, v = x4 + 1 → K_ M' v) : ∀ f n (M : Mem) (A : Ab), n = 3 + f → n ≤ 5 → StL M t A Q (n + 1) b cd σ → wpL_L_law_63 xs L K_ (f + 1) M x4 x5 x6 (nI n) := by
  intro f
  induction f with
  | zero =>
    intro n M A hn hn5 h
    exact ⟨fun _ => ⟨1, k_99 h (by omega) ht hk⟩, fun w => absurd ((nI_leI (b := 3) (by omega) (by omega)).mpr (by omega)) w⟩
  | succ f ih =>
    intro n M A hn hn5 h
    obtain ⟨kc, kw, ha, sv⟩ := h
    obtain ⟨kq, k, m, hk4, hm, e7, e8⟩ := sv n (by omega)
    refine ⟨fun w => ?_, fun _ => ⟨tp6, z_undo kc (by omega) (by rw [Nat.add_sub_cancel]; exact kq.ok) fun A2 M2 cp2 kc2 f2 => ?_⟩⟩
    · have := (nI_leI (b := 3) (by omega) (by omega)).mp w
      omega
    · rw [Nat.add_sub_cancel] at cp2 kc2
      have c7 : M2.1 277 (nI n).toNatClampNeg = nI (100 * k + m) := by rw [nI_clamp (by omega), (f2 277 (by omega)).1]; exact e7
      have ed : M2.1 277 (nI n).toNatClampNeg / 100 = nI k := by
        rw [c7, show (100 : Int32) = nI 100 from rfl, pk_div (by omega) (by omega) (by omega), show (100 * k + m) / 100 = k by omega]
      have er : M2.1 277 (nI n).toNatClampNeg - M2.1 277 (nI n).toNatClampNeg / 100 * 100 = nI m := by
        rw [c7, show (100 : Int32) = nI 100 from rfl, pk_rem (by omega) (by omega) (by omega), show (100 * k + m) % 100 = m by omega]
      have v7 : vp_in (nI n) (m_len 277) := by rw [len277]; exact vpI rfl (by omega) (by omega)
      have v6 : vp_in (M2.1 277 (nI n).toNatClampNeg / 100) (m_len 276) := by rw [len276, ed]; exact vpI rfl hk4 (by omega)
      refine ⟨tp277, v7, tp276, v6, v7, v6, fun M49 e49 v50 e50 => ?_⟩
      rw [er, ed, nI_clamp (by omega), (f2 276 (by omega)).1, ha k hk4] at e49
      have en : v50 = nI (n - 1) := by
        rw [e50, show n = (n - 1) + 1 by omega, pk_m1]; rfl
      have o : ∀ a, a ≠ 276 → M49.1 a = M2.1 a := fun a ha => by rw [e49, uI_a ha]
      have o2 : M49.2.1 = M2.2.1 := by rw [e49]; rfl
      rw [en]
      refine ih (n - 1) M49 A2 (by omega) (by omega) ?_
      rw [show n - 1 + 1 = n by omega]
      refine ⟨kc2.fr fun a ha => ⟨o a (by omega), by rw [o2]⟩, kq.copy cp2, fun i hi => ?_, fun i hi => ?_⟩
      · have e8i := e8 i hi
        rw [e49]
        by_cases z : i = k
        · subst z
          rw [uI_s, e8i, if_pos rfl]
          have : ∀ x y : Int32, x + y - y = x := fun x y => by grind
          exact this _ _
        · rw [uI_o (fun q => z q.2), (f2 276 (by omega)).1, ha i hi, e8i, if_neg z]
      · exact sv.fr (by rw [o 277 (by omega)]; exact (f2 277 (by omega)).1) (Nat.le_refl t) i (by omega)
theorem z_cell {P : Int32 → Mem → Prop} {x : Int32} {n : Nat} (hL : L ≤ 260) (hx : x = nI n) (hn : n < 2 ^ 31) (hp : ∀ r, P r M) : wp_L_cell xs L M x P := by
  have eL : Int32.ofNat L = nI L := rfl
  refine ⟨fun _ => hp _, fun w => ⟨?_, hp _⟩⟩
  rw [eL, hx] at w
  rw [hx]
  refine vpI rfl ?_ (by omega)
  rcases Nat.lt_or_ge n L with z | z
  · exact z
  · exact absurd ((nI_leI (by omega) (by omega)).mpr z) w
theorem law_goes (hL : L ≤ 260) : ∀ f t (M : Mem) (A : Ab) (Q : Nat → Ab) (s b : Nat) (cd : Nat → Nat) (σ : Nat → Nat → Int32), t + f = 36 → StL M t A Q s b cd σ → wpL_L_law_20 xs L (f + 1) M (nI t) := by
  intro f
  induction f with
  | zero =>
    intro t M A Q s b cd σ ht _
    exact ⟨fun _ => trivial, fun w => absurd ((nI_leI (a := 36) (by omega) (by omega)).mpr (by omega)) w⟩
  | succ f ih =>
    intro t M A Q s b cd σ ht h
    have h' := h
    obtain ⟨kc, kw, ha, sv⟩ := h
    have hs6 : s ≤ 6 := kc.2.2.2.2.2.1
    have hk : ∀ M' A' Q' s' b cd σ', StL M' (t + 1) A' Q' s' b cd σ' → ∀ v, v = nI t + 1 → wpL_L_law_20 xs L (f + 1) M' v := fun M' A' Q' s' b cd σ' h' v ev => by
      rw [ev, nI_1]
      exact ih (t + 1) M' A' Q' s' b cd σ' (by omega) h'
    have e2 : 2 * nI t = nI (2 * t) := by rw [show (2 : Int32) = nI 2 from rfl, pk_mul]
    refine ⟨fun w => ?_, fun _ => z_cell hL e2 (by omega) fun r1 => z_cell hL (n := 2 * t + 1) (by rw [e2, nI_1]) (by omega) fun r3 => ⟨tp6, y_count kc kw.ok (n := 11) rfl (by omega) ⟨fun w => ⟨1, ?_⟩, fun w => ⟨3, ?_⟩⟩⟩⟩
    · have := (nI_leI (a := 36) (by omega) (by omega)).mp w
      omega
    · have w : ¬ nI s = nI 6 := w
      refine k_99 h' ?_ (by omega) hk
      have : s ≠ 6 := fun z => w (by rw [z])
      omega
    · have w : nI s = nI 6 := w
      have e6 : s = 6 := (nI_eq (by omega) (by omega)).mp w
      subst e6
      exact k_63 (by omega) hk 2 5 M A (by omega) (by omega) h'
theorem pure_law (xs : Nat → Int32) {L : Nat} (hL : L ≤ 260) : ∃ f : Nat, wp_L_law xs L f m_M0 := by
  refine ⟨37, by omega, by decide, fun M1 e1 => ⟨by omega, ?_⟩⟩
  rw [e1]
  refine x_newForge fun M3 hF h4 h5 h6 => ⟨by omega, by decide, by decide, fun M5 e5 => ⟨by omega, by decide, by decide, fun M7 e7 => ?_⟩⟩
  have e3 : ∀ a, a < 276 → M7.1 a = M3.1 a ∧ M7.2.1 a = M3.2.1 a := fun a ha => by
    rw [e7, e5]
    exact ⟨funext fun f => (if_neg (by omega)).trans (if_neg (by omega)), funext fun f => (if_neg (by omega)).trans (if_neg (by omega))⟩
  obtain ⟨a1, a2, a3, a4, a5, a6, a7⟩ := hF
  have k3 : KC M3 A0 (fun _ => A0) 0 0 (fun _ => 33) := ⟨⟨a1, a2, a3, h4, h5⟩, ⟨_, a4⟩, ⟨_, A0, a5⟩, ⟨fun i => i, fun i hi => ⟨hi, (a6 i hi).1⟩, fun i j _ _ e => e, fun i hi => ⟨_, A0, (a6 i hi).2, fun h => by omega⟩⟩, a7, by omega, h6, by omega, fun i hi => by omega, fun i hi => by omega⟩
  refine law_goes hL 36 0 M7 A0 (fun _ => A0) 0 0 (fun _ => 33) (fun _ _ => 0) (by omega) ⟨k3.fr e3, A0_kw, fun i hi => ?_, fun i hi => by omega⟩
  rw [e7, e5]
  show (if (276 : Nat) = 0 + 277 then (0 : Int32) else if (276 : Nat) = 0 + 276 then 0 else M3.1 276 i) = 0
  rw [if_neg (by omega), if_pos (by omega)]
end LAW
