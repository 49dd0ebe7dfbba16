/-! addAll: the jobs of a text, one after the other. -/
def nxA (G : Nat → Int32) (A : Ab) (k q : Nat) : Ab := addQ A (cnt A) (G (5 * k)) (G (5 * k + 1)) (G (5 * k + 2)) (G (5 * k + 3)) (G (5 * k + 4) != 0) q
def chA (G : Nat → Int32) (A : Ab) (qf : Nat → Nat) : Nat → Ab
  | 0 => A
  | k + 1 => nxA G (chA G A qf k) k (qf k)
def okCh (G : Nat → Int32) (A : Ab) (qf : Nat → Nat) (t : Nat) : Prop := ∀ k, k < t → qf k < cnt (chA G A qf k) + 1 ∧ srt (chA G A qf (k + 1)) (cnt (chA G A qf k) + 1)
def okG (G : Nat → Int32) (t : Nat) : Prop := ∀ k, k < t → ∃ p d h u z, G (5 * k) = nI d ∧ G (5 * k + 1) = nI h ∧ G (5 * k + 2) = nI p ∧ G (5 * k + 3) = nI u ∧ G (5 * k + 4) = nI z ∧ 1 ≤ p ∧ p ≤ 40 ∧ d ≤ 4 ∧ h ≤ 3 ∧ u ≤ 9999 ∧ z ≤ 1
section CHN
variable {A : Ab} {G : Nat → Int32} {c N T t b : Nat} {cd : Nat → Nat}
theorem chA_congr {qf qg : Nat → Nat} : ∀ {n : Nat}, (∀ i, i < n → qf i = qg i) → chA G A qf n = chA G A qg n := by
  intro n
  induction n with
  | zero => intro _; rfl
  | succ n ih =>
    intro h
    show nxA G (chA G A qf n) n (qf n) = nxA G (chA G A qg n) n (qg n)
    rw [ih fun i hi => h i (by omega), h n (by omega)]
theorem told5_v {g : Nat → Int32} {p d h u z : Nat} : told5 g t d h p u z (5 * t) = nI d ∧ told5 g t d h p u z (5 * t + 1) = nI h ∧ told5 g t d h p u z (5 * t + 2) = nI p ∧ told5 g t d h p u z (5 * t + 3) = nI u ∧ told5 g t d h p u z (5 * t + 4) = nI z := by
  unfold told5
  refine ⟨?_, ?_, ?_, ?_, uS_s⟩
  · rw [uS_o (by omega), uS_o (by omega), uS_o (by omega), uS_o (by omega), uS_s]
  · rw [uS_o (by omega), uS_o (by omega), uS_o (by omega), uS_s]
  · rw [uS_o (by omega), uS_o (by omega), uS_s]
  · rw [uS_o (by omega), uS_s]
theorem prs_lt : ∀ {f a t : Nat} {g : Nat → Int32}, (prs cd b f a t g).2.2.2 = true → t < (prs cd b f a t g).2.1 := by
  intro f
  induction f with
  | zero => intro a t g h; cases h
  | succ f ih =>
    intro a t g h
    obtain ⟨a', p, d, hh, u, z, e, w | w⟩ := prs_next h
    · rw [w.2]; show t < t + 1; omega
    · rw [w.2.2] at h ⊢
      have := ih h
      omega
/-- the part at a is told at its place -/
theorem prs_here {f a t : Nat} {g : Nat → Int32} (h : (prs cd b (f + 1) a t g).2.2.2 = true) : ∃ a' p d hh u z, prt cd b a = (a', some (p, d, hh, u, z)) ∧ ((¬ a' < b ∧ (prs cd b (f + 1) a t g).2.1 = t + 1) ∨ (a' < b ∧ cd a' = 59 ∧ prs cd b (f + 1) a t g = prs cd b f (a' + 1) (t + 1) (told5 g t d hh p u z))) ∧ (prs cd b (f + 1) a t g).2.2.1 (5 * t) = nI d ∧ (prs cd b (f + 1) a t g).2.2.1 (5 * t + 1) = nI hh ∧ (prs cd b (f + 1) a t g).2.2.1 (5 * t + 2) = nI p ∧ (prs cd b (f + 1) a t g).2.2.1 (5 * t + 3) = nI u ∧ (prs cd b (f + 1) a t g).2.2.1 (5 * t + 4) = nI z := by
  obtain ⟨a', p, d, hh, u, z, e, w | w⟩ := prs_next h
  · refine ⟨a', p, d, hh, u, z, e, Or.inl ⟨w.1, by rw [w.2]⟩, ?_⟩
    rw [w.2]
    exact told5_v
  · refine ⟨a', p, d, hh, u, z, e, Or.inr w, ?_⟩
    obtain ⟨v1, v2, v3, v4, v5⟩ := told5_v (t := t) (g := g) (p := p) (d := d) (h := hh) (u := u) (z := z)
    rw [w.2.2, prs_g (by omega), prs_g (by omega), prs_g (by omega), prs_g (by omega), prs_g (by omega)]
    exact ⟨v1, v2, v3, v4, v5⟩
theorem prs_vals (hc : ∀ i, i < b → 33 ≤ cd i ∧ cd i ≤ 126) : ∀ {f a t : Nat} {g : Nat → Int32}, a ≤ b → (prs cd b f a t g).2.2.2 = true → ∀ k, t ≤ k → k < (prs cd b f a t g).2.1 → ∃ p d h u z, (prs cd b f a t g).2.2.1 (5 * k) = nI d ∧ (prs cd b f a t g).2.2.1 (5 * k + 1) = nI h ∧ (prs cd b f a t g).2.2.1 (5 * k + 2) = nI p ∧ (prs cd b f a t g).2.2.1 (5 * k + 3) = nI u ∧ (prs cd b f a t g).2.2.1 (5 * k + 4) = nI z ∧ 1 ≤ p ∧ p ≤ 40 ∧ d ≤ 4 ∧ h ≤ 3 ∧ u ≤ 9999 ∧ z ≤ 1 := by
  intro f
  induction f with
  | zero => intro a t g _ h; cases h
  | succ f ih =>
    intro a t g ha h k hk1 hk2
    obtain ⟨a', p, d, hh, u, z, e, w, v1, v2, v3, v4, v5⟩ := prs_here h
    obtain ⟨s', _, _, q2, _, _, _, _, _, _, q1, _, _⟩ := (fol (s := fun _ => 0) hc ha rfl).2 a' p d hh u z e
    by_cases ek : k = t
    · subst ek
      exact ⟨p, d, hh, u, z, v1, v2, v3, v4, v5, q1.1, q1.2.1, q1.2.2.1, q1.2.2.2.1, q1.2.2.2.2.1, q1.2.2.2.2.2⟩
    · rcases w with w | w
      · omega
      · rw [w.2.2] at h hk2 ⊢
        exact ih (by omega) h k (by omega) hk2
theorem Iv.chain (hI : Iv A c N T) (hG : okG G t) {qf : Nat → Nat} (ho : okCh G A qf t) (hc : c + t ≤ 10) (hN : N + t < 1000000) : ∀ k, k ≤ t → Iv (chA G A qf k) (c + k) (N + k) T := by
  intro k
  induction k with
  | zero => intro _; exact hI
  | succ k ih =>
    intro hk
    have w := ih (by omega)
    obtain ⟨p, d, h, u, z, g1, g2, g3, g4, g5, b1, b2, b3, b4, b5, b6⟩ := hG k (by omega)
    have o := ho k (by omega)
    rw [w.cn] at o
    have e : chA G A qf (k + 1) = addQ (chA G A qf k) (c + k) (G (5 * k)) (G (5 * k + 1)) (G (5 * k + 2)) (G (5 * k + 3)) (G (5 * k + 4) != 0) (qf k) := by
      show nxA G (chA G A qf k) k (qf k) = _
      unfold nxA
      rw [w.cn]
    rw [e] at o ⊢
    exact w.add (by omega) (by omega) g1 (by omega) g2 (by omega) g3 b1 b2 g4 b5 o.1 o.2
end CHN
section AAL
variable {M : Mem} {A : Ab} {Q : Nat → Ab} {s b j : Nat} {cd : Nat → Nat} {P : Int32 → Mem → Prop}
theorem x_addLoop {M0 : Mem} {E : String → Mem → Prop} {R : Nat × Nat × (Nat → Int32) × Bool} {c N T : Nat} (hI : Iv A c N T) (hw : R.2.2.2 = true) (hG : okG R.2.2.1 R.2.1) (hct : c + R.2.1 ≤ 10) (hN : N + R.2.1 < 1000000) (hp : ∀ qf M', okCh R.2.2.1 A qf R.2.1 → KC M' (chA R.2.2.1 A qf R.2.1) Q s 0 cd → FrL M0 M' → P (nI (c + R.2.1)) M') : ∀ n k (qf : Nat → Nat) (M : Mem) (f a : Nat) (g : Nat → Int32), k + n = R.2.1 → okCh R.2.2.1 A qf k → KC M (chA R.2.2.1 A qf k) Q s b cd → FrL M0 M → (0 < n → prs cd b f a k g = R ∧ M.1 274 2 = nI a ∧ M.1 274 3 = 0 ∧ a ≤ b) → wpL_X6_addAll_65 283 P E (n + 1) M 0 (nI R.2.1) (nI k) := by
  intro n
  induction n with
  | zero =>
    intro k qf M f a g hk ho hC hF _
    have : k = R.2.1 := by omega
    subst this
    have hIk := hI.chain hG ho hct hN R.2.1 (Nat.le_refl _)
    refine ⟨fun _ => ⟨tp6, 274, hC.1.2.2.2.1, tp4, tp4, fun v2 _ M3 e3 => ⟨1, ?_, tp5a, ?_⟩⟩, fun e => absurd (Int32.le_refl _) e⟩
    · rw [e3]; exact hC.1.1
    · have k3 : KC M3 (chA R.2.2.1 A qf R.2.1) Q s 0 cd := hC.txt (fun a ha => by rw [e3, uI_a (by omega)]) (by rw [e3]; rfl) (by rw [e3]; exact uI_s) (by omega) (fun i hi => by omega) fun i hi => by omega
      obtain ⟨π3, c3⟩ := k3.2.1
      rw [c3.N, hIk.1.1.1]
      exact hp qf M3 ho k3 (hF.tr fun a ha => ⟨by rw [e3, uI_a (by omega)], by rw [e3]; rfl⟩)
  | succ n ih =>
    intro k qf M f a g hk ho hC hF hx
    obtain ⟨hR, h2, h3, hab⟩ := hx (by omega)
    have hd := hC.1
    have ht := hC.2.2.2.2.2.2.1
    have hb := hC.2.2.2.2.2.2.2.1
    have hq := hC.2.2.2.2.2.2.2.2.1
    have hc := hC.2.2.2.2.2.2.2.2.2
    have hGk : okG R.2.2.1 k := fun i hi => hG i (by omega)
    have hIk := hI.chain (t := k) hGk ho (by omega) (by omega) k (Nat.le_refl _)
    cases f with
    | zero =>
      rw [← hR] at hw
      cases hw
    | succ f =>
      have hw2 : (prs cd b (f + 1) a k g).2.2.2 = true := by rw [hR]; exact hw
      obtain ⟨a', p, d, hh, u, z, e, w, v1, v2, v3, v4, v5⟩ := prs_here hw2
      rw [hR] at v1 v2 v3 v4 v5 w
      have he : a' < b → cd a' = 59 := fun l => by
        rcases w with w | w
        · exact absurd l w.1
        · exact w.2.1
      obtain ⟨r1, r4, r5, r6, r7, r8, _, r9, r10, r11⟩ := rd_part (s := M.1 274) hc hab h3 h2 e he
      refine ⟨fun e => absurd e (cLt (n := R.2.1) rfl rfl (by omega) (by omega)), fun _ => ⟨tp6, 274, hd.2.2.2.1, tp4, ?_⟩⟩
      have key : ∀ {P' : Mem → Prop}, P' (wR M 274 (rdP (fun k => nI (cd k)) (b - a) a (M.1 274))) → wp_X4_readPart 283 M 274 P' := fun {P'} hP' => by
        have := x_readPart (B := M) (s := M.1 274) (q := fun k => nI (cd k)) (b := b) hd.2.2.2.2 hq hb ht (i := a) (f := b - a) (by omega) h2 (P := P') hP'
        rwa [wR_self rfl] at this
      refine key ?_
      generalize hr : rdP (fun k => nI (cd k)) (b - a) a (M.1 274) = r at r1 r4 r5 r6 r7 r8 r9
      have k27 : KC (wR M 274 r) (chA R.2.2.1 A qf k) Q s b cd := hC.row (Nat.le_refl _) (r1.trans ht)
      obtain ⟨π27, c27⟩ := k27.2.1
      refine ⟨1, hd.1, 274, hd.2.2.2.1, tp4, 274, hd.2.2.2.1, tp4, 274, hd.2.2.2.1, tp4, 274, hd.2.2.2.1, tp4, 274, hd.2.2.2.1, tp4, tp5a, ?_⟩
      rw [wR_1, r4, r5, r6, r7, r8, ← v1, ← v2, ← v3, ← v4, ← v5]
      refine x_addJob c27 hIk.1.1.1 (by omega) hIk.1.2.1 (fun l hl => hIk.new hl) fun q M41 hq41 c41 s41 v44 e44 => ?_
      rw [e44, nI_1]
      have eqf : ∀ i, i ≤ k → chA R.2.2.1 A (fun i => if i = k then q else qf i) i = chA R.2.2.1 A qf i := fun i hi => chA_congr fun l hl => if_neg (by omega)
      have ech : chA R.2.2.1 A (fun i => if i = k then q else qf i) (k + 1) = addQ (chA R.2.2.1 A qf k) (c + k) (R.2.2.1 (5 * k)) (R.2.2.1 (5 * k + 1)) (R.2.2.1 (5 * k + 2)) (R.2.2.1 (5 * k + 3)) (R.2.2.1 (5 * k + 4) != 0) q := by
        show nxA R.2.2.1 (chA R.2.2.1 A (fun i => if i = k then q else qf i) k) k (if k = k then q else qf k) = _
        rw [eqf k (Nat.le_refl _), if_pos rfl]
        unfold nxA
        rw [hIk.cn]
      have k41 := k27.shop c41
      refine ih (k + 1) (fun i => if i = k then q else qf i) M41 f (a' + 1) (told5 g k d hh p u z) (by omega) (fun i hi => ?_) (by rw [ech]; exact k41) (hF.tr (FrL.tr (fun a ha => ⟨wR_o (by omega), rfl⟩) c41.frc.1)) fun hn => ?_
      · by_cases ei : i = k
        · subst ei
          rw [ech, eqf i (Nat.le_refl _), hIk.cn]
          refine ⟨?_, s41⟩
          show (if i = i then q else qf i) < _
          rw [if_pos rfl]; exact hq41
        · rw [eqf i (by omega), eqf (i + 1) (by omega)]
          have := ho i (by omega)
          refine ⟨?_, this.2⟩
          show (if i = k then q else qf i) < _
          rw [if_neg ei]; exact this.1
      · rcases w with w | w
        · omega
        · have e274 := (c41.fr.1 274 (by omega)).1
          have r9 := r9 w.1
          refine ⟨w.2.2.symm, ?_, ?_, by omega⟩
          · rw [e274, wR_1]; exact r9.1
          · rw [e274, wR_1]; exact r9.2
theorem lx_addAll (h : KC M A Q s b cd) (hv : KV A j) (hj : j ≤ 600) {g : Nat → Int32} (h1 : (prA cd b g).2.2.2 = false → ∀ M', KC M' A Q s b cd → FrL M M' → P 1 M') (h2 : (prA cd b g).2.2.2 = true → ¬ cnt A + (prA cd b g).2.1 ≤ 10 → ∀ M', KC M' A Q s b cd → FrL M M' → P 2 M') (h0 : (prA cd b g).2.2.2 = true → cnt A + (prA cd b g).2.1 ≤ 10 → ∀ qf M', okCh (prA cd b g).2.2.1 A qf (prA cd b g).2.1 → KC M' (chA (prA cd b g).2.2.1 A qf (prA cd b g).2.1) (pQ Q s A) (sN s) 0 cd → FrL M M' → M'.2.2 282 0 = (nI (cnt A + (prA cd b g).2.1)).toInt64 → P 0 M') : wp_L_addAll 283 M 0 282 P := by
  obtain ⟨N, T, hN, hT, hI⟩ := hv
  have hd := h.1
  have ht := h.2.2.2.2.2.2.1
  have hb := h.2.2.2.2.2.2.2.1
  have hq := h.2.2.2.2.2.2.2.2.1
  have hc := h.2.2.2.2.2.2.2.2.2
  have sc := prs_scan (g := g) (t := 0) hc (f := b + 1) (a := 0) (s := uS (uS (M.1 274) 2 0) 3 0) (by omega) (by omega) uS_s
  rw [Nat.sub_zero] at sc
  have pm := prs_many (g := g) (t := 0) hc (f := b + 1) (a := 0) (by omega) (by omega) (by omega) rfl
  have hwell : ((scan (fun k => nI (cd k)) b 0 (uS (uS (M.1 274) 2 0) 3 0)).2.2 && fin3 (scan (fun k => nI (cd k)) b 0 (uS (uS (M.1 274) 2 0) 3 0)).2.1) = (prA cd b g).2.2.2 := sc.2.1
  have hmany : (prA cd b g).2.2.2 = true → (prA cd b g).2.1 = 1 + cntN (fun k => decide (nI (cd k) = 59)) b := fun w => (pm.2.2 w).1
  have hle : (prA cd b g).2.1 ≤ 10 := by have : (prA cd b g).2.1 ≤ (b + 1) / 6 := pm.1; omega
  refine ⟨tp6, tp6, 274, hd.2.2.2.1, tp4, ?_⟩
  have key : ∀ {P' : Bool → Mem → Prop}, (∀ s', s' 1 = nI b → P' (prA cd b g).2.2.2 (wR M 274 s')) → wp_X4_isComplete 283 M 274 P' := fun {P'} hP' => by
    have := x_isComplete (B := M) (s := M.1 274) (q := fun k => nI (cd k)) (b := b) hd.2.2.2.2 hq hb ht (P := P') (by rw [hwell]; exact hP')
    rwa [wR_self rfl] at this
  refine key fun s' es' => ⟨fun w => ?_, fun w => Or.inl ⟨rfl, h1 w _ (h.row (Nat.le_refl _) es') fun a ha => ⟨wR_o (by omega), rfl⟩⟩⟩
  have kC : KC (wR M 274 s') A Q s b cd := h.row (Nat.le_refl _) es'
  have fC : FrL M (wR M 274 s') := fun a ha => ⟨wR_o (by omega), rfl⟩
  refine ⟨274, hd.2.2.2.1, tp4, x_countParts (B := M) (q := fun k => nI (cd k)) (b := b) hd.2.2.2.2 hq hb es' ?_⟩
  rw [← hmany w]
  obtain ⟨πc, cc⟩ := kC.2.1
  refine ⟨1, hd.1, tp5a, fun e => ?_, fun e => Or.inr ⟨rfl, ?_⟩⟩
  · rw [cc.N, hI.1.1.1, nI_add] at e
    have hc10 := hI.1.1.2.1
    have hct := (nI_leI (b := 10) (by omega) (by omega)).mp e
    refine x_remember kC hI.1.1 fun M12 k12 f12 => ⟨274, k12.1.2.2.2.1, tp4, tp4, fun M13 e13 M14 e14 => ⟨(prA cd b g).2.1 + 1, ?_⟩⟩
    have k14 : KC M14 A (pQ Q s A) (sN s) b cd := k12.txt (fun a ha => by rw [e14, uI_a (by omega), e13, uI_a (by omega)]) (by rw [e14, e13]; rfl) (by rw [e14, uI_o (by omega), e13, uI_o (by omega)]; exact k12.2.2.2.2.2.2.1) hb (fun i hi => by rw [e14, uI_a (by omega), e13, uI_a (by omega)]; exact k12.2.2.2.2.2.2.2.2.1 i hi) hc
    have f14 : FrL M M14 := (fC.tr f12.1).tr fun a ha => ⟨by rw [e14, uI_a (by omega), e13, uI_a (by omega)], by rw [e14, e13]; rfl⟩
    refine x_addLoop (M0 := M) (R := prA cd b g) (N := N) (T := T) hI w (fun k hk => prs_vals hc (f := b + 1) (a := 0) (t := 0) (g := g) (by omega) w k (by omega) hk) hct (by omega) (fun qf M' a1 a2 a3 => lx_ok a2 a3 (h0 w hct qf · a1)) (prA cd b g).2.1 0 (fun _ => 0) M14 (b + 1) 0 g (by omega) (fun k hk => by omega) k14 f14 fun _ => ⟨rfl, ?_, ?_, by omega⟩
    · rw [e14, uI_o (by omega), e13]; exact uI_s
    · rw [e14]; exact uI_s
  · rw [cc.N, hI.1.1.1, nI_add] at e
    have hc10 := hI.1.1.2.1
    exact h2 w (fun q => e ((nI_leI (b := 10) (by omega) (by omega)).mpr q)) _ kC fC
theorem r_addLoop {B : Mem} {G : Nat → Int32} {c N T t : Nat} {m : Int32} {qf : Nat → Nat} (hB : RB B) (h81 : B.1 281 = G) (h10 : B.1 276 10 = nI t) (ht : t ≤ 10) (hI : Iv A c N T) (hG : okG G t) (hct : c + t ≤ 10) (hN : N + t < 1000000) (ho : okCh G A qf t) (hp : ∀ ι' σ', Rel (chA G A qf t) (c + t) m ι' σ' → P (nI (c + t)) (sM B σ')) : ∀ n k (σ : Nat → Int32) (ι : Nat → Nat), k + n = t → Rel (chA G A qf k) (c + k) m ι σ → wpL_X7_addAll_55 283 P (n + 1) (sM B σ) 276 (nI (5 * k)) := by
  have e10 : ∀ σ : Nat → Int32, 5 * ((sM B σ).1 276 10) = nI (5 * t) := fun σ => by
    rw [sM_o (by omega), h10, show (5 : Int32) = nI 5 from rfl, nI_mul]
  intro n
  induction n with
  | zero =>
    intro k σ ι hk hR
    have : k = t := by omega
    subst this
    have hIk := hI.chain hG ho hct hN k (Nat.le_refl _)
    refine ⟨tp7, fun _ => ⟨277, hB.1, tp8, by rw [len8]; exact vpI (i := 5) rfl (by omega) (by omega), ?_⟩, fun e => ?_⟩
    · rw [sM_1, show (5 : Int32).toNatClampNeg = 5 from rfl, hR.c5 hIk.1.1]
      exact hp ι σ hR
    · rw [e10] at e
      exact absurd (Int32.le_refl _) e
  | succ n ih =>
    intro k σ ι hk hR
    have hIk := hI.chain hG ho hct hN k (by omega)
    obtain ⟨p, d, h, u, z, g1, g2, g3, g4, g5, b1, b2, b3, b4, b5, b6⟩ := hG k (by omega)
    have h9 := hB.2.2.2.2
    have vp : ∀ f : Nat, f < 5 → vp_in (nI (5 * k + f)) (m_len 281) := fun f hf => by rw [len8e]; exact vpI rfl (by omega) (by omega)
    have cl : ∀ f : Nat, f < 5 → (sM B σ).1 281 (nI (5 * k + f)).toNatClampNeg = G (5 * k + f) := fun f hf => by rw [sM_o (by omega), h81, nI_clamp (by omega)]
    have ix : ∀ f : Nat, nI (5 * k) + nI f = nI (5 * k + f) := fun f => nI_add _ _
    refine ⟨tp7, fun e => ?_, fun _ => ⟨281, h9, tp8e, vp 0 (by omega), 281, h9, tp8e, (ix 1) ▸ vp 1 (by omega), 281, h9, tp8e, (ix 2) ▸ vp 2 (by omega), 281, h9, tp8e, (ix 3) ▸ vp 3 (by omega), 281, h9, tp8e, (ix 4) ▸ vp 4 (by omega), ?_⟩⟩
    · rw [e10] at e
      have := (nI_leI (by omega) (by omega)).mp e
      omega
    · have c0 : (sM B σ).1 281 (nI (5 * k)).toNatClampNeg = G (5 * k) := cl 0 (by omega)
      have c1 : (sM B σ).1 281 (nI (5 * k) + 1).toNatClampNeg = G (5 * k + 1) := (ix 1) ▸ cl 1 (by omega)
      have c2 : (sM B σ).1 281 (nI (5 * k) + 2).toNatClampNeg = G (5 * k + 2) := (ix 2) ▸ cl 2 (by omega)
      have c3 : (sM B σ).1 281 (nI (5 * k) + 3).toNatClampNeg = G (5 * k + 3) := (ix 3) ▸ cl 3 (by omega)
      have c4 : (sM B σ).1 281 (nI (5 * k) + 4).toNatClampNeg = G (5 * k + 4) := (ix 4) ▸ cl 4 (by omega)
      rw [c0, c1, c2, c3, c4]
      have hz : G (5 * k + 4) = bI (G (5 * k + 4) != 0) := by
        refine (bI_01 ?_).symm
        rw [g5]
        rcases (by omega : z = 0 ∨ z = 1) with rfl | rfl
        · exact Or.inl rfl
        · exact Or.inr rfl
      have o := ho k (by omega)
      rw [hIk.cn] at o
      have ech : chA G A qf (k + 1) = addQ (chA G A qf k) (c + k) (G (5 * k)) (G (5 * k + 1)) (G (5 * k + 2)) (G (5 * k + 3)) (G (5 * k + 4) != 0) (qf k) := by
        show nxA G (chA G A qf k) k (qf k) = _
        unfold nxA
        rw [hIk.cn]
      refine r_comes (z := (G (5 * k + 4) != 0)) hB hR hIk (by omega) hz fun σ' hR' v32 e32 => ?_
      have hRq := hR'.rows (by omega) (mv_perm (k := c + k) (p := qf k) (c := c + k + 1) (by omega) o.1)
      have ev : v32 = nI (5 * (k + 1)) := by
        rw [e32]
        exact ix 5
      rw [ev]
      exact ih (k + 1) σ' _ (by omega) (by rw [ech]; exact hRq)
theorem chA_0 {G : Nat → Int32} {qf : Nat → Nat} : ∀ k, chA G A qf k 0 11 = A 0 11 := by
  intro k
  induction k with
  | zero => rfl
  | succ k ih =>
    show nxA G (chA G A qf k) k (qf k) 0 11 = _
    unfold nxA
    rw [addQ_0 (by omega) (by omega)]; exact ih
theorem rx_addAll (h : KR M A Q s b cd) (hs : s ≤ 6) (hb : b ≤ 60) (hc : ∀ i, i < b → 33 ≤ cd i ∧ cd i ≤ 126) (kp : KP A Q s j) (hj : j ≤ 600) (h1 : (prA cd b (M.1 281)).2.2.2 = false → ∀ r M', KR M' A Q s b cd → FrR M M' → M'.1 276 0 = 1 → P r M') (h2 : (prA cd b (M.1 281)).2.2.2 = true → ¬ cnt A + (prA cd b (M.1 281)).2.1 ≤ 10 → ∀ r M', KR M' A Q s b cd → FrR M M' → M'.1 276 0 = 2 → P r M') {qf : Nat → Nat} (h0 : (prA cd b (M.1 281)).2.2.2 = true → cnt A + (prA cd b (M.1 281)).2.1 ≤ 10 → okCh (prA cd b (M.1 281)).2.2.1 A qf (prA cd b (M.1 281)).2.1 ∧ ∀ M', KR M' (chA (prA cd b (M.1 281)).2.2.1 A qf (prA cd b (M.1 281)).2.1) (pQ Q s A) (sN s) 0 cd → FrR M M' → M'.1 276 0 = 0 → P (nI (cnt A + (prA cd b (M.1 281)).2.1)) M') : wp_X7_addAll 283 M 276 P := by
  have hv := kp.1
  obtain ⟨N, T, hN, hT, hI⟩ := hv
  have hc10 := hI.1.1.2.1
  refine ⟨tp7, fun M2 e2 => ?_⟩
  have e81 : M2.1 281 = M.1 281 := by rw [e2, uI_a (by omega)]
  subst e2
  obtain ⟨hh2, f2, z2⟩ := h.th FrR.rf (v := 0)
  generalize uI M 276 0 0 = M2 at hh2 f2 z2 e81 ⊢
  have pm := prs_many (g := M.1 281) (t := 0) hc (f := b + 1) (a := 0) (by omega) (by omega) (by omega) rfl
  have hle : (prA cd b (M.1 281)).2.1 ≤ 10 := by have : (prA cd b (M.1 281)).2.1 ≤ (b + 1) / 6 := pm.1; omega
  have hG : (prA cd b (M.1 281)).2.2.2 = true → okG (prA cd b (M.1 281)).2.2.1 (prA cd b (M.1 281)).2.1 := fun w k hk => prs_vals hc (f := b + 1) (a := 0) (t := 0) (g := M.1 281) (by omega) w k (by omega) hk
  refine r_readsM hh2 hb hc fun M3 k3 f3 z3 a7 a8 a10 a81 => ?_
  rw [e81] at a7 a8 a10 a81
  generalize prA cd b (M.1 281) = R at h0 h1 h2 a7 a8 a10 a81 hle hG
  obtain ⟨ι3, hR3⟩ := k3.2.1
  have e5 : M3.1 277 (5 : Int32).toNatClampNeg = nI (cnt A) := hR3.c5 hI.1.1
  rw [a8, bI_ne]
  refine ⟨fun w => ⟨277, k3.1.1, tp8, by rw [len8]; exact vpI (i := 5) rfl (by omega) (by omega), fun e => ?_, fun e => ?_⟩, fun w => rx_fail k3 (f2.tr f3) fun M' c1 c2 c3 => h1 w 0 M' c1 c2 c3⟩
  · rw [e5, a10, nI_add] at e
    have hct := (nI_leI (b := 10) (by omega) (by omega)).mp e
    obtain ⟨ho, h0⟩ := h0 w hct
    refine r_savesK3 k3 hs kp fun M4 k4 f4 z4 q4 => ?_
    obtain ⟨ι4, hR4⟩ := k4.2.1
    intro M10 e10
    have ga : ∀ a, a ≠ 276 → M10.1 a = M4.1 a := fun a ha => by rw [e10, uI_a ha]
    have gf : ∀ f, f ≠ 6 → M10.1 276 f = M4.1 276 f := fun f hf => by rw [e10, uI_o (by omega)]
    have k10 : KR M10 A (pQ Q s A) (sN s) 0 cd := k4.txt (ga 277 (by omega)) (ga 279 (by omega)) (by rw [e10]; rfl) (gf 4 (by omega)) (by rw [e10]; exact uI_s) fun i hi => by omega
    have hR10 : Rel A (cnt A) (A 0 11) ι4 (M10.1 277) := by rw [ga 277 (by omega)]; exact hR4
    refine ⟨R.2.1 + 1, ?_⟩
    have L := r_addLoop (P := P) (B := M10) (G := R.2.2.1) (c := cnt A) (N := N) (T := T) (t := R.2.1) (m := A 0 11) (qf := qf) k10.1 (by rw [ga 281 (by omega), q4.2]; exact a81) (by rw [gf 10 (by omega), q4.1 10 (by omega)]; exact a10) hle hI (hG w) hct (by omega) ho (fun ι' σ' hR' => ?_) R.2.1 0 (M10.1 277) ι4 (by omega) hR10
    · rw [sM_self] at L
      exact L
    · have hIt := hI.chain (hG w) ho hct (by omega) R.2.1 (Nat.le_refl _)
      have km := rx_mut k10 (A' := chA R.2.2.1 A qf R.2.1) (σ' := σ') ⟨ι', by rw [hIt.cn, chA_0]; exact hR'⟩
      refine h0 _ km.1 (((f2.tr f3).tr f4).tr (FrR.tr ⟨fun a ha => ⟨ga a (by omega), by rw [e10]; rfl⟩, fun k => by rw [e10]; rfl⟩ km.2.1)) (km.2.2.trans ?_)
      rw [gf 0 (by omega)]
      exact z4.trans (z3.trans z2)
  · rw [e5, a10, nI_add] at e
    exact rx_fail k3 (f2.tr f3) fun M' c1 c2 c3 => h2 w (fun q => e ((nI_leI (b := 10) (by omega) (by omega)).mpr q)) 0 M' c1 c2 c3
theorem px_addAll (hv : KV A j) (hj : j ≤ 600) {G : Nat → Int32} {t : Nat} {qf : Nat → Nat} (hG : okG G t) (ht : t ≤ 10) (hct : cnt A + t ≤ 10) (ho : okCh G A qf t) : KV (chA G A qf t) (j + 1) := by
  obtain ⟨N, T, h1, h2, hI⟩ := hv
  have w := hI.chain hG ho hct (by omega) t (Nat.le_refl _)
  exact ⟨N + t, T, by omega, by omega, by rw [w.cn]; exact w⟩
end AAL
