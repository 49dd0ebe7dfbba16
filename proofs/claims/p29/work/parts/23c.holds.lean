/-! What the law asks of a state: it holds, all of it. -/
section YHP
variable {M : Mem} {A : Ab} {Q : Nat → Ab} {s b j : Nat} {cd : Nat → Nat} {τ : Nat → Int32}
theorem tp276 : m_tp 278 276 8 := ⟨by decide, by decide⟩
theorem len276 : m_len 276 = 4 := by decide
theorem tp277 : m_tp 278 277 8 := ⟨by decide, by decide⟩
theorem len277 : m_len 277 = 8 := by decide
theorem oI_d {o : Option Nat} {d : Nat} (hd : d < 5) (ho : ∀ e, o = some e → e < 5) : oI o = nI d ↔ o = some d := by
  cases o with
  | none => exact ⟨fun e => absurd e.symm (nI_n1 (by omega)), fun e => (by cases e)⟩
  | some e =>
    have he := ho e rfl
    refine ⟨fun w => ?_, fun w => by cases w; rfl⟩
    have w : nI e = nI d := w
    rw [(nI_eq (by omega) (by omega)).mp w]
theorem y_holds (h : KC M A Q s b cd) (kw : KW A j τ) (hj : j ≤ 100) (ha : ∀ i, i < 4 → M.1 276 i = τ i) {P : Bool → Mem → Prop} (hp : P true M) : wp_L_holds 278 M 0 276 P := by
  obtain ⟨N, T, U, hN, hT, hU, hI, hx, hd, hcn, hdm, htot⟩ := kw
  have ok := hI.1.1
  have hc := ok.2.1
  -- the end
  have F : wpL_L_holds_304 278 P 1 M 0 (madeS A) (sumN (fun h => A (2 + h) 4) 4) (dieS A) (furnA A) (A 0 5) (sumN (fun k => A (13 + k) 6) (cnt A)) (nI (cnt A)) := by
    obtain ⟨a, b', e, t, e13, e14, e15, e11, h1, h2, h3, h4, h5⟩ := hcn
    have hm : T * U ≤ 6700 * 6000 := Nat.mul_le_mul (by omega) (by omega)
    have sh := share_01 hI.2.2.2.2.2.2 (by omega)
    have n4 : numV A (cnt A) (nI s) 4 = madeA A := rfl
    have n5 : numV A (cnt A) (nI s) 5 = scrapA A := rfl
    have n2 : numV A (cnt A) (nI s) 2 = rushA A (cnt A) := rfl
    refine ⟨fun _ => ⟨tp6, y_saved h hI.2.2.2.2.2.2 (by omega) (y_count h ok (n := 4) rfl (by omega) ⟨fun w => absurd ?_ w, fun _ => ⟨fun w => absurd ?_ w, fun _ => y_count h ok (n := 5) rfl (by omega) ⟨fun w => absurd ?_ w, fun _ => y_count h ok (n := 3) rfl (by omega) ⟨fun w => absurd ?_ w, fun _ => y_count h ok (n := 2) rfl (by omega) ⟨fun w => absurd ?_ w, fun _ => y_count h ok (n := 9) rfl (by omega) (y_count h ok (n := 8) rfl (by omega) ⟨fun w => ?_, fun _ => y_count h ok (n := 8) rfl (by omega) (y_count h ok (n := 7) rfl (by omega) ⟨fun w => ?_, fun _ => ⟨fun w => absurd w sh.1, fun _ => ?_⟩⟩)⟩)⟩⟩⟩⟩⟩)⟩, fun w => absurd ?_ w⟩
    · rw [n4, made_S]
    · exact hdm
    · rw [n5, scrap_S]
    · rfl
    · rw [n2, rush_S ok]
    · have w : A 0 15 < A 0 14 := w
      rw [e14, e15] at w
      have := (nI_ltI (by omega) (by omega)).mp w
      omega
    · have w : A 0 13 < A 0 14 := w
      rw [e13, e14] at w
      have := (nI_ltI (by omega) (by omega)).mp w
      omega
    · rw [if_neg sh.2]; exact hp
    · rw [ok.1]; exact (nI_leI (by omega) (by omega)).mpr (by omega)
  -- the jobs
  have J : ∀ f k, k + f = cnt A → wpL_L_holds_304 278 P (f + 1) M 0 (madeS A) (sumN (fun h => A (2 + h) 4) 4) (dieS A) (furnA A) (A 0 5) (sumN (fun k => A (13 + k) 6) k) (nI k) := by
    intro f
    induction f with
    | zero =>
      intro k hk
      have : k = cnt A := by omega
      rw [this]
      exact F
    | succ f ih =>
      intro k hk
      refine ⟨fun w => ?_, fun _ => ⟨8, y_jobs h hI (k := k) _ (by omega) _ (ih (k + 1) (by omega)) 7 0 (by omega)⟩⟩
      rw [ok.1] at w
      have := (nI_leI (by omega) (by omega)).mp w
      omega
  -- the billets
  have B : ∀ f p, p + f = 7 → wpL_L_holds_174 278 P (f + 1) M 0 (madeS A) (sumN (fun h => A (2 + h) 4) 4) (dieS A) (sumN (fun p => if A (24 + p) 0 = -1 then 0 else 1) (if p ≤ 6 then p else 6)) (nI p) := by
    intro f
    induction f with
    | zero =>
      intro p hp7
      have : p = 7 := by omega
      subst this
      refine ⟨fun _ => ⟨tp6, y_count h ok (n := 1) rfl (by omega) ⟨cnt A + 1, ?_⟩⟩, fun e => absurd ((nI_leI (a := 7) (b := 7) (by omega) (by omega)).mpr (by omega)) e⟩
      have := J (cnt A) 0 (by omega)
      rw [furn_S] at this
      exact this
    | succ f ih =>
      intro p hp7
      have hlt : p < 7 := by omega
      obtain ⟨bn, -⟩ := bil_num hI hlt
      have nx : sumN (fun p => if A (24 + p) 0 = -1 then 0 else 1) (if p + 1 ≤ 6 then p + 1 else 6) = sumN (fun p => if A (24 + p) 0 = -1 then 0 else 1) (if p ≤ 6 then p else 6) + (if p < 6 then (if A (24 + p) 0 = -1 then 0 else 1) else 0) := by
        by_cases w : p < 6
        · rw [if_pos (show p + 1 ≤ 6 by omega), if_pos (show p ≤ 6 by omega), if_pos w]; rfl
        · have : p = 6 := by omega
          subst this
          rw [if_neg (by omega), if_pos (by omega), if_neg (by omega), Int32.add_zero]
      have go : ∀ v165 v166 : Int32, v165 = sumN (fun p => if A (24 + p) 0 = -1 then 0 else 1) (if p + 1 ≤ 6 then p + 1 else 6) → v166 = nI p + 1 → wpL_L_holds_174 278 P (f + 1) M 0 (madeS A) (sumN (fun h => A (2 + h) 4) 4) (dieS A) v165 v166 := fun v165 v166 e1 e2 => by
        rw [e1, e2, nI_1]
        exact ih (p + 1) (by omega)
      refine ⟨fun e => absurd ((nI_leI (a := 7) (b := p) (by omega) (by omega)).mp e) (by omega), fun _ => ⟨tp6, y_billet h rfl hlt (n := 1) rfl (by omega) (y_billet h rfl hlt (n := 0) rfl (by omega) fun v165 e165 => ?_)⟩⟩
      by_cases w : A (24 + p) 0 = -1
      · have hn := bn.mpr w
        rw [if_pos hn] at e165 ⊢
        have ev : v165 = sumN (fun p => if A (24 + p) 0 = -1 then 0 else 1) (if p + 1 ≤ 6 then p + 1 else 6) := by
          rw [e165, nx, if_pos w]
          congr 1
          (repeat' split) <;> first | rfl | (exfalso; contradiction)
        exact ⟨fun _ v166 e166 => go v165 v166 ev e166, fun z => by cases z⟩
      · have hn : ¬ bilV A p 0 < 0 := fun z => w (bn.mp z)
        rw [if_neg hn] at e165 ⊢
        have ev : v165 = sumN (fun p => if A (24 + p) 0 = -1 then 0 else 1) (if p + 1 ≤ 6 then p + 1 else 6) := by
          rw [e165, nx, if_neg w]
          congr 1
          by_cases z : p < 6
          · rw [if_pos z, if_neg (fun q => by have := (nI_leI (a := 6) (b := p) (by omega) (by omega)).mp q; omega)]
            decide
          · rw [if_neg z, if_pos (show (6 : Int32) ≤ nI p from (nI_leI (a := 6) (b := p) (by omega) (by omega)).mpr (by omega))]
            decide
        obtain ⟨t, r, et, h20, h1250, er, hr3⟩ := hx p hlt (by omega) w
        have hb := hI.2.2.2.1.1 p hlt
        obtain ⟨bl, ebl, hb1, hb9⟩ : ∃ x, A (24 + p) 3 = nI x ∧ 1 ≤ x ∧ x ≤ 9 := by
          rcases hb with y | ⟨-, y⟩
          · exact absurd y w
          · exact y
        have b1 : bilV A p 1 = nI t := by unfold bilV; rw [if_neg w]; exact et
        have b2 : bilV A p 2 = nI r := by unfold bilV; rw [if_neg w]; exact er
        have b3 : bilV A p 3 = nI bl := by unfold bilV; rw [if_neg w]; exact ebl
        refine ⟨fun z => (by cases z), fun _ => ⟨fun q => ?_, fun _ => ⟨fun q => ?_, fun _ => y_billet h rfl hlt (n := 3) rfl (by omega) ⟨fun q => ?_, fun _ => y_billet h rfl hlt (n := 3) rfl (by omega) ⟨fun q => ?_, fun _ => y_billet h rfl hlt (n := 2) rfl (by omega) ⟨fun _ v166 e166 => go v165 v166 ev e166, fun q => absurd ?_ q⟩⟩⟩⟩⟩⟩
        · rw [b1] at q
          have := (nI_ltI (b := 20) (by omega) (by omega)).mp q
          omega
        · rw [b1] at q
          have := (nI_ltI (a := 1250) (by omega) (by omega)).mp q
          omega
        · have q : bilV A p 3 < 1 := q
          rw [b3] at q
          have := (nI_ltI (b := 1) (by omega) (by omega)).mp q
          omega
        · have q : 9 < bilV A p 3 := q
          rw [b3] at q
          have := (nI_ltI (a := 9) (by omega) (by omega)).mp q
          omega
        · show bilV A p 2 ≤ 3
          rw [b2]
          exact (nI_leI (b := 3) (by omega) (by omega)).mpr hr3
  -- the dies
  have D : ∀ f d, d + f = 5 → wpL_L_holds_96 278 P (f + 1) M 0 (madeS A) (sumN (fun h => A (2 + h) 4) 4) (sumN (fun d => A (7 + d) 4) d) (nI d) := by
    intro f
    induction f with
    | zero =>
      intro d hd5
      have : d = 5 := by omega
      subst this
      exact ⟨fun _ => ⟨8, B 7 0 (by omega)⟩, fun e => absurd ((nI_leI (a := 5) (b := 5) (by omega) (by omega)).mpr (by omega)) e⟩
    | succ f ih =>
      intro d hd5
      have hlt : d < 5 := by omega
      obtain ⟨l, el, hl10, hl300⟩ := hd d hlt
      have d3 : dieV A d 3 = A (7 + d) 3 := rfl
      have d1 : dieV A d 1 = A (7 + d) 1 := rfl
      have n10 : numV A (cnt A) (nI s) 10 = oI (groundA A) := rfl
      have go := oI_d (o := groundA A) hlt fun e he => by have := (fst9_some he).2.1; omega
      have gi := groundA_iff hI.2.2.2.2.1 hlt
      refine ⟨fun e => absurd ((nI_leI (a := 5) (b := d) (by omega) (by omega)).mp e) (by omega), fun _ => ⟨tp6, y_dieOf h rfl hlt (n := 4) rfl (by omega) fun v177 e177 => y_dieOf h rfl hlt (n := 3) rfl (by omega) (y_count h ok (n := 10) rfl (by omega) ⟨fun w => absurd ?_ w, fun _ => y_dieOf h rfl hlt (n := 1) rfl (by omega) ⟨fun _ v184 e184 => ?_, fun w => absurd ?_ w⟩⟩)⟩⟩
      · show bI (if dieV A d 3 ≤ 0 then false else true) = bI (if ¬ numV A (cnt A) (nI s) 10 = nI d then false else true)
        rw [d3, n10]
        congr 1
        by_cases w : A (7 + d) 3 ≤ 0
        · rw [if_pos w, if_pos (fun z => absurd (gi.mp (go.mp z)) (Int32.not_lt.mpr w))]
        · rw [if_neg w, if_neg (fun z => z (go.mpr (gi.mpr (Int32.not_le.mp w))))]
      · rw [e184, nI_1, e177]
        exact ih (d + 1) (by omega)
      · show (10 : Int32) ≤ dieV A d 1
        rw [d1, el]
        exact (nI_leI (a := 10) (by omega) (by omega)).mpr hl10
  -- the heats
  have H : ∀ f i, i + f = 4 → wpL_L_holds_10 278 P (f + 1) M 0 276 (sumN (fun h => A (2 + h) 3) i) (sumN (fun h => A (2 + h) 4) i) 0 (nI i) := by
    intro f
    induction f with
    | zero =>
      intro i hi4
      have : i = 4 := by omega
      subst this
      exact ⟨fun _ => ⟨6, D 5 0 (by omega)⟩, fun e => absurd ((nI_leI (a := 4) (b := 4) (by omega) (by omega)).mpr (by omega)) e⟩
    | succ f ih =>
      intro i hi4
      have hlt : i < 4 := by omega
      have e0 : heatV A (cnt A) i 0 = A (2 + i) 0 := rfl
      have e3 : heatV A (cnt A) i 3 = bilOfA A (cnt A) (nI i) := rfl
      have e4 : heatV A (cnt A) i 4 = A (2 + i) 3 := rfl
      have e5 : heatV A (cnt A) i 5 = A (2 + i) 4 := rfl
      have e6 : heatV A (cnt A) i 6 = lackOfA A (cnt A) (nI i) := rfl
      refine ⟨fun e => absurd ((nI_leI (a := 4) (b := i) (by omega) (by omega)).mp e) (by omega), fun _ => ⟨tp6, y_heat h ok rfl hlt (n := 0) rfl (by omega) (y_heat h ok rfl hlt (n := 3) rfl (by omega) (y_heat h ok rfl hlt (n := 4) rfl (by omega) (y_heat h ok rfl hlt (n := 5) rfl (by omega) ⟨tp276, by rw [len276]; exact vpI rfl hlt (by omega), fun w => absurd ?_ w, fun _ => y_heat h ok rfl hlt (n := 6) rfl (by omega) ⟨fun _ => y_heat h ok rfl hlt (n := 4) rfl (by omega) fun v200 e200 => y_heat h ok rfl hlt (n := 5) rfl (by omega) fun v203 e203 v204 e204 => ?_, fun w => absurd ?_ w⟩⟩)))⟩⟩
      · show heatV A (cnt A) i 0 + heatV A (cnt A) i 3 + heatV A (cnt A) i 4 + heatV A (cnt A) i 5 = M.1 276 (nI i).toNatClampNeg
        rw [nI_clamp (by omega), ha i hlt, ← htot i hlt, e0, e3, e4, e5, bil_sum]
        rfl
      · rw [e204, nI_1, e200, e203]
        exact ih (i + 1) (by omega)
      · show (0 : Int32) ≤ heatV A (cnt A) i 6
        rw [e6]
        exact lack_pos hI
  exact ⟨5, H 4 0 (by omega)⟩
end YHP
