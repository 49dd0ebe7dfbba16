/-! What the law asks of a state: it holds. -/
theorem sumN_le {t : Nat → Int32} {K : Nat} : ∀ {n : Nat}, (∀ j, j < n → ∃ m, t j = nI m ∧ m ≤ K) → ∃ m, sumN t n = nI m ∧ m ≤ K * n := by
  intro n
  induction n with
  | zero => intro _; exact ⟨0, rfl, by omega⟩
  | succ n ih =>
    intro h
    obtain ⟨a, ea, ha⟩ := ih fun j hj => h j (by omega)
    obtain ⟨b, eb, hb⟩ := h n (by omega)
    refine ⟨a + b, ?_, by rw [Nat.mul_succ]; omega⟩
    show sumN t n + t n = _
    rw [ea, eb, nI_add]
def tailH (P : Bool → Mem → Prop) (K_ : Int32 → Mem → Prop) (M : Mem) (x8 x9 r25 r27 : Int32) : Prop := wp_X6_jobOf 278 M 0 x8 4 (fun r32 M31 => wp_X6_jobOf 278 M31 0 x8 3 (fun r34 M33 => ((r34 ≤ r32 → P false M33) ∧ (¬ r34 ≤ r32 → wp_X6_jobOf 278 M33 0 x8 3 (fun r36 M35 => wp_X6_jobOf 278 M35 0 x8 4 (fun r38 M37 => (((r36 - r38) < x9 → P false M37) ∧ (¬ (r36 - r38) < x9 → wp_X6_jobOf 278 M37 0 x8 7 (fun r40 M39 => (((bI (if ¬ r40 = 0 then false else true)) = (bI (if ¬ r25 = r27 then false else true)) → ∀ v41 : Int32, v41 = x8 + 1 → (K_ v41 M39)) ∧ (¬ (bI (if ¬ r40 = 0 then false else true)) = (bI (if ¬ r25 = r27 then false else true)) → P false M39)))))))))))
section YHO
variable {M : Mem} {A : Ab} {Q : Nat → Ab} {s b j N T U : Nat} {cd : Nat → Nat} {τ : Nat → Int32}
theorem bil_num (hI : Iv A (cnt A) N T) {p : Nat} (hp : p < 7) : (bilV A p 0 < 0 ↔ A (24 + p) 0 = -1) ∧ ∀ k, k < cnt A → (bilV A p 0 = A (13 + k) 0 ↔ A (24 + p) 0 = A (13 + k) 0) := by
  have e0 : bilV A p 0 = A (24 + p) 0 := by
    unfold bilV
    split
    · rename_i e; exact e.symm
    · rfl
  rw [e0]
  refine ⟨⟨fun w => ?_, fun w => by rw [w]; decide⟩, fun k hk => Iff.rfl⟩
  rcases hI.2.2.2.1.1 p hp with y | ⟨⟨k, hk, y⟩, _⟩
  · exact y
  · obtain ⟨m, em, _⟩ := hI.1.2.2.1 k hk
    have := hI.1.2.2.2.2.1
    rw [y, em] at w
    exact absurd w (nI_pos (by omega))
theorem reason_0 (k : Nat) : reasonV A k = 0 ↔ A 30 0 = A (13 + k) 0 := by
  unfold reasonV
  constructor
  · intro h
    by_cases e : A 30 0 = A (13 + k) 0
    · exact e
    · rw [if_neg e] at h
      exfalso
      revert h
      (repeat' split) <;> decide
  · intro e; rw [if_pos e]
theorem y_tail (h : KC M A Q s b cd) (hI : Iv A (cnt A) N T) {k : Nat} (hk : k < cnt A) {P : Bool → Mem → Prop} {K_ : Int32 → Mem → Prop} (hp : ∀ v, v = nI k + 1 → K_ v M) : tailH P K_ M (nI k) (nI (bc A k)) (bilV A 6 0) (jobV A k 0) := by
  have ok := hI.1.1
  obtain ⟨p, m, u, e3, e4, e5, h1, h2, h3⟩ := hI.1.2.2.2.2.2.2 k hk
  obtain ⟨p', m', f3, f4, f5, f6⟩ := hI.2.2.1 k hk
  have ep : p' = p := (nI_eq (by omega) (by omega)).mp (f3.symm.trans e3)
  have em : m' = m := (nI_eq (by omega) (by omega)).mp (f4.symm.trans e4)
  subst ep em
  have bn := (bil_num hI (p := 6) (by omega)).2 k hk
  refine y_jobOf h ok rfl hk (n := 4) rfl (by omega) (y_jobOf h ok rfl hk (n := 3) rfl (by omega) ⟨fun e => ?_, fun _ => y_jobOf h ok rfl hk (n := 3) rfl (by omega) (y_jobOf h ok rfl hk (n := 4) rfl (by omega) ⟨fun e => ?_, fun _ => y_jobOf h ok rfl hk (n := 7) rfl (by omega) ⟨fun _ => hp, fun e => ?_⟩⟩)⟩)
  · have e : A (13 + k) 3 ≤ A (13 + k) 4 := e
    rw [e3, e4] at e
    have := (nI_leI (by omega) (by omega)).mp e
    omega
  · have e : A (13 + k) 3 - A (13 + k) 4 < nI (bc A k) := e
    rw [e3, e4, Int32.lt_iff_toInt_lt, nI_sub_toInt (by omega) (by omega), nI_toInt (by omega)] at e
    omega
  · exfalso
    apply e
    have e1 : jobV A k 7 = reasonV A k := rfl
    have e2 : jobV A k 0 = A (13 + k) 0 := rfl
    have r0 := reason_0 (A := A) k
    rw [e1, e2]
    congr 1
    by_cases w : A 30 0 = A (13 + k) 0
    · rw [if_neg (fun n => n (r0.mpr w)), if_neg (fun n => n (bn.mpr w))]
    · rw [if_pos (fun n => w (r0.mp n)), if_pos (fun n => w (bn.mp n))]
theorem furn_S : furnA A = sumN (fun p => if A (24 + p) 0 = -1 then 0 else 1) 6 := by
  unfold furnA
  rw [show (fun (p : Nat) (a : Int32) => if A (24 + p) 0 = -1 then a else a + 1) = (fun p a => a + (if A (24 + p) 0 = -1 then 0 else 1)) from funext fun p => funext fun a => by
    split
    · rw [Int32.add_zero]
    · rfl]
  rw [foldN_sum, Int32.zero_add]
  exact sumN_congr fun j _ => by show (if A (24 + (0 + j)) 0 = -1 then (0 : Int32) else 1) = _; rw [Nat.zero_add]
theorem scrap_S : scrapA A = sumN (fun h => A (2 + h) 4) 4 := by
  unfold scrapA
  rw [foldN_sum, Int32.zero_add]
  exact sumN_congr fun j _ => by show A (2 + (0 + j)) 4 = A (2 + j) 4; rw [Nat.zero_add]
theorem rush_S {c : Nat} (ok : okN A c) : rushA A c = sumN (fun k => A (13 + k) 6) c := by
  unfold rushA
  rw [show (fun (k : Nat) (a : Int32) => if A (13 + k) 6 != 0 then a + 1 else a) = (fun k a => a + (if A (13 + k) 6 != 0 then 1 else 0)) from funext fun p => funext fun a => by
    split
    · rfl
    · rw [Int32.add_zero]]
  rw [foldN_sum, Int32.zero_add]
  refine sumN_congr fun j hj => ?_
  show (if A (13 + (0 + j)) 6 != 0 then (1 : Int32) else 0) = A (13 + j) 6
  rw [Nat.zero_add]
  rcases (ok.2.2 j hj).2.2 with e | e <;> rw [e] <;> decide
theorem lack_pos (hI : Iv A (cnt A) N T) {x : Int32} : 0 ≤ lackOfA A (cnt A) x := by
  have hc := hI.1.1.2.1
  have e : lackOfA A (cnt A) x = sumN (fun k => if A (13 + k) 2 = x then lackA A k else 0) (cnt A) := by
    unfold lackOfA
    rw [show (fun (k : Nat) (a : Int32) => if A (13 + k) 2 = x then a + lackA A k else a) = (fun k a => a + (if A (13 + k) 2 = x then lackA A k else 0)) from funext fun p => funext fun a => by
      split
      · rfl
      · rw [Int32.add_zero]]
    rw [foldN_sum, Int32.zero_add]
    exact sumN_congr fun j _ => by show (if A (13 + (0 + j)) 2 = x then lackA A (0 + j) else 0) = _; rw [Nat.zero_add]
  obtain ⟨m, em, hm⟩ := sumN_le (t := fun k => if A (13 + k) 2 = x then lackA A k else 0) (K := 40) (n := cnt A) fun k hk => by
    obtain ⟨p, m, f3, f4, f5, f6⟩ := hI.2.2.1 k hk
    show ∃ n, (if A (13 + k) 2 = x then lackA A k else 0) = nI n ∧ n ≤ 40
    split
    · refine ⟨p - m - bc A k, ?_, by omega⟩
      unfold lackA
      rw [f3, f4, hI.2.1.bc hk]
      have h1 : nI p - nI m = nI (p - m) := by
        rw [← Int32.toInt_inj, nI_sub_toInt (by omega) (by omega), nI_toInt (by omega)]; omega
      rw [h1, ← Int32.toInt_inj, nI_sub_toInt (by omega) (by omega), nI_toInt (by omega)]
      omega
    · exact ⟨0, rfl, by omega⟩
  rw [e, em]
  exact (nI_leI (a := 0) (by omega) (by omega)).mpr (by omega)
theorem bc_S (k q : Nat) : nI (cntN (fun p => decide (A (24 + p) 0 = A (13 + k) 0)) (q + 1)) = nI (cntN (fun p => decide (A (24 + p) 0 = A (13 + k) 0)) q) + (if A (24 + q) 0 = A (13 + k) 0 then 1 else 0) := by
  show nI (cntN (fun p => decide (A (24 + p) 0 = A (13 + k) 0)) q + (if decide (A (24 + q) 0 = A (13 + k) 0) = true then 1 else 0)) = _
  by_cases w : A (24 + q) 0 = A (13 + k) 0
  · rw [if_pos (decide_eq_true w), if_pos w, nI_1]
  · rw [if_neg (by simp [w]), if_neg w, Int32.add_zero]; rfl
theorem y_jobs (h : KC M A Q s b cd) (hI : Iv A (cnt A) N T) {P : Bool → Mem → Prop} {x2 x3 x4 x5 x6 : Int32} (K_ : Mem → Nat → Int32 → Int32 → Int32 → Int32 → Int32 → Int32 → Int32 → Prop) {k : Nat} (hk : k < cnt A) (x7 : Int32)
    (hp : K_ M 0 x2 x3 x4 x5 x6 (x7 + A (13 + k) 6) (nI (k + 1))) : ∀ f q, q + f = 7 → wpL_L_holds_317 278 P K_ (f + 1) M 0 x2 x3 x4 x5 x6 x7 (nI k) (nI (cntN (fun p => decide (A (24 + p) 0 = A (13 + k) 0)) q)) (nI q) := by
  have ok := hI.1.1
  have hc := ok.2.1
  intro f
  induction f with
  | succ f ih =>
    intro q hq
    refine ⟨fun e => absurd ((nI_leI (a := 7) (b := q) (by omega) (by omega)).mp e) (by omega), fun _ => ⟨tp6, y_billet h (i := q) rfl (by omega) (n := 0) rfl (by omega) (y_jobOf h ok rfl hk (n := 0) rfl (by omega) fun v8 e8 v9 e9 => ?_)⟩⟩
    have e0 : jobV A k 0 = A (13 + k) 0 := rfl
    have bn := (bil_num hI (p := q) (by omega)).2 k hk
    have ev : v8 = nI (cntN (fun p => decide (A (24 + p) 0 = A (13 + k) 0)) (q + 1)) := by
      rw [e8, bc_S, e0]
      congr 1
      by_cases w : A (24 + q) 0 = A (13 + k) 0
      · rw [if_neg (fun n => n (bn.mpr w)), if_pos w]; rfl
      · rw [if_pos (fun n => w (bn.mp n)), if_neg w]; rfl
    rw [ev, e9, nI_1]
    exact ih (q + 1) (by omega)
  | zero =>
    intro q hq
    have : q = 7 := by omega
    subst this
    have tl : ∀ v30 : Int32, v30 = x7 + jobV A k 6 → tailH P (fun v M' => K_ M' 0 x2 x3 x4 x5 x6 v30 v) M (nI k) (nI (bc A k)) (bilV A 6 0) (jobV A k 0) := fun v30 e30 => y_tail h hI hk fun v ev => by
      rw [e30, ev, nI_1]
      exact hp
    refine ⟨fun _ => ⟨fun e => ⟨tp6, y_billet h (i := 6) rfl (by omega) (n := 0) rfl (by omega) (y_jobOf h ok rfl hk (n := 0) rfl (by omega) (y_jobOf h ok rfl hk (n := 6) rfl (by omega) fun v30 e30 => ⟨fun w => absurd w (by decide), fun _ => tl v30 e30⟩))⟩, fun e => ?_⟩, fun e => absurd ((nI_leI (a := 7) (b := 7) (by omega) (by omega)).mpr (by omega)) e⟩
    obtain ⟨k', rfl⟩ : ∃ k', k = k' + 1 := ⟨k - 1, by
      have : k ≠ 0 := fun w => e (by rw [w]; rfl)
      omega⟩
    have hb := hI.1.2.1 k' (k' + 1) (by omega) hk
    rw [bef_iff] at hb
    have h6a := (ok.2.2 k' (by omega)).2.2
    have h6b := (ok.2.2 (k' + 1) hk).2.2
    have ep : nI (k' + 1) - 1 = nI k' := nI_pred k'
    rw [ep]
    have i6 : jobV A (k' + 1) 6 = A (13 + (k' + 1)) 6 ∧ jobV A k' 6 = A (13 + k') 6 ∧ jobV A (k' + 1) 5 = A (13 + (k' + 1)) 5 ∧ jobV A k' 5 = A (13 + k') 5 ∧ jobV A (k' + 1) 0 = A (13 + (k' + 1)) 0 ∧ jobV A k' 0 = A (13 + k') 0 := ⟨rfl, rfl, rfl, rfl, rfl, rfl⟩
    obtain ⟨j1, j2, j3, j4, j5, j6⟩ := i6
    have one : wp_X6_billet 278 M 0 6 0 (fun r48 M47 => wp_X6_jobOf 278 M47 0 (nI (k' + 1)) 0 (fun r50 M49 => wp_X6_jobOf 278 M49 0 (nI (k' + 1)) 6 (fun r52 M51 => ∀ v53 : Int32, v53 = x7 + r52 → (((1 : Int32) = 0 → P false M51) ∧ (¬ (1 : Int32) = 0 → tailH P (fun v M' => K_ M' 0 x2 x3 x4 x5 x6 v53 v) M51 (nI (k' + 1)) (nI (bc A (k' + 1))) r48 r50))))) :=
      y_billet h (i := 6) rfl (by omega) (n := 0) rfl (by omega) (y_jobOf h ok rfl hk (n := 0) rfl (by omega) (y_jobOf h ok rfl hk (n := 6) rfl (by omega) fun v30 e30 => ⟨fun w => absurd w (by decide), fun _ => tl v30 e30⟩))
    have r01 : ∀ x : Int32, x = 0 ∨ x = 1 → ((rk x = 1 ∧ x = 0) ∨ (rk x = 0 ∧ x = 1)) := fun x hx => by
      rcases hx with rfl | rfl
      · exact Or.inl ⟨by decide, rfl⟩
      · exact Or.inr ⟨by decide, rfl⟩
    refine ⟨tp6, y_jobOf h ok rfl hk (n := 6) rfl (by omega) (y_jobOf h ok rfl (by omega) (n := 6) rfl (by omega) ⟨fun _ => one, fun n1 => y_jobOf h ok rfl hk (n := 6) rfl (by omega) (y_jobOf h ok rfl (by omega) (n := 6) rfl (by omega) ⟨fun n2 => absurd ?_ n2, fun _ => y_jobOf h ok rfl hk (n := 5) rfl (by omega) (y_jobOf h ok rfl (by omega) (n := 5) rfl (by omega) ⟨fun _ => one, fun n3 => y_jobOf h ok rfl hk (n := 5) rfl (by omega) (y_jobOf h ok rfl (by omega) (n := 5) rfl (by omega) ⟨fun n4 => absurd ?_ n4, fun _ => y_jobOf h ok rfl hk (n := 0) rfl (by omega) (y_jobOf h ok rfl (by omega) (n := 0) rfl (by omega) (y_billet h (i := 6) rfl (by omega) (n := 0) rfl (by omega) (y_jobOf h ok rfl hk (n := 0) rfl (by omega) (y_jobOf h ok rfl hk (n := 6) rfl (by omega) fun v30 e30 => ⟨fun w => ?_, fun _ => tl v30 e30⟩))))⟩)⟩)⟩)⟩)⟩
    · have n1 : ¬ A (13 + (k' + 1)) 6 < A (13 + k') 6 := n1
      show A (13 + (k' + 1)) 6 = A (13 + k') 6
      rcases r01 _ h6a with ⟨ra, ea⟩ | ⟨ra, ea⟩ <;> rcases r01 _ h6b with ⟨rb, eb⟩ | ⟨rb, eb⟩
      · rw [ea, eb]
      · rw [ra, rb] at hb; omega
      · rw [ea, eb] at n1; exact absurd (by decide) n1
      · rw [ea, eb]
    · have n1 : ¬ A (13 + (k' + 1)) 6 < A (13 + k') 6 := n1
      have n3 : ¬ A (13 + k') 5 < A (13 + (k' + 1)) 5 := n3
      show A (13 + (k' + 1)) 5 = A (13 + k') 5
      rw [Int32.lt_iff_toInt_lt] at n3
      rw [← Int32.toInt_inj]
      rcases r01 _ h6a with ⟨ra, ea⟩ | ⟨ra, ea⟩ <;> rcases r01 _ h6b with ⟨rb, eb⟩ | ⟨rb, eb⟩
      · rw [ra, rb] at hb; omega
      · rw [ra, rb] at hb; omega
      · rw [ea, eb] at n1; exact absurd (by decide) n1
      · rw [ra, rb] at hb; omega
    · exfalso
      have n1 : ¬ A (13 + (k' + 1)) 6 < A (13 + k') 6 := n1
      have n3 : ¬ A (13 + k') 5 < A (13 + (k' + 1)) 5 := n3
      have w : (if A (13 + (k' + 1)) 0 ≤ A (13 + k') 0 then false else true) = false := w
      rw [Int32.lt_iff_toInt_lt] at n3
      have hle : A (13 + (k' + 1)) 0 ≤ A (13 + k') 0 := by
        by_cases z : A (13 + (k' + 1)) 0 ≤ A (13 + k') 0
        · exact z
        · rw [if_neg z] at w; cases w
      rw [Int32.le_iff_toInt_le] at hle
      rcases r01 _ h6a with ⟨ra, ea⟩ | ⟨ra, ea⟩ <;> rcases r01 _ h6b with ⟨rb, eb⟩ | ⟨rb, eb⟩
      · rw [ra, rb] at hb; omega
      · rw [ra, rb] at hb; omega
      · rw [ea, eb] at n1; exact absurd (by decide) n1
      · rw [ra, rb] at hb; omega
end YHO
