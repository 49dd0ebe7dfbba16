/-! Looks at a shop: what the methods of Shop answer, as functions of its value. -/
def fst9 (c : Nat → Bool) : Nat → Nat → Option Nat
  | 0, _ => none
  | f + 1, i => if c i = true then some i else fst9 c f (i + 1)
def foldN {α : Type} (g : Nat → α → α) : Nat → Nat → α → α
  | 0, _, a => a
  | f + 1, i, a => foldN g f (i + 1) (g i a)
def oI (o : Option Nat) : Int32 := match o with
  | none => -1
  | some k => nI k
theorem cGe {n i : Nat} {x y : Int32} (hx : x = nI n) (hy : y = nI i) (h : n ≤ i) (hi : i < 2 ^ 31) : x ≤ y := by
  subst hx hy
  exact (nI_leI (by omega) hi).mpr h
theorem cLt {n i : Nat} {x y : Int32} (hx : x = nI n) (hy : y = nI i) (h : i < n) (hn : n < 2 ^ 31) : ¬ x ≤ y := by
  subst hx hy
  exact fun c => absurd ((nI_leI hn (by omega)).mp c) (by omega)
theorem cGt {n i : Nat} {x y : Int32} (hx : x = nI n) (hy : y = nI i) (h : n < i) (hi : i < 2 ^ 31) : x < y := by
  subst hx hy
  exact (nI_ltI (by omega) hi).mpr h
theorem cNgt {n i : Nat} {x y : Int32} (hx : x = nI n) (hy : y = nI i) (h : i ≤ n) (hn : n < 2 ^ 31) : ¬ x < y := by
  subst hx hy
  exact fun c => absurd ((nI_ltI hn (by omega)).mp c) (by omega)
def hj (A : Ab) (k : Nat) : Nat := (A (13 + k) 2).toNatClampNeg
def dj (A : Ab) (k : Nat) : Nat := (A (13 + k) 1).toNatClampNeg
/-- the shop has c jobs, whose numbers of heat and die are such -/
def okN (A : Ab) (c : Nat) : Prop := A 0 5 = nI c ∧ c ≤ 10 ∧ ∀ k, k < c → (∃ d, d < 5 ∧ A (13 + k) 1 = nI d) ∧ (∃ h, h < 4 ∧ A (13 + k) 2 = nI h) ∧ (A (13 + k) 6 = 0 ∨ A (13 + k) 6 = 1)
theorem okN.h {A : Ab} {c k : Nat} (o : okN A c) (hk : k < c) : hj A k < 4 ∧ A (13 + k) 2 = nI (hj A k) := by
  obtain ⟨h, hh, e⟩ := (o.2.2 k hk).2.1
  unfold hj
  rw [e, nI_clamp (by omega)]
  exact ⟨hh, rfl⟩
theorem okN.d {A : Ab} {c k : Nat} (o : okN A c) (hk : k < c) : dj A k < 5 ∧ A (13 + k) 1 = nI (dj A k) := by
  obtain ⟨h, hh, e⟩ := (o.2.2 k hk).1
  unfold dj
  rw [e, nI_clamp (by omega)]
  exact ⟨hh, rfl⟩
def lackA (A : Ab) (k : Nat) : Int32 := A (13 + k) 3 - A (13 + k) 4 - A (13 + k) 7
def madeA (A : Ab) : Int32 := foldN (fun h a => a + A (2 + h) 3) 4 0 0
def scrapA (A : Ab) : Int32 := foldN (fun h a => a + A (2 + h) 4) 4 0 0
def rushA (A : Ab) (c : Nat) : Int32 := foldN (fun k a => if A (13 + k) 6 != 0 then a + 1 else a) c 0 0
def furnA (A : Ab) : Int32 := foldN (fun p a => if A (24 + p) 0 = -1 then a else a + 1) 6 0 0
def bilOfA (A : Ab) (c : Nat) (h : Int32) : Int32 := foldN (fun k a => if A (13 + k) 2 = h then a + A (13 + k) 7 else a) c 0 0
def lackOfA (A : Ab) (c : Nat) (h : Int32) : Int32 := foldN (fun k a => if A (13 + k) 2 = h then a + lackA A k else a) c 0 0
def placeA (A : Ab) (c : Nat) (x : Int32) : Option Nat := fst9 (fun k => decide (A (13 + k) 0 = x)) c 0
def groundA (A : Ab) : Option Nat := fst9 (fun d => !decide (A (7 + d) 3 ≤ 0)) 5 0
def freeA (A : Ab) : Option Nat := fst9 (fun p => decide (A (24 + p) 0 = -1)) 6 0
def hotG (A : Ab) (k : Nat) (p : Nat) (x : Int32 × Option Nat) : Int32 × Option Nat := if A (24 + p) 0 = A (13 + k) 0 ∧ ¬ A (24 + p) 1 < x.1 then (A (24 + p) 1 + 1, some p) else x
def hotA (A : Ab) (k : Nat) : Option Nat := (foldN (hotG A k) 6 0 (A (2 + hj A k) 2, none)).2
section LOOKS
variable {B M : Mem} {S : Nat} {π : Nat → Nat} {A : Ab} {c : Nat}
theorem x_placeOf (h : CF B M S π A) (ok : okN A c) {x : Int32} {P : Int32 → Mem → Prop} (hp : P (oI (placeA A c x)) M) : wp_X5_placeOf 278 M S x P := by
  refine ⟨c + 1, ?_⟩
  have L : ∀ f i, i + f = c → P (oI (fst9 (fun k => decide (A (13 + k) 0 = x)) f i)) M → wpL_X5_placeOf_2 278 P (f + 1) M S x (nI i) := by
    intro f
    induction f with
    | zero =>
      intro i hi hp
      show wpB_X5_placeOf_2 _ _ _ _ _ _ _
      unfold wpB_X5_placeOf_2
      exact ⟨h.tp0, fun _ => hp, fun k => absurd (cGe ((h.N 5).trans ok.1) rfl (by omega) (by have := ok.2.1; omega)) k⟩
    | succ f ih =>
      intro i hi hp
      have := ok.2.1
      show wpB_X5_placeOf_2 _ _ _ _ _ _ _
      unfold wpB_X5_placeOf_2
      refine ⟨h.tp0, fun k => absurd k (cLt ((h.N 5).trans ok.1) rfl (by omega) (by omega)), fun _ => x_jobAt h (k := i) (by omega) rfl ⟨h.tpJ (by omega), fun hne v hv => ?_, fun he => ?_⟩⟩
      · rw [h.J (by omega)] at hne
        rw [hv, nI_1]
        refine ih (i + 1) (by omega) ?_
        simpa only [fst9, decide_eq_true_eq, if_neg hne] using hp
      · rw [h.J (by omega)] at he
        simpa only [fst9, decide_eq_true_eq, if_pos he, oI] using hp
  exact L c 0 (by omega) hp
theorem x_countMade (h : CF B M S π A) {P : Int32 → Mem → Prop} (hp : P (madeA A) M) : wp_X5_countMade 278 M S P := by
  refine ⟨5, ?_⟩
  have L : ∀ f i a, i + f = 4 → P (foldN (fun h a => a + A (2 + h) 3) f i a) M → wpL_X5_countMade_4 278 P (f + 1) M S a (nI i) := by
    intro f
    induction f with
    | zero =>
      intro i a hi hp
      exact ⟨fun _ => hp, fun k => absurd (cGe (n := 4) rfl rfl (by omega) (by omega)) k⟩
    | succ f ih =>
      intro i a hi hp
      refine ⟨fun k => absurd k (cLt (n := 4) rfl rfl (by omega) (by omega)), fun _ => ⟨h.tp0, x_heatAt h (i := i) (by omega) rfl ⟨h.tpH (by omega), fun v hv w hw => ?_⟩⟩⟩
      rw [hv, hw, nI_1, h.H (by omega)]
      exact ih (i + 1) _ (by omega) hp
  exact L 4 0 0 (by omega) hp
theorem x_countScrap (h : CF B M S π A) {P : Int32 → Mem → Prop} (hp : P (scrapA A) M) : wp_X5_countScrap 278 M S P := by
  refine ⟨5, ?_⟩
  have L : ∀ f i a, i + f = 4 → P (foldN (fun h a => a + A (2 + h) 4) f i a) M → wpL_X5_countScrap_4 278 P (f + 1) M S a (nI i) := by
    intro f
    induction f with
    | zero =>
      intro i a hi hp
      exact ⟨fun _ => hp, fun k => absurd (cGe (n := 4) rfl rfl (by omega) (by omega)) k⟩
    | succ f ih =>
      intro i a hi hp
      refine ⟨fun k => absurd k (cLt (n := 4) rfl rfl (by omega) (by omega)), fun _ => ⟨h.tp0, x_heatAt h (i := i) (by omega) rfl ⟨h.tpH (by omega), fun v hv w hw => ?_⟩⟩⟩
      rw [hv, hw, nI_1, h.H (by omega)]
      exact ih (i + 1) _ (by omega) hp
  exact L 4 0 0 (by omega) hp
theorem x_countRushJobs (h : CF B M S π A) (ok : okN A c) {P : Int32 → Mem → Prop} (hp : P (rushA A c) M) : wp_X5_countRushJobs 278 M S P := by
  refine ⟨c + 1, ?_⟩
  have := ok.2.1
  have L : ∀ f i a, i + f = c → P (foldN (fun k a => if A (13 + k) 6 != 0 then a + 1 else a) f i a) M → wpL_X5_countRushJobs_4 278 P (f + 1) M S a (nI i) := by
    intro f
    induction f with
    | zero =>
      intro i a hi hp
      exact ⟨h.tp0, fun _ => hp, fun k => absurd (cGe ((h.N 5).trans ok.1) rfl (by omega) (by omega)) k⟩
    | succ f ih =>
      intro i a hi hp
      refine ⟨h.tp0, fun k => absurd k (cLt ((h.N 5).trans ok.1) rfl (by omega) (by omega)), fun _ => x_jobAt h (k := i) (by omega) rfl ⟨h.tpJ (by omega), fun hne v hv => ?_, fun he v hv w hw => ?_⟩⟩
      · rw [h.J (by omega)] at hne
        rw [hv, nI_1]
        refine ih (i + 1) _ (by omega) ?_
        simpa only [foldN, hne, Bool.false_eq_true, if_false] using hp
      · rw [h.J (by omega)] at he
        rw [hv, hw, nI_1]
        refine ih (i + 1) _ (by omega) ?_
        simpa only [foldN, he, if_true] using hp
  exact L c 0 0 (by omega) hp
theorem x_countInFurnace (h : CF B M S π A) {P : Int32 → Mem → Prop} (hp : P (furnA A) M) : wp_X5_countInFurnace 278 M S P := by
  refine ⟨h.tp0, S + 23, h.furn.1, h.furn.2.1, fun v hv => ⟨7, ?_⟩⟩
  rw [h.furn.2.2] at hv
  have L : ∀ f i a, i + f = 6 → P (foldN (fun p a => if A (24 + p) 0 = -1 then a else a + 1) f i a) M → wpL_X5_countInFurnace_13 278 P (f + 1) M a (S + 23) v (nI i) := by
    intro f
    induction f with
    | zero =>
      intro i a hi hp
      exact ⟨fun _ => hp, fun k => absurd (cGe hv rfl (by omega) (by omega)) k⟩
    | succ f ih =>
      intro i a hi hp
      refine ⟨fun k => absurd k (cLt hv rfl (by omega) (by omega)), fun _ => ⟨h.furn.2.1, by rw [h.furn.2.2]; exact vp_in_nI (by omega) (by omega), S + 24 + i, h.furnAt (by omega), h.tpB (by omega), fun he w hw => ?_, fun hne w hw w' hw' => ?_⟩⟩
      · rw [h.Bi (by omega)] at he
        rw [hw, nI_1]
        refine ih (i + 1) _ (by omega) ?_
        simpa only [foldN, if_pos he] using hp
      · rw [h.Bi (by omega)] at hne
        rw [hw, hw', nI_1]
        refine ih (i + 1) _ (by omega) ?_
        simpa only [foldN, if_neg hne] using hp
  exact L 6 0 0 (by omega) hp
theorem x_countBilletsOf (h : CF B M S π A) (ok : okN A c) {x : Int32} {P : Int32 → Mem → Prop} (hp : P (bilOfA A c x) M) : wp_X5_countBilletsOf 278 M S x P := by
  refine ⟨c + 1, ?_⟩
  have := ok.2.1
  have L : ∀ f i a, i + f = c → P (foldN (fun k a => if A (13 + k) 2 = x then a + A (13 + k) 7 else a) f i a) M → wpL_X5_countBilletsOf_4 278 P (f + 1) M S x a (nI i) := by
    intro f
    induction f with
    | zero =>
      intro i a hi hp
      exact ⟨h.tp0, fun _ => hp, fun k => absurd (cGe ((h.N 5).trans ok.1) rfl (by omega) (by omega)) k⟩
    | succ f ih =>
      intro i a hi hp
      refine ⟨h.tp0, fun k => absurd k (cLt ((h.N 5).trans ok.1) rfl (by omega) (by omega)), fun _ => x_jobAt h (k := i) (by omega) rfl ⟨h.tpJ (by omega), fun hne v hv => ?_, fun he v hv w hw => ?_⟩⟩
      · rw [h.J (by omega)] at hne
        rw [hv, nI_1]
        refine ih (i + 1) _ (by omega) ?_
        simpa only [foldN, if_neg hne] using hp
      · rw [h.J (by omega)] at he hv
        rw [hv, hw, nI_1]
        refine ih (i + 1) _ (by omega) ?_
        simpa only [foldN, if_pos he] using hp
  exact L c 0 0 (by omega) hp
theorem x_lack (h : CF B M S π A) {k : Nat} (hk : k < 10) {P : Int32 → Mem → Prop} (hp : P (lackA A k) M) : wp_X3_lack 278 M (S + 13 + π k) P := by
  refine ⟨h.tpJ hk, ?_⟩
  rw [h.J hk, h.J hk, h.J hk]
  exact hp
theorem x_countLackOf (h : CF B M S π A) (ok : okN A c) {x : Int32} {P : Int32 → Mem → Prop} (hp : P (lackOfA A c x) M) : wp_X5_countLackOf 278 M S x P := by
  refine ⟨c + 1, ?_⟩
  have := ok.2.1
  have L : ∀ f i a, i + f = c → P (foldN (fun k a => if A (13 + k) 2 = x then a + lackA A k else a) f i a) M → wpL_X5_countLackOf_4 278 P (f + 1) M S x a (nI i) := by
    intro f
    induction f with
    | zero =>
      intro i a hi hp
      exact ⟨h.tp0, fun _ => hp, fun k => absurd (cGe ((h.N 5).trans ok.1) rfl (by omega) (by omega)) k⟩
    | succ f ih =>
      intro i a hi hp
      refine ⟨h.tp0, fun k => absurd k (cLt ((h.N 5).trans ok.1) rfl (by omega) (by omega)), fun _ => x_jobAt h (k := i) (by omega) rfl ⟨h.tpJ (by omega), fun hne v hv => ?_, fun he => x_lack h (by omega) fun v hv w hw => ?_⟩⟩
      · rw [h.J (by omega)] at hne
        rw [hv, nI_1]
        refine ih (i + 1) _ (by omega) ?_
        simpa only [foldN, if_neg hne] using hp
      · rw [h.J (by omega)] at he
        rw [hv, hw, nI_1]
        refine ih (i + 1) _ (by omega) ?_
        simpa only [foldN, if_pos he] using hp
  exact L c 0 0 (by omega) hp
theorem x_isBeingGround (h : CF B M S π A) {d : Nat} (hd : d < 5) {P : Bool → Mem → Prop} (hp : P (!decide (A (7 + d) 3 ≤ 0)) M) : wp_X1_isBeingGround 278 M (S + 7 + d) P := by
  refine ⟨h.tpD hd, ?_⟩
  rw [h.D hd]
  by_cases e : A (7 + d) 3 ≤ 0
  · simpa [e] using hp
  · simpa [e] using hp
theorem x_isWornOut (h : CF B M S π A) {d : Nat} (hd : d < 5) {P : Bool → Mem → Prop} (hp : P (!decide (A (7 + d) 2 < A (7 + d) 1)) M) : wp_X1_isWornOut 278 M (S + 7 + d) P := by
  refine ⟨h.tpD hd, ?_⟩
  rw [h.D hd, h.D hd]
  by_cases e : A (7 + d) 2 < A (7 + d) 1
  · simpa [e] using hp
  · simpa [e] using hp
def okDie (A : Ab) (d : Nat) : Bool := !decide (0 < A (7 + d) 3) && !decide (A (7 + d) 1 ≤ A (7 + d) 2)
theorem x_canForge (h : CF B M S π A) {d : Nat} (hd : d < 5) {P : Bool → Mem → Prop} (hp : P (okDie A d) M) : wp_X1_canForge 278 M (S + 7 + d) P := by
  refine ⟨h.tpD hd, ?_⟩
  unfold okDie at hp
  rw [h.D hd, h.D hd, h.D hd]
  refine ⟨fun e => by simpa [e] using hp, fun e => ?_⟩
  by_cases e2 : A (7 + d) 1 ≤ A (7 + d) 2
  · simpa [e, e2] using hp
  · simpa [e, e2] using hp
theorem x_dieBeingGround (h : CF B M S π A) {P : Int32 → Mem → Prop} (hp : P (oI (groundA A)) M) : wp_X5_dieBeingGround 278 M S P := by
  refine ⟨6, ?_⟩
  have L : ∀ f i, i + f = 5 → P (oI (fst9 (fun d => !decide (A (7 + d) 3 ≤ 0)) f i)) M → wpL_X5_dieBeingGround_2 278 P (f + 1) M S (nI i) := by
    intro f
    induction f with
    | zero =>
      intro i hi hp
      exact ⟨fun _ => hp, fun k => absurd (cGe (n := 5) rfl rfl (by omega) (by omega)) k⟩
    | succ f ih =>
      intro i hi hp
      refine ⟨fun k => absurd k (cLt (n := 5) rfl rfl (by omega) (by omega)), fun _ => ⟨h.tp0, x_dieAt h (i := i) (by omega) rfl ⟨h.tpD (by omega), x_isBeingGround h (by omega) ⟨fun he v hv => ?_, fun he => ?_⟩⟩⟩⟩
      · rw [hv, nI_1]
        refine ih (i + 1) (by omega) ?_
        simpa only [fst9, he, Bool.false_eq_true, if_false] using hp
      · simpa only [fst9, he, if_true, oI] using hp
  exact L 5 0 (by omega) hp
theorem x_freePlace (h : CF B M S π A) {P : Option Nat → Mem → Prop} (hp : P ((freeA A).map (fun p => S + 24 + p)) M) : wp_X5_freePlace 278 M S P := by
  refine ⟨h.tp0, S + 23, h.furn.1, h.furn.2.1, fun v hv => ⟨7, ?_⟩⟩
  rw [h.furn.2.2] at hv
  have L : ∀ f i, i + f = 6 → P ((fst9 (fun p => decide (A (24 + p) 0 = -1)) f i).map (fun p => S + 24 + p)) M → wpL_X5_freePlace_10 278 P (f + 1) M (S + 23) v (nI i) := by
    intro f
    induction f with
    | zero =>
      intro i hi hp
      exact ⟨fun _ => hp, fun k => absurd (cGe hv rfl (by omega) (by omega)) k⟩
    | succ f ih =>
      intro i hi hp
      refine ⟨fun k => absurd k (cLt hv rfl (by omega) (by omega)), fun _ => ⟨h.furn.2.1, by rw [h.furn.2.2]; exact vp_in_nI (by omega) (by omega), S + 24 + i, h.furnAt (by omega), h.tpB (by omega), fun hne w hw => ?_, fun he => ?_⟩⟩
      · rw [h.Bi (by omega)] at hne
        rw [hw, nI_1]
        refine ih (i + 1) (by omega) ?_
        simpa only [fst9, decide_eq_true_eq, if_neg hne] using hp
      · rw [h.Bi (by omega)] at he
        simpa only [fst9, decide_eq_true_eq, if_pos he, Option.map_some] using hp
  exact L 6 0 (by omega) hp
theorem x_hottestReady (h : CF B M S π A) (ok : okN A c) {k : Nat} (hk : k < c) {P : Option Nat → Mem → Prop} (hp : P ((hotA A k).map (fun p => S + 24 + p)) M) : wp_X5_hottestReady 278 M S (S + 13 + π k) P := by
  have := ok.2.1
  have hh := ok.h hk
  refine ⟨h.tpJ (by omega), h.tp0, x_heatAt h hh.1 ((h.J (by omega) 2).trans hh.2) ⟨h.tpH hh.1, fun v hv => ⟨S + 23, h.furn.1, h.furn.2.1, fun w hw => ⟨7, ?_⟩⟩⟩⟩
  rw [h.furn.2.2] at hw
  rw [h.H hh.1] at hv
  have L : ∀ f i (x : Int32 × Option Nat), i + f = 6 → P ((foldN (hotG A k) f i x).2.map (fun p => S + 24 + p)) M → wpL_X5_hottestReady_28 278 P (f + 1) M (S + 13 + π k) x.1 (x.2.map (fun p => S + 24 + p)) (S + 23) w (nI i) := by
    intro f
    induction f with
    | zero =>
      intro i x hi hp
      exact ⟨fun _ => hp, fun k => absurd (cGe hw rfl (by omega) (by omega)) k⟩
    | succ f ih =>
      intro i x hi hp
      refine ⟨fun k => absurd k (cLt hw rfl (by omega) (by omega)), fun _ => ⟨h.furn.2.1, by rw [h.furn.2.2]; exact vp_in_nI (by omega) (by omega), S + 24 + i, h.furnAt (by omega), h.tpB (by omega), h.tpJ (by omega), fun hne w hw => ?_, fun he => ⟨fun hl w hw => ?_, fun hl w hw w' hw' => ?_⟩⟩⟩
      · rw [h.Bi (by omega), h.J (by omega)] at hne
        rw [hw, nI_1]
        refine ih (i + 1) x (by omega) ?_
        rwa [foldN, hotG, if_neg (fun q => hne q.1)] at hp
      · rw [h.Bi (by omega)] at hl
        rw [hw, nI_1]
        refine ih (i + 1) x (by omega) ?_
        rwa [foldN, hotG, if_neg (fun q => q.2 hl)] at hp
      · rw [h.Bi (by omega), h.J (by omega)] at he
        rw [h.Bi (by omega)] at hl hw
        rw [hw, hw', nI_1]
        refine ih (i + 1) (A (24 + i) 1 + 1, some i) (by omega) ?_
        rwa [foldN, hotG, if_pos ⟨he, hl⟩] at hp
  have := L 6 0 (A (2 + hj A k) 2, none) (by omega) hp
  rw [hv]
  exact this
theorem x_valueOf (h : CF B M S π A) {i : Nat} (hi : i < 4) {x : Int32} (hx : x = nI i) {P : Int32 → Mem → Prop} (hp : P (A 0 (7 + i)) M) : wp_X5_valueOf 278 M S x P := by
  subst hx
  unfold wp_X5_valueOf
  rw [h.N, h.N, h.N, h.N]
  rcases (by omega : i = 0 ∨ i = 1 ∨ i = 2 ∨ i = 3) with rfl | rfl | rfl | rfl
  · exact ⟨fun _ => ⟨h.tp0, hp⟩, fun c => absurd rfl c⟩
  · exact ⟨fun c => absurd c (by decide), fun _ => ⟨fun _ => ⟨h.tp0, hp⟩, fun c => absurd rfl c⟩⟩
  · exact ⟨fun c => absurd c (by decide), fun _ => ⟨fun c => absurd c (by decide), fun _ => ⟨fun _ => ⟨h.tp0, hp⟩, fun c => absurd rfl c⟩⟩⟩
  · exact ⟨fun c => absurd c (by decide), fun _ => ⟨fun c => absurd c (by decide), fun _ => ⟨fun c => absurd c (by decide), fun _ => ⟨h.tp0, hp⟩⟩⟩⟩
theorem x_putValue (h : CF B M S π A) {i : Nat} (hi : i < 4) {x v : Int32} (hx : x = nI i) {P : Mem → Prop} (hp : ∀ M', CF B M' S π (aU A 0 (7 + i) v) → P M') : wp_X5_putValue 278 M S x v P := by
  subst hx
  unfold wp_X5_putValue
  rcases (by omega : i = 0 ∨ i = 1 ∨ i = 2 ∨ i = 3) with rfl | rfl | rfl | rfl
  · exact ⟨fun _ => ⟨h.tp0, fun M' e => hp M' (h.uN e)⟩, fun c => absurd rfl c⟩
  · exact ⟨fun c => absurd c (by decide), fun _ => ⟨fun _ => ⟨h.tp0, fun M' e => hp M' (h.uN e)⟩, fun c => absurd rfl c⟩⟩
  · exact ⟨fun c => absurd c (by decide), fun _ => ⟨fun c => absurd c (by decide), fun _ => ⟨fun _ => ⟨h.tp0, fun M' e => hp M' (h.uN e)⟩, fun c => absurd rfl c⟩⟩⟩
  · exact ⟨fun c => absurd c (by decide), fun _ => ⟨fun c => absurd c (by decide), fun _ => ⟨fun c => absurd c (by decide), fun _ => ⟨h.tp0, fun M' e => hp M' (h.uN e)⟩⟩⟩⟩
end LOOKS
