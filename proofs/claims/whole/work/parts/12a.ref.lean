/-! The reference: its array, how it holds a shop's value, and the ways to its cells. -/
def uS (σ : Nat → Int32) (i : Nat) (v : Int32) : Nat → Int32 := fun k => if k = i then v else σ k
theorem uS_s {σ : Nat → Int32} {i : Nat} {v : Int32} : uS σ i v i = v := by simp [uS]
theorem uS_o {σ : Nat → Int32} {i k : Nat} {v : Int32} (h : k ≠ i) : uS σ i v k = σ k := by simp [uS, h]
/-- the reference's array is σ, all else as in B -/
def sM (B : Mem) (σ : Nat → Int32) : Mem := (fun a => if a = 277 then σ else B.1 a, B.2.1, B.2.2)
theorem sM_1 {B : Mem} {σ : Nat → Int32} : (sM B σ).1 277 = σ := by simp [sM]
theorem sM_o {B : Mem} {σ : Nat → Int32} {a : Nat} (h : a ≠ 277) : (sM B σ).1 a = B.1 a := by simp [sM, h]
theorem sM_2 {B : Mem} {σ : Nat → Int32} : (sM B σ).2 = B.2 := rfl
theorem sM_self {M : Mem} : sM M (M.1 277) = M := by
  unfold sM
  refine Prod.ext (funext fun a => ?_) rfl
  show (if a = 277 then M.1 277 else M.1 a) = M.1 a
  split
  · rename_i h; rw [h]
  · rfl
theorem sM_sM {B : Mem} {σ τ : Nat → Int32} : sM (sM B σ) τ = sM B τ := by
  unfold sM
  refine Prod.ext (funext fun a => ?_) rfl
  show (if a = 277 then τ else (if a = 277 then σ else B.1 a)) = if a = 277 then τ else B.1 a
  split <;> rfl
theorem sM_uI {B : Mem} {σ : Nat → Int32} {i : Nat} {v : Int32} : uI (sM B σ) 277 i v = sM B (uS σ i v) := by
  unfold uI sM uS
  refine Prod.ext (funext fun a => funext fun k => ?_) rfl
  show (if a = 277 ∧ k = i then v else (if a = 277 then σ else B.1 a) k) = (if a = 277 then (fun k => if k = i then v else σ k) else B.1 a) k
  by_cases h : a = 277
  · subst h; simp
  · simp [h]
def RB (B : Mem) : Prop := B.2.1 276 1 = some 277 ∧ B.2.1 276 2 = some 278 ∧ B.2.1 276 3 = some 279 ∧ B.2.1 276 5 = some 280 ∧ B.2.1 276 9 = some 281
theorem tp7 : m_tp 283 276 7 := ⟨by decide, by decide⟩
theorem tp8 : m_tp 283 277 8 := ⟨by decide, by decide⟩
theorem len8 : m_len 277 = 158 := by decide
theorem nI_mul (a b : Nat) : nI a * nI b = nI (a * b) := (Int32.ofNat_mul a b).symm
theorem ix3 {a b h f : Nat} {x y : Int32} (hx : x = nI h) (hy : y = nI f) : (nI a + nI b * x) + y = nI (a + b * h + f) := by
  subst hx hy
  rw [nI_mul, nI_add, nI_add]
theorem vpI {i n : Nat} {x : Int32} (hx : x = nI i) (h : i < n) (hn : n < 2 ^ 31) : vp_in x n := by
  subst hx
  exact vp_in_nI h hn
theorem clI {i : Nat} {x : Int32} (hx : x = nI i) (h : i < 158) : x.toNatClampNeg = i := by
  subst hx
  exact nI_clamp (by omega)
section RACC
variable {B : Mem} {σ : Nat → Int32}
theorem r_heatOf (hB : RB B) {h f : Nat} (hh : h < 4) (hf : f < 5) {x y : Int32} (hx : x = nI h) (hy : y = nI f) {P : Int32 → Mem → Prop} (hp : P (σ (15 + 5 * h + f)) (sM B σ)) : wp_X7_heatOf 283 (sM B σ) 276 x y P := by
  have e : (15 + 5 * x) + y = nI (15 + 5 * h + f) := ix3 (a := 15) (b := 5) hx hy
  refine ⟨tp7, 277, hB.1, tp8, ?_, ?_⟩
  · rw [e, len8]; exact vp_in_nI (by omega) (by omega)
  · rw [e, sM_1, nI_clamp (by omega)]; exact hp
theorem r_die0 (hB : RB B) {d f : Nat} (hd : d < 5) (hf : f < 5) {x y : Int32} (hx : x = nI d) (hy : y = nI f) {P : Int32 → Mem → Prop} (hp : P (σ (35 + 5 * d + f)) (sM B σ)) : wp_X7_die0 283 (sM B σ) 276 x y P := by
  have e : (35 + 5 * x) + y = nI (35 + 5 * d + f) := ix3 (a := 35) (b := 5) hx hy
  refine ⟨tp7, 277, hB.1, tp8, ?_, ?_⟩
  · rw [e, len8]; exact vp_in_nI (by omega) (by omega)
  · rw [e, sM_1, nI_clamp (by omega)]; exact hp
theorem r_job0 (hB : RB B) {k f : Nat} (hk : k < 10) (hf : f < 7) {x y : Int32} (hx : x = nI k) (hy : y = nI f) {P : Int32 → Mem → Prop} (hp : P (σ (60 + 7 * k + f)) (sM B σ)) : wp_X7_job0 283 (sM B σ) 276 x y P := by
  have e : (60 + 7 * x) + y = nI (60 + 7 * k + f) := ix3 (a := 60) (b := 7) hx hy
  refine ⟨tp7, 277, hB.1, tp8, ?_, ?_⟩
  · rw [e, len8]; exact vp_in_nI (by omega) (by omega)
  · rw [e, sM_1, nI_clamp (by omega)]; exact hp
theorem r_billet0 (hB : RB B) {p f : Nat} (hp7 : p < 7) (hf : f < 4) {x y : Int32} (hx : x = nI p) (hy : y = nI f) {P : Int32 → Mem → Prop} (hp : P (σ (130 + 4 * p + f)) (sM B σ)) : wp_X7_billet0 283 (sM B σ) 276 x y P := by
  have e : (130 + 4 * x) + y = nI (130 + 4 * p + f) := ix3 (a := 130) (b := 4) hx hy
  refine ⟨tp7, 277, hB.1, tp8, ?_, ?_⟩
  · rw [e, len8]; exact vp_in_nI (by omega) (by omega)
  · rw [e, sM_1, nI_clamp (by omega)]; exact hp
theorem r_lay (hB : RB B) {p f : Nat} (hp7 : p < 7) (hf : f < 4) {x y v : Int32} (hx : x = nI p) (hy : y = nI f) {P : Mem → Prop} (hp : P (sM B (uS σ (130 + 4 * p + f) v))) : wp_X7_lay 283 (sM B σ) 276 x y v P := by
  have e : (130 + 4 * x) + y = nI (130 + 4 * p + f) := ix3 (a := 130) (b := 4) hx hy
  refine ⟨tp7, 277, hB.1, tp8, ?_, fun M5 e5 => ?_⟩
  · rw [e, len8]; exact vp_in_nI (by omega) (by omega)
  · rw [e, nI_clamp (by omega), sM_uI] at e5
    rw [e5]; exact hp
end RACC
-- the value of a shop, as the reference holds it
def RN (A : Ab) (m : Int32) (σ : Nat → Int32) : Prop := (∀ i, i < 4 → σ i = A 0 (7 + i)) ∧ σ 4 = m ∧ σ 5 = A 0 5 ∧ σ 6 = A 0 6 ∧ σ 7 = madeA A ∧ σ 8 = scrapA A ∧ ∀ i, i < 4 → σ (9 + i) = A 0 (12 + i)
def RG (A : Ab) (σ : Nat → Int32) : Prop := match groundA A with
  | none => σ 13 = 0
  | some d => σ 13 = nI (d + 1) ∧ σ 14 = A (7 + d) 3
def RH (A : Ab) (σ : Nat → Int32) : Prop := ∀ h, h < 4 → ∀ f, f < 5 → σ (15 + 5 * h + f) = A (2 + h) f
def dF (f : Nat) : Nat := if f < 3 then f else f + 1
def RD (A : Ab) (σ : Nat → Int32) : Prop := ∀ d, d < 5 → ∀ f, f < 5 → σ (35 + 5 * d + f) = A (7 + d) (dF f)
def bij (c : Nat) (ι : Nat → Nat) : Prop := (∀ k, k < c → ι k < c) ∧ (∀ k l, k < c → l < c → ι k = ι l → k = l) ∧ ∀ i, i < c → ∃ k, k < c ∧ ι k = i
def RJ (A : Ab) (c : Nat) (ι : Nat → Nat) (σ : Nat → Int32) : Prop := bij c ι ∧ (∀ k, k < c → ∀ f, f < 7 → σ (60 + 7 * ι k + f) = A (13 + k) f) ∧ ∀ k l, k < c → l < c → (ι k < ι l ↔ A (13 + k) 0 < A (13 + l) 0)
def RP (A : Ab) (σ : Nat → Int32) : Prop := ∀ p, p < 7 → σ (130 + 4 * p) = A (24 + p) 0 + 1 ∧ (A (24 + p) 0 ≠ -1 → ∀ f, f < 4 → 0 < f → σ (130 + 4 * p + f) = A (24 + p) f)
def Rel (A : Ab) (c : Nat) (m : Int32) (ι : Nat → Nat) (σ : Nat → Int32) : Prop := RN A m σ ∧ RG A σ ∧ RH A σ ∧ RD A σ ∧ RJ A c ι σ ∧ RP A σ
theorem foldN_congr {α : Type} {g g' : Nat → α → α} : ∀ {f i : Nat} {a : α}, (∀ j, i ≤ j → j < i + f → g j = g' j) → foldN g f i a = foldN g' f i a := by
  intro f
  induction f with
  | zero => intro i a h; rfl
  | succ f ih =>
    intro i a h
    show foldN g f (i + 1) (g i a) = foldN g' f (i + 1) (g' i a)
    rw [h i (Nat.le_refl i) (by omega), ih (fun j h1 h2 => h j (by omega) (by omega))]
section RCON
variable {A A' : Ab} {c : Nat} {m : Int32} {ι : Nat → Nat} {σ σ' : Nat → Int32}
theorem madeA_congr (h : ∀ i, i < 4 → A' (2 + i) 3 = A (2 + i) 3) : madeA A' = madeA A := foldN_congr fun j _ hj => by rw [h j (by omega)]
theorem scrapA_congr (h : ∀ i, i < 4 → A' (2 + i) 4 = A (2 + i) 4) : scrapA A' = scrapA A := foldN_congr fun j _ hj => by rw [h j (by omega)]
theorem groundA_congr (h : ∀ d, d < 5 → A' (7 + d) 3 = A (7 + d) 3) : groundA A' = groundA A := fst9_congr fun j _ hj => by rw [h j (by omega)]
theorem RN.congr (h : RN A m σ) (hs : ∀ i, i < 13 → σ' i = σ i) (h0 : ∀ f, 5 ≤ f → f < 16 → f ≠ 11 → A' 0 f = A 0 f) (h3 : ∀ i, i < 4 → A' (2 + i) 3 = A (2 + i) 3) (h4 : ∀ i, i < 4 → A' (2 + i) 4 = A (2 + i) 4) : RN A' m σ' := by
  obtain ⟨a1, a2, a3, a4, a5, a6, a7⟩ := h
  refine ⟨fun i hi => ?_, ?_, ?_, ?_, ?_, ?_, fun i hi => ?_⟩
  · rw [hs i (by omega), h0 (7 + i) (by omega) (by omega) (by omega)]; exact a1 i hi
  · rw [hs 4 (by omega)]; exact a2
  · rw [hs 5 (by omega), h0 5 (by omega) (by omega) (by omega)]; exact a3
  · rw [hs 6 (by omega), h0 6 (by omega) (by omega) (by omega)]; exact a4
  · rw [hs 7 (by omega), madeA_congr h3]; exact a5
  · rw [hs 8 (by omega), scrapA_congr h4]; exact a6
  · rw [hs (9 + i) (by omega), h0 (12 + i) (by omega) (by omega) (by omega)]; exact a7 i hi
theorem RG.congr (h : RG A σ) (hs : ∀ i, 13 ≤ i → i < 15 → σ' i = σ i) (h3 : ∀ d, d < 5 → A' (7 + d) 3 = A (7 + d) 3) : RG A' σ' := by
  unfold RG at h ⊢
  rw [groundA_congr h3]
  cases q : groundA A with
  | none =>
    rw [q] at h
    show σ' 13 = 0
    rw [hs 13 (by omega) (by omega)]; exact h
  | some d =>
    rw [q] at h
    have hd : d < 5 := by have := (fst9_some q).2.1; omega
    refine ⟨?_, ?_⟩
    · rw [hs 13 (by omega) (by omega)]; exact h.1
    · rw [hs 14 (by omega) (by omega), h3 d hd]; exact h.2
theorem RH.congr (h : RH A σ) (hs : ∀ i, 15 ≤ i → i < 35 → σ' i = σ i) (hA : ∀ i, i < 4 → ∀ f, f < 5 → A' (2 + i) f = A (2 + i) f) : RH A' σ' := fun i hi f hf => by
  rw [hs _ (by omega) (by omega), hA i hi f hf]; exact h i hi f hf
theorem RD.congr (h : RD A σ) (hs : ∀ i, 35 ≤ i → i < 60 → σ' i = σ i) (hA : ∀ d, d < 5 → ∀ f, f ≠ 3 → A' (7 + d) f = A (7 + d) f) : RD A' σ' := fun i hi f hf => by
  rw [hs _ (by omega) (by omega), hA i hi _ (by unfold dF; split <;> omega)]; exact h i hi f hf
theorem RJ.congr (h : RJ A c ι σ) (hc : c ≤ 10) (hs : ∀ i, 60 ≤ i → i < 130 → σ' i = σ i) (hA : ∀ k, k < c → ∀ f, f < 7 → A' (13 + k) f = A (13 + k) f) : RJ A' c ι σ' := by
  refine ⟨h.1, fun k hk f hf => ?_, fun k l hk hl => ?_⟩
  · have := h.1.1 k hk
    rw [hs _ (by omega) (by omega), hA k hk f hf]; exact h.2.1 k hk f hf
  · rw [hA k hk 0 (by omega), hA l hl 0 (by omega)]; exact h.2.2 k l hk hl
theorem RP.congr (h : RP A σ) (hs : ∀ i, 130 ≤ i → i < 158 → σ' i = σ i) (hA : ∀ p, p < 7 → ∀ f, f < 4 → A' (24 + p) f = A (24 + p) f) : RP A' σ' := fun p hp => by
  refine ⟨?_, fun hne f hf h0 => ?_⟩
  · rw [hs _ (by omega) (by omega), hA p hp 0 (by omega)]; exact (h p hp).1
  · rw [hA p hp 0 (by omega)] at hne
    rw [hs _ (by omega) (by omega), hA p hp f hf]; exact (h p hp).2 hne f hf h0
/-- a copy has the same picture -/
theorem Rel.copy (h : Rel A c m ι σ) (hc : c ≤ 10) (k : Cp A' A c) : Rel A' c m ι σ :=
  ⟨h.1.congr (fun _ _ => rfl) (fun f a b _ => k.1 f a b) (fun i hi => k.2.1 i hi 3 (by omega)) (fun i hi => k.2.1 i hi 4 (by omega)), h.2.1.congr (fun _ _ _ => rfl) (fun d hd => k.2.2.1 d hd 3 (by omega)), h.2.2.1.congr (fun _ _ _ => rfl) (fun i hi f hf => k.2.1 i hi f hf), fun i hi f hf => by rw [k.2.2.1 i hi _ (by unfold dF; split <;> omega)]; exact h.2.2.2.1 i hi f hf, h.2.2.2.2.1.congr hc (fun _ _ _ => rfl) (fun i hi f hf => k.2.2.2.1 i hi f (by omega)), h.2.2.2.2.2.congr (fun _ _ _ => rfl) (fun i hi f hf => k.2.2.2.2 i hi f hf)⟩
end RCON
