/-! The digest: the reference. -/
def DS (M0 M : Mem) (z : Int64) : Prop := (∀ a, a ≠ 276 → a ≠ 277 → a ≠ 278 → M.1 a = M0.1 a) ∧ (∀ f, f ≠ 0 → M.1 276 f = M0.1 276 f) ∧ M.2.1 = M0.2.1 ∧ (∀ k, k < 158 → M.1 277 k = M0.1 277 k) ∧ M.2.2 276 11 = z ∧ ∀ a k, a ≠ 276 → M.2.2 a k = M0.2.2 a k
theorem DS.sim {M0 M M' : Mem} {z : Int64} (h : DS M0 M z) (k : SimR M M') : DS M0 M' z := by
  obtain ⟨h1, h2, h3, h4, h5, h6⟩ := h
  obtain ⟨k1, k2, k3⟩ := k
  refine ⟨fun a a1 a2 a3 => (k1 a a2 a3).trans (h1 a a1 a2 a3), fun f hf => ?_, ?_, fun i hi => (k3 i hi).trans (h4 i hi), ?_, fun a i ha => ?_⟩
  · rw [k1 276 (by omega) (by omega)]; exact h2 f hf
  · rw [k2]; exact h3
  · rw [k2]; exact h5
  · rw [k2]; exact h6 a i ha
theorem DS.rb {M0 M : Mem} {z : Int64} (h : DS M0 M z) (hB : RB M0) : RB M := by unfold RB; rw [h.2.2.1]; exact hB
theorem DS.rel {M0 M : Mem} {z : Int64} {A : Ab} {c : Nat} {m : Int32} {ι : Nat → Nat} (h : DS M0 M z) (hR : Rel A c m ι (M0.1 277)) (hc : c ≤ 10) : Rel A c m ι (M.1 277) := hR.eq158 hc h.2.2.2.1
theorem r_hash {M0 M : Mem} {z v : Int64} (h : DS M0 M z) {P : Mem → Prop} (hp : ∀ M', DS M0 M' (31 * z + v) → M'.1 = M.1 → P M') : wp_X7_hashes 283 M 276 v P := by
  obtain ⟨h1, h2, h3, h4, h5, h6⟩ := h
  refine ⟨tp7, fun M2 e2 => ?_⟩
  rw [h5] at e2
  subst e2
  refine hp _ ⟨h1, h2, h3, h4, uL_s, fun a k ha => ?_⟩ rfl
  rw [uL_o (by omega)]; exact h6 a k ha
section RDG
variable {M0 : Mem} {A : Ab} {c N T : Nat} {ι : Nat → Nat}
theorem r_dBil (hB : RB M0) (hR : Rel A c (A 0 11) ι (M0.1 277)) (hI : Iv A c N T) {P : Mem → Prop} {K : Mem → Nat → Int32 → Prop} {p : Nat} (hp : p < 7) : ∀ f w (z : Int64) (M : Mem), DS M0 M z → w + f = 4 → (∀ M', DS M0 M' (foldN (mx (fun w => bilV A p (nI w))) f w z) → K M' 276 (nI (p + 1))) → wpL_X7_hashesShop_86 283 P K (f + 1) M 276 (nI p) (nI w) := by
  have hc := hI.1.1.2.1
  intro f
  induction f with
  | zero => exact fun w z M h hw hk => ⟨fun _ v1 e1 => by rw [e1, nI_1]; exact hk M h, fun e => absurd (cGe (n := 4) rfl rfl (by omega) (by omega)) e⟩
  | succ f ih =>
    intro w z M h hw hk
    refine ⟨fun e => absurd e (cLt (n := 4) rfl rfl (by omega) (by omega)), fun _ => ⟨tp7, ?_⟩⟩
    rw [← sM_self (M := M)]
    refine r_tellsBillet (h.rb hB) (h.rel hR hc) hp (n := w) (by omega) rfl rfl ?_
    rw [sM_self]
    exact r_hash h fun M2 h2 _ v e => by rw [e, nI_1]; exact ih (w + 1) _ M2 h2 (by omega) hk
theorem r_dDie (hB : RB M0) (hR : Rel A c (A 0 11) ι (M0.1 277)) (hI : Iv A c N T) {P : Mem → Prop} {K : Mem → Nat → Int32 → Prop} {p : Nat} (hp : p < 5) : ∀ f w (z : Int64) (M : Mem), DS M0 M z → w + f = 6 → (∀ M', DS M0 M' (foldN (mx (fun w => dieV A p (nI w))) f w z) → K M' 276 (nI (p + 1))) → wpL_X7_hashesShop_47 283 P K (f + 1) M 276 (nI p) (nI w) := by
  have hc := hI.1.1.2.1
  intro f
  induction f with
  | zero => exact fun w z M h hw hk => ⟨fun _ v1 e1 => by rw [e1, nI_1]; exact hk M h, fun e => absurd (cGe (n := 6) rfl rfl (by omega) (by omega)) e⟩
  | succ f ih =>
    intro w z M h hw hk
    refine ⟨fun e => absurd e (cLt (n := 6) rfl rfl (by omega) (by omega)), fun _ => ⟨tp7, ?_⟩⟩
    rw [← sM_self (M := M)]
    refine r_tellsDie (h.rb hB) (h.rel hR hc) hI.2.2.2.2.1 hp (n := w) (by omega) rfl rfl ?_
    rw [sM_self]
    exact r_hash h fun M2 h2 _ v e => by rw [e, nI_1]; exact ih (w + 1) _ M2 h2 (by omega) hk
theorem r_dHeat (hB : RB M0) (hR : Rel A c (A 0 11) ι (M0.1 277)) (hI : Iv A c N T) {P : Mem → Prop} {K : Mem → Nat → Int32 → Prop} {p : Nat} (hp : p < 4) : ∀ f w (z : Int64) (M : Mem), DS M0 M z → w + f = 7 → (∀ M', DS M0 M' (foldN (mx (fun w => heatV A c p (nI w))) f w z) → K M' 276 (nI (p + 1))) → wpL_X7_hashesShop_9 283 P K (f + 1) M 276 (nI p) (nI w) := by
  have hc := hI.1.1.2.1
  intro f
  induction f with
  | zero => exact fun w z M h hw hk => ⟨fun _ v1 e1 => by rw [e1, nI_1]; exact hk M h, fun e => absurd (cGe (n := 7) rfl rfl (by omega) (by omega)) e⟩
  | succ f ih =>
    intro w z M h hw hk
    refine ⟨fun e => absurd e (cLt (n := 7) rfl rfl (by omega) (by omega)), fun _ => ⟨tp7, ?_⟩⟩
    rw [← sM_self (M := M)]
    refine r_tellsHeat (h.rb hB) (h.rel hR hc) hI.1 hI.2.1 hp (n := w) (by omega) rfl rfl ?_
    rw [sM_self]
    exact r_hash h fun M2 h2 _ v e => by rw [e, nI_1]; exact ih (w + 1) _ M2 h2 (by omega) hk
theorem r_dBils (hB : RB M0) (hR : Rel A c (A 0 11) ι (M0.1 277)) (hI : Iv A c N T) {P : Mem → Prop} : ∀ f w (z : Int64) (M : Mem), DS M0 M z → w + f = 7 → (∀ M', DS M0 M' (foldN (eqB A) f w z) → P M') → wpL_X7_hashesShop_78 283 P (f + 1) M 276 (nI w) := by
  intro f
  induction f with
  | zero => exact fun w z M h hw hk => ⟨fun _ => hk M h, fun e => absurd (cGt (n := 6) rfl rfl (by omega) (by omega)) e⟩
  | succ f ih => exact fun w z M h hw hk => ⟨fun e => absurd e (cNgt (n := 6) rfl rfl (by omega) (by omega)), fun _ => ⟨5, r_dBil hB hR hI (by omega) 4 0 z M h (by omega) fun M2 h2 => ih (w + 1) _ M2 h2 (by omega) hk⟩⟩
theorem r_dDies (hB : RB M0) (hR : Rel A c (A 0 11) ι (M0.1 277)) (hI : Iv A c N T) {P : Mem → Prop} : ∀ f w (z : Int64) (M : Mem), DS M0 M z → w + f = 5 → (∀ M', DS M0 M' (foldN (eqB A) 7 0 (foldN (eqD A) f w z)) → P M') → wpL_X7_hashesShop_40 283 P (f + 1) M 276 (nI w) := by
  intro f
  induction f with
  | zero => exact fun w z M h hw hk => ⟨fun _ => ⟨8, r_dBils hB hR hI 7 0 z M h (by omega) hk⟩, fun e => absurd (cGe (n := 5) rfl rfl (by omega) (by omega)) e⟩
  | succ f ih => exact fun w z M h hw hk => ⟨fun e => absurd e (cLt (n := 5) rfl rfl (by omega) (by omega)), fun _ => ⟨7, r_dDie hB hR hI (by omega) 6 0 z M h (by omega) fun M2 h2 => ih (w + 1) _ M2 h2 (by omega) hk⟩⟩
theorem r_dHeats (hB : RB M0) (hR : Rel A c (A 0 11) ι (M0.1 277)) (hI : Iv A c N T) {P : Mem → Prop} : ∀ f w (z : Int64) (M : Mem), DS M0 M z → w + f = 4 → (∀ M', DS M0 M' (foldN (eqB A) 7 0 (foldN (eqD A) 5 0 (foldN (eqH A c) f w z))) → P M') → wpL_X7_hashesShop_2 283 P (f + 1) M 276 (nI w) := by
  intro f
  induction f with
  | zero => exact fun w z M h hw hk => ⟨fun _ => ⟨6, r_dDies hB hR hI 5 0 z M h (by omega) hk⟩, fun e => absurd (cGe (n := 4) rfl rfl (by omega) (by omega)) e⟩
  | succ f ih => exact fun w z M h hw hk => ⟨fun e => absurd e (cLt (n := 4) rfl rfl (by omega) (by omega)), fun _ => ⟨8, r_dHeat hB hR hI (by omega) 7 0 z M h (by omega) fun M2 h2 => ih (w + 1) _ M2 h2 (by omega) hk⟩⟩
theorem r_dText {q : Nat → Int32} {b : Nat} (hB : RB M0) (h6 : M0.1 276 6 = nI b) (hq : ∀ i, i < b → M0.1 280 i = q i) (hb : b ≤ 60) {P : Int64 → Mem → Prop} : ∀ f i (z : Int64) (M : Mem), DS M0 M z → M.1 276 0 = 0 → i + f = b → (∀ M', DS M0 M' (foldN (mx q) f i z) → M'.1 276 0 = 0 → P (foldN (mx q) f i z) M') → wpL_X7_digest_192 283 P (f + 1) M 276 (nI i) := by
  intro f
  induction f with
  | zero =>
    intro i z M h h0 hi hp
    refine ⟨tp7, fun _ => ?_, fun e => absurd (cGe ((h.2.1 6 (by omega)).trans h6) rfl (by omega) (by omega)) e⟩
    rw [h.2.2.2.2.1]; exact hp M h h0
  | succ f ih =>
    intro i z M h h0 hi hp
    refine ⟨tp7, fun e => absurd e (cLt ((h.2.1 6 (by omega)).trans h6) rfl (by omega) (by omega)), fun _ => ⟨280, (h.rb hB).2.2.2.1, tp8d, by rw [len8d]; exact vpI (i := i) rfl (by omega) (by omega), ?_⟩⟩
    rw [nI_clamp (by omega), h.1 280 (by omega) (by omega) (by omega), hq i (by omega)]
    exact r_hash h fun M2 h2 e1 v e => by rw [e, nI_1]; exact ih (i + 1) _ M2 h2 (by rw [e1]; exact h0) (by omega) hp
theorem r_dJob {pf : Nat → Nat} (hB : RB M0) (hR : Rel A c (A 0 11) ι (M0.1 277)) (hI : Iv A c N T) (hT : T + 240 < 2 ^ 30) (ho : okP A c pf c) {P : Int64 → Mem → Prop} {K : Mem → Nat → Int32 → Prop} {k : Nat} (hk : k < c) : ∀ f w (z : Int64) (M : Mem), DS M0 M z → w + f = 8 → (∀ M', DS M0 M' (31 * (31 * foldN (mx (fun w => jobV A k (nI w))) f w z + (goV A k).toInt64) + (gaV A pf k).toInt64) → K M' 276 (nI (k + 1))) → wpL_X7_digest_73 283 P K (f + 1) M 276 (nI k) (nI w) := by
  have hc := hI.1.1.2.1
  intro f
  induction f with
  | zero =>
    intro w z M h hw hk2
    refine ⟨fun _ => ⟨tp7, ?_⟩, fun e => absurd (cGe (n := 8) rfl rfl (by omega) (by omega)) e⟩
    have hik := hR.2.2.2.2.1.1.1 k hk
    have pl := place_at hI.1 hk
    rw [← sM_self (M := M)]
    refine r_jobAt (h.rb hB) (h.rel hR hc) hI.1 hk rfl ?_
    refine r_job0 (h.rb hB) (k := ι k) (f := 0) (by omega) (by omega) rfl rfl ?_
    rw [(h.rel hR hc).2.2.2.2.1.2.1 k hk 0 (by omega), sM_self]
    refine (r_untilGone (h.rb hB) (h.rel hR hc) hI hT pl fun M2 k2 => ?_).1
    refine r_hash (h.sim k2) fun M3 h3 _ => ?_
    refine r_earlier (h3.rb hB) (h3.rel hR hc) hI hT pl (ho k hk).1 (ho k hk).2 fun M4 k4 => ?_
    exact r_hash (h3.sim k4) fun M5 h5 _ v e => by rw [e, nI_1]; exact hk2 M5 h5
  | succ f ih =>
    intro w z M h hw hk2
    refine ⟨fun e => absurd e (cLt (n := 8) rfl rfl (by omega) (by omega)), fun _ => ⟨tp7, ?_⟩⟩
    rw [← sM_self (M := M)]
    refine r_tellsJob (h.rb hB) (h.rel hR hc) hI.1 hI.2.1 hI.2.2.2.1 hI.2.2.2.2.1 hk (n := w) (by omega) rfl rfl ?_
    rw [sM_self]
    exact r_hash h fun M2 h2 _ v e => by rw [e, nI_1]; exact ih (w + 1) _ M2 h2 (by omega) hk2
theorem r_digest {q : Nat → Int32} {b s : Nat} {pf : Nat → Nat} (hB : RB M0) (hR : Rel A c (A 0 11) ι (M0.1 277)) (hI : Iv A c N T) (hT : T < 2 ^ 27) (ho : okP A c pf c) (hs : M0.1 276 4 = nI s) (h6 : M0.1 276 6 = nI b) (hq : ∀ i, i < b → M0.1 280 i = q i) (hb : b ≤ 60) {P : Int64 → Mem → Prop} (hp : ∀ M', DS M0 M' (digV A c (nI s) b q pf) → M'.1 276 0 = 0 → P (digV A c (nI s) b q pf) M') : wp_X7_digest 283 M0 276 P := by
  have hc := hI.1.1.2.1
  -- what would be, and the rest
  have L5 : ∀ f i (z : Int64) (M : Mem), DS M0 M z → i + f = 5 → foldN (mx (fun w => foreV A (mins 30 A) (nI w))) f i z = foldN (mx (fun w => foreV A (mins 30 A) (nI w))) 5 0 (dgA A c (nI s) pf) → wpL_X7_digest_136 283 P (f + 1) M 276 (nI i) := by
    intro f
    induction f with
    | zero =>
      intro i z M h hi hz
      refine ⟨fun _ => ⟨tp7, r_reheatsFor (h.rb hB) (h.rel hR hc) hI (n := 40) (by omega) rfl fun M2 k2 => r_hash (h.sim k2) fun M3 h3 _ => ?_⟩, fun e => absurd (cGe (n := 5) rfl rfl (by omega) (by omega)) e⟩
      rw [← sM_self (M := M3)]
      refine r_saved (h3.rb hB) (h3.rel hR hc) hI.2.2.2.2.2.2 hT (r_bits hI.2.2.2.2.2.2 hT ?_)
      have h4 : DS M0 (sM (uI M3 276 0 0) (M3.1 277)) (31 * z + (bst A 40 3).1.toInt64) := by
        obtain ⟨a1, a2, a3, a4, a5, a6⟩ := h3
        refine ⟨fun a b1 b2 b3 => ?_, fun f hf => ?_, a3, fun k hk => ?_, a5, a6⟩
        · rw [sM_o b2, uI_a b1]; exact a1 a b1 b2 b3
        · rw [sM_o (by omega), uI_o (by omega)]; exact a2 f hf
        · rw [sM_1]; exact a4 k hk
      have z4 : (sM (uI M3 276 0 0) (M3.1 277)).1 276 0 = 0 := by rw [sM_o (by omega), uI_s]
      refine r_hash h4 fun M5 h5 e5 => ?_
      rw [(h5.2.1 6 (by omega)).trans h6]
      refine r_hash h5 fun M6 h6' e6 => ⟨b + 1, r_dText hB h6 hq hb b 0 _ M6 h6' (by rw [e6, e5]; exact z4) (by omega) ?_⟩
      have key := hp
      unfold digV dgB at key
      rw [← hz] at key
      exact key
    | succ f ih =>
      intro i z M h hi hz
      exact ⟨fun e => absurd e (cLt (n := 5) rfl rfl (by omega) (by omega)), fun _ => ⟨tp7, r_passed (h.rb hB) (h.rel hR hc) hI (n := 30) (q := i) (by omega) (by omega) rfl rfl fun M2 k2 => r_hash (h.sim k2) fun M3 h3 _ v e => by rw [e, nI_1]; exact ih (i + 1) _ M3 h3 (by omega) hz⟩⟩
  have L4 : ∀ f i (z : Int64) (M : Mem), DS M0 M z → i + f = c → foldN (jbV A pf) f i z = dgA A c (nI s) pf → wpL_X7_digest_61 283 P (f + 1) M 276 (nI i) := by
    intro f
    induction f with
    | zero =>
      intro i z M h hi hz
      have hn : M.1 277 (5 : Int32).toNatClampNeg = nI c := ((h.rel hR hc).1.2.2.1).trans hI.1.1.1
      refine ⟨tp7, 277, (h.rb hB).1, tp8, by rw [len8]; exact vpI (i := 5) rfl (by omega) (by omega), fun _ => ⟨6, L5 5 0 z M h (by omega) (by rw [← hz]; rfl)⟩, fun e => absurd (cGe hn rfl (by omega) (by omega)) e⟩
    | succ f ih =>
      intro i z M h hi hz
      have hn : M.1 277 (5 : Int32).toNatClampNeg = nI c := ((h.rel hR hc).1.2.2.1).trans hI.1.1.1
      exact ⟨tp7, 277, (h.rb hB).1, tp8, by rw [len8]; exact vpI (i := 5) rfl (by omega) (by omega), fun e => absurd e (cLt hn rfl (by omega) (by omega)), fun _ => ⟨9, r_dJob hB hR hI (by omega) ho (by omega) 8 0 z M h (by omega) fun M2 h2 => ih (i + 1) _ M2 h2 (by omega) hz⟩⟩
  have L3 : ∀ f i (z : Int64) (M : Mem), DS M0 M z → i + f = 4 → foldN (jbV A pf) c 0 (foldN (eqB A) 7 0 (foldN (eqD A) 5 0 (foldN (eqH A c) 4 0 (foldN (mx (fun i => A 0 (7 + i))) f i z)))) = dgA A c (nI s) pf → wpL_X7_digest_33 283 P (f + 1) M 276 (nI i) := by
    intro f
    induction f with
    | zero =>
      intro i z M h hi hz
      refine ⟨fun _ => ⟨tp7, 5, r_dHeats hB hR hI 4 0 z M h (by omega) fun M2 h2 => ⟨c + 1, L4 c 0 _ M2 h2 (by omega) hz⟩⟩, fun e => absurd (cGe (n := 4) rfl rfl (by omega) (by omega)) e⟩
    | succ f ih =>
      intro i z M h hi hz
      refine ⟨fun e => absurd e (cLt (n := 4) rfl rfl (by omega) (by omega)), fun _ => ⟨tp7, 277, (h.rb hB).1, tp8, by rw [len8]; exact vpI (i := i) rfl (by omega) (by omega), ?_⟩⟩
      rw [nI_clamp (by omega), (h.rel hR hc).1.1 i (by omega)]
      exact r_hash h fun M2 h2 _ v e => by rw [e, nI_1]; exact ih (i + 1) _ M2 h2 (by omega) hz
  have L2 : ∀ f i (z : Int64) (M : Mem), DS M0 M z → i + f = 12 → foldN (mx (fun w => numV A c (nI s) (nI w))) f i z = foldN (mx (fun w => numV A c (nI s) (nI w))) 12 0 2857 → wpL_X7_digest_9 283 P (f + 1) M 276 (nI i) := by
    intro f
    induction f with
    | zero =>
      intro i z M h hi hz
      refine ⟨fun _ => ⟨5, L3 4 0 z M h (by omega) ?_⟩, fun e => absurd (cGe (n := 12) rfl rfl (by omega) (by omega)) e⟩
      unfold dgA eqV
      rw [← hz]
      rfl
    | succ f ih =>
      intro i z M h hi hz
      refine ⟨fun e => absurd e (cLt (n := 12) rfl rfl (by omega) (by omega)), fun _ => ⟨tp7, ?_⟩⟩
      rw [← sM_self (M := M)]
      refine r_counts (h.rb hB) (h.rel hR hc) hI.1 hI.2.2.2.1 (n := i) (by omega) rfl ?_
      rw [sM_self, (h.2.1 4 (by omega)).trans hs]
      exact r_hash h fun M2 h2 _ v e => by rw [e, nI_1]; exact ih (i + 1) _ M2 h2 (by omega) hz
  refine ⟨tp7, fun M2 e2 => ⟨13, L2 12 0 2857 M2 ?_ (by omega) rfl⟩⟩
  subst e2
  exact ⟨fun _ _ _ _ => rfl, fun _ _ => rfl, rfl, fun _ _ => rfl, uL_s, fun a k ha => uL_o (by omega)⟩
end RDG
