/-! The digest: the class. -/
def mx (F : Nat → Int32) (i : Nat) (h : Int64) : Int64 := 31 * h + (F i).toInt64
def eqH (A : Ab) (c i : Nat) : Int64 → Int64 := foldN (mx (fun w => heatV A c i (nI w))) 7 0
def eqD (A : Ab) (i : Nat) : Int64 → Int64 := foldN (mx (fun w => dieV A i (nI w))) 6 0
def eqB (A : Ab) (i : Nat) : Int64 → Int64 := foldN (mx (fun w => bilV A i (nI w))) 4 0
def eqV (A : Ab) (c : Nat) (h : Int64) : Int64 := foldN (eqB A) 7 0 (foldN (eqD A) 5 0 (foldN (eqH A c) 4 0 (foldN (mx (fun i => A 0 (7 + i))) 4 0 h)))
def goV (A : Ab) (k : Nat) : Int32 := goneL 240 1 A (A (13 + k) 0)
def gaV (A : Ab) (pf : Nat → Nat) (k : Nat) : Int32 := gainV (goV A k) (goneL 240 1 (hasteA A k (pf k)) (A (13 + k) 0))
def jbV (A : Ab) (pf : Nat → Nat) (k : Nat) (h : Int64) : Int64 := 31 * (31 * foldN (mx (fun w => jobV A k (nI w))) 8 0 h + (goV A k).toInt64) + (gaV A pf k).toInt64
def dgA (A : Ab) (c : Nat) (s : Int32) (pf : Nat → Nat) : Int64 := foldN (jbV A pf) c 0 (eqV A c (foldN (mx (fun w => numV A c s (nI w))) 12 0 2857))
def dgB (A : Ab) (h : Int64) : Int64 := 31 * (31 * foldN (mx (fun w => foreV A (mins 30 A) (nI w))) 5 0 h + (bst A 40 3).1.toInt64) + bitsV A
def digV (A : Ab) (c : Nat) (s : Int32) (b : Nat) (q : Nat → Int32) (pf : Nat → Nat) : Int64 := foldN (mx q) b 0 (31 * dgB A (dgA A c s pf) + (nI b).toInt64)
theorem place_at {A : Ab} {c N k : Nat} (hI : iJ A c N) (hk : k < c) : placeA A c (A (13 + k) 0) = some k := by
  cases e : placeA A c (A (13 + k) 0) with
  | none =>
    have := fst9_none e k (by omega) (by omega)
    simp at this
  | some j =>
    have := fst9_some e
    have e2 : A (13 + j) 0 = A (13 + k) 0 := by simpa using this.2.2.1
    rw [hI.2.2.2.2.2.1 j k (by omega) hk e2]
section DGX
variable {B M : Mem} {π π' : Nat → Nat} {A E : Ab} {c N T : Nat}
theorem x_mixBil (h : CF B M 1 π A) (h0 : M.2.1 0 0 = some 1) {P : Int64 → Mem → Prop} {K : Mem → Nat → Int64 → Int32 → Prop} {p : Nat} (hp : p < 7) : ∀ f w (z : Int64), w + f = 4 → K M 0 (foldN (mx (fun w => bilV A p (nI w))) f w z) (nI (p + 1)) → wpL_X6_mixEquipment_144 283 P K (f + 1) M 0 z (nI p) (nI w) := by
  intro f
  induction f with
  | zero => exact fun w z hw hk => ⟨fun _ v1 e1 => by rw [e1, nI_1]; exact hk, fun e => absurd (cGe (n := 4) rfl rfl (by omega) (by omega)) e⟩
  | succ f ih => exact fun w z hw hk => ⟨fun e => absurd e (cLt (n := 4) rfl rfl (by omega) (by omega)), fun _ => ⟨tp6, 1, h0, tp5a, x_billetAt h hp rfl ⟨h.tpB hp, x0_property h hp fun v12 e12 => by rw [e12, nI_1]; exact ih (w + 1) _ (by omega) hk⟩⟩⟩
theorem x_mixDie (h : CF B M 1 π A) (h0 : M.2.1 0 0 = some 1) {P : Int64 → Mem → Prop} {K : Mem → Nat → Int64 → Int32 → Prop} {p : Nat} (hp : p < 5) : ∀ f w (z : Int64), w + f = 6 → K M 0 (foldN (mx (fun w => dieV A p (nI w))) f w z) (nI (p + 1)) → wpL_X6_mixEquipment_92 283 P K (f + 1) M 0 z (nI p) (nI w) := by
  intro f
  induction f with
  | zero => exact fun w z hw hk => ⟨fun _ v1 e1 => by rw [e1, nI_1]; exact hk, fun e => absurd (cGe (n := 6) rfl rfl (by omega) (by omega)) e⟩
  | succ f ih => exact fun w z hw hk => ⟨fun e => absurd e (cLt (n := 6) rfl rfl (by omega) (by omega)), fun _ => ⟨tp6, 1, h0, tp5a, x_dieAt h hp rfl ⟨h.tpD hp, x1_property h hp fun v12 e12 => by rw [e12, nI_1]; exact ih (w + 1) _ (by omega) hk⟩⟩⟩
theorem x_mixHeat (h : CF B M 1 π A) (ok : okN A c) (h0 : M.2.1 0 0 = some 1) {P : Int64 → Mem → Prop} {K : Mem → Nat → Int64 → Int32 → Prop} {p : Nat} (hp : p < 4) : ∀ f w (z : Int64), w + f = 7 → K M 0 (foldN (mx (fun w => heatV A c p (nI w))) f w z) (nI (p + 1)) → wpL_X6_mixEquipment_44 283 P K (f + 1) M 0 z (nI p) (nI w) := by
  intro f
  induction f with
  | zero => exact fun w z hw hk => ⟨fun _ v1 e1 => by rw [e1, nI_1]; exact hk, fun e => absurd (cGe (n := 7) rfl rfl (by omega) (by omega)) e⟩
  | succ f ih => exact fun w z hw hk => ⟨fun e => absurd e (cLt (n := 7) rfl rfl (by omega) (by omega)), fun _ => ⟨tp6, 1, h0, tp5a, x_heatProperty h ok hp rfl fun v12 e12 => by rw [e12, nI_1]; exact ih (w + 1) _ (by omega) hk⟩⟩
theorem x_mixBils (h : CF B M 1 π A) (h0 : M.2.1 0 0 = some 1) {P : Int64 → Mem → Prop} : ∀ f w (z : Int64), w + f = 7 → P (foldN (eqB A) f w z) M → wpL_X6_mixEquipment_134 283 P (f + 1) M 0 z (nI w) := by
  intro f
  induction f with
  | zero => exact fun w z hw hk => ⟨fun _ => hk, fun e => absurd (cGt (n := 6) rfl rfl (by omega) (by omega)) e⟩
  | succ f ih => exact fun w z hw hk => ⟨fun e => absurd e (cNgt (n := 6) rfl rfl (by omega) (by omega)), fun _ => ⟨5, x_mixBil h h0 (by omega) 4 0 z (by omega) (ih (w + 1) _ (by omega) hk)⟩⟩
theorem x_mixDies (h : CF B M 1 π A) (h0 : M.2.1 0 0 = some 1) {P : Int64 → Mem → Prop} : ∀ f w (z : Int64), w + f = 5 → P (foldN (eqB A) 7 0 (foldN (eqD A) f w z)) M → wpL_X6_mixEquipment_83 283 P (f + 1) M 0 z (nI w) := by
  intro f
  induction f with
  | zero => exact fun w z hw hk => ⟨fun _ => ⟨8, x_mixBils h h0 7 0 z (by omega) hk⟩, fun e => absurd (cGe (n := 5) rfl rfl (by omega) (by omega)) e⟩
  | succ f ih => exact fun w z hw hk => ⟨fun e => absurd e (cLt (n := 5) rfl rfl (by omega) (by omega)), fun _ => ⟨7, x_mixDie h h0 (by omega) 6 0 z (by omega) (ih (w + 1) _ (by omega) hk)⟩⟩
theorem x_mixHeats (h : CF B M 1 π A) (ok : okN A c) (h0 : M.2.1 0 0 = some 1) {P : Int64 → Mem → Prop} : ∀ f w (z : Int64), w + f = 4 → P (foldN (eqB A) 7 0 (foldN (eqD A) 5 0 (foldN (eqH A c) f w z))) M → wpL_X6_mixEquipment_35 283 P (f + 1) M 0 z (nI w) := by
  intro f
  induction f with
  | zero => exact fun w z hw hk => ⟨fun _ => ⟨6, x_mixDies h h0 5 0 z (by omega) hk⟩, fun e => absurd (cGe (n := 4) rfl rfl (by omega) (by omega)) e⟩
  | succ f ih => exact fun w z hw hk => ⟨fun e => absurd e (cLt (n := 4) rfl rfl (by omega) (by omega)), fun _ => ⟨8, x_mixHeat h ok h0 (by omega) 7 0 z (by omega) (ih (w + 1) _ (by omega) hk)⟩⟩
theorem x_mixSets (h : CF B M 1 π A) (ok : okN A c) (h0 : M.2.1 0 0 = some 1) {P : Int64 → Mem → Prop} : ∀ f w (z : Int64), w + f = 4 → P (foldN (eqB A) 7 0 (foldN (eqD A) 5 0 (foldN (eqH A c) 4 0 (foldN (mx (fun i => A 0 (7 + i))) f w z)))) M → wpL_X6_mixEquipment_5 283 P (f + 1) M 0 z (nI w) := by
  intro f
  induction f with
  | zero => exact fun w z hw hk => ⟨fun _ => ⟨5, x_mixHeats h ok h0 4 0 z (by omega) hk⟩, fun e => absurd (cGe (n := 4) rfl rfl (by omega) (by omega)) e⟩
  | succ f ih => exact fun w z hw hk => ⟨fun e => absurd e (cLt (n := 4) rfl rfl (by omega) (by omega)), fun _ => ⟨tp6, 1, h0, tp5a, x_valueOf h (i := w) (by omega) rfl fun v12 e12 => by rw [e12, nI_1]; exact ih (w + 1) _ (by omega) hk⟩⟩
theorem x_mixEquipment (h : CF B M 1 π A) (ok : okN A c) (h0 : M.2.1 0 0 = some 1) {P : Int64 → Mem → Prop} {z : Int64} (hp : P (eqV A c z) M) : wp_X6_mixEquipment 283 M 0 z P := ⟨5, x_mixSets h ok h0 4 0 z (by omega) hp⟩
theorem foldN_at {α : Type} {g : Nat → α → α} {f i : Nat} {a : α} : foldN g (f + 1) i a = g (i + f) (foldN g f i a) := by
  induction f generalizing i a with
  | zero => rfl
  | succ f ih =>
    show foldN g (f + 1) (i + 1) (g i a) = _
    rw [ih]
    show g (i + 1 + f) (foldN g f (i + 1) (g i a)) = g (i + (f + 1)) (foldN g f (i + 1) (g i a))
    rw [show i + 1 + f = i + (f + 1) by omega]
theorem jbV_congr {pf pg : Nat → Nat} {k : Nat} (h : pf k = pg k) : jbV A pf k = jbV A pg k := by
  funext z
  unfold jbV gaV
  rw [h]
def okP (A : Ab) (c : Nat) (pf : Nat → Nat) (n : Nat) : Prop := ∀ k, k < n → pf k < c ∧ srt (hasteA A k (pf k)) c
theorem x_mixJob (h1 : CF B B 1 π A) (hd : Hd B) (hI : Iv A c N T) (hT : T + 240 < 2 ^ 30) {P : Int64 → Mem → Prop} {K : Mem → Nat → Int64 → Int32 → Prop} {k : Nat} (hk : k < c) : ∀ f w (z : Int64) (M : Mem) (π' : Nat → Nat) (E : Ab), CF B M 35 π' E → w + f = 8 → (∀ p M' π'' E', p < c → srt (hasteA A k p) c → CF B M' 35 π'' E' → K M' 0 (31 * (31 * foldN (mx (fun w => jobV A k (nI w))) f w z + (goV A k).toInt64) + (gainV (goV A k) (goneL 240 1 (hasteA A k p) (A (13 + k) 0))).toInt64) (nI (k + 1))) → wpL_X6_mixJobs_20 283 P K (f + 1) M 0 z (nI k) (nI w) := by
  have hc := hI.1.1.2.1
  intro f
  induction f with
  | zero =>
    intro w z M π' E ht hw hk2
    refine ⟨fun _ => ?_, fun e => absurd (cGe (n := 8) rfl rfl (by omega) (by omega)) e⟩
    have H := tr_head ht hd
    have hs := tr_shop h1 ht
    refine ⟨tp6, 1, H.1, tp5a, x_jobAt hs (by omega) rfl ⟨hs.tpJ (by omega), fun v10 e10 => ?_⟩⟩
    have ex : v10 = A (13 + k) 0 := by rw [e10, hs.J (by omega)]
    rw [ex]
    refine x_goneBehind h1 ht hd hI hT fun M2 π2 E2 h2 => ?_
    unfold wp_X6_mix
    refine x_gainByHaste h1 h2 hd hI hT (place_at hI.1 hk) fun p M3 π3 E3 hp hs3 h3 => ?_
    intro v19 e19
    rw [e19, nI_1]
    exact hk2 p M3 π3 E3 hp hs3 h3
  | succ f ih =>
    intro w z M π' E ht hw hk2
    have H := tr_head ht hd
    have hs := tr_shop h1 ht
    exact ⟨fun e => absurd e (cLt (n := 8) rfl rfl (by omega) (by omega)), fun _ => ⟨tp6, 1, H.1, tp5a, x_jobProperty hs hI.1.1 hk rfl fun v12 e12 => by rw [e12, nI_1]; exact ih (w + 1) _ M π' E ht (by omega) hk2⟩⟩
theorem x_mixJobs (h1 : CF B B 1 π A) (ht : CF B M 35 π' E) (hd : Hd B) (hI : Iv A c N T) (hT : T + 240 < 2 ^ 30) {P : Int64 → Mem → Prop} {z : Int64} (hp : ∀ pf M' π'' E', okP A c pf c → CF B M' 35 π'' E' → P (foldN (jbV A pf) c 0 z) M') : wp_X6_mixJobs 283 M 0 z P := by
  have hc := hI.1.1.2.1
  refine ⟨c + 1, ?_⟩
  have L : ∀ f i (pf : Nat → Nat) (M : Mem) (π' : Nat → Nat) (E : Ab), CF B M 35 π' E → i + f = c → okP A c pf i → wpL_X6_mixJobs_5 283 P (f + 1) M 0 (foldN (jbV A pf) i 0 z) (nI i) := by
    intro f
    induction f with
    | zero =>
      intro i pf M π' E ht hi ho
      have : i = c := by omega
      subst this
      have H := tr_head ht hd
      have hs := tr_shop h1 ht
      refine ⟨tp6, 1, H.1, tp5a, fun _ => hp pf M π' E ho ht, fun e => absurd (cGe ((hs.N 5).trans hI.1.1.1) rfl (by omega) (by omega)) e⟩
    | succ f ih =>
      intro i pf M π' E ht hi ho
      have H := tr_head ht hd
      have hs := tr_shop h1 ht
      refine ⟨tp6, 1, H.1, tp5a, fun e => absurd e (cLt ((hs.N 5).trans hI.1.1.1) rfl (by omega) (by omega)), fun _ => ⟨9, x_mixJob h1 hd hI hT (by omega) 8 0 _ M π' E ht (by omega) fun p M' π'' E' hpc hs3 h3 => ?_⟩⟩
      have key := ih (i + 1) (fun k => if k = i then p else pf k) M' π'' E' h3 (by omega) fun k hk => by
        show (if k = i then p else pf k) < c ∧ srt (hasteA A k (if k = i then p else pf k)) c
        by_cases q : k = i
        · rw [if_pos q, q]; exact ⟨hpc, hs3⟩
        · rw [if_neg q]; exact ho k (by omega)
      have e : foldN (jbV A (fun k => if k = i then p else pf k)) i 0 z = foldN (jbV A pf) i 0 z := foldN_congr fun j _ hj => jbV_congr (show (if j = i then p else pf j) = pf j from if_neg (by omega))
      rw [foldN_at, e, Nat.zero_add] at key
      have e2 : jbV A (fun k => if k = i then p else pf k) i = jbV A (fun _ => p) i := jbV_congr (show (if i = i then p else pf i) = p from if_pos rfl)
      rw [e2] at key
      exact key
  exact L c 0 (fun _ => 0) M π' E ht (by omega) fun k hk => by omega
theorem x_codeM {q : Nat → Int32} {b i : Nat} {x : Int32} (h0 : M.2.1 274 0 = some 275) (hq : ∀ i, i < b → M.1 275 i = q i) (hb : b ≤ 60) (hi : i < b) (hx : x = nI i) {P : Int32 → Mem → Prop} (hp : P (q i) M) : wp_X4_codeAt 283 M 274 x P := by
  have := x_codeAt (B := M) (s := M.1 274) h0 hq hb hi hx (P := P) (by rw [wR_self rfl]; exact hp)
  rwa [wR_self rfl] at this
theorem x_digText {q : Nat → Int32} {b : Nat} (hd : Hd M) (h1 : M.1 274 1 = nI b) (hq : ∀ i, i < b → M.1 275 i = q i) (hb : b ≤ 60) {P : Int64 → Mem → Prop} : ∀ f i (z : Int64), i + f = b → P (foldN (mx q) f i z) M → wpL_X6_digest_110 283 P (f + 1) M 0 z (nI i) := by
  intro f
  induction f with
  | zero => exact fun i z hi hp => ⟨tp6, 274, hd.2.2.2.1, tp4, fun _ => hp, fun e => absurd (cGe h1 rfl (by omega) (by omega)) e⟩
  | succ f ih => exact fun i z hi hp => ⟨tp6, 274, hd.2.2.2.1, tp4, fun e => absurd e (cLt h1 rfl (by omega) (by omega)), fun _ => ⟨274, hd.2.2.2.1, tp4, x_codeM hd.2.2.2.2 hq hb (i := i) (by omega) rfl fun v e => by rw [e, nI_1]; exact ih (i + 1) _ (by omega) hp⟩⟩
theorem x_digest {q : Nat → Int32} {b : Nat} (h1 : CF B B 1 π A) (ht : CF B B 35 π' E) (hd : Hd B) (hI : Iv A c N T) (hT : T < 2 ^ 27) (hb1 : B.1 274 1 = nI b) (hq : ∀ i, i < b → B.1 275 i = q i) (hb : b ≤ 60) {P : Int64 → Mem → Prop} (hp : ∀ pf M' π'' E', okP A c pf c → CF B M' 35 π'' E' → P (digV A c (B.1 0 3) b q pf) M') : wp_X6_digest 283 B 0 P := by
  refine ⟨13, ?_⟩
  have L2 : ∀ f i (z : Int64) (pf : Nat → Nat) (M : Mem) (π' : Nat → Nat) (E : Ab), okP A c pf c → CF B M 35 π' E → Cq E (mins 30 A) (cnt (mins 30 A)) → i + f = 5 → foldN (mx (fun w => foreV A (mins 30 A) (nI w))) f i z = foldN (mx (fun w => foreV A (mins 30 A) (nI w))) 5 0 (dgA A c (B.1 0 3) pf) → wpL_X6_digest_49 283 P (f + 1) M 0 z (nI i) := by
    intro f
    induction f with
    | zero =>
      intro i z pf M π' E ho ht hq2 hi hz
      refine ⟨fun _ => ⟨tp6, x_bestNumberOfReheats h1 ht hd hI (n := 40) (by omega) rfl fun M2 π2 E2 h2 => ?_⟩, fun e => absurd (cGe (n := 5) rfl rfl (by omega) (by omega)) e⟩
      have H := tr_head h2 hd
      have hs := tr_shop h1 h2
      unfold wp_X6_mix
      refine x_shareMade hs H.1 hI.2.2.2.2.2.2 hT (x_bitsOf hI.2.2.2.2.2.2 hT ⟨274, H.2.2.2.1, tp4, b + 1, ?_⟩)
      have e274 := (h2.fr.1 274 (by omega)).1
      have e275 := (h2.fr.1 275 (by omega)).1
      have eb : M2.1 274 1 = nI b := by rw [e274]; exact hb1
      rw [eb]
      refine x_digText (q := q) H eb (fun i hi => by rw [e275]; exact hq i hi) hb b 0 _ (by omega) ?_
      have key := hp pf M2 π2 E2 ho h2
      unfold digV dgB at key
      rw [← hz] at key
      exact key
    | succ f ih =>
      intro i z pf M π' E ho ht hq2 hi hz
      exact ⟨fun e => absurd e (cLt (n := 5) rfl rfl (by omega) (by omega)), fun _ => ⟨tp6, x_foreseen h1 ht hd hq2 fun v e => by rw [e, nI_1]; exact ih (i + 1) _ pf M π' E ho ht hq2 (by omega) hz⟩⟩
  have L1 : ∀ f i (z : Int64), i + f = 12 → foldN (mx (fun w => numV A c (B.1 0 3) (nI w))) f i z = foldN (mx (fun w => numV A c (B.1 0 3) (nI w))) 12 0 2857 → wpL_X6_digest_6 283 P (f + 1) B 0 z (nI i) := by
    intro f
    induction f with
    | zero =>
      intro i z hi hz
      refine ⟨fun _ => ⟨tp6, x_mixEquipment h1 hI.1.1 hd.1 (x_mixJobs h1 ht hd hI (by omega) fun pf M2 π2 E2 ho h2 => x_foresee h1 h2 hd hI (n := 30) (by omega) rfl fun M3 π3 E3 h3 hq3 => ⟨6, L2 5 0 _ pf M3 π3 E3 ho h3 hq3 (by omega) ?_⟩)⟩, fun e => absurd (cGe (n := 12) rfl rfl (by omega) (by omega)) e⟩
      unfold dgA
      rw [← hz]
      rfl
    | succ f ih =>
      intro i z hi hz
      exact ⟨fun e => absurd e (cLt (n := 12) rfl rfl (by omega) (by omega)), fun _ => ⟨tp6, x_numberOf h1 hI.1.1 hd.1 fun v e => by rw [e, nI_1]; exact ih (i + 1) _ (by omega) hz⟩⟩
  exact L1 12 0 2857 (by omega) rfl
end DGX
