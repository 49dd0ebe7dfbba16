/-! What would be: the class looks ahead with its trial shop. -/
theorem CF.on {B M M' : Mem} {S : Nat} {π : Nat → Nat} {A : Ab} (h : CF B M S π A) (e : ∀ a, S ≤ a → a < S + 34 → M'.1 a = M.1 a ∧ M'.2.1 a = M.2.1 a) : CF M' M' S π A := by
  obtain ⟨h1, h2, ⟨r0, r1, r2, r3, r4, r5, r6, r7, r8, r9, r10, r11⟩, h4, -⟩ := h
  have f : ∀ a, S ≤ a → a < S + 34 → M'.2.1 a = M.2.1 a := fun a x y => (e a x y).2
  refine ⟨h1, h2, ⟨?_, ?_, ?_, ?_, ?_, ?_, ?_, ?_, fun i hi => ?_, fun i hi => ?_, fun i hi => ?_, fun i hi => ?_⟩, fun r hr k => ?_, FrS.rf⟩
  · rw [f S (by omega) (by omega)]; exact r0
  · rw [f S (by omega) (by omega)]; exact r1
  · rw [f S (by omega) (by omega)]; exact r2
  · rw [f S (by omega) (by omega)]; exact r3
  · rw [f S (by omega) (by omega)]; exact r4
  · rw [f S (by omega) (by omega)]; exact r5
  · rw [f S (by omega) (by omega)]; exact r6
  · rw [f S (by omega) (by omega)]; exact r7
  · rw [f (S + 1) (by omega) (by omega)]; exact r8 i hi
  · rw [f (S + 6) (by omega) (by omega)]; exact r9 i hi
  · rw [f (S + 12) (by omega) (by omega)]; exact r10 i hi
  · rw [f (S + 23) (by omega) (by omega)]; exact r11 i hi
  · have := adr_in (S := S) h2 hr
    rw [(e _ this.1 this.2).1]; exact h4 r hr k
/-- the references of the class's object -/
def Hd (M : Mem) : Prop := M.2.1 0 0 = some 1 ∧ M.2.1 0 1 = some 35 ∧ M.2.1 0 2 = some 69 ∧ M.2.1 0 4 = some 274 ∧ M.2.1 274 0 = some 275
theorem tp6 : m_tp 283 0 6 := ⟨by decide, by decide⟩
theorem tp5a : m_tp 283 1 5 := ⟨by decide, by decide⟩
theorem tp5b : m_tp 283 35 5 := ⟨by decide, by decide⟩
def foreV (A A' : Ab) (w : Int32) : Int32 := if w = 0 then madeA A' - madeA A else if w = 1 then scrapA A' - scrapA A else if w = 2 then A' 0 5 else if w = 3 then A' 0 15 - A 0 15 else A' 0 12 - A 0 12
def goneL : Nat → Nat → Ab → Int32 → Int32
  | 0, _, _, _ => -1
  | f + 1, i, A, x => if placeA (aMinute A) (cnt (aMinute A)) x = none then nI i else goneL f (i + 1) (aMinute A) x
theorem Cq.goneL {f : Nat} : ∀ {i c N T : Nat} {E A : Ab} {x : Int32}, Cq E A c → Iv A c N T → T + f < 2 ^ 30 → goneL f i E x = goneL f i A x := by
  induction f with
  | zero => intros; rfl
  | succ f ih =>
    intro i c N T E A x h hI hT
    have h1 := h.minute hI (by omega)
    have hI1 := hI.minute (by omega)
    show (if placeA (aMinute E) (cnt (aMinute E)) x = none then nI i else _) = (if placeA (aMinute A) (cnt (aMinute A)) x = none then nI i else _)
    rw [h1.cn, h1.place, ih h1 hI1 (by omega)]
def hasteA (A : Ab) (k p : Nat) : Ab := rowsP (aU A (13 + k) 6 1) (mv k p)
section FO
variable {B M : Mem} {π π' : Nat → Nat} {A E : Ab} {c N T : Nat}
theorem tr_head (ht : CF B M 35 π' E) (hd : Hd B) : Hd M := by
  have f : ∀ a, ¬ (35 ≤ a ∧ a < 69) → M.2.1 a = B.2.1 a := fun a ha => (ht.fr.1 a ha).2
  unfold Hd
  rw [f 0 (by omega), f 274 (by omega)]; exact hd
theorem tr_shop (h1 : CF B B 1 π A) (ht : CF B M 35 π' E) : CF M M 1 π A := h1.on fun a h1 h2 => ht.fr.1 a (by omega)
theorem tr_copy (h1 : CF B B 1 π A) (ht : CF B M 35 π' E) (ok : okN A c) {P : Mem → Prop} (hp : ∀ M' E', CF B M' 35 π' E' → Cp E' A c → P M') : wp_X5_copyFrom 283 M 35 1 P :=
  x_copyFrom ht.base (tr_shop h1 ht) ok (by omega) fun M' E' h2 h3 => hp M' E' (h2.rebase ht.fr) h3
theorem x_foresee (h1 : CF B B 1 π A) (ht : CF B M 35 π' E) (hd : Hd B) (hI : Iv A c N T) {n : Nat} (hT : T + n < 2 ^ 30) {x : Int32} (hx : x = nI n) {P : Mem → Prop} (hp : ∀ M' π'' E', CF B M' 35 π'' E' → Cq E' (mins n A) (cnt (mins n A)) → P M') : wp_X6_foresee 283 M 0 x P := by
  have H := tr_head ht hd
  refine ⟨tp6, 35, H.2.1, 1, H.1, tp5b, tr_copy h1 ht hI.1.1 fun M2 E2 h2 h3 => ⟨35, (tr_head h2 hd).2.1, tp5b, ?_⟩⟩
  exact x_passMinutes h2 (hI.copy h3) hT hx fun M3 π3 h4 => hp M3 π3 _ h4 (h3.cq.many hI hT)
theorem x_foreseen (h1 : CF B B 1 π A) (ht : CF B M 35 π' E) (hd : Hd B) {A' : Ab} {c' : Nat} (hq : Cq E A' c') {w : Int32} {P : Int32 → Mem → Prop} (hp : P (foreV A A' w) M) : wp_X6_foreseen 283 M 0 w P := by
  have H := tr_head ht hd
  have hs := tr_shop h1 ht
  unfold foreV at hp
  refine ⟨fun e => ⟨tp6, 35, H.2.1, tp5b, x_countMade ht ⟨1, H.1, tp5a, x_countMade hs ?_⟩⟩, fun n0 => ⟨fun e => ⟨tp6, 35, H.2.1, tp5b, x_countScrap ht ⟨1, H.1, tp5a, x_countScrap hs ?_⟩⟩, fun n1 => ⟨fun e => ⟨tp6, 35, H.2.1, tp5b, ?_⟩, fun n2 => ⟨fun e => ⟨tp6, 35, H.2.1, tp5b, 1, H.1, tp5a, ?_⟩, fun n3 => ⟨tp6, 35, H.2.1, tp5b, 1, H.1, tp5a, ?_⟩⟩⟩⟩⟩
  · rw [if_pos e] at hp; rw [hq.made]; exact hp
  · rw [if_neg n0, if_pos e] at hp; rw [hq.scrap]; exact hp
  · rw [if_neg n0, if_neg n1, if_pos e] at hp; rw [ht.N, hq.n (by omega) (by omega)]; exact hp
  · rw [if_neg n0, if_neg n1, if_neg n2, if_pos e] at hp; rw [ht.N, hs.N, hq.n (by omega) (by omega)]; exact hp
  · rw [if_neg n0, if_neg n1, if_neg n2, if_neg n3] at hp; rw [ht.N, hs.N, hq.n (by omega) (by omega)]; exact hp
theorem x_passUntilGone (ht : CF B M 35 π' E) (hd : Hd B) (hI : Iv E c N T) (hT : T + 240 < 2 ^ 30) {x : Int32} {P : Int32 → Mem → Prop} (hp : ∀ M' π'' E', CF B M' 35 π'' E' → P (goneL 240 1 E x) M') : wp_X6_passUntilGone 283 M 0 x P := by
  refine ⟨241, ?_⟩
  have L : ∀ f i (M1 : Mem) (π1 : Nat → Nat) (E1 : Ab) (c1 T1 : Nat), i + f = 241 → CF B M1 35 π1 E1 → Iv E1 c1 N T1 → T1 + f < 2 ^ 30 → (∀ M' π'' E', CF B M' 35 π'' E' → P (goneL f i E1 x) M') → wpL_X6_passUntilGone_2 283 P (f + 1) M1 0 x (nI i) := by
    intro f
    induction f with
    | zero =>
      intro i M1 π1 E1 c1 T1 hi h1 _ _ hp1
      have : i = 241 := by omega
      subst this
      exact ⟨fun _ => hp1 M1 π1 E1 h1, fun q => absurd (cGt (x := 240) (n := 240) rfl rfl (by omega) (by omega)) q⟩
    | succ f ih =>
      intro i M1 π1 E1 c1 T1 hi h1 hI1 hT1 hp1
      refine ⟨fun q => absurd q (cNgt (x := 240) (n := 240) rfl rfl (by omega) (by omega)), fun _ => ⟨tp6, 35, (tr_head h1 hd).2.1, tp5b, x_passMinute h1 hI1.okM fun M2 π2 h2 => ⟨35, (tr_head h2 hd).2.1, tp5b, ?_⟩⟩⟩
      have hI2 := hI1.minute (by omega)
      refine x_placeOf h2 hI2.1.1 ⟨fun e v10 h10 => ?_, fun e => ?_⟩
      · rw [h10, nI_1]
        refine ih (i + 1) M2 π2 _ _ _ (by omega) h2 hI2 (by omega) fun M' π'' E' h' => ?_
        have := hp1 M' π'' E' h'
        unfold goneL at this
        rw [if_neg (fun z => e (by rw [z]; rfl))] at this
        exact this
      · have : placeA (aMinute E1) (cnt (aMinute E1)) x = none := by
          cases q : placeA (aMinute E1) (cnt (aMinute E1)) x with
          | none => rfl
          | some k =>
            rw [q] at e
            exact absurd e (nI_n1 (by have := (fst9_some q).2.1; have := hI2.1.1.2.1; omega))
        have hp2 := hp1 M2 π2 _ h2
        unfold goneL at hp2
        rw [if_pos this] at hp2
        exact hp2
  exact L 240 1 M π' E c T (by omega) ht hI hT hp
theorem x_goneBehind (h1 : CF B B 1 π A) (ht : CF B M 35 π' E) (hd : Hd B) (hI : Iv A c N T) (hT : T + 240 < 2 ^ 30) {x : Int32} {P : Int32 → Mem → Prop} (hp : ∀ M' π'' E', CF B M' 35 π'' E' → P (goneL 240 1 A x) M') : wp_X6_goneBehind 283 M 0 x P := by
  have H := tr_head ht hd
  refine ⟨tp6, 35, H.2.1, 1, H.1, tp5b, tr_copy h1 ht hI.1.1 fun M2 E2 h2 h3 => ?_⟩
  refine x_passUntilGone h2 hd (hI.copy h3) hT fun M3 π3 E3 h4 => ?_
  rw [h3.cq.goneL hI hT]
  exact hp M3 π3 E3 h4
theorem Cq.six {z : Int32} {k : Nat} (h : Cq E A c) : Cq (aU E (13 + k) 6 z) A c := fun r f v => by
  rw [up_o (by unfold vis at v; omega)]; exact h r f v
theorem Cq.rows {ρ : Nat → Nat} (h : Cq E A c) (h1 : ∀ k, k < c → ρ k < c) (hc : c ≤ 10) : Cq (rowsP E ρ) (rowsP A ρ) c := fun r f v => by
  by_cases q : 13 ≤ r ∧ r < 23
  · have hi : r - 13 < c := by unfold vis at v; omega
    have e1 := rowsP_J (A := E) (ρ := ρ) (k := r - 13) (by omega)
    have e2 := rowsP_J (A := A) (ρ := ρ) (k := r - 13) (by omega)
    rw [show 13 + (r - 13) = r by omega] at e1 e2
    rw [e1, e2]
    exact h.j (h1 _ hi) (by unfold vis at v; omega) (by unfold vis at v; omega)
  · rw [rowsP_o q, rowsP_o q]; exact h r f v
def gainV (as ru : Int32) : Int32 := if as = -1 then (if ru = -1 then 0 else 999) else (if ru = -1 then -999 else as - ru)
theorem x_gainByHaste (h1 : CF B B 1 π A) (ht : CF B M 35 π' E) (hd : Hd B) (hI : Iv A c N T) (hT : T + 240 < 2 ^ 30) {x : Int32} {k : Nat} (hk : placeA A c x = some k) {P : Int32 → Mem → Prop} (hp : ∀ p M' π'' E', p < c → srt (hasteA A k p) c → CF B M' 35 π'' E' → P (gainV (goneL 240 1 A x) (goneL 240 1 (hasteA A k p) x)) M') : wp_X6_gainByHaste 283 M 0 x (goneL 240 1 A x) P := by
  have H := tr_head ht hd
  have hc := hI.1.1.2.1
  have hkc : k < c := by have := (fst9_some hk).2.1; omega
  refine ⟨tp6, 35, H.2.1, 1, H.1, tp5b, tr_copy h1 ht hI.1.1 fun M2 E2 h2 h3 => ⟨35, (tr_head h2 hd).2.1, tp5b, ?_⟩⟩
  have hI2 := hI.copy h3
  refine x_placeOf h2 hI2.1.1 ?_
  rw [h3.cq.place, hk]
  refine ⟨35, (tr_head h2 hd).2.1, tp5b, x_hasten h2 hI2.1.1.1 hc hkc hI2.1.2.1 (fun j hj hne q => hne (hI2.1.inj hj hkc q)) rfl fun p M3 hp3 h4 h5 => ?_⟩
  -- the order with haste, in the copy and in the shop
  have e6 : bI true = 1 := rfl
  rw [e6] at h4 h5
  have six : ∀ i, i < c → i ≠ k → A (13 + i) 6 = E2 (13 + i) 6 := fun i hi _ => (h3.2.2.2.1 i hi 6 (by omega)).symm
  have pm := mv_perm hkc hp3
  have cp : Cp (hasteA E2 k p) (hasteA A k p) c := by
    obtain ⟨g0, g1, g2, g3, g4⟩ := h3
    refine ⟨fun f a b => ?_, fun i hi f hf => ?_, fun i hi f hf => ?_, fun i hi f hf => ?_, fun i hi f hf => ?_⟩
    · unfold hasteA; rw [rowsP_o (by omega), rowsP_o (by omega), up_r (by omega), up_r (by omega)]; exact g0 f a b
    · unfold hasteA; rw [rowsP_o (by omega), rowsP_o (by omega), up_r (by omega), up_r (by omega)]; exact g1 i hi f hf
    · unfold hasteA; rw [rowsP_o (by omega), rowsP_o (by omega), up_r (by omega), up_r (by omega)]; exact g2 i hi f hf
    · unfold hasteA
      rw [rowsP_J (by omega), rowsP_J (by omega)]
      have hm := pm.1 i hi
      by_cases q : mv k p i = k ∧ f = 6
      · rw [q.1, q.2, up_s, up_s]
      · rw [up_o (by omega), up_o (by omega)]; exact g3 _ hm f hf
    · unfold hasteA; rw [rowsP_o (by omega), rowsP_o (by omega), up_r (by omega), up_r (by omega)]; exact g4 i hi f hf
  have hIE : Iv (hasteA E2 k p) c N T := ((hI2.un.six hkc (z := true)).moved hkc hp3).iv h5
  have back : Cp (hasteA A k p) (hasteA E2 k p) c := ⟨fun f a b => (cp.1 f a b).symm, fun i a f b => (cp.2.1 i a f b).symm, fun i a f b => (cp.2.2.1 i a f b).symm, fun i a f b => (cp.2.2.2.1 i a f b).symm, fun i a f b => (cp.2.2.2.2 i a f b).symm⟩
  have hIA : Iv (hasteA A k p) c N T := hIE.copy back
  refine ⟨fun ne => ?_, fun e => ?_⟩
  · refine x_passUntilGone h4 hd hIE hT fun M4 π4 E4 h6 => ?_
    have eg : goneL 240 1 (rowsP (aU E2 (13 + k) 6 1) (mv k p)) x = goneL 240 1 (hasteA A k p) x := cp.cq.goneL hIA hT
    rw [eg]
    have fin := hp p M4 π4 E4 hp3 hIA.1.2.1 h6
    unfold gainV at fin
    refine ⟨fun n1 => ?_, fun e1 => ?_⟩
    · rw [if_neg n1] at fin
      by_cases q : goneL 240 1 (hasteA A k p) x = -1
      · rw [if_pos q] at fin
        rw [if_neg (fun z => z q)]; exact fin
      · rw [if_neg q] at fin
        rw [if_pos q]; exact fin
    · rw [if_pos e1] at fin
      by_cases q : goneL 240 1 (hasteA A k p) x = -1
      · rw [if_pos q] at fin
        rw [if_neg (fun z => z q)]; exact fin
      · rw [if_neg q] at fin
        rw [if_pos q]; exact fin
  · have hpk : p = k := (nI_eq (by omega) (by omega)).mp e
    have fin := hp p M3 _ _ hp3 hIA.1.2.1 h4
    have same : goneL 240 1 (hasteA A k p) x = goneL 240 1 A x := by
      refine Cq.goneL (c := c) ?_ hI hT
      unfold hasteA
      rw [hpk]
      have : rowsP (aU A (13 + k) 6 1) (mv k k) = aU A (13 + k) 6 1 := rowsP_id fun i _ => mv_self
      rw [this]
      exact Cq.six (fun _ _ _ => rfl)
    rw [same] at fin
    have z : gainV (goneL 240 1 A x) (goneL 240 1 A x) = 0 := by
      unfold gainV
      split
      · rfl
      · exact Int32.sub_self _
    rw [z] at fin
    exact fin
end FO
