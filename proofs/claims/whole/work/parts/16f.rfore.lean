/-! What would be: the reference. -/
/-- only the shop's array beyond its cells and the array put aside differ -/
def SimR (M M' : Mem) : Prop := (∀ a, a ≠ 277 → a ≠ 278 → M'.1 a = M.1 a) ∧ M'.2 = M.2 ∧ ∀ k, k < 158 → M'.1 277 k = M.1 277 k
theorem SimR.rf {M : Mem} : SimR M M := ⟨fun _ _ _ => rfl, rfl, fun _ _ => rfl⟩
theorem SimR.tr {M M1 M2 : Mem} (h : SimR M M1) (k : SimR M1 M2) : SimR M M2 := ⟨fun a h1 h2 => (k.1 a h1 h2).trans (h.1 a h1 h2), k.2.1.trans h.2.1, fun i hi => (k.2.2 i hi).trans (h.2.2 i hi)⟩
theorem SimR.rb {M M' : Mem} (h : SimR M M') (hB : RB M) : RB M' := by unfold RB; rw [h.2.1]; exact hB
section RF
variable {B M : Mem} {σ σ' : Nat → Int32} {A A' : Ab} {c N T : Nat} {m : Int32} {ι : Nat → Nat}
theorem Rel.eq158 (h : Rel A c m ι σ) (hc : c ≤ 10) (hs : ∀ k, k < 158 → σ' k = σ k) : Rel A c m ι σ' :=
  ⟨h.1.congr (fun i hi => hs i (by omega)) (fun _ _ _ _ => rfl) (fun _ _ => rfl) (fun _ _ => rfl), h.2.1.congr (fun i _ hi => hs i (by omega)) (fun _ _ => rfl), h.2.2.1.congr (fun i _ hi => hs i (by omega)) (fun _ _ _ _ => rfl), h.2.2.2.1.congr (fun i _ hi => hs i (by omega)) (fun _ _ _ _ => rfl), h.2.2.2.2.1.congr hc (fun i _ hi => hs i (by omega)) (fun _ _ _ _ => rfl), h.2.2.2.2.2.congr (fun i _ hi => hs i (by omega)) (fun _ _ _ _ => rfl)⟩
theorem r_passed (hB : RB M) (hR : Rel A c (A 0 11) ι (M.1 277)) (hI : Iv A c N T) {n q : Nat} (hT : T + n < 2 ^ 30) (hq : q < 5) {x w : Int32} (hx : x = nI n) (hw : w = nI q) {P : Int32 → Mem → Prop} (hp : ∀ M', SimR M M' → P (foreV A (mins n A) w) M') : wp_X7_passed 283 M 276 x w P := by
  refine ⟨tp7, r_putAside hB ?_⟩
  generalize hM1 : wR M 278 (fun x => if x < 158 then M.1 277 x else M.1 278 x) = M1
  have hB1 : RB M1 := by rw [← hM1]; exact hB
  have e1 : M1.1 277 = M.1 277 := by rw [← hM1, wR_o (by omega)]
  have e8 : ∀ k, k < 158 → M1.1 278 k = M.1 277 k := fun k hk => by
    rw [← hM1, wR_1]
    show (if k < 158 then _ else _) = _
    rw [if_pos hk]
  have eo : ∀ a, a ≠ 278 → M1.1 a = M.1 a := fun a ha => by rw [← hM1, wR_o ha]
  have e2 : M1.2 = M.2 := by rw [← hM1]; rfl
  have hR1 : Rel A c (A 0 11) ι (M1.1 277) := by rw [e1]; exact hR
  rw [← sM_self (M := M1)]
  have bk : ∀ (σ' : Nat → Int32) (Q : Mem → Prop), (∀ M', SimR M M' → Q M') → wp_X7_takeBack 283 (sM M1 σ') 276 Q := fun σ' Q hQ => by
    refine r_takeBack (M := sM M1 σ') hB1 (hQ _ ⟨fun a h1 h2 => ?_, ?_, fun k hk => ?_⟩)
    · rw [wR_o h1, sM_o h1]; exact eo a h2
    · exact e2
    · rw [wR_1]
      show (if k < 158 then (sM M1 σ').1 278 k else _) = _
      rw [if_pos hk, sM_o (by omega)]; exact e8 k hk
  unfold foreV at hp
  have rn := hR1.1
  refine ⟨277, hB1.1, tp8, by rw [len8]; exact vpI (i := 8) rfl (by omega) (by omega), fun v7 h7 => ⟨277, hB1.1, tp8, by rw [len8]; exact vpI (i := 12) rfl (by omega) (by omega), fun v11 h11 => ⟨277, hB1.1, tp8, by rw [len8]; exact vpI (i := 9) rfl (by omega) (by omega), fun v15 h15 => r_minutes hB1 hR1 hI hT hx fun ι' σ' hR' => ?_⟩⟩⟩
  rw [sM_1, show (8 : Int32).toNatClampNeg = 8 from rfl] at h7
  rw [sM_1, show (12 : Int32).toNatClampNeg = 9 + 3 from rfl] at h11
  rw [sM_1, show (9 : Int32).toNatClampNeg = 9 + 0 from rfl] at h15
  have rn' := hR'.1
  rw [rn.2.2.2.2.2.1] at h7
  rw [rn.2.2.2.2.2.2 3 (by omega)] at h11
  rw [rn.2.2.2.2.2.2 0 (by omega)] at h15
  refine ⟨fun n0 => ⟨fun n1 => ⟨fun n2 => ⟨fun n3 => ?_, fun e => ?_⟩, fun e => ?_⟩, fun e => ?_⟩, fun e => ?_⟩
  · refine ⟨277, hB1.1, tp8, by rw [len8]; exact vpI (i := 9) rfl (by omega) (by omega), fun v21 h21 => bk σ' _ fun M' h' => ?_⟩
    rw [sM_1, show (9 : Int32).toNatClampNeg = 9 + 0 from rfl] at h21
    have := hp M' h'
    rw [if_neg n0, if_neg n1, if_neg n2, if_neg n3] at this
    rw [h21, h15, rn'.2.2.2.2.2.2 0 (by omega)]; exact this
  · refine ⟨277, hB1.1, tp8, by rw [len8]; exact vpI (i := 12) rfl (by omega) (by omega), fun v21 h21 => bk σ' _ fun M' h' => ?_⟩
    rw [sM_1, show (12 : Int32).toNatClampNeg = 9 + 3 from rfl] at h21
    have := hp M' h'
    rw [if_neg n0, if_neg n1, if_neg n2, if_pos e] at this
    rw [h21, h11, rn'.2.2.2.2.2.2 3 (by omega)]; exact this
  · refine ⟨277, hB1.1, tp8, by rw [len8]; exact vpI (i := 5) rfl (by omega) (by omega), fun v21 h21 => bk σ' _ fun M' h' => ?_⟩
    rw [sM_1, show (5 : Int32).toNatClampNeg = 5 from rfl] at h21
    have := hp M' h'
    rw [if_neg n0, if_neg n1, if_pos e] at this
    rw [h21, rn'.2.2.1]; exact this
  · refine ⟨277, hB1.1, tp8, by rw [len8]; exact vpI (i := 8) rfl (by omega) (by omega), fun v21 h21 => bk σ' _ fun M' h' => ?_⟩
    rw [sM_1, show (8 : Int32).toNatClampNeg = 8 from rfl] at h21
    have := hp M' h'
    rw [if_neg n0, if_pos e] at this
    rw [h21, h7, rn'.2.2.2.2.2.1]; exact this
  · refine bk σ' _ fun M' h' => ?_
    have := hp M' h'
    rw [if_pos e] at this
    exact this
end RF
