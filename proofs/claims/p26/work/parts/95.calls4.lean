/-! the reference's calls that search or divide -/
section
variable {N n : Nat} {ti mow : Nat → Int32} {g : Nat → Nat} {x1 x2 x3 : Int32} {mth : Int32} {mpl mbs mlo mro : Nat → Int32} {mta : Nat → Int64} {mba mib : Nat → Int32} {mdi : Int64} {mab mbe : Nat → Int64}
theorem rD_PL {num den gr : Nat → Nat} (hND : ND n (tmI ti) num den) (hRD : RD n num den gr) (hr : ∀ j, j < n → mro j = nI (gr j)) : PL n mro (rD n ti) := fun j hj => by
  obtain ⟨r1, r2⟩ := rD_of hND hRD
  rw [hr j hj, r2 j hj]
  exact ⟨rfl, (r1.1.1 j hj).1⟩
end
/-! what the calls leave behind -/
section
variable {n : Nat} {ti : Nat → Int32} {g : Nat → Nat} {x1 x2 x3 : Int32}
theorem JI.tN_ti {c : Nat} (h : JI n ti) (hc : c < 3 * n) : (ti c = 0 ↔ tN ti c = 0) := by
  obtain ⟨h1, h2, -⟩ := tN_le h hc
  rw [h2]
  exact ⟨fun q => by rw [← nI_0] at q; exact nI_inj (by omega) (by omega) q, fun q => by rw [q, nI_0]⟩
theorem Good.assign (hG : Good n ti g) (o1 : jOK n x1) (o2 : jOK 3 x2) (ht : ti (3 * (x1).toNatClampNeg + (x2).toNatClampNeg) ≠ 0) : Good n ti (stp g (x1).toNatClampNeg (x2).toNatClampNeg) := by
  have hn := hG.1.1
  obtain ⟨h1, -⟩ := o1.at (by omega)
  obtain ⟨h2, -⟩ := o2.at (by omega)
  refine ⟨hG.1, fun j hj => ?_⟩
  show (if j = (x1).toNatClampNeg then (x2).toNatClampNeg else g j) < 3 ∧ 0 < tN ti (3 * j + if j = (x1).toNatClampNeg then (x2).toNatClampNeg else g j)
  by_cases e : j = (x1).toNatClampNeg
  · rw [if_pos e, e]
    refine ⟨h2, ?_⟩
    have := mt (hG.1.tN_ti (show 3 * (x1).toNatClampNeg + (x2).toNatClampNeg < 3 * n by omega)).mpr ht
    omega
  · rw [if_neg e]; exact hG.2 j hj
theorem tN_nI {ti : Nat → Int32} {c v : Nat} (h : ti c = nI v) (hv : v < 2 ^ 31) : tN ti c = v := by
  unfold tN tmI
  rw [h, nI_toInt hv]; rfl
theorem Good.setTime (hG : Good n ti g) (o1 : jOK n x1) (o2 : jOK 3 x2) (o3 : jOK 51 x3) (hne : ¬ (x3 = 0 ∧ nI (g (x1).toNatClampNeg) = x2)) : Good n (upd ti (3 * (x1).toNatClampNeg + (x2).toNatClampNeg) x3) g := by
  have hn := hG.1.1
  obtain ⟨h1, e1⟩ := o1.at (by omega)
  obtain ⟨h2, e2⟩ := o2.at (by omega)
  obtain ⟨v, hv, e3⟩ := o3
  refine ⟨⟨hn, fun c hc => ?_⟩, fun j hj => ?_⟩
  · by_cases e : c = 3 * (x1).toNatClampNeg + (x2).toNatClampNeg
    · rw [e, pk_us]; exact ⟨v, by omega, e3⟩
    · rw [pk_un e]; exact hG.1.2 c hc
  · obtain ⟨q1, q2⟩ := hG.2 j hj
    refine ⟨q1, ?_⟩
    by_cases e : 3 * j + g j = 3 * (x1).toNatClampNeg + (x2).toNatClampNeg
    · have ej : j = (x1).toNatClampNeg := by omega
      have eg : g j = (x2).toNatClampNeg := by omega
      rw [tN_nI (v := v) (by rw [e, pk_us, e3]) (by omega)]
      rcases Nat.eq_zero_or_pos v with r | r
      · exact absurd ⟨by rw [e3, r, nI_0], by rw [← ej, eg, ← e2]⟩ hne
      · exact r
    · have : tN (upd ti (3 * (x1).toNatClampNeg + (x2).toNatClampNeg) x3) (3 * j + g j) = tN ti (3 * j + g j) := by
        unfold tN tmI
        rw [pk_un e]
      rw [this]; exact q2
theorem Good.addJob (hG : Good n ti g) (o : tAll x1 x2 x3) (hn : n < 7) : Good (n + 1) (upJ ti n x1 x2 x3) (stp g n (lowm x1 x2)) := by
  obtain ⟨⟨v1, hv1, e1⟩, ⟨v2, hv2, e2⟩, ⟨v3, hv3, e3⟩, hnz⟩ := o
  obtain ⟨u0, u1, u2, uc⟩ := upJ_at (ti := ti) (n := n) (x1 := x1) (x2 := x2) (x3 := x3)
  have z : ∀ v, v < 51 → (nI v ≤ 0 ↔ v = 0) := fun v hv => by
    rw [← nI_0, nI_leI (by omega) (by omega)]; omega
  refine ⟨⟨by omega, fun c hc => ?_⟩, fun j hj => ?_⟩
  · by_cases q : c < 3 * n
    · rw [uc c q]; exact hG.1.2 c q
    · rcases (show c = 3 * n ∨ c = 3 * n + 1 ∨ c = 3 * n + 2 by omega) with e | e | e
      · rw [e, u0]; exact ⟨v1, by omega, e1⟩
      · rw [e, u1]; exact ⟨v2, by omega, e2⟩
      · rw [e, u2]; exact ⟨v3, by omega, e3⟩
  · show (if j = n then lowm x1 x2 else g j) < 3 ∧ 0 < tN (upJ ti n x1 x2 x3) (3 * j + if j = n then lowm x1 x2 else g j)
    by_cases e : j = n
    · rw [if_pos e, e]
      unfold lowm
      rw [e1, e2]
      by_cases p1 : nI v1 ≤ 0
      · rw [if_pos p1]
        have z1 := (z v1 hv1).mp p1
        by_cases p2 : nI v2 ≤ 0
        · rw [if_pos p2]
          have z2 := (z v2 hv2).mp p2
          refine ⟨by omega, ?_⟩
          have h := tN_nI (ti := upJ ti n x1 x2 x3) (c := 3 * n + 2) (v := v3) (by rw [u2, e3]) (by omega)
          rw [e1, e2] at h
          rw [h]
          rcases Nat.eq_zero_or_pos v3 with r | r
          · exact absurd ⟨by rw [e1, z1, nI_0], by rw [e2, z2, nI_0], by rw [e3, r, nI_0]⟩ hnz
          · exact r
        · rw [if_neg p2]
          refine ⟨by omega, ?_⟩
          have h := tN_nI (ti := upJ ti n x1 x2 x3) (c := 3 * n + 1) (v := v2) (by rw [u1, e2]) (by omega)
          rw [e1, e2] at h
          rw [h]
          have := mt (z v2 hv2).mpr p2
          omega
      · rw [if_neg p1]
        refine ⟨by omega, ?_⟩
        have h := tN_nI (ti := upJ ti n x1 x2 x3) (c := 3 * n + 0) (v := v1) (by rw [Nat.add_zero, u0, e1]) (by omega)
        rw [e1, e2] at h
        rw [h]
        have := mt (z v1 hv1).mpr p1
        omega
    · rw [if_neg e]
      obtain ⟨q1, q2⟩ := hG.2 j (by omega)
      refine ⟨q1, ?_⟩
      have : tN (upJ ti n x1 x2 x3) (3 * j + g j) = tN ti (3 * j + g j) := by
        unfold tN tmI
        rw [uc _ (by omega)]
      rw [this]; exact q2
theorem Good.removeLast (hG : Good n ti g) : Good (n - 1) ti g := ⟨⟨by have := hG.1.1; omega, fun c hc => hG.1.2 c (by omega)⟩, fun j hj => hG.2 j (by omega)⟩
theorem Good.rounded (hG : Good n ti g) {dnu dde rma : Nat → Int32} {dbo dln dld : Int32} (h : DInv n ti dnu dde dbo dln dld rma) : Good n ti (rD n ti) := ⟨hG.1, RD.feas hG.1 h.2.1 h.2.2.2.2.2.1⟩
theorem Good.improved (hG : Good n ti g) : Good n ti (app g (swA n (tN ti) g n).2) := ⟨hG.1, GF.feas hG (GF.sa hG.1 (Nat.le_refl n))⟩
end
