def alR (mib : Nat → Int32) : Nat → Prop := fun v => mib v = 0
/-- a table of the reference that stands -/
def RS (n : Nat) (R cap : Int) (tm : Nat → Int) (mta : Nat → Int64) (mba mib : Nat → Int32) (mdi : Int64) : Prop :=
  BOk2 (n + 4) mba ∧ Tb (n + 4) 26 (RA n R tm) (UT mta) (BB mba) mdi.toInt ∧ Feas (n + 4) 26 (UT mta) ∧ (∀ s, s < n + 4 → alR mib (BB mba s)) ∧ (∀ v, v < 26 → alR mib v → al0R n cap tm v)
section
variable {n : Nat} {R cap : Int} {tm : Nat → Int} {mta mta' : Nat → Int64} {mba mba' mib : Nat → Int32} {mdi mdi' : Int64}
theorem RS.dv (hn : n ≤ 7) (h : RS n R cap tm mta mba mib mdi) : DV n cap tm (vl (n + 4) 26 (UT mta) (BB mba)) mdi.toInt (vl (n + 4) 26 (UT mta) (BB mba) 21) ∧ vl (n + 4) 26 (UT mta) (BB mba) 21 + vl (n + 4) 26 (UT mta) (BB mba) 25 = R * mdi.toInt ∧ ∀ i, i < 3 → sm n (fun j => tm (3 * j + i) * vl (n + 4) 26 (UT mta) (BB mba) (3 * j + i)) + vl (n + 4) 26 (UT mta) (BB mba) (22 + i) = vl (n + 4) 26 (UT mta) (BB mba) 21 := by
  obtain ⟨hb, hT, hF, hba, hal⟩ := h
  have hfc : Fc (n + 4) 26 (RA n R tm) (al0R n cap tm) (bsl (n + 4) 26 (UT mta) (BB mba) mdi.toInt) := bsl_Fc hT hF (fun s hs => hal _ (hT.lt hs) (hba s hs))
  obtain ⟨⟨d1, d2, d3, d4⟩, hl⟩ := RA_FZ hn hfc
  obtain ⟨-, -, hM⟩ := (RA_sol hn).mp hfc.1
  have e : ∀ c, c < 26 → bsl (n + 4) 26 (UT mta) (BB mba) mdi.toInt c = vl (n + 4) 26 (UT mta) (BB mba) c := fun c hc => bsl_lt hc
  rw [bsl_N, Int.neg_neg] at d3 hl
  rw [e 21 (by omega)] at d4 hl
  rw [e 25 (by omega)] at hl
  have es : ∀ i, i < 3 → sm n (fun j => tm (3 * j + i) * bsl (n + 4) 26 (UT mta) (BB mba) mdi.toInt (3 * j + i)) = sm n (fun j => tm (3 * j + i) * vl (n + 4) 26 (UT mta) (BB mba) (3 * j + i)) := fun i hi => sm_congr (fun j hj => by rw [e _ (by omega)])
  refine ⟨⟨fun c hc => by rw [← e c (by omega)]; exact d1 c hc, fun c hc ho => by rw [← e c (by omega)]; exact d2 c hc ho, fun j hj => by rw [← e _ (by omega), ← e (3 * j + 1) (by omega), ← e (3 * j + 2) (by omega)]; exact d3 j hj, fun i hi => by rw [← es i hi]; exact d4 i hi⟩, hl, fun i hi => ?_⟩
  have := hM i hi
  rw [es i hi, e 21 (by omega), e (22 + i) (by omega)] at this
  exact this
theorem RS.rhs (hn : n ≤ 7) (hR0 : 0 ≤ R) (hR : R ≤ 400) (ht : ∀ c, c < 3 * n → 0 ≤ tm c ∧ tm c ≤ 50) (h : RS n R cap tm mta mba mib mdi) (r : Nat) (hr : r < n + 4) : UT mta r 26 ≤ 400 * mdi.toInt := by
  have hdv := h.dv hn
  obtain ⟨hb, hT, hF, hba, hal⟩ := h
  obtain ⟨⟨d1, d2, d3, d4⟩, hl, hM⟩ := hdv
  have hd := hT.pos
  have hnn : ∀ c, 0 ≤ vl (n + 4) 26 (UT mta) (BB mba) c := fun c => vl_nonneg hF c
  have hRd : R * mdi.toInt ≤ 400 * mdi.toInt := Int.mul_le_mul_of_nonneg_right hR (by omega)
  have e : UT mta r 26 = vl (n + 4) 26 (UT mta) (BB mba) (BB mba r) := (vl_b hT hr).symm
  rw [e]
  have hv := hal _ (hT.lt hr) (hba r hr)
  have h21 := hnn 21
  have h25 := hnn 25
  rcases hv with ⟨h1, -⟩ | ⟨h1, h2⟩
  · have hj := d3 (BB mba r / 3) (by omega)
    have q0 := hnn (3 * (BB mba r / 3))
    have q1 := hnn (3 * (BB mba r / 3) + 1)
    have q2 := hnn (3 * (BB mba r / 3) + 2)
    rcases (show BB mba r = 3 * (BB mba r / 3) ∨ BB mba r = 3 * (BB mba r / 3) + 1 ∨ BB mba r = 3 * (BB mba r / 3) + 2 by omega) with q | q | q
    · have q' : vl (n + 4) 26 (UT mta) (BB mba) (BB mba r) = vl (n + 4) 26 (UT mta) (BB mba) (3 * (BB mba r / 3)) := congrArg _ q
      omega
    · have q' : vl (n + 4) 26 (UT mta) (BB mba) (BB mba r) = vl (n + 4) 26 (UT mta) (BB mba) (3 * (BB mba r / 3) + 1) := congrArg _ q
      omega
    · have q' : vl (n + 4) 26 (UT mta) (BB mba) (BB mba r) = vl (n + 4) 26 (UT mta) (BB mba) (3 * (BB mba r / 3) + 2) := congrArg _ q
      omega
  · by_cases e21 : BB mba r = 21
    · rw [e21]; omega
    · by_cases e25 : BB mba r = 25
      · rw [e25]; omega
      · have hm := hM (BB mba r - 22) (by omega)
        rw [show 22 + (BB mba r - 22) = BB mba r by omega] at hm
        have hs0 : 0 ≤ sm n (fun j => tm (3 * j + (BB mba r - 22)) * vl (n + 4) 26 (UT mta) (BB mba) (3 * j + (BB mba r - 22))) := sm_nonneg (fun j hj => Int.mul_nonneg (ht _ (by omega)).1 (hnn _))
        omega
theorem RS.bound (hn : n ≤ 7) (hR0 : 0 ≤ R) (hR : R ≤ 400) (ht : ∀ c, c < 3 * n → 0 ≤ tm c ∧ tm c ≤ 50) (h : RS n R cap tm mta mba mib mdi) : mdi.toInt.natAbs ≤ 27000000 ∧ (∀ r c, r < n + 4 → c < 26 → (UT mta r c).natAbs ≤ 27000000) ∧ (∀ r, r < n + 4 → (UT mta r 26).natAbs ≤ 27000000000) := by
  have hA := RA_wd (R := R) hn ht
  have hd := Tb.d_le (q := n + 1) h.2.1 hA
  refine ⟨hd, fun r c hr hc => Tb.cell_le (q := n + 1) h.2.1 hA hr hc, fun r hr => ?_⟩
  have h1 := h.rhs hn hR0 hR ht r hr
  have h2 := h.2.2.1 r hr
  omega
/-- a column that may come in has a cell above 0 -/
theorem RS.col (hn : n ≤ 7) (h : RS n R cap tm mta mba mib mdi) {c : Nat} (hc : c < 26) (hca : alR mib c) (hnb : ∀ s, s < n + 4 → BB mba s ≠ c) : ∃ r, r < n + 4 ∧ 0 < UT mta r c := by
  obtain ⟨hb, hT, hF, hba, hal⟩ := h
  apply Classical.byContradiction
  intro hno
  have hneg : ∀ r, r < n + 4 → UT mta r c ≤ 0 := fun r hr => Classical.byContradiction (fun q => hno ⟨r, hr, by omega⟩)
  obtain ⟨hJ, hl, hM⟩ := (RA_sol hn).mp ((hT.sols _).mpr (dirv_sol hT (Nat.le_of_lt hc)))
  have hd := hT.pos
  have y26 : dirv (n + 4) (UT mta) (BB mba) mdi.toInt c 26 = 0 := dirv_off (by omega) (fun s hs e => by have := hT.lt hs; omega)
  have yc : dirv (n + 4) (UT mta) (BB mba) mdi.toInt c c = mdi.toInt := dirv_at hnb
  have hnn : ∀ k, 0 ≤ dirv (n + 4) (UT mta) (BB mba) mdi.toInt c k := fun k => by
    by_cases e : k = c
    · rw [e, yc]; omega
    · by_cases hb' : ∃ s, s < n + 4 ∧ BB mba s = k
      · obtain ⟨s, hs, e2⟩ := hb'
        rw [← e2, dirv_b hT hnb hs]
        have := hneg s hs; omega
      · rw [dirv_off e (fun s hs e2 => hb' ⟨s, hs, e2⟩)]; exact Int.le_refl 0
  rw [y26] at hJ hl
  rw [Int.neg_zero, Int.mul_zero] at hl
  have h21 := hnn 21
  have h25 := hnn 25
  have hX0 : ∀ k, k < 3 * n → dirv (n + 4) (UT mta) (BB mba) mdi.toInt c k = 0 := fun k hk => by
    have hj := hJ (k / 3) (by omega)
    have q0 := hnn (3 * (k / 3))
    have q1 := hnn (3 * (k / 3) + 1)
    have q2 := hnn (3 * (k / 3) + 2)
    rcases (show k = 3 * (k / 3) ∨ k = 3 * (k / 3) + 1 ∨ k = 3 * (k / 3) + 2 by omega) with q | q | q
    · have q' : dirv (n + 4) (UT mta) (BB mba) mdi.toInt c k = dirv (n + 4) (UT mta) (BB mba) mdi.toInt c (3 * (k / 3)) := congrArg _ q
      omega
    · have q' : dirv (n + 4) (UT mta) (BB mba) mdi.toInt c k = dirv (n + 4) (UT mta) (BB mba) mdi.toInt c (3 * (k / 3) + 1) := congrArg _ q
      omega
    · have q' : dirv (n + 4) (UT mta) (BB mba) mdi.toInt c k = dirv (n + 4) (UT mta) (BB mba) mdi.toInt c (3 * (k / 3) + 2) := congrArg _ q
      omega
  rcases hal c hc hca with ⟨h1, -⟩ | ⟨h1, -⟩
  · have := hX0 c h1; omega
  · by_cases e21 : c = 21
    · rw [e21] at yc h21 h25 hl; omega
    · by_cases e25 : c = 25
      · rw [e25] at yc h21 h25 hl; omega
      · have hm := hM (c - 22) (by omega)
        rw [show 22 + (c - 22) = c by omega, yc, sm_zero (fun j hj => by rw [hX0 _ (by omega), Int.mul_zero])] at hm
        omega
/-- with jobs the greatest load is above 0 -/
theorem RS.pos21 (hn : n ≤ 7) (hn0 : 0 < n) (ht : ∀ c, c < 3 * n → 0 ≤ tm c ∧ tm c ≤ 50) (h : RS n R cap tm mta mba mib mdi) : 0 < vl (n + 4) 26 (UT mta) (BB mba) 21 := by
  obtain ⟨⟨d1, d2, d3, d4⟩, -, -⟩ := h.dv hn
  have hd := h.2.1.pos
  have hj := d3 0 hn0
  have one : ∀ i, i < 3 → 0 < vl (n + 4) 26 (UT mta) (BB mba) (3 * 0 + i) → 0 < vl (n + 4) 26 (UT mta) (BB mba) 21 := fun i hi hp => by
    have ho : 0 < tm (3 * 0 + i) ∧ tm (3 * 0 + i) ≤ cap := Classical.byContradiction (fun q => by have := d2 (3 * 0 + i) (by omega) q; omega)
    have h4 := d4 i hi
    have h5 := sm_ge_one (n := n) (f := fun j => tm (3 * j + i) * vl (n + 4) 26 (UT mta) (BB mba) (3 * j + i)) (fun j hj => Int.mul_nonneg (ht _ (by omega)).1 (d1 _ (by omega))) 0 hn0
    have h6 := Int.mul_pos ho.1 hp
    omega
  have q0 := d1 (3 * 0) (by omega)
  have q1 := d1 (3 * 0 + 1) (by omega)
  have q2 := d1 (3 * 0 + 2) (by omega)
  by_cases p0 : 0 < vl (n + 4) 26 (UT mta) (BB mba) (3 * 0)
  · exact one 0 (by omega) p0
  · by_cases p1 : 0 < vl (n + 4) 26 (UT mta) (BB mba) (3 * 0 + 1)
    · exact one 1 (by omega) p1
    · exact one 2 (by omega) (by omega)
theorem RS.inj (h : RS n R cap tm mta mba mib mdi) : ∀ r s, r < n + 4 → s < n + 4 → BB mba r = BB mba s → r = s := fun _ _ hr hs e => h.2.1.inj hr hs e
end
theorem idinj : ∀ u v : Nat, u < 26 → v < 26 → u = v → u = v := fun _ _ _ _ h => h