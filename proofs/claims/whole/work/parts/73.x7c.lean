def alR (mib : Nat → Int32) : Nat → Prop := fun v => mib v = 0
/-- a table of the reference that stands -/
def RS (n : Nat) (R cap : Int) (tm : Nat → Int) (mta : Nat → Int64) (mba mib : Nat → Int32) (mdi : Int64) : Prop :=
  BOk2 (n + 4) mba ∧ Tb (n + 4) 26 (RA n R tm) (UT mta) (BB mba) mdi.toInt ∧ Feas (n + 4) 26 (UT mta) ∧ (∀ s, s < n + 4 → alR mib (BB mba s)) ∧ (∀ v, v < 26 → alR mib v → al0R n cap tm v)
section
variable {n : Nat} {R cap : Int} {tm : Nat → Int} {mta mta' : Nat → Int64} {mba mba' mib : Nat → Int32} {mdi mdi' : Int64}
theorem RS.dv (hn : n ≤ 7) (h : RS n R cap tm mta mba mib mdi) : DV n cap tm (vl (n + 4) 26 (UT mta) (BB mba)) mdi.toInt (vl (n + 4) 26 (UT mta) (BB mba) 21) ∧ vl (n + 4) 26 (UT mta) (BB mba) 21 + vl (n + 4) 26 (UT mta) (BB mba) 25 = R * mdi.toInt ∧ ∀ i, i < 3 → sm n (fun j => tm (3 * j + i) * vl (n + 4) 26 (UT mta) (BB mba) (3 * j + i)) + vl (n + 4) 26 (UT mta) (BB mba) (22 + i) = vl (n + 4) 26 (UT mta) (BB mba) 21 := by
  obtain ⟨hb, hT, hF, hba, hal⟩ := h
  have hfc : Fc (n + 4) 26 (RA n R tm) (al0R n cap tm) (bsl (n + 4) 26 (UT mta) (BB mba) mdi.toInt) := bsl_Fc hT hF (fun s hs => hal _ (hT.lt hs) (hba s hs))
  obtain ⟨⟨d1, d2, d3, d4⟩, hl⟩ := RA_FZ hn hfc
  obtain ⟨-, -, hM⟩ := (RA_sol hn).mp hfc.1
  have e : ∀ c, c < 26 → bsl (n + 4) 26 (UT mta) (BB mba) mdi.toInt c = vl (n + 4) 26 (UT mta) (BB mba) c := fun c hc => bsl_lt hc
  rw [bsl_N, Int.neg_neg] at d3 hl
  rw [e 21 (by omega)] at d4 hl
  rw [e 25 (by omega)] at hl
  have es : ∀ i, i < 3 → sm n (fun j => tm (3 * j + i) * bsl (n + 4) 26 (UT mta) (BB mba) mdi.toInt (3 * j + i)) = sm n (fun j => tm (3 * j + i) * vl (n + 4) 26 (UT mta) (BB mba) (3 * j + i)) := fun i hi => sm_congr (fun j hj => by rw [e _ (by omega)])
  refine ⟨⟨fun c hc => by rw [← e c (by omega)]; exact d1 c hc, fun c hc ho => by rw [← e c (by omega)]; exact d2 c hc ho, fun j hj => by rw [← e _ (by omega), ← e (3 * j + 1) (by omega), ← e (3 * j + 2) (by omega)]; exact d3 j hj, fun i hi => by rw [← es i hi]; exact d4 i hi⟩, hl, fun i hi => ?_⟩
  have := hM i hi
  rw [es i hi, e 21 (by omega), e (22 + i) (by omega)] at this
  exact this
theorem RS.rhs (hn : n ≤ 7) (hR0 : 0 ≤ R) (hR : R ≤ 400) (ht : ∀ c, c < 3 * n → 0 ≤ tm c ∧ tm c ≤ 50) (h : RS n R cap tm mta mba mib mdi) (r : Nat) (hr : r < n + 4) : UT mta r 26 ≤ 400 * mdi.toInt := by
  have hdv := h.dv hn
  obtain ⟨hb, hT, hF, hba, hal⟩ := h
  obtain ⟨⟨d1, d2, d3, d4⟩, hl, hM⟩ := hdv
  have hd := hT.pos
  have hnn : ∀ c, 0 ≤ vl (n + 4) 26 (UT mta) (BB mba) c := fun c => vl_nonneg hF c
  have hRd : R * mdi.toInt ≤ 400 * mdi.toInt := Int.mul_le_mul_of_nonneg_right hR (by omega)
  have e : UT mta r 26 = vl (n + 4) 26 (UT mta) (BB mba) (BB mba r) := (vl_b hT hr).symm
  rw [e]
  have hv := hal _ (hT.lt hr) (hba r hr)
  have h21 := hnn 21
  have h25 := hnn 25
  rcases hv with ⟨h1, -⟩ | ⟨h1, h2⟩
  · have hj := d3 (BB mba r / 3) (by omega)
    have q0 := hnn (3 * (BB mba r / 3))
    have q1 := hnn (3 * (BB mba r / 3) + 1)
    have q2 := hnn (3 * (BB mba r / 3) + 2)
    rcases (show BB mba r = 3 * (BB mba r / 3) ∨ BB mba r = 3 * (BB mba r / 3) + 1 ∨ BB mba r = 3 * (BB mba r / 3) + 2 by omega) with q | q | q
    · have q' : vl (n + 4) 26 (UT mta) (BB mba) (BB mba r) = vl (n + 4) 26 (UT mta) (BB mba) (3 * (BB mba r / 3)) := congrArg _ q
      omega
    · have q' : vl (n + 4) 26 (UT mta) (BB mba) (BB mba r) = vl (n + 4) 26 (UT mta) (BB mba) (3 * (BB mba r / 3) + 1) := congrArg _ q
      omega
    · have q' : vl (n + 4) 26 (UT mta) (BB mba) (BB mba r) = vl (n + 4) 26 (UT mta) (BB mba) (3 * (BB mba r / 3) + 2) := congrArg _ q
      omega
  · by_cases e21 : BB mba r = 21
    · rw [e21]; omega
    · by_cases e25 : BB mba r = 25
      · rw [e25]; omega
      · have hm := hM (BB mba r - 22) (by omega)
        rw [show 22 + (BB mba r - 22) = BB mba r by omega] at hm
        have hs0 : 0 ≤ sm n (fun j => tm (3 * j + (BB mba r - 22)) * vl (n + 4) 26 (UT mta) (BB mba) (3 * j + (BB mba r - 22))) := sm_nonneg (fun j hj => Int.mul_nonneg (ht _ (by omega)).1 (hnn _))
        omega
theorem RS.bound (hn : n ≤ 7) (hR0 : 0 ≤ R) (hR : R ≤ 400) (ht : ∀ c, c < 3 * n → 0 ≤ tm c ∧ tm c ≤ 50) (h : RS n R cap tm mta mba mib mdi) : mdi.toInt.natAbs ≤ 27000000 ∧ (∀ r c, r < n + 4 → c < 26 → (UT mta r c).natAbs ≤ 27000000) ∧ (∀ r, r < n + 4 → (UT mta r 26).natAbs ≤ 27000000000) := by
  have hA := RA_wd (R := R) hn ht
  have hd := Tb.d_le (q := n + 1) h.2.1 hA
  refine ⟨hd, fun r c hr hc => Tb.cell_le (q := n + 1) h.2.1 hA hr hc, fun r hr => ?_⟩
  have h1 := h.rhs hn hR0 hR ht r hr
  have h2 := h.2.2.1 r hr
  omega
/-- a column that may come in has a cell above 0 -/
theorem RS.col (hn : n ≤ 7) (h : RS n R cap tm mta mba mib mdi) {c : Nat} (hc : c < 26) (hca : alR mib c) (hnb : ∀ s, s < n + 4 → BB mba s ≠ c) : ∃ r, r < n + 4 ∧ 0 < UT mta r c := by
  obtain ⟨hb, hT, hF, hba, hal⟩ := h
  apply Classical.byContradiction
  intro hno
  have hneg : ∀ r, r < n + 4 → UT mta r c ≤ 0 := fun r hr => Classical.byContradiction (fun q => hno ⟨r, hr, by omega⟩)
  obtain ⟨hJ, hl, hM⟩ := (RA_sol hn).mp ((hT.sols _).mpr (dirv_sol hT (Nat.le_of_lt hc)))
  have hd := hT.pos
  have y26 : dirv (n + 4) (UT mta) (BB mba) mdi.toInt c 26 = 0 := dirv_off (by omega) (fun s hs e => by have := hT.lt hs; omega)
  have yc : dirv (n + 4) (UT mta) (BB mba) mdi.toInt c c = mdi.toInt := dirv_at hnb
  have hnn : ∀ k, 0 ≤ dirv (n + 4) (UT mta) (BB mba) mdi.toInt c k := fun k => by
    by_cases e : k = c
    · rw [e, yc]; omega
    · by_cases hb' : ∃ s, s < n + 4 ∧ BB mba s = k
      · obtain ⟨s, hs, e2⟩ := hb'
        rw [← e2, dirv_b hT hnb hs]
        have := hneg s hs; omega
      · rw [dirv_off e (fun s hs e2 => hb' ⟨s, hs, e2⟩)]; exact Int.le_refl 0
  rw [y26] at hJ hl
  rw [Int.neg_zero, Int.mul_zero] at hl
  have h21 := hnn 21
  have h25 := hnn 25
  have hX0 : ∀ k, k < 3 * n → dirv (n + 4) (UT mta) (BB mba) mdi.toInt c k = 0 := fun k hk => by
    have hj := hJ (k / 3) (by omega)
    have q0 := hnn (3 * (k / 3))
    have q1 := hnn (3 * (k / 3) + 1)
    have q2 := hnn (3 * (k / 3) + 2)
    rcases (show k = 3 * (k / 3) ∨ k = 3 * (k / 3) + 1 ∨ k = 3 * (k / 3) + 2 by omega) with q | q | q
    · have q' : dirv (n + 4) (UT mta) (BB mba) mdi.toInt c k = dirv (n + 4) (UT mta) (BB mba) mdi.toInt c (3 * (k / 3)) := congrArg _ q
      omega
    · have q' : dirv (n + 4) (UT mta) (BB mba) mdi.toInt c k = dirv (n + 4) (UT mta) (BB mba) mdi.toInt c (3 * (k / 3) + 1) := congrArg _ q
      omega
    · have q' : dirv (n + 4) (UT mta) (BB mba) mdi.toInt c k = dirv (n + 4) (UT mta) (BB mba) mdi.toInt c (3 * (k / 3) + 2) := congrArg _ q
      omega
  rcases hal c hc hca with ⟨h1, -⟩ | ⟨h1, -⟩
  · have := hX0 c h1; omega
  · by_cases e21 : c = 21
    · rw [e21] at yc h21 h25 hl; omega
    · by_cases e25 : c = 25
      · rw [e25] at yc h21 h25 hl; omega
      · have hm := hM (c - 22) (by omega)
        rw [show 22 + (c - 22) = c by omega, yc, sm_zero (fun j hj => by rw [hX0 _ (by omega), Int.mul_zero])] at hm
        omega
/-- with jobs the greatest load is above 0 -/
theorem RS.pos21 (hn : n ≤ 7) (hn0 : 0 < n) (ht : ∀ c, c < 3 * n → 0 ≤ tm c ∧ tm c ≤ 50) (h : RS n R cap tm mta mba mib mdi) : 0 < vl (n + 4) 26 (UT mta) (BB mba) 21 := by
  obtain ⟨⟨d1, d2, d3, d4⟩, -, -⟩ := h.dv hn
  have hd := h.2.1.pos
  have hj := d3 0 hn0
  have one : ∀ i, i < 3 → 0 < vl (n + 4) 26 (UT mta) (BB mba) (3 * 0 + i) → 0 < vl (n + 4) 26 (UT mta) (BB mba) 21 := fun i hi hp => by
    have ho : 0 < tm (3 * 0 + i) ∧ tm (3 * 0 + i) ≤ cap := Classical.byContradiction (fun q => by have := d2 (3 * 0 + i) (by omega) q; omega)
    have h4 := d4 i hi
    have h5 := sm_ge_one (n := n) (f := fun j => tm (3 * j + i) * vl (n + 4) 26 (UT mta) (BB mba) (3 * j + i)) (fun j hj => Int.mul_nonneg (ht _ (by omega)).1 (d1 _ (by omega))) 0 hn0
    have h6 := Int.mul_pos ho.1 hp
    omega
  have q0 := d1 (3 * 0) (by omega)
  have q1 := d1 (3 * 0 + 1) (by omega)
  have q2 := d1 (3 * 0 + 2) (by omega)
  by_cases p0 : 0 < vl (n + 4) 26 (UT mta) (BB mba) (3 * 0)
  · exact one 0 (by omega) p0
  · by_cases p1 : 0 < vl (n + 4) 26 (UT mta) (BB mba) (3 * 0 + 1)
    · exact one 1 (by omega) p1
    · exact one 2 (by omega) (by omega)
theorem RS.inj (h : RS n R cap tm mta mba mib mdi) : ∀ r s, r < n + 4 → s < n + 4 → BB mba r = BB mba s → r = s := fun _ _ hr hs e => h.2.1.inj hr hs e
/-- a column comes in -/
theorem r_enter {N c : Nat} {K : (Nat → Int64) → (Nat → Int32) → Int64 → Prop} (hN : 1000 ≤ N) (hn : n ≤ 7) (hR0 : 0 ≤ R) (hR : R ≤ 400) (ht : ∀ c, c < 3 * n → 0 ≤ tm c ∧ tm c ≤ 50) (h : RS n R cap tm mta mba mib mdi) (hc : c < 26) (hca : alR mib c) (hnb : ∀ s, s < n + 4 → BB mba s ≠ c)
    (hK : ∀ (l : Nat) mta' mba' mdi', l < n + 4 → 0 < UT mta l c → (∀ r, r < n + 4 → 0 < UT mta r c → UT mta l 26 * UT mta r c < UT mta r 26 * UT mta l c ∨ (UT mta l 26 * UT mta r c = UT mta r 26 * UT mta l c ∧ BB mba l ≤ BB mba r)) →
      Piv (n + 4) 26 (UT mta) (UT mta') (BB mba) (BB mba') mdi.toInt mdi'.toInt l c → RS n R cap tm mta' mba' mib mdi' → K mta' mba' mdi') : p_X7_leaving N (nI n) mta mba (fun r => p_X7_pivots N (nI n) K r (nI c) mta mba mdi) (nI c) := by
  obtain ⟨b1, b2, b3⟩ := h.bound hn hR0 hR ht
  obtain ⟨r0, hr0, hr0p⟩ := h.col hn hc hca hnb
  obtain ⟨hb, hT, hF, hba, hal⟩ := id h
  refine r_leaving hN hn hc hb (fun r hr => b2 r c hr hc) b3 (fun x hL => ?_)
  rcases hL with ⟨-, hno⟩ | ⟨l, hl, e, hlp, hr⟩
  · exact absurd hr0p (hno r0 hr0)
  · subst e
    refine r_pivots (s := 1) hN hn hl hc (Or.inl rfl) (by omega) hT.pos (fun r hr => b2 r c hr hc) (fun r hr a ha => ?_) (fun r hr hrl a ha => ?_) (fun mta' p hp j1 j2 => ?_)
    · by_cases e : a = 26
      · subst e; exact b3 r hr
      · exact Nat.le_trans (b2 r a hr (by omega)) (by decide)
    · obtain ⟨q, hq⟩ := hT.exact hl hr hrl (Nat.le_of_lt hc) ha
      exact ⟨q, by rw [Int.one_mul, Int.one_mul]; exact hq⟩
    · have hBu : ∀ r, BB (upd mba l (nI c)) r = if r = l then c else BB mba r := fun r => by
        unfold BB
        by_cases e : r = l
        · subst e; rw [pk_us, if_pos rfl, nI_clamp (by omega)]
        · rw [pk_un e, if_neg e]
      have hP : Piv (n + 4) 26 (UT mta) (UT mta') (BB mba) (BB (upd mba l (nI c))) mdi.toInt p.toInt l c := ⟨by rw [hp, Int.one_mul], fun s _ => hBu s, fun a ha => by rw [j1 a ha, Int.one_mul], fun r a hr hrl ha => by rw [j2 r hr hrl a ha, Int.one_mul, Int.one_mul]⟩
      refine hK l mta' _ p hl hlp hr hP ⟨fun r hr => ?_, hT.piv hl hc hlp hP, Piv.feas hT hF hl hlp (fun r hr' hp' => by rcases hr r hr' hp' with h | ⟨h, -⟩ <;> omega) hP, fun s hs => ?_, hal⟩
      · by_cases e : r = l
        · subst e; exact ⟨c, hc, pk_us⟩
        · rw [pk_un e]; exact hb r hr
      · rw [hBu]
        by_cases e : s = l
        · rw [if_pos e]; exact hca
        · rw [if_neg e]; exact hba s hs
end
theorem idinj : ∀ u v : Nat, u < 26 → v < 26 → u = v → u = v := fun _ _ _ _ h => h
theorem r_lowers {N n : Nat} {R cap : Int} {tm : Nat → Int} {mta : Nat → Int64} {mba mib : Nat → Int32} {mdi : Int64} {Q : Int32 → (Nat → Int64) → (Nat → Int32) → Int64 → Prop} (hN : 2000000000 ≤ N) (hn : n ≤ 7) (hn0 : 0 < n) (hR0 : 0 ≤ R) (hR : R ≤ 400) (ht : ∀ c, c < 3 * n → 0 ≤ tm c ∧ tm c ≤ 50)
    (h : RS n R cap tm mta mba mib mdi)
    (hQ : ∀ mta mba mdi ρ, RS n R cap tm mta mba mib mdi → ρ < n + 4 → BB mba ρ = 21 → (∀ k, k < 26 → alR mib k → (∀ s, s < n + 4 → BB mba s ≠ k) → UT mta ρ k ≤ 0) → Q (nI ρ) mta mba mdi) : p_X7_lowers N (nI n) mib Q mta mba mdi := by
  have e26 : (26 : Int32) = nI 26 := by decide
  have e21 : (21 : Int32) = nI 21 := by decide
  have has21 : ∀ {mta : Nat → Int64} {mba : Nat → Int32} {mdi : Int64}, RS n R cap tm mta mba mib mdi → ¬ ∀ r, r < n + 4 → BB mba r ≠ 21 := fun {mta mba mdi} h hno => by
    have h1 := h.pos21 hn hn0 ht
    rw [vl_off hno] at h1; omega
  have loop : ∀ (f K k ρ : Nat) (Ts : Nat → Nat → Nat → Int) (bs : Nat → Nat → Nat) (ds : Nat → Int) (ρs ls cs : Nat → Nat) (mta : Nat → Int64) (mba : Nat → Int32) (mdi : Int64), k ≤ 26 → 27 * 67108864 + 28 ≤ f + 27 * K + k → Hist (n + 4) 26 (RA n R tm) (fun v => v) (alR mib) 21 (-1) K Ts bs ds ρs ls cs → Ts K = UT mta → bs K = BB mba → ds K = mdi.toInt →
      RS n R cap tm mta mba mib mdi → ρ < n + 4 → BB mba ρ = 21 → (∀ v, v < k → alR mib v → (∀ s, s < n + 4 → BB mba s ≠ v) → UT mta ρ v ≤ 0) → p_X7_lowers_9 N (nI n) mib Q f (nI ρ) (nI k) mta mba mdi := by
    intro f
    induction f with
    | zero =>
      intro K k ρ Ts bs ds ρs ls cs mta mba mdi hk hf H
      have := H.few idinj (Or.inr rfl)
      have e : (2 : Nat) ^ 26 = 67108864 := by decide
      omega
    | succ f ih =>
      intro K k ρ Ts bs ds ρs ls cs mta mba mdi hk hf H eT eb ed hS hρ hg hno
      have hfew := H.few idinj (Or.inr rfl)
      have e2 : (2 : Nat) ^ 26 = 67108864 := by decide
      obtain ⟨hb, hT, hF, hba, hal⟩ := id hS
      unfold p_X7_lowers_9
      rw [e26]
      refine ⟨fun q => ?_, fun q => ?_⟩
      · have := (nI_leI (by omega) (by omega)).mp q
        have ek : k = 26 := by omega
        subst ek
        exact hQ mta mba mdi ρ hS hρ hg hno
      · have hk26 : k < 26 := by
          rcases Nat.lt_or_ge k 26 with h' | h'
          · exact h'
          · exact absurd (nI_le h' (by omega)) q
        rw [nI_clamp (show k < 2 ^ 31 by omega), ix27]
        have skip : (alR mib k → (∀ s, s < n + 4 → BB mba s ≠ k) → UT mta ρ k ≤ 0) → ∀ x : Int32, x = nI k + 1 → p_X7_lowers_9 N (nI n) mib Q f (nI ρ) x mta mba mdi := fun hk' x ex => by
          rw [ex, nI_1]
          refine ih K (k + 1) ρ Ts bs ds ρs ls cs mta mba mdi (by omega) (by omega) H eT eb ed hS hρ hg (fun v hv hva hvb => ?_)
          by_cases e : v = k
          · subst e; exact hk' hva hvb
          · exact hno v (by omega) hva hvb
        refine ⟨vp_in_nI (by omega) (by decide), fun hca => ?_, fun hca => skip (fun q => absurd q hca)⟩
        refine r_rowOf (by omega) hn (by omega) hb hS.inj (fun hnb => ⟨fun q => absurd q (by decide), fun _ => ⟨in297 (by omega) (by omega), ?_⟩⟩) (fun r hr er => ⟨fun _ => skip (fun _ hvb => absurd er (hvb r hr)), fun q => absurd (nI_nneg (by omega)) q⟩)
        rw [nI_clamp (show 27 * ρ + k < 2 ^ 31 by omega)]
        refine ⟨fun hle => skip (fun _ _ => i64_le0.mp hle), fun hgt => ?_⟩
        have hcp : 0 < UT mta ρ k := by
          have : ¬ (mta (27 * ρ + k)).toInt ≤ 0 := fun q => hgt (i64_le0.mpr q)
          unfold UT; omega
        refine r_enter (by omega) hn hR0 hR ht hS hk26 hca hnb (fun l mta' mba' mdi' hl hlp hr hP hS' => ?_)
        -- the greatest load stays
        have hlρ : l ≠ ρ := fun e => by
          subst e
          refine has21 hS' (fun r hr' e3 => ?_)
          rw [hP.2.1 r hr'] at e3
          by_cases e4 : r = l
          · rw [if_pos e4] at e3
            exact hnb l hl (by rw [hg, e3])
          · rw [if_neg e4] at e3
            exact e4 (hS.inj r l hr' hl (by rw [e3, hg]))
        have hB : BSt (n + 4) 26 (fun v => v) (alR mib) 21 (-1) (UT mta) (BB mba) mdi.toInt (UT mta') (BB mba') mdi'.toInt ρ l k := by
          refine ⟨hρ, hg, hl, hlρ, hk26, hca, hnb, by omega, fun v hv hva hvb hvp => ?_, hlp, fun r hr' hp' => hr r hr' hp', hP⟩
          rcases Nat.lt_or_ge v k with q | q
          · have := hno v q hva hvb; omega
          · exact q
        obtain ⟨Ts', bs', ds', ρs', ls', cs', H', f1, f2, f3⟩ := H.snoc hS'.2.1 hS'.2.2.1 (by rw [eT, eb, ed]; exact hB)
        rw [e21]
        refine r_rowOf (by omega) hn (by omega) hS'.1 hS'.inj (fun hno' => absurd hno' (has21 hS')) (fun r hr' er => ?_)
        rw [← nI_0]
        exact ih (K + 1) 0 r Ts' bs' ds' ρs' ls' cs' mta' mba' mdi' (by omega) (by omega) H' f1 f2 f3 hS' hr' er (fun v hv => absurd hv (by omega))
  unfold p_X7_lowers
  rw [e21]
  refine r_rowOf (by omega) hn (by omega) h.1 h.inj (fun hno => absurd hno (has21 h)) (fun ρ hρ hg => ?_)
  rw [← nI_0]
  exact loop N 0 0 ρ _ _ _ _ _ _ mta mba mdi (by omega) (by omega) (Hist.start h.2.1 h.2.2.1) rfl rfl rfl h hρ hg (fun v hv => absurd hv (by omega))
