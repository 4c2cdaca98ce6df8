/-! the reference's calls that search or divide -/
section
variable {N n : Nat} {ti mow : Nat → Int32} {g : Nat → Nat} {x1 x2 x3 : Int32} {mth : Int32} {mpl mbs mlo mro : Nat → Int32} {mta : Nat → Int64} {mba mib : Nat → Int32} {mdi : Int64} {mab mbe : Nat → Int64}
theorem t_shortest {Q : Int32 → (Nat → Int32) → (Nat → Int32) → (Nat → Int32) → Int32 → Prop} (hN : 2000000000 ≤ N) (hG : Good n ti g) (q : ∀ mpl mbs mlo, Q (nI (bP n ti).2) mpl mbs mlo 0) : p_X7_shortest N ti (nI n) Q mpl mbs mlo mth := by
  unfold p_X7_shortest
  refine r_shortestOf (by omega) hG.1 ⟨g, hG.2⟩ (fun mpl mbs mlo L f hB _ _ => ?_)
  rw [(bP_of hB).1]
  exact q mpl mbs mlo
theorem t_byTrying {Q : Int32 → (Nat → Int32) → (Nat → Int32) → (Nat → Int32) → Int32 → Prop} (hN : 2000000000 ≤ N) (hG : Good n ti g) (q : ∀ mpl mbs mlo, Q (nI (bP n ti).2) mpl mbs mlo 0) : p_X7_shortestByTrying N ti (nI n) Q mpl mbs mlo mth := by
  unfold p_X7_shortestByTrying
  exact t_shortest hN hG q
theorem t_shortestMachine {Q : Int32 → (Nat → Int32) → (Nat → Int32) → (Nat → Int32) → Int32 → Prop} (hN : 2000000000 ≤ N) (hG : Good n ti g) (q : jOK n x1 → ∀ mpl mbs mlo, Q (nI ((bP n ti).1 (x1).toNatClampNeg)) mpl mbs mlo 0) (qx : ¬ jOK n x1 → Q 0 mpl mbs mlo 1) : p_X7_shortestMachine N ti (nI n) Q x1 mpl mbs mlo mth := by
  have hn := hG.1.1
  unfold p_X7_shortestMachine
  refine r_isJob hn (fun o1 => r_goes_ok ⟨fun h => absurd h n10, fun _ => r_shortestOf (by omega) hG.1 ⟨g, hG.2⟩ (fun mpl mbs mlo L f hB _ hb => ?_)⟩) (fun o => r_goes_1 ⟨fun _ => qx o, fun h => absurd rfl h⟩)
  obtain ⟨h1, e1⟩ := o1.at (by omega)
  have hq := q o1 mpl mbs mlo
  rw [hb _ h1, (bP_of hB).2 _ h1]
  refine ⟨?_, hq⟩
  rw [e1]; exact vp_in_nI (by omega) (by decide)
theorem t_bound {Q : Int32 → (Nat → Int64) → (Nat → Int32) → (Nat → Int32) → Int64 → Int32 → Prop} (hN : 2000000000 ≤ N) (hG : Good n ti g) (q : ∀ mta mba mib mdi, Q (nI (tB n ti)) mta mba mib mdi 0) : p_X7_bound N ti (nI n) Q mta mba mib mdi mth := by
  unfold p_X7_bound
  refine r_bound hN hG.1 hG.has (fun T mta mba mib mdi hB _ => ?_)
  rw [tB_of hB]
  exact q mta mba mib mdi
theorem t_leastNumerator {Q : Int32 → (Nat → Int64) → (Nat → Int32) → (Nat → Int32) → Int64 → Int32 → Prop} (hN : 2000000000 ≤ N) (hG : Good n ti g) (q : ∀ mta mba mib mdi, Q (fnum (lS n ti).1 (lS n ti).2) mta mba mib mdi 0) : p_X7_leastNumerator N ti (nI n) Q mta mba mib mdi mth := by
  unfold p_X7_leastNumerator
  refine r_least hN hG.1 hG.has (fun v d mta mba mib mdi hL => ?_)
  rw [if_neg n10, (lS_of hL).1]
  exact q mta mba mib mdi
theorem t_leastDenominator {Q : Int32 → (Nat → Int64) → (Nat → Int32) → (Nat → Int32) → Int64 → Int32 → Prop} (hN : 2000000000 ≤ N) (hG : Good n ti g) (q : ∀ mta mba mib mdi, Q (fden (lS n ti).1 (lS n ti).2) mta mba mib mdi 0) : p_X7_leastDenominator N ti (nI n) Q mta mba mib mdi mth := by
  unfold p_X7_leastDenominator
  refine r_least hN hG.1 hG.has (fun v d mta mba mib mdi hL => ?_)
  rw [if_pos rfl, (lS_of hL).2]
  exact q mta mba mib mdi
theorem t_numerator {Q : Int32 → (Nat → Int64) → (Nat → Int32) → (Nat → Int32) → Int64 → (Nat → Int64) → (Nat → Int64) → Int32 → Prop} (hN : 2000000000 ≤ N) (hG : Good n ti g) (q : jOK n x1 → jOK 3 x2 → ∀ mta mba mib mdi mab mbe, Q (nI ((sH n ti).1 (3 * (x1).toNatClampNeg + (x2).toNatClampNeg))) mta mba mib mdi mab mbe 0) (qx : ¬ (jOK n x1 ∧ jOK 3 x2) → Q 0 mta mba mib mdi mab mbe 1) : p_X7_numerator N ti (nI n) Q x1 x2 mta mba mib mdi mab mbe mth := by
  have hn := hG.1.1
  unfold p_X7_numerator
  refine r_isJob hn (fun o1 => ⟨fun h => absurd h n10, fun _ => r_isMachine (fun o2 => ⟨fun h => absurd h n10, fun _ => r_goes_ok ⟨fun h => absurd h n10, fun _ => r_divides hN hG.1 hG.has (fun mta mba mib mdi mab mbe num den hND hd => ?_)⟩⟩) (fun o => ⟨fun _ => r_goes_1 ⟨fun _ => qx (fun r => o r.2), fun h => absurd rfl h⟩, fun h => absurd rfl h⟩)⟩) (fun o => ⟨fun _ => r_goes_1 ⟨fun _ => qx (fun r => o r.1), fun h => absurd rfl h⟩, fun h => absurd rfl h⟩)
  obtain ⟨e, hl⟩ := jix3 hn o1 o2
  have hq := q o1 o2 mta mba mib mdi mab mbe
  rw [e, nI_clamp (show 3 * (x1).toNatClampNeg + (x2).toNatClampNeg < 2 ^ 31 by omega), (hd _ hl).1, lN_i, ((sH_of hND).2 _ hl).1]
  exact ⟨vp_in_nI (by omega) (by decide), hq⟩
theorem t_denominator {Q : Int32 → (Nat → Int64) → (Nat → Int32) → (Nat → Int32) → Int64 → (Nat → Int64) → (Nat → Int64) → Int32 → Prop} (hN : 2000000000 ≤ N) (hG : Good n ti g) (q : jOK n x1 → jOK 3 x2 → ∀ mta mba mib mdi mab mbe, Q (nI ((sH n ti).2 (3 * (x1).toNatClampNeg + (x2).toNatClampNeg))) mta mba mib mdi mab mbe 0) (qx : ¬ (jOK n x1 ∧ jOK 3 x2) → Q 0 mta mba mib mdi mab mbe 1) : p_X7_denominator N ti (nI n) Q x1 x2 mta mba mib mdi mab mbe mth := by
  have hn := hG.1.1
  unfold p_X7_denominator
  refine r_isJob hn (fun o1 => ⟨fun h => absurd h n10, fun _ => r_isMachine (fun o2 => ⟨fun h => absurd h n10, fun _ => r_goes_ok ⟨fun h => absurd h n10, fun _ => r_divides hN hG.1 hG.has (fun mta mba mib mdi mab mbe num den hND hd => ?_)⟩⟩) (fun o => ⟨fun _ => r_goes_1 ⟨fun _ => qx (fun r => o r.2), fun h => absurd rfl h⟩, fun h => absurd rfl h⟩)⟩) (fun o => ⟨fun _ => r_goes_1 ⟨fun _ => qx (fun r => o r.1), fun h => absurd rfl h⟩, fun h => absurd rfl h⟩)
  obtain ⟨e, hl⟩ := jix3 hn o1 o2
  have hq := q o1 o2 mta mba mib mdi mab mbe
  rw [e, nI_clamp (show 3 * (x1).toNatClampNeg + (x2).toNatClampNeg < 2 ^ 31 by omega), (hd _ hl).2, lN_i, ((sH_of hND).2 _ hl).2]
  exact ⟨vp_in_nI (by omega) (by decide), hq⟩
theorem t_isDivided {Q : Int32 → (Nat → Int64) → (Nat → Int32) → (Nat → Int32) → Int64 → (Nat → Int64) → (Nat → Int64) → Int32 → Prop} (hN : 2000000000 ≤ N) (hG : Good n ti g) (q : jOK n x1 → ∀ mta mba mib mdi mab mbe, Q (if wmN (sH n ti).1 (sH n ti).2 (x1).toNatClampNeg = 3 then 1 else 0) mta mba mib mdi mab mbe 0) (qx : ¬ jOK n x1 → Q 0 mta mba mib mdi mab mbe 1) : p_X7_isDivided N ti (nI n) Q x1 mta mba mib mdi mab mbe mth := by
  have hn := hG.1.1
  unfold p_X7_isDivided
  refine r_isJob hn (fun o1 => r_goes_ok ⟨fun h => absurd h n10, fun _ => r_divides hN hG.1 hG.has (fun mta mba mib mdi mab mbe num den hND hd => ?_)⟩) (fun o => r_goes_1 ⟨fun _ => qx o, fun h => absurd rfl h⟩)
  obtain ⟨h1, e1⟩ := o1.at (by omega)
  have hq := q o1 mta mba mib mdi mab mbe
  rw [← wmN_congr (n := n) h1 (sH_of hND).2] at hq
  have main : p_X7_whole N mab mbe (fun r_11 => (0 ≤ r_11 → (Q (0 : Int32) mta mba mib mdi mab mbe 0)) ∧ (¬ 0 ≤ r_11 → (Q (1 : Int32) mta mba mib mdi mab mbe 0))) (nI (x1).toNatClampNeg) := by
    refine r_whole (by omega) (hND.rp hn) hd h1 ?_
    by_cases e : wmN num den (x1).toNatClampNeg = 3
    · rw [if_pos e] at hq
      exact ⟨fun h => absurd h (wmI_neg e), fun _ => hq⟩
    · rw [if_neg e] at hq
      exact ⟨fun _ => hq, fun h => absurd (wmI_pos e).1 h⟩
  rw [← e1] at main
  exact main
theorem t_roundedMachine {Q : Int32 → (Nat → Int64) → (Nat → Int32) → (Nat → Int32) → Int64 → (Nat → Int64) → (Nat → Int64) → (Nat → Int32) → (Nat → Int32) → Int32 → Prop} (hN : 2000000000 ≤ N) (hG : Good n ti g) (q : jOK n x1 → ∀ mta mba mib mdi mab mbe mpl mro, Q (nI (rD n ti (x1).toNatClampNeg)) mta mba mib mdi mab mbe mpl mro 0) (qx : ¬ jOK n x1 → Q 0 mta mba mib mdi mab mbe mpl mro 1) : p_X7_roundedMachine N ti (nI n) Q x1 mta mba mib mdi mab mbe mpl mro mth := by
  have hn := hG.1.1
  unfold p_X7_roundedMachine
  refine r_isJob hn (fun o1 => r_goes_ok ⟨fun h => absurd h n10, fun _ => r_rounds hN hG.1 hG.has (fun mta mba mib mdi mab mbe mpl mro num den gr hND hRD hr => ?_)⟩) (fun o => r_goes_1 ⟨fun _ => qx o, fun h => absurd rfl h⟩)
  obtain ⟨h1, e1⟩ := o1.at (by omega)
  have hq := q o1 mta mba mib mdi mab mbe mpl mro
  rw [hr _ h1, (rD_of hND hRD).2 _ h1]
  refine ⟨?_, hq⟩
  rw [e1]; exact vp_in_nI (by omega) (by decide)
theorem rD_PL {num den gr : Nat → Nat} (hND : ND n (tmI ti) num den) (hRD : RD n num den gr) (hr : ∀ j, j < n → mro j = nI (gr j)) : PL n mro (rD n ti) := fun j hj => by
  obtain ⟨r1, r2⟩ := rD_of hND hRD
  rw [hr j hj, r2 j hj]
  exact ⟨rfl, (r1.1.1 j hj).1⟩
theorem t_roundedLength {Q : Int32 → (Nat → Int64) → (Nat → Int32) → (Nat → Int32) → Int64 → (Nat → Int64) → (Nat → Int64) → (Nat → Int32) → (Nat → Int32) → (Nat → Int32) → Int32 → Prop} (hN : 2000000000 ≤ N) (hG : Good n ti g) (q : ∀ mta mba mib mdi mab mbe mpl mro mlo, Q (nI (lenN n (tN ti) (rD n ti))) mta mba mib mdi mab mbe mpl mro mlo 0) : p_X7_roundedLength N ti (nI n) Q mta mba mib mdi mab mbe mpl mro mlo mth := by
  unfold p_X7_roundedLength
  exact r_rounds hN hG.1 hG.has (fun mta mba mib mdi mab mbe mpl mro num den gr hND hRD hr => measures_spec (by omega) hG.1 (rD_PL hND hRD hr) (fun mlo' _ => q mta mba mib mdi mab mbe mpl mro mlo'))
theorem t_excess {Q : UInt32 → (Nat → Int64) → (Nat → Int32) → (Nat → Int32) → Int64 → (Nat → Int64) → (Nat → Int64) → (Nat → Int32) → (Nat → Int32) → (Nat → Int32) → (Nat → Int32) → Int32 → Prop} (hN : 2000000000 ≤ N) (hG : Good n ti g) (q : ∀ r mta mba mib mdi mab mbe mpl mbs mro mlo, alike32 r (exV n ti) = true → Q r mta mba mib mdi mab mbe mpl mbs mro mlo 0) : p_X7_excess N ti (nI n) Q mta mba mib mdi mab mbe mpl mbs mro mlo mth := by
  have hn := hG.1.1
  unfold p_X7_excess
  refine r_rounds hN hG.1 hG.has (fun mta mba mib mdi mab mbe mpl mro num den gr hND hRD hr => measures_spec (by omega) hG.1 (rD_PL hND hRD hr) (fun mlo' _ => ⟨fun hz => q _ _ _ _ _ _ _ _ _ _ _ ?_, fun hnz => r_shortestOf (by omega) hG.1 ⟨g, hG.2⟩ (fun mpl mbs mlo L f hB _ _ => fun r hal => q _ _ _ _ _ _ _ _ _ _ _ ?_)⟩))
  · have hn0 : n = 0 := by rw [← nI_0] at hz; exact nI_inj (by omega) (by omega) hz
    unfold exV
    rw [if_pos hn0]
    decide +kernel
  · have hn0 : ¬ n = 0 := fun e => hnz (by rw [e, nI_0])
    unfold exV
    rw [if_neg hn0, ← (bP_of hB).1]
    exact hal
theorem t_takeRounded {Q : Int32 → (Nat → Int32) → (Nat → Int64) → (Nat → Int32) → (Nat → Int32) → Int64 → (Nat → Int64) → (Nat → Int64) → (Nat → Int32) → (Nat → Int32) → Int32 → Prop} (hN : 2000000000 ≤ N) (hG : Good n ti g) (hp : PL n mow g) (q : ∀ mow mta mba mib mdi mab mbe mpl mro, PL n mow (rD n ti) → Q (nI (tkN n g (rD n ti))) mow mta mba mib mdi mab mbe mpl mro 0) : p_X7_takeRounded N ti (nI n) Q mow mta mba mib mdi mab mbe mpl mro mth := by
  have hn := hG.1.1
  unfold p_X7_takeRounded
  refine r_rounds hN hG.1 hG.has (fun mta mba mib mdi mab mbe mpl mro num den gr hND hRD hr0 => ?_)
  have hr := rD_PL hND hRD hr0
  have loop : ∀ (f k : Nat) (mow' : Nat → Int32), k ≤ n → n < f + k → (∀ j, j < k → mow' j = nI (rD n ti j)) → (∀ j, k ≤ j → j < n → mow' j = nI (g j)) → p_X7_takeRounded_13 N ti (nI n) Q f (nI (tkN k g (rD n ti))) (nI k) mow' mta mba mib mdi mab mbe mpl mro 0 := by
    intro f
    induction f with
    | zero => intro k mow' h1 h2; omega
    | succ f ih =>
      intro k mow' h1 h2 ha hb
      unfold p_X7_takeRounded_13
      refine ⟨fun hle => ?_, fun hgt => ?_⟩
      · have := (nI_leI (by omega) (by omega)).mp hle
        have e : k = n := by omega
        subst e
        exact q _ _ _ _ _ _ _ _ _ (fun j hj => ⟨ha j hj, (hr j hj).2⟩)
      · have hk : k < n := by
          rcases Nat.lt_or_ge k n with h' | h'
          · exact h'
          · exact absurd (nI_le h' (by omega)) hgt
        have hkin : vp_in (nI k) 7 := vp_in_nI (by omega) (by decide)
        have hgk := (hG.2 k hk).1
        have hrk := (hr k hk).2
        have hs : tkN (k + 1) g (rD n ti) = tkN k g (rD n ti) + if g k = rD n ti k then 0 else 1 := rfl
        rw [nI_clamp (show k < 2 ^ 31 by omega), hb k (Nat.le_refl k) hk, (hr k hk).1]
        have next : ∀ (f7 : Int32), f7 = nI (rD n ti k) → p_X7_takeRounded_13 N ti (nI n) Q f (nI (tkN (k + 1) g (rD n ti))) (nI (k + 1)) (upd mow' k f7) mta mba mib mdi mab mbe mpl mro 0 := fun f7 e7 => ih (k + 1) _ (by omega) (by omega) (fun j hj => by
          by_cases ej : j = k
          · subst ej; rw [pk_us]; exact e7
          · rw [pk_un ej]; exact ha j (by omega)) (fun j h1 h2 => by rw [pk_un (by omega)]; exact hb j (by omega) h2)
        refine ⟨hkin, hkin, fun e x1 e1 => ⟨hkin, fun f7 e7 => ⟨hkin, fun x2 e2 => ?_⟩⟩, fun ne x1 e1 => ⟨hkin, fun f7 e7 => ⟨hkin, fun x2 e2 => ?_⟩⟩⟩
        · have e' := nI_inj (by omega) (by omega) e
          have := next f7 e7
          rw [hs, if_pos e'] at this
          rw [e1, e2, nI_1, ← nI_0, nI_add]
          exact this
        · have e' : ¬ g k = rD n ti k := fun q => ne (by rw [q])
          have := next f7 e7
          rw [hs, if_neg e'] at this
          rw [e1, e2, nI_1, nI_1]
          exact this
  have := loop N 0 mow (by omega) (by omega) (fun j hj => absurd hj (by omega)) (fun j _ hj => (hp j hj).1)
  have e0 : nI (tkN 0 g (rD n ti)) = 0 := nI_0
  rw [e0, nI_0] at this
  exact this
theorem t_improve {Q : Int32 → (Nat → Int32) → (Nat → Int32) → Int32 → Prop} (hN : 100 ≤ N) (hG : Good n ti g) (hp : PL n mow g) (q : ∀ mow mlo, PL n mow (app g (swA n (tN ti) g n).2) → Q (if (swA n (tN ti) g n).2 = 1000 then -1 else nI (lenN n (tN ti) (app g (swA n (tN ti) g n).2))) mow mlo 0) : p_X7_improve N ti (nI n) Q mow mlo mth := by
  refine r_improve hN hG.1 hp (fun e mow mlo hm => ?_) (fun e mow mlo hm => ?_)
  · have := q mow mlo (by unfold app; rw [if_pos e]; exact hm)
    rw [if_pos e] at this
    exact this
  · have := q mow mlo hm
    rw [if_neg e] at this
    exact this
end
/-! what the calls leave behind -/
section
variable {n : Nat} {ti : Nat → Int32} {g : Nat → Nat} {x1 x2 x3 : Int32}
theorem JI.tN_ti {c : Nat} (h : JI n ti) (hc : c < 3 * n) : (ti c = 0 ↔ tN ti c = 0) := by
  obtain ⟨h1, h2, -⟩ := tN_le h hc
  rw [h2]
  exact ⟨fun q => by rw [← nI_0] at q; exact nI_inj (by omega) (by omega) q, fun q => by rw [q, nI_0]⟩
theorem Good.assign (hG : Good n ti g) (o1 : jOK n x1) (o2 : jOK 3 x2) (ht : ti (3 * (x1).toNatClampNeg + (x2).toNatClampNeg) ≠ 0) : Good n ti (stp g (x1).toNatClampNeg (x2).toNatClampNeg) := by
  have hn := hG.1.1
  obtain ⟨h1, -⟩ := o1.at (by omega)
  obtain ⟨h2, -⟩ := o2.at (by omega)
  refine ⟨hG.1, fun j hj => ?_⟩
  show (if j = (x1).toNatClampNeg then (x2).toNatClampNeg else g j) < 3 ∧ 0 < tN ti (3 * j + if j = (x1).toNatClampNeg then (x2).toNatClampNeg else g j)
  by_cases e : j = (x1).toNatClampNeg
  · rw [if_pos e, e]
    refine ⟨h2, ?_⟩
    have := mt (hG.1.tN_ti (show 3 * (x1).toNatClampNeg + (x2).toNatClampNeg < 3 * n by omega)).mpr ht
    omega
  · rw [if_neg e]; exact hG.2 j hj
theorem tN_nI {ti : Nat → Int32} {c v : Nat} (h : ti c = nI v) (hv : v < 2 ^ 31) : tN ti c = v := by
  unfold tN tmI
  rw [h, nI_toInt hv]; rfl
theorem Good.setTime (hG : Good n ti g) (o1 : jOK n x1) (o2 : jOK 3 x2) (o3 : jOK 51 x3) (hne : ¬ (x3 = 0 ∧ nI (g (x1).toNatClampNeg) = x2)) : Good n (upd ti (3 * (x1).toNatClampNeg + (x2).toNatClampNeg) x3) g := by
  have hn := hG.1.1
  obtain ⟨h1, e1⟩ := o1.at (by omega)
  obtain ⟨h2, e2⟩ := o2.at (by omega)
  obtain ⟨v, hv, e3⟩ := o3
  refine ⟨⟨hn, fun c hc => ?_⟩, fun j hj => ?_⟩
  · by_cases e : c = 3 * (x1).toNatClampNeg + (x2).toNatClampNeg
    · rw [e, pk_us]; exact ⟨v, by omega, e3⟩
    · rw [pk_un e]; exact hG.1.2 c hc
  · obtain ⟨q1, q2⟩ := hG.2 j hj
    refine ⟨q1, ?_⟩
    by_cases e : 3 * j + g j = 3 * (x1).toNatClampNeg + (x2).toNatClampNeg
    · have ej : j = (x1).toNatClampNeg := by omega
      have eg : g j = (x2).toNatClampNeg := by omega
      rw [tN_nI (v := v) (by rw [e, pk_us, e3]) (by omega)]
      rcases Nat.eq_zero_or_pos v with r | r
      · exact absurd ⟨by rw [e3, r, nI_0], by rw [← ej, eg, ← e2]⟩ hne
      · exact r
    · have : tN (upd ti (3 * (x1).toNatClampNeg + (x2).toNatClampNeg) x3) (3 * j + g j) = tN ti (3 * j + g j) := by
        unfold tN tmI
        rw [pk_un e]
      rw [this]; exact q2
theorem Good.addJob (hG : Good n ti g) (o : tAll x1 x2 x3) (hn : n < 7) : Good (n + 1) (upJ ti n x1 x2 x3) (stp g n (lowm x1 x2)) := by
  obtain ⟨⟨v1, hv1, e1⟩, ⟨v2, hv2, e2⟩, ⟨v3, hv3, e3⟩, hnz⟩ := o
  obtain ⟨u0, u1, u2, uc⟩ := upJ_at (ti := ti) (n := n) (x1 := x1) (x2 := x2) (x3 := x3)
  have z : ∀ v, v < 51 → (nI v ≤ 0 ↔ v = 0) := fun v hv => by
    rw [← nI_0, nI_leI (by omega) (by omega)]; omega
  refine ⟨⟨by omega, fun c hc => ?_⟩, fun j hj => ?_⟩
  · by_cases q : c < 3 * n
    · rw [uc c q]; exact hG.1.2 c q
    · rcases (show c = 3 * n ∨ c = 3 * n + 1 ∨ c = 3 * n + 2 by omega) with e | e | e
      · rw [e, u0]; exact ⟨v1, by omega, e1⟩
      · rw [e, u1]; exact ⟨v2, by omega, e2⟩
      · rw [e, u2]; exact ⟨v3, by omega, e3⟩
  · show (if j = n then lowm x1 x2 else g j) < 3 ∧ 0 < tN (upJ ti n x1 x2 x3) (3 * j + if j = n then lowm x1 x2 else g j)
    by_cases e : j = n
    · rw [if_pos e, e]
      unfold lowm
      rw [e1, e2]
      by_cases p1 : nI v1 ≤ 0
      · rw [if_pos p1]
        have z1 := (z v1 hv1).mp p1
        by_cases p2 : nI v2 ≤ 0
        · rw [if_pos p2]
          have z2 := (z v2 hv2).mp p2
          refine ⟨by omega, ?_⟩
          have h := tN_nI (ti := upJ ti n x1 x2 x3) (c := 3 * n + 2) (v := v3) (by rw [u2, e3]) (by omega)
          rw [e1, e2] at h
          rw [h]
          rcases Nat.eq_zero_or_pos v3 with r | r
          · exact absurd ⟨by rw [e1, z1, nI_0], by rw [e2, z2, nI_0], by rw [e3, r, nI_0]⟩ hnz
          · exact r
        · rw [if_neg p2]
          refine ⟨by omega, ?_⟩
          have h := tN_nI (ti := upJ ti n x1 x2 x3) (c := 3 * n + 1) (v := v2) (by rw [u1, e2]) (by omega)
          rw [e1, e2] at h
          rw [h]
          have := mt (z v2 hv2).mpr p2
          omega
      · rw [if_neg p1]
        refine ⟨by omega, ?_⟩
        have h := tN_nI (ti := upJ ti n x1 x2 x3) (c := 3 * n + 0) (v := v1) (by rw [Nat.add_zero, u0, e1]) (by omega)
        rw [e1, e2] at h
        rw [h]
        have := mt (z v1 hv1).mpr p1
        omega
    · rw [if_neg e]
      obtain ⟨q1, q2⟩ := hG.2 j (by omega)
      refine ⟨q1, ?_⟩
      have : tN (upJ ti n x1 x2 x3) (3 * j + g j) = tN ti (3 * j + g j) := by
        unfold tN tmI
        rw [uc _ (by omega)]
      rw [this]; exact q2
theorem Good.removeLast (hG : Good n ti g) : Good (n - 1) ti g := ⟨⟨by have := hG.1.1; omega, fun c hc => hG.1.2 c (by omega)⟩, fun j hj => hG.2 j (by omega)⟩
theorem Good.rounded (hG : Good n ti g) {dnu dde rma : Nat → Int32} {dbo dln dld : Int32} (h : DInv n ti dnu dde dbo dln dld rma) : Good n ti (rD n ti) := ⟨hG.1, RD.feas hG.1 h.2.1 h.2.2.2.2.2.1⟩
theorem Good.improved (hG : Good n ti g) : Good n ti (app g (swA n (tN ti) g n).2) := ⟨hG.1, GF.feas hG (GF.sa hG.1 (Nat.le_refl n))⟩
end
