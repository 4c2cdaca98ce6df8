/-! the component's calls that rest on the division -/
theorem cI (x : Int32) (h : x.toNatClampNeg < 2 ^ 31) : (nI x.toNatClampNeg).toNatClampNeg = x.toNatClampNeg := nI_clamp h
def tkN (n : Nat) (g gr : Nat → Nat) : Nat := smn n (fun j => if g j = gr j then 0 else 1)
theorem tkN_le {n : Nat} {g gr : Nat → Nat} : tkN n g gr ≤ n * 1 := smn_const_le (fun j _ => by split <;> omega)
section
variable {N n : Nat} {ti oma : Nat → Int32} {g : Nat → Nat} {x1 x2 x3 : Int32} {QX : String → Prop} {ds : Int32} {dnu dde : Nat → Int32} {dbo dln dld : Int32} {tba tal : Nat → Int32} {tro : Int32} {tsc : Int64} {tcl : Nat → Nat → Int64} {rma : Nat → Int32}
section
variable {Q : Int32 → Int32 → (Nat → Int32) → (Nat → Int32) → Int32 → Int32 → Int32 → (Nat → Int32) → (Nat → Int32) → Int32 → Int64 → (Nat → Nat → Int64) → (Nat → Int32) → Prop}
theorem s_bound (hN : 600000 ≤ N) (hG : Good n ti g) (hD : ds ≠ 0 → DInv n ti dnu dde dbo dln dld rma) (q : ∀ ds dnu dde dbo dln dld tba tal tro tsc tcl rma, DInv n ti dnu dde dbo dln dld rma → Q (nI (tB n ti)) ds dnu dde dbo dln dld tba tal tro tsc tcl rma) : p_X6_bound N ti (nI n) Q ds dnu dde dbo dln dld tba tal tro tsc tcl rma := by
  unfold p_X6_bound
  refine refreshDivision_spec hN hG hD (fun ds dnu dde dbo dln dld tba tal tro tsc tcl rma h => ?_)
  have := q ds dnu dde dbo dln dld tba tal tro tsc tcl rma h
  rw [← h.1.1] at this
  exact this
theorem s_leastNumerator (hN : 600000 ≤ N) (hG : Good n ti g) (hD : ds ≠ 0 → DInv n ti dnu dde dbo dln dld rma) (q : ∀ ds dnu dde dbo dln dld tba tal tro tsc tcl rma, DInv n ti dnu dde dbo dln dld rma → Q (fnum (lS n ti).1 (lS n ti).2) ds dnu dde dbo dln dld tba tal tro tsc tcl rma) : p_X6_leastNumerator N ti (nI n) Q ds dnu dde dbo dln dld tba tal tro tsc tcl rma := by
  unfold p_X6_leastNumerator
  refine refreshDivision_spec hN hG hD (fun ds dnu dde dbo dln dld tba tal tro tsc tcl rma h => ?_)
  have := q ds dnu dde dbo dln dld tba tal tro tsc tcl rma h
  rw [← h.2.2.2.1] at this
  exact this
theorem s_leastDenominator (hN : 600000 ≤ N) (hG : Good n ti g) (hD : ds ≠ 0 → DInv n ti dnu dde dbo dln dld rma) (q : ∀ ds dnu dde dbo dln dld tba tal tro tsc tcl rma, DInv n ti dnu dde dbo dln dld rma → Q (fden (lS n ti).1 (lS n ti).2) ds dnu dde dbo dln dld tba tal tro tsc tcl rma) : p_X6_leastDenominator N ti (nI n) Q ds dnu dde dbo dln dld tba tal tro tsc tcl rma := by
  unfold p_X6_leastDenominator
  refine refreshDivision_spec hN hG hD (fun ds dnu dde dbo dln dld tba tal tro tsc tcl rma h => ?_)
  have := q ds dnu dde dbo dln dld tba tal tro tsc tcl rma h
  rw [← h.2.2.2.2.1] at this
  exact this
theorem s_numerator (hN : 600000 ≤ N) (hG : Good n ti g) (hD : ds ≠ 0 → DInv n ti dnu dde dbo dln dld rma) (q : jOK n x1 → jOK 3 x2 → ∀ ds dnu dde dbo dln dld tba tal tro tsc tcl rma, DInv n ti dnu dde dbo dln dld rma → Q (nI ((sH n ti).1 (3 * (x1).toNatClampNeg + (x2).toNatClampNeg))) ds dnu dde dbo dln dld tba tal tro tsc tcl rma) (qx : ¬ (jOK n x1 ∧ jOK 3 x2) → QX "java/lang/IndexOutOfBoundsException") : p_X6_numerator N ti (nI n) Q QX x1 x2 ds dnu dde dbo dln dld tba tal tro tsc tcl rma := by
  have hn := hG.1.1
  unfold p_X6_numerator
  refine requireJob_spec hn (fun o1 => requireMachine_spec (fun o2 => refreshDivision_spec hN hG hD (fun ds dnu dde dbo dln dld tba tal tro tsc tcl rma h => ?_)) (fun o => qx (fun r => o r.2))) (fun o => qx (fun r => o r.1))
  have hq := q o1 o2 ds dnu dde dbo dln dld tba tal tro tsc tcl rma h
  obtain ⟨h1, e1⟩ := o1.at (by omega)
  obtain ⟨h2, e2⟩ := o2.at (by omega)
  have eix : x1 * (3 : Int32) + x2 = nI (3 * (x1).toNatClampNeg + (x2).toNatClampNeg) := by
    have := share_ix (j := (x1).toNatClampNeg) (i := (x2).toNatClampNeg) (by omega) h2
    rw [← e1, ← e2] at this
    exact this
  rw [eix, nI_clamp (show 3 * (x1).toNatClampNeg + (x2).toNatClampNeg < 2 ^ 31 by omega), (h.2.2.1 _ (show 3 * (x1).toNatClampNeg + (x2).toNatClampNeg < 3 * n by omega)).1]
  exact ⟨vp_in_nI (by omega) (by decide), hq⟩
theorem s_denominator (hN : 600000 ≤ N) (hG : Good n ti g) (hD : ds ≠ 0 → DInv n ti dnu dde dbo dln dld rma) (q : jOK n x1 → jOK 3 x2 → ∀ ds dnu dde dbo dln dld tba tal tro tsc tcl rma, DInv n ti dnu dde dbo dln dld rma → Q (nI ((sH n ti).2 (3 * (x1).toNatClampNeg + (x2).toNatClampNeg))) ds dnu dde dbo dln dld tba tal tro tsc tcl rma) (qx : ¬ (jOK n x1 ∧ jOK 3 x2) → QX "java/lang/IndexOutOfBoundsException") : p_X6_denominator N ti (nI n) Q QX x1 x2 ds dnu dde dbo dln dld tba tal tro tsc tcl rma := by
  have hn := hG.1.1
  unfold p_X6_denominator
  refine requireJob_spec hn (fun o1 => requireMachine_spec (fun o2 => refreshDivision_spec hN hG hD (fun ds dnu dde dbo dln dld tba tal tro tsc tcl rma h => ?_)) (fun o => qx (fun r => o r.2))) (fun o => qx (fun r => o r.1))
  have hq := q o1 o2 ds dnu dde dbo dln dld tba tal tro tsc tcl rma h
  obtain ⟨h1, e1⟩ := o1.at (by omega)
  obtain ⟨h2, e2⟩ := o2.at (by omega)
  have eix : x1 * (3 : Int32) + x2 = nI (3 * (x1).toNatClampNeg + (x2).toNatClampNeg) := by
    have := share_ix (j := (x1).toNatClampNeg) (i := (x2).toNatClampNeg) (by omega) h2
    rw [← e1, ← e2] at this
    exact this
  rw [eix, nI_clamp (show 3 * (x1).toNatClampNeg + (x2).toNatClampNeg < 2 ^ 31 by omega), (h.2.2.1 _ (show 3 * (x1).toNatClampNeg + (x2).toNatClampNeg < 3 * n by omega)).2]
  exact ⟨vp_in_nI (by omega) (by decide), hq⟩
theorem s_isDivided (hN : 600000 ≤ N) (hG : Good n ti g) (hD : ds ≠ 0 → DInv n ti dnu dde dbo dln dld rma) (q : jOK n x1 → ∀ ds dnu dde dbo dln dld tba tal tro tsc tcl rma, DInv n ti dnu dde dbo dln dld rma → Q (if wmN (sH n ti).1 (sH n ti).2 (x1).toNatClampNeg = 3 then 1 else 0) ds dnu dde dbo dln dld tba tal tro tsc tcl rma) (qx : ¬ jOK n x1 → QX "java/lang/IndexOutOfBoundsException") : p_X6_isDivided N ti (nI n) Q QX x1 ds dnu dde dbo dln dld tba tal tro tsc tcl rma := by
  have hn := hG.1.1
  unfold p_X6_isDivided
  refine requireJob_spec hn (fun o1 => refreshDivision_spec hN hG hD (fun ds dnu dde dbo dln dld tba tal tro tsc tcl rma h => ?_)) qx
  have hq := q o1 ds dnu dde dbo dln dld tba tal tro tsc tcl rma h
  obtain ⟨h1, e1⟩ := o1.at (by omega)
  have main : p_X0_wholeMachine N dnu dde (fun r_13 => (r_13 = (-1 : Int32) → (Q (1 : Int32) ds dnu dde dbo dln dld tba tal tro tsc tcl rma)) ∧ (¬ r_13 = (-1 : Int32) → (Q (0 : Int32) ds dnu dde dbo dln dld tba tal tro tsc tcl rma))) (nI (x1).toNatClampNeg) := by
    refine wholeMachine_spec (by omega) (h.2.1.rp hn) h.2.2.1 h1 ?_
    have hw := wmN_le (num := (sH n ti).1) (den := (sH n ti).2) (j := (x1).toNatClampNeg)
    unfold wmI
    by_cases e : wmN (sH n ti).1 (sH n ti).2 (x1).toNatClampNeg = 3
    · rw [if_pos e]
      rw [if_pos e] at hq
      exact ⟨fun _ => hq, fun q => absurd rfl q⟩
    · rw [if_neg e]
      rw [if_neg e] at hq
      exact ⟨fun q => absurd q (nI_ne_m1 (by omega)), fun _ => hq⟩
  rw [← e1] at main
  exact main
theorem s_roundedMachine (hN : 600000 ≤ N) (hG : Good n ti g) (hD : ds ≠ 0 → DInv n ti dnu dde dbo dln dld rma) (q : jOK n x1 → ∀ ds dnu dde dbo dln dld tba tal tro tsc tcl rma, DInv n ti dnu dde dbo dln dld rma → Q (nI (rD n ti (x1).toNatClampNeg)) ds dnu dde dbo dln dld tba tal tro tsc tcl rma) (qx : ¬ jOK n x1 → QX "java/lang/IndexOutOfBoundsException") : p_X6_roundedMachine N ti (nI n) Q QX x1 ds dnu dde dbo dln dld tba tal tro tsc tcl rma := by
  have hn := hG.1.1
  unfold p_X6_roundedMachine
  refine requireJob_spec hn (fun o1 => refreshDivision_spec hN hG hD (fun ds dnu dde dbo dln dld tba tal tro tsc tcl rma h => ?_)) qx
  have hq := q o1 ds dnu dde dbo dln dld tba tal tro tsc tcl rma h
  obtain ⟨h1, e1⟩ := o1.at (by omega)
  rw [h.2.2.2.2.2.2 _ h1]
  refine ⟨?_, hq⟩
  rw [e1]; exact vp_in_nI (by omega) (by decide)
theorem DInv.PL (h : DInv n ti dnu dde dbo dln dld rma) : PL n rma (rD n ti) := fun j hj => ⟨h.2.2.2.2.2.2 j hj, (h.2.2.2.2.2.1.1.1 j hj).1⟩
theorem s_roundedLength (hN : 600000 ≤ N) (hG : Good n ti g) (hD : ds ≠ 0 → DInv n ti dnu dde dbo dln dld rma) (q : ∀ ds dnu dde dbo dln dld tba tal tro tsc tcl rma, DInv n ti dnu dde dbo dln dld rma → Q (nI (lenN n (tN ti) (rD n ti))) ds dnu dde dbo dln dld tba tal tro tsc tcl rma) : p_X6_roundedLength N ti (nI n) Q ds dnu dde dbo dln dld tba tal tro tsc tcl rma := by
  unfold p_X6_roundedLength
  exact refreshDivision_spec hN hG hD (fun ds dnu dde dbo dln dld tba tal tro tsc tcl rma h => greatestLoad_spec (by omega) hG.1 h.PL (q ds dnu dde dbo dln dld tba tal tro tsc tcl rma h))
end
theorem s_length {Q : Int32 → Prop} (hN : 100 ≤ N) (hG : Good n ti g) (hp : PL n oma g) (q : Q (nI (lenN n (tN ti) g))) : p_X6_length N ti (nI n) oma Q := by
  unfold p_X6_length
  exact greatestLoad_spec hN hG.1 hp q
theorem s_improve {Q : Int32 → (Nat → Int32) → Int32 → Int32 → Int32 → Int32 → Prop} {obr obj obo obm : Int32} (hN : 100 ≤ N) (hG : Good n ti g) (hp : PL n oma g) (q : ∀ oma obr obj obo obm, PL n oma (app g (swA n (tN ti) g n).2) → Q (if (swA n (tN ti) g n).2 = 1000 then -1 else nI (lenN n (tN ti) (app g (swA n (tN ti) g n).2))) oma obr obj obo obm) : p_X6_improve N ti (nI n) Q oma obr obj obo obm := by
  unfold p_X6_improve
  refine makeBestChange_spec hN hG.1 hp (fun e oma obr obj obo obm hm => ⟨fun _ => ?_, fun h => absurd rfl h⟩) (fun e oma obr obj obo obm hm => ⟨fun h => absurd h n10, fun _ => ?_⟩)
  · have := q oma obr obj obo obm (by unfold app; rw [if_pos e]; exact hm)
    rw [if_pos e] at this
    exact this
  · have := q oma obr obj obo obm hm
    rw [if_neg e] at this
    exact greatestLoad_spec hN hG.1 hm this
theorem s_takeRounded {Q : Int32 → Int32 → (Nat → Int32) → (Nat → Int32) → (Nat → Int32) → Int32 → Int32 → Int32 → (Nat → Int32) → (Nat → Int32) → Int32 → Int64 → (Nat → Nat → Int64) → (Nat → Int32) → Prop} (hN : 600000 ≤ N) (hG : Good n ti g) (hp : PL n oma g) (hD : ds ≠ 0 → DInv n ti dnu dde dbo dln dld rma) (q : ∀ ds oma dnu dde dbo dln dld tba tal tro tsc tcl rma, DInv n ti dnu dde dbo dln dld rma → PL n oma (rD n ti) → Q (nI (tkN n g (rD n ti))) ds oma dnu dde dbo dln dld tba tal tro tsc tcl rma) : p_X6_takeRounded N ti (nI n) Q ds oma dnu dde dbo dln dld tba tal tro tsc tcl rma := by
  have hn := hG.1.1
  unfold p_X6_takeRounded
  refine refreshDivision_spec hN hG hD (fun ds dnu dde dbo dln dld tba tal tro tsc tcl rma h => ?_)
  have hr := h.PL
  have loop : ∀ (f k : Nat) (oma' : Nat → Int32), k ≤ n → n < f + k → (∀ j, j < k → oma' j = nI (rD n ti j)) → (∀ j, k ≤ j → j < n → oma' j = nI (g j)) → p_X6_takeRounded_8 N ti (nI n) Q f (nI (tkN k g (rD n ti))) (nI k) ds oma' dnu dde dbo dln dld tba tal tro tsc tcl rma := by
    intro f
    induction f with
    | zero => intro k oma' h1 h2; omega
    | succ f ih =>
      intro k oma' h1 h2 ha hb
      have fin : k = n → Q (nI (tkN k g (rD n ti))) ds oma' dnu dde dbo dln dld tba tal tro tsc tcl rma := fun e => by
        subst e
        exact q _ _ _ _ _ _ _ _ _ _ _ _ _ h (fun j hj => ⟨ha j hj, (hr j hj).2⟩)
      unfold p_X6_takeRounded_8
      refine ⟨fun hle => ?_, fun hgt => ⟨fun h7 => ?_, fun _ => ?_⟩⟩
      · have := (nI_leI (by omega) (by omega)).mp hle
        exact fin (by omega)
      · have := (nI_leI (a := 7) (b := k) (by omega) (by omega)).mp (by rw [show nI 7 = (7 : Int32) from by decide]; exact h7)
        exact absurd (nI_le (show n ≤ k by omega) (by omega)) hgt
      · have hk : k < n := by
          rcases Nat.lt_or_ge k n with h' | h'
          · exact h'
          · exact absurd (nI_le h' (by omega)) hgt
        have hkin : vp_in (nI k) 7 := vp_in_nI (by omega) (by decide)
        have hgk := (hG.2 k hk).1
        have hrk := (hr k hk).2
        have hs : tkN (k + 1) g (rD n ti) = tkN k g (rD n ti) + if g k = rD n ti k then 0 else 1 := rfl
        rw [nI_clamp (show k < 2 ^ 31 by omega), hb k (Nat.le_refl k) hk, (hr k hk).1]
        refine ⟨hkin, hkin, fun e x ex => ?_, fun ne => ⟨hkin, fun f8 e8 => ⟨hkin, fun x1 e1 x2 e2 => ?_⟩⟩⟩
        · have e' := nI_inj (by omega) (by omega) e
          rw [ex, nI_1]
          have := ih (k + 1) oma' (by omega) (by omega) (fun j hj => by
            by_cases ej : j = k
            · subst ej; rw [hb j (Nat.le_refl j) hk, e']
            · exact ha j (by omega)) (fun j h1 h2 => hb j (by omega) h2)
          rw [hs, if_pos e', Nat.add_zero] at this
          exact this
        · have e' : ¬ g k = rD n ti k := fun q => ne (by rw [q])
          rw [e1, e2, nI_1, nI_1]
          have := ih (k + 1) (upd oma' k f8) (by omega) (by omega) (fun j hj => by
            by_cases ej : j = k
            · subst ej; rw [pk_us]; exact e8
            · rw [pk_un ej]; exact ha j (by omega)) (fun j h1 h2 => by rw [pk_un (by omega)]; exact hb j (by omega) h2)
          rw [hs, if_neg e'] at this
          exact this
  rw [← nI_0]
  exact loop N 0 oma (by omega) (by omega) (fun j hj => absurd hj (by omega)) (fun j _ hj => (hp j hj).1)
theorem lenN_pos (hG : Good n ti g) (hn0 : 0 < n) : 0 < lenN n (tN ti) g := by
  obtain ⟨h3, hp⟩ := hG.2 0 hn0
  have ld : tN ti (3 * 0 + g 0) ≤ ldN n (tN ti) g (g 0) := by
    have h1 : smn (0 + 1) (fun j => if g j = g 0 then tN ti (3 * j + g 0) else 0) ≤ smn n (fun j => if g j = g 0 then tN ti (3 * j + g 0) else 0) := smn_mono (by omega)
    have h2 : smn (0 + 1) (fun j => if g j = g 0 then tN ti (3 * j + g 0) else 0) = 0 + (if g 0 = g 0 then tN ti (3 * 0 + g 0) else 0) := rfl
    rw [h2, if_pos rfl] at h1
    unfold ldN
    omega
  unfold lenN
  rcases (show g 0 = 0 ∨ g 0 = 1 ∨ g 0 = 2 by omega) with e | e | e <;> rw [e] at ld hp <;> omega
/-- the excess, but for which NaN it may be -/
noncomputable def exV (n : Nat) (ti : Nat → Int32) : UInt32 := if n = 0 then FP.fconst1 else FP.fdiv (FP.i2f (nI (lenN n (tN ti) (rD n ti)))) (FP.i2f (nI (bP n ti).2))
theorem s_excess {Q : UInt32 → Int32 → Int32 → (Nat → Int32) → (Nat → Int32) → (Nat → Int32) → Int32 → (Nat → Int32) → (Nat → Int32) → Int32 → Int32 → Int32 → (Nat → Int32) → (Nat → Int32) → Int32 → Int64 → (Nat → Nat → Int64) → (Nat → Int32) → Prop} {ss pbl : Int32} {plo pch pbe : Nat → Int32} (hN : 600000 ≤ N) (hG : Good n ti g) (hS : ss ≠ 0 → SInv n ti pbl pbe) (hD : ds ≠ 0 → DInv n ti dnu dde dbo dln dld rma) (q : ∀ r ss ds plo pch pbe pbl dnu dde dbo dln dld tba tal tro tsc tcl rma, SInv n ti pbl pbe → DInv n ti dnu dde dbo dln dld rma → alike32 r (exV n ti) = true → Q r ss ds plo pch pbe pbl dnu dde dbo dln dld tba tal tro tsc tcl rma) : p_X6_excess N ti (nI n) Q ss ds plo pch pbe pbl dnu dde dbo dln dld tba tal tro tsc tcl rma := by
  unfold p_X6_excess
  refine refreshSearch_spec hN hG hS (fun ss plo pch pbe pbl h1 => refreshDivision_spec hN hG hD (fun ds dnu dde dbo dln dld tba tal tro tsc tcl rma h2 => ⟨fun hz => ?_, fun hnz => ?_⟩))
  · have hn0 : n = 0 := by
      rcases Nat.eq_zero_or_pos n with r | r
      · exact r
      · exfalso
        have hp := lenN_pos (g := (bP n ti).1) ⟨hG.1, h1.2.1.1⟩ r
        rw [h1.2.1.2.1] at hp
        rw [h1.2.2.1, ← nI_0] at hz
        have h350 := h1.1
        have := nI_inj (by omega) (by omega) hz
        omega
    refine q _ _ _ _ _ _ _ _ _ _ _ _ _ _ _ _ _ _ h1 h2 ?_
    unfold exV
    rw [if_pos hn0]
    decide +kernel
  · have hn0 : ¬ n = 0 := fun e => by
      apply hnz
      rw [h1.2.2.1, ← h1.2.1.2.1, e]
      have : lenN 0 (tN ti) (bP 0 ti).1 = 0 := rfl
      rw [this, nI_0]
    refine greatestLoad_spec (by omega) hG.1 h2.PL (fun r hr => q _ _ _ _ _ _ _ _ _ _ _ _ _ _ _ _ _ _ h1 h2 ?_)
    unfold exV
    rw [if_neg hn0, ← h1.2.2.1]
    exact hr
end
