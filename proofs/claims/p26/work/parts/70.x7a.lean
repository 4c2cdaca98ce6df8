/-! the reference's table: 27 to a row -/
def UT (mta : Nat → Int64) : Nat → Nat → Int := fun r c => (mta (27 * r + c)).toInt
theorem UT_at {mta : Nat → Int64} {r c : Nat} {x : Int64} : UT (vp_updL mta (27 * r + c) x) r c = x.toInt := by unfold UT; rw [pk_uLs]
theorem UT_ne {mta : Nat → Int64} {r c a b : Nat} {x : Int64} (hb : b < 27) (hc : c < 27) (h : ¬ (a = r ∧ b = c)) : UT (vp_updL mta (27 * r + c) x) a b = UT mta a b := by unfold UT; rw [pk_uLn (by omega)]
theorem ix27 {r c : Nat} : (27 : Int32) * nI r + nI c = nI (27 * r + c) := by rw [show (27 : Int32) = nI 27 from by decide, pk_mul, nI_add]
theorem in297 {r c : Nat} (hr : r < 11) (hc : c < 27) : vp_in (nI (27 * r + c)) 297 := vp_in_nI (by omega) (by decide)
theorem rows_eq {n : Nat} : (nI n + (3 : Int32)) + (1 : Int32) = nI (n + 4) := by rw [show (3 : Int32) = nI 3 from by decide, show (1 : Int32) = nI 1 from by decide, nI_add, nI_add]
/-- the basis: variables, each below 26 -/
def BOk2 (m : Nat) (mba : Nat → Int32) : Prop := ∀ r, r < m → ∃ v, v < 26 ∧ mba r = nI v
theorem BOk2.eq {m : Nat} {tba : Nat → Int32} (h : BOk2 m tba) {r : Nat} (hr : r < m) : tba r = nI (BB tba r) ∧ BB tba r < 26 := by
  obtain ⟨v, hv, e⟩ := h r hr
  have := BB_nI e (by omega)
  rw [this]; exact ⟨e, hv⟩
theorem BOk2.eq_iff {m : Nat} {tba : Nat → Int32} (h : BOk2 m tba) {r v : Nat} (hr : r < m) (hv : v < 2 ^ 31) : tba r = nI v ↔ BB tba r = v := by
  obtain ⟨e, hb⟩ := h.eq hr
  constructor
  · intro h1; rw [h1] at e; exact (nI_inj hv (by omega) e).symm
  · intro h1; rw [e, h1]
theorem BOk2.le_iff {m : Nat} {tba : Nat → Int32} (h : BOk2 m tba) {r s : Nat} (hr : r < m) (hs : s < m) : tba r ≤ tba s ↔ BB tba r ≤ BB tba s := by
  obtain ⟨e, hb⟩ := h.eq hr
  obtain ⟨e2, hb2⟩ := h.eq hs
  rw [e, e2]
  exact nI_leI (by omega) (by omega)
/-- what the search for the leaving row finds -/
def LR2 (mta : Nat → Int64) (mba : Nat → Int32) (c k : Nat) (x : Int32) : Prop :=
  (x = -1 ∧ ∀ r, r < k → ¬ 0 < UT mta r c) ∨ (∃ l, l < k ∧ x = nI l ∧ 0 < UT mta l c ∧ ∀ r, r < k → 0 < UT mta r c → UT mta l 26 * UT mta r c < UT mta r 26 * UT mta l c ∨ (UT mta l 26 * UT mta r c = UT mta r 26 * UT mta l c ∧ BB mba l ≤ BB mba r))
theorem nI_nneg {k : Nat} (h : k < 2 ^ 31) : (0 : Int32) ≤ nI k := nI_pos' h
theorem m1_neg : ((-1 : Int32) < 0) := by decide