/-! what the methods of the tableau do, said of whole numbers -/
def TT (tcl : Nat → Nat → Int64) : Nat → Nat → Int := fun r c => (tcl r c).toInt
def BB (tba : Nat → Int32) : Nat → Nat := fun r => (tba r).toNatClampNeg
theorem BB_nI {tba : Nat → Int32} {r v : Nat} (h : tba r = nI v) (hv : v < 2 ^ 31) : BB tba r = v := by unfold BB; rw [h, nI_clamp hv]
/-- the basis: variables, each below 25 -/
def BOk (m : Nat) (tba : Nat → Int32) : Prop := ∀ r, r < m → ∃ v, v < 25 ∧ tba r = nI v
theorem BOk.eq {m : Nat} {tba : Nat → Int32} (h : BOk m tba) {r : Nat} (hr : r < m) : tba r = nI (BB tba r) ∧ BB tba r < 25 := by
  obtain ⟨v, hv, e⟩ := h r hr
  have := BB_nI e (by omega)
  rw [this]; exact ⟨e, hv⟩
theorem BOk.eq_iff {m : Nat} {tba : Nat → Int32} (h : BOk m tba) {r v : Nat} (hr : r < m) (hv : v < 2 ^ 31) : tba r = nI v ↔ BB tba r = v := by
  obtain ⟨e, hb⟩ := h.eq hr
  constructor
  · intro h1; rw [h1] at e; exact (nI_inj hv (by omega) e).symm
  · intro h1; rw [e, h1]
theorem BOk.le_iff {m : Nat} {tba : Nat → Int32} (h : BOk m tba) {r s : Nat} (hr : r < m) (hs : s < m) : tba r ≤ tba s ↔ BB tba r ≤ BB tba s := by
  obtain ⟨e, hb⟩ := h.eq hr
  obtain ⟨e2, hb2⟩ := h.eq hs
  rw [e, e2]
  exact nI_leI (by omega) (by omega)
theorem c25 : ((25 : Int32)).toNatClampNeg = 25 := by decide
/-- the search for a variable's row -/
theorem rowOf_loop {N m : Nat} {tba : Nat → Int32} {Q : Int32 → Prop} {v : Nat} (hm : m ≤ 10) (hv : v < 2 ^ 31) (hb : BOk m tba) :
    ∀ (f k : Nat), k ≤ m → m < f + k → (∀ r, r < k → BB tba r ≠ v) → ((∀ r, r < m → BB tba r ≠ v) → Q (-1)) → (∀ r, r < m → BB tba r = v → Q (nI r)) → p_X5_rowOf_2 N tba (nI m) Q f (nI v) (nI k) := by
  intro f
  induction f with
  | zero => intro k h1 h2; omega
  | succ f ih =>
    intro k h1 h2 hn q1 q2
    unfold p_X5_rowOf_2
    refine ⟨fun hc => ?_, fun hc => ?_⟩
    · have := (nI_leI (by omega) (by omega)).mp hc
      rw [show k = m by omega] at hn
      exact q1 hn
    · have hk : k < m := by
        rcases Nat.lt_or_ge k m with h | h
        · exact h
        · exact absurd (nI_le h (by omega)) hc
      refine ⟨vp_in_nI (by omega) (by decide), ?_⟩
      rw [nI_clamp (by omega)]
      refine ⟨fun e => q2 k hk ((hb.eq_iff hk hv).mp e), fun e x ex => ?_⟩
      rw [ex, nI_1]
      refine ih (k + 1) (by omega) (by omega) (fun r hr => ?_) q1 q2
      by_cases e2 : r = k
      · subst e2; exact fun e3 => e ((hb.eq_iff hk hv).mpr e3)
      · exact hn r (by omega)
theorem rowOf_spec {N m : Nat} {tba : Nat → Int32} {Q : Int32 → Prop} {v : Nat} (hN : 100 ≤ N) (hm : m ≤ 10) (hv : v < 2 ^ 31) (hb : BOk m tba) (q1 : (∀ r, r < m → BB tba r ≠ v) → Q (-1)) (q2 : ∀ r, r < m → BB tba r = v → Q (nI r)) : p_X5_rowOf N tba (nI m) Q (nI v) := by
  unfold p_X5_rowOf
  rw [← nI_0]
  exact rowOf_loop hm hv hb N 0 (Nat.zero_le _) (by omega) (fun r hr => absurd hr (by omega)) q1 q2
/-- what the search for the leaving row finds -/
def LR (m : Nat) (tcl : Nat → Nat → Int64) (tba : Nat → Int32) (c k : Nat) (x : Int32) : Prop :=
  (x = -1 ∧ ∀ r, r < k → ¬ 0 < TT tcl r c) ∨ (∃ l, l < k ∧ x = nI l ∧ 0 < TT tcl l c ∧ ∀ r, r < k → 0 < TT tcl r c → TT tcl l 25 * TT tcl r c < TT tcl r 25 * TT tcl l c ∨ (TT tcl l 25 * TT tcl r c = TT tcl r 25 * TT tcl l c ∧ BB tba r ≤ BB tba l))
theorem leavingRow_loop {N m : Nat} {tba : Nat → Int32} {tcl : Nat → Nat → Int64} {Q : Int32 → Prop} {c : Nat} (hm : m ≤ 10) (hc : c < 25) (hb : BOk m tba)
    (hB : ∀ r, r < m → (TT tcl r c).natAbs ≤ 27000000) (hR : ∀ r, r < m → (TT tcl r 25).natAbs ≤ 27000000000) :
    ∀ (f k : Nat) (x2 : Int32), k ≤ m → m < f + k → LR m tcl tba c k x2 → (∀ x2, LR m tcl tba c m x2 → Q x2) → p_X5_leavingRow_4 N tba (nI m) tcl Q f (nI c) x2 (nI k) := by
  intro f
  induction f with
  | zero => intro k x2 h1 h2; omega
  | succ f ih =>
    intro k x2 h1 h2 hL hQ
    unfold p_X5_leavingRow_4
    refine ⟨fun h => ?_, fun h => ?_⟩
    · have := (nI_leI (by omega) (by omega)).mp h
      rw [show k = m by omega] at hL
      exact hQ _ hL
    · have hk : k < m := by
        rcases Nat.lt_or_ge k m with h' | h'
        · exact h'
        · exact absurd (nI_le h' (by omega)) h
      have hkin : vp_in (nI k) 10 := vp_in_nI (by omega) (by decide)
      have hcin : vp_in (nI c) 26 := vp_in_nI (by omega) (by decide)
      rw [nI_clamp (show k < 2 ^ 31 by omega), nI_clamp (show c < 2 ^ 31 by omega), c25]
      refine ⟨hkin, hcin, fun h0 x ex => ?_, fun h0 => ?_⟩
      · rw [ex, nI_1]
        refine ih (k + 1) x2 (by omega) (by omega) ?_ hQ
        have h0' : ¬ 0 < TT tcl k c := by have := i64_le0.mp h0; unfold TT; omega
        rcases hL with ⟨e, hn⟩ | ⟨l, hl, e, hp, hr⟩
        · refine Or.inl ⟨e, fun r hr => ?_⟩
          by_cases e2 : r = k
          · rw [e2]; exact h0'
          · exact hn r (by omega)
        · refine Or.inr ⟨l, by omega, e, hp, fun r hr' hpos => ?_⟩
          by_cases e2 : r = k
          · rw [e2] at hpos; exact absurd hpos h0'
          · exact hr r (by omega) hpos
      · have h0' : 0 < TT tcl k c := by
          have : ¬ (tcl k c).toInt ≤ 0 := fun q => h0 (i64_le0.mpr q)
          unfold TT; omega
        refine ⟨fun e x ex => ?_, fun e => ?_⟩
        · rw [ex, nI_1]
          refine ih (k + 1) (nI k) (by omega) (by omega) ?_ hQ
          rcases hL with ⟨-, hn⟩ | ⟨l, hl, e', -⟩
          · refine Or.inr ⟨k, by omega, rfl, h0', fun r hr hpos => ?_⟩
            by_cases e2 : r = k
            · rw [e2]; exact Or.inr ⟨rfl, Nat.le_refl _⟩
            · exact absurd hpos (hn r (by omega))
          · rw [e'] at e; exact absurd e (nI_ne_m1 (by omega))
        · rcases hL with ⟨e', -⟩ | ⟨l, hl, e', hp, hr⟩
          · exact absurd e' e
          subst e'
          have hlin : vp_in (nI l) 10 := vp_in_nI (by omega) (by decide)
          rw [nI_clamp (show l < 2 ^ 31 by omega)]
          refine ⟨hkin, hlin, hcin, fun x4 ex4 => ⟨hlin, hkin, hcin, fun x6 ex6 => ?_⟩⟩
          have b1 := nam (hR k hk) (hB l (by omega))
          have b2 := nam (hR l (by omega)) (hB k hk)
          have v4 : x4.toInt = TT tcl k 25 * TT tcl l c := by
            rw [ex4]; exact i64_mul (Nat.lt_of_le_of_lt b1 (by decide))
          have v6 : x6.toInt = TT tcl l 25 * TT tcl k c := by
            rw [ex6]; exact i64_mul (Nat.lt_of_le_of_lt b2 (by decide))
          have hle : ∀ r, r < k → 0 < TT tcl r c → TT tcl l 25 * TT tcl r c ≤ TT tcl r 25 * TT tcl l c := fun r hr' hpos => by
            rcases hr r hr' hpos with q | ⟨q, -⟩ <;> omega
          refine ⟨fun hlt x ex => ?_, fun hnlt => ⟨fun heq => ⟨hkin, hlin, fun hbb x ex => ?_, fun hbb x ex => ?_⟩, fun hne x ex => ?_⟩⟩
          · rw [ex, nI_1]
            refine ih (k + 1) (nI k) (by omega) (by omega) (Or.inr ⟨k, by omega, rfl, h0', fun r hr' hpos => ?_⟩) hQ
            by_cases e2 : r = k
            · rw [e2]; exact Or.inr ⟨rfl, Nat.le_refl _⟩
            · have h3 := Int64.lt_iff_toInt_lt.mp hlt
              rw [v4, v6] at h3
              exact Or.inl (cross_lt h0' hp hpos h3 (hle r (by omega) hpos))
          · rw [ex, nI_1]
            refine ih (k + 1) (nI l) (by omega) (by omega) (Or.inr ⟨l, by omega, rfl, hp, fun r hr' hpos => ?_⟩) hQ
            by_cases e2 : r = k
            · rw [e2]
              have h3 := congrArg Int64.toInt heq
              rw [v4, v6] at h3
              exact Or.inr ⟨h3.symm, (hb.le_iff hk (by omega)).mp hbb⟩
            · exact hr r (by omega) hpos
          · rw [ex, nI_1]
            refine ih (k + 1) (nI k) (by omega) (by omega) (Or.inr ⟨k, by omega, rfl, h0', fun r hr' hpos => ?_⟩) hQ
            by_cases e2 : r = k
            · rw [e2]; exact Or.inr ⟨rfl, Nat.le_refl _⟩
            · have h3 := congrArg Int64.toInt heq
              rw [v4, v6] at h3
              have hbb' : ¬ BB tba k ≤ BB tba l := fun q => hbb ((hb.le_iff hk (by omega)).mpr q)
              rcases hr r (by omega) hpos with q | ⟨q, q2⟩
              · exact Or.inl (cross_lt2 h0' hp hpos (Int.le_of_eq h3) q)
              · exact Or.inr ⟨cross_eq (by omega) h3 q, by omega⟩
          · rw [ex, nI_1]
            refine ih (k + 1) (nI l) (by omega) (by omega) (Or.inr ⟨l, by omega, rfl, hp, fun r hr' hpos => ?_⟩) hQ
            by_cases e2 : r = k
            · rw [e2]
              have h3 : ¬ x4.toInt < x6.toInt := fun q => hnlt (Int64.lt_iff_toInt_lt.mpr q)
              have h4 : ¬ x4.toInt = x6.toInt := fun q => hne (Int64.toInt_inj.mp q)
              rw [v4, v6] at h3 h4
              exact Or.inl (by omega)
            · exact hr r (by omega) hpos
theorem leavingRow_spec {N m : Nat} {tba : Nat → Int32} {tcl : Nat → Nat → Int64} {Q : Int32 → Prop} {c : Nat} (hN : 100 ≤ N) (hm : m ≤ 10) (hc : c < 25) (hb : BOk m tba)
    (hB : ∀ r, r < m → (TT tcl r c).natAbs ≤ 27000000) (hR : ∀ r, r < m → (TT tcl r 25).natAbs ≤ 27000000000) (hQ : ∀ x2, LR m tcl tba c m x2 → Q x2) : p_X5_leavingRow N tba (nI m) tcl Q (nI c) := by
  unfold p_X5_leavingRow
  rw [← nI_0]
  exact leavingRow_loop hm hc hb hB hR N 0 (-1) (Nat.zero_le _) (by omega) (Or.inl ⟨rfl, fun r hr => absurd hr (by omega)⟩) hQ
