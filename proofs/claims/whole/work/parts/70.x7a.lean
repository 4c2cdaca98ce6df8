/-! the reference's table: 27 to a row -/
def UT (mta : Nat → Int64) : Nat → Nat → Int := fun r c => (mta (27 * r + c)).toInt
theorem UT_at {mta : Nat → Int64} {r c : Nat} {x : Int64} : UT (vp_updL mta (27 * r + c) x) r c = x.toInt := by unfold UT; rw [pk_uLs]
theorem UT_ne {mta : Nat → Int64} {r c a b : Nat} {x : Int64} (hb : b < 27) (hc : c < 27) (h : ¬ (a = r ∧ b = c)) : UT (vp_updL mta (27 * r + c) x) a b = UT mta a b := by unfold UT; rw [pk_uLn (by omega)]
theorem ix27 {r c : Nat} : (27 : Int32) * nI r + nI c = nI (27 * r + c) := by rw [show (27 : Int32) = nI 27 from by decide, pk_mul, nI_add]
theorem in297 {r c : Nat} (hr : r < 11) (hc : c < 27) : vp_in (nI (27 * r + c)) 297 := vp_in_nI (by omega) (by decide)
theorem rows_eq {n : Nat} : (nI n + (3 : Int32)) + (1 : Int32) = nI (n + 4) := by rw [show (3 : Int32) = nI 3 from by decide, show (1 : Int32) = nI 1 from by decide, nI_add, nI_add]
/-- the basis: variables, each below 26 -/
def BOk2 (m : Nat) (mba : Nat → Int32) : Prop := ∀ r, r < m → ∃ v, v < 26 ∧ mba r = nI v
theorem BOk2.eq {m : Nat} {tba : Nat → Int32} (h : BOk2 m tba) {r : Nat} (hr : r < m) : tba r = nI (BB tba r) ∧ BB tba r < 26 := by
  obtain ⟨v, hv, e⟩ := h r hr
  have := BB_nI e (by omega)
  rw [this]; exact ⟨e, hv⟩
theorem BOk2.eq_iff {m : Nat} {tba : Nat → Int32} (h : BOk2 m tba) {r v : Nat} (hr : r < m) (hv : v < 2 ^ 31) : tba r = nI v ↔ BB tba r = v := by
  obtain ⟨e, hb⟩ := h.eq hr
  constructor
  · intro h1; rw [h1] at e; exact (nI_inj hv (by omega) e).symm
  · intro h1; rw [e, h1]
theorem BOk2.le_iff {m : Nat} {tba : Nat → Int32} (h : BOk2 m tba) {r s : Nat} (hr : r < m) (hs : s < m) : tba r ≤ tba s ↔ BB tba r ≤ BB tba s := by
  obtain ⟨e, hb⟩ := h.eq hr
  obtain ⟨e2, hb2⟩ := h.eq hs
  rw [e, e2]
  exact nI_leI (by omega) (by omega)
theorem r_rowOf {N n v : Nat} {mba : Nat → Int32} {Q : Int32 → Prop} (hN : 1000 ≤ N) (hn : n ≤ 7) (hv : v < 2 ^ 31) (hb : BOk2 (n + 4) mba) (hinj : ∀ r s, r < n + 4 → s < n + 4 → BB mba r = BB mba s → r = s)
    (q1 : (∀ r, r < n + 4 → BB mba r ≠ v) → Q (-1)) (q2 : ∀ r, r < n + 4 → BB mba r = v → Q (nI r)) : p_X7_rowOf N (nI n) mba Q (nI v) := by
  have loop : ∀ (f k : Nat) (x2 : Int32), k ≤ n + 4 → n + 4 < f + k → ((x2 = -1 ∧ ∀ r, r < k → BB mba r ≠ v) ∨ ∃ r, r < k ∧ BB mba r = v ∧ x2 = nI r) → p_X7_rowOf_4 N (nI n) mba Q f (nI v) x2 (nI k) := by
    intro f
    induction f with
    | zero => intro k x2 h1 h2; omega
    | succ f ih =>
      intro k x2 h1 h2 hx
      unfold p_X7_rowOf_4 p_X7_rows
      rw [rows_eq]
      refine ⟨fun h => ?_, fun h => ?_⟩
      · have := (nI_leI (by omega) (by omega)).mp h
        have e : k = n + 4 := by omega
        subst e
        rcases hx with ⟨e, hno⟩ | ⟨r, hr, hrv, e⟩
        · rw [e]; exact q1 hno
        · rw [e]; exact q2 r hr hrv
      · have hk : k < n + 4 := by
          rcases Nat.lt_or_ge k (n + 4) with h' | h'
          · exact h'
          · exact absurd (nI_le h' (by omega)) h
        refine ⟨vp_in_nI (by omega) (by decide), ?_⟩
        rw [nI_clamp (show k < 2 ^ 31 by omega)]
        refine ⟨fun e x ex => ?_, fun e x ex => ?_⟩
        · rw [ex, nI_1]
          exact ih (k + 1) (nI k) (by omega) (by omega) (Or.inr ⟨k, by omega, (hb.eq_iff hk hv).mp e, rfl⟩)
        · rw [ex, nI_1]
          have e' : BB mba k ≠ v := fun q => e ((hb.eq_iff hk hv).mpr q)
          refine ih (k + 1) x2 (by omega) (by omega) ?_
          rcases hx with ⟨e2, hno⟩ | ⟨r, hr, hrv, e2⟩
          · refine Or.inl ⟨e2, fun r hr => ?_⟩
            by_cases q : r = k
            · rw [q]; exact e'
            · exact hno r (by omega)
          · exact Or.inr ⟨r, by omega, hrv, e2⟩
  unfold p_X7_rowOf
  rw [← nI_0]
  exact loop N 0 (-1) (by omega) (by omega) (Or.inl ⟨rfl, fun r hr => absurd hr (by omega)⟩)
/-- what the search for the leaving row finds -/
def LR2 (mta : Nat → Int64) (mba : Nat → Int32) (c k : Nat) (x : Int32) : Prop :=
  (x = -1 ∧ ∀ r, r < k → ¬ 0 < UT mta r c) ∨ (∃ l, l < k ∧ x = nI l ∧ 0 < UT mta l c ∧ ∀ r, r < k → 0 < UT mta r c → UT mta l 26 * UT mta r c < UT mta r 26 * UT mta l c ∨ (UT mta l 26 * UT mta r c = UT mta r 26 * UT mta l c ∧ BB mba l ≤ BB mba r))
theorem nI_nneg {k : Nat} (h : k < 2 ^ 31) : (0 : Int32) ≤ nI k := nI_pos' h
theorem m1_neg : ((-1 : Int32) < 0) := by decide
theorem r_leaving {N n c : Nat} {mta : Nat → Int64} {mba : Nat → Int32} {Q : Int32 → Prop} (hN : 1000 ≤ N) (hn : n ≤ 7) (hc : c < 26) (hb : BOk2 (n + 4) mba)
    (hB : ∀ r, r < n + 4 → (UT mta r c).natAbs ≤ 27000000) (hR : ∀ r, r < n + 4 → (UT mta r 26).natAbs ≤ 27000000000) (hQ : ∀ x, LR2 mta mba c (n + 4) x → Q x) : p_X7_leaving N (nI n) mta mba Q (nI c) := by
  have e26 : (26 : Int32) = nI 26 := by decide
  have loop : ∀ (f k : Nat) (x2 : Int32), k ≤ n + 4 → n + 4 < f + k → LR2 mta mba c k x2 → p_X7_leaving_4 N (nI n) mta mba Q f (nI c) x2 (nI k) := by
    intro f
    induction f with
    | zero => intro k x2 h1 h2; omega
    | succ f ih =>
      intro k x2 h1 h2 hL
      unfold p_X7_leaving_4 p_X7_rows
      rw [rows_eq]
      refine ⟨fun h => ?_, fun h => ?_⟩
      · have := (nI_leI (by omega) (by omega)).mp h
        have e : k = n + 4 := by omega
        subst e
        exact hQ _ hL
      · have hk : k < n + 4 := by
          rcases Nat.lt_or_ge k (n + 4) with h' | h'
          · exact h'
          · exact absurd (nI_le h' (by omega)) h
        rw [e26, ix27, ix27]
        refine ⟨in297 (by omega) (by omega), fun x4 e4 => ?_⟩
        rw [nI_clamp (show 27 * k + c < 2 ^ 31 by omega)] at e4
        have v4 : x4.toInt = UT mta k c := by rw [e4]; rfl
        refine ⟨fun h0 x ex => ?_, fun h0 => ?_⟩
        · rw [ex, nI_1]
          refine ih (k + 1) x2 (by omega) (by omega) ?_
          have h0' : ¬ 0 < UT mta k c := by have := i64_le0.mp h0; omega
          rcases hL with ⟨e, hno⟩ | ⟨l, hl, e, hp, hr⟩
          · refine Or.inl ⟨e, fun r hr => ?_⟩
            by_cases e2 : r = k
            · rw [e2]; exact h0'
            · exact hno r (by omega)
          · refine Or.inr ⟨l, by omega, e, hp, fun r hr' hpos => ?_⟩
            by_cases e2 : r = k
            · rw [e2] at hpos; exact absurd hpos h0'
            · exact hr r (by omega) hpos
        · have h0' : 0 < UT mta k c := by
            have : ¬ x4.toInt ≤ 0 := fun q => h0 (i64_le0.mpr q)
            omega
          have takek : LR2 mta mba c (k + 1) (nI k) → ∀ x : Int32, x = nI k + 1 → p_X7_leaving_4 N (nI n) mta mba Q f (nI c) (nI k) x := fun hL' x ex => by
            rw [ex, nI_1]; exact ih (k + 1) (nI k) (by omega) (by omega) hL'
          rcases hL with ⟨e, hno⟩ | ⟨l, hl, e, hp, hr⟩
          · subst e
            have hL' : LR2 mta mba c (k + 1) (nI k) := Or.inr ⟨k, by omega, rfl, h0', fun r hr hpos => by
              by_cases e2 : r = k
              · rw [e2]; exact Or.inr ⟨rfl, Nat.le_refl _⟩
              · exact absurd hpos (hno r (by omega))⟩
            refine ⟨fun q => absurd q (by decide), fun _ => ⟨fun q => absurd q (by decide), fun _ => ?_⟩⟩
            unfold p_X7_leaving_89
            exact ⟨fun _ => takek hL', fun q => absurd m1_neg q⟩
          · subst e
            have hge : (0 : Int32) ≤ nI l := nI_nneg (by omega)
            rw [ix27, ix27]
            refine ⟨fun _ => ⟨in297 (by omega) (by omega), in297 (by omega) (by omega), fun x6 e6 => ⟨fun _ => ⟨in297 (by omega) (by omega), ?_⟩, fun q => absurd hge q⟩⟩, fun q => absurd hge q⟩
            rw [nI_clamp (show 27 * k + 26 < 2 ^ 31 by omega), nI_clamp (show 27 * l + c < 2 ^ 31 by omega)] at e6
            rw [nI_clamp (show 27 * l + 26 < 2 ^ 31 by omega)]
            have b1 := nam (hR k hk) (hB l (by omega))
            have b2 := nam (hR l (by omega)) (hB k hk)
            have v6 : x6.toInt = UT mta k 26 * UT mta l c := by
              rw [e6]; exact i64_mul (Nat.lt_of_le_of_lt b1 (by decide))
            have vs : (mta (27 * l + 26) * x4).toInt = UT mta l 26 * UT mta k c := by
              rw [e4]; exact i64_mul (Nat.lt_of_le_of_lt b2 (by decide))
            have hle : ∀ r, r < k → 0 < UT mta r c → UT mta l 26 * UT mta r c ≤ UT mta r 26 * UT mta l c := fun r hr' hpos => by
              rcases hr r hr' hpos with q | ⟨q, -⟩ <;> omega
            have keep : LR2 mta mba c (k + 1) (nI l) → ∀ x : Int32, x = nI k + 1 → p_X7_leaving_4 N (nI n) mta mba Q f (nI c) (nI l) x := fun hL' x ex => by
              rw [ex, nI_1]; exact ih (k + 1) (nI l) (by omega) (by omega) hL'
            unfold p_X7_leaving_89
            rw [nI_clamp (show k < 2 ^ 31 by omega), nI_clamp (show l < 2 ^ 31 by omega)]
            refine ⟨fun q => absurd q (nI_pos (by omega)), fun _ => ⟨fun hlt => takek ?_, fun hnlt => ⟨fun heq => ⟨vp_in_nI (by omega) (by decide), vp_in_nI (by omega) (by decide), fun hbb => keep ?_, fun hbb => takek ?_⟩, fun hne => keep ?_⟩⟩⟩
            · refine Or.inr ⟨k, by omega, rfl, h0', fun r hr' hpos => ?_⟩
              by_cases e2 : r = k
              · rw [e2]; exact Or.inr ⟨rfl, Nat.le_refl _⟩
              · have h3 := Int64.lt_iff_toInt_lt.mp hlt
                rw [v6, vs] at h3
                exact Or.inl (cross_lt h0' hp hpos h3 (hle r (by omega) hpos))
            · refine Or.inr ⟨l, by omega, rfl, hp, fun r hr' hpos => ?_⟩
              by_cases e2 : r = k
              · rw [e2]
                have h3 := congrArg Int64.toInt heq
                rw [v6, vs] at h3
                exact Or.inr ⟨h3.symm, (hb.le_iff (by omega) hk).mp hbb⟩
              · exact hr r (by omega) hpos
            · refine Or.inr ⟨k, by omega, rfl, h0', fun r hr' hpos => ?_⟩
              by_cases e2 : r = k
              · rw [e2]; exact Or.inr ⟨rfl, Nat.le_refl _⟩
              · have h3 := congrArg Int64.toInt heq
                rw [v6, vs] at h3
                have hbb' : ¬ BB mba l ≤ BB mba k := fun q => hbb ((hb.le_iff (by omega) hk).mpr q)
                rcases hr r (by omega) hpos with q | ⟨q, q2⟩
                · exact Or.inl (cross_lt2 h0' hp hpos (Int.le_of_eq h3) q)
                · exact Or.inr ⟨cross_eq (by omega) h3 q, by omega⟩
            · refine Or.inr ⟨l, by omega, rfl, hp, fun r hr' hpos => ?_⟩
              by_cases e2 : r = k
              · rw [e2]
                have h3 : ¬ x6.toInt < (mta (27 * l + 26) * x4).toInt := fun q => hnlt (Int64.lt_iff_toInt_lt.mpr q)
                have h4 : ¬ x6.toInt = (mta (27 * l + 26) * x4).toInt := fun q => hne (Int64.toInt_inj.mp q)
                rw [v6, vs] at h3 h4
                exact Or.inl (by omega)
              · exact hr r (by omega) hpos
  unfold p_X7_leaving
  rw [← nI_0]
  exact loop N 0 (-1) (by omega) (by omega) (Or.inl ⟨rfl, fun r hr => absurd hr (by omega)⟩)
