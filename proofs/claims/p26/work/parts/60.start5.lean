theorem admit81 {N l j : Nat} {Q : (Nat → Int32) → (Nat → Nat → Int64) → Prop} {K : Int32 → Int32 → (Nat → Int32) → (Nat → Nat → Int64) → Prop} {tba : Nat → Int32} {tcl : Nat → Nat → Int64} (hl : l < 3) (hj : j < 26) (hB : ∀ i, i < 3 → (TT tcl i j).natAbs ≤ 10000)
    (hK : ∀ tcl', (∀ a b, ¬ (a < 3 ∧ a ≠ l ∧ b = j) → tcl' a b = tcl a b) → (∀ i, i < 3 → i ≠ l → TT tcl' i j = TT tcl i j + TT tcl l j) → K (nI l) (nI (j + 1)) tba tcl') :
    ∀ (f k : Nat) (tcl' : Nat → Nat → Int64), k ≤ 3 → 3 < f + k → (∀ a b, ¬ (a < k ∧ a ≠ l ∧ b = j) → tcl' a b = tcl a b) → (∀ i, i < k → i ≠ l → TT tcl' i j = TT tcl i j + TT tcl l j) → p_X5_admitExcess_81 N Q K f (nI l) (nI j) (nI k) tba tcl' := by
  intro f
  induction f with
  | zero => intro k tcl' h1 h2; omega
  | succ f ih =>
    intro k tcl' h1 h2 i1 i2
    unfold p_X5_admitExcess_81
    rw [show (3 : Int32) = nI 3 from by decide]
    refine ⟨fun h x ex => ?_, fun h => ?_⟩
    · have := (nI_leI (by omega) (by omega)).mp h
      have e : k = 3 := by omega
      subst e
      rw [ex, nI_1]
      exact hK tcl' i1 i2
    · have hk : k < 3 := by
        rcases Nat.lt_or_ge k 3 with h' | h'
        · exact h'
        · exact absurd (nI_le h' (by omega)) h
      refine ⟨fun e x ex => ?_, fun e => ?_⟩
      · have e' : k = l := nI_inj (by omega) (by omega) e
        rw [ex, nI_1]
        exact ih (k + 1) tcl' (by omega) (by omega) (fun a b q => i1 a b (fun q2 => q ⟨by omega, q2.2.1, q2.2.2⟩)) (fun i hi hne => i2 i (by omega) hne)
      · have e' : k ≠ l := fun q => e (by rw [q])
        refine ⟨vp_in_nI (by omega) (by decide), vp_in_nI (by omega) (by decide), vp_in_nI (by omega) (by decide), vp_in_nI (by omega) (by decide), fun y ey => ⟨vp_in_nI (by omega) (by decide), fun x ex => ?_⟩⟩
        rw [nI_clamp (show k < 2 ^ 31 by omega), nI_clamp (show j < 2 ^ 31 by omega), nI_clamp (show l < 2 ^ 31 by omega), i1 k j (by omega), i1 l j (by omega)] at ey
        have b1 := hB k hk
        have b2 := hB l hl
        have ey' : y.toInt = TT tcl k j + TT tcl l j := by
          rw [ey, i64_add]
          · rfl
          · unfold TT at b1 b2
            have : (2 : Nat) ^ 63 = 9223372036854775808 := by decide
            omega
        rw [ex, nI_1, nI_clamp (show k < 2 ^ 31 by omega), nI_clamp (show j < 2 ^ 31 by omega), upR_st2]
        refine ih (k + 1) _ (by omega) (by omega) (fun a b q => ?_) (fun i hi hne => ?_)
        · rw [st2_ne (fun q2 => q ⟨by omega, by omega, q2.2⟩)]
          exact i1 a b (fun q2 => q ⟨by omega, q2.2.1, q2.2.2⟩)
        · by_cases e2 : i = k
          · subst e2; unfold TT; rw [st2_at]; exact ey'
          · have : TT (st2 tcl' k j y) i j = TT tcl' i j := by unfold TT; rw [st2_ne (fun q => e2 q.1)]
            rw [this]; exact i2 i (by omega) hne
theorem admit56 {N l : Nat} {Q : (Nat → Int32) → (Nat → Nat → Int64) → Prop} {tba : Nat → Int32} {tcl : Nat → Nat → Int64} (hN : 100 ≤ N) (hl : l < 3) (hB : ∀ i c, i < 3 → c < 26 → (TT tcl i c).natAbs ≤ 5000)
    (hQ : ∀ tcl', (∀ c, c < 26 → TT tcl' l c = - TT tcl l c) → (∀ i c, i < 3 → i ≠ l → c < 26 → TT tcl' i c = TT tcl i c - TT tcl l c) → (∀ a b, 3 ≤ a → tcl' a b = tcl a b) → Q (upd tba l (nI 24)) tcl') :
    ∀ (f j : Nat) (tcl' : Nat → Nat → Int64), j ≤ 26 → 26 < f + j → (∀ c, c < j → TT tcl' l c = - TT tcl l c) → (∀ i c, i < 3 → i ≠ l → c < j → TT tcl' i c = TT tcl i c - TT tcl l c) → (∀ a b, 3 ≤ a → tcl' a b = tcl a b) → (∀ a b, j ≤ b → tcl' a b = tcl a b) → p_X5_admitExcess_56 N Q f (nI l) (nI j) tba tcl' := by
  intro f
  induction f with
  | zero => intro j tcl' h1 h2; omega
  | succ f ih =>
    intro j tcl' h1 h2 i1 i2 i3 i4
    unfold p_X5_admitExcess_56
    rw [show (25 : Int32) = nI 25 from by decide]
    refine ⟨fun h => ⟨vp_in_nI (by omega) (by decide), ?_⟩, fun h => ?_⟩
    · have := (nI_ltI (by omega) (by omega)).mp h
      rw [nI_clamp (show l < 2 ^ 31 by omega), show (24 : Int32) = nI 24 from by decide]
      exact hQ tcl' (fun c hc => i1 c (by omega)) (fun i c hi hne hc => i2 i c hi hne (by omega)) i3
    · have hj : j < 26 := by
        apply Classical.byContradiction
        intro hn
        exact h (nI_lt (by omega) (by omega))
      refine ⟨vp_in_nI (by omega) (by decide), vp_in_nI (by omega) (by decide), vp_in_nI (by omega) (by decide), fun y ey => ⟨vp_in_nI (by omega) (by decide), ?_⟩⟩
      rw [nI_clamp (show l < 2 ^ 31 by omega), nI_clamp (show j < 2 ^ 31 by omega), i4 l j (Nat.le_refl j)] at ey
      have b1 := hB l j hl hj
      have ey' : y.toInt = - TT tcl l j := by
        rw [ey, i64_neg]
        · rfl
        · unfold TT at b1
          have : (2 : Nat) ^ 63 = 9223372036854775808 := by decide
          omega
      rw [nI_clamp (show l < 2 ^ 31 by omega), nI_clamp (show j < 2 ^ 31 by omega), upR_st2, ← nI_0]
      have cl : TT (st2 tcl' l j y) l j = - TT tcl l j := by unfold TT; rw [st2_at]; exact ey'
      have ci : ∀ i, i ≠ l → TT (st2 tcl' l j y) i j = TT tcl i j := fun i hne => by unfold TT; rw [st2_ne (fun q => hne q.1), i4 i j (Nat.le_refl j)]
      refine admit81 hl hj (fun i hi => ?_) (fun tcl2 j1 j2 => ?_) N 0 _ (by omega) (by omega) (fun _ _ _ => rfl) (fun i hi => absurd hi (by omega))
      · by_cases e : i = l
        · subst e; rw [cl]; omega
        · rw [ci i e]; have := hB i j hi hj; omega
      · refine ih (j + 1) tcl2 (by omega) (by omega) (fun c hc => ?_) (fun i c hi hne hc => ?_) (fun a b ha => ?_) (fun a b hb => ?_)
        · have e0 : TT tcl2 l c = TT (st2 tcl' l j y) l c := by unfold TT; rw [j1 l c (fun q => q.2.1 rfl)]
          rw [e0]
          by_cases e : c = j
          · subst e; exact cl
          · have : TT (st2 tcl' l j y) l c = TT tcl' l c := by unfold TT; rw [st2_ne (fun q => e q.2)]
            rw [this]; exact i1 c (by omega)
        · by_cases e : c = j
          · subst e; rw [j2 i hi hne, cl, ci i hne]; omega
          · have e0 : TT tcl2 i c = TT tcl' i c := by unfold TT; rw [j1 i c (fun q => e q.2.2), st2_ne (fun q => e q.2)]
            rw [e0]; exact i2 i c hi hne (by omega)
        · rw [j1 a b (by omega), st2_ne (by omega)]; exact i3 a b ha
        · rw [j1 a b (by omega), st2_ne (by omega)]; exact i4 a b (by omega)
theorem admit_spec {N : Nat} {Q : (Nat → Int32) → (Nat → Nat → Int64) → Prop} {tba : Nat → Int32} {tcl : Nat → Nat → Int64} (hN : 100 ≤ N) (hB : ∀ i c, i < 3 → c < 26 → (TT tcl i c).natAbs ≤ 5000)
    (q0 : (∀ i, i < 3 → 0 ≤ TT tcl i 25) → Q tba tcl)
    (q1 : ∀ l tcl', l < 3 → TT tcl l 25 < 0 → (∀ i, i < 3 → TT tcl l 25 ≤ TT tcl i 25) → (∀ c, c < 26 → TT tcl' l c = - TT tcl l c) → (∀ i c, i < 3 → i ≠ l → c < 26 → TT tcl' i c = TT tcl i c - TT tcl l c) → (∀ a b, 3 ≤ a → tcl' a b = tcl a b) → Q (upd tba l (nI 24)) tcl') : p_X5_admitExcess N Q tba tcl := by
  unfold p_X5_admitExcess
  have loop : ∀ (f k l : Nat), k ≤ 3 → 3 < f + k → l < k → (∀ i, i < k → TT tcl l 25 ≤ TT tcl i 25) → p_X5_admitExcess_4 N Q f (nI l) (nI k) tba tcl := by
    intro f
    induction f with
    | zero => intro k l h1 h2; omega
    | succ f ih =>
      intro k l h1 h2 hl hm
      unfold p_X5_admitExcess_4
      rw [show (3 : Int32) = nI 3 from by decide]
      refine ⟨fun h => ?_, fun h => ?_⟩
      · have := (nI_leI (by omega) (by omega)).mp h
        have e : k = 3 := by omega
        subst e
        rw [nI_clamp (show l < 2 ^ 31 by omega), c25]
        refine ⟨vp_in_nI (by omega) (by decide), fun hlt => ?_, fun hge => q0 (fun i hi => ?_)⟩
        · rw [← nI_0]
          refine admit56 hN hl hB (fun tcl' j1 j2 j3 => q1 l tcl' hl (i64_lt0.mp hlt) hm j1 j2 j3) N 0 tcl (by omega) (by omega) (fun c hc => absurd hc (by omega)) (fun i c _ _ hc => absurd hc (by omega)) (fun _ _ _ => rfl) (fun _ _ _ => rfl)
        · have h1 : ¬ (tcl l 25).toInt < 0 := fun q => hge (i64_lt0.mpr q)
          have h2 := hm i hi
          unfold TT at h2 ⊢
          omega
      · have hk : k < 3 := by
          rcases Nat.lt_or_ge k 3 with h' | h'
          · exact h'
          · exact absurd (nI_le h' (by omega)) h
        rw [nI_clamp (show l < 2 ^ 31 by omega), nI_clamp (show k < 2 ^ 31 by omega), c25]
        refine ⟨vp_in_nI (by omega) (by decide), vp_in_nI (by omega) (by decide), fun hle x ex => ?_, fun hgt x ex => ?_⟩
        · rw [ex, nI_1]
          refine ih (k + 1) l (by omega) (by omega) (by omega) (fun i hi => ?_)
          by_cases e : i = k
          · subst e; exact Int64.le_iff_toInt_le.mp hle
          · exact hm i (by omega)
        · rw [ex, nI_1]
          have h3 : ¬ (tcl l 25).toInt ≤ (tcl k 25).toInt := fun q => hgt (Int64.le_iff_toInt_le.mpr q)
          refine ih (k + 1) k (by omega) (by omega) (by omega) (fun i hi => ?_)
          by_cases e : i = k
          · subst e; exact Int.le_refl _
          · have := hm i (by omega)
            unfold TT at this ⊢
            omega
  rw [← nI_0, show (1 : Int32) = nI 1 from by decide]
  exact loop N 1 0 (by omega) (by omega) (by omega) (fun i hi => by rw [show i = 0 by omega]; exact Int.le_refl _)
/-- what the tableau begins with -/
theorem start_spec {N n L cap : Nat} {ti : Nat → Int32} {Q : Int32 → (Nat → Int32) → (Nat → Int32) → Int32 → Int64 → (Nat → Nat → Int64) → Prop} {tba tal : Nat → Int32} {tro : Int32} {tsc : Int64} {tcl : Nat → Nat → Int64}
    (hN : 100 ≤ N) (hJ : JI n ti) (hL : L ≤ 600) (hcap : cap ≤ 600)
    (q0 : (∃ j, j < n ∧ ¬ hasC cap (tmI ti) j) → ∀ tba tal tsc tcl, Q 0 tba tal (nI (n + 3)) tsc tcl)
    (q1 : (∀ j, j < n → hasC cap (tmI ti) j) → ∀ tba tal tsc tcl, SI n (CA n L cap (tmI ti)) tba tsc tcl → (∀ v, v < 25 → (alv tal v ↔ al0C n cap (tmI ti) v)) → (∀ s, s < n + 3 → BB tba s ≠ 24 → alv tal (BB tba s)) → (∀ r, r < n + 3 → BB tba r = 24 → 0 < TT tcl r 25) → Q 1 tba tal (nI (n + 3)) tsc tcl) :
    p_X5_start N ti (nI n) Q (nI L) (nI cap) tba tal tro tsc tcl := by
  have hn := hJ.1
  unfold p_X5_start
  refine clear_spec hN hn (fun tba1 tal1 tcl1 c1 c2 c3 => ?_)
  rw [← nI_0]
  refine start11 (n := n) (by omega) (fun tba2 tal2 tcl2 d1 d2 d3 d4 d5 => ?_) N 0 tba1 tal1 tcl1 (by omega) (by omega) (fun r hr => absurd hr (by omega)) (fun r _ hr => c1 r hr) (fun v hv => by rw [c2 v hv, if_neg (by omega)]) (fun i c hi => absurd hi (by omega)) (fun r c _ hr hc => c3 r c hr hc)
  have hLJ0 : LJ 0 L cap (tmI ti) tba2 tal2 tcl2 := by
    refine ⟨⟨d1, fun j hj => absurd hj (by omega), fun r h1 h2 => d2 r (by omega) h2⟩, fun v hv => ⟨fun q => ?_, fun q => ?_⟩, ⟨fun i c _ hc => absurd hc (by omega), fun i c hi _ hc => ?_, fun i hi => ?_, fun i hi => ?_⟩, fun j c hj => absurd hj (by omega), fun r c h1 h2 hc => d5 r c (by omega) h2 hc⟩
    · rw [d3 v hv]
      rcases q with q | ⟨q, -⟩
      · rw [if_pos q]
      · omega
    · rw [d3 v hv, if_neg (fun q2 => q (Or.inl q2))]
    · unfold TT
      rw [d4 i c hi (by omega)]
      by_cases e : c = 21 + i
      · rw [if_pos e, if_pos e]
      · rw [if_neg e, if_neg e, if_neg (by omega), if_neg (by omega)]
    · unfold TT
      rw [d4 i 24 hi (by omega), if_neg (by omega), if_pos rfl]
    · unfold TT
      rw [d4 i 25 hi (by omega), if_neg (by omega), if_neg (by omega), if_pos rfl]
      show (L : Int) = L - 0
      omega
  -- the end of the layout
  have fin : (∀ j, j < n → hasC cap (tmI ti) j) → ∀ tba tal tcl, LJ n L cap (tmI ti) tba tal tcl → p_X5_admitExcess N (fun tba_2 tcl_3 => Q (1 : Int32) tba_2 tal (nI (n + 3)) 1 tcl_3) tba tcl := fun hall tba tal tcl h => by
    have hT := LJ_Tb hJ hall h
    obtain ⟨hb, hb1, hb2⟩ := LJ_BB hn hall h
    have hal : ∀ v, v < 25 → (alv tal v ↔ al0C n cap (tmI ti) v) := fun v hv => by
      have h1 := h.2.1 v hv
      constructor
      · intro q
        apply Classical.byContradiction
        intro q2
        exact q (h1.2 (fun q3 => q2 (by rcases q3 with q3 | q3; exact Or.inr q3; exact Or.inl q3)))
      · intro q
        have : tal v = 1 := h1.1 (by rcases q with q | q; exact Or.inr q; exact Or.inl q)
        unfold alv
        rw [this]; decide
    have hkal : ∀ j, j < n → alv tal (keyC cap (tmI ti) j) := fun j hj => by
      obtain ⟨k1, k2, k3⟩ := keyC_ok (hall j hj)
      exact (hal _ (by omega)).mpr (Or.inl ⟨by omega, k1⟩)
    have hslal : ∀ r, r < 3 → alv tal (21 + r) := fun r hr => (hal _ (by omega)).mpr (Or.inr ⟨by omega, by omega⟩)
    obtain ⟨t1, t2, t3, t4⟩ := h.2.2.1
    have hjr : ∀ j, j < n → TT tcl (3 + j) 25 = 1 := fun j hj => (h.2.2.2.1 j 25 hj (by omega)).1 (Or.inl rfl)
    refine admit_spec hN (fun i c hi hc => ?_) (fun hge => ?_) (fun l tcl' hl hneg hmin j1 j2 j3 => ?_)
    · by_cases e1 : c < 3 * n
      · have hcf := cfC_le (cap := cap) hJ (show c / 3 < n by omega) i
        have htm := hJ.tm (show c < 3 * n by omega)
        by_cases ho : okC cap (tmI ti) c
        · rw [(t1 i c hi e1).1 ho]; split <;> omega
        · rw [(t1 i c hi e1).2 ho]; decide
      · by_cases e2 : c < 24
        · rw [t2 i c hi (by omega) e2]; split <;> decide
        · by_cases e3 : c = 24
          · subst e3; rw [t3 i hi]; decide
          · have : c = 25 := by omega
            subst this
            have := sm_cf (cap := cap) hJ (Nat.le_refl n) i
            rw [t4 i hi]; omega
    · have h24 : ∀ s, s < n + 3 → BB tba s ≠ 24 := fun s hs => by
        by_cases e : s < 3
        · rw [hb1 s e]; omega
        · have := hb2 (s - 3) (by omega)
          rw [show 3 + (s - 3) = s by omega] at this
          have h2 := keyC_ok (hall (s - 3) (by omega))
          omega
      refine q1 hall tba tal 1 tcl ⟨hb, hT, fun r hr => ?_, ?_⟩ hal (fun s hs _ => ?_) (fun r hr e => absurd e (h24 r hr))
      · by_cases e : r < 3
        · exact hge r e
        · have := hjr (r - 3) (by omega)
          rw [show 3 + (r - 3) = r by omega] at this
          rw [this]; decide
      · rw [vl_off h24]; decide
      · by_cases e : s < 3
        · rw [hb1 s e]; exact hslal s e
        · have := hb2 (s - 3) (by omega)
          rw [show 3 + (s - 3) = s by omega] at this
          rw [this]; exact hkal _ (by omega)
    · have hBu : ∀ r, BB (upd tba l (nI 24)) r = if r = l then 24 else BB tba r := fun r => BB_upd (by omega) r
      have hP : Pivs (n + 3) 25 (TT tcl) (TT tcl') (BB tba) (BB (upd tba l (nI 24))) 1 1 l 24 (-1) := by
        refine ⟨by rw [t3 l hl]; rfl, fun s _ => hBu s, fun a ha => by rw [j1 a (by omega)]; omega, fun r a hr hrl ha => ?_⟩
        rw [t3 l hl]
        by_cases e : r < 3
        · rw [j2 r a e hrl (by omega), t3 r e]; omega
        · have h1 : TT tcl' r a = TT tcl r a := by unfold TT; rw [j3 r a (by omega)]
          have h2 : TT tcl r 24 = 0 := by
            have := (h.2.2.2.1 (r - 3) 24 (by omega) (by omega)).2 (fun q => by rcases q with q | ⟨q, -⟩ <;> omega)
            rwa [show 3 + (r - 3) = r by omega] at this
          rw [h1, h2]; omega
      have hT' : Tb (n + 3) 25 (CA n L cap (tmI ti)) (TT tcl') (BB (upd tba l (nI 24))) 1 := hT.pivs (Or.inr rfl) (by omega) (by omega) (by rw [t3 l hl]; decide) hP
      have hb' : BOk (n + 3) (upd tba l (nI 24)) := fun r hr => by
        by_cases e : r = l
        · subst e; exact ⟨24, by omega, pk_us⟩
        · rw [pk_un e]; exact hb r hr
      have hl24 : BB (upd tba l (nI 24)) l = 24 := by rw [hBu, if_pos rfl]
      have hvl : vl (n + 3) 25 (TT tcl') (BB (upd tba l (nI 24))) 24 = TT tcl' l 25 := by
        have := vl_b hT' (show l < n + 3 by omega)
        rw [hl24] at this; exact this
      refine q1 hall _ tal 1 tcl' ⟨hb', hT', fun r hr => ?_, ?_⟩ hal (fun s hs hne => ?_) (fun r hr e => ?_)
      · by_cases e : r = l
        · subst e; rw [j1 25 (by omega)]; omega
        · by_cases e2 : r < 3
          · rw [j2 r 25 e2 e (by omega)]; have := hmin r e2; omega
          · have h1 : TT tcl' r 25 = TT tcl r 25 := by unfold TT; rw [j3 r 25 (by omega)]
            have := hjr (r - 3) (by omega)
            rw [show 3 + (r - 3) = r by omega] at this
            rw [h1, this]; decide
      · rw [hvl, j1 25 (by omega), t4 l hl]
        have := sm_cf (cap := cap) hJ (Nat.le_refl n) l
        show _ ≤ 350 * 1
        omega
      · rw [hBu] at hne ⊢
        by_cases e : s = l
        · rw [if_pos e] at hne; exact absurd rfl hne
        · rw [if_neg e]
          by_cases e2 : s < 3
          · rw [hb1 s e2]; exact hslal s e2
          · have := hb2 (s - 3) (by omega)
            rw [show 3 + (s - 3) = s by omega] at this
            rw [this]; exact hkal _ (by omega)
      · have : r = l := hT'.inj hr (by omega) (by rw [e, hl24])
        subst this
        rw [j1 25 (by omega)]; omega
  have loop : ∀ (f k : Nat) (tba tal : Nat → Int32) (tcl : Nat → Nat → Int64), k ≤ n → n < f + k → (∀ j, j < k → hasC cap (tmI ti) j) → LJ k L cap (tmI ti) tba tal tcl → p_X5_start_86 N ti (nI n) Q f (nI cap) (nI k) tba tal (nI (n + 3)) 1 tcl := by
    intro f
    induction f with
    | zero => intro k tba tal tcl h1 h2; omega
    | succ f ih =>
      intro k tba tal tcl h1 h2 hall h
      unfold p_X5_start_86
      refine ⟨fun hc => ?_, fun hc => ⟨fun h7 => ?_, fun _ => ?_⟩⟩
      · have := (nI_leI (by omega) (by omega)).mp hc
        have e : k = n := by omega
        subst e
        exact fin hall tba tal tcl h
      · have := (nI_leI (a := 7) (b := k) (by omega) (by omega)).mp (by rw [show nI 7 = (7 : Int32) from by decide]; exact h7)
        exact absurd (nI_le (show n ≤ k by omega) (by omega)) hc
      · have hk : k < n := by
          rcases Nat.lt_or_ge k n with h' | h'
          · exact h'
          · exact absurd (nI_le h' (by omega)) hc
        refine layJob_spec hN hJ hk (by omega) hL h (fun hno tba tal tcl => ⟨fun _ => q0 ⟨k, hk, hno⟩ _ _ _ _, fun q => absurd rfl q⟩) (fun hyes tba tal tcl h' => ⟨fun q => absurd q (by decide), fun _ x ex => ?_⟩)
        rw [ex, nI_1]
        refine ih (k + 1) tba tal tcl (by omega) (by omega) (fun j hj => ?_) h'
        by_cases e : j = k
        · subst e; exact hyes
        · exact hall j (by omega)
  rw [← nI_0]
  exact loop N 0 tba2 tal2 tcl2 (Nat.zero_le n) (by omega) (fun j hj => absurd hj (by omega)) hLJ0
