def cfC (cap : Int) (tm : Nat → Int) (j i : Nat) : Int := if keyC cap tm j % 3 = i then tm (keyC cap tm j) else 0
/-- the table with k jobs laid -/
def LJ (k : Nat) (L : Int) (cap : Int) (tm : Nat → Int) (tba tal : Nat → Int32) (tcl : Nat → Nat → Int64) : Prop :=
  ((∀ r, r < 3 → tba r = nI (21 + r)) ∧ (∀ j, j < k → tba (3 + j) = nI (keyC cap tm j)) ∧ (∀ r, 3 + k ≤ r → r < 10 → tba r = -1)) ∧
  (∀ v, v < 25 → (((21 ≤ v ∧ v < 24) ∨ (v < 3 * k ∧ okC cap tm v)) → tal v = 1) ∧ (¬ ((21 ≤ v ∧ v < 24) ∨ (v < 3 * k ∧ okC cap tm v)) → tal v = 0)) ∧
  ((∀ i c, i < 3 → c < 3 * k → (okC cap tm c → TT tcl i c = (if c % 3 = i then tm c else 0) - cfC cap tm (c / 3) i) ∧ (¬ okC cap tm c → TT tcl i c = 0)) ∧
    (∀ i c, i < 3 → 3 * k ≤ c → c < 24 → TT tcl i c = if c = 21 + i then 1 else 0) ∧ (∀ i, i < 3 → TT tcl i 24 = -1) ∧ (∀ i, i < 3 → TT tcl i 25 = L - sm k (fun j => cfC cap tm j i))) ∧
  (∀ j c, j < k → c < 26 → ((c = 25 ∨ (c / 3 = j ∧ okC cap tm c)) → TT tcl (3 + j) c = 1) ∧ (¬ (c = 25 ∨ (c / 3 = j ∧ okC cap tm c)) → TT tcl (3 + j) c = 0)) ∧
  (∀ r c, 3 + k ≤ r → r < 10 → c < 26 → tcl r c = 0)
theorem cfC_le {n k : Nat} {cap : Int} {ti : Nat → Int32} (hJ : JI n ti) (hk : k < n) (i : Nat) : 0 ≤ cfC cap (tmI ti) k i ∧ cfC cap (tmI ti) k i ≤ 50 := by
  unfold cfC
  have h1 : keyC cap (tmI ti) k < 3 * n := by
    unfold keyC
    split
    · omega
    · split <;> omega
  have := hJ.tm h1
  split
  · exact this
  · omega
theorem sm_cf {n k : Nat} {cap : Int} {ti : Nat → Int32} (hJ : JI n ti) (hk : k ≤ n) (i : Nat) : 0 ≤ sm k (fun j => cfC cap (tmI ti) j i) ∧ sm k (fun j => cfC cap (tmI ti) j i) ≤ 350 := by
  have h1 : 0 ≤ sm k (fun j => cfC cap (tmI ti) j i) := sm_nonneg (fun j hj => (cfC_le hJ (by omega) i).1)
  refine ⟨h1, ?_⟩
  have h2 : sm k (fun j => cfC cap (tmI ti) j i) ≤ sm k (fun _ => 50) := sm_le (fun j hj => (cfC_le hJ (by omega) i).2)
  have h3 : ∀ k, sm k (fun _ => (50 : Int)) = 50 * k := by
    intro k
    induction k with
    | zero => rfl
    | succ k ih => show sm k (fun _ => 50) + 50 = _; rw [ih]; omega
  rw [h3] at h2
  have := hJ.1
  omega
theorem keyC_0 {cap : Int} {tm : Nat → Int} {j : Nat} (h : okC cap tm (3 * j)) : keyC cap tm j = 3 * j := if_pos h
theorem keyC_1 {cap : Int} {tm : Nat → Int} {j : Nat} (h0 : ¬ okC cap tm (3 * j)) (h : okC cap tm (3 * j + 1)) : keyC cap tm j = 3 * j + 1 := (if_neg h0).trans (if_pos h)
theorem keyC_2 {cap : Int} {tm : Nat → Int} {j : Nat} (h0 : ¬ okC cap tm (3 * j)) (h : ¬ okC cap tm (3 * j + 1)) : keyC cap tm j = 3 * j + 2 := (if_neg h0).trans (if_neg h)
theorem MJ_key {k : Nat} {cap : Int} {ti : Nat → Int32} {tba0 tal0 tba tal : Nat → Int32} {tcl0 tcl1 : Nat → Nat → Int64} (hh : hasC cap (tmI ti) k) (hM : MJ k 0 cap ti tba0 tal0 tcl0 tba tal tcl1) : tba (3 + k) = nI (keyC cap (tmI ti) k) := by
  obtain ⟨m1, m2, -⟩ := hM
  rcases m2 with ⟨-, q2⟩ | ⟨m, -, q2, q3, q4, q5⟩
  · rcases hh with q | q | q
    · exact absurd q (q2 0 (by omega) (by omega))
    · exact absurd q (q2 1 (by omega) (by omega))
    · exact absurd q (q2 2 (by omega) (by omega))
  · rw [q4]
    rcases (show m = 0 ∨ m = 1 ∨ m = 2 by omega) with rfl | rfl | rfl
    · rw [keyC_0 q3]; rfl
    · rw [keyC_1 (q5 0 (by omega) (by omega)) q3]
    · rw [keyC_2 (q5 0 (by omega) (by omega)) (q5 1 (by omega) (by omega))]
theorem LJ_next {n k L cap : Nat} {ti : Nat → Int32} {tba0 tal0 tba tal : Nat → Int32} {tcl0 tcl1 tcl3 : Nat → Nat → Int64} (hJ : JI n ti) (hk : k < n) (hh : hasC cap (tmI ti) k) (h0 : LJ k L cap (tmI ti) tba0 tal0 tcl0) (hM : MJ k 0 cap ti tba0 tal0 tcl0 tba tal tcl1)
    (h3 : ∀ a b, 3 ≤ a → tcl3 a b = st2 tcl1 (3 + k) 25 1 a b) (h3' : ∀ i c, i < 3 → c ≤ 25 → TT tcl3 i c = TT (st2 tcl1 (3 + k) 25 1) i c - TT (st2 tcl1 (3 + k) 25 1) i (keyC cap (tmI ti) k) * TT (st2 tcl1 (3 + k) 25 1) (3 + k) c) :
    tba (3 + k) = nI (keyC cap (tmI ti) k) ∧ LJ (k + 1) L cap (tmI ti) tba tal tcl3 := by
  have hn := hJ.1
  have hkey := MJ_key hh hM
  obtain ⟨m1, m2, m3, m4, m5, m6⟩ := hM
  obtain ⟨⟨b1, b2, b3⟩, ha, ⟨t1, t2, t3, t4⟩, tj, tz⟩ := h0
  obtain ⟨hkok, hk1, hk2⟩ := keyC_ok hh
  -- the cells before the last step
  have old : ∀ a b, ¬ (3 * k ≤ b ∧ b < 3 * k + 3) → tcl1 a b = tcl0 a b := fun a b hb => Classical.byContradiction (fun q => by have := m5 a b q; omega)
  have shr : ∀ c, 3 * k ≤ c → c < 3 * k + 3 → (okC cap (tmI ti) c → ∀ a, (tcl1 a c).toInt = if a = 3 + k then 1 else if a = c - 3 * k then tmI ti c else (tcl0 a c).toInt) ∧ (¬ okC cap (tmI ti) c → ∀ a, tcl1 a c = tcl0 a c) := fun c h1 h2 => by
    have := m6 (c - 3 * k) (by omega) (by omega)
    rw [show 3 * k + (c - 3 * k) = c by omega] at this
    exact this
  have row : ∀ c, c < 26 → ((c = 25 ∨ (c / 3 = k ∧ okC cap (tmI ti) c)) → TT (st2 tcl1 (3 + k) 25 1) (3 + k) c = 1) ∧ (¬ (c = 25 ∨ (c / 3 = k ∧ okC cap (tmI ti) c)) → TT (st2 tcl1 (3 + k) 25 1) (3 + k) c = 0) := fun c hc => by
    unfold TT
    by_cases e : c = 25
    · subst e
      rw [st2_at]
      exact ⟨fun _ => rfl, fun q => absurd (Or.inl rfl) q⟩
    · rw [st2_ne (fun q => e q.2)]
      by_cases e2 : c / 3 = k
      · have hs := shr c (by omega) (by omega)
        by_cases ho : okC cap (tmI ti) c
        · refine ⟨fun _ => ?_, fun q => absurd (Or.inr ⟨e2, ho⟩) q⟩
          rw [hs.1 ho, if_pos rfl]
        · refine ⟨fun q => ?_, fun _ => ?_⟩
          · rcases q with q | ⟨-, q⟩
            · exact absurd q e
            · exact absurd q ho
          · rw [hs.2 ho, tz _ _ (by omega) (by omega) hc]; rfl
      · refine ⟨fun q => ?_, fun _ => ?_⟩
        · rcases q with q | ⟨q, -⟩
          · exact absurd q e
          · exact absurd q e2
        · rw [old _ _ (by omega), tz _ _ (by omega) (by omega) hc]; rfl
  have mach : ∀ i c, i < 3 → c < 26 → TT (st2 tcl1 (3 + k) 25 1) i c = (tcl1 i c).toInt := fun i c hi _ => by
    unfold TT; rw [st2_ne (fun q => by omega)]
  have coef : ∀ i, i < 3 → TT (st2 tcl1 (3 + k) 25 1) i (keyC cap (tmI ti) k) = cfC cap (tmI ti) k i := fun i hi => by
    rw [mach i _ hi (by omega), (shr _ hk1 hk2).1 hkok, if_neg (by omega)]
    unfold cfC
    by_cases e : keyC cap (tmI ti) k % 3 = i
    · rw [if_pos e, if_pos (by omega)]
    · rw [if_neg e, if_neg (by omega)]
      have := t2 i (keyC cap (tmI ti) k) hi hk1 (by omega)
      unfold TT at this
      rw [this, if_neg (by omega)]
  have new : ∀ i c, i < 3 → c < 26 → TT tcl3 i c = (tcl1 i c).toInt - cfC cap (tmI ti) k i * TT (st2 tcl1 (3 + k) 25 1) (3 + k) c := fun i c hi hc => by
    rw [h3' i c hi (by omega), coef i hi, mach i c hi hc]
  refine ⟨hkey, ⟨fun r hr => by rw [m1 r (by omega)]; exact b1 r hr, fun j hj => ?_, fun r h1 h2 => by rw [m1 r (by omega)]; exact b3 r (by omega) h2⟩, fun v hv => ?_, ⟨fun i c hi hc => ?_, fun i c hi h1 h2 => ?_, fun i hi => ?_, fun i hi => ?_⟩, fun j c hj hc => ?_, fun r c h1 h2 hc => ?_⟩
  · by_cases e : j = k
    · subst e; exact hkey
    · rw [m1 _ (by omega)]; exact b2 j (by omega)
  · by_cases e : 3 * k ≤ v ∧ v < 3 * k + 3
    · have := m4 (v - 3 * k) (by omega) (by omega)
      rw [show 3 * k + (v - 3 * k) = v by omega] at this
      by_cases ho : okC cap (tmI ti) v
      · exact ⟨fun _ => this.1 ho, fun q => absurd (Or.inr ⟨by omega, ho⟩) q⟩
      · refine ⟨fun q => ?_, fun _ => ?_⟩
        · rcases q with q | ⟨-, q⟩
          · omega
          · exact absurd q ho
        · rw [this.2 ho]
          exact (ha v hv).2 (fun q => by rcases q with q | ⟨q, -⟩ <;> omega)
    · have e2 : tal v = tal0 v := Classical.byContradiction (fun q => by have := m3 v q; omega)
      rw [e2]
      refine ⟨fun q => (ha v hv).1 ?_, fun q => (ha v hv).2 (fun q2 => q ?_)⟩
      · rcases q with q | ⟨q, q2⟩
        · exact Or.inl q
        · exact Or.inr ⟨by omega, q2⟩
      · rcases q2 with q2 | ⟨q2, q3⟩
        · exact Or.inl q2
        · exact Or.inr ⟨by omega, q3⟩
  · rw [new i c hi (by omega)]
    by_cases e : c < 3 * k
    · have h0 : TT (st2 tcl1 (3 + k) 25 1) (3 + k) c = 0 := (row c (by omega)).2 (fun q => by rcases q with q | ⟨q, -⟩ <;> omega)
      rw [h0, Int.mul_zero, Int.sub_zero, old i c (by omega)]
      exact t1 i c hi e
    · have hc3 : c / 3 = k := by omega
      have hold := t2 i c hi (by omega) (by omega)
      unfold TT at hold
      rw [if_neg (by omega)] at hold
      have hs := shr c (by omega) (by omega)
      refine ⟨fun ho => ?_, fun ho => ?_⟩
      · rw [(row c (by omega)).1 (Or.inr ⟨hc3, ho⟩), Int.mul_one, hs.1 ho, if_neg (by omega), hc3]
        by_cases e2 : c % 3 = i
        · rw [if_pos e2, if_pos (by omega)]
        · rw [if_neg e2, if_neg (by omega), hold]
      · rw [(row c (by omega)).2 (fun q => by rcases q with q | ⟨-, q⟩; omega; exact ho q), Int.mul_zero, Int.sub_zero, hs.2 ho, hold]
  · rw [new i c hi (by omega), (row c (by omega)).2 (fun q => by rcases q with q | ⟨q, -⟩ <;> omega), Int.mul_zero, Int.sub_zero, old i c (by omega)]
    exact t2 i c hi (by omega) h2
  · rw [new i 24 hi (by omega), (row 24 (by omega)).2 (fun q => by rcases q with q | ⟨q, -⟩ <;> omega), Int.mul_zero, Int.sub_zero, old i 24 (by omega)]
    exact t3 i hi
  · rw [new i 25 hi (by omega), (row 25 (by omega)).1 (Or.inl rfl), Int.mul_one, old i 25 (by omega)]
    have := t4 i hi
    unfold TT at this
    rw [this]
    show _ = (L : Int) - (sm k (fun j => cfC cap (tmI ti) j i) + cfC cap (tmI ti) k i)
    omega
  · by_cases e : j = k
    · subst e
      have : TT tcl3 (3 + j) c = TT (st2 tcl1 (3 + j) 25 1) (3 + j) c := by unfold TT; rw [h3 _ _ (by omega)]
      rw [this]; exact row c hc
    · have : TT tcl3 (3 + j) c = (tcl1 (3 + j) c).toInt := by unfold TT; rw [h3 _ _ (by omega), st2_ne (fun q => by omega)]
      rw [this]
      have hq := tj j c (by omega) hc
      by_cases e2 : 3 * k ≤ c ∧ c < 3 * k + 3
      · have hz := hq.2 (fun q => by rcases q with q | ⟨q, -⟩ <;> omega)
        unfold TT at hz
        refine ⟨fun q => by rcases q with q | ⟨q, -⟩ <;> omega, fun _ => ?_⟩
        have hs := shr c e2.1 e2.2
        by_cases ho : okC cap (tmI ti) c
        · rw [hs.1 ho, if_neg (by omega), if_neg (by omega), hz]
        · rw [hs.2 ho, hz]
      · rw [old _ _ e2]; exact hq
  · rw [h3 _ _ (by omega), st2_ne (fun q => by omega)]
    by_cases e2 : 3 * k ≤ c ∧ c < 3 * k + 3
    · have hs := shr c e2.1 e2.2
      have hz := tz r c (by omega) h2 hc
      by_cases ho : okC cap (tmI ti) c
      · have h9 := hs.1 ho r
        rw [if_neg (by omega), if_neg (by omega), hz] at h9
        exact i64_0.mpr h9
      · rw [hs.2 ho, hz]
    · rw [old _ _ e2]; exact tz r c (by omega) h2 hc
theorem layJob_spec {N n k L cap : Nat} {ti : Nat → Int32} {Q : Int32 → (Nat → Int32) → (Nat → Int32) → (Nat → Nat → Int64) → Prop} {tba tal : Nat → Int32} {tcl : Nat → Nat → Int64} (hN : 100 ≤ N) (hJ : JI n ti) (hk : k < n) (hcap : cap < 2 ^ 31) (hL : L ≤ 600) (h0 : LJ k L cap (tmI ti) tba tal tcl)
    (q0 : ¬ hasC cap (tmI ti) k → ∀ tba tal tcl, Q 0 tba tal tcl) (q1 : hasC cap (tmI ti) k → ∀ tba tal tcl, LJ (k + 1) L cap (tmI ti) tba tal tcl → Q 1 tba tal tcl) : p_X5_layJob N ti (nI n) Q (nI k) (nI cap) tba tal tcl := by
  have hn := hJ.1
  unfold p_X5_layJob
  intro x4 e4
  rw [show (3 : Int32) = nI 3 from by decide, nI_add] at e4
  subst e4
  refine ⟨fun h => absurd h (nI_pos (by omega)), fun _ => ⟨fun _ => ?_, fun h => absurd (by rw [show (10 : Int32) = nI 10 from by decide]; exact nI_lt (by omega) (by omega)) h⟩⟩
  refine layJob_loop hJ hk hcap (h0.1.2.2 (3 + k) (Nat.le_refl _) (by omega)) (fun f tba1 tal1 tcl1 hM => ?_) N 3 2 tba tal tcl (by omega) (by omega) (by decide) ⟨fun _ _ => rfl, Or.inl ⟨h0.1.2.2 (3 + k) (Nat.le_refl _) (by omega), fun m h1 h2 => by omega⟩, fun v hv => absurd rfl hv, fun m h1 h2 => by omega, fun a b hab => absurd rfl hab, fun m h1 h2 => by omega⟩
  unfold p_X5_layJob_22
  have hrin : vp_in (nI (3 + k)) 10 := vp_in_nI (by omega) (by decide)
  refine ⟨fun _ => ⟨hrin, hrin, ?_⟩, fun h => absurd (by decide) h⟩
  rw [nI_clamp (show 3 + k < 2 ^ 31 by omega), c25, upR_st2]
  refine ⟨fun e => ?_, fun e => ?_⟩
  · refine q0 (fun hh => ?_) _ _ _
    rcases hM.2.1 with ⟨-, q⟩ | ⟨m, -, hm3, -, q, -⟩
    · rcases hh with h | h | h
      · exact q 0 (by omega) (by omega) h
      · exact q 1 (by omega) (by omega) h
      · exact q 2 (by omega) (by omega) h
    · rw [q] at e; exact nI_ne_m1 (by omega) e
  · have hh : hasC cap (tmI ti) k := by
      rcases hM.2.1 with ⟨q, -⟩ | ⟨m, -, h3, q, -, -⟩
      · exact absurd q e
      · rcases (show m = 0 ∨ m = 1 ∨ m = 2 by omega) with rfl | rfl | rfl
        · exact Or.inl q
        · exact Or.inr (Or.inl q)
        · exact Or.inr (Or.inr q)
    obtain ⟨hkok, hk1, hk2⟩ := keyC_ok hh
    have old : ∀ a b, ¬ (3 * k ≤ b ∧ b < 3 * k + 3) → tcl1 a b = tcl a b := fun a b hb => Classical.byContradiction (fun q => by have := hM.2.2.2.2.1 a b q; omega)
    have shr : ∀ c, 3 * k ≤ c → c < 3 * k + 3 → (okC cap (tmI ti) c → ∀ a, (tcl1 a c).toInt = if a = 3 + k then 1 else if a = c - 3 * k then tmI ti c else (tcl a c).toInt) ∧ (¬ okC cap (tmI ti) c → ∀ a, tcl1 a c = tcl a c) := fun c h1 h2 => by
      have := hM.2.2.2.2.2 (c - 3 * k) (by omega) (by omega)
      rw [show 3 * k + (c - 3 * k) = c by omega] at this
      exact this
    obtain ⟨⟨b1, b2, b3⟩, ha, ⟨t1, t2, t3, t4⟩, tj, tz⟩ := id h0
    have hold : ∀ i c, i < 3 → c ≤ 25 → (TT tcl i c).natAbs ≤ 1000 := fun i c hi hc => by
      by_cases e1 : c < 3 * k
      · have hcf := cfC_le (cap := cap) hJ (show c / 3 < n by omega) i
        have htm := hJ.tm (show c < 3 * n by omega)
        by_cases ho : okC cap (tmI ti) c
        · rw [(t1 i c hi e1).1 ho]; split <;> omega
        · rw [(t1 i c hi e1).2 ho]; decide
      · by_cases e2 : c < 24
        · rw [t2 i c hi (by omega) e2]; split <;> decide
        · by_cases e3 : c = 24
          · subst e3; rw [t3 i hi]; decide
          · have : c = 25 := by omega
            subst this
            have := sm_cf (cap := cap) hJ (Nat.le_of_lt hk) i
            rw [t4 i hi]; omega
    have new : ∀ a c, c ≤ 25 → a < 10 → (a < 3 → (TT tcl a c).natAbs ≤ 1000) → (3 ≤ a → tcl a c = 0) → (tcl1 a c).toInt.natAbs ≤ 1000 := fun a c hc ha h1 h2 => by
      have h3 : (tcl a c).toInt.natAbs ≤ 1000 := by
        by_cases e : a < 3
        · exact h1 e
        · rw [h2 (by omega)]; decide
      by_cases e : 3 * k ≤ c ∧ c < 3 * k + 3
      · have hs := shr c e.1 e.2
        have htm := hJ.tm (show c < 3 * n by omega)
        by_cases ho : okC cap (tmI ti) c
        · rw [hs.1 ho]
          split
          · decide
          · split
            · omega
            · exact h3
        · rw [hs.2 ho]; exact h3
      · rw [old _ _ e]; exact h3
    refine clearBasic_spec hN (by omega) (by omega) (s := keyC cap (tmI ti) k) (by omega) (MJ_key hh hM) (fun i c hi hc => ?_) (fun c hc => ?_) (fun tcl3 j1 j2 => ⟨fun h => absurd h (by decide), fun _ => ?_⟩)
    · have h1 : TT (st2 tcl1 (3 + k) 25 1) i c = (tcl1 i c).toInt := by unfold TT; rw [st2_ne (fun q => by omega)]
      rw [h1]
      exact Nat.le_trans (new i c hc (by omega) (fun h => hold i c h hc) (fun h => by omega)) (by decide)
    · by_cases e : c = 25
      · subst e; unfold TT; rw [st2_at]; decide
      · have h1 : TT (st2 tcl1 (3 + k) 25 1) (3 + k) c = (tcl1 (3 + k) c).toInt := by unfold TT; rw [st2_ne (fun q => e q.2)]
        rw [h1]
        exact Nat.le_trans (new (3 + k) c hc (by omega) (fun h => by omega) (fun _ => tz _ _ (Nat.le_refl _) (by omega) (by omega))) (by decide)
    · exact q1 hh tba1 tal1 tcl3 (LJ_next hJ hk hh h0 hM j1 j2).2
