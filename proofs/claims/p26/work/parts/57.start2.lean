/-- one machine's row less a multiple of a job's row -/
theorem clearBasic39 {N k ρ s : Nat} {tba : Nat → Int32} {Q : Int32 → (Nat → Nat → Int64) → Prop} {K : Int32 → Int32 → Int32 → (Nat → Nat → Int64) → Prop} {tcl : Nat → Nat → Int64} {x4 : Int64} (hk : k < 3) (hρ : ρ < 10) (hρ3 : 3 ≤ ρ)
    (h4 : x4.toInt.natAbs ≤ 1000000) (hB : ∀ c, c ≤ 25 → (TT tcl k c).natAbs ≤ 1000000) (hR : ∀ c, c ≤ 25 → (TT tcl ρ c).natAbs ≤ 1000000)
    (hK : ∀ tcl', (∀ a b, a ≠ k → tcl' a b = tcl a b) → (∀ c, c ≤ 25 → TT tcl' k c = TT tcl k c - x4.toInt * TT tcl ρ c) → K (nI ρ) (nI s) (nI (k + 1)) tcl') :
    ∀ (f j : Nat) (tcl' : Nat → Nat → Int64), j ≤ 26 → 26 < f + j → (∀ a b, a ≠ k → tcl' a b = tcl a b) → (∀ c, c < j → TT tcl' k c = TT tcl k c - x4.toInt * TT tcl ρ c) → (∀ c, j ≤ c → tcl' k c = tcl k c) →
    p_X5_clearBasic_39 N tba Q K f (nI ρ) (nI s) (nI k) x4 (nI j) tcl' := by
  intro f
  induction f with
  | zero => intro j tcl' h1 h2; omega
  | succ f ih =>
    intro j tcl' h1 h2 i1 i2 i3
    unfold p_X5_clearBasic_39
    rw [show (25 : Int32) = nI 25 from by decide]
    refine ⟨fun h x ex => ?_, fun h => ?_⟩
    · have := (nI_ltI (by omega) (by omega)).mp h
      rw [ex, nI_1]
      exact hK tcl' i1 (fun c hc => i2 c (by omega))
    · have hj : j < 26 := by
        apply Classical.byContradiction
        intro hn
        exact h (nI_lt (by omega) (by omega))
      refine ⟨fun h0 x ex => ?_, fun h0 => ?_⟩
      · rw [ex, nI_1]
        have h0' := i64_0.mp h0
        refine hK tcl' i1 (fun c hc => ?_)
        by_cases e : c < j
        · exact i2 c e
        · have : TT tcl' k c = TT tcl k c := by unfold TT; rw [i3 c (by omega)]
          rw [this, h0', Int.zero_mul, Int.sub_zero]
      · have hkin : vp_in (nI k) 10 := vp_in_nI (by omega) (by decide)
        have hρin : vp_in (nI ρ) 10 := vp_in_nI (by omega) (by decide)
        have hjin : vp_in (nI j) 26 := vp_in_nI (by omega) (by decide)
        refine ⟨hkin, hjin, hρin, hjin, fun y ey => ⟨hjin, fun x ex => ?_⟩⟩
        rw [ex, nI_1, nI_clamp (show k < 2 ^ 31 by omega), nI_clamp (show j < 2 ^ 31 by omega), upR_st2]
        rw [nI_clamp (show k < 2 ^ 31 by omega), nI_clamp (show j < 2 ^ 31 by omega), nI_clamp (show ρ < 2 ^ 31 by omega), i3 j (Nat.le_refl j), i1 ρ j (by omega)] at ey
        have b1 := nam h4 (hR j (by omega))
        have v1 : (x4 * tcl ρ j).toInt = x4.toInt * TT tcl ρ j := i64_mul (Nat.lt_of_le_of_lt b1 (by decide))
        have b2 := hB j (by omega)
        have v2 : y.toInt = TT tcl k j - x4.toInt * TT tcl ρ j := by
          rw [ey, i64_sub, v1]
          · rfl
          · rw [v1]
            have : 1000000 + 1000000 * 1000000 < 2 ^ 63 := by decide
            have b3 : (tcl k j).toInt.natAbs ≤ 1000000 := b2
            omega
        refine ih (j + 1) _ (by omega) (by omega) (fun a b ha => ?_) (fun c hc => ?_) (fun c hc => ?_)
        · rw [st2_ne (fun q => ha q.1)]; exact i1 a b ha
        · by_cases e : c = j
          · subst e; unfold TT; rw [st2_at]; exact v2
          · unfold TT; rw [st2_ne (fun q => e q.2)]; exact i2 c (by omega)
        · rw [st2_ne (fun q => by omega)]; exact i3 c (by omega)
theorem clearBasic_spec {N ρ s : Nat} {tba : Nat → Int32} {Q : Int32 → (Nat → Nat → Int64) → Prop} {tcl : Nat → Nat → Int64} (hN : 100 ≤ N) (hρ : ρ < 10) (hρ3 : 3 ≤ ρ) (hs : s < 21) (hb : tba ρ = nI s)
    (hB : ∀ k c, k < 3 → c ≤ 25 → (TT tcl k c).natAbs ≤ 1000000) (hR : ∀ c, c ≤ 25 → (TT tcl ρ c).natAbs ≤ 1000000)
    (hQ : ∀ tcl', (∀ a b, 3 ≤ a → tcl' a b = tcl a b) → (∀ k c, k < 3 → c ≤ 25 → TT tcl' k c = TT tcl k c - TT tcl k s * TT tcl ρ c) → Q 1 tcl') : p_X5_clearBasic N tba Q (nI ρ) tcl := by
  unfold p_X5_clearBasic
  rw [nI_clamp (show ρ < 2 ^ 31 by omega)]
  refine ⟨vp_in_nI (by omega) (by decide), fun x2 e2 => ?_⟩
  rw [hb] at e2
  subst e2
  refine ⟨fun h => absurd h (nI_pos (by omega)), fun _ => ⟨fun _ => ?_, fun h => absurd (by rw [show (21 : Int32) = nI 21 from by decide]; exact nI_lt hs (by omega)) h⟩⟩
  have loop : ∀ (f k : Nat) (tcl' : Nat → Nat → Int64), k ≤ 3 → 3 < f + k → (∀ a b, k ≤ a → tcl' a b = tcl a b) → (∀ i c, i < k → c ≤ 25 → TT tcl' i c = TT tcl i c - TT tcl i s * TT tcl ρ c) → p_X5_clearBasic_21 N tba Q f (nI ρ) (nI s) (nI k) tcl' := by
    intro f
    induction f with
    | zero => intro k tcl' h1 h2; omega
    | succ f ih =>
      intro k tcl' h1 h2 i1 i2
      unfold p_X5_clearBasic_21
      rw [show (3 : Int32) = nI 3 from by decide]
      refine ⟨fun h => ?_, fun h => ?_⟩
      · have := (nI_leI (by omega) (by omega)).mp h
        have e : k = 3 := by omega
        subst e
        exact hQ tcl' i1 i2
      · have hk : k < 3 := by
          rcases Nat.lt_or_ge k 3 with h' | h'
          · exact h'
          · exact absurd (nI_le h' (by omega)) h
        refine ⟨vp_in_nI (by omega) (by decide), vp_in_nI (by omega) (by decide), fun x4 e4 => ?_⟩
        rw [nI_clamp (show k < 2 ^ 31 by omega), nI_clamp (show s < 2 ^ 31 by omega), i1 k s (Nat.le_refl k)] at e4
        have e4' : x4.toInt = TT tcl k s := by rw [e4]; rfl
        have rk : ∀ c, TT tcl' k c = TT tcl k c := fun c => by unfold TT; rw [i1 k c (Nat.le_refl k)]
        have rρ : ∀ c, TT tcl' ρ c = TT tcl ρ c := fun c => by unfold TT; rw [i1 ρ c (by omega)]
        rw [← nI_0]
        refine clearBasic39 (s := s) hk hρ hρ3 (by rw [e4']; exact hB k s hk (by omega)) (tcl := tcl') (fun c hc => by rw [rk]; exact hB k c hk hc) (fun c hc => by rw [rρ]; exact hR c hc) (fun tcl2 j1 j2 => ?_) N 0 tcl' (by omega) (by omega) (fun _ _ _ => rfl) (fun c hc => absurd hc (by omega)) (fun _ _ => rfl)
        refine ih (k + 1) tcl2 (by omega) (by omega) (fun a b ha => ?_) (fun i c hi hc => ?_)
        · rw [j1 a b (by omega)]; exact i1 a b (by omega)
        · by_cases e : i = k
          · subst e; rw [j2 c hc, rk, rρ, e4']
          · have : TT tcl2 i c = TT tcl' i c := by unfold TT; rw [j1 i c e]
            rw [this]; exact i2 i c (by omega) hc
  rw [← nI_0]
  exact loop N 0 tcl (by omega) (by omega) (fun _ _ _ => rfl) (fun i c hi => absurd hi (by omega))
/-- the lowest share of a job that may stand, if one may -/
def okC (cap : Int) (tm : Nat → Int) (c : Nat) : Prop := 0 < tm c ∧ tm c ≤ cap
def keyC (cap : Int) (tm : Nat → Int) (j : Nat) : Nat := if 0 < tm (3 * j) ∧ tm (3 * j) ≤ cap then 3 * j else if 0 < tm (3 * j + 1) ∧ tm (3 * j + 1) ≤ cap then 3 * j + 1 else 3 * j + 2
def hasC (cap : Int) (tm : Nat → Int) (j : Nat) : Prop := okC cap tm (3 * j) ∨ okC cap tm (3 * j + 1) ∨ okC cap tm (3 * j + 2)
theorem keyC_ok {cap : Int} {tm : Nat → Int} {j : Nat} (h : hasC cap tm j) : okC cap tm (keyC cap tm j) ∧ 3 * j ≤ keyC cap tm j ∧ keyC cap tm j < 3 * j + 3 := by
  unfold keyC
  by_cases h0 : 0 < tm (3 * j) ∧ tm (3 * j) ≤ cap
  · rw [if_pos h0]; exact ⟨h0, by omega, by omega⟩
  · rw [if_neg h0]
    by_cases h1 : 0 < tm (3 * j + 1) ∧ tm (3 * j + 1) ≤ cap
    · rw [if_pos h1]; exact ⟨h1, by omega, by omega⟩
    · rw [if_neg h1]
      rcases h with q | q | q
      · exact absurd q h0
      · exact absurd q h1
      · exact ⟨q, by omega, by omega⟩
/-- where the shares of job k stand, of the machines from i on -/
def MJ (k i : Nat) (cap : Int) (ti : Nat → Int32) (tba0 tal0 : Nat → Int32) (tcl0 : Nat → Nat → Int64) (tba tal : Nat → Int32) (tcl : Nat → Nat → Int64) : Prop :=
  (∀ a, a ≠ 3 + k → tba a = tba0 a) ∧ ((tba (3 + k) = -1 ∧ ∀ m, i ≤ m → m < 3 → ¬ okC cap (tmI ti) (3 * k + m)) ∨ (∃ m, i ≤ m ∧ m < 3 ∧ okC cap (tmI ti) (3 * k + m) ∧ tba (3 + k) = nI (3 * k + m) ∧ ∀ m', i ≤ m' → m' < m → ¬ okC cap (tmI ti) (3 * k + m'))) ∧
  (∀ v, tal v ≠ tal0 v → 3 * k + i ≤ v ∧ v < 3 * k + 3) ∧ (∀ m, i ≤ m → m < 3 → (okC cap (tmI ti) (3 * k + m) → tal (3 * k + m) = 1) ∧ (¬ okC cap (tmI ti) (3 * k + m) → tal (3 * k + m) = tal0 (3 * k + m))) ∧
  (∀ a b, tcl a b ≠ tcl0 a b → 3 * k + i ≤ b ∧ b < 3 * k + 3) ∧
  (∀ m, i ≤ m → m < 3 → (okC cap (tmI ti) (3 * k + m) → ∀ a, (tcl a (3 * k + m)).toInt = if a = 3 + k then 1 else if a = m then tmI ti (3 * k + m) else (tcl0 a (3 * k + m)).toInt) ∧ (¬ okC cap (tmI ti) (3 * k + m) → ∀ a, tcl a (3 * k + m) = tcl0 a (3 * k + m)))
theorem layJob_loop {N n k cap : Nat} {ti : Nat → Int32} {Q : Int32 → (Nat → Int32) → (Nat → Int32) → (Nat → Nat → Int64) → Prop} {tba0 tal0 : Nat → Int32} {tcl0 : Nat → Nat → Int64} (hJ : JI n ti) (hk : k < n) (hcap : cap < 2 ^ 31) (h0 : tba0 (3 + k) = -1)
    (hK : ∀ f tba tal tcl, MJ k 0 cap ti tba0 tal0 tcl0 tba tal tcl → p_X5_layJob_22 N ti (nI n) Q (f + 1) (nI k) (nI cap) (nI (3 + k)) (-1) tba tal tcl) :
    ∀ (f i : Nat) (x5 : Int32) (tba tal : Nat → Int32) (tcl : Nat → Nat → Int64), i ≤ 3 → i < f → x5 = nI i + (-1) → MJ k i cap ti tba0 tal0 tcl0 tba tal tcl → p_X5_layJob_22 N ti (nI n) Q f (nI k) (nI cap) (nI (3 + k)) x5 tba tal tcl := by
  intro f
  induction f with
  | zero => intro i x5 tba tal tcl _ h; omega
  | succ f ih =>
    intro i x5 tba tal tcl hi hf e5 hM
    cases i with
    | zero =>
      have e : x5 = -1 := by rw [e5]; decide
      subst e
      exact hK f tba tal tcl hM
    | succ i =>
      rw [nIm1] at e5
      subst e5
      have hn := hJ.1
      obtain ⟨m1, m2, m3, m4, m5, m6⟩ := hM
      unfold p_X5_layJob_22
      refine ⟨fun h => absurd h (nI_pos (by omega)), fun _ => timeOn_spec hn hk (by omega) (fun x7 e7 => ?_)⟩
      rw [share_ix (by omega) (by omega)] at e7
      subst e7
      obtain ⟨v, hv, ev⟩ := hJ.2 (3 * k + i) (by omega)
      have evT : tmI ti (3 * k + i) = v := by unfold tmI; rw [ev, nI_toInt (by omega)]
      have skip : ¬ okC cap (tmI ti) (3 * k + i) → ∀ x : Int32, x = nI i + (-1) → p_X5_layJob_22 N ti (nI n) Q f (nI k) (nI cap) (nI (3 + k)) x tba tal tcl := fun hno x ex => by
        refine ih i x tba tal tcl (by omega) (by omega) ex ⟨m1, ?_, fun w hw => ?_, fun m h1 h2 => ?_, fun a b hab => ?_, fun m h1 h2 => ?_⟩
        · rcases m2 with ⟨q1, q2⟩ | ⟨m, q1, q2, q3, q4, q5⟩
          · refine Or.inl ⟨q1, fun m h1 h2 => ?_⟩
            by_cases e : m = i
            · subst e; exact hno
            · exact q2 m (by omega) h2
          · refine Or.inr ⟨m, by omega, q2, q3, q4, fun m' h1 h2 => ?_⟩
            by_cases e : m' = i
            · subst e; exact hno
            · exact q5 m' (by omega) h2
        · have := m3 w hw; omega
        · by_cases e : m = i
          · subst e
            exact ⟨fun q => absurd q hno, fun _ => Classical.byContradiction (fun q => by have := m3 _ q; omega)⟩
          · exact m4 m (by omega) h2
        · have := m5 a b hab; omega
        · by_cases e : m = i
          · subst e
            exact ⟨fun q => absurd q hno, fun _ a => Classical.byContradiction (fun q => by have := m5 _ _ q; omega)⟩
          · exact m6 m (by omega) h2
      rw [ev]
      refine ⟨fun hle => skip (fun q => ?_), fun hnle => ⟨fun hlt => skip (fun q => ?_), fun hnlt => ⟨fun h => absurd h (nI_pos (by omega)), fun _ => ⟨fun h => absurd h (by rw [show (21 : Int32) = nI 21 from by decide]; exact nI_ge (by omega) (by omega)), fun _ => ?_⟩⟩⟩⟩
      · have h1 : v ≤ 0 := (nI_leI (by omega) (by omega)).mp (by rw [nI_0]; exact hle)
        have := q.1; omega
      · have h1 := (nI_ltI hcap (by omega)).mp hlt
        have := q.2; omega
      · have hok : okC cap (tmI ti) (3 * k + i) := by
          have h1 : ¬ v ≤ 0 := fun q => hnle (by have := nI_le q (by omega); rw [nI_0] at this; exact this)
          have h2 : ¬ cap < v := fun q => hnlt (nI_lt q (by omega))
          exact ⟨by omega, by omega⟩
        have hrin : vp_in (nI (3 + k)) 10 := vp_in_nI (by omega) (by decide)
        have hcin : vp_in (nI (3 * k + i)) 26 := vp_in_nI (by omega) (by decide)
        refine ⟨hrin, hcin, vp_in_nI (by omega) (by decide), fun f21 e21 => ⟨hcin, vp_in_nI (by omega) (by decide), hrin, fun x ex => ?_⟩⟩
        rw [nI_clamp (show 3 + k < 2 ^ 31 by omega), nI_clamp (show 3 * k + i < 2 ^ 31 by omega), nI_clamp (show i < 2 ^ 31 by omega), upR_st2, upR_st2, nar1]
        have e21' : f21.toInt = tmI ti (3 * k + i) := by rw [e21, Int32.toInt_toInt64, nI_toInt (by omega), evT]
        refine ih i x _ _ _ (by omega) (by omega) ex ⟨fun a ha => by rw [pk_un ha]; exact m1 a ha, Or.inr ⟨i, Nat.le_refl i, by omega, hok, pk_us, fun m' h1 h2 => absurd h1 (by omega)⟩, fun w hw => ?_, fun m h1 h2 => ?_, fun a b hab => ?_, fun m h1 h2 => ?_⟩
        · by_cases e : w = 3 * k + i
          · omega
          · rw [pk_un e] at hw
            have := m3 w hw; omega
        · by_cases e : m = i
          · subst e
            exact ⟨fun _ => pk_us, fun q => absurd hok q⟩
          · rw [pk_un (by omega)]; exact m4 m (by omega) h2
        · by_cases e : b = 3 * k + i
          · omega
          · rw [st2_ne (fun q => e q.2), st2_ne (fun q => e q.2)] at hab
            have := m5 a b hab; omega
        · by_cases e : m = i
          · subst e
            refine ⟨fun _ a => ?_, fun q => absurd hok q⟩
            by_cases e1 : a = m
            · subst e1; rw [st2_at, if_neg (by omega), if_pos rfl]; exact e21'
            · rw [st2_ne (fun q => e1 q.1)]
              by_cases e2 : a = 3 + k
              · subst e2; rw [st2_at, if_pos rfl]; decide
              · rw [st2_ne (fun q => e2 q.1), if_neg e2, if_neg e1]
                congr 1
                exact Classical.byContradiction (fun q => by have := m5 _ _ q; omega)
          · refine ⟨fun q a => ?_, fun q a => ?_⟩
            · rw [st2_ne (fun q => by omega), st2_ne (fun q => by omega)]; exact (m6 m (by omega) h2).1 q a
            · rw [st2_ne (fun q => by omega), st2_ne (fun q => by omega)]; exact (m6 m (by omega) h2).2 q a
