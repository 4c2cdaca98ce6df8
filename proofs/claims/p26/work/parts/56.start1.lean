/-! laying out a table -/
def st2 (f : Nat → Nat → Int64) (r c : Nat) (x : Int64) : Nat → Nat → Int64 := fun a b => if a = r ∧ b = c then x else f a b
theorem upR_st2 {f : Nat → Nat → Int64} {r c : Nat} {x : Int64} : upR f r (vp_updL (f r) c x) = st2 f r c x := by
  funext a b
  unfold upR vp_updL st2
  by_cases h1 : a = r
  · by_cases h2 : b = c
    · rw [if_pos h1, if_pos h2, if_pos ⟨h1, h2⟩]
    · rw [if_pos h1, if_neg h2, if_neg (fun q => h2 q.2), h1]
  · rw [if_neg h1, if_neg (fun q => h1 q.1)]
theorem st2_at {f : Nat → Nat → Int64} {r c : Nat} {x : Int64} : st2 f r c x r c = x := if_pos ⟨rfl, rfl⟩
theorem st2_ne {f : Nat → Nat → Int64} {r c a b : Nat} {x : Int64} (h : ¬ (a = r ∧ b = c)) : st2 f r c x a b = f a b := if_neg h
/-- the times of n jobs -/
def JI (n : Nat) (ti : Nat → Int32) : Prop := n ≤ 7 ∧ ∀ c, c < 3 * n → ∃ v : Nat, v ≤ 50 ∧ ti c = nI v
def tmI (ti : Nat → Int32) : Nat → Int := fun c => (ti c).toInt
theorem JI.tm {n : Nat} {ti : Nat → Int32} (h : JI n ti) {c : Nat} (hc : c < 3 * n) : 0 ≤ tmI ti c ∧ tmI ti c ≤ 50 := by
  obtain ⟨v, hv, e⟩ := h.2 c hc
  unfold tmI
  rw [e, nI_toInt (by omega)]
  omega
theorem JI.eq {n : Nat} {ti : Nat → Int32} (h : JI n ti) {c : Nat} (hc : c < 3 * n) : ti c = nI (tmI ti c).toNat := by
  obtain ⟨v, hv, e⟩ := h.2 c hc
  unfold tmI
  rw [e, nI_toInt (by omega)]; rfl
theorem share_ix {j i : Nat} (hj : j < 7) (hi : i < 3) : nI j * (3 : Int32) + nI i = nI (3 * j + i) := by
  rw [show (3 : Int32) = nI 3 from by decide, pk_mul, nI_add, Nat.mul_comm]
theorem timeOn_spec {N n j i : Nat} {ti : Nat → Int32} {Q : Int32 → Prop} (hn : n ≤ 7) (hj : j < n) (hi : i < 3) (hQ : Q (ti (3 * j + i))) : p_X1_timeOn N ti (nI n) Q (nI j) (nI i) := by
  unfold p_X1_timeOn
  rw [share_ix (by omega) hi, show (7 : Int32) = nI 7 from by decide, show (3 : Int32) = nI 3 from by decide]
  refine ⟨fun h => absurd h (nI_pos (by omega)), fun _ => ⟨fun h => absurd h (nI_ge hj (by omega)), fun _ => ⟨fun h => absurd h (nI_ge (by omega) (by omega)), fun _ => ⟨fun h => absurd h (nI_pos (by omega)), fun _ => ⟨fun _ => ⟨vp_in_nI (by omega) (by decide), ?_⟩, fun h => absurd (nI_lt hi (by omega)) h⟩⟩⟩⟩⟩
  rw [nI_clamp (by omega)]
  exact hQ
/-- all is taken away -/
theorem clear34 {N k : Nat} {Q : (Nat → Int32) → (Nat → Int32) → Int32 → Int64 → (Nat → Nat → Int64) → Prop} {K : Int32 → (Nat → Int32) → (Nat → Int32) → Int32 → Int64 → (Nat → Nat → Int64) → Prop} {tba tal : Nat → Int32} {tro : Int32} {tsc : Int64} (hk : k < 10)
    {tcl : Nat → Nat → Int64} (hK : ∀ tcl', (∀ a b, a ≠ k → tcl' a b = tcl a b) → (∀ b, b < 26 → tcl' k b = 0) → K (nI (k + 1)) tba tal tro tsc tcl') :
    ∀ (f j : Nat) (tcl' : Nat → Nat → Int64), j ≤ 26 → 26 < f + j → (∀ a b, a ≠ k → tcl' a b = tcl a b) → (∀ b, b < j → tcl' k b = 0) → p_X5_clear_34 N Q K f (nI k) (nI j) tba tal tro tsc tcl' := by
  intro f
  induction f with
  | zero => intro j tcl' h1 h2; omega
  | succ f ih =>
    intro j tcl' h1 h2 i1 i2
    unfold p_X5_clear_34
    rw [show (25 : Int32) = nI 25 from by decide]
    refine ⟨fun h x ex => ?_, fun h => ⟨vp_in_nI (by omega) (by decide), ?_, fun x ex => ?_⟩⟩
    · have := (nI_ltI (by omega) (by omega)).mp h
      rw [ex, nI_1]
      exact hK tcl' i1 (fun b hb => i2 b (by omega))
    · refine vp_in_nI ?_ (by decide)
      apply Classical.byContradiction
      intro hn
      exact h (nI_lt (by omega) (by omega))
    · have hj : j < 26 := by
        apply Classical.byContradiction
        intro hn
        exact h (nI_lt (by omega) (by omega))
      rw [ex, nI_1, nI_clamp (show k < 2 ^ 31 by omega), nI_clamp (show j < 2 ^ 31 by omega), upR_st2]
      refine ih (j + 1) _ (by omega) (by omega) (fun a b ha => ?_) (fun b hb => ?_)
      · rw [st2_ne (fun q => ha q.1)]; exact i1 a b ha
      · by_cases e : b = j
        · subst e; exact st2_at
        · rw [st2_ne (fun q => e q.2)]; exact i2 b (by omega)
theorem clear63 {N : Nat} {Q : (Nat → Int32) → (Nat → Int32) → Int32 → Int64 → (Nat → Nat → Int64) → Prop} {tba : Nat → Int32} {tro : Int32} {tsc : Int64} {tcl : Nat → Nat → Int64} (hQ : ∀ tal', (∀ v, v < 25 → tal' v = 0) → Q tba tal' tro tsc tcl) :
    ∀ (f j : Nat) (tal' : Nat → Int32), j ≤ 25 → 25 < f + j → (∀ v, v < j → tal' v = 0) → p_X5_clear_63 N Q f (nI j) tba tal' tro tsc tcl := by
  intro f
  induction f with
  | zero => intro j tal' h1 h2; omega
  | succ f ih =>
    intro j tal' h1 h2 i1
    unfold p_X5_clear_63
    rw [show (25 : Int32) = nI 25 from by decide]
    refine ⟨fun h => ?_, fun h => ?_⟩
    · have := (nI_leI (by omega) (by omega)).mp h
      exact hQ tal' (fun v hv => i1 v (by omega))
    · have hj : j < 25 := by
        rcases Nat.lt_or_ge j 25 with h' | h'
        · exact h'
        · exact absurd (nI_le h' (by omega)) h
      refine ⟨vp_in_nI (by omega) (by decide), fun x ex => ?_⟩
      rw [ex, nI_1, nI_clamp (show j < 2 ^ 31 by omega), nar0]
      refine ih (j + 1) _ (by omega) (by omega) (fun v hv => ?_)
      by_cases e : v = j
      · subst e; exact pk_us
      · rw [pk_un e]; exact i1 v (by omega)
theorem clear_spec {N n : Nat} {Q : (Nat → Int32) → (Nat → Int32) → Int32 → Int64 → (Nat → Nat → Int64) → Prop} {tba tal : Nat → Int32} {tro : Int32} {tsc : Int64} {tcl : Nat → Nat → Int64} (hN : 100 ≤ N) (hn : n ≤ 7)
    (hQ : ∀ tba' tal' tcl', (∀ r, r < 10 → tba' r = -1) → (∀ v, v < 25 → tal' v = 0) → (∀ a b, a < 10 → b < 26 → tcl' a b = 0) → Q tba' tal' (nI (n + 3)) 1 tcl') : p_X5_clear N Q (nI n) tba tal tro tsc tcl := by
  unfold p_X5_clear
  intro v ev
  have e3 : (3 : Int32) + nI n = nI (n + 3) := by rw [show (3 : Int32) = nI 3 from by decide, nI_add, Nat.add_comm]
  have e10 : (10 : Int32) = nI 10 := by decide
  have ev' : v = nI (n + 3) := by
    rw [ev, e3, e10]
    by_cases h : nI 10 < nI (n + 3)
    · have := (nI_ltI (by omega) (by omega)).mp h
      omega
    · rw [if_neg h]
  subst ev'
  have loop : ∀ (f k : Nat) (tba' : Nat → Int32) (tcl' : Nat → Nat → Int64), k ≤ 10 → 10 < f + k → (∀ r, r < k → tba' r = -1) → (∀ a b, a < k → b < 26 → tcl' a b = 0) → p_X5_clear_19 N Q f (nI k) tba' tal (nI (n + 3)) 1 tcl' := by
    intro f
    induction f with
    | zero => intro k tba' tcl' h1 h2; omega
    | succ f ih =>
      intro k tba' tcl' h1 h2 i1 i2
      unfold p_X5_clear_19
      rw [e10]
      refine ⟨fun h => ?_, fun h => ?_⟩
      · have := (nI_leI (by omega) (by omega)).mp h
        rw [← nI_0]
        exact clear63 (fun tal' ht => hQ tba' tal' tcl' (fun r hr => i1 r (by omega)) ht (fun a b ha hb => i2 a b (by omega) hb)) N 0 tal (by omega) (by omega) (fun v hv => absurd hv (by omega))
      · have hk : k < 10 := by
          rcases Nat.lt_or_ge k 10 with h' | h'
          · exact h'
          · exact absurd (nI_le h' (by omega)) h
        refine ⟨vp_in_nI (by omega) (by decide), ?_⟩
        rw [nI_clamp (show k < 2 ^ 31 by omega), ← nI_0]
        refine clear34 hk (fun tcl2 j1 j2 => ?_) N 0 tcl' (by omega) (by omega) (fun _ _ _ => rfl) (fun b hb => absurd hb (by omega))
        refine ih (k + 1) _ tcl2 (by omega) (by omega) (fun r hr => ?_) (fun a b ha hb => ?_)
        · by_cases e : r = k
          · subst e; exact pk_us
          · rw [pk_un e]; exact i1 r (by omega)
        · by_cases e : a = k
          · subst e; exact j2 b hb
          · rw [j1 a b e]; exact i2 a b (by omega) hb
  rw [← nI_0]
  exact loop N 0 tba tcl (by omega) (by omega) (fun r hr => absurd hr (by omega)) (fun a b ha => absurd ha (by omega))
/-- the machines' rows -/
theorem start11 {N n L : Nat} {ti : Nat → Int32} {co x3 : Int32} {Q : Int32 → (Nat → Int32) → (Nat → Int32) → Int32 → Int64 → (Nat → Nat → Int64) → Prop} {tro : Int32} {tsc : Int64} (hL : L < 2 ^ 31)
    (hK : ∀ tba tal tcl, (∀ r, r < 3 → tba r = nI (21 + r)) → (∀ r, 3 ≤ r → r < 10 → tba r = -1) → (∀ v, v < 25 → tal v = if 21 ≤ v ∧ v < 24 then 1 else 0) →
      (∀ i c, i < 3 → c < 26 → (tcl i c).toInt = if c = 21 + i then 1 else if c = 24 then -1 else if c = 25 then (L : Int) else 0) → (∀ r c, 3 ≤ r → r < 10 → c < 26 → tcl r c = 0) → p_X5_start_86 N ti co Q N x3 (0 : Int32) tba tal tro tsc tcl) :
    ∀ (f k : Nat) (tba tal : Nat → Int32) (tcl : Nat → Nat → Int64), k ≤ 3 → 3 < f + k → (∀ r, r < k → tba r = nI (21 + r)) → (∀ r, k ≤ r → r < 10 → tba r = -1) → (∀ v, v < 25 → tal v = if 21 ≤ v ∧ v < 21 + k then 1 else 0) →
      (∀ i c, i < k → c < 26 → (tcl i c).toInt = if c = 21 + i then 1 else if c = 24 then -1 else if c = 25 then (L : Int) else 0) → (∀ r c, k ≤ r → r < 10 → c < 26 → tcl r c = 0) → p_X5_start_11 N ti co Q f (nI L) x3 (nI k) tba tal tro tsc tcl := by
  intro f
  induction f with
  | zero => intro k tba tal tcl h1 h2; omega
  | succ f ih =>
    intro k tba tal tcl h1 h2 i1 i2 i3 i4 i5
    unfold p_X5_start_11
    rw [show (3 : Int32) = nI 3 from by decide]
    refine ⟨fun h => ?_, fun h x5 e5 => ?_⟩
    · have := (nI_leI (by omega) (by omega)).mp h
      have e : k = 3 := by omega
      subst e
      exact hK tba tal tcl i1 i2 i3 i4 i5
    · have hk : k < 3 := by
        rcases Nat.lt_or_ge k 3 with h' | h'
        · exact h'
        · exact absurd (nI_le h' (by omega)) h
      rw [show (21 : Int32) = nI 21 from by decide, nI_add] at e5
      subst e5
      have hkin : vp_in (nI k) 10 := vp_in_nI (by omega) (by decide)
      refine ⟨hkin, vp_in_nI (by omega) (by decide), hkin, hkin, fun f7 ef => ⟨hkin, vp_in_nI (by omega) (by decide), fun x ex => ?_⟩⟩
      rw [ex, nI_1, nI_clamp (show k < 2 ^ 31 by omega), nI_clamp (show 21 + k < 2 ^ 31 by omega), upR_st2, upR_st2, upR_st2, nar1, c25, show ((24 : Int32)).toNatClampNeg = 24 from by decide]
      have ef7 : f7.toInt = L := by rw [ef, Int32.toInt_toInt64, nI_toInt hL]
      refine ih (k + 1) _ _ _ (by omega) (by omega) (fun r hr => ?_) (fun r h3 h4 => ?_) (fun v hv => ?_) (fun i c hi hc => ?_) (fun r c h3 h4 hc => ?_)
      · by_cases e : r = k
        · subst e; exact pk_us
        · rw [pk_un e]; exact i1 r (by omega)
      · rw [pk_un (by omega)]; exact i2 r (by omega) h4
      · by_cases e : v = 21 + k
        · subst e; rw [pk_us, if_pos (by omega)]
        · rw [pk_un e, i3 v hv]
          by_cases q : 21 ≤ v ∧ v < 21 + k
          · rw [if_pos q, if_pos (by omega)]
          · rw [if_neg q, if_neg (by omega)]
      · by_cases e : i = k
        · subst e
          by_cases e1 : c = 25
          · subst e1; rw [st2_at, ef7, if_neg (by omega), if_neg (by omega), if_pos rfl]
          · rw [st2_ne (fun q => e1 q.2)]
            by_cases e2 : c = 24
            · subst e2; rw [st2_at, if_neg (by omega), if_pos rfl]; decide
            · rw [st2_ne (fun q => e2 q.2)]
              by_cases e3 : c = 21 + i
              · subst e3; rw [st2_at, if_pos rfl]; decide
              · rw [st2_ne (fun q => e3 q.2), i5 i c (Nat.le_refl i) (by omega) hc, if_neg e3, if_neg e2, if_neg e1]; decide
        · rw [st2_ne (fun q => e q.1), st2_ne (fun q => e q.1), st2_ne (fun q => e q.1)]
          exact i4 i c (by omega) hc
      · rw [st2_ne (fun q => by omega), st2_ne (fun q => by omega), st2_ne (fun q => by omega)]
        exact i5 r c (by omega) h4 hc
