/-! greatest common divisors and fractions in lowest terms -/
theorem lN_0 : lN 0 = 0 := by decide
theorem lN_inj {a b : Nat} (ha : a < 2 ^ 63) (hb : b < 2 ^ 63) (h : lN a = lN b) : a = b := (pk_lEQ ha hb).mp h
theorem lN_of {x : Int64} {v : Nat} (h : x.toInt = v) (hv : v < 2 ^ 63) : x = lN v := by
  rw [← Int64.toInt_inj, pk_lT hv, h]
theorem gcd_loop {N : Nat} {Q : Int64 → Prop} : ∀ (f a b s k : Nat), a < 2 ^ 62 → b < 2 ^ 62 → b < 2 ^ k → 2 * k + 2 ≤ f → s + 2 * k + 2 ≤ 1000 → Q (lN (Nat.gcd a b)) → p_X0_commonDivisor_9 N Q f (lN a) (lN b) (nI s) := by
  intro f
  induction f using Nat.strongRecOn with
  | ind f ih =>
    intro a b s k ha hb hk hf hs hQ
    match f, ih with
    | 0, _ => omega
    | f + 1, ih =>
      unfold p_X0_commonDivisor_9
      rw [show (1000 : Int32) = nI 1000 from by decide]
      refine ⟨fun h => ?_, fun _ => ⟨fun h0 => ?_, fun h0 => ⟨h0, fun y ey x ex => ?_⟩⟩⟩
      · have := (nI_leI (by omega) (by omega)).mp h; omega
      · rw [← lN_0] at h0
        have := lN_inj (by omega) (by decide) h0
        subst this
        rw [Nat.gcd_zero_right] at hQ
        exact hQ
      · have hb0 : 0 < b := by
          rcases Nat.eq_zero_or_pos b with h | h
          · subst h; exact absurd lN_0 h0
          · exact h
        rw [pk_lRem (by omega) hb0 (by omega)] at ey
        subst ey
        rw [ex, nI_1]
        have hr : a % b < b := Nat.mod_lt a hb0
        have hQ2 : Q (lN (Nat.gcd b (a % b))) := by
          rw [Nat.gcd_comm b, ← Nat.gcd_rec, Nat.gcd_comm]; exact hQ
        -- one step more, by hand
        match f, ih with
        | 0, _ => omega
        | f + 1, ih =>
          unfold p_X0_commonDivisor_9
          rw [show (1000 : Int32) = nI 1000 from by decide]
          refine ⟨fun h => ?_, fun _ => ⟨fun h1 => ?_, fun h1 => ⟨h1, fun y ey x ex => ?_⟩⟩⟩
          · have := (nI_leI (by omega) (by omega)).mp h; omega
          · rw [← lN_0] at h1
            have := lN_inj (by omega) (by decide) h1
            rw [this, Nat.gcd_zero_right] at hQ2
            exact hQ2
          · have hr0 : 0 < a % b := by
              rcases Nat.eq_zero_or_pos (a % b) with h | h
              · rw [h] at h1; exact absurd lN_0 h1
              · exact h
            rw [pk_lRem (by omega) hr0 (by omega)] at ey
            subst ey
            rw [ex, nI_1]
            have hq : b % (a % b) < a % b := Nat.mod_lt _ hr0
            have hq2 : b % (a % b) + (a % b) ≤ b := by
              have h2 := Nat.div_add_mod b (a % b)
              have h3 : 1 ≤ b / (a % b) := (Nat.one_le_div_iff hr0).mpr (Nat.le_of_lt hr)
              have h4 : (a % b) * 1 ≤ (a % b) * (b / (a % b)) := Nat.mul_le_mul (Nat.le_refl _) h3
              omega
            have hQ3 : Q (lN (Nat.gcd (a % b) (b % (a % b)))) := by
              rw [Nat.gcd_comm (a % b), ← Nat.gcd_rec, Nat.gcd_comm]; exact hQ2
            match k with
            | 0 => have : b < 1 := hk; omega
            | k + 1 =>
              rw [Nat.pow_succ] at hk
              exact ih f (by omega) (a % b) (b % (a % b)) (s + 1 + 1) k (by omega) (by omega) (by omega) (by omega) (by omega) hQ3
theorem gcd_spec {N : Nat} {Q : Int64 → Prop} {a b : Nat} (hN : 1000 ≤ N) (ha : a < 2 ^ 62) (hb : b < 2 ^ 62) (hQ : Q (lN (Nat.gcd a b))) : p_X0_commonDivisor N Q (lN a) (lN b) := by
  unfold p_X0_commonDivisor
  rw [← nI_0]
  exact gcd_loop N a b 0 62 ha hb hb (by omega) (by omega) hQ
/-- a fraction in lowest terms, as the program lays it down -/
def fnum (v d : Nat) : Int32 := nI (v / Nat.gcd v d)
def fden (v d : Nat) : Int32 := nI (d / Nat.gcd v d)
theorem frac_same {v d w e : Nat} (hd : 0 < d) (he : 0 < e) (h : v * e = w * d) : v / Nat.gcd v d = w / Nat.gcd w e ∧ d / Nat.gcd v d = e / Nat.gcd w e := by
  have g1 : 0 < Nat.gcd v d := Nat.gcd_pos_of_pos_right v hd
  have g2 : 0 < Nat.gcd w e := Nat.gcd_pos_of_pos_right w he
  obtain ⟨v', hv⟩ := Nat.gcd_dvd_left v d
  obtain ⟨d', hd'⟩ := Nat.gcd_dvd_right v d
  obtain ⟨w', hw⟩ := Nat.gcd_dvd_left w e
  obtain ⟨e', he'⟩ := Nat.gcd_dvd_right w e
  have c1 : Nat.Coprime (v / Nat.gcd v d) (d / Nat.gcd v d) := Nat.coprime_div_gcd_div_gcd g1
  have c2 : Nat.Coprime (w / Nat.gcd w e) (e / Nat.gcd w e) := Nat.coprime_div_gcd_div_gcd g2
  have ev : v / Nat.gcd v d = v' := by rw [Nat.div_eq_of_eq_mul_right g1 hv]
  have ed : d / Nat.gcd v d = d' := by rw [Nat.div_eq_of_eq_mul_right g1 hd']
  have ew : w / Nat.gcd w e = w' := by rw [Nat.div_eq_of_eq_mul_right g2 hw]
  have ee : e / Nat.gcd w e = e' := by rw [Nat.div_eq_of_eq_mul_right g2 he']
  rw [ev, ed] at c1 ⊢
  rw [ew, ee] at c2 ⊢
  have hx : v' * e' = w' * d' := by
    have h1 : (Nat.gcd v d * Nat.gcd w e) * (v' * e') = (Nat.gcd v d * Nat.gcd w e) * (w' * d') := by
      have l1 : (Nat.gcd v d * Nat.gcd w e) * (v' * e') = (Nat.gcd v d * v') * (Nat.gcd w e * e') := by
        rw [Nat.mul_assoc, Nat.mul_assoc, Nat.mul_left_comm (Nat.gcd w e)]
      have l2 : (Nat.gcd v d * Nat.gcd w e) * (w' * d') = (Nat.gcd w e * w') * (Nat.gcd v d * d') := by
        rw [Nat.mul_comm (Nat.gcd v d), Nat.mul_assoc, Nat.mul_assoc, Nat.mul_left_comm (Nat.gcd v d)]
      rw [l1, l2, ← hv, ← he', ← hw, ← hd']; exact h
    exact Nat.eq_of_mul_eq_mul_left (Nat.mul_pos g1 g2) h1
  have d1 : d' ∣ e' := c1.symm.dvd_of_dvd_mul_left (by rw [hx]; exact Nat.dvd_mul_left d' w')
  have d2 : e' ∣ d' := c2.symm.dvd_of_dvd_mul_left (by rw [← hx]; exact Nat.dvd_mul_left e' v')
  have hde : d' = e' := Nat.dvd_antisymm d1 d2
  refine ⟨?_, hde⟩
  subst hde
  have hd0 : 0 < d' := by
    rcases Nat.eq_zero_or_pos d' with h0 | h0
    · rw [h0, Nat.mul_zero] at hd'; omega
    · exact h0
  exact Nat.eq_of_mul_eq_mul_right hd0 hx
theorem frac_whole {v d : Nat} (hd : 0 < d) (hv : 0 < v) (hle : v ≤ d) : d / Nat.gcd v d = 1 ↔ v = d := by
  have g1 : 0 < Nat.gcd v d := Nat.gcd_pos_of_pos_right v hd
  constructor
  · intro h
    obtain ⟨d', hd'⟩ := Nat.gcd_dvd_right v d
    have ed : d / Nat.gcd v d = d' := by rw [Nat.div_eq_of_eq_mul_right g1 hd']
    rw [ed] at h
    subst h
    rw [Nat.mul_one] at hd'
    have := Nat.le_of_dvd hv (Nat.gcd_dvd_left v d)
    omega
  · intro h
    subst h
    rw [Nat.gcd_self]
    exact Nat.div_self hd
theorem frac_zero {v d : Nat} (hd : 0 < d) : 0 < v / Nat.gcd v d ↔ 0 < v := by
  have g1 : 0 < Nat.gcd v d := Nat.gcd_pos_of_pos_right v hd
  constructor
  · intro h
    rcases Nat.eq_zero_or_pos v with h0 | h0
    · rw [h0, Nat.zero_div] at h; omega
    · exact h0
  · intro h
    exact Nat.div_pos (Nat.le_of_dvd h (Nat.gcd_dvd_left v d)) g1
