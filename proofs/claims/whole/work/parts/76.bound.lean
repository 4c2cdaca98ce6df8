/-! the reference: what a limit fits, the bound, the least greatest load -/
theorem rcell {r c : Nat} : (27 : Int32) * nI r + (26 : Int32) = nI (27 * r + 26) := by rw [show (26 : Int32) = nI 26 from by decide, ix27]
theorem RS.keep {n T : Nat} {cap R : Int} {tm : Nat → Int} {mta : Nat → Int64} {mba mib : Nat → Int32} {mdi : Int64} (hn : n ≤ 7) (h : RS n R T tm mta mba mib mdi) (hle : vl (n + 4) 26 (UT mta) (BB mba) 21 ≤ T * mdi.toInt) : Keep n tm T := by
  obtain ⟨⟨d1, d2, d3, d4⟩, -, -⟩ := h.dv hn
  exact ⟨_, _, h.2.1.pos, d1, d2, d3, fun i hi => Int.le_trans (d4 i hi) hle⟩
/-- a row that no column lowers: its load is the least -/
theorem RS.least {n : Nat} {cap : Int} {tm x : Nat → Int} {mta : Nat → Int64} {mba mib : Nat → Int32} {mdi : Int64} {ρ : Nat} {t E : Int} (hn : n ≤ 7) (h : RS n 400 cap tm mta mba mib mdi) (hal : ∀ v, v < 26 → (alR mib v ↔ al0R n cap tm v)) (hρ : ρ < n + 4) (hg : BB mba ρ = 21) (hno : ∀ k, k < 26 → alR mib k → (∀ s, s < n + 4 → BB mba s ≠ k) → UT mta ρ k ≤ 0)
    (hE0 : 0 ≤ E) (hE : E ≤ 400 * t) (hD : DV n cap tm x t E) : vl (n + 4) 26 (UT mta) (BB mba) 21 * t ≤ E * mdi.toInt := by
  obtain ⟨y, hy, hy26, hy21, -⟩ := FZ_RA (R := 400) hn hE0 hE hD
  have h1 := opt_min h.2.1 hy hρ (fun k hk hka hnb => hno k hk ((hal k hk).mpr hka) hnb)
  have hv : vl (n + 4) 26 (UT mta) (BB mba) 21 = UT mta ρ 26 := by rw [← hg]; exact vl_b h.2.1 hρ
  rw [hg, hy21, hy26, Int.neg_neg] at h1
  rw [hv, Int.mul_comm E]; exact h1
theorem r_fits {N n T : Nat} {ti : Nat → Int32} {Q : Int32 → (Nat → Int64) → (Nat → Int32) → (Nat → Int32) → Int64 → Prop} {mta : Nat → Int64} {mba mib : Nat → Int32} {mdi : Int64} (hN : 2000000000 ≤ N) (hJ : JI n ti) (hn0 : 0 < n) (hT : T ≤ 400)
    (q0 : ¬ Keep n (tmI ti) T → ∀ mta mba mib mdi, Q 0 mta mba mib mdi)
    (q1 : Keep n (tmI ti) T → ∀ mta mba mib mdi, RS n 400 T (tmI ti) mta mba mib mdi → (∀ v, v < 26 → (alR mib v ↔ al0R n T (tmI ti) v)) → vl (n + 4) 26 (UT mta) (BB mba) 21 ≤ T * mdi.toInt → Q 1 mta mba mib mdi) : p_X7_fits N ti (nI n) Q (nI T) mta mba mib mdi := by
  have hn := hJ.1
  have ht : ∀ c, c < 3 * n → 0 ≤ tmI ti c ∧ tmI ti c ≤ 50 := fun c hc => hJ.tm hc
  unfold p_X7_fits
  refine r_lays (by omega) hJ (by omega) (fun ⟨j, hj, hno⟩ mta mba mib mdi => ⟨fun _ => q0 (fun hK => hno (Keep_has hK hj)) _ _ _ _, fun h => absurd rfl h⟩) (fun hall mta mba mib hU hb1 hb3 hal => ⟨fun h => absurd h (by decide), fun _ => ?_⟩)
  refine r_starts (by omega) hJ hall hU hb1 hb3 hal (fun mta mba mdi hS => ?_)
  refine r_lowers hN hn hn0 (by decide) (by decide) ht hS (fun mta mba mdi ρ hS hρ hg hno => ?_)
  rw [rcell (c := 0), nI_clamp (show 27 * ρ + 26 < 2 ^ 31 by omega), nI_l (show T < 2 ^ 31 by omega)]
  have hv : vl (n + 4) 26 (UT mta) (BB mba) 21 = (mta (27 * ρ + 26)).toInt := by rw [← hg]; exact vl_b hS.2.1 hρ
  have hd := hS.2.1.pos
  have hdl := (hS.bound hn (by decide) (by decide) ht).1
  have hm : (lN T * mdi).toInt = T * mdi.toInt := by
    rw [i64_mul, pk_lT (by omega)]
    rw [pk_lT (by omega)]
    exact Nat.lt_of_le_of_lt (nam (A := 400) (B := 27000000) (by omega) hdl) (by decide)
  refine ⟨in297 (by omega) (by omega), fun hlt => q0 (fun ⟨x, t, htp, hF⟩ => ?_) _ _ _ _, fun hge => ?_⟩
  · have hlt' := Int64.lt_iff_toInt_lt.mp hlt
    rw [hm, ← hv] at hlt'
    have hTt : (T : Int) * t ≤ 400 * t := Int.mul_le_mul_of_nonneg_right (by omega) (by omega)
    have h1 := hS.least hn hal hρ hg hno (Int.mul_nonneg (by omega) (by omega)) hTt hF
    have h2 : vl (n + 4) 26 (UT mta) (BB mba) 21 * t ≤ (T * mdi.toInt) * t := by
      rw [show (T : Int) * mdi.toInt * t = T * t * mdi.toInt by rw [Int.mul_assoc, Int.mul_comm mdi.toInt, Int.mul_assoc]]; exact h1
    have h3 := Int.le_of_mul_le_mul_right h2 htp
    omega
  · have hge' : ¬ (lN T * mdi).toInt < (mta (27 * ρ + 26)).toInt := fun q => hge (Int64.lt_iff_toInt_lt.mpr q)
    rw [hm, ← hv] at hge'
    have hle : vl (n + 4) 26 (UT mta) (BB mba) 21 ≤ T * mdi.toInt := by omega
    exact q1 (hS.keep (cap := 0) hn hle) mta mba mib mdi hS hal hle
theorem Keep_0 {tm : Nat → Int} {T : Nat} : Keep 0 tm T := by
  refine ⟨fun _ => 0, 1, by decide, fun c hc => absurd hc (by omega), fun c hc => absurd hc (by omega), fun j hj => absurd hj (by omega), fun i hi => ?_⟩
  show (0 : Int) ≤ T * 1
  omega
/-- the bound -/
def Bnd (n : Nat) (tm : Nat → Int) (T : Nat) : Prop := T ≤ 350 ∧ Keep n tm T ∧ ∀ T', T' < T → ¬ Keep n tm T'
theorem Bnd.uniq {n : Nat} {tm : Nat → Int} {T T' : Nat} (h : Bnd n tm T) (g : Bnd n tm T') : T = T' := by
  rcases Nat.lt_trichotomy T T' with q | q | q
  · exact absurd h.2.1 (g.2.2 T q)
  · exact q
  · exact absurd g.2.1 (h.2.2 T' q)
theorem r_bound {N n : Nat} {ti : Nat → Int32} {Q : Int32 → (Nat → Int64) → (Nat → Int32) → (Nat → Int32) → Int64 → Prop} {mta : Nat → Int64} {mba mib : Nat → Int32} {mdi : Int64} (hN : 2000000000 ≤ N) (hJ : JI n ti) (hall : ∀ j, j < n → hasC 50 (tmI ti) j)
    (hQ : ∀ (T : Nat) mta mba mib mdi, Bnd n (tmI ti) T → (0 < n → RS n 400 T (tmI ti) mta mba mib mdi ∧ (∀ v, v < 26 → (alR mib v ↔ al0R n T (tmI ti) v)) ∧ vl (n + 4) 26 (UT mta) (BB mba) 21 ≤ T * mdi.toInt) → Q (nI T) mta mba mib mdi) : p_X7_boundOf N ti (nI n) Q mta mba mib mdi := by
  have hn := hJ.1
  have loop : ∀ (f T : Nat) (mta : Nat → Int64) (mba mib : Nat → Int32) (mdi : Int64), T ≤ 350 → 351 ≤ f + T → (∀ T', T' < T → ¬ Keep n (tmI ti) T') → p_X7_boundOf_2 N ti (nI n) Q f (nI T) mta mba mib mdi := by
    intro f
    induction f with
    | zero => intro T mta mba mib mdi h1 h2; omega
    | succ f ih =>
      intro T mta mba mib mdi h1 h2 hno
      unfold p_X7_boundOf_2
      refine ⟨fun h => ?_, fun h => ?_⟩
      · have h0 : n ≤ 0 := (nI_leI (a := n) (b := 0) (by omega) (by omega)).mp (by rw [nI_0]; exact h)
        have e : n = 0 := by omega
        subst e
        exact hQ T mta mba mib mdi ⟨h1, Keep_0, hno⟩ (fun q => absurd q (by omega))
      · have hn0 : 0 < n := by
          rcases Nat.eq_zero_or_pos n with q | q
          · subst q; exact absurd (by rw [nI_0]; decide) h
          · exact q
        refine r_fits hN hJ hn0 (by omega) (fun hk mta mba mib mdi => ⟨fun _ x ex => ?_, fun q => absurd rfl q⟩) (fun hk mta mba mib mdi hS hal hle => ⟨fun q => absurd q (by decide), fun _ => ?_⟩)
        · have hT : T < 350 := by
            rcases Nat.lt_or_ge T 350 with q | q
            · exact q
            · exact absurd (Keep_big hJ hall q) hk
          rw [ex, nI_1]
          refine ih (T + 1) mta mba mib mdi (by omega) (by omega) (fun T' hT' => ?_)
          by_cases e : T' = T
          · subst e; exact hk
          · exact hno T' (by omega)
        · exact hQ T mta mba mib mdi ⟨h1, hk, hno⟩ (fun _ => ⟨hS, hal, hle⟩)
  unfold p_X7_boundOf
  rw [← nI_0]
  exact loop N 0 mta mba mib mdi (by omega) (by omega) (fun T' hT' => absurd hT' (by omega))
theorem r_common {N : Nat} {Q : Int64 → Prop} {a b : Nat} (hN : 1000 ≤ N) (ha : a < 2 ^ 62) (hb : b < 2 ^ 62) (hQ : Q (lN (Nat.gcd a b))) : p_X7_common N Q (lN a) (lN b) := by
  have loop : ∀ (f a b k : Nat), a < 2 ^ 62 → b < 2 ^ 62 → b < 2 ^ k → 2 * k + 2 ≤ f → Q (lN (Nat.gcd a b)) → p_X7_common_6 N Q f (lN a) (lN b) := by
    intro f
    induction f using Nat.strongRecOn with
    | ind f ih =>
      intro a b k ha hb hk hf hQ
      match f, ih with
      | 0, _ => omega
      | f + 1, ih =>
        unfold p_X7_common_6
        refine ⟨fun h0 => ?_, fun h0 => ⟨h0, fun y ey => ?_⟩⟩
        · rw [← lN_0] at h0
          have := lN_inj (by omega) (by decide) h0
          subst this
          rw [Nat.gcd_zero_right] at hQ
          exact hQ
        · have hb0 : 0 < b := by
            rcases Nat.eq_zero_or_pos b with h | h
            · subst h; exact absurd lN_0 h0
            · exact h
          rw [pk_lRem (by omega) hb0 (by omega)] at ey
          subst ey
          have hr : a % b < b := Nat.mod_lt a hb0
          have hQ2 : Q (lN (Nat.gcd b (a % b))) := by
            rw [Nat.gcd_comm b, ← Nat.gcd_rec, Nat.gcd_comm]; exact hQ
          match f, ih with
          | 0, _ => omega
          | f + 1, ih =>
            unfold p_X7_common_6
            refine ⟨fun h1 => ?_, fun h1 => ⟨h1, fun y ey => ?_⟩⟩
            · rw [← lN_0] at h1
              have := lN_inj (by omega) (by decide) h1
              rw [this, Nat.gcd_zero_right] at hQ2
              exact hQ2
            · have hr0 : 0 < a % b := by
                rcases Nat.eq_zero_or_pos (a % b) with h | h
                · rw [h] at h1; exact absurd lN_0 h1
                · exact h
              rw [pk_lRem (by omega) hr0 (by omega)] at ey
              subst ey
              have hq : b % (a % b) < a % b := Nat.mod_lt _ hr0
              have hq2 : b % (a % b) + (a % b) ≤ b := by
                have h2 := Nat.div_add_mod b (a % b)
                have h3 : 1 ≤ b / (a % b) := (Nat.one_le_div_iff hr0).mpr (Nat.le_of_lt hr)
                have h4 : (a % b) * 1 ≤ (a % b) * (b / (a % b)) := Nat.mul_le_mul (Nat.le_refl _) h3
                omega
              have hQ3 : Q (lN (Nat.gcd (a % b) (b % (a % b)))) := by
                rw [Nat.gcd_comm (a % b), ← Nat.gcd_rec, Nat.gcd_comm]; exact hQ2
              match k with
              | 0 => have : b < 1 := hk; omega
              | k + 1 =>
                rw [Nat.pow_succ] at hk
                exact ih f (by omega) (a % b) (b % (a % b)) k (by omega) (by omega) (by omega) (by omega) hQ3
  unfold p_X7_common
  exact loop N a b 62 ha hb hb (by omega) hQ
/-- least(isAbove) -/
theorem r_least {N n : Nat} {ti : Nat → Int32} {Q : Int32 → (Nat → Int64) → (Nat → Int32) → (Nat → Int32) → Int64 → Int32 → Prop} {mta : Nat → Int64} {mba mib : Nat → Int32} {mdi : Int64} {mth x1 : Int32} (hN : 2000000000 ≤ N) (hJ : JI n ti) (hall : ∀ j, j < n → hasC 50 (tmI ti) j)
    (hQ : ∀ (v d : Nat) mta mba mib mdi, Least n (tmI ti) v d → Q (if x1 = 0 then fden v d else fnum v d) mta mba mib mdi 0) : p_X7_least N ti (nI n) Q x1 mta mba mib mdi mth := by
  have hn := hJ.1
  have ht : ∀ c, c < 3 * n → 0 ≤ tmI ti c ∧ tmI ti c ≤ 50 := fun c hc => hJ.tm hc
  unfold p_X7_least
  refine ⟨fun h => ?_, fun h => ?_⟩
  · have h0 : n = 0 := nI_inj (by omega) (by omega) (by rw [nI_0]; exact h)
    subst h0
    have hL : Least 0 (tmI ti) ((0 : Nat) : Int) ((1 : Nat) : Int) := by
      refine ⟨by decide, ⟨fun _ => 0, 1, 0, by decide, ⟨fun c hc => absurd hc (by omega), fun c hc => absurd hc (by omega), fun j hj => absurd hj (by omega), fun i hi => Int.le_refl 0⟩, by decide⟩, fun x t E ht hE => ?_⟩
      have h1 : (0 : Int) ≤ E := hE.2.2.2 0 (by omega)
      show (0 : Int) * t ≤ E * 1
      omega
    have f1 : fden 0 1 = 1 := by decide
    have f2 : fnum 0 1 = 0 := by decide
    have hq := hQ 0 1 mta mba mib mdi hL
    rw [f1, f2] at hq
    refine ⟨fun e => ?_, fun e => ?_⟩
    · rw [if_pos e] at hq; exact hq
    · rw [if_neg e] at hq; exact hq
  · have hn0 : 0 < n := by
      rcases Nat.eq_zero_or_pos n with q | q
      · subst q; exact absurd nI_0 h
      · exact q
    rw [show (50 : Int32) = nI 50 from by decide]
    refine r_lays (by omega) hJ (by omega) (fun ⟨j, hj, hno⟩ => absurd (hall j hj) hno) (fun _ mta mba mib hU hb1 hb3 hal => ?_)
    refine r_starts (by omega) hJ hall hU hb1 hb3 hal (fun mta mba mdi hS => ?_)
    refine r_lowers hN hn hn0 (by decide) (by decide) ht hS (fun mta mba mdi ρ hS hρ hg hno => ?_)
    rw [rcell (c := 0), nI_clamp (show 27 * ρ + 26 < 2 ^ 31 by omega)]
    refine ⟨in297 (by omega) (by omega), fun x3 e3 => ?_⟩
    have hv : vl (n + 4) 26 (UT mta) (BB mba) 21 = (mta (27 * ρ + 26)).toInt := by rw [← hg]; exact vl_b hS.2.1 hρ
    have hd := hS.2.1.pos
    obtain ⟨hdl, -, hrl⟩ := hS.bound hn (by decide) (by decide) ht
    have hv0 := vl_nonneg (b := BB mba) hS.2.2.1 21
    have hrl' := hrl ρ hρ
    have hL : Least n (tmI ti) (vl (n + 4) 26 (UT mta) (BB mba) 21) mdi.toInt := by
      obtain ⟨hD, hR, -⟩ := hS.dv hn
      have h25 := vl_nonneg (b := BB mba) hS.2.2.1 25
      refine ⟨hd, ⟨_, _, _, hd, hD, rfl⟩, fun x t E htp hE => ?_⟩
      have hE0 : 0 ≤ E := Int.le_trans (sm_nonneg (fun j hj => Int.mul_nonneg (ht _ (by omega)).1 (hE.1 _ (by omega)))) (hE.2.2.2 0 (by omega))
      rcases Int.lt_or_le (400 * t) E with q | q
      · -- a load above 400 t
        have h1 : vl (n + 4) 26 (UT mta) (BB mba) 21 * t ≤ (400 * mdi.toInt) * t := Int.mul_le_mul_of_nonneg_right (by omega) (by omega)
        have h2 : (400 * t) * mdi.toInt ≤ E * mdi.toInt := Int.mul_le_mul_of_nonneg_right (by omega) (by omega)
        have h3 : (400 * mdi.toInt) * t = (400 * t) * mdi.toInt := by rw [Int.mul_assoc, Int.mul_comm mdi.toInt, Int.mul_assoc]
        omega
      · exact hS.least hn hal hρ hg hno hE0 q hE
    obtain ⟨v, hvN⟩ := Int.eq_ofNat_of_zero_le hv0
    obtain ⟨d, hdN⟩ := Int.eq_ofNat_of_zero_le (Int.le_of_lt hd)
    rw [hvN, hdN] at hL
    have hvr : UT mta ρ 26 = v := by rw [← hvN, hv]; rfl
    have e1 : x3 = lN v := lN_of (by rw [e3, ← hv, hvN]) (by omega)
    have e2 : mdi = lN d := lN_of hdN (by omega)
    obtain ⟨f1, f2, f3⟩ := frac_rows (v := v) (d := d) (by omega) (by omega) (by omega)
    have hq := hQ v d mta mba mib mdi hL
    have key : p_X7_common N (fun r_16 => (x1 = 0 → ((¬ r_16 = 0) ∧ (Q ((mdi / r_16).toInt32) mta mba mib mdi (0 : Int32)))) ∧ (¬ x1 = 0 → ((¬ r_16 = 0) ∧ (Q ((x3 / r_16).toInt32) mta mba mib mdi (0 : Int32))))) (lN d) (lN v) := by
      refine r_common (by omega) (by omega) (by omega) ?_
      rw [Nat.gcd_comm]
      refine ⟨fun e => ⟨f3, ?_⟩, fun e => ⟨f3, ?_⟩⟩
      · rw [if_pos e] at hq
        have : (mdi / lN (Nat.gcd v d)).toInt32 = fden v d := by rw [← f2, ← e2]
        rw [this]; exact hq
      · rw [if_neg e] at hq
        have : (x3 / lN (Nat.gcd v d)).toInt32 = fnum v d := by rw [← f1, ← e1]
        rw [this]; exact hq
    rw [← e1, ← e2] at key
    exact key
