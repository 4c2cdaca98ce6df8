/-! the column with a sign, holding, a value -/
def alv (tal : Nat → Int32) : Nat → Prop := fun v => tal v ≠ 0
theorem one64 : ((1 : Int32)).toInt64.toInt = 1 := by decide
theorem m164 : ((-1 : Int32)).toInt64.toInt = -1 := by decide
theorem column_loop {N m ρ : Nat} {tal : Nat → Int32} {tcl : Nat → Nat → Int64} {Q : Int32 → Prop} {x2 : Int32} {sg : Int} (hm : m ≤ 10) (hρ : ρ < m) (hs : x2.toInt64.toInt = sg) (hsg : sg.natAbs ≤ 1) (hB : ∀ a, a < 25 → (TT tcl ρ a).natAbs ≤ 27000000)
    (q0 : (∀ v, v < 25 → alv tal v → ¬ 0 < TT tcl ρ v * sg) → Q (-1)) (q1 : ∀ c, c < 25 → alv tal c → 0 < TT tcl ρ c * sg → (∀ v, c < v → v < 25 → alv tal v → ¬ 0 < TT tcl ρ v * sg) → Q (nI c)) :
    ∀ (f k : Nat) (x3 : Int32), k ≤ 25 → k < f → x3 = nI k + (-1) → (∀ v, k ≤ v → v < 25 → alv tal v → ¬ 0 < TT tcl ρ v * sg) → p_X5_columnWithSign_3 N tal tcl Q f (nI ρ) x2 x3 := by
  intro f
  induction f with
  | zero => intro k x3 _ h; omega
  | succ f ih =>
    intro k x3 hk hf e3 hn
    unfold p_X5_columnWithSign_3
    cases k with
    | zero =>
      have e4 : x3 = -1 := by rw [e3]; decide
      subst e4
      exact ⟨fun _ => q0 (fun v hv => hn v (Nat.zero_le v) hv), fun h => absurd (by decide) h⟩
    | succ j =>
      rw [nIm1] at e3
      subst e3
      have hjin : vp_in (nI j) 25 := vp_in_nI (by omega) (by decide)
      have hjin2 : vp_in (nI j) 26 := vp_in_nI (by omega) (by decide)
      have hρin : vp_in (nI ρ) 10 := vp_in_nI (by omega) (by decide)
      rw [nI_clamp (show j < 2 ^ 31 by omega), nI_clamp (show ρ < 2 ^ 31 by omega)]
      have hv : (tcl ρ j * x2.toInt64).toInt = TT tcl ρ j * sg := by
        rw [i64_mul, hs]
        · rfl
        · rw [hs]
          exact Nat.lt_of_le_of_lt (nam (hB j (by omega)) hsg) (by decide)
      have next : (alv tal j → ¬ 0 < TT tcl ρ j * sg) → ∀ x : Int32, x = nI j + (-1) → p_X5_columnWithSign_3 N tal tcl Q f (nI ρ) x2 x := fun hj x ex => by
        refine ih j x (by omega) (by omega) ex (fun v h1 h2 => ?_)
        by_cases e : v = j
        · subst e; exact hj
        · exact hn v (by omega) h2
      refine ⟨fun h => absurd h (nI_pos (by omega)), fun _ => ⟨hjin, fun h0 => next (fun h => absurd h0 h), fun h0 => ⟨hρin, hjin2, fun hle => next (fun _ => ?_), fun hle => ?_⟩⟩⟩
      · have := i64_le0.mp hle
        rw [hv] at this; omega
      · refine q1 j (by omega) h0 ?_ (fun v h1 h2 => hn v (by omega) h2)
        have : ¬ (tcl ρ j * x2.toInt64).toInt ≤ 0 := fun q => hle (i64_le0.mpr q)
        rw [hv] at this; omega
theorem column_spec {N m ρ : Nat} {tal : Nat → Int32} {tcl : Nat → Nat → Int64} {Q : Int32 → Prop} {x2 : Int32} {sg : Int} (hN : 100 ≤ N) (hm : m ≤ 10) (hρ : ρ < m) (hs : x2.toInt64.toInt = sg) (hsg : sg.natAbs ≤ 1) (hB : ∀ a, a < 25 → (TT tcl ρ a).natAbs ≤ 27000000)
    (q0 : (∀ v, v < 25 → alv tal v → ¬ 0 < TT tcl ρ v * sg) → Q (-1)) (q1 : ∀ c, c < 25 → alv tal c → 0 < TT tcl ρ c * sg → (∀ v, c < v → v < 25 → alv tal v → ¬ 0 < TT tcl ρ v * sg) → Q (nI c)) : p_X5_columnWithSign N tal tcl Q (nI ρ) x2 := by
  unfold p_X5_columnWithSign
  exact column_loop hm hρ hs hsg hB q0 q1 N 25 24 (Nat.le_refl 25) (by omega) (by decide) (fun v h1 h2 => by omega)
theorem nar0 : vp_nar .boolean (0 : Int32) = 0 := by decide
theorem nar1 : vp_nar .boolean (1 : Int32) = 1 := by decide
theorem hold_loop {N m ρ : Nat} {tba : Nat → Int32} {tal : Nat → Int32} {tcl : Nat → Nat → Int64} {Q : (Nat → Int32) → Prop} (hm : m ≤ 10) (hρ : ρ < m) (hb : BOk m tba)
    (hQ : ∀ tal', (∀ v, v < 25 → (alv tal' v ↔ alv tal v ∧ ¬ (BB tba ρ ≠ v ∧ TT tcl ρ v ≠ 0))) → Q tal') :
    ∀ (f k : Nat) (tal' : Nat → Int32), k ≤ 25 → 25 < f + k → (∀ v, v < k → (alv tal' v ↔ alv tal v ∧ ¬ (BB tba ρ ≠ v ∧ TT tcl ρ v ≠ 0))) → (∀ v, k ≤ v → tal' v = tal v) → p_X5_hold_2 N tba tcl Q f (nI ρ) (nI k) tal' := by
  intro f
  induction f with
  | zero => intro k tal' h1 h2; omega
  | succ f ih =>
    intro k tal' h1 h2 i1 i2
    unfold p_X5_hold_2
    rw [show (25 : Int32) = nI 25 from by decide]
    refine ⟨fun h => ?_, fun h => ?_⟩
    · have := (nI_leI (by omega) (by omega)).mp h
      exact hQ tal' (fun v hv => i1 v (by omega))
    · have hk : k < 25 := by
        rcases Nat.lt_or_ge k 25 with h' | h'
        · exact h'
        · exact absurd (nI_le h' (by omega)) h
      have hkin : vp_in (nI k) 25 := vp_in_nI (by omega) (by decide)
      have hkin2 : vp_in (nI k) 26 := vp_in_nI (by omega) (by decide)
      have hρin : vp_in (nI ρ) 10 := vp_in_nI (by omega) (by decide)
      rw [nI_clamp (show k < 2 ^ 31 by omega), nI_clamp (show ρ < 2 ^ 31 by omega)]
      have keep : ¬ (BB tba ρ ≠ k ∧ TT tcl ρ k ≠ 0) → p_X5_hold_2 N tba tcl Q f (nI ρ) (nI (k + 1)) tal' := fun hc => by
        refine ih (k + 1) tal' (by omega) (by omega) (fun v hv => ?_) (fun v hv => i2 v (by omega))
        by_cases e : v = k
        · subst e
          have : tal' v = tal v := i2 v (Nat.le_refl v)
          unfold alv
          rw [this]
          exact ⟨fun q => ⟨q, hc⟩, fun q => q.1⟩
        · exact i1 v (by omega)
      refine ⟨hρin, hkin2, fun h0 x ex => ?_, fun h0 => ⟨hρin, fun hbk x ex => ?_, fun hbk => ⟨hkin, fun x ex => ?_⟩⟩⟩
      · rw [ex, nI_1]
        exact keep (fun q => q.2 (i64_0.mp h0))
      · rw [ex, nI_1]
        exact keep (fun q => q.1 ((hb.eq_iff hρ (by omega)).mp hbk))
      · rw [ex, nI_1, nar0]
        refine ih (k + 1) _ (by omega) (by omega) (fun v hv => ?_) (fun v hv => by rw [pk_un (by omega)]; exact i2 v (by omega))
        by_cases e : v = k
        · subst e
          unfold alv
          rw [pk_us]
          refine ⟨fun q => absurd rfl q, fun q => absurd ⟨fun e2 => hbk ((hb.eq_iff hρ (by omega)).mpr e2), fun e2 => h0 (i64_0.mpr e2)⟩ q.2⟩
        · unfold alv
          rw [pk_un e]
          exact i1 v (by omega)
theorem hold_spec {N m ρ : Nat} {tba : Nat → Int32} {tal : Nat → Int32} {tcl : Nat → Nat → Int64} {Q : (Nat → Int32) → Prop} (hN : 100 ≤ N) (hm : m ≤ 10) (hρ : ρ < m) (hb : BOk m tba)
    (hQ : ∀ tal', (∀ v, v < 25 → (alv tal' v ↔ alv tal v ∧ ¬ (BB tba ρ ≠ v ∧ TT tcl ρ v ≠ 0))) → Q tal') : p_X5_hold N tba tcl Q (nI ρ) tal := by
  unfold p_X5_hold
  rw [← nI_0]
  exact hold_loop hm hρ hb hQ N 0 tal (Nat.zero_le _) (by omega) (fun v hv => absurd hv (by omega)) (fun _ _ => rfl)
theorem scaled_spec {N m v : Nat} {tba : Nat → Int32} {tcl : Nat → Nat → Int64} {Q : Int64 → Prop} (hN : 100 ≤ N) (hm : m ≤ 10) (hv : v < 2 ^ 31) (hb : BOk m tba)
    (q0 : (∀ r, r < m → BB tba r ≠ v) → Q 0) (q1 : ∀ r, r < m → BB tba r = v → Q (tcl r 25)) : p_X5_scaledValue N tba (nI m) tcl Q (nI v) := by
  unfold p_X5_scaledValue
  refine rowOf_spec hN hm hv hb (fun h => ⟨fun _ => q0 h, fun h2 => absurd rfl h2⟩) (fun r hr e => ⟨fun h => absurd h (nI_ne_m1 (by omega)), fun _ => ⟨vp_in_nI (by omega) (by decide), ?_⟩⟩)
  rw [nI_clamp (show r < 2 ^ 31 by omega), c25]
  exact q1 r hr e
/-- the search for the variable's value, as one number -/
theorem scaled_vl {N m v : Nat} {A : Nat → Nat → Int} {tba : Nat → Int32} {tsc : Int64} {tcl : Nat → Nat → Int64} {Q : Int64 → Prop} (hN : 100 ≤ N) (hm : m ≤ 10) (hv : v < 2 ^ 31) (hb : BOk m tba) (hT : Tb m 25 A (TT tcl) (BB tba) tsc.toInt)
    (hQ : ∀ y : Int64, y.toInt = vl m 25 (TT tcl) (BB tba) v → Q y) : p_X5_scaledValue N tba (nI m) tcl Q (nI v) := by
  refine scaled_spec hN hm hv hb (fun h => hQ 0 ?_) (fun r hr e => hQ _ ?_)
  · rw [vl_off h]; rfl
  · rw [← e, vl_b hT hr]; rfl
