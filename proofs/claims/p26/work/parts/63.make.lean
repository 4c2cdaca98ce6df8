theorem Keep_has {n T : Nat} {tm : Nat → Int} (h : Keep n tm T) {j : Nat} (hj : j < n) : hasC T tm j := by
  obtain ⟨x, t, ht, h0, hz, hJ, -⟩ := h
  apply Classical.byContradiction
  intro hno
  have z : ∀ i, i < 3 → ¬ okC T tm (3 * j + i) := fun i hi q => hno (by
    rcases (show i = 0 ∨ i = 1 ∨ i = 2 by omega) with rfl | rfl | rfl
    · exact Or.inl q
    · exact Or.inr (Or.inl q)
    · exact Or.inr (Or.inr q))
  have h1 := hJ j hj
  have z0 : x (3 * j) = 0 := hz _ (by omega) (z 0 (by omega))
  have z1 : x (3 * j + 1) = 0 := hz _ (by omega) (z 1 (by omega))
  have z2 : x (3 * j + 2) = 0 := hz _ (by omega) (z 2 (by omega))
  omega
theorem Keep.mono {n T T' : Nat} {tm : Nat → Int} (h : Keep n tm T) (hT : T ≤ T') : Keep n tm T' := by
  obtain ⟨x, t, ht, h0, hz, hJ, hM⟩ := h
  refine ⟨x, t, ht, h0, fun c hc ho => hz c hc (fun q => ho ⟨q.1, by omega⟩), hJ, fun i hi => Int.le_trans (hM i hi) ?_⟩
  exact Int.mul_le_mul_of_nonneg_right (by omega) (by omega)
/-- each job whole on the lowest machine that may have it -/
theorem Keep_big {n T : Nat} {ti : Nat → Int32} (hJ : JI n ti) (hall : ∀ j, j < n → hasC 50 (tmI ti) j) (hT : 350 ≤ T) : Keep n (tmI ti) T := by
  have hn := hJ.1
  have hk : ∀ j, j < n → okC 50 (tmI ti) (keyC 50 (tmI ti) j) ∧ 3 * j ≤ keyC 50 (tmI ti) j ∧ keyC 50 (tmI ti) j < 3 * j + 3 := fun j hj => keyC_ok (hall j hj)
  refine ⟨fun c => if c = keyC 50 (tmI ti) (c / 3) then 1 else 0, 1, by decide, fun c _ => ?_, fun c hc ho => ?_, fun j hj => ?_, fun i hi => ?_⟩
  · show 0 ≤ if c = keyC 50 (tmI ti) (c / 3) then (1 : Int) else 0
    split <;> decide
  · show (if c = keyC 50 (tmI ti) (c / 3) then (1 : Int) else 0) = 0
    rw [if_neg]
    intro e
    have h1 := (hk (c / 3) (by omega)).1
    rw [← e] at h1
    exact ho ⟨h1.1, Int.le_trans h1.2 (by omega)⟩
  · obtain ⟨h1, h2, h3⟩ := hk j hj
    show (if 3 * j = keyC 50 (tmI ti) (3 * j / 3) then (1 : Int) else 0) + (if 3 * j + 1 = keyC 50 (tmI ti) ((3 * j + 1) / 3) then 1 else 0) + (if 3 * j + 2 = keyC 50 (tmI ti) ((3 * j + 2) / 3) then 1 else 0) = 1
    rw [show 3 * j / 3 = j by omega, show (3 * j + 1) / 3 = j by omega, show (3 * j + 2) / 3 = j by omega]
    rcases (show keyC 50 (tmI ti) j = 3 * j ∨ keyC 50 (tmI ti) j = 3 * j + 1 ∨ keyC 50 (tmI ti) j = 3 * j + 2 by omega) with q | q | q
    · rw [if_pos q.symm, if_neg (by omega), if_neg (by omega)]; rfl
    · rw [if_neg (by omega), if_pos q.symm, if_neg (by omega)]; rfl
    · rw [if_neg (by omega), if_neg (by omega), if_pos q.symm]; rfl
  · have h1 : sm n (fun j => tmI ti (3 * j + i) * (if 3 * j + i = keyC 50 (tmI ti) ((3 * j + i) / 3) then 1 else 0)) ≤ sm n (fun _ => 50) := sm_le (fun j hj => by
      have := hJ.tm (show 3 * j + i < 3 * n by omega)
      split <;> omega)
    have h3 : ∀ k, sm k (fun _ => (50 : Int)) = 50 * k := by
      intro k
      induction k with
      | zero => rfl
      | succ k ih => show sm k (fun _ => 50) + 50 = _; rw [ih]; omega
    rw [h3] at h1
    show sm n (fun j => tmI ti (3 * j + i) * (if 3 * j + i = keyC 50 (tmI ti) ((3 * j + i) / 3) then 1 else 0)) ≤ T * 1
    omega
theorem canKeep_spec {N n T : Nat} {ti : Nat → Int32} {Q : Int32 → (Nat → Int32) → (Nat → Int32) → Int32 → Int64 → (Nat → Nat → Int64) → Prop} {tro : Int32} {tba tal : Nat → Int32} {tsc : Int64} {tcl : Nat → Nat → Int64}
    (hN : 600000 ≤ N) (hJ : JI n ti) (hT : T ≤ 600)
    (q0 : ¬ Keep n (tmI ti) T → ∀ tba tal tsc tcl, Q 0 tba tal (nI (n + 3)) tsc tcl)
    (q1 : Keep n (tmI ti) T → ∀ tba tal tsc tcl, S2 n (CA n T T (tmI ti)) (al0C n T (tmI ti)) tba tal tsc tcl → (∀ v, v < 25 → (alv tal v ↔ al0C n T (tmI ti) v)) → Q 1 tba tal (nI (n + 3)) tsc tcl) : p_X0_canKeep N ti (nI n) Q (nI T) tba tal tro tsc tcl := by
  have hn := hJ.1
  unfold p_X0_canKeep
  refine start_spec (by omega) hJ hT hT (fun ⟨j, hj, hno⟩ tba tal tsc tcl => ⟨fun _ => q0 (fun hK => hno (Keep_has hK hj)) _ _ _ _, fun h => absurd rfl h⟩) (fun _ tba tal tsc tcl hSI hal hba hpos => ⟨fun h => absurd h (by decide), fun _ => ?_⟩)
  have h24 : ¬ alv tal 24 := fun q => al0C_24 hn ((hal 24 (by omega)).mp q)
  have hA0 := CA_AOk (L := (T : Int)) (cap := (T : Int)) hn (by omega) (by omega) (fun c hc => hJ.tm hc)
  have hA := hA0.weak (fun v hv q => (hal v hv).mp q)
  refine lower_spec hN hn hA h24 hSI hba hpos (fun tba tsc tcl hS hno hb => ⟨fun h => absurd h (by decide), fun _ => ?_⟩) (fun tba tsc tcl ρ hS hρ hg hp hba' hno => ⟨fun _ => ?_, fun h => absurd rfl h⟩)
  · refine q1 ?_ tba tal tsc tcl ⟨hS, hb, h24, fun v hv q => (hal v hv).mp q⟩ hal
    have hD := CA_DV hn hS.2.1 hS.2.2.1
    rw [vl_off hno, Int.add_zero] at hD
    exact ⟨_, _, hS.2.1.pos, hD⟩
  · refine q0 (fun hK => ?_) tba tal tsc tcl
    obtain ⟨x, t, ht, hF⟩ := hK
    obtain ⟨y, hy, hy25, hy24⟩ := DV_CA (L := (T : Int)) (cap := (T : Int)) (e := 0) hn (Int.le_refl 0) (by rw [Int.add_zero]; exact hF)
    have h3 := opt_min hS.2.1 hy hρ (fun k hk hka hnb => hno k hk (by
      rcases hka with q | q
      · exact (hal k hk).mpr q
      · exact absurd (hg.trans q.symm) (hnb ρ hρ)) hnb)
    rw [hg, hy24, hy25, Int.neg_neg, Int.mul_zero] at h3
    have := Int.mul_pos hp ht
    omega
/-- what the component lays down of a division -/
def Shares (n : Nat) (tm : Nat → Int) (T : Nat) (dnu dde : Nat → Int32) : Prop := ∃ (v : Nat → Nat) (d : Nat), LM n T T tm (fun c => v c) d ∧ d ≤ 27000000 ∧ ∀ c, c < 3 * n → dnu c = fnum (v c) d ∧ dde c = fden (v c) d
theorem LX_LM {n T : Nat} {ti tba tal : Nat → Int32} {tsc : Int64} {tcl : Nat → Nat → Int64} (hn : n ≤ 7) (hS : S2 n (CA n T T (tmI ti)) (al0C n T (tmI ti)) tba tal tsc tcl) (hL : LX (n + 3) 25 (CA n T T (tmI ti)) (al0C n T (tmI ti)) (3 * n) (alv tal) (vl (n + 3) 25 (TT tcl) (BB tba)) tsc.toInt) : LM n T T (tmI ti) (vl (n + 3) 25 (TT tcl) (BB tba)) tsc.toInt := by
  have hD := CA_DV hn hS.1.2.1 hS.1.2.2.1
  rw [vl_off hS.no24, Int.add_zero] at hD
  refine ⟨hS.1.2.1.pos, hD, fun x t ht hF => ?_⟩
  obtain ⟨y, hy, hy25, hyx⟩ := FZ_CA hn hF
  have h1 := hL.1 y hy (by rw [hy25]; omega)
  rw [hy25, Int.neg_neg] at h1
  rcases h1 with h1 | ⟨j, hj, h1, h2⟩
  · exact Or.inl (fun i hi => by rw [← hyx i hi]; exact h1 i hi)
  · exact Or.inr ⟨j, hj, fun i hi => by rw [← hyx i (by omega)]; exact h1 i hi, by rw [← hyx j hj]; exact h2⟩
theorem findShares_spec {N n T : Nat} {ti : Nat → Int32} {Q : (Nat → Int32) → (Nat → Int32) → (Nat → Int32) → (Nat → Int32) → Int64 → (Nat → Nat → Int64) → Prop} {dnu dde tba tal : Nat → Int32} {tsc : Int64} {tcl : Nat → Nat → Int64}
    (hN : 600000 ≤ N) (hJ : JI n ti) (hT : T ≤ 600) (hS : S2 n (CA n T T (tmI ti)) (al0C n T (tmI ti)) tba tal tsc tcl) (hal : ∀ v, v < 25 → (alv tal v ↔ al0C n T (tmI ti) v))
    (hQ : ∀ dnu dde tba tal tsc tcl, Shares n (tmI ti) T dnu dde → Q dnu dde tba tal tsc tcl) : p_X0_findShares N (nI n) (nI (n + 3)) Q dnu dde tba tal tsc tcl := by
  have hn := hJ.1
  have hA0 := CA_AOk (L := (T : Int)) (cap := (T : Int)) hn (by omega) (by omega) (fun c hc => hJ.tm hc)
  unfold p_X0_findShares
  intro v1 ev
  have e3 : nI n * (3 : Int32) = nI (3 * n) := by rw [show (3 : Int32) = nI 3 from by decide, pk_mul, Nat.mul_comm]
  have ev' : v1 = nI (3 * n) := by
    rw [ev, e3, show (21 : Int32) = nI 21 from by decide]
    by_cases h : nI 21 < nI (3 * n)
    · have := (nI_ltI (by omega) (by omega)).mp h; omega
    · rw [if_neg h]
  subst ev'
  have second : ∀ (tba tal : Nat → Int32) (tsc : Int64) (tcl : Nat → Nat → Int64), S2 n (CA n T T (tmI ti)) (al0C n T (tmI ti)) tba tal tsc tcl → LX (n + 3) 25 (CA n T T (tmI ti)) (al0C n T (tmI ti)) (3 * n) (alv tal) (vl (n + 3) 25 (TT tcl) (BB tba)) tsc.toInt →
      ∀ (f k : Nat) (dnu dde : Nat → Int32), k ≤ 3 * n → 3 * n < f + k → (∀ c, c < k → dnu c = fnum (vl (n + 3) 25 (TT tcl) (BB tba) c).toNat tsc.toInt.toNat ∧ dde c = fden (vl (n + 3) 25 (TT tcl) (BB tba) c).toNat tsc.toInt.toNat) → p_X0_findShares_35 N (nI n) (nI (n + 3)) Q f (nI (3 * n)) (nI k) dnu dde tba tal tsc tcl := by
    intro tba tal tsc tcl hS hL f
    have hd := hS.1.2.1.pos
    have hdl := hS.1.2.1.d_le hA0.1
    induction f with
    | zero => intro k dnu dde h1 h2; omega
    | succ f ih =>
      intro k dnu dde h1 h2 hk
      unfold p_X0_findShares_35
      refine ⟨fun h => ?_, fun h => ?_⟩
      · have := (nI_leI (by omega) (by omega)).mp h
        have e : k = 3 * n := by omega
        subst e
        refine hQ dnu dde tba tal tsc tcl ⟨fun c => (vl (n + 3) 25 (TT tcl) (BB tba) c).toNat, tsc.toInt.toNat, ?_, by omega, hk⟩
        have h3 := LX_LM hn hS hL
        have e1 : (fun c => (((vl (n + 3) 25 (TT tcl) (BB tba) c).toNat : Nat) : Int)) = vl (n + 3) 25 (TT tcl) (BB tba) := funext fun c => Int.toNat_of_nonneg (vl_nonneg hS.1.2.2.1 c)
        have e2 : ((tsc.toInt.toNat : Nat) : Int) = tsc.toInt := Int.toNat_of_nonneg (Int.le_of_lt hd)
        rw [e1, e2]; exact h3
      · have hkn : k < 3 * n := by
          rcases Nat.lt_or_ge k (3 * n) with h' | h'
          · exact h'
          · exact absurd (nI_le h' (by omega)) h
        refine scaled_vl (by omega) (by omega) (by omega) hS.1.1 hS.1.2.1 (fun y hy => ?_)
        have hv0 := vl_nonneg (b := BB tba) hS.1.2.2.1 k
        have hvd : vl (n + 3) 25 (TT tcl) (BB tba) k ≤ 1000 * tsc.toInt := by
          by_cases hb : ∃ s, s < n + 3 ∧ BB tba s = k
          · obtain ⟨s, hs, e⟩ := hb
            rw [← e, vl_b hS.1.2.1 hs]
            exact hA0.2.1 _ _ _ hS.1.2.1 hS.1.2.2.1 hS.1.2.2.2 s hs
          · rw [vl_off (fun s hs e => hb ⟨s, hs, e⟩)]; omega
        have ey : y = lN (vl (n + 3) 25 (TT tcl) (BB tba) k).toNat := lN_of (by omega) (by omega)
        have ed : tsc = lN tsc.toInt.toNat := lN_of (by omega) (by omega)
        obtain ⟨f1, f2, f3⟩ := frac_rows (v := (vl (n + 3) 25 (TT tcl) (BB tba) k).toNat) (d := tsc.toInt.toNat) (by omega) (by omega) (by omega)
        subst ey
        have hkin : vp_in (nI k) 21 := vp_in_nI (by omega) (by decide)
        have goal : ∀ (Q' : Int64 → Prop), Q' (lN (Nat.gcd (vl (n + 3) 25 (TT tcl) (BB tba) k).toNat tsc.toInt.toNat)) → p_X0_commonDivisor N Q' (lN (vl (n + 3) 25 (TT tcl) (BB tba) k).toNat) tsc := fun Q' hQ' => by
          have := gcd_spec (N := N) (Q := Q') (a := (vl (n + 3) 25 (TT tcl) (BB tba) k).toNat) (b := tsc.toInt.toNat) (by omega) (by omega) (by omega) hQ'
          rw [← ed] at this
          exact this
        refine goal _ ⟨fun h => absurd h f3, fun _ => ⟨f3, fun f6 e6 => ⟨hkin, fun h => absurd h f3, fun _ => ⟨f3, fun f10 e10 => ⟨hkin, fun x ex => ?_⟩⟩⟩⟩⟩
        rw [ex, nI_1, nI_clamp (show k < 2 ^ 31 by omega)]
        have e6' : f6 = fnum (vl (n + 3) 25 (TT tcl) (BB tba) k).toNat tsc.toInt.toNat := e6.trans f1
        have e10' : f10 = fden (vl (n + 3) 25 (TT tcl) (BB tba) k).toNat tsc.toInt.toNat := by
          rw [e10, ← f2, ← ed]
        refine ih (k + 1) _ _ (by omega) (by omega) (fun c hc => ?_)
        by_cases e : c = k
        · subst e; rw [pk_us, pk_us]; exact ⟨e6', e10'⟩
        · rw [pk_un e, pk_un e]; exact hk c (by omega)
  have first : ∀ (f k : Nat) (tba tal : Nat → Int32) (tsc : Int64) (tcl : Nat → Nat → Int64), k ≤ 3 * n → 3 * n < f + k → S2 n (CA n T T (tmI ti)) (al0C n T (tmI ti)) tba tal tsc tcl → LX (n + 3) 25 (CA n T T (tmI ti)) (al0C n T (tmI ti)) k (alv tal) (vl (n + 3) 25 (TT tcl) (BB tba)) tsc.toInt →
      p_X0_findShares_14 N (nI n) (nI (n + 3)) Q f (nI (3 * n)) (nI k) dnu dde tba tal tsc tcl := by
    intro f
    induction f with
    | zero => intro k tba tal tsc tcl h1 h2; omega
    | succ f ih =>
      intro k tba tal tsc tcl h1 h2 hS hL
      unfold p_X0_findShares_14
      refine ⟨fun h => ?_, fun h => ?_⟩
      · have := (nI_leI (by omega) (by omega)).mp h
        have e : k = 3 * n := by omega
        subst e
        rw [← nI_0]
        exact second tba tal tsc tcl hS hL N 0 dnu dde (by omega) (by omega) (fun c hc => absurd hc (by omega))
      · have hkn : k < 3 * n := by
          rcases Nat.lt_or_ge k (3 * n) with h' | h'
          · exact h'
          · exact absurd (nI_le h' (by omega)) h
        refine raise_spec hN hn (by omega) hA0 hS hL (fun tba' tal' tsc' tcl' hS' hL' x ex => ?_)
        rw [ex, nI_1]
        exact ih (k + 1) tba' tal' tsc' tcl' (by omega) (by omega) hS' hL'
  have hL0 : LX (n + 3) 25 (CA n T T (tmI ti)) (al0C n T (tmI ti)) 0 (alv tal) (vl (n + 3) 25 (TT tcl) (BB tba)) tsc.toInt := by
    refine ⟨fun _ _ _ => Or.inl (fun i hi => absurd hi (by omega)), fun x => ⟨fun hx => ⟨⟨hx.1, hx.2.1, fun k hk hna => hx.2.2 k hk (fun q => hna ((hal k hk).mp q))⟩, fun i hi => absurd hi (by omega)⟩, fun hx => ⟨hx.1.1, hx.1.2.1, fun k hk hna => hx.1.2.2 k hk (fun q => hna ((hal k hk).mpr q))⟩⟩⟩
  rw [← nI_0]
  exact first N 0 tba tal tsc tcl (by omega) (by omega) hS hL0
/-- all that Division.make lays down -/
def DivOK (n : Nat) (tm : Nat → Int) (dnu dde : Nat → Int32) (dbo dln dld : Int32) : Prop :=
  (∃ T : Nat, T ≤ 600 ∧ dbo = nI T ∧ Keep n tm T ∧ (∀ T', T' < T → ¬ Keep n tm T') ∧ Shares n tm T dnu dde) ∧ (∃ v d : Nat, (Least n tm v d ∧ d ≤ 27000000 ∧ v ≤ 189000000) ∧ dln = fnum v d ∧ dld = fden v d)
theorem make_spec {N n : Nat} {ti : Nat → Int32} {Q : (Nat → Int32) → (Nat → Int32) → Int32 → Int32 → Int32 → (Nat → Int32) → (Nat → Int32) → Int32 → Int64 → (Nat → Nat → Int64) → Prop} {dnu dde tba tal : Nat → Int32} {dbo dln dld tro : Int32} {tsc : Int64} {tcl : Nat → Nat → Int64}
    (hN : 600000 ≤ N) (hJ : JI n ti) (hall : ∀ j, j < n → hasC 50 (tmI ti) j)
    (hQ : ∀ dnu dde dbo dln dld tba tal tro tsc tcl, DivOK n (tmI ti) dnu dde dbo dln dld → Q dnu dde dbo dln dld tba tal tro tsc tcl) : p_X0_make N ti (nI n) Q dnu dde dbo dln dld tba tal tro tsc tcl := by
  have hn := hJ.1
  unfold p_X0_make
  refine least_spec hN hJ hall (fun v d tba tal tsc tcl hL hd27 hv189 => ?_)
  -- b: one more than what cannot be kept; s: the step
  have loop : ∀ (f s b : Nat) (x2 : Int32) (tba tal : Nat → Int32) (tro : Int32) (tsc : Int64) (tcl : Nat → Nat → Int64), s < f → s ≤ 256 → b + 2 * s ≤ 512 → x2 = nI b + (-1) → (∀ T, T < b → ¬ Keep n (tmI ti) T) → (s = 0 → Keep n (tmI ti) b) → (0 < s → (∃ k, s = 2 ^ k) ∧ Keep n (tmI ti) (b + 2 * s - 1)) →
      p_X0_make_11 N ti (nI n) Q f x2 (nI s) dnu dde dbo (fnum v d) (fden v d) tba tal tro tsc tcl := by
    intro f
    induction f with
    | zero => intro s b x2 tba tal tro tsc tcl h; omega
    | succ f ih =>
      intro s b x2 tba tal tro tsc tcl hf hs hb e2 hno h0 hpos
      unfold p_X0_make_11
      refine ⟨fun h f2 ef => ?_, fun h => ?_⟩
      · have h1 := (nI_leI (a := s) (b := 0) (by omega) (by omega)).mp (by rw [nI_0]; exact h)
        have hk := h0 (by omega)
        have ef' : f2 = nI b := by rw [ef, e2, Int32.add_assoc, show ((-1 : Int32) + 1) = nI 0 from by decide, nI_add]; rfl
        subst ef'
        refine canKeep_spec hN hJ (by omega) (fun hn' => absurd hk hn') (fun _ tba tal tsc tcl hS hal => ⟨fun q => absurd q (by decide), fun _ => ?_⟩)
        exact findShares_spec hN hJ (by omega) hS hal (fun dnu dde tba tal tsc tcl hSh => hQ dnu dde (nI b) (fnum v d) (fden v d) tba tal (nI (n + 3)) tsc tcl ⟨⟨b, by omega, rfl, hk, hno, hSh⟩, v, d, ⟨hL, hd27, hv189⟩, rfl, rfl⟩)
      · have hs0 : 0 < s := by
          rcases Nat.eq_zero_or_pos s with q | q
          · subst q; exact absurd (by rw [nI_0]; decide) h
          · exact q
        obtain ⟨⟨k, ek⟩, hkeep⟩ := hpos hs0
        have e5 : x2 + nI s = nI (b + s - 1) := by
          rw [e2, Int32.add_assoc, Int32.add_comm (-1), show nI s = nI (s - 1 + 1) by rw [show s - 1 + 1 = s by omega], nIm1, nI_add]
          congr 1
          omega
        have ediv : nI s / (2 : Int32) = nI (s / 2) := by rw [show (2 : Int32) = nI 2 from by decide, pk_div (by omega) (by omega) (by omega)]
        have hs2 : s = 1 ∨ (∃ k', s / 2 = 2 ^ k' ∧ 2 * (s / 2) = s) := by
          cases k with
          | zero => exact Or.inl ek
          | succ k' => exact Or.inr ⟨k', by rw [ek, Nat.pow_succ]; omega, by rw [ek, Nat.pow_succ]; omega⟩
        rw [e5]
        refine canKeep_spec hN hJ (by omega) (fun hnk tba tal tsc tcl => ⟨fun _ x2' ex2 x3' ex3 => ?_, fun q => absurd rfl q⟩) (fun hk tba tal tsc tcl _ _ => ⟨fun q => absurd q (by decide), fun _ x3' ex3 => ?_⟩)
        · rw [ex3, ediv]
          refine ih (s / 2) (b + s) x2' tba tal _ tsc tcl (by omega) (by omega) (by omega) ?_ (fun T hT hK => hnk (hK.mono (by omega))) (fun q => ?_) (fun q => ?_)
          · have q := nIm1 (b + s - 1)
            rw [show b + s - 1 + 1 = b + s by omega] at q
            rw [ex2]; exact q.symm
          · rcases hs2 with r | ⟨k', r1, r2⟩
            · rw [r] at hkeep ⊢; exact hkeep
            · omega
          · rcases hs2 with r | ⟨k', r1, r2⟩
            · omega
            · refine ⟨⟨k', r1⟩, ?_⟩
              rw [show b + s + 2 * (s / 2) - 1 = b + 2 * s - 1 by omega]; exact hkeep
        · rw [ex3, ediv]
          refine ih (s / 2) b x2 tba tal _ tsc tcl (by omega) (by omega) (by omega) e2 hno (fun q => ?_) (fun q => ?_)
          · rcases hs2 with r | ⟨k', r1, r2⟩
            · rw [r] at hk; exact hk
            · omega
          · rcases hs2 with r | ⟨k', r1, r2⟩
            · omega
            · refine ⟨⟨k', r1⟩, ?_⟩
              rw [show b + 2 * (s / 2) - 1 = b + s - 1 by omega]; exact hk
  rw [show (256 : Int32) = nI 256 from by decide]
  exact loop N 256 0 (-1) tba tal _ tsc tcl (by omega) (by omega) (by omega) (by decide) (fun T hT => absurd hT (by omega)) (fun q => absurd q (by omega)) (fun _ => ⟨⟨8, by decide⟩, Keep_big hJ hall (by omega)⟩)
