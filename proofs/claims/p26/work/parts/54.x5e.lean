/-- a table behind the excess: all of the basis is allowed -/
def S2 (q : Nat) (A : Nat → Nat → Int) (al0 : Nat → Prop) (tba tal : Nat → Int32) (tsc : Int64) (tcl : Nat → Nat → Int64) : Prop :=
  SI q A tba tsc tcl ∧ (∀ s, s < q + 3 → alv tal (BB tba s)) ∧ ¬ alv tal 24 ∧ (∀ v, v < 25 → alv tal v → al0 v)
theorem S2.no24 {q : Nat} {A : Nat → Nat → Int} {al0 : Nat → Prop} {tba tal : Nat → Int32} {tsc : Int64} {tcl : Nat → Nat → Int64} (h : S2 q A al0 tba tal tsc tcl) (s : Nat) (hs : s < q + 3) : BB tba s ≠ 24 := fun e => h.2.2.1 (e ▸ h.2.1 s hs)
theorem S2.piv {q l c : Nat} {A : Nat → Nat → Int} {al0 : Nat → Prop} {tba tal tba' : Nat → Int32} {tsc tsc' : Int64} {tcl tcl' : Nat → Nat → Int64} (h : S2 q A al0 tba tal tsc tcl) (hl : l < q + 3) (hc : c < 25) (hca : alv tal c) (hlp : 0 < TT tcl l c)
    (hr : ∀ r, r < q + 3 → 0 < TT tcl r c → TT tcl l 25 * TT tcl r c < TT tcl r 25 * TT tcl l c ∨ (TT tcl l 25 * TT tcl r c = TT tcl r 25 * TT tcl l c ∧ BB tba r ≤ BB tba l))
    (hb' : BOk (q + 3) tba') (hP : Piv (q + 3) 25 (TT tcl) (TT tcl') (BB tba) (BB tba') tsc.toInt tsc'.toInt l c) : S2 q A al0 tba' tal tsc' tcl' := by
  obtain ⟨⟨hb, hT, hF, hv⟩, hba, h24, hal⟩ := h
  have hT' := hT.piv hl hc hlp hP
  have hF' : Feas (q + 3) 25 (TT tcl') := Piv.feas hT hF hl hlp (fun r hr' hp' => by rcases hr r hr' hp' with h | ⟨h, -⟩ <;> omega) hP
  have hba' : ∀ s, s < q + 3 → alv tal (BB tba' s) := fun s hs => by
    have e := hP.2.1 s hs
    by_cases e2 : s = l
    · rw [e, if_pos e2]; exact hca
    · rw [e, if_neg e2]; exact hba s hs
  refine ⟨⟨hb', hT', hF', ?_⟩, hba', h24, hal⟩
  have h0 : vl (q + 3) 25 (TT tcl') (BB tba') 24 = 0 := vl_off (fun s hs e => by
    have h1 := hba' s hs
    rw [e] at h1
    exact h24 h1)
  rw [h0]
  have := hT'.pos
  omega
theorem raise_loop {N q g : Nat} {A : Nat → Nat → Int} {al0 : Nat → Prop} {tal : Nat → Int32} {Q : (Nat → Int32) → (Nat → Int32) → Int64 → (Nat → Nat → Int64) → Prop} (hN : 100 ≤ N) (hq : q ≤ 7) (hg25 : g < 25) (hA : AOk q A al0)
    (hQ : ∀ tba tal tsc tcl, S2 q A al0 tba tal tsc tcl → LX (q + 3) 25 A al0 (g + 1) (alv tal) (vl (q + 3) 25 (TT tcl) (BB tba)) tsc.toInt → Q tba tal tsc tcl) :
    ∀ (f K : Nat) (Ts : Nat → Nat → Nat → Int) (bs : Nat → Nat → Nat) (ds : Nat → Int) (ρs ls cs : Nat → Nat) (tba : Nat → Int32) (tsc : Int64) (tcl : Nat → Nat → Int64), 563520 < f + K → Hist (q + 3) 25 A (fun v => 24 - v) (alv tal) g 1 K Ts bs ds ρs ls cs → Ts K = TT tcl → bs K = BB tba → ds K = tsc.toInt →
      S2 q A al0 tba tal tsc tcl → (∃ ρ, ρ < q + 3 ∧ BB tba ρ = g) → LX (q + 3) 25 A al0 g (alv tal) (vl (q + 3) 25 (TT tcl) (BB tba)) tsc.toInt → p_X5_raise_40 N (nI (q + 3)) Q f (nI g) (nI K) tba tal tsc tcl := by
  intro f
  induction f with
  | zero =>
    intro K Ts bs ds ρs ls cs tba tsc tcl hf H
    have := H.few_jobs hq κinj (Or.inl rfl) (fun i hi s hs => (hA.2.2.1 _ _ _ (H.tb hi)).1 s hs) (fun i hi j hj => (hA.2.2.1 _ _ _ (H.tb hi)).2 j hj)
    omega
  | succ f ih =>
    intro K Ts bs ds ρs ls cs tba tsc tcl hf H eT eb ed hS hgb hL
    have hK := H.few_jobs hq κinj (Or.inl rfl) (fun i hi s hs => (hA.2.2.1 _ _ _ (H.tb hi)).1 s hs) (fun i hi j hj => (hA.2.2.1 _ _ _ (H.tb hi)).2 j hj)
    unfold p_X5_raise_40
    have e6 : (1000000 : Int32) = nI 1000000 := by decide
    rw [e6]
    refine ⟨fun h => ?_, fun _ => ?_⟩
    · have := (nI_leI (by omega) (by omega)).mp h; omega
    have hS0 := hS
    obtain ⟨⟨hb, hT, hF, hv⟩, hba, h24, hal⟩ := hS
    refine rowOf_spec hN (by omega) (by omega) hb (fun hno => ?_) (fun ρ hρ hg => ⟨fun h => absurd h (nI_ne_m1 (by omega)), fun _ => ?_⟩)
    · obtain ⟨ρ, hρ, e⟩ := hgb
      exact absurd e (hno ρ hρ)
    · have hC : ∀ r, r < q + 3 → ∀ a, a < 25 → (TT tcl r a).natAbs ≤ 27000000 := fun r hr a ha => hT.cell_le hA.1 hr ha
      refine column_spec hN (by omega) hρ m164 (by decide) (hC ρ hρ) (fun hno => ⟨fun _ => ?_, fun h => absurd rfl h⟩) (fun c hc hca hcp hcm => ⟨fun h => absurd h (nI_ne_m1 (by omega)), fun _ => ?_⟩)
      · -- at its most: held
        refine hold_spec hN (by omega) hρ hb (fun tal' htal' => ?_)
        have hno' : ∀ k, k < 25 → alv tal k → (∀ s, s < q + 3 → BB tba s ≠ k) → 0 ≤ TT tcl ρ k := fun k hk hka _ => by
          have := hno k hk hka; omega
        have hiff : ∀ k, k < 25 → (alv tal' k ↔ alv tal k ∧ ¬ ((∀ s, s < q + 3 → BB tba s ≠ k) ∧ TT tcl ρ k ≠ 0)) := fun k hk => by
          rw [htal' k hk]
          constructor
          · rintro ⟨h1, h2⟩
            exact ⟨h1, fun ⟨h3, h4⟩ => h2 ⟨h3 ρ hρ, h4⟩⟩
          · rintro ⟨h1, h2⟩
            refine ⟨h1, fun ⟨h3, h4⟩ => h2 ⟨fun s hs e => ?_, h4⟩⟩
            by_cases e2 : s = ρ
            · subst e2; exact h3 e
            · exact h4 (by rw [← e]; exact hT.off hρ hs (Ne.symm e2))
        refine hQ tba tal' tsc tcl ⟨⟨hb, hT, hF, hv⟩, fun s hs => ?_, fun h => h24 ((htal' 24 (by omega)).mp h).1, fun v hv' h => hal v hv' ((htal' v hv').mp h).1⟩ (LX.next hT hρ hg hno' hiff hL)
        exact (hiff _ (hT.lt hs)).mpr ⟨hba s hs, fun ⟨h1, _⟩ => h1 s hs rfl⟩
      · have hcp' : TT tcl ρ c < 0 := by omega
        have hcnb : ∀ s, s < q + 3 → BB tba s ≠ c := fun s hs e => by
          by_cases e2 : s = ρ
          · subst e2
            have := hT.diag hs
            rw [e] at this
            have := hT.pos
            omega
          · have := hT.off hρ hs (Ne.symm e2)
            rw [e] at this; omega
        have hc24 : c < 24 := by
          rcases Nat.lt_or_ge c 24 with h | h
          · exact h
          · have : c = 24 := by omega
            rw [this] at hca; exact absurd hca h24
        obtain ⟨r0, hr0, hr0p⟩ := hA.2.2.2 _ _ _ hT hS0.no24 c hc24 (hal c hc hca) hcnb
        refine enter_spec hN (by omega) hc hb hA.1 hT (SI.rhs hA ⟨hb, hT, hF, hv⟩) (fun hno => absurd hr0p (hno r0 hr0)) (fun l tcl' tba' tsc' hl hlp hr hb' hP => ⟨fun h => absurd h (by decide), fun _ x ex => ?_⟩)
        rw [ex, nI_1]
        have hS' := hS0.piv hl hc hca hlp hr hb' hP
        have hlρ : l ≠ ρ := fun e => by subst e; omega
        have hB : BSt (q + 3) 25 (fun v => 24 - v) (alv tal) g 1 (TT tcl) (BB tba) tsc.toInt (TT tcl') (BB tba') tsc'.toInt ρ l c := by
          refine ⟨hρ, hg, hl, hlρ, hc, hca, hcnb, by omega, fun k hk hka hknb hkp => ?_, hlp, fun r hr' hp' => ?_, hP⟩
          · show 24 - c ≤ 24 - k
            rcases Nat.lt_or_ge c k with h | h
            · have := hcm k h hk hka; omega
            · omega
          · rcases hr r hr' hp' with h | ⟨h, h2⟩
            · exact Or.inl h
            · exact Or.inr ⟨h, by show 24 - BB tba l ≤ 24 - BB tba r; omega⟩
        obtain ⟨Ts', bs', ds', ρs', ls', cs', H', e1, e2, e3⟩ := H.snoc hS'.1.2.1 hS'.1.2.2.1 (by rw [eT, eb, ed]; exact hB)
        exact ih (K + 1) Ts' bs' ds' ρs' ls' cs' tba' tsc' tcl' (by omega) H' e1 e2 e3 hS' ⟨ρ, hρ, hB.keeps_g⟩ (hL.move (by omega) hT.pos hS'.1.2.1 hS'.1.2.2.1 hS'.2.1)
theorem raise_spec {N q g : Nat} {A : Nat → Nat → Int} {al0 : Nat → Prop} {tba tal : Nat → Int32} {tsc : Int64} {tcl : Nat → Nat → Int64} {Q : (Nat → Int32) → (Nat → Int32) → Int64 → (Nat → Nat → Int64) → Prop} (hN : 600000 ≤ N) (hq : q ≤ 7) (hg24 : g < 24) (hA : AOk q A al0)
    (hS : S2 q A al0 tba tal tsc tcl) (hL : LX (q + 3) 25 A al0 g (alv tal) (vl (q + 3) 25 (TT tcl) (BB tba)) tsc.toInt)
    (hQ : ∀ tba tal tsc tcl, S2 q A al0 tba tal tsc tcl → LX (q + 3) 25 A al0 (g + 1) (alv tal) (vl (q + 3) 25 (TT tcl) (BB tba)) tsc.toInt → Q tba tal tsc tcl) : p_X5_raise N (nI (q + 3)) Q (nI g) tba tal tsc tcl := by
  unfold p_X5_raise
  have hS0 := hS
  obtain ⟨⟨hb, hT, hF, hv⟩, hba, h24, hal⟩ := hS
  rw [show (25 : Int32) = nI 25 from by decide]
  refine ⟨fun h => absurd h (nI_pos (by omega)), fun _ => ⟨fun _ => ?_, fun h => absurd (nI_lt (by omega) (by omega)) h⟩⟩
  refine rowOf_spec (by omega) (by omega) (by omega) hb (fun hno => ⟨fun _ => ⟨vp_in_nI (by omega) (by decide), ?_⟩, fun h => absurd rfl h⟩) (fun ρ hρ hg => ⟨fun h => absurd h (nI_ne_m1 (by omega)), fun _ => ?_⟩)
  · rw [nI_clamp (show g < 2 ^ 31 by omega)]
    refine ⟨fun h0 => hQ tba tal tsc tcl hS0 (hL.skip (by omega) hno (fun h => h h0)), fun h0 => ?_⟩
    obtain ⟨r0, hr0, hr0p⟩ := hA.2.2.2 _ _ _ hT hS0.no24 g hg24 (hal g (by omega) h0) hno
    refine enter_spec (by omega) (by omega) (by omega) hb hA.1 hT (SI.rhs hA ⟨hb, hT, hF, hv⟩) (fun hno => absurd hr0p (hno r0 hr0)) (fun l tcl' tba' tsc' hl hlp hr hb' hP => ⟨fun h => absurd h (by decide), fun _ => ?_⟩)
    have hS' := hS0.piv hl (by omega) h0 hlp hr hb' hP
    rw [← nI_0]
    exact raise_loop (by omega) hq (by omega) hA hQ N 0 _ _ _ _ _ _ tba' tsc' tcl' (by omega) (Hist.start hS'.1.2.1 hS'.1.2.2.1) rfl rfl rfl hS' ⟨l, hl, by rw [hP.2.1 l hl, if_pos rfl]⟩ (hL.move (by omega) hT.pos hS'.1.2.1 hS'.1.2.2.1 hS'.2.1)
  · rw [← nI_0]
    exact raise_loop (by omega) hq (by omega) hA hQ N 0 _ _ _ _ _ _ tba tsc tcl (by omega) (Hist.start hT hF) rfl rfl rfl hS0 ⟨ρ, hρ, hg⟩ hL
