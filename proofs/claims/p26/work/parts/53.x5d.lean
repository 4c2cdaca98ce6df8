theorem Hist.snoc {m N : Nat} {A : Nat → Nat → Int} {κ : Nat → Nat} {al : Nat → Prop} {g : Nat} {e : Int} {K : Nat} {Ts : Nat → Nat → Nat → Int} {bs : Nat → Nat → Nat} {ds : Nat → Int} {ρs ls cs : Nat → Nat} (H : Hist m N A κ al g e K Ts bs ds ρs ls cs)
    {T' : Nat → Nat → Int} {b' : Nat → Nat} {d' : Int} {ρ l c : Nat} (hT' : Tb m N A T' b' d') (hf' : Feas m N T') (hs : BSt m N κ al g e (Ts K) (bs K) (ds K) T' b' d' ρ l c) :
    ∃ Ts' bs' ds' ρs' ls' cs', Hist m N A κ al g e (K + 1) Ts' bs' ds' ρs' ls' cs' ∧ Ts' (K + 1) = T' ∧ bs' (K + 1) = b' ∧ ds' (K + 1) = d' := by
  refine ⟨fun i => if i ≤ K then Ts i else T', fun i => if i ≤ K then bs i else b', fun i => if i ≤ K then ds i else d', fun i => if i < K then ρs i else ρ, fun i => if i < K then ls i else l, fun i => if i < K then cs i else c, ⟨fun i hi => ?_, fun i hi => ?_⟩, if_neg (by omega), if_neg (by omega), if_neg (by omega)⟩
  · by_cases h : i ≤ K
    · simp only [if_pos h]; exact H.1 i h
    · simp only [if_neg h]; exact ⟨hT', hf'⟩
  · by_cases h : i < K
    · simp only [if_pos h, if_pos (Nat.le_of_lt h), if_pos (show i + 1 ≤ K from h)]
      exact H.2 i h
    · have e1 : i = K := by omega
      subst e1
      simp only [if_neg h, if_pos (Nat.le_refl i), if_neg (show ¬ i + 1 ≤ i by omega)]
      exact hs
theorem Hist.start {m N : Nat} {A : Nat → Nat → Int} {κ : Nat → Nat} {al : Nat → Prop} {g : Nat} {e : Int} {T : Nat → Nat → Int} {b : Nat → Nat} {d : Int} (hT : Tb m N A T b d) (hf : Feas m N T) : Hist m N A κ al g e 0 (fun _ => T) (fun _ => b) (fun _ => d) (fun _ => 0) (fun _ => 0) (fun _ => 0) :=
  ⟨fun _ _ => ⟨hT, hf⟩, fun i hi => absurd hi (by omega)⟩
/-- what the columns of q jobs must be for the runs -/
def AOk (q : Nat) (A : Nat → Nat → Int) (al0 : Nat → Prop) : Prop :=
  Wd q 25 A ∧ (∀ T b d, Tb (q + 3) 25 A T b d → Feas (q + 3) 25 T → vl (q + 3) 25 T b 24 ≤ 350 * d → ∀ r, r < q + 3 → T r 25 ≤ 1000 * d) ∧
  (∀ T b d, Tb (q + 3) 25 A T b d → (∀ s, s < q + 3 → b s ∈ vls q 0) ∧ (∀ j, j < q → ∃ s, s < q + 3 ∧ (b s = 3 * j ∨ b s = 3 * j + 1 ∨ b s = 3 * j + 2))) ∧
  (∀ T b d, Tb (q + 3) 25 A T b d → (∀ s, s < q + 3 → b s ≠ 24) → ∀ c, c < 24 → al0 c → (∀ s, s < q + 3 → b s ≠ c) → ∃ r, r < q + 3 ∧ 0 < T r c)
/-- a table that stands -/
def SI (q : Nat) (A : Nat → Nat → Int) (tba : Nat → Int32) (tsc : Int64) (tcl : Nat → Nat → Int64) : Prop :=
  BOk (q + 3) tba ∧ Tb (q + 3) 25 A (TT tcl) (BB tba) tsc.toInt ∧ Feas (q + 3) 25 (TT tcl) ∧ vl (q + 3) 25 (TT tcl) (BB tba) 24 ≤ 350 * tsc.toInt
theorem SI.rhs {q : Nat} {A : Nat → Nat → Int} {al0 : Nat → Prop} {tba : Nat → Int32} {tsc : Int64} {tcl : Nat → Nat → Int64} (hA : AOk q A al0) (h : SI q A tba tsc tcl) (r : Nat) (hr : r < q + 3) : (TT tcl r 25).natAbs ≤ 27000000000 := by
  have h1 := hA.2.1 _ _ _ h.2.1 h.2.2.1 h.2.2.2 r hr
  have h2 := h.2.2.1 r hr
  have h3 := h.2.1.d_le hA.1
  omega
theorem κinj : ∀ u v : Nat, u < 25 → v < 25 → 24 - u = 24 - v → u = v := fun u v h1 h2 h3 => by omega
theorem lower_loop {N q : Nat} {A : Nat → Nat → Int} {tal : Nat → Int32} {Q : Int32 → (Nat → Int32) → Int64 → (Nat → Nat → Int64) → Prop} (hN : 100 ≤ N) (hq : q ≤ 7) (hA : AOk q A (alv tal)) (h24 : ¬ alv tal 24)
    (hQ1 : ∀ tba tsc tcl, SI q A tba tsc tcl → (∀ s, s < q + 3 → BB tba s ≠ 24) → (∀ s, s < q + 3 → alv tal (BB tba s)) → Q 1 tba tsc tcl)
    (hQ0 : ∀ tba tsc tcl ρ, SI q A tba tsc tcl → ρ < q + 3 → BB tba ρ = 24 → 0 < TT tcl ρ 25 → (∀ s, s < q + 3 → BB tba s ≠ 24 → alv tal (BB tba s)) → (∀ k, k < 25 → alv tal k → (∀ s, s < q + 3 → BB tba s ≠ k) → TT tcl ρ k ≤ 0) → Q 0 tba tsc tcl) :
    ∀ (f K : Nat) (Ts : Nat → Nat → Nat → Int) (bs : Nat → Nat → Nat) (ds : Nat → Int) (ρs ls cs : Nat → Nat) (tba : Nat → Int32) (tsc : Int64) (tcl : Nat → Nat → Int64), 563520 < f + K → Hist (q + 3) 25 A (fun v => 24 - v) (alv tal) 24 (-1) K Ts bs ds ρs ls cs → Ts K = TT tcl → bs K = BB tba → ds K = tsc.toInt →
      SI q A tba tsc tcl → (∀ s, s < q + 3 → BB tba s ≠ 24 → alv tal (BB tba s)) → (∀ r, r < q + 3 → BB tba r = 24 → 0 < TT tcl r 25) → p_X5_lowerExcess_2 N tal (nI (q + 3)) Q f (nI K) tba tsc tcl := by
  intro f
  induction f with
  | zero =>
    intro K Ts bs ds ρs ls cs tba tsc tcl hf H
    have := H.few_jobs hq κinj (Or.inr rfl) (fun i hi s hs => (hA.2.2.1 _ _ _ (H.tb hi)).1 s hs) (fun i hi j hj => (hA.2.2.1 _ _ _ (H.tb hi)).2 j hj)
    omega
  | succ f ih =>
    intro K Ts bs ds ρs ls cs tba tsc tcl hf H eT eb ed hSI hba hpos
    have hK := H.few_jobs hq κinj (Or.inr rfl) (fun i hi s hs => (hA.2.2.1 _ _ _ (H.tb hi)).1 s hs) (fun i hi j hj => (hA.2.2.1 _ _ _ (H.tb hi)).2 j hj)
    unfold p_X5_lowerExcess_2
    have e6 : (1000000 : Int32) = nI 1000000 := by decide
    have e24 : (24 : Int32) = nI 24 := by decide
    rw [e6, e24]
    refine ⟨fun h => ?_, fun _ => ?_⟩
    · have := (nI_leI (by omega) (by omega)).mp h; omega
    obtain ⟨hb, hT, hF, hv⟩ := hSI
    refine rowOf_spec hN (by omega) (by omega) hb (fun hno => ⟨fun _ => ?_, fun h => absurd rfl h⟩) (fun ρ hρ hg => ⟨fun h => absurd h (nI_ne_m1 (by omega)), fun _ => ?_⟩)
    · exact hQ1 tba tsc tcl ⟨hb, hT, hF, hv⟩ hno (fun s hs => hba s hs (hno s hs))
    · have hC : ∀ r, r < q + 3 → ∀ a, a < 25 → (TT tcl r a).natAbs ≤ 27000000 := fun r hr a ha => hT.cell_le hA.1 hr ha
      refine column_spec hN (by omega) hρ one64 (by decide) (hC ρ hρ) (fun hno => ⟨fun _ => ?_, fun h => absurd rfl h⟩) (fun c hc hca hcp hcm => ⟨fun h => absurd h (nI_ne_m1 (by omega)), fun _ => ?_⟩)
      · refine hQ0 tba tsc tcl ρ ⟨hb, hT, hF, hv⟩ hρ hg (hpos ρ hρ hg) hba (fun k hk hka _ => ?_)
        have := hno k hk hka
        omega
      · rw [Int.mul_one] at hcp
        have hcnb : ∀ s, s < q + 3 → BB tba s ≠ c := fun s hs e => by
          by_cases e2 : s = ρ
          · subst e2; rw [hg] at e; rw [← e] at hca; exact h24 hca
          · have := hT.off hρ hs (Ne.symm e2)
            rw [e] at this; omega
        refine enter_spec hN (by omega) hc hb hA.1 hT (SI.rhs hA ⟨hb, hT, hF, hv⟩) (fun hno => absurd hcp (hno ρ hρ)) (fun l tcl' tba' tsc' hl hlp hr hb' hP => ⟨fun h => absurd h (by decide), fun _ x ex => ?_⟩)
        rw [ex, nI_1]
        have hT' : Tb (q + 3) 25 A (TT tcl') (BB tba') tsc'.toInt := hT.piv hl hc hlp hP
        have hF' : Feas (q + 3) 25 (TT tcl') := Piv.feas hT hF hl hlp (fun r hr' hp' => by rcases hr r hr' hp' with h | ⟨h, -⟩ <;> omega) hP
        by_cases hlρ : l = ρ
        · -- the excess leaves
          subst hlρ
          have hno : ∀ s, s < q + 3 → BB tba' s ≠ 24 := fun s hs e => by
            rw [hP.2.1 s hs] at e
            by_cases e2 : s = l
            · rw [if_pos e2] at e; rw [e] at hca; exact h24 hca
            · rw [if_neg e2] at e
              exact e2 (hT.inj hs hl (by rw [e, hg]))
          have hba' : ∀ s, s < q + 3 → alv tal (BB tba' s) := fun s hs => by
            have e := hP.2.1 s hs
            by_cases e2 : s = l
            · rw [e, if_pos e2]; exact hca
            · rw [e, if_neg e2]
              exact hba s hs (fun e3 => e2 (hT.inj hs hl (by rw [e3, hg])))
          have hSI' : SI q A tba' tsc' tcl' := ⟨hb', hT', hF', by rw [vl_off hno]; have := hT'.pos; omega⟩
          cases f with
          | zero => omega
          | succ f =>
            unfold p_X5_lowerExcess_2
            rw [e6, e24]
            refine ⟨fun h => ?_, fun _ => ?_⟩
            · have := (nI_leI (by omega) (by omega)).mp h; omega
            · refine rowOf_spec hN (by omega) (by omega) hb' (fun _ => ⟨fun _ => hQ1 tba' tsc' tcl' hSI' hno hba', fun h => absurd rfl h⟩) (fun r hr' e => absurd e (hno r hr'))
        · have hB : BSt (q + 3) 25 (fun v => 24 - v) (alv tal) 24 (-1) (TT tcl) (BB tba) tsc.toInt (TT tcl') (BB tba') tsc'.toInt ρ l c := by
            refine ⟨hρ, hg, hl, hlρ, hc, hca, hcnb, by omega, fun k hk hka hknb hkp => ?_, hlp, fun r hr' hp' => ?_, hP⟩
            · show 24 - c ≤ 24 - k
              rcases Nat.lt_or_ge c k with h | h
              · have := hcm k h hk hka; omega
              · omega
            · rcases hr r hr' hp' with h | ⟨h, h2⟩
              · exact Or.inl h
              · exact Or.inr ⟨h, by show 24 - BB tba l ≤ 24 - BB tba r; omega⟩
          obtain ⟨Ts', bs', ds', ρs', ls', cs', H', e1, e2, e3⟩ := H.snoc hT' hF' (by rw [eT, eb, ed]; exact hB)
          have hgoal := hB.goal hT hT'
          have hk24 : ∀ s, s < q + 3 → (BB tba' s = 24 ↔ s = ρ) := fun s hs => by
            constructor
            · intro e; exact hT'.inj hs hρ (by rw [e, hB.keeps_g])
            · intro e; rw [e]; exact hB.keeps_g
          refine ih (K + 1) Ts' bs' ds' ρs' ls' cs' tba' tsc' tcl' (by omega) H' e1 e2 e3 ⟨hb', hT', hF', ?_⟩ (fun s hs hne => ?_) (fun r hr' hr24 => ?_)
          · have hd := hT.pos
            have hd' := hT'.pos
            have hnn : 0 ≤ (-(-1 * TT tcl ρ c)) * TT tcl l 25 := Int.mul_nonneg (by omega) (hF l hl)
            have h5 : vl (q + 3) 25 (TT tcl') (BB tba') 24 * tsc.toInt ≤ (350 * tsc'.toInt) * tsc.toInt := by
              have h6 : vl (q + 3) 25 (TT tcl) (BB tba) 24 * tsc'.toInt ≤ (350 * tsc.toInt) * tsc'.toInt := Int.mul_le_mul_of_nonneg_right hv (by omega)
              have h7 : (350 * tsc.toInt) * tsc'.toInt = (350 * tsc'.toInt) * tsc.toInt := by rw [Int.mul_assoc, Int.mul_assoc, Int.mul_comm tsc.toInt]
              rw [Int.mul_assoc, Int.mul_assoc] at hgoal
              omega
            exact Int.le_of_mul_le_mul_right h5 hd
          · have e := hP.2.1 s hs
            by_cases e2 : s = l
            · rw [e, if_pos e2]; exact hca
            · rw [e, if_neg e2]
              refine hba s hs (fun e3 => hne ?_)
              rw [e, if_neg e2, e3]
          · have e4 : r = ρ := (hk24 r hr').mp hr24
            subst e4
            have h1 := hP.2.2.2 r 25 hr' (Ne.symm hlρ) (by omega)
            have h2 : 0 < TT tcl' r 25 * tsc.toInt := by
              rw [h1]
              rcases hr r hr' hcp with h | ⟨h, h2⟩
              · rw [Int.mul_comm (TT tcl r c)]; omega
              · have h3 := (hb.eq hl).2
                have h4 : BB tba l = 24 := by omega
                exact absurd (hT.inj hl hr' (by rw [h4, hg])) hlρ
            apply Classical.byContradiction
            intro hn
            have := Int.mul_nonpos_of_nonpos_of_nonneg (show TT tcl' r 25 ≤ 0 by omega) (Int.le_of_lt hT.pos)
            omega
theorem lower_spec {N q : Nat} {A : Nat → Nat → Int} {tal : Nat → Int32} {Q : Int32 → (Nat → Int32) → Int64 → (Nat → Nat → Int64) → Prop} (hN : 600000 ≤ N) (hq : q ≤ 7) (hA : AOk q A (alv tal)) (h24 : ¬ alv tal 24) {tba : Nat → Int32} {tsc : Int64} {tcl : Nat → Nat → Int64}
    (hSI : SI q A tba tsc tcl) (hba : ∀ s, s < q + 3 → BB tba s ≠ 24 → alv tal (BB tba s)) (hpos : ∀ r, r < q + 3 → BB tba r = 24 → 0 < TT tcl r 25)
    (hQ1 : ∀ tba tsc tcl, SI q A tba tsc tcl → (∀ s, s < q + 3 → BB tba s ≠ 24) → (∀ s, s < q + 3 → alv tal (BB tba s)) → Q 1 tba tsc tcl)
    (hQ0 : ∀ tba tsc tcl ρ, SI q A tba tsc tcl → ρ < q + 3 → BB tba ρ = 24 → 0 < TT tcl ρ 25 → (∀ s, s < q + 3 → BB tba s ≠ 24 → alv tal (BB tba s)) → (∀ k, k < 25 → alv tal k → (∀ s, s < q + 3 → BB tba s ≠ k) → TT tcl ρ k ≤ 0) → Q 0 tba tsc tcl) :
    p_X5_lowerExcess N tal (nI (q + 3)) Q tba tsc tcl := by
  unfold p_X5_lowerExcess
  rw [← nI_0]
  exact lower_loop (by omega) hq hA h24 hQ1 hQ0 N 0 _ _ _ _ _ _ tba tsc tcl (by omega) (Hist.start hSI.2.1 hSI.2.2.1) rfl rfl rfl hSI hba hpos
