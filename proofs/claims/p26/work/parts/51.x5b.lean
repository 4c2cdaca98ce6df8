theorem upR_same {f : Nat → Nat → Int64} {i : Nat} {g : Nat → Int64} : upR f i g i = g := if_pos rfl
theorem upR_ne {f : Nat → Nat → Int64} {i r : Nat} {g : Nat → Int64} (h : r ≠ i) : upR f i g r = f r := if_neg h
/-- one row's part of a pivot -/
theorem enter_row {N m k l c : Nat} {Q : Int32 → (Nat → Int32) → Int64 → (Nat → Nat → Int64) → Prop} {K : Int32 → Int32 → Int64 → Int32 → (Nat → Int32) → Int64 → (Nat → Nat → Int64) → Prop}
    {tba : Nat → Int32} {tsc x3 x6 : Int64} {tcl : Nat → Nat → Int64} (hm : m ≤ 10) (hk : k < m) (hl : l < m) (hkl : k ≠ l) (hd : 0 < tsc.toInt) (hp : x3.toInt.natAbs ≤ 27000000) (hf : x6.toInt.natAbs ≤ 27000000)
    (hRk : ∀ a, a ≤ 25 → (TT tcl k a).natAbs ≤ 27000000000) (hRl : ∀ a, a ≤ 25 → (TT tcl l a).natAbs ≤ 27000000000)
    (hex : ∀ a, a ≤ 25 → ∃ q : Int, TT tcl k a * x3.toInt - x6.toInt * TT tcl l a = tsc.toInt * q)
    (hK : ∀ tcl', (∀ r, r ≠ k → tcl' r = tcl r) → (∀ a, a ≤ 25 → TT tcl' k a * tsc.toInt = TT tcl k a * x3.toInt - x6.toInt * TT tcl l a) → K (nI c) (nI l) x3 (nI (k + 1)) tba tsc tcl') :
    ∀ (f j : Nat) (tcl' : Nat → Nat → Int64), j ≤ 26 → 26 < f + j → (∀ r, r ≠ k → tcl' r = tcl r) → (∀ a, a < j → TT tcl' k a * tsc.toInt = TT tcl k a * x3.toInt - x6.toInt * TT tcl l a) → (∀ a, j ≤ a → tcl' k a = tcl k a) →
    p_X5_enter_79 N (nI m) Q K f (nI c) (nI l) x3 (nI k) x6 (nI j) tba tsc tcl' := by
  intro f
  induction f with
  | zero => intro j tcl' h1 h2; omega
  | succ f ih =>
    intro j tcl' h1 h2 i1 i2 i3
    unfold p_X5_enter_79
    have e25 : (25 : Int32) = nI 25 := by decide
    rw [e25]
    refine ⟨fun h x ex => ?_, fun h => ?_⟩
    · have := (nI_ltI (by omega) (by omega)).mp h
      rw [ex, nI_1]
      exact hK tcl' i1 (fun a ha => i2 a (by omega))
    · have hj : j < 26 := by
        apply Classical.byContradiction
        intro hn
        exact h (nI_lt (by omega) (by omega))
      have hkin : vp_in (nI k) 10 := vp_in_nI (by omega) (by decide)
      have hlin : vp_in (nI l) 10 := vp_in_nI (by omega) (by decide)
      have hjin : vp_in (nI j) 26 := vp_in_nI (by omega) (by decide)
      rw [nI_clamp (show k < 2 ^ 31 by omega), nI_clamp (show l < 2 ^ 31 by omega), nI_clamp (show j < 2 ^ 31 by omega)]
      refine ⟨hkin, hkin, hjin, hlin, hjin, fun e => ?_, fun y ey => ⟨hjin, fun x ex => ?_⟩⟩
      · rw [i64_0] at e; omega
      · rw [ex, nI_1]
        have hkj : tcl' k j = tcl k j := i3 j (Nat.le_refl j)
        have hlj : tcl' l j = tcl l j := by rw [i1 l (Ne.symm hkl)]
        rw [hkj, hlj] at ey
        have b1 := nam (hRk j (by omega)) hp
        have b2 := nam hf (hRl j (by omega))
        have v1 : (tcl k j * x3).toInt = TT tcl k j * x3.toInt := i64_mul (Nat.lt_of_le_of_lt b1 (by decide))
        have v2 : (x6 * tcl l j).toInt = x6.toInt * TT tcl l j := i64_mul (Nat.lt_of_le_of_lt b2 (by decide))
        have v3 : (tcl k j * x3 - x6 * tcl l j).toInt = TT tcl k j * x3.toInt - x6.toInt * TT tcl l j := by
          rw [i64_sub, v1, v2]
          rw [v1, v2]
          have : 27000000000 * 27000000 + 27000000 * 27000000000 < 2 ^ 63 := by decide
          omega
        obtain ⟨q, hq⟩ := hex j (by omega)
        have v4 : y.toInt = q := by
          rw [ey]
          exact i64_exact hd (by rw [v3, hq])
        refine ih (j + 1) _ (by omega) (by omega) (fun r hr => ?_) (fun a ha => ?_) (fun a ha => ?_)
        · rw [upR_ne hr]; exact i1 r hr
        · unfold TT
          rw [upR_same]
          by_cases e : a = j
          · subst e
            rw [pk_uLs, v4]
            show q * tsc.toInt = TT tcl k a * x3.toInt - x6.toInt * TT tcl l a
            rw [hq, Int.mul_comm]
          · rw [pk_uLn e]
            exact i2 a (by omega)
        · rw [upR_same, pk_uLn (by omega)]
          exact i3 a (by omega)
theorem enter_rows {N m l c : Nat} {Q : Int32 → (Nat → Int32) → Int64 → (Nat → Nat → Int64) → Prop}
    {tba : Nat → Int32} {tsc x3 : Int64} {tcl : Nat → Nat → Int64} (hN : 100 ≤ N) (hm : m ≤ 10) (hl : l < m) (hc : c < 25) (hd : 0 < tsc.toInt) (hp : x3.toInt.natAbs ≤ 27000000)
    (hC : ∀ r, r < m → (TT tcl r c).natAbs ≤ 27000000)
    (hR : ∀ r, r < m → ∀ a, a ≤ 25 → (TT tcl r a).natAbs ≤ 27000000000)
    (hex : ∀ r, r < m → r ≠ l → ∀ a, a ≤ 25 → ∃ q : Int, TT tcl r a * x3.toInt - TT tcl r c * TT tcl l a = tsc.toInt * q)
    (hQ : ∀ tcl', tcl' l = tcl l → (∀ r, r < m → r ≠ l → ∀ a, a ≤ 25 → TT tcl' r a * tsc.toInt = TT tcl r a * x3.toInt - TT tcl r c * TT tcl l a) → Q 1 (upd tba l (nI c)) x3 tcl') :
    ∀ (f k : Nat) (tcl' : Nat → Nat → Int64), k ≤ m → m < f + k → tcl' l = tcl l → (∀ r, k ≤ r → tcl' r = tcl r) → (∀ r, r < k → r ≠ l → ∀ a, a ≤ 25 → TT tcl' r a * tsc.toInt = TT tcl r a * x3.toInt - TT tcl r c * TT tcl l a) →
    p_X5_enter_34 N (nI m) Q f (nI c) (nI l) x3 (nI k) tba tsc tcl' := by
  intro f
  induction f with
  | zero => intro k tcl' h1 h2; omega
  | succ f ih =>
    intro k tcl' h1 h2 i1 i2 i3
    unfold p_X5_enter_34
    have hlin : vp_in (nI l) 10 := vp_in_nI (by omega) (by decide)
    rw [nI_clamp (show l < 2 ^ 31 by omega)]
    refine ⟨fun h => ⟨hlin, ?_⟩, fun h => ?_⟩
    · have := (nI_leI (by omega) (by omega)).mp h
      exact hQ tcl' i1 (fun r hr => i3 r (by omega))
    · have hk : k < m := by
        rcases Nat.lt_or_ge k m with h' | h'
        · exact h'
        · exact absurd (nI_le h' (by omega)) h
      have hkin : vp_in (nI k) 10 := vp_in_nI (by omega) (by decide)
      have hcin : vp_in (nI c) 26 := vp_in_nI (by omega) (by decide)
      rw [nI_clamp (show k < 2 ^ 31 by omega), nI_clamp (show c < 2 ^ 31 by omega)]
      have hinner : ∀ x6 : Int64, x6 = tcl' k c → k ≠ l → p_X5_enter_79 N (nI m) Q (fun x1 x2 x3 x5 tba tsc tcl => p_X5_enter_34 N (nI m) Q f x1 x2 x3 x5 tba tsc tcl) N (nI c) (nI l) x3 (nI k) x6 (0 : Int32) tba tsc tcl' := fun x6 e6 hkl => by
        have e7 : x6.toInt = TT tcl k c := by rw [e6, i2 k (Nat.le_refl k)]; rfl
        have rk : ∀ a, TT tcl' k a = TT tcl k a := fun a => by unfold TT; rw [i2 k (Nat.le_refl k)]
        have rl : ∀ a, TT tcl' l a = TT tcl l a := fun a => by unfold TT; rw [i1]
        rw [← nI_0]
        refine enter_row (m := m) hm hk hl hkl hd hp (by rw [e7]; exact hC k hk) (tcl := tcl') (fun a ha => by rw [rk]; exact hR k hk a ha) (fun a ha => by rw [rl]; exact hR l hl a ha) (fun a ha => by rw [rk, rl, e7]; exact hex k hk hkl a ha) ?_ N 0 tcl' (by omega) (by omega) (fun _ _ => rfl) (fun a ha => absurd ha (by omega)) (fun _ _ => rfl)
        intro tcl2 j1 j2
        refine ih (k + 1) tcl2 (by omega) (by omega) ?_ (fun r hr => ?_) (fun r hr hrl a ha => ?_)
        · rw [j1 l (Ne.symm hkl)]; exact i1
        · rw [j1 r (by omega)]; exact i2 r (by omega)
        · by_cases e : r = k
          · subst e
            rw [j2 a ha, rk, rl, e7]
          · have : TT tcl2 r a = TT tcl' r a := by unfold TT; rw [j1 r e]
            rw [this]
            exact i3 r (by omega) hrl a ha
      refine ⟨hkin, hcin, fun x6 e6 => ⟨fun e x ex => ?_, fun e => ⟨fun e0 => ⟨fun ep x ex => ?_, fun _ => hinner x6 e6 ?_⟩, fun _ => hinner x6 e6 ?_⟩⟩⟩
      · rw [ex, nI_1]
        have hkl : k = l := nI_inj (by omega) (by omega) e
        refine ih (k + 1) tcl' (by omega) (by omega) i1 (fun r hr => i2 r (by omega)) (fun r hr hrl a ha => i3 r (by omega) hrl a ha)
      · rw [ex, nI_1]
        have hkl : k ≠ l := fun q => e (by rw [q])
        refine ih (k + 1) tcl' (by omega) (by omega) i1 (fun r hr => i2 r (by omega)) (fun r hr hrl a ha => ?_)
        by_cases e3 : r = k
        · subst e3
          have rk : TT tcl' r a = TT tcl r a := by unfold TT; rw [i2 r (Nat.le_refl r)]
          have r0 : TT tcl r c = 0 := by
            have h1 : tcl' r c = tcl r c := by rw [i2 r (Nat.le_refl r)]
            have h2 := i64_0.mp e0
            rw [e6, h1] at h2
            exact h2
          rw [rk, r0, ep, Int.zero_mul, Int.sub_zero]
        · exact i3 r (by omega) hrl a ha
      · exact fun q => e (by rw [q])
      · exact fun q => e (by rw [q])
theorem BB_upd {tba : Nat → Int32} {l c : Nat} (hc : c < 25) (r : Nat) : BB (upd tba l (nI c)) r = if r = l then c else BB tba r := by
  unfold BB
  by_cases e : r = l
  · subst e; rw [pk_us, if_pos rfl, nI_clamp (by omega)]
  · rw [pk_un e, if_neg e]
/-- a column comes in: nothing, if no cell of it is above 0; else the pivot at the row that leaves -/
theorem enter_spec {N q c : Nat} {A : Nat → Nat → Int} {Q : Int32 → (Nat → Int32) → Int64 → (Nat → Nat → Int64) → Prop} {tba : Nat → Int32} {tsc : Int64} {tcl : Nat → Nat → Int64}
    (hN : 100 ≤ N) (hm : q + 3 ≤ 10) (hc : c < 25) (hb : BOk (q + 3) tba) (hA : Wd q 25 A) (hT : Tb (q + 3) 25 A (TT tcl) (BB tba) tsc.toInt) (hR : ∀ r, r < q + 3 → (TT tcl r 25).natAbs ≤ 27000000000)
    (q0 : (∀ r, r < q + 3 → ¬ 0 < TT tcl r c) → Q 0 tba tsc tcl)
    (q1 : ∀ (l : Nat) (tcl' : Nat → Nat → Int64) (tba' : Nat → Int32) (tsc' : Int64), l < q + 3 → 0 < TT tcl l c → (∀ r, r < q + 3 → 0 < TT tcl r c → TT tcl l 25 * TT tcl r c < TT tcl r 25 * TT tcl l c ∨ (TT tcl l 25 * TT tcl r c = TT tcl r 25 * TT tcl l c ∧ BB tba r ≤ BB tba l)) →
      BOk (q + 3) tba' → Piv (q + 3) 25 (TT tcl) (TT tcl') (BB tba) (BB tba') tsc.toInt tsc'.toInt l c → Q 1 tba' tsc' tcl') : p_X5_enter N (nI (q + 3)) Q (nI c) tba tsc tcl := by
  have hC : ∀ r, r < q + 3 → ∀ a, a < 25 → (TT tcl r a).natAbs ≤ 27000000 := fun r hr a ha => hT.cell_le hA hr ha
  have hRa : ∀ r, r < q + 3 → ∀ a, a ≤ 25 → (TT tcl r a).natAbs ≤ 27000000000 := fun r hr a ha => by
    by_cases e : a = 25
    · subst e; exact hR r hr
    · exact Nat.le_trans (hC r hr a (by omega)) (by decide)
  unfold p_X5_enter
  refine leavingRow_spec hN hm hc hb (fun r hr => hC r hr c hc) hR (fun x2 hL => ?_)
  rcases hL with ⟨e, hn⟩ | ⟨l, hl, e, hp, hr⟩
  · exact ⟨fun _ => q0 hn, fun h => absurd e h⟩
  · subst e
    have hlin : vp_in (nI l) 10 := vp_in_nI (by omega) (by decide)
    have hcin : vp_in (nI c) 26 := vp_in_nI (by omega) (by decide)
    refine ⟨fun h => absurd h (nI_ne_m1 (by omega)), fun _ => ⟨fun h => ?_, fun _ => ⟨hlin, hcin, fun x3 e3 => ?_⟩⟩⟩
    · have := hT.pos
      rw [i64_0] at h; omega
    · rw [nI_clamp (show l < 2 ^ 31 by omega), nI_clamp (show c < 2 ^ 31 by omega)] at e3
      have e4 : x3.toInt = TT tcl l c := by rw [e3]; rfl
      rw [← nI_0]
      refine enter_rows hN hm hl hc hT.pos (by rw [e4]; exact hC l hl c hc) (fun r hr => hC r hr c hc) hRa (fun r hr hrl a ha => by rw [e4]; exact hT.exact hl hr hrl (by omega) ha) ?_ N 0 tcl (Nat.zero_le _) (by omega) rfl (fun _ _ => rfl) (fun r hr => absurd hr (by omega))
      intro tcl' j1 j2
      refine q1 l tcl' _ x3 hl hp hr ?_ ⟨e4, fun s _ => BB_upd hc s, fun a _ => by unfold TT; rw [j1], fun r a hr hrl ha => by rw [j2 r hr hrl a ha, e4]⟩
      intro r hr
      by_cases e : r = l
      · subst e; exact ⟨c, hc, pk_us⟩
      · rw [pk_un e]; exact hb r hr
