/-- one row's part of a pivot -/
theorem r_piv94 {N n k l c : Nat} {mjo : Int32} {Q : (Nat → Int64) → (Nat → Int32) → Int64 → Prop} {K : Int32 → Int32 → Int64 → Int32 → (Nat → Int64) → (Nat → Int32) → Int64 → Prop} {mba : Nat → Int32} {mdi x3 x6 : Int64} {mta : Nat → Int64}
    (hn : n ≤ 7) (hk : k < n + 4) (hl : l < n + 4) (hkl : k ≠ l) (hd : 0 < mdi.toInt) (hp : x3.toInt.natAbs ≤ 27000000) (hf : x6.toInt.natAbs ≤ 27000000)
    (hRk : ∀ a, a ≤ 26 → (UT mta k a).natAbs ≤ 27000000000) (hRl : ∀ a, a ≤ 26 → (UT mta l a).natAbs ≤ 27000000000)
    (hex : ∀ a, a ≤ 26 → ∃ q : Int, UT mta k a * x3.toInt - x6.toInt * UT mta l a = mdi.toInt * q)
    (hK : ∀ mta', (∀ r a, a < 27 → r ≠ k → UT mta' r a = UT mta r a) → (∀ a, a ≤ 26 → UT mta' k a * mdi.toInt = UT mta k a * x3.toInt - x6.toInt * UT mta l a) → K (nI l) (nI c) x3 (nI (k + 1)) mta' mba mdi) :
    ∀ (f j : Nat) (mta' : Nat → Int64), j ≤ 27 → 27 < f + j → (∀ r a, a < 27 → r ≠ k → UT mta' r a = UT mta r a) → (∀ a, a < j → UT mta' k a * mdi.toInt = UT mta k a * x3.toInt - x6.toInt * UT mta l a) → (∀ a, j ≤ a → a < 27 → UT mta' k a = UT mta k a) →
    p_X7_pivots_94 N mjo Q K f (nI l) (nI c) x3 (nI k) x6 (nI j) mta' mba mdi := by
  intro f
  induction f with
  | zero => intro j mta' h1 h2; omega
  | succ f ih =>
    intro j mta' h1 h2 i1 i2 i3
    unfold p_X7_pivots_94
    rw [show (27 : Int32) ≤ nI j ↔ nI 27 ≤ nI j from Iff.rfl]
    refine ⟨fun h x ex => ?_, fun h => ⟨fun e => absurd (nI_inj (by omega) (by omega) e) hkl, fun _ => ?_⟩⟩
    · have := (nI_leI (a := 27) (b := j) (by omega) (by omega)).mp h
      rw [ex, nI_1]
      exact hK mta' i1 (fun a ha => i2 a (by omega))
    · have hj : j < 27 := by
        rcases Nat.lt_or_ge j 27 with h' | h'
        · exact h'
        · exact absurd (nI_le h' (by omega)) h
      rw [ix27, ix27]
      refine ⟨in297 (by omega) hj, in297 (by omega) hj, fun e => ?_, fun y ey => ⟨in297 (by omega) hj, fun x ex => ?_⟩⟩
      · rw [i64_0] at e; omega
      · rw [nI_clamp (show 27 * k + j < 2 ^ 31 by omega), nI_clamp (show 27 * l + j < 2 ^ 31 by omega)] at ey
        rw [ex, nI_1, nI_clamp (show 27 * k + j < 2 ^ 31 by omega)]
        have ekj : (mta' (27 * k + j)).toInt = UT mta k j := i3 j (Nat.le_refl j) hj
        have elj : (mta' (27 * l + j)).toInt = UT mta l j := i1 l j hj (Ne.symm hkl)
        have b1 := nam (hRk j (by omega)) hp
        have b2 := nam hf (hRl j (by omega))
        have v1 : (mta' (27 * k + j) * x3).toInt = UT mta k j * x3.toInt := by
          rw [i64_mul, ekj]
          rw [ekj]; exact Nat.lt_of_le_of_lt b1 (by decide)
        have v2 : (x6 * mta' (27 * l + j)).toInt = x6.toInt * UT mta l j := by
          rw [i64_mul, elj]
          rw [elj]; exact Nat.lt_of_le_of_lt b2 (by decide)
        have v3 : (mta' (27 * k + j) * x3 - x6 * mta' (27 * l + j)).toInt = UT mta k j * x3.toInt - x6.toInt * UT mta l j := by
          rw [i64_sub, v1, v2]
          rw [v1, v2]
          have : 27000000000 * 27000000 + 27000000 * 27000000000 < 2 ^ 63 := by decide
          omega
        obtain ⟨q, hq⟩ := hex j (by omega)
        have v4 : y.toInt = q := by
          rw [ey]
          exact i64_exact hd (by rw [v3, hq])
        refine ih (j + 1) _ (by omega) (by omega) (fun r a ha hr => ?_) (fun a ha => ?_) (fun a ha ha2 => ?_)
        · rw [UT_ne ha hj (fun q => hr q.1)]; exact i1 r a ha hr
        · by_cases e : a = j
          · subst e
            rw [UT_at, v4, hq, Int.mul_comm]
          · rw [UT_ne (by omega) hj (fun q => e q.2)]
            exact i2 a (by omega)
        · rw [UT_ne ha2 hj (fun q => by omega)]
          exact i3 a (by omega) ha2
theorem r_piv68 {N n l c : Nat} {Q : (Nat → Int64) → (Nat → Int32) → Int64 → Prop} {mba : Nat → Int32} {mdi x3 : Int64} {mta : Nat → Int64} (hN : 1000 ≤ N) (hn : n ≤ 7) (hl : l < n + 4) (hc : c < 26) (hd : 0 < mdi.toInt) (hp : x3.toInt.natAbs ≤ 27000000)
    (hC : ∀ r, r < n + 4 → (UT mta r c).natAbs ≤ 27000000) (hR : ∀ r, r < n + 4 → ∀ a, a ≤ 26 → (UT mta r a).natAbs ≤ 27000000000)
    (hex : ∀ r, r < n + 4 → r ≠ l → ∀ a, a ≤ 26 → ∃ q : Int, UT mta r a * x3.toInt - UT mta r c * UT mta l a = mdi.toInt * q)
    (hQ : ∀ mta', (∀ a, a < 27 → UT mta' l a = UT mta l a) → (∀ r, r < n + 4 → r ≠ l → ∀ a, a ≤ 26 → UT mta' r a * mdi.toInt = UT mta r a * x3.toInt - UT mta r c * UT mta l a) → Q mta' (upd mba l (nI c)) x3) :
    p_X7_pivots_68 N (nI n) Q N (nI l) (nI c) x3 (0 : Int32) mta mba mdi := by
  have loop : ∀ (f k : Nat) (mta' : Nat → Int64), k ≤ n + 4 → n + 4 < f + k → (∀ a, a < 27 → UT mta' l a = UT mta l a) → (∀ r a, k ≤ r → a < 27 → UT mta' r a = UT mta r a) → (∀ r, r < k → r ≠ l → ∀ a, a ≤ 26 → UT mta' r a * mdi.toInt = UT mta r a * x3.toInt - UT mta r c * UT mta l a) →
      p_X7_pivots_68 N (nI n) Q f (nI l) (nI c) x3 (nI k) mta' mba mdi := by
    intro f
    induction f with
    | zero => intro k mta' h1 h2; omega
    | succ f ih =>
      intro k mta' h1 h2 i1 i2 i3
      unfold p_X7_pivots_68 p_X7_rows
      rw [rows_eq]
      refine ⟨fun h => ⟨vp_in_nI (by omega) (by decide), ?_⟩, fun h => ?_⟩
      · have := (nI_leI (by omega) (by omega)).mp h
        rw [nI_clamp (show l < 2 ^ 31 by omega)]
        exact hQ mta' i1 (fun r hr => i3 r (by omega))
      · have hk : k < n + 4 := by
          rcases Nat.lt_or_ge k (n + 4) with h' | h'
          · exact h'
          · exact absurd (nI_le h' (by omega)) h
        rw [ix27]
        refine ⟨in297 (by omega) (by omega), fun x6 e6 => ?_⟩
        rw [nI_clamp (show 27 * k + c < 2 ^ 31 by omega)] at e6
        have e7 : x6.toInt = UT mta k c := by
          rw [e6]; exact i2 k c (Nat.le_refl k) (by omega)
        by_cases hkl : k = l
        · subst hkl
          -- the row itself is left as it is
          cases N with
          | zero => omega
          | succ N =>
            unfold p_X7_pivots_94
            refine ⟨fun q => absurd q (by decide), fun _ => ⟨fun _ x ex => ?_, fun q => absurd rfl q⟩⟩
            rw [ex, nI_1]
            exact ih (k + 1) mta' (by omega) (by omega) i1 (fun r a hr ha => i2 r a (by omega) ha) (fun r hr hrl a ha => i3 r (by omega) hrl a ha)
        · rw [← nI_0]
          refine r_piv94 hn hk hl hkl hd hp (by rw [e7]; exact hC k hk) (mta := mta') (fun a ha => by rw [i2 k a (Nat.le_refl k) (by omega)]; exact hR k hk a ha) (fun a ha => by rw [i1 a (by omega)]; exact hR l hl a ha) (fun a ha => by rw [i2 k a (Nat.le_refl k) (by omega), i1 a (by omega), e7]; exact hex k hk hkl a ha) (fun mta2 j1 j2 => ?_) N 0 mta' (by omega) (by omega) (fun _ _ _ _ => rfl) (fun a ha => absurd ha (by omega)) (fun _ _ _ => rfl)
          refine ih (k + 1) mta2 (by omega) (by omega) (fun a ha => ?_) (fun r a hr ha => ?_) (fun r hr hrl a ha => ?_)
          · rw [j1 l a ha (Ne.symm hkl)]; exact i1 a ha
          · rw [j1 r a ha (by omega)]; exact i2 r a (by omega) ha
          · by_cases e : r = k
            · subst e
              rw [j2 a ha, i2 r a (Nat.le_refl r) (by omega), i1 a (by omega), e7]
            · rw [j1 r a (by omega) e]; exact i3 r (by omega) hrl a ha
  rw [← nI_0]
  exact loop N 0 mta (by omega) (by omega) (fun _ _ => rfl) (fun _ _ _ _ => rfl) (fun r hr => absurd hr (by omega))
/-- a pivot, where the row is first turned if its cell is below 0 -/
theorem r_pivots {N n l c : Nat} {Q : (Nat → Int64) → (Nat → Int32) → Int64 → Prop} {mba : Nat → Int32} {mdi : Int64} {mta : Nat → Int64} {s : Int} (hN : 1000 ≤ N) (hn : n ≤ 7) (hl : l < n + 4) (hc : c < 26) (hs : s = 1 ∨ s = -1) (hsp : 0 < s * UT mta l c) (hd : 0 < mdi.toInt)
    (hC : ∀ r, r < n + 4 → (UT mta r c).natAbs ≤ 27000000) (hR : ∀ r, r < n + 4 → ∀ a, a ≤ 26 → (UT mta r a).natAbs ≤ 27000000000)
    (hex : ∀ r, r < n + 4 → r ≠ l → ∀ a, a ≤ 26 → ∃ q : Int, UT mta r a * (s * UT mta l c) - UT mta r c * (s * UT mta l a) = mdi.toInt * q)
    (hQ : ∀ (mta' : Nat → Int64) (p : Int64), p.toInt = s * UT mta l c → (∀ a, a ≤ 26 → UT mta' l a = s * UT mta l a) → (∀ r, r < n + 4 → r ≠ l → ∀ a, a ≤ 26 → UT mta' r a * mdi.toInt = UT mta r a * (s * UT mta l c) - UT mta r c * (s * UT mta l a)) → Q mta' (upd mba l (nI c)) p) :
    p_X7_pivots N (nI n) Q (nI l) (nI c) mta mba mdi := by
  unfold p_X7_pivots
  rw [ix27, nI_clamp (show 27 * l + c < 2 ^ 31 by omega)]
  refine ⟨in297 (by omega) (by omega), fun h => ⟨in297 (by omega) (by omega), fun x3 e3 => ?_⟩, fun h => ?_⟩
  · have h0 : 0 ≤ UT mta l c := Int64.le_iff_toInt_le.mp h
    have s1 : s = 1 := by
      rcases hs with q | q
      · exact q
      · subst q; omega
    subst s1
    have e4 : x3.toInt = UT mta l c := by rw [e3]; rfl
    refine r_piv68 hN hn hl hc hd (by rw [e4]; exact hC l hl) hC hR (fun r hr hrl a ha => ?_) (fun mta' j1 j2 => hQ mta' x3 (by rw [e4]; omega) (fun a ha => by rw [j1 a (by omega)]; omega) (fun r hr hrl a ha => ?_))
    · have := hex r hr hrl a ha
      rw [Int.one_mul, Int.one_mul] at this
      rw [e4]; exact this
    · rw [j2 r hr hrl a ha, e4, Int.one_mul, Int.one_mul]
  · have h0 : ¬ 0 ≤ UT mta l c := fun q => h (Int64.le_iff_toInt_le.mpr q)
    have s1 : s = -1 := by
      rcases hs with q | q
      · subst q; omega
      · exact q
    subst s1
    have turn : ∀ (f j : Nat) (mta' : Nat → Int64), j ≤ 27 → 27 < f + j → (∀ a, a < j → UT mta' l a = - UT mta l a) → (∀ a, j ≤ a → a < 27 → UT mta' l a = UT mta l a) → (∀ r a, r ≠ l → a < 27 → UT mta' r a = UT mta r a) →
        p_X7_pivots_18 N (nI n) Q (fun x1 x2 x3 x5 mta mba mdi => p_X7_pivots_68 N (nI n) Q N x1 x2 x3 x5 mta mba mdi) f (nI l) (nI c) (nI j) mta' mba mdi := by
      intro f
      induction f with
      | zero => intro j mta' h1 h2; omega
      | succ f ih =>
        intro j mta' h1 h2 i1 i2 i3
        unfold p_X7_pivots_18
        rw [show (27 : Int32) ≤ nI j ↔ nI 27 ≤ nI j from Iff.rfl, ix27, ix27]
        refine ⟨fun q => ⟨in297 (by omega) (by omega), fun x3 e3 => ?_⟩, fun q => ?_⟩
        · have := (nI_leI (a := 27) (b := j) (by omega) (by omega)).mp q
          have ej : j = 27 := by omega
          subst ej
          rw [nI_clamp (show 27 * l + c < 2 ^ 31 by omega)] at e3
          have e4 : x3.toInt = - UT mta l c := by rw [e3]; exact i1 c (by omega)
          have el : ∀ a, a < 27 → UT mta' l a = -1 * UT mta l a := fun a ha => by rw [i1 a ha]; omega
          refine r_piv68 hN hn hl hc hd (by rw [e4]; have := hC l hl; omega) (fun r hr => ?_) (fun r hr a ha => ?_) (fun r hr hrl a ha => ?_) (fun mta2 j1 j2 => hQ mta2 x3 (by rw [e4]; omega) (fun a ha => by rw [j1 a (by omega), el a (by omega)]) (fun r hr hrl a ha => ?_))
          · by_cases e : r = l
            · subst e; rw [el c (by omega)]; have := hC r hr; omega
            · rw [i3 r c e (by omega)]; exact hC r hr
          · by_cases e : r = l
            · subst e; rw [el a (by omega)]; have := hR r hr a ha; omega
            · rw [i3 r a e (by omega)]; exact hR r hr a ha
          · rw [i3 r a hrl (by omega), i3 r c hrl (by omega), el a (by omega), e4, show - UT mta l c = -1 * UT mta l c by omega]
            exact hex r hr hrl a ha
          · rw [j2 r hr hrl a ha, i3 r a hrl (by omega), i3 r c hrl (by omega), el a (by omega), e4, show - UT mta l c = -1 * UT mta l c by omega]
        · have hj : j < 27 := by
            rcases Nat.lt_or_ge j 27 with h' | h'
            · exact h'
            · exact absurd (nI_le h' (by omega)) q
          refine ⟨in297 (by omega) hj, fun y ey => ⟨in297 (by omega) hj, fun x ex => ?_⟩⟩
          rw [nI_clamp (show 27 * l + j < 2 ^ 31 by omega)] at ey
          rw [ex, nI_1, nI_clamp (show 27 * l + j < 2 ^ 31 by omega)]
          have b1 := hR l hl j (by omega)
          have ej : (mta' (27 * l + j)).toInt = UT mta l j := i2 j (Nat.le_refl j) hj
          have ey' : y.toInt = - UT mta l j := by
            rw [ey, i64_neg, ej]
            rw [ej]
            have : (2 : Nat) ^ 63 = 9223372036854775808 := by decide
            omega
          refine ih (j + 1) _ (by omega) (by omega) (fun a ha => ?_) (fun a ha ha2 => ?_) (fun r a hr ha => ?_)
          · by_cases e : a = j
            · subst e; rw [UT_at]; exact ey'
            · rw [UT_ne (by omega) hj (fun q => e q.2)]; exact i1 a (by omega)
          · rw [UT_ne ha2 hj (fun q => by omega)]; exact i2 a (by omega) ha2
          · rw [UT_ne ha hj (fun q => hr q.1)]; exact i3 r a hr ha
    rw [← nI_0]
    exact turn N 0 mta (by omega) (by omega) (fun a ha => absurd ha (by omega)) (fun _ _ _ => rfl) (fun _ _ _ _ => rfl)
