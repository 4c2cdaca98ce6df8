/-! the rounded plan: the reference -/
theorem wmI_spec {n j : Nat} {num den : Nat → Nat} (hR : RP n num den) (hj : j < n) {i : Nat} (hi : i < 3) (h : num (3 * j + i) = den (3 * j + i)) : wmN num den j = i := wmN_at hi (fun k hk e => by
  have := hR.2.2.1 j hj k i (by omega) hi e h
  omega) h
theorem r_whole {N n j : Nat} {mab mbe : Nat → Int64} {num den : Nat → Nat} {Q : Int32 → Prop} (hN : 100 ≤ N) (hR : RP n num den) (hd : ∀ c, c < 3 * n → mab c = lN (num c) ∧ mbe c = lN (den c)) (hj : j < n) (hQ : Q (wmI num den j)) : p_X7_whole N mab mbe Q (nI j) := by
  have hn := hR.1
  have loop : ∀ (f k : Nat) (x2 : Int32), k ≤ 3 → 3 < f + k → ((x2 = -1 ∧ ∀ i, i < k → num (3 * j + i) ≠ den (3 * j + i)) ∨ ∃ i, i < k ∧ x2 = nI i ∧ num (3 * j + i) = den (3 * j + i)) → p_X7_whole_4 N mab mbe Q f (nI j) x2 (nI k) := by
    intro f
    induction f with
    | zero => intro k x2 h1 h2; omega
    | succ f ih =>
      intro k x2 h1 h2 hk
      unfold p_X7_whole_4
      refine ⟨fun h => ?_, fun h x4 e4 => ?_⟩
      · have h3 : 3 ≤ k := (nI_leI (a := 3) (b := k) (by omega) (by omega)).mp (by rw [show nI 3 = (3 : Int32) from by decide]; exact h)
        rcases hk with ⟨e, hno⟩ | ⟨i, hi, e, hw⟩
        · have ew : wmN num den j = 3 := wmN_no (fun i hi => hno i (by omega))
          unfold wmI at hQ
          rw [if_pos ew] at hQ
          rw [e]; exact hQ
        · have ew := wmI_spec hR hj (show i < 3 by omega) hw
          unfold wmI at hQ
          rw [if_neg (by omega), ew] at hQ
          rw [e]; exact hQ
      · have hk3 : k < 3 := by
          rcases Nat.lt_or_ge k 3 with h' | h'
          · exact h'
          · exact absurd (show (3 : Int32) ≤ nI k by rw [show (3 : Int32) = nI 3 from by decide]; exact nI_le h' (by omega)) h
        obtain ⟨l1, l2, -⟩ := hR.2.1 (3 * j + k) (by omega)
        obtain ⟨e1, e2⟩ := hd (3 * j + k) (by omega)
        rw [e4, ix3, nI_clamp (show 3 * j + k < 2 ^ 31 by omega), e1, e2]
        have hin : vp_in (nI (3 * j + k)) 21 := vp_in_nI (by omega) (by decide)
        refine ⟨hin, hin, fun q x ex => ?_, fun q x ex => ?_⟩
        · have q' := lN_inj (by omega) (by omega) q
          rw [ex, nI_1]
          exact ih (k + 1) _ (by omega) (by omega) (Or.inr ⟨k, by omega, rfl, q'⟩)
        · have q' : num (3 * j + k) ≠ den (3 * j + k) := fun e => q (by rw [e])
          rw [ex, nI_1]
          refine ih (k + 1) _ (by omega) (by omega) ?_
          rcases hk with ⟨e, hno⟩ | ⟨i, hi, e, hw⟩
          · refine Or.inl ⟨e, fun i hi => ?_⟩
            by_cases ei : i = k
            · subst ei; exact q'
            · exact hno i (by omega)
          · exact Or.inr ⟨i, by omega, e, hw⟩
  unfold p_X7_whole
  rw [← nI_0]
  exact loop N 0 (-1) (by omega) (by omega) (Or.inl ⟨rfl, fun i hi => absurd hi (by omega)⟩)
/-- the jobs before k do not stand in each other's way -/
def OKk (num den g : Nat → Nat) (k : Nat) : Prop := (∀ j, j < k → wmN num den j = 3 → 0 < num (3 * j + g j)) ∧ ∀ i j, i < j → j < k → wmN num den i = 3 → wmN num den j = 3 → g i ≠ g j
def GC (n : Nat) (num den g : Nat → Nat) : Prop := ∀ j, j < n → g j < 3 ∧ (wmN num den j < 3 → g j = wmN num den j)
theorem MT_iff {n : Nat} {num den g : Nat → Nat} (hg : GC n num den g) : MT n num den g ↔ OKk num den g n :=
  ⟨fun h => ⟨fun j hj => (h.1 j hj).2.2, h.2⟩, fun h => ⟨fun j hj => ⟨(hg j hj).1, (hg j hj).2, h.1 j hj⟩, h.2⟩⟩
theorem wmI_neg {num den : Nat → Nat} {j : Nat} (h : wmN num den j = 3) : ¬ (0 : Int32) ≤ wmI num den j := by
  unfold wmI
  rw [if_pos h]
  decide
theorem wmI_pos {num den : Nat → Nat} {j : Nat} (h : ¬ wmN num den j = 3) : (0 : Int32) ≤ wmI num den j ∧ wmI num den j = nI (wmN num den j) := by
  have := wmN_le (num := num) (den := den) (j := j)
  unfold wmI
  rw [if_neg h]
  exact ⟨nI_nneg (by omega), rfl⟩
theorem lN_pos {a : Nat} (h : a < 2 ^ 63) : lN a ≤ (0 : Int64) ↔ a = 0 := by
  rw [i64_le0, pk_lT h]
  omega
theorem r_matches {N n : Nat} {mab mbe : Nat → Int64} {num den g : Nat → Nat} {mpl : Nat → Int32} {Q : Int32 → Prop} (hN : 100 ≤ N) (hR : RP n num den) (hd : ∀ c, c < 3 * n → mab c = lN (num c) ∧ mbe c = lN (den c)) (hg : GC n num den g) (hm : ∀ j, j < n → mpl j = nI (g j)) (q1 : MT n num den g → Q 1) (q0 : ¬ MT n num den g → Q 0) : p_X7_matches N (nI n) mab mbe mpl Q := by
  have hn := hR.1
  have loop : ∀ (f k : Nat) (s : Nat → Bool) (x2 : Int32), k ≤ n → n < f + k → (∀ i, i < 3 → (s i = true ↔ ∃ j, j < k ∧ wmN num den j = 3 ∧ g j = i)) → ((x2 = 1 ∧ OKk num den g k) ∨ (x2 = 0 ∧ ¬ OKk num den g k)) → p_X7_matches_6 N (nI n) mab mbe mpl Q f (mkm s) x2 (nI k) := by
    intro f
    induction f with
    | zero => intro k s x2 h1 h2; omega
    | succ f ih =>
      intro k s x2 h1 h2 hs h5
      unfold p_X7_matches_6
      refine ⟨fun h => ?_, fun h => ?_⟩
      · have := (nI_leI (by omega) (by omega)).mp h
        have ek : k = n := by omega
        subst ek
        rcases h5 with ⟨e, hok⟩ | ⟨e, hno⟩
        · rw [e]; exact ⟨by decide, q1 ((MT_iff hg).mpr hok)⟩
        · rw [e]; exact ⟨by decide, q0 (fun q => hno ((MT_iff hg).mp q))⟩
      · have hkn : k < n := by
          rcases Nat.lt_or_ge k n with h' | h'
          · exact h'
          · exact absurd (nI_le h' (by omega)) h
        have hkin : vp_in (nI k) 7 := vp_in_nI (by omega) (by decide)
        obtain ⟨g3, gw⟩ := hg k hkn
        refine r_whole hN hR hd hkn ?_
        by_cases ew : wmN num den k = 3
        · refine ⟨fun q => absurd q (wmI_neg ew), fun _ => ?_⟩
          rw [nI_clamp (show k < 2 ^ 31 by omega), hm k hkn, ix3, nI_clamp (show 3 * k + g k < 2 ^ 31 by omega)]
          obtain ⟨b1, b2, b3⟩ := mkm_ands s (g k) g3
          rw [b2]
          have hs' : ∀ i, i < 3 → (setb s (g k) i = true ↔ ∃ j, j < k + 1 ∧ wmN num den j = 3 ∧ g j = i) := fun i hi => by
            show (if i = g k then true else s i) = true ↔ _
            by_cases e : i = g k
            · rw [if_pos e]
              exact ⟨fun _ => ⟨k, by omega, ew, e.symm⟩, fun _ => rfl⟩
            · rw [if_neg e, hs i hi]
              constructor
              · intro ⟨j, r1, r2, r3⟩; exact ⟨j, by omega, r2, r3⟩
              · intro ⟨j, r1, r2, r3⟩
                by_cases e2 : j = k
                · subst e2; omega
                · exact ⟨j, by omega, r2, r3⟩
          have go : ∀ (x2 : Int32), ((x2 = 1 ∧ OKk num den g (k + 1)) ∨ (x2 = 0 ∧ ¬ OKk num den g (k + 1))) → ∀ x1 : Int32, x1 = mkm (setb s (g k)) → ∀ x : Int32, x = nI k + 1 → p_X7_matches_6 N (nI n) mab mbe mpl Q f x1 x2 x := fun x2 hx x1 e1 x ex => by
            rw [e1, ex, nI_1]
            exact ih (k + 1) _ x2 (by omega) (by omega) hs' hx
          have okk : OKk num den g (k + 1) → OKk num den g k := fun q => ⟨fun j hj => q.1 j (by omega), fun i j hij hj => q.2 i j hij (by omega)⟩
          obtain ⟨l1, l2, -⟩ := hR.2.1 (3 * k + g k) (by omega)
          refine ⟨fun h0 => ⟨hkin, ?_⟩, fun h0 => ⟨hkin, vp_in_nI (by omega) (by decide), ?_⟩⟩
          · rcases h5 with ⟨e, -⟩ | ⟨e, hno⟩
            · rw [e] at h0; exact absurd h0 (by decide)
            · exact go 0 (Or.inr ⟨rfl, fun q => hno (okk q)⟩)
          · rcases h5 with ⟨e, hok⟩ | ⟨e, -⟩
            · rw [(hd _ (show 3 * k + g k < 3 * n by omega)).1]
              refine ⟨fun hle => ⟨hkin, go 0 (Or.inr ⟨rfl, fun q => ?_⟩)⟩, fun hgt => ⟨hkin, fun hb => ⟨hkin, go 1 (Or.inl ⟨rfl, fun j hj hw => ?_, fun i j hij hj hwi hwj => ?_⟩)⟩, fun hb => ⟨hkin, go 0 (Or.inr ⟨rfl, fun q => ?_⟩)⟩⟩⟩
              · have r := q.1 k (by omega) ew
                have := (lN_pos (by omega)).mp hle
                omega
              · by_cases e2 : j = k
                · subst e2
                  rcases Nat.eq_zero_or_pos (num (3 * j + g j)) with r | r
                  · exact absurd ((lN_pos (by omega)).mpr r) hgt
                  · exact r
                · exact hok.1 j (by omega) hw
              · by_cases e2 : j = k
                · subst e2
                  intro e3
                  have r := (hs (g j) g3).mpr ⟨i, hij, hwi, e3⟩
                  rw [b3.mp hb] at r
                  exact absurd r (by decide)
                · exact hok.2 i j hij (by omega) hwi hwj
              · apply hb
                refine b3.mpr ?_
                cases hsv : s (g k) with
                | false => rfl
                | true =>
                  obtain ⟨j, r1, r2, r3⟩ := (hs (g k) g3).mp hsv
                  exact absurd r3 (q.2 j k r1 (by omega) r2 ew)
            · exact absurd e h0
        · refine ⟨fun _ x ex => ?_, fun q => absurd (wmI_pos ew).1 q⟩
          rw [ex, nI_1]
          refine ih (k + 1) s x2 (by omega) (by omega) (fun i hi => ?_) ?_
          · rw [hs i hi]
            constructor
            · intro ⟨j, r1, r2, r3⟩; exact ⟨j, by omega, r2, r3⟩
            · intro ⟨j, r1, r2, r3⟩
              by_cases e2 : j = k
              · subst e2; exact absurd r2 ew
              · exact ⟨j, by omega, r2, r3⟩
          · have iff : OKk num den g (k + 1) ↔ OKk num den g k := ⟨fun q => ⟨fun j hj => q.1 j (by omega), fun i j hij hj => q.2 i j hij (by omega)⟩, fun q => ⟨fun j hj hw => by
              by_cases e2 : j = k
              · subst e2; exact absurd hw ew
              · exact q.1 j (by omega) hw, fun i j hij hj hwi hwj => by
              by_cases e2 : j = k
              · subst e2; exact absurd hwj ew
              · exact q.2 i j hij (by omega) hwi hwj⟩⟩
            rw [iff]; exact h5
  unfold p_X7_matches
  have hz : (0 : Int32) = mkm (fun _ => false) := by decide
  have := loop N 0 (fun _ => false) 1 (by omega) (by omega) (fun i _ => ⟨fun q => absurd q (by decide), fun ⟨j, q, _⟩ => absurd q (by omega)⟩) (Or.inl ⟨rfl, fun j hj => absurd hj (by omega), fun i j _ hj => absurd hj (by omega)⟩)
  rw [mkm_none, nI_0] at this
  exact this
def dvN (num den : Nat → Nat) : Nat → Bool := fun j => decide (wmN num den j = 3)
theorem allv_le {dv : Nat → Bool} : ∀ {k : Nat}, 1 ≤ allv dv k ∧ allv dv k ≤ allv dvT k := by
  intro k
  induction k with
  | zero => exact ⟨Nat.le_refl _, Nat.le_refl _⟩
  | succ k ih =>
    rw [allvT_succ]
    show 1 ≤ (if dv k = true then allv dv k * 3 else allv dv k) ∧ (if dv k = true then allv dv k * 3 else allv dv k) ≤ allv dvT k * 3
    split <;> omega
theorem RD_of {n : Nat} {num den g : Nat → Nat} (hg : MT n num den g) (h : ∀ h, MT n num den h → cdv (dvN num den) n g ≤ cdv (dvN num den) n h) : RD n num den g := by
  refine ⟨hg, fun k hk => ?_⟩
  have nd : ∀ j, j < n → ¬ dvN num den j = true → g j = k j := fun j hj q => by
    have q' : ¬ wmN num den j = 3 := fun e => q (decide_eq_true e)
    have := wmN_le (num := num) (den := den) (j := j)
    rw [(hg.1 j hj).2.1 (by omega), (hk.1 j hj).2.1 (by omega)]
  rcases cdv_lex (fun j hj _ => (hg.1 j hj).1) (fun j hj _ => (hk.1 j hj).1) (h k hk) with q | ⟨j, hj, -, q1, q2⟩
  · refine Or.inl (fun j hj => ?_)
    by_cases e : dvN num den j = true
    · exact q j hj e
    · exact nd j hj e
  · refine Or.inr ⟨j, hj, fun i hi => ?_, q2⟩
    by_cases e : dvN num den i = true
    · exact q1 i hi e
    · exact nd i (by omega) e
theorem r_rounds {N n : Nat} {mti : Nat → Int32} {Q : (Nat → Int64) → (Nat → Int32) → (Nat → Int32) → Int64 → (Nat → Int64) → (Nat → Int64) → (Nat → Int32) → (Nat → Int32) → Prop} {mta : Nat → Int64} {mba mib : Nat → Int32} {mdi : Int64} {mab mbe : Nat → Int64} {mpl mro : Nat → Int32} (hN : 2000000000 ≤ N) (hJ : JI n mti) (hall : ∀ j, j < n → hasC 50 (tmI mti) j)
    (hQ : ∀ mta mba mib mdi mab mbe mpl mro (num den g : Nat → Nat), ND n (tmI mti) num den → RD n num den g → (∀ j, j < n → mro j = nI (g j)) → Q mta mba mib mdi mab mbe mpl mro) : p_X7_rounds N mti (nI n) Q mta mba mib mdi mab mbe mpl mro := by
  have hn := hJ.1
  unfold p_X7_rounds
  refine r_divides hN hJ hall (fun mta mba mib mdi mab mbe num den hND hd => ?_)
  have hR := hND.rp hn
  have hal : ∀ {k}, k ≤ 7 → 1 ≤ allv (dvN num den) k ∧ allv (dvN num den) k ≤ 2187 := fun {k} hk => by
    have h1 := allv_le (dv := dvN num den) (k := k)
    have h2 := allvT_le hk
    omega
  obtain ⟨al1, al2⟩ := hal hn
  have copy : ∀ (mpl : Nat → Int32) (g : Nat → Nat), RD n num den g → (∀ j, j < n → mpl j = nI (g j)) → ∀ (f k : Nat) (mro : Nat → Int32), k ≤ n → n < f + k → (∀ j, j < k → mro j = nI (g j)) → p_X7_rounds_143 N mti (nI n) Q f (nI k) mta mba mib mdi mab mbe mpl mro := by
    intro mpl g hRD hm f
    induction f with
    | zero => intro k mro h1 h2; omega
    | succ f ih =>
      intro k mro h1 h2 hk
      unfold p_X7_rounds_143
      refine ⟨fun h => ?_, fun h => ?_⟩
      · have := (nI_leI (by omega) (by omega)).mp h
        exact hQ mta mba mib mdi mab mbe mpl mro num den g hND hRD (fun j hj => hk j (by omega))
      · have hkn : k < n := by
          rcases Nat.lt_or_ge k n with h' | h'
          · exact h'
          · exact absurd (nI_le h' (by omega)) h
        rw [nI_clamp (show k < 2 ^ 31 by omega)]
        refine ⟨vp_in_nI (by omega) (by decide), fun f3 e3 => ⟨vp_in_nI (by omega) (by decide), fun x ex => ?_⟩⟩
        rw [ex, nI_1]
        refine ih (k + 1) _ (by omega) (by omega) (fun j hj => ?_)
        by_cases e : j = k
        · subst e; rw [pk_us, e3]; exact hm j hkn
        · rw [pk_un e]; exact hk j (by omega)
  -- one number
  have one : ∀ (K : Int32 → Int32 → Int32 → (Nat → Int64) → (Nat → Int32) → (Nat → Int32) → Int64 → (Nat → Int64) → (Nat → Int64) → (Nat → Int32) → (Nat → Int32) → Prop) (x1 : Int32) (c : Nat) (mro : Nat → Int32) (g : Nat → Nat), GC n num den g → c < 5000 → (∀ mpl, (∀ j, j < n → mpl j = nI (g j)) → (MT n num den g → K x1 1 (nI (c + 1)) mta mba mib mdi mab mbe mpl mro) ∧ (¬ MT n num den g → K x1 0 (nI (c + 1)) mta mba mib mdi mab mbe mpl mro)) →
      ∀ (f k : Nat) (mpl : Nat → Int32), k ≤ n → k < f → (∀ j, k ≤ j → j < n → mpl j = nI (g j)) → p_X7_rounds_62 N mti (nI n) Q K f x1 (nI c) (nI (cdv (dvN num den) k g)) (X6i k) mta mba mib mdi mab mbe mpl mro := by
    intro K x1 c mro g hg hc hK f
    induction f with
    | zero => intro k mpl h1 h2; omega
    | succ f ih =>
      intro k mpl h1 h2 hm
      unfold p_X7_rounds_62
      cases k with
      | zero =>
        refine ⟨fun _ => ?_, fun h => absurd (show X6i 0 < 0 by decide) h⟩
        obtain ⟨k1, k0⟩ := hK mpl (fun j hj => hm j (Nat.zero_le j) hj)
        refine r_matches (by omega) hR hd hg (fun j hj => hm j (Nat.zero_le j) hj) (fun q x ex => ?_) (fun q x ex => ?_)
        · rw [ex, nI_1]; exact k1 q
        · rw [ex, nI_1]; exact k0 q
      | succ k =>
        have hX : X6i (k + 1) = nI k := rfl
        rw [hX]
        have hkin : vp_in (nI k) 7 := vp_in_nI (by omega) (by decide)
        have hm' : ∀ y : Int32, y = nI (g k) → ∀ j, k ≤ j → j < n → upd mpl k y j = nI (g j) := fun y ey j h1 h2 => by
          by_cases e : j = k
          · subst e; rw [pk_us]; exact ey
          · rw [pk_un e]; exact hm j (by omega) h2
        have z01 : ¬ (1 : Int32) = 0 := by decide
        refine ⟨fun h => absurd (show (0 : Int32) ≤ nI k from nI_nneg (by omega)) (by rw [Int32.not_le]; exact h), fun _ => ?_⟩
        refine r_whole (by omega) hR hd (show k < n by omega) ?_
        rw [nI_clamp (show k < 2 ^ 31 by omega)]
        obtain ⟨g3, gw⟩ := hg k (by omega)
        have hw3 := wmN_le (num := num) (den := den) (j := k)
        by_cases ew : wmN num den k = 3
        · have ecd : cdv (dvN num den) (k + 1) g = 3 * cdv (dvN num den) k g + g k := if_pos (decide_eq_true ew)
          have hck : cdv (dvN num den) k g < 2187 := by
            have h1 := cdv_lt (dv := dvN num den) (f := g) (k := k) (fun j hj _ => (hg j (by omega)).1)
            have h2 := hal (k := k) (by omega)
            omega
          obtain ⟨d1, d2⟩ := dig3 (a := cdv (dvN num den) k g) g3 (by omega)
          rw [ecd]
          refine ⟨fun q => absurd q (wmI_neg ew), fun _ => ⟨fun q => absurd q z01, fun _ f26 e26 => ⟨hkin, fun q => absurd q z01, fun _ x4 e4 x5 e5 => ?_⟩⟩⟩
          rw [d1] at e26
          rw [d2] at e4
          rw [e4, e5, X6i_m1]
          exact ih k _ (by omega) (by omega) (hm' f26 e26)
        · have ecd : cdv (dvN num den) (k + 1) g = cdv (dvN num den) k g := if_neg (fun q => ew (of_decide_eq_true q))
          obtain ⟨w1, w2⟩ := wmI_pos ew
          rw [ecd]
          refine ⟨fun _ => ⟨fun _ => r_whole (by omega) hR hd (show k < n by omega) ⟨hkin, fun _ x5 e5 => ?_, fun q => absurd rfl q⟩, fun q => absurd rfl q⟩, fun q => absurd w1 q⟩
          rw [e5, X6i_m1]
          exact ih k _ (by omega) (by omega) (hm' _ (by rw [w2, gw (by omega)]))
  have codes : ∀ (f c : Nat) (x2 : Int32) (mpl mro : Nat → Int32), c ≤ allv (dvN num den) n → allv (dvN num den) n < f + c → ((x2 = 0 ∧ ∀ h, MT n num den h → c ≤ cdv (dvN num den) n h) ∨ (x2 = 1 ∧ ∃ g, RD n num den g ∧ ∀ j, j < n → mpl j = nI (g j))) → p_X7_rounds_42 N mti (nI n) Q f (nI (allv (dvN num den) n)) x2 (nI c) mta mba mib mdi mab mbe mpl mro := by
    intro f
    induction f with
    | zero => intro c x2 mpl mro h1 h2; omega
    | succ f ih =>
      intro c x2 mpl mro h1 h2 h5
      unfold p_X7_rounds_42
      have done : ∀ g, RD n num den g → (∀ j, j < n → mpl j = nI (g j)) → p_X7_rounds_143 N mti (nI n) Q N (0 : Int32) mta mba mib mdi mab mbe mpl mro := fun g q1 q2 => by
        rw [← nI_0]
        exact copy mpl g q1 q2 N 0 mro (by omega) (by omega) (fun j hj => absurd hj (by omega))
      refine ⟨fun h => ?_, fun h => ⟨fun h0 x5 e5 => ?_, fun h0 => ?_⟩⟩
      · have := (nI_leI (by omega) (by omega)).mp h
        rcases h5 with ⟨e, hno⟩ | ⟨e, g, q1, q2⟩
        · obtain ⟨g, hg⟩ := hR.2.2.2
          have h3 := hno g hg
          have h4 := cdv_lt (dv := dvN num den) (f := g) (k := n) (fun j hj _ => (hg.1 j hj).1)
          omega
        · exact done g q1 q2
      · have hc : c < allv (dvN num den) n := by
          rcases Nat.lt_or_ge c (allv (dvN num den) n) with h' | h'
          · exact h'
          · exact absurd (nI_le h' (by omega)) h
        rcases h5 with ⟨-, hno⟩ | ⟨e, -⟩
        · obtain ⟨g0, hg0, hgc0⟩ := cdv_ex hc
          obtain ⟨g, hg, hgc⟩ : ∃ g, GC n num den g ∧ cdv (dvN num den) n g = c := by
            refine ⟨fun j => if wmN num den j = 3 then g0 j else wmN num den j, fun j hj => ?_, ?_⟩
            · show (if wmN num den j = 3 then g0 j else wmN num den j) < 3 ∧ (wmN num den j < 3 → (if wmN num den j = 3 then g0 j else wmN num den j) = wmN num den j)
              have := wmN_le (num := num) (den := den) (j := j)
              have := hg0 j
              by_cases e : wmN num den j = 3
              · rw [if_pos e]; exact ⟨this, fun q => by omega⟩
              · rw [if_neg e]; exact ⟨by omega, fun _ => rfl⟩
            · rw [← hgc0]
              exact cdv_congr (fun j _ q => if_pos (of_decide_eq_true q))
          rw [e5, X6i_sub]
          have main := one (fun x1 x2 x3 mta mba mib mdi mab mbe mpl mro => p_X7_rounds_42 N mti (nI n) Q f x1 x2 x3 mta mba mib mdi mab mbe mpl mro) (nI (allv (dvN num den) n)) c mro g hg (by omega) (fun mpl hm => ⟨fun hM => ih (c + 1) 1 mpl mro (by omega) (by omega) (Or.inr ⟨rfl, g, RD_of hM (fun h hh => by have := hno h hh; omega), hm⟩), fun hM => ih (c + 1) 0 mpl mro (by omega) (by omega) (Or.inl ⟨rfl, fun h hh => ?_⟩)⟩) N n mpl (Nat.le_refl n) (by omega) (fun j h1 h2 => absurd h2 (by omega))
          · rw [hgc] at main
            exact main
          · have h3 := hno h hh
            rcases Nat.lt_or_ge c (cdv (dvN num den) n h) with r | r
            · omega
            · exfalso
              apply hM
              -- h is g
              refine hh.ext (fun j hj => ?_)
              by_cases e : wmN num den j = 3
              · have e1 := cdv_lex (dv := dvN num den) (k := n) (f := h) (g := g) (fun j hj _ => (hh.1 j hj).1) (fun j hj _ => (hg j hj).1) (by omega)
                have e2 := cdv_lex (dv := dvN num den) (k := n) (f := g) (g := h) (fun j hj _ => (hg j hj).1) (fun j hj _ => (hh.1 j hj).1) (by omega)
                rcases e1 with q | ⟨i, hi, hdi, q1, q2⟩
                · exact (q j hj (decide_eq_true e)).symm
                · rcases e2 with r | ⟨i', hi', hdi', r1, r2⟩
                  · exact r j hj (decide_eq_true e)
                  · exfalso
                    rcases Nat.lt_trichotomy i i' with s | s | s
                    · have := r1 i s hdi; omega
                    · subst s; omega
                    · have := q1 i' s hdi'; omega
              · have := wmN_le (num := num) (den := den) (j := j)
                rw [(hg j hj).2 (by omega), (hh.1 j hj).2.1 (by omega)]
        · rw [e] at h0; exact absurd h0 (by decide)
      · rcases h5 with ⟨e, -⟩ | ⟨e, g, q1, q2⟩
        · exact absurd e h0
        · exact done g q1 q2
  have pow : ∀ (f k : Nat), k ≤ n → n < f + k → p_X7_rounds_8 N mti (nI n) Q f (nI (allv (dvN num den) k)) (nI k) mta mba mib mdi mab mbe mpl mro := by
    intro f
    induction f with
    | zero => intro k h1 h2; omega
    | succ f ih =>
      intro k h1 h2
      unfold p_X7_rounds_8
      refine ⟨fun h => ?_, fun h => ?_⟩
      · have := (nI_leI (by omega) (by omega)).mp h
        have ek : k = n := by omega
        subst ek
        rw [← nI_0]
        exact codes N 0 (nI 0) mpl mro (by omega) (by omega) (Or.inl ⟨by decide, fun _ _ => Nat.zero_le _⟩)
      · have hk : k < n := by
          rcases Nat.lt_or_ge k n with h' | h'
          · exact h'
          · exact absurd (nI_le h' (by omega)) h
        refine r_whole (by omega) hR hd hk ?_
        by_cases ew : wmN num den k = 3
        · have ea : allv (dvN num den) (k + 1) = allv (dvN num den) k * 3 := if_pos (decide_eq_true ew)
          refine ⟨fun q => absurd q (wmI_neg ew), fun _ x1 e1 x2 e2 => ?_⟩
          rw [e1, e2, nI_1, show (3 : Int32) = nI 3 from by decide, pk_mul, ← ea]
          exact ih (k + 1) (by omega) (by omega)
        · have ea : allv (dvN num den) (k + 1) = allv (dvN num den) k := if_neg (fun q => ew (of_decide_eq_true q))
          refine ⟨fun _ x1 e1 x2 e2 => ?_, fun q => absurd (wmI_pos ew).1 q⟩
          rw [e1, e2, nI_1, show (1 : Int32) = nI 1 from by decide, pk_mul, Nat.mul_one, ← ea]
          exact ih (k + 1) (by omega) (by omega)
  have := pow N 0 (by omega) (by omega)
  rw [nI_0] at this
  exact this
