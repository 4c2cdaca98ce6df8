/-! the reference's shortest plan -/
def dvT : Nat → Bool := fun _ => true
theorem cdvT_succ {k : Nat} {f : Nat → Nat} : cdv dvT (k + 1) f = 3 * cdv dvT k f + f k := if_pos rfl
theorem allvT_succ {k : Nat} : allv dvT (k + 1) = allv dvT k * 3 := if_pos rfl
theorem allvT_le : ∀ {k : Nat}, k ≤ 7 → 1 ≤ allv dvT k ∧ allv dvT k ≤ 2187
  | 0, _ => by decide
  | 1, _ => by decide
  | 2, _ => by decide
  | 3, _ => by decide
  | 4, _ => by decide
  | 5, _ => by decide
  | 6, _ => by decide
  | 7, _ => by decide
  | k + 8, h => absurd h (by omega)
def X6i : Nat → Int32
  | 0 => -1
  | k + 1 => nI k
theorem X6i_m1 {k : Nat} : nI k + (-1 : Int32) = X6i k := by
  cases k with
  | zero => decide
  | succ k => exact nIm1 k
theorem X6i_sub {k : Nat} : nI k - (1 : Int32) = X6i k := by
  cases k with
  | zero => decide
  | succ k => rw [show (1 : Int32) = nI 1 from by decide, pk_sub (by omega)]; rfl
/-- the digits of a plan's number -/
theorem dig3 {a b : Nat} (hb : b < 3) (ha : a < 100000) : nI (3 * a + b) - nI (3 * a + b) / (3 : Int32) * (3 : Int32) = nI b ∧ nI (3 * a + b) / (3 : Int32) = nI a := by
  have e : nI (3 * a + b) / (3 : Int32) = nI a := by
    rw [show (3 : Int32) = nI 3 from by decide, pk_div (by omega) (by omega) (by omega)]
    congr 1; omega
  refine ⟨?_, e⟩
  rw [e, show (3 : Int32) = nI 3 from by decide, pk_mul, pk_sub (by omega)]
  congr 1; omega
/-- what the plans below a number brought -/
def SB (n : Nat) (t : Nat → Nat) (c : Nat) (x2 : Int32) (mbs : Nat → Int32) : Prop :=
  (x2 = -1 ∧ ∀ g, feas n t g → c ≤ cdv dvT n g) ∨ (∃ f L, x2 = nI L ∧ L ≤ 350 ∧ feas n t f ∧ lenN n t f = L ∧ (∀ j, j < n → mbs j = nI (f j)) ∧ cdv dvT n f < c ∧ ∀ g, feas n t g → cdv dvT n g < c → L < lenN n t g ∨ (lenN n t g = L ∧ cdv dvT n f ≤ cdv dvT n g))
theorem cdvT_inj {n : Nat} {f g : Nat → Nat} (hf : ∀ j, j < n → f j < 3) (hg : ∀ j, j < n → g j < 3) (h : cdv dvT n f = cdv dvT n g) : ∀ j, j < n → f j = g j := by
  rcases cdv_lex (fun j hj _ => hf j hj) (fun j hj _ => hg j hj) (Nat.le_of_eq h) with q | ⟨j, hj, -, q1, q2⟩
  · exact fun j hj => q j hj rfl
  · rcases cdv_lex (fun j hj _ => hg j hj) (fun j hj _ => hf j hj) (Nat.le_of_eq h.symm) with r | ⟨i, hi, -, r1, r2⟩
    · have := r j hj rfl; omega
    · exfalso
      rcases Nat.lt_trichotomy i j with s | s | s
      · have := q1 i s rfl; omega
      · subst s; omega
      · have := r1 j s rfl; omega
theorem r_shortestOf {N n : Nat} {mti mpl mbs mlo : Nat → Int32} {Q : Int32 → (Nat → Int32) → (Nat → Int32) → (Nat → Int32) → Prop} (hN : 3000 ≤ N) (hJ : JI n mti) (hex : ∃ g, feas n (tN mti) g) (hQ : ∀ mpl mbs mlo L f, Best n (tN mti) f L → L ≤ 350 → (∀ j, j < n → mbs j = nI (f j)) → Q (nI L) mpl mbs mlo) : p_X7_shortestOf N mti (nI n) Q mpl mbs mlo := by
  have hn := hJ.1
  obtain ⟨al1, al2⟩ := allvT_le hn
  have inL : ∀ {m : Nat} {w : Nat}, m < 7 → vp_in (nI m) 7 := fun h => vp_in_nI h (by decide)
  -- copying the plan
  have copy : ∀ (K : Int32 → Int32 → Int32 → (Nat → Int32) → (Nat → Int32) → (Nat → Int32) → Prop) (x1 x2 x3 : Int32) (mpl mlo : Nat → Int32), (∀ mbs', (∀ j, j < n → mbs' j = mpl j) → K x1 x2 (x3 + 1) mpl mbs' mlo) → ∀ (f k : Nat) (mbs' : Nat → Int32), k ≤ n → n < f + k → (∀ j, j < k → mbs' j = mpl j) → p_X7_shortestOf_145 N mti (nI n) Q K f x1 x2 x3 (nI k) mpl mbs' mlo := by
    intro K x1 x2 x3 mpl mlo hK f
    induction f with
    | zero => intro k mbs' h1 h2; omega
    | succ f ih =>
      intro k mbs' h1 h2 hk
      unfold p_X7_shortestOf_145
      refine ⟨fun h x ex => ?_, fun h => ?_⟩
      · have := (nI_leI (by omega) (by omega)).mp h
        rw [ex]
        exact hK mbs' (fun j hj => hk j (by omega))
      · have hkn : k < n := by
          rcases Nat.lt_or_ge k n with h' | h'
          · exact h'
          · exact absurd (nI_le h' (by omega)) h
        rw [nI_clamp (show k < 2 ^ 31 by omega)]
        refine ⟨vp_in_nI (by omega) (by decide), fun f4 e4 => ⟨vp_in_nI (by omega) (by decide), fun x ex => ?_⟩⟩
        rw [ex, nI_1]
        refine ih (k + 1) _ (by omega) (by omega) (fun j hj => ?_)
        by_cases e : j = k
        · subst e; rw [pk_us]; exact e4
        · rw [pk_un e]; exact hk j (by omega)
  -- one number
  have one : ∀ (K : Int32 → Int32 → Int32 → (Nat → Int32) → (Nat → Int32) → (Nat → Int32) → Prop) (x1 x2 : Int32) (c : Nat) (mbs mlo : Nat → Int32), c < allv dvT n → SB n (tN mti) c x2 mbs → (∀ x2' mpl mbs' mlo', SB n (tN mti) (c + 1) x2' mbs' → K x1 x2' (nI (c + 1)) mpl mbs' mlo') →
      ∀ g, (∀ j, g j < 3) → cdv dvT n g = c → ∀ (f k : Nat) (mpl : Nat → Int32) (x5 : Int32), k ≤ n → k < f → (∀ j, k ≤ j → j < n → mpl j = nI (g j)) → ((x5 = 1 ∧ ∀ j, k ≤ j → j < n → 0 < tN mti (3 * j + g j)) ∨ (x5 = 0 ∧ ∃ j, k ≤ j ∧ j < n ∧ tN mti (3 * j + g j) = 0)) → p_X7_shortestOf_45 N mti (nI n) Q K f x1 x2 (nI c) (nI (cdv dvT k g)) x5 (X6i k) mpl mbs mlo := by
    intro K x1 x2 c mbs mlo hc hS hK g hg hgc f
    have hcl : c < 2187 := by omega
    induction f with
    | zero => intro k mpl x5 h1 h2; omega
    | succ f ih =>
      intro k mpl x5 h1 h2 hm h5
      unfold p_X7_shortestOf_45
      cases k with
      | zero =>
        refine ⟨fun _ => ?_, fun h => absurd (show X6i 0 < 0 by decide) h⟩
        have same : ∀ h : Nat → Nat, feas n (tN mti) h → cdv dvT n h = c → ∀ j, j < n → h j = g j := fun h hh hhc => cdvT_inj (fun j hj => (hh j hj).1) (fun j hj => hg j) (by omega)
        rcases h5 with ⟨e5, p5⟩ | ⟨e5, j, -, hj, p5⟩
        · subst e5
          refine ⟨fun h => absurd h (by decide), fun _ => ?_⟩
          have hfe : feas n (tN mti) g := fun j hj => ⟨hg j, p5 j (Nat.zero_le j) hj⟩
          refine measures_spec (by omega) hJ (fun j hj => ⟨hm j (Nat.zero_le j) hj, hg j⟩) (fun mlo' _ => ?_)
          have hl350 := lenN_le hJ (g := g)
          have newb : (∀ h, feas n (tN mti) h → cdv dvT n h < c → lenN n (tN mti) g < lenN n (tN mti) h) → p_X7_shortestOf_145 N mti (nI n) Q K N x1 (nI (lenN n (tN mti) g)) (nI c) (0 : Int32) mpl mbs mlo' := fun hlt => by
            rw [← nI_0]
            refine copy K _ _ _ mpl mlo' (fun mbs' hb => ?_) N 0 mbs (by omega) (by omega) (fun j hj => absurd hj (by omega))
            rw [nI_1]
            refine hK _ _ _ _ (Or.inr ⟨g, lenN n (tN mti) g, rfl, hl350, hfe, rfl, fun j hj => by rw [hb j hj]; exact hm j (Nat.zero_le j) hj, by omega, fun h hh hhc => ?_⟩)
            by_cases e : cdv dvT n h = c
            · exact Or.inr ⟨lenN_congr (same h hh e), by omega⟩
            · exact Or.inl (hlt h hh (by omega))
          refine ⟨fun h => absurd h (by decide), fun _ => ⟨fun hneg => ?_, fun hpos => ⟨fun hle x ex => ?_, fun hgt => ?_⟩⟩⟩
          · rcases hS with ⟨s1, s2⟩ | ⟨f, L, s1, s2, -⟩
            · exact newb (fun h hh hhc => absurd (s2 h hh) (by omega))
            · rw [s1] at hneg
              exact absurd (show (0 : Int32) ≤ nI L from nI_nneg (by omega)) (by rw [Int32.not_le]; exact hneg)
          · rw [ex, nI_1]
            rcases hS with ⟨s1, s2⟩ | ⟨f, L, s1, s2, s3, s4, s5, s6, s7⟩
            · rw [s1] at hpos; exact absurd (by decide) hpos
            · rw [s1] at hle
              have hle' := (nI_leI (by omega) (by omega)).mp hle
              refine hK _ _ _ _ (Or.inr ⟨f, L, s1, s2, s3, s4, s5, by omega, fun h hh hhc => ?_⟩)
              by_cases e : cdv dvT n h = c
              · rw [lenN_congr (same h hh e)]
                rcases Nat.lt_or_ge L (lenN n (tN mti) g) with r | r
                · exact Or.inl r
                · exact Or.inr ⟨by omega, by omega⟩
              · exact s7 h hh (by omega)
          · rcases hS with ⟨s1, s2⟩ | ⟨f, L, s1, s2, s3, s4, s5, s6, s7⟩
            · rw [s1] at hpos; exact absurd (by decide) hpos
            · rw [s1] at hgt
              have hgt' : ¬ L ≤ lenN n (tN mti) g := fun q => hgt (nI_le q (by omega))
              exact newb (fun h hh hhc => by have := s7 h hh hhc; omega)
        · subst e5
          refine ⟨fun _ => ⟨fun _ x ex => ?_, fun h => absurd rfl h⟩, fun h => absurd rfl h⟩
          rw [ex, nI_1]
          refine hK _ _ _ _ ?_
          have no : ∀ h : Nat → Nat, feas n (tN mti) h → cdv dvT n h ≠ c := fun h hh e => by
            have h1 := same h hh e j hj
            have h2 := (hh j hj).2
            rw [h1] at h2; omega
          rcases hS with ⟨s1, s2⟩ | ⟨f, L, s1, s2, s3, s4, s5, s6, s7⟩
          · exact Or.inl ⟨s1, fun h hh => by have := s2 h hh; have := no h hh; omega⟩
          · exact Or.inr ⟨f, L, s1, s2, s3, s4, s5, by omega, fun h hh hhc => s7 h hh (by have := no h hh; omega)⟩
      | succ k =>
        have hX : X6i (k + 1) = nI k := rfl
        rw [hX, cdvT_succ]
        refine ⟨fun h => absurd (show (0 : Int32) ≤ nI k from nI_nneg (by omega)) (by rw [Int32.not_le]; exact h), fun _ f15 e15 => ⟨vp_in_nI (by omega) (by decide), fun x4 e4 => ?_⟩⟩
        have hck : cdv dvT k g < 2187 := by
          have h1 := cdv_lt (dv := dvT) (f := g) (k := k) (fun j _ _ => hg j)
          have h2 := allvT_le (k := k) (by omega)
          omega
        obtain ⟨d1, d2⟩ := dig3 (a := cdv dvT k g) (hg k) (by omega)
        rw [d1] at e15
        rw [d2] at e4
        rw [e15, e4, nI_clamp (show k < 2 ^ 31 by omega), pk_us]
        have hm' : ∀ j, k ≤ j → j < n → upd mpl k (nI (g k)) j = nI (g j) := fun j h1 h2 => by
          by_cases e : j = k
          · subst e; exact pk_us
          · rw [pk_un e]; exact hm j (by omega) h2
        obtain ⟨htl, hte, -⟩ := tN_le hJ (show 3 * k + g k < 3 * n by have := hg k; omega)
        refine ⟨fun h x6 e6 => ?_, fun h => ⟨vp_in_nI (by omega) (by decide), ?_⟩⟩
        · rw [e6, X6i_m1]
          rcases h5 with ⟨e5, p5⟩ | ⟨e5, j, h3, hj, p5⟩
          · rw [e5] at h; exact absurd h (by decide)
          · exact ih k _ _ (by omega) (by omega) hm' (Or.inr ⟨rfl, j, by omega, hj, p5⟩)
        · rw [ix3, nI_clamp (show 3 * k + g k < 2 ^ 31 by have := hg k; omega), hte]
          refine ⟨vp_in_nI (by have := hg k; omega) (by decide), fun hz x6 e6 => ?_, fun hp x6 e6 => ?_⟩
          · have hz' : tN mti (3 * k + g k) ≤ 0 := (nI_leI (by omega) (by omega)).mp (by rw [nI_0]; exact hz)
            rw [e6, X6i_m1]
            exact ih k _ _ (by omega) (by omega) hm' (Or.inr ⟨rfl, k, by omega, by omega, by omega⟩)
          · have hp' : 0 < tN mti (3 * k + g k) := by
              rcases Nat.eq_zero_or_pos (tN mti (3 * k + g k)) with r | r
              · rw [r, nI_0] at hp; exact absurd (by decide) hp
              · exact r
            rw [e6, X6i_m1]
            refine ih k _ _ (by omega) (by omega) hm' (Or.inl ⟨rfl, fun j h3 hj => ?_⟩)
            rcases h5 with ⟨e5, p5⟩ | ⟨e5, -⟩
            · by_cases e : j = k
              · subst e; exact hp'
              · exact p5 j (by omega) hj
            · exact absurd e5 h
  have codes : ∀ (f c : Nat) (x2 : Int32) (mpl mbs mlo : Nat → Int32), c ≤ allv dvT n → allv dvT n < f + c → SB n (tN mti) c x2 mbs → p_X7_shortestOf_26 N mti (nI n) Q f (nI (allv dvT n)) x2 (nI c) mpl mbs mlo := by
    intro f
    induction f with
    | zero => intro c x2 mpl mbs mlo h1 h2; omega
    | succ f ih =>
      intro c x2 mpl mbs mlo h1 h2 hS
      unfold p_X7_shortestOf_26
      refine ⟨fun h => ?_, fun h x6 e6 => ?_⟩
      · have hle := (nI_leI (by omega) (by omega)).mp h
        have ec : c = allv dvT n := by omega
        rcases hS with ⟨s1, s2⟩ | ⟨f, L, s1, s2, s3, s4, s5, s6, s7⟩
        · obtain ⟨g, hg⟩ := hex
          have h3 := s2 g hg
          have h4 := cdv_lt (dv := dvT) (f := g) (k := n) (fun j hj _ => (hg j hj).1)
          omega
        · refine ⟨fun _ => ?_, fun hneg => ?_⟩
          · rw [s1]
            refine hQ _ _ _ L f ⟨s3, s4, fun g hg => ?_⟩ s2 s5
            have h4 := cdv_lt (dv := dvT) (f := g) (k := n) (fun j hj _ => (hg j hj).1)
            rcases s7 g hg (by omega) with r | ⟨r, r2⟩
            · exact Or.inl r
            · refine Or.inr ⟨r, ?_⟩
              rcases cdv_lex (fun j hj _ => (s3 j hj).1) (fun j hj _ => (hg j hj).1) r2 with q | ⟨j, hj, -, q1, q2⟩
              · exact Or.inl (fun j hj => q j hj rfl)
              · exact Or.inr ⟨j, hj, fun i hi => q1 i hi rfl, q2⟩
          · rw [s1] at hneg
            exact absurd (nI_nneg (by omega)) hneg
      · have hc : c < allv dvT n := by
          rcases Nat.lt_or_ge c (allv dvT n) with h' | h'
          · exact h'
          · exact absurd (nI_le h' (by omega)) h
        obtain ⟨g, hg, hgc⟩ := cdv_ex hc
        rw [e6, X6i_sub]
        have := one (fun x1 x2 x3 mpl mbs mlo => p_X7_shortestOf_26 N mti (nI n) Q f x1 x2 x3 mpl mbs mlo) (nI (allv dvT n)) x2 c mbs mlo hc hS (fun x2' mpl mbs' mlo' hS' => ih (c + 1) x2' mpl mbs' mlo' (by omega) (by omega) hS') g hg hgc N n mpl 1 (Nat.le_refl n) (by omega) (fun j h1 h2 => absurd h2 (by omega)) (Or.inl ⟨rfl, fun j h1 h2 => absurd h2 (by omega)⟩)
        rw [hgc] at this
        exact this
  have pow : ∀ (f k : Nat), k ≤ n → n < f + k → p_X7_shortestOf_4 N mti (nI n) Q f (nI (allv dvT k)) (nI k) mpl mbs mlo := by
    intro f
    induction f with
    | zero => intro k h1 h2; omega
    | succ f ih =>
      intro k h1 h2
      unfold p_X7_shortestOf_4
      refine ⟨fun h => ?_, fun h x1 e1 x2 e2 => ?_⟩
      · have := (nI_leI (by omega) (by omega)).mp h
        have ek : k = n := by omega
        subst ek
        rw [← nI_0]
        exact codes N 0 (-1) mpl mbs mlo (by omega) (by omega) (Or.inl ⟨rfl, fun _ _ => Nat.zero_le _⟩)
      · have hk : k < n := by
          rcases Nat.lt_or_ge k n with h' | h'
          · exact h'
          · exact absurd (nI_le h' (by omega)) h
        rw [e1, e2, nI_1, show (3 : Int32) = nI 3 from by decide, pk_mul, ← allvT_succ]
        exact ih (k + 1) (by omega) (by omega)
  unfold p_X7_shortestOf
  rw [← nI_0, show (1 : Int32) = nI (allv dvT 0) from by decide]
  exact pow N 0 (by omega) (by omega)
