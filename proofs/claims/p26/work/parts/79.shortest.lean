/-! plans as numbers, and in their order -/
def cdv (dv : Nat → Bool) : Nat → (Nat → Nat) → Nat
  | 0, _ => 0
  | k + 1, f => if dv k = true then 3 * cdv dv k f + f k else cdv dv k f
def allv (dv : Nat → Bool) : Nat → Nat
  | 0 => 1
  | k + 1 => if dv k = true then allv dv k * 3 else allv dv k
theorem cdv_congr {dv : Nat → Bool} {f g : Nat → Nat} : ∀ {k : Nat}, (∀ j, j < k → dv j = true → f j = g j) → cdv dv k f = cdv dv k g := by
  intro k
  induction k with
  | zero => intro _; rfl
  | succ k ih =>
    intro h
    have h1 := ih (fun j hj => h j (by omega))
    show (if dv k = true then 3 * cdv dv k f + f k else cdv dv k f) = if dv k = true then 3 * cdv dv k g + g k else cdv dv k g
    by_cases e : dv k = true
    · rw [if_pos e, if_pos e, h1, h k (by omega) e]
    · rw [if_neg e, if_neg e, h1]
theorem cdv_lt {dv : Nat → Bool} {f : Nat → Nat} : ∀ {k : Nat}, (∀ j, j < k → dv j = true → f j < 3) → cdv dv k f < allv dv k := by
  intro k
  induction k with
  | zero => intro _; exact Nat.one_pos
  | succ k ih =>
    intro h
    have h1 := ih (fun j hj => h j (by omega))
    show (if dv k = true then 3 * cdv dv k f + f k else cdv dv k f) < if dv k = true then allv dv k * 3 else allv dv k
    by_cases e : dv k = true
    · have := h k (by omega) e
      rw [if_pos e, if_pos e]; omega
    · rw [if_neg e, if_neg e]; exact h1
theorem cdv_ex {dv : Nat → Bool} : ∀ {k c : Nat}, c < allv dv k → ∃ f, (∀ j, f j < 3) ∧ cdv dv k f = c := by
  intro k
  induction k with
  | zero => intro c hc; exact ⟨fun _ => 0, fun _ => Nat.zero_lt_succ 2, by have : c < 1 := hc; show 0 = c; omega⟩
  | succ k ih =>
    intro c hc
    have hc' : c < if dv k = true then allv dv k * 3 else allv dv k := hc
    by_cases e : dv k = true
    · rw [if_pos e] at hc'
      obtain ⟨f, hf, h1⟩ := ih (c := c / 3) (by omega)
      refine ⟨fun j => if j = k then c % 3 else f j, fun j => ?_, ?_⟩
      · show (if j = k then c % 3 else f j) < 3
        split
        · omega
        · exact hf j
      · show (if dv k = true then 3 * cdv dv k (fun j => if j = k then c % 3 else f j) + (if k = k then c % 3 else f k) else cdv dv k (fun j => if j = k then c % 3 else f j)) = c
        rw [if_pos e, if_pos rfl, cdv_congr (g := f) (fun j hj _ => if_neg (by omega)), h1]
        omega
    · rw [if_neg e] at hc'
      obtain ⟨f, hf, h1⟩ := ih (c := c) hc'
      refine ⟨f, hf, ?_⟩
      show (if dv k = true then 3 * cdv dv k f + f k else cdv dv k f) = c
      rw [if_neg e, h1]
theorem cdv_lex {dv : Nat → Bool} {f g : Nat → Nat} : ∀ {k : Nat}, (∀ j, j < k → dv j = true → f j < 3) → (∀ j, j < k → dv j = true → g j < 3) → cdv dv k f ≤ cdv dv k g → (∀ j, j < k → dv j = true → f j = g j) ∨ ∃ j, j < k ∧ dv j = true ∧ (∀ i, i < j → dv i = true → f i = g i) ∧ f j < g j := by
  intro k
  induction k with
  | zero => intro _ _ _; exact Or.inl (fun j hj => absurd hj (by omega))
  | succ k ih =>
    intro hf hg h
    have h' : (if dv k = true then 3 * cdv dv k f + f k else cdv dv k f) ≤ if dv k = true then 3 * cdv dv k g + g k else cdv dv k g := h
    by_cases e : dv k = true
    · rw [if_pos e, if_pos e] at h'
      have a1 := hf k (by omega) e
      have a2 := hg k (by omega) e
      rcases ih (fun j hj => hf j (by omega)) (fun j hj => hg j (by omega)) (by omega) with h1 | ⟨j, hj, h2, h3, h4⟩
      · have h5 := cdv_congr (k := k) h1
        rcases Nat.lt_or_ge (f k) (g k) with q | q
        · exact Or.inr ⟨k, by omega, e, h1, q⟩
        · refine Or.inl (fun j hj hd => ?_)
          by_cases e2 : j = k
          · subst e2; omega
          · exact h1 j (by omega) hd
      · exact Or.inr ⟨j, by omega, h2, h3, h4⟩
    · rw [if_neg e, if_neg e] at h'
      rcases ih (fun j hj => hf j (by omega)) (fun j hj => hg j (by omega)) h' with h1 | ⟨j, hj, h2, h3, h4⟩
      · refine Or.inl (fun j hj hd => ?_)
        by_cases e2 : j = k
        · subst e2; exact absurd hd e
        · exact h1 j (by omega) hd
      · exact Or.inr ⟨j, by omega, h2, h3, h4⟩
def lexp (n : Nat) (f g : Nat → Nat) : Prop := (∀ j, j < n → f j = g j) ∨ ∃ j, j < n ∧ (∀ i, i < j → f i = g i) ∧ f j < g j
theorem lexp.anti {n : Nat} {f g : Nat → Nat} (h1 : lexp n f g) (h2 : lexp n g f) : ∀ j, j < n → f j = g j := by
  rcases h1 with h1 | ⟨j, hj, h3, h4⟩
  · exact h1
  · rcases h2 with h2 | ⟨k, hk, h5, h6⟩
    · exact fun i hi => (h2 i hi).symm
    · exfalso
      rcases Nat.lt_trichotomy j k with q | q | q
      · have := h5 j q; omega
      · subst q; omega
      · have := h3 k q; omega
/-! the shortest plan -/
def feas (n : Nat) (t g : Nat → Nat) : Prop := ∀ j, j < n → g j < 3 ∧ 0 < t (3 * j + g j)
def Best (n : Nat) (t f : Nat → Nat) (L : Nat) : Prop := feas n t f ∧ lenN n t f = L ∧ ∀ g, feas n t g → L < lenN n t g ∨ (lenN n t g = L ∧ lexp n f g)
theorem Best.uniq {n L L' : Nat} {t f f' : Nat → Nat} (h : Best n t f L) (g : Best n t f' L') : L = L' ∧ ∀ j, j < n → f j = f' j := by
  obtain ⟨h1, h2, h3⟩ := h
  obtain ⟨g1, g2, g3⟩ := g
  have a := h3 f' g1
  have b := g3 f h1
  have e : L = L' := by omega
  refine ⟨e, ?_⟩
  have a' : lexp n f f' := by rcases a with q | ⟨-, q⟩; omega; exact q
  have b' : lexp n f' f := by rcases b with q | ⟨-, q⟩; omega; exact q
  exact a'.anti b'
theorem smn_mono {k n : Nat} {f : Nat → Nat} (h : k ≤ n) : smn k f ≤ smn n f := by
  induction n with
  | zero => have : k = 0 := by omega
            subst this; exact Nat.le_refl _
  | succ n ih =>
    by_cases e : k = n + 1
    · subst e; exact Nat.le_refl _
    · have := ih (by omega)
      show smn k f ≤ smn n f + f n
      omega
theorem lenN_mono {k n : Nat} {t g : Nat → Nat} (h : k ≤ n) : lenN k t g ≤ lenN n t g := by
  have h0 : ldN k t g 0 ≤ ldN n t g 0 := smn_mono h
  have h1 : ldN k t g 1 ≤ ldN n t g 1 := smn_mono h
  have h2 : ldN k t g 2 ≤ ldN n t g 2 := smn_mono h
  unfold lenN
  omega
/-- what a search among the plans of E brings -/
def SR (n : Nat) (t : Nat → Nat) (E : (Nat → Nat) → Prop) (B : Nat) (be : Nat → Int32) (B' : Nat) (be' : Nat → Int32) : Prop :=
  (B' = B ∧ be' = be ∧ ∀ g, feas n t g → E g → B ≤ lenN n t g) ∨ (∃ f, feas n t f ∧ E f ∧ lenN n t f = B' ∧ B' < B ∧ (∀ j, j < n → be' j = nI (f j)) ∧ ∀ g, feas n t g → E g → B' < lenN n t g ∨ (lenN n t g = B' ∧ lexp n f g))
theorem SR.mono {n : Nat} {t : Nat → Nat} {E E' : (Nat → Nat) → Prop} {B B' : Nat} {be be' : Nat → Int32} (h : SR n t E B be B' be') (hE : ∀ g, feas n t g → (E g ↔ E' g)) : SR n t E' B be B' be' := by
  rcases h with ⟨h1, h2, h3⟩ | ⟨f, h1, h2, h3, h4, h5, h6⟩
  · exact Or.inl ⟨h1, h2, fun g hg hEg => h3 g hg ((hE g hg).mpr hEg)⟩
  · exact Or.inr ⟨f, h1, (hE f h1).mp h2, h3, h4, h5, fun g hg hEg => h6 g hg ((hE g hg).mpr hEg)⟩
theorem SR.next {n job k : Nat} {t c : Nat → Nat} {B B1 B2 : Nat} {be be1 be2 : Nat → Int32} (hj : job < n) (h1 : SR n t (fun g => (∀ j, j < job → g j = c j) ∧ g job < k) B be B1 be1) (h2 : SR n t (fun g => (∀ j, j < job → g j = c j) ∧ g job = k) B1 be1 B2 be2) : SR n t (fun g => (∀ j, j < job → g j = c j) ∧ g job < k + 1) B be B2 be2 := by
  have split : ∀ g : Nat → Nat, ((∀ j, j < job → g j = c j) ∧ g job < k + 1) → ((∀ j, j < job → g j = c j) ∧ g job < k) ∨ ((∀ j, j < job → g j = c j) ∧ g job = k) := fun g ⟨q1, q2⟩ => by
    by_cases e : g job = k
    · exact Or.inr ⟨q1, e⟩
    · exact Or.inl ⟨q1, by omega⟩
  rcases h1 with ⟨a1, a2, a3⟩ | ⟨f, a1, a2, a3, a4, a5, a6⟩
  · rcases h2 with ⟨b1, b2, b3⟩ | ⟨f', b1, b2, b3, b4, b5, b6⟩
    · refine Or.inl ⟨by omega, by rw [b2, a2], fun g hg hE => ?_⟩
      rcases split g hE with q | q
      · exact a3 g hg q
      · have := b3 g hg q; omega
    · refine Or.inr ⟨f', b1, ⟨b2.1, by have := b2.2; omega⟩, b3, by omega, b5, fun g hg hE => ?_⟩
      rcases split g hE with q | q
      · have := a3 g hg q; exact Or.inl (by omega)
      · exact b6 g hg q
  · rcases h2 with ⟨b1, b2, b3⟩ | ⟨f', b1, b2, b3, b4, b5, b6⟩
    · refine Or.inr ⟨f, a1, ⟨a2.1, by have := a2.2; omega⟩, by omega, by omega, by rw [b2]; exact a5, fun g hg hE => ?_⟩
      rcases split g hE with q | q
      · rcases a6 g hg q with r | ⟨r, r2⟩
        · exact Or.inl (by omega)
        · exact Or.inr ⟨by omega, r2⟩
      · have := b3 g hg q
        rcases Nat.lt_or_ge B2 (lenN n t g) with r | r
        · exact Or.inl r
        · refine Or.inr ⟨by omega, Or.inr ⟨job, hj, fun i hi => by rw [a2.1 i hi, q.1 i hi], ?_⟩⟩
          have h5 := a2.2
          have h6 := q.2
          omega
    · refine Or.inr ⟨f', b1, ⟨b2.1, by have := b2.2; omega⟩, b3, by omega, b5, fun g hg hE => ?_⟩
      rcases split g hE with q | q
      · rcases a6 g hg q with r | ⟨r, r2⟩ <;> exact Or.inl (by omega)
      · exact b6 g hg q
theorem clamps : ((0 : Int32)).toNatClampNeg = 0 ∧ ((1 : Int32)).toNatClampNeg = 1 ∧ ((2 : Int32)).toNatClampNeg = 2 := by decide
theorem greatest_spec {N : Nat} {plo : Nat → Int32} {a : Nat → Nat} {Q : Int32 → Prop} (ha : ∀ i, i < 3 → plo i = nI (a i) ∧ a i ≤ 1000) (hQ : Q (nI (max (max (a 0) (a 1)) (a 2)))) : p_X3_greatest N plo Q := by
  unfold p_X3_greatest
  obtain ⟨c0, c1, c2⟩ := clamps
  obtain ⟨e0, l0⟩ := ha 0 (by omega)
  obtain ⟨e1, l1⟩ := ha 1 (by omega)
  obtain ⟨e2, l2⟩ := ha 2 (by omega)
  rw [c0, c1, c2, e0, e1, e2]
  intro v1 h1 v2 h2
  rw [nI_max (by omega) (by omega)] at h1
  subst h1
  rw [nI_max (by omega) (by omega)] at h2
  rw [h2]; exact hQ
theorem keep_spec {N : Nat} {pch pbe : Nat → Int32} {x1 pbl : Int32} {Q : (Nat → Int32) → Int32 → Prop} (hN : 100 ≤ N) (hQ : ∀ pbe', (∀ j, j < 7 → pbe' j = pch j) → Q pbe' x1) : p_X3_keep N pch Q x1 pbe pbl := by
  have loop : ∀ (f k : Nat) (pbe' : Nat → Int32), k ≤ 7 → 7 < f + k → (∀ j, j < k → pbe' j = pch j) → p_X3_keep_7 N pch Q f (nI k) pbe' x1 := by
    intro f
    induction f with
    | zero => intro k pbe' h1 h2; omega
    | succ f ih =>
      intro k pbe' h1 h2 hk
      unfold p_X3_keep_7
      rw [show (7 : Int32) = nI 7 from by decide]
      refine ⟨fun h => ?_, fun h => ?_⟩
      · have := (nI_leI (by omega) (by omega)).mp h
        exact hQ pbe' (fun j hj => hk j (by omega))
      · have hk7 : k < 7 := by
          rcases Nat.lt_or_ge k 7 with h' | h'
          · exact h'
          · exact absurd (nI_le h' (by omega)) h
        rw [nI_clamp (show k < 2 ^ 31 by omega)]
        refine ⟨vp_in_nI (by omega) (by decide), fun f3 e3 => ⟨vp_in_nI (by omega) (by decide), fun x ex => ?_⟩⟩
        rw [ex, nI_1]
        refine ih (k + 1) _ (by omega) (by omega) (fun j hj => ?_)
        by_cases e : j = k
        · subst e; rw [pk_us]; exact e3
        · rw [pk_un e]; exact hk j (by omega)
  unfold p_X3_keep
  rw [← nI_0]
  exact loop N 0 pbe (by omega) (by omega) (fun j hj => absurd hj (by omega))
theorem ldN_set {job k i : Nat} {t c : Nat → Nat} : ldN (job + 1) t (fun j => if j = job then k else c j) i = ldN job t c i + if k = i then t (3 * job + i) else 0 := by
  show ldN job t (fun j => if j = job then k else c j) i + (if (if job = job then k else c job) = i then t (3 * job + i) else 0) = _
  rw [if_pos rfl, ldN_congr (h := c) (fun j hj => if_neg (by omega))]
theorem search_spec {N n : Nat} {ti : Nat → Int32} (hN : 100 ≤ N) (hJ : JI n ti) : ∀ (d job : Nat) (c : Nat → Nat) (plo pch pbe : Nat → Int32) (B : Nat) (Q : (Nat → Int32) → (Nat → Int32) → (Nat → Int32) → Int32 → Prop), job ≤ n → n < d + job → (∀ j, j < job → c j < 3) → (∀ i, i < 3 → plo i = nI (ldN job (tN ti) c i)) → (∀ j, j < job → pch j = nI (c j)) → B ≤ 351 → (∀ j, j < job → 0 < tN ti (3 * j + c j)) →
    (∀ plo' pch' pbe' B', (∀ i, i < 3 → plo' i = plo i) → (∀ j, j < job → pch' j = pch j) → B' ≤ 351 → SR n (tN ti) (fun g => ∀ j, j < job → g j = c j) B pbe B' pbe' → Q plo' pch' pbe' (nI B')) → p_X3_searchFrom N ti (nI n) d Q (nI job) plo pch pbe (nI B) := by
  have hn := hJ.1
  intro d
  induction d with
  | zero => intro job c plo pch pbe B Q h1 h2; omega
  | succ d ihd =>
    intro job c plo pch pbe B Q h1 h2 hc hlo hch hB hct hQ
    have hld : ∀ i, i < 3 → ldN job (tN ti) c i ≤ 350 := fun i hi => by have := ldN_le hJ (g := c) h1 hi; omega
    have hj7 : ¬ nI n ≤ nI job → nI job < (7 : Int32) := fun hgt => by
      have hj : job < n := by
        rcases Nat.lt_or_ge job n with h' | h'
        · exact h'
        · exact absurd (nI_le h' (by omega)) hgt
      rw [show (7 : Int32) = nI 7 from by decide]
      exact nI_lt (by omega) (by omega)
    unfold p_X3_searchFrom
    refine greatest_spec (a := ldN job (tN ti) c) (fun i hi => ⟨hlo i hi, by have := hld i hi; omega⟩) ?_
    have h0 := hld 0 (by omega)
    have h1' := hld 1 (by omega)
    have h2' := hld 2 (by omega)
    have hlen : max (max (ldN job (tN ti) c 0) (ldN job (tN ti) c 1)) (ldN job (tN ti) c 2) = lenN job (tN ti) c := rfl
    rw [hlen]
    have hlen350 : lenN job (tN ti) c ≤ 350 := by rw [← hlen]; omega
    refine ⟨fun hlt => ?_, fun hge => ?_⟩
    · have hlt' := (nI_ltI (by omega) (by omega)).mp hlt
      have keepit : job = n → p_X3_keep N pch (fun pbe_4 pbl_5 => Q plo pch pbe_4 pbl_5) (nI (lenN job (tN ti) c)) pbe (nI B) := fun e => by
        subst e
        refine keep_spec hN (fun pbe' hbe => hQ plo pch pbe' (lenN job (tN ti) c) (fun _ _ => rfl) (fun _ _ => rfl) (by omega) (Or.inr ⟨c, fun j hj => ⟨hc j hj, hct j hj⟩, fun _ _ => rfl, rfl, hlt', fun j hj => by rw [hbe j (by omega)]; exact hch j hj, fun g hg hE => Or.inr ⟨lenN_congr hE, Or.inl (fun j hj => (hE j hj).symm)⟩⟩))
      refine ⟨fun hle => ?_, fun hgt => ⟨fun h7 => ?_, fun h7 => absurd (hj7 hgt) h7⟩⟩
      · have := (nI_leI (by omega) (by omega)).mp hle
        exact keepit (by omega)
      · have hj : job < n := by
          rcases Nat.lt_or_ge job n with h' | h'
          · exact h'
          · exact absurd (nI_le h' (by omega)) hgt
        have loop : ∀ (f k : Nat) (plo' pch' pbe' : Nat → Int32) (B' : Nat), k ≤ 3 → 3 < f + k → (∀ i, i < 3 → plo' i = plo i) → (∀ j, j < job → pch' j = pch j) → B' ≤ 351 → SR n (tN ti) (fun g => (∀ j, j < job → g j = c j) ∧ g job < k) B pbe B' pbe' →
            p_X3_searchFrom_37 N ti (nI n) (p_X3_searchFrom N ti (nI n) d) Q f (nI job) (nI k) plo' pch' pbe' (nI B') := by
          intro f
          induction f with
          | zero => intro k plo' pch' pbe' B' q1 q2; omega
          | succ f ih =>
            intro k plo' pch' pbe' B' q1 q2 i1 i2 i3 i4
            unfold p_X3_searchFrom_37
            refine ⟨fun h => ?_, fun h => ?_⟩
            · have h3 : 3 ≤ k := (nI_leI (a := 3) (b := k) (by omega) (by omega)).mp (by rw [show nI 3 = (3 : Int32) from by decide]; exact h)
              have ek : k = 3 := by omega
              subst ek
              exact hQ plo' pch' pbe' B' i1 i2 i3 (i4.mono (fun g hg => ⟨fun q => q.1, fun q => ⟨q, (hg job hj).1⟩⟩))
            · have hk : k < 3 := by
                rcases Nat.lt_or_ge k 3 with h' | h'
                · exact h'
                · exact absurd (show (3 : Int32) ≤ nI k by rw [show (3 : Int32) = nI 3 from by decide]; exact nI_le h' (by omega)) h
              obtain ⟨htl, hte, -⟩ := tN_le hJ (show 3 * job + k < 3 * n by omega)
              refine timeOn_spec hn hj hk ?_
              rw [hte, nI_clamp (show k < 2 ^ 31 by omega), nI_clamp (show job < 2 ^ 31 by omega)]
              refine ⟨fun hz x ex => ?_, fun hp => ⟨vp_in_nI (by omega) (by decide), vp_in_nI hk (by decide), fun f7 e7 => ⟨vp_in_nI hk (by decide), ?_⟩⟩⟩
              · have hz' : tN ti (3 * job + k) ≤ 0 := (nI_leI (by omega) (by omega)).mp (by rw [nI_0]; exact hz)
                rw [ex, nI_1]
                refine ih (k + 1) plo' pch' pbe' B' (by omega) (by omega) i1 i2 i3 (i4.mono (fun g hg => ⟨fun q => ⟨q.1, by omega⟩, fun q => ⟨q.1, ?_⟩⟩))
                have h5 := hg job hj
                have h6 := q.2
                rcases Nat.lt_or_ge (g job) k with r | r
                · exact r
                · have : g job = k := by omega
                  rw [this] at h5; omega
              · have hp' : 0 < tN ti (3 * job + k) := by
                  rcases Nat.eq_zero_or_pos (tN ti (3 * job + k)) with r | r
                  · rw [r, nI_0] at hp; exact absurd (by decide) hp
                  · exact r
                have hldk := hld k hk
                rw [i1 k hk, hlo k hk, nI_add] at e7
                rw [nI_1 job]
                refine ihd (job + 1) (fun j => if j = job then k else c j) (upd plo' k f7) (upd pch' job (nI k)) pbe' B' _ (by omega) (by omega) (fun j hj' => ?_) (fun i hi => ?_) (fun j hj' => ?_) i3 (fun j hj' => ?_) (fun plo2 pch2 pbe2 B2 j1 j2 j3 j4 => ?_)
                · show (if j = job then k else c j) < 3
                  split
                  · exact hk
                  · exact hc j (by omega)
                · rw [ldN_set]
                  by_cases e : i = k
                  · subst e; rw [pk_us, e7, if_pos rfl]
                  · rw [pk_un e, i1 i hi, hlo i hi, if_neg (fun q => e q.symm), Nat.add_zero]
                · show _ = nI (if j = job then k else c j)
                  by_cases e : j = job
                  · subst e; rw [pk_us, if_pos rfl]
                  · rw [pk_un e, if_neg e, i2 j (by omega), hch j (by omega)]
                · show 0 < tN ti (3 * j + if j = job then k else c j)
                  by_cases e : j = job
                  · subst e; rw [if_pos rfl]; exact hp'
                  · rw [if_neg e]; exact hct j (by omega)
                · refine ⟨vp_in_nI hk (by decide), fun f14 e14 => ⟨vp_in_nI hk (by decide), fun x ex => ?_⟩⟩
                  rw [ex, nI_1]
                  rw [j1 k hk, pk_us, e7, pk_sub (by omega), Nat.add_sub_cancel] at e14
                  refine ih (k + 1) _ pch2 pbe2 B2 (by omega) (by omega) (fun i hi => ?_) (fun j hj' => ?_) j3 (i4.next hj (j4.mono (fun g hg => ⟨fun q => ⟨fun j hj' => ?_, ?_⟩, fun q j hj' => ?_⟩)))
                  · by_cases e : i = k
                    · subst e; rw [pk_us, e14, hlo i hi]
                    · rw [pk_un e, j1 i hi, pk_un e, i1 i hi]
                  · rw [j2 j (by omega), pk_un (by omega), i2 j hj']
                  · have := q j (by omega)
                    rw [if_neg (show ¬ j = job by omega)] at this
                    exact this
                  · have := q job (by omega)
                    rw [if_pos rfl] at this
                    exact this
                  · by_cases e : j = job
                    · subst e; rw [if_pos rfl]; exact q.2
                    · rw [if_neg e]; exact q.1 j (by omega)
        rw [← nI_0]
        exact loop N 0 plo pch pbe B (by omega) (by omega) (fun _ _ => rfl) (fun _ _ => rfl) hB (Or.inl ⟨rfl, rfl, fun g hg q => by omega⟩)
    · have hge' : ¬ lenN job (tN ti) c < B := fun q => hge (nI_lt q (by omega))
      refine hQ plo pch pbe B (fun _ _ => rfl) (fun _ _ => rfl) hB (Or.inl ⟨rfl, rfl, fun g hg hE => ?_⟩)
      have h5 : lenN job (tN ti) g ≤ lenN n (tN ti) g := lenN_mono h1
      rw [lenN_congr hE] at h5
      omega
/-- what trying all plans of E brings -/
def TR (n : Nat) (t : Nat → Nat) (E : (Nat → Nat) → Prop) (v : Nat) : Prop := v ≤ 351 ∧ (∀ g, feas n t g → E g → v ≤ lenN n t g) ∧ (v = 351 ∨ ∃ f, feas n t f ∧ E f ∧ lenN n t f = v)
theorem try_spec {N n : Nat} {ti : Nat → Int32} (hN : 100 ≤ N) (hJ : JI n ti) : ∀ (d job : Nat) (c : Nat → Nat) (plo : Nat → Int32) (Q : Int32 → (Nat → Int32) → Prop), job ≤ n → n < d + job → (∀ j, j < job → c j < 3) → (∀ i, i < 3 → plo i = nI (ldN job (tN ti) c i)) → (∀ j, j < job → 0 < tN ti (3 * j + c j)) →
    (∀ v plo', (∀ i, i < 3 → plo' i = plo i) → TR n (tN ti) (fun g => ∀ j, j < job → g j = c j) v → Q (nI v) plo') → p_X3_tryFrom N ti (nI n) d Q (nI job) plo := by
  have hn := hJ.1
  intro d
  induction d with
  | zero => intro job c plo Q h1 h2; omega
  | succ d ihd =>
    intro job c plo Q h1 h2 hc hlo hct hQ
    have hld : ∀ i, i < 3 → ldN job (tN ti) c i ≤ 350 := fun i hi => by have := ldN_le hJ (g := c) h1 hi; omega
    have fin : job = n → p_X3_greatest N plo (fun r => Q r plo) := fun e => by
      refine greatest_spec (a := ldN job (tN ti) c) (fun i hi => ⟨hlo i hi, by have := hld i hi; omega⟩) ?_
      have h0 := hld 0 (by omega)
      have h1' := hld 1 (by omega)
      have h2' := hld 2 (by omega)
      have hlen : max (max (ldN job (tN ti) c 0) (ldN job (tN ti) c 1)) (ldN job (tN ti) c 2) = lenN job (tN ti) c := rfl
      rw [hlen]
      have hlen350 : lenN job (tN ti) c ≤ 350 := by rw [← hlen]; omega
      subst e
      exact hQ _ plo (fun _ _ => rfl) ⟨by omega, fun g hg hE => Nat.le_of_eq (lenN_congr hE).symm, Or.inr ⟨c, fun j hj => ⟨hc j hj, hct j hj⟩, fun _ _ => rfl, rfl⟩⟩
    have hj7 : ¬ nI n ≤ nI job → nI job < (7 : Int32) := fun hgt => by
      have hj : job < n := by
        rcases Nat.lt_or_ge job n with h' | h'
        · exact h'
        · exact absurd (nI_le h' (by omega)) hgt
      rw [show (7 : Int32) = nI 7 from by decide]
      exact nI_lt (by omega) (by omega)
    unfold p_X3_tryFrom
    refine ⟨fun hle => ?_, fun hgt => ⟨fun h7 => ?_, fun h7 => absurd (hj7 hgt) h7⟩⟩
    · have := (nI_leI (by omega) (by omega)).mp hle
      exact fin (by omega)
    · have hj : job < n := by
        rcases Nat.lt_or_ge job n with h' | h'
        · exact h'
        · exact absurd (nI_le h' (by omega)) hgt
      have loop : ∀ (f k v : Nat) (plo' : Nat → Int32), k ≤ 3 → 3 < f + k → (∀ i, i < 3 → plo' i = plo i) → TR n (tN ti) (fun g => (∀ j, j < job → g j = c j) ∧ g job < k) v → p_X3_tryFrom_26 N ti (nI n) (p_X3_tryFrom N ti (nI n) d) Q f (nI job) (nI v) (nI k) plo' := by
        intro f
        induction f with
        | zero => intro k v plo' q1 q2; omega
        | succ f ih =>
          intro k v plo' q1 q2 i1 i4
          obtain ⟨v1, v2, v3⟩ := i4
          unfold p_X3_tryFrom_26
          refine ⟨fun h => ?_, fun h => ?_⟩
          · have h3 : 3 ≤ k := (nI_leI (a := 3) (b := k) (by omega) (by omega)).mp (by rw [show nI 3 = (3 : Int32) from by decide]; exact h)
            have ek : k = 3 := by omega
            subst ek
            exact hQ v plo' i1 ⟨v1, fun g hg hE => v2 g hg ⟨hE, (hg job hj).1⟩, by
              rcases v3 with q | ⟨f, q1, q2, q3⟩
              · exact Or.inl q
              · exact Or.inr ⟨f, q1, q2.1, q3⟩⟩
          · have hk : k < 3 := by
              rcases Nat.lt_or_ge k 3 with h' | h'
              · exact h'
              · exact absurd (show (3 : Int32) ≤ nI k by rw [show (3 : Int32) = nI 3 from by decide]; exact nI_le h' (by omega)) h
            obtain ⟨htl, hte, -⟩ := tN_le hJ (show 3 * job + k < 3 * n by omega)
            refine timeOn_spec hn hj hk ?_
            rw [hte, nI_clamp (show k < 2 ^ 31 by omega)]
            refine ⟨fun hz x ex => ?_, fun hp => ⟨vp_in_nI hk (by decide), fun f6 e6 => ⟨vp_in_nI hk (by decide), ?_⟩⟩⟩
            · have hz' : tN ti (3 * job + k) ≤ 0 := (nI_leI (by omega) (by omega)).mp (by rw [nI_0]; exact hz)
              rw [ex, nI_1]
              refine ih (k + 1) v plo' (by omega) (by omega) i1 ⟨v1, fun g hg hE => v2 g hg ⟨hE.1, ?_⟩, ?_⟩
              · have h5 := hg job hj
                have h6 := hE.2
                rcases Nat.lt_or_ge (g job) k with r | r
                · exact r
                · have : g job = k := by omega
                  rw [this] at h5; omega
              · rcases v3 with q | ⟨f, q1, q2, q3⟩
                · exact Or.inl q
                · exact Or.inr ⟨f, q1, ⟨q2.1, by have := q2.2; omega⟩, q3⟩
            · have hp' : 0 < tN ti (3 * job + k) := by
                rcases Nat.eq_zero_or_pos (tN ti (3 * job + k)) with r | r
                · rw [r, nI_0] at hp; exact absurd (by decide) hp
                · exact r
              have hldk := hld k hk
              rw [i1 k hk, hlo k hk, nI_add] at e6
              rw [nI_1 job]
              refine ihd (job + 1) (fun j => if j = job then k else c j) (upd plo' k f6) _ (by omega) (by omega) (fun j hj' => ?_) (fun i hi => ?_) (fun j hj' => ?_) (fun w plo2 j1 j4 => ?_)
              · show (if j = job then k else c j) < 3
                split
                · exact hk
                · exact hc j (by omega)
              · rw [ldN_set]
                by_cases e : i = k
                · subst e; rw [pk_us, e6, if_pos rfl]
                · rw [pk_un e, i1 i hi, hlo i hi, if_neg (fun q => e q.symm), Nat.add_zero]
              · show 0 < tN ti (3 * j + if j = job then k else c j)
                by_cases e : j = job
                · subst e; rw [if_pos rfl]; exact hp'
                · rw [if_neg e]; exact hct j (by omega)
              · obtain ⟨w1, w2, w3⟩ := j4
                intro v10 e10
                rw [nI_min (by omega) (by omega)] at e10
                refine ⟨vp_in_nI hk (by decide), fun f14 e14 => ⟨vp_in_nI hk (by decide), fun x ex => ?_⟩⟩
                rw [ex, nI_1, e10]
                rw [j1 k hk, pk_us, e6, pk_sub (by omega), Nat.add_sub_cancel] at e14
                have toE : ∀ g : Nat → Nat, (∀ j, j < job → g j = c j) → g job = k → ∀ j, j < job + 1 → g j = if j = job then k else c j := fun g q1 q2 j hj' => by
                  by_cases e : j = job
                  · subst e; rw [if_pos rfl]; exact q2
                  · rw [if_neg e]; exact q1 j (by omega)
                have ofE : ∀ g : Nat → Nat, (∀ j, j < job + 1 → g j = if j = job then k else c j) → (∀ j, j < job → g j = c j) ∧ g job = k := fun g q => ⟨fun j hj' => by have := q j (by omega); rw [if_neg (show ¬ j = job by omega)] at this; exact this, by have := q job (by omega); rw [if_pos rfl] at this; exact this⟩
                refine ih (k + 1) (min v w) _ (by omega) (by omega) (fun i hi => ?_) ⟨by omega, fun g hg hE => ?_, ?_⟩
                · by_cases e : i = k
                  · subst e; rw [pk_us, e14, hlo i hi]
                  · rw [pk_un e, j1 i hi, pk_un e, i1 i hi]
                · by_cases e : g job = k
                  · have := w2 g hg (toE g hE.1 e); omega
                  · have := v2 g hg ⟨hE.1, by have := hE.2; omega⟩; omega
                · rcases Nat.lt_or_ge w v with r | r
                  · rcases w3 with q | ⟨f, q1, q2, q3⟩
                    · omega
                    · obtain ⟨o1, o2⟩ := ofE f q2
                      exact Or.inr ⟨f, q1, ⟨o1, by omega⟩, by omega⟩
                  · rcases v3 with q | ⟨f, q1, q2, q3⟩
                    · exact Or.inl (by omega)
                    · exact Or.inr ⟨f, q1, ⟨q2.1, by have := q2.2; omega⟩, by omega⟩
      rw [← nI_0, show (351 : Int32) = nI 351 from by decide]
      exact loop N 0 351 plo (by omega) (by omega) (fun _ _ => rfl) ⟨by omega, fun g hg q => absurd q.2 (by omega), Or.inl rfl⟩
theorem clearLoads_spec {N : Nat} {plo : Nat → Int32} {Q : (Nat → Int32) → Prop} (hN : 100 ≤ N) (hQ : ∀ plo', (∀ i, i < 3 → plo' i = nI 0) → Q plo') : p_X3_clearLoads N Q plo := by
  have loop : ∀ (f k : Nat) (plo' : Nat → Int32), k ≤ 3 → 3 < f + k → (∀ i, i < k → plo' i = nI 0) → p_X3_clearLoads_2 N Q f (nI k) plo' := by
    intro f
    induction f with
    | zero => intro k plo' h1 h2; omega
    | succ f ih =>
      intro k plo' h1 h2 hk
      unfold p_X3_clearLoads_2
      refine ⟨fun h => ?_, fun h => ?_⟩
      · have h3 : 3 ≤ k := (nI_leI (a := 3) (b := k) (by omega) (by omega)).mp (by rw [show nI 3 = (3 : Int32) from by decide]; exact h)
        exact hQ plo' (fun i hi => hk i (by omega))
      · have hk3 : k < 3 := by
          rcases Nat.lt_or_ge k 3 with h' | h'
          · exact h'
          · exact absurd (show (3 : Int32) ≤ nI k by rw [show (3 : Int32) = nI 3 from by decide]; exact nI_le h' (by omega)) h
        refine ⟨vp_in_nI hk3 (by decide), fun x ex => ?_⟩
        rw [ex, nI_1, nI_clamp (show k < 2 ^ 31 by omega), ← nI_0]
        refine ih (k + 1) _ (by omega) (by omega) (fun i hi => ?_)
        by_cases e : i = k
        · subst e; exact pk_us
        · rw [pk_un e]; exact hk i (by omega)
  unfold p_X3_clearLoads
  rw [← nI_0]
  exact loop N 0 plo (by omega) (by omega) (fun i hi => absurd hi (by omega))
theorem find_spec {N n : Nat} {ti plo pch pbe : Nat → Int32} {pbl : Int32} {Q : (Nat → Int32) → (Nat → Int32) → (Nat → Int32) → Int32 → Prop} (hN : 100 ≤ N) (hJ : JI n ti) (hex : ∃ g, feas n (tN ti) g) (hQ : ∀ plo pch pbe L f, Best n (tN ti) f L → L ≤ 350 → (∀ j, j < n → pbe j = nI (f j)) → Q plo pch pbe (nI L)) : p_X3_find N ti (nI n) Q plo pch pbe pbl := by
  have hn := hJ.1
  unfold p_X3_find
  rw [← nI_0, show (351 : Int32) = nI 351 from by decide]
  refine clearLoads_spec hN (fun plo' hlo => ?_)
  refine search_spec hN hJ 10 0 (fun _ => 0) plo' pch pbe 351 _ (by omega) (by omega) (fun j hj => absurd hj (by omega)) hlo (fun j hj => absurd hj (by omega)) (by omega) (fun j hj => absurd hj (by omega)) (fun plo2 pch2 pbe2 B2 j1 j2 j3 j4 => ?_)
  obtain ⟨g, hg⟩ := hex
  have h350 := lenN_le hJ (g := g)
  rcases j4 with ⟨a1, a2, a3⟩ | ⟨f, a1, a2, a3, a4, a5, a6⟩
  · have := a3 g hg (fun j hj => absurd hj (by omega)); omega
  · exact hQ plo2 pch2 pbe2 B2 f ⟨a1, a3, fun g hg => a6 g hg (fun j hj => absurd hj (by omega))⟩ (by omega) a5
theorem tryAll_spec {N n : Nat} {ti plo : Nat → Int32} {Q : Int32 → (Nat → Int32) → Prop} (hN : 100 ≤ N) (hJ : JI n ti) (hex : ∃ g, feas n (tN ti) g) (hQ : ∀ plo v, (∀ L f, Best n (tN ti) f L → v = L) → Q (nI v) plo) : p_X3_tryAll N ti (nI n) Q plo := by
  unfold p_X3_tryAll
  have hn := hJ.1
  rw [← nI_0]
  refine clearLoads_spec hN (fun plo' hlo => ?_)
  refine try_spec hN hJ 10 0 (fun _ => 0) plo' _ (by omega) (by omega) (fun j hj => absurd hj (by omega)) hlo (fun j hj => absurd hj (by omega)) (fun v plo2 j1 j4 => hQ plo2 v (fun L f hB => ?_))
  obtain ⟨v1, v2, v3⟩ := j4
  obtain ⟨b1, b2, b3⟩ := hB
  have h1 := v2 f b1 (fun j hj => absurd hj (by omega))
  have h350 := lenN_le hJ (g := f)
  rcases v3 with q | ⟨g, q1, q2, q3⟩
  · omega
  · have := b3 g q1; omega
