/-! tables to begin with -/
theorem sm_cut {n : Nat} {f : Nat → Int} : ∀ k, (∀ i, n ≤ i → i < n + k → f i = 0) → sm (n + k) f = sm n f := by
  intro k
  induction k with
  | zero => intro _; rfl
  | succ k ih =>
    intro h
    show sm (n + k) f + f (n + k) = sm n f
    rw [ih (fun i h1 h2 => h i h1 (by omega)), h (n + k) (by omega) (by omega), Int.add_zero]
theorem sm_3 (n : Nat) (f : Nat → Int) : sm (3 * n) f = sm n (fun j => f (3 * j) + f (3 * j + 1) + f (3 * j + 2)) := by
  induction n with
  | zero => rfl
  | succ n ih =>
    show sm (3 * n + 3) f = sm n (fun j => f (3 * j) + f (3 * j + 1) + f (3 * j + 2)) + (f (3 * n) + f (3 * n + 1) + f (3 * n + 2))
    show sm (3 * n) f + f (3 * n) + f (3 * n + 1) + f (3 * n + 2) = _
    rw [ih]; omega
/-- a column of the basis is not 0 -/
theorem Tb.nz {m N : Nat} {A T : Nat → Nat → Int} {b : Nat → Nat} {d : Int} (h : Tb m N A T b d) {s : Nat} (hs : s < m) : ∃ r, r < m ∧ A (b s) r ≠ 0 := by
  apply Classical.byContradiction
  intro hn
  have hz : ∀ r, r < m → A (b s) r = 0 := fun r hr => Classical.byContradiction (fun q => hn ⟨r, hr, q⟩)
  obtain ⟨σ, -, hd⟩ := h.2.2.2.2
  have h0 : det m 0 (fun s => A (b s)) = 0 := by
    have h1 : det m 0 (fun s => A (b s)) = det m 0 (cset (fun s => A (b s)) s (fun r => 0 * A (b s) r)) := det_congr (fun i hi r _ hr => by
      by_cases e : i = s
      · subst e; rw [cset_same, hz r (by omega), Int.mul_zero]
      · rw [cset_ne e])
    rw [h1, det_scale hs, Int.zero_mul]
  rw [h0, Int.mul_zero] at hd
  have := h.pos
  omega
/-- the unit's columns in another order -/
theorem det_perm {m : Nat} : ∀ {k : Nat} {c : Nat → Nat → Int} {p q : Nat → Nat}, (∀ i, i < m → ∀ r, k ≤ r → r < k + m → c i r = if r = p i then 1 else 0) → (∀ i, i < m → k ≤ p i ∧ p i < k + m ∧ q (p i) = i) → (∀ r, k ≤ r → r < k + m → q r < m ∧ p (q r) = r) → det m k c = 1 ∨ det m k c = -1 := by
  induction m with
  | zero => intro k c p q _ _ _; exact Or.inl rfl
  | succ m ih =>
    intro k c p q hc hp hq
    obtain ⟨hj, hpj⟩ := hq k (Nat.le_refl k) (by omega)
    generalize hje : q k = j at hj hpj
    rw [det_s, sm_one j hj]
    · rw [hc j hj k (Nat.le_refl k) (by omega), if_pos hpj.symm, Int.mul_one]
      have h1 : det m (k + 1) (skip j c) = 1 ∨ det m (k + 1) (skip j c) = -1 := by
        refine ih (p := fun i => if i < j then p i else p (i + 1)) (q := fun r => if q r < j then q r else q r - 1) (fun i hi r h1 h2 => ?_) (fun i hi => ?_) (fun r h1 h2 => ?_)
        · unfold skip
          by_cases e : i < j
          · rw [if_pos e]; simp only [if_pos e]; exact hc i (by omega) r (by omega) (by omega)
          · rw [if_neg e]; simp only [if_neg e]; exact hc (i + 1) (by omega) r (by omega) (by omega)
        · by_cases e : i < j
          · simp only [if_pos e]
            obtain ⟨a1, a2, a3⟩ := hp i (by omega)
            refine ⟨?_, by omega, by rw [a3, if_pos e]⟩
            rcases Nat.lt_or_ge k (p i) with h | h
            · omega
            · have : p i = k := by omega
              rw [this, hje] at a3; omega
          · simp only [if_neg e]
            obtain ⟨a1, a2, a3⟩ := hp (i + 1) (by omega)
            refine ⟨?_, by omega, by rw [a3, if_neg (by omega)]; omega⟩
            rcases Nat.lt_or_ge k (p (i + 1)) with h | h
            · omega
            · have : p (i + 1) = k := by omega
              rw [this, hje] at a3; omega
        · obtain ⟨a1, a2⟩ := hq r (by omega) (by omega)
          have hne : q r ≠ j := fun e => by rw [e, hpj] at a2; omega
          by_cases e : q r < j
          · simp only [if_pos e]
            exact ⟨by omega, a2⟩
          · simp only [if_neg e, if_neg (show ¬ q r - 1 < j by omega)]
            exact ⟨by omega, by rw [show q r - 1 + 1 = q r by omega]; exact a2⟩
      have hs : sgn j = 1 ∨ sgn j = -1 := by
        unfold sgn; split
        · exact Or.inl rfl
        · exact Or.inr rfl
      rcases h1 with h1 | h1 <;> rcases hs with h2 | h2 <;> rw [h1, h2]
      · exact Or.inl rfl
      · exact Or.inr rfl
      · exact Or.inr rfl
      · exact Or.inl rfl
    · intro i hi hne
      rw [hc i hi k (Nat.le_refl k) (by omega), if_neg (fun e => ?_), Int.mul_zero, Int.zero_mul]
      have := (hp i hi).2.2
      rw [← e, hje] at this
      exact hne this.symm
/-- a column less a multiple of another one -/
theorem det_less {n k p q : Nat} {c : Nat → Nat → Int} {x y : Nat → Int} (a : Int) (hp : p < n) (hq : q < n) (hne : p ≠ q) (hx : ∀ r, k ≤ r → r < k + n → c p r = x r + a * y r) (hy : ∀ r, k ≤ r → r < k + n → c q r = y r) : det n k c = det n k (cset c p x) := by
  have h1 : det n k c = det n k (cset c p (fun r => 1 * x r + a * c q r)) := det_congr (fun i hi r h1 h2 => by
    by_cases e : i = p
    · subst e; rw [cset_same, hx r h1 h2, hy r h1 h2, Int.one_mul]
    · rw [cset_ne e])
  rw [h1, det_lin hp, det_eq0 (c := cset c p (c q)) hp hq hne (by rw [cset_same, cset_ne (Ne.symm hne)]), Int.mul_zero, Int.one_mul, Int.add_zero]
/-- the table behind a pivot where the row is first multiplied by s, which is 1 or -1 -/
def Pivs (m N : Nat) (T T' : Nat → Nat → Int) (b b' : Nat → Nat) (d d' : Int) (l c : Nat) (s : Int) : Prop :=
  d' = s * T l c ∧ (∀ i, i < m → b' i = if i = l then c else b i) ∧ (∀ a, a ≤ N → T' l a = s * T l a) ∧ (∀ r a, r < m → r ≠ l → a ≤ N → T' r a * d = T r a * (s * T l c) - T r c * (s * T l a))
theorem Tb.pivs {m N : Nat} {A T T' : Nat → Nat → Int} {b b' : Nat → Nat} {d d' : Int} (h : Tb m N A T b d) {l c : Nat} {s : Int} (hs1 : s = 1 ∨ s = -1) (hl : l < m) (hc : c < N) (hp : 0 < s * T l c) (hv : Pivs m N T T' b b' d d' l c s) : Tb m N A T' b' d' := by
  obtain ⟨hd', hb', hT1, hT2⟩ := hv
  have hd := h.pos
  have hd0 : d ≠ 0 := by omega
  subst hd'
  have hbl : b' l = c := by rw [hb' l hl, if_pos rfl]
  have hbs : ∀ i, i < m → i ≠ l → b' i = b i := fun i hi hn => by rw [hb' i hi, if_neg hn]
  refine ⟨hp, fun r hr => ?_, fun r i hr hi => ?_, fun x => ?_, ?_⟩
  · by_cases e : r = l
    · subst e; rw [hbl]; exact hc
    · rw [hbs r hr e]; exact h.lt hr
  · by_cases e : i = l
    · subst e
      rw [hbl]
      by_cases e2 : r = i
      · subst e2; rw [if_pos rfl]; exact hT1 c (by omega)
      · rw [if_neg e2]
        have h1 := hT2 r c hr e2 (by omega)
        have h2 : T' r c * d = 0 := by rw [h1]; omega
        rcases Int.mul_eq_zero.mp h2 with h3 | h3
        · exact h3
        · exact absurd h3 hd0
    · rw [hbs i hi e]
      have hsN : b i ≤ N := Nat.le_of_lt (h.lt hi)
      have hls : T l (b i) = 0 := h.off hl hi (Ne.symm e)
      by_cases e2 : r = l
      · subst e2
        rw [hT1 _ hsN, hls, if_neg (Ne.symm e), Int.mul_zero]
      · have h1 := hT2 r (b i) hr e2 hsN
        rw [hls, Int.mul_zero, Int.mul_zero, Int.sub_zero, h.unit hr hi] at h1
        by_cases e3 : r = i
        · rw [if_pos e3] at h1 ⊢
          rw [Int.mul_comm d] at h1
          exact Int.eq_of_mul_eq_mul_right hd0 h1
        · rw [if_neg e3, Int.zero_mul] at h1
          rw [if_neg e3]
          rcases Int.mul_eq_zero.mp h1 with h3 | h3
          · exact h3
          · exact absurd h3 hd0
  · rw [h.sols]
    have key : ∀ r, r < m → r ≠ l → d * sm (N + 1) (fun k => T' r k * x k) = (s * T l c) * sm (N + 1) (fun k => T r k * x k) - T r c * (s * sm (N + 1) (fun k => T l k * x k)) := fun r hr hn => by
      rw [← sm_mul, ← sm_mul, ← sm_mul, ← sm_mul, ← sm_sub]
      refine sm_congr (fun k hk => ?_)
      have h1 := hT2 r k hr hn (by omega)
      rw [← Int.mul_assoc, Int.mul_comm d, h1, Int.sub_mul, Int.mul_comm (T r k), Int.mul_assoc (s * T l c), Int.mul_assoc (T r c), Int.mul_assoc s (T l k)]
    have keyl : sm (N + 1) (fun k => T' l k * x k) = s * sm (N + 1) (fun k => T l k * x k) := by
      rw [← sm_mul]
      exact sm_congr (fun k hk => by rw [hT1 k (by omega), Int.mul_assoc])
    have hs0 : s ≠ 0 := by rcases hs1 with h | h <;> omega
    constructor
    · intro hsol r hr
      by_cases e : r = l
      · subst e; rw [keyl, hsol r hr, Int.mul_zero]
      · have h1 := key r hr e
        rw [hsol r hr, hsol l hl, Int.mul_zero, Int.mul_zero, Int.mul_zero, Int.sub_zero] at h1
        rcases Int.mul_eq_zero.mp h1 with h3 | h3
        · exact absurd h3 hd0
        · exact h3
    · intro hsol r hr
      have hl0 : sm (N + 1) (fun k => T l k * x k) = 0 := by
        have h1 := hsol l hl
        rw [keyl] at h1
        rcases Int.mul_eq_zero.mp h1 with h3 | h3
        · exact absurd h3 hs0
        · exact h3
      by_cases e : r = l
      · subst e; exact hl0
      · have h1 := key r hr e
        rw [hsol r hr, hl0, Int.mul_zero, Int.mul_zero, Int.mul_zero, Int.sub_zero] at h1
        rcases Int.mul_eq_zero.mp h1.symm with h3 | h3
        · omega
        · exact h3
  · obtain ⟨σ, hσ, hd2, hcell⟩ := h.det_cell (Nat.le_of_lt hc) hl
    refine ⟨s * σ, ?_, ?_⟩
    · rcases hs1 with rfl | rfl <;> rcases hσ with rfl | rfl
      · exact Or.inl rfl
      · exact Or.inr rfl
      · exact Or.inr rfl
      · exact Or.inl rfl
    · rw [hcell, ← Int.mul_assoc]
      congr 1
      refine det_congr (fun i hi k _ _ => ?_)
      by_cases e : i = l
      · subst e; rw [cset_same, hbl]
      · rw [cset_ne e, hbs i hi e]
