/-! faces, best values, and the order of the shares -/
def bsl (m N : Nat) (T : Nat → Nat → Int) (b : Nat → Nat) (d : Int) : Nat → Int := fun k => if k = N then - d else vl m N T b k
theorem bsl_N {m N : Nat} {T : Nat → Nat → Int} {b : Nat → Nat} {d : Int} : bsl m N T b d N = - d := if_pos rfl
theorem bsl_lt {m N k : Nat} {T : Nat → Nat → Int} {b : Nat → Nat} {d : Int} (h : k < N) : bsl m N T b d k = vl m N T b k := if_neg (by omega)
theorem bsl_sol {m N : Nat} {A T : Nat → Nat → Int} {b : Nat → Nat} {d : Int} (h : Tb m N A T b d) : sol m N A (bsl m N T b d) := by
  intro r hr
  have h1 := (h.sols _).mpr (dirv_sol h (Nat.le_refl N)) r hr
  have h2 : sm (N + 1) (fun k => A k r * bsl m N T b d k) = sm (N + 1) (fun k => - (A k r * dirv m T b d N k)) := sm_congr (fun k hk => by
    have : bsl m N T b d k = - dirv m T b d N k := by
      unfold bsl dirv vl
      by_cases e : k = N
      · subst e
        rw [if_pos rfl, if_pos rfl, sm_zero (fun s hs => if_neg (fun e => by have := h.lt hs; omega))]; omega
      · rw [if_neg e, if_neg e]; omega
    rw [this, Int.mul_neg])
  rw [h2, sm_neg, h1]; rfl
theorem vl_nonneg {m N : Nat} {T : Nat → Nat → Int} {b : Nat → Nat} (hf : Feas m N T) (k : Nat) : 0 ≤ vl m N T b k := by
  unfold vl
  refine sm_nonneg (fun s hs => ?_)
  split
  · exact hf s hs
  · exact Int.le_refl 0
def Fc (m N : Nat) (A : Nat → Nat → Int) (al : Nat → Prop) (x : Nat → Int) : Prop := sol m N A x ∧ (∀ k, k < N → 0 ≤ x k) ∧ (∀ k, k < N → ¬ al k → x k = 0)
theorem bsl_Fc {m N : Nat} {A T : Nat → Nat → Int} {b : Nat → Nat} {d : Int} {al : Nat → Prop} (h : Tb m N A T b d) (hf : Feas m N T) (hba : ∀ s, s < m → al (b s)) : Fc m N A al (bsl m N T b d) := by
  refine ⟨bsl_sol h, fun k hk => ?_, fun k hk hn => ?_⟩
  · rw [bsl_lt hk]; exact vl_nonneg hf k
  · rw [bsl_lt hk]
    exact vl_off (fun s hs e => hn (e ▸ hba s hs))
theorem sm_others {n : Nat} {f : Nat → Int} (h : ∀ i, i < n → 0 ≤ f i) {k : Nat} (hk : k < n) (e : sm n f ≤ f k) : ∀ i, i < n → i ≠ k → f i = 0 := by
  intro i hi hne
  have h1 : sm n (fun j => if j = k then 0 else f j) = sm n f - f k := by
    have h2 : sm n f = sm n (fun j => (if j = k then 0 else f j) + (if j = k then f k else 0)) := sm_congr (fun j _ => by
      by_cases e : j = k
      · subst e; rw [if_pos rfl, if_pos rfl]; omega
      · rw [if_neg e, if_neg e]; omega)
    rw [sm_add, sm_one (f := fun j => if j = k then f k else 0) k hk (fun j _ hn => if_neg hn), if_pos rfl] at h2
    omega
  have h3 := sm_ge_one (n := n) (f := fun j => if j = k then 0 else f j) (fun j hj => by
    by_cases e : j = k
    · rw [if_pos e]; exact Int.le_refl 0
    · rw [if_neg e]; exact h j hj) i hi
  rw [if_neg hne] at h3
  have := h i hi
  omega
section
variable {m N : Nat} {A T T' : Nat → Nat → Int} {b b' : Nat → Nat} {d d' : Int} {al al' : Nat → Prop} {x : Nat → Int} {ρ g : Nat}
theorem row_sum (h : Tb m N A T b d) (hx : sol m N A x) (hρ : ρ < m) : sm N (fun k => T ρ k * x k) = T ρ N * (- x N) := by
  have h1 := (h.sols _).mp hx ρ hρ
  have h2 : sm N (fun k => T ρ k * x k) + T ρ N * x N = 0 := h1
  rw [Int.mul_neg]; omega
/-- no column would raise the variable of row ρ: it is at its most -/
theorem opt_max (h : Tb m N A T b d) (hx : Fc m N A al x) (hρ : ρ < m) (hno : ∀ k, k < N → al k → (∀ s, s < m → b s ≠ k) → 0 ≤ T ρ k) :
    d * x (b ρ) ≤ T ρ N * (- x N) ∧ (d * x (b ρ) = T ρ N * (- x N) → ∀ k, k < N → (∀ s, s < m → b s ≠ k) → T ρ k ≠ 0 → x k = 0) := by
  obtain ⟨hs, hn, hz⟩ := hx
  have hterm : ∀ k, k < N → 0 ≤ T ρ k * x k := fun k hk => by
    by_cases hb : ∃ s, s < m ∧ b s = k
    · obtain ⟨s, hs', e⟩ := hb
      by_cases e2 : s = ρ
      · subst e2; rw [← e, h.diag hρ]; exact Int.mul_nonneg (Int.le_of_lt h.pos) (hn _ (h.lt hρ))
      · rw [← e, h.off hρ hs' (Ne.symm e2), Int.zero_mul]; exact Int.le_refl 0
    · by_cases ha : al k
      · exact Int.mul_nonneg (hno k hk ha (fun s hs' e => hb ⟨s, hs', e⟩)) (hn k hk)
      · rw [hz k hk ha, Int.mul_zero]; exact Int.le_refl 0
  have hsum := row_sum h hs hρ
  have hg : T ρ (b ρ) * x (b ρ) = d * x (b ρ) := by rw [h.diag hρ]
  have h1 := sm_ge_one hterm (b ρ) (h.lt hρ)
  refine ⟨by rw [← hsum, ← hg]; exact h1, fun e k hk hnb hT => ?_⟩
  have h2 := sm_others hterm (h.lt hρ) (by rw [hsum, ← e, hg]; exact Int.le_refl _) k hk (fun e2 => hnb ρ hρ e2.symm)
  rcases Int.mul_eq_zero.mp h2 with h3 | h3
  · exact absurd h3 hT
  · exact h3
theorem opt_min (h : Tb m N A T b d) (hx : Fc m N A al x) (hρ : ρ < m) (hno : ∀ k, k < N → al k → (∀ s, s < m → b s ≠ k) → T ρ k ≤ 0) : T ρ N * (- x N) ≤ d * x (b ρ) := by
  obtain ⟨hs, hn, hz⟩ := hx
  have hsum := row_sum h hs hρ
  have h2 : sm N (fun k => T ρ k * x k) ≤ sm N (fun k => if k = b ρ then d * x (b ρ) else 0) := sm_le (fun k hk => by
    by_cases hb : ∃ s, s < m ∧ b s = k
    · obtain ⟨s, hs', e⟩ := hb
      by_cases e2 : s = ρ
      · subst e2; rw [← e, if_pos rfl, h.diag hρ]; exact Int.le_refl _
      · rw [← e, h.off hρ hs' (Ne.symm e2), Int.zero_mul]
        split
        · exact Int.mul_nonneg (Int.le_of_lt h.pos) (hn _ (h.lt hρ))
        · exact Int.le_refl 0
    · rw [if_neg (fun e => hb ⟨ρ, hρ, e.symm⟩)]
      by_cases ha : al k
      · exact Int.mul_nonpos_of_nonpos_of_nonneg (hno k hk ha (fun s hs' e => hb ⟨s, hs', e⟩)) (hn k hk)
      · rw [hz k hk ha, Int.mul_zero]; exact Int.le_refl 0)
  rw [sm_one (f := fun k => if k = b ρ then d * x (b ρ) else 0) (b ρ) (h.lt hρ) (fun k _ hn => if_neg hn), if_pos rfl] at h2
  omega
/-- what is left when the variable of row ρ is held at its most -/
theorem face_held (h : Tb m N A T b d) (hρ : ρ < m) (hno : ∀ k, k < N → al k → (∀ s, s < m → b s ≠ k) → 0 ≤ T ρ k)
    (hal' : ∀ k, k < N → (al' k ↔ al k ∧ ¬ ((∀ s, s < m → b s ≠ k) ∧ T ρ k ≠ 0))) (x : Nat → Int) : Fc m N A al' x ↔ Fc m N A al x ∧ x (b ρ) * d = T ρ N * (- x N) := by
  constructor
  · rintro ⟨hs, hn, hz⟩
    have hx : Fc m N A al x := ⟨hs, hn, fun k hk ha => hz k hk (fun q => ha ((hal' k hk).mp q).1)⟩
    refine ⟨hx, ?_⟩
    have hsum := row_sum h hs hρ
    rw [sm_one (b ρ) (h.lt hρ)] at hsum
    · rw [h.diag hρ] at hsum
      rw [Int.mul_comm]; exact hsum
    · intro k hk hne
      by_cases hb : ∃ s, s < m ∧ b s = k
      · obtain ⟨s, hs', e⟩ := hb
        rw [← e, h.off hρ hs' (fun e2 => hne (by rw [← e, e2])), Int.zero_mul]
      · by_cases hT : T ρ k = 0
        · rw [hT, Int.zero_mul]
        · rw [hz k hk (fun q => ((hal' k hk).mp q).2 ⟨fun s hs' e => hb ⟨s, hs', e⟩, hT⟩), Int.mul_zero]
  · rintro ⟨hx, e⟩
    have hm := (opt_max h hx hρ hno).2 (by rw [Int.mul_comm]; exact e)
    refine ⟨hx.1, hx.2.1, fun k hk ha => ?_⟩
    by_cases hak : al k
    · have : (∀ s, s < m → b s ≠ k) ∧ T ρ k ≠ 0 := Classical.byContradiction (fun q => ha ((hal' k hk).mpr ⟨hak, q⟩))
      exact hm k hk this.1 this.2
    · exact hx.2.2 k hk hak
end
/-- the first k values of x / t against those of v / d -/
def lexle (k : Nat) (x : Nat → Int) (t : Int) (v : Nat → Int) (d : Int) : Prop := (∀ i, i < k → x i * d = v i * t) ∨ ∃ j, j < k ∧ (∀ i, i < j → x i * d = v i * t) ∧ x j * d < v j * t
/-- the first k variables are at their most, one after the other, and held there -/
def LX (m N : Nat) (A : Nat → Nat → Int) (al0 : Nat → Prop) (k : Nat) (al : Nat → Prop) (v : Nat → Int) (d : Int) : Prop :=
  (∀ x, Fc m N A al0 x → 0 < - x N → lexle k x (- x N) v d) ∧ (∀ x, Fc m N A al x ↔ Fc m N A al0 x ∧ ∀ i, i < k → x i * d = v i * (- x N))
theorem lexle_scale {k : Nat} {x v v' : Nat → Int} {t d d' : Int} (hd : 0 < d) (hd' : 0 < d') (h : ∀ i, i < k → v' i * d = v i * d') : (∀ i, i < k → (x i * d = v i * t ↔ x i * d' = v' i * t)) ∧ (∀ i, i < k → (x i * d < v i * t → x i * d' < v' i * t)) := by
  have e1 : ∀ i, i < k → d * (x i * d') = (x i * d) * d' := fun i _ => by rw [Int.mul_left_comm, Int.mul_assoc, Int.mul_comm d d', ← Int.mul_assoc, Int.mul_comm (x i) d', Int.mul_assoc, Int.mul_comm d' _]
  have e2 : ∀ i, i < k → d * (v' i * t) = (v i * t) * d' := fun i hi => by rw [← Int.mul_assoc, Int.mul_comm d, h i hi, Int.mul_assoc, Int.mul_comm d' t, Int.mul_assoc]
  refine ⟨fun i hi => ⟨fun e => ?_, fun e => ?_⟩, fun i hi hlt => ?_⟩
  · exact Int.eq_of_mul_eq_mul_left (show d ≠ 0 by omega) (by rw [e1 i hi, e2 i hi, e])
  · have h3 := e1 i hi
    have h4 := e2 i hi
    rw [e, h4] at h3
    exact (Int.eq_of_mul_eq_mul_right (show d' ≠ 0 by omega) h3).symm
  · have h3 : d * (x i * d') < d * (v' i * t) := by rw [e1 i hi, e2 i hi]; exact Int.mul_lt_mul_of_pos_right hlt hd'
    exact Int.lt_of_mul_lt_mul_left h3 (by omega)
theorem LX.scale {m N k : Nat} {A : Nat → Nat → Int} {al0 al : Nat → Prop} {v v' : Nat → Int} {d d' : Int} (hd : 0 < d) (hd' : 0 < d') (h : ∀ i, i < k → v' i * d = v i * d') (hL : LX m N A al0 k al v d) : LX m N A al0 k al v' d' := by
  refine ⟨fun x hx ht => ?_, fun x => ?_⟩
  · obtain ⟨h1, h2⟩ := lexle_scale (x := x) (t := - x N) hd hd' h
    rcases hL.1 x hx ht with e | ⟨j, hj, e, hlt⟩
    · exact Or.inl (fun i hi => (h1 i hi).mp (e i hi))
    · exact Or.inr ⟨j, hj, fun i hi => (h1 i (by omega)).mp (e i hi), h2 j hj hlt⟩
  · obtain ⟨h1, h2⟩ := lexle_scale (x := x) (t := - x N) hd hd' h
    rw [hL.2 x]
    exact ⟨fun ⟨q1, q2⟩ => ⟨q1, fun i hi => (h1 i hi).mp (q2 i hi)⟩, fun ⟨q1, q2⟩ => ⟨q1, fun i hi => (h1 i hi).mpr (q2 i hi)⟩⟩
/-- another table over the same face has the same first values -/
theorem LX.move {m N k : Nat} {A T T' : Nat → Nat → Int} {b b' : Nat → Nat} {d d' : Int} {al0 al : Nat → Prop} (hkN : k ≤ N) (hd : 0 < d) (h' : Tb m N A T' b' d') (hf' : Feas m N T') (hba : ∀ s, s < m → al (b' s)) (hL : LX m N A al0 k al (vl m N T b) d) : LX m N A al0 k al (vl m N T' b') d' := by
  have h1 := ((hL.2 _).mp (bsl_Fc h' hf' hba)).2
  refine hL.scale hd h'.pos (fun i hi => ?_)
  have h2 := h1 i hi
  rw [bsl_lt (by omega), bsl_N, Int.neg_neg] at h2
  exact h2
theorem LX.zero {m N : Nat} {A : Nat → Nat → Int} {al : Nat → Prop} {v : Nat → Int} {d : Int} : LX m N A al 0 al v d :=
  ⟨fun _ _ _ => Or.inl (fun i hi => absurd hi (by omega)), fun _ => ⟨fun h => ⟨h, fun i hi => absurd hi (by omega)⟩, fun h => h.1⟩⟩
/-- one variable more -/
theorem LX.next {m N k ρ : Nat} {A T : Nat → Nat → Int} {b : Nat → Nat} {d : Int} {al0 al al' : Nat → Prop} (h : Tb m N A T b d) (hρ : ρ < m) (hg : b ρ = k) (hno : ∀ k, k < N → al k → (∀ s, s < m → b s ≠ k) → 0 ≤ T ρ k)
    (hal' : ∀ k, k < N → (al' k ↔ al k ∧ ¬ ((∀ s, s < m → b s ≠ k) ∧ T ρ k ≠ 0))) (hL : LX m N A al0 k al (vl m N T b) d) : LX m N A al0 (k + 1) al' (vl m N T b) d := by
  have hv : vl m N T b k = T ρ N := by rw [← hg]; exact vl_b h hρ
  refine ⟨fun x hx ht => ?_, fun x => ?_⟩
  · rcases hL.1 x hx ht with e | ⟨j, hj, e, hlt⟩
    · have hxa : Fc m N A al x := (hL.2 x).mpr ⟨hx, e⟩
      have h1 := (opt_max h hxa hρ hno).1
      rw [hg, Int.mul_comm, ← hv] at h1
      rcases Int.lt_or_eq_of_le h1 with h2 | h2
      · exact Or.inr ⟨k, by omega, e, h2⟩
      · refine Or.inl (fun i hi => ?_)
        by_cases e3 : i = k
        · subst e3; exact h2
        · exact e i (by omega)
    · exact Or.inr ⟨j, by omega, e, hlt⟩
  · rw [face_held h hρ hno hal' x, hL.2 x, hg, ← hv]
    constructor
    · rintro ⟨⟨q1, q2⟩, q3⟩
      refine ⟨q1, fun i hi => ?_⟩
      by_cases e3 : i = k
      · subst e3; exact q3
      · exact q2 i (by omega)
    · rintro ⟨q1, q2⟩
      exact ⟨⟨q1, fun i hi => q2 i (by omega)⟩, q2 k (by omega)⟩
/-- a variable that is out for good -/
theorem LX.skip {m N k : Nat} {A T : Nat → Nat → Int} {b : Nat → Nat} {d : Int} {al0 al : Nat → Prop} (hk : k < N) (hnb : ∀ s, s < m → b s ≠ k) (hna : ¬ al k) (hL : LX m N A al0 k al (vl m N T b) d) : LX m N A al0 (k + 1) al (vl m N T b) d := by
  have hv : vl m N T b k = 0 := vl_off hnb
  refine ⟨fun x hx ht => ?_, fun x => ?_⟩
  · rcases hL.1 x hx ht with e | ⟨j, hj, e, hlt⟩
    · have hxa : Fc m N A al x := (hL.2 x).mpr ⟨hx, e⟩
      refine Or.inl (fun i hi => ?_)
      by_cases e3 : i = k
      · subst e3; rw [hv, hxa.2.2 i hk hna, Int.zero_mul, Int.zero_mul]
      · exact e i (by omega)
    · exact Or.inr ⟨j, by omega, e, hlt⟩
  · constructor
    · intro hxa
      obtain ⟨q1, q2⟩ := (hL.2 x).mp hxa
      refine ⟨q1, fun i hi => ?_⟩
      by_cases e3 : i = k
      · subst e3; rw [hv, hxa.2.2 i hk hna, Int.zero_mul, Int.zero_mul]
      · exact q2 i (by omega)
    · rintro ⟨q1, q2⟩
      exact (hL.2 x).mpr ⟨q1, fun i hi => q2 i (by omega)⟩
