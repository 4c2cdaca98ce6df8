/-! tables of whole numbers with one divisor, over fixed columns A 0 .. A N (A N: the right side), m rows -/
def sol (m N : Nat) (A : Nat → Nat → Int) (x : Nat → Int) : Prop := ∀ r, r < m → sm (N + 1) (fun k => A k r * x k) = 0
def solT (m N : Nat) (T : Nat → Nat → Int) (x : Nat → Int) : Prop := ∀ r, r < m → sm (N + 1) (fun k => T r k * x k) = 0
def Tb (m N : Nat) (A : Nat → Nat → Int) (T : Nat → Nat → Int) (b : Nat → Nat) (d : Int) : Prop :=
  0 < d ∧ (∀ r, r < m → b r < N) ∧ (∀ r s, r < m → s < m → T r (b s) = if r = s then d else 0) ∧ (∀ x, sol m N A x ↔ solT m N T x) ∧ (∃ σ : Int, (σ = 1 ∨ σ = -1) ∧ d = σ * det m 0 (fun s => A (b s)))
section
variable {m N : Nat} {A T T' : Nat → Nat → Int} {b b' : Nat → Nat} {d d' : Int}
theorem Tb.pos (h : Tb m N A T b d) : 0 < d := h.1
theorem Tb.lt (h : Tb m N A T b d) {r : Nat} (hr : r < m) : b r < N := h.2.1 r hr
theorem Tb.unit (h : Tb m N A T b d) {r s : Nat} (hr : r < m) (hs : s < m) : T r (b s) = if r = s then d else 0 := h.2.2.1 r s hr hs
theorem Tb.diag (h : Tb m N A T b d) {r : Nat} (hr : r < m) : T r (b r) = d := by rw [h.unit hr hr, if_pos rfl]
theorem Tb.off (h : Tb m N A T b d) {r s : Nat} (hr : r < m) (hs : s < m) (hne : r ≠ s) : T r (b s) = 0 := by rw [h.unit hr hs, if_neg hne]
theorem Tb.sols (h : Tb m N A T b d) (x : Nat → Int) : sol m N A x ↔ solT m N T x := h.2.2.2.1 x
theorem Tb.inj (h : Tb m N A T b d) {r s : Nat} (hr : r < m) (hs : s < m) (e : b r = b s) : r = s := by
  apply Classical.byContradiction
  intro hne
  have h1 := h.off hr hs hne
  rw [← e, h.diag hr] at h1
  have := h.pos
  omega
/-- from the basic solution along a column -/
def dirv (m : Nat) (T : Nat → Nat → Int) (b : Nat → Nat) (d : Int) (c : Nat) : Nat → Int := fun k => (if k = c then d else 0) - sm m (fun s => if k = b s then T s c else 0)
theorem dirv_at {c : Nat} (hc : ∀ s, s < m → b s ≠ c) : dirv m T b d c c = d := by
  unfold dirv
  rw [if_pos rfl, sm_zero (fun s hs => if_neg (fun e => hc s hs e.symm))]; omega
theorem dirv_b (h : Tb m N A T b d) {c s : Nat} (hc : ∀ s, s < m → b s ≠ c) (hs : s < m) : dirv m T b d c (b s) = - T s c := by
  unfold dirv
  rw [if_neg (hc s hs), sm_one s hs (fun i hi hne => if_neg (fun e => hne (h.inj hi hs e.symm)))]
  rw [if_pos rfl]; omega
theorem dirv_off {c k : Nat} (hk : k ≠ c) (hb : ∀ s, s < m → b s ≠ k) : dirv m T b d c k = 0 := by
  unfold dirv
  rw [if_neg hk, sm_zero (fun s hs => if_neg (fun e => hb s hs e.symm))]; rfl
/-- a sum against the direction: only the column itself and the basis count -/
theorem dirv_sum (h : Tb m N A T b d) {c : Nat} (hcN : c ≤ N) (f : Nat → Int) : sm (N + 1) (fun k => f k * dirv m T b d c k) = f c * d - sm m (fun s => T s c * f (b s)) := by
  have h1 : ∀ k, f k * dirv m T b d c k = f k * (if k = c then d else 0) - sm m (fun s => f k * (if k = b s then T s c else 0)) := fun k => by
    unfold dirv
    rw [Int.mul_sub, sm_mul]
  rw [sm_congr (fun k _ => h1 k), sm_sub, sm_one c (by omega) (fun k _ hne => by rw [if_neg hne, Int.mul_zero]), if_pos rfl, sm_comm]
  congr 1
  refine sm_congr (fun s hs => ?_)
  have hb := h.lt hs
  rw [sm_one (b s) (by omega) (fun k _ hne => by rw [if_neg hne, Int.mul_zero]), if_pos rfl, Int.mul_comm]
theorem dirv_sol (h : Tb m N A T b d) {c : Nat} (hcN : c ≤ N) : solT m N T (dirv m T b d c) := by
  intro r hr
  rw [dirv_sum h hcN]
  rw [sm_one r hr (fun s hs hne => by rw [h.off hr hs (Ne.symm hne), Int.mul_zero]), h.diag hr, Int.mul_comm]; omega
/-- a column of A, by the basis -/
theorem Tb.col (h : Tb m N A T b d) {c i : Nat} (hc : c ≤ N) (hi : i < m) : d * A c i = sm m (fun s => T s c * A (b s) i) := by
  have h1 := (h.sols _).mpr (dirv_sol h hc) i hi
  have h2 := dirv_sum h hc (fun k => A k i)
  rw [h1] at h2
  have h3 : A c i * d = d * A c i := Int.mul_comm _ _
  omega
theorem Tb.det_cell (h : Tb m N A T b d) {c r : Nat} (hc : c ≤ N) (hr : r < m) : ∃ σ : Int, (σ = 1 ∨ σ = -1) ∧ d = σ * det m 0 (fun s => A (b s)) ∧ T r c = σ * det m 0 (cset (fun s => A (b s)) r (A c)) := by
  obtain ⟨σ, hσ, hd⟩ := h.2.2.2.2
  refine ⟨σ, hσ, hd, ?_⟩
  have h1 : d * det m 0 (cset (fun s => A (b s)) r (A c)) = T r c * det m 0 (fun s => A (b s)) := by
    rw [← det_scale hr]
    have e1 : det m 0 (cset (fun s => A (b s)) r (fun i => d * A c i)) = det m 0 (cset (fun s => A (b s)) r (fun i => sm m (fun s => T s c * A (b s) i))) := by
      refine det_congr (fun i hi k _ hk => ?_)
      by_cases e : i = r
      · subst e
        rw [cset_same, cset_same]
        exact h.col hc (by omega)
      · rw [cset_ne e, cset_ne e]
    rw [e1, det_sum hr m (fun s => T s c) (fun s => A (b s)), sm_one r hr]
    · rw [show cset (fun s => A (b s)) r (A (b r)) = (fun s => A (b s)) from cset_self (c := fun s => A (b s))]
    · intro s hs hne
      rw [det_eq0 (p := r) (q := s) hr hs (Ne.symm hne) (by rw [cset_same, cset_ne hne]), Int.mul_zero]
  have hd0 : d ≠ 0 := by have := h.pos; omega
  generalize det m 0 (cset (fun s => A (b s)) r (A c)) = x at h1 ⊢
  generalize det m 0 (fun s => A (b s)) = y at h1 hd
  have h2 : d * (σ * x) = d * T r c := by
    rw [Int.mul_left_comm, h1, Int.mul_left_comm, ← hd, Int.mul_comm]
  exact (Int.eq_of_mul_eq_mul_left hd0 h2).symm
/-- what a pivot makes can be divided -/
theorem Tb.exact (h : Tb m N A T b d) {l c r a : Nat} (hl : l < m) (hr : r < m) (hne : r ≠ l) (hc : c ≤ N) (ha : a ≤ N) : ∃ q : Int, T r a * T l c - T r c * T l a = d * q := by
  obtain ⟨σ, hσ, hd, hrc⟩ := h.det_cell hc hr
  have cell : ∀ {x y : Nat}, y ≤ N → x < m → T x y = σ * det m 0 (cset (fun s => A (b s)) x (A y)) := fun {x y} hy hx => by
    obtain ⟨σ', hσ', hd', hx'⟩ := h.det_cell hy hx
    have : σ' = σ := by
      have hp := h.pos
      rcases hσ with rfl | rfl <;> rcases hσ' with rfl | rfl <;> first | rfl | omega
    rw [← this]; exact hx'
  refine ⟨σ * det m 0 (cset (cset (fun s => A (b s)) l (A c)) r (A a)), ?_⟩
  have h1 : d * det m 0 (cset (cset (fun s => A (b s)) l (A c)) r (A a)) = T r a * det m 0 (cset (fun s => A (b s)) l (A c)) - T l a * det m 0 (cset (fun s => A (b s)) r (A c)) := by
    rw [← det_scale hr]
    have e1 : det m 0 (cset (cset (fun s => A (b s)) l (A c)) r (fun i => d * A a i)) = det m 0 (cset (cset (fun s => A (b s)) l (A c)) r (fun i => sm m (fun s => T s a * A (b s) i))) := by
      refine det_congr (fun i hi k _ hk => ?_)
      by_cases e : i = r
      · subst e
        rw [cset_same, cset_same]
        exact h.col ha (by omega)
      · rw [cset_ne e, cset_ne e]
    rw [e1, det_sum hr m (fun s => T s a) (fun s => A (b s))]
    have hz : ∀ s, s < m → s ≠ r → s ≠ l → T s a * det m 0 (cset (cset (fun s => A (b s)) l (A c)) r (A (b s))) = 0 := fun s hs h1 h2 => by
      rw [det_eq0 (p := r) (q := s) hr hs (Ne.symm h1) (by rw [cset_same, cset_ne h1, cset_ne h2]), Int.mul_zero]
    have hrr : det m 0 (cset (cset (fun s => A (b s)) l (A c)) r (A (b r))) = det m 0 (cset (fun s => A (b s)) l (A c)) := by
      rw [cset_comm (Ne.symm hne), show cset (fun s => A (b s)) r (A (b r)) = (fun s => A (b s)) from cset_self (c := fun s => A (b s))]
    have hrl : det m 0 (cset (cset (fun s => A (b s)) l (A c)) r (A (b l))) = - det m 0 (cset (fun s => A (b s)) r (A c)) := by
      rw [det_swap hl hr (Ne.symm hne), show cset (fun s => A (b s)) l (A (b l)) = (fun s => A (b s)) from cset_self (c := fun s => A (b s))]
    have hsum : sm m (fun s => T s a * det m 0 (cset (cset (fun s => A (b s)) l (A c)) r (A (b s)))) = sm m (fun s => (if s = r then T r a * det m 0 (cset (fun s => A (b s)) l (A c)) else 0) + (if s = l then - (T l a * det m 0 (cset (fun s => A (b s)) r (A c))) else 0)) := by
      refine sm_congr (fun s hs => ?_)
      by_cases f1 : s = r
      · subst f1
        rw [if_pos rfl, if_neg hne, hrr, Int.add_zero]
      · by_cases f2 : s = l
        · subst f2
          rw [if_neg f1, if_pos rfl, hrl, Int.zero_add, Int.mul_neg]
        · rw [if_neg f1, if_neg f2, hz s hs f1 f2]; rfl
    rw [hsum, sm_add, sm_one r hr (fun s _ hn => if_neg hn), sm_one l hl (fun s _ hn => if_neg hn), if_pos rfl, if_pos rfl]
    omega
  rw [Int.mul_left_comm, h1, Int.mul_sub, cell hc hl, hrc, Int.mul_left_comm σ (T r a), Int.mul_left_comm σ (T l a)]
  congr 1
  rw [Int.mul_comm]
/-- the table behind a pivot at row l and column c -/
def Piv (m N : Nat) (T T' : Nat → Nat → Int) (b b' : Nat → Nat) (d d' : Int) (l c : Nat) : Prop :=
  d' = T l c ∧ (∀ s, s < m → b' s = if s = l then c else b s) ∧ (∀ a, a ≤ N → T' l a = T l a) ∧ (∀ r a, r < m → r ≠ l → a ≤ N → T' r a * d = T r a * T l c - T r c * T l a)
theorem Tb.piv (h : Tb m N A T b d) {l c : Nat} (hl : l < m) (hc : c < N) (hp : 0 < T l c) (hv : Piv m N T T' b b' d d' l c) : Tb m N A T' b' d' := by
  obtain ⟨hd', hb', hT1, hT2⟩ := hv
  have hd := h.pos
  have hd0 : d ≠ 0 := by omega
  subst hd'
  have hbl : b' l = c := by rw [hb' l hl, if_pos rfl]
  have hbs : ∀ s, s < m → s ≠ l → b' s = b s := fun s hs hn => by rw [hb' s hs, if_neg hn]
  refine ⟨hp, fun r hr => ?_, fun r s hr hs => ?_, fun x => ?_, ?_⟩
  · by_cases e : r = l
    · subst e; rw [hbl]; exact hc
    · rw [hbs r hr e]; exact h.lt hr
  · by_cases e : s = l
    · subst e
      rw [hbl]
      by_cases e2 : r = s
      · subst e2; rw [if_pos rfl]; exact hT1 c (by omega)
      · rw [if_neg e2]
        have h1 := hT2 r c hr e2 (by omega)
        have h2 : T' r c * d = 0 := by rw [h1]; omega
        rcases Int.mul_eq_zero.mp h2 with h3 | h3
        · exact h3
        · exact absurd h3 hd0
    · rw [hbs s hs e]
      have hsN : b s ≤ N := Nat.le_of_lt (h.lt hs)
      have hls : T l (b s) = 0 := h.off hl hs (Ne.symm e)
      by_cases e2 : r = l
      · subst e2
        rw [hT1 _ hsN, hls, if_neg (Ne.symm e)]
      · have h1 := hT2 r (b s) hr e2 hsN
        rw [hls, Int.mul_zero, Int.sub_zero, h.unit hr hs] at h1
        by_cases e3 : r = s
        · rw [if_pos e3] at h1 ⊢
          rw [Int.mul_comm d] at h1
          exact Int.eq_of_mul_eq_mul_right hd0 h1
        · rw [if_neg e3, Int.zero_mul] at h1
          rw [if_neg e3]
          rcases Int.mul_eq_zero.mp h1 with h3 | h3
          · exact h3
          · exact absurd h3 hd0
  · rw [h.sols]
    have key : ∀ r, r < m → r ≠ l → d * sm (N + 1) (fun k => T' r k * x k) = T l c * sm (N + 1) (fun k => T r k * x k) - T r c * sm (N + 1) (fun k => T l k * x k) := fun r hr hn => by
      rw [← sm_mul, ← sm_mul, ← sm_mul, ← sm_sub]
      refine sm_congr (fun k hk => ?_)
      have h1 := hT2 r k hr hn (by omega)
      rw [← Int.mul_assoc, Int.mul_comm d, h1, Int.sub_mul, Int.mul_comm (T r k), Int.mul_assoc, Int.mul_assoc]
    have keyl : sm (N + 1) (fun k => T' l k * x k) = sm (N + 1) (fun k => T l k * x k) := sm_congr (fun k hk => by rw [hT1 k (by omega)])
    constructor
    · intro hs r hr
      by_cases e : r = l
      · subst e; rw [keyl]; exact hs r hr
      · have h1 := key r hr e
        rw [hs r hr, hs l hl, Int.mul_zero, Int.mul_zero, Int.sub_zero] at h1
        rcases Int.mul_eq_zero.mp h1 with h3 | h3
        · exact absurd h3 hd0
        · exact h3
    · intro hs r hr
      have hl0 : sm (N + 1) (fun k => T l k * x k) = 0 := by rw [← keyl]; exact hs l hl
      by_cases e : r = l
      · subst e; exact hl0
      · have h1 := key r hr e
        rw [hs r hr, hl0, Int.mul_zero, Int.mul_zero, Int.sub_zero] at h1
        rcases Int.mul_eq_zero.mp h1.symm with h3 | h3
        · omega
        · exact h3
  · obtain ⟨σ, hσ, hd2, hcell⟩ := h.det_cell (Nat.le_of_lt hc) hl
    refine ⟨σ, hσ, ?_⟩
    rw [hcell]
    congr 1
    refine det_congr (fun i hi k _ _ => ?_)
    by_cases e : i = l
    · subst e; rw [cset_same, hbl]
    · rw [cset_ne e, hbs i hi e]
end
