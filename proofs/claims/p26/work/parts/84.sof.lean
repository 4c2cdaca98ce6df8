/-! the reference's shortest plan -/
def dvT : Nat → Bool := fun _ => true
theorem cdvT_succ {k : Nat} {f : Nat → Nat} : cdv dvT (k + 1) f = 3 * cdv dvT k f + f k := if_pos rfl
theorem allvT_succ {k : Nat} : allv dvT (k + 1) = allv dvT k * 3 := if_pos rfl
theorem allvT_le : ∀ {k : Nat}, k ≤ 7 → 1 ≤ allv dvT k ∧ allv dvT k ≤ 2187
  | 0, _ => by decide
  | 1, _ => by decide
  | 2, _ => by decide
  | 3, _ => by decide
  | 4, _ => by decide
  | 5, _ => by decide
  | 6, _ => by decide
  | 7, _ => by decide
  | k + 8, h => absurd h (by omega)
def X6i : Nat → Int32
  | 0 => -1
  | k + 1 => nI k
theorem X6i_m1 {k : Nat} : nI k + (-1 : Int32) = X6i k := by
  cases k with
  | zero => decide
  | succ k => exact nIm1 k
theorem X6i_sub {k : Nat} : nI k - (1 : Int32) = X6i k := by
  cases k with
  | zero => decide
  | succ k => rw [show (1 : Int32) = nI 1 from by decide, pk_sub (by omega)]; rfl
/-- the digits of a plan's number -/
theorem dig3 {a b : Nat} (hb : b < 3) (ha : a < 100000) : nI (3 * a + b) - nI (3 * a + b) / (3 : Int32) * (3 : Int32) = nI b ∧ nI (3 * a + b) / (3 : Int32) = nI a := by
  have e : nI (3 * a + b) / (3 : Int32) = nI a := by
    rw [show (3 : Int32) = nI 3 from by decide, pk_div (by omega) (by omega) (by omega)]
    congr 1; omega
  refine ⟨?_, e⟩
  rw [e, show (3 : Int32) = nI 3 from by decide, pk_mul, pk_sub (by omega)]
  congr 1; omega
/-- what the plans below a number brought -/
def SB (n : Nat) (t : Nat → Nat) (c : Nat) (x2 : Int32) (mbs : Nat → Int32) : Prop :=
  (x2 = -1 ∧ ∀ g, feas n t g → c ≤ cdv dvT n g) ∨ (∃ f L, x2 = nI L ∧ L ≤ 350 ∧ feas n t f ∧ lenN n t f = L ∧ (∀ j, j < n → mbs j = nI (f j)) ∧ cdv dvT n f < c ∧ ∀ g, feas n t g → cdv dvT n g < c → L < lenN n t g ∨ (lenN n t g = L ∧ cdv dvT n f ≤ cdv dvT n g))
theorem cdvT_inj {n : Nat} {f g : Nat → Nat} (hf : ∀ j, j < n → f j < 3) (hg : ∀ j, j < n → g j < 3) (h : cdv dvT n f = cdv dvT n g) : ∀ j, j < n → f j = g j := by
  rcases cdv_lex (fun j hj _ => hf j hj) (fun j hj _ => hg j hj) (Nat.le_of_eq h) with q | ⟨j, hj, -, q1, q2⟩
  · exact fun j hj => q j hj rfl
  · rcases cdv_lex (fun j hj _ => hg j hj) (fun j hj _ => hf j hj) (Nat.le_of_eq h.symm) with r | ⟨i, hi, -, r1, r2⟩
    · have := r j hj rfl; omega
    · exfalso
      rcases Nat.lt_trichotomy i j with s | s | s
      · have := q1 i s rfl; omega
      · subst s; omega
      · have := r1 j s rfl; omega