/-! longs and ints that stay in their range -/
theorem i64_mul {x y : Int64} (h : (x.toInt * y.toInt).natAbs < 2 ^ 63) : (x * y).toInt = x.toInt * y.toInt := by
  rw [Int64.toInt_mul]
  exact Int.bmod_eq_of_le_mul_two (by omega) (by omega)
theorem i64_sub {x y : Int64} (h : (x.toInt - y.toInt).natAbs < 2 ^ 63) : (x - y).toInt = x.toInt - y.toInt := by
  rw [Int64.toInt_sub]
  exact Int.bmod_eq_of_le_mul_two (by omega) (by omega)
theorem i64_add {x y : Int64} (h : (x.toInt + y.toInt).natAbs < 2 ^ 63) : (x + y).toInt = x.toInt + y.toInt := by
  rw [Int64.toInt_add]
  exact Int.bmod_eq_of_le_mul_two (by omega) (by omega)
theorem i64_neg {x : Int64} (h : x.toInt.natAbs < 2 ^ 63) : (-x).toInt = - x.toInt := by
  rw [Int64.toInt_neg]
  exact Int.bmod_eq_of_le_mul_two (by omega) (by omega)
theorem i64_div {x y : Int64} (h : 0 < y.toInt) : (x / y).toInt = x.toInt.tdiv y.toInt := by
  refine Int64.toInt_div_of_ne_right x y (fun e => ?_)
  rw [e] at h
  exact absurd h (by decide)
theorem i64_exact {x y : Int64} {q : Int} (h : 0 < y.toInt) (e : x.toInt = y.toInt * q) : (x / y).toInt = q := by
  rw [i64_div h, e]
  exact Int.mul_tdiv_cancel_left q (by omega)
theorem i64_0 {x : Int64} : x = 0 ↔ x.toInt = 0 := by rw [← Int64.toInt_inj]; rfl
theorem i64_le0 {x : Int64} : x ≤ 0 ↔ x.toInt ≤ 0 := by rw [Int64.le_iff_toInt_le]; rfl
theorem i64_lt0 {x : Int64} : x < 0 ↔ x.toInt < 0 := by rw [Int64.lt_iff_toInt_lt]; rfl
theorem i32_add {x y : Int32} (h : (x.toInt + y.toInt).natAbs < 2 ^ 31) : (x + y).toInt = x.toInt + y.toInt := by
  rw [Int32.toInt_add]
  exact Int.bmod_eq_of_le_mul_two (by omega) (by omega)
theorem i32_sub {x y : Int32} (h : (x.toInt - y.toInt).natAbs < 2 ^ 31) : (x - y).toInt = x.toInt - y.toInt := by
  rw [Int32.toInt_sub]
  exact Int.bmod_eq_of_le_mul_two (by omega) (by omega)
theorem i32_mul {x y : Int32} (h : (x.toInt * y.toInt).natAbs < 2 ^ 31) : (x * y).toInt = x.toInt * y.toInt := by
  rw [Int32.toInt_mul]
  exact Int.bmod_eq_of_le_mul_two (by omega) (by omega)
theorem nam {a b : Int} {A B : Nat} (ha : a.natAbs ≤ A) (hb : b.natAbs ≤ B) : (a * b).natAbs ≤ A * B := by
  rw [Int.natAbs_mul]
  exact Nat.mul_le_mul ha hb
theorem nIm1 (k : Nat) : nI (k + 1) + (-1) = nI k := pk_m1 k
theorem nI_inj {a b : Nat} (ha : a < 2 ^ 31) (hb : b < 2 ^ 31) (h : nI a = nI b) : a = b := (nI_eq ha hb).mp h
theorem nI_ne_m1 {a : Nat} (ha : a < 2 ^ 31) : ¬ nI a = -1 := fun h => by
  have := congrArg Int32.toInt h
  rw [nI_toInt ha, show (-1 : Int32).toInt = -1 from by decide] at this
  omega
/-! how great the cells of a table can be -/
def Wd (q N : Nat) (A : Nat → Nat → Int) : Prop := (∀ c, c < N → smn q (fun r => (A c r).natAbs) ≤ 1) ∧ (∀ c, c < N → ∀ r, q ≤ r → r < q + 3 → (A c r).natAbs ≤ 50)
theorem smn_comm (n m : Nat) (f : Nat → Nat → Nat) : smn n (fun i => smn m (fun j => f i j)) = smn m (fun j => smn n (fun i => f i j)) := by
  induction n with
  | zero =>
    induction m with
    | zero => rfl
    | succ m ih => show 0 = smn m (fun j => 0) + 0; rw [Nat.add_zero]; exact ih
  | succ n ih =>
    show smn n (fun i => smn m (fun j => f i j)) + smn m (fun j => f n j) = smn m (fun j => smn n (fun i => f i j) + f n j)
    rw [ih]
    clear ih
    induction m with
    | zero => rfl
    | succ m ih2 =>
      show smn m (fun j => smn n fun i => f i j) + smn n (fun i => f i m) + (smn m (fun j => f n j) + f n m) = smn m (fun j => smn n (fun i => f i j) + f n j) + (smn n (fun i => f i m) + f n m)
      rw [← ih2]; omega
theorem smn_const_le {n B : Nat} {f : Nat → Nat} (h : ∀ i, i < n → f i ≤ B) : smn n f ≤ n * B := by
  induction n with
  | zero => exact Nat.zero_le _
  | succ n ih =>
    have h1 := ih (fun i hi => h i (by omega))
    have h2 := h n (by omega)
    show smn n f + f n ≤ (n + 1) * B
    rw [Nat.add_mul, Nat.one_mul]; omega
theorem smn_first (n : Nat) (f : Nat → Nat) : smn (n + 1) f = f 0 + smn n (fun i => f (i + 1)) := by
  induction n with
  | zero => show 0 + f 0 = f 0 + 0; omega
  | succ n ih =>
    show smn (n + 1) f + f (n + 1) = f 0 + (smn n (fun i => f (i + 1)) + f (n + 1))
    rw [ih]; omega
theorem two_le_pow : ∀ n : Nat, n * 2 ≤ 2 ^ n
  | 0 => by decide
  | 1 => by decide
  | n + 2 => by
    have h := two_le_pow (n + 1)
    rw [Nat.pow_succ]
    have : 1 ≤ 2 ^ (n + 1) := Nat.one_le_two_pow
    omega
theorem pr_pow (q : Nat) : ∀ f : Nat → Nat, pr q f * 2 ^ q ≤ 2 ^ smn q f := by
  induction q with
  | zero => intro f; exact Nat.le_refl 1
  | succ q ih =>
    intro f
    show f 0 * pr q (fun i => f (i + 1)) * 2 ^ (q + 1) ≤ 2 ^ smn (q + 1) f
    rw [smn_first, Nat.pow_add 2 (f 0), Nat.pow_succ]
    have h1 := Nat.mul_le_mul (two_le_pow (f 0)) (ih (fun i => f (i + 1)))
    have e : f 0 * pr q (fun i => f (i + 1)) * (2 ^ q * 2) = f 0 * 2 * (pr q (fun i => f (i + 1)) * 2 ^ q) := by
      rw [Nat.mul_assoc, Nat.mul_assoc]
      congr 1
      rw [Nat.mul_left_comm 2, Nat.mul_comm 2]
    rw [e]; exact h1
theorem pr_le8 {q : Nat} {f : Nat → Nat} (h : smn q f ≤ q + 3) : pr q f ≤ 8 := by
  have h1 := pr_pow q f
  have h2 : 2 ^ smn q f ≤ 2 ^ (q + 3) := Nat.pow_le_pow_right (by decide) h
  have h3 : pr q f * 2 ^ q ≤ 8 * 2 ^ q := by
    refine Nat.le_trans h1 (Nat.le_trans h2 (Nat.le_of_eq ?_))
    rw [Nat.pow_add, Nat.mul_comm]
  exact Nat.le_of_mul_le_mul_right h3 (Nat.two_pow_pos q)
theorem det_wd {q N : Nat} {A : Nat → Nat → Int} (hA : Wd q N A) {C : Nat → Nat → Int} (hC : ∀ j, j < q + 3 → ∃ c, c < N ∧ C j = A c) : (det (q + 3) 0 C).natAbs ≤ 27000000 := by
  have hE : ∀ c' : Nat → Nat → Int, (∀ i, i < 3 → ∃ i', i' < q + 3 ∧ c' i = C i') → (det 3 (0 + q) c').natAbs ≤ 3375000 := fun c' hc' => by
    have h1 := det_bound 3 0 1 (k := 0 + q) (c := c') (fun c'' _ => Nat.le_refl 1)
    refine Nat.le_trans h1 ?_
    have h2 : pr 3 (fun r => smn (3 + 0) (fun j => (c' j (0 + q + r)).natAbs)) ≤ pr 3 (fun _ => 150) := pr_le (fun r hr => by
      refine Nat.le_trans (smn_const_le (B := 50) (fun j hj => ?_)) (by decide)
      obtain ⟨i', hi', e⟩ := hc' j hj
      obtain ⟨c, hc, e2⟩ := hC i' hi'
      rw [e, e2]
      exact hA.2 c hc _ (by omega) (by omega))
    rw [Nat.mul_one]
    exact Nat.le_trans h2 (by decide)
  refine Nat.le_trans (det_bound q 3 3375000 (k := 0) (c := C) hE) ?_
  have h3 : pr q (fun r => smn (q + 3) (fun j => (C j (0 + r)).natAbs)) ≤ 8 := pr_le8 (by
    rw [smn_comm]
    refine Nat.le_trans (smn_const_le (B := 1) (fun j hj => ?_)) (by omega)
    obtain ⟨c, hc, e⟩ := hC j hj
    rw [e]
    have := hA.1 c hc
    simpa using this)
  exact Nat.le_trans (Nat.mul_le_mul h3 (Nat.le_refl _)) (by decide)
theorem Tb.cell_le {q N : Nat} {A T : Nat → Nat → Int} {b : Nat → Nat} {d : Int} (h : Tb (q + 3) N A T b d) (hA : Wd q N A) {r c : Nat} (hr : r < q + 3) (hc : c < N) : (T r c).natAbs ≤ 27000000 := by
  obtain ⟨σ, hσ, -, e⟩ := h.det_cell (Nat.le_of_lt hc) hr
  have h1 : (T r c).natAbs = (det (q + 3) 0 (cset (fun s => A (b s)) r (A c))).natAbs := by
    rw [e, Int.natAbs_mul]
    rcases hσ with rfl | rfl <;> simp
  rw [h1]
  refine det_wd hA (fun j hj => ?_)
  by_cases e2 : j = r
  · subst e2; exact ⟨c, hc, cset_same⟩
  · exact ⟨b j, h.lt hj, cset_ne e2⟩
theorem Tb.d_le {q N : Nat} {A T : Nat → Nat → Int} {b : Nat → Nat} {d : Int} (h : Tb (q + 3) N A T b d) (hA : Wd q N A) : d.natAbs ≤ 27000000 := by
  have h1 := h.cell_le hA (r := 0) (c := b 0) (by omega) (h.lt (by omega))
  rw [h.diag (by omega)] at h1
  exact h1
