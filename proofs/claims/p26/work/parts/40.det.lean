/-! sums and determinants of whole numbers -/
def sm : Nat → (Nat → Int) → Int
  | 0, _ => 0
  | n + 1, f => sm n f + f n
theorem sm_congr {n : Nat} {f g : Nat → Int} (h : ∀ i, i < n → f i = g i) : sm n f = sm n g := by
  induction n with
  | zero => rfl
  | succ n ih =>
    show sm n f + f n = sm n g + g n
    rw [ih (fun i hi => h i (by omega)), h n (by omega)]
theorem sm_add (n : Nat) (f g : Nat → Int) : sm n (fun i => f i + g i) = sm n f + sm n g := by
  induction n with
  | zero => rfl
  | succ n ih =>
    show sm n (fun i => f i + g i) + (f n + g n) = sm n f + f n + (sm n g + g n)
    rw [ih]; omega
theorem sm_mul (n : Nat) (a : Int) (f : Nat → Int) : sm n (fun i => a * f i) = a * sm n f := by
  induction n with
  | zero => exact (Int.mul_zero a).symm
  | succ n ih =>
    show sm n (fun i => a * f i) + a * f n = a * (sm n f + f n)
    rw [ih, Int.mul_add]
theorem sm_zero {n : Nat} {f : Nat → Int} (h : ∀ i, i < n → f i = 0) : sm n f = 0 := by
  induction n with
  | zero => rfl
  | succ n ih =>
    show sm n f + f n = 0
    rw [ih (fun i hi => h i (by omega)), h n (by omega)]; rfl
theorem sm_one {n : Nat} {f : Nat → Int} (k : Nat) (hk : k < n) (h : ∀ i, i < n → i ≠ k → f i = 0) : sm n f = f k := by
  induction n with
  | zero => omega
  | succ n ih =>
    show sm n f + f n = f k
    by_cases e : k = n
    · subst e
      rw [sm_zero (fun i hi => h i (by omega) (by omega)), Int.zero_add]
    · rw [ih (by omega) (fun i hi hne => h i (by omega) hne), h n (by omega) (by omega), Int.add_zero]
theorem sm_two {n : Nat} {f : Nat → Int} (k : Nat) (hk : k + 1 < n) (h : ∀ i, i < n → i ≠ k → i ≠ k + 1 → f i = 0) : sm n f = f k + f (k + 1) := by
  induction n with
  | zero => omega
  | succ n ih =>
    show sm n f + f n = f k + f (k + 1)
    by_cases e : k + 1 = n
    · subst e
      rw [sm_one k (by omega) (fun i hi hne => h i (by omega) hne (by omega))]
    · rw [ih (by omega) (fun i hi hne hne2 => h i (by omega) hne hne2), h n (by omega) (by omega) (by omega), Int.add_zero]
theorem sm_comm (n m : Nat) (f : Nat → Nat → Int) : sm n (fun i => sm m (fun j => f i j)) = sm m (fun j => sm n (fun i => f i j)) := by
  induction n with
  | zero => exact (sm_zero (fun _ _ => rfl)).symm
  | succ n ih =>
    show sm n (fun i => sm m (fun j => f i j)) + sm m (fun j => f n j) = sm m (fun j => sm n (fun i => f i j) + f n j)
    rw [ih, sm_add]
theorem sm_neg (n : Nat) (f : Nat → Int) : sm n (fun i => - f i) = - sm n f := by
  have h := sm_mul n (-1) f
  rw [show (fun i => -1 * f i) = (fun i => - f i) from funext fun i => by omega] at h
  rw [h]; omega
theorem sm_sub (n : Nat) (f g : Nat → Int) : sm n (fun i => f i - g i) = sm n f - sm n g := by
  rw [show (fun i => f i - g i) = (fun i => f i + - g i) from funext fun i => by omega, sm_add n f (fun i => - g i), sm_neg]; omega
theorem sm_nonneg {n : Nat} {f : Nat → Int} (h : ∀ i, i < n → 0 ≤ f i) : 0 ≤ sm n f := by
  induction n with
  | zero => exact Int.le_refl 0
  | succ n ih =>
    have h1 := ih (fun i hi => h i (by omega))
    have h2 := h n (by omega)
    show 0 ≤ sm n f + f n
    omega
theorem sm_le {n : Nat} {f g : Nat → Int} (h : ∀ i, i < n → f i ≤ g i) : sm n f ≤ sm n g := by
  induction n with
  | zero => exact Int.le_refl 0
  | succ n ih =>
    have h1 := ih (fun i hi => h i (by omega))
    have h2 := h n (by omega)
    show sm n f + f n ≤ sm n g + g n
    omega
theorem sm_pos_ex {n : Nat} {f : Nat → Int} (h : 0 < sm n f) : ∃ i, i < n ∧ 0 < f i := by
  induction n with
  | zero => exact absurd (show (0 : Int) < 0 from h) (by decide)
  | succ n ih =>
    have h' : 0 < sm n f + f n := h
    by_cases e : 0 < f n
    · exact ⟨n, by omega, e⟩
    · obtain ⟨i, hi, hf⟩ := ih (by omega)
      exact ⟨i, by omega, hf⟩
theorem sm_ge_one {n : Nat} {f : Nat → Int} (h : ∀ i, i < n → 0 ≤ f i) (k : Nat) (hk : k < n) : f k ≤ sm n f := by
  induction n with
  | zero => omega
  | succ n ih =>
    show f k ≤ sm n f + f n
    have h2 := h n (by omega)
    by_cases e : k = n
    · subst e
      have := sm_nonneg (n := k) (f := f) (fun i hi => h i (by omega))
      omega
    · have := ih (fun i hi => h i (by omega)) (by omega)
      omega
theorem sm_abs (n : Nat) (f : Nat → Int) : (sm n f).natAbs ≤ (sm n (fun i => ((f i).natAbs : Int))).toNat := by
  induction n with
  | zero => exact Nat.le_refl 0
  | succ n ih =>
    show (sm n f + f n).natAbs ≤ (sm n (fun i => ((f i).natAbs : Int)) + ((f n).natAbs : Int)).toNat
    have h0 : 0 ≤ sm n (fun i => ((f i).natAbs : Int)) := sm_nonneg (fun i _ => by omega)
    omega
/-! columns, one left out, one replaced -/
def skip (j : Nat) (c : Nat → Nat → Int) : Nat → Nat → Int := fun i => if i < j then c i else c (i + 1)
def cset (c : Nat → Nat → Int) (p : Nat) (v : Nat → Int) : Nat → Nat → Int := fun i => if i = p then v else c i
def sgn (j : Nat) : Int := if j % 2 = 0 then 1 else -1
theorem sgn_succ (j : Nat) : sgn (j + 1) = - sgn j := by
  unfold sgn
  rcases Nat.mod_two_eq_zero_or_one j with h | h
  · rw [if_neg (by omega), if_pos h]
  · rw [if_pos (by omega), if_neg (by omega)]; rfl
theorem cset_same {c : Nat → Nat → Int} {p : Nat} {v : Nat → Int} : cset c p v p = v := if_pos rfl
theorem cset_ne {c : Nat → Nat → Int} {p i : Nat} {v : Nat → Int} (h : i ≠ p) : cset c p v i = c i := if_neg h
theorem cset_self {c : Nat → Nat → Int} {p : Nat} : cset c p (c p) = c := funext fun i => by
  by_cases h : i = p
  · subst h; exact cset_same
  · exact cset_ne h
theorem cset_cset {c : Nat → Nat → Int} {p : Nat} {v w : Nat → Int} : cset (cset c p v) p w = cset c p w := funext fun i => by
  by_cases h : i = p
  · subst h; rw [cset_same, cset_same]
  · rw [cset_ne h, cset_ne h, cset_ne h]
theorem cset_comm {c : Nat → Nat → Int} {p q : Nat} {v w : Nat → Int} (h : p ≠ q) : cset (cset c p v) q w = cset (cset c q w) p v := funext fun i => by
  by_cases h1 : i = p
  · subst h1; rw [cset_ne h, cset_same, cset_same]
  · by_cases h2 : i = q
    · subst h2; rw [cset_same, cset_ne h1, cset_same]
    · rw [cset_ne h2, cset_ne h1, cset_ne h1, cset_ne h2]
theorem skip_cset_same {c : Nat → Nat → Int} {p : Nat} {v : Nat → Int} : skip p (cset c p v) = skip p c := funext fun i => by
  unfold skip
  by_cases h : i < p
  · rw [if_pos h, if_pos h, cset_ne (by omega)]
  · rw [if_neg h, if_neg h, cset_ne (by omega)]
theorem skip_cset_lt {c : Nat → Nat → Int} {j p : Nat} {v : Nat → Int} (h : p < j) : skip j (cset c p v) = cset (skip j c) p v := funext fun i => by
  unfold skip
  by_cases hi : i = p
  · subst hi; rw [if_pos h, cset_same, cset_same]
  · by_cases h2 : i < j
    · rw [if_pos h2, cset_ne hi, cset_ne hi, if_pos h2]
    · rw [if_neg h2, cset_ne (by omega), cset_ne hi, if_neg h2]
theorem skip_cset_gt {c : Nat → Nat → Int} {j p : Nat} {v : Nat → Int} (h : j < p) : skip j (cset c p v) = cset (skip j c) (p - 1) v := funext fun i => by
  unfold skip
  by_cases hi : i = p - 1
  · subst hi; rw [if_neg (by omega), cset_same, show p - 1 + 1 = p by omega, cset_same]
  · rw [cset_ne hi]
    by_cases h2 : i < j
    · rw [if_pos h2, if_pos h2, cset_ne (by omega)]
    · rw [if_neg h2, if_neg h2, cset_ne (by omega)]
/-- the determinant of n columns, over the rows from k on -/
def det : Nat → Nat → (Nat → Nat → Int) → Int
  | 0, _, _ => 1
  | n + 1, k, c => sm (n + 1) (fun j => sgn j * c j k * det n (k + 1) (skip j c))
theorem det_s (n k : Nat) (c : Nat → Nat → Int) : det (n + 1) k c = sm (n + 1) (fun j => sgn j * c j k * det n (k + 1) (skip j c)) := rfl
theorem det_congr {n : Nat} : ∀ {k : Nat} {c c' : Nat → Nat → Int}, (∀ i, i < n → ∀ r, k ≤ r → r < k + n → c i r = c' i r) → det n k c = det n k c' := by
  induction n with
  | zero => intro k c c' _; rfl
  | succ n ih =>
    intro k c c' h
    rw [det_s, det_s]
    refine sm_congr (fun j hj => ?_)
    rw [h j hj k (by omega) (by omega)]
    congr 1
    refine ih (fun i hi r h1 h2 => ?_)
    unfold skip
    by_cases e : i < j
    · rw [if_pos e, if_pos e]; exact h i (by omega) r (by omega) (by omega)
    · rw [if_neg e, if_neg e]; exact h (i + 1) (by omega) r (by omega) (by omega)
theorem det_lin {n : Nat} : ∀ {k p : Nat} {c : Nat → Nat → Int} {a b : Int} {x y : Nat → Int}, p < n → det n k (cset c p (fun r => a * x r + b * y r)) = a * det n k (cset c p x) + b * det n k (cset c p y) := by
  induction n with
  | zero => intro k p c a b x y h; omega
  | succ n ih =>
    intro k p c a b x y hp
    rw [det_s, det_s, det_s, ← sm_mul, ← sm_mul, ← sm_add]
    refine sm_congr (fun j hj => ?_)
    by_cases e : j = p
    · subst e
      rw [skip_cset_same, skip_cset_same, skip_cset_same, cset_same, cset_same, cset_same]
      generalize det n (k + 1) (skip j c) = d
      generalize sgn j = s
      generalize x k = u
      generalize y k = v
      rw [Int.mul_add, Int.add_mul]
      congr 1
      · rw [Int.mul_left_comm s a u, Int.mul_assoc]
      · rw [Int.mul_left_comm s b v, Int.mul_assoc]
    · rw [cset_ne e, cset_ne e, cset_ne e]
      rcases Nat.lt_or_gt_of_ne e with h | h
      · rw [skip_cset_gt h, skip_cset_gt h, skip_cset_gt h, ih (by omega)]
        rw [Int.mul_add, Int.mul_left_comm, Int.mul_left_comm (sgn j * c j k) b]
      · rw [skip_cset_lt h, skip_cset_lt h, skip_cset_lt h, ih (by omega)]
        rw [Int.mul_add, Int.mul_left_comm, Int.mul_left_comm (sgn j * c j k) b]
theorem det_adj {n : Nat} : ∀ {k p : Nat} {c : Nat → Nat → Int}, p + 1 < n → c p = c (p + 1) → det n k c = 0 := by
  induction n with
  | zero => intro k p c h _; omega
  | succ n ih =>
    intro k p c hp he
    rw [det_s, sm_two p hp]
    · have hs : skip p c = skip (p + 1) c := funext fun i => by
        unfold skip
        by_cases h1 : i < p
        · rw [if_pos h1, if_pos (by omega)]
        · by_cases h2 : i = p
          · subst h2; rw [if_neg (by omega), if_pos (by omega)]; exact he.symm
          · rw [if_neg h1, if_neg (by omega)]
      rw [hs, sgn_succ, he, Int.neg_mul, Int.neg_mul]
      omega
    · intro j hj h1 h2
      have hz : det n (k + 1) (skip j c) = 0 := by
        rcases Nat.lt_or_ge j p with h | h
        · refine ih (p := p - 1) (by omega) ?_
          unfold skip
          rw [if_neg (by omega), if_neg (by omega), show p - 1 + 1 = p by omega]
          exact he
        · refine ih (p := p) (by omega) ?_
          unfold skip
          rw [if_pos (by omega), if_pos (by omega)]
          exact he
      rw [hz, Int.mul_zero]
theorem det_add {n k p : Nat} {c : Nat → Nat → Int} {x y : Nat → Int} (hp : p < n) : det n k (cset c p (fun r => x r + y r)) = det n k (cset c p x) + det n k (cset c p y) := by
  have h := det_lin (k := k) (c := c) (a := 1) (b := 1) (x := x) (y := y) hp
  rw [Int.one_mul, Int.one_mul] at h
  rw [← h]
  congr 2
  funext r
  rw [Int.one_mul, Int.one_mul]
theorem det_swap_adj {n k p : Nat} {c : Nat → Nat → Int} {x y : Nat → Int} (hp : p + 1 < n) : det n k (cset (cset c p x) (p + 1) y) = - det n k (cset (cset c p y) (p + 1) x) := by
  have hz : ∀ v, det n k (cset (cset c p v) (p + 1) v) = 0 := fun v => det_adj hp (by rw [cset_ne (by omega), cset_same, cset_same])
  have h := hz (fun r => x r + y r)
  rw [det_add (by omega), cset_comm (by omega), det_add (by omega), cset_comm (p := p) (q := p + 1) (v := fun r => x r + y r) (by omega), det_add (p := p) (by omega)] at h
  rw [cset_comm (p := p + 1) (q := p) (by omega), cset_comm (p := p + 1) (q := p) (v := x) (w := y) (by omega), cset_comm (p := p + 1) (q := p) (v := y) (w := x) (by omega), cset_comm (p := p + 1) (q := p) (v := y) (w := y) (by omega), hz, hz] at h
  omega
theorem det_same {n k : Nat} : ∀ (t : Nat) {p q : Nat} {c : Nat → Nat → Int}, q = p + 1 + t → q < n → c p = c q → det n k c = 0 := by
  intro t
  induction t with
  | zero => intro p q c e hq he; subst e; exact det_adj hq he
  | succ t ih =>
    intro p q c e hq he
    have h1 : c = cset (cset c (q - 1) (c (q - 1))) (q - 1 + 1) (c q) := by
      rw [cset_self, show q - 1 + 1 = q by omega, cset_self]
    rw [h1, det_swap_adj (by omega)]
    have h2 : det n k (cset (cset c (q - 1) (c q)) (q - 1 + 1) (c (q - 1))) = 0 := by
      refine ih (p := p) (q := q - 1) (by omega) (by omega) ?_
      rw [cset_ne (by omega), cset_ne (by omega), cset_ne (by omega), cset_same]
      exact he
    rw [h2]; rfl
theorem det_eq0 {n k p q : Nat} {c : Nat → Nat → Int} (hp : p < n) (hq : q < n) (hne : p ≠ q) (he : c p = c q) : det n k c = 0 := by
  rcases Nat.lt_or_gt_of_ne hne with h | h
  · exact det_same (q - p - 1) (by omega) hq he
  · exact det_same (p - q - 1) (by omega) hp he.symm
/-- two columns change places: the sign turns -/
theorem det_swap {n k p q : Nat} {c : Nat → Nat → Int} {x y : Nat → Int} (hp : p < n) (hq : q < n) (hne : p ≠ q) : det n k (cset (cset c p x) q y) = - det n k (cset (cset c p y) q x) := by
  have hz : ∀ v, det n k (cset (cset c p v) q v) = 0 := fun v => det_eq0 hp hq hne (by rw [cset_ne hne, cset_same, cset_same])
  have h := hz (fun r => x r + y r)
  rw [det_add hq, cset_comm hne, det_add hp, cset_comm (p := p) (q := q) (v := fun r => x r + y r) hne, det_add hp] at h
  rw [cset_comm (p := q) (q := p) (Ne.symm hne), cset_comm (p := q) (q := p) (v := x) (w := y) (Ne.symm hne), cset_comm (p := q) (q := p) (v := y) (w := x) (Ne.symm hne), cset_comm (p := q) (q := p) (v := y) (w := y) (Ne.symm hne), hz, hz] at h
  omega
/-- a column that is a sum of multiples -/
theorem det_sum {n k p : Nat} {c : Nat → Nat → Int} (hp : p < n) (m : Nat) (a : Nat → Int) (v : Nat → Nat → Int) : det n k (cset c p (fun r => sm m (fun i => a i * v i r))) = sm m (fun i => a i * det n k (cset c p (v i))) := by
  induction m with
  | zero =>
    show det n k (cset c p (fun _ => 0)) = 0
    have h := det_lin (k := k) (c := c) (a := 0) (b := 0) (x := fun _ => 0) (y := fun _ => 0) hp
    rw [Int.zero_mul, Int.zero_mul] at h
    exact h
  | succ m ih =>
    show det n k (cset c p (fun r => sm m (fun i => a i * v i r) + a m * v m r)) = sm m (fun i => a i * det n k (cset c p (v i))) + a m * det n k (cset c p (v m))
    rw [← ih]
    have h := det_lin (k := k) (c := c) (a := 1) (b := a m) (x := fun r => sm m (fun i => a i * v i r)) (y := v m) hp
    rw [Int.one_mul] at h
    rw [← h]
    congr 2
    funext r
    rw [Int.one_mul]
theorem det_scale {n k p : Nat} {c : Nat → Nat → Int} (hp : p < n) (a : Int) (v : Nat → Int) : det n k (cset c p (fun r => a * v r)) = a * det n k (cset c p v) := by
  have h := det_lin (k := k) (c := c) (a := a) (b := 0) (x := v) (y := v) hp
  rw [Int.zero_mul, Int.add_zero] at h
  rw [← h]
  congr 2
  funext r
  rw [Int.zero_mul, Int.add_zero]
/-- the columns of the unit -/
def eye : Nat → Nat → Int := fun i r => if i = r then 1 else 0
theorem det_eye {n : Nat} : ∀ {k : Nat} {c : Nat → Nat → Int}, (∀ i, i < n → ∀ r, k ≤ r → r < k + n → c i r = if k + i = r then 1 else 0) → det n k c = 1 := by
  induction n with
  | zero => intro k c _; rfl
  | succ n ih =>
    intro k c h
    rw [det_s, sm_one 0 (by omega)]
    · rw [h 0 (by omega) k (by omega) (by omega), if_pos (Nat.add_zero k), ih]
      · rfl
      · intro i hi r h1 h2
        unfold skip
        rw [if_neg (by omega), h (i + 1) (by omega) r (by omega) (by omega), show k + (i + 1) = k + 1 + i by omega]
    · intro j hj hne
      rw [h j hj k (by omega) (by omega), if_neg (by omega), Int.mul_zero, Int.zero_mul]
/-! how great a determinant can be -/
def pr : Nat → (Nat → Nat) → Nat
  | 0, _ => 1
  | n + 1, f => f 0 * pr n (fun i => f (i + 1))
def smn : Nat → (Nat → Nat) → Nat
  | 0, _ => 0
  | n + 1, f => smn n f + f n
theorem smn_le {n : Nat} {f g : Nat → Nat} (h : ∀ i, i < n → f i ≤ g i) : smn n f ≤ smn n g := by
  induction n with
  | zero => exact Nat.le_refl 0
  | succ n ih => exact Nat.add_le_add (ih (fun i hi => h i (by omega))) (h n (by omega))
theorem smn_skip {n : Nat} (f : Nat → Nat) (j : Nat) (hj : j < n + 1) : smn n (fun i => if i < j then f i else f (i + 1)) ≤ smn (n + 1) f := by
  induction n generalizing j with
  | zero => exact Nat.zero_le _
  | succ n ih =>
    show smn n (fun i => if i < j then f i else f (i + 1)) + (if n < j then f n else f (n + 1)) ≤ smn (n + 1) f + f (n + 1)
    by_cases e : j = n + 1
    · subst e
      rw [if_pos (by omega)]
      have h1 : smn n (fun i => if i < n + 1 then f i else f (i + 1)) ≤ smn n f := smn_le (fun i hi => by rw [if_pos (by omega)]; exact Nat.le_refl _)
      show _ ≤ (smn n f + f n) + f (n + 1)
      omega
    · rw [if_neg (by omega)]
      have := ih j (by omega)
      omega
theorem sm_abs_le {n : Nat} {f : Nat → Int} {g : Nat → Nat} (h : ∀ i, i < n → (f i).natAbs ≤ g i) : (sm n f).natAbs ≤ smn n g := by
  induction n with
  | zero => exact Nat.le_refl 0
  | succ n ih =>
    have h1 := ih (fun i hi => h i (by omega))
    have h2 := h n (by omega)
    show (sm n f + f n).natAbs ≤ smn n g + g n
    omega
theorem smn_mul (n a : Nat) (f : Nat → Nat) : smn n (fun i => f i * a) = smn n f * a := by
  induction n with
  | zero => exact (Nat.zero_mul a).symm
  | succ n ih =>
    show smn n (fun i => f i * a) + f n * a = (smn n f + f n) * a
    rw [ih, Nat.add_mul]
theorem pr_le {n : Nat} : ∀ {f g : Nat → Nat}, (∀ i, i < n → f i ≤ g i) → pr n f ≤ pr n g := by
  induction n with
  | zero => intro f g _; exact Nat.le_refl 1
  | succ n ih => intro f g h; exact Nat.mul_le_mul (h 0 (by omega)) (ih (fun i hi => h (i + 1) (by omega)))
theorem sgn_abs (j : Nat) : (sgn j).natAbs = 1 := by
  unfold sgn
  split <;> rfl
/-- the first q rows by the sums of their numbers, the rest by what is known of it -/
theorem det_bound (q t E : Nat) : ∀ {k : Nat} {c : Nat → Nat → Int}, (∀ (c' : Nat → Nat → Int), (∀ i, i < t → ∃ i', i' < q + t ∧ c' i = c i') → (det t (k + q) c').natAbs ≤ E) →
    (det (q + t) k c).natAbs ≤ pr q (fun r => smn (q + t) (fun j => (c j (k + r)).natAbs)) * E := by
  induction q with
  | zero =>
    intro k c h
    rw [Nat.zero_add]
    show (det t k c).natAbs ≤ 1 * E
    rw [Nat.one_mul]
    exact h c (fun i hi => ⟨i, by omega, rfl⟩)
  | succ q ih =>
    intro k c h
    rw [show q + 1 + t = (q + t) + 1 by omega, det_s]
    show _ ≤ smn (q + t + 1) (fun j => (c j (k + 0)).natAbs) * pr q (fun r => smn (q + t + 1) (fun j => (c j (k + (r + 1))).natAbs)) * E
    rw [Nat.mul_assoc, ← smn_mul]
    refine sm_abs_le (fun j hj => ?_)
    rw [Int.natAbs_mul, Int.natAbs_mul, sgn_abs, Nat.one_mul]
    refine Nat.mul_le_mul (Nat.le_refl _) (Nat.le_trans (ih (k := k + 1) (c := skip j c) ?_) (Nat.mul_le_mul (pr_le (fun r hr => ?_)) (Nat.le_refl E)))
    · intro c' hc'
      rw [show k + 1 + q = k + (q + 1) by omega]
      refine h c' (fun i hi => ?_)
      obtain ⟨i', h1, h2⟩ := hc' i hi
      by_cases e : i' < j
      · exact ⟨i', by omega, by rw [h2]; unfold skip; rw [if_pos e]⟩
      · exact ⟨i' + 1, by omega, by rw [h2]; unfold skip; rw [if_neg e]⟩
    · have h2 := smn_skip (n := q + t) (fun i => (c i (k + (r + 1))).natAbs) j hj
      refine Nat.le_trans (Nat.le_of_eq ?_) h2
      congr 1
      funext i
      unfold skip
      rw [show k + 1 + r = k + (r + 1) by omega]
      split <;> rfl
