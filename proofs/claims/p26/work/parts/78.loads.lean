/-! loads of a plan -/
def tN (ti : Nat → Int32) : Nat → Nat := fun c => (tmI ti c).toNat
theorem tN_le {n : Nat} {ti : Nat → Int32} (h : JI n ti) {c : Nat} (hc : c < 3 * n) : tN ti c ≤ 50 ∧ ti c = nI (tN ti c) ∧ tmI ti c = tN ti c := by
  have h1 := h.tm hc
  refine ⟨by unfold tN; omega, h.eq hc, by unfold tN; omega⟩
def ldN (n : Nat) (t g : Nat → Nat) (i : Nat) : Nat := smn n (fun j => if g j = i then t (3 * j + i) else 0)
def lenN (n : Nat) (t g : Nat → Nat) : Nat := max (max (ldN n t g 0) (ldN n t g 1)) (ldN n t g 2)
theorem smn_congr {n : Nat} {f g : Nat → Nat} (h : ∀ i, i < n → f i = g i) : smn n f = smn n g := by
  induction n with
  | zero => rfl
  | succ n ih =>
    show smn n f + f n = smn n g + g n
    rw [ih (fun i hi => h i (by omega)), h n (by omega)]
theorem ldN_congr {n : Nat} {t g h : Nat → Nat} {i : Nat} (e : ∀ j, j < n → g j = h j) : ldN n t g i = ldN n t h i := smn_congr (fun j hj => by rw [e j hj])
theorem lenN_congr {n : Nat} {t g h : Nat → Nat} (e : ∀ j, j < n → g j = h j) : lenN n t g = lenN n t h := by
  unfold lenN
  rw [ldN_congr e, ldN_congr e, ldN_congr e]
theorem ldN_le {n : Nat} {ti : Nat → Int32} (h : JI n ti) {g : Nat → Nat} {i k : Nat} (hk : k ≤ n) (hi : i < 3) : ldN k (tN ti) g i ≤ k * 50 := smn_const_le (fun j hj => by
  have := (tN_le h (show 3 * j + i < 3 * n by omega)).1
  split <;> omega)
theorem lenN_le {n : Nat} {ti : Nat → Int32} (h : JI n ti) {g : Nat → Nat} : lenN n (tN ti) g ≤ 350 := by
  have hn := h.1
  have h0 := ldN_le h (g := g) (i := 0) (Nat.le_refl n) (by omega)
  have h1 := ldN_le h (g := g) (i := 1) (Nat.le_refl n) (by omega)
  have h2 := ldN_le h (g := g) (i := 2) (Nat.le_refl n) (by omega)
  unfold lenN
  omega
/-- a plan in a row of n jobs -/
def PL (n : Nat) (p : Nat → Int32) (g : Nat → Nat) : Prop := ∀ j, j < n → p j = nI (g j) ∧ g j < 3
theorem loadOn_spec {N n i : Nat} {ti pa : Nat → Int32} {g : Nat → Nat} {Q : Int32 → Prop} (hN : 100 ≤ N) (hJ : JI n ti) (hp : PL n pa g) (hi : i < 3) (hQ : Q (nI (ldN n (tN ti) g i))) : p_X1_loadOn N pa ti (nI n) Q (nI i) := by
  have hn := hJ.1
  have loop : ∀ (f k : Nat) (x3 : Int32), k ≤ n → n < f + k → x3 = nI (ldN k (tN ti) g i) → p_X1_loadOn_5 N pa ti (nI n) Q f (nI i) x3 (nI k) := by
    intro f
    induction f with
    | zero => intro k x3 h1 h2; omega
    | succ f ih =>
      intro k x3 h1 h2 e3
      unfold p_X1_loadOn_5
      refine ⟨fun h => ?_, fun h => ⟨fun h7 => ?_, fun _ => ?_⟩⟩
      · have := (nI_leI (by omega) (by omega)).mp h
        have ek : k = n := by omega
        subst ek
        rw [e3]; exact hQ
      · have := (nI_leI (a := 7) (b := k) (by omega) (by omega)).mp (by rw [show nI 7 = (7 : Int32) from by decide]; exact h7)
        exact absurd (nI_le (show n ≤ k by omega) (by omega)) h
      · have hk : k < n := by
          rcases Nat.lt_or_ge k n with h' | h'
          · exact h'
          · exact absurd (nI_le h' (by omega)) h
        obtain ⟨e, hg⟩ := hp k hk
        rw [nI_clamp (show k < 2 ^ 31 by omega), e]
        have hl : ldN (k + 1) (tN ti) g i = ldN k (tN ti) g i + if g k = i then tN ti (3 * k + i) else 0 := rfl
        refine ⟨vp_in_nI (by omega) (by decide), fun eq => ?_, fun ne x ex => ?_⟩
        · have eq' := nI_inj (by omega) (by omega) eq
          refine timeOn_spec hn hk hi (fun y ey x ex => ?_)
          rw [ex, nI_1]
          refine ih (k + 1) y (by omega) (by omega) ?_
          rw [ey, e3, (tN_le hJ (show 3 * k + i < 3 * n by omega)).2.1, nI_add, hl, if_pos eq']
        · rw [ex, nI_1]
          refine ih (k + 1) x3 (by omega) (by omega) ?_
          rw [e3, hl, if_neg (fun q => ne (by rw [q])), Nat.add_zero]
  unfold p_X1_loadOn
  rw [← nI_0]
  exact loop N 0 (nI 0) (by omega) (by omega) rfl
theorem nI_max {a b : Nat} (ha : a < 2 ^ 31) (hb : b < 2 ^ 31) : (if nI a < nI b then nI b else nI a) = nI (max a b) := by
  by_cases h : nI a < nI b
  · have := (nI_ltI ha hb).mp h
    rw [if_pos h]; congr 1; omega
  · have : ¬ a < b := fun q => h (nI_lt q hb)
    rw [if_neg h]; congr 1; omega
theorem nI_min {a b : Nat} (ha : a < 2 ^ 31) (hb : b < 2 ^ 31) : (if nI b < nI a then nI b else nI a) = nI (min a b) := by
  by_cases h : nI b < nI a
  · have := (nI_ltI hb ha).mp h
    rw [if_pos h]; congr 1; omega
  · have : ¬ b < a := fun q => h (nI_lt q ha)
    rw [if_neg h]; congr 1; omega
theorem greatestLoad_spec {N n : Nat} {ti pa : Nat → Int32} {g : Nat → Nat} {Q : Int32 → Prop} (hN : 100 ≤ N) (hJ : JI n ti) (hp : PL n pa g) (hQ : Q (nI (lenN n (tN ti) g))) : p_X1_greatestLoad N pa ti (nI n) Q := by
  have hn := hJ.1
  have h0 := ldN_le hJ (g := g) (i := 0) (Nat.le_refl n) (by omega)
  have h1 := ldN_le hJ (g := g) (i := 1) (Nat.le_refl n) (by omega)
  have h2 := ldN_le hJ (g := g) (i := 2) (Nat.le_refl n) (by omega)
  unfold p_X1_greatestLoad
  rw [← nI_0, show (1 : Int32) = nI 1 from by decide, show (2 : Int32) = nI 2 from by decide]
  refine loadOn_spec hN hJ hp (by omega) (loadOn_spec hN hJ hp (by omega) (fun v3 e3 => loadOn_spec hN hJ hp (by omega) (fun v5 e5 => ?_)))
  rw [nI_max (by omega) (by omega)] at e3
  subst e3
  rw [nI_max (by omega) (by omega)] at e5
  rw [e5]; exact hQ
/-- the loads of a plan as one number -/
def mnN (n : Nat) (t g : Nat → Nat) : Nat := min (min (ldN n t g 0) (ldN n t g 1)) (ldN n t g 2)
def rkN (n : Nat) (t g : Nat → Nat) : Nat := 1000000 * lenN n t g + 1000 * (ldN n t g 0 + ldN n t g 1 + ldN n t g 2 - lenN n t g - mnN n t g) + mnN n t g
theorem rkN_congr {n : Nat} {t g h : Nat → Nat} (e : ∀ j, j < n → g j = h j) : rkN n t g = rkN n t h := by
  unfold rkN mnN
  rw [lenN_congr e, ldN_congr e, ldN_congr e, ldN_congr e]
theorem rkN_lt {n : Nat} {ti : Nat → Int32} (h : JI n ti) {g : Nat → Nat} : rkN n (tN ti) g < 2 ^ 30 := by
  have h0 := ldN_le h (g := g) (i := 0) (Nat.le_refl n) (by omega)
  have h1 := ldN_le h (g := g) (i := 1) (Nat.le_refl n) (by omega)
  have h2 := ldN_le h (g := g) (i := 2) (Nat.le_refl n) (by omega)
  have h3 := lenN_le h (g := g)
  have hn := h.1
  have h4 : mnN n (tN ti) g ≤ 350 := by unfold mnN; omega
  unfold rkN
  omega
theorem rank_spec {N n : Nat} {ti oma : Nat → Int32} {g : Nat → Nat} {Q : Int32 → Prop} (hN : 100 ≤ N) (hJ : JI n ti) (hp : PL n oma g) (hQ : Q (nI (rkN n (tN ti) g))) : p_X2_rank N ti (nI n) oma Q := by
  have hn := hJ.1
  have h0 := ldN_le hJ (g := g) (i := 0) (Nat.le_refl n) (by omega)
  have h1 := ldN_le hJ (g := g) (i := 1) (Nat.le_refl n) (by omega)
  have h2 := ldN_le hJ (g := g) (i := 2) (Nat.le_refl n) (by omega)
  unfold p_X2_rank
  rw [← nI_0, show (1 : Int32) = nI 1 from by decide, show (2 : Int32) = nI 2 from by decide]
  refine loadOn_spec hN hJ hp (by omega) (loadOn_spec hN hJ hp (by omega) (loadOn_spec hN hJ hp (by omega) (fun v4 e4 v5 e5 v6 e6 v7 e7 x7 ex7 => ?_)))
  rw [nI_max (by omega) (by omega)] at e4
  subst e4
  rw [nI_max (by omega) (by omega)] at e5
  rw [nI_min (by omega) (by omega)] at e6
  subst e6
  rw [nI_min (by omega) (by omega)] at e7
  have e5' : v5 = nI (lenN n (tN ti) g) := e5
  have e7' : v7 = nI (mnN n (tN ti) g) := e7
  rw [e5', e7', nI_add, nI_add, pk_sub (by unfold lenN; omega), pk_sub (by unfold lenN mnN; omega)] at ex7
  rw [ex7, e5', e7', show (1000 : Int32) = nI 1000 from by decide, pk_mul, nI_add, pk_mul, nI_add]
  have e9 : (lenN n (tN ti) g * 1000 + (ldN n (tN ti) g 0 + ldN n (tN ti) g 1 + ldN n (tN ti) g 2 - lenN n (tN ti) g - mnN n (tN ti) g)) * 1000 + mnN n (tN ti) g = rkN n (tN ti) g := by
    unfold rkN
    omega
  rw [e9]; exact hQ