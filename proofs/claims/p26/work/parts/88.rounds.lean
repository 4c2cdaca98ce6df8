/-! the rounded plan: the reference -/
theorem wmI_spec {n j : Nat} {num den : Nat → Nat} (hR : RP n num den) (hj : j < n) {i : Nat} (hi : i < 3) (h : num (3 * j + i) = den (3 * j + i)) : wmN num den j = i := wmN_at hi (fun k hk e => by
  have := hR.2.2.1 j hj k i (by omega) hi e h
  omega) h
/-- the jobs before k do not stand in each other's way -/
def OKk (num den g : Nat → Nat) (k : Nat) : Prop := (∀ j, j < k → wmN num den j = 3 → 0 < num (3 * j + g j)) ∧ ∀ i j, i < j → j < k → wmN num den i = 3 → wmN num den j = 3 → g i ≠ g j
def GC (n : Nat) (num den g : Nat → Nat) : Prop := ∀ j, j < n → g j < 3 ∧ (wmN num den j < 3 → g j = wmN num den j)
theorem MT_iff {n : Nat} {num den g : Nat → Nat} (hg : GC n num den g) : MT n num den g ↔ OKk num den g n :=
  ⟨fun h => ⟨fun j hj => (h.1 j hj).2.2, h.2⟩, fun h => ⟨fun j hj => ⟨(hg j hj).1, (hg j hj).2, h.1 j hj⟩, h.2⟩⟩
theorem wmI_neg {num den : Nat → Nat} {j : Nat} (h : wmN num den j = 3) : ¬ (0 : Int32) ≤ wmI num den j := by
  unfold wmI
  rw [if_pos h]
  decide
theorem wmI_pos {num den : Nat → Nat} {j : Nat} (h : ¬ wmN num den j = 3) : (0 : Int32) ≤ wmI num den j ∧ wmI num den j = nI (wmN num den j) := by
  have := wmN_le (num := num) (den := den) (j := j)
  unfold wmI
  rw [if_neg h]
  exact ⟨nI_nneg (by omega), rfl⟩
theorem lN_pos {a : Nat} (h : a < 2 ^ 63) : lN a ≤ (0 : Int64) ↔ a = 0 := by
  rw [i64_le0, pk_lT h]
  omega
def dvN (num den : Nat → Nat) : Nat → Bool := fun j => decide (wmN num den j = 3)
theorem allv_le {dv : Nat → Bool} : ∀ {k : Nat}, 1 ≤ allv dv k ∧ allv dv k ≤ allv dvT k := by
  intro k
  induction k with
  | zero => exact ⟨Nat.le_refl _, Nat.le_refl _⟩
  | succ k ih =>
    rw [allvT_succ]
    show 1 ≤ (if dv k = true then allv dv k * 3 else allv dv k) ∧ (if dv k = true then allv dv k * 3 else allv dv k) ≤ allv dvT k * 3
    split <;> omega
theorem RD_of {n : Nat} {num den g : Nat → Nat} (hg : MT n num den g) (h : ∀ h, MT n num den h → cdv (dvN num den) n g ≤ cdv (dvN num den) n h) : RD n num den g := by
  refine ⟨hg, fun k hk => ?_⟩
  have nd : ∀ j, j < n → ¬ dvN num den j = true → g j = k j := fun j hj q => by
    have q' : ¬ wmN num den j = 3 := fun e => q (decide_eq_true e)
    have := wmN_le (num := num) (den := den) (j := j)
    rw [(hg.1 j hj).2.1 (by omega), (hk.1 j hj).2.1 (by omega)]
  rcases cdv_lex (fun j hj _ => (hg.1 j hj).1) (fun j hj _ => (hk.1 j hj).1) (h k hk) with q | ⟨j, hj, -, q1, q2⟩
  · refine Or.inl (fun j hj => ?_)
    by_cases e : dvN num den j = true
    · exact q j hj e
    · exact nd j hj e
  · refine Or.inr ⟨j, hj, fun i hi => ?_, q2⟩
    by_cases e : dvN num den i = true
    · exact q1 i hi e
    · exact nd i (by omega) e