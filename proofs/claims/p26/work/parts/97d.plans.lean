/-! the law's plans -/
theorem smn_ge {n : Nat} {f : Nat → Nat} {j : Nat} (hj : j < n) : f j ≤ smn n f := by
  induction n with
  | zero => omega
  | succ n ih =>
    show f j ≤ smn n f + f n
    rcases Nat.lt_or_ge j n with q | q
    · have := ih q; omega
    · rw [show j = n by omega]; omega
theorem ldN_le_len {n : Nat} {t g : Nat → Nat} {i : Nat} (hi : i < 3) : ldN n t g i ≤ lenN n t g := by
  unfold lenN
  rcases (show i = 0 ∨ i = 1 ∨ i = 2 by omega) with e | e | e <;> subst e <;> omega
/-- a whole plan keeps its length -/
theorem Keep_plan {n : Nat} {ti : Nat → Int32} {f : Nat → Nat} (hJ : JI n ti) (hf : feas n (tN ti) f) : Keep n (tmI ti) (lenN n (tN ti) f) := by
  have hx : ∀ j i, j < n → i < 3 → (if (3 * j + i) % 3 = f ((3 * j + i) / 3) then (1 : Int) else 0) = if i = f j then 1 else 0 := fun j i hj hi => by
    rw [show (3 * j + i) % 3 = i by omega, show (3 * j + i) / 3 = j by omega]
  refine ⟨fun c => if c % 3 = f (c / 3) then 1 else 0, 1, by decide, fun c _ => ?_, fun c hc ho => ?_, fun j hj => ?_, fun i hi => ?_⟩
  · show (0 : Int) ≤ if c % 3 = f (c / 3) then 1 else 0
    split <;> decide
  · show (if c % 3 = f (c / 3) then (1 : Int) else 0) = 0
    by_cases e : c % 3 = f (c / 3)
    · exfalso
      obtain ⟨h1, h2⟩ := hf (c / 3) (by omega)
      rw [← e, show 3 * (c / 3) + c % 3 = c by omega] at h2
      have h3 : (fun j => if f j = c % 3 then tN ti (3 * j + c % 3) else 0) (c / 3) ≤ ldN n (tN ti) f (c % 3) := smn_ge (f := fun j => if f j = c % 3 then tN ti (3 * j + c % 3) else 0) (by omega)
      have h4 : (if f (c / 3) = c % 3 then tN ti (3 * (c / 3) + c % 3) else 0) ≤ ldN n (tN ti) f (c % 3) := h3
      rw [if_pos e.symm, show 3 * (c / 3) + c % 3 = c by omega] at h4
      have h5 := ldN_le_len (n := n) (t := tN ti) (g := f) (show c % 3 < 3 by omega)
      have h6 := (tN_le hJ hc).2.2
      exact ho ⟨by omega, by omega⟩
    · exact if_neg e
  · show (if (3 * j) % 3 = f ((3 * j) / 3) then (1 : Int) else 0) + (if (3 * j + 1) % 3 = f ((3 * j + 1) / 3) then 1 else 0) + (if (3 * j + 2) % 3 = f ((3 * j + 2) / 3) then 1 else 0) = 1
    have h1 := (hf j hj).1
    rw [show (3 * j) % 3 = 0 by omega, show (3 * j) / 3 = j by omega, hx j 1 hj (by omega), hx j 2 hj (by omega)]
    rcases (show f j = 0 ∨ f j = 1 ∨ f j = 2 by omega) with e | e | e <;> rw [e] <;> decide
  · show sm n (fun j => tmI ti (3 * j + i) * (if (3 * j + i) % 3 = f ((3 * j + i) / 3) then 1 else 0)) ≤ (lenN n (tN ti) f : Int) * 1
    rw [sm_cast (a := fun j => if f j = i then tN ti (3 * j + i) else 0) (fun j hj => by
      rw [hx j i hj hi, (tN_le hJ (show 3 * j + i < 3 * n by omega)).2.2]
      by_cases e : f j = i
      · rw [if_pos e.symm, if_pos e, Int.mul_one]
      · rw [if_neg (fun z => e z.symm), if_neg e, Int.mul_zero]; rfl)]
    have : smn n (fun j => if f j = i then tN ti (3 * j + i) else 0) ≤ lenN n (tN ti) f := ldN_le_len hi
    omega
theorem bound_le {n : Nat} {ti : Nat → Int32} {f : Nat → Nat} (hJ : JI n ti) (hdf : DF n ti) (hf : feas n (tN ti) f) : tB n ti ≤ lenN n (tN ti) f := by
  obtain ⟨⟨T, v, d, hB, -⟩, -, -⟩ := hdf
  have hT := tB_of hB
  rw [hT] at hB
  rcases Nat.lt_or_ge (lenN n (tN ti) f) (tB n ti) with q | q
  · exact absurd (Keep_plan hJ hf) (hB.2.2 _ q)
  · exact q
/-- the rounded plan is at most twice as long as the bound -/
theorem rounded_le {n : Nat} {ti : Nat → Int32} (hJ : JI n ti) (hdf : DF n ti) : lenN n (tN ti) (rD n ti) ≤ 2 * tB n ti := by
  obtain ⟨v, d, h⟩ := hdf.dp hJ
  have hM := hdf.2.1.1
  have hd := h.1
  have one : ∀ i, i < 3 → ldN n (tN ti) (rD n ti) i ≤ 2 * tB n ti := fun i hi => by
    have hs : ldN n (tN ti) (rD n ti) i = smn n (fun j => if wmN (sH n ti).1 (sH n ti).2 j ≠ 3 ∧ rD n ti j = i then tN ti (3 * j + i) else 0) + smn n (fun j => if wmN (sH n ti).1 (sH n ti).2 j = 3 ∧ rD n ti j = i then tN ti (3 * j + i) else 0) := by
      rw [← smn_add]
      refine smn_congr (fun j hj => ?_)
      by_cases e : rD n ti j = i
      · by_cases w : wmN (sH n ti).1 (sH n ti).2 j = 3
        · rw [if_pos e, if_neg (fun z => z.1 w), if_pos ⟨w, e⟩, Nat.zero_add]
        · rw [if_pos e, if_pos ⟨w, e⟩, if_neg (fun z => w z.1), Nat.add_zero]
      · rw [if_neg e, if_neg (fun z => e z.2), if_neg (fun z => e z.2)]
    have h1 : smn n (fun j => if wmN (sH n ti).1 (sH n ti).2 j ≠ 3 ∧ rD n ti j = i then tN ti (3 * j + i) else 0) ≤ tB n ti := by
      refine Nat.le_of_mul_le_mul_right ?_ hd
      rw [← smn_mul]
      refine Nat.le_trans (smn_le (fun j hj => ?_)) (h.2.2.2.2.2.1 i hi)
      show (if wmN (sH n ti).1 (sH n ti).2 j ≠ 3 ∧ rD n ti j = i then tN ti (3 * j + i) else 0) * d ≤ tN ti (3 * j + i) * v (3 * j + i)
      by_cases e : wmN (sH n ti).1 (sH n ti).2 j ≠ 3 ∧ rD n ti j = i
      · rw [if_pos e]
        have hwle := wmN_le (num := (sH n ti).1) (den := (sH n ti).2) (j := j)
        have e0 := e.1
        have e2 := (hM.1 j hj).2.1 (by omega)
        have e3 := wmN_num (show wmN (sH n ti).1 (sH n ti).2 j < 3 by omega)
        rw [← e2, e.2] at e3
        rw [((h.whole (show 3 * j + i < 3 * n by omega)).1.mp e3)]
        exact Nat.le_refl _
      · rw [if_neg e, Nat.zero_mul]; exact Nat.zero_le _
    have h2 : smn n (fun j => if wmN (sH n ti).1 (sH n ti).2 j = 3 ∧ rD n ti j = i then tN ti (3 * j + i) else 0) ≤ tB n ti := by
      refine smn_one (fun j hj => ?_) (fun j k hjk hk => ?_)
      · show (if wmN (sH n ti).1 (sH n ti).2 j = 3 ∧ rD n ti j = i then tN ti (3 * j + i) else 0) ≤ tB n ti
        by_cases e : wmN (sH n ti).1 (sH n ti).2 j = 3 ∧ rD n ti j = i
        · rw [if_pos e]
          have h3 := (hM.1 j hj).2.2 e.1
          rw [e.2] at h3
          exact ((h.cell (show 3 * j + i < 3 * n by omega)).2.2.2.2.2 h3).2
        · rw [if_neg e]; exact Nat.zero_le _
      · show (if wmN (sH n ti).1 (sH n ti).2 j = 3 ∧ rD n ti j = i then tN ti (3 * j + i) else 0) = 0 ∨ (if wmN (sH n ti).1 (sH n ti).2 k = 3 ∧ rD n ti k = i then tN ti (3 * k + i) else 0) = 0
        by_cases e1 : wmN (sH n ti).1 (sH n ti).2 j = 3 ∧ rD n ti j = i
        · by_cases e2 : wmN (sH n ti).1 (sH n ti).2 k = 3 ∧ rD n ti k = i
          · exact absurd (e1.2.trans e2.2.symm) (hM.2 j k hjk hk e1.1 e2.1)
          · exact Or.inr (if_neg e2)
        · exact Or.inl (if_neg e1)
    omega
  have a0 := one 0 (by omega)
  have a1 := one 1 (by omega)
  have a2 := one 2 (by omega)
  unfold lenN
  omega
/-- what the law has behind its whole numbers -/
def KP (n : Nat) (ti : Nat → Int32) (x1 x3 : Int32) : Prop := x1 = nI (bP n ti).2 ∧ x3 = nI (lenN n (tN ti) (rD n ti)) ∧ SF n ti ∧ DF n ti
/-- the greatest load of the first machines -/
def mxl (n : Nat) (t g : Nat → Nat) : Nat → Nat
  | 0 => 0
  | i + 1 => max (mxl n t g i) (ldN n t g i)
theorem mxl_3 {n : Nat} {t g : Nat → Nat} : mxl n t g 3 = lenN n t g := by
  show max (max (max 0 (ldN n t g 0)) (ldN n t g 1)) (ldN n t g 2) = max (max (ldN n t g 0) (ldN n t g 1)) (ldN n t g 2)
  omega
theorem mxl_le {n : Nat} {ti : Nat → Int32} {g : Nat → Nat} (hJ : JI n ti) : ∀ {i : Nat}, i ≤ 3 → mxl n (tN ti) g i ≤ 350 := by
  intro i
  induction i with
  | zero => intro _; exact Nat.zero_le _
  | succ i ih =>
    intro hi
    have h1 := ih (by omega)
    have h2 := ldN_le hJ (g := g) (i := i) (Nat.le_refl n) (by omega)
    have hn := hJ.1
    show max (mxl n (tN ti) g i) (ldN n (tN ti) g i) ≤ 350
    omega
theorem ldN_succ {k i : Nat} {t g : Nat → Nat} : ldN (k + 1) t g i = ldN k t g i + if g k = i then t (3 * k + i) else 0 := rfl
section
variable {N n : Nat} {ti : Nat → Int32} {g : Nat → Nat} {Q : Int32 → Prop}
theorem len_pos {f : Nat → Nat} (hf : feas n (tN ti) f) (h0 : 0 < n) : 0 < lenN n (tN ti) f := by
  obtain ⟨h1, h2⟩ := hf 0 h0
  have h3 : (if f 0 = f 0 then tN ti (3 * 0 + f 0) else 0) ≤ ldN n (tN ti) f (f 0) := smn_ge (f := fun j => if f j = f 0 then tN ti (3 * j + f 0) else 0) h0
  rw [if_pos rfl] at h3
  have := ldN_le_len (n := n) (t := tN ti) (g := f) h1
  omega
theorem pl265 {K333 : Int32 → Int32 → Prop} (hG : Good n ti g) (hSF : SF n ti) (hK : DF n ti → K333 (nI (bP n ti).2) (nI (lenN n (tN ti) (rD n ti)))) :
    p_L_plans_265 N n ti g Q K333 (nI (bP n ti).2) (nI (lenN n (tN ti) (bP n ti).1)) (nI (lenN n (tN ti) (rD n ti))) (nI (lenN n (tN ti) g)) 1 := by
  have hJ := hG.1
  obtain ⟨hL, hB⟩ := hSF
  have e1 := hB.2.1
  unfold p_L_plans_265
  refine ⟨fun q => absurd q (by decide), fun _ => ⟨fun _ r3 e3 => ⟨fun _ r5 e5 => ⟨fun _ => ?_, fun q => absurd e5.symm q⟩, fun q => absurd e3.1.symm q⟩, fun q => absurd (by rw [e1]) q⟩⟩
  have hdf := e3.2
  have hrf : feas n (tN ti) (rD n ti) := RD.feas hJ hdf.1 hdf.2.1
  have l1 : (bP n ti).2 ≤ lenN n (tN ti) (rD n ti) := by rcases hB.2.2 _ hrf with z | z <;> omega
  have l2 : (bP n ti).2 ≤ lenN n (tN ti) g := by rcases hB.2.2 _ hG.2 with z | z <;> omega
  have l3 : tB n ti ≤ (bP n ti).2 := by
    have := bound_le hJ hdf hB.1
    omega
  have l4 := rounded_le hJ hdf
  have b1 := lenN_le hJ (g := rD n ti)
  have b2 := lenN_le hJ (g := g)
  refine ⟨fun q => absurd ((nI_ltI (by omega) (by omega)).mp q) (by omega), fun _ => ⟨fun q => absurd ((nI_ltI (by omega) (by omega)).mp q) (by omega), fun _ r9 e9 => ?_⟩⟩
  rw [e9.1]
  refine ⟨fun q => absurd ((nI_ltI (by omega) (by omega)).mp q) (by omega), fun _ r11 e11 => ?_⟩
  rw [e11.1, show (2 : Int32) = nI 2 from by decide, pk_mul]
  exact ⟨fun q => absurd ((nI_ltI (by omega) (by omega)).mp q) (by omega), fun _ => ⟨fun q => absurd q (by decide), fun _ => hK hdf⟩⟩
theorem pl219 {K30 : Int32 → Int32 → Int32 → Int32 → Int32 → Int32 → Prop} {x1 x2 x3 : Int32} (hJ : JI n ti) {i : Nat} (hi : i < 3)
    (hK : K30 x1 x2 x3 (nI (mxl n (tN ti) g (i + 1))) 1 (nI (i + 1))) : p_L_plans_219 N n ti g Q K30 x1 x2 (nI (mxl n (tN ti) g i)) 1 (nI i) (nI (ldN n (tN ti) g i)) x3 := by
  have hn := hJ.1
  have h1 := mxl_le (g := g) hJ (show i ≤ 3 by omega)
  have h2 := ldN_le hJ (g := g) (i := i) (Nat.le_refl n) hi
  have ci : (nI i).toNatClampNeg = i := nI_clamp (by omega)
  have ji : jOK 3 (nI i) := ⟨i, hi, rfl⟩
  have fin : ∀ y, y = nI (mxl n (tN ti) g (i + 1)) → p_L_plans_234 N n ti g Q K30 x1 x2 x3 1 (nI i) (nI (ldN n (tN ti) g i)) y := fun y ey => by
    unfold p_L_plans_234
    rw [ci, ey]
    refine ⟨fun q => absurd q (by decide), fun _ => ⟨ji, fun r3 e3 => ⟨fun _ x6 e6 => ?_, fun q => absurd e3 q⟩⟩⟩
    rw [e6, nI_1]; exact hK
  have em : mxl n (tN ti) g (i + 1) = max (mxl n (tN ti) g i) (ldN n (tN ti) g i) := rfl
  unfold p_L_plans_219
  refine ⟨fun q => fin _ ?_, fun q => fin _ ?_⟩
  · have := (nI_leI (by omega) (by omega)).mp q
    rw [em, Nat.max_eq_left this]
  · have : ¬ ldN n (tN ti) g i ≤ mxl n (tN ti) g i := fun z => q ((nI_leI (by omega) (by omega)).mpr z)
    rw [em, Nat.max_eq_right (by omega)]
/-- the jobs of one machine -/
theorem pl53 {K30 : Int32 → Int32 → Int32 → Int32 → Int32 → Int32 → Prop} {x1 : Int32} (hG : Good n ti g) {i : Nat} (hi : i < 3)
    (hK : K30 x1 (nI (mxl n (tN ti) (bP n ti).1 (i + 1))) (nI (mxl n (tN ti) (rD n ti) (i + 1))) (nI (mxl n (tN ti) g (i + 1))) 1 (nI (i + 1))) :
    ∀ (f k : Nat), k ≤ n → n < f + k → p_L_plans_53 N n ti g Q K30 f x1 (nI (mxl n (tN ti) (bP n ti).1 i)) (nI (mxl n (tN ti) (rD n ti) i)) (nI (mxl n (tN ti) g i)) 1 (nI i) (nI (ldN k (tN ti) (bP n ti).1 i)) (nI (ldN k (tN ti) (rD n ti) i)) (nI (ldN k (tN ti) g i)) (nI k) := by
  have hJ := hG.1
  have hn := hJ.1
  have ci : (nI i).toNatClampNeg = i := nI_clamp (by omega)
  have ji : jOK 3 (nI i) := ⟨i, hi, rfl⟩
  intro f
  induction f with
  | zero => intro k h1 h2; omega
  | succ f ih =>
    intro k h1 h2
    unfold p_L_plans_53
    intro r1 er1
    rw [er1]
    refine ⟨fun q => ?_, fun q => ?_⟩
    · have ek : k = n := by
        have := (nI_leI (by omega) (by omega)).mp q
        omega
      subst ek
      have m1 := mxl_le (g := (bP k ti).1) hJ (show i ≤ 3 by omega)
      have m2 := mxl_le (g := rD k ti) hJ (show i ≤ 3 by omega)
      have d1 := ldN_le hJ (g := (bP k ti).1) (i := i) (Nat.le_refl k) hi
      have d2 := ldN_le hJ (g := rD k ti) (i := i) (Nat.le_refl k) hi
      have em1 : mxl k (tN ti) (bP k ti).1 (i + 1) = max (mxl k (tN ti) (bP k ti).1 i) (ldN k (tN ti) (bP k ti).1 i) := rfl
      have em2 : mxl k (tN ti) (rD k ti) (i + 1) = max (mxl k (tN ti) (rD k ti) i) (ldN k (tN ti) (rD k ti) i) := rfl
      rw [em1, em2] at hK
      refine ⟨fun q1 => ⟨fun q2 => ?_, fun q2 => ?_⟩, fun q1 => ⟨fun q2 => ?_, fun q2 => ?_⟩⟩ <;> refine pl219 hJ hi ?_
      · rw [Nat.max_eq_left ((nI_leI (by omega) (by omega)).mp q1), Nat.max_eq_left ((nI_leI (by omega) (by omega)).mp q2)] at hK
        exact hK
      · rw [Nat.max_eq_left ((nI_leI (by omega) (by omega)).mp q1), Nat.max_eq_right (Nat.le_of_not_le (fun z => q2 ((nI_leI (by omega) (by omega)).mpr z)))] at hK
        exact hK
      · rw [Nat.max_eq_right (Nat.le_of_not_le (fun z => q1 ((nI_leI (by omega) (by omega)).mpr z))), Nat.max_eq_left ((nI_leI (by omega) (by omega)).mp q2)] at hK
        exact hK
      · rw [Nat.max_eq_right (Nat.le_of_not_le (fun z => q1 ((nI_leI (by omega) (by omega)).mpr z))), Nat.max_eq_right (Nat.le_of_not_le (fun z => q2 ((nI_leI (by omega) (by omega)).mpr z)))] at hK
        exact hK
    · have hk : k < n := by
        rcases Nat.lt_or_ge k n with z | z
        · exact z
        · exact absurd ((nI_leI (by omega) (by omega)).mpr z) q
      have hc : 3 * k + i < 3 * n := by omega
      obtain ⟨t1, t2, -⟩ := tN_le hJ hc
      have ck : (nI k).toNatClampNeg = k := nI_clamp (by omega)
      have jk : jOK n (nI k) := ⟨k, hk, rfl⟩
      have inj : ∀ {z : Nat}, z < 3 → (nI z = nI i ↔ z = i) := fun {z} hz => nI_eq (by omega) (by omega)
      -- the three sums of this job
      have e120 : p_L_plans_120 N n ti g Q (fun x1 x2 x3 x4 x5 x6 x7 x8 x9 x10 => p_L_plans_53 N n ti g Q K30 f x1 x2 x3 x4 x5 x6 x7 x8 x9 x10) x1 (nI (mxl n (tN ti) (bP n ti).1 i)) (nI (mxl n (tN ti) (rD n ti) i)) (nI (mxl n (tN ti) g i)) (nI i) (nI (ldN k (tN ti) (bP n ti).1 i)) (nI (ldN k (tN ti) (rD n ti) i)) (nI (ldN k (tN ti) g i)) (nI k) (nI (tN ti (3 * k + i))) 1 := by
        have hnext := ih (k + 1) (by omega) (by omega)
        rw [ldN_succ, ldN_succ, ldN_succ] at hnext
        have e163 : ∀ s1 : Nat, s1 = (if rD n ti k = i then tN ti (3 * k + i) else 0) → p_L_plans_163 N n ti g Q (fun x1 x2 x3 x4 x5 x6 x7 x8 x9 x10 => p_L_plans_53 N n ti g Q K30 f x1 x2 x3 x4 x5 x6 x7 x8 x9 x10) x1 (nI (mxl n (tN ti) (bP n ti).1 i)) (nI (mxl n (tN ti) (rD n ti) i)) (nI (mxl n (tN ti) g i)) 1 (nI i) (nI (ldN k (tN ti) (bP n ti).1 i + if (bP n ti).1 k = i then tN ti (3 * k + i) else 0)) (nI (ldN k (tN ti) g i)) (nI k) (nI (tN ti (3 * k + i))) (nI (ldN k (tN ti) (rD n ti) i)) (nI s1) := fun s1 es => by
          have hg3 := (hG.2 k hk).1
          unfold p_L_plans_163
          intro x8 e8
          rw [ck]
          refine ⟨jk, fun r2 e2 => ?_⟩
          rw [e2]
          refine ⟨fun q2 x9 e9 x10 e10 => ?_, fun q2 x9 e9 x10 e10 => ?_⟩
          · rw [if_pos ((inj hg3).mp q2), ← es] at hnext
            rw [e8, e9, e10, nI_add, nI_add, nI_1]; exact hnext
          · rw [if_neg (fun z => q2 ((inj hg3).mpr z)), ← es] at hnext
            rw [e8, e9, e10, ← nI_0, nI_add, nI_add, nI_1]; exact hnext
        unfold p_L_plans_120
        rw [ck]
        refine ⟨jk, fun r1 e1 => ?_⟩
        have hb3 := (e1.2.2.1 k hk).1
        rw [e1.1]
        refine ⟨fun q1 x7 e7 => ⟨jk, fun r7 e7' => ?_⟩, fun q1 x7 e7 => ⟨jk, fun r7 e7' => ?_⟩⟩
        · have hr3 := (e7'.2.2.1.1.1 k hk).1
          rw [if_pos ((inj hb3).mp q1)] at e163
          rw [e7'.1, e7, nI_add]
          refine ⟨fun q7 => e163 _ (by rw [if_pos ((inj hr3).mp q7)]), fun q7 => ?_⟩
          rw [← nI_0]
          exact e163 _ (by rw [if_neg (fun z => q7 ((inj hr3).mpr z))])
        · have hr3 := (e7'.2.2.1.1.1 k hk).1
          rw [if_neg (fun z => q1 ((inj hb3).mpr z))] at e163
          rw [e7'.1, e7, ← nI_0, nI_add]
          refine ⟨fun q7 => e163 _ (by rw [if_pos ((inj hr3).mp q7)]), fun q7 => ?_⟩
          exact e163 _ (by rw [if_neg (fun z => q7 ((inj hr3).mpr z))])
      rw [ck, ci]
      refine ⟨jk, ji, fun r6 e6 => ⟨fun z => absurd z (by decide), fun _ => ?_⟩⟩
      rw [t2] at e6
      subst e6
      refine ⟨fun _ => e120, fun q6 => ?_⟩
      have ht0 : tN ti (3 * k + i) = 0 := by
        rcases Nat.eq_zero_or_pos (tN ti (3 * k + i)) with z | z
        · exact z
        · exact absurd (by rw [← nI_0]; exact nI_lt z (by omega)) q6
      refine ⟨jk, fun r9 e9 => ?_⟩
      have hb := e9.2.2.1 k hk
      rw [e9.1]
      refine ⟨fun z => ?_, fun _ => ⟨jk, fun r11 e11 => ?_⟩⟩
      · rw [(inj hb.1).mp z, ht0] at hb
        exact absurd hb.2 (by omega)
      · have hr := RD.feas hJ e11.2.1 e11.2.2.1 k hk
        rw [e11.1]
        refine ⟨fun z => ?_, fun _ => ⟨jk, fun r13 e13 => ?_⟩⟩
        · rw [(inj hr.1).mp z, ht0] at hr
          exact absurd hr.2 (by omega)
        · have hg := hG.2 k hk
          rw [e13]
          refine ⟨fun z => ?_, fun _ => e120⟩
          rw [(inj hg.1).mp z, ht0] at hg
          exact absurd hg.2 (by omega)
/-- the three machines -/
theorem pl30 {K333 : Int32 → Int32 → Prop} (hN : 1000 ≤ N) (hG : Good n ti g) (hSF : SF n ti) (hK : DF n ti → K333 (nI (bP n ti).2) (nI (lenN n (tN ti) (rD n ti)))) : ∀ (f i : Nat), i ≤ 3 → 3 < f + i → p_L_plans_30 N n ti g Q K333 f (nI (bP n ti).2) (nI (mxl n (tN ti) (bP n ti).1 i)) (nI (mxl n (tN ti) (rD n ti) i)) (nI (mxl n (tN ti) g i)) 1 (nI i) := by
  have hn := hG.1.1
  intro f
  induction f with
  | zero => intro i h1 h2; omega
  | succ f ih =>
    intro i h1 h2
    unfold p_L_plans_30
    rw [show (3 : Int32) = nI 3 from by decide]
    refine ⟨fun q => ?_, fun q => ⟨fun z => absurd z (by decide), fun _ => ?_⟩⟩
    · have ei : i = 3 := by
        have := (nI_leI (by omega) (by omega)).mp q
        omega
      subst ei
      rw [mxl_3, mxl_3, mxl_3]
      exact pl265 hG hSF hK
    · have hi : i < 3 := by
        rcases Nat.lt_or_ge i 3 with z | z
        · exact z
        · exact absurd ((nI_leI (by omega) (by omega)).mpr z) q
      have h0 := pl53 (N := N) (Q := Q) (K30 := fun x1 x2 x3 x4 x5 x6 => p_L_plans_30 N n ti g Q K333 f x1 x2 x3 x4 x5 x6) (x1 := nI (bP n ti).2) hG hi (ih (i + 1) (by omega) (by omega)) N 0 (by omega) (by omega)
      rw [show ldN 0 (tN ti) (bP n ti).1 i = 0 from rfl, show ldN 0 (tN ti) (rD n ti) i = 0 from rfl, show ldN 0 (tN ti) g i = 0 from rfl, nI_0] at h0
      exact h0
theorem plans_spec (hN : 1000 ≤ N) (hG : Good n ti g) : p_L_plans N n ti g Q (KP n ti) := by
  unfold p_L_plans
  intro r1 e1 r2 e2
  rw [e1.1, e2]
  refine ⟨fun _ => ?_, fun q => absurd rfl q⟩
  have h0 := pl30 (Q := Q) hN hG e1.2 (K333 := KP n ti) (fun hdf => ⟨rfl, rfl, e1.2, hdf⟩) N 0 (by omega) (by omega)
  rw [show mxl n (tN ti) (bP n ti).1 0 = 0 from rfl, show mxl n (tN ti) (rD n ti) 0 = 0 from rfl, show mxl n (tN ti) g 0 = 0 from rfl, nI_0] at h0
  exact h0
end
