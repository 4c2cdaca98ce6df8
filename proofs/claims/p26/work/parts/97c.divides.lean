/-! the law's divides -/
def bI (b : Bool) : Int32 := if b then 1 else 0
theorem bI_zero {b : Bool} : bI b = 0 ↔ b = false := by cases b <;> decide
/-- which machines the divided jobs before j have -/
def usd (num den gr : Nat → Nat) : Nat → Nat → Bool
  | 0 => fun _ => false
  | j + 1 => if wmN num den j = 3 then setb (usd num den gr j) (gr j) else usd num den gr j
def mny (num den : Nat → Nat) : Nat → Nat
  | 0 => 0
  | j + 1 => if wmN num den j = 3 then mny num den j + 1 else mny num den j
def c3b (s : Nat → Bool) : Nat := (if s 0 then 1 else 0) + (if s 1 then 1 else 0) + (if s 2 then 1 else 0)
theorem c3b_set {s : Nat → Bool} {k : Nat} (hk : k < 3) (h : s k = false) : c3b (setb s k) = c3b s + 1 := by
  unfold c3b setb
  rcases (show k = 0 ∨ k = 1 ∨ k = 2 by omega) with e | e | e <;> subst e <;> simp [h] <;> omega
theorem c3b_le {s : Nat → Bool} : c3b s ≤ 3 := by
  unfold c3b
  split <;> split <;> split <;> omega
theorem usd_of {n : Nat} {num den gr : Nat → Nat} {i : Nat} : ∀ {j : Nat}, usd num den gr j i = true → ∃ k, k < j ∧ wmN num den k = 3 ∧ gr k = i := by
  intro j
  induction j with
  | zero => intro h; exact absurd h Bool.false_ne_true
  | succ j ih =>
    intro h
    have h' : (if wmN num den j = 3 then setb (usd num den gr j) (gr j) else usd num den gr j) i = true := h
    by_cases e : wmN num den j = 3
    · rw [if_pos e] at h'
      have h2 : (if i = gr j then true else usd num den gr j i) = true := h'
      by_cases q : i = gr j
      · exact ⟨j, by omega, e, q.symm⟩
      · rw [if_neg q] at h2
        obtain ⟨k, h3, h4⟩ := ih h2
        exact ⟨k, by omega, h4⟩
    · rw [if_neg e] at h'
      obtain ⟨k, h3, h4⟩ := ih h'
      exact ⟨k, by omega, h4⟩
theorem usd_free {n : Nat} {num den gr : Nat → Nat} (h : MT n num den gr) {j : Nat} (hj : j < n) (e : wmN num den j = 3) : usd num den gr j (gr j) = false := by
  cases q : usd num den gr j (gr j) with
  | false => rfl
  | true =>
    obtain ⟨k, h1, h2, h3⟩ := usd_of (n := n) q
    exact absurd h3 (h.2 k j h1 hj h2 e)
theorem mny_c3 {n : Nat} {num den gr : Nat → Nat} (h : MT n num den gr) : ∀ {j : Nat}, j ≤ n → mny num den j = c3b (usd num den gr j) := by
  intro j
  induction j with
  | zero => intro _; rfl
  | succ j ih =>
    intro hj
    show (if wmN num den j = 3 then mny num den j + 1 else mny num den j) = c3b (if wmN num den j = 3 then setb (usd num den gr j) (gr j) else usd num den gr j)
    by_cases e : wmN num den j = 3
    · rw [if_pos e, if_pos e, c3b_set (h.1 j (by omega)).1 (usd_free h (by omega) e), ih (by omega)]
    · rw [if_neg e, if_neg e, ih (by omega)]
theorem Keep_z {n : Nat} {tm : Nat → Int} (h : Keep n tm 0) : n = 0 := by
  rcases Nat.eq_zero_or_pos n with q | q
  · exact q
  · exfalso
    have hh := Keep_has h q
    unfold hasC okC at hh
    omega
theorem tB_zero {n : Nat} {ti : Nat → Int32} (h : DF n ti) : tB n ti = 0 ↔ n = 0 := by
  obtain ⟨⟨T, v, d, hB, -⟩, -, -⟩ := h
  have hT := tB_of hB
  rw [hT] at hB
  constructor
  · intro e
    have := hB.2.1
    rw [e] at this
    exact Keep_z this
  · intro e
    subst e
    rcases Nat.eq_zero_or_pos (tB 0 ti) with q | q
    · exact q
    · exact absurd Keep_0 (hB.2.2 0 q)
section
variable {N n d : Nat} {ti : Nat → Int32} {g v : Nat → Nat} {Q : Int32 → Prop}
/-- the last checks: the least number -/
theorem div371 (hN : 1000 ≤ N) (hJ : JI n ti) (hdf : DF n ti) (h : DP n (tB n ti) (tN ti) v d (sH n ti).1 (sH n ti).2) {m : Nat} (hm : m ≤ 3) (hQ : Q 1) : p_L_divides_371 N n ti g Q (nI (tB n ti)) 1 (nI m) := by
  have hn := hJ.1
  have hT := h.2.2.1
  obtain ⟨-, -, w, e, hL, he27, hw189, ef, eg⟩ := hdf
  have he0 : 0 < e := by have := hL.1; omega
  -- the least is not above the bound
  have hwe : w ≤ tB n ti * e := by
    have hd := h.1
    have h1 : (w : Int) * d ≤ ((tB n ti * d : Nat) : Int) * e := hL.2.2 (fun c => ((v c : Nat) : Int)) d ((tB n ti * d : Nat) : Int) (by omega) ⟨fun c _ => by
        show (0 : Int) ≤ ((v c : Nat) : Int)
        omega, fun c hc ho => by
        rcases Nat.eq_zero_or_pos (v c) with q | q
        · show ((v c : Nat) : Int) = 0
          omega
        · exfalso
          have := h.2.2.2.2.1 c hc q
          have t1 := tN_le hJ hc
          exact ho ⟨by omega, by omega⟩, fun j hj => by
        have := h.2.2.2.1 j hj
        show ((v (3 * j) : Nat) : Int) + (v (3 * j + 1) : Nat) + (v (3 * j + 2) : Nat) = d
        omega, fun i hi => by
        rw [sm_cast (a := fun j => tN ti (3 * j + i) * v (3 * j + i)) (fun j hj => by rw [(tN_le hJ (show 3 * j + i < 3 * n by omega)).2.2, Int.natCast_mul])]
        have := h.2.2.2.2.2.1 i hi
        exact_mod_cast this⟩
    have h2 : w * d ≤ tB n ti * d * e := by exact_mod_cast h1
    refine Nat.le_of_mul_le_mul_right ?_ hd
    rw [Nat.mul_right_comm]; exact h2
  have hg : 0 < Nat.gcd w e := Nat.gcd_pos_of_pos_right _ he0
  have f1 := Nat.div_mul_cancel (Nat.gcd_dvd_left w e)
  have f2 := Nat.div_mul_cancel (Nat.gcd_dvd_right w e)
  have hcop : Nat.gcd (w / Nat.gcd w e) (e / Nat.gcd w e) = 1 := Nat.coprime_div_gcd_div_gcd hg
  have hle : w / Nat.gcd w e ≤ tB n ti * (e / Nat.gcd w e) := by
    refine Nat.le_of_mul_le_mul_right ?_ hg
    rw [f1, Nat.mul_assoc, f2]; exact hwe
  have b2 : e / Nat.gcd w e ≤ 27000000 := Nat.le_trans (Nat.div_le_self _ _) he27
  have b1 : w / Nat.gcd w e ≤ tB n ti * (e / Nat.gcd w e) := hle
  have hb : tB n ti * (e / Nat.gcd w e) ≤ 350 * 27000000 := Nat.mul_le_mul hT b2
  have b3 : w / Nat.gcd w e ≤ 189000000 := Nat.le_trans (Nat.div_le_self _ _) hw189
  have b4 : 0 < e / Nat.gcd w e := Nat.div_pos (Nat.gcd_le_right _ he0) hg
  have ef' : fnum (lS n ti).1 (lS n ti).2 = nI (w / Nat.gcd w e) := ef
  have eg' : fden (lS n ti).1 (lS n ti).2 = nI (e / Nat.gcd w e) := eg
  unfold p_L_divides_371
  refine ⟨fun q => absurd q (by decide), fun _ => ⟨fun q => ?_, fun _ r3 e3 r4 e4 => ?_⟩⟩
  · rw [show (3 : Int32) = nI 3 from by decide] at q
    exact absurd ((nI_ltI (by omega) (by omega)).mp q) (by omega)
  · rw [e3.1, e4.1, ef', eg']
    generalize w / Nat.gcd w e = W at *
    generalize e / Nat.gcd w e = E at *
    rw [nI_l (show tB n ti < 2 ^ 31 by omega), nI_l (show W < 2 ^ 31 by omega), nI_l (show E < 2 ^ 31 by omega), lN_mul]
    refine ⟨fun q => absurd ((pk_lLT (by omega) (by omega)).mp q) (by omega), fun _ r6 e6 r7 e7 => ?_⟩
    rw [e6.1, e7.1, nI_l (show W < 2 ^ 31 by omega), nI_l (show E < 2 ^ 31 by omega)]
    refine common_spec hN (by omega) (by omega) (by omega) ?_
    rw [hcop]
    exact ⟨fun _ => hQ, fun q => absurd (show lN 1 = (1 : Int64) by decide) q⟩
/-- the three machines' loads by the shares -/
theorem div347 (hN : 1000 ≤ N) (hJ : JI n ti) (hdf : DF n ti) (h : DP n (tB n ti) (tN ti) v d (sH n ti).1 (sH n ti).2) {m : Nat} (hm : m ≤ 3) (hQ : Q 1) : ∀ (f i : Nat), i ≤ 3 → 3 < f + i → p_L_divides_347 N n ti g Q f (nI (tB n ti)) 1 (nI m) (nI i) := by
  intro f
  induction f with
  | zero => intro i h1 h2; omega
  | succ f ih =>
    intro i h1 h2
    unfold p_L_divides_347
    rw [show (3 : Int32) = nI 3 from by decide]
    refine ⟨fun _ => div371 hN hJ hdf h hm hQ, fun hlt => ⟨fun q => absurd q (by decide), fun _ => ?_⟩⟩
    have hi : i < 3 := by
      rcases Nat.lt_or_ge i 3 with q | q
      · exact q
      · exact absurd ((nI_leI (by omega) (by omega)).mpr q) hlt
    refine within_spec hN hJ h hi (fun x5 e5 => ?_)
    rw [e5, nI_1]
    exact ih (i + 1) (by omega) (by omega)
end
section
variable {N n d : Nat} {ti : Nat → Int32} {g v : Nat → Nat} {Q : Int32 → Prop}
theorem share_31 {T : Nat} {t num den : Nat → Nat} (h : DP n T t v d num den) {c : Nat} (hc : c < 3 * n) : num c < 2 ^ 31 ∧ den c < 2 ^ 31 := by
  obtain ⟨c1, c2, c3, c4, c5, c6⟩ := h.cell hc
  have := h.2.1
  exact ⟨by omega, by omega⟩
/-- behind the shares of a job: its rounded machine -/
theorem div303 {K43 : Int32 → Int32 → Int32 → Int32 → Int32 → Prop} (hRD : RD n (sH n ti).1 (sH n ti).2 (rD n ti)) {j : Nat} (hj : j < n) (hn : n ≤ 7)
    (hK : K43 (nI (tB n ti)) 1 (mkm (usd (sH n ti).1 (sH n ti).2 (rD n ti) (j + 1))) (nI (mny (sH n ti).1 (sH n ti).2 (j + 1))) (nI (j + 1))) :
    p_L_divides_303 N n ti g Q K43 (nI (tB n ti)) (mkm (usd (sH n ti).1 (sH n ti).2 (rD n ti) j)) (nI (mny (sH n ti).1 (sH n ti).2 j)) (nI j) (bI (decide (wmN (sH n ti).1 (sH n ti).2 j ≠ 3))) (nI (rD n ti j)) 1 := by
  have hM := hRD.1
  have hk := (hM.1 j hj).1
  have e1 : (1 : Int32) = nI 1 := by decide
  unfold p_L_divides_303
  refine ⟨fun q => absurd q (by decide), fun _ => ⟨fun q => ?_, fun q x5 e5 => ?_⟩⟩
  · have hw : wmN (sH n ti).1 (sH n ti).2 j = 3 := by
      have := bI_zero.mp q
      exact Classical.byContradiction (fun z => by rw [decide_eq_true z] at this; exact absurd this (by decide))
    have hf := usd_free hM hj hw
    obtain ⟨a1, a2, a3⟩ := mkm_ands (usd (sH n ti).1 (sH n ti).2 (rD n ti) j) (rD n ti j) hk
    refine ⟨fun _ x3 e3 x4 e4 x5 e5 => ?_, fun z => absurd (a3.mpr hf) z⟩
    have eu : usd (sH n ti).1 (sH n ti).2 (rD n ti) (j + 1) = setb (usd (sH n ti).1 (sH n ti).2 (rD n ti) j) (rD n ti j) := if_pos hw
    have em : mny (sH n ti).1 (sH n ti).2 (j + 1) = mny (sH n ti).1 (sH n ti).2 j + 1 := if_pos hw
    rw [e3, e4, e5, a2, nI_1, nI_1, ← eu, ← em]
    exact hK
  · have hw : ¬ wmN (sH n ti).1 (sH n ti).2 j = 3 := fun z => q (bI_zero.mpr (decide_eq_false (fun y => y z)))
    have eu : usd (sH n ti).1 (sH n ti).2 (rD n ti) (j + 1) = usd (sH n ti).1 (sH n ti).2 (rD n ti) j := if_neg hw
    have em : mny (sH n ti).1 (sH n ti).2 (j + 1) = mny (sH n ti).1 (sH n ti).2 j := if_neg hw
    rw [e5, nI_1, ← eu, ← em]
    exact hK
/-- the checks of the rounded machine -/
theorem div254 {K303 : Int32 → Int32 → Int32 → Int32 → Int32 → Int32 → Int32 → Prop} (hn : n ≤ 7) (h : DP n (tB n ti) (tN ti) v d (sH n ti).1 (sH n ti).2) (hRD : RD n (sH n ti).1 (sH n ti).2 (rD n ti)) {j : Nat} (hj : j < n) {x3 x4 s0 : Int32}
    (hs : s0 = bI (decide (wmN (sH n ti).1 (sH n ti).2 j ≠ 3)))
    (hK : K303 (nI (tB n ti)) x3 x4 (nI j) (bI (decide (wmN (sH n ti).1 (sH n ti).2 j ≠ 3))) (nI (rD n ti j)) 1) :
    p_L_divides_254 N n ti g Q K303 (nI (tB n ti)) x3 x4 (nI j) (bI (decide (wmN (sH n ti).1 (sH n ti).2 j ≠ 3))) (nI (rD n ti j)) s0 := by
  obtain ⟨hk, hw1, hw3⟩ := hRD.1.1 j hj
  have hc : 3 * j + rD n ti j < 3 * n := by omega
  obtain ⟨b1, b2⟩ := share_31 h hc
  obtain ⟨c1, c2, c3, c4, c5, c6⟩ := h.cell hc
  have hwle := wmN_le (num := (sH n ti).1) (den := (sH n ti).2) (j := j)
  have hnum : 0 < (sH n ti).1 (3 * j + rD n ti j) := by
    by_cases e : wmN (sH n ti).1 (sH n ti).2 j = 3
    · exact hw3 e
    · have e2 := hw1 (by omega)
      have e3 := wmN_num (show wmN (sH n ti).1 (sH n ti).2 j < 3 by omega)
      rw [← e2] at e3
      omega
  have jj : jOK n (nI j) := ⟨j, hj, rfl⟩
  have jr : jOK 3 (nI (rD n ti j)) := ⟨_, hk, rfl⟩
  have ck : (nI j).toNatClampNeg = j := nI_clamp (by omega)
  have ci : (nI (rD n ti j)).toNatClampNeg = rD n ti j := nI_clamp (by omega)
  unfold p_L_divides_254
  rw [ck, ci, show (3 : Int32) = nI 3 from by decide]
  refine ⟨fun _ => ⟨fun q => absurd q (nI_pos (by omega)), fun _ => ⟨fun q => absurd ((nI_leI (by omega) (by omega)).mp q) (by omega), fun _ => ⟨jj, jr, fun r4 e4 => ⟨fun q => ?_, fun _ => ⟨fun _ => hK, fun q => ⟨jj, jr, fun r7 e7 => ⟨fun _ => hK, fun z => ?_⟩⟩⟩⟩⟩⟩⟩, fun q => absurd hs q⟩
  · rw [e4.1, ← nI_0] at q
    exact absurd ((nI_leI (by omega) (by omega)).mp q) (by omega)
  · exfalso
    have hw : ¬ wmN (sH n ti).1 (sH n ti).2 j = 3 := fun y => q (bI_zero.mpr (decide_eq_false (fun x => x y)))
    have e2 := hw1 (by omega)
    have e3 := wmN_num (show wmN (sH n ti).1 (sH n ti).2 j < 3 by omega)
    rw [← e2] at e3
    have e5 := ((h.whole hc).2.mp e3).2
    exact z (by rw [e7.1, e5]; decide)
theorem wmN_iff {num den : Nat → Nat} {j : Nat} : wmN num den j ≠ 3 ↔ num (3 * j) = den (3 * j) ∨ num (3 * j + 1) = den (3 * j + 1) ∨ num (3 * j + 2) = den (3 * j + 2) := by
  unfold wmN
  by_cases e0 : num (3 * j) = den (3 * j)
  · rw [if_pos e0]; exact ⟨fun _ => Or.inl e0, fun _ => by omega⟩
  · rw [if_neg e0]
    by_cases e1 : num (3 * j + 1) = den (3 * j + 1)
    · rw [if_pos e1]; exact ⟨fun _ => Or.inr (Or.inl e1), fun _ => by omega⟩
    · rw [if_neg e1]
      by_cases e2 : num (3 * j + 2) = den (3 * j + 2)
      · rw [if_pos e2]; exact ⟨fun _ => Or.inr (Or.inr e2), fun _ => by omega⟩
      · rw [if_neg e2]; exact ⟨fun q => absurd rfl q, fun q => by rcases q with q | q | q <;> contradiction⟩
/-- one machine of a job -/
theorem div68_step {K43 : Int32 → Int32 → Int32 → Int32 → Int32 → Prop} (hN : 1000 ≤ N) (hJ : JI n ti) (h : DP n (tB n ti) (tN ti) v d (sH n ti).1 (sH n ti).2) {j i f A B : Nat} {w : Bool} {x3 x4 : Int32} (hj : j < n) (hi : i < 3)
    (hK : p_L_divides_68 N n ti g Q K43 f (nI (tB n ti)) 1 x3 x4 (nI j) (lN (A * (sH n ti).2 (3 * j + i) + (sH n ti).1 (3 * j + i) * B)) (lN (B * (sH n ti).2 (3 * j + i))) (bI (w || decide ((sH n ti).1 (3 * j + i) = (sH n ti).2 (3 * j + i)))) (nI (i + 1))) :
    p_L_divides_68 N n ti g Q K43 (f + 1) (nI (tB n ti)) 1 x3 x4 (nI j) (lN A) (lN B) (bI w) (nI i) := by
  have hn := hJ.1
  have hT := h.2.2.1
  have hc : 3 * j + i < 3 * n := by omega
  obtain ⟨b1, b2⟩ := share_31 h hc
  obtain ⟨c1, c2, c3, c4, c5, c6⟩ := h.cell hc
  have hwh := (h.whole hc).2
  obtain ⟨t1, t2, -⟩ := tN_le hJ hc
  have jj : jOK n (nI j) := ⟨j, hj, rfl⟩
  have jr : jOK 3 (nI i) := ⟨_, hi, rfl⟩
  have ck : (nI j).toNatClampNeg = j := nI_clamp (by omega)
  have ci : (nI i).toNatClampNeg = i := nI_clamp (by omega)
  have l0 : (0 : Int64) = lN 0 := by decide
  have l1 : (1 : Int64) = lN 1 := by decide
  -- the step's end
  have fin192 : ∀ s0, s0 = bI (w || decide ((sH n ti).1 (3 * j + i) = (sH n ti).2 (3 * j + i))) → p_L_divides_192 N n ti g Q (fun x1 x2 x3 x4 x5 x6 x8 x10 x11 => p_L_divides_68 N n ti g Q K43 f x1 x2 x3 x4 x5 x6 x8 x10 x11) (nI (tB n ti)) 1 x3 x4 (nI j) (lN A) (lN B) (nI i) (lN ((sH n ti).1 (3 * j + i))) (lN ((sH n ti).2 (3 * j + i))) s0 := by
    intro s0 es
    unfold p_L_divides_192
    intro x6 e6 x8 e8 x11 e11
    rw [e6, e8, e11, es, lN_mul, lN_mul, lN_add, lN_mul, nI_1]
    exact hK
  have fin167 : p_L_divides_167 N n ti g Q (fun x1 x2 x3 x4 x5 x6 x8 x10 x11 => p_L_divides_68 N n ti g Q K43 f x1 x2 x3 x4 x5 x6 x8 x10 x11) (nI (tB n ti)) x3 x4 (nI j) (lN A) (lN B) (bI w) (nI i) (lN ((sH n ti).1 (3 * j + i))) (lN ((sH n ti).2 (3 * j + i))) 1 := by
    unfold p_L_divides_167
    refine ⟨fun q => ?_, fun q => ?_⟩
    · have hw := bI_zero.mp q
      refine ⟨fun q1 => ⟨fun q2 => fin192 _ ?_, fun q2 => fin192 _ ?_⟩, fun q1 => fin192 _ ?_⟩
      · rw [l1] at q1 q2
        have z1 := lN_inj (by omega) (by decide) q1
        have z2 := lN_inj (by omega) (by decide) q2
        rw [hw, decide_eq_true (show (sH n ti).1 (3 * j + i) = (sH n ti).2 (3 * j + i) by omega)]
        rfl
      · rw [hw, decide_eq_false (fun z => q2 (by rw [(hwh.mp z).2]; exact l1.symm))]
        rfl
      · rw [hw, decide_eq_false (fun z => q1 (by rw [(hwh.mp z).1]; exact l1.symm))]
        rfl
    · have hw : w = true := by
        cases w with
        | true => rfl
        | false => exact absurd (bI_zero.mpr rfl) q
      exact fin192 _ (by rw [hw, Bool.true_or]; rfl)
  unfold p_L_divides_68
  rw [ck, ci]
  refine ⟨fun q => ?_, fun _ => ⟨fun q => absurd q (by decide), fun _ => ?_⟩⟩
  · rw [show (3 : Int32) = nI 3 from by decide] at q
    exact absurd ((nI_leI (by omega) (by omega)).mp q) (by omega)
  · refine ⟨jj, jr, fun r9 e9 x12 e12 => ⟨jj, jr, fun r11 e11 x14 e14 => ⟨jj, jr, fun r17 e17 => ?_⟩⟩⟩
    rw [e9.1, nI_l (by omega)] at e12
    rw [e11.1, nI_l (by omega)] at e14
    rw [t2] at e17
    subst e12 e14 e17
    refine ⟨fun q => ?_, fun _ => ⟨fun q => ?_, fun _ => ⟨fun q => ?_, fun _ => ?_⟩⟩⟩
    · rw [l0] at q
      exact absurd ((pk_lLT (by omega) (by decide)).mp q) (by omega)
    · rw [l1] at q
      exact absurd ((pk_lLT (by omega) (by decide)).mp q) (by omega)
    · exact absurd ((pk_lLT (by omega) (by omega)).mp q) (by omega)
    · refine common_spec hN (by omega) (by omega) (by omega) ⟨fun _ => ⟨fun _ => fin167, fun q0 => ?_⟩, fun q => ?_⟩
      · have hp : 0 < (sH n ti).1 (3 * j + i) := by
          rcases Nat.eq_zero_or_pos ((sH n ti).1 (3 * j + i)) with z | z
          · exact absurd (by rw [z]; exact l0.symm) q0
          · exact z
        obtain ⟨p1, p2⟩ := c6 hp
        refine ⟨fun q => ?_, fun _ => ⟨fun q => ?_, fun _ => fin167⟩⟩
        · rw [← nI_0] at q
          exact absurd ((nI_leI (by omega) (by omega)).mp q) (by omega)
        · exact absurd ((nI_ltI (by omega) (by omega)).mp q) (by omega)
      · rw [c3] at q
        exact absurd l1.symm q
/-- a job -/
theorem div68 {K43 : Int32 → Int32 → Int32 → Int32 → Int32 → Prop} (hN : 1000 ≤ N) (hJ : JI n ti) (h : DP n (tB n ti) (tN ti) v d (sH n ti).1 (sH n ti).2) (hRD : RD n (sH n ti).1 (sH n ti).2 (rD n ti)) {j : Nat} (hj : j < n)
    (hK : K43 (nI (tB n ti)) 1 (mkm (usd (sH n ti).1 (sH n ti).2 (rD n ti) (j + 1))) (nI (mny (sH n ti).1 (sH n ti).2 (j + 1))) (nI (j + 1))) :
    p_L_divides_68 N n ti g Q K43 N (nI (tB n ti)) 1 (mkm (usd (sH n ti).1 (sH n ti).2 (rD n ti) j)) (nI (mny (sH n ti).1 (sH n ti).2 j)) (nI j) (0 : Int64) (1 : Int64) (0 : Int32) (0 : Int32) := by
  have hn := hJ.1
  obtain ⟨M, rfl⟩ : ∃ M, N = M + 1 + 1 + 1 + 1 := ⟨N - 4, by omega⟩
  have jj : jOK n (nI j) := ⟨j, hj, rfl⟩
  have ck : (nI j).toNatClampNeg = j := nI_clamp (by omega)
  rw [show (0 : Int64) = lN 0 from by decide, show (1 : Int64) = lN 1 from by decide]
  refine div68_step (w := false) (i := 0) hN hJ h hj (by omega) (div68_step (i := 1) hN hJ h hj (by omega) (div68_step (i := 2) hN hJ h hj (by omega) ?_))
  have hd := h.1
  obtain ⟨-, p0, -, s0, -, -⟩ := h.cell (show 3 * j + 0 < 3 * n by omega)
  obtain ⟨-, p1, -, s1, -, -⟩ := h.cell (show 3 * j + 1 < 3 * n by omega)
  obtain ⟨-, p2, -, s2, -, -⟩ := h.cell (show 3 * j + 2 < 3 * n by omega)
  have hsum : v (3 * j + 0) + v (3 * j + 1) + v (3 * j + 2) = d := h.2.2.2.1 j hj
  have hb : (false || decide ((sH n ti).1 (3 * j + 0) = (sH n ti).2 (3 * j + 0)) || decide ((sH n ti).1 (3 * j + 1) = (sH n ti).2 (3 * j + 1)) || decide ((sH n ti).1 (3 * j + 2) = (sH n ti).2 (3 * j + 2))) = decide (wmN (sH n ti).1 (sH n ti).2 j ≠ 3) := by
    rw [Bool.false_or, decide_eq_decide.mpr wmN_iff, Bool.decide_or, Bool.decide_or, Bool.or_assoc]
    rfl
  have hAB : (((0 * (sH n ti).2 (3 * j + 0) + (sH n ti).1 (3 * j + 0) * 1) * (sH n ti).2 (3 * j + 1) + (sH n ti).1 (3 * j + 1) * (1 * (sH n ti).2 (3 * j + 0))) * (sH n ti).2 (3 * j + 2) + (sH n ti).1 (3 * j + 2) * (1 * (sH n ti).2 (3 * j + 0) * (sH n ti).2 (3 * j + 1))) = 1 * (sH n ti).2 (3 * j + 0) * (sH n ti).2 (3 * j + 1) * (sH n ti).2 (3 * j + 2) := by
    generalize (sH n ti).2 (3 * j + 0) = D0 at *
    generalize (sH n ti).2 (3 * j + 1) = D1 at *
    generalize (sH n ti).2 (3 * j + 2) = D2 at *
    generalize (sH n ti).1 (3 * j + 0) = M0 at *
    generalize (sH n ti).1 (3 * j + 1) = M1 at *
    generalize (sH n ti).1 (3 * j + 2) = M2 at *
    generalize v (3 * j + 0) = V0 at *
    generalize v (3 * j + 1) = V1 at *
    generalize v (3 * j + 2) = V2 at *
    refine Nat.eq_of_mul_eq_mul_right hd ?_
    rw [Nat.zero_mul, Nat.zero_add, Nat.mul_one, Nat.one_mul]
    have f0 : M0 * D1 * D2 * d = V0 * (D0 * D1 * D2) := by
      calc M0 * D1 * D2 * d = (M0 * d) * (D1 * D2) := by rw [Nat.mul_assoc M0 D1 D2, Nat.mul_right_comm]
        _ = (V0 * D0) * (D1 * D2) := by rw [s0]
        _ = V0 * (D0 * D1 * D2) := by rw [Nat.mul_assoc, Nat.mul_assoc]
    have f1 : M1 * D0 * D2 * d = V1 * (D0 * D1 * D2) := by
      calc M1 * D0 * D2 * d = (M1 * d) * (D0 * D2) := by rw [Nat.mul_assoc M1 D0 D2, Nat.mul_right_comm]
        _ = (V1 * D1) * (D0 * D2) := by rw [s1]
        _ = V1 * (D0 * D1 * D2) := by rw [Nat.mul_assoc, ← Nat.mul_assoc D1, Nat.mul_comm D1 D0]
    have f2 : M2 * (D0 * D1) * d = V2 * (D0 * D1 * D2) := by
      calc M2 * (D0 * D1) * d = (M2 * d) * (D0 * D1) := by rw [Nat.mul_right_comm]
        _ = (V2 * D2) * (D0 * D1) := by rw [s2]
        _ = V2 * (D0 * D1 * D2) := by rw [Nat.mul_assoc, Nat.mul_comm D2]
    calc ((M0 * D1 + M1 * D0) * D2 + M2 * (D0 * D1)) * d = M0 * D1 * D2 * d + M1 * D0 * D2 * d + M2 * (D0 * D1) * d := by rw [Nat.add_mul, Nat.add_mul, Nat.add_mul]
      _ = (V0 + V1 + V2) * (D0 * D1 * D2) := by rw [f0, f1, f2, Nat.add_mul, Nat.add_mul]
      _ = D0 * D1 * D2 * d := by rw [hsum, Nat.mul_comm]
  rw [hb, hAB]
  generalize 1 * (sH n ti).2 (3 * j + 0) * (sH n ti).2 (3 * j + 1) * (sH n ti).2 (3 * j + 2) = BB9
  unfold p_L_divides_68
  rw [ck]
  refine ⟨fun _ => ⟨jj, fun r2 e2 => ?_⟩, fun q => absurd (show (3 : Int32) ≤ nI (2 + 1) by decide) q⟩
  rw [e2.1]
  refine ⟨fun q => absurd q (by decide), fun _ => ⟨fun _ => ⟨jj, fun r5 e5 => ?_⟩, fun q => absurd rfl q⟩⟩
  have hK3 := div303 (N := M + 1 + 1 + 1 + 1) (g := g) (Q := Q) (ti := ti) hRD hj hn hK
  have hwc : r5 = 0 ↔ wmN (sH n ti).1 (sH n ti).2 j ≠ 3 := by
    rw [e5.1]
    by_cases e : wmN (sH n ti).1 (sH n ti).2 j = 3
    · rw [if_pos e]; exact ⟨fun q => absurd q (by decide), fun q => absurd e q⟩
    · rw [if_neg e]; exact ⟨fun _ => e, fun _ => rfl⟩
  refine ⟨fun q => div254 hn h hRD hj ?_ hK3, fun q => div254 hn h hRD hj ?_ hK3⟩
  · rw [decide_eq_true (hwc.mp q)]; rfl
  · rw [decide_eq_false (fun z => q (hwc.mpr z))]; rfl
/-- all jobs -/
theorem div43 (hN : 1000 ≤ N) (hJ : JI n ti) (hdf : DF n ti) (h : DP n (tB n ti) (tN ti) v d (sH n ti).1 (sH n ti).2) (hQ : Q 1) : ∀ (f j : Nat), j ≤ n → n < f + j → p_L_divides_43 N n ti g Q f (nI (tB n ti)) 1 (mkm (usd (sH n ti).1 (sH n ti).2 (rD n ti) j)) (nI (mny (sH n ti).1 (sH n ti).2 j)) (nI j) := by
  have hn := hJ.1
  intro f
  induction f with
  | zero => intro j h1 h2; omega
  | succ f ih =>
    intro j h1 h2
    unfold p_L_divides_43
    intro r1 e1
    rw [e1]
    refine ⟨fun q => ?_, fun q => ⟨fun z => absurd z (by decide), fun _ => ?_⟩⟩
    · have hm : mny (sH n ti).1 (sH n ti).2 j ≤ 3 := by rw [mny_c3 hdf.2.1.1 h1]; exact c3b_le
      rw [← nI_0]
      exact div347 hN hJ hdf h hm hQ N 0 (by omega) (by omega)
    · have hj : j < n := by
        rcases Nat.lt_or_ge j n with z | z
        · exact z
        · exact absurd ((nI_leI (by omega) (by omega)).mpr z) q
      exact div68 hN hJ h hdf.2.1 hj (ih (j + 1) (by omega) (by omega))
/-- the law's divides answers true -/
theorem divides_spec (hN : 1000 ≤ N) (hG : Good n ti g) (hQ : Q 1) : p_L_divides N n ti g Q := by
  have hJ := hG.1
  have hn := hJ.1
  have key : ∀ (x : Int32), DF n ti → x = nI (tB n ti) → p_L_divides_43 N n ti g Q N x 1 0 0 0 := fun x hdf ex => by
    obtain ⟨v, d, h⟩ := hdf.dp hJ
    have h0 := div43 (g := g) hN hJ hdf h hQ N 0 (by omega) (by omega)
    rw [ex]
    have em : mkm (usd (sH n ti).1 (sH n ti).2 (rD n ti) 0) = 0 := mkm_none
    rw [em, show mny (sH n ti).1 (sH n ti).2 0 = 0 from rfl, nI_0] at h0
    exact h0
  unfold p_L_divides
  intro r1 e1 r2 e2
  have hz := tB_zero e1.2
  have hT : tB n ti ≤ 350 := by
    obtain ⟨v, d, h⟩ := e1.2.dp hJ
    exact h.2.2.1
  have z1 : r1 = 0 ↔ n = 0 := by
    rw [e1.1, ← nI_0, nI_eq (by omega) (by omega)]; exact hz
  have z2 : r2 = 0 ↔ n = 0 := by
    rw [e2, ← nI_0, nI_eq (by omega) (by omega)]
  refine ⟨fun q2 => ⟨fun q1 => ?_, fun q1 => absurd (z1.mpr (z2.mp q2)) q1⟩, fun q2 => ⟨fun q1 => absurd (z2.mpr (z1.mp q1)) q2, fun q1 => ?_⟩⟩
  · unfold p_L_divides_26
    exact ⟨fun _ => key r1 e1.2 e1.1, fun q => absurd rfl q⟩
  · unfold p_L_divides_26
    exact ⟨fun _ => key r1 e1.2 e1.1, fun q => absurd rfl q⟩
end
