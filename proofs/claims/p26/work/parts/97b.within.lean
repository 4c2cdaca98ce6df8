/-! the division as the law reads it -/
def DP (n T : Nat) (t v : Nat → Nat) (d : Nat) (num den : Nat → Nat) : Prop := 0 < d ∧ d ≤ 27000000 ∧ T ≤ 350 ∧ (∀ j, j < n → v (3 * j) + v (3 * j + 1) + v (3 * j + 2) = d) ∧ (∀ c, c < 3 * n → 0 < v c → 0 < t c ∧ t c ≤ T) ∧ (∀ i, i < 3 → smn n (fun j => t (3 * j + i) * v (3 * j + i)) ≤ T * d) ∧ ∀ c, c < 3 * n → num c = v c / Nat.gcd (v c) d ∧ den c = d / Nat.gcd (v c) d
theorem DF.dp {n : Nat} {ti : Nat → Int32} (hJ : JI n ti) (h : DF n ti) : ∃ v d, DP n (tB n ti) (tN ti) v d (sH n ti).1 (sH n ti).2 := by
  obtain ⟨⟨T, v, d, hB, hLM, hd, hv⟩, -, -⟩ := h
  have hT := tB_of hB
  rw [hT] at hB hLM
  obtain ⟨hd0, ⟨-, hz, hJs, hM⟩, -⟩ := hLM
  refine ⟨v, d, by omega, hd, hB.1, fun j hj => ?_, fun c hc hp => ?_, fun i hi => ?_, hv⟩
  · have h1 : ((v (3 * j) : Nat) : Int) + (v (3 * j + 1) : Nat) + (v (3 * j + 2) : Nat) = d := hJs j hj
    omega
  · apply Classical.byContradiction
    intro hno
    have h1 : ((v c : Nat) : Int) = 0 := hz c hc (fun o => hno (by
      have := (tN_le hJ hc).2.2
      omega))
    omega
  · have h1 : sm n (fun j => tmI ti (3 * j + i) * ((v (3 * j + i) : Nat) : Int)) ≤ (tB n ti : Int) * d := hM i hi
    rw [sm_cast (a := fun j => tN ti (3 * j + i) * v (3 * j + i)) (fun j hj => by rw [(tN_le hJ (show 3 * j + i < 3 * n by omega)).2.2, Int.natCast_mul])] at h1
    exact_mod_cast h1
section
variable {n T d : Nat} {t v num den : Nat → Nat}
theorem DP.le (h : DP n T t v d num den) {c : Nat} (hc : c < 3 * n) : v c ≤ d := by
  have := h.2.2.2.1 (c / 3) (by omega)
  rcases (show c = 3 * (c / 3) ∨ c = 3 * (c / 3) + 1 ∨ c = 3 * (c / 3) + 2 by omega) with e | e | e <;> rw [e] <;> omega
/-- a share's numerator and denominator -/
theorem DP.cell (h : DP n T t v d num den) {c : Nat} (hc : c < 3 * n) : num c ≤ den c ∧ 1 ≤ den c ∧ Nat.gcd (num c) (den c) = 1 ∧ num c * d = v c * den c ∧ den c ≤ d ∧ (0 < num c → 0 < t c ∧ t c ≤ T) := by
  have hd := h.1
  have hle := h.le hc
  obtain ⟨e1, e2⟩ := h.2.2.2.2.2.2 c hc
  have hg : 0 < Nat.gcd (v c) d := Nat.gcd_pos_of_pos_right _ hd
  have f1 := Nat.div_mul_cancel (Nat.gcd_dvd_left (v c) d)
  have f2 := Nat.div_mul_cancel (Nat.gcd_dvd_right (v c) d)
  rw [e1, e2]
  refine ⟨Nat.div_le_div_right hle, Nat.div_pos (Nat.gcd_le_right _ hd) hg, Nat.coprime_div_gcd_div_gcd hg, ?_, Nat.div_le_self _ _, fun hp => h.2.2.2.2.1 c hc ((frac_zero hd).mp hp)⟩
  have g1 : v c / Nat.gcd (v c) d * d = v c / Nat.gcd (v c) d * (d / Nat.gcd (v c) d * Nat.gcd (v c) d) := by rw [f2]
  have g2 : v c * (d / Nat.gcd (v c) d) = v c / Nat.gcd (v c) d * Nat.gcd (v c) d * (d / Nat.gcd (v c) d) := by rw [f1]
  rw [g1, g2, Nat.mul_comm (d / Nat.gcd (v c) d), Nat.mul_assoc]
theorem DP.whole (h : DP n T t v d num den) {c : Nat} (hc : c < 3 * n) : (num c = den c ↔ v c = d) ∧ (num c = den c ↔ num c = 1 ∧ den c = 1) := by
  obtain ⟨-, h2, h3, h4, -, -⟩ := h.cell hc
  have hd := h.1
  refine ⟨⟨fun e => ?_, fun e => ?_⟩, fun e => ?_, fun e => by omega⟩
  · rw [e, Nat.mul_comm] at h4
    exact (Nat.eq_of_mul_eq_mul_right (show 0 < den c by omega) h4).symm
  · rw [e, Nat.mul_comm d] at h4
    exact Nat.eq_of_mul_eq_mul_right hd h4
  · rw [e, Nat.gcd_self] at h3; omega
/-- a machine's load by the shares of the first k jobs, times d -/
def wS (t v : Nat → Nat) (i k : Nat) : Nat := smn k (fun j => t (3 * j + i) * v (3 * j + i))
theorem DP.wS_le (h : DP n T t v d num den) {i k : Nat} (hi : i < 3) (hk : k ≤ n) : wS t v i k ≤ T * d := Nat.le_trans (smn_mono hk) (h.2.2.2.2.2.1 i hi)
/-- the fraction, one job on -/
theorem wS_step (h : DP n T t v d num den) {i k : Nat} (hi : i < 3) (hk : k < n) :
    let a := wS t v i k / Nat.gcd (wS t v i k) d
    let b := d / Nat.gcd (wS t v i k) d
    let s := a * den (3 * k + i) + num (3 * k + i) * t (3 * k + i) * b
    s / Nat.gcd s (b * den (3 * k + i)) = wS t v i (k + 1) / Nat.gcd (wS t v i (k + 1)) d ∧ b * den (3 * k + i) / Nat.gcd s (b * den (3 * k + i)) = d / Nat.gcd (wS t v i (k + 1)) d := by
  intro a b s
  have hd := h.1
  obtain ⟨-, h2, -, h4, -, -⟩ := h.cell (show 3 * k + i < 3 * n by omega)
  have hg : 0 < Nat.gcd (wS t v i k) d := Nat.gcd_pos_of_pos_right _ hd
  have f1 : a * Nat.gcd (wS t v i k) d = wS t v i k := Nat.div_mul_cancel (Nat.gcd_dvd_left _ d)
  have f2 : b * Nat.gcd (wS t v i k) d = d := Nat.div_mul_cancel (Nat.gcd_dvd_right _ d)
  have hb : 0 < b := Nat.div_pos (Nat.gcd_le_right _ hd) hg
  have hab : a * d = wS t v i k * b := by
    calc a * d = a * (b * Nat.gcd (wS t v i k) d) := by rw [f2]
      _ = a * Nat.gcd (wS t v i k) d * b := by rw [Nat.mul_comm b, Nat.mul_assoc]
      _ = wS t v i k * b := by rw [f1]
  refine frac_same (Nat.mul_pos hb (by omega)) hd ?_
  have hw : wS t v i (k + 1) = wS t v i k + t (3 * k + i) * v (3 * k + i) := rfl
  rw [hw]
  show (a * den (3 * k + i) + num (3 * k + i) * t (3 * k + i) * b) * d = (wS t v i k + t (3 * k + i) * v (3 * k + i)) * (b * den (3 * k + i))
  generalize den (3 * k + i) = D at h4 ⊢
  generalize num (3 * k + i) = M at h4 ⊢
  generalize t (3 * k + i) = tt
  generalize v (3 * k + i) = vv at h4 ⊢
  generalize wS t v i k = S at hab ⊢
  calc (a * D + M * tt * b) * d = (a * d) * D + (M * d) * (tt * b) := by
        rw [Nat.add_mul, Nat.mul_right_comm a D d, Nat.mul_assoc M tt b, Nat.mul_right_comm M (tt * b) d]
    _ = (S * b) * D + (vv * D) * (tt * b) := by rw [hab, h4]
    _ = (S + tt * vv) * (b * D) := by
        rw [Nat.add_mul, Nat.mul_assoc S b D, Nat.mul_mul_mul_comm vv D tt b, Nat.mul_comm vv tt, Nat.mul_comm D b]
end
section
variable {N n d : Nat} {ti : Nat → Int32} {g v num den : Nat → Nat}
/-- a machine's load by the shares is not above the bound -/
theorem within_spec {Q : Int32 → Prop} {i : Nat} (hN : 1000 ≤ N) (hJ : JI n ti) (h : DP n (tB n ti) (tN ti) v d (sH n ti).1 (sH n ti).2) (hi : i < 3) (hQ : Q 1) : p_L_isWithin N n ti g Q (nI i) (nI (tB n ti)) := by
  have hn := hJ.1
  have hd := h.1
  have hd27 := h.2.1
  have hT := h.2.2.1
  have loop : ∀ (f k : Nat), k ≤ n → n < f + k → p_L_isWithin_8 N n ti g Q f (nI i) (nI (tB n ti)) (lN (wS (tN ti) v i k / Nat.gcd (wS (tN ti) v i k) d)) (lN (d / Nat.gcd (wS (tN ti) v i k) d)) (nI k) := by
    intro f
    induction f with
    | zero => intro k h1 h2; omega
    | succ f ih =>
      intro k h1 h2
      have hS := h.wS_le hi h1
      have hS2 : tB n ti * d ≤ 350 * 27000000 := Nat.mul_le_mul hT hd27
      have ha : wS (tN ti) v i k / Nat.gcd (wS (tN ti) v i k) d ≤ wS (tN ti) v i k := Nat.div_le_self _ _
      have hb : d / Nat.gcd (wS (tN ti) v i k) d ≤ d := Nat.div_le_self _ _
      unfold p_L_isWithin_8
      intro r er
      subst er
      refine ⟨fun hle => ?_, fun hlt => ?_⟩
      · have ek : k = n := by
          have := (nI_leI (by omega) (by omega)).mp hle
          omega
        have hT31 : tB n ti < 2 ^ 31 := by omega
        rw [nI_l hT31, lN_mul]
        have hmul : tB n ti * (d / Nat.gcd (wS (tN ti) v i k) d) ≤ 350 * 27000000 := Nat.mul_le_mul hT (by omega)
        have key : wS (tN ti) v i k / Nat.gcd (wS (tN ti) v i k) d ≤ tB n ti * (d / Nat.gcd (wS (tN ti) v i k) d) := by
          have hg : 0 < Nat.gcd (wS (tN ti) v i k) d := Nat.gcd_pos_of_pos_right _ hd
          have f1 := Nat.div_mul_cancel (Nat.gcd_dvd_left (wS (tN ti) v i k) d)
          have f2 := Nat.div_mul_cancel (Nat.gcd_dvd_right (wS (tN ti) v i k) d)
          refine Nat.le_of_mul_le_mul_right ?_ hg
          rw [f1, Nat.mul_assoc, f2]; exact hS
        exact ⟨fun q => absurd ((pk_lLT (by omega) (by omega)).mp q) (by omega), fun _ => hQ⟩
      · have hk : k < n := by
          rcases Nat.lt_or_ge k n with q | q
          · exact q
          · exact absurd ((nI_leI (by omega) (by omega)).mpr q) hlt
        obtain ⟨c1, c2, c3, c4, c5, c6⟩ := h.cell (show 3 * k + i < 3 * n by omega)
        obtain ⟨t1, t2, -⟩ := tN_le hJ (show 3 * k + i < 3 * n by omega)
        have jk : jOK n (nI k) := ⟨k, hk, rfl⟩
        have ji : jOK 3 (nI i) := ⟨i, hi, rfl⟩
        have ck : (nI k).toNatClampNeg = k := nI_clamp (by omega)
        have ci : (nI i).toNatClampNeg = i := nI_clamp (by omega)
        have hstep := wS_step h hi hk
        dsimp only at hstep
        rw [ck, ci]
        generalize hA : wS (tN ti) v i k / Nat.gcd (wS (tN ti) v i k) d = A at hstep ha ⊢
        generalize hB : d / Nat.gcd (wS (tN ti) v i k) d = B at hstep hb ⊢
        have hB0 : 0 < B := by rw [← hB]; exact Nat.div_pos (Nat.gcd_le_right _ hd) (Nat.gcd_pos_of_pos_right _ hd)
        generalize (sH n ti).2 (3 * k + i) = D at c1 c2 c3 c4 c5 hstep ⊢
        generalize (sH n ti).1 (3 * k + i) = M at c1 c3 c4 c6 hstep ⊢
        have b1 : A * D ≤ 9450000000 * 27000000 := Nat.mul_le_mul (by omega) (by omega)
        have b2 : M * tN ti (3 * k + i) ≤ 27000000 * 50 := Nat.mul_le_mul (by omega) t1
        have b3 : M * tN ti (3 * k + i) * B ≤ 27000000 * 50 * 27000000 := Nat.mul_le_mul b2 (by omega)
        have b4 : B * D ≤ 27000000 * 27000000 := Nat.mul_le_mul (by omega) (by omega)
        have b5 : 0 < B * D := Nat.mul_pos hB0 (by omega)
        refine ⟨jk, ji, fun r4 e4 x8 e8 => ⟨jk, ji, fun r6 e6 x10 e10 => ⟨jk, ji, fun r8 er8 x12 e12 => ?_⟩⟩⟩
        rw [e8, e4.1, nI_l (by omega)] at e12
        rw [e10, e6.1, nI_l (by omega), er8, t2, nI_l (by omega), lN_mul, lN_mul, lN_mul, lN_add] at e12
        rw [e10, e6.1, nI_l (by omega), lN_mul, e12]
        have hg0 : 0 < Nat.gcd (A * D + M * tN ti (3 * k + i) * B) (B * D) := Nat.gcd_pos_of_pos_right _ b5
        have hgl : Nat.gcd (A * D + M * tN ti (3 * k + i) * B) (B * D) ≤ B * D := Nat.gcd_le_right _ b5
        have hnz : ¬ lN (Nat.gcd (A * D + M * tN ti (3 * k + i) * B) (B * D)) = 0 := fun q => by
          rw [← lN_0] at q
          have := lN_inj (by omega) (by decide) q
          omega
        refine common_spec hN (by omega) (by omega) hg0 ⟨hnz, fun x3 e3 => ⟨hnz, fun x5 e5 x7 e7 => ?_⟩⟩
        rw [e3, e5, e7, pk_lDiv (by omega) hg0 (by omega), pk_lDiv (by omega) hg0 (by omega), nI_1, hstep.1, hstep.2]
        exact ih (k + 1) (by omega) (by omega)
  unfold p_L_isWithin
  have e0 : wS (tN ti) v i 0 = 0 := rfl
  have h0 := loop N 0 (by omega) (by omega)
  rw [e0, Nat.gcd_zero_left, Nat.zero_div, Nat.div_self hd, lN_0, show lN 1 = (1 : Int64) from by decide, nI_0] at h0
  exact h0
end
