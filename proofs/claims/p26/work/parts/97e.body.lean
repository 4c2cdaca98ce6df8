/-! one step of the law -/
theorem dm1 {z b : Nat} {B : Int32} (hz : z < 2 ^ 31) (hB : B = nI b) (h0 : 0 < b) (hb : b < 2 ^ 31) : nI z - nI z / B * B = nI (z % b) := by
  rw [hB]; exact pk_rem hz h0 hb
theorem dm2 {z a b : Nat} {A B : Int32} (hz : z < 2 ^ 31) (hA : A = nI a) (a0 : 0 < a) (ha : a < 2 ^ 31) (hB : B = nI b) (h0 : 0 < b) (hb : b < 2 ^ 31) : nI z / A - nI z / A / B * B = nI (z / a % b) := by
  have h1 : z / a ≤ z := Nat.div_le_self _ _
  rw [hA, pk_div hz a0 ha]; exact dm1 (by omega) hB h0 hb
theorem nI_zero {a : Nat} (ha : a < 2 ^ 31) : nI a = 0 ↔ a = 0 := by rw [← nI_0]; exact nI_eq ha (by decide)
/-- the rank of the change, and that it is not above the plan's -/
def RK (n : Nat) (t g : Nat → Nat) (st : Nat × Nat) : Prop := st.1 = rkN n t (app g st.2) ∧ st.1 ≤ rkN n t g
theorem RK.mv {n : Nat} {t g : Nat → Nat} : ∀ {s : Nat}, s ≤ 21 → RK n t g (mvF n t g s) := by
  intro s
  induction s with
  | zero => intro _; exact ⟨by show rkN n t g = rkN n t (app g 1000); unfold app; rw [if_pos rfl], Nat.le_refl _⟩
  | succ s ih =>
    intro hs
    have h0 := ih (by omega)
    show RK n t g (if 0 < t s ∧ s % 3 ≠ g (s / 3) ∧ rkN n t (stp g (s / 3) (s % 3)) < (mvF n t g s).1 then (rkN n t (stp g (s / 3) (s % 3)), s) else mvF n t g s)
    split
    · next h =>
      refine ⟨?_, Nat.le_trans (Nat.le_of_lt h.2.2) h0.2⟩
      show rkN n t (stp g (s / 3) (s % 3)) = rkN n t (app g s)
      unfold app
      rw [if_neg (by omega), if_pos (by omega)]
    · exact h0
theorem RK.sr {n : Nat} {t g : Nat → Nat} {j : Nat} {st : Nat × Nat} (hn : n ≤ 7) (h : RK n t g st) : ∀ {k : Nat}, k ≤ n - j - 1 → j < n → RK n t g (swR n t g j st k) := by
  intro k
  induction k with
  | zero => intro _ _; exact h
  | succ k ih =>
    intro hk hj
    have h0 := ih (by omega) hj
    show RK n t g (if g j ≠ g (j + 1 + k) ∧ 0 < t (3 * j + g (j + 1 + k)) ∧ 0 < t (3 * (j + 1 + k) + g j) ∧ rkN n t (swp g j (j + 1 + k)) < (swR n t g j st k).1 then (rkN n t (swp g j (j + 1 + k)), 100 + 10 * j + (j + 1 + k)) else swR n t g j st k)
    split
    · next q =>
      refine ⟨?_, Nat.le_trans (Nat.le_of_lt q.2.2.2) h0.2⟩
      show rkN n t (swp g j (j + 1 + k)) = rkN n t (app g (100 + 10 * j + (j + 1 + k)))
      unfold app
      rw [if_neg (by omega), if_neg (by omega), show (100 + 10 * j + (j + 1 + k) - 100) / 10 = j by omega, show (100 + 10 * j + (j + 1 + k)) % 10 = j + 1 + k by omega]
    · exact h0
theorem RK.sa {n : Nat} {t g : Nat → Nat} (hn : n ≤ 7) : ∀ {j : Nat}, j ≤ n → RK n t g (swA n t g j) := by
  intro j
  induction j with
  | zero => intro _; exact RK.mv (by omega)
  | succ j ih => intro hj; exact RK.sr hn (ih (by omega)) (Nat.le_refl _) (by omega)
theorem rk_len {n : Nat} {ti : Nat → Int32} {g h : Nat → Nat} (hJ : JI n ti) (hr : rkN n (tN ti) h ≤ rkN n (tN ti) g) : lenN n (tN ti) h ≤ lenN n (tN ti) g := by
  have hn := hJ.1
  have a0 := ldN_le hJ (g := g) (i := 0) (Nat.le_refl n) (by omega)
  have a1 := ldN_le hJ (g := g) (i := 1) (Nat.le_refl n) (by omega)
  have a2 := ldN_le hJ (g := g) (i := 2) (Nat.le_refl n) (by omega)
  unfold rkN at hr
  have m1 : mnN n (tN ti) g ≤ 350 := by unfold mnN; omega
  have m2 : ldN n (tN ti) g 0 + ldN n (tN ti) g 1 + ldN n (tN ti) g 2 - lenN n (tN ti) g - mnN n (tN ti) g ≤ 350 := by unfold mnN lenN; omega
  omega
theorem improve_le {n : Nat} {ti : Nat → Int32} {g : Nat → Nat} (hJ : JI n ti) : lenN n (tN ti) (app g (swA n (tN ti) g n).2) ≤ lenN n (tN ti) g := by
  have h := RK.sa (n := n) (t := tN ti) (g := g) hJ.1 (Nat.le_refl n)
  exact rk_len hJ (by rw [← h.1]; exact h.2)
section
variable {N n : Nat} {ti : Nat → Int32} {g : Nat → Nat} {Q : Int32 → Nat → (Nat → Int32) → (Nat → Nat) → Prop} {K566 : Int32 → Int32 → Nat → (Nat → Int32) → (Nat → Nat) → Prop} {x3 : Int32}
theorem b171 {a b c : Nat} (hn : n ≤ 7) (ha : a ≤ 50) (hb : b ≤ 50) (hc : c ≤ 50) (hK : ∀ n ti g, K566 1 x3 n ti g) : p_L_law_171 N Q K566 x3 (nI n) (nI a) (nI b) (nI c) n ti g := by
  unfold p_L_law_171
  refine ⟨⟨a, by omega, rfl⟩, ⟨b, by omega, rfl⟩, ⟨c, by omega, rfl⟩, fun r n' ti' g' er => ?_⟩
  have za := nI_zero (show a < 2 ^ 31 by omega)
  have zb := nI_zero (show b < 2 ^ 31 by omega)
  have zc := nI_zero (show c < 2 ^ 31 by omega)
  rw [nI_add, nI_add, show (7 : Int32) = nI 7 from by decide]
  refine ⟨fun q => ⟨fun _ => hK _ _ _, fun z => absurd ?_ z⟩, fun q => ⟨fun q7 => ⟨fun _ => hK _ _ _, fun z => absurd ?_ z⟩, fun q7 => ⟨fun _ => hK _ _ _, fun z => absurd ?_ z⟩⟩⟩
  · have := (nI_zero (by omega)).mp q
    rw [er, if_pos ⟨za.mpr (by omega), zb.mpr (by omega), zc.mpr (by omega)⟩]
  · have h1 : ¬ (nI a = 0 ∧ nI b = 0 ∧ nI c = 0) := fun y => q (by rw [za.mp y.1, zb.mp y.2.1, zc.mp y.2.2]; decide)
    have := (nI_leI (by omega) (by omega)).mp q7
    rw [er, if_neg h1, if_neg (by omega)]
  · have h1 : ¬ (nI a = 0 ∧ nI b = 0 ∧ nI c = 0) := fun y => q (by rw [za.mp y.1, zb.mp y.2.1, zc.mp y.2.2]; decide)
    have : ¬ 7 ≤ n := fun y => q7 ((nI_leI (by omega) (by omega)).mpr y)
    rw [er, if_neg h1, if_pos (by omega)]
theorem b143 {a b z : Nat} (hn : n ≤ 7) (hz : z < 2 ^ 31) (ha : a ≤ 50) (hb : b ≤ 50) (hK : ∀ n ti g, K566 1 x3 n ti g) : p_L_law_143 N Q K566 x3 (nI z) (nI n) (nI a) (nI b) n ti g := by
  unfold p_L_law_143
  refine ⟨fun _ => ?_, fun _ => ?_⟩
  · rw [← nI_0]; exact b171 hn ha hb (by omega) hK
  · rw [dm2 (a := 1920) (b := 12) hz (by decide) (by omega) (by omega) (by decide) (by omega) (by omega), show (1 : Int32) = nI 1 from by decide, nI_add]
    exact b171 hn ha hb (by omega) hK
theorem b117 {a z : Nat} (hn : n ≤ 7) (hz : z < 2 ^ 31) (ha : a ≤ 50) (hK : ∀ n ti g, K566 1 x3 n ti g) : p_L_law_117 N Q K566 x3 (nI z) (nI n) (nI a) n ti g := by
  unfold p_L_law_117
  refine ⟨fun _ => ?_, fun _ => ?_⟩
  · rw [← nI_0]; exact b143 hn hz ha (by omega) hK
  · rw [dm2 (a := 64) (b := 9) hz (by decide) (by omega) (by omega) (by decide) (by omega) (by omega), show (1 : Int32) = nI 1 from by decide, nI_add]
    exact b143 hn hz ha (by omega) hK
theorem b529 {z : Nat} {x10 : Int32} (hz : z < 2 ^ 31) (hx : z % 4 = 0 → x10 = nI (tkN n g (rD n ti))) (hK : ∀ n ti g, K566 1 x3 n ti g) : p_L_law_529 N Q K566 1 x3 (nI z) x10 n ti g := by
  unfold p_L_law_529
  rw [dm1 (b := 4) hz (by decide) (by omega) (by omega)]
  refine ⟨fun q => absurd q (by decide), fun _ => ⟨fun _ => hK _ _ _, fun q r3 g4 e3 => ?_⟩⟩
  have h4 : z % 4 = 0 := by
    rcases Nat.eq_zero_or_pos (z % 4) with y | y
    · exact y
    · exact absurd (by rw [← nI_0]; exact nI_lt y (by omega)) q
  obtain ⟨⟨e3, -⟩, e4⟩ := e3
  refine ⟨fun _ r6 e6 r7 e7 => ⟨fun _ => hK _ _ _, fun y => absurd (by rw [e6, e7.1, e4]) y⟩, fun y => absurd (by rw [e3, hx h4]) y⟩
theorem b484 {z : Nat} (hG : Good n ti g) (hz : z < 2 ^ 31) (hK : ∀ n ti g, K566 1 x3 n ti g) : ∀ (f k : Nat), k ≤ n → n < f + k → p_L_law_484 N Q K566 f 1 x3 (nI z) (nI n) (nI (tkN k g (rD n ti))) (nI k) n ti g := by
  have hn := hG.1.1
  intro f
  induction f with
  | zero => intro k h1 h2; omega
  | succ f ih =>
    intro k h1 h2
    unfold p_L_law_484
    rw [dm1 (b := 4) hz (by decide) (by omega) (by omega), nI_zero (by omega)]
    refine ⟨fun q => ?_, fun q => ⟨fun q4 => ?_, fun q4 => b529 hz (fun y => absurd y q4) hK⟩⟩
    · have ek : k = n := by
        have := (nI_leI (by omega) (by omega)).mp q
        omega
      subst ek
      exact b529 hz (fun _ => rfl) hK
    · have hk : k < n := by
        rcases Nat.lt_or_ge k n with y | y
        · exact y
        · exact absurd ((nI_leI (by omega) (by omega)).mpr y) q
      have ck : (nI k).toNatClampNeg = k := nI_clamp (by omega)
      have jk : jOK n (nI k) := ⟨k, hk, rfl⟩
      have hg3 := (hG.2 k hk).1
      have hnext := ih (k + 1) (by omega) (by omega)
      have et : tkN (k + 1) g (rD n ti) = tkN k g (rD n ti) + if g k = rD n ti k then 0 else 1 := rfl
      rw [et] at hnext
      rw [ck]
      refine ⟨jk, fun r3 e3 => ⟨jk, fun r4 e4 => ?_⟩⟩
      have hr3 := (e4.2.2.1.1.1 k hk).1
      rw [e3, e4.1, nI_eq (by omega) (by omega)]
      refine ⟨fun q3 x10 e10 x11 e11 => ?_, fun q3 x10 e10 x11 e11 => ?_⟩
      · rw [if_pos q3] at hnext
        rw [e10, e11, nI_1, ← nI_0, nI_add]; exact hnext
      · rw [if_neg q3] at hnext
        rw [e10, e11, nI_1, nI_1]; exact hnext
theorem b477 {z : Nat} (hN : 1000 ≤ N) (hG : Good n ti g) (hz : z < 2 ^ 31) (hK : ∀ n ti g, K566 1 x3 n ti g) : p_L_law_477 N Q K566 x3 (nI z) (nI n) 1 n ti g := by
  have hn := hG.1.1
  unfold p_L_law_477
  have h0 := b484 (N := N) (Q := Q) hG hz hK N 0 (by omega) (by omega)
  rw [show tkN 0 g (rD n ti) = 0 from rfl, nI_0] at h0
  exact h0
theorem b421 {z : Nat} (hN : 1000 ≤ N) (hG : Good n ti g) (hz : z < 2 ^ 31) (hK : ∀ n ti g, K566 1 x3 n ti g) : p_L_law_421 N Q K566 x3 (nI z) (nI n) n ti g := by
  have hJ := hG.1
  have b1 := lenN_le hJ (g := g)
  have b2 := lenN_le hJ (g := app g (swA n (tN ti) g n).2)
  have hle := improve_le hJ (g := g)
  unfold p_L_law_421
  intro r1 e1 r2 g3 e2
  obtain ⟨e2, eg⟩ := e2
  have h477 : p_L_law_477 N Q K566 x3 (nI z) (nI n) 1 n ti g3 := b477 hN (by rw [eg]; exact hG.improved) hz hK
  by_cases q : (swA n (tN ti) g n).2 = 1000
  · rw [if_pos q] at e2
    have eapp : app g (swA n (tN ti) g n).2 = g := by rw [q]; unfold app; rw [if_pos rfl]
    rw [eapp] at eg
    exact ⟨fun _ r8 e8 => ⟨fun _ => h477, fun y => absurd (by rw [e8, e1, eg]) y⟩, fun y => absurd e2 y⟩
  · rw [if_neg q] at e2
    refine ⟨fun y => absurd (e2.symm.trans y) (nI_ne_m1 (by omega)), fun _ => ⟨fun y => ?_, fun _ r6 e6 => ⟨fun _ => h477, fun y => absurd (by rw [e6, e2, eg]) y⟩⟩⟩
    rw [e1, e2] at y
    exact absurd ((nI_ltI (by omega) (by omega)).mp y) (by omega)
theorem b313 {y z j : Nat} (hN : 1000 ≤ N) (hG : Good n ti g) (hy : y < 2 ^ 31) (hz : z < 2 ^ 31) (hj : 0 < n → j < n) (hK : ∀ n ti g, K566 1 x3 n ti g) : p_L_law_313 N Q K566 x3 (nI y) (nI z) (nI n) (nI j) n ti g := by
  have hJ := hG.1
  have hn := hJ.1
  have h421 := b421 (N := N) (Q := Q) hN hG hz hK
  have e7 := dm2 (z := z) (a := 7) (b := 3) (A := 7) (B := 3) hz (by decide) (by omega) (by omega) (by decide) (by omega) (by omega)
  unfold p_L_law_313
  refine ⟨fun _ r12 n13 er => ⟨fun q => ⟨fun _ => hK _ _ _, fun w => absurd ?_ w⟩, fun q => ⟨fun _ => hK _ _ _, fun w => absurd ?_ w⟩⟩, fun _ => ⟨fun _ => ⟨fun _ => h421, fun q x8 e8 => ?_⟩, fun _ => h421⟩⟩
  · rw [er, if_pos ((nI_zero (by omega)).mp q)]
  · have h0 : ¬ n = 0 := fun w => q ((nI_zero (by omega)).mpr w)
    rw [er, if_neg h0, show (1 : Int32) = nI 1 from by decide, pk_sub (by omega)]
  · rw [e7] at e8
    have h0 : 0 < n := by
      rcases Nat.eq_zero_or_pos n with w | w
      · exact absurd (by rw [w, nI_0]; decide) q
      · exact w
    have hjn := hj h0
    have cj : (nI j).toNatClampNeg = j := nI_clamp (by omega)
    have c8 : (nI (z / 7 % 3)).toNatClampNeg = z / 7 % 3 := nI_clamp (by omega)
    have jj : jOK n (nI j) := ⟨j, hjn, rfl⟩
    have j8 : jOK 3 (nI (z / 7 % 3)) := ⟨_, by omega, rfl⟩
    have hc : 3 * j + z / 7 % 3 < 3 * n := by omega
    obtain ⟨t1, t2, -⟩ := tN_le hJ hc
    rw [e8, cj, c8]
    refine ⟨jj, fun r5 e5 => ⟨jj, j8, fun r6 g7 e6 => ⟨jj, j8, fun r8 e8' => ⟨fun q8 => ⟨fun _ => hK _ _ _, fun w => absurd ?_ w⟩, fun q8 => ⟨fun _ => hK _ _ _, fun w => absurd ?_ w⟩⟩⟩⟩⟩
    · have : tN ti (3 * j + z / 7 % 3) = 0 := by
        rw [e8', t2, ← nI_0] at q8
        have := (nI_leI (by omega) (by omega)).mp q8
        omega
      rw [e6, t2, this, nI_0, if_pos rfl]
    · have : ¬ ti (3 * j + z / 7 % 3) = 0 := fun v => q8 (by rw [e8', v]; decide)
      rw [e6, if_neg this, e5]
theorem b74 {y z j : Nat} (hN : 1000 ≤ N) (hG : Good n ti g) (hy : y < 2 ^ 31) (hz : z < 2 ^ 31) (hj : 0 < n → j < n) (hK : ∀ n ti g, K566 1 x3 n ti g) : p_L_law_74 N Q K566 x3 (nI y) (nI z) (nI n) (nI j) n ti g := by
  have hJ := hG.1
  have hn := hJ.1
  have h313 := b313 (N := N) (Q := Q) hN hG hy hz hj hK
  have e7 := dm2 (z := z) (a := 7) (b := 3) (A := 7) (B := 3) hz (by decide) (by omega) (by omega) (by decide) (by omega) (by omega)
  have e21 := dm2 (z := z) (a := 21) (b := 12) (A := 21) (B := 12) hz (by decide) (by omega) (by omega) (by decide) (by omega) (by omega)
  have e50 := dm2 (z := z) (a := 4) (b := 50) (A := 4) (B := 50) hz (by decide) (by omega) (by omega) (by decide) (by omega) (by omega)
  have e9 := dm2 (z := z) (a := 4) (b := 9) (A := 4) (B := 9) hz (by decide) (by omega) (by omega) (by decide) (by omega) (by omega)
  have e1 : (1 : Int32) = nI 1 := by decide
  unfold p_L_law_74
  refine ⟨fun _ => ⟨fun _ => ⟨fun _ => h313, fun q x8 e8 => ?_⟩, fun _ => h313⟩, fun _ => ⟨fun _ => ?_, fun _ => ⟨fun _ => ?_, fun _ => ?_⟩⟩⟩
  · rw [e7] at e8
    have h0 : 0 < n := by
      rcases Nat.eq_zero_or_pos n with w | w
      · exact absurd (by rw [w, nI_0]; decide) q
      · exact w
    have hjn := hj h0
    have cj : (nI j).toNatClampNeg = j := nI_clamp (by omega)
    have c8 : (nI (z / 7 % 3)).toNatClampNeg = z / 7 % 3 := nI_clamp (by omega)
    have jj : jOK n (nI j) := ⟨j, hjn, rfl⟩
    have j8 : jOK 3 (nI (z / 7 % 3)) := ⟨_, by omega, rfl⟩
    rw [e8, cj, c8]
    refine ⟨jj, j8, fun r5 e5 x10 e10 => ?_⟩
    rw [e21] at e10
    rw [e10]
    refine ⟨jj, j8, ⟨_, by omega, rfl⟩, fun r7 ti8 er => ⟨fun q10 => ⟨jj, fun r11 e11 => ⟨fun q11 => ⟨fun _ => hK _ _ _, fun w => absurd ?_ w⟩, fun q11 => ⟨fun _ => hK _ _ _, fun w => absurd ?_ w⟩⟩⟩, fun q10 => ⟨fun _ => hK _ _ _, fun w => absurd ?_ w⟩⟩⟩
    · rw [er, if_pos ⟨q10, e11.symm.trans q11⟩]
    · rw [er, if_neg (fun v => q11 (e11.trans v.2)), e5]
    · rw [er, if_neg (fun v => q10 v.1), e5]
  · rw [← nI_0]; exact b117 hn hz (by omega) hK
  · rw [e50, e1, nI_add]
    exact b117 hn hz (by omega) hK
  · rw [e9, e1, nI_add]
    exact b117 hn hz (by omega) hK
theorem body_spec {y : Nat} (hN : 1000 ≤ N) (hG : Good n ti g) (hy : y < 2 ^ 31) (hK : ∀ n ti g, K566 1 x3 n ti g) : p_L_law_45 N Q K566 x3 (nI y) n ti g := by
  have hn := hG.1.1
  have hz : y / 8 < 2 ^ 31 := by omega
  unfold p_L_law_45
  intro x5 e5 r2 e2
  rw [show (8 : Int32) = nI 8 from by decide, pk_div hy (by omega) (by omega)] at e5
  rw [e5, e2]
  refine ⟨fun q => ?_, fun q => ⟨q, ?_⟩⟩
  · have h0 := (nI_zero (by omega)).mp q
    rw [← nI_0]
    exact b74 hN hG hy hz (fun w => by omega) hK
  · have h0 : 0 < n := by
      rcases Nat.eq_zero_or_pos n with w | w
      · exact absurd (by rw [w]; exact nI_0) q
      · exact w
    rw [pk_rem hz h0 (by omega)]
    exact b74 hN hG hy hz (fun _ => Nat.mod_lt _ h0) hK
end
