/-! the component's calls -/
theorem wmN_num {num den : Nat → Nat} {j : Nat} (h : wmN num den j < 3) : num (3 * j + wmN num den j) = den (3 * j + wmN num den j) := by
  have h0 := h
  unfold wmN at h
  by_cases e0 : num (3 * j) = den (3 * j)
  · have e : wmN num den j = 0 := by unfold wmN; rw [if_pos e0]
    rw [e]; exact e0
  · by_cases e1 : num (3 * j + 1) = den (3 * j + 1)
    · have e : wmN num den j = 1 := by unfold wmN; rw [if_neg e0, if_pos e1]
      rw [e]; exact e1
    · by_cases e2 : num (3 * j + 2) = den (3 * j + 2)
      · have e : wmN num den j = 2 := by unfold wmN; rw [if_neg e0, if_neg e1, if_pos e2]
        rw [e]; exact e2
      · rw [if_neg e0, if_neg e1, if_neg e2] at h; omega
/-- the rounded plan can be done -/
theorem RD.feas {n : Nat} {ti : Nat → Int32} {num den gr : Nat → Nat} (hJ : JI n ti) (hN : ND n (tmI ti) num den) (hR : RD n num den gr) : feas n (tN ti) gr := fun j hj => by
  obtain ⟨h1, h2, h3⟩ := hR.1.1 j hj
  have hRP := hN.rp hJ.1
  have hnum : 0 < num (3 * j + gr j) := by
    by_cases e : wmN num den j = 3
    · exact h3 e
    · have := wmN_le (num := num) (den := den) (j := j)
      have e2 := h2 (by omega)
      have e3 := wmN_num (show wmN num den j < 3 by omega)
      rw [← e2] at e3
      exact ((hRP.2.1 (3 * j + gr j) (by omega)).2.2.mp e3).1
  obtain ⟨T, v, d, hB, hM, -, hv⟩ := hN
  have hd : 0 < d := by have := hM.1; omega
  rw [(hv _ (by omega)).1] at hnum
  have hvp := (frac_zero hd).mp hnum
  have hok : okC T (tmI ti) (3 * j + gr j) := Classical.byContradiction (fun q => by
    have := hM.2.1.2.1 (3 * j + gr j) (by omega) q
    have e : ((v (3 * j + gr j) : Nat) : Int) = 0 := this
    omega)
  obtain ⟨t1, -, t3⟩ := tN_le hJ (show 3 * j + gr j < 3 * n by omega)
  have := hok.1
  exact ⟨h1, by omega⟩
theorem GF.feas {n : Nat} {ti : Nat → Int32} {g : Nat → Nat} {st : Nat × Nat} (hG : Good n ti g) (h : GF n (tN ti) g st) : feas n (tN ti) (app g st.2) := fun j hj => by
  have hn := hG.1.1
  have hgj := hG.2 j hj
  unfold app
  rcases h.2 with e | ⟨e, ht⟩ | ⟨a, o, h1, h2, e, p1, p2⟩
  · rw [if_pos e]; exact hgj
  · rw [if_neg (by omega), if_pos (by omega)]
    show (if j = st.2 / 3 then st.2 % 3 else g j) < 3 ∧ 0 < tN ti (3 * j + if j = st.2 / 3 then st.2 % 3 else g j)
    by_cases q : j = st.2 / 3
    · rw [if_pos q, show 3 * j + st.2 % 3 = st.2 by omega]; exact ⟨by omega, ht⟩
    · rw [if_neg q]; exact hgj
  · rw [if_neg (by omega), if_neg (by omega), e, show (100 + 10 * a + o - 100) / 10 = a by omega, show (100 + 10 * a + o) % 10 = o by omega]
    show (if j = o then g a else if j = a then g o else g j) < 3 ∧ 0 < tN ti (3 * j + if j = o then g a else if j = a then g o else g j)
    by_cases q : j = o
    · rw [if_pos q, q]; exact ⟨(hG.2 a (by omega)).1, p2⟩
    · rw [if_neg q]
      by_cases r : j = a
      · rw [if_pos r, r]; exact ⟨(hG.2 o h2).1, p1⟩
      · rw [if_neg r]; exact hgj
section
variable {N n : Nat} {ti oma : Nat → Int32} {g : Nat → Nat} {x1 x2 x3 : Int32} {QX : String → Prop}
theorem s_time {Q : Int32 → Prop} (hG : Good n ti g) (q : jOK n x1 → jOK 3 x2 → Q (ti (3 * (x1).toNatClampNeg + (x2).toNatClampNeg))) (qx : ¬ (jOK n x1 ∧ jOK 3 x2) → QX "java/lang/IndexOutOfBoundsException") : p_X6_time N ti (nI n) Q QX x1 x2 := by
  have hn := hG.1.1
  unfold p_X6_time
  refine requireJob_spec hn (fun o1 => requireMachine_spec (fun o2 => ?_) (fun o => qx (fun r => o r.2))) (fun o => qx (fun r => o r.1))
  obtain ⟨h1, e1⟩ := o1.at (by omega)
  obtain ⟨h2, e2⟩ := o2.at (by omega)
  rw [e1, e2]
  exact timeOn_spec hn h1 h2 (q o1 o2)
theorem s_machine {Q : Int32 → Prop} (hn : n ≤ 7) (hp : PL n oma g) (q : jOK n x1 → Q (nI (g ((x1).toNatClampNeg)))) (qx : ¬ jOK n x1 → QX "java/lang/IndexOutOfBoundsException") : p_X6_machine N (nI n) oma Q QX x1 := by
  unfold p_X6_machine
  refine requireJob_spec hn (fun o1 => ?_) qx
  obtain ⟨h1, e1⟩ := o1.at (by omega)
  have := q o1
  rw [(hp _ h1).1]
  refine ⟨?_, this⟩
  rw [e1]; exact vp_in_nI (by omega) (by decide)
theorem s_load {Q : Int32 → Prop} (hN : 100 ≤ N) (hG : Good n ti g) (hp : PL n oma g) (q : jOK 3 x1 → Q (nI (ldN n (tN ti) g ((x1).toNatClampNeg)))) (qx : ¬ jOK 3 x1 → QX "java/lang/IndexOutOfBoundsException") : p_X6_load N ti (nI n) oma Q QX x1 := by
  unfold p_X6_load
  refine requireMachine_spec (fun o1 => ?_) qx
  obtain ⟨h1, e1⟩ := o1.at (by omega)
  have := q o1
  rw [e1]
  exact loadOn_spec hN hG.1 hp h1 this
theorem s_assign {Q : Int32 → (Nat → Int32) → Prop} (hG : Good n ti g) (hp : PL n oma g) (q : jOK n x1 → jOK 3 x2 → ti (3 * (x1).toNatClampNeg + (x2).toNatClampNeg) ≠ 0 → ∀ oma', PL n oma' (stp g ((x1).toNatClampNeg) ((x2).toNatClampNeg)) → Q (nI (g ((x1).toNatClampNeg))) oma') (q2 : jOK n x1 → jOK 3 x2 → ti (3 * (x1).toNatClampNeg + (x2).toNatClampNeg) = 0 → QX "java/lang/IllegalStateException") (qx : ¬ (jOK n x1 ∧ jOK 3 x2) → QX "java/lang/IndexOutOfBoundsException") : p_X6_assign N ti (nI n) Q QX x1 x2 oma := by
  have hn := hG.1.1
  unfold p_X6_assign
  refine requireJob_spec hn (fun o1 => requireMachine_spec (fun o2 => ?_) (fun o => qx (fun r => o r.2))) (fun o => qx (fun r => o r.1))
  obtain ⟨h1, e1⟩ := o1.at (by omega)
  obtain ⟨h2, e2⟩ := o2.at (by omega)
  have hin : vp_in x1 7 := by rw [e1]; exact vp_in_nI (by omega) (by decide)
  have hq := q o1 o2
  have hq2 := q2 o1 o2
  have main : p_X1_timeOn N ti (nI n) (fun r_1 => (r_1 = 0 → (QX "java/lang/IllegalStateException")) ∧ (¬ r_1 = 0 → (vp_in x1 7 ∧ (∀ x3_4 : Int32, x3_4 = oma (x1).toNatClampNeg → (vp_in x1 7 ∧ (Q x3_4 (upd oma (x1).toNatClampNeg x2))))))) (nI ((x1).toNatClampNeg)) (nI ((x2).toNatClampNeg)) := by
    refine timeOn_spec hn h1 h2 ⟨hq2, fun ne => ⟨hin, fun x3 e3 => ⟨hin, ?_⟩⟩⟩
    rw [e3, (hp _ h1).1, e2]
    have := hq ne (upd oma ((x1).toNatClampNeg) (nI ((x2).toNatClampNeg))) (PL.set (fun i hi _ => hp i hi) h2)
    exact this
  rw [← e1, ← e2] at main
  exact main
theorem s_setTime {Q : Int32 → Int32 → Int32 → (Nat → Int32) → Prop} {ss ds : Int32} (hG : Good n ti g) (hp : PL n oma g) (q : jOK n x1 → jOK 3 x2 → jOK 51 x3 → ¬ (x3 = 0 ∧ nI (g ((x1).toNatClampNeg)) = x2) → Q (ti (3 * (x1).toNatClampNeg + (x2).toNatClampNeg)) 0 0 (upd ti (3 * (x1).toNatClampNeg + (x2).toNatClampNeg) x3)) (q3 : jOK n x1 → jOK 3 x2 → jOK 51 x3 → x3 = 0 ∧ nI (g ((x1).toNatClampNeg)) = x2 → QX "java/lang/IllegalStateException") (q2 : jOK n x1 → jOK 3 x2 → ¬ jOK 51 x3 → QX "java/lang/IllegalArgumentException") (qx : ¬ (jOK n x1 ∧ jOK 3 x2) → QX "java/lang/IndexOutOfBoundsException") : p_X6_setTime N (nI n) oma Q QX x1 x2 x3 ss ds ti := by
  have hn := hG.1.1
  unfold p_X6_setTime
  refine requireJob_spec hn (fun o1 => requireMachine_spec (fun o2 => isTime_spec (fun o3 => ⟨fun h => absurd h n10, fun _ => ?_⟩) (fun o3 => ⟨fun _ => q2 o1 o2 o3, fun h => absurd rfl h⟩)) (fun o => qx (fun r => o r.2))) (fun o => qx (fun r => o r.1))
  obtain ⟨h1, e1⟩ := o1.at (by omega)
  obtain ⟨h2, e2⟩ := o2.at (by omega)
  have hin : vp_in x1 7 := by rw [e1]; exact vp_in_nI (by omega) (by decide)
  have eix : x1 * (3 : Int32) + x2 = nI (3 * (x1).toNatClampNeg + (x2).toNatClampNeg) := by
    have := share_ix (j := (x1).toNatClampNeg) (i := (x2).toNatClampNeg) (by omega) h2
    rw [← e1, ← e2] at this
    exact this
  have go : ¬ (x3 = 0 ∧ nI (g ((x1).toNatClampNeg)) = x2) → p_X1_timeOn N ti (nI n) (fun r_10 => vp_in ((x1 * (3 : Int32)) + x2) 21 ∧ (p_X6_forgetResults N (fun ss_12 ds_13 => Q r_10 ss_12 ds_13 (upd ti ((x1 * (3 : Int32)) + x2).toNatClampNeg x3)) ss ds)) x1 x2 := fun hne => by
    have main : p_X1_timeOn N ti (nI n) (fun r_10 => vp_in ((x1 * (3 : Int32)) + x2) 21 ∧ (p_X6_forgetResults N (fun ss_12 ds_13 => Q r_10 ss_12 ds_13 (upd ti ((x1 * (3 : Int32)) + x2).toNatClampNeg x3)) ss ds)) (nI ((x1).toNatClampNeg)) (nI ((x2).toNatClampNeg)) := by
      refine timeOn_spec hn h1 h2 ?_
      rw [eix, nI_clamp (show 3 * (x1).toNatClampNeg + (x2).toNatClampNeg < 2 ^ 31 by omega)]
      exact ⟨vp_in_nI (by omega) (by decide), q o1 o2 o3 hne⟩
    rw [← e1, ← e2] at main
    exact main
  have ho : oma x1.toNatClampNeg = nI (g ((x1).toNatClampNeg)) := (hp _ h1).1
  refine ⟨fun hz => ⟨hin, fun he => q3 o1 o2 o3 ⟨hz, by rw [← ho]; exact he⟩, fun hne => go (fun r => hne (by rw [ho]; exact r.2))⟩, fun hnz => go (fun r => hnz r.1)⟩
/-- the machine of a new job in the own plan -/
noncomputable def lowm (x1 x2 : Int32) : Nat := if x1 ≤ 0 then (if x2 ≤ 0 then 2 else 1) else 0
def upJ (ti : Nat → Int32) (n : Nat) (x1 x2 x3 : Int32) : Nat → Int32 := upd (upd (upd ti (3 * n) x1) (3 * n + 1) x2) (3 * n + 2) x3
def tAll (x1 x2 x3 : Int32) : Prop := jOK 51 x1 ∧ jOK 51 x2 ∧ jOK 51 x3 ∧ ¬ (x1 = 0 ∧ x2 = 0 ∧ x3 = 0)
theorem s_addJob {Q : Int32 → Int32 → Int32 → (Nat → Int32) → Int32 → (Nat → Int32) → Prop} {ss ds : Int32} (hn : n ≤ 7) (hp : PL n oma g) (q : tAll x1 x2 x3 → n < 7 → ∀ oma', PL (n + 1) oma' (stp g n (lowm x1 x2)) → Q (nI n) 0 0 (upJ ti n x1 x2 x3) (nI (n + 1)) oma') (q2 : tAll x1 x2 x3 → ¬ n < 7 → QX "java/lang/IllegalStateException") (qx : ¬ tAll x1 x2 x3 → QX "java/lang/IllegalArgumentException") : p_X6_addJob N Q QX x1 x2 x3 ss ds ti (nI n) oma := by
  have ix0 : nI n * (3 : Int32) = nI (3 * n) := by rw [show (3 : Int32) = nI 3 from by decide, pk_mul, Nat.mul_comm]
  have setL : ∀ k, k < 3 → PL (n + 1) (upd oma n (nI k)) (stp g n k) := fun k hk => PL.set (fun i hi e => hp i (by omega)) hk
  have tail : tAll x1 x2 x3 → p_X6_addJob_53 N Q QX x1 x2 x3 ss ds ti (nI n) oma := fun o => by
    unfold p_X6_addJob_53
    refine ⟨fun h => absurd h (nI_pos (by omega)), fun _ => ⟨fun h f3 e3 => ?_, fun h => q2 o (fun hl => h ?_)⟩⟩
    · have hl : n < 7 := (nI_ltI (a := n) (b := 7) (by omega) (by omega)).mp (by rw [show nI 7 = (7 : Int32) from by decide]; exact h)
      have hq := q o hl
      rw [e3, nI_1, ix0, nI_1, show (2 : Int32) = nI 2 from by decide, nI_add, nI_clamp (show 3 * n < 2 ^ 31 by omega), nI_clamp (show 3 * n + 1 < 2 ^ 31 by omega), nI_clamp (show 3 * n + 2 < 2 ^ 31 by omega), nI_clamp (show n < 2 ^ 31 by omega)]
      have hin : vp_in (nI n) 7 := vp_in_nI (by omega) (by decide)
      unfold lowm at hq
      refine ⟨vp_in_nI (by omega) (by decide), vp_in_nI (by omega) (by decide), vp_in_nI (by omega) (by decide), fun h1 => ⟨fun h2 => ⟨hin, ?_⟩, fun h2 => ⟨hin, ?_⟩⟩, fun h1 => ⟨hin, ?_⟩⟩
      · rw [if_pos h1, if_pos h2] at hq
        exact hq _ (setL 2 (by omega))
      · rw [if_pos h1, if_neg h2] at hq
        exact hq _ (setL 1 (by omega))
      · rw [if_neg h1] at hq
        exact hq _ (setL 0 (by omega))
    · rw [show (7 : Int32) = nI 7 from by decide]; exact nI_lt hl (by omega)
  unfold p_X6_addJob
  refine isTime_spec (fun o1 => ⟨fun h => absurd h n10, fun _ => isTime_spec (fun o2 => ⟨fun h => absurd h n10, fun _ => isTime_spec (fun o3 => ⟨fun h => absurd h n10, fun _ => ?_⟩) (fun o => ⟨fun _ => qx (fun r => o r.2.2.1), fun h => absurd rfl h⟩)⟩) (fun o => ⟨fun _ => qx (fun r => o r.2.1), fun h => absurd rfl h⟩)⟩) (fun o => ⟨fun _ => qx (fun r => o r.1), fun h => absurd rfl h⟩)
  exact ⟨fun z1 => ⟨fun z2 => ⟨fun z3 => qx (fun r => r.2.2.2 ⟨z1, z2, z3⟩), fun z3 => tail ⟨o1, o2, o3, fun r => z3 r.2.2⟩⟩, fun z2 => tail ⟨o1, o2, o3, fun r => z2 r.2.1⟩⟩, fun z1 => tail ⟨o1, o2, o3, fun r => z1 r.1⟩⟩
theorem s_removeLast {Q : Int32 → Int32 → Int32 → Int32 → Prop} {ss ds : Int32} (hn : n ≤ 7) (q : 0 < n → Q (nI (n - 1)) 0 0 (nI (n - 1))) (q0 : n = 0 → Q (-1) ss ds (nI 0)) : p_X6_removeLast N Q ss ds (nI n) := by
  unfold p_X6_removeLast
  refine ⟨fun h f2 e2 => ?_, fun h => ?_⟩
  · have hp : 0 < n := (nI_ltI (a := 0) (b := n) (by omega) (by omega)).mp (by rw [nI_0]; exact h)
    rw [e2, show (1 : Int32) = nI 1 from by decide, pk_sub (by omega)]
    exact q hp
  · have hz : n = 0 := by
      rcases Nat.eq_zero_or_pos n with r | r
      · exact r
      · exact absurd (show (0 : Int32) < nI n by rw [← nI_0]; exact nI_lt r (by omega)) h
    have := q0 hz
    rw [hz]; exact this
theorem s_shortest {Q : Int32 → Int32 → (Nat → Int32) → (Nat → Int32) → (Nat → Int32) → Int32 → Prop} {ss pbl : Int32} {plo pch pbe : Nat → Int32} (hN : 600000 ≤ N) (hG : Good n ti g) (hS : ss ≠ 0 → SInv n ti pbl pbe) (q : ∀ ss plo pch pbe pbl, SInv n ti pbl pbe → Q (nI (bP n ti).2) ss plo pch pbe pbl) : p_X6_shortest N ti (nI n) Q ss plo pch pbe pbl := by
  unfold p_X6_shortest
  refine refreshSearch_spec hN hG hS (fun ss plo pch pbe pbl h => ?_)
  have := q ss plo pch pbe pbl h
  rw [← h.2.2.1] at this
  exact this
theorem bP_ex (hG : Good n ti g) : ∃ f L, Best n (tN ti) f L := by
  -- found by the search itself
  have := find_spec (N := 100) (ti := ti) (n := n) (plo := fun _ => 0) (pch := fun _ => 0) (pbe := fun _ => 0) (pbl := 0) (Q := fun _ _ _ _ => ∃ f L, Best n (tN ti) f L) (Nat.le_refl _) hG.1 ⟨g, hG.2⟩ (fun _ _ _ L f h _ _ => ⟨f, L, h⟩)
  have he : ∀ (N d : Nat) (ti : Nat → Int32) (co : Int32) (P : Prop) (job : Int32) (plo pch pbe : Nat → Int32) (pbl : Int32), True := fun _ _ _ _ _ _ _ _ _ _ => trivial
  exact Classical.byContradiction (fun hno => by
    have key := fun (L : Nat) => Classical.em (∃ f, feas n (tN ti) f ∧ lenN n (tN ti) f = L)
    clear he
    -- the least length, then the least number
    have hlen : ∃ L, (∃ f, feas n (tN ti) f ∧ lenN n (tN ti) f = L) ∧ ∀ L', (∃ f, feas n (tN ti) f ∧ lenN n (tN ti) f = L') → L ≤ L' := by
      have wf : ∀ m L, L ≤ m → (∃ f, feas n (tN ti) f ∧ lenN n (tN ti) f = L) → ∃ L, (∃ f, feas n (tN ti) f ∧ lenN n (tN ti) f = L) ∧ ∀ L', (∃ f, feas n (tN ti) f ∧ lenN n (tN ti) f = L') → L ≤ L' := by
        intro m
        induction m with
        | zero => intro L hL hf; exact ⟨L, hf, fun L' _ => by omega⟩
        | succ m ih =>
          intro L hL hf
          by_cases q : ∃ L', L' < L ∧ ∃ f, feas n (tN ti) f ∧ lenN n (tN ti) f = L'
          · obtain ⟨L', h1, h2⟩ := q
            exact ih L' (by omega) h2
          · exact ⟨L, hf, fun L' h2 => by
              rcases Nat.lt_or_ge L' L with r | r
              · exact absurd ⟨L', r, h2⟩ q
              · exact r⟩
      exact wf _ _ (Nat.le_refl _) ⟨g, hG.2, rfl⟩
    obtain ⟨L, ⟨f0, hf0, hl0⟩, hmin⟩ := hlen
    have hcode : ∃ c, (∃ f, feas n (tN ti) f ∧ lenN n (tN ti) f = L ∧ cdv dvT n f = c) ∧ ∀ f, feas n (tN ti) f → lenN n (tN ti) f = L → c ≤ cdv dvT n f := by
      have wf : ∀ m c, c ≤ m → (∃ f, feas n (tN ti) f ∧ lenN n (tN ti) f = L ∧ cdv dvT n f = c) → ∃ c, (∃ f, feas n (tN ti) f ∧ lenN n (tN ti) f = L ∧ cdv dvT n f = c) ∧ ∀ f, feas n (tN ti) f → lenN n (tN ti) f = L → c ≤ cdv dvT n f := by
        intro m
        induction m with
        | zero => intro c hc hf; exact ⟨c, hf, fun f _ _ => by omega⟩
        | succ m ih =>
          intro c hc hf
          by_cases q : ∃ f, feas n (tN ti) f ∧ lenN n (tN ti) f = L ∧ cdv dvT n f < c
          · obtain ⟨f, h1, h2, h3⟩ := q
            exact ih _ (by omega) ⟨f, h1, h2, rfl⟩
          · exact ⟨c, hf, fun f h1 h2 => by
              rcases Nat.lt_or_ge (cdv dvT n f) c with r | r
              · exact absurd ⟨f, h1, h2, r⟩ q
              · exact r⟩
      exact wf _ _ (Nat.le_refl _) ⟨f0, hf0, hl0, rfl⟩
    obtain ⟨c, ⟨f, h1, h2, h3⟩, hc⟩ := hcode
    refine hno ⟨f, L, h1, h2, fun k hk => ?_⟩
    have hLk := hmin _ ⟨k, hk, rfl⟩
    by_cases e : lenN n (tN ti) k = L
    · refine Or.inr ⟨e, ?_⟩
      have := hc k hk e
      rcases cdv_lex (dv := dvT) (k := n) (f := f) (g := k) (fun j hj _ => (h1 j hj).1) (fun j hj _ => (hk j hj).1) (by omega) with q | ⟨j, hj, -, q1, q2⟩
      · exact Or.inl (fun j hj => q j hj rfl)
      · exact Or.inr ⟨j, hj, fun i hi => q1 i hi rfl, q2⟩
    · exact Or.inl (by omega))
theorem s_byTrying {Q : Int32 → (Nat → Int32) → Prop} {plo : Nat → Int32} (hN : 100 ≤ N) (hG : Good n ti g) (q : ∀ plo, Q (nI (bP n ti).2) plo) : p_X6_shortestByTrying N ti (nI n) Q plo := by
  unfold p_X6_shortestByTrying
  refine tryAll_spec hN hG.1 ⟨g, hG.2⟩ (fun plo v hv => ?_)
  obtain ⟨f, L, hB⟩ := bP_ex hG
  have e1 := hv L f hB
  have e2 := (bP_of hB).1
  rw [e1, e2]; exact q plo
theorem s_shortestMachine {Q : Int32 → Int32 → (Nat → Int32) → (Nat → Int32) → (Nat → Int32) → Int32 → Prop} {ss pbl : Int32} {plo pch pbe : Nat → Int32} (hN : 600000 ≤ N) (hG : Good n ti g) (hS : ss ≠ 0 → SInv n ti pbl pbe) (q : jOK n x1 → ∀ ss plo pch pbe pbl, SInv n ti pbl pbe → Q (nI ((bP n ti).1 ((x1).toNatClampNeg))) ss plo pch pbe pbl) (qx : ¬ jOK n x1 → QX "java/lang/IndexOutOfBoundsException") : p_X6_shortestMachine N ti (nI n) Q QX x1 ss plo pch pbe pbl := by
  have hn := hG.1.1
  unfold p_X6_shortestMachine
  refine requireJob_spec hn (fun o1 => refreshSearch_spec hN hG hS (fun ss plo pch pbe pbl h => ?_)) qx
  obtain ⟨h1, e1⟩ := o1.at (by omega)
  have := q o1 ss plo pch pbe pbl h
  rw [h.2.2.2 _ h1]
  refine ⟨?_, this⟩
  rw [e1]; exact vp_in_nI (by omega) (by decide)
end
