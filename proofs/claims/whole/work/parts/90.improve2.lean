/-! the best change: the reference -/
def Cr (f : Nat) : Int32 := if f = 1000 then -1 else nI f
theorem r_canSwap {N n a b : Nat} {mti mow : Nat → Int32} {g : Nat → Nat} {Q : Int32 → Prop} (hJ : JI n mti) (hp : PL n mow g) (ha : a < n) (hb : b < n) (q1 : g a ≠ g b → 0 < tN mti (3 * a + g b) → 0 < tN mti (3 * b + g a) → Q 1) (q0 : ¬ (g a ≠ g b ∧ 0 < tN mti (3 * a + g b) ∧ 0 < tN mti (3 * b + g a)) → Q 0) : p_X7_canSwap N mti mow Q (nI a) (nI b) := by
  have hn := hJ.1
  have ina : vp_in (nI a) 7 := vp_in_nI (by omega) (by decide)
  have inb : vp_in (nI b) 7 := vp_in_nI (by omega) (by decide)
  obtain ⟨a1, a2⟩ := hp a ha
  obtain ⟨b1, b2⟩ := hp b hb
  obtain ⟨t1l, t1e, -⟩ := tN_le hJ (show 3 * a + g b < 3 * n by omega)
  obtain ⟨t2l, t2e, -⟩ := tN_le hJ (show 3 * b + g a < 3 * n by omega)
  have zero : ∀ v : Nat, v ≤ 50 → nI v ≤ 0 → v = 0 := fun v hv h => by
    have := (nI_leI (a := v) (b := 0) (by omega) (by omega)).mp (by rw [nI_0]; exact h)
    omega
  have posv : ∀ v : Nat, ¬ nI v ≤ 0 → 0 < v := fun v h => by
    rcases Nat.eq_zero_or_pos v with r | r
    · rw [r, nI_0] at h; exact absurd (by decide) h
    · exact r
  unfold p_X7_canSwap
  rw [nI_clamp (show a < 2 ^ 31 by omega), nI_clamp (show b < 2 ^ 31 by omega), a1, b1, ix3, ix3, nI_clamp (show 3 * a + g b < 2 ^ 31 by omega), nI_clamp (show 3 * b + g a < 2 ^ 31 by omega), t1e, t2e]
  refine ⟨ina, inb, fun e => q0 (fun q => q.1 (nI_inj (by omega) (by omega) e)), fun ne => ⟨inb, vp_in_nI (by omega) (by decide), fun hz => q0 (fun q => by have := zero _ t1l hz; omega), fun hp1 => ⟨ina, vp_in_nI (by omega) (by decide), fun hz => q0 (fun q => by have := zero _ t2l hz; omega), fun hp2 => q1 (fun e => ne (by rw [e])) (posv _ hp1) (posv _ hp2)⟩⟩⟩
theorem r_improve {N n : Nat} {mti : Nat → Int32} {g : Nat → Nat} {Q : Int32 → (Nat → Int32) → (Nat → Int32) → Int32 → Prop} {mow mlo : Nat → Int32} {mth : Int32} (hN : 100 ≤ N) (hJ : JI n mti) (hp : PL n mow g)
    (q0 : (swA n (tN mti) g n).2 = 1000 → ∀ mow mlo, PL n mow g → Q (-1) mow mlo 0)
    (q1 : (swA n (tN mti) g n).2 ≠ 1000 → ∀ mow mlo, PL n mow (app g (swA n (tN mti) g n).2) → Q (nI (lenN n (tN mti) (app g (swA n (tN mti) g n).2))) mow mlo 0) : p_X7_improve N mti (nI n) Q mow mlo mth := by
  have hn := hJ.1
  have e3n : (3 : Int32) * nI n = nI (3 * n) := by rw [show (3 : Int32) = nI 3 from by decide, pk_mul]
  have zero : ∀ v : Nat, v ≤ 50 → nI v ≤ 0 → v = 0 := fun v hv h => by
    have := (nI_leI (a := v) (b := 0) (by omega) (by omega)).mp (by rw [nI_0]; exact h)
    omega
  have posv : ∀ v : Nat, ¬ nI v ≤ 0 → 0 < v := fun v h => by
    rcases Nat.eq_zero_or_pos v with r | r
    · rw [r, nI_0] at h; exact absurd (by decide) h
    · exact r
  -- the end
  have fin : ∀ (mow mlo : Nat → Int32), PL n mow g → ((0 ≤ Cr (swA n (tN mti) g n).2 → (((100 : Int32) ≤ Cr (swA n (tN mti) g n).2 → (p_X7_swaps N (fun mow_4 => p_X7_measures N mow_4 mti (nI n) (fun r_5 mlo_6 => Q r_5 mow_4 mlo_6 0) mlo) ((Cr (swA n (tN mti) g n).2 - (100 : Int32)) / (10 : Int32)) (Cr (swA n (tN mti) g n).2 - Cr (swA n (tN mti) g n).2 / (10 : Int32) * (10 : Int32)) mow)) ∧ (¬ (100 : Int32) ≤ Cr (swA n (tN mti) g n).2 → (∀ f_7 : Int32, f_7 = Cr (swA n (tN mti) g n).2 - Cr (swA n (tN mti) g n).2 / (3 : Int32) * (3 : Int32) → (vp_in (Cr (swA n (tN mti) g n).2 / (3 : Int32)) 7 ∧ (p_X7_measures N (upd mow (Cr (swA n (tN mti) g n).2 / (3 : Int32)).toNatClampNeg f_7) mti (nI n) (fun r_9 mlo_10 => Q r_9 (upd mow (Cr (swA n (tN mti) g n).2 / (3 : Int32)).toNatClampNeg f_7) mlo_10 0) mlo)))))) ∧ (¬ 0 ≤ Cr (swA n (tN mti) g n).2 → (Q (-1 : Int32) mow mlo 0))) := fun mow mlo hm => by
    obtain ⟨-, hf⟩ := GF.sa (g := g) hJ (Nat.le_refl n)
    rcases hf with e | ⟨hl, -⟩ | ⟨j, o, hjo, hon, e, -⟩
    · have eC : Cr (swA n (tN mti) g n).2 = -1 := by unfold Cr; rw [if_pos e]
      rw [eC]
      exact ⟨fun h => absurd h (by decide), fun _ => q0 e mow mlo hm⟩
    · have hq1 := q1 (by omega)
      have eC : Cr (swA n (tN mti) g n).2 = nI (swA n (tN mti) g n).2 := by unfold Cr; rw [if_neg (by omega)]
      rw [eC]
      unfold app at hq1
      rw [if_neg (by omega), if_pos (by omega)] at hq1
      generalize (swA n (tN mti) g n).2 = f at hq1 hl
      obtain ⟨d1, d2⟩ := dig3 (a := f / 3) (b := f % 3) (by omega) (by omega)
      rw [show 3 * (f / 3) + f % 3 = f by omega] at d1 d2
      refine ⟨fun _ => ⟨fun h => ?_, fun _ f7 e7 => ?_⟩, fun h => absurd (nI_nneg (by omega)) h⟩
      · have := (nI_leI (a := 100) (b := f) (by omega) (by omega)).mp (by rw [show nI 100 = (100 : Int32) from by decide]; exact h)
        omega
      · rw [d1] at e7
        rw [d2, e7, nI_clamp (show f / 3 < 2 ^ 31 by omega)]
        have hm' : PL n (upd mow (f / 3) (nI (f % 3))) (stp g (f / 3) (f % 3)) := PL.set (fun i hi _ => hm i hi) (by omega)
        exact ⟨vp_in_nI (by omega) (by decide), measures_spec hN hJ hm' (fun mlo' _ => hq1 _ _ hm')⟩
    · have hq1 := q1 (by omega)
      have eC : Cr (swA n (tN mti) g n).2 = nI (100 + 10 * j + o) := by unfold Cr; rw [if_neg (by omega), e]
      rw [eC]
      unfold app at hq1
      rw [if_neg (by omega), if_neg (by omega)] at hq1
      rw [e, show (100 + 10 * j + o - 100) / 10 = j by omega, show (100 + 10 * j + o) % 10 = o by omega] at hq1
      have d1 : (nI (100 + 10 * j + o) - (100 : Int32)) / (10 : Int32) = nI j := by
        rw [show (100 : Int32) = nI 100 from by decide, show (10 : Int32) = nI 10 from by decide, pk_sub (by omega), pk_div (by omega) (by omega) (by omega)]
        congr 1; omega
      have d2 : nI (100 + 10 * j + o) - nI (100 + 10 * j + o) / (10 : Int32) * (10 : Int32) = nI o := by
        rw [show (10 : Int32) = nI 10 from by decide, pk_div (by omega) (by omega) (by omega), pk_mul, pk_sub (by omega)]
        congr 1; omega
      rw [d1, d2]
      refine ⟨fun _ => ⟨fun _ => r_swaps hn hm (by omega) hon (fun mow' hm' => measures_spec hN hJ hm' (fun mlo' _ => hq1 mow' mlo' hm')), fun h => ?_⟩, fun h => absurd (nI_nneg (by omega)) h⟩
      exact absurd (show (100 : Int32) ≤ nI (100 + 10 * j + o) by rw [show (100 : Int32) = nI 100 from by decide]; exact nI_le (by omega) (by omega)) h
  have inner : ∀ (K : Int32 → Int32 → Int32 → (Nat → Int32) → (Nat → Int32) → Int32 → Prop) (job : Nat), job < n → (∀ mow mlo, PL n mow g → K (nI (swA n (tN mti) g (job + 1)).1) (Cr (swA n (tN mti) g (job + 1)).2) (nI (job + 1)) mow mlo 0) →
      ∀ (f k : Nat) (mow mlo : Nat → Int32), k ≤ n - job - 1 → n < f + k + job + 1 → PL n mow g → p_X7_improve_126 N mti (nI n) Q K f (nI (swR n (tN mti) g job (swA n (tN mti) g job) k).1) (Cr (swR n (tN mti) g job (swA n (tN mti) g job) k).2) (nI job) (nI (job + 1 + k)) mow mlo 0 := by
    intro K job hj hK f
    induction f with
    | zero => intro k mow mlo h1 h2; omega
    | succ f ih =>
      intro k mow mlo h1 h2 hm
      unfold p_X7_improve_126
      refine ⟨fun h x ex => ?_, fun h => ?_⟩
      · have := (nI_leI (by omega) (by omega)).mp h
        have ek : k = n - job - 1 := by omega
        subst ek
        rw [ex, nI_1]
        exact hK mow mlo hm
      · have ho : job + 1 + k < n := by
          rcases Nat.lt_or_ge (job + 1 + k) n with h' | h'
          · exact h'
          · exact absurd (nI_le h' (by omega)) h
        have hGF := GF.sr (g := g) (j := job) (k := k) hJ (GF.sa hJ (show job ≤ n by omega)) (by omega) hj
        have hst : swR n (tN mti) g job (swA n (tN mti) g job) (k + 1) = if g job ≠ g (job + 1 + k) ∧ 0 < tN mti (3 * job + g (job + 1 + k)) ∧ 0 < tN mti (3 * (job + 1 + k) + g job) ∧ rkN n (tN mti) (swp g job (job + 1 + k)) < (swR n (tN mti) g job (swA n (tN mti) g job) k).1 then (rkN n (tN mti) (swp g job (job + 1 + k)), 100 + 10 * job + (job + 1 + k)) else swR n (tN mti) g job (swA n (tN mti) g job) k := rfl
        have skip : ¬ (g job ≠ g (job + 1 + k) ∧ 0 < tN mti (3 * job + g (job + 1 + k)) ∧ 0 < tN mti (3 * (job + 1 + k) + g job) ∧ rkN n (tN mti) (swp g job (job + 1 + k)) < (swR n (tN mti) g job (swA n (tN mti) g job) k).1) → ∀ (mow2 mlo2 : Nat → Int32), PL n mow2 g → ∀ x : Int32, x = nI (job + 1 + k) + 1 → p_X7_improve_126 N mti (nI n) Q K f (nI (swR n (tN mti) g job (swA n (tN mti) g job) k).1) (Cr (swR n (tN mti) g job (swA n (tN mti) g job) k).2) (nI job) x mow2 mlo2 0 := fun hno mow2 mlo2 hm2 x ex => by
          have e2 := hst
          rw [if_neg hno] at e2
          have := ih (k + 1) mow2 mlo2 (by omega) (by omega) hm2
          rw [e2] at this
          rw [ex, nI_1]; exact this
        refine r_canSwap hJ hm hj ho (fun hne p1 p2 => ⟨fun q => absurd q (by decide), fun _ => ?_⟩) (fun hno => ⟨fun _ => skip (fun q => hno ⟨q.1, q.2.1, q.2.2.1⟩) mow mlo hm, fun q => absurd rfl q⟩)
        have hr := rkN_lt hJ (g := swp g job (job + 1 + k))
        have hr2 := hGF.1
        refine r_swaps hn hm hj ho (fun mow2 hm2 => r_rank hN hJ hm2 (fun mlo2 _ => ⟨fun hle => ?_, fun hgt x2 e2 => ?_⟩))
        · have hge := (nI_leI (by omega) (by omega)).mp hle
          exact ⟨fun _ => r_swaps hn hm2 hj ho (fun mow3 hm3 => skip (fun q => by have := q.2.2.2; omega) mow3 mlo2 (hm3.congr (fun i _ => swp_swp (by omega) i))), fun q => absurd hle q⟩
        · refine ⟨fun q => absurd q hgt, fun _ => r_swaps hn hm2 hj ho (fun mow3 hm3 x ex => ?_)⟩
          have hlt : rkN n (tN mti) (swp g job (job + 1 + k)) < (swR n (tN mti) g job (swA n (tN mti) g job) k).1 := by
            rcases Nat.lt_or_ge (rkN n (tN mti) (swp g job (job + 1 + k))) (swR n (tN mti) g job (swA n (tN mti) g job) k).1 with r | r
            · exact r
            · exact absurd (nI_le r (by omega)) hgt
          have e3 := hst
          rw [if_pos ⟨hne, p1, p2, hlt⟩] at e3
          have := ih (k + 1) mow3 mlo2 (by omega) (by omega) (hm3.congr (fun i _ => swp_swp (by omega) i))
          rw [e3] at this
          have ec : Cr (100 + 10 * job + (job + 1 + k)) = x2 := by
            unfold Cr
            rw [if_neg (by omega), e2, show (100 : Int32) = nI 100 from by decide, show (10 : Int32) = nI 10 from by decide, pk_mul, nI_add, nI_add]
          rw [← ec, ex, nI_1]; exact this
  have outer : ∀ (f k : Nat) (mow mlo : Nat → Int32), k ≤ n → n < f + k → PL n mow g → p_X7_improve_113 N mti (nI n) Q f (nI (swA n (tN mti) g k).1) (Cr (swA n (tN mti) g k).2) (nI k) mow mlo 0 := by
    intro f
    induction f with
    | zero => intro k mow mlo h1 h2; omega
    | succ f ih =>
      intro k mow mlo h1 h2 hm
      unfold p_X7_improve_113
      refine ⟨fun h => ?_, fun h x ex => ?_⟩
      · have := (nI_leI (by omega) (by omega)).mp h
        have ek : k = n := by omega
        subst ek
        exact fin mow mlo hm
      · have hk : k < n := by
          rcases Nat.lt_or_ge k n with h' | h'
          · exact h'
          · exact absurd (nI_le h' (by omega)) h
        rw [ex, nI_1]
        exact inner (fun x1 x2 x3 mow mlo mth => p_X7_improve_113 N mti (nI n) Q f x1 x2 x3 mow mlo mth) k hk (fun mow mlo hm => ih (k + 1) mow mlo (by omega) (by omega) hm) N 0 mow mlo (by omega) (by omega) hm
  have shares : ∀ (f s : Nat) (mow mlo : Nat → Int32), s ≤ 3 * n → 3 * n < f + s → PL n mow g → p_X7_improve_14 N mti (nI n) Q f (nI (mvF n (tN mti) g s).1) (Cr (mvF n (tN mti) g s).2) (nI s) mow mlo 0 := by
    intro f
    induction f with
    | zero => intro s mow mlo h1 h2; omega
    | succ f ih =>
      intro s mow mlo h1 h2 hm
      unfold p_X7_improve_14
      rw [e3n]
      refine ⟨fun h => ?_, fun h x4 e4 => ?_⟩
      · have := (nI_leI (by omega) (by omega)).mp h
        have ek : s = 3 * n := by omega
        subst ek
        rw [← nI_0]
        exact outer N 0 mow mlo (by omega) (by omega) hm
      · have hs : s < 3 * n := by
          rcases Nat.lt_or_ge s (3 * n) with h' | h'
          · exact h'
          · exact absurd (nI_le h' (by omega)) h
        obtain ⟨d1, d2⟩ := dig3 (a := s / 3) (b := s % 3) (by omega) (by omega)
        rw [show 3 * (s / 3) + s % 3 = s by omega] at d1 d2
        have hjn : s / 3 < n := by omega
        have hjin : vp_in (nI (s / 3)) 7 := vp_in_nI (by omega) (by decide)
        obtain ⟨a1, a2⟩ := hm (s / 3) hjn
        obtain ⟨htl, hte, -⟩ := tN_le hJ hs
        have hGF := GF.mv (g := g) hJ (s := s) (by omega)
        have hst : mvF n (tN mti) g (s + 1) = if 0 < tN mti s ∧ s % 3 ≠ g (s / 3) ∧ rkN n (tN mti) (stp g (s / 3) (s % 3)) < (mvF n (tN mti) g s).1 then (rkN n (tN mti) (stp g (s / 3) (s % 3)), s) else mvF n (tN mti) g s := rfl
        have skip : ¬ (0 < tN mti s ∧ s % 3 ≠ g (s / 3) ∧ rkN n (tN mti) (stp g (s / 3) (s % 3)) < (mvF n (tN mti) g s).1) → ∀ (mow2 mlo2 : Nat → Int32), PL n mow2 g → ∀ x : Int32, x = nI s + 1 → p_X7_improve_14 N mti (nI n) Q f (nI (mvF n (tN mti) g s).1) (Cr (mvF n (tN mti) g s).2) x mow2 mlo2 0 := fun hno mow2 mlo2 hm2 x ex => by
          have e2 := hst
          rw [if_neg hno] at e2
          have := ih (s + 1) mow2 mlo2 (by omega) (by omega) hm2
          rw [e2] at this
          rw [ex, nI_1]; exact this
        rw [d2] at e4
        subst e4
        rw [nI_clamp (show s / 3 < 2 ^ 31 by omega), nI_clamp (show s < 2 ^ 31 by omega), a1, hte, d1]
        refine ⟨hjin, fun x5 e5 => ⟨vp_in_nI (by omega) (by decide), fun hz => skip (fun q => by have := zero _ htl hz; omega) mow mlo hm, fun hps => ?_⟩⟩
        subst e5
        refine ⟨fun e => skip (fun q => q.2.1 (nI_inj (by omega) (by omega) e)) mow mlo hm, fun ne f10 e10 => ⟨hjin, ?_⟩⟩
        subst e10
        have hpos := posv _ hps
        have hne : s % 3 ≠ g (s / 3) := fun e => ne (by rw [e])
        have hm1 : PL n (upd mow (s / 3) (nI (s % 3))) (stp g (s / 3) (s % 3)) := PL.set (fun i hi _ => hm i hi) (by omega)
        have hm2 : PL n (upd (upd mow (s / 3) (nI (s % 3))) (s / 3) (nI (g (s / 3)))) g := (PL.set (k := g (s / 3)) (g := stp g (s / 3) (s % 3)) (fun i hi _ => hm1 i hi) a2).congr (fun i hi => by
          show g i = if i = s / 3 then g (s / 3) else if i = s / 3 then s % 3 else g i
          by_cases e : i = s / 3
          · rw [if_pos e, e]
          · rw [if_neg e, if_neg e])
        have hr := rkN_lt hJ (g := stp g (s / 3) (s % 3))
        have hr2 := hGF.1
        refine r_rank hN hJ hm1 (fun mlo2 _ => ⟨fun hle => ?_, fun hgt => ?_⟩)
        · have hge := (nI_leI (by omega) (by omega)).mp hle
          exact ⟨fun _ => ⟨hjin, skip (fun q => by have := q.2.2; omega) _ mlo2 hm2⟩, fun q => absurd hle q⟩
        · refine ⟨fun q => absurd q hgt, fun _ => ⟨hjin, fun x ex => ?_⟩⟩
          have hlt : rkN n (tN mti) (stp g (s / 3) (s % 3)) < (mvF n (tN mti) g s).1 := by
            rcases Nat.lt_or_ge (rkN n (tN mti) (stp g (s / 3) (s % 3))) (mvF n (tN mti) g s).1 with r | r
            · exact r
            · exact absurd (nI_le r (by omega)) hgt
          have e3 := hst
          rw [if_pos ⟨hpos, hne, hlt⟩] at e3
          have := ih (s + 1) _ mlo2 (by omega) (by omega) hm2
          rw [e3] at this
          have ec : Cr s = nI s := by unfold Cr; rw [if_neg (by omega)]
          rw [← ec, ex, nI_1]; exact this
  unfold p_X7_improve
  refine r_rank hN hJ hp (fun mlo' _ => ?_)
  have := shares N 0 mow mlo' (by omega) (by omega) hp
  rw [nI_0] at this
  exact this
