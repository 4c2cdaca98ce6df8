/-! the reference's calls -/
section
variable {N n : Nat} {ti mow : Nat → Int32} {g : Nat → Nat} {x1 x2 x3 : Int32} {mth : Int32} {mpl mbs mlo mro : Nat → Int32} {mta : Nat → Int64} {mba mib : Nat → Int32} {mdi : Int64} {mab mbe : Nat → Int64}
theorem jix3 (hn : n ≤ 7) (o1 : jOK n x1) (o2 : jOK 3 x2) : (3 : Int32) * x1 + x2 = nI (3 * (x1).toNatClampNeg + (x2).toNatClampNeg) ∧ 3 * (x1).toNatClampNeg + (x2).toNatClampNeg < 3 * n := by
  obtain ⟨h1, e1⟩ := o1.at (by omega)
  obtain ⟨h2, e2⟩ := o2.at (by omega)
  refine ⟨?_, by omega⟩
  have := ix3 (k := (x1).toNatClampNeg) (i := (x2).toNatClampNeg)
  rw [← e1, ← e2] at this
  exact this
theorem t_time {Q : Int32 → Int32 → Prop} (hn : n ≤ 7) (q : jOK n x1 → jOK 3 x2 → Q (ti (3 * (x1).toNatClampNeg + (x2).toNatClampNeg)) 0) (qx : ¬ (jOK n x1 ∧ jOK 3 x2) → Q 0 1) : p_X7_time N ti (nI n) Q x1 x2 mth := by
  unfold p_X7_time
  refine r_isJob hn (fun o1 => ⟨fun h => absurd h n10, fun _ => r_isMachine (fun o2 => ⟨fun h => absurd h n10, fun _ => r_goes_ok ⟨fun h => absurd h n10, fun _ => ?_⟩⟩) (fun o => ⟨fun _ => r_goes_1 ⟨fun _ => qx (fun r => o r.2), fun h => absurd rfl h⟩, fun h => absurd rfl h⟩)⟩) (fun o => ⟨fun _ => r_goes_1 ⟨fun _ => qx (fun r => o r.1), fun h => absurd rfl h⟩, fun h => absurd rfl h⟩)
  obtain ⟨e, hl⟩ := jix3 hn o1 o2
  rw [e, nI_clamp (show 3 * (x1).toNatClampNeg + (x2).toNatClampNeg < 2 ^ 31 by omega)]
  exact ⟨vp_in_nI (by omega) (by decide), q o1 o2⟩
theorem t_machine {Q : Int32 → Int32 → Prop} (hn : n ≤ 7) (hp : PL n mow g) (q : jOK n x1 → Q (nI (g (x1).toNatClampNeg)) 0) (qx : ¬ jOK n x1 → Q 0 1) : p_X7_machine N mow (nI n) Q x1 mth := by
  unfold p_X7_machine
  refine r_isJob hn (fun o1 => r_goes_ok ⟨fun h => absurd h n10, fun _ => ?_⟩) (fun o => r_goes_1 ⟨fun _ => qx o, fun h => absurd rfl h⟩)
  obtain ⟨h1, e1⟩ := o1.at (by omega)
  have hq := q o1
  rw [(hp _ h1).1]
  refine ⟨?_, hq⟩
  rw [e1]; exact vp_in_nI (by omega) (by decide)
theorem t_load {Q : Int32 → (Nat → Int32) → Int32 → Prop} (hN : 100 ≤ N) (hG : Good n ti g) (hp : PL n mow g) (q : jOK 3 x1 → ∀ mlo, Q (nI (ldN n (tN ti) g (x1).toNatClampNeg)) mlo 0) (qx : ¬ jOK 3 x1 → Q 0 mlo 1) : p_X7_load N ti mow (nI n) Q x1 mlo mth := by
  unfold p_X7_load
  refine r_isMachine (fun o1 => r_goes_ok ⟨fun h => absurd h n10, fun _ => measures_spec hN hG.1 hp (fun mlo' hm => ?_)⟩) (fun o => r_goes_1 ⟨fun _ => qx o, fun h => absurd rfl h⟩)
  obtain ⟨h1, e1⟩ := o1.at (by omega)
  have hq := q o1 mlo'
  rw [hm _ h1]
  refine ⟨?_, hq⟩
  rw [e1]; exact vp_in_nI (by omega) (by decide)
theorem t_length {Q : Int32 → (Nat → Int32) → Int32 → Prop} (hN : 100 ≤ N) (hG : Good n ti g) (hp : PL n mow g) (q : ∀ mlo, Q (nI (lenN n (tN ti) g)) mlo 0) : p_X7_length N ti mow (nI n) Q mlo mth := by
  unfold p_X7_length
  exact measures_spec hN hG.1 hp (fun mlo' _ => q mlo')
theorem t_jobs {Q : Int32 → Int32 → Prop} (q : Q (nI n) 0) : p_X7_jobs N (nI n) Q mth := q
theorem t_removeLast {Q : Int32 → Int32 → Int32 → Prop} (hn : n ≤ 7) (q : 0 < n → Q (nI (n - 1)) (nI (n - 1)) 0) (q0 : n = 0 → Q (-1) (nI 0) 0) : p_X7_removeLast N Q (nI n) mth := by
  unfold p_X7_removeLast
  refine ⟨fun h => ?_, fun h f2 e2 => ?_⟩
  · have hz : n = 0 := by rw [← nI_0] at h; exact nI_inj (by omega) (by omega) h
    have := q0 hz
    rw [hz]; exact this
  · have hp : 0 < n := by
      rcases Nat.eq_zero_or_pos n with r | r
      · subst r; exact absurd nI_0 h
      · exact r
    rw [e2, show (1 : Int32) = nI 1 from by decide, pk_sub (by omega)]
    exact q hp
theorem t_assign {Q : Int32 → (Nat → Int32) → Int32 → Prop} (hG : Good n ti g) (hp : PL n mow g) (q : jOK n x1 → jOK 3 x2 → ti (3 * (x1).toNatClampNeg + (x2).toNatClampNeg) ≠ 0 → ∀ mow', PL n mow' (stp g (x1).toNatClampNeg (x2).toNatClampNeg) → Q (nI (g (x1).toNatClampNeg)) mow' 0) (q2 : jOK n x1 → jOK 3 x2 → ti (3 * (x1).toNatClampNeg + (x2).toNatClampNeg) = 0 → Q 0 mow 2) (qx : ¬ (jOK n x1 ∧ jOK 3 x2) → Q 0 mow 1) : p_X7_assign N ti (nI n) Q x1 x2 mow mth := by
  have hn := hG.1.1
  have bad : ¬ (jOK n x1 ∧ jOK 3 x2) → p_X7_assign_20 N ti (nI n) Q x1 x2 (0 : Int32) mow mth := fun o => by
    unfold p_X7_assign_20
    exact ⟨fun _ => r_goes_1 ⟨fun _ => qx o, fun h => absurd rfl h⟩, fun h => absurd rfl h⟩
  unfold p_X7_assign
  refine r_isJob hn (fun o1 => ⟨fun h => absurd h n10, fun _ => r_isMachine (fun o2 => ⟨fun h => absurd h n10, fun _ => ?_⟩) (fun o => ⟨fun _ => bad (fun r => o r.2), fun h => absurd rfl h⟩)⟩) (fun o => ⟨fun _ => bad (fun r => o r.1), fun h => absurd rfl h⟩)
  obtain ⟨e, hl⟩ := jix3 hn o1 o2
  obtain ⟨h1, e1⟩ := o1.at (by omega)
  obtain ⟨h2, e2⟩ := o2.at (by omega)
  obtain ⟨htl, hte, -⟩ := tN_le hG.1 hl
  have hin : vp_in x1 7 := by rw [e1]; exact vp_in_nI (by omega) (by decide)
  have hq := q o1 o2
  have hq2 := q2 o1 o2
  unfold p_X7_assign_20
  rw [e, nI_clamp (show 3 * (x1).toNatClampNeg + (x2).toNatClampNeg < 2 ^ 31 by omega)]
  refine ⟨fun h => absurd h n10, fun _ => ⟨vp_in_nI (by omega) (by decide), fun hle => r_goes_2 ⟨fun _ => hq2 ?_, fun h => absurd rfl h⟩, fun hgt => r_goes_ok ⟨fun h => absurd h n10, fun _ => ⟨hin, fun x4 e4 => ⟨hin, ?_⟩⟩⟩⟩⟩
  · rw [hte] at hle ⊢
    have : tN ti (3 * (x1).toNatClampNeg + (x2).toNatClampNeg) ≤ 0 := (nI_leI (by omega) (by omega)).mp (by rw [nI_0]; exact hle)
    rw [show tN ti (3 * (x1).toNatClampNeg + (x2).toNatClampNeg) = 0 by omega, nI_0]
  · rw [e4, (hp _ h1).1]
    have := hq (fun q => hgt (by rw [q]; decide)) (upd mow (x1).toNatClampNeg (nI (x2).toNatClampNeg)) (PL.set (fun i hi _ => hp i hi) h2)
    rw [← e2] at this
    exact this
theorem t_setTime {Q : Int32 → (Nat → Int32) → Int32 → Prop} (hG : Good n ti g) (hp : PL n mow g) (q : jOK n x1 → jOK 3 x2 → jOK 51 x3 → ¬ (x3 = 0 ∧ nI (g (x1).toNatClampNeg) = x2) → Q (ti (3 * (x1).toNatClampNeg + (x2).toNatClampNeg)) (upd ti (3 * (x1).toNatClampNeg + (x2).toNatClampNeg) x3) 0) (q3 : jOK n x1 → jOK 3 x2 → jOK 51 x3 → x3 = 0 ∧ nI (g (x1).toNatClampNeg) = x2 → Q 0 ti 3) (q2 : jOK n x1 → jOK 3 x2 → ¬ jOK 51 x3 → Q 0 ti 2) (qx : ¬ (jOK n x1 ∧ jOK 3 x2) → Q 0 ti 1) : p_X7_setTime N mow (nI n) Q x1 x2 x3 ti mth := by
  have hn := hG.1.1
  have bad : ¬ (jOK n x1 ∧ jOK 3 x2) → ∀ s2 s3, p_X7_setTime_53 N mow (nI n) Q x1 x2 x3 (0 : Int32) s2 s3 ti mth := fun o s2 s3 => by
    unfold p_X7_setTime_53
    exact r_goes_1 ⟨fun _ => qx o, fun h => absurd rfl h⟩
  have badT : ¬ (jOK n x1 ∧ jOK 3 x2) → ∀ r_3 : Int32, ((0 : Int32) = 0 → (p_X7_setTime_53 N mow (nI n) Q x1 x2 x3 (0 : Int32) r_3 (0 : Int32) ti mth)) ∧ (¬ (0 : Int32) = 0 → ((0 < x3 → (p_X7_setTime_53 N mow (nI n) Q x1 x2 x3 (0 : Int32) r_3 (1 : Int32) ti mth)) ∧ (¬ 0 < x3 → (vp_in x1 7 ∧ (((mow (x1).toNatClampNeg) = x2 → (p_X7_setTime_53 N mow (nI n) Q x1 x2 x3 (0 : Int32) r_3 (0 : Int32) ti mth)) ∧ (¬ (mow (x1).toNatClampNeg) = x2 → (p_X7_setTime_53 N mow (nI n) Q x1 x2 x3 (0 : Int32) r_3 (1 : Int32) ti mth))))))) := fun o r => ⟨fun _ => bad o _ _, fun h => absurd rfl h⟩
  have badI : ¬ (jOK n x1 ∧ jOK 3 x2) → p_X7_isTime N (fun r_3 => ((0 : Int32) = 0 → (p_X7_setTime_53 N mow (nI n) Q x1 x2 x3 (0 : Int32) r_3 (0 : Int32) ti mth)) ∧ (¬ (0 : Int32) = 0 → ((0 < x3 → (p_X7_setTime_53 N mow (nI n) Q x1 x2 x3 (0 : Int32) r_3 (1 : Int32) ti mth)) ∧ (¬ 0 < x3 → (vp_in x1 7 ∧ (((mow (x1).toNatClampNeg) = x2 → (p_X7_setTime_53 N mow (nI n) Q x1 x2 x3 (0 : Int32) r_3 (0 : Int32) ti mth)) ∧ (¬ (mow (x1).toNatClampNeg) = x2 → (p_X7_setTime_53 N mow (nI n) Q x1 x2 x3 (0 : Int32) r_3 (1 : Int32) ti mth)))))))) x3 := fun o => r_isTime (fun _ => badT o 1) (fun _ => badT o 0)
  unfold p_X7_setTime
  refine r_isJob hn (fun o1 => ⟨fun h => absurd h n10, fun _ => r_isMachine (fun o2 => ⟨fun h => absurd h n10, fun _ => ?_⟩) (fun o => ⟨fun _ => badI (fun r => o r.2), fun h => absurd rfl h⟩)⟩) (fun o => ⟨fun _ => badI (fun r => o r.1), fun h => absurd rfl h⟩)
  obtain ⟨e, hl⟩ := jix3 hn o1 o2
  obtain ⟨h1, e1⟩ := o1.at (by omega)
  have hin : vp_in x1 7 := by rw [e1]; exact vp_in_nI (by omega) (by decide)
  have ho : mow x1.toNatClampNeg = nI (g (x1).toNatClampNeg) := (hp _ h1).1
  have good : jOK 51 x3 → ¬ (x3 = 0 ∧ nI (g (x1).toNatClampNeg) = x2) → p_X7_setTime_53 N mow (nI n) Q x1 x2 x3 (1 : Int32) (1 : Int32) (1 : Int32) ti mth := fun o3 hne => by
    unfold p_X7_setTime_53
    refine r_goes_ok ⟨fun h => absurd h n10, fun _ => ?_⟩
    rw [e, nI_clamp (show 3 * (x1).toNatClampNeg + (x2).toNatClampNeg < 2 ^ 31 by omega)]
    have hi21 : vp_in (nI (3 * (x1).toNatClampNeg + (x2).toNatClampNeg)) 21 := vp_in_nI (by omega) (by decide)
    refine ⟨hi21, fun x5 e5 => ⟨hi21, ?_⟩⟩
    rw [e5]; exact q o1 o2 o3 hne
  refine r_isTime (fun o3 => ⟨fun h => absurd h n10, fun _ => ⟨fun hp3 => good o3 (fun r => ?_), fun hnp => ⟨hin, fun he => ?_, fun hne => good o3 (fun r => hne (by rw [ho]; exact r.2))⟩⟩⟩) (fun o3 => ⟨fun h => absurd h n10, fun _ => ?_⟩)
  · rw [r.1] at hp3; exact absurd hp3 (by decide)
  · unfold p_X7_setTime_53
    have hz : x3 = 0 := by
      obtain ⟨j, hj, ej⟩ := o3
      rcases Nat.eq_zero_or_pos j with r | r
      · rw [ej, r, nI_0]
      · exact absurd (show (0 : Int32) < x3 by rw [ej, ← nI_0]; exact nI_lt r (by omega)) hnp
    exact r_goes_3 ⟨fun _ => q3 o1 o2 o3 ⟨hz, by rw [← ho]; exact he⟩, fun h => absurd rfl h⟩
  · have two : ∀ s3, p_X7_setTime_53 N mow (nI n) Q x1 x2 x3 (1 : Int32) (0 : Int32) s3 ti mth := fun s3 => by
      unfold p_X7_setTime_53
      exact r_goes_2 ⟨fun _ => q2 o1 o2 o3, fun h => absurd rfl h⟩
    exact ⟨fun _ => two _, fun _ => ⟨hin, fun _ => two _, fun _ => two _⟩⟩
theorem lowest_spec {Q : Int32 → Prop} {t : Nat → Int32} (hN : 100 ≤ N) (hn : n < 7) (h0 : t (3 * n) = x1) (h1 : t (3 * n + 1) = x2) (q : Q (nI (lowm x1 x2))) : p_X7_lowest N t Q (nI n) := by
  unfold p_X7_lowest
  obtain ⟨N1, rfl⟩ : ∃ N1, N = N1 + 4 := ⟨N - 4, by omega⟩
  have two : (2 : Int32) = nI 2 := by decide
  have step : ∀ (f k : Nat) (x : Int32), k < 3 → (t (3 * n + k) ≤ 0 → p_X7_lowest_4 (N1 + 4) t Q f (nI n) x (X6i k)) → (¬ t (3 * n + k) ≤ 0 → p_X7_lowest_4 (N1 + 4) t Q f (nI n) (nI k) (X6i k)) → p_X7_lowest_4 (N1 + 4) t Q (f + 1) (nI n) x (nI k) := by
    intro f k x hk a b
    unfold p_X7_lowest_4
    rw [ix3, nI_clamp (show 3 * n + k < 2 ^ 31 by omega)]
    refine ⟨fun h => absurd h (nI_pos (by omega)), fun _ => ⟨vp_in_nI (by omega) (by decide), fun hz x3 e3 => ?_, fun hz x3 e3 => ?_⟩⟩
    · rw [e3, X6i_m1]; exact a hz
    · rw [e3, X6i_m1]; exact b hz
  have done : ∀ (f k : Nat), Q (nI k) → p_X7_lowest_4 (N1 + 4) t Q (f + 1) (nI n) (nI k) (X6i 0) := by
    intro f k hq
    unfold p_X7_lowest_4
    exact ⟨fun _ => hq, fun h => absurd (by decide) h⟩
  unfold lowm at q
  have at0 : ∀ k, (¬ x1 ≤ 0 → Q (nI 0)) → (x1 ≤ 0 → Q (nI k)) → p_X7_lowest_4 (N1 + 4) t Q (N1 + 1 + 1) (nI n) (nI k) (nI 0) := fun k a b => step _ 0 _ (by omega) (fun hz => done _ _ (b (by rw [← h0]; exact hz))) (fun hz => done _ _ (a (by rw [← h0]; exact hz)))
  have at1 : ∀ k, (¬ x1 ≤ 0 → Q (nI 0)) → (x1 ≤ 0 → ¬ x2 ≤ 0 → Q (nI 1)) → (x1 ≤ 0 → x2 ≤ 0 → Q (nI k)) → p_X7_lowest_4 (N1 + 4) t Q (N1 + 1 + 1 + 1) (nI n) (nI k) (nI 1) := fun k a b c => step _ 1 _ (by omega) (fun hz => at0 k a (fun r => c r (by rw [← h1]; exact hz))) (fun hz => at0 1 a (fun r => b r (by rw [← h1]; exact hz)))
  rw [two]
  refine step _ 2 _ (by omega) (fun hz => at1 2 (fun r => ?_) (fun r s => ?_) (fun r s => ?_)) (fun hz => at1 2 (fun r => ?_) (fun r s => ?_) (fun r s => ?_))
  · rw [if_neg r] at q; exact q
  · rw [if_pos r, if_neg s] at q; exact q
  · rw [if_pos r, if_pos s] at q; exact q
  · rw [if_neg r] at q; exact q
  · rw [if_pos r, if_neg s] at q; exact q
  · rw [if_pos r, if_pos s] at q; exact q
theorem upJ_at : upJ ti n x1 x2 x3 (3 * n) = x1 ∧ upJ ti n x1 x2 x3 (3 * n + 1) = x2 ∧ upJ ti n x1 x2 x3 (3 * n + 2) = x3 ∧ ∀ c, c < 3 * n → upJ ti n x1 x2 x3 c = ti c := by
  unfold upJ
  refine ⟨?_, ?_, pk_us, fun c hc => ?_⟩
  · rw [pk_un (by omega), pk_un (by omega), pk_us]
  · rw [pk_un (by omega), pk_us]
  · rw [pk_un (by omega), pk_un (by omega), pk_un (by omega)]
theorem t_addJob {Q : Int32 → (Nat → Int32) → (Nat → Int32) → Int32 → Int32 → Prop} (hN : 100 ≤ N) (hn : n ≤ 7) (hp : PL n mow g) (q : tAll x1 x2 x3 → n < 7 → ∀ mow', PL (n + 1) mow' (stp g n (lowm x1 x2)) → Q (nI n) (upJ ti n x1 x2 x3) mow' (nI (n + 1)) 0) (q2 : tAll x1 x2 x3 → ¬ n < 7 → Q 0 ti mow (nI n) 2) (qx : ¬ tAll x1 x2 x3 → Q 0 ti mow (nI n) 1) : p_X7_addJob N Q x1 x2 x3 ti mow (nI n) mth := by
  have e7 : ((7 : Int32) ≤ nI n) ↔ ¬ n < 7 := by
    rw [show (7 : Int32) = nI 7 from by decide, nI_leI (by omega) (by omega)]; omega
  have bad : ¬ tAll x1 x2 x3 → ((7 : Int32) ≤ nI n → (p_X7_addJob_53 N Q x1 x2 x3 (0 : Int32) (0 : Int32) ti mow (nI n) mth)) ∧ (¬ (7 : Int32) ≤ nI n → (p_X7_addJob_53 N Q x1 x2 x3 (0 : Int32) (1 : Int32) ti mow (nI n) mth)) := fun o => by
    have b : ∀ s2, p_X7_addJob_53 N Q x1 x2 x3 (0 : Int32) s2 ti mow (nI n) mth := fun s2 => by
      unfold p_X7_addJob_53
      exact r_goes_1 ⟨fun _ => qx o, fun h => absurd rfl h⟩
    exact ⟨fun _ => b _, fun _ => b _⟩
  unfold p_X7_addJob
  refine r_isTime (fun o1 => ⟨fun h => absurd h n10, fun _ => r_isTime (fun o2 => ⟨fun h => absurd h n10, fun _ => r_isTime (fun o3 => ⟨fun h => absurd h n10, fun _ => ?_⟩) (fun o => ⟨fun _ => bad (fun r => o r.2.2.1), fun h => absurd rfl h⟩)⟩) (fun o => ⟨fun _ => bad (fun r => o r.2.1), fun h => absurd rfl h⟩)⟩) (fun o => ⟨fun _ => bad (fun r => o r.1), fun h => absurd rfl h⟩)
  obtain ⟨v1, hv1, e1⟩ := id o1
  obtain ⟨v2, hv2, e2⟩ := id o2
  obtain ⟨v3, hv3, e3⟩ := id o3
  have es : x1 + x2 + x3 = nI (v1 + v2 + v3) := by rw [e1, e2, e3, nI_add, nI_add]
  have zz : ∀ v, v < 51 → (nI v = 0 ↔ v = 0) := fun v hv => ⟨fun h => by rw [← nI_0] at h; exact nI_inj (by omega) (by omega) h, fun h => by rw [h, nI_0]⟩
  refine ⟨fun hle => bad (fun r => r.2.2.2 ?_), fun hgt => ?_⟩
  · rw [es] at hle
    have : v1 + v2 + v3 ≤ 0 := (nI_leI (by omega) (by omega)).mp (by rw [nI_0]; exact hle)
    rw [e1, e2, e3, zz _ hv1, zz _ hv2, zz _ hv3]; omega
  · have o : tAll x1 x2 x3 := ⟨o1, o2, o3, fun r => hgt (by rw [r.1, r.2.1, r.2.2]; decide)⟩
    refine ⟨fun h7 => ?_, fun h7 => ?_⟩
    · unfold p_X7_addJob_53
      exact r_goes_2 ⟨fun _ => q2 o (e7.mp h7), fun h => absurd rfl h⟩
    · have hl : n < 7 := Classical.byContradiction (fun r => h7 (e7.mpr r))
      have hlow : lowm x1 x2 < 3 := by
        unfold lowm
        split
        · split <;> omega
        · omega
      have hin : vp_in (nI n) 7 := vp_in_nI (by omega) (by decide)
      have e3n : (3 : Int32) * nI n = nI (3 * n) := by rw [show (3 : Int32) = nI 3 from by decide, pk_mul]
      unfold p_X7_addJob_53
      rw [e3n, nI_1 (3 * n), show nI (3 * n) + (2 : Int32) = nI (3 * n + 2) by rw [show (2 : Int32) = nI 2 from by decide, nI_add], nI_clamp (show 3 * n < 2 ^ 31 by omega), nI_clamp (show 3 * n + 1 < 2 ^ 31 by omega), nI_clamp (show 3 * n + 2 < 2 ^ 31 by omega), nI_clamp (show n < 2 ^ 31 by omega)]
      obtain ⟨u0, u1, -, -⟩ := upJ_at (ti := ti) (n := n) (x1 := x1) (x2 := x2) (x3 := x3)
      refine r_goes_ok ⟨fun h => absurd h n10, fun _ => ⟨vp_in_nI (by omega) (by decide), vp_in_nI (by omega) (by decide), vp_in_nI (by omega) (by decide), lowest_spec hN hl u0 u1 ⟨hin, fun f9 e9 => ?_⟩⟩⟩
      rw [e9, nI_1, nI_pred]
      exact q o hl _ (PL.set (fun i hi e => hp i (by omega)) hlow)
end
