/-! the reference begins with whole jobs -/
theorem ro_lt {n r : Nat} (hr : r < n + 4) : ro n r < n + 4 := by
  unfold ro
  by_cases a : r < n
  · rw [if_pos a]; omega
  · rw [if_neg a]
    by_cases b : r < n + 3
    · rw [if_pos b]; omega
    · rw [if_neg b]; omega
/-- the cells with k jobs begun -/
def GS (n k : Nat) (cap : Int) (tm : Nat → Int) (r c : Nat) : Int := RA n 400 tm c (ro n r) - if n ≤ r ∧ r < n + 3 then sm k (fun j => cfC cap tm j (r - n) * RA n 400 tm c j) else 0
theorem RA_01 {n c j : Nat} {R : Int} {tm : Nat → Int} (hn : n ≤ 7) (hj : j < n) (hc : c < 27) : RA n R tm c j = 0 ∨ RA n R tm c j = 1 := by
  by_cases b1 : c < 3 * n
  · rw [RA_share b1]
    by_cases e : j = c / 3
    · rw [if_pos e]; exact Or.inr rfl
    · rw [if_neg e, if_neg (by omega)]; exact Or.inl rfl
  · by_cases b2 : c < 21
    · rw [RA_none (by omega) b2]; exact Or.inl rfl
    · by_cases b3 : c = 21
      · subst b3; rw [RA_21 hn, if_neg (by omega), if_neg (by omega)]; exact Or.inl rfl
      · by_cases b4 : c < 25
        · rw [RA_slack hn (by omega) b4, if_neg (by omega)]; exact Or.inl rfl
        · by_cases b5 : c = 25
          · subst b5; rw [RA_25 hn, if_neg (by omega)]; exact Or.inl rfl
          · have b6 : c = 26 := by omega
            subst b6; rw [RA_26 hn, if_pos hj]; exact Or.inr rfl
theorem RA_abs {n c r : Nat} {tm : Nat → Int} (hn : n ≤ 7) (ht : ∀ c, c < 3 * n → 0 ≤ tm c ∧ tm c ≤ 50) (hc : c < 27) : (RA n 400 tm c r).natAbs ≤ 400 := by
  by_cases b1 : c < 3 * n
  · have := ht c b1
    rw [RA_share b1]
    split
    · decide
    · split
      · omega
      · decide
  · by_cases b2 : c < 21
    · rw [RA_none (by omega) b2]; decide
    · by_cases b3 : c = 21
      · subst b3; rw [RA_21 hn]
        split
        · decide
        · split <;> decide
      · by_cases b4 : c < 25
        · rw [RA_slack hn (by omega) b4]; split <;> decide
        · by_cases b5 : c = 25
          · subst b5; rw [RA_25 hn]; split <;> decide
          · have b6 : c = 26 := by omega
            subst b6; rw [RA_26 hn]
            split
            · decide
            · split <;> decide
theorem GS_abs {n k c r cap : Nat} {ti : Nat → Int32} (hJ : JI n ti) (hk : k ≤ n) (hc : c < 27) : (GS n k cap (tmI ti) r c).natAbs ≤ 1000 := by
  have hn := hJ.1
  have h1 := RA_abs (tm := tmI ti) (r := ro n r) hn (fun c hc => hJ.tm hc) hc
  have h2 := sm_cf (cap := cap) hJ hk (r - n)
  have h3 : 0 ≤ sm k (fun j => cfC cap (tmI ti) j (r - n) * RA n 400 (tmI ti) c j) := sm_nonneg (fun j hj => by
    have := cfC_le (cap := cap) hJ (show j < n by omega) (r - n)
    rcases RA_01 (R := 400) (tm := tmI ti) hn (show j < n by omega) hc with e | e <;> rw [e] <;> omega)
  have h4 : sm k (fun j => cfC cap (tmI ti) j (r - n) * RA n 400 (tmI ti) c j) ≤ sm k (fun j => cfC cap (tmI ti) j (r - n)) := sm_le (fun j hj => by
    have := cfC_le (cap := cap) hJ (show j < n by omega) (r - n)
    rcases RA_01 (R := 400) (tm := tmI ti) hn (show j < n by omega) hc with e | e <;> rw [e] <;> omega)
  unfold GS
  split <;> omega
theorem GS_job {n k c r : Nat} {cap : Int} {tm : Nat → Int} (hr : r < n) : GS n k cap tm r c = RA n 400 tm c r := by
  unfold GS ro
  rw [if_pos hr, if_neg (by omega)]; omega
theorem GS_mach {n k c i : Nat} {cap : Int} {tm : Nat → Int} (hi : i < 3) : GS n k cap tm (n + i) c = RA n 400 tm c (n + 1 + i) - sm k (fun j => cfC cap tm j i * RA n 400 tm c j) := by
  unfold GS ro
  rw [if_neg (by omega), if_pos (by omega), if_pos (by omega), show n + i - n = i by omega, show n + i + 1 = n + 1 + i by omega]
theorem GS_last {n k c : Nat} {cap : Int} {tm : Nat → Int} : GS n k cap tm (n + 3) c = RA n 400 tm c n := by
  unfold GS ro
  rw [if_neg (by omega), if_neg (by omega), if_neg (by omega)]; omega
/-- the column of a job that begins, before it does -/
theorem GS_key {n k : Nat} {cap : Int} {tm : Nat → Int} (hn : n ≤ 7) (hk : k < n) (hh : hasC cap tm k) : (∀ r, r < n → r ≠ k → GS n k cap tm r (keyC cap tm k) = 0) ∧ GS n k cap tm k (keyC cap tm k) = 1 ∧ (∀ i, i < 3 → GS n k cap tm (n + i) (keyC cap tm k) = cfC cap tm k i) ∧ GS n k cap tm (n + 3) (keyC cap tm k) = 0 := by
  obtain ⟨hok, h1, h2⟩ := keyC_ok hh
  have hs : keyC cap tm k < 3 * n := by omega
  refine ⟨fun r hr hne => ?_, ?_, fun i hi => ?_, ?_⟩
  · rw [GS_job hr, RA_share hs, if_neg (by omega), if_neg (by omega)]
  · rw [GS_job hk, RA_share hs, if_pos (by omega)]
  · rw [GS_mach hi, RA_share hs, if_neg (by omega), sm_zero (fun j hj => by rw [RA_share hs, if_neg (by omega), if_neg (by omega), Int.mul_zero])]
    unfold cfC
    by_cases e : keyC cap tm k % 3 = i
    · rw [if_pos e, if_pos (by omega)]; omega
    · rw [if_neg e, if_neg (by omega)]; omega
  · rw [GS_last, RA_share hs, if_neg (by omega), if_neg (by omega)]
theorem GS_next {n k r c : Nat} {cap : Int} {tm : Nat → Int} (hn : n ≤ 7) (hk : k < n) (hh : hasC cap tm k) (hr : r < n + 4) (hrk : r ≠ k) : GS n (k + 1) cap tm r c = GS n k cap tm r c * (1 * GS n k cap tm k (keyC cap tm k)) - GS n k cap tm r (keyC cap tm k) * (1 * GS n k cap tm k c) := by
  obtain ⟨g1, g2, g3, g4⟩ := GS_key hn hk hh
  rw [g2]
  by_cases a1 : r < n
  · rw [g1 r a1 hrk, GS_job a1, GS_job a1]; omega
  · by_cases a2 : r = n + 3
    · subst a2; rw [g4, GS_last, GS_last]; omega
    · obtain ⟨i, hi, rfl⟩ : ∃ i, i < 3 ∧ r = n + i := ⟨r - n, by omega, by omega⟩
      rw [g3 i hi, GS_mach hi, GS_mach hi, GS_job hk]
      show RA n 400 tm c (n + 1 + i) - (sm k (fun j => cfC cap tm j i * RA n 400 tm c j) + cfC cap tm k i * RA n 400 tm c k) = _
      rw [Int.one_mul, Int.one_mul]
      omega
theorem RA_unit_det {n : Nat} {b : Nat → Nat} {cap R : Int} {tm : Nat → Int} (hn : n ≤ 7) (hall : ∀ j, j < n → hasC cap tm j) (hb1 : ∀ i, i < 3 → b (n + i) = 22 + i) (hb2 : ∀ j, j < n → b j = keyC cap tm j) (hb3 : b (n + 3) = 25) : det (n + 4) 0 (fun s => RA n R tm (b s)) = 1 ∨ det (n + 4) 0 (fun s => RA n R tm (b s)) = -1 := by
  let un : Nat → Nat → Int := fun k r => if r = k then 1 else 0
  have hsl : ∀ i, i < 3 → ∀ r, r < n + 4 → RA n R tm (b (n + i)) r = un (n + 1 + i) r := fun i hi r hr => by
    rw [hb1 i hi, RA_slack hn (by omega) (by omega), show 22 + i - 22 = i by omega]
  have hov : ∀ r, r < n + 4 → RA n R tm (b (n + 3)) r = un n r := fun r hr => by rw [hb3, RA_25 hn]
  have hkey : ∀ j, j < n → ∀ r, r < n + 4 → RA n R tm (b j) r = un j r + tm (keyC cap tm j) * un (n + 1 + keyC cap tm j % 3) r := fun j hj r hr => by
    obtain ⟨h1, h2, h3⟩ := keyC_ok (hall j hj)
    rw [hb2 j hj, RA_share (by omega), show keyC cap tm j / 3 = j by omega]
    show _ = (if r = j then 1 else 0) + tm (keyC cap tm j) * (if r = n + 1 + keyC cap tm j % 3 then 1 else 0)
    by_cases e : r = j
    · rw [if_pos e, if_pos e, if_neg (by omega), Int.mul_zero, Int.add_zero]
    · rw [if_neg e, if_neg e]
      by_cases e2 : r = n + 1 + keyC cap tm j % 3
      · rw [if_pos e2, if_pos e2, Int.mul_one, Int.zero_add]
      · rw [if_neg e2, if_neg e2, Int.mul_zero]; rfl
  let D : Nat → Nat → Nat → Int := fun k s => if s < k then un s else RA n R tm (b s)
  have hD : ∀ k, k ≤ n → det (n + 4) 0 (fun s => RA n R tm (b s)) = det (n + 4) 0 (D k) := by
    intro k
    induction k with
    | zero =>
      intro _
      congr 1
    | succ k ih =>
      intro hk
      rw [ih (by omega), det_less (p := k) (q := n + keyC cap tm k % 3) (x := un k) (y := un (n + 1 + keyC cap tm k % 3)) (tm (keyC cap tm k)) (by omega) (by omega) (by omega) (fun r _ hr => ?_) (fun r _ hr => ?_)]
      · congr 1
        funext s
        by_cases e : s = k
        · subst e
          rw [cset_same]
          show un s = if s < s + 1 then un s else _
          rw [if_pos (by omega)]
        · rw [cset_ne e]
          show (if s < k then un s else RA n R tm (b s)) = if s < k + 1 then un s else RA n R tm (b s)
          by_cases e2 : s < k
          · rw [if_pos e2, if_pos (by omega)]
          · rw [if_neg e2, if_neg (by omega)]
      · show (if k < k then un k else RA n R tm (b k)) r = _
        rw [if_neg (by omega)]
        exact hkey k (by omega) r (by omega)
      · show (if n + keyC cap tm k % 3 < k then un (n + keyC cap tm k % 3) else RA n R tm (b (n + keyC cap tm k % 3))) r = _
        rw [if_neg (by omega)]
        exact hsl _ (by omega) r (by omega)
  rw [hD n (Nat.le_refl n)]
  refine det_perm (p := fun s => if s < n then s else if s < n + 3 then s + 1 else n) (q := fun r => if r < n then r else if r = n then n + 3 else r - 1) (fun s hs r _ hr => ?_) (fun s hs => ?_) (fun r _ hr => ?_)
  · show (if s < n then un s else RA n R tm (b s)) r = _
    by_cases e : s < n
    · rw [if_pos e, if_pos e]
    · rw [if_neg e, if_neg e]
      by_cases e2 : s < n + 3
      · rw [if_pos e2]
        have := hsl (s - n) (by omega) r (by omega)
        rw [show n + (s - n) = s by omega, show n + 1 + (s - n) = s + 1 by omega] at this
        exact this
      · rw [if_neg e2]
        have := hov r (by omega)
        rw [show n + 3 = s by omega] at this
        exact this
  · by_cases e : s < n
    · simp [e] <;> omega
    · by_cases e2 : s < n + 3
      · simp only [if_neg e, if_pos e2, if_neg (show ¬ s + 1 < n by omega), if_neg (show ¬ s + 1 = n by omega)]; omega
      · simp only [if_neg e, if_neg e2, if_neg (show ¬ n < n by omega), if_true]; omega
  · by_cases e : r < n
    · simp [e] <;> omega
    · by_cases e2 : r = n
      · simp only [if_neg e, if_pos e2, if_neg (show ¬ n + 3 < n by omega), if_neg (show ¬ n + 3 < n + 3 by omega)]; omega
      · simp only [if_neg e, if_neg e2, if_neg (show ¬ r - 1 < n by omega), if_pos (show r - 1 < n + 3 by omega)]; omega
theorem GS_Tb {n cap : Nat} {ti : Nat → Int32} {T : Nat → Nat → Int} {b : Nat → Nat} (hJ : JI n ti) (hall : ∀ j, j < n → hasC cap (tmI ti) j) (hT : ∀ r c, r < n + 4 → c < 27 → T r c = GS n n cap (tmI ti) r c) (hb1 : ∀ i, i < 3 → b (n + i) = 22 + i) (hb2 : ∀ j, j < n → b j = keyC cap (tmI ti) j) (hb3 : b (n + 3) = 25) : Tb (n + 4) 26 (RA n 400 (tmI ti)) T b 1 := by
  have hn := hJ.1
  have hkc : ∀ j, j < n → okC cap (tmI ti) (keyC cap (tmI ti) j) ∧ 3 * j ≤ keyC cap (tmI ti) j ∧ keyC cap (tmI ti) j < 3 * j + 3 := fun j hj => keyC_ok (hall j hj)
  have hcase : ∀ s, s < n + 4 → s < n ∨ (∃ i, i < 3 ∧ s = n + i) ∨ s = n + 3 := fun s hs => by
    by_cases e : s < n
    · exact Or.inl e
    · by_cases e2 : s = n + 3
      · exact Or.inr (Or.inr e2)
      · exact Or.inr (Or.inl ⟨s - n, by omega, by omega⟩)
  have hbs : ∀ s, s < n + 4 → b s < 26 := fun s hs => by
    rcases hcase s hs with e | ⟨i, hi, rfl⟩ | rfl
    · rw [hb2 s e]; have := hkc s e; omega
    · rw [hb1 i hi]; omega
    · rw [hb3]; omega
  -- the columns of the basis, in the columns' own rows
  have kj : ∀ j s, j < n → s < n → RA n 400 (tmI ti) (b s) j = if j = s then 1 else 0 := fun j s hj hs => by
    obtain ⟨k1, k2, k3⟩ := hkc s hs
    rw [hb2 s hs, RA_share (by omega), show keyC cap (tmI ti) s / 3 = s by omega]
    by_cases e : j = s
    · rw [if_pos e, if_pos e]
    · rw [if_neg e, if_neg e, if_neg (by omega)]
  have sj : ∀ j i, j < n → i < 3 → RA n 400 (tmI ti) (b (n + i)) j = 0 := fun j i hj hi => by rw [hb1 i hi, RA_slack hn (by omega) (by omega), if_neg (by omega)]
  have oj : ∀ j, j < n → RA n 400 (tmI ti) (b (n + 3)) j = 0 := fun j hj => by rw [hb3, RA_25 hn, if_neg (by omega)]
  refine ⟨by decide, hbs, fun r s hr hs => ?_, fun x => ?_, ?_⟩
  · rw [hT r _ hr (by have := hbs s hs; omega)]
    rcases hcase r hr with er | ⟨i, hi, rfl⟩ | rfl
    · rw [GS_job er]
      rcases hcase s hs with es | ⟨i', hi', rfl⟩ | rfl
      · exact kj r s er es
      · rw [sj r i' er hi', if_neg (by omega)]
      · rw [oj r er, if_neg (by omega)]
    · rw [GS_mach hi]
      rcases hcase s hs with es | ⟨i', hi', rfl⟩ | rfl
      · obtain ⟨k1, k2, k3⟩ := hkc s es
        rw [sm_one s es (fun j hj hne => by rw [kj j s hj es, if_neg hne, Int.mul_zero]), kj s s es es, if_pos rfl, Int.mul_one, if_neg (by omega), hb2 s es, RA_share (by omega), if_neg (by omega)]
        unfold cfC
        by_cases e : keyC cap (tmI ti) s % 3 = i
        · rw [if_pos e, if_pos (by omega)]; omega
        · rw [if_neg e, if_neg (by omega)]; omega
      · rw [sm_zero (fun j hj => by rw [sj j i' hj hi', Int.mul_zero]), hb1 i' hi', RA_slack hn (by omega) (by omega)]
        by_cases e : i = i'
        · rw [if_pos (by omega), if_pos (by omega)]; rfl
        · rw [if_neg (by omega), if_neg (by omega)]; rfl
      · rw [sm_zero (fun j hj => by rw [oj j hj, Int.mul_zero]), hb3, RA_25 hn, if_neg (by omega), if_neg (by omega)]; rfl
    · rw [GS_last]
      rcases hcase s hs with es | ⟨i', hi', rfl⟩ | rfl
      · obtain ⟨k1, k2, k3⟩ := hkc s es
        rw [hb2 s es, RA_share (by omega), if_neg (by omega), if_neg (by omega), if_neg (by omega)]
      · rw [hb1 i' hi', RA_slack hn (by omega) (by omega), if_neg (by omega), if_neg (by omega)]
      · rw [hb3, RA_25 hn, if_pos rfl, if_pos rfl]
  · have hjob : ∀ j, j < n → sm 27 (fun c => T j c * x c) = sm 27 (fun c => RA n 400 (tmI ti) c j * x c) := fun j hj => sm_congr (fun c hc => by rw [hT j c (by omega) hc, GS_job hj])
    have hlast : sm 27 (fun c => T (n + 3) c * x c) = sm 27 (fun c => RA n 400 (tmI ti) c n * x c) := sm_congr (fun c hc => by rw [hT (n + 3) c (by omega) hc, GS_last])
    have hmach : ∀ i, i < 3 → sm 27 (fun c => T (n + i) c * x c) = sm 27 (fun c => RA n 400 (tmI ti) c (n + 1 + i) * x c) - sm n (fun j => cfC cap (tmI ti) j i * sm 27 (fun c => RA n 400 (tmI ti) c j * x c)) := fun i hi => by
      have e1 : ∀ j, cfC cap (tmI ti) j i * sm 27 (fun c => RA n 400 (tmI ti) c j * x c) = sm 27 (fun c => cfC cap (tmI ti) j i * (RA n 400 (tmI ti) c j * x c)) := fun j => (sm_mul _ _ _).symm
      rw [sm_congr (fun j _ => e1 j), sm_comm, ← sm_sub]
      refine sm_congr (fun c hc => ?_)
      rw [hT (n + i) c (by omega) hc, GS_mach hi, Int.sub_mul]
      congr 1
      rw [Int.mul_comm, ← sm_mul]
      exact sm_congr (fun j _ => by rw [Int.mul_left_comm, Int.mul_comm (x c)])
    constructor
    · intro hs r hr
      show sm 27 (fun c => T r c * x c) = 0
      rcases hcase r hr with er | ⟨i, hi, rfl⟩ | rfl
      · rw [hjob r er]; exact hs r hr
      · have z : sm n (fun j => cfC cap (tmI ti) j i * sm 27 (fun c => RA n 400 (tmI ti) c j * x c)) = 0 := sm_zero (fun j hj => by rw [show sm 27 (fun c => RA n 400 (tmI ti) c j * x c) = 0 from hs j (by omega), Int.mul_zero])
        rw [hmach i hi, z]
        have : sm 27 (fun c => RA n 400 (tmI ti) c (n + 1 + i) * x c) = 0 := hs (n + 1 + i) (by omega)
        omega
      · rw [hlast]; exact hs n (by omega)
    · intro hs r hr
      show sm 27 (fun c => RA n 400 (tmI ti) c r * x c) = 0
      by_cases er : r < n
      · rw [← hjob r er]; exact hs r hr
      · by_cases e2 : r = n
        · subst e2; rw [← hlast]; exact hs (r + 3) (by omega)
        · have h1 : sm 27 (fun c => T (n + (r - n - 1)) c * x c) = 0 := hs (n + (r - n - 1)) (by omega)
          have z : sm n (fun j => cfC cap (tmI ti) j (r - n - 1) * sm 27 (fun c => RA n 400 (tmI ti) c j * x c)) = 0 := sm_zero (fun j hj => by
            have h2 : sm 27 (fun c => T j c * x c) = 0 := hs j (by omega)
            rw [← hjob j hj, h2, Int.mul_zero])
          rw [hmach (r - n - 1) (by omega), z, show n + 1 + (r - n - 1) = r by omega] at h1
          omega
  · rcases RA_unit_det (R := 400) hn hall hb1 hb2 hb3 with h1 | h1
    · exact ⟨1, Or.inl rfl, by rw [h1]; rfl⟩
    · exact ⟨-1, Or.inr rfl, by rw [h1]; rfl⟩