/-! the component's columns: shares, what is left of the limit, the excess, the right side; rows: jobs, then machines -/
def CA (n : Nat) (L cap : Int) (tm : Nat → Int) : Nat → Nat → Int := fun c r =>
  if c < 3 * n then (if 0 < tm c ∧ tm c ≤ cap then (if r = c / 3 then 1 else if r = n + c % 3 then tm c else 0) else 0)
  else if c < 21 then 0
  else if c < 24 then (if r = n + (c - 21) then 1 else 0)
  else if c = 24 then (if n ≤ r then -1 else 0)
  else (if r < n then 1 else L)
/-- a share that may stand -/
def Xo (cap : Int) (tm x : Nat → Int) (c : Nat) : Int := if 0 < tm c ∧ tm c ≤ cap then x c else 0
def al0C (n : Nat) (cap : Int) (tm : Nat → Int) : Nat → Prop := fun c => (c < 3 * n ∧ 0 < tm c ∧ tm c ≤ cap) ∨ (21 ≤ c ∧ c < 24)
section
variable {n : Nat} {L cap : Int} {tm x : Nat → Int}
theorem CA_job_sum (hn : n ≤ 7) {j : Nat} (hj : j < n) : sm 26 (fun c => CA n L cap tm c j * x c) = Xo cap tm x (3 * j) + Xo cap tm x (3 * j + 1) + Xo cap tm x (3 * j + 2) + x 25 := by
  have e1 : sm 26 (fun c => CA n L cap tm c j * x c) = sm 21 (fun c => CA n L cap tm c j * x c) + CA n L cap tm 21 j * x 21 + CA n L cap tm 22 j * x 22 + CA n L cap tm 23 j * x 23 + CA n L cap tm 24 j * x 24 + CA n L cap tm 25 j * x 25 := rfl
  have e2 : sm 21 (fun c => CA n L cap tm c j * x c) = sm (3 * n) (fun c => CA n L cap tm c j * x c) := by
    have := sm_cut (n := 3 * n) (f := fun c => CA n L cap tm c j * x c) (21 - 3 * n) (fun i h1 h2 => by
      show CA n L cap tm i j * x i = 0
      unfold CA
      rw [if_neg (by omega), if_pos (by omega), Int.zero_mul])
    rw [show 3 * n + (21 - 3 * n) = 21 by omega] at this
    exact this
  have s1 : ∀ i, i < 3 → CA n L cap tm (21 + i) j = 0 := fun i hi => by
    unfold CA
    rw [if_neg (by omega), if_neg (by omega), if_pos (by omega), if_neg (by omega)]
  have s2 : CA n L cap tm 24 j = 0 := by
    unfold CA
    rw [if_neg (by omega), if_neg (by omega), if_neg (by omega), if_pos rfl, if_neg (by omega)]
  have s3 : CA n L cap tm 25 j = 1 := by
    unfold CA
    rw [if_neg (by omega), if_neg (by omega), if_neg (by omega), if_neg (by omega), if_pos hj]
  have share : ∀ j' i, j' < n → i < 3 → CA n L cap tm (3 * j' + i) j * x (3 * j' + i) = if j' = j then Xo cap tm x (3 * j' + i) else 0 := fun j' i h1 h2 => by
    unfold CA Xo
    rw [if_pos (by omega), show (3 * j' + i) / 3 = j' by omega]
    by_cases ho : 0 < tm (3 * j' + i) ∧ tm (3 * j' + i) ≤ cap
    · rw [if_pos ho, if_pos ho]
      by_cases e : j' = j
      · rw [if_pos e.symm, if_pos e, Int.one_mul]
      · rw [if_neg (fun q => e q.symm), if_neg (by omega), if_neg e, Int.zero_mul]
    · rw [if_neg ho, if_neg ho, Int.zero_mul]
      split <;> rfl
  rw [e1, e2, sm_3, s1 0 (by omega), s1 1 (by omega), s1 2 (by omega), s2, s3, sm_one j hj]
  · have h0 := share j 0 hj (by omega)
    have h1 := share j 1 hj (by omega)
    have h2 := share j 2 hj (by omega)
    rw [if_pos rfl] at h0 h1 h2
    rw [Nat.add_zero] at h0
    rw [h0, h1, h2]
    omega
  · intro j' hj' hne
    have h0 := share j' 0 hj' (by omega)
    have h1 := share j' 1 hj' (by omega)
    have h2 := share j' 2 hj' (by omega)
    rw [if_neg hne] at h0 h1 h2
    rw [Nat.add_zero] at h0
    rw [h0, h1, h2]; rfl
theorem CA_mach_sum (hn : n ≤ 7) {i : Nat} (hi : i < 3) : sm 26 (fun c => CA n L cap tm c (n + i) * x c) = sm n (fun j => tm (3 * j + i) * Xo cap tm x (3 * j + i)) + x (21 + i) - x 24 + L * x 25 := by
  have e1 : sm 26 (fun c => CA n L cap tm c (n + i) * x c) = sm 21 (fun c => CA n L cap tm c (n + i) * x c) + CA n L cap tm 21 (n + i) * x 21 + CA n L cap tm 22 (n + i) * x 22 + CA n L cap tm 23 (n + i) * x 23 + CA n L cap tm 24 (n + i) * x 24 + CA n L cap tm 25 (n + i) * x 25 := rfl
  have e2 : sm 21 (fun c => CA n L cap tm c (n + i) * x c) = sm (3 * n) (fun c => CA n L cap tm c (n + i) * x c) := by
    have := sm_cut (n := 3 * n) (f := fun c => CA n L cap tm c (n + i) * x c) (21 - 3 * n) (fun k h1 h2 => by
      show CA n L cap tm k (n + i) * x k = 0
      unfold CA
      rw [if_neg (by omega), if_pos (by omega), Int.zero_mul])
    rw [show 3 * n + (21 - 3 * n) = 21 by omega] at this
    exact this
  have s1 : ∀ k, k < 3 → CA n L cap tm (21 + k) (n + i) = if k = i then 1 else 0 := fun k hk => by
    unfold CA
    rw [if_neg (by omega), if_neg (by omega), if_pos (by omega)]
    by_cases e : k = i
    · rw [if_pos (by omega), if_pos e]
    · rw [if_neg (by omega), if_neg e]
  have s2 : CA n L cap tm 24 (n + i) = -1 := by
    unfold CA
    rw [if_neg (by omega), if_neg (by omega), if_neg (by omega), if_pos rfl, if_pos (by omega)]
  have s3 : CA n L cap tm 25 (n + i) = L := by
    unfold CA
    rw [if_neg (by omega), if_neg (by omega), if_neg (by omega), if_neg (by omega), if_neg (by omega)]
  have share : ∀ j k, j < n → k < 3 → CA n L cap tm (3 * j + k) (n + i) * x (3 * j + k) = if k = i then tm (3 * j + k) * Xo cap tm x (3 * j + k) else 0 := fun j k h1 h2 => by
    unfold CA Xo
    rw [if_pos (by omega), show (3 * j + k) % 3 = k by omega, if_neg (show ¬ n + i = (3 * j + k) / 3 by omega)]
    by_cases ho : 0 < tm (3 * j + k) ∧ tm (3 * j + k) ≤ cap
    · rw [if_pos ho, if_pos ho]
      by_cases e : k = i
      · rw [if_pos (by omega), if_pos e]
      · rw [if_neg (by omega), if_neg e, Int.zero_mul]
    · rw [if_neg ho, if_neg ho, Int.zero_mul, Int.mul_zero]
      split <;> rfl
  have hs : sm n (fun j => CA n L cap tm (3 * j) (n + i) * x (3 * j) + CA n L cap tm (3 * j + 1) (n + i) * x (3 * j + 1) + CA n L cap tm (3 * j + 2) (n + i) * x (3 * j + 2)) = sm n (fun j => tm (3 * j + i) * Xo cap tm x (3 * j + i)) := sm_congr (fun j hj => by
    have h0 := share j 0 hj (by omega)
    have h1 := share j 1 hj (by omega)
    have h2 := share j 2 hj (by omega)
    rw [Nat.add_zero] at h0
    rw [h0, h1, h2]
    rcases (show i = 0 ∨ i = 1 ∨ i = 2 by omega) with rfl | rfl | rfl
    · rw [if_pos rfl, if_neg (by omega), if_neg (by omega), Nat.add_zero]; omega
    · rw [if_neg (by omega), if_pos rfl, if_neg (by omega)]; omega
    · rw [if_neg (by omega), if_neg (by omega), if_pos rfl]; omega)
  have h0 := s1 0 (by omega)
  have h1 := s1 1 (by omega)
  have h2 := s1 2 (by omega)
  rw [Nat.add_zero] at h0
  rw [e1, e2, sm_3, hs, h0, h1, h2, s2, s3]
  rcases (show i = 0 ∨ i = 1 ∨ i = 2 by omega) with rfl | rfl | rfl
  · rw [if_pos rfl, if_neg (by omega), if_neg (by omega), Nat.add_zero]; omega
  · rw [if_neg (by omega), if_pos rfl, if_neg (by omega), show 21 + 1 = 22 from rfl]; omega
  · rw [if_neg (by omega), if_neg (by omega), if_pos rfl, show 21 + 2 = 23 from rfl]; omega
theorem CA_sol (hn : n ≤ 7) : sol (n + 3) 25 (CA n L cap tm) x ↔ (∀ j, j < n → Xo cap tm x (3 * j) + Xo cap tm x (3 * j + 1) + Xo cap tm x (3 * j + 2) = - x 25) ∧ (∀ i, i < 3 → sm n (fun j => tm (3 * j + i) * Xo cap tm x (3 * j + i)) + x (21 + i) - x 24 = L * (- x 25)) := by
  constructor
  · intro h
    refine ⟨fun j hj => ?_, fun i hi => ?_⟩
    · have h1 := h j (by omega)
      rw [CA_job_sum hn hj] at h1; omega
    · have h1 := h (n + i) (by omega)
      rw [CA_mach_sum hn hi] at h1
      rw [Int.mul_neg]; omega
  · rintro ⟨h1, h2⟩ r hr
    by_cases hj : r < n
    · rw [CA_job_sum hn hj]
      have := h1 r hj; omega
    · obtain ⟨i, hi, rfl⟩ : ∃ i, i < 3 ∧ r = n + i := ⟨r - n, by omega, by omega⟩
      rw [CA_mach_sum hn hi]
      have := h2 i hi
      rw [Int.mul_neg] at this; omega
theorem CA_wd (ht : ∀ c, c < 3 * n → 0 ≤ tm c ∧ tm c ≤ 50) : Wd n 25 (CA n L cap tm) := by
  refine ⟨fun c hc => ?_, fun c hc r h1 h2 => ?_⟩
  · have key : ∀ k, k ≤ n → smn k (fun r => (CA n L cap tm c r).natAbs) ≤ if c / 3 < k then 1 else 0 := by
      intro k
      induction k with
      | zero => intro _; exact Nat.zero_le _
      | succ k ih =>
        intro hk
        have h1 := ih (by omega)
        show smn k (fun r => (CA n L cap tm c r).natAbs) + (CA n L cap tm c k).natAbs ≤ _
        have h2 : (CA n L cap tm c k).natAbs ≤ if c / 3 = k then 1 else 0 := by
          unfold CA
          by_cases a1 : c < 3 * n
          · rw [if_pos a1]
            by_cases ho : 0 < tm c ∧ tm c ≤ cap
            · rw [if_pos ho]
              by_cases e : k = c / 3
              · rw [if_pos e, if_pos e.symm]; decide
              · rw [if_neg e, if_neg (by omega)]; exact Nat.zero_le _
            · rw [if_neg ho]; exact Nat.zero_le _
          · rw [if_neg a1]
            by_cases a2 : c < 21
            · rw [if_pos a2]; exact Nat.zero_le _
            · rw [if_neg a2]
              by_cases a3 : c < 24
              · rw [if_pos a3, if_neg (by omega)]; exact Nat.zero_le _
              · rw [if_neg a3, if_pos (by omega), if_neg (by omega)]; exact Nat.zero_le _
        by_cases e1 : c / 3 < k
        · rw [if_pos e1] at h1
          rw [if_neg (by omega)] at h2
          rw [if_pos (by omega)]; omega
        · rw [if_neg e1] at h1
          by_cases e2 : c / 3 = k
          · rw [if_pos e2] at h2; rw [if_pos (by omega)]; omega
          · rw [if_neg e2] at h2; rw [if_neg (by omega)]; omega
    refine Nat.le_trans (key n (Nat.le_refl n)) ?_
    split <;> omega
  · unfold CA
    by_cases a1 : c < 3 * n
    · rw [if_pos a1]
      have h3 := ht c a1
      split
      · split
        · decide
        · split
          · omega
          · decide
      · decide
    · rw [if_neg a1]
      split
      · decide
      · split
        · split <;> decide
        · rw [if_pos (show c = 24 by omega)]; decide
end
