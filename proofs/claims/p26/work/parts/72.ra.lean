/-! the reference's columns: shares, the greatest load (21), what is left of it (22 to 24), what is left of the bound (25), the right side (26); rows: jobs, the bound, machines -/
def RA (n : Nat) (R : Int) (tm : Nat → Int) : Nat → Nat → Int := fun c r =>
  if c < 3 * n then (if r = c / 3 then 1 else if r = n + 1 + c % 3 then tm c else 0)
  else if c < 21 then 0
  else if c = 21 then (if r = n then 1 else if n < r then -1 else 0)
  else if c < 25 then (if r = n + 1 + (c - 22) then 1 else 0)
  else if c = 25 then (if r = n then 1 else 0)
  else (if r < n then 1 else if r = n then R else 0)
def al0R (n : Nat) (cap : Int) (tm : Nat → Int) : Nat → Prop := fun c => (c < 3 * n ∧ 0 < tm c ∧ tm c ≤ cap) ∨ (21 ≤ c ∧ c < 26)
section
variable {n : Nat} {R cap : Int} {tm x : Nat → Int}
theorem RA_share {c r : Nat} (h : c < 3 * n) : RA n R tm c r = if r = c / 3 then 1 else if r = n + 1 + c % 3 then tm c else 0 := if_pos h
theorem RA_none {c r : Nat} (h : 3 * n ≤ c) (h2 : c < 21) : RA n R tm c r = 0 := (if_neg (by omega)).trans (if_pos h2)
theorem RA_21 {r : Nat} (hn : n ≤ 7) : RA n R tm 21 r = if r = n then 1 else if n < r then -1 else 0 := (if_neg (by omega)).trans ((if_neg (by omega)).trans (if_pos rfl))
theorem RA_slack {c r : Nat} (hn : n ≤ 7) (h : 22 ≤ c) (h2 : c < 25) : RA n R tm c r = if r = n + 1 + (c - 22) then 1 else 0 := (if_neg (by omega)).trans ((if_neg (by omega)).trans ((if_neg (by omega)).trans (if_pos h2)))
theorem RA_25 {r : Nat} (hn : n ≤ 7) : RA n R tm 25 r = if r = n then 1 else 0 := (if_neg (by omega)).trans ((if_neg (by omega)).trans ((if_neg (by omega)).trans ((if_neg (by omega)).trans (if_pos rfl))))
theorem RA_26 {r : Nat} (hn : n ≤ 7) : RA n R tm 26 r = if r < n then 1 else if r = n then R else 0 := (if_neg (by omega)).trans ((if_neg (by omega)).trans ((if_neg (by omega)).trans ((if_neg (by omega)).trans (if_neg (by omega)))))
theorem sm27 (f : Nat → Int) (hn : n ≤ 7) (hz : ∀ c, 3 * n ≤ c → c < 21 → f c = 0) : sm 27 f = sm n (fun j => f (3 * j) + f (3 * j + 1) + f (3 * j + 2)) + f 21 + f 22 + f 23 + f 24 + f 25 + f 26 := by
  have e1 : sm 27 f = sm 21 f + f 21 + f 22 + f 23 + f 24 + f 25 + f 26 := rfl
  have e2 : sm 21 f = sm (3 * n) f := by
    have := sm_cut (n := 3 * n) (f := f) (21 - 3 * n) (fun i h1 h2 => hz i h1 (by omega))
    rw [show 3 * n + (21 - 3 * n) = 21 by omega] at this
    exact this
  rw [e1, e2, sm_3]
theorem RA_job_sum (hn : n ≤ 7) {j : Nat} (hj : j < n) : sm 27 (fun c => RA n R tm c j * x c) = x (3 * j) + x (3 * j + 1) + x (3 * j + 2) + x 26 := by
  have share : ∀ j' i, j' < n → i < 3 → RA n R tm (3 * j' + i) j * x (3 * j' + i) = if j' = j then x (3 * j' + i) else 0 := fun j' i h1 h2 => by
    rw [RA_share (by omega), show (3 * j' + i) / 3 = j' by omega]
    by_cases e : j' = j
    · rw [if_pos e.symm, if_pos e, Int.one_mul]
    · rw [if_neg (fun q => e q.symm), if_neg (by omega), if_neg e, Int.zero_mul]
  rw [sm27 _ hn (fun c h1 h2 => by rw [RA_none h1 h2, Int.zero_mul]), RA_21 hn, RA_slack hn (by omega) (by omega), RA_slack hn (by omega) (by omega), RA_slack hn (by omega) (by omega), RA_25 hn, RA_26 hn, if_neg (by omega), if_neg (by omega), if_neg (by omega), if_neg (by omega), if_neg (by omega), if_neg (by omega), if_pos hj, sm_one j hj]
  · have h0 := share j 0 hj (by omega)
    have h1 := share j 1 hj (by omega)
    have h2 := share j 2 hj (by omega)
    rw [if_pos rfl] at h0 h1 h2
    have h0' : RA n R tm (3 * j) j * x (3 * j) = x (3 * j) := h0
    rw [h0', h1, h2]; omega
  · intro j' hj' hne
    have h0 := share j' 0 hj' (by omega)
    have h1 := share j' 1 hj' (by omega)
    have h2 := share j' 2 hj' (by omega)
    rw [if_neg hne] at h0 h1 h2
    have h0' : RA n R tm (3 * j') j * x (3 * j') = 0 := h0
    rw [h0', h1, h2]; rfl
theorem RA_last_sum (hn : n ≤ 7) : sm 27 (fun c => RA n R tm c n * x c) = x 21 + x 25 + R * x 26 := by
  rw [sm27 _ hn (fun c h1 h2 => by rw [RA_none h1 h2, Int.zero_mul]), RA_21 hn, RA_slack hn (by omega) (by omega), RA_slack hn (by omega) (by omega), RA_slack hn (by omega) (by omega), RA_25 hn, RA_26 hn, if_pos rfl, if_neg (by omega), if_neg (by omega), if_neg (by omega), if_pos rfl, if_neg (by omega), if_pos rfl, sm_zero]
  · omega
  · intro j hj
    have z : ∀ i, i < 3 → RA n R tm (3 * j + i) n = 0 := fun i hi => by rw [RA_share (by omega), if_neg (by omega), if_neg (by omega)]
    have h0 : RA n R tm (3 * j) n = 0 := z 0 (by omega)
    rw [h0, z 1 (by omega), z 2 (by omega)]; omega
theorem RA_mach_sum (hn : n ≤ 7) {i : Nat} (hi : i < 3) : sm 27 (fun c => RA n R tm c (n + 1 + i) * x c) = sm n (fun j => tm (3 * j + i) * x (3 * j + i)) - x 21 + x (22 + i) := by
  have share : ∀ j k, j < n → k < 3 → RA n R tm (3 * j + k) (n + 1 + i) * x (3 * j + k) = if k = i then tm (3 * j + k) * x (3 * j + k) else 0 := fun j k h1 h2 => by
    rw [RA_share (by omega), show (3 * j + k) % 3 = k by omega, if_neg (by omega)]
    by_cases e : k = i
    · rw [if_pos (by omega), if_pos e]
    · rw [if_neg (by omega), if_neg e, Int.zero_mul]
  have hs : sm n (fun j => RA n R tm (3 * j) (n + 1 + i) * x (3 * j) + RA n R tm (3 * j + 1) (n + 1 + i) * x (3 * j + 1) + RA n R tm (3 * j + 2) (n + 1 + i) * x (3 * j + 2)) = sm n (fun j => tm (3 * j + i) * x (3 * j + i)) := sm_congr (fun j hj => by
    have h0 : RA n R tm (3 * j) (n + 1 + i) * x (3 * j) = if 0 = i then tm (3 * j) * x (3 * j) else 0 := share j 0 hj (by omega)
    have h1 := share j 1 hj (by omega)
    have h2 := share j 2 hj (by omega)
    rw [h0, h1, h2]
    rcases (show i = 0 ∨ i = 1 ∨ i = 2 by omega) with rfl | rfl | rfl
    · rw [if_pos rfl, if_neg (by omega), if_neg (by omega), Nat.add_zero]; omega
    · rw [if_neg (by omega), if_pos rfl, if_neg (by omega)]; omega
    · rw [if_neg (by omega), if_neg (by omega), if_pos rfl]; omega)
  rw [sm27 _ hn (fun c h1 h2 => by rw [RA_none h1 h2, Int.zero_mul]), RA_21 hn, RA_slack hn (by omega) (by omega), RA_slack hn (by omega) (by omega), RA_slack hn (by omega) (by omega), RA_25 hn, RA_26 hn, hs]
  rcases (show i = 0 ∨ i = 1 ∨ i = 2 by omega) with rfl | rfl | rfl
  · rw [if_neg (by omega), if_pos (by omega), if_pos (by omega), if_neg (by omega), if_neg (by omega), if_neg (by omega), if_neg (by omega), if_neg (by omega), show 22 + 0 = 22 from rfl]; omega
  · rw [if_neg (by omega), if_pos (by omega), if_neg (by omega), if_pos (by omega), if_neg (by omega), if_neg (by omega), if_neg (by omega), if_neg (by omega), show 22 + 1 = 23 from rfl]; omega
  · rw [if_neg (by omega), if_pos (by omega), if_neg (by omega), if_neg (by omega), if_pos (by omega), if_neg (by omega), if_neg (by omega), if_neg (by omega), show 22 + 2 = 24 from rfl]; omega
theorem RA_sol (hn : n ≤ 7) : sol (n + 4) 26 (RA n R tm) x ↔ (∀ j, j < n → x (3 * j) + x (3 * j + 1) + x (3 * j + 2) = - x 26) ∧ x 21 + x 25 = R * (- x 26) ∧ (∀ i, i < 3 → sm n (fun j => tm (3 * j + i) * x (3 * j + i)) + x (22 + i) = x 21) := by
  constructor
  · intro h
    refine ⟨fun j hj => ?_, ?_, fun i hi => ?_⟩
    · have h1 := h j (by omega)
      rw [RA_job_sum hn hj] at h1; omega
    · have h1 := h n (by omega)
      rw [RA_last_sum hn] at h1
      rw [Int.mul_neg]; omega
    · have h1 := h (n + 1 + i) (by omega)
      rw [RA_mach_sum hn hi] at h1; omega
  · rintro ⟨h1, h2, h3⟩ r hr
    by_cases hj : r < n
    · rw [RA_job_sum hn hj]
      have := h1 r hj; omega
    · by_cases e : r = n
      · subst e
        rw [RA_last_sum hn]
        rw [Int.mul_neg] at h2; omega
      · obtain ⟨i, hi, rfl⟩ : ∃ i, i < 3 ∧ r = n + 1 + i := ⟨r - n - 1, by omega, by omega⟩
        rw [RA_mach_sum hn hi]
        have := h3 i hi; omega
theorem RA_wd (hn : n ≤ 7) (ht : ∀ c, c < 3 * n → 0 ≤ tm c ∧ tm c ≤ 50) : Wd (n + 1) 26 (RA n R tm) := by
  refine ⟨fun c hc => ?_, fun c hc r h1 h2 => ?_⟩
  · have one : ∀ (p : Nat) (f : Nat → Nat), (∀ r, r < n + 1 → f r ≤ if r = p then 1 else 0) → smn (n + 1) f ≤ 1 := fun p f h => by
      have key : ∀ k, k ≤ n + 1 → smn k f ≤ if p < k then 1 else 0 := by
        intro k
        induction k with
        | zero => intro _; exact Nat.zero_le _
        | succ k ih =>
          intro hk
          have q1 := ih (by omega)
          have q2 := h k (by omega)
          show smn k f + f k ≤ _
          by_cases e1 : p < k
          · rw [if_pos e1] at q1
            rw [if_neg (by omega)] at q2
            rw [if_pos (by omega)]; omega
          · rw [if_neg e1] at q1
            by_cases e2 : k = p
            · rw [if_pos e2] at q2; rw [if_pos (by omega)]; omega
            · rw [if_neg e2] at q2; rw [if_neg (by omega)]; omega
      refine Nat.le_trans (key (n + 1) (Nat.le_refl _)) ?_
      split <;> omega
    by_cases a1 : c < 3 * n
    · refine one (c / 3) _ (fun r hr => ?_)
      rw [RA_share a1]
      by_cases e : r = c / 3
      · rw [if_pos e, if_pos e]; decide
      · rw [if_neg e, if_neg e, if_neg (by omega)]; decide
    · by_cases a2 : c < 21
      · refine one 0 _ (fun r hr => ?_)
        rw [RA_none (by omega) a2]; exact Nat.zero_le _
      · refine one n _ (fun r hr => ?_)
        by_cases a3 : c = 21
        · subst a3
          rw [RA_21 hn]
          by_cases e : r = n
          · rw [if_pos e, if_pos e]; decide
          · rw [if_neg e, if_neg e, if_neg (by omega)]; decide
        · by_cases a4 : c < 25
          · rw [RA_slack hn (by omega) a4, if_neg (by omega)]; exact Nat.zero_le _
          · have : c = 25 := by omega
            subst this
            rw [RA_25 hn]
            by_cases e : r = n
            · rw [if_pos e, if_pos e]; decide
            · rw [if_neg e, if_neg e]; decide
  · by_cases a1 : c < 3 * n
    · have h3 := ht c a1
      rw [RA_share a1]
      split
      · decide
      · split
        · omega
        · decide
    · by_cases a2 : c < 21
      · rw [RA_none (by omega) a2]; decide
      · by_cases a3 : c = 21
        · subst a3
          rw [RA_21 hn, if_neg (by omega), if_pos (by omega)]; decide
        · by_cases a4 : c < 25
          · rw [RA_slack hn (by omega) a4]; split <;> decide
          · have : c = 25 := by omega
            subst this
            rw [RA_25 hn, if_neg (by omega)]; decide
theorem RA_FZ {x : Nat → Int} (hn : n ≤ 7) (h : Fc (n + 4) 26 (RA n R tm) (al0R n cap tm) x) : DV n cap tm x (- x 26) (x 21) ∧ x 21 + x 25 = R * (- x 26) := by
  obtain ⟨hs, hnn, hz⟩ := h
  obtain ⟨hJ, hl, hM⟩ := (RA_sol hn).mp hs
  refine ⟨⟨fun c hc => hnn c (by omega), fun c hc ho => hz c (by omega) (fun q => ?_), hJ, fun i hi => ?_⟩, hl⟩
  · rcases q with ⟨-, q⟩ | ⟨q, -⟩
    · exact ho q
    · omega
  · have h1 := hM i hi
    have h2 := hnn (22 + i) (by omega)
    omega
theorem FZ_RA {x : Nat → Int} {t g : Int} (hn : n ≤ 7) (hg0 : 0 ≤ g) (hg : g ≤ R * t) (h : DV n cap tm x t g) : ∃ y, Fc (n + 4) 26 (RA n R tm) (al0R n cap tm) y ∧ y 26 = - t ∧ y 21 = g ∧ ∀ c, c < 3 * n → y c = x c := by
  obtain ⟨h0, hz, hJ, hM⟩ := h
  refine ⟨fun c => if c < 3 * n then x c else if c < 21 then 0 else if c = 21 then g else if c < 25 then g - sm n (fun j => tm (3 * j + (c - 22)) * x (3 * j + (c - 22))) else if c = 25 then R * t - g else - t, ⟨?_, fun k hk => ?_, fun k hk hna => ?_⟩, ?_, ?_, fun c hc => if_pos hc⟩
  · rw [RA_sol hn]
    refine ⟨fun j hj => ?_, ?_, fun i hi => ?_⟩
    · rw [if_pos (by omega), if_pos (by omega), if_pos (by omega), hJ j hj, if_neg (by omega), if_neg (by omega), if_neg (by omega), if_neg (by omega), if_neg (by omega), Int.neg_neg]
    · rw [if_neg (by omega), if_neg (by omega), if_pos rfl, if_neg (by omega), if_neg (by omega), if_neg (by omega), if_neg (by omega), if_pos rfl, if_neg (by omega), if_neg (by omega), if_neg (by omega), if_neg (by omega), if_neg (by omega), Int.neg_neg]
      omega
    · rw [sm_congr (fun j hj => by rw [if_pos (show 3 * j + i < 3 * n by omega)])]
      rw [if_neg (by omega), if_neg (by omega), if_neg (by omega), if_pos (by omega), show 22 + i - 22 = i by omega]
      rw [if_neg (by omega), if_neg (by omega), if_pos rfl]
      omega
  · by_cases a1 : k < 3 * n
    · simp only [if_pos a1]; exact h0 k a1
    · by_cases a2 : k < 21
      · simp only [if_neg a1, if_pos a2]; exact Int.le_refl 0
      · by_cases a3 : k = 21
        · simp only [if_neg a1, if_neg a2, if_pos a3]; exact hg0
        · by_cases a4 : k < 25
          · simp only [if_neg a1, if_neg a2, if_neg a3, if_pos a4]
            have := hM (k - 22) (by omega); omega
          · simp only [if_neg a1, if_neg a2, if_neg a3, if_neg a4, if_pos (show k = 25 by omega)]; omega
  · by_cases a1 : k < 3 * n
    · simp only [if_pos a1]
      exact hz k a1 (fun ho => hna (Or.inl ⟨a1, ho⟩))
    · by_cases a2 : k < 21
      · simp only [if_neg a1, if_pos a2]
      · exact absurd (Or.inr ⟨by omega, hk⟩) hna
  · simp only [if_neg (show ¬ 26 < 3 * n by omega), if_neg (show ¬ 26 < 21 by omega), if_neg (show ¬ 26 = 21 by omega), if_neg (show ¬ 26 < 25 by omega), if_neg (show ¬ 26 = 25 by omega)]
  · simp only [if_neg (show ¬ 21 < 3 * n by omega), if_neg (show ¬ 21 < 21 by omega), if_true]
end
