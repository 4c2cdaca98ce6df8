section
variable {n : Nat} {L cap : Int} {tm x : Nat → Int}
theorem Xo_nonneg {c : Nat} (h : 0 ≤ x c) : 0 ≤ Xo cap tm x c := by
  unfold Xo; split
  · exact h
  · exact Int.le_refl 0
theorem vls_iff : ∀ (j base v : Nat), v ∈ vls j base ↔ (3 * base ≤ v ∧ v < 3 * (base + j)) ∨ (21 ≤ v ∧ v < 25) := by
  intro j
  induction j with
  | zero =>
    intro base v
    show v ∈ [21, 22, 23, 24] ↔ _
    simp only [List.mem_cons, List.not_mem_nil, or_false]
    omega
  | succ j ih =>
    intro base v
    show v ∈ [3 * base, 3 * base + 1, 3 * base + 2] ++ vls j (base + 1) ↔ _
    rw [List.mem_append, ih]
    simp only [List.mem_cons, List.not_mem_nil, or_false]
    omega
/-- what a basis of these columns holds -/
theorem CA_basis (hn : n ≤ 7) {T : Nat → Nat → Int} {b : Nat → Nat} {d : Int} (h : Tb (n + 3) 25 (CA n L cap tm) T b d) {s : Nat} (hs : s < n + 3) : (b s < 3 * n ∧ 0 < tm (b s) ∧ tm (b s) ≤ cap) ∨ (21 ≤ b s ∧ b s < 25) := by
  have hb := h.lt hs
  obtain ⟨r, hr, hne⟩ := h.nz hs
  unfold CA at hne
  by_cases a1 : b s < 3 * n
  · rw [if_pos a1] at hne
    by_cases ho : 0 < tm (b s) ∧ tm (b s) ≤ cap
    · exact Or.inl ⟨a1, ho⟩
    · rw [if_neg ho] at hne; exact absurd rfl hne
  · rw [if_neg a1] at hne
    by_cases a2 : b s < 21
    · rw [if_pos a2] at hne; exact absurd rfl hne
    · exact Or.inr ⟨by omega, by omega⟩
theorem CA_AOk (hn : n ≤ 7) (hL0 : 0 ≤ L) (hL : L ≤ 600) (ht : ∀ c, c < 3 * n → 0 ≤ tm c ∧ tm c ≤ 50) : AOk n (CA n L cap tm) (al0C n cap tm) := by
  refine ⟨CA_wd ht, fun T b d h hf hv r hr => ?_, fun T b d h => ⟨fun s hs => ?_, fun j hj => ?_⟩, fun T b d h h24 c hc hca hcnb => ?_⟩
  · -- the right side
    obtain ⟨hJ, hM⟩ := (CA_sol hn).mp (bsl_sol h)
    have hd := h.pos
    rw [bsl_N, Int.neg_neg] at hJ hM
    have hnn : ∀ c, c < 25 → 0 ≤ bsl (n + 3) 25 T b d c := fun c hc => by rw [bsl_lt hc]; exact vl_nonneg hf c
    have hXn : ∀ c, c < 25 → 0 ≤ Xo cap tm (bsl (n + 3) 25 T b d) c := fun c hc => Xo_nonneg (hnn c hc)
    have hbr : T r 25 = bsl (n + 3) 25 T b d (b r) := by rw [bsl_lt (h.lt hr), vl_b h hr]
    have h24 : bsl (n + 3) 25 T b d 24 ≤ 350 * d := by rw [bsl_lt (by omega)]; exact hv
    rw [hbr]
    rcases CA_basis hn h hr with ⟨h1, ho⟩ | ⟨h1, h2⟩
    · have hj := hJ (b r / 3) (by omega)
      have e : Xo cap tm (bsl (n + 3) 25 T b d) (b r) = bsl (n + 3) 25 T b d (b r) := by unfold Xo; rw [if_pos ho]
      have q0 := hXn (3 * (b r / 3)) (by omega)
      have q1 := hXn (3 * (b r / 3) + 1) (by omega)
      have q2 := hXn (3 * (b r / 3) + 2) (by omega)
      rw [← e]
      rcases (show b r = 3 * (b r / 3) ∨ b r = 3 * (b r / 3) + 1 ∨ b r = 3 * (b r / 3) + 2 by omega) with q | q | q
      · have q' : Xo cap tm (bsl (n + 3) 25 T b d) (b r) = Xo cap tm (bsl (n + 3) 25 T b d) (3 * (b r / 3)) := congrArg _ q
        omega
      · have q' : Xo cap tm (bsl (n + 3) 25 T b d) (b r) = Xo cap tm (bsl (n + 3) 25 T b d) (3 * (b r / 3) + 1) := congrArg _ q
        omega
      · have q' : Xo cap tm (bsl (n + 3) 25 T b d) (b r) = Xo cap tm (bsl (n + 3) 25 T b d) (3 * (b r / 3) + 2) := congrArg _ q
        omega
    · by_cases e24 : b r = 24
      · rw [e24]; omega
      · have hm := hM (b r - 21) (by omega)
        rw [show 21 + (b r - 21) = b r by omega] at hm
        have hs0 : 0 ≤ sm n (fun j => tm (3 * j + (b r - 21)) * Xo cap tm (bsl (n + 3) 25 T b d) (3 * j + (b r - 21))) := sm_nonneg (fun j hj => Int.mul_nonneg (ht _ (by omega)).1 (hXn _ (by omega)))
        have hLd : L * d ≤ 600 * d := Int.mul_le_mul_of_nonneg_right hL (by omega)
        omega
  · rw [vls_iff]
    rcases CA_basis hn h hs with ⟨h1, -⟩ | h1
    · exact Or.inl ⟨by omega, by omega⟩
    · exact Or.inr h1
  · apply Classical.byContradiction
    intro hno
    obtain ⟨hJ, -⟩ := (CA_sol hn).mp (bsl_sol h)
    have hj' := hJ j hj
    have hz : ∀ i, i < 3 → Xo cap tm (bsl (n + 3) 25 T b d) (3 * j + i) = 0 := fun i hi => by
      unfold Xo
      rw [bsl_lt (by omega), vl_off (fun s hs e => hno ⟨s, hs, by omega⟩)]
      split <;> rfl
    have h0 : Xo cap tm (bsl (n + 3) 25 T b d) (3 * j) = 0 := hz 0 (by omega)
    have h1 := hz 1 (by omega)
    have h2 := hz 2 (by omega)
    rw [h0, h1, h2, bsl_N] at hj'
    have := h.pos
    omega
  · apply Classical.byContradiction
    intro hno
    have hneg : ∀ r, r < n + 3 → T r c ≤ 0 := fun r hr => Classical.byContradiction (fun q => hno ⟨r, hr, by omega⟩)
    obtain ⟨hJ, hM⟩ := (CA_sol hn).mp ((h.sols _).mpr (dirv_sol h (Nat.le_of_lt (show c < 25 by omega))))
    have hd := h.pos
    have y25 : dirv (n + 3) T b d c 25 = 0 := dirv_off (by omega) (fun s hs e => by have := h.lt hs; omega)
    have y24 : dirv (n + 3) T b d c 24 = 0 := dirv_off (by omega) h24
    have yc : dirv (n + 3) T b d c c = d := dirv_at hcnb
    have hnn : ∀ k, 0 ≤ dirv (n + 3) T b d c k := fun k => by
      by_cases e : k = c
      · rw [e, yc]; omega
      · by_cases hb : ∃ s, s < n + 3 ∧ b s = k
        · obtain ⟨s, hs, e2⟩ := hb
          rw [← e2, dirv_b h hcnb hs]
          have := hneg s hs; omega
        · rw [dirv_off e (fun s hs e2 => hb ⟨s, hs, e2⟩)]; exact Int.le_refl 0
    rw [y25] at hJ hM
    have hX0 : ∀ k, k < 3 * n → Xo cap tm (dirv (n + 3) T b d c) k = 0 := fun k hk => by
      have hj := hJ (k / 3) (by omega)
      have q0 : 0 ≤ Xo cap tm (dirv (n + 3) T b d c) (3 * (k / 3)) := Xo_nonneg (hnn _)
      have q1 : 0 ≤ Xo cap tm (dirv (n + 3) T b d c) (3 * (k / 3) + 1) := Xo_nonneg (hnn _)
      have q2 : 0 ≤ Xo cap tm (dirv (n + 3) T b d c) (3 * (k / 3) + 2) := Xo_nonneg (hnn _)
      rcases (show k = 3 * (k / 3) ∨ k = 3 * (k / 3) + 1 ∨ k = 3 * (k / 3) + 2 by omega) with q | q | q
      · have q' : Xo cap tm (dirv (n + 3) T b d c) k = Xo cap tm (dirv (n + 3) T b d c) (3 * (k / 3)) := congrArg _ q
        omega
      · have q' : Xo cap tm (dirv (n + 3) T b d c) k = Xo cap tm (dirv (n + 3) T b d c) (3 * (k / 3) + 1) := congrArg _ q
        omega
      · have q' : Xo cap tm (dirv (n + 3) T b d c) k = Xo cap tm (dirv (n + 3) T b d c) (3 * (k / 3) + 2) := congrArg _ q
        omega
    rcases hca with ⟨h1, ho⟩ | ⟨h1, h2⟩
    · have := hX0 c h1
      unfold Xo at this
      rw [if_pos ho, yc] at this
      omega
    · have hm := hM (c - 21) (by omega)
      rw [show 21 + (c - 21) = c by omega, yc, y24, sm_zero (fun j hj => by rw [hX0 _ (by omega), Int.mul_zero])] at hm
      rw [Int.neg_zero, Int.mul_zero] at hm
      omega
end
/-! divisions -/
def FZ (n : Nat) (L cap : Int) (tm : Nat → Int) (x : Nat → Int) (t : Int) : Prop :=
  (∀ c, c < 3 * n → 0 ≤ x c) ∧ (∀ c, c < 3 * n → ¬ (0 < tm c ∧ tm c ≤ cap) → x c = 0) ∧ (∀ j, j < n → x (3 * j) + x (3 * j + 1) + x (3 * j + 2) = t) ∧ (∀ i, i < 3 → sm n (fun j => tm (3 * j + i) * x (3 * j + i)) ≤ L * t)
theorem Xo_eq {cap : Int} {tm x : Nat → Int} {c : Nat} (h : ¬ (0 < tm c ∧ tm c ≤ cap) → x c = 0) : Xo cap tm x c = x c := by
  unfold Xo
  by_cases ho : 0 < tm c ∧ tm c ≤ cap
  · rw [if_pos ho]
  · rw [if_neg ho, h ho]
theorem CA_FZ {n : Nat} {L cap : Int} {tm x : Nat → Int} (hn : n ≤ 7) (h : Fc (n + 3) 25 (CA n L cap tm) (al0C n cap tm) x) : FZ n L cap tm x (- x 25) := by
  obtain ⟨hs, hnn, hz⟩ := h
  obtain ⟨hJ, hM⟩ := (CA_sol hn).mp hs
  have hX : ∀ c, c < 3 * n → Xo cap tm x c = x c := fun c hc => Xo_eq (fun ho => hz c (by omega) (fun q => by
    rcases q with ⟨-, q⟩ | ⟨q, -⟩
    · exact ho q
    · omega))
  have h24 : x 24 = 0 := hz 24 (by omega) (fun q => by
    rcases q with ⟨q, -⟩ | ⟨-, q⟩ <;> omega)
  refine ⟨fun c hc => hnn c (by omega), fun c hc ho => ?_, fun j hj => ?_, fun i hi => ?_⟩
  · have := hX c hc
    unfold Xo at this
    rw [if_neg ho] at this
    exact this.symm
  · rw [← hX _ (by omega), ← hX (3 * j + 1) (by omega), ← hX (3 * j + 2) (by omega)]; exact hJ j hj
  · have h1 := hM i hi
    have h2 : sm n (fun j => tm (3 * j + i) * Xo cap tm x (3 * j + i)) = sm n (fun j => tm (3 * j + i) * x (3 * j + i)) := sm_congr (fun j hj => by rw [hX _ (by omega)])
    have h3 := hnn (21 + i) (by omega)
    rw [h2] at h1
    omega
theorem FZ_CA {n : Nat} {L cap : Int} {tm x : Nat → Int} {t : Int} (hn : n ≤ 7) (h : FZ n L cap tm x t) : ∃ y, Fc (n + 3) 25 (CA n L cap tm) (al0C n cap tm) y ∧ y 25 = - t ∧ ∀ c, c < 3 * n → y c = x c := by
  obtain ⟨h0, hz, hJ, hM⟩ := h
  refine ⟨fun c => if c < 3 * n then x c else if c < 21 then 0 else if c < 24 then L * t - sm n (fun j => tm (3 * j + (c - 21)) * x (3 * j + (c - 21))) else if c = 24 then 0 else - t, ⟨?_, fun k hk => ?_, fun k hk hna => ?_⟩, ?_, fun c hc => if_pos hc⟩
  · rw [CA_sol hn]
    have hX : ∀ c, c < 3 * n → Xo cap tm (fun c => if c < 3 * n then x c else if c < 21 then 0 else if c < 24 then L * t - sm n (fun j => tm (3 * j + (c - 21)) * x (3 * j + (c - 21))) else if c = 24 then 0 else - t) c = x c := fun c hc => by
      rw [Xo_eq (fun ho => by rw [if_pos hc]; exact hz c hc ho), if_pos hc]
    refine ⟨fun j hj => ?_, fun i hi => ?_⟩
    · rw [hX _ (by omega), hX _ (by omega), hX _ (by omega), hJ j hj, if_neg (by omega), if_neg (by omega), if_neg (by omega), if_neg (by omega), Int.neg_neg]
    · rw [sm_congr (fun j hj => by rw [hX _ (show 3 * j + i < 3 * n by omega)])]
      rw [if_neg (by omega), if_neg (by omega), if_pos (by omega), show 21 + i - 21 = i by omega]
      rw [if_neg (by omega), if_neg (by omega), if_neg (by omega), if_pos rfl, if_neg (by omega), if_neg (by omega), if_neg (by omega), if_neg (by omega), Int.neg_neg]
      omega
  · by_cases a1 : k < 3 * n
    · simp only [if_pos a1]; exact h0 k a1
    · by_cases a2 : k < 21
      · simp only [if_neg a1, if_pos a2]; exact Int.le_refl 0
      · by_cases a3 : k < 24
        · simp only [if_neg a1, if_neg a2, if_pos a3]
          have := hM (k - 21) (by omega); omega
        · simp only [if_neg a1, if_neg a2, if_neg a3, if_pos (show k = 24 by omega)]; exact Int.le_refl 0
  · by_cases a1 : k < 3 * n
    · simp only [if_pos a1]
      exact hz k a1 (fun ho => hna (Or.inl ⟨a1, ho⟩))
    · by_cases a2 : k < 21
      · simp only [if_neg a1, if_pos a2]
      · by_cases a3 : k < 24
        · exact absurd (Or.inr ⟨by omega, a3⟩) hna
        · simp only [if_neg a1, if_neg a2, if_neg a3, if_pos (show k = 24 by omega)]
  · simp only [if_neg (show ¬ 25 < 3 * n by omega), if_neg (show ¬ 25 < 21 by omega), if_neg (show ¬ 25 < 24 by omega), if_neg (show ¬ 25 = 24 by omega)]
