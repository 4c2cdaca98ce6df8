/-! the right side at the limit 0 is a sum of unit columns: its cells are small -/
def unitC (i : Nat) : Nat → Int := fun r => if r = i then 1 else 0
theorem rhs0 {n : Nat} {cap : Int} {tm : Nat → Int} {T : Nat → Nat → Int} {b : Nat → Nat} {d : Int} (hn : n ≤ 7) (h : Tb (n + 3) 25 (CA n ((0 : Nat) : Int) cap tm) T b d) (hA : Wd n 25 (CA n ((0 : Nat) : Int) cap tm)) {r : Nat} (hr : r < n + 3) : (T r 25).natAbs ≤ 189000000 := by
  obtain ⟨σ, hσ, -, e⟩ := h.det_cell (Nat.le_refl 25) hr
  have h1 : (T r 25).natAbs = (det (n + 3) 0 (cset (fun s => CA n ((0 : Nat) : Int) cap tm (b s)) r (CA n ((0 : Nat) : Int) cap tm 25))).natAbs := by
    rw [e, Int.natAbs_mul]
    rcases hσ with rfl | rfl <;> simp
  have h2 : det (n + 3) 0 (cset (fun s => CA n ((0 : Nat) : Int) cap tm (b s)) r (CA n ((0 : Nat) : Int) cap tm 25)) = det (n + 3) 0 (cset (fun s => CA n ((0 : Nat) : Int) cap tm (b s)) r (fun q => sm n (fun i => 1 * unitC i q))) := by
    refine det_congr (fun i hi q _ hq => ?_)
    by_cases ei : i = r
    · subst ei
      rw [cset_same, cset_same]
      have e25 : CA n ((0 : Nat) : Int) cap tm 25 q = if q < n then 1 else ((0 : Nat) : Int) := by
        unfold CA
        rw [if_neg (by omega), if_neg (by omega), if_neg (by omega), if_neg (by omega)]
      rw [e25]
      by_cases hqn : q < n
      · rw [if_pos hqn, sm_one q hqn (fun i hi hne => by
          show 1 * unitC i q = 0
          unfold unitC
          rw [if_neg (fun z => hne z.symm), Int.mul_zero])]
        show (1 : Int) = 1 * unitC q q
        unfold unitC
        rw [if_pos rfl, Int.mul_one]
      · rw [if_neg hqn, sm_zero (fun i hi => by
          show 1 * unitC i q = 0
          unfold unitC
          rw [if_neg (by omega), Int.mul_zero])]
        rfl
    · rw [cset_ne ei, cset_ne ei]
  rw [h1, h2, det_sum hr]
  have hW : Wd n (25 + n) (fun c => if c < 25 then CA n ((0 : Nat) : Int) cap tm c else unitC (c - 25)) := by
    refine ⟨fun c hc => ?_, fun c hc q h1 h2 => ?_⟩
    · show smn n (fun q => ((if c < 25 then CA n ((0 : Nat) : Int) cap tm c else unitC (c - 25)) q).natAbs) ≤ 1
      by_cases e : c < 25
      · rw [if_pos e]; exact hA.1 c e
      · rw [if_neg e]
        have key : ∀ k, smn k (fun q => (unitC (c - 25) q).natAbs) ≤ if c - 25 < k then 1 else 0 := by
          intro k
          induction k with
          | zero => exact Nat.zero_le _
          | succ k ih =>
            show smn k (fun q => (unitC (c - 25) q).natAbs) + (unitC (c - 25) k).natAbs ≤ _
            have hu : (unitC (c - 25) k).natAbs = if k = c - 25 then 1 else 0 := by
              unfold unitC
              split <;> rfl
            rw [hu]
            by_cases e1 : c - 25 < k
            · rw [if_pos e1] at ih
              rw [if_neg (by omega), if_pos (by omega)]; omega
            · rw [if_neg e1] at ih
              by_cases e2 : k = c - 25
              · rw [if_pos e2, if_pos (by omega)]; omega
              · rw [if_neg e2, if_neg (by omega)]; omega
        have := key n
        split at this <;> omega
    · show ((if c < 25 then CA n ((0 : Nat) : Int) cap tm c else unitC (c - 25)) q).natAbs ≤ 50
      by_cases e : c < 25
      · rw [if_pos e]; exact hA.2 c e q h1 h2
      · rw [if_neg e]
        unfold unitC
        split <;> decide
  refine Nat.le_trans (sm_abs_le (g := fun _ => 27000000) (fun i hi => ?_)) (Nat.le_trans (smn_const_le (fun _ _ => Nat.le_refl 27000000)) (by omega))
  rw [Int.one_mul]
  refine det_wd hW (fun j hj => ?_)
  by_cases e2 : j = r
  · subst e2
    refine ⟨25 + i, by omega, ?_⟩
    rw [cset_same]
    show unitC i = if 25 + i < 25 then CA n ((0 : Nat) : Int) cap tm (25 + i) else unitC (25 + i - 25)
    rw [if_neg (by omega), show 25 + i - 25 = i by omega]
  · refine ⟨b j, by have := h.lt hj; omega, ?_⟩
    rw [cset_ne e2]
    show CA n ((0 : Nat) : Int) cap tm (b j) = if b j < 25 then CA n ((0 : Nat) : Int) cap tm (b j) else unitC (b j - 25)
    rw [if_pos (h.lt hj)]
theorem vl_small {n : Nat} {cap : Int} {tm : Nat → Int} {T : Nat → Nat → Int} {b : Nat → Nat} {d : Int} (hn : n ≤ 7) (h : Tb (n + 3) 25 (CA n ((0 : Nat) : Int) cap tm) T b d) (hA : Wd n 25 (CA n ((0 : Nat) : Int) cap tm)) (k : Nat) : (vl (n + 3) 25 T b k).natAbs ≤ 189000000 := by
  by_cases e : ∃ s, s < n + 3 ∧ b s = k
  · obtain ⟨s, hs, e⟩ := e
    rw [← e, vl_b h hs]
    exact rhs0 hn h hA hs
  · rw [vl_off (fun s hs q => e ⟨s, hs, q⟩)]
    decide
