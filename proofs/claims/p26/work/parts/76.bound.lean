/-! the reference: what a limit fits, the bound, the least greatest load -/
theorem rcell {r c : Nat} : (27 : Int32) * nI r + (26 : Int32) = nI (27 * r + 26) := by rw [show (26 : Int32) = nI 26 from by decide, ix27]
theorem RS.keep {n T : Nat} {cap R : Int} {tm : Nat → Int} {mta : Nat → Int64} {mba mib : Nat → Int32} {mdi : Int64} (hn : n ≤ 7) (h : RS n R T tm mta mba mib mdi) (hle : vl (n + 4) 26 (UT mta) (BB mba) 21 ≤ T * mdi.toInt) : Keep n tm T := by
  obtain ⟨⟨d1, d2, d3, d4⟩, -, -⟩ := h.dv hn
  exact ⟨_, _, h.2.1.pos, d1, d2, d3, fun i hi => Int.le_trans (d4 i hi) hle⟩
/-- a row that no column lowers: its load is the least -/
theorem RS.least {n : Nat} {cap : Int} {tm x : Nat → Int} {mta : Nat → Int64} {mba mib : Nat → Int32} {mdi : Int64} {ρ : Nat} {t E : Int} (hn : n ≤ 7) (h : RS n 400 cap tm mta mba mib mdi) (hal : ∀ v, v < 26 → (alR mib v ↔ al0R n cap tm v)) (hρ : ρ < n + 4) (hg : BB mba ρ = 21) (hno : ∀ k, k < 26 → alR mib k → (∀ s, s < n + 4 → BB mba s ≠ k) → UT mta ρ k ≤ 0)
    (hE0 : 0 ≤ E) (hE : E ≤ 400 * t) (hD : DV n cap tm x t E) : vl (n + 4) 26 (UT mta) (BB mba) 21 * t ≤ E * mdi.toInt := by
  obtain ⟨y, hy, hy26, hy21, -⟩ := FZ_RA (R := 400) hn hE0 hE hD
  have h1 := opt_min h.2.1 hy hρ (fun k hk hka hnb => hno k hk ((hal k hk).mpr hka) hnb)
  have hv : vl (n + 4) 26 (UT mta) (BB mba) 21 = UT mta ρ 26 := by rw [← hg]; exact vl_b h.2.1 hρ
  rw [hg, hy21, hy26, Int.neg_neg] at h1
  rw [hv, Int.mul_comm E]; exact h1
theorem Keep_0 {tm : Nat → Int} {T : Nat} : Keep 0 tm T := by
  refine ⟨fun _ => 0, 1, by decide, fun c hc => absurd hc (by omega), fun c hc => absurd hc (by omega), fun j hj => absurd hj (by omega), fun i hi => ?_⟩
  show (0 : Int) ≤ T * 1
  omega
/-- the bound -/
def Bnd (n : Nat) (tm : Nat → Int) (T : Nat) : Prop := T ≤ 350 ∧ Keep n tm T ∧ ∀ T', T' < T → ¬ Keep n tm T'
theorem Bnd.uniq {n : Nat} {tm : Nat → Int} {T T' : Nat} (h : Bnd n tm T) (g : Bnd n tm T') : T = T' := by
  rcases Nat.lt_trichotomy T T' with q | q | q
  · exact absurd h.2.1 (g.2.2 T q)
  · exact q
  · exact absurd g.2.1 (h.2.2 T' q)