theorem CA_jobcol {n j c : Nat} {L cap : Int} {tm : Nat → Int} (hn : n ≤ 7) (hj : j < n) (hc : c < 26) : (c = 25 ∨ (c / 3 = j ∧ okC cap tm c) → CA n L cap tm c j = 1) ∧ (¬ (c = 25 ∨ (c / 3 = j ∧ okC cap tm c)) → CA n L cap tm c j = 0) := by
  unfold CA
  by_cases a1 : c < 3 * n
  · rw [if_pos a1]
    by_cases ho : 0 < tm c ∧ tm c ≤ cap
    · rw [if_pos ho]
      by_cases e : j = c / 3
      · rw [if_pos e]
        exact ⟨fun _ => rfl, fun q => absurd (Or.inr ⟨e.symm, ho⟩) q⟩
      · rw [if_neg e, if_neg (by omega)]
        refine ⟨fun q => ?_, fun _ => rfl⟩
        rcases q with q | ⟨q, -⟩
        · omega
        · exact absurd q.symm e
    · rw [if_neg ho]
      refine ⟨fun q => ?_, fun _ => rfl⟩
      rcases q with q | ⟨-, q⟩
      · omega
      · exact absurd q ho
  · rw [if_neg a1]
    by_cases a2 : c < 21
    · rw [if_pos a2]
      refine ⟨fun q => ?_, fun _ => rfl⟩
      rcases q with q | ⟨q, -⟩ <;> omega
    · rw [if_neg a2]
      by_cases a3 : c < 24
      · rw [if_pos a3, if_neg (by omega)]
        refine ⟨fun q => ?_, fun _ => rfl⟩
        rcases q with q | ⟨q, -⟩ <;> omega
      · rw [if_neg a3]
        by_cases a4 : c = 24
        · rw [if_pos a4, if_neg (by omega)]
          refine ⟨fun q => ?_, fun _ => rfl⟩
          rcases q with q | ⟨q, -⟩ <;> omega
        · rw [if_neg a4, if_pos hj]
          exact ⟨fun _ => rfl, fun q => absurd (Or.inl (by omega)) q⟩
section
variable {n L cap : Nat} {ti tba tal : Nat → Int32} {tcl : Nat → Nat → Int64}
theorem LJ_row_job (hn : n ≤ 7) (h : LJ n L cap (tmI ti) tba tal tcl) {j c : Nat} (hj : j < n) (hc : c < 26) : TT tcl (3 + j) c = CA n L cap (tmI ti) c j := by
  have h1 := h.2.2.2.1 j c hj hc
  have h2 := CA_jobcol (L := L) (cap := cap) (tm := tmI ti) hn hj hc
  by_cases q : c = 25 ∨ (c / 3 = j ∧ okC cap (tmI ti) c)
  · rw [h1.1 q, h2.1 q]
  · rw [h1.2 q, h2.2 q]
theorem LJ_row_mach (hn : n ≤ 7) (h : LJ n L cap (tmI ti) tba tal tcl) {i c : Nat} (hi : i < 3) (hc : c < 26) : TT tcl i c = CA n L cap (tmI ti) c (n + i) - sm n (fun j => cfC cap (tmI ti) j i * CA n L cap (tmI ti) c j) := by
  obtain ⟨t1, t2, t3, t4⟩ := h.2.2.1
  by_cases a1 : c < 3 * n
  · by_cases ho : okC cap (tmI ti) c
    · rw [(t1 i c hi a1).1 ho, sm_one (c / 3) (by omega) (fun j hj hne => by rw [(CA_jobcol hn hj hc).2 (fun q => by rcases q with q | ⟨q, -⟩ <;> omega), Int.mul_zero]), (CA_jobcol hn (by omega) hc).1 (Or.inr ⟨rfl, ho⟩), Int.mul_one]
      congr 1
      unfold CA
      rw [if_pos a1, if_pos (show 0 < tmI ti c ∧ tmI ti c ≤ (cap : Int) from ho), if_neg (show ¬ n + i = c / 3 by omega)]
      by_cases e : c % 3 = i
      · rw [if_pos e, if_pos (by omega)]
      · rw [if_neg e, if_neg (by omega)]
    · rw [(t1 i c hi a1).2 ho, sm_zero (fun j hj => by rw [(CA_jobcol hn hj hc).2 (fun q => by rcases q with q | ⟨-, q⟩; omega; exact ho q), Int.mul_zero])]
      unfold CA
      rw [if_pos a1, if_neg (show ¬ (0 < tmI ti c ∧ tmI ti c ≤ (cap : Int)) from ho)]; rfl
  · by_cases a2 : c < 24
    · rw [t2 i c hi (by omega) a2, sm_zero (fun j hj => by rw [(CA_jobcol hn hj hc).2 (fun q => by rcases q with q | ⟨q, -⟩ <;> omega), Int.mul_zero])]
      unfold CA
      rw [if_neg a1]
      by_cases a3 : c < 21
      · rw [if_pos a3, if_neg (by omega)]; rfl
      · rw [if_neg a3, if_pos a2]
        by_cases e : c = 21 + i
        · rw [if_pos e, if_pos (by omega)]; rfl
        · rw [if_neg e, if_neg (by omega)]; rfl
    · by_cases a3 : c = 24
      · subst a3
        rw [t3 i hi, sm_zero (fun j hj => by rw [(CA_jobcol hn hj hc).2 (fun q => by rcases q with q | ⟨q, -⟩ <;> omega), Int.mul_zero])]
        unfold CA
        rw [if_neg a1, if_neg (by omega), if_neg (by omega), if_pos rfl, if_pos (by omega)]; rfl
      · have a4 : c = 25 := by omega
        subst a4
        have e1 : sm n (fun j => cfC cap (tmI ti) j i * CA n L cap (tmI ti) 25 j) = sm n (fun j => cfC cap (tmI ti) j i) := sm_congr (fun j hj => by rw [(CA_jobcol hn hj hc).1 (Or.inl rfl), Int.mul_one])
        rw [t4 i hi, e1]
        congr 1
        unfold CA
        rw [if_neg a1, if_neg (by omega), if_neg (by omega), if_neg (by omega), if_neg (by omega)]
theorem LJ_BB (hn : n ≤ 7) (hall : ∀ j, j < n → hasC cap (tmI ti) j) (h : LJ n L cap (tmI ti) tba tal tcl) : BOk (n + 3) tba ∧ (∀ r, r < 3 → BB tba r = 21 + r) ∧ (∀ j, j < n → BB tba (3 + j) = keyC cap (tmI ti) j) := by
  obtain ⟨b1, b2, b3⟩ := h.1
  refine ⟨fun r hr => ?_, fun r hr => BB_nI (b1 r hr) (by omega), fun j hj => ?_⟩
  · by_cases e : r < 3
    · exact ⟨21 + r, by omega, b1 r e⟩
    · have := keyC_ok (hall (r - 3) (by omega))
      have h2 := b2 (r - 3) (by omega)
      rw [show 3 + (r - 3) = r by omega] at h2
      exact ⟨_, by omega, h2⟩
  · have := keyC_ok (hall j hj)
    exact BB_nI (b2 j hj) (by omega)
theorem CA_unit_det (hn : n ≤ 7) {b : Nat → Nat} {capZ LZ : Int} {tm : Nat → Int} (hall : ∀ j, j < n → hasC capZ tm j) (hb1 : ∀ r, r < 3 → b r = 21 + r) (hb2 : ∀ j, j < n → b (3 + j) = keyC capZ tm j) : det (n + 3) 0 (fun s => CA n LZ capZ tm (b s)) = 1 ∨ det (n + 3) 0 (fun s => CA n LZ capZ tm (b s)) = -1 := by
  let un : Nat → Nat → Int := fun k r => if r = k then 1 else 0
  have hsl : ∀ s, s < 3 → ∀ r, r < n + 3 → CA n LZ capZ tm (b s) r = un (n + s) r := fun s hs r hr => by
    rw [hb1 s hs]
    show _ = if r = n + s then 1 else 0
    unfold CA
    rw [if_neg (by omega), if_neg (by omega), if_pos (by omega)]
    by_cases e : r = n + s
    · rw [if_pos e, if_pos (by omega)]
    · rw [if_neg e, if_neg (by omega)]
  have hkey : ∀ j, j < n → ∀ r, r < n + 3 → CA n LZ capZ tm (b (3 + j)) r = un j r + tm (keyC capZ tm j) * un (n + keyC capZ tm j % 3) r := fun j hj r hr => by
    obtain ⟨h1, h2, h3⟩ := keyC_ok (hall j hj)
    rw [hb2 j hj]
    show _ = (if r = j then 1 else 0) + tm (keyC capZ tm j) * (if r = n + keyC capZ tm j % 3 then 1 else 0)
    unfold CA
    rw [if_pos (by omega), if_pos (show 0 < tm (keyC capZ tm j) ∧ tm (keyC capZ tm j) ≤ capZ from h1), show keyC capZ tm j / 3 = j by omega]
    by_cases e : r = j
    · rw [if_pos e, if_pos e, if_neg (by omega), Int.mul_zero, Int.add_zero]
    · rw [if_neg e, if_neg e]
      by_cases e2 : r = n + keyC capZ tm j % 3
      · rw [if_pos e2, if_pos e2, Int.mul_one, Int.zero_add]
      · rw [if_neg e2, if_neg e2, Int.mul_zero]; rfl
  let D : Nat → Nat → Nat → Int := fun k s => if 3 ≤ s ∧ s < 3 + k then un (s - 3) else CA n LZ capZ tm (b s)
  have hD : ∀ k, k ≤ n → det (n + 3) 0 (fun s => CA n LZ capZ tm (b s)) = det (n + 3) 0 (D k) := by
    intro k
    induction k with
    | zero =>
      intro _
      congr 1
      funext s
      exact (if_neg (by omega)).symm
    | succ k ih =>
      intro hk
      rw [ih (by omega), det_less (p := 3 + k) (q := keyC capZ tm k % 3) (x := un k) (y := un (n + keyC capZ tm k % 3)) (tm (keyC capZ tm k)) (by omega) (by omega) (by omega) (fun r _ hr => ?_) (fun r _ hr => ?_)]
      · congr 1
        funext s
        by_cases e : s = 3 + k
        · subst e
          rw [cset_same]
          show un k = if 3 ≤ 3 + k ∧ 3 + k < 3 + (k + 1) then un (3 + k - 3) else _
          rw [if_pos (by omega), show 3 + k - 3 = k by omega]
        · rw [cset_ne e]
          show (if 3 ≤ s ∧ s < 3 + k then un (s - 3) else CA n LZ capZ tm (b s)) = if 3 ≤ s ∧ s < 3 + (k + 1) then un (s - 3) else CA n LZ capZ tm (b s)
          by_cases e2 : 3 ≤ s ∧ s < 3 + k
          · rw [if_pos e2, if_pos (by omega)]
          · rw [if_neg e2, if_neg (by omega)]
      · show (if 3 ≤ 3 + k ∧ 3 + k < 3 + k then un (3 + k - 3) else CA n LZ capZ tm (b (3 + k))) r = _
        rw [if_neg (by omega)]
        exact hkey k (by omega) r (by omega)
      · show (if 3 ≤ keyC capZ tm k % 3 ∧ keyC capZ tm k % 3 < 3 + k then un (keyC capZ tm k % 3 - 3) else CA n LZ capZ tm (b (keyC capZ tm k % 3))) r = _
        rw [if_neg (by omega)]
        exact hsl _ (by omega) r (by omega)
  rw [hD n (Nat.le_refl n)]
  refine det_perm (p := fun s => if s < 3 then n + s else s - 3) (q := fun r => if r < n then 3 + r else r - n) (fun s hs r _ hr => ?_) (fun s hs => ?_) (fun r _ hr => ?_)
  · by_cases e : s < 3
    · rw [if_pos e]
      show (if 3 ≤ s ∧ s < 3 + n then un (s - 3) else CA n LZ capZ tm (b s)) r = _
      rw [if_neg (by omega)]
      exact hsl s e r (by omega)
    · rw [if_neg e]
      show (if 3 ≤ s ∧ s < 3 + n then un (s - 3) else CA n LZ capZ tm (b s)) r = _
      rw [if_pos (by omega)]
  · by_cases e : s < 3
    · simp only [if_pos e, if_neg (show ¬ n + s < n by omega)]; omega
    · simp only [if_neg e, if_pos (show s - 3 < n by omega)]; omega
  · by_cases e : r < n
    · simp only [if_pos e, if_neg (show ¬ 3 + r < 3 by omega)]; omega
    · simp only [if_neg e, if_pos (show r - n < 3 by omega)]; omega
theorem LJ_Tb (hJ : JI n ti) (hall : ∀ j, j < n → hasC cap (tmI ti) j) (h : LJ n L cap (tmI ti) tba tal tcl) : Tb (n + 3) 25 (CA n L cap (tmI ti)) (TT tcl) (BB tba) 1 := by
  have hn := hJ.1
  obtain ⟨hb, hb1, hb2⟩ := LJ_BB hn hall h
  obtain ⟨t1, t2, t3, t4⟩ := h.2.2.1
  have hkc : ∀ j, j < n → okC cap (tmI ti) (keyC cap (tmI ti) j) ∧ 3 * j ≤ keyC cap (tmI ti) j ∧ keyC cap (tmI ti) j < 3 * j + 3 := fun j hj => keyC_ok (hall j hj)
  refine ⟨by decide, fun r hr => (hb.eq hr).2, fun r s hr hs => ?_, fun x => ?_, ?_⟩
  · by_cases er : r < 3
    · by_cases es : s < 3
      · rw [hb1 s es, t2 r (21 + s) er (by omega) (by omega)]
        by_cases e : r = s
        · rw [if_pos e, if_pos (by omega)]
        · rw [if_neg e, if_neg (by omega)]
      · have e1 : BB tba s = keyC cap (tmI ti) (s - 3) := by have := hb2 (s - 3) (by omega); rwa [show 3 + (s - 3) = s by omega] at this
        obtain ⟨k1, k2, k3⟩ := hkc (s - 3) (by omega)
        rw [e1, (t1 r _ er (by omega)).1 k1, show keyC cap (tmI ti) (s - 3) / 3 = s - 3 by omega, if_neg (show ¬ r = s by omega)]
        unfold cfC
        omega
    · have e0 : r = 3 + (r - 3) := by omega
      have hj := h.2.2.2.1 (r - 3)
      rw [← e0] at hj
      by_cases es : s < 3
      · rw [hb1 s es, (hj (21 + s) (by omega) (by omega)).2 (fun q => by rcases q with q | ⟨q, -⟩ <;> omega), if_neg (by omega)]
      · have e1 : BB tba s = keyC cap (tmI ti) (s - 3) := by have := hb2 (s - 3) (by omega); rwa [show 3 + (s - 3) = s by omega] at this
        obtain ⟨k1, k2, k3⟩ := hkc (s - 3) (by omega)
        rw [e1]
        by_cases e : r = s
        · subst e
          rw [if_pos rfl, (hj _ (by omega) (by omega)).1 (Or.inr ⟨by omega, k1⟩)]
        · rw [if_neg e, (hj _ (by omega) (by omega)).2 (fun q => by rcases q with q | ⟨q, -⟩ <;> omega)]
  · have hjob : ∀ j, j < n → sm 26 (fun c => TT tcl (3 + j) c * x c) = sm 26 (fun c => CA n L cap (tmI ti) c j * x c) := fun j hj => sm_congr (fun c hc => by rw [LJ_row_job hn h hj hc])
    have hmach : ∀ i, i < 3 → sm 26 (fun c => TT tcl i c * x c) = sm 26 (fun c => CA n L cap (tmI ti) c (n + i) * x c) - sm n (fun j => cfC cap (tmI ti) j i * sm 26 (fun c => CA n L cap (tmI ti) c j * x c)) := fun i hi => by
      have e1 : ∀ j, cfC cap (tmI ti) j i * sm 26 (fun c => CA n L cap (tmI ti) c j * x c) = sm 26 (fun c => cfC cap (tmI ti) j i * (CA n L cap (tmI ti) c j * x c)) := fun j => (sm_mul _ _ _).symm
      rw [sm_congr (fun j _ => e1 j), sm_comm, ← sm_sub]
      refine sm_congr (fun c hc => ?_)
      rw [LJ_row_mach hn h hi hc, Int.sub_mul]
      congr 1
      rw [Int.mul_comm, ← sm_mul]
      exact sm_congr (fun j _ => by rw [Int.mul_left_comm, Int.mul_comm (x c)])
    constructor
    · intro hs r hr
      by_cases er : r < 3
      · show sm 26 (fun c => TT tcl r c * x c) = 0
        have z : sm n (fun j => cfC cap (tmI ti) j r * sm 26 (fun c => CA n L cap (tmI ti) c j * x c)) = 0 := sm_zero (fun j hj => by rw [show sm 26 (fun c => CA n L cap (tmI ti) c j * x c) = 0 from hs j (by omega), Int.mul_zero])
        rw [hmach r er, z]
        have : sm 26 (fun c => CA n L cap (tmI ti) c (n + r) * x c) = 0 := hs (n + r) (by omega)
        omega
      · show sm 26 (fun c => TT tcl r c * x c) = 0
        rw [show r = 3 + (r - 3) by omega, hjob (r - 3) (by omega)]
        exact hs (r - 3) (by omega)
    · intro hs r hr
      by_cases er : r < n
      · show sm 26 (fun c => CA n L cap (tmI ti) c r * x c) = 0
        rw [← hjob r er]
        exact hs (3 + r) (by omega)
      · have h1 : sm 26 (fun c => TT tcl (r - n) c * x c) = 0 := hs (r - n) (by omega)
        have z : sm n (fun j => cfC cap (tmI ti) j (r - n) * sm 26 (fun c => CA n L cap (tmI ti) c j * x c)) = 0 := sm_zero (fun j hj => by
          have h2 : sm 26 (fun c => TT tcl (3 + j) c * x c) = 0 := hs (3 + j) (by omega)
          rw [← hjob j hj, h2, Int.mul_zero])
        rw [hmach (r - n) (by omega), z] at h1
        show sm 26 (fun c => CA n L cap (tmI ti) c r * x c) = 0
        rw [show n + (r - n) = r by omega] at h1
        omega
  · rcases CA_unit_det (LZ := L) hn hall hb1 hb2 with h1 | h1
    · exact ⟨1, Or.inl rfl, by rw [h1]; rfl⟩
    · exact ⟨-1, Or.inr rfl, by rw [h1]; rfl⟩
end
