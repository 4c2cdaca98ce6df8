/-! the reference: a share is raised; the right side is moved; the division -/
/-- the right side less a multiple of a column -/
theorem Tb.shift {m N o : Nat} {A A' T T' : Nat → Nat → Int} {b : Nat → Nat} {d z : Int} (h : Tb m N A T b d) (ho : o < N) (hA : ∀ c r, c < N → A' c r = A c r) (hA' : ∀ r, r < m → A' N r = A N r - z * A o r) (hT : ∀ r c, r < m → c < N → T' r c = T r c) (hT' : ∀ r, r < m → T' r N = T r N - z * T r o) : Tb m N A' T' b d := by
  have key : ∀ (f f' : Nat → Int) (x : Nat → Int), (∀ c, c < N → f' c = f c) → f' N = f N - z * f o → sm (N + 1) (fun k => f' k * x k) = sm (N + 1) (fun k => f k * (if k = o then x o - z * x N else x k)) := fun f f' x h1 h2 => by
    show sm N (fun k => f' k * x k) + f' N * x N = sm N (fun k => f k * (if k = o then x o - z * x N else x k)) + f N * (if N = o then x o - z * x N else x N)
    have e1 : sm N (fun k => f k * (if k = o then x o - z * x N else x k)) = sm N (fun k => f' k * x k + (if k = o then - (z * f o * x N) else 0)) := sm_congr (fun k hk => by
      by_cases e : k = o
      · subst e
        rw [if_pos rfl, if_pos rfl, h1 k hk, Int.mul_sub, Int.mul_left_comm, Int.mul_assoc]; omega
      · rw [if_neg e, if_neg e, h1 k hk]; omega)
    rw [e1, sm_add, sm_one (f := fun k => if k = o then - (z * f o * x N) else 0) o ho (fun k _ hne => if_neg hne), if_pos rfl, if_neg (by omega), h2, Int.sub_mul]
    omega
  refine ⟨h.pos, fun r hr => h.lt hr, fun r s hr hs => by rw [hT r _ hr (h.lt hs)]; exact h.unit hr hs, fun x => ?_, ?_⟩
  · have h1 := h.sols (fun k => if k = o then x o - z * x N else x k)
    constructor
    · intro hs r hr
      rw [key (T r) (T' r) x (fun c hc => hT r c hr hc) (hT' r hr)]
      refine h1.mp (fun r hr => ?_) r hr
      rw [← key (fun c => A c r) (fun c => A' c r) x (fun c hc => hA c r hc) (hA' r hr)]
      exact hs r hr
    · intro hs r hr
      rw [key (fun c => A c r) (fun c => A' c r) x (fun c hc => hA c r hc) (hA' r hr)]
      refine h1.mpr (fun r hr => ?_) r hr
      rw [← key (T r) (T' r) x (fun c hc => hT r c hr hc) (hT' r hr)]
      exact hs r hr
  · obtain ⟨σ, hσ, hd⟩ := h.2.2.2.2
    refine ⟨σ, hσ, ?_⟩
    rw [hd]
    congr 1
    exact det_congr (fun i hi r _ _ => (hA _ _ (h.lt hi)).symm)
theorem RS.shift {n T ρ : Nat} {cap : Int} {tm : Nat → Int} {mta : Nat → Int64} {mba mib : Nat → Int32} {mdi f : Int64} (hn : n ≤ 7) (hT : T ≤ 400) (h : RS n 400 cap tm mta mba mib mdi) (hle : vl (n + 4) 26 (UT mta) (BB mba) 21 ≤ T * mdi.toInt) (hρ : ρ < n + 4) (hg : BB mba ρ = 25) (hf : f.toInt = UT mta ρ 26 - (400 - T) * mdi.toInt) :
    RS n T cap tm (vp_updL mta (27 * ρ + 26) f) mba mib mdi := by
  have hdv := h.dv hn
  obtain ⟨hb, hTb, hF, hba, hal⟩ := h
  have h25 : vl (n + 4) 26 (UT mta) (BB mba) 25 = UT mta ρ 26 := by rw [← hg]; exact vl_b hTb hρ
  have other : ∀ r c, c < 27 → ¬ (r = ρ ∧ c = 26) → UT (vp_updL mta (27 * ρ + 26) f) r c = UT mta r c := fun r c hc q => UT_ne hc (by omega) q
  refine ⟨hb, hTb.shift (o := 25) (z := 400 - T) (by omega) (fun c r hc => ?_) (fun r hr => ?_) (fun r c hr hc => other r c (by omega) (fun q => by omega)) (fun r hr => ?_), fun r hr => ?_, hba, hal⟩
  · by_cases b1 : c < 3 * n
    · rw [RA_share b1, RA_share b1]
    · by_cases b2 : c < 21
      · rw [RA_none (by omega) b2, RA_none (by omega) b2]
      · by_cases b3 : c = 21
        · subst b3; rw [RA_21 hn, RA_21 hn]
        · by_cases b4 : c < 25
          · rw [RA_slack hn (by omega) b4, RA_slack hn (by omega) b4]
          · have b5 : c = 25 := by omega
            subst b5; rw [RA_25 hn, RA_25 hn]
  · rw [RA_26 hn, RA_26 hn, RA_25 hn]
    by_cases e : r < n
    · rw [if_pos e, if_pos e, if_neg (by omega)]; omega
    · rw [if_neg e, if_neg e]
      by_cases e2 : r = n
      · rw [if_pos e2, if_pos e2, if_pos e2]; omega
      · rw [if_neg e2, if_neg e2, if_neg e2]; omega
  · have hu := hTb.unit hr hρ
    rw [hg] at hu
    rw [hu]
    by_cases e : r = ρ
    · subst e
      rw [UT_at, if_pos rfl, hf]
    · rw [other r 26 (by omega) (fun q => e q.1), if_neg e]; omega
  · by_cases e : r = ρ
    · subst e
      rw [UT_at, hf]
      have h1 := hdv.2.1
      rw [h25] at h1
      have h2 : (400 - (T : Int)) * mdi.toInt = 400 * mdi.toInt - T * mdi.toInt := Int.sub_mul _ _ _
      omega
    · rw [other r 26 (by omega) (fun q => e q.1)]; exact hF r hr
theorem RLX_LM {n T : Nat} {tm : Nat → Int} {mta : Nat → Int64} {mba mib : Nat → Int32} {mdi : Int64} (hn : n ≤ 7) (hS : RS n T T tm mta mba mib mdi) (hL : LX (n + 4) 26 (RA n T tm) (al0R n T tm) (3 * n) (alR mib) (vl (n + 4) 26 (UT mta) (BB mba)) mdi.toInt) : LM n T T tm (vl (n + 4) 26 (UT mta) (BB mba)) mdi.toInt := by
  obtain ⟨⟨d1, d2, d3, d4⟩, hR, -⟩ := hS.dv hn
  have h25 := vl_nonneg (b := BB mba) hS.2.2.1 25
  refine ⟨hS.2.1.pos, ⟨d1, d2, d3, fun i hi => by have := d4 i hi; omega⟩, fun x t ht hF => ?_⟩
  obtain ⟨y, hy, hy26, -, hyx⟩ := FZ_RA (R := (T : Int)) (g := T * t) hn (Int.mul_nonneg (by omega) (by omega)) (Int.le_refl _) hF
  have h1 := hL.1 y hy (by rw [hy26]; omega)
  rw [hy26, Int.neg_neg] at h1
  rcases h1 with h1 | ⟨j, hj, h1, h2⟩
  · exact Or.inl (fun i hi => by rw [← hyx i hi]; exact h1 i hi)
  · exact Or.inr ⟨j, hj, fun i hi => by rw [← hyx i (by omega)]; exact h1 i hi, by rw [← hyx j hj]; exact h2⟩
/-- the shares of the division, in lowest terms -/
def ND (n : Nat) (tm : Nat → Int) (num den : Nat → Nat) : Prop := ∃ (T : Nat) (v : Nat → Nat) (d : Nat), Bnd n tm T ∧ LM n T T tm (fun c => v c) d ∧ d ≤ 27000000 ∧ ∀ c, c < 3 * n → num c = v c / Nat.gcd (v c) d ∧ den c = d / Nat.gcd (v c) d
theorem ND.uniq {n : Nat} {tm : Nat → Int} {num den num' den' : Nat → Nat} (h : ND n tm num den) (g : ND n tm num' den') : ∀ c, c < 3 * n → num c = num' c ∧ den c = den' c := by
  obtain ⟨T, v, d, hB, hM, -, hv⟩ := h
  obtain ⟨T', w, e, gB, gM, -, gv⟩ := g
  have eT := hB.uniq gB
  subst eT
  intro c hc
  have h1 := hM.uniq gM c hc
  have hd := hM.1
  have he := gM.1
  have h2 : v c * e = w c * d := by exact_mod_cast h1
  obtain ⟨f1, f2⟩ := frac_same (v := v c) (d := d) (w := w c) (e := e) (by omega) (by omega) h2
  rw [(hv c hc).1, (hv c hc).2, (gv c hc).1, (gv c hc).2]
  exact ⟨f1, f2⟩
theorem LM_0 {tm v : Nat → Int} {T : Nat} : LM 0 T T tm v 1 := by
  refine ⟨by decide, ⟨fun c hc => absurd hc (by omega), fun c hc => absurd hc (by omega), fun j hj => absurd hj (by omega), fun i hi => ?_⟩, fun x t ht hF => Or.inl (fun i hi => absurd hi (by omega))⟩
  show (0 : Int) ≤ T * 1
  omega