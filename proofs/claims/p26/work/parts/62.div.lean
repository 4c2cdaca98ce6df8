/-! divisions: what can be kept, the least load, the first in order -/
def DV (n : Nat) (cap : Int) (tm : Nat → Int) (x : Nat → Int) (t E : Int) : Prop :=
  (∀ c, c < 3 * n → 0 ≤ x c) ∧ (∀ c, c < 3 * n → ¬ (0 < tm c ∧ tm c ≤ cap) → x c = 0) ∧ (∀ j, j < n → x (3 * j) + x (3 * j + 1) + x (3 * j + 2) = t) ∧ (∀ i, i < 3 → sm n (fun j => tm (3 * j + i) * x (3 * j + i)) ≤ E)
def Keep (n : Nat) (tm : Nat → Int) (T : Nat) : Prop := ∃ x t, 0 < t ∧ FZ n T T tm x t
def Least (n : Nat) (tm : Nat → Int) (v d : Int) : Prop := 0 < d ∧ (∃ x t E, 0 < t ∧ DV n 50 tm x t E ∧ E * d = v * t) ∧ ∀ x t E, 0 < t → DV n 50 tm x t E → v * t ≤ E * d
def LM (n : Nat) (L cap : Int) (tm : Nat → Int) (v : Nat → Int) (d : Int) : Prop := 0 < d ∧ FZ n L cap tm v d ∧ ∀ x t, 0 < t → FZ n L cap tm x t → lexle (3 * n) x t v d
theorem Least.uniq {n : Nat} {tm : Nat → Int} {v d w e : Int} (h : Least n tm v d) (g : Least n tm w e) : v * e = w * d := by
  have key : ∀ {v d w e : Int}, Least n tm v d → Least n tm w e → w * d ≤ v * e := fun {v d w e} h g => by
    obtain ⟨hd, ⟨x, t, E, ht, hD, hE⟩, -⟩ := h
    have h1 := g.2.2 x t E ht hD
    have h2 : (w * t) * d ≤ (E * e) * d := Int.mul_le_mul_of_nonneg_right h1 (Int.le_of_lt hd)
    have e1 : (w * t) * d = t * (w * d) := by rw [Int.mul_comm w t, Int.mul_assoc]
    have e2 : (E * e) * d = t * (v * e) := by rw [Int.mul_assoc, Int.mul_comm e d, ← Int.mul_assoc, hE, Int.mul_comm v t, Int.mul_assoc]
    rw [e1, e2] at h2
    exact Int.le_of_mul_le_mul_left h2 ht
  have h1 := key h g
  have h2 := key g h
  omega
theorem LM.uniq {n : Nat} {L cap : Int} {tm : Nat → Int} {v w : Nat → Int} {d e : Int} (h : LM n L cap tm v d) (g : LM n L cap tm w e) : ∀ i, i < 3 * n → v i * e = w i * d := by
  obtain ⟨hd, hv, hm⟩ := h
  obtain ⟨he, hw, gm⟩ := g
  rcases hm w e he hw with h1 | ⟨j, hj, h1, h2⟩
  · intro i hi; exact (h1 i hi).symm
  · rcases gm v d hd hv with g1 | ⟨k, hk, g1, g2⟩
    · intro i hi; exact g1 i hi
    · exfalso
      rcases Nat.lt_trichotomy j k with q | q | q
      · have := g1 j q; omega
      · subst q; omega
      · have := h1 k q; omega
theorem AOk.weak {q : Nat} {A : Nat → Nat → Int} {al0 al : Nat → Prop} (h : AOk q A al0) (hal : ∀ v, v < 25 → al v → al0 v) : AOk q A al :=
  ⟨h.1, h.2.1, h.2.2.1, fun T b d hT h24 c hc hca hnb => h.2.2.2 T b d hT h24 c hc (hal c (by omega) hca) hnb⟩
theorem al0C_24 {n : Nat} {cap : Int} {tm : Nat → Int} (hn : n ≤ 7) : ¬ al0C n cap tm 24 := fun h => by
  rcases h with ⟨h, -⟩ | ⟨-, h⟩ <;> omega
/-- a division with an excess, in the component's columns -/
theorem DV_CA {n : Nat} {L cap : Int} {tm x : Nat → Int} {t e : Int} (hn : n ≤ 7) (he : 0 ≤ e) (h : DV n cap tm x t (L * t + e)) : ∃ y, Fc (n + 3) 25 (CA n L cap tm) (fun v => al0C n cap tm v ∨ v = 24) y ∧ y 25 = - t ∧ y 24 = e := by
  obtain ⟨h0, hz, hJ, hM⟩ := h
  refine ⟨fun c => if c < 3 * n then x c else if c < 21 then 0 else if c < 24 then L * t + e - sm n (fun j => tm (3 * j + (c - 21)) * x (3 * j + (c - 21))) else if c = 24 then e else - t, ⟨?_, fun k hk => ?_, fun k hk hna => ?_⟩, ?_, ?_⟩
  · rw [CA_sol hn]
    have hX : ∀ c, c < 3 * n → Xo cap tm (fun c => if c < 3 * n then x c else if c < 21 then 0 else if c < 24 then L * t + e - sm n (fun j => tm (3 * j + (c - 21)) * x (3 * j + (c - 21))) else if c = 24 then e else - t) c = x c := fun c hc => by
      rw [Xo_eq (fun ho => by rw [if_pos hc]; exact hz c hc ho), if_pos hc]
    refine ⟨fun j hj => ?_, fun i hi => ?_⟩
    · rw [hX _ (by omega), hX _ (by omega), hX _ (by omega), hJ j hj, if_neg (by omega), if_neg (by omega), if_neg (by omega), if_neg (by omega), Int.neg_neg]
    · rw [sm_congr (fun j hj => by rw [hX _ (show 3 * j + i < 3 * n by omega)])]
      rw [if_neg (by omega), if_neg (by omega), if_pos (by omega), show 21 + i - 21 = i by omega]
      rw [if_neg (by omega), if_neg (by omega), if_neg (by omega), if_pos rfl, if_neg (by omega), if_neg (by omega), if_neg (by omega), if_neg (by omega), Int.neg_neg]
      omega
  · by_cases a1 : k < 3 * n
    · simp only [if_pos a1]; exact h0 k a1
    · by_cases a2 : k < 21
      · simp only [if_neg a1, if_pos a2]; exact Int.le_refl 0
      · by_cases a3 : k < 24
        · simp only [if_neg a1, if_neg a2, if_pos a3]
          have := hM (k - 21) (by omega); omega
        · simp only [if_neg a1, if_neg a2, if_neg a3, if_pos (show k = 24 by omega)]; exact he
  · by_cases a1 : k < 3 * n
    · simp only [if_pos a1]
      exact hz k a1 (fun ho => hna (Or.inl (Or.inl ⟨a1, ho⟩)))
    · by_cases a2 : k < 21
      · simp only [if_neg a1, if_pos a2]
      · by_cases a3 : k < 24
        · exact absurd (Or.inl (Or.inr ⟨by omega, a3⟩)) hna
        · exact absurd (Or.inr (by omega)) hna
  · simp only [if_neg (show ¬ 25 < 3 * n by omega), if_neg (show ¬ 25 < 21 by omega), if_neg (show ¬ 25 < 24 by omega), if_neg (show ¬ 25 = 24 by omega)]
  · simp only [if_neg (show ¬ 24 < 3 * n by omega), if_neg (show ¬ 24 < 21 by omega), if_neg (show ¬ 24 < 24 by omega), if_true]
/-- a basic solution as a division, with the excess above the limit -/
theorem CA_DV {n : Nat} {L cap : Int} {tm : Nat → Int} {T : Nat → Nat → Int} {b : Nat → Nat} {d : Int} (hn : n ≤ 7) (h : Tb (n + 3) 25 (CA n L cap tm) T b d) (hf : Feas (n + 3) 25 T) : DV n cap tm (vl (n + 3) 25 T b) d (L * d + vl (n + 3) 25 T b 24) := by
  obtain ⟨hJ, hM⟩ := (CA_sol hn).mp (bsl_sol h)
  rw [bsl_N, Int.neg_neg] at hJ hM
  have hz : ∀ c, c < 3 * n → ¬ (0 < tm c ∧ tm c ≤ cap) → vl (n + 3) 25 T b c = 0 := fun c hc ho => vl_off (fun s hs e => by
    rcases CA_basis hn h hs with ⟨h1, h2⟩ | h1
    · rw [e] at h2; exact ho h2
    · omega)
  have hX : ∀ c, c < 3 * n → Xo cap tm (bsl (n + 3) 25 T b d) c = vl (n + 3) 25 T b c := fun c hc => by
    rw [Xo_eq (fun ho => by rw [bsl_lt (by omega)]; exact hz c hc ho), bsl_lt (by omega)]
  refine ⟨fun c _ => vl_nonneg hf c, hz, fun j hj => ?_, fun i hi => ?_⟩
  · have := hJ j hj
    rwa [hX _ (by omega), hX _ (by omega), hX _ (by omega)] at this
  · have h1 := hM i hi
    have h2 : sm n (fun j => tm (3 * j + i) * Xo cap tm (bsl (n + 3) 25 T b d) (3 * j + i)) = sm n (fun j => tm (3 * j + i) * vl (n + 3) 25 T b (3 * j + i)) := sm_congr (fun j hj => by rw [hX _ (by omega)])
    have h3 : 0 ≤ vl (n + 3) 25 T b (21 + i) := vl_nonneg hf _
    rw [h2, bsl_lt (by omega), bsl_lt (by omega)] at h1
    omega
theorem frac_rows {v d : Nat} (hv : v < 2 ^ 62) (hd0 : 0 < d) (hd : d < 2 ^ 62) : (lN v / lN (Nat.gcd v d)).toInt32 = fnum v d ∧ (lN d / lN (Nat.gcd v d)).toInt32 = fden v d ∧ ¬ lN (Nat.gcd v d) = 0 := by
  have g1 : 0 < Nat.gcd v d := Nat.gcd_pos_of_pos_right v hd0
  have g2 : Nat.gcd v d ≤ d := Nat.gcd_le_right v hd0
  refine ⟨?_, ?_, fun h => ?_⟩
  · rw [pk_lDiv (by omega) g1 (by omega), lN_i]; rfl
  · rw [pk_lDiv (by omega) g1 (by omega), lN_i]; rfl
  · rw [← lN_0] at h
    have := lN_inj (by omega) (by decide) h
    omega
theorem least_spec {N n : Nat} {ti : Nat → Int32} {Q : Int32 → Int32 → (Nat → Int32) → (Nat → Int32) → Int32 → Int64 → (Nat → Nat → Int64) → Prop} {dln dld tro : Int32} {tba tal : Nat → Int32} {tsc : Int64} {tcl : Nat → Nat → Int64}
    (hN : 600000 ≤ N) (hJ : JI n ti) (hall : ∀ j, j < n → hasC 50 (tmI ti) j)
    (hQ : ∀ (v d : Nat) tba tal tsc tcl, Least n (tmI ti) v d → d ≤ 27000000 → v ≤ 189000000 → Q (fnum v d) (fden v d) tba tal (nI (n + 3)) tsc tcl) : p_X0_findLeast N ti (nI n) Q dln dld tba tal tro tsc tcl := by
  have hn := hJ.1
  unfold p_X0_findLeast
  rw [← nI_0, show (50 : Int32) = nI 50 from by decide]
  refine start_spec (by omega) hJ (by omega) (by omega) (fun ⟨j, hj, hno⟩ => absurd (hall j hj) hno) (fun _ tba tal tsc tcl hSI hal hba hpos => ?_)
  have h24 : ¬ alv tal 24 := fun q => al0C_24 hn ((hal 24 (by omega)).mp q)
  have hA := (CA_AOk (L := ((0 : Nat) : Int)) (cap := ((50 : Nat) : Int)) hn (by omega) (by omega) (fun c hc => hJ.tm hc)).weak (fun v hv q => (hal v hv).mp q)
  -- the end, from the value of the excess
  have fin : ∀ tba tsc tcl, SI n (CA n (0 : Nat) (50 : Nat) (tmI ti)) tba tsc tcl → Least n (tmI ti) (vl (n + 3) 25 (TT tcl) (BB tba) 24) tsc.toInt → p_X5_scaledValue N tba (nI (n + 3)) tcl (fun r_11 => p_X0_commonDivisor N (fun r_12 => (r_12 = (0 : Int64) → ((r_12 = (0 : Int64) → (Q (nI 0) (1 : Int32) tba tal (nI (n + 3)) tsc tcl)) ∧ (¬ r_12 = (0 : Int64) → ((¬ r_12 = 0) ∧ (∀ f_21 : Int32, f_21 = (tsc / r_12).toInt32 → (Q (nI 0) f_21 tba tal (nI (n + 3)) tsc tcl)))))) ∧ (¬ r_12 = (0 : Int64) → ((¬ r_12 = 0) ∧ (∀ f_15 : Int32, f_15 = (r_11 / r_12).toInt32 → ((r_12 = (0 : Int64) → (Q f_15 (1 : Int32) tba tal (nI (n + 3)) tsc tcl)) ∧ (¬ r_12 = (0 : Int64) → ((¬ r_12 = 0) ∧ (∀ f_18 : Int32, f_18 = (tsc / r_12).toInt32 → (Q f_15 f_18 tba tal (nI (n + 3)) tsc tcl))))))))) r_11 tsc) (24 : Int32) := fun tba tsc tcl hSI hL => by
    rw [show (24 : Int32) = nI 24 from by decide]
    refine scaled_vl (by omega) (by omega) (by omega) hSI.1 hSI.2.1 (fun y hy => ?_)
    have hd := hSI.2.1.pos
    have hdl := hSI.2.1.d_le hA.1
    have hvs := vl_small hn hSI.2.1 hA.1 24
    have hv0 := vl_nonneg (b := BB tba) hSI.2.2.1 24
    have hvl := hSI.2.2.2
    obtain ⟨v, hv⟩ := Int.eq_ofNat_of_zero_le hv0
    obtain ⟨d, hdd⟩ := Int.eq_ofNat_of_zero_le (Int.le_of_lt hd)
    rw [hv] at hy hL hvl hvs
    rw [hdd] at hL hvl hdl hd
    have e1 : y = lN v := lN_of hy (by omega)
    have e2 : tsc = lN d := lN_of hdd (by omega)
    subst e1
    obtain ⟨f1, f2, f3⟩ := frac_rows (v := v) (d := d) (by omega) (by omega) (by omega)
    have hq := hQ v d tba tal tsc tcl hL (by omega) (by omega)
    rw [show p_X0_commonDivisor N _ (lN v) tsc = p_X0_commonDivisor N _ (lN v) (lN d) by rw [← e2]]
    refine gcd_spec (by omega) (by omega) (by omega) ⟨fun h => absurd h f3, fun _ => ⟨f3, fun f15 e15 => ⟨fun h => absurd h f3, fun _ => ⟨f3, fun f18 e18 => ?_⟩⟩⟩⟩
    rw [e15, e18, e2, f1, f2, ← e2]
    exact hq
  refine lower_spec hN hn hA h24 hSI hba hpos (fun tba tsc tcl hS hno _ => fin tba tsc tcl hS ?_) (fun tba tsc tcl ρ hS hρ hg hp hba' hno => fin tba tsc tcl hS ?_)
  · have hv : vl (n + 3) 25 (TT tcl) (BB tba) 24 = 0 := vl_off hno
    have hD := CA_DV hn hS.2.1 hS.2.2.1
    have hd := hS.2.1.pos
    rw [hv] at hD ⊢
    refine ⟨hd, ⟨_, _, _, hd, hD, by rw [show ((0 : Nat) : Int) = 0 from rfl]; omega⟩, fun x t E ht hE => ?_⟩
    have h1 := hE.2.2.2 0 (by omega)
    have h2 : 0 ≤ sm n (fun j => tmI ti (3 * j + 0) * x (3 * j + 0)) := sm_nonneg (fun j hj => Int.mul_nonneg (hJ.tm (by omega)).1 (hE.1 _ (by omega)))
    have h3 : 0 ≤ E * tsc.toInt := Int.mul_nonneg (by omega) (by omega)
    rw [Int.zero_mul]; exact h3
  · have hv : vl (n + 3) 25 (TT tcl) (BB tba) 24 = TT tcl ρ 25 := by rw [← hg]; exact vl_b hS.2.1 hρ
    have hD := CA_DV hn hS.2.1 hS.2.2.1
    have hd := hS.2.1.pos
    refine ⟨hd, ⟨_, _, _, hd, hD, by rw [show ((0 : Nat) : Int) = 0 from rfl, Int.zero_mul, Int.zero_add]⟩, fun x t E ht hE => ?_⟩
    have h1 := hE.2.2.2 0 (by omega)
    have h2 : 0 ≤ sm n (fun j => tmI ti (3 * j + 0) * x (3 * j + 0)) := sm_nonneg (fun j hj => Int.mul_nonneg (hJ.tm (by omega)).1 (hE.1 _ (by omega)))
    obtain ⟨y, hy, hy25, hy24⟩ := DV_CA (L := ((0 : Nat) : Int)) (cap := ((50 : Nat) : Int)) hn (show 0 ≤ E by omega) (by rw [show ((0 : Nat) : Int) = 0 from rfl, Int.zero_mul, Int.zero_add]; exact hE)
    have h3 := opt_min hS.2.1 hy hρ (fun k hk hka hnb => hno k hk (by
      rcases hka with q | q
      · exact (hal k hk).mpr q
      · exact absurd (hg.trans q.symm) (hnb ρ hρ)) hnb)
    rw [hg, hy24, hy25, Int.neg_neg] at h3
    rw [hv, Int.mul_comm E]
    exact h3
