/-! the reference: a share is raised; the right side is moved; the division -/
theorem r_raises95 {N n ρ : Nat} {R cap : Int} {tm : Nat → Int} {mta : Nat → Int64} {mba mib : Nat → Int32} {mdi : Int64} {Q : (Nat → Int64) → (Nat → Int32) → (Nat → Int32) → Int64 → Prop} (hN : 1000 ≤ N) (hn : n ≤ 7) (h : RS n R cap tm mta mba mib mdi) (hρ : ρ < n + 4)
    (hno : ∀ v, v < 26 → alR mib v → (∀ s, s < n + 4 → BB mba s ≠ v) → 0 ≤ UT mta ρ v)
    (hQ : ∀ mib', (∀ v, v < 26 → (alR mib' v ↔ alR mib v ∧ ¬ ((∀ s, s < n + 4 → BB mba s ≠ v) ∧ UT mta ρ v ≠ 0))) → Q mta mba mib' mdi) : p_X7_raises_95 N (nI n) Q N (nI ρ) (0 : Int32) mta mba mib mdi := by
  have loop : ∀ (f k : Nat) (mib' : Nat → Int32), k ≤ 26 → 26 < f + k → (∀ v, v < k → (alR mib' v ↔ alR mib v ∧ ¬ ((∀ s, s < n + 4 → BB mba s ≠ v) ∧ UT mta ρ v ≠ 0))) → (∀ v, k ≤ v → mib' v = mib v) → p_X7_raises_95 N (nI n) Q f (nI ρ) (nI k) mta mba mib' mdi := by
    intro f
    induction f with
    | zero => intro k mib' h1 h2; omega
    | succ f ih =>
      intro k mib' h1 h2 i1 i2
      unfold p_X7_raises_95
      rw [show (26 : Int32) = nI 26 from by decide]
      refine ⟨fun q => ?_, fun q => ?_⟩
      · have := (nI_leI (by omega) (by omega)).mp q
        have e : k = 26 := by omega
        subst e
        exact hQ mib' i1
      · have hk : k < 26 := by
          rcases Nat.lt_or_ge k 26 with h' | h'
          · exact h'
          · exact absurd (nI_le h' (by omega)) q
        rw [nar0, nar1, nI_clamp (show k < 2 ^ 31 by omega), ix27]
        have hkin : vp_in (nI k) 26 := vp_in_nI hk (by decide)
        have e0 : mib' k = mib k := i2 k (Nat.le_refl k)
        have put : ∀ b : Int32, (b = 0 ↔ alR mib k ∧ ¬ ((∀ s, s < n + 4 → BB mba s ≠ k) ∧ UT mta ρ k ≠ 0)) → ∀ x : Int32, x = nI k + 1 → p_X7_raises_95 N (nI n) Q f (nI ρ) x mta mba (upd mib' k b) mdi := fun b hb x ex => by
          rw [ex, nI_1]
          refine ih (k + 1) _ (by omega) (by omega) (fun v hv => ?_) (fun v hv => by rw [pk_un (by omega)]; exact i2 v (by omega))
          by_cases e : v = k
          · subst e
            unfold alR
            rw [pk_us]
            exact hb
          · unfold alR
            rw [pk_un e]
            exact i1 v (by omega)
        refine ⟨hkin, fun hc => ?_, fun hc => ⟨hkin, put 1 ⟨fun q => absurd q (by decide), fun q => absurd (e0.trans q.1) hc⟩⟩⟩
        have hca : alR mib k := e0.symm.trans hc
        refine r_rowOf hN hn (by omega) h.1 h.inj (fun hnb => ⟨fun q => absurd q (by decide), fun _ => ⟨in297 (by omega) (by omega), fun hle => ⟨hkin, ?_⟩, fun hgt => ⟨hkin, ?_⟩⟩⟩) (fun r hr er => ⟨fun _ => ⟨hkin, put 0 ⟨fun _ => ⟨hca, fun q => q.1 r hr er⟩, fun _ => rfl⟩⟩, fun q => absurd (nI_nneg (by omega)) q⟩)
        · rw [nI_clamp (show 27 * ρ + k < 2 ^ 31 by omega)] at hle
          have h1 : UT mta ρ k ≤ 0 := i64_le0.mp hle
          have h2 := hno k hk hca hnb
          exact put 0 ⟨fun _ => ⟨hca, fun q => q.2 (by omega)⟩, fun _ => rfl⟩
        · rw [nI_clamp (show 27 * ρ + k < 2 ^ 31 by omega)] at hgt
          have h1 : ¬ UT mta ρ k ≤ 0 := fun q => hgt (i64_le0.mpr q)
          exact put 1 ⟨fun q => absurd q (by decide), fun q => absurd ⟨hnb, by omega⟩ q.2⟩
  rw [← nI_0]
  exact loop N 0 mib (by omega) (by omega) (fun v hv => absurd hv (by omega)) (fun _ _ => rfl)
theorem r_raises {N n g : Nat} {R cap : Int} {tm : Nat → Int} {mta : Nat → Int64} {mba mib : Nat → Int32} {mdi : Int64} {Q : (Nat → Int64) → (Nat → Int32) → (Nat → Int32) → Int64 → Prop} (hN : 2000000000 ≤ N) (hn : n ≤ 7) (hg26 : g < 26) (hga : alR mib g) (hR0 : 0 ≤ R) (hR : R ≤ 400) (ht : ∀ c, c < 3 * n → 0 ≤ tm c ∧ tm c ≤ 50)
    (h : RS n R cap tm mta mba mib mdi) (hL : LX (n + 4) 26 (RA n R tm) (al0R n cap tm) g (alR mib) (vl (n + 4) 26 (UT mta) (BB mba)) mdi.toInt)
    (hQ : ∀ mta mba mib mdi, RS n R cap tm mta mba mib mdi → LX (n + 4) 26 (RA n R tm) (al0R n cap tm) (g + 1) (alR mib) (vl (n + 4) 26 (UT mta) (BB mba)) mdi.toInt → Q mta mba mib mdi) : p_X7_raises N (nI n) Q (nI g) mta mba mib mdi := by
  have e26 : (26 : Int32) = nI 26 := by decide
  have loop : ∀ (f K k ρ : Nat) (Ts : Nat → Nat → Nat → Int) (bs : Nat → Nat → Nat) (ds : Nat → Int) (ρs ls cs : Nat → Nat) (mta : Nat → Int64) (mba : Nat → Int32) (mdi : Int64), k ≤ 26 → 27 * 67108864 + 28 ≤ f + 27 * K + k → Hist (n + 4) 26 (RA n R tm) (fun v => v) (alR mib) g 1 K Ts bs ds ρs ls cs → Ts K = UT mta → bs K = BB mba → ds K = mdi.toInt →
      RS n R cap tm mta mba mib mdi → LX (n + 4) 26 (RA n R tm) (al0R n cap tm) g (alR mib) (vl (n + 4) 26 (UT mta) (BB mba)) mdi.toInt → ρ < n + 4 → BB mba ρ = g → (∀ v, v < k → alR mib v → (∀ s, s < n + 4 → BB mba s ≠ v) → 0 ≤ UT mta ρ v) → p_X7_raises_26 N (nI n) Q f (nI g) (nI ρ) (nI k) mta mba mib mdi := by
    intro f
    induction f with
    | zero =>
      intro K k ρ Ts bs ds ρs ls cs mta mba mdi hk hf H
      have := H.few idinj (Or.inl rfl)
      have e : (2 : Nat) ^ 26 = 67108864 := by decide
      omega
    | succ f ih =>
      intro K k ρ Ts bs ds ρs ls cs mta mba mdi hk hf H eT eb ed hS hL hρ hg hno
      have hfew := H.few idinj (Or.inl rfl)
      have e2 : (2 : Nat) ^ 26 = 67108864 := by decide
      obtain ⟨hb, hT, hF, hba, hal⟩ := id hS
      unfold p_X7_raises_26
      rw [e26]
      refine ⟨fun q => ?_, fun q => ?_⟩
      · have := (nI_leI (by omega) (by omega)).mp q
        have ek : k = 26 := by omega
        subst ek
        refine r_raises95 (by omega) hn hS hρ hno (fun mib' hiff => ?_)
        refine hQ mta mba mib' mdi ⟨hb, hT, hF, fun s hs => ?_, fun v hv hv2 => hal v hv ((hiff v hv).mp hv2).1⟩ (LX.next hT hρ hg hno hiff hL)
        exact (hiff _ (hT.lt hs)).mpr ⟨hba s hs, fun q => q.1 s hs rfl⟩
      · have hk26 : k < 26 := by
          rcases Nat.lt_or_ge k 26 with h' | h'
          · exact h'
          · exact absurd (nI_le h' (by omega)) q
        rw [nI_clamp (show k < 2 ^ 31 by omega), ix27]
        have skip : (alR mib k → (∀ s, s < n + 4 → BB mba s ≠ k) → 0 ≤ UT mta ρ k) → ∀ x : Int32, x = nI k + 1 → p_X7_raises_26 N (nI n) Q f (nI g) (nI ρ) x mta mba mib mdi := fun hk' x ex => by
          rw [ex, nI_1]
          refine ih K (k + 1) ρ Ts bs ds ρs ls cs mta mba mdi (by omega) (by omega) H eT eb ed hS hL hρ hg (fun v hv hva hvb => ?_)
          by_cases e : v = k
          · subst e; exact hk' hva hvb
          · exact hno v (by omega) hva hvb
        refine ⟨vp_in_nI (by omega) (by decide), fun hca => ?_, fun hca => skip (fun q => absurd q hca)⟩
        refine r_rowOf (by omega) hn (by omega) hb hS.inj (fun hnb => ⟨fun q => absurd q (by decide), fun _ => ⟨in297 (by omega) (by omega), ?_⟩⟩) (fun r hr er => ⟨fun _ => skip (fun _ hvb => absurd er (hvb r hr)), fun q => absurd (nI_nneg (by omega)) q⟩)
        rw [nI_clamp (show 27 * ρ + k < 2 ^ 31 by omega)]
        refine ⟨fun hge => skip (fun _ _ => Int64.le_iff_toInt_le.mp hge), fun hlt => ?_⟩
        have hcp : UT mta ρ k < 0 := by
          have : ¬ (0 : Int) ≤ (mta (27 * ρ + k)).toInt := fun q => hlt (Int64.le_iff_toInt_le.mpr q)
          unfold UT; omega
        refine r_enter (by omega) hn hR0 hR ht hS hk26 hca hnb (fun l mta' mba' mdi' hl hlp hr hP hS' => ?_)
        have hlρ : l ≠ ρ := fun e => by subst e; omega
        have hB : BSt (n + 4) 26 (fun v => v) (alR mib) g 1 (UT mta) (BB mba) mdi.toInt (UT mta') (BB mba') mdi'.toInt ρ l k := by
          refine ⟨hρ, hg, hl, hlρ, hk26, hca, hnb, by omega, fun v hv hva hvb hvp => ?_, hlp, fun r hr' hp' => hr r hr' hp', hP⟩
          rcases Nat.lt_or_ge v k with q | q
          · have := hno v q hva hvb; omega
          · exact q
        obtain ⟨Ts', bs', ds', ρs', ls', cs', H', f1, f2, f3⟩ := H.snoc hS'.2.1 hS'.2.2.1 (by rw [eT, eb, ed]; exact hB)
        have hkeep := hB.keeps_g
        refine r_rowOf (by omega) hn (by omega) hS'.1 hS'.inj (fun hno' => absurd hkeep (hno' ρ hρ)) (fun r hr' er => ?_)
        rw [← nI_0]
        exact ih (K + 1) 0 r Ts' bs' ds' ρs' ls' cs' mta' mba' mdi' (by omega) (by omega) H' f1 f2 f3 hS' (hL.move (by omega) hT.pos hS'.2.1 hS'.2.2.1 hS'.2.2.2.1) hr' er (fun v hv => absurd hv (by omega))
  unfold p_X7_raises
  refine r_rowOf (by omega) hn (by omega) h.1 h.inj (fun hnb => ⟨fun q => absurd q (by decide), fun _ => ?_⟩) (fun ρ hρ hg => ⟨fun _ => ?_, fun q => absurd (nI_nneg (by omega)) q⟩)
  · refine r_enter (by omega) hn hR0 hR ht h hg26 hga hnb (fun l mta' mba' mdi' hl hlp hr hP hS' => ?_)
    have hin : BB mba' l = g := by rw [hP.2.1 l hl, if_pos rfl]
    refine r_rowOf (by omega) hn (by omega) hS'.1 hS'.inj (fun hno' => absurd hin (hno' l hl)) (fun r hr' er => ?_)
    rw [← nI_0]
    exact loop N 0 0 r _ _ _ _ _ _ mta' mba' mdi' (by omega) (by omega) (Hist.start hS'.2.1 hS'.2.2.1) rfl rfl rfl hS' (hL.move (by omega) h.2.1.pos hS'.2.1 hS'.2.2.1 hS'.2.2.2.1) hr' er (fun v hv => absurd hv (by omega))
  · refine r_rowOf (by omega) hn (by omega) h.1 h.inj (fun hno' => absurd hg (hno' ρ hρ)) (fun r hr' er => ?_)
    rw [← nI_0]
    exact loop N 0 0 r _ _ _ _ _ _ mta mba mdi (by omega) (by omega) (Hist.start h.2.1 h.2.2.1) rfl rfl rfl h hL hr' er (fun v hv => absurd hv (by omega))
/-- the right side less a multiple of a column -/
theorem Tb.shift {m N o : Nat} {A A' T T' : Nat → Nat → Int} {b : Nat → Nat} {d z : Int} (h : Tb m N A T b d) (ho : o < N) (hA : ∀ c r, c < N → A' c r = A c r) (hA' : ∀ r, r < m → A' N r = A N r - z * A o r) (hT : ∀ r c, r < m → c < N → T' r c = T r c) (hT' : ∀ r, r < m → T' r N = T r N - z * T r o) : Tb m N A' T' b d := by
  have key : ∀ (f f' : Nat → Int) (x : Nat → Int), (∀ c, c < N → f' c = f c) → f' N = f N - z * f o → sm (N + 1) (fun k => f' k * x k) = sm (N + 1) (fun k => f k * (if k = o then x o - z * x N else x k)) := fun f f' x h1 h2 => by
    show sm N (fun k => f' k * x k) + f' N * x N = sm N (fun k => f k * (if k = o then x o - z * x N else x k)) + f N * (if N = o then x o - z * x N else x N)
    have e1 : sm N (fun k => f k * (if k = o then x o - z * x N else x k)) = sm N (fun k => f' k * x k + (if k = o then - (z * f o * x N) else 0)) := sm_congr (fun k hk => by
      by_cases e : k = o
      · subst e
        rw [if_pos rfl, if_pos rfl, h1 k hk, Int.mul_sub, Int.mul_left_comm, Int.mul_assoc]; omega
      · rw [if_neg e, if_neg e, h1 k hk]; omega)
    rw [e1, sm_add, sm_one (f := fun k => if k = o then - (z * f o * x N) else 0) o ho (fun k _ hne => if_neg hne), if_pos rfl, if_neg (by omega), h2, Int.sub_mul]
    omega
  refine ⟨h.pos, fun r hr => h.lt hr, fun r s hr hs => by rw [hT r _ hr (h.lt hs)]; exact h.unit hr hs, fun x => ?_, ?_⟩
  · have h1 := h.sols (fun k => if k = o then x o - z * x N else x k)
    constructor
    · intro hs r hr
      rw [key (T r) (T' r) x (fun c hc => hT r c hr hc) (hT' r hr)]
      refine h1.mp (fun r hr => ?_) r hr
      rw [← key (fun c => A c r) (fun c => A' c r) x (fun c hc => hA c r hc) (hA' r hr)]
      exact hs r hr
    · intro hs r hr
      rw [key (fun c => A c r) (fun c => A' c r) x (fun c hc => hA c r hc) (hA' r hr)]
      refine h1.mpr (fun r hr => ?_) r hr
      rw [← key (T r) (T' r) x (fun c hc => hT r c hr hc) (hT' r hr)]
      exact hs r hr
  · obtain ⟨σ, hσ, hd⟩ := h.2.2.2.2
    refine ⟨σ, hσ, ?_⟩
    rw [hd]
    congr 1
    exact det_congr (fun i hi r _ _ => (hA _ _ (h.lt hi)).symm)
theorem RS.shift {n T ρ : Nat} {cap : Int} {tm : Nat → Int} {mta : Nat → Int64} {mba mib : Nat → Int32} {mdi f : Int64} (hn : n ≤ 7) (hT : T ≤ 400) (h : RS n 400 cap tm mta mba mib mdi) (hle : vl (n + 4) 26 (UT mta) (BB mba) 21 ≤ T * mdi.toInt) (hρ : ρ < n + 4) (hg : BB mba ρ = 25) (hf : f.toInt = UT mta ρ 26 - (400 - T) * mdi.toInt) :
    RS n T cap tm (vp_updL mta (27 * ρ + 26) f) mba mib mdi := by
  have hdv := h.dv hn
  obtain ⟨hb, hTb, hF, hba, hal⟩ := h
  have h25 : vl (n + 4) 26 (UT mta) (BB mba) 25 = UT mta ρ 26 := by rw [← hg]; exact vl_b hTb hρ
  have other : ∀ r c, c < 27 → ¬ (r = ρ ∧ c = 26) → UT (vp_updL mta (27 * ρ + 26) f) r c = UT mta r c := fun r c hc q => UT_ne hc (by omega) q
  refine ⟨hb, hTb.shift (o := 25) (z := 400 - T) (by omega) (fun c r hc => ?_) (fun r hr => ?_) (fun r c hr hc => other r c (by omega) (fun q => by omega)) (fun r hr => ?_), fun r hr => ?_, hba, hal⟩
  · by_cases b1 : c < 3 * n
    · rw [RA_share b1, RA_share b1]
    · by_cases b2 : c < 21
      · rw [RA_none (by omega) b2, RA_none (by omega) b2]
      · by_cases b3 : c = 21
        · subst b3; rw [RA_21 hn, RA_21 hn]
        · by_cases b4 : c < 25
          · rw [RA_slack hn (by omega) b4, RA_slack hn (by omega) b4]
          · have b5 : c = 25 := by omega
            subst b5; rw [RA_25 hn, RA_25 hn]
  · rw [RA_26 hn, RA_26 hn, RA_25 hn]
    by_cases e : r < n
    · rw [if_pos e, if_pos e, if_neg (by omega)]; omega
    · rw [if_neg e, if_neg e]
      by_cases e2 : r = n
      · rw [if_pos e2, if_pos e2, if_pos e2]; omega
      · rw [if_neg e2, if_neg e2, if_neg e2]; omega
  · have hu := hTb.unit hr hρ
    rw [hg] at hu
    rw [hu]
    by_cases e : r = ρ
    · subst e
      rw [UT_at, if_pos rfl, hf]
    · rw [other r 26 (by omega) (fun q => e q.1), if_neg e]; omega
  · by_cases e : r = ρ
    · subst e
      rw [UT_at, hf]
      have h1 := hdv.2.1
      rw [h25] at h1
      have h2 : (400 - (T : Int)) * mdi.toInt = 400 * mdi.toInt - T * mdi.toInt := Int.sub_mul _ _ _
      omega
    · rw [other r 26 (by omega) (fun q => e q.1)]; exact hF r hr
theorem RLX_LM {n T : Nat} {tm : Nat → Int} {mta : Nat → Int64} {mba mib : Nat → Int32} {mdi : Int64} (hn : n ≤ 7) (hS : RS n T T tm mta mba mib mdi) (hL : LX (n + 4) 26 (RA n T tm) (al0R n T tm) (3 * n) (alR mib) (vl (n + 4) 26 (UT mta) (BB mba)) mdi.toInt) : LM n T T tm (vl (n + 4) 26 (UT mta) (BB mba)) mdi.toInt := by
  obtain ⟨⟨d1, d2, d3, d4⟩, hR, -⟩ := hS.dv hn
  have h25 := vl_nonneg (b := BB mba) hS.2.2.1 25
  refine ⟨hS.2.1.pos, ⟨d1, d2, d3, fun i hi => by have := d4 i hi; omega⟩, fun x t ht hF => ?_⟩
  obtain ⟨y, hy, hy26, -, hyx⟩ := FZ_RA (R := (T : Int)) (g := T * t) hn (Int.mul_nonneg (by omega) (by omega)) (Int.le_refl _) hF
  have h1 := hL.1 y hy (by rw [hy26]; omega)
  rw [hy26, Int.neg_neg] at h1
  rcases h1 with h1 | ⟨j, hj, h1, h2⟩
  · exact Or.inl (fun i hi => by rw [← hyx i hi]; exact h1 i hi)
  · exact Or.inr ⟨j, hj, fun i hi => by rw [← hyx i (by omega)]; exact h1 i hi, by rw [← hyx j hj]; exact h2⟩
/-- the shares of the division, in lowest terms -/
def ND (n : Nat) (tm : Nat → Int) (num den : Nat → Nat) : Prop := ∃ (T : Nat) (v : Nat → Nat) (d : Nat), Bnd n tm T ∧ LM n T T tm (fun c => v c) d ∧ d ≤ 27000000 ∧ ∀ c, c < 3 * n → num c = v c / Nat.gcd (v c) d ∧ den c = d / Nat.gcd (v c) d
theorem ND.uniq {n : Nat} {tm : Nat → Int} {num den num' den' : Nat → Nat} (h : ND n tm num den) (g : ND n tm num' den') : ∀ c, c < 3 * n → num c = num' c ∧ den c = den' c := by
  obtain ⟨T, v, d, hB, hM, -, hv⟩ := h
  obtain ⟨T', w, e, gB, gM, -, gv⟩ := g
  have eT := hB.uniq gB
  subst eT
  intro c hc
  have h1 := hM.uniq gM c hc
  have hd := hM.1
  have he := gM.1
  have h2 : v c * e = w c * d := by exact_mod_cast h1
  obtain ⟨f1, f2⟩ := frac_same (v := v c) (d := d) (w := w c) (e := e) (by omega) (by omega) h2
  rw [(hv c hc).1, (hv c hc).2, (gv c hc).1, (gv c hc).2]
  exact ⟨f1, f2⟩
theorem LM_0 {tm v : Nat → Int} {T : Nat} : LM 0 T T tm v 1 := by
  refine ⟨by decide, ⟨fun c hc => absurd hc (by omega), fun c hc => absurd hc (by omega), fun j hj => absurd hj (by omega), fun i hi => ?_⟩, fun x t ht hF => Or.inl (fun i hi => absurd hi (by omega))⟩
  show (0 : Int) ≤ T * 1
  omega
theorem r_divides {N n : Nat} {ti : Nat → Int32} {Q : (Nat → Int64) → (Nat → Int32) → (Nat → Int32) → Int64 → (Nat → Int64) → (Nat → Int64) → Prop} {mta : Nat → Int64} {mba mib : Nat → Int32} {mdi : Int64} {mab mbe : Nat → Int64} (hN : 2000000000 ≤ N) (hJ : JI n ti) (hall : ∀ j, j < n → hasC 50 (tmI ti) j)
    (hQ : ∀ mta mba mib mdi mab mbe (num den : Nat → Nat), ND n (tmI ti) num den → (∀ c, c < 3 * n → mab c = lN (num c) ∧ mbe c = lN (den c)) → Q mta mba mib mdi mab mbe) : p_X7_divides N ti (nI n) Q mta mba mib mdi mab mbe := by
  have hn := hJ.1
  have ht : ∀ c, c < 3 * n → 0 ≤ tmI ti c ∧ tmI ti c ≤ 50 := fun c hc => hJ.tm hc
  have e3n : (3 : Int32) * nI n = nI (3 * n) := by rw [show (3 : Int32) = nI 3 from by decide, pk_mul]
  unfold p_X7_divides
  refine r_bound hN hJ hall (fun T mta mba mib mdi hB hS0 => ?_)
  have hT := hB.1
  -- the fractions
  have last : ∀ (mta : Nat → Int64) (mba mib : Nat → Int32) (mdi : Int64), RS n T T (tmI ti) mta mba mib mdi → LM n T T (tmI ti) (vl (n + 4) 26 (UT mta) (BB mba)) mdi.toInt →
      ∀ (f k : Nat) (mab mbe : Nat → Int64), k ≤ 3 * n → 3 * n < f + k → (∀ c, c < k → mab c = lN ((vl (n + 4) 26 (UT mta) (BB mba) c).toNat / Nat.gcd (vl (n + 4) 26 (UT mta) (BB mba) c).toNat mdi.toInt.toNat) ∧ mbe c = lN (mdi.toInt.toNat / Nat.gcd (vl (n + 4) 26 (UT mta) (BB mba) c).toNat mdi.toInt.toNat)) → p_X7_divides_105 N ti (nI n) Q f (nI k) mta mba mib mdi mab mbe := by
    intro mta mba mib mdi hS hL f
    have hd := hS.2.1.pos
    obtain ⟨hdl, -, hrl⟩ := hS.bound hn (by omega) (by omega) ht
    induction f with
    | zero => intro k mab mbe h1 h2; omega
    | succ f ih =>
      intro k mab mbe h1 h2 hk
      unfold p_X7_divides_105
      rw [e3n]
      refine ⟨fun q => ?_, fun q => ?_⟩
      · have := (nI_leI (by omega) (by omega)).mp q
        have ek : k = 3 * n := by omega
        subst ek
        refine hQ mta mba mib mdi mab mbe _ _ ⟨T, fun c => (vl (n + 4) 26 (UT mta) (BB mba) c).toNat, mdi.toInt.toNat, hB, ?_, by omega, fun c hc => ⟨rfl, rfl⟩⟩ hk
        have e1 : (fun c => (((vl (n + 4) 26 (UT mta) (BB mba) c).toNat : Nat) : Int)) = vl (n + 4) 26 (UT mta) (BB mba) := funext fun c => Int.toNat_of_nonneg (vl_nonneg hS.2.2.1 c)
        have e2 : ((mdi.toInt.toNat : Nat) : Int) = mdi.toInt := Int.toNat_of_nonneg (Int.le_of_lt hd)
        rw [e1, e2]; exact hL
      · have hkn : k < 3 * n := by
          rcases Nat.lt_or_ge k (3 * n) with h' | h'
          · exact h'
          · exact absurd (nI_le h' (by omega)) q
        have hkin : vp_in (nI k) 21 := vp_in_nI (by omega) (by decide)
        have ed : mdi = lN mdi.toInt.toNat := lN_of (by omega) (by omega)
        have hv0 := vl_nonneg (b := BB mba) hS.2.2.1 k
        have go : ∀ y : Int64, y.toInt = vl (n + 4) 26 (UT mta) (BB mba) k → y.toInt.natAbs ≤ 27000000000 → p_X7_common N (fun r_6 => (¬ r_6 = 0) ∧ (∀ f_8 : Int64, f_8 = y / r_6 → (vp_in (nI k) 21 ∧ ((¬ r_6 = 0) ∧ (∀ f_11 : Int64, f_11 = mdi / r_6 → (vp_in (nI k) 21 ∧ (∀ x2_13 : Int32, x2_13 = nI k + (1 : Int32) → (p_X7_divides_105 N ti (nI n) Q f x2_13 mta mba mib mdi (vp_updL mab (nI k).toNatClampNeg f_8) (vp_updL mbe (nI k).toNatClampNeg f_11))))))))) mdi y := fun y hy hyb => by
          have ey : y = lN (vl (n + 4) 26 (UT mta) (BB mba) k).toNat := lN_of (by omega) (by omega)
          have g1 : 0 < Nat.gcd (vl (n + 4) 26 (UT mta) (BB mba) k).toNat mdi.toInt.toNat := Nat.gcd_pos_of_pos_right _ (by omega)
          have g2 : Nat.gcd (vl (n + 4) 26 (UT mta) (BB mba) k).toNat mdi.toInt.toNat ≤ mdi.toInt.toNat := Nat.gcd_le_right _ (by omega)
          have g3 : ¬ lN (Nat.gcd (vl (n + 4) 26 (UT mta) (BB mba) k).toNat mdi.toInt.toNat) = 0 := fun q => by
            rw [← lN_0] at q
            have := lN_inj (by omega) (by decide) q
            omega
          have main := r_common (N := N) (Q := fun r_6 => (¬ r_6 = 0) ∧ (∀ f_8 : Int64, f_8 = y / r_6 → (vp_in (nI k) 21 ∧ ((¬ r_6 = 0) ∧ (∀ f_11 : Int64, f_11 = mdi / r_6 → (vp_in (nI k) 21 ∧ (∀ x2_13 : Int32, x2_13 = nI k + (1 : Int32) → (p_X7_divides_105 N ti (nI n) Q f x2_13 mta mba mib mdi (vp_updL mab (nI k).toNatClampNeg f_8) (vp_updL mbe (nI k).toNatClampNeg f_11))))))))) (a := mdi.toInt.toNat) (b := (vl (n + 4) 26 (UT mta) (BB mba) k).toNat) (by omega) (by omega) (by omega) (by
            rw [Nat.gcd_comm]
            refine ⟨g3, fun f8 e8 => ⟨hkin, g3, fun f11 e11 => ⟨hkin, fun x ex => ?_⟩⟩⟩
            have e8' : f8 = lN ((vl (n + 4) 26 (UT mta) (BB mba) k).toNat / Nat.gcd (vl (n + 4) 26 (UT mta) (BB mba) k).toNat mdi.toInt.toNat) := by rw [e8, ← pk_lDiv (by omega) g1 (by omega), ← ey]
            have e11' : f11 = lN (mdi.toInt.toNat / Nat.gcd (vl (n + 4) 26 (UT mta) (BB mba) k).toNat mdi.toInt.toNat) := by rw [e11, ← pk_lDiv (by omega) g1 (by omega), ← ed]
            rw [ex, nI_1, nI_clamp (show k < 2 ^ 31 by omega)]
            refine ih (k + 1) _ _ (by omega) (by omega) (fun c hc => ?_)
            by_cases e : c = k
            · subst e; rw [pk_uLs, pk_uLs]; exact ⟨e8', e11'⟩
            · rw [pk_uLn e, pk_uLn e]; exact hk c (by omega))
          rw [← ed, ← ey] at main
          exact main
        refine r_rowOf (by omega) hn (by omega) hS.1 hS.inj (fun hnb => ⟨fun q => absurd q (by decide), fun _ => go 0 ?_ (by decide)⟩) (fun r hr er => ⟨fun _ => ?_, fun q => absurd (nI_nneg (by omega)) q⟩)
        · rw [vl_off hnb]; rfl
        · rw [rcell (c := 0), nI_clamp (show 27 * r + 26 < 2 ^ 31 by omega)]
          refine ⟨in297 (by omega) (by omega), fun y ey => go y ?_ ?_⟩
          · rw [ey, ← er, vl_b hS.2.1 hr]; rfl
          · rw [ey]; exact hrl r hr
  -- the shares, one after the other
  have mid : ∀ (f k : Nat) (mta : Nat → Int64) (mba mib : Nat → Int32) (mdi : Int64) (mab mbe : Nat → Int64), k ≤ 3 * n → 3 * n < f + k → RS n T T (tmI ti) mta mba mib mdi → LX (n + 4) 26 (RA n T (tmI ti)) (al0R n T (tmI ti)) k (alR mib) (vl (n + 4) 26 (UT mta) (BB mba)) mdi.toInt → p_X7_divides_73 N ti (nI n) Q f (nI k) mta mba mib mdi mab mbe := by
    intro f
    induction f with
    | zero => intro k mta mba mib mdi mab mbe h1 h2; omega
    | succ f ih =>
      intro k mta mba mib mdi mab mbe h1 h2 hS hL
      unfold p_X7_divides_73
      rw [e3n]
      refine ⟨fun q => ?_, fun q => ?_⟩
      · have := (nI_leI (by omega) (by omega)).mp q
        have ek : k = 3 * n := by omega
        subst ek
        rw [← nI_0]
        exact last mta mba mib mdi hS (RLX_LM hn hS hL) N 0 mab mbe (by omega) (by omega) (fun c hc => absurd hc (by omega))
      · have hkn : k < 3 * n := by
          rcases Nat.lt_or_ge k (3 * n) with h' | h'
          · exact h'
          · exact absurd (nI_le h' (by omega)) q
        rw [nI_clamp (show k < 2 ^ 31 by omega)]
        refine ⟨vp_in_nI (by omega) (by decide), fun hc => ?_, fun hc x ex => ?_⟩
        · refine r_raises hN hn (by omega) hc (by omega) (by omega) ht hS hL (fun mta mba mib mdi hS hL x ex => ?_)
          rw [ex, nI_1]
          exact ih (k + 1) mta mba mib mdi mab mbe (by omega) (by omega) hS hL
        · rw [ex, nI_1]
          refine ih (k + 1) mta mba mib mdi mab mbe (by omega) (by omega) hS (hL.skip (by omega) (fun s hs e => hc ?_) hc)
          have := hS.2.2.2.1 s hs
          rw [e] at this; exact this
  have first : ∀ (f k : Nat) (mab mbe : Nat → Int64), k ≤ 21 → 21 < f + k → p_X7_divides_7 N ti (nI n) Q f (nI T) (nI k) mta mba mib mdi mab mbe := by
    intro f
    induction f with
    | zero => intro k mab mbe h1 h2; omega
    | succ f ih =>
      intro k mab mbe h1 h2
      unfold p_X7_divides_7
      rw [show (21 : Int32) = nI 21 from by decide]
      refine ⟨fun q => ⟨fun h0 => ?_, fun h0 => ?_⟩, fun q => ?_⟩
      · have h1 : n ≤ 0 := (nI_leI (a := n) (b := 0) (by omega) (by omega)).mp (by rw [nI_0]; exact h0)
        have en : n = 0 := by omega
        subst en
        exact hQ mta mba mib mdi mab mbe (fun _ => 0) (fun _ => 1) ⟨T, fun _ => 0, 1, hB, LM_0, by decide, fun c hc => absurd hc (by omega)⟩ (fun c hc => absurd hc (by omega))
      · have hn0 : 0 < n := by
          rcases Nat.eq_zero_or_pos n with q | q
          · subst q; exact absurd (by rw [nI_0]; decide) h0
          · exact q
        obtain ⟨hS, hal, hle⟩ := hS0 hn0
        have hd := hS.2.1.pos
        obtain ⟨hdl, -, hrl⟩ := hS.bound hn (by decide) (by decide) ht
        have hTd : (T : Int) * mdi.toInt ≤ 350 * mdi.toInt := Int.mul_le_mul_of_nonneg_right (by omega) (by omega)
        rw [show (25 : Int32) = nI 25 from by decide]
        refine r_rowOf (by omega) hn (by omega) hS.1 hS.inj (fun hnb => ?_) (fun r hr er => ?_)
        · have h1 := (hS.dv hn).2.1
          rw [vl_off hnb] at h1
          omega
        · rw [rcell (c := 0), nI_clamp (show 27 * r + 26 < 2 ^ 31 by omega), show (400 : Int32) = nI 400 from by decide, pk_sub (show T ≤ 400 by omega), nI_l (show 400 - T < 2 ^ 31 by omega)]
          refine ⟨in297 (by omega) (by omega), fun f5 e5 => ⟨in297 (by omega) (by omega), ?_⟩⟩
          have hm : (lN (400 - T) * mdi).toInt = (400 - (T : Int)) * mdi.toInt := by
            have e1 : ((400 - T : Nat) : Int) = 400 - (T : Int) := by omega
            rw [i64_mul, pk_lT (by omega), e1]
            rw [pk_lT (by omega)]
            exact Nat.lt_of_le_of_lt (nam (A := 400) (B := 27000000) (by omega) hdl) (by decide)
          have hb1 : ((400 - (T : Int)) * mdi.toInt).natAbs ≤ 400 * 27000000 := nam (by omega) hdl
          have hb2 := hrl r hr
          have hf : f5.toInt = UT mta r 26 - (400 - (T : Int)) * mdi.toInt := by
            rw [e5, i64_sub, hm]
            · rfl
            · rw [hm]
              have hb3 : (mta (27 * r + 26)).toInt.natAbs ≤ 27000000000 := hb2
              have : (2 : Nat) ^ 63 = 9223372036854775808 := by decide
              omega
          have hS' := hS.shift hn (by omega) hle hr er hf
          rw [← nI_0]
          exact mid N 0 _ mba mib mdi mab mbe (by omega) (by omega) hS' ⟨fun _ _ _ => Or.inl (fun i hi => absurd hi (by omega)), fun x => ⟨fun hx => ⟨⟨hx.1, hx.2.1, fun k hk hna => hx.2.2 k hk (fun q => hna ((hal k hk).mp q))⟩, fun i hi => absurd hi (by omega)⟩, fun hx => ⟨hx.1.1, hx.1.2.1, fun k hk hna => hx.1.2.2 k hk (fun q => hna ((hal k hk).mpr q))⟩⟩⟩
      · have hk : k < 21 := by
          rcases Nat.lt_or_ge k 21 with h' | h'
          · exact h'
          · exact absurd (nI_le h' (by omega)) q
        refine ⟨vp_in_nI (by omega) (by decide), vp_in_nI (by omega) (by decide), fun x ex => ?_⟩
        rw [ex, nI_1]
        exact ih (k + 1) _ _ (by omega) (by omega)
  rw [← nI_0]
  exact first N 0 mab mbe (by omega) (by omega)
