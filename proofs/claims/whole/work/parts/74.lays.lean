/-! the reference lays its table -/
/-- which row of the columns stands in row r of the table -/
def ro (n r : Nat) : Nat := if r < n then r else if r < n + 3 then r + 1 else n
/-- the cells with e shares laid, and the right side of k jobs -/
def FL (n k e : Nat) (tm : Nat → Int) (r c : Nat) : Int := if r < n then (if c < e ∧ c / 3 = r then 1 else if c = 26 ∧ r < k then 1 else 0) else if r < n + 3 then (if c < e ∧ c % 3 = r - n then tm c else 0) else 0
/-- which columns are barred, with e shares laid -/
def MIb (cap : Int) (tm : Nat → Int) (e : Nat) (mib : Nat → Int32) : Prop := ∀ v, v < 26 → (v < e → (mib v = 0 ↔ okC cap tm v)) ∧ (e ≤ v → (mib v = 0 ↔ 21 ≤ v))
theorem FL_share {n k i : Nat} {tm : Nat → Int} {mta : Nat → Int64} {f : Int64} (hn : n ≤ 7) (hk : k < n) (hi : i < 3) (hf : f.toInt = tm (3 * k + i)) (h : ∀ r c, r < 11 → c < 27 → UT mta r c = FL n k (3 * k + i) tm r c) :
    ∀ r c, r < 11 → c < 27 → UT (vp_updL (vp_updL mta (27 * k + (3 * k + i)) 1) (27 * (n + i) + (3 * k + i)) f) r c = FL n k (3 * k + (i + 1)) tm r c := by
  intro r c hr hc
  by_cases h1 : r = n + i ∧ c = 3 * k + i
  · obtain ⟨rfl, rfl⟩ := h1
    rw [UT_at, hf]
    unfold FL
    rw [if_neg (by omega), if_pos (by omega), if_pos (by omega)]
  · rw [UT_ne hc (by omega) h1]
    by_cases h2 : r = k ∧ c = 3 * k + i
    · obtain ⟨rfl, rfl⟩ := h2
      rw [UT_at]
      unfold FL
      rw [if_pos (by omega), if_pos (by omega)]; rfl
    · rw [UT_ne hc (by omega) h2, h r c hr hc]
      unfold FL
      by_cases a1 : r < n
      · rw [if_pos a1, if_pos a1]
        by_cases a2 : c < 3 * k + i ∧ c / 3 = r
        · rw [if_pos a2, if_pos (by omega)]
        · rw [if_neg a2, if_neg (show ¬ (c < 3 * k + (i + 1) ∧ c / 3 = r) by omega)]
      · rw [if_neg a1, if_neg a1]
        by_cases a3 : r < n + 3
        · rw [if_pos a3, if_pos a3]
          by_cases a2 : c < 3 * k + i ∧ c % 3 = r - n
          · rw [if_pos a2, if_pos (by omega)]
          · rw [if_neg a2, if_neg (by omega)]
        · rw [if_neg a3, if_neg a3]
theorem MIb_next {cap : Int} {tm : Nat → Int} {e : Nat} {mib : Nat → Int32} {b : Int32} (hb : b = 0 ↔ okC cap tm e) (h : MIb cap tm e mib) : MIb cap tm (e + 1) (upd mib e b) := by
  intro v hv
  obtain ⟨h1, h2⟩ := h v hv
  by_cases q : v = e
  · subst q
    rw [pk_us]
    exact ⟨fun _ => hb, fun q => by omega⟩
  · rw [pk_un q]
    exact ⟨fun q2 => h1 (by omega), fun q2 => h2 (by omega)⟩
theorem ix3 {k i : Nat} : (3 : Int32) * nI k + nI i = nI (3 * k + i) := by rw [show (3 : Int32) = nI 3 from by decide, pk_mul, nI_add]
theorem r_lays76 {N n k cap : Nat} {ti : Nat → Int32} {Q : Int32 → (Nat → Int64) → (Nat → Int32) → (Nat → Int32) → Int64 → Prop} {K : Int32 → Int32 → Int32 → (Nat → Int64) → (Nat → Int32) → (Nat → Int32) → Int64 → Prop} {mba : Nat → Int32} {mdi : Int64} {x2 : Int32}
    (hJ : JI n ti) (hk : k < n) (hcap : cap < 2 ^ 31) (hx2 : x2 = 0 ∨ x2 = 1)
    (hK : ∀ (y : Int32) mta mib, ((y = 1 ∧ x2 = 1 ∧ hasC cap (tmI ti) k) ∨ (y = 0 ∧ (x2 = 0 ∨ ¬ hasC cap (tmI ti) k))) → (∀ r c, r < 11 → c < 27 → UT mta r c = FL n (k + 1) (3 * k + 3) (tmI ti) r c) → MIb cap (tmI ti) (3 * k + 3) mib → K (nI cap) y (nI (k + 1)) mta mba mib mdi) :
    ∀ (f i : Nat) (x4 : Int32) (mta : Nat → Int64) (mib : Nat → Int32), i ≤ 3 → 3 < f + i → ((x4 = 1 ∧ ∃ m, m < i ∧ okC cap (tmI ti) (3 * k + m)) ∨ (x4 = 0 ∧ ∀ m, m < i → ¬ okC cap (tmI ti) (3 * k + m))) → (∀ r c, r < 11 → c < 27 → UT mta r c = FL n k (3 * k + i) (tmI ti) r c) → MIb cap (tmI ti) (3 * k + i) mib →
    p_X7_lays_76 N ti (nI n) Q K f (nI cap) x2 (nI k) x4 (nI i) mta mba mib mdi := by
  have hn := hJ.1
  have e26 : (26 : Int32) = nI 26 := by decide
  have e3 : (3 : Int32) ≤ nI 3 := by decide
  intro f
  induction f with
  | zero => intro i x4 mta mib h1 h2; omega
  | succ f ih =>
    intro i x4 mta mib h1 h2 h4 hU hB
    unfold p_X7_lays_76
    rw [e26, ix27]
    refine ⟨fun h => ⟨in297 (by omega) (by omega), ?_⟩, fun h x6 e6 => ?_⟩
    · have h3 : 3 ≤ i := (nI_leI (a := 3) (b := i) (by omega) (by omega)).mp (by rw [show nI 3 = (3 : Int32) from by decide]; exact h)
      have ei : i = 3 := by omega
      subst ei
      rw [nI_clamp (show 27 * k + 26 < 2 ^ 31 by omega)]
      have hU' : ∀ r c, r < 11 → c < 27 → UT (vp_updL mta (27 * k + 26) 1) r c = FL n (k + 1) (3 * k + 3) (tmI ti) r c := fun r c hr hc => by
        by_cases q : r = k ∧ c = 26
        · obtain ⟨rfl, rfl⟩ := q
          rw [UT_at]
          unfold FL
          rw [if_pos hk, if_neg (by omega), if_pos (by omega)]; rfl
        · rw [UT_ne hc (by omega) q, hU r c hr hc]
          unfold FL
          by_cases a1 : r < n
          · rw [if_pos a1, if_pos a1]
            by_cases a2 : c < 3 * k + 3 ∧ c / 3 = r
            · rw [if_pos a2, if_pos a2]
            · rw [if_neg a2, if_neg a2]
              by_cases a3 : c = 26 ∧ r < k
              · rw [if_pos a3, if_pos (by omega)]
              · rw [if_neg a3, if_neg (by omega)]
          · rw [if_neg a1, if_neg a1]
      have hhas : (∃ m, m < 3 ∧ okC cap (tmI ti) (3 * k + m)) → hasC cap (tmI ti) k := fun ⟨m, hm, q⟩ => by
        rcases (show m = 0 ∨ m = 1 ∨ m = 2 by omega) with rfl | rfl | rfl
        · exact Or.inl q
        · exact Or.inr (Or.inl q)
        · exact Or.inr (Or.inr q)
      have hno : (∀ m, m < 3 → ¬ okC cap (tmI ti) (3 * k + m)) → ¬ hasC cap (tmI ti) k := fun q q2 => by
        rcases q2 with q2 | q2 | q2
        · exact q 0 (by omega) q2
        · exact q 1 (by omega) q2
        · exact q 2 (by omega) q2
      refine ⟨fun z x ex => ?_, fun z => ⟨fun z4 x ex => ?_, fun z4 x ex => ?_⟩⟩
      · rw [ex, nI_1]; exact hK 0 _ mib (Or.inr ⟨rfl, Or.inl z⟩) hU' hB
      · rw [ex, nI_1]
        refine hK 0 _ mib (Or.inr ⟨rfl, Or.inr ?_⟩) hU' hB
        rcases h4 with ⟨q, -⟩ | ⟨-, q⟩
        · rw [q] at z4; exact absurd z4 (by decide)
        · exact hno q
      · rw [ex, nI_1]
        refine hK 1 _ mib (Or.inl ⟨rfl, ?_, ?_⟩) hU' hB
        · rcases hx2 with q | q
          · exact absurd q z
          · exact q
        · rcases h4 with ⟨-, q⟩ | ⟨q, -⟩
          · exact hhas q
          · exact absurd q z4
    · have hi : i < 3 := by
        rcases Nat.lt_or_ge i 3 with h' | h'
        · exact h'
        · exact absurd (show (3 : Int32) ≤ nI i by rw [show (3 : Int32) = nI 3 from by decide]; exact nI_le h' (by omega)) h
      rw [ix3] at e6
      subst e6
      rw [nI_add, ix27, ix27, nI_clamp (show 3 * k + i < 2 ^ 31 by omega), nI_clamp (show 27 * k + (3 * k + i) < 2 ^ 31 by omega), nI_clamp (show 27 * (n + i) + (3 * k + i) < 2 ^ 31 by omega), nar0, nar1]
      obtain ⟨v, hv, ev⟩ := hJ.2 (3 * k + i) (by omega)
      have evT : tmI ti (3 * k + i) = v := by unfold tmI; rw [ev, nI_toInt (by omega)]
      have i21 : vp_in (nI (3 * k + i)) 21 := vp_in_nI (by omega) (by decide)
      have i26 : vp_in (nI (3 * k + i)) 26 := vp_in_nI (by omega) (by decide)
      refine ⟨in297 (by omega) (by omega), i21, fun f11 e11 => ⟨in297 (by omega) (by omega), i21, ?_⟩⟩
      have hf : f11.toInt = tmI ti (3 * k + i) := by rw [e11, ev, Int32.toInt_toInt64, nI_toInt (by omega), evT]
      have hU' := FL_share hn hk hi hf hU
      have next : ∀ (b y : Int32), (b = 0 ↔ okC cap (tmI ti) (3 * k + i)) → ((y = 1 ∧ (x4 ≠ 0 ∨ b = 0)) ∨ (y = 0 ∧ x4 = 0 ∧ b ≠ 0)) → ∀ x : Int32, x = nI i + 1 → p_X7_lays_76 N ti (nI n) Q K f (nI cap) x2 (nI k) y x (vp_updL (vp_updL mta (27 * k + (3 * k + i)) 1) (27 * (n + i) + (3 * k + i)) f11) mba (upd mib (3 * k + i) b) mdi := fun b y hb hy x ex => by
        rw [ex, nI_1]
        refine ih (i + 1) y _ _ (by omega) (by omega) ?_ hU' (MIb_next hb hB)
        rcases hy with ⟨q, q2⟩ | ⟨q, q2, q3⟩
        · refine Or.inl ⟨q, ?_⟩
          rcases q2 with q2 | q2
          · rcases h4 with ⟨-, m, hm, q4⟩ | ⟨q4, -⟩
            · exact ⟨m, by omega, q4⟩
            · exact absurd q4 q2
          · exact ⟨i, by omega, hb.mp q2⟩
        · refine Or.inr ⟨q, fun m hm => ?_⟩
          rcases h4 with ⟨q4, -⟩ | ⟨-, q4⟩
          · rw [q4] at q2; exact absurd q2 (by decide)
          · by_cases q5 : m = i
            · subst q5; exact fun q6 => q3 (hb.mpr q6)
            · exact q4 m (by omega)
      rw [ev]
      have o1 : ((1 : Int32) = 0 ↔ False) := ⟨fun q => absurd q (by decide), False.elim⟩
      refine ⟨fun hz => ?_, fun hz => ⟨i21, fun hle => ?_, fun hgt => ?_⟩⟩
      · have hno : ¬ okC cap (tmI ti) (3 * k + i) := fun q => by
          have h1 : v = 0 := nI_inj (by omega) (by omega) (by rw [nI_0]; exact hz)
          have := q.1; omega
        have hb : ((1 : Int32) = 0 ↔ okC cap (tmI ti) (3 * k + i)) := ⟨fun q => absurd q (by decide), fun q => absurd q hno⟩
        refine ⟨i26, fun z4 => ⟨i26, fun q x ex => absurd q (by rw [pk_us]; decide), fun q x ex => next 1 0 hb (Or.inr ⟨rfl, z4, by decide⟩) x ex⟩, fun z4 x ex => next 1 1 hb (Or.inl ⟨rfl, Or.inl z4⟩) x ex⟩
      · have hok : okC cap (tmI ti) (3 * k + i) := by
          have h1 : v ≠ 0 := fun q => hz (by rw [q, nI_0])
          have h2 := (nI_leI (by omega) hcap).mp hle
          exact ⟨by omega, by omega⟩
        have hb : ((0 : Int32) = 0 ↔ okC cap (tmI ti) (3 * k + i)) := ⟨fun _ => hok, fun _ => rfl⟩
        refine ⟨i26, fun z4 => ⟨i26, fun q x ex => next 0 1 hb (Or.inl ⟨rfl, Or.inr rfl⟩) x ex, fun q x ex => absurd (by rw [pk_us]) q⟩, fun z4 x ex => next 0 1 hb (Or.inl ⟨rfl, Or.inl z4⟩) x ex⟩
      · have hno : ¬ okC cap (tmI ti) (3 * k + i) := fun q => by
          have h1 := q.2
          exact hgt (nI_le (by omega) hcap)
        have hb : ((1 : Int32) = 0 ↔ okC cap (tmI ti) (3 * k + i)) := ⟨fun q => absurd q (by decide), fun q => absurd q hno⟩
        refine ⟨i26, fun z4 => ⟨i26, fun q x ex => absurd q (by rw [pk_us]; decide), fun q x ex => next 1 0 hb (Or.inr ⟨rfl, z4, by decide⟩) x ex⟩, fun z4 x ex => next 1 1 hb (Or.inl ⟨rfl, Or.inl z4⟩) x ex⟩
/-- the cells with m machines laid -/
def FM (n m : Nat) (tm : Nat → Int) (r c : Nat) : Int := if n ≤ r ∧ r < n + m ∧ c = 21 then -1 else if n ≤ r ∧ r < n + m ∧ c = 22 + (r - n) then 1 else FL n n (3 * n) tm r c
theorem sub1 {k : Nat} : nI (k + 1) - (1 : Int32) = nI k := nI_pred k
theorem FM_RA {n : Nat} {tm : Nat → Int} (hn : n ≤ 7) {r c : Nat} (hr : r < n + 3) (hc : c < 27) : FM n 3 tm r c = RA n 400 tm c (ro n r) := by
  unfold FM ro
  by_cases a1 : r < n
  · rw [if_neg (by omega), if_neg (by omega), if_pos a1]
    unfold FL
    rw [if_pos a1]
    by_cases b1 : c < 3 * n
    · rw [RA_share b1]
      by_cases b2 : r = c / 3
      · rw [if_pos (by omega), if_pos b2]
      · rw [if_neg (by omega), if_neg (by omega), if_neg b2, if_neg (by omega)]
    · rw [if_neg (by omega)]
      by_cases b2 : c < 21
      · rw [RA_none (by omega) b2, if_neg (by omega)]
      · by_cases b3 : c = 21
        · subst b3; rw [RA_21 hn, if_neg (by omega), if_neg (by omega), if_neg (by omega)]
        · by_cases b4 : c < 25
          · rw [RA_slack hn (by omega) b4, if_neg (by omega), if_neg (by omega)]
          · by_cases b5 : c = 25
            · subst b5; rw [RA_25 hn, if_neg (by omega), if_neg (by omega)]
            · have b6 : c = 26 := by omega
              subst b6; rw [RA_26 hn, if_pos (by omega), if_pos a1]
  · rw [if_neg a1, if_pos hr]
    have hFL : FL n n (3 * n) tm r c = if c < 3 * n ∧ c % 3 = r - n then tm c else 0 := by unfold FL; rw [if_neg a1, if_pos hr]
    rw [hFL]
    by_cases b1 : c < 3 * n
    · rw [RA_share b1, if_neg (by omega), if_neg (by omega), if_neg (show ¬ r + 1 = c / 3 by omega)]
      by_cases b2 : c % 3 = r - n
      · rw [if_pos ⟨b1, b2⟩, if_pos (by omega)]
      · rw [if_neg (fun q => b2 q.2), if_neg (by omega)]
    · rw [if_neg (show ¬ (c < 3 * n ∧ c % 3 = r - n) from fun q => b1 q.1)]
      by_cases b2 : c < 21
      · rw [RA_none (by omega) b2, if_neg (by omega), if_neg (by omega)]
      · by_cases b3 : c = 21
        · subst b3; rw [RA_21 hn, if_pos (by omega), if_neg (by omega), if_pos (by omega)]
        · rw [if_neg (by omega)]
          by_cases b4 : c < 25
          · rw [RA_slack hn (by omega) b4]
            by_cases b5 : c = 22 + (r - n)
            · rw [if_pos (by omega), if_pos (by omega)]
            · rw [if_neg (by omega), if_neg (by omega)]
          · rw [if_neg (by omega)]
            by_cases b5 : c = 25
            · subst b5; rw [RA_25 hn, if_neg (by omega)]
            · have b6 : c = 26 := by omega
              subst b6; rw [RA_26 hn, if_neg (by omega), if_neg (by omega)]
theorem r_lays226 {N n : Nat} {ti : Nat → Int32} {Q : Int32 → (Nat → Int64) → (Nat → Int32) → (Nat → Int32) → Int64 → Prop} {mib : Nat → Int32} {mdi : Int64} {x2 : Int32} (hJ : JI n ti) (hnar : narrow .boolean (.int x2) = .int x2)
    (hK : ∀ mta mba, (∀ r c, r < n + 4 → c < 27 → UT mta r c = RA n 400 (tmI ti) c (ro n r)) → (∀ i, i < 3 → mba (n + i) = nI (22 + i)) → mba (n + 3) = nI 25 → Q x2 mta mba mib mdi) :
    ∀ (f m : Nat) (mta : Nat → Int64) (mba : Nat → Int32), m ≤ 3 → 3 < f + m → (∀ r c, r < 11 → c < 27 → UT mta r c = FM n m (tmI ti) r c) → (∀ i, i < m → mba (n + i) = nI (22 + i)) → p_X7_lays_226 N ti (nI n) Q f x2 (nI m) mta mba mib mdi := by
  have hn := hJ.1
  intro f
  induction f with
  | zero => intro m mta mba h1 h2; omega
  | succ f ih =>
    intro m mta mba h1 h2 hU hb
    unfold p_X7_lays_226 p_X7_rows
    rw [show (21 : Int32) = nI 21 from by decide, show (22 : Int32) = nI 22 from by decide]
    refine ⟨fun h => ?_, fun h => ?_⟩
    · have h3 : 3 ≤ m := (nI_leI (a := 3) (b := m) (by omega) (by omega)).mp (by rw [show nI 3 = (3 : Int32) from by decide]; exact h)
      have em : m = 3 := by omega
      subst em
      simp only [rows_eq]
      rw [show nI (n + 4) - (1 : Int32) = nI (n + 3) from sub1, show (25 : Int32) = nI 25 from by decide, show (26 : Int32) = nI 26 from by decide, ix27, ix27, ix27, nI_clamp (show 27 * (n + 3) + 21 < 2 ^ 31 by omega), nI_clamp (show 27 * (n + 3) + 25 < 2 ^ 31 by omega), nI_clamp (show 27 * (n + 3) + 26 < 2 ^ 31 by omega), nI_clamp (show n + 3 < 2 ^ 31 by omega)]
      refine ⟨in297 (by omega) (by omega), in297 (by omega) (by omega), in297 (by omega) (by omega), vp_in_nI (by omega) (by decide), hnar, hK _ _ (fun r c hr hc => ?_) (fun i hi => ?_) pk_us⟩
      · by_cases e : r = n + 3
        · subst e
          have hro : ro n (n + 3) = n := by unfold ro; rw [if_neg (by omega), if_neg (by omega)]
          rw [hro]
          by_cases c1 : c = 26
          · subst c1; rw [UT_at, RA_26 hn, if_neg (by omega), if_pos rfl]; rfl
          · rw [UT_ne hc (by omega) (fun q => c1 q.2)]
            by_cases c2 : c = 25
            · subst c2; rw [UT_at, RA_25 hn, if_pos rfl]; rfl
            · rw [UT_ne hc (by omega) (fun q => c2 q.2)]
              by_cases c3 : c = 21
              · subst c3; rw [UT_at, RA_21 hn, if_pos rfl]; rfl
              · rw [UT_ne hc (by omega) (fun q => c3 q.2), hU _ _ (by omega) hc]
                unfold FM FL
                rw [if_neg (by omega), if_neg (by omega), if_neg (by omega), if_neg (by omega)]
                by_cases d1 : c < 3 * n
                · rw [RA_share d1, if_neg (by omega), if_neg (by omega)]
                · by_cases d2 : c < 21
                  · rw [RA_none (by omega) d2]
                  · rw [RA_slack hn (by omega) (by omega), if_neg (by omega)]
        · rw [UT_ne hc (by omega) (fun q => e q.1), UT_ne hc (by omega) (fun q => e q.1), UT_ne hc (by omega) (fun q => e q.1), hU r c (by omega) hc]
          exact FM_RA hn (by omega) hc
      · rw [pk_un (by omega)]; exact hb i hi
    · have hm : m < 3 := by
        rcases Nat.lt_or_ge m 3 with h' | h'
        · exact h'
        · exact absurd (show (3 : Int32) ≤ nI m by rw [show (3 : Int32) = nI 3 from by decide]; exact nI_le h' (by omega)) h
      have e22 : (27 : Int32) * nI (n + m) + nI 22 + nI m = nI (27 * (n + m) + (22 + m)) := by rw [ix27, nI_add, Nat.add_assoc]
      rw [nI_add, e22, ix27, nI_clamp (show 27 * (n + m) + 21 < 2 ^ 31 by omega), nI_clamp (show 27 * (n + m) + (22 + m) < 2 ^ 31 by omega), nI_clamp (show n + m < 2 ^ 31 by omega)]
      refine ⟨in297 (by omega) (by omega), in297 (by omega) (by omega), fun f12 e12 => ⟨vp_in_nI (by omega) (by decide), fun x ex => ?_⟩⟩
      rw [ex, nI_1]
      rw [nI_add] at e12
      refine ih (m + 1) _ _ (by omega) (by omega) (fun r c hr hc => ?_) (fun i hi => ?_)
      · by_cases q : r = n + m ∧ c = 22 + m
        · obtain ⟨rfl, rfl⟩ := q
          rw [UT_at]
          unfold FM
          rw [if_neg (by omega), if_pos (by omega)]; rfl
        · rw [UT_ne hc (by omega) q]
          by_cases q2 : r = n + m ∧ c = 21
          · obtain ⟨rfl, rfl⟩ := q2
            rw [UT_at]
            unfold FM
            rw [if_pos (by omega)]; rfl
          · rw [UT_ne hc (by omega) q2, hU r c hr hc]
            unfold FM
            by_cases a1 : n ≤ r ∧ r < n + m ∧ c = 21
            · rw [if_pos a1, if_pos (by omega)]
            · rw [if_neg a1, if_neg (show ¬ (n ≤ r ∧ r < n + (m + 1) ∧ c = 21) by omega)]
              by_cases a2 : n ≤ r ∧ r < n + m ∧ c = 22 + (r - n)
              · rw [if_pos a2, if_pos (by omega)]
              · rw [if_neg a2, if_neg (by omega)]
      · by_cases q : i = m
        · subst q; rw [pk_us]; exact e12
        · rw [pk_un (by omega)]; exact hb i (by omega)
theorem r_lays {N n cap : Nat} {ti : Nat → Int32} {Q : Int32 → (Nat → Int64) → (Nat → Int32) → (Nat → Int32) → Int64 → Prop} {mta : Nat → Int64} {mba mib : Nat → Int32} {mdi : Int64} (hN : 1000 ≤ N) (hJ : JI n ti) (hcap : cap < 2 ^ 31)
    (q0 : (∃ j, j < n ∧ ¬ hasC cap (tmI ti) j) → ∀ mta mba mib mdi, Q 0 mta mba mib mdi)
    (q1 : (∀ j, j < n → hasC cap (tmI ti) j) → ∀ mta mba mib, (∀ r c, r < n + 4 → c < 27 → UT mta r c = RA n 400 (tmI ti) c (ro n r)) → (∀ i, i < 3 → mba (n + i) = nI (22 + i)) → mba (n + 3) = nI 25 → (∀ v, v < 26 → (alR mib v ↔ al0R n cap (tmI ti) v)) → Q 1 mta mba mib 1) :
    p_X7_lays N ti (nI n) Q (nI cap) mta mba mib mdi := by
  have hn := hJ.1
  have jobs : ∀ (f k : Nat) (x2 : Int32) (mta : Nat → Int64) (mib : Nat → Int32), k ≤ n → n < f + k → ((x2 = 1 ∧ ∀ j, j < k → hasC cap (tmI ti) j) ∨ (x2 = 0 ∧ ∃ j, j < k ∧ ¬ hasC cap (tmI ti) j)) → (∀ r c, r < 11 → c < 27 → UT mta r c = FL n k (3 * k) (tmI ti) r c) → MIb cap (tmI ti) (3 * k) mib → p_X7_lays_62 N ti (nI n) Q f (nI cap) x2 (nI k) mta mba mib 1 := by
    intro f
    induction f with
    | zero => intro k x2 mta mib h1 h2; omega
    | succ f ih =>
      intro k x2 mta mib h1 h2 hx hU hB
      unfold p_X7_lays_62
      refine ⟨fun h => ?_, fun h => ?_⟩
      · have := (nI_leI (by omega) (by omega)).mp h
        have ek : k = n := by omega
        subst ek
        have hal : ∀ v, v < 26 → (alR mib v ↔ al0R k cap (tmI ti) v) := fun v hv => by
          obtain ⟨b1, b2⟩ := hB v hv
          unfold alR
          by_cases q : v < 3 * k
          · rw [b1 q]
            exact ⟨fun o => Or.inl ⟨q, o⟩, fun o => by rcases o with ⟨-, o⟩ | ⟨o, -⟩; exact o; omega⟩
          · rw [b2 (by omega)]
            exact ⟨fun o => Or.inr ⟨o, hv⟩, fun o => by rcases o with ⟨o, -⟩ | ⟨o, -⟩; omega; exact o⟩
        have hU0 : ∀ r c, r < 11 → c < 27 → UT mta r c = FM k 0 (tmI ti) r c := fun r c hr hc => by
          rw [hU r c hr hc]
          unfold FM
          rw [if_neg (by omega), if_neg (by omega)]
        rw [← nI_0]
        refine r_lays226 hJ ?_ (fun mta mba u1 u2 u3 => ?_) N 0 mta mba (by omega) (by omega) hU0 (fun i hi => absurd hi (by omega))
        · rcases hx with ⟨q, -⟩ | ⟨q, -⟩ <;> rw [q] <;> decide
        · rcases hx with ⟨q, q2⟩ | ⟨q, q2⟩
          · rw [q]; exact q1 q2 mta mba mib u1 u2 u3 hal
          · rw [q]; exact q0 q2 mta mba mib 1
      · have hk : k < n := by
          rcases Nat.lt_or_ge k n with h' | h'
          · exact h'
          · exact absurd (nI_le h' (by omega)) h
        rw [← nI_0]
        refine r_lays76 hJ hk hcap (by rcases hx with ⟨q, -⟩ | ⟨q, -⟩; exact Or.inr q; exact Or.inl q) (fun y mta mib hy hU' hB' => ?_) N 0 (nI 0) mta mib (by omega) (by omega) (Or.inr ⟨nI_0, fun m hm => absurd hm (by omega)⟩) hU hB
        refine ih (k + 1) y mta mib (by omega) (by omega) ?_ (by rw [show 3 * (k + 1) = 3 * k + 3 by omega]; exact hU') (by rw [show 3 * (k + 1) = 3 * k + 3 by omega]; exact hB')
        rcases hy with ⟨q, q2, q3⟩ | ⟨q, q2⟩
        · refine Or.inl ⟨q, fun j hj => ?_⟩
          rcases hx with ⟨-, q4⟩ | ⟨q4, -⟩
          · by_cases e : j = k
            · subst e; exact q3
            · exact q4 j (by omega)
          · rw [q4] at q2; exact absurd q2 (by decide)
        · refine Or.inr ⟨q, ?_⟩
          rcases q2 with q2 | q2
          · rcases hx with ⟨q4, -⟩ | ⟨-, j, hj, q4⟩
            · rw [q4] at q2; exact absurd q2 (by decide)
            · exact ⟨j, by omega, q4⟩
          · exact ⟨k, by omega, q2⟩
  have bars : ∀ (f k : Nat) (mta : Nat → Int64) (mib : Nat → Int32), k ≤ 26 → 26 < f + k → (∀ j, j < 297 → mta j = 0) → (∀ v, v < k → (mib v = 0 ↔ 21 ≤ v)) → p_X7_lays_24 N ti (nI n) Q f (nI cap) (nI k) mta mba mib mdi := by
    intro f
    induction f with
    | zero => intro k mta mib h1 h2; omega
    | succ f ih =>
      intro k mta mib h1 h2 hz hb
      unfold p_X7_lays_24
      rw [show (26 : Int32) = nI 26 from by decide, show (21 : Int32) = nI 21 from by decide]
      refine ⟨fun h => ?_, fun h => ?_⟩
      · have := (nI_leI (by omega) (by omega)).mp h
        have ek : k = 26 := by omega
        subst ek
        rw [← nI_0]
        refine jobs N 0 1 mta mib (by omega) (by omega) (Or.inl ⟨rfl, fun j hj => absurd hj (by omega)⟩) (fun r c hr hc => ?_) (fun v hv => ⟨fun q => absurd q (by omega), fun _ => hb v hv⟩)
        have e0 : UT mta r c = 0 := by unfold UT; rw [hz _ (by omega)]; rfl
        rw [e0]
        unfold FL
        rw [if_neg (show ¬ (c < 3 * 0 ∧ c / 3 = r) by omega), if_neg (show ¬ (c = 26 ∧ r < 0) by omega), if_neg (show ¬ (c < 3 * 0 ∧ c % 3 = r - n) by omega)]
        split
        · rfl
        · split <;> rfl
      · have hk : k < 26 := by
          rcases Nat.lt_or_ge k 26 with h' | h'
          · exact h'
          · exact absurd (nI_le h' (by omega)) h
        rw [nar0, nar1, nI_clamp (show k < 2 ^ 31 by omega)]
        refine ⟨fun hc => ⟨vp_in_nI (by omega) (by decide), fun x ex => ?_⟩, fun hc => ⟨vp_in_nI (by omega) (by decide), fun x ex => ?_⟩⟩
        · have h21 := (nI_leI (by omega) (by omega)).mp hc
          rw [ex, nI_1]
          refine ih (k + 1) mta _ (by omega) (by omega) hz (fun v hv => ?_)
          by_cases e : v = k
          · subst e; rw [pk_us]; exact ⟨fun _ => h21, fun _ => rfl⟩
          · rw [pk_un e]; exact hb v (by omega)
        · have h21 : ¬ 21 ≤ k := fun q => hc (nI_le q (by omega))
          rw [ex, nI_1]
          refine ih (k + 1) mta _ (by omega) (by omega) hz (fun v hv => ?_)
          by_cases e : v = k
          · subst e; rw [pk_us]; exact ⟨fun q => absurd q (by decide), fun q => absurd q h21⟩
          · rw [pk_un e]; exact hb v (by omega)
  have zero : ∀ (f k : Nat) (mta : Nat → Int64), k ≤ 297 → 297 < f + k → (∀ j, j < k → mta j = 0) → p_X7_lays_2 N ti (nI n) Q f (nI cap) (nI k) mta mba mib mdi := by
    intro f
    induction f with
    | zero => intro k mta h1 h2; omega
    | succ f ih =>
      intro k mta h1 h2 hz
      unfold p_X7_lays_2
      rw [show (297 : Int32) = nI 297 from by decide]
      refine ⟨fun h => ?_, fun h => ?_⟩
      · have := (nI_leI (by omega) (by omega)).mp h
        rw [← nI_0]
        exact bars N 0 mta mib (by omega) (by omega) (fun j hj => hz j (by omega)) (fun v hv => absurd hv (by omega))
      · have hk : k < 297 := by
          rcases Nat.lt_or_ge k 297 with h' | h'
          · exact h'
          · exact absurd (nI_le h' (by omega)) h
        refine ⟨vp_in_nI (by omega) (by decide), fun x ex => ?_⟩
        rw [ex, nI_1, nI_clamp (show k < 2 ^ 31 by omega)]
        refine ih (k + 1) _ (by omega) (by omega) (fun j hj => ?_)
        by_cases e : j = k
        · subst e; exact pk_uLs
        · rw [pk_uLn e]; exact hz j (by omega)
  unfold p_X7_lays
  rw [← nI_0]
  exact zero N 0 mta (by omega) (by omega) (fun j hj => absurd hj (by omega))
