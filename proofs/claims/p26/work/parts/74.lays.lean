/-! the reference lays its table -/
/-- which row of the columns stands in row r of the table -/
def ro (n r : Nat) : Nat := if r < n then r else if r < n + 3 then r + 1 else n
/-- the cells with e shares laid, and the right side of k jobs -/
def FL (n k e : Nat) (tm : Nat → Int) (r c : Nat) : Int := if r < n then (if c < e ∧ c / 3 = r then 1 else if c = 26 ∧ r < k then 1 else 0) else if r < n + 3 then (if c < e ∧ c % 3 = r - n then tm c else 0) else 0
/-- which columns are barred, with e shares laid -/
def MIb (cap : Int) (tm : Nat → Int) (e : Nat) (mib : Nat → Int32) : Prop := ∀ v, v < 26 → (v < e → (mib v = 0 ↔ okC cap tm v)) ∧ (e ≤ v → (mib v = 0 ↔ 21 ≤ v))
theorem FL_share {n k i : Nat} {tm : Nat → Int} {mta : Nat → Int64} {f : Int64} (hn : n ≤ 7) (hk : k < n) (hi : i < 3) (hf : f.toInt = tm (3 * k + i)) (h : ∀ r c, r < 11 → c < 27 → UT mta r c = FL n k (3 * k + i) tm r c) :
    ∀ r c, r < 11 → c < 27 → UT (vp_updL (vp_updL mta (27 * k + (3 * k + i)) 1) (27 * (n + i) + (3 * k + i)) f) r c = FL n k (3 * k + (i + 1)) tm r c := by
  intro r c hr hc
  by_cases h1 : r = n + i ∧ c = 3 * k + i
  · obtain ⟨rfl, rfl⟩ := h1
    rw [UT_at, hf]
    unfold FL
    rw [if_neg (by omega), if_pos (by omega), if_pos (by omega)]
  · rw [UT_ne hc (by omega) h1]
    by_cases h2 : r = k ∧ c = 3 * k + i
    · obtain ⟨rfl, rfl⟩ := h2
      rw [UT_at]
      unfold FL
      rw [if_pos (by omega), if_pos (by omega)]; rfl
    · rw [UT_ne hc (by omega) h2, h r c hr hc]
      unfold FL
      by_cases a1 : r < n
      · rw [if_pos a1, if_pos a1]
        by_cases a2 : c < 3 * k + i ∧ c / 3 = r
        · rw [if_pos a2, if_pos (by omega)]
        · rw [if_neg a2, if_neg (show ¬ (c < 3 * k + (i + 1) ∧ c / 3 = r) by omega)]
      · rw [if_neg a1, if_neg a1]
        by_cases a3 : r < n + 3
        · rw [if_pos a3, if_pos a3]
          by_cases a2 : c < 3 * k + i ∧ c % 3 = r - n
          · rw [if_pos a2, if_pos (by omega)]
          · rw [if_neg a2, if_neg (by omega)]
        · rw [if_neg a3, if_neg a3]
theorem MIb_next {cap : Int} {tm : Nat → Int} {e : Nat} {mib : Nat → Int32} {b : Int32} (hb : b = 0 ↔ okC cap tm e) (h : MIb cap tm e mib) : MIb cap tm (e + 1) (upd mib e b) := by
  intro v hv
  obtain ⟨h1, h2⟩ := h v hv
  by_cases q : v = e
  · subst q
    rw [pk_us]
    exact ⟨fun _ => hb, fun q => by omega⟩
  · rw [pk_un q]
    exact ⟨fun q2 => h1 (by omega), fun q2 => h2 (by omega)⟩
theorem ix3 {k i : Nat} : (3 : Int32) * nI k + nI i = nI (3 * k + i) := by rw [show (3 : Int32) = nI 3 from by decide, pk_mul, nI_add]
/-- the cells with m machines laid -/
def FM (n m : Nat) (tm : Nat → Int) (r c : Nat) : Int := if n ≤ r ∧ r < n + m ∧ c = 21 then -1 else if n ≤ r ∧ r < n + m ∧ c = 22 + (r - n) then 1 else FL n n (3 * n) tm r c
theorem sub1 {k : Nat} : nI (k + 1) - (1 : Int32) = nI k := nI_pred k
theorem FM_RA {n : Nat} {tm : Nat → Int} (hn : n ≤ 7) {r c : Nat} (hr : r < n + 3) (hc : c < 27) : FM n 3 tm r c = RA n 400 tm c (ro n r) := by
  unfold FM ro
  by_cases a1 : r < n
  · rw [if_neg (by omega), if_neg (by omega), if_pos a1]
    unfold FL
    rw [if_pos a1]
    by_cases b1 : c < 3 * n
    · rw [RA_share b1]
      by_cases b2 : r = c / 3
      · rw [if_pos (by omega), if_pos b2]
      · rw [if_neg (by omega), if_neg (by omega), if_neg b2, if_neg (by omega)]
    · rw [if_neg (by omega)]
      by_cases b2 : c < 21
      · rw [RA_none (by omega) b2, if_neg (by omega)]
      · by_cases b3 : c = 21
        · subst b3; rw [RA_21 hn, if_neg (by omega), if_neg (by omega), if_neg (by omega)]
        · by_cases b4 : c < 25
          · rw [RA_slack hn (by omega) b4, if_neg (by omega), if_neg (by omega)]
          · by_cases b5 : c = 25
            · subst b5; rw [RA_25 hn, if_neg (by omega), if_neg (by omega)]
            · have b6 : c = 26 := by omega
              subst b6; rw [RA_26 hn, if_pos (by omega), if_pos a1]
  · rw [if_neg a1, if_pos hr]
    have hFL : FL n n (3 * n) tm r c = if c < 3 * n ∧ c % 3 = r - n then tm c else 0 := by unfold FL; rw [if_neg a1, if_pos hr]
    rw [hFL]
    by_cases b1 : c < 3 * n
    · rw [RA_share b1, if_neg (by omega), if_neg (by omega), if_neg (show ¬ r + 1 = c / 3 by omega)]
      by_cases b2 : c % 3 = r - n
      · rw [if_pos ⟨b1, b2⟩, if_pos (by omega)]
      · rw [if_neg (fun q => b2 q.2), if_neg (by omega)]
    · rw [if_neg (show ¬ (c < 3 * n ∧ c % 3 = r - n) from fun q => b1 q.1)]
      by_cases b2 : c < 21
      · rw [RA_none (by omega) b2, if_neg (by omega), if_neg (by omega)]
      · by_cases b3 : c = 21
        · subst b3; rw [RA_21 hn, if_pos (by omega), if_neg (by omega), if_pos (by omega)]
        · rw [if_neg (by omega)]
          by_cases b4 : c < 25
          · rw [RA_slack hn (by omega) b4]
            by_cases b5 : c = 22 + (r - n)
            · rw [if_pos (by omega), if_pos (by omega)]
            · rw [if_neg (by omega), if_neg (by omega)]
          · rw [if_neg (by omega)]
            by_cases b5 : c = 25
            · subst b5; rw [RA_25 hn, if_neg (by omega)]
            · have b6 : c = 26 := by omega
              subst b6; rw [RA_26 hn, if_neg (by omega), if_neg (by omega)]