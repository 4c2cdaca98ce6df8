/-! the rounded plan: the component -/
def mkm (s : Nat → Bool) : Int32 := (if s 0 then 1 else 0) ||| ((if s 1 then 2 else 0) ||| (if s 2 then 4 else 0))
def setb (s : Nat → Bool) (k : Nat) : Nat → Bool := fun i => if i = k then true else s i
theorem mkm_ands (s : Nat → Bool) : ∀ k, k < 3 → ((mkm s &&& ((1 : Int32) <<< (nI k &&& 31))) = 0 ↔ s k = false) ∧ (mkm s ||| ((1 : Int32) <<< (nI k &&& 31))) = mkm (setb s k) ∧ (((mkm s >>> (nI k &&& 31)) &&& (1 : Int32)) = 0 ↔ s k = false) := by
  intro k hk
  have h0 : ∀ a b c : Bool, ((((if a then (1 : Int32) else 0) ||| ((if b then 2 else 0) ||| (if c then 4 else 0))) &&& ((1 : Int32) <<< (nI 0 &&& 31))) = 0 ↔ a = false) ∧ (((if a then (1 : Int32) else 0) ||| ((if b then 2 else 0) ||| (if c then 4 else 0))) ||| ((1 : Int32) <<< (nI 0 &&& 31))) = ((if true then (1 : Int32) else 0) ||| ((if b then 2 else 0) ||| (if c then 4 else 0))) ∧ (((((if a then (1 : Int32) else 0) ||| ((if b then 2 else 0) ||| (if c then 4 else 0))) >>> (nI 0 &&& 31)) &&& (1 : Int32)) = 0 ↔ a = false) := by decide
  have h1 : ∀ a b c : Bool, ((((if a then (1 : Int32) else 0) ||| ((if b then 2 else 0) ||| (if c then 4 else 0))) &&& ((1 : Int32) <<< (nI 1 &&& 31))) = 0 ↔ b = false) ∧ (((if a then (1 : Int32) else 0) ||| ((if b then 2 else 0) ||| (if c then 4 else 0))) ||| ((1 : Int32) <<< (nI 1 &&& 31))) = ((if a then (1 : Int32) else 0) ||| ((if true then 2 else 0) ||| (if c then 4 else 0))) ∧ (((((if a then (1 : Int32) else 0) ||| ((if b then 2 else 0) ||| (if c then 4 else 0))) >>> (nI 1 &&& 31)) &&& (1 : Int32)) = 0 ↔ b = false) := by decide
  have h2 : ∀ a b c : Bool, ((((if a then (1 : Int32) else 0) ||| ((if b then 2 else 0) ||| (if c then 4 else 0))) &&& ((1 : Int32) <<< (nI 2 &&& 31))) = 0 ↔ c = false) ∧ (((if a then (1 : Int32) else 0) ||| ((if b then 2 else 0) ||| (if c then 4 else 0))) ||| ((1 : Int32) <<< (nI 2 &&& 31))) = ((if a then (1 : Int32) else 0) ||| ((if b then 2 else 0) ||| (if true then 4 else 0))) ∧ (((((if a then (1 : Int32) else 0) ||| ((if b then 2 else 0) ||| (if c then 4 else 0))) >>> (nI 2 &&& 31)) &&& (1 : Int32)) = 0 ↔ c = false) := by decide
  rcases (show k = 0 ∨ k = 1 ∨ k = 2 by omega) with rfl | rfl | rfl
  · exact h0 (s 0) (s 1) (s 2)
  · exact h1 (s 0) (s 1) (s 2)
  · exact h2 (s 0) (s 1) (s 2)
theorem mkm_none : mkm (fun _ => false) = 0 := by decide
def wmI (num den : Nat → Nat) (j : Nat) : Int32 := if wmN num den j = 3 then -1 else nI (wmN num den j)
theorem wmN_at {num den : Nat → Nat} {j k : Nat} (hk3 : k < 3) (hk : ∀ i, i < k → num (3 * j + i) ≠ den (3 * j + i)) (hw : num (3 * j + k) = den (3 * j + k)) : wmN num den j = k := by
  unfold wmN
  rcases (show k = 0 ∨ k = 1 ∨ k = 2 by omega) with r | r | r
  · subst r
    have hw' : num (3 * j) = den (3 * j) := hw
    rw [if_pos hw']
  · subst r
    have h0 : num (3 * j) ≠ den (3 * j) := hk 0 (by omega)
    rw [if_neg h0, if_pos hw]
  · subst r
    have h0 : num (3 * j) ≠ den (3 * j) := hk 0 (by omega)
    rw [if_neg h0, if_neg (hk 1 (by omega)), if_pos hw]
theorem wmN_no {num den : Nat → Nat} {j : Nat} (hk : ∀ i, i < 3 → num (3 * j + i) ≠ den (3 * j + i)) : wmN num den j = 3 := by
  have h0 : num (3 * j) ≠ den (3 * j) := hk 0 (by omega)
  unfold wmN
  rw [if_neg h0, if_neg (hk 1 (by omega)), if_neg (hk 2 (by omega))]
theorem hasShare_spec {N n j i : Nat} {dnu : Nat → Int32} {num : Nat → Nat} {Q : Int32 → Prop} (hn : n ≤ 7) (hd : ∀ c, c < 3 * n → dnu c = nI (num c) ∧ num c < 2 ^ 31) (hj : j < n) (hi : i < 3) (q1 : 0 < num (3 * j + i) → Q 1) (q0 : num (3 * j + i) = 0 → Q 0) : p_X0_hasShare N dnu Q (nI j) (nI i) := by
  obtain ⟨e, hl⟩ := hd (3 * j + i) (by omega)
  unfold p_X0_hasShare
  refine ⟨fun h => absurd (nI_nneg (show j < 2 ^ 31 by omega)) (by rw [Int32.not_le]; exact h), fun _ => ⟨fun h => ?_, fun _ => ⟨fun h => absurd (nI_nneg (show i < 2 ^ 31 by omega)) (by rw [Int32.not_le]; exact h), fun _ => ⟨fun h => ?_, fun _ => ?_⟩⟩⟩⟩
  · have := (nI_leI (a := 7) (b := j) (by omega) (by omega)).mp (by rw [show nI 7 = (7 : Int32) from by decide]; exact h)
    omega
  · have := (nI_leI (a := 3) (b := i) (by omega) (by omega)).mp (by rw [show nI 3 = (3 : Int32) from by decide]; exact h)
    omega
  · rw [share_ix (by omega) hi, nI_clamp (show 3 * j + i < 2 ^ 31 by omega), e]
    refine ⟨vp_in_nI (by omega) (by decide), fun h => q0 ?_, fun h => q1 ?_⟩
    · have := (nI_leI (a := num (3 * j + i)) (b := 0) (by omega) (by omega)).mp (by rw [nI_0]; exact h)
      omega
    · rcases Nat.eq_zero_or_pos (num (3 * j + i)) with r | r
      · rw [r, nI_0] at h; exact absurd (by decide) h
      · exact r
theorem wholeMachine_spec {N n j : Nat} {dnu dde : Nat → Int32} {num den : Nat → Nat} {Q : Int32 → Prop} (hN : 100 ≤ N) (hR : RP n num den) (hd : ∀ c, c < 3 * n → dnu c = nI (num c) ∧ dde c = nI (den c)) (hj : j < n) (hQ : Q (wmI num den j)) : p_X0_wholeMachine N dnu dde Q (nI j) := by
  obtain ⟨hn, hlt, hone, -⟩ := hR
  have loop : ∀ (f k : Nat), k ≤ 3 → 3 < f + k → (∀ i, i < k → num (3 * j + i) ≠ den (3 * j + i)) → p_X0_wholeMachine_2 N dnu dde Q f (nI j) (nI k) := by
    intro f
    induction f with
    | zero => intro k h1 h2; omega
    | succ f ih =>
      intro k h1 h2 hk
      unfold p_X0_wholeMachine_2
      refine ⟨fun h => ?_, fun h => ?_⟩
      · have h3 : 3 ≤ k := (nI_leI (a := 3) (b := k) (by omega) (by omega)).mp (by rw [show nI 3 = (3 : Int32) from by decide]; exact h)
        have ew : wmN num den j = 3 := wmN_no (fun i hi => hk i (by omega))
        unfold wmI at hQ
        rw [if_pos ew] at hQ
        exact hQ
      · have hk3 : k < 3 := by
          rcases Nat.lt_or_ge k 3 with h' | h'
          · exact h'
          · exact absurd (show (3 : Int32) ≤ nI k by rw [show (3 : Int32) = nI 3 from by decide]; exact nI_le h' (by omega)) h
        obtain ⟨l1, l2, l3⟩ := hlt (3 * j + k) (by omega)
        obtain ⟨e1, e2⟩ := hd (3 * j + k) (by omega)
        have next : num (3 * j + k) ≠ den (3 * j + k) → p_X0_wholeMachine_2 N dnu dde Q f (nI j) (nI (k + 1)) := fun hne => ih (k + 1) (by omega) (by omega) (fun i hi => by
          by_cases e : i = k
          · subst e; exact hne
          · exact hk i (by omega))
        refine hasShare_spec hn (fun c hc => ⟨(hd c hc).1, (hlt c hc).1⟩) hj hk3 (fun hpos => ⟨fun q => absurd q (by decide), fun _ => ?_⟩) (fun hz => ⟨fun _ x ex => ?_, fun q => absurd rfl q⟩)
        · rw [share_ix (by omega) hk3, nI_clamp (show 3 * j + k < 2 ^ 31 by omega), e2]
          refine ⟨vp_in_nI (by omega) (by decide), fun q => ?_, fun q x ex => ?_⟩
          · have q1 : den (3 * j + k) = 1 := nI_inj (by omega) (by omega) (by rw [q]; decide)
            have ew : wmN num den j = k := wmN_at hk3 hk (l3.mpr ⟨hpos, q1⟩)
            unfold wmI at hQ
            rw [if_neg (show ¬ wmN num den j = 3 by omega), ew] at hQ
            exact hQ
          · rw [ex, nI_1]
            exact next (fun e => q (by rw [(l3.mp e).2]; decide))
        · rw [ex, nI_1]
          exact next (fun e => by have := (l3.mp e).1; omega)
  unfold p_X0_wholeMachine
  rw [← nI_0]
  exact loop N 0 (by omega) (by omega) (fun i hi => absurd hi (by omega))
theorem MT.ext {n : Nat} {num den g h : Nat → Nat} (a : MT n num den g) (e : ∀ j, j < n → h j = g j) : MT n num den h := by
  refine ⟨fun j hj => by rw [e j hj]; exact a.1 j hj, fun j k hjk hk ej ek => ?_⟩
  rw [e j (by omega), e k hk]
  exact a.2 j k hjk hk ej ek
theorem matchFrom_spec {N n : Nat} {dnu dde : Nat → Int32} {num den : Nat → Nat} (hN : 100 ≤ N) (hR : RP n num den) (hd : ∀ c, c < 3 * n → dnu c = nI (num c) ∧ dde c = nI (den c)) : ∀ (d job : Nat) (c : Nat → Nat) (s : Nat → Bool) (rma : Nat → Int32) (Q : Int32 → (Nat → Int32) → Prop), job ≤ n → n < d + job → MT job num den c → (∀ j, j < job → rma j = nI (c j)) → (∀ i, i < 3 → (s i = true ↔ ∃ j, j < job ∧ wmN num den j = 3 ∧ c j = i)) →
    (∀ rma' g, MT n num den g → (∀ j, j < job → g j = c j) → (∀ j, j < n → rma' j = nI (g j)) → (∀ h, MT n num den h → (∀ j, j < job → h j = c j) → lexp n g h) → Q 1 rma') →
    (∀ rma', (∀ j, j < job → rma' j = rma j) → (∀ h, MT n num den h → (∀ j, j < job → h j = c j) → False) → Q 0 rma') → p_X4_matchFrom N (nI n) dnu dde d Q (nI job) (mkm s) rma := by
  have hn := hR.1
  intro d
  induction d with
  | zero => intro job c s rma Q h1 h2; omega
  | succ d ihd =>
    intro job c s rma Q h1 h2 hc hrma hs q1 q0
    unfold p_X4_matchFrom
    refine ⟨fun hle => ?_, fun hgt => ⟨fun _ => ?_, fun h7 => ?_⟩⟩
    · have := (nI_leI (by omega) (by omega)).mp hle
      have e : job = n := by omega
      subst e
      exact q1 rma c hc (fun _ _ => rfl) hrma (fun h _ hh => Or.inl (fun j hj => (hh j hj).symm))
    · have hj : job < n := by
        rcases Nat.lt_or_ge job n with h' | h'
        · exact h'
        · exact absurd (nI_le h' (by omega)) hgt
      have hjin : vp_in (nI job) 7 := vp_in_nI (by omega) (by decide)
      refine wholeMachine_spec hN hR hd hj ?_
      have hw3 := wmN_le (num := num) (den := den) (j := job)
      unfold wmI
      by_cases ew : wmN num den job = 3
      · rw [if_pos ew]
        refine ⟨fun _ => ?_, fun q => absurd rfl q⟩
        have loop : ∀ (f k : Nat) (rma' : Nat → Int32), k ≤ 3 → 3 < f + k → (∀ j, j < job → rma' j = rma j) → (∀ h, MT n num den h → (∀ j, j < job → h j = c j) → h job < k → False) → p_X4_matchFrom_52 N (nI n) dnu dde (p_X4_matchFrom N (nI n) dnu dde d) Q f (nI job) (mkm s) (nI k) rma' := by
          intro f
          induction f with
          | zero => intro k rma' h1 h2; omega
          | succ f ih =>
            intro k rma' p1 p2 hr hno
            unfold p_X4_matchFrom_52
            refine ⟨fun h => ?_, fun h x7 e7 => ?_⟩
            · have h3 : 3 ≤ k := (nI_leI (a := 3) (b := k) (by omega) (by omega)).mp (by rw [show nI 3 = (3 : Int32) from by decide]; exact h)
              exact q0 rma' hr (fun h hM hh => hno h hM hh (by have := (hM.1 job hj).1; omega))
            · have hk3 : k < 3 := by
                rcases Nat.lt_or_ge k 3 with h' | h'
                · exact h'
                · exact absurd (show (3 : Int32) ≤ nI k by rw [show (3 : Int32) = nI 3 from by decide]; exact nI_le h' (by omega)) h
              obtain ⟨b1, b2, b3⟩ := mkm_ands s k hk3
              have step : ∀ rma2 : Nat → Int32, (∀ j, j < job → rma2 j = rma j) → (∀ h, MT n num den h → (∀ j, j < job → h j = c j) → h job = k → False) → ∀ x : Int32, x = nI k + 1 → p_X4_matchFrom_52 N (nI n) dnu dde (p_X4_matchFrom N (nI n) dnu dde d) Q f (nI job) (mkm s) x rma2 := fun rma2 hr2 hno2 x ex => by
                rw [ex, nI_1]
                exact ih (k + 1) rma2 (by omega) (by omega) hr2 (fun h hM hh hlt => by
                  by_cases e : h job = k
                  · exact hno2 h hM hh e
                  · exact hno h hM hh (by omega))
              refine hasShare_spec hn (fun c hc => ⟨(hd c hc).1, (hR.2.1 c hc).1⟩) hj hk3 (fun hpos => ⟨fun q => absurd q (by decide), fun _ => ?_⟩) (fun hz => ⟨fun _ => step rma' hr (fun h hM hh e => ?_), fun q => absurd rfl q⟩)
              · rw [e7]
                refine ⟨fun hb => ⟨hjin, ?_⟩, fun hb => step rma' hr (fun h hM hh e => ?_)⟩
                · have hsk := b1.mp hb
                  rw [nI_1 job, b2, nI_clamp (show job < 2 ^ 31 by omega)]
                  have hck : ∀ j, j < job → wmN num den j = 3 → c j ≠ k := fun j hj' hwj e => by
                    have := (hs k hk3).mpr ⟨j, hj', hwj, e⟩
                    rw [this] at hsk; exact absurd hsk (by decide)
                  obtain ⟨c', cj, cl⟩ : ∃ c' : Nat → Nat, c' job = k ∧ ∀ j, j < job → c' j = c j := ⟨fun j => if j = job then k else c j, if_pos rfl, fun j hj' => if_neg (by omega)⟩
                  refine ihd (job + 1) c' (setb s k) (upd rma' job (nI k)) _ (by omega) (by omega) ⟨fun j hj' => ?_, fun j j' hjj' hj' w1 w2 => ?_⟩ (fun j hj' => ?_) (fun i hi => ?_) (fun rma2 g hM hg hr2 hlex => ⟨fun q => absurd q (by decide), fun _ => ?_⟩) (fun rma2 hr2 hno2 => ⟨fun _ => step rma2 (fun j hj' => ?_) (fun h hM hh e => hno2 h hM (fun j hj' => ?_)), fun q => absurd rfl q⟩)
                  · by_cases e : j = job
                    · subst e
                      rw [cj]
                      exact ⟨hk3, fun q => by omega, fun _ => hpos⟩
                    · rw [cl j (by omega)]; exact hc.1 j (by omega)
                  · rw [cl j (by omega)]
                    by_cases e : j' = job
                    · subst e
                      rw [cj]; exact hck j hjj' w1
                    · rw [cl j' (by omega)]; exact hc.2 j j' hjj' (by omega) w1 w2
                  · by_cases e : j = job
                    · subst e; rw [pk_us, cj]
                    · rw [pk_un e, cl j (by omega), hr j (by omega), hrma j (by omega)]
                  · show (if i = k then true else s i) = true ↔ _
                    by_cases e : i = k
                    · subst e
                      rw [if_pos rfl]
                      exact ⟨fun _ => ⟨job, by omega, ew, cj⟩, fun _ => rfl⟩
                    · rw [if_neg e, hs i hi]
                      constructor
                      · intro ⟨j, r1, r2, r3⟩
                        exact ⟨j, by omega, r2, by rw [cl j r1]; exact r3⟩
                      · intro ⟨j, r1, r2, r3⟩
                        by_cases e2 : j = job
                        · subst e2; rw [cj] at r3; omega
                        · rw [cl j (by omega)] at r3
                          exact ⟨j, by omega, r2, r3⟩
                  · refine q1 rma2 g hM (fun j hj' => by rw [hg j (by omega), cl j hj']) hr2 (fun h hM' hh => ?_)
                    by_cases e : h job = k
                    · exact hlex h hM' (fun j hj' => by
                        by_cases e2 : j = job
                        · subst e2; rw [cj]; exact e
                        · rw [cl j (by omega)]; exact hh j (by omega))
                    · refine Or.inr ⟨job, hj, fun i hi => by rw [hg i (by omega), cl i hi, hh i hi], ?_⟩
                      have e3 := hg job (by omega)
                      rw [cj] at e3
                      rw [e3]
                      rcases Nat.lt_or_ge (h job) k with r | r
                      · exact absurd r (fun r => hno h hM' hh r)
                      · omega
                  · rw [hr2 j (by omega), pk_un (by omega), hr j hj']
                  · by_cases e2 : j = job
                    · subst e2; rw [cj]; exact e
                    · rw [cl j (by omega)]; exact hh j (by omega)
                · have hsk : s k = true := by
                    cases hsv : s k with
                    | false => exact absurd (b1.mpr hsv) hb
                    | true => rfl
                  obtain ⟨j, r1, r2, r3⟩ := (hs k hk3).mp hsk
                  have := hM.2 j job r1 hj r2 ew
                  rw [hh j r1] at this
                  omega
              · have := (hM.1 job hj).2.2 ew
                rw [e] at this; omega
        rw [← nI_0]
        exact loop N 0 rma (by omega) (by omega) (fun _ _ => rfl) (fun h _ _ q => absurd q (by omega))
      · rw [if_neg ew]
        refine ⟨fun q => absurd q (nI_ne_m1 (by omega)), fun _ => ⟨hjin, ?_⟩⟩
        rw [nI_1 job, nI_clamp (show job < 2 ^ 31 by omega)]
        obtain ⟨c', cj, cl⟩ : ∃ c' : Nat → Nat, c' job = wmN num den job ∧ ∀ j, j < job → c' j = c j := ⟨fun j => if j = job then wmN num den job else c j, if_pos rfl, fun j hj' => if_neg (by omega)⟩
        refine ihd (job + 1) c' s _ _ (by omega) (by omega) ⟨fun j hj' => ?_, fun j j' hjj' hj' w1 w2 => ?_⟩ (fun j hj' => ?_) (fun i hi => ?_) (fun rma2 g hM hg hr2 hlex => q1 rma2 g hM (fun j hj' => by rw [hg j (by omega), cl j hj']) hr2 (fun h hM' hh => hlex h hM' (fun j hj' => ?_))) (fun rma2 hr2 hno2 => q0 rma2 (fun j hj' => by rw [hr2 j (by omega), pk_un (by omega)]) (fun h hM hh => hno2 h hM (fun j hj' => ?_)))
        · by_cases e : j = job
          · subst e
            rw [cj]
            exact ⟨by omega, fun _ => rfl, fun q => absurd q ew⟩
          · rw [cl j (by omega)]; exact hc.1 j (by omega)
        · rw [cl j (by omega)]
          by_cases e : j' = job
          · subst e; exact absurd w2 ew
          · rw [cl j' (by omega)]; exact hc.2 j j' hjj' (by omega) w1 w2
        · by_cases e : j = job
          · subst e; rw [pk_us, cj]
          · rw [pk_un e, cl j (by omega), hrma j (by omega)]
        · rw [hs i hi]
          constructor
          · intro ⟨j, r1, r2, r3⟩
            exact ⟨j, by omega, r2, by rw [cl j r1]; exact r3⟩
          · intro ⟨j, r1, r2, r3⟩
            by_cases e2 : j = job
            · subst e2; exact absurd r2 ew
            · rw [cl j (by omega)] at r3
              exact ⟨j, by omega, r2, r3⟩
        · by_cases e2 : j = job
          · subst e2; rw [cj]; exact (hM'.1 j hj).2.1 (by omega)
          · rw [cl j (by omega)]; exact hh j (by omega)
        · by_cases e2 : j = job
          · subst e2; rw [cj]; exact (hM.1 j hj).2.1 (by omega)
          · rw [cl j (by omega)]; exact hh j (by omega)
    · have hj : job < n := by
        rcases Nat.lt_or_ge job n with h' | h'
        · exact h'
        · exact absurd (nI_le h' (by omega)) hgt
      exact absurd (show nI job < (7 : Int32) by rw [show (7 : Int32) = nI 7 from by decide]; exact nI_lt (by omega) (by omega)) h7
theorem roundMake_spec {N n : Nat} {dnu dde rma : Nat → Int32} {num den : Nat → Nat} {Q : (Nat → Int32) → Prop} (hN : 100 ≤ N) (hR : RP n num den) (hd : ∀ c, c < 3 * n → dnu c = nI (num c) ∧ dde c = nI (den c)) (hQ : ∀ rma g, RD n num den g → (∀ j, j < n → rma j = nI (g j)) → Q rma) : p_X4_make N (nI n) dnu dde Q rma := by
  have hn := hR.1
  unfold p_X4_make
  rw [← nI_0, show nI 0 = mkm (fun _ => false) from by decide]
  have := matchFrom_spec (N := N) hN hR hd 10 0 (fun _ => 0) (fun _ => false) rma (fun _ rma_2 => Q rma_2) (by omega) (by omega) ⟨fun j hj => absurd hj (by omega), fun j k _ hk => absurd hk (by omega)⟩ (fun j hj => absurd hj (by omega)) (fun i _ => ⟨fun q => absurd q (by decide), fun ⟨j, q, _⟩ => absurd q (by omega)⟩) (fun rma' g hM _ hr hlex => hQ rma' g ⟨hM, fun h hh => hlex h hh (fun j hj => absurd hj (by omega))⟩ hr) (fun rma' _ hno => by
    obtain ⟨g, hg⟩ := hR.2.2.2
    exact (hno g hg (fun j hj => absurd hj (by omega))).elim)
  rw [show nI 0 = mkm (fun _ => false) from by decide] at this
  exact this
