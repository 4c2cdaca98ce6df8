/-! the best change of the own plan -/
def stp (g : Nat → Nat) (j k : Nat) : Nat → Nat := fun i => if i = j then k else g i
def swp (g : Nat → Nat) (a b : Nat) : Nat → Nat := fun i => if i = b then g a else if i = a then g b else g i
def mvS (n : Nat) (t g : Nat → Nat) (s : Nat) (st : Nat × Nat) : Nat × Nat := if 0 < t s ∧ s % 3 ≠ g (s / 3) ∧ rkN n t (stp g (s / 3) (s % 3)) < st.1 then (rkN n t (stp g (s / 3) (s % 3)), s) else st
def mvF (n : Nat) (t g : Nat → Nat) : Nat → Nat × Nat
  | 0 => (rkN n t g, 1000)
  | s + 1 => mvS n t g s (mvF n t g s)
def swS (n : Nat) (t g : Nat → Nat) (j o : Nat) (st : Nat × Nat) : Nat × Nat := if g j ≠ g o ∧ 0 < t (3 * j + g o) ∧ 0 < t (3 * o + g j) ∧ rkN n t (swp g j o) < st.1 then (rkN n t (swp g j o), 100 + 10 * j + o) else st
def swR (n : Nat) (t g : Nat → Nat) (j : Nat) (st : Nat × Nat) : Nat → Nat × Nat
  | 0 => st
  | k + 1 => swS n t g j (j + 1 + k) (swR n t g j st k)
def swA (n : Nat) (t g : Nat → Nat) : Nat → Nat × Nat
  | 0 => mvF n t g (3 * n)
  | j + 1 => swR n t g j (swA n t g j) (n - j - 1)
/-- what a change's number says -/
def GF (n : Nat) (t g : Nat → Nat) (st : Nat × Nat) : Prop := st.1 < 2 ^ 30 ∧ (st.2 = 1000 ∨ (st.2 < 3 * n ∧ 0 < t st.2) ∨ ∃ j o, j < o ∧ o < n ∧ st.2 = 100 + 10 * j + o ∧ 0 < t (3 * j + g o) ∧ 0 < t (3 * o + g j))
theorem GF.mv {n : Nat} {ti : Nat → Int32} {g : Nat → Nat} (hJ : JI n ti) : ∀ {s : Nat}, s ≤ 3 * n → GF n (tN ti) g (mvF n (tN ti) g s) := by
  intro s
  induction s with
  | zero => intro _; exact ⟨rkN_lt hJ, Or.inl rfl⟩
  | succ s ih =>
    intro hs
    show GF n (tN ti) g (if 0 < tN ti s ∧ s % 3 ≠ g (s / 3) ∧ rkN n (tN ti) (stp g (s / 3) (s % 3)) < (mvF n (tN ti) g s).1 then (rkN n (tN ti) (stp g (s / 3) (s % 3)), s) else mvF n (tN ti) g s)
    split
    · next h => exact ⟨rkN_lt hJ, Or.inr (Or.inl ⟨by show s < 3 * n; omega, h.1⟩)⟩
    · exact ih (by omega)
theorem GF.sr {n : Nat} {ti : Nat → Int32} {g : Nat → Nat} {j : Nat} {st : Nat × Nat} (hJ : JI n ti) (h : GF n (tN ti) g st) : ∀ {k : Nat}, k ≤ n - j - 1 → j < n → GF n (tN ti) g (swR n (tN ti) g j st k) := by
  intro k
  induction k with
  | zero => intro _ _; exact h
  | succ k ih =>
    intro hk hj
    show GF n (tN ti) g (if g j ≠ g (j + 1 + k) ∧ 0 < tN ti (3 * j + g (j + 1 + k)) ∧ 0 < tN ti (3 * (j + 1 + k) + g j) ∧ rkN n (tN ti) (swp g j (j + 1 + k)) < (swR n (tN ti) g j st k).1 then (rkN n (tN ti) (swp g j (j + 1 + k)), 100 + 10 * j + (j + 1 + k)) else swR n (tN ti) g j st k)
    split
    · next q => exact ⟨rkN_lt hJ, Or.inr (Or.inr ⟨j, j + 1 + k, by omega, by omega, rfl, q.2.1, q.2.2.1⟩)⟩
    · exact ih (by omega) hj
theorem GF.sa {n : Nat} {ti : Nat → Int32} {g : Nat → Nat} (hJ : JI n ti) : ∀ {j : Nat}, j ≤ n → GF n (tN ti) g (swA n (tN ti) g j) := by
  intro j
  induction j with
  | zero => intro _; exact GF.mv hJ (Nat.le_refl _)
  | succ j ih => intro hj; exact GF.sr hJ (ih (by omega)) (Nat.le_refl _) (by omega)
def app (g : Nat → Nat) (f : Nat) : Nat → Nat := if f = 1000 then g else if f < 100 then stp g (f / 3) (f % 3) else swp g ((f - 100) / 10) (f % 10)
theorem PL.congr {n : Nat} {p : Nat → Int32} {g h : Nat → Nat} (a : PL n p g) (e : ∀ j, j < n → h j = g j) : PL n p h := fun j hj => by rw [e j hj]; exact a j hj
theorem PL.set {n j k : Nat} {p : Nat → Int32} {g : Nat → Nat} (a : ∀ i, i < n → i ≠ j → p i = nI (g i) ∧ g i < 3) (hk : k < 3) : PL n (upd p j (nI k)) (stp g j k) := fun i hi => by
  show _ = nI (if i = j then k else g i) ∧ (if i = j then k else g i) < 3
  by_cases e : i = j
  · subst e; rw [pk_us, if_pos rfl]; exact ⟨rfl, hk⟩
  · rw [pk_un e, if_neg e]; exact a i hi e
theorem PL.swap {n a b : Nat} {p : Nat → Int32} {g : Nat → Nat} (h : PL n p g) (ha : a < n) (hb : b < n) : PL n (upd (upd p a (p b)) b (p a)) (swp g a b) := fun i hi => by
  show _ = nI (if i = b then g a else if i = a then g b else g i) ∧ (if i = b then g a else if i = a then g b else g i) < 3
  by_cases e : i = b
  · subst e; rw [pk_us, if_pos rfl]; exact h a ha
  · rw [pk_un e, if_neg e]
    by_cases e2 : i = a
    · subst e2; rw [pk_us, if_pos rfl]; exact h b hb
    · rw [pk_un e2, if_neg e2]; exact h i hi
theorem swp_swp {g : Nat → Nat} {a b : Nat} (hab : a ≠ b) (i : Nat) : g i = swp (swp g a b) a b i := by
  unfold swp
  by_cases e : i = b
  · subst e
    rw [if_pos rfl, if_neg hab, if_pos rfl]
  · rw [if_neg e]
    by_cases e2 : i = a
    · subst e2; rw [if_pos rfl, if_pos rfl]
    · rw [if_neg e2, if_neg e, if_neg e2]
theorem swap_spec {N n a b : Nat} {oma : Nat → Int32} {g : Nat → Nat} {Q : (Nat → Int32) → Prop} (hn : n ≤ 7) (hp : PL n oma g) (ha : a < n) (hb : b < n) (hQ : ∀ oma', PL n oma' (swp g a b) → Q oma') : p_X2_swap N Q (nI a) (nI b) oma := by
  have no : ∀ k, k < n → ¬ (7 : Int32) ≤ nI k := fun k hk h => by
    have := (nI_leI (a := 7) (b := k) (by omega) (by omega)).mp (by rw [show nI 7 = (7 : Int32) from by decide]; exact h)
    omega
  have nn : ∀ k, k < n → ¬ nI k < 0 := fun k hk h => absurd (nI_nneg (show k < 2 ^ 31 by omega)) (by rw [Int32.not_le]; exact h)
  have ina : vp_in (nI a) 7 := vp_in_nI (by omega) (by decide)
  have inb : vp_in (nI b) 7 := vp_in_nI (by omega) (by decide)
  unfold p_X2_swap
  rw [nI_clamp (show a < 2 ^ 31 by omega), nI_clamp (show b < 2 ^ 31 by omega)]
  refine ⟨fun h => absurd h (nn a ha), fun _ => ⟨fun h => absurd h (no a ha), fun _ => ⟨fun h => absurd h (nn b hb), fun _ => ⟨fun h => absurd h (no b hb), fun _ => ⟨ina, fun x3 e3 => ⟨inb, fun f8 e8 => ⟨ina, inb, ?_⟩⟩⟩⟩⟩⟩⟩
  rw [e3, e8]
  exact hQ _ (hp.swap ha hb)
theorem meet_spec {N q r : Nat} {Q : Int32 → Int32 → Int32 → Int32 → Prop} {x2 x3 x4 obj obo obm : Int32} (hq : q < 2 ^ 31) (hr : r < 2 ^ 31) (h1 : q < r → Q (nI q) x2 x3 x4) (h2 : ¬ q < r → Q (nI r) obj obo obm) : p_X2_meet N Q (nI q) x2 x3 x4 (nI r) obj obo obm := by
  unfold p_X2_meet
  refine ⟨fun h => h2 ?_, fun h => h1 ?_⟩
  · have := (nI_leI (by omega) (by omega)).mp h; omega
  · rcases Nat.lt_or_ge q r with h' | h'
    · exact h'
    · exact absurd (nI_le h' (by omega)) h
/-- the component's words for a change -/
def Cd (f : Nat) (obj obo obm : Int32) : Prop := if f = 1000 then obj = -1 else if f < 100 then obj = nI (f / 3) ∧ obo = -1 ∧ obm = nI (f % 3) else obj = nI ((f - 100) / 10) ∧ obo = nI (f % 10)
theorem Cd.mv {j k : Nat} (hj : j < 7) (hk : k < 3) : Cd (3 * j + k) (nI j) (-1) (nI k) := by
  unfold Cd
  rw [if_neg (by omega), if_pos (by omega), show (3 * j + k) / 3 = j by omega, show (3 * j + k) % 3 = k by omega]
  exact ⟨rfl, rfl, rfl⟩
theorem Cd.sw {j o : Nat} {m : Int32} (hj : j < 7) (ho : o < 7) : Cd (100 + 10 * j + o) (nI j) (nI o) m := by
  unfold Cd
  rw [if_neg (by omega), if_neg (by omega), show (100 + 10 * j + o - 100) / 10 = j by omega, show (100 + 10 * j + o) % 10 = o by omega]
  exact ⟨rfl, rfl⟩
theorem meetMoves_spec {N n job : Nat} {ti : Nat → Int32} {g : Nat → Nat} {Q : (Nat → Int32) → Int32 → Int32 → Int32 → Int32 → Prop} {oma : Nat → Int32} {obj obo obm : Int32} (hN : 100 ≤ N) (hJ : JI n ti) (hp : PL n oma g) (hj : job < n) (hC : Cd (mvF n (tN ti) g (3 * job)).2 obj obo obm)
    (hQ : ∀ oma' obj obo obm, PL n oma' g → Cd (mvF n (tN ti) g (3 * (job + 1))).2 obj obo obm → Q oma' (nI (mvF n (tN ti) g (3 * (job + 1))).1) obj obo obm) : p_X2_meetMoves N ti (nI n) Q (nI job) oma (nI (mvF n (tN ti) g (3 * job)).1) obj obo obm := by
  have hn := hJ.1
  have hjin : vp_in (nI job) 7 := vp_in_nI (by omega) (by decide)
  obtain ⟨hgj, hg3⟩ := hp job hj
  have loop : ∀ (f k : Nat) (oma' : Nat → Int32) (obj obo obm : Int32), k ≤ 3 → 3 < f + k → (∀ i, i < n → i ≠ job → oma' i = nI (g i) ∧ g i < 3) → Cd (mvF n (tN ti) g (3 * job + k)).2 obj obo obm → p_X2_meetMoves_10 N ti (nI n) Q f (nI job) (nI (g job)) (nI k) oma' (nI (mvF n (tN ti) g (3 * job + k)).1) obj obo obm := by
    intro f
    induction f with
    | zero => intro k oma' obj obo obm h1 h2; omega
    | succ f ih =>
      intro k oma' obj obo obm h1 h2 hm hC
      unfold p_X2_meetMoves_10
      rw [nI_clamp (show job < 2 ^ 31 by omega)]
      refine ⟨fun h => ⟨hjin, ?_⟩, fun h => ?_⟩
      · have h3 : 3 ≤ k := (nI_leI (a := 3) (b := k) (by omega) (by omega)).mp (by rw [show nI 3 = (3 : Int32) from by decide]; exact h)
        have ek : k = 3 := by omega
        subst ek
        exact hQ _ _ _ _ ((PL.set hm hg3).congr (fun i hi => by
          show g i = if i = job then g job else g i
          by_cases e : i = job
          · subst e; rw [if_pos rfl]
          · rw [if_neg e])) hC
      · have hk3 : k < 3 := by
          rcases Nat.lt_or_ge k 3 with h' | h'
          · exact h'
          · exact absurd (show (3 : Int32) ≤ nI k by rw [show (3 : Int32) = nI 3 from by decide]; exact nI_le h' (by omega)) h
        obtain ⟨htl, hte, -⟩ := tN_le hJ (show 3 * job + k < 3 * n by omega)
        have hGF := GF.mv (g := g) hJ (s := 3 * job + k) (by omega)
        have hst : mvF n (tN ti) g (3 * job + (k + 1)) = if 0 < tN ti (3 * job + k) ∧ k ≠ g job ∧ rkN n (tN ti) (stp g job k) < (mvF n (tN ti) g (3 * job + k)).1 then (rkN n (tN ti) (stp g job k), 3 * job + k) else mvF n (tN ti) g (3 * job + k) := by
          show mvS n (tN ti) g (3 * job + k) (mvF n (tN ti) g (3 * job + k)) = _
          unfold mvS
          rw [show (3 * job + k) / 3 = job by omega, show (3 * job + k) % 3 = k by omega]
        have skip : ¬ (0 < tN ti (3 * job + k) ∧ k ≠ g job ∧ rkN n (tN ti) (stp g job k) < (mvF n (tN ti) g (3 * job + k)).1) → ∀ (oma2 : Nat → Int32), (∀ i, i < n → i ≠ job → oma2 i = nI (g i) ∧ g i < 3) → ∀ x : Int32, x = nI k + 1 → p_X2_meetMoves_10 N ti (nI n) Q f (nI job) (nI (g job)) x oma2 (nI (mvF n (tN ti) g (3 * job + k)).1) obj obo obm := fun hno oma2 hm2 x ex => by
          have e2 := hst
          rw [if_neg hno] at e2
          have := ih (k + 1) oma2 obj obo obm (by omega) (by omega) hm2 (by rw [e2]; exact hC)
          rw [e2] at this
          rw [ex, nI_1]; exact this
        refine ⟨fun e => skip (fun q => q.2.1 (nI_inj (by omega) (by omega) e)) oma' hm, fun ne => ?_⟩
        refine timeOn_spec hn hj hk3 ?_
        rw [hte]
        refine ⟨fun hz => skip (fun q => ?_) oma' hm, fun hpz => ⟨hjin, ?_⟩⟩
        · have : tN ti (3 * job + k) ≤ 0 := (nI_leI (by omega) (by omega)).mp (by rw [nI_0]; exact hz)
          omega
        · have hpos : 0 < tN ti (3 * job + k) := by
            rcases Nat.eq_zero_or_pos (tN ti (3 * job + k)) with r | r
            · rw [r, nI_0] at hpz; exact absurd (by decide) hpz
            · exact r
          have hne : k ≠ g job := fun e => ne (by rw [e])
          have hr := rkN_lt hJ (g := stp g job k)
          have hr2 := hGF.1
          have hm2 : ∀ i, i < n → i ≠ job → upd oma' job (nI k) i = nI (g i) ∧ g i < 3 := fun i hi e => by rw [pk_un e]; exact hm i hi e
          refine rank_spec hN hJ (PL.set hm hk3) (meet_spec (by omega) (by omega) (fun hlt x ex => ?_) (fun hge => skip (fun q => hge q.2.2) _ hm2))
          have e2 := hst
          rw [if_pos ⟨hpos, hne, hlt⟩] at e2
          have := ih (k + 1) _ (nI job) (-1) (nI k) (by omega) (by omega) hm2 (by rw [e2]; exact Cd.mv (by omega) hk3)
          rw [e2] at this
          rw [ex, nI_1]; exact this
  unfold p_X2_meetMoves
  refine ⟨hjin, fun x3 e3 => ?_⟩
  rw [nI_clamp (show job < 2 ^ 31 by omega), hgj] at e3
  rw [e3, ← nI_0]
  exact loop N 0 oma obj obo obm (by omega) (by omega) (fun i hi _ => hp i hi) hC
theorem meetSwaps_spec {N n job : Nat} {ti : Nat → Int32} {g : Nat → Nat} {Q : (Nat → Int32) → Int32 → Int32 → Int32 → Int32 → Prop} {oma : Nat → Int32} {obj obo obm : Int32} (hN : 100 ≤ N) (hJ : JI n ti) (hp : PL n oma g) (hj : job < n) (hC : Cd (swA n (tN ti) g job).2 obj obo obm)
    (hQ : ∀ oma' obj obo obm, PL n oma' g → Cd (swA n (tN ti) g (job + 1)).2 obj obo obm → Q oma' (nI (swA n (tN ti) g (job + 1)).1) obj obo obm) : p_X2_meetSwaps N ti (nI n) Q (nI job) oma (nI (swA n (tN ti) g job).1) obj obo obm := by
  have hn := hJ.1
  have hjin : vp_in (nI job) 7 := vp_in_nI (by omega) (by decide)
  have loop : ∀ (f k : Nat) (oma' : Nat → Int32) (obj obo obm : Int32), k ≤ n - job - 1 → n < f + k + job + 1 → PL n oma' g → Cd (swR n (tN ti) g job (swA n (tN ti) g job) k).2 obj obo obm → p_X2_meetSwaps_4 N ti (nI n) Q f (nI job) (nI (job + 1 + k)) oma' (nI (swR n (tN ti) g job (swA n (tN ti) g job) k).1) obj obo obm := by
    intro f
    induction f with
    | zero => intro k oma' obj obo obm h1 h2; omega
    | succ f ih =>
      intro k oma' obj obo obm h1 h2 hm hC
      unfold p_X2_meetSwaps_4
      refine ⟨fun h => ?_, fun h => ⟨fun h7 => ?_, fun _ => ?_⟩⟩
      · have := (nI_leI (by omega) (by omega)).mp h
        have ek : k = n - job - 1 := by omega
        subst ek
        exact hQ _ _ _ _ hm hC
      · have := (nI_leI (a := 7) (b := job + 1 + k) (by omega) (by omega)).mp (by rw [show nI 7 = (7 : Int32) from by decide]; exact h7)
        exact absurd (nI_le (show n ≤ job + 1 + k by omega) (by omega)) h
      · have ho : job + 1 + k < n := by
          rcases Nat.lt_or_ge (job + 1 + k) n with h' | h'
          · exact h'
          · exact absurd (nI_le h' (by omega)) h
        have hoin : vp_in (nI (job + 1 + k)) 7 := vp_in_nI (by omega) (by decide)
        obtain ⟨a1, a2⟩ := hm job hj
        obtain ⟨b1, b2⟩ := hm (job + 1 + k) ho
        rw [nI_clamp (show job < 2 ^ 31 by omega), nI_clamp (show job + 1 + k < 2 ^ 31 by omega), a1, b1]
        have hGF := GF.sr (g := g) (j := job) (k := k) hJ (GF.sa hJ (show job ≤ n by omega)) (by omega) hj
        have hst : swR n (tN ti) g job (swA n (tN ti) g job) (k + 1) = if g job ≠ g (job + 1 + k) ∧ 0 < tN ti (3 * job + g (job + 1 + k)) ∧ 0 < tN ti (3 * (job + 1 + k) + g job) ∧ rkN n (tN ti) (swp g job (job + 1 + k)) < (swR n (tN ti) g job (swA n (tN ti) g job) k).1 then (rkN n (tN ti) (swp g job (job + 1 + k)), 100 + 10 * job + (job + 1 + k)) else swR n (tN ti) g job (swA n (tN ti) g job) k := rfl
        have skip : ¬ (g job ≠ g (job + 1 + k) ∧ 0 < tN ti (3 * job + g (job + 1 + k)) ∧ 0 < tN ti (3 * (job + 1 + k) + g job) ∧ rkN n (tN ti) (swp g job (job + 1 + k)) < (swR n (tN ti) g job (swA n (tN ti) g job) k).1) → ∀ (oma2 : Nat → Int32), PL n oma2 g → ∀ x : Int32, x = nI (job + 1 + k) + 1 → p_X2_meetSwaps_4 N ti (nI n) Q f (nI job) x oma2 (nI (swR n (tN ti) g job (swA n (tN ti) g job) k).1) obj obo obm := fun hno oma2 hm2 x ex => by
          have e2 := hst
          rw [if_neg hno] at e2
          have := ih (k + 1) oma2 obj obo obm (by omega) (by omega) hm2 (by rw [e2]; exact hC)
          rw [e2] at this
          rw [ex, nI_1]; exact this
        obtain ⟨t1l, t1e, -⟩ := tN_le hJ (show 3 * job + g (job + 1 + k) < 3 * n by omega)
        obtain ⟨t2l, t2e, -⟩ := tN_le hJ (show 3 * (job + 1 + k) + g job < 3 * n by omega)
        refine ⟨hjin, fun x4 e4 => ⟨hoin, fun x5 e5 => ?_⟩⟩
        rw [e4, e5]
        refine ⟨fun e => skip (fun q => q.1 (nI_inj (by omega) (by omega) e)) oma' hm, fun ne => ?_⟩
        have hne : g job ≠ g (job + 1 + k) := fun e => ne (by rw [e])
        have zero : ∀ v : Nat, v ≤ 50 → nI v ≤ 0 → v = 0 := fun v hv h => by
          have := (nI_leI (a := v) (b := 0) (by omega) (by omega)).mp (by rw [nI_0]; exact h)
          omega
        have posv : ∀ v : Nat, ¬ nI v ≤ 0 → 0 < v := fun v h => by
          rcases Nat.eq_zero_or_pos v with r | r
          · rw [r, nI_0] at h; exact absurd (by decide) h
          · exact r
        refine timeOn_spec hn hj b2 ?_
        rw [t1e]
        refine ⟨fun hz => skip (fun q => by have := zero _ t1l hz; omega) oma' hm, fun hp1 => ?_⟩
        refine timeOn_spec hn ho a2 ?_
        rw [t2e]
        refine ⟨fun hz => skip (fun q => by have := zero _ t2l hz; omega) oma' hm, fun hp2 => ?_⟩
        have p1 := posv _ hp1
        have p2 := posv _ hp2
        have hr := rkN_lt hJ (g := swp g job (job + 1 + k))
        have hr2 := hGF.1
        refine swap_spec hn hm hj ho (fun oma2 hm2 => rank_spec hN hJ hm2 (meet_spec (by omega) (by omega) (fun hlt => ?_) (fun hge => ?_)))
        · refine swap_spec hn hm2 hj ho (fun oma3 hm3 x ex => ?_)
          have e2 := hst
          rw [if_pos ⟨hne, p1, p2, hlt⟩] at e2
          have := ih (k + 1) oma3 (nI job) (nI (job + 1 + k)) (-1) (by omega) (by omega) (hm3.congr (fun i _ => swp_swp (by omega) i)) (by rw [e2]; exact Cd.sw (by omega) (by omega))
          rw [e2] at this
          rw [ex, nI_1]; exact this
        · refine swap_spec hn hm2 hj ho (fun oma3 hm3 => skip (fun q => hge q.2.2.2) oma3 (hm3.congr (fun i _ => swp_swp (by omega) i)))
  unfold p_X2_meetSwaps
  intro x3 e3
  rw [e3, nI_1]
  exact loop N 0 oma obj obo obm (by omega) (by omega) hp hC
theorem makeBestChange_spec {N n : Nat} {ti : Nat → Int32} {g : Nat → Nat} {Q : Int32 → (Nat → Int32) → Int32 → Int32 → Int32 → Int32 → Prop} {oma : Nat → Int32} {obr obj obo obm : Int32} (hN : 100 ≤ N) (hJ : JI n ti) (hp : PL n oma g)
    (q0 : (swA n (tN ti) g n).2 = 1000 → ∀ oma obr obj obo obm, PL n oma g → Q 0 oma obr obj obo obm)
    (q1 : (swA n (tN ti) g n).2 ≠ 1000 → ∀ oma obr obj obo obm, PL n oma (app g (swA n (tN ti) g n).2) → Q 1 oma obr obj obo obm) : p_X2_makeBestChange N ti (nI n) Q oma obr obj obo obm := by
  have hn := hJ.1
  have noneg : ∀ k, k < 7 → ¬ nI k < 0 := fun k hk h => absurd (nI_nneg (show k < 2 ^ 31 by omega)) (by rw [Int32.not_le]; exact h)
  have lt7 : ∀ k, k < 7 → nI k < (7 : Int32) := fun k hk => by rw [show (7 : Int32) = nI 7 from by decide]; exact nI_lt hk (by omega)
  have no7 : ∀ k, k < 7 → ¬ (7 : Int32) ≤ nI k := fun k hk h => by
    have := (nI_leI (a := 7) (b := k) (by omega) (by omega)).mp (by rw [show nI 7 = (7 : Int32) from by decide]; exact h)
    omega
  have fin : ∀ (oma : Nat → Int32) (obr obj obo obm : Int32), PL n oma g → Cd (swA n (tN ti) g n).2 obj obo obm → ((obj < 0 → (Q (0 : Int32) oma obr obj obo obm)) ∧ (¬ obj < 0 → ((obj < (7 : Int32) → ((obo < 0 → (vp_in obj 7 ∧ (Q (1 : Int32) (upd oma (obj).toNatClampNeg obm) obr obj obo obm))) ∧ (¬ obo < 0 → (((7 : Int32) ≤ obo → (vp_in obj 7 ∧ (Q (1 : Int32) (upd oma (obj).toNatClampNeg obm) obr obj obo obm))) ∧ (¬ (7 : Int32) ≤ obo → (p_X2_swap N (fun oma_8 => Q (1 : Int32) oma_8 obr obj obo obm) obj obo oma)))))) ∧ (¬ obj < (7 : Int32) → (Q (0 : Int32) oma obr obj obo obm))))) := fun oma obr obj obo obm hm hC => by
    obtain ⟨-, hf⟩ := GF.sa (g := g) hJ (Nat.le_refl n)
    rcases hf with e | ⟨hl, -⟩ | ⟨j, o, hjo, hon, e, -⟩
    · unfold Cd at hC
      rw [if_pos e] at hC
      subst hC
      exact ⟨fun _ => q0 e _ _ _ _ _ hm, fun h => absurd (by decide) h⟩
    · have hq1 := q1 (by omega)
      unfold Cd at hC
      unfold app at hq1
      rw [if_neg (by omega), if_pos (by omega)] at hC hq1
      generalize (swA n (tN ti) g n).2 = f at hC hq1 hl
      obtain ⟨e1, e2, e3⟩ := hC
      subst e1 e2 e3
      refine ⟨fun h => absurd h (noneg _ (by omega)), fun _ => ⟨fun _ => ⟨fun _ => ⟨vp_in_nI (by omega) (by decide), ?_⟩, fun h => absurd (by decide) h⟩, fun h => absurd (lt7 _ (by omega)) h⟩⟩
      rw [nI_clamp (show f / 3 < 2 ^ 31 by omega)]
      exact hq1 _ _ _ _ _ (PL.set (fun i hi _ => hm i hi) (by omega))
    · have hq1 := q1 (by omega)
      unfold Cd at hC
      unfold app at hq1
      rw [if_neg (by omega), if_neg (by omega)] at hC hq1
      rw [e] at hC hq1
      rw [show (100 + 10 * j + o - 100) / 10 = j by omega, show (100 + 10 * j + o) % 10 = o by omega] at hC hq1
      obtain ⟨e1, e2⟩ := hC
      subst e1 e2
      exact ⟨fun h => absurd h (noneg _ (by omega)), fun _ => ⟨fun _ => ⟨fun h => absurd h (noneg _ (by omega)), fun _ => ⟨fun h => absurd h (no7 _ (by omega)), fun _ => swap_spec hn hm (by omega) hon (fun oma' hm' => hq1 _ _ _ _ _ hm')⟩⟩, fun h => absurd (lt7 _ (by omega)) h⟩⟩
  have swaps : ∀ (f k : Nat) (oma : Nat → Int32) (obj obo obm : Int32), k ≤ n → n < f + k → PL n oma g → Cd (swA n (tN ti) g k).2 obj obo obm → p_X2_makeBestChange_54 N ti (nI n) Q f (nI k) oma (nI (swA n (tN ti) g k).1) obj obo obm := by
    intro f
    induction f with
    | zero => intro k oma obj obo obm h1 h2; omega
    | succ f ih =>
      intro k oma obj obo obm h1 h2 hm hC
      unfold p_X2_makeBestChange_54
      refine ⟨fun h => ?_, fun h => ⟨fun h7 => ?_, fun _ => ?_⟩⟩
      · have := (nI_leI (by omega) (by omega)).mp h
        have ek : k = n := by omega
        subst ek
        exact fin _ _ _ _ _ hm hC
      · have := (nI_leI (a := 7) (b := k) (by omega) (by omega)).mp (by rw [show nI 7 = (7 : Int32) from by decide]; exact h7)
        exact absurd (nI_le (show n ≤ k by omega) (by omega)) h
      · have hk : k < n := by
          rcases Nat.lt_or_ge k n with h' | h'
          · exact h'
          · exact absurd (nI_le h' (by omega)) h
        refine meetSwaps_spec hN hJ hm hk hC (fun oma' obj obo obm hm' hC' x ex => ?_)
        rw [ex, nI_1]
        exact ih (k + 1) oma' obj obo obm (by omega) (by omega) hm' hC'
  have moves : ∀ (f k : Nat) (oma : Nat → Int32) (obj obo obm : Int32), k ≤ n → n < f + k → PL n oma g → Cd (mvF n (tN ti) g (3 * k)).2 obj obo obm → p_X2_makeBestChange_26 N ti (nI n) Q f (nI k) oma (nI (mvF n (tN ti) g (3 * k)).1) obj obo obm := by
    intro f
    induction f with
    | zero => intro k oma obj obo obm h1 h2; omega
    | succ f ih =>
      intro k oma obj obo obm h1 h2 hm hC
      unfold p_X2_makeBestChange_26
      refine ⟨fun h => ?_, fun h => ⟨fun h7 => ?_, fun _ => ?_⟩⟩
      · have := (nI_leI (by omega) (by omega)).mp h
        have ek : k = n := by omega
        subst ek
        rw [← nI_0]
        exact swaps N 0 oma obj obo obm (by omega) (by omega) hm hC
      · have := (nI_leI (a := 7) (b := k) (by omega) (by omega)).mp (by rw [show nI 7 = (7 : Int32) from by decide]; exact h7)
        exact absurd (nI_le (show n ≤ k by omega) (by omega)) h
      · have hk : k < n := by
          rcases Nat.lt_or_ge k n with h' | h'
          · exact h'
          · exact absurd (nI_le h' (by omega)) h
        refine meetMoves_spec hN hJ hm hk hC (fun oma' obj obo obm hm' hC' x ex => ?_)
        rw [ex, nI_1]
        exact ih (k + 1) oma' obj obo obm (by omega) (by omega) hm' hC'
  unfold p_X2_makeBestChange
  refine rank_spec hN hJ hp ?_
  rw [← nI_0]
  exact moves N 0 oma (-1) (-1) (-1) (by omega) (by omega) hp (by
    show Cd 1000 _ _ _
    unfold Cd
    rw [if_pos rfl])
