/-! divided jobs and machines -/
def wmN (num den : Nat → Nat) (j : Nat) : Nat := if num (3 * j) = den (3 * j) then 0 else if num (3 * j + 1) = den (3 * j + 1) then 1 else if num (3 * j + 2) = den (3 * j + 2) then 2 else 3
theorem wmN_le {num den : Nat → Nat} {j : Nat} : wmN num den j ≤ 3 := by
  unfold wmN
  split
  · omega
  · split
    · omega
    · split <;> omega
/-- a plan that the divided jobs may have -/
def MT (n : Nat) (num den g : Nat → Nat) : Prop := (∀ j, j < n → g j < 3 ∧ (wmN num den j < 3 → g j = wmN num den j) ∧ (wmN num den j = 3 → 0 < num (3 * j + g j))) ∧ ∀ j k, j < k → k < n → wmN num den j = 3 → wmN num den k = 3 → g j ≠ g k
def RP (n : Nat) (num den : Nat → Nat) : Prop := n ≤ 7 ∧ (∀ c, c < 3 * n → num c < 2 ^ 31 ∧ den c < 2 ^ 31 ∧ (num c = den c ↔ 0 < num c ∧ den c = 1)) ∧ (∀ j, j < n → ∀ i k, i < 3 → k < 3 → num (3 * j + i) = den (3 * j + i) → num (3 * j + k) = den (3 * j + k) → i = k) ∧ ∃ g, MT n num den g
def RD (n : Nat) (num den g : Nat → Nat) : Prop := MT n num den g ∧ ∀ h, MT n num den h → lexp n g h
theorem RD.uniq {n : Nat} {num den g h : Nat → Nat} (a : RD n num den g) (b : RD n num den h) : ∀ j, j < n → g j = h j := (a.2 h b.1).anti (b.2 g a.1)
theorem wmN_congr {num den num' den' : Nat → Nat} {j n : Nat} (hj : j < n) (h : ∀ c, c < 3 * n → num c = num' c ∧ den c = den' c) : wmN num den j = wmN num' den' j := by
  unfold wmN
  rw [(h (3 * j) (by omega)).1, (h (3 * j) (by omega)).2, (h (3 * j + 1) (by omega)).1, (h (3 * j + 1) (by omega)).2, (h (3 * j + 2) (by omega)).1, (h (3 * j + 2) (by omega)).2]
theorem MT.congr {n : Nat} {num den num' den' g : Nat → Nat} (h : ∀ c, c < 3 * n → num c = num' c ∧ den c = den' c) (a : MT n num den g) : MT n num' den' g := by
  refine ⟨fun j hj => ?_, fun j k hjk hk => ?_⟩
  · obtain ⟨h1, h2, h3⟩ := a.1 j hj
    rw [← wmN_congr hj h, ← (h (3 * j + g j) (by omega)).1]
    exact ⟨h1, h2, h3⟩
  · rw [← wmN_congr (show j < n by omega) h, ← wmN_congr hk h]
    exact a.2 j k hjk hk
theorem RD.congr {n : Nat} {num den num' den' g : Nat → Nat} (h : ∀ c, c < 3 * n → num c = num' c ∧ den c = den' c) (a : RD n num den g) : RD n num' den' g :=
  ⟨a.1.congr h, fun k hk => a.2 k (hk.congr (fun c hc => ⟨(h c hc).1.symm, (h c hc).2.symm⟩))⟩
/-- three rows of three, each with two marks or more -/
theorem three_rows : ∀ a0 a1 a2 b0 b1 b2 c0 c1 c2 : Bool, ((a0 && a1) || (a0 && a2) || (a1 && a2)) = true → ((b0 && b1) || (b0 && b2) || (b1 && b2)) = true → ((c0 && c1) || (c0 && c2) || (c1 && c2)) = true →
    (((a0 && b1 && c2) || (a0 && b2 && c1) || (a1 && b0 && c2) || (a1 && b2 && c0) || (a2 && b0 && c1) || (a2 && b1 && c0)) = true ∨ (a0 && a1 && b0 && b1 && c0 && c1) = true ∨ (a0 && a2 && b0 && b2 && c0 && c2) = true ∨ (a1 && a2 && b1 && b2 && c1 && c2) = true) := by decide
theorem two_rows : ∀ a0 a1 a2 b0 b1 b2 : Bool, ((a0 && a1) || (a0 && a2) || (a1 && a2)) = true → ((b0 && b1) || (b0 && b2) || (b1 && b2)) = true → ((a0 && b1) || (a0 && b2) || (a1 && b0) || (a1 && b2) || (a2 && b0) || (a2 && b1)) = true := by decide
theorem filt_mem {n : Nat} {P : Nat → Bool} {s : Nat} : s ∈ (List.range n).filter P ↔ s < n ∧ P s = true := by
  rw [List.mem_filter, List.mem_range]
theorem range_nodup (n : Nat) : (List.range n).Nodup := List.nodup_range
/-- the divided jobs find machines -/
theorem match_ex {n T d : Nat} {tm : Nat → Int} {v : Nat → Nat} (dv : Nat → Bool) (h : LM n T T tm (fun c => v c) d) (h2 : ∀ j, j < n → dv j = true → ((decide (0 < v (3 * j)) && decide (0 < v (3 * j + 1))) || (decide (0 < v (3 * j)) && decide (0 < v (3 * j + 2))) || (decide (0 < v (3 * j + 1)) && decide (0 < v (3 * j + 2)))) = true) : ∃ g : Nat → Nat, (∀ j, j < n → dv j = true → g j < 3 ∧ 0 < v (3 * j + g j)) ∧ ∀ j k, j < k → k < n → dv j = true → dv k = true → g j ≠ g k := by
  have hmem : ∀ s, s ∈ (List.range n).filter dv ↔ s < n ∧ dv s = true := fun s => filt_mem
  have hnd : ((List.range n).filter dv).Nodup := (range_nodup n).filter _
  generalize hD : (List.range n).filter dv = D at hmem hnd
  -- a pair of machines for each job
  have pair : ∀ j, j < n → dv j = true → ∃ a b, a < 3 ∧ b < 3 ∧ a ≠ b ∧ 0 < v (3 * j + a) ∧ 0 < v (3 * j + b) := fun j hj hdj => by
    have q := h2 j hj hdj
    simp only [Bool.or_eq_true, Bool.and_eq_true, decide_eq_true_eq] at q
    rcases q with (⟨q1, q2⟩ | ⟨q1, q2⟩) | ⟨q1, q2⟩
    · exact ⟨0, 1, by omega, by omega, by omega, q1, q2⟩
    · exact ⟨0, 2, by omega, by omega, by omega, q1, q2⟩
    · exact ⟨1, 2, by omega, by omega, by omega, q1, q2⟩
  have ch : ∃ a b : Nat → Nat, ∀ j, j < n → dv j = true → a j < 3 ∧ b j < 3 ∧ a j ≠ b j ∧ 0 < v (3 * j + a j) ∧ 0 < v (3 * j + b j) := by
    have : ∀ j, ∃ p : Nat × Nat, j < n → dv j = true → p.1 < 3 ∧ p.2 < 3 ∧ p.1 ≠ p.2 ∧ 0 < v (3 * j + p.1) ∧ 0 < v (3 * j + p.2) := fun j => by
      by_cases q : j < n ∧ dv j = true
      · obtain ⟨a, b, r⟩ := pair j q.1 q.2
        exact ⟨(a, b), fun _ _ => r⟩
      · exact ⟨(0, 0), fun q1 q2 => absurd ⟨q1, q2⟩ q⟩
    obtain ⟨f, hf⟩ := Classical.axiomOfChoice this
    exact ⟨fun j => (f j).1, fun j => (f j).2, hf⟩
  obtain ⟨a, b, hab⟩ := ch
  have bad2 : ∀ p q x y z : Nat, p < 3 → q < 3 → p ≠ q → [x, y, z].Nodup → (∀ s, s ∈ [x, y, z] → s < n ∧ 0 < v (3 * s + p) ∧ 0 < v (3 * s + q)) → False := fun p q x y z hp hq hpq hs hv => by
    refine h.few (m := 2) (S := [x, y, z]) hs rfl (fun s hs => (hv s hs).1) (fun _ => p) (fun _ => q) (fun s hs => ⟨hp, hq, hpq, ?_, ?_⟩) (fun e => if e = 0 then p else q) (fun i hi => ?_)
    · have := (hv s hs).2.1
      show (0 : Int) < (v (3 * s + p) : Nat)
      omega
    · have := (hv s hs).2.2
      show (0 : Int) < (v (3 * s + q) : Nat)
      omega
    · by_cases e1 : i = p
      · exact Or.inl ⟨0, by omega, by rw [e1]; rfl⟩
      · by_cases e2 : i = q
        · exact Or.inl ⟨1, by omega, by rw [e2]; rfl⟩
        · exact Or.inr (fun s _ => ⟨fun e => e1 e.symm, fun e => e2 e.symm⟩)
  have dec : ∀ j, decide (0 < v (3 * j)) = decide (0 < v (3 * j + 0)) := fun j => rfl
  match D, hD, hmem, hnd with
  | [], _, hm, _ => exact ⟨fun _ => 0, fun j hj hdj => absurd ((hm j).mpr ⟨hj, hdj⟩) List.not_mem_nil, fun j k hjk hk hdj _ => absurd ((hm j).mpr ⟨by omega, hdj⟩) List.not_mem_nil⟩
  | [x], _, hm, _ =>
    refine ⟨a, fun j hj hdj => ⟨(hab j hj hdj).1, (hab j hj hdj).2.2.2.1⟩, fun j k hjk hk hdj hdk => ?_⟩
    have e1 := List.mem_singleton.mp ((hm j).mpr ⟨by omega, hdj⟩)
    have e2 := List.mem_singleton.mp ((hm k).mpr ⟨hk, hdk⟩)
    omega
  | [x, y], _, hm, hn2 =>
    have hxy : x ≠ y := fun e => by
      rw [e] at hn2
      exact (List.nodup_cons.mp hn2).1 List.mem_cons_self
    obtain ⟨hx, hdx⟩ := (hm x).mp List.mem_cons_self
    obtain ⟨hy, hdy⟩ := (hm y).mp (List.mem_cons_of_mem _ List.mem_cons_self)
    have q := two_rows _ _ _ _ _ _ (h2 x hx hdx) (h2 y hy hdy)
    have res : ∃ p q, p < 3 ∧ q < 3 ∧ p ≠ q ∧ 0 < v (3 * x + p) ∧ 0 < v (3 * y + q) := by
      simp only [Bool.or_eq_true, Bool.and_eq_true, decide_eq_true_eq] at q
      rcases q with ((((⟨q1, q2⟩ | ⟨q1, q2⟩) | ⟨q1, q2⟩) | ⟨q1, q2⟩) | ⟨q1, q2⟩) | ⟨q1, q2⟩
      · exact ⟨0, 1, by omega, by omega, by omega, q1, q2⟩
      · exact ⟨0, 2, by omega, by omega, by omega, q1, q2⟩
      · exact ⟨1, 0, by omega, by omega, by omega, q1, q2⟩
      · exact ⟨1, 2, by omega, by omega, by omega, q1, q2⟩
      · exact ⟨2, 0, by omega, by omega, by omega, q1, q2⟩
      · exact ⟨2, 1, by omega, by omega, by omega, q1, q2⟩
    obtain ⟨p, q, hp, hq, hpq, vp, vq⟩ := res
    have inD : ∀ j, j < n → dv j = true → j = x ∨ j = y := fun j hj hdj => by
      have := (hm j).mpr ⟨hj, hdj⟩
      simp only [List.mem_cons, List.not_mem_nil, or_false] at this
      exact this
    have fx : (fun j => if j = x then p else q) x = p := if_pos rfl
    have fy : (fun j => if j = x then p else q) y = q := if_neg (fun e => hxy e.symm)
    refine ⟨fun j => if j = x then p else q, fun j hj hdj => ?_, fun j k hjk hk hdj hdk => ?_⟩
    · rcases inD j hj hdj with e | e
      · rw [e, fx]; exact ⟨hp, vp⟩
      · rw [e, fy]; exact ⟨hq, vq⟩
    · rcases inD j (by omega) hdj with e | e <;> rcases inD k hk hdk with e' | e'
      · omega
      · rw [e, e', fx, fy]; exact hpq
      · rw [e, e', fx, fy]; exact hpq.symm
      · omega
  | [x, y, z], _, hm, hn3 =>
    have hxy : x ≠ y := fun e => by
      rw [e] at hn3
      exact (List.nodup_cons.mp hn3).1 List.mem_cons_self
    have hxz : x ≠ z := fun e => by
      rw [e] at hn3
      exact (List.nodup_cons.mp hn3).1 (List.mem_cons_of_mem _ List.mem_cons_self)
    have hyz : y ≠ z := fun e => by
      rw [e] at hn3
      exact (List.nodup_cons.mp (List.nodup_cons.mp hn3).2).1 List.mem_cons_self
    obtain ⟨hx, hdx⟩ := (hm x).mp List.mem_cons_self
    obtain ⟨hy, hdy⟩ := (hm y).mp (List.mem_cons_of_mem _ List.mem_cons_self)
    obtain ⟨hz, hdz⟩ := (hm z).mp (List.mem_cons_of_mem _ (List.mem_cons_of_mem _ List.mem_cons_self))
    have bad : ∀ p q, p < 3 → q < 3 → p ≠ q → (0 < v (3 * x + p) ∧ 0 < v (3 * x + q)) → (0 < v (3 * y + p) ∧ 0 < v (3 * y + q)) → (0 < v (3 * z + p) ∧ 0 < v (3 * z + q)) → False := fun p q hp hq hpq vx vy vz => bad2 p q x y z hp hq hpq hn3 (fun s hs => by
      simp only [List.mem_cons, List.not_mem_nil, or_false] at hs
      rcases hs with e | e | e
      · rw [e]; exact ⟨hx, vx⟩
      · rw [e]; exact ⟨hy, vy⟩
      · rw [e]; exact ⟨hz, vz⟩)
    have q := three_rows _ _ _ _ _ _ _ _ _ (h2 x hx hdx) (h2 y hy hdy) (h2 z hz hdz)
    have res : ∃ p q r, p < 3 ∧ q < 3 ∧ r < 3 ∧ p ≠ q ∧ p ≠ r ∧ q ≠ r ∧ 0 < v (3 * x + p) ∧ 0 < v (3 * y + q) ∧ 0 < v (3 * z + r) := by
      simp only [Bool.or_eq_true, Bool.and_eq_true, decide_eq_true_eq] at q
      rcases q with q | q | q | q
      · rcases q with ((((⟨⟨q1, q2⟩, q3⟩ | ⟨⟨q1, q2⟩, q3⟩) | ⟨⟨q1, q2⟩, q3⟩) | ⟨⟨q1, q2⟩, q3⟩) | ⟨⟨q1, q2⟩, q3⟩) | ⟨⟨q1, q2⟩, q3⟩
        · exact ⟨0, 1, 2, by omega, by omega, by omega, by omega, by omega, by omega, q1, q2, q3⟩
        · exact ⟨0, 2, 1, by omega, by omega, by omega, by omega, by omega, by omega, q1, q2, q3⟩
        · exact ⟨1, 0, 2, by omega, by omega, by omega, by omega, by omega, by omega, q1, q2, q3⟩
        · exact ⟨1, 2, 0, by omega, by omega, by omega, by omega, by omega, by omega, q1, q2, q3⟩
        · exact ⟨2, 0, 1, by omega, by omega, by omega, by omega, by omega, by omega, q1, q2, q3⟩
        · exact ⟨2, 1, 0, by omega, by omega, by omega, by omega, by omega, by omega, q1, q2, q3⟩
      · exact (bad 0 1 (by omega) (by omega) (by omega) ⟨q.1.1.1.1.1, q.1.1.1.1.2⟩ ⟨q.1.1.1.2, q.1.1.2⟩ ⟨q.1.2, q.2⟩).elim
      · exact (bad 0 2 (by omega) (by omega) (by omega) ⟨q.1.1.1.1.1, q.1.1.1.1.2⟩ ⟨q.1.1.1.2, q.1.1.2⟩ ⟨q.1.2, q.2⟩).elim
      · exact (bad 1 2 (by omega) (by omega) (by omega) ⟨q.1.1.1.1.1, q.1.1.1.1.2⟩ ⟨q.1.1.1.2, q.1.1.2⟩ ⟨q.1.2, q.2⟩).elim
    obtain ⟨p, q, r, hp, hq, hr, hpq, hpr, hqr, vp, vq, vr⟩ := res
    have inD : ∀ j, j < n → dv j = true → j = x ∨ j = y ∨ j = z := fun j hj hdj => by
      have := (hm j).mpr ⟨hj, hdj⟩
      simp only [List.mem_cons, List.not_mem_nil, or_false] at this
      exact this
    have fx : (fun j => if j = x then p else if j = y then q else r) x = p := if_pos rfl
    have fy : (fun j => if j = x then p else if j = y then q else r) y = q := by
      show (if y = x then p else if y = y then q else r) = q
      rw [if_neg (fun e => hxy e.symm), if_pos rfl]
    have fz : (fun j => if j = x then p else if j = y then q else r) z = r := by
      show (if z = x then p else if z = y then q else r) = r
      rw [if_neg (fun e => hxz e.symm), if_neg (fun e => hyz e.symm)]
    refine ⟨fun j => if j = x then p else if j = y then q else r, fun j hj hdj => ?_, fun j k hjk hk hdj hdk => ?_⟩
    · rcases inD j hj hdj with e | e | e
      · rw [e, fx]; exact ⟨hp, vp⟩
      · rw [e, fy]; exact ⟨hq, vq⟩
      · rw [e, fz]; exact ⟨hr, vr⟩
    · rcases inD j (by omega) hdj with e | e | e <;> rcases inD k hk hdk with e' | e' | e'
      · omega
      · rw [e, e', fx, fy]; exact hpq
      · rw [e, e', fx, fz]; exact hpr
      · rw [e, e', fx, fy]; exact hpq.symm
      · omega
      · rw [e, e', fy, fz]; exact hqr
      · rw [e, e', fx, fz]; exact hpr.symm
      · rw [e, e', fy, fz]; exact hqr.symm
      · omega
  | x :: y :: z :: w :: D', _, hm, hn4 =>
    exfalso
    refine h.few (m := 3) (S := [x, y, z, w]) ?_ rfl (fun s hs => ((hm s).mp ?_).1) a b (fun s hs => ?_) (fun e => e) (fun i hi => Or.inl ⟨i, hi, rfl⟩)
    · have : List.Sublist [x, y, z, w] (x :: y :: z :: w :: D') := by
        have := List.sublist_append_left [x, y, z, w] D'
        exact this
      exact hn4.sublist this
    · have : List.Sublist [x, y, z, w] (x :: y :: z :: w :: D') := List.sublist_append_left [x, y, z, w] D'
      exact this.subset hs
    · have hsub : List.Sublist [x, y, z, w] (x :: y :: z :: w :: D') := List.sublist_append_left [x, y, z, w] D'
      obtain ⟨q1, q2⟩ := (hm s).mp (hsub.subset hs)
      obtain ⟨r1, r2, r3, r4, r5⟩ := hab s q1 q2
      refine ⟨r1, r2, r3, ?_, ?_⟩
      · show (0 : Int) < (v (3 * s + a s) : Nat)
        omega
      · show (0 : Int) < (v (3 * s + b s) : Nat)
        omega
theorem ND.rp {n : Nat} {tm : Nat → Int} {num den : Nat → Nat} (hn : n ≤ 7) (h : ND n tm num den) : RP n num den := by
  obtain ⟨T, v, d, hB, hM, hd27, hv⟩ := h
  have hd : 0 < d := by have := hM.1; omega
  have hsum : ∀ j, j < n → v (3 * j) + v (3 * j + 1) + v (3 * j + 2) = d := fun j hj => by
    have h1 : ((v (3 * j) : Nat) : Int) + (v (3 * j + 1) : Nat) + (v (3 * j + 2) : Nat) = d := hM.2.1.2.2.1 j hj
    omega
  have hle : ∀ c, c < 3 * n → v c ≤ d := fun c hc => by
    have := hsum (c / 3) (by omega)
    rcases (show c = 3 * (c / 3) ∨ c = 3 * (c / 3) + 1 ∨ c = 3 * (c / 3) + 2 by omega) with e | e | e <;> rw [e] <;> omega
  have hg : ∀ c, 0 < Nat.gcd (v c) d := fun c => Nat.gcd_pos_of_pos_right _ hd
  have heq : ∀ c, c < 3 * n → (num c = den c ↔ v c = d) := fun c hc => by
    rw [(hv c hc).1, (hv c hc).2]
    constructor
    · intro e
      have h1 := Nat.div_mul_cancel (Nat.gcd_dvd_left (v c) d)
      have h2 := Nat.div_mul_cancel (Nat.gcd_dvd_right (v c) d)
      rw [← h1, e, h2]
    · intro e; rw [e]
  have hpos : ∀ c, c < 3 * n → (0 < num c ↔ 0 < v c) := fun c hc => by rw [(hv c hc).1]; exact frac_zero hd
  have hwhole : ∀ c, c < 3 * n → (num c = den c ↔ 0 < num c ∧ den c = 1) := fun c hc => by
    rw [heq c hc, hpos c hc, (hv c hc).2]
    constructor
    · intro e
      have : 0 < v c := by omega
      exact ⟨this, (frac_whole hd this (hle c hc)).mpr e⟩
    · intro ⟨e1, e2⟩
      exact (frac_whole hd e1 (hle c hc)).mp e2
  refine ⟨hn, fun c hc => ⟨?_, ?_, hwhole c hc⟩, fun j hj i k hi hk e1 e2 => ?_, ?_⟩
  · rw [(hv c hc).1]
    have := Nat.div_le_self (v c) (Nat.gcd (v c) d)
    have := hle c hc
    omega
  · rw [(hv c hc).2]
    have := Nat.div_le_self d (Nat.gcd (v c) d)
    omega
  · have f1 := (heq _ (by omega)).mp e1
    have f2 := (heq _ (by omega)).mp e2
    have hs0 : v (3 * j + 0) + v (3 * j + 1) + v (3 * j + 2) = d := hsum j hj
    rcases (show i = 0 ∨ i = 1 ∨ i = 2 by omega) with r | r | r <;> rcases (show k = 0 ∨ k = 1 ∨ k = 2 by omega) with s | s | s <;> subst r <;> subst s <;> first | rfl | (exfalso; omega)
  · -- two shares at least
    have h2 : ∀ j, j < n → decide (wmN num den j = 3) = true → ((decide (0 < v (3 * j)) && decide (0 < v (3 * j + 1))) || (decide (0 < v (3 * j)) && decide (0 < v (3 * j + 2))) || (decide (0 < v (3 * j + 1)) && decide (0 < v (3 * j + 2)))) = true := fun j hj hw => by
      have hw' : wmN num den j = 3 := of_decide_eq_true hw
      have n0 : ¬ num (3 * j) = den (3 * j) := fun e => by unfold wmN at hw'; rw [if_pos e] at hw'; omega
      have n1 : ¬ num (3 * j + 1) = den (3 * j + 1) := fun e => by unfold wmN at hw'; rw [if_neg n0, if_pos e] at hw'; omega
      have n2 : ¬ num (3 * j + 2) = den (3 * j + 2) := fun e => by unfold wmN at hw'; rw [if_neg n0, if_neg n1, if_pos e] at hw'; omega
      have m0 : ¬ v (3 * j) = d := fun e => n0 ((heq _ (by omega)).mpr e)
      have m1 : ¬ v (3 * j + 1) = d := fun e => n1 ((heq _ (by omega)).mpr e)
      have m2 : ¬ v (3 * j + 2) = d := fun e => n2 ((heq _ (by omega)).mpr e)
      have := hsum j hj
      simp only [Bool.or_eq_true, Bool.and_eq_true, decide_eq_true_eq]
      by_cases a0 : 0 < v (3 * j) <;> by_cases a1 : 0 < v (3 * j + 1) <;> by_cases a2 : 0 < v (3 * j + 2) <;> first | (exfalso; omega) | (simp [a0, a1, a2])
    obtain ⟨g, g1, g2⟩ := match_ex (fun j => decide (wmN num den j = 3)) hM h2
    refine ⟨fun j => if wmN num den j = 3 then g j else wmN num den j, fun j hj => ?_, fun j k hjk hk ej ek => ?_⟩
    · show (if wmN num den j = 3 then g j else wmN num den j) < 3 ∧ (wmN num den j < 3 → (if wmN num den j = 3 then g j else wmN num den j) = wmN num den j) ∧ (wmN num den j = 3 → 0 < num (3 * j + (if wmN num den j = 3 then g j else wmN num den j)))
      by_cases e : wmN num den j = 3
      · rw [if_pos e]
        obtain ⟨q1, q2⟩ := g1 j hj (decide_eq_true e)
        exact ⟨q1, fun r => by omega, fun _ => (hpos _ (by omega)).mpr q2⟩
      · rw [if_neg e]
        have := wmN_le (num := num) (den := den) (j := j)
        exact ⟨by omega, fun _ => rfl, fun r => absurd r e⟩
    · show (if wmN num den j = 3 then g j else wmN num den j) ≠ (if wmN num den k = 3 then g k else wmN num den k)
      rw [if_pos ej, if_pos ek]
      exact g2 j k hjk hk (decide_eq_true ej) (decide_eq_true ek)
