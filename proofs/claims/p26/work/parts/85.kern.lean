/-! more unknowns than equations -/
theorem kern (n : Nat) : ∀ (m : Nat) (c : Nat → Nat → Int) (S : List Nat), S.Nodup → S.length = m + 1 → (∀ s, s ∈ S → s < n) → ∃ y : Nat → Int, (∃ s, s ∈ S ∧ y s ≠ 0) ∧ (∀ j, j ∉ S → y j = 0) ∧ ∀ i, i < m → sm n (fun j => c i j * y j) = 0 := by
  intro m
  induction m with
  | zero =>
    intro c S hS hl hn
    cases S with
    | nil => exact absurd hl (by decide)
    | cons s S =>
      refine ⟨fun j => if j = s then 1 else 0, ⟨s, List.mem_cons_self, by show (if s = s then (1 : Int) else 0) ≠ 0; rw [if_pos rfl]; decide⟩, fun j hj => if_neg (fun e => hj (by rw [e]; exact List.mem_cons_self)), fun i hi => absurd hi (by omega)⟩
  | succ m ih =>
    intro c S hS hl hn
    by_cases hp : ∃ p, p ∈ S ∧ c m p ≠ 0
    · obtain ⟨p, hpS, hpc⟩ := hp
      have hmem : ∀ j, j ∈ S.erase p ↔ j ≠ p ∧ j ∈ S := fun j => hS.mem_erase_iff
      obtain ⟨w, ⟨s, hs, hws⟩, hw0, hw⟩ := ih (fun i j => c i j * c m p - c i p * c m j) (S.erase p) (hS.erase p) (by rw [List.length_erase_of_mem hpS, hl]; rfl) (fun s hs => hn s ((hmem s).mp hs).2)
      have hwp : w p = 0 := hw0 p (fun q => ((hmem p).mp q).1 rfl)
      have hpn := hn p hpS
      have hrow : ∀ i, sm n (fun j => c i j * (if j = p then - sm n (fun k => c m k * w k) else c m p * w j)) = c m p * sm n (fun j => c i j * w j) - c i p * sm n (fun k => c m k * w k) := fun i => by
        have e1 : sm n (fun j => c i j * (if j = p then - sm n (fun k => c m k * w k) else c m p * w j)) = sm n (fun j => c m p * (c i j * w j) + (if j = p then - (c i p * sm n (fun k => c m k * w k)) else 0)) := sm_congr (fun j _ => by
          by_cases e : j = p
          · subst e; rw [if_pos rfl, if_pos rfl, hwp, Int.mul_zero, Int.mul_zero, Int.mul_neg, Int.zero_add]
          · rw [if_neg e, if_neg e, Int.add_zero, Int.mul_left_comm])
        rw [e1, sm_add, sm_mul, sm_one (f := fun j => if j = p then - (c i p * sm n (fun k => c m k * w k)) else 0) p hpn (fun j _ hne => if_neg hne), if_pos rfl]
        omega
      refine ⟨fun j => if j = p then - sm n (fun k => c m k * w k) else c m p * w j, ⟨s, ((hmem s).mp hs).2, ?_⟩, fun j hj => ?_, fun i hi => ?_⟩
      · show (if s = p then - sm n (fun k => c m k * w k) else c m p * w s) ≠ 0
        rw [if_neg ((hmem s).mp hs).1]
        exact Int.mul_ne_zero hpc hws
      · show (if j = p then - sm n (fun k => c m k * w k) else c m p * w j) = 0
        rw [if_neg (fun e => hj (by rw [e]; exact hpS)), hw0 j (fun q => hj ((hmem j).mp q).2), Int.mul_zero]
      · rw [hrow i]
        by_cases e : i = m
        · subst e; omega
        · have h1 := hw i (by omega)
          have e2 : sm n (fun j => (c i j * c m p - c i p * c m j) * w j) = c m p * sm n (fun j => c i j * w j) - c i p * sm n (fun k => c m k * w k) := by
            rw [← sm_mul, ← sm_mul, ← sm_sub]
            exact sm_congr (fun j _ => by rw [Int.sub_mul, Int.mul_assoc, Int.mul_assoc, Int.mul_left_comm])
          rw [← e2]; exact h1
    · cases S with
      | nil => exact absurd hl (by simp)
      | cons s0 S =>
        have hn0 := (List.nodup_cons.mp hS)
        obtain ⟨w, ⟨s, hs, hws⟩, hw0, hw⟩ := ih c S hn0.2 (by have : S.length + 1 = m + 1 + 1 := hl; omega) (fun s hs => hn s (List.mem_cons_of_mem _ hs))
        refine ⟨w, ⟨s, List.mem_cons_of_mem _ hs, hws⟩, fun j hj => hw0 j (fun q => hj (List.mem_cons_of_mem _ q)), fun i hi => ?_⟩
        by_cases e : i = m
        · subst e
          refine sm_zero (fun j _ => ?_)
          by_cases q : j ∈ s0 :: S
          · have : c i j = 0 := Classical.byContradiction (fun r => hp ⟨j, q, r⟩)
            rw [this, Int.zero_mul]
          · rw [hw0 j (fun r => q (List.mem_cons_of_mem _ r)), Int.mul_zero]
        · exact hw i (by omega)
theorem sm_ge_abs {n : Nat} {y : Nat → Int} {j : Nat} (hj : j < n) : ((y j).natAbs : Int) ≤ sm n (fun k => ((y k).natAbs : Int)) := sm_ge_one (f := fun k => ((y k).natAbs : Int)) (fun i _ => by omega) j hj
/-- jobs with two shares each cannot be more than the machines that they are on -/
theorem LM.few {n T m : Nat} {tm : Nat → Int} {v : Nat → Int} {d : Int} (h : LM n T T tm v d) {S : List Nat} (hS : S.Nodup) (hl : S.length = m + 1) (hn : ∀ s, s ∈ S → s < n) (a b : Nat → Nat) (hab : ∀ s, s ∈ S → a s < 3 ∧ b s < 3 ∧ a s ≠ b s ∧ 0 < v (3 * s + a s) ∧ 0 < v (3 * s + b s)) (mi : Nat → Nat) (hmi : ∀ i, i < 3 → (∃ e, e < m ∧ mi e = i) ∨ ∀ s, s ∈ S → a s ≠ i ∧ b s ≠ i) : False := by
  obtain ⟨hd, ⟨h0, hz, hJ, hM⟩, hmax⟩ := h
  obtain ⟨y, ⟨s, hsS, hys⟩, hy0, hy⟩ := kern n m (fun e j => tm (3 * j + mi e) * (if mi e = a j then 1 else if mi e = b j then -1 else 0)) S hS hl hn
  -- the change
  have zdef : ∃ z : Nat → Int, ∀ j i, i < 3 → z (3 * j + i) = (if i = a j then 1 else if i = b j then -1 else 0) * y j := ⟨fun c => (if c % 3 = a (c / 3) then 1 else if c % 3 = b (c / 3) then -1 else 0) * y (c / 3), fun j i hi => by
    show (if (3 * j + i) % 3 = a ((3 * j + i) / 3) then 1 else if (3 * j + i) % 3 = b ((3 * j + i) / 3) then -1 else 0) * y ((3 * j + i) / 3) = _
    rw [show (3 * j + i) % 3 = i by omega, show (3 * j + i) / 3 = j by omega]⟩
  obtain ⟨z, hz1⟩ := zdef
  have zoff : ∀ j i, i < 3 → j ∉ S → z (3 * j + i) = 0 := fun j i hi hj => by rw [hz1 j i hi, hy0 j hj, Int.mul_zero]
  have zsum : ∀ j, z (3 * j) + z (3 * j + 1) + z (3 * j + 2) = 0 := fun j => by
    by_cases hj : j ∈ S
    · obtain ⟨l1, l2, l3, -, -⟩ := hab j hj
      have e0 := hz1 j 0 (by omega)
      have e1 := hz1 j 1 (by omega)
      have e2 := hz1 j 2 (by omega)
      rw [Nat.add_zero] at e0
      rw [e0, e1, e2]
      rcases (show a j = 0 ∨ a j = 1 ∨ a j = 2 by omega) with q | q | q <;> rcases (show b j = 0 ∨ b j = 1 ∨ b j = 2 by omega) with r | r | r <;> first | (exfalso; omega) | (rw [q, r]; simp; try omega)
    · rw [show 3 * j = 3 * j + 0 from rfl, zoff j 0 (by omega) hj, zoff j 1 (by omega) hj, zoff j 2 (by omega) hj]; rfl
  have zload : ∀ i, i < 3 → sm n (fun j => tm (3 * j + i) * z (3 * j + i)) = 0 := fun i hi => by
    rcases hmi i hi with ⟨e, he, hee⟩ | hno
    · have := hy e he
      rw [hee] at this
      rw [← this]
      exact sm_congr (fun j _ => by rw [hz1 j i hi, Int.mul_assoc])
    · refine sm_zero (fun j _ => ?_)
      by_cases hj : j ∈ S
      · obtain ⟨q1, q2⟩ := hno j hj
        rw [hz1 j i hi, if_neg (fun e => q1 e.symm), if_neg (fun e => q2 e.symm), Int.zero_mul, Int.mul_zero]
      · rw [zoff j i hi hj, Int.mul_zero]
  have zv : ∀ c, c < 3 * n → z c ≠ 0 → 0 < v c := fun c hc hne => by
    have ec : c = 3 * (c / 3) + c % 3 := by omega
    have hj : c / 3 ∈ S := Classical.byContradiction (fun q => hne (by rw [ec]; exact zoff _ _ (by omega) q))
    obtain ⟨-, -, -, v1, v2⟩ := hab _ hj
    by_cases q : c % 3 = a (c / 3)
    · rw [← q, ← ec] at v1; exact v1
    · by_cases r : c % 3 = b (c / 3)
      · rw [← r, ← ec] at v2; exact v2
      · exfalso
        apply hne
        rw [ec, hz1 _ _ (by omega), if_neg q, if_neg r, Int.zero_mul]
  have zle : ∀ c, c < 3 * n → (z c).natAbs ≤ (y (c / 3)).natAbs := fun c hc => by
    have ec : c = 3 * (c / 3) + c % 3 := by omega
    have e1 := hz1 (c / 3) (c % 3) (by omega)
    rw [← ec] at e1
    rw [e1]
    split
    · rw [Int.one_mul]; exact Nat.le_refl _
    · split
      · rw [Int.neg_mul, Int.one_mul, Int.natAbs_neg]; exact Nat.le_refl _
      · rw [Int.zero_mul]; exact Nat.zero_le _
  have M0 : 0 ≤ sm n (fun k => ((y k).natAbs : Int)) := sm_nonneg (fun i _ => by omega)
  -- both ways
  have feas : ∀ g : Int, (g = 1 ∨ g = -1) → FZ n T T tm (fun c => (sm n (fun k => ((y k).natAbs : Int)) + 1) * v c + g * z c) ((sm n (fun k => ((y k).natAbs : Int)) + 1) * d) := fun g hg => by
    refine ⟨fun c hc => ?_, fun c hc ho => ?_, fun j hj => ?_, fun i hi => ?_⟩
    · show 0 ≤ (sm n (fun k => ((y k).natAbs : Int)) + 1) * v c + g * z c
      by_cases e : z c = 0
      · rw [e, Int.mul_zero, Int.add_zero]
        exact Int.mul_nonneg (by omega) (h0 c hc)
      · have h1 := zv c hc e
        have h2 := zle c hc
        have h3 := sm_ge_abs (n := n) (y := y) (j := c / 3) (by omega)
        have h4 : (sm n (fun k => ((y k).natAbs : Int)) + 1) * 1 ≤ (sm n (fun k => ((y k).natAbs : Int)) + 1) * v c := Int.mul_le_mul_of_nonneg_left (by omega) (by omega)
        rcases hg with rfl | rfl <;> omega
    · show (sm n (fun k => ((y k).natAbs : Int)) + 1) * v c + g * z c = 0
      have h1 := hz c hc ho
      have h2 : z c = 0 := Classical.byContradiction (fun e => by have := zv c hc e; omega)
      rw [h1, h2, Int.mul_zero, Int.mul_zero]; rfl
    · have h1 := hJ j hj
      have h2 := zsum j
      show (sm n (fun k => ((y k).natAbs : Int)) + 1) * v (3 * j) + g * z (3 * j) + ((sm n (fun k => ((y k).natAbs : Int)) + 1) * v (3 * j + 1) + g * z (3 * j + 1)) + ((sm n (fun k => ((y k).natAbs : Int)) + 1) * v (3 * j + 2) + g * z (3 * j + 2)) = (sm n (fun k => ((y k).natAbs : Int)) + 1) * d
      rw [← h1, Int.mul_add, Int.mul_add]
      rcases hg with rfl | rfl <;> omega
    · have h1 := hM i hi
      have h2 := zload i hi
      show sm n (fun j => tm (3 * j + i) * ((sm n (fun k => ((y k).natAbs : Int)) + 1) * v (3 * j + i) + g * z (3 * j + i))) ≤ T * ((sm n (fun k => ((y k).natAbs : Int)) + 1) * d)
      have e1 : sm n (fun j => tm (3 * j + i) * ((sm n (fun k => ((y k).natAbs : Int)) + 1) * v (3 * j + i) + g * z (3 * j + i))) = (sm n (fun k => ((y k).natAbs : Int)) + 1) * sm n (fun j => tm (3 * j + i) * v (3 * j + i)) + g * sm n (fun j => tm (3 * j + i) * z (3 * j + i)) := by
        rw [← sm_mul, ← sm_mul, ← sm_add]
        exact sm_congr (fun j _ => by rw [Int.mul_add, Int.mul_left_comm, Int.mul_left_comm (tm (3 * j + i)) g])
      rw [e1, h2, Int.mul_zero, Int.add_zero, Int.mul_left_comm]
      exact Int.mul_le_mul_of_nonneg_left h1 (by omega)
  have hpos : 0 < (sm n (fun k => ((y k).natAbs : Int)) + 1) * d := Int.mul_pos (by omega) hd
  have L1 := hmax _ _ hpos (feas 1 (Or.inl rfl))
  have L2 := hmax _ _ hpos (feas (-1) (Or.inr rfl))
  generalize hMd : sm n (fun k => ((y k).natAbs : Int)) + 1 = M at L1 L2
  have cmp : ∀ g c, ((M * v c + g * z c) * d = v c * (M * d) ↔ g * z c * d = 0) ∧ ((M * v c + g * z c) * d < v c * (M * d) ↔ g * z c * d < 0) := fun g c => by
    have e1 : (M * v c + g * z c) * d = v c * (M * d) + g * z c * d := by rw [Int.add_mul, Int.mul_left_comm (v c), Int.mul_assoc]
    rw [e1]; constructor <;> constructor <;> intro q <;> omega
  have zd : ∀ c, (z c * d = 0 ↔ z c = 0) := fun c => ⟨fun q => by
    rcases Int.mul_eq_zero.mp q with r | r
    · exact r
    · omega, fun q => by rw [q, Int.zero_mul]⟩
  have fin : ∀ i, i < 3 * n → z i = 0 := by
    rcases L1 with q1 | ⟨j, hj, q1, q2⟩
    · intro i hi
      have := ((cmp 1 i).1).mp (q1 i hi)
      rw [Int.one_mul] at this
      exact (zd i).mp this
    · exfalso
      have r1 : ∀ i, i < j → z i = 0 := fun i hi => by
        have := ((cmp 1 i).1).mp (q1 i hi)
        rw [Int.one_mul] at this
        exact (zd i).mp this
      have r2 := ((cmp 1 j).2).mp q2
      rw [Int.one_mul] at r2
      rcases L2 with p1 | ⟨k, hk, p1, p2⟩
      · have := ((cmp (-1) j).1).mp (p1 j hj)
        rw [Int.neg_mul, Int.one_mul, Int.neg_mul] at this
        omega
      · have p3 := ((cmp (-1) k).2).mp p2
        rw [Int.neg_mul, Int.one_mul, Int.neg_mul] at p3
        rcases Nat.lt_trichotomy j k with e | e | e
        · have := ((cmp (-1) j).1).mp (p1 j e)
          rw [Int.neg_mul, Int.one_mul, Int.neg_mul] at this
          omega
        · subst e; omega
        · rw [r1 k e, Int.zero_mul] at p3; omega
  have hsn := hn s hsS
  obtain ⟨l1, -, -, -, -⟩ := hab s hsS
  have h1 := fin (3 * s + a s) (by omega)
  rw [hz1 s (a s) l1, if_pos rfl, Int.one_mul] at h1
  exact hys h1
