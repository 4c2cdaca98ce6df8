/-! how many bases there can be -/
theorem pigeon {α : Type} [DecidableEq α] : ∀ (K : Nat) (L : List α) (f : Nat → α), (∀ i, i < K → f i ∈ L) → (∀ i j, i < K → j < K → f i = f j → i = j) → K ≤ L.length := by
  intro K
  induction K with
  | zero => intro L f _ _; exact Nat.zero_le _
  | succ K ih =>
    intro L f h1 h2
    have h3 := ih (L.erase (f K)) f (fun i hi => (List.mem_erase_of_ne (fun e => by have := h2 i K (by omega) (by omega) e; omega)).mpr (h1 i (by omega))) (fun i j hi hj e => h2 i j (by omega) (by omega) e)
    rw [List.length_erase_of_mem (h1 K (by omega))] at h3
    have h4 : 0 < L.length := List.length_pos_of_mem (h1 K (by omega))
    omega
/-- is the variable v in the basis -/
def bit (b : Nat → Nat) : Nat → Nat → Bool
  | 0, _ => false
  | m + 1, v => bit b m v || (b m == v)
theorem bit_iff {b : Nat → Nat} {v : Nat} : ∀ {m : Nat}, bit b m v = true ↔ ∃ s, s < m ∧ b s = v := by
  intro m
  induction m with
  | zero => exact ⟨fun h => absurd h (by unfold bit; decide), fun ⟨s, hs, _⟩ => absurd hs (by omega)⟩
  | succ m ih =>
    unfold bit
    rw [Bool.or_eq_true, ih, beq_iff_eq]
    constructor
    · rintro (⟨s, hs, e⟩ | e)
      · exact ⟨s, by omega, e⟩
      · exact ⟨m, by omega, e⟩
    · rintro ⟨s, hs, e⟩
      by_cases e2 : s = m
      · exact Or.inr (e2 ▸ e)
      · exact Or.inl ⟨s, by omega, e⟩
def allB : Nat → List (List Bool)
  | 0 => [[]]
  | n + 1 => (allB n).map (fun l => true :: l) ++ (allB n).map (fun l => false :: l)
theorem allB_length : ∀ n, (allB n).length = 2 ^ n
  | 0 => rfl
  | n + 1 => by
    show ((allB n).map (fun l => true :: l) ++ (allB n).map (fun l => false :: l)).length = 2 ^ (n + 1)
    rw [List.length_append, List.length_map, List.length_map, allB_length n, Nat.pow_succ]; omega
theorem allB_mem : ∀ (n : Nat) (l : List Bool), l.length = n → l ∈ allB n
  | 0, l, h => by
    rw [List.eq_nil_of_length_eq_zero h]
    exact List.mem_singleton.mpr rfl
  | n + 1, [], h => by simp at h
  | n + 1, true :: l, h => List.mem_append.mpr (Or.inl (List.mem_map.mpr ⟨l, allB_mem n l (by simpa using h), rfl⟩))
  | n + 1, false :: l, h => List.mem_append.mpr (Or.inr (List.mem_map.mpr ⟨l, allB_mem n l (by simpa using h), rfl⟩))
theorem bits_same {b b' : Nat → Nat} {m : Nat} {l : List Nat} (hb : ∀ s, s < m → b s ∈ l) (hb' : ∀ s, s < m → b' s ∈ l) (e : l.map (bit b m) = l.map (bit b' m)) (v : Nat) : (∃ s, s < m ∧ b s = v) ↔ (∃ s, s < m ∧ b' s = v) := by
  have h := List.map_inj_left.mp e
  constructor
  · rintro ⟨s, hs, rfl⟩
    have h1 := h _ (hb s hs)
    rw [bit_iff.mpr ⟨s, hs, rfl⟩] at h1
    exact bit_iff.mp h1.symm
  · rintro ⟨s, hs, rfl⟩
    have h1 := h _ (hb' s hs)
    rw [bit_iff.mpr ⟨s, hs, rfl⟩] at h1
    exact bit_iff.mp h1
/-- any run is short of all sets of variables -/
theorem Hist.few {m N : Nat} {A : Nat → Nat → Int} {κ : Nat → Nat} {al : Nat → Prop} {g : Nat} {e : Int} {K : Nat} {Ts : Nat → Nat → Nat → Int} {bs : Nat → Nat → Nat} {ds : Nat → Int} {ρs ls cs : Nat → Nat}
    (hκ : ∀ u v, u < N → v < N → κ u = κ v → u = v) (he : e = 1 ∨ e = -1) (H : Hist m N A κ al g e K Ts bs ds ρs ls cs) : K + 1 ≤ 2 ^ N := by
  rw [← allB_length N]
  refine pigeon (K + 1) (allB N) (fun i => (List.range N).map (bit (bs i) m)) (fun i _ => allB_mem N _ (by simp)) (fun i j hi hj e1 => ?_)
  apply Classical.byContradiction
  intro hne
  have hr : ∀ i, i ≤ K → ∀ s, s < m → bs i s ∈ List.range N := fun i hi s hs => List.mem_range.mpr ((H.tb hi).lt hs)
  have h1 := bits_same (hr i (by omega)) (hr j (by omega)) e1
  rcases Nat.lt_or_gt_of_ne hne with h | h
  · exact H.norep hκ he h (by omega) h1
  · exact H.norep hκ he h (by omega) (fun v => (h1 v).symm)
/-- the variables of j jobs from a first one on, and 21 to 24 -/
def vls : Nat → Nat → List Nat
  | 0, _ => [21, 22, 23, 24]
  | j + 1, base => [3 * base, 3 * base + 1, 3 * base + 2] ++ vls j (base + 1)
def en : Nat → Nat → List (List Bool)
  | 0, k => (allB 4).filter (fun l => decide (l.count true ≤ k))
  | j + 1, k => (allB 3).flatMap (fun p => if 1 ≤ p.count true ∧ p.count true ≤ k + 1 then (en j (k + 1 - p.count true)).map (fun q => p ++ q) else [])
theorem en_ge {B : Nat → Bool} : ∀ (j base : Nat), (∀ i, i < j → B (3 * (base + i)) = true ∨ B (3 * (base + i) + 1) = true ∨ B (3 * (base + i) + 2) = true) → j ≤ ((vls j base).map B).count true := by
  intro j
  induction j with
  | zero => intro base _; exact Nat.zero_le _
  | succ j ih =>
    intro base hg
    have e1 : (vls (j + 1) base).map B = [B (3 * base), B (3 * base + 1), B (3 * base + 2)] ++ (vls j (base + 1)).map B := rfl
    rw [e1, List.count_append]
    have hp : 1 ≤ [B (3 * base), B (3 * base + 1), B (3 * base + 2)].count true := by
      have q0 := hg 0 (by omega)
      rw [Nat.add_zero] at q0
      refine List.count_pos_iff.mpr ?_
      rcases q0 with q | q | q <;> simp [q]
    have h := ih (base + 1) (fun i hi => by
      have := hg (i + 1) (by omega)
      rw [show base + 1 + i = base + (i + 1) by omega]; exact this)
    omega
theorem en_mem {B : Nat → Bool} : ∀ (j base k : Nat), (∀ i, i < j → B (3 * (base + i)) = true ∨ B (3 * (base + i) + 1) = true ∨ B (3 * (base + i) + 2) = true) → ((vls j base).map B).count true ≤ j + k → (vls j base).map B ∈ en j k := by
  intro j
  induction j with
  | zero =>
    intro base k _ h
    refine List.mem_filter.mpr ⟨allB_mem 4 _ rfl, ?_⟩
    rw [Nat.zero_add] at h
    exact decide_eq_true h
  | succ j ih =>
    intro base k hg h
    have e1 : (vls (j + 1) base).map B = [B (3 * base), B (3 * base + 1), B (3 * base + 2)] ++ (vls j (base + 1)).map B := rfl
    rw [e1, List.count_append] at h
    rw [e1]
    have hp : 1 ≤ [B (3 * base), B (3 * base + 1), B (3 * base + 2)].count true := by
      have q0 := hg 0 (by omega)
      rw [Nat.add_zero] at q0
      refine List.count_pos_iff.mpr ?_
      rcases q0 with q | q | q <;> simp [q]
    have hg' : ∀ i, i < j → B (3 * (base + 1 + i)) = true ∨ B (3 * (base + 1 + i) + 1) = true ∨ B (3 * (base + 1 + i) + 2) = true := fun i hi => by
      have := hg (i + 1) (by omega)
      rw [show base + 1 + i = base + (i + 1) by omega]; exact this
    have hj := en_ge j (base + 1) hg'
    have hl : [B (3 * base), B (3 * base + 1), B (3 * base + 2)] ∈ allB 3 := allB_mem 3 _ rfl
    generalize [B (3 * base), B (3 * base + 1), B (3 * base + 2)] = p at hp hl h ⊢
    refine List.mem_flatMap.mpr ⟨p, hl, ?_⟩
    rw [if_pos ⟨hp, by omega⟩]
    exact List.mem_map.mpr ⟨_, ih (base + 1) (k + 1 - p.count true) hg' (by omega), rfl⟩
/-- how long these lists are -/
theorem en_len (j k : Nat) : (en (j + 1) k).length = ((allB 3).map (fun p => if 1 ≤ p.count true ∧ p.count true ≤ k + 1 then (en j (k + 1 - p.count true)).length else 0)).sum := by
  show ((allB 3).flatMap _).length = _
  rw [List.length_flatMap]
  congr 1
  refine List.map_congr_left (fun p _ => ?_)
  split
  · rw [List.length_map]
  · rfl
theorem en_00 : (en 0 0).length = 1 := by decide
theorem en_01 : (en 0 1).length = 5 := by decide
theorem en_02 : (en 0 2).length = 11 := by decide
theorem en_03 : (en 0 3).length = 15 := by decide
theorem en_s0 (j : Nat) : (en (j + 1) 0).length = 3 * (en j 0).length := by
  rw [en_len]
  simp [allB]
  omega
theorem en_s1 (j : Nat) : (en (j + 1) 1).length = 3 * (en j 1).length + 3 * (en j 0).length := by
  rw [en_len]
  simp [allB]
  omega
theorem en_s2 (j : Nat) : (en (j + 1) 2).length = 3 * (en j 2).length + 3 * (en j 1).length + (en j 0).length := by
  rw [en_len]
  simp [allB]
  omega
theorem en_s3 (j : Nat) : (en (j + 1) 3).length = 3 * (en j 3).length + 3 * (en j 2).length + (en j 1).length := by
  rw [en_len]
  simp [allB]
  omega
theorem en_10 : (en 1 0).length = 3 := by rw [en_s0, en_00]
theorem en_11 : (en 1 1).length = 18 := by rw [en_s1, en_01, en_00]
theorem en_12 : (en 1 2).length = 49 := by rw [en_s2, en_02, en_01, en_00]
theorem en_13 : (en 1 3).length = 83 := by rw [en_s3, en_03, en_02, en_01]
theorem en_20 : (en 2 0).length = 9 := by rw [en_s0, en_10]
theorem en_21 : (en 2 1).length = 63 := by rw [en_s1, en_11, en_10]
theorem en_22 : (en 2 2).length = 204 := by rw [en_s2, en_12, en_11, en_10]
theorem en_23 : (en 2 3).length = 414 := by rw [en_s3, en_13, en_12, en_11]
theorem en_30 : (en 3 0).length = 27 := by rw [en_s0, en_20]
theorem en_31 : (en 3 1).length = 216 := by rw [en_s1, en_21, en_20]
theorem en_32 : (en 3 2).length = 810 := by rw [en_s2, en_22, en_21, en_20]
theorem en_33 : (en 3 3).length = 1917 := by rw [en_s3, en_23, en_22, en_21]
theorem en_40 : (en 4 0).length = 81 := by rw [en_s0, en_30]
theorem en_41 : (en 4 1).length = 729 := by rw [en_s1, en_31, en_30]
theorem en_42 : (en 4 2).length = 3105 := by rw [en_s2, en_32, en_31, en_30]
theorem en_43 : (en 4 3).length = 8397 := by rw [en_s3, en_33, en_32, en_31]
theorem en_50 : (en 5 0).length = 243 := by rw [en_s0, en_40]
theorem en_51 : (en 5 1).length = 2430 := by rw [en_s1, en_41, en_40]
theorem en_52 : (en 5 2).length = 11583 := by rw [en_s2, en_42, en_41, en_40]
theorem en_53 : (en 5 3).length = 35235 := by rw [en_s3, en_43, en_42, en_41]
theorem en_60 : (en 6 0).length = 729 := by rw [en_s0, en_50]
theorem en_61 : (en 6 1).length = 8019 := by rw [en_s1, en_51, en_50]
theorem en_62 : (en 6 2).length = 42282 := by rw [en_s2, en_52, en_51, en_50]
theorem en_63 : (en 6 3).length = 142884 := by rw [en_s3, en_53, en_52, en_51]
theorem en_70 : (en 7 0).length = 2187 := by rw [en_s0, en_60]
theorem en_71 : (en 7 1).length = 26244 := by rw [en_s1, en_61, en_60]
theorem en_72 : (en 7 2).length = 151632 := by rw [en_s2, en_62, en_61, en_60]
theorem en_73 : (en 7 3).length = 563517 := by rw [en_s3, en_63, en_62, en_61]
theorem en_le : ∀ n, n ≤ 7 → (en n 3).length ≤ 563517
  | 0, _ => by rw [en_03]; decide
  | 1, _ => by rw [en_13]; decide
  | 2, _ => by rw [en_23]; decide
  | 3, _ => by rw [en_33]; decide
  | 4, _ => by rw [en_43]; decide
  | 5, _ => by rw [en_53]; decide
  | 6, _ => by rw [en_63]; decide
  | 7, _ => by rw [en_73]; decide
  | n + 8, h => absurd h (by omega)
theorem countP_or {α : Type} (p q : α → Bool) (l : List α) : l.countP (fun v => p v || q v) ≤ l.countP p + l.countP q := by
  induction l with
  | nil => exact Nat.le_refl 0
  | cons a l ih =>
    rw [List.countP_cons, List.countP_cons, List.countP_cons]
    cases p a <;> cases q a <;> simp <;> omega
theorem bit_count {b : Nat → Nat} {l : List Nat} (hl : l.Nodup) : ∀ m, (l.map (bit b m)).count true ≤ m := by
  intro m
  rw [List.count_eq_countP, List.countP_map]
  induction m with
  | zero =>
    refine Nat.le_of_eq (List.countP_eq_zero.mpr (fun a _ => ?_))
    simp [bit]
  | succ m ih =>
    have h1 := countP_or (bit b m) (fun v => b m == v) l
    have h2 : l.countP (fun v => b m == v) ≤ 1 := by
      have h3 := List.nodup_iff_count.mp hl (b m)
      rw [List.count_eq_countP] at h3
      refine Nat.le_trans (Nat.le_of_eq ?_) h3
      congr 1
      funext v
      exact Bool.beq_comm
    have h4 : l.countP ((fun x => x == true) ∘ bit b (m + 1)) = l.countP (fun v => bit b m v || (b m == v)) := by
      congr 1
      funext v
      simp [bit]
    have h5 : l.countP ((fun x => x == true) ∘ bit b m) = l.countP (bit b m) := by
      congr 1
      funext v
      simp
    rw [h5] at ih
    omega
theorem vls_nodup : ∀ n, n ≤ 7 → (vls n 0).Nodup
  | 0, _ => by decide
  | 1, _ => by decide
  | 2, _ => by decide
  | 3, _ => by decide
  | 4, _ => by decide
  | 5, _ => by decide
  | 6, _ => by decide
  | 7, _ => by decide
  | n + 8, h => absurd h (by omega)
/-- a run over the tables of n jobs is short of a million -/
theorem Hist.few_jobs {n N : Nat} {A : Nat → Nat → Int} {κ : Nat → Nat} {al : Nat → Prop} {g : Nat} {e : Int} {K : Nat} {Ts : Nat → Nat → Nat → Int} {bs : Nat → Nat → Nat} {ds : Nat → Int} {ρs ls cs : Nat → Nat} (hn : n ≤ 7)
    (hκ : ∀ u v, u < N → v < N → κ u = κ v → u = v) (he : e = 1 ∨ e = -1) (H : Hist (n + 3) N A κ al g e K Ts bs ds ρs ls cs)
    (hv : ∀ i, i ≤ K → ∀ s, s < n + 3 → bs i s ∈ vls n 0) (hj : ∀ i, i ≤ K → ∀ j, j < n → ∃ s, s < n + 3 ∧ (bs i s = 3 * j ∨ bs i s = 3 * j + 1 ∨ bs i s = 3 * j + 2)) : K + 1 ≤ 563517 := by
  refine Nat.le_trans (pigeon (K + 1) (en n 3) (fun i => (vls n 0).map (bit (bs i) (n + 3))) (fun i hi => en_mem n 0 3 (fun j hjn => ?_) (bit_count (vls_nodup n hn) (n + 3))) (fun i j hi hj e1 => ?_)) (en_le n hn)
  · rw [Nat.zero_add]
    obtain ⟨s, hs, q | q | q⟩ := hj i (by omega) j hjn
    · exact Or.inl (bit_iff.mpr ⟨s, hs, q⟩)
    · exact Or.inr (Or.inl (bit_iff.mpr ⟨s, hs, q⟩))
    · exact Or.inr (Or.inr (bit_iff.mpr ⟨s, hs, q⟩))
  · apply Classical.byContradiction
    intro hne
    have h1 := bits_same (hv i (by omega)) (hv j (by omega)) e1
    rcases Nat.lt_or_gt_of_ne hne with h | h
    · exact H.norep hκ he h (by omega) h1
    · exact H.norep hκ he h (by omega) (fun v => (h1 v).symm)
