/-! the steps of a run by Bland's rule never come back to a basis -/
theorem cross_le {a b c d e f : Int} (hb : 0 < b) (hd : 0 < d) (hf : 0 < f) (h1 : a * d ≤ c * b) (h2 : c * f ≤ e * d) : a * f ≤ e * b := by
  have h3 : (a * d) * f ≤ (c * b) * f := Int.mul_le_mul_of_nonneg_right h1 (by omega)
  have h4 : (c * f) * b ≤ (e * d) * b := Int.mul_le_mul_of_nonneg_right h2 (by omega)
  have e1 : (a * d) * f = d * (a * f) := by rw [Int.mul_comm a d, Int.mul_assoc]
  have e2 : (c * b) * f = (c * f) * b := by rw [Int.mul_assoc, Int.mul_comm b f, Int.mul_assoc]
  have e3 : (e * d) * b = d * (e * b) := by rw [Int.mul_comm e d, Int.mul_assoc]
  rw [e1, e2] at h3
  rw [e3] at h4
  exact Int.le_of_mul_le_mul_left (Int.le_trans h3 h4) hd
theorem cross_lt {a b c d e f : Int} (hb : 0 < b) (hd : 0 < d) (hf : 0 < f) (h1 : a * d < c * b) (h2 : c * f ≤ e * d) : a * f < e * b := by
  have h3 : (a * d) * f < (c * b) * f := Int.mul_lt_mul_of_pos_right h1 hf
  have h4 : (c * f) * b ≤ (e * d) * b := Int.mul_le_mul_of_nonneg_right h2 (by omega)
  have e1 : (a * d) * f = d * (a * f) := by rw [Int.mul_comm a d, Int.mul_assoc]
  have e2 : (c * b) * f = (c * f) * b := by rw [Int.mul_assoc, Int.mul_comm b f, Int.mul_assoc]
  have e3 : (e * d) * b = d * (e * b) := by rw [Int.mul_comm e d, Int.mul_assoc]
  rw [e1, e2] at h3
  rw [e3] at h4
  exact Int.lt_of_mul_lt_mul_left (Int.lt_of_lt_of_le h3 h4) (by omega)
theorem cross_lt2 {a b c d e f : Int} (hb : 0 < b) (hd : 0 < d) (hf : 0 < f) (h1 : a * d ≤ c * b) (h2 : c * f < e * d) : a * f < e * b := by
  have h3 : (a * d) * f ≤ (c * b) * f := Int.mul_le_mul_of_nonneg_right h1 (by omega)
  have h4 : (c * f) * b < (e * d) * b := Int.mul_lt_mul_of_pos_right h2 hb
  have e1 : (a * d) * f = d * (a * f) := by rw [Int.mul_comm a d, Int.mul_assoc]
  have e2 : (c * b) * f = (c * f) * b := by rw [Int.mul_assoc, Int.mul_comm b f, Int.mul_assoc]
  have e3 : (e * d) * b = d * (e * b) := by rw [Int.mul_comm e d, Int.mul_assoc]
  rw [e1, e2] at h3
  rw [e3] at h4
  exact Int.lt_of_mul_lt_mul_left (Int.lt_of_le_of_lt h3 h4) (by omega)
theorem cross_eq {a b c d e f : Int} (hd : d ≠ 0) (h1 : a * d = c * b) (h2 : c * f = e * d) : a * f = e * b := by
  have e1 : d * (a * f) = d * (e * b) := by
    rw [← Int.mul_assoc, Int.mul_comm d a, h1, Int.mul_assoc, Int.mul_comm b f, ← Int.mul_assoc, h2, ← Int.mul_assoc, Int.mul_comm d e]
  exact Int.eq_of_mul_eq_mul_left hd e1
def Feas (m N : Nat) (T : Nat → Nat → Int) : Prop := ∀ r, r < m → 0 ≤ T r N
theorem Piv.feas {m N : Nat} {A T T' : Nat → Nat → Int} {b b' : Nat → Nat} {d d' : Int} {l c : Nat} (h : Tb m N A T b d) (hf : Feas m N T) (hl : l < m) (hp : 0 < T l c) (hr : ∀ r, r < m → 0 < T r c → T l N * T r c ≤ T r N * T l c) (hv : Piv m N T T' b b' d d' l c) : Feas m N T' := by
  intro r hrm
  obtain ⟨-, -, hT1, hT2⟩ := hv
  by_cases e : r = l
  · subst e; rw [hT1 N (Nat.le_refl N)]; exact hf r hrm
  · have h1 := hT2 r N hrm e (Nat.le_refl N)
    have h2 : 0 ≤ T' r N * d := by
      rw [h1]
      by_cases hpos : 0 < T r c
      · have h3 := hr r hrm hpos
        rw [Int.mul_comm (T r c)]; omega
      · have h3 : 0 ≤ T r N * T l c := Int.mul_nonneg (hf r hrm) (by omega)
        have h4 : T r c * T l N ≤ 0 := Int.mul_nonpos_of_nonpos_of_nonneg (by omega) (hf l hl)
        omega
    apply Classical.byContradiction
    intro hn
    have h3 : T' r N * d < 0 := Int.mul_neg_of_neg_of_pos (by omega) h.pos
    omega
/-- the value of a variable in the basic solution, times the divisor -/
def vl (m N : Nat) (T : Nat → Nat → Int) (b : Nat → Nat) (v : Nat) : Int := sm m (fun s => if v = b s then T s N else 0)
theorem vl_b {m N : Nat} {A T : Nat → Nat → Int} {b : Nat → Nat} {d : Int} (h : Tb m N A T b d) {s : Nat} (hs : s < m) : vl m N T b (b s) = T s N := by
  unfold vl
  rw [sm_one s hs (fun i hi hne => if_neg (fun e => hne (h.inj hi hs e.symm))), if_pos rfl]
theorem vl_off {m N : Nat} {T : Nat → Nat → Int} {b : Nat → Nat} {v : Nat} (hb : ∀ s, s < m → b s ≠ v) : vl m N T b v = 0 := by
  unfold vl
  exact sm_zero (fun s hs => if_neg (fun e => hb s hs e.symm))
/-- one step by the rule: ρ the row of the variable g that is raised (e = 1) or lowered (e = -1), column c comes in, row l leaves -/
def BSt (m N : Nat) (κ : Nat → Nat) (al : Nat → Prop) (g : Nat) (e : Int) (T : Nat → Nat → Int) (b : Nat → Nat) (d : Int) (T' : Nat → Nat → Int) (b' : Nat → Nat) (d' : Int) (ρ l c : Nat) : Prop :=
  ρ < m ∧ b ρ = g ∧ l < m ∧ l ≠ ρ ∧ c < N ∧ al c ∧ (∀ s, s < m → b s ≠ c) ∧ e * T ρ c < 0 ∧
  (∀ k, k < N → al k → (∀ s, s < m → b s ≠ k) → e * T ρ k < 0 → κ c ≤ κ k) ∧ 0 < T l c ∧
  (∀ r, r < m → 0 < T r c → T l N * T r c < T r N * T l c ∨ (T l N * T r c = T r N * T l c ∧ κ (b l) ≤ κ (b r))) ∧ Piv m N T T' b b' d d' l c
section
variable {m N : Nat} {A T T' : Nat → Nat → Int} {b b' : Nat → Nat} {d d' : Int} {l c ρ g : Nat} {e : Int} {κ : Nat → Nat} {al : Nat → Prop}
theorem BSt.same (h : Tb m N A T b d) (h' : Tb m N A T' b' d') (hs : BSt m N κ al g e T b d T' b' d' ρ l c) (h0 : T l N = 0) (v : Nat) : vl m N T' b' v * d = vl m N T b v * d' := by
  obtain ⟨hρ, hg, hl, hlρ, hc, hal, hnb, hen, hmin, hp, hrat, hd', hb', hT1, hT2⟩ := hs
  by_cases hv : ∃ s, s < m ∧ s ≠ l ∧ b s = v
  · obtain ⟨s, hs, hn, rfl⟩ := hv
    have e1 : b' s = b s := by rw [hb' s hs, if_neg hn]
    rw [vl_b h hs, ← e1, vl_b h' hs, hT2 s N hs hn (Nat.le_refl N), h0, hd']
    omega
  · have h2 : vl m N T' b' v = 0 := by
      by_cases hvc : v = c
      · have e1 : b' l = v := by rw [hb' l hl, if_pos rfl, hvc]
        rw [← e1, vl_b h' hl, hT1 N (Nat.le_refl N), h0]
      · refine vl_off (fun s hs e1 => ?_)
        by_cases hn : s = l
        · subst hn; rw [hb' s hs, if_pos rfl] at e1; exact hvc e1.symm
        · rw [hb' s hs, if_neg hn] at e1; exact hv ⟨s, hs, hn, e1⟩
    have h3 : vl m N T b v = 0 := by
      by_cases hvl : b l = v
      · rw [← hvl, vl_b h hl, h0]
      · refine vl_off (fun s hs e1 => ?_)
        by_cases hn : s = l
        · subst hn; exact hvl e1
        · exact hv ⟨s, hs, hn, e1⟩
    rw [h2, h3, Int.zero_mul, Int.zero_mul]
theorem BSt.keeps_g (hs : BSt m N κ al g e T b d T' b' d' ρ l c) : b' ρ = g := by
  obtain ⟨hρ, hg, hl, hlρ, hc, hal, hnb, hen, hmin, hp, hrat, hd', hb', hT1, hT2⟩ := hs
  rw [hb' ρ hρ, if_neg (Ne.symm hlρ)]; exact hg
theorem BSt.goal (h : Tb m N A T b d) (h' : Tb m N A T' b' d') (hs : BSt m N κ al g e T b d T' b' d' ρ l c) : (e * vl m N T' b' g) * d = (e * vl m N T b g) * d' + (- (e * T ρ c)) * T l N := by
  have hk := hs.keeps_g
  obtain ⟨hρ, hg, hl, hlρ, hc, hal, hnb, hen, hmin, hp, hrat, hd', hb', hT1, hT2⟩ := hs
  have e1 : vl m N T b g = T ρ N := by rw [← hg]; exact vl_b h hρ
  have e2 : vl m N T' b' g = T' ρ N := by rw [← hk]; exact vl_b h' hρ
  rw [e1, e2, Int.mul_assoc, hT2 ρ N hρ (Ne.symm hlρ) (Nat.le_refl N), hd', Int.mul_sub, Int.neg_mul, Int.mul_assoc, Int.mul_assoc]
  omega
end
/-- a run of K steps -/
def Hist (m N : Nat) (A : Nat → Nat → Int) (κ : Nat → Nat) (al : Nat → Prop) (g : Nat) (e : Int) (K : Nat) (Ts : Nat → Nat → Nat → Int) (bs : Nat → Nat → Nat) (ds : Nat → Int) (ρs ls cs : Nat → Nat) : Prop :=
  (∀ i, i ≤ K → Tb m N A (Ts i) (bs i) (ds i) ∧ Feas m N (Ts i)) ∧ (∀ i, i < K → BSt m N κ al g e (Ts i) (bs i) (ds i) (Ts (i + 1)) (bs (i + 1)) (ds (i + 1)) (ρs i) (ls i) (cs i))
section
variable {m N : Nat} {A : Nat → Nat → Int} {κ : Nat → Nat} {al : Nat → Prop} {g : Nat} {e : Int} {K : Nat} {Ts : Nat → Nat → Nat → Int} {bs : Nat → Nat → Nat} {ds : Nat → Int} {ρs ls cs : Nat → Nat}
theorem Hist.tb (H : Hist m N A κ al g e K Ts bs ds ρs ls cs) {i : Nat} (hi : i ≤ K) : Tb m N A (Ts i) (bs i) (ds i) := (H.1 i hi).1
theorem Hist.le (H : Hist m N A κ al g e K Ts bs ds ρs ls cs) (i : Nat) : ∀ k, i + k ≤ K → (e * vl m N (Ts i) (bs i) g) * ds (i + k) ≤ (e * vl m N (Ts (i + k)) (bs (i + k)) g) * ds i := by
  intro k
  induction k with
  | zero => intro _; exact Int.le_refl _
  | succ k ih =>
    intro hk
    have h1 := ih (by omega)
    have hs := H.2 (i + k) (by omega)
    have h2 := hs.goal (H.tb (by omega)) (H.tb (by omega))
    have h3 : 0 ≤ (- (e * Ts (i + k) (ρs (i + k)) (cs (i + k)))) * Ts (i + k) (ls (i + k)) N := by
      obtain ⟨hρ, hg, hl, hlρ, hc, hal, hnb, hen, -⟩ := hs
      exact Int.mul_nonneg (by omega) ((H.1 (i + k) (by omega)).2 _ hl)
    have h4 : (e * vl m N (Ts (i + k)) (bs (i + k)) g) * ds (i + k + 1) ≤ (e * vl m N (Ts (i + k + 1)) (bs (i + k + 1)) g) * ds (i + k) := by omega
    exact cross_le (H.tb (by omega)).pos (H.tb (by omega)).pos (H.tb (by omega)).pos h1 h4
theorem Hist.same_val (H : Hist m N A κ al g e K Ts bs ds ρs ls cs) {i : Nat} : ∀ k, i + k ≤ K → (∀ a, i ≤ a → a < i + k → Ts a (ls a) N = 0) → ∀ v, vl m N (Ts (i + k)) (bs (i + k)) v * ds i = vl m N (Ts i) (bs i) v * ds (i + k) := by
  intro k
  induction k with
  | zero => intro _ _ v; rfl
  | succ k ih =>
    intro hk h0 v
    have h1 := ih (by omega) (fun a h1 h2 => h0 a h1 (by omega)) v
    have h2 := (H.2 (i + k) (by omega)).same (H.tb (by omega)) (H.tb (by omega)) (h0 (i + k) (by omega) (by omega)) v
    have hd : ds (i + k) ≠ 0 := by have := (H.tb (i := i + k) (by omega)).pos; omega
    exact cross_eq hd h2 h1
/-- with the same basis the value of g is the same -/
theorem Hist.obj_same (H : Hist m N A κ al g e K Ts bs ds ρs ls cs) {i j ri rj : Nat} (hi : i ≤ K) (hj : j ≤ K) (hri : ri < m) (hrj : rj < m) (hgi : bs i ri = g) (hgj : bs j rj = g) (hsame : ∀ v, (∃ s, s < m ∧ bs i s = v) → (∃ s, s < m ∧ bs j s = v)) : vl m N (Ts j) (bs j) g * ds i = vl m N (Ts i) (bs i) g * ds j := by
  have hti := H.tb hi
  have htj := H.tb hj
  have h1 : solT m N (Ts j) (dirv m (Ts i) (bs i) (ds i) N) := (htj.sols _).mp ((hti.sols _).mpr (dirv_sol hti (Nat.le_refl N)))
  have h2 := h1 rj hrj
  rw [dirv_sum hti (Nat.le_refl N), sm_one ri hri] at h2
  · have e1 : vl m N (Ts j) (bs j) g = Ts j rj N := by rw [← hgj]; exact vl_b htj hrj
    have e2 : vl m N (Ts i) (bs i) g = Ts i ri N := by rw [← hgi]; exact vl_b hti hri
    rw [hgi, ← hgj, htj.diag hrj] at h2
    rw [e1, e2]
    omega
  · intro s hs hne
    obtain ⟨s', hs', e'⟩ := hsame (bs i s) ⟨s, hs, rfl⟩
    rw [← e', htj.off hrj hs', Int.mul_zero]
    intro e2
    apply hne
    apply hti.inj hs hri
    rw [← e', ← e2, hgj, hgi]
theorem change_up {P : Nat → Prop} {u : Nat} : ∀ k, ¬ P u → P (u + k) → ∃ a, u ≤ a ∧ a < u + k ∧ ¬ P a ∧ P (a + 1) := by
  intro k
  induction k with
  | zero => intro h1 h2; exact absurd h2 h1
  | succ k ih =>
    intro h1 h2
    by_cases h : P (u + k)
    · obtain ⟨a, ha, hb, hc⟩ := ih h1 h
      exact ⟨a, ha, by omega, hc⟩
    · exact ⟨u + k, by omega, by omega, h, h2⟩
theorem most {P : Nat → Prop} {κ : Nat → Nat} : ∀ N, (∃ v, v < N ∧ P v) → ∃ v, v < N ∧ P v ∧ ∀ u, u < N → P u → κ u ≤ κ v := by
  intro N
  induction N with
  | zero => rintro ⟨v, hv, -⟩; omega
  | succ N ih =>
    rintro ⟨v, hv, hP⟩
    by_cases h : ∃ v, v < N ∧ P v
    · obtain ⟨w, hw, hPw, hm⟩ := ih h
      by_cases hN : P N ∧ κ w < κ N
      · refine ⟨N, by omega, hN.1, fun u hu hPu => ?_⟩
        by_cases e : u = N
        · subst e; exact Nat.le_refl _
        · exact Nat.le_trans (hm u (by omega) hPu) (Nat.le_of_lt hN.2)
      · refine ⟨w, by omega, hPw, fun u hu hPu => ?_⟩
        by_cases e : u = N
        · subst e
          apply Classical.byContradiction
          intro h3
          exact hN ⟨hPu, by omega⟩
        · exact hm u (by omega) hPu
    · have hv' : v = N := by
        apply Classical.byContradiction
        intro hne
        exact h ⟨v, by omega, hP⟩
      subst hv'
      refine ⟨v, by omega, hP, fun u hu hPu => ?_⟩
      by_cases e : u = v
      · subst e; exact Nat.le_refl _
      · exact absurd ⟨u, by omega, hPu⟩ h
theorem Hist.norep (hκ : ∀ u v, u < N → v < N → κ u = κ v → u = v) (he : e = 1 ∨ e = -1) (H : Hist m N A κ al g e K Ts bs ds ρs ls cs) {i j : Nat} (hij : i < j) (hj : j ≤ K) (hsame : ∀ v, (∃ s, s < m ∧ bs i s = v) ↔ (∃ s, s < m ∧ bs j s = v)) : False := by
  have he0 : e ≠ 0 := by rcases he with h | h <;> omega
  -- g stands in the basis all along
  have hgb : ∀ k, k ≤ K → (0 < K) → ∃ r, r < m ∧ bs k r = g := fun k hk hK => by
    by_cases hkK : k < K
    · obtain ⟨hρ, hg, -⟩ := H.2 k hkK
      exact ⟨ρs k, hρ, hg⟩
    · have hs := H.2 (k - 1) (by omega)
      have h1 := hs.keeps_g
      rw [show k - 1 + 1 = k by omega] at h1
      exact ⟨ρs (k - 1), hs.1, h1⟩
  obtain ⟨ri, hri, hgi⟩ := hgb i (by omega) (by omega)
  obtain ⟨rj, hrj, hgj⟩ := hgb j hj (by omega)
  have hobj := H.obj_same (i := i) (j := j) (by omega) hj hri hrj hgi hgj (fun v => (hsame v).mp)
  have hobjE : (e * vl m N (Ts j) (bs j) g) * ds i = (e * vl m N (Ts i) (bs i) g) * ds j := by rw [Int.mul_assoc, hobj, ← Int.mul_assoc]
  have hpos : ∀ k, k ≤ K → 0 < ds k := fun k hk => (H.tb hk).pos
  -- every step in between is degenerate
  have hdeg : ∀ a, i ≤ a → a < j → Ts a (ls a) N = 0 := fun a h1 h2 => by
    apply Classical.byContradiction
    intro hne
    have hs := H.2 a (by omega)
    have hgl := hs.goal (H.tb (by omega)) (H.tb (by omega))
    have hst : (e * vl m N (Ts a) (bs a) g) * ds (a + 1) < (e * vl m N (Ts (a + 1)) (bs (a + 1)) g) * ds a := by
      have h3 : 0 < (- (e * Ts a (ρs a) (cs a))) * Ts a (ls a) N := by
        obtain ⟨hρ, hg, hl, hlρ, hc, hal, hnb, hen, -⟩ := hs
        have h4 := (H.1 a (by omega)).2 _ hl
        exact Int.mul_pos (by omega) (by omega)
      omega
    have hle1 := H.le i (a - i) (by omega)
    rw [show i + (a - i) = a by omega] at hle1
    have hle2 := H.le (a + 1) (j - (a + 1)) (by omega)
    rw [show a + 1 + (j - (a + 1)) = j by omega] at hle2
    have h5 := cross_lt2 (hpos i (by omega)) (hpos a (by omega)) (hpos (a + 1) (by omega)) hle1 hst
    have h6 := cross_lt (hpos i (by omega)) (hpos (a + 1) (by omega)) (hpos j hj) h5 hle2
    omega
  have hval : ∀ k, i ≤ k → k ≤ j → ∀ v, vl m N (Ts k) (bs k) v * ds i = vl m N (Ts i) (bs i) v * ds k := fun k h1 h2 v => by
    have h3 := H.same_val (i := i) (k - i) (by omega) (fun a ha hb => hdeg a ha (by omega)) v
    rw [show i + (k - i) = k by omega] at h3
    exact h3
  -- fickle variables
  let Bs : Nat → Nat → Prop := fun k v => ∃ s, s < m ∧ bs k s = v
  let Fk : Nat → Prop := fun v => (∃ k, i ≤ k ∧ k ≤ j ∧ Bs k v) ∧ (∃ k, i ≤ k ∧ k ≤ j ∧ ¬ Bs k v)
  have hF0 : ∀ v, Fk v → ∀ k, i ≤ k → k ≤ j → vl m N (Ts k) (bs k) v = 0 := fun v hv k h1 h2 => by
    obtain ⟨-, k2, h3, h4, h5⟩ := hv
    have h6 : vl m N (Ts k2) (bs k2) v = 0 := vl_off (fun s hs e1 => h5 ⟨s, hs, e1⟩)
    have h7 := hval k2 h3 h4 v
    rw [h6, Int.zero_mul] at h7
    have h8 : vl m N (Ts i) (bs i) v = 0 := by
      rcases Int.mul_eq_zero.mp h7.symm with h | h
      · exact h
      · have := hpos k2 (by omega); omega
    have h9 := hval k h1 h2 v
    rw [h8, Int.zero_mul] at h9
    rcases Int.mul_eq_zero.mp h9 with h | h
    · exact h
    · have := hpos i (by omega); omega
  have hstepin : ∀ a v, i ≤ a → a < j → ¬ Bs a v → Bs (a + 1) v → cs a = v := fun a v h1 h2 h3 h4 => by
    obtain ⟨s, hs, e1⟩ := h4
    obtain ⟨hρ, hg, hl, hlρ, hc, hal, hnb, hen, hmin, hp, hrat, hd', hb', hT1, hT2⟩ := H.2 a (by omega)
    rw [hb' s hs] at e1
    by_cases e2 : s = ls a
    · rw [if_pos e2] at e1; exact e1
    · rw [if_neg e2] at e1; exact absurd ⟨s, hs, e1⟩ h3
  have hstepout : ∀ a v, i ≤ a → a < j → Bs a v → ¬ Bs (a + 1) v → bs a (ls a) = v := fun a v h1 h2 h3 h4 => by
    obtain ⟨s, hs, e1⟩ := h3
    obtain ⟨hρ, hg, hl, hlρ, hc, hal, hnb, hen, hmin, hp, hrat, hd', hb', hT1, hT2⟩ := H.2 a (by omega)
    by_cases e2 : s = ls a
    · rw [← e2]; exact e1
    · exact absurd ⟨s, hs, by rw [hb' s hs, if_neg e2]; exact e1⟩ h4
  have hin : ∀ v, Fk v → ∃ a, i ≤ a ∧ a < j ∧ ¬ Bs a v ∧ cs a = v := fun v hv => by
    obtain ⟨⟨k1, a1, a2, a3⟩, ⟨k2, c1, c2, c3⟩⟩ := hv
    by_cases h0 : Bs i v
    · have hjv : Bs j v := (hsame v).mp h0
      obtain ⟨a, h1, h2, h3, h4⟩ := change_up (P := fun k => Bs k v) (u := k2) (j - k2) c3 (by rw [show k2 + (j - k2) = j by omega]; exact hjv)
      exact ⟨a, by omega, by omega, h3, hstepin a v (by omega) (by omega) h3 h4⟩
    · obtain ⟨a, h1, h2, h3, h4⟩ := change_up (P := fun k => Bs k v) (u := i) (k1 - i) h0 (by rw [show i + (k1 - i) = k1 by omega]; exact a3)
      exact ⟨a, by omega, by omega, h3, hstepin a v (by omega) (by omega) h3 h4⟩
  have hout : ∀ v, Fk v → ∃ a, i ≤ a ∧ a < j ∧ Bs a v ∧ bs a (ls a) = v := fun v hv => by
    obtain ⟨⟨k1, a1, a2, a3⟩, ⟨k2, c1, c2, c3⟩⟩ := hv
    by_cases h0 : Bs i v
    · obtain ⟨a, h1, h2, h3, h4⟩ := change_up (P := fun k => ¬ Bs k v) (u := i) (k2 - i) (fun h => h h0) (by rw [show i + (k2 - i) = k2 by omega]; exact c3)
      have h5 : Bs a v := Classical.byContradiction h3
      exact ⟨a, by omega, by omega, h5, hstepout a v (by omega) (by omega) h5 h4⟩
    · have hjv : ¬ Bs j v := fun h => h0 ((hsame v).mpr h)
      obtain ⟨a, h1, h2, h3, h4⟩ := change_up (P := fun k => ¬ Bs k v) (u := k1) (j - k1) (fun h => h a3) (by rw [show k1 + (j - k1) = j by omega]; exact hjv)
      have h5 : Bs a v := Classical.byContradiction h3
      exact ⟨a, by omega, by omega, h5, hstepout a v (by omega) (by omega) h5 h4⟩
  have hne : ∃ v, v < N ∧ Fk v := by
    obtain ⟨hρ, hg, hl, hlρ, hc, hal, hnb, hen, hmin, hp, hrat, hd', hb', hT1, hT2⟩ := H.2 i (by omega)
    refine ⟨cs i, hc, ⟨i + 1, by omega, by omega, ls i, hl, by rw [hb' _ hl, if_pos rfl]⟩, ⟨i, by omega, by omega, fun ⟨s, hs, e1⟩ => hnb s hs e1⟩⟩
  obtain ⟨t, htN, htF, htmax⟩ := most (κ := κ) N hne
  obtain ⟨a, ha1, ha2, ha3, hat⟩ := hin t htF
  obtain ⟨w, hw1, hw2, hw3, hwt⟩ := hout t htF
  have htA := H.tb (i := a) (by omega)
  have htW := H.tb (i := w) (by omega)
  obtain ⟨haρ, hag, hal, halρ, hac, haal, hanb, haen, hamin, hap, harat, haP⟩ := H.2 a (by omega)
  obtain ⟨hwρ, hwg, hwl, hwlρ, hwc, hwal, hwnb, hwen, hwmin, hwp, hwrat, hwP⟩ := H.2 w (by omega)
  -- the column that comes in where t leaves
  have hsF : Fk (cs w) := ⟨⟨w + 1, by omega, by omega, ls w, hwl, by rw [hwP.2.1 _ hwl, if_pos rfl]⟩, ⟨w, by omega, by omega, fun ⟨s, hs, e1⟩ => hwnb s hs e1⟩⟩
  have hst : cs w ≠ t := fun e1 => hwnb (ls w) hwl (by rw [hwt, e1])
  have hκst : κ (cs w) < κ t := Nat.lt_of_le_of_ne (htmax _ hwc hsF) (fun e1 => hst (hκ _ _ hwc htN e1))
  -- whatever is fickle, below t and out of the basis where t comes in is no improvement there
  have hno : ∀ v, v < N → Fk v → κ v < κ t → ¬ Bs a v → 0 ≤ e * Ts a (ρs a) v := fun v hvN hvF hvt hvB => by
    apply Classical.byContradiction
    intro hn
    obtain ⟨a', h1, h2, h3, h4⟩ := hin v hvF
    have hval' : al v := by
      obtain ⟨-, -, -, -, -, hal', -⟩ := H.2 a' (by omega)
      rw [← h4]; exact hal'
    have := hamin v hvN hval' (fun s hs e1 => hvB ⟨s, hs, e1⟩) (by omega)
    rw [hat] at this
    omega
  have hcs0 : 0 ≤ e * Ts a (ρs a) (cs w) := by
    by_cases hB : Bs a (cs w)
    · obtain ⟨s, hs, e1⟩ := hB
      have : s ≠ ρs a := fun e2 => hwnb (ρs w) hwρ (by rw [hwg, ← e1, e2, hag])
      rw [← e1, htA.off haρ hs (Ne.symm this), Int.mul_zero]; exact Int.le_refl 0
    · exact hno _ hwc hsF hκst hB
  have hrow : solT m N (Ts a) (dirv m (Ts w) (bs w) (ds w) (cs w)) := (htA.sols _).mp ((htW.sols _).mpr (dirv_sol htW (Nat.le_of_lt hwc)))
  have hrow1 := hrow (ρs a) haρ
  rw [dirv_sum htW (Nat.le_of_lt hwc)] at hrow1
  have hsum : sm m (fun s => Ts w s (cs w) * Ts a (ρs a) (bs w s)) = Ts a (ρs a) (cs w) * ds w := by omega
  have hsplit : sm m (fun s => e * (Ts w s (cs w) * Ts a (ρs a) (bs w s))) = sm m (fun s => (if s = ρs w then 0 else e * (Ts w s (cs w) * Ts a (ρs a) (bs w s))) + (if s = ρs w then e * (Ts w s (cs w) * Ts a (ρs a) (bs w s)) else 0)) := sm_congr (fun s _ => by
    by_cases e1 : s = ρs w
    · rw [if_pos e1, if_pos e1]; omega
    · rw [if_neg e1, if_neg e1]; omega)
  rw [sm_mul, hsum, sm_add, sm_one (f := fun s => if s = ρs w then e * (Ts w s (cs w) * Ts a (ρs a) (bs w s)) else 0) (ρs w) hwρ (fun s _ hn => if_neg hn), if_pos rfl] at hsplit
  have hg1 : Ts a (ρs a) (bs w (ρs w)) = ds a := by rw [hwg, ← hag]; exact htA.diag haρ
  rw [hg1] at hsplit
  have hneg : e * (Ts w (ρs w) (cs w) * ds a) < 0 := by
    rw [← Int.mul_assoc]
    exact Int.mul_neg_of_neg_of_pos hwen htA.pos
  have hpos1 : 0 ≤ e * (Ts a (ρs a) (cs w) * ds w) := by
    rw [← Int.mul_assoc]
    exact Int.mul_nonneg hcs0 (Int.le_of_lt htW.pos)
  have hpos2 : 0 < sm m (fun s => if s = ρs w then 0 else e * (Ts w s (cs w) * Ts a (ρs a) (bs w s))) := by omega
  obtain ⟨r, hr, hrpos⟩ := sm_pos_ex hpos2
  by_cases hrρ : r = ρs w
  · rw [if_pos hrρ] at hrpos; omega
  rw [if_neg hrρ] at hrpos
  have hrpos' : 0 < Ts w r (cs w) * (e * Ts a (ρs a) (bs w r)) := by rw [Int.mul_left_comm]; exact hrpos
  -- that variable
  have hvnb : ¬ Bs a (bs w r) := by
    rintro ⟨s, hs, e1⟩
    by_cases e2 : s = ρs a
    · subst e2
      apply hrρ
      apply htW.inj hr hwρ
      rw [hwg, ← e1, hag]
    · rw [← e1, htA.off haρ hs (Ne.symm e2), Int.mul_zero, Int.mul_zero] at hrpos'
      omega
  have hvF : Fk (bs w r) := ⟨⟨w, by omega, by omega, r, hr, rfl⟩, ⟨a, by omega, by omega, hvnb⟩⟩
  have hvN : bs w r < N := htW.lt hr
  by_cases hvt : bs w r = t
  · have hrl : r = ls w := htW.inj hr hwl (by rw [hvt, hwt])
    subst hrl
    rw [hvt, ← hat] at hrpos'
    have := Int.mul_neg_of_pos_of_neg hwp haen
    omega
  · have hκv : κ (bs w r) < κ t := Nat.lt_of_le_of_ne (htmax _ hvN hvF) (fun e1 => hvt (hκ _ _ hvN htN e1))
    have h0 := hno _ hvN hvF hκv hvnb
    have hTpos : 0 < Ts w r (cs w) := by
      apply Classical.byContradiction
      intro hn
      have := Int.mul_nonpos_of_nonpos_of_nonneg (show Ts w r (cs w) ≤ 0 by omega) h0
      omega
    have hz1 : Ts w (ls w) N = 0 := hdeg w hw1 hw2
    have hz2 : Ts w r N = 0 := by
      have := hF0 _ hvF w hw1 (by omega)
      rw [vl_b htW hr] at this
      exact this
    rcases hwrat r hr hTpos with h | ⟨-, h⟩
    · rw [hz1, hz2, Int.zero_mul, Int.zero_mul] at h; omega
    · rw [hwt] at h; omega
end
