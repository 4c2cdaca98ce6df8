/-! numbers: greatest common divisors, a quotient of floats, sums -/
theorem lcm_loop {N nj : Nat} {ti : Nat → Int32} {g : Nat → Nat} {Q : Int64 → Prop} : ∀ (f a b k : Nat), a < 2 ^ 62 → b < 2 ^ 62 → b < 2 ^ k → 2 * k + 2 ≤ f → 0 < Nat.gcd a b → Q (lN (Nat.gcd a b)) → p_L_common_6 N nj ti g Q f (lN a) (lN b) := by
  intro f
  induction f using Nat.strongRecOn with
  | ind f ih =>
    intro a b k ha hb hk hf hg hQ
    match f, ih with
    | 0, _ => omega
    | f + 1, ih =>
      unfold p_L_common_6
      have e1 : (1 : Int64) = lN 1 := by decide
      refine ⟨fun h0 => ?_, fun h0 => ⟨h0, fun y ey => ?_⟩⟩
      · rw [← lN_0] at h0
        have := lN_inj (by omega) (by decide) h0
        subst this
        rw [Nat.gcd_zero_right] at hQ hg
        rw [e1]
        exact ⟨fun _ => hQ, fun h => absurd ((pk_lLE (by decide) (by omega)).mpr hg) h⟩
      · have hb0 : 0 < b := by
          rcases Nat.eq_zero_or_pos b with h | h
          · subst h; exact absurd lN_0 h0
          · exact h
        rw [pk_lRem (by omega) hb0 (by omega)] at ey
        subst ey
        have hr : a % b < b := Nat.mod_lt a hb0
        have hgg : Nat.gcd b (a % b) = Nat.gcd a b := by rw [Nat.gcd_comm b, ← Nat.gcd_rec, Nat.gcd_comm]
        have hQ2 : Q (lN (Nat.gcd b (a % b))) := by rw [hgg]; exact hQ
        have hg2 : 0 < Nat.gcd b (a % b) := by rw [hgg]; exact hg
        match f, ih with
        | 0, _ => omega
        | f + 1, ih =>
          unfold p_L_common_6
          refine ⟨fun h1 => ?_, fun h1 => ⟨h1, fun y ey => ?_⟩⟩
          · rw [← lN_0] at h1
            have := lN_inj (by omega) (by decide) h1
            rw [this, Nat.gcd_zero_right] at hQ2
            rw [e1]
            exact ⟨fun _ => hQ2, fun h => absurd ((pk_lLE (by decide) (by omega)).mpr hb0) h⟩
          · have hr0 : 0 < a % b := by
              rcases Nat.eq_zero_or_pos (a % b) with h | h
              · rw [h] at h1; exact absurd lN_0 h1
              · exact h
            rw [pk_lRem (by omega) hr0 (by omega)] at ey
            subst ey
            have hq : b % (a % b) < a % b := Nat.mod_lt _ hr0
            have hq2 : b % (a % b) + (a % b) ≤ b := by
              have h2 := Nat.div_add_mod b (a % b)
              have h3 : 1 ≤ b / (a % b) := (Nat.one_le_div_iff hr0).mpr (Nat.le_of_lt hr)
              have h4 : (a % b) * 1 ≤ (a % b) * (b / (a % b)) := Nat.mul_le_mul (Nat.le_refl _) h3
              omega
            have hgg3 : Nat.gcd (a % b) (b % (a % b)) = Nat.gcd b (a % b) := by rw [Nat.gcd_comm (a % b), ← Nat.gcd_rec, Nat.gcd_comm]
            match k with
            | 0 => have : b < 1 := hk; omega
            | k + 1 =>
              rw [Nat.pow_succ] at hk
              exact ih f (by omega) (a % b) (b % (a % b)) k (by omega) (by omega) (by omega) (by omega) (by rw [hgg3]; exact hg2) (by rw [hgg3]; exact hQ2)
theorem common_spec {N nj : Nat} {ti : Nat → Int32} {g : Nat → Nat} {Q : Int64 → Prop} {a b : Nat} (hN : 1000 ≤ N) (ha : a < 2 ^ 62) (hb : b < 2 ^ 62) (hg : 0 < Nat.gcd a b) (hQ : Q (lN (Nat.gcd a b))) : p_L_common N nj ti g Q (lN a) (lN b) := by
  unfold p_L_common
  exact lcm_loop N a b 62 ha hb hb (by omega) hg hQ
/-! floats -/
theorem fq_settle (c : Nat) (q : Int) : FP.Core.settle FP.Core.b32 false c q = .inf false ∨ ∃ c' q', FP.Core.settle FP.Core.b32 false c q = .fin false c' q' ∧ c' < 16777216 ∧ q' ≤ 104 := by
  have eq : FP.Core.b32.qmax = 104 := by decide
  have ep : (2 : Nat) ^ FP.Core.b32.p = 16777216 := by decide
  have et : FP.Core.b32.tails = 8388608 := by decide
  unfold FP.Core.settle FP.Core.bound
  rw [eq, ep, et]
  split
  · split
    · next h1 h2 => exact Or.inr ⟨c, q, rfl, h1, h2⟩
    · exact Or.inl rfl
  · split
    · next h1 h2 => exact Or.inr ⟨8388608, q + 1, rfl, by decide, h2⟩
    · exact Or.inl rfl
theorem fq_enc (c : Nat) (q : Int) (hc : c < 16777216) (hq : q ≤ 104) : FP.Core.encode FP.Core.b32 (.fin false c q) ≤ 2139095040 := by
  have et : FP.Core.b32.tails = 8388608 := by decide
  have ee : FP.Core.b32.exps = 256 := by decide
  have em : FP.Core.b32.qmin = -149 := by decide
  show (if c < FP.Core.b32.tails then FP.Core.assemble FP.Core.b32 false 0 c else FP.Core.assemble FP.Core.b32 false ((q - FP.Core.b32.qmin).toNat + 1) (c - FP.Core.b32.tails)) ≤ _
  unfold FP.Core.assemble
  rw [et, ee, em]
  simp only [Bool.toNat_false, Nat.zero_mul, Nat.zero_add]
  split <;> omega
theorem fq_inf : FP.Core.encode FP.Core.b32 (.inf false) ≤ 2139095040 := by decide
theorem fq_ratio (num den : Nat) (e : Int) : FP.Core.encode FP.Core.b32 (FP.Core.roundRatio FP.Core.b32 false num den e) ≤ 2139095040 := by
  unfold FP.Core.roundRatio
  split
  · exact fq_enc 0 _ (by decide) (by decide)
  · unfold FP.Core.roundAt
    rcases fq_settle (FP.Core.nearest (FP.Core.unitsNum num e (FP.Core.quantum FP.Core.b32 num den e)) (FP.Core.unitsDen den e (FP.Core.quantum FP.Core.b32 num den e))) (FP.Core.quantum FP.Core.b32 num den e) with h | ⟨c', q', h, h1, h2⟩
    · rw [h]; exact fq_inf
    · rw [h]; exact fq_enc c' q' h1 h2
def finB (x : UInt32) : Bool := match FP.Core.decode FP.Core.b32 x.toNat with
  | .fin false c _ => decide (c ≠ 0)
  | _ => false
set_option maxRecDepth 100000 in
theorem finB_all : ∀ b : Fin 351, b.val = 0 ∨ finB (FP.i2f (nI b.val)) = true := by decide +kernel
theorem finB_of {x : UInt32} (h : finB x = true) : ∃ c q, FP.Core.decode FP.Core.b32 x.toNat = .fin false c q ∧ c ≠ 0 := by
  unfold finB at h
  split at h
  · next c q hd => exact ⟨c, q, hd, of_decide_eq_true h⟩
  · exact absurd h (by decide)
theorem i2f_fin {b : Nat} (hb : b < 351) (h0 : 0 < b) : ∃ c q, FP.Core.decode FP.Core.b32 (FP.i2f (nI b)).toNat = .fin false c q ∧ c ≠ 0 := by
  rcases finB_all ⟨b, hb⟩ with h | h
  · have : b = 0 := h
    omega
  · exact finB_of h
theorem fdiv_le {a b : Nat} (ha : a < 351) (ha0 : 0 < a) (hb : b < 351) (hb0 : 0 < b) : (FP.fdiv (FP.i2f (nI a)) (FP.i2f (nI b))).toNat ≤ 2139095040 := by
  obtain ⟨c, q, e1, -⟩ := i2f_fin ha ha0
  obtain ⟨d, r, e2, hd⟩ := i2f_fin hb hb0
  show (UInt32.ofNat (FP.Core.encode FP.Core.b32 (FP.Core.quotient FP.Core.b32 (FP.Core.decode FP.Core.b32 (FP.i2f (nI a)).toNat) (FP.Core.decode FP.Core.b32 (FP.i2f (nI b)).toNat)))).toNat ≤ _
  rw [e1, e2]
  refine Nat.le_trans (Nat.mod_le _ (2 ^ 32)) ?_
  show FP.Core.encode FP.Core.b32 (if d = 0 then (if c = 0 then .nan else .inf (false != false)) else FP.Core.roundRatio FP.Core.b32 (false != false) c d (q - r)) ≤ _
  rw [if_neg hd]
  exact fq_ratio c d (q - r)
theorem cmp_selfI (z : Int) : compare z z = .eq := by
  show compareOfLessAndEq z z = .eq
  unfold compareOfLessAndEq
  rw [if_neg (Int.lt_irrefl _), if_pos rfl]
theorem fq_num {n : Nat} (h : n ≤ 2139095040) : FP.Core.decode FP.Core.b32 n ≠ .nan := by
  have et : FP.Core.b32.tails = 8388608 := by decide
  have ee : FP.Core.b32.exps = 256 := by decide
  unfold FP.Core.decode FP.Core.fieldE FP.Core.fieldT
  rw [et, ee]
  intro hn
  split at hn
  · next h1 =>
    split at hn
    · cases hn
    · next h2 => omega
  · split at hn <;> cases hn
theorem fcmp_self {x : UInt32} (h : x.toNat ≤ 2139095040) : FP.fcmp x x = some .eq := by
  have hn := fq_num h
  show FP.Core.order (FP.Core.decode FP.Core.b32 x.toNat) (FP.Core.decode FP.Core.b32 x.toNat) = some .eq
  generalize FP.Core.decode FP.Core.b32 x.toNat = D at hn ⊢
  cases D with
  | nan => exact absurd rfl hn
  | inf s => exact congrArg some (cmp_selfI _)
  | fin s c q => exact congrArg some (cmp_selfI _)
theorem alike_eq {x y : UInt32} (hy : y.toNat ≤ 2139095040) (h : alike32 x y = true) : x = y := by
  unfold alike32 at h
  rcases (Bool.or_eq_true _ _).mp h with h | h
  · exact of_decide_eq_true h
  · exfalso
    have h2 := ((Bool.and_eq_true _ _).mp h).2
    unfold isNaN32 at h2
    have h3 : (0x7f800000 : UInt32) < y &&& 0x7fffffff := of_decide_eq_true h2
    have h4 : (0x7f800000 : UInt32).toNat < (y &&& 0x7fffffff).toNat := UInt32.lt_iff_toNat_lt.mp h3
    have h5 : (y &&& 0x7fffffff).toNat = y.toNat &&& (0x7fffffff : UInt32).toNat := UInt32.toNat_and ..
    have h6 : y.toNat &&& (0x7fffffff : UInt32).toNat ≤ y.toNat := Nat.and_le_left
    have h7 : (0x7f800000 : UInt32).toNat = 2139095040 := by decide
    omega
theorem fconst1_le : FP.fconst1.toNat ≤ 2139095040 := by decide
/-! sums -/
theorem sm_cast {n : Nat} {f : Nat → Int} {a : Nat → Nat} (h : ∀ j, j < n → f j = (a j : Int)) : sm n f = (smn n a : Int) := by
  induction n with
  | zero => rfl
  | succ n ih =>
    show sm n f + f n = ((smn n a + a n : Nat) : Int)
    rw [ih (fun j hj => h j (by omega)), h n (by omega), Int.natCast_add]
theorem smn_add {n : Nat} {f g : Nat → Nat} : smn n (fun j => f j + g j) = smn n f + smn n g := by
  induction n with
  | zero => rfl
  | succ n ih =>
    show smn n (fun j => f j + g j) + (f n + g n) = (smn n f + f n) + (smn n g + g n)
    rw [ih]; omega
/-- at most one summand is above 0, and none above T -/
theorem smn_one {n T : Nat} {f : Nat → Nat} (h : ∀ j, j < n → f j ≤ T) (h1 : ∀ j k, j < k → k < n → f j = 0 ∨ f k = 0) : smn n f ≤ T := by
  induction n with
  | zero => exact Nat.zero_le _
  | succ n ih =>
    show smn n f + f n ≤ T
    by_cases e : f n = 0
    · have := ih (fun j hj => h j (by omega)) (fun j k hjk hk => h1 j k hjk (by omega)); omega
    · have hz : smn n f = 0 := by
        have : ∀ m, m ≤ n → smn m f = 0 := by
          intro m
          induction m with
          | zero => intro _; rfl
          | succ m ihm =>
            intro hm
            show smn m f + f m = 0
            rw [ihm (by omega)]
            rcases h1 m n (by omega) (by omega) with q | q
            · omega
            · exact absurd q e
        exact this n (Nat.le_refl n)
      have := h n (by omega)
      omega
