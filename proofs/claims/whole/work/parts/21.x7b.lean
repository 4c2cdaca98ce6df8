variable {p : Program} {l : Launch} {e : Env} {s : State} {m : MethodId} {args : Array Value} {below : List Frame} {meth : Method} {c : Code} {dC : Nat → ClassId} {dI : Nat → Nat → Nat} {cy : Nat → ClassId} {ad : Nat → Nat} {A : Nat → Prop} {Z : State → Prop}
-- ===== X7_measures
theorem fl_X7_measures_42 : Cond.fieldLink RX7 42 "UnlikeUnionModel" "load" "[I" ∈ wsX7_measures := by decide +kernel
theorem fl_X7_measures_49 : Cond.fieldLink RX7 49 "UnlikeUnionModel" "jobs" "I" ∈ wsX7_measures := by decide +kernel
theorem fl_X7_measures_7 : Cond.fieldLink RX7 7 "UnlikeUnionModel" "time" "[I" ∈ wsX7_measures := by decide +kernel
theorem in_X7_measures_X7 : ∀ w ∈ u_ws RX7 TX7 14, w ∈ wsX7_measures := by decide +kernel
abbrev rmX7_measures : Room := { frames := 1, cells := 0, slots := 0, locals := 65 }
def p_X7_measures_19 (N : Nat) (pa : Nat → Int32) (mti : Nat → Int32) (mjo : Int32) (Q : Int32 → (Nat → Int32) → Prop) (K4 : Int32 → Int32 → (Nat → Int32) → Prop) : Nat → Int32 → Int32 → Int32 → (Nat → Int32) → Prop
  | 0 => fun _ _ _ _ => False
  | n + 1 => fun x2 x3 x4 mlo => (mjo ≤ x4 → (vp_in x3 3 ∧ (((mlo (x3).toNatClampNeg) ≤ x2 → (∀ x3_4 : Int32, x3_4 = x3 + (1 : Int32) → (K4 x2 x3_4 mlo))) ∧ (¬ (mlo (x3).toNatClampNeg) ≤ x2 → (vp_in x3 3 ∧ (∀ x2_6 : Int32, x2_6 = mlo (x3).toNatClampNeg → (∀ x3_7 : Int32, x3_7 = x3 + (1 : Int32) → (K4 x2_6 x3_7 mlo)))))))) ∧ (¬ mjo ≤ x4 → (vp_in x3 3 ∧ (vp_in x4 7 ∧ (((pa (x4).toNatClampNeg) = x3 → (vp_in (((3 : Int32) * x4) + x3) 21 ∧ (∀ f_15 : Int32, f_15 = (mlo (x3).toNatClampNeg) + (mti (((3 : Int32) * x4) + x3).toNatClampNeg) → (vp_in x3 3 ∧ (∀ x4_17 : Int32, x4_17 = x4 + (1 : Int32) → (p_X7_measures_19 N pa mti mjo Q K4 n x2 x3 x4_17 (upd mlo (x3).toNatClampNeg f_15))))))) ∧ (¬ (pa (x4).toNatClampNeg) = x3 → (∀ f_11 : Int32, f_11 = (mlo (x3).toNatClampNeg) + (0 : Int32) → (vp_in x3 3 ∧ (∀ x4_13 : Int32, x4_13 = x4 + (1 : Int32) → (p_X7_measures_19 N pa mti mjo Q K4 n x2 x3 x4_13 (upd mlo (x3).toNatClampNeg f_11))))))))))

def p_X7_measures_4 (N : Nat) (pa : Nat → Int32) (mti : Nat → Int32) (mjo : Int32) (Q : Int32 → (Nat → Int32) → Prop) : Nat → Int32 → Int32 → (Nat → Int32) → Prop
  | 0 => fun _ _ _ => False
  | n + 1 => fun x2 x3 mlo => ((3 : Int32) ≤ x3 → (Q x2 mlo)) ∧ (¬ (3 : Int32) ≤ x3 → (vp_in x3 3 ∧ (p_X7_measures_19 N pa mti mjo Q (fun x2 x3 mlo => p_X7_measures_4 N pa mti mjo Q n x2 x3 mlo) N x2 x3 (0 : Int32) (upd mlo (x3).toNatClampNeg (0 : Int32)))))

def p_X7_measures (N : Nat) (pa : Nat → Int32) (mti : Nat → Int32) (mjo : Int32) (Q : Int32 → (Nat → Int32) → Prop) (mlo : Nat → Int32) : Prop :=
  p_X7_measures_4 N pa mti mjo Q N (0 : Int32) (0 : Int32) mlo

set_option maxHeartbeats 4000000 in
set_option maxRecDepth 100000 in
theorem k_X7_measures_p_19 {N : Nat} {mti : Nat → Int32} {mow : Nat → Int32} {mjo : Int32} {mta : Nat → Int64} {mba : Nat → Int32} {mib : Nat → Int32} {mdi : Int64} {mab : Nat → Int64} {mbe : Nat → Int64} {mpl : Nat → Int32} {mbs : Nat → Int32} {mro : Nat → Int32} {mth : Int32} {Q : Int32 → (Nat → Int32) → Prop} {K4 : Int32 → Int32 → (Nat → Int32) → Prop} (C0 : cxM cX7_measures 5 (some .int) RX7 wsX7_measures p s m args meth c dC dI cy A) :
    ∀ (n : Nat) (x2 : Int32) (x3 : Int32) (x4 : Int32) (mlo : Nat → Int32) (H : Heap) (locs : List Loc) (ls : Array Slot) (hm : p_X7_measures_19 N mpl mti mjo Q K4 n x2 x3 x4 mlo) (hSt : stC dC dI A s (wM ad cy mti mow mjo mta mba mib mdi mab mbe mpl mbs mro mlo mth) H locs) (hl : lv_has ls 5 [(0, .ref (ad 0)), (1, .ref (ad 8)), (2, .int x2), (3, .int x3), (4, .int x4)]) (hret : ∀ (r : Int32) (mlo : Nat → Int32) (H : Heap) (locs : List Loc) (ls : Array Slot) (pc : Nat), decode cX7_measures pc = .ok (.ireturn, 1) → stC dC dI A s (wM ad cy mti mow mjo mta mba mib mdi mab mbe mpl mbs mro mlo mth) H locs → Q r mlo → W p l e rmX7_measures s m args below meth c H locs 0 0 Z (F0 m pc ls [.int r])) (hK4 : ∀ (x2 : Int32) (x3 : Int32) (mlo : Nat → Int32) (H : Heap) (locs : List Loc) (ls : Array Slot), K4 x2 x3 mlo → stC dC dI A s (wM ad cy mti mow mjo mta mba mib mdi mab mbe mpl mbs mro mlo mth) H locs → lv_has ls 5 [(0, .ref (ad 0)), (1, .ref (ad 8)), (2, .int x2), (3, .int x3)] → W p l e rmX7_measures s m args below meth c H locs 0 0 Z (F0 m 4 ls [])), W p l e rmX7_measures s m args below meth c H locs 0 0 Z (F0 m 19 ls []) := by
  obtain ⟨hx, hb, hml, hr, hown, hts, hlocks, hK, hA, hN⟩ := id C0
  intro n
  induction n with
  | zero => intro x2 x3 x4 mlo H locs ls hm; exact False.elim hm
  | succ n ih =>
    intro x2 x3 x4 mlo H locs ls hm hSt hl hret hK4
    obtain ⟨hP, hD, hS⟩ := hSt
    unfold p_X7_measures_19 at hm
    refine lv_iload hx hb dX7_measures_19 (lv_at hl 4 rfl) ?_
    refine lv_aload_n hx hb dX7_measures_21 rfl (lv_at hl 0 rfl) ?_
    refine va_get (D := (dC, dI)) (ci := 7) (v := .int mjo) (C := RX7) (T := TX7) (N := 14) hx hb hts in_X7_measures_X7 hown hK hP 0 rfl rfl 2 (by decide) (hts _ fl_X7_measures_49) (fun _ h9 => h9) rfl dX7_measures_22 ?_
    refine lv_icmp_ge (tgt := 66) hx hb dX7_measures_25 (by decide) (fun c_1 => ?_) (fun c_1 => ?_)
    · have hm := hm.1 c_1
      refine lv_aload_n hx hb dX7_measures_66 rfl (lv_at hl 0 rfl) ?_
      refine va_get (D := (dC, dI)) (ci := 7) (v := .ref (ad 11)) (C := RX7) (T := TX7) (N := 14) hx hb hts in_X7_measures_X7 hown hK hP 0 rfl rfl 12 (by decide) (hts _ fl_X7_measures_42) (fun _ h9 => h9) rfl dX7_measures_67 ?_
      refine lv_iload_n hx hb dX7_measures_70 rfl (lv_at hl 3 rfl) ?_
      have hi_2 := hm.1
      have hm := hm.2
      refine va_iald hx hb hK hP 11 0 rfl rfl hi_2 dX7_measures_71 ?_
      refine lv_iload_n hx hb dX7_measures_72 rfl (lv_at hl 2 rfl) ?_
      refine lv_icmp_le (tgt := 85) hx hb dX7_measures_73 (by decide) (fun c_3 => ?_) (fun c_3 => ?_)
      · have hm := hm.1 c_3
        refine lv_iload_n hx hb dX7_measures_85 rfl (lv_at hl 2 rfl) ?_
        refine lv_istore_n (lv' := [(2, .int x2), (0, .ref (ad 0)), (1, .ref (ad 8)), (3, .int x3), (4, .int x4)]) hx hb dX7_measures_86 rfl hl (by decide) rfl (fun ls hl => ?_)
        obtain ⟨x3_4, ex3_4⟩ : ∃ y : Int32, y = x3 + (1 : Int32) := ⟨_, rfl⟩
        have hm := hm x3_4 ex3_4
        refine lv_iinc (v := x3_4) (lv' := [(3, .int x3_4), (2, .int x2), (0, .ref (ad 0)), (1, .ref (ad 8)), (4, .int x4)]) hx hb dX7_measures_87 hl (k := 3) rfl (by rw [ex3_4]; rfl) (by decide) rfl (fun ls hl => ?_)
        refine lv_goto (tgt := 4) hx hb dX7_measures_90 (by decide) ?_
        exact hK4 x2 x3_4 mlo H locs ls hm ⟨hP, hD, hS⟩ (lv_sub hl [2, 3, 1, 0] rfl)
      · have hm := hm.2 c_3
        refine lv_aload_n hx hb dX7_measures_76 rfl (lv_at hl 0 rfl) ?_
        refine va_get (D := (dC, dI)) (ci := 7) (v := .ref (ad 11)) (C := RX7) (T := TX7) (N := 14) hx hb hts in_X7_measures_X7 hown hK hP 0 rfl rfl 12 (by decide) (hts _ fl_X7_measures_42) (fun _ h9 => h9) rfl dX7_measures_77 ?_
        refine lv_iload_n hx hb dX7_measures_80 rfl (lv_at hl 3 rfl) ?_
        have hi_5 := hm.1
        have hm := hm.2
        refine va_iald hx hb hK hP 11 0 rfl rfl hi_5 dX7_measures_81 ?_
        refine lv_goto (tgt := 86) hx hb dX7_measures_82 (by decide) ?_
        refine lv_topi (fun x2_6 ex2_6 => ?_)
        have hm := hm x2_6 ex2_6
        refine lv_istore_n (lv' := [(2, .int x2_6), (0, .ref (ad 0)), (1, .ref (ad 8)), (3, .int x3), (4, .int x4)]) hx hb dX7_measures_86 rfl hl (by decide) rfl (fun ls hl => ?_)
        obtain ⟨x3_7, ex3_7⟩ : ∃ y : Int32, y = x3 + (1 : Int32) := ⟨_, rfl⟩
        have hm := hm x3_7 ex3_7
        refine lv_iinc (v := x3_7) (lv' := [(3, .int x3_7), (2, .int x2_6), (0, .ref (ad 0)), (1, .ref (ad 8)), (4, .int x4)]) hx hb dX7_measures_87 hl (k := 3) rfl (by rw [ex3_7]; rfl) (by decide) rfl (fun ls hl => ?_)
        refine lv_goto (tgt := 4) hx hb dX7_measures_90 (by decide) ?_
        exact hK4 x2_6 x3_7 mlo H locs ls hm ⟨hP, hD, hS⟩ (lv_sub hl [2, 3, 1, 0] rfl)
    · have hm := hm.2 c_1
      refine lv_aload_n hx hb dX7_measures_28 rfl (lv_at hl 0 rfl) ?_
      refine va_get (D := (dC, dI)) (ci := 7) (v := .ref (ad 11)) (C := RX7) (T := TX7) (N := 14) hx hb hts in_X7_measures_X7 hown hK hP 0 rfl rfl 12 (by decide) (hts _ fl_X7_measures_42) (fun _ h9 => h9) rfl dX7_measures_29 ?_
      refine lv_iload_n hx hb dX7_measures_32 rfl (lv_at hl 3 rfl) ?_
      refine lv_dup2_11 hx hb dX7_measures_33 rfl rfl ?_
      have hi_8 := hm.1
      have hm := hm.2
      refine va_iald hx hb hK hP 11 0 rfl rfl hi_8 dX7_measures_34 ?_
      refine lv_aload_n hx hb dX7_measures_35 rfl (lv_at hl 1 rfl) ?_
      refine lv_iload hx hb dX7_measures_36 (lv_at hl 4 rfl) ?_
      have hi_9 := hm.1
      have hm := hm.2
      refine va_iald hx hb hK hP 8 0 rfl rfl hi_9 dX7_measures_38 ?_
      refine lv_iload_n hx hb dX7_measures_39 rfl (lv_at hl 3 rfl) ?_
      refine lv_icmp_ne (tgt := 57) hx hb dX7_measures_40 (by decide) (fun c_10 => ?_) (fun c_10 => ?_)
      · have hm := hm.2 c_10
        refine lv_iconst (v := 0) hx hb dX7_measures_57 (by decide) ?_
        refine lv_iadd hx hb dX7_measures_58 ?_
        refine lv_topi (fun f_11 ef_11 => ?_)
        have hm := hm f_11 ef_11
        have hi_12 := hm.1
        have hm := hm.2
        refine va_iast hx hb hK hP hD hS 11 0 rfl rfl hi_12 dX7_measures_59 (fun H locs hP hD hS => ?_)
        have hP : va_P (dC, dI) vwCl (wM ad cy mti mow mjo mta mba mib mdi mab mbe mpl mbs mro (upd mlo (x3).toNatClampNeg f_11) mth) H := hP
        have hD : va_D A (wM ad cy mti mow mjo mta mba mib mdi mab mbe mpl mbs mro (upd mlo (x3).toNatClampNeg f_11) mth) := hD
        obtain ⟨x4_13, ex4_13⟩ : ∃ y : Int32, y = x4 + (1 : Int32) := ⟨_, rfl⟩
        have hm := hm x4_13 ex4_13
        refine lv_iinc (v := x4_13) (lv' := [(4, .int x4_13), (0, .ref (ad 0)), (1, .ref (ad 8)), (2, .int x2), (3, .int x3)]) hx hb dX7_measures_60 hl (k := 4) rfl (by rw [ex4_13]; rfl) (by decide) rfl (fun ls hl => ?_)
        refine lv_goto (tgt := 19) hx hb dX7_measures_63 (by decide) ?_
        exact ih x2 x3 x4_13 (upd mlo (x3).toNatClampNeg f_11) H locs ls hm ⟨hP, hD, hS⟩ (lv_sub hl [1, 2, 3, 4, 0] rfl) hret hK4
      · have hm := hm.1 c_10
        refine lv_aload_n hx hb dX7_measures_43 rfl (lv_at hl 0 rfl) ?_
        refine va_get (D := (dC, dI)) (ci := 7) (v := .ref (ad 1)) (C := RX7) (T := TX7) (N := 14) hx hb hts in_X7_measures_X7 hown hK hP 0 rfl rfl 0 (by decide) (hts _ fl_X7_measures_7) (fun _ h9 => h9) rfl dX7_measures_44 ?_
        refine lv_iconst (v := 3) hx hb dX7_measures_47 (by decide) ?_
        refine lv_iload hx hb dX7_measures_48 (lv_at hl 4 rfl) ?_
        refine lv_imul hx hb dX7_measures_50 ?_
        refine lv_iload_n hx hb dX7_measures_51 rfl (lv_at hl 3 rfl) ?_
        refine lv_iadd hx hb dX7_measures_52 ?_
        have hi_14 := hm.1
        have hm := hm.2
        refine va_iald hx hb hK hP 1 0 rfl rfl hi_14 dX7_measures_53 ?_
        refine lv_goto (tgt := 58) hx hb dX7_measures_54 (by decide) ?_
        refine lv_iadd hx hb dX7_measures_58 ?_
        refine lv_topi (fun f_15 ef_15 => ?_)
        have hm := hm f_15 ef_15
        have hi_16 := hm.1
        have hm := hm.2
        refine va_iast hx hb hK hP hD hS 11 0 rfl rfl hi_16 dX7_measures_59 (fun H locs hP hD hS => ?_)
        have hP : va_P (dC, dI) vwCl (wM ad cy mti mow mjo mta mba mib mdi mab mbe mpl mbs mro (upd mlo (x3).toNatClampNeg f_15) mth) H := hP
        have hD : va_D A (wM ad cy mti mow mjo mta mba mib mdi mab mbe mpl mbs mro (upd mlo (x3).toNatClampNeg f_15) mth) := hD
        obtain ⟨x4_17, ex4_17⟩ : ∃ y : Int32, y = x4 + (1 : Int32) := ⟨_, rfl⟩
        have hm := hm x4_17 ex4_17
        refine lv_iinc (v := x4_17) (lv' := [(4, .int x4_17), (0, .ref (ad 0)), (1, .ref (ad 8)), (2, .int x2), (3, .int x3)]) hx hb dX7_measures_60 hl (k := 4) rfl (by rw [ex4_17]; rfl) (by decide) rfl (fun ls hl => ?_)
        refine lv_goto (tgt := 19) hx hb dX7_measures_63 (by decide) ?_
        exact ih x2 x3 x4_17 (upd mlo (x3).toNatClampNeg f_15) H locs ls hm ⟨hP, hD, hS⟩ (lv_sub hl [1, 2, 3, 4, 0] rfl) hret hK4

set_option maxHeartbeats 4000000 in
set_option maxRecDepth 100000 in
theorem k_X7_measures_p_4 {N : Nat} {mti : Nat → Int32} {mow : Nat → Int32} {mjo : Int32} {mta : Nat → Int64} {mba : Nat → Int32} {mib : Nat → Int32} {mdi : Int64} {mab : Nat → Int64} {mbe : Nat → Int64} {mpl : Nat → Int32} {mbs : Nat → Int32} {mro : Nat → Int32} {mth : Int32} {Q : Int32 → (Nat → Int32) → Prop} (C0 : cxM cX7_measures 5 (some .int) RX7 wsX7_measures p s m args meth c dC dI cy A) :
    ∀ (n : Nat) (x2 : Int32) (x3 : Int32) (mlo : Nat → Int32) (H : Heap) (locs : List Loc) (ls : Array Slot) (hm : p_X7_measures_4 N mpl mti mjo Q n x2 x3 mlo) (hSt : stC dC dI A s (wM ad cy mti mow mjo mta mba mib mdi mab mbe mpl mbs mro mlo mth) H locs) (hl : lv_has ls 5 [(0, .ref (ad 0)), (1, .ref (ad 8)), (2, .int x2), (3, .int x3)]) (hret : ∀ (r : Int32) (mlo : Nat → Int32) (H : Heap) (locs : List Loc) (ls : Array Slot) (pc : Nat), decode cX7_measures pc = .ok (.ireturn, 1) → stC dC dI A s (wM ad cy mti mow mjo mta mba mib mdi mab mbe mpl mbs mro mlo mth) H locs → Q r mlo → W p l e rmX7_measures s m args below meth c H locs 0 0 Z (F0 m pc ls [.int r])), W p l e rmX7_measures s m args below meth c H locs 0 0 Z (F0 m 4 ls []) := by
  obtain ⟨hx, hb, hml, hr, hown, hts, hlocks, hK, hA, hN⟩ := id C0
  intro n
  induction n with
  | zero => intro x2 x3 mlo H locs ls hm; exact False.elim hm
  | succ n ih =>
    intro x2 x3 mlo H locs ls hm hSt hl hret
    obtain ⟨hP, hD, hS⟩ := hSt
    unfold p_X7_measures_4 at hm
    refine lv_iload_n hx hb dX7_measures_4 rfl (lv_at hl 3 rfl) ?_
    refine lv_iconst (v := 3) hx hb dX7_measures_5 (by decide) ?_
    refine lv_icmp_ge (tgt := 93) hx hb dX7_measures_6 (by decide) (fun c_1 => ?_) (fun c_1 => ?_)
    · have hm := hm.1 c_1
      refine lv_iload_n hx hb dX7_measures_93 rfl (lv_at hl 2 rfl) ?_
      exact hret x2 mlo H locs ls 94 dX7_measures_94 ⟨hP, hD, hS⟩ hm
    · have hm := hm.2 c_1
      refine lv_aload_n hx hb dX7_measures_9 rfl (lv_at hl 0 rfl) ?_
      refine va_get (D := (dC, dI)) (ci := 7) (v := .ref (ad 11)) (C := RX7) (T := TX7) (N := 14) hx hb hts in_X7_measures_X7 hown hK hP 0 rfl rfl 12 (by decide) (hts _ fl_X7_measures_42) (fun _ h9 => h9) rfl dX7_measures_10 ?_
      refine lv_iload_n hx hb dX7_measures_13 rfl (lv_at hl 3 rfl) ?_
      refine lv_iconst (v := 0) hx hb dX7_measures_14 (by decide) ?_
      have hi_2 := hm.1
      have hm := hm.2
      refine va_iast hx hb hK hP hD hS 11 0 rfl rfl hi_2 dX7_measures_15 (fun H locs hP hD hS => ?_)
      have hP : va_P (dC, dI) vwCl (wM ad cy mti mow mjo mta mba mib mdi mab mbe mpl mbs mro (upd mlo (x3).toNatClampNeg (0 : Int32)) mth) H := hP
      have hD : va_D A (wM ad cy mti mow mjo mta mba mib mdi mab mbe mpl mbs mro (upd mlo (x3).toNatClampNeg (0 : Int32)) mth) := hD
      refine lv_iconst (v := 0) hx hb dX7_measures_16 (by decide) ?_
      refine lv_istore (lv' := [(4, .int (0 : Int32)), (0, .ref (ad 0)), (1, .ref (ad 8)), (2, .int x2), (3, .int x3)]) hx hb dX7_measures_17 hl (by decide) rfl (fun ls hl => ?_)
      refine k_X7_measures_p_19 C0 N x2 x3 (0 : Int32) (upd mlo (x3).toNatClampNeg (0 : Int32)) H locs ls hm ⟨hP, hD, hS⟩ (lv_sub hl [1, 2, 3, 4, 0] rfl) hret (fun x2 x3 mlo H locs ls hm hSt hl => ?_)
      · obtain ⟨hP, hD, hS⟩ := hSt
        exact ih x2 x3 mlo H locs ls hm ⟨hP, hD, hS⟩ hl hret

set_option maxHeartbeats 4000000 in
set_option maxRecDepth 100000 in
theorem k_X7_measures_p_0 {N : Nat} {mti : Nat → Int32} {mow : Nat → Int32} {mjo : Int32} {mta : Nat → Int64} {mba : Nat → Int32} {mib : Nat → Int32} {mdi : Int64} {mab : Nat → Int64} {mbe : Nat → Int64} {mpl : Nat → Int32} {mbs : Nat → Int32} {mro : Nat → Int32} {mth : Int32} {Q : Int32 → (Nat → Int32) → Prop} (C0 : cxM cX7_measures 5 (some .int) RX7 wsX7_measures p s m args meth c dC dI cy A) :
    ∀ (mlo : Nat → Int32) (H : Heap) (locs : List Loc) (ls : Array Slot) (hm : p_X7_measures N mpl mti mjo Q mlo) (hSt : stC dC dI A s (wM ad cy mti mow mjo mta mba mib mdi mab mbe mpl mbs mro mlo mth) H locs) (hl : lv_has ls 5 [(0, .ref (ad 0)), (1, .ref (ad 8))]) (hret : ∀ (r : Int32) (mlo : Nat → Int32) (H : Heap) (locs : List Loc) (ls : Array Slot) (pc : Nat), decode cX7_measures pc = .ok (.ireturn, 1) → stC dC dI A s (wM ad cy mti mow mjo mta mba mib mdi mab mbe mpl mbs mro mlo mth) H locs → Q r mlo → W p l e rmX7_measures s m args below meth c H locs 0 0 Z (F0 m pc ls [.int r])), W p l e rmX7_measures s m args below meth c H locs 0 0 Z (F0 m 0 ls []) := by
  obtain ⟨hx, hb, hml, hr, hown, hts, hlocks, hK, hA, hN⟩ := id C0
  intro mlo H locs ls hm hSt hl hret
  obtain ⟨hP, hD, hS⟩ := hSt
  unfold p_X7_measures at hm
  refine lv_iconst (v := 0) hx hb dX7_measures_0 (by decide) ?_
  refine lv_istore_n (lv' := [(2, .int (0 : Int32)), (0, .ref (ad 0)), (1, .ref (ad 8))]) hx hb dX7_measures_1 rfl hl (by decide) rfl (fun ls hl => ?_)
  refine lv_iconst (v := 0) hx hb dX7_measures_2 (by decide) ?_
  refine lv_istore_n (lv' := [(3, .int (0 : Int32)), (2, .int (0 : Int32)), (0, .ref (ad 0)), (1, .ref (ad 8))]) hx hb dX7_measures_3 rfl hl (by decide) rfl (fun ls hl => ?_)
  exact k_X7_measures_p_4 C0 N (0 : Int32) (0 : Int32) mlo H locs ls hm ⟨hP, hD, hS⟩ (lv_sub hl [2, 3, 1, 0] rfl) hret

set_option maxHeartbeats 4000000 in
set_option maxRecDepth 100000 in
theorem c_X7_measures_p (l : Launch) (dC : Nat → ClassId) (dI : Nat → Nat → Nat) (cy : Nat → ClassId) (ad : Nat → Nat) (sz : Nat) (mti : Nat → Int32) (mow : Nat → Int32) (mjo : Int32) (mta : Nat → Int64) (mba : Nat → Int32) (mib : Nat → Int32) (mdi : Int64) (mab : Nat → Int64) (mbe : Nat → Int64) (mpl : Nat → Int32) (mbs : Nat → Int32) (mro : Nat → Int32) (mlo : Nat → Int32) (mth : Int32)  (N : Nat) (Q : Int32 → (Nat → Int32) → Prop) (hm : p_X7_measures N mpl mti mjo Q mlo) : Met l yX7_measures wsX7_measures rmX7_measures (va_Pc [.ref (ad 0), .ref (ad 8)] (cPre dC dI cy (wM ad cy mti mow mjo mta mba mib mdi mab mbe mpl mbs mro mlo mth) sz)) (va_Qi (fun (r : Int32) (u : (Nat → Int32)) => Q r u) (fun u t => cPost dC dI cy (wM ad cy mti mow mjo mta mba mib mdi mab mbe mpl mbs mro mlo mth) sz (wM ad cy mti mow mjo mta mba mib mdi mab mbe mpl mbs mro u mth) t) (va_A (wM ad cy mti mow mjo mta mba mib mdi mab mbe mpl mbs mro mlo mth) sz)) 0 0 (va_A (wM ad cy mti mow mjo mta mba mib mdi mab mbe mpl mbs mro mlo mth) sz) := by
  refine Met.ofW (cc := cX7_measures) (maxL := 5) (ret := (some .int)) (by decide) rfl ?_
  intro p e s m args below meth c s₁ B hml hv
  obtain ⟨rfl, hsz, hP, hK, hD0, hN⟩ := hv
  have hts := atoms_spec (ws := wsX7_measures) B.pre
  have hown : s.vm.findClass RX7 = some m.cls := findClass_of_methodNamed B.named
  subst hsz
  have hD := hD0.self (sz := s.heap.size)
  generalize hAe : va_A (wM ad cy mti mow mjo mta mba mib mdi mab mbe mpl mbs mro mlo mth) s.heap.size = A at hD ⊢
  have hA : ∀ q : Nat, s.heap.size ≤ q → A q := fun q h => by rw [← hAe]; exact Or.inr h
  have hl := lv_entry ([.ref (ad 0), .ref (ad 8)]) (n := 5) (Nat.le_of_ble_eq_true rfl)
  rw [lg_entry_eq]
  generalize (lg_sl ([.ref (ad 0), .ref (ad 8)]) ++ List.replicate (5 - (lg_sl ([.ref (ad 0), .ref (ad 8)])).length) Slot.unset).toArray = ls at hl ⊢
  have hl : lv_has ls 5 [(0, .ref (ad 0)), (1, .ref (ad 8))] := hl
  exact k_X7_measures_p_0 ⟨B.exec, B.bytes, hml, B.returns, hown, hts, B.notSynchronized, hK, hA, hN⟩ mlo s.heap [] ls hm ⟨hP, hD, va_S.rf⟩ (lv_sub hl [0, 1] rfl) (fun r mlo H locs ls pc hdg hSt hq => W.iret B.exec B.bytes B.returns (fun t ht hW => ⟨⟨r, (mlo), rfl, hq, cPost_of hAe ht hW.alike hSt hK⟩, hSt.2.2.F ht⟩) hSt.2.2.2.2 hdg B.notSynchronized)

set_option maxHeartbeats 4000000 in
set_option maxRecDepth 100000 in
theorem k_X7_measures_r_19 {N : Nat} {mti : Nat → Int32} {mow : Nat → Int32} {mjo : Int32} {mta : Nat → Int64} {mba : Nat → Int32} {mib : Nat → Int32} {mdi : Int64} {mab : Nat → Int64} {mbe : Nat → Int64} {mpl : Nat → Int32} {mbs : Nat → Int32} {mro : Nat → Int32} {mth : Int32} {Q : Int32 → (Nat → Int32) → Prop} {K4 : Int32 → Int32 → (Nat → Int32) → Prop} (C0 : cxM cX7_measures 5 (some .int) RX7 wsX7_measures p s m args meth c dC dI cy A) :
    ∀ (n : Nat) (x2 : Int32) (x3 : Int32) (x4 : Int32) (mlo : Nat → Int32) (H : Heap) (locs : List Loc) (ls : Array Slot) (hm : p_X7_measures_19 N mro mti mjo Q K4 n x2 x3 x4 mlo) (hSt : stC dC dI A s (wM ad cy mti mow mjo mta mba mib mdi mab mbe mpl mbs mro mlo mth) H locs) (hl : lv_has ls 5 [(0, .ref (ad 0)), (1, .ref (ad 10)), (2, .int x2), (3, .int x3), (4, .int x4)]) (hret : ∀ (r : Int32) (mlo : Nat → Int32) (H : Heap) (locs : List Loc) (ls : Array Slot) (pc : Nat), decode cX7_measures pc = .ok (.ireturn, 1) → stC dC dI A s (wM ad cy mti mow mjo mta mba mib mdi mab mbe mpl mbs mro mlo mth) H locs → Q r mlo → W p l e rmX7_measures s m args below meth c H locs 0 0 Z (F0 m pc ls [.int r])) (hK4 : ∀ (x2 : Int32) (x3 : Int32) (mlo : Nat → Int32) (H : Heap) (locs : List Loc) (ls : Array Slot), K4 x2 x3 mlo → stC dC dI A s (wM ad cy mti mow mjo mta mba mib mdi mab mbe mpl mbs mro mlo mth) H locs → lv_has ls 5 [(0, .ref (ad 0)), (1, .ref (ad 10)), (2, .int x2), (3, .int x3)] → W p l e rmX7_measures s m args below meth c H locs 0 0 Z (F0 m 4 ls [])), W p l e rmX7_measures s m args below meth c H locs 0 0 Z (F0 m 19 ls []) := by
  obtain ⟨hx, hb, hml, hr, hown, hts, hlocks, hK, hA, hN⟩ := id C0
  intro n
  induction n with
  | zero => intro x2 x3 x4 mlo H locs ls hm; exact False.elim hm
  | succ n ih =>
    intro x2 x3 x4 mlo H locs ls hm hSt hl hret hK4
    obtain ⟨hP, hD, hS⟩ := hSt
    unfold p_X7_measures_19 at hm
    refine lv_iload hx hb dX7_measures_19 (lv_at hl 4 rfl) ?_
    refine lv_aload_n hx hb dX7_measures_21 rfl (lv_at hl 0 rfl) ?_
    refine va_get (D := (dC, dI)) (ci := 7) (v := .int mjo) (C := RX7) (T := TX7) (N := 14) hx hb hts in_X7_measures_X7 hown hK hP 0 rfl rfl 2 (by decide) (hts _ fl_X7_measures_49) (fun _ h9 => h9) rfl dX7_measures_22 ?_
    refine lv_icmp_ge (tgt := 66) hx hb dX7_measures_25 (by decide) (fun c_1 => ?_) (fun c_1 => ?_)
    · have hm := hm.1 c_1
      refine lv_aload_n hx hb dX7_measures_66 rfl (lv_at hl 0 rfl) ?_
      refine va_get (D := (dC, dI)) (ci := 7) (v := .ref (ad 11)) (C := RX7) (T := TX7) (N := 14) hx hb hts in_X7_measures_X7 hown hK hP 0 rfl rfl 12 (by decide) (hts _ fl_X7_measures_42) (fun _ h9 => h9) rfl dX7_measures_67 ?_
      refine lv_iload_n hx hb dX7_measures_70 rfl (lv_at hl 3 rfl) ?_
      have hi_2 := hm.1
      have hm := hm.2
      refine va_iald hx hb hK hP 11 0 rfl rfl hi_2 dX7_measures_71 ?_
      refine lv_iload_n hx hb dX7_measures_72 rfl (lv_at hl 2 rfl) ?_
      refine lv_icmp_le (tgt := 85) hx hb dX7_measures_73 (by decide) (fun c_3 => ?_) (fun c_3 => ?_)
      · have hm := hm.1 c_3
        refine lv_iload_n hx hb dX7_measures_85 rfl (lv_at hl 2 rfl) ?_
        refine lv_istore_n (lv' := [(2, .int x2), (0, .ref (ad 0)), (1, .ref (ad 10)), (3, .int x3), (4, .int x4)]) hx hb dX7_measures_86 rfl hl (by decide) rfl (fun ls hl => ?_)
        obtain ⟨x3_4, ex3_4⟩ : ∃ y : Int32, y = x3 + (1 : Int32) := ⟨_, rfl⟩
        have hm := hm x3_4 ex3_4
        refine lv_iinc (v := x3_4) (lv' := [(3, .int x3_4), (2, .int x2), (0, .ref (ad 0)), (1, .ref (ad 10)), (4, .int x4)]) hx hb dX7_measures_87 hl (k := 3) rfl (by rw [ex3_4]; rfl) (by decide) rfl (fun ls hl => ?_)
        refine lv_goto (tgt := 4) hx hb dX7_measures_90 (by decide) ?_
        exact hK4 x2 x3_4 mlo H locs ls hm ⟨hP, hD, hS⟩ (lv_sub hl [2, 3, 1, 0] rfl)
      · have hm := hm.2 c_3
        refine lv_aload_n hx hb dX7_measures_76 rfl (lv_at hl 0 rfl) ?_
        refine va_get (D := (dC, dI)) (ci := 7) (v := .ref (ad 11)) (C := RX7) (T := TX7) (N := 14) hx hb hts in_X7_measures_X7 hown hK hP 0 rfl rfl 12 (by decide) (hts _ fl_X7_measures_42) (fun _ h9 => h9) rfl dX7_measures_77 ?_
        refine lv_iload_n hx hb dX7_measures_80 rfl (lv_at hl 3 rfl) ?_
        have hi_5 := hm.1
        have hm := hm.2
        refine va_iald hx hb hK hP 11 0 rfl rfl hi_5 dX7_measures_81 ?_
        refine lv_goto (tgt := 86) hx hb dX7_measures_82 (by decide) ?_
        refine lv_topi (fun x2_6 ex2_6 => ?_)
        have hm := hm x2_6 ex2_6
        refine lv_istore_n (lv' := [(2, .int x2_6), (0, .ref (ad 0)), (1, .ref (ad 10)), (3, .int x3), (4, .int x4)]) hx hb dX7_measures_86 rfl hl (by decide) rfl (fun ls hl => ?_)
        obtain ⟨x3_7, ex3_7⟩ : ∃ y : Int32, y = x3 + (1 : Int32) := ⟨_, rfl⟩
        have hm := hm x3_7 ex3_7
        refine lv_iinc (v := x3_7) (lv' := [(3, .int x3_7), (2, .int x2_6), (0, .ref (ad 0)), (1, .ref (ad 10)), (4, .int x4)]) hx hb dX7_measures_87 hl (k := 3) rfl (by rw [ex3_7]; rfl) (by decide) rfl (fun ls hl => ?_)
        refine lv_goto (tgt := 4) hx hb dX7_measures_90 (by decide) ?_
        exact hK4 x2_6 x3_7 mlo H locs ls hm ⟨hP, hD, hS⟩ (lv_sub hl [2, 3, 1, 0] rfl)
    · have hm := hm.2 c_1
      refine lv_aload_n hx hb dX7_measures_28 rfl (lv_at hl 0 rfl) ?_
      refine va_get (D := (dC, dI)) (ci := 7) (v := .ref (ad 11)) (C := RX7) (T := TX7) (N := 14) hx hb hts in_X7_measures_X7 hown hK hP 0 rfl rfl 12 (by decide) (hts _ fl_X7_measures_42) (fun _ h9 => h9) rfl dX7_measures_29 ?_
      refine lv_iload_n hx hb dX7_measures_32 rfl (lv_at hl 3 rfl) ?_
      refine lv_dup2_11 hx hb dX7_measures_33 rfl rfl ?_
      have hi_8 := hm.1
      have hm := hm.2
      refine va_iald hx hb hK hP 11 0 rfl rfl hi_8 dX7_measures_34 ?_
      refine lv_aload_n hx hb dX7_measures_35 rfl (lv_at hl 1 rfl) ?_
      refine lv_iload hx hb dX7_measures_36 (lv_at hl 4 rfl) ?_
      have hi_9 := hm.1
      have hm := hm.2
      refine va_iald hx hb hK hP 10 0 rfl rfl hi_9 dX7_measures_38 ?_
      refine lv_iload_n hx hb dX7_measures_39 rfl (lv_at hl 3 rfl) ?_
      refine lv_icmp_ne (tgt := 57) hx hb dX7_measures_40 (by decide) (fun c_10 => ?_) (fun c_10 => ?_)
      · have hm := hm.2 c_10
        refine lv_iconst (v := 0) hx hb dX7_measures_57 (by decide) ?_
        refine lv_iadd hx hb dX7_measures_58 ?_
        refine lv_topi (fun f_11 ef_11 => ?_)
        have hm := hm f_11 ef_11
        have hi_12 := hm.1
        have hm := hm.2
        refine va_iast hx hb hK hP hD hS 11 0 rfl rfl hi_12 dX7_measures_59 (fun H locs hP hD hS => ?_)
        have hP : va_P (dC, dI) vwCl (wM ad cy mti mow mjo mta mba mib mdi mab mbe mpl mbs mro (upd mlo (x3).toNatClampNeg f_11) mth) H := hP
        have hD : va_D A (wM ad cy mti mow mjo mta mba mib mdi mab mbe mpl mbs mro (upd mlo (x3).toNatClampNeg f_11) mth) := hD
        obtain ⟨x4_13, ex4_13⟩ : ∃ y : Int32, y = x4 + (1 : Int32) := ⟨_, rfl⟩
        have hm := hm x4_13 ex4_13
        refine lv_iinc (v := x4_13) (lv' := [(4, .int x4_13), (0, .ref (ad 0)), (1, .ref (ad 10)), (2, .int x2), (3, .int x3)]) hx hb dX7_measures_60 hl (k := 4) rfl (by rw [ex4_13]; rfl) (by decide) rfl (fun ls hl => ?_)
        refine lv_goto (tgt := 19) hx hb dX7_measures_63 (by decide) ?_
        exact ih x2 x3 x4_13 (upd mlo (x3).toNatClampNeg f_11) H locs ls hm ⟨hP, hD, hS⟩ (lv_sub hl [1, 2, 3, 4, 0] rfl) hret hK4
      · have hm := hm.1 c_10
        refine lv_aload_n hx hb dX7_measures_43 rfl (lv_at hl 0 rfl) ?_
        refine va_get (D := (dC, dI)) (ci := 7) (v := .ref (ad 1)) (C := RX7) (T := TX7) (N := 14) hx hb hts in_X7_measures_X7 hown hK hP 0 rfl rfl 0 (by decide) (hts _ fl_X7_measures_7) (fun _ h9 => h9) rfl dX7_measures_44 ?_
        refine lv_iconst (v := 3) hx hb dX7_measures_47 (by decide) ?_
        refine lv_iload hx hb dX7_measures_48 (lv_at hl 4 rfl) ?_
        refine lv_imul hx hb dX7_measures_50 ?_
        refine lv_iload_n hx hb dX7_measures_51 rfl (lv_at hl 3 rfl) ?_
        refine lv_iadd hx hb dX7_measures_52 ?_
        have hi_14 := hm.1
        have hm := hm.2
        refine va_iald hx hb hK hP 1 0 rfl rfl hi_14 dX7_measures_53 ?_
        refine lv_goto (tgt := 58) hx hb dX7_measures_54 (by decide) ?_
        refine lv_iadd hx hb dX7_measures_58 ?_
        refine lv_topi (fun f_15 ef_15 => ?_)
        have hm := hm f_15 ef_15
        have hi_16 := hm.1
        have hm := hm.2
        refine va_iast hx hb hK hP hD hS 11 0 rfl rfl hi_16 dX7_measures_59 (fun H locs hP hD hS => ?_)
        have hP : va_P (dC, dI) vwCl (wM ad cy mti mow mjo mta mba mib mdi mab mbe mpl mbs mro (upd mlo (x3).toNatClampNeg f_15) mth) H := hP
        have hD : va_D A (wM ad cy mti mow mjo mta mba mib mdi mab mbe mpl mbs mro (upd mlo (x3).toNatClampNeg f_15) mth) := hD
        obtain ⟨x4_17, ex4_17⟩ : ∃ y : Int32, y = x4 + (1 : Int32) := ⟨_, rfl⟩
        have hm := hm x4_17 ex4_17
        refine lv_iinc (v := x4_17) (lv' := [(4, .int x4_17), (0, .ref (ad 0)), (1, .ref (ad 10)), (2, .int x2), (3, .int x3)]) hx hb dX7_measures_60 hl (k := 4) rfl (by rw [ex4_17]; rfl) (by decide) rfl (fun ls hl => ?_)
        refine lv_goto (tgt := 19) hx hb dX7_measures_63 (by decide) ?_
        exact ih x2 x3 x4_17 (upd mlo (x3).toNatClampNeg f_15) H locs ls hm ⟨hP, hD, hS⟩ (lv_sub hl [1, 2, 3, 4, 0] rfl) hret hK4

set_option maxHeartbeats 4000000 in
set_option maxRecDepth 100000 in
theorem k_X7_measures_r_4 {N : Nat} {mti : Nat → Int32} {mow : Nat → Int32} {mjo : Int32} {mta : Nat → Int64} {mba : Nat → Int32} {mib : Nat → Int32} {mdi : Int64} {mab : Nat → Int64} {mbe : Nat → Int64} {mpl : Nat → Int32} {mbs : Nat → Int32} {mro : Nat → Int32} {mth : Int32} {Q : Int32 → (Nat → Int32) → Prop} (C0 : cxM cX7_measures 5 (some .int) RX7 wsX7_measures p s m args meth c dC dI cy A) :
    ∀ (n : Nat) (x2 : Int32) (x3 : Int32) (mlo : Nat → Int32) (H : Heap) (locs : List Loc) (ls : Array Slot) (hm : p_X7_measures_4 N mro mti mjo Q n x2 x3 mlo) (hSt : stC dC dI A s (wM ad cy mti mow mjo mta mba mib mdi mab mbe mpl mbs mro mlo mth) H locs) (hl : lv_has ls 5 [(0, .ref (ad 0)), (1, .ref (ad 10)), (2, .int x2), (3, .int x3)]) (hret : ∀ (r : Int32) (mlo : Nat → Int32) (H : Heap) (locs : List Loc) (ls : Array Slot) (pc : Nat), decode cX7_measures pc = .ok (.ireturn, 1) → stC dC dI A s (wM ad cy mti mow mjo mta mba mib mdi mab mbe mpl mbs mro mlo mth) H locs → Q r mlo → W p l e rmX7_measures s m args below meth c H locs 0 0 Z (F0 m pc ls [.int r])), W p l e rmX7_measures s m args below meth c H locs 0 0 Z (F0 m 4 ls []) := by
  obtain ⟨hx, hb, hml, hr, hown, hts, hlocks, hK, hA, hN⟩ := id C0
  intro n
  induction n with
  | zero => intro x2 x3 mlo H locs ls hm; exact False.elim hm
  | succ n ih =>
    intro x2 x3 mlo H locs ls hm hSt hl hret
    obtain ⟨hP, hD, hS⟩ := hSt
    unfold p_X7_measures_4 at hm
    refine lv_iload_n hx hb dX7_measures_4 rfl (lv_at hl 3 rfl) ?_
    refine lv_iconst (v := 3) hx hb dX7_measures_5 (by decide) ?_
    refine lv_icmp_ge (tgt := 93) hx hb dX7_measures_6 (by decide) (fun c_1 => ?_) (fun c_1 => ?_)
    · have hm := hm.1 c_1
      refine lv_iload_n hx hb dX7_measures_93 rfl (lv_at hl 2 rfl) ?_
      exact hret x2 mlo H locs ls 94 dX7_measures_94 ⟨hP, hD, hS⟩ hm
    · have hm := hm.2 c_1
      refine lv_aload_n hx hb dX7_measures_9 rfl (lv_at hl 0 rfl) ?_
      refine va_get (D := (dC, dI)) (ci := 7) (v := .ref (ad 11)) (C := RX7) (T := TX7) (N := 14) hx hb hts in_X7_measures_X7 hown hK hP 0 rfl rfl 12 (by decide) (hts _ fl_X7_measures_42) (fun _ h9 => h9) rfl dX7_measures_10 ?_
      refine lv_iload_n hx hb dX7_measures_13 rfl (lv_at hl 3 rfl) ?_
      refine lv_iconst (v := 0) hx hb dX7_measures_14 (by decide) ?_
      have hi_2 := hm.1
      have hm := hm.2
      refine va_iast hx hb hK hP hD hS 11 0 rfl rfl hi_2 dX7_measures_15 (fun H locs hP hD hS => ?_)
      have hP : va_P (dC, dI) vwCl (wM ad cy mti mow mjo mta mba mib mdi mab mbe mpl mbs mro (upd mlo (x3).toNatClampNeg (0 : Int32)) mth) H := hP
      have hD : va_D A (wM ad cy mti mow mjo mta mba mib mdi mab mbe mpl mbs mro (upd mlo (x3).toNatClampNeg (0 : Int32)) mth) := hD
      refine lv_iconst (v := 0) hx hb dX7_measures_16 (by decide) ?_
      refine lv_istore (lv' := [(4, .int (0 : Int32)), (0, .ref (ad 0)), (1, .ref (ad 10)), (2, .int x2), (3, .int x3)]) hx hb dX7_measures_17 hl (by decide) rfl (fun ls hl => ?_)
      refine k_X7_measures_r_19 C0 N x2 x3 (0 : Int32) (upd mlo (x3).toNatClampNeg (0 : Int32)) H locs ls hm ⟨hP, hD, hS⟩ (lv_sub hl [1, 2, 3, 4, 0] rfl) hret (fun x2 x3 mlo H locs ls hm hSt hl => ?_)
      · obtain ⟨hP, hD, hS⟩ := hSt
        exact ih x2 x3 mlo H locs ls hm ⟨hP, hD, hS⟩ hl hret

set_option maxHeartbeats 4000000 in
set_option maxRecDepth 100000 in
theorem k_X7_measures_r_0 {N : Nat} {mti : Nat → Int32} {mow : Nat → Int32} {mjo : Int32} {mta : Nat → Int64} {mba : Nat → Int32} {mib : Nat → Int32} {mdi : Int64} {mab : Nat → Int64} {mbe : Nat → Int64} {mpl : Nat → Int32} {mbs : Nat → Int32} {mro : Nat → Int32} {mth : Int32} {Q : Int32 → (Nat → Int32) → Prop} (C0 : cxM cX7_measures 5 (some .int) RX7 wsX7_measures p s m args meth c dC dI cy A) :
    ∀ (mlo : Nat → Int32) (H : Heap) (locs : List Loc) (ls : Array Slot) (hm : p_X7_measures N mro mti mjo Q mlo) (hSt : stC dC dI A s (wM ad cy mti mow mjo mta mba mib mdi mab mbe mpl mbs mro mlo mth) H locs) (hl : lv_has ls 5 [(0, .ref (ad 0)), (1, .ref (ad 10))]) (hret : ∀ (r : Int32) (mlo : Nat → Int32) (H : Heap) (locs : List Loc) (ls : Array Slot) (pc : Nat), decode cX7_measures pc = .ok (.ireturn, 1) → stC dC dI A s (wM ad cy mti mow mjo mta mba mib mdi mab mbe mpl mbs mro mlo mth) H locs → Q r mlo → W p l e rmX7_measures s m args below meth c H locs 0 0 Z (F0 m pc ls [.int r])), W p l e rmX7_measures s m args below meth c H locs 0 0 Z (F0 m 0 ls []) := by
  obtain ⟨hx, hb, hml, hr, hown, hts, hlocks, hK, hA, hN⟩ := id C0
  intro mlo H locs ls hm hSt hl hret
  obtain ⟨hP, hD, hS⟩ := hSt
  unfold p_X7_measures at hm
  refine lv_iconst (v := 0) hx hb dX7_measures_0 (by decide) ?_
  refine lv_istore_n (lv' := [(2, .int (0 : Int32)), (0, .ref (ad 0)), (1, .ref (ad 10))]) hx hb dX7_measures_1 rfl hl (by decide) rfl (fun ls hl => ?_)
  refine lv_iconst (v := 0) hx hb dX7_measures_2 (by decide) ?_
  refine lv_istore_n (lv' := [(3, .int (0 : Int32)), (2, .int (0 : Int32)), (0, .ref (ad 0)), (1, .ref (ad 10))]) hx hb dX7_measures_3 rfl hl (by decide) rfl (fun ls hl => ?_)
  exact k_X7_measures_r_4 C0 N (0 : Int32) (0 : Int32) mlo H locs ls hm ⟨hP, hD, hS⟩ (lv_sub hl [2, 3, 1, 0] rfl) hret

set_option maxHeartbeats 4000000 in
set_option maxRecDepth 100000 in
theorem c_X7_measures_r (l : Launch) (dC : Nat → ClassId) (dI : Nat → Nat → Nat) (cy : Nat → ClassId) (ad : Nat → Nat) (sz : Nat) (mti : Nat → Int32) (mow : Nat → Int32) (mjo : Int32) (mta : Nat → Int64) (mba : Nat → Int32) (mib : Nat → Int32) (mdi : Int64) (mab : Nat → Int64) (mbe : Nat → Int64) (mpl : Nat → Int32) (mbs : Nat → Int32) (mro : Nat → Int32) (mlo : Nat → Int32) (mth : Int32)  (N : Nat) (Q : Int32 → (Nat → Int32) → Prop) (hm : p_X7_measures N mro mti mjo Q mlo) : Met l yX7_measures wsX7_measures rmX7_measures (va_Pc [.ref (ad 0), .ref (ad 10)] (cPre dC dI cy (wM ad cy mti mow mjo mta mba mib mdi mab mbe mpl mbs mro mlo mth) sz)) (va_Qi (fun (r : Int32) (u : (Nat → Int32)) => Q r u) (fun u t => cPost dC dI cy (wM ad cy mti mow mjo mta mba mib mdi mab mbe mpl mbs mro mlo mth) sz (wM ad cy mti mow mjo mta mba mib mdi mab mbe mpl mbs mro u mth) t) (va_A (wM ad cy mti mow mjo mta mba mib mdi mab mbe mpl mbs mro mlo mth) sz)) 0 0 (va_A (wM ad cy mti mow mjo mta mba mib mdi mab mbe mpl mbs mro mlo mth) sz) := by
  refine Met.ofW (cc := cX7_measures) (maxL := 5) (ret := (some .int)) (by decide) rfl ?_
  intro p e s m args below meth c s₁ B hml hv
  obtain ⟨rfl, hsz, hP, hK, hD0, hN⟩ := hv
  have hts := atoms_spec (ws := wsX7_measures) B.pre
  have hown : s.vm.findClass RX7 = some m.cls := findClass_of_methodNamed B.named
  subst hsz
  have hD := hD0.self (sz := s.heap.size)
  generalize hAe : va_A (wM ad cy mti mow mjo mta mba mib mdi mab mbe mpl mbs mro mlo mth) s.heap.size = A at hD ⊢
  have hA : ∀ q : Nat, s.heap.size ≤ q → A q := fun q h => by rw [← hAe]; exact Or.inr h
  have hl := lv_entry ([.ref (ad 0), .ref (ad 10)]) (n := 5) (Nat.le_of_ble_eq_true rfl)
  rw [lg_entry_eq]
  generalize (lg_sl ([.ref (ad 0), .ref (ad 10)]) ++ List.replicate (5 - (lg_sl ([.ref (ad 0), .ref (ad 10)])).length) Slot.unset).toArray = ls at hl ⊢
  have hl : lv_has ls 5 [(0, .ref (ad 0)), (1, .ref (ad 10))] := hl
  exact k_X7_measures_r_0 ⟨B.exec, B.bytes, hml, B.returns, hown, hts, B.notSynchronized, hK, hA, hN⟩ mlo s.heap [] ls hm ⟨hP, hD, va_S.rf⟩ (lv_sub hl [0, 1] rfl) (fun r mlo H locs ls pc hdg hSt hq => W.iret B.exec B.bytes B.returns (fun t ht hW => ⟨⟨r, (mlo), rfl, hq, cPost_of hAe ht hW.alike hSt hK⟩, hSt.2.2.F ht⟩) hSt.2.2.2.2 hdg B.notSynchronized)

set_option maxHeartbeats 4000000 in
set_option maxRecDepth 100000 in
theorem k_X7_measures_o_19 {N : Nat} {mti : Nat → Int32} {mow : Nat → Int32} {mjo : Int32} {mta : Nat → Int64} {mba : Nat → Int32} {mib : Nat → Int32} {mdi : Int64} {mab : Nat → Int64} {mbe : Nat → Int64} {mpl : Nat → Int32} {mbs : Nat → Int32} {mro : Nat → Int32} {mth : Int32} {Q : Int32 → (Nat → Int32) → Prop} {K4 : Int32 → Int32 → (Nat → Int32) → Prop} (C0 : cxM cX7_measures 5 (some .int) RX7 wsX7_measures p s m args meth c dC dI cy A) :
    ∀ (n : Nat) (x2 : Int32) (x3 : Int32) (x4 : Int32) (mlo : Nat → Int32) (H : Heap) (locs : List Loc) (ls : Array Slot) (hm : p_X7_measures_19 N mow mti mjo Q K4 n x2 x3 x4 mlo) (hSt : stC dC dI A s (wM ad cy mti mow mjo mta mba mib mdi mab mbe mpl mbs mro mlo mth) H locs) (hl : lv_has ls 5 [(0, .ref (ad 0)), (1, .ref (ad 2)), (2, .int x2), (3, .int x3), (4, .int x4)]) (hret : ∀ (r : Int32) (mlo : Nat → Int32) (H : Heap) (locs : List Loc) (ls : Array Slot) (pc : Nat), decode cX7_measures pc = .ok (.ireturn, 1) → stC dC dI A s (wM ad cy mti mow mjo mta mba mib mdi mab mbe mpl mbs mro mlo mth) H locs → Q r mlo → W p l e rmX7_measures s m args below meth c H locs 0 0 Z (F0 m pc ls [.int r])) (hK4 : ∀ (x2 : Int32) (x3 : Int32) (mlo : Nat → Int32) (H : Heap) (locs : List Loc) (ls : Array Slot), K4 x2 x3 mlo → stC dC dI A s (wM ad cy mti mow mjo mta mba mib mdi mab mbe mpl mbs mro mlo mth) H locs → lv_has ls 5 [(0, .ref (ad 0)), (1, .ref (ad 2)), (2, .int x2), (3, .int x3)] → W p l e rmX7_measures s m args below meth c H locs 0 0 Z (F0 m 4 ls [])), W p l e rmX7_measures s m args below meth c H locs 0 0 Z (F0 m 19 ls []) := by
  obtain ⟨hx, hb, hml, hr, hown, hts, hlocks, hK, hA, hN⟩ := id C0
  intro n
  induction n with
  | zero => intro x2 x3 x4 mlo H locs ls hm; exact False.elim hm
  | succ n ih =>
    intro x2 x3 x4 mlo H locs ls hm hSt hl hret hK4
    obtain ⟨hP, hD, hS⟩ := hSt
    unfold p_X7_measures_19 at hm
    refine lv_iload hx hb dX7_measures_19 (lv_at hl 4 rfl) ?_
    refine lv_aload_n hx hb dX7_measures_21 rfl (lv_at hl 0 rfl) ?_
    refine va_get (D := (dC, dI)) (ci := 7) (v := .int mjo) (C := RX7) (T := TX7) (N := 14) hx hb hts in_X7_measures_X7 hown hK hP 0 rfl rfl 2 (by decide) (hts _ fl_X7_measures_49) (fun _ h9 => h9) rfl dX7_measures_22 ?_
    refine lv_icmp_ge (tgt := 66) hx hb dX7_measures_25 (by decide) (fun c_1 => ?_) (fun c_1 => ?_)
    · have hm := hm.1 c_1
      refine lv_aload_n hx hb dX7_measures_66 rfl (lv_at hl 0 rfl) ?_
      refine va_get (D := (dC, dI)) (ci := 7) (v := .ref (ad 11)) (C := RX7) (T := TX7) (N := 14) hx hb hts in_X7_measures_X7 hown hK hP 0 rfl rfl 12 (by decide) (hts _ fl_X7_measures_42) (fun _ h9 => h9) rfl dX7_measures_67 ?_
      refine lv_iload_n hx hb dX7_measures_70 rfl (lv_at hl 3 rfl) ?_
      have hi_2 := hm.1
      have hm := hm.2
      refine va_iald hx hb hK hP 11 0 rfl rfl hi_2 dX7_measures_71 ?_
      refine lv_iload_n hx hb dX7_measures_72 rfl (lv_at hl 2 rfl) ?_
      refine lv_icmp_le (tgt := 85) hx hb dX7_measures_73 (by decide) (fun c_3 => ?_) (fun c_3 => ?_)
      · have hm := hm.1 c_3
        refine lv_iload_n hx hb dX7_measures_85 rfl (lv_at hl 2 rfl) ?_
        refine lv_istore_n (lv' := [(2, .int x2), (0, .ref (ad 0)), (1, .ref (ad 2)), (3, .int x3), (4, .int x4)]) hx hb dX7_measures_86 rfl hl (by decide) rfl (fun ls hl => ?_)
        obtain ⟨x3_4, ex3_4⟩ : ∃ y : Int32, y = x3 + (1 : Int32) := ⟨_, rfl⟩
        have hm := hm x3_4 ex3_4
        refine lv_iinc (v := x3_4) (lv' := [(3, .int x3_4), (2, .int x2), (0, .ref (ad 0)), (1, .ref (ad 2)), (4, .int x4)]) hx hb dX7_measures_87 hl (k := 3) rfl (by rw [ex3_4]; rfl) (by decide) rfl (fun ls hl => ?_)
        refine lv_goto (tgt := 4) hx hb dX7_measures_90 (by decide) ?_
        exact hK4 x2 x3_4 mlo H locs ls hm ⟨hP, hD, hS⟩ (lv_sub hl [2, 3, 1, 0] rfl)
      · have hm := hm.2 c_3
        refine lv_aload_n hx hb dX7_measures_76 rfl (lv_at hl 0 rfl) ?_
        refine va_get (D := (dC, dI)) (ci := 7) (v := .ref (ad 11)) (C := RX7) (T := TX7) (N := 14) hx hb hts in_X7_measures_X7 hown hK hP 0 rfl rfl 12 (by decide) (hts _ fl_X7_measures_42) (fun _ h9 => h9) rfl dX7_measures_77 ?_
        refine lv_iload_n hx hb dX7_measures_80 rfl (lv_at hl 3 rfl) ?_
        have hi_5 := hm.1
        have hm := hm.2
        refine va_iald hx hb hK hP 11 0 rfl rfl hi_5 dX7_measures_81 ?_
        refine lv_goto (tgt := 86) hx hb dX7_measures_82 (by decide) ?_
        refine lv_topi (fun x2_6 ex2_6 => ?_)
        have hm := hm x2_6 ex2_6
        refine lv_istore_n (lv' := [(2, .int x2_6), (0, .ref (ad 0)), (1, .ref (ad 2)), (3, .int x3), (4, .int x4)]) hx hb dX7_measures_86 rfl hl (by decide) rfl (fun ls hl => ?_)
        obtain ⟨x3_7, ex3_7⟩ : ∃ y : Int32, y = x3 + (1 : Int32) := ⟨_, rfl⟩
        have hm := hm x3_7 ex3_7
        refine lv_iinc (v := x3_7) (lv' := [(3, .int x3_7), (2, .int x2_6), (0, .ref (ad 0)), (1, .ref (ad 2)), (4, .int x4)]) hx hb dX7_measures_87 hl (k := 3) rfl (by rw [ex3_7]; rfl) (by decide) rfl (fun ls hl => ?_)
        refine lv_goto (tgt := 4) hx hb dX7_measures_90 (by decide) ?_
        exact hK4 x2_6 x3_7 mlo H locs ls hm ⟨hP, hD, hS⟩ (lv_sub hl [2, 3, 1, 0] rfl)
    · have hm := hm.2 c_1
      refine lv_aload_n hx hb dX7_measures_28 rfl (lv_at hl 0 rfl) ?_
      refine va_get (D := (dC, dI)) (ci := 7) (v := .ref (ad 11)) (C := RX7) (T := TX7) (N := 14) hx hb hts in_X7_measures_X7 hown hK hP 0 rfl rfl 12 (by decide) (hts _ fl_X7_measures_42) (fun _ h9 => h9) rfl dX7_measures_29 ?_
      refine lv_iload_n hx hb dX7_measures_32 rfl (lv_at hl 3 rfl) ?_
      refine lv_dup2_11 hx hb dX7_measures_33 rfl rfl ?_
      have hi_8 := hm.1
      have hm := hm.2
      refine va_iald hx hb hK hP 11 0 rfl rfl hi_8 dX7_measures_34 ?_
      refine lv_aload_n hx hb dX7_measures_35 rfl (lv_at hl 1 rfl) ?_
      refine lv_iload hx hb dX7_measures_36 (lv_at hl 4 rfl) ?_
      have hi_9 := hm.1
      have hm := hm.2
      refine va_iald hx hb hK hP 2 0 rfl rfl hi_9 dX7_measures_38 ?_
      refine lv_iload_n hx hb dX7_measures_39 rfl (lv_at hl 3 rfl) ?_
      refine lv_icmp_ne (tgt := 57) hx hb dX7_measures_40 (by decide) (fun c_10 => ?_) (fun c_10 => ?_)
      · have hm := hm.2 c_10
        refine lv_iconst (v := 0) hx hb dX7_measures_57 (by decide) ?_
        refine lv_iadd hx hb dX7_measures_58 ?_
        refine lv_topi (fun f_11 ef_11 => ?_)
        have hm := hm f_11 ef_11
        have hi_12 := hm.1
        have hm := hm.2
        refine va_iast hx hb hK hP hD hS 11 0 rfl rfl hi_12 dX7_measures_59 (fun H locs hP hD hS => ?_)
        have hP : va_P (dC, dI) vwCl (wM ad cy mti mow mjo mta mba mib mdi mab mbe mpl mbs mro (upd mlo (x3).toNatClampNeg f_11) mth) H := hP
        have hD : va_D A (wM ad cy mti mow mjo mta mba mib mdi mab mbe mpl mbs mro (upd mlo (x3).toNatClampNeg f_11) mth) := hD
        obtain ⟨x4_13, ex4_13⟩ : ∃ y : Int32, y = x4 + (1 : Int32) := ⟨_, rfl⟩
        have hm := hm x4_13 ex4_13
        refine lv_iinc (v := x4_13) (lv' := [(4, .int x4_13), (0, .ref (ad 0)), (1, .ref (ad 2)), (2, .int x2), (3, .int x3)]) hx hb dX7_measures_60 hl (k := 4) rfl (by rw [ex4_13]; rfl) (by decide) rfl (fun ls hl => ?_)
        refine lv_goto (tgt := 19) hx hb dX7_measures_63 (by decide) ?_
        exact ih x2 x3 x4_13 (upd mlo (x3).toNatClampNeg f_11) H locs ls hm ⟨hP, hD, hS⟩ (lv_sub hl [1, 2, 3, 4, 0] rfl) hret hK4
      · have hm := hm.1 c_10
        refine lv_aload_n hx hb dX7_measures_43 rfl (lv_at hl 0 rfl) ?_
        refine va_get (D := (dC, dI)) (ci := 7) (v := .ref (ad 1)) (C := RX7) (T := TX7) (N := 14) hx hb hts in_X7_measures_X7 hown hK hP 0 rfl rfl 0 (by decide) (hts _ fl_X7_measures_7) (fun _ h9 => h9) rfl dX7_measures_44 ?_
        refine lv_iconst (v := 3) hx hb dX7_measures_47 (by decide) ?_
        refine lv_iload hx hb dX7_measures_48 (lv_at hl 4 rfl) ?_
        refine lv_imul hx hb dX7_measures_50 ?_
        refine lv_iload_n hx hb dX7_measures_51 rfl (lv_at hl 3 rfl) ?_
        refine lv_iadd hx hb dX7_measures_52 ?_
        have hi_14 := hm.1
        have hm := hm.2
        refine va_iald hx hb hK hP 1 0 rfl rfl hi_14 dX7_measures_53 ?_
        refine lv_goto (tgt := 58) hx hb dX7_measures_54 (by decide) ?_
        refine lv_iadd hx hb dX7_measures_58 ?_
        refine lv_topi (fun f_15 ef_15 => ?_)
        have hm := hm f_15 ef_15
        have hi_16 := hm.1
        have hm := hm.2
        refine va_iast hx hb hK hP hD hS 11 0 rfl rfl hi_16 dX7_measures_59 (fun H locs hP hD hS => ?_)
        have hP : va_P (dC, dI) vwCl (wM ad cy mti mow mjo mta mba mib mdi mab mbe mpl mbs mro (upd mlo (x3).toNatClampNeg f_15) mth) H := hP
        have hD : va_D A (wM ad cy mti mow mjo mta mba mib mdi mab mbe mpl mbs mro (upd mlo (x3).toNatClampNeg f_15) mth) := hD
        obtain ⟨x4_17, ex4_17⟩ : ∃ y : Int32, y = x4 + (1 : Int32) := ⟨_, rfl⟩
        have hm := hm x4_17 ex4_17
        refine lv_iinc (v := x4_17) (lv' := [(4, .int x4_17), (0, .ref (ad 0)), (1, .ref (ad 2)), (2, .int x2), (3, .int x3)]) hx hb dX7_measures_60 hl (k := 4) rfl (by rw [ex4_17]; rfl) (by decide) rfl (fun ls hl => ?_)
        refine lv_goto (tgt := 19) hx hb dX7_measures_63 (by decide) ?_
        exact ih x2 x3 x4_17 (upd mlo (x3).toNatClampNeg f_15) H locs ls hm ⟨hP, hD, hS⟩ (lv_sub hl [1, 2, 3, 4, 0] rfl) hret hK4

set_option maxHeartbeats 4000000 in
set_option maxRecDepth 100000 in
theorem k_X7_measures_o_4 {N : Nat} {mti : Nat → Int32} {mow : Nat → Int32} {mjo : Int32} {mta : Nat → Int64} {mba : Nat → Int32} {mib : Nat → Int32} {mdi : Int64} {mab : Nat → Int64} {mbe : Nat → Int64} {mpl : Nat → Int32} {mbs : Nat → Int32} {mro : Nat → Int32} {mth : Int32} {Q : Int32 → (Nat → Int32) → Prop} (C0 : cxM cX7_measures 5 (some .int) RX7 wsX7_measures p s m args meth c dC dI cy A) :
    ∀ (n : Nat) (x2 : Int32) (x3 : Int32) (mlo : Nat → Int32) (H : Heap) (locs : List Loc) (ls : Array Slot) (hm : p_X7_measures_4 N mow mti mjo Q n x2 x3 mlo) (hSt : stC dC dI A s (wM ad cy mti mow mjo mta mba mib mdi mab mbe mpl mbs mro mlo mth) H locs) (hl : lv_has ls 5 [(0, .ref (ad 0)), (1, .ref (ad 2)), (2, .int x2), (3, .int x3)]) (hret : ∀ (r : Int32) (mlo : Nat → Int32) (H : Heap) (locs : List Loc) (ls : Array Slot) (pc : Nat), decode cX7_measures pc = .ok (.ireturn, 1) → stC dC dI A s (wM ad cy mti mow mjo mta mba mib mdi mab mbe mpl mbs mro mlo mth) H locs → Q r mlo → W p l e rmX7_measures s m args below meth c H locs 0 0 Z (F0 m pc ls [.int r])), W p l e rmX7_measures s m args below meth c H locs 0 0 Z (F0 m 4 ls []) := by
  obtain ⟨hx, hb, hml, hr, hown, hts, hlocks, hK, hA, hN⟩ := id C0
  intro n
  induction n with
  | zero => intro x2 x3 mlo H locs ls hm; exact False.elim hm
  | succ n ih =>
    intro x2 x3 mlo H locs ls hm hSt hl hret
    obtain ⟨hP, hD, hS⟩ := hSt
    unfold p_X7_measures_4 at hm
    refine lv_iload_n hx hb dX7_measures_4 rfl (lv_at hl 3 rfl) ?_
    refine lv_iconst (v := 3) hx hb dX7_measures_5 (by decide) ?_
    refine lv_icmp_ge (tgt := 93) hx hb dX7_measures_6 (by decide) (fun c_1 => ?_) (fun c_1 => ?_)
    · have hm := hm.1 c_1
      refine lv_iload_n hx hb dX7_measures_93 rfl (lv_at hl 2 rfl) ?_
      exact hret x2 mlo H locs ls 94 dX7_measures_94 ⟨hP, hD, hS⟩ hm
    · have hm := hm.2 c_1
      refine lv_aload_n hx hb dX7_measures_9 rfl (lv_at hl 0 rfl) ?_
      refine va_get (D := (dC, dI)) (ci := 7) (v := .ref (ad 11)) (C := RX7) (T := TX7) (N := 14) hx hb hts in_X7_measures_X7 hown hK hP 0 rfl rfl 12 (by decide) (hts _ fl_X7_measures_42) (fun _ h9 => h9) rfl dX7_measures_10 ?_
      refine lv_iload_n hx hb dX7_measures_13 rfl (lv_at hl 3 rfl) ?_
      refine lv_iconst (v := 0) hx hb dX7_measures_14 (by decide) ?_
      have hi_2 := hm.1
      have hm := hm.2
      refine va_iast hx hb hK hP hD hS 11 0 rfl rfl hi_2 dX7_measures_15 (fun H locs hP hD hS => ?_)
      have hP : va_P (dC, dI) vwCl (wM ad cy mti mow mjo mta mba mib mdi mab mbe mpl mbs mro (upd mlo (x3).toNatClampNeg (0 : Int32)) mth) H := hP
      have hD : va_D A (wM ad cy mti mow mjo mta mba mib mdi mab mbe mpl mbs mro (upd mlo (x3).toNatClampNeg (0 : Int32)) mth) := hD
      refine lv_iconst (v := 0) hx hb dX7_measures_16 (by decide) ?_
      refine lv_istore (lv' := [(4, .int (0 : Int32)), (0, .ref (ad 0)), (1, .ref (ad 2)), (2, .int x2), (3, .int x3)]) hx hb dX7_measures_17 hl (by decide) rfl (fun ls hl => ?_)
      refine k_X7_measures_o_19 C0 N x2 x3 (0 : Int32) (upd mlo (x3).toNatClampNeg (0 : Int32)) H locs ls hm ⟨hP, hD, hS⟩ (lv_sub hl [1, 2, 3, 4, 0] rfl) hret (fun x2 x3 mlo H locs ls hm hSt hl => ?_)
      · obtain ⟨hP, hD, hS⟩ := hSt
        exact ih x2 x3 mlo H locs ls hm ⟨hP, hD, hS⟩ hl hret

set_option maxHeartbeats 4000000 in
set_option maxRecDepth 100000 in
theorem k_X7_measures_o_0 {N : Nat} {mti : Nat → Int32} {mow : Nat → Int32} {mjo : Int32} {mta : Nat → Int64} {mba : Nat → Int32} {mib : Nat → Int32} {mdi : Int64} {mab : Nat → Int64} {mbe : Nat → Int64} {mpl : Nat → Int32} {mbs : Nat → Int32} {mro : Nat → Int32} {mth : Int32} {Q : Int32 → (Nat → Int32) → Prop} (C0 : cxM cX7_measures 5 (some .int) RX7 wsX7_measures p s m args meth c dC dI cy A) :
    ∀ (mlo : Nat → Int32) (H : Heap) (locs : List Loc) (ls : Array Slot) (hm : p_X7_measures N mow mti mjo Q mlo) (hSt : stC dC dI A s (wM ad cy mti mow mjo mta mba mib mdi mab mbe mpl mbs mro mlo mth) H locs) (hl : lv_has ls 5 [(0, .ref (ad 0)), (1, .ref (ad 2))]) (hret : ∀ (r : Int32) (mlo : Nat → Int32) (H : Heap) (locs : List Loc) (ls : Array Slot) (pc : Nat), decode cX7_measures pc = .ok (.ireturn, 1) → stC dC dI A s (wM ad cy mti mow mjo mta mba mib mdi mab mbe mpl mbs mro mlo mth) H locs → Q r mlo → W p l e rmX7_measures s m args below meth c H locs 0 0 Z (F0 m pc ls [.int r])), W p l e rmX7_measures s m args below meth c H locs 0 0 Z (F0 m 0 ls []) := by
  obtain ⟨hx, hb, hml, hr, hown, hts, hlocks, hK, hA, hN⟩ := id C0
  intro mlo H locs ls hm hSt hl hret
  obtain ⟨hP, hD, hS⟩ := hSt
  unfold p_X7_measures at hm
  refine lv_iconst (v := 0) hx hb dX7_measures_0 (by decide) ?_
  refine lv_istore_n (lv' := [(2, .int (0 : Int32)), (0, .ref (ad 0)), (1, .ref (ad 2))]) hx hb dX7_measures_1 rfl hl (by decide) rfl (fun ls hl => ?_)
  refine lv_iconst (v := 0) hx hb dX7_measures_2 (by decide) ?_
  refine lv_istore_n (lv' := [(3, .int (0 : Int32)), (2, .int (0 : Int32)), (0, .ref (ad 0)), (1, .ref (ad 2))]) hx hb dX7_measures_3 rfl hl (by decide) rfl (fun ls hl => ?_)
  exact k_X7_measures_o_4 C0 N (0 : Int32) (0 : Int32) mlo H locs ls hm ⟨hP, hD, hS⟩ (lv_sub hl [2, 3, 1, 0] rfl) hret

set_option maxHeartbeats 4000000 in
set_option maxRecDepth 100000 in
theorem c_X7_measures_o (l : Launch) (dC : Nat → ClassId) (dI : Nat → Nat → Nat) (cy : Nat → ClassId) (ad : Nat → Nat) (sz : Nat) (mti : Nat → Int32) (mow : Nat → Int32) (mjo : Int32) (mta : Nat → Int64) (mba : Nat → Int32) (mib : Nat → Int32) (mdi : Int64) (mab : Nat → Int64) (mbe : Nat → Int64) (mpl : Nat → Int32) (mbs : Nat → Int32) (mro : Nat → Int32) (mlo : Nat → Int32) (mth : Int32)  (N : Nat) (Q : Int32 → (Nat → Int32) → Prop) (hm : p_X7_measures N mow mti mjo Q mlo) : Met l yX7_measures wsX7_measures rmX7_measures (va_Pc [.ref (ad 0), .ref (ad 2)] (cPre dC dI cy (wM ad cy mti mow mjo mta mba mib mdi mab mbe mpl mbs mro mlo mth) sz)) (va_Qi (fun (r : Int32) (u : (Nat → Int32)) => Q r u) (fun u t => cPost dC dI cy (wM ad cy mti mow mjo mta mba mib mdi mab mbe mpl mbs mro mlo mth) sz (wM ad cy mti mow mjo mta mba mib mdi mab mbe mpl mbs mro u mth) t) (va_A (wM ad cy mti mow mjo mta mba mib mdi mab mbe mpl mbs mro mlo mth) sz)) 0 0 (va_A (wM ad cy mti mow mjo mta mba mib mdi mab mbe mpl mbs mro mlo mth) sz) := by
  refine Met.ofW (cc := cX7_measures) (maxL := 5) (ret := (some .int)) (by decide) rfl ?_
  intro p e s m args below meth c s₁ B hml hv
  obtain ⟨rfl, hsz, hP, hK, hD0, hN⟩ := hv
  have hts := atoms_spec (ws := wsX7_measures) B.pre
  have hown : s.vm.findClass RX7 = some m.cls := findClass_of_methodNamed B.named
  subst hsz
  have hD := hD0.self (sz := s.heap.size)
  generalize hAe : va_A (wM ad cy mti mow mjo mta mba mib mdi mab mbe mpl mbs mro mlo mth) s.heap.size = A at hD ⊢
  have hA : ∀ q : Nat, s.heap.size ≤ q → A q := fun q h => by rw [← hAe]; exact Or.inr h
  have hl := lv_entry ([.ref (ad 0), .ref (ad 2)]) (n := 5) (Nat.le_of_ble_eq_true rfl)
  rw [lg_entry_eq]
  generalize (lg_sl ([.ref (ad 0), .ref (ad 2)]) ++ List.replicate (5 - (lg_sl ([.ref (ad 0), .ref (ad 2)])).length) Slot.unset).toArray = ls at hl ⊢
  have hl : lv_has ls 5 [(0, .ref (ad 0)), (1, .ref (ad 2))] := hl
  exact k_X7_measures_o_0 ⟨B.exec, B.bytes, hml, B.returns, hown, hts, B.notSynchronized, hK, hA, hN⟩ mlo s.heap [] ls hm ⟨hP, hD, va_S.rf⟩ (lv_sub hl [0, 1] rfl) (fun r mlo H locs ls pc hdg hSt hq => W.iret B.exec B.bytes B.returns (fun t ht hW => ⟨⟨r, (mlo), rfl, hq, cPost_of hAe ht hW.alike hSt hK⟩, hSt.2.2.F ht⟩) hSt.2.2.2.2 hdg B.notSynchronized)

-- ===== X7_shortestOf
theorem fl_X7_shortestOf_49 : Cond.fieldLink RX7 49 "UnlikeUnionModel" "jobs" "I" ∈ wsX7_shortestOf := by decide +kernel
theorem fl_X7_shortestOf_33 : Cond.fieldLink RX7 33 "UnlikeUnionModel" "plan" "[I" ∈ wsX7_shortestOf := by decide +kernel
theorem fl_X7_shortestOf_7 : Cond.fieldLink RX7 7 "UnlikeUnionModel" "time" "[I" ∈ wsX7_shortestOf := by decide +kernel
theorem fl_X7_shortestOf_36 : Cond.fieldLink RX7 36 "UnlikeUnionModel" "best" "[I" ∈ wsX7_shortestOf := by decide +kernel
theorem in_X7_shortestOf_X7 : ∀ w ∈ u_ws RX7 TX7 14, w ∈ wsX7_shortestOf := by decide +kernel
abbrev rmX7_shortestOf : Room := { frames := 2, cells := 0, slots := 0, locals := 149 }
def p_X7_shortestOf_145 (N : Nat) (mti : Nat → Int32) (mjo : Int32) (Q : Int32 → (Nat → Int32) → (Nat → Int32) → (Nat → Int32) → Prop) (K26 : Int32 → Int32 → Int32 → (Nat → Int32) → (Nat → Int32) → (Nat → Int32) → Prop) : Nat → Int32 → Int32 → Int32 → Int32 → (Nat → Int32) → (Nat → Int32) → (Nat → Int32) → Prop
  | 0 => fun _ _ _ _ _ _ _ => False
  | n + 1 => fun x1 x2 x3 x7 mpl mbs mlo => (mjo ≤ x7 → (∀ x3_2 : Int32, x3_2 = x3 + (1 : Int32) → (K26 x1 x2 x3_2 mpl mbs mlo))) ∧ (¬ mjo ≤ x7 → (vp_in x7 7 ∧ (∀ f_4 : Int32, f_4 = mpl (x7).toNatClampNeg → (vp_in x7 7 ∧ (∀ x7_6 : Int32, x7_6 = x7 + (1 : Int32) → (p_X7_shortestOf_145 N mti mjo Q K26 n x1 x2 x3 x7_6 mpl (upd mbs (x7).toNatClampNeg f_4) mlo))))))

def p_X7_shortestOf_45 (N : Nat) (mti : Nat → Int32) (mjo : Int32) (Q : Int32 → (Nat → Int32) → (Nat → Int32) → (Nat → Int32) → Prop) (K26 : Int32 → Int32 → Int32 → (Nat → Int32) → (Nat → Int32) → (Nat → Int32) → Prop) : Nat → Int32 → Int32 → Int32 → Int32 → Int32 → Int32 → (Nat → Int32) → (Nat → Int32) → (Nat → Int32) → Prop
  | 0 => fun _ _ _ _ _ _ _ _ _ => False
  | n + 1 => fun x1 x2 x3 x4 x5 x6 mpl mbs mlo => (x6 < 0 → ((x5 = 0 → ((x5 = 0 → (∀ x3_4 : Int32, x3_4 = x3 + (1 : Int32) → (K26 x1 x2 x3_4 mpl mbs mlo))) ∧ (¬ x5 = 0 → ((x2 < 0 → (p_X7_shortestOf_145 N mti mjo Q K26 N x1 (0 : Int32) x3 (0 : Int32) mpl mbs mlo)) ∧ (¬ x2 < 0 → ((x2 ≤ (0 : Int32) → (∀ x3_7 : Int32, x3_7 = x3 + (1 : Int32) → (K26 x1 x2 x3_7 mpl mbs mlo))) ∧ (¬ x2 ≤ (0 : Int32) → (p_X7_shortestOf_145 N mti mjo Q K26 N x1 (0 : Int32) x3 (0 : Int32) mpl mbs mlo)))))))) ∧ (¬ x5 = 0 → (p_X7_measures N mpl mti mjo (fun r_8 mlo_9 => (x5 = 0 → (∀ x3_11 : Int32, x3_11 = x3 + (1 : Int32) → (K26 x1 x2 x3_11 mpl mbs mlo_9))) ∧ (¬ x5 = 0 → ((x2 < 0 → (p_X7_shortestOf_145 N mti mjo Q K26 N x1 r_8 x3 (0 : Int32) mpl mbs mlo_9)) ∧ (¬ x2 < 0 → ((x2 ≤ r_8 → (∀ x3_14 : Int32, x3_14 = x3 + (1 : Int32) → (K26 x1 x2 x3_14 mpl mbs mlo_9))) ∧ (¬ x2 ≤ r_8 → (p_X7_shortestOf_145 N mti mjo Q K26 N x1 r_8 x3 (0 : Int32) mpl mbs mlo_9))))))) mlo)))) ∧ (¬ x6 < 0 → (∀ f_15 : Int32, f_15 = x4 - x4 / (3 : Int32) * (3 : Int32) → (vp_in x6 7 ∧ (∀ x4_17 : Int32, x4_17 = x4 / (3 : Int32) → ((x5 = 0 → (∀ x6_19 : Int32, x6_19 = x6 + (-1 : Int32) → (p_X7_shortestOf_45 N mti mjo Q K26 n x1 x2 x3 x4_17 (0 : Int32) x6_19 (upd mpl (x6).toNatClampNeg f_15) mbs mlo))) ∧ (¬ x5 = 0 → (vp_in x6 7 ∧ (vp_in (((3 : Int32) * x6) + ((upd mpl (x6).toNatClampNeg f_15) (x6).toNatClampNeg)) 21 ∧ (((mti (((3 : Int32) * x6) + ((upd mpl (x6).toNatClampNeg f_15) (x6).toNatClampNeg)).toNatClampNeg) ≤ 0 → (∀ x6_23 : Int32, x6_23 = x6 + (-1 : Int32) → (p_X7_shortestOf_45 N mti mjo Q K26 n x1 x2 x3 x4_17 (0 : Int32) x6_23 (upd mpl (x6).toNatClampNeg f_15) mbs mlo))) ∧ (¬ (mti (((3 : Int32) * x6) + ((upd mpl (x6).toNatClampNeg f_15) (x6).toNatClampNeg)).toNatClampNeg) ≤ 0 → (∀ x6_24 : Int32, x6_24 = x6 + (-1 : Int32) → (p_X7_shortestOf_45 N mti mjo Q K26 n x1 x2 x3 x4_17 (1 : Int32) x6_24 (upd mpl (x6).toNatClampNeg f_15) mbs mlo))))))))))))

def p_X7_shortestOf_26 (N : Nat) (mti : Nat → Int32) (mjo : Int32) (Q : Int32 → (Nat → Int32) → (Nat → Int32) → (Nat → Int32) → Prop) : Nat → Int32 → Int32 → Int32 → (Nat → Int32) → (Nat → Int32) → (Nat → Int32) → Prop
  | 0 => fun _ _ _ _ _ _ => False
  | n + 1 => fun x1 x2 x3 mpl mbs mlo => (x1 ≤ x3 → ((0 ≤ x2 → (Q x2 mpl mbs mlo)) ∧ (¬ 0 ≤ x2 → (Q (0 : Int32) mpl mbs mlo)))) ∧ (¬ x1 ≤ x3 → (∀ x6_3 : Int32, x6_3 = mjo - (1 : Int32) → (p_X7_shortestOf_45 N mti mjo Q (fun x1 x2 x3 mpl mbs mlo => p_X7_shortestOf_26 N mti mjo Q n x1 x2 x3 mpl mbs mlo) N x1 x2 x3 x3 (1 : Int32) x6_3 mpl mbs mlo)))

def p_X7_shortestOf_4 (N : Nat) (mti : Nat → Int32) (mjo : Int32) (Q : Int32 → (Nat → Int32) → (Nat → Int32) → (Nat → Int32) → Prop) : Nat → Int32 → Int32 → (Nat → Int32) → (Nat → Int32) → (Nat → Int32) → Prop
  | 0 => fun _ _ _ _ _ => False
  | n + 1 => fun x1 x2 mpl mbs mlo => (mjo ≤ x2 → (p_X7_shortestOf_26 N mti mjo Q N x1 (-1 : Int32) (0 : Int32) mpl mbs mlo)) ∧ (¬ mjo ≤ x2 → (∀ x1_2 : Int32, x1_2 = x1 * (3 : Int32) → (∀ x2_3 : Int32, x2_3 = x2 + (1 : Int32) → (p_X7_shortestOf_4 N mti mjo Q n x1_2 x2_3 mpl mbs mlo))))

def p_X7_shortestOf (N : Nat) (mti : Nat → Int32) (mjo : Int32) (Q : Int32 → (Nat → Int32) → (Nat → Int32) → (Nat → Int32) → Prop) (mpl : Nat → Int32) (mbs : Nat → Int32) (mlo : Nat → Int32) : Prop :=
  p_X7_shortestOf_4 N mti mjo Q N (1 : Int32) (0 : Int32) mpl mbs mlo

set_option maxHeartbeats 4000000 in
set_option maxRecDepth 100000 in
theorem k_X7_shortestOf_145 {N : Nat} {mti : Nat → Int32} {mow : Nat → Int32} {mjo : Int32} {mta : Nat → Int64} {mba : Nat → Int32} {mib : Nat → Int32} {mdi : Int64} {mab : Nat → Int64} {mbe : Nat → Int64} {mro : Nat → Int32} {mth : Int32} {Q : Int32 → (Nat → Int32) → (Nat → Int32) → (Nat → Int32) → Prop} {K26 : Int32 → Int32 → Int32 → (Nat → Int32) → (Nat → Int32) → (Nat → Int32) → Prop} (C0 : cxM cX7_shortestOf 8 (some .int) RX7 wsX7_shortestOf p s m args meth c dC dI cy A) :
    ∀ (n : Nat) (x1 : Int32) (x2 : Int32) (x3 : Int32) (x7 : Int32) (mpl : Nat → Int32) (mbs : Nat → Int32) (mlo : Nat → Int32) (H : Heap) (locs : List Loc) (ls : Array Slot) (hm : p_X7_shortestOf_145 N mti mjo Q K26 n x1 x2 x3 x7 mpl mbs mlo) (hSt : stC dC dI A s (wM ad cy mti mow mjo mta mba mib mdi mab mbe mpl mbs mro mlo mth) H locs) (hl : lv_has ls 8 [(0, .ref (ad 0)), (1, .int x1), (2, .int x2), (3, .int x3), (7, .int x7)]) (hret : ∀ (r : Int32) (mpl : Nat → Int32) (mbs : Nat → Int32) (mlo : Nat → Int32) (H : Heap) (locs : List Loc) (ls : Array Slot) (pc : Nat), decode cX7_shortestOf pc = .ok (.ireturn, 1) → stC dC dI A s (wM ad cy mti mow mjo mta mba mib mdi mab mbe mpl mbs mro mlo mth) H locs → Q r mpl mbs mlo → W p l e rmX7_shortestOf s m args below meth c H locs 0 0 Z (F0 m pc ls [.int r])) (hK26 : ∀ (x1 : Int32) (x2 : Int32) (x3 : Int32) (mpl : Nat → Int32) (mbs : Nat → Int32) (mlo : Nat → Int32) (H : Heap) (locs : List Loc) (ls : Array Slot), K26 x1 x2 x3 mpl mbs mlo → stC dC dI A s (wM ad cy mti mow mjo mta mba mib mdi mab mbe mpl mbs mro mlo mth) H locs → lv_has ls 8 [(0, .ref (ad 0)), (1, .int x1), (2, .int x2), (3, .int x3)] → W p l e rmX7_shortestOf s m args below meth c H locs 0 0 Z (F0 m 26 ls [])), W p l e rmX7_shortestOf s m args below meth c H locs 0 0 Z (F0 m 145 ls []) := by
  obtain ⟨hx, hb, hml, hr, hown, hts, hlocks, hK, hA, hN⟩ := id C0
  intro n
  induction n with
  | zero => intro x1 x2 x3 x7 mpl mbs mlo H locs ls hm; exact False.elim hm
  | succ n ih =>
    intro x1 x2 x3 x7 mpl mbs mlo H locs ls hm hSt hl hret hK26
    obtain ⟨hP, hD, hS⟩ := hSt
    unfold p_X7_shortestOf_145 at hm
    refine lv_iload hx hb dX7_shortestOf_145 (lv_at hl 4 rfl) ?_
    refine lv_aload_n hx hb dX7_shortestOf_147 rfl (lv_at hl 0 rfl) ?_
    refine va_get (D := (dC, dI)) (ci := 7) (v := .int mjo) (C := RX7) (T := TX7) (N := 14) hx hb hts in_X7_shortestOf_X7 hown hK hP 0 rfl rfl 2 (by decide) (hts _ fl_X7_shortestOf_49) (fun _ h9 => h9) rfl dX7_shortestOf_148 ?_
    refine lv_icmp_ge (tgt := 174) hx hb dX7_shortestOf_151 (by decide) (fun c_1 => ?_) (fun c_1 => ?_)
    · have hm := hm.1 c_1
      obtain ⟨x3_2, ex3_2⟩ : ∃ y : Int32, y = x3 + (1 : Int32) := ⟨_, rfl⟩
      have hm := hm x3_2 ex3_2
      refine lv_iinc (v := x3_2) (lv' := [(3, .int x3_2), (0, .ref (ad 0)), (1, .int x1), (2, .int x2), (7, .int x7)]) hx hb dX7_shortestOf_174 hl (k := 3) rfl (by rw [ex3_2]; rfl) (by decide) rfl (fun ls hl => ?_)
      refine lv_goto (tgt := 26) hx hb dX7_shortestOf_177 (by decide) ?_
      exact hK26 x1 x2 x3_2 mpl mbs mlo H locs ls hm ⟨hP, hD, hS⟩ (lv_sub hl [1, 2, 3, 0] rfl)
    · have hm := hm.2 c_1
      refine lv_aload_n hx hb dX7_shortestOf_154 rfl (lv_at hl 0 rfl) ?_
      refine va_get (D := (dC, dI)) (ci := 7) (v := .ref (ad 9)) (C := RX7) (T := TX7) (N := 14) hx hb hts in_X7_shortestOf_X7 hown hK hP 0 rfl rfl 10 (by decide) (hts _ fl_X7_shortestOf_36) (fun _ h9 => h9) rfl dX7_shortestOf_155 ?_
      refine lv_iload hx hb dX7_shortestOf_158 (lv_at hl 4 rfl) ?_
      refine lv_aload_n hx hb dX7_shortestOf_160 rfl (lv_at hl 0 rfl) ?_
      refine va_get (D := (dC, dI)) (ci := 7) (v := .ref (ad 8)) (C := RX7) (T := TX7) (N := 14) hx hb hts in_X7_shortestOf_X7 hown hK hP 0 rfl rfl 9 (by decide) (hts _ fl_X7_shortestOf_33) (fun _ h9 => h9) rfl dX7_shortestOf_161 ?_
      refine lv_iload hx hb dX7_shortestOf_164 (lv_at hl 4 rfl) ?_
      have hi_3 := hm.1
      have hm := hm.2
      refine va_iald hx hb hK hP 8 0 rfl rfl hi_3 dX7_shortestOf_166 ?_
      refine lv_topi (fun f_4 ef_4 => ?_)
      have hm := hm f_4 ef_4
      have hi_5 := hm.1
      have hm := hm.2
      refine va_iast hx hb hK hP hD hS 9 0 rfl rfl hi_5 dX7_shortestOf_167 (fun H locs hP hD hS => ?_)
      have hP : va_P (dC, dI) vwCl (wM ad cy mti mow mjo mta mba mib mdi mab mbe mpl (upd mbs (x7).toNatClampNeg f_4) mro mlo mth) H := hP
      have hD : va_D A (wM ad cy mti mow mjo mta mba mib mdi mab mbe mpl (upd mbs (x7).toNatClampNeg f_4) mro mlo mth) := hD
      obtain ⟨x7_6, ex7_6⟩ : ∃ y : Int32, y = x7 + (1 : Int32) := ⟨_, rfl⟩
      have hm := hm x7_6 ex7_6
      refine lv_iinc (v := x7_6) (lv' := [(7, .int x7_6), (0, .ref (ad 0)), (1, .int x1), (2, .int x2), (3, .int x3)]) hx hb dX7_shortestOf_168 hl (k := 4) rfl (by rw [ex7_6]; rfl) (by decide) rfl (fun ls hl => ?_)
      refine lv_goto (tgt := 145) hx hb dX7_shortestOf_171 (by decide) ?_
      exact ih x1 x2 x3 x7_6 mpl (upd mbs (x7).toNatClampNeg f_4) mlo H locs ls hm ⟨hP, hD, hS⟩ (lv_sub hl [1, 2, 3, 4, 0] rfl) hret hK26

set_option maxHeartbeats 4000000 in
set_option maxRecDepth 100000 in
theorem k_X7_shortestOf_45 {N : Nat} {mti : Nat → Int32} {mow : Nat → Int32} {mjo : Int32} {mta : Nat → Int64} {mba : Nat → Int32} {mib : Nat → Int32} {mdi : Int64} {mab : Nat → Int64} {mbe : Nat → Int64} {mro : Nat → Int32} {mth : Int32} {Q : Int32 → (Nat → Int32) → (Nat → Int32) → (Nat → Int32) → Prop} {K26 : Int32 → Int32 → Int32 → (Nat → Int32) → (Nat → Int32) → (Nat → Int32) → Prop} (C0 : cxM cX7_shortestOf 8 (some .int) RX7 wsX7_shortestOf p s m args meth c dC dI cy A) :
    ∀ (n : Nat) (x1 : Int32) (x2 : Int32) (x3 : Int32) (x4 : Int32) (x5 : Int32) (x6 : Int32) (mpl : Nat → Int32) (mbs : Nat → Int32) (mlo : Nat → Int32) (H : Heap) (locs : List Loc) (ls : Array Slot) (hm : p_X7_shortestOf_45 N mti mjo Q K26 n x1 x2 x3 x4 x5 x6 mpl mbs mlo) (hSt : stC dC dI A s (wM ad cy mti mow mjo mta mba mib mdi mab mbe mpl mbs mro mlo mth) H locs) (hl : lv_has ls 8 [(0, .ref (ad 0)), (1, .int x1), (2, .int x2), (3, .int x3), (4, .int x4), (5, .int x5), (6, .int x6)]) (hret : ∀ (r : Int32) (mpl : Nat → Int32) (mbs : Nat → Int32) (mlo : Nat → Int32) (H : Heap) (locs : List Loc) (ls : Array Slot) (pc : Nat), decode cX7_shortestOf pc = .ok (.ireturn, 1) → stC dC dI A s (wM ad cy mti mow mjo mta mba mib mdi mab mbe mpl mbs mro mlo mth) H locs → Q r mpl mbs mlo → W p l e rmX7_shortestOf s m args below meth c H locs 0 0 Z (F0 m pc ls [.int r])) (hK26 : ∀ (x1 : Int32) (x2 : Int32) (x3 : Int32) (mpl : Nat → Int32) (mbs : Nat → Int32) (mlo : Nat → Int32) (H : Heap) (locs : List Loc) (ls : Array Slot), K26 x1 x2 x3 mpl mbs mlo → stC dC dI A s (wM ad cy mti mow mjo mta mba mib mdi mab mbe mpl mbs mro mlo mth) H locs → lv_has ls 8 [(0, .ref (ad 0)), (1, .int x1), (2, .int x2), (3, .int x3)] → W p l e rmX7_shortestOf s m args below meth c H locs 0 0 Z (F0 m 26 ls [])), W p l e rmX7_shortestOf s m args below meth c H locs 0 0 Z (F0 m 45 ls []) := by
  obtain ⟨hx, hb, hml, hr, hown, hts, hlocks, hK, hA, hN⟩ := id C0
  intro n
  induction n with
  | zero => intro x1 x2 x3 x4 x5 x6 mpl mbs mlo H locs ls hm; exact False.elim hm
  | succ n ih =>
    intro x1 x2 x3 x4 x5 x6 mpl mbs mlo H locs ls hm hSt hl hret hK26
    obtain ⟨hP, hD, hS⟩ := hSt
    unfold p_X7_shortestOf_45 at hm
    refine lv_iload hx hb dX7_shortestOf_45 (lv_at hl 6 rfl) ?_
    refine lv_if_lt (tgt := 105) hx hb dX7_shortestOf_47 (by decide) (fun c_1 => ?_) (fun c_1 => ?_)
    · have hm := hm.1 c_1
      refine lv_iload hx hb dX7_shortestOf_105 (lv_at hl 5 rfl) ?_
      refine lv_if_eq (tgt := 121) hx hb dX7_shortestOf_107 (by decide) (fun c_2 => ?_) (fun c_2 => ?_)
      · have hm := hm.1 c_2
        refine lv_iconst (v := 0) hx hb dX7_shortestOf_121 (by decide) ?_
        refine lv_istore (lv' := [(6, .int (0 : Int32)), (0, .ref (ad 0)), (1, .int x1), (2, .int x2), (3, .int x3), (4, .int x4), (5, .int x5)]) hx hb dX7_shortestOf_122 hl (by decide) rfl (fun ls hl => ?_)
        refine lv_iload hx hb dX7_shortestOf_124 (lv_at hl 6 rfl) ?_
        refine lv_if_eq (tgt := 174) hx hb dX7_shortestOf_126 (by decide) (fun c_3 => ?_) (fun c_3 => ?_)
        · have hm := hm.1 c_3
          obtain ⟨x3_4, ex3_4⟩ : ∃ y : Int32, y = x3 + (1 : Int32) := ⟨_, rfl⟩
          have hm := hm x3_4 ex3_4
          refine lv_iinc (v := x3_4) (lv' := [(3, .int x3_4), (6, .int (0 : Int32)), (0, .ref (ad 0)), (1, .int x1), (2, .int x2), (4, .int x4), (5, .int x5)]) hx hb dX7_shortestOf_174 hl (k := 4) rfl (by rw [ex3_4]; rfl) (by decide) rfl (fun ls hl => ?_)
          refine lv_goto (tgt := 26) hx hb dX7_shortestOf_177 (by decide) ?_
          exact hK26 x1 x2 x3_4 mpl mbs mlo H locs ls hm ⟨hP, hD, hS⟩ (lv_sub hl [2, 3, 4, 0] rfl)
        · have hm := hm.2 c_3
          refine lv_iload_n hx hb dX7_shortestOf_129 rfl (lv_at hl 3 rfl) ?_
          refine lv_if_lt (tgt := 139) hx hb dX7_shortestOf_130 (by decide) (fun c_5 => ?_) (fun c_5 => ?_)
          · have hm := hm.1 c_5
            refine lv_iload hx hb dX7_shortestOf_139 (lv_at hl 0 rfl) ?_
            refine lv_istore_n (lv' := [(2, .int (0 : Int32)), (6, .int (0 : Int32)), (0, .ref (ad 0)), (1, .int x1), (3, .int x3), (4, .int x4), (5, .int x5)]) hx hb dX7_shortestOf_141 rfl hl (by decide) rfl (fun ls hl => ?_)
            refine lv_iconst (v := 0) hx hb dX7_shortestOf_142 (by decide) ?_
            refine lv_istore (lv' := [(7, .int (0 : Int32)), (2, .int (0 : Int32)), (6, .int (0 : Int32)), (0, .ref (ad 0)), (1, .int x1), (3, .int x3), (4, .int x4), (5, .int x5)]) hx hb dX7_shortestOf_143 hl (by decide) rfl (fun ls hl => ?_)
            exact k_X7_shortestOf_145 C0 N x1 (0 : Int32) x3 (0 : Int32) mpl mbs mlo H locs ls hm ⟨hP, hD, hS⟩ (lv_sub hl [3, 4, 1, 5, 0] rfl) hret hK26
          · have hm := hm.2 c_5
            refine lv_iload hx hb dX7_shortestOf_133 (lv_at hl 0 rfl) ?_
            refine lv_iload_n hx hb dX7_shortestOf_135 rfl (lv_at hl 3 rfl) ?_
            refine lv_icmp_ge (tgt := 174) hx hb dX7_shortestOf_136 (by decide) (fun c_6 => ?_) (fun c_6 => ?_)
            · have hm := hm.1 c_6
              obtain ⟨x3_7, ex3_7⟩ : ∃ y : Int32, y = x3 + (1 : Int32) := ⟨_, rfl⟩
              have hm := hm x3_7 ex3_7
              refine lv_iinc (v := x3_7) (lv' := [(3, .int x3_7), (6, .int (0 : Int32)), (0, .ref (ad 0)), (1, .int x1), (2, .int x2), (4, .int x4), (5, .int x5)]) hx hb dX7_shortestOf_174 hl (k := 4) rfl (by rw [ex3_7]; rfl) (by decide) rfl (fun ls hl => ?_)
              refine lv_goto (tgt := 26) hx hb dX7_shortestOf_177 (by decide) ?_
              exact hK26 x1 x2 x3_7 mpl mbs mlo H locs ls hm ⟨hP, hD, hS⟩ (lv_sub hl [2, 3, 4, 0] rfl)
            · have hm := hm.2 c_6
              refine lv_iload hx hb dX7_shortestOf_139 (lv_at hl 0 rfl) ?_
              refine lv_istore_n (lv' := [(2, .int (0 : Int32)), (6, .int (0 : Int32)), (0, .ref (ad 0)), (1, .int x1), (3, .int x3), (4, .int x4), (5, .int x5)]) hx hb dX7_shortestOf_141 rfl hl (by decide) rfl (fun ls hl => ?_)
              refine lv_iconst (v := 0) hx hb dX7_shortestOf_142 (by decide) ?_
              refine lv_istore (lv' := [(7, .int (0 : Int32)), (2, .int (0 : Int32)), (6, .int (0 : Int32)), (0, .ref (ad 0)), (1, .int x1), (3, .int x3), (4, .int x4), (5, .int x5)]) hx hb dX7_shortestOf_143 hl (by decide) rfl (fun ls hl => ?_)
              exact k_X7_shortestOf_145 C0 N x1 (0 : Int32) x3 (0 : Int32) mpl mbs mlo H locs ls hm ⟨hP, hD, hS⟩ (lv_sub hl [3, 4, 1, 5, 0] rfl) hret hK26
      · have hm := hm.2 c_2
        refine lv_aload_n hx hb dX7_shortestOf_110 rfl (lv_at hl 0 rfl) ?_
        refine lv_aload_n hx hb dX7_shortestOf_111 rfl (lv_at hl 0 rfl) ?_
        refine va_get (D := (dC, dI)) (ci := 7) (v := .ref (ad 8)) (C := RX7) (T := TX7) (N := 14) hx hb hts in_X7_shortestOf_X7 hown hK hP 0 rfl rfl 9 (by decide) (hts _ fl_X7_shortestOf_33) (fun _ h9 => h9) rfl dX7_shortestOf_112 ?_
        have hFc := va_freeSame hD hS hA
        refine va_calli (va_runV (As := [.ref (ad 8)]) (rest := []) ⟨hx, hb, hml, hown, hts⟩ (c_X7_measures_p l dC dI cy ad H.size mti mow mjo mta mba mib mdi mab mbe mpl mbs mro mlo mth  _ _ hm) (cwV 1 hts gX7_shortestOf_X7_measures rfl rfl rfl (by decide +kernel) ⟨Nat.le_of_ble_eq_true rfl, Nat.le_of_ble_eq_true rfl⟩) ⟨cPre_blind, va_recv hK hP (ci := 7) (q0 := 0) rfl rfl, fun U hU hW => ⟨rfl, cPre_at hP hK hD hN hU hW⟩⟩ rfl rfl hl.1 rfl (lv_room (Nat.le_of_ble_eq_true rfl)) dX7_shortestOf_115 ⟨Nat.zero_le _, Nat.zero_le _⟩) hS (fun q _ h => hFc q h) hFc (fun r_8 u t H locs ht hvm hw hB hz1 hk1 hS => ?_)
        obtain ⟨mlo_9, rfl⟩ : ∃ z, z = u := ⟨_, rfl⟩
        try dsimp only at hw
        have hm := hw
        have hP : va_P (dC, dI) vwCl (wM ad cy mti mow mjo mta mba mib mdi mab mbe mpl mbs mro mlo_9 mth) H := cPost_P ht hB
        have hD : va_D A (wM ad cy mti mow mjo mta mba mib mdi mab mbe mpl mbs mro mlo_9 mth) := cPost_D hFc hB
        refine lv_goto (tgt := 122) hx hb dX7_shortestOf_118 (by decide) ?_
        refine lv_istore (lv' := [(6, .int r_8), (0, .ref (ad 0)), (1, .int x1), (2, .int x2), (3, .int x3), (4, .int x4), (5, .int x5)]) hx hb dX7_shortestOf_122 hl (by decide) rfl (fun ls hl => ?_)
        refine lv_iload hx hb dX7_shortestOf_124 (lv_at hl 6 rfl) ?_
        refine lv_if_eq (tgt := 174) hx hb dX7_shortestOf_126 (by decide) (fun c_10 => ?_) (fun c_10 => ?_)
        · have hm := hm.1 c_10
          obtain ⟨x3_11, ex3_11⟩ : ∃ y : Int32, y = x3 + (1 : Int32) := ⟨_, rfl⟩
          have hm := hm x3_11 ex3_11
          refine lv_iinc (v := x3_11) (lv' := [(3, .int x3_11), (6, .int r_8), (0, .ref (ad 0)), (1, .int x1), (2, .int x2), (4, .int x4), (5, .int x5)]) hx hb dX7_shortestOf_174 hl (k := 4) rfl (by rw [ex3_11]; rfl) (by decide) rfl (fun ls hl => ?_)
          refine lv_goto (tgt := 26) hx hb dX7_shortestOf_177 (by decide) ?_
          exact hK26 x1 x2 x3_11 mpl mbs mlo_9 H locs ls hm ⟨hP, hD, hS⟩ (lv_sub hl [2, 3, 4, 0] rfl)
        · have hm := hm.2 c_10
          refine lv_iload_n hx hb dX7_shortestOf_129 rfl (lv_at hl 3 rfl) ?_
          refine lv_if_lt (tgt := 139) hx hb dX7_shortestOf_130 (by decide) (fun c_12 => ?_) (fun c_12 => ?_)
          · have hm := hm.1 c_12
            refine lv_iload hx hb dX7_shortestOf_139 (lv_at hl 0 rfl) ?_
            refine lv_istore_n (lv' := [(2, .int r_8), (6, .int r_8), (0, .ref (ad 0)), (1, .int x1), (3, .int x3), (4, .int x4), (5, .int x5)]) hx hb dX7_shortestOf_141 rfl hl (by decide) rfl (fun ls hl => ?_)
            refine lv_iconst (v := 0) hx hb dX7_shortestOf_142 (by decide) ?_
            refine lv_istore (lv' := [(7, .int (0 : Int32)), (2, .int r_8), (6, .int r_8), (0, .ref (ad 0)), (1, .int x1), (3, .int x3), (4, .int x4), (5, .int x5)]) hx hb dX7_shortestOf_143 hl (by decide) rfl (fun ls hl => ?_)
            exact k_X7_shortestOf_145 C0 N x1 r_8 x3 (0 : Int32) mpl mbs mlo_9 H locs ls hm ⟨hP, hD, hS⟩ (lv_sub hl [3, 4, 1, 5, 0] rfl) hret hK26
          · have hm := hm.2 c_12
            refine lv_iload hx hb dX7_shortestOf_133 (lv_at hl 0 rfl) ?_
            refine lv_iload_n hx hb dX7_shortestOf_135 rfl (lv_at hl 3 rfl) ?_
            refine lv_icmp_ge (tgt := 174) hx hb dX7_shortestOf_136 (by decide) (fun c_13 => ?_) (fun c_13 => ?_)
            · have hm := hm.1 c_13
              obtain ⟨x3_14, ex3_14⟩ : ∃ y : Int32, y = x3 + (1 : Int32) := ⟨_, rfl⟩
              have hm := hm x3_14 ex3_14
              refine lv_iinc (v := x3_14) (lv' := [(3, .int x3_14), (6, .int r_8), (0, .ref (ad 0)), (1, .int x1), (2, .int x2), (4, .int x4), (5, .int x5)]) hx hb dX7_shortestOf_174 hl (k := 4) rfl (by rw [ex3_14]; rfl) (by decide) rfl (fun ls hl => ?_)
              refine lv_goto (tgt := 26) hx hb dX7_shortestOf_177 (by decide) ?_
              exact hK26 x1 x2 x3_14 mpl mbs mlo_9 H locs ls hm ⟨hP, hD, hS⟩ (lv_sub hl [2, 3, 4, 0] rfl)
            · have hm := hm.2 c_13
              refine lv_iload hx hb dX7_shortestOf_139 (lv_at hl 0 rfl) ?_
              refine lv_istore_n (lv' := [(2, .int r_8), (6, .int r_8), (0, .ref (ad 0)), (1, .int x1), (3, .int x3), (4, .int x4), (5, .int x5)]) hx hb dX7_shortestOf_141 rfl hl (by decide) rfl (fun ls hl => ?_)
              refine lv_iconst (v := 0) hx hb dX7_shortestOf_142 (by decide) ?_
              refine lv_istore (lv' := [(7, .int (0 : Int32)), (2, .int r_8), (6, .int r_8), (0, .ref (ad 0)), (1, .int x1), (3, .int x3), (4, .int x4), (5, .int x5)]) hx hb dX7_shortestOf_143 hl (by decide) rfl (fun ls hl => ?_)
              exact k_X7_shortestOf_145 C0 N x1 r_8 x3 (0 : Int32) mpl mbs mlo_9 H locs ls hm ⟨hP, hD, hS⟩ (lv_sub hl [3, 4, 1, 5, 0] rfl) hret hK26
    · have hm := hm.2 c_1
      refine lv_aload_n hx hb dX7_shortestOf_50 rfl (lv_at hl 0 rfl) ?_
      refine va_get (D := (dC, dI)) (ci := 7) (v := .ref (ad 8)) (C := RX7) (T := TX7) (N := 14) hx hb hts in_X7_shortestOf_X7 hown hK hP 0 rfl rfl 9 (by decide) (hts _ fl_X7_shortestOf_33) (fun _ h9 => h9) rfl dX7_shortestOf_51 ?_
      refine lv_iload hx hb dX7_shortestOf_54 (lv_at hl 6 rfl) ?_
      refine lv_iload hx hb dX7_shortestOf_56 (lv_at hl 4 rfl) ?_
      refine lv_iconst (v := 3) hx hb dX7_shortestOf_58 (by decide) ?_
      refine lv_irem hx hb dX7_shortestOf_59 (by decide) ?_
      refine lv_topi (fun f_15 ef_15 => ?_)
      have hm := hm f_15 ef_15
      have hi_16 := hm.1
      have hm := hm.2
      refine va_iast hx hb hK hP hD hS 8 0 rfl rfl hi_16 dX7_shortestOf_60 (fun H locs hP hD hS => ?_)
      have hP : va_P (dC, dI) vwCl (wM ad cy mti mow mjo mta mba mib mdi mab mbe (upd mpl (x6).toNatClampNeg f_15) mbs mro mlo mth) H := hP
      have hD : va_D A (wM ad cy mti mow mjo mta mba mib mdi mab mbe (upd mpl (x6).toNatClampNeg f_15) mbs mro mlo mth) := hD
      refine lv_iload hx hb dX7_shortestOf_61 (lv_at hl 4 rfl) ?_
      refine lv_iconst (v := 3) hx hb dX7_shortestOf_63 (by decide) ?_
      refine lv_idiv hx hb dX7_shortestOf_64 (by decide) ?_
      refine lv_topi (fun x4_17 ex4_17 => ?_)
      have hm := hm x4_17 ex4_17
      refine lv_istore (lv' := [(4, .int x4_17), (0, .ref (ad 0)), (1, .int x1), (2, .int x2), (3, .int x3), (5, .int x5), (6, .int x6)]) hx hb dX7_shortestOf_65 hl (by decide) rfl (fun ls hl => ?_)
      refine lv_iload hx hb dX7_shortestOf_67 (lv_at hl 5 rfl) ?_
      refine lv_if_eq (tgt := 96) hx hb dX7_shortestOf_69 (by decide) (fun c_18 => ?_) (fun c_18 => ?_)
      · have hm := hm.1 c_18
        refine lv_iconst (v := 0) hx hb dX7_shortestOf_96 (by decide) ?_
        refine lv_istore (lv' := [(5, .int (0 : Int32)), (4, .int x4_17), (0, .ref (ad 0)), (1, .int x1), (2, .int x2), (3, .int x3), (6, .int x6)]) hx hb dX7_shortestOf_97 hl (by decide) rfl (fun ls hl => ?_)
        obtain ⟨x6_19, ex6_19⟩ : ∃ y : Int32, y = x6 + (-1 : Int32) := ⟨_, rfl⟩
        have hm := hm x6_19 ex6_19
        refine lv_iinc (v := x6_19) (lv' := [(6, .int x6_19), (5, .int (0 : Int32)), (4, .int x4_17), (0, .ref (ad 0)), (1, .int x1), (2, .int x2), (3, .int x3)]) hx hb dX7_shortestOf_99 hl (k := 6) rfl (by rw [ex6_19]; rfl) (by decide) rfl (fun ls hl => ?_)
        refine lv_goto (tgt := 45) hx hb dX7_shortestOf_102 (by decide) ?_
        exact ih x1 x2 x3 x4_17 (0 : Int32) x6_19 (upd mpl (x6).toNatClampNeg f_15) mbs mlo H locs ls hm ⟨hP, hD, hS⟩ (lv_sub hl [3, 4, 5, 6, 2, 1, 0] rfl) hret hK26
      · have hm := hm.2 c_18
        refine lv_aload_n hx hb dX7_shortestOf_72 rfl (lv_at hl 1 rfl) ?_
        refine va_get (D := (dC, dI)) (ci := 7) (v := .ref (ad 1)) (C := RX7) (T := TX7) (N := 14) hx hb hts in_X7_shortestOf_X7 hown hK hP 0 rfl rfl 0 (by decide) (hts _ fl_X7_shortestOf_7) (fun _ h9 => h9) rfl dX7_shortestOf_73 ?_
        refine lv_iconst (v := 3) hx hb dX7_shortestOf_76 (by decide) ?_
        refine lv_iload hx hb dX7_shortestOf_77 (lv_at hl 6 rfl) ?_
        refine lv_imul hx hb dX7_shortestOf_79 ?_
        refine lv_aload_n hx hb dX7_shortestOf_80 rfl (lv_at hl 1 rfl) ?_
        refine va_get (D := (dC, dI)) (ci := 7) (v := .ref (ad 8)) (C := RX7) (T := TX7) (N := 14) hx hb hts in_X7_shortestOf_X7 hown hK hP 0 rfl rfl 9 (by decide) (hts _ fl_X7_shortestOf_33) (fun _ h9 => h9) rfl dX7_shortestOf_81 ?_
        refine lv_iload hx hb dX7_shortestOf_84 (lv_at hl 6 rfl) ?_
        have hi_20 := hm.1
        have hm := hm.2
        refine va_iald hx hb hK hP 8 0 rfl rfl hi_20 dX7_shortestOf_86 ?_
        refine lv_iadd hx hb dX7_shortestOf_87 ?_
        have hi_21 := hm.1
        have hm := hm.2
        refine va_iald hx hb hK hP 1 0 rfl rfl hi_21 dX7_shortestOf_88 ?_
        refine lv_if_le (tgt := 96) hx hb dX7_shortestOf_89 (by decide) (fun c_22 => ?_) (fun c_22 => ?_)
        · have hm := hm.1 c_22
          refine lv_iconst (v := 0) hx hb dX7_shortestOf_96 (by decide) ?_
          refine lv_istore (lv' := [(5, .int (0 : Int32)), (4, .int x4_17), (0, .ref (ad 0)), (1, .int x1), (2, .int x2), (3, .int x3), (6, .int x6)]) hx hb dX7_shortestOf_97 hl (by decide) rfl (fun ls hl => ?_)
          obtain ⟨x6_23, ex6_23⟩ : ∃ y : Int32, y = x6 + (-1 : Int32) := ⟨_, rfl⟩
          have hm := hm x6_23 ex6_23
          refine lv_iinc (v := x6_23) (lv' := [(6, .int x6_23), (5, .int (0 : Int32)), (4, .int x4_17), (0, .ref (ad 0)), (1, .int x1), (2, .int x2), (3, .int x3)]) hx hb dX7_shortestOf_99 hl (k := 6) rfl (by rw [ex6_23]; rfl) (by decide) rfl (fun ls hl => ?_)
          refine lv_goto (tgt := 45) hx hb dX7_shortestOf_102 (by decide) ?_
          exact ih x1 x2 x3 x4_17 (0 : Int32) x6_23 (upd mpl (x6).toNatClampNeg f_15) mbs mlo H locs ls hm ⟨hP, hD, hS⟩ (lv_sub hl [3, 4, 5, 6, 2, 1, 0] rfl) hret hK26
        · have hm := hm.2 c_22
          refine lv_iconst (v := 1) hx hb dX7_shortestOf_92 (by decide) ?_
          refine lv_goto (tgt := 97) hx hb dX7_shortestOf_93 (by decide) ?_
          refine lv_istore (lv' := [(5, .int (1 : Int32)), (4, .int x4_17), (0, .ref (ad 0)), (1, .int x1), (2, .int x2), (3, .int x3), (6, .int x6)]) hx hb dX7_shortestOf_97 hl (by decide) rfl (fun ls hl => ?_)
          obtain ⟨x6_24, ex6_24⟩ : ∃ y : Int32, y = x6 + (-1 : Int32) := ⟨_, rfl⟩
          have hm := hm x6_24 ex6_24
          refine lv_iinc (v := x6_24) (lv' := [(6, .int x6_24), (5, .int (1 : Int32)), (4, .int x4_17), (0, .ref (ad 0)), (1, .int x1), (2, .int x2), (3, .int x3)]) hx hb dX7_shortestOf_99 hl (k := 6) rfl (by rw [ex6_24]; rfl) (by decide) rfl (fun ls hl => ?_)
          refine lv_goto (tgt := 45) hx hb dX7_shortestOf_102 (by decide) ?_
          exact ih x1 x2 x3 x4_17 (1 : Int32) x6_24 (upd mpl (x6).toNatClampNeg f_15) mbs mlo H locs ls hm ⟨hP, hD, hS⟩ (lv_sub hl [3, 4, 5, 6, 2, 1, 0] rfl) hret hK26

set_option maxHeartbeats 4000000 in
set_option maxRecDepth 100000 in
theorem k_X7_shortestOf_26 {N : Nat} {mti : Nat → Int32} {mow : Nat → Int32} {mjo : Int32} {mta : Nat → Int64} {mba : Nat → Int32} {mib : Nat → Int32} {mdi : Int64} {mab : Nat → Int64} {mbe : Nat → Int64} {mro : Nat → Int32} {mth : Int32} {Q : Int32 → (Nat → Int32) → (Nat → Int32) → (Nat → Int32) → Prop} (C0 : cxM cX7_shortestOf 8 (some .int) RX7 wsX7_shortestOf p s m args meth c dC dI cy A) :
    ∀ (n : Nat) (x1 : Int32) (x2 : Int32) (x3 : Int32) (mpl : Nat → Int32) (mbs : Nat → Int32) (mlo : Nat → Int32) (H : Heap) (locs : List Loc) (ls : Array Slot) (hm : p_X7_shortestOf_26 N mti mjo Q n x1 x2 x3 mpl mbs mlo) (hSt : stC dC dI A s (wM ad cy mti mow mjo mta mba mib mdi mab mbe mpl mbs mro mlo mth) H locs) (hl : lv_has ls 8 [(0, .ref (ad 0)), (1, .int x1), (2, .int x2), (3, .int x3)]) (hret : ∀ (r : Int32) (mpl : Nat → Int32) (mbs : Nat → Int32) (mlo : Nat → Int32) (H : Heap) (locs : List Loc) (ls : Array Slot) (pc : Nat), decode cX7_shortestOf pc = .ok (.ireturn, 1) → stC dC dI A s (wM ad cy mti mow mjo mta mba mib mdi mab mbe mpl mbs mro mlo mth) H locs → Q r mpl mbs mlo → W p l e rmX7_shortestOf s m args below meth c H locs 0 0 Z (F0 m pc ls [.int r])), W p l e rmX7_shortestOf s m args below meth c H locs 0 0 Z (F0 m 26 ls []) := by
  obtain ⟨hx, hb, hml, hr, hown, hts, hlocks, hK, hA, hN⟩ := id C0
  intro n
  induction n with
  | zero => intro x1 x2 x3 mpl mbs mlo H locs ls hm; exact False.elim hm
  | succ n ih =>
    intro x1 x2 x3 mpl mbs mlo H locs ls hm hSt hl hret
    obtain ⟨hP, hD, hS⟩ := hSt
    unfold p_X7_shortestOf_26 at hm
    refine lv_iload_n hx hb dX7_shortestOf_26 rfl (lv_at hl 3 rfl) ?_
    refine lv_iload_n hx hb dX7_shortestOf_27 rfl (lv_at hl 1 rfl) ?_
    refine lv_icmp_ge (tgt := 180) hx hb dX7_shortestOf_28 (by decide) (fun c_1 => ?_) (fun c_1 => ?_)
    · have hm := hm.1 c_1
      refine lv_iload_n hx hb dX7_shortestOf_180 rfl (lv_at hl 2 rfl) ?_
      refine lv_if_ge (tgt := 188) hx hb dX7_shortestOf_181 (by decide) (fun c_2 => ?_) (fun c_2 => ?_)
      · have hm := hm.1 c_2
        refine lv_iload_n hx hb dX7_shortestOf_188 rfl (lv_at hl 2 rfl) ?_
        exact hret x2 mpl mbs mlo H locs ls 189 dX7_shortestOf_189 ⟨hP, hD, hS⟩ hm
      · have hm := hm.2 c_2
        refine lv_iconst (v := 0) hx hb dX7_shortestOf_184 (by decide) ?_
        refine lv_goto (tgt := 189) hx hb dX7_shortestOf_185 (by decide) ?_
        exact hret (0 : Int32) mpl mbs mlo H locs ls 189 dX7_shortestOf_189 ⟨hP, hD, hS⟩ hm
    · have hm := hm.2 c_1
      refine lv_iload_n hx hb dX7_shortestOf_31 rfl (lv_at hl 3 rfl) ?_
      refine lv_istore (lv' := [(4, .int x3), (0, .ref (ad 0)), (1, .int x1), (2, .int x2), (3, .int x3)]) hx hb dX7_shortestOf_32 hl (by decide) rfl (fun ls hl => ?_)
      refine lv_iconst (v := 1) hx hb dX7_shortestOf_34 (by decide) ?_
      refine lv_istore (lv' := [(5, .int (1 : Int32)), (4, .int x3), (0, .ref (ad 0)), (1, .int x1), (2, .int x2), (3, .int x3)]) hx hb dX7_shortestOf_35 hl (by decide) rfl (fun ls hl => ?_)
      refine lv_aload_n hx hb dX7_shortestOf_37 rfl (lv_at hl 2 rfl) ?_
      refine va_get (D := (dC, dI)) (ci := 7) (v := .int mjo) (C := RX7) (T := TX7) (N := 14) hx hb hts in_X7_shortestOf_X7 hown hK hP 0 rfl rfl 2 (by decide) (hts _ fl_X7_shortestOf_49) (fun _ h9 => h9) rfl dX7_shortestOf_38 ?_
      refine lv_iconst (v := 1) hx hb dX7_shortestOf_41 (by decide) ?_
      refine lv_isub hx hb dX7_shortestOf_42 ?_
      refine lv_topi (fun x6_3 ex6_3 => ?_)
      have hm := hm x6_3 ex6_3
      refine lv_istore (lv' := [(6, .int x6_3), (5, .int (1 : Int32)), (4, .int x3), (0, .ref (ad 0)), (1, .int x1), (2, .int x2), (3, .int x3)]) hx hb dX7_shortestOf_43 hl (by decide) rfl (fun ls hl => ?_)
      refine k_X7_shortestOf_45 C0 N x1 x2 x3 x3 (1 : Int32) x6_3 mpl mbs mlo H locs ls hm ⟨hP, hD, hS⟩ (lv_sub hl [3, 4, 5, 6, 2, 1, 0] rfl) hret (fun x1 x2 x3 mpl mbs mlo H locs ls hm hSt hl => ?_)
      · obtain ⟨hP, hD, hS⟩ := hSt
        exact ih x1 x2 x3 mpl mbs mlo H locs ls hm ⟨hP, hD, hS⟩ hl hret

set_option maxHeartbeats 4000000 in
set_option maxRecDepth 100000 in
theorem k_X7_shortestOf_4 {N : Nat} {mti : Nat → Int32} {mow : Nat → Int32} {mjo : Int32} {mta : Nat → Int64} {mba : Nat → Int32} {mib : Nat → Int32} {mdi : Int64} {mab : Nat → Int64} {mbe : Nat → Int64} {mro : Nat → Int32} {mth : Int32} {Q : Int32 → (Nat → Int32) → (Nat → Int32) → (Nat → Int32) → Prop} (C0 : cxM cX7_shortestOf 8 (some .int) RX7 wsX7_shortestOf p s m args meth c dC dI cy A) :
    ∀ (n : Nat) (x1 : Int32) (x2 : Int32) (mpl : Nat → Int32) (mbs : Nat → Int32) (mlo : Nat → Int32) (H : Heap) (locs : List Loc) (ls : Array Slot) (hm : p_X7_shortestOf_4 N mti mjo Q n x1 x2 mpl mbs mlo) (hSt : stC dC dI A s (wM ad cy mti mow mjo mta mba mib mdi mab mbe mpl mbs mro mlo mth) H locs) (hl : lv_has ls 8 [(0, .ref (ad 0)), (1, .int x1), (2, .int x2)]) (hret : ∀ (r : Int32) (mpl : Nat → Int32) (mbs : Nat → Int32) (mlo : Nat → Int32) (H : Heap) (locs : List Loc) (ls : Array Slot) (pc : Nat), decode cX7_shortestOf pc = .ok (.ireturn, 1) → stC dC dI A s (wM ad cy mti mow mjo mta mba mib mdi mab mbe mpl mbs mro mlo mth) H locs → Q r mpl mbs mlo → W p l e rmX7_shortestOf s m args below meth c H locs 0 0 Z (F0 m pc ls [.int r])), W p l e rmX7_shortestOf s m args below meth c H locs 0 0 Z (F0 m 4 ls []) := by
  obtain ⟨hx, hb, hml, hr, hown, hts, hlocks, hK, hA, hN⟩ := id C0
  intro n
  induction n with
  | zero => intro x1 x2 mpl mbs mlo H locs ls hm; exact False.elim hm
  | succ n ih =>
    intro x1 x2 mpl mbs mlo H locs ls hm hSt hl hret
    obtain ⟨hP, hD, hS⟩ := hSt
    unfold p_X7_shortestOf_4 at hm
    refine lv_iload_n hx hb dX7_shortestOf_4 rfl (lv_at hl 2 rfl) ?_
    refine lv_aload_n hx hb dX7_shortestOf_5 rfl (lv_at hl 0 rfl) ?_
    refine va_get (D := (dC, dI)) (ci := 7) (v := .int mjo) (C := RX7) (T := TX7) (N := 14) hx hb hts in_X7_shortestOf_X7 hown hK hP 0 rfl rfl 2 (by decide) (hts _ fl_X7_shortestOf_49) (fun _ h9 => h9) rfl dX7_shortestOf_6 ?_
    refine lv_icmp_ge (tgt := 22) hx hb dX7_shortestOf_9 (by decide) (fun c_1 => ?_) (fun c_1 => ?_)
    · have hm := hm.1 c_1
      refine lv_iconst (v := -1) hx hb dX7_shortestOf_22 (by decide) ?_
      refine lv_istore_n (lv' := [(2, .int (-1 : Int32)), (0, .ref (ad 0)), (1, .int x1)]) hx hb dX7_shortestOf_23 rfl hl (by decide) rfl (fun ls hl => ?_)
      refine lv_iconst (v := 0) hx hb dX7_shortestOf_24 (by decide) ?_
      refine lv_istore_n (lv' := [(3, .int (0 : Int32)), (2, .int (-1 : Int32)), (0, .ref (ad 0)), (1, .int x1)]) hx hb dX7_shortestOf_25 rfl hl (by decide) rfl (fun ls hl => ?_)
      exact k_X7_shortestOf_26 C0 N x1 (-1 : Int32) (0 : Int32) mpl mbs mlo H locs ls hm ⟨hP, hD, hS⟩ (lv_sub hl [2, 3, 1, 0] rfl) hret
    · have hm := hm.2 c_1
      refine lv_iload_n hx hb dX7_shortestOf_12 rfl (lv_at hl 1 rfl) ?_
      refine lv_iconst (v := 3) hx hb dX7_shortestOf_13 (by decide) ?_
      refine lv_imul hx hb dX7_shortestOf_14 ?_
      refine lv_topi (fun x1_2 ex1_2 => ?_)
      have hm := hm x1_2 ex1_2
      refine lv_istore_n (lv' := [(1, .int x1_2), (0, .ref (ad 0)), (2, .int x2)]) hx hb dX7_shortestOf_15 rfl hl (by decide) rfl (fun ls hl => ?_)
      obtain ⟨x2_3, ex2_3⟩ : ∃ y : Int32, y = x2 + (1 : Int32) := ⟨_, rfl⟩
      have hm := hm x2_3 ex2_3
      refine lv_iinc (v := x2_3) (lv' := [(2, .int x2_3), (1, .int x1_2), (0, .ref (ad 0))]) hx hb dX7_shortestOf_16 hl (k := 2) rfl (by rw [ex2_3]; rfl) (by decide) rfl (fun ls hl => ?_)
      refine lv_goto (tgt := 4) hx hb dX7_shortestOf_19 (by decide) ?_
      exact ih x1_2 x2_3 mpl mbs mlo H locs ls hm ⟨hP, hD, hS⟩ (lv_sub hl [2, 1, 0] rfl) hret

set_option maxHeartbeats 4000000 in
set_option maxRecDepth 100000 in
theorem k_X7_shortestOf_0 {N : Nat} {mti : Nat → Int32} {mow : Nat → Int32} {mjo : Int32} {mta : Nat → Int64} {mba : Nat → Int32} {mib : Nat → Int32} {mdi : Int64} {mab : Nat → Int64} {mbe : Nat → Int64} {mro : Nat → Int32} {mth : Int32} {Q : Int32 → (Nat → Int32) → (Nat → Int32) → (Nat → Int32) → Prop} (C0 : cxM cX7_shortestOf 8 (some .int) RX7 wsX7_shortestOf p s m args meth c dC dI cy A) :
    ∀ (mpl : Nat → Int32) (mbs : Nat → Int32) (mlo : Nat → Int32) (H : Heap) (locs : List Loc) (ls : Array Slot) (hm : p_X7_shortestOf N mti mjo Q mpl mbs mlo) (hSt : stC dC dI A s (wM ad cy mti mow mjo mta mba mib mdi mab mbe mpl mbs mro mlo mth) H locs) (hl : lv_has ls 8 [(0, .ref (ad 0))]) (hret : ∀ (r : Int32) (mpl : Nat → Int32) (mbs : Nat → Int32) (mlo : Nat → Int32) (H : Heap) (locs : List Loc) (ls : Array Slot) (pc : Nat), decode cX7_shortestOf pc = .ok (.ireturn, 1) → stC dC dI A s (wM ad cy mti mow mjo mta mba mib mdi mab mbe mpl mbs mro mlo mth) H locs → Q r mpl mbs mlo → W p l e rmX7_shortestOf s m args below meth c H locs 0 0 Z (F0 m pc ls [.int r])), W p l e rmX7_shortestOf s m args below meth c H locs 0 0 Z (F0 m 0 ls []) := by
  obtain ⟨hx, hb, hml, hr, hown, hts, hlocks, hK, hA, hN⟩ := id C0
  intro mpl mbs mlo H locs ls hm hSt hl hret
  obtain ⟨hP, hD, hS⟩ := hSt
  unfold p_X7_shortestOf at hm
  refine lv_iconst (v := 1) hx hb dX7_shortestOf_0 (by decide) ?_
  refine lv_istore_n (lv' := [(1, .int (1 : Int32)), (0, .ref (ad 0))]) hx hb dX7_shortestOf_1 rfl hl (by decide) rfl (fun ls hl => ?_)
  refine lv_iconst (v := 0) hx hb dX7_shortestOf_2 (by decide) ?_
  refine lv_istore_n (lv' := [(2, .int (0 : Int32)), (1, .int (1 : Int32)), (0, .ref (ad 0))]) hx hb dX7_shortestOf_3 rfl hl (by decide) rfl (fun ls hl => ?_)
  exact k_X7_shortestOf_4 C0 N (1 : Int32) (0 : Int32) mpl mbs mlo H locs ls hm ⟨hP, hD, hS⟩ (lv_sub hl [2, 1, 0] rfl) hret

set_option maxHeartbeats 4000000 in
set_option maxRecDepth 100000 in
theorem c_X7_shortestOf (l : Launch) (dC : Nat → ClassId) (dI : Nat → Nat → Nat) (cy : Nat → ClassId) (ad : Nat → Nat) (sz : Nat) (mti : Nat → Int32) (mow : Nat → Int32) (mjo : Int32) (mta : Nat → Int64) (mba : Nat → Int32) (mib : Nat → Int32) (mdi : Int64) (mab : Nat → Int64) (mbe : Nat → Int64) (mpl : Nat → Int32) (mbs : Nat → Int32) (mro : Nat → Int32) (mlo : Nat → Int32) (mth : Int32)  (N : Nat) (Q : Int32 → (Nat → Int32) → (Nat → Int32) → (Nat → Int32) → Prop) (hm : p_X7_shortestOf N mti mjo Q mpl mbs mlo) : Met l yX7_shortestOf wsX7_shortestOf rmX7_shortestOf (va_Pc [.ref (ad 0)] (cPre dC dI cy (wM ad cy mti mow mjo mta mba mib mdi mab mbe mpl mbs mro mlo mth) sz)) (va_Qi (fun (r : Int32) (u : (Nat → Int32) × (Nat → Int32) × (Nat → Int32)) => Q r u.1 u.2.1 u.2.2) (fun u t => cPost dC dI cy (wM ad cy mti mow mjo mta mba mib mdi mab mbe mpl mbs mro mlo mth) sz (wM ad cy mti mow mjo mta mba mib mdi mab mbe (u.1) (u.2.1) mro (u.2.2) mth) t) (va_A (wM ad cy mti mow mjo mta mba mib mdi mab mbe mpl mbs mro mlo mth) sz)) 0 0 (va_A (wM ad cy mti mow mjo mta mba mib mdi mab mbe mpl mbs mro mlo mth) sz) := by
  refine Met.ofW (cc := cX7_shortestOf) (maxL := 8) (ret := (some .int)) (by decide) rfl ?_
  intro p e s m args below meth c s₁ B hml hv
  obtain ⟨rfl, hsz, hP, hK, hD0, hN⟩ := hv
  have hts := atoms_spec (ws := wsX7_shortestOf) B.pre
  have hown : s.vm.findClass RX7 = some m.cls := findClass_of_methodNamed B.named
  subst hsz
  have hD := hD0.self (sz := s.heap.size)
  generalize hAe : va_A (wM ad cy mti mow mjo mta mba mib mdi mab mbe mpl mbs mro mlo mth) s.heap.size = A at hD ⊢
  have hA : ∀ q : Nat, s.heap.size ≤ q → A q := fun q h => by rw [← hAe]; exact Or.inr h
  have hl := lv_entry ([.ref (ad 0)]) (n := 8) (Nat.le_of_ble_eq_true rfl)
  rw [lg_entry_eq]
  generalize (lg_sl ([.ref (ad 0)]) ++ List.replicate (8 - (lg_sl ([.ref (ad 0)])).length) Slot.unset).toArray = ls at hl ⊢
  have hl : lv_has ls 8 [(0, .ref (ad 0))] := hl
  exact k_X7_shortestOf_0 ⟨B.exec, B.bytes, hml, B.returns, hown, hts, B.notSynchronized, hK, hA, hN⟩ mpl mbs mlo s.heap [] ls hm ⟨hP, hD, va_S.rf⟩ (lv_sub hl [0] rfl) (fun r mpl mbs mlo H locs ls pc hdg hSt hq => W.iret B.exec B.bytes B.returns (fun t ht hW => ⟨⟨r, (mpl, mbs, mlo), rfl, hq, cPost_of hAe ht hW.alike hSt hK⟩, hSt.2.2.F ht⟩) hSt.2.2.2.2 hdg B.notSynchronized)

-- ===== X7_shortest
theorem fl_X7_shortest_45 : Cond.fieldLink RX7 45 "UnlikeUnionModel" "thrown" "I" ∈ wsX7_shortest := by decide +kernel
theorem in_X7_shortest_X7 : ∀ w ∈ u_ws RX7 TX7 14, w ∈ wsX7_shortest := by decide +kernel
abbrev rmX7_shortest : Room := { frames := 3, cells := 0, slots := 0, locals := 236 }
def p_X7_shortest (N : Nat) (mti : Nat → Int32) (mjo : Int32) (Q : Int32 → (Nat → Int32) → (Nat → Int32) → (Nat → Int32) → Int32 → Prop) (mpl : Nat → Int32) (mbs : Nat → Int32) (mlo : Nat → Int32) (mth : Int32) : Prop :=
  p_X7_shortestOf N mti mjo (fun r_1 mpl_2 mbs_3 mlo_4 => Q r_1 mpl_2 mbs_3 mlo_4 (0 : Int32)) mpl mbs mlo

set_option maxHeartbeats 4000000 in
set_option maxRecDepth 100000 in
theorem k_X7_shortest_0 {N : Nat} {mti : Nat → Int32} {mow : Nat → Int32} {mjo : Int32} {mta : Nat → Int64} {mba : Nat → Int32} {mib : Nat → Int32} {mdi : Int64} {mab : Nat → Int64} {mbe : Nat → Int64} {mro : Nat → Int32} {Q : Int32 → (Nat → Int32) → (Nat → Int32) → (Nat → Int32) → Int32 → Prop} (C0 : cxM cX7_shortest 1 (some .int) RX7 wsX7_shortest p s m args meth c dC dI cy A) :
    ∀ (mpl : Nat → Int32) (mbs : Nat → Int32) (mlo : Nat → Int32) (mth : Int32) (H : Heap) (locs : List Loc) (ls : Array Slot) (hm : p_X7_shortest N mti mjo Q mpl mbs mlo mth) (hSt : stC dC dI A s (wM ad cy mti mow mjo mta mba mib mdi mab mbe mpl mbs mro mlo mth) H locs) (hl : lv_has ls 1 [(0, .ref (ad 0))]) (hret : ∀ (r : Int32) (mpl : Nat → Int32) (mbs : Nat → Int32) (mlo : Nat → Int32) (mth : Int32) (H : Heap) (locs : List Loc) (ls : Array Slot) (pc : Nat), decode cX7_shortest pc = .ok (.ireturn, 1) → stC dC dI A s (wM ad cy mti mow mjo mta mba mib mdi mab mbe mpl mbs mro mlo mth) H locs → Q r mpl mbs mlo mth → W p l e rmX7_shortest s m args below meth c H locs 0 0 Z (F0 m pc ls [.int r])), W p l e rmX7_shortest s m args below meth c H locs 0 0 Z (F0 m 0 ls []) := by
  obtain ⟨hx, hb, hml, hr, hown, hts, hlocks, hK, hA, hN⟩ := id C0
  intro mpl mbs mlo mth H locs ls hm hSt hl hret
  obtain ⟨hP, hD, hS⟩ := hSt
  unfold p_X7_shortest at hm
  refine lv_aload_n hx hb dX7_shortest_0 rfl (lv_at hl 0 rfl) ?_
  refine lv_iconst (v := 0) hx hb dX7_shortest_1 (by decide) ?_
  refine va_put (D := (dC, dI)) (ci := 7) (v := .int (0 : Int32)) (ty := .int) (C := RX7) (T := TX7) (N := 14) hx hb hts in_X7_shortest_X7 tyX7 tyX7_ok nmX7 hown hK hP hD hS 0 rfl rfl 13 (by decide) (hts _ fl_X7_shortest_45) (fun _ h9 => h9) rfl (by decide +kernel) rfl rfl (Nat.le_of_ble_eq_true rfl) dX7_shortest_2 (fun H locs hP hD hS => ?_)
  have hP : va_P (dC, dI) vwCl (wM ad cy mti mow mjo mta mba mib mdi mab mbe mpl mbs mro mlo (0 : Int32)) H := hP
  have hD : va_D A (wM ad cy mti mow mjo mta mba mib mdi mab mbe mpl mbs mro mlo (0 : Int32)) := hD
  refine lv_aload_n hx hb dX7_shortest_5 rfl (lv_at hl 0 rfl) ?_
  have hFc := va_freeSame hD hS hA
  refine va_calli (va_runV (As := []) (rest := []) ⟨hx, hb, hml, hown, hts⟩ (c_X7_shortestOf l dC dI cy ad H.size mti mow mjo mta mba mib mdi mab mbe mpl mbs mro mlo (0 : Int32)  _ _ hm) (cwV 0 hts gX7_shortest_X7_shortestOf rfl rfl rfl (by decide +kernel) ⟨Nat.le_of_ble_eq_true rfl, Nat.le_of_ble_eq_true rfl⟩) ⟨cPre_blind, va_recv hK hP (ci := 7) (q0 := 0) rfl rfl, fun U hU hW => ⟨rfl, cPre_at hP hK hD hN hU hW⟩⟩ rfl rfl hl.1 rfl (lv_room (Nat.le_of_ble_eq_true rfl)) dX7_shortest_6 ⟨Nat.zero_le _, Nat.zero_le _⟩) hS (fun q _ h => hFc q h) hFc (fun r_1 u t H locs ht hvm hw hB hz1 hk1 hS => ?_)
  obtain ⟨mpl_2, mbs_3, mlo_4⟩ := u
  try dsimp only at hw
  have hm := hw
  have hP : va_P (dC, dI) vwCl (wM ad cy mti mow mjo mta mba mib mdi mab mbe mpl_2 mbs_3 mro mlo_4 (0 : Int32)) H := cPost_P ht hB
  have hD : va_D A (wM ad cy mti mow mjo mta mba mib mdi mab mbe mpl_2 mbs_3 mro mlo_4 (0 : Int32)) := cPost_D hFc hB
  exact hret r_1 mpl_2 mbs_3 mlo_4 (0 : Int32) H locs ls 9 dX7_shortest_9 ⟨hP, hD, hS⟩ hm

set_option maxHeartbeats 4000000 in
set_option maxRecDepth 100000 in
theorem c_X7_shortest (l : Launch) (dC : Nat → ClassId) (dI : Nat → Nat → Nat) (cy : Nat → ClassId) (ad : Nat → Nat) (sz : Nat) (mti : Nat → Int32) (mow : Nat → Int32) (mjo : Int32) (mta : Nat → Int64) (mba : Nat → Int32) (mib : Nat → Int32) (mdi : Int64) (mab : Nat → Int64) (mbe : Nat → Int64) (mpl : Nat → Int32) (mbs : Nat → Int32) (mro : Nat → Int32) (mlo : Nat → Int32) (mth : Int32)  (N : Nat) (Q : Int32 → (Nat → Int32) → (Nat → Int32) → (Nat → Int32) → Int32 → Prop) (hm : p_X7_shortest N mti mjo Q mpl mbs mlo mth) : Met l yX7_shortest wsX7_shortest rmX7_shortest (va_Pc [.ref (ad 0)] (cPre dC dI cy (wM ad cy mti mow mjo mta mba mib mdi mab mbe mpl mbs mro mlo mth) sz)) (va_Qi (fun (r : Int32) (u : (Nat → Int32) × (Nat → Int32) × (Nat → Int32) × Int32) => Q r u.1 u.2.1 u.2.2.1 u.2.2.2) (fun u t => cPost dC dI cy (wM ad cy mti mow mjo mta mba mib mdi mab mbe mpl mbs mro mlo mth) sz (wM ad cy mti mow mjo mta mba mib mdi mab mbe (u.1) (u.2.1) mro (u.2.2.1) (u.2.2.2)) t) (va_A (wM ad cy mti mow mjo mta mba mib mdi mab mbe mpl mbs mro mlo mth) sz)) 0 0 (va_A (wM ad cy mti mow mjo mta mba mib mdi mab mbe mpl mbs mro mlo mth) sz) := by
  refine Met.ofW (cc := cX7_shortest) (maxL := 1) (ret := (some .int)) (by decide) rfl ?_
  intro p e s m args below meth c s₁ B hml hv
  obtain ⟨rfl, hsz, hP, hK, hD0, hN⟩ := hv
  have hts := atoms_spec (ws := wsX7_shortest) B.pre
  have hown : s.vm.findClass RX7 = some m.cls := findClass_of_methodNamed B.named
  subst hsz
  have hD := hD0.self (sz := s.heap.size)
  generalize hAe : va_A (wM ad cy mti mow mjo mta mba mib mdi mab mbe mpl mbs mro mlo mth) s.heap.size = A at hD ⊢
  have hA : ∀ q : Nat, s.heap.size ≤ q → A q := fun q h => by rw [← hAe]; exact Or.inr h
  have hl := lv_entry ([.ref (ad 0)]) (n := 1) (Nat.le_of_ble_eq_true rfl)
  rw [lg_entry_eq]
  generalize (lg_sl ([.ref (ad 0)]) ++ List.replicate (1 - (lg_sl ([.ref (ad 0)])).length) Slot.unset).toArray = ls at hl ⊢
  have hl : lv_has ls 1 [(0, .ref (ad 0))] := hl
  exact k_X7_shortest_0 ⟨B.exec, B.bytes, hml, B.returns, hown, hts, B.notSynchronized, hK, hA, hN⟩ mpl mbs mlo mth s.heap [] ls hm ⟨hP, hD, va_S.rf⟩ (lv_sub hl [0] rfl) (fun r mpl mbs mlo mth H locs ls pc hdg hSt hq => W.iret B.exec B.bytes B.returns (fun t ht hW => ⟨⟨r, (mpl, mbs, mlo, mth), rfl, hq, cPost_of hAe ht hW.alike hSt hK⟩, hSt.2.2.F ht⟩) hSt.2.2.2.2 hdg B.notSynchronized)

-- ===== X7_shortestByTrying
abbrev rmX7_shortestByTrying : Room := { frames := 4, cells := 0, slots := 0, locals := 316 }
def p_X7_shortestByTrying (N : Nat) (mti : Nat → Int32) (mjo : Int32) (Q : Int32 → (Nat → Int32) → (Nat → Int32) → (Nat → Int32) → Int32 → Prop) (mpl : Nat → Int32) (mbs : Nat → Int32) (mlo : Nat → Int32) (mth : Int32) : Prop :=
  p_X7_shortest N mti mjo (fun r_1 mpl_2 mbs_3 mlo_4 mth_5 => Q r_1 mpl_2 mbs_3 mlo_4 mth_5) mpl mbs mlo mth

set_option maxHeartbeats 4000000 in
set_option maxRecDepth 100000 in
theorem k_X7_shortestByTrying_0 {N : Nat} {mti : Nat → Int32} {mow : Nat → Int32} {mjo : Int32} {mta : Nat → Int64} {mba : Nat → Int32} {mib : Nat → Int32} {mdi : Int64} {mab : Nat → Int64} {mbe : Nat → Int64} {mro : Nat → Int32} {Q : Int32 → (Nat → Int32) → (Nat → Int32) → (Nat → Int32) → Int32 → Prop} (C0 : cxM cX7_shortestByTrying 1 (some .int) RX7 wsX7_shortestByTrying p s m args meth c dC dI cy A) :
    ∀ (mpl : Nat → Int32) (mbs : Nat → Int32) (mlo : Nat → Int32) (mth : Int32) (H : Heap) (locs : List Loc) (ls : Array Slot) (hm : p_X7_shortestByTrying N mti mjo Q mpl mbs mlo mth) (hSt : stC dC dI A s (wM ad cy mti mow mjo mta mba mib mdi mab mbe mpl mbs mro mlo mth) H locs) (hl : lv_has ls 1 [(0, .ref (ad 0))]) (hret : ∀ (r : Int32) (mpl : Nat → Int32) (mbs : Nat → Int32) (mlo : Nat → Int32) (mth : Int32) (H : Heap) (locs : List Loc) (ls : Array Slot) (pc : Nat), decode cX7_shortestByTrying pc = .ok (.ireturn, 1) → stC dC dI A s (wM ad cy mti mow mjo mta mba mib mdi mab mbe mpl mbs mro mlo mth) H locs → Q r mpl mbs mlo mth → W p l e rmX7_shortestByTrying s m args below meth c H locs 0 0 Z (F0 m pc ls [.int r])), W p l e rmX7_shortestByTrying s m args below meth c H locs 0 0 Z (F0 m 0 ls []) := by
  obtain ⟨hx, hb, hml, hr, hown, hts, hlocks, hK, hA, hN⟩ := id C0
  intro mpl mbs mlo mth H locs ls hm hSt hl hret
  obtain ⟨hP, hD, hS⟩ := hSt
  unfold p_X7_shortestByTrying at hm
  refine lv_aload_n hx hb dX7_shortestByTrying_0 rfl (lv_at hl 0 rfl) ?_
  have hFc := va_freeSame hD hS hA
  refine va_calli (va_runV (As := []) (rest := []) ⟨hx, hb, hml, hown, hts⟩ (c_X7_shortest l dC dI cy ad H.size mti mow mjo mta mba mib mdi mab mbe mpl mbs mro mlo mth  _ _ hm) (cwV 0 hts gX7_shortestByTrying_X7_shortest rfl rfl rfl (by decide +kernel) ⟨Nat.le_of_ble_eq_true rfl, Nat.le_of_ble_eq_true rfl⟩) ⟨cPre_blind, va_recv hK hP (ci := 7) (q0 := 0) rfl rfl, fun U hU hW => ⟨rfl, cPre_at hP hK hD hN hU hW⟩⟩ rfl rfl hl.1 rfl (lv_room (Nat.le_of_ble_eq_true rfl)) dX7_shortestByTrying_1 ⟨Nat.zero_le _, Nat.zero_le _⟩) hS (fun q _ h => hFc q h) hFc (fun r_1 u t H locs ht hvm hw hB hz1 hk1 hS => ?_)
  obtain ⟨mpl_2, mbs_3, mlo_4, mth_5⟩ := u
  try dsimp only at hw
  have hm := hw
  have hP : va_P (dC, dI) vwCl (wM ad cy mti mow mjo mta mba mib mdi mab mbe mpl_2 mbs_3 mro mlo_4 mth_5) H := cPost_P ht hB
  have hD : va_D A (wM ad cy mti mow mjo mta mba mib mdi mab mbe mpl_2 mbs_3 mro mlo_4 mth_5) := cPost_D hFc hB
  exact hret r_1 mpl_2 mbs_3 mlo_4 mth_5 H locs ls 4 dX7_shortestByTrying_4 ⟨hP, hD, hS⟩ hm

set_option maxHeartbeats 4000000 in
set_option maxRecDepth 100000 in
theorem c_X7_shortestByTrying (l : Launch) (dC : Nat → ClassId) (dI : Nat → Nat → Nat) (cy : Nat → ClassId) (ad : Nat → Nat) (sz : Nat) (mti : Nat → Int32) (mow : Nat → Int32) (mjo : Int32) (mta : Nat → Int64) (mba : Nat → Int32) (mib : Nat → Int32) (mdi : Int64) (mab : Nat → Int64) (mbe : Nat → Int64) (mpl : Nat → Int32) (mbs : Nat → Int32) (mro : Nat → Int32) (mlo : Nat → Int32) (mth : Int32)  (N : Nat) (Q : Int32 → (Nat → Int32) → (Nat → Int32) → (Nat → Int32) → Int32 → Prop) (hm : p_X7_shortestByTrying N mti mjo Q mpl mbs mlo mth) : Met l yX7_shortestByTrying wsX7_shortestByTrying rmX7_shortestByTrying (va_Pc [.ref (ad 0)] (cPre dC dI cy (wM ad cy mti mow mjo mta mba mib mdi mab mbe mpl mbs mro mlo mth) sz)) (va_Qi (fun (r : Int32) (u : (Nat → Int32) × (Nat → Int32) × (Nat → Int32) × Int32) => Q r u.1 u.2.1 u.2.2.1 u.2.2.2) (fun u t => cPost dC dI cy (wM ad cy mti mow mjo mta mba mib mdi mab mbe mpl mbs mro mlo mth) sz (wM ad cy mti mow mjo mta mba mib mdi mab mbe (u.1) (u.2.1) mro (u.2.2.1) (u.2.2.2)) t) (va_A (wM ad cy mti mow mjo mta mba mib mdi mab mbe mpl mbs mro mlo mth) sz)) 0 0 (va_A (wM ad cy mti mow mjo mta mba mib mdi mab mbe mpl mbs mro mlo mth) sz) := by
  refine Met.ofW (cc := cX7_shortestByTrying) (maxL := 1) (ret := (some .int)) (by decide) rfl ?_
  intro p e s m args below meth c s₁ B hml hv
  obtain ⟨rfl, hsz, hP, hK, hD0, hN⟩ := hv
  have hts := atoms_spec (ws := wsX7_shortestByTrying) B.pre
  have hown : s.vm.findClass RX7 = some m.cls := findClass_of_methodNamed B.named
  subst hsz
  have hD := hD0.self (sz := s.heap.size)
  generalize hAe : va_A (wM ad cy mti mow mjo mta mba mib mdi mab mbe mpl mbs mro mlo mth) s.heap.size = A at hD ⊢
  have hA : ∀ q : Nat, s.heap.size ≤ q → A q := fun q h => by rw [← hAe]; exact Or.inr h
  have hl := lv_entry ([.ref (ad 0)]) (n := 1) (Nat.le_of_ble_eq_true rfl)
  rw [lg_entry_eq]
  generalize (lg_sl ([.ref (ad 0)]) ++ List.replicate (1 - (lg_sl ([.ref (ad 0)])).length) Slot.unset).toArray = ls at hl ⊢
  have hl : lv_has ls 1 [(0, .ref (ad 0))] := hl
  exact k_X7_shortestByTrying_0 ⟨B.exec, B.bytes, hml, B.returns, hown, hts, B.notSynchronized, hK, hA, hN⟩ mpl mbs mlo mth s.heap [] ls hm ⟨hP, hD, va_S.rf⟩ (lv_sub hl [0] rfl) (fun r mpl mbs mlo mth H locs ls pc hdg hSt hq => W.iret B.exec B.bytes B.returns (fun t ht hW => ⟨⟨r, (mpl, mbs, mlo, mth), rfl, hq, cPost_of hAe ht hW.alike hSt hK⟩, hSt.2.2.F ht⟩) hSt.2.2.2.2 hdg B.notSynchronized)

-- ===== X7_shortestMachine
theorem fl_X7_shortestMachine_36 : Cond.fieldLink RX7 36 "UnlikeUnionModel" "best" "[I" ∈ wsX7_shortestMachine := by decide +kernel
theorem in_X7_shortestMachine_X7 : ∀ w ∈ u_ws RX7 TX7 14, w ∈ wsX7_shortestMachine := by decide +kernel
abbrev rmX7_shortestMachine : Room := { frames := 3, cells := 0, slots := 0, locals := 236 }
def p_X7_shortestMachine (N : Nat) (mti : Nat → Int32) (mjo : Int32) (Q : Int32 → (Nat → Int32) → (Nat → Int32) → (Nat → Int32) → Int32 → Prop) (x1 : Int32) (mpl : Nat → Int32) (mbs : Nat → Int32) (mlo : Nat → Int32) (mth : Int32) : Prop :=
  p_X7_isJob N mjo (fun r_1 => p_X7_goes N (fun r_2 mth_3 => (r_2 = 0 → (Q (0 : Int32) mpl mbs mlo mth_3)) ∧ (¬ r_2 = 0 → (p_X7_shortestOf N mti mjo (fun r_5 mpl_6 mbs_7 mlo_8 => vp_in x1 7 ∧ (Q (mbs_7 (x1).toNatClampNeg) mpl_6 mbs_7 mlo_8 mth_3)) mpl mbs mlo))) r_1 (1 : Int32) (1 : Int32) mth) x1

set_option maxHeartbeats 4000000 in
set_option maxRecDepth 100000 in
theorem k_X7_shortestMachine_0 {N : Nat} {mti : Nat → Int32} {mow : Nat → Int32} {mjo : Int32} {mta : Nat → Int64} {mba : Nat → Int32} {mib : Nat → Int32} {mdi : Int64} {mab : Nat → Int64} {mbe : Nat → Int64} {mro : Nat → Int32} {Q : Int32 → (Nat → Int32) → (Nat → Int32) → (Nat → Int32) → Int32 → Prop} (C0 : cxM cX7_shortestMachine 2 (some .int) RX7 wsX7_shortestMachine p s m args meth c dC dI cy A) :
    ∀ (x1 : Int32) (mpl : Nat → Int32) (mbs : Nat → Int32) (mlo : Nat → Int32) (mth : Int32) (H : Heap) (locs : List Loc) (ls : Array Slot) (hm : p_X7_shortestMachine N mti mjo Q x1 mpl mbs mlo mth) (hSt : stC dC dI A s (wM ad cy mti mow mjo mta mba mib mdi mab mbe mpl mbs mro mlo mth) H locs) (hl : lv_has ls 2 [(0, .ref (ad 0)), (1, .int x1)]) (hret : ∀ (r : Int32) (mpl : Nat → Int32) (mbs : Nat → Int32) (mlo : Nat → Int32) (mth : Int32) (H : Heap) (locs : List Loc) (ls : Array Slot) (pc : Nat), decode cX7_shortestMachine pc = .ok (.ireturn, 1) → stC dC dI A s (wM ad cy mti mow mjo mta mba mib mdi mab mbe mpl mbs mro mlo mth) H locs → Q r mpl mbs mlo mth → W p l e rmX7_shortestMachine s m args below meth c H locs 0 0 Z (F0 m pc ls [.int r])), W p l e rmX7_shortestMachine s m args below meth c H locs 0 0 Z (F0 m 0 ls []) := by
  obtain ⟨hx, hb, hml, hr, hown, hts, hlocks, hK, hA, hN⟩ := id C0
  intro x1 mpl mbs mlo mth H locs ls hm hSt hl hret
  obtain ⟨hP, hD, hS⟩ := hSt
  unfold p_X7_shortestMachine at hm
  refine lv_aload_n hx hb dX7_shortestMachine_0 rfl (lv_at hl 0 rfl) ?_
  refine lv_aload_n hx hb dX7_shortestMachine_1 rfl (lv_at hl 0 rfl) ?_
  refine lv_iload_n hx hb dX7_shortestMachine_2 rfl (lv_at hl 1 rfl) ?_
  have hFc := va_freeSame hD hS hA
  refine va_calli (va_runV (As := [.int x1]) (rest := [.ref (ad 0)]) ⟨hx, hb, hml, hown, hts⟩ (c_X7_isJob l dC dI cy ad H.size mti mow mjo mta mba mib mdi mab mbe mpl mbs mro mlo mth x1 _ _ hm) (cwV 1 hts gX7_shortestMachine_X7_isJob rfl rfl rfl (by decide +kernel) ⟨Nat.le_of_ble_eq_true rfl, Nat.le_of_ble_eq_true rfl⟩) ⟨cPre_blind, va_recv hK hP (ci := 7) (q0 := 0) rfl rfl, fun U hU hW => ⟨rfl, cPre_at hP hK hD hN hU hW⟩⟩ rfl rfl hl.1 rfl (lv_room (Nat.le_of_ble_eq_true rfl)) dX7_shortestMachine_3 ⟨Nat.zero_le _, Nat.zero_le _⟩) hS (fun q _ h => hFc q h) hFc (fun r_1 u t H locs ht hvm hw hB hz1 hk1 hS => ?_)
  try dsimp only at hw
  obtain ⟨hm, nar_r_1⟩ := hw
  have hP : va_P (dC, dI) vwCl (wM ad cy mti mow mjo mta mba mib mdi mab mbe mpl mbs mro mlo mth) H := cPost_P ht hB
  have hD : va_D A (wM ad cy mti mow mjo mta mba mib mdi mab mbe mpl mbs mro mlo mth) := cPost_D hFc hB
  refine lv_iconst (v := 1) hx hb dX7_shortestMachine_6 (by decide) ?_
  refine lv_iconst (v := 1) hx hb dX7_shortestMachine_7 (by decide) ?_
  have hFc := va_freeSame hD hS hA
  refine va_calli (va_runV (As := [.int r_1, .int (1 : Int32), .int (1 : Int32)]) (rest := []) ⟨hx, hb, hml, hown, hts⟩ (c_X7_goes l dC dI cy ad H.size mti mow mjo mta mba mib mdi mab mbe mpl mbs mro mlo mth r_1 (1 : Int32) (1 : Int32) _ _ hm) (cwV 3 hts gX7_shortestMachine_X7_goes rfl rfl rfl (by decide +kernel) ⟨Nat.le_of_ble_eq_true rfl, Nat.le_of_ble_eq_true rfl⟩) ⟨cPre_blind, va_recv hK hP (ci := 7) (q0 := 0) rfl rfl, fun U hU hW => ⟨rfl, cPre_at hP hK hD hN hU hW⟩⟩ rfl rfl hl.1 rfl (lv_room (Nat.le_of_ble_eq_true rfl)) dX7_shortestMachine_8 ⟨Nat.zero_le _, Nat.zero_le _⟩) hS (fun q _ h => hFc q h) hFc (fun r_2 u t H locs ht hvm hw hB hz1 hk1 hS => ?_)
  obtain ⟨mth_3, rfl⟩ : ∃ z, z = u := ⟨_, rfl⟩
  try dsimp only at hw
  obtain ⟨hm, nar_r_2⟩ := hw
  have hP : va_P (dC, dI) vwCl (wM ad cy mti mow mjo mta mba mib mdi mab mbe mpl mbs mro mlo mth_3) H := cPost_P ht hB
  have hD : va_D A (wM ad cy mti mow mjo mta mba mib mdi mab mbe mpl mbs mro mlo mth_3) := cPost_D hFc hB
  refine lv_if_ne (tgt := 16) hx hb dX7_shortestMachine_11 (by decide) (fun c_4 => ?_) (fun c_4 => ?_)
  · have hm := hm.2 c_4
    refine lv_aload_n hx hb dX7_shortestMachine_16 rfl (lv_at hl 0 rfl) ?_
    have hFc := va_freeSame hD hS hA
    refine va_calli (va_runV (As := []) (rest := []) ⟨hx, hb, hml, hown, hts⟩ (c_X7_shortestOf l dC dI cy ad H.size mti mow mjo mta mba mib mdi mab mbe mpl mbs mro mlo mth_3  _ _ hm) (cwV 0 hts gX7_shortestMachine_X7_shortestOf rfl rfl rfl (by decide +kernel) ⟨Nat.le_of_ble_eq_true rfl, Nat.le_of_ble_eq_true rfl⟩) ⟨cPre_blind, va_recv hK hP (ci := 7) (q0 := 0) rfl rfl, fun U hU hW => ⟨rfl, cPre_at hP hK hD hN hU hW⟩⟩ rfl rfl hl.1 rfl (lv_room (Nat.le_of_ble_eq_true rfl)) dX7_shortestMachine_17 ⟨Nat.zero_le _, Nat.zero_le _⟩) hS (fun q _ h => hFc q h) hFc (fun r_5 u t H locs ht hvm hw hB hz1 hk1 hS => ?_)
    obtain ⟨mpl_6, mbs_7, mlo_8⟩ := u
    try dsimp only at hw
    have hm := hw
    have hP : va_P (dC, dI) vwCl (wM ad cy mti mow mjo mta mba mib mdi mab mbe mpl_6 mbs_7 mro mlo_8 mth_3) H := cPost_P ht hB
    have hD : va_D A (wM ad cy mti mow mjo mta mba mib mdi mab mbe mpl_6 mbs_7 mro mlo_8 mth_3) := cPost_D hFc hB
    refine lv_pop hx hb dX7_shortestMachine_20 rfl ?_
    refine lv_aload_n hx hb dX7_shortestMachine_21 rfl (lv_at hl 0 rfl) ?_
    refine va_get (D := (dC, dI)) (ci := 7) (v := .ref (ad 9)) (C := RX7) (T := TX7) (N := 14) hx hb hts in_X7_shortestMachine_X7 hown hK hP 0 rfl rfl 10 (by decide) (hts _ fl_X7_shortestMachine_36) (fun _ h9 => h9) rfl dX7_shortestMachine_22 ?_
    refine lv_iload_n hx hb dX7_shortestMachine_25 rfl (lv_at hl 1 rfl) ?_
    have hi_9 := hm.1
    have hm := hm.2
    refine va_iald hx hb hK hP 9 0 rfl rfl hi_9 dX7_shortestMachine_26 ?_
    exact hret (mbs_7 (x1).toNatClampNeg) mpl_6 mbs_7 mlo_8 mth_3 H locs ls 27 dX7_shortestMachine_27 ⟨hP, hD, hS⟩ hm
  · have hm := hm.1 c_4
    refine lv_iconst (v := 0) hx hb dX7_shortestMachine_14 (by decide) ?_
    exact hret (0 : Int32) mpl mbs mlo mth_3 H locs ls 15 dX7_shortestMachine_15 ⟨hP, hD, hS⟩ hm

set_option maxHeartbeats 4000000 in
set_option maxRecDepth 100000 in
theorem c_X7_shortestMachine (l : Launch) (dC : Nat → ClassId) (dI : Nat → Nat → Nat) (cy : Nat → ClassId) (ad : Nat → Nat) (sz : Nat) (mti : Nat → Int32) (mow : Nat → Int32) (mjo : Int32) (mta : Nat → Int64) (mba : Nat → Int32) (mib : Nat → Int32) (mdi : Int64) (mab : Nat → Int64) (mbe : Nat → Int64) (mpl : Nat → Int32) (mbs : Nat → Int32) (mro : Nat → Int32) (mlo : Nat → Int32) (mth : Int32) (x1 : Int32) (N : Nat) (Q : Int32 → (Nat → Int32) → (Nat → Int32) → (Nat → Int32) → Int32 → Prop) (hm : p_X7_shortestMachine N mti mjo Q x1 mpl mbs mlo mth) : Met l yX7_shortestMachine wsX7_shortestMachine rmX7_shortestMachine (va_Pc [.ref (ad 0), .int x1] (cPre dC dI cy (wM ad cy mti mow mjo mta mba mib mdi mab mbe mpl mbs mro mlo mth) sz)) (va_Qi (fun (r : Int32) (u : (Nat → Int32) × (Nat → Int32) × (Nat → Int32) × Int32) => Q r u.1 u.2.1 u.2.2.1 u.2.2.2) (fun u t => cPost dC dI cy (wM ad cy mti mow mjo mta mba mib mdi mab mbe mpl mbs mro mlo mth) sz (wM ad cy mti mow mjo mta mba mib mdi mab mbe (u.1) (u.2.1) mro (u.2.2.1) (u.2.2.2)) t) (va_A (wM ad cy mti mow mjo mta mba mib mdi mab mbe mpl mbs mro mlo mth) sz)) 0 0 (va_A (wM ad cy mti mow mjo mta mba mib mdi mab mbe mpl mbs mro mlo mth) sz) := by
  refine Met.ofW (cc := cX7_shortestMachine) (maxL := 2) (ret := (some .int)) (by decide) rfl ?_
  intro p e s m args below meth c s₁ B hml hv
  obtain ⟨rfl, hsz, hP, hK, hD0, hN⟩ := hv
  have hts := atoms_spec (ws := wsX7_shortestMachine) B.pre
  have hown : s.vm.findClass RX7 = some m.cls := findClass_of_methodNamed B.named
  subst hsz
  have hD := hD0.self (sz := s.heap.size)
  generalize hAe : va_A (wM ad cy mti mow mjo mta mba mib mdi mab mbe mpl mbs mro mlo mth) s.heap.size = A at hD ⊢
  have hA : ∀ q : Nat, s.heap.size ≤ q → A q := fun q h => by rw [← hAe]; exact Or.inr h
  have hl := lv_entry ([.ref (ad 0), .int x1]) (n := 2) (Nat.le_of_ble_eq_true rfl)
  rw [lg_entry_eq]
  generalize (lg_sl ([.ref (ad 0), .int x1]) ++ List.replicate (2 - (lg_sl ([.ref (ad 0), .int x1])).length) Slot.unset).toArray = ls at hl ⊢
  have hl : lv_has ls 2 [(0, .ref (ad 0)), (1, .int x1)] := hl
  exact k_X7_shortestMachine_0 ⟨B.exec, B.bytes, hml, B.returns, hown, hts, B.notSynchronized, hK, hA, hN⟩ x1 mpl mbs mlo mth s.heap [] ls hm ⟨hP, hD, va_S.rf⟩ (lv_sub hl [0, 1] rfl) (fun r mpl mbs mlo mth H locs ls pc hdg hSt hq => W.iret B.exec B.bytes B.returns (fun t ht hW => ⟨⟨r, (mpl, mbs, mlo, mth), rfl, hq, cPost_of hAe ht hW.alike hSt hK⟩, hSt.2.2.F ht⟩) hSt.2.2.2.2 hdg B.notSynchronized)

-- ===== X7_load
theorem fl_X7_load_13 : Cond.fieldLink RX7 13 "UnlikeUnionModel" "own" "[I" ∈ wsX7_load := by decide +kernel
theorem fl_X7_load_42 : Cond.fieldLink RX7 42 "UnlikeUnionModel" "load" "[I" ∈ wsX7_load := by decide +kernel
theorem in_X7_load_X7 : ∀ w ∈ u_ws RX7 TX7 14, w ∈ wsX7_load := by decide +kernel
abbrev rmX7_load : Room := { frames := 2, cells := 0, slots := 0, locals := 149 }
def p_X7_load (N : Nat) (mti : Nat → Int32) (mow : Nat → Int32) (mjo : Int32) (Q : Int32 → (Nat → Int32) → Int32 → Prop) (x1 : Int32) (mlo : Nat → Int32) (mth : Int32) : Prop :=
  p_X7_isMachine N (fun r_1 => p_X7_goes N (fun r_2 mth_3 => (r_2 = 0 → (Q (0 : Int32) mlo mth_3)) ∧ (¬ r_2 = 0 → (p_X7_measures N mow mti mjo (fun r_5 mlo_6 => vp_in x1 3 ∧ (Q (mlo_6 (x1).toNatClampNeg) mlo_6 mth_3)) mlo))) r_1 (1 : Int32) (1 : Int32) mth) x1

set_option maxHeartbeats 4000000 in
set_option maxRecDepth 100000 in
theorem k_X7_load_0 {N : Nat} {mti : Nat → Int32} {mow : Nat → Int32} {mjo : Int32} {mta : Nat → Int64} {mba : Nat → Int32} {mib : Nat → Int32} {mdi : Int64} {mab : Nat → Int64} {mbe : Nat → Int64} {mpl : Nat → Int32} {mbs : Nat → Int32} {mro : Nat → Int32} {Q : Int32 → (Nat → Int32) → Int32 → Prop} (C0 : cxM cX7_load 2 (some .int) RX7 wsX7_load p s m args meth c dC dI cy A) :
    ∀ (x1 : Int32) (mlo : Nat → Int32) (mth : Int32) (H : Heap) (locs : List Loc) (ls : Array Slot) (hm : p_X7_load N mti mow mjo Q x1 mlo mth) (hSt : stC dC dI A s (wM ad cy mti mow mjo mta mba mib mdi mab mbe mpl mbs mro mlo mth) H locs) (hl : lv_has ls 2 [(0, .ref (ad 0)), (1, .int x1)]) (hret : ∀ (r : Int32) (mlo : Nat → Int32) (mth : Int32) (H : Heap) (locs : List Loc) (ls : Array Slot) (pc : Nat), decode cX7_load pc = .ok (.ireturn, 1) → stC dC dI A s (wM ad cy mti mow mjo mta mba mib mdi mab mbe mpl mbs mro mlo mth) H locs → Q r mlo mth → W p l e rmX7_load s m args below meth c H locs 0 0 Z (F0 m pc ls [.int r])), W p l e rmX7_load s m args below meth c H locs 0 0 Z (F0 m 0 ls []) := by
  obtain ⟨hx, hb, hml, hr, hown, hts, hlocks, hK, hA, hN⟩ := id C0
  intro x1 mlo mth H locs ls hm hSt hl hret
  obtain ⟨hP, hD, hS⟩ := hSt
  unfold p_X7_load at hm
  refine lv_aload_n hx hb dX7_load_0 rfl (lv_at hl 0 rfl) ?_
  refine lv_iload_n hx hb dX7_load_1 rfl (lv_at hl 1 rfl) ?_
  have hFc := va_freeSame hD hS hA
  refine va_calli (va_runS (As := [.int x1]) (rest := [.ref (ad 0)]) ⟨hx, hb, hml, hown, hts⟩ (c_X7_isMachine l dC dI cy ad H.size mti mow mjo mta mba mib mdi mab mbe mpl mbs mro mlo mth x1 _ _ hm) (cwS 1 hts gX7_load_X7_isMachine rfl rfl rfl (by decide +kernel) ⟨Nat.le_of_ble_eq_true rfl, Nat.le_of_ble_eq_true rfl⟩) ⟨cPre_blind, fun U hU hW => ⟨rfl, cPre_at hP hK hD hN hU hW⟩⟩ rfl rfl hl.1 rfl (lv_room (Nat.le_of_ble_eq_true rfl)) dX7_load_2 ⟨Nat.zero_le _, Nat.zero_le _⟩) hS (fun q _ h => hFc q h) hFc (fun r_1 u t H locs ht hvm hw hB hz1 hk1 hS => ?_)
  try dsimp only at hw
  obtain ⟨hm, nar_r_1⟩ := hw
  have hP : va_P (dC, dI) vwCl (wM ad cy mti mow mjo mta mba mib mdi mab mbe mpl mbs mro mlo mth) H := cPost_P ht hB
  have hD : va_D A (wM ad cy mti mow mjo mta mba mib mdi mab mbe mpl mbs mro mlo mth) := cPost_D hFc hB
  refine lv_iconst (v := 1) hx hb dX7_load_5 (by decide) ?_
  refine lv_iconst (v := 1) hx hb dX7_load_6 (by decide) ?_
  have hFc := va_freeSame hD hS hA
  refine va_calli (va_runV (As := [.int r_1, .int (1 : Int32), .int (1 : Int32)]) (rest := []) ⟨hx, hb, hml, hown, hts⟩ (c_X7_goes l dC dI cy ad H.size mti mow mjo mta mba mib mdi mab mbe mpl mbs mro mlo mth r_1 (1 : Int32) (1 : Int32) _ _ hm) (cwV 3 hts gX7_load_X7_goes rfl rfl rfl (by decide +kernel) ⟨Nat.le_of_ble_eq_true rfl, Nat.le_of_ble_eq_true rfl⟩) ⟨cPre_blind, va_recv hK hP (ci := 7) (q0 := 0) rfl rfl, fun U hU hW => ⟨rfl, cPre_at hP hK hD hN hU hW⟩⟩ rfl rfl hl.1 rfl (lv_room (Nat.le_of_ble_eq_true rfl)) dX7_load_7 ⟨Nat.zero_le _, Nat.zero_le _⟩) hS (fun q _ h => hFc q h) hFc (fun r_2 u t H locs ht hvm hw hB hz1 hk1 hS => ?_)
  obtain ⟨mth_3, rfl⟩ : ∃ z, z = u := ⟨_, rfl⟩
  try dsimp only at hw
  obtain ⟨hm, nar_r_2⟩ := hw
  have hP : va_P (dC, dI) vwCl (wM ad cy mti mow mjo mta mba mib mdi mab mbe mpl mbs mro mlo mth_3) H := cPost_P ht hB
  have hD : va_D A (wM ad cy mti mow mjo mta mba mib mdi mab mbe mpl mbs mro mlo mth_3) := cPost_D hFc hB
  refine lv_if_ne (tgt := 15) hx hb dX7_load_10 (by decide) (fun c_4 => ?_) (fun c_4 => ?_)
  · have hm := hm.2 c_4
    refine lv_aload_n hx hb dX7_load_15 rfl (lv_at hl 0 rfl) ?_
    refine lv_aload_n hx hb dX7_load_16 rfl (lv_at hl 0 rfl) ?_
    refine va_get (D := (dC, dI)) (ci := 7) (v := .ref (ad 2)) (C := RX7) (T := TX7) (N := 14) hx hb hts in_X7_load_X7 hown hK hP 0 rfl rfl 1 (by decide) (hts _ fl_X7_load_13) (fun _ h9 => h9) rfl dX7_load_17 ?_
    have hFc := va_freeSame hD hS hA
    refine va_calli (va_runV (As := [.ref (ad 2)]) (rest := []) ⟨hx, hb, hml, hown, hts⟩ (c_X7_measures_o l dC dI cy ad H.size mti mow mjo mta mba mib mdi mab mbe mpl mbs mro mlo mth_3  _ _ hm) (cwV 1 hts gX7_load_X7_measures rfl rfl rfl (by decide +kernel) ⟨Nat.le_of_ble_eq_true rfl, Nat.le_of_ble_eq_true rfl⟩) ⟨cPre_blind, va_recv hK hP (ci := 7) (q0 := 0) rfl rfl, fun U hU hW => ⟨rfl, cPre_at hP hK hD hN hU hW⟩⟩ rfl rfl hl.1 rfl (lv_room (Nat.le_of_ble_eq_true rfl)) dX7_load_20 ⟨Nat.zero_le _, Nat.zero_le _⟩) hS (fun q _ h => hFc q h) hFc (fun r_5 u t H locs ht hvm hw hB hz1 hk1 hS => ?_)
    obtain ⟨mlo_6, rfl⟩ : ∃ z, z = u := ⟨_, rfl⟩
    try dsimp only at hw
    have hm := hw
    have hP : va_P (dC, dI) vwCl (wM ad cy mti mow mjo mta mba mib mdi mab mbe mpl mbs mro mlo_6 mth_3) H := cPost_P ht hB
    have hD : va_D A (wM ad cy mti mow mjo mta mba mib mdi mab mbe mpl mbs mro mlo_6 mth_3) := cPost_D hFc hB
    refine lv_pop hx hb dX7_load_23 rfl ?_
    refine lv_aload_n hx hb dX7_load_24 rfl (lv_at hl 0 rfl) ?_
    refine va_get (D := (dC, dI)) (ci := 7) (v := .ref (ad 11)) (C := RX7) (T := TX7) (N := 14) hx hb hts in_X7_load_X7 hown hK hP 0 rfl rfl 12 (by decide) (hts _ fl_X7_load_42) (fun _ h9 => h9) rfl dX7_load_25 ?_
    refine lv_iload_n hx hb dX7_load_28 rfl (lv_at hl 1 rfl) ?_
    have hi_7 := hm.1
    have hm := hm.2
    refine va_iald hx hb hK hP 11 0 rfl rfl hi_7 dX7_load_29 ?_
    exact hret (mlo_6 (x1).toNatClampNeg) mlo_6 mth_3 H locs ls 30 dX7_load_30 ⟨hP, hD, hS⟩ hm
  · have hm := hm.1 c_4
    refine lv_iconst (v := 0) hx hb dX7_load_13 (by decide) ?_
    exact hret (0 : Int32) mlo mth_3 H locs ls 14 dX7_load_14 ⟨hP, hD, hS⟩ hm

set_option maxHeartbeats 4000000 in
set_option maxRecDepth 100000 in
theorem c_X7_load (l : Launch) (dC : Nat → ClassId) (dI : Nat → Nat → Nat) (cy : Nat → ClassId) (ad : Nat → Nat) (sz : Nat) (mti : Nat → Int32) (mow : Nat → Int32) (mjo : Int32) (mta : Nat → Int64) (mba : Nat → Int32) (mib : Nat → Int32) (mdi : Int64) (mab : Nat → Int64) (mbe : Nat → Int64) (mpl : Nat → Int32) (mbs : Nat → Int32) (mro : Nat → Int32) (mlo : Nat → Int32) (mth : Int32) (x1 : Int32) (N : Nat) (Q : Int32 → (Nat → Int32) → Int32 → Prop) (hm : p_X7_load N mti mow mjo Q x1 mlo mth) : Met l yX7_load wsX7_load rmX7_load (va_Pc [.ref (ad 0), .int x1] (cPre dC dI cy (wM ad cy mti mow mjo mta mba mib mdi mab mbe mpl mbs mro mlo mth) sz)) (va_Qi (fun (r : Int32) (u : (Nat → Int32) × Int32) => Q r u.1 u.2) (fun u t => cPost dC dI cy (wM ad cy mti mow mjo mta mba mib mdi mab mbe mpl mbs mro mlo mth) sz (wM ad cy mti mow mjo mta mba mib mdi mab mbe mpl mbs mro (u.1) (u.2)) t) (va_A (wM ad cy mti mow mjo mta mba mib mdi mab mbe mpl mbs mro mlo mth) sz)) 0 0 (va_A (wM ad cy mti mow mjo mta mba mib mdi mab mbe mpl mbs mro mlo mth) sz) := by
  refine Met.ofW (cc := cX7_load) (maxL := 2) (ret := (some .int)) (by decide) rfl ?_
  intro p e s m args below meth c s₁ B hml hv
  obtain ⟨rfl, hsz, hP, hK, hD0, hN⟩ := hv
  have hts := atoms_spec (ws := wsX7_load) B.pre
  have hown : s.vm.findClass RX7 = some m.cls := findClass_of_methodNamed B.named
  subst hsz
  have hD := hD0.self (sz := s.heap.size)
  generalize hAe : va_A (wM ad cy mti mow mjo mta mba mib mdi mab mbe mpl mbs mro mlo mth) s.heap.size = A at hD ⊢
  have hA : ∀ q : Nat, s.heap.size ≤ q → A q := fun q h => by rw [← hAe]; exact Or.inr h
  have hl := lv_entry ([.ref (ad 0), .int x1]) (n := 2) (Nat.le_of_ble_eq_true rfl)
  rw [lg_entry_eq]
  generalize (lg_sl ([.ref (ad 0), .int x1]) ++ List.replicate (2 - (lg_sl ([.ref (ad 0), .int x1])).length) Slot.unset).toArray = ls at hl ⊢
  have hl : lv_has ls 2 [(0, .ref (ad 0)), (1, .int x1)] := hl
  exact k_X7_load_0 ⟨B.exec, B.bytes, hml, B.returns, hown, hts, B.notSynchronized, hK, hA, hN⟩ x1 mlo mth s.heap [] ls hm ⟨hP, hD, va_S.rf⟩ (lv_sub hl [0, 1] rfl) (fun r mlo mth H locs ls pc hdg hSt hq => W.iret B.exec B.bytes B.returns (fun t ht hW => ⟨⟨r, (mlo, mth), rfl, hq, cPost_of hAe ht hW.alike hSt hK⟩, hSt.2.2.F ht⟩) hSt.2.2.2.2 hdg B.notSynchronized)

-- ===== X7_length
theorem fl_X7_length_45 : Cond.fieldLink RX7 45 "UnlikeUnionModel" "thrown" "I" ∈ wsX7_length := by decide +kernel
theorem fl_X7_length_13 : Cond.fieldLink RX7 13 "UnlikeUnionModel" "own" "[I" ∈ wsX7_length := by decide +kernel
theorem in_X7_length_X7 : ∀ w ∈ u_ws RX7 TX7 14, w ∈ wsX7_length := by decide +kernel
abbrev rmX7_length : Room := { frames := 2, cells := 0, slots := 0, locals := 149 }
def p_X7_length (N : Nat) (mti : Nat → Int32) (mow : Nat → Int32) (mjo : Int32) (Q : Int32 → (Nat → Int32) → Int32 → Prop) (mlo : Nat → Int32) (mth : Int32) : Prop :=
  p_X7_measures N mow mti mjo (fun r_1 mlo_2 => Q r_1 mlo_2 (0 : Int32)) mlo

set_option maxHeartbeats 4000000 in
set_option maxRecDepth 100000 in
theorem k_X7_length_0 {N : Nat} {mti : Nat → Int32} {mow : Nat → Int32} {mjo : Int32} {mta : Nat → Int64} {mba : Nat → Int32} {mib : Nat → Int32} {mdi : Int64} {mab : Nat → Int64} {mbe : Nat → Int64} {mpl : Nat → Int32} {mbs : Nat → Int32} {mro : Nat → Int32} {Q : Int32 → (Nat → Int32) → Int32 → Prop} (C0 : cxM cX7_length 1 (some .int) RX7 wsX7_length p s m args meth c dC dI cy A) :
    ∀ (mlo : Nat → Int32) (mth : Int32) (H : Heap) (locs : List Loc) (ls : Array Slot) (hm : p_X7_length N mti mow mjo Q mlo mth) (hSt : stC dC dI A s (wM ad cy mti mow mjo mta mba mib mdi mab mbe mpl mbs mro mlo mth) H locs) (hl : lv_has ls 1 [(0, .ref (ad 0))]) (hret : ∀ (r : Int32) (mlo : Nat → Int32) (mth : Int32) (H : Heap) (locs : List Loc) (ls : Array Slot) (pc : Nat), decode cX7_length pc = .ok (.ireturn, 1) → stC dC dI A s (wM ad cy mti mow mjo mta mba mib mdi mab mbe mpl mbs mro mlo mth) H locs → Q r mlo mth → W p l e rmX7_length s m args below meth c H locs 0 0 Z (F0 m pc ls [.int r])), W p l e rmX7_length s m args below meth c H locs 0 0 Z (F0 m 0 ls []) := by
  obtain ⟨hx, hb, hml, hr, hown, hts, hlocks, hK, hA, hN⟩ := id C0
  intro mlo mth H locs ls hm hSt hl hret
  obtain ⟨hP, hD, hS⟩ := hSt
  unfold p_X7_length at hm
  refine lv_aload_n hx hb dX7_length_0 rfl (lv_at hl 0 rfl) ?_
  refine lv_iconst (v := 0) hx hb dX7_length_1 (by decide) ?_
  refine va_put (D := (dC, dI)) (ci := 7) (v := .int (0 : Int32)) (ty := .int) (C := RX7) (T := TX7) (N := 14) hx hb hts in_X7_length_X7 tyX7 tyX7_ok nmX7 hown hK hP hD hS 0 rfl rfl 13 (by decide) (hts _ fl_X7_length_45) (fun _ h9 => h9) rfl (by decide +kernel) rfl rfl (Nat.le_of_ble_eq_true rfl) dX7_length_2 (fun H locs hP hD hS => ?_)
  have hP : va_P (dC, dI) vwCl (wM ad cy mti mow mjo mta mba mib mdi mab mbe mpl mbs mro mlo (0 : Int32)) H := hP
  have hD : va_D A (wM ad cy mti mow mjo mta mba mib mdi mab mbe mpl mbs mro mlo (0 : Int32)) := hD
  refine lv_aload_n hx hb dX7_length_5 rfl (lv_at hl 0 rfl) ?_
  refine lv_aload_n hx hb dX7_length_6 rfl (lv_at hl 0 rfl) ?_
  refine va_get (D := (dC, dI)) (ci := 7) (v := .ref (ad 2)) (C := RX7) (T := TX7) (N := 14) hx hb hts in_X7_length_X7 hown hK hP 0 rfl rfl 1 (by decide) (hts _ fl_X7_length_13) (fun _ h9 => h9) rfl dX7_length_7 ?_
  have hFc := va_freeSame hD hS hA
  refine va_calli (va_runV (As := [.ref (ad 2)]) (rest := []) ⟨hx, hb, hml, hown, hts⟩ (c_X7_measures_o l dC dI cy ad H.size mti mow mjo mta mba mib mdi mab mbe mpl mbs mro mlo (0 : Int32)  _ _ hm) (cwV 1 hts gX7_length_X7_measures rfl rfl rfl (by decide +kernel) ⟨Nat.le_of_ble_eq_true rfl, Nat.le_of_ble_eq_true rfl⟩) ⟨cPre_blind, va_recv hK hP (ci := 7) (q0 := 0) rfl rfl, fun U hU hW => ⟨rfl, cPre_at hP hK hD hN hU hW⟩⟩ rfl rfl hl.1 rfl (lv_room (Nat.le_of_ble_eq_true rfl)) dX7_length_10 ⟨Nat.zero_le _, Nat.zero_le _⟩) hS (fun q _ h => hFc q h) hFc (fun r_1 u t H locs ht hvm hw hB hz1 hk1 hS => ?_)
  obtain ⟨mlo_2, rfl⟩ : ∃ z, z = u := ⟨_, rfl⟩
  try dsimp only at hw
  have hm := hw
  have hP : va_P (dC, dI) vwCl (wM ad cy mti mow mjo mta mba mib mdi mab mbe mpl mbs mro mlo_2 (0 : Int32)) H := cPost_P ht hB
  have hD : va_D A (wM ad cy mti mow mjo mta mba mib mdi mab mbe mpl mbs mro mlo_2 (0 : Int32)) := cPost_D hFc hB
  exact hret r_1 mlo_2 (0 : Int32) H locs ls 13 dX7_length_13 ⟨hP, hD, hS⟩ hm

set_option maxHeartbeats 4000000 in
set_option maxRecDepth 100000 in
theorem c_X7_length (l : Launch) (dC : Nat → ClassId) (dI : Nat → Nat → Nat) (cy : Nat → ClassId) (ad : Nat → Nat) (sz : Nat) (mti : Nat → Int32) (mow : Nat → Int32) (mjo : Int32) (mta : Nat → Int64) (mba : Nat → Int32) (mib : Nat → Int32) (mdi : Int64) (mab : Nat → Int64) (mbe : Nat → Int64) (mpl : Nat → Int32) (mbs : Nat → Int32) (mro : Nat → Int32) (mlo : Nat → Int32) (mth : Int32)  (N : Nat) (Q : Int32 → (Nat → Int32) → Int32 → Prop) (hm : p_X7_length N mti mow mjo Q mlo mth) : Met l yX7_length wsX7_length rmX7_length (va_Pc [.ref (ad 0)] (cPre dC dI cy (wM ad cy mti mow mjo mta mba mib mdi mab mbe mpl mbs mro mlo mth) sz)) (va_Qi (fun (r : Int32) (u : (Nat → Int32) × Int32) => Q r u.1 u.2) (fun u t => cPost dC dI cy (wM ad cy mti mow mjo mta mba mib mdi mab mbe mpl mbs mro mlo mth) sz (wM ad cy mti mow mjo mta mba mib mdi mab mbe mpl mbs mro (u.1) (u.2)) t) (va_A (wM ad cy mti mow mjo mta mba mib mdi mab mbe mpl mbs mro mlo mth) sz)) 0 0 (va_A (wM ad cy mti mow mjo mta mba mib mdi mab mbe mpl mbs mro mlo mth) sz) := by
  refine Met.ofW (cc := cX7_length) (maxL := 1) (ret := (some .int)) (by decide) rfl ?_
  intro p e s m args below meth c s₁ B hml hv
  obtain ⟨rfl, hsz, hP, hK, hD0, hN⟩ := hv
  have hts := atoms_spec (ws := wsX7_length) B.pre
  have hown : s.vm.findClass RX7 = some m.cls := findClass_of_methodNamed B.named
  subst hsz
  have hD := hD0.self (sz := s.heap.size)
  generalize hAe : va_A (wM ad cy mti mow mjo mta mba mib mdi mab mbe mpl mbs mro mlo mth) s.heap.size = A at hD ⊢
  have hA : ∀ q : Nat, s.heap.size ≤ q → A q := fun q h => by rw [← hAe]; exact Or.inr h
  have hl := lv_entry ([.ref (ad 0)]) (n := 1) (Nat.le_of_ble_eq_true rfl)
  rw [lg_entry_eq]
  generalize (lg_sl ([.ref (ad 0)]) ++ List.replicate (1 - (lg_sl ([.ref (ad 0)])).length) Slot.unset).toArray = ls at hl ⊢
  have hl : lv_has ls 1 [(0, .ref (ad 0))] := hl
  exact k_X7_length_0 ⟨B.exec, B.bytes, hml, B.returns, hown, hts, B.notSynchronized, hK, hA, hN⟩ mlo mth s.heap [] ls hm ⟨hP, hD, va_S.rf⟩ (lv_sub hl [0] rfl) (fun r mlo mth H locs ls pc hdg hSt hq => W.iret B.exec B.bytes B.returns (fun t ht hW => ⟨⟨r, (mlo, mth), rfl, hq, cPost_of hAe ht hW.alike hSt hK⟩, hSt.2.2.F ht⟩) hSt.2.2.2.2 hdg B.notSynchronized)

-- ===== X7_rank
theorem fl_X7_rank_13 : Cond.fieldLink RX7 13 "UnlikeUnionModel" "own" "[I" ∈ wsX7_rank := by decide +kernel
theorem fl_X7_rank_42 : Cond.fieldLink RX7 42 "UnlikeUnionModel" "load" "[I" ∈ wsX7_rank := by decide +kernel
theorem in_X7_rank_X7 : ∀ w ∈ u_ws RX7 TX7 14, w ∈ wsX7_rank := by decide +kernel
abbrev rmX7_rank : Room := { frames := 2, cells := 0, slots := 0, locals := 149 }
def p_X7_rank_60 (N : Nat) (mti : Nat → Int32) (mow : Nat → Int32) (mjo : Int32) (Q : Int32 → (Nat → Int32) → Prop) (x1 : Int32) (s0 : Int32) (mlo : Nat → Int32) : Prop :=
  ∀ x3_1 : Int32, x3_1 = ((((mlo ((0 : Int32)).toNatClampNeg) + (mlo ((1 : Int32)).toNatClampNeg)) + (mlo ((2 : Int32)).toNatClampNeg)) - x1) - s0 → (Q ((((1000000 : Int32) * x1) + ((1000 : Int32) * x3_1)) + s0) mlo)

def p_X7_rank (N : Nat) (mti : Nat → Int32) (mow : Nat → Int32) (mjo : Int32) (Q : Int32 → (Nat → Int32) → Prop) (mlo : Nat → Int32) : Prop :=
  p_X7_measures N mow mti mjo (fun r_1 mlo_2 => ((mlo_2 ((1 : Int32)).toNatClampNeg) ≤ (mlo_2 ((0 : Int32)).toNatClampNeg) → (∀ x2_4 : Int32, x2_4 = mlo_2 ((1 : Int32)).toNatClampNeg → ((x2_4 ≤ (mlo_2 ((2 : Int32)).toNatClampNeg) → (p_X7_rank_60 N mti mow mjo Q r_1 x2_4 mlo_2)) ∧ (¬ x2_4 ≤ (mlo_2 ((2 : Int32)).toNatClampNeg) → (p_X7_rank_60 N mti mow mjo Q r_1 (mlo_2 ((2 : Int32)).toNatClampNeg) mlo_2))))) ∧ (¬ (mlo_2 ((1 : Int32)).toNatClampNeg) ≤ (mlo_2 ((0 : Int32)).toNatClampNeg) → (∀ x2_6 : Int32, x2_6 = mlo_2 ((0 : Int32)).toNatClampNeg → ((x2_6 ≤ (mlo_2 ((2 : Int32)).toNatClampNeg) → (p_X7_rank_60 N mti mow mjo Q r_1 x2_6 mlo_2)) ∧ (¬ x2_6 ≤ (mlo_2 ((2 : Int32)).toNatClampNeg) → (p_X7_rank_60 N mti mow mjo Q r_1 (mlo_2 ((2 : Int32)).toNatClampNeg) mlo_2)))))) mlo

set_option maxHeartbeats 4000000 in
set_option maxRecDepth 100000 in
theorem k_X7_rank_60 {N : Nat} {mti : Nat → Int32} {mow : Nat → Int32} {mjo : Int32} {mta : Nat → Int64} {mba : Nat → Int32} {mib : Nat → Int32} {mdi : Int64} {mab : Nat → Int64} {mbe : Nat → Int64} {mpl : Nat → Int32} {mbs : Nat → Int32} {mro : Nat → Int32} {mth : Int32} {Q : Int32 → (Nat → Int32) → Prop} (C0 : cxM cX7_rank 4 (some .int) RX7 wsX7_rank p s m args meth c dC dI cy A) :
    ∀ (x1 : Int32) (s0 : Int32) (mlo : Nat → Int32) (H : Heap) (locs : List Loc) (ls : Array Slot) (hm : p_X7_rank_60 N mti mow mjo Q x1 s0 mlo) (hSt : stC dC dI A s (wM ad cy mti mow mjo mta mba mib mdi mab mbe mpl mbs mro mlo mth) H locs) (hl : lv_has ls 4 [(0, .ref (ad 0)), (1, .int x1)]) (hret : ∀ (r : Int32) (mlo : Nat → Int32) (H : Heap) (locs : List Loc) (ls : Array Slot) (pc : Nat), decode cX7_rank pc = .ok (.ireturn, 1) → stC dC dI A s (wM ad cy mti mow mjo mta mba mib mdi mab mbe mpl mbs mro mlo mth) H locs → Q r mlo → W p l e rmX7_rank s m args below meth c H locs 0 0 Z (F0 m pc ls [.int r])), W p l e rmX7_rank s m args below meth c H locs 0 0 Z (F0 m 60 ls [.int s0]) := by
  obtain ⟨hx, hb, hml, hr, hown, hts, hlocks, hK, hA, hN⟩ := id C0
  intro x1 s0 mlo H locs ls hm hSt hl hret
  obtain ⟨hP, hD, hS⟩ := hSt
  unfold p_X7_rank_60 at hm
  refine lv_istore_n (lv' := [(2, .int s0), (0, .ref (ad 0)), (1, .int x1)]) hx hb dX7_rank_60 rfl hl (by decide) rfl (fun ls hl => ?_)
  refine lv_aload_n hx hb dX7_rank_61 rfl (lv_at hl 1 rfl) ?_
  refine va_get (D := (dC, dI)) (ci := 7) (v := .ref (ad 11)) (C := RX7) (T := TX7) (N := 14) hx hb hts in_X7_rank_X7 hown hK hP 0 rfl rfl 12 (by decide) (hts _ fl_X7_rank_42) (fun _ h9 => h9) rfl dX7_rank_62 ?_
  refine lv_iconst (v := 0) hx hb dX7_rank_65 (by decide) ?_
  refine va_iald hx hb hK hP 11 0 rfl rfl (vp_in_iff.mpr (by decide)) dX7_rank_66 ?_
  refine lv_aload_n hx hb dX7_rank_67 rfl (lv_at hl 1 rfl) ?_
  refine va_get (D := (dC, dI)) (ci := 7) (v := .ref (ad 11)) (C := RX7) (T := TX7) (N := 14) hx hb hts in_X7_rank_X7 hown hK hP 0 rfl rfl 12 (by decide) (hts _ fl_X7_rank_42) (fun _ h9 => h9) rfl dX7_rank_68 ?_
  refine lv_iconst (v := 1) hx hb dX7_rank_71 (by decide) ?_
  refine va_iald hx hb hK hP 11 0 rfl rfl (vp_in_iff.mpr (by decide)) dX7_rank_72 ?_
  refine lv_iadd hx hb dX7_rank_73 ?_
  refine lv_aload_n hx hb dX7_rank_74 rfl (lv_at hl 1 rfl) ?_
  refine va_get (D := (dC, dI)) (ci := 7) (v := .ref (ad 11)) (C := RX7) (T := TX7) (N := 14) hx hb hts in_X7_rank_X7 hown hK hP 0 rfl rfl 12 (by decide) (hts _ fl_X7_rank_42) (fun _ h9 => h9) rfl dX7_rank_75 ?_
  refine lv_iconst (v := 2) hx hb dX7_rank_78 (by decide) ?_
  refine va_iald hx hb hK hP 11 0 rfl rfl (vp_in_iff.mpr (by decide)) dX7_rank_79 ?_
  refine lv_iadd hx hb dX7_rank_80 ?_
  refine lv_iload_n hx hb dX7_rank_81 rfl (lv_at hl 2 rfl) ?_
  refine lv_isub hx hb dX7_rank_82 ?_
  refine lv_iload_n hx hb dX7_rank_83 rfl (lv_at hl 0 rfl) ?_
  refine lv_isub hx hb dX7_rank_84 ?_
  refine lv_topi (fun x3_1 ex3_1 => ?_)
  have hm := hm x3_1 ex3_1
  refine lv_istore_n (lv' := [(3, .int x3_1), (2, .int s0), (0, .ref (ad 0)), (1, .int x1)]) hx hb dX7_rank_85 rfl hl (by decide) rfl (fun ls hl => ?_)
  refine lv_ldc (v := 1000000) hx hb hown (hts (.constant RX7 142 (1000000)) (by decide +kernel)) dX7_rank_86 ?_
  refine lv_iload_n hx hb dX7_rank_88 rfl (lv_at hl 3 rfl) ?_
  refine lv_imul hx hb dX7_rank_89 ?_
  refine lv_sipush (v := 1000) hx hb dX7_rank_90 (by decide) ?_
  refine lv_iload_n hx hb dX7_rank_93 rfl (lv_at hl 0 rfl) ?_
  refine lv_imul hx hb dX7_rank_94 ?_
  refine lv_iadd hx hb dX7_rank_95 ?_
  refine lv_iload_n hx hb dX7_rank_96 rfl (lv_at hl 1 rfl) ?_
  refine lv_iadd hx hb dX7_rank_97 ?_
  exact hret ((((1000000 : Int32) * x1) + ((1000 : Int32) * x3_1)) + s0) mlo H locs ls 98 dX7_rank_98 ⟨hP, hD, hS⟩ hm

set_option maxHeartbeats 4000000 in
set_option maxRecDepth 100000 in
theorem k_X7_rank_0 {N : Nat} {mti : Nat → Int32} {mow : Nat → Int32} {mjo : Int32} {mta : Nat → Int64} {mba : Nat → Int32} {mib : Nat → Int32} {mdi : Int64} {mab : Nat → Int64} {mbe : Nat → Int64} {mpl : Nat → Int32} {mbs : Nat → Int32} {mro : Nat → Int32} {mth : Int32} {Q : Int32 → (Nat → Int32) → Prop} (C0 : cxM cX7_rank 4 (some .int) RX7 wsX7_rank p s m args meth c dC dI cy A) :
    ∀ (mlo : Nat → Int32) (H : Heap) (locs : List Loc) (ls : Array Slot) (hm : p_X7_rank N mti mow mjo Q mlo) (hSt : stC dC dI A s (wM ad cy mti mow mjo mta mba mib mdi mab mbe mpl mbs mro mlo mth) H locs) (hl : lv_has ls 4 [(0, .ref (ad 0))]) (hret : ∀ (r : Int32) (mlo : Nat → Int32) (H : Heap) (locs : List Loc) (ls : Array Slot) (pc : Nat), decode cX7_rank pc = .ok (.ireturn, 1) → stC dC dI A s (wM ad cy mti mow mjo mta mba mib mdi mab mbe mpl mbs mro mlo mth) H locs → Q r mlo → W p l e rmX7_rank s m args below meth c H locs 0 0 Z (F0 m pc ls [.int r])), W p l e rmX7_rank s m args below meth c H locs 0 0 Z (F0 m 0 ls []) := by
  obtain ⟨hx, hb, hml, hr, hown, hts, hlocks, hK, hA, hN⟩ := id C0
  intro mlo H locs ls hm hSt hl hret
  obtain ⟨hP, hD, hS⟩ := hSt
  unfold p_X7_rank at hm
  refine lv_aload_n hx hb dX7_rank_0 rfl (lv_at hl 0 rfl) ?_
  refine lv_aload_n hx hb dX7_rank_1 rfl (lv_at hl 0 rfl) ?_
  refine va_get (D := (dC, dI)) (ci := 7) (v := .ref (ad 2)) (C := RX7) (T := TX7) (N := 14) hx hb hts in_X7_rank_X7 hown hK hP 0 rfl rfl 1 (by decide) (hts _ fl_X7_rank_13) (fun _ h9 => h9) rfl dX7_rank_2 ?_
  have hFc := va_freeSame hD hS hA
  refine va_calli (va_runV (As := [.ref (ad 2)]) (rest := []) ⟨hx, hb, hml, hown, hts⟩ (c_X7_measures_o l dC dI cy ad H.size mti mow mjo mta mba mib mdi mab mbe mpl mbs mro mlo mth  _ _ hm) (cwV 1 hts gX7_rank_X7_measures rfl rfl rfl (by decide +kernel) ⟨Nat.le_of_ble_eq_true rfl, Nat.le_of_ble_eq_true rfl⟩) ⟨cPre_blind, va_recv hK hP (ci := 7) (q0 := 0) rfl rfl, fun U hU hW => ⟨rfl, cPre_at hP hK hD hN hU hW⟩⟩ rfl rfl hl.1 rfl (lv_room (Nat.le_of_ble_eq_true rfl)) dX7_rank_5 ⟨Nat.zero_le _, Nat.zero_le _⟩) hS (fun q _ h => hFc q h) hFc (fun r_1 u t H locs ht hvm hw hB hz1 hk1 hS => ?_)
  obtain ⟨mlo_2, rfl⟩ : ∃ z, z = u := ⟨_, rfl⟩
  try dsimp only at hw
  have hm := hw
  have hP : va_P (dC, dI) vwCl (wM ad cy mti mow mjo mta mba mib mdi mab mbe mpl mbs mro mlo_2 mth) H := cPost_P ht hB
  have hD : va_D A (wM ad cy mti mow mjo mta mba mib mdi mab mbe mpl mbs mro mlo_2 mth) := cPost_D hFc hB
  refine lv_istore_n (lv' := [(1, .int r_1), (0, .ref (ad 0))]) hx hb dX7_rank_8 rfl hl (by decide) rfl (fun ls hl => ?_)
  refine lv_aload_n hx hb dX7_rank_9 rfl (lv_at hl 1 rfl) ?_
  refine va_get (D := (dC, dI)) (ci := 7) (v := .ref (ad 11)) (C := RX7) (T := TX7) (N := 14) hx hb hts in_X7_rank_X7 hown hK hP 0 rfl rfl 12 (by decide) (hts _ fl_X7_rank_42) (fun _ h9 => h9) rfl dX7_rank_10 ?_
  refine lv_iconst (v := 0) hx hb dX7_rank_13 (by decide) ?_
  refine va_iald hx hb hK hP 11 0 rfl rfl (vp_in_iff.mpr (by decide)) dX7_rank_14 ?_
  refine lv_aload_n hx hb dX7_rank_15 rfl (lv_at hl 1 rfl) ?_
  refine va_get (D := (dC, dI)) (ci := 7) (v := .ref (ad 11)) (C := RX7) (T := TX7) (N := 14) hx hb hts in_X7_rank_X7 hown hK hP 0 rfl rfl 12 (by decide) (hts _ fl_X7_rank_42) (fun _ h9 => h9) rfl dX7_rank_16 ?_
  refine lv_iconst (v := 1) hx hb dX7_rank_19 (by decide) ?_
  refine va_iald hx hb hK hP 11 0 rfl rfl (vp_in_iff.mpr (by decide)) dX7_rank_20 ?_
  refine lv_icmp_ge (tgt := 33) hx hb dX7_rank_21 (by decide) (fun c_3 => ?_) (fun c_3 => ?_)
  · have hm := hm.1 c_3
    refine lv_aload_n hx hb dX7_rank_33 rfl (lv_at hl 1 rfl) ?_
    refine va_get (D := (dC, dI)) (ci := 7) (v := .ref (ad 11)) (C := RX7) (T := TX7) (N := 14) hx hb hts in_X7_rank_X7 hown hK hP 0 rfl rfl 12 (by decide) (hts _ fl_X7_rank_42) (fun _ h9 => h9) rfl dX7_rank_34 ?_
    refine lv_iconst (v := 1) hx hb dX7_rank_37 (by decide) ?_
    refine va_iald hx hb hK hP 11 0 rfl rfl (vp_in_iff.mpr (by decide)) dX7_rank_38 ?_
    refine lv_topi (fun x2_4 ex2_4 => ?_)
    have hm := hm x2_4 ex2_4
    refine lv_istore_n (lv' := [(2, .int x2_4), (1, .int r_1), (0, .ref (ad 0))]) hx hb dX7_rank_39 rfl hl (by decide) rfl (fun ls hl => ?_)
    refine lv_aload_n hx hb dX7_rank_40 rfl (lv_at hl 2 rfl) ?_
    refine va_get (D := (dC, dI)) (ci := 7) (v := .ref (ad 11)) (C := RX7) (T := TX7) (N := 14) hx hb hts in_X7_rank_X7 hown hK hP 0 rfl rfl 12 (by decide) (hts _ fl_X7_rank_42) (fun _ h9 => h9) rfl dX7_rank_41 ?_
    refine lv_iconst (v := 2) hx hb dX7_rank_44 (by decide) ?_
    refine va_iald hx hb hK hP 11 0 rfl rfl (vp_in_iff.mpr (by decide)) dX7_rank_45 ?_
    refine lv_iload_n hx hb dX7_rank_46 rfl (lv_at hl 0 rfl) ?_
    refine lv_icmp_ge (tgt := 59) hx hb dX7_rank_47 (by decide) (fun c_5 => ?_) (fun c_5 => ?_)
    · have hm := hm.1 c_5
      refine lv_iload_n hx hb dX7_rank_59 rfl (lv_at hl 0 rfl) ?_
      exact k_X7_rank_60 C0 r_1 x2_4 mlo_2 H locs ls hm ⟨hP, hD, hS⟩ (lv_sub hl [2, 1] rfl) hret
    · have hm := hm.2 c_5
      refine lv_aload_n hx hb dX7_rank_50 rfl (lv_at hl 2 rfl) ?_
      refine va_get (D := (dC, dI)) (ci := 7) (v := .ref (ad 11)) (C := RX7) (T := TX7) (N := 14) hx hb hts in_X7_rank_X7 hown hK hP 0 rfl rfl 12 (by decide) (hts _ fl_X7_rank_42) (fun _ h9 => h9) rfl dX7_rank_51 ?_
      refine lv_iconst (v := 2) hx hb dX7_rank_54 (by decide) ?_
      refine va_iald hx hb hK hP 11 0 rfl rfl (vp_in_iff.mpr (by decide)) dX7_rank_55 ?_
      refine lv_goto (tgt := 60) hx hb dX7_rank_56 (by decide) ?_
      exact k_X7_rank_60 C0 r_1 (mlo_2 ((2 : Int32)).toNatClampNeg) mlo_2 H locs ls hm ⟨hP, hD, hS⟩ (lv_sub hl [2, 1] rfl) hret
  · have hm := hm.2 c_3
    refine lv_aload_n hx hb dX7_rank_24 rfl (lv_at hl 1 rfl) ?_
    refine va_get (D := (dC, dI)) (ci := 7) (v := .ref (ad 11)) (C := RX7) (T := TX7) (N := 14) hx hb hts in_X7_rank_X7 hown hK hP 0 rfl rfl 12 (by decide) (hts _ fl_X7_rank_42) (fun _ h9 => h9) rfl dX7_rank_25 ?_
    refine lv_iconst (v := 0) hx hb dX7_rank_28 (by decide) ?_
    refine va_iald hx hb hK hP 11 0 rfl rfl (vp_in_iff.mpr (by decide)) dX7_rank_29 ?_
    refine lv_goto (tgt := 39) hx hb dX7_rank_30 (by decide) ?_
    refine lv_topi (fun x2_6 ex2_6 => ?_)
    have hm := hm x2_6 ex2_6
    refine lv_istore_n (lv' := [(2, .int x2_6), (1, .int r_1), (0, .ref (ad 0))]) hx hb dX7_rank_39 rfl hl (by decide) rfl (fun ls hl => ?_)
    refine lv_aload_n hx hb dX7_rank_40 rfl (lv_at hl 2 rfl) ?_
    refine va_get (D := (dC, dI)) (ci := 7) (v := .ref (ad 11)) (C := RX7) (T := TX7) (N := 14) hx hb hts in_X7_rank_X7 hown hK hP 0 rfl rfl 12 (by decide) (hts _ fl_X7_rank_42) (fun _ h9 => h9) rfl dX7_rank_41 ?_
    refine lv_iconst (v := 2) hx hb dX7_rank_44 (by decide) ?_
    refine va_iald hx hb hK hP 11 0 rfl rfl (vp_in_iff.mpr (by decide)) dX7_rank_45 ?_
    refine lv_iload_n hx hb dX7_rank_46 rfl (lv_at hl 0 rfl) ?_
    refine lv_icmp_ge (tgt := 59) hx hb dX7_rank_47 (by decide) (fun c_7 => ?_) (fun c_7 => ?_)
    · have hm := hm.1 c_7
      refine lv_iload_n hx hb dX7_rank_59 rfl (lv_at hl 0 rfl) ?_
      exact k_X7_rank_60 C0 r_1 x2_6 mlo_2 H locs ls hm ⟨hP, hD, hS⟩ (lv_sub hl [2, 1] rfl) hret
    · have hm := hm.2 c_7
      refine lv_aload_n hx hb dX7_rank_50 rfl (lv_at hl 2 rfl) ?_
      refine va_get (D := (dC, dI)) (ci := 7) (v := .ref (ad 11)) (C := RX7) (T := TX7) (N := 14) hx hb hts in_X7_rank_X7 hown hK hP 0 rfl rfl 12 (by decide) (hts _ fl_X7_rank_42) (fun _ h9 => h9) rfl dX7_rank_51 ?_
      refine lv_iconst (v := 2) hx hb dX7_rank_54 (by decide) ?_
      refine va_iald hx hb hK hP 11 0 rfl rfl (vp_in_iff.mpr (by decide)) dX7_rank_55 ?_
      refine lv_goto (tgt := 60) hx hb dX7_rank_56 (by decide) ?_
      exact k_X7_rank_60 C0 r_1 (mlo_2 ((2 : Int32)).toNatClampNeg) mlo_2 H locs ls hm ⟨hP, hD, hS⟩ (lv_sub hl [2, 1] rfl) hret

set_option maxHeartbeats 4000000 in
set_option maxRecDepth 100000 in
theorem c_X7_rank (l : Launch) (dC : Nat → ClassId) (dI : Nat → Nat → Nat) (cy : Nat → ClassId) (ad : Nat → Nat) (sz : Nat) (mti : Nat → Int32) (mow : Nat → Int32) (mjo : Int32) (mta : Nat → Int64) (mba : Nat → Int32) (mib : Nat → Int32) (mdi : Int64) (mab : Nat → Int64) (mbe : Nat → Int64) (mpl : Nat → Int32) (mbs : Nat → Int32) (mro : Nat → Int32) (mlo : Nat → Int32) (mth : Int32)  (N : Nat) (Q : Int32 → (Nat → Int32) → Prop) (hm : p_X7_rank N mti mow mjo Q mlo) : Met l yX7_rank wsX7_rank rmX7_rank (va_Pc [.ref (ad 0)] (cPre dC dI cy (wM ad cy mti mow mjo mta mba mib mdi mab mbe mpl mbs mro mlo mth) sz)) (va_Qi (fun (r : Int32) (u : (Nat → Int32)) => Q r u) (fun u t => cPost dC dI cy (wM ad cy mti mow mjo mta mba mib mdi mab mbe mpl mbs mro mlo mth) sz (wM ad cy mti mow mjo mta mba mib mdi mab mbe mpl mbs mro u mth) t) (va_A (wM ad cy mti mow mjo mta mba mib mdi mab mbe mpl mbs mro mlo mth) sz)) 0 0 (va_A (wM ad cy mti mow mjo mta mba mib mdi mab mbe mpl mbs mro mlo mth) sz) := by
  refine Met.ofW (cc := cX7_rank) (maxL := 4) (ret := (some .int)) (by decide) rfl ?_
  intro p e s m args below meth c s₁ B hml hv
  obtain ⟨rfl, hsz, hP, hK, hD0, hN⟩ := hv
  have hts := atoms_spec (ws := wsX7_rank) B.pre
  have hown : s.vm.findClass RX7 = some m.cls := findClass_of_methodNamed B.named
  subst hsz
  have hD := hD0.self (sz := s.heap.size)
  generalize hAe : va_A (wM ad cy mti mow mjo mta mba mib mdi mab mbe mpl mbs mro mlo mth) s.heap.size = A at hD ⊢
  have hA : ∀ q : Nat, s.heap.size ≤ q → A q := fun q h => by rw [← hAe]; exact Or.inr h
  have hl := lv_entry ([.ref (ad 0)]) (n := 4) (Nat.le_of_ble_eq_true rfl)
  rw [lg_entry_eq]
  generalize (lg_sl ([.ref (ad 0)]) ++ List.replicate (4 - (lg_sl ([.ref (ad 0)])).length) Slot.unset).toArray = ls at hl ⊢
  have hl : lv_has ls 4 [(0, .ref (ad 0))] := hl
  exact k_X7_rank_0 ⟨B.exec, B.bytes, hml, B.returns, hown, hts, B.notSynchronized, hK, hA, hN⟩ mlo s.heap [] ls hm ⟨hP, hD, va_S.rf⟩ (lv_sub hl [0] rfl) (fun r mlo H locs ls pc hdg hSt hq => W.iret B.exec B.bytes B.returns (fun t ht hW => ⟨⟨r, (mlo), rfl, hq, cPost_of hAe ht hW.alike hSt hK⟩, hSt.2.2.F ht⟩) hSt.2.2.2.2 hdg B.notSynchronized)

-- ===== X7_swaps
theorem fl_X7_swaps_13 : Cond.fieldLink RX7 13 "UnlikeUnionModel" "own" "[I" ∈ wsX7_swaps := by decide +kernel
theorem in_X7_swaps_X7 : ∀ w ∈ u_ws RX7 TX7 14, w ∈ wsX7_swaps := by decide +kernel
abbrev rmX7_swaps : Room := { frames := 1, cells := 0, slots := 0, locals := 64 }
def p_X7_swaps (N : Nat) (Q : (Nat → Int32) → Prop) (x1 : Int32) (x2 : Int32) (mow : Nat → Int32) : Prop :=
  vp_in x1 7 ∧ (∀ x3_2 : Int32, x3_2 = mow (x1).toNatClampNeg → (vp_in x2 7 ∧ (∀ f_4 : Int32, f_4 = mow (x2).toNatClampNeg → (vp_in x1 7 ∧ (vp_in x2 7 ∧ (Q (upd (upd mow (x1).toNatClampNeg f_4) (x2).toNatClampNeg x3_2)))))))

set_option maxHeartbeats 4000000 in
set_option maxRecDepth 100000 in
theorem k_X7_swaps_0 {N : Nat} {mti : Nat → Int32} {mjo : Int32} {mta : Nat → Int64} {mba : Nat → Int32} {mib : Nat → Int32} {mdi : Int64} {mab : Nat → Int64} {mbe : Nat → Int64} {mpl : Nat → Int32} {mbs : Nat → Int32} {mro : Nat → Int32} {mlo : Nat → Int32} {mth : Int32} {Q : (Nat → Int32) → Prop} (C0 : cxM cX7_swaps 4 none RX7 wsX7_swaps p s m args meth c dC dI cy A) :
    ∀ (x1 : Int32) (x2 : Int32) (mow : Nat → Int32) (H : Heap) (locs : List Loc) (ls : Array Slot) (hm : p_X7_swaps N Q x1 x2 mow) (hSt : stC dC dI A s (wM ad cy mti mow mjo mta mba mib mdi mab mbe mpl mbs mro mlo mth) H locs) (hl : lv_has ls 4 [(0, .ref (ad 0)), (1, .int x1), (2, .int x2)]) (hret : ∀ (mow : Nat → Int32) (H : Heap) (locs : List Loc) (ls : Array Slot) (pc : Nat), decode cX7_swaps pc = .ok (.return_, 1) → stC dC dI A s (wM ad cy mti mow mjo mta mba mib mdi mab mbe mpl mbs mro mlo mth) H locs → Q mow → W p l e rmX7_swaps s m args below meth c H locs 0 0 Z (F0 m pc ls [])), W p l e rmX7_swaps s m args below meth c H locs 0 0 Z (F0 m 0 ls []) := by
  obtain ⟨hx, hb, hml, hr, hown, hts, hlocks, hK, hA, hN⟩ := id C0
  intro x1 x2 mow H locs ls hm hSt hl hret
  obtain ⟨hP, hD, hS⟩ := hSt
  unfold p_X7_swaps at hm
  refine lv_aload_n hx hb dX7_swaps_0 rfl (lv_at hl 0 rfl) ?_
  refine va_get (D := (dC, dI)) (ci := 7) (v := .ref (ad 2)) (C := RX7) (T := TX7) (N := 14) hx hb hts in_X7_swaps_X7 hown hK hP 0 rfl rfl 1 (by decide) (hts _ fl_X7_swaps_13) (fun _ h9 => h9) rfl dX7_swaps_1 ?_
  refine lv_iload_n hx hb dX7_swaps_4 rfl (lv_at hl 1 rfl) ?_
  have hi_1 := hm.1
  have hm := hm.2
  refine va_iald hx hb hK hP 2 0 rfl rfl hi_1 dX7_swaps_5 ?_
  refine lv_topi (fun x3_2 ex3_2 => ?_)
  have hm := hm x3_2 ex3_2
  refine lv_istore_n (lv' := [(3, .int x3_2), (0, .ref (ad 0)), (1, .int x1), (2, .int x2)]) hx hb dX7_swaps_6 rfl hl (by decide) rfl (fun ls hl => ?_)
  refine lv_aload_n hx hb dX7_swaps_7 rfl (lv_at hl 1 rfl) ?_
  refine va_get (D := (dC, dI)) (ci := 7) (v := .ref (ad 2)) (C := RX7) (T := TX7) (N := 14) hx hb hts in_X7_swaps_X7 hown hK hP 0 rfl rfl 1 (by decide) (hts _ fl_X7_swaps_13) (fun _ h9 => h9) rfl dX7_swaps_8 ?_
  refine lv_iload_n hx hb dX7_swaps_11 rfl (lv_at hl 2 rfl) ?_
  refine lv_aload_n hx hb dX7_swaps_12 rfl (lv_at hl 1 rfl) ?_
  refine va_get (D := (dC, dI)) (ci := 7) (v := .ref (ad 2)) (C := RX7) (T := TX7) (N := 14) hx hb hts in_X7_swaps_X7 hown hK hP 0 rfl rfl 1 (by decide) (hts _ fl_X7_swaps_13) (fun _ h9 => h9) rfl dX7_swaps_13 ?_
  refine lv_iload_n hx hb dX7_swaps_16 rfl (lv_at hl 3 rfl) ?_
  have hi_3 := hm.1
  have hm := hm.2
  refine va_iald hx hb hK hP 2 0 rfl rfl hi_3 dX7_swaps_17 ?_
  refine lv_topi (fun f_4 ef_4 => ?_)
  have hm := hm f_4 ef_4
  have hi_5 := hm.1
  have hm := hm.2
  refine va_iast hx hb hK hP hD hS 2 0 rfl rfl hi_5 dX7_swaps_18 (fun H locs hP hD hS => ?_)
  have hP : va_P (dC, dI) vwCl (wM ad cy mti (upd mow (x1).toNatClampNeg f_4) mjo mta mba mib mdi mab mbe mpl mbs mro mlo mth) H := hP
  have hD : va_D A (wM ad cy mti (upd mow (x1).toNatClampNeg f_4) mjo mta mba mib mdi mab mbe mpl mbs mro mlo mth) := hD
  refine lv_aload_n hx hb dX7_swaps_19 rfl (lv_at hl 1 rfl) ?_
  refine va_get (D := (dC, dI)) (ci := 7) (v := .ref (ad 2)) (C := RX7) (T := TX7) (N := 14) hx hb hts in_X7_swaps_X7 hown hK hP 0 rfl rfl 1 (by decide) (hts _ fl_X7_swaps_13) (fun _ h9 => h9) rfl dX7_swaps_20 ?_
  refine lv_iload_n hx hb dX7_swaps_23 rfl (lv_at hl 3 rfl) ?_
  refine lv_iload_n hx hb dX7_swaps_24 rfl (lv_at hl 0 rfl) ?_
  have hi_6 := hm.1
  have hm := hm.2
  refine va_iast hx hb hK hP hD hS 2 0 rfl rfl hi_6 dX7_swaps_25 (fun H locs hP hD hS => ?_)
  have hP : va_P (dC, dI) vwCl (wM ad cy mti (upd (upd mow (x1).toNatClampNeg f_4) (x2).toNatClampNeg x3_2) mjo mta mba mib mdi mab mbe mpl mbs mro mlo mth) H := hP
  have hD : va_D A (wM ad cy mti (upd (upd mow (x1).toNatClampNeg f_4) (x2).toNatClampNeg x3_2) mjo mta mba mib mdi mab mbe mpl mbs mro mlo mth) := hD
  exact hret (upd (upd mow (x1).toNatClampNeg f_4) (x2).toNatClampNeg x3_2) H locs ls 26 dX7_swaps_26 ⟨hP, hD, hS⟩ hm

set_option maxHeartbeats 4000000 in
set_option maxRecDepth 100000 in
theorem c_X7_swaps (l : Launch) (dC : Nat → ClassId) (dI : Nat → Nat → Nat) (cy : Nat → ClassId) (ad : Nat → Nat) (sz : Nat) (mti : Nat → Int32) (mow : Nat → Int32) (mjo : Int32) (mta : Nat → Int64) (mba : Nat → Int32) (mib : Nat → Int32) (mdi : Int64) (mab : Nat → Int64) (mbe : Nat → Int64) (mpl : Nat → Int32) (mbs : Nat → Int32) (mro : Nat → Int32) (mlo : Nat → Int32) (mth : Int32) (x1 : Int32) (x2 : Int32) (N : Nat) (Q : (Nat → Int32) → Prop) (hm : p_X7_swaps N Q x1 x2 mow) : Met l yX7_swaps wsX7_swaps rmX7_swaps (va_Pc [.ref (ad 0), .int x1, .int x2] (cPre dC dI cy (wM ad cy mti mow mjo mta mba mib mdi mab mbe mpl mbs mro mlo mth) sz)) (va_Qv (fun (u : (Nat → Int32)) => Q u) (fun u t => cPost dC dI cy (wM ad cy mti mow mjo mta mba mib mdi mab mbe mpl mbs mro mlo mth) sz (wM ad cy mti u mjo mta mba mib mdi mab mbe mpl mbs mro mlo mth) t) (va_A (wM ad cy mti mow mjo mta mba mib mdi mab mbe mpl mbs mro mlo mth) sz)) 0 0 (va_A (wM ad cy mti mow mjo mta mba mib mdi mab mbe mpl mbs mro mlo mth) sz) := by
  refine Met.ofW (cc := cX7_swaps) (maxL := 4) (ret := none) (by decide) rfl ?_
  intro p e s m args below meth c s₁ B hml hv
  obtain ⟨rfl, hsz, hP, hK, hD0, hN⟩ := hv
  have hts := atoms_spec (ws := wsX7_swaps) B.pre
  have hown : s.vm.findClass RX7 = some m.cls := findClass_of_methodNamed B.named
  subst hsz
  have hD := hD0.self (sz := s.heap.size)
  generalize hAe : va_A (wM ad cy mti mow mjo mta mba mib mdi mab mbe mpl mbs mro mlo mth) s.heap.size = A at hD ⊢
  have hA : ∀ q : Nat, s.heap.size ≤ q → A q := fun q h => by rw [← hAe]; exact Or.inr h
  have hl := lv_entry ([.ref (ad 0), .int x1, .int x2]) (n := 4) (Nat.le_of_ble_eq_true rfl)
  rw [lg_entry_eq]
  generalize (lg_sl ([.ref (ad 0), .int x1, .int x2]) ++ List.replicate (4 - (lg_sl ([.ref (ad 0), .int x1, .int x2])).length) Slot.unset).toArray = ls at hl ⊢
  have hl : lv_has ls 4 [(0, .ref (ad 0)), (1, .int x1), (2, .int x2)] := hl
  exact k_X7_swaps_0 ⟨B.exec, B.bytes, hml, B.returns, hown, hts, B.notSynchronized, hK, hA, hN⟩ x1 x2 mow s.heap [] ls hm ⟨hP, hD, va_S.rf⟩ (lv_sub hl [0, 1, 2] rfl) (fun mow H locs ls pc hdg hSt hq => W.vret B.exec B.bytes B.returns (fun t ht hW => ⟨⟨(mow), rfl, hq, cPost_of hAe ht hW.alike hSt hK⟩, hSt.2.2.F ht⟩) hSt.2.2.2.2 hdg B.notSynchronized)

-- ===== X7_canSwap
theorem fl_X7_canSwap_13 : Cond.fieldLink RX7 13 "UnlikeUnionModel" "own" "[I" ∈ wsX7_canSwap := by decide +kernel
theorem fl_X7_canSwap_7 : Cond.fieldLink RX7 7 "UnlikeUnionModel" "time" "[I" ∈ wsX7_canSwap := by decide +kernel
theorem in_X7_canSwap_X7 : ∀ w ∈ u_ws RX7 TX7 14, w ∈ wsX7_canSwap := by decide +kernel
abbrev rmX7_canSwap : Room := { frames := 1, cells := 0, slots := 0, locals := 63 }
def p_X7_canSwap (N : Nat) (mti : Nat → Int32) (mow : Nat → Int32) (Q : Int32 → Prop) (x1 : Int32) (x2 : Int32) : Prop :=
  vp_in x1 7 ∧ (vp_in x2 7 ∧ (((mow (x1).toNatClampNeg) = (mow (x2).toNatClampNeg) → (Q (0 : Int32))) ∧ (¬ (mow (x1).toNatClampNeg) = (mow (x2).toNatClampNeg) → (vp_in x2 7 ∧ (vp_in (((3 : Int32) * x1) + (mow (x2).toNatClampNeg)) 21 ∧ (((mti (((3 : Int32) * x1) + (mow (x2).toNatClampNeg)).toNatClampNeg) ≤ 0 → (Q (0 : Int32))) ∧ (¬ (mti (((3 : Int32) * x1) + (mow (x2).toNatClampNeg)).toNatClampNeg) ≤ 0 → (vp_in x1 7 ∧ (vp_in (((3 : Int32) * x2) + (mow (x1).toNatClampNeg)) 21 ∧ (((mti (((3 : Int32) * x2) + (mow (x1).toNatClampNeg)).toNatClampNeg) ≤ 0 → (Q (0 : Int32))) ∧ (¬ (mti (((3 : Int32) * x2) + (mow (x1).toNatClampNeg)).toNatClampNeg) ≤ 0 → (Q (1 : Int32)))))))))))))

set_option maxHeartbeats 4000000 in
set_option maxRecDepth 100000 in
theorem k_X7_canSwap_0 {N : Nat} {mti : Nat → Int32} {mow : Nat → Int32} {mjo : Int32} {mta : Nat → Int64} {mba : Nat → Int32} {mib : Nat → Int32} {mdi : Int64} {mab : Nat → Int64} {mbe : Nat → Int64} {mpl : Nat → Int32} {mbs : Nat → Int32} {mro : Nat → Int32} {mlo : Nat → Int32} {mth : Int32} {Q : Int32 → Prop} (C0 : cxM cX7_canSwap 3 (some .boolean) RX7 wsX7_canSwap p s m args meth c dC dI cy A) :
    ∀ (x1 : Int32) (x2 : Int32) (H : Heap) (locs : List Loc) (ls : Array Slot) (hm : p_X7_canSwap N mti mow Q x1 x2) (hSt : stC dC dI A s (wM ad cy mti mow mjo mta mba mib mdi mab mbe mpl mbs mro mlo mth) H locs) (hl : lv_has ls 3 [(0, .ref (ad 0)), (1, .int x1), (2, .int x2)]) (hret : ∀ (r : Int32) (H : Heap) (locs : List Loc) (ls : Array Slot) (pc : Nat), decode cX7_canSwap pc = .ok (.ireturn, 1) → narrow .boolean (.int r) = .int r → stC dC dI A s (wM ad cy mti mow mjo mta mba mib mdi mab mbe mpl mbs mro mlo mth) H locs → Q r → W p l e rmX7_canSwap s m args below meth c H locs 0 0 Z (F0 m pc ls [.int r])), W p l e rmX7_canSwap s m args below meth c H locs 0 0 Z (F0 m 0 ls []) := by
  obtain ⟨hx, hb, hml, hr, hown, hts, hlocks, hK, hA, hN⟩ := id C0
  intro x1 x2 H locs ls hm hSt hl hret
  obtain ⟨hP, hD, hS⟩ := hSt
  unfold p_X7_canSwap at hm
  refine lv_aload_n hx hb dX7_canSwap_0 rfl (lv_at hl 0 rfl) ?_
  refine va_get (D := (dC, dI)) (ci := 7) (v := .ref (ad 2)) (C := RX7) (T := TX7) (N := 14) hx hb hts in_X7_canSwap_X7 hown hK hP 0 rfl rfl 1 (by decide) (hts _ fl_X7_canSwap_13) (fun _ h9 => h9) rfl dX7_canSwap_1 ?_
  refine lv_iload_n hx hb dX7_canSwap_4 rfl (lv_at hl 1 rfl) ?_
  have hi_1 := hm.1
  have hm := hm.2
  refine va_iald hx hb hK hP 2 0 rfl rfl hi_1 dX7_canSwap_5 ?_
  refine lv_aload_n hx hb dX7_canSwap_6 rfl (lv_at hl 0 rfl) ?_
  refine va_get (D := (dC, dI)) (ci := 7) (v := .ref (ad 2)) (C := RX7) (T := TX7) (N := 14) hx hb hts in_X7_canSwap_X7 hown hK hP 0 rfl rfl 1 (by decide) (hts _ fl_X7_canSwap_13) (fun _ h9 => h9) rfl dX7_canSwap_7 ?_
  refine lv_iload_n hx hb dX7_canSwap_10 rfl (lv_at hl 2 rfl) ?_
  have hi_2 := hm.1
  have hm := hm.2
  refine va_iald hx hb hK hP 2 0 rfl rfl hi_2 dX7_canSwap_11 ?_
  refine lv_icmp_eq (tgt := 55) hx hb dX7_canSwap_12 (by decide) (fun c_3 => ?_) (fun c_3 => ?_)
  · have hm := hm.1 c_3
    refine lv_iconst (v := 0) hx hb dX7_canSwap_55 (by decide) ?_
    exact hret (0 : Int32) H locs ls 56 dX7_canSwap_56 rfl ⟨hP, hD, hS⟩ hm
  · have hm := hm.2 c_3
    refine lv_aload_n hx hb dX7_canSwap_15 rfl (lv_at hl 0 rfl) ?_
    refine va_get (D := (dC, dI)) (ci := 7) (v := .ref (ad 1)) (C := RX7) (T := TX7) (N := 14) hx hb hts in_X7_canSwap_X7 hown hK hP 0 rfl rfl 0 (by decide) (hts _ fl_X7_canSwap_7) (fun _ h9 => h9) rfl dX7_canSwap_16 ?_
    refine lv_iconst (v := 3) hx hb dX7_canSwap_19 (by decide) ?_
    refine lv_iload_n hx hb dX7_canSwap_20 rfl (lv_at hl 1 rfl) ?_
    refine lv_imul hx hb dX7_canSwap_21 ?_
    refine lv_aload_n hx hb dX7_canSwap_22 rfl (lv_at hl 0 rfl) ?_
    refine va_get (D := (dC, dI)) (ci := 7) (v := .ref (ad 2)) (C := RX7) (T := TX7) (N := 14) hx hb hts in_X7_canSwap_X7 hown hK hP 0 rfl rfl 1 (by decide) (hts _ fl_X7_canSwap_13) (fun _ h9 => h9) rfl dX7_canSwap_23 ?_
    refine lv_iload_n hx hb dX7_canSwap_26 rfl (lv_at hl 2 rfl) ?_
    have hi_4 := hm.1
    have hm := hm.2
    refine va_iald hx hb hK hP 2 0 rfl rfl hi_4 dX7_canSwap_27 ?_
    refine lv_iadd hx hb dX7_canSwap_28 ?_
    have hi_5 := hm.1
    have hm := hm.2
    refine va_iald hx hb hK hP 1 0 rfl rfl hi_5 dX7_canSwap_29 ?_
    refine lv_if_le (tgt := 55) hx hb dX7_canSwap_30 (by decide) (fun c_6 => ?_) (fun c_6 => ?_)
    · have hm := hm.1 c_6
      refine lv_iconst (v := 0) hx hb dX7_canSwap_55 (by decide) ?_
      exact hret (0 : Int32) H locs ls 56 dX7_canSwap_56 rfl ⟨hP, hD, hS⟩ hm
    · have hm := hm.2 c_6
      refine lv_aload_n hx hb dX7_canSwap_33 rfl (lv_at hl 0 rfl) ?_
      refine va_get (D := (dC, dI)) (ci := 7) (v := .ref (ad 1)) (C := RX7) (T := TX7) (N := 14) hx hb hts in_X7_canSwap_X7 hown hK hP 0 rfl rfl 0 (by decide) (hts _ fl_X7_canSwap_7) (fun _ h9 => h9) rfl dX7_canSwap_34 ?_
      refine lv_iconst (v := 3) hx hb dX7_canSwap_37 (by decide) ?_
      refine lv_iload_n hx hb dX7_canSwap_38 rfl (lv_at hl 2 rfl) ?_
      refine lv_imul hx hb dX7_canSwap_39 ?_
      refine lv_aload_n hx hb dX7_canSwap_40 rfl (lv_at hl 0 rfl) ?_
      refine va_get (D := (dC, dI)) (ci := 7) (v := .ref (ad 2)) (C := RX7) (T := TX7) (N := 14) hx hb hts in_X7_canSwap_X7 hown hK hP 0 rfl rfl 1 (by decide) (hts _ fl_X7_canSwap_13) (fun _ h9 => h9) rfl dX7_canSwap_41 ?_
      refine lv_iload_n hx hb dX7_canSwap_44 rfl (lv_at hl 1 rfl) ?_
      have hi_7 := hm.1
      have hm := hm.2
      refine va_iald hx hb hK hP 2 0 rfl rfl hi_7 dX7_canSwap_45 ?_
      refine lv_iadd hx hb dX7_canSwap_46 ?_
      have hi_8 := hm.1
      have hm := hm.2
      refine va_iald hx hb hK hP 1 0 rfl rfl hi_8 dX7_canSwap_47 ?_
      refine lv_if_le (tgt := 55) hx hb dX7_canSwap_48 (by decide) (fun c_9 => ?_) (fun c_9 => ?_)
      · have hm := hm.1 c_9
        refine lv_iconst (v := 0) hx hb dX7_canSwap_55 (by decide) ?_
        exact hret (0 : Int32) H locs ls 56 dX7_canSwap_56 rfl ⟨hP, hD, hS⟩ hm
      · have hm := hm.2 c_9
        refine lv_iconst (v := 1) hx hb dX7_canSwap_51 (by decide) ?_
        refine lv_goto (tgt := 56) hx hb dX7_canSwap_52 (by decide) ?_
        exact hret (1 : Int32) H locs ls 56 dX7_canSwap_56 rfl ⟨hP, hD, hS⟩ hm

set_option maxHeartbeats 4000000 in
set_option maxRecDepth 100000 in
theorem c_X7_canSwap (l : Launch) (dC : Nat → ClassId) (dI : Nat → Nat → Nat) (cy : Nat → ClassId) (ad : Nat → Nat) (sz : Nat) (mti : Nat → Int32) (mow : Nat → Int32) (mjo : Int32) (mta : Nat → Int64) (mba : Nat → Int32) (mib : Nat → Int32) (mdi : Int64) (mab : Nat → Int64) (mbe : Nat → Int64) (mpl : Nat → Int32) (mbs : Nat → Int32) (mro : Nat → Int32) (mlo : Nat → Int32) (mth : Int32) (x1 : Int32) (x2 : Int32) (N : Nat) (Q : Int32 → Prop) (hm : p_X7_canSwap N mti mow Q x1 x2) : Met l yX7_canSwap wsX7_canSwap rmX7_canSwap (va_Pc [.ref (ad 0), .int x1, .int x2] (cPre dC dI cy (wM ad cy mti mow mjo mta mba mib mdi mab mbe mpl mbs mro mlo mth) sz)) (va_Qi (fun (r : Int32) (u : Unit) => Q r ∧ narrow .boolean (.int r) = .int r) (fun u t => cPost dC dI cy (wM ad cy mti mow mjo mta mba mib mdi mab mbe mpl mbs mro mlo mth) sz (wM ad cy mti mow mjo mta mba mib mdi mab mbe mpl mbs mro mlo mth) t) (va_A (wM ad cy mti mow mjo mta mba mib mdi mab mbe mpl mbs mro mlo mth) sz)) 0 0 (va_A (wM ad cy mti mow mjo mta mba mib mdi mab mbe mpl mbs mro mlo mth) sz) := by
  refine Met.ofW (cc := cX7_canSwap) (maxL := 3) (ret := (some .boolean)) (by decide) rfl ?_
  intro p e s m args below meth c s₁ B hml hv
  obtain ⟨rfl, hsz, hP, hK, hD0, hN⟩ := hv
  have hts := atoms_spec (ws := wsX7_canSwap) B.pre
  have hown : s.vm.findClass RX7 = some m.cls := findClass_of_methodNamed B.named
  subst hsz
  have hD := hD0.self (sz := s.heap.size)
  generalize hAe : va_A (wM ad cy mti mow mjo mta mba mib mdi mab mbe mpl mbs mro mlo mth) s.heap.size = A at hD ⊢
  have hA : ∀ q : Nat, s.heap.size ≤ q → A q := fun q h => by rw [← hAe]; exact Or.inr h
  have hl := lv_entry ([.ref (ad 0), .int x1, .int x2]) (n := 3) (Nat.le_of_ble_eq_true rfl)
  rw [lg_entry_eq]
  generalize (lg_sl ([.ref (ad 0), .int x1, .int x2]) ++ List.replicate (3 - (lg_sl ([.ref (ad 0), .int x1, .int x2])).length) Slot.unset).toArray = ls at hl ⊢
  have hl : lv_has ls 3 [(0, .ref (ad 0)), (1, .int x1), (2, .int x2)] := hl
  exact k_X7_canSwap_0 ⟨B.exec, B.bytes, hml, B.returns, hown, hts, B.notSynchronized, hK, hA, hN⟩ x1 x2 s.heap [] ls hm ⟨hP, hD, va_S.rf⟩ (lv_sub hl [0, 1, 2] rfl) (fun r H locs ls pc hdg hn hSt hq => W.zret B.exec B.bytes B.returns hn (fun t ht hW => ⟨⟨r, (), rfl, ⟨hq, hn⟩, cPost_of hAe ht hW.alike hSt hK⟩, hSt.2.2.F ht⟩) hSt.2.2.2.2 hdg B.notSynchronized)

-- ===== X7_improve
theorem fl_X7_improve_45 : Cond.fieldLink RX7 45 "UnlikeUnionModel" "thrown" "I" ∈ wsX7_improve := by decide +kernel
theorem fl_X7_improve_49 : Cond.fieldLink RX7 49 "UnlikeUnionModel" "jobs" "I" ∈ wsX7_improve := by decide +kernel
theorem fl_X7_improve_13 : Cond.fieldLink RX7 13 "UnlikeUnionModel" "own" "[I" ∈ wsX7_improve := by decide +kernel
theorem fl_X7_improve_7 : Cond.fieldLink RX7 7 "UnlikeUnionModel" "time" "[I" ∈ wsX7_improve := by decide +kernel
theorem in_X7_improve_X7 : ∀ w ∈ u_ws RX7 TX7 14, w ∈ wsX7_improve := by decide +kernel
abbrev rmX7_improve : Room := { frames := 3, cells := 0, slots := 0, locals := 232 }
def p_X7_improve_126 (N : Nat) (mti : Nat → Int32) (mjo : Int32) (Q : Int32 → (Nat → Int32) → (Nat → Int32) → Int32 → Prop) (K113 : Int32 → Int32 → Int32 → (Nat → Int32) → (Nat → Int32) → Int32 → Prop) : Nat → Int32 → Int32 → Int32 → Int32 → (Nat → Int32) → (Nat → Int32) → Int32 → Prop
  | 0 => fun _ _ _ _ _ _ _ => False
  | n + 1 => fun x1 x2 x3 x4 mow mlo mth => (mjo ≤ x4 → (∀ x3_2 : Int32, x3_2 = x3 + (1 : Int32) → (K113 x1 x2 x3_2 mow mlo mth))) ∧ (¬ mjo ≤ x4 → (p_X7_canSwap N mti mow (fun r_3 => (r_3 = 0 → (∀ x4_5 : Int32, x4_5 = x4 + (1 : Int32) → (p_X7_improve_126 N mti mjo Q K113 n x1 x2 x3 x4_5 mow mlo mth))) ∧ (¬ r_3 = 0 → (p_X7_swaps N (fun mow_6 => p_X7_rank N mti mow_6 mjo (fun r_7 mlo_8 => (x1 ≤ r_7 → ((x1 ≤ r_7 → (p_X7_swaps N (fun mow_11 => ∀ x4_12 : Int32, x4_12 = x4 + (1 : Int32) → (p_X7_improve_126 N mti mjo Q K113 n x1 x2 x3 x4_12 mow_11 mlo_8 mth)) x3 x4 mow_6)) ∧ (¬ x1 ≤ r_7 → (p_X7_swaps N (fun mow_13 => ∀ x4_14 : Int32, x4_14 = x4 + (1 : Int32) → (p_X7_improve_126 N mti mjo Q K113 n r_7 x2 x3 x4_14 mow_13 mlo_8 mth)) x3 x4 mow_6)))) ∧ (¬ x1 ≤ r_7 → (∀ x2_15 : Int32, x2_15 = ((100 : Int32) + ((10 : Int32) * x3)) + x4 → ((x1 ≤ r_7 → (p_X7_swaps N (fun mow_17 => ∀ x4_18 : Int32, x4_18 = x4 + (1 : Int32) → (p_X7_improve_126 N mti mjo Q K113 n x1 x2_15 x3 x4_18 mow_17 mlo_8 mth)) x3 x4 mow_6)) ∧ (¬ x1 ≤ r_7 → (p_X7_swaps N (fun mow_19 => ∀ x4_20 : Int32, x4_20 = x4 + (1 : Int32) → (p_X7_improve_126 N mti mjo Q K113 n r_7 x2_15 x3 x4_20 mow_19 mlo_8 mth)) x3 x4 mow_6)))))) mlo) x3 x4 mow))) x3 x4))

def p_X7_improve_113 (N : Nat) (mti : Nat → Int32) (mjo : Int32) (Q : Int32 → (Nat → Int32) → (Nat → Int32) → Int32 → Prop) : Nat → Int32 → Int32 → Int32 → (Nat → Int32) → (Nat → Int32) → Int32 → Prop
  | 0 => fun _ _ _ _ _ _ => False
  | n + 1 => fun x1 x2 x3 mow mlo mth => (mjo ≤ x3 → ((0 ≤ x2 → (((100 : Int32) ≤ x2 → (p_X7_swaps N (fun mow_4 => p_X7_measures N mow_4 mti mjo (fun r_5 mlo_6 => Q r_5 mow_4 mlo_6 mth) mlo) ((x2 - (100 : Int32)) / (10 : Int32)) (x2 - x2 / (10 : Int32) * (10 : Int32)) mow)) ∧ (¬ (100 : Int32) ≤ x2 → (∀ f_7 : Int32, f_7 = x2 - x2 / (3 : Int32) * (3 : Int32) → (vp_in (x2 / (3 : Int32)) 7 ∧ (p_X7_measures N (upd mow (x2 / (3 : Int32)).toNatClampNeg f_7) mti mjo (fun r_9 mlo_10 => Q r_9 (upd mow (x2 / (3 : Int32)).toNatClampNeg f_7) mlo_10 mth) mlo)))))) ∧ (¬ 0 ≤ x2 → (Q (-1 : Int32) mow mlo mth)))) ∧ (¬ mjo ≤ x3 → (∀ x4_11 : Int32, x4_11 = x3 + (1 : Int32) → (p_X7_improve_126 N mti mjo Q (fun x1 x2 x3 mow mlo mth => p_X7_improve_113 N mti mjo Q n x1 x2 x3 mow mlo mth) N x1 x2 x3 x4_11 mow mlo mth)))

def p_X7_improve_14 (N : Nat) (mti : Nat → Int32) (mjo : Int32) (Q : Int32 → (Nat → Int32) → (Nat → Int32) → Int32 → Prop) : Nat → Int32 → Int32 → Int32 → (Nat → Int32) → (Nat → Int32) → Int32 → Prop
  | 0 => fun _ _ _ _ _ _ => False
  | n + 1 => fun x1 x2 x3 mow mlo mth => (((3 : Int32) * mjo) ≤ x3 → (p_X7_improve_113 N mti mjo Q N x1 x2 (0 : Int32) mow mlo mth)) ∧ (¬ ((3 : Int32) * mjo) ≤ x3 → (∀ x4_2 : Int32, x4_2 = x3 / (3 : Int32) → (vp_in x4_2 7 ∧ (∀ x5_4 : Int32, x5_4 = mow (x4_2).toNatClampNeg → (vp_in x3 21 ∧ (((mti (x3).toNatClampNeg) ≤ 0 → (∀ x3_7 : Int32, x3_7 = x3 + (1 : Int32) → (p_X7_improve_14 N mti mjo Q n x1 x2 x3_7 mow mlo mth))) ∧ (¬ (mti (x3).toNatClampNeg) ≤ 0 → (((x3 - x3 / (3 : Int32) * (3 : Int32)) = x5_4 → (∀ x3_9 : Int32, x3_9 = x3 + (1 : Int32) → (p_X7_improve_14 N mti mjo Q n x1 x2 x3_9 mow mlo mth))) ∧ (¬ (x3 - x3 / (3 : Int32) * (3 : Int32)) = x5_4 → (∀ f_10 : Int32, f_10 = x3 - x3 / (3 : Int32) * (3 : Int32) → (vp_in x4_2 7 ∧ (p_X7_rank N mti (upd mow (x4_2).toNatClampNeg f_10) mjo (fun r_12 mlo_13 => (x1 ≤ r_12 → ((x1 ≤ r_12 → (vp_in x4_2 7 ∧ (∀ x3_17 : Int32, x3_17 = x3 + (1 : Int32) → (p_X7_improve_14 N mti mjo Q n x1 x2 x3_17 (upd (upd mow (x4_2).toNatClampNeg f_10) (x4_2).toNatClampNeg x5_4) mlo_13 mth)))) ∧ (¬ x1 ≤ r_12 → (vp_in x4_2 7 ∧ (∀ x3_19 : Int32, x3_19 = x3 + (1 : Int32) → (p_X7_improve_14 N mti mjo Q n r_12 x2 x3_19 (upd (upd mow (x4_2).toNatClampNeg f_10) (x4_2).toNatClampNeg x5_4) mlo_13 mth)))))) ∧ (¬ x1 ≤ r_12 → ((x1 ≤ r_12 → (vp_in x4_2 7 ∧ (∀ x3_22 : Int32, x3_22 = x3 + (1 : Int32) → (p_X7_improve_14 N mti mjo Q n x1 x3 x3_22 (upd (upd mow (x4_2).toNatClampNeg f_10) (x4_2).toNatClampNeg x5_4) mlo_13 mth)))) ∧ (¬ x1 ≤ r_12 → (vp_in x4_2 7 ∧ (∀ x3_24 : Int32, x3_24 = x3 + (1 : Int32) → (p_X7_improve_14 N mti mjo Q n r_12 x3 x3_24 (upd (upd mow (x4_2).toNatClampNeg f_10) (x4_2).toNatClampNeg x5_4) mlo_13 mth))))))) mlo))))))))))))

def p_X7_improve (N : Nat) (mti : Nat → Int32) (mjo : Int32) (Q : Int32 → (Nat → Int32) → (Nat → Int32) → Int32 → Prop) (mow : Nat → Int32) (mlo : Nat → Int32) (mth : Int32) : Prop :=
  p_X7_rank N mti mow mjo (fun r_1 mlo_2 => p_X7_improve_14 N mti mjo Q N r_1 (-1 : Int32) (0 : Int32) mow mlo_2 (0 : Int32)) mlo

set_option maxHeartbeats 4000000 in
set_option maxRecDepth 100000 in
theorem k_X7_improve_126 {N : Nat} {mti : Nat → Int32} {mjo : Int32} {mta : Nat → Int64} {mba : Nat → Int32} {mib : Nat → Int32} {mdi : Int64} {mab : Nat → Int64} {mbe : Nat → Int64} {mpl : Nat → Int32} {mbs : Nat → Int32} {mro : Nat → Int32} {Q : Int32 → (Nat → Int32) → (Nat → Int32) → Int32 → Prop} {K113 : Int32 → Int32 → Int32 → (Nat → Int32) → (Nat → Int32) → Int32 → Prop} (C0 : cxM cX7_improve 7 (some .int) RX7 wsX7_improve p s m args meth c dC dI cy A) :
    ∀ (n : Nat) (x1 : Int32) (x2 : Int32) (x3 : Int32) (x4 : Int32) (mow : Nat → Int32) (mlo : Nat → Int32) (mth : Int32) (H : Heap) (locs : List Loc) (ls : Array Slot) (hm : p_X7_improve_126 N mti mjo Q K113 n x1 x2 x3 x4 mow mlo mth) (hSt : stC dC dI A s (wM ad cy mti mow mjo mta mba mib mdi mab mbe mpl mbs mro mlo mth) H locs) (hl : lv_has ls 7 [(0, .ref (ad 0)), (1, .int x1), (2, .int x2), (3, .int x3), (4, .int x4)]) (hret : ∀ (r : Int32) (mow : Nat → Int32) (mlo : Nat → Int32) (mth : Int32) (H : Heap) (locs : List Loc) (ls : Array Slot) (pc : Nat), decode cX7_improve pc = .ok (.ireturn, 1) → stC dC dI A s (wM ad cy mti mow mjo mta mba mib mdi mab mbe mpl mbs mro mlo mth) H locs → Q r mow mlo mth → W p l e rmX7_improve s m args below meth c H locs 0 0 Z (F0 m pc ls [.int r])) (hK113 : ∀ (x1 : Int32) (x2 : Int32) (x3 : Int32) (mow : Nat → Int32) (mlo : Nat → Int32) (mth : Int32) (H : Heap) (locs : List Loc) (ls : Array Slot), K113 x1 x2 x3 mow mlo mth → stC dC dI A s (wM ad cy mti mow mjo mta mba mib mdi mab mbe mpl mbs mro mlo mth) H locs → lv_has ls 7 [(0, .ref (ad 0)), (1, .int x1), (2, .int x2), (3, .int x3)] → W p l e rmX7_improve s m args below meth c H locs 0 0 Z (F0 m 113 ls [])), W p l e rmX7_improve s m args below meth c H locs 0 0 Z (F0 m 126 ls []) := by
  obtain ⟨hx, hb, hml, hr, hown, hts, hlocks, hK, hA, hN⟩ := id C0
  intro n
  induction n with
  | zero => intro x1 x2 x3 x4 mow mlo mth H locs ls hm; exact False.elim hm
  | succ n ih =>
    intro x1 x2 x3 x4 mow mlo mth H locs ls hm hSt hl hret hK113
    obtain ⟨hP, hD, hS⟩ := hSt
    unfold p_X7_improve_126 at hm
    refine lv_iload hx hb dX7_improve_126 (lv_at hl 4 rfl) ?_
    refine lv_aload_n hx hb dX7_improve_128 rfl (lv_at hl 0 rfl) ?_
    refine va_get (D := (dC, dI)) (ci := 7) (v := .int mjo) (C := RX7) (T := TX7) (N := 14) hx hb hts in_X7_improve_X7 hown hK hP 0 rfl rfl 2 (by decide) (hts _ fl_X7_improve_49) (fun _ h9 => h9) rfl dX7_improve_129 ?_
    refine lv_icmp_ge (tgt := 205) hx hb dX7_improve_132 (by decide) (fun c_1 => ?_) (fun c_1 => ?_)
    · have hm := hm.1 c_1
      obtain ⟨x3_2, ex3_2⟩ : ∃ y : Int32, y = x3 + (1 : Int32) := ⟨_, rfl⟩
      have hm := hm x3_2 ex3_2
      refine lv_iinc (v := x3_2) (lv' := [(3, .int x3_2), (0, .ref (ad 0)), (1, .int x1), (2, .int x2), (4, .int x4)]) hx hb dX7_improve_205 hl (k := 3) rfl (by rw [ex3_2]; rfl) (by decide) rfl (fun ls hl => ?_)
      refine lv_goto (tgt := 113) hx hb dX7_improve_208 (by decide) ?_
      exact hK113 x1 x2 x3_2 mow mlo mth H locs ls hm ⟨hP, hD, hS⟩ (lv_sub hl [1, 2, 3, 0] rfl)
    · have hm := hm.2 c_1
      refine lv_aload_n hx hb dX7_improve_135 rfl (lv_at hl 0 rfl) ?_
      refine lv_iload_n hx hb dX7_improve_136 rfl (lv_at hl 3 rfl) ?_
      refine lv_iload hx hb dX7_improve_137 (lv_at hl 4 rfl) ?_
      have hFc := va_freeSame hD hS hA
      refine va_calli (va_runV (As := [.int x3, .int x4]) (rest := []) ⟨hx, hb, hml, hown, hts⟩ (c_X7_canSwap l dC dI cy ad H.size mti mow mjo mta mba mib mdi mab mbe mpl mbs mro mlo mth x3 x4 _ _ hm) (cwV 2 hts gX7_improve_X7_canSwap rfl rfl rfl (by decide +kernel) ⟨Nat.le_of_ble_eq_true rfl, Nat.le_of_ble_eq_true rfl⟩) ⟨cPre_blind, va_recv hK hP (ci := 7) (q0 := 0) rfl rfl, fun U hU hW => ⟨rfl, cPre_at hP hK hD hN hU hW⟩⟩ rfl rfl hl.1 rfl (lv_room (Nat.le_of_ble_eq_true rfl)) dX7_improve_139 ⟨Nat.zero_le _, Nat.zero_le _⟩) hS (fun q _ h => hFc q h) hFc (fun r_3 u t H locs ht hvm hw hB hz1 hk1 hS => ?_)
      try dsimp only at hw
      obtain ⟨hm, nar_r_3⟩ := hw
      have hP : va_P (dC, dI) vwCl (wM ad cy mti mow mjo mta mba mib mdi mab mbe mpl mbs mro mlo mth) H := cPost_P ht hB
      have hD : va_D A (wM ad cy mti mow mjo mta mba mib mdi mab mbe mpl mbs mro mlo mth) := cPost_D hFc hB
      refine lv_if_eq (tgt := 199) hx hb dX7_improve_142 (by decide) (fun c_4 => ?_) (fun c_4 => ?_)
      · have hm := hm.1 c_4
        obtain ⟨x4_5, ex4_5⟩ : ∃ y : Int32, y = x4 + (1 : Int32) := ⟨_, rfl⟩
        have hm := hm x4_5 ex4_5
        refine lv_iinc (v := x4_5) (lv' := [(4, .int x4_5), (0, .ref (ad 0)), (1, .int x1), (2, .int x2), (3, .int x3)]) hx hb dX7_improve_199 hl (k := 4) rfl (by rw [ex4_5]; rfl) (by decide) rfl (fun ls hl => ?_)
        refine lv_goto (tgt := 126) hx hb dX7_improve_202 (by decide) ?_
        exact ih x1 x2 x3 x4_5 mow mlo mth H locs ls hm ⟨hP, hD, hS⟩ (lv_sub hl [1, 2, 3, 4, 0] rfl) hret hK113
      · have hm := hm.2 c_4
        refine lv_aload_n hx hb dX7_improve_145 rfl (lv_at hl 0 rfl) ?_
        refine lv_iload_n hx hb dX7_improve_146 rfl (lv_at hl 3 rfl) ?_
        refine lv_iload hx hb dX7_improve_147 (lv_at hl 4 rfl) ?_
        have hFc := va_freeSame hD hS hA
        refine va_callv (va_runV (As := [.int x3, .int x4]) (rest := []) ⟨hx, hb, hml, hown, hts⟩ (c_X7_swaps l dC dI cy ad H.size mti mow mjo mta mba mib mdi mab mbe mpl mbs mro mlo mth x3 x4 _ _ hm) (cwV 2 hts gX7_improve_X7_swaps rfl rfl rfl (by decide +kernel) ⟨Nat.le_of_ble_eq_true rfl, Nat.le_of_ble_eq_true rfl⟩) ⟨cPre_blind, va_recv hK hP (ci := 7) (q0 := 0) rfl rfl, fun U hU hW => ⟨rfl, cPre_at hP hK hD hN hU hW⟩⟩ rfl rfl hl.1 rfl (lv_room (Nat.le_of_ble_eq_true rfl)) dX7_improve_149 ⟨Nat.zero_le _, Nat.zero_le _⟩) hS (fun q _ h => hFc q h) hFc (fun u t H locs ht hvm hw hB hz1 hk1 hS => ?_)
        obtain ⟨mow_6, rfl⟩ : ∃ z, z = u := ⟨_, rfl⟩
        try dsimp only at hw
        have hm := hw
        have hP : va_P (dC, dI) vwCl (wM ad cy mti mow_6 mjo mta mba mib mdi mab mbe mpl mbs mro mlo mth) H := cPost_P ht hB
        have hD : va_D A (wM ad cy mti mow_6 mjo mta mba mib mdi mab mbe mpl mbs mro mlo mth) := cPost_D hFc hB
        refine lv_aload_n hx hb dX7_improve_152 rfl (lv_at hl 0 rfl) ?_
        have hFc := va_freeSame hD hS hA
        refine va_calli (va_runV (As := []) (rest := []) ⟨hx, hb, hml, hown, hts⟩ (c_X7_rank l dC dI cy ad H.size mti mow_6 mjo mta mba mib mdi mab mbe mpl mbs mro mlo mth  _ _ hm) (cwV 0 hts gX7_improve_X7_rank rfl rfl rfl (by decide +kernel) ⟨Nat.le_of_ble_eq_true rfl, Nat.le_of_ble_eq_true rfl⟩) ⟨cPre_blind, va_recv hK hP (ci := 7) (q0 := 0) rfl rfl, fun U hU hW => ⟨rfl, cPre_at hP hK hD hN hU hW⟩⟩ rfl rfl hl.1 rfl (lv_room (Nat.le_of_ble_eq_true rfl)) dX7_improve_153 ⟨Nat.zero_le _, Nat.zero_le _⟩) hS (fun q _ h => hFc q h) hFc (fun r_7 u t H locs ht hvm hw hB hz1 hk1 hS => ?_)
        obtain ⟨mlo_8, rfl⟩ : ∃ z, z = u := ⟨_, rfl⟩
        try dsimp only at hw
        have hm := hw
        have hP : va_P (dC, dI) vwCl (wM ad cy mti mow_6 mjo mta mba mib mdi mab mbe mpl mbs mro mlo_8 mth) H := cPost_P ht hB
        have hD : va_D A (wM ad cy mti mow_6 mjo mta mba mib mdi mab mbe mpl mbs mro mlo_8 mth) := cPost_D hFc hB
        refine lv_istore (lv' := [(5, .int r_7), (0, .ref (ad 0)), (1, .int x1), (2, .int x2), (3, .int x3), (4, .int x4)]) hx hb dX7_improve_156 hl (by decide) rfl (fun ls hl => ?_)
        refine lv_iload hx hb dX7_improve_158 (lv_at hl 0 rfl) ?_
        refine lv_iload_n hx hb dX7_improve_160 rfl (lv_at hl 2 rfl) ?_
        refine lv_icmp_ge (tgt := 177) hx hb dX7_improve_161 (by decide) (fun c_9 => ?_) (fun c_9 => ?_)
        · have hm := hm.1 c_9
          refine lv_iload_n hx hb dX7_improve_177 rfl (lv_at hl 3 rfl) ?_
          refine lv_istore_n (lv' := [(2, .int x2), (5, .int r_7), (0, .ref (ad 0)), (1, .int x1), (3, .int x3), (4, .int x4)]) hx hb dX7_improve_178 rfl hl (by decide) rfl (fun ls hl => ?_)
          refine lv_iload hx hb dX7_improve_179 (lv_at hl 1 rfl) ?_
          refine lv_iload_n hx hb dX7_improve_181 rfl (lv_at hl 3 rfl) ?_
          refine lv_icmp_ge (tgt := 190) hx hb dX7_improve_182 (by decide) (fun c_10 => ?_) (fun c_10 => ?_)
          · have hm := hm.1 c_10
            refine lv_iload_n hx hb dX7_improve_190 rfl (lv_at hl 3 rfl) ?_
            refine lv_istore_n (lv' := [(1, .int x1), (2, .int x2), (5, .int r_7), (0, .ref (ad 0)), (3, .int x3), (4, .int x4)]) hx hb dX7_improve_191 rfl hl (by decide) rfl (fun ls hl => ?_)
            refine lv_aload_n hx hb dX7_improve_192 rfl (lv_at hl 3 rfl) ?_
            refine lv_iload_n hx hb dX7_improve_193 rfl (lv_at hl 4 rfl) ?_
            refine lv_iload hx hb dX7_improve_194 (lv_at hl 5 rfl) ?_
            have hFc := va_freeSame hD hS hA
            refine va_callv (va_runV (As := [.int x3, .int x4]) (rest := []) ⟨hx, hb, hml, hown, hts⟩ (c_X7_swaps l dC dI cy ad H.size mti mow_6 mjo mta mba mib mdi mab mbe mpl mbs mro mlo_8 mth x3 x4 _ _ hm) (cwV 2 hts gX7_improve_X7_swaps rfl rfl rfl (by decide +kernel) ⟨Nat.le_of_ble_eq_true rfl, Nat.le_of_ble_eq_true rfl⟩) ⟨cPre_blind, va_recv hK hP (ci := 7) (q0 := 0) rfl rfl, fun U hU hW => ⟨rfl, cPre_at hP hK hD hN hU hW⟩⟩ rfl rfl hl.1 rfl (lv_room (Nat.le_of_ble_eq_true rfl)) dX7_improve_196 ⟨Nat.zero_le _, Nat.zero_le _⟩) hS (fun q _ h => hFc q h) hFc (fun u t H locs ht hvm hw hB hz1 hk1 hS => ?_)
            obtain ⟨mow_11, rfl⟩ : ∃ z, z = u := ⟨_, rfl⟩
            try dsimp only at hw
            have hm := hw
            have hP : va_P (dC, dI) vwCl (wM ad cy mti mow_11 mjo mta mba mib mdi mab mbe mpl mbs mro mlo_8 mth) H := cPost_P ht hB
            have hD : va_D A (wM ad cy mti mow_11 mjo mta mba mib mdi mab mbe mpl mbs mro mlo_8 mth) := cPost_D hFc hB
            obtain ⟨x4_12, ex4_12⟩ : ∃ y : Int32, y = x4 + (1 : Int32) := ⟨_, rfl⟩
            have hm := hm x4_12 ex4_12
            refine lv_iinc (v := x4_12) (lv' := [(4, .int x4_12), (1, .int x1), (2, .int x2), (5, .int r_7), (0, .ref (ad 0)), (3, .int x3)]) hx hb dX7_improve_199 hl (k := 5) rfl (by rw [ex4_12]; rfl) (by decide) rfl (fun ls hl => ?_)
            refine lv_goto (tgt := 126) hx hb dX7_improve_202 (by decide) ?_
            exact ih x1 x2 x3 x4_12 mow_11 mlo_8 mth H locs ls hm ⟨hP, hD, hS⟩ (lv_sub hl [4, 1, 2, 5, 0] rfl) hret hK113
          · have hm := hm.2 c_10
            refine lv_iload hx hb dX7_improve_185 (lv_at hl 1 rfl) ?_
            refine lv_goto (tgt := 191) hx hb dX7_improve_187 (by decide) ?_
            refine lv_istore_n (lv' := [(1, .int r_7), (2, .int x2), (5, .int r_7), (0, .ref (ad 0)), (3, .int x3), (4, .int x4)]) hx hb dX7_improve_191 rfl hl (by decide) rfl (fun ls hl => ?_)
            refine lv_aload_n hx hb dX7_improve_192 rfl (lv_at hl 3 rfl) ?_
            refine lv_iload_n hx hb dX7_improve_193 rfl (lv_at hl 4 rfl) ?_
            refine lv_iload hx hb dX7_improve_194 (lv_at hl 5 rfl) ?_
            have hFc := va_freeSame hD hS hA
            refine va_callv (va_runV (As := [.int x3, .int x4]) (rest := []) ⟨hx, hb, hml, hown, hts⟩ (c_X7_swaps l dC dI cy ad H.size mti mow_6 mjo mta mba mib mdi mab mbe mpl mbs mro mlo_8 mth x3 x4 _ _ hm) (cwV 2 hts gX7_improve_X7_swaps rfl rfl rfl (by decide +kernel) ⟨Nat.le_of_ble_eq_true rfl, Nat.le_of_ble_eq_true rfl⟩) ⟨cPre_blind, va_recv hK hP (ci := 7) (q0 := 0) rfl rfl, fun U hU hW => ⟨rfl, cPre_at hP hK hD hN hU hW⟩⟩ rfl rfl hl.1 rfl (lv_room (Nat.le_of_ble_eq_true rfl)) dX7_improve_196 ⟨Nat.zero_le _, Nat.zero_le _⟩) hS (fun q _ h => hFc q h) hFc (fun u t H locs ht hvm hw hB hz1 hk1 hS => ?_)
            obtain ⟨mow_13, rfl⟩ : ∃ z, z = u := ⟨_, rfl⟩
            try dsimp only at hw
            have hm := hw
            have hP : va_P (dC, dI) vwCl (wM ad cy mti mow_13 mjo mta mba mib mdi mab mbe mpl mbs mro mlo_8 mth) H := cPost_P ht hB
            have hD : va_D A (wM ad cy mti mow_13 mjo mta mba mib mdi mab mbe mpl mbs mro mlo_8 mth) := cPost_D hFc hB
            obtain ⟨x4_14, ex4_14⟩ : ∃ y : Int32, y = x4 + (1 : Int32) := ⟨_, rfl⟩
            have hm := hm x4_14 ex4_14
            refine lv_iinc (v := x4_14) (lv' := [(4, .int x4_14), (1, .int r_7), (2, .int x2), (5, .int r_7), (0, .ref (ad 0)), (3, .int x3)]) hx hb dX7_improve_199 hl (k := 5) rfl (by rw [ex4_14]; rfl) (by decide) rfl (fun ls hl => ?_)
            refine lv_goto (tgt := 126) hx hb dX7_improve_202 (by decide) ?_
            exact ih r_7 x2 x3 x4_14 mow_13 mlo_8 mth H locs ls hm ⟨hP, hD, hS⟩ (lv_sub hl [4, 1, 2, 5, 0] rfl) hret hK113
        · have hm := hm.2 c_9
          refine lv_bipush (v := 100) hx hb dX7_improve_164 (by decide) ?_
          refine lv_bipush (v := 10) hx hb dX7_improve_166 (by decide) ?_
          refine lv_iload_n hx hb dX7_improve_168 rfl (lv_at hl 4 rfl) ?_
          refine lv_imul hx hb dX7_improve_169 ?_
          refine lv_iadd hx hb dX7_improve_170 ?_
          refine lv_iload hx hb dX7_improve_171 (lv_at hl 5 rfl) ?_
          refine lv_iadd hx hb dX7_improve_173 ?_
          refine lv_goto (tgt := 178) hx hb dX7_improve_174 (by decide) ?_
          refine lv_topi (fun x2_15 ex2_15 => ?_)
          have hm := hm x2_15 ex2_15
          refine lv_istore_n (lv' := [(2, .int x2_15), (5, .int r_7), (0, .ref (ad 0)), (1, .int x1), (3, .int x3), (4, .int x4)]) hx hb dX7_improve_178 rfl hl (by decide) rfl (fun ls hl => ?_)
          refine lv_iload hx hb dX7_improve_179 (lv_at hl 1 rfl) ?_
          refine lv_iload_n hx hb dX7_improve_181 rfl (lv_at hl 3 rfl) ?_
          refine lv_icmp_ge (tgt := 190) hx hb dX7_improve_182 (by decide) (fun c_16 => ?_) (fun c_16 => ?_)
          · have hm := hm.1 c_16
            refine lv_iload_n hx hb dX7_improve_190 rfl (lv_at hl 3 rfl) ?_
            refine lv_istore_n (lv' := [(1, .int x1), (2, .int x2_15), (5, .int r_7), (0, .ref (ad 0)), (3, .int x3), (4, .int x4)]) hx hb dX7_improve_191 rfl hl (by decide) rfl (fun ls hl => ?_)
            refine lv_aload_n hx hb dX7_improve_192 rfl (lv_at hl 3 rfl) ?_
            refine lv_iload_n hx hb dX7_improve_193 rfl (lv_at hl 4 rfl) ?_
            refine lv_iload hx hb dX7_improve_194 (lv_at hl 5 rfl) ?_
            have hFc := va_freeSame hD hS hA
            refine va_callv (va_runV (As := [.int x3, .int x4]) (rest := []) ⟨hx, hb, hml, hown, hts⟩ (c_X7_swaps l dC dI cy ad H.size mti mow_6 mjo mta mba mib mdi mab mbe mpl mbs mro mlo_8 mth x3 x4 _ _ hm) (cwV 2 hts gX7_improve_X7_swaps rfl rfl rfl (by decide +kernel) ⟨Nat.le_of_ble_eq_true rfl, Nat.le_of_ble_eq_true rfl⟩) ⟨cPre_blind, va_recv hK hP (ci := 7) (q0 := 0) rfl rfl, fun U hU hW => ⟨rfl, cPre_at hP hK hD hN hU hW⟩⟩ rfl rfl hl.1 rfl (lv_room (Nat.le_of_ble_eq_true rfl)) dX7_improve_196 ⟨Nat.zero_le _, Nat.zero_le _⟩) hS (fun q _ h => hFc q h) hFc (fun u t H locs ht hvm hw hB hz1 hk1 hS => ?_)
            obtain ⟨mow_17, rfl⟩ : ∃ z, z = u := ⟨_, rfl⟩
            try dsimp only at hw
            have hm := hw
            have hP : va_P (dC, dI) vwCl (wM ad cy mti mow_17 mjo mta mba mib mdi mab mbe mpl mbs mro mlo_8 mth) H := cPost_P ht hB
            have hD : va_D A (wM ad cy mti mow_17 mjo mta mba mib mdi mab mbe mpl mbs mro mlo_8 mth) := cPost_D hFc hB
            obtain ⟨x4_18, ex4_18⟩ : ∃ y : Int32, y = x4 + (1 : Int32) := ⟨_, rfl⟩
            have hm := hm x4_18 ex4_18
            refine lv_iinc (v := x4_18) (lv' := [(4, .int x4_18), (1, .int x1), (2, .int x2_15), (5, .int r_7), (0, .ref (ad 0)), (3, .int x3)]) hx hb dX7_improve_199 hl (k := 5) rfl (by rw [ex4_18]; rfl) (by decide) rfl (fun ls hl => ?_)
            refine lv_goto (tgt := 126) hx hb dX7_improve_202 (by decide) ?_
            exact ih x1 x2_15 x3 x4_18 mow_17 mlo_8 mth H locs ls hm ⟨hP, hD, hS⟩ (lv_sub hl [4, 1, 2, 5, 0] rfl) hret hK113
          · have hm := hm.2 c_16
            refine lv_iload hx hb dX7_improve_185 (lv_at hl 1 rfl) ?_
            refine lv_goto (tgt := 191) hx hb dX7_improve_187 (by decide) ?_
            refine lv_istore_n (lv' := [(1, .int r_7), (2, .int x2_15), (5, .int r_7), (0, .ref (ad 0)), (3, .int x3), (4, .int x4)]) hx hb dX7_improve_191 rfl hl (by decide) rfl (fun ls hl => ?_)
            refine lv_aload_n hx hb dX7_improve_192 rfl (lv_at hl 3 rfl) ?_
            refine lv_iload_n hx hb dX7_improve_193 rfl (lv_at hl 4 rfl) ?_
            refine lv_iload hx hb dX7_improve_194 (lv_at hl 5 rfl) ?_
            have hFc := va_freeSame hD hS hA
            refine va_callv (va_runV (As := [.int x3, .int x4]) (rest := []) ⟨hx, hb, hml, hown, hts⟩ (c_X7_swaps l dC dI cy ad H.size mti mow_6 mjo mta mba mib mdi mab mbe mpl mbs mro mlo_8 mth x3 x4 _ _ hm) (cwV 2 hts gX7_improve_X7_swaps rfl rfl rfl (by decide +kernel) ⟨Nat.le_of_ble_eq_true rfl, Nat.le_of_ble_eq_true rfl⟩) ⟨cPre_blind, va_recv hK hP (ci := 7) (q0 := 0) rfl rfl, fun U hU hW => ⟨rfl, cPre_at hP hK hD hN hU hW⟩⟩ rfl rfl hl.1 rfl (lv_room (Nat.le_of_ble_eq_true rfl)) dX7_improve_196 ⟨Nat.zero_le _, Nat.zero_le _⟩) hS (fun q _ h => hFc q h) hFc (fun u t H locs ht hvm hw hB hz1 hk1 hS => ?_)
            obtain ⟨mow_19, rfl⟩ : ∃ z, z = u := ⟨_, rfl⟩
            try dsimp only at hw
            have hm := hw
            have hP : va_P (dC, dI) vwCl (wM ad cy mti mow_19 mjo mta mba mib mdi mab mbe mpl mbs mro mlo_8 mth) H := cPost_P ht hB
            have hD : va_D A (wM ad cy mti mow_19 mjo mta mba mib mdi mab mbe mpl mbs mro mlo_8 mth) := cPost_D hFc hB
            obtain ⟨x4_20, ex4_20⟩ : ∃ y : Int32, y = x4 + (1 : Int32) := ⟨_, rfl⟩
            have hm := hm x4_20 ex4_20
            refine lv_iinc (v := x4_20) (lv' := [(4, .int x4_20), (1, .int r_7), (2, .int x2_15), (5, .int r_7), (0, .ref (ad 0)), (3, .int x3)]) hx hb dX7_improve_199 hl (k := 5) rfl (by rw [ex4_20]; rfl) (by decide) rfl (fun ls hl => ?_)
            refine lv_goto (tgt := 126) hx hb dX7_improve_202 (by decide) ?_
            exact ih r_7 x2_15 x3 x4_20 mow_19 mlo_8 mth H locs ls hm ⟨hP, hD, hS⟩ (lv_sub hl [4, 1, 2, 5, 0] rfl) hret hK113

set_option maxHeartbeats 4000000 in
set_option maxRecDepth 100000 in
theorem k_X7_improve_113 {N : Nat} {mti : Nat → Int32} {mjo : Int32} {mta : Nat → Int64} {mba : Nat → Int32} {mib : Nat → Int32} {mdi : Int64} {mab : Nat → Int64} {mbe : Nat → Int64} {mpl : Nat → Int32} {mbs : Nat → Int32} {mro : Nat → Int32} {Q : Int32 → (Nat → Int32) → (Nat → Int32) → Int32 → Prop} (C0 : cxM cX7_improve 7 (some .int) RX7 wsX7_improve p s m args meth c dC dI cy A) :
    ∀ (n : Nat) (x1 : Int32) (x2 : Int32) (x3 : Int32) (mow : Nat → Int32) (mlo : Nat → Int32) (mth : Int32) (H : Heap) (locs : List Loc) (ls : Array Slot) (hm : p_X7_improve_113 N mti mjo Q n x1 x2 x3 mow mlo mth) (hSt : stC dC dI A s (wM ad cy mti mow mjo mta mba mib mdi mab mbe mpl mbs mro mlo mth) H locs) (hl : lv_has ls 7 [(0, .ref (ad 0)), (1, .int x1), (2, .int x2), (3, .int x3)]) (hret : ∀ (r : Int32) (mow : Nat → Int32) (mlo : Nat → Int32) (mth : Int32) (H : Heap) (locs : List Loc) (ls : Array Slot) (pc : Nat), decode cX7_improve pc = .ok (.ireturn, 1) → stC dC dI A s (wM ad cy mti mow mjo mta mba mib mdi mab mbe mpl mbs mro mlo mth) H locs → Q r mow mlo mth → W p l e rmX7_improve s m args below meth c H locs 0 0 Z (F0 m pc ls [.int r])), W p l e rmX7_improve s m args below meth c H locs 0 0 Z (F0 m 113 ls []) := by
  obtain ⟨hx, hb, hml, hr, hown, hts, hlocks, hK, hA, hN⟩ := id C0
  intro n
  induction n with
  | zero => intro x1 x2 x3 mow mlo mth H locs ls hm; exact False.elim hm
  | succ n ih =>
    intro x1 x2 x3 mow mlo mth H locs ls hm hSt hl hret
    obtain ⟨hP, hD, hS⟩ := hSt
    unfold p_X7_improve_113 at hm
    refine lv_iload_n hx hb dX7_improve_113 rfl (lv_at hl 3 rfl) ?_
    refine lv_aload_n hx hb dX7_improve_114 rfl (lv_at hl 0 rfl) ?_
    refine va_get (D := (dC, dI)) (ci := 7) (v := .int mjo) (C := RX7) (T := TX7) (N := 14) hx hb hts in_X7_improve_X7 hown hK hP 0 rfl rfl 2 (by decide) (hts _ fl_X7_improve_49) (fun _ h9 => h9) rfl dX7_improve_115 ?_
    refine lv_icmp_ge (tgt := 211) hx hb dX7_improve_118 (by decide) (fun c_1 => ?_) (fun c_1 => ?_)
    · have hm := hm.1 c_1
      refine lv_iload_n hx hb dX7_improve_211 rfl (lv_at hl 2 rfl) ?_
      refine lv_if_ge (tgt := 217) hx hb dX7_improve_212 (by decide) (fun c_2 => ?_) (fun c_2 => ?_)
      · have hm := hm.1 c_2
        refine lv_iload_n hx hb dX7_improve_217 rfl (lv_at hl 2 rfl) ?_
        refine lv_bipush (v := 100) hx hb dX7_improve_218 (by decide) ?_
        refine lv_icmp_ge (tgt := 237) hx hb dX7_improve_220 (by decide) (fun c_3 => ?_) (fun c_3 => ?_)
        · have hm := hm.1 c_3
          refine lv_aload_n hx hb dX7_improve_237 rfl (lv_at hl 0 rfl) ?_
          refine lv_iload_n hx hb dX7_improve_238 rfl (lv_at hl 2 rfl) ?_
          refine lv_bipush (v := 100) hx hb dX7_improve_239 (by decide) ?_
          refine lv_isub hx hb dX7_improve_241 ?_
          refine lv_bipush (v := 10) hx hb dX7_improve_242 (by decide) ?_
          refine lv_idiv hx hb dX7_improve_244 (by decide) ?_
          refine lv_iload_n hx hb dX7_improve_245 rfl (lv_at hl 2 rfl) ?_
          refine lv_bipush (v := 10) hx hb dX7_improve_246 (by decide) ?_
          refine lv_irem hx hb dX7_improve_248 (by decide) ?_
          have hFc := va_freeSame hD hS hA
          refine va_callv (va_runV (As := [.int ((x2 - (100 : Int32)) / (10 : Int32)), .int (x2 - x2 / (10 : Int32) * (10 : Int32))]) (rest := []) ⟨hx, hb, hml, hown, hts⟩ (c_X7_swaps l dC dI cy ad H.size mti mow mjo mta mba mib mdi mab mbe mpl mbs mro mlo mth ((x2 - (100 : Int32)) / (10 : Int32)) (x2 - x2 / (10 : Int32) * (10 : Int32)) _ _ hm) (cwV 2 hts gX7_improve_X7_swaps rfl rfl rfl (by decide +kernel) ⟨Nat.le_of_ble_eq_true rfl, Nat.le_of_ble_eq_true rfl⟩) ⟨cPre_blind, va_recv hK hP (ci := 7) (q0 := 0) rfl rfl, fun U hU hW => ⟨rfl, cPre_at hP hK hD hN hU hW⟩⟩ rfl rfl hl.1 rfl (lv_room (Nat.le_of_ble_eq_true rfl)) dX7_improve_249 ⟨Nat.zero_le _, Nat.zero_le _⟩) hS (fun q _ h => hFc q h) hFc (fun u t H locs ht hvm hw hB hz1 hk1 hS => ?_)
          obtain ⟨mow_4, rfl⟩ : ∃ z, z = u := ⟨_, rfl⟩
          try dsimp only at hw
          have hm := hw
          have hP : va_P (dC, dI) vwCl (wM ad cy mti mow_4 mjo mta mba mib mdi mab mbe mpl mbs mro mlo mth) H := cPost_P ht hB
          have hD : va_D A (wM ad cy mti mow_4 mjo mta mba mib mdi mab mbe mpl mbs mro mlo mth) := cPost_D hFc hB
          refine lv_aload_n hx hb dX7_improve_252 rfl (lv_at hl 0 rfl) ?_
          refine lv_aload_n hx hb dX7_improve_253 rfl (lv_at hl 0 rfl) ?_
          refine va_get (D := (dC, dI)) (ci := 7) (v := .ref (ad 2)) (C := RX7) (T := TX7) (N := 14) hx hb hts in_X7_improve_X7 hown hK hP 0 rfl rfl 1 (by decide) (hts _ fl_X7_improve_13) (fun _ h9 => h9) rfl dX7_improve_254 ?_
          have hFc := va_freeSame hD hS hA
          refine va_calli (va_runV (As := [.ref (ad 2)]) (rest := []) ⟨hx, hb, hml, hown, hts⟩ (c_X7_measures_o l dC dI cy ad H.size mti mow_4 mjo mta mba mib mdi mab mbe mpl mbs mro mlo mth  _ _ hm) (cwV 1 hts gX7_improve_X7_measures rfl rfl rfl (by decide +kernel) ⟨Nat.le_of_ble_eq_true rfl, Nat.le_of_ble_eq_true rfl⟩) ⟨cPre_blind, va_recv hK hP (ci := 7) (q0 := 0) rfl rfl, fun U hU hW => ⟨rfl, cPre_at hP hK hD hN hU hW⟩⟩ rfl rfl hl.1 rfl (lv_room (Nat.le_of_ble_eq_true rfl)) dX7_improve_257 ⟨Nat.zero_le _, Nat.zero_le _⟩) hS (fun q _ h => hFc q h) hFc (fun r_5 u t H locs ht hvm hw hB hz1 hk1 hS => ?_)
          obtain ⟨mlo_6, rfl⟩ : ∃ z, z = u := ⟨_, rfl⟩
          try dsimp only at hw
          have hm := hw
          have hP : va_P (dC, dI) vwCl (wM ad cy mti mow_4 mjo mta mba mib mdi mab mbe mpl mbs mro mlo_6 mth) H := cPost_P ht hB
          have hD : va_D A (wM ad cy mti mow_4 mjo mta mba mib mdi mab mbe mpl mbs mro mlo_6 mth) := cPost_D hFc hB
          exact hret r_5 mow_4 mlo_6 mth H locs ls 260 dX7_improve_260 ⟨hP, hD, hS⟩ hm
        · have hm := hm.2 c_3
          refine lv_aload_n hx hb dX7_improve_223 rfl (lv_at hl 0 rfl) ?_
          refine va_get (D := (dC, dI)) (ci := 7) (v := .ref (ad 2)) (C := RX7) (T := TX7) (N := 14) hx hb hts in_X7_improve_X7 hown hK hP 0 rfl rfl 1 (by decide) (hts _ fl_X7_improve_13) (fun _ h9 => h9) rfl dX7_improve_224 ?_
          refine lv_iload_n hx hb dX7_improve_227 rfl (lv_at hl 2 rfl) ?_
          refine lv_iconst (v := 3) hx hb dX7_improve_228 (by decide) ?_
          refine lv_idiv hx hb dX7_improve_229 (by decide) ?_
          refine lv_iload_n hx hb dX7_improve_230 rfl (lv_at hl 2 rfl) ?_
          refine lv_iconst (v := 3) hx hb dX7_improve_231 (by decide) ?_
          refine lv_irem hx hb dX7_improve_232 (by decide) ?_
          refine lv_topi (fun f_7 ef_7 => ?_)
          have hm := hm f_7 ef_7
          have hi_8 := hm.1
          have hm := hm.2
          refine va_iast hx hb hK hP hD hS 2 0 rfl rfl hi_8 dX7_improve_233 (fun H locs hP hD hS => ?_)
          have hP : va_P (dC, dI) vwCl (wM ad cy mti (upd mow (x2 / (3 : Int32)).toNatClampNeg f_7) mjo mta mba mib mdi mab mbe mpl mbs mro mlo mth) H := hP
          have hD : va_D A (wM ad cy mti (upd mow (x2 / (3 : Int32)).toNatClampNeg f_7) mjo mta mba mib mdi mab mbe mpl mbs mro mlo mth) := hD
          refine lv_goto (tgt := 252) hx hb dX7_improve_234 (by decide) ?_
          refine lv_aload_n hx hb dX7_improve_252 rfl (lv_at hl 0 rfl) ?_
          refine lv_aload_n hx hb dX7_improve_253 rfl (lv_at hl 0 rfl) ?_
          refine va_get (D := (dC, dI)) (ci := 7) (v := .ref (ad 2)) (C := RX7) (T := TX7) (N := 14) hx hb hts in_X7_improve_X7 hown hK hP 0 rfl rfl 1 (by decide) (hts _ fl_X7_improve_13) (fun _ h9 => h9) rfl dX7_improve_254 ?_
          have hFc := va_freeSame hD hS hA
          refine va_calli (va_runV (As := [.ref (ad 2)]) (rest := []) ⟨hx, hb, hml, hown, hts⟩ (c_X7_measures_o l dC dI cy ad H.size mti (upd mow (x2 / (3 : Int32)).toNatClampNeg f_7) mjo mta mba mib mdi mab mbe mpl mbs mro mlo mth  _ _ hm) (cwV 1 hts gX7_improve_X7_measures rfl rfl rfl (by decide +kernel) ⟨Nat.le_of_ble_eq_true rfl, Nat.le_of_ble_eq_true rfl⟩) ⟨cPre_blind, va_recv hK hP (ci := 7) (q0 := 0) rfl rfl, fun U hU hW => ⟨rfl, cPre_at hP hK hD hN hU hW⟩⟩ rfl rfl hl.1 rfl (lv_room (Nat.le_of_ble_eq_true rfl)) dX7_improve_257 ⟨Nat.zero_le _, Nat.zero_le _⟩) hS (fun q _ h => hFc q h) hFc (fun r_9 u t H locs ht hvm hw hB hz1 hk1 hS => ?_)
          obtain ⟨mlo_10, rfl⟩ : ∃ z, z = u := ⟨_, rfl⟩
          try dsimp only at hw
          have hm := hw
          have hP : va_P (dC, dI) vwCl (wM ad cy mti (upd mow (x2 / (3 : Int32)).toNatClampNeg f_7) mjo mta mba mib mdi mab mbe mpl mbs mro mlo_10 mth) H := cPost_P ht hB
          have hD : va_D A (wM ad cy mti (upd mow (x2 / (3 : Int32)).toNatClampNeg f_7) mjo mta mba mib mdi mab mbe mpl mbs mro mlo_10 mth) := cPost_D hFc hB
          exact hret r_9 (upd mow (x2 / (3 : Int32)).toNatClampNeg f_7) mlo_10 mth H locs ls 260 dX7_improve_260 ⟨hP, hD, hS⟩ hm
      · have hm := hm.2 c_2
        refine lv_iconst (v := -1) hx hb dX7_improve_215 (by decide) ?_
        exact hret (-1 : Int32) mow mlo mth H locs ls 216 dX7_improve_216 ⟨hP, hD, hS⟩ hm
    · have hm := hm.2 c_1
      refine lv_iload_n hx hb dX7_improve_121 rfl (lv_at hl 3 rfl) ?_
      refine lv_iconst (v := 1) hx hb dX7_improve_122 (by decide) ?_
      refine lv_iadd hx hb dX7_improve_123 ?_
      refine lv_topi (fun x4_11 ex4_11 => ?_)
      have hm := hm x4_11 ex4_11
      refine lv_istore (lv' := [(4, .int x4_11), (0, .ref (ad 0)), (1, .int x1), (2, .int x2), (3, .int x3)]) hx hb dX7_improve_124 hl (by decide) rfl (fun ls hl => ?_)
      refine k_X7_improve_126 C0 N x1 x2 x3 x4_11 mow mlo mth H locs ls hm ⟨hP, hD, hS⟩ (lv_sub hl [1, 2, 3, 4, 0] rfl) hret (fun x1 x2 x3 mow mlo mth H locs ls hm hSt hl => ?_)
      · obtain ⟨hP, hD, hS⟩ := hSt
        exact ih x1 x2 x3 mow mlo mth H locs ls hm ⟨hP, hD, hS⟩ hl hret

set_option maxHeartbeats 4000000 in
set_option maxRecDepth 100000 in
theorem k_X7_improve_14 {N : Nat} {mti : Nat → Int32} {mjo : Int32} {mta : Nat → Int64} {mba : Nat → Int32} {mib : Nat → Int32} {mdi : Int64} {mab : Nat → Int64} {mbe : Nat → Int64} {mpl : Nat → Int32} {mbs : Nat → Int32} {mro : Nat → Int32} {Q : Int32 → (Nat → Int32) → (Nat → Int32) → Int32 → Prop} (C0 : cxM cX7_improve 7 (some .int) RX7 wsX7_improve p s m args meth c dC dI cy A) :
    ∀ (n : Nat) (x1 : Int32) (x2 : Int32) (x3 : Int32) (mow : Nat → Int32) (mlo : Nat → Int32) (mth : Int32) (H : Heap) (locs : List Loc) (ls : Array Slot) (hm : p_X7_improve_14 N mti mjo Q n x1 x2 x3 mow mlo mth) (hSt : stC dC dI A s (wM ad cy mti mow mjo mta mba mib mdi mab mbe mpl mbs mro mlo mth) H locs) (hl : lv_has ls 7 [(0, .ref (ad 0)), (1, .int x1), (2, .int x2), (3, .int x3)]) (hret : ∀ (r : Int32) (mow : Nat → Int32) (mlo : Nat → Int32) (mth : Int32) (H : Heap) (locs : List Loc) (ls : Array Slot) (pc : Nat), decode cX7_improve pc = .ok (.ireturn, 1) → stC dC dI A s (wM ad cy mti mow mjo mta mba mib mdi mab mbe mpl mbs mro mlo mth) H locs → Q r mow mlo mth → W p l e rmX7_improve s m args below meth c H locs 0 0 Z (F0 m pc ls [.int r])), W p l e rmX7_improve s m args below meth c H locs 0 0 Z (F0 m 14 ls []) := by
  obtain ⟨hx, hb, hml, hr, hown, hts, hlocks, hK, hA, hN⟩ := id C0
  intro n
  induction n with
  | zero => intro x1 x2 x3 mow mlo mth H locs ls hm; exact False.elim hm
  | succ n ih =>
    intro x1 x2 x3 mow mlo mth H locs ls hm hSt hl hret
    obtain ⟨hP, hD, hS⟩ := hSt
    unfold p_X7_improve_14 at hm
    refine lv_iload_n hx hb dX7_improve_14 rfl (lv_at hl 3 rfl) ?_
    refine lv_iconst (v := 3) hx hb dX7_improve_15 (by decide) ?_
    refine lv_aload_n hx hb dX7_improve_16 rfl (lv_at hl 0 rfl) ?_
    refine va_get (D := (dC, dI)) (ci := 7) (v := .int mjo) (C := RX7) (T := TX7) (N := 14) hx hb hts in_X7_improve_X7 hown hK hP 0 rfl rfl 2 (by decide) (hts _ fl_X7_improve_49) (fun _ h9 => h9) rfl dX7_improve_17 ?_
    refine lv_imul hx hb dX7_improve_20 ?_
    refine lv_icmp_ge (tgt := 111) hx hb dX7_improve_21 (by decide) (fun c_1 => ?_) (fun c_1 => ?_)
    · have hm := hm.1 c_1
      refine lv_iconst (v := 0) hx hb dX7_improve_111 (by decide) ?_
      refine lv_istore_n (lv' := [(3, .int (0 : Int32)), (0, .ref (ad 0)), (1, .int x1), (2, .int x2)]) hx hb dX7_improve_112 rfl hl (by decide) rfl (fun ls hl => ?_)
      exact k_X7_improve_113 C0 N x1 x2 (0 : Int32) mow mlo mth H locs ls hm ⟨hP, hD, hS⟩ (lv_sub hl [1, 2, 3, 0] rfl) hret
    · have hm := hm.2 c_1
      refine lv_iload_n hx hb dX7_improve_24 rfl (lv_at hl 3 rfl) ?_
      refine lv_iconst (v := 3) hx hb dX7_improve_25 (by decide) ?_
      refine lv_idiv hx hb dX7_improve_26 (by decide) ?_
      refine lv_topi (fun x4_2 ex4_2 => ?_)
      have hm := hm x4_2 ex4_2
      refine lv_istore (lv' := [(4, .int x4_2), (0, .ref (ad 0)), (1, .int x1), (2, .int x2), (3, .int x3)]) hx hb dX7_improve_27 hl (by decide) rfl (fun ls hl => ?_)
      refine lv_aload_n hx hb dX7_improve_29 rfl (lv_at hl 1 rfl) ?_
      refine va_get (D := (dC, dI)) (ci := 7) (v := .ref (ad 2)) (C := RX7) (T := TX7) (N := 14) hx hb hts in_X7_improve_X7 hown hK hP 0 rfl rfl 1 (by decide) (hts _ fl_X7_improve_13) (fun _ h9 => h9) rfl dX7_improve_30 ?_
      refine lv_iload hx hb dX7_improve_33 (lv_at hl 0 rfl) ?_
      have hi_3 := hm.1
      have hm := hm.2
      refine va_iald hx hb hK hP 2 0 rfl rfl hi_3 dX7_improve_35 ?_
      refine lv_topi (fun x5_4 ex5_4 => ?_)
      have hm := hm x5_4 ex5_4
      refine lv_istore (lv' := [(5, .int x5_4), (4, .int x4_2), (0, .ref (ad 0)), (1, .int x1), (2, .int x2), (3, .int x3)]) hx hb dX7_improve_36 hl (by decide) rfl (fun ls hl => ?_)
      refine lv_aload_n hx hb dX7_improve_38 rfl (lv_at hl 2 rfl) ?_
      refine va_get (D := (dC, dI)) (ci := 7) (v := .ref (ad 1)) (C := RX7) (T := TX7) (N := 14) hx hb hts in_X7_improve_X7 hown hK hP 0 rfl rfl 0 (by decide) (hts _ fl_X7_improve_7) (fun _ h9 => h9) rfl dX7_improve_39 ?_
      refine lv_iload_n hx hb dX7_improve_42 rfl (lv_at hl 5 rfl) ?_
      have hi_5 := hm.1
      have hm := hm.2
      refine va_iald hx hb hK hP 1 0 rfl rfl hi_5 dX7_improve_43 ?_
      refine lv_if_le (tgt := 105) hx hb dX7_improve_44 (by decide) (fun c_6 => ?_) (fun c_6 => ?_)
      · have hm := hm.1 c_6
        obtain ⟨x3_7, ex3_7⟩ : ∃ y : Int32, y = x3 + (1 : Int32) := ⟨_, rfl⟩
        have hm := hm x3_7 ex3_7
        refine lv_iinc (v := x3_7) (lv' := [(3, .int x3_7), (5, .int x5_4), (4, .int x4_2), (0, .ref (ad 0)), (1, .int x1), (2, .int x2)]) hx hb dX7_improve_105 hl (k := 5) rfl (by rw [ex3_7]; rfl) (by decide) rfl (fun ls hl => ?_)
        refine lv_goto (tgt := 14) hx hb dX7_improve_108 (by decide) ?_
        exact ih x1 x2 x3_7 mow mlo mth H locs ls hm ⟨hP, hD, hS⟩ (lv_sub hl [3, 4, 5, 0] rfl) hret
      · have hm := hm.2 c_6
        refine lv_iload_n hx hb dX7_improve_47 rfl (lv_at hl 5 rfl) ?_
        refine lv_iconst (v := 3) hx hb dX7_improve_48 (by decide) ?_
        refine lv_irem hx hb dX7_improve_49 (by decide) ?_
        refine lv_iload hx hb dX7_improve_50 (lv_at hl 0 rfl) ?_
        refine lv_icmp_eq (tgt := 105) hx hb dX7_improve_52 (by decide) (fun c_8 => ?_) (fun c_8 => ?_)
        · have hm := hm.1 c_8
          obtain ⟨x3_9, ex3_9⟩ : ∃ y : Int32, y = x3 + (1 : Int32) := ⟨_, rfl⟩
          have hm := hm x3_9 ex3_9
          refine lv_iinc (v := x3_9) (lv' := [(3, .int x3_9), (5, .int x5_4), (4, .int x4_2), (0, .ref (ad 0)), (1, .int x1), (2, .int x2)]) hx hb dX7_improve_105 hl (k := 5) rfl (by rw [ex3_9]; rfl) (by decide) rfl (fun ls hl => ?_)
          refine lv_goto (tgt := 14) hx hb dX7_improve_108 (by decide) ?_
          exact ih x1 x2 x3_9 mow mlo mth H locs ls hm ⟨hP, hD, hS⟩ (lv_sub hl [3, 4, 5, 0] rfl) hret
        · have hm := hm.2 c_8
          refine lv_aload_n hx hb dX7_improve_55 rfl (lv_at hl 2 rfl) ?_
          refine va_get (D := (dC, dI)) (ci := 7) (v := .ref (ad 2)) (C := RX7) (T := TX7) (N := 14) hx hb hts in_X7_improve_X7 hown hK hP 0 rfl rfl 1 (by decide) (hts _ fl_X7_improve_13) (fun _ h9 => h9) rfl dX7_improve_56 ?_
          refine lv_iload hx hb dX7_improve_59 (lv_at hl 1 rfl) ?_
          refine lv_iload_n hx hb dX7_improve_61 rfl (lv_at hl 5 rfl) ?_
          refine lv_iconst (v := 3) hx hb dX7_improve_62 (by decide) ?_
          refine lv_irem hx hb dX7_improve_63 (by decide) ?_
          refine lv_topi (fun f_10 ef_10 => ?_)
          have hm := hm f_10 ef_10
          have hi_11 := hm.1
          have hm := hm.2
          refine va_iast hx hb hK hP hD hS 2 0 rfl rfl hi_11 dX7_improve_64 (fun H locs hP hD hS => ?_)
          have hP : va_P (dC, dI) vwCl (wM ad cy mti (upd mow (x4_2).toNatClampNeg f_10) mjo mta mba mib mdi mab mbe mpl mbs mro mlo mth) H := hP
          have hD : va_D A (wM ad cy mti (upd mow (x4_2).toNatClampNeg f_10) mjo mta mba mib mdi mab mbe mpl mbs mro mlo mth) := hD
          refine lv_aload_n hx hb dX7_improve_65 rfl (lv_at hl 2 rfl) ?_
          have hFc := va_freeSame hD hS hA
          refine va_calli (va_runV (As := []) (rest := []) ⟨hx, hb, hml, hown, hts⟩ (c_X7_rank l dC dI cy ad H.size mti (upd mow (x4_2).toNatClampNeg f_10) mjo mta mba mib mdi mab mbe mpl mbs mro mlo mth  _ _ hm) (cwV 0 hts gX7_improve_X7_rank rfl rfl rfl (by decide +kernel) ⟨Nat.le_of_ble_eq_true rfl, Nat.le_of_ble_eq_true rfl⟩) ⟨cPre_blind, va_recv hK hP (ci := 7) (q0 := 0) rfl rfl, fun U hU hW => ⟨rfl, cPre_at hP hK hD hN hU hW⟩⟩ rfl rfl hl.1 rfl (lv_room (Nat.le_of_ble_eq_true rfl)) dX7_improve_66 ⟨Nat.zero_le _, Nat.zero_le _⟩) hS (fun q _ h => hFc q h) hFc (fun r_12 u t H locs ht hvm hw hB hz1 hk1 hS => ?_)
          obtain ⟨mlo_13, rfl⟩ : ∃ z, z = u := ⟨_, rfl⟩
          try dsimp only at hw
          have hm := hw
          have hP : va_P (dC, dI) vwCl (wM ad cy mti (upd mow (x4_2).toNatClampNeg f_10) mjo mta mba mib mdi mab mbe mpl mbs mro mlo_13 mth) H := cPost_P ht hB
          have hD : va_D A (wM ad cy mti (upd mow (x4_2).toNatClampNeg f_10) mjo mta mba mib mdi mab mbe mpl mbs mro mlo_13 mth) := cPost_D hFc hB
          refine lv_istore (lv' := [(6, .int r_12), (5, .int x5_4), (4, .int x4_2), (0, .ref (ad 0)), (1, .int x1), (2, .int x2), (3, .int x3)]) hx hb dX7_improve_69 hl (by decide) rfl (fun ls hl => ?_)
          refine lv_iload hx hb dX7_improve_71 (lv_at hl 0 rfl) ?_
          refine lv_iload_n hx hb dX7_improve_73 rfl (lv_at hl 4 rfl) ?_
          refine lv_icmp_ge (tgt := 81) hx hb dX7_improve_74 (by decide) (fun c_14 => ?_) (fun c_14 => ?_)
          · have hm := hm.1 c_14
            refine lv_iload_n hx hb dX7_improve_81 rfl (lv_at hl 5 rfl) ?_
            refine lv_istore_n (lv' := [(2, .int x2), (6, .int r_12), (5, .int x5_4), (4, .int x4_2), (0, .ref (ad 0)), (1, .int x1), (3, .int x3)]) hx hb dX7_improve_82 rfl hl (by decide) rfl (fun ls hl => ?_)
            refine lv_iload hx hb dX7_improve_83 (lv_at hl 1 rfl) ?_
            refine lv_iload_n hx hb dX7_improve_85 rfl (lv_at hl 5 rfl) ?_
            refine lv_icmp_ge (tgt := 94) hx hb dX7_improve_86 (by decide) (fun c_15 => ?_) (fun c_15 => ?_)
            · have hm := hm.1 c_15
              refine lv_iload_n hx hb dX7_improve_94 rfl (lv_at hl 5 rfl) ?_
              refine lv_istore_n (lv' := [(1, .int x1), (2, .int x2), (6, .int r_12), (5, .int x5_4), (4, .int x4_2), (0, .ref (ad 0)), (3, .int x3)]) hx hb dX7_improve_95 rfl hl (by decide) rfl (fun ls hl => ?_)
              refine lv_aload_n hx hb dX7_improve_96 rfl (lv_at hl 5 rfl) ?_
              refine va_get (D := (dC, dI)) (ci := 7) (v := .ref (ad 2)) (C := RX7) (T := TX7) (N := 14) hx hb hts in_X7_improve_X7 hown hK hP 0 rfl rfl 1 (by decide) (hts _ fl_X7_improve_13) (fun _ h9 => h9) rfl dX7_improve_97 ?_
              refine lv_iload hx hb dX7_improve_100 (lv_at hl 4 rfl) ?_
              refine lv_iload hx hb dX7_improve_102 (lv_at hl 3 rfl) ?_
              have hi_16 := hm.1
              have hm := hm.2
              refine va_iast hx hb hK hP hD hS 2 0 rfl rfl hi_16 dX7_improve_104 (fun H locs hP hD hS => ?_)
              have hP : va_P (dC, dI) vwCl (wM ad cy mti (upd (upd mow (x4_2).toNatClampNeg f_10) (x4_2).toNatClampNeg x5_4) mjo mta mba mib mdi mab mbe mpl mbs mro mlo_13 mth) H := hP
              have hD : va_D A (wM ad cy mti (upd (upd mow (x4_2).toNatClampNeg f_10) (x4_2).toNatClampNeg x5_4) mjo mta mba mib mdi mab mbe mpl mbs mro mlo_13 mth) := hD
              obtain ⟨x3_17, ex3_17⟩ : ∃ y : Int32, y = x3 + (1 : Int32) := ⟨_, rfl⟩
              have hm := hm x3_17 ex3_17
              refine lv_iinc (v := x3_17) (lv' := [(3, .int x3_17), (1, .int x1), (2, .int x2), (6, .int r_12), (5, .int x5_4), (4, .int x4_2), (0, .ref (ad 0))]) hx hb dX7_improve_105 hl (k := 6) rfl (by rw [ex3_17]; rfl) (by decide) rfl (fun ls hl => ?_)
              refine lv_goto (tgt := 14) hx hb dX7_improve_108 (by decide) ?_
              exact ih x1 x2 x3_17 (upd (upd mow (x4_2).toNatClampNeg f_10) (x4_2).toNatClampNeg x5_4) mlo_13 mth H locs ls hm ⟨hP, hD, hS⟩ (lv_sub hl [6, 1, 2, 0] rfl) hret
            · have hm := hm.2 c_15
              refine lv_iload hx hb dX7_improve_89 (lv_at hl 1 rfl) ?_
              refine lv_goto (tgt := 95) hx hb dX7_improve_91 (by decide) ?_
              refine lv_istore_n (lv' := [(1, .int r_12), (2, .int x2), (6, .int r_12), (5, .int x5_4), (4, .int x4_2), (0, .ref (ad 0)), (3, .int x3)]) hx hb dX7_improve_95 rfl hl (by decide) rfl (fun ls hl => ?_)
              refine lv_aload_n hx hb dX7_improve_96 rfl (lv_at hl 5 rfl) ?_
              refine va_get (D := (dC, dI)) (ci := 7) (v := .ref (ad 2)) (C := RX7) (T := TX7) (N := 14) hx hb hts in_X7_improve_X7 hown hK hP 0 rfl rfl 1 (by decide) (hts _ fl_X7_improve_13) (fun _ h9 => h9) rfl dX7_improve_97 ?_
              refine lv_iload hx hb dX7_improve_100 (lv_at hl 4 rfl) ?_
              refine lv_iload hx hb dX7_improve_102 (lv_at hl 3 rfl) ?_
              have hi_18 := hm.1
              have hm := hm.2
              refine va_iast hx hb hK hP hD hS 2 0 rfl rfl hi_18 dX7_improve_104 (fun H locs hP hD hS => ?_)
              have hP : va_P (dC, dI) vwCl (wM ad cy mti (upd (upd mow (x4_2).toNatClampNeg f_10) (x4_2).toNatClampNeg x5_4) mjo mta mba mib mdi mab mbe mpl mbs mro mlo_13 mth) H := hP
              have hD : va_D A (wM ad cy mti (upd (upd mow (x4_2).toNatClampNeg f_10) (x4_2).toNatClampNeg x5_4) mjo mta mba mib mdi mab mbe mpl mbs mro mlo_13 mth) := hD
              obtain ⟨x3_19, ex3_19⟩ : ∃ y : Int32, y = x3 + (1 : Int32) := ⟨_, rfl⟩
              have hm := hm x3_19 ex3_19
              refine lv_iinc (v := x3_19) (lv' := [(3, .int x3_19), (1, .int r_12), (2, .int x2), (6, .int r_12), (5, .int x5_4), (4, .int x4_2), (0, .ref (ad 0))]) hx hb dX7_improve_105 hl (k := 6) rfl (by rw [ex3_19]; rfl) (by decide) rfl (fun ls hl => ?_)
              refine lv_goto (tgt := 14) hx hb dX7_improve_108 (by decide) ?_
              exact ih r_12 x2 x3_19 (upd (upd mow (x4_2).toNatClampNeg f_10) (x4_2).toNatClampNeg x5_4) mlo_13 mth H locs ls hm ⟨hP, hD, hS⟩ (lv_sub hl [6, 1, 2, 0] rfl) hret
          · have hm := hm.2 c_14
            refine lv_iload_n hx hb dX7_improve_77 rfl (lv_at hl 6 rfl) ?_
            refine lv_goto (tgt := 82) hx hb dX7_improve_78 (by decide) ?_
            refine lv_istore_n (lv' := [(2, .int x3), (6, .int r_12), (5, .int x5_4), (4, .int x4_2), (0, .ref (ad 0)), (1, .int x1), (3, .int x3)]) hx hb dX7_improve_82 rfl hl (by decide) rfl (fun ls hl => ?_)
            refine lv_iload hx hb dX7_improve_83 (lv_at hl 1 rfl) ?_
            refine lv_iload_n hx hb dX7_improve_85 rfl (lv_at hl 5 rfl) ?_
            refine lv_icmp_ge (tgt := 94) hx hb dX7_improve_86 (by decide) (fun c_20 => ?_) (fun c_20 => ?_)
            · have hm := hm.1 c_20
              refine lv_iload_n hx hb dX7_improve_94 rfl (lv_at hl 5 rfl) ?_
              refine lv_istore_n (lv' := [(1, .int x1), (2, .int x3), (6, .int r_12), (5, .int x5_4), (4, .int x4_2), (0, .ref (ad 0)), (3, .int x3)]) hx hb dX7_improve_95 rfl hl (by decide) rfl (fun ls hl => ?_)
              refine lv_aload_n hx hb dX7_improve_96 rfl (lv_at hl 5 rfl) ?_
              refine va_get (D := (dC, dI)) (ci := 7) (v := .ref (ad 2)) (C := RX7) (T := TX7) (N := 14) hx hb hts in_X7_improve_X7 hown hK hP 0 rfl rfl 1 (by decide) (hts _ fl_X7_improve_13) (fun _ h9 => h9) rfl dX7_improve_97 ?_
              refine lv_iload hx hb dX7_improve_100 (lv_at hl 4 rfl) ?_
              refine lv_iload hx hb dX7_improve_102 (lv_at hl 3 rfl) ?_
              have hi_21 := hm.1
              have hm := hm.2
              refine va_iast hx hb hK hP hD hS 2 0 rfl rfl hi_21 dX7_improve_104 (fun H locs hP hD hS => ?_)
              have hP : va_P (dC, dI) vwCl (wM ad cy mti (upd (upd mow (x4_2).toNatClampNeg f_10) (x4_2).toNatClampNeg x5_4) mjo mta mba mib mdi mab mbe mpl mbs mro mlo_13 mth) H := hP
              have hD : va_D A (wM ad cy mti (upd (upd mow (x4_2).toNatClampNeg f_10) (x4_2).toNatClampNeg x5_4) mjo mta mba mib mdi mab mbe mpl mbs mro mlo_13 mth) := hD
              obtain ⟨x3_22, ex3_22⟩ : ∃ y : Int32, y = x3 + (1 : Int32) := ⟨_, rfl⟩
              have hm := hm x3_22 ex3_22
              refine lv_iinc (v := x3_22) (lv' := [(3, .int x3_22), (1, .int x1), (2, .int x3), (6, .int r_12), (5, .int x5_4), (4, .int x4_2), (0, .ref (ad 0))]) hx hb dX7_improve_105 hl (k := 6) rfl (by rw [ex3_22]; rfl) (by decide) rfl (fun ls hl => ?_)
              refine lv_goto (tgt := 14) hx hb dX7_improve_108 (by decide) ?_
              exact ih x1 x3 x3_22 (upd (upd mow (x4_2).toNatClampNeg f_10) (x4_2).toNatClampNeg x5_4) mlo_13 mth H locs ls hm ⟨hP, hD, hS⟩ (lv_sub hl [6, 1, 2, 0] rfl) hret
            · have hm := hm.2 c_20
              refine lv_iload hx hb dX7_improve_89 (lv_at hl 1 rfl) ?_
              refine lv_goto (tgt := 95) hx hb dX7_improve_91 (by decide) ?_
              refine lv_istore_n (lv' := [(1, .int r_12), (2, .int x3), (6, .int r_12), (5, .int x5_4), (4, .int x4_2), (0, .ref (ad 0)), (3, .int x3)]) hx hb dX7_improve_95 rfl hl (by decide) rfl (fun ls hl => ?_)
              refine lv_aload_n hx hb dX7_improve_96 rfl (lv_at hl 5 rfl) ?_
              refine va_get (D := (dC, dI)) (ci := 7) (v := .ref (ad 2)) (C := RX7) (T := TX7) (N := 14) hx hb hts in_X7_improve_X7 hown hK hP 0 rfl rfl 1 (by decide) (hts _ fl_X7_improve_13) (fun _ h9 => h9) rfl dX7_improve_97 ?_
              refine lv_iload hx hb dX7_improve_100 (lv_at hl 4 rfl) ?_
              refine lv_iload hx hb dX7_improve_102 (lv_at hl 3 rfl) ?_
              have hi_23 := hm.1
              have hm := hm.2
              refine va_iast hx hb hK hP hD hS 2 0 rfl rfl hi_23 dX7_improve_104 (fun H locs hP hD hS => ?_)
              have hP : va_P (dC, dI) vwCl (wM ad cy mti (upd (upd mow (x4_2).toNatClampNeg f_10) (x4_2).toNatClampNeg x5_4) mjo mta mba mib mdi mab mbe mpl mbs mro mlo_13 mth) H := hP
              have hD : va_D A (wM ad cy mti (upd (upd mow (x4_2).toNatClampNeg f_10) (x4_2).toNatClampNeg x5_4) mjo mta mba mib mdi mab mbe mpl mbs mro mlo_13 mth) := hD
              obtain ⟨x3_24, ex3_24⟩ : ∃ y : Int32, y = x3 + (1 : Int32) := ⟨_, rfl⟩
              have hm := hm x3_24 ex3_24
              refine lv_iinc (v := x3_24) (lv' := [(3, .int x3_24), (1, .int r_12), (2, .int x3), (6, .int r_12), (5, .int x5_4), (4, .int x4_2), (0, .ref (ad 0))]) hx hb dX7_improve_105 hl (k := 6) rfl (by rw [ex3_24]; rfl) (by decide) rfl (fun ls hl => ?_)
              refine lv_goto (tgt := 14) hx hb dX7_improve_108 (by decide) ?_
              exact ih r_12 x3 x3_24 (upd (upd mow (x4_2).toNatClampNeg f_10) (x4_2).toNatClampNeg x5_4) mlo_13 mth H locs ls hm ⟨hP, hD, hS⟩ (lv_sub hl [6, 1, 2, 0] rfl) hret

set_option maxHeartbeats 4000000 in
set_option maxRecDepth 100000 in
theorem k_X7_improve_0 {N : Nat} {mti : Nat → Int32} {mjo : Int32} {mta : Nat → Int64} {mba : Nat → Int32} {mib : Nat → Int32} {mdi : Int64} {mab : Nat → Int64} {mbe : Nat → Int64} {mpl : Nat → Int32} {mbs : Nat → Int32} {mro : Nat → Int32} {Q : Int32 → (Nat → Int32) → (Nat → Int32) → Int32 → Prop} (C0 : cxM cX7_improve 7 (some .int) RX7 wsX7_improve p s m args meth c dC dI cy A) :
    ∀ (mow : Nat → Int32) (mlo : Nat → Int32) (mth : Int32) (H : Heap) (locs : List Loc) (ls : Array Slot) (hm : p_X7_improve N mti mjo Q mow mlo mth) (hSt : stC dC dI A s (wM ad cy mti mow mjo mta mba mib mdi mab mbe mpl mbs mro mlo mth) H locs) (hl : lv_has ls 7 [(0, .ref (ad 0))]) (hret : ∀ (r : Int32) (mow : Nat → Int32) (mlo : Nat → Int32) (mth : Int32) (H : Heap) (locs : List Loc) (ls : Array Slot) (pc : Nat), decode cX7_improve pc = .ok (.ireturn, 1) → stC dC dI A s (wM ad cy mti mow mjo mta mba mib mdi mab mbe mpl mbs mro mlo mth) H locs → Q r mow mlo mth → W p l e rmX7_improve s m args below meth c H locs 0 0 Z (F0 m pc ls [.int r])), W p l e rmX7_improve s m args below meth c H locs 0 0 Z (F0 m 0 ls []) := by
  obtain ⟨hx, hb, hml, hr, hown, hts, hlocks, hK, hA, hN⟩ := id C0
  intro mow mlo mth H locs ls hm hSt hl hret
  obtain ⟨hP, hD, hS⟩ := hSt
  unfold p_X7_improve at hm
  refine lv_aload_n hx hb dX7_improve_0 rfl (lv_at hl 0 rfl) ?_
  refine lv_iconst (v := 0) hx hb dX7_improve_1 (by decide) ?_
  refine va_put (D := (dC, dI)) (ci := 7) (v := .int (0 : Int32)) (ty := .int) (C := RX7) (T := TX7) (N := 14) hx hb hts in_X7_improve_X7 tyX7 tyX7_ok nmX7 hown hK hP hD hS 0 rfl rfl 13 (by decide) (hts _ fl_X7_improve_45) (fun _ h9 => h9) rfl (by decide +kernel) rfl rfl (Nat.le_of_ble_eq_true rfl) dX7_improve_2 (fun H locs hP hD hS => ?_)
  have hP : va_P (dC, dI) vwCl (wM ad cy mti mow mjo mta mba mib mdi mab mbe mpl mbs mro mlo (0 : Int32)) H := hP
  have hD : va_D A (wM ad cy mti mow mjo mta mba mib mdi mab mbe mpl mbs mro mlo (0 : Int32)) := hD
  refine lv_aload_n hx hb dX7_improve_5 rfl (lv_at hl 0 rfl) ?_
  have hFc := va_freeSame hD hS hA
  refine va_calli (va_runV (As := []) (rest := []) ⟨hx, hb, hml, hown, hts⟩ (c_X7_rank l dC dI cy ad H.size mti mow mjo mta mba mib mdi mab mbe mpl mbs mro mlo (0 : Int32)  _ _ hm) (cwV 0 hts gX7_improve_X7_rank rfl rfl rfl (by decide +kernel) ⟨Nat.le_of_ble_eq_true rfl, Nat.le_of_ble_eq_true rfl⟩) ⟨cPre_blind, va_recv hK hP (ci := 7) (q0 := 0) rfl rfl, fun U hU hW => ⟨rfl, cPre_at hP hK hD hN hU hW⟩⟩ rfl rfl hl.1 rfl (lv_room (Nat.le_of_ble_eq_true rfl)) dX7_improve_6 ⟨Nat.zero_le _, Nat.zero_le _⟩) hS (fun q _ h => hFc q h) hFc (fun r_1 u t H locs ht hvm hw hB hz1 hk1 hS => ?_)
  obtain ⟨mlo_2, rfl⟩ : ∃ z, z = u := ⟨_, rfl⟩
  try dsimp only at hw
  have hm := hw
  have hP : va_P (dC, dI) vwCl (wM ad cy mti mow mjo mta mba mib mdi mab mbe mpl mbs mro mlo_2 (0 : Int32)) H := cPost_P ht hB
  have hD : va_D A (wM ad cy mti mow mjo mta mba mib mdi mab mbe mpl mbs mro mlo_2 (0 : Int32)) := cPost_D hFc hB
  refine lv_istore_n (lv' := [(1, .int r_1), (0, .ref (ad 0))]) hx hb dX7_improve_9 rfl hl (by decide) rfl (fun ls hl => ?_)
  refine lv_iconst (v := -1) hx hb dX7_improve_10 (by decide) ?_
  refine lv_istore_n (lv' := [(2, .int (-1 : Int32)), (1, .int r_1), (0, .ref (ad 0))]) hx hb dX7_improve_11 rfl hl (by decide) rfl (fun ls hl => ?_)
  refine lv_iconst (v := 0) hx hb dX7_improve_12 (by decide) ?_
  refine lv_istore_n (lv' := [(3, .int (0 : Int32)), (2, .int (-1 : Int32)), (1, .int r_1), (0, .ref (ad 0))]) hx hb dX7_improve_13 rfl hl (by decide) rfl (fun ls hl => ?_)
  exact k_X7_improve_14 C0 N r_1 (-1 : Int32) (0 : Int32) mow mlo_2 (0 : Int32) H locs ls hm ⟨hP, hD, hS⟩ (lv_sub hl [3, 2, 1, 0] rfl) hret

set_option maxHeartbeats 4000000 in
set_option maxRecDepth 100000 in
theorem c_X7_improve (l : Launch) (dC : Nat → ClassId) (dI : Nat → Nat → Nat) (cy : Nat → ClassId) (ad : Nat → Nat) (sz : Nat) (mti : Nat → Int32) (mow : Nat → Int32) (mjo : Int32) (mta : Nat → Int64) (mba : Nat → Int32) (mib : Nat → Int32) (mdi : Int64) (mab : Nat → Int64) (mbe : Nat → Int64) (mpl : Nat → Int32) (mbs : Nat → Int32) (mro : Nat → Int32) (mlo : Nat → Int32) (mth : Int32)  (N : Nat) (Q : Int32 → (Nat → Int32) → (Nat → Int32) → Int32 → Prop) (hm : p_X7_improve N mti mjo Q mow mlo mth) : Met l yX7_improve wsX7_improve rmX7_improve (va_Pc [.ref (ad 0)] (cPre dC dI cy (wM ad cy mti mow mjo mta mba mib mdi mab mbe mpl mbs mro mlo mth) sz)) (va_Qi (fun (r : Int32) (u : (Nat → Int32) × (Nat → Int32) × Int32) => Q r u.1 u.2.1 u.2.2) (fun u t => cPost dC dI cy (wM ad cy mti mow mjo mta mba mib mdi mab mbe mpl mbs mro mlo mth) sz (wM ad cy mti (u.1) mjo mta mba mib mdi mab mbe mpl mbs mro (u.2.1) (u.2.2)) t) (va_A (wM ad cy mti mow mjo mta mba mib mdi mab mbe mpl mbs mro mlo mth) sz)) 0 0 (va_A (wM ad cy mti mow mjo mta mba mib mdi mab mbe mpl mbs mro mlo mth) sz) := by
  refine Met.ofW (cc := cX7_improve) (maxL := 7) (ret := (some .int)) (by decide) rfl ?_
  intro p e s m args below meth c s₁ B hml hv
  obtain ⟨rfl, hsz, hP, hK, hD0, hN⟩ := hv
  have hts := atoms_spec (ws := wsX7_improve) B.pre
  have hown : s.vm.findClass RX7 = some m.cls := findClass_of_methodNamed B.named
  subst hsz
  have hD := hD0.self (sz := s.heap.size)
  generalize hAe : va_A (wM ad cy mti mow mjo mta mba mib mdi mab mbe mpl mbs mro mlo mth) s.heap.size = A at hD ⊢
  have hA : ∀ q : Nat, s.heap.size ≤ q → A q := fun q h => by rw [← hAe]; exact Or.inr h
  have hl := lv_entry ([.ref (ad 0)]) (n := 7) (Nat.le_of_ble_eq_true rfl)
  rw [lg_entry_eq]
  generalize (lg_sl ([.ref (ad 0)]) ++ List.replicate (7 - (lg_sl ([.ref (ad 0)])).length) Slot.unset).toArray = ls at hl ⊢
  have hl : lv_has ls 7 [(0, .ref (ad 0))] := hl
  exact k_X7_improve_0 ⟨B.exec, B.bytes, hml, B.returns, hown, hts, B.notSynchronized, hK, hA, hN⟩ mow mlo mth s.heap [] ls hm ⟨hP, hD, va_S.rf⟩ (lv_sub hl [0] rfl) (fun r mow mlo mth H locs ls pc hdg hSt hq => W.iret B.exec B.bytes B.returns (fun t ht hW => ⟨⟨r, (mow, mlo, mth), rfl, hq, cPost_of hAe ht hW.alike hSt hK⟩, hSt.2.2.F ht⟩) hSt.2.2.2.2 hdg B.notSynchronized)
