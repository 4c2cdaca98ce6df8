variable {p : Program} {l : Launch} {e : Env} {s : State} {m : MethodId} {args : Array Value} {below : List Frame} {meth : Method} {c : Code} {dC : Nat → ClassId} {dI : Nat → Nat → Nat} {cy : Nat → ClassId} {ad : Nat → Nat} {A : Nat → Prop} {Z : State → Prop}
-- ===== X7_starts
theorem fl_X7_starts_49 : Cond.fieldLink RX7 49 "UnlikeUnionModel" "jobs" "I" ∈ wsX7_starts := by decide +kernel
theorem fl_X7_starts_23 : Cond.fieldLink RX7 23 "UnlikeUnionModel" "isBarred" "[Z" ∈ wsX7_starts := by decide +kernel
theorem fl_X7_starts_16 : Cond.fieldLink RX7 16 "UnlikeUnionModel" "table" "[J" ∈ wsX7_starts := by decide +kernel
theorem in_X7_starts_X7 : ∀ w ∈ u_ws RX7 TX7 14, w ∈ wsX7_starts := by decide +kernel
abbrev rmX7_starts : Room := { frames := 3, cells := 0, slots := 0, locals := 229 }
def p_X7_starts_69 (N : Nat) (mjo : Int32) (mib : Nat → Int32) (Q : (Nat → Int64) → (Nat → Int32) → Int64 → Prop) : Nat → Int32 → Int32 → (Nat → Int64) → (Nat → Int32) → Int64 → Prop
  | 0 => fun _ _ _ _ _ => False
  | n + 1 => fun x1 x2 mta mba mdi => ((mjo + (3 : Int32)) ≤ x2 → (p_X7_pivots N mjo (fun mta_2 mba_3 mdi_4 => Q mta_2 mba_3 mdi_4) x1 (21 : Int32) mta mba mdi)) ∧ (¬ (mjo + (3 : Int32)) ≤ x2 → (vp_in (((27 : Int32) * x2) + (26 : Int32)) 297 ∧ (vp_in (((27 : Int32) * x1) + (26 : Int32)) 297 ∧ (((mta (((27 : Int32) * x1) + (26 : Int32)).toNatClampNeg) ≤ (mta (((27 : Int32) * x2) + (26 : Int32)).toNatClampNeg) → (∀ x2_8 : Int32, x2_8 = x2 + (1 : Int32) → (p_X7_starts_69 N mjo mib Q n x1 x2_8 mta mba mdi))) ∧ (¬ (mta (((27 : Int32) * x1) + (26 : Int32)).toNatClampNeg) ≤ (mta (((27 : Int32) * x2) + (26 : Int32)).toNatClampNeg) → (∀ x2_9 : Int32, x2_9 = x2 + (1 : Int32) → (p_X7_starts_69 N mjo mib Q n x2 x2_9 mta mba mdi)))))))

def p_X7_starts_14 (N : Nat) (mjo : Int32) (mib : Nat → Int32) (Q : (Nat → Int64) → (Nat → Int32) → Int64 → Prop) (K2 : Int32 → (Nat → Int64) → (Nat → Int32) → Int64 → Prop) : Nat → Int32 → Int32 → Int32 → (Nat → Int64) → (Nat → Int32) → Int64 → Prop
  | 0 => fun _ _ _ _ _ _ => False
  | n + 1 => fun x1 x2 x3 mta mba mdi => (x3 < 0 → (p_X7_pivots N mjo (fun mta_2 mba_3 mdi_4 => ∀ x1_5 : Int32, x1_5 = x1 + (1 : Int32) → (K2 x1_5 mta_2 mba_3 mdi_4)) x1 x2 mta mba mdi)) ∧ (¬ x3 < 0 → (vp_in (((3 : Int32) * x1) + x3) 26 ∧ (((mib (((3 : Int32) * x1) + x3).toNatClampNeg) = 0 → (∀ x2_8 : Int32, x2_8 = ((3 : Int32) * x1) + x3 → (∀ x3_9 : Int32, x3_9 = x3 + (-1 : Int32) → (p_X7_starts_14 N mjo mib Q K2 n x1 x2_8 x3_9 mta mba mdi)))) ∧ (¬ (mib (((3 : Int32) * x1) + x3).toNatClampNeg) = 0 → (∀ x3_10 : Int32, x3_10 = x3 + (-1 : Int32) → (p_X7_starts_14 N mjo mib Q K2 n x1 x2 x3_10 mta mba mdi))))))

def p_X7_starts_2 (N : Nat) (mjo : Int32) (mib : Nat → Int32) (Q : (Nat → Int64) → (Nat → Int32) → Int64 → Prop) : Nat → Int32 → (Nat → Int64) → (Nat → Int32) → Int64 → Prop
  | 0 => fun _ _ _ _ => False
  | n + 1 => fun x1 mta mba mdi => (mjo ≤ x1 → (p_X7_starts_69 N mjo mib Q N mjo mjo mta mba mdi)) ∧ (¬ mjo ≤ x1 → (p_X7_starts_14 N mjo mib Q (fun x1 mta mba mdi => p_X7_starts_2 N mjo mib Q n x1 mta mba mdi) N x1 (-1 : Int32) (2 : Int32) mta mba mdi))

def p_X7_starts (N : Nat) (mjo : Int32) (mib : Nat → Int32) (Q : (Nat → Int64) → (Nat → Int32) → Int64 → Prop) (mta : Nat → Int64) (mba : Nat → Int32) (mdi : Int64) : Prop :=
  p_X7_starts_2 N mjo mib Q N (0 : Int32) mta mba mdi

set_option maxHeartbeats 4000000 in
set_option maxRecDepth 100000 in
theorem k_X7_starts_69 {N : Nat} {mti : Nat → Int32} {mow : Nat → Int32} {mjo : Int32} {mib : Nat → Int32} {mab : Nat → Int64} {mbe : Nat → Int64} {mpl : Nat → Int32} {mbs : Nat → Int32} {mro : Nat → Int32} {mlo : Nat → Int32} {mth : Int32} {Q : (Nat → Int64) → (Nat → Int32) → Int64 → Prop} (C0 : cxM cX7_starts 4 none RX7 wsX7_starts p s m args meth c dC dI cy A) :
    ∀ (n : Nat) (x1 : Int32) (x2 : Int32) (mta : Nat → Int64) (mba : Nat → Int32) (mdi : Int64) (H : Heap) (locs : List Loc) (ls : Array Slot) (hm : p_X7_starts_69 N mjo mib Q n x1 x2 mta mba mdi) (hSt : stC dC dI A s (wM ad cy mti mow mjo mta mba mib mdi mab mbe mpl mbs mro mlo mth) H locs) (hl : lv_has ls 4 [(0, .ref (ad 0)), (1, .int x1), (2, .int x2)]) (hret : ∀ (mta : Nat → Int64) (mba : Nat → Int32) (mdi : Int64) (H : Heap) (locs : List Loc) (ls : Array Slot) (pc : Nat), decode cX7_starts pc = .ok (.return_, 1) → stC dC dI A s (wM ad cy mti mow mjo mta mba mib mdi mab mbe mpl mbs mro mlo mth) H locs → Q mta mba mdi → W p l e rmX7_starts s m args below meth c H locs 0 0 Z (F0 m pc ls [])), W p l e rmX7_starts s m args below meth c H locs 0 0 Z (F0 m 69 ls []) := by
  obtain ⟨hx, hb, hml, hr, hown, hts, hlocks, hK, hA, hN⟩ := id C0
  intro n
  induction n with
  | zero => intro x1 x2 mta mba mdi H locs ls hm; exact False.elim hm
  | succ n ih =>
    intro x1 x2 mta mba mdi H locs ls hm hSt hl hret
    obtain ⟨hP, hD, hS⟩ := hSt
    unfold p_X7_starts_69 at hm
    refine lv_iload_n hx hb dX7_starts_69 rfl (lv_at hl 2 rfl) ?_
    refine lv_aload_n hx hb dX7_starts_70 rfl (lv_at hl 0 rfl) ?_
    refine va_get (D := (dC, dI)) (ci := 7) (v := .int mjo) (C := RX7) (T := TX7) (N := 14) hx hb hts in_X7_starts_X7 hown hK hP 0 rfl rfl 2 (by decide) (hts _ fl_X7_starts_49) (fun _ h9 => h9) rfl dX7_starts_71 ?_
    refine lv_iconst (v := 3) hx hb dX7_starts_74 (by decide) ?_
    refine lv_iadd hx hb dX7_starts_75 ?_
    refine lv_icmp_ge (tgt := 119) hx hb dX7_starts_76 (by decide) (fun c_1 => ?_) (fun c_1 => ?_)
    · have hm := hm.1 c_1
      refine lv_aload_n hx hb dX7_starts_119 rfl (lv_at hl 0 rfl) ?_
      refine lv_iload_n hx hb dX7_starts_120 rfl (lv_at hl 1 rfl) ?_
      refine lv_bipush (v := 21) hx hb dX7_starts_121 (by decide) ?_
      have hFc := va_freeSame hD hS hA
      refine va_callv (va_runV (As := [.int x1, .int (21 : Int32)]) (rest := []) ⟨hx, hb, hml, hown, hts⟩ (c_X7_pivots l dC dI cy ad H.size mti mow mjo mta mba mib mdi mab mbe mpl mbs mro mlo mth x1 (21 : Int32) _ _ hm) (cwV 2 hts gX7_starts_X7_pivots rfl rfl rfl (by decide +kernel) ⟨Nat.le_of_ble_eq_true rfl, Nat.le_of_ble_eq_true rfl⟩) ⟨cPre_blind, va_recv hK hP (ci := 7) (q0 := 0) rfl rfl, fun U hU hW => ⟨rfl, cPre_at hP hK hD hN hU hW⟩⟩ rfl rfl hl.1 rfl (lv_room (Nat.le_of_ble_eq_true rfl)) dX7_starts_123 ⟨Nat.zero_le _, Nat.zero_le _⟩) hS (fun q _ h => hFc q h) hFc (fun u t H locs ht hvm hw hB hz1 hk1 hS => ?_)
      obtain ⟨mta_2, mba_3, mdi_4⟩ := u
      try dsimp only at hw
      have hm := hw
      have hP : va_P (dC, dI) vwCl (wM ad cy mti mow mjo mta_2 mba_3 mib mdi_4 mab mbe mpl mbs mro mlo mth) H := cPost_P ht hB
      have hD : va_D A (wM ad cy mti mow mjo mta_2 mba_3 mib mdi_4 mab mbe mpl mbs mro mlo mth) := cPost_D hFc hB
      exact hret mta_2 mba_3 mdi_4 H locs ls 126 dX7_starts_126 ⟨hP, hD, hS⟩ hm
    · have hm := hm.2 c_1
      refine lv_aload_n hx hb dX7_starts_79 rfl (lv_at hl 0 rfl) ?_
      refine va_get (D := (dC, dI)) (ci := 7) (v := .ref (ad 3)) (C := RX7) (T := TX7) (N := 14) hx hb hts in_X7_starts_X7 hown hK hP 0 rfl rfl 3 (by decide) (hts _ fl_X7_starts_16) (fun _ h9 => h9) rfl dX7_starts_80 ?_
      refine lv_bipush (v := 27) hx hb dX7_starts_83 (by decide) ?_
      refine lv_iload_n hx hb dX7_starts_85 rfl (lv_at hl 2 rfl) ?_
      refine lv_imul hx hb dX7_starts_86 ?_
      refine lv_bipush (v := 26) hx hb dX7_starts_87 (by decide) ?_
      refine lv_iadd hx hb dX7_starts_89 ?_
      have hi_5 := hm.1
      have hm := hm.2
      refine va_lald hx hb hK hP 3 1 rfl rfl hi_5 dX7_starts_90 ?_
      refine lv_aload_n hx hb dX7_starts_91 rfl (lv_at hl 0 rfl) ?_
      refine va_get (D := (dC, dI)) (ci := 7) (v := .ref (ad 3)) (C := RX7) (T := TX7) (N := 14) hx hb hts in_X7_starts_X7 hown hK hP 0 rfl rfl 3 (by decide) (hts _ fl_X7_starts_16) (fun _ h9 => h9) rfl dX7_starts_92 ?_
      refine lv_bipush (v := 27) hx hb dX7_starts_95 (by decide) ?_
      refine lv_iload_n hx hb dX7_starts_97 rfl (lv_at hl 1 rfl) ?_
      refine lv_imul hx hb dX7_starts_98 ?_
      refine lv_bipush (v := 26) hx hb dX7_starts_99 (by decide) ?_
      refine lv_iadd hx hb dX7_starts_101 ?_
      have hi_6 := hm.1
      have hm := hm.2
      refine va_lald hx hb hK hP 3 1 rfl rfl hi_6 dX7_starts_102 ?_
      refine lq_ge (tgt := 111) hx hb dX7_starts_103 dX7_starts_104 (by decide) (fun c_7 => ?_) (fun c_7 => ?_)
      · have hm := hm.1 c_7
        refine lv_iload_n hx hb dX7_starts_111 rfl (lv_at hl 1 rfl) ?_
        refine lv_istore_n (lv' := [(1, .int x1), (0, .ref (ad 0)), (2, .int x2)]) hx hb dX7_starts_112 rfl hl (by decide) rfl (fun ls hl => ?_)
        obtain ⟨x2_8, ex2_8⟩ : ∃ y : Int32, y = x2 + (1 : Int32) := ⟨_, rfl⟩
        have hm := hm x2_8 ex2_8
        refine lv_iinc (v := x2_8) (lv' := [(2, .int x2_8), (1, .int x1), (0, .ref (ad 0))]) hx hb dX7_starts_113 hl (k := 2) rfl (by rw [ex2_8]; rfl) (by decide) rfl (fun ls hl => ?_)
        refine lv_goto (tgt := 69) hx hb dX7_starts_116 (by decide) ?_
        exact ih x1 x2_8 mta mba mdi H locs ls hm ⟨hP, hD, hS⟩ (lv_sub hl [2, 1, 0] rfl) hret
      · have hm := hm.2 c_7
        refine lv_iload_n hx hb dX7_starts_107 rfl (lv_at hl 2 rfl) ?_
        refine lv_goto (tgt := 112) hx hb dX7_starts_108 (by decide) ?_
        refine lv_istore_n (lv' := [(1, .int x2), (0, .ref (ad 0)), (2, .int x2)]) hx hb dX7_starts_112 rfl hl (by decide) rfl (fun ls hl => ?_)
        obtain ⟨x2_9, ex2_9⟩ : ∃ y : Int32, y = x2 + (1 : Int32) := ⟨_, rfl⟩
        have hm := hm x2_9 ex2_9
        refine lv_iinc (v := x2_9) (lv' := [(2, .int x2_9), (1, .int x2), (0, .ref (ad 0))]) hx hb dX7_starts_113 hl (k := 2) rfl (by rw [ex2_9]; rfl) (by decide) rfl (fun ls hl => ?_)
        refine lv_goto (tgt := 69) hx hb dX7_starts_116 (by decide) ?_
        exact ih x2 x2_9 mta mba mdi H locs ls hm ⟨hP, hD, hS⟩ (lv_sub hl [2, 1, 0] rfl) hret

set_option maxHeartbeats 4000000 in
set_option maxRecDepth 100000 in
theorem k_X7_starts_14 {N : Nat} {mti : Nat → Int32} {mow : Nat → Int32} {mjo : Int32} {mib : Nat → Int32} {mab : Nat → Int64} {mbe : Nat → Int64} {mpl : Nat → Int32} {mbs : Nat → Int32} {mro : Nat → Int32} {mlo : Nat → Int32} {mth : Int32} {Q : (Nat → Int64) → (Nat → Int32) → Int64 → Prop} {K2 : Int32 → (Nat → Int64) → (Nat → Int32) → Int64 → Prop} (C0 : cxM cX7_starts 4 none RX7 wsX7_starts p s m args meth c dC dI cy A) :
    ∀ (n : Nat) (x1 : Int32) (x2 : Int32) (x3 : Int32) (mta : Nat → Int64) (mba : Nat → Int32) (mdi : Int64) (H : Heap) (locs : List Loc) (ls : Array Slot) (hm : p_X7_starts_14 N mjo mib Q K2 n x1 x2 x3 mta mba mdi) (hSt : stC dC dI A s (wM ad cy mti mow mjo mta mba mib mdi mab mbe mpl mbs mro mlo mth) H locs) (hl : lv_has ls 4 [(0, .ref (ad 0)), (1, .int x1), (2, .int x2), (3, .int x3)]) (hret : ∀ (mta : Nat → Int64) (mba : Nat → Int32) (mdi : Int64) (H : Heap) (locs : List Loc) (ls : Array Slot) (pc : Nat), decode cX7_starts pc = .ok (.return_, 1) → stC dC dI A s (wM ad cy mti mow mjo mta mba mib mdi mab mbe mpl mbs mro mlo mth) H locs → Q mta mba mdi → W p l e rmX7_starts s m args below meth c H locs 0 0 Z (F0 m pc ls [])) (hK2 : ∀ (x1 : Int32) (mta : Nat → Int64) (mba : Nat → Int32) (mdi : Int64) (H : Heap) (locs : List Loc) (ls : Array Slot), K2 x1 mta mba mdi → stC dC dI A s (wM ad cy mti mow mjo mta mba mib mdi mab mbe mpl mbs mro mlo mth) H locs → lv_has ls 4 [(0, .ref (ad 0)), (1, .int x1)] → W p l e rmX7_starts s m args below meth c H locs 0 0 Z (F0 m 2 ls [])), W p l e rmX7_starts s m args below meth c H locs 0 0 Z (F0 m 14 ls []) := by
  obtain ⟨hx, hb, hml, hr, hown, hts, hlocks, hK, hA, hN⟩ := id C0
  intro n
  induction n with
  | zero => intro x1 x2 x3 mta mba mdi H locs ls hm; exact False.elim hm
  | succ n ih =>
    intro x1 x2 x3 mta mba mdi H locs ls hm hSt hl hret hK2
    obtain ⟨hP, hD, hS⟩ := hSt
    unfold p_X7_starts_14 at hm
    refine lv_iload_n hx hb dX7_starts_14 rfl (lv_at hl 3 rfl) ?_
    refine lv_if_lt (tgt := 47) hx hb dX7_starts_15 (by decide) (fun c_1 => ?_) (fun c_1 => ?_)
    · have hm := hm.1 c_1
      refine lv_aload_n hx hb dX7_starts_47 rfl (lv_at hl 0 rfl) ?_
      refine lv_iload_n hx hb dX7_starts_48 rfl (lv_at hl 1 rfl) ?_
      refine lv_iload_n hx hb dX7_starts_49 rfl (lv_at hl 2 rfl) ?_
      have hFc := va_freeSame hD hS hA
      refine va_callv (va_runV (As := [.int x1, .int x2]) (rest := []) ⟨hx, hb, hml, hown, hts⟩ (c_X7_pivots l dC dI cy ad H.size mti mow mjo mta mba mib mdi mab mbe mpl mbs mro mlo mth x1 x2 _ _ hm) (cwV 2 hts gX7_starts_X7_pivots rfl rfl rfl (by decide +kernel) ⟨Nat.le_of_ble_eq_true rfl, Nat.le_of_ble_eq_true rfl⟩) ⟨cPre_blind, va_recv hK hP (ci := 7) (q0 := 0) rfl rfl, fun U hU hW => ⟨rfl, cPre_at hP hK hD hN hU hW⟩⟩ rfl rfl hl.1 rfl (lv_room (Nat.le_of_ble_eq_true rfl)) dX7_starts_50 ⟨Nat.zero_le _, Nat.zero_le _⟩) hS (fun q _ h => hFc q h) hFc (fun u t H locs ht hvm hw hB hz1 hk1 hS => ?_)
      obtain ⟨mta_2, mba_3, mdi_4⟩ := u
      try dsimp only at hw
      have hm := hw
      have hP : va_P (dC, dI) vwCl (wM ad cy mti mow mjo mta_2 mba_3 mib mdi_4 mab mbe mpl mbs mro mlo mth) H := cPost_P ht hB
      have hD : va_D A (wM ad cy mti mow mjo mta_2 mba_3 mib mdi_4 mab mbe mpl mbs mro mlo mth) := cPost_D hFc hB
      obtain ⟨x1_5, ex1_5⟩ : ∃ y : Int32, y = x1 + (1 : Int32) := ⟨_, rfl⟩
      have hm := hm x1_5 ex1_5
      refine lv_iinc (v := x1_5) (lv' := [(1, .int x1_5), (0, .ref (ad 0)), (2, .int x2), (3, .int x3)]) hx hb dX7_starts_53 hl (k := 1) rfl (by rw [ex1_5]; rfl) (by decide) rfl (fun ls hl => ?_)
      refine lv_goto (tgt := 2) hx hb dX7_starts_56 (by decide) ?_
      exact hK2 x1_5 mta_2 mba_3 mdi_4 H locs ls hm ⟨hP, hD, hS⟩ (lv_sub hl [1, 0] rfl)
    · have hm := hm.2 c_1
      refine lv_aload_n hx hb dX7_starts_18 rfl (lv_at hl 0 rfl) ?_
      refine va_get (D := (dC, dI)) (ci := 7) (v := .ref (ad 5)) (C := RX7) (T := TX7) (N := 14) hx hb hts in_X7_starts_X7 hown hK hP 0 rfl rfl 5 (by decide) (hts _ fl_X7_starts_23) (fun _ h9 => h9) rfl dX7_starts_19 ?_
      refine lv_iconst (v := 3) hx hb dX7_starts_22 (by decide) ?_
      refine lv_iload_n hx hb dX7_starts_23 rfl (lv_at hl 1 rfl) ?_
      refine lv_imul hx hb dX7_starts_24 ?_
      refine lv_iload_n hx hb dX7_starts_25 rfl (lv_at hl 3 rfl) ?_
      refine lv_iadd hx hb dX7_starts_26 ?_
      have hi_6 := hm.1
      have hm := hm.2
      refine va_zald hx hb hK hP 5 2 rfl rfl hi_6 dX7_starts_27 ?_
      refine lv_if_eq (tgt := 35) hx hb dX7_starts_28 (by decide) (fun c_7 => ?_) (fun c_7 => ?_)
      · have hm := hm.1 c_7
        refine lv_iconst (v := 3) hx hb dX7_starts_35 (by decide) ?_
        refine lv_iload_n hx hb dX7_starts_36 rfl (lv_at hl 1 rfl) ?_
        refine lv_imul hx hb dX7_starts_37 ?_
        refine lv_iload_n hx hb dX7_starts_38 rfl (lv_at hl 3 rfl) ?_
        refine lv_iadd hx hb dX7_starts_39 ?_
        refine lv_topi (fun x2_8 ex2_8 => ?_)
        have hm := hm x2_8 ex2_8
        refine lv_istore_n (lv' := [(2, .int x2_8), (0, .ref (ad 0)), (1, .int x1), (3, .int x3)]) hx hb dX7_starts_40 rfl hl (by decide) rfl (fun ls hl => ?_)
        obtain ⟨x3_9, ex3_9⟩ : ∃ y : Int32, y = x3 + (-1 : Int32) := ⟨_, rfl⟩
        have hm := hm x3_9 ex3_9
        refine lv_iinc (v := x3_9) (lv' := [(3, .int x3_9), (2, .int x2_8), (0, .ref (ad 0)), (1, .int x1)]) hx hb dX7_starts_41 hl (k := 3) rfl (by rw [ex3_9]; rfl) (by decide) rfl (fun ls hl => ?_)
        refine lv_goto (tgt := 14) hx hb dX7_starts_44 (by decide) ?_
        exact ih x1 x2_8 x3_9 mta mba mdi H locs ls hm ⟨hP, hD, hS⟩ (lv_sub hl [2, 3, 1, 0] rfl) hret hK2
      · have hm := hm.2 c_7
        refine lv_iload_n hx hb dX7_starts_31 rfl (lv_at hl 2 rfl) ?_
        refine lv_goto (tgt := 40) hx hb dX7_starts_32 (by decide) ?_
        refine lv_istore_n (lv' := [(2, .int x2), (0, .ref (ad 0)), (1, .int x1), (3, .int x3)]) hx hb dX7_starts_40 rfl hl (by decide) rfl (fun ls hl => ?_)
        obtain ⟨x3_10, ex3_10⟩ : ∃ y : Int32, y = x3 + (-1 : Int32) := ⟨_, rfl⟩
        have hm := hm x3_10 ex3_10
        refine lv_iinc (v := x3_10) (lv' := [(3, .int x3_10), (2, .int x2), (0, .ref (ad 0)), (1, .int x1)]) hx hb dX7_starts_41 hl (k := 3) rfl (by rw [ex3_10]; rfl) (by decide) rfl (fun ls hl => ?_)
        refine lv_goto (tgt := 14) hx hb dX7_starts_44 (by decide) ?_
        exact ih x1 x2 x3_10 mta mba mdi H locs ls hm ⟨hP, hD, hS⟩ (lv_sub hl [2, 3, 1, 0] rfl) hret hK2

set_option maxHeartbeats 4000000 in
set_option maxRecDepth 100000 in
theorem k_X7_starts_2 {N : Nat} {mti : Nat → Int32} {mow : Nat → Int32} {mjo : Int32} {mib : Nat → Int32} {mab : Nat → Int64} {mbe : Nat → Int64} {mpl : Nat → Int32} {mbs : Nat → Int32} {mro : Nat → Int32} {mlo : Nat → Int32} {mth : Int32} {Q : (Nat → Int64) → (Nat → Int32) → Int64 → Prop} (C0 : cxM cX7_starts 4 none RX7 wsX7_starts p s m args meth c dC dI cy A) :
    ∀ (n : Nat) (x1 : Int32) (mta : Nat → Int64) (mba : Nat → Int32) (mdi : Int64) (H : Heap) (locs : List Loc) (ls : Array Slot) (hm : p_X7_starts_2 N mjo mib Q n x1 mta mba mdi) (hSt : stC dC dI A s (wM ad cy mti mow mjo mta mba mib mdi mab mbe mpl mbs mro mlo mth) H locs) (hl : lv_has ls 4 [(0, .ref (ad 0)), (1, .int x1)]) (hret : ∀ (mta : Nat → Int64) (mba : Nat → Int32) (mdi : Int64) (H : Heap) (locs : List Loc) (ls : Array Slot) (pc : Nat), decode cX7_starts pc = .ok (.return_, 1) → stC dC dI A s (wM ad cy mti mow mjo mta mba mib mdi mab mbe mpl mbs mro mlo mth) H locs → Q mta mba mdi → W p l e rmX7_starts s m args below meth c H locs 0 0 Z (F0 m pc ls [])), W p l e rmX7_starts s m args below meth c H locs 0 0 Z (F0 m 2 ls []) := by
  obtain ⟨hx, hb, hml, hr, hown, hts, hlocks, hK, hA, hN⟩ := id C0
  intro n
  induction n with
  | zero => intro x1 mta mba mdi H locs ls hm; exact False.elim hm
  | succ n ih =>
    intro x1 mta mba mdi H locs ls hm hSt hl hret
    obtain ⟨hP, hD, hS⟩ := hSt
    unfold p_X7_starts_2 at hm
    refine lv_iload_n hx hb dX7_starts_2 rfl (lv_at hl 1 rfl) ?_
    refine lv_aload_n hx hb dX7_starts_3 rfl (lv_at hl 0 rfl) ?_
    refine va_get (D := (dC, dI)) (ci := 7) (v := .int mjo) (C := RX7) (T := TX7) (N := 14) hx hb hts in_X7_starts_X7 hown hK hP 0 rfl rfl 2 (by decide) (hts _ fl_X7_starts_49) (fun _ h9 => h9) rfl dX7_starts_4 ?_
    refine lv_icmp_ge (tgt := 59) hx hb dX7_starts_7 (by decide) (fun c_1 => ?_) (fun c_1 => ?_)
    · have hm := hm.1 c_1
      refine lv_aload_n hx hb dX7_starts_59 rfl (lv_at hl 0 rfl) ?_
      refine va_get (D := (dC, dI)) (ci := 7) (v := .int mjo) (C := RX7) (T := TX7) (N := 14) hx hb hts in_X7_starts_X7 hown hK hP 0 rfl rfl 2 (by decide) (hts _ fl_X7_starts_49) (fun _ h9 => h9) rfl dX7_starts_60 ?_
      refine lv_istore_n (lv' := [(1, .int mjo), (0, .ref (ad 0))]) hx hb dX7_starts_63 rfl hl (by decide) rfl (fun ls hl => ?_)
      refine lv_aload_n hx hb dX7_starts_64 rfl (lv_at hl 1 rfl) ?_
      refine va_get (D := (dC, dI)) (ci := 7) (v := .int mjo) (C := RX7) (T := TX7) (N := 14) hx hb hts in_X7_starts_X7 hown hK hP 0 rfl rfl 2 (by decide) (hts _ fl_X7_starts_49) (fun _ h9 => h9) rfl dX7_starts_65 ?_
      refine lv_istore_n (lv' := [(2, .int mjo), (1, .int mjo), (0, .ref (ad 0))]) hx hb dX7_starts_68 rfl hl (by decide) rfl (fun ls hl => ?_)
      exact k_X7_starts_69 C0 N mjo mjo mta mba mdi H locs ls hm ⟨hP, hD, hS⟩ (lv_sub hl [2, 1, 0] rfl) hret
    · have hm := hm.2 c_1
      refine lv_iconst (v := -1) hx hb dX7_starts_10 (by decide) ?_
      refine lv_istore_n (lv' := [(2, .int (-1 : Int32)), (0, .ref (ad 0)), (1, .int x1)]) hx hb dX7_starts_11 rfl hl (by decide) rfl (fun ls hl => ?_)
      refine lv_iconst (v := 2) hx hb dX7_starts_12 (by decide) ?_
      refine lv_istore_n (lv' := [(3, .int (2 : Int32)), (2, .int (-1 : Int32)), (0, .ref (ad 0)), (1, .int x1)]) hx hb dX7_starts_13 rfl hl (by decide) rfl (fun ls hl => ?_)
      refine k_X7_starts_14 C0 N x1 (-1 : Int32) (2 : Int32) mta mba mdi H locs ls hm ⟨hP, hD, hS⟩ (lv_sub hl [2, 3, 1, 0] rfl) hret (fun x1 mta mba mdi H locs ls hm hSt hl => ?_)
      · obtain ⟨hP, hD, hS⟩ := hSt
        exact ih x1 mta mba mdi H locs ls hm ⟨hP, hD, hS⟩ hl hret

set_option maxHeartbeats 4000000 in
set_option maxRecDepth 100000 in
theorem k_X7_starts_0 {N : Nat} {mti : Nat → Int32} {mow : Nat → Int32} {mjo : Int32} {mib : Nat → Int32} {mab : Nat → Int64} {mbe : Nat → Int64} {mpl : Nat → Int32} {mbs : Nat → Int32} {mro : Nat → Int32} {mlo : Nat → Int32} {mth : Int32} {Q : (Nat → Int64) → (Nat → Int32) → Int64 → Prop} (C0 : cxM cX7_starts 4 none RX7 wsX7_starts p s m args meth c dC dI cy A) :
    ∀ (mta : Nat → Int64) (mba : Nat → Int32) (mdi : Int64) (H : Heap) (locs : List Loc) (ls : Array Slot) (hm : p_X7_starts N mjo mib Q mta mba mdi) (hSt : stC dC dI A s (wM ad cy mti mow mjo mta mba mib mdi mab mbe mpl mbs mro mlo mth) H locs) (hl : lv_has ls 4 [(0, .ref (ad 0))]) (hret : ∀ (mta : Nat → Int64) (mba : Nat → Int32) (mdi : Int64) (H : Heap) (locs : List Loc) (ls : Array Slot) (pc : Nat), decode cX7_starts pc = .ok (.return_, 1) → stC dC dI A s (wM ad cy mti mow mjo mta mba mib mdi mab mbe mpl mbs mro mlo mth) H locs → Q mta mba mdi → W p l e rmX7_starts s m args below meth c H locs 0 0 Z (F0 m pc ls [])), W p l e rmX7_starts s m args below meth c H locs 0 0 Z (F0 m 0 ls []) := by
  obtain ⟨hx, hb, hml, hr, hown, hts, hlocks, hK, hA, hN⟩ := id C0
  intro mta mba mdi H locs ls hm hSt hl hret
  obtain ⟨hP, hD, hS⟩ := hSt
  unfold p_X7_starts at hm
  refine lv_iconst (v := 0) hx hb dX7_starts_0 (by decide) ?_
  refine lv_istore_n (lv' := [(1, .int (0 : Int32)), (0, .ref (ad 0))]) hx hb dX7_starts_1 rfl hl (by decide) rfl (fun ls hl => ?_)
  exact k_X7_starts_2 C0 N (0 : Int32) mta mba mdi H locs ls hm ⟨hP, hD, hS⟩ (lv_sub hl [1, 0] rfl) hret

set_option maxHeartbeats 4000000 in
set_option maxRecDepth 100000 in
theorem c_X7_starts (l : Launch) (dC : Nat → ClassId) (dI : Nat → Nat → Nat) (cy : Nat → ClassId) (ad : Nat → Nat) (sz : Nat) (mti : Nat → Int32) (mow : Nat → Int32) (mjo : Int32) (mta : Nat → Int64) (mba : Nat → Int32) (mib : Nat → Int32) (mdi : Int64) (mab : Nat → Int64) (mbe : Nat → Int64) (mpl : Nat → Int32) (mbs : Nat → Int32) (mro : Nat → Int32) (mlo : Nat → Int32) (mth : Int32)  (N : Nat) (Q : (Nat → Int64) → (Nat → Int32) → Int64 → Prop) (hm : p_X7_starts N mjo mib Q mta mba mdi) : Met l yX7_starts wsX7_starts rmX7_starts (va_Pc [.ref (ad 0)] (cPre dC dI cy (wM ad cy mti mow mjo mta mba mib mdi mab mbe mpl mbs mro mlo mth) sz)) (va_Qv (fun (u : (Nat → Int64) × (Nat → Int32) × Int64) => Q u.1 u.2.1 u.2.2) (fun u t => cPost dC dI cy (wM ad cy mti mow mjo mta mba mib mdi mab mbe mpl mbs mro mlo mth) sz (wM ad cy mti mow mjo (u.1) (u.2.1) mib (u.2.2) mab mbe mpl mbs mro mlo mth) t) (va_A (wM ad cy mti mow mjo mta mba mib mdi mab mbe mpl mbs mro mlo mth) sz)) 0 0 (va_A (wM ad cy mti mow mjo mta mba mib mdi mab mbe mpl mbs mro mlo mth) sz) := by
  refine Met.ofW (cc := cX7_starts) (maxL := 4) (ret := none) (by decide) rfl ?_
  intro p e s m args below meth c s₁ B hml hv
  obtain ⟨rfl, hsz, hP, hK, hD0, hN⟩ := hv
  have hts := atoms_spec (ws := wsX7_starts) B.pre
  have hown : s.vm.findClass RX7 = some m.cls := findClass_of_methodNamed B.named
  subst hsz
  have hD := hD0.self (sz := s.heap.size)
  generalize hAe : va_A (wM ad cy mti mow mjo mta mba mib mdi mab mbe mpl mbs mro mlo mth) s.heap.size = A at hD ⊢
  have hA : ∀ q : Nat, s.heap.size ≤ q → A q := fun q h => by rw [← hAe]; exact Or.inr h
  have hl := lv_entry ([.ref (ad 0)]) (n := 4) (Nat.le_of_ble_eq_true rfl)
  rw [lg_entry_eq]
  generalize (lg_sl ([.ref (ad 0)]) ++ List.replicate (4 - (lg_sl ([.ref (ad 0)])).length) Slot.unset).toArray = ls at hl ⊢
  have hl : lv_has ls 4 [(0, .ref (ad 0))] := hl
  exact k_X7_starts_0 ⟨B.exec, B.bytes, hml, B.returns, hown, hts, B.notSynchronized, hK, hA, hN⟩ mta mba mdi s.heap [] ls hm ⟨hP, hD, va_S.rf⟩ (lv_sub hl [0] rfl) (fun mta mba mdi H locs ls pc hdg hSt hq => W.vret B.exec B.bytes B.returns (fun t ht hW => ⟨⟨(mta, mba, mdi), rfl, hq, cPost_of hAe ht hW.alike hSt hK⟩, hSt.2.2.F ht⟩) hSt.2.2.2.2 hdg B.notSynchronized)

-- ===== X7_lowers
theorem fl_X7_lowers_23 : Cond.fieldLink RX7 23 "UnlikeUnionModel" "isBarred" "[Z" ∈ wsX7_lowers := by decide +kernel
theorem fl_X7_lowers_16 : Cond.fieldLink RX7 16 "UnlikeUnionModel" "table" "[J" ∈ wsX7_lowers := by decide +kernel
theorem in_X7_lowers_X7 : ∀ w ∈ u_ws RX7 TX7 14, w ∈ wsX7_lowers := by decide +kernel
abbrev rmX7_lowers : Room := { frames := 3, cells := 0, slots := 0, locals := 230 }
def p_X7_lowers_9 (N : Nat) (mjo : Int32) (mib : Nat → Int32) (Q : Int32 → (Nat → Int64) → (Nat → Int32) → Int64 → Prop) : Nat → Int32 → Int32 → (Nat → Int64) → (Nat → Int32) → Int64 → Prop
  | 0 => fun _ _ _ _ _ => False
  | n + 1 => fun x1 x2 mta mba mdi => ((26 : Int32) ≤ x2 → (Q x1 mta mba mdi)) ∧ (¬ (26 : Int32) ≤ x2 → (vp_in x2 26 ∧ (((mib (x2).toNatClampNeg) = 0 → (p_X7_rowOf N mjo mba (fun r_5 => (0 ≤ r_5 → (∀ x2_7 : Int32, x2_7 = x2 + (1 : Int32) → (p_X7_lowers_9 N mjo mib Q n x1 x2_7 mta mba mdi))) ∧ (¬ 0 ≤ r_5 → (vp_in (((27 : Int32) * x1) + x2) 297 ∧ (((mta (((27 : Int32) * x1) + x2).toNatClampNeg) ≤ (0 : Int64) → (∀ x2_10 : Int32, x2_10 = x2 + (1 : Int32) → (p_X7_lowers_9 N mjo mib Q n x1 x2_10 mta mba mdi))) ∧ (¬ (mta (((27 : Int32) * x1) + x2).toNatClampNeg) ≤ (0 : Int64) → (p_X7_leaving N mjo mta mba (fun r_11 => p_X7_pivots N mjo (fun mta_12 mba_13 mdi_14 => p_X7_rowOf N mjo mba_13 (fun r_15 => p_X7_lowers_9 N mjo mib Q n r_15 (0 : Int32) mta_12 mba_13 mdi_14) (21 : Int32)) r_11 x2 mta mba mdi) x2)))))) x2)) ∧ (¬ (mib (x2).toNatClampNeg) = 0 → (∀ x2_4 : Int32, x2_4 = x2 + (1 : Int32) → (p_X7_lowers_9 N mjo mib Q n x1 x2_4 mta mba mdi))))))

def p_X7_lowers (N : Nat) (mjo : Int32) (mib : Nat → Int32) (Q : Int32 → (Nat → Int64) → (Nat → Int32) → Int64 → Prop) (mta : Nat → Int64) (mba : Nat → Int32) (mdi : Int64) : Prop :=
  p_X7_rowOf N mjo mba (fun r_1 => p_X7_lowers_9 N mjo mib Q N r_1 (0 : Int32) mta mba mdi) (21 : Int32)

set_option maxHeartbeats 4000000 in
set_option maxRecDepth 100000 in
theorem k_X7_lowers_9 {N : Nat} {mti : Nat → Int32} {mow : Nat → Int32} {mjo : Int32} {mib : Nat → Int32} {mab : Nat → Int64} {mbe : Nat → Int64} {mpl : Nat → Int32} {mbs : Nat → Int32} {mro : Nat → Int32} {mlo : Nat → Int32} {mth : Int32} {Q : Int32 → (Nat → Int64) → (Nat → Int32) → Int64 → Prop} (C0 : cxM cX7_lowers 3 (some .int) RX7 wsX7_lowers p s m args meth c dC dI cy A) :
    ∀ (n : Nat) (x1 : Int32) (x2 : Int32) (mta : Nat → Int64) (mba : Nat → Int32) (mdi : Int64) (H : Heap) (locs : List Loc) (ls : Array Slot) (hm : p_X7_lowers_9 N mjo mib Q n x1 x2 mta mba mdi) (hSt : stC dC dI A s (wM ad cy mti mow mjo mta mba mib mdi mab mbe mpl mbs mro mlo mth) H locs) (hl : lv_has ls 3 [(0, .ref (ad 0)), (1, .int x1), (2, .int x2)]) (hret : ∀ (r : Int32) (mta : Nat → Int64) (mba : Nat → Int32) (mdi : Int64) (H : Heap) (locs : List Loc) (ls : Array Slot) (pc : Nat), decode cX7_lowers pc = .ok (.ireturn, 1) → stC dC dI A s (wM ad cy mti mow mjo mta mba mib mdi mab mbe mpl mbs mro mlo mth) H locs → Q r mta mba mdi → W p l e rmX7_lowers s m args below meth c H locs 0 0 Z (F0 m pc ls [.int r])), W p l e rmX7_lowers s m args below meth c H locs 0 0 Z (F0 m 9 ls []) := by
  obtain ⟨hx, hb, hml, hr, hown, hts, hlocks, hK, hA, hN⟩ := id C0
  intro n
  induction n with
  | zero => intro x1 x2 mta mba mdi H locs ls hm; exact False.elim hm
  | succ n ih =>
    intro x1 x2 mta mba mdi H locs ls hm hSt hl hret
    obtain ⟨hP, hD, hS⟩ := hSt
    unfold p_X7_lowers_9 at hm
    refine lv_iload_n hx hb dX7_lowers_9 rfl (lv_at hl 2 rfl) ?_
    refine lv_bipush (v := 26) hx hb dX7_lowers_10 (by decide) ?_
    refine lv_icmp_ge (tgt := 76) hx hb dX7_lowers_12 (by decide) (fun c_1 => ?_) (fun c_1 => ?_)
    · have hm := hm.1 c_1
      refine lv_iload_n hx hb dX7_lowers_76 rfl (lv_at hl 1 rfl) ?_
      exact hret x1 mta mba mdi H locs ls 77 dX7_lowers_77 ⟨hP, hD, hS⟩ hm
    · have hm := hm.2 c_1
      refine lv_aload_n hx hb dX7_lowers_15 rfl (lv_at hl 0 rfl) ?_
      refine va_get (D := (dC, dI)) (ci := 7) (v := .ref (ad 5)) (C := RX7) (T := TX7) (N := 14) hx hb hts in_X7_lowers_X7 hown hK hP 0 rfl rfl 5 (by decide) (hts _ fl_X7_lowers_23) (fun _ h9 => h9) rfl dX7_lowers_16 ?_
      refine lv_iload_n hx hb dX7_lowers_19 rfl (lv_at hl 2 rfl) ?_
      have hi_2 := hm.1
      have hm := hm.2
      refine va_zald hx hb hK hP 5 2 rfl rfl hi_2 dX7_lowers_20 ?_
      refine lv_if_ne (tgt := 70) hx hb dX7_lowers_21 (by decide) (fun c_3 => ?_) (fun c_3 => ?_)
      · have hm := hm.2 c_3
        obtain ⟨x2_4, ex2_4⟩ : ∃ y : Int32, y = x2 + (1 : Int32) := ⟨_, rfl⟩
        have hm := hm x2_4 ex2_4
        refine lv_iinc (v := x2_4) (lv' := [(2, .int x2_4), (0, .ref (ad 0)), (1, .int x1)]) hx hb dX7_lowers_70 hl (k := 2) rfl (by rw [ex2_4]; rfl) (by decide) rfl (fun ls hl => ?_)
        refine lv_goto (tgt := 9) hx hb dX7_lowers_73 (by decide) ?_
        exact ih x1 x2_4 mta mba mdi H locs ls hm ⟨hP, hD, hS⟩ (lv_sub hl [1, 2, 0] rfl) hret
      · have hm := hm.1 c_3
        refine lv_aload_n hx hb dX7_lowers_24 rfl (lv_at hl 0 rfl) ?_
        refine lv_iload_n hx hb dX7_lowers_25 rfl (lv_at hl 2 rfl) ?_
        have hFc := va_freeSame hD hS hA
        refine va_calli (va_runV (As := [.int x2]) (rest := []) ⟨hx, hb, hml, hown, hts⟩ (c_X7_rowOf l dC dI cy ad H.size mti mow mjo mta mba mib mdi mab mbe mpl mbs mro mlo mth x2 _ _ hm) (cwV 1 hts gX7_lowers_X7_rowOf rfl rfl rfl (by decide +kernel) ⟨Nat.le_of_ble_eq_true rfl, Nat.le_of_ble_eq_true rfl⟩) ⟨cPre_blind, va_recv hK hP (ci := 7) (q0 := 0) rfl rfl, fun U hU hW => ⟨rfl, cPre_at hP hK hD hN hU hW⟩⟩ rfl rfl hl.1 rfl (lv_room (Nat.le_of_ble_eq_true rfl)) dX7_lowers_26 ⟨Nat.zero_le _, Nat.zero_le _⟩) hS (fun q _ h => hFc q h) hFc (fun r_5 u t H locs ht hvm hw hB hz1 hk1 hS => ?_)
        try dsimp only at hw
        have hm := hw
        have hP : va_P (dC, dI) vwCl (wM ad cy mti mow mjo mta mba mib mdi mab mbe mpl mbs mro mlo mth) H := cPost_P ht hB
        have hD : va_D A (wM ad cy mti mow mjo mta mba mib mdi mab mbe mpl mbs mro mlo mth) := cPost_D hFc hB
        refine lv_if_ge (tgt := 70) hx hb dX7_lowers_29 (by decide) (fun c_6 => ?_) (fun c_6 => ?_)
        · have hm := hm.1 c_6
          obtain ⟨x2_7, ex2_7⟩ : ∃ y : Int32, y = x2 + (1 : Int32) := ⟨_, rfl⟩
          have hm := hm x2_7 ex2_7
          refine lv_iinc (v := x2_7) (lv' := [(2, .int x2_7), (0, .ref (ad 0)), (1, .int x1)]) hx hb dX7_lowers_70 hl (k := 2) rfl (by rw [ex2_7]; rfl) (by decide) rfl (fun ls hl => ?_)
          refine lv_goto (tgt := 9) hx hb dX7_lowers_73 (by decide) ?_
          exact ih x1 x2_7 mta mba mdi H locs ls hm ⟨hP, hD, hS⟩ (lv_sub hl [1, 2, 0] rfl) hret
        · have hm := hm.2 c_6
          refine lv_aload_n hx hb dX7_lowers_32 rfl (lv_at hl 0 rfl) ?_
          refine va_get (D := (dC, dI)) (ci := 7) (v := .ref (ad 3)) (C := RX7) (T := TX7) (N := 14) hx hb hts in_X7_lowers_X7 hown hK hP 0 rfl rfl 3 (by decide) (hts _ fl_X7_lowers_16) (fun _ h9 => h9) rfl dX7_lowers_33 ?_
          refine lv_bipush (v := 27) hx hb dX7_lowers_36 (by decide) ?_
          refine lv_iload_n hx hb dX7_lowers_38 rfl (lv_at hl 1 rfl) ?_
          refine lv_imul hx hb dX7_lowers_39 ?_
          refine lv_iload_n hx hb dX7_lowers_40 rfl (lv_at hl 2 rfl) ?_
          refine lv_iadd hx hb dX7_lowers_41 ?_
          have hi_8 := hm.1
          have hm := hm.2
          refine va_lald hx hb hK hP 3 1 rfl rfl hi_8 dX7_lowers_42 ?_
          refine lv_lconst (v := 0) hx hb dX7_lowers_43 (by decide) ?_
          refine lq_le (tgt := 70) hx hb dX7_lowers_44 dX7_lowers_45 (by decide) (fun c_9 => ?_) (fun c_9 => ?_)
          · have hm := hm.1 c_9
            obtain ⟨x2_10, ex2_10⟩ : ∃ y : Int32, y = x2 + (1 : Int32) := ⟨_, rfl⟩
            have hm := hm x2_10 ex2_10
            refine lv_iinc (v := x2_10) (lv' := [(2, .int x2_10), (0, .ref (ad 0)), (1, .int x1)]) hx hb dX7_lowers_70 hl (k := 2) rfl (by rw [ex2_10]; rfl) (by decide) rfl (fun ls hl => ?_)
            refine lv_goto (tgt := 9) hx hb dX7_lowers_73 (by decide) ?_
            exact ih x1 x2_10 mta mba mdi H locs ls hm ⟨hP, hD, hS⟩ (lv_sub hl [1, 2, 0] rfl) hret
          · have hm := hm.2 c_9
            refine lv_aload_n hx hb dX7_lowers_48 rfl (lv_at hl 0 rfl) ?_
            refine lv_aload_n hx hb dX7_lowers_49 rfl (lv_at hl 0 rfl) ?_
            refine lv_iload_n hx hb dX7_lowers_50 rfl (lv_at hl 2 rfl) ?_
            have hFc := va_freeSame hD hS hA
            refine va_calli (va_runV (As := [.int x2]) (rest := [.ref (ad 0)]) ⟨hx, hb, hml, hown, hts⟩ (c_X7_leaving l dC dI cy ad H.size mti mow mjo mta mba mib mdi mab mbe mpl mbs mro mlo mth x2 _ _ hm) (cwV 1 hts gX7_lowers_X7_leaving rfl rfl rfl (by decide +kernel) ⟨Nat.le_of_ble_eq_true rfl, Nat.le_of_ble_eq_true rfl⟩) ⟨cPre_blind, va_recv hK hP (ci := 7) (q0 := 0) rfl rfl, fun U hU hW => ⟨rfl, cPre_at hP hK hD hN hU hW⟩⟩ rfl rfl hl.1 rfl (lv_room (Nat.le_of_ble_eq_true rfl)) dX7_lowers_51 ⟨Nat.zero_le _, Nat.zero_le _⟩) hS (fun q _ h => hFc q h) hFc (fun r_11 u t H locs ht hvm hw hB hz1 hk1 hS => ?_)
            try dsimp only at hw
            have hm := hw
            have hP : va_P (dC, dI) vwCl (wM ad cy mti mow mjo mta mba mib mdi mab mbe mpl mbs mro mlo mth) H := cPost_P ht hB
            have hD : va_D A (wM ad cy mti mow mjo mta mba mib mdi mab mbe mpl mbs mro mlo mth) := cPost_D hFc hB
            refine lv_iload_n hx hb dX7_lowers_54 rfl (lv_at hl 2 rfl) ?_
            have hFc := va_freeSame hD hS hA
            refine va_callv (va_runV (As := [.int r_11, .int x2]) (rest := []) ⟨hx, hb, hml, hown, hts⟩ (c_X7_pivots l dC dI cy ad H.size mti mow mjo mta mba mib mdi mab mbe mpl mbs mro mlo mth r_11 x2 _ _ hm) (cwV 2 hts gX7_lowers_X7_pivots rfl rfl rfl (by decide +kernel) ⟨Nat.le_of_ble_eq_true rfl, Nat.le_of_ble_eq_true rfl⟩) ⟨cPre_blind, va_recv hK hP (ci := 7) (q0 := 0) rfl rfl, fun U hU hW => ⟨rfl, cPre_at hP hK hD hN hU hW⟩⟩ rfl rfl hl.1 rfl (lv_room (Nat.le_of_ble_eq_true rfl)) dX7_lowers_55 ⟨Nat.zero_le _, Nat.zero_le _⟩) hS (fun q _ h => hFc q h) hFc (fun u t H locs ht hvm hw hB hz1 hk1 hS => ?_)
            obtain ⟨mta_12, mba_13, mdi_14⟩ := u
            try dsimp only at hw
            have hm := hw
            have hP : va_P (dC, dI) vwCl (wM ad cy mti mow mjo mta_12 mba_13 mib mdi_14 mab mbe mpl mbs mro mlo mth) H := cPost_P ht hB
            have hD : va_D A (wM ad cy mti mow mjo mta_12 mba_13 mib mdi_14 mab mbe mpl mbs mro mlo mth) := cPost_D hFc hB
            refine lv_aload_n hx hb dX7_lowers_58 rfl (lv_at hl 0 rfl) ?_
            refine lv_bipush (v := 21) hx hb dX7_lowers_59 (by decide) ?_
            have hFc := va_freeSame hD hS hA
            refine va_calli (va_runV (As := [.int (21 : Int32)]) (rest := []) ⟨hx, hb, hml, hown, hts⟩ (c_X7_rowOf l dC dI cy ad H.size mti mow mjo mta_12 mba_13 mib mdi_14 mab mbe mpl mbs mro mlo mth (21 : Int32) _ _ hm) (cwV 1 hts gX7_lowers_X7_rowOf rfl rfl rfl (by decide +kernel) ⟨Nat.le_of_ble_eq_true rfl, Nat.le_of_ble_eq_true rfl⟩) ⟨cPre_blind, va_recv hK hP (ci := 7) (q0 := 0) rfl rfl, fun U hU hW => ⟨rfl, cPre_at hP hK hD hN hU hW⟩⟩ rfl rfl hl.1 rfl (lv_room (Nat.le_of_ble_eq_true rfl)) dX7_lowers_61 ⟨Nat.zero_le _, Nat.zero_le _⟩) hS (fun q _ h => hFc q h) hFc (fun r_15 u t H locs ht hvm hw hB hz1 hk1 hS => ?_)
            try dsimp only at hw
            have hm := hw
            have hP : va_P (dC, dI) vwCl (wM ad cy mti mow mjo mta_12 mba_13 mib mdi_14 mab mbe mpl mbs mro mlo mth) H := cPost_P ht hB
            have hD : va_D A (wM ad cy mti mow mjo mta_12 mba_13 mib mdi_14 mab mbe mpl mbs mro mlo mth) := cPost_D hFc hB
            refine lv_istore_n (lv' := [(1, .int r_15), (0, .ref (ad 0)), (2, .int x2)]) hx hb dX7_lowers_64 rfl hl (by decide) rfl (fun ls hl => ?_)
            refine lv_iconst (v := 0) hx hb dX7_lowers_65 (by decide) ?_
            refine lv_istore_n (lv' := [(2, .int (0 : Int32)), (1, .int r_15), (0, .ref (ad 0))]) hx hb dX7_lowers_66 rfl hl (by decide) rfl (fun ls hl => ?_)
            refine lv_goto (tgt := 9) hx hb dX7_lowers_67 (by decide) ?_
            exact ih r_15 (0 : Int32) mta_12 mba_13 mdi_14 H locs ls hm ⟨hP, hD, hS⟩ (lv_sub hl [2, 1, 0] rfl) hret

set_option maxHeartbeats 4000000 in
set_option maxRecDepth 100000 in
theorem k_X7_lowers_0 {N : Nat} {mti : Nat → Int32} {mow : Nat → Int32} {mjo : Int32} {mib : Nat → Int32} {mab : Nat → Int64} {mbe : Nat → Int64} {mpl : Nat → Int32} {mbs : Nat → Int32} {mro : Nat → Int32} {mlo : Nat → Int32} {mth : Int32} {Q : Int32 → (Nat → Int64) → (Nat → Int32) → Int64 → Prop} (C0 : cxM cX7_lowers 3 (some .int) RX7 wsX7_lowers p s m args meth c dC dI cy A) :
    ∀ (mta : Nat → Int64) (mba : Nat → Int32) (mdi : Int64) (H : Heap) (locs : List Loc) (ls : Array Slot) (hm : p_X7_lowers N mjo mib Q mta mba mdi) (hSt : stC dC dI A s (wM ad cy mti mow mjo mta mba mib mdi mab mbe mpl mbs mro mlo mth) H locs) (hl : lv_has ls 3 [(0, .ref (ad 0))]) (hret : ∀ (r : Int32) (mta : Nat → Int64) (mba : Nat → Int32) (mdi : Int64) (H : Heap) (locs : List Loc) (ls : Array Slot) (pc : Nat), decode cX7_lowers pc = .ok (.ireturn, 1) → stC dC dI A s (wM ad cy mti mow mjo mta mba mib mdi mab mbe mpl mbs mro mlo mth) H locs → Q r mta mba mdi → W p l e rmX7_lowers s m args below meth c H locs 0 0 Z (F0 m pc ls [.int r])), W p l e rmX7_lowers s m args below meth c H locs 0 0 Z (F0 m 0 ls []) := by
  obtain ⟨hx, hb, hml, hr, hown, hts, hlocks, hK, hA, hN⟩ := id C0
  intro mta mba mdi H locs ls hm hSt hl hret
  obtain ⟨hP, hD, hS⟩ := hSt
  unfold p_X7_lowers at hm
  refine lv_aload_n hx hb dX7_lowers_0 rfl (lv_at hl 0 rfl) ?_
  refine lv_bipush (v := 21) hx hb dX7_lowers_1 (by decide) ?_
  have hFc := va_freeSame hD hS hA
  refine va_calli (va_runV (As := [.int (21 : Int32)]) (rest := []) ⟨hx, hb, hml, hown, hts⟩ (c_X7_rowOf l dC dI cy ad H.size mti mow mjo mta mba mib mdi mab mbe mpl mbs mro mlo mth (21 : Int32) _ _ hm) (cwV 1 hts gX7_lowers_X7_rowOf rfl rfl rfl (by decide +kernel) ⟨Nat.le_of_ble_eq_true rfl, Nat.le_of_ble_eq_true rfl⟩) ⟨cPre_blind, va_recv hK hP (ci := 7) (q0 := 0) rfl rfl, fun U hU hW => ⟨rfl, cPre_at hP hK hD hN hU hW⟩⟩ rfl rfl hl.1 rfl (lv_room (Nat.le_of_ble_eq_true rfl)) dX7_lowers_3 ⟨Nat.zero_le _, Nat.zero_le _⟩) hS (fun q _ h => hFc q h) hFc (fun r_1 u t H locs ht hvm hw hB hz1 hk1 hS => ?_)
  try dsimp only at hw
  have hm := hw
  have hP : va_P (dC, dI) vwCl (wM ad cy mti mow mjo mta mba mib mdi mab mbe mpl mbs mro mlo mth) H := cPost_P ht hB
  have hD : va_D A (wM ad cy mti mow mjo mta mba mib mdi mab mbe mpl mbs mro mlo mth) := cPost_D hFc hB
  refine lv_istore_n (lv' := [(1, .int r_1), (0, .ref (ad 0))]) hx hb dX7_lowers_6 rfl hl (by decide) rfl (fun ls hl => ?_)
  refine lv_iconst (v := 0) hx hb dX7_lowers_7 (by decide) ?_
  refine lv_istore_n (lv' := [(2, .int (0 : Int32)), (1, .int r_1), (0, .ref (ad 0))]) hx hb dX7_lowers_8 rfl hl (by decide) rfl (fun ls hl => ?_)
  exact k_X7_lowers_9 C0 N r_1 (0 : Int32) mta mba mdi H locs ls hm ⟨hP, hD, hS⟩ (lv_sub hl [2, 1, 0] rfl) hret

set_option maxHeartbeats 4000000 in
set_option maxRecDepth 100000 in
theorem c_X7_lowers (l : Launch) (dC : Nat → ClassId) (dI : Nat → Nat → Nat) (cy : Nat → ClassId) (ad : Nat → Nat) (sz : Nat) (mti : Nat → Int32) (mow : Nat → Int32) (mjo : Int32) (mta : Nat → Int64) (mba : Nat → Int32) (mib : Nat → Int32) (mdi : Int64) (mab : Nat → Int64) (mbe : Nat → Int64) (mpl : Nat → Int32) (mbs : Nat → Int32) (mro : Nat → Int32) (mlo : Nat → Int32) (mth : Int32)  (N : Nat) (Q : Int32 → (Nat → Int64) → (Nat → Int32) → Int64 → Prop) (hm : p_X7_lowers N mjo mib Q mta mba mdi) : Met l yX7_lowers wsX7_lowers rmX7_lowers (va_Pc [.ref (ad 0)] (cPre dC dI cy (wM ad cy mti mow mjo mta mba mib mdi mab mbe mpl mbs mro mlo mth) sz)) (va_Qi (fun (r : Int32) (u : (Nat → Int64) × (Nat → Int32) × Int64) => Q r u.1 u.2.1 u.2.2) (fun u t => cPost dC dI cy (wM ad cy mti mow mjo mta mba mib mdi mab mbe mpl mbs mro mlo mth) sz (wM ad cy mti mow mjo (u.1) (u.2.1) mib (u.2.2) mab mbe mpl mbs mro mlo mth) t) (va_A (wM ad cy mti mow mjo mta mba mib mdi mab mbe mpl mbs mro mlo mth) sz)) 0 0 (va_A (wM ad cy mti mow mjo mta mba mib mdi mab mbe mpl mbs mro mlo mth) sz) := by
  refine Met.ofW (cc := cX7_lowers) (maxL := 3) (ret := (some .int)) (by decide) rfl ?_
  intro p e s m args below meth c s₁ B hml hv
  obtain ⟨rfl, hsz, hP, hK, hD0, hN⟩ := hv
  have hts := atoms_spec (ws := wsX7_lowers) B.pre
  have hown : s.vm.findClass RX7 = some m.cls := findClass_of_methodNamed B.named
  subst hsz
  have hD := hD0.self (sz := s.heap.size)
  generalize hAe : va_A (wM ad cy mti mow mjo mta mba mib mdi mab mbe mpl mbs mro mlo mth) s.heap.size = A at hD ⊢
  have hA : ∀ q : Nat, s.heap.size ≤ q → A q := fun q h => by rw [← hAe]; exact Or.inr h
  have hl := lv_entry ([.ref (ad 0)]) (n := 3) (Nat.le_of_ble_eq_true rfl)
  rw [lg_entry_eq]
  generalize (lg_sl ([.ref (ad 0)]) ++ List.replicate (3 - (lg_sl ([.ref (ad 0)])).length) Slot.unset).toArray = ls at hl ⊢
  have hl : lv_has ls 3 [(0, .ref (ad 0))] := hl
  exact k_X7_lowers_0 ⟨B.exec, B.bytes, hml, B.returns, hown, hts, B.notSynchronized, hK, hA, hN⟩ mta mba mdi s.heap [] ls hm ⟨hP, hD, va_S.rf⟩ (lv_sub hl [0] rfl) (fun r mta mba mdi H locs ls pc hdg hSt hq => W.iret B.exec B.bytes B.returns (fun t ht hW => ⟨⟨r, (mta, mba, mdi), rfl, hq, cPost_of hAe ht hW.alike hSt hK⟩, hSt.2.2.F ht⟩) hSt.2.2.2.2 hdg B.notSynchronized)

-- ===== X7_fits
theorem fl_X7_fits_16 : Cond.fieldLink RX7 16 "UnlikeUnionModel" "table" "[J" ∈ wsX7_fits := by decide +kernel
theorem fl_X7_fits_84 : Cond.fieldLink RX7 84 "UnlikeUnionModel" "divisor" "J" ∈ wsX7_fits := by decide +kernel
theorem in_X7_fits_X7 : ∀ w ∈ u_ws RX7 TX7 14, w ∈ wsX7_fits := by decide +kernel
abbrev rmX7_fits : Room := { frames := 4, cells := 0, slots := 0, locals := 312 }
def p_X7_fits (N : Nat) (mti : Nat → Int32) (mjo : Int32) (Q : Int32 → (Nat → Int64) → (Nat → Int32) → (Nat → Int32) → Int64 → Prop) (x1 : Int32) (mta : Nat → Int64) (mba : Nat → Int32) (mib : Nat → Int32) (mdi : Int64) : Prop :=
  p_X7_lays N mti mjo (fun r_1 mta_2 mba_3 mib_4 mdi_5 => (r_1 = 0 → (Q (0 : Int32) mta_2 mba_3 mib_4 mdi_5)) ∧ (¬ r_1 = 0 → (p_X7_starts N mjo mib_4 (fun mta_7 mba_8 mdi_9 => p_X7_lowers N mjo mib_4 (fun r_10 mta_11 mba_12 mdi_13 => vp_in (((27 : Int32) * r_10) + (26 : Int32)) 297 ∧ (((((x1).toInt64) * mdi_13) < (mta_11 (((27 : Int32) * r_10) + (26 : Int32)).toNatClampNeg) → (Q (0 : Int32) mta_11 mba_12 mib_4 mdi_13)) ∧ (¬ (((x1).toInt64) * mdi_13) < (mta_11 (((27 : Int32) * r_10) + (26 : Int32)).toNatClampNeg) → (Q (1 : Int32) mta_11 mba_12 mib_4 mdi_13)))) mta_7 mba_8 mdi_9) mta_2 mba_3 mdi_5))) x1 mta mba mib mdi

set_option maxHeartbeats 4000000 in
set_option maxRecDepth 100000 in
theorem k_X7_fits_0 {N : Nat} {mti : Nat → Int32} {mow : Nat → Int32} {mjo : Int32} {mab : Nat → Int64} {mbe : Nat → Int64} {mpl : Nat → Int32} {mbs : Nat → Int32} {mro : Nat → Int32} {mlo : Nat → Int32} {mth : Int32} {Q : Int32 → (Nat → Int64) → (Nat → Int32) → (Nat → Int32) → Int64 → Prop} (C0 : cxM cX7_fits 3 (some .boolean) RX7 wsX7_fits p s m args meth c dC dI cy A) :
    ∀ (x1 : Int32) (mta : Nat → Int64) (mba : Nat → Int32) (mib : Nat → Int32) (mdi : Int64) (H : Heap) (locs : List Loc) (ls : Array Slot) (hm : p_X7_fits N mti mjo Q x1 mta mba mib mdi) (hSt : stC dC dI A s (wM ad cy mti mow mjo mta mba mib mdi mab mbe mpl mbs mro mlo mth) H locs) (hl : lv_has ls 3 [(0, .ref (ad 0)), (1, .int x1)]) (hret : ∀ (r : Int32) (mta : Nat → Int64) (mba : Nat → Int32) (mib : Nat → Int32) (mdi : Int64) (H : Heap) (locs : List Loc) (ls : Array Slot) (pc : Nat), decode cX7_fits pc = .ok (.ireturn, 1) → narrow .boolean (.int r) = .int r → stC dC dI A s (wM ad cy mti mow mjo mta mba mib mdi mab mbe mpl mbs mro mlo mth) H locs → Q r mta mba mib mdi → W p l e rmX7_fits s m args below meth c H locs 0 0 Z (F0 m pc ls [.int r])), W p l e rmX7_fits s m args below meth c H locs 0 0 Z (F0 m 0 ls []) := by
  obtain ⟨hx, hb, hml, hr, hown, hts, hlocks, hK, hA, hN⟩ := id C0
  intro x1 mta mba mib mdi H locs ls hm hSt hl hret
  obtain ⟨hP, hD, hS⟩ := hSt
  unfold p_X7_fits at hm
  refine lv_aload_n hx hb dX7_fits_0 rfl (lv_at hl 0 rfl) ?_
  refine lv_iload_n hx hb dX7_fits_1 rfl (lv_at hl 1 rfl) ?_
  have hFc := va_freeSame hD hS hA
  refine va_calli (va_runV (As := [.int x1]) (rest := []) ⟨hx, hb, hml, hown, hts⟩ (c_X7_lays l dC dI cy ad H.size mti mow mjo mta mba mib mdi mab mbe mpl mbs mro mlo mth x1 _ _ hm) (cwV 1 hts gX7_fits_X7_lays rfl rfl rfl (by decide +kernel) ⟨Nat.le_of_ble_eq_true rfl, Nat.le_of_ble_eq_true rfl⟩) ⟨cPre_blind, va_recv hK hP (ci := 7) (q0 := 0) rfl rfl, fun U hU hW => ⟨rfl, cPre_at hP hK hD hN hU hW⟩⟩ rfl rfl hl.1 rfl (lv_room (Nat.le_of_ble_eq_true rfl)) dX7_fits_2 ⟨Nat.zero_le _, Nat.zero_le _⟩) hS (fun q _ h => hFc q h) hFc (fun r_1 u t H locs ht hvm hw hB hz1 hk1 hS => ?_)
  obtain ⟨mta_2, mba_3, mib_4, mdi_5⟩ := u
  try dsimp only at hw
  obtain ⟨hm, nar_r_1⟩ := hw
  have hP : va_P (dC, dI) vwCl (wM ad cy mti mow mjo mta_2 mba_3 mib_4 mdi_5 mab mbe mpl mbs mro mlo mth) H := cPost_P ht hB
  have hD : va_D A (wM ad cy mti mow mjo mta_2 mba_3 mib_4 mdi_5 mab mbe mpl mbs mro mlo mth) := cPost_D hFc hB
  refine lv_if_ne (tgt := 10) hx hb dX7_fits_5 (by decide) (fun c_6 => ?_) (fun c_6 => ?_)
  · have hm := hm.2 c_6
    refine lv_aload_n hx hb dX7_fits_10 rfl (lv_at hl 0 rfl) ?_
    have hFc := va_freeSame hD hS hA
    refine va_callv (va_runV (As := []) (rest := []) ⟨hx, hb, hml, hown, hts⟩ (c_X7_starts l dC dI cy ad H.size mti mow mjo mta_2 mba_3 mib_4 mdi_5 mab mbe mpl mbs mro mlo mth  _ _ hm) (cwV 0 hts gX7_fits_X7_starts rfl rfl rfl (by decide +kernel) ⟨Nat.le_of_ble_eq_true rfl, Nat.le_of_ble_eq_true rfl⟩) ⟨cPre_blind, va_recv hK hP (ci := 7) (q0 := 0) rfl rfl, fun U hU hW => ⟨rfl, cPre_at hP hK hD hN hU hW⟩⟩ rfl rfl hl.1 rfl (lv_room (Nat.le_of_ble_eq_true rfl)) dX7_fits_11 ⟨Nat.zero_le _, Nat.zero_le _⟩) hS (fun q _ h => hFc q h) hFc (fun u t H locs ht hvm hw hB hz1 hk1 hS => ?_)
    obtain ⟨mta_7, mba_8, mdi_9⟩ := u
    try dsimp only at hw
    have hm := hw
    have hP : va_P (dC, dI) vwCl (wM ad cy mti mow mjo mta_7 mba_8 mib_4 mdi_9 mab mbe mpl mbs mro mlo mth) H := cPost_P ht hB
    have hD : va_D A (wM ad cy mti mow mjo mta_7 mba_8 mib_4 mdi_9 mab mbe mpl mbs mro mlo mth) := cPost_D hFc hB
    refine lv_aload_n hx hb dX7_fits_14 rfl (lv_at hl 0 rfl) ?_
    have hFc := va_freeSame hD hS hA
    refine va_calli (va_runV (As := []) (rest := []) ⟨hx, hb, hml, hown, hts⟩ (c_X7_lowers l dC dI cy ad H.size mti mow mjo mta_7 mba_8 mib_4 mdi_9 mab mbe mpl mbs mro mlo mth  _ _ hm) (cwV 0 hts gX7_fits_X7_lowers rfl rfl rfl (by decide +kernel) ⟨Nat.le_of_ble_eq_true rfl, Nat.le_of_ble_eq_true rfl⟩) ⟨cPre_blind, va_recv hK hP (ci := 7) (q0 := 0) rfl rfl, fun U hU hW => ⟨rfl, cPre_at hP hK hD hN hU hW⟩⟩ rfl rfl hl.1 rfl (lv_room (Nat.le_of_ble_eq_true rfl)) dX7_fits_15 ⟨Nat.zero_le _, Nat.zero_le _⟩) hS (fun q _ h => hFc q h) hFc (fun r_10 u t H locs ht hvm hw hB hz1 hk1 hS => ?_)
    obtain ⟨mta_11, mba_12, mdi_13⟩ := u
    try dsimp only at hw
    have hm := hw
    have hP : va_P (dC, dI) vwCl (wM ad cy mti mow mjo mta_11 mba_12 mib_4 mdi_13 mab mbe mpl mbs mro mlo mth) H := cPost_P ht hB
    have hD : va_D A (wM ad cy mti mow mjo mta_11 mba_12 mib_4 mdi_13 mab mbe mpl mbs mro mlo mth) := cPost_D hFc hB
    refine lv_istore_n (lv' := [(2, .int r_10), (0, .ref (ad 0)), (1, .int x1)]) hx hb dX7_fits_18 rfl hl (by decide) rfl (fun ls hl => ?_)
    refine lv_aload_n hx hb dX7_fits_19 rfl (lv_at hl 1 rfl) ?_
    refine va_get (D := (dC, dI)) (ci := 7) (v := .ref (ad 3)) (C := RX7) (T := TX7) (N := 14) hx hb hts in_X7_fits_X7 hown hK hP 0 rfl rfl 3 (by decide) (hts _ fl_X7_fits_16) (fun _ h9 => h9) rfl dX7_fits_20 ?_
    refine lv_bipush (v := 27) hx hb dX7_fits_23 (by decide) ?_
    refine lv_iload_n hx hb dX7_fits_25 rfl (lv_at hl 0 rfl) ?_
    refine lv_imul hx hb dX7_fits_26 ?_
    refine lv_bipush (v := 26) hx hb dX7_fits_27 (by decide) ?_
    refine lv_iadd hx hb dX7_fits_29 ?_
    have hi_14 := hm.1
    have hm := hm.2
    refine va_lald hx hb hK hP 3 1 rfl rfl hi_14 dX7_fits_30 ?_
    refine lv_iload_n hx hb dX7_fits_31 rfl (lv_at hl 2 rfl) ?_
    refine lv_i2l (v := (x1).toInt64) hx hb dX7_fits_32 rfl ?_
    refine lv_aload_n hx hb dX7_fits_33 rfl (lv_at hl 1 rfl) ?_
    refine va_get (D := (dC, dI)) (ci := 7) (v := .long mdi_13) (C := RX7) (T := TX7) (N := 14) hx hb hts in_X7_fits_X7 hown hK hP 0 rfl rfl 6 (by decide) (hts _ fl_X7_fits_84) (fun _ h9 => h9) rfl dX7_fits_34 ?_
    refine lv_lmul hx hb dX7_fits_37 ?_
    refine lq_gt (tgt := 46) hx hb dX7_fits_38 dX7_fits_39 (by decide) (fun c_15 => ?_) (fun c_15 => ?_)
    · have hm := hm.1 c_15
      refine lv_iconst (v := 0) hx hb dX7_fits_46 (by decide) ?_
      exact hret (0 : Int32) mta_11 mba_12 mib_4 mdi_13 H locs ls 47 dX7_fits_47 rfl ⟨hP, hD, hS⟩ hm
    · have hm := hm.2 c_15
      refine lv_iconst (v := 1) hx hb dX7_fits_42 (by decide) ?_
      refine lv_goto (tgt := 47) hx hb dX7_fits_43 (by decide) ?_
      exact hret (1 : Int32) mta_11 mba_12 mib_4 mdi_13 H locs ls 47 dX7_fits_47 rfl ⟨hP, hD, hS⟩ hm
  · have hm := hm.1 c_6
    refine lv_iconst (v := 0) hx hb dX7_fits_8 (by decide) ?_
    exact hret (0 : Int32) mta_2 mba_3 mib_4 mdi_5 H locs ls 9 dX7_fits_9 rfl ⟨hP, hD, hS⟩ hm

set_option maxHeartbeats 4000000 in
set_option maxRecDepth 100000 in
theorem c_X7_fits (l : Launch) (dC : Nat → ClassId) (dI : Nat → Nat → Nat) (cy : Nat → ClassId) (ad : Nat → Nat) (sz : Nat) (mti : Nat → Int32) (mow : Nat → Int32) (mjo : Int32) (mta : Nat → Int64) (mba : Nat → Int32) (mib : Nat → Int32) (mdi : Int64) (mab : Nat → Int64) (mbe : Nat → Int64) (mpl : Nat → Int32) (mbs : Nat → Int32) (mro : Nat → Int32) (mlo : Nat → Int32) (mth : Int32) (x1 : Int32) (N : Nat) (Q : Int32 → (Nat → Int64) → (Nat → Int32) → (Nat → Int32) → Int64 → Prop) (hm : p_X7_fits N mti mjo Q x1 mta mba mib mdi) : Met l yX7_fits wsX7_fits rmX7_fits (va_Pc [.ref (ad 0), .int x1] (cPre dC dI cy (wM ad cy mti mow mjo mta mba mib mdi mab mbe mpl mbs mro mlo mth) sz)) (va_Qi (fun (r : Int32) (u : (Nat → Int64) × (Nat → Int32) × (Nat → Int32) × Int64) => Q r u.1 u.2.1 u.2.2.1 u.2.2.2 ∧ narrow .boolean (.int r) = .int r) (fun u t => cPost dC dI cy (wM ad cy mti mow mjo mta mba mib mdi mab mbe mpl mbs mro mlo mth) sz (wM ad cy mti mow mjo (u.1) (u.2.1) (u.2.2.1) (u.2.2.2) mab mbe mpl mbs mro mlo mth) t) (va_A (wM ad cy mti mow mjo mta mba mib mdi mab mbe mpl mbs mro mlo mth) sz)) 0 0 (va_A (wM ad cy mti mow mjo mta mba mib mdi mab mbe mpl mbs mro mlo mth) sz) := by
  refine Met.ofW (cc := cX7_fits) (maxL := 3) (ret := (some .boolean)) (by decide) rfl ?_
  intro p e s m args below meth c s₁ B hml hv
  obtain ⟨rfl, hsz, hP, hK, hD0, hN⟩ := hv
  have hts := atoms_spec (ws := wsX7_fits) B.pre
  have hown : s.vm.findClass RX7 = some m.cls := findClass_of_methodNamed B.named
  subst hsz
  have hD := hD0.self (sz := s.heap.size)
  generalize hAe : va_A (wM ad cy mti mow mjo mta mba mib mdi mab mbe mpl mbs mro mlo mth) s.heap.size = A at hD ⊢
  have hA : ∀ q : Nat, s.heap.size ≤ q → A q := fun q h => by rw [← hAe]; exact Or.inr h
  have hl := lv_entry ([.ref (ad 0), .int x1]) (n := 3) (Nat.le_of_ble_eq_true rfl)
  rw [lg_entry_eq]
  generalize (lg_sl ([.ref (ad 0), .int x1]) ++ List.replicate (3 - (lg_sl ([.ref (ad 0), .int x1])).length) Slot.unset).toArray = ls at hl ⊢
  have hl : lv_has ls 3 [(0, .ref (ad 0)), (1, .int x1)] := hl
  exact k_X7_fits_0 ⟨B.exec, B.bytes, hml, B.returns, hown, hts, B.notSynchronized, hK, hA, hN⟩ x1 mta mba mib mdi s.heap [] ls hm ⟨hP, hD, va_S.rf⟩ (lv_sub hl [0, 1] rfl) (fun r mta mba mib mdi H locs ls pc hdg hn hSt hq => W.zret B.exec B.bytes B.returns hn (fun t ht hW => ⟨⟨r, (mta, mba, mib, mdi), rfl, ⟨hq, hn⟩, cPost_of hAe ht hW.alike hSt hK⟩, hSt.2.2.F ht⟩) hSt.2.2.2.2 hdg B.notSynchronized)

-- ===== X7_boundOf
theorem fl_X7_boundOf_49 : Cond.fieldLink RX7 49 "UnlikeUnionModel" "jobs" "I" ∈ wsX7_boundOf := by decide +kernel
theorem in_X7_boundOf_X7 : ∀ w ∈ u_ws RX7 TX7 14, w ∈ wsX7_boundOf := by decide +kernel
abbrev rmX7_boundOf : Room := { frames := 5, cells := 0, slots := 0, locals := 394 }
def p_X7_boundOf_2 (N : Nat) (mti : Nat → Int32) (mjo : Int32) (Q : Int32 → (Nat → Int64) → (Nat → Int32) → (Nat → Int32) → Int64 → Prop) : Nat → Int32 → (Nat → Int64) → (Nat → Int32) → (Nat → Int32) → Int64 → Prop
  | 0 => fun _ _ _ _ _ => False
  | n + 1 => fun x1 mta mba mib mdi => (mjo ≤ 0 → (Q x1 mta mba mib mdi)) ∧ (¬ mjo ≤ 0 → (p_X7_fits N mti mjo (fun r_2 mta_3 mba_4 mib_5 mdi_6 => (r_2 = 0 → (∀ x1_8 : Int32, x1_8 = x1 + (1 : Int32) → (p_X7_boundOf_2 N mti mjo Q n x1_8 mta_3 mba_4 mib_5 mdi_6))) ∧ (¬ r_2 = 0 → (Q x1 mta_3 mba_4 mib_5 mdi_6))) x1 mta mba mib mdi))

def p_X7_boundOf (N : Nat) (mti : Nat → Int32) (mjo : Int32) (Q : Int32 → (Nat → Int64) → (Nat → Int32) → (Nat → Int32) → Int64 → Prop) (mta : Nat → Int64) (mba : Nat → Int32) (mib : Nat → Int32) (mdi : Int64) : Prop :=
  p_X7_boundOf_2 N mti mjo Q N (0 : Int32) mta mba mib mdi

set_option maxHeartbeats 4000000 in
set_option maxRecDepth 100000 in
theorem k_X7_boundOf_2 {N : Nat} {mti : Nat → Int32} {mow : Nat → Int32} {mjo : Int32} {mab : Nat → Int64} {mbe : Nat → Int64} {mpl : Nat → Int32} {mbs : Nat → Int32} {mro : Nat → Int32} {mlo : Nat → Int32} {mth : Int32} {Q : Int32 → (Nat → Int64) → (Nat → Int32) → (Nat → Int32) → Int64 → Prop} (C0 : cxM cX7_boundOf 2 (some .int) RX7 wsX7_boundOf p s m args meth c dC dI cy A) :
    ∀ (n : Nat) (x1 : Int32) (mta : Nat → Int64) (mba : Nat → Int32) (mib : Nat → Int32) (mdi : Int64) (H : Heap) (locs : List Loc) (ls : Array Slot) (hm : p_X7_boundOf_2 N mti mjo Q n x1 mta mba mib mdi) (hSt : stC dC dI A s (wM ad cy mti mow mjo mta mba mib mdi mab mbe mpl mbs mro mlo mth) H locs) (hl : lv_has ls 2 [(0, .ref (ad 0)), (1, .int x1)]) (hret : ∀ (r : Int32) (mta : Nat → Int64) (mba : Nat → Int32) (mib : Nat → Int32) (mdi : Int64) (H : Heap) (locs : List Loc) (ls : Array Slot) (pc : Nat), decode cX7_boundOf pc = .ok (.ireturn, 1) → stC dC dI A s (wM ad cy mti mow mjo mta mba mib mdi mab mbe mpl mbs mro mlo mth) H locs → Q r mta mba mib mdi → W p l e rmX7_boundOf s m args below meth c H locs 0 0 Z (F0 m pc ls [.int r])), W p l e rmX7_boundOf s m args below meth c H locs 0 0 Z (F0 m 2 ls []) := by
  obtain ⟨hx, hb, hml, hr, hown, hts, hlocks, hK, hA, hN⟩ := id C0
  intro n
  induction n with
  | zero => intro x1 mta mba mib mdi H locs ls hm; exact False.elim hm
  | succ n ih =>
    intro x1 mta mba mib mdi H locs ls hm hSt hl hret
    obtain ⟨hP, hD, hS⟩ := hSt
    unfold p_X7_boundOf_2 at hm
    refine lv_aload_n hx hb dX7_boundOf_2 rfl (lv_at hl 0 rfl) ?_
    refine va_get (D := (dC, dI)) (ci := 7) (v := .int mjo) (C := RX7) (T := TX7) (N := 14) hx hb hts in_X7_boundOf_X7 hown hK hP 0 rfl rfl 2 (by decide) (hts _ fl_X7_boundOf_49) (fun _ h9 => h9) rfl dX7_boundOf_3 ?_
    refine lv_if_le (tgt := 23) hx hb dX7_boundOf_6 (by decide) (fun c_1 => ?_) (fun c_1 => ?_)
    · have hm := hm.1 c_1
      refine lv_iload_n hx hb dX7_boundOf_23 rfl (lv_at hl 1 rfl) ?_
      exact hret x1 mta mba mib mdi H locs ls 24 dX7_boundOf_24 ⟨hP, hD, hS⟩ hm
    · have hm := hm.2 c_1
      refine lv_aload_n hx hb dX7_boundOf_9 rfl (lv_at hl 0 rfl) ?_
      refine lv_iload_n hx hb dX7_boundOf_10 rfl (lv_at hl 1 rfl) ?_
      have hFc := va_freeSame hD hS hA
      refine va_calli (va_runV (As := [.int x1]) (rest := []) ⟨hx, hb, hml, hown, hts⟩ (c_X7_fits l dC dI cy ad H.size mti mow mjo mta mba mib mdi mab mbe mpl mbs mro mlo mth x1 _ _ hm) (cwV 1 hts gX7_boundOf_X7_fits rfl rfl rfl (by decide +kernel) ⟨Nat.le_of_ble_eq_true rfl, Nat.le_of_ble_eq_true rfl⟩) ⟨cPre_blind, va_recv hK hP (ci := 7) (q0 := 0) rfl rfl, fun U hU hW => ⟨rfl, cPre_at hP hK hD hN hU hW⟩⟩ rfl rfl hl.1 rfl (lv_room (Nat.le_of_ble_eq_true rfl)) dX7_boundOf_11 ⟨Nat.zero_le _, Nat.zero_le _⟩) hS (fun q _ h => hFc q h) hFc (fun r_2 u t H locs ht hvm hw hB hz1 hk1 hS => ?_)
      obtain ⟨mta_3, mba_4, mib_5, mdi_6⟩ := u
      try dsimp only at hw
      obtain ⟨hm, nar_r_2⟩ := hw
      have hP : va_P (dC, dI) vwCl (wM ad cy mti mow mjo mta_3 mba_4 mib_5 mdi_6 mab mbe mpl mbs mro mlo mth) H := cPost_P ht hB
      have hD : va_D A (wM ad cy mti mow mjo mta_3 mba_4 mib_5 mdi_6 mab mbe mpl mbs mro mlo mth) := cPost_D hFc hB
      refine lv_if_ne (tgt := 23) hx hb dX7_boundOf_14 (by decide) (fun c_7 => ?_) (fun c_7 => ?_)
      · have hm := hm.2 c_7
        refine lv_iload_n hx hb dX7_boundOf_23 rfl (lv_at hl 1 rfl) ?_
        exact hret x1 mta_3 mba_4 mib_5 mdi_6 H locs ls 24 dX7_boundOf_24 ⟨hP, hD, hS⟩ hm
      · have hm := hm.1 c_7
        obtain ⟨x1_8, ex1_8⟩ : ∃ y : Int32, y = x1 + (1 : Int32) := ⟨_, rfl⟩
        have hm := hm x1_8 ex1_8
        refine lv_iinc (v := x1_8) (lv' := [(1, .int x1_8), (0, .ref (ad 0))]) hx hb dX7_boundOf_17 hl (k := 1) rfl (by rw [ex1_8]; rfl) (by decide) rfl (fun ls hl => ?_)
        refine lv_goto (tgt := 2) hx hb dX7_boundOf_20 (by decide) ?_
        exact ih x1_8 mta_3 mba_4 mib_5 mdi_6 H locs ls hm ⟨hP, hD, hS⟩ (lv_sub hl [1, 0] rfl) hret

set_option maxHeartbeats 4000000 in
set_option maxRecDepth 100000 in
theorem k_X7_boundOf_0 {N : Nat} {mti : Nat → Int32} {mow : Nat → Int32} {mjo : Int32} {mab : Nat → Int64} {mbe : Nat → Int64} {mpl : Nat → Int32} {mbs : Nat → Int32} {mro : Nat → Int32} {mlo : Nat → Int32} {mth : Int32} {Q : Int32 → (Nat → Int64) → (Nat → Int32) → (Nat → Int32) → Int64 → Prop} (C0 : cxM cX7_boundOf 2 (some .int) RX7 wsX7_boundOf p s m args meth c dC dI cy A) :
    ∀ (mta : Nat → Int64) (mba : Nat → Int32) (mib : Nat → Int32) (mdi : Int64) (H : Heap) (locs : List Loc) (ls : Array Slot) (hm : p_X7_boundOf N mti mjo Q mta mba mib mdi) (hSt : stC dC dI A s (wM ad cy mti mow mjo mta mba mib mdi mab mbe mpl mbs mro mlo mth) H locs) (hl : lv_has ls 2 [(0, .ref (ad 0))]) (hret : ∀ (r : Int32) (mta : Nat → Int64) (mba : Nat → Int32) (mib : Nat → Int32) (mdi : Int64) (H : Heap) (locs : List Loc) (ls : Array Slot) (pc : Nat), decode cX7_boundOf pc = .ok (.ireturn, 1) → stC dC dI A s (wM ad cy mti mow mjo mta mba mib mdi mab mbe mpl mbs mro mlo mth) H locs → Q r mta mba mib mdi → W p l e rmX7_boundOf s m args below meth c H locs 0 0 Z (F0 m pc ls [.int r])), W p l e rmX7_boundOf s m args below meth c H locs 0 0 Z (F0 m 0 ls []) := by
  obtain ⟨hx, hb, hml, hr, hown, hts, hlocks, hK, hA, hN⟩ := id C0
  intro mta mba mib mdi H locs ls hm hSt hl hret
  obtain ⟨hP, hD, hS⟩ := hSt
  unfold p_X7_boundOf at hm
  refine lv_iconst (v := 0) hx hb dX7_boundOf_0 (by decide) ?_
  refine lv_istore_n (lv' := [(1, .int (0 : Int32)), (0, .ref (ad 0))]) hx hb dX7_boundOf_1 rfl hl (by decide) rfl (fun ls hl => ?_)
  exact k_X7_boundOf_2 C0 N (0 : Int32) mta mba mib mdi H locs ls hm ⟨hP, hD, hS⟩ (lv_sub hl [1, 0] rfl) hret

set_option maxHeartbeats 4000000 in
set_option maxRecDepth 100000 in
theorem c_X7_boundOf (l : Launch) (dC : Nat → ClassId) (dI : Nat → Nat → Nat) (cy : Nat → ClassId) (ad : Nat → Nat) (sz : Nat) (mti : Nat → Int32) (mow : Nat → Int32) (mjo : Int32) (mta : Nat → Int64) (mba : Nat → Int32) (mib : Nat → Int32) (mdi : Int64) (mab : Nat → Int64) (mbe : Nat → Int64) (mpl : Nat → Int32) (mbs : Nat → Int32) (mro : Nat → Int32) (mlo : Nat → Int32) (mth : Int32)  (N : Nat) (Q : Int32 → (Nat → Int64) → (Nat → Int32) → (Nat → Int32) → Int64 → Prop) (hm : p_X7_boundOf N mti mjo Q mta mba mib mdi) : Met l yX7_boundOf wsX7_boundOf rmX7_boundOf (va_Pc [.ref (ad 0)] (cPre dC dI cy (wM ad cy mti mow mjo mta mba mib mdi mab mbe mpl mbs mro mlo mth) sz)) (va_Qi (fun (r : Int32) (u : (Nat → Int64) × (Nat → Int32) × (Nat → Int32) × Int64) => Q r u.1 u.2.1 u.2.2.1 u.2.2.2) (fun u t => cPost dC dI cy (wM ad cy mti mow mjo mta mba mib mdi mab mbe mpl mbs mro mlo mth) sz (wM ad cy mti mow mjo (u.1) (u.2.1) (u.2.2.1) (u.2.2.2) mab mbe mpl mbs mro mlo mth) t) (va_A (wM ad cy mti mow mjo mta mba mib mdi mab mbe mpl mbs mro mlo mth) sz)) 0 0 (va_A (wM ad cy mti mow mjo mta mba mib mdi mab mbe mpl mbs mro mlo mth) sz) := by
  refine Met.ofW (cc := cX7_boundOf) (maxL := 2) (ret := (some .int)) (by decide) rfl ?_
  intro p e s m args below meth c s₁ B hml hv
  obtain ⟨rfl, hsz, hP, hK, hD0, hN⟩ := hv
  have hts := atoms_spec (ws := wsX7_boundOf) B.pre
  have hown : s.vm.findClass RX7 = some m.cls := findClass_of_methodNamed B.named
  subst hsz
  have hD := hD0.self (sz := s.heap.size)
  generalize hAe : va_A (wM ad cy mti mow mjo mta mba mib mdi mab mbe mpl mbs mro mlo mth) s.heap.size = A at hD ⊢
  have hA : ∀ q : Nat, s.heap.size ≤ q → A q := fun q h => by rw [← hAe]; exact Or.inr h
  have hl := lv_entry ([.ref (ad 0)]) (n := 2) (Nat.le_of_ble_eq_true rfl)
  rw [lg_entry_eq]
  generalize (lg_sl ([.ref (ad 0)]) ++ List.replicate (2 - (lg_sl ([.ref (ad 0)])).length) Slot.unset).toArray = ls at hl ⊢
  have hl : lv_has ls 2 [(0, .ref (ad 0))] := hl
  exact k_X7_boundOf_0 ⟨B.exec, B.bytes, hml, B.returns, hown, hts, B.notSynchronized, hK, hA, hN⟩ mta mba mib mdi s.heap [] ls hm ⟨hP, hD, va_S.rf⟩ (lv_sub hl [0] rfl) (fun r mta mba mib mdi H locs ls pc hdg hSt hq => W.iret B.exec B.bytes B.returns (fun t ht hW => ⟨⟨r, (mta, mba, mib, mdi), rfl, hq, cPost_of hAe ht hW.alike hSt hK⟩, hSt.2.2.F ht⟩) hSt.2.2.2.2 hdg B.notSynchronized)

-- ===== X7_raises
theorem fl_X7_raises_23 : Cond.fieldLink RX7 23 "UnlikeUnionModel" "isBarred" "[Z" ∈ wsX7_raises := by decide +kernel
theorem fl_X7_raises_16 : Cond.fieldLink RX7 16 "UnlikeUnionModel" "table" "[J" ∈ wsX7_raises := by decide +kernel
theorem in_X7_raises_X7 : ∀ w ∈ u_ws RX7 TX7 14, w ∈ wsX7_raises := by decide +kernel
abbrev rmX7_raises : Room := { frames := 3, cells := 0, slots := 0, locals := 230 }
def p_X7_raises_95 (N : Nat) (mjo : Int32) (Q : (Nat → Int64) → (Nat → Int32) → (Nat → Int32) → Int64 → Prop) : Nat → Int32 → Int32 → (Nat → Int64) → (Nat → Int32) → (Nat → Int32) → Int64 → Prop
  | 0 => fun _ _ _ _ _ _ => False
  | n + 1 => fun x2 x4 mta mba mib mdi => ((26 : Int32) ≤ x4 → (Q mta mba mib mdi)) ∧ (¬ (26 : Int32) ≤ x4 → (vp_in x4 26 ∧ (((mib (x4).toNatClampNeg) = 0 → (p_X7_rowOf N mjo mba (fun r_6 => (0 ≤ r_6 → (vp_in x4 26 ∧ (∀ x4_9 : Int32, x4_9 = x4 + (1 : Int32) → (p_X7_raises_95 N mjo Q n x2 x4_9 mta mba (upd mib (x4).toNatClampNeg (vp_nar .boolean (0 : Int32))) mdi)))) ∧ (¬ 0 ≤ r_6 → (vp_in (((27 : Int32) * x2) + x4) 297 ∧ (((mta (((27 : Int32) * x2) + x4).toNatClampNeg) ≤ (0 : Int64) → (vp_in x4 26 ∧ (∀ x4_13 : Int32, x4_13 = x4 + (1 : Int32) → (p_X7_raises_95 N mjo Q n x2 x4_13 mta mba (upd mib (x4).toNatClampNeg (vp_nar .boolean (0 : Int32))) mdi)))) ∧ (¬ (mta (((27 : Int32) * x2) + x4).toNatClampNeg) ≤ (0 : Int64) → (vp_in x4 26 ∧ (∀ x4_15 : Int32, x4_15 = x4 + (1 : Int32) → (p_X7_raises_95 N mjo Q n x2 x4_15 mta mba (upd mib (x4).toNatClampNeg (vp_nar .boolean (1 : Int32))) mdi)))))))) x4)) ∧ (¬ (mib (x4).toNatClampNeg) = 0 → (vp_in x4 26 ∧ (∀ x4_5 : Int32, x4_5 = x4 + (1 : Int32) → (p_X7_raises_95 N mjo Q n x2 x4_5 mta mba (upd mib (x4).toNatClampNeg (vp_nar .boolean (1 : Int32))) mdi)))))))

def p_X7_raises_26 (N : Nat) (mjo : Int32) (Q : (Nat → Int64) → (Nat → Int32) → (Nat → Int32) → Int64 → Prop) : Nat → Int32 → Int32 → Int32 → (Nat → Int64) → (Nat → Int32) → (Nat → Int32) → Int64 → Prop
  | 0 => fun _ _ _ _ _ _ _ => False
  | n + 1 => fun x1 x2 x3 mta mba mib mdi => ((26 : Int32) ≤ x3 → (p_X7_raises_95 N mjo Q N x2 (0 : Int32) mta mba mib mdi)) ∧ (¬ (26 : Int32) ≤ x3 → (vp_in x3 26 ∧ (((mib (x3).toNatClampNeg) = 0 → (p_X7_rowOf N mjo mba (fun r_5 => (0 ≤ r_5 → (∀ x3_7 : Int32, x3_7 = x3 + (1 : Int32) → (p_X7_raises_26 N mjo Q n x1 x2 x3_7 mta mba mib mdi))) ∧ (¬ 0 ≤ r_5 → (vp_in (((27 : Int32) * x2) + x3) 297 ∧ (((0 : Int64) ≤ (mta (((27 : Int32) * x2) + x3).toNatClampNeg) → (∀ x3_10 : Int32, x3_10 = x3 + (1 : Int32) → (p_X7_raises_26 N mjo Q n x1 x2 x3_10 mta mba mib mdi))) ∧ (¬ (0 : Int64) ≤ (mta (((27 : Int32) * x2) + x3).toNatClampNeg) → (p_X7_leaving N mjo mta mba (fun r_11 => p_X7_pivots N mjo (fun mta_12 mba_13 mdi_14 => p_X7_rowOf N mjo mba_13 (fun r_15 => p_X7_raises_26 N mjo Q n x1 r_15 (0 : Int32) mta_12 mba_13 mib mdi_14) x1) r_11 x3 mta mba mdi) x3)))))) x3)) ∧ (¬ (mib (x3).toNatClampNeg) = 0 → (∀ x3_4 : Int32, x3_4 = x3 + (1 : Int32) → (p_X7_raises_26 N mjo Q n x1 x2 x3_4 mta mba mib mdi))))))

def p_X7_raises (N : Nat) (mjo : Int32) (Q : (Nat → Int64) → (Nat → Int32) → (Nat → Int32) → Int64 → Prop) (x1 : Int32) (mta : Nat → Int64) (mba : Nat → Int32) (mib : Nat → Int32) (mdi : Int64) : Prop :=
  p_X7_rowOf N mjo mba (fun r_1 => (0 ≤ r_1 → (p_X7_rowOf N mjo mba (fun r_3 => p_X7_raises_26 N mjo Q N x1 r_3 (0 : Int32) mta mba mib mdi) x1)) ∧ (¬ 0 ≤ r_1 → (p_X7_leaving N mjo mta mba (fun r_4 => p_X7_pivots N mjo (fun mta_5 mba_6 mdi_7 => p_X7_rowOf N mjo mba_6 (fun r_8 => p_X7_raises_26 N mjo Q N x1 r_8 (0 : Int32) mta_5 mba_6 mib mdi_7) x1) r_4 x1 mta mba mdi) x1))) x1

set_option maxHeartbeats 4000000 in
set_option maxRecDepth 100000 in
theorem k_X7_raises_95 {N : Nat} {mti : Nat → Int32} {mow : Nat → Int32} {mjo : Int32} {mab : Nat → Int64} {mbe : Nat → Int64} {mpl : Nat → Int32} {mbs : Nat → Int32} {mro : Nat → Int32} {mlo : Nat → Int32} {mth : Int32} {Q : (Nat → Int64) → (Nat → Int32) → (Nat → Int32) → Int64 → Prop} (C0 : cxM cX7_raises 5 none RX7 wsX7_raises p s m args meth c dC dI cy A) :
    ∀ (n : Nat) (x2 : Int32) (x4 : Int32) (mta : Nat → Int64) (mba : Nat → Int32) (mib : Nat → Int32) (mdi : Int64) (H : Heap) (locs : List Loc) (ls : Array Slot) (hm : p_X7_raises_95 N mjo Q n x2 x4 mta mba mib mdi) (hSt : stC dC dI A s (wM ad cy mti mow mjo mta mba mib mdi mab mbe mpl mbs mro mlo mth) H locs) (hl : lv_has ls 5 [(0, .ref (ad 0)), (2, .int x2), (4, .int x4)]) (hret : ∀ (mta : Nat → Int64) (mba : Nat → Int32) (mib : Nat → Int32) (mdi : Int64) (H : Heap) (locs : List Loc) (ls : Array Slot) (pc : Nat), decode cX7_raises pc = .ok (.return_, 1) → stC dC dI A s (wM ad cy mti mow mjo mta mba mib mdi mab mbe mpl mbs mro mlo mth) H locs → Q mta mba mib mdi → W p l e rmX7_raises s m args below meth c H locs 0 0 Z (F0 m pc ls [])), W p l e rmX7_raises s m args below meth c H locs 0 0 Z (F0 m 95 ls []) := by
  obtain ⟨hx, hb, hml, hr, hown, hts, hlocks, hK, hA, hN⟩ := id C0
  intro n
  induction n with
  | zero => intro x2 x4 mta mba mib mdi H locs ls hm; exact False.elim hm
  | succ n ih =>
    intro x2 x4 mta mba mib mdi H locs ls hm hSt hl hret
    obtain ⟨hP, hD, hS⟩ := hSt
    unfold p_X7_raises_95 at hm
    refine lv_iload hx hb dX7_raises_95 (lv_at hl 2 rfl) ?_
    refine lv_bipush (v := 26) hx hb dX7_raises_97 (by decide) ?_
    refine lv_icmp_ge (tgt := 156) hx hb dX7_raises_99 (by decide) (fun c_1 => ?_) (fun c_1 => ?_)
    · have hm := hm.1 c_1
      exact hret mta mba mib mdi H locs ls 156 dX7_raises_156 ⟨hP, hD, hS⟩ hm
    · have hm := hm.2 c_1
      refine lv_aload_n hx hb dX7_raises_102 rfl (lv_at hl 0 rfl) ?_
      refine va_get (D := (dC, dI)) (ci := 7) (v := .ref (ad 5)) (C := RX7) (T := TX7) (N := 14) hx hb hts in_X7_raises_X7 hown hK hP 0 rfl rfl 5 (by decide) (hts _ fl_X7_raises_23) (fun _ h9 => h9) rfl dX7_raises_103 ?_
      refine lv_iload hx hb dX7_raises_106 (lv_at hl 2 rfl) ?_
      refine lv_aload_n hx hb dX7_raises_108 rfl (lv_at hl 0 rfl) ?_
      refine va_get (D := (dC, dI)) (ci := 7) (v := .ref (ad 5)) (C := RX7) (T := TX7) (N := 14) hx hb hts in_X7_raises_X7 hown hK hP 0 rfl rfl 5 (by decide) (hts _ fl_X7_raises_23) (fun _ h9 => h9) rfl dX7_raises_109 ?_
      refine lv_iload hx hb dX7_raises_112 (lv_at hl 2 rfl) ?_
      have hi_2 := hm.1
      have hm := hm.2
      refine va_zald hx hb hK hP 5 2 rfl rfl hi_2 dX7_raises_114 ?_
      refine lv_if_ne (tgt := 144) hx hb dX7_raises_115 (by decide) (fun c_3 => ?_) (fun c_3 => ?_)
      · have hm := hm.2 c_3
        refine lv_iconst (v := 1) hx hb dX7_raises_144 (by decide) ?_
        refine lv_goto (tgt := 149) hx hb dX7_raises_145 (by decide) ?_
        have hi_4 := hm.1
        have hm := hm.2
        refine va_zast hx hb hK hP hD hS 5 2 rfl rfl hi_4 dX7_raises_149 (fun H locs hP hD hS => ?_)
        have hP : va_P (dC, dI) vwCl (wM ad cy mti mow mjo mta mba (upd mib (x4).toNatClampNeg (vp_nar .boolean (1 : Int32))) mdi mab mbe mpl mbs mro mlo mth) H := hP
        have hD : va_D A (wM ad cy mti mow mjo mta mba (upd mib (x4).toNatClampNeg (vp_nar .boolean (1 : Int32))) mdi mab mbe mpl mbs mro mlo mth) := hD
        obtain ⟨x4_5, ex4_5⟩ : ∃ y : Int32, y = x4 + (1 : Int32) := ⟨_, rfl⟩
        have hm := hm x4_5 ex4_5
        refine lv_iinc (v := x4_5) (lv' := [(4, .int x4_5), (0, .ref (ad 0)), (2, .int x2)]) hx hb dX7_raises_150 hl (k := 2) rfl (by rw [ex4_5]; rfl) (by decide) rfl (fun ls hl => ?_)
        refine lv_goto (tgt := 95) hx hb dX7_raises_153 (by decide) ?_
        exact ih x2 x4_5 mta mba (upd mib (x4).toNatClampNeg (vp_nar .boolean (1 : Int32))) mdi H locs ls hm ⟨hP, hD, hS⟩ (lv_sub hl [1, 2, 0] rfl) hret
      · have hm := hm.1 c_3
        refine lv_aload_n hx hb dX7_raises_118 rfl (lv_at hl 0 rfl) ?_
        refine lv_iload hx hb dX7_raises_119 (lv_at hl 2 rfl) ?_
        have hFc := va_freeSame hD hS hA
        refine va_calli (va_runV (As := [.int x4]) (rest := [.int x4, .ref (ad 5)]) ⟨hx, hb, hml, hown, hts⟩ (c_X7_rowOf l dC dI cy ad H.size mti mow mjo mta mba mib mdi mab mbe mpl mbs mro mlo mth x4 _ _ hm) (cwV 1 hts gX7_raises_X7_rowOf rfl rfl rfl (by decide +kernel) ⟨Nat.le_of_ble_eq_true rfl, Nat.le_of_ble_eq_true rfl⟩) ⟨cPre_blind, va_recv hK hP (ci := 7) (q0 := 0) rfl rfl, fun U hU hW => ⟨rfl, cPre_at hP hK hD hN hU hW⟩⟩ rfl rfl hl.1 rfl (lv_room (Nat.le_of_ble_eq_true rfl)) dX7_raises_121 ⟨Nat.zero_le _, Nat.zero_le _⟩) hS (fun q _ h => hFc q h) hFc (fun r_6 u t H locs ht hvm hw hB hz1 hk1 hS => ?_)
        try dsimp only at hw
        have hm := hw
        have hP : va_P (dC, dI) vwCl (wM ad cy mti mow mjo mta mba mib mdi mab mbe mpl mbs mro mlo mth) H := cPost_P ht hB
        have hD : va_D A (wM ad cy mti mow mjo mta mba mib mdi mab mbe mpl mbs mro mlo mth) := cPost_D hFc hB
        refine lv_if_ge (tgt := 148) hx hb dX7_raises_124 (by decide) (fun c_7 => ?_) (fun c_7 => ?_)
        · have hm := hm.1 c_7
          refine lv_iconst (v := 0) hx hb dX7_raises_148 (by decide) ?_
          have hi_8 := hm.1
          have hm := hm.2
          refine va_zast hx hb hK hP hD hS 5 2 rfl rfl hi_8 dX7_raises_149 (fun H locs hP hD hS => ?_)
          have hP : va_P (dC, dI) vwCl (wM ad cy mti mow mjo mta mba (upd mib (x4).toNatClampNeg (vp_nar .boolean (0 : Int32))) mdi mab mbe mpl mbs mro mlo mth) H := hP
          have hD : va_D A (wM ad cy mti mow mjo mta mba (upd mib (x4).toNatClampNeg (vp_nar .boolean (0 : Int32))) mdi mab mbe mpl mbs mro mlo mth) := hD
          obtain ⟨x4_9, ex4_9⟩ : ∃ y : Int32, y = x4 + (1 : Int32) := ⟨_, rfl⟩
          have hm := hm x4_9 ex4_9
          refine lv_iinc (v := x4_9) (lv' := [(4, .int x4_9), (0, .ref (ad 0)), (2, .int x2)]) hx hb dX7_raises_150 hl (k := 2) rfl (by rw [ex4_9]; rfl) (by decide) rfl (fun ls hl => ?_)
          refine lv_goto (tgt := 95) hx hb dX7_raises_153 (by decide) ?_
          exact ih x2 x4_9 mta mba (upd mib (x4).toNatClampNeg (vp_nar .boolean (0 : Int32))) mdi H locs ls hm ⟨hP, hD, hS⟩ (lv_sub hl [1, 2, 0] rfl) hret
        · have hm := hm.2 c_7
          refine lv_aload_n hx hb dX7_raises_127 rfl (lv_at hl 0 rfl) ?_
          refine va_get (D := (dC, dI)) (ci := 7) (v := .ref (ad 3)) (C := RX7) (T := TX7) (N := 14) hx hb hts in_X7_raises_X7 hown hK hP 0 rfl rfl 3 (by decide) (hts _ fl_X7_raises_16) (fun _ h9 => h9) rfl dX7_raises_128 ?_
          refine lv_bipush (v := 27) hx hb dX7_raises_131 (by decide) ?_
          refine lv_iload_n hx hb dX7_raises_133 rfl (lv_at hl 1 rfl) ?_
          refine lv_imul hx hb dX7_raises_134 ?_
          refine lv_iload hx hb dX7_raises_135 (lv_at hl 2 rfl) ?_
          refine lv_iadd hx hb dX7_raises_137 ?_
          have hi_10 := hm.1
          have hm := hm.2
          refine va_lald hx hb hK hP 3 1 rfl rfl hi_10 dX7_raises_138 ?_
          refine lv_lconst (v := 0) hx hb dX7_raises_139 (by decide) ?_
          refine lq_le (tgt := 148) hx hb dX7_raises_140 dX7_raises_141 (by decide) (fun c_11 => ?_) (fun c_11 => ?_)
          · have hm := hm.1 c_11
            refine lv_iconst (v := 0) hx hb dX7_raises_148 (by decide) ?_
            have hi_12 := hm.1
            have hm := hm.2
            refine va_zast hx hb hK hP hD hS 5 2 rfl rfl hi_12 dX7_raises_149 (fun H locs hP hD hS => ?_)
            have hP : va_P (dC, dI) vwCl (wM ad cy mti mow mjo mta mba (upd mib (x4).toNatClampNeg (vp_nar .boolean (0 : Int32))) mdi mab mbe mpl mbs mro mlo mth) H := hP
            have hD : va_D A (wM ad cy mti mow mjo mta mba (upd mib (x4).toNatClampNeg (vp_nar .boolean (0 : Int32))) mdi mab mbe mpl mbs mro mlo mth) := hD
            obtain ⟨x4_13, ex4_13⟩ : ∃ y : Int32, y = x4 + (1 : Int32) := ⟨_, rfl⟩
            have hm := hm x4_13 ex4_13
            refine lv_iinc (v := x4_13) (lv' := [(4, .int x4_13), (0, .ref (ad 0)), (2, .int x2)]) hx hb dX7_raises_150 hl (k := 2) rfl (by rw [ex4_13]; rfl) (by decide) rfl (fun ls hl => ?_)
            refine lv_goto (tgt := 95) hx hb dX7_raises_153 (by decide) ?_
            exact ih x2 x4_13 mta mba (upd mib (x4).toNatClampNeg (vp_nar .boolean (0 : Int32))) mdi H locs ls hm ⟨hP, hD, hS⟩ (lv_sub hl [1, 2, 0] rfl) hret
          · have hm := hm.2 c_11
            refine lv_iconst (v := 1) hx hb dX7_raises_144 (by decide) ?_
            refine lv_goto (tgt := 149) hx hb dX7_raises_145 (by decide) ?_
            have hi_14 := hm.1
            have hm := hm.2
            refine va_zast hx hb hK hP hD hS 5 2 rfl rfl hi_14 dX7_raises_149 (fun H locs hP hD hS => ?_)
            have hP : va_P (dC, dI) vwCl (wM ad cy mti mow mjo mta mba (upd mib (x4).toNatClampNeg (vp_nar .boolean (1 : Int32))) mdi mab mbe mpl mbs mro mlo mth) H := hP
            have hD : va_D A (wM ad cy mti mow mjo mta mba (upd mib (x4).toNatClampNeg (vp_nar .boolean (1 : Int32))) mdi mab mbe mpl mbs mro mlo mth) := hD
            obtain ⟨x4_15, ex4_15⟩ : ∃ y : Int32, y = x4 + (1 : Int32) := ⟨_, rfl⟩
            have hm := hm x4_15 ex4_15
            refine lv_iinc (v := x4_15) (lv' := [(4, .int x4_15), (0, .ref (ad 0)), (2, .int x2)]) hx hb dX7_raises_150 hl (k := 2) rfl (by rw [ex4_15]; rfl) (by decide) rfl (fun ls hl => ?_)
            refine lv_goto (tgt := 95) hx hb dX7_raises_153 (by decide) ?_
            exact ih x2 x4_15 mta mba (upd mib (x4).toNatClampNeg (vp_nar .boolean (1 : Int32))) mdi H locs ls hm ⟨hP, hD, hS⟩ (lv_sub hl [1, 2, 0] rfl) hret

set_option maxHeartbeats 4000000 in
set_option maxRecDepth 100000 in
theorem k_X7_raises_26 {N : Nat} {mti : Nat → Int32} {mow : Nat → Int32} {mjo : Int32} {mab : Nat → Int64} {mbe : Nat → Int64} {mpl : Nat → Int32} {mbs : Nat → Int32} {mro : Nat → Int32} {mlo : Nat → Int32} {mth : Int32} {Q : (Nat → Int64) → (Nat → Int32) → (Nat → Int32) → Int64 → Prop} (C0 : cxM cX7_raises 5 none RX7 wsX7_raises p s m args meth c dC dI cy A) :
    ∀ (n : Nat) (x1 : Int32) (x2 : Int32) (x3 : Int32) (mta : Nat → Int64) (mba : Nat → Int32) (mib : Nat → Int32) (mdi : Int64) (H : Heap) (locs : List Loc) (ls : Array Slot) (hm : p_X7_raises_26 N mjo Q n x1 x2 x3 mta mba mib mdi) (hSt : stC dC dI A s (wM ad cy mti mow mjo mta mba mib mdi mab mbe mpl mbs mro mlo mth) H locs) (hl : lv_has ls 5 [(0, .ref (ad 0)), (1, .int x1), (2, .int x2), (3, .int x3)]) (hret : ∀ (mta : Nat → Int64) (mba : Nat → Int32) (mib : Nat → Int32) (mdi : Int64) (H : Heap) (locs : List Loc) (ls : Array Slot) (pc : Nat), decode cX7_raises pc = .ok (.return_, 1) → stC dC dI A s (wM ad cy mti mow mjo mta mba mib mdi mab mbe mpl mbs mro mlo mth) H locs → Q mta mba mib mdi → W p l e rmX7_raises s m args below meth c H locs 0 0 Z (F0 m pc ls [])), W p l e rmX7_raises s m args below meth c H locs 0 0 Z (F0 m 26 ls []) := by
  obtain ⟨hx, hb, hml, hr, hown, hts, hlocks, hK, hA, hN⟩ := id C0
  intro n
  induction n with
  | zero => intro x1 x2 x3 mta mba mib mdi H locs ls hm; exact False.elim hm
  | succ n ih =>
    intro x1 x2 x3 mta mba mib mdi H locs ls hm hSt hl hret
    obtain ⟨hP, hD, hS⟩ := hSt
    unfold p_X7_raises_26 at hm
    refine lv_iload_n hx hb dX7_raises_26 rfl (lv_at hl 3 rfl) ?_
    refine lv_bipush (v := 26) hx hb dX7_raises_27 (by decide) ?_
    refine lv_icmp_ge (tgt := 92) hx hb dX7_raises_29 (by decide) (fun c_1 => ?_) (fun c_1 => ?_)
    · have hm := hm.1 c_1
      refine lv_iconst (v := 0) hx hb dX7_raises_92 (by decide) ?_
      refine lv_istore (lv' := [(4, .int (0 : Int32)), (0, .ref (ad 0)), (1, .int x1), (2, .int x2), (3, .int x3)]) hx hb dX7_raises_93 hl (by decide) rfl (fun ls hl => ?_)
      exact k_X7_raises_95 C0 N x2 (0 : Int32) mta mba mib mdi H locs ls hm ⟨hP, hD, hS⟩ (lv_sub hl [1, 3, 0] rfl) hret
    · have hm := hm.2 c_1
      refine lv_aload_n hx hb dX7_raises_32 rfl (lv_at hl 0 rfl) ?_
      refine va_get (D := (dC, dI)) (ci := 7) (v := .ref (ad 5)) (C := RX7) (T := TX7) (N := 14) hx hb hts in_X7_raises_X7 hown hK hP 0 rfl rfl 5 (by decide) (hts _ fl_X7_raises_23) (fun _ h9 => h9) rfl dX7_raises_33 ?_
      refine lv_iload_n hx hb dX7_raises_36 rfl (lv_at hl 3 rfl) ?_
      have hi_2 := hm.1
      have hm := hm.2
      refine va_zald hx hb hK hP 5 2 rfl rfl hi_2 dX7_raises_37 ?_
      refine lv_if_ne (tgt := 86) hx hb dX7_raises_38 (by decide) (fun c_3 => ?_) (fun c_3 => ?_)
      · have hm := hm.2 c_3
        obtain ⟨x3_4, ex3_4⟩ : ∃ y : Int32, y = x3 + (1 : Int32) := ⟨_, rfl⟩
        have hm := hm x3_4 ex3_4
        refine lv_iinc (v := x3_4) (lv' := [(3, .int x3_4), (0, .ref (ad 0)), (1, .int x1), (2, .int x2)]) hx hb dX7_raises_86 hl (k := 3) rfl (by rw [ex3_4]; rfl) (by decide) rfl (fun ls hl => ?_)
        refine lv_goto (tgt := 26) hx hb dX7_raises_89 (by decide) ?_
        exact ih x1 x2 x3_4 mta mba mib mdi H locs ls hm ⟨hP, hD, hS⟩ (lv_sub hl [1, 2, 3, 0] rfl) hret
      · have hm := hm.1 c_3
        refine lv_aload_n hx hb dX7_raises_41 rfl (lv_at hl 0 rfl) ?_
        refine lv_iload_n hx hb dX7_raises_42 rfl (lv_at hl 3 rfl) ?_
        have hFc := va_freeSame hD hS hA
        refine va_calli (va_runV (As := [.int x3]) (rest := []) ⟨hx, hb, hml, hown, hts⟩ (c_X7_rowOf l dC dI cy ad H.size mti mow mjo mta mba mib mdi mab mbe mpl mbs mro mlo mth x3 _ _ hm) (cwV 1 hts gX7_raises_X7_rowOf rfl rfl rfl (by decide +kernel) ⟨Nat.le_of_ble_eq_true rfl, Nat.le_of_ble_eq_true rfl⟩) ⟨cPre_blind, va_recv hK hP (ci := 7) (q0 := 0) rfl rfl, fun U hU hW => ⟨rfl, cPre_at hP hK hD hN hU hW⟩⟩ rfl rfl hl.1 rfl (lv_room (Nat.le_of_ble_eq_true rfl)) dX7_raises_43 ⟨Nat.zero_le _, Nat.zero_le _⟩) hS (fun q _ h => hFc q h) hFc (fun r_5 u t H locs ht hvm hw hB hz1 hk1 hS => ?_)
        try dsimp only at hw
        have hm := hw
        have hP : va_P (dC, dI) vwCl (wM ad cy mti mow mjo mta mba mib mdi mab mbe mpl mbs mro mlo mth) H := cPost_P ht hB
        have hD : va_D A (wM ad cy mti mow mjo mta mba mib mdi mab mbe mpl mbs mro mlo mth) := cPost_D hFc hB
        refine lv_if_ge (tgt := 86) hx hb dX7_raises_46 (by decide) (fun c_6 => ?_) (fun c_6 => ?_)
        · have hm := hm.1 c_6
          obtain ⟨x3_7, ex3_7⟩ : ∃ y : Int32, y = x3 + (1 : Int32) := ⟨_, rfl⟩
          have hm := hm x3_7 ex3_7
          refine lv_iinc (v := x3_7) (lv' := [(3, .int x3_7), (0, .ref (ad 0)), (1, .int x1), (2, .int x2)]) hx hb dX7_raises_86 hl (k := 3) rfl (by rw [ex3_7]; rfl) (by decide) rfl (fun ls hl => ?_)
          refine lv_goto (tgt := 26) hx hb dX7_raises_89 (by decide) ?_
          exact ih x1 x2 x3_7 mta mba mib mdi H locs ls hm ⟨hP, hD, hS⟩ (lv_sub hl [1, 2, 3, 0] rfl) hret
        · have hm := hm.2 c_6
          refine lv_aload_n hx hb dX7_raises_49 rfl (lv_at hl 0 rfl) ?_
          refine va_get (D := (dC, dI)) (ci := 7) (v := .ref (ad 3)) (C := RX7) (T := TX7) (N := 14) hx hb hts in_X7_raises_X7 hown hK hP 0 rfl rfl 3 (by decide) (hts _ fl_X7_raises_16) (fun _ h9 => h9) rfl dX7_raises_50 ?_
          refine lv_bipush (v := 27) hx hb dX7_raises_53 (by decide) ?_
          refine lv_iload_n hx hb dX7_raises_55 rfl (lv_at hl 2 rfl) ?_
          refine lv_imul hx hb dX7_raises_56 ?_
          refine lv_iload_n hx hb dX7_raises_57 rfl (lv_at hl 3 rfl) ?_
          refine lv_iadd hx hb dX7_raises_58 ?_
          have hi_8 := hm.1
          have hm := hm.2
          refine va_lald hx hb hK hP 3 1 rfl rfl hi_8 dX7_raises_59 ?_
          refine lv_lconst (v := 0) hx hb dX7_raises_60 (by decide) ?_
          refine lq_ge (tgt := 86) hx hb dX7_raises_61 dX7_raises_62 (by decide) (fun c_9 => ?_) (fun c_9 => ?_)
          · have hm := hm.1 c_9
            obtain ⟨x3_10, ex3_10⟩ : ∃ y : Int32, y = x3 + (1 : Int32) := ⟨_, rfl⟩
            have hm := hm x3_10 ex3_10
            refine lv_iinc (v := x3_10) (lv' := [(3, .int x3_10), (0, .ref (ad 0)), (1, .int x1), (2, .int x2)]) hx hb dX7_raises_86 hl (k := 3) rfl (by rw [ex3_10]; rfl) (by decide) rfl (fun ls hl => ?_)
            refine lv_goto (tgt := 26) hx hb dX7_raises_89 (by decide) ?_
            exact ih x1 x2 x3_10 mta mba mib mdi H locs ls hm ⟨hP, hD, hS⟩ (lv_sub hl [1, 2, 3, 0] rfl) hret
          · have hm := hm.2 c_9
            refine lv_aload_n hx hb dX7_raises_65 rfl (lv_at hl 0 rfl) ?_
            refine lv_aload_n hx hb dX7_raises_66 rfl (lv_at hl 0 rfl) ?_
            refine lv_iload_n hx hb dX7_raises_67 rfl (lv_at hl 3 rfl) ?_
            have hFc := va_freeSame hD hS hA
            refine va_calli (va_runV (As := [.int x3]) (rest := [.ref (ad 0)]) ⟨hx, hb, hml, hown, hts⟩ (c_X7_leaving l dC dI cy ad H.size mti mow mjo mta mba mib mdi mab mbe mpl mbs mro mlo mth x3 _ _ hm) (cwV 1 hts gX7_raises_X7_leaving rfl rfl rfl (by decide +kernel) ⟨Nat.le_of_ble_eq_true rfl, Nat.le_of_ble_eq_true rfl⟩) ⟨cPre_blind, va_recv hK hP (ci := 7) (q0 := 0) rfl rfl, fun U hU hW => ⟨rfl, cPre_at hP hK hD hN hU hW⟩⟩ rfl rfl hl.1 rfl (lv_room (Nat.le_of_ble_eq_true rfl)) dX7_raises_68 ⟨Nat.zero_le _, Nat.zero_le _⟩) hS (fun q _ h => hFc q h) hFc (fun r_11 u t H locs ht hvm hw hB hz1 hk1 hS => ?_)
            try dsimp only at hw
            have hm := hw
            have hP : va_P (dC, dI) vwCl (wM ad cy mti mow mjo mta mba mib mdi mab mbe mpl mbs mro mlo mth) H := cPost_P ht hB
            have hD : va_D A (wM ad cy mti mow mjo mta mba mib mdi mab mbe mpl mbs mro mlo mth) := cPost_D hFc hB
            refine lv_iload_n hx hb dX7_raises_71 rfl (lv_at hl 3 rfl) ?_
            have hFc := va_freeSame hD hS hA
            refine va_callv (va_runV (As := [.int r_11, .int x3]) (rest := []) ⟨hx, hb, hml, hown, hts⟩ (c_X7_pivots l dC dI cy ad H.size mti mow mjo mta mba mib mdi mab mbe mpl mbs mro mlo mth r_11 x3 _ _ hm) (cwV 2 hts gX7_raises_X7_pivots rfl rfl rfl (by decide +kernel) ⟨Nat.le_of_ble_eq_true rfl, Nat.le_of_ble_eq_true rfl⟩) ⟨cPre_blind, va_recv hK hP (ci := 7) (q0 := 0) rfl rfl, fun U hU hW => ⟨rfl, cPre_at hP hK hD hN hU hW⟩⟩ rfl rfl hl.1 rfl (lv_room (Nat.le_of_ble_eq_true rfl)) dX7_raises_72 ⟨Nat.zero_le _, Nat.zero_le _⟩) hS (fun q _ h => hFc q h) hFc (fun u t H locs ht hvm hw hB hz1 hk1 hS => ?_)
            obtain ⟨mta_12, mba_13, mdi_14⟩ := u
            try dsimp only at hw
            have hm := hw
            have hP : va_P (dC, dI) vwCl (wM ad cy mti mow mjo mta_12 mba_13 mib mdi_14 mab mbe mpl mbs mro mlo mth) H := cPost_P ht hB
            have hD : va_D A (wM ad cy mti mow mjo mta_12 mba_13 mib mdi_14 mab mbe mpl mbs mro mlo mth) := cPost_D hFc hB
            refine lv_aload_n hx hb dX7_raises_75 rfl (lv_at hl 0 rfl) ?_
            refine lv_iload_n hx hb dX7_raises_76 rfl (lv_at hl 1 rfl) ?_
            have hFc := va_freeSame hD hS hA
            refine va_calli (va_runV (As := [.int x1]) (rest := []) ⟨hx, hb, hml, hown, hts⟩ (c_X7_rowOf l dC dI cy ad H.size mti mow mjo mta_12 mba_13 mib mdi_14 mab mbe mpl mbs mro mlo mth x1 _ _ hm) (cwV 1 hts gX7_raises_X7_rowOf rfl rfl rfl (by decide +kernel) ⟨Nat.le_of_ble_eq_true rfl, Nat.le_of_ble_eq_true rfl⟩) ⟨cPre_blind, va_recv hK hP (ci := 7) (q0 := 0) rfl rfl, fun U hU hW => ⟨rfl, cPre_at hP hK hD hN hU hW⟩⟩ rfl rfl hl.1 rfl (lv_room (Nat.le_of_ble_eq_true rfl)) dX7_raises_77 ⟨Nat.zero_le _, Nat.zero_le _⟩) hS (fun q _ h => hFc q h) hFc (fun r_15 u t H locs ht hvm hw hB hz1 hk1 hS => ?_)
            try dsimp only at hw
            have hm := hw
            have hP : va_P (dC, dI) vwCl (wM ad cy mti mow mjo mta_12 mba_13 mib mdi_14 mab mbe mpl mbs mro mlo mth) H := cPost_P ht hB
            have hD : va_D A (wM ad cy mti mow mjo mta_12 mba_13 mib mdi_14 mab mbe mpl mbs mro mlo mth) := cPost_D hFc hB
            refine lv_istore_n (lv' := [(2, .int r_15), (0, .ref (ad 0)), (1, .int x1), (3, .int x3)]) hx hb dX7_raises_80 rfl hl (by decide) rfl (fun ls hl => ?_)
            refine lv_iconst (v := 0) hx hb dX7_raises_81 (by decide) ?_
            refine lv_istore_n (lv' := [(3, .int (0 : Int32)), (2, .int r_15), (0, .ref (ad 0)), (1, .int x1)]) hx hb dX7_raises_82 rfl hl (by decide) rfl (fun ls hl => ?_)
            refine lv_goto (tgt := 26) hx hb dX7_raises_83 (by decide) ?_
            exact ih x1 r_15 (0 : Int32) mta_12 mba_13 mib mdi_14 H locs ls hm ⟨hP, hD, hS⟩ (lv_sub hl [2, 3, 1, 0] rfl) hret

set_option maxHeartbeats 4000000 in
set_option maxRecDepth 100000 in
theorem k_X7_raises_0 {N : Nat} {mti : Nat → Int32} {mow : Nat → Int32} {mjo : Int32} {mab : Nat → Int64} {mbe : Nat → Int64} {mpl : Nat → Int32} {mbs : Nat → Int32} {mro : Nat → Int32} {mlo : Nat → Int32} {mth : Int32} {Q : (Nat → Int64) → (Nat → Int32) → (Nat → Int32) → Int64 → Prop} (C0 : cxM cX7_raises 5 none RX7 wsX7_raises p s m args meth c dC dI cy A) :
    ∀ (x1 : Int32) (mta : Nat → Int64) (mba : Nat → Int32) (mib : Nat → Int32) (mdi : Int64) (H : Heap) (locs : List Loc) (ls : Array Slot) (hm : p_X7_raises N mjo Q x1 mta mba mib mdi) (hSt : stC dC dI A s (wM ad cy mti mow mjo mta mba mib mdi mab mbe mpl mbs mro mlo mth) H locs) (hl : lv_has ls 5 [(0, .ref (ad 0)), (1, .int x1)]) (hret : ∀ (mta : Nat → Int64) (mba : Nat → Int32) (mib : Nat → Int32) (mdi : Int64) (H : Heap) (locs : List Loc) (ls : Array Slot) (pc : Nat), decode cX7_raises pc = .ok (.return_, 1) → stC dC dI A s (wM ad cy mti mow mjo mta mba mib mdi mab mbe mpl mbs mro mlo mth) H locs → Q mta mba mib mdi → W p l e rmX7_raises s m args below meth c H locs 0 0 Z (F0 m pc ls [])), W p l e rmX7_raises s m args below meth c H locs 0 0 Z (F0 m 0 ls []) := by
  obtain ⟨hx, hb, hml, hr, hown, hts, hlocks, hK, hA, hN⟩ := id C0
  intro x1 mta mba mib mdi H locs ls hm hSt hl hret
  obtain ⟨hP, hD, hS⟩ := hSt
  unfold p_X7_raises at hm
  refine lv_aload_n hx hb dX7_raises_0 rfl (lv_at hl 0 rfl) ?_
  refine lv_iload_n hx hb dX7_raises_1 rfl (lv_at hl 1 rfl) ?_
  have hFc := va_freeSame hD hS hA
  refine va_calli (va_runV (As := [.int x1]) (rest := []) ⟨hx, hb, hml, hown, hts⟩ (c_X7_rowOf l dC dI cy ad H.size mti mow mjo mta mba mib mdi mab mbe mpl mbs mro mlo mth x1 _ _ hm) (cwV 1 hts gX7_raises_X7_rowOf rfl rfl rfl (by decide +kernel) ⟨Nat.le_of_ble_eq_true rfl, Nat.le_of_ble_eq_true rfl⟩) ⟨cPre_blind, va_recv hK hP (ci := 7) (q0 := 0) rfl rfl, fun U hU hW => ⟨rfl, cPre_at hP hK hD hN hU hW⟩⟩ rfl rfl hl.1 rfl (lv_room (Nat.le_of_ble_eq_true rfl)) dX7_raises_2 ⟨Nat.zero_le _, Nat.zero_le _⟩) hS (fun q _ h => hFc q h) hFc (fun r_1 u t H locs ht hvm hw hB hz1 hk1 hS => ?_)
  try dsimp only at hw
  have hm := hw
  have hP : va_P (dC, dI) vwCl (wM ad cy mti mow mjo mta mba mib mdi mab mbe mpl mbs mro mlo mth) H := cPost_P ht hB
  have hD : va_D A (wM ad cy mti mow mjo mta mba mib mdi mab mbe mpl mbs mro mlo mth) := cPost_D hFc hB
  refine lv_if_ge (tgt := 18) hx hb dX7_raises_5 (by decide) (fun c_2 => ?_) (fun c_2 => ?_)
  · have hm := hm.1 c_2
    refine lv_aload_n hx hb dX7_raises_18 rfl (lv_at hl 0 rfl) ?_
    refine lv_iload_n hx hb dX7_raises_19 rfl (lv_at hl 1 rfl) ?_
    have hFc := va_freeSame hD hS hA
    refine va_calli (va_runV (As := [.int x1]) (rest := []) ⟨hx, hb, hml, hown, hts⟩ (c_X7_rowOf l dC dI cy ad H.size mti mow mjo mta mba mib mdi mab mbe mpl mbs mro mlo mth x1 _ _ hm) (cwV 1 hts gX7_raises_X7_rowOf rfl rfl rfl (by decide +kernel) ⟨Nat.le_of_ble_eq_true rfl, Nat.le_of_ble_eq_true rfl⟩) ⟨cPre_blind, va_recv hK hP (ci := 7) (q0 := 0) rfl rfl, fun U hU hW => ⟨rfl, cPre_at hP hK hD hN hU hW⟩⟩ rfl rfl hl.1 rfl (lv_room (Nat.le_of_ble_eq_true rfl)) dX7_raises_20 ⟨Nat.zero_le _, Nat.zero_le _⟩) hS (fun q _ h => hFc q h) hFc (fun r_3 u t H locs ht hvm hw hB hz1 hk1 hS => ?_)
    try dsimp only at hw
    have hm := hw
    have hP : va_P (dC, dI) vwCl (wM ad cy mti mow mjo mta mba mib mdi mab mbe mpl mbs mro mlo mth) H := cPost_P ht hB
    have hD : va_D A (wM ad cy mti mow mjo mta mba mib mdi mab mbe mpl mbs mro mlo mth) := cPost_D hFc hB
    refine lv_istore_n (lv' := [(2, .int r_3), (0, .ref (ad 0)), (1, .int x1)]) hx hb dX7_raises_23 rfl hl (by decide) rfl (fun ls hl => ?_)
    refine lv_iconst (v := 0) hx hb dX7_raises_24 (by decide) ?_
    refine lv_istore_n (lv' := [(3, .int (0 : Int32)), (2, .int r_3), (0, .ref (ad 0)), (1, .int x1)]) hx hb dX7_raises_25 rfl hl (by decide) rfl (fun ls hl => ?_)
    exact k_X7_raises_26 C0 N x1 r_3 (0 : Int32) mta mba mib mdi H locs ls hm ⟨hP, hD, hS⟩ (lv_sub hl [2, 3, 1, 0] rfl) hret
  · have hm := hm.2 c_2
    refine lv_aload_n hx hb dX7_raises_8 rfl (lv_at hl 0 rfl) ?_
    refine lv_aload_n hx hb dX7_raises_9 rfl (lv_at hl 0 rfl) ?_
    refine lv_iload_n hx hb dX7_raises_10 rfl (lv_at hl 1 rfl) ?_
    have hFc := va_freeSame hD hS hA
    refine va_calli (va_runV (As := [.int x1]) (rest := [.ref (ad 0)]) ⟨hx, hb, hml, hown, hts⟩ (c_X7_leaving l dC dI cy ad H.size mti mow mjo mta mba mib mdi mab mbe mpl mbs mro mlo mth x1 _ _ hm) (cwV 1 hts gX7_raises_X7_leaving rfl rfl rfl (by decide +kernel) ⟨Nat.le_of_ble_eq_true rfl, Nat.le_of_ble_eq_true rfl⟩) ⟨cPre_blind, va_recv hK hP (ci := 7) (q0 := 0) rfl rfl, fun U hU hW => ⟨rfl, cPre_at hP hK hD hN hU hW⟩⟩ rfl rfl hl.1 rfl (lv_room (Nat.le_of_ble_eq_true rfl)) dX7_raises_11 ⟨Nat.zero_le _, Nat.zero_le _⟩) hS (fun q _ h => hFc q h) hFc (fun r_4 u t H locs ht hvm hw hB hz1 hk1 hS => ?_)
    try dsimp only at hw
    have hm := hw
    have hP : va_P (dC, dI) vwCl (wM ad cy mti mow mjo mta mba mib mdi mab mbe mpl mbs mro mlo mth) H := cPost_P ht hB
    have hD : va_D A (wM ad cy mti mow mjo mta mba mib mdi mab mbe mpl mbs mro mlo mth) := cPost_D hFc hB
    refine lv_iload_n hx hb dX7_raises_14 rfl (lv_at hl 1 rfl) ?_
    have hFc := va_freeSame hD hS hA
    refine va_callv (va_runV (As := [.int r_4, .int x1]) (rest := []) ⟨hx, hb, hml, hown, hts⟩ (c_X7_pivots l dC dI cy ad H.size mti mow mjo mta mba mib mdi mab mbe mpl mbs mro mlo mth r_4 x1 _ _ hm) (cwV 2 hts gX7_raises_X7_pivots rfl rfl rfl (by decide +kernel) ⟨Nat.le_of_ble_eq_true rfl, Nat.le_of_ble_eq_true rfl⟩) ⟨cPre_blind, va_recv hK hP (ci := 7) (q0 := 0) rfl rfl, fun U hU hW => ⟨rfl, cPre_at hP hK hD hN hU hW⟩⟩ rfl rfl hl.1 rfl (lv_room (Nat.le_of_ble_eq_true rfl)) dX7_raises_15 ⟨Nat.zero_le _, Nat.zero_le _⟩) hS (fun q _ h => hFc q h) hFc (fun u t H locs ht hvm hw hB hz1 hk1 hS => ?_)
    obtain ⟨mta_5, mba_6, mdi_7⟩ := u
    try dsimp only at hw
    have hm := hw
    have hP : va_P (dC, dI) vwCl (wM ad cy mti mow mjo mta_5 mba_6 mib mdi_7 mab mbe mpl mbs mro mlo mth) H := cPost_P ht hB
    have hD : va_D A (wM ad cy mti mow mjo mta_5 mba_6 mib mdi_7 mab mbe mpl mbs mro mlo mth) := cPost_D hFc hB
    refine lv_aload_n hx hb dX7_raises_18 rfl (lv_at hl 0 rfl) ?_
    refine lv_iload_n hx hb dX7_raises_19 rfl (lv_at hl 1 rfl) ?_
    have hFc := va_freeSame hD hS hA
    refine va_calli (va_runV (As := [.int x1]) (rest := []) ⟨hx, hb, hml, hown, hts⟩ (c_X7_rowOf l dC dI cy ad H.size mti mow mjo mta_5 mba_6 mib mdi_7 mab mbe mpl mbs mro mlo mth x1 _ _ hm) (cwV 1 hts gX7_raises_X7_rowOf rfl rfl rfl (by decide +kernel) ⟨Nat.le_of_ble_eq_true rfl, Nat.le_of_ble_eq_true rfl⟩) ⟨cPre_blind, va_recv hK hP (ci := 7) (q0 := 0) rfl rfl, fun U hU hW => ⟨rfl, cPre_at hP hK hD hN hU hW⟩⟩ rfl rfl hl.1 rfl (lv_room (Nat.le_of_ble_eq_true rfl)) dX7_raises_20 ⟨Nat.zero_le _, Nat.zero_le _⟩) hS (fun q _ h => hFc q h) hFc (fun r_8 u t H locs ht hvm hw hB hz1 hk1 hS => ?_)
    try dsimp only at hw
    have hm := hw
    have hP : va_P (dC, dI) vwCl (wM ad cy mti mow mjo mta_5 mba_6 mib mdi_7 mab mbe mpl mbs mro mlo mth) H := cPost_P ht hB
    have hD : va_D A (wM ad cy mti mow mjo mta_5 mba_6 mib mdi_7 mab mbe mpl mbs mro mlo mth) := cPost_D hFc hB
    refine lv_istore_n (lv' := [(2, .int r_8), (0, .ref (ad 0)), (1, .int x1)]) hx hb dX7_raises_23 rfl hl (by decide) rfl (fun ls hl => ?_)
    refine lv_iconst (v := 0) hx hb dX7_raises_24 (by decide) ?_
    refine lv_istore_n (lv' := [(3, .int (0 : Int32)), (2, .int r_8), (0, .ref (ad 0)), (1, .int x1)]) hx hb dX7_raises_25 rfl hl (by decide) rfl (fun ls hl => ?_)
    exact k_X7_raises_26 C0 N x1 r_8 (0 : Int32) mta_5 mba_6 mib mdi_7 H locs ls hm ⟨hP, hD, hS⟩ (lv_sub hl [2, 3, 1, 0] rfl) hret

set_option maxHeartbeats 4000000 in
set_option maxRecDepth 100000 in
theorem c_X7_raises (l : Launch) (dC : Nat → ClassId) (dI : Nat → Nat → Nat) (cy : Nat → ClassId) (ad : Nat → Nat) (sz : Nat) (mti : Nat → Int32) (mow : Nat → Int32) (mjo : Int32) (mta : Nat → Int64) (mba : Nat → Int32) (mib : Nat → Int32) (mdi : Int64) (mab : Nat → Int64) (mbe : Nat → Int64) (mpl : Nat → Int32) (mbs : Nat → Int32) (mro : Nat → Int32) (mlo : Nat → Int32) (mth : Int32) (x1 : Int32) (N : Nat) (Q : (Nat → Int64) → (Nat → Int32) → (Nat → Int32) → Int64 → Prop) (hm : p_X7_raises N mjo Q x1 mta mba mib mdi) : Met l yX7_raises wsX7_raises rmX7_raises (va_Pc [.ref (ad 0), .int x1] (cPre dC dI cy (wM ad cy mti mow mjo mta mba mib mdi mab mbe mpl mbs mro mlo mth) sz)) (va_Qv (fun (u : (Nat → Int64) × (Nat → Int32) × (Nat → Int32) × Int64) => Q u.1 u.2.1 u.2.2.1 u.2.2.2) (fun u t => cPost dC dI cy (wM ad cy mti mow mjo mta mba mib mdi mab mbe mpl mbs mro mlo mth) sz (wM ad cy mti mow mjo (u.1) (u.2.1) (u.2.2.1) (u.2.2.2) mab mbe mpl mbs mro mlo mth) t) (va_A (wM ad cy mti mow mjo mta mba mib mdi mab mbe mpl mbs mro mlo mth) sz)) 0 0 (va_A (wM ad cy mti mow mjo mta mba mib mdi mab mbe mpl mbs mro mlo mth) sz) := by
  refine Met.ofW (cc := cX7_raises) (maxL := 5) (ret := none) (by decide) rfl ?_
  intro p e s m args below meth c s₁ B hml hv
  obtain ⟨rfl, hsz, hP, hK, hD0, hN⟩ := hv
  have hts := atoms_spec (ws := wsX7_raises) B.pre
  have hown : s.vm.findClass RX7 = some m.cls := findClass_of_methodNamed B.named
  subst hsz
  have hD := hD0.self (sz := s.heap.size)
  generalize hAe : va_A (wM ad cy mti mow mjo mta mba mib mdi mab mbe mpl mbs mro mlo mth) s.heap.size = A at hD ⊢
  have hA : ∀ q : Nat, s.heap.size ≤ q → A q := fun q h => by rw [← hAe]; exact Or.inr h
  have hl := lv_entry ([.ref (ad 0), .int x1]) (n := 5) (Nat.le_of_ble_eq_true rfl)
  rw [lg_entry_eq]
  generalize (lg_sl ([.ref (ad 0), .int x1]) ++ List.replicate (5 - (lg_sl ([.ref (ad 0), .int x1])).length) Slot.unset).toArray = ls at hl ⊢
  have hl : lv_has ls 5 [(0, .ref (ad 0)), (1, .int x1)] := hl
  exact k_X7_raises_0 ⟨B.exec, B.bytes, hml, B.returns, hown, hts, B.notSynchronized, hK, hA, hN⟩ x1 mta mba mib mdi s.heap [] ls hm ⟨hP, hD, va_S.rf⟩ (lv_sub hl [0, 1] rfl) (fun mta mba mib mdi H locs ls pc hdg hSt hq => W.vret B.exec B.bytes B.returns (fun t ht hW => ⟨⟨(mta, mba, mib, mdi), rfl, hq, cPost_of hAe ht hW.alike hSt hK⟩, hSt.2.2.F ht⟩) hSt.2.2.2.2 hdg B.notSynchronized)

-- ===== X7_common
abbrev rmX7_common : Room := { frames := 1, cells := 0, slots := 0, locals := 70 }
def p_X7_common_6 (N : Nat) (Q : Int64 → Prop) : Nat → Int64 → Int64 → Prop
  | 0 => fun _ _ => False
  | n + 1 => fun x4 x6 => (x6 = (0 : Int64) → (Q x4)) ∧ (¬ x6 = (0 : Int64) → ((¬ x6 = 0) ∧ (∀ x8_3 : Int64, x8_3 = x4 - x4 / x6 * x6 → (p_X7_common_6 N Q n x6 x8_3))))

def p_X7_common (N : Nat) (Q : Int64 → Prop) (x0 : Int64) (x2 : Int64) : Prop :=
  p_X7_common_6 N Q N x0 x2

set_option maxHeartbeats 4000000 in
set_option maxRecDepth 100000 in
theorem k_X7_common_6 {N : Nat} {mti : Nat → Int32} {mow : Nat → Int32} {mjo : Int32} {mta : Nat → Int64} {mba : Nat → Int32} {mib : Nat → Int32} {mdi : Int64} {mab : Nat → Int64} {mbe : Nat → Int64} {mpl : Nat → Int32} {mbs : Nat → Int32} {mro : Nat → Int32} {mlo : Nat → Int32} {mth : Int32} {Q : Int64 → Prop} (C0 : cxM cX7_common 10 (some .long) RX7 wsX7_common p s m args meth c dC dI cy A) :
    ∀ (n : Nat) (x4 : Int64) (x6 : Int64) (H : Heap) (locs : List Loc) (ls : Array Slot) (hm : p_X7_common_6 N Q n x4 x6) (hSt : stC dC dI A s (wM ad cy mti mow mjo mta mba mib mdi mab mbe mpl mbs mro mlo mth) H locs) (hl : lv_has ls 10 [(4, .long x4), (6, .long x6)]) (hret : ∀ (r : Int64) (H : Heap) (locs : List Loc) (ls : Array Slot) (pc : Nat), decode cX7_common pc = .ok (.lreturn, 1) → stC dC dI A s (wM ad cy mti mow mjo mta mba mib mdi mab mbe mpl mbs mro mlo mth) H locs → Q r → W p l e rmX7_common s m args below meth c H locs 0 0 Z (F0 m pc ls [.long r])), W p l e rmX7_common s m args below meth c H locs 0 0 Z (F0 m 6 ls []) := by
  obtain ⟨hx, hb, hml, hr, hown, hts, hlocks, hK, hA, hN⟩ := id C0
  intro n
  induction n with
  | zero => intro x4 x6 H locs ls hm; exact False.elim hm
  | succ n ih =>
    intro x4 x6 H locs ls hm hSt hl hret
    obtain ⟨hP, hD, hS⟩ := hSt
    unfold p_X7_common_6 at hm
    refine lv_lload hx hb dX7_common_6 (lv_at hl 1 rfl) ?_
    refine lv_lconst (v := 0) hx hb dX7_common_8 (by decide) ?_
    refine lq_eq (tgt := 31) hx hb dX7_common_9 dX7_common_10 (by decide) (fun c_1 => ?_) (fun c_1 => ?_)
    · have hm := hm.1 c_1
      refine lv_lload hx hb dX7_common_31 (lv_at hl 0 rfl) ?_
      exact hret x4 H locs ls 33 dX7_common_33 ⟨hP, hD, hS⟩ hm
    · have hm := hm.2 c_1
      refine lv_lload hx hb dX7_common_13 (lv_at hl 0 rfl) ?_
      refine lv_lload hx hb dX7_common_15 (lv_at hl 1 rfl) ?_
      have hz_2 := hm.1
      have hm := hm.2
      refine lv_lrem hx hb dX7_common_17 hz_2 ?_
      refine lv_topl (fun x8_3 ex8_3 => ?_)
      have hm := hm x8_3 ex8_3
      refine lv_lstore (lv' := [(8, .long x8_3), (4, .long x4), (6, .long x6)]) hx hb dX7_common_18 hl (by decide) rfl (fun ls hl => ?_)
      refine lv_lload hx hb dX7_common_20 (lv_at hl 2 rfl) ?_
      refine lv_lstore (lv' := [(4, .long x6), (8, .long x8_3), (6, .long x6)]) hx hb dX7_common_22 hl (by decide) rfl (fun ls hl => ?_)
      refine lv_lload hx hb dX7_common_24 (lv_at hl 1 rfl) ?_
      refine lv_lstore (lv' := [(6, .long x8_3), (4, .long x6), (8, .long x8_3)]) hx hb dX7_common_26 hl (by decide) rfl (fun ls hl => ?_)
      refine lv_goto (tgt := 6) hx hb dX7_common_28 (by decide) ?_
      exact ih x6 x8_3 H locs ls hm ⟨hP, hD, hS⟩ (lv_sub hl [1, 0] rfl) hret

set_option maxHeartbeats 4000000 in
set_option maxRecDepth 100000 in
theorem k_X7_common_0 {N : Nat} {mti : Nat → Int32} {mow : Nat → Int32} {mjo : Int32} {mta : Nat → Int64} {mba : Nat → Int32} {mib : Nat → Int32} {mdi : Int64} {mab : Nat → Int64} {mbe : Nat → Int64} {mpl : Nat → Int32} {mbs : Nat → Int32} {mro : Nat → Int32} {mlo : Nat → Int32} {mth : Int32} {Q : Int64 → Prop} (C0 : cxM cX7_common 10 (some .long) RX7 wsX7_common p s m args meth c dC dI cy A) :
    ∀ (x0 : Int64) (x2 : Int64) (H : Heap) (locs : List Loc) (ls : Array Slot) (hm : p_X7_common N Q x0 x2) (hSt : stC dC dI A s (wM ad cy mti mow mjo mta mba mib mdi mab mbe mpl mbs mro mlo mth) H locs) (hl : lv_has ls 10 [(0, .long x0), (2, .long x2)]) (hret : ∀ (r : Int64) (H : Heap) (locs : List Loc) (ls : Array Slot) (pc : Nat), decode cX7_common pc = .ok (.lreturn, 1) → stC dC dI A s (wM ad cy mti mow mjo mta mba mib mdi mab mbe mpl mbs mro mlo mth) H locs → Q r → W p l e rmX7_common s m args below meth c H locs 0 0 Z (F0 m pc ls [.long r])), W p l e rmX7_common s m args below meth c H locs 0 0 Z (F0 m 0 ls []) := by
  obtain ⟨hx, hb, hml, hr, hown, hts, hlocks, hK, hA, hN⟩ := id C0
  intro x0 x2 H locs ls hm hSt hl hret
  obtain ⟨hP, hD, hS⟩ := hSt
  unfold p_X7_common at hm
  refine lv_lload_n hx hb dX7_common_0 rfl (lv_at hl 0 rfl) ?_
  refine lv_lstore (lv' := [(4, .long x0), (0, .long x0), (2, .long x2)]) hx hb dX7_common_1 hl (by decide) rfl (fun ls hl => ?_)
  refine lv_lload_n hx hb dX7_common_3 rfl (lv_at hl 2 rfl) ?_
  refine lv_lstore (lv' := [(6, .long x2), (4, .long x0), (0, .long x0), (2, .long x2)]) hx hb dX7_common_4 hl (by decide) rfl (fun ls hl => ?_)
  exact k_X7_common_6 C0 N x0 x2 H locs ls hm ⟨hP, hD, hS⟩ (lv_sub hl [1, 0] rfl) hret

set_option maxHeartbeats 4000000 in
set_option maxRecDepth 100000 in
theorem c_X7_common (l : Launch) (dC : Nat → ClassId) (dI : Nat → Nat → Nat) (cy : Nat → ClassId) (ad : Nat → Nat) (sz : Nat) (mti : Nat → Int32) (mow : Nat → Int32) (mjo : Int32) (mta : Nat → Int64) (mba : Nat → Int32) (mib : Nat → Int32) (mdi : Int64) (mab : Nat → Int64) (mbe : Nat → Int64) (mpl : Nat → Int32) (mbs : Nat → Int32) (mro : Nat → Int32) (mlo : Nat → Int32) (mth : Int32) (x0 : Int64) (x2 : Int64) (N : Nat) (Q : Int64 → Prop) (hm : p_X7_common N Q x0 x2) : Met l yX7_common wsX7_common rmX7_common (va_Pc [.long x0, .long x2] (cPre dC dI cy (wM ad cy mti mow mjo mta mba mib mdi mab mbe mpl mbs mro mlo mth) sz)) (va_Ql (fun (r : Int64) (u : Unit) => Q r) (fun u t => cPost dC dI cy (wM ad cy mti mow mjo mta mba mib mdi mab mbe mpl mbs mro mlo mth) sz (wM ad cy mti mow mjo mta mba mib mdi mab mbe mpl mbs mro mlo mth) t) (va_A (wM ad cy mti mow mjo mta mba mib mdi mab mbe mpl mbs mro mlo mth) sz)) 0 0 (va_A (wM ad cy mti mow mjo mta mba mib mdi mab mbe mpl mbs mro mlo mth) sz) := by
  refine Met.ofW (cc := cX7_common) (maxL := 10) (ret := (some .long)) (by decide) rfl ?_
  intro p e s m args below meth c s₁ B hml hv
  obtain ⟨rfl, hsz, hP, hK, hD0, hN⟩ := hv
  have hts := atoms_spec (ws := wsX7_common) B.pre
  have hown : s.vm.findClass RX7 = some m.cls := findClass_of_methodNamed B.named
  subst hsz
  have hD := hD0.self (sz := s.heap.size)
  generalize hAe : va_A (wM ad cy mti mow mjo mta mba mib mdi mab mbe mpl mbs mro mlo mth) s.heap.size = A at hD ⊢
  have hA : ∀ q : Nat, s.heap.size ≤ q → A q := fun q h => by rw [← hAe]; exact Or.inr h
  have hl := lv_entry ([.long x0, .long x2]) (n := 10) (Nat.le_of_ble_eq_true rfl)
  rw [lg_entry_eq]
  generalize (lg_sl ([.long x0, .long x2]) ++ List.replicate (10 - (lg_sl ([.long x0, .long x2])).length) Slot.unset).toArray = ls at hl ⊢
  have hl : lv_has ls 10 [(0, .long x0), (2, .long x2)] := hl
  exact k_X7_common_0 ⟨B.exec, B.bytes, hml, B.returns, hown, hts, B.notSynchronized, hK, hA, hN⟩ x0 x2 s.heap [] ls hm ⟨hP, hD, va_S.rf⟩ (lv_sub hl [0, 1] rfl) (fun r H locs ls pc hdg hSt hq => W.lret B.exec B.bytes B.returns (fun t ht hW => ⟨⟨r, (), rfl, hq, cPost_of hAe ht hW.alike hSt hK⟩, hSt.2.2.F ht⟩) hSt.2.2.2.2 hdg B.notSynchronized)

-- ===== X7_divides
theorem fl_X7_divides_27 : Cond.fieldLink RX7 27 "UnlikeUnionModel" "above" "[J" ∈ wsX7_divides := by decide +kernel
theorem fl_X7_divides_30 : Cond.fieldLink RX7 30 "UnlikeUnionModel" "below" "[J" ∈ wsX7_divides := by decide +kernel
theorem fl_X7_divides_49 : Cond.fieldLink RX7 49 "UnlikeUnionModel" "jobs" "I" ∈ wsX7_divides := by decide +kernel
theorem fl_X7_divides_16 : Cond.fieldLink RX7 16 "UnlikeUnionModel" "table" "[J" ∈ wsX7_divides := by decide +kernel
theorem fl_X7_divides_84 : Cond.fieldLink RX7 84 "UnlikeUnionModel" "divisor" "J" ∈ wsX7_divides := by decide +kernel
theorem fl_X7_divides_23 : Cond.fieldLink RX7 23 "UnlikeUnionModel" "isBarred" "[Z" ∈ wsX7_divides := by decide +kernel
theorem in_X7_divides_X7 : ∀ w ∈ u_ws RX7 TX7 14, w ∈ wsX7_divides := by decide +kernel
abbrev rmX7_divides : Room := { frames := 6, cells := 0, slots := 0, locals := 475 }
def p_X7_divides_105 (N : Nat) (mti : Nat → Int32) (mjo : Int32) (Q : (Nat → Int64) → (Nat → Int32) → (Nat → Int32) → Int64 → (Nat → Int64) → (Nat → Int64) → Prop) : Nat → Int32 → (Nat → Int64) → (Nat → Int32) → (Nat → Int32) → Int64 → (Nat → Int64) → (Nat → Int64) → Prop
  | 0 => fun _ _ _ _ _ _ _ => False
  | n + 1 => fun x2 mta mba mib mdi mab mbe => (((3 : Int32) * mjo) ≤ x2 → (Q mta mba mib mdi mab mbe)) ∧ (¬ ((3 : Int32) * mjo) ≤ x2 → (p_X7_rowOf N mjo mba (fun r_2 => (0 ≤ r_2 → (vp_in (((27 : Int32) * r_2) + (26 : Int32)) 297 ∧ (∀ x4_5 : Int64, x4_5 = mta (((27 : Int32) * r_2) + (26 : Int32)).toNatClampNeg → (p_X7_common N (fun r_6 => (¬ r_6 = 0) ∧ (∀ f_8 : Int64, f_8 = x4_5 / r_6 → (vp_in x2 21 ∧ ((¬ r_6 = 0) ∧ (∀ f_11 : Int64, f_11 = mdi / r_6 → (vp_in x2 21 ∧ (∀ x2_13 : Int32, x2_13 = x2 + (1 : Int32) → (p_X7_divides_105 N mti mjo Q n x2_13 mta mba mib mdi (vp_updL mab (x2).toNatClampNeg f_8) (vp_updL mbe (x2).toNatClampNeg f_11))))))))) mdi x4_5)))) ∧ (¬ 0 ≤ r_2 → (p_X7_common N (fun r_14 => (¬ r_14 = 0) ∧ (∀ f_16 : Int64, f_16 = (0 : Int64) / r_14 → (vp_in x2 21 ∧ ((¬ r_14 = 0) ∧ (∀ f_19 : Int64, f_19 = mdi / r_14 → (vp_in x2 21 ∧ (∀ x2_21 : Int32, x2_21 = x2 + (1 : Int32) → (p_X7_divides_105 N mti mjo Q n x2_21 mta mba mib mdi (vp_updL mab (x2).toNatClampNeg f_16) (vp_updL mbe (x2).toNatClampNeg f_19))))))))) mdi (0 : Int64)))) x2))

def p_X7_divides_73 (N : Nat) (mti : Nat → Int32) (mjo : Int32) (Q : (Nat → Int64) → (Nat → Int32) → (Nat → Int32) → Int64 → (Nat → Int64) → (Nat → Int64) → Prop) : Nat → Int32 → (Nat → Int64) → (Nat → Int32) → (Nat → Int32) → Int64 → (Nat → Int64) → (Nat → Int64) → Prop
  | 0 => fun _ _ _ _ _ _ _ => False
  | n + 1 => fun x2 mta mba mib mdi mab mbe => (((3 : Int32) * mjo) ≤ x2 → (p_X7_divides_105 N mti mjo Q N (0 : Int32) mta mba mib mdi mab mbe)) ∧ (¬ ((3 : Int32) * mjo) ≤ x2 → (vp_in x2 26 ∧ (((mib (x2).toNatClampNeg) = 0 → (p_X7_raises N mjo (fun mta_5 mba_6 mib_7 mdi_8 => ∀ x2_9 : Int32, x2_9 = x2 + (1 : Int32) → (p_X7_divides_73 N mti mjo Q n x2_9 mta_5 mba_6 mib_7 mdi_8 mab mbe)) x2 mta mba mib mdi)) ∧ (¬ (mib (x2).toNatClampNeg) = 0 → (∀ x2_4 : Int32, x2_4 = x2 + (1 : Int32) → (p_X7_divides_73 N mti mjo Q n x2_4 mta mba mib mdi mab mbe))))))

def p_X7_divides_7 (N : Nat) (mti : Nat → Int32) (mjo : Int32) (Q : (Nat → Int64) → (Nat → Int32) → (Nat → Int32) → Int64 → (Nat → Int64) → (Nat → Int64) → Prop) : Nat → Int32 → Int32 → (Nat → Int64) → (Nat → Int32) → (Nat → Int32) → Int64 → (Nat → Int64) → (Nat → Int64) → Prop
  | 0 => fun _ _ _ _ _ _ _ _ => False
  | n + 1 => fun x1 x2 mta mba mib mdi mab mbe => ((21 : Int32) ≤ x2 → ((mjo ≤ 0 → (Q mta mba mib mdi mab mbe)) ∧ (¬ mjo ≤ 0 → (p_X7_rowOf N mjo mba (fun r_3 => vp_in (((27 : Int32) * r_3) + (26 : Int32)) 297 ∧ (∀ f_5 : Int64, f_5 = (mta (((27 : Int32) * r_3) + (26 : Int32)).toNatClampNeg) - ((((400 : Int32) - x1).toInt64) * mdi) → (vp_in (((27 : Int32) * r_3) + (26 : Int32)) 297 ∧ (p_X7_divides_73 N mti mjo Q N (0 : Int32) (vp_updL mta (((27 : Int32) * r_3) + (26 : Int32)).toNatClampNeg f_5) mba mib mdi mab mbe)))) (25 : Int32))))) ∧ (¬ (21 : Int32) ≤ x2 → (vp_in x2 21 ∧ (vp_in x2 21 ∧ (∀ x2_9 : Int32, x2_9 = x2 + (1 : Int32) → (p_X7_divides_7 N mti mjo Q n x1 x2_9 mta mba mib mdi (vp_updL mab (x2).toNatClampNeg (0 : Int64)) (vp_updL mbe (x2).toNatClampNeg (1 : Int64)))))))

def p_X7_divides (N : Nat) (mti : Nat → Int32) (mjo : Int32) (Q : (Nat → Int64) → (Nat → Int32) → (Nat → Int32) → Int64 → (Nat → Int64) → (Nat → Int64) → Prop) (mta : Nat → Int64) (mba : Nat → Int32) (mib : Nat → Int32) (mdi : Int64) (mab : Nat → Int64) (mbe : Nat → Int64) : Prop :=
  p_X7_boundOf N mti mjo (fun r_1 mta_2 mba_3 mib_4 mdi_5 => p_X7_divides_7 N mti mjo Q N r_1 (0 : Int32) mta_2 mba_3 mib_4 mdi_5 mab mbe) mta mba mib mdi

set_option maxHeartbeats 4000000 in
set_option maxRecDepth 100000 in
theorem k_X7_divides_105 {N : Nat} {mti : Nat → Int32} {mow : Nat → Int32} {mjo : Int32} {mpl : Nat → Int32} {mbs : Nat → Int32} {mro : Nat → Int32} {mlo : Nat → Int32} {mth : Int32} {Q : (Nat → Int64) → (Nat → Int32) → (Nat → Int32) → Int64 → (Nat → Int64) → (Nat → Int64) → Prop} (C0 : cxM cX7_divides 8 none RX7 wsX7_divides p s m args meth c dC dI cy A) :
    ∀ (n : Nat) (x2 : Int32) (mta : Nat → Int64) (mba : Nat → Int32) (mib : Nat → Int32) (mdi : Int64) (mab : Nat → Int64) (mbe : Nat → Int64) (H : Heap) (locs : List Loc) (ls : Array Slot) (hm : p_X7_divides_105 N mti mjo Q n x2 mta mba mib mdi mab mbe) (hSt : stC dC dI A s (wM ad cy mti mow mjo mta mba mib mdi mab mbe mpl mbs mro mlo mth) H locs) (hl : lv_has ls 8 [(0, .ref (ad 0)), (2, .int x2)]) (hret : ∀ (mta : Nat → Int64) (mba : Nat → Int32) (mib : Nat → Int32) (mdi : Int64) (mab : Nat → Int64) (mbe : Nat → Int64) (H : Heap) (locs : List Loc) (ls : Array Slot) (pc : Nat), decode cX7_divides pc = .ok (.return_, 1) → stC dC dI A s (wM ad cy mti mow mjo mta mba mib mdi mab mbe mpl mbs mro mlo mth) H locs → Q mta mba mib mdi mab mbe → W p l e rmX7_divides s m args below meth c H locs 0 0 Z (F0 m pc ls [])), W p l e rmX7_divides s m args below meth c H locs 0 0 Z (F0 m 105 ls []) := by
  obtain ⟨hx, hb, hml, hr, hown, hts, hlocks, hK, hA, hN⟩ := id C0
  intro n
  induction n with
  | zero => intro x2 mta mba mib mdi mab mbe H locs ls hm; exact False.elim hm
  | succ n ih =>
    intro x2 mta mba mib mdi mab mbe H locs ls hm hSt hl hret
    obtain ⟨hP, hD, hS⟩ := hSt
    unfold p_X7_divides_105 at hm
    refine lv_iload_n hx hb dX7_divides_105 rfl (lv_at hl 1 rfl) ?_
    refine lv_iconst (v := 3) hx hb dX7_divides_106 (by decide) ?_
    refine lv_aload_n hx hb dX7_divides_107 rfl (lv_at hl 0 rfl) ?_
    refine va_get (D := (dC, dI)) (ci := 7) (v := .int mjo) (C := RX7) (T := TX7) (N := 14) hx hb hts in_X7_divides_X7 hown hK hP 0 rfl rfl 2 (by decide) (hts _ fl_X7_divides_49) (fun _ h9 => h9) rfl dX7_divides_108 ?_
    refine lv_imul hx hb dX7_divides_111 ?_
    refine lv_icmp_ge (tgt := 184) hx hb dX7_divides_112 (by decide) (fun c_1 => ?_) (fun c_1 => ?_)
    · have hm := hm.1 c_1
      exact hret mta mba mib mdi mab mbe H locs ls 184 dX7_divides_184 ⟨hP, hD, hS⟩ hm
    · have hm := hm.2 c_1
      refine lv_aload_n hx hb dX7_divides_115 rfl (lv_at hl 0 rfl) ?_
      refine lv_iload_n hx hb dX7_divides_116 rfl (lv_at hl 1 rfl) ?_
      have hFc := va_freeSame hD hS hA
      refine va_calli (va_runV (As := [.int x2]) (rest := []) ⟨hx, hb, hml, hown, hts⟩ (c_X7_rowOf l dC dI cy ad H.size mti mow mjo mta mba mib mdi mab mbe mpl mbs mro mlo mth x2 _ _ hm) (cwV 1 hts gX7_divides_X7_rowOf rfl rfl rfl (by decide +kernel) ⟨Nat.le_of_ble_eq_true rfl, Nat.le_of_ble_eq_true rfl⟩) ⟨cPre_blind, va_recv hK hP (ci := 7) (q0 := 0) rfl rfl, fun U hU hW => ⟨rfl, cPre_at hP hK hD hN hU hW⟩⟩ rfl rfl hl.1 rfl (lv_room (Nat.le_of_ble_eq_true rfl)) dX7_divides_117 ⟨Nat.zero_le _, Nat.zero_le _⟩) hS (fun q _ h => hFc q h) hFc (fun r_2 u t H locs ht hvm hw hB hz1 hk1 hS => ?_)
      try dsimp only at hw
      have hm := hw
      have hP : va_P (dC, dI) vwCl (wM ad cy mti mow mjo mta mba mib mdi mab mbe mpl mbs mro mlo mth) H := cPost_P ht hB
      have hD : va_D A (wM ad cy mti mow mjo mta mba mib mdi mab mbe mpl mbs mro mlo mth) := cPost_D hFc hB
      refine lv_istore_n (lv' := [(3, .int r_2), (0, .ref (ad 0)), (2, .int x2)]) hx hb dX7_divides_120 rfl hl (by decide) rfl (fun ls hl => ?_)
      refine lv_iload_n hx hb dX7_divides_121 rfl (lv_at hl 0 rfl) ?_
      refine lv_if_ge (tgt := 129) hx hb dX7_divides_122 (by decide) (fun c_3 => ?_) (fun c_3 => ?_)
      · have hm := hm.1 c_3
        refine lv_aload_n hx hb dX7_divides_129 rfl (lv_at hl 1 rfl) ?_
        refine va_get (D := (dC, dI)) (ci := 7) (v := .ref (ad 3)) (C := RX7) (T := TX7) (N := 14) hx hb hts in_X7_divides_X7 hown hK hP 0 rfl rfl 3 (by decide) (hts _ fl_X7_divides_16) (fun _ h9 => h9) rfl dX7_divides_130 ?_
        refine lv_bipush (v := 27) hx hb dX7_divides_133 (by decide) ?_
        refine lv_iload_n hx hb dX7_divides_135 rfl (lv_at hl 0 rfl) ?_
        refine lv_imul hx hb dX7_divides_136 ?_
        refine lv_bipush (v := 26) hx hb dX7_divides_137 (by decide) ?_
        refine lv_iadd hx hb dX7_divides_139 ?_
        have hi_4 := hm.1
        have hm := hm.2
        refine va_lald hx hb hK hP 3 1 rfl rfl hi_4 dX7_divides_140 ?_
        refine lv_topl (fun x4_5 ex4_5 => ?_)
        have hm := hm x4_5 ex4_5
        refine lv_lstore (lv' := [(4, .long x4_5), (3, .int r_2), (0, .ref (ad 0)), (2, .int x2)]) hx hb dX7_divides_141 hl (by decide) rfl (fun ls hl => ?_)
        refine lv_aload_n hx hb dX7_divides_143 rfl (lv_at hl 2 rfl) ?_
        refine va_get (D := (dC, dI)) (ci := 7) (v := .long mdi) (C := RX7) (T := TX7) (N := 14) hx hb hts in_X7_divides_X7 hown hK hP 0 rfl rfl 6 (by decide) (hts _ fl_X7_divides_84) (fun _ h9 => h9) rfl dX7_divides_144 ?_
        refine lv_lload hx hb dX7_divides_147 (lv_at hl 0 rfl) ?_
        have hFc := va_freeSame hD hS hA
        refine va_calll (va_runS (As := [.long mdi, .long x4_5]) (rest := []) ⟨hx, hb, hml, hown, hts⟩ (c_X7_common l dC dI cy ad H.size mti mow mjo mta mba mib mdi mab mbe mpl mbs mro mlo mth mdi x4_5 _ _ hm) (cwS 2 hts gX7_divides_X7_common rfl rfl rfl (by decide +kernel) ⟨Nat.le_of_ble_eq_true rfl, Nat.le_of_ble_eq_true rfl⟩) ⟨cPre_blind, fun U hU hW => ⟨rfl, cPre_at hP hK hD hN hU hW⟩⟩ rfl rfl hl.1 rfl (lv_room (Nat.le_of_ble_eq_true rfl)) dX7_divides_149 ⟨Nat.zero_le _, Nat.zero_le _⟩) hS (fun q _ h => hFc q h) hFc (fun r_6 u t H locs ht hvm hw hB hz1 hk1 hS => ?_)
        try dsimp only at hw
        have hm := hw
        have hP : va_P (dC, dI) vwCl (wM ad cy mti mow mjo mta mba mib mdi mab mbe mpl mbs mro mlo mth) H := cPost_P ht hB
        have hD : va_D A (wM ad cy mti mow mjo mta mba mib mdi mab mbe mpl mbs mro mlo mth) := cPost_D hFc hB
        refine lv_lstore (lv' := [(6, .long r_6), (4, .long x4_5), (3, .int r_2), (0, .ref (ad 0)), (2, .int x2)]) hx hb dX7_divides_152 hl (by decide) rfl (fun ls hl => ?_)
        refine lv_aload_n hx hb dX7_divides_154 rfl (lv_at hl 3 rfl) ?_
        refine va_get (D := (dC, dI)) (ci := 7) (v := .ref (ad 6)) (C := RX7) (T := TX7) (N := 14) hx hb hts in_X7_divides_X7 hown hK hP 0 rfl rfl 7 (by decide) (hts _ fl_X7_divides_27) (fun _ h9 => h9) rfl dX7_divides_155 ?_
        refine lv_iload_n hx hb dX7_divides_158 rfl (lv_at hl 4 rfl) ?_
        refine lv_lload hx hb dX7_divides_159 (lv_at hl 1 rfl) ?_
        refine lv_lload hx hb dX7_divides_161 (lv_at hl 0 rfl) ?_
        have hz_7 := hm.1
        have hm := hm.2
        refine lv_ldiv hx hb dX7_divides_163 hz_7 ?_
        refine lv_topl (fun f_8 ef_8 => ?_)
        have hm := hm f_8 ef_8
        have hi_9 := hm.1
        have hm := hm.2
        refine va_last hx hb hK hP hD hS 6 1 rfl rfl hi_9 dX7_divides_164 (fun H locs hP hD hS => ?_)
        have hP : va_P (dC, dI) vwCl (wM ad cy mti mow mjo mta mba mib mdi (vp_updL mab (x2).toNatClampNeg f_8) mbe mpl mbs mro mlo mth) H := hP
        have hD : va_D A (wM ad cy mti mow mjo mta mba mib mdi (vp_updL mab (x2).toNatClampNeg f_8) mbe mpl mbs mro mlo mth) := hD
        refine lv_aload_n hx hb dX7_divides_165 rfl (lv_at hl 3 rfl) ?_
        refine va_get (D := (dC, dI)) (ci := 7) (v := .ref (ad 7)) (C := RX7) (T := TX7) (N := 14) hx hb hts in_X7_divides_X7 hown hK hP 0 rfl rfl 8 (by decide) (hts _ fl_X7_divides_30) (fun _ h9 => h9) rfl dX7_divides_166 ?_
        refine lv_iload_n hx hb dX7_divides_169 rfl (lv_at hl 4 rfl) ?_
        refine lv_aload_n hx hb dX7_divides_170 rfl (lv_at hl 3 rfl) ?_
        refine va_get (D := (dC, dI)) (ci := 7) (v := .long mdi) (C := RX7) (T := TX7) (N := 14) hx hb hts in_X7_divides_X7 hown hK hP 0 rfl rfl 6 (by decide) (hts _ fl_X7_divides_84) (fun _ h9 => h9) rfl dX7_divides_171 ?_
        refine lv_lload hx hb dX7_divides_174 (lv_at hl 0 rfl) ?_
        have hz_10 := hm.1
        have hm := hm.2
        refine lv_ldiv hx hb dX7_divides_176 hz_10 ?_
        refine lv_topl (fun f_11 ef_11 => ?_)
        have hm := hm f_11 ef_11
        have hi_12 := hm.1
        have hm := hm.2
        refine va_last hx hb hK hP hD hS 7 1 rfl rfl hi_12 dX7_divides_177 (fun H locs hP hD hS => ?_)
        have hP : va_P (dC, dI) vwCl (wM ad cy mti mow mjo mta mba mib mdi (vp_updL mab (x2).toNatClampNeg f_8) (vp_updL mbe (x2).toNatClampNeg f_11) mpl mbs mro mlo mth) H := hP
        have hD : va_D A (wM ad cy mti mow mjo mta mba mib mdi (vp_updL mab (x2).toNatClampNeg f_8) (vp_updL mbe (x2).toNatClampNeg f_11) mpl mbs mro mlo mth) := hD
        obtain ⟨x2_13, ex2_13⟩ : ∃ y : Int32, y = x2 + (1 : Int32) := ⟨_, rfl⟩
        have hm := hm x2_13 ex2_13
        refine lv_iinc (v := x2_13) (lv' := [(2, .int x2_13), (6, .long r_6), (4, .long x4_5), (3, .int r_2), (0, .ref (ad 0))]) hx hb dX7_divides_178 hl (k := 4) rfl (by rw [ex2_13]; rfl) (by decide) rfl (fun ls hl => ?_)
        refine lv_goto (tgt := 105) hx hb dX7_divides_181 (by decide) ?_
        exact ih x2_13 mta mba mib mdi (vp_updL mab (x2).toNatClampNeg f_8) (vp_updL mbe (x2).toNatClampNeg f_11) H locs ls hm ⟨hP, hD, hS⟩ (lv_sub hl [4, 0] rfl) hret
      · have hm := hm.2 c_3
        refine lv_lconst (v := 0) hx hb dX7_divides_125 (by decide) ?_
        refine lv_goto (tgt := 141) hx hb dX7_divides_126 (by decide) ?_
        refine lv_lstore (lv' := [(4, .long (0 : Int64)), (3, .int r_2), (0, .ref (ad 0)), (2, .int x2)]) hx hb dX7_divides_141 hl (by decide) rfl (fun ls hl => ?_)
        refine lv_aload_n hx hb dX7_divides_143 rfl (lv_at hl 2 rfl) ?_
        refine va_get (D := (dC, dI)) (ci := 7) (v := .long mdi) (C := RX7) (T := TX7) (N := 14) hx hb hts in_X7_divides_X7 hown hK hP 0 rfl rfl 6 (by decide) (hts _ fl_X7_divides_84) (fun _ h9 => h9) rfl dX7_divides_144 ?_
        refine lv_lload hx hb dX7_divides_147 (lv_at hl 0 rfl) ?_
        have hFc := va_freeSame hD hS hA
        refine va_calll (va_runS (As := [.long mdi, .long (0 : Int64)]) (rest := []) ⟨hx, hb, hml, hown, hts⟩ (c_X7_common l dC dI cy ad H.size mti mow mjo mta mba mib mdi mab mbe mpl mbs mro mlo mth mdi (0 : Int64) _ _ hm) (cwS 2 hts gX7_divides_X7_common rfl rfl rfl (by decide +kernel) ⟨Nat.le_of_ble_eq_true rfl, Nat.le_of_ble_eq_true rfl⟩) ⟨cPre_blind, fun U hU hW => ⟨rfl, cPre_at hP hK hD hN hU hW⟩⟩ rfl rfl hl.1 rfl (lv_room (Nat.le_of_ble_eq_true rfl)) dX7_divides_149 ⟨Nat.zero_le _, Nat.zero_le _⟩) hS (fun q _ h => hFc q h) hFc (fun r_14 u t H locs ht hvm hw hB hz1 hk1 hS => ?_)
        try dsimp only at hw
        have hm := hw
        have hP : va_P (dC, dI) vwCl (wM ad cy mti mow mjo mta mba mib mdi mab mbe mpl mbs mro mlo mth) H := cPost_P ht hB
        have hD : va_D A (wM ad cy mti mow mjo mta mba mib mdi mab mbe mpl mbs mro mlo mth) := cPost_D hFc hB
        refine lv_lstore (lv' := [(6, .long r_14), (4, .long (0 : Int64)), (3, .int r_2), (0, .ref (ad 0)), (2, .int x2)]) hx hb dX7_divides_152 hl (by decide) rfl (fun ls hl => ?_)
        refine lv_aload_n hx hb dX7_divides_154 rfl (lv_at hl 3 rfl) ?_
        refine va_get (D := (dC, dI)) (ci := 7) (v := .ref (ad 6)) (C := RX7) (T := TX7) (N := 14) hx hb hts in_X7_divides_X7 hown hK hP 0 rfl rfl 7 (by decide) (hts _ fl_X7_divides_27) (fun _ h9 => h9) rfl dX7_divides_155 ?_
        refine lv_iload_n hx hb dX7_divides_158 rfl (lv_at hl 4 rfl) ?_
        refine lv_lload hx hb dX7_divides_159 (lv_at hl 1 rfl) ?_
        refine lv_lload hx hb dX7_divides_161 (lv_at hl 0 rfl) ?_
        have hz_15 := hm.1
        have hm := hm.2
        refine lv_ldiv hx hb dX7_divides_163 hz_15 ?_
        refine lv_topl (fun f_16 ef_16 => ?_)
        have hm := hm f_16 ef_16
        have hi_17 := hm.1
        have hm := hm.2
        refine va_last hx hb hK hP hD hS 6 1 rfl rfl hi_17 dX7_divides_164 (fun H locs hP hD hS => ?_)
        have hP : va_P (dC, dI) vwCl (wM ad cy mti mow mjo mta mba mib mdi (vp_updL mab (x2).toNatClampNeg f_16) mbe mpl mbs mro mlo mth) H := hP
        have hD : va_D A (wM ad cy mti mow mjo mta mba mib mdi (vp_updL mab (x2).toNatClampNeg f_16) mbe mpl mbs mro mlo mth) := hD
        refine lv_aload_n hx hb dX7_divides_165 rfl (lv_at hl 3 rfl) ?_
        refine va_get (D := (dC, dI)) (ci := 7) (v := .ref (ad 7)) (C := RX7) (T := TX7) (N := 14) hx hb hts in_X7_divides_X7 hown hK hP 0 rfl rfl 8 (by decide) (hts _ fl_X7_divides_30) (fun _ h9 => h9) rfl dX7_divides_166 ?_
        refine lv_iload_n hx hb dX7_divides_169 rfl (lv_at hl 4 rfl) ?_
        refine lv_aload_n hx hb dX7_divides_170 rfl (lv_at hl 3 rfl) ?_
        refine va_get (D := (dC, dI)) (ci := 7) (v := .long mdi) (C := RX7) (T := TX7) (N := 14) hx hb hts in_X7_divides_X7 hown hK hP 0 rfl rfl 6 (by decide) (hts _ fl_X7_divides_84) (fun _ h9 => h9) rfl dX7_divides_171 ?_
        refine lv_lload hx hb dX7_divides_174 (lv_at hl 0 rfl) ?_
        have hz_18 := hm.1
        have hm := hm.2
        refine lv_ldiv hx hb dX7_divides_176 hz_18 ?_
        refine lv_topl (fun f_19 ef_19 => ?_)
        have hm := hm f_19 ef_19
        have hi_20 := hm.1
        have hm := hm.2
        refine va_last hx hb hK hP hD hS 7 1 rfl rfl hi_20 dX7_divides_177 (fun H locs hP hD hS => ?_)
        have hP : va_P (dC, dI) vwCl (wM ad cy mti mow mjo mta mba mib mdi (vp_updL mab (x2).toNatClampNeg f_16) (vp_updL mbe (x2).toNatClampNeg f_19) mpl mbs mro mlo mth) H := hP
        have hD : va_D A (wM ad cy mti mow mjo mta mba mib mdi (vp_updL mab (x2).toNatClampNeg f_16) (vp_updL mbe (x2).toNatClampNeg f_19) mpl mbs mro mlo mth) := hD
        obtain ⟨x2_21, ex2_21⟩ : ∃ y : Int32, y = x2 + (1 : Int32) := ⟨_, rfl⟩
        have hm := hm x2_21 ex2_21
        refine lv_iinc (v := x2_21) (lv' := [(2, .int x2_21), (6, .long r_14), (4, .long (0 : Int64)), (3, .int r_2), (0, .ref (ad 0))]) hx hb dX7_divides_178 hl (k := 4) rfl (by rw [ex2_21]; rfl) (by decide) rfl (fun ls hl => ?_)
        refine lv_goto (tgt := 105) hx hb dX7_divides_181 (by decide) ?_
        exact ih x2_21 mta mba mib mdi (vp_updL mab (x2).toNatClampNeg f_16) (vp_updL mbe (x2).toNatClampNeg f_19) H locs ls hm ⟨hP, hD, hS⟩ (lv_sub hl [4, 0] rfl) hret

set_option maxHeartbeats 4000000 in
set_option maxRecDepth 100000 in
theorem k_X7_divides_73 {N : Nat} {mti : Nat → Int32} {mow : Nat → Int32} {mjo : Int32} {mpl : Nat → Int32} {mbs : Nat → Int32} {mro : Nat → Int32} {mlo : Nat → Int32} {mth : Int32} {Q : (Nat → Int64) → (Nat → Int32) → (Nat → Int32) → Int64 → (Nat → Int64) → (Nat → Int64) → Prop} (C0 : cxM cX7_divides 8 none RX7 wsX7_divides p s m args meth c dC dI cy A) :
    ∀ (n : Nat) (x2 : Int32) (mta : Nat → Int64) (mba : Nat → Int32) (mib : Nat → Int32) (mdi : Int64) (mab : Nat → Int64) (mbe : Nat → Int64) (H : Heap) (locs : List Loc) (ls : Array Slot) (hm : p_X7_divides_73 N mti mjo Q n x2 mta mba mib mdi mab mbe) (hSt : stC dC dI A s (wM ad cy mti mow mjo mta mba mib mdi mab mbe mpl mbs mro mlo mth) H locs) (hl : lv_has ls 8 [(0, .ref (ad 0)), (2, .int x2)]) (hret : ∀ (mta : Nat → Int64) (mba : Nat → Int32) (mib : Nat → Int32) (mdi : Int64) (mab : Nat → Int64) (mbe : Nat → Int64) (H : Heap) (locs : List Loc) (ls : Array Slot) (pc : Nat), decode cX7_divides pc = .ok (.return_, 1) → stC dC dI A s (wM ad cy mti mow mjo mta mba mib mdi mab mbe mpl mbs mro mlo mth) H locs → Q mta mba mib mdi mab mbe → W p l e rmX7_divides s m args below meth c H locs 0 0 Z (F0 m pc ls [])), W p l e rmX7_divides s m args below meth c H locs 0 0 Z (F0 m 73 ls []) := by
  obtain ⟨hx, hb, hml, hr, hown, hts, hlocks, hK, hA, hN⟩ := id C0
  intro n
  induction n with
  | zero => intro x2 mta mba mib mdi mab mbe H locs ls hm; exact False.elim hm
  | succ n ih =>
    intro x2 mta mba mib mdi mab mbe H locs ls hm hSt hl hret
    obtain ⟨hP, hD, hS⟩ := hSt
    unfold p_X7_divides_73 at hm
    refine lv_iload_n hx hb dX7_divides_73 rfl (lv_at hl 1 rfl) ?_
    refine lv_iconst (v := 3) hx hb dX7_divides_74 (by decide) ?_
    refine lv_aload_n hx hb dX7_divides_75 rfl (lv_at hl 0 rfl) ?_
    refine va_get (D := (dC, dI)) (ci := 7) (v := .int mjo) (C := RX7) (T := TX7) (N := 14) hx hb hts in_X7_divides_X7 hown hK hP 0 rfl rfl 2 (by decide) (hts _ fl_X7_divides_49) (fun _ h9 => h9) rfl dX7_divides_76 ?_
    refine lv_imul hx hb dX7_divides_79 ?_
    refine lv_icmp_ge (tgt := 103) hx hb dX7_divides_80 (by decide) (fun c_1 => ?_) (fun c_1 => ?_)
    · have hm := hm.1 c_1
      refine lv_iconst (v := 0) hx hb dX7_divides_103 (by decide) ?_
      refine lv_istore_n (lv' := [(2, .int (0 : Int32)), (0, .ref (ad 0))]) hx hb dX7_divides_104 rfl hl (by decide) rfl (fun ls hl => ?_)
      exact k_X7_divides_105 C0 N (0 : Int32) mta mba mib mdi mab mbe H locs ls hm ⟨hP, hD, hS⟩ (lv_sub hl [1, 0] rfl) hret
    · have hm := hm.2 c_1
      refine lv_aload_n hx hb dX7_divides_83 rfl (lv_at hl 0 rfl) ?_
      refine va_get (D := (dC, dI)) (ci := 7) (v := .ref (ad 5)) (C := RX7) (T := TX7) (N := 14) hx hb hts in_X7_divides_X7 hown hK hP 0 rfl rfl 5 (by decide) (hts _ fl_X7_divides_23) (fun _ h9 => h9) rfl dX7_divides_84 ?_
      refine lv_iload_n hx hb dX7_divides_87 rfl (lv_at hl 1 rfl) ?_
      have hi_2 := hm.1
      have hm := hm.2
      refine va_zald hx hb hK hP 5 2 rfl rfl hi_2 dX7_divides_88 ?_
      refine lv_if_ne (tgt := 97) hx hb dX7_divides_89 (by decide) (fun c_3 => ?_) (fun c_3 => ?_)
      · have hm := hm.2 c_3
        obtain ⟨x2_4, ex2_4⟩ : ∃ y : Int32, y = x2 + (1 : Int32) := ⟨_, rfl⟩
        have hm := hm x2_4 ex2_4
        refine lv_iinc (v := x2_4) (lv' := [(2, .int x2_4), (0, .ref (ad 0))]) hx hb dX7_divides_97 hl (k := 1) rfl (by rw [ex2_4]; rfl) (by decide) rfl (fun ls hl => ?_)
        refine lv_goto (tgt := 73) hx hb dX7_divides_100 (by decide) ?_
        exact ih x2_4 mta mba mib mdi mab mbe H locs ls hm ⟨hP, hD, hS⟩ (lv_sub hl [1, 0] rfl) hret
      · have hm := hm.1 c_3
        refine lv_aload_n hx hb dX7_divides_92 rfl (lv_at hl 0 rfl) ?_
        refine lv_iload_n hx hb dX7_divides_93 rfl (lv_at hl 1 rfl) ?_
        have hFc := va_freeSame hD hS hA
        refine va_callv (va_runV (As := [.int x2]) (rest := []) ⟨hx, hb, hml, hown, hts⟩ (c_X7_raises l dC dI cy ad H.size mti mow mjo mta mba mib mdi mab mbe mpl mbs mro mlo mth x2 _ _ hm) (cwV 1 hts gX7_divides_X7_raises rfl rfl rfl (by decide +kernel) ⟨Nat.le_of_ble_eq_true rfl, Nat.le_of_ble_eq_true rfl⟩) ⟨cPre_blind, va_recv hK hP (ci := 7) (q0 := 0) rfl rfl, fun U hU hW => ⟨rfl, cPre_at hP hK hD hN hU hW⟩⟩ rfl rfl hl.1 rfl (lv_room (Nat.le_of_ble_eq_true rfl)) dX7_divides_94 ⟨Nat.zero_le _, Nat.zero_le _⟩) hS (fun q _ h => hFc q h) hFc (fun u t H locs ht hvm hw hB hz1 hk1 hS => ?_)
        obtain ⟨mta_5, mba_6, mib_7, mdi_8⟩ := u
        try dsimp only at hw
        have hm := hw
        have hP : va_P (dC, dI) vwCl (wM ad cy mti mow mjo mta_5 mba_6 mib_7 mdi_8 mab mbe mpl mbs mro mlo mth) H := cPost_P ht hB
        have hD : va_D A (wM ad cy mti mow mjo mta_5 mba_6 mib_7 mdi_8 mab mbe mpl mbs mro mlo mth) := cPost_D hFc hB
        obtain ⟨x2_9, ex2_9⟩ : ∃ y : Int32, y = x2 + (1 : Int32) := ⟨_, rfl⟩
        have hm := hm x2_9 ex2_9
        refine lv_iinc (v := x2_9) (lv' := [(2, .int x2_9), (0, .ref (ad 0))]) hx hb dX7_divides_97 hl (k := 1) rfl (by rw [ex2_9]; rfl) (by decide) rfl (fun ls hl => ?_)
        refine lv_goto (tgt := 73) hx hb dX7_divides_100 (by decide) ?_
        exact ih x2_9 mta_5 mba_6 mib_7 mdi_8 mab mbe H locs ls hm ⟨hP, hD, hS⟩ (lv_sub hl [1, 0] rfl) hret

set_option maxHeartbeats 4000000 in
set_option maxRecDepth 100000 in
theorem k_X7_divides_7 {N : Nat} {mti : Nat → Int32} {mow : Nat → Int32} {mjo : Int32} {mpl : Nat → Int32} {mbs : Nat → Int32} {mro : Nat → Int32} {mlo : Nat → Int32} {mth : Int32} {Q : (Nat → Int64) → (Nat → Int32) → (Nat → Int32) → Int64 → (Nat → Int64) → (Nat → Int64) → Prop} (C0 : cxM cX7_divides 8 none RX7 wsX7_divides p s m args meth c dC dI cy A) :
    ∀ (n : Nat) (x1 : Int32) (x2 : Int32) (mta : Nat → Int64) (mba : Nat → Int32) (mib : Nat → Int32) (mdi : Int64) (mab : Nat → Int64) (mbe : Nat → Int64) (H : Heap) (locs : List Loc) (ls : Array Slot) (hm : p_X7_divides_7 N mti mjo Q n x1 x2 mta mba mib mdi mab mbe) (hSt : stC dC dI A s (wM ad cy mti mow mjo mta mba mib mdi mab mbe mpl mbs mro mlo mth) H locs) (hl : lv_has ls 8 [(0, .ref (ad 0)), (1, .int x1), (2, .int x2)]) (hret : ∀ (mta : Nat → Int64) (mba : Nat → Int32) (mib : Nat → Int32) (mdi : Int64) (mab : Nat → Int64) (mbe : Nat → Int64) (H : Heap) (locs : List Loc) (ls : Array Slot) (pc : Nat), decode cX7_divides pc = .ok (.return_, 1) → stC dC dI A s (wM ad cy mti mow mjo mta mba mib mdi mab mbe mpl mbs mro mlo mth) H locs → Q mta mba mib mdi mab mbe → W p l e rmX7_divides s m args below meth c H locs 0 0 Z (F0 m pc ls [])), W p l e rmX7_divides s m args below meth c H locs 0 0 Z (F0 m 7 ls []) := by
  obtain ⟨hx, hb, hml, hr, hown, hts, hlocks, hK, hA, hN⟩ := id C0
  intro n
  induction n with
  | zero => intro x1 x2 mta mba mib mdi mab mbe H locs ls hm; exact False.elim hm
  | succ n ih =>
    intro x1 x2 mta mba mib mdi mab mbe H locs ls hm hSt hl hret
    obtain ⟨hP, hD, hS⟩ := hSt
    unfold p_X7_divides_7 at hm
    refine lv_iload_n hx hb dX7_divides_7 rfl (lv_at hl 2 rfl) ?_
    refine lv_bipush (v := 21) hx hb dX7_divides_8 (by decide) ?_
    refine lv_icmp_ge (tgt := 33) hx hb dX7_divides_10 (by decide) (fun c_1 => ?_) (fun c_1 => ?_)
    · have hm := hm.1 c_1
      refine lv_aload_n hx hb dX7_divides_33 rfl (lv_at hl 0 rfl) ?_
      refine va_get (D := (dC, dI)) (ci := 7) (v := .int mjo) (C := RX7) (T := TX7) (N := 14) hx hb hts in_X7_divides_X7 hown hK hP 0 rfl rfl 2 (by decide) (hts _ fl_X7_divides_49) (fun _ h9 => h9) rfl dX7_divides_34 ?_
      refine lv_if_le (tgt := 184) hx hb dX7_divides_37 (by decide) (fun c_2 => ?_) (fun c_2 => ?_)
      · have hm := hm.1 c_2
        exact hret mta mba mib mdi mab mbe H locs ls 184 dX7_divides_184 ⟨hP, hD, hS⟩ hm
      · have hm := hm.2 c_2
        refine lv_aload_n hx hb dX7_divides_40 rfl (lv_at hl 0 rfl) ?_
        refine va_get (D := (dC, dI)) (ci := 7) (v := .ref (ad 3)) (C := RX7) (T := TX7) (N := 14) hx hb hts in_X7_divides_X7 hown hK hP 0 rfl rfl 3 (by decide) (hts _ fl_X7_divides_16) (fun _ h9 => h9) rfl dX7_divides_41 ?_
        refine lv_bipush (v := 27) hx hb dX7_divides_44 (by decide) ?_
        refine lv_aload_n hx hb dX7_divides_46 rfl (lv_at hl 0 rfl) ?_
        refine lv_bipush (v := 25) hx hb dX7_divides_47 (by decide) ?_
        have hFc := va_freeSame hD hS hA
        refine va_calli (va_runV (As := [.int (25 : Int32)]) (rest := [.int (27 : Int32), .ref (ad 3)]) ⟨hx, hb, hml, hown, hts⟩ (c_X7_rowOf l dC dI cy ad H.size mti mow mjo mta mba mib mdi mab mbe mpl mbs mro mlo mth (25 : Int32) _ _ hm) (cwV 1 hts gX7_divides_X7_rowOf rfl rfl rfl (by decide +kernel) ⟨Nat.le_of_ble_eq_true rfl, Nat.le_of_ble_eq_true rfl⟩) ⟨cPre_blind, va_recv hK hP (ci := 7) (q0 := 0) rfl rfl, fun U hU hW => ⟨rfl, cPre_at hP hK hD hN hU hW⟩⟩ rfl rfl hl.1 rfl (lv_room (Nat.le_of_ble_eq_true rfl)) dX7_divides_49 ⟨Nat.zero_le _, Nat.zero_le _⟩) hS (fun q _ h => hFc q h) hFc (fun r_3 u t H locs ht hvm hw hB hz1 hk1 hS => ?_)
        try dsimp only at hw
        have hm := hw
        have hP : va_P (dC, dI) vwCl (wM ad cy mti mow mjo mta mba mib mdi mab mbe mpl mbs mro mlo mth) H := cPost_P ht hB
        have hD : va_D A (wM ad cy mti mow mjo mta mba mib mdi mab mbe mpl mbs mro mlo mth) := cPost_D hFc hB
        refine lv_imul hx hb dX7_divides_52 ?_
        refine lv_bipush (v := 26) hx hb dX7_divides_53 (by decide) ?_
        refine lv_iadd hx hb dX7_divides_55 ?_
        refine lv_dup2_11 hx hb dX7_divides_56 rfl rfl ?_
        have hi_4 := hm.1
        have hm := hm.2
        refine va_lald hx hb hK hP 3 1 rfl rfl hi_4 dX7_divides_57 ?_
        refine lv_sipush (v := 400) hx hb dX7_divides_58 (by decide) ?_
        refine lv_iload_n hx hb dX7_divides_61 rfl (lv_at hl 1 rfl) ?_
        refine lv_isub hx hb dX7_divides_62 ?_
        refine lv_i2l (v := ((400 : Int32) - x1).toInt64) hx hb dX7_divides_63 rfl ?_
        refine lv_aload_n hx hb dX7_divides_64 rfl (lv_at hl 0 rfl) ?_
        refine va_get (D := (dC, dI)) (ci := 7) (v := .long mdi) (C := RX7) (T := TX7) (N := 14) hx hb hts in_X7_divides_X7 hown hK hP 0 rfl rfl 6 (by decide) (hts _ fl_X7_divides_84) (fun _ h9 => h9) rfl dX7_divides_65 ?_
        refine lv_lmul hx hb dX7_divides_68 ?_
        refine lv_lsub hx hb dX7_divides_69 ?_
        refine lv_topl (fun f_5 ef_5 => ?_)
        have hm := hm f_5 ef_5
        have hi_6 := hm.1
        have hm := hm.2
        refine va_last hx hb hK hP hD hS 3 1 rfl rfl hi_6 dX7_divides_70 (fun H locs hP hD hS => ?_)
        have hP : va_P (dC, dI) vwCl (wM ad cy mti mow mjo (vp_updL mta (((27 : Int32) * r_3) + (26 : Int32)).toNatClampNeg f_5) mba mib mdi mab mbe mpl mbs mro mlo mth) H := hP
        have hD : va_D A (wM ad cy mti mow mjo (vp_updL mta (((27 : Int32) * r_3) + (26 : Int32)).toNatClampNeg f_5) mba mib mdi mab mbe mpl mbs mro mlo mth) := hD
        refine lv_iconst (v := 0) hx hb dX7_divides_71 (by decide) ?_
        refine lv_istore_n (lv' := [(2, .int (0 : Int32)), (0, .ref (ad 0)), (1, .int x1)]) hx hb dX7_divides_72 rfl hl (by decide) rfl (fun ls hl => ?_)
        exact k_X7_divides_73 C0 N (0 : Int32) (vp_updL mta (((27 : Int32) * r_3) + (26 : Int32)).toNatClampNeg f_5) mba mib mdi mab mbe H locs ls hm ⟨hP, hD, hS⟩ (lv_sub hl [1, 0] rfl) hret
    · have hm := hm.2 c_1
      refine lv_aload_n hx hb dX7_divides_13 rfl (lv_at hl 0 rfl) ?_
      refine va_get (D := (dC, dI)) (ci := 7) (v := .ref (ad 6)) (C := RX7) (T := TX7) (N := 14) hx hb hts in_X7_divides_X7 hown hK hP 0 rfl rfl 7 (by decide) (hts _ fl_X7_divides_27) (fun _ h9 => h9) rfl dX7_divides_14 ?_
      refine lv_iload_n hx hb dX7_divides_17 rfl (lv_at hl 2 rfl) ?_
      refine lv_lconst (v := 0) hx hb dX7_divides_18 (by decide) ?_
      have hi_7 := hm.1
      have hm := hm.2
      refine va_last hx hb hK hP hD hS 6 1 rfl rfl hi_7 dX7_divides_19 (fun H locs hP hD hS => ?_)
      have hP : va_P (dC, dI) vwCl (wM ad cy mti mow mjo mta mba mib mdi (vp_updL mab (x2).toNatClampNeg (0 : Int64)) mbe mpl mbs mro mlo mth) H := hP
      have hD : va_D A (wM ad cy mti mow mjo mta mba mib mdi (vp_updL mab (x2).toNatClampNeg (0 : Int64)) mbe mpl mbs mro mlo mth) := hD
      refine lv_aload_n hx hb dX7_divides_20 rfl (lv_at hl 0 rfl) ?_
      refine va_get (D := (dC, dI)) (ci := 7) (v := .ref (ad 7)) (C := RX7) (T := TX7) (N := 14) hx hb hts in_X7_divides_X7 hown hK hP 0 rfl rfl 8 (by decide) (hts _ fl_X7_divides_30) (fun _ h9 => h9) rfl dX7_divides_21 ?_
      refine lv_iload_n hx hb dX7_divides_24 rfl (lv_at hl 2 rfl) ?_
      refine lv_lconst (v := 1) hx hb dX7_divides_25 (by decide) ?_
      have hi_8 := hm.1
      have hm := hm.2
      refine va_last hx hb hK hP hD hS 7 1 rfl rfl hi_8 dX7_divides_26 (fun H locs hP hD hS => ?_)
      have hP : va_P (dC, dI) vwCl (wM ad cy mti mow mjo mta mba mib mdi (vp_updL mab (x2).toNatClampNeg (0 : Int64)) (vp_updL mbe (x2).toNatClampNeg (1 : Int64)) mpl mbs mro mlo mth) H := hP
      have hD : va_D A (wM ad cy mti mow mjo mta mba mib mdi (vp_updL mab (x2).toNatClampNeg (0 : Int64)) (vp_updL mbe (x2).toNatClampNeg (1 : Int64)) mpl mbs mro mlo mth) := hD
      obtain ⟨x2_9, ex2_9⟩ : ∃ y : Int32, y = x2 + (1 : Int32) := ⟨_, rfl⟩
      have hm := hm x2_9 ex2_9
      refine lv_iinc (v := x2_9) (lv' := [(2, .int x2_9), (0, .ref (ad 0)), (1, .int x1)]) hx hb dX7_divides_27 hl (k := 2) rfl (by rw [ex2_9]; rfl) (by decide) rfl (fun ls hl => ?_)
      refine lv_goto (tgt := 7) hx hb dX7_divides_30 (by decide) ?_
      exact ih x1 x2_9 mta mba mib mdi (vp_updL mab (x2).toNatClampNeg (0 : Int64)) (vp_updL mbe (x2).toNatClampNeg (1 : Int64)) H locs ls hm ⟨hP, hD, hS⟩ (lv_sub hl [1, 2, 0] rfl) hret

set_option maxHeartbeats 4000000 in
set_option maxRecDepth 100000 in
theorem k_X7_divides_0 {N : Nat} {mti : Nat → Int32} {mow : Nat → Int32} {mjo : Int32} {mpl : Nat → Int32} {mbs : Nat → Int32} {mro : Nat → Int32} {mlo : Nat → Int32} {mth : Int32} {Q : (Nat → Int64) → (Nat → Int32) → (Nat → Int32) → Int64 → (Nat → Int64) → (Nat → Int64) → Prop} (C0 : cxM cX7_divides 8 none RX7 wsX7_divides p s m args meth c dC dI cy A) :
    ∀ (mta : Nat → Int64) (mba : Nat → Int32) (mib : Nat → Int32) (mdi : Int64) (mab : Nat → Int64) (mbe : Nat → Int64) (H : Heap) (locs : List Loc) (ls : Array Slot) (hm : p_X7_divides N mti mjo Q mta mba mib mdi mab mbe) (hSt : stC dC dI A s (wM ad cy mti mow mjo mta mba mib mdi mab mbe mpl mbs mro mlo mth) H locs) (hl : lv_has ls 8 [(0, .ref (ad 0))]) (hret : ∀ (mta : Nat → Int64) (mba : Nat → Int32) (mib : Nat → Int32) (mdi : Int64) (mab : Nat → Int64) (mbe : Nat → Int64) (H : Heap) (locs : List Loc) (ls : Array Slot) (pc : Nat), decode cX7_divides pc = .ok (.return_, 1) → stC dC dI A s (wM ad cy mti mow mjo mta mba mib mdi mab mbe mpl mbs mro mlo mth) H locs → Q mta mba mib mdi mab mbe → W p l e rmX7_divides s m args below meth c H locs 0 0 Z (F0 m pc ls [])), W p l e rmX7_divides s m args below meth c H locs 0 0 Z (F0 m 0 ls []) := by
  obtain ⟨hx, hb, hml, hr, hown, hts, hlocks, hK, hA, hN⟩ := id C0
  intro mta mba mib mdi mab mbe H locs ls hm hSt hl hret
  obtain ⟨hP, hD, hS⟩ := hSt
  unfold p_X7_divides at hm
  refine lv_aload_n hx hb dX7_divides_0 rfl (lv_at hl 0 rfl) ?_
  have hFc := va_freeSame hD hS hA
  refine va_calli (va_runV (As := []) (rest := []) ⟨hx, hb, hml, hown, hts⟩ (c_X7_boundOf l dC dI cy ad H.size mti mow mjo mta mba mib mdi mab mbe mpl mbs mro mlo mth  _ _ hm) (cwV 0 hts gX7_divides_X7_boundOf rfl rfl rfl (by decide +kernel) ⟨Nat.le_of_ble_eq_true rfl, Nat.le_of_ble_eq_true rfl⟩) ⟨cPre_blind, va_recv hK hP (ci := 7) (q0 := 0) rfl rfl, fun U hU hW => ⟨rfl, cPre_at hP hK hD hN hU hW⟩⟩ rfl rfl hl.1 rfl (lv_room (Nat.le_of_ble_eq_true rfl)) dX7_divides_1 ⟨Nat.zero_le _, Nat.zero_le _⟩) hS (fun q _ h => hFc q h) hFc (fun r_1 u t H locs ht hvm hw hB hz1 hk1 hS => ?_)
  obtain ⟨mta_2, mba_3, mib_4, mdi_5⟩ := u
  try dsimp only at hw
  have hm := hw
  have hP : va_P (dC, dI) vwCl (wM ad cy mti mow mjo mta_2 mba_3 mib_4 mdi_5 mab mbe mpl mbs mro mlo mth) H := cPost_P ht hB
  have hD : va_D A (wM ad cy mti mow mjo mta_2 mba_3 mib_4 mdi_5 mab mbe mpl mbs mro mlo mth) := cPost_D hFc hB
  refine lv_istore_n (lv' := [(1, .int r_1), (0, .ref (ad 0))]) hx hb dX7_divides_4 rfl hl (by decide) rfl (fun ls hl => ?_)
  refine lv_iconst (v := 0) hx hb dX7_divides_5 (by decide) ?_
  refine lv_istore_n (lv' := [(2, .int (0 : Int32)), (1, .int r_1), (0, .ref (ad 0))]) hx hb dX7_divides_6 rfl hl (by decide) rfl (fun ls hl => ?_)
  exact k_X7_divides_7 C0 N r_1 (0 : Int32) mta_2 mba_3 mib_4 mdi_5 mab mbe H locs ls hm ⟨hP, hD, hS⟩ (lv_sub hl [2, 1, 0] rfl) hret

set_option maxHeartbeats 4000000 in
set_option maxRecDepth 100000 in
theorem c_X7_divides (l : Launch) (dC : Nat → ClassId) (dI : Nat → Nat → Nat) (cy : Nat → ClassId) (ad : Nat → Nat) (sz : Nat) (mti : Nat → Int32) (mow : Nat → Int32) (mjo : Int32) (mta : Nat → Int64) (mba : Nat → Int32) (mib : Nat → Int32) (mdi : Int64) (mab : Nat → Int64) (mbe : Nat → Int64) (mpl : Nat → Int32) (mbs : Nat → Int32) (mro : Nat → Int32) (mlo : Nat → Int32) (mth : Int32)  (N : Nat) (Q : (Nat → Int64) → (Nat → Int32) → (Nat → Int32) → Int64 → (Nat → Int64) → (Nat → Int64) → Prop) (hm : p_X7_divides N mti mjo Q mta mba mib mdi mab mbe) : Met l yX7_divides wsX7_divides rmX7_divides (va_Pc [.ref (ad 0)] (cPre dC dI cy (wM ad cy mti mow mjo mta mba mib mdi mab mbe mpl mbs mro mlo mth) sz)) (va_Qv (fun (u : (Nat → Int64) × (Nat → Int32) × (Nat → Int32) × Int64 × (Nat → Int64) × (Nat → Int64)) => Q u.1 u.2.1 u.2.2.1 u.2.2.2.1 u.2.2.2.2.1 u.2.2.2.2.2) (fun u t => cPost dC dI cy (wM ad cy mti mow mjo mta mba mib mdi mab mbe mpl mbs mro mlo mth) sz (wM ad cy mti mow mjo (u.1) (u.2.1) (u.2.2.1) (u.2.2.2.1) (u.2.2.2.2.1) (u.2.2.2.2.2) mpl mbs mro mlo mth) t) (va_A (wM ad cy mti mow mjo mta mba mib mdi mab mbe mpl mbs mro mlo mth) sz)) 0 0 (va_A (wM ad cy mti mow mjo mta mba mib mdi mab mbe mpl mbs mro mlo mth) sz) := by
  refine Met.ofW (cc := cX7_divides) (maxL := 8) (ret := none) (by decide) rfl ?_
  intro p e s m args below meth c s₁ B hml hv
  obtain ⟨rfl, hsz, hP, hK, hD0, hN⟩ := hv
  have hts := atoms_spec (ws := wsX7_divides) B.pre
  have hown : s.vm.findClass RX7 = some m.cls := findClass_of_methodNamed B.named
  subst hsz
  have hD := hD0.self (sz := s.heap.size)
  generalize hAe : va_A (wM ad cy mti mow mjo mta mba mib mdi mab mbe mpl mbs mro mlo mth) s.heap.size = A at hD ⊢
  have hA : ∀ q : Nat, s.heap.size ≤ q → A q := fun q h => by rw [← hAe]; exact Or.inr h
  have hl := lv_entry ([.ref (ad 0)]) (n := 8) (Nat.le_of_ble_eq_true rfl)
  rw [lg_entry_eq]
  generalize (lg_sl ([.ref (ad 0)]) ++ List.replicate (8 - (lg_sl ([.ref (ad 0)])).length) Slot.unset).toArray = ls at hl ⊢
  have hl : lv_has ls 8 [(0, .ref (ad 0))] := hl
  exact k_X7_divides_0 ⟨B.exec, B.bytes, hml, B.returns, hown, hts, B.notSynchronized, hK, hA, hN⟩ mta mba mib mdi mab mbe s.heap [] ls hm ⟨hP, hD, va_S.rf⟩ (lv_sub hl [0] rfl) (fun mta mba mib mdi mab mbe H locs ls pc hdg hSt hq => W.vret B.exec B.bytes B.returns (fun t ht hW => ⟨⟨(mta, mba, mib, mdi, mab, mbe), rfl, hq, cPost_of hAe ht hW.alike hSt hK⟩, hSt.2.2.F ht⟩) hSt.2.2.2.2 hdg B.notSynchronized)
