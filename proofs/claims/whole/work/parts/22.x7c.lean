variable {p : Program} {l : Launch} {e : Env} {s : State} {m : MethodId} {args : Array Value} {below : List Frame} {meth : Method} {c : Code} {dC : Nat → ClassId} {dI : Nat → Nat → Nat} {cy : Nat → ClassId} {ad : Nat → Nat} {A : Nat → Prop} {Z : State → Prop}
-- ===== X7_rows
theorem fl_X7_rows_49 : Cond.fieldLink RX7 49 "UnlikeUnionModel" "jobs" "I" ∈ wsX7_rows := by decide +kernel
theorem in_X7_rows_X7 : ∀ w ∈ u_ws RX7 TX7 14, w ∈ wsX7_rows := by decide +kernel
abbrev rmX7_rows : Room := { frames := 1, cells := 0, slots := 0, locals := 61 }
def p_X7_rows (N : Nat) (mjo : Int32) (Q : Int32 → Prop)  : Prop :=
  Q ((mjo + (3 : Int32)) + (1 : Int32))

set_option maxHeartbeats 4000000 in
set_option maxRecDepth 100000 in
theorem k_X7_rows_0 {N : Nat} {mti : Nat → Int32} {mow : Nat → Int32} {mjo : Int32} {mta : Nat → Int64} {mba : Nat → Int32} {mib : Nat → Int32} {mdi : Int64} {mab : Nat → Int64} {mbe : Nat → Int64} {mpl : Nat → Int32} {mbs : Nat → Int32} {mro : Nat → Int32} {mlo : Nat → Int32} {mth : Int32} {Q : Int32 → Prop} (C0 : cxM cX7_rows 1 (some .int) RX7 wsX7_rows p s m args meth c dC dI cy A) :
    ∀  (H : Heap) (locs : List Loc) (ls : Array Slot) (hm : p_X7_rows N mjo Q ) (hSt : stC dC dI A s (wM ad cy mti mow mjo mta mba mib mdi mab mbe mpl mbs mro mlo mth) H locs) (hl : lv_has ls 1 [(0, .ref (ad 0))]) (hret : ∀ (r : Int32) (H : Heap) (locs : List Loc) (ls : Array Slot) (pc : Nat), decode cX7_rows pc = .ok (.ireturn, 1) → stC dC dI A s (wM ad cy mti mow mjo mta mba mib mdi mab mbe mpl mbs mro mlo mth) H locs → Q r → W p l e rmX7_rows s m args below meth c H locs 0 0 Z (F0 m pc ls [.int r])), W p l e rmX7_rows s m args below meth c H locs 0 0 Z (F0 m 0 ls []) := by
  obtain ⟨hx, hb, hml, hr, hown, hts, hlocks, hK, hA, hN⟩ := id C0
  intro  H locs ls hm hSt hl hret
  obtain ⟨hP, hD, hS⟩ := hSt
  unfold p_X7_rows at hm
  refine lv_aload_n hx hb dX7_rows_0 rfl (lv_at hl 0 rfl) ?_
  refine va_get (D := (dC, dI)) (ci := 7) (v := .int mjo) (C := RX7) (T := TX7) (N := 14) hx hb hts in_X7_rows_X7 hown hK hP 0 rfl rfl 2 (by decide) (hts _ fl_X7_rows_49) (fun _ h9 => h9) rfl dX7_rows_1 ?_
  refine lv_iconst (v := 3) hx hb dX7_rows_4 (by decide) ?_
  refine lv_iadd hx hb dX7_rows_5 ?_
  refine lv_iconst (v := 1) hx hb dX7_rows_6 (by decide) ?_
  refine lv_iadd hx hb dX7_rows_7 ?_
  exact hret ((mjo + (3 : Int32)) + (1 : Int32)) H locs ls 8 dX7_rows_8 ⟨hP, hD, hS⟩ hm

set_option maxHeartbeats 4000000 in
set_option maxRecDepth 100000 in
theorem c_X7_rows (l : Launch) (dC : Nat → ClassId) (dI : Nat → Nat → Nat) (cy : Nat → ClassId) (ad : Nat → Nat) (sz : Nat) (mti : Nat → Int32) (mow : Nat → Int32) (mjo : Int32) (mta : Nat → Int64) (mba : Nat → Int32) (mib : Nat → Int32) (mdi : Int64) (mab : Nat → Int64) (mbe : Nat → Int64) (mpl : Nat → Int32) (mbs : Nat → Int32) (mro : Nat → Int32) (mlo : Nat → Int32) (mth : Int32)  (N : Nat) (Q : Int32 → Prop) (hm : p_X7_rows N mjo Q ) : Met l yX7_rows wsX7_rows rmX7_rows (va_Pc [.ref (ad 0)] (cPre dC dI cy (wM ad cy mti mow mjo mta mba mib mdi mab mbe mpl mbs mro mlo mth) sz)) (va_Qi (fun (r : Int32) (u : Unit) => Q r) (fun u t => cPost dC dI cy (wM ad cy mti mow mjo mta mba mib mdi mab mbe mpl mbs mro mlo mth) sz (wM ad cy mti mow mjo mta mba mib mdi mab mbe mpl mbs mro mlo mth) t) (va_A (wM ad cy mti mow mjo mta mba mib mdi mab mbe mpl mbs mro mlo mth) sz)) 0 0 (va_A (wM ad cy mti mow mjo mta mba mib mdi mab mbe mpl mbs mro mlo mth) sz) := by
  refine Met.ofW (cc := cX7_rows) (maxL := 1) (ret := (some .int)) (by decide) rfl ?_
  intro p e s m args below meth c s₁ B hml hv
  obtain ⟨rfl, hsz, hP, hK, hD0, hN⟩ := hv
  have hts := atoms_spec (ws := wsX7_rows) B.pre
  have hown : s.vm.findClass RX7 = some m.cls := findClass_of_methodNamed B.named
  subst hsz
  have hD := hD0.self (sz := s.heap.size)
  generalize hAe : va_A (wM ad cy mti mow mjo mta mba mib mdi mab mbe mpl mbs mro mlo mth) s.heap.size = A at hD ⊢
  have hA : ∀ q : Nat, s.heap.size ≤ q → A q := fun q h => by rw [← hAe]; exact Or.inr h
  have hl := lv_entry ([.ref (ad 0)]) (n := 1) (Nat.le_of_ble_eq_true rfl)
  rw [lg_entry_eq]
  generalize (lg_sl ([.ref (ad 0)]) ++ List.replicate (1 - (lg_sl ([.ref (ad 0)])).length) Slot.unset).toArray = ls at hl ⊢
  have hl : lv_has ls 1 [(0, .ref (ad 0))] := hl
  exact k_X7_rows_0 ⟨B.exec, B.bytes, hml, B.returns, hown, hts, B.notSynchronized, hK, hA, hN⟩  s.heap [] ls hm ⟨hP, hD, va_S.rf⟩ (lv_sub hl [0] rfl) (fun r H locs ls pc hdg hSt hq => W.iret B.exec B.bytes B.returns (fun t ht hW => ⟨⟨r, (), rfl, hq, cPost_of hAe ht hW.alike hSt hK⟩, hSt.2.2.F ht⟩) hSt.2.2.2.2 hdg B.notSynchronized)

-- ===== X7_pivots
theorem fl_X7_pivots_16 : Cond.fieldLink RX7 16 "UnlikeUnionModel" "table" "[J" ∈ wsX7_pivots := by decide +kernel
theorem fl_X7_pivots_84 : Cond.fieldLink RX7 84 "UnlikeUnionModel" "divisor" "J" ∈ wsX7_pivots := by decide +kernel
theorem fl_X7_pivots_20 : Cond.fieldLink RX7 20 "UnlikeUnionModel" "basis" "[I" ∈ wsX7_pivots := by decide +kernel
theorem in_X7_pivots_X7 : ∀ w ∈ u_ws RX7 TX7 14, w ∈ wsX7_pivots := by decide +kernel
abbrev rmX7_pivots : Room := { frames := 2, cells := 0, slots := 0, locals := 141 }
def p_X7_pivots_94 (N : Nat) (mjo : Int32) (Q : (Nat → Int64) → (Nat → Int32) → Int64 → Prop) (K68 : Int32 → Int32 → Int64 → Int32 → (Nat → Int64) → (Nat → Int32) → Int64 → Prop) : Nat → Int32 → Int32 → Int64 → Int32 → Int64 → Int32 → (Nat → Int64) → (Nat → Int32) → Int64 → Prop
  | 0 => fun _ _ _ _ _ _ _ _ _ => False
  | n + 1 => fun x1 x2 x3 x5 x6 x8 mta mba mdi => ((27 : Int32) ≤ x8 → (∀ x5_2 : Int32, x5_2 = x5 + (1 : Int32) → (K68 x1 x2 x3 x5_2 mta mba mdi))) ∧ (¬ (27 : Int32) ≤ x8 → ((x5 = x1 → (∀ x5_4 : Int32, x5_4 = x5 + (1 : Int32) → (K68 x1 x2 x3 x5_4 mta mba mdi))) ∧ (¬ x5 = x1 → (vp_in (((27 : Int32) * x5) + x8) 297 ∧ (vp_in (((27 : Int32) * x1) + x8) 297 ∧ ((¬ mdi = 0) ∧ (∀ f_8 : Int64, f_8 = (((mta (((27 : Int32) * x5) + x8).toNatClampNeg) * x3) - (x6 * (mta (((27 : Int32) * x1) + x8).toNatClampNeg))) / mdi → (vp_in (((27 : Int32) * x5) + x8) 297 ∧ (∀ x8_10 : Int32, x8_10 = x8 + (1 : Int32) → (p_X7_pivots_94 N mjo Q K68 n x1 x2 x3 x5 x6 x8_10 (vp_updL mta (((27 : Int32) * x5) + x8).toNatClampNeg f_8) mba mdi))))))))))

def p_X7_pivots_68 (N : Nat) (mjo : Int32) (Q : (Nat → Int64) → (Nat → Int32) → Int64 → Prop) : Nat → Int32 → Int32 → Int64 → Int32 → (Nat → Int64) → (Nat → Int32) → Int64 → Prop
  | 0 => fun _ _ _ _ _ _ _ => False
  | n + 1 => fun x1 x2 x3 x5 mta mba mdi => p_X7_rows N mjo (fun r_1 => (r_1 ≤ x5 → (vp_in x1 11 ∧ (Q mta (upd mba (x1).toNatClampNeg x2) x3))) ∧ (¬ r_1 ≤ x5 → (vp_in (((27 : Int32) * x5) + x2) 297 ∧ (∀ x6_5 : Int64, x6_5 = mta (((27 : Int32) * x5) + x2).toNatClampNeg → (p_X7_pivots_94 N mjo Q (fun x1 x2 x3 x5 mta mba mdi => p_X7_pivots_68 N mjo Q n x1 x2 x3 x5 mta mba mdi) N x1 x2 x3 x5 x6_5 (0 : Int32) mta mba mdi))))) 

def p_X7_pivots_18 (N : Nat) (mjo : Int32) (Q : (Nat → Int64) → (Nat → Int32) → Int64 → Prop) (K68 : Int32 → Int32 → Int64 → Int32 → (Nat → Int64) → (Nat → Int32) → Int64 → Prop) : Nat → Int32 → Int32 → Int32 → (Nat → Int64) → (Nat → Int32) → Int64 → Prop
  | 0 => fun _ _ _ _ _ _ => False
  | n + 1 => fun x1 x2 x3 mta mba mdi => ((27 : Int32) ≤ x3 → (vp_in (((27 : Int32) * x1) + x2) 297 ∧ (∀ x3_3 : Int64, x3_3 = mta (((27 : Int32) * x1) + x2).toNatClampNeg → (K68 x1 x2 x3_3 (0 : Int32) mta mba mdi)))) ∧ (¬ (27 : Int32) ≤ x3 → (vp_in (((27 : Int32) * x1) + x3) 297 ∧ (∀ f_5 : Int64, f_5 = -(mta (((27 : Int32) * x1) + x3).toNatClampNeg) → (vp_in (((27 : Int32) * x1) + x3) 297 ∧ (∀ x3_7 : Int32, x3_7 = x3 + (1 : Int32) → (p_X7_pivots_18 N mjo Q K68 n x1 x2 x3_7 (vp_updL mta (((27 : Int32) * x1) + x3).toNatClampNeg f_5) mba mdi))))))

def p_X7_pivots (N : Nat) (mjo : Int32) (Q : (Nat → Int64) → (Nat → Int32) → Int64 → Prop) (x1 : Int32) (x2 : Int32) (mta : Nat → Int64) (mba : Nat → Int32) (mdi : Int64) : Prop :=
  vp_in (((27 : Int32) * x1) + x2) 297 ∧ (((0 : Int64) ≤ (mta (((27 : Int32) * x1) + x2).toNatClampNeg) → (vp_in (((27 : Int32) * x1) + x2) 297 ∧ (∀ x3_4 : Int64, x3_4 = mta (((27 : Int32) * x1) + x2).toNatClampNeg → (p_X7_pivots_68 N mjo Q N x1 x2 x3_4 (0 : Int32) mta mba mdi)))) ∧ (¬ (0 : Int64) ≤ (mta (((27 : Int32) * x1) + x2).toNatClampNeg) → (p_X7_pivots_18 N mjo Q (fun x1 x2 x3 x5 mta mba mdi => p_X7_pivots_68 N mjo Q N x1 x2 x3 x5 mta mba mdi) N x1 x2 (0 : Int32) mta mba mdi)))

set_option maxHeartbeats 4000000 in
set_option maxRecDepth 100000 in
theorem k_X7_pivots_94 {N : Nat} {mti : Nat → Int32} {mow : Nat → Int32} {mjo : Int32} {mib : Nat → Int32} {mab : Nat → Int64} {mbe : Nat → Int64} {mpl : Nat → Int32} {mbs : Nat → Int32} {mro : Nat → Int32} {mlo : Nat → Int32} {mth : Int32} {Q : (Nat → Int64) → (Nat → Int32) → Int64 → Prop} {K68 : Int32 → Int32 → Int64 → Int32 → (Nat → Int64) → (Nat → Int32) → Int64 → Prop} (C0 : cxM cX7_pivots 9 none RX7 wsX7_pivots p s m args meth c dC dI cy A) :
    ∀ (n : Nat) (x1 : Int32) (x2 : Int32) (x3 : Int64) (x5 : Int32) (x6 : Int64) (x8 : Int32) (mta : Nat → Int64) (mba : Nat → Int32) (mdi : Int64) (H : Heap) (locs : List Loc) (ls : Array Slot) (hm : p_X7_pivots_94 N mjo Q K68 n x1 x2 x3 x5 x6 x8 mta mba mdi) (hSt : stC dC dI A s (wM ad cy mti mow mjo mta mba mib mdi mab mbe mpl mbs mro mlo mth) H locs) (hl : lv_has ls 9 [(0, .ref (ad 0)), (1, .int x1), (2, .int x2), (3, .long x3), (5, .int x5), (6, .long x6), (8, .int x8)]) (hret : ∀ (mta : Nat → Int64) (mba : Nat → Int32) (mdi : Int64) (H : Heap) (locs : List Loc) (ls : Array Slot) (pc : Nat), decode cX7_pivots pc = .ok (.return_, 1) → stC dC dI A s (wM ad cy mti mow mjo mta mba mib mdi mab mbe mpl mbs mro mlo mth) H locs → Q mta mba mdi → W p l e rmX7_pivots s m args below meth c H locs 0 0 Z (F0 m pc ls [])) (hK68 : ∀ (x1 : Int32) (x2 : Int32) (x3 : Int64) (x5 : Int32) (mta : Nat → Int64) (mba : Nat → Int32) (mdi : Int64) (H : Heap) (locs : List Loc) (ls : Array Slot), K68 x1 x2 x3 x5 mta mba mdi → stC dC dI A s (wM ad cy mti mow mjo mta mba mib mdi mab mbe mpl mbs mro mlo mth) H locs → lv_has ls 9 [(0, .ref (ad 0)), (1, .int x1), (2, .int x2), (3, .long x3), (5, .int x5)] → W p l e rmX7_pivots s m args below meth c H locs 0 0 Z (F0 m 68 ls [])), W p l e rmX7_pivots s m args below meth c H locs 0 0 Z (F0 m 94 ls []) := by
  obtain ⟨hx, hb, hml, hr, hown, hts, hlocks, hK, hA, hN⟩ := id C0
  intro n
  induction n with
  | zero => intro x1 x2 x3 x5 x6 x8 mta mba mdi H locs ls hm; exact False.elim hm
  | succ n ih =>
    intro x1 x2 x3 x5 x6 x8 mta mba mdi H locs ls hm hSt hl hret hK68
    obtain ⟨hP, hD, hS⟩ := hSt
    unfold p_X7_pivots_94 at hm
    refine lv_iload hx hb dX7_pivots_94 (lv_at hl 6 rfl) ?_
    refine lv_bipush (v := 27) hx hb dX7_pivots_96 (by decide) ?_
    refine lv_icmp_ge (tgt := 162) hx hb dX7_pivots_98 (by decide) (fun c_1 => ?_) (fun c_1 => ?_)
    · have hm := hm.1 c_1
      obtain ⟨x5_2, ex5_2⟩ : ∃ y : Int32, y = x5 + (1 : Int32) := ⟨_, rfl⟩
      have hm := hm x5_2 ex5_2
      refine lv_iinc (v := x5_2) (lv' := [(5, .int x5_2), (0, .ref (ad 0)), (1, .int x1), (2, .int x2), (3, .long x3), (6, .long x6), (8, .int x8)]) hx hb dX7_pivots_162 hl (k := 4) rfl (by rw [ex5_2]; rfl) (by decide) rfl (fun ls hl => ?_)
      refine lv_goto (tgt := 68) hx hb dX7_pivots_165 (by decide) ?_
      exact hK68 x1 x2 x3 x5_2 mta mba mdi H locs ls hm ⟨hP, hD, hS⟩ (lv_sub hl [1, 2, 3, 4, 0] rfl)
    · have hm := hm.2 c_1
      refine lv_iload hx hb dX7_pivots_101 (lv_at hl 4 rfl) ?_
      refine lv_iload_n hx hb dX7_pivots_103 rfl (lv_at hl 1 rfl) ?_
      refine lv_icmp_eq (tgt := 162) hx hb dX7_pivots_104 (by decide) (fun c_3 => ?_) (fun c_3 => ?_)
      · have hm := hm.1 c_3
        obtain ⟨x5_4, ex5_4⟩ : ∃ y : Int32, y = x5 + (1 : Int32) := ⟨_, rfl⟩
        have hm := hm x5_4 ex5_4
        refine lv_iinc (v := x5_4) (lv' := [(5, .int x5_4), (0, .ref (ad 0)), (1, .int x1), (2, .int x2), (3, .long x3), (6, .long x6), (8, .int x8)]) hx hb dX7_pivots_162 hl (k := 4) rfl (by rw [ex5_4]; rfl) (by decide) rfl (fun ls hl => ?_)
        refine lv_goto (tgt := 68) hx hb dX7_pivots_165 (by decide) ?_
        exact hK68 x1 x2 x3 x5_4 mta mba mdi H locs ls hm ⟨hP, hD, hS⟩ (lv_sub hl [1, 2, 3, 4, 0] rfl)
      · have hm := hm.2 c_3
        refine lv_aload_n hx hb dX7_pivots_107 rfl (lv_at hl 0 rfl) ?_
        refine va_get (D := (dC, dI)) (ci := 7) (v := .ref (ad 3)) (C := RX7) (T := TX7) (N := 14) hx hb hts in_X7_pivots_X7 hown hK hP 0 rfl rfl 3 (by decide) (hts _ fl_X7_pivots_16) (fun _ h9 => h9) rfl dX7_pivots_108 ?_
        refine lv_bipush (v := 27) hx hb dX7_pivots_111 (by decide) ?_
        refine lv_iload hx hb dX7_pivots_113 (lv_at hl 4 rfl) ?_
        refine lv_imul hx hb dX7_pivots_115 ?_
        refine lv_iload hx hb dX7_pivots_116 (lv_at hl 6 rfl) ?_
        refine lv_iadd hx hb dX7_pivots_118 ?_
        refine lv_aload_n hx hb dX7_pivots_119 rfl (lv_at hl 0 rfl) ?_
        refine va_get (D := (dC, dI)) (ci := 7) (v := .ref (ad 3)) (C := RX7) (T := TX7) (N := 14) hx hb hts in_X7_pivots_X7 hown hK hP 0 rfl rfl 3 (by decide) (hts _ fl_X7_pivots_16) (fun _ h9 => h9) rfl dX7_pivots_120 ?_
        refine lv_bipush (v := 27) hx hb dX7_pivots_123 (by decide) ?_
        refine lv_iload hx hb dX7_pivots_125 (lv_at hl 4 rfl) ?_
        refine lv_imul hx hb dX7_pivots_127 ?_
        refine lv_iload hx hb dX7_pivots_128 (lv_at hl 6 rfl) ?_
        refine lv_iadd hx hb dX7_pivots_130 ?_
        have hi_5 := hm.1
        have hm := hm.2
        refine va_lald hx hb hK hP 3 1 rfl rfl hi_5 dX7_pivots_131 ?_
        refine lv_lload_n hx hb dX7_pivots_132 rfl (lv_at hl 3 rfl) ?_
        refine lv_lmul hx hb dX7_pivots_133 ?_
        refine lv_lload hx hb dX7_pivots_134 (lv_at hl 5 rfl) ?_
        refine lv_aload_n hx hb dX7_pivots_136 rfl (lv_at hl 0 rfl) ?_
        refine va_get (D := (dC, dI)) (ci := 7) (v := .ref (ad 3)) (C := RX7) (T := TX7) (N := 14) hx hb hts in_X7_pivots_X7 hown hK hP 0 rfl rfl 3 (by decide) (hts _ fl_X7_pivots_16) (fun _ h9 => h9) rfl dX7_pivots_137 ?_
        refine lv_bipush (v := 27) hx hb dX7_pivots_140 (by decide) ?_
        refine lv_iload_n hx hb dX7_pivots_142 rfl (lv_at hl 1 rfl) ?_
        refine lv_imul hx hb dX7_pivots_143 ?_
        refine lv_iload hx hb dX7_pivots_144 (lv_at hl 6 rfl) ?_
        refine lv_iadd hx hb dX7_pivots_146 ?_
        have hi_6 := hm.1
        have hm := hm.2
        refine va_lald hx hb hK hP 3 1 rfl rfl hi_6 dX7_pivots_147 ?_
        refine lv_lmul hx hb dX7_pivots_148 ?_
        refine lv_lsub hx hb dX7_pivots_149 ?_
        refine lv_aload_n hx hb dX7_pivots_150 rfl (lv_at hl 0 rfl) ?_
        refine va_get (D := (dC, dI)) (ci := 7) (v := .long mdi) (C := RX7) (T := TX7) (N := 14) hx hb hts in_X7_pivots_X7 hown hK hP 0 rfl rfl 6 (by decide) (hts _ fl_X7_pivots_84) (fun _ h9 => h9) rfl dX7_pivots_151 ?_
        have hz_7 := hm.1
        have hm := hm.2
        refine lv_ldiv hx hb dX7_pivots_154 hz_7 ?_
        refine lv_topl (fun f_8 ef_8 => ?_)
        have hm := hm f_8 ef_8
        have hi_9 := hm.1
        have hm := hm.2
        refine va_last hx hb hK hP hD hS 3 1 rfl rfl hi_9 dX7_pivots_155 (fun H locs hP hD hS => ?_)
        have hP : va_P (dC, dI) vwCl (wM ad cy mti mow mjo (vp_updL mta (((27 : Int32) * x5) + x8).toNatClampNeg f_8) mba mib mdi mab mbe mpl mbs mro mlo mth) H := hP
        have hD : va_D A (wM ad cy mti mow mjo (vp_updL mta (((27 : Int32) * x5) + x8).toNatClampNeg f_8) mba mib mdi mab mbe mpl mbs mro mlo mth) := hD
        obtain ⟨x8_10, ex8_10⟩ : ∃ y : Int32, y = x8 + (1 : Int32) := ⟨_, rfl⟩
        have hm := hm x8_10 ex8_10
        refine lv_iinc (v := x8_10) (lv' := [(8, .int x8_10), (0, .ref (ad 0)), (1, .int x1), (2, .int x2), (3, .long x3), (5, .int x5), (6, .long x6)]) hx hb dX7_pivots_156 hl (k := 6) rfl (by rw [ex8_10]; rfl) (by decide) rfl (fun ls hl => ?_)
        refine lv_goto (tgt := 94) hx hb dX7_pivots_159 (by decide) ?_
        exact ih x1 x2 x3 x5 x6 x8_10 (vp_updL mta (((27 : Int32) * x5) + x8).toNatClampNeg f_8) mba mdi H locs ls hm ⟨hP, hD, hS⟩ (lv_sub hl [1, 2, 3, 4, 5, 6, 0] rfl) hret hK68

set_option maxHeartbeats 4000000 in
set_option maxRecDepth 100000 in
theorem k_X7_pivots_68 {N : Nat} {mti : Nat → Int32} {mow : Nat → Int32} {mjo : Int32} {mib : Nat → Int32} {mab : Nat → Int64} {mbe : Nat → Int64} {mpl : Nat → Int32} {mbs : Nat → Int32} {mro : Nat → Int32} {mlo : Nat → Int32} {mth : Int32} {Q : (Nat → Int64) → (Nat → Int32) → Int64 → Prop} (C0 : cxM cX7_pivots 9 none RX7 wsX7_pivots p s m args meth c dC dI cy A) :
    ∀ (n : Nat) (x1 : Int32) (x2 : Int32) (x3 : Int64) (x5 : Int32) (mta : Nat → Int64) (mba : Nat → Int32) (mdi : Int64) (H : Heap) (locs : List Loc) (ls : Array Slot) (hm : p_X7_pivots_68 N mjo Q n x1 x2 x3 x5 mta mba mdi) (hSt : stC dC dI A s (wM ad cy mti mow mjo mta mba mib mdi mab mbe mpl mbs mro mlo mth) H locs) (hl : lv_has ls 9 [(0, .ref (ad 0)), (1, .int x1), (2, .int x2), (3, .long x3), (5, .int x5)]) (hret : ∀ (mta : Nat → Int64) (mba : Nat → Int32) (mdi : Int64) (H : Heap) (locs : List Loc) (ls : Array Slot) (pc : Nat), decode cX7_pivots pc = .ok (.return_, 1) → stC dC dI A s (wM ad cy mti mow mjo mta mba mib mdi mab mbe mpl mbs mro mlo mth) H locs → Q mta mba mdi → W p l e rmX7_pivots s m args below meth c H locs 0 0 Z (F0 m pc ls [])), W p l e rmX7_pivots s m args below meth c H locs 0 0 Z (F0 m 68 ls []) := by
  obtain ⟨hx, hb, hml, hr, hown, hts, hlocks, hK, hA, hN⟩ := id C0
  intro n
  induction n with
  | zero => intro x1 x2 x3 x5 mta mba mdi H locs ls hm; exact False.elim hm
  | succ n ih =>
    intro x1 x2 x3 x5 mta mba mdi H locs ls hm hSt hl hret
    obtain ⟨hP, hD, hS⟩ := hSt
    unfold p_X7_pivots_68 at hm
    refine lv_iload hx hb dX7_pivots_68 (lv_at hl 4 rfl) ?_
    refine lv_aload_n hx hb dX7_pivots_70 rfl (lv_at hl 0 rfl) ?_
    have hFc := va_freeSame hD hS hA
    refine va_calli (va_runV (As := []) (rest := [.int x5]) ⟨hx, hb, hml, hown, hts⟩ (c_X7_rows l dC dI cy ad H.size mti mow mjo mta mba mib mdi mab mbe mpl mbs mro mlo mth  _ _ hm) (cwV 0 hts gX7_pivots_X7_rows rfl rfl rfl (by decide +kernel) ⟨Nat.le_of_ble_eq_true rfl, Nat.le_of_ble_eq_true rfl⟩) ⟨cPre_blind, va_recv hK hP (ci := 7) (q0 := 0) rfl rfl, fun U hU hW => ⟨rfl, cPre_at hP hK hD hN hU hW⟩⟩ rfl rfl hl.1 rfl (lv_room (Nat.le_of_ble_eq_true rfl)) dX7_pivots_71 ⟨Nat.zero_le _, Nat.zero_le _⟩) hS (fun q _ h => hFc q h) hFc (fun r_1 u t H locs ht hvm hw hB hz1 hk1 hS => ?_)
    try dsimp only at hw
    have hm := hw
    have hP : va_P (dC, dI) vwCl (wM ad cy mti mow mjo mta mba mib mdi mab mbe mpl mbs mro mlo mth) H := cPost_P ht hB
    have hD : va_D A (wM ad cy mti mow mjo mta mba mib mdi mab mbe mpl mbs mro mlo mth) := cPost_D hFc hB
    refine lv_icmp_ge (tgt := 168) hx hb dX7_pivots_74 (by decide) (fun c_2 => ?_) (fun c_2 => ?_)
    · have hm := hm.1 c_2
      refine lv_aload_n hx hb dX7_pivots_168 rfl (lv_at hl 0 rfl) ?_
      refine lv_lload_n hx hb dX7_pivots_169 rfl (lv_at hl 3 rfl) ?_
      refine va_put (D := (dC, dI)) (ci := 7) (v := .long x3) (ty := .long) (C := RX7) (T := TX7) (N := 14) hx hb hts in_X7_pivots_X7 tyX7 tyX7_ok nmX7 hown hK hP hD hS 0 rfl rfl 6 (by decide) (hts _ fl_X7_pivots_84) (fun _ h9 => h9) rfl (by decide +kernel) rfl rfl (Nat.le_of_ble_eq_true rfl) dX7_pivots_170 (fun H locs hP hD hS => ?_)
      have hP : va_P (dC, dI) vwCl (wM ad cy mti mow mjo mta mba mib x3 mab mbe mpl mbs mro mlo mth) H := hP
      have hD : va_D A (wM ad cy mti mow mjo mta mba mib x3 mab mbe mpl mbs mro mlo mth) := hD
      refine lv_aload_n hx hb dX7_pivots_173 rfl (lv_at hl 0 rfl) ?_
      refine va_get (D := (dC, dI)) (ci := 7) (v := .ref (ad 4)) (C := RX7) (T := TX7) (N := 14) hx hb hts in_X7_pivots_X7 hown hK hP 0 rfl rfl 4 (by decide) (hts _ fl_X7_pivots_20) (fun _ h9 => h9) rfl dX7_pivots_174 ?_
      refine lv_iload_n hx hb dX7_pivots_177 rfl (lv_at hl 1 rfl) ?_
      refine lv_iload_n hx hb dX7_pivots_178 rfl (lv_at hl 2 rfl) ?_
      have hi_3 := hm.1
      have hm := hm.2
      refine va_iast hx hb hK hP hD hS 4 0 rfl rfl hi_3 dX7_pivots_179 (fun H locs hP hD hS => ?_)
      have hP : va_P (dC, dI) vwCl (wM ad cy mti mow mjo mta (upd mba (x1).toNatClampNeg x2) mib x3 mab mbe mpl mbs mro mlo mth) H := hP
      have hD : va_D A (wM ad cy mti mow mjo mta (upd mba (x1).toNatClampNeg x2) mib x3 mab mbe mpl mbs mro mlo mth) := hD
      exact hret mta (upd mba (x1).toNatClampNeg x2) x3 H locs ls 180 dX7_pivots_180 ⟨hP, hD, hS⟩ hm
    · have hm := hm.2 c_2
      refine lv_aload_n hx hb dX7_pivots_77 rfl (lv_at hl 0 rfl) ?_
      refine va_get (D := (dC, dI)) (ci := 7) (v := .ref (ad 3)) (C := RX7) (T := TX7) (N := 14) hx hb hts in_X7_pivots_X7 hown hK hP 0 rfl rfl 3 (by decide) (hts _ fl_X7_pivots_16) (fun _ h9 => h9) rfl dX7_pivots_78 ?_
      refine lv_bipush (v := 27) hx hb dX7_pivots_81 (by decide) ?_
      refine lv_iload hx hb dX7_pivots_83 (lv_at hl 4 rfl) ?_
      refine lv_imul hx hb dX7_pivots_85 ?_
      refine lv_iload_n hx hb dX7_pivots_86 rfl (lv_at hl 2 rfl) ?_
      refine lv_iadd hx hb dX7_pivots_87 ?_
      have hi_4 := hm.1
      have hm := hm.2
      refine va_lald hx hb hK hP 3 1 rfl rfl hi_4 dX7_pivots_88 ?_
      refine lv_topl (fun x6_5 ex6_5 => ?_)
      have hm := hm x6_5 ex6_5
      refine lv_lstore (lv' := [(6, .long x6_5), (0, .ref (ad 0)), (1, .int x1), (2, .int x2), (3, .long x3), (5, .int x5)]) hx hb dX7_pivots_89 hl (by decide) rfl (fun ls hl => ?_)
      refine lv_iconst (v := 0) hx hb dX7_pivots_91 (by decide) ?_
      refine lv_istore (lv' := [(8, .int (0 : Int32)), (6, .long x6_5), (0, .ref (ad 0)), (1, .int x1), (2, .int x2), (3, .long x3), (5, .int x5)]) hx hb dX7_pivots_92 hl (by decide) rfl (fun ls hl => ?_)
      refine k_X7_pivots_94 C0 N x1 x2 x3 x5 x6_5 (0 : Int32) mta mba mdi H locs ls hm ⟨hP, hD, hS⟩ (lv_sub hl [2, 3, 4, 5, 6, 1, 0] rfl) hret (fun x1 x2 x3 x5 mta mba mdi H locs ls hm hSt hl => ?_)
      · obtain ⟨hP, hD, hS⟩ := hSt
        exact ih x1 x2 x3 x5 mta mba mdi H locs ls hm ⟨hP, hD, hS⟩ hl hret

set_option maxHeartbeats 4000000 in
set_option maxRecDepth 100000 in
theorem k_X7_pivots_18 {N : Nat} {mti : Nat → Int32} {mow : Nat → Int32} {mjo : Int32} {mib : Nat → Int32} {mab : Nat → Int64} {mbe : Nat → Int64} {mpl : Nat → Int32} {mbs : Nat → Int32} {mro : Nat → Int32} {mlo : Nat → Int32} {mth : Int32} {Q : (Nat → Int64) → (Nat → Int32) → Int64 → Prop} {K68 : Int32 → Int32 → Int64 → Int32 → (Nat → Int64) → (Nat → Int32) → Int64 → Prop} (C0 : cxM cX7_pivots 9 none RX7 wsX7_pivots p s m args meth c dC dI cy A) :
    ∀ (n : Nat) (x1 : Int32) (x2 : Int32) (x3 : Int32) (mta : Nat → Int64) (mba : Nat → Int32) (mdi : Int64) (H : Heap) (locs : List Loc) (ls : Array Slot) (hm : p_X7_pivots_18 N mjo Q K68 n x1 x2 x3 mta mba mdi) (hSt : stC dC dI A s (wM ad cy mti mow mjo mta mba mib mdi mab mbe mpl mbs mro mlo mth) H locs) (hl : lv_has ls 9 [(0, .ref (ad 0)), (1, .int x1), (2, .int x2), (3, .int x3)]) (hret : ∀ (mta : Nat → Int64) (mba : Nat → Int32) (mdi : Int64) (H : Heap) (locs : List Loc) (ls : Array Slot) (pc : Nat), decode cX7_pivots pc = .ok (.return_, 1) → stC dC dI A s (wM ad cy mti mow mjo mta mba mib mdi mab mbe mpl mbs mro mlo mth) H locs → Q mta mba mdi → W p l e rmX7_pivots s m args below meth c H locs 0 0 Z (F0 m pc ls [])) (hK68 : ∀ (x1 : Int32) (x2 : Int32) (x3 : Int64) (x5 : Int32) (mta : Nat → Int64) (mba : Nat → Int32) (mdi : Int64) (H : Heap) (locs : List Loc) (ls : Array Slot), K68 x1 x2 x3 x5 mta mba mdi → stC dC dI A s (wM ad cy mti mow mjo mta mba mib mdi mab mbe mpl mbs mro mlo mth) H locs → lv_has ls 9 [(0, .ref (ad 0)), (1, .int x1), (2, .int x2), (3, .long x3), (5, .int x5)] → W p l e rmX7_pivots s m args below meth c H locs 0 0 Z (F0 m 68 ls [])), W p l e rmX7_pivots s m args below meth c H locs 0 0 Z (F0 m 18 ls []) := by
  obtain ⟨hx, hb, hml, hr, hown, hts, hlocks, hK, hA, hN⟩ := id C0
  intro n
  induction n with
  | zero => intro x1 x2 x3 mta mba mdi H locs ls hm; exact False.elim hm
  | succ n ih =>
    intro x1 x2 x3 mta mba mdi H locs ls hm hSt hl hret hK68
    obtain ⟨hP, hD, hS⟩ := hSt
    unfold p_X7_pivots_18 at hm
    refine lv_iload_n hx hb dX7_pivots_18 rfl (lv_at hl 3 rfl) ?_
    refine lv_bipush (v := 27) hx hb dX7_pivots_19 (by decide) ?_
    refine lv_icmp_ge (tgt := 53) hx hb dX7_pivots_21 (by decide) (fun c_1 => ?_) (fun c_1 => ?_)
    · have hm := hm.1 c_1
      refine lv_aload_n hx hb dX7_pivots_53 rfl (lv_at hl 0 rfl) ?_
      refine va_get (D := (dC, dI)) (ci := 7) (v := .ref (ad 3)) (C := RX7) (T := TX7) (N := 14) hx hb hts in_X7_pivots_X7 hown hK hP 0 rfl rfl 3 (by decide) (hts _ fl_X7_pivots_16) (fun _ h9 => h9) rfl dX7_pivots_54 ?_
      refine lv_bipush (v := 27) hx hb dX7_pivots_57 (by decide) ?_
      refine lv_iload_n hx hb dX7_pivots_59 rfl (lv_at hl 1 rfl) ?_
      refine lv_imul hx hb dX7_pivots_60 ?_
      refine lv_iload_n hx hb dX7_pivots_61 rfl (lv_at hl 2 rfl) ?_
      refine lv_iadd hx hb dX7_pivots_62 ?_
      have hi_2 := hm.1
      have hm := hm.2
      refine va_lald hx hb hK hP 3 1 rfl rfl hi_2 dX7_pivots_63 ?_
      refine lv_topl (fun x3_3 ex3_3 => ?_)
      have hm := hm x3_3 ex3_3
      refine lv_lstore_n (lv' := [(3, .long x3_3), (0, .ref (ad 0)), (1, .int x1), (2, .int x2)]) hx hb dX7_pivots_64 rfl hl (by decide) rfl (fun ls hl => ?_)
      refine lv_iconst (v := 0) hx hb dX7_pivots_65 (by decide) ?_
      refine lv_istore (lv' := [(5, .int (0 : Int32)), (3, .long x3_3), (0, .ref (ad 0)), (1, .int x1), (2, .int x2)]) hx hb dX7_pivots_66 hl (by decide) rfl (fun ls hl => ?_)
      exact hK68 x1 x2 x3_3 (0 : Int32) mta mba mdi H locs ls hm ⟨hP, hD, hS⟩ (lv_sub hl [2, 3, 4, 1, 0] rfl)
    · have hm := hm.2 c_1
      refine lv_aload_n hx hb dX7_pivots_24 rfl (lv_at hl 0 rfl) ?_
      refine va_get (D := (dC, dI)) (ci := 7) (v := .ref (ad 3)) (C := RX7) (T := TX7) (N := 14) hx hb hts in_X7_pivots_X7 hown hK hP 0 rfl rfl 3 (by decide) (hts _ fl_X7_pivots_16) (fun _ h9 => h9) rfl dX7_pivots_25 ?_
      refine lv_bipush (v := 27) hx hb dX7_pivots_28 (by decide) ?_
      refine lv_iload_n hx hb dX7_pivots_30 rfl (lv_at hl 1 rfl) ?_
      refine lv_imul hx hb dX7_pivots_31 ?_
      refine lv_iload_n hx hb dX7_pivots_32 rfl (lv_at hl 3 rfl) ?_
      refine lv_iadd hx hb dX7_pivots_33 ?_
      refine lv_aload_n hx hb dX7_pivots_34 rfl (lv_at hl 0 rfl) ?_
      refine va_get (D := (dC, dI)) (ci := 7) (v := .ref (ad 3)) (C := RX7) (T := TX7) (N := 14) hx hb hts in_X7_pivots_X7 hown hK hP 0 rfl rfl 3 (by decide) (hts _ fl_X7_pivots_16) (fun _ h9 => h9) rfl dX7_pivots_35 ?_
      refine lv_bipush (v := 27) hx hb dX7_pivots_38 (by decide) ?_
      refine lv_iload_n hx hb dX7_pivots_40 rfl (lv_at hl 1 rfl) ?_
      refine lv_imul hx hb dX7_pivots_41 ?_
      refine lv_iload_n hx hb dX7_pivots_42 rfl (lv_at hl 3 rfl) ?_
      refine lv_iadd hx hb dX7_pivots_43 ?_
      have hi_4 := hm.1
      have hm := hm.2
      refine va_lald hx hb hK hP 3 1 rfl rfl hi_4 dX7_pivots_44 ?_
      refine lv_lneg hx hb dX7_pivots_45 ?_
      refine lv_topl (fun f_5 ef_5 => ?_)
      have hm := hm f_5 ef_5
      have hi_6 := hm.1
      have hm := hm.2
      refine va_last hx hb hK hP hD hS 3 1 rfl rfl hi_6 dX7_pivots_46 (fun H locs hP hD hS => ?_)
      have hP : va_P (dC, dI) vwCl (wM ad cy mti mow mjo (vp_updL mta (((27 : Int32) * x1) + x3).toNatClampNeg f_5) mba mib mdi mab mbe mpl mbs mro mlo mth) H := hP
      have hD : va_D A (wM ad cy mti mow mjo (vp_updL mta (((27 : Int32) * x1) + x3).toNatClampNeg f_5) mba mib mdi mab mbe mpl mbs mro mlo mth) := hD
      obtain ⟨x3_7, ex3_7⟩ : ∃ y : Int32, y = x3 + (1 : Int32) := ⟨_, rfl⟩
      have hm := hm x3_7 ex3_7
      refine lv_iinc (v := x3_7) (lv' := [(3, .int x3_7), (0, .ref (ad 0)), (1, .int x1), (2, .int x2)]) hx hb dX7_pivots_47 hl (k := 3) rfl (by rw [ex3_7]; rfl) (by decide) rfl (fun ls hl => ?_)
      refine lv_goto (tgt := 18) hx hb dX7_pivots_50 (by decide) ?_
      exact ih x1 x2 x3_7 (vp_updL mta (((27 : Int32) * x1) + x3).toNatClampNeg f_5) mba mdi H locs ls hm ⟨hP, hD, hS⟩ (lv_sub hl [1, 2, 3, 0] rfl) hret hK68

set_option maxHeartbeats 4000000 in
set_option maxRecDepth 100000 in
theorem k_X7_pivots_0 {N : Nat} {mti : Nat → Int32} {mow : Nat → Int32} {mjo : Int32} {mib : Nat → Int32} {mab : Nat → Int64} {mbe : Nat → Int64} {mpl : Nat → Int32} {mbs : Nat → Int32} {mro : Nat → Int32} {mlo : Nat → Int32} {mth : Int32} {Q : (Nat → Int64) → (Nat → Int32) → Int64 → Prop} (C0 : cxM cX7_pivots 9 none RX7 wsX7_pivots p s m args meth c dC dI cy A) :
    ∀ (x1 : Int32) (x2 : Int32) (mta : Nat → Int64) (mba : Nat → Int32) (mdi : Int64) (H : Heap) (locs : List Loc) (ls : Array Slot) (hm : p_X7_pivots N mjo Q x1 x2 mta mba mdi) (hSt : stC dC dI A s (wM ad cy mti mow mjo mta mba mib mdi mab mbe mpl mbs mro mlo mth) H locs) (hl : lv_has ls 9 [(0, .ref (ad 0)), (1, .int x1), (2, .int x2)]) (hret : ∀ (mta : Nat → Int64) (mba : Nat → Int32) (mdi : Int64) (H : Heap) (locs : List Loc) (ls : Array Slot) (pc : Nat), decode cX7_pivots pc = .ok (.return_, 1) → stC dC dI A s (wM ad cy mti mow mjo mta mba mib mdi mab mbe mpl mbs mro mlo mth) H locs → Q mta mba mdi → W p l e rmX7_pivots s m args below meth c H locs 0 0 Z (F0 m pc ls [])), W p l e rmX7_pivots s m args below meth c H locs 0 0 Z (F0 m 0 ls []) := by
  obtain ⟨hx, hb, hml, hr, hown, hts, hlocks, hK, hA, hN⟩ := id C0
  intro x1 x2 mta mba mdi H locs ls hm hSt hl hret
  obtain ⟨hP, hD, hS⟩ := hSt
  unfold p_X7_pivots at hm
  refine lv_aload_n hx hb dX7_pivots_0 rfl (lv_at hl 0 rfl) ?_
  refine va_get (D := (dC, dI)) (ci := 7) (v := .ref (ad 3)) (C := RX7) (T := TX7) (N := 14) hx hb hts in_X7_pivots_X7 hown hK hP 0 rfl rfl 3 (by decide) (hts _ fl_X7_pivots_16) (fun _ h9 => h9) rfl dX7_pivots_1 ?_
  refine lv_bipush (v := 27) hx hb dX7_pivots_4 (by decide) ?_
  refine lv_iload_n hx hb dX7_pivots_6 rfl (lv_at hl 1 rfl) ?_
  refine lv_imul hx hb dX7_pivots_7 ?_
  refine lv_iload_n hx hb dX7_pivots_8 rfl (lv_at hl 2 rfl) ?_
  refine lv_iadd hx hb dX7_pivots_9 ?_
  have hi_1 := hm.1
  have hm := hm.2
  refine va_lald hx hb hK hP 3 1 rfl rfl hi_1 dX7_pivots_10 ?_
  refine lv_lconst (v := 0) hx hb dX7_pivots_11 (by decide) ?_
  refine lq_ge (tgt := 53) hx hb dX7_pivots_12 dX7_pivots_13 (by decide) (fun c_2 => ?_) (fun c_2 => ?_)
  · have hm := hm.1 c_2
    refine lv_aload_n hx hb dX7_pivots_53 rfl (lv_at hl 0 rfl) ?_
    refine va_get (D := (dC, dI)) (ci := 7) (v := .ref (ad 3)) (C := RX7) (T := TX7) (N := 14) hx hb hts in_X7_pivots_X7 hown hK hP 0 rfl rfl 3 (by decide) (hts _ fl_X7_pivots_16) (fun _ h9 => h9) rfl dX7_pivots_54 ?_
    refine lv_bipush (v := 27) hx hb dX7_pivots_57 (by decide) ?_
    refine lv_iload_n hx hb dX7_pivots_59 rfl (lv_at hl 1 rfl) ?_
    refine lv_imul hx hb dX7_pivots_60 ?_
    refine lv_iload_n hx hb dX7_pivots_61 rfl (lv_at hl 2 rfl) ?_
    refine lv_iadd hx hb dX7_pivots_62 ?_
    have hi_3 := hm.1
    have hm := hm.2
    refine va_lald hx hb hK hP 3 1 rfl rfl hi_3 dX7_pivots_63 ?_
    refine lv_topl (fun x3_4 ex3_4 => ?_)
    have hm := hm x3_4 ex3_4
    refine lv_lstore_n (lv' := [(3, .long x3_4), (0, .ref (ad 0)), (1, .int x1), (2, .int x2)]) hx hb dX7_pivots_64 rfl hl (by decide) rfl (fun ls hl => ?_)
    refine lv_iconst (v := 0) hx hb dX7_pivots_65 (by decide) ?_
    refine lv_istore (lv' := [(5, .int (0 : Int32)), (3, .long x3_4), (0, .ref (ad 0)), (1, .int x1), (2, .int x2)]) hx hb dX7_pivots_66 hl (by decide) rfl (fun ls hl => ?_)
    exact k_X7_pivots_68 C0 N x1 x2 x3_4 (0 : Int32) mta mba mdi H locs ls hm ⟨hP, hD, hS⟩ (lv_sub hl [2, 3, 4, 1, 0] rfl) hret
  · have hm := hm.2 c_2
    refine lv_iconst (v := 0) hx hb dX7_pivots_16 (by decide) ?_
    refine lv_istore_n (lv' := [(3, .int (0 : Int32)), (0, .ref (ad 0)), (1, .int x1), (2, .int x2)]) hx hb dX7_pivots_17 rfl hl (by decide) rfl (fun ls hl => ?_)
    refine k_X7_pivots_18 C0 N x1 x2 (0 : Int32) mta mba mdi H locs ls hm ⟨hP, hD, hS⟩ (lv_sub hl [1, 2, 3, 0] rfl) hret (fun x1 x2 x3 x5 mta mba mdi H locs ls hm hSt hl => ?_)
    · obtain ⟨hP, hD, hS⟩ := hSt
      exact k_X7_pivots_68 C0 N x1 x2 x3 x5 mta mba mdi H locs ls hm ⟨hP, hD, hS⟩ hl hret

set_option maxHeartbeats 4000000 in
set_option maxRecDepth 100000 in
theorem c_X7_pivots (l : Launch) (dC : Nat → ClassId) (dI : Nat → Nat → Nat) (cy : Nat → ClassId) (ad : Nat → Nat) (sz : Nat) (mti : Nat → Int32) (mow : Nat → Int32) (mjo : Int32) (mta : Nat → Int64) (mba : Nat → Int32) (mib : Nat → Int32) (mdi : Int64) (mab : Nat → Int64) (mbe : Nat → Int64) (mpl : Nat → Int32) (mbs : Nat → Int32) (mro : Nat → Int32) (mlo : Nat → Int32) (mth : Int32) (x1 : Int32) (x2 : Int32) (N : Nat) (Q : (Nat → Int64) → (Nat → Int32) → Int64 → Prop) (hm : p_X7_pivots N mjo Q x1 x2 mta mba mdi) : Met l yX7_pivots wsX7_pivots rmX7_pivots (va_Pc [.ref (ad 0), .int x1, .int x2] (cPre dC dI cy (wM ad cy mti mow mjo mta mba mib mdi mab mbe mpl mbs mro mlo mth) sz)) (va_Qv (fun (u : (Nat → Int64) × (Nat → Int32) × Int64) => Q u.1 u.2.1 u.2.2) (fun u t => cPost dC dI cy (wM ad cy mti mow mjo mta mba mib mdi mab mbe mpl mbs mro mlo mth) sz (wM ad cy mti mow mjo (u.1) (u.2.1) mib (u.2.2) mab mbe mpl mbs mro mlo mth) t) (va_A (wM ad cy mti mow mjo mta mba mib mdi mab mbe mpl mbs mro mlo mth) sz)) 0 0 (va_A (wM ad cy mti mow mjo mta mba mib mdi mab mbe mpl mbs mro mlo mth) sz) := by
  refine Met.ofW (cc := cX7_pivots) (maxL := 9) (ret := none) (by decide) rfl ?_
  intro p e s m args below meth c s₁ B hml hv
  obtain ⟨rfl, hsz, hP, hK, hD0, hN⟩ := hv
  have hts := atoms_spec (ws := wsX7_pivots) B.pre
  have hown : s.vm.findClass RX7 = some m.cls := findClass_of_methodNamed B.named
  subst hsz
  have hD := hD0.self (sz := s.heap.size)
  generalize hAe : va_A (wM ad cy mti mow mjo mta mba mib mdi mab mbe mpl mbs mro mlo mth) s.heap.size = A at hD ⊢
  have hA : ∀ q : Nat, s.heap.size ≤ q → A q := fun q h => by rw [← hAe]; exact Or.inr h
  have hl := lv_entry ([.ref (ad 0), .int x1, .int x2]) (n := 9) (Nat.le_of_ble_eq_true rfl)
  rw [lg_entry_eq]
  generalize (lg_sl ([.ref (ad 0), .int x1, .int x2]) ++ List.replicate (9 - (lg_sl ([.ref (ad 0), .int x1, .int x2])).length) Slot.unset).toArray = ls at hl ⊢
  have hl : lv_has ls 9 [(0, .ref (ad 0)), (1, .int x1), (2, .int x2)] := hl
  exact k_X7_pivots_0 ⟨B.exec, B.bytes, hml, B.returns, hown, hts, B.notSynchronized, hK, hA, hN⟩ x1 x2 mta mba mdi s.heap [] ls hm ⟨hP, hD, va_S.rf⟩ (lv_sub hl [0, 1, 2] rfl) (fun mta mba mdi H locs ls pc hdg hSt hq => W.vret B.exec B.bytes B.returns (fun t ht hW => ⟨⟨(mta, mba, mdi), rfl, hq, cPost_of hAe ht hW.alike hSt hK⟩, hSt.2.2.F ht⟩) hSt.2.2.2.2 hdg B.notSynchronized)

-- ===== X7_leaving
theorem fl_X7_leaving_16 : Cond.fieldLink RX7 16 "UnlikeUnionModel" "table" "[J" ∈ wsX7_leaving := by decide +kernel
theorem fl_X7_leaving_20 : Cond.fieldLink RX7 20 "UnlikeUnionModel" "basis" "[I" ∈ wsX7_leaving := by decide +kernel
theorem in_X7_leaving_X7 : ∀ w ∈ u_ws RX7 TX7 14, w ∈ wsX7_leaving := by decide +kernel
abbrev rmX7_leaving : Room := { frames := 2, cells := 0, slots := 0, locals := 141 }
def p_X7_leaving_89 (N : Nat) (mjo : Int32) (mta : Nat → Int64) (mba : Nat → Int32) (Q : Int32 → Prop) (K4 : Int32 → Int32 → Int32 → Prop) (x1 : Int32) (x2 : Int32) (x3 : Int32) (x6 : Int64) (s0 : Int64) : Prop :=
  (x2 < 0 → (∀ x3_2 : Int32, x3_2 = x3 + (1 : Int32) → (K4 x1 x3 x3_2))) ∧ (¬ x2 < 0 → ((x6 < s0 → (∀ x3_4 : Int32, x3_4 = x3 + (1 : Int32) → (K4 x1 x3 x3_4))) ∧ (¬ x6 < s0 → ((x6 = s0 → (vp_in x3 11 ∧ (vp_in x2 11 ∧ (((mba (x2).toNatClampNeg) ≤ (mba (x3).toNatClampNeg) → (∀ x3_10 : Int32, x3_10 = x3 + (1 : Int32) → (K4 x1 x2 x3_10))) ∧ (¬ (mba (x2).toNatClampNeg) ≤ (mba (x3).toNatClampNeg) → (∀ x3_11 : Int32, x3_11 = x3 + (1 : Int32) → (K4 x1 x3 x3_11))))))) ∧ (¬ x6 = s0 → (∀ x3_6 : Int32, x3_6 = x3 + (1 : Int32) → (K4 x1 x2 x3_6)))))))

def p_X7_leaving_4 (N : Nat) (mjo : Int32) (mta : Nat → Int64) (mba : Nat → Int32) (Q : Int32 → Prop) : Nat → Int32 → Int32 → Int32 → Prop
  | 0 => fun _ _ _ => False
  | n + 1 => fun x1 x2 x3 => p_X7_rows N mjo (fun r_1 => (r_1 ≤ x3 → (Q x2)) ∧ (¬ r_1 ≤ x3 → (vp_in (((27 : Int32) * x3) + x1) 297 ∧ (∀ x4_4 : Int64, x4_4 = mta (((27 : Int32) * x3) + x1).toNatClampNeg → ((x4_4 ≤ (0 : Int64) → (∀ x3_6 : Int32, x3_6 = x3 + (1 : Int32) → (p_X7_leaving_4 N mjo mta mba Q n x1 x2 x3_6))) ∧ (¬ x4_4 ≤ (0 : Int64) → ((0 ≤ x2 → (vp_in (((27 : Int32) * x3) + (26 : Int32)) 297 ∧ (vp_in (((27 : Int32) * x2) + x1) 297 ∧ (∀ x6_10 : Int64, x6_10 = (mta (((27 : Int32) * x3) + (26 : Int32)).toNatClampNeg) * (mta (((27 : Int32) * x2) + x1).toNatClampNeg) → ((0 ≤ x2 → (vp_in (((27 : Int32) * x2) + (26 : Int32)) 297 ∧ (p_X7_leaving_89 N mjo mta mba Q (fun x1 x2 x3 => p_X7_leaving_4 N mjo mta mba Q n x1 x2 x3) x1 x2 x3 x6_10 ((mta (((27 : Int32) * x2) + (26 : Int32)).toNatClampNeg) * x4_4)))) ∧ (¬ 0 ≤ x2 → (p_X7_leaving_89 N mjo mta mba Q (fun x1 x2 x3 => p_X7_leaving_4 N mjo mta mba Q n x1 x2 x3) x1 x2 x3 x6_10 (0 : Int64)))))))) ∧ (¬ 0 ≤ x2 → ((0 ≤ x2 → (vp_in (((27 : Int32) * x2) + (26 : Int32)) 297 ∧ (p_X7_leaving_89 N mjo mta mba Q (fun x1 x2 x3 => p_X7_leaving_4 N mjo mta mba Q n x1 x2 x3) x1 x2 x3 (0 : Int64) ((mta (((27 : Int32) * x2) + (26 : Int32)).toNatClampNeg) * x4_4)))) ∧ (¬ 0 ≤ x2 → (p_X7_leaving_89 N mjo mta mba Q (fun x1 x2 x3 => p_X7_leaving_4 N mjo mta mba Q n x1 x2 x3) x1 x2 x3 (0 : Int64) (0 : Int64)))))))))))) 

def p_X7_leaving (N : Nat) (mjo : Int32) (mta : Nat → Int64) (mba : Nat → Int32) (Q : Int32 → Prop) (x1 : Int32) : Prop :=
  p_X7_leaving_4 N mjo mta mba Q N x1 (-1 : Int32) (0 : Int32)

set_option maxHeartbeats 4000000 in
set_option maxRecDepth 100000 in
theorem k_X7_leaving_89 {N : Nat} {mti : Nat → Int32} {mow : Nat → Int32} {mjo : Int32} {mta : Nat → Int64} {mba : Nat → Int32} {mib : Nat → Int32} {mdi : Int64} {mab : Nat → Int64} {mbe : Nat → Int64} {mpl : Nat → Int32} {mbs : Nat → Int32} {mro : Nat → Int32} {mlo : Nat → Int32} {mth : Int32} {Q : Int32 → Prop} {K4 : Int32 → Int32 → Int32 → Prop} (C0 : cxM cX7_leaving 10 (some .int) RX7 wsX7_leaving p s m args meth c dC dI cy A) :
    ∀ (x1 : Int32) (x2 : Int32) (x3 : Int32) (x6 : Int64) (s0 : Int64) (H : Heap) (locs : List Loc) (ls : Array Slot) (hm : p_X7_leaving_89 N mjo mta mba Q K4 x1 x2 x3 x6 s0) (hSt : stC dC dI A s (wM ad cy mti mow mjo mta mba mib mdi mab mbe mpl mbs mro mlo mth) H locs) (hl : lv_has ls 10 [(0, .ref (ad 0)), (1, .int x1), (2, .int x2), (3, .int x3), (6, .long x6)]) (hret : ∀ (r : Int32) (H : Heap) (locs : List Loc) (ls : Array Slot) (pc : Nat), decode cX7_leaving pc = .ok (.ireturn, 1) → stC dC dI A s (wM ad cy mti mow mjo mta mba mib mdi mab mbe mpl mbs mro mlo mth) H locs → Q r → W p l e rmX7_leaving s m args below meth c H locs 0 0 Z (F0 m pc ls [.int r])) (hK4 : ∀ (x1 : Int32) (x2 : Int32) (x3 : Int32) (H : Heap) (locs : List Loc) (ls : Array Slot), K4 x1 x2 x3 → stC dC dI A s (wM ad cy mti mow mjo mta mba mib mdi mab mbe mpl mbs mro mlo mth) H locs → lv_has ls 10 [(0, .ref (ad 0)), (1, .int x1), (2, .int x2), (3, .int x3)] → W p l e rmX7_leaving s m args below meth c H locs 0 0 Z (F0 m 4 ls [])), W p l e rmX7_leaving s m args below meth c H locs 0 0 Z (F0 m 89 ls [.long s0]) := by
  obtain ⟨hx, hb, hml, hr, hown, hts, hlocks, hK, hA, hN⟩ := id C0
  intro x1 x2 x3 x6 s0 H locs ls hm hSt hl hret hK4
  obtain ⟨hP, hD, hS⟩ := hSt
  unfold p_X7_leaving_89 at hm
  refine lv_lstore (lv' := [(8, .long s0), (0, .ref (ad 0)), (1, .int x1), (2, .int x2), (3, .int x3), (6, .long x6)]) hx hb dX7_leaving_89 hl (by decide) rfl (fun ls hl => ?_)
  refine lv_iload_n hx hb dX7_leaving_91 rfl (lv_at hl 3 rfl) ?_
  refine lv_if_lt (tgt := 126) hx hb dX7_leaving_92 (by decide) (fun c_1 => ?_) (fun c_1 => ?_)
  · have hm := hm.1 c_1
    refine lv_iload_n hx hb dX7_leaving_126 rfl (lv_at hl 4 rfl) ?_
    refine lv_goto (tgt := 131) hx hb dX7_leaving_127 (by decide) ?_
    refine lv_istore_n (lv' := [(2, .int x3), (8, .long s0), (0, .ref (ad 0)), (1, .int x1), (3, .int x3), (6, .long x6)]) hx hb dX7_leaving_131 rfl hl (by decide) rfl (fun ls hl => ?_)
    obtain ⟨x3_2, ex3_2⟩ : ∃ y : Int32, y = x3 + (1 : Int32) := ⟨_, rfl⟩
    have hm := hm x3_2 ex3_2
    refine lv_iinc (v := x3_2) (lv' := [(3, .int x3_2), (2, .int x3), (8, .long s0), (0, .ref (ad 0)), (1, .int x1), (6, .long x6)]) hx hb dX7_leaving_132 hl (k := 4) rfl (by rw [ex3_2]; rfl) (by decide) rfl (fun ls hl => ?_)
    refine lv_goto (tgt := 4) hx hb dX7_leaving_135 (by decide) ?_
    exact hK4 x1 x3 x3_2 H locs ls hm ⟨hP, hD, hS⟩ (lv_sub hl [3, 4, 1, 0] rfl)
  · have hm := hm.2 c_1
    refine lv_lload hx hb dX7_leaving_95 (lv_at hl 5 rfl) ?_
    refine lv_lload hx hb dX7_leaving_97 (lv_at hl 0 rfl) ?_
    refine lq_lt (tgt := 126) hx hb dX7_leaving_99 dX7_leaving_100 (by decide) (fun c_3 => ?_) (fun c_3 => ?_)
    · have hm := hm.1 c_3
      refine lv_iload_n hx hb dX7_leaving_126 rfl (lv_at hl 4 rfl) ?_
      refine lv_goto (tgt := 131) hx hb dX7_leaving_127 (by decide) ?_
      refine lv_istore_n (lv' := [(2, .int x3), (8, .long s0), (0, .ref (ad 0)), (1, .int x1), (3, .int x3), (6, .long x6)]) hx hb dX7_leaving_131 rfl hl (by decide) rfl (fun ls hl => ?_)
      obtain ⟨x3_4, ex3_4⟩ : ∃ y : Int32, y = x3 + (1 : Int32) := ⟨_, rfl⟩
      have hm := hm x3_4 ex3_4
      refine lv_iinc (v := x3_4) (lv' := [(3, .int x3_4), (2, .int x3), (8, .long s0), (0, .ref (ad 0)), (1, .int x1), (6, .long x6)]) hx hb dX7_leaving_132 hl (k := 4) rfl (by rw [ex3_4]; rfl) (by decide) rfl (fun ls hl => ?_)
      refine lv_goto (tgt := 4) hx hb dX7_leaving_135 (by decide) ?_
      exact hK4 x1 x3 x3_4 H locs ls hm ⟨hP, hD, hS⟩ (lv_sub hl [3, 4, 1, 0] rfl)
    · have hm := hm.2 c_3
      refine lv_lload hx hb dX7_leaving_103 (lv_at hl 5 rfl) ?_
      refine lv_lload hx hb dX7_leaving_105 (lv_at hl 0 rfl) ?_
      refine lq_ne (tgt := 130) hx hb dX7_leaving_107 dX7_leaving_108 (by decide) (fun c_5 => ?_) (fun c_5 => ?_)
      · have hm := hm.2 c_5
        refine lv_iload_n hx hb dX7_leaving_130 rfl (lv_at hl 3 rfl) ?_
        refine lv_istore_n (lv' := [(2, .int x2), (8, .long s0), (0, .ref (ad 0)), (1, .int x1), (3, .int x3), (6, .long x6)]) hx hb dX7_leaving_131 rfl hl (by decide) rfl (fun ls hl => ?_)
        obtain ⟨x3_6, ex3_6⟩ : ∃ y : Int32, y = x3 + (1 : Int32) := ⟨_, rfl⟩
        have hm := hm x3_6 ex3_6
        refine lv_iinc (v := x3_6) (lv' := [(3, .int x3_6), (2, .int x2), (8, .long s0), (0, .ref (ad 0)), (1, .int x1), (6, .long x6)]) hx hb dX7_leaving_132 hl (k := 4) rfl (by rw [ex3_6]; rfl) (by decide) rfl (fun ls hl => ?_)
        refine lv_goto (tgt := 4) hx hb dX7_leaving_135 (by decide) ?_
        exact hK4 x1 x2 x3_6 H locs ls hm ⟨hP, hD, hS⟩ (lv_sub hl [3, 4, 1, 0] rfl)
      · have hm := hm.1 c_5
        refine lv_aload_n hx hb dX7_leaving_111 rfl (lv_at hl 1 rfl) ?_
        refine va_get (D := (dC, dI)) (ci := 7) (v := .ref (ad 4)) (C := RX7) (T := TX7) (N := 14) hx hb hts in_X7_leaving_X7 hown hK hP 0 rfl rfl 4 (by decide) (hts _ fl_X7_leaving_20) (fun _ h9 => h9) rfl dX7_leaving_112 ?_
        refine lv_iload_n hx hb dX7_leaving_115 rfl (lv_at hl 4 rfl) ?_
        have hi_7 := hm.1
        have hm := hm.2
        refine va_iald hx hb hK hP 4 0 rfl rfl hi_7 dX7_leaving_116 ?_
        refine lv_aload_n hx hb dX7_leaving_117 rfl (lv_at hl 1 rfl) ?_
        refine va_get (D := (dC, dI)) (ci := 7) (v := .ref (ad 4)) (C := RX7) (T := TX7) (N := 14) hx hb hts in_X7_leaving_X7 hown hK hP 0 rfl rfl 4 (by decide) (hts _ fl_X7_leaving_20) (fun _ h9 => h9) rfl dX7_leaving_118 ?_
        refine lv_iload_n hx hb dX7_leaving_121 rfl (lv_at hl 3 rfl) ?_
        have hi_8 := hm.1
        have hm := hm.2
        refine va_iald hx hb hK hP 4 0 rfl rfl hi_8 dX7_leaving_122 ?_
        refine lv_icmp_ge (tgt := 130) hx hb dX7_leaving_123 (by decide) (fun c_9 => ?_) (fun c_9 => ?_)
        · have hm := hm.1 c_9
          refine lv_iload_n hx hb dX7_leaving_130 rfl (lv_at hl 3 rfl) ?_
          refine lv_istore_n (lv' := [(2, .int x2), (8, .long s0), (0, .ref (ad 0)), (1, .int x1), (3, .int x3), (6, .long x6)]) hx hb dX7_leaving_131 rfl hl (by decide) rfl (fun ls hl => ?_)
          obtain ⟨x3_10, ex3_10⟩ : ∃ y : Int32, y = x3 + (1 : Int32) := ⟨_, rfl⟩
          have hm := hm x3_10 ex3_10
          refine lv_iinc (v := x3_10) (lv' := [(3, .int x3_10), (2, .int x2), (8, .long s0), (0, .ref (ad 0)), (1, .int x1), (6, .long x6)]) hx hb dX7_leaving_132 hl (k := 4) rfl (by rw [ex3_10]; rfl) (by decide) rfl (fun ls hl => ?_)
          refine lv_goto (tgt := 4) hx hb dX7_leaving_135 (by decide) ?_
          exact hK4 x1 x2 x3_10 H locs ls hm ⟨hP, hD, hS⟩ (lv_sub hl [3, 4, 1, 0] rfl)
        · have hm := hm.2 c_9
          refine lv_iload_n hx hb dX7_leaving_126 rfl (lv_at hl 4 rfl) ?_
          refine lv_goto (tgt := 131) hx hb dX7_leaving_127 (by decide) ?_
          refine lv_istore_n (lv' := [(2, .int x3), (8, .long s0), (0, .ref (ad 0)), (1, .int x1), (3, .int x3), (6, .long x6)]) hx hb dX7_leaving_131 rfl hl (by decide) rfl (fun ls hl => ?_)
          obtain ⟨x3_11, ex3_11⟩ : ∃ y : Int32, y = x3 + (1 : Int32) := ⟨_, rfl⟩
          have hm := hm x3_11 ex3_11
          refine lv_iinc (v := x3_11) (lv' := [(3, .int x3_11), (2, .int x3), (8, .long s0), (0, .ref (ad 0)), (1, .int x1), (6, .long x6)]) hx hb dX7_leaving_132 hl (k := 4) rfl (by rw [ex3_11]; rfl) (by decide) rfl (fun ls hl => ?_)
          refine lv_goto (tgt := 4) hx hb dX7_leaving_135 (by decide) ?_
          exact hK4 x1 x3 x3_11 H locs ls hm ⟨hP, hD, hS⟩ (lv_sub hl [3, 4, 1, 0] rfl)

set_option maxHeartbeats 4000000 in
set_option maxRecDepth 100000 in
theorem k_X7_leaving_4 {N : Nat} {mti : Nat → Int32} {mow : Nat → Int32} {mjo : Int32} {mta : Nat → Int64} {mba : Nat → Int32} {mib : Nat → Int32} {mdi : Int64} {mab : Nat → Int64} {mbe : Nat → Int64} {mpl : Nat → Int32} {mbs : Nat → Int32} {mro : Nat → Int32} {mlo : Nat → Int32} {mth : Int32} {Q : Int32 → Prop} (C0 : cxM cX7_leaving 10 (some .int) RX7 wsX7_leaving p s m args meth c dC dI cy A) :
    ∀ (n : Nat) (x1 : Int32) (x2 : Int32) (x3 : Int32) (H : Heap) (locs : List Loc) (ls : Array Slot) (hm : p_X7_leaving_4 N mjo mta mba Q n x1 x2 x3) (hSt : stC dC dI A s (wM ad cy mti mow mjo mta mba mib mdi mab mbe mpl mbs mro mlo mth) H locs) (hl : lv_has ls 10 [(0, .ref (ad 0)), (1, .int x1), (2, .int x2), (3, .int x3)]) (hret : ∀ (r : Int32) (H : Heap) (locs : List Loc) (ls : Array Slot) (pc : Nat), decode cX7_leaving pc = .ok (.ireturn, 1) → stC dC dI A s (wM ad cy mti mow mjo mta mba mib mdi mab mbe mpl mbs mro mlo mth) H locs → Q r → W p l e rmX7_leaving s m args below meth c H locs 0 0 Z (F0 m pc ls [.int r])), W p l e rmX7_leaving s m args below meth c H locs 0 0 Z (F0 m 4 ls []) := by
  obtain ⟨hx, hb, hml, hr, hown, hts, hlocks, hK, hA, hN⟩ := id C0
  intro n
  induction n with
  | zero => intro x1 x2 x3 H locs ls hm; exact False.elim hm
  | succ n ih =>
    intro x1 x2 x3 H locs ls hm hSt hl hret
    obtain ⟨hP, hD, hS⟩ := hSt
    unfold p_X7_leaving_4 at hm
    refine lv_iload_n hx hb dX7_leaving_4 rfl (lv_at hl 3 rfl) ?_
    refine lv_aload_n hx hb dX7_leaving_5 rfl (lv_at hl 0 rfl) ?_
    have hFc := va_freeSame hD hS hA
    refine va_calli (va_runV (As := []) (rest := [.int x3]) ⟨hx, hb, hml, hown, hts⟩ (c_X7_rows l dC dI cy ad H.size mti mow mjo mta mba mib mdi mab mbe mpl mbs mro mlo mth  _ _ hm) (cwV 0 hts gX7_leaving_X7_rows rfl rfl rfl (by decide +kernel) ⟨Nat.le_of_ble_eq_true rfl, Nat.le_of_ble_eq_true rfl⟩) ⟨cPre_blind, va_recv hK hP (ci := 7) (q0 := 0) rfl rfl, fun U hU hW => ⟨rfl, cPre_at hP hK hD hN hU hW⟩⟩ rfl rfl hl.1 rfl (lv_room (Nat.le_of_ble_eq_true rfl)) dX7_leaving_6 ⟨Nat.zero_le _, Nat.zero_le _⟩) hS (fun q _ h => hFc q h) hFc (fun r_1 u t H locs ht hvm hw hB hz1 hk1 hS => ?_)
    try dsimp only at hw
    have hm := hw
    have hP : va_P (dC, dI) vwCl (wM ad cy mti mow mjo mta mba mib mdi mab mbe mpl mbs mro mlo mth) H := cPost_P ht hB
    have hD : va_D A (wM ad cy mti mow mjo mta mba mib mdi mab mbe mpl mbs mro mlo mth) := cPost_D hFc hB
    refine lv_icmp_ge (tgt := 138) hx hb dX7_leaving_9 (by decide) (fun c_2 => ?_) (fun c_2 => ?_)
    · have hm := hm.1 c_2
      refine lv_iload_n hx hb dX7_leaving_138 rfl (lv_at hl 2 rfl) ?_
      exact hret x2 H locs ls 139 dX7_leaving_139 ⟨hP, hD, hS⟩ hm
    · have hm := hm.2 c_2
      refine lv_aload_n hx hb dX7_leaving_12 rfl (lv_at hl 0 rfl) ?_
      refine va_get (D := (dC, dI)) (ci := 7) (v := .ref (ad 3)) (C := RX7) (T := TX7) (N := 14) hx hb hts in_X7_leaving_X7 hown hK hP 0 rfl rfl 3 (by decide) (hts _ fl_X7_leaving_16) (fun _ h9 => h9) rfl dX7_leaving_13 ?_
      refine lv_bipush (v := 27) hx hb dX7_leaving_16 (by decide) ?_
      refine lv_iload_n hx hb dX7_leaving_18 rfl (lv_at hl 3 rfl) ?_
      refine lv_imul hx hb dX7_leaving_19 ?_
      refine lv_iload_n hx hb dX7_leaving_20 rfl (lv_at hl 1 rfl) ?_
      refine lv_iadd hx hb dX7_leaving_21 ?_
      have hi_3 := hm.1
      have hm := hm.2
      refine va_lald hx hb hK hP 3 1 rfl rfl hi_3 dX7_leaving_22 ?_
      refine lv_topl (fun x4_4 ex4_4 => ?_)
      have hm := hm x4_4 ex4_4
      refine lv_lstore (lv' := [(4, .long x4_4), (0, .ref (ad 0)), (1, .int x1), (2, .int x2), (3, .int x3)]) hx hb dX7_leaving_23 hl (by decide) rfl (fun ls hl => ?_)
      refine lv_lload hx hb dX7_leaving_25 (lv_at hl 0 rfl) ?_
      refine lv_lconst (v := 0) hx hb dX7_leaving_27 (by decide) ?_
      refine lq_le (tgt := 132) hx hb dX7_leaving_28 dX7_leaving_29 (by decide) (fun c_5 => ?_) (fun c_5 => ?_)
      · have hm := hm.1 c_5
        obtain ⟨x3_6, ex3_6⟩ : ∃ y : Int32, y = x3 + (1 : Int32) := ⟨_, rfl⟩
        have hm := hm x3_6 ex3_6
        refine lv_iinc (v := x3_6) (lv' := [(3, .int x3_6), (4, .long x4_4), (0, .ref (ad 0)), (1, .int x1), (2, .int x2)]) hx hb dX7_leaving_132 hl (k := 4) rfl (by rw [ex3_6]; rfl) (by decide) rfl (fun ls hl => ?_)
        refine lv_goto (tgt := 4) hx hb dX7_leaving_135 (by decide) ?_
        exact ih x1 x2 x3_6 H locs ls hm ⟨hP, hD, hS⟩ (lv_sub hl [2, 3, 4, 0] rfl) hret
      · have hm := hm.2 c_5
        refine lv_iload_n hx hb dX7_leaving_32 rfl (lv_at hl 3 rfl) ?_
        refine lv_if_ge (tgt := 40) hx hb dX7_leaving_33 (by decide) (fun c_7 => ?_) (fun c_7 => ?_)
        · have hm := hm.1 c_7
          refine lv_aload_n hx hb dX7_leaving_40 rfl (lv_at hl 1 rfl) ?_
          refine va_get (D := (dC, dI)) (ci := 7) (v := .ref (ad 3)) (C := RX7) (T := TX7) (N := 14) hx hb hts in_X7_leaving_X7 hown hK hP 0 rfl rfl 3 (by decide) (hts _ fl_X7_leaving_16) (fun _ h9 => h9) rfl dX7_leaving_41 ?_
          refine lv_bipush (v := 27) hx hb dX7_leaving_44 (by decide) ?_
          refine lv_iload_n hx hb dX7_leaving_46 rfl (lv_at hl 4 rfl) ?_
          refine lv_imul hx hb dX7_leaving_47 ?_
          refine lv_bipush (v := 26) hx hb dX7_leaving_48 (by decide) ?_
          refine lv_iadd hx hb dX7_leaving_50 ?_
          have hi_8 := hm.1
          have hm := hm.2
          refine va_lald hx hb hK hP 3 1 rfl rfl hi_8 dX7_leaving_51 ?_
          refine lv_aload_n hx hb dX7_leaving_52 rfl (lv_at hl 1 rfl) ?_
          refine va_get (D := (dC, dI)) (ci := 7) (v := .ref (ad 3)) (C := RX7) (T := TX7) (N := 14) hx hb hts in_X7_leaving_X7 hown hK hP 0 rfl rfl 3 (by decide) (hts _ fl_X7_leaving_16) (fun _ h9 => h9) rfl dX7_leaving_53 ?_
          refine lv_bipush (v := 27) hx hb dX7_leaving_56 (by decide) ?_
          refine lv_iload_n hx hb dX7_leaving_58 rfl (lv_at hl 3 rfl) ?_
          refine lv_imul hx hb dX7_leaving_59 ?_
          refine lv_iload_n hx hb dX7_leaving_60 rfl (lv_at hl 2 rfl) ?_
          refine lv_iadd hx hb dX7_leaving_61 ?_
          have hi_9 := hm.1
          have hm := hm.2
          refine va_lald hx hb hK hP 3 1 rfl rfl hi_9 dX7_leaving_62 ?_
          refine lv_lmul hx hb dX7_leaving_63 ?_
          refine lv_topl (fun x6_10 ex6_10 => ?_)
          have hm := hm x6_10 ex6_10
          refine lv_lstore (lv' := [(6, .long x6_10), (4, .long x4_4), (0, .ref (ad 0)), (1, .int x1), (2, .int x2), (3, .int x3)]) hx hb dX7_leaving_64 hl (by decide) rfl (fun ls hl => ?_)
          refine lv_iload_n hx hb dX7_leaving_66 rfl (lv_at hl 4 rfl) ?_
          refine lv_if_ge (tgt := 74) hx hb dX7_leaving_67 (by decide) (fun c_11 => ?_) (fun c_11 => ?_)
          · have hm := hm.1 c_11
            refine lv_aload_n hx hb dX7_leaving_74 rfl (lv_at hl 2 rfl) ?_
            refine va_get (D := (dC, dI)) (ci := 7) (v := .ref (ad 3)) (C := RX7) (T := TX7) (N := 14) hx hb hts in_X7_leaving_X7 hown hK hP 0 rfl rfl 3 (by decide) (hts _ fl_X7_leaving_16) (fun _ h9 => h9) rfl dX7_leaving_75 ?_
            refine lv_bipush (v := 27) hx hb dX7_leaving_78 (by decide) ?_
            refine lv_iload_n hx hb dX7_leaving_80 rfl (lv_at hl 4 rfl) ?_
            refine lv_imul hx hb dX7_leaving_81 ?_
            refine lv_bipush (v := 26) hx hb dX7_leaving_82 (by decide) ?_
            refine lv_iadd hx hb dX7_leaving_84 ?_
            have hi_12 := hm.1
            have hm := hm.2
            refine va_lald hx hb hK hP 3 1 rfl rfl hi_12 dX7_leaving_85 ?_
            refine lv_lload hx hb dX7_leaving_86 (lv_at hl 1 rfl) ?_
            refine lv_lmul hx hb dX7_leaving_88 ?_
            refine k_X7_leaving_89 C0 x1 x2 x3 x6_10 ((mta (((27 : Int32) * x2) + (26 : Int32)).toNatClampNeg) * x4_4) H locs ls hm ⟨hP, hD, hS⟩ (lv_sub hl [2, 3, 4, 5, 0] rfl) hret (fun x1 x2 x3 H locs ls hm hSt hl => ?_)
            · obtain ⟨hP, hD, hS⟩ := hSt
              exact ih x1 x2 x3 H locs ls hm ⟨hP, hD, hS⟩ hl hret
          · have hm := hm.2 c_11
            refine lv_lconst (v := 0) hx hb dX7_leaving_70 (by decide) ?_
            refine lv_goto (tgt := 89) hx hb dX7_leaving_71 (by decide) ?_
            refine k_X7_leaving_89 C0 x1 x2 x3 x6_10 (0 : Int64) H locs ls hm ⟨hP, hD, hS⟩ (lv_sub hl [2, 3, 4, 5, 0] rfl) hret (fun x1 x2 x3 H locs ls hm hSt hl => ?_)
            · obtain ⟨hP, hD, hS⟩ := hSt
              exact ih x1 x2 x3 H locs ls hm ⟨hP, hD, hS⟩ hl hret
        · have hm := hm.2 c_7
          refine lv_lconst (v := 0) hx hb dX7_leaving_36 (by decide) ?_
          refine lv_goto (tgt := 64) hx hb dX7_leaving_37 (by decide) ?_
          refine lv_lstore (lv' := [(6, .long (0 : Int64)), (4, .long x4_4), (0, .ref (ad 0)), (1, .int x1), (2, .int x2), (3, .int x3)]) hx hb dX7_leaving_64 hl (by decide) rfl (fun ls hl => ?_)
          refine lv_iload_n hx hb dX7_leaving_66 rfl (lv_at hl 4 rfl) ?_
          refine lv_if_ge (tgt := 74) hx hb dX7_leaving_67 (by decide) (fun c_13 => ?_) (fun c_13 => ?_)
          · have hm := hm.1 c_13
            refine lv_aload_n hx hb dX7_leaving_74 rfl (lv_at hl 2 rfl) ?_
            refine va_get (D := (dC, dI)) (ci := 7) (v := .ref (ad 3)) (C := RX7) (T := TX7) (N := 14) hx hb hts in_X7_leaving_X7 hown hK hP 0 rfl rfl 3 (by decide) (hts _ fl_X7_leaving_16) (fun _ h9 => h9) rfl dX7_leaving_75 ?_
            refine lv_bipush (v := 27) hx hb dX7_leaving_78 (by decide) ?_
            refine lv_iload_n hx hb dX7_leaving_80 rfl (lv_at hl 4 rfl) ?_
            refine lv_imul hx hb dX7_leaving_81 ?_
            refine lv_bipush (v := 26) hx hb dX7_leaving_82 (by decide) ?_
            refine lv_iadd hx hb dX7_leaving_84 ?_
            have hi_14 := hm.1
            have hm := hm.2
            refine va_lald hx hb hK hP 3 1 rfl rfl hi_14 dX7_leaving_85 ?_
            refine lv_lload hx hb dX7_leaving_86 (lv_at hl 1 rfl) ?_
            refine lv_lmul hx hb dX7_leaving_88 ?_
            refine k_X7_leaving_89 C0 x1 x2 x3 (0 : Int64) ((mta (((27 : Int32) * x2) + (26 : Int32)).toNatClampNeg) * x4_4) H locs ls hm ⟨hP, hD, hS⟩ (lv_sub hl [2, 3, 4, 5, 0] rfl) hret (fun x1 x2 x3 H locs ls hm hSt hl => ?_)
            · obtain ⟨hP, hD, hS⟩ := hSt
              exact ih x1 x2 x3 H locs ls hm ⟨hP, hD, hS⟩ hl hret
          · have hm := hm.2 c_13
            refine lv_lconst (v := 0) hx hb dX7_leaving_70 (by decide) ?_
            refine lv_goto (tgt := 89) hx hb dX7_leaving_71 (by decide) ?_
            refine k_X7_leaving_89 C0 x1 x2 x3 (0 : Int64) (0 : Int64) H locs ls hm ⟨hP, hD, hS⟩ (lv_sub hl [2, 3, 4, 5, 0] rfl) hret (fun x1 x2 x3 H locs ls hm hSt hl => ?_)
            · obtain ⟨hP, hD, hS⟩ := hSt
              exact ih x1 x2 x3 H locs ls hm ⟨hP, hD, hS⟩ hl hret

set_option maxHeartbeats 4000000 in
set_option maxRecDepth 100000 in
theorem k_X7_leaving_0 {N : Nat} {mti : Nat → Int32} {mow : Nat → Int32} {mjo : Int32} {mta : Nat → Int64} {mba : Nat → Int32} {mib : Nat → Int32} {mdi : Int64} {mab : Nat → Int64} {mbe : Nat → Int64} {mpl : Nat → Int32} {mbs : Nat → Int32} {mro : Nat → Int32} {mlo : Nat → Int32} {mth : Int32} {Q : Int32 → Prop} (C0 : cxM cX7_leaving 10 (some .int) RX7 wsX7_leaving p s m args meth c dC dI cy A) :
    ∀ (x1 : Int32) (H : Heap) (locs : List Loc) (ls : Array Slot) (hm : p_X7_leaving N mjo mta mba Q x1) (hSt : stC dC dI A s (wM ad cy mti mow mjo mta mba mib mdi mab mbe mpl mbs mro mlo mth) H locs) (hl : lv_has ls 10 [(0, .ref (ad 0)), (1, .int x1)]) (hret : ∀ (r : Int32) (H : Heap) (locs : List Loc) (ls : Array Slot) (pc : Nat), decode cX7_leaving pc = .ok (.ireturn, 1) → stC dC dI A s (wM ad cy mti mow mjo mta mba mib mdi mab mbe mpl mbs mro mlo mth) H locs → Q r → W p l e rmX7_leaving s m args below meth c H locs 0 0 Z (F0 m pc ls [.int r])), W p l e rmX7_leaving s m args below meth c H locs 0 0 Z (F0 m 0 ls []) := by
  obtain ⟨hx, hb, hml, hr, hown, hts, hlocks, hK, hA, hN⟩ := id C0
  intro x1 H locs ls hm hSt hl hret
  obtain ⟨hP, hD, hS⟩ := hSt
  unfold p_X7_leaving at hm
  refine lv_iconst (v := -1) hx hb dX7_leaving_0 (by decide) ?_
  refine lv_istore_n (lv' := [(2, .int (-1 : Int32)), (0, .ref (ad 0)), (1, .int x1)]) hx hb dX7_leaving_1 rfl hl (by decide) rfl (fun ls hl => ?_)
  refine lv_iconst (v := 0) hx hb dX7_leaving_2 (by decide) ?_
  refine lv_istore_n (lv' := [(3, .int (0 : Int32)), (2, .int (-1 : Int32)), (0, .ref (ad 0)), (1, .int x1)]) hx hb dX7_leaving_3 rfl hl (by decide) rfl (fun ls hl => ?_)
  exact k_X7_leaving_4 C0 N x1 (-1 : Int32) (0 : Int32) H locs ls hm ⟨hP, hD, hS⟩ (lv_sub hl [2, 3, 1, 0] rfl) hret

set_option maxHeartbeats 4000000 in
set_option maxRecDepth 100000 in
theorem c_X7_leaving (l : Launch) (dC : Nat → ClassId) (dI : Nat → Nat → Nat) (cy : Nat → ClassId) (ad : Nat → Nat) (sz : Nat) (mti : Nat → Int32) (mow : Nat → Int32) (mjo : Int32) (mta : Nat → Int64) (mba : Nat → Int32) (mib : Nat → Int32) (mdi : Int64) (mab : Nat → Int64) (mbe : Nat → Int64) (mpl : Nat → Int32) (mbs : Nat → Int32) (mro : Nat → Int32) (mlo : Nat → Int32) (mth : Int32) (x1 : Int32) (N : Nat) (Q : Int32 → Prop) (hm : p_X7_leaving N mjo mta mba Q x1) : Met l yX7_leaving wsX7_leaving rmX7_leaving (va_Pc [.ref (ad 0), .int x1] (cPre dC dI cy (wM ad cy mti mow mjo mta mba mib mdi mab mbe mpl mbs mro mlo mth) sz)) (va_Qi (fun (r : Int32) (u : Unit) => Q r) (fun u t => cPost dC dI cy (wM ad cy mti mow mjo mta mba mib mdi mab mbe mpl mbs mro mlo mth) sz (wM ad cy mti mow mjo mta mba mib mdi mab mbe mpl mbs mro mlo mth) t) (va_A (wM ad cy mti mow mjo mta mba mib mdi mab mbe mpl mbs mro mlo mth) sz)) 0 0 (va_A (wM ad cy mti mow mjo mta mba mib mdi mab mbe mpl mbs mro mlo mth) sz) := by
  refine Met.ofW (cc := cX7_leaving) (maxL := 10) (ret := (some .int)) (by decide) rfl ?_
  intro p e s m args below meth c s₁ B hml hv
  obtain ⟨rfl, hsz, hP, hK, hD0, hN⟩ := hv
  have hts := atoms_spec (ws := wsX7_leaving) B.pre
  have hown : s.vm.findClass RX7 = some m.cls := findClass_of_methodNamed B.named
  subst hsz
  have hD := hD0.self (sz := s.heap.size)
  generalize hAe : va_A (wM ad cy mti mow mjo mta mba mib mdi mab mbe mpl mbs mro mlo mth) s.heap.size = A at hD ⊢
  have hA : ∀ q : Nat, s.heap.size ≤ q → A q := fun q h => by rw [← hAe]; exact Or.inr h
  have hl := lv_entry ([.ref (ad 0), .int x1]) (n := 10) (Nat.le_of_ble_eq_true rfl)
  rw [lg_entry_eq]
  generalize (lg_sl ([.ref (ad 0), .int x1]) ++ List.replicate (10 - (lg_sl ([.ref (ad 0), .int x1])).length) Slot.unset).toArray = ls at hl ⊢
  have hl : lv_has ls 10 [(0, .ref (ad 0)), (1, .int x1)] := hl
  exact k_X7_leaving_0 ⟨B.exec, B.bytes, hml, B.returns, hown, hts, B.notSynchronized, hK, hA, hN⟩ x1 s.heap [] ls hm ⟨hP, hD, va_S.rf⟩ (lv_sub hl [0, 1] rfl) (fun r H locs ls pc hdg hSt hq => W.iret B.exec B.bytes B.returns (fun t ht hW => ⟨⟨r, (), rfl, hq, cPost_of hAe ht hW.alike hSt hK⟩, hSt.2.2.F ht⟩) hSt.2.2.2.2 hdg B.notSynchronized)

-- ===== X7_rowOf
theorem fl_X7_rowOf_20 : Cond.fieldLink RX7 20 "UnlikeUnionModel" "basis" "[I" ∈ wsX7_rowOf := by decide +kernel
theorem in_X7_rowOf_X7 : ∀ w ∈ u_ws RX7 TX7 14, w ∈ wsX7_rowOf := by decide +kernel
abbrev rmX7_rowOf : Room := { frames := 2, cells := 0, slots := 0, locals := 141 }
def p_X7_rowOf_4 (N : Nat) (mjo : Int32) (mba : Nat → Int32) (Q : Int32 → Prop) : Nat → Int32 → Int32 → Int32 → Prop
  | 0 => fun _ _ _ => False
  | n + 1 => fun x1 x2 x3 => p_X7_rows N mjo (fun r_1 => (r_1 ≤ x3 → (Q x2)) ∧ (¬ r_1 ≤ x3 → (vp_in x3 11 ∧ (((mba (x3).toNatClampNeg) = x1 → (∀ x3_6 : Int32, x3_6 = x3 + (1 : Int32) → (p_X7_rowOf_4 N mjo mba Q n x1 x3 x3_6))) ∧ (¬ (mba (x3).toNatClampNeg) = x1 → (∀ x3_5 : Int32, x3_5 = x3 + (1 : Int32) → (p_X7_rowOf_4 N mjo mba Q n x1 x2 x3_5))))))) 

def p_X7_rowOf (N : Nat) (mjo : Int32) (mba : Nat → Int32) (Q : Int32 → Prop) (x1 : Int32) : Prop :=
  p_X7_rowOf_4 N mjo mba Q N x1 (-1 : Int32) (0 : Int32)

set_option maxHeartbeats 4000000 in
set_option maxRecDepth 100000 in
theorem k_X7_rowOf_4 {N : Nat} {mti : Nat → Int32} {mow : Nat → Int32} {mjo : Int32} {mta : Nat → Int64} {mba : Nat → Int32} {mib : Nat → Int32} {mdi : Int64} {mab : Nat → Int64} {mbe : Nat → Int64} {mpl : Nat → Int32} {mbs : Nat → Int32} {mro : Nat → Int32} {mlo : Nat → Int32} {mth : Int32} {Q : Int32 → Prop} (C0 : cxM cX7_rowOf 4 (some .int) RX7 wsX7_rowOf p s m args meth c dC dI cy A) :
    ∀ (n : Nat) (x1 : Int32) (x2 : Int32) (x3 : Int32) (H : Heap) (locs : List Loc) (ls : Array Slot) (hm : p_X7_rowOf_4 N mjo mba Q n x1 x2 x3) (hSt : stC dC dI A s (wM ad cy mti mow mjo mta mba mib mdi mab mbe mpl mbs mro mlo mth) H locs) (hl : lv_has ls 4 [(0, .ref (ad 0)), (1, .int x1), (2, .int x2), (3, .int x3)]) (hret : ∀ (r : Int32) (H : Heap) (locs : List Loc) (ls : Array Slot) (pc : Nat), decode cX7_rowOf pc = .ok (.ireturn, 1) → stC dC dI A s (wM ad cy mti mow mjo mta mba mib mdi mab mbe mpl mbs mro mlo mth) H locs → Q r → W p l e rmX7_rowOf s m args below meth c H locs 0 0 Z (F0 m pc ls [.int r])), W p l e rmX7_rowOf s m args below meth c H locs 0 0 Z (F0 m 4 ls []) := by
  obtain ⟨hx, hb, hml, hr, hown, hts, hlocks, hK, hA, hN⟩ := id C0
  intro n
  induction n with
  | zero => intro x1 x2 x3 H locs ls hm; exact False.elim hm
  | succ n ih =>
    intro x1 x2 x3 H locs ls hm hSt hl hret
    obtain ⟨hP, hD, hS⟩ := hSt
    unfold p_X7_rowOf_4 at hm
    refine lv_iload_n hx hb dX7_rowOf_4 rfl (lv_at hl 3 rfl) ?_
    refine lv_aload_n hx hb dX7_rowOf_5 rfl (lv_at hl 0 rfl) ?_
    have hFc := va_freeSame hD hS hA
    refine va_calli (va_runV (As := []) (rest := [.int x3]) ⟨hx, hb, hml, hown, hts⟩ (c_X7_rows l dC dI cy ad H.size mti mow mjo mta mba mib mdi mab mbe mpl mbs mro mlo mth  _ _ hm) (cwV 0 hts gX7_rowOf_X7_rows rfl rfl rfl (by decide +kernel) ⟨Nat.le_of_ble_eq_true rfl, Nat.le_of_ble_eq_true rfl⟩) ⟨cPre_blind, va_recv hK hP (ci := 7) (q0 := 0) rfl rfl, fun U hU hW => ⟨rfl, cPre_at hP hK hD hN hU hW⟩⟩ rfl rfl hl.1 rfl (lv_room (Nat.le_of_ble_eq_true rfl)) dX7_rowOf_6 ⟨Nat.zero_le _, Nat.zero_le _⟩) hS (fun q _ h => hFc q h) hFc (fun r_1 u t H locs ht hvm hw hB hz1 hk1 hS => ?_)
    try dsimp only at hw
    have hm := hw
    have hP : va_P (dC, dI) vwCl (wM ad cy mti mow mjo mta mba mib mdi mab mbe mpl mbs mro mlo mth) H := cPost_P ht hB
    have hD : va_D A (wM ad cy mti mow mjo mta mba mib mdi mab mbe mpl mbs mro mlo mth) := cPost_D hFc hB
    refine lv_icmp_ge (tgt := 34) hx hb dX7_rowOf_9 (by decide) (fun c_2 => ?_) (fun c_2 => ?_)
    · have hm := hm.1 c_2
      refine lv_iload_n hx hb dX7_rowOf_34 rfl (lv_at hl 2 rfl) ?_
      exact hret x2 H locs ls 35 dX7_rowOf_35 ⟨hP, hD, hS⟩ hm
    · have hm := hm.2 c_2
      refine lv_aload_n hx hb dX7_rowOf_12 rfl (lv_at hl 0 rfl) ?_
      refine va_get (D := (dC, dI)) (ci := 7) (v := .ref (ad 4)) (C := RX7) (T := TX7) (N := 14) hx hb hts in_X7_rowOf_X7 hown hK hP 0 rfl rfl 4 (by decide) (hts _ fl_X7_rowOf_20) (fun _ h9 => h9) rfl dX7_rowOf_13 ?_
      refine lv_iload_n hx hb dX7_rowOf_16 rfl (lv_at hl 3 rfl) ?_
      have hi_3 := hm.1
      have hm := hm.2
      refine va_iald hx hb hK hP 4 0 rfl rfl hi_3 dX7_rowOf_17 ?_
      refine lv_iload_n hx hb dX7_rowOf_18 rfl (lv_at hl 1 rfl) ?_
      refine lv_icmp_ne (tgt := 26) hx hb dX7_rowOf_19 (by decide) (fun c_4 => ?_) (fun c_4 => ?_)
      · have hm := hm.2 c_4
        refine lv_iload_n hx hb dX7_rowOf_26 rfl (lv_at hl 2 rfl) ?_
        refine lv_istore_n (lv' := [(2, .int x2), (0, .ref (ad 0)), (1, .int x1), (3, .int x3)]) hx hb dX7_rowOf_27 rfl hl (by decide) rfl (fun ls hl => ?_)
        obtain ⟨x3_5, ex3_5⟩ : ∃ y : Int32, y = x3 + (1 : Int32) := ⟨_, rfl⟩
        have hm := hm x3_5 ex3_5
        refine lv_iinc (v := x3_5) (lv' := [(3, .int x3_5), (2, .int x2), (0, .ref (ad 0)), (1, .int x1)]) hx hb dX7_rowOf_28 hl (k := 3) rfl (by rw [ex3_5]; rfl) (by decide) rfl (fun ls hl => ?_)
        refine lv_goto (tgt := 4) hx hb dX7_rowOf_31 (by decide) ?_
        exact ih x1 x2 x3_5 H locs ls hm ⟨hP, hD, hS⟩ (lv_sub hl [2, 3, 1, 0] rfl) hret
      · have hm := hm.1 c_4
        refine lv_iload_n hx hb dX7_rowOf_22 rfl (lv_at hl 3 rfl) ?_
        refine lv_goto (tgt := 27) hx hb dX7_rowOf_23 (by decide) ?_
        refine lv_istore_n (lv' := [(2, .int x3), (0, .ref (ad 0)), (1, .int x1), (3, .int x3)]) hx hb dX7_rowOf_27 rfl hl (by decide) rfl (fun ls hl => ?_)
        obtain ⟨x3_6, ex3_6⟩ : ∃ y : Int32, y = x3 + (1 : Int32) := ⟨_, rfl⟩
        have hm := hm x3_6 ex3_6
        refine lv_iinc (v := x3_6) (lv' := [(3, .int x3_6), (2, .int x3), (0, .ref (ad 0)), (1, .int x1)]) hx hb dX7_rowOf_28 hl (k := 3) rfl (by rw [ex3_6]; rfl) (by decide) rfl (fun ls hl => ?_)
        refine lv_goto (tgt := 4) hx hb dX7_rowOf_31 (by decide) ?_
        exact ih x1 x3 x3_6 H locs ls hm ⟨hP, hD, hS⟩ (lv_sub hl [2, 3, 1, 0] rfl) hret

set_option maxHeartbeats 4000000 in
set_option maxRecDepth 100000 in
theorem k_X7_rowOf_0 {N : Nat} {mti : Nat → Int32} {mow : Nat → Int32} {mjo : Int32} {mta : Nat → Int64} {mba : Nat → Int32} {mib : Nat → Int32} {mdi : Int64} {mab : Nat → Int64} {mbe : Nat → Int64} {mpl : Nat → Int32} {mbs : Nat → Int32} {mro : Nat → Int32} {mlo : Nat → Int32} {mth : Int32} {Q : Int32 → Prop} (C0 : cxM cX7_rowOf 4 (some .int) RX7 wsX7_rowOf p s m args meth c dC dI cy A) :
    ∀ (x1 : Int32) (H : Heap) (locs : List Loc) (ls : Array Slot) (hm : p_X7_rowOf N mjo mba Q x1) (hSt : stC dC dI A s (wM ad cy mti mow mjo mta mba mib mdi mab mbe mpl mbs mro mlo mth) H locs) (hl : lv_has ls 4 [(0, .ref (ad 0)), (1, .int x1)]) (hret : ∀ (r : Int32) (H : Heap) (locs : List Loc) (ls : Array Slot) (pc : Nat), decode cX7_rowOf pc = .ok (.ireturn, 1) → stC dC dI A s (wM ad cy mti mow mjo mta mba mib mdi mab mbe mpl mbs mro mlo mth) H locs → Q r → W p l e rmX7_rowOf s m args below meth c H locs 0 0 Z (F0 m pc ls [.int r])), W p l e rmX7_rowOf s m args below meth c H locs 0 0 Z (F0 m 0 ls []) := by
  obtain ⟨hx, hb, hml, hr, hown, hts, hlocks, hK, hA, hN⟩ := id C0
  intro x1 H locs ls hm hSt hl hret
  obtain ⟨hP, hD, hS⟩ := hSt
  unfold p_X7_rowOf at hm
  refine lv_iconst (v := -1) hx hb dX7_rowOf_0 (by decide) ?_
  refine lv_istore_n (lv' := [(2, .int (-1 : Int32)), (0, .ref (ad 0)), (1, .int x1)]) hx hb dX7_rowOf_1 rfl hl (by decide) rfl (fun ls hl => ?_)
  refine lv_iconst (v := 0) hx hb dX7_rowOf_2 (by decide) ?_
  refine lv_istore_n (lv' := [(3, .int (0 : Int32)), (2, .int (-1 : Int32)), (0, .ref (ad 0)), (1, .int x1)]) hx hb dX7_rowOf_3 rfl hl (by decide) rfl (fun ls hl => ?_)
  exact k_X7_rowOf_4 C0 N x1 (-1 : Int32) (0 : Int32) H locs ls hm ⟨hP, hD, hS⟩ (lv_sub hl [2, 3, 1, 0] rfl) hret

set_option maxHeartbeats 4000000 in
set_option maxRecDepth 100000 in
theorem c_X7_rowOf (l : Launch) (dC : Nat → ClassId) (dI : Nat → Nat → Nat) (cy : Nat → ClassId) (ad : Nat → Nat) (sz : Nat) (mti : Nat → Int32) (mow : Nat → Int32) (mjo : Int32) (mta : Nat → Int64) (mba : Nat → Int32) (mib : Nat → Int32) (mdi : Int64) (mab : Nat → Int64) (mbe : Nat → Int64) (mpl : Nat → Int32) (mbs : Nat → Int32) (mro : Nat → Int32) (mlo : Nat → Int32) (mth : Int32) (x1 : Int32) (N : Nat) (Q : Int32 → Prop) (hm : p_X7_rowOf N mjo mba Q x1) : Met l yX7_rowOf wsX7_rowOf rmX7_rowOf (va_Pc [.ref (ad 0), .int x1] (cPre dC dI cy (wM ad cy mti mow mjo mta mba mib mdi mab mbe mpl mbs mro mlo mth) sz)) (va_Qi (fun (r : Int32) (u : Unit) => Q r) (fun u t => cPost dC dI cy (wM ad cy mti mow mjo mta mba mib mdi mab mbe mpl mbs mro mlo mth) sz (wM ad cy mti mow mjo mta mba mib mdi mab mbe mpl mbs mro mlo mth) t) (va_A (wM ad cy mti mow mjo mta mba mib mdi mab mbe mpl mbs mro mlo mth) sz)) 0 0 (va_A (wM ad cy mti mow mjo mta mba mib mdi mab mbe mpl mbs mro mlo mth) sz) := by
  refine Met.ofW (cc := cX7_rowOf) (maxL := 4) (ret := (some .int)) (by decide) rfl ?_
  intro p e s m args below meth c s₁ B hml hv
  obtain ⟨rfl, hsz, hP, hK, hD0, hN⟩ := hv
  have hts := atoms_spec (ws := wsX7_rowOf) B.pre
  have hown : s.vm.findClass RX7 = some m.cls := findClass_of_methodNamed B.named
  subst hsz
  have hD := hD0.self (sz := s.heap.size)
  generalize hAe : va_A (wM ad cy mti mow mjo mta mba mib mdi mab mbe mpl mbs mro mlo mth) s.heap.size = A at hD ⊢
  have hA : ∀ q : Nat, s.heap.size ≤ q → A q := fun q h => by rw [← hAe]; exact Or.inr h
  have hl := lv_entry ([.ref (ad 0), .int x1]) (n := 4) (Nat.le_of_ble_eq_true rfl)
  rw [lg_entry_eq]
  generalize (lg_sl ([.ref (ad 0), .int x1]) ++ List.replicate (4 - (lg_sl ([.ref (ad 0), .int x1])).length) Slot.unset).toArray = ls at hl ⊢
  have hl : lv_has ls 4 [(0, .ref (ad 0)), (1, .int x1)] := hl
  exact k_X7_rowOf_0 ⟨B.exec, B.bytes, hml, B.returns, hown, hts, B.notSynchronized, hK, hA, hN⟩ x1 s.heap [] ls hm ⟨hP, hD, va_S.rf⟩ (lv_sub hl [0, 1] rfl) (fun r H locs ls pc hdg hSt hq => W.iret B.exec B.bytes B.returns (fun t ht hW => ⟨⟨r, (), rfl, hq, cPost_of hAe ht hW.alike hSt hK⟩, hSt.2.2.F ht⟩) hSt.2.2.2.2 hdg B.notSynchronized)

-- ===== X7_lays
theorem fl_X7_lays_16 : Cond.fieldLink RX7 16 "UnlikeUnionModel" "table" "[J" ∈ wsX7_lays := by decide +kernel
theorem fl_X7_lays_23 : Cond.fieldLink RX7 23 "UnlikeUnionModel" "isBarred" "[Z" ∈ wsX7_lays := by decide +kernel
theorem fl_X7_lays_84 : Cond.fieldLink RX7 84 "UnlikeUnionModel" "divisor" "J" ∈ wsX7_lays := by decide +kernel
theorem fl_X7_lays_49 : Cond.fieldLink RX7 49 "UnlikeUnionModel" "jobs" "I" ∈ wsX7_lays := by decide +kernel
theorem fl_X7_lays_7 : Cond.fieldLink RX7 7 "UnlikeUnionModel" "time" "[I" ∈ wsX7_lays := by decide +kernel
theorem fl_X7_lays_20 : Cond.fieldLink RX7 20 "UnlikeUnionModel" "basis" "[I" ∈ wsX7_lays := by decide +kernel
theorem in_X7_lays_X7 : ∀ w ∈ u_ws RX7 TX7 14, w ∈ wsX7_lays := by decide +kernel
abbrev rmX7_lays : Room := { frames := 2, cells := 0, slots := 0, locals := 141 }
def p_X7_lays_76 (N : Nat) (mti : Nat → Int32) (mjo : Int32) (Q : Int32 → (Nat → Int64) → (Nat → Int32) → (Nat → Int32) → Int64 → Prop) (K62 : Int32 → Int32 → Int32 → (Nat → Int64) → (Nat → Int32) → (Nat → Int32) → Int64 → Prop) : Nat → Int32 → Int32 → Int32 → Int32 → Int32 → (Nat → Int64) → (Nat → Int32) → (Nat → Int32) → Int64 → Prop
  | 0 => fun _ _ _ _ _ _ _ _ _ => False
  | n + 1 => fun x1 x2 x3 x4 x5 mta mba mib mdi => ((3 : Int32) ≤ x5 → (vp_in (((27 : Int32) * x3) + (26 : Int32)) 297 ∧ ((x2 = 0 → (∀ x3_4 : Int32, x3_4 = x3 + (1 : Int32) → (K62 x1 (0 : Int32) x3_4 (vp_updL mta (((27 : Int32) * x3) + (26 : Int32)).toNatClampNeg (1 : Int64)) mba mib mdi))) ∧ (¬ x2 = 0 → ((x4 = 0 → (∀ x3_6 : Int32, x3_6 = x3 + (1 : Int32) → (K62 x1 (0 : Int32) x3_6 (vp_updL mta (((27 : Int32) * x3) + (26 : Int32)).toNatClampNeg (1 : Int64)) mba mib mdi))) ∧ (¬ x4 = 0 → (∀ x3_7 : Int32, x3_7 = x3 + (1 : Int32) → (K62 x1 (1 : Int32) x3_7 (vp_updL mta (((27 : Int32) * x3) + (26 : Int32)).toNatClampNeg (1 : Int64)) mba mib mdi)))))))) ∧ (¬ (3 : Int32) ≤ x5 → (∀ x6_8 : Int32, x6_8 = ((3 : Int32) * x3) + x5 → (vp_in (((27 : Int32) * x3) + x6_8) 297 ∧ (vp_in x6_8 21 ∧ (∀ f_11 : Int64, f_11 = (mti (x6_8).toNatClampNeg).toInt64 → (vp_in (((27 : Int32) * (mjo + x5)) + x6_8) 297 ∧ (vp_in x6_8 21 ∧ (((mti (x6_8).toNatClampNeg) = 0 → (vp_in x6_8 26 ∧ ((x4 = 0 → (vp_in x6_8 26 ∧ ((((upd mib (x6_8).toNatClampNeg (vp_nar .boolean (1 : Int32))) (x6_8).toNatClampNeg) = 0 → (∀ x5_21 : Int32, x5_21 = x5 + (1 : Int32) → (p_X7_lays_76 N mti mjo Q K62 n x1 x2 x3 (1 : Int32) x5_21 (vp_updL (vp_updL mta (((27 : Int32) * x3) + x6_8).toNatClampNeg (1 : Int64)) (((27 : Int32) * (mjo + x5)) + x6_8).toNatClampNeg f_11) mba (upd mib (x6_8).toNatClampNeg (vp_nar .boolean (1 : Int32))) mdi))) ∧ (¬ ((upd mib (x6_8).toNatClampNeg (vp_nar .boolean (1 : Int32))) (x6_8).toNatClampNeg) = 0 → (∀ x5_20 : Int32, x5_20 = x5 + (1 : Int32) → (p_X7_lays_76 N mti mjo Q K62 n x1 x2 x3 (0 : Int32) x5_20 (vp_updL (vp_updL mta (((27 : Int32) * x3) + x6_8).toNatClampNeg (1 : Int64)) (((27 : Int32) * (mjo + x5)) + x6_8).toNatClampNeg f_11) mba (upd mib (x6_8).toNatClampNeg (vp_nar .boolean (1 : Int32))) mdi)))))) ∧ (¬ x4 = 0 → (∀ x5_17 : Int32, x5_17 = x5 + (1 : Int32) → (p_X7_lays_76 N mti mjo Q K62 n x1 x2 x3 (1 : Int32) x5_17 (vp_updL (vp_updL mta (((27 : Int32) * x3) + x6_8).toNatClampNeg (1 : Int64)) (((27 : Int32) * (mjo + x5)) + x6_8).toNatClampNeg f_11) mba (upd mib (x6_8).toNatClampNeg (vp_nar .boolean (1 : Int32))) mdi)))))) ∧ (¬ (mti (x6_8).toNatClampNeg) = 0 → (vp_in x6_8 21 ∧ (((mti (x6_8).toNatClampNeg) ≤ x1 → (vp_in x6_8 26 ∧ ((x4 = 0 → (vp_in x6_8 26 ∧ ((((upd mib (x6_8).toNatClampNeg (vp_nar .boolean (0 : Int32))) (x6_8).toNatClampNeg) = 0 → (∀ x5_30 : Int32, x5_30 = x5 + (1 : Int32) → (p_X7_lays_76 N mti mjo Q K62 n x1 x2 x3 (1 : Int32) x5_30 (vp_updL (vp_updL mta (((27 : Int32) * x3) + x6_8).toNatClampNeg (1 : Int64)) (((27 : Int32) * (mjo + x5)) + x6_8).toNatClampNeg f_11) mba (upd mib (x6_8).toNatClampNeg (vp_nar .boolean (0 : Int32))) mdi))) ∧ (¬ ((upd mib (x6_8).toNatClampNeg (vp_nar .boolean (0 : Int32))) (x6_8).toNatClampNeg) = 0 → (∀ x5_29 : Int32, x5_29 = x5 + (1 : Int32) → (p_X7_lays_76 N mti mjo Q K62 n x1 x2 x3 (0 : Int32) x5_29 (vp_updL (vp_updL mta (((27 : Int32) * x3) + x6_8).toNatClampNeg (1 : Int64)) (((27 : Int32) * (mjo + x5)) + x6_8).toNatClampNeg f_11) mba (upd mib (x6_8).toNatClampNeg (vp_nar .boolean (0 : Int32))) mdi)))))) ∧ (¬ x4 = 0 → (∀ x5_26 : Int32, x5_26 = x5 + (1 : Int32) → (p_X7_lays_76 N mti mjo Q K62 n x1 x2 x3 (1 : Int32) x5_26 (vp_updL (vp_updL mta (((27 : Int32) * x3) + x6_8).toNatClampNeg (1 : Int64)) (((27 : Int32) * (mjo + x5)) + x6_8).toNatClampNeg f_11) mba (upd mib (x6_8).toNatClampNeg (vp_nar .boolean (0 : Int32))) mdi)))))) ∧ (¬ (mti (x6_8).toNatClampNeg) ≤ x1 → (vp_in x6_8 26 ∧ ((x4 = 0 → (vp_in x6_8 26 ∧ ((((upd mib (x6_8).toNatClampNeg (vp_nar .boolean (1 : Int32))) (x6_8).toNatClampNeg) = 0 → (∀ x5_37 : Int32, x5_37 = x5 + (1 : Int32) → (p_X7_lays_76 N mti mjo Q K62 n x1 x2 x3 (1 : Int32) x5_37 (vp_updL (vp_updL mta (((27 : Int32) * x3) + x6_8).toNatClampNeg (1 : Int64)) (((27 : Int32) * (mjo + x5)) + x6_8).toNatClampNeg f_11) mba (upd mib (x6_8).toNatClampNeg (vp_nar .boolean (1 : Int32))) mdi))) ∧ (¬ ((upd mib (x6_8).toNatClampNeg (vp_nar .boolean (1 : Int32))) (x6_8).toNatClampNeg) = 0 → (∀ x5_36 : Int32, x5_36 = x5 + (1 : Int32) → (p_X7_lays_76 N mti mjo Q K62 n x1 x2 x3 (0 : Int32) x5_36 (vp_updL (vp_updL mta (((27 : Int32) * x3) + x6_8).toNatClampNeg (1 : Int64)) (((27 : Int32) * (mjo + x5)) + x6_8).toNatClampNeg f_11) mba (upd mib (x6_8).toNatClampNeg (vp_nar .boolean (1 : Int32))) mdi)))))) ∧ (¬ x4 = 0 → (∀ x5_33 : Int32, x5_33 = x5 + (1 : Int32) → (p_X7_lays_76 N mti mjo Q K62 n x1 x2 x3 (1 : Int32) x5_33 (vp_updL (vp_updL mta (((27 : Int32) * x3) + x6_8).toNatClampNeg (1 : Int64)) (((27 : Int32) * (mjo + x5)) + x6_8).toNatClampNeg f_11) mba (upd mib (x6_8).toNatClampNeg (vp_nar .boolean (1 : Int32))) mdi)))))))))))))))))

def p_X7_lays_226 (N : Nat) (mti : Nat → Int32) (mjo : Int32) (Q : Int32 → (Nat → Int64) → (Nat → Int32) → (Nat → Int32) → Int64 → Prop) : Nat → Int32 → Int32 → (Nat → Int64) → (Nat → Int32) → (Nat → Int32) → Int64 → Prop
  | 0 => fun _ _ _ _ _ _ => False
  | n + 1 => fun x2 x3 mta mba mib mdi => ((3 : Int32) ≤ x3 → (p_X7_rows N mjo (fun r_2 => vp_in (((27 : Int32) * (r_2 - (1 : Int32))) + (21 : Int32)) 297 ∧ (p_X7_rows N mjo (fun r_4 => vp_in (((27 : Int32) * (r_4 - (1 : Int32))) + (25 : Int32)) 297 ∧ (p_X7_rows N mjo (fun r_6 => vp_in (((27 : Int32) * (r_6 - (1 : Int32))) + (26 : Int32)) 297 ∧ (p_X7_rows N mjo (fun r_8 => vp_in (r_8 - (1 : Int32)) 11 ∧ ((narrow .boolean (.int x2) = .int x2) ∧ (Q x2 (vp_updL (vp_updL (vp_updL mta (((27 : Int32) * (r_2 - (1 : Int32))) + (21 : Int32)).toNatClampNeg (1 : Int64)) (((27 : Int32) * (r_4 - (1 : Int32))) + (25 : Int32)).toNatClampNeg (1 : Int64)) (((27 : Int32) * (r_6 - (1 : Int32))) + (26 : Int32)).toNatClampNeg (400 : Int64)) (upd mba (r_8 - (1 : Int32)).toNatClampNeg (25 : Int32)) mib mdi))) )) )) )) )) ∧ (¬ (3 : Int32) ≤ x3 → (vp_in (((27 : Int32) * (mjo + x3)) + (21 : Int32)) 297 ∧ (vp_in ((((27 : Int32) * (mjo + x3)) + (22 : Int32)) + x3) 297 ∧ (∀ f_12 : Int32, f_12 = (22 : Int32) + x3 → (vp_in (mjo + x3) 11 ∧ (∀ x3_14 : Int32, x3_14 = x3 + (1 : Int32) → (p_X7_lays_226 N mti mjo Q n x2 x3_14 (vp_updL (vp_updL mta (((27 : Int32) * (mjo + x3)) + (21 : Int32)).toNatClampNeg (-1 : Int64)) ((((27 : Int32) * (mjo + x3)) + (22 : Int32)) + x3).toNatClampNeg (1 : Int64)) (upd mba (mjo + x3).toNatClampNeg f_12) mib mdi)))))))

def p_X7_lays_62 (N : Nat) (mti : Nat → Int32) (mjo : Int32) (Q : Int32 → (Nat → Int64) → (Nat → Int32) → (Nat → Int32) → Int64 → Prop) : Nat → Int32 → Int32 → Int32 → (Nat → Int64) → (Nat → Int32) → (Nat → Int32) → Int64 → Prop
  | 0 => fun _ _ _ _ _ _ _ => False
  | n + 1 => fun x1 x2 x3 mta mba mib mdi => (mjo ≤ x3 → (p_X7_lays_226 N mti mjo Q N x2 (0 : Int32) mta mba mib mdi)) ∧ (¬ mjo ≤ x3 → (p_X7_lays_76 N mti mjo Q (fun x1 x2 x3 mta mba mib mdi => p_X7_lays_62 N mti mjo Q n x1 x2 x3 mta mba mib mdi) N x1 x2 x3 (0 : Int32) (0 : Int32) mta mba mib mdi))

def p_X7_lays_24 (N : Nat) (mti : Nat → Int32) (mjo : Int32) (Q : Int32 → (Nat → Int64) → (Nat → Int32) → (Nat → Int32) → Int64 → Prop) : Nat → Int32 → Int32 → (Nat → Int64) → (Nat → Int32) → (Nat → Int32) → Int64 → Prop
  | 0 => fun _ _ _ _ _ _ => False
  | n + 1 => fun x1 x2 mta mba mib mdi => ((26 : Int32) ≤ x2 → (p_X7_lays_62 N mti mjo Q N x1 (1 : Int32) (0 : Int32) mta mba mib (1 : Int64))) ∧ (¬ (26 : Int32) ≤ x2 → (((21 : Int32) ≤ x2 → (vp_in x2 26 ∧ (∀ x2_4 : Int32, x2_4 = x2 + (1 : Int32) → (p_X7_lays_24 N mti mjo Q n x1 x2_4 mta mba (upd mib (x2).toNatClampNeg (vp_nar .boolean (0 : Int32))) mdi)))) ∧ (¬ (21 : Int32) ≤ x2 → (vp_in x2 26 ∧ (∀ x2_6 : Int32, x2_6 = x2 + (1 : Int32) → (p_X7_lays_24 N mti mjo Q n x1 x2_6 mta mba (upd mib (x2).toNatClampNeg (vp_nar .boolean (1 : Int32))) mdi))))))

def p_X7_lays_2 (N : Nat) (mti : Nat → Int32) (mjo : Int32) (Q : Int32 → (Nat → Int64) → (Nat → Int32) → (Nat → Int32) → Int64 → Prop) : Nat → Int32 → Int32 → (Nat → Int64) → (Nat → Int32) → (Nat → Int32) → Int64 → Prop
  | 0 => fun _ _ _ _ _ _ => False
  | n + 1 => fun x1 x2 mta mba mib mdi => ((297 : Int32) ≤ x2 → (p_X7_lays_24 N mti mjo Q N x1 (0 : Int32) mta mba mib mdi)) ∧ (¬ (297 : Int32) ≤ x2 → (vp_in x2 297 ∧ (∀ x2_3 : Int32, x2_3 = x2 + (1 : Int32) → (p_X7_lays_2 N mti mjo Q n x1 x2_3 (vp_updL mta (x2).toNatClampNeg (0 : Int64)) mba mib mdi))))

def p_X7_lays (N : Nat) (mti : Nat → Int32) (mjo : Int32) (Q : Int32 → (Nat → Int64) → (Nat → Int32) → (Nat → Int32) → Int64 → Prop) (x1 : Int32) (mta : Nat → Int64) (mba : Nat → Int32) (mib : Nat → Int32) (mdi : Int64) : Prop :=
  p_X7_lays_2 N mti mjo Q N x1 (0 : Int32) mta mba mib mdi

set_option maxHeartbeats 4000000 in
set_option maxRecDepth 100000 in
theorem k_X7_lays_76 {N : Nat} {mti : Nat → Int32} {mow : Nat → Int32} {mjo : Int32} {mab : Nat → Int64} {mbe : Nat → Int64} {mpl : Nat → Int32} {mbs : Nat → Int32} {mro : Nat → Int32} {mlo : Nat → Int32} {mth : Int32} {Q : Int32 → (Nat → Int64) → (Nat → Int32) → (Nat → Int32) → Int64 → Prop} {K62 : Int32 → Int32 → Int32 → (Nat → Int64) → (Nat → Int32) → (Nat → Int32) → Int64 → Prop} (C0 : cxM cX7_lays 7 (some .boolean) RX7 wsX7_lays p s m args meth c dC dI cy A) :
    ∀ (n : Nat) (x1 : Int32) (x2 : Int32) (x3 : Int32) (x4 : Int32) (x5 : Int32) (mta : Nat → Int64) (mba : Nat → Int32) (mib : Nat → Int32) (mdi : Int64) (H : Heap) (locs : List Loc) (ls : Array Slot) (hm : p_X7_lays_76 N mti mjo Q K62 n x1 x2 x3 x4 x5 mta mba mib mdi) (hSt : stC dC dI A s (wM ad cy mti mow mjo mta mba mib mdi mab mbe mpl mbs mro mlo mth) H locs) (hl : lv_has ls 7 [(0, .ref (ad 0)), (1, .int x1), (2, .int x2), (3, .int x3), (4, .int x4), (5, .int x5)]) (hret : ∀ (r : Int32) (mta : Nat → Int64) (mba : Nat → Int32) (mib : Nat → Int32) (mdi : Int64) (H : Heap) (locs : List Loc) (ls : Array Slot) (pc : Nat), decode cX7_lays pc = .ok (.ireturn, 1) → narrow .boolean (.int r) = .int r → stC dC dI A s (wM ad cy mti mow mjo mta mba mib mdi mab mbe mpl mbs mro mlo mth) H locs → Q r mta mba mib mdi → W p l e rmX7_lays s m args below meth c H locs 0 0 Z (F0 m pc ls [.int r])) (hK62 : ∀ (x1 : Int32) (x2 : Int32) (x3 : Int32) (mta : Nat → Int64) (mba : Nat → Int32) (mib : Nat → Int32) (mdi : Int64) (H : Heap) (locs : List Loc) (ls : Array Slot), K62 x1 x2 x3 mta mba mib mdi → stC dC dI A s (wM ad cy mti mow mjo mta mba mib mdi mab mbe mpl mbs mro mlo mth) H locs → lv_has ls 7 [(0, .ref (ad 0)), (1, .int x1), (2, .int x2), (3, .int x3)] → W p l e rmX7_lays s m args below meth c H locs 0 0 Z (F0 m 62 ls [])), W p l e rmX7_lays s m args below meth c H locs 0 0 Z (F0 m 76 ls []) := by
  obtain ⟨hx, hb, hml, hr, hown, hts, hlocks, hK, hA, hN⟩ := id C0
  intro n
  induction n with
  | zero => intro x1 x2 x3 x4 x5 mta mba mib mdi H locs ls hm; exact False.elim hm
  | succ n ih =>
    intro x1 x2 x3 x4 x5 mta mba mib mdi H locs ls hm hSt hl hret hK62
    obtain ⟨hP, hD, hS⟩ := hSt
    unfold p_X7_lays_76 at hm
    refine lv_iload hx hb dX7_lays_76 (lv_at hl 5 rfl) ?_
    refine lv_iconst (v := 3) hx hb dX7_lays_78 (by decide) ?_
    refine lv_icmp_ge (tgt := 190) hx hb dX7_lays_79 (by decide) (fun c_1 => ?_) (fun c_1 => ?_)
    · have hm := hm.1 c_1
      refine lv_aload_n hx hb dX7_lays_190 rfl (lv_at hl 0 rfl) ?_
      refine va_get (D := (dC, dI)) (ci := 7) (v := .ref (ad 3)) (C := RX7) (T := TX7) (N := 14) hx hb hts in_X7_lays_X7 hown hK hP 0 rfl rfl 3 (by decide) (hts _ fl_X7_lays_16) (fun _ h9 => h9) rfl dX7_lays_191 ?_
      refine lv_bipush (v := 27) hx hb dX7_lays_194 (by decide) ?_
      refine lv_iload_n hx hb dX7_lays_196 rfl (lv_at hl 3 rfl) ?_
      refine lv_imul hx hb dX7_lays_197 ?_
      refine lv_bipush (v := 26) hx hb dX7_lays_198 (by decide) ?_
      refine lv_iadd hx hb dX7_lays_200 ?_
      refine lv_lconst (v := 1) hx hb dX7_lays_201 (by decide) ?_
      have hi_2 := hm.1
      have hm := hm.2
      refine va_last hx hb hK hP hD hS 3 1 rfl rfl hi_2 dX7_lays_202 (fun H locs hP hD hS => ?_)
      have hP : va_P (dC, dI) vwCl (wM ad cy mti mow mjo (vp_updL mta (((27 : Int32) * x3) + (26 : Int32)).toNatClampNeg (1 : Int64)) mba mib mdi mab mbe mpl mbs mro mlo mth) H := hP
      have hD : va_D A (wM ad cy mti mow mjo (vp_updL mta (((27 : Int32) * x3) + (26 : Int32)).toNatClampNeg (1 : Int64)) mba mib mdi mab mbe mpl mbs mro mlo mth) := hD
      refine lv_iload_n hx hb dX7_lays_203 rfl (lv_at hl 2 rfl) ?_
      refine lv_if_eq (tgt := 216) hx hb dX7_lays_204 (by decide) (fun c_3 => ?_) (fun c_3 => ?_)
      · have hm := hm.1 c_3
        refine lv_iconst (v := 0) hx hb dX7_lays_216 (by decide) ?_
        refine lv_istore_n (lv' := [(2, .int (0 : Int32)), (0, .ref (ad 0)), (1, .int x1), (3, .int x3), (4, .int x4), (5, .int x5)]) hx hb dX7_lays_217 rfl hl (by decide) rfl (fun ls hl => ?_)
        obtain ⟨x3_4, ex3_4⟩ : ∃ y : Int32, y = x3 + (1 : Int32) := ⟨_, rfl⟩
        have hm := hm x3_4 ex3_4
        refine lv_iinc (v := x3_4) (lv' := [(3, .int x3_4), (2, .int (0 : Int32)), (0, .ref (ad 0)), (1, .int x1), (4, .int x4), (5, .int x5)]) hx hb dX7_lays_218 hl (k := 3) rfl (by rw [ex3_4]; rfl) (by decide) rfl (fun ls hl => ?_)
        refine lv_goto (tgt := 62) hx hb dX7_lays_221 (by decide) ?_
        exact hK62 x1 (0 : Int32) x3_4 (vp_updL mta (((27 : Int32) * x3) + (26 : Int32)).toNatClampNeg (1 : Int64)) mba mib mdi H locs ls hm ⟨hP, hD, hS⟩ (lv_sub hl [2, 3, 1, 0] rfl)
      · have hm := hm.2 c_3
        refine lv_iload hx hb dX7_lays_207 (lv_at hl 4 rfl) ?_
        refine lv_if_eq (tgt := 216) hx hb dX7_lays_209 (by decide) (fun c_5 => ?_) (fun c_5 => ?_)
        · have hm := hm.1 c_5
          refine lv_iconst (v := 0) hx hb dX7_lays_216 (by decide) ?_
          refine lv_istore_n (lv' := [(2, .int (0 : Int32)), (0, .ref (ad 0)), (1, .int x1), (3, .int x3), (4, .int x4), (5, .int x5)]) hx hb dX7_lays_217 rfl hl (by decide) rfl (fun ls hl => ?_)
          obtain ⟨x3_6, ex3_6⟩ : ∃ y : Int32, y = x3 + (1 : Int32) := ⟨_, rfl⟩
          have hm := hm x3_6 ex3_6
          refine lv_iinc (v := x3_6) (lv' := [(3, .int x3_6), (2, .int (0 : Int32)), (0, .ref (ad 0)), (1, .int x1), (4, .int x4), (5, .int x5)]) hx hb dX7_lays_218 hl (k := 3) rfl (by rw [ex3_6]; rfl) (by decide) rfl (fun ls hl => ?_)
          refine lv_goto (tgt := 62) hx hb dX7_lays_221 (by decide) ?_
          exact hK62 x1 (0 : Int32) x3_6 (vp_updL mta (((27 : Int32) * x3) + (26 : Int32)).toNatClampNeg (1 : Int64)) mba mib mdi H locs ls hm ⟨hP, hD, hS⟩ (lv_sub hl [2, 3, 1, 0] rfl)
        · have hm := hm.2 c_5
          refine lv_iconst (v := 1) hx hb dX7_lays_212 (by decide) ?_
          refine lv_goto (tgt := 217) hx hb dX7_lays_213 (by decide) ?_
          refine lv_istore_n (lv' := [(2, .int (1 : Int32)), (0, .ref (ad 0)), (1, .int x1), (3, .int x3), (4, .int x4), (5, .int x5)]) hx hb dX7_lays_217 rfl hl (by decide) rfl (fun ls hl => ?_)
          obtain ⟨x3_7, ex3_7⟩ : ∃ y : Int32, y = x3 + (1 : Int32) := ⟨_, rfl⟩
          have hm := hm x3_7 ex3_7
          refine lv_iinc (v := x3_7) (lv' := [(3, .int x3_7), (2, .int (1 : Int32)), (0, .ref (ad 0)), (1, .int x1), (4, .int x4), (5, .int x5)]) hx hb dX7_lays_218 hl (k := 3) rfl (by rw [ex3_7]; rfl) (by decide) rfl (fun ls hl => ?_)
          refine lv_goto (tgt := 62) hx hb dX7_lays_221 (by decide) ?_
          exact hK62 x1 (1 : Int32) x3_7 (vp_updL mta (((27 : Int32) * x3) + (26 : Int32)).toNatClampNeg (1 : Int64)) mba mib mdi H locs ls hm ⟨hP, hD, hS⟩ (lv_sub hl [2, 3, 1, 0] rfl)
    · have hm := hm.2 c_1
      refine lv_iconst (v := 3) hx hb dX7_lays_82 (by decide) ?_
      refine lv_iload_n hx hb dX7_lays_83 rfl (lv_at hl 3 rfl) ?_
      refine lv_imul hx hb dX7_lays_84 ?_
      refine lv_iload hx hb dX7_lays_85 (lv_at hl 5 rfl) ?_
      refine lv_iadd hx hb dX7_lays_87 ?_
      refine lv_topi (fun x6_8 ex6_8 => ?_)
      have hm := hm x6_8 ex6_8
      refine lv_istore (lv' := [(6, .int x6_8), (0, .ref (ad 0)), (1, .int x1), (2, .int x2), (3, .int x3), (4, .int x4), (5, .int x5)]) hx hb dX7_lays_88 hl (by decide) rfl (fun ls hl => ?_)
      refine lv_aload_n hx hb dX7_lays_90 rfl (lv_at hl 1 rfl) ?_
      refine va_get (D := (dC, dI)) (ci := 7) (v := .ref (ad 3)) (C := RX7) (T := TX7) (N := 14) hx hb hts in_X7_lays_X7 hown hK hP 0 rfl rfl 3 (by decide) (hts _ fl_X7_lays_16) (fun _ h9 => h9) rfl dX7_lays_91 ?_
      refine lv_bipush (v := 27) hx hb dX7_lays_94 (by decide) ?_
      refine lv_iload_n hx hb dX7_lays_96 rfl (lv_at hl 4 rfl) ?_
      refine lv_imul hx hb dX7_lays_97 ?_
      refine lv_iload hx hb dX7_lays_98 (lv_at hl 0 rfl) ?_
      refine lv_iadd hx hb dX7_lays_100 ?_
      refine lv_lconst (v := 1) hx hb dX7_lays_101 (by decide) ?_
      have hi_9 := hm.1
      have hm := hm.2
      refine va_last hx hb hK hP hD hS 3 1 rfl rfl hi_9 dX7_lays_102 (fun H locs hP hD hS => ?_)
      have hP : va_P (dC, dI) vwCl (wM ad cy mti mow mjo (vp_updL mta (((27 : Int32) * x3) + x6_8).toNatClampNeg (1 : Int64)) mba mib mdi mab mbe mpl mbs mro mlo mth) H := hP
      have hD : va_D A (wM ad cy mti mow mjo (vp_updL mta (((27 : Int32) * x3) + x6_8).toNatClampNeg (1 : Int64)) mba mib mdi mab mbe mpl mbs mro mlo mth) := hD
      refine lv_aload_n hx hb dX7_lays_103 rfl (lv_at hl 1 rfl) ?_
      refine va_get (D := (dC, dI)) (ci := 7) (v := .ref (ad 3)) (C := RX7) (T := TX7) (N := 14) hx hb hts in_X7_lays_X7 hown hK hP 0 rfl rfl 3 (by decide) (hts _ fl_X7_lays_16) (fun _ h9 => h9) rfl dX7_lays_104 ?_
      refine lv_bipush (v := 27) hx hb dX7_lays_107 (by decide) ?_
      refine lv_aload_n hx hb dX7_lays_109 rfl (lv_at hl 1 rfl) ?_
      refine va_get (D := (dC, dI)) (ci := 7) (v := .int mjo) (C := RX7) (T := TX7) (N := 14) hx hb hts in_X7_lays_X7 hown hK hP 0 rfl rfl 2 (by decide) (hts _ fl_X7_lays_49) (fun _ h9 => h9) rfl dX7_lays_110 ?_
      refine lv_iload hx hb dX7_lays_113 (lv_at hl 6 rfl) ?_
      refine lv_iadd hx hb dX7_lays_115 ?_
      refine lv_imul hx hb dX7_lays_116 ?_
      refine lv_iload hx hb dX7_lays_117 (lv_at hl 0 rfl) ?_
      refine lv_iadd hx hb dX7_lays_119 ?_
      refine lv_aload_n hx hb dX7_lays_120 rfl (lv_at hl 1 rfl) ?_
      refine va_get (D := (dC, dI)) (ci := 7) (v := .ref (ad 1)) (C := RX7) (T := TX7) (N := 14) hx hb hts in_X7_lays_X7 hown hK hP 0 rfl rfl 0 (by decide) (hts _ fl_X7_lays_7) (fun _ h9 => h9) rfl dX7_lays_121 ?_
      refine lv_iload hx hb dX7_lays_124 (lv_at hl 0 rfl) ?_
      have hi_10 := hm.1
      have hm := hm.2
      refine va_iald hx hb hK hP 1 0 rfl rfl hi_10 dX7_lays_126 ?_
      refine lv_i2l (v := (mti (x6_8).toNatClampNeg).toInt64) hx hb dX7_lays_127 rfl ?_
      refine lv_topl (fun f_11 ef_11 => ?_)
      have hm := hm f_11 ef_11
      have hi_12 := hm.1
      have hm := hm.2
      refine va_last hx hb hK hP hD hS 3 1 rfl rfl hi_12 dX7_lays_128 (fun H locs hP hD hS => ?_)
      have hP : va_P (dC, dI) vwCl (wM ad cy mti mow mjo (vp_updL (vp_updL mta (((27 : Int32) * x3) + x6_8).toNatClampNeg (1 : Int64)) (((27 : Int32) * (mjo + x5)) + x6_8).toNatClampNeg f_11) mba mib mdi mab mbe mpl mbs mro mlo mth) H := hP
      have hD : va_D A (wM ad cy mti mow mjo (vp_updL (vp_updL mta (((27 : Int32) * x3) + x6_8).toNatClampNeg (1 : Int64)) (((27 : Int32) * (mjo + x5)) + x6_8).toNatClampNeg f_11) mba mib mdi mab mbe mpl mbs mro mlo mth) := hD
      refine lv_aload_n hx hb dX7_lays_129 rfl (lv_at hl 1 rfl) ?_
      refine va_get (D := (dC, dI)) (ci := 7) (v := .ref (ad 5)) (C := RX7) (T := TX7) (N := 14) hx hb hts in_X7_lays_X7 hown hK hP 0 rfl rfl 5 (by decide) (hts _ fl_X7_lays_23) (fun _ h9 => h9) rfl dX7_lays_130 ?_
      refine lv_iload hx hb dX7_lays_133 (lv_at hl 0 rfl) ?_
      refine lv_aload_n hx hb dX7_lays_135 rfl (lv_at hl 1 rfl) ?_
      refine va_get (D := (dC, dI)) (ci := 7) (v := .ref (ad 1)) (C := RX7) (T := TX7) (N := 14) hx hb hts in_X7_lays_X7 hown hK hP 0 rfl rfl 0 (by decide) (hts _ fl_X7_lays_7) (fun _ h9 => h9) rfl dX7_lays_136 ?_
      refine lv_iload hx hb dX7_lays_139 (lv_at hl 0 rfl) ?_
      have hi_13 := hm.1
      have hm := hm.2
      refine va_iald hx hb hK hP 1 0 rfl rfl hi_13 dX7_lays_141 ?_
      refine lv_if_eq (tgt := 156) hx hb dX7_lays_142 (by decide) (fun c_14 => ?_) (fun c_14 => ?_)
      · have hm := hm.1 c_14
        refine lv_iconst (v := 1) hx hb dX7_lays_156 (by decide) ?_
        refine lv_goto (tgt := 161) hx hb dX7_lays_157 (by decide) ?_
        have hi_15 := hm.1
        have hm := hm.2
        refine va_zast hx hb hK hP hD hS 5 2 rfl rfl hi_15 dX7_lays_161 (fun H locs hP hD hS => ?_)
        have hP : va_P (dC, dI) vwCl (wM ad cy mti mow mjo (vp_updL (vp_updL mta (((27 : Int32) * x3) + x6_8).toNatClampNeg (1 : Int64)) (((27 : Int32) * (mjo + x5)) + x6_8).toNatClampNeg f_11) mba (upd mib (x6_8).toNatClampNeg (vp_nar .boolean (1 : Int32))) mdi mab mbe mpl mbs mro mlo mth) H := hP
        have hD : va_D A (wM ad cy mti mow mjo (vp_updL (vp_updL mta (((27 : Int32) * x3) + x6_8).toNatClampNeg (1 : Int64)) (((27 : Int32) * (mjo + x5)) + x6_8).toNatClampNeg f_11) mba (upd mib (x6_8).toNatClampNeg (vp_nar .boolean (1 : Int32))) mdi mab mbe mpl mbs mro mlo mth) := hD
        refine lv_iload hx hb dX7_lays_162 (lv_at hl 5 rfl) ?_
        refine lv_if_ne (tgt := 177) hx hb dX7_lays_164 (by decide) (fun c_16 => ?_) (fun c_16 => ?_)
        · have hm := hm.2 c_16
          refine lv_iconst (v := 1) hx hb dX7_lays_177 (by decide) ?_
          refine lv_goto (tgt := 182) hx hb dX7_lays_178 (by decide) ?_
          refine lv_istore (lv' := [(4, .int (1 : Int32)), (6, .int x6_8), (0, .ref (ad 0)), (1, .int x1), (2, .int x2), (3, .int x3), (5, .int x5)]) hx hb dX7_lays_182 hl (by decide) rfl (fun ls hl => ?_)
          obtain ⟨x5_17, ex5_17⟩ : ∃ y : Int32, y = x5 + (1 : Int32) := ⟨_, rfl⟩
          have hm := hm x5_17 ex5_17
          refine lv_iinc (v := x5_17) (lv' := [(5, .int x5_17), (4, .int (1 : Int32)), (6, .int x6_8), (0, .ref (ad 0)), (1, .int x1), (2, .int x2), (3, .int x3)]) hx hb dX7_lays_184 hl (k := 6) rfl (by rw [ex5_17]; rfl) (by decide) rfl (fun ls hl => ?_)
          refine lv_goto (tgt := 76) hx hb dX7_lays_187 (by decide) ?_
          exact ih x1 x2 x3 (1 : Int32) x5_17 (vp_updL (vp_updL mta (((27 : Int32) * x3) + x6_8).toNatClampNeg (1 : Int64)) (((27 : Int32) * (mjo + x5)) + x6_8).toNatClampNeg f_11) mba (upd mib (x6_8).toNatClampNeg (vp_nar .boolean (1 : Int32))) mdi H locs ls hm ⟨hP, hD, hS⟩ (lv_sub hl [3, 4, 5, 6, 1, 0] rfl) hret hK62
        · have hm := hm.1 c_16
          refine lv_aload_n hx hb dX7_lays_167 rfl (lv_at hl 1 rfl) ?_
          refine va_get (D := (dC, dI)) (ci := 7) (v := .ref (ad 5)) (C := RX7) (T := TX7) (N := 14) hx hb hts in_X7_lays_X7 hown hK hP 0 rfl rfl 5 (by decide) (hts _ fl_X7_lays_23) (fun _ h9 => h9) rfl dX7_lays_168 ?_
          refine lv_iload hx hb dX7_lays_171 (lv_at hl 0 rfl) ?_
          have hi_18 := hm.1
          have hm := hm.2
          refine va_zald hx hb hK hP 5 2 rfl rfl hi_18 dX7_lays_173 ?_
          refine lv_if_ne (tgt := 181) hx hb dX7_lays_174 (by decide) (fun c_19 => ?_) (fun c_19 => ?_)
          · have hm := hm.2 c_19
            refine lv_iconst (v := 0) hx hb dX7_lays_181 (by decide) ?_
            refine lv_istore (lv' := [(4, .int (0 : Int32)), (6, .int x6_8), (0, .ref (ad 0)), (1, .int x1), (2, .int x2), (3, .int x3), (5, .int x5)]) hx hb dX7_lays_182 hl (by decide) rfl (fun ls hl => ?_)
            obtain ⟨x5_20, ex5_20⟩ : ∃ y : Int32, y = x5 + (1 : Int32) := ⟨_, rfl⟩
            have hm := hm x5_20 ex5_20
            refine lv_iinc (v := x5_20) (lv' := [(5, .int x5_20), (4, .int (0 : Int32)), (6, .int x6_8), (0, .ref (ad 0)), (1, .int x1), (2, .int x2), (3, .int x3)]) hx hb dX7_lays_184 hl (k := 6) rfl (by rw [ex5_20]; rfl) (by decide) rfl (fun ls hl => ?_)
            refine lv_goto (tgt := 76) hx hb dX7_lays_187 (by decide) ?_
            exact ih x1 x2 x3 (0 : Int32) x5_20 (vp_updL (vp_updL mta (((27 : Int32) * x3) + x6_8).toNatClampNeg (1 : Int64)) (((27 : Int32) * (mjo + x5)) + x6_8).toNatClampNeg f_11) mba (upd mib (x6_8).toNatClampNeg (vp_nar .boolean (1 : Int32))) mdi H locs ls hm ⟨hP, hD, hS⟩ (lv_sub hl [3, 4, 5, 6, 1, 0] rfl) hret hK62
          · have hm := hm.1 c_19
            refine lv_iconst (v := 1) hx hb dX7_lays_177 (by decide) ?_
            refine lv_goto (tgt := 182) hx hb dX7_lays_178 (by decide) ?_
            refine lv_istore (lv' := [(4, .int (1 : Int32)), (6, .int x6_8), (0, .ref (ad 0)), (1, .int x1), (2, .int x2), (3, .int x3), (5, .int x5)]) hx hb dX7_lays_182 hl (by decide) rfl (fun ls hl => ?_)
            obtain ⟨x5_21, ex5_21⟩ : ∃ y : Int32, y = x5 + (1 : Int32) := ⟨_, rfl⟩
            have hm := hm x5_21 ex5_21
            refine lv_iinc (v := x5_21) (lv' := [(5, .int x5_21), (4, .int (1 : Int32)), (6, .int x6_8), (0, .ref (ad 0)), (1, .int x1), (2, .int x2), (3, .int x3)]) hx hb dX7_lays_184 hl (k := 6) rfl (by rw [ex5_21]; rfl) (by decide) rfl (fun ls hl => ?_)
            refine lv_goto (tgt := 76) hx hb dX7_lays_187 (by decide) ?_
            exact ih x1 x2 x3 (1 : Int32) x5_21 (vp_updL (vp_updL mta (((27 : Int32) * x3) + x6_8).toNatClampNeg (1 : Int64)) (((27 : Int32) * (mjo + x5)) + x6_8).toNatClampNeg f_11) mba (upd mib (x6_8).toNatClampNeg (vp_nar .boolean (1 : Int32))) mdi H locs ls hm ⟨hP, hD, hS⟩ (lv_sub hl [3, 4, 5, 6, 1, 0] rfl) hret hK62
      · have hm := hm.2 c_14
        refine lv_aload_n hx hb dX7_lays_145 rfl (lv_at hl 1 rfl) ?_
        refine va_get (D := (dC, dI)) (ci := 7) (v := .ref (ad 1)) (C := RX7) (T := TX7) (N := 14) hx hb hts in_X7_lays_X7 hown hK hP 0 rfl rfl 0 (by decide) (hts _ fl_X7_lays_7) (fun _ h9 => h9) rfl dX7_lays_146 ?_
        refine lv_iload hx hb dX7_lays_149 (lv_at hl 0 rfl) ?_
        have hi_22 := hm.1
        have hm := hm.2
        refine va_iald hx hb hK hP 1 0 rfl rfl hi_22 dX7_lays_151 ?_
        refine lv_iload_n hx hb dX7_lays_152 rfl (lv_at hl 2 rfl) ?_
        refine lv_icmp_le (tgt := 160) hx hb dX7_lays_153 (by decide) (fun c_23 => ?_) (fun c_23 => ?_)
        · have hm := hm.1 c_23
          refine lv_iconst (v := 0) hx hb dX7_lays_160 (by decide) ?_
          have hi_24 := hm.1
          have hm := hm.2
          refine va_zast hx hb hK hP hD hS 5 2 rfl rfl hi_24 dX7_lays_161 (fun H locs hP hD hS => ?_)
          have hP : va_P (dC, dI) vwCl (wM ad cy mti mow mjo (vp_updL (vp_updL mta (((27 : Int32) * x3) + x6_8).toNatClampNeg (1 : Int64)) (((27 : Int32) * (mjo + x5)) + x6_8).toNatClampNeg f_11) mba (upd mib (x6_8).toNatClampNeg (vp_nar .boolean (0 : Int32))) mdi mab mbe mpl mbs mro mlo mth) H := hP
          have hD : va_D A (wM ad cy mti mow mjo (vp_updL (vp_updL mta (((27 : Int32) * x3) + x6_8).toNatClampNeg (1 : Int64)) (((27 : Int32) * (mjo + x5)) + x6_8).toNatClampNeg f_11) mba (upd mib (x6_8).toNatClampNeg (vp_nar .boolean (0 : Int32))) mdi mab mbe mpl mbs mro mlo mth) := hD
          refine lv_iload hx hb dX7_lays_162 (lv_at hl 5 rfl) ?_
          refine lv_if_ne (tgt := 177) hx hb dX7_lays_164 (by decide) (fun c_25 => ?_) (fun c_25 => ?_)
          · have hm := hm.2 c_25
            refine lv_iconst (v := 1) hx hb dX7_lays_177 (by decide) ?_
            refine lv_goto (tgt := 182) hx hb dX7_lays_178 (by decide) ?_
            refine lv_istore (lv' := [(4, .int (1 : Int32)), (6, .int x6_8), (0, .ref (ad 0)), (1, .int x1), (2, .int x2), (3, .int x3), (5, .int x5)]) hx hb dX7_lays_182 hl (by decide) rfl (fun ls hl => ?_)
            obtain ⟨x5_26, ex5_26⟩ : ∃ y : Int32, y = x5 + (1 : Int32) := ⟨_, rfl⟩
            have hm := hm x5_26 ex5_26
            refine lv_iinc (v := x5_26) (lv' := [(5, .int x5_26), (4, .int (1 : Int32)), (6, .int x6_8), (0, .ref (ad 0)), (1, .int x1), (2, .int x2), (3, .int x3)]) hx hb dX7_lays_184 hl (k := 6) rfl (by rw [ex5_26]; rfl) (by decide) rfl (fun ls hl => ?_)
            refine lv_goto (tgt := 76) hx hb dX7_lays_187 (by decide) ?_
            exact ih x1 x2 x3 (1 : Int32) x5_26 (vp_updL (vp_updL mta (((27 : Int32) * x3) + x6_8).toNatClampNeg (1 : Int64)) (((27 : Int32) * (mjo + x5)) + x6_8).toNatClampNeg f_11) mba (upd mib (x6_8).toNatClampNeg (vp_nar .boolean (0 : Int32))) mdi H locs ls hm ⟨hP, hD, hS⟩ (lv_sub hl [3, 4, 5, 6, 1, 0] rfl) hret hK62
          · have hm := hm.1 c_25
            refine lv_aload_n hx hb dX7_lays_167 rfl (lv_at hl 1 rfl) ?_
            refine va_get (D := (dC, dI)) (ci := 7) (v := .ref (ad 5)) (C := RX7) (T := TX7) (N := 14) hx hb hts in_X7_lays_X7 hown hK hP 0 rfl rfl 5 (by decide) (hts _ fl_X7_lays_23) (fun _ h9 => h9) rfl dX7_lays_168 ?_
            refine lv_iload hx hb dX7_lays_171 (lv_at hl 0 rfl) ?_
            have hi_27 := hm.1
            have hm := hm.2
            refine va_zald hx hb hK hP 5 2 rfl rfl hi_27 dX7_lays_173 ?_
            refine lv_if_ne (tgt := 181) hx hb dX7_lays_174 (by decide) (fun c_28 => ?_) (fun c_28 => ?_)
            · have hm := hm.2 c_28
              refine lv_iconst (v := 0) hx hb dX7_lays_181 (by decide) ?_
              refine lv_istore (lv' := [(4, .int (0 : Int32)), (6, .int x6_8), (0, .ref (ad 0)), (1, .int x1), (2, .int x2), (3, .int x3), (5, .int x5)]) hx hb dX7_lays_182 hl (by decide) rfl (fun ls hl => ?_)
              obtain ⟨x5_29, ex5_29⟩ : ∃ y : Int32, y = x5 + (1 : Int32) := ⟨_, rfl⟩
              have hm := hm x5_29 ex5_29
              refine lv_iinc (v := x5_29) (lv' := [(5, .int x5_29), (4, .int (0 : Int32)), (6, .int x6_8), (0, .ref (ad 0)), (1, .int x1), (2, .int x2), (3, .int x3)]) hx hb dX7_lays_184 hl (k := 6) rfl (by rw [ex5_29]; rfl) (by decide) rfl (fun ls hl => ?_)
              refine lv_goto (tgt := 76) hx hb dX7_lays_187 (by decide) ?_
              exact ih x1 x2 x3 (0 : Int32) x5_29 (vp_updL (vp_updL mta (((27 : Int32) * x3) + x6_8).toNatClampNeg (1 : Int64)) (((27 : Int32) * (mjo + x5)) + x6_8).toNatClampNeg f_11) mba (upd mib (x6_8).toNatClampNeg (vp_nar .boolean (0 : Int32))) mdi H locs ls hm ⟨hP, hD, hS⟩ (lv_sub hl [3, 4, 5, 6, 1, 0] rfl) hret hK62
            · have hm := hm.1 c_28
              refine lv_iconst (v := 1) hx hb dX7_lays_177 (by decide) ?_
              refine lv_goto (tgt := 182) hx hb dX7_lays_178 (by decide) ?_
              refine lv_istore (lv' := [(4, .int (1 : Int32)), (6, .int x6_8), (0, .ref (ad 0)), (1, .int x1), (2, .int x2), (3, .int x3), (5, .int x5)]) hx hb dX7_lays_182 hl (by decide) rfl (fun ls hl => ?_)
              obtain ⟨x5_30, ex5_30⟩ : ∃ y : Int32, y = x5 + (1 : Int32) := ⟨_, rfl⟩
              have hm := hm x5_30 ex5_30
              refine lv_iinc (v := x5_30) (lv' := [(5, .int x5_30), (4, .int (1 : Int32)), (6, .int x6_8), (0, .ref (ad 0)), (1, .int x1), (2, .int x2), (3, .int x3)]) hx hb dX7_lays_184 hl (k := 6) rfl (by rw [ex5_30]; rfl) (by decide) rfl (fun ls hl => ?_)
              refine lv_goto (tgt := 76) hx hb dX7_lays_187 (by decide) ?_
              exact ih x1 x2 x3 (1 : Int32) x5_30 (vp_updL (vp_updL mta (((27 : Int32) * x3) + x6_8).toNatClampNeg (1 : Int64)) (((27 : Int32) * (mjo + x5)) + x6_8).toNatClampNeg f_11) mba (upd mib (x6_8).toNatClampNeg (vp_nar .boolean (0 : Int32))) mdi H locs ls hm ⟨hP, hD, hS⟩ (lv_sub hl [3, 4, 5, 6, 1, 0] rfl) hret hK62
        · have hm := hm.2 c_23
          refine lv_iconst (v := 1) hx hb dX7_lays_156 (by decide) ?_
          refine lv_goto (tgt := 161) hx hb dX7_lays_157 (by decide) ?_
          have hi_31 := hm.1
          have hm := hm.2
          refine va_zast hx hb hK hP hD hS 5 2 rfl rfl hi_31 dX7_lays_161 (fun H locs hP hD hS => ?_)
          have hP : va_P (dC, dI) vwCl (wM ad cy mti mow mjo (vp_updL (vp_updL mta (((27 : Int32) * x3) + x6_8).toNatClampNeg (1 : Int64)) (((27 : Int32) * (mjo + x5)) + x6_8).toNatClampNeg f_11) mba (upd mib (x6_8).toNatClampNeg (vp_nar .boolean (1 : Int32))) mdi mab mbe mpl mbs mro mlo mth) H := hP
          have hD : va_D A (wM ad cy mti mow mjo (vp_updL (vp_updL mta (((27 : Int32) * x3) + x6_8).toNatClampNeg (1 : Int64)) (((27 : Int32) * (mjo + x5)) + x6_8).toNatClampNeg f_11) mba (upd mib (x6_8).toNatClampNeg (vp_nar .boolean (1 : Int32))) mdi mab mbe mpl mbs mro mlo mth) := hD
          refine lv_iload hx hb dX7_lays_162 (lv_at hl 5 rfl) ?_
          refine lv_if_ne (tgt := 177) hx hb dX7_lays_164 (by decide) (fun c_32 => ?_) (fun c_32 => ?_)
          · have hm := hm.2 c_32
            refine lv_iconst (v := 1) hx hb dX7_lays_177 (by decide) ?_
            refine lv_goto (tgt := 182) hx hb dX7_lays_178 (by decide) ?_
            refine lv_istore (lv' := [(4, .int (1 : Int32)), (6, .int x6_8), (0, .ref (ad 0)), (1, .int x1), (2, .int x2), (3, .int x3), (5, .int x5)]) hx hb dX7_lays_182 hl (by decide) rfl (fun ls hl => ?_)
            obtain ⟨x5_33, ex5_33⟩ : ∃ y : Int32, y = x5 + (1 : Int32) := ⟨_, rfl⟩
            have hm := hm x5_33 ex5_33
            refine lv_iinc (v := x5_33) (lv' := [(5, .int x5_33), (4, .int (1 : Int32)), (6, .int x6_8), (0, .ref (ad 0)), (1, .int x1), (2, .int x2), (3, .int x3)]) hx hb dX7_lays_184 hl (k := 6) rfl (by rw [ex5_33]; rfl) (by decide) rfl (fun ls hl => ?_)
            refine lv_goto (tgt := 76) hx hb dX7_lays_187 (by decide) ?_
            exact ih x1 x2 x3 (1 : Int32) x5_33 (vp_updL (vp_updL mta (((27 : Int32) * x3) + x6_8).toNatClampNeg (1 : Int64)) (((27 : Int32) * (mjo + x5)) + x6_8).toNatClampNeg f_11) mba (upd mib (x6_8).toNatClampNeg (vp_nar .boolean (1 : Int32))) mdi H locs ls hm ⟨hP, hD, hS⟩ (lv_sub hl [3, 4, 5, 6, 1, 0] rfl) hret hK62
          · have hm := hm.1 c_32
            refine lv_aload_n hx hb dX7_lays_167 rfl (lv_at hl 1 rfl) ?_
            refine va_get (D := (dC, dI)) (ci := 7) (v := .ref (ad 5)) (C := RX7) (T := TX7) (N := 14) hx hb hts in_X7_lays_X7 hown hK hP 0 rfl rfl 5 (by decide) (hts _ fl_X7_lays_23) (fun _ h9 => h9) rfl dX7_lays_168 ?_
            refine lv_iload hx hb dX7_lays_171 (lv_at hl 0 rfl) ?_
            have hi_34 := hm.1
            have hm := hm.2
            refine va_zald hx hb hK hP 5 2 rfl rfl hi_34 dX7_lays_173 ?_
            refine lv_if_ne (tgt := 181) hx hb dX7_lays_174 (by decide) (fun c_35 => ?_) (fun c_35 => ?_)
            · have hm := hm.2 c_35
              refine lv_iconst (v := 0) hx hb dX7_lays_181 (by decide) ?_
              refine lv_istore (lv' := [(4, .int (0 : Int32)), (6, .int x6_8), (0, .ref (ad 0)), (1, .int x1), (2, .int x2), (3, .int x3), (5, .int x5)]) hx hb dX7_lays_182 hl (by decide) rfl (fun ls hl => ?_)
              obtain ⟨x5_36, ex5_36⟩ : ∃ y : Int32, y = x5 + (1 : Int32) := ⟨_, rfl⟩
              have hm := hm x5_36 ex5_36
              refine lv_iinc (v := x5_36) (lv' := [(5, .int x5_36), (4, .int (0 : Int32)), (6, .int x6_8), (0, .ref (ad 0)), (1, .int x1), (2, .int x2), (3, .int x3)]) hx hb dX7_lays_184 hl (k := 6) rfl (by rw [ex5_36]; rfl) (by decide) rfl (fun ls hl => ?_)
              refine lv_goto (tgt := 76) hx hb dX7_lays_187 (by decide) ?_
              exact ih x1 x2 x3 (0 : Int32) x5_36 (vp_updL (vp_updL mta (((27 : Int32) * x3) + x6_8).toNatClampNeg (1 : Int64)) (((27 : Int32) * (mjo + x5)) + x6_8).toNatClampNeg f_11) mba (upd mib (x6_8).toNatClampNeg (vp_nar .boolean (1 : Int32))) mdi H locs ls hm ⟨hP, hD, hS⟩ (lv_sub hl [3, 4, 5, 6, 1, 0] rfl) hret hK62
            · have hm := hm.1 c_35
              refine lv_iconst (v := 1) hx hb dX7_lays_177 (by decide) ?_
              refine lv_goto (tgt := 182) hx hb dX7_lays_178 (by decide) ?_
              refine lv_istore (lv' := [(4, .int (1 : Int32)), (6, .int x6_8), (0, .ref (ad 0)), (1, .int x1), (2, .int x2), (3, .int x3), (5, .int x5)]) hx hb dX7_lays_182 hl (by decide) rfl (fun ls hl => ?_)
              obtain ⟨x5_37, ex5_37⟩ : ∃ y : Int32, y = x5 + (1 : Int32) := ⟨_, rfl⟩
              have hm := hm x5_37 ex5_37
              refine lv_iinc (v := x5_37) (lv' := [(5, .int x5_37), (4, .int (1 : Int32)), (6, .int x6_8), (0, .ref (ad 0)), (1, .int x1), (2, .int x2), (3, .int x3)]) hx hb dX7_lays_184 hl (k := 6) rfl (by rw [ex5_37]; rfl) (by decide) rfl (fun ls hl => ?_)
              refine lv_goto (tgt := 76) hx hb dX7_lays_187 (by decide) ?_
              exact ih x1 x2 x3 (1 : Int32) x5_37 (vp_updL (vp_updL mta (((27 : Int32) * x3) + x6_8).toNatClampNeg (1 : Int64)) (((27 : Int32) * (mjo + x5)) + x6_8).toNatClampNeg f_11) mba (upd mib (x6_8).toNatClampNeg (vp_nar .boolean (1 : Int32))) mdi H locs ls hm ⟨hP, hD, hS⟩ (lv_sub hl [3, 4, 5, 6, 1, 0] rfl) hret hK62

set_option maxHeartbeats 4000000 in
set_option maxRecDepth 100000 in
theorem k_X7_lays_226 {N : Nat} {mti : Nat → Int32} {mow : Nat → Int32} {mjo : Int32} {mab : Nat → Int64} {mbe : Nat → Int64} {mpl : Nat → Int32} {mbs : Nat → Int32} {mro : Nat → Int32} {mlo : Nat → Int32} {mth : Int32} {Q : Int32 → (Nat → Int64) → (Nat → Int32) → (Nat → Int32) → Int64 → Prop} (C0 : cxM cX7_lays 7 (some .boolean) RX7 wsX7_lays p s m args meth c dC dI cy A) :
    ∀ (n : Nat) (x2 : Int32) (x3 : Int32) (mta : Nat → Int64) (mba : Nat → Int32) (mib : Nat → Int32) (mdi : Int64) (H : Heap) (locs : List Loc) (ls : Array Slot) (hm : p_X7_lays_226 N mti mjo Q n x2 x3 mta mba mib mdi) (hSt : stC dC dI A s (wM ad cy mti mow mjo mta mba mib mdi mab mbe mpl mbs mro mlo mth) H locs) (hl : lv_has ls 7 [(0, .ref (ad 0)), (2, .int x2), (3, .int x3)]) (hret : ∀ (r : Int32) (mta : Nat → Int64) (mba : Nat → Int32) (mib : Nat → Int32) (mdi : Int64) (H : Heap) (locs : List Loc) (ls : Array Slot) (pc : Nat), decode cX7_lays pc = .ok (.ireturn, 1) → narrow .boolean (.int r) = .int r → stC dC dI A s (wM ad cy mti mow mjo mta mba mib mdi mab mbe mpl mbs mro mlo mth) H locs → Q r mta mba mib mdi → W p l e rmX7_lays s m args below meth c H locs 0 0 Z (F0 m pc ls [.int r])), W p l e rmX7_lays s m args below meth c H locs 0 0 Z (F0 m 226 ls []) := by
  obtain ⟨hx, hb, hml, hr, hown, hts, hlocks, hK, hA, hN⟩ := id C0
  intro n
  induction n with
  | zero => intro x2 x3 mta mba mib mdi H locs ls hm; exact False.elim hm
  | succ n ih =>
    intro x2 x3 mta mba mib mdi H locs ls hm hSt hl hret
    obtain ⟨hP, hD, hS⟩ := hSt
    unfold p_X7_lays_226 at hm
    refine lv_iload_n hx hb dX7_lays_226 rfl (lv_at hl 2 rfl) ?_
    refine lv_iconst (v := 3) hx hb dX7_lays_227 (by decide) ?_
    refine lv_icmp_ge (tgt := 292) hx hb dX7_lays_228 (by decide) (fun c_1 => ?_) (fun c_1 => ?_)
    · have hm := hm.1 c_1
      refine lv_aload_n hx hb dX7_lays_292 rfl (lv_at hl 0 rfl) ?_
      refine va_get (D := (dC, dI)) (ci := 7) (v := .ref (ad 3)) (C := RX7) (T := TX7) (N := 14) hx hb hts in_X7_lays_X7 hown hK hP 0 rfl rfl 3 (by decide) (hts _ fl_X7_lays_16) (fun _ h9 => h9) rfl dX7_lays_293 ?_
      refine lv_bipush (v := 27) hx hb dX7_lays_296 (by decide) ?_
      refine lv_aload_n hx hb dX7_lays_298 rfl (lv_at hl 0 rfl) ?_
      have hFc := va_freeSame hD hS hA
      refine va_calli (va_runV (As := []) (rest := [.int (27 : Int32), .ref (ad 3)]) ⟨hx, hb, hml, hown, hts⟩ (c_X7_rows l dC dI cy ad H.size mti mow mjo mta mba mib mdi mab mbe mpl mbs mro mlo mth  _ _ hm) (cwV 0 hts gX7_lays_X7_rows rfl rfl rfl (by decide +kernel) ⟨Nat.le_of_ble_eq_true rfl, Nat.le_of_ble_eq_true rfl⟩) ⟨cPre_blind, va_recv hK hP (ci := 7) (q0 := 0) rfl rfl, fun U hU hW => ⟨rfl, cPre_at hP hK hD hN hU hW⟩⟩ rfl rfl hl.1 rfl (lv_room (Nat.le_of_ble_eq_true rfl)) dX7_lays_299 ⟨Nat.zero_le _, Nat.zero_le _⟩) hS (fun q _ h => hFc q h) hFc (fun r_2 u t H locs ht hvm hw hB hz1 hk1 hS => ?_)
      try dsimp only at hw
      have hm := hw
      have hP : va_P (dC, dI) vwCl (wM ad cy mti mow mjo mta mba mib mdi mab mbe mpl mbs mro mlo mth) H := cPost_P ht hB
      have hD : va_D A (wM ad cy mti mow mjo mta mba mib mdi mab mbe mpl mbs mro mlo mth) := cPost_D hFc hB
      refine lv_iconst (v := 1) hx hb dX7_lays_302 (by decide) ?_
      refine lv_isub hx hb dX7_lays_303 ?_
      refine lv_imul hx hb dX7_lays_304 ?_
      refine lv_bipush (v := 21) hx hb dX7_lays_305 (by decide) ?_
      refine lv_iadd hx hb dX7_lays_307 ?_
      refine lv_lconst (v := 1) hx hb dX7_lays_308 (by decide) ?_
      have hi_3 := hm.1
      have hm := hm.2
      refine va_last hx hb hK hP hD hS 3 1 rfl rfl hi_3 dX7_lays_309 (fun H locs hP hD hS => ?_)
      have hP : va_P (dC, dI) vwCl (wM ad cy mti mow mjo (vp_updL mta (((27 : Int32) * (r_2 - (1 : Int32))) + (21 : Int32)).toNatClampNeg (1 : Int64)) mba mib mdi mab mbe mpl mbs mro mlo mth) H := hP
      have hD : va_D A (wM ad cy mti mow mjo (vp_updL mta (((27 : Int32) * (r_2 - (1 : Int32))) + (21 : Int32)).toNatClampNeg (1 : Int64)) mba mib mdi mab mbe mpl mbs mro mlo mth) := hD
      refine lv_aload_n hx hb dX7_lays_310 rfl (lv_at hl 0 rfl) ?_
      refine va_get (D := (dC, dI)) (ci := 7) (v := .ref (ad 3)) (C := RX7) (T := TX7) (N := 14) hx hb hts in_X7_lays_X7 hown hK hP 0 rfl rfl 3 (by decide) (hts _ fl_X7_lays_16) (fun _ h9 => h9) rfl dX7_lays_311 ?_
      refine lv_bipush (v := 27) hx hb dX7_lays_314 (by decide) ?_
      refine lv_aload_n hx hb dX7_lays_316 rfl (lv_at hl 0 rfl) ?_
      have hFc := va_freeSame hD hS hA
      refine va_calli (va_runV (As := []) (rest := [.int (27 : Int32), .ref (ad 3)]) ⟨hx, hb, hml, hown, hts⟩ (c_X7_rows l dC dI cy ad H.size mti mow mjo (vp_updL mta (((27 : Int32) * (r_2 - (1 : Int32))) + (21 : Int32)).toNatClampNeg (1 : Int64)) mba mib mdi mab mbe mpl mbs mro mlo mth  _ _ hm) (cwV 0 hts gX7_lays_X7_rows rfl rfl rfl (by decide +kernel) ⟨Nat.le_of_ble_eq_true rfl, Nat.le_of_ble_eq_true rfl⟩) ⟨cPre_blind, va_recv hK hP (ci := 7) (q0 := 0) rfl rfl, fun U hU hW => ⟨rfl, cPre_at hP hK hD hN hU hW⟩⟩ rfl rfl hl.1 rfl (lv_room (Nat.le_of_ble_eq_true rfl)) dX7_lays_317 ⟨Nat.zero_le _, Nat.zero_le _⟩) hS (fun q _ h => hFc q h) hFc (fun r_4 u t H locs ht hvm hw hB hz1 hk1 hS => ?_)
      try dsimp only at hw
      have hm := hw
      have hP : va_P (dC, dI) vwCl (wM ad cy mti mow mjo (vp_updL mta (((27 : Int32) * (r_2 - (1 : Int32))) + (21 : Int32)).toNatClampNeg (1 : Int64)) mba mib mdi mab mbe mpl mbs mro mlo mth) H := cPost_P ht hB
      have hD : va_D A (wM ad cy mti mow mjo (vp_updL mta (((27 : Int32) * (r_2 - (1 : Int32))) + (21 : Int32)).toNatClampNeg (1 : Int64)) mba mib mdi mab mbe mpl mbs mro mlo mth) := cPost_D hFc hB
      refine lv_iconst (v := 1) hx hb dX7_lays_320 (by decide) ?_
      refine lv_isub hx hb dX7_lays_321 ?_
      refine lv_imul hx hb dX7_lays_322 ?_
      refine lv_bipush (v := 25) hx hb dX7_lays_323 (by decide) ?_
      refine lv_iadd hx hb dX7_lays_325 ?_
      refine lv_lconst (v := 1) hx hb dX7_lays_326 (by decide) ?_
      have hi_5 := hm.1
      have hm := hm.2
      refine va_last hx hb hK hP hD hS 3 1 rfl rfl hi_5 dX7_lays_327 (fun H locs hP hD hS => ?_)
      have hP : va_P (dC, dI) vwCl (wM ad cy mti mow mjo (vp_updL (vp_updL mta (((27 : Int32) * (r_2 - (1 : Int32))) + (21 : Int32)).toNatClampNeg (1 : Int64)) (((27 : Int32) * (r_4 - (1 : Int32))) + (25 : Int32)).toNatClampNeg (1 : Int64)) mba mib mdi mab mbe mpl mbs mro mlo mth) H := hP
      have hD : va_D A (wM ad cy mti mow mjo (vp_updL (vp_updL mta (((27 : Int32) * (r_2 - (1 : Int32))) + (21 : Int32)).toNatClampNeg (1 : Int64)) (((27 : Int32) * (r_4 - (1 : Int32))) + (25 : Int32)).toNatClampNeg (1 : Int64)) mba mib mdi mab mbe mpl mbs mro mlo mth) := hD
      refine lv_aload_n hx hb dX7_lays_328 rfl (lv_at hl 0 rfl) ?_
      refine va_get (D := (dC, dI)) (ci := 7) (v := .ref (ad 3)) (C := RX7) (T := TX7) (N := 14) hx hb hts in_X7_lays_X7 hown hK hP 0 rfl rfl 3 (by decide) (hts _ fl_X7_lays_16) (fun _ h9 => h9) rfl dX7_lays_329 ?_
      refine lv_bipush (v := 27) hx hb dX7_lays_332 (by decide) ?_
      refine lv_aload_n hx hb dX7_lays_334 rfl (lv_at hl 0 rfl) ?_
      have hFc := va_freeSame hD hS hA
      refine va_calli (va_runV (As := []) (rest := [.int (27 : Int32), .ref (ad 3)]) ⟨hx, hb, hml, hown, hts⟩ (c_X7_rows l dC dI cy ad H.size mti mow mjo (vp_updL (vp_updL mta (((27 : Int32) * (r_2 - (1 : Int32))) + (21 : Int32)).toNatClampNeg (1 : Int64)) (((27 : Int32) * (r_4 - (1 : Int32))) + (25 : Int32)).toNatClampNeg (1 : Int64)) mba mib mdi mab mbe mpl mbs mro mlo mth  _ _ hm) (cwV 0 hts gX7_lays_X7_rows rfl rfl rfl (by decide +kernel) ⟨Nat.le_of_ble_eq_true rfl, Nat.le_of_ble_eq_true rfl⟩) ⟨cPre_blind, va_recv hK hP (ci := 7) (q0 := 0) rfl rfl, fun U hU hW => ⟨rfl, cPre_at hP hK hD hN hU hW⟩⟩ rfl rfl hl.1 rfl (lv_room (Nat.le_of_ble_eq_true rfl)) dX7_lays_335 ⟨Nat.zero_le _, Nat.zero_le _⟩) hS (fun q _ h => hFc q h) hFc (fun r_6 u t H locs ht hvm hw hB hz1 hk1 hS => ?_)
      try dsimp only at hw
      have hm := hw
      have hP : va_P (dC, dI) vwCl (wM ad cy mti mow mjo (vp_updL (vp_updL mta (((27 : Int32) * (r_2 - (1 : Int32))) + (21 : Int32)).toNatClampNeg (1 : Int64)) (((27 : Int32) * (r_4 - (1 : Int32))) + (25 : Int32)).toNatClampNeg (1 : Int64)) mba mib mdi mab mbe mpl mbs mro mlo mth) H := cPost_P ht hB
      have hD : va_D A (wM ad cy mti mow mjo (vp_updL (vp_updL mta (((27 : Int32) * (r_2 - (1 : Int32))) + (21 : Int32)).toNatClampNeg (1 : Int64)) (((27 : Int32) * (r_4 - (1 : Int32))) + (25 : Int32)).toNatClampNeg (1 : Int64)) mba mib mdi mab mbe mpl mbs mro mlo mth) := cPost_D hFc hB
      refine lv_iconst (v := 1) hx hb dX7_lays_338 (by decide) ?_
      refine lv_isub hx hb dX7_lays_339 ?_
      refine lv_imul hx hb dX7_lays_340 ?_
      refine lv_bipush (v := 26) hx hb dX7_lays_341 (by decide) ?_
      refine lv_iadd hx hb dX7_lays_343 ?_
      refine lv_ldc2 (v := 400) hx hb hown (hts (.constantLong RX7 90 (400)) (by decide +kernel)) dX7_lays_344 ?_
      have hi_7 := hm.1
      have hm := hm.2
      refine va_last hx hb hK hP hD hS 3 1 rfl rfl hi_7 dX7_lays_347 (fun H locs hP hD hS => ?_)
      have hP : va_P (dC, dI) vwCl (wM ad cy mti mow mjo (vp_updL (vp_updL (vp_updL mta (((27 : Int32) * (r_2 - (1 : Int32))) + (21 : Int32)).toNatClampNeg (1 : Int64)) (((27 : Int32) * (r_4 - (1 : Int32))) + (25 : Int32)).toNatClampNeg (1 : Int64)) (((27 : Int32) * (r_6 - (1 : Int32))) + (26 : Int32)).toNatClampNeg (400 : Int64)) mba mib mdi mab mbe mpl mbs mro mlo mth) H := hP
      have hD : va_D A (wM ad cy mti mow mjo (vp_updL (vp_updL (vp_updL mta (((27 : Int32) * (r_2 - (1 : Int32))) + (21 : Int32)).toNatClampNeg (1 : Int64)) (((27 : Int32) * (r_4 - (1 : Int32))) + (25 : Int32)).toNatClampNeg (1 : Int64)) (((27 : Int32) * (r_6 - (1 : Int32))) + (26 : Int32)).toNatClampNeg (400 : Int64)) mba mib mdi mab mbe mpl mbs mro mlo mth) := hD
      refine lv_aload_n hx hb dX7_lays_348 rfl (lv_at hl 0 rfl) ?_
      refine va_get (D := (dC, dI)) (ci := 7) (v := .ref (ad 4)) (C := RX7) (T := TX7) (N := 14) hx hb hts in_X7_lays_X7 hown hK hP 0 rfl rfl 4 (by decide) (hts _ fl_X7_lays_20) (fun _ h9 => h9) rfl dX7_lays_349 ?_
      refine lv_aload_n hx hb dX7_lays_352 rfl (lv_at hl 0 rfl) ?_
      have hFc := va_freeSame hD hS hA
      refine va_calli (va_runV (As := []) (rest := [.ref (ad 4)]) ⟨hx, hb, hml, hown, hts⟩ (c_X7_rows l dC dI cy ad H.size mti mow mjo (vp_updL (vp_updL (vp_updL mta (((27 : Int32) * (r_2 - (1 : Int32))) + (21 : Int32)).toNatClampNeg (1 : Int64)) (((27 : Int32) * (r_4 - (1 : Int32))) + (25 : Int32)).toNatClampNeg (1 : Int64)) (((27 : Int32) * (r_6 - (1 : Int32))) + (26 : Int32)).toNatClampNeg (400 : Int64)) mba mib mdi mab mbe mpl mbs mro mlo mth  _ _ hm) (cwV 0 hts gX7_lays_X7_rows rfl rfl rfl (by decide +kernel) ⟨Nat.le_of_ble_eq_true rfl, Nat.le_of_ble_eq_true rfl⟩) ⟨cPre_blind, va_recv hK hP (ci := 7) (q0 := 0) rfl rfl, fun U hU hW => ⟨rfl, cPre_at hP hK hD hN hU hW⟩⟩ rfl rfl hl.1 rfl (lv_room (Nat.le_of_ble_eq_true rfl)) dX7_lays_353 ⟨Nat.zero_le _, Nat.zero_le _⟩) hS (fun q _ h => hFc q h) hFc (fun r_8 u t H locs ht hvm hw hB hz1 hk1 hS => ?_)
      try dsimp only at hw
      have hm := hw
      have hP : va_P (dC, dI) vwCl (wM ad cy mti mow mjo (vp_updL (vp_updL (vp_updL mta (((27 : Int32) * (r_2 - (1 : Int32))) + (21 : Int32)).toNatClampNeg (1 : Int64)) (((27 : Int32) * (r_4 - (1 : Int32))) + (25 : Int32)).toNatClampNeg (1 : Int64)) (((27 : Int32) * (r_6 - (1 : Int32))) + (26 : Int32)).toNatClampNeg (400 : Int64)) mba mib mdi mab mbe mpl mbs mro mlo mth) H := cPost_P ht hB
      have hD : va_D A (wM ad cy mti mow mjo (vp_updL (vp_updL (vp_updL mta (((27 : Int32) * (r_2 - (1 : Int32))) + (21 : Int32)).toNatClampNeg (1 : Int64)) (((27 : Int32) * (r_4 - (1 : Int32))) + (25 : Int32)).toNatClampNeg (1 : Int64)) (((27 : Int32) * (r_6 - (1 : Int32))) + (26 : Int32)).toNatClampNeg (400 : Int64)) mba mib mdi mab mbe mpl mbs mro mlo mth) := cPost_D hFc hB
      refine lv_iconst (v := 1) hx hb dX7_lays_356 (by decide) ?_
      refine lv_isub hx hb dX7_lays_357 ?_
      refine lv_bipush (v := 25) hx hb dX7_lays_358 (by decide) ?_
      have hi_9 := hm.1
      have hm := hm.2
      refine va_iast hx hb hK hP hD hS 4 0 rfl rfl hi_9 dX7_lays_360 (fun H locs hP hD hS => ?_)
      have hP : va_P (dC, dI) vwCl (wM ad cy mti mow mjo (vp_updL (vp_updL (vp_updL mta (((27 : Int32) * (r_2 - (1 : Int32))) + (21 : Int32)).toNatClampNeg (1 : Int64)) (((27 : Int32) * (r_4 - (1 : Int32))) + (25 : Int32)).toNatClampNeg (1 : Int64)) (((27 : Int32) * (r_6 - (1 : Int32))) + (26 : Int32)).toNatClampNeg (400 : Int64)) (upd mba (r_8 - (1 : Int32)).toNatClampNeg (25 : Int32)) mib mdi mab mbe mpl mbs mro mlo mth) H := hP
      have hD : va_D A (wM ad cy mti mow mjo (vp_updL (vp_updL (vp_updL mta (((27 : Int32) * (r_2 - (1 : Int32))) + (21 : Int32)).toNatClampNeg (1 : Int64)) (((27 : Int32) * (r_4 - (1 : Int32))) + (25 : Int32)).toNatClampNeg (1 : Int64)) (((27 : Int32) * (r_6 - (1 : Int32))) + (26 : Int32)).toNatClampNeg (400 : Int64)) (upd mba (r_8 - (1 : Int32)).toNatClampNeg (25 : Int32)) mib mdi mab mbe mpl mbs mro mlo mth) := hD
      refine lv_iload_n hx hb dX7_lays_361 rfl (lv_at hl 1 rfl) ?_
      have hn := hm.1
      have hm := hm.2
      exact hret x2 (vp_updL (vp_updL (vp_updL mta (((27 : Int32) * (r_2 - (1 : Int32))) + (21 : Int32)).toNatClampNeg (1 : Int64)) (((27 : Int32) * (r_4 - (1 : Int32))) + (25 : Int32)).toNatClampNeg (1 : Int64)) (((27 : Int32) * (r_6 - (1 : Int32))) + (26 : Int32)).toNatClampNeg (400 : Int64)) (upd mba (r_8 - (1 : Int32)).toNatClampNeg (25 : Int32)) mib mdi H locs ls 362 dX7_lays_362 hn ⟨hP, hD, hS⟩ hm
    · have hm := hm.2 c_1
      refine lv_aload_n hx hb dX7_lays_231 rfl (lv_at hl 0 rfl) ?_
      refine va_get (D := (dC, dI)) (ci := 7) (v := .ref (ad 3)) (C := RX7) (T := TX7) (N := 14) hx hb hts in_X7_lays_X7 hown hK hP 0 rfl rfl 3 (by decide) (hts _ fl_X7_lays_16) (fun _ h9 => h9) rfl dX7_lays_232 ?_
      refine lv_bipush (v := 27) hx hb dX7_lays_235 (by decide) ?_
      refine lv_aload_n hx hb dX7_lays_237 rfl (lv_at hl 0 rfl) ?_
      refine va_get (D := (dC, dI)) (ci := 7) (v := .int mjo) (C := RX7) (T := TX7) (N := 14) hx hb hts in_X7_lays_X7 hown hK hP 0 rfl rfl 2 (by decide) (hts _ fl_X7_lays_49) (fun _ h9 => h9) rfl dX7_lays_238 ?_
      refine lv_iload_n hx hb dX7_lays_241 rfl (lv_at hl 2 rfl) ?_
      refine lv_iadd hx hb dX7_lays_242 ?_
      refine lv_imul hx hb dX7_lays_243 ?_
      refine lv_bipush (v := 21) hx hb dX7_lays_244 (by decide) ?_
      refine lv_iadd hx hb dX7_lays_246 ?_
      refine lv_ldc2 (v := -1) hx hb hown (hts (.constantLong RX7 88 (-1)) (by decide +kernel)) dX7_lays_247 ?_
      have hi_10 := hm.1
      have hm := hm.2
      refine va_last hx hb hK hP hD hS 3 1 rfl rfl hi_10 dX7_lays_250 (fun H locs hP hD hS => ?_)
      have hP : va_P (dC, dI) vwCl (wM ad cy mti mow mjo (vp_updL mta (((27 : Int32) * (mjo + x3)) + (21 : Int32)).toNatClampNeg (-1 : Int64)) mba mib mdi mab mbe mpl mbs mro mlo mth) H := hP
      have hD : va_D A (wM ad cy mti mow mjo (vp_updL mta (((27 : Int32) * (mjo + x3)) + (21 : Int32)).toNatClampNeg (-1 : Int64)) mba mib mdi mab mbe mpl mbs mro mlo mth) := hD
      refine lv_aload_n hx hb dX7_lays_251 rfl (lv_at hl 0 rfl) ?_
      refine va_get (D := (dC, dI)) (ci := 7) (v := .ref (ad 3)) (C := RX7) (T := TX7) (N := 14) hx hb hts in_X7_lays_X7 hown hK hP 0 rfl rfl 3 (by decide) (hts _ fl_X7_lays_16) (fun _ h9 => h9) rfl dX7_lays_252 ?_
      refine lv_bipush (v := 27) hx hb dX7_lays_255 (by decide) ?_
      refine lv_aload_n hx hb dX7_lays_257 rfl (lv_at hl 0 rfl) ?_
      refine va_get (D := (dC, dI)) (ci := 7) (v := .int mjo) (C := RX7) (T := TX7) (N := 14) hx hb hts in_X7_lays_X7 hown hK hP 0 rfl rfl 2 (by decide) (hts _ fl_X7_lays_49) (fun _ h9 => h9) rfl dX7_lays_258 ?_
      refine lv_iload_n hx hb dX7_lays_261 rfl (lv_at hl 2 rfl) ?_
      refine lv_iadd hx hb dX7_lays_262 ?_
      refine lv_imul hx hb dX7_lays_263 ?_
      refine lv_bipush (v := 22) hx hb dX7_lays_264 (by decide) ?_
      refine lv_iadd hx hb dX7_lays_266 ?_
      refine lv_iload_n hx hb dX7_lays_267 rfl (lv_at hl 2 rfl) ?_
      refine lv_iadd hx hb dX7_lays_268 ?_
      refine lv_lconst (v := 1) hx hb dX7_lays_269 (by decide) ?_
      have hi_11 := hm.1
      have hm := hm.2
      refine va_last hx hb hK hP hD hS 3 1 rfl rfl hi_11 dX7_lays_270 (fun H locs hP hD hS => ?_)
      have hP : va_P (dC, dI) vwCl (wM ad cy mti mow mjo (vp_updL (vp_updL mta (((27 : Int32) * (mjo + x3)) + (21 : Int32)).toNatClampNeg (-1 : Int64)) ((((27 : Int32) * (mjo + x3)) + (22 : Int32)) + x3).toNatClampNeg (1 : Int64)) mba mib mdi mab mbe mpl mbs mro mlo mth) H := hP
      have hD : va_D A (wM ad cy mti mow mjo (vp_updL (vp_updL mta (((27 : Int32) * (mjo + x3)) + (21 : Int32)).toNatClampNeg (-1 : Int64)) ((((27 : Int32) * (mjo + x3)) + (22 : Int32)) + x3).toNatClampNeg (1 : Int64)) mba mib mdi mab mbe mpl mbs mro mlo mth) := hD
      refine lv_aload_n hx hb dX7_lays_271 rfl (lv_at hl 0 rfl) ?_
      refine va_get (D := (dC, dI)) (ci := 7) (v := .ref (ad 4)) (C := RX7) (T := TX7) (N := 14) hx hb hts in_X7_lays_X7 hown hK hP 0 rfl rfl 4 (by decide) (hts _ fl_X7_lays_20) (fun _ h9 => h9) rfl dX7_lays_272 ?_
      refine lv_aload_n hx hb dX7_lays_275 rfl (lv_at hl 0 rfl) ?_
      refine va_get (D := (dC, dI)) (ci := 7) (v := .int mjo) (C := RX7) (T := TX7) (N := 14) hx hb hts in_X7_lays_X7 hown hK hP 0 rfl rfl 2 (by decide) (hts _ fl_X7_lays_49) (fun _ h9 => h9) rfl dX7_lays_276 ?_
      refine lv_iload_n hx hb dX7_lays_279 rfl (lv_at hl 2 rfl) ?_
      refine lv_iadd hx hb dX7_lays_280 ?_
      refine lv_bipush (v := 22) hx hb dX7_lays_281 (by decide) ?_
      refine lv_iload_n hx hb dX7_lays_283 rfl (lv_at hl 2 rfl) ?_
      refine lv_iadd hx hb dX7_lays_284 ?_
      refine lv_topi (fun f_12 ef_12 => ?_)
      have hm := hm f_12 ef_12
      have hi_13 := hm.1
      have hm := hm.2
      refine va_iast hx hb hK hP hD hS 4 0 rfl rfl hi_13 dX7_lays_285 (fun H locs hP hD hS => ?_)
      have hP : va_P (dC, dI) vwCl (wM ad cy mti mow mjo (vp_updL (vp_updL mta (((27 : Int32) * (mjo + x3)) + (21 : Int32)).toNatClampNeg (-1 : Int64)) ((((27 : Int32) * (mjo + x3)) + (22 : Int32)) + x3).toNatClampNeg (1 : Int64)) (upd mba (mjo + x3).toNatClampNeg f_12) mib mdi mab mbe mpl mbs mro mlo mth) H := hP
      have hD : va_D A (wM ad cy mti mow mjo (vp_updL (vp_updL mta (((27 : Int32) * (mjo + x3)) + (21 : Int32)).toNatClampNeg (-1 : Int64)) ((((27 : Int32) * (mjo + x3)) + (22 : Int32)) + x3).toNatClampNeg (1 : Int64)) (upd mba (mjo + x3).toNatClampNeg f_12) mib mdi mab mbe mpl mbs mro mlo mth) := hD
      obtain ⟨x3_14, ex3_14⟩ : ∃ y : Int32, y = x3 + (1 : Int32) := ⟨_, rfl⟩
      have hm := hm x3_14 ex3_14
      refine lv_iinc (v := x3_14) (lv' := [(3, .int x3_14), (0, .ref (ad 0)), (2, .int x2)]) hx hb dX7_lays_286 hl (k := 2) rfl (by rw [ex3_14]; rfl) (by decide) rfl (fun ls hl => ?_)
      refine lv_goto (tgt := 226) hx hb dX7_lays_289 (by decide) ?_
      exact ih x2 x3_14 (vp_updL (vp_updL mta (((27 : Int32) * (mjo + x3)) + (21 : Int32)).toNatClampNeg (-1 : Int64)) ((((27 : Int32) * (mjo + x3)) + (22 : Int32)) + x3).toNatClampNeg (1 : Int64)) (upd mba (mjo + x3).toNatClampNeg f_12) mib mdi H locs ls hm ⟨hP, hD, hS⟩ (lv_sub hl [1, 2, 0] rfl) hret

set_option maxHeartbeats 4000000 in
set_option maxRecDepth 100000 in
theorem k_X7_lays_62 {N : Nat} {mti : Nat → Int32} {mow : Nat → Int32} {mjo : Int32} {mab : Nat → Int64} {mbe : Nat → Int64} {mpl : Nat → Int32} {mbs : Nat → Int32} {mro : Nat → Int32} {mlo : Nat → Int32} {mth : Int32} {Q : Int32 → (Nat → Int64) → (Nat → Int32) → (Nat → Int32) → Int64 → Prop} (C0 : cxM cX7_lays 7 (some .boolean) RX7 wsX7_lays p s m args meth c dC dI cy A) :
    ∀ (n : Nat) (x1 : Int32) (x2 : Int32) (x3 : Int32) (mta : Nat → Int64) (mba : Nat → Int32) (mib : Nat → Int32) (mdi : Int64) (H : Heap) (locs : List Loc) (ls : Array Slot) (hm : p_X7_lays_62 N mti mjo Q n x1 x2 x3 mta mba mib mdi) (hSt : stC dC dI A s (wM ad cy mti mow mjo mta mba mib mdi mab mbe mpl mbs mro mlo mth) H locs) (hl : lv_has ls 7 [(0, .ref (ad 0)), (1, .int x1), (2, .int x2), (3, .int x3)]) (hret : ∀ (r : Int32) (mta : Nat → Int64) (mba : Nat → Int32) (mib : Nat → Int32) (mdi : Int64) (H : Heap) (locs : List Loc) (ls : Array Slot) (pc : Nat), decode cX7_lays pc = .ok (.ireturn, 1) → narrow .boolean (.int r) = .int r → stC dC dI A s (wM ad cy mti mow mjo mta mba mib mdi mab mbe mpl mbs mro mlo mth) H locs → Q r mta mba mib mdi → W p l e rmX7_lays s m args below meth c H locs 0 0 Z (F0 m pc ls [.int r])), W p l e rmX7_lays s m args below meth c H locs 0 0 Z (F0 m 62 ls []) := by
  obtain ⟨hx, hb, hml, hr, hown, hts, hlocks, hK, hA, hN⟩ := id C0
  intro n
  induction n with
  | zero => intro x1 x2 x3 mta mba mib mdi H locs ls hm; exact False.elim hm
  | succ n ih =>
    intro x1 x2 x3 mta mba mib mdi H locs ls hm hSt hl hret
    obtain ⟨hP, hD, hS⟩ := hSt
    unfold p_X7_lays_62 at hm
    refine lv_iload_n hx hb dX7_lays_62 rfl (lv_at hl 3 rfl) ?_
    refine lv_aload_n hx hb dX7_lays_63 rfl (lv_at hl 0 rfl) ?_
    refine va_get (D := (dC, dI)) (ci := 7) (v := .int mjo) (C := RX7) (T := TX7) (N := 14) hx hb hts in_X7_lays_X7 hown hK hP 0 rfl rfl 2 (by decide) (hts _ fl_X7_lays_49) (fun _ h9 => h9) rfl dX7_lays_64 ?_
    refine lv_icmp_ge (tgt := 224) hx hb dX7_lays_67 (by decide) (fun c_1 => ?_) (fun c_1 => ?_)
    · have hm := hm.1 c_1
      refine lv_iconst (v := 0) hx hb dX7_lays_224 (by decide) ?_
      refine lv_istore_n (lv' := [(3, .int (0 : Int32)), (0, .ref (ad 0)), (1, .int x1), (2, .int x2)]) hx hb dX7_lays_225 rfl hl (by decide) rfl (fun ls hl => ?_)
      exact k_X7_lays_226 C0 N x2 (0 : Int32) mta mba mib mdi H locs ls hm ⟨hP, hD, hS⟩ (lv_sub hl [1, 3, 0] rfl) hret
    · have hm := hm.2 c_1
      refine lv_iconst (v := 0) hx hb dX7_lays_70 (by decide) ?_
      refine lv_istore (lv' := [(4, .int (0 : Int32)), (0, .ref (ad 0)), (1, .int x1), (2, .int x2), (3, .int x3)]) hx hb dX7_lays_71 hl (by decide) rfl (fun ls hl => ?_)
      refine lv_iconst (v := 0) hx hb dX7_lays_73 (by decide) ?_
      refine lv_istore (lv' := [(5, .int (0 : Int32)), (4, .int (0 : Int32)), (0, .ref (ad 0)), (1, .int x1), (2, .int x2), (3, .int x3)]) hx hb dX7_lays_74 hl (by decide) rfl (fun ls hl => ?_)
      refine k_X7_lays_76 C0 N x1 x2 x3 (0 : Int32) (0 : Int32) mta mba mib mdi H locs ls hm ⟨hP, hD, hS⟩ (lv_sub hl [2, 3, 4, 5, 1, 0] rfl) hret (fun x1 x2 x3 mta mba mib mdi H locs ls hm hSt hl => ?_)
      · obtain ⟨hP, hD, hS⟩ := hSt
        exact ih x1 x2 x3 mta mba mib mdi H locs ls hm ⟨hP, hD, hS⟩ hl hret

set_option maxHeartbeats 4000000 in
set_option maxRecDepth 100000 in
theorem k_X7_lays_24 {N : Nat} {mti : Nat → Int32} {mow : Nat → Int32} {mjo : Int32} {mab : Nat → Int64} {mbe : Nat → Int64} {mpl : Nat → Int32} {mbs : Nat → Int32} {mro : Nat → Int32} {mlo : Nat → Int32} {mth : Int32} {Q : Int32 → (Nat → Int64) → (Nat → Int32) → (Nat → Int32) → Int64 → Prop} (C0 : cxM cX7_lays 7 (some .boolean) RX7 wsX7_lays p s m args meth c dC dI cy A) :
    ∀ (n : Nat) (x1 : Int32) (x2 : Int32) (mta : Nat → Int64) (mba : Nat → Int32) (mib : Nat → Int32) (mdi : Int64) (H : Heap) (locs : List Loc) (ls : Array Slot) (hm : p_X7_lays_24 N mti mjo Q n x1 x2 mta mba mib mdi) (hSt : stC dC dI A s (wM ad cy mti mow mjo mta mba mib mdi mab mbe mpl mbs mro mlo mth) H locs) (hl : lv_has ls 7 [(0, .ref (ad 0)), (1, .int x1), (2, .int x2)]) (hret : ∀ (r : Int32) (mta : Nat → Int64) (mba : Nat → Int32) (mib : Nat → Int32) (mdi : Int64) (H : Heap) (locs : List Loc) (ls : Array Slot) (pc : Nat), decode cX7_lays pc = .ok (.ireturn, 1) → narrow .boolean (.int r) = .int r → stC dC dI A s (wM ad cy mti mow mjo mta mba mib mdi mab mbe mpl mbs mro mlo mth) H locs → Q r mta mba mib mdi → W p l e rmX7_lays s m args below meth c H locs 0 0 Z (F0 m pc ls [.int r])), W p l e rmX7_lays s m args below meth c H locs 0 0 Z (F0 m 24 ls []) := by
  obtain ⟨hx, hb, hml, hr, hown, hts, hlocks, hK, hA, hN⟩ := id C0
  intro n
  induction n with
  | zero => intro x1 x2 mta mba mib mdi H locs ls hm; exact False.elim hm
  | succ n ih =>
    intro x1 x2 mta mba mib mdi H locs ls hm hSt hl hret
    obtain ⟨hP, hD, hS⟩ := hSt
    unfold p_X7_lays_24 at hm
    refine lv_iload_n hx hb dX7_lays_24 rfl (lv_at hl 2 rfl) ?_
    refine lv_bipush (v := 26) hx hb dX7_lays_25 (by decide) ?_
    refine lv_icmp_ge (tgt := 53) hx hb dX7_lays_27 (by decide) (fun c_1 => ?_) (fun c_1 => ?_)
    · have hm := hm.1 c_1
      refine lv_aload_n hx hb dX7_lays_53 rfl (lv_at hl 0 rfl) ?_
      refine lv_lconst (v := 1) hx hb dX7_lays_54 (by decide) ?_
      refine va_put (D := (dC, dI)) (ci := 7) (v := .long (1 : Int64)) (ty := .long) (C := RX7) (T := TX7) (N := 14) hx hb hts in_X7_lays_X7 tyX7 tyX7_ok nmX7 hown hK hP hD hS 0 rfl rfl 6 (by decide) (hts _ fl_X7_lays_84) (fun _ h9 => h9) rfl (by decide +kernel) rfl rfl (Nat.le_of_ble_eq_true rfl) dX7_lays_55 (fun H locs hP hD hS => ?_)
      have hP : va_P (dC, dI) vwCl (wM ad cy mti mow mjo mta mba mib (1 : Int64) mab mbe mpl mbs mro mlo mth) H := hP
      have hD : va_D A (wM ad cy mti mow mjo mta mba mib (1 : Int64) mab mbe mpl mbs mro mlo mth) := hD
      refine lv_iconst (v := 1) hx hb dX7_lays_58 (by decide) ?_
      refine lv_istore_n (lv' := [(2, .int (1 : Int32)), (0, .ref (ad 0)), (1, .int x1)]) hx hb dX7_lays_59 rfl hl (by decide) rfl (fun ls hl => ?_)
      refine lv_iconst (v := 0) hx hb dX7_lays_60 (by decide) ?_
      refine lv_istore_n (lv' := [(3, .int (0 : Int32)), (2, .int (1 : Int32)), (0, .ref (ad 0)), (1, .int x1)]) hx hb dX7_lays_61 rfl hl (by decide) rfl (fun ls hl => ?_)
      exact k_X7_lays_62 C0 N x1 (1 : Int32) (0 : Int32) mta mba mib (1 : Int64) H locs ls hm ⟨hP, hD, hS⟩ (lv_sub hl [2, 3, 1, 0] rfl) hret
    · have hm := hm.2 c_1
      refine lv_aload_n hx hb dX7_lays_30 rfl (lv_at hl 0 rfl) ?_
      refine va_get (D := (dC, dI)) (ci := 7) (v := .ref (ad 5)) (C := RX7) (T := TX7) (N := 14) hx hb hts in_X7_lays_X7 hown hK hP 0 rfl rfl 5 (by decide) (hts _ fl_X7_lays_23) (fun _ h9 => h9) rfl dX7_lays_31 ?_
      refine lv_iload_n hx hb dX7_lays_34 rfl (lv_at hl 2 rfl) ?_
      refine lv_iload_n hx hb dX7_lays_35 rfl (lv_at hl 2 rfl) ?_
      refine lv_bipush (v := 21) hx hb dX7_lays_36 (by decide) ?_
      refine lv_icmp_ge (tgt := 45) hx hb dX7_lays_38 (by decide) (fun c_2 => ?_) (fun c_2 => ?_)
      · have hm := hm.1 c_2
        refine lv_iconst (v := 0) hx hb dX7_lays_45 (by decide) ?_
        have hi_3 := hm.1
        have hm := hm.2
        refine va_zast hx hb hK hP hD hS 5 2 rfl rfl hi_3 dX7_lays_46 (fun H locs hP hD hS => ?_)
        have hP : va_P (dC, dI) vwCl (wM ad cy mti mow mjo mta mba (upd mib (x2).toNatClampNeg (vp_nar .boolean (0 : Int32))) mdi mab mbe mpl mbs mro mlo mth) H := hP
        have hD : va_D A (wM ad cy mti mow mjo mta mba (upd mib (x2).toNatClampNeg (vp_nar .boolean (0 : Int32))) mdi mab mbe mpl mbs mro mlo mth) := hD
        obtain ⟨x2_4, ex2_4⟩ : ∃ y : Int32, y = x2 + (1 : Int32) := ⟨_, rfl⟩
        have hm := hm x2_4 ex2_4
        refine lv_iinc (v := x2_4) (lv' := [(2, .int x2_4), (0, .ref (ad 0)), (1, .int x1)]) hx hb dX7_lays_47 hl (k := 2) rfl (by rw [ex2_4]; rfl) (by decide) rfl (fun ls hl => ?_)
        refine lv_goto (tgt := 24) hx hb dX7_lays_50 (by decide) ?_
        exact ih x1 x2_4 mta mba (upd mib (x2).toNatClampNeg (vp_nar .boolean (0 : Int32))) mdi H locs ls hm ⟨hP, hD, hS⟩ (lv_sub hl [1, 2, 0] rfl) hret
      · have hm := hm.2 c_2
        refine lv_iconst (v := 1) hx hb dX7_lays_41 (by decide) ?_
        refine lv_goto (tgt := 46) hx hb dX7_lays_42 (by decide) ?_
        have hi_5 := hm.1
        have hm := hm.2
        refine va_zast hx hb hK hP hD hS 5 2 rfl rfl hi_5 dX7_lays_46 (fun H locs hP hD hS => ?_)
        have hP : va_P (dC, dI) vwCl (wM ad cy mti mow mjo mta mba (upd mib (x2).toNatClampNeg (vp_nar .boolean (1 : Int32))) mdi mab mbe mpl mbs mro mlo mth) H := hP
        have hD : va_D A (wM ad cy mti mow mjo mta mba (upd mib (x2).toNatClampNeg (vp_nar .boolean (1 : Int32))) mdi mab mbe mpl mbs mro mlo mth) := hD
        obtain ⟨x2_6, ex2_6⟩ : ∃ y : Int32, y = x2 + (1 : Int32) := ⟨_, rfl⟩
        have hm := hm x2_6 ex2_6
        refine lv_iinc (v := x2_6) (lv' := [(2, .int x2_6), (0, .ref (ad 0)), (1, .int x1)]) hx hb dX7_lays_47 hl (k := 2) rfl (by rw [ex2_6]; rfl) (by decide) rfl (fun ls hl => ?_)
        refine lv_goto (tgt := 24) hx hb dX7_lays_50 (by decide) ?_
        exact ih x1 x2_6 mta mba (upd mib (x2).toNatClampNeg (vp_nar .boolean (1 : Int32))) mdi H locs ls hm ⟨hP, hD, hS⟩ (lv_sub hl [1, 2, 0] rfl) hret

set_option maxHeartbeats 4000000 in
set_option maxRecDepth 100000 in
theorem k_X7_lays_2 {N : Nat} {mti : Nat → Int32} {mow : Nat → Int32} {mjo : Int32} {mab : Nat → Int64} {mbe : Nat → Int64} {mpl : Nat → Int32} {mbs : Nat → Int32} {mro : Nat → Int32} {mlo : Nat → Int32} {mth : Int32} {Q : Int32 → (Nat → Int64) → (Nat → Int32) → (Nat → Int32) → Int64 → Prop} (C0 : cxM cX7_lays 7 (some .boolean) RX7 wsX7_lays p s m args meth c dC dI cy A) :
    ∀ (n : Nat) (x1 : Int32) (x2 : Int32) (mta : Nat → Int64) (mba : Nat → Int32) (mib : Nat → Int32) (mdi : Int64) (H : Heap) (locs : List Loc) (ls : Array Slot) (hm : p_X7_lays_2 N mti mjo Q n x1 x2 mta mba mib mdi) (hSt : stC dC dI A s (wM ad cy mti mow mjo mta mba mib mdi mab mbe mpl mbs mro mlo mth) H locs) (hl : lv_has ls 7 [(0, .ref (ad 0)), (1, .int x1), (2, .int x2)]) (hret : ∀ (r : Int32) (mta : Nat → Int64) (mba : Nat → Int32) (mib : Nat → Int32) (mdi : Int64) (H : Heap) (locs : List Loc) (ls : Array Slot) (pc : Nat), decode cX7_lays pc = .ok (.ireturn, 1) → narrow .boolean (.int r) = .int r → stC dC dI A s (wM ad cy mti mow mjo mta mba mib mdi mab mbe mpl mbs mro mlo mth) H locs → Q r mta mba mib mdi → W p l e rmX7_lays s m args below meth c H locs 0 0 Z (F0 m pc ls [.int r])), W p l e rmX7_lays s m args below meth c H locs 0 0 Z (F0 m 2 ls []) := by
  obtain ⟨hx, hb, hml, hr, hown, hts, hlocks, hK, hA, hN⟩ := id C0
  intro n
  induction n with
  | zero => intro x1 x2 mta mba mib mdi H locs ls hm; exact False.elim hm
  | succ n ih =>
    intro x1 x2 mta mba mib mdi H locs ls hm hSt hl hret
    obtain ⟨hP, hD, hS⟩ := hSt
    unfold p_X7_lays_2 at hm
    refine lv_iload_n hx hb dX7_lays_2 rfl (lv_at hl 2 rfl) ?_
    refine lv_sipush (v := 297) hx hb dX7_lays_3 (by decide) ?_
    refine lv_icmp_ge (tgt := 22) hx hb dX7_lays_6 (by decide) (fun c_1 => ?_) (fun c_1 => ?_)
    · have hm := hm.1 c_1
      refine lv_iconst (v := 0) hx hb dX7_lays_22 (by decide) ?_
      refine lv_istore_n (lv' := [(2, .int (0 : Int32)), (0, .ref (ad 0)), (1, .int x1)]) hx hb dX7_lays_23 rfl hl (by decide) rfl (fun ls hl => ?_)
      exact k_X7_lays_24 C0 N x1 (0 : Int32) mta mba mib mdi H locs ls hm ⟨hP, hD, hS⟩ (lv_sub hl [1, 2, 0] rfl) hret
    · have hm := hm.2 c_1
      refine lv_aload_n hx hb dX7_lays_9 rfl (lv_at hl 0 rfl) ?_
      refine va_get (D := (dC, dI)) (ci := 7) (v := .ref (ad 3)) (C := RX7) (T := TX7) (N := 14) hx hb hts in_X7_lays_X7 hown hK hP 0 rfl rfl 3 (by decide) (hts _ fl_X7_lays_16) (fun _ h9 => h9) rfl dX7_lays_10 ?_
      refine lv_iload_n hx hb dX7_lays_13 rfl (lv_at hl 2 rfl) ?_
      refine lv_lconst (v := 0) hx hb dX7_lays_14 (by decide) ?_
      have hi_2 := hm.1
      have hm := hm.2
      refine va_last hx hb hK hP hD hS 3 1 rfl rfl hi_2 dX7_lays_15 (fun H locs hP hD hS => ?_)
      have hP : va_P (dC, dI) vwCl (wM ad cy mti mow mjo (vp_updL mta (x2).toNatClampNeg (0 : Int64)) mba mib mdi mab mbe mpl mbs mro mlo mth) H := hP
      have hD : va_D A (wM ad cy mti mow mjo (vp_updL mta (x2).toNatClampNeg (0 : Int64)) mba mib mdi mab mbe mpl mbs mro mlo mth) := hD
      obtain ⟨x2_3, ex2_3⟩ : ∃ y : Int32, y = x2 + (1 : Int32) := ⟨_, rfl⟩
      have hm := hm x2_3 ex2_3
      refine lv_iinc (v := x2_3) (lv' := [(2, .int x2_3), (0, .ref (ad 0)), (1, .int x1)]) hx hb dX7_lays_16 hl (k := 2) rfl (by rw [ex2_3]; rfl) (by decide) rfl (fun ls hl => ?_)
      refine lv_goto (tgt := 2) hx hb dX7_lays_19 (by decide) ?_
      exact ih x1 x2_3 (vp_updL mta (x2).toNatClampNeg (0 : Int64)) mba mib mdi H locs ls hm ⟨hP, hD, hS⟩ (lv_sub hl [1, 2, 0] rfl) hret

set_option maxHeartbeats 4000000 in
set_option maxRecDepth 100000 in
theorem k_X7_lays_0 {N : Nat} {mti : Nat → Int32} {mow : Nat → Int32} {mjo : Int32} {mab : Nat → Int64} {mbe : Nat → Int64} {mpl : Nat → Int32} {mbs : Nat → Int32} {mro : Nat → Int32} {mlo : Nat → Int32} {mth : Int32} {Q : Int32 → (Nat → Int64) → (Nat → Int32) → (Nat → Int32) → Int64 → Prop} (C0 : cxM cX7_lays 7 (some .boolean) RX7 wsX7_lays p s m args meth c dC dI cy A) :
    ∀ (x1 : Int32) (mta : Nat → Int64) (mba : Nat → Int32) (mib : Nat → Int32) (mdi : Int64) (H : Heap) (locs : List Loc) (ls : Array Slot) (hm : p_X7_lays N mti mjo Q x1 mta mba mib mdi) (hSt : stC dC dI A s (wM ad cy mti mow mjo mta mba mib mdi mab mbe mpl mbs mro mlo mth) H locs) (hl : lv_has ls 7 [(0, .ref (ad 0)), (1, .int x1)]) (hret : ∀ (r : Int32) (mta : Nat → Int64) (mba : Nat → Int32) (mib : Nat → Int32) (mdi : Int64) (H : Heap) (locs : List Loc) (ls : Array Slot) (pc : Nat), decode cX7_lays pc = .ok (.ireturn, 1) → narrow .boolean (.int r) = .int r → stC dC dI A s (wM ad cy mti mow mjo mta mba mib mdi mab mbe mpl mbs mro mlo mth) H locs → Q r mta mba mib mdi → W p l e rmX7_lays s m args below meth c H locs 0 0 Z (F0 m pc ls [.int r])), W p l e rmX7_lays s m args below meth c H locs 0 0 Z (F0 m 0 ls []) := by
  obtain ⟨hx, hb, hml, hr, hown, hts, hlocks, hK, hA, hN⟩ := id C0
  intro x1 mta mba mib mdi H locs ls hm hSt hl hret
  obtain ⟨hP, hD, hS⟩ := hSt
  unfold p_X7_lays at hm
  refine lv_iconst (v := 0) hx hb dX7_lays_0 (by decide) ?_
  refine lv_istore_n (lv' := [(2, .int (0 : Int32)), (0, .ref (ad 0)), (1, .int x1)]) hx hb dX7_lays_1 rfl hl (by decide) rfl (fun ls hl => ?_)
  exact k_X7_lays_2 C0 N x1 (0 : Int32) mta mba mib mdi H locs ls hm ⟨hP, hD, hS⟩ (lv_sub hl [1, 2, 0] rfl) hret

set_option maxHeartbeats 4000000 in
set_option maxRecDepth 100000 in
theorem c_X7_lays (l : Launch) (dC : Nat → ClassId) (dI : Nat → Nat → Nat) (cy : Nat → ClassId) (ad : Nat → Nat) (sz : Nat) (mti : Nat → Int32) (mow : Nat → Int32) (mjo : Int32) (mta : Nat → Int64) (mba : Nat → Int32) (mib : Nat → Int32) (mdi : Int64) (mab : Nat → Int64) (mbe : Nat → Int64) (mpl : Nat → Int32) (mbs : Nat → Int32) (mro : Nat → Int32) (mlo : Nat → Int32) (mth : Int32) (x1 : Int32) (N : Nat) (Q : Int32 → (Nat → Int64) → (Nat → Int32) → (Nat → Int32) → Int64 → Prop) (hm : p_X7_lays N mti mjo Q x1 mta mba mib mdi) : Met l yX7_lays wsX7_lays rmX7_lays (va_Pc [.ref (ad 0), .int x1] (cPre dC dI cy (wM ad cy mti mow mjo mta mba mib mdi mab mbe mpl mbs mro mlo mth) sz)) (va_Qi (fun (r : Int32) (u : (Nat → Int64) × (Nat → Int32) × (Nat → Int32) × Int64) => Q r u.1 u.2.1 u.2.2.1 u.2.2.2 ∧ narrow .boolean (.int r) = .int r) (fun u t => cPost dC dI cy (wM ad cy mti mow mjo mta mba mib mdi mab mbe mpl mbs mro mlo mth) sz (wM ad cy mti mow mjo (u.1) (u.2.1) (u.2.2.1) (u.2.2.2) mab mbe mpl mbs mro mlo mth) t) (va_A (wM ad cy mti mow mjo mta mba mib mdi mab mbe mpl mbs mro mlo mth) sz)) 0 0 (va_A (wM ad cy mti mow mjo mta mba mib mdi mab mbe mpl mbs mro mlo mth) sz) := by
  refine Met.ofW (cc := cX7_lays) (maxL := 7) (ret := (some .boolean)) (by decide) rfl ?_
  intro p e s m args below meth c s₁ B hml hv
  obtain ⟨rfl, hsz, hP, hK, hD0, hN⟩ := hv
  have hts := atoms_spec (ws := wsX7_lays) B.pre
  have hown : s.vm.findClass RX7 = some m.cls := findClass_of_methodNamed B.named
  subst hsz
  have hD := hD0.self (sz := s.heap.size)
  generalize hAe : va_A (wM ad cy mti mow mjo mta mba mib mdi mab mbe mpl mbs mro mlo mth) s.heap.size = A at hD ⊢
  have hA : ∀ q : Nat, s.heap.size ≤ q → A q := fun q h => by rw [← hAe]; exact Or.inr h
  have hl := lv_entry ([.ref (ad 0), .int x1]) (n := 7) (Nat.le_of_ble_eq_true rfl)
  rw [lg_entry_eq]
  generalize (lg_sl ([.ref (ad 0), .int x1]) ++ List.replicate (7 - (lg_sl ([.ref (ad 0), .int x1])).length) Slot.unset).toArray = ls at hl ⊢
  have hl : lv_has ls 7 [(0, .ref (ad 0)), (1, .int x1)] := hl
  exact k_X7_lays_0 ⟨B.exec, B.bytes, hml, B.returns, hown, hts, B.notSynchronized, hK, hA, hN⟩ x1 mta mba mib mdi s.heap [] ls hm ⟨hP, hD, va_S.rf⟩ (lv_sub hl [0, 1] rfl) (fun r mta mba mib mdi H locs ls pc hdg hn hSt hq => W.zret B.exec B.bytes B.returns hn (fun t ht hW => ⟨⟨r, (mta, mba, mib, mdi), rfl, ⟨hq, hn⟩, cPost_of hAe ht hW.alike hSt hK⟩, hSt.2.2.F ht⟩) hSt.2.2.2.2 hdg B.notSynchronized)
