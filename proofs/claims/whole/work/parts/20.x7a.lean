variable {p : Program} {l : Launch} {e : Env} {s : State} {m : MethodId} {args : Array Value} {below : List Frame} {meth : Method} {c : Code} {dC : Nat → ClassId} {dI : Nat → Nat → Nat} {cy : Nat → ClassId} {ad : Nat → Nat} {A : Nat → Prop} {Z : State → Prop}
-- ===== X7_thrown
theorem fl_X7_thrown_45 : Cond.fieldLink RX7 45 "UnlikeUnionModel" "thrown" "I" ∈ wsX7_thrown := by decide +kernel
theorem in_X7_thrown_X7 : ∀ w ∈ u_ws RX7 TX7 14, w ∈ wsX7_thrown := by decide +kernel
abbrev rmX7_thrown : Room := { frames := 1, cells := 0, slots := 0, locals := 61 }
def p_X7_thrown (N : Nat) (mth : Int32) (Q : Int32 → Prop)  : Prop :=
  Q mth

set_option maxHeartbeats 4000000 in
set_option maxRecDepth 100000 in
theorem k_X7_thrown_0 {N : Nat} {mti : Nat → Int32} {mow : Nat → Int32} {mjo : Int32} {mta : Nat → Int64} {mba : Nat → Int32} {mib : Nat → Int32} {mdi : Int64} {mab : Nat → Int64} {mbe : Nat → Int64} {mpl : Nat → Int32} {mbs : Nat → Int32} {mro : Nat → Int32} {mlo : Nat → Int32} {mth : Int32} {Q : Int32 → Prop} (C0 : cxM cX7_thrown 1 (some .int) RX7 wsX7_thrown p s m args meth c dC dI cy A) :
    ∀  (H : Heap) (locs : List Loc) (ls : Array Slot) (hm : p_X7_thrown N mth Q ) (hSt : stC dC dI A s (wM ad cy mti mow mjo mta mba mib mdi mab mbe mpl mbs mro mlo mth) H locs) (hl : lv_has ls 1 [(0, .ref (ad 0))]) (hret : ∀ (r : Int32) (H : Heap) (locs : List Loc) (ls : Array Slot) (pc : Nat), decode cX7_thrown pc = .ok (.ireturn, 1) → stC dC dI A s (wM ad cy mti mow mjo mta mba mib mdi mab mbe mpl mbs mro mlo mth) H locs → Q r → W p l e rmX7_thrown s m args below meth c H locs 0 0 Z (F0 m pc ls [.int r])), W p l e rmX7_thrown s m args below meth c H locs 0 0 Z (F0 m 0 ls []) := by
  obtain ⟨hx, hb, hml, hr, hown, hts, hlocks, hK, hA, hN⟩ := id C0
  intro  H locs ls hm hSt hl hret
  obtain ⟨hP, hD, hS⟩ := hSt
  unfold p_X7_thrown at hm
  refine lv_aload_n hx hb dX7_thrown_0 rfl (lv_at hl 0 rfl) ?_
  refine va_get (D := (dC, dI)) (ci := 7) (v := .int mth) (C := RX7) (T := TX7) (N := 14) hx hb hts in_X7_thrown_X7 hown hK hP 0 rfl rfl 13 (by decide) (hts _ fl_X7_thrown_45) (fun _ h9 => h9) rfl dX7_thrown_1 ?_
  exact hret mth H locs ls 4 dX7_thrown_4 ⟨hP, hD, hS⟩ hm

set_option maxHeartbeats 4000000 in
set_option maxRecDepth 100000 in
theorem c_X7_thrown (l : Launch) (dC : Nat → ClassId) (dI : Nat → Nat → Nat) (cy : Nat → ClassId) (ad : Nat → Nat) (sz : Nat) (mti : Nat → Int32) (mow : Nat → Int32) (mjo : Int32) (mta : Nat → Int64) (mba : Nat → Int32) (mib : Nat → Int32) (mdi : Int64) (mab : Nat → Int64) (mbe : Nat → Int64) (mpl : Nat → Int32) (mbs : Nat → Int32) (mro : Nat → Int32) (mlo : Nat → Int32) (mth : Int32)  (N : Nat) (Q : Int32 → Prop) (hm : p_X7_thrown N mth Q ) : Met l yX7_thrown wsX7_thrown rmX7_thrown (va_Pc [.ref (ad 0)] (cPre dC dI cy (wM ad cy mti mow mjo mta mba mib mdi mab mbe mpl mbs mro mlo mth) sz)) (va_Qi (fun (r : Int32) (u : Unit) => Q r) (fun u t => cPost dC dI cy (wM ad cy mti mow mjo mta mba mib mdi mab mbe mpl mbs mro mlo mth) sz (wM ad cy mti mow mjo mta mba mib mdi mab mbe mpl mbs mro mlo mth) t) (va_A (wM ad cy mti mow mjo mta mba mib mdi mab mbe mpl mbs mro mlo mth) sz)) 0 0 (va_A (wM ad cy mti mow mjo mta mba mib mdi mab mbe mpl mbs mro mlo mth) sz) := by
  refine Met.ofW (cc := cX7_thrown) (maxL := 1) (ret := (some .int)) (by decide) rfl ?_
  intro p e s m args below meth c s₁ B hml hv
  obtain ⟨rfl, hsz, hP, hK, hD0, hN⟩ := hv
  have hts := atoms_spec (ws := wsX7_thrown) B.pre
  have hown : s.vm.findClass RX7 = some m.cls := findClass_of_methodNamed B.named
  subst hsz
  have hD := hD0.self (sz := s.heap.size)
  generalize hAe : va_A (wM ad cy mti mow mjo mta mba mib mdi mab mbe mpl mbs mro mlo mth) s.heap.size = A at hD ⊢
  have hA : ∀ q : Nat, s.heap.size ≤ q → A q := fun q h => by rw [← hAe]; exact Or.inr h
  have hl := lv_entry ([.ref (ad 0)]) (n := 1) (Nat.le_of_ble_eq_true rfl)
  rw [lg_entry_eq]
  generalize (lg_sl ([.ref (ad 0)]) ++ List.replicate (1 - (lg_sl ([.ref (ad 0)])).length) Slot.unset).toArray = ls at hl ⊢
  have hl : lv_has ls 1 [(0, .ref (ad 0))] := hl
  exact k_X7_thrown_0 ⟨B.exec, B.bytes, hml, B.returns, hown, hts, B.notSynchronized, hK, hA, hN⟩  s.heap [] ls hm ⟨hP, hD, va_S.rf⟩ (lv_sub hl [0] rfl) (fun r H locs ls pc hdg hSt hq => W.iret B.exec B.bytes B.returns (fun t ht hW => ⟨⟨r, (), rfl, hq, cPost_of hAe ht hW.alike hSt hK⟩, hSt.2.2.F ht⟩) hSt.2.2.2.2 hdg B.notSynchronized)

-- ===== X7_goes
theorem fl_X7_goes_45 : Cond.fieldLink RX7 45 "UnlikeUnionModel" "thrown" "I" ∈ wsX7_goes := by decide +kernel
theorem in_X7_goes_X7 : ∀ w ∈ u_ws RX7 TX7 14, w ∈ wsX7_goes := by decide +kernel
abbrev rmX7_goes : Room := { frames := 1, cells := 0, slots := 0, locals := 64 }
def p_X7_goes (N : Nat) (Q : Int32 → Int32 → Prop) (x1 : Int32) (x2 : Int32) (x3 : Int32) (mth : Int32) : Prop :=
  (x1 = 0 → (((1 : Int32) = 0 → (Q (1 : Int32) (1 : Int32))) ∧ (¬ (1 : Int32) = 0 → (Q (0 : Int32) (1 : Int32))))) ∧ (¬ x1 = 0 → ((x2 = 0 → (((2 : Int32) = 0 → (Q (1 : Int32) (2 : Int32))) ∧ (¬ (2 : Int32) = 0 → (Q (0 : Int32) (2 : Int32))))) ∧ (¬ x2 = 0 → ((x3 = 0 → (((3 : Int32) = 0 → (Q (1 : Int32) (3 : Int32))) ∧ (¬ (3 : Int32) = 0 → (Q (0 : Int32) (3 : Int32))))) ∧ (¬ x3 = 0 → (((0 : Int32) = 0 → (Q (1 : Int32) (0 : Int32))) ∧ (¬ (0 : Int32) = 0 → (Q (0 : Int32) (0 : Int32)))))))))

set_option maxHeartbeats 4000000 in
set_option maxRecDepth 100000 in
theorem k_X7_goes_0 {N : Nat} {mti : Nat → Int32} {mow : Nat → Int32} {mjo : Int32} {mta : Nat → Int64} {mba : Nat → Int32} {mib : Nat → Int32} {mdi : Int64} {mab : Nat → Int64} {mbe : Nat → Int64} {mpl : Nat → Int32} {mbs : Nat → Int32} {mro : Nat → Int32} {mlo : Nat → Int32} {Q : Int32 → Int32 → Prop} (C0 : cxM cX7_goes 4 (some .boolean) RX7 wsX7_goes p s m args meth c dC dI cy A) :
    ∀ (x1 : Int32) (x2 : Int32) (x3 : Int32) (mth : Int32) (H : Heap) (locs : List Loc) (ls : Array Slot) (hm : p_X7_goes N Q x1 x2 x3 mth) (hSt : stC dC dI A s (wM ad cy mti mow mjo mta mba mib mdi mab mbe mpl mbs mro mlo mth) H locs) (hl : lv_has ls 4 [(0, .ref (ad 0)), (1, .int x1), (2, .int x2), (3, .int x3)]) (hret : ∀ (r : Int32) (mth : Int32) (H : Heap) (locs : List Loc) (ls : Array Slot) (pc : Nat), decode cX7_goes pc = .ok (.ireturn, 1) → narrow .boolean (.int r) = .int r → stC dC dI A s (wM ad cy mti mow mjo mta mba mib mdi mab mbe mpl mbs mro mlo mth) H locs → Q r mth → W p l e rmX7_goes s m args below meth c H locs 0 0 Z (F0 m pc ls [.int r])), W p l e rmX7_goes s m args below meth c H locs 0 0 Z (F0 m 0 ls []) := by
  obtain ⟨hx, hb, hml, hr, hown, hts, hlocks, hK, hA, hN⟩ := id C0
  intro x1 x2 x3 mth H locs ls hm hSt hl hret
  obtain ⟨hP, hD, hS⟩ := hSt
  unfold p_X7_goes at hm
  refine lv_aload_n hx hb dX7_goes_0 rfl (lv_at hl 0 rfl) ?_
  refine lv_iload_n hx hb dX7_goes_1 rfl (lv_at hl 1 rfl) ?_
  refine lv_if_ne (tgt := 9) hx hb dX7_goes_2 (by decide) (fun c_1 => ?_) (fun c_1 => ?_)
  · have hm := hm.2 c_1
    refine lv_iload_n hx hb dX7_goes_9 rfl (lv_at hl 2 rfl) ?_
    refine lv_if_ne (tgt := 17) hx hb dX7_goes_10 (by decide) (fun c_2 => ?_) (fun c_2 => ?_)
    · have hm := hm.2 c_2
      refine lv_iload_n hx hb dX7_goes_17 rfl (lv_at hl 3 rfl) ?_
      refine lv_if_ne (tgt := 25) hx hb dX7_goes_18 (by decide) (fun c_3 => ?_) (fun c_3 => ?_)
      · have hm := hm.2 c_3
        refine lv_iconst (v := 0) hx hb dX7_goes_25 (by decide) ?_
        refine va_put (D := (dC, dI)) (ci := 7) (v := .int (0 : Int32)) (ty := .int) (C := RX7) (T := TX7) (N := 14) hx hb hts in_X7_goes_X7 tyX7 tyX7_ok nmX7 hown hK hP hD hS 0 rfl rfl 13 (by decide) (hts _ fl_X7_goes_45) (fun _ h9 => h9) rfl (by decide +kernel) rfl rfl (Nat.le_of_ble_eq_true rfl) dX7_goes_26 (fun H locs hP hD hS => ?_)
        have hP : va_P (dC, dI) vwCl (wM ad cy mti mow mjo mta mba mib mdi mab mbe mpl mbs mro mlo (0 : Int32)) H := hP
        have hD : va_D A (wM ad cy mti mow mjo mta mba mib mdi mab mbe mpl mbs mro mlo (0 : Int32)) := hD
        refine lv_aload_n hx hb dX7_goes_29 rfl (lv_at hl 0 rfl) ?_
        refine va_get (D := (dC, dI)) (ci := 7) (v := .int (0 : Int32)) (C := RX7) (T := TX7) (N := 14) hx hb hts in_X7_goes_X7 hown hK hP 0 rfl rfl 13 (by decide) (hts _ fl_X7_goes_45) (fun _ h9 => h9) rfl dX7_goes_30 ?_
        refine lv_if_ne (tgt := 40) hx hb dX7_goes_33 (by decide) (fun c_4 => ?_) (fun c_4 => ?_)
        · have hm := hm.2 c_4
          refine lv_iconst (v := 0) hx hb dX7_goes_40 (by decide) ?_
          exact hret (0 : Int32) (0 : Int32) H locs ls 41 dX7_goes_41 rfl ⟨hP, hD, hS⟩ hm
        · have hm := hm.1 c_4
          refine lv_iconst (v := 1) hx hb dX7_goes_36 (by decide) ?_
          refine lv_goto (tgt := 41) hx hb dX7_goes_37 (by decide) ?_
          exact hret (1 : Int32) (0 : Int32) H locs ls 41 dX7_goes_41 rfl ⟨hP, hD, hS⟩ hm
      · have hm := hm.1 c_3
        refine lv_iconst (v := 3) hx hb dX7_goes_21 (by decide) ?_
        refine lv_goto (tgt := 26) hx hb dX7_goes_22 (by decide) ?_
        refine va_put (D := (dC, dI)) (ci := 7) (v := .int (3 : Int32)) (ty := .int) (C := RX7) (T := TX7) (N := 14) hx hb hts in_X7_goes_X7 tyX7 tyX7_ok nmX7 hown hK hP hD hS 0 rfl rfl 13 (by decide) (hts _ fl_X7_goes_45) (fun _ h9 => h9) rfl (by decide +kernel) rfl rfl (Nat.le_of_ble_eq_true rfl) dX7_goes_26 (fun H locs hP hD hS => ?_)
        have hP : va_P (dC, dI) vwCl (wM ad cy mti mow mjo mta mba mib mdi mab mbe mpl mbs mro mlo (3 : Int32)) H := hP
        have hD : va_D A (wM ad cy mti mow mjo mta mba mib mdi mab mbe mpl mbs mro mlo (3 : Int32)) := hD
        refine lv_aload_n hx hb dX7_goes_29 rfl (lv_at hl 0 rfl) ?_
        refine va_get (D := (dC, dI)) (ci := 7) (v := .int (3 : Int32)) (C := RX7) (T := TX7) (N := 14) hx hb hts in_X7_goes_X7 hown hK hP 0 rfl rfl 13 (by decide) (hts _ fl_X7_goes_45) (fun _ h9 => h9) rfl dX7_goes_30 ?_
        refine lv_if_ne (tgt := 40) hx hb dX7_goes_33 (by decide) (fun c_5 => ?_) (fun c_5 => ?_)
        · have hm := hm.2 c_5
          refine lv_iconst (v := 0) hx hb dX7_goes_40 (by decide) ?_
          exact hret (0 : Int32) (3 : Int32) H locs ls 41 dX7_goes_41 rfl ⟨hP, hD, hS⟩ hm
        · have hm := hm.1 c_5
          refine lv_iconst (v := 1) hx hb dX7_goes_36 (by decide) ?_
          refine lv_goto (tgt := 41) hx hb dX7_goes_37 (by decide) ?_
          exact hret (1 : Int32) (3 : Int32) H locs ls 41 dX7_goes_41 rfl ⟨hP, hD, hS⟩ hm
    · have hm := hm.1 c_2
      refine lv_iconst (v := 2) hx hb dX7_goes_13 (by decide) ?_
      refine lv_goto (tgt := 26) hx hb dX7_goes_14 (by decide) ?_
      refine va_put (D := (dC, dI)) (ci := 7) (v := .int (2 : Int32)) (ty := .int) (C := RX7) (T := TX7) (N := 14) hx hb hts in_X7_goes_X7 tyX7 tyX7_ok nmX7 hown hK hP hD hS 0 rfl rfl 13 (by decide) (hts _ fl_X7_goes_45) (fun _ h9 => h9) rfl (by decide +kernel) rfl rfl (Nat.le_of_ble_eq_true rfl) dX7_goes_26 (fun H locs hP hD hS => ?_)
      have hP : va_P (dC, dI) vwCl (wM ad cy mti mow mjo mta mba mib mdi mab mbe mpl mbs mro mlo (2 : Int32)) H := hP
      have hD : va_D A (wM ad cy mti mow mjo mta mba mib mdi mab mbe mpl mbs mro mlo (2 : Int32)) := hD
      refine lv_aload_n hx hb dX7_goes_29 rfl (lv_at hl 0 rfl) ?_
      refine va_get (D := (dC, dI)) (ci := 7) (v := .int (2 : Int32)) (C := RX7) (T := TX7) (N := 14) hx hb hts in_X7_goes_X7 hown hK hP 0 rfl rfl 13 (by decide) (hts _ fl_X7_goes_45) (fun _ h9 => h9) rfl dX7_goes_30 ?_
      refine lv_if_ne (tgt := 40) hx hb dX7_goes_33 (by decide) (fun c_6 => ?_) (fun c_6 => ?_)
      · have hm := hm.2 c_6
        refine lv_iconst (v := 0) hx hb dX7_goes_40 (by decide) ?_
        exact hret (0 : Int32) (2 : Int32) H locs ls 41 dX7_goes_41 rfl ⟨hP, hD, hS⟩ hm
      · have hm := hm.1 c_6
        refine lv_iconst (v := 1) hx hb dX7_goes_36 (by decide) ?_
        refine lv_goto (tgt := 41) hx hb dX7_goes_37 (by decide) ?_
        exact hret (1 : Int32) (2 : Int32) H locs ls 41 dX7_goes_41 rfl ⟨hP, hD, hS⟩ hm
  · have hm := hm.1 c_1
    refine lv_iconst (v := 1) hx hb dX7_goes_5 (by decide) ?_
    refine lv_goto (tgt := 26) hx hb dX7_goes_6 (by decide) ?_
    refine va_put (D := (dC, dI)) (ci := 7) (v := .int (1 : Int32)) (ty := .int) (C := RX7) (T := TX7) (N := 14) hx hb hts in_X7_goes_X7 tyX7 tyX7_ok nmX7 hown hK hP hD hS 0 rfl rfl 13 (by decide) (hts _ fl_X7_goes_45) (fun _ h9 => h9) rfl (by decide +kernel) rfl rfl (Nat.le_of_ble_eq_true rfl) dX7_goes_26 (fun H locs hP hD hS => ?_)
    have hP : va_P (dC, dI) vwCl (wM ad cy mti mow mjo mta mba mib mdi mab mbe mpl mbs mro mlo (1 : Int32)) H := hP
    have hD : va_D A (wM ad cy mti mow mjo mta mba mib mdi mab mbe mpl mbs mro mlo (1 : Int32)) := hD
    refine lv_aload_n hx hb dX7_goes_29 rfl (lv_at hl 0 rfl) ?_
    refine va_get (D := (dC, dI)) (ci := 7) (v := .int (1 : Int32)) (C := RX7) (T := TX7) (N := 14) hx hb hts in_X7_goes_X7 hown hK hP 0 rfl rfl 13 (by decide) (hts _ fl_X7_goes_45) (fun _ h9 => h9) rfl dX7_goes_30 ?_
    refine lv_if_ne (tgt := 40) hx hb dX7_goes_33 (by decide) (fun c_7 => ?_) (fun c_7 => ?_)
    · have hm := hm.2 c_7
      refine lv_iconst (v := 0) hx hb dX7_goes_40 (by decide) ?_
      exact hret (0 : Int32) (1 : Int32) H locs ls 41 dX7_goes_41 rfl ⟨hP, hD, hS⟩ hm
    · have hm := hm.1 c_7
      refine lv_iconst (v := 1) hx hb dX7_goes_36 (by decide) ?_
      refine lv_goto (tgt := 41) hx hb dX7_goes_37 (by decide) ?_
      exact hret (1 : Int32) (1 : Int32) H locs ls 41 dX7_goes_41 rfl ⟨hP, hD, hS⟩ hm

set_option maxHeartbeats 4000000 in
set_option maxRecDepth 100000 in
theorem c_X7_goes (l : Launch) (dC : Nat → ClassId) (dI : Nat → Nat → Nat) (cy : Nat → ClassId) (ad : Nat → Nat) (sz : Nat) (mti : Nat → Int32) (mow : Nat → Int32) (mjo : Int32) (mta : Nat → Int64) (mba : Nat → Int32) (mib : Nat → Int32) (mdi : Int64) (mab : Nat → Int64) (mbe : Nat → Int64) (mpl : Nat → Int32) (mbs : Nat → Int32) (mro : Nat → Int32) (mlo : Nat → Int32) (mth : Int32) (x1 : Int32) (x2 : Int32) (x3 : Int32) (N : Nat) (Q : Int32 → Int32 → Prop) (hm : p_X7_goes N Q x1 x2 x3 mth) : Met l yX7_goes wsX7_goes rmX7_goes (va_Pc [.ref (ad 0), .int x1, .int x2, .int x3] (cPre dC dI cy (wM ad cy mti mow mjo mta mba mib mdi mab mbe mpl mbs mro mlo mth) sz)) (va_Qi (fun (r : Int32) (u : Int32) => Q r u ∧ narrow .boolean (.int r) = .int r) (fun u t => cPost dC dI cy (wM ad cy mti mow mjo mta mba mib mdi mab mbe mpl mbs mro mlo mth) sz (wM ad cy mti mow mjo mta mba mib mdi mab mbe mpl mbs mro mlo u) t) (va_A (wM ad cy mti mow mjo mta mba mib mdi mab mbe mpl mbs mro mlo mth) sz)) 0 0 (va_A (wM ad cy mti mow mjo mta mba mib mdi mab mbe mpl mbs mro mlo mth) sz) := by
  refine Met.ofW (cc := cX7_goes) (maxL := 4) (ret := (some .boolean)) (by decide) rfl ?_
  intro p e s m args below meth c s₁ B hml hv
  obtain ⟨rfl, hsz, hP, hK, hD0, hN⟩ := hv
  have hts := atoms_spec (ws := wsX7_goes) B.pre
  have hown : s.vm.findClass RX7 = some m.cls := findClass_of_methodNamed B.named
  subst hsz
  have hD := hD0.self (sz := s.heap.size)
  generalize hAe : va_A (wM ad cy mti mow mjo mta mba mib mdi mab mbe mpl mbs mro mlo mth) s.heap.size = A at hD ⊢
  have hA : ∀ q : Nat, s.heap.size ≤ q → A q := fun q h => by rw [← hAe]; exact Or.inr h
  have hl := lv_entry ([.ref (ad 0), .int x1, .int x2, .int x3]) (n := 4) (Nat.le_of_ble_eq_true rfl)
  rw [lg_entry_eq]
  generalize (lg_sl ([.ref (ad 0), .int x1, .int x2, .int x3]) ++ List.replicate (4 - (lg_sl ([.ref (ad 0), .int x1, .int x2, .int x3])).length) Slot.unset).toArray = ls at hl ⊢
  have hl : lv_has ls 4 [(0, .ref (ad 0)), (1, .int x1), (2, .int x2), (3, .int x3)] := hl
  exact k_X7_goes_0 ⟨B.exec, B.bytes, hml, B.returns, hown, hts, B.notSynchronized, hK, hA, hN⟩ x1 x2 x3 mth s.heap [] ls hm ⟨hP, hD, va_S.rf⟩ (lv_sub hl [0, 1, 2, 3] rfl) (fun r mth H locs ls pc hdg hn hSt hq => W.zret B.exec B.bytes B.returns hn (fun t ht hW => ⟨⟨r, (mth), rfl, ⟨hq, hn⟩, cPost_of hAe ht hW.alike hSt hK⟩, hSt.2.2.F ht⟩) hSt.2.2.2.2 hdg B.notSynchronized)

-- ===== X7_isJob
theorem fl_X7_isJob_49 : Cond.fieldLink RX7 49 "UnlikeUnionModel" "jobs" "I" ∈ wsX7_isJob := by decide +kernel
theorem in_X7_isJob_X7 : ∀ w ∈ u_ws RX7 TX7 14, w ∈ wsX7_isJob := by decide +kernel
abbrev rmX7_isJob : Room := { frames := 1, cells := 0, slots := 0, locals := 62 }
def p_X7_isJob (N : Nat) (mjo : Int32) (Q : Int32 → Prop) (x1 : Int32) : Prop :=
  (x1 < 0 → (Q (0 : Int32))) ∧ (¬ x1 < 0 → ((mjo ≤ x1 → (Q (0 : Int32))) ∧ (¬ mjo ≤ x1 → (Q (1 : Int32)))))

set_option maxHeartbeats 4000000 in
set_option maxRecDepth 100000 in
theorem k_X7_isJob_0 {N : Nat} {mti : Nat → Int32} {mow : Nat → Int32} {mjo : Int32} {mta : Nat → Int64} {mba : Nat → Int32} {mib : Nat → Int32} {mdi : Int64} {mab : Nat → Int64} {mbe : Nat → Int64} {mpl : Nat → Int32} {mbs : Nat → Int32} {mro : Nat → Int32} {mlo : Nat → Int32} {mth : Int32} {Q : Int32 → Prop} (C0 : cxM cX7_isJob 2 (some .boolean) RX7 wsX7_isJob p s m args meth c dC dI cy A) :
    ∀ (x1 : Int32) (H : Heap) (locs : List Loc) (ls : Array Slot) (hm : p_X7_isJob N mjo Q x1) (hSt : stC dC dI A s (wM ad cy mti mow mjo mta mba mib mdi mab mbe mpl mbs mro mlo mth) H locs) (hl : lv_has ls 2 [(0, .ref (ad 0)), (1, .int x1)]) (hret : ∀ (r : Int32) (H : Heap) (locs : List Loc) (ls : Array Slot) (pc : Nat), decode cX7_isJob pc = .ok (.ireturn, 1) → narrow .boolean (.int r) = .int r → stC dC dI A s (wM ad cy mti mow mjo mta mba mib mdi mab mbe mpl mbs mro mlo mth) H locs → Q r → W p l e rmX7_isJob s m args below meth c H locs 0 0 Z (F0 m pc ls [.int r])), W p l e rmX7_isJob s m args below meth c H locs 0 0 Z (F0 m 0 ls []) := by
  obtain ⟨hx, hb, hml, hr, hown, hts, hlocks, hK, hA, hN⟩ := id C0
  intro x1 H locs ls hm hSt hl hret
  obtain ⟨hP, hD, hS⟩ := hSt
  unfold p_X7_isJob at hm
  refine lv_iload_n hx hb dX7_isJob_0 rfl (lv_at hl 1 rfl) ?_
  refine lv_if_lt (tgt := 16) hx hb dX7_isJob_1 (by decide) (fun c_1 => ?_) (fun c_1 => ?_)
  · have hm := hm.1 c_1
    refine lv_iconst (v := 0) hx hb dX7_isJob_16 (by decide) ?_
    exact hret (0 : Int32) H locs ls 17 dX7_isJob_17 rfl ⟨hP, hD, hS⟩ hm
  · have hm := hm.2 c_1
    refine lv_iload_n hx hb dX7_isJob_4 rfl (lv_at hl 1 rfl) ?_
    refine lv_aload_n hx hb dX7_isJob_5 rfl (lv_at hl 0 rfl) ?_
    refine va_get (D := (dC, dI)) (ci := 7) (v := .int mjo) (C := RX7) (T := TX7) (N := 14) hx hb hts in_X7_isJob_X7 hown hK hP 0 rfl rfl 2 (by decide) (hts _ fl_X7_isJob_49) (fun _ h9 => h9) rfl dX7_isJob_6 ?_
    refine lv_icmp_ge (tgt := 16) hx hb dX7_isJob_9 (by decide) (fun c_2 => ?_) (fun c_2 => ?_)
    · have hm := hm.1 c_2
      refine lv_iconst (v := 0) hx hb dX7_isJob_16 (by decide) ?_
      exact hret (0 : Int32) H locs ls 17 dX7_isJob_17 rfl ⟨hP, hD, hS⟩ hm
    · have hm := hm.2 c_2
      refine lv_iconst (v := 1) hx hb dX7_isJob_12 (by decide) ?_
      refine lv_goto (tgt := 17) hx hb dX7_isJob_13 (by decide) ?_
      exact hret (1 : Int32) H locs ls 17 dX7_isJob_17 rfl ⟨hP, hD, hS⟩ hm

set_option maxHeartbeats 4000000 in
set_option maxRecDepth 100000 in
theorem c_X7_isJob (l : Launch) (dC : Nat → ClassId) (dI : Nat → Nat → Nat) (cy : Nat → ClassId) (ad : Nat → Nat) (sz : Nat) (mti : Nat → Int32) (mow : Nat → Int32) (mjo : Int32) (mta : Nat → Int64) (mba : Nat → Int32) (mib : Nat → Int32) (mdi : Int64) (mab : Nat → Int64) (mbe : Nat → Int64) (mpl : Nat → Int32) (mbs : Nat → Int32) (mro : Nat → Int32) (mlo : Nat → Int32) (mth : Int32) (x1 : Int32) (N : Nat) (Q : Int32 → Prop) (hm : p_X7_isJob N mjo Q x1) : Met l yX7_isJob wsX7_isJob rmX7_isJob (va_Pc [.ref (ad 0), .int x1] (cPre dC dI cy (wM ad cy mti mow mjo mta mba mib mdi mab mbe mpl mbs mro mlo mth) sz)) (va_Qi (fun (r : Int32) (u : Unit) => Q r ∧ narrow .boolean (.int r) = .int r) (fun u t => cPost dC dI cy (wM ad cy mti mow mjo mta mba mib mdi mab mbe mpl mbs mro mlo mth) sz (wM ad cy mti mow mjo mta mba mib mdi mab mbe mpl mbs mro mlo mth) t) (va_A (wM ad cy mti mow mjo mta mba mib mdi mab mbe mpl mbs mro mlo mth) sz)) 0 0 (va_A (wM ad cy mti mow mjo mta mba mib mdi mab mbe mpl mbs mro mlo mth) sz) := by
  refine Met.ofW (cc := cX7_isJob) (maxL := 2) (ret := (some .boolean)) (by decide) rfl ?_
  intro p e s m args below meth c s₁ B hml hv
  obtain ⟨rfl, hsz, hP, hK, hD0, hN⟩ := hv
  have hts := atoms_spec (ws := wsX7_isJob) B.pre
  have hown : s.vm.findClass RX7 = some m.cls := findClass_of_methodNamed B.named
  subst hsz
  have hD := hD0.self (sz := s.heap.size)
  generalize hAe : va_A (wM ad cy mti mow mjo mta mba mib mdi mab mbe mpl mbs mro mlo mth) s.heap.size = A at hD ⊢
  have hA : ∀ q : Nat, s.heap.size ≤ q → A q := fun q h => by rw [← hAe]; exact Or.inr h
  have hl := lv_entry ([.ref (ad 0), .int x1]) (n := 2) (Nat.le_of_ble_eq_true rfl)
  rw [lg_entry_eq]
  generalize (lg_sl ([.ref (ad 0), .int x1]) ++ List.replicate (2 - (lg_sl ([.ref (ad 0), .int x1])).length) Slot.unset).toArray = ls at hl ⊢
  have hl : lv_has ls 2 [(0, .ref (ad 0)), (1, .int x1)] := hl
  exact k_X7_isJob_0 ⟨B.exec, B.bytes, hml, B.returns, hown, hts, B.notSynchronized, hK, hA, hN⟩ x1 s.heap [] ls hm ⟨hP, hD, va_S.rf⟩ (lv_sub hl [0, 1] rfl) (fun r H locs ls pc hdg hn hSt hq => W.zret B.exec B.bytes B.returns hn (fun t ht hW => ⟨⟨r, (), rfl, ⟨hq, hn⟩, cPost_of hAe ht hW.alike hSt hK⟩, hSt.2.2.F ht⟩) hSt.2.2.2.2 hdg B.notSynchronized)

-- ===== X7_isMachine
abbrev rmX7_isMachine : Room := { frames := 1, cells := 0, slots := 0, locals := 61 }
def p_X7_isMachine (N : Nat) (Q : Int32 → Prop) (x0 : Int32) : Prop :=
  (x0 < 0 → (Q (0 : Int32))) ∧ (¬ x0 < 0 → (((3 : Int32) ≤ x0 → (Q (0 : Int32))) ∧ (¬ (3 : Int32) ≤ x0 → (Q (1 : Int32)))))

set_option maxHeartbeats 4000000 in
set_option maxRecDepth 100000 in
theorem k_X7_isMachine_0 {N : Nat} {mti : Nat → Int32} {mow : Nat → Int32} {mjo : Int32} {mta : Nat → Int64} {mba : Nat → Int32} {mib : Nat → Int32} {mdi : Int64} {mab : Nat → Int64} {mbe : Nat → Int64} {mpl : Nat → Int32} {mbs : Nat → Int32} {mro : Nat → Int32} {mlo : Nat → Int32} {mth : Int32} {Q : Int32 → Prop} (C0 : cxM cX7_isMachine 1 (some .boolean) RX7 wsX7_isMachine p s m args meth c dC dI cy A) :
    ∀ (x0 : Int32) (H : Heap) (locs : List Loc) (ls : Array Slot) (hm : p_X7_isMachine N Q x0) (hSt : stC dC dI A s (wM ad cy mti mow mjo mta mba mib mdi mab mbe mpl mbs mro mlo mth) H locs) (hl : lv_has ls 1 [(0, .int x0)]) (hret : ∀ (r : Int32) (H : Heap) (locs : List Loc) (ls : Array Slot) (pc : Nat), decode cX7_isMachine pc = .ok (.ireturn, 1) → narrow .boolean (.int r) = .int r → stC dC dI A s (wM ad cy mti mow mjo mta mba mib mdi mab mbe mpl mbs mro mlo mth) H locs → Q r → W p l e rmX7_isMachine s m args below meth c H locs 0 0 Z (F0 m pc ls [.int r])), W p l e rmX7_isMachine s m args below meth c H locs 0 0 Z (F0 m 0 ls []) := by
  obtain ⟨hx, hb, hml, hr, hown, hts, hlocks, hK, hA, hN⟩ := id C0
  intro x0 H locs ls hm hSt hl hret
  obtain ⟨hP, hD, hS⟩ := hSt
  unfold p_X7_isMachine at hm
  refine lv_iload_n hx hb dX7_isMachine_0 rfl (lv_at hl 0 rfl) ?_
  refine lv_if_lt (tgt := 13) hx hb dX7_isMachine_1 (by decide) (fun c_1 => ?_) (fun c_1 => ?_)
  · have hm := hm.1 c_1
    refine lv_iconst (v := 0) hx hb dX7_isMachine_13 (by decide) ?_
    exact hret (0 : Int32) H locs ls 14 dX7_isMachine_14 rfl ⟨hP, hD, hS⟩ hm
  · have hm := hm.2 c_1
    refine lv_iload_n hx hb dX7_isMachine_4 rfl (lv_at hl 0 rfl) ?_
    refine lv_iconst (v := 3) hx hb dX7_isMachine_5 (by decide) ?_
    refine lv_icmp_ge (tgt := 13) hx hb dX7_isMachine_6 (by decide) (fun c_2 => ?_) (fun c_2 => ?_)
    · have hm := hm.1 c_2
      refine lv_iconst (v := 0) hx hb dX7_isMachine_13 (by decide) ?_
      exact hret (0 : Int32) H locs ls 14 dX7_isMachine_14 rfl ⟨hP, hD, hS⟩ hm
    · have hm := hm.2 c_2
      refine lv_iconst (v := 1) hx hb dX7_isMachine_9 (by decide) ?_
      refine lv_goto (tgt := 14) hx hb dX7_isMachine_10 (by decide) ?_
      exact hret (1 : Int32) H locs ls 14 dX7_isMachine_14 rfl ⟨hP, hD, hS⟩ hm

set_option maxHeartbeats 4000000 in
set_option maxRecDepth 100000 in
theorem c_X7_isMachine (l : Launch) (dC : Nat → ClassId) (dI : Nat → Nat → Nat) (cy : Nat → ClassId) (ad : Nat → Nat) (sz : Nat) (mti : Nat → Int32) (mow : Nat → Int32) (mjo : Int32) (mta : Nat → Int64) (mba : Nat → Int32) (mib : Nat → Int32) (mdi : Int64) (mab : Nat → Int64) (mbe : Nat → Int64) (mpl : Nat → Int32) (mbs : Nat → Int32) (mro : Nat → Int32) (mlo : Nat → Int32) (mth : Int32) (x0 : Int32) (N : Nat) (Q : Int32 → Prop) (hm : p_X7_isMachine N Q x0) : Met l yX7_isMachine wsX7_isMachine rmX7_isMachine (va_Pc [.int x0] (cPre dC dI cy (wM ad cy mti mow mjo mta mba mib mdi mab mbe mpl mbs mro mlo mth) sz)) (va_Qi (fun (r : Int32) (u : Unit) => Q r ∧ narrow .boolean (.int r) = .int r) (fun u t => cPost dC dI cy (wM ad cy mti mow mjo mta mba mib mdi mab mbe mpl mbs mro mlo mth) sz (wM ad cy mti mow mjo mta mba mib mdi mab mbe mpl mbs mro mlo mth) t) (va_A (wM ad cy mti mow mjo mta mba mib mdi mab mbe mpl mbs mro mlo mth) sz)) 0 0 (va_A (wM ad cy mti mow mjo mta mba mib mdi mab mbe mpl mbs mro mlo mth) sz) := by
  refine Met.ofW (cc := cX7_isMachine) (maxL := 1) (ret := (some .boolean)) (by decide) rfl ?_
  intro p e s m args below meth c s₁ B hml hv
  obtain ⟨rfl, hsz, hP, hK, hD0, hN⟩ := hv
  have hts := atoms_spec (ws := wsX7_isMachine) B.pre
  have hown : s.vm.findClass RX7 = some m.cls := findClass_of_methodNamed B.named
  subst hsz
  have hD := hD0.self (sz := s.heap.size)
  generalize hAe : va_A (wM ad cy mti mow mjo mta mba mib mdi mab mbe mpl mbs mro mlo mth) s.heap.size = A at hD ⊢
  have hA : ∀ q : Nat, s.heap.size ≤ q → A q := fun q h => by rw [← hAe]; exact Or.inr h
  have hl := lv_entry ([.int x0]) (n := 1) (Nat.le_of_ble_eq_true rfl)
  rw [lg_entry_eq]
  generalize (lg_sl ([.int x0]) ++ List.replicate (1 - (lg_sl ([.int x0])).length) Slot.unset).toArray = ls at hl ⊢
  have hl : lv_has ls 1 [(0, .int x0)] := hl
  exact k_X7_isMachine_0 ⟨B.exec, B.bytes, hml, B.returns, hown, hts, B.notSynchronized, hK, hA, hN⟩ x0 s.heap [] ls hm ⟨hP, hD, va_S.rf⟩ (lv_sub hl [0] rfl) (fun r H locs ls pc hdg hn hSt hq => W.zret B.exec B.bytes B.returns hn (fun t ht hW => ⟨⟨r, (), rfl, ⟨hq, hn⟩, cPost_of hAe ht hW.alike hSt hK⟩, hSt.2.2.F ht⟩) hSt.2.2.2.2 hdg B.notSynchronized)

-- ===== X7_isTime
abbrev rmX7_isTime : Room := { frames := 1, cells := 0, slots := 0, locals := 61 }
def p_X7_isTime (N : Nat) (Q : Int32 → Prop) (x0 : Int32) : Prop :=
  (x0 < 0 → (Q (0 : Int32))) ∧ (¬ x0 < 0 → (((50 : Int32) < x0 → (Q (0 : Int32))) ∧ (¬ (50 : Int32) < x0 → (Q (1 : Int32)))))

set_option maxHeartbeats 4000000 in
set_option maxRecDepth 100000 in
theorem k_X7_isTime_0 {N : Nat} {mti : Nat → Int32} {mow : Nat → Int32} {mjo : Int32} {mta : Nat → Int64} {mba : Nat → Int32} {mib : Nat → Int32} {mdi : Int64} {mab : Nat → Int64} {mbe : Nat → Int64} {mpl : Nat → Int32} {mbs : Nat → Int32} {mro : Nat → Int32} {mlo : Nat → Int32} {mth : Int32} {Q : Int32 → Prop} (C0 : cxM cX7_isTime 1 (some .boolean) RX7 wsX7_isTime p s m args meth c dC dI cy A) :
    ∀ (x0 : Int32) (H : Heap) (locs : List Loc) (ls : Array Slot) (hm : p_X7_isTime N Q x0) (hSt : stC dC dI A s (wM ad cy mti mow mjo mta mba mib mdi mab mbe mpl mbs mro mlo mth) H locs) (hl : lv_has ls 1 [(0, .int x0)]) (hret : ∀ (r : Int32) (H : Heap) (locs : List Loc) (ls : Array Slot) (pc : Nat), decode cX7_isTime pc = .ok (.ireturn, 1) → narrow .boolean (.int r) = .int r → stC dC dI A s (wM ad cy mti mow mjo mta mba mib mdi mab mbe mpl mbs mro mlo mth) H locs → Q r → W p l e rmX7_isTime s m args below meth c H locs 0 0 Z (F0 m pc ls [.int r])), W p l e rmX7_isTime s m args below meth c H locs 0 0 Z (F0 m 0 ls []) := by
  obtain ⟨hx, hb, hml, hr, hown, hts, hlocks, hK, hA, hN⟩ := id C0
  intro x0 H locs ls hm hSt hl hret
  obtain ⟨hP, hD, hS⟩ := hSt
  unfold p_X7_isTime at hm
  refine lv_iload_n hx hb dX7_isTime_0 rfl (lv_at hl 0 rfl) ?_
  refine lv_if_lt (tgt := 14) hx hb dX7_isTime_1 (by decide) (fun c_1 => ?_) (fun c_1 => ?_)
  · have hm := hm.1 c_1
    refine lv_iconst (v := 0) hx hb dX7_isTime_14 (by decide) ?_
    exact hret (0 : Int32) H locs ls 15 dX7_isTime_15 rfl ⟨hP, hD, hS⟩ hm
  · have hm := hm.2 c_1
    refine lv_iload_n hx hb dX7_isTime_4 rfl (lv_at hl 0 rfl) ?_
    refine lv_bipush (v := 50) hx hb dX7_isTime_5 (by decide) ?_
    refine lv_icmp_gt (tgt := 14) hx hb dX7_isTime_7 (by decide) (fun c_2 => ?_) (fun c_2 => ?_)
    · have hm := hm.1 c_2
      refine lv_iconst (v := 0) hx hb dX7_isTime_14 (by decide) ?_
      exact hret (0 : Int32) H locs ls 15 dX7_isTime_15 rfl ⟨hP, hD, hS⟩ hm
    · have hm := hm.2 c_2
      refine lv_iconst (v := 1) hx hb dX7_isTime_10 (by decide) ?_
      refine lv_goto (tgt := 15) hx hb dX7_isTime_11 (by decide) ?_
      exact hret (1 : Int32) H locs ls 15 dX7_isTime_15 rfl ⟨hP, hD, hS⟩ hm

set_option maxHeartbeats 4000000 in
set_option maxRecDepth 100000 in
theorem c_X7_isTime (l : Launch) (dC : Nat → ClassId) (dI : Nat → Nat → Nat) (cy : Nat → ClassId) (ad : Nat → Nat) (sz : Nat) (mti : Nat → Int32) (mow : Nat → Int32) (mjo : Int32) (mta : Nat → Int64) (mba : Nat → Int32) (mib : Nat → Int32) (mdi : Int64) (mab : Nat → Int64) (mbe : Nat → Int64) (mpl : Nat → Int32) (mbs : Nat → Int32) (mro : Nat → Int32) (mlo : Nat → Int32) (mth : Int32) (x0 : Int32) (N : Nat) (Q : Int32 → Prop) (hm : p_X7_isTime N Q x0) : Met l yX7_isTime wsX7_isTime rmX7_isTime (va_Pc [.int x0] (cPre dC dI cy (wM ad cy mti mow mjo mta mba mib mdi mab mbe mpl mbs mro mlo mth) sz)) (va_Qi (fun (r : Int32) (u : Unit) => Q r ∧ narrow .boolean (.int r) = .int r) (fun u t => cPost dC dI cy (wM ad cy mti mow mjo mta mba mib mdi mab mbe mpl mbs mro mlo mth) sz (wM ad cy mti mow mjo mta mba mib mdi mab mbe mpl mbs mro mlo mth) t) (va_A (wM ad cy mti mow mjo mta mba mib mdi mab mbe mpl mbs mro mlo mth) sz)) 0 0 (va_A (wM ad cy mti mow mjo mta mba mib mdi mab mbe mpl mbs mro mlo mth) sz) := by
  refine Met.ofW (cc := cX7_isTime) (maxL := 1) (ret := (some .boolean)) (by decide) rfl ?_
  intro p e s m args below meth c s₁ B hml hv
  obtain ⟨rfl, hsz, hP, hK, hD0, hN⟩ := hv
  have hts := atoms_spec (ws := wsX7_isTime) B.pre
  have hown : s.vm.findClass RX7 = some m.cls := findClass_of_methodNamed B.named
  subst hsz
  have hD := hD0.self (sz := s.heap.size)
  generalize hAe : va_A (wM ad cy mti mow mjo mta mba mib mdi mab mbe mpl mbs mro mlo mth) s.heap.size = A at hD ⊢
  have hA : ∀ q : Nat, s.heap.size ≤ q → A q := fun q h => by rw [← hAe]; exact Or.inr h
  have hl := lv_entry ([.int x0]) (n := 1) (Nat.le_of_ble_eq_true rfl)
  rw [lg_entry_eq]
  generalize (lg_sl ([.int x0]) ++ List.replicate (1 - (lg_sl ([.int x0])).length) Slot.unset).toArray = ls at hl ⊢
  have hl : lv_has ls 1 [(0, .int x0)] := hl
  exact k_X7_isTime_0 ⟨B.exec, B.bytes, hml, B.returns, hown, hts, B.notSynchronized, hK, hA, hN⟩ x0 s.heap [] ls hm ⟨hP, hD, va_S.rf⟩ (lv_sub hl [0] rfl) (fun r H locs ls pc hdg hn hSt hq => W.zret B.exec B.bytes B.returns hn (fun t ht hW => ⟨⟨r, (), rfl, ⟨hq, hn⟩, cPost_of hAe ht hW.alike hSt hK⟩, hSt.2.2.F ht⟩) hSt.2.2.2.2 hdg B.notSynchronized)

-- ===== X7_lowest
theorem fl_X7_lowest_7 : Cond.fieldLink RX7 7 "UnlikeUnionModel" "time" "[I" ∈ wsX7_lowest := by decide +kernel
theorem in_X7_lowest_X7 : ∀ w ∈ u_ws RX7 TX7 14, w ∈ wsX7_lowest := by decide +kernel
abbrev rmX7_lowest : Room := { frames := 1, cells := 0, slots := 0, locals := 64 }
def p_X7_lowest_4 (N : Nat) (mti : Nat → Int32) (Q : Int32 → Prop) : Nat → Int32 → Int32 → Int32 → Prop
  | 0 => fun _ _ _ => False
  | n + 1 => fun x1 x2 x3 => (x3 < 0 → (Q x2)) ∧ (¬ x3 < 0 → (vp_in (((3 : Int32) * x1) + x3) 21 ∧ (((mti (((3 : Int32) * x1) + x3).toNatClampNeg) ≤ 0 → (∀ x3_4 : Int32, x3_4 = x3 + (-1 : Int32) → (p_X7_lowest_4 N mti Q n x1 x2 x3_4))) ∧ (¬ (mti (((3 : Int32) * x1) + x3).toNatClampNeg) ≤ 0 → (∀ x3_5 : Int32, x3_5 = x3 + (-1 : Int32) → (p_X7_lowest_4 N mti Q n x1 x3 x3_5))))))

def p_X7_lowest (N : Nat) (mti : Nat → Int32) (Q : Int32 → Prop) (x1 : Int32) : Prop :=
  p_X7_lowest_4 N mti Q N x1 (2 : Int32) (2 : Int32)

set_option maxHeartbeats 4000000 in
set_option maxRecDepth 100000 in
theorem k_X7_lowest_4 {N : Nat} {mti : Nat → Int32} {mow : Nat → Int32} {mjo : Int32} {mta : Nat → Int64} {mba : Nat → Int32} {mib : Nat → Int32} {mdi : Int64} {mab : Nat → Int64} {mbe : Nat → Int64} {mpl : Nat → Int32} {mbs : Nat → Int32} {mro : Nat → Int32} {mlo : Nat → Int32} {mth : Int32} {Q : Int32 → Prop} (C0 : cxM cX7_lowest 4 (some .int) RX7 wsX7_lowest p s m args meth c dC dI cy A) :
    ∀ (n : Nat) (x1 : Int32) (x2 : Int32) (x3 : Int32) (H : Heap) (locs : List Loc) (ls : Array Slot) (hm : p_X7_lowest_4 N mti Q n x1 x2 x3) (hSt : stC dC dI A s (wM ad cy mti mow mjo mta mba mib mdi mab mbe mpl mbs mro mlo mth) H locs) (hl : lv_has ls 4 [(0, .ref (ad 0)), (1, .int x1), (2, .int x2), (3, .int x3)]) (hret : ∀ (r : Int32) (H : Heap) (locs : List Loc) (ls : Array Slot) (pc : Nat), decode cX7_lowest pc = .ok (.ireturn, 1) → stC dC dI A s (wM ad cy mti mow mjo mta mba mib mdi mab mbe mpl mbs mro mlo mth) H locs → Q r → W p l e rmX7_lowest s m args below meth c H locs 0 0 Z (F0 m pc ls [.int r])), W p l e rmX7_lowest s m args below meth c H locs 0 0 Z (F0 m 4 ls []) := by
  obtain ⟨hx, hb, hml, hr, hown, hts, hlocks, hK, hA, hN⟩ := id C0
  intro n
  induction n with
  | zero => intro x1 x2 x3 H locs ls hm; exact False.elim hm
  | succ n ih =>
    intro x1 x2 x3 H locs ls hm hSt hl hret
    obtain ⟨hP, hD, hS⟩ := hSt
    unfold p_X7_lowest_4 at hm
    refine lv_iload_n hx hb dX7_lowest_4 rfl (lv_at hl 3 rfl) ?_
    refine lv_if_lt (tgt := 33) hx hb dX7_lowest_5 (by decide) (fun c_1 => ?_) (fun c_1 => ?_)
    · have hm := hm.1 c_1
      refine lv_iload_n hx hb dX7_lowest_33 rfl (lv_at hl 2 rfl) ?_
      exact hret x2 H locs ls 34 dX7_lowest_34 ⟨hP, hD, hS⟩ hm
    · have hm := hm.2 c_1
      refine lv_aload_n hx hb dX7_lowest_8 rfl (lv_at hl 0 rfl) ?_
      refine va_get (D := (dC, dI)) (ci := 7) (v := .ref (ad 1)) (C := RX7) (T := TX7) (N := 14) hx hb hts in_X7_lowest_X7 hown hK hP 0 rfl rfl 0 (by decide) (hts _ fl_X7_lowest_7) (fun _ h9 => h9) rfl dX7_lowest_9 ?_
      refine lv_iconst (v := 3) hx hb dX7_lowest_12 (by decide) ?_
      refine lv_iload_n hx hb dX7_lowest_13 rfl (lv_at hl 1 rfl) ?_
      refine lv_imul hx hb dX7_lowest_14 ?_
      refine lv_iload_n hx hb dX7_lowest_15 rfl (lv_at hl 3 rfl) ?_
      refine lv_iadd hx hb dX7_lowest_16 ?_
      have hi_2 := hm.1
      have hm := hm.2
      refine va_iald hx hb hK hP 1 0 rfl rfl hi_2 dX7_lowest_17 ?_
      refine lv_if_le (tgt := 25) hx hb dX7_lowest_18 (by decide) (fun c_3 => ?_) (fun c_3 => ?_)
      · have hm := hm.1 c_3
        refine lv_iload_n hx hb dX7_lowest_25 rfl (lv_at hl 2 rfl) ?_
        refine lv_istore_n (lv' := [(2, .int x2), (0, .ref (ad 0)), (1, .int x1), (3, .int x3)]) hx hb dX7_lowest_26 rfl hl (by decide) rfl (fun ls hl => ?_)
        obtain ⟨x3_4, ex3_4⟩ : ∃ y : Int32, y = x3 + (-1 : Int32) := ⟨_, rfl⟩
        have hm := hm x3_4 ex3_4
        refine lv_iinc (v := x3_4) (lv' := [(3, .int x3_4), (2, .int x2), (0, .ref (ad 0)), (1, .int x1)]) hx hb dX7_lowest_27 hl (k := 3) rfl (by rw [ex3_4]; rfl) (by decide) rfl (fun ls hl => ?_)
        refine lv_goto (tgt := 4) hx hb dX7_lowest_30 (by decide) ?_
        exact ih x1 x2 x3_4 H locs ls hm ⟨hP, hD, hS⟩ (lv_sub hl [2, 3, 1, 0] rfl) hret
      · have hm := hm.2 c_3
        refine lv_iload_n hx hb dX7_lowest_21 rfl (lv_at hl 3 rfl) ?_
        refine lv_goto (tgt := 26) hx hb dX7_lowest_22 (by decide) ?_
        refine lv_istore_n (lv' := [(2, .int x3), (0, .ref (ad 0)), (1, .int x1), (3, .int x3)]) hx hb dX7_lowest_26 rfl hl (by decide) rfl (fun ls hl => ?_)
        obtain ⟨x3_5, ex3_5⟩ : ∃ y : Int32, y = x3 + (-1 : Int32) := ⟨_, rfl⟩
        have hm := hm x3_5 ex3_5
        refine lv_iinc (v := x3_5) (lv' := [(3, .int x3_5), (2, .int x3), (0, .ref (ad 0)), (1, .int x1)]) hx hb dX7_lowest_27 hl (k := 3) rfl (by rw [ex3_5]; rfl) (by decide) rfl (fun ls hl => ?_)
        refine lv_goto (tgt := 4) hx hb dX7_lowest_30 (by decide) ?_
        exact ih x1 x3 x3_5 H locs ls hm ⟨hP, hD, hS⟩ (lv_sub hl [2, 3, 1, 0] rfl) hret

set_option maxHeartbeats 4000000 in
set_option maxRecDepth 100000 in
theorem k_X7_lowest_0 {N : Nat} {mti : Nat → Int32} {mow : Nat → Int32} {mjo : Int32} {mta : Nat → Int64} {mba : Nat → Int32} {mib : Nat → Int32} {mdi : Int64} {mab : Nat → Int64} {mbe : Nat → Int64} {mpl : Nat → Int32} {mbs : Nat → Int32} {mro : Nat → Int32} {mlo : Nat → Int32} {mth : Int32} {Q : Int32 → Prop} (C0 : cxM cX7_lowest 4 (some .int) RX7 wsX7_lowest p s m args meth c dC dI cy A) :
    ∀ (x1 : Int32) (H : Heap) (locs : List Loc) (ls : Array Slot) (hm : p_X7_lowest N mti Q x1) (hSt : stC dC dI A s (wM ad cy mti mow mjo mta mba mib mdi mab mbe mpl mbs mro mlo mth) H locs) (hl : lv_has ls 4 [(0, .ref (ad 0)), (1, .int x1)]) (hret : ∀ (r : Int32) (H : Heap) (locs : List Loc) (ls : Array Slot) (pc : Nat), decode cX7_lowest pc = .ok (.ireturn, 1) → stC dC dI A s (wM ad cy mti mow mjo mta mba mib mdi mab mbe mpl mbs mro mlo mth) H locs → Q r → W p l e rmX7_lowest s m args below meth c H locs 0 0 Z (F0 m pc ls [.int r])), W p l e rmX7_lowest s m args below meth c H locs 0 0 Z (F0 m 0 ls []) := by
  obtain ⟨hx, hb, hml, hr, hown, hts, hlocks, hK, hA, hN⟩ := id C0
  intro x1 H locs ls hm hSt hl hret
  obtain ⟨hP, hD, hS⟩ := hSt
  unfold p_X7_lowest at hm
  refine lv_iconst (v := 2) hx hb dX7_lowest_0 (by decide) ?_
  refine lv_istore_n (lv' := [(2, .int (2 : Int32)), (0, .ref (ad 0)), (1, .int x1)]) hx hb dX7_lowest_1 rfl hl (by decide) rfl (fun ls hl => ?_)
  refine lv_iconst (v := 2) hx hb dX7_lowest_2 (by decide) ?_
  refine lv_istore_n (lv' := [(3, .int (2 : Int32)), (2, .int (2 : Int32)), (0, .ref (ad 0)), (1, .int x1)]) hx hb dX7_lowest_3 rfl hl (by decide) rfl (fun ls hl => ?_)
  exact k_X7_lowest_4 C0 N x1 (2 : Int32) (2 : Int32) H locs ls hm ⟨hP, hD, hS⟩ (lv_sub hl [2, 3, 1, 0] rfl) hret

set_option maxHeartbeats 4000000 in
set_option maxRecDepth 100000 in
theorem c_X7_lowest (l : Launch) (dC : Nat → ClassId) (dI : Nat → Nat → Nat) (cy : Nat → ClassId) (ad : Nat → Nat) (sz : Nat) (mti : Nat → Int32) (mow : Nat → Int32) (mjo : Int32) (mta : Nat → Int64) (mba : Nat → Int32) (mib : Nat → Int32) (mdi : Int64) (mab : Nat → Int64) (mbe : Nat → Int64) (mpl : Nat → Int32) (mbs : Nat → Int32) (mro : Nat → Int32) (mlo : Nat → Int32) (mth : Int32) (x1 : Int32) (N : Nat) (Q : Int32 → Prop) (hm : p_X7_lowest N mti Q x1) : Met l yX7_lowest wsX7_lowest rmX7_lowest (va_Pc [.ref (ad 0), .int x1] (cPre dC dI cy (wM ad cy mti mow mjo mta mba mib mdi mab mbe mpl mbs mro mlo mth) sz)) (va_Qi (fun (r : Int32) (u : Unit) => Q r) (fun u t => cPost dC dI cy (wM ad cy mti mow mjo mta mba mib mdi mab mbe mpl mbs mro mlo mth) sz (wM ad cy mti mow mjo mta mba mib mdi mab mbe mpl mbs mro mlo mth) t) (va_A (wM ad cy mti mow mjo mta mba mib mdi mab mbe mpl mbs mro mlo mth) sz)) 0 0 (va_A (wM ad cy mti mow mjo mta mba mib mdi mab mbe mpl mbs mro mlo mth) sz) := by
  refine Met.ofW (cc := cX7_lowest) (maxL := 4) (ret := (some .int)) (by decide) rfl ?_
  intro p e s m args below meth c s₁ B hml hv
  obtain ⟨rfl, hsz, hP, hK, hD0, hN⟩ := hv
  have hts := atoms_spec (ws := wsX7_lowest) B.pre
  have hown : s.vm.findClass RX7 = some m.cls := findClass_of_methodNamed B.named
  subst hsz
  have hD := hD0.self (sz := s.heap.size)
  generalize hAe : va_A (wM ad cy mti mow mjo mta mba mib mdi mab mbe mpl mbs mro mlo mth) s.heap.size = A at hD ⊢
  have hA : ∀ q : Nat, s.heap.size ≤ q → A q := fun q h => by rw [← hAe]; exact Or.inr h
  have hl := lv_entry ([.ref (ad 0), .int x1]) (n := 4) (Nat.le_of_ble_eq_true rfl)
  rw [lg_entry_eq]
  generalize (lg_sl ([.ref (ad 0), .int x1]) ++ List.replicate (4 - (lg_sl ([.ref (ad 0), .int x1])).length) Slot.unset).toArray = ls at hl ⊢
  have hl : lv_has ls 4 [(0, .ref (ad 0)), (1, .int x1)] := hl
  exact k_X7_lowest_0 ⟨B.exec, B.bytes, hml, B.returns, hown, hts, B.notSynchronized, hK, hA, hN⟩ x1 s.heap [] ls hm ⟨hP, hD, va_S.rf⟩ (lv_sub hl [0, 1] rfl) (fun r H locs ls pc hdg hSt hq => W.iret B.exec B.bytes B.returns (fun t ht hW => ⟨⟨r, (), rfl, hq, cPost_of hAe ht hW.alike hSt hK⟩, hSt.2.2.F ht⟩) hSt.2.2.2.2 hdg B.notSynchronized)

-- ===== X7_addJob
theorem fl_X7_addJob_49 : Cond.fieldLink RX7 49 "UnlikeUnionModel" "jobs" "I" ∈ wsX7_addJob := by decide +kernel
theorem fl_X7_addJob_7 : Cond.fieldLink RX7 7 "UnlikeUnionModel" "time" "[I" ∈ wsX7_addJob := by decide +kernel
theorem fl_X7_addJob_13 : Cond.fieldLink RX7 13 "UnlikeUnionModel" "own" "[I" ∈ wsX7_addJob := by decide +kernel
theorem in_X7_addJob_X7 : ∀ w ∈ u_ws RX7 TX7 14, w ∈ wsX7_addJob := by decide +kernel
abbrev rmX7_addJob : Room := { frames := 2, cells := 0, slots := 0, locals := 147 }
def p_X7_addJob_53 (N : Nat) (Q : Int32 → (Nat → Int32) → (Nat → Int32) → Int32 → Int32 → Prop) (x1 : Int32) (x2 : Int32) (x3 : Int32) (s1 : Int32) (s2 : Int32) (mti : Nat → Int32) (mow : Nat → Int32) (mjo : Int32) (mth : Int32) : Prop :=
  p_X7_goes N (fun r_1 mth_2 => (r_1 = 0 → (Q (0 : Int32) mti mow mjo mth_2)) ∧ (¬ r_1 = 0 → (vp_in ((3 : Int32) * mjo) 21 ∧ (vp_in (((3 : Int32) * mjo) + (1 : Int32)) 21 ∧ (vp_in (((3 : Int32) * mjo) + (2 : Int32)) 21 ∧ (p_X7_lowest N (upd (upd (upd mti ((3 : Int32) * mjo).toNatClampNeg x1) (((3 : Int32) * mjo) + (1 : Int32)).toNatClampNeg x2) (((3 : Int32) * mjo) + (2 : Int32)).toNatClampNeg x3) (fun r_7 => vp_in mjo 7 ∧ (∀ f_9 : Int32, f_9 = mjo + (1 : Int32) → (Q (f_9 - (1 : Int32)) (upd (upd (upd mti ((3 : Int32) * mjo).toNatClampNeg x1) (((3 : Int32) * mjo) + (1 : Int32)).toNatClampNeg x2) (((3 : Int32) * mjo) + (2 : Int32)).toNatClampNeg x3) (upd mow (mjo).toNatClampNeg r_7) f_9 mth_2))) mjo)))))) s1 s2 (1 : Int32) mth

def p_X7_addJob (N : Nat) (Q : Int32 → (Nat → Int32) → (Nat → Int32) → Int32 → Int32 → Prop) (x1 : Int32) (x2 : Int32) (x3 : Int32) (mti : Nat → Int32) (mow : Nat → Int32) (mjo : Int32) (mth : Int32) : Prop :=
  p_X7_isTime N (fun r_1 => (r_1 = 0 → (((7 : Int32) ≤ mjo → (p_X7_addJob_53 N Q x1 x2 x3 (0 : Int32) (0 : Int32) mti mow mjo mth)) ∧ (¬ (7 : Int32) ≤ mjo → (p_X7_addJob_53 N Q x1 x2 x3 (0 : Int32) (1 : Int32) mti mow mjo mth)))) ∧ (¬ r_1 = 0 → (p_X7_isTime N (fun r_4 => (r_4 = 0 → (((7 : Int32) ≤ mjo → (p_X7_addJob_53 N Q x1 x2 x3 (0 : Int32) (0 : Int32) mti mow mjo mth)) ∧ (¬ (7 : Int32) ≤ mjo → (p_X7_addJob_53 N Q x1 x2 x3 (0 : Int32) (1 : Int32) mti mow mjo mth)))) ∧ (¬ r_4 = 0 → (p_X7_isTime N (fun r_7 => (r_7 = 0 → (((7 : Int32) ≤ mjo → (p_X7_addJob_53 N Q x1 x2 x3 (0 : Int32) (0 : Int32) mti mow mjo mth)) ∧ (¬ (7 : Int32) ≤ mjo → (p_X7_addJob_53 N Q x1 x2 x3 (0 : Int32) (1 : Int32) mti mow mjo mth)))) ∧ (¬ r_7 = 0 → ((((x1 + x2) + x3) ≤ 0 → (((7 : Int32) ≤ mjo → (p_X7_addJob_53 N Q x1 x2 x3 (0 : Int32) (0 : Int32) mti mow mjo mth)) ∧ (¬ (7 : Int32) ≤ mjo → (p_X7_addJob_53 N Q x1 x2 x3 (0 : Int32) (1 : Int32) mti mow mjo mth)))) ∧ (¬ ((x1 + x2) + x3) ≤ 0 → (((7 : Int32) ≤ mjo → (p_X7_addJob_53 N Q x1 x2 x3 (1 : Int32) (0 : Int32) mti mow mjo mth)) ∧ (¬ (7 : Int32) ≤ mjo → (p_X7_addJob_53 N Q x1 x2 x3 (1 : Int32) (1 : Int32) mti mow mjo mth))))))) x3))) x2))) x1

set_option maxHeartbeats 4000000 in
set_option maxRecDepth 100000 in
theorem k_X7_addJob_53 {N : Nat} {mta : Nat → Int64} {mba : Nat → Int32} {mib : Nat → Int32} {mdi : Int64} {mab : Nat → Int64} {mbe : Nat → Int64} {mpl : Nat → Int32} {mbs : Nat → Int32} {mro : Nat → Int32} {mlo : Nat → Int32} {Q : Int32 → (Nat → Int32) → (Nat → Int32) → Int32 → Int32 → Prop} (C0 : cxM cX7_addJob 5 (some .int) RX7 wsX7_addJob p s m args meth c dC dI cy A) :
    ∀ (x1 : Int32) (x2 : Int32) (x3 : Int32) (s1 : Int32) (s2 : Int32) (mti : Nat → Int32) (mow : Nat → Int32) (mjo : Int32) (mth : Int32) (H : Heap) (locs : List Loc) (ls : Array Slot) (hm : p_X7_addJob_53 N Q x1 x2 x3 s1 s2 mti mow mjo mth) (hSt : stC dC dI A s (wM ad cy mti mow mjo mta mba mib mdi mab mbe mpl mbs mro mlo mth) H locs) (hl : lv_has ls 5 [(0, .ref (ad 0)), (1, .int x1), (2, .int x2), (3, .int x3)]) (hret : ∀ (r : Int32) (mti : Nat → Int32) (mow : Nat → Int32) (mjo : Int32) (mth : Int32) (H : Heap) (locs : List Loc) (ls : Array Slot) (pc : Nat), decode cX7_addJob pc = .ok (.ireturn, 1) → stC dC dI A s (wM ad cy mti mow mjo mta mba mib mdi mab mbe mpl mbs mro mlo mth) H locs → Q r mti mow mjo mth → W p l e rmX7_addJob s m args below meth c H locs 0 0 Z (F0 m pc ls [.int r])), W p l e rmX7_addJob s m args below meth c H locs 0 0 Z (F0 m 53 ls [.int s2, .int s1, .ref (ad 0)]) := by
  obtain ⟨hx, hb, hml, hr, hown, hts, hlocks, hK, hA, hN⟩ := id C0
  intro x1 x2 x3 s1 s2 mti mow mjo mth H locs ls hm hSt hl hret
  obtain ⟨hP, hD, hS⟩ := hSt
  unfold p_X7_addJob_53 at hm
  refine lv_iconst (v := 1) hx hb dX7_addJob_53 (by decide) ?_
  have hFc := va_freeSame hD hS hA
  refine va_calli (va_runV (As := [.int s1, .int s2, .int (1 : Int32)]) (rest := []) ⟨hx, hb, hml, hown, hts⟩ (c_X7_goes l dC dI cy ad H.size mti mow mjo mta mba mib mdi mab mbe mpl mbs mro mlo mth s1 s2 (1 : Int32) _ _ hm) (cwV 3 hts gX7_addJob_X7_goes rfl rfl rfl (by decide +kernel) ⟨Nat.le_of_ble_eq_true rfl, Nat.le_of_ble_eq_true rfl⟩) ⟨cPre_blind, va_recv hK hP (ci := 7) (q0 := 0) rfl rfl, fun U hU hW => ⟨rfl, cPre_at hP hK hD hN hU hW⟩⟩ rfl rfl hl.1 rfl (lv_room (Nat.le_of_ble_eq_true rfl)) dX7_addJob_54 ⟨Nat.zero_le _, Nat.zero_le _⟩) hS (fun q _ h => hFc q h) hFc (fun r_1 u t H locs ht hvm hw hB hz1 hk1 hS => ?_)
  obtain ⟨mth_2, rfl⟩ : ∃ z, z = u := ⟨_, rfl⟩
  try dsimp only at hw
  obtain ⟨hm, nar_r_1⟩ := hw
  have hP : va_P (dC, dI) vwCl (wM ad cy mti mow mjo mta mba mib mdi mab mbe mpl mbs mro mlo mth_2) H := cPost_P ht hB
  have hD : va_D A (wM ad cy mti mow mjo mta mba mib mdi mab mbe mpl mbs mro mlo mth_2) := cPost_D hFc hB
  refine lv_if_ne (tgt := 62) hx hb dX7_addJob_57 (by decide) (fun c_3 => ?_) (fun c_3 => ?_)
  · have hm := hm.2 c_3
    refine lv_aload_n hx hb dX7_addJob_62 rfl (lv_at hl 0 rfl) ?_
    refine va_get (D := (dC, dI)) (ci := 7) (v := .ref (ad 1)) (C := RX7) (T := TX7) (N := 14) hx hb hts in_X7_addJob_X7 hown hK hP 0 rfl rfl 0 (by decide) (hts _ fl_X7_addJob_7) (fun _ h9 => h9) rfl dX7_addJob_63 ?_
    refine lv_iconst (v := 3) hx hb dX7_addJob_66 (by decide) ?_
    refine lv_aload_n hx hb dX7_addJob_67 rfl (lv_at hl 0 rfl) ?_
    refine va_get (D := (dC, dI)) (ci := 7) (v := .int mjo) (C := RX7) (T := TX7) (N := 14) hx hb hts in_X7_addJob_X7 hown hK hP 0 rfl rfl 2 (by decide) (hts _ fl_X7_addJob_49) (fun _ h9 => h9) rfl dX7_addJob_68 ?_
    refine lv_imul hx hb dX7_addJob_71 ?_
    refine lv_iload_n hx hb dX7_addJob_72 rfl (lv_at hl 1 rfl) ?_
    have hi_4 := hm.1
    have hm := hm.2
    refine va_iast hx hb hK hP hD hS 1 0 rfl rfl hi_4 dX7_addJob_73 (fun H locs hP hD hS => ?_)
    have hP : va_P (dC, dI) vwCl (wM ad cy (upd mti ((3 : Int32) * mjo).toNatClampNeg x1) mow mjo mta mba mib mdi mab mbe mpl mbs mro mlo mth_2) H := hP
    have hD : va_D A (wM ad cy (upd mti ((3 : Int32) * mjo).toNatClampNeg x1) mow mjo mta mba mib mdi mab mbe mpl mbs mro mlo mth_2) := hD
    refine lv_aload_n hx hb dX7_addJob_74 rfl (lv_at hl 0 rfl) ?_
    refine va_get (D := (dC, dI)) (ci := 7) (v := .ref (ad 1)) (C := RX7) (T := TX7) (N := 14) hx hb hts in_X7_addJob_X7 hown hK hP 0 rfl rfl 0 (by decide) (hts _ fl_X7_addJob_7) (fun _ h9 => h9) rfl dX7_addJob_75 ?_
    refine lv_iconst (v := 3) hx hb dX7_addJob_78 (by decide) ?_
    refine lv_aload_n hx hb dX7_addJob_79 rfl (lv_at hl 0 rfl) ?_
    refine va_get (D := (dC, dI)) (ci := 7) (v := .int mjo) (C := RX7) (T := TX7) (N := 14) hx hb hts in_X7_addJob_X7 hown hK hP 0 rfl rfl 2 (by decide) (hts _ fl_X7_addJob_49) (fun _ h9 => h9) rfl dX7_addJob_80 ?_
    refine lv_imul hx hb dX7_addJob_83 ?_
    refine lv_iconst (v := 1) hx hb dX7_addJob_84 (by decide) ?_
    refine lv_iadd hx hb dX7_addJob_85 ?_
    refine lv_iload_n hx hb dX7_addJob_86 rfl (lv_at hl 2 rfl) ?_
    have hi_5 := hm.1
    have hm := hm.2
    refine va_iast hx hb hK hP hD hS 1 0 rfl rfl hi_5 dX7_addJob_87 (fun H locs hP hD hS => ?_)
    have hP : va_P (dC, dI) vwCl (wM ad cy (upd (upd mti ((3 : Int32) * mjo).toNatClampNeg x1) (((3 : Int32) * mjo) + (1 : Int32)).toNatClampNeg x2) mow mjo mta mba mib mdi mab mbe mpl mbs mro mlo mth_2) H := hP
    have hD : va_D A (wM ad cy (upd (upd mti ((3 : Int32) * mjo).toNatClampNeg x1) (((3 : Int32) * mjo) + (1 : Int32)).toNatClampNeg x2) mow mjo mta mba mib mdi mab mbe mpl mbs mro mlo mth_2) := hD
    refine lv_aload_n hx hb dX7_addJob_88 rfl (lv_at hl 0 rfl) ?_
    refine va_get (D := (dC, dI)) (ci := 7) (v := .ref (ad 1)) (C := RX7) (T := TX7) (N := 14) hx hb hts in_X7_addJob_X7 hown hK hP 0 rfl rfl 0 (by decide) (hts _ fl_X7_addJob_7) (fun _ h9 => h9) rfl dX7_addJob_89 ?_
    refine lv_iconst (v := 3) hx hb dX7_addJob_92 (by decide) ?_
    refine lv_aload_n hx hb dX7_addJob_93 rfl (lv_at hl 0 rfl) ?_
    refine va_get (D := (dC, dI)) (ci := 7) (v := .int mjo) (C := RX7) (T := TX7) (N := 14) hx hb hts in_X7_addJob_X7 hown hK hP 0 rfl rfl 2 (by decide) (hts _ fl_X7_addJob_49) (fun _ h9 => h9) rfl dX7_addJob_94 ?_
    refine lv_imul hx hb dX7_addJob_97 ?_
    refine lv_iconst (v := 2) hx hb dX7_addJob_98 (by decide) ?_
    refine lv_iadd hx hb dX7_addJob_99 ?_
    refine lv_iload_n hx hb dX7_addJob_100 rfl (lv_at hl 3 rfl) ?_
    have hi_6 := hm.1
    have hm := hm.2
    refine va_iast hx hb hK hP hD hS 1 0 rfl rfl hi_6 dX7_addJob_101 (fun H locs hP hD hS => ?_)
    have hP : va_P (dC, dI) vwCl (wM ad cy (upd (upd (upd mti ((3 : Int32) * mjo).toNatClampNeg x1) (((3 : Int32) * mjo) + (1 : Int32)).toNatClampNeg x2) (((3 : Int32) * mjo) + (2 : Int32)).toNatClampNeg x3) mow mjo mta mba mib mdi mab mbe mpl mbs mro mlo mth_2) H := hP
    have hD : va_D A (wM ad cy (upd (upd (upd mti ((3 : Int32) * mjo).toNatClampNeg x1) (((3 : Int32) * mjo) + (1 : Int32)).toNatClampNeg x2) (((3 : Int32) * mjo) + (2 : Int32)).toNatClampNeg x3) mow mjo mta mba mib mdi mab mbe mpl mbs mro mlo mth_2) := hD
    refine lv_aload_n hx hb dX7_addJob_102 rfl (lv_at hl 0 rfl) ?_
    refine va_get (D := (dC, dI)) (ci := 7) (v := .ref (ad 2)) (C := RX7) (T := TX7) (N := 14) hx hb hts in_X7_addJob_X7 hown hK hP 0 rfl rfl 1 (by decide) (hts _ fl_X7_addJob_13) (fun _ h9 => h9) rfl dX7_addJob_103 ?_
    refine lv_aload_n hx hb dX7_addJob_106 rfl (lv_at hl 0 rfl) ?_
    refine va_get (D := (dC, dI)) (ci := 7) (v := .int mjo) (C := RX7) (T := TX7) (N := 14) hx hb hts in_X7_addJob_X7 hown hK hP 0 rfl rfl 2 (by decide) (hts _ fl_X7_addJob_49) (fun _ h9 => h9) rfl dX7_addJob_107 ?_
    refine lv_aload_n hx hb dX7_addJob_110 rfl (lv_at hl 0 rfl) ?_
    refine lv_aload_n hx hb dX7_addJob_111 rfl (lv_at hl 0 rfl) ?_
    refine va_get (D := (dC, dI)) (ci := 7) (v := .int mjo) (C := RX7) (T := TX7) (N := 14) hx hb hts in_X7_addJob_X7 hown hK hP 0 rfl rfl 2 (by decide) (hts _ fl_X7_addJob_49) (fun _ h9 => h9) rfl dX7_addJob_112 ?_
    have hFc := va_freeSame hD hS hA
    refine va_calli (va_runV (As := [.int mjo]) (rest := [.int mjo, .ref (ad 2)]) ⟨hx, hb, hml, hown, hts⟩ (c_X7_lowest l dC dI cy ad H.size (upd (upd (upd mti ((3 : Int32) * mjo).toNatClampNeg x1) (((3 : Int32) * mjo) + (1 : Int32)).toNatClampNeg x2) (((3 : Int32) * mjo) + (2 : Int32)).toNatClampNeg x3) mow mjo mta mba mib mdi mab mbe mpl mbs mro mlo mth_2 mjo _ _ hm) (cwV 1 hts gX7_addJob_X7_lowest rfl rfl rfl (by decide +kernel) ⟨Nat.le_of_ble_eq_true rfl, Nat.le_of_ble_eq_true rfl⟩) ⟨cPre_blind, va_recv hK hP (ci := 7) (q0 := 0) rfl rfl, fun U hU hW => ⟨rfl, cPre_at hP hK hD hN hU hW⟩⟩ rfl rfl hl.1 rfl (lv_room (Nat.le_of_ble_eq_true rfl)) dX7_addJob_115 ⟨Nat.zero_le _, Nat.zero_le _⟩) hS (fun q _ h => hFc q h) hFc (fun r_7 u t H locs ht hvm hw hB hz1 hk1 hS => ?_)
    try dsimp only at hw
    have hm := hw
    have hP : va_P (dC, dI) vwCl (wM ad cy (upd (upd (upd mti ((3 : Int32) * mjo).toNatClampNeg x1) (((3 : Int32) * mjo) + (1 : Int32)).toNatClampNeg x2) (((3 : Int32) * mjo) + (2 : Int32)).toNatClampNeg x3) mow mjo mta mba mib mdi mab mbe mpl mbs mro mlo mth_2) H := cPost_P ht hB
    have hD : va_D A (wM ad cy (upd (upd (upd mti ((3 : Int32) * mjo).toNatClampNeg x1) (((3 : Int32) * mjo) + (1 : Int32)).toNatClampNeg x2) (((3 : Int32) * mjo) + (2 : Int32)).toNatClampNeg x3) mow mjo mta mba mib mdi mab mbe mpl mbs mro mlo mth_2) := cPost_D hFc hB
    have hi_8 := hm.1
    have hm := hm.2
    refine va_iast hx hb hK hP hD hS 2 0 rfl rfl hi_8 dX7_addJob_118 (fun H locs hP hD hS => ?_)
    have hP : va_P (dC, dI) vwCl (wM ad cy (upd (upd (upd mti ((3 : Int32) * mjo).toNatClampNeg x1) (((3 : Int32) * mjo) + (1 : Int32)).toNatClampNeg x2) (((3 : Int32) * mjo) + (2 : Int32)).toNatClampNeg x3) (upd mow (mjo).toNatClampNeg r_7) mjo mta mba mib mdi mab mbe mpl mbs mro mlo mth_2) H := hP
    have hD : va_D A (wM ad cy (upd (upd (upd mti ((3 : Int32) * mjo).toNatClampNeg x1) (((3 : Int32) * mjo) + (1 : Int32)).toNatClampNeg x2) (((3 : Int32) * mjo) + (2 : Int32)).toNatClampNeg x3) (upd mow (mjo).toNatClampNeg r_7) mjo mta mba mib mdi mab mbe mpl mbs mro mlo mth_2) := hD
    refine lv_aload_n hx hb dX7_addJob_119 rfl (lv_at hl 0 rfl) ?_
    refine lv_dup hx hb dX7_addJob_120 rfl ?_
    refine va_get (D := (dC, dI)) (ci := 7) (v := .int mjo) (C := RX7) (T := TX7) (N := 14) hx hb hts in_X7_addJob_X7 hown hK hP 0 rfl rfl 2 (by decide) (hts _ fl_X7_addJob_49) (fun _ h9 => h9) rfl dX7_addJob_121 ?_
    refine lv_iconst (v := 1) hx hb dX7_addJob_124 (by decide) ?_
    refine lv_iadd hx hb dX7_addJob_125 ?_
    refine lv_topi (fun f_9 ef_9 => ?_)
    have hm := hm f_9 ef_9
    refine va_put (D := (dC, dI)) (ci := 7) (v := .int f_9) (ty := .int) (C := RX7) (T := TX7) (N := 14) hx hb hts in_X7_addJob_X7 tyX7 tyX7_ok nmX7 hown hK hP hD hS 0 rfl rfl 2 (by decide) (hts _ fl_X7_addJob_49) (fun _ h9 => h9) rfl (by decide +kernel) rfl rfl (Nat.le_of_ble_eq_true rfl) dX7_addJob_126 (fun H locs hP hD hS => ?_)
    have hP : va_P (dC, dI) vwCl (wM ad cy (upd (upd (upd mti ((3 : Int32) * mjo).toNatClampNeg x1) (((3 : Int32) * mjo) + (1 : Int32)).toNatClampNeg x2) (((3 : Int32) * mjo) + (2 : Int32)).toNatClampNeg x3) (upd mow (mjo).toNatClampNeg r_7) f_9 mta mba mib mdi mab mbe mpl mbs mro mlo mth_2) H := hP
    have hD : va_D A (wM ad cy (upd (upd (upd mti ((3 : Int32) * mjo).toNatClampNeg x1) (((3 : Int32) * mjo) + (1 : Int32)).toNatClampNeg x2) (((3 : Int32) * mjo) + (2 : Int32)).toNatClampNeg x3) (upd mow (mjo).toNatClampNeg r_7) f_9 mta mba mib mdi mab mbe mpl mbs mro mlo mth_2) := hD
    refine lv_aload_n hx hb dX7_addJob_129 rfl (lv_at hl 0 rfl) ?_
    refine va_get (D := (dC, dI)) (ci := 7) (v := .int f_9) (C := RX7) (T := TX7) (N := 14) hx hb hts in_X7_addJob_X7 hown hK hP 0 rfl rfl 2 (by decide) (hts _ fl_X7_addJob_49) (fun _ h9 => h9) rfl dX7_addJob_130 ?_
    refine lv_iconst (v := 1) hx hb dX7_addJob_133 (by decide) ?_
    refine lv_isub hx hb dX7_addJob_134 ?_
    exact hret (f_9 - (1 : Int32)) (upd (upd (upd mti ((3 : Int32) * mjo).toNatClampNeg x1) (((3 : Int32) * mjo) + (1 : Int32)).toNatClampNeg x2) (((3 : Int32) * mjo) + (2 : Int32)).toNatClampNeg x3) (upd mow (mjo).toNatClampNeg r_7) f_9 mth_2 H locs ls 135 dX7_addJob_135 ⟨hP, hD, hS⟩ hm
  · have hm := hm.1 c_3
    refine lv_iconst (v := 0) hx hb dX7_addJob_60 (by decide) ?_
    exact hret (0 : Int32) mti mow mjo mth_2 H locs ls 61 dX7_addJob_61 ⟨hP, hD, hS⟩ hm

set_option maxHeartbeats 4000000 in
set_option maxRecDepth 100000 in
theorem k_X7_addJob_0 {N : Nat} {mta : Nat → Int64} {mba : Nat → Int32} {mib : Nat → Int32} {mdi : Int64} {mab : Nat → Int64} {mbe : Nat → Int64} {mpl : Nat → Int32} {mbs : Nat → Int32} {mro : Nat → Int32} {mlo : Nat → Int32} {Q : Int32 → (Nat → Int32) → (Nat → Int32) → Int32 → Int32 → Prop} (C0 : cxM cX7_addJob 5 (some .int) RX7 wsX7_addJob p s m args meth c dC dI cy A) :
    ∀ (x1 : Int32) (x2 : Int32) (x3 : Int32) (mti : Nat → Int32) (mow : Nat → Int32) (mjo : Int32) (mth : Int32) (H : Heap) (locs : List Loc) (ls : Array Slot) (hm : p_X7_addJob N Q x1 x2 x3 mti mow mjo mth) (hSt : stC dC dI A s (wM ad cy mti mow mjo mta mba mib mdi mab mbe mpl mbs mro mlo mth) H locs) (hl : lv_has ls 5 [(0, .ref (ad 0)), (1, .int x1), (2, .int x2), (3, .int x3)]) (hret : ∀ (r : Int32) (mti : Nat → Int32) (mow : Nat → Int32) (mjo : Int32) (mth : Int32) (H : Heap) (locs : List Loc) (ls : Array Slot) (pc : Nat), decode cX7_addJob pc = .ok (.ireturn, 1) → stC dC dI A s (wM ad cy mti mow mjo mta mba mib mdi mab mbe mpl mbs mro mlo mth) H locs → Q r mti mow mjo mth → W p l e rmX7_addJob s m args below meth c H locs 0 0 Z (F0 m pc ls [.int r])), W p l e rmX7_addJob s m args below meth c H locs 0 0 Z (F0 m 0 ls []) := by
  obtain ⟨hx, hb, hml, hr, hown, hts, hlocks, hK, hA, hN⟩ := id C0
  intro x1 x2 x3 mti mow mjo mth H locs ls hm hSt hl hret
  obtain ⟨hP, hD, hS⟩ := hSt
  unfold p_X7_addJob at hm
  refine lv_iload_n hx hb dX7_addJob_0 rfl (lv_at hl 1 rfl) ?_
  have hFc := va_freeSame hD hS hA
  refine va_calli (va_runS (As := [.int x1]) (rest := []) ⟨hx, hb, hml, hown, hts⟩ (c_X7_isTime l dC dI cy ad H.size mti mow mjo mta mba mib mdi mab mbe mpl mbs mro mlo mth x1 _ _ hm) (cwS 1 hts gX7_addJob_X7_isTime rfl rfl rfl (by decide +kernel) ⟨Nat.le_of_ble_eq_true rfl, Nat.le_of_ble_eq_true rfl⟩) ⟨cPre_blind, fun U hU hW => ⟨rfl, cPre_at hP hK hD hN hU hW⟩⟩ rfl rfl hl.1 rfl (lv_room (Nat.le_of_ble_eq_true rfl)) dX7_addJob_1 ⟨Nat.zero_le _, Nat.zero_le _⟩) hS (fun q _ h => hFc q h) hFc (fun r_1 u t H locs ht hvm hw hB hz1 hk1 hS => ?_)
  try dsimp only at hw
  obtain ⟨hm, nar_r_1⟩ := hw
  have hP : va_P (dC, dI) vwCl (wM ad cy mti mow mjo mta mba mib mdi mab mbe mpl mbs mro mlo mth) H := cPost_P ht hB
  have hD : va_D A (wM ad cy mti mow mjo mta mba mib mdi mab mbe mpl mbs mro mlo mth) := cPost_D hFc hB
  refine lv_if_eq (tgt := 33) hx hb dX7_addJob_4 (by decide) (fun c_2 => ?_) (fun c_2 => ?_)
  · have hm := hm.1 c_2
    refine lv_iconst (v := 0) hx hb dX7_addJob_33 (by decide) ?_
    refine lv_istore (lv' := [(4, .int (0 : Int32)), (0, .ref (ad 0)), (1, .int x1), (2, .int x2), (3, .int x3)]) hx hb dX7_addJob_34 hl (by decide) rfl (fun ls hl => ?_)
    refine lv_aload_n hx hb dX7_addJob_36 rfl (lv_at hl 1 rfl) ?_
    refine lv_iload hx hb dX7_addJob_37 (lv_at hl 0 rfl) ?_
    refine lv_aload_n hx hb dX7_addJob_39 rfl (lv_at hl 1 rfl) ?_
    refine va_get (D := (dC, dI)) (ci := 7) (v := .int mjo) (C := RX7) (T := TX7) (N := 14) hx hb hts in_X7_addJob_X7 hown hK hP 0 rfl rfl 2 (by decide) (hts _ fl_X7_addJob_49) (fun _ h9 => h9) rfl dX7_addJob_40 ?_
    refine lv_bipush (v := 7) hx hb dX7_addJob_43 (by decide) ?_
    refine lv_icmp_ge (tgt := 52) hx hb dX7_addJob_45 (by decide) (fun c_3 => ?_) (fun c_3 => ?_)
    · have hm := hm.1 c_3
      refine lv_iconst (v := 0) hx hb dX7_addJob_52 (by decide) ?_
      exact k_X7_addJob_53 C0 x1 x2 x3 (0 : Int32) (0 : Int32) mti mow mjo mth H locs ls hm ⟨hP, hD, hS⟩ (lv_sub hl [1, 2, 3, 4] rfl) hret
    · have hm := hm.2 c_3
      refine lv_iconst (v := 1) hx hb dX7_addJob_48 (by decide) ?_
      refine lv_goto (tgt := 53) hx hb dX7_addJob_49 (by decide) ?_
      exact k_X7_addJob_53 C0 x1 x2 x3 (0 : Int32) (1 : Int32) mti mow mjo mth H locs ls hm ⟨hP, hD, hS⟩ (lv_sub hl [1, 2, 3, 4] rfl) hret
  · have hm := hm.2 c_2
    refine lv_iload_n hx hb dX7_addJob_7 rfl (lv_at hl 2 rfl) ?_
    have hFc := va_freeSame hD hS hA
    refine va_calli (va_runS (As := [.int x2]) (rest := []) ⟨hx, hb, hml, hown, hts⟩ (c_X7_isTime l dC dI cy ad H.size mti mow mjo mta mba mib mdi mab mbe mpl mbs mro mlo mth x2 _ _ hm) (cwS 1 hts gX7_addJob_X7_isTime rfl rfl rfl (by decide +kernel) ⟨Nat.le_of_ble_eq_true rfl, Nat.le_of_ble_eq_true rfl⟩) ⟨cPre_blind, fun U hU hW => ⟨rfl, cPre_at hP hK hD hN hU hW⟩⟩ rfl rfl hl.1 rfl (lv_room (Nat.le_of_ble_eq_true rfl)) dX7_addJob_8 ⟨Nat.zero_le _, Nat.zero_le _⟩) hS (fun q _ h => hFc q h) hFc (fun r_4 u t H locs ht hvm hw hB hz1 hk1 hS => ?_)
    try dsimp only at hw
    obtain ⟨hm, nar_r_4⟩ := hw
    have hP : va_P (dC, dI) vwCl (wM ad cy mti mow mjo mta mba mib mdi mab mbe mpl mbs mro mlo mth) H := cPost_P ht hB
    have hD : va_D A (wM ad cy mti mow mjo mta mba mib mdi mab mbe mpl mbs mro mlo mth) := cPost_D hFc hB
    refine lv_if_eq (tgt := 33) hx hb dX7_addJob_11 (by decide) (fun c_5 => ?_) (fun c_5 => ?_)
    · have hm := hm.1 c_5
      refine lv_iconst (v := 0) hx hb dX7_addJob_33 (by decide) ?_
      refine lv_istore (lv' := [(4, .int (0 : Int32)), (0, .ref (ad 0)), (1, .int x1), (2, .int x2), (3, .int x3)]) hx hb dX7_addJob_34 hl (by decide) rfl (fun ls hl => ?_)
      refine lv_aload_n hx hb dX7_addJob_36 rfl (lv_at hl 1 rfl) ?_
      refine lv_iload hx hb dX7_addJob_37 (lv_at hl 0 rfl) ?_
      refine lv_aload_n hx hb dX7_addJob_39 rfl (lv_at hl 1 rfl) ?_
      refine va_get (D := (dC, dI)) (ci := 7) (v := .int mjo) (C := RX7) (T := TX7) (N := 14) hx hb hts in_X7_addJob_X7 hown hK hP 0 rfl rfl 2 (by decide) (hts _ fl_X7_addJob_49) (fun _ h9 => h9) rfl dX7_addJob_40 ?_
      refine lv_bipush (v := 7) hx hb dX7_addJob_43 (by decide) ?_
      refine lv_icmp_ge (tgt := 52) hx hb dX7_addJob_45 (by decide) (fun c_6 => ?_) (fun c_6 => ?_)
      · have hm := hm.1 c_6
        refine lv_iconst (v := 0) hx hb dX7_addJob_52 (by decide) ?_
        exact k_X7_addJob_53 C0 x1 x2 x3 (0 : Int32) (0 : Int32) mti mow mjo mth H locs ls hm ⟨hP, hD, hS⟩ (lv_sub hl [1, 2, 3, 4] rfl) hret
      · have hm := hm.2 c_6
        refine lv_iconst (v := 1) hx hb dX7_addJob_48 (by decide) ?_
        refine lv_goto (tgt := 53) hx hb dX7_addJob_49 (by decide) ?_
        exact k_X7_addJob_53 C0 x1 x2 x3 (0 : Int32) (1 : Int32) mti mow mjo mth H locs ls hm ⟨hP, hD, hS⟩ (lv_sub hl [1, 2, 3, 4] rfl) hret
    · have hm := hm.2 c_5
      refine lv_iload_n hx hb dX7_addJob_14 rfl (lv_at hl 3 rfl) ?_
      have hFc := va_freeSame hD hS hA
      refine va_calli (va_runS (As := [.int x3]) (rest := []) ⟨hx, hb, hml, hown, hts⟩ (c_X7_isTime l dC dI cy ad H.size mti mow mjo mta mba mib mdi mab mbe mpl mbs mro mlo mth x3 _ _ hm) (cwS 1 hts gX7_addJob_X7_isTime rfl rfl rfl (by decide +kernel) ⟨Nat.le_of_ble_eq_true rfl, Nat.le_of_ble_eq_true rfl⟩) ⟨cPre_blind, fun U hU hW => ⟨rfl, cPre_at hP hK hD hN hU hW⟩⟩ rfl rfl hl.1 rfl (lv_room (Nat.le_of_ble_eq_true rfl)) dX7_addJob_15 ⟨Nat.zero_le _, Nat.zero_le _⟩) hS (fun q _ h => hFc q h) hFc (fun r_7 u t H locs ht hvm hw hB hz1 hk1 hS => ?_)
      try dsimp only at hw
      obtain ⟨hm, nar_r_7⟩ := hw
      have hP : va_P (dC, dI) vwCl (wM ad cy mti mow mjo mta mba mib mdi mab mbe mpl mbs mro mlo mth) H := cPost_P ht hB
      have hD : va_D A (wM ad cy mti mow mjo mta mba mib mdi mab mbe mpl mbs mro mlo mth) := cPost_D hFc hB
      refine lv_if_eq (tgt := 33) hx hb dX7_addJob_18 (by decide) (fun c_8 => ?_) (fun c_8 => ?_)
      · have hm := hm.1 c_8
        refine lv_iconst (v := 0) hx hb dX7_addJob_33 (by decide) ?_
        refine lv_istore (lv' := [(4, .int (0 : Int32)), (0, .ref (ad 0)), (1, .int x1), (2, .int x2), (3, .int x3)]) hx hb dX7_addJob_34 hl (by decide) rfl (fun ls hl => ?_)
        refine lv_aload_n hx hb dX7_addJob_36 rfl (lv_at hl 1 rfl) ?_
        refine lv_iload hx hb dX7_addJob_37 (lv_at hl 0 rfl) ?_
        refine lv_aload_n hx hb dX7_addJob_39 rfl (lv_at hl 1 rfl) ?_
        refine va_get (D := (dC, dI)) (ci := 7) (v := .int mjo) (C := RX7) (T := TX7) (N := 14) hx hb hts in_X7_addJob_X7 hown hK hP 0 rfl rfl 2 (by decide) (hts _ fl_X7_addJob_49) (fun _ h9 => h9) rfl dX7_addJob_40 ?_
        refine lv_bipush (v := 7) hx hb dX7_addJob_43 (by decide) ?_
        refine lv_icmp_ge (tgt := 52) hx hb dX7_addJob_45 (by decide) (fun c_9 => ?_) (fun c_9 => ?_)
        · have hm := hm.1 c_9
          refine lv_iconst (v := 0) hx hb dX7_addJob_52 (by decide) ?_
          exact k_X7_addJob_53 C0 x1 x2 x3 (0 : Int32) (0 : Int32) mti mow mjo mth H locs ls hm ⟨hP, hD, hS⟩ (lv_sub hl [1, 2, 3, 4] rfl) hret
        · have hm := hm.2 c_9
          refine lv_iconst (v := 1) hx hb dX7_addJob_48 (by decide) ?_
          refine lv_goto (tgt := 53) hx hb dX7_addJob_49 (by decide) ?_
          exact k_X7_addJob_53 C0 x1 x2 x3 (0 : Int32) (1 : Int32) mti mow mjo mth H locs ls hm ⟨hP, hD, hS⟩ (lv_sub hl [1, 2, 3, 4] rfl) hret
      · have hm := hm.2 c_8
        refine lv_iload_n hx hb dX7_addJob_21 rfl (lv_at hl 1 rfl) ?_
        refine lv_iload_n hx hb dX7_addJob_22 rfl (lv_at hl 2 rfl) ?_
        refine lv_iadd hx hb dX7_addJob_23 ?_
        refine lv_iload_n hx hb dX7_addJob_24 rfl (lv_at hl 3 rfl) ?_
        refine lv_iadd hx hb dX7_addJob_25 ?_
        refine lv_if_le (tgt := 33) hx hb dX7_addJob_26 (by decide) (fun c_10 => ?_) (fun c_10 => ?_)
        · have hm := hm.1 c_10
          refine lv_iconst (v := 0) hx hb dX7_addJob_33 (by decide) ?_
          refine lv_istore (lv' := [(4, .int (0 : Int32)), (0, .ref (ad 0)), (1, .int x1), (2, .int x2), (3, .int x3)]) hx hb dX7_addJob_34 hl (by decide) rfl (fun ls hl => ?_)
          refine lv_aload_n hx hb dX7_addJob_36 rfl (lv_at hl 1 rfl) ?_
          refine lv_iload hx hb dX7_addJob_37 (lv_at hl 0 rfl) ?_
          refine lv_aload_n hx hb dX7_addJob_39 rfl (lv_at hl 1 rfl) ?_
          refine va_get (D := (dC, dI)) (ci := 7) (v := .int mjo) (C := RX7) (T := TX7) (N := 14) hx hb hts in_X7_addJob_X7 hown hK hP 0 rfl rfl 2 (by decide) (hts _ fl_X7_addJob_49) (fun _ h9 => h9) rfl dX7_addJob_40 ?_
          refine lv_bipush (v := 7) hx hb dX7_addJob_43 (by decide) ?_
          refine lv_icmp_ge (tgt := 52) hx hb dX7_addJob_45 (by decide) (fun c_11 => ?_) (fun c_11 => ?_)
          · have hm := hm.1 c_11
            refine lv_iconst (v := 0) hx hb dX7_addJob_52 (by decide) ?_
            exact k_X7_addJob_53 C0 x1 x2 x3 (0 : Int32) (0 : Int32) mti mow mjo mth H locs ls hm ⟨hP, hD, hS⟩ (lv_sub hl [1, 2, 3, 4] rfl) hret
          · have hm := hm.2 c_11
            refine lv_iconst (v := 1) hx hb dX7_addJob_48 (by decide) ?_
            refine lv_goto (tgt := 53) hx hb dX7_addJob_49 (by decide) ?_
            exact k_X7_addJob_53 C0 x1 x2 x3 (0 : Int32) (1 : Int32) mti mow mjo mth H locs ls hm ⟨hP, hD, hS⟩ (lv_sub hl [1, 2, 3, 4] rfl) hret
        · have hm := hm.2 c_10
          refine lv_iconst (v := 1) hx hb dX7_addJob_29 (by decide) ?_
          refine lv_goto (tgt := 34) hx hb dX7_addJob_30 (by decide) ?_
          refine lv_istore (lv' := [(4, .int (1 : Int32)), (0, .ref (ad 0)), (1, .int x1), (2, .int x2), (3, .int x3)]) hx hb dX7_addJob_34 hl (by decide) rfl (fun ls hl => ?_)
          refine lv_aload_n hx hb dX7_addJob_36 rfl (lv_at hl 1 rfl) ?_
          refine lv_iload hx hb dX7_addJob_37 (lv_at hl 0 rfl) ?_
          refine lv_aload_n hx hb dX7_addJob_39 rfl (lv_at hl 1 rfl) ?_
          refine va_get (D := (dC, dI)) (ci := 7) (v := .int mjo) (C := RX7) (T := TX7) (N := 14) hx hb hts in_X7_addJob_X7 hown hK hP 0 rfl rfl 2 (by decide) (hts _ fl_X7_addJob_49) (fun _ h9 => h9) rfl dX7_addJob_40 ?_
          refine lv_bipush (v := 7) hx hb dX7_addJob_43 (by decide) ?_
          refine lv_icmp_ge (tgt := 52) hx hb dX7_addJob_45 (by decide) (fun c_12 => ?_) (fun c_12 => ?_)
          · have hm := hm.1 c_12
            refine lv_iconst (v := 0) hx hb dX7_addJob_52 (by decide) ?_
            exact k_X7_addJob_53 C0 x1 x2 x3 (1 : Int32) (0 : Int32) mti mow mjo mth H locs ls hm ⟨hP, hD, hS⟩ (lv_sub hl [1, 2, 3, 4] rfl) hret
          · have hm := hm.2 c_12
            refine lv_iconst (v := 1) hx hb dX7_addJob_48 (by decide) ?_
            refine lv_goto (tgt := 53) hx hb dX7_addJob_49 (by decide) ?_
            exact k_X7_addJob_53 C0 x1 x2 x3 (1 : Int32) (1 : Int32) mti mow mjo mth H locs ls hm ⟨hP, hD, hS⟩ (lv_sub hl [1, 2, 3, 4] rfl) hret

set_option maxHeartbeats 4000000 in
set_option maxRecDepth 100000 in
theorem c_X7_addJob (l : Launch) (dC : Nat → ClassId) (dI : Nat → Nat → Nat) (cy : Nat → ClassId) (ad : Nat → Nat) (sz : Nat) (mti : Nat → Int32) (mow : Nat → Int32) (mjo : Int32) (mta : Nat → Int64) (mba : Nat → Int32) (mib : Nat → Int32) (mdi : Int64) (mab : Nat → Int64) (mbe : Nat → Int64) (mpl : Nat → Int32) (mbs : Nat → Int32) (mro : Nat → Int32) (mlo : Nat → Int32) (mth : Int32) (x1 : Int32) (x2 : Int32) (x3 : Int32) (N : Nat) (Q : Int32 → (Nat → Int32) → (Nat → Int32) → Int32 → Int32 → Prop) (hm : p_X7_addJob N Q x1 x2 x3 mti mow mjo mth) : Met l yX7_addJob wsX7_addJob rmX7_addJob (va_Pc [.ref (ad 0), .int x1, .int x2, .int x3] (cPre dC dI cy (wM ad cy mti mow mjo mta mba mib mdi mab mbe mpl mbs mro mlo mth) sz)) (va_Qi (fun (r : Int32) (u : (Nat → Int32) × (Nat → Int32) × Int32 × Int32) => Q r u.1 u.2.1 u.2.2.1 u.2.2.2) (fun u t => cPost dC dI cy (wM ad cy mti mow mjo mta mba mib mdi mab mbe mpl mbs mro mlo mth) sz (wM ad cy (u.1) (u.2.1) (u.2.2.1) mta mba mib mdi mab mbe mpl mbs mro mlo (u.2.2.2)) t) (va_A (wM ad cy mti mow mjo mta mba mib mdi mab mbe mpl mbs mro mlo mth) sz)) 0 0 (va_A (wM ad cy mti mow mjo mta mba mib mdi mab mbe mpl mbs mro mlo mth) sz) := by
  refine Met.ofW (cc := cX7_addJob) (maxL := 5) (ret := (some .int)) (by decide) rfl ?_
  intro p e s m args below meth c s₁ B hml hv
  obtain ⟨rfl, hsz, hP, hK, hD0, hN⟩ := hv
  have hts := atoms_spec (ws := wsX7_addJob) B.pre
  have hown : s.vm.findClass RX7 = some m.cls := findClass_of_methodNamed B.named
  subst hsz
  have hD := hD0.self (sz := s.heap.size)
  generalize hAe : va_A (wM ad cy mti mow mjo mta mba mib mdi mab mbe mpl mbs mro mlo mth) s.heap.size = A at hD ⊢
  have hA : ∀ q : Nat, s.heap.size ≤ q → A q := fun q h => by rw [← hAe]; exact Or.inr h
  have hl := lv_entry ([.ref (ad 0), .int x1, .int x2, .int x3]) (n := 5) (Nat.le_of_ble_eq_true rfl)
  rw [lg_entry_eq]
  generalize (lg_sl ([.ref (ad 0), .int x1, .int x2, .int x3]) ++ List.replicate (5 - (lg_sl ([.ref (ad 0), .int x1, .int x2, .int x3])).length) Slot.unset).toArray = ls at hl ⊢
  have hl : lv_has ls 5 [(0, .ref (ad 0)), (1, .int x1), (2, .int x2), (3, .int x3)] := hl
  exact k_X7_addJob_0 ⟨B.exec, B.bytes, hml, B.returns, hown, hts, B.notSynchronized, hK, hA, hN⟩ x1 x2 x3 mti mow mjo mth s.heap [] ls hm ⟨hP, hD, va_S.rf⟩ (lv_sub hl [0, 1, 2, 3] rfl) (fun r mti mow mjo mth H locs ls pc hdg hSt hq => W.iret B.exec B.bytes B.returns (fun t ht hW => ⟨⟨r, (mti, mow, mjo, mth), rfl, hq, cPost_of hAe ht hW.alike hSt hK⟩, hSt.2.2.F ht⟩) hSt.2.2.2.2 hdg B.notSynchronized)

-- ===== X7_setTime
theorem fl_X7_setTime_13 : Cond.fieldLink RX7 13 "UnlikeUnionModel" "own" "[I" ∈ wsX7_setTime := by decide +kernel
theorem fl_X7_setTime_7 : Cond.fieldLink RX7 7 "UnlikeUnionModel" "time" "[I" ∈ wsX7_setTime := by decide +kernel
theorem in_X7_setTime_X7 : ∀ w ∈ u_ws RX7 TX7 14, w ∈ wsX7_setTime := by decide +kernel
abbrev rmX7_setTime : Room := { frames := 2, cells := 0, slots := 0, locals := 147 }
def p_X7_setTime_53 (N : Nat) (mow : Nat → Int32) (mjo : Int32) (Q : Int32 → (Nat → Int32) → Int32 → Prop) (x1 : Int32) (x2 : Int32) (x3 : Int32) (s1 : Int32) (s2 : Int32) (s3 : Int32) (mti : Nat → Int32) (mth : Int32) : Prop :=
  p_X7_goes N (fun r_1 mth_2 => (r_1 = 0 → (Q (0 : Int32) mti mth_2)) ∧ (¬ r_1 = 0 → (vp_in (((3 : Int32) * x1) + x2) 21 ∧ (∀ x5_5 : Int32, x5_5 = mti (((3 : Int32) * x1) + x2).toNatClampNeg → (vp_in (((3 : Int32) * x1) + x2) 21 ∧ (Q x5_5 (upd mti (((3 : Int32) * x1) + x2).toNatClampNeg x3) mth_2)))))) s1 s2 s3 mth

def p_X7_setTime (N : Nat) (mow : Nat → Int32) (mjo : Int32) (Q : Int32 → (Nat → Int32) → Int32 → Prop) (x1 : Int32) (x2 : Int32) (x3 : Int32) (mti : Nat → Int32) (mth : Int32) : Prop :=
  p_X7_isJob N mjo (fun r_1 => (r_1 = 0 → (p_X7_isTime N (fun r_3 => ((0 : Int32) = 0 → (p_X7_setTime_53 N mow mjo Q x1 x2 x3 (0 : Int32) r_3 (0 : Int32) mti mth)) ∧ (¬ (0 : Int32) = 0 → ((0 < x3 → (p_X7_setTime_53 N mow mjo Q x1 x2 x3 (0 : Int32) r_3 (1 : Int32) mti mth)) ∧ (¬ 0 < x3 → (vp_in x1 7 ∧ (((mow (x1).toNatClampNeg) = x2 → (p_X7_setTime_53 N mow mjo Q x1 x2 x3 (0 : Int32) r_3 (0 : Int32) mti mth)) ∧ (¬ (mow (x1).toNatClampNeg) = x2 → (p_X7_setTime_53 N mow mjo Q x1 x2 x3 (0 : Int32) r_3 (1 : Int32) mti mth)))))))) x3)) ∧ (¬ r_1 = 0 → (p_X7_isMachine N (fun r_8 => (r_8 = 0 → (p_X7_isTime N (fun r_10 => ((0 : Int32) = 0 → (p_X7_setTime_53 N mow mjo Q x1 x2 x3 (0 : Int32) r_10 (0 : Int32) mti mth)) ∧ (¬ (0 : Int32) = 0 → ((0 < x3 → (p_X7_setTime_53 N mow mjo Q x1 x2 x3 (0 : Int32) r_10 (1 : Int32) mti mth)) ∧ (¬ 0 < x3 → (vp_in x1 7 ∧ (((mow (x1).toNatClampNeg) = x2 → (p_X7_setTime_53 N mow mjo Q x1 x2 x3 (0 : Int32) r_10 (0 : Int32) mti mth)) ∧ (¬ (mow (x1).toNatClampNeg) = x2 → (p_X7_setTime_53 N mow mjo Q x1 x2 x3 (0 : Int32) r_10 (1 : Int32) mti mth)))))))) x3)) ∧ (¬ r_8 = 0 → (p_X7_isTime N (fun r_15 => ((1 : Int32) = 0 → (p_X7_setTime_53 N mow mjo Q x1 x2 x3 (1 : Int32) r_15 (0 : Int32) mti mth)) ∧ (¬ (1 : Int32) = 0 → ((0 < x3 → (p_X7_setTime_53 N mow mjo Q x1 x2 x3 (1 : Int32) r_15 (1 : Int32) mti mth)) ∧ (¬ 0 < x3 → (vp_in x1 7 ∧ (((mow (x1).toNatClampNeg) = x2 → (p_X7_setTime_53 N mow mjo Q x1 x2 x3 (1 : Int32) r_15 (0 : Int32) mti mth)) ∧ (¬ (mow (x1).toNatClampNeg) = x2 → (p_X7_setTime_53 N mow mjo Q x1 x2 x3 (1 : Int32) r_15 (1 : Int32) mti mth)))))))) x3))) x2))) x1

set_option maxHeartbeats 4000000 in
set_option maxRecDepth 100000 in
theorem k_X7_setTime_53 {N : Nat} {mow : Nat → Int32} {mjo : Int32} {mta : Nat → Int64} {mba : Nat → Int32} {mib : Nat → Int32} {mdi : Int64} {mab : Nat → Int64} {mbe : Nat → Int64} {mpl : Nat → Int32} {mbs : Nat → Int32} {mro : Nat → Int32} {mlo : Nat → Int32} {Q : Int32 → (Nat → Int32) → Int32 → Prop} (C0 : cxM cX7_setTime 6 (some .int) RX7 wsX7_setTime p s m args meth c dC dI cy A) :
    ∀ (x1 : Int32) (x2 : Int32) (x3 : Int32) (s1 : Int32) (s2 : Int32) (s3 : Int32) (mti : Nat → Int32) (mth : Int32) (H : Heap) (locs : List Loc) (ls : Array Slot) (hm : p_X7_setTime_53 N mow mjo Q x1 x2 x3 s1 s2 s3 mti mth) (hSt : stC dC dI A s (wM ad cy mti mow mjo mta mba mib mdi mab mbe mpl mbs mro mlo mth) H locs) (hl : lv_has ls 6 [(0, .ref (ad 0)), (1, .int x1), (2, .int x2), (3, .int x3)]) (hret : ∀ (r : Int32) (mti : Nat → Int32) (mth : Int32) (H : Heap) (locs : List Loc) (ls : Array Slot) (pc : Nat), decode cX7_setTime pc = .ok (.ireturn, 1) → stC dC dI A s (wM ad cy mti mow mjo mta mba mib mdi mab mbe mpl mbs mro mlo mth) H locs → Q r mti mth → W p l e rmX7_setTime s m args below meth c H locs 0 0 Z (F0 m pc ls [.int r])), W p l e rmX7_setTime s m args below meth c H locs 0 0 Z (F0 m 53 ls [.int s3, .int s2, .int s1, .ref (ad 0)]) := by
  obtain ⟨hx, hb, hml, hr, hown, hts, hlocks, hK, hA, hN⟩ := id C0
  intro x1 x2 x3 s1 s2 s3 mti mth H locs ls hm hSt hl hret
  obtain ⟨hP, hD, hS⟩ := hSt
  unfold p_X7_setTime_53 at hm
  have hFc := va_freeSame hD hS hA
  refine va_calli (va_runV (As := [.int s1, .int s2, .int s3]) (rest := []) ⟨hx, hb, hml, hown, hts⟩ (c_X7_goes l dC dI cy ad H.size mti mow mjo mta mba mib mdi mab mbe mpl mbs mro mlo mth s1 s2 s3 _ _ hm) (cwV 3 hts gX7_setTime_X7_goes rfl rfl rfl (by decide +kernel) ⟨Nat.le_of_ble_eq_true rfl, Nat.le_of_ble_eq_true rfl⟩) ⟨cPre_blind, va_recv hK hP (ci := 7) (q0 := 0) rfl rfl, fun U hU hW => ⟨rfl, cPre_at hP hK hD hN hU hW⟩⟩ rfl rfl hl.1 rfl (lv_room (Nat.le_of_ble_eq_true rfl)) dX7_setTime_53 ⟨Nat.zero_le _, Nat.zero_le _⟩) hS (fun q _ h => hFc q h) hFc (fun r_1 u t H locs ht hvm hw hB hz1 hk1 hS => ?_)
  obtain ⟨mth_2, rfl⟩ : ∃ z, z = u := ⟨_, rfl⟩
  try dsimp only at hw
  obtain ⟨hm, nar_r_1⟩ := hw
  have hP : va_P (dC, dI) vwCl (wM ad cy mti mow mjo mta mba mib mdi mab mbe mpl mbs mro mlo mth_2) H := cPost_P ht hB
  have hD : va_D A (wM ad cy mti mow mjo mta mba mib mdi mab mbe mpl mbs mro mlo mth_2) := cPost_D hFc hB
  refine lv_if_ne (tgt := 61) hx hb dX7_setTime_56 (by decide) (fun c_3 => ?_) (fun c_3 => ?_)
  · have hm := hm.2 c_3
    refine lv_aload_n hx hb dX7_setTime_61 rfl (lv_at hl 0 rfl) ?_
    refine va_get (D := (dC, dI)) (ci := 7) (v := .ref (ad 1)) (C := RX7) (T := TX7) (N := 14) hx hb hts in_X7_setTime_X7 hown hK hP 0 rfl rfl 0 (by decide) (hts _ fl_X7_setTime_7) (fun _ h9 => h9) rfl dX7_setTime_62 ?_
    refine lv_iconst (v := 3) hx hb dX7_setTime_65 (by decide) ?_
    refine lv_iload_n hx hb dX7_setTime_66 rfl (lv_at hl 1 rfl) ?_
    refine lv_imul hx hb dX7_setTime_67 ?_
    refine lv_iload_n hx hb dX7_setTime_68 rfl (lv_at hl 2 rfl) ?_
    refine lv_iadd hx hb dX7_setTime_69 ?_
    have hi_4 := hm.1
    have hm := hm.2
    refine va_iald hx hb hK hP 1 0 rfl rfl hi_4 dX7_setTime_70 ?_
    refine lv_topi (fun x5_5 ex5_5 => ?_)
    have hm := hm x5_5 ex5_5
    refine lv_istore (lv' := [(5, .int x5_5), (0, .ref (ad 0)), (1, .int x1), (2, .int x2), (3, .int x3)]) hx hb dX7_setTime_71 hl (by decide) rfl (fun ls hl => ?_)
    refine lv_aload_n hx hb dX7_setTime_73 rfl (lv_at hl 1 rfl) ?_
    refine va_get (D := (dC, dI)) (ci := 7) (v := .ref (ad 1)) (C := RX7) (T := TX7) (N := 14) hx hb hts in_X7_setTime_X7 hown hK hP 0 rfl rfl 0 (by decide) (hts _ fl_X7_setTime_7) (fun _ h9 => h9) rfl dX7_setTime_74 ?_
    refine lv_iconst (v := 3) hx hb dX7_setTime_77 (by decide) ?_
    refine lv_iload_n hx hb dX7_setTime_78 rfl (lv_at hl 2 rfl) ?_
    refine lv_imul hx hb dX7_setTime_79 ?_
    refine lv_iload_n hx hb dX7_setTime_80 rfl (lv_at hl 3 rfl) ?_
    refine lv_iadd hx hb dX7_setTime_81 ?_
    refine lv_iload_n hx hb dX7_setTime_82 rfl (lv_at hl 4 rfl) ?_
    have hi_6 := hm.1
    have hm := hm.2
    refine va_iast hx hb hK hP hD hS 1 0 rfl rfl hi_6 dX7_setTime_83 (fun H locs hP hD hS => ?_)
    have hP : va_P (dC, dI) vwCl (wM ad cy (upd mti (((3 : Int32) * x1) + x2).toNatClampNeg x3) mow mjo mta mba mib mdi mab mbe mpl mbs mro mlo mth_2) H := hP
    have hD : va_D A (wM ad cy (upd mti (((3 : Int32) * x1) + x2).toNatClampNeg x3) mow mjo mta mba mib mdi mab mbe mpl mbs mro mlo mth_2) := hD
    refine lv_iload hx hb dX7_setTime_84 (lv_at hl 0 rfl) ?_
    exact hret x5_5 (upd mti (((3 : Int32) * x1) + x2).toNatClampNeg x3) mth_2 H locs ls 86 dX7_setTime_86 ⟨hP, hD, hS⟩ hm
  · have hm := hm.1 c_3
    refine lv_iconst (v := 0) hx hb dX7_setTime_59 (by decide) ?_
    exact hret (0 : Int32) mti mth_2 H locs ls 60 dX7_setTime_60 ⟨hP, hD, hS⟩ hm

set_option maxHeartbeats 4000000 in
set_option maxRecDepth 100000 in
theorem k_X7_setTime_0 {N : Nat} {mow : Nat → Int32} {mjo : Int32} {mta : Nat → Int64} {mba : Nat → Int32} {mib : Nat → Int32} {mdi : Int64} {mab : Nat → Int64} {mbe : Nat → Int64} {mpl : Nat → Int32} {mbs : Nat → Int32} {mro : Nat → Int32} {mlo : Nat → Int32} {Q : Int32 → (Nat → Int32) → Int32 → Prop} (C0 : cxM cX7_setTime 6 (some .int) RX7 wsX7_setTime p s m args meth c dC dI cy A) :
    ∀ (x1 : Int32) (x2 : Int32) (x3 : Int32) (mti : Nat → Int32) (mth : Int32) (H : Heap) (locs : List Loc) (ls : Array Slot) (hm : p_X7_setTime N mow mjo Q x1 x2 x3 mti mth) (hSt : stC dC dI A s (wM ad cy mti mow mjo mta mba mib mdi mab mbe mpl mbs mro mlo mth) H locs) (hl : lv_has ls 6 [(0, .ref (ad 0)), (1, .int x1), (2, .int x2), (3, .int x3)]) (hret : ∀ (r : Int32) (mti : Nat → Int32) (mth : Int32) (H : Heap) (locs : List Loc) (ls : Array Slot) (pc : Nat), decode cX7_setTime pc = .ok (.ireturn, 1) → stC dC dI A s (wM ad cy mti mow mjo mta mba mib mdi mab mbe mpl mbs mro mlo mth) H locs → Q r mti mth → W p l e rmX7_setTime s m args below meth c H locs 0 0 Z (F0 m pc ls [.int r])), W p l e rmX7_setTime s m args below meth c H locs 0 0 Z (F0 m 0 ls []) := by
  obtain ⟨hx, hb, hml, hr, hown, hts, hlocks, hK, hA, hN⟩ := id C0
  intro x1 x2 x3 mti mth H locs ls hm hSt hl hret
  obtain ⟨hP, hD, hS⟩ := hSt
  unfold p_X7_setTime at hm
  refine lv_aload_n hx hb dX7_setTime_0 rfl (lv_at hl 0 rfl) ?_
  refine lv_iload_n hx hb dX7_setTime_1 rfl (lv_at hl 1 rfl) ?_
  have hFc := va_freeSame hD hS hA
  refine va_calli (va_runV (As := [.int x1]) (rest := []) ⟨hx, hb, hml, hown, hts⟩ (c_X7_isJob l dC dI cy ad H.size mti mow mjo mta mba mib mdi mab mbe mpl mbs mro mlo mth x1 _ _ hm) (cwV 1 hts gX7_setTime_X7_isJob rfl rfl rfl (by decide +kernel) ⟨Nat.le_of_ble_eq_true rfl, Nat.le_of_ble_eq_true rfl⟩) ⟨cPre_blind, va_recv hK hP (ci := 7) (q0 := 0) rfl rfl, fun U hU hW => ⟨rfl, cPre_at hP hK hD hN hU hW⟩⟩ rfl rfl hl.1 rfl (lv_room (Nat.le_of_ble_eq_true rfl)) dX7_setTime_2 ⟨Nat.zero_le _, Nat.zero_le _⟩) hS (fun q _ h => hFc q h) hFc (fun r_1 u t H locs ht hvm hw hB hz1 hk1 hS => ?_)
  try dsimp only at hw
  obtain ⟨hm, nar_r_1⟩ := hw
  have hP : va_P (dC, dI) vwCl (wM ad cy mti mow mjo mta mba mib mdi mab mbe mpl mbs mro mlo mth) H := cPost_P ht hB
  have hD : va_D A (wM ad cy mti mow mjo mta mba mib mdi mab mbe mpl mbs mro mlo mth) := cPost_D hFc hB
  refine lv_if_eq (tgt := 19) hx hb dX7_setTime_5 (by decide) (fun c_2 => ?_) (fun c_2 => ?_)
  · have hm := hm.1 c_2
    refine lv_iconst (v := 0) hx hb dX7_setTime_19 (by decide) ?_
    refine lv_istore (lv' := [(4, .int (0 : Int32)), (0, .ref (ad 0)), (1, .int x1), (2, .int x2), (3, .int x3)]) hx hb dX7_setTime_20 hl (by decide) rfl (fun ls hl => ?_)
    refine lv_aload_n hx hb dX7_setTime_22 rfl (lv_at hl 1 rfl) ?_
    refine lv_iload hx hb dX7_setTime_23 (lv_at hl 0 rfl) ?_
    refine lv_iload_n hx hb dX7_setTime_25 rfl (lv_at hl 4 rfl) ?_
    have hFc := va_freeSame hD hS hA
    refine va_calli (va_runS (As := [.int x3]) (rest := [.int (0 : Int32), .ref (ad 0)]) ⟨hx, hb, hml, hown, hts⟩ (c_X7_isTime l dC dI cy ad H.size mti mow mjo mta mba mib mdi mab mbe mpl mbs mro mlo mth x3 _ _ hm) (cwS 1 hts gX7_setTime_X7_isTime rfl rfl rfl (by decide +kernel) ⟨Nat.le_of_ble_eq_true rfl, Nat.le_of_ble_eq_true rfl⟩) ⟨cPre_blind, fun U hU hW => ⟨rfl, cPre_at hP hK hD hN hU hW⟩⟩ rfl rfl hl.1 rfl (lv_room (Nat.le_of_ble_eq_true rfl)) dX7_setTime_26 ⟨Nat.zero_le _, Nat.zero_le _⟩) hS (fun q _ h => hFc q h) hFc (fun r_3 u t H locs ht hvm hw hB hz1 hk1 hS => ?_)
    try dsimp only at hw
    obtain ⟨hm, nar_r_3⟩ := hw
    have hP : va_P (dC, dI) vwCl (wM ad cy mti mow mjo mta mba mib mdi mab mbe mpl mbs mro mlo mth) H := cPost_P ht hB
    have hD : va_D A (wM ad cy mti mow mjo mta mba mib mdi mab mbe mpl mbs mro mlo mth) := cPost_D hFc hB
    refine lv_iload hx hb dX7_setTime_29 (lv_at hl 0 rfl) ?_
    refine lv_if_eq (tgt := 52) hx hb dX7_setTime_31 (by decide) (fun c_4 => ?_) (fun c_4 => ?_)
    · have hm := hm.1 c_4
      refine lv_iconst (v := 0) hx hb dX7_setTime_52 (by decide) ?_
      exact k_X7_setTime_53 C0 x1 x2 x3 (0 : Int32) r_3 (0 : Int32) mti mth H locs ls hm ⟨hP, hD, hS⟩ (lv_sub hl [1, 2, 3, 4] rfl) hret
    · have hm := hm.2 c_4
      refine lv_iload_n hx hb dX7_setTime_34 rfl (lv_at hl 4 rfl) ?_
      refine lv_if_gt (tgt := 48) hx hb dX7_setTime_35 (by decide) (fun c_5 => ?_) (fun c_5 => ?_)
      · have hm := hm.1 c_5
        refine lv_iconst (v := 1) hx hb dX7_setTime_48 (by decide) ?_
        refine lv_goto (tgt := 53) hx hb dX7_setTime_49 (by decide) ?_
        exact k_X7_setTime_53 C0 x1 x2 x3 (0 : Int32) r_3 (1 : Int32) mti mth H locs ls hm ⟨hP, hD, hS⟩ (lv_sub hl [1, 2, 3, 4] rfl) hret
      · have hm := hm.2 c_5
        refine lv_aload_n hx hb dX7_setTime_38 rfl (lv_at hl 1 rfl) ?_
        refine va_get (D := (dC, dI)) (ci := 7) (v := .ref (ad 2)) (C := RX7) (T := TX7) (N := 14) hx hb hts in_X7_setTime_X7 hown hK hP 0 rfl rfl 1 (by decide) (hts _ fl_X7_setTime_13) (fun _ h9 => h9) rfl dX7_setTime_39 ?_
        refine lv_iload_n hx hb dX7_setTime_42 rfl (lv_at hl 2 rfl) ?_
        have hi_6 := hm.1
        have hm := hm.2
        refine va_iald hx hb hK hP 2 0 rfl rfl hi_6 dX7_setTime_43 ?_
        refine lv_iload_n hx hb dX7_setTime_44 rfl (lv_at hl 3 rfl) ?_
        refine lv_icmp_eq (tgt := 52) hx hb dX7_setTime_45 (by decide) (fun c_7 => ?_) (fun c_7 => ?_)
        · have hm := hm.1 c_7
          refine lv_iconst (v := 0) hx hb dX7_setTime_52 (by decide) ?_
          exact k_X7_setTime_53 C0 x1 x2 x3 (0 : Int32) r_3 (0 : Int32) mti mth H locs ls hm ⟨hP, hD, hS⟩ (lv_sub hl [1, 2, 3, 4] rfl) hret
        · have hm := hm.2 c_7
          refine lv_iconst (v := 1) hx hb dX7_setTime_48 (by decide) ?_
          refine lv_goto (tgt := 53) hx hb dX7_setTime_49 (by decide) ?_
          exact k_X7_setTime_53 C0 x1 x2 x3 (0 : Int32) r_3 (1 : Int32) mti mth H locs ls hm ⟨hP, hD, hS⟩ (lv_sub hl [1, 2, 3, 4] rfl) hret
  · have hm := hm.2 c_2
    refine lv_iload_n hx hb dX7_setTime_8 rfl (lv_at hl 2 rfl) ?_
    have hFc := va_freeSame hD hS hA
    refine va_calli (va_runS (As := [.int x2]) (rest := []) ⟨hx, hb, hml, hown, hts⟩ (c_X7_isMachine l dC dI cy ad H.size mti mow mjo mta mba mib mdi mab mbe mpl mbs mro mlo mth x2 _ _ hm) (cwS 1 hts gX7_setTime_X7_isMachine rfl rfl rfl (by decide +kernel) ⟨Nat.le_of_ble_eq_true rfl, Nat.le_of_ble_eq_true rfl⟩) ⟨cPre_blind, fun U hU hW => ⟨rfl, cPre_at hP hK hD hN hU hW⟩⟩ rfl rfl hl.1 rfl (lv_room (Nat.le_of_ble_eq_true rfl)) dX7_setTime_9 ⟨Nat.zero_le _, Nat.zero_le _⟩) hS (fun q _ h => hFc q h) hFc (fun r_8 u t H locs ht hvm hw hB hz1 hk1 hS => ?_)
    try dsimp only at hw
    obtain ⟨hm, nar_r_8⟩ := hw
    have hP : va_P (dC, dI) vwCl (wM ad cy mti mow mjo mta mba mib mdi mab mbe mpl mbs mro mlo mth) H := cPost_P ht hB
    have hD : va_D A (wM ad cy mti mow mjo mta mba mib mdi mab mbe mpl mbs mro mlo mth) := cPost_D hFc hB
    refine lv_if_eq (tgt := 19) hx hb dX7_setTime_12 (by decide) (fun c_9 => ?_) (fun c_9 => ?_)
    · have hm := hm.1 c_9
      refine lv_iconst (v := 0) hx hb dX7_setTime_19 (by decide) ?_
      refine lv_istore (lv' := [(4, .int (0 : Int32)), (0, .ref (ad 0)), (1, .int x1), (2, .int x2), (3, .int x3)]) hx hb dX7_setTime_20 hl (by decide) rfl (fun ls hl => ?_)
      refine lv_aload_n hx hb dX7_setTime_22 rfl (lv_at hl 1 rfl) ?_
      refine lv_iload hx hb dX7_setTime_23 (lv_at hl 0 rfl) ?_
      refine lv_iload_n hx hb dX7_setTime_25 rfl (lv_at hl 4 rfl) ?_
      have hFc := va_freeSame hD hS hA
      refine va_calli (va_runS (As := [.int x3]) (rest := [.int (0 : Int32), .ref (ad 0)]) ⟨hx, hb, hml, hown, hts⟩ (c_X7_isTime l dC dI cy ad H.size mti mow mjo mta mba mib mdi mab mbe mpl mbs mro mlo mth x3 _ _ hm) (cwS 1 hts gX7_setTime_X7_isTime rfl rfl rfl (by decide +kernel) ⟨Nat.le_of_ble_eq_true rfl, Nat.le_of_ble_eq_true rfl⟩) ⟨cPre_blind, fun U hU hW => ⟨rfl, cPre_at hP hK hD hN hU hW⟩⟩ rfl rfl hl.1 rfl (lv_room (Nat.le_of_ble_eq_true rfl)) dX7_setTime_26 ⟨Nat.zero_le _, Nat.zero_le _⟩) hS (fun q _ h => hFc q h) hFc (fun r_10 u t H locs ht hvm hw hB hz1 hk1 hS => ?_)
      try dsimp only at hw
      obtain ⟨hm, nar_r_10⟩ := hw
      have hP : va_P (dC, dI) vwCl (wM ad cy mti mow mjo mta mba mib mdi mab mbe mpl mbs mro mlo mth) H := cPost_P ht hB
      have hD : va_D A (wM ad cy mti mow mjo mta mba mib mdi mab mbe mpl mbs mro mlo mth) := cPost_D hFc hB
      refine lv_iload hx hb dX7_setTime_29 (lv_at hl 0 rfl) ?_
      refine lv_if_eq (tgt := 52) hx hb dX7_setTime_31 (by decide) (fun c_11 => ?_) (fun c_11 => ?_)
      · have hm := hm.1 c_11
        refine lv_iconst (v := 0) hx hb dX7_setTime_52 (by decide) ?_
        exact k_X7_setTime_53 C0 x1 x2 x3 (0 : Int32) r_10 (0 : Int32) mti mth H locs ls hm ⟨hP, hD, hS⟩ (lv_sub hl [1, 2, 3, 4] rfl) hret
      · have hm := hm.2 c_11
        refine lv_iload_n hx hb dX7_setTime_34 rfl (lv_at hl 4 rfl) ?_
        refine lv_if_gt (tgt := 48) hx hb dX7_setTime_35 (by decide) (fun c_12 => ?_) (fun c_12 => ?_)
        · have hm := hm.1 c_12
          refine lv_iconst (v := 1) hx hb dX7_setTime_48 (by decide) ?_
          refine lv_goto (tgt := 53) hx hb dX7_setTime_49 (by decide) ?_
          exact k_X7_setTime_53 C0 x1 x2 x3 (0 : Int32) r_10 (1 : Int32) mti mth H locs ls hm ⟨hP, hD, hS⟩ (lv_sub hl [1, 2, 3, 4] rfl) hret
        · have hm := hm.2 c_12
          refine lv_aload_n hx hb dX7_setTime_38 rfl (lv_at hl 1 rfl) ?_
          refine va_get (D := (dC, dI)) (ci := 7) (v := .ref (ad 2)) (C := RX7) (T := TX7) (N := 14) hx hb hts in_X7_setTime_X7 hown hK hP 0 rfl rfl 1 (by decide) (hts _ fl_X7_setTime_13) (fun _ h9 => h9) rfl dX7_setTime_39 ?_
          refine lv_iload_n hx hb dX7_setTime_42 rfl (lv_at hl 2 rfl) ?_
          have hi_13 := hm.1
          have hm := hm.2
          refine va_iald hx hb hK hP 2 0 rfl rfl hi_13 dX7_setTime_43 ?_
          refine lv_iload_n hx hb dX7_setTime_44 rfl (lv_at hl 3 rfl) ?_
          refine lv_icmp_eq (tgt := 52) hx hb dX7_setTime_45 (by decide) (fun c_14 => ?_) (fun c_14 => ?_)
          · have hm := hm.1 c_14
            refine lv_iconst (v := 0) hx hb dX7_setTime_52 (by decide) ?_
            exact k_X7_setTime_53 C0 x1 x2 x3 (0 : Int32) r_10 (0 : Int32) mti mth H locs ls hm ⟨hP, hD, hS⟩ (lv_sub hl [1, 2, 3, 4] rfl) hret
          · have hm := hm.2 c_14
            refine lv_iconst (v := 1) hx hb dX7_setTime_48 (by decide) ?_
            refine lv_goto (tgt := 53) hx hb dX7_setTime_49 (by decide) ?_
            exact k_X7_setTime_53 C0 x1 x2 x3 (0 : Int32) r_10 (1 : Int32) mti mth H locs ls hm ⟨hP, hD, hS⟩ (lv_sub hl [1, 2, 3, 4] rfl) hret
    · have hm := hm.2 c_9
      refine lv_iconst (v := 1) hx hb dX7_setTime_15 (by decide) ?_
      refine lv_goto (tgt := 20) hx hb dX7_setTime_16 (by decide) ?_
      refine lv_istore (lv' := [(4, .int (1 : Int32)), (0, .ref (ad 0)), (1, .int x1), (2, .int x2), (3, .int x3)]) hx hb dX7_setTime_20 hl (by decide) rfl (fun ls hl => ?_)
      refine lv_aload_n hx hb dX7_setTime_22 rfl (lv_at hl 1 rfl) ?_
      refine lv_iload hx hb dX7_setTime_23 (lv_at hl 0 rfl) ?_
      refine lv_iload_n hx hb dX7_setTime_25 rfl (lv_at hl 4 rfl) ?_
      have hFc := va_freeSame hD hS hA
      refine va_calli (va_runS (As := [.int x3]) (rest := [.int (1 : Int32), .ref (ad 0)]) ⟨hx, hb, hml, hown, hts⟩ (c_X7_isTime l dC dI cy ad H.size mti mow mjo mta mba mib mdi mab mbe mpl mbs mro mlo mth x3 _ _ hm) (cwS 1 hts gX7_setTime_X7_isTime rfl rfl rfl (by decide +kernel) ⟨Nat.le_of_ble_eq_true rfl, Nat.le_of_ble_eq_true rfl⟩) ⟨cPre_blind, fun U hU hW => ⟨rfl, cPre_at hP hK hD hN hU hW⟩⟩ rfl rfl hl.1 rfl (lv_room (Nat.le_of_ble_eq_true rfl)) dX7_setTime_26 ⟨Nat.zero_le _, Nat.zero_le _⟩) hS (fun q _ h => hFc q h) hFc (fun r_15 u t H locs ht hvm hw hB hz1 hk1 hS => ?_)
      try dsimp only at hw
      obtain ⟨hm, nar_r_15⟩ := hw
      have hP : va_P (dC, dI) vwCl (wM ad cy mti mow mjo mta mba mib mdi mab mbe mpl mbs mro mlo mth) H := cPost_P ht hB
      have hD : va_D A (wM ad cy mti mow mjo mta mba mib mdi mab mbe mpl mbs mro mlo mth) := cPost_D hFc hB
      refine lv_iload hx hb dX7_setTime_29 (lv_at hl 0 rfl) ?_
      refine lv_if_eq (tgt := 52) hx hb dX7_setTime_31 (by decide) (fun c_16 => ?_) (fun c_16 => ?_)
      · have hm := hm.1 c_16
        refine lv_iconst (v := 0) hx hb dX7_setTime_52 (by decide) ?_
        exact k_X7_setTime_53 C0 x1 x2 x3 (1 : Int32) r_15 (0 : Int32) mti mth H locs ls hm ⟨hP, hD, hS⟩ (lv_sub hl [1, 2, 3, 4] rfl) hret
      · have hm := hm.2 c_16
        refine lv_iload_n hx hb dX7_setTime_34 rfl (lv_at hl 4 rfl) ?_
        refine lv_if_gt (tgt := 48) hx hb dX7_setTime_35 (by decide) (fun c_17 => ?_) (fun c_17 => ?_)
        · have hm := hm.1 c_17
          refine lv_iconst (v := 1) hx hb dX7_setTime_48 (by decide) ?_
          refine lv_goto (tgt := 53) hx hb dX7_setTime_49 (by decide) ?_
          exact k_X7_setTime_53 C0 x1 x2 x3 (1 : Int32) r_15 (1 : Int32) mti mth H locs ls hm ⟨hP, hD, hS⟩ (lv_sub hl [1, 2, 3, 4] rfl) hret
        · have hm := hm.2 c_17
          refine lv_aload_n hx hb dX7_setTime_38 rfl (lv_at hl 1 rfl) ?_
          refine va_get (D := (dC, dI)) (ci := 7) (v := .ref (ad 2)) (C := RX7) (T := TX7) (N := 14) hx hb hts in_X7_setTime_X7 hown hK hP 0 rfl rfl 1 (by decide) (hts _ fl_X7_setTime_13) (fun _ h9 => h9) rfl dX7_setTime_39 ?_
          refine lv_iload_n hx hb dX7_setTime_42 rfl (lv_at hl 2 rfl) ?_
          have hi_18 := hm.1
          have hm := hm.2
          refine va_iald hx hb hK hP 2 0 rfl rfl hi_18 dX7_setTime_43 ?_
          refine lv_iload_n hx hb dX7_setTime_44 rfl (lv_at hl 3 rfl) ?_
          refine lv_icmp_eq (tgt := 52) hx hb dX7_setTime_45 (by decide) (fun c_19 => ?_) (fun c_19 => ?_)
          · have hm := hm.1 c_19
            refine lv_iconst (v := 0) hx hb dX7_setTime_52 (by decide) ?_
            exact k_X7_setTime_53 C0 x1 x2 x3 (1 : Int32) r_15 (0 : Int32) mti mth H locs ls hm ⟨hP, hD, hS⟩ (lv_sub hl [1, 2, 3, 4] rfl) hret
          · have hm := hm.2 c_19
            refine lv_iconst (v := 1) hx hb dX7_setTime_48 (by decide) ?_
            refine lv_goto (tgt := 53) hx hb dX7_setTime_49 (by decide) ?_
            exact k_X7_setTime_53 C0 x1 x2 x3 (1 : Int32) r_15 (1 : Int32) mti mth H locs ls hm ⟨hP, hD, hS⟩ (lv_sub hl [1, 2, 3, 4] rfl) hret

set_option maxHeartbeats 4000000 in
set_option maxRecDepth 100000 in
theorem c_X7_setTime (l : Launch) (dC : Nat → ClassId) (dI : Nat → Nat → Nat) (cy : Nat → ClassId) (ad : Nat → Nat) (sz : Nat) (mti : Nat → Int32) (mow : Nat → Int32) (mjo : Int32) (mta : Nat → Int64) (mba : Nat → Int32) (mib : Nat → Int32) (mdi : Int64) (mab : Nat → Int64) (mbe : Nat → Int64) (mpl : Nat → Int32) (mbs : Nat → Int32) (mro : Nat → Int32) (mlo : Nat → Int32) (mth : Int32) (x1 : Int32) (x2 : Int32) (x3 : Int32) (N : Nat) (Q : Int32 → (Nat → Int32) → Int32 → Prop) (hm : p_X7_setTime N mow mjo Q x1 x2 x3 mti mth) : Met l yX7_setTime wsX7_setTime rmX7_setTime (va_Pc [.ref (ad 0), .int x1, .int x2, .int x3] (cPre dC dI cy (wM ad cy mti mow mjo mta mba mib mdi mab mbe mpl mbs mro mlo mth) sz)) (va_Qi (fun (r : Int32) (u : (Nat → Int32) × Int32) => Q r u.1 u.2) (fun u t => cPost dC dI cy (wM ad cy mti mow mjo mta mba mib mdi mab mbe mpl mbs mro mlo mth) sz (wM ad cy (u.1) mow mjo mta mba mib mdi mab mbe mpl mbs mro mlo (u.2)) t) (va_A (wM ad cy mti mow mjo mta mba mib mdi mab mbe mpl mbs mro mlo mth) sz)) 0 0 (va_A (wM ad cy mti mow mjo mta mba mib mdi mab mbe mpl mbs mro mlo mth) sz) := by
  refine Met.ofW (cc := cX7_setTime) (maxL := 6) (ret := (some .int)) (by decide) rfl ?_
  intro p e s m args below meth c s₁ B hml hv
  obtain ⟨rfl, hsz, hP, hK, hD0, hN⟩ := hv
  have hts := atoms_spec (ws := wsX7_setTime) B.pre
  have hown : s.vm.findClass RX7 = some m.cls := findClass_of_methodNamed B.named
  subst hsz
  have hD := hD0.self (sz := s.heap.size)
  generalize hAe : va_A (wM ad cy mti mow mjo mta mba mib mdi mab mbe mpl mbs mro mlo mth) s.heap.size = A at hD ⊢
  have hA : ∀ q : Nat, s.heap.size ≤ q → A q := fun q h => by rw [← hAe]; exact Or.inr h
  have hl := lv_entry ([.ref (ad 0), .int x1, .int x2, .int x3]) (n := 6) (Nat.le_of_ble_eq_true rfl)
  rw [lg_entry_eq]
  generalize (lg_sl ([.ref (ad 0), .int x1, .int x2, .int x3]) ++ List.replicate (6 - (lg_sl ([.ref (ad 0), .int x1, .int x2, .int x3])).length) Slot.unset).toArray = ls at hl ⊢
  have hl : lv_has ls 6 [(0, .ref (ad 0)), (1, .int x1), (2, .int x2), (3, .int x3)] := hl
  exact k_X7_setTime_0 ⟨B.exec, B.bytes, hml, B.returns, hown, hts, B.notSynchronized, hK, hA, hN⟩ x1 x2 x3 mti mth s.heap [] ls hm ⟨hP, hD, va_S.rf⟩ (lv_sub hl [0, 1, 2, 3] rfl) (fun r mti mth H locs ls pc hdg hSt hq => W.iret B.exec B.bytes B.returns (fun t ht hW => ⟨⟨r, (mti, mth), rfl, hq, cPost_of hAe ht hW.alike hSt hK⟩, hSt.2.2.F ht⟩) hSt.2.2.2.2 hdg B.notSynchronized)

-- ===== X7_removeLast
theorem fl_X7_removeLast_45 : Cond.fieldLink RX7 45 "UnlikeUnionModel" "thrown" "I" ∈ wsX7_removeLast := by decide +kernel
theorem fl_X7_removeLast_49 : Cond.fieldLink RX7 49 "UnlikeUnionModel" "jobs" "I" ∈ wsX7_removeLast := by decide +kernel
theorem in_X7_removeLast_X7 : ∀ w ∈ u_ws RX7 TX7 14, w ∈ wsX7_removeLast := by decide +kernel
abbrev rmX7_removeLast : Room := { frames := 1, cells := 0, slots := 0, locals := 61 }
def p_X7_removeLast (N : Nat) (Q : Int32 → Int32 → Int32 → Prop) (mjo : Int32) (mth : Int32) : Prop :=
  (mjo = 0 → (Q (-1 : Int32) mjo (0 : Int32))) ∧ (¬ mjo = 0 → (∀ f_2 : Int32, f_2 = mjo - (1 : Int32) → (Q f_2 f_2 (0 : Int32))))

set_option maxHeartbeats 4000000 in
set_option maxRecDepth 100000 in
theorem k_X7_removeLast_0 {N : Nat} {mti : Nat → Int32} {mow : Nat → Int32} {mta : Nat → Int64} {mba : Nat → Int32} {mib : Nat → Int32} {mdi : Int64} {mab : Nat → Int64} {mbe : Nat → Int64} {mpl : Nat → Int32} {mbs : Nat → Int32} {mro : Nat → Int32} {mlo : Nat → Int32} {Q : Int32 → Int32 → Int32 → Prop} (C0 : cxM cX7_removeLast 1 (some .int) RX7 wsX7_removeLast p s m args meth c dC dI cy A) :
    ∀ (mjo : Int32) (mth : Int32) (H : Heap) (locs : List Loc) (ls : Array Slot) (hm : p_X7_removeLast N Q mjo mth) (hSt : stC dC dI A s (wM ad cy mti mow mjo mta mba mib mdi mab mbe mpl mbs mro mlo mth) H locs) (hl : lv_has ls 1 [(0, .ref (ad 0))]) (hret : ∀ (r : Int32) (mjo : Int32) (mth : Int32) (H : Heap) (locs : List Loc) (ls : Array Slot) (pc : Nat), decode cX7_removeLast pc = .ok (.ireturn, 1) → stC dC dI A s (wM ad cy mti mow mjo mta mba mib mdi mab mbe mpl mbs mro mlo mth) H locs → Q r mjo mth → W p l e rmX7_removeLast s m args below meth c H locs 0 0 Z (F0 m pc ls [.int r])), W p l e rmX7_removeLast s m args below meth c H locs 0 0 Z (F0 m 0 ls []) := by
  obtain ⟨hx, hb, hml, hr, hown, hts, hlocks, hK, hA, hN⟩ := id C0
  intro mjo mth H locs ls hm hSt hl hret
  obtain ⟨hP, hD, hS⟩ := hSt
  unfold p_X7_removeLast at hm
  refine lv_aload_n hx hb dX7_removeLast_0 rfl (lv_at hl 0 rfl) ?_
  refine lv_iconst (v := 0) hx hb dX7_removeLast_1 (by decide) ?_
  refine va_put (D := (dC, dI)) (ci := 7) (v := .int (0 : Int32)) (ty := .int) (C := RX7) (T := TX7) (N := 14) hx hb hts in_X7_removeLast_X7 tyX7 tyX7_ok nmX7 hown hK hP hD hS 0 rfl rfl 13 (by decide) (hts _ fl_X7_removeLast_45) (fun _ h9 => h9) rfl (by decide +kernel) rfl rfl (Nat.le_of_ble_eq_true rfl) dX7_removeLast_2 (fun H locs hP hD hS => ?_)
  have hP : va_P (dC, dI) vwCl (wM ad cy mti mow mjo mta mba mib mdi mab mbe mpl mbs mro mlo (0 : Int32)) H := hP
  have hD : va_D A (wM ad cy mti mow mjo mta mba mib mdi mab mbe mpl mbs mro mlo (0 : Int32)) := hD
  refine lv_aload_n hx hb dX7_removeLast_5 rfl (lv_at hl 0 rfl) ?_
  refine va_get (D := (dC, dI)) (ci := 7) (v := .int mjo) (C := RX7) (T := TX7) (N := 14) hx hb hts in_X7_removeLast_X7 hown hK hP 0 rfl rfl 2 (by decide) (hts _ fl_X7_removeLast_49) (fun _ h9 => h9) rfl dX7_removeLast_6 ?_
  refine lv_if_ne (tgt := 14) hx hb dX7_removeLast_9 (by decide) (fun c_1 => ?_) (fun c_1 => ?_)
  · have hm := hm.2 c_1
    refine lv_aload_n hx hb dX7_removeLast_14 rfl (lv_at hl 0 rfl) ?_
    refine lv_dup hx hb dX7_removeLast_15 rfl ?_
    refine va_get (D := (dC, dI)) (ci := 7) (v := .int mjo) (C := RX7) (T := TX7) (N := 14) hx hb hts in_X7_removeLast_X7 hown hK hP 0 rfl rfl 2 (by decide) (hts _ fl_X7_removeLast_49) (fun _ h9 => h9) rfl dX7_removeLast_16 ?_
    refine lv_iconst (v := 1) hx hb dX7_removeLast_19 (by decide) ?_
    refine lv_isub hx hb dX7_removeLast_20 ?_
    refine lv_topi (fun f_2 ef_2 => ?_)
    have hm := hm f_2 ef_2
    refine va_put (D := (dC, dI)) (ci := 7) (v := .int f_2) (ty := .int) (C := RX7) (T := TX7) (N := 14) hx hb hts in_X7_removeLast_X7 tyX7 tyX7_ok nmX7 hown hK hP hD hS 0 rfl rfl 2 (by decide) (hts _ fl_X7_removeLast_49) (fun _ h9 => h9) rfl (by decide +kernel) rfl rfl (Nat.le_of_ble_eq_true rfl) dX7_removeLast_21 (fun H locs hP hD hS => ?_)
    have hP : va_P (dC, dI) vwCl (wM ad cy mti mow f_2 mta mba mib mdi mab mbe mpl mbs mro mlo (0 : Int32)) H := hP
    have hD : va_D A (wM ad cy mti mow f_2 mta mba mib mdi mab mbe mpl mbs mro mlo (0 : Int32)) := hD
    refine lv_aload_n hx hb dX7_removeLast_24 rfl (lv_at hl 0 rfl) ?_
    refine va_get (D := (dC, dI)) (ci := 7) (v := .int f_2) (C := RX7) (T := TX7) (N := 14) hx hb hts in_X7_removeLast_X7 hown hK hP 0 rfl rfl 2 (by decide) (hts _ fl_X7_removeLast_49) (fun _ h9 => h9) rfl dX7_removeLast_25 ?_
    exact hret f_2 f_2 (0 : Int32) H locs ls 28 dX7_removeLast_28 ⟨hP, hD, hS⟩ hm
  · have hm := hm.1 c_1
    refine lv_iconst (v := -1) hx hb dX7_removeLast_12 (by decide) ?_
    exact hret (-1 : Int32) mjo (0 : Int32) H locs ls 13 dX7_removeLast_13 ⟨hP, hD, hS⟩ hm

set_option maxHeartbeats 4000000 in
set_option maxRecDepth 100000 in
theorem c_X7_removeLast (l : Launch) (dC : Nat → ClassId) (dI : Nat → Nat → Nat) (cy : Nat → ClassId) (ad : Nat → Nat) (sz : Nat) (mti : Nat → Int32) (mow : Nat → Int32) (mjo : Int32) (mta : Nat → Int64) (mba : Nat → Int32) (mib : Nat → Int32) (mdi : Int64) (mab : Nat → Int64) (mbe : Nat → Int64) (mpl : Nat → Int32) (mbs : Nat → Int32) (mro : Nat → Int32) (mlo : Nat → Int32) (mth : Int32)  (N : Nat) (Q : Int32 → Int32 → Int32 → Prop) (hm : p_X7_removeLast N Q mjo mth) : Met l yX7_removeLast wsX7_removeLast rmX7_removeLast (va_Pc [.ref (ad 0)] (cPre dC dI cy (wM ad cy mti mow mjo mta mba mib mdi mab mbe mpl mbs mro mlo mth) sz)) (va_Qi (fun (r : Int32) (u : Int32 × Int32) => Q r u.1 u.2) (fun u t => cPost dC dI cy (wM ad cy mti mow mjo mta mba mib mdi mab mbe mpl mbs mro mlo mth) sz (wM ad cy mti mow (u.1) mta mba mib mdi mab mbe mpl mbs mro mlo (u.2)) t) (va_A (wM ad cy mti mow mjo mta mba mib mdi mab mbe mpl mbs mro mlo mth) sz)) 0 0 (va_A (wM ad cy mti mow mjo mta mba mib mdi mab mbe mpl mbs mro mlo mth) sz) := by
  refine Met.ofW (cc := cX7_removeLast) (maxL := 1) (ret := (some .int)) (by decide) rfl ?_
  intro p e s m args below meth c s₁ B hml hv
  obtain ⟨rfl, hsz, hP, hK, hD0, hN⟩ := hv
  have hts := atoms_spec (ws := wsX7_removeLast) B.pre
  have hown : s.vm.findClass RX7 = some m.cls := findClass_of_methodNamed B.named
  subst hsz
  have hD := hD0.self (sz := s.heap.size)
  generalize hAe : va_A (wM ad cy mti mow mjo mta mba mib mdi mab mbe mpl mbs mro mlo mth) s.heap.size = A at hD ⊢
  have hA : ∀ q : Nat, s.heap.size ≤ q → A q := fun q h => by rw [← hAe]; exact Or.inr h
  have hl := lv_entry ([.ref (ad 0)]) (n := 1) (Nat.le_of_ble_eq_true rfl)
  rw [lg_entry_eq]
  generalize (lg_sl ([.ref (ad 0)]) ++ List.replicate (1 - (lg_sl ([.ref (ad 0)])).length) Slot.unset).toArray = ls at hl ⊢
  have hl : lv_has ls 1 [(0, .ref (ad 0))] := hl
  exact k_X7_removeLast_0 ⟨B.exec, B.bytes, hml, B.returns, hown, hts, B.notSynchronized, hK, hA, hN⟩ mjo mth s.heap [] ls hm ⟨hP, hD, va_S.rf⟩ (lv_sub hl [0] rfl) (fun r mjo mth H locs ls pc hdg hSt hq => W.iret B.exec B.bytes B.returns (fun t ht hW => ⟨⟨r, (mjo, mth), rfl, hq, cPost_of hAe ht hW.alike hSt hK⟩, hSt.2.2.F ht⟩) hSt.2.2.2.2 hdg B.notSynchronized)

-- ===== X7_jobs
theorem fl_X7_jobs_45 : Cond.fieldLink RX7 45 "UnlikeUnionModel" "thrown" "I" ∈ wsX7_jobs := by decide +kernel
theorem fl_X7_jobs_49 : Cond.fieldLink RX7 49 "UnlikeUnionModel" "jobs" "I" ∈ wsX7_jobs := by decide +kernel
theorem in_X7_jobs_X7 : ∀ w ∈ u_ws RX7 TX7 14, w ∈ wsX7_jobs := by decide +kernel
abbrev rmX7_jobs : Room := { frames := 1, cells := 0, slots := 0, locals := 61 }
def p_X7_jobs (N : Nat) (mjo : Int32) (Q : Int32 → Int32 → Prop) (mth : Int32) : Prop :=
  Q mjo (0 : Int32)

set_option maxHeartbeats 4000000 in
set_option maxRecDepth 100000 in
theorem k_X7_jobs_0 {N : Nat} {mti : Nat → Int32} {mow : Nat → Int32} {mjo : Int32} {mta : Nat → Int64} {mba : Nat → Int32} {mib : Nat → Int32} {mdi : Int64} {mab : Nat → Int64} {mbe : Nat → Int64} {mpl : Nat → Int32} {mbs : Nat → Int32} {mro : Nat → Int32} {mlo : Nat → Int32} {Q : Int32 → Int32 → Prop} (C0 : cxM cX7_jobs 1 (some .int) RX7 wsX7_jobs p s m args meth c dC dI cy A) :
    ∀ (mth : Int32) (H : Heap) (locs : List Loc) (ls : Array Slot) (hm : p_X7_jobs N mjo Q mth) (hSt : stC dC dI A s (wM ad cy mti mow mjo mta mba mib mdi mab mbe mpl mbs mro mlo mth) H locs) (hl : lv_has ls 1 [(0, .ref (ad 0))]) (hret : ∀ (r : Int32) (mth : Int32) (H : Heap) (locs : List Loc) (ls : Array Slot) (pc : Nat), decode cX7_jobs pc = .ok (.ireturn, 1) → stC dC dI A s (wM ad cy mti mow mjo mta mba mib mdi mab mbe mpl mbs mro mlo mth) H locs → Q r mth → W p l e rmX7_jobs s m args below meth c H locs 0 0 Z (F0 m pc ls [.int r])), W p l e rmX7_jobs s m args below meth c H locs 0 0 Z (F0 m 0 ls []) := by
  obtain ⟨hx, hb, hml, hr, hown, hts, hlocks, hK, hA, hN⟩ := id C0
  intro mth H locs ls hm hSt hl hret
  obtain ⟨hP, hD, hS⟩ := hSt
  unfold p_X7_jobs at hm
  refine lv_aload_n hx hb dX7_jobs_0 rfl (lv_at hl 0 rfl) ?_
  refine lv_iconst (v := 0) hx hb dX7_jobs_1 (by decide) ?_
  refine va_put (D := (dC, dI)) (ci := 7) (v := .int (0 : Int32)) (ty := .int) (C := RX7) (T := TX7) (N := 14) hx hb hts in_X7_jobs_X7 tyX7 tyX7_ok nmX7 hown hK hP hD hS 0 rfl rfl 13 (by decide) (hts _ fl_X7_jobs_45) (fun _ h9 => h9) rfl (by decide +kernel) rfl rfl (Nat.le_of_ble_eq_true rfl) dX7_jobs_2 (fun H locs hP hD hS => ?_)
  have hP : va_P (dC, dI) vwCl (wM ad cy mti mow mjo mta mba mib mdi mab mbe mpl mbs mro mlo (0 : Int32)) H := hP
  have hD : va_D A (wM ad cy mti mow mjo mta mba mib mdi mab mbe mpl mbs mro mlo (0 : Int32)) := hD
  refine lv_aload_n hx hb dX7_jobs_5 rfl (lv_at hl 0 rfl) ?_
  refine va_get (D := (dC, dI)) (ci := 7) (v := .int mjo) (C := RX7) (T := TX7) (N := 14) hx hb hts in_X7_jobs_X7 hown hK hP 0 rfl rfl 2 (by decide) (hts _ fl_X7_jobs_49) (fun _ h9 => h9) rfl dX7_jobs_6 ?_
  exact hret mjo (0 : Int32) H locs ls 9 dX7_jobs_9 ⟨hP, hD, hS⟩ hm

set_option maxHeartbeats 4000000 in
set_option maxRecDepth 100000 in
theorem c_X7_jobs (l : Launch) (dC : Nat → ClassId) (dI : Nat → Nat → Nat) (cy : Nat → ClassId) (ad : Nat → Nat) (sz : Nat) (mti : Nat → Int32) (mow : Nat → Int32) (mjo : Int32) (mta : Nat → Int64) (mba : Nat → Int32) (mib : Nat → Int32) (mdi : Int64) (mab : Nat → Int64) (mbe : Nat → Int64) (mpl : Nat → Int32) (mbs : Nat → Int32) (mro : Nat → Int32) (mlo : Nat → Int32) (mth : Int32)  (N : Nat) (Q : Int32 → Int32 → Prop) (hm : p_X7_jobs N mjo Q mth) : Met l yX7_jobs wsX7_jobs rmX7_jobs (va_Pc [.ref (ad 0)] (cPre dC dI cy (wM ad cy mti mow mjo mta mba mib mdi mab mbe mpl mbs mro mlo mth) sz)) (va_Qi (fun (r : Int32) (u : Int32) => Q r u) (fun u t => cPost dC dI cy (wM ad cy mti mow mjo mta mba mib mdi mab mbe mpl mbs mro mlo mth) sz (wM ad cy mti mow mjo mta mba mib mdi mab mbe mpl mbs mro mlo u) t) (va_A (wM ad cy mti mow mjo mta mba mib mdi mab mbe mpl mbs mro mlo mth) sz)) 0 0 (va_A (wM ad cy mti mow mjo mta mba mib mdi mab mbe mpl mbs mro mlo mth) sz) := by
  refine Met.ofW (cc := cX7_jobs) (maxL := 1) (ret := (some .int)) (by decide) rfl ?_
  intro p e s m args below meth c s₁ B hml hv
  obtain ⟨rfl, hsz, hP, hK, hD0, hN⟩ := hv
  have hts := atoms_spec (ws := wsX7_jobs) B.pre
  have hown : s.vm.findClass RX7 = some m.cls := findClass_of_methodNamed B.named
  subst hsz
  have hD := hD0.self (sz := s.heap.size)
  generalize hAe : va_A (wM ad cy mti mow mjo mta mba mib mdi mab mbe mpl mbs mro mlo mth) s.heap.size = A at hD ⊢
  have hA : ∀ q : Nat, s.heap.size ≤ q → A q := fun q h => by rw [← hAe]; exact Or.inr h
  have hl := lv_entry ([.ref (ad 0)]) (n := 1) (Nat.le_of_ble_eq_true rfl)
  rw [lg_entry_eq]
  generalize (lg_sl ([.ref (ad 0)]) ++ List.replicate (1 - (lg_sl ([.ref (ad 0)])).length) Slot.unset).toArray = ls at hl ⊢
  have hl : lv_has ls 1 [(0, .ref (ad 0))] := hl
  exact k_X7_jobs_0 ⟨B.exec, B.bytes, hml, B.returns, hown, hts, B.notSynchronized, hK, hA, hN⟩ mth s.heap [] ls hm ⟨hP, hD, va_S.rf⟩ (lv_sub hl [0] rfl) (fun r mth H locs ls pc hdg hSt hq => W.iret B.exec B.bytes B.returns (fun t ht hW => ⟨⟨r, (mth), rfl, hq, cPost_of hAe ht hW.alike hSt hK⟩, hSt.2.2.F ht⟩) hSt.2.2.2.2 hdg B.notSynchronized)

-- ===== X7_time
theorem fl_X7_time_7 : Cond.fieldLink RX7 7 "UnlikeUnionModel" "time" "[I" ∈ wsX7_time := by decide +kernel
theorem in_X7_time_X7 : ∀ w ∈ u_ws RX7 TX7 14, w ∈ wsX7_time := by decide +kernel
abbrev rmX7_time : Room := { frames := 2, cells := 0, slots := 0, locals := 147 }
def p_X7_time (N : Nat) (mti : Nat → Int32) (mjo : Int32) (Q : Int32 → Int32 → Prop) (x1 : Int32) (x2 : Int32) (mth : Int32) : Prop :=
  p_X7_isJob N mjo (fun r_1 => (r_1 = 0 → (p_X7_goes N (fun r_3 mth_4 => (r_3 = 0 → (Q (0 : Int32) mth_4)) ∧ (¬ r_3 = 0 → (vp_in (((3 : Int32) * x1) + x2) 21 ∧ (Q (mti (((3 : Int32) * x1) + x2).toNatClampNeg) mth_4)))) (0 : Int32) (1 : Int32) (1 : Int32) mth)) ∧ (¬ r_1 = 0 → (p_X7_isMachine N (fun r_7 => (r_7 = 0 → (p_X7_goes N (fun r_9 mth_10 => (r_9 = 0 → (Q (0 : Int32) mth_10)) ∧ (¬ r_9 = 0 → (vp_in (((3 : Int32) * x1) + x2) 21 ∧ (Q (mti (((3 : Int32) * x1) + x2).toNatClampNeg) mth_10)))) (0 : Int32) (1 : Int32) (1 : Int32) mth)) ∧ (¬ r_7 = 0 → (p_X7_goes N (fun r_13 mth_14 => (r_13 = 0 → (Q (0 : Int32) mth_14)) ∧ (¬ r_13 = 0 → (vp_in (((3 : Int32) * x1) + x2) 21 ∧ (Q (mti (((3 : Int32) * x1) + x2).toNatClampNeg) mth_14)))) (1 : Int32) (1 : Int32) (1 : Int32) mth))) x2))) x1

set_option maxHeartbeats 4000000 in
set_option maxRecDepth 100000 in
theorem k_X7_time_0 {N : Nat} {mti : Nat → Int32} {mow : Nat → Int32} {mjo : Int32} {mta : Nat → Int64} {mba : Nat → Int32} {mib : Nat → Int32} {mdi : Int64} {mab : Nat → Int64} {mbe : Nat → Int64} {mpl : Nat → Int32} {mbs : Nat → Int32} {mro : Nat → Int32} {mlo : Nat → Int32} {Q : Int32 → Int32 → Prop} (C0 : cxM cX7_time 3 (some .int) RX7 wsX7_time p s m args meth c dC dI cy A) :
    ∀ (x1 : Int32) (x2 : Int32) (mth : Int32) (H : Heap) (locs : List Loc) (ls : Array Slot) (hm : p_X7_time N mti mjo Q x1 x2 mth) (hSt : stC dC dI A s (wM ad cy mti mow mjo mta mba mib mdi mab mbe mpl mbs mro mlo mth) H locs) (hl : lv_has ls 3 [(0, .ref (ad 0)), (1, .int x1), (2, .int x2)]) (hret : ∀ (r : Int32) (mth : Int32) (H : Heap) (locs : List Loc) (ls : Array Slot) (pc : Nat), decode cX7_time pc = .ok (.ireturn, 1) → stC dC dI A s (wM ad cy mti mow mjo mta mba mib mdi mab mbe mpl mbs mro mlo mth) H locs → Q r mth → W p l e rmX7_time s m args below meth c H locs 0 0 Z (F0 m pc ls [.int r])), W p l e rmX7_time s m args below meth c H locs 0 0 Z (F0 m 0 ls []) := by
  obtain ⟨hx, hb, hml, hr, hown, hts, hlocks, hK, hA, hN⟩ := id C0
  intro x1 x2 mth H locs ls hm hSt hl hret
  obtain ⟨hP, hD, hS⟩ := hSt
  unfold p_X7_time at hm
  refine lv_aload_n hx hb dX7_time_0 rfl (lv_at hl 0 rfl) ?_
  refine lv_aload_n hx hb dX7_time_1 rfl (lv_at hl 0 rfl) ?_
  refine lv_iload_n hx hb dX7_time_2 rfl (lv_at hl 1 rfl) ?_
  have hFc := va_freeSame hD hS hA
  refine va_calli (va_runV (As := [.int x1]) (rest := [.ref (ad 0)]) ⟨hx, hb, hml, hown, hts⟩ (c_X7_isJob l dC dI cy ad H.size mti mow mjo mta mba mib mdi mab mbe mpl mbs mro mlo mth x1 _ _ hm) (cwV 1 hts gX7_time_X7_isJob rfl rfl rfl (by decide +kernel) ⟨Nat.le_of_ble_eq_true rfl, Nat.le_of_ble_eq_true rfl⟩) ⟨cPre_blind, va_recv hK hP (ci := 7) (q0 := 0) rfl rfl, fun U hU hW => ⟨rfl, cPre_at hP hK hD hN hU hW⟩⟩ rfl rfl hl.1 rfl (lv_room (Nat.le_of_ble_eq_true rfl)) dX7_time_3 ⟨Nat.zero_le _, Nat.zero_le _⟩) hS (fun q _ h => hFc q h) hFc (fun r_1 u t H locs ht hvm hw hB hz1 hk1 hS => ?_)
  try dsimp only at hw
  obtain ⟨hm, nar_r_1⟩ := hw
  have hP : va_P (dC, dI) vwCl (wM ad cy mti mow mjo mta mba mib mdi mab mbe mpl mbs mro mlo mth) H := cPost_P ht hB
  have hD : va_D A (wM ad cy mti mow mjo mta mba mib mdi mab mbe mpl mbs mro mlo mth) := cPost_D hFc hB
  refine lv_if_eq (tgt := 20) hx hb dX7_time_6 (by decide) (fun c_2 => ?_) (fun c_2 => ?_)
  · have hm := hm.1 c_2
    refine lv_iconst (v := 0) hx hb dX7_time_20 (by decide) ?_
    refine lv_iconst (v := 1) hx hb dX7_time_21 (by decide) ?_
    refine lv_iconst (v := 1) hx hb dX7_time_22 (by decide) ?_
    have hFc := va_freeSame hD hS hA
    refine va_calli (va_runV (As := [.int (0 : Int32), .int (1 : Int32), .int (1 : Int32)]) (rest := []) ⟨hx, hb, hml, hown, hts⟩ (c_X7_goes l dC dI cy ad H.size mti mow mjo mta mba mib mdi mab mbe mpl mbs mro mlo mth (0 : Int32) (1 : Int32) (1 : Int32) _ _ hm) (cwV 3 hts gX7_time_X7_goes rfl rfl rfl (by decide +kernel) ⟨Nat.le_of_ble_eq_true rfl, Nat.le_of_ble_eq_true rfl⟩) ⟨cPre_blind, va_recv hK hP (ci := 7) (q0 := 0) rfl rfl, fun U hU hW => ⟨rfl, cPre_at hP hK hD hN hU hW⟩⟩ rfl rfl hl.1 rfl (lv_room (Nat.le_of_ble_eq_true rfl)) dX7_time_23 ⟨Nat.zero_le _, Nat.zero_le _⟩) hS (fun q _ h => hFc q h) hFc (fun r_3 u t H locs ht hvm hw hB hz1 hk1 hS => ?_)
    obtain ⟨mth_4, rfl⟩ : ∃ z, z = u := ⟨_, rfl⟩
    try dsimp only at hw
    obtain ⟨hm, nar_r_3⟩ := hw
    have hP : va_P (dC, dI) vwCl (wM ad cy mti mow mjo mta mba mib mdi mab mbe mpl mbs mro mlo mth_4) H := cPost_P ht hB
    have hD : va_D A (wM ad cy mti mow mjo mta mba mib mdi mab mbe mpl mbs mro mlo mth_4) := cPost_D hFc hB
    refine lv_if_eq (tgt := 42) hx hb dX7_time_26 (by decide) (fun c_5 => ?_) (fun c_5 => ?_)
    · have hm := hm.1 c_5
      refine lv_iconst (v := 0) hx hb dX7_time_42 (by decide) ?_
      exact hret (0 : Int32) mth_4 H locs ls 43 dX7_time_43 ⟨hP, hD, hS⟩ hm
    · have hm := hm.2 c_5
      refine lv_aload_n hx hb dX7_time_29 rfl (lv_at hl 0 rfl) ?_
      refine va_get (D := (dC, dI)) (ci := 7) (v := .ref (ad 1)) (C := RX7) (T := TX7) (N := 14) hx hb hts in_X7_time_X7 hown hK hP 0 rfl rfl 0 (by decide) (hts _ fl_X7_time_7) (fun _ h9 => h9) rfl dX7_time_30 ?_
      refine lv_iconst (v := 3) hx hb dX7_time_33 (by decide) ?_
      refine lv_iload_n hx hb dX7_time_34 rfl (lv_at hl 1 rfl) ?_
      refine lv_imul hx hb dX7_time_35 ?_
      refine lv_iload_n hx hb dX7_time_36 rfl (lv_at hl 2 rfl) ?_
      refine lv_iadd hx hb dX7_time_37 ?_
      have hi_6 := hm.1
      have hm := hm.2
      refine va_iald hx hb hK hP 1 0 rfl rfl hi_6 dX7_time_38 ?_
      refine lv_goto (tgt := 43) hx hb dX7_time_39 (by decide) ?_
      exact hret (mti (((3 : Int32) * x1) + x2).toNatClampNeg) mth_4 H locs ls 43 dX7_time_43 ⟨hP, hD, hS⟩ hm
  · have hm := hm.2 c_2
    refine lv_iload_n hx hb dX7_time_9 rfl (lv_at hl 2 rfl) ?_
    have hFc := va_freeSame hD hS hA
    refine va_calli (va_runS (As := [.int x2]) (rest := [.ref (ad 0)]) ⟨hx, hb, hml, hown, hts⟩ (c_X7_isMachine l dC dI cy ad H.size mti mow mjo mta mba mib mdi mab mbe mpl mbs mro mlo mth x2 _ _ hm) (cwS 1 hts gX7_time_X7_isMachine rfl rfl rfl (by decide +kernel) ⟨Nat.le_of_ble_eq_true rfl, Nat.le_of_ble_eq_true rfl⟩) ⟨cPre_blind, fun U hU hW => ⟨rfl, cPre_at hP hK hD hN hU hW⟩⟩ rfl rfl hl.1 rfl (lv_room (Nat.le_of_ble_eq_true rfl)) dX7_time_10 ⟨Nat.zero_le _, Nat.zero_le _⟩) hS (fun q _ h => hFc q h) hFc (fun r_7 u t H locs ht hvm hw hB hz1 hk1 hS => ?_)
    try dsimp only at hw
    obtain ⟨hm, nar_r_7⟩ := hw
    have hP : va_P (dC, dI) vwCl (wM ad cy mti mow mjo mta mba mib mdi mab mbe mpl mbs mro mlo mth) H := cPost_P ht hB
    have hD : va_D A (wM ad cy mti mow mjo mta mba mib mdi mab mbe mpl mbs mro mlo mth) := cPost_D hFc hB
    refine lv_if_eq (tgt := 20) hx hb dX7_time_13 (by decide) (fun c_8 => ?_) (fun c_8 => ?_)
    · have hm := hm.1 c_8
      refine lv_iconst (v := 0) hx hb dX7_time_20 (by decide) ?_
      refine lv_iconst (v := 1) hx hb dX7_time_21 (by decide) ?_
      refine lv_iconst (v := 1) hx hb dX7_time_22 (by decide) ?_
      have hFc := va_freeSame hD hS hA
      refine va_calli (va_runV (As := [.int (0 : Int32), .int (1 : Int32), .int (1 : Int32)]) (rest := []) ⟨hx, hb, hml, hown, hts⟩ (c_X7_goes l dC dI cy ad H.size mti mow mjo mta mba mib mdi mab mbe mpl mbs mro mlo mth (0 : Int32) (1 : Int32) (1 : Int32) _ _ hm) (cwV 3 hts gX7_time_X7_goes rfl rfl rfl (by decide +kernel) ⟨Nat.le_of_ble_eq_true rfl, Nat.le_of_ble_eq_true rfl⟩) ⟨cPre_blind, va_recv hK hP (ci := 7) (q0 := 0) rfl rfl, fun U hU hW => ⟨rfl, cPre_at hP hK hD hN hU hW⟩⟩ rfl rfl hl.1 rfl (lv_room (Nat.le_of_ble_eq_true rfl)) dX7_time_23 ⟨Nat.zero_le _, Nat.zero_le _⟩) hS (fun q _ h => hFc q h) hFc (fun r_9 u t H locs ht hvm hw hB hz1 hk1 hS => ?_)
      obtain ⟨mth_10, rfl⟩ : ∃ z, z = u := ⟨_, rfl⟩
      try dsimp only at hw
      obtain ⟨hm, nar_r_9⟩ := hw
      have hP : va_P (dC, dI) vwCl (wM ad cy mti mow mjo mta mba mib mdi mab mbe mpl mbs mro mlo mth_10) H := cPost_P ht hB
      have hD : va_D A (wM ad cy mti mow mjo mta mba mib mdi mab mbe mpl mbs mro mlo mth_10) := cPost_D hFc hB
      refine lv_if_eq (tgt := 42) hx hb dX7_time_26 (by decide) (fun c_11 => ?_) (fun c_11 => ?_)
      · have hm := hm.1 c_11
        refine lv_iconst (v := 0) hx hb dX7_time_42 (by decide) ?_
        exact hret (0 : Int32) mth_10 H locs ls 43 dX7_time_43 ⟨hP, hD, hS⟩ hm
      · have hm := hm.2 c_11
        refine lv_aload_n hx hb dX7_time_29 rfl (lv_at hl 0 rfl) ?_
        refine va_get (D := (dC, dI)) (ci := 7) (v := .ref (ad 1)) (C := RX7) (T := TX7) (N := 14) hx hb hts in_X7_time_X7 hown hK hP 0 rfl rfl 0 (by decide) (hts _ fl_X7_time_7) (fun _ h9 => h9) rfl dX7_time_30 ?_
        refine lv_iconst (v := 3) hx hb dX7_time_33 (by decide) ?_
        refine lv_iload_n hx hb dX7_time_34 rfl (lv_at hl 1 rfl) ?_
        refine lv_imul hx hb dX7_time_35 ?_
        refine lv_iload_n hx hb dX7_time_36 rfl (lv_at hl 2 rfl) ?_
        refine lv_iadd hx hb dX7_time_37 ?_
        have hi_12 := hm.1
        have hm := hm.2
        refine va_iald hx hb hK hP 1 0 rfl rfl hi_12 dX7_time_38 ?_
        refine lv_goto (tgt := 43) hx hb dX7_time_39 (by decide) ?_
        exact hret (mti (((3 : Int32) * x1) + x2).toNatClampNeg) mth_10 H locs ls 43 dX7_time_43 ⟨hP, hD, hS⟩ hm
    · have hm := hm.2 c_8
      refine lv_iconst (v := 1) hx hb dX7_time_16 (by decide) ?_
      refine lv_goto (tgt := 21) hx hb dX7_time_17 (by decide) ?_
      refine lv_iconst (v := 1) hx hb dX7_time_21 (by decide) ?_
      refine lv_iconst (v := 1) hx hb dX7_time_22 (by decide) ?_
      have hFc := va_freeSame hD hS hA
      refine va_calli (va_runV (As := [.int (1 : Int32), .int (1 : Int32), .int (1 : Int32)]) (rest := []) ⟨hx, hb, hml, hown, hts⟩ (c_X7_goes l dC dI cy ad H.size mti mow mjo mta mba mib mdi mab mbe mpl mbs mro mlo mth (1 : Int32) (1 : Int32) (1 : Int32) _ _ hm) (cwV 3 hts gX7_time_X7_goes rfl rfl rfl (by decide +kernel) ⟨Nat.le_of_ble_eq_true rfl, Nat.le_of_ble_eq_true rfl⟩) ⟨cPre_blind, va_recv hK hP (ci := 7) (q0 := 0) rfl rfl, fun U hU hW => ⟨rfl, cPre_at hP hK hD hN hU hW⟩⟩ rfl rfl hl.1 rfl (lv_room (Nat.le_of_ble_eq_true rfl)) dX7_time_23 ⟨Nat.zero_le _, Nat.zero_le _⟩) hS (fun q _ h => hFc q h) hFc (fun r_13 u t H locs ht hvm hw hB hz1 hk1 hS => ?_)
      obtain ⟨mth_14, rfl⟩ : ∃ z, z = u := ⟨_, rfl⟩
      try dsimp only at hw
      obtain ⟨hm, nar_r_13⟩ := hw
      have hP : va_P (dC, dI) vwCl (wM ad cy mti mow mjo mta mba mib mdi mab mbe mpl mbs mro mlo mth_14) H := cPost_P ht hB
      have hD : va_D A (wM ad cy mti mow mjo mta mba mib mdi mab mbe mpl mbs mro mlo mth_14) := cPost_D hFc hB
      refine lv_if_eq (tgt := 42) hx hb dX7_time_26 (by decide) (fun c_15 => ?_) (fun c_15 => ?_)
      · have hm := hm.1 c_15
        refine lv_iconst (v := 0) hx hb dX7_time_42 (by decide) ?_
        exact hret (0 : Int32) mth_14 H locs ls 43 dX7_time_43 ⟨hP, hD, hS⟩ hm
      · have hm := hm.2 c_15
        refine lv_aload_n hx hb dX7_time_29 rfl (lv_at hl 0 rfl) ?_
        refine va_get (D := (dC, dI)) (ci := 7) (v := .ref (ad 1)) (C := RX7) (T := TX7) (N := 14) hx hb hts in_X7_time_X7 hown hK hP 0 rfl rfl 0 (by decide) (hts _ fl_X7_time_7) (fun _ h9 => h9) rfl dX7_time_30 ?_
        refine lv_iconst (v := 3) hx hb dX7_time_33 (by decide) ?_
        refine lv_iload_n hx hb dX7_time_34 rfl (lv_at hl 1 rfl) ?_
        refine lv_imul hx hb dX7_time_35 ?_
        refine lv_iload_n hx hb dX7_time_36 rfl (lv_at hl 2 rfl) ?_
        refine lv_iadd hx hb dX7_time_37 ?_
        have hi_16 := hm.1
        have hm := hm.2
        refine va_iald hx hb hK hP 1 0 rfl rfl hi_16 dX7_time_38 ?_
        refine lv_goto (tgt := 43) hx hb dX7_time_39 (by decide) ?_
        exact hret (mti (((3 : Int32) * x1) + x2).toNatClampNeg) mth_14 H locs ls 43 dX7_time_43 ⟨hP, hD, hS⟩ hm

set_option maxHeartbeats 4000000 in
set_option maxRecDepth 100000 in
theorem c_X7_time (l : Launch) (dC : Nat → ClassId) (dI : Nat → Nat → Nat) (cy : Nat → ClassId) (ad : Nat → Nat) (sz : Nat) (mti : Nat → Int32) (mow : Nat → Int32) (mjo : Int32) (mta : Nat → Int64) (mba : Nat → Int32) (mib : Nat → Int32) (mdi : Int64) (mab : Nat → Int64) (mbe : Nat → Int64) (mpl : Nat → Int32) (mbs : Nat → Int32) (mro : Nat → Int32) (mlo : Nat → Int32) (mth : Int32) (x1 : Int32) (x2 : Int32) (N : Nat) (Q : Int32 → Int32 → Prop) (hm : p_X7_time N mti mjo Q x1 x2 mth) : Met l yX7_time wsX7_time rmX7_time (va_Pc [.ref (ad 0), .int x1, .int x2] (cPre dC dI cy (wM ad cy mti mow mjo mta mba mib mdi mab mbe mpl mbs mro mlo mth) sz)) (va_Qi (fun (r : Int32) (u : Int32) => Q r u) (fun u t => cPost dC dI cy (wM ad cy mti mow mjo mta mba mib mdi mab mbe mpl mbs mro mlo mth) sz (wM ad cy mti mow mjo mta mba mib mdi mab mbe mpl mbs mro mlo u) t) (va_A (wM ad cy mti mow mjo mta mba mib mdi mab mbe mpl mbs mro mlo mth) sz)) 0 0 (va_A (wM ad cy mti mow mjo mta mba mib mdi mab mbe mpl mbs mro mlo mth) sz) := by
  refine Met.ofW (cc := cX7_time) (maxL := 3) (ret := (some .int)) (by decide) rfl ?_
  intro p e s m args below meth c s₁ B hml hv
  obtain ⟨rfl, hsz, hP, hK, hD0, hN⟩ := hv
  have hts := atoms_spec (ws := wsX7_time) B.pre
  have hown : s.vm.findClass RX7 = some m.cls := findClass_of_methodNamed B.named
  subst hsz
  have hD := hD0.self (sz := s.heap.size)
  generalize hAe : va_A (wM ad cy mti mow mjo mta mba mib mdi mab mbe mpl mbs mro mlo mth) s.heap.size = A at hD ⊢
  have hA : ∀ q : Nat, s.heap.size ≤ q → A q := fun q h => by rw [← hAe]; exact Or.inr h
  have hl := lv_entry ([.ref (ad 0), .int x1, .int x2]) (n := 3) (Nat.le_of_ble_eq_true rfl)
  rw [lg_entry_eq]
  generalize (lg_sl ([.ref (ad 0), .int x1, .int x2]) ++ List.replicate (3 - (lg_sl ([.ref (ad 0), .int x1, .int x2])).length) Slot.unset).toArray = ls at hl ⊢
  have hl : lv_has ls 3 [(0, .ref (ad 0)), (1, .int x1), (2, .int x2)] := hl
  exact k_X7_time_0 ⟨B.exec, B.bytes, hml, B.returns, hown, hts, B.notSynchronized, hK, hA, hN⟩ x1 x2 mth s.heap [] ls hm ⟨hP, hD, va_S.rf⟩ (lv_sub hl [0, 1, 2] rfl) (fun r mth H locs ls pc hdg hSt hq => W.iret B.exec B.bytes B.returns (fun t ht hW => ⟨⟨r, (mth), rfl, hq, cPost_of hAe ht hW.alike hSt hK⟩, hSt.2.2.F ht⟩) hSt.2.2.2.2 hdg B.notSynchronized)

-- ===== X7_assign
theorem fl_X7_assign_7 : Cond.fieldLink RX7 7 "UnlikeUnionModel" "time" "[I" ∈ wsX7_assign := by decide +kernel
theorem fl_X7_assign_13 : Cond.fieldLink RX7 13 "UnlikeUnionModel" "own" "[I" ∈ wsX7_assign := by decide +kernel
theorem in_X7_assign_X7 : ∀ w ∈ u_ws RX7 TX7 14, w ∈ wsX7_assign := by decide +kernel
abbrev rmX7_assign : Room := { frames := 2, cells := 0, slots := 0, locals := 147 }
def p_X7_assign_20 (N : Nat) (mti : Nat → Int32) (mjo : Int32) (Q : Int32 → (Nat → Int32) → Int32 → Prop) (x1 : Int32) (x2 : Int32) (s0 : Int32) (mow : Nat → Int32) (mth : Int32) : Prop :=
  (s0 = 0 → (p_X7_goes N (fun r_2 mth_3 => (r_2 = 0 → (Q (0 : Int32) mow mth_3)) ∧ (¬ r_2 = 0 → (vp_in x1 7 ∧ (∀ x4_6 : Int32, x4_6 = mow (x1).toNatClampNeg → (vp_in x1 7 ∧ (Q x4_6 (upd mow (x1).toNatClampNeg x2) mth_3)))))) s0 (0 : Int32) (1 : Int32) mth)) ∧ (¬ s0 = 0 → (vp_in (((3 : Int32) * x1) + x2) 21 ∧ (((mti (((3 : Int32) * x1) + x2).toNatClampNeg) ≤ 0 → (p_X7_goes N (fun r_10 mth_11 => (r_10 = 0 → (Q (0 : Int32) mow mth_11)) ∧ (¬ r_10 = 0 → (vp_in x1 7 ∧ (∀ x4_14 : Int32, x4_14 = mow (x1).toNatClampNeg → (vp_in x1 7 ∧ (Q x4_14 (upd mow (x1).toNatClampNeg x2) mth_11)))))) s0 (0 : Int32) (1 : Int32) mth)) ∧ (¬ (mti (((3 : Int32) * x1) + x2).toNatClampNeg) ≤ 0 → (p_X7_goes N (fun r_16 mth_17 => (r_16 = 0 → (Q (0 : Int32) mow mth_17)) ∧ (¬ r_16 = 0 → (vp_in x1 7 ∧ (∀ x4_20 : Int32, x4_20 = mow (x1).toNatClampNeg → (vp_in x1 7 ∧ (Q x4_20 (upd mow (x1).toNatClampNeg x2) mth_17)))))) s0 (1 : Int32) (1 : Int32) mth)))))

def p_X7_assign (N : Nat) (mti : Nat → Int32) (mjo : Int32) (Q : Int32 → (Nat → Int32) → Int32 → Prop) (x1 : Int32) (x2 : Int32) (mow : Nat → Int32) (mth : Int32) : Prop :=
  p_X7_isJob N mjo (fun r_1 => (r_1 = 0 → (p_X7_assign_20 N mti mjo Q x1 x2 (0 : Int32) mow mth)) ∧ (¬ r_1 = 0 → (p_X7_isMachine N (fun r_3 => (r_3 = 0 → (p_X7_assign_20 N mti mjo Q x1 x2 (0 : Int32) mow mth)) ∧ (¬ r_3 = 0 → (p_X7_assign_20 N mti mjo Q x1 x2 (1 : Int32) mow mth))) x2))) x1

set_option maxHeartbeats 4000000 in
set_option maxRecDepth 100000 in
theorem k_X7_assign_20 {N : Nat} {mti : Nat → Int32} {mjo : Int32} {mta : Nat → Int64} {mba : Nat → Int32} {mib : Nat → Int32} {mdi : Int64} {mab : Nat → Int64} {mbe : Nat → Int64} {mpl : Nat → Int32} {mbs : Nat → Int32} {mro : Nat → Int32} {mlo : Nat → Int32} {Q : Int32 → (Nat → Int32) → Int32 → Prop} (C0 : cxM cX7_assign 5 (some .int) RX7 wsX7_assign p s m args meth c dC dI cy A) :
    ∀ (x1 : Int32) (x2 : Int32) (s0 : Int32) (mow : Nat → Int32) (mth : Int32) (H : Heap) (locs : List Loc) (ls : Array Slot) (hm : p_X7_assign_20 N mti mjo Q x1 x2 s0 mow mth) (hSt : stC dC dI A s (wM ad cy mti mow mjo mta mba mib mdi mab mbe mpl mbs mro mlo mth) H locs) (hl : lv_has ls 5 [(0, .ref (ad 0)), (1, .int x1), (2, .int x2)]) (hret : ∀ (r : Int32) (mow : Nat → Int32) (mth : Int32) (H : Heap) (locs : List Loc) (ls : Array Slot) (pc : Nat), decode cX7_assign pc = .ok (.ireturn, 1) → stC dC dI A s (wM ad cy mti mow mjo mta mba mib mdi mab mbe mpl mbs mro mlo mth) H locs → Q r mow mth → W p l e rmX7_assign s m args below meth c H locs 0 0 Z (F0 m pc ls [.int r])), W p l e rmX7_assign s m args below meth c H locs 0 0 Z (F0 m 20 ls [.int s0]) := by
  obtain ⟨hx, hb, hml, hr, hown, hts, hlocks, hK, hA, hN⟩ := id C0
  intro x1 x2 s0 mow mth H locs ls hm hSt hl hret
  obtain ⟨hP, hD, hS⟩ := hSt
  unfold p_X7_assign_20 at hm
  refine lv_istore_n (lv' := [(3, .int s0), (0, .ref (ad 0)), (1, .int x1), (2, .int x2)]) hx hb dX7_assign_20 rfl hl (by decide) rfl (fun ls hl => ?_)
  refine lv_aload_n hx hb dX7_assign_21 rfl (lv_at hl 1 rfl) ?_
  refine lv_iload_n hx hb dX7_assign_22 rfl (lv_at hl 0 rfl) ?_
  refine lv_iload_n hx hb dX7_assign_23 rfl (lv_at hl 0 rfl) ?_
  refine lv_if_eq (tgt := 44) hx hb dX7_assign_24 (by decide) (fun c_1 => ?_) (fun c_1 => ?_)
  · have hm := hm.1 c_1
    refine lv_iconst (v := 0) hx hb dX7_assign_44 (by decide) ?_
    refine lv_iconst (v := 1) hx hb dX7_assign_45 (by decide) ?_
    have hFc := va_freeSame hD hS hA
    refine va_calli (va_runV (As := [.int s0, .int (0 : Int32), .int (1 : Int32)]) (rest := []) ⟨hx, hb, hml, hown, hts⟩ (c_X7_goes l dC dI cy ad H.size mti mow mjo mta mba mib mdi mab mbe mpl mbs mro mlo mth s0 (0 : Int32) (1 : Int32) _ _ hm) (cwV 3 hts gX7_assign_X7_goes rfl rfl rfl (by decide +kernel) ⟨Nat.le_of_ble_eq_true rfl, Nat.le_of_ble_eq_true rfl⟩) ⟨cPre_blind, va_recv hK hP (ci := 7) (q0 := 0) rfl rfl, fun U hU hW => ⟨rfl, cPre_at hP hK hD hN hU hW⟩⟩ rfl rfl hl.1 rfl (lv_room (Nat.le_of_ble_eq_true rfl)) dX7_assign_46 ⟨Nat.zero_le _, Nat.zero_le _⟩) hS (fun q _ h => hFc q h) hFc (fun r_2 u t H locs ht hvm hw hB hz1 hk1 hS => ?_)
    obtain ⟨mth_3, rfl⟩ : ∃ z, z = u := ⟨_, rfl⟩
    try dsimp only at hw
    obtain ⟨hm, nar_r_2⟩ := hw
    have hP : va_P (dC, dI) vwCl (wM ad cy mti mow mjo mta mba mib mdi mab mbe mpl mbs mro mlo mth_3) H := cPost_P ht hB
    have hD : va_D A (wM ad cy mti mow mjo mta mba mib mdi mab mbe mpl mbs mro mlo mth_3) := cPost_D hFc hB
    refine lv_if_ne (tgt := 54) hx hb dX7_assign_49 (by decide) (fun c_4 => ?_) (fun c_4 => ?_)
    · have hm := hm.2 c_4
      refine lv_aload_n hx hb dX7_assign_54 rfl (lv_at hl 1 rfl) ?_
      refine va_get (D := (dC, dI)) (ci := 7) (v := .ref (ad 2)) (C := RX7) (T := TX7) (N := 14) hx hb hts in_X7_assign_X7 hown hK hP 0 rfl rfl 1 (by decide) (hts _ fl_X7_assign_13) (fun _ h9 => h9) rfl dX7_assign_55 ?_
      refine lv_iload_n hx hb dX7_assign_58 rfl (lv_at hl 2 rfl) ?_
      have hi_5 := hm.1
      have hm := hm.2
      refine va_iald hx hb hK hP 2 0 rfl rfl hi_5 dX7_assign_59 ?_
      refine lv_topi (fun x4_6 ex4_6 => ?_)
      have hm := hm x4_6 ex4_6
      refine lv_istore (lv' := [(4, .int x4_6), (3, .int s0), (0, .ref (ad 0)), (1, .int x1), (2, .int x2)]) hx hb dX7_assign_60 hl (by decide) rfl (fun ls hl => ?_)
      refine lv_aload_n hx hb dX7_assign_62 rfl (lv_at hl 2 rfl) ?_
      refine va_get (D := (dC, dI)) (ci := 7) (v := .ref (ad 2)) (C := RX7) (T := TX7) (N := 14) hx hb hts in_X7_assign_X7 hown hK hP 0 rfl rfl 1 (by decide) (hts _ fl_X7_assign_13) (fun _ h9 => h9) rfl dX7_assign_63 ?_
      refine lv_iload_n hx hb dX7_assign_66 rfl (lv_at hl 3 rfl) ?_
      refine lv_iload_n hx hb dX7_assign_67 rfl (lv_at hl 4 rfl) ?_
      have hi_7 := hm.1
      have hm := hm.2
      refine va_iast hx hb hK hP hD hS 2 0 rfl rfl hi_7 dX7_assign_68 (fun H locs hP hD hS => ?_)
      have hP : va_P (dC, dI) vwCl (wM ad cy mti (upd mow (x1).toNatClampNeg x2) mjo mta mba mib mdi mab mbe mpl mbs mro mlo mth_3) H := hP
      have hD : va_D A (wM ad cy mti (upd mow (x1).toNatClampNeg x2) mjo mta mba mib mdi mab mbe mpl mbs mro mlo mth_3) := hD
      refine lv_iload hx hb dX7_assign_69 (lv_at hl 0 rfl) ?_
      exact hret x4_6 (upd mow (x1).toNatClampNeg x2) mth_3 H locs ls 71 dX7_assign_71 ⟨hP, hD, hS⟩ hm
    · have hm := hm.1 c_4
      refine lv_iconst (v := 0) hx hb dX7_assign_52 (by decide) ?_
      exact hret (0 : Int32) mow mth_3 H locs ls 53 dX7_assign_53 ⟨hP, hD, hS⟩ hm
  · have hm := hm.2 c_1
    refine lv_aload_n hx hb dX7_assign_27 rfl (lv_at hl 1 rfl) ?_
    refine va_get (D := (dC, dI)) (ci := 7) (v := .ref (ad 1)) (C := RX7) (T := TX7) (N := 14) hx hb hts in_X7_assign_X7 hown hK hP 0 rfl rfl 0 (by decide) (hts _ fl_X7_assign_7) (fun _ h9 => h9) rfl dX7_assign_28 ?_
    refine lv_iconst (v := 3) hx hb dX7_assign_31 (by decide) ?_
    refine lv_iload_n hx hb dX7_assign_32 rfl (lv_at hl 2 rfl) ?_
    refine lv_imul hx hb dX7_assign_33 ?_
    refine lv_iload_n hx hb dX7_assign_34 rfl (lv_at hl 3 rfl) ?_
    refine lv_iadd hx hb dX7_assign_35 ?_
    have hi_8 := hm.1
    have hm := hm.2
    refine va_iald hx hb hK hP 1 0 rfl rfl hi_8 dX7_assign_36 ?_
    refine lv_if_le (tgt := 44) hx hb dX7_assign_37 (by decide) (fun c_9 => ?_) (fun c_9 => ?_)
    · have hm := hm.1 c_9
      refine lv_iconst (v := 0) hx hb dX7_assign_44 (by decide) ?_
      refine lv_iconst (v := 1) hx hb dX7_assign_45 (by decide) ?_
      have hFc := va_freeSame hD hS hA
      refine va_calli (va_runV (As := [.int s0, .int (0 : Int32), .int (1 : Int32)]) (rest := []) ⟨hx, hb, hml, hown, hts⟩ (c_X7_goes l dC dI cy ad H.size mti mow mjo mta mba mib mdi mab mbe mpl mbs mro mlo mth s0 (0 : Int32) (1 : Int32) _ _ hm) (cwV 3 hts gX7_assign_X7_goes rfl rfl rfl (by decide +kernel) ⟨Nat.le_of_ble_eq_true rfl, Nat.le_of_ble_eq_true rfl⟩) ⟨cPre_blind, va_recv hK hP (ci := 7) (q0 := 0) rfl rfl, fun U hU hW => ⟨rfl, cPre_at hP hK hD hN hU hW⟩⟩ rfl rfl hl.1 rfl (lv_room (Nat.le_of_ble_eq_true rfl)) dX7_assign_46 ⟨Nat.zero_le _, Nat.zero_le _⟩) hS (fun q _ h => hFc q h) hFc (fun r_10 u t H locs ht hvm hw hB hz1 hk1 hS => ?_)
      obtain ⟨mth_11, rfl⟩ : ∃ z, z = u := ⟨_, rfl⟩
      try dsimp only at hw
      obtain ⟨hm, nar_r_10⟩ := hw
      have hP : va_P (dC, dI) vwCl (wM ad cy mti mow mjo mta mba mib mdi mab mbe mpl mbs mro mlo mth_11) H := cPost_P ht hB
      have hD : va_D A (wM ad cy mti mow mjo mta mba mib mdi mab mbe mpl mbs mro mlo mth_11) := cPost_D hFc hB
      refine lv_if_ne (tgt := 54) hx hb dX7_assign_49 (by decide) (fun c_12 => ?_) (fun c_12 => ?_)
      · have hm := hm.2 c_12
        refine lv_aload_n hx hb dX7_assign_54 rfl (lv_at hl 1 rfl) ?_
        refine va_get (D := (dC, dI)) (ci := 7) (v := .ref (ad 2)) (C := RX7) (T := TX7) (N := 14) hx hb hts in_X7_assign_X7 hown hK hP 0 rfl rfl 1 (by decide) (hts _ fl_X7_assign_13) (fun _ h9 => h9) rfl dX7_assign_55 ?_
        refine lv_iload_n hx hb dX7_assign_58 rfl (lv_at hl 2 rfl) ?_
        have hi_13 := hm.1
        have hm := hm.2
        refine va_iald hx hb hK hP 2 0 rfl rfl hi_13 dX7_assign_59 ?_
        refine lv_topi (fun x4_14 ex4_14 => ?_)
        have hm := hm x4_14 ex4_14
        refine lv_istore (lv' := [(4, .int x4_14), (3, .int s0), (0, .ref (ad 0)), (1, .int x1), (2, .int x2)]) hx hb dX7_assign_60 hl (by decide) rfl (fun ls hl => ?_)
        refine lv_aload_n hx hb dX7_assign_62 rfl (lv_at hl 2 rfl) ?_
        refine va_get (D := (dC, dI)) (ci := 7) (v := .ref (ad 2)) (C := RX7) (T := TX7) (N := 14) hx hb hts in_X7_assign_X7 hown hK hP 0 rfl rfl 1 (by decide) (hts _ fl_X7_assign_13) (fun _ h9 => h9) rfl dX7_assign_63 ?_
        refine lv_iload_n hx hb dX7_assign_66 rfl (lv_at hl 3 rfl) ?_
        refine lv_iload_n hx hb dX7_assign_67 rfl (lv_at hl 4 rfl) ?_
        have hi_15 := hm.1
        have hm := hm.2
        refine va_iast hx hb hK hP hD hS 2 0 rfl rfl hi_15 dX7_assign_68 (fun H locs hP hD hS => ?_)
        have hP : va_P (dC, dI) vwCl (wM ad cy mti (upd mow (x1).toNatClampNeg x2) mjo mta mba mib mdi mab mbe mpl mbs mro mlo mth_11) H := hP
        have hD : va_D A (wM ad cy mti (upd mow (x1).toNatClampNeg x2) mjo mta mba mib mdi mab mbe mpl mbs mro mlo mth_11) := hD
        refine lv_iload hx hb dX7_assign_69 (lv_at hl 0 rfl) ?_
        exact hret x4_14 (upd mow (x1).toNatClampNeg x2) mth_11 H locs ls 71 dX7_assign_71 ⟨hP, hD, hS⟩ hm
      · have hm := hm.1 c_12
        refine lv_iconst (v := 0) hx hb dX7_assign_52 (by decide) ?_
        exact hret (0 : Int32) mow mth_11 H locs ls 53 dX7_assign_53 ⟨hP, hD, hS⟩ hm
    · have hm := hm.2 c_9
      refine lv_iconst (v := 1) hx hb dX7_assign_40 (by decide) ?_
      refine lv_goto (tgt := 45) hx hb dX7_assign_41 (by decide) ?_
      refine lv_iconst (v := 1) hx hb dX7_assign_45 (by decide) ?_
      have hFc := va_freeSame hD hS hA
      refine va_calli (va_runV (As := [.int s0, .int (1 : Int32), .int (1 : Int32)]) (rest := []) ⟨hx, hb, hml, hown, hts⟩ (c_X7_goes l dC dI cy ad H.size mti mow mjo mta mba mib mdi mab mbe mpl mbs mro mlo mth s0 (1 : Int32) (1 : Int32) _ _ hm) (cwV 3 hts gX7_assign_X7_goes rfl rfl rfl (by decide +kernel) ⟨Nat.le_of_ble_eq_true rfl, Nat.le_of_ble_eq_true rfl⟩) ⟨cPre_blind, va_recv hK hP (ci := 7) (q0 := 0) rfl rfl, fun U hU hW => ⟨rfl, cPre_at hP hK hD hN hU hW⟩⟩ rfl rfl hl.1 rfl (lv_room (Nat.le_of_ble_eq_true rfl)) dX7_assign_46 ⟨Nat.zero_le _, Nat.zero_le _⟩) hS (fun q _ h => hFc q h) hFc (fun r_16 u t H locs ht hvm hw hB hz1 hk1 hS => ?_)
      obtain ⟨mth_17, rfl⟩ : ∃ z, z = u := ⟨_, rfl⟩
      try dsimp only at hw
      obtain ⟨hm, nar_r_16⟩ := hw
      have hP : va_P (dC, dI) vwCl (wM ad cy mti mow mjo mta mba mib mdi mab mbe mpl mbs mro mlo mth_17) H := cPost_P ht hB
      have hD : va_D A (wM ad cy mti mow mjo mta mba mib mdi mab mbe mpl mbs mro mlo mth_17) := cPost_D hFc hB
      refine lv_if_ne (tgt := 54) hx hb dX7_assign_49 (by decide) (fun c_18 => ?_) (fun c_18 => ?_)
      · have hm := hm.2 c_18
        refine lv_aload_n hx hb dX7_assign_54 rfl (lv_at hl 1 rfl) ?_
        refine va_get (D := (dC, dI)) (ci := 7) (v := .ref (ad 2)) (C := RX7) (T := TX7) (N := 14) hx hb hts in_X7_assign_X7 hown hK hP 0 rfl rfl 1 (by decide) (hts _ fl_X7_assign_13) (fun _ h9 => h9) rfl dX7_assign_55 ?_
        refine lv_iload_n hx hb dX7_assign_58 rfl (lv_at hl 2 rfl) ?_
        have hi_19 := hm.1
        have hm := hm.2
        refine va_iald hx hb hK hP 2 0 rfl rfl hi_19 dX7_assign_59 ?_
        refine lv_topi (fun x4_20 ex4_20 => ?_)
        have hm := hm x4_20 ex4_20
        refine lv_istore (lv' := [(4, .int x4_20), (3, .int s0), (0, .ref (ad 0)), (1, .int x1), (2, .int x2)]) hx hb dX7_assign_60 hl (by decide) rfl (fun ls hl => ?_)
        refine lv_aload_n hx hb dX7_assign_62 rfl (lv_at hl 2 rfl) ?_
        refine va_get (D := (dC, dI)) (ci := 7) (v := .ref (ad 2)) (C := RX7) (T := TX7) (N := 14) hx hb hts in_X7_assign_X7 hown hK hP 0 rfl rfl 1 (by decide) (hts _ fl_X7_assign_13) (fun _ h9 => h9) rfl dX7_assign_63 ?_
        refine lv_iload_n hx hb dX7_assign_66 rfl (lv_at hl 3 rfl) ?_
        refine lv_iload_n hx hb dX7_assign_67 rfl (lv_at hl 4 rfl) ?_
        have hi_21 := hm.1
        have hm := hm.2
        refine va_iast hx hb hK hP hD hS 2 0 rfl rfl hi_21 dX7_assign_68 (fun H locs hP hD hS => ?_)
        have hP : va_P (dC, dI) vwCl (wM ad cy mti (upd mow (x1).toNatClampNeg x2) mjo mta mba mib mdi mab mbe mpl mbs mro mlo mth_17) H := hP
        have hD : va_D A (wM ad cy mti (upd mow (x1).toNatClampNeg x2) mjo mta mba mib mdi mab mbe mpl mbs mro mlo mth_17) := hD
        refine lv_iload hx hb dX7_assign_69 (lv_at hl 0 rfl) ?_
        exact hret x4_20 (upd mow (x1).toNatClampNeg x2) mth_17 H locs ls 71 dX7_assign_71 ⟨hP, hD, hS⟩ hm
      · have hm := hm.1 c_18
        refine lv_iconst (v := 0) hx hb dX7_assign_52 (by decide) ?_
        exact hret (0 : Int32) mow mth_17 H locs ls 53 dX7_assign_53 ⟨hP, hD, hS⟩ hm

set_option maxHeartbeats 4000000 in
set_option maxRecDepth 100000 in
theorem k_X7_assign_0 {N : Nat} {mti : Nat → Int32} {mjo : Int32} {mta : Nat → Int64} {mba : Nat → Int32} {mib : Nat → Int32} {mdi : Int64} {mab : Nat → Int64} {mbe : Nat → Int64} {mpl : Nat → Int32} {mbs : Nat → Int32} {mro : Nat → Int32} {mlo : Nat → Int32} {Q : Int32 → (Nat → Int32) → Int32 → Prop} (C0 : cxM cX7_assign 5 (some .int) RX7 wsX7_assign p s m args meth c dC dI cy A) :
    ∀ (x1 : Int32) (x2 : Int32) (mow : Nat → Int32) (mth : Int32) (H : Heap) (locs : List Loc) (ls : Array Slot) (hm : p_X7_assign N mti mjo Q x1 x2 mow mth) (hSt : stC dC dI A s (wM ad cy mti mow mjo mta mba mib mdi mab mbe mpl mbs mro mlo mth) H locs) (hl : lv_has ls 5 [(0, .ref (ad 0)), (1, .int x1), (2, .int x2)]) (hret : ∀ (r : Int32) (mow : Nat → Int32) (mth : Int32) (H : Heap) (locs : List Loc) (ls : Array Slot) (pc : Nat), decode cX7_assign pc = .ok (.ireturn, 1) → stC dC dI A s (wM ad cy mti mow mjo mta mba mib mdi mab mbe mpl mbs mro mlo mth) H locs → Q r mow mth → W p l e rmX7_assign s m args below meth c H locs 0 0 Z (F0 m pc ls [.int r])), W p l e rmX7_assign s m args below meth c H locs 0 0 Z (F0 m 0 ls []) := by
  obtain ⟨hx, hb, hml, hr, hown, hts, hlocks, hK, hA, hN⟩ := id C0
  intro x1 x2 mow mth H locs ls hm hSt hl hret
  obtain ⟨hP, hD, hS⟩ := hSt
  unfold p_X7_assign at hm
  refine lv_aload_n hx hb dX7_assign_0 rfl (lv_at hl 0 rfl) ?_
  refine lv_iload_n hx hb dX7_assign_1 rfl (lv_at hl 1 rfl) ?_
  have hFc := va_freeSame hD hS hA
  refine va_calli (va_runV (As := [.int x1]) (rest := []) ⟨hx, hb, hml, hown, hts⟩ (c_X7_isJob l dC dI cy ad H.size mti mow mjo mta mba mib mdi mab mbe mpl mbs mro mlo mth x1 _ _ hm) (cwV 1 hts gX7_assign_X7_isJob rfl rfl rfl (by decide +kernel) ⟨Nat.le_of_ble_eq_true rfl, Nat.le_of_ble_eq_true rfl⟩) ⟨cPre_blind, va_recv hK hP (ci := 7) (q0 := 0) rfl rfl, fun U hU hW => ⟨rfl, cPre_at hP hK hD hN hU hW⟩⟩ rfl rfl hl.1 rfl (lv_room (Nat.le_of_ble_eq_true rfl)) dX7_assign_2 ⟨Nat.zero_le _, Nat.zero_le _⟩) hS (fun q _ h => hFc q h) hFc (fun r_1 u t H locs ht hvm hw hB hz1 hk1 hS => ?_)
  try dsimp only at hw
  obtain ⟨hm, nar_r_1⟩ := hw
  have hP : va_P (dC, dI) vwCl (wM ad cy mti mow mjo mta mba mib mdi mab mbe mpl mbs mro mlo mth) H := cPost_P ht hB
  have hD : va_D A (wM ad cy mti mow mjo mta mba mib mdi mab mbe mpl mbs mro mlo mth) := cPost_D hFc hB
  refine lv_if_eq (tgt := 19) hx hb dX7_assign_5 (by decide) (fun c_2 => ?_) (fun c_2 => ?_)
  · have hm := hm.1 c_2
    refine lv_iconst (v := 0) hx hb dX7_assign_19 (by decide) ?_
    exact k_X7_assign_20 C0 x1 x2 (0 : Int32) mow mth H locs ls hm ⟨hP, hD, hS⟩ (lv_sub hl [0, 1, 2] rfl) hret
  · have hm := hm.2 c_2
    refine lv_iload_n hx hb dX7_assign_8 rfl (lv_at hl 2 rfl) ?_
    have hFc := va_freeSame hD hS hA
    refine va_calli (va_runS (As := [.int x2]) (rest := []) ⟨hx, hb, hml, hown, hts⟩ (c_X7_isMachine l dC dI cy ad H.size mti mow mjo mta mba mib mdi mab mbe mpl mbs mro mlo mth x2 _ _ hm) (cwS 1 hts gX7_assign_X7_isMachine rfl rfl rfl (by decide +kernel) ⟨Nat.le_of_ble_eq_true rfl, Nat.le_of_ble_eq_true rfl⟩) ⟨cPre_blind, fun U hU hW => ⟨rfl, cPre_at hP hK hD hN hU hW⟩⟩ rfl rfl hl.1 rfl (lv_room (Nat.le_of_ble_eq_true rfl)) dX7_assign_9 ⟨Nat.zero_le _, Nat.zero_le _⟩) hS (fun q _ h => hFc q h) hFc (fun r_3 u t H locs ht hvm hw hB hz1 hk1 hS => ?_)
    try dsimp only at hw
    obtain ⟨hm, nar_r_3⟩ := hw
    have hP : va_P (dC, dI) vwCl (wM ad cy mti mow mjo mta mba mib mdi mab mbe mpl mbs mro mlo mth) H := cPost_P ht hB
    have hD : va_D A (wM ad cy mti mow mjo mta mba mib mdi mab mbe mpl mbs mro mlo mth) := cPost_D hFc hB
    refine lv_if_eq (tgt := 19) hx hb dX7_assign_12 (by decide) (fun c_4 => ?_) (fun c_4 => ?_)
    · have hm := hm.1 c_4
      refine lv_iconst (v := 0) hx hb dX7_assign_19 (by decide) ?_
      exact k_X7_assign_20 C0 x1 x2 (0 : Int32) mow mth H locs ls hm ⟨hP, hD, hS⟩ (lv_sub hl [0, 1, 2] rfl) hret
    · have hm := hm.2 c_4
      refine lv_iconst (v := 1) hx hb dX7_assign_15 (by decide) ?_
      refine lv_goto (tgt := 20) hx hb dX7_assign_16 (by decide) ?_
      exact k_X7_assign_20 C0 x1 x2 (1 : Int32) mow mth H locs ls hm ⟨hP, hD, hS⟩ (lv_sub hl [0, 1, 2] rfl) hret

set_option maxHeartbeats 4000000 in
set_option maxRecDepth 100000 in
theorem c_X7_assign (l : Launch) (dC : Nat → ClassId) (dI : Nat → Nat → Nat) (cy : Nat → ClassId) (ad : Nat → Nat) (sz : Nat) (mti : Nat → Int32) (mow : Nat → Int32) (mjo : Int32) (mta : Nat → Int64) (mba : Nat → Int32) (mib : Nat → Int32) (mdi : Int64) (mab : Nat → Int64) (mbe : Nat → Int64) (mpl : Nat → Int32) (mbs : Nat → Int32) (mro : Nat → Int32) (mlo : Nat → Int32) (mth : Int32) (x1 : Int32) (x2 : Int32) (N : Nat) (Q : Int32 → (Nat → Int32) → Int32 → Prop) (hm : p_X7_assign N mti mjo Q x1 x2 mow mth) : Met l yX7_assign wsX7_assign rmX7_assign (va_Pc [.ref (ad 0), .int x1, .int x2] (cPre dC dI cy (wM ad cy mti mow mjo mta mba mib mdi mab mbe mpl mbs mro mlo mth) sz)) (va_Qi (fun (r : Int32) (u : (Nat → Int32) × Int32) => Q r u.1 u.2) (fun u t => cPost dC dI cy (wM ad cy mti mow mjo mta mba mib mdi mab mbe mpl mbs mro mlo mth) sz (wM ad cy mti (u.1) mjo mta mba mib mdi mab mbe mpl mbs mro mlo (u.2)) t) (va_A (wM ad cy mti mow mjo mta mba mib mdi mab mbe mpl mbs mro mlo mth) sz)) 0 0 (va_A (wM ad cy mti mow mjo mta mba mib mdi mab mbe mpl mbs mro mlo mth) sz) := by
  refine Met.ofW (cc := cX7_assign) (maxL := 5) (ret := (some .int)) (by decide) rfl ?_
  intro p e s m args below meth c s₁ B hml hv
  obtain ⟨rfl, hsz, hP, hK, hD0, hN⟩ := hv
  have hts := atoms_spec (ws := wsX7_assign) B.pre
  have hown : s.vm.findClass RX7 = some m.cls := findClass_of_methodNamed B.named
  subst hsz
  have hD := hD0.self (sz := s.heap.size)
  generalize hAe : va_A (wM ad cy mti mow mjo mta mba mib mdi mab mbe mpl mbs mro mlo mth) s.heap.size = A at hD ⊢
  have hA : ∀ q : Nat, s.heap.size ≤ q → A q := fun q h => by rw [← hAe]; exact Or.inr h
  have hl := lv_entry ([.ref (ad 0), .int x1, .int x2]) (n := 5) (Nat.le_of_ble_eq_true rfl)
  rw [lg_entry_eq]
  generalize (lg_sl ([.ref (ad 0), .int x1, .int x2]) ++ List.replicate (5 - (lg_sl ([.ref (ad 0), .int x1, .int x2])).length) Slot.unset).toArray = ls at hl ⊢
  have hl : lv_has ls 5 [(0, .ref (ad 0)), (1, .int x1), (2, .int x2)] := hl
  exact k_X7_assign_0 ⟨B.exec, B.bytes, hml, B.returns, hown, hts, B.notSynchronized, hK, hA, hN⟩ x1 x2 mow mth s.heap [] ls hm ⟨hP, hD, va_S.rf⟩ (lv_sub hl [0, 1, 2] rfl) (fun r mow mth H locs ls pc hdg hSt hq => W.iret B.exec B.bytes B.returns (fun t ht hW => ⟨⟨r, (mow, mth), rfl, hq, cPost_of hAe ht hW.alike hSt hK⟩, hSt.2.2.F ht⟩) hSt.2.2.2.2 hdg B.notSynchronized)

-- ===== X7_machine
theorem fl_X7_machine_13 : Cond.fieldLink RX7 13 "UnlikeUnionModel" "own" "[I" ∈ wsX7_machine := by decide +kernel
theorem in_X7_machine_X7 : ∀ w ∈ u_ws RX7 TX7 14, w ∈ wsX7_machine := by decide +kernel
abbrev rmX7_machine : Room := { frames := 2, cells := 0, slots := 0, locals := 147 }
def p_X7_machine (N : Nat) (mow : Nat → Int32) (mjo : Int32) (Q : Int32 → Int32 → Prop) (x1 : Int32) (mth : Int32) : Prop :=
  p_X7_isJob N mjo (fun r_1 => p_X7_goes N (fun r_2 mth_3 => (r_2 = 0 → (Q (0 : Int32) mth_3)) ∧ (¬ r_2 = 0 → (vp_in x1 7 ∧ (Q (mow (x1).toNatClampNeg) mth_3)))) r_1 (1 : Int32) (1 : Int32) mth) x1

set_option maxHeartbeats 4000000 in
set_option maxRecDepth 100000 in
theorem k_X7_machine_0 {N : Nat} {mti : Nat → Int32} {mow : Nat → Int32} {mjo : Int32} {mta : Nat → Int64} {mba : Nat → Int32} {mib : Nat → Int32} {mdi : Int64} {mab : Nat → Int64} {mbe : Nat → Int64} {mpl : Nat → Int32} {mbs : Nat → Int32} {mro : Nat → Int32} {mlo : Nat → Int32} {Q : Int32 → Int32 → Prop} (C0 : cxM cX7_machine 2 (some .int) RX7 wsX7_machine p s m args meth c dC dI cy A) :
    ∀ (x1 : Int32) (mth : Int32) (H : Heap) (locs : List Loc) (ls : Array Slot) (hm : p_X7_machine N mow mjo Q x1 mth) (hSt : stC dC dI A s (wM ad cy mti mow mjo mta mba mib mdi mab mbe mpl mbs mro mlo mth) H locs) (hl : lv_has ls 2 [(0, .ref (ad 0)), (1, .int x1)]) (hret : ∀ (r : Int32) (mth : Int32) (H : Heap) (locs : List Loc) (ls : Array Slot) (pc : Nat), decode cX7_machine pc = .ok (.ireturn, 1) → stC dC dI A s (wM ad cy mti mow mjo mta mba mib mdi mab mbe mpl mbs mro mlo mth) H locs → Q r mth → W p l e rmX7_machine s m args below meth c H locs 0 0 Z (F0 m pc ls [.int r])), W p l e rmX7_machine s m args below meth c H locs 0 0 Z (F0 m 0 ls []) := by
  obtain ⟨hx, hb, hml, hr, hown, hts, hlocks, hK, hA, hN⟩ := id C0
  intro x1 mth H locs ls hm hSt hl hret
  obtain ⟨hP, hD, hS⟩ := hSt
  unfold p_X7_machine at hm
  refine lv_aload_n hx hb dX7_machine_0 rfl (lv_at hl 0 rfl) ?_
  refine lv_aload_n hx hb dX7_machine_1 rfl (lv_at hl 0 rfl) ?_
  refine lv_iload_n hx hb dX7_machine_2 rfl (lv_at hl 1 rfl) ?_
  have hFc := va_freeSame hD hS hA
  refine va_calli (va_runV (As := [.int x1]) (rest := [.ref (ad 0)]) ⟨hx, hb, hml, hown, hts⟩ (c_X7_isJob l dC dI cy ad H.size mti mow mjo mta mba mib mdi mab mbe mpl mbs mro mlo mth x1 _ _ hm) (cwV 1 hts gX7_machine_X7_isJob rfl rfl rfl (by decide +kernel) ⟨Nat.le_of_ble_eq_true rfl, Nat.le_of_ble_eq_true rfl⟩) ⟨cPre_blind, va_recv hK hP (ci := 7) (q0 := 0) rfl rfl, fun U hU hW => ⟨rfl, cPre_at hP hK hD hN hU hW⟩⟩ rfl rfl hl.1 rfl (lv_room (Nat.le_of_ble_eq_true rfl)) dX7_machine_3 ⟨Nat.zero_le _, Nat.zero_le _⟩) hS (fun q _ h => hFc q h) hFc (fun r_1 u t H locs ht hvm hw hB hz1 hk1 hS => ?_)
  try dsimp only at hw
  obtain ⟨hm, nar_r_1⟩ := hw
  have hP : va_P (dC, dI) vwCl (wM ad cy mti mow mjo mta mba mib mdi mab mbe mpl mbs mro mlo mth) H := cPost_P ht hB
  have hD : va_D A (wM ad cy mti mow mjo mta mba mib mdi mab mbe mpl mbs mro mlo mth) := cPost_D hFc hB
  refine lv_iconst (v := 1) hx hb dX7_machine_6 (by decide) ?_
  refine lv_iconst (v := 1) hx hb dX7_machine_7 (by decide) ?_
  have hFc := va_freeSame hD hS hA
  refine va_calli (va_runV (As := [.int r_1, .int (1 : Int32), .int (1 : Int32)]) (rest := []) ⟨hx, hb, hml, hown, hts⟩ (c_X7_goes l dC dI cy ad H.size mti mow mjo mta mba mib mdi mab mbe mpl mbs mro mlo mth r_1 (1 : Int32) (1 : Int32) _ _ hm) (cwV 3 hts gX7_machine_X7_goes rfl rfl rfl (by decide +kernel) ⟨Nat.le_of_ble_eq_true rfl, Nat.le_of_ble_eq_true rfl⟩) ⟨cPre_blind, va_recv hK hP (ci := 7) (q0 := 0) rfl rfl, fun U hU hW => ⟨rfl, cPre_at hP hK hD hN hU hW⟩⟩ rfl rfl hl.1 rfl (lv_room (Nat.le_of_ble_eq_true rfl)) dX7_machine_8 ⟨Nat.zero_le _, Nat.zero_le _⟩) hS (fun q _ h => hFc q h) hFc (fun r_2 u t H locs ht hvm hw hB hz1 hk1 hS => ?_)
  obtain ⟨mth_3, rfl⟩ : ∃ z, z = u := ⟨_, rfl⟩
  try dsimp only at hw
  obtain ⟨hm, nar_r_2⟩ := hw
  have hP : va_P (dC, dI) vwCl (wM ad cy mti mow mjo mta mba mib mdi mab mbe mpl mbs mro mlo mth_3) H := cPost_P ht hB
  have hD : va_D A (wM ad cy mti mow mjo mta mba mib mdi mab mbe mpl mbs mro mlo mth_3) := cPost_D hFc hB
  refine lv_if_eq (tgt := 23) hx hb dX7_machine_11 (by decide) (fun c_4 => ?_) (fun c_4 => ?_)
  · have hm := hm.1 c_4
    refine lv_iconst (v := 0) hx hb dX7_machine_23 (by decide) ?_
    exact hret (0 : Int32) mth_3 H locs ls 24 dX7_machine_24 ⟨hP, hD, hS⟩ hm
  · have hm := hm.2 c_4
    refine lv_aload_n hx hb dX7_machine_14 rfl (lv_at hl 0 rfl) ?_
    refine va_get (D := (dC, dI)) (ci := 7) (v := .ref (ad 2)) (C := RX7) (T := TX7) (N := 14) hx hb hts in_X7_machine_X7 hown hK hP 0 rfl rfl 1 (by decide) (hts _ fl_X7_machine_13) (fun _ h9 => h9) rfl dX7_machine_15 ?_
    refine lv_iload_n hx hb dX7_machine_18 rfl (lv_at hl 1 rfl) ?_
    have hi_5 := hm.1
    have hm := hm.2
    refine va_iald hx hb hK hP 2 0 rfl rfl hi_5 dX7_machine_19 ?_
    refine lv_goto (tgt := 24) hx hb dX7_machine_20 (by decide) ?_
    exact hret (mow (x1).toNatClampNeg) mth_3 H locs ls 24 dX7_machine_24 ⟨hP, hD, hS⟩ hm

set_option maxHeartbeats 4000000 in
set_option maxRecDepth 100000 in
theorem c_X7_machine (l : Launch) (dC : Nat → ClassId) (dI : Nat → Nat → Nat) (cy : Nat → ClassId) (ad : Nat → Nat) (sz : Nat) (mti : Nat → Int32) (mow : Nat → Int32) (mjo : Int32) (mta : Nat → Int64) (mba : Nat → Int32) (mib : Nat → Int32) (mdi : Int64) (mab : Nat → Int64) (mbe : Nat → Int64) (mpl : Nat → Int32) (mbs : Nat → Int32) (mro : Nat → Int32) (mlo : Nat → Int32) (mth : Int32) (x1 : Int32) (N : Nat) (Q : Int32 → Int32 → Prop) (hm : p_X7_machine N mow mjo Q x1 mth) : Met l yX7_machine wsX7_machine rmX7_machine (va_Pc [.ref (ad 0), .int x1] (cPre dC dI cy (wM ad cy mti mow mjo mta mba mib mdi mab mbe mpl mbs mro mlo mth) sz)) (va_Qi (fun (r : Int32) (u : Int32) => Q r u) (fun u t => cPost dC dI cy (wM ad cy mti mow mjo mta mba mib mdi mab mbe mpl mbs mro mlo mth) sz (wM ad cy mti mow mjo mta mba mib mdi mab mbe mpl mbs mro mlo u) t) (va_A (wM ad cy mti mow mjo mta mba mib mdi mab mbe mpl mbs mro mlo mth) sz)) 0 0 (va_A (wM ad cy mti mow mjo mta mba mib mdi mab mbe mpl mbs mro mlo mth) sz) := by
  refine Met.ofW (cc := cX7_machine) (maxL := 2) (ret := (some .int)) (by decide) rfl ?_
  intro p e s m args below meth c s₁ B hml hv
  obtain ⟨rfl, hsz, hP, hK, hD0, hN⟩ := hv
  have hts := atoms_spec (ws := wsX7_machine) B.pre
  have hown : s.vm.findClass RX7 = some m.cls := findClass_of_methodNamed B.named
  subst hsz
  have hD := hD0.self (sz := s.heap.size)
  generalize hAe : va_A (wM ad cy mti mow mjo mta mba mib mdi mab mbe mpl mbs mro mlo mth) s.heap.size = A at hD ⊢
  have hA : ∀ q : Nat, s.heap.size ≤ q → A q := fun q h => by rw [← hAe]; exact Or.inr h
  have hl := lv_entry ([.ref (ad 0), .int x1]) (n := 2) (Nat.le_of_ble_eq_true rfl)
  rw [lg_entry_eq]
  generalize (lg_sl ([.ref (ad 0), .int x1]) ++ List.replicate (2 - (lg_sl ([.ref (ad 0), .int x1])).length) Slot.unset).toArray = ls at hl ⊢
  have hl : lv_has ls 2 [(0, .ref (ad 0)), (1, .int x1)] := hl
  exact k_X7_machine_0 ⟨B.exec, B.bytes, hml, B.returns, hown, hts, B.notSynchronized, hK, hA, hN⟩ x1 mth s.heap [] ls hm ⟨hP, hD, va_S.rf⟩ (lv_sub hl [0, 1] rfl) (fun r mth H locs ls pc hdg hSt hq => W.iret B.exec B.bytes B.returns (fun t ht hW => ⟨⟨r, (mth), rfl, hq, cPost_of hAe ht hW.alike hSt hK⟩, hSt.2.2.F ht⟩) hSt.2.2.2.2 hdg B.notSynchronized)
