variable {p : Program} {l : Launch} {e : Env} {s : State} {m : MethodId} {args : Array Value} {below : List Frame} {meth : Method} {c : Code} {dC : Nat → ClassId} {dI : Nat → Nat → Nat} {cy : Nat → ClassId} {ad : Nat → Nat} {A : Nat → Prop} {Z : State → Prop}
-- ===== X7_bound
theorem fl_X7_bound_45 : Cond.fieldLink RX7 45 "UnlikeUnionModel" "thrown" "I" ∈ wsX7_bound := by decide +kernel
theorem in_X7_bound_X7 : ∀ w ∈ u_ws RX7 TX7 14, w ∈ wsX7_bound := by decide +kernel
abbrev rmX7_bound : Room := { frames := 6, cells := 0, slots := 0, locals := 475 }
def p_X7_bound (N : Nat) (mti : Nat → Int32) (mjo : Int32) (Q : Int32 → (Nat → Int64) → (Nat → Int32) → (Nat → Int32) → Int64 → Int32 → Prop) (mta : Nat → Int64) (mba : Nat → Int32) (mib : Nat → Int32) (mdi : Int64) (mth : Int32) : Prop :=
  p_X7_boundOf N mti mjo (fun r_1 mta_2 mba_3 mib_4 mdi_5 => Q r_1 mta_2 mba_3 mib_4 mdi_5 (0 : Int32)) mta mba mib mdi

set_option maxHeartbeats 4000000 in
set_option maxRecDepth 100000 in
theorem k_X7_bound_0 {N : Nat} {mti : Nat → Int32} {mow : Nat → Int32} {mjo : Int32} {mab : Nat → Int64} {mbe : Nat → Int64} {mpl : Nat → Int32} {mbs : Nat → Int32} {mro : Nat → Int32} {mlo : Nat → Int32} {Q : Int32 → (Nat → Int64) → (Nat → Int32) → (Nat → Int32) → Int64 → Int32 → Prop} (C0 : cxM cX7_bound 1 (some .int) RX7 wsX7_bound p s m args meth c dC dI cy A) :
    ∀ (mta : Nat → Int64) (mba : Nat → Int32) (mib : Nat → Int32) (mdi : Int64) (mth : Int32) (H : Heap) (locs : List Loc) (ls : Array Slot) (hm : p_X7_bound N mti mjo Q mta mba mib mdi mth) (hSt : stC dC dI A s (wM ad cy mti mow mjo mta mba mib mdi mab mbe mpl mbs mro mlo mth) H locs) (hl : lv_has ls 1 [(0, .ref (ad 0))]) (hret : ∀ (r : Int32) (mta : Nat → Int64) (mba : Nat → Int32) (mib : Nat → Int32) (mdi : Int64) (mth : Int32) (H : Heap) (locs : List Loc) (ls : Array Slot) (pc : Nat), decode cX7_bound pc = .ok (.ireturn, 1) → stC dC dI A s (wM ad cy mti mow mjo mta mba mib mdi mab mbe mpl mbs mro mlo mth) H locs → Q r mta mba mib mdi mth → W p l e rmX7_bound s m args below meth c H locs 0 0 Z (F0 m pc ls [.int r])), W p l e rmX7_bound s m args below meth c H locs 0 0 Z (F0 m 0 ls []) := by
  obtain ⟨hx, hb, hml, hr, hown, hts, hlocks, hK, hA, hN⟩ := id C0
  intro mta mba mib mdi mth H locs ls hm hSt hl hret
  obtain ⟨hP, hD, hS⟩ := hSt
  unfold p_X7_bound at hm
  refine lv_aload_n hx hb dX7_bound_0 rfl (lv_at hl 0 rfl) ?_
  refine lv_iconst (v := 0) hx hb dX7_bound_1 (by decide) ?_
  refine va_put (D := (dC, dI)) (ci := 7) (v := .int (0 : Int32)) (ty := .int) (C := RX7) (T := TX7) (N := 14) hx hb hts in_X7_bound_X7 tyX7 tyX7_ok nmX7 hown hK hP hD hS 0 rfl rfl 13 (by decide) (hts _ fl_X7_bound_45) (fun _ h9 => h9) rfl (by decide +kernel) rfl rfl (Nat.le_of_ble_eq_true rfl) dX7_bound_2 (fun H locs hP hD hS => ?_)
  have hP : va_P (dC, dI) vwCl (wM ad cy mti mow mjo mta mba mib mdi mab mbe mpl mbs mro mlo (0 : Int32)) H := hP
  have hD : va_D A (wM ad cy mti mow mjo mta mba mib mdi mab mbe mpl mbs mro mlo (0 : Int32)) := hD
  refine lv_aload_n hx hb dX7_bound_5 rfl (lv_at hl 0 rfl) ?_
  have hFc := va_freeSame hD hS hA
  refine va_calli (va_runV (As := []) (rest := []) ⟨hx, hb, hml, hown, hts⟩ (c_X7_boundOf l dC dI cy ad H.size mti mow mjo mta mba mib mdi mab mbe mpl mbs mro mlo (0 : Int32)  _ _ hm) (cwV 0 hts gX7_bound_X7_boundOf rfl rfl rfl (by decide +kernel) ⟨Nat.le_of_ble_eq_true rfl, Nat.le_of_ble_eq_true rfl⟩) ⟨cPre_blind, va_recv hK hP (ci := 7) (q0 := 0) rfl rfl, fun U hU hW => ⟨rfl, cPre_at hP hK hD hN hU hW⟩⟩ rfl rfl hl.1 rfl (lv_room (Nat.le_of_ble_eq_true rfl)) dX7_bound_6 ⟨Nat.zero_le _, Nat.zero_le _⟩) hS (fun q _ h => hFc q h) hFc (fun r_1 u t H locs ht hvm hw hB hz1 hk1 hS => ?_)
  obtain ⟨mta_2, mba_3, mib_4, mdi_5⟩ := u
  try dsimp only at hw
  have hm := hw
  have hP : va_P (dC, dI) vwCl (wM ad cy mti mow mjo mta_2 mba_3 mib_4 mdi_5 mab mbe mpl mbs mro mlo (0 : Int32)) H := cPost_P ht hB
  have hD : va_D A (wM ad cy mti mow mjo mta_2 mba_3 mib_4 mdi_5 mab mbe mpl mbs mro mlo (0 : Int32)) := cPost_D hFc hB
  exact hret r_1 mta_2 mba_3 mib_4 mdi_5 (0 : Int32) H locs ls 9 dX7_bound_9 ⟨hP, hD, hS⟩ hm

set_option maxHeartbeats 4000000 in
set_option maxRecDepth 100000 in
theorem c_X7_bound (l : Launch) (dC : Nat → ClassId) (dI : Nat → Nat → Nat) (cy : Nat → ClassId) (ad : Nat → Nat) (sz : Nat) (mti : Nat → Int32) (mow : Nat → Int32) (mjo : Int32) (mta : Nat → Int64) (mba : Nat → Int32) (mib : Nat → Int32) (mdi : Int64) (mab : Nat → Int64) (mbe : Nat → Int64) (mpl : Nat → Int32) (mbs : Nat → Int32) (mro : Nat → Int32) (mlo : Nat → Int32) (mth : Int32)  (N : Nat) (Q : Int32 → (Nat → Int64) → (Nat → Int32) → (Nat → Int32) → Int64 → Int32 → Prop) (hm : p_X7_bound N mti mjo Q mta mba mib mdi mth) : Met l yX7_bound wsX7_bound rmX7_bound (va_Pc [.ref (ad 0)] (cPre dC dI cy (wM ad cy mti mow mjo mta mba mib mdi mab mbe mpl mbs mro mlo mth) sz)) (va_Qi (fun (r : Int32) (u : (Nat → Int64) × (Nat → Int32) × (Nat → Int32) × Int64 × Int32) => Q r u.1 u.2.1 u.2.2.1 u.2.2.2.1 u.2.2.2.2) (fun u t => cPost dC dI cy (wM ad cy mti mow mjo mta mba mib mdi mab mbe mpl mbs mro mlo mth) sz (wM ad cy mti mow mjo (u.1) (u.2.1) (u.2.2.1) (u.2.2.2.1) mab mbe mpl mbs mro mlo (u.2.2.2.2)) t) (va_A (wM ad cy mti mow mjo mta mba mib mdi mab mbe mpl mbs mro mlo mth) sz)) 0 0 (va_A (wM ad cy mti mow mjo mta mba mib mdi mab mbe mpl mbs mro mlo mth) sz) := by
  refine Met.ofW (cc := cX7_bound) (maxL := 1) (ret := (some .int)) (by decide) rfl ?_
  intro p e s m args below meth c s₁ B hml hv
  obtain ⟨rfl, hsz, hP, hK, hD0, hN⟩ := hv
  have hts := atoms_spec (ws := wsX7_bound) B.pre
  have hown : s.vm.findClass RX7 = some m.cls := findClass_of_methodNamed B.named
  subst hsz
  have hD := hD0.self (sz := s.heap.size)
  generalize hAe : va_A (wM ad cy mti mow mjo mta mba mib mdi mab mbe mpl mbs mro mlo mth) s.heap.size = A at hD ⊢
  have hA : ∀ q : Nat, s.heap.size ≤ q → A q := fun q h => by rw [← hAe]; exact Or.inr h
  have hl := lv_entry ([.ref (ad 0)]) (n := 1) (Nat.le_of_ble_eq_true rfl)
  rw [lg_entry_eq]
  generalize (lg_sl ([.ref (ad 0)]) ++ List.replicate (1 - (lg_sl ([.ref (ad 0)])).length) Slot.unset).toArray = ls at hl ⊢
  have hl : lv_has ls 1 [(0, .ref (ad 0))] := hl
  exact k_X7_bound_0 ⟨B.exec, B.bytes, hml, B.returns, hown, hts, B.notSynchronized, hK, hA, hN⟩ mta mba mib mdi mth s.heap [] ls hm ⟨hP, hD, va_S.rf⟩ (lv_sub hl [0] rfl) (fun r mta mba mib mdi mth H locs ls pc hdg hSt hq => W.iret B.exec B.bytes B.returns (fun t ht hW => ⟨⟨r, (mta, mba, mib, mdi, mth), rfl, hq, cPost_of hAe ht hW.alike hSt hK⟩, hSt.2.2.F ht⟩) hSt.2.2.2.2 hdg B.notSynchronized)

-- ===== X7_numerator
theorem fl_X7_numerator_27 : Cond.fieldLink RX7 27 "UnlikeUnionModel" "above" "[J" ∈ wsX7_numerator := by decide +kernel
theorem in_X7_numerator_X7 : ∀ w ∈ u_ws RX7 TX7 14, w ∈ wsX7_numerator := by decide +kernel
abbrev rmX7_numerator : Room := { frames := 7, cells := 0, slots := 0, locals := 562 }
def p_X7_numerator (N : Nat) (mti : Nat → Int32) (mjo : Int32) (Q : Int32 → (Nat → Int64) → (Nat → Int32) → (Nat → Int32) → Int64 → (Nat → Int64) → (Nat → Int64) → Int32 → Prop) (x1 : Int32) (x2 : Int32) (mta : Nat → Int64) (mba : Nat → Int32) (mib : Nat → Int32) (mdi : Int64) (mab : Nat → Int64) (mbe : Nat → Int64) (mth : Int32) : Prop :=
  p_X7_isJob N mjo (fun r_1 => (r_1 = 0 → (p_X7_goes N (fun r_3 mth_4 => (r_3 = 0 → (Q (0 : Int32) mta mba mib mdi mab mbe mth_4)) ∧ (¬ r_3 = 0 → (p_X7_divides N mti mjo (fun mta_6 mba_7 mib_8 mdi_9 mab_10 mbe_11 => vp_in (((3 : Int32) * x1) + x2) 21 ∧ (Q ((mab_10 (((3 : Int32) * x1) + x2).toNatClampNeg).toInt32) mta_6 mba_7 mib_8 mdi_9 mab_10 mbe_11 mth_4)) mta mba mib mdi mab mbe))) (0 : Int32) (1 : Int32) (1 : Int32) mth)) ∧ (¬ r_1 = 0 → (p_X7_isMachine N (fun r_13 => (r_13 = 0 → (p_X7_goes N (fun r_15 mth_16 => (r_15 = 0 → (Q (0 : Int32) mta mba mib mdi mab mbe mth_16)) ∧ (¬ r_15 = 0 → (p_X7_divides N mti mjo (fun mta_18 mba_19 mib_20 mdi_21 mab_22 mbe_23 => vp_in (((3 : Int32) * x1) + x2) 21 ∧ (Q ((mab_22 (((3 : Int32) * x1) + x2).toNatClampNeg).toInt32) mta_18 mba_19 mib_20 mdi_21 mab_22 mbe_23 mth_16)) mta mba mib mdi mab mbe))) (0 : Int32) (1 : Int32) (1 : Int32) mth)) ∧ (¬ r_13 = 0 → (p_X7_goes N (fun r_25 mth_26 => (r_25 = 0 → (Q (0 : Int32) mta mba mib mdi mab mbe mth_26)) ∧ (¬ r_25 = 0 → (p_X7_divides N mti mjo (fun mta_28 mba_29 mib_30 mdi_31 mab_32 mbe_33 => vp_in (((3 : Int32) * x1) + x2) 21 ∧ (Q ((mab_32 (((3 : Int32) * x1) + x2).toNatClampNeg).toInt32) mta_28 mba_29 mib_30 mdi_31 mab_32 mbe_33 mth_26)) mta mba mib mdi mab mbe))) (1 : Int32) (1 : Int32) (1 : Int32) mth))) x2))) x1

set_option maxHeartbeats 4000000 in
set_option maxRecDepth 100000 in
theorem k_X7_numerator_0 {N : Nat} {mti : Nat → Int32} {mow : Nat → Int32} {mjo : Int32} {mpl : Nat → Int32} {mbs : Nat → Int32} {mro : Nat → Int32} {mlo : Nat → Int32} {Q : Int32 → (Nat → Int64) → (Nat → Int32) → (Nat → Int32) → Int64 → (Nat → Int64) → (Nat → Int64) → Int32 → Prop} (C0 : cxM cX7_numerator 3 (some .int) RX7 wsX7_numerator p s m args meth c dC dI cy A) :
    ∀ (x1 : Int32) (x2 : Int32) (mta : Nat → Int64) (mba : Nat → Int32) (mib : Nat → Int32) (mdi : Int64) (mab : Nat → Int64) (mbe : Nat → Int64) (mth : Int32) (H : Heap) (locs : List Loc) (ls : Array Slot) (hm : p_X7_numerator N mti mjo Q x1 x2 mta mba mib mdi mab mbe mth) (hSt : stC dC dI A s (wM ad cy mti mow mjo mta mba mib mdi mab mbe mpl mbs mro mlo mth) H locs) (hl : lv_has ls 3 [(0, .ref (ad 0)), (1, .int x1), (2, .int x2)]) (hret : ∀ (r : Int32) (mta : Nat → Int64) (mba : Nat → Int32) (mib : Nat → Int32) (mdi : Int64) (mab : Nat → Int64) (mbe : Nat → Int64) (mth : Int32) (H : Heap) (locs : List Loc) (ls : Array Slot) (pc : Nat), decode cX7_numerator pc = .ok (.ireturn, 1) → stC dC dI A s (wM ad cy mti mow mjo mta mba mib mdi mab mbe mpl mbs mro mlo mth) H locs → Q r mta mba mib mdi mab mbe mth → W p l e rmX7_numerator s m args below meth c H locs 0 0 Z (F0 m pc ls [.int r])), W p l e rmX7_numerator s m args below meth c H locs 0 0 Z (F0 m 0 ls []) := by
  obtain ⟨hx, hb, hml, hr, hown, hts, hlocks, hK, hA, hN⟩ := id C0
  intro x1 x2 mta mba mib mdi mab mbe mth H locs ls hm hSt hl hret
  obtain ⟨hP, hD, hS⟩ := hSt
  unfold p_X7_numerator at hm
  refine lv_aload_n hx hb dX7_numerator_0 rfl (lv_at hl 0 rfl) ?_
  refine lv_aload_n hx hb dX7_numerator_1 rfl (lv_at hl 0 rfl) ?_
  refine lv_iload_n hx hb dX7_numerator_2 rfl (lv_at hl 1 rfl) ?_
  have hFc := va_freeSame hD hS hA
  refine va_calli (va_runV (As := [.int x1]) (rest := [.ref (ad 0)]) ⟨hx, hb, hml, hown, hts⟩ (c_X7_isJob l dC dI cy ad H.size mti mow mjo mta mba mib mdi mab mbe mpl mbs mro mlo mth x1 _ _ hm) (cwV 1 hts gX7_numerator_X7_isJob rfl rfl rfl (by decide +kernel) ⟨Nat.le_of_ble_eq_true rfl, Nat.le_of_ble_eq_true rfl⟩) ⟨cPre_blind, va_recv hK hP (ci := 7) (q0 := 0) rfl rfl, fun U hU hW => ⟨rfl, cPre_at hP hK hD hN hU hW⟩⟩ rfl rfl hl.1 rfl (lv_room (Nat.le_of_ble_eq_true rfl)) dX7_numerator_3 ⟨Nat.zero_le _, Nat.zero_le _⟩) hS (fun q _ h => hFc q h) hFc (fun r_1 u t H locs ht hvm hw hB hz1 hk1 hS => ?_)
  try dsimp only at hw
  obtain ⟨hm, nar_r_1⟩ := hw
  have hP : va_P (dC, dI) vwCl (wM ad cy mti mow mjo mta mba mib mdi mab mbe mpl mbs mro mlo mth) H := cPost_P ht hB
  have hD : va_D A (wM ad cy mti mow mjo mta mba mib mdi mab mbe mpl mbs mro mlo mth) := cPost_D hFc hB
  refine lv_if_eq (tgt := 20) hx hb dX7_numerator_6 (by decide) (fun c_2 => ?_) (fun c_2 => ?_)
  · have hm := hm.1 c_2
    refine lv_iconst (v := 0) hx hb dX7_numerator_20 (by decide) ?_
    refine lv_iconst (v := 1) hx hb dX7_numerator_21 (by decide) ?_
    refine lv_iconst (v := 1) hx hb dX7_numerator_22 (by decide) ?_
    have hFc := va_freeSame hD hS hA
    refine va_calli (va_runV (As := [.int (0 : Int32), .int (1 : Int32), .int (1 : Int32)]) (rest := []) ⟨hx, hb, hml, hown, hts⟩ (c_X7_goes l dC dI cy ad H.size mti mow mjo mta mba mib mdi mab mbe mpl mbs mro mlo mth (0 : Int32) (1 : Int32) (1 : Int32) _ _ hm) (cwV 3 hts gX7_numerator_X7_goes rfl rfl rfl (by decide +kernel) ⟨Nat.le_of_ble_eq_true rfl, Nat.le_of_ble_eq_true rfl⟩) ⟨cPre_blind, va_recv hK hP (ci := 7) (q0 := 0) rfl rfl, fun U hU hW => ⟨rfl, cPre_at hP hK hD hN hU hW⟩⟩ rfl rfl hl.1 rfl (lv_room (Nat.le_of_ble_eq_true rfl)) dX7_numerator_23 ⟨Nat.zero_le _, Nat.zero_le _⟩) hS (fun q _ h => hFc q h) hFc (fun r_3 u t H locs ht hvm hw hB hz1 hk1 hS => ?_)
    obtain ⟨mth_4, rfl⟩ : ∃ z, z = u := ⟨_, rfl⟩
    try dsimp only at hw
    obtain ⟨hm, nar_r_3⟩ := hw
    have hP : va_P (dC, dI) vwCl (wM ad cy mti mow mjo mta mba mib mdi mab mbe mpl mbs mro mlo mth_4) H := cPost_P ht hB
    have hD : va_D A (wM ad cy mti mow mjo mta mba mib mdi mab mbe mpl mbs mro mlo mth_4) := cPost_D hFc hB
    refine lv_if_ne (tgt := 31) hx hb dX7_numerator_26 (by decide) (fun c_5 => ?_) (fun c_5 => ?_)
    · have hm := hm.2 c_5
      refine lv_aload_n hx hb dX7_numerator_31 rfl (lv_at hl 0 rfl) ?_
      have hFc := va_freeSame hD hS hA
      refine va_callv (va_runV (As := []) (rest := []) ⟨hx, hb, hml, hown, hts⟩ (c_X7_divides l dC dI cy ad H.size mti mow mjo mta mba mib mdi mab mbe mpl mbs mro mlo mth_4  _ _ hm) (cwV 0 hts gX7_numerator_X7_divides rfl rfl rfl (by decide +kernel) ⟨Nat.le_of_ble_eq_true rfl, Nat.le_of_ble_eq_true rfl⟩) ⟨cPre_blind, va_recv hK hP (ci := 7) (q0 := 0) rfl rfl, fun U hU hW => ⟨rfl, cPre_at hP hK hD hN hU hW⟩⟩ rfl rfl hl.1 rfl (lv_room (Nat.le_of_ble_eq_true rfl)) dX7_numerator_32 ⟨Nat.zero_le _, Nat.zero_le _⟩) hS (fun q _ h => hFc q h) hFc (fun u t H locs ht hvm hw hB hz1 hk1 hS => ?_)
      obtain ⟨mta_6, mba_7, mib_8, mdi_9, mab_10, mbe_11⟩ := u
      try dsimp only at hw
      have hm := hw
      have hP : va_P (dC, dI) vwCl (wM ad cy mti mow mjo mta_6 mba_7 mib_8 mdi_9 mab_10 mbe_11 mpl mbs mro mlo mth_4) H := cPost_P ht hB
      have hD : va_D A (wM ad cy mti mow mjo mta_6 mba_7 mib_8 mdi_9 mab_10 mbe_11 mpl mbs mro mlo mth_4) := cPost_D hFc hB
      refine lv_aload_n hx hb dX7_numerator_35 rfl (lv_at hl 0 rfl) ?_
      refine va_get (D := (dC, dI)) (ci := 7) (v := .ref (ad 6)) (C := RX7) (T := TX7) (N := 14) hx hb hts in_X7_numerator_X7 hown hK hP 0 rfl rfl 7 (by decide) (hts _ fl_X7_numerator_27) (fun _ h9 => h9) rfl dX7_numerator_36 ?_
      refine lv_iconst (v := 3) hx hb dX7_numerator_39 (by decide) ?_
      refine lv_iload_n hx hb dX7_numerator_40 rfl (lv_at hl 1 rfl) ?_
      refine lv_imul hx hb dX7_numerator_41 ?_
      refine lv_iload_n hx hb dX7_numerator_42 rfl (lv_at hl 2 rfl) ?_
      refine lv_iadd hx hb dX7_numerator_43 ?_
      have hi_12 := hm.1
      have hm := hm.2
      refine va_lald hx hb hK hP 6 1 rfl rfl hi_12 dX7_numerator_44 ?_
      refine lv_l2i (v := (mab_10 (((3 : Int32) * x1) + x2).toNatClampNeg).toInt32) hx hb dX7_numerator_45 rfl ?_
      exact hret ((mab_10 (((3 : Int32) * x1) + x2).toNatClampNeg).toInt32) mta_6 mba_7 mib_8 mdi_9 mab_10 mbe_11 mth_4 H locs ls 46 dX7_numerator_46 ⟨hP, hD, hS⟩ hm
    · have hm := hm.1 c_5
      refine lv_iconst (v := 0) hx hb dX7_numerator_29 (by decide) ?_
      exact hret (0 : Int32) mta mba mib mdi mab mbe mth_4 H locs ls 30 dX7_numerator_30 ⟨hP, hD, hS⟩ hm
  · have hm := hm.2 c_2
    refine lv_iload_n hx hb dX7_numerator_9 rfl (lv_at hl 2 rfl) ?_
    have hFc := va_freeSame hD hS hA
    refine va_calli (va_runS (As := [.int x2]) (rest := [.ref (ad 0)]) ⟨hx, hb, hml, hown, hts⟩ (c_X7_isMachine l dC dI cy ad H.size mti mow mjo mta mba mib mdi mab mbe mpl mbs mro mlo mth x2 _ _ hm) (cwS 1 hts gX7_numerator_X7_isMachine rfl rfl rfl (by decide +kernel) ⟨Nat.le_of_ble_eq_true rfl, Nat.le_of_ble_eq_true rfl⟩) ⟨cPre_blind, fun U hU hW => ⟨rfl, cPre_at hP hK hD hN hU hW⟩⟩ rfl rfl hl.1 rfl (lv_room (Nat.le_of_ble_eq_true rfl)) dX7_numerator_10 ⟨Nat.zero_le _, Nat.zero_le _⟩) hS (fun q _ h => hFc q h) hFc (fun r_13 u t H locs ht hvm hw hB hz1 hk1 hS => ?_)
    try dsimp only at hw
    obtain ⟨hm, nar_r_13⟩ := hw
    have hP : va_P (dC, dI) vwCl (wM ad cy mti mow mjo mta mba mib mdi mab mbe mpl mbs mro mlo mth) H := cPost_P ht hB
    have hD : va_D A (wM ad cy mti mow mjo mta mba mib mdi mab mbe mpl mbs mro mlo mth) := cPost_D hFc hB
    refine lv_if_eq (tgt := 20) hx hb dX7_numerator_13 (by decide) (fun c_14 => ?_) (fun c_14 => ?_)
    · have hm := hm.1 c_14
      refine lv_iconst (v := 0) hx hb dX7_numerator_20 (by decide) ?_
      refine lv_iconst (v := 1) hx hb dX7_numerator_21 (by decide) ?_
      refine lv_iconst (v := 1) hx hb dX7_numerator_22 (by decide) ?_
      have hFc := va_freeSame hD hS hA
      refine va_calli (va_runV (As := [.int (0 : Int32), .int (1 : Int32), .int (1 : Int32)]) (rest := []) ⟨hx, hb, hml, hown, hts⟩ (c_X7_goes l dC dI cy ad H.size mti mow mjo mta mba mib mdi mab mbe mpl mbs mro mlo mth (0 : Int32) (1 : Int32) (1 : Int32) _ _ hm) (cwV 3 hts gX7_numerator_X7_goes rfl rfl rfl (by decide +kernel) ⟨Nat.le_of_ble_eq_true rfl, Nat.le_of_ble_eq_true rfl⟩) ⟨cPre_blind, va_recv hK hP (ci := 7) (q0 := 0) rfl rfl, fun U hU hW => ⟨rfl, cPre_at hP hK hD hN hU hW⟩⟩ rfl rfl hl.1 rfl (lv_room (Nat.le_of_ble_eq_true rfl)) dX7_numerator_23 ⟨Nat.zero_le _, Nat.zero_le _⟩) hS (fun q _ h => hFc q h) hFc (fun r_15 u t H locs ht hvm hw hB hz1 hk1 hS => ?_)
      obtain ⟨mth_16, rfl⟩ : ∃ z, z = u := ⟨_, rfl⟩
      try dsimp only at hw
      obtain ⟨hm, nar_r_15⟩ := hw
      have hP : va_P (dC, dI) vwCl (wM ad cy mti mow mjo mta mba mib mdi mab mbe mpl mbs mro mlo mth_16) H := cPost_P ht hB
      have hD : va_D A (wM ad cy mti mow mjo mta mba mib mdi mab mbe mpl mbs mro mlo mth_16) := cPost_D hFc hB
      refine lv_if_ne (tgt := 31) hx hb dX7_numerator_26 (by decide) (fun c_17 => ?_) (fun c_17 => ?_)
      · have hm := hm.2 c_17
        refine lv_aload_n hx hb dX7_numerator_31 rfl (lv_at hl 0 rfl) ?_
        have hFc := va_freeSame hD hS hA
        refine va_callv (va_runV (As := []) (rest := []) ⟨hx, hb, hml, hown, hts⟩ (c_X7_divides l dC dI cy ad H.size mti mow mjo mta mba mib mdi mab mbe mpl mbs mro mlo mth_16  _ _ hm) (cwV 0 hts gX7_numerator_X7_divides rfl rfl rfl (by decide +kernel) ⟨Nat.le_of_ble_eq_true rfl, Nat.le_of_ble_eq_true rfl⟩) ⟨cPre_blind, va_recv hK hP (ci := 7) (q0 := 0) rfl rfl, fun U hU hW => ⟨rfl, cPre_at hP hK hD hN hU hW⟩⟩ rfl rfl hl.1 rfl (lv_room (Nat.le_of_ble_eq_true rfl)) dX7_numerator_32 ⟨Nat.zero_le _, Nat.zero_le _⟩) hS (fun q _ h => hFc q h) hFc (fun u t H locs ht hvm hw hB hz1 hk1 hS => ?_)
        obtain ⟨mta_18, mba_19, mib_20, mdi_21, mab_22, mbe_23⟩ := u
        try dsimp only at hw
        have hm := hw
        have hP : va_P (dC, dI) vwCl (wM ad cy mti mow mjo mta_18 mba_19 mib_20 mdi_21 mab_22 mbe_23 mpl mbs mro mlo mth_16) H := cPost_P ht hB
        have hD : va_D A (wM ad cy mti mow mjo mta_18 mba_19 mib_20 mdi_21 mab_22 mbe_23 mpl mbs mro mlo mth_16) := cPost_D hFc hB
        refine lv_aload_n hx hb dX7_numerator_35 rfl (lv_at hl 0 rfl) ?_
        refine va_get (D := (dC, dI)) (ci := 7) (v := .ref (ad 6)) (C := RX7) (T := TX7) (N := 14) hx hb hts in_X7_numerator_X7 hown hK hP 0 rfl rfl 7 (by decide) (hts _ fl_X7_numerator_27) (fun _ h9 => h9) rfl dX7_numerator_36 ?_
        refine lv_iconst (v := 3) hx hb dX7_numerator_39 (by decide) ?_
        refine lv_iload_n hx hb dX7_numerator_40 rfl (lv_at hl 1 rfl) ?_
        refine lv_imul hx hb dX7_numerator_41 ?_
        refine lv_iload_n hx hb dX7_numerator_42 rfl (lv_at hl 2 rfl) ?_
        refine lv_iadd hx hb dX7_numerator_43 ?_
        have hi_24 := hm.1
        have hm := hm.2
        refine va_lald hx hb hK hP 6 1 rfl rfl hi_24 dX7_numerator_44 ?_
        refine lv_l2i (v := (mab_22 (((3 : Int32) * x1) + x2).toNatClampNeg).toInt32) hx hb dX7_numerator_45 rfl ?_
        exact hret ((mab_22 (((3 : Int32) * x1) + x2).toNatClampNeg).toInt32) mta_18 mba_19 mib_20 mdi_21 mab_22 mbe_23 mth_16 H locs ls 46 dX7_numerator_46 ⟨hP, hD, hS⟩ hm
      · have hm := hm.1 c_17
        refine lv_iconst (v := 0) hx hb dX7_numerator_29 (by decide) ?_
        exact hret (0 : Int32) mta mba mib mdi mab mbe mth_16 H locs ls 30 dX7_numerator_30 ⟨hP, hD, hS⟩ hm
    · have hm := hm.2 c_14
      refine lv_iconst (v := 1) hx hb dX7_numerator_16 (by decide) ?_
      refine lv_goto (tgt := 21) hx hb dX7_numerator_17 (by decide) ?_
      refine lv_iconst (v := 1) hx hb dX7_numerator_21 (by decide) ?_
      refine lv_iconst (v := 1) hx hb dX7_numerator_22 (by decide) ?_
      have hFc := va_freeSame hD hS hA
      refine va_calli (va_runV (As := [.int (1 : Int32), .int (1 : Int32), .int (1 : Int32)]) (rest := []) ⟨hx, hb, hml, hown, hts⟩ (c_X7_goes l dC dI cy ad H.size mti mow mjo mta mba mib mdi mab mbe mpl mbs mro mlo mth (1 : Int32) (1 : Int32) (1 : Int32) _ _ hm) (cwV 3 hts gX7_numerator_X7_goes rfl rfl rfl (by decide +kernel) ⟨Nat.le_of_ble_eq_true rfl, Nat.le_of_ble_eq_true rfl⟩) ⟨cPre_blind, va_recv hK hP (ci := 7) (q0 := 0) rfl rfl, fun U hU hW => ⟨rfl, cPre_at hP hK hD hN hU hW⟩⟩ rfl rfl hl.1 rfl (lv_room (Nat.le_of_ble_eq_true rfl)) dX7_numerator_23 ⟨Nat.zero_le _, Nat.zero_le _⟩) hS (fun q _ h => hFc q h) hFc (fun r_25 u t H locs ht hvm hw hB hz1 hk1 hS => ?_)
      obtain ⟨mth_26, rfl⟩ : ∃ z, z = u := ⟨_, rfl⟩
      try dsimp only at hw
      obtain ⟨hm, nar_r_25⟩ := hw
      have hP : va_P (dC, dI) vwCl (wM ad cy mti mow mjo mta mba mib mdi mab mbe mpl mbs mro mlo mth_26) H := cPost_P ht hB
      have hD : va_D A (wM ad cy mti mow mjo mta mba mib mdi mab mbe mpl mbs mro mlo mth_26) := cPost_D hFc hB
      refine lv_if_ne (tgt := 31) hx hb dX7_numerator_26 (by decide) (fun c_27 => ?_) (fun c_27 => ?_)
      · have hm := hm.2 c_27
        refine lv_aload_n hx hb dX7_numerator_31 rfl (lv_at hl 0 rfl) ?_
        have hFc := va_freeSame hD hS hA
        refine va_callv (va_runV (As := []) (rest := []) ⟨hx, hb, hml, hown, hts⟩ (c_X7_divides l dC dI cy ad H.size mti mow mjo mta mba mib mdi mab mbe mpl mbs mro mlo mth_26  _ _ hm) (cwV 0 hts gX7_numerator_X7_divides rfl rfl rfl (by decide +kernel) ⟨Nat.le_of_ble_eq_true rfl, Nat.le_of_ble_eq_true rfl⟩) ⟨cPre_blind, va_recv hK hP (ci := 7) (q0 := 0) rfl rfl, fun U hU hW => ⟨rfl, cPre_at hP hK hD hN hU hW⟩⟩ rfl rfl hl.1 rfl (lv_room (Nat.le_of_ble_eq_true rfl)) dX7_numerator_32 ⟨Nat.zero_le _, Nat.zero_le _⟩) hS (fun q _ h => hFc q h) hFc (fun u t H locs ht hvm hw hB hz1 hk1 hS => ?_)
        obtain ⟨mta_28, mba_29, mib_30, mdi_31, mab_32, mbe_33⟩ := u
        try dsimp only at hw
        have hm := hw
        have hP : va_P (dC, dI) vwCl (wM ad cy mti mow mjo mta_28 mba_29 mib_30 mdi_31 mab_32 mbe_33 mpl mbs mro mlo mth_26) H := cPost_P ht hB
        have hD : va_D A (wM ad cy mti mow mjo mta_28 mba_29 mib_30 mdi_31 mab_32 mbe_33 mpl mbs mro mlo mth_26) := cPost_D hFc hB
        refine lv_aload_n hx hb dX7_numerator_35 rfl (lv_at hl 0 rfl) ?_
        refine va_get (D := (dC, dI)) (ci := 7) (v := .ref (ad 6)) (C := RX7) (T := TX7) (N := 14) hx hb hts in_X7_numerator_X7 hown hK hP 0 rfl rfl 7 (by decide) (hts _ fl_X7_numerator_27) (fun _ h9 => h9) rfl dX7_numerator_36 ?_
        refine lv_iconst (v := 3) hx hb dX7_numerator_39 (by decide) ?_
        refine lv_iload_n hx hb dX7_numerator_40 rfl (lv_at hl 1 rfl) ?_
        refine lv_imul hx hb dX7_numerator_41 ?_
        refine lv_iload_n hx hb dX7_numerator_42 rfl (lv_at hl 2 rfl) ?_
        refine lv_iadd hx hb dX7_numerator_43 ?_
        have hi_34 := hm.1
        have hm := hm.2
        refine va_lald hx hb hK hP 6 1 rfl rfl hi_34 dX7_numerator_44 ?_
        refine lv_l2i (v := (mab_32 (((3 : Int32) * x1) + x2).toNatClampNeg).toInt32) hx hb dX7_numerator_45 rfl ?_
        exact hret ((mab_32 (((3 : Int32) * x1) + x2).toNatClampNeg).toInt32) mta_28 mba_29 mib_30 mdi_31 mab_32 mbe_33 mth_26 H locs ls 46 dX7_numerator_46 ⟨hP, hD, hS⟩ hm
      · have hm := hm.1 c_27
        refine lv_iconst (v := 0) hx hb dX7_numerator_29 (by decide) ?_
        exact hret (0 : Int32) mta mba mib mdi mab mbe mth_26 H locs ls 30 dX7_numerator_30 ⟨hP, hD, hS⟩ hm

set_option maxHeartbeats 4000000 in
set_option maxRecDepth 100000 in
theorem c_X7_numerator (l : Launch) (dC : Nat → ClassId) (dI : Nat → Nat → Nat) (cy : Nat → ClassId) (ad : Nat → Nat) (sz : Nat) (mti : Nat → Int32) (mow : Nat → Int32) (mjo : Int32) (mta : Nat → Int64) (mba : Nat → Int32) (mib : Nat → Int32) (mdi : Int64) (mab : Nat → Int64) (mbe : Nat → Int64) (mpl : Nat → Int32) (mbs : Nat → Int32) (mro : Nat → Int32) (mlo : Nat → Int32) (mth : Int32) (x1 : Int32) (x2 : Int32) (N : Nat) (Q : Int32 → (Nat → Int64) → (Nat → Int32) → (Nat → Int32) → Int64 → (Nat → Int64) → (Nat → Int64) → Int32 → Prop) (hm : p_X7_numerator N mti mjo Q x1 x2 mta mba mib mdi mab mbe mth) : Met l yX7_numerator wsX7_numerator rmX7_numerator (va_Pc [.ref (ad 0), .int x1, .int x2] (cPre dC dI cy (wM ad cy mti mow mjo mta mba mib mdi mab mbe mpl mbs mro mlo mth) sz)) (va_Qi (fun (r : Int32) (u : (Nat → Int64) × (Nat → Int32) × (Nat → Int32) × Int64 × (Nat → Int64) × (Nat → Int64) × Int32) => Q r u.1 u.2.1 u.2.2.1 u.2.2.2.1 u.2.2.2.2.1 u.2.2.2.2.2.1 u.2.2.2.2.2.2) (fun u t => cPost dC dI cy (wM ad cy mti mow mjo mta mba mib mdi mab mbe mpl mbs mro mlo mth) sz (wM ad cy mti mow mjo (u.1) (u.2.1) (u.2.2.1) (u.2.2.2.1) (u.2.2.2.2.1) (u.2.2.2.2.2.1) mpl mbs mro mlo (u.2.2.2.2.2.2)) t) (va_A (wM ad cy mti mow mjo mta mba mib mdi mab mbe mpl mbs mro mlo mth) sz)) 0 0 (va_A (wM ad cy mti mow mjo mta mba mib mdi mab mbe mpl mbs mro mlo mth) sz) := by
  refine Met.ofW (cc := cX7_numerator) (maxL := 3) (ret := (some .int)) (by decide) rfl ?_
  intro p e s m args below meth c s₁ B hml hv
  obtain ⟨rfl, hsz, hP, hK, hD0, hN⟩ := hv
  have hts := atoms_spec (ws := wsX7_numerator) B.pre
  have hown : s.vm.findClass RX7 = some m.cls := findClass_of_methodNamed B.named
  subst hsz
  have hD := hD0.self (sz := s.heap.size)
  generalize hAe : va_A (wM ad cy mti mow mjo mta mba mib mdi mab mbe mpl mbs mro mlo mth) s.heap.size = A at hD ⊢
  have hA : ∀ q : Nat, s.heap.size ≤ q → A q := fun q h => by rw [← hAe]; exact Or.inr h
  have hl := lv_entry ([.ref (ad 0), .int x1, .int x2]) (n := 3) (Nat.le_of_ble_eq_true rfl)
  rw [lg_entry_eq]
  generalize (lg_sl ([.ref (ad 0), .int x1, .int x2]) ++ List.replicate (3 - (lg_sl ([.ref (ad 0), .int x1, .int x2])).length) Slot.unset).toArray = ls at hl ⊢
  have hl : lv_has ls 3 [(0, .ref (ad 0)), (1, .int x1), (2, .int x2)] := hl
  exact k_X7_numerator_0 ⟨B.exec, B.bytes, hml, B.returns, hown, hts, B.notSynchronized, hK, hA, hN⟩ x1 x2 mta mba mib mdi mab mbe mth s.heap [] ls hm ⟨hP, hD, va_S.rf⟩ (lv_sub hl [0, 1, 2] rfl) (fun r mta mba mib mdi mab mbe mth H locs ls pc hdg hSt hq => W.iret B.exec B.bytes B.returns (fun t ht hW => ⟨⟨r, (mta, mba, mib, mdi, mab, mbe, mth), rfl, hq, cPost_of hAe ht hW.alike hSt hK⟩, hSt.2.2.F ht⟩) hSt.2.2.2.2 hdg B.notSynchronized)

-- ===== X7_denominator
theorem fl_X7_denominator_30 : Cond.fieldLink RX7 30 "UnlikeUnionModel" "below" "[J" ∈ wsX7_denominator := by decide +kernel
theorem in_X7_denominator_X7 : ∀ w ∈ u_ws RX7 TX7 14, w ∈ wsX7_denominator := by decide +kernel
abbrev rmX7_denominator : Room := { frames := 7, cells := 0, slots := 0, locals := 562 }
def p_X7_denominator (N : Nat) (mti : Nat → Int32) (mjo : Int32) (Q : Int32 → (Nat → Int64) → (Nat → Int32) → (Nat → Int32) → Int64 → (Nat → Int64) → (Nat → Int64) → Int32 → Prop) (x1 : Int32) (x2 : Int32) (mta : Nat → Int64) (mba : Nat → Int32) (mib : Nat → Int32) (mdi : Int64) (mab : Nat → Int64) (mbe : Nat → Int64) (mth : Int32) : Prop :=
  p_X7_isJob N mjo (fun r_1 => (r_1 = 0 → (p_X7_goes N (fun r_3 mth_4 => (r_3 = 0 → (Q (0 : Int32) mta mba mib mdi mab mbe mth_4)) ∧ (¬ r_3 = 0 → (p_X7_divides N mti mjo (fun mta_6 mba_7 mib_8 mdi_9 mab_10 mbe_11 => vp_in (((3 : Int32) * x1) + x2) 21 ∧ (Q ((mbe_11 (((3 : Int32) * x1) + x2).toNatClampNeg).toInt32) mta_6 mba_7 mib_8 mdi_9 mab_10 mbe_11 mth_4)) mta mba mib mdi mab mbe))) (0 : Int32) (1 : Int32) (1 : Int32) mth)) ∧ (¬ r_1 = 0 → (p_X7_isMachine N (fun r_13 => (r_13 = 0 → (p_X7_goes N (fun r_15 mth_16 => (r_15 = 0 → (Q (0 : Int32) mta mba mib mdi mab mbe mth_16)) ∧ (¬ r_15 = 0 → (p_X7_divides N mti mjo (fun mta_18 mba_19 mib_20 mdi_21 mab_22 mbe_23 => vp_in (((3 : Int32) * x1) + x2) 21 ∧ (Q ((mbe_23 (((3 : Int32) * x1) + x2).toNatClampNeg).toInt32) mta_18 mba_19 mib_20 mdi_21 mab_22 mbe_23 mth_16)) mta mba mib mdi mab mbe))) (0 : Int32) (1 : Int32) (1 : Int32) mth)) ∧ (¬ r_13 = 0 → (p_X7_goes N (fun r_25 mth_26 => (r_25 = 0 → (Q (0 : Int32) mta mba mib mdi mab mbe mth_26)) ∧ (¬ r_25 = 0 → (p_X7_divides N mti mjo (fun mta_28 mba_29 mib_30 mdi_31 mab_32 mbe_33 => vp_in (((3 : Int32) * x1) + x2) 21 ∧ (Q ((mbe_33 (((3 : Int32) * x1) + x2).toNatClampNeg).toInt32) mta_28 mba_29 mib_30 mdi_31 mab_32 mbe_33 mth_26)) mta mba mib mdi mab mbe))) (1 : Int32) (1 : Int32) (1 : Int32) mth))) x2))) x1

set_option maxHeartbeats 4000000 in
set_option maxRecDepth 100000 in
theorem k_X7_denominator_0 {N : Nat} {mti : Nat → Int32} {mow : Nat → Int32} {mjo : Int32} {mpl : Nat → Int32} {mbs : Nat → Int32} {mro : Nat → Int32} {mlo : Nat → Int32} {Q : Int32 → (Nat → Int64) → (Nat → Int32) → (Nat → Int32) → Int64 → (Nat → Int64) → (Nat → Int64) → Int32 → Prop} (C0 : cxM cX7_denominator 3 (some .int) RX7 wsX7_denominator p s m args meth c dC dI cy A) :
    ∀ (x1 : Int32) (x2 : Int32) (mta : Nat → Int64) (mba : Nat → Int32) (mib : Nat → Int32) (mdi : Int64) (mab : Nat → Int64) (mbe : Nat → Int64) (mth : Int32) (H : Heap) (locs : List Loc) (ls : Array Slot) (hm : p_X7_denominator N mti mjo Q x1 x2 mta mba mib mdi mab mbe mth) (hSt : stC dC dI A s (wM ad cy mti mow mjo mta mba mib mdi mab mbe mpl mbs mro mlo mth) H locs) (hl : lv_has ls 3 [(0, .ref (ad 0)), (1, .int x1), (2, .int x2)]) (hret : ∀ (r : Int32) (mta : Nat → Int64) (mba : Nat → Int32) (mib : Nat → Int32) (mdi : Int64) (mab : Nat → Int64) (mbe : Nat → Int64) (mth : Int32) (H : Heap) (locs : List Loc) (ls : Array Slot) (pc : Nat), decode cX7_denominator pc = .ok (.ireturn, 1) → stC dC dI A s (wM ad cy mti mow mjo mta mba mib mdi mab mbe mpl mbs mro mlo mth) H locs → Q r mta mba mib mdi mab mbe mth → W p l e rmX7_denominator s m args below meth c H locs 0 0 Z (F0 m pc ls [.int r])), W p l e rmX7_denominator s m args below meth c H locs 0 0 Z (F0 m 0 ls []) := by
  obtain ⟨hx, hb, hml, hr, hown, hts, hlocks, hK, hA, hN⟩ := id C0
  intro x1 x2 mta mba mib mdi mab mbe mth H locs ls hm hSt hl hret
  obtain ⟨hP, hD, hS⟩ := hSt
  unfold p_X7_denominator at hm
  refine lv_aload_n hx hb dX7_denominator_0 rfl (lv_at hl 0 rfl) ?_
  refine lv_aload_n hx hb dX7_denominator_1 rfl (lv_at hl 0 rfl) ?_
  refine lv_iload_n hx hb dX7_denominator_2 rfl (lv_at hl 1 rfl) ?_
  have hFc := va_freeSame hD hS hA
  refine va_calli (va_runV (As := [.int x1]) (rest := [.ref (ad 0)]) ⟨hx, hb, hml, hown, hts⟩ (c_X7_isJob l dC dI cy ad H.size mti mow mjo mta mba mib mdi mab mbe mpl mbs mro mlo mth x1 _ _ hm) (cwV 1 hts gX7_denominator_X7_isJob rfl rfl rfl (by decide +kernel) ⟨Nat.le_of_ble_eq_true rfl, Nat.le_of_ble_eq_true rfl⟩) ⟨cPre_blind, va_recv hK hP (ci := 7) (q0 := 0) rfl rfl, fun U hU hW => ⟨rfl, cPre_at hP hK hD hN hU hW⟩⟩ rfl rfl hl.1 rfl (lv_room (Nat.le_of_ble_eq_true rfl)) dX7_denominator_3 ⟨Nat.zero_le _, Nat.zero_le _⟩) hS (fun q _ h => hFc q h) hFc (fun r_1 u t H locs ht hvm hw hB hz1 hk1 hS => ?_)
  try dsimp only at hw
  obtain ⟨hm, nar_r_1⟩ := hw
  have hP : va_P (dC, dI) vwCl (wM ad cy mti mow mjo mta mba mib mdi mab mbe mpl mbs mro mlo mth) H := cPost_P ht hB
  have hD : va_D A (wM ad cy mti mow mjo mta mba mib mdi mab mbe mpl mbs mro mlo mth) := cPost_D hFc hB
  refine lv_if_eq (tgt := 20) hx hb dX7_denominator_6 (by decide) (fun c_2 => ?_) (fun c_2 => ?_)
  · have hm := hm.1 c_2
    refine lv_iconst (v := 0) hx hb dX7_denominator_20 (by decide) ?_
    refine lv_iconst (v := 1) hx hb dX7_denominator_21 (by decide) ?_
    refine lv_iconst (v := 1) hx hb dX7_denominator_22 (by decide) ?_
    have hFc := va_freeSame hD hS hA
    refine va_calli (va_runV (As := [.int (0 : Int32), .int (1 : Int32), .int (1 : Int32)]) (rest := []) ⟨hx, hb, hml, hown, hts⟩ (c_X7_goes l dC dI cy ad H.size mti mow mjo mta mba mib mdi mab mbe mpl mbs mro mlo mth (0 : Int32) (1 : Int32) (1 : Int32) _ _ hm) (cwV 3 hts gX7_denominator_X7_goes rfl rfl rfl (by decide +kernel) ⟨Nat.le_of_ble_eq_true rfl, Nat.le_of_ble_eq_true rfl⟩) ⟨cPre_blind, va_recv hK hP (ci := 7) (q0 := 0) rfl rfl, fun U hU hW => ⟨rfl, cPre_at hP hK hD hN hU hW⟩⟩ rfl rfl hl.1 rfl (lv_room (Nat.le_of_ble_eq_true rfl)) dX7_denominator_23 ⟨Nat.zero_le _, Nat.zero_le _⟩) hS (fun q _ h => hFc q h) hFc (fun r_3 u t H locs ht hvm hw hB hz1 hk1 hS => ?_)
    obtain ⟨mth_4, rfl⟩ : ∃ z, z = u := ⟨_, rfl⟩
    try dsimp only at hw
    obtain ⟨hm, nar_r_3⟩ := hw
    have hP : va_P (dC, dI) vwCl (wM ad cy mti mow mjo mta mba mib mdi mab mbe mpl mbs mro mlo mth_4) H := cPost_P ht hB
    have hD : va_D A (wM ad cy mti mow mjo mta mba mib mdi mab mbe mpl mbs mro mlo mth_4) := cPost_D hFc hB
    refine lv_if_ne (tgt := 31) hx hb dX7_denominator_26 (by decide) (fun c_5 => ?_) (fun c_5 => ?_)
    · have hm := hm.2 c_5
      refine lv_aload_n hx hb dX7_denominator_31 rfl (lv_at hl 0 rfl) ?_
      have hFc := va_freeSame hD hS hA
      refine va_callv (va_runV (As := []) (rest := []) ⟨hx, hb, hml, hown, hts⟩ (c_X7_divides l dC dI cy ad H.size mti mow mjo mta mba mib mdi mab mbe mpl mbs mro mlo mth_4  _ _ hm) (cwV 0 hts gX7_denominator_X7_divides rfl rfl rfl (by decide +kernel) ⟨Nat.le_of_ble_eq_true rfl, Nat.le_of_ble_eq_true rfl⟩) ⟨cPre_blind, va_recv hK hP (ci := 7) (q0 := 0) rfl rfl, fun U hU hW => ⟨rfl, cPre_at hP hK hD hN hU hW⟩⟩ rfl rfl hl.1 rfl (lv_room (Nat.le_of_ble_eq_true rfl)) dX7_denominator_32 ⟨Nat.zero_le _, Nat.zero_le _⟩) hS (fun q _ h => hFc q h) hFc (fun u t H locs ht hvm hw hB hz1 hk1 hS => ?_)
      obtain ⟨mta_6, mba_7, mib_8, mdi_9, mab_10, mbe_11⟩ := u
      try dsimp only at hw
      have hm := hw
      have hP : va_P (dC, dI) vwCl (wM ad cy mti mow mjo mta_6 mba_7 mib_8 mdi_9 mab_10 mbe_11 mpl mbs mro mlo mth_4) H := cPost_P ht hB
      have hD : va_D A (wM ad cy mti mow mjo mta_6 mba_7 mib_8 mdi_9 mab_10 mbe_11 mpl mbs mro mlo mth_4) := cPost_D hFc hB
      refine lv_aload_n hx hb dX7_denominator_35 rfl (lv_at hl 0 rfl) ?_
      refine va_get (D := (dC, dI)) (ci := 7) (v := .ref (ad 7)) (C := RX7) (T := TX7) (N := 14) hx hb hts in_X7_denominator_X7 hown hK hP 0 rfl rfl 8 (by decide) (hts _ fl_X7_denominator_30) (fun _ h9 => h9) rfl dX7_denominator_36 ?_
      refine lv_iconst (v := 3) hx hb dX7_denominator_39 (by decide) ?_
      refine lv_iload_n hx hb dX7_denominator_40 rfl (lv_at hl 1 rfl) ?_
      refine lv_imul hx hb dX7_denominator_41 ?_
      refine lv_iload_n hx hb dX7_denominator_42 rfl (lv_at hl 2 rfl) ?_
      refine lv_iadd hx hb dX7_denominator_43 ?_
      have hi_12 := hm.1
      have hm := hm.2
      refine va_lald hx hb hK hP 7 1 rfl rfl hi_12 dX7_denominator_44 ?_
      refine lv_l2i (v := (mbe_11 (((3 : Int32) * x1) + x2).toNatClampNeg).toInt32) hx hb dX7_denominator_45 rfl ?_
      exact hret ((mbe_11 (((3 : Int32) * x1) + x2).toNatClampNeg).toInt32) mta_6 mba_7 mib_8 mdi_9 mab_10 mbe_11 mth_4 H locs ls 46 dX7_denominator_46 ⟨hP, hD, hS⟩ hm
    · have hm := hm.1 c_5
      refine lv_iconst (v := 0) hx hb dX7_denominator_29 (by decide) ?_
      exact hret (0 : Int32) mta mba mib mdi mab mbe mth_4 H locs ls 30 dX7_denominator_30 ⟨hP, hD, hS⟩ hm
  · have hm := hm.2 c_2
    refine lv_iload_n hx hb dX7_denominator_9 rfl (lv_at hl 2 rfl) ?_
    have hFc := va_freeSame hD hS hA
    refine va_calli (va_runS (As := [.int x2]) (rest := [.ref (ad 0)]) ⟨hx, hb, hml, hown, hts⟩ (c_X7_isMachine l dC dI cy ad H.size mti mow mjo mta mba mib mdi mab mbe mpl mbs mro mlo mth x2 _ _ hm) (cwS 1 hts gX7_denominator_X7_isMachine rfl rfl rfl (by decide +kernel) ⟨Nat.le_of_ble_eq_true rfl, Nat.le_of_ble_eq_true rfl⟩) ⟨cPre_blind, fun U hU hW => ⟨rfl, cPre_at hP hK hD hN hU hW⟩⟩ rfl rfl hl.1 rfl (lv_room (Nat.le_of_ble_eq_true rfl)) dX7_denominator_10 ⟨Nat.zero_le _, Nat.zero_le _⟩) hS (fun q _ h => hFc q h) hFc (fun r_13 u t H locs ht hvm hw hB hz1 hk1 hS => ?_)
    try dsimp only at hw
    obtain ⟨hm, nar_r_13⟩ := hw
    have hP : va_P (dC, dI) vwCl (wM ad cy mti mow mjo mta mba mib mdi mab mbe mpl mbs mro mlo mth) H := cPost_P ht hB
    have hD : va_D A (wM ad cy mti mow mjo mta mba mib mdi mab mbe mpl mbs mro mlo mth) := cPost_D hFc hB
    refine lv_if_eq (tgt := 20) hx hb dX7_denominator_13 (by decide) (fun c_14 => ?_) (fun c_14 => ?_)
    · have hm := hm.1 c_14
      refine lv_iconst (v := 0) hx hb dX7_denominator_20 (by decide) ?_
      refine lv_iconst (v := 1) hx hb dX7_denominator_21 (by decide) ?_
      refine lv_iconst (v := 1) hx hb dX7_denominator_22 (by decide) ?_
      have hFc := va_freeSame hD hS hA
      refine va_calli (va_runV (As := [.int (0 : Int32), .int (1 : Int32), .int (1 : Int32)]) (rest := []) ⟨hx, hb, hml, hown, hts⟩ (c_X7_goes l dC dI cy ad H.size mti mow mjo mta mba mib mdi mab mbe mpl mbs mro mlo mth (0 : Int32) (1 : Int32) (1 : Int32) _ _ hm) (cwV 3 hts gX7_denominator_X7_goes rfl rfl rfl (by decide +kernel) ⟨Nat.le_of_ble_eq_true rfl, Nat.le_of_ble_eq_true rfl⟩) ⟨cPre_blind, va_recv hK hP (ci := 7) (q0 := 0) rfl rfl, fun U hU hW => ⟨rfl, cPre_at hP hK hD hN hU hW⟩⟩ rfl rfl hl.1 rfl (lv_room (Nat.le_of_ble_eq_true rfl)) dX7_denominator_23 ⟨Nat.zero_le _, Nat.zero_le _⟩) hS (fun q _ h => hFc q h) hFc (fun r_15 u t H locs ht hvm hw hB hz1 hk1 hS => ?_)
      obtain ⟨mth_16, rfl⟩ : ∃ z, z = u := ⟨_, rfl⟩
      try dsimp only at hw
      obtain ⟨hm, nar_r_15⟩ := hw
      have hP : va_P (dC, dI) vwCl (wM ad cy mti mow mjo mta mba mib mdi mab mbe mpl mbs mro mlo mth_16) H := cPost_P ht hB
      have hD : va_D A (wM ad cy mti mow mjo mta mba mib mdi mab mbe mpl mbs mro mlo mth_16) := cPost_D hFc hB
      refine lv_if_ne (tgt := 31) hx hb dX7_denominator_26 (by decide) (fun c_17 => ?_) (fun c_17 => ?_)
      · have hm := hm.2 c_17
        refine lv_aload_n hx hb dX7_denominator_31 rfl (lv_at hl 0 rfl) ?_
        have hFc := va_freeSame hD hS hA
        refine va_callv (va_runV (As := []) (rest := []) ⟨hx, hb, hml, hown, hts⟩ (c_X7_divides l dC dI cy ad H.size mti mow mjo mta mba mib mdi mab mbe mpl mbs mro mlo mth_16  _ _ hm) (cwV 0 hts gX7_denominator_X7_divides rfl rfl rfl (by decide +kernel) ⟨Nat.le_of_ble_eq_true rfl, Nat.le_of_ble_eq_true rfl⟩) ⟨cPre_blind, va_recv hK hP (ci := 7) (q0 := 0) rfl rfl, fun U hU hW => ⟨rfl, cPre_at hP hK hD hN hU hW⟩⟩ rfl rfl hl.1 rfl (lv_room (Nat.le_of_ble_eq_true rfl)) dX7_denominator_32 ⟨Nat.zero_le _, Nat.zero_le _⟩) hS (fun q _ h => hFc q h) hFc (fun u t H locs ht hvm hw hB hz1 hk1 hS => ?_)
        obtain ⟨mta_18, mba_19, mib_20, mdi_21, mab_22, mbe_23⟩ := u
        try dsimp only at hw
        have hm := hw
        have hP : va_P (dC, dI) vwCl (wM ad cy mti mow mjo mta_18 mba_19 mib_20 mdi_21 mab_22 mbe_23 mpl mbs mro mlo mth_16) H := cPost_P ht hB
        have hD : va_D A (wM ad cy mti mow mjo mta_18 mba_19 mib_20 mdi_21 mab_22 mbe_23 mpl mbs mro mlo mth_16) := cPost_D hFc hB
        refine lv_aload_n hx hb dX7_denominator_35 rfl (lv_at hl 0 rfl) ?_
        refine va_get (D := (dC, dI)) (ci := 7) (v := .ref (ad 7)) (C := RX7) (T := TX7) (N := 14) hx hb hts in_X7_denominator_X7 hown hK hP 0 rfl rfl 8 (by decide) (hts _ fl_X7_denominator_30) (fun _ h9 => h9) rfl dX7_denominator_36 ?_
        refine lv_iconst (v := 3) hx hb dX7_denominator_39 (by decide) ?_
        refine lv_iload_n hx hb dX7_denominator_40 rfl (lv_at hl 1 rfl) ?_
        refine lv_imul hx hb dX7_denominator_41 ?_
        refine lv_iload_n hx hb dX7_denominator_42 rfl (lv_at hl 2 rfl) ?_
        refine lv_iadd hx hb dX7_denominator_43 ?_
        have hi_24 := hm.1
        have hm := hm.2
        refine va_lald hx hb hK hP 7 1 rfl rfl hi_24 dX7_denominator_44 ?_
        refine lv_l2i (v := (mbe_23 (((3 : Int32) * x1) + x2).toNatClampNeg).toInt32) hx hb dX7_denominator_45 rfl ?_
        exact hret ((mbe_23 (((3 : Int32) * x1) + x2).toNatClampNeg).toInt32) mta_18 mba_19 mib_20 mdi_21 mab_22 mbe_23 mth_16 H locs ls 46 dX7_denominator_46 ⟨hP, hD, hS⟩ hm
      · have hm := hm.1 c_17
        refine lv_iconst (v := 0) hx hb dX7_denominator_29 (by decide) ?_
        exact hret (0 : Int32) mta mba mib mdi mab mbe mth_16 H locs ls 30 dX7_denominator_30 ⟨hP, hD, hS⟩ hm
    · have hm := hm.2 c_14
      refine lv_iconst (v := 1) hx hb dX7_denominator_16 (by decide) ?_
      refine lv_goto (tgt := 21) hx hb dX7_denominator_17 (by decide) ?_
      refine lv_iconst (v := 1) hx hb dX7_denominator_21 (by decide) ?_
      refine lv_iconst (v := 1) hx hb dX7_denominator_22 (by decide) ?_
      have hFc := va_freeSame hD hS hA
      refine va_calli (va_runV (As := [.int (1 : Int32), .int (1 : Int32), .int (1 : Int32)]) (rest := []) ⟨hx, hb, hml, hown, hts⟩ (c_X7_goes l dC dI cy ad H.size mti mow mjo mta mba mib mdi mab mbe mpl mbs mro mlo mth (1 : Int32) (1 : Int32) (1 : Int32) _ _ hm) (cwV 3 hts gX7_denominator_X7_goes rfl rfl rfl (by decide +kernel) ⟨Nat.le_of_ble_eq_true rfl, Nat.le_of_ble_eq_true rfl⟩) ⟨cPre_blind, va_recv hK hP (ci := 7) (q0 := 0) rfl rfl, fun U hU hW => ⟨rfl, cPre_at hP hK hD hN hU hW⟩⟩ rfl rfl hl.1 rfl (lv_room (Nat.le_of_ble_eq_true rfl)) dX7_denominator_23 ⟨Nat.zero_le _, Nat.zero_le _⟩) hS (fun q _ h => hFc q h) hFc (fun r_25 u t H locs ht hvm hw hB hz1 hk1 hS => ?_)
      obtain ⟨mth_26, rfl⟩ : ∃ z, z = u := ⟨_, rfl⟩
      try dsimp only at hw
      obtain ⟨hm, nar_r_25⟩ := hw
      have hP : va_P (dC, dI) vwCl (wM ad cy mti mow mjo mta mba mib mdi mab mbe mpl mbs mro mlo mth_26) H := cPost_P ht hB
      have hD : va_D A (wM ad cy mti mow mjo mta mba mib mdi mab mbe mpl mbs mro mlo mth_26) := cPost_D hFc hB
      refine lv_if_ne (tgt := 31) hx hb dX7_denominator_26 (by decide) (fun c_27 => ?_) (fun c_27 => ?_)
      · have hm := hm.2 c_27
        refine lv_aload_n hx hb dX7_denominator_31 rfl (lv_at hl 0 rfl) ?_
        have hFc := va_freeSame hD hS hA
        refine va_callv (va_runV (As := []) (rest := []) ⟨hx, hb, hml, hown, hts⟩ (c_X7_divides l dC dI cy ad H.size mti mow mjo mta mba mib mdi mab mbe mpl mbs mro mlo mth_26  _ _ hm) (cwV 0 hts gX7_denominator_X7_divides rfl rfl rfl (by decide +kernel) ⟨Nat.le_of_ble_eq_true rfl, Nat.le_of_ble_eq_true rfl⟩) ⟨cPre_blind, va_recv hK hP (ci := 7) (q0 := 0) rfl rfl, fun U hU hW => ⟨rfl, cPre_at hP hK hD hN hU hW⟩⟩ rfl rfl hl.1 rfl (lv_room (Nat.le_of_ble_eq_true rfl)) dX7_denominator_32 ⟨Nat.zero_le _, Nat.zero_le _⟩) hS (fun q _ h => hFc q h) hFc (fun u t H locs ht hvm hw hB hz1 hk1 hS => ?_)
        obtain ⟨mta_28, mba_29, mib_30, mdi_31, mab_32, mbe_33⟩ := u
        try dsimp only at hw
        have hm := hw
        have hP : va_P (dC, dI) vwCl (wM ad cy mti mow mjo mta_28 mba_29 mib_30 mdi_31 mab_32 mbe_33 mpl mbs mro mlo mth_26) H := cPost_P ht hB
        have hD : va_D A (wM ad cy mti mow mjo mta_28 mba_29 mib_30 mdi_31 mab_32 mbe_33 mpl mbs mro mlo mth_26) := cPost_D hFc hB
        refine lv_aload_n hx hb dX7_denominator_35 rfl (lv_at hl 0 rfl) ?_
        refine va_get (D := (dC, dI)) (ci := 7) (v := .ref (ad 7)) (C := RX7) (T := TX7) (N := 14) hx hb hts in_X7_denominator_X7 hown hK hP 0 rfl rfl 8 (by decide) (hts _ fl_X7_denominator_30) (fun _ h9 => h9) rfl dX7_denominator_36 ?_
        refine lv_iconst (v := 3) hx hb dX7_denominator_39 (by decide) ?_
        refine lv_iload_n hx hb dX7_denominator_40 rfl (lv_at hl 1 rfl) ?_
        refine lv_imul hx hb dX7_denominator_41 ?_
        refine lv_iload_n hx hb dX7_denominator_42 rfl (lv_at hl 2 rfl) ?_
        refine lv_iadd hx hb dX7_denominator_43 ?_
        have hi_34 := hm.1
        have hm := hm.2
        refine va_lald hx hb hK hP 7 1 rfl rfl hi_34 dX7_denominator_44 ?_
        refine lv_l2i (v := (mbe_33 (((3 : Int32) * x1) + x2).toNatClampNeg).toInt32) hx hb dX7_denominator_45 rfl ?_
        exact hret ((mbe_33 (((3 : Int32) * x1) + x2).toNatClampNeg).toInt32) mta_28 mba_29 mib_30 mdi_31 mab_32 mbe_33 mth_26 H locs ls 46 dX7_denominator_46 ⟨hP, hD, hS⟩ hm
      · have hm := hm.1 c_27
        refine lv_iconst (v := 0) hx hb dX7_denominator_29 (by decide) ?_
        exact hret (0 : Int32) mta mba mib mdi mab mbe mth_26 H locs ls 30 dX7_denominator_30 ⟨hP, hD, hS⟩ hm

set_option maxHeartbeats 4000000 in
set_option maxRecDepth 100000 in
theorem c_X7_denominator (l : Launch) (dC : Nat → ClassId) (dI : Nat → Nat → Nat) (cy : Nat → ClassId) (ad : Nat → Nat) (sz : Nat) (mti : Nat → Int32) (mow : Nat → Int32) (mjo : Int32) (mta : Nat → Int64) (mba : Nat → Int32) (mib : Nat → Int32) (mdi : Int64) (mab : Nat → Int64) (mbe : Nat → Int64) (mpl : Nat → Int32) (mbs : Nat → Int32) (mro : Nat → Int32) (mlo : Nat → Int32) (mth : Int32) (x1 : Int32) (x2 : Int32) (N : Nat) (Q : Int32 → (Nat → Int64) → (Nat → Int32) → (Nat → Int32) → Int64 → (Nat → Int64) → (Nat → Int64) → Int32 → Prop) (hm : p_X7_denominator N mti mjo Q x1 x2 mta mba mib mdi mab mbe mth) : Met l yX7_denominator wsX7_denominator rmX7_denominator (va_Pc [.ref (ad 0), .int x1, .int x2] (cPre dC dI cy (wM ad cy mti mow mjo mta mba mib mdi mab mbe mpl mbs mro mlo mth) sz)) (va_Qi (fun (r : Int32) (u : (Nat → Int64) × (Nat → Int32) × (Nat → Int32) × Int64 × (Nat → Int64) × (Nat → Int64) × Int32) => Q r u.1 u.2.1 u.2.2.1 u.2.2.2.1 u.2.2.2.2.1 u.2.2.2.2.2.1 u.2.2.2.2.2.2) (fun u t => cPost dC dI cy (wM ad cy mti mow mjo mta mba mib mdi mab mbe mpl mbs mro mlo mth) sz (wM ad cy mti mow mjo (u.1) (u.2.1) (u.2.2.1) (u.2.2.2.1) (u.2.2.2.2.1) (u.2.2.2.2.2.1) mpl mbs mro mlo (u.2.2.2.2.2.2)) t) (va_A (wM ad cy mti mow mjo mta mba mib mdi mab mbe mpl mbs mro mlo mth) sz)) 0 0 (va_A (wM ad cy mti mow mjo mta mba mib mdi mab mbe mpl mbs mro mlo mth) sz) := by
  refine Met.ofW (cc := cX7_denominator) (maxL := 3) (ret := (some .int)) (by decide) rfl ?_
  intro p e s m args below meth c s₁ B hml hv
  obtain ⟨rfl, hsz, hP, hK, hD0, hN⟩ := hv
  have hts := atoms_spec (ws := wsX7_denominator) B.pre
  have hown : s.vm.findClass RX7 = some m.cls := findClass_of_methodNamed B.named
  subst hsz
  have hD := hD0.self (sz := s.heap.size)
  generalize hAe : va_A (wM ad cy mti mow mjo mta mba mib mdi mab mbe mpl mbs mro mlo mth) s.heap.size = A at hD ⊢
  have hA : ∀ q : Nat, s.heap.size ≤ q → A q := fun q h => by rw [← hAe]; exact Or.inr h
  have hl := lv_entry ([.ref (ad 0), .int x1, .int x2]) (n := 3) (Nat.le_of_ble_eq_true rfl)
  rw [lg_entry_eq]
  generalize (lg_sl ([.ref (ad 0), .int x1, .int x2]) ++ List.replicate (3 - (lg_sl ([.ref (ad 0), .int x1, .int x2])).length) Slot.unset).toArray = ls at hl ⊢
  have hl : lv_has ls 3 [(0, .ref (ad 0)), (1, .int x1), (2, .int x2)] := hl
  exact k_X7_denominator_0 ⟨B.exec, B.bytes, hml, B.returns, hown, hts, B.notSynchronized, hK, hA, hN⟩ x1 x2 mta mba mib mdi mab mbe mth s.heap [] ls hm ⟨hP, hD, va_S.rf⟩ (lv_sub hl [0, 1, 2] rfl) (fun r mta mba mib mdi mab mbe mth H locs ls pc hdg hSt hq => W.iret B.exec B.bytes B.returns (fun t ht hW => ⟨⟨r, (mta, mba, mib, mdi, mab, mbe, mth), rfl, hq, cPost_of hAe ht hW.alike hSt hK⟩, hSt.2.2.F ht⟩) hSt.2.2.2.2 hdg B.notSynchronized)

-- ===== X7_whole
theorem fl_X7_whole_27 : Cond.fieldLink RX7 27 "UnlikeUnionModel" "above" "[J" ∈ wsX7_whole := by decide +kernel
theorem fl_X7_whole_30 : Cond.fieldLink RX7 30 "UnlikeUnionModel" "below" "[J" ∈ wsX7_whole := by decide +kernel
theorem in_X7_whole_X7 : ∀ w ∈ u_ws RX7 TX7 14, w ∈ wsX7_whole := by decide +kernel
abbrev rmX7_whole : Room := { frames := 1, cells := 0, slots := 0, locals := 65 }
def p_X7_whole_4 (N : Nat) (mab : Nat → Int64) (mbe : Nat → Int64) (Q : Int32 → Prop) : Nat → Int32 → Int32 → Int32 → Prop
  | 0 => fun _ _ _ => False
  | n + 1 => fun x1 x2 x3 => ((3 : Int32) ≤ x3 → (Q x2)) ∧ (¬ (3 : Int32) ≤ x3 → (∀ x4_2 : Int32, x4_2 = ((3 : Int32) * x1) + x3 → (vp_in x4_2 21 ∧ (vp_in x4_2 21 ∧ (((mab (x4_2).toNatClampNeg) = (mbe (x4_2).toNatClampNeg) → (∀ x3_7 : Int32, x3_7 = x3 + (1 : Int32) → (p_X7_whole_4 N mab mbe Q n x1 x3 x3_7))) ∧ (¬ (mab (x4_2).toNatClampNeg) = (mbe (x4_2).toNatClampNeg) → (∀ x3_6 : Int32, x3_6 = x3 + (1 : Int32) → (p_X7_whole_4 N mab mbe Q n x1 x2 x3_6))))))))

def p_X7_whole (N : Nat) (mab : Nat → Int64) (mbe : Nat → Int64) (Q : Int32 → Prop) (x1 : Int32) : Prop :=
  p_X7_whole_4 N mab mbe Q N x1 (-1 : Int32) (0 : Int32)

set_option maxHeartbeats 4000000 in
set_option maxRecDepth 100000 in
theorem k_X7_whole_4 {N : Nat} {mti : Nat → Int32} {mow : Nat → Int32} {mjo : Int32} {mta : Nat → Int64} {mba : Nat → Int32} {mib : Nat → Int32} {mdi : Int64} {mab : Nat → Int64} {mbe : Nat → Int64} {mpl : Nat → Int32} {mbs : Nat → Int32} {mro : Nat → Int32} {mlo : Nat → Int32} {mth : Int32} {Q : Int32 → Prop} (C0 : cxM cX7_whole 5 (some .int) RX7 wsX7_whole p s m args meth c dC dI cy A) :
    ∀ (n : Nat) (x1 : Int32) (x2 : Int32) (x3 : Int32) (H : Heap) (locs : List Loc) (ls : Array Slot) (hm : p_X7_whole_4 N mab mbe Q n x1 x2 x3) (hSt : stC dC dI A s (wM ad cy mti mow mjo mta mba mib mdi mab mbe mpl mbs mro mlo mth) H locs) (hl : lv_has ls 5 [(0, .ref (ad 0)), (1, .int x1), (2, .int x2), (3, .int x3)]) (hret : ∀ (r : Int32) (H : Heap) (locs : List Loc) (ls : Array Slot) (pc : Nat), decode cX7_whole pc = .ok (.ireturn, 1) → stC dC dI A s (wM ad cy mti mow mjo mta mba mib mdi mab mbe mpl mbs mro mlo mth) H locs → Q r → W p l e rmX7_whole s m args below meth c H locs 0 0 Z (F0 m pc ls [.int r])), W p l e rmX7_whole s m args below meth c H locs 0 0 Z (F0 m 4 ls []) := by
  obtain ⟨hx, hb, hml, hr, hown, hts, hlocks, hK, hA, hN⟩ := id C0
  intro n
  induction n with
  | zero => intro x1 x2 x3 H locs ls hm; exact False.elim hm
  | succ n ih =>
    intro x1 x2 x3 H locs ls hm hSt hl hret
    obtain ⟨hP, hD, hS⟩ := hSt
    unfold p_X7_whole_4 at hm
    refine lv_iload_n hx hb dX7_whole_4 rfl (lv_at hl 3 rfl) ?_
    refine lv_iconst (v := 3) hx hb dX7_whole_5 (by decide) ?_
    refine lv_icmp_ge (tgt := 46) hx hb dX7_whole_6 (by decide) (fun c_1 => ?_) (fun c_1 => ?_)
    · have hm := hm.1 c_1
      refine lv_iload_n hx hb dX7_whole_46 rfl (lv_at hl 2 rfl) ?_
      exact hret x2 H locs ls 47 dX7_whole_47 ⟨hP, hD, hS⟩ hm
    · have hm := hm.2 c_1
      refine lv_iconst (v := 3) hx hb dX7_whole_9 (by decide) ?_
      refine lv_iload_n hx hb dX7_whole_10 rfl (lv_at hl 1 rfl) ?_
      refine lv_imul hx hb dX7_whole_11 ?_
      refine lv_iload_n hx hb dX7_whole_12 rfl (lv_at hl 3 rfl) ?_
      refine lv_iadd hx hb dX7_whole_13 ?_
      refine lv_topi (fun x4_2 ex4_2 => ?_)
      have hm := hm x4_2 ex4_2
      refine lv_istore (lv' := [(4, .int x4_2), (0, .ref (ad 0)), (1, .int x1), (2, .int x2), (3, .int x3)]) hx hb dX7_whole_14 hl (by decide) rfl (fun ls hl => ?_)
      refine lv_aload_n hx hb dX7_whole_16 rfl (lv_at hl 1 rfl) ?_
      refine va_get (D := (dC, dI)) (ci := 7) (v := .ref (ad 6)) (C := RX7) (T := TX7) (N := 14) hx hb hts in_X7_whole_X7 hown hK hP 0 rfl rfl 7 (by decide) (hts _ fl_X7_whole_27) (fun _ h9 => h9) rfl dX7_whole_17 ?_
      refine lv_iload hx hb dX7_whole_20 (lv_at hl 0 rfl) ?_
      have hi_3 := hm.1
      have hm := hm.2
      refine va_lald hx hb hK hP 6 1 rfl rfl hi_3 dX7_whole_22 ?_
      refine lv_aload_n hx hb dX7_whole_23 rfl (lv_at hl 1 rfl) ?_
      refine va_get (D := (dC, dI)) (ci := 7) (v := .ref (ad 7)) (C := RX7) (T := TX7) (N := 14) hx hb hts in_X7_whole_X7 hown hK hP 0 rfl rfl 8 (by decide) (hts _ fl_X7_whole_30) (fun _ h9 => h9) rfl dX7_whole_24 ?_
      refine lv_iload hx hb dX7_whole_27 (lv_at hl 0 rfl) ?_
      have hi_4 := hm.1
      have hm := hm.2
      refine va_lald hx hb hK hP 7 1 rfl rfl hi_4 dX7_whole_29 ?_
      refine lq_ne (tgt := 38) hx hb dX7_whole_30 dX7_whole_31 (by decide) (fun c_5 => ?_) (fun c_5 => ?_)
      · have hm := hm.2 c_5
        refine lv_iload_n hx hb dX7_whole_38 rfl (lv_at hl 3 rfl) ?_
        refine lv_istore_n (lv' := [(2, .int x2), (4, .int x4_2), (0, .ref (ad 0)), (1, .int x1), (3, .int x3)]) hx hb dX7_whole_39 rfl hl (by decide) rfl (fun ls hl => ?_)
        obtain ⟨x3_6, ex3_6⟩ : ∃ y : Int32, y = x3 + (1 : Int32) := ⟨_, rfl⟩
        have hm := hm x3_6 ex3_6
        refine lv_iinc (v := x3_6) (lv' := [(3, .int x3_6), (2, .int x2), (4, .int x4_2), (0, .ref (ad 0)), (1, .int x1)]) hx hb dX7_whole_40 hl (k := 4) rfl (by rw [ex3_6]; rfl) (by decide) rfl (fun ls hl => ?_)
        refine lv_goto (tgt := 4) hx hb dX7_whole_43 (by decide) ?_
        exact ih x1 x2 x3_6 H locs ls hm ⟨hP, hD, hS⟩ (lv_sub hl [3, 4, 1, 0] rfl) hret
      · have hm := hm.1 c_5
        refine lv_iload_n hx hb dX7_whole_34 rfl (lv_at hl 4 rfl) ?_
        refine lv_goto (tgt := 39) hx hb dX7_whole_35 (by decide) ?_
        refine lv_istore_n (lv' := [(2, .int x3), (4, .int x4_2), (0, .ref (ad 0)), (1, .int x1), (3, .int x3)]) hx hb dX7_whole_39 rfl hl (by decide) rfl (fun ls hl => ?_)
        obtain ⟨x3_7, ex3_7⟩ : ∃ y : Int32, y = x3 + (1 : Int32) := ⟨_, rfl⟩
        have hm := hm x3_7 ex3_7
        refine lv_iinc (v := x3_7) (lv' := [(3, .int x3_7), (2, .int x3), (4, .int x4_2), (0, .ref (ad 0)), (1, .int x1)]) hx hb dX7_whole_40 hl (k := 4) rfl (by rw [ex3_7]; rfl) (by decide) rfl (fun ls hl => ?_)
        refine lv_goto (tgt := 4) hx hb dX7_whole_43 (by decide) ?_
        exact ih x1 x3 x3_7 H locs ls hm ⟨hP, hD, hS⟩ (lv_sub hl [3, 4, 1, 0] rfl) hret

set_option maxHeartbeats 4000000 in
set_option maxRecDepth 100000 in
theorem k_X7_whole_0 {N : Nat} {mti : Nat → Int32} {mow : Nat → Int32} {mjo : Int32} {mta : Nat → Int64} {mba : Nat → Int32} {mib : Nat → Int32} {mdi : Int64} {mab : Nat → Int64} {mbe : Nat → Int64} {mpl : Nat → Int32} {mbs : Nat → Int32} {mro : Nat → Int32} {mlo : Nat → Int32} {mth : Int32} {Q : Int32 → Prop} (C0 : cxM cX7_whole 5 (some .int) RX7 wsX7_whole p s m args meth c dC dI cy A) :
    ∀ (x1 : Int32) (H : Heap) (locs : List Loc) (ls : Array Slot) (hm : p_X7_whole N mab mbe Q x1) (hSt : stC dC dI A s (wM ad cy mti mow mjo mta mba mib mdi mab mbe mpl mbs mro mlo mth) H locs) (hl : lv_has ls 5 [(0, .ref (ad 0)), (1, .int x1)]) (hret : ∀ (r : Int32) (H : Heap) (locs : List Loc) (ls : Array Slot) (pc : Nat), decode cX7_whole pc = .ok (.ireturn, 1) → stC dC dI A s (wM ad cy mti mow mjo mta mba mib mdi mab mbe mpl mbs mro mlo mth) H locs → Q r → W p l e rmX7_whole s m args below meth c H locs 0 0 Z (F0 m pc ls [.int r])), W p l e rmX7_whole s m args below meth c H locs 0 0 Z (F0 m 0 ls []) := by
  obtain ⟨hx, hb, hml, hr, hown, hts, hlocks, hK, hA, hN⟩ := id C0
  intro x1 H locs ls hm hSt hl hret
  obtain ⟨hP, hD, hS⟩ := hSt
  unfold p_X7_whole at hm
  refine lv_iconst (v := -1) hx hb dX7_whole_0 (by decide) ?_
  refine lv_istore_n (lv' := [(2, .int (-1 : Int32)), (0, .ref (ad 0)), (1, .int x1)]) hx hb dX7_whole_1 rfl hl (by decide) rfl (fun ls hl => ?_)
  refine lv_iconst (v := 0) hx hb dX7_whole_2 (by decide) ?_
  refine lv_istore_n (lv' := [(3, .int (0 : Int32)), (2, .int (-1 : Int32)), (0, .ref (ad 0)), (1, .int x1)]) hx hb dX7_whole_3 rfl hl (by decide) rfl (fun ls hl => ?_)
  exact k_X7_whole_4 C0 N x1 (-1 : Int32) (0 : Int32) H locs ls hm ⟨hP, hD, hS⟩ (lv_sub hl [2, 3, 1, 0] rfl) hret

set_option maxHeartbeats 4000000 in
set_option maxRecDepth 100000 in
theorem c_X7_whole (l : Launch) (dC : Nat → ClassId) (dI : Nat → Nat → Nat) (cy : Nat → ClassId) (ad : Nat → Nat) (sz : Nat) (mti : Nat → Int32) (mow : Nat → Int32) (mjo : Int32) (mta : Nat → Int64) (mba : Nat → Int32) (mib : Nat → Int32) (mdi : Int64) (mab : Nat → Int64) (mbe : Nat → Int64) (mpl : Nat → Int32) (mbs : Nat → Int32) (mro : Nat → Int32) (mlo : Nat → Int32) (mth : Int32) (x1 : Int32) (N : Nat) (Q : Int32 → Prop) (hm : p_X7_whole N mab mbe Q x1) : Met l yX7_whole wsX7_whole rmX7_whole (va_Pc [.ref (ad 0), .int x1] (cPre dC dI cy (wM ad cy mti mow mjo mta mba mib mdi mab mbe mpl mbs mro mlo mth) sz)) (va_Qi (fun (r : Int32) (u : Unit) => Q r) (fun u t => cPost dC dI cy (wM ad cy mti mow mjo mta mba mib mdi mab mbe mpl mbs mro mlo mth) sz (wM ad cy mti mow mjo mta mba mib mdi mab mbe mpl mbs mro mlo mth) t) (va_A (wM ad cy mti mow mjo mta mba mib mdi mab mbe mpl mbs mro mlo mth) sz)) 0 0 (va_A (wM ad cy mti mow mjo mta mba mib mdi mab mbe mpl mbs mro mlo mth) sz) := by
  refine Met.ofW (cc := cX7_whole) (maxL := 5) (ret := (some .int)) (by decide) rfl ?_
  intro p e s m args below meth c s₁ B hml hv
  obtain ⟨rfl, hsz, hP, hK, hD0, hN⟩ := hv
  have hts := atoms_spec (ws := wsX7_whole) B.pre
  have hown : s.vm.findClass RX7 = some m.cls := findClass_of_methodNamed B.named
  subst hsz
  have hD := hD0.self (sz := s.heap.size)
  generalize hAe : va_A (wM ad cy mti mow mjo mta mba mib mdi mab mbe mpl mbs mro mlo mth) s.heap.size = A at hD ⊢
  have hA : ∀ q : Nat, s.heap.size ≤ q → A q := fun q h => by rw [← hAe]; exact Or.inr h
  have hl := lv_entry ([.ref (ad 0), .int x1]) (n := 5) (Nat.le_of_ble_eq_true rfl)
  rw [lg_entry_eq]
  generalize (lg_sl ([.ref (ad 0), .int x1]) ++ List.replicate (5 - (lg_sl ([.ref (ad 0), .int x1])).length) Slot.unset).toArray = ls at hl ⊢
  have hl : lv_has ls 5 [(0, .ref (ad 0)), (1, .int x1)] := hl
  exact k_X7_whole_0 ⟨B.exec, B.bytes, hml, B.returns, hown, hts, B.notSynchronized, hK, hA, hN⟩ x1 s.heap [] ls hm ⟨hP, hD, va_S.rf⟩ (lv_sub hl [0, 1] rfl) (fun r H locs ls pc hdg hSt hq => W.iret B.exec B.bytes B.returns (fun t ht hW => ⟨⟨r, (), rfl, hq, cPost_of hAe ht hW.alike hSt hK⟩, hSt.2.2.F ht⟩) hSt.2.2.2.2 hdg B.notSynchronized)

-- ===== X7_isDivided
abbrev rmX7_isDivided : Room := { frames := 7, cells := 0, slots := 0, locals := 562 }
def p_X7_isDivided (N : Nat) (mti : Nat → Int32) (mjo : Int32) (Q : Int32 → (Nat → Int64) → (Nat → Int32) → (Nat → Int32) → Int64 → (Nat → Int64) → (Nat → Int64) → Int32 → Prop) (x1 : Int32) (mta : Nat → Int64) (mba : Nat → Int32) (mib : Nat → Int32) (mdi : Int64) (mab : Nat → Int64) (mbe : Nat → Int64) (mth : Int32) : Prop :=
  p_X7_isJob N mjo (fun r_1 => p_X7_goes N (fun r_2 mth_3 => (r_2 = 0 → (Q (0 : Int32) mta mba mib mdi mab mbe mth_3)) ∧ (¬ r_2 = 0 → (p_X7_divides N mti mjo (fun mta_5 mba_6 mib_7 mdi_8 mab_9 mbe_10 => p_X7_whole N mab_9 mbe_10 (fun r_11 => (0 ≤ r_11 → (Q (0 : Int32) mta_5 mba_6 mib_7 mdi_8 mab_9 mbe_10 mth_3)) ∧ (¬ 0 ≤ r_11 → (Q (1 : Int32) mta_5 mba_6 mib_7 mdi_8 mab_9 mbe_10 mth_3))) x1) mta mba mib mdi mab mbe))) r_1 (1 : Int32) (1 : Int32) mth) x1

set_option maxHeartbeats 4000000 in
set_option maxRecDepth 100000 in
theorem k_X7_isDivided_0 {N : Nat} {mti : Nat → Int32} {mow : Nat → Int32} {mjo : Int32} {mpl : Nat → Int32} {mbs : Nat → Int32} {mro : Nat → Int32} {mlo : Nat → Int32} {Q : Int32 → (Nat → Int64) → (Nat → Int32) → (Nat → Int32) → Int64 → (Nat → Int64) → (Nat → Int64) → Int32 → Prop} (C0 : cxM cX7_isDivided 2 (some .boolean) RX7 wsX7_isDivided p s m args meth c dC dI cy A) :
    ∀ (x1 : Int32) (mta : Nat → Int64) (mba : Nat → Int32) (mib : Nat → Int32) (mdi : Int64) (mab : Nat → Int64) (mbe : Nat → Int64) (mth : Int32) (H : Heap) (locs : List Loc) (ls : Array Slot) (hm : p_X7_isDivided N mti mjo Q x1 mta mba mib mdi mab mbe mth) (hSt : stC dC dI A s (wM ad cy mti mow mjo mta mba mib mdi mab mbe mpl mbs mro mlo mth) H locs) (hl : lv_has ls 2 [(0, .ref (ad 0)), (1, .int x1)]) (hret : ∀ (r : Int32) (mta : Nat → Int64) (mba : Nat → Int32) (mib : Nat → Int32) (mdi : Int64) (mab : Nat → Int64) (mbe : Nat → Int64) (mth : Int32) (H : Heap) (locs : List Loc) (ls : Array Slot) (pc : Nat), decode cX7_isDivided pc = .ok (.ireturn, 1) → narrow .boolean (.int r) = .int r → stC dC dI A s (wM ad cy mti mow mjo mta mba mib mdi mab mbe mpl mbs mro mlo mth) H locs → Q r mta mba mib mdi mab mbe mth → W p l e rmX7_isDivided s m args below meth c H locs 0 0 Z (F0 m pc ls [.int r])), W p l e rmX7_isDivided s m args below meth c H locs 0 0 Z (F0 m 0 ls []) := by
  obtain ⟨hx, hb, hml, hr, hown, hts, hlocks, hK, hA, hN⟩ := id C0
  intro x1 mta mba mib mdi mab mbe mth H locs ls hm hSt hl hret
  obtain ⟨hP, hD, hS⟩ := hSt
  unfold p_X7_isDivided at hm
  refine lv_aload_n hx hb dX7_isDivided_0 rfl (lv_at hl 0 rfl) ?_
  refine lv_aload_n hx hb dX7_isDivided_1 rfl (lv_at hl 0 rfl) ?_
  refine lv_iload_n hx hb dX7_isDivided_2 rfl (lv_at hl 1 rfl) ?_
  have hFc := va_freeSame hD hS hA
  refine va_calli (va_runV (As := [.int x1]) (rest := [.ref (ad 0)]) ⟨hx, hb, hml, hown, hts⟩ (c_X7_isJob l dC dI cy ad H.size mti mow mjo mta mba mib mdi mab mbe mpl mbs mro mlo mth x1 _ _ hm) (cwV 1 hts gX7_isDivided_X7_isJob rfl rfl rfl (by decide +kernel) ⟨Nat.le_of_ble_eq_true rfl, Nat.le_of_ble_eq_true rfl⟩) ⟨cPre_blind, va_recv hK hP (ci := 7) (q0 := 0) rfl rfl, fun U hU hW => ⟨rfl, cPre_at hP hK hD hN hU hW⟩⟩ rfl rfl hl.1 rfl (lv_room (Nat.le_of_ble_eq_true rfl)) dX7_isDivided_3 ⟨Nat.zero_le _, Nat.zero_le _⟩) hS (fun q _ h => hFc q h) hFc (fun r_1 u t H locs ht hvm hw hB hz1 hk1 hS => ?_)
  try dsimp only at hw
  obtain ⟨hm, nar_r_1⟩ := hw
  have hP : va_P (dC, dI) vwCl (wM ad cy mti mow mjo mta mba mib mdi mab mbe mpl mbs mro mlo mth) H := cPost_P ht hB
  have hD : va_D A (wM ad cy mti mow mjo mta mba mib mdi mab mbe mpl mbs mro mlo mth) := cPost_D hFc hB
  refine lv_iconst (v := 1) hx hb dX7_isDivided_6 (by decide) ?_
  refine lv_iconst (v := 1) hx hb dX7_isDivided_7 (by decide) ?_
  have hFc := va_freeSame hD hS hA
  refine va_calli (va_runV (As := [.int r_1, .int (1 : Int32), .int (1 : Int32)]) (rest := []) ⟨hx, hb, hml, hown, hts⟩ (c_X7_goes l dC dI cy ad H.size mti mow mjo mta mba mib mdi mab mbe mpl mbs mro mlo mth r_1 (1 : Int32) (1 : Int32) _ _ hm) (cwV 3 hts gX7_isDivided_X7_goes rfl rfl rfl (by decide +kernel) ⟨Nat.le_of_ble_eq_true rfl, Nat.le_of_ble_eq_true rfl⟩) ⟨cPre_blind, va_recv hK hP (ci := 7) (q0 := 0) rfl rfl, fun U hU hW => ⟨rfl, cPre_at hP hK hD hN hU hW⟩⟩ rfl rfl hl.1 rfl (lv_room (Nat.le_of_ble_eq_true rfl)) dX7_isDivided_8 ⟨Nat.zero_le _, Nat.zero_le _⟩) hS (fun q _ h => hFc q h) hFc (fun r_2 u t H locs ht hvm hw hB hz1 hk1 hS => ?_)
  obtain ⟨mth_3, rfl⟩ : ∃ z, z = u := ⟨_, rfl⟩
  try dsimp only at hw
  obtain ⟨hm, nar_r_2⟩ := hw
  have hP : va_P (dC, dI) vwCl (wM ad cy mti mow mjo mta mba mib mdi mab mbe mpl mbs mro mlo mth_3) H := cPost_P ht hB
  have hD : va_D A (wM ad cy mti mow mjo mta mba mib mdi mab mbe mpl mbs mro mlo mth_3) := cPost_D hFc hB
  refine lv_if_ne (tgt := 16) hx hb dX7_isDivided_11 (by decide) (fun c_4 => ?_) (fun c_4 => ?_)
  · have hm := hm.2 c_4
    refine lv_aload_n hx hb dX7_isDivided_16 rfl (lv_at hl 0 rfl) ?_
    have hFc := va_freeSame hD hS hA
    refine va_callv (va_runV (As := []) (rest := []) ⟨hx, hb, hml, hown, hts⟩ (c_X7_divides l dC dI cy ad H.size mti mow mjo mta mba mib mdi mab mbe mpl mbs mro mlo mth_3  _ _ hm) (cwV 0 hts gX7_isDivided_X7_divides rfl rfl rfl (by decide +kernel) ⟨Nat.le_of_ble_eq_true rfl, Nat.le_of_ble_eq_true rfl⟩) ⟨cPre_blind, va_recv hK hP (ci := 7) (q0 := 0) rfl rfl, fun U hU hW => ⟨rfl, cPre_at hP hK hD hN hU hW⟩⟩ rfl rfl hl.1 rfl (lv_room (Nat.le_of_ble_eq_true rfl)) dX7_isDivided_17 ⟨Nat.zero_le _, Nat.zero_le _⟩) hS (fun q _ h => hFc q h) hFc (fun u t H locs ht hvm hw hB hz1 hk1 hS => ?_)
    obtain ⟨mta_5, mba_6, mib_7, mdi_8, mab_9, mbe_10⟩ := u
    try dsimp only at hw
    have hm := hw
    have hP : va_P (dC, dI) vwCl (wM ad cy mti mow mjo mta_5 mba_6 mib_7 mdi_8 mab_9 mbe_10 mpl mbs mro mlo mth_3) H := cPost_P ht hB
    have hD : va_D A (wM ad cy mti mow mjo mta_5 mba_6 mib_7 mdi_8 mab_9 mbe_10 mpl mbs mro mlo mth_3) := cPost_D hFc hB
    refine lv_aload_n hx hb dX7_isDivided_20 rfl (lv_at hl 0 rfl) ?_
    refine lv_iload_n hx hb dX7_isDivided_21 rfl (lv_at hl 1 rfl) ?_
    have hFc := va_freeSame hD hS hA
    refine va_calli (va_runV (As := [.int x1]) (rest := []) ⟨hx, hb, hml, hown, hts⟩ (c_X7_whole l dC dI cy ad H.size mti mow mjo mta_5 mba_6 mib_7 mdi_8 mab_9 mbe_10 mpl mbs mro mlo mth_3 x1 _ _ hm) (cwV 1 hts gX7_isDivided_X7_whole rfl rfl rfl (by decide +kernel) ⟨Nat.le_of_ble_eq_true rfl, Nat.le_of_ble_eq_true rfl⟩) ⟨cPre_blind, va_recv hK hP (ci := 7) (q0 := 0) rfl rfl, fun U hU hW => ⟨rfl, cPre_at hP hK hD hN hU hW⟩⟩ rfl rfl hl.1 rfl (lv_room (Nat.le_of_ble_eq_true rfl)) dX7_isDivided_22 ⟨Nat.zero_le _, Nat.zero_le _⟩) hS (fun q _ h => hFc q h) hFc (fun r_11 u t H locs ht hvm hw hB hz1 hk1 hS => ?_)
    try dsimp only at hw
    have hm := hw
    have hP : va_P (dC, dI) vwCl (wM ad cy mti mow mjo mta_5 mba_6 mib_7 mdi_8 mab_9 mbe_10 mpl mbs mro mlo mth_3) H := cPost_P ht hB
    have hD : va_D A (wM ad cy mti mow mjo mta_5 mba_6 mib_7 mdi_8 mab_9 mbe_10 mpl mbs mro mlo mth_3) := cPost_D hFc hB
    refine lv_if_ge (tgt := 32) hx hb dX7_isDivided_25 (by decide) (fun c_12 => ?_) (fun c_12 => ?_)
    · have hm := hm.1 c_12
      refine lv_iconst (v := 0) hx hb dX7_isDivided_32 (by decide) ?_
      exact hret (0 : Int32) mta_5 mba_6 mib_7 mdi_8 mab_9 mbe_10 mth_3 H locs ls 33 dX7_isDivided_33 rfl ⟨hP, hD, hS⟩ hm
    · have hm := hm.2 c_12
      refine lv_iconst (v := 1) hx hb dX7_isDivided_28 (by decide) ?_
      refine lv_goto (tgt := 33) hx hb dX7_isDivided_29 (by decide) ?_
      exact hret (1 : Int32) mta_5 mba_6 mib_7 mdi_8 mab_9 mbe_10 mth_3 H locs ls 33 dX7_isDivided_33 rfl ⟨hP, hD, hS⟩ hm
  · have hm := hm.1 c_4
    refine lv_iconst (v := 0) hx hb dX7_isDivided_14 (by decide) ?_
    exact hret (0 : Int32) mta mba mib mdi mab mbe mth_3 H locs ls 15 dX7_isDivided_15 rfl ⟨hP, hD, hS⟩ hm

set_option maxHeartbeats 4000000 in
set_option maxRecDepth 100000 in
theorem c_X7_isDivided (l : Launch) (dC : Nat → ClassId) (dI : Nat → Nat → Nat) (cy : Nat → ClassId) (ad : Nat → Nat) (sz : Nat) (mti : Nat → Int32) (mow : Nat → Int32) (mjo : Int32) (mta : Nat → Int64) (mba : Nat → Int32) (mib : Nat → Int32) (mdi : Int64) (mab : Nat → Int64) (mbe : Nat → Int64) (mpl : Nat → Int32) (mbs : Nat → Int32) (mro : Nat → Int32) (mlo : Nat → Int32) (mth : Int32) (x1 : Int32) (N : Nat) (Q : Int32 → (Nat → Int64) → (Nat → Int32) → (Nat → Int32) → Int64 → (Nat → Int64) → (Nat → Int64) → Int32 → Prop) (hm : p_X7_isDivided N mti mjo Q x1 mta mba mib mdi mab mbe mth) : Met l yX7_isDivided wsX7_isDivided rmX7_isDivided (va_Pc [.ref (ad 0), .int x1] (cPre dC dI cy (wM ad cy mti mow mjo mta mba mib mdi mab mbe mpl mbs mro mlo mth) sz)) (va_Qi (fun (r : Int32) (u : (Nat → Int64) × (Nat → Int32) × (Nat → Int32) × Int64 × (Nat → Int64) × (Nat → Int64) × Int32) => Q r u.1 u.2.1 u.2.2.1 u.2.2.2.1 u.2.2.2.2.1 u.2.2.2.2.2.1 u.2.2.2.2.2.2 ∧ narrow .boolean (.int r) = .int r) (fun u t => cPost dC dI cy (wM ad cy mti mow mjo mta mba mib mdi mab mbe mpl mbs mro mlo mth) sz (wM ad cy mti mow mjo (u.1) (u.2.1) (u.2.2.1) (u.2.2.2.1) (u.2.2.2.2.1) (u.2.2.2.2.2.1) mpl mbs mro mlo (u.2.2.2.2.2.2)) t) (va_A (wM ad cy mti mow mjo mta mba mib mdi mab mbe mpl mbs mro mlo mth) sz)) 0 0 (va_A (wM ad cy mti mow mjo mta mba mib mdi mab mbe mpl mbs mro mlo mth) sz) := by
  refine Met.ofW (cc := cX7_isDivided) (maxL := 2) (ret := (some .boolean)) (by decide) rfl ?_
  intro p e s m args below meth c s₁ B hml hv
  obtain ⟨rfl, hsz, hP, hK, hD0, hN⟩ := hv
  have hts := atoms_spec (ws := wsX7_isDivided) B.pre
  have hown : s.vm.findClass RX7 = some m.cls := findClass_of_methodNamed B.named
  subst hsz
  have hD := hD0.self (sz := s.heap.size)
  generalize hAe : va_A (wM ad cy mti mow mjo mta mba mib mdi mab mbe mpl mbs mro mlo mth) s.heap.size = A at hD ⊢
  have hA : ∀ q : Nat, s.heap.size ≤ q → A q := fun q h => by rw [← hAe]; exact Or.inr h
  have hl := lv_entry ([.ref (ad 0), .int x1]) (n := 2) (Nat.le_of_ble_eq_true rfl)
  rw [lg_entry_eq]
  generalize (lg_sl ([.ref (ad 0), .int x1]) ++ List.replicate (2 - (lg_sl ([.ref (ad 0), .int x1])).length) Slot.unset).toArray = ls at hl ⊢
  have hl : lv_has ls 2 [(0, .ref (ad 0)), (1, .int x1)] := hl
  exact k_X7_isDivided_0 ⟨B.exec, B.bytes, hml, B.returns, hown, hts, B.notSynchronized, hK, hA, hN⟩ x1 mta mba mib mdi mab mbe mth s.heap [] ls hm ⟨hP, hD, va_S.rf⟩ (lv_sub hl [0, 1] rfl) (fun r mta mba mib mdi mab mbe mth H locs ls pc hdg hn hSt hq => W.zret B.exec B.bytes B.returns hn (fun t ht hW => ⟨⟨r, (mta, mba, mib, mdi, mab, mbe, mth), rfl, ⟨hq, hn⟩, cPost_of hAe ht hW.alike hSt hK⟩, hSt.2.2.F ht⟩) hSt.2.2.2.2 hdg B.notSynchronized)

-- ===== X7_least
theorem fl_X7_least_45 : Cond.fieldLink RX7 45 "UnlikeUnionModel" "thrown" "I" ∈ wsX7_least := by decide +kernel
theorem fl_X7_least_49 : Cond.fieldLink RX7 49 "UnlikeUnionModel" "jobs" "I" ∈ wsX7_least := by decide +kernel
theorem fl_X7_least_16 : Cond.fieldLink RX7 16 "UnlikeUnionModel" "table" "[J" ∈ wsX7_least := by decide +kernel
theorem fl_X7_least_84 : Cond.fieldLink RX7 84 "UnlikeUnionModel" "divisor" "J" ∈ wsX7_least := by decide +kernel
theorem in_X7_least_X7 : ∀ w ∈ u_ws RX7 TX7 14, w ∈ wsX7_least := by decide +kernel
abbrev rmX7_least : Room := { frames := 4, cells := 0, slots := 0, locals := 312 }
def p_X7_least (N : Nat) (mti : Nat → Int32) (mjo : Int32) (Q : Int32 → (Nat → Int64) → (Nat → Int32) → (Nat → Int32) → Int64 → Int32 → Prop) (x1 : Int32) (mta : Nat → Int64) (mba : Nat → Int32) (mib : Nat → Int32) (mdi : Int64) (mth : Int32) : Prop :=
  (mjo = 0 → ((x1 = 0 → (Q (1 : Int32) mta mba mib mdi (0 : Int32))) ∧ (¬ x1 = 0 → (Q (0 : Int32) mta mba mib mdi (0 : Int32))))) ∧ (¬ mjo = 0 → (p_X7_lays N mti mjo (fun r_2 mta_3 mba_4 mib_5 mdi_6 => p_X7_starts N mjo mib_5 (fun mta_7 mba_8 mdi_9 => p_X7_lowers N mjo mib_5 (fun r_10 mta_11 mba_12 mdi_13 => vp_in (((27 : Int32) * r_10) + (26 : Int32)) 297 ∧ (∀ x3_15 : Int64, x3_15 = mta_11 (((27 : Int32) * r_10) + (26 : Int32)).toNatClampNeg → (p_X7_common N (fun r_16 => (x1 = 0 → ((¬ r_16 = 0) ∧ (Q ((mdi_13 / r_16).toInt32) mta_11 mba_12 mib_5 mdi_13 (0 : Int32)))) ∧ (¬ x1 = 0 → ((¬ r_16 = 0) ∧ (Q ((x3_15 / r_16).toInt32) mta_11 mba_12 mib_5 mdi_13 (0 : Int32))))) mdi_13 x3_15))) mta_7 mba_8 mdi_9) mta_3 mba_4 mdi_6) (50 : Int32) mta mba mib mdi))

set_option maxHeartbeats 4000000 in
set_option maxRecDepth 100000 in
theorem k_X7_least_0 {N : Nat} {mti : Nat → Int32} {mow : Nat → Int32} {mjo : Int32} {mab : Nat → Int64} {mbe : Nat → Int64} {mpl : Nat → Int32} {mbs : Nat → Int32} {mro : Nat → Int32} {mlo : Nat → Int32} {Q : Int32 → (Nat → Int64) → (Nat → Int32) → (Nat → Int32) → Int64 → Int32 → Prop} (C0 : cxM cX7_least 7 (some .int) RX7 wsX7_least p s m args meth c dC dI cy A) :
    ∀ (x1 : Int32) (mta : Nat → Int64) (mba : Nat → Int32) (mib : Nat → Int32) (mdi : Int64) (mth : Int32) (H : Heap) (locs : List Loc) (ls : Array Slot) (hm : p_X7_least N mti mjo Q x1 mta mba mib mdi mth) (hSt : stC dC dI A s (wM ad cy mti mow mjo mta mba mib mdi mab mbe mpl mbs mro mlo mth) H locs) (hl : lv_has ls 7 [(0, .ref (ad 0)), (1, .int x1)]) (hret : ∀ (r : Int32) (mta : Nat → Int64) (mba : Nat → Int32) (mib : Nat → Int32) (mdi : Int64) (mth : Int32) (H : Heap) (locs : List Loc) (ls : Array Slot) (pc : Nat), decode cX7_least pc = .ok (.ireturn, 1) → stC dC dI A s (wM ad cy mti mow mjo mta mba mib mdi mab mbe mpl mbs mro mlo mth) H locs → Q r mta mba mib mdi mth → W p l e rmX7_least s m args below meth c H locs 0 0 Z (F0 m pc ls [.int r])), W p l e rmX7_least s m args below meth c H locs 0 0 Z (F0 m 0 ls []) := by
  obtain ⟨hx, hb, hml, hr, hown, hts, hlocks, hK, hA, hN⟩ := id C0
  intro x1 mta mba mib mdi mth H locs ls hm hSt hl hret
  obtain ⟨hP, hD, hS⟩ := hSt
  unfold p_X7_least at hm
  refine lv_aload_n hx hb dX7_least_0 rfl (lv_at hl 0 rfl) ?_
  refine lv_iconst (v := 0) hx hb dX7_least_1 (by decide) ?_
  refine va_put (D := (dC, dI)) (ci := 7) (v := .int (0 : Int32)) (ty := .int) (C := RX7) (T := TX7) (N := 14) hx hb hts in_X7_least_X7 tyX7 tyX7_ok nmX7 hown hK hP hD hS 0 rfl rfl 13 (by decide) (hts _ fl_X7_least_45) (fun _ h9 => h9) rfl (by decide +kernel) rfl rfl (Nat.le_of_ble_eq_true rfl) dX7_least_2 (fun H locs hP hD hS => ?_)
  have hP : va_P (dC, dI) vwCl (wM ad cy mti mow mjo mta mba mib mdi mab mbe mpl mbs mro mlo (0 : Int32)) H := hP
  have hD : va_D A (wM ad cy mti mow mjo mta mba mib mdi mab mbe mpl mbs mro mlo (0 : Int32)) := hD
  refine lv_aload_n hx hb dX7_least_5 rfl (lv_at hl 0 rfl) ?_
  refine va_get (D := (dC, dI)) (ci := 7) (v := .int mjo) (C := RX7) (T := TX7) (N := 14) hx hb hts in_X7_least_X7 hown hK hP 0 rfl rfl 2 (by decide) (hts _ fl_X7_least_49) (fun _ h9 => h9) rfl dX7_least_6 ?_
  refine lv_if_ne (tgt := 22) hx hb dX7_least_9 (by decide) (fun c_1 => ?_) (fun c_1 => ?_)
  · have hm := hm.2 c_1
    refine lv_aload_n hx hb dX7_least_22 rfl (lv_at hl 0 rfl) ?_
    refine lv_bipush (v := 50) hx hb dX7_least_23 (by decide) ?_
    have hFc := va_freeSame hD hS hA
    refine va_calli (va_runV (As := [.int (50 : Int32)]) (rest := []) ⟨hx, hb, hml, hown, hts⟩ (c_X7_lays l dC dI cy ad H.size mti mow mjo mta mba mib mdi mab mbe mpl mbs mro mlo (0 : Int32) (50 : Int32) _ _ hm) (cwV 1 hts gX7_least_X7_lays rfl rfl rfl (by decide +kernel) ⟨Nat.le_of_ble_eq_true rfl, Nat.le_of_ble_eq_true rfl⟩) ⟨cPre_blind, va_recv hK hP (ci := 7) (q0 := 0) rfl rfl, fun U hU hW => ⟨rfl, cPre_at hP hK hD hN hU hW⟩⟩ rfl rfl hl.1 rfl (lv_room (Nat.le_of_ble_eq_true rfl)) dX7_least_25 ⟨Nat.zero_le _, Nat.zero_le _⟩) hS (fun q _ h => hFc q h) hFc (fun r_2 u t H locs ht hvm hw hB hz1 hk1 hS => ?_)
    obtain ⟨mta_3, mba_4, mib_5, mdi_6⟩ := u
    try dsimp only at hw
    obtain ⟨hm, nar_r_2⟩ := hw
    have hP : va_P (dC, dI) vwCl (wM ad cy mti mow mjo mta_3 mba_4 mib_5 mdi_6 mab mbe mpl mbs mro mlo (0 : Int32)) H := cPost_P ht hB
    have hD : va_D A (wM ad cy mti mow mjo mta_3 mba_4 mib_5 mdi_6 mab mbe mpl mbs mro mlo (0 : Int32)) := cPost_D hFc hB
    refine lv_pop hx hb dX7_least_28 rfl ?_
    refine lv_aload_n hx hb dX7_least_29 rfl (lv_at hl 0 rfl) ?_
    have hFc := va_freeSame hD hS hA
    refine va_callv (va_runV (As := []) (rest := []) ⟨hx, hb, hml, hown, hts⟩ (c_X7_starts l dC dI cy ad H.size mti mow mjo mta_3 mba_4 mib_5 mdi_6 mab mbe mpl mbs mro mlo (0 : Int32)  _ _ hm) (cwV 0 hts gX7_least_X7_starts rfl rfl rfl (by decide +kernel) ⟨Nat.le_of_ble_eq_true rfl, Nat.le_of_ble_eq_true rfl⟩) ⟨cPre_blind, va_recv hK hP (ci := 7) (q0 := 0) rfl rfl, fun U hU hW => ⟨rfl, cPre_at hP hK hD hN hU hW⟩⟩ rfl rfl hl.1 rfl (lv_room (Nat.le_of_ble_eq_true rfl)) dX7_least_30 ⟨Nat.zero_le _, Nat.zero_le _⟩) hS (fun q _ h => hFc q h) hFc (fun u t H locs ht hvm hw hB hz1 hk1 hS => ?_)
    obtain ⟨mta_7, mba_8, mdi_9⟩ := u
    try dsimp only at hw
    have hm := hw
    have hP : va_P (dC, dI) vwCl (wM ad cy mti mow mjo mta_7 mba_8 mib_5 mdi_9 mab mbe mpl mbs mro mlo (0 : Int32)) H := cPost_P ht hB
    have hD : va_D A (wM ad cy mti mow mjo mta_7 mba_8 mib_5 mdi_9 mab mbe mpl mbs mro mlo (0 : Int32)) := cPost_D hFc hB
    refine lv_aload_n hx hb dX7_least_33 rfl (lv_at hl 0 rfl) ?_
    have hFc := va_freeSame hD hS hA
    refine va_calli (va_runV (As := []) (rest := []) ⟨hx, hb, hml, hown, hts⟩ (c_X7_lowers l dC dI cy ad H.size mti mow mjo mta_7 mba_8 mib_5 mdi_9 mab mbe mpl mbs mro mlo (0 : Int32)  _ _ hm) (cwV 0 hts gX7_least_X7_lowers rfl rfl rfl (by decide +kernel) ⟨Nat.le_of_ble_eq_true rfl, Nat.le_of_ble_eq_true rfl⟩) ⟨cPre_blind, va_recv hK hP (ci := 7) (q0 := 0) rfl rfl, fun U hU hW => ⟨rfl, cPre_at hP hK hD hN hU hW⟩⟩ rfl rfl hl.1 rfl (lv_room (Nat.le_of_ble_eq_true rfl)) dX7_least_34 ⟨Nat.zero_le _, Nat.zero_le _⟩) hS (fun q _ h => hFc q h) hFc (fun r_10 u t H locs ht hvm hw hB hz1 hk1 hS => ?_)
    obtain ⟨mta_11, mba_12, mdi_13⟩ := u
    try dsimp only at hw
    have hm := hw
    have hP : va_P (dC, dI) vwCl (wM ad cy mti mow mjo mta_11 mba_12 mib_5 mdi_13 mab mbe mpl mbs mro mlo (0 : Int32)) H := cPost_P ht hB
    have hD : va_D A (wM ad cy mti mow mjo mta_11 mba_12 mib_5 mdi_13 mab mbe mpl mbs mro mlo (0 : Int32)) := cPost_D hFc hB
    refine lv_istore_n (lv' := [(2, .int r_10), (0, .ref (ad 0)), (1, .int x1)]) hx hb dX7_least_37 rfl hl (by decide) rfl (fun ls hl => ?_)
    refine lv_aload_n hx hb dX7_least_38 rfl (lv_at hl 1 rfl) ?_
    refine va_get (D := (dC, dI)) (ci := 7) (v := .ref (ad 3)) (C := RX7) (T := TX7) (N := 14) hx hb hts in_X7_least_X7 hown hK hP 0 rfl rfl 3 (by decide) (hts _ fl_X7_least_16) (fun _ h9 => h9) rfl dX7_least_39 ?_
    refine lv_bipush (v := 27) hx hb dX7_least_42 (by decide) ?_
    refine lv_iload_n hx hb dX7_least_44 rfl (lv_at hl 0 rfl) ?_
    refine lv_imul hx hb dX7_least_45 ?_
    refine lv_bipush (v := 26) hx hb dX7_least_46 (by decide) ?_
    refine lv_iadd hx hb dX7_least_48 ?_
    have hi_14 := hm.1
    have hm := hm.2
    refine va_lald hx hb hK hP 3 1 rfl rfl hi_14 dX7_least_49 ?_
    refine lv_topl (fun x3_15 ex3_15 => ?_)
    have hm := hm x3_15 ex3_15
    refine lv_lstore_n (lv' := [(3, .long x3_15), (2, .int r_10), (0, .ref (ad 0)), (1, .int x1)]) hx hb dX7_least_50 rfl hl (by decide) rfl (fun ls hl => ?_)
    refine lv_aload_n hx hb dX7_least_51 rfl (lv_at hl 2 rfl) ?_
    refine va_get (D := (dC, dI)) (ci := 7) (v := .long mdi_13) (C := RX7) (T := TX7) (N := 14) hx hb hts in_X7_least_X7 hown hK hP 0 rfl rfl 6 (by decide) (hts _ fl_X7_least_84) (fun _ h9 => h9) rfl dX7_least_52 ?_
    refine lv_lload_n hx hb dX7_least_55 rfl (lv_at hl 0 rfl) ?_
    have hFc := va_freeSame hD hS hA
    refine va_calll (va_runS (As := [.long mdi_13, .long x3_15]) (rest := []) ⟨hx, hb, hml, hown, hts⟩ (c_X7_common l dC dI cy ad H.size mti mow mjo mta_11 mba_12 mib_5 mdi_13 mab mbe mpl mbs mro mlo (0 : Int32) mdi_13 x3_15 _ _ hm) (cwS 2 hts gX7_least_X7_common rfl rfl rfl (by decide +kernel) ⟨Nat.le_of_ble_eq_true rfl, Nat.le_of_ble_eq_true rfl⟩) ⟨cPre_blind, fun U hU hW => ⟨rfl, cPre_at hP hK hD hN hU hW⟩⟩ rfl rfl hl.1 rfl (lv_room (Nat.le_of_ble_eq_true rfl)) dX7_least_56 ⟨Nat.zero_le _, Nat.zero_le _⟩) hS (fun q _ h => hFc q h) hFc (fun r_16 u t H locs ht hvm hw hB hz1 hk1 hS => ?_)
    try dsimp only at hw
    have hm := hw
    have hP : va_P (dC, dI) vwCl (wM ad cy mti mow mjo mta_11 mba_12 mib_5 mdi_13 mab mbe mpl mbs mro mlo (0 : Int32)) H := cPost_P ht hB
    have hD : va_D A (wM ad cy mti mow mjo mta_11 mba_12 mib_5 mdi_13 mab mbe mpl mbs mro mlo (0 : Int32)) := cPost_D hFc hB
    refine lv_lstore (lv' := [(5, .long r_16), (3, .long x3_15), (2, .int r_10), (0, .ref (ad 0)), (1, .int x1)]) hx hb dX7_least_59 hl (by decide) rfl (fun ls hl => ?_)
    refine lv_iload_n hx hb dX7_least_61 rfl (lv_at hl 4 rfl) ?_
    refine lv_if_eq (tgt := 72) hx hb dX7_least_62 (by decide) (fun c_17 => ?_) (fun c_17 => ?_)
    · have hm := hm.1 c_17
      refine lv_aload_n hx hb dX7_least_72 rfl (lv_at hl 3 rfl) ?_
      refine va_get (D := (dC, dI)) (ci := 7) (v := .long mdi_13) (C := RX7) (T := TX7) (N := 14) hx hb hts in_X7_least_X7 hown hK hP 0 rfl rfl 6 (by decide) (hts _ fl_X7_least_84) (fun _ h9 => h9) rfl dX7_least_73 ?_
      refine lv_lload hx hb dX7_least_76 (lv_at hl 0 rfl) ?_
      have hz_18 := hm.1
      have hm := hm.2
      refine lv_ldiv hx hb dX7_least_78 hz_18 ?_
      refine lv_l2i (v := (mdi_13 / r_16).toInt32) hx hb dX7_least_79 rfl ?_
      exact hret ((mdi_13 / r_16).toInt32) mta_11 mba_12 mib_5 mdi_13 (0 : Int32) H locs ls 80 dX7_least_80 ⟨hP, hD, hS⟩ hm
    · have hm := hm.2 c_17
      refine lv_lload_n hx hb dX7_least_65 rfl (lv_at hl 1 rfl) ?_
      refine lv_lload hx hb dX7_least_66 (lv_at hl 0 rfl) ?_
      have hz_19 := hm.1
      have hm := hm.2
      refine lv_ldiv hx hb dX7_least_68 hz_19 ?_
      refine lv_goto (tgt := 79) hx hb dX7_least_69 (by decide) ?_
      refine lv_l2i (v := (x3_15 / r_16).toInt32) hx hb dX7_least_79 rfl ?_
      exact hret ((x3_15 / r_16).toInt32) mta_11 mba_12 mib_5 mdi_13 (0 : Int32) H locs ls 80 dX7_least_80 ⟨hP, hD, hS⟩ hm
  · have hm := hm.1 c_1
    refine lv_iload_n hx hb dX7_least_12 rfl (lv_at hl 1 rfl) ?_
    refine lv_if_eq (tgt := 20) hx hb dX7_least_13 (by decide) (fun c_20 => ?_) (fun c_20 => ?_)
    · have hm := hm.1 c_20
      refine lv_iconst (v := 1) hx hb dX7_least_20 (by decide) ?_
      exact hret (1 : Int32) mta mba mib mdi (0 : Int32) H locs ls 21 dX7_least_21 ⟨hP, hD, hS⟩ hm
    · have hm := hm.2 c_20
      refine lv_iconst (v := 0) hx hb dX7_least_16 (by decide) ?_
      refine lv_goto (tgt := 21) hx hb dX7_least_17 (by decide) ?_
      exact hret (0 : Int32) mta mba mib mdi (0 : Int32) H locs ls 21 dX7_least_21 ⟨hP, hD, hS⟩ hm

set_option maxHeartbeats 4000000 in
set_option maxRecDepth 100000 in
theorem c_X7_least (l : Launch) (dC : Nat → ClassId) (dI : Nat → Nat → Nat) (cy : Nat → ClassId) (ad : Nat → Nat) (sz : Nat) (mti : Nat → Int32) (mow : Nat → Int32) (mjo : Int32) (mta : Nat → Int64) (mba : Nat → Int32) (mib : Nat → Int32) (mdi : Int64) (mab : Nat → Int64) (mbe : Nat → Int64) (mpl : Nat → Int32) (mbs : Nat → Int32) (mro : Nat → Int32) (mlo : Nat → Int32) (mth : Int32) (x1 : Int32) (N : Nat) (Q : Int32 → (Nat → Int64) → (Nat → Int32) → (Nat → Int32) → Int64 → Int32 → Prop) (hm : p_X7_least N mti mjo Q x1 mta mba mib mdi mth) : Met l yX7_least wsX7_least rmX7_least (va_Pc [.ref (ad 0), .int x1] (cPre dC dI cy (wM ad cy mti mow mjo mta mba mib mdi mab mbe mpl mbs mro mlo mth) sz)) (va_Qi (fun (r : Int32) (u : (Nat → Int64) × (Nat → Int32) × (Nat → Int32) × Int64 × Int32) => Q r u.1 u.2.1 u.2.2.1 u.2.2.2.1 u.2.2.2.2) (fun u t => cPost dC dI cy (wM ad cy mti mow mjo mta mba mib mdi mab mbe mpl mbs mro mlo mth) sz (wM ad cy mti mow mjo (u.1) (u.2.1) (u.2.2.1) (u.2.2.2.1) mab mbe mpl mbs mro mlo (u.2.2.2.2)) t) (va_A (wM ad cy mti mow mjo mta mba mib mdi mab mbe mpl mbs mro mlo mth) sz)) 0 0 (va_A (wM ad cy mti mow mjo mta mba mib mdi mab mbe mpl mbs mro mlo mth) sz) := by
  refine Met.ofW (cc := cX7_least) (maxL := 7) (ret := (some .int)) (by decide) rfl ?_
  intro p e s m args below meth c s₁ B hml hv
  obtain ⟨rfl, hsz, hP, hK, hD0, hN⟩ := hv
  have hts := atoms_spec (ws := wsX7_least) B.pre
  have hown : s.vm.findClass RX7 = some m.cls := findClass_of_methodNamed B.named
  subst hsz
  have hD := hD0.self (sz := s.heap.size)
  generalize hAe : va_A (wM ad cy mti mow mjo mta mba mib mdi mab mbe mpl mbs mro mlo mth) s.heap.size = A at hD ⊢
  have hA : ∀ q : Nat, s.heap.size ≤ q → A q := fun q h => by rw [← hAe]; exact Or.inr h
  have hl := lv_entry ([.ref (ad 0), .int x1]) (n := 7) (Nat.le_of_ble_eq_true rfl)
  rw [lg_entry_eq]
  generalize (lg_sl ([.ref (ad 0), .int x1]) ++ List.replicate (7 - (lg_sl ([.ref (ad 0), .int x1])).length) Slot.unset).toArray = ls at hl ⊢
  have hl : lv_has ls 7 [(0, .ref (ad 0)), (1, .int x1)] := hl
  exact k_X7_least_0 ⟨B.exec, B.bytes, hml, B.returns, hown, hts, B.notSynchronized, hK, hA, hN⟩ x1 mta mba mib mdi mth s.heap [] ls hm ⟨hP, hD, va_S.rf⟩ (lv_sub hl [0, 1] rfl) (fun r mta mba mib mdi mth H locs ls pc hdg hSt hq => W.iret B.exec B.bytes B.returns (fun t ht hW => ⟨⟨r, (mta, mba, mib, mdi, mth), rfl, hq, cPost_of hAe ht hW.alike hSt hK⟩, hSt.2.2.F ht⟩) hSt.2.2.2.2 hdg B.notSynchronized)

-- ===== X7_leastNumerator
abbrev rmX7_leastNumerator : Room := { frames := 5, cells := 0, slots := 0, locals := 398 }
def p_X7_leastNumerator (N : Nat) (mti : Nat → Int32) (mjo : Int32) (Q : Int32 → (Nat → Int64) → (Nat → Int32) → (Nat → Int32) → Int64 → Int32 → Prop) (mta : Nat → Int64) (mba : Nat → Int32) (mib : Nat → Int32) (mdi : Int64) (mth : Int32) : Prop :=
  p_X7_least N mti mjo (fun r_1 mta_2 mba_3 mib_4 mdi_5 mth_6 => Q r_1 mta_2 mba_3 mib_4 mdi_5 mth_6) (1 : Int32) mta mba mib mdi mth

set_option maxHeartbeats 4000000 in
set_option maxRecDepth 100000 in
theorem k_X7_leastNumerator_0 {N : Nat} {mti : Nat → Int32} {mow : Nat → Int32} {mjo : Int32} {mab : Nat → Int64} {mbe : Nat → Int64} {mpl : Nat → Int32} {mbs : Nat → Int32} {mro : Nat → Int32} {mlo : Nat → Int32} {Q : Int32 → (Nat → Int64) → (Nat → Int32) → (Nat → Int32) → Int64 → Int32 → Prop} (C0 : cxM cX7_leastNumerator 1 (some .int) RX7 wsX7_leastNumerator p s m args meth c dC dI cy A) :
    ∀ (mta : Nat → Int64) (mba : Nat → Int32) (mib : Nat → Int32) (mdi : Int64) (mth : Int32) (H : Heap) (locs : List Loc) (ls : Array Slot) (hm : p_X7_leastNumerator N mti mjo Q mta mba mib mdi mth) (hSt : stC dC dI A s (wM ad cy mti mow mjo mta mba mib mdi mab mbe mpl mbs mro mlo mth) H locs) (hl : lv_has ls 1 [(0, .ref (ad 0))]) (hret : ∀ (r : Int32) (mta : Nat → Int64) (mba : Nat → Int32) (mib : Nat → Int32) (mdi : Int64) (mth : Int32) (H : Heap) (locs : List Loc) (ls : Array Slot) (pc : Nat), decode cX7_leastNumerator pc = .ok (.ireturn, 1) → stC dC dI A s (wM ad cy mti mow mjo mta mba mib mdi mab mbe mpl mbs mro mlo mth) H locs → Q r mta mba mib mdi mth → W p l e rmX7_leastNumerator s m args below meth c H locs 0 0 Z (F0 m pc ls [.int r])), W p l e rmX7_leastNumerator s m args below meth c H locs 0 0 Z (F0 m 0 ls []) := by
  obtain ⟨hx, hb, hml, hr, hown, hts, hlocks, hK, hA, hN⟩ := id C0
  intro mta mba mib mdi mth H locs ls hm hSt hl hret
  obtain ⟨hP, hD, hS⟩ := hSt
  unfold p_X7_leastNumerator at hm
  refine lv_aload_n hx hb dX7_leastNumerator_0 rfl (lv_at hl 0 rfl) ?_
  refine lv_iconst (v := 1) hx hb dX7_leastNumerator_1 (by decide) ?_
  have hFc := va_freeSame hD hS hA
  refine va_calli (va_runV (As := [.int (1 : Int32)]) (rest := []) ⟨hx, hb, hml, hown, hts⟩ (c_X7_least l dC dI cy ad H.size mti mow mjo mta mba mib mdi mab mbe mpl mbs mro mlo mth (1 : Int32) _ _ hm) (cwV 1 hts gX7_leastNumerator_X7_least rfl rfl rfl (by decide +kernel) ⟨Nat.le_of_ble_eq_true rfl, Nat.le_of_ble_eq_true rfl⟩) ⟨cPre_blind, va_recv hK hP (ci := 7) (q0 := 0) rfl rfl, fun U hU hW => ⟨rfl, cPre_at hP hK hD hN hU hW⟩⟩ rfl rfl hl.1 rfl (lv_room (Nat.le_of_ble_eq_true rfl)) dX7_leastNumerator_2 ⟨Nat.zero_le _, Nat.zero_le _⟩) hS (fun q _ h => hFc q h) hFc (fun r_1 u t H locs ht hvm hw hB hz1 hk1 hS => ?_)
  obtain ⟨mta_2, mba_3, mib_4, mdi_5, mth_6⟩ := u
  try dsimp only at hw
  have hm := hw
  have hP : va_P (dC, dI) vwCl (wM ad cy mti mow mjo mta_2 mba_3 mib_4 mdi_5 mab mbe mpl mbs mro mlo mth_6) H := cPost_P ht hB
  have hD : va_D A (wM ad cy mti mow mjo mta_2 mba_3 mib_4 mdi_5 mab mbe mpl mbs mro mlo mth_6) := cPost_D hFc hB
  exact hret r_1 mta_2 mba_3 mib_4 mdi_5 mth_6 H locs ls 5 dX7_leastNumerator_5 ⟨hP, hD, hS⟩ hm

set_option maxHeartbeats 4000000 in
set_option maxRecDepth 100000 in
theorem c_X7_leastNumerator (l : Launch) (dC : Nat → ClassId) (dI : Nat → Nat → Nat) (cy : Nat → ClassId) (ad : Nat → Nat) (sz : Nat) (mti : Nat → Int32) (mow : Nat → Int32) (mjo : Int32) (mta : Nat → Int64) (mba : Nat → Int32) (mib : Nat → Int32) (mdi : Int64) (mab : Nat → Int64) (mbe : Nat → Int64) (mpl : Nat → Int32) (mbs : Nat → Int32) (mro : Nat → Int32) (mlo : Nat → Int32) (mth : Int32)  (N : Nat) (Q : Int32 → (Nat → Int64) → (Nat → Int32) → (Nat → Int32) → Int64 → Int32 → Prop) (hm : p_X7_leastNumerator N mti mjo Q mta mba mib mdi mth) : Met l yX7_leastNumerator wsX7_leastNumerator rmX7_leastNumerator (va_Pc [.ref (ad 0)] (cPre dC dI cy (wM ad cy mti mow mjo mta mba mib mdi mab mbe mpl mbs mro mlo mth) sz)) (va_Qi (fun (r : Int32) (u : (Nat → Int64) × (Nat → Int32) × (Nat → Int32) × Int64 × Int32) => Q r u.1 u.2.1 u.2.2.1 u.2.2.2.1 u.2.2.2.2) (fun u t => cPost dC dI cy (wM ad cy mti mow mjo mta mba mib mdi mab mbe mpl mbs mro mlo mth) sz (wM ad cy mti mow mjo (u.1) (u.2.1) (u.2.2.1) (u.2.2.2.1) mab mbe mpl mbs mro mlo (u.2.2.2.2)) t) (va_A (wM ad cy mti mow mjo mta mba mib mdi mab mbe mpl mbs mro mlo mth) sz)) 0 0 (va_A (wM ad cy mti mow mjo mta mba mib mdi mab mbe mpl mbs mro mlo mth) sz) := by
  refine Met.ofW (cc := cX7_leastNumerator) (maxL := 1) (ret := (some .int)) (by decide) rfl ?_
  intro p e s m args below meth c s₁ B hml hv
  obtain ⟨rfl, hsz, hP, hK, hD0, hN⟩ := hv
  have hts := atoms_spec (ws := wsX7_leastNumerator) B.pre
  have hown : s.vm.findClass RX7 = some m.cls := findClass_of_methodNamed B.named
  subst hsz
  have hD := hD0.self (sz := s.heap.size)
  generalize hAe : va_A (wM ad cy mti mow mjo mta mba mib mdi mab mbe mpl mbs mro mlo mth) s.heap.size = A at hD ⊢
  have hA : ∀ q : Nat, s.heap.size ≤ q → A q := fun q h => by rw [← hAe]; exact Or.inr h
  have hl := lv_entry ([.ref (ad 0)]) (n := 1) (Nat.le_of_ble_eq_true rfl)
  rw [lg_entry_eq]
  generalize (lg_sl ([.ref (ad 0)]) ++ List.replicate (1 - (lg_sl ([.ref (ad 0)])).length) Slot.unset).toArray = ls at hl ⊢
  have hl : lv_has ls 1 [(0, .ref (ad 0))] := hl
  exact k_X7_leastNumerator_0 ⟨B.exec, B.bytes, hml, B.returns, hown, hts, B.notSynchronized, hK, hA, hN⟩ mta mba mib mdi mth s.heap [] ls hm ⟨hP, hD, va_S.rf⟩ (lv_sub hl [0] rfl) (fun r mta mba mib mdi mth H locs ls pc hdg hSt hq => W.iret B.exec B.bytes B.returns (fun t ht hW => ⟨⟨r, (mta, mba, mib, mdi, mth), rfl, hq, cPost_of hAe ht hW.alike hSt hK⟩, hSt.2.2.F ht⟩) hSt.2.2.2.2 hdg B.notSynchronized)

-- ===== X7_leastDenominator
abbrev rmX7_leastDenominator : Room := { frames := 5, cells := 0, slots := 0, locals := 398 }
def p_X7_leastDenominator (N : Nat) (mti : Nat → Int32) (mjo : Int32) (Q : Int32 → (Nat → Int64) → (Nat → Int32) → (Nat → Int32) → Int64 → Int32 → Prop) (mta : Nat → Int64) (mba : Nat → Int32) (mib : Nat → Int32) (mdi : Int64) (mth : Int32) : Prop :=
  p_X7_least N mti mjo (fun r_1 mta_2 mba_3 mib_4 mdi_5 mth_6 => Q r_1 mta_2 mba_3 mib_4 mdi_5 mth_6) (0 : Int32) mta mba mib mdi mth

set_option maxHeartbeats 4000000 in
set_option maxRecDepth 100000 in
theorem k_X7_leastDenominator_0 {N : Nat} {mti : Nat → Int32} {mow : Nat → Int32} {mjo : Int32} {mab : Nat → Int64} {mbe : Nat → Int64} {mpl : Nat → Int32} {mbs : Nat → Int32} {mro : Nat → Int32} {mlo : Nat → Int32} {Q : Int32 → (Nat → Int64) → (Nat → Int32) → (Nat → Int32) → Int64 → Int32 → Prop} (C0 : cxM cX7_leastDenominator 1 (some .int) RX7 wsX7_leastDenominator p s m args meth c dC dI cy A) :
    ∀ (mta : Nat → Int64) (mba : Nat → Int32) (mib : Nat → Int32) (mdi : Int64) (mth : Int32) (H : Heap) (locs : List Loc) (ls : Array Slot) (hm : p_X7_leastDenominator N mti mjo Q mta mba mib mdi mth) (hSt : stC dC dI A s (wM ad cy mti mow mjo mta mba mib mdi mab mbe mpl mbs mro mlo mth) H locs) (hl : lv_has ls 1 [(0, .ref (ad 0))]) (hret : ∀ (r : Int32) (mta : Nat → Int64) (mba : Nat → Int32) (mib : Nat → Int32) (mdi : Int64) (mth : Int32) (H : Heap) (locs : List Loc) (ls : Array Slot) (pc : Nat), decode cX7_leastDenominator pc = .ok (.ireturn, 1) → stC dC dI A s (wM ad cy mti mow mjo mta mba mib mdi mab mbe mpl mbs mro mlo mth) H locs → Q r mta mba mib mdi mth → W p l e rmX7_leastDenominator s m args below meth c H locs 0 0 Z (F0 m pc ls [.int r])), W p l e rmX7_leastDenominator s m args below meth c H locs 0 0 Z (F0 m 0 ls []) := by
  obtain ⟨hx, hb, hml, hr, hown, hts, hlocks, hK, hA, hN⟩ := id C0
  intro mta mba mib mdi mth H locs ls hm hSt hl hret
  obtain ⟨hP, hD, hS⟩ := hSt
  unfold p_X7_leastDenominator at hm
  refine lv_aload_n hx hb dX7_leastDenominator_0 rfl (lv_at hl 0 rfl) ?_
  refine lv_iconst (v := 0) hx hb dX7_leastDenominator_1 (by decide) ?_
  have hFc := va_freeSame hD hS hA
  refine va_calli (va_runV (As := [.int (0 : Int32)]) (rest := []) ⟨hx, hb, hml, hown, hts⟩ (c_X7_least l dC dI cy ad H.size mti mow mjo mta mba mib mdi mab mbe mpl mbs mro mlo mth (0 : Int32) _ _ hm) (cwV 1 hts gX7_leastDenominator_X7_least rfl rfl rfl (by decide +kernel) ⟨Nat.le_of_ble_eq_true rfl, Nat.le_of_ble_eq_true rfl⟩) ⟨cPre_blind, va_recv hK hP (ci := 7) (q0 := 0) rfl rfl, fun U hU hW => ⟨rfl, cPre_at hP hK hD hN hU hW⟩⟩ rfl rfl hl.1 rfl (lv_room (Nat.le_of_ble_eq_true rfl)) dX7_leastDenominator_2 ⟨Nat.zero_le _, Nat.zero_le _⟩) hS (fun q _ h => hFc q h) hFc (fun r_1 u t H locs ht hvm hw hB hz1 hk1 hS => ?_)
  obtain ⟨mta_2, mba_3, mib_4, mdi_5, mth_6⟩ := u
  try dsimp only at hw
  have hm := hw
  have hP : va_P (dC, dI) vwCl (wM ad cy mti mow mjo mta_2 mba_3 mib_4 mdi_5 mab mbe mpl mbs mro mlo mth_6) H := cPost_P ht hB
  have hD : va_D A (wM ad cy mti mow mjo mta_2 mba_3 mib_4 mdi_5 mab mbe mpl mbs mro mlo mth_6) := cPost_D hFc hB
  exact hret r_1 mta_2 mba_3 mib_4 mdi_5 mth_6 H locs ls 5 dX7_leastDenominator_5 ⟨hP, hD, hS⟩ hm

set_option maxHeartbeats 4000000 in
set_option maxRecDepth 100000 in
theorem c_X7_leastDenominator (l : Launch) (dC : Nat → ClassId) (dI : Nat → Nat → Nat) (cy : Nat → ClassId) (ad : Nat → Nat) (sz : Nat) (mti : Nat → Int32) (mow : Nat → Int32) (mjo : Int32) (mta : Nat → Int64) (mba : Nat → Int32) (mib : Nat → Int32) (mdi : Int64) (mab : Nat → Int64) (mbe : Nat → Int64) (mpl : Nat → Int32) (mbs : Nat → Int32) (mro : Nat → Int32) (mlo : Nat → Int32) (mth : Int32)  (N : Nat) (Q : Int32 → (Nat → Int64) → (Nat → Int32) → (Nat → Int32) → Int64 → Int32 → Prop) (hm : p_X7_leastDenominator N mti mjo Q mta mba mib mdi mth) : Met l yX7_leastDenominator wsX7_leastDenominator rmX7_leastDenominator (va_Pc [.ref (ad 0)] (cPre dC dI cy (wM ad cy mti mow mjo mta mba mib mdi mab mbe mpl mbs mro mlo mth) sz)) (va_Qi (fun (r : Int32) (u : (Nat → Int64) × (Nat → Int32) × (Nat → Int32) × Int64 × Int32) => Q r u.1 u.2.1 u.2.2.1 u.2.2.2.1 u.2.2.2.2) (fun u t => cPost dC dI cy (wM ad cy mti mow mjo mta mba mib mdi mab mbe mpl mbs mro mlo mth) sz (wM ad cy mti mow mjo (u.1) (u.2.1) (u.2.2.1) (u.2.2.2.1) mab mbe mpl mbs mro mlo (u.2.2.2.2)) t) (va_A (wM ad cy mti mow mjo mta mba mib mdi mab mbe mpl mbs mro mlo mth) sz)) 0 0 (va_A (wM ad cy mti mow mjo mta mba mib mdi mab mbe mpl mbs mro mlo mth) sz) := by
  refine Met.ofW (cc := cX7_leastDenominator) (maxL := 1) (ret := (some .int)) (by decide) rfl ?_
  intro p e s m args below meth c s₁ B hml hv
  obtain ⟨rfl, hsz, hP, hK, hD0, hN⟩ := hv
  have hts := atoms_spec (ws := wsX7_leastDenominator) B.pre
  have hown : s.vm.findClass RX7 = some m.cls := findClass_of_methodNamed B.named
  subst hsz
  have hD := hD0.self (sz := s.heap.size)
  generalize hAe : va_A (wM ad cy mti mow mjo mta mba mib mdi mab mbe mpl mbs mro mlo mth) s.heap.size = A at hD ⊢
  have hA : ∀ q : Nat, s.heap.size ≤ q → A q := fun q h => by rw [← hAe]; exact Or.inr h
  have hl := lv_entry ([.ref (ad 0)]) (n := 1) (Nat.le_of_ble_eq_true rfl)
  rw [lg_entry_eq]
  generalize (lg_sl ([.ref (ad 0)]) ++ List.replicate (1 - (lg_sl ([.ref (ad 0)])).length) Slot.unset).toArray = ls at hl ⊢
  have hl : lv_has ls 1 [(0, .ref (ad 0))] := hl
  exact k_X7_leastDenominator_0 ⟨B.exec, B.bytes, hml, B.returns, hown, hts, B.notSynchronized, hK, hA, hN⟩ mta mba mib mdi mth s.heap [] ls hm ⟨hP, hD, va_S.rf⟩ (lv_sub hl [0] rfl) (fun r mta mba mib mdi mth H locs ls pc hdg hSt hq => W.iret B.exec B.bytes B.returns (fun t ht hW => ⟨⟨r, (mta, mba, mib, mdi, mth), rfl, hq, cPost_of hAe ht hW.alike hSt hK⟩, hSt.2.2.F ht⟩) hSt.2.2.2.2 hdg B.notSynchronized)

-- ===== X7_matches
theorem fl_X7_matches_49 : Cond.fieldLink RX7 49 "UnlikeUnionModel" "jobs" "I" ∈ wsX7_matches := by decide +kernel
theorem fl_X7_matches_27 : Cond.fieldLink RX7 27 "UnlikeUnionModel" "above" "[J" ∈ wsX7_matches := by decide +kernel
theorem fl_X7_matches_33 : Cond.fieldLink RX7 33 "UnlikeUnionModel" "plan" "[I" ∈ wsX7_matches := by decide +kernel
theorem in_X7_matches_X7 : ∀ w ∈ u_ws RX7 TX7 14, w ∈ wsX7_matches := by decide +kernel
abbrev rmX7_matches : Room := { frames := 2, cells := 0, slots := 0, locals := 149 }
def p_X7_matches_6 (N : Nat) (mjo : Int32) (mab : Nat → Int64) (mbe : Nat → Int64) (mpl : Nat → Int32) (Q : Int32 → Prop) : Nat → Int32 → Int32 → Int32 → Prop
  | 0 => fun _ _ _ => False
  | n + 1 => fun x1 x2 x3 => (mjo ≤ x3 → ((narrow .boolean (.int x2) = .int x2) ∧ (Q x2))) ∧ (¬ mjo ≤ x3 → (p_X7_whole N mab mbe (fun r_2 => (0 ≤ r_2 → (∀ x3_4 : Int32, x3_4 = x3 + (1 : Int32) → (p_X7_matches_6 N mjo mab mbe mpl Q n x1 x2 x3_4))) ∧ (¬ 0 ≤ r_2 → ((x2 = 0 → (vp_in x3 7 ∧ (∀ x1_7 : Int32, x1_7 = x1 ||| ((1 : Int32) <<< ((mpl (x3).toNatClampNeg) &&& 31)) → (∀ x3_8 : Int32, x3_8 = x3 + (1 : Int32) → (p_X7_matches_6 N mjo mab mbe mpl Q n x1_7 (0 : Int32) x3_8))))) ∧ (¬ x2 = 0 → (vp_in x3 7 ∧ (vp_in (((3 : Int32) * x3) + (mpl (x3).toNatClampNeg)) 21 ∧ (((mab (((3 : Int32) * x3) + (mpl (x3).toNatClampNeg)).toNatClampNeg) ≤ (0 : Int64) → (vp_in x3 7 ∧ (∀ x1_13 : Int32, x1_13 = x1 ||| ((1 : Int32) <<< ((mpl (x3).toNatClampNeg) &&& 31)) → (∀ x3_14 : Int32, x3_14 = x3 + (1 : Int32) → (p_X7_matches_6 N mjo mab mbe mpl Q n x1_13 (0 : Int32) x3_14))))) ∧ (¬ (mab (((3 : Int32) * x3) + (mpl (x3).toNatClampNeg)).toNatClampNeg) ≤ (0 : Int64) → (vp_in x3 7 ∧ ((((x1 >>> ((mpl (x3).toNatClampNeg) &&& 31)) &&& (1 : Int32)) = 0 → (vp_in x3 7 ∧ (∀ x1_21 : Int32, x1_21 = x1 ||| ((1 : Int32) <<< ((mpl (x3).toNatClampNeg) &&& 31)) → (∀ x3_22 : Int32, x3_22 = x3 + (1 : Int32) → (p_X7_matches_6 N mjo mab mbe mpl Q n x1_21 (1 : Int32) x3_22))))) ∧ (¬ ((x1 >>> ((mpl (x3).toNatClampNeg) &&& 31)) &&& (1 : Int32)) = 0 → (vp_in x3 7 ∧ (∀ x1_18 : Int32, x1_18 = x1 ||| ((1 : Int32) <<< ((mpl (x3).toNatClampNeg) &&& 31)) → (∀ x3_19 : Int32, x3_19 = x3 + (1 : Int32) → (p_X7_matches_6 N mjo mab mbe mpl Q n x1_18 (0 : Int32) x3_19))))))))))))))) x3))

def p_X7_matches (N : Nat) (mjo : Int32) (mab : Nat → Int64) (mbe : Nat → Int64) (mpl : Nat → Int32) (Q : Int32 → Prop)  : Prop :=
  p_X7_matches_6 N mjo mab mbe mpl Q N (0 : Int32) (1 : Int32) (0 : Int32)

set_option maxHeartbeats 4000000 in
set_option maxRecDepth 100000 in
theorem k_X7_matches_6 {N : Nat} {mti : Nat → Int32} {mow : Nat → Int32} {mjo : Int32} {mta : Nat → Int64} {mba : Nat → Int32} {mib : Nat → Int32} {mdi : Int64} {mab : Nat → Int64} {mbe : Nat → Int64} {mpl : Nat → Int32} {mbs : Nat → Int32} {mro : Nat → Int32} {mlo : Nat → Int32} {mth : Int32} {Q : Int32 → Prop} (C0 : cxM cX7_matches 4 (some .boolean) RX7 wsX7_matches p s m args meth c dC dI cy A) :
    ∀ (n : Nat) (x1 : Int32) (x2 : Int32) (x3 : Int32) (H : Heap) (locs : List Loc) (ls : Array Slot) (hm : p_X7_matches_6 N mjo mab mbe mpl Q n x1 x2 x3) (hSt : stC dC dI A s (wM ad cy mti mow mjo mta mba mib mdi mab mbe mpl mbs mro mlo mth) H locs) (hl : lv_has ls 4 [(0, .ref (ad 0)), (1, .int x1), (2, .int x2), (3, .int x3)]) (hret : ∀ (r : Int32) (H : Heap) (locs : List Loc) (ls : Array Slot) (pc : Nat), decode cX7_matches pc = .ok (.ireturn, 1) → narrow .boolean (.int r) = .int r → stC dC dI A s (wM ad cy mti mow mjo mta mba mib mdi mab mbe mpl mbs mro mlo mth) H locs → Q r → W p l e rmX7_matches s m args below meth c H locs 0 0 Z (F0 m pc ls [.int r])), W p l e rmX7_matches s m args below meth c H locs 0 0 Z (F0 m 6 ls []) := by
  obtain ⟨hx, hb, hml, hr, hown, hts, hlocks, hK, hA, hN⟩ := id C0
  intro n
  induction n with
  | zero => intro x1 x2 x3 H locs ls hm; exact False.elim hm
  | succ n ih =>
    intro x1 x2 x3 H locs ls hm hSt hl hret
    obtain ⟨hP, hD, hS⟩ := hSt
    unfold p_X7_matches_6 at hm
    refine lv_iload_n hx hb dX7_matches_6 rfl (lv_at hl 3 rfl) ?_
    refine lv_aload_n hx hb dX7_matches_7 rfl (lv_at hl 0 rfl) ?_
    refine va_get (D := (dC, dI)) (ci := 7) (v := .int mjo) (C := RX7) (T := TX7) (N := 14) hx hb hts in_X7_matches_X7 hown hK hP 0 rfl rfl 2 (by decide) (hts _ fl_X7_matches_49) (fun _ h9 => h9) rfl dX7_matches_8 ?_
    refine lv_icmp_ge (tgt := 82) hx hb dX7_matches_11 (by decide) (fun c_1 => ?_) (fun c_1 => ?_)
    · have hm := hm.1 c_1
      refine lv_iload_n hx hb dX7_matches_82 rfl (lv_at hl 2 rfl) ?_
      have hn := hm.1
      have hm := hm.2
      exact hret x2 H locs ls 83 dX7_matches_83 hn ⟨hP, hD, hS⟩ hm
    · have hm := hm.2 c_1
      refine lv_aload_n hx hb dX7_matches_14 rfl (lv_at hl 0 rfl) ?_
      refine lv_iload_n hx hb dX7_matches_15 rfl (lv_at hl 3 rfl) ?_
      have hFc := va_freeSame hD hS hA
      refine va_calli (va_runV (As := [.int x3]) (rest := []) ⟨hx, hb, hml, hown, hts⟩ (c_X7_whole l dC dI cy ad H.size mti mow mjo mta mba mib mdi mab mbe mpl mbs mro mlo mth x3 _ _ hm) (cwV 1 hts gX7_matches_X7_whole rfl rfl rfl (by decide +kernel) ⟨Nat.le_of_ble_eq_true rfl, Nat.le_of_ble_eq_true rfl⟩) ⟨cPre_blind, va_recv hK hP (ci := 7) (q0 := 0) rfl rfl, fun U hU hW => ⟨rfl, cPre_at hP hK hD hN hU hW⟩⟩ rfl rfl hl.1 rfl (lv_room (Nat.le_of_ble_eq_true rfl)) dX7_matches_16 ⟨Nat.zero_le _, Nat.zero_le _⟩) hS (fun q _ h => hFc q h) hFc (fun r_2 u t H locs ht hvm hw hB hz1 hk1 hS => ?_)
      try dsimp only at hw
      have hm := hw
      have hP : va_P (dC, dI) vwCl (wM ad cy mti mow mjo mta mba mib mdi mab mbe mpl mbs mro mlo mth) H := cPost_P ht hB
      have hD : va_D A (wM ad cy mti mow mjo mta mba mib mdi mab mbe mpl mbs mro mlo mth) := cPost_D hFc hB
      refine lv_if_ge (tgt := 76) hx hb dX7_matches_19 (by decide) (fun c_3 => ?_) (fun c_3 => ?_)
      · have hm := hm.1 c_3
        obtain ⟨x3_4, ex3_4⟩ : ∃ y : Int32, y = x3 + (1 : Int32) := ⟨_, rfl⟩
        have hm := hm x3_4 ex3_4
        refine lv_iinc (v := x3_4) (lv' := [(3, .int x3_4), (0, .ref (ad 0)), (1, .int x1), (2, .int x2)]) hx hb dX7_matches_76 hl (k := 3) rfl (by rw [ex3_4]; rfl) (by decide) rfl (fun ls hl => ?_)
        refine lv_goto (tgt := 6) hx hb dX7_matches_79 (by decide) ?_
        exact ih x1 x2 x3_4 H locs ls hm ⟨hP, hD, hS⟩ (lv_sub hl [1, 2, 3, 0] rfl) hret
      · have hm := hm.2 c_3
        refine lv_iload_n hx hb dX7_matches_22 rfl (lv_at hl 2 rfl) ?_
        refine lv_if_eq (tgt := 63) hx hb dX7_matches_23 (by decide) (fun c_5 => ?_) (fun c_5 => ?_)
        · have hm := hm.1 c_5
          refine lv_iconst (v := 0) hx hb dX7_matches_63 (by decide) ?_
          refine lv_istore_n (lv' := [(2, .int (0 : Int32)), (0, .ref (ad 0)), (1, .int x1), (3, .int x3)]) hx hb dX7_matches_64 rfl hl (by decide) rfl (fun ls hl => ?_)
          refine lv_iload_n hx hb dX7_matches_65 rfl (lv_at hl 2 rfl) ?_
          refine lv_iconst (v := 1) hx hb dX7_matches_66 (by decide) ?_
          refine lv_aload_n hx hb dX7_matches_67 rfl (lv_at hl 1 rfl) ?_
          refine va_get (D := (dC, dI)) (ci := 7) (v := .ref (ad 8)) (C := RX7) (T := TX7) (N := 14) hx hb hts in_X7_matches_X7 hown hK hP 0 rfl rfl 9 (by decide) (hts _ fl_X7_matches_33) (fun _ h9 => h9) rfl dX7_matches_68 ?_
          refine lv_iload_n hx hb dX7_matches_71 rfl (lv_at hl 3 rfl) ?_
          have hi_6 := hm.1
          have hm := hm.2
          refine va_iald hx hb hK hP 8 0 rfl rfl hi_6 dX7_matches_72 ?_
          refine lv_ishl hx hb dX7_matches_73 ?_
          refine lv_ior hx hb dX7_matches_74 ?_
          refine lv_topi (fun x1_7 ex1_7 => ?_)
          have hm := hm x1_7 ex1_7
          refine lv_istore_n (lv' := [(1, .int x1_7), (2, .int (0 : Int32)), (0, .ref (ad 0)), (3, .int x3)]) hx hb dX7_matches_75 rfl hl (by decide) rfl (fun ls hl => ?_)
          obtain ⟨x3_8, ex3_8⟩ : ∃ y : Int32, y = x3 + (1 : Int32) := ⟨_, rfl⟩
          have hm := hm x3_8 ex3_8
          refine lv_iinc (v := x3_8) (lv' := [(3, .int x3_8), (1, .int x1_7), (2, .int (0 : Int32)), (0, .ref (ad 0))]) hx hb dX7_matches_76 hl (k := 3) rfl (by rw [ex3_8]; rfl) (by decide) rfl (fun ls hl => ?_)
          refine lv_goto (tgt := 6) hx hb dX7_matches_79 (by decide) ?_
          exact ih x1_7 (0 : Int32) x3_8 H locs ls hm ⟨hP, hD, hS⟩ (lv_sub hl [3, 1, 2, 0] rfl) hret
        · have hm := hm.2 c_5
          refine lv_aload_n hx hb dX7_matches_26 rfl (lv_at hl 0 rfl) ?_
          refine va_get (D := (dC, dI)) (ci := 7) (v := .ref (ad 6)) (C := RX7) (T := TX7) (N := 14) hx hb hts in_X7_matches_X7 hown hK hP 0 rfl rfl 7 (by decide) (hts _ fl_X7_matches_27) (fun _ h9 => h9) rfl dX7_matches_27 ?_
          refine lv_iconst (v := 3) hx hb dX7_matches_30 (by decide) ?_
          refine lv_iload_n hx hb dX7_matches_31 rfl (lv_at hl 3 rfl) ?_
          refine lv_imul hx hb dX7_matches_32 ?_
          refine lv_aload_n hx hb dX7_matches_33 rfl (lv_at hl 0 rfl) ?_
          refine va_get (D := (dC, dI)) (ci := 7) (v := .ref (ad 8)) (C := RX7) (T := TX7) (N := 14) hx hb hts in_X7_matches_X7 hown hK hP 0 rfl rfl 9 (by decide) (hts _ fl_X7_matches_33) (fun _ h9 => h9) rfl dX7_matches_34 ?_
          refine lv_iload_n hx hb dX7_matches_37 rfl (lv_at hl 3 rfl) ?_
          have hi_9 := hm.1
          have hm := hm.2
          refine va_iald hx hb hK hP 8 0 rfl rfl hi_9 dX7_matches_38 ?_
          refine lv_iadd hx hb dX7_matches_39 ?_
          have hi_10 := hm.1
          have hm := hm.2
          refine va_lald hx hb hK hP 6 1 rfl rfl hi_10 dX7_matches_40 ?_
          refine lv_lconst (v := 0) hx hb dX7_matches_41 (by decide) ?_
          refine lq_le (tgt := 63) hx hb dX7_matches_42 dX7_matches_43 (by decide) (fun c_11 => ?_) (fun c_11 => ?_)
          · have hm := hm.1 c_11
            refine lv_iconst (v := 0) hx hb dX7_matches_63 (by decide) ?_
            refine lv_istore_n (lv' := [(2, .int (0 : Int32)), (0, .ref (ad 0)), (1, .int x1), (3, .int x3)]) hx hb dX7_matches_64 rfl hl (by decide) rfl (fun ls hl => ?_)
            refine lv_iload_n hx hb dX7_matches_65 rfl (lv_at hl 2 rfl) ?_
            refine lv_iconst (v := 1) hx hb dX7_matches_66 (by decide) ?_
            refine lv_aload_n hx hb dX7_matches_67 rfl (lv_at hl 1 rfl) ?_
            refine va_get (D := (dC, dI)) (ci := 7) (v := .ref (ad 8)) (C := RX7) (T := TX7) (N := 14) hx hb hts in_X7_matches_X7 hown hK hP 0 rfl rfl 9 (by decide) (hts _ fl_X7_matches_33) (fun _ h9 => h9) rfl dX7_matches_68 ?_
            refine lv_iload_n hx hb dX7_matches_71 rfl (lv_at hl 3 rfl) ?_
            have hi_12 := hm.1
            have hm := hm.2
            refine va_iald hx hb hK hP 8 0 rfl rfl hi_12 dX7_matches_72 ?_
            refine lv_ishl hx hb dX7_matches_73 ?_
            refine lv_ior hx hb dX7_matches_74 ?_
            refine lv_topi (fun x1_13 ex1_13 => ?_)
            have hm := hm x1_13 ex1_13
            refine lv_istore_n (lv' := [(1, .int x1_13), (2, .int (0 : Int32)), (0, .ref (ad 0)), (3, .int x3)]) hx hb dX7_matches_75 rfl hl (by decide) rfl (fun ls hl => ?_)
            obtain ⟨x3_14, ex3_14⟩ : ∃ y : Int32, y = x3 + (1 : Int32) := ⟨_, rfl⟩
            have hm := hm x3_14 ex3_14
            refine lv_iinc (v := x3_14) (lv' := [(3, .int x3_14), (1, .int x1_13), (2, .int (0 : Int32)), (0, .ref (ad 0))]) hx hb dX7_matches_76 hl (k := 3) rfl (by rw [ex3_14]; rfl) (by decide) rfl (fun ls hl => ?_)
            refine lv_goto (tgt := 6) hx hb dX7_matches_79 (by decide) ?_
            exact ih x1_13 (0 : Int32) x3_14 H locs ls hm ⟨hP, hD, hS⟩ (lv_sub hl [3, 1, 2, 0] rfl) hret
          · have hm := hm.2 c_11
            refine lv_iload_n hx hb dX7_matches_46 rfl (lv_at hl 1 rfl) ?_
            refine lv_aload_n hx hb dX7_matches_47 rfl (lv_at hl 0 rfl) ?_
            refine va_get (D := (dC, dI)) (ci := 7) (v := .ref (ad 8)) (C := RX7) (T := TX7) (N := 14) hx hb hts in_X7_matches_X7 hown hK hP 0 rfl rfl 9 (by decide) (hts _ fl_X7_matches_33) (fun _ h9 => h9) rfl dX7_matches_48 ?_
            refine lv_iload_n hx hb dX7_matches_51 rfl (lv_at hl 3 rfl) ?_
            have hi_15 := hm.1
            have hm := hm.2
            refine va_iald hx hb hK hP 8 0 rfl rfl hi_15 dX7_matches_52 ?_
            refine lv_ishr hx hb dX7_matches_53 ?_
            refine lv_iconst (v := 1) hx hb dX7_matches_54 (by decide) ?_
            refine lv_iand hx hb dX7_matches_55 ?_
            refine lv_if_ne (tgt := 63) hx hb dX7_matches_56 (by decide) (fun c_16 => ?_) (fun c_16 => ?_)
            · have hm := hm.2 c_16
              refine lv_iconst (v := 0) hx hb dX7_matches_63 (by decide) ?_
              refine lv_istore_n (lv' := [(2, .int (0 : Int32)), (0, .ref (ad 0)), (1, .int x1), (3, .int x3)]) hx hb dX7_matches_64 rfl hl (by decide) rfl (fun ls hl => ?_)
              refine lv_iload_n hx hb dX7_matches_65 rfl (lv_at hl 2 rfl) ?_
              refine lv_iconst (v := 1) hx hb dX7_matches_66 (by decide) ?_
              refine lv_aload_n hx hb dX7_matches_67 rfl (lv_at hl 1 rfl) ?_
              refine va_get (D := (dC, dI)) (ci := 7) (v := .ref (ad 8)) (C := RX7) (T := TX7) (N := 14) hx hb hts in_X7_matches_X7 hown hK hP 0 rfl rfl 9 (by decide) (hts _ fl_X7_matches_33) (fun _ h9 => h9) rfl dX7_matches_68 ?_
              refine lv_iload_n hx hb dX7_matches_71 rfl (lv_at hl 3 rfl) ?_
              have hi_17 := hm.1
              have hm := hm.2
              refine va_iald hx hb hK hP 8 0 rfl rfl hi_17 dX7_matches_72 ?_
              refine lv_ishl hx hb dX7_matches_73 ?_
              refine lv_ior hx hb dX7_matches_74 ?_
              refine lv_topi (fun x1_18 ex1_18 => ?_)
              have hm := hm x1_18 ex1_18
              refine lv_istore_n (lv' := [(1, .int x1_18), (2, .int (0 : Int32)), (0, .ref (ad 0)), (3, .int x3)]) hx hb dX7_matches_75 rfl hl (by decide) rfl (fun ls hl => ?_)
              obtain ⟨x3_19, ex3_19⟩ : ∃ y : Int32, y = x3 + (1 : Int32) := ⟨_, rfl⟩
              have hm := hm x3_19 ex3_19
              refine lv_iinc (v := x3_19) (lv' := [(3, .int x3_19), (1, .int x1_18), (2, .int (0 : Int32)), (0, .ref (ad 0))]) hx hb dX7_matches_76 hl (k := 3) rfl (by rw [ex3_19]; rfl) (by decide) rfl (fun ls hl => ?_)
              refine lv_goto (tgt := 6) hx hb dX7_matches_79 (by decide) ?_
              exact ih x1_18 (0 : Int32) x3_19 H locs ls hm ⟨hP, hD, hS⟩ (lv_sub hl [3, 1, 2, 0] rfl) hret
            · have hm := hm.1 c_16
              refine lv_iconst (v := 1) hx hb dX7_matches_59 (by decide) ?_
              refine lv_goto (tgt := 64) hx hb dX7_matches_60 (by decide) ?_
              refine lv_istore_n (lv' := [(2, .int (1 : Int32)), (0, .ref (ad 0)), (1, .int x1), (3, .int x3)]) hx hb dX7_matches_64 rfl hl (by decide) rfl (fun ls hl => ?_)
              refine lv_iload_n hx hb dX7_matches_65 rfl (lv_at hl 2 rfl) ?_
              refine lv_iconst (v := 1) hx hb dX7_matches_66 (by decide) ?_
              refine lv_aload_n hx hb dX7_matches_67 rfl (lv_at hl 1 rfl) ?_
              refine va_get (D := (dC, dI)) (ci := 7) (v := .ref (ad 8)) (C := RX7) (T := TX7) (N := 14) hx hb hts in_X7_matches_X7 hown hK hP 0 rfl rfl 9 (by decide) (hts _ fl_X7_matches_33) (fun _ h9 => h9) rfl dX7_matches_68 ?_
              refine lv_iload_n hx hb dX7_matches_71 rfl (lv_at hl 3 rfl) ?_
              have hi_20 := hm.1
              have hm := hm.2
              refine va_iald hx hb hK hP 8 0 rfl rfl hi_20 dX7_matches_72 ?_
              refine lv_ishl hx hb dX7_matches_73 ?_
              refine lv_ior hx hb dX7_matches_74 ?_
              refine lv_topi (fun x1_21 ex1_21 => ?_)
              have hm := hm x1_21 ex1_21
              refine lv_istore_n (lv' := [(1, .int x1_21), (2, .int (1 : Int32)), (0, .ref (ad 0)), (3, .int x3)]) hx hb dX7_matches_75 rfl hl (by decide) rfl (fun ls hl => ?_)
              obtain ⟨x3_22, ex3_22⟩ : ∃ y : Int32, y = x3 + (1 : Int32) := ⟨_, rfl⟩
              have hm := hm x3_22 ex3_22
              refine lv_iinc (v := x3_22) (lv' := [(3, .int x3_22), (1, .int x1_21), (2, .int (1 : Int32)), (0, .ref (ad 0))]) hx hb dX7_matches_76 hl (k := 3) rfl (by rw [ex3_22]; rfl) (by decide) rfl (fun ls hl => ?_)
              refine lv_goto (tgt := 6) hx hb dX7_matches_79 (by decide) ?_
              exact ih x1_21 (1 : Int32) x3_22 H locs ls hm ⟨hP, hD, hS⟩ (lv_sub hl [3, 1, 2, 0] rfl) hret

set_option maxHeartbeats 4000000 in
set_option maxRecDepth 100000 in
theorem k_X7_matches_0 {N : Nat} {mti : Nat → Int32} {mow : Nat → Int32} {mjo : Int32} {mta : Nat → Int64} {mba : Nat → Int32} {mib : Nat → Int32} {mdi : Int64} {mab : Nat → Int64} {mbe : Nat → Int64} {mpl : Nat → Int32} {mbs : Nat → Int32} {mro : Nat → Int32} {mlo : Nat → Int32} {mth : Int32} {Q : Int32 → Prop} (C0 : cxM cX7_matches 4 (some .boolean) RX7 wsX7_matches p s m args meth c dC dI cy A) :
    ∀  (H : Heap) (locs : List Loc) (ls : Array Slot) (hm : p_X7_matches N mjo mab mbe mpl Q ) (hSt : stC dC dI A s (wM ad cy mti mow mjo mta mba mib mdi mab mbe mpl mbs mro mlo mth) H locs) (hl : lv_has ls 4 [(0, .ref (ad 0))]) (hret : ∀ (r : Int32) (H : Heap) (locs : List Loc) (ls : Array Slot) (pc : Nat), decode cX7_matches pc = .ok (.ireturn, 1) → narrow .boolean (.int r) = .int r → stC dC dI A s (wM ad cy mti mow mjo mta mba mib mdi mab mbe mpl mbs mro mlo mth) H locs → Q r → W p l e rmX7_matches s m args below meth c H locs 0 0 Z (F0 m pc ls [.int r])), W p l e rmX7_matches s m args below meth c H locs 0 0 Z (F0 m 0 ls []) := by
  obtain ⟨hx, hb, hml, hr, hown, hts, hlocks, hK, hA, hN⟩ := id C0
  intro  H locs ls hm hSt hl hret
  obtain ⟨hP, hD, hS⟩ := hSt
  unfold p_X7_matches at hm
  refine lv_iconst (v := 0) hx hb dX7_matches_0 (by decide) ?_
  refine lv_istore_n (lv' := [(1, .int (0 : Int32)), (0, .ref (ad 0))]) hx hb dX7_matches_1 rfl hl (by decide) rfl (fun ls hl => ?_)
  refine lv_iconst (v := 1) hx hb dX7_matches_2 (by decide) ?_
  refine lv_istore_n (lv' := [(2, .int (1 : Int32)), (1, .int (0 : Int32)), (0, .ref (ad 0))]) hx hb dX7_matches_3 rfl hl (by decide) rfl (fun ls hl => ?_)
  refine lv_iconst (v := 0) hx hb dX7_matches_4 (by decide) ?_
  refine lv_istore_n (lv' := [(3, .int (0 : Int32)), (2, .int (1 : Int32)), (1, .int (0 : Int32)), (0, .ref (ad 0))]) hx hb dX7_matches_5 rfl hl (by decide) rfl (fun ls hl => ?_)
  exact k_X7_matches_6 C0 N (0 : Int32) (1 : Int32) (0 : Int32) H locs ls hm ⟨hP, hD, hS⟩ (lv_sub hl [3, 2, 1, 0] rfl) hret

set_option maxHeartbeats 4000000 in
set_option maxRecDepth 100000 in
theorem c_X7_matches (l : Launch) (dC : Nat → ClassId) (dI : Nat → Nat → Nat) (cy : Nat → ClassId) (ad : Nat → Nat) (sz : Nat) (mti : Nat → Int32) (mow : Nat → Int32) (mjo : Int32) (mta : Nat → Int64) (mba : Nat → Int32) (mib : Nat → Int32) (mdi : Int64) (mab : Nat → Int64) (mbe : Nat → Int64) (mpl : Nat → Int32) (mbs : Nat → Int32) (mro : Nat → Int32) (mlo : Nat → Int32) (mth : Int32)  (N : Nat) (Q : Int32 → Prop) (hm : p_X7_matches N mjo mab mbe mpl Q ) : Met l yX7_matches wsX7_matches rmX7_matches (va_Pc [.ref (ad 0)] (cPre dC dI cy (wM ad cy mti mow mjo mta mba mib mdi mab mbe mpl mbs mro mlo mth) sz)) (va_Qi (fun (r : Int32) (u : Unit) => Q r ∧ narrow .boolean (.int r) = .int r) (fun u t => cPost dC dI cy (wM ad cy mti mow mjo mta mba mib mdi mab mbe mpl mbs mro mlo mth) sz (wM ad cy mti mow mjo mta mba mib mdi mab mbe mpl mbs mro mlo mth) t) (va_A (wM ad cy mti mow mjo mta mba mib mdi mab mbe mpl mbs mro mlo mth) sz)) 0 0 (va_A (wM ad cy mti mow mjo mta mba mib mdi mab mbe mpl mbs mro mlo mth) sz) := by
  refine Met.ofW (cc := cX7_matches) (maxL := 4) (ret := (some .boolean)) (by decide) rfl ?_
  intro p e s m args below meth c s₁ B hml hv
  obtain ⟨rfl, hsz, hP, hK, hD0, hN⟩ := hv
  have hts := atoms_spec (ws := wsX7_matches) B.pre
  have hown : s.vm.findClass RX7 = some m.cls := findClass_of_methodNamed B.named
  subst hsz
  have hD := hD0.self (sz := s.heap.size)
  generalize hAe : va_A (wM ad cy mti mow mjo mta mba mib mdi mab mbe mpl mbs mro mlo mth) s.heap.size = A at hD ⊢
  have hA : ∀ q : Nat, s.heap.size ≤ q → A q := fun q h => by rw [← hAe]; exact Or.inr h
  have hl := lv_entry ([.ref (ad 0)]) (n := 4) (Nat.le_of_ble_eq_true rfl)
  rw [lg_entry_eq]
  generalize (lg_sl ([.ref (ad 0)]) ++ List.replicate (4 - (lg_sl ([.ref (ad 0)])).length) Slot.unset).toArray = ls at hl ⊢
  have hl : lv_has ls 4 [(0, .ref (ad 0))] := hl
  exact k_X7_matches_0 ⟨B.exec, B.bytes, hml, B.returns, hown, hts, B.notSynchronized, hK, hA, hN⟩  s.heap [] ls hm ⟨hP, hD, va_S.rf⟩ (lv_sub hl [0] rfl) (fun r H locs ls pc hdg hn hSt hq => W.zret B.exec B.bytes B.returns hn (fun t ht hW => ⟨⟨r, (), rfl, ⟨hq, hn⟩, cPost_of hAe ht hW.alike hSt hK⟩, hSt.2.2.F ht⟩) hSt.2.2.2.2 hdg B.notSynchronized)

-- ===== X7_rounds
theorem fl_X7_rounds_49 : Cond.fieldLink RX7 49 "UnlikeUnionModel" "jobs" "I" ∈ wsX7_rounds := by decide +kernel
theorem fl_X7_rounds_33 : Cond.fieldLink RX7 33 "UnlikeUnionModel" "plan" "[I" ∈ wsX7_rounds := by decide +kernel
theorem fl_X7_rounds_39 : Cond.fieldLink RX7 39 "UnlikeUnionModel" "rounded" "[I" ∈ wsX7_rounds := by decide +kernel
theorem in_X7_rounds_X7 : ∀ w ∈ u_ws RX7 TX7 14, w ∈ wsX7_rounds := by decide +kernel
abbrev rmX7_rounds : Room := { frames := 7, cells := 0, slots := 0, locals := 562 }
def p_X7_rounds_62 (N : Nat) (mti : Nat → Int32) (mjo : Int32) (Q : (Nat → Int64) → (Nat → Int32) → (Nat → Int32) → Int64 → (Nat → Int64) → (Nat → Int64) → (Nat → Int32) → (Nat → Int32) → Prop) (K42 : Int32 → Int32 → Int32 → (Nat → Int64) → (Nat → Int32) → (Nat → Int32) → Int64 → (Nat → Int64) → (Nat → Int64) → (Nat → Int32) → (Nat → Int32) → Prop) : Nat → Int32 → Int32 → Int32 → Int32 → (Nat → Int64) → (Nat → Int32) → (Nat → Int32) → Int64 → (Nat → Int64) → (Nat → Int64) → (Nat → Int32) → (Nat → Int32) → Prop
  | 0 => fun _ _ _ _ _ _ _ _ _ _ _ _ => False
  | n + 1 => fun x1 x3 x4 x5 mta mba mib mdi mab mbe mpl mro => (x5 < 0 → (p_X7_matches N mjo mab mbe mpl (fun r_2 => ∀ x3_3 : Int32, x3_3 = x3 + (1 : Int32) → (K42 x1 r_2 x3_3 mta mba mib mdi mab mbe mpl mro)) )) ∧ (¬ x5 < 0 → (p_X7_whole N mab mbe (fun r_4 => (0 ≤ r_4 → (((0 : Int32) = 0 → (p_X7_whole N mab mbe (fun r_7 => vp_in x5 7 ∧ (((0 : Int32) = 0 → (∀ x5_10 : Int32, x5_10 = x5 + (-1 : Int32) → (p_X7_rounds_62 N mti mjo Q K42 n x1 x3 x4 x5_10 mta mba mib mdi mab mbe (upd mpl (x5).toNatClampNeg r_7) mro))) ∧ (¬ (0 : Int32) = 0 → (∀ x4_11 : Int32, x4_11 = x4 / (3 : Int32) → (∀ x5_12 : Int32, x5_12 = x5 + (-1 : Int32) → (p_X7_rounds_62 N mti mjo Q K42 n x1 x3 x4_11 x5_12 mta mba mib mdi mab mbe (upd mpl (x5).toNatClampNeg r_7) mro)))))) x5)) ∧ (¬ (0 : Int32) = 0 → (∀ f_13 : Int32, f_13 = x4 - x4 / (3 : Int32) * (3 : Int32) → (vp_in x5 7 ∧ (((0 : Int32) = 0 → (∀ x5_16 : Int32, x5_16 = x5 + (-1 : Int32) → (p_X7_rounds_62 N mti mjo Q K42 n x1 x3 x4 x5_16 mta mba mib mdi mab mbe (upd mpl (x5).toNatClampNeg f_13) mro))) ∧ (¬ (0 : Int32) = 0 → (∀ x4_17 : Int32, x4_17 = x4 / (3 : Int32) → (∀ x5_18 : Int32, x5_18 = x5 + (-1 : Int32) → (p_X7_rounds_62 N mti mjo Q K42 n x1 x3 x4_17 x5_18 mta mba mib mdi mab mbe (upd mpl (x5).toNatClampNeg f_13) mro)))))))))) ∧ (¬ 0 ≤ r_4 → (((1 : Int32) = 0 → (p_X7_whole N mab mbe (fun r_20 => vp_in x5 7 ∧ (((1 : Int32) = 0 → (∀ x5_23 : Int32, x5_23 = x5 + (-1 : Int32) → (p_X7_rounds_62 N mti mjo Q K42 n x1 x3 x4 x5_23 mta mba mib mdi mab mbe (upd mpl (x5).toNatClampNeg r_20) mro))) ∧ (¬ (1 : Int32) = 0 → (∀ x4_24 : Int32, x4_24 = x4 / (3 : Int32) → (∀ x5_25 : Int32, x5_25 = x5 + (-1 : Int32) → (p_X7_rounds_62 N mti mjo Q K42 n x1 x3 x4_24 x5_25 mta mba mib mdi mab mbe (upd mpl (x5).toNatClampNeg r_20) mro)))))) x5)) ∧ (¬ (1 : Int32) = 0 → (∀ f_26 : Int32, f_26 = x4 - x4 / (3 : Int32) * (3 : Int32) → (vp_in x5 7 ∧ (((1 : Int32) = 0 → (∀ x5_29 : Int32, x5_29 = x5 + (-1 : Int32) → (p_X7_rounds_62 N mti mjo Q K42 n x1 x3 x4 x5_29 mta mba mib mdi mab mbe (upd mpl (x5).toNatClampNeg f_26) mro))) ∧ (¬ (1 : Int32) = 0 → (∀ x4_30 : Int32, x4_30 = x4 / (3 : Int32) → (∀ x5_31 : Int32, x5_31 = x5 + (-1 : Int32) → (p_X7_rounds_62 N mti mjo Q K42 n x1 x3 x4_30 x5_31 mta mba mib mdi mab mbe (upd mpl (x5).toNatClampNeg f_26) mro))))))))))) x5))

def p_X7_rounds_143 (N : Nat) (mti : Nat → Int32) (mjo : Int32) (Q : (Nat → Int64) → (Nat → Int32) → (Nat → Int32) → Int64 → (Nat → Int64) → (Nat → Int64) → (Nat → Int32) → (Nat → Int32) → Prop) : Nat → Int32 → (Nat → Int64) → (Nat → Int32) → (Nat → Int32) → Int64 → (Nat → Int64) → (Nat → Int64) → (Nat → Int32) → (Nat → Int32) → Prop
  | 0 => fun _ _ _ _ _ _ _ _ _ => False
  | n + 1 => fun x3 mta mba mib mdi mab mbe mpl mro => (mjo ≤ x3 → (Q mta mba mib mdi mab mbe mpl mro)) ∧ (¬ mjo ≤ x3 → (vp_in x3 7 ∧ (∀ f_3 : Int32, f_3 = mpl (x3).toNatClampNeg → (vp_in x3 7 ∧ (∀ x3_5 : Int32, x3_5 = x3 + (1 : Int32) → (p_X7_rounds_143 N mti mjo Q n x3_5 mta mba mib mdi mab mbe mpl (upd mro (x3).toNatClampNeg f_3)))))))

def p_X7_rounds_42 (N : Nat) (mti : Nat → Int32) (mjo : Int32) (Q : (Nat → Int64) → (Nat → Int32) → (Nat → Int32) → Int64 → (Nat → Int64) → (Nat → Int64) → (Nat → Int32) → (Nat → Int32) → Prop) : Nat → Int32 → Int32 → Int32 → (Nat → Int64) → (Nat → Int32) → (Nat → Int32) → Int64 → (Nat → Int64) → (Nat → Int64) → (Nat → Int32) → (Nat → Int32) → Prop
  | 0 => fun _ _ _ _ _ _ _ _ _ _ _ => False
  | n + 1 => fun x1 x2 x3 mta mba mib mdi mab mbe mpl mro => (x1 ≤ x3 → (p_X7_rounds_143 N mti mjo Q N (0 : Int32) mta mba mib mdi mab mbe mpl mro)) ∧ (¬ x1 ≤ x3 → ((x2 = 0 → (∀ x5_3 : Int32, x5_3 = mjo - (1 : Int32) → (p_X7_rounds_62 N mti mjo Q (fun x1 x2 x3 mta mba mib mdi mab mbe mpl mro => p_X7_rounds_42 N mti mjo Q n x1 x2 x3 mta mba mib mdi mab mbe mpl mro) N x1 x3 x3 x5_3 mta mba mib mdi mab mbe mpl mro))) ∧ (¬ x2 = 0 → (p_X7_rounds_143 N mti mjo Q N (0 : Int32) mta mba mib mdi mab mbe mpl mro))))

def p_X7_rounds_8 (N : Nat) (mti : Nat → Int32) (mjo : Int32) (Q : (Nat → Int64) → (Nat → Int32) → (Nat → Int32) → Int64 → (Nat → Int64) → (Nat → Int64) → (Nat → Int32) → (Nat → Int32) → Prop) : Nat → Int32 → Int32 → (Nat → Int64) → (Nat → Int32) → (Nat → Int32) → Int64 → (Nat → Int64) → (Nat → Int64) → (Nat → Int32) → (Nat → Int32) → Prop
  | 0 => fun _ _ _ _ _ _ _ _ _ _ => False
  | n + 1 => fun x1 x2 mta mba mib mdi mab mbe mpl mro => (mjo ≤ x2 → (p_X7_rounds_42 N mti mjo Q N x1 (0 : Int32) (0 : Int32) mta mba mib mdi mab mbe mpl mro)) ∧ (¬ mjo ≤ x2 → (p_X7_whole N mab mbe (fun r_2 => (0 ≤ r_2 → (∀ x1_4 : Int32, x1_4 = x1 * (1 : Int32) → (∀ x2_5 : Int32, x2_5 = x2 + (1 : Int32) → (p_X7_rounds_8 N mti mjo Q n x1_4 x2_5 mta mba mib mdi mab mbe mpl mro)))) ∧ (¬ 0 ≤ r_2 → (∀ x1_6 : Int32, x1_6 = x1 * (3 : Int32) → (∀ x2_7 : Int32, x2_7 = x2 + (1 : Int32) → (p_X7_rounds_8 N mti mjo Q n x1_6 x2_7 mta mba mib mdi mab mbe mpl mro))))) x2))

def p_X7_rounds (N : Nat) (mti : Nat → Int32) (mjo : Int32) (Q : (Nat → Int64) → (Nat → Int32) → (Nat → Int32) → Int64 → (Nat → Int64) → (Nat → Int64) → (Nat → Int32) → (Nat → Int32) → Prop) (mta : Nat → Int64) (mba : Nat → Int32) (mib : Nat → Int32) (mdi : Int64) (mab : Nat → Int64) (mbe : Nat → Int64) (mpl : Nat → Int32) (mro : Nat → Int32) : Prop :=
  p_X7_divides N mti mjo (fun mta_1 mba_2 mib_3 mdi_4 mab_5 mbe_6 => p_X7_rounds_8 N mti mjo Q N (1 : Int32) (0 : Int32) mta_1 mba_2 mib_3 mdi_4 mab_5 mbe_6 mpl mro) mta mba mib mdi mab mbe

set_option maxHeartbeats 4000000 in
set_option maxRecDepth 100000 in
theorem k_X7_rounds_62 {N : Nat} {mti : Nat → Int32} {mow : Nat → Int32} {mjo : Int32} {mbs : Nat → Int32} {mlo : Nat → Int32} {mth : Int32} {Q : (Nat → Int64) → (Nat → Int32) → (Nat → Int32) → Int64 → (Nat → Int64) → (Nat → Int64) → (Nat → Int32) → (Nat → Int32) → Prop} {K42 : Int32 → Int32 → Int32 → (Nat → Int64) → (Nat → Int32) → (Nat → Int32) → Int64 → (Nat → Int64) → (Nat → Int64) → (Nat → Int32) → (Nat → Int32) → Prop} (C0 : cxM cX7_rounds 7 none RX7 wsX7_rounds p s m args meth c dC dI cy A) :
    ∀ (n : Nat) (x1 : Int32) (x3 : Int32) (x4 : Int32) (x5 : Int32) (mta : Nat → Int64) (mba : Nat → Int32) (mib : Nat → Int32) (mdi : Int64) (mab : Nat → Int64) (mbe : Nat → Int64) (mpl : Nat → Int32) (mro : Nat → Int32) (H : Heap) (locs : List Loc) (ls : Array Slot) (hm : p_X7_rounds_62 N mti mjo Q K42 n x1 x3 x4 x5 mta mba mib mdi mab mbe mpl mro) (hSt : stC dC dI A s (wM ad cy mti mow mjo mta mba mib mdi mab mbe mpl mbs mro mlo mth) H locs) (hl : lv_has ls 7 [(0, .ref (ad 0)), (1, .int x1), (3, .int x3), (4, .int x4), (5, .int x5)]) (hret : ∀ (mta : Nat → Int64) (mba : Nat → Int32) (mib : Nat → Int32) (mdi : Int64) (mab : Nat → Int64) (mbe : Nat → Int64) (mpl : Nat → Int32) (mro : Nat → Int32) (H : Heap) (locs : List Loc) (ls : Array Slot) (pc : Nat), decode cX7_rounds pc = .ok (.return_, 1) → stC dC dI A s (wM ad cy mti mow mjo mta mba mib mdi mab mbe mpl mbs mro mlo mth) H locs → Q mta mba mib mdi mab mbe mpl mro → W p l e rmX7_rounds s m args below meth c H locs 0 0 Z (F0 m pc ls [])) (hK42 : ∀ (x1 : Int32) (x2 : Int32) (x3 : Int32) (mta : Nat → Int64) (mba : Nat → Int32) (mib : Nat → Int32) (mdi : Int64) (mab : Nat → Int64) (mbe : Nat → Int64) (mpl : Nat → Int32) (mro : Nat → Int32) (H : Heap) (locs : List Loc) (ls : Array Slot), K42 x1 x2 x3 mta mba mib mdi mab mbe mpl mro → stC dC dI A s (wM ad cy mti mow mjo mta mba mib mdi mab mbe mpl mbs mro mlo mth) H locs → lv_has ls 7 [(0, .ref (ad 0)), (1, .int x1), (2, .int x2), (3, .int x3)] → W p l e rmX7_rounds s m args below meth c H locs 0 0 Z (F0 m 42 ls [])), W p l e rmX7_rounds s m args below meth c H locs 0 0 Z (F0 m 62 ls []) := by
  obtain ⟨hx, hb, hml, hr, hown, hts, hlocks, hK, hA, hN⟩ := id C0
  intro n
  induction n with
  | zero => intro x1 x3 x4 x5 mta mba mib mdi mab mbe mpl mro H locs ls hm; exact False.elim hm
  | succ n ih =>
    intro x1 x3 x4 x5 mta mba mib mdi mab mbe mpl mro H locs ls hm hSt hl hret hK42
    obtain ⟨hP, hD, hS⟩ := hSt
    unfold p_X7_rounds_62 at hm
    refine lv_iload hx hb dX7_rounds_62 (lv_at hl 4 rfl) ?_
    refine lv_if_lt (tgt := 130) hx hb dX7_rounds_64 (by decide) (fun c_1 => ?_) (fun c_1 => ?_)
    · have hm := hm.1 c_1
      refine lv_aload_n hx hb dX7_rounds_130 rfl (lv_at hl 0 rfl) ?_
      have hFc := va_freeSame hD hS hA
      refine va_calli (va_runV (As := []) (rest := []) ⟨hx, hb, hml, hown, hts⟩ (c_X7_matches l dC dI cy ad H.size mti mow mjo mta mba mib mdi mab mbe mpl mbs mro mlo mth  _ _ hm) (cwV 0 hts gX7_rounds_X7_matches rfl rfl rfl (by decide +kernel) ⟨Nat.le_of_ble_eq_true rfl, Nat.le_of_ble_eq_true rfl⟩) ⟨cPre_blind, va_recv hK hP (ci := 7) (q0 := 0) rfl rfl, fun U hU hW => ⟨rfl, cPre_at hP hK hD hN hU hW⟩⟩ rfl rfl hl.1 rfl (lv_room (Nat.le_of_ble_eq_true rfl)) dX7_rounds_131 ⟨Nat.zero_le _, Nat.zero_le _⟩) hS (fun q _ h => hFc q h) hFc (fun r_2 u t H locs ht hvm hw hB hz1 hk1 hS => ?_)
      try dsimp only at hw
      obtain ⟨hm, nar_r_2⟩ := hw
      have hP : va_P (dC, dI) vwCl (wM ad cy mti mow mjo mta mba mib mdi mab mbe mpl mbs mro mlo mth) H := cPost_P ht hB
      have hD : va_D A (wM ad cy mti mow mjo mta mba mib mdi mab mbe mpl mbs mro mlo mth) := cPost_D hFc hB
      refine lv_istore_n (lv' := [(2, .int r_2), (0, .ref (ad 0)), (1, .int x1), (3, .int x3), (4, .int x4), (5, .int x5)]) hx hb dX7_rounds_134 rfl hl (by decide) rfl (fun ls hl => ?_)
      obtain ⟨x3_3, ex3_3⟩ : ∃ y : Int32, y = x3 + (1 : Int32) := ⟨_, rfl⟩
      have hm := hm x3_3 ex3_3
      refine lv_iinc (v := x3_3) (lv' := [(3, .int x3_3), (2, .int r_2), (0, .ref (ad 0)), (1, .int x1), (4, .int x4), (5, .int x5)]) hx hb dX7_rounds_135 hl (k := 3) rfl (by rw [ex3_3]; rfl) (by decide) rfl (fun ls hl => ?_)
      refine lv_goto (tgt := 42) hx hb dX7_rounds_138 (by decide) ?_
      exact hK42 x1 r_2 x3_3 mta mba mib mdi mab mbe mpl mro H locs ls hm ⟨hP, hD, hS⟩ (lv_sub hl [2, 3, 1, 0] rfl)
    · have hm := hm.2 c_1
      refine lv_aload_n hx hb dX7_rounds_67 rfl (lv_at hl 0 rfl) ?_
      refine lv_iload hx hb dX7_rounds_68 (lv_at hl 4 rfl) ?_
      have hFc := va_freeSame hD hS hA
      refine va_calli (va_runV (As := [.int x5]) (rest := []) ⟨hx, hb, hml, hown, hts⟩ (c_X7_whole l dC dI cy ad H.size mti mow mjo mta mba mib mdi mab mbe mpl mbs mro mlo mth x5 _ _ hm) (cwV 1 hts gX7_rounds_X7_whole rfl rfl rfl (by decide +kernel) ⟨Nat.le_of_ble_eq_true rfl, Nat.le_of_ble_eq_true rfl⟩) ⟨cPre_blind, va_recv hK hP (ci := 7) (q0 := 0) rfl rfl, fun U hU hW => ⟨rfl, cPre_at hP hK hD hN hU hW⟩⟩ rfl rfl hl.1 rfl (lv_room (Nat.le_of_ble_eq_true rfl)) dX7_rounds_70 ⟨Nat.zero_le _, Nat.zero_le _⟩) hS (fun q _ h => hFc q h) hFc (fun r_4 u t H locs ht hvm hw hB hz1 hk1 hS => ?_)
      try dsimp only at hw
      have hm := hw
      have hP : va_P (dC, dI) vwCl (wM ad cy mti mow mjo mta mba mib mdi mab mbe mpl mbs mro mlo mth) H := cPost_P ht hB
      have hD : va_D A (wM ad cy mti mow mjo mta mba mib mdi mab mbe mpl mbs mro mlo mth) := cPost_D hFc hB
      refine lv_if_ge (tgt := 80) hx hb dX7_rounds_73 (by decide) (fun c_5 => ?_) (fun c_5 => ?_)
      · have hm := hm.1 c_5
        refine lv_iconst (v := 0) hx hb dX7_rounds_80 (by decide) ?_
        refine lv_istore (lv' := [(6, .int (0 : Int32)), (0, .ref (ad 0)), (1, .int x1), (3, .int x3), (4, .int x4), (5, .int x5)]) hx hb dX7_rounds_81 hl (by decide) rfl (fun ls hl => ?_)
        refine lv_aload_n hx hb dX7_rounds_83 rfl (lv_at hl 1 rfl) ?_
        refine va_get (D := (dC, dI)) (ci := 7) (v := .ref (ad 8)) (C := RX7) (T := TX7) (N := 14) hx hb hts in_X7_rounds_X7 hown hK hP 0 rfl rfl 9 (by decide) (hts _ fl_X7_rounds_33) (fun _ h9 => h9) rfl dX7_rounds_84 ?_
        refine lv_iload hx hb dX7_rounds_87 (lv_at hl 5 rfl) ?_
        refine lv_iload hx hb dX7_rounds_89 (lv_at hl 0 rfl) ?_
        refine lv_if_eq (tgt := 101) hx hb dX7_rounds_91 (by decide) (fun c_6 => ?_) (fun c_6 => ?_)
        · have hm := hm.1 c_6
          refine lv_aload_n hx hb dX7_rounds_101 rfl (lv_at hl 1 rfl) ?_
          refine lv_iload hx hb dX7_rounds_102 (lv_at hl 5 rfl) ?_
          have hFc := va_freeSame hD hS hA
          refine va_calli (va_runV (As := [.int x5]) (rest := [.int x5, .ref (ad 8)]) ⟨hx, hb, hml, hown, hts⟩ (c_X7_whole l dC dI cy ad H.size mti mow mjo mta mba mib mdi mab mbe mpl mbs mro mlo mth x5 _ _ hm) (cwV 1 hts gX7_rounds_X7_whole rfl rfl rfl (by decide +kernel) ⟨Nat.le_of_ble_eq_true rfl, Nat.le_of_ble_eq_true rfl⟩) ⟨cPre_blind, va_recv hK hP (ci := 7) (q0 := 0) rfl rfl, fun U hU hW => ⟨rfl, cPre_at hP hK hD hN hU hW⟩⟩ rfl rfl hl.1 rfl (lv_room (Nat.le_of_ble_eq_true rfl)) dX7_rounds_104 ⟨Nat.zero_le _, Nat.zero_le _⟩) hS (fun q _ h => hFc q h) hFc (fun r_7 u t H locs ht hvm hw hB hz1 hk1 hS => ?_)
          try dsimp only at hw
          have hm := hw
          have hP : va_P (dC, dI) vwCl (wM ad cy mti mow mjo mta mba mib mdi mab mbe mpl mbs mro mlo mth) H := cPost_P ht hB
          have hD : va_D A (wM ad cy mti mow mjo mta mba mib mdi mab mbe mpl mbs mro mlo mth) := cPost_D hFc hB
          have hi_8 := hm.1
          have hm := hm.2
          refine va_iast hx hb hK hP hD hS 8 0 rfl rfl hi_8 dX7_rounds_107 (fun H locs hP hD hS => ?_)
          have hP : va_P (dC, dI) vwCl (wM ad cy mti mow mjo mta mba mib mdi mab mbe (upd mpl (x5).toNatClampNeg r_7) mbs mro mlo mth) H := hP
          have hD : va_D A (wM ad cy mti mow mjo mta mba mib mdi mab mbe (upd mpl (x5).toNatClampNeg r_7) mbs mro mlo mth) := hD
          refine lv_iload hx hb dX7_rounds_108 (lv_at hl 0 rfl) ?_
          refine lv_if_eq (tgt := 120) hx hb dX7_rounds_110 (by decide) (fun c_9 => ?_) (fun c_9 => ?_)
          · have hm := hm.1 c_9
            refine lv_iload hx hb dX7_rounds_120 (lv_at hl 4 rfl) ?_
            refine lv_istore (lv' := [(4, .int x4), (6, .int (0 : Int32)), (0, .ref (ad 0)), (1, .int x1), (3, .int x3), (5, .int x5)]) hx hb dX7_rounds_122 hl (by decide) rfl (fun ls hl => ?_)
            obtain ⟨x5_10, ex5_10⟩ : ∃ y : Int32, y = x5 + (-1 : Int32) := ⟨_, rfl⟩
            have hm := hm x5_10 ex5_10
            refine lv_iinc (v := x5_10) (lv' := [(5, .int x5_10), (4, .int x4), (6, .int (0 : Int32)), (0, .ref (ad 0)), (1, .int x1), (3, .int x3)]) hx hb dX7_rounds_124 hl (k := 5) rfl (by rw [ex5_10]; rfl) (by decide) rfl (fun ls hl => ?_)
            refine lv_goto (tgt := 62) hx hb dX7_rounds_127 (by decide) ?_
            exact ih x1 x3 x4 x5_10 mta mba mib mdi mab mbe (upd mpl (x5).toNatClampNeg r_7) mro H locs ls hm ⟨hP, hD, hS⟩ (lv_sub hl [3, 4, 5, 1, 0] rfl) hret hK42
          · have hm := hm.2 c_9
            refine lv_iload hx hb dX7_rounds_113 (lv_at hl 4 rfl) ?_
            refine lv_iconst (v := 3) hx hb dX7_rounds_115 (by decide) ?_
            refine lv_idiv hx hb dX7_rounds_116 (by decide) ?_
            refine lv_goto (tgt := 122) hx hb dX7_rounds_117 (by decide) ?_
            refine lv_topi (fun x4_11 ex4_11 => ?_)
            have hm := hm x4_11 ex4_11
            refine lv_istore (lv' := [(4, .int x4_11), (6, .int (0 : Int32)), (0, .ref (ad 0)), (1, .int x1), (3, .int x3), (5, .int x5)]) hx hb dX7_rounds_122 hl (by decide) rfl (fun ls hl => ?_)
            obtain ⟨x5_12, ex5_12⟩ : ∃ y : Int32, y = x5 + (-1 : Int32) := ⟨_, rfl⟩
            have hm := hm x5_12 ex5_12
            refine lv_iinc (v := x5_12) (lv' := [(5, .int x5_12), (4, .int x4_11), (6, .int (0 : Int32)), (0, .ref (ad 0)), (1, .int x1), (3, .int x3)]) hx hb dX7_rounds_124 hl (k := 5) rfl (by rw [ex5_12]; rfl) (by decide) rfl (fun ls hl => ?_)
            refine lv_goto (tgt := 62) hx hb dX7_rounds_127 (by decide) ?_
            exact ih x1 x3 x4_11 x5_12 mta mba mib mdi mab mbe (upd mpl (x5).toNatClampNeg r_7) mro H locs ls hm ⟨hP, hD, hS⟩ (lv_sub hl [3, 4, 5, 1, 0] rfl) hret hK42
        · have hm := hm.2 c_6
          refine lv_iload hx hb dX7_rounds_94 (lv_at hl 4 rfl) ?_
          refine lv_iconst (v := 3) hx hb dX7_rounds_96 (by decide) ?_
          refine lv_irem hx hb dX7_rounds_97 (by decide) ?_
          refine lv_goto (tgt := 107) hx hb dX7_rounds_98 (by decide) ?_
          refine lv_topi (fun f_13 ef_13 => ?_)
          have hm := hm f_13 ef_13
          have hi_14 := hm.1
          have hm := hm.2
          refine va_iast hx hb hK hP hD hS 8 0 rfl rfl hi_14 dX7_rounds_107 (fun H locs hP hD hS => ?_)
          have hP : va_P (dC, dI) vwCl (wM ad cy mti mow mjo mta mba mib mdi mab mbe (upd mpl (x5).toNatClampNeg f_13) mbs mro mlo mth) H := hP
          have hD : va_D A (wM ad cy mti mow mjo mta mba mib mdi mab mbe (upd mpl (x5).toNatClampNeg f_13) mbs mro mlo mth) := hD
          refine lv_iload hx hb dX7_rounds_108 (lv_at hl 0 rfl) ?_
          refine lv_if_eq (tgt := 120) hx hb dX7_rounds_110 (by decide) (fun c_15 => ?_) (fun c_15 => ?_)
          · have hm := hm.1 c_15
            refine lv_iload hx hb dX7_rounds_120 (lv_at hl 4 rfl) ?_
            refine lv_istore (lv' := [(4, .int x4), (6, .int (0 : Int32)), (0, .ref (ad 0)), (1, .int x1), (3, .int x3), (5, .int x5)]) hx hb dX7_rounds_122 hl (by decide) rfl (fun ls hl => ?_)
            obtain ⟨x5_16, ex5_16⟩ : ∃ y : Int32, y = x5 + (-1 : Int32) := ⟨_, rfl⟩
            have hm := hm x5_16 ex5_16
            refine lv_iinc (v := x5_16) (lv' := [(5, .int x5_16), (4, .int x4), (6, .int (0 : Int32)), (0, .ref (ad 0)), (1, .int x1), (3, .int x3)]) hx hb dX7_rounds_124 hl (k := 5) rfl (by rw [ex5_16]; rfl) (by decide) rfl (fun ls hl => ?_)
            refine lv_goto (tgt := 62) hx hb dX7_rounds_127 (by decide) ?_
            exact ih x1 x3 x4 x5_16 mta mba mib mdi mab mbe (upd mpl (x5).toNatClampNeg f_13) mro H locs ls hm ⟨hP, hD, hS⟩ (lv_sub hl [3, 4, 5, 1, 0] rfl) hret hK42
          · have hm := hm.2 c_15
            refine lv_iload hx hb dX7_rounds_113 (lv_at hl 4 rfl) ?_
            refine lv_iconst (v := 3) hx hb dX7_rounds_115 (by decide) ?_
            refine lv_idiv hx hb dX7_rounds_116 (by decide) ?_
            refine lv_goto (tgt := 122) hx hb dX7_rounds_117 (by decide) ?_
            refine lv_topi (fun x4_17 ex4_17 => ?_)
            have hm := hm x4_17 ex4_17
            refine lv_istore (lv' := [(4, .int x4_17), (6, .int (0 : Int32)), (0, .ref (ad 0)), (1, .int x1), (3, .int x3), (5, .int x5)]) hx hb dX7_rounds_122 hl (by decide) rfl (fun ls hl => ?_)
            obtain ⟨x5_18, ex5_18⟩ : ∃ y : Int32, y = x5 + (-1 : Int32) := ⟨_, rfl⟩
            have hm := hm x5_18 ex5_18
            refine lv_iinc (v := x5_18) (lv' := [(5, .int x5_18), (4, .int x4_17), (6, .int (0 : Int32)), (0, .ref (ad 0)), (1, .int x1), (3, .int x3)]) hx hb dX7_rounds_124 hl (k := 5) rfl (by rw [ex5_18]; rfl) (by decide) rfl (fun ls hl => ?_)
            refine lv_goto (tgt := 62) hx hb dX7_rounds_127 (by decide) ?_
            exact ih x1 x3 x4_17 x5_18 mta mba mib mdi mab mbe (upd mpl (x5).toNatClampNeg f_13) mro H locs ls hm ⟨hP, hD, hS⟩ (lv_sub hl [3, 4, 5, 1, 0] rfl) hret hK42
      · have hm := hm.2 c_5
        refine lv_iconst (v := 1) hx hb dX7_rounds_76 (by decide) ?_
        refine lv_goto (tgt := 81) hx hb dX7_rounds_77 (by decide) ?_
        refine lv_istore (lv' := [(6, .int (1 : Int32)), (0, .ref (ad 0)), (1, .int x1), (3, .int x3), (4, .int x4), (5, .int x5)]) hx hb dX7_rounds_81 hl (by decide) rfl (fun ls hl => ?_)
        refine lv_aload_n hx hb dX7_rounds_83 rfl (lv_at hl 1 rfl) ?_
        refine va_get (D := (dC, dI)) (ci := 7) (v := .ref (ad 8)) (C := RX7) (T := TX7) (N := 14) hx hb hts in_X7_rounds_X7 hown hK hP 0 rfl rfl 9 (by decide) (hts _ fl_X7_rounds_33) (fun _ h9 => h9) rfl dX7_rounds_84 ?_
        refine lv_iload hx hb dX7_rounds_87 (lv_at hl 5 rfl) ?_
        refine lv_iload hx hb dX7_rounds_89 (lv_at hl 0 rfl) ?_
        refine lv_if_eq (tgt := 101) hx hb dX7_rounds_91 (by decide) (fun c_19 => ?_) (fun c_19 => ?_)
        · have hm := hm.1 c_19
          refine lv_aload_n hx hb dX7_rounds_101 rfl (lv_at hl 1 rfl) ?_
          refine lv_iload hx hb dX7_rounds_102 (lv_at hl 5 rfl) ?_
          have hFc := va_freeSame hD hS hA
          refine va_calli (va_runV (As := [.int x5]) (rest := [.int x5, .ref (ad 8)]) ⟨hx, hb, hml, hown, hts⟩ (c_X7_whole l dC dI cy ad H.size mti mow mjo mta mba mib mdi mab mbe mpl mbs mro mlo mth x5 _ _ hm) (cwV 1 hts gX7_rounds_X7_whole rfl rfl rfl (by decide +kernel) ⟨Nat.le_of_ble_eq_true rfl, Nat.le_of_ble_eq_true rfl⟩) ⟨cPre_blind, va_recv hK hP (ci := 7) (q0 := 0) rfl rfl, fun U hU hW => ⟨rfl, cPre_at hP hK hD hN hU hW⟩⟩ rfl rfl hl.1 rfl (lv_room (Nat.le_of_ble_eq_true rfl)) dX7_rounds_104 ⟨Nat.zero_le _, Nat.zero_le _⟩) hS (fun q _ h => hFc q h) hFc (fun r_20 u t H locs ht hvm hw hB hz1 hk1 hS => ?_)
          try dsimp only at hw
          have hm := hw
          have hP : va_P (dC, dI) vwCl (wM ad cy mti mow mjo mta mba mib mdi mab mbe mpl mbs mro mlo mth) H := cPost_P ht hB
          have hD : va_D A (wM ad cy mti mow mjo mta mba mib mdi mab mbe mpl mbs mro mlo mth) := cPost_D hFc hB
          have hi_21 := hm.1
          have hm := hm.2
          refine va_iast hx hb hK hP hD hS 8 0 rfl rfl hi_21 dX7_rounds_107 (fun H locs hP hD hS => ?_)
          have hP : va_P (dC, dI) vwCl (wM ad cy mti mow mjo mta mba mib mdi mab mbe (upd mpl (x5).toNatClampNeg r_20) mbs mro mlo mth) H := hP
          have hD : va_D A (wM ad cy mti mow mjo mta mba mib mdi mab mbe (upd mpl (x5).toNatClampNeg r_20) mbs mro mlo mth) := hD
          refine lv_iload hx hb dX7_rounds_108 (lv_at hl 0 rfl) ?_
          refine lv_if_eq (tgt := 120) hx hb dX7_rounds_110 (by decide) (fun c_22 => ?_) (fun c_22 => ?_)
          · have hm := hm.1 c_22
            refine lv_iload hx hb dX7_rounds_120 (lv_at hl 4 rfl) ?_
            refine lv_istore (lv' := [(4, .int x4), (6, .int (1 : Int32)), (0, .ref (ad 0)), (1, .int x1), (3, .int x3), (5, .int x5)]) hx hb dX7_rounds_122 hl (by decide) rfl (fun ls hl => ?_)
            obtain ⟨x5_23, ex5_23⟩ : ∃ y : Int32, y = x5 + (-1 : Int32) := ⟨_, rfl⟩
            have hm := hm x5_23 ex5_23
            refine lv_iinc (v := x5_23) (lv' := [(5, .int x5_23), (4, .int x4), (6, .int (1 : Int32)), (0, .ref (ad 0)), (1, .int x1), (3, .int x3)]) hx hb dX7_rounds_124 hl (k := 5) rfl (by rw [ex5_23]; rfl) (by decide) rfl (fun ls hl => ?_)
            refine lv_goto (tgt := 62) hx hb dX7_rounds_127 (by decide) ?_
            exact ih x1 x3 x4 x5_23 mta mba mib mdi mab mbe (upd mpl (x5).toNatClampNeg r_20) mro H locs ls hm ⟨hP, hD, hS⟩ (lv_sub hl [3, 4, 5, 1, 0] rfl) hret hK42
          · have hm := hm.2 c_22
            refine lv_iload hx hb dX7_rounds_113 (lv_at hl 4 rfl) ?_
            refine lv_iconst (v := 3) hx hb dX7_rounds_115 (by decide) ?_
            refine lv_idiv hx hb dX7_rounds_116 (by decide) ?_
            refine lv_goto (tgt := 122) hx hb dX7_rounds_117 (by decide) ?_
            refine lv_topi (fun x4_24 ex4_24 => ?_)
            have hm := hm x4_24 ex4_24
            refine lv_istore (lv' := [(4, .int x4_24), (6, .int (1 : Int32)), (0, .ref (ad 0)), (1, .int x1), (3, .int x3), (5, .int x5)]) hx hb dX7_rounds_122 hl (by decide) rfl (fun ls hl => ?_)
            obtain ⟨x5_25, ex5_25⟩ : ∃ y : Int32, y = x5 + (-1 : Int32) := ⟨_, rfl⟩
            have hm := hm x5_25 ex5_25
            refine lv_iinc (v := x5_25) (lv' := [(5, .int x5_25), (4, .int x4_24), (6, .int (1 : Int32)), (0, .ref (ad 0)), (1, .int x1), (3, .int x3)]) hx hb dX7_rounds_124 hl (k := 5) rfl (by rw [ex5_25]; rfl) (by decide) rfl (fun ls hl => ?_)
            refine lv_goto (tgt := 62) hx hb dX7_rounds_127 (by decide) ?_
            exact ih x1 x3 x4_24 x5_25 mta mba mib mdi mab mbe (upd mpl (x5).toNatClampNeg r_20) mro H locs ls hm ⟨hP, hD, hS⟩ (lv_sub hl [3, 4, 5, 1, 0] rfl) hret hK42
        · have hm := hm.2 c_19
          refine lv_iload hx hb dX7_rounds_94 (lv_at hl 4 rfl) ?_
          refine lv_iconst (v := 3) hx hb dX7_rounds_96 (by decide) ?_
          refine lv_irem hx hb dX7_rounds_97 (by decide) ?_
          refine lv_goto (tgt := 107) hx hb dX7_rounds_98 (by decide) ?_
          refine lv_topi (fun f_26 ef_26 => ?_)
          have hm := hm f_26 ef_26
          have hi_27 := hm.1
          have hm := hm.2
          refine va_iast hx hb hK hP hD hS 8 0 rfl rfl hi_27 dX7_rounds_107 (fun H locs hP hD hS => ?_)
          have hP : va_P (dC, dI) vwCl (wM ad cy mti mow mjo mta mba mib mdi mab mbe (upd mpl (x5).toNatClampNeg f_26) mbs mro mlo mth) H := hP
          have hD : va_D A (wM ad cy mti mow mjo mta mba mib mdi mab mbe (upd mpl (x5).toNatClampNeg f_26) mbs mro mlo mth) := hD
          refine lv_iload hx hb dX7_rounds_108 (lv_at hl 0 rfl) ?_
          refine lv_if_eq (tgt := 120) hx hb dX7_rounds_110 (by decide) (fun c_28 => ?_) (fun c_28 => ?_)
          · have hm := hm.1 c_28
            refine lv_iload hx hb dX7_rounds_120 (lv_at hl 4 rfl) ?_
            refine lv_istore (lv' := [(4, .int x4), (6, .int (1 : Int32)), (0, .ref (ad 0)), (1, .int x1), (3, .int x3), (5, .int x5)]) hx hb dX7_rounds_122 hl (by decide) rfl (fun ls hl => ?_)
            obtain ⟨x5_29, ex5_29⟩ : ∃ y : Int32, y = x5 + (-1 : Int32) := ⟨_, rfl⟩
            have hm := hm x5_29 ex5_29
            refine lv_iinc (v := x5_29) (lv' := [(5, .int x5_29), (4, .int x4), (6, .int (1 : Int32)), (0, .ref (ad 0)), (1, .int x1), (3, .int x3)]) hx hb dX7_rounds_124 hl (k := 5) rfl (by rw [ex5_29]; rfl) (by decide) rfl (fun ls hl => ?_)
            refine lv_goto (tgt := 62) hx hb dX7_rounds_127 (by decide) ?_
            exact ih x1 x3 x4 x5_29 mta mba mib mdi mab mbe (upd mpl (x5).toNatClampNeg f_26) mro H locs ls hm ⟨hP, hD, hS⟩ (lv_sub hl [3, 4, 5, 1, 0] rfl) hret hK42
          · have hm := hm.2 c_28
            refine lv_iload hx hb dX7_rounds_113 (lv_at hl 4 rfl) ?_
            refine lv_iconst (v := 3) hx hb dX7_rounds_115 (by decide) ?_
            refine lv_idiv hx hb dX7_rounds_116 (by decide) ?_
            refine lv_goto (tgt := 122) hx hb dX7_rounds_117 (by decide) ?_
            refine lv_topi (fun x4_30 ex4_30 => ?_)
            have hm := hm x4_30 ex4_30
            refine lv_istore (lv' := [(4, .int x4_30), (6, .int (1 : Int32)), (0, .ref (ad 0)), (1, .int x1), (3, .int x3), (5, .int x5)]) hx hb dX7_rounds_122 hl (by decide) rfl (fun ls hl => ?_)
            obtain ⟨x5_31, ex5_31⟩ : ∃ y : Int32, y = x5 + (-1 : Int32) := ⟨_, rfl⟩
            have hm := hm x5_31 ex5_31
            refine lv_iinc (v := x5_31) (lv' := [(5, .int x5_31), (4, .int x4_30), (6, .int (1 : Int32)), (0, .ref (ad 0)), (1, .int x1), (3, .int x3)]) hx hb dX7_rounds_124 hl (k := 5) rfl (by rw [ex5_31]; rfl) (by decide) rfl (fun ls hl => ?_)
            refine lv_goto (tgt := 62) hx hb dX7_rounds_127 (by decide) ?_
            exact ih x1 x3 x4_30 x5_31 mta mba mib mdi mab mbe (upd mpl (x5).toNatClampNeg f_26) mro H locs ls hm ⟨hP, hD, hS⟩ (lv_sub hl [3, 4, 5, 1, 0] rfl) hret hK42

set_option maxHeartbeats 4000000 in
set_option maxRecDepth 100000 in
theorem k_X7_rounds_143 {N : Nat} {mti : Nat → Int32} {mow : Nat → Int32} {mjo : Int32} {mbs : Nat → Int32} {mlo : Nat → Int32} {mth : Int32} {Q : (Nat → Int64) → (Nat → Int32) → (Nat → Int32) → Int64 → (Nat → Int64) → (Nat → Int64) → (Nat → Int32) → (Nat → Int32) → Prop} (C0 : cxM cX7_rounds 7 none RX7 wsX7_rounds p s m args meth c dC dI cy A) :
    ∀ (n : Nat) (x3 : Int32) (mta : Nat → Int64) (mba : Nat → Int32) (mib : Nat → Int32) (mdi : Int64) (mab : Nat → Int64) (mbe : Nat → Int64) (mpl : Nat → Int32) (mro : Nat → Int32) (H : Heap) (locs : List Loc) (ls : Array Slot) (hm : p_X7_rounds_143 N mti mjo Q n x3 mta mba mib mdi mab mbe mpl mro) (hSt : stC dC dI A s (wM ad cy mti mow mjo mta mba mib mdi mab mbe mpl mbs mro mlo mth) H locs) (hl : lv_has ls 7 [(0, .ref (ad 0)), (3, .int x3)]) (hret : ∀ (mta : Nat → Int64) (mba : Nat → Int32) (mib : Nat → Int32) (mdi : Int64) (mab : Nat → Int64) (mbe : Nat → Int64) (mpl : Nat → Int32) (mro : Nat → Int32) (H : Heap) (locs : List Loc) (ls : Array Slot) (pc : Nat), decode cX7_rounds pc = .ok (.return_, 1) → stC dC dI A s (wM ad cy mti mow mjo mta mba mib mdi mab mbe mpl mbs mro mlo mth) H locs → Q mta mba mib mdi mab mbe mpl mro → W p l e rmX7_rounds s m args below meth c H locs 0 0 Z (F0 m pc ls [])), W p l e rmX7_rounds s m args below meth c H locs 0 0 Z (F0 m 143 ls []) := by
  obtain ⟨hx, hb, hml, hr, hown, hts, hlocks, hK, hA, hN⟩ := id C0
  intro n
  induction n with
  | zero => intro x3 mta mba mib mdi mab mbe mpl mro H locs ls hm; exact False.elim hm
  | succ n ih =>
    intro x3 mta mba mib mdi mab mbe mpl mro H locs ls hm hSt hl hret
    obtain ⟨hP, hD, hS⟩ := hSt
    unfold p_X7_rounds_143 at hm
    refine lv_iload_n hx hb dX7_rounds_143 rfl (lv_at hl 1 rfl) ?_
    refine lv_aload_n hx hb dX7_rounds_144 rfl (lv_at hl 0 rfl) ?_
    refine va_get (D := (dC, dI)) (ci := 7) (v := .int mjo) (C := RX7) (T := TX7) (N := 14) hx hb hts in_X7_rounds_X7 hown hK hP 0 rfl rfl 2 (by decide) (hts _ fl_X7_rounds_49) (fun _ h9 => h9) rfl dX7_rounds_145 ?_
    refine lv_icmp_ge (tgt := 169) hx hb dX7_rounds_148 (by decide) (fun c_1 => ?_) (fun c_1 => ?_)
    · have hm := hm.1 c_1
      exact hret mta mba mib mdi mab mbe mpl mro H locs ls 169 dX7_rounds_169 ⟨hP, hD, hS⟩ hm
    · have hm := hm.2 c_1
      refine lv_aload_n hx hb dX7_rounds_151 rfl (lv_at hl 0 rfl) ?_
      refine va_get (D := (dC, dI)) (ci := 7) (v := .ref (ad 10)) (C := RX7) (T := TX7) (N := 14) hx hb hts in_X7_rounds_X7 hown hK hP 0 rfl rfl 11 (by decide) (hts _ fl_X7_rounds_39) (fun _ h9 => h9) rfl dX7_rounds_152 ?_
      refine lv_iload_n hx hb dX7_rounds_155 rfl (lv_at hl 1 rfl) ?_
      refine lv_aload_n hx hb dX7_rounds_156 rfl (lv_at hl 0 rfl) ?_
      refine va_get (D := (dC, dI)) (ci := 7) (v := .ref (ad 8)) (C := RX7) (T := TX7) (N := 14) hx hb hts in_X7_rounds_X7 hown hK hP 0 rfl rfl 9 (by decide) (hts _ fl_X7_rounds_33) (fun _ h9 => h9) rfl dX7_rounds_157 ?_
      refine lv_iload_n hx hb dX7_rounds_160 rfl (lv_at hl 1 rfl) ?_
      have hi_2 := hm.1
      have hm := hm.2
      refine va_iald hx hb hK hP 8 0 rfl rfl hi_2 dX7_rounds_161 ?_
      refine lv_topi (fun f_3 ef_3 => ?_)
      have hm := hm f_3 ef_3
      have hi_4 := hm.1
      have hm := hm.2
      refine va_iast hx hb hK hP hD hS 10 0 rfl rfl hi_4 dX7_rounds_162 (fun H locs hP hD hS => ?_)
      have hP : va_P (dC, dI) vwCl (wM ad cy mti mow mjo mta mba mib mdi mab mbe mpl mbs (upd mro (x3).toNatClampNeg f_3) mlo mth) H := hP
      have hD : va_D A (wM ad cy mti mow mjo mta mba mib mdi mab mbe mpl mbs (upd mro (x3).toNatClampNeg f_3) mlo mth) := hD
      obtain ⟨x3_5, ex3_5⟩ : ∃ y : Int32, y = x3 + (1 : Int32) := ⟨_, rfl⟩
      have hm := hm x3_5 ex3_5
      refine lv_iinc (v := x3_5) (lv' := [(3, .int x3_5), (0, .ref (ad 0))]) hx hb dX7_rounds_163 hl (k := 1) rfl (by rw [ex3_5]; rfl) (by decide) rfl (fun ls hl => ?_)
      refine lv_goto (tgt := 143) hx hb dX7_rounds_166 (by decide) ?_
      exact ih x3_5 mta mba mib mdi mab mbe mpl (upd mro (x3).toNatClampNeg f_3) H locs ls hm ⟨hP, hD, hS⟩ (lv_sub hl [1, 0] rfl) hret

set_option maxHeartbeats 4000000 in
set_option maxRecDepth 100000 in
theorem k_X7_rounds_42 {N : Nat} {mti : Nat → Int32} {mow : Nat → Int32} {mjo : Int32} {mbs : Nat → Int32} {mlo : Nat → Int32} {mth : Int32} {Q : (Nat → Int64) → (Nat → Int32) → (Nat → Int32) → Int64 → (Nat → Int64) → (Nat → Int64) → (Nat → Int32) → (Nat → Int32) → Prop} (C0 : cxM cX7_rounds 7 none RX7 wsX7_rounds p s m args meth c dC dI cy A) :
    ∀ (n : Nat) (x1 : Int32) (x2 : Int32) (x3 : Int32) (mta : Nat → Int64) (mba : Nat → Int32) (mib : Nat → Int32) (mdi : Int64) (mab : Nat → Int64) (mbe : Nat → Int64) (mpl : Nat → Int32) (mro : Nat → Int32) (H : Heap) (locs : List Loc) (ls : Array Slot) (hm : p_X7_rounds_42 N mti mjo Q n x1 x2 x3 mta mba mib mdi mab mbe mpl mro) (hSt : stC dC dI A s (wM ad cy mti mow mjo mta mba mib mdi mab mbe mpl mbs mro mlo mth) H locs) (hl : lv_has ls 7 [(0, .ref (ad 0)), (1, .int x1), (2, .int x2), (3, .int x3)]) (hret : ∀ (mta : Nat → Int64) (mba : Nat → Int32) (mib : Nat → Int32) (mdi : Int64) (mab : Nat → Int64) (mbe : Nat → Int64) (mpl : Nat → Int32) (mro : Nat → Int32) (H : Heap) (locs : List Loc) (ls : Array Slot) (pc : Nat), decode cX7_rounds pc = .ok (.return_, 1) → stC dC dI A s (wM ad cy mti mow mjo mta mba mib mdi mab mbe mpl mbs mro mlo mth) H locs → Q mta mba mib mdi mab mbe mpl mro → W p l e rmX7_rounds s m args below meth c H locs 0 0 Z (F0 m pc ls [])), W p l e rmX7_rounds s m args below meth c H locs 0 0 Z (F0 m 42 ls []) := by
  obtain ⟨hx, hb, hml, hr, hown, hts, hlocks, hK, hA, hN⟩ := id C0
  intro n
  induction n with
  | zero => intro x1 x2 x3 mta mba mib mdi mab mbe mpl mro H locs ls hm; exact False.elim hm
  | succ n ih =>
    intro x1 x2 x3 mta mba mib mdi mab mbe mpl mro H locs ls hm hSt hl hret
    obtain ⟨hP, hD, hS⟩ := hSt
    unfold p_X7_rounds_42 at hm
    refine lv_iload_n hx hb dX7_rounds_42 rfl (lv_at hl 3 rfl) ?_
    refine lv_iload_n hx hb dX7_rounds_43 rfl (lv_at hl 1 rfl) ?_
    refine lv_icmp_ge (tgt := 141) hx hb dX7_rounds_44 (by decide) (fun c_1 => ?_) (fun c_1 => ?_)
    · have hm := hm.1 c_1
      refine lv_iconst (v := 0) hx hb dX7_rounds_141 (by decide) ?_
      refine lv_istore_n (lv' := [(3, .int (0 : Int32)), (0, .ref (ad 0)), (1, .int x1), (2, .int x2)]) hx hb dX7_rounds_142 rfl hl (by decide) rfl (fun ls hl => ?_)
      exact k_X7_rounds_143 C0 N (0 : Int32) mta mba mib mdi mab mbe mpl mro H locs ls hm ⟨hP, hD, hS⟩ (lv_sub hl [1, 0] rfl) hret
    · have hm := hm.2 c_1
      refine lv_iload_n hx hb dX7_rounds_47 rfl (lv_at hl 2 rfl) ?_
      refine lv_if_ne (tgt := 141) hx hb dX7_rounds_48 (by decide) (fun c_2 => ?_) (fun c_2 => ?_)
      · have hm := hm.2 c_2
        refine lv_iconst (v := 0) hx hb dX7_rounds_141 (by decide) ?_
        refine lv_istore_n (lv' := [(3, .int (0 : Int32)), (0, .ref (ad 0)), (1, .int x1), (2, .int x2)]) hx hb dX7_rounds_142 rfl hl (by decide) rfl (fun ls hl => ?_)
        exact k_X7_rounds_143 C0 N (0 : Int32) mta mba mib mdi mab mbe mpl mro H locs ls hm ⟨hP, hD, hS⟩ (lv_sub hl [1, 0] rfl) hret
      · have hm := hm.1 c_2
        refine lv_iload_n hx hb dX7_rounds_51 rfl (lv_at hl 3 rfl) ?_
        refine lv_istore (lv' := [(4, .int x3), (0, .ref (ad 0)), (1, .int x1), (2, .int x2), (3, .int x3)]) hx hb dX7_rounds_52 hl (by decide) rfl (fun ls hl => ?_)
        refine lv_aload_n hx hb dX7_rounds_54 rfl (lv_at hl 1 rfl) ?_
        refine va_get (D := (dC, dI)) (ci := 7) (v := .int mjo) (C := RX7) (T := TX7) (N := 14) hx hb hts in_X7_rounds_X7 hown hK hP 0 rfl rfl 2 (by decide) (hts _ fl_X7_rounds_49) (fun _ h9 => h9) rfl dX7_rounds_55 ?_
        refine lv_iconst (v := 1) hx hb dX7_rounds_58 (by decide) ?_
        refine lv_isub hx hb dX7_rounds_59 ?_
        refine lv_topi (fun x5_3 ex5_3 => ?_)
        have hm := hm x5_3 ex5_3
        refine lv_istore (lv' := [(5, .int x5_3), (4, .int x3), (0, .ref (ad 0)), (1, .int x1), (2, .int x2), (3, .int x3)]) hx hb dX7_rounds_60 hl (by decide) rfl (fun ls hl => ?_)
        refine k_X7_rounds_62 C0 N x1 x3 x3 x5_3 mta mba mib mdi mab mbe mpl mro H locs ls hm ⟨hP, hD, hS⟩ (lv_sub hl [2, 3, 5, 1, 0] rfl) hret (fun x1 x2 x3 mta mba mib mdi mab mbe mpl mro H locs ls hm hSt hl => ?_)
        · obtain ⟨hP, hD, hS⟩ := hSt
          exact ih x1 x2 x3 mta mba mib mdi mab mbe mpl mro H locs ls hm ⟨hP, hD, hS⟩ hl hret

set_option maxHeartbeats 4000000 in
set_option maxRecDepth 100000 in
theorem k_X7_rounds_8 {N : Nat} {mti : Nat → Int32} {mow : Nat → Int32} {mjo : Int32} {mbs : Nat → Int32} {mlo : Nat → Int32} {mth : Int32} {Q : (Nat → Int64) → (Nat → Int32) → (Nat → Int32) → Int64 → (Nat → Int64) → (Nat → Int64) → (Nat → Int32) → (Nat → Int32) → Prop} (C0 : cxM cX7_rounds 7 none RX7 wsX7_rounds p s m args meth c dC dI cy A) :
    ∀ (n : Nat) (x1 : Int32) (x2 : Int32) (mta : Nat → Int64) (mba : Nat → Int32) (mib : Nat → Int32) (mdi : Int64) (mab : Nat → Int64) (mbe : Nat → Int64) (mpl : Nat → Int32) (mro : Nat → Int32) (H : Heap) (locs : List Loc) (ls : Array Slot) (hm : p_X7_rounds_8 N mti mjo Q n x1 x2 mta mba mib mdi mab mbe mpl mro) (hSt : stC dC dI A s (wM ad cy mti mow mjo mta mba mib mdi mab mbe mpl mbs mro mlo mth) H locs) (hl : lv_has ls 7 [(0, .ref (ad 0)), (1, .int x1), (2, .int x2)]) (hret : ∀ (mta : Nat → Int64) (mba : Nat → Int32) (mib : Nat → Int32) (mdi : Int64) (mab : Nat → Int64) (mbe : Nat → Int64) (mpl : Nat → Int32) (mro : Nat → Int32) (H : Heap) (locs : List Loc) (ls : Array Slot) (pc : Nat), decode cX7_rounds pc = .ok (.return_, 1) → stC dC dI A s (wM ad cy mti mow mjo mta mba mib mdi mab mbe mpl mbs mro mlo mth) H locs → Q mta mba mib mdi mab mbe mpl mro → W p l e rmX7_rounds s m args below meth c H locs 0 0 Z (F0 m pc ls [])), W p l e rmX7_rounds s m args below meth c H locs 0 0 Z (F0 m 8 ls []) := by
  obtain ⟨hx, hb, hml, hr, hown, hts, hlocks, hK, hA, hN⟩ := id C0
  intro n
  induction n with
  | zero => intro x1 x2 mta mba mib mdi mab mbe mpl mro H locs ls hm; exact False.elim hm
  | succ n ih =>
    intro x1 x2 mta mba mib mdi mab mbe mpl mro H locs ls hm hSt hl hret
    obtain ⟨hP, hD, hS⟩ := hSt
    unfold p_X7_rounds_8 at hm
    refine lv_iload_n hx hb dX7_rounds_8 rfl (lv_at hl 2 rfl) ?_
    refine lv_aload_n hx hb dX7_rounds_9 rfl (lv_at hl 0 rfl) ?_
    refine va_get (D := (dC, dI)) (ci := 7) (v := .int mjo) (C := RX7) (T := TX7) (N := 14) hx hb hts in_X7_rounds_X7 hown hK hP 0 rfl rfl 2 (by decide) (hts _ fl_X7_rounds_49) (fun _ h9 => h9) rfl dX7_rounds_10 ?_
    refine lv_icmp_ge (tgt := 38) hx hb dX7_rounds_13 (by decide) (fun c_1 => ?_) (fun c_1 => ?_)
    · have hm := hm.1 c_1
      refine lv_iconst (v := 0) hx hb dX7_rounds_38 (by decide) ?_
      refine lv_istore_n (lv' := [(2, .int (0 : Int32)), (0, .ref (ad 0)), (1, .int x1)]) hx hb dX7_rounds_39 rfl hl (by decide) rfl (fun ls hl => ?_)
      refine lv_iconst (v := 0) hx hb dX7_rounds_40 (by decide) ?_
      refine lv_istore_n (lv' := [(3, .int (0 : Int32)), (2, .int (0 : Int32)), (0, .ref (ad 0)), (1, .int x1)]) hx hb dX7_rounds_41 rfl hl (by decide) rfl (fun ls hl => ?_)
      exact k_X7_rounds_42 C0 N x1 (0 : Int32) (0 : Int32) mta mba mib mdi mab mbe mpl mro H locs ls hm ⟨hP, hD, hS⟩ (lv_sub hl [2, 3, 1, 0] rfl) hret
    · have hm := hm.2 c_1
      refine lv_iload_n hx hb dX7_rounds_16 rfl (lv_at hl 1 rfl) ?_
      refine lv_aload_n hx hb dX7_rounds_17 rfl (lv_at hl 0 rfl) ?_
      refine lv_iload_n hx hb dX7_rounds_18 rfl (lv_at hl 2 rfl) ?_
      have hFc := va_freeSame hD hS hA
      refine va_calli (va_runV (As := [.int x2]) (rest := [.int x1]) ⟨hx, hb, hml, hown, hts⟩ (c_X7_whole l dC dI cy ad H.size mti mow mjo mta mba mib mdi mab mbe mpl mbs mro mlo mth x2 _ _ hm) (cwV 1 hts gX7_rounds_X7_whole rfl rfl rfl (by decide +kernel) ⟨Nat.le_of_ble_eq_true rfl, Nat.le_of_ble_eq_true rfl⟩) ⟨cPre_blind, va_recv hK hP (ci := 7) (q0 := 0) rfl rfl, fun U hU hW => ⟨rfl, cPre_at hP hK hD hN hU hW⟩⟩ rfl rfl hl.1 rfl (lv_room (Nat.le_of_ble_eq_true rfl)) dX7_rounds_19 ⟨Nat.zero_le _, Nat.zero_le _⟩) hS (fun q _ h => hFc q h) hFc (fun r_2 u t H locs ht hvm hw hB hz1 hk1 hS => ?_)
      try dsimp only at hw
      have hm := hw
      have hP : va_P (dC, dI) vwCl (wM ad cy mti mow mjo mta mba mib mdi mab mbe mpl mbs mro mlo mth) H := cPost_P ht hB
      have hD : va_D A (wM ad cy mti mow mjo mta mba mib mdi mab mbe mpl mbs mro mlo mth) := cPost_D hFc hB
      refine lv_if_ge (tgt := 29) hx hb dX7_rounds_22 (by decide) (fun c_3 => ?_) (fun c_3 => ?_)
      · have hm := hm.1 c_3
        refine lv_iconst (v := 1) hx hb dX7_rounds_29 (by decide) ?_
        refine lv_imul hx hb dX7_rounds_30 ?_
        refine lv_topi (fun x1_4 ex1_4 => ?_)
        have hm := hm x1_4 ex1_4
        refine lv_istore_n (lv' := [(1, .int x1_4), (0, .ref (ad 0)), (2, .int x2)]) hx hb dX7_rounds_31 rfl hl (by decide) rfl (fun ls hl => ?_)
        obtain ⟨x2_5, ex2_5⟩ : ∃ y : Int32, y = x2 + (1 : Int32) := ⟨_, rfl⟩
        have hm := hm x2_5 ex2_5
        refine lv_iinc (v := x2_5) (lv' := [(2, .int x2_5), (1, .int x1_4), (0, .ref (ad 0))]) hx hb dX7_rounds_32 hl (k := 2) rfl (by rw [ex2_5]; rfl) (by decide) rfl (fun ls hl => ?_)
        refine lv_goto (tgt := 8) hx hb dX7_rounds_35 (by decide) ?_
        exact ih x1_4 x2_5 mta mba mib mdi mab mbe mpl mro H locs ls hm ⟨hP, hD, hS⟩ (lv_sub hl [2, 1, 0] rfl) hret
      · have hm := hm.2 c_3
        refine lv_iconst (v := 3) hx hb dX7_rounds_25 (by decide) ?_
        refine lv_goto (tgt := 30) hx hb dX7_rounds_26 (by decide) ?_
        refine lv_imul hx hb dX7_rounds_30 ?_
        refine lv_topi (fun x1_6 ex1_6 => ?_)
        have hm := hm x1_6 ex1_6
        refine lv_istore_n (lv' := [(1, .int x1_6), (0, .ref (ad 0)), (2, .int x2)]) hx hb dX7_rounds_31 rfl hl (by decide) rfl (fun ls hl => ?_)
        obtain ⟨x2_7, ex2_7⟩ : ∃ y : Int32, y = x2 + (1 : Int32) := ⟨_, rfl⟩
        have hm := hm x2_7 ex2_7
        refine lv_iinc (v := x2_7) (lv' := [(2, .int x2_7), (1, .int x1_6), (0, .ref (ad 0))]) hx hb dX7_rounds_32 hl (k := 2) rfl (by rw [ex2_7]; rfl) (by decide) rfl (fun ls hl => ?_)
        refine lv_goto (tgt := 8) hx hb dX7_rounds_35 (by decide) ?_
        exact ih x1_6 x2_7 mta mba mib mdi mab mbe mpl mro H locs ls hm ⟨hP, hD, hS⟩ (lv_sub hl [2, 1, 0] rfl) hret

set_option maxHeartbeats 4000000 in
set_option maxRecDepth 100000 in
theorem k_X7_rounds_0 {N : Nat} {mti : Nat → Int32} {mow : Nat → Int32} {mjo : Int32} {mbs : Nat → Int32} {mlo : Nat → Int32} {mth : Int32} {Q : (Nat → Int64) → (Nat → Int32) → (Nat → Int32) → Int64 → (Nat → Int64) → (Nat → Int64) → (Nat → Int32) → (Nat → Int32) → Prop} (C0 : cxM cX7_rounds 7 none RX7 wsX7_rounds p s m args meth c dC dI cy A) :
    ∀ (mta : Nat → Int64) (mba : Nat → Int32) (mib : Nat → Int32) (mdi : Int64) (mab : Nat → Int64) (mbe : Nat → Int64) (mpl : Nat → Int32) (mro : Nat → Int32) (H : Heap) (locs : List Loc) (ls : Array Slot) (hm : p_X7_rounds N mti mjo Q mta mba mib mdi mab mbe mpl mro) (hSt : stC dC dI A s (wM ad cy mti mow mjo mta mba mib mdi mab mbe mpl mbs mro mlo mth) H locs) (hl : lv_has ls 7 [(0, .ref (ad 0))]) (hret : ∀ (mta : Nat → Int64) (mba : Nat → Int32) (mib : Nat → Int32) (mdi : Int64) (mab : Nat → Int64) (mbe : Nat → Int64) (mpl : Nat → Int32) (mro : Nat → Int32) (H : Heap) (locs : List Loc) (ls : Array Slot) (pc : Nat), decode cX7_rounds pc = .ok (.return_, 1) → stC dC dI A s (wM ad cy mti mow mjo mta mba mib mdi mab mbe mpl mbs mro mlo mth) H locs → Q mta mba mib mdi mab mbe mpl mro → W p l e rmX7_rounds s m args below meth c H locs 0 0 Z (F0 m pc ls [])), W p l e rmX7_rounds s m args below meth c H locs 0 0 Z (F0 m 0 ls []) := by
  obtain ⟨hx, hb, hml, hr, hown, hts, hlocks, hK, hA, hN⟩ := id C0
  intro mta mba mib mdi mab mbe mpl mro H locs ls hm hSt hl hret
  obtain ⟨hP, hD, hS⟩ := hSt
  unfold p_X7_rounds at hm
  refine lv_aload_n hx hb dX7_rounds_0 rfl (lv_at hl 0 rfl) ?_
  have hFc := va_freeSame hD hS hA
  refine va_callv (va_runV (As := []) (rest := []) ⟨hx, hb, hml, hown, hts⟩ (c_X7_divides l dC dI cy ad H.size mti mow mjo mta mba mib mdi mab mbe mpl mbs mro mlo mth  _ _ hm) (cwV 0 hts gX7_rounds_X7_divides rfl rfl rfl (by decide +kernel) ⟨Nat.le_of_ble_eq_true rfl, Nat.le_of_ble_eq_true rfl⟩) ⟨cPre_blind, va_recv hK hP (ci := 7) (q0 := 0) rfl rfl, fun U hU hW => ⟨rfl, cPre_at hP hK hD hN hU hW⟩⟩ rfl rfl hl.1 rfl (lv_room (Nat.le_of_ble_eq_true rfl)) dX7_rounds_1 ⟨Nat.zero_le _, Nat.zero_le _⟩) hS (fun q _ h => hFc q h) hFc (fun u t H locs ht hvm hw hB hz1 hk1 hS => ?_)
  obtain ⟨mta_1, mba_2, mib_3, mdi_4, mab_5, mbe_6⟩ := u
  try dsimp only at hw
  have hm := hw
  have hP : va_P (dC, dI) vwCl (wM ad cy mti mow mjo mta_1 mba_2 mib_3 mdi_4 mab_5 mbe_6 mpl mbs mro mlo mth) H := cPost_P ht hB
  have hD : va_D A (wM ad cy mti mow mjo mta_1 mba_2 mib_3 mdi_4 mab_5 mbe_6 mpl mbs mro mlo mth) := cPost_D hFc hB
  refine lv_iconst (v := 1) hx hb dX7_rounds_4 (by decide) ?_
  refine lv_istore_n (lv' := [(1, .int (1 : Int32)), (0, .ref (ad 0))]) hx hb dX7_rounds_5 rfl hl (by decide) rfl (fun ls hl => ?_)
  refine lv_iconst (v := 0) hx hb dX7_rounds_6 (by decide) ?_
  refine lv_istore_n (lv' := [(2, .int (0 : Int32)), (1, .int (1 : Int32)), (0, .ref (ad 0))]) hx hb dX7_rounds_7 rfl hl (by decide) rfl (fun ls hl => ?_)
  exact k_X7_rounds_8 C0 N (1 : Int32) (0 : Int32) mta_1 mba_2 mib_3 mdi_4 mab_5 mbe_6 mpl mro H locs ls hm ⟨hP, hD, hS⟩ (lv_sub hl [2, 1, 0] rfl) hret

set_option maxHeartbeats 4000000 in
set_option maxRecDepth 100000 in
theorem c_X7_rounds (l : Launch) (dC : Nat → ClassId) (dI : Nat → Nat → Nat) (cy : Nat → ClassId) (ad : Nat → Nat) (sz : Nat) (mti : Nat → Int32) (mow : Nat → Int32) (mjo : Int32) (mta : Nat → Int64) (mba : Nat → Int32) (mib : Nat → Int32) (mdi : Int64) (mab : Nat → Int64) (mbe : Nat → Int64) (mpl : Nat → Int32) (mbs : Nat → Int32) (mro : Nat → Int32) (mlo : Nat → Int32) (mth : Int32)  (N : Nat) (Q : (Nat → Int64) → (Nat → Int32) → (Nat → Int32) → Int64 → (Nat → Int64) → (Nat → Int64) → (Nat → Int32) → (Nat → Int32) → Prop) (hm : p_X7_rounds N mti mjo Q mta mba mib mdi mab mbe mpl mro) : Met l yX7_rounds wsX7_rounds rmX7_rounds (va_Pc [.ref (ad 0)] (cPre dC dI cy (wM ad cy mti mow mjo mta mba mib mdi mab mbe mpl mbs mro mlo mth) sz)) (va_Qv (fun (u : (Nat → Int64) × (Nat → Int32) × (Nat → Int32) × Int64 × (Nat → Int64) × (Nat → Int64) × (Nat → Int32) × (Nat → Int32)) => Q u.1 u.2.1 u.2.2.1 u.2.2.2.1 u.2.2.2.2.1 u.2.2.2.2.2.1 u.2.2.2.2.2.2.1 u.2.2.2.2.2.2.2) (fun u t => cPost dC dI cy (wM ad cy mti mow mjo mta mba mib mdi mab mbe mpl mbs mro mlo mth) sz (wM ad cy mti mow mjo (u.1) (u.2.1) (u.2.2.1) (u.2.2.2.1) (u.2.2.2.2.1) (u.2.2.2.2.2.1) (u.2.2.2.2.2.2.1) mbs (u.2.2.2.2.2.2.2) mlo mth) t) (va_A (wM ad cy mti mow mjo mta mba mib mdi mab mbe mpl mbs mro mlo mth) sz)) 0 0 (va_A (wM ad cy mti mow mjo mta mba mib mdi mab mbe mpl mbs mro mlo mth) sz) := by
  refine Met.ofW (cc := cX7_rounds) (maxL := 7) (ret := none) (by decide) rfl ?_
  intro p e s m args below meth c s₁ B hml hv
  obtain ⟨rfl, hsz, hP, hK, hD0, hN⟩ := hv
  have hts := atoms_spec (ws := wsX7_rounds) B.pre
  have hown : s.vm.findClass RX7 = some m.cls := findClass_of_methodNamed B.named
  subst hsz
  have hD := hD0.self (sz := s.heap.size)
  generalize hAe : va_A (wM ad cy mti mow mjo mta mba mib mdi mab mbe mpl mbs mro mlo mth) s.heap.size = A at hD ⊢
  have hA : ∀ q : Nat, s.heap.size ≤ q → A q := fun q h => by rw [← hAe]; exact Or.inr h
  have hl := lv_entry ([.ref (ad 0)]) (n := 7) (Nat.le_of_ble_eq_true rfl)
  rw [lg_entry_eq]
  generalize (lg_sl ([.ref (ad 0)]) ++ List.replicate (7 - (lg_sl ([.ref (ad 0)])).length) Slot.unset).toArray = ls at hl ⊢
  have hl : lv_has ls 7 [(0, .ref (ad 0))] := hl
  exact k_X7_rounds_0 ⟨B.exec, B.bytes, hml, B.returns, hown, hts, B.notSynchronized, hK, hA, hN⟩ mta mba mib mdi mab mbe mpl mro s.heap [] ls hm ⟨hP, hD, va_S.rf⟩ (lv_sub hl [0] rfl) (fun mta mba mib mdi mab mbe mpl mro H locs ls pc hdg hSt hq => W.vret B.exec B.bytes B.returns (fun t ht hW => ⟨⟨(mta, mba, mib, mdi, mab, mbe, mpl, mro), rfl, hq, cPost_of hAe ht hW.alike hSt hK⟩, hSt.2.2.F ht⟩) hSt.2.2.2.2 hdg B.notSynchronized)

-- ===== X7_roundedMachine
theorem fl_X7_roundedMachine_39 : Cond.fieldLink RX7 39 "UnlikeUnionModel" "rounded" "[I" ∈ wsX7_roundedMachine := by decide +kernel
theorem in_X7_roundedMachine_X7 : ∀ w ∈ u_ws RX7 TX7 14, w ∈ wsX7_roundedMachine := by decide +kernel
abbrev rmX7_roundedMachine : Room := { frames := 8, cells := 0, slots := 0, locals := 648 }
def p_X7_roundedMachine (N : Nat) (mti : Nat → Int32) (mjo : Int32) (Q : Int32 → (Nat → Int64) → (Nat → Int32) → (Nat → Int32) → Int64 → (Nat → Int64) → (Nat → Int64) → (Nat → Int32) → (Nat → Int32) → Int32 → Prop) (x1 : Int32) (mta : Nat → Int64) (mba : Nat → Int32) (mib : Nat → Int32) (mdi : Int64) (mab : Nat → Int64) (mbe : Nat → Int64) (mpl : Nat → Int32) (mro : Nat → Int32) (mth : Int32) : Prop :=
  p_X7_isJob N mjo (fun r_1 => p_X7_goes N (fun r_2 mth_3 => (r_2 = 0 → (Q (0 : Int32) mta mba mib mdi mab mbe mpl mro mth_3)) ∧ (¬ r_2 = 0 → (p_X7_rounds N mti mjo (fun mta_5 mba_6 mib_7 mdi_8 mab_9 mbe_10 mpl_11 mro_12 => vp_in x1 7 ∧ (Q (mro_12 (x1).toNatClampNeg) mta_5 mba_6 mib_7 mdi_8 mab_9 mbe_10 mpl_11 mro_12 mth_3)) mta mba mib mdi mab mbe mpl mro))) r_1 (1 : Int32) (1 : Int32) mth) x1

set_option maxHeartbeats 4000000 in
set_option maxRecDepth 100000 in
theorem k_X7_roundedMachine_0 {N : Nat} {mti : Nat → Int32} {mow : Nat → Int32} {mjo : Int32} {mbs : Nat → Int32} {mlo : Nat → Int32} {Q : Int32 → (Nat → Int64) → (Nat → Int32) → (Nat → Int32) → Int64 → (Nat → Int64) → (Nat → Int64) → (Nat → Int32) → (Nat → Int32) → Int32 → Prop} (C0 : cxM cX7_roundedMachine 2 (some .int) RX7 wsX7_roundedMachine p s m args meth c dC dI cy A) :
    ∀ (x1 : Int32) (mta : Nat → Int64) (mba : Nat → Int32) (mib : Nat → Int32) (mdi : Int64) (mab : Nat → Int64) (mbe : Nat → Int64) (mpl : Nat → Int32) (mro : Nat → Int32) (mth : Int32) (H : Heap) (locs : List Loc) (ls : Array Slot) (hm : p_X7_roundedMachine N mti mjo Q x1 mta mba mib mdi mab mbe mpl mro mth) (hSt : stC dC dI A s (wM ad cy mti mow mjo mta mba mib mdi mab mbe mpl mbs mro mlo mth) H locs) (hl : lv_has ls 2 [(0, .ref (ad 0)), (1, .int x1)]) (hret : ∀ (r : Int32) (mta : Nat → Int64) (mba : Nat → Int32) (mib : Nat → Int32) (mdi : Int64) (mab : Nat → Int64) (mbe : Nat → Int64) (mpl : Nat → Int32) (mro : Nat → Int32) (mth : Int32) (H : Heap) (locs : List Loc) (ls : Array Slot) (pc : Nat), decode cX7_roundedMachine pc = .ok (.ireturn, 1) → stC dC dI A s (wM ad cy mti mow mjo mta mba mib mdi mab mbe mpl mbs mro mlo mth) H locs → Q r mta mba mib mdi mab mbe mpl mro mth → W p l e rmX7_roundedMachine s m args below meth c H locs 0 0 Z (F0 m pc ls [.int r])), W p l e rmX7_roundedMachine s m args below meth c H locs 0 0 Z (F0 m 0 ls []) := by
  obtain ⟨hx, hb, hml, hr, hown, hts, hlocks, hK, hA, hN⟩ := id C0
  intro x1 mta mba mib mdi mab mbe mpl mro mth H locs ls hm hSt hl hret
  obtain ⟨hP, hD, hS⟩ := hSt
  unfold p_X7_roundedMachine at hm
  refine lv_aload_n hx hb dX7_roundedMachine_0 rfl (lv_at hl 0 rfl) ?_
  refine lv_aload_n hx hb dX7_roundedMachine_1 rfl (lv_at hl 0 rfl) ?_
  refine lv_iload_n hx hb dX7_roundedMachine_2 rfl (lv_at hl 1 rfl) ?_
  have hFc := va_freeSame hD hS hA
  refine va_calli (va_runV (As := [.int x1]) (rest := [.ref (ad 0)]) ⟨hx, hb, hml, hown, hts⟩ (c_X7_isJob l dC dI cy ad H.size mti mow mjo mta mba mib mdi mab mbe mpl mbs mro mlo mth x1 _ _ hm) (cwV 1 hts gX7_roundedMachine_X7_isJob rfl rfl rfl (by decide +kernel) ⟨Nat.le_of_ble_eq_true rfl, Nat.le_of_ble_eq_true rfl⟩) ⟨cPre_blind, va_recv hK hP (ci := 7) (q0 := 0) rfl rfl, fun U hU hW => ⟨rfl, cPre_at hP hK hD hN hU hW⟩⟩ rfl rfl hl.1 rfl (lv_room (Nat.le_of_ble_eq_true rfl)) dX7_roundedMachine_3 ⟨Nat.zero_le _, Nat.zero_le _⟩) hS (fun q _ h => hFc q h) hFc (fun r_1 u t H locs ht hvm hw hB hz1 hk1 hS => ?_)
  try dsimp only at hw
  obtain ⟨hm, nar_r_1⟩ := hw
  have hP : va_P (dC, dI) vwCl (wM ad cy mti mow mjo mta mba mib mdi mab mbe mpl mbs mro mlo mth) H := cPost_P ht hB
  have hD : va_D A (wM ad cy mti mow mjo mta mba mib mdi mab mbe mpl mbs mro mlo mth) := cPost_D hFc hB
  refine lv_iconst (v := 1) hx hb dX7_roundedMachine_6 (by decide) ?_
  refine lv_iconst (v := 1) hx hb dX7_roundedMachine_7 (by decide) ?_
  have hFc := va_freeSame hD hS hA
  refine va_calli (va_runV (As := [.int r_1, .int (1 : Int32), .int (1 : Int32)]) (rest := []) ⟨hx, hb, hml, hown, hts⟩ (c_X7_goes l dC dI cy ad H.size mti mow mjo mta mba mib mdi mab mbe mpl mbs mro mlo mth r_1 (1 : Int32) (1 : Int32) _ _ hm) (cwV 3 hts gX7_roundedMachine_X7_goes rfl rfl rfl (by decide +kernel) ⟨Nat.le_of_ble_eq_true rfl, Nat.le_of_ble_eq_true rfl⟩) ⟨cPre_blind, va_recv hK hP (ci := 7) (q0 := 0) rfl rfl, fun U hU hW => ⟨rfl, cPre_at hP hK hD hN hU hW⟩⟩ rfl rfl hl.1 rfl (lv_room (Nat.le_of_ble_eq_true rfl)) dX7_roundedMachine_8 ⟨Nat.zero_le _, Nat.zero_le _⟩) hS (fun q _ h => hFc q h) hFc (fun r_2 u t H locs ht hvm hw hB hz1 hk1 hS => ?_)
  obtain ⟨mth_3, rfl⟩ : ∃ z, z = u := ⟨_, rfl⟩
  try dsimp only at hw
  obtain ⟨hm, nar_r_2⟩ := hw
  have hP : va_P (dC, dI) vwCl (wM ad cy mti mow mjo mta mba mib mdi mab mbe mpl mbs mro mlo mth_3) H := cPost_P ht hB
  have hD : va_D A (wM ad cy mti mow mjo mta mba mib mdi mab mbe mpl mbs mro mlo mth_3) := cPost_D hFc hB
  refine lv_if_ne (tgt := 16) hx hb dX7_roundedMachine_11 (by decide) (fun c_4 => ?_) (fun c_4 => ?_)
  · have hm := hm.2 c_4
    refine lv_aload_n hx hb dX7_roundedMachine_16 rfl (lv_at hl 0 rfl) ?_
    have hFc := va_freeSame hD hS hA
    refine va_callv (va_runV (As := []) (rest := []) ⟨hx, hb, hml, hown, hts⟩ (c_X7_rounds l dC dI cy ad H.size mti mow mjo mta mba mib mdi mab mbe mpl mbs mro mlo mth_3  _ _ hm) (cwV 0 hts gX7_roundedMachine_X7_rounds rfl rfl rfl (by decide +kernel) ⟨Nat.le_of_ble_eq_true rfl, Nat.le_of_ble_eq_true rfl⟩) ⟨cPre_blind, va_recv hK hP (ci := 7) (q0 := 0) rfl rfl, fun U hU hW => ⟨rfl, cPre_at hP hK hD hN hU hW⟩⟩ rfl rfl hl.1 rfl (lv_room (Nat.le_of_ble_eq_true rfl)) dX7_roundedMachine_17 ⟨Nat.zero_le _, Nat.zero_le _⟩) hS (fun q _ h => hFc q h) hFc (fun u t H locs ht hvm hw hB hz1 hk1 hS => ?_)
    obtain ⟨mta_5, mba_6, mib_7, mdi_8, mab_9, mbe_10, mpl_11, mro_12⟩ := u
    try dsimp only at hw
    have hm := hw
    have hP : va_P (dC, dI) vwCl (wM ad cy mti mow mjo mta_5 mba_6 mib_7 mdi_8 mab_9 mbe_10 mpl_11 mbs mro_12 mlo mth_3) H := cPost_P ht hB
    have hD : va_D A (wM ad cy mti mow mjo mta_5 mba_6 mib_7 mdi_8 mab_9 mbe_10 mpl_11 mbs mro_12 mlo mth_3) := cPost_D hFc hB
    refine lv_aload_n hx hb dX7_roundedMachine_20 rfl (lv_at hl 0 rfl) ?_
    refine va_get (D := (dC, dI)) (ci := 7) (v := .ref (ad 10)) (C := RX7) (T := TX7) (N := 14) hx hb hts in_X7_roundedMachine_X7 hown hK hP 0 rfl rfl 11 (by decide) (hts _ fl_X7_roundedMachine_39) (fun _ h9 => h9) rfl dX7_roundedMachine_21 ?_
    refine lv_iload_n hx hb dX7_roundedMachine_24 rfl (lv_at hl 1 rfl) ?_
    have hi_13 := hm.1
    have hm := hm.2
    refine va_iald hx hb hK hP 10 0 rfl rfl hi_13 dX7_roundedMachine_25 ?_
    exact hret (mro_12 (x1).toNatClampNeg) mta_5 mba_6 mib_7 mdi_8 mab_9 mbe_10 mpl_11 mro_12 mth_3 H locs ls 26 dX7_roundedMachine_26 ⟨hP, hD, hS⟩ hm
  · have hm := hm.1 c_4
    refine lv_iconst (v := 0) hx hb dX7_roundedMachine_14 (by decide) ?_
    exact hret (0 : Int32) mta mba mib mdi mab mbe mpl mro mth_3 H locs ls 15 dX7_roundedMachine_15 ⟨hP, hD, hS⟩ hm

set_option maxHeartbeats 4000000 in
set_option maxRecDepth 100000 in
theorem c_X7_roundedMachine (l : Launch) (dC : Nat → ClassId) (dI : Nat → Nat → Nat) (cy : Nat → ClassId) (ad : Nat → Nat) (sz : Nat) (mti : Nat → Int32) (mow : Nat → Int32) (mjo : Int32) (mta : Nat → Int64) (mba : Nat → Int32) (mib : Nat → Int32) (mdi : Int64) (mab : Nat → Int64) (mbe : Nat → Int64) (mpl : Nat → Int32) (mbs : Nat → Int32) (mro : Nat → Int32) (mlo : Nat → Int32) (mth : Int32) (x1 : Int32) (N : Nat) (Q : Int32 → (Nat → Int64) → (Nat → Int32) → (Nat → Int32) → Int64 → (Nat → Int64) → (Nat → Int64) → (Nat → Int32) → (Nat → Int32) → Int32 → Prop) (hm : p_X7_roundedMachine N mti mjo Q x1 mta mba mib mdi mab mbe mpl mro mth) : Met l yX7_roundedMachine wsX7_roundedMachine rmX7_roundedMachine (va_Pc [.ref (ad 0), .int x1] (cPre dC dI cy (wM ad cy mti mow mjo mta mba mib mdi mab mbe mpl mbs mro mlo mth) sz)) (va_Qi (fun (r : Int32) (u : (Nat → Int64) × (Nat → Int32) × (Nat → Int32) × Int64 × (Nat → Int64) × (Nat → Int64) × (Nat → Int32) × (Nat → Int32) × Int32) => Q r u.1 u.2.1 u.2.2.1 u.2.2.2.1 u.2.2.2.2.1 u.2.2.2.2.2.1 u.2.2.2.2.2.2.1 u.2.2.2.2.2.2.2.1 u.2.2.2.2.2.2.2.2) (fun u t => cPost dC dI cy (wM ad cy mti mow mjo mta mba mib mdi mab mbe mpl mbs mro mlo mth) sz (wM ad cy mti mow mjo (u.1) (u.2.1) (u.2.2.1) (u.2.2.2.1) (u.2.2.2.2.1) (u.2.2.2.2.2.1) (u.2.2.2.2.2.2.1) mbs (u.2.2.2.2.2.2.2.1) mlo (u.2.2.2.2.2.2.2.2)) t) (va_A (wM ad cy mti mow mjo mta mba mib mdi mab mbe mpl mbs mro mlo mth) sz)) 0 0 (va_A (wM ad cy mti mow mjo mta mba mib mdi mab mbe mpl mbs mro mlo mth) sz) := by
  refine Met.ofW (cc := cX7_roundedMachine) (maxL := 2) (ret := (some .int)) (by decide) rfl ?_
  intro p e s m args below meth c s₁ B hml hv
  obtain ⟨rfl, hsz, hP, hK, hD0, hN⟩ := hv
  have hts := atoms_spec (ws := wsX7_roundedMachine) B.pre
  have hown : s.vm.findClass RX7 = some m.cls := findClass_of_methodNamed B.named
  subst hsz
  have hD := hD0.self (sz := s.heap.size)
  generalize hAe : va_A (wM ad cy mti mow mjo mta mba mib mdi mab mbe mpl mbs mro mlo mth) s.heap.size = A at hD ⊢
  have hA : ∀ q : Nat, s.heap.size ≤ q → A q := fun q h => by rw [← hAe]; exact Or.inr h
  have hl := lv_entry ([.ref (ad 0), .int x1]) (n := 2) (Nat.le_of_ble_eq_true rfl)
  rw [lg_entry_eq]
  generalize (lg_sl ([.ref (ad 0), .int x1]) ++ List.replicate (2 - (lg_sl ([.ref (ad 0), .int x1])).length) Slot.unset).toArray = ls at hl ⊢
  have hl : lv_has ls 2 [(0, .ref (ad 0)), (1, .int x1)] := hl
  exact k_X7_roundedMachine_0 ⟨B.exec, B.bytes, hml, B.returns, hown, hts, B.notSynchronized, hK, hA, hN⟩ x1 mta mba mib mdi mab mbe mpl mro mth s.heap [] ls hm ⟨hP, hD, va_S.rf⟩ (lv_sub hl [0, 1] rfl) (fun r mta mba mib mdi mab mbe mpl mro mth H locs ls pc hdg hSt hq => W.iret B.exec B.bytes B.returns (fun t ht hW => ⟨⟨r, (mta, mba, mib, mdi, mab, mbe, mpl, mro, mth), rfl, hq, cPost_of hAe ht hW.alike hSt hK⟩, hSt.2.2.F ht⟩) hSt.2.2.2.2 hdg B.notSynchronized)

-- ===== X7_roundedLength
theorem fl_X7_roundedLength_45 : Cond.fieldLink RX7 45 "UnlikeUnionModel" "thrown" "I" ∈ wsX7_roundedLength := by decide +kernel
theorem fl_X7_roundedLength_39 : Cond.fieldLink RX7 39 "UnlikeUnionModel" "rounded" "[I" ∈ wsX7_roundedLength := by decide +kernel
theorem in_X7_roundedLength_X7 : ∀ w ∈ u_ws RX7 TX7 14, w ∈ wsX7_roundedLength := by decide +kernel
abbrev rmX7_roundedLength : Room := { frames := 8, cells := 0, slots := 0, locals := 648 }
def p_X7_roundedLength (N : Nat) (mti : Nat → Int32) (mjo : Int32) (Q : Int32 → (Nat → Int64) → (Nat → Int32) → (Nat → Int32) → Int64 → (Nat → Int64) → (Nat → Int64) → (Nat → Int32) → (Nat → Int32) → (Nat → Int32) → Int32 → Prop) (mta : Nat → Int64) (mba : Nat → Int32) (mib : Nat → Int32) (mdi : Int64) (mab : Nat → Int64) (mbe : Nat → Int64) (mpl : Nat → Int32) (mro : Nat → Int32) (mlo : Nat → Int32) (mth : Int32) : Prop :=
  p_X7_rounds N mti mjo (fun mta_1 mba_2 mib_3 mdi_4 mab_5 mbe_6 mpl_7 mro_8 => p_X7_measures N mro_8 mti mjo (fun r_9 mlo_10 => Q r_9 mta_1 mba_2 mib_3 mdi_4 mab_5 mbe_6 mpl_7 mro_8 mlo_10 (0 : Int32)) mlo) mta mba mib mdi mab mbe mpl mro

set_option maxHeartbeats 4000000 in
set_option maxRecDepth 100000 in
theorem k_X7_roundedLength_0 {N : Nat} {mti : Nat → Int32} {mow : Nat → Int32} {mjo : Int32} {mbs : Nat → Int32} {Q : Int32 → (Nat → Int64) → (Nat → Int32) → (Nat → Int32) → Int64 → (Nat → Int64) → (Nat → Int64) → (Nat → Int32) → (Nat → Int32) → (Nat → Int32) → Int32 → Prop} (C0 : cxM cX7_roundedLength 1 (some .int) RX7 wsX7_roundedLength p s m args meth c dC dI cy A) :
    ∀ (mta : Nat → Int64) (mba : Nat → Int32) (mib : Nat → Int32) (mdi : Int64) (mab : Nat → Int64) (mbe : Nat → Int64) (mpl : Nat → Int32) (mro : Nat → Int32) (mlo : Nat → Int32) (mth : Int32) (H : Heap) (locs : List Loc) (ls : Array Slot) (hm : p_X7_roundedLength N mti mjo Q mta mba mib mdi mab mbe mpl mro mlo mth) (hSt : stC dC dI A s (wM ad cy mti mow mjo mta mba mib mdi mab mbe mpl mbs mro mlo mth) H locs) (hl : lv_has ls 1 [(0, .ref (ad 0))]) (hret : ∀ (r : Int32) (mta : Nat → Int64) (mba : Nat → Int32) (mib : Nat → Int32) (mdi : Int64) (mab : Nat → Int64) (mbe : Nat → Int64) (mpl : Nat → Int32) (mro : Nat → Int32) (mlo : Nat → Int32) (mth : Int32) (H : Heap) (locs : List Loc) (ls : Array Slot) (pc : Nat), decode cX7_roundedLength pc = .ok (.ireturn, 1) → stC dC dI A s (wM ad cy mti mow mjo mta mba mib mdi mab mbe mpl mbs mro mlo mth) H locs → Q r mta mba mib mdi mab mbe mpl mro mlo mth → W p l e rmX7_roundedLength s m args below meth c H locs 0 0 Z (F0 m pc ls [.int r])), W p l e rmX7_roundedLength s m args below meth c H locs 0 0 Z (F0 m 0 ls []) := by
  obtain ⟨hx, hb, hml, hr, hown, hts, hlocks, hK, hA, hN⟩ := id C0
  intro mta mba mib mdi mab mbe mpl mro mlo mth H locs ls hm hSt hl hret
  obtain ⟨hP, hD, hS⟩ := hSt
  unfold p_X7_roundedLength at hm
  refine lv_aload_n hx hb dX7_roundedLength_0 rfl (lv_at hl 0 rfl) ?_
  refine lv_iconst (v := 0) hx hb dX7_roundedLength_1 (by decide) ?_
  refine va_put (D := (dC, dI)) (ci := 7) (v := .int (0 : Int32)) (ty := .int) (C := RX7) (T := TX7) (N := 14) hx hb hts in_X7_roundedLength_X7 tyX7 tyX7_ok nmX7 hown hK hP hD hS 0 rfl rfl 13 (by decide) (hts _ fl_X7_roundedLength_45) (fun _ h9 => h9) rfl (by decide +kernel) rfl rfl (Nat.le_of_ble_eq_true rfl) dX7_roundedLength_2 (fun H locs hP hD hS => ?_)
  have hP : va_P (dC, dI) vwCl (wM ad cy mti mow mjo mta mba mib mdi mab mbe mpl mbs mro mlo (0 : Int32)) H := hP
  have hD : va_D A (wM ad cy mti mow mjo mta mba mib mdi mab mbe mpl mbs mro mlo (0 : Int32)) := hD
  refine lv_aload_n hx hb dX7_roundedLength_5 rfl (lv_at hl 0 rfl) ?_
  have hFc := va_freeSame hD hS hA
  refine va_callv (va_runV (As := []) (rest := []) ⟨hx, hb, hml, hown, hts⟩ (c_X7_rounds l dC dI cy ad H.size mti mow mjo mta mba mib mdi mab mbe mpl mbs mro mlo (0 : Int32)  _ _ hm) (cwV 0 hts gX7_roundedLength_X7_rounds rfl rfl rfl (by decide +kernel) ⟨Nat.le_of_ble_eq_true rfl, Nat.le_of_ble_eq_true rfl⟩) ⟨cPre_blind, va_recv hK hP (ci := 7) (q0 := 0) rfl rfl, fun U hU hW => ⟨rfl, cPre_at hP hK hD hN hU hW⟩⟩ rfl rfl hl.1 rfl (lv_room (Nat.le_of_ble_eq_true rfl)) dX7_roundedLength_6 ⟨Nat.zero_le _, Nat.zero_le _⟩) hS (fun q _ h => hFc q h) hFc (fun u t H locs ht hvm hw hB hz1 hk1 hS => ?_)
  obtain ⟨mta_1, mba_2, mib_3, mdi_4, mab_5, mbe_6, mpl_7, mro_8⟩ := u
  try dsimp only at hw
  have hm := hw
  have hP : va_P (dC, dI) vwCl (wM ad cy mti mow mjo mta_1 mba_2 mib_3 mdi_4 mab_5 mbe_6 mpl_7 mbs mro_8 mlo (0 : Int32)) H := cPost_P ht hB
  have hD : va_D A (wM ad cy mti mow mjo mta_1 mba_2 mib_3 mdi_4 mab_5 mbe_6 mpl_7 mbs mro_8 mlo (0 : Int32)) := cPost_D hFc hB
  refine lv_aload_n hx hb dX7_roundedLength_9 rfl (lv_at hl 0 rfl) ?_
  refine lv_aload_n hx hb dX7_roundedLength_10 rfl (lv_at hl 0 rfl) ?_
  refine va_get (D := (dC, dI)) (ci := 7) (v := .ref (ad 10)) (C := RX7) (T := TX7) (N := 14) hx hb hts in_X7_roundedLength_X7 hown hK hP 0 rfl rfl 11 (by decide) (hts _ fl_X7_roundedLength_39) (fun _ h9 => h9) rfl dX7_roundedLength_11 ?_
  have hFc := va_freeSame hD hS hA
  refine va_calli (va_runV (As := [.ref (ad 10)]) (rest := []) ⟨hx, hb, hml, hown, hts⟩ (c_X7_measures_r l dC dI cy ad H.size mti mow mjo mta_1 mba_2 mib_3 mdi_4 mab_5 mbe_6 mpl_7 mbs mro_8 mlo (0 : Int32)  _ _ hm) (cwV 1 hts gX7_roundedLength_X7_measures rfl rfl rfl (by decide +kernel) ⟨Nat.le_of_ble_eq_true rfl, Nat.le_of_ble_eq_true rfl⟩) ⟨cPre_blind, va_recv hK hP (ci := 7) (q0 := 0) rfl rfl, fun U hU hW => ⟨rfl, cPre_at hP hK hD hN hU hW⟩⟩ rfl rfl hl.1 rfl (lv_room (Nat.le_of_ble_eq_true rfl)) dX7_roundedLength_14 ⟨Nat.zero_le _, Nat.zero_le _⟩) hS (fun q _ h => hFc q h) hFc (fun r_9 u t H locs ht hvm hw hB hz1 hk1 hS => ?_)
  obtain ⟨mlo_10, rfl⟩ : ∃ z, z = u := ⟨_, rfl⟩
  try dsimp only at hw
  have hm := hw
  have hP : va_P (dC, dI) vwCl (wM ad cy mti mow mjo mta_1 mba_2 mib_3 mdi_4 mab_5 mbe_6 mpl_7 mbs mro_8 mlo_10 (0 : Int32)) H := cPost_P ht hB
  have hD : va_D A (wM ad cy mti mow mjo mta_1 mba_2 mib_3 mdi_4 mab_5 mbe_6 mpl_7 mbs mro_8 mlo_10 (0 : Int32)) := cPost_D hFc hB
  exact hret r_9 mta_1 mba_2 mib_3 mdi_4 mab_5 mbe_6 mpl_7 mro_8 mlo_10 (0 : Int32) H locs ls 17 dX7_roundedLength_17 ⟨hP, hD, hS⟩ hm

set_option maxHeartbeats 4000000 in
set_option maxRecDepth 100000 in
theorem c_X7_roundedLength (l : Launch) (dC : Nat → ClassId) (dI : Nat → Nat → Nat) (cy : Nat → ClassId) (ad : Nat → Nat) (sz : Nat) (mti : Nat → Int32) (mow : Nat → Int32) (mjo : Int32) (mta : Nat → Int64) (mba : Nat → Int32) (mib : Nat → Int32) (mdi : Int64) (mab : Nat → Int64) (mbe : Nat → Int64) (mpl : Nat → Int32) (mbs : Nat → Int32) (mro : Nat → Int32) (mlo : Nat → Int32) (mth : Int32)  (N : Nat) (Q : Int32 → (Nat → Int64) → (Nat → Int32) → (Nat → Int32) → Int64 → (Nat → Int64) → (Nat → Int64) → (Nat → Int32) → (Nat → Int32) → (Nat → Int32) → Int32 → Prop) (hm : p_X7_roundedLength N mti mjo Q mta mba mib mdi mab mbe mpl mro mlo mth) : Met l yX7_roundedLength wsX7_roundedLength rmX7_roundedLength (va_Pc [.ref (ad 0)] (cPre dC dI cy (wM ad cy mti mow mjo mta mba mib mdi mab mbe mpl mbs mro mlo mth) sz)) (va_Qi (fun (r : Int32) (u : (Nat → Int64) × (Nat → Int32) × (Nat → Int32) × Int64 × (Nat → Int64) × (Nat → Int64) × (Nat → Int32) × (Nat → Int32) × (Nat → Int32) × Int32) => Q r u.1 u.2.1 u.2.2.1 u.2.2.2.1 u.2.2.2.2.1 u.2.2.2.2.2.1 u.2.2.2.2.2.2.1 u.2.2.2.2.2.2.2.1 u.2.2.2.2.2.2.2.2.1 u.2.2.2.2.2.2.2.2.2) (fun u t => cPost dC dI cy (wM ad cy mti mow mjo mta mba mib mdi mab mbe mpl mbs mro mlo mth) sz (wM ad cy mti mow mjo (u.1) (u.2.1) (u.2.2.1) (u.2.2.2.1) (u.2.2.2.2.1) (u.2.2.2.2.2.1) (u.2.2.2.2.2.2.1) mbs (u.2.2.2.2.2.2.2.1) (u.2.2.2.2.2.2.2.2.1) (u.2.2.2.2.2.2.2.2.2)) t) (va_A (wM ad cy mti mow mjo mta mba mib mdi mab mbe mpl mbs mro mlo mth) sz)) 0 0 (va_A (wM ad cy mti mow mjo mta mba mib mdi mab mbe mpl mbs mro mlo mth) sz) := by
  refine Met.ofW (cc := cX7_roundedLength) (maxL := 1) (ret := (some .int)) (by decide) rfl ?_
  intro p e s m args below meth c s₁ B hml hv
  obtain ⟨rfl, hsz, hP, hK, hD0, hN⟩ := hv
  have hts := atoms_spec (ws := wsX7_roundedLength) B.pre
  have hown : s.vm.findClass RX7 = some m.cls := findClass_of_methodNamed B.named
  subst hsz
  have hD := hD0.self (sz := s.heap.size)
  generalize hAe : va_A (wM ad cy mti mow mjo mta mba mib mdi mab mbe mpl mbs mro mlo mth) s.heap.size = A at hD ⊢
  have hA : ∀ q : Nat, s.heap.size ≤ q → A q := fun q h => by rw [← hAe]; exact Or.inr h
  have hl := lv_entry ([.ref (ad 0)]) (n := 1) (Nat.le_of_ble_eq_true rfl)
  rw [lg_entry_eq]
  generalize (lg_sl ([.ref (ad 0)]) ++ List.replicate (1 - (lg_sl ([.ref (ad 0)])).length) Slot.unset).toArray = ls at hl ⊢
  have hl : lv_has ls 1 [(0, .ref (ad 0))] := hl
  exact k_X7_roundedLength_0 ⟨B.exec, B.bytes, hml, B.returns, hown, hts, B.notSynchronized, hK, hA, hN⟩ mta mba mib mdi mab mbe mpl mro mlo mth s.heap [] ls hm ⟨hP, hD, va_S.rf⟩ (lv_sub hl [0] rfl) (fun r mta mba mib mdi mab mbe mpl mro mlo mth H locs ls pc hdg hSt hq => W.iret B.exec B.bytes B.returns (fun t ht hW => ⟨⟨r, (mta, mba, mib, mdi, mab, mbe, mpl, mro, mlo, mth), rfl, hq, cPost_of hAe ht hW.alike hSt hK⟩, hSt.2.2.F ht⟩) hSt.2.2.2.2 hdg B.notSynchronized)

-- ===== X7_takeRounded
theorem fl_X7_takeRounded_45 : Cond.fieldLink RX7 45 "UnlikeUnionModel" "thrown" "I" ∈ wsX7_takeRounded := by decide +kernel
theorem fl_X7_takeRounded_49 : Cond.fieldLink RX7 49 "UnlikeUnionModel" "jobs" "I" ∈ wsX7_takeRounded := by decide +kernel
theorem fl_X7_takeRounded_13 : Cond.fieldLink RX7 13 "UnlikeUnionModel" "own" "[I" ∈ wsX7_takeRounded := by decide +kernel
theorem fl_X7_takeRounded_39 : Cond.fieldLink RX7 39 "UnlikeUnionModel" "rounded" "[I" ∈ wsX7_takeRounded := by decide +kernel
theorem in_X7_takeRounded_X7 : ∀ w ∈ u_ws RX7 TX7 14, w ∈ wsX7_takeRounded := by decide +kernel
abbrev rmX7_takeRounded : Room := { frames := 8, cells := 0, slots := 0, locals := 648 }
def p_X7_takeRounded_13 (N : Nat) (mti : Nat → Int32) (mjo : Int32) (Q : Int32 → (Nat → Int32) → (Nat → Int64) → (Nat → Int32) → (Nat → Int32) → Int64 → (Nat → Int64) → (Nat → Int64) → (Nat → Int32) → (Nat → Int32) → Int32 → Prop) : Nat → Int32 → Int32 → (Nat → Int32) → (Nat → Int64) → (Nat → Int32) → (Nat → Int32) → Int64 → (Nat → Int64) → (Nat → Int64) → (Nat → Int32) → (Nat → Int32) → Int32 → Prop
  | 0 => fun _ _ _ _ _ _ _ _ _ _ _ _ => False
  | n + 1 => fun x1 x2 mow mta mba mib mdi mab mbe mpl mro mth => (mjo ≤ x2 → (Q x1 mow mta mba mib mdi mab mbe mpl mro mth)) ∧ (¬ mjo ≤ x2 → (vp_in x2 7 ∧ (vp_in x2 7 ∧ (((mow (x2).toNatClampNeg) = (mro (x2).toNatClampNeg) → (∀ x1_5 : Int32, x1_5 = x1 + (0 : Int32) → (vp_in x2 7 ∧ (∀ f_7 : Int32, f_7 = mro (x2).toNatClampNeg → (vp_in x2 7 ∧ (∀ x2_9 : Int32, x2_9 = x2 + (1 : Int32) → (p_X7_takeRounded_13 N mti mjo Q n x1_5 x2_9 (upd mow (x2).toNatClampNeg f_7) mta mba mib mdi mab mbe mpl mro mth))))))) ∧ (¬ (mow (x2).toNatClampNeg) = (mro (x2).toNatClampNeg) → (∀ x1_10 : Int32, x1_10 = x1 + (1 : Int32) → (vp_in x2 7 ∧ (∀ f_12 : Int32, f_12 = mro (x2).toNatClampNeg → (vp_in x2 7 ∧ (∀ x2_14 : Int32, x2_14 = x2 + (1 : Int32) → (p_X7_takeRounded_13 N mti mjo Q n x1_10 x2_14 (upd mow (x2).toNatClampNeg f_12) mta mba mib mdi mab mbe mpl mro mth)))))))))))

def p_X7_takeRounded (N : Nat) (mti : Nat → Int32) (mjo : Int32) (Q : Int32 → (Nat → Int32) → (Nat → Int64) → (Nat → Int32) → (Nat → Int32) → Int64 → (Nat → Int64) → (Nat → Int64) → (Nat → Int32) → (Nat → Int32) → Int32 → Prop) (mow : Nat → Int32) (mta : Nat → Int64) (mba : Nat → Int32) (mib : Nat → Int32) (mdi : Int64) (mab : Nat → Int64) (mbe : Nat → Int64) (mpl : Nat → Int32) (mro : Nat → Int32) (mth : Int32) : Prop :=
  p_X7_rounds N mti mjo (fun mta_1 mba_2 mib_3 mdi_4 mab_5 mbe_6 mpl_7 mro_8 => p_X7_takeRounded_13 N mti mjo Q N (0 : Int32) (0 : Int32) mow mta_1 mba_2 mib_3 mdi_4 mab_5 mbe_6 mpl_7 mro_8 (0 : Int32)) mta mba mib mdi mab mbe mpl mro

set_option maxHeartbeats 4000000 in
set_option maxRecDepth 100000 in
theorem k_X7_takeRounded_13 {N : Nat} {mti : Nat → Int32} {mjo : Int32} {mbs : Nat → Int32} {mlo : Nat → Int32} {Q : Int32 → (Nat → Int32) → (Nat → Int64) → (Nat → Int32) → (Nat → Int32) → Int64 → (Nat → Int64) → (Nat → Int64) → (Nat → Int32) → (Nat → Int32) → Int32 → Prop} (C0 : cxM cX7_takeRounded 3 (some .int) RX7 wsX7_takeRounded p s m args meth c dC dI cy A) :
    ∀ (n : Nat) (x1 : Int32) (x2 : Int32) (mow : Nat → Int32) (mta : Nat → Int64) (mba : Nat → Int32) (mib : Nat → Int32) (mdi : Int64) (mab : Nat → Int64) (mbe : Nat → Int64) (mpl : Nat → Int32) (mro : Nat → Int32) (mth : Int32) (H : Heap) (locs : List Loc) (ls : Array Slot) (hm : p_X7_takeRounded_13 N mti mjo Q n x1 x2 mow mta mba mib mdi mab mbe mpl mro mth) (hSt : stC dC dI A s (wM ad cy mti mow mjo mta mba mib mdi mab mbe mpl mbs mro mlo mth) H locs) (hl : lv_has ls 3 [(0, .ref (ad 0)), (1, .int x1), (2, .int x2)]) (hret : ∀ (r : Int32) (mow : Nat → Int32) (mta : Nat → Int64) (mba : Nat → Int32) (mib : Nat → Int32) (mdi : Int64) (mab : Nat → Int64) (mbe : Nat → Int64) (mpl : Nat → Int32) (mro : Nat → Int32) (mth : Int32) (H : Heap) (locs : List Loc) (ls : Array Slot) (pc : Nat), decode cX7_takeRounded pc = .ok (.ireturn, 1) → stC dC dI A s (wM ad cy mti mow mjo mta mba mib mdi mab mbe mpl mbs mro mlo mth) H locs → Q r mow mta mba mib mdi mab mbe mpl mro mth → W p l e rmX7_takeRounded s m args below meth c H locs 0 0 Z (F0 m pc ls [.int r])), W p l e rmX7_takeRounded s m args below meth c H locs 0 0 Z (F0 m 13 ls []) := by
  obtain ⟨hx, hb, hml, hr, hown, hts, hlocks, hK, hA, hN⟩ := id C0
  intro n
  induction n with
  | zero => intro x1 x2 mow mta mba mib mdi mab mbe mpl mro mth H locs ls hm; exact False.elim hm
  | succ n ih =>
    intro x1 x2 mow mta mba mib mdi mab mbe mpl mro mth H locs ls hm hSt hl hret
    obtain ⟨hP, hD, hS⟩ := hSt
    unfold p_X7_takeRounded_13 at hm
    refine lv_iload_n hx hb dX7_takeRounded_13 rfl (lv_at hl 2 rfl) ?_
    refine lv_aload_n hx hb dX7_takeRounded_14 rfl (lv_at hl 0 rfl) ?_
    refine va_get (D := (dC, dI)) (ci := 7) (v := .int mjo) (C := RX7) (T := TX7) (N := 14) hx hb hts in_X7_takeRounded_X7 hown hK hP 0 rfl rfl 2 (by decide) (hts _ fl_X7_takeRounded_49) (fun _ h9 => h9) rfl dX7_takeRounded_15 ?_
    refine lv_icmp_ge (tgt := 62) hx hb dX7_takeRounded_18 (by decide) (fun c_1 => ?_) (fun c_1 => ?_)
    · have hm := hm.1 c_1
      refine lv_iload_n hx hb dX7_takeRounded_62 rfl (lv_at hl 1 rfl) ?_
      exact hret x1 mow mta mba mib mdi mab mbe mpl mro mth H locs ls 63 dX7_takeRounded_63 ⟨hP, hD, hS⟩ hm
    · have hm := hm.2 c_1
      refine lv_iload_n hx hb dX7_takeRounded_21 rfl (lv_at hl 1 rfl) ?_
      refine lv_aload_n hx hb dX7_takeRounded_22 rfl (lv_at hl 0 rfl) ?_
      refine va_get (D := (dC, dI)) (ci := 7) (v := .ref (ad 2)) (C := RX7) (T := TX7) (N := 14) hx hb hts in_X7_takeRounded_X7 hown hK hP 0 rfl rfl 1 (by decide) (hts _ fl_X7_takeRounded_13) (fun _ h9 => h9) rfl dX7_takeRounded_23 ?_
      refine lv_iload_n hx hb dX7_takeRounded_26 rfl (lv_at hl 2 rfl) ?_
      have hi_2 := hm.1
      have hm := hm.2
      refine va_iald hx hb hK hP 2 0 rfl rfl hi_2 dX7_takeRounded_27 ?_
      refine lv_aload_n hx hb dX7_takeRounded_28 rfl (lv_at hl 0 rfl) ?_
      refine va_get (D := (dC, dI)) (ci := 7) (v := .ref (ad 10)) (C := RX7) (T := TX7) (N := 14) hx hb hts in_X7_takeRounded_X7 hown hK hP 0 rfl rfl 11 (by decide) (hts _ fl_X7_takeRounded_39) (fun _ h9 => h9) rfl dX7_takeRounded_29 ?_
      refine lv_iload_n hx hb dX7_takeRounded_32 rfl (lv_at hl 2 rfl) ?_
      have hi_3 := hm.1
      have hm := hm.2
      refine va_iald hx hb hK hP 10 0 rfl rfl hi_3 dX7_takeRounded_33 ?_
      refine lv_icmp_eq (tgt := 41) hx hb dX7_takeRounded_34 (by decide) (fun c_4 => ?_) (fun c_4 => ?_)
      · have hm := hm.1 c_4
        refine lv_iconst (v := 0) hx hb dX7_takeRounded_41 (by decide) ?_
        refine lv_iadd hx hb dX7_takeRounded_42 ?_
        refine lv_topi (fun x1_5 ex1_5 => ?_)
        have hm := hm x1_5 ex1_5
        refine lv_istore_n (lv' := [(1, .int x1_5), (0, .ref (ad 0)), (2, .int x2)]) hx hb dX7_takeRounded_43 rfl hl (by decide) rfl (fun ls hl => ?_)
        refine lv_aload_n hx hb dX7_takeRounded_44 rfl (lv_at hl 1 rfl) ?_
        refine va_get (D := (dC, dI)) (ci := 7) (v := .ref (ad 2)) (C := RX7) (T := TX7) (N := 14) hx hb hts in_X7_takeRounded_X7 hown hK hP 0 rfl rfl 1 (by decide) (hts _ fl_X7_takeRounded_13) (fun _ h9 => h9) rfl dX7_takeRounded_45 ?_
        refine lv_iload_n hx hb dX7_takeRounded_48 rfl (lv_at hl 2 rfl) ?_
        refine lv_aload_n hx hb dX7_takeRounded_49 rfl (lv_at hl 1 rfl) ?_
        refine va_get (D := (dC, dI)) (ci := 7) (v := .ref (ad 10)) (C := RX7) (T := TX7) (N := 14) hx hb hts in_X7_takeRounded_X7 hown hK hP 0 rfl rfl 11 (by decide) (hts _ fl_X7_takeRounded_39) (fun _ h9 => h9) rfl dX7_takeRounded_50 ?_
        refine lv_iload_n hx hb dX7_takeRounded_53 rfl (lv_at hl 2 rfl) ?_
        have hi_6 := hm.1
        have hm := hm.2
        refine va_iald hx hb hK hP 10 0 rfl rfl hi_6 dX7_takeRounded_54 ?_
        refine lv_topi (fun f_7 ef_7 => ?_)
        have hm := hm f_7 ef_7
        have hi_8 := hm.1
        have hm := hm.2
        refine va_iast hx hb hK hP hD hS 2 0 rfl rfl hi_8 dX7_takeRounded_55 (fun H locs hP hD hS => ?_)
        have hP : va_P (dC, dI) vwCl (wM ad cy mti (upd mow (x2).toNatClampNeg f_7) mjo mta mba mib mdi mab mbe mpl mbs mro mlo mth) H := hP
        have hD : va_D A (wM ad cy mti (upd mow (x2).toNatClampNeg f_7) mjo mta mba mib mdi mab mbe mpl mbs mro mlo mth) := hD
        obtain ⟨x2_9, ex2_9⟩ : ∃ y : Int32, y = x2 + (1 : Int32) := ⟨_, rfl⟩
        have hm := hm x2_9 ex2_9
        refine lv_iinc (v := x2_9) (lv' := [(2, .int x2_9), (1, .int x1_5), (0, .ref (ad 0))]) hx hb dX7_takeRounded_56 hl (k := 2) rfl (by rw [ex2_9]; rfl) (by decide) rfl (fun ls hl => ?_)
        refine lv_goto (tgt := 13) hx hb dX7_takeRounded_59 (by decide) ?_
        exact ih x1_5 x2_9 (upd mow (x2).toNatClampNeg f_7) mta mba mib mdi mab mbe mpl mro mth H locs ls hm ⟨hP, hD, hS⟩ (lv_sub hl [2, 1, 0] rfl) hret
      · have hm := hm.2 c_4
        refine lv_iconst (v := 1) hx hb dX7_takeRounded_37 (by decide) ?_
        refine lv_goto (tgt := 42) hx hb dX7_takeRounded_38 (by decide) ?_
        refine lv_iadd hx hb dX7_takeRounded_42 ?_
        refine lv_topi (fun x1_10 ex1_10 => ?_)
        have hm := hm x1_10 ex1_10
        refine lv_istore_n (lv' := [(1, .int x1_10), (0, .ref (ad 0)), (2, .int x2)]) hx hb dX7_takeRounded_43 rfl hl (by decide) rfl (fun ls hl => ?_)
        refine lv_aload_n hx hb dX7_takeRounded_44 rfl (lv_at hl 1 rfl) ?_
        refine va_get (D := (dC, dI)) (ci := 7) (v := .ref (ad 2)) (C := RX7) (T := TX7) (N := 14) hx hb hts in_X7_takeRounded_X7 hown hK hP 0 rfl rfl 1 (by decide) (hts _ fl_X7_takeRounded_13) (fun _ h9 => h9) rfl dX7_takeRounded_45 ?_
        refine lv_iload_n hx hb dX7_takeRounded_48 rfl (lv_at hl 2 rfl) ?_
        refine lv_aload_n hx hb dX7_takeRounded_49 rfl (lv_at hl 1 rfl) ?_
        refine va_get (D := (dC, dI)) (ci := 7) (v := .ref (ad 10)) (C := RX7) (T := TX7) (N := 14) hx hb hts in_X7_takeRounded_X7 hown hK hP 0 rfl rfl 11 (by decide) (hts _ fl_X7_takeRounded_39) (fun _ h9 => h9) rfl dX7_takeRounded_50 ?_
        refine lv_iload_n hx hb dX7_takeRounded_53 rfl (lv_at hl 2 rfl) ?_
        have hi_11 := hm.1
        have hm := hm.2
        refine va_iald hx hb hK hP 10 0 rfl rfl hi_11 dX7_takeRounded_54 ?_
        refine lv_topi (fun f_12 ef_12 => ?_)
        have hm := hm f_12 ef_12
        have hi_13 := hm.1
        have hm := hm.2
        refine va_iast hx hb hK hP hD hS 2 0 rfl rfl hi_13 dX7_takeRounded_55 (fun H locs hP hD hS => ?_)
        have hP : va_P (dC, dI) vwCl (wM ad cy mti (upd mow (x2).toNatClampNeg f_12) mjo mta mba mib mdi mab mbe mpl mbs mro mlo mth) H := hP
        have hD : va_D A (wM ad cy mti (upd mow (x2).toNatClampNeg f_12) mjo mta mba mib mdi mab mbe mpl mbs mro mlo mth) := hD
        obtain ⟨x2_14, ex2_14⟩ : ∃ y : Int32, y = x2 + (1 : Int32) := ⟨_, rfl⟩
        have hm := hm x2_14 ex2_14
        refine lv_iinc (v := x2_14) (lv' := [(2, .int x2_14), (1, .int x1_10), (0, .ref (ad 0))]) hx hb dX7_takeRounded_56 hl (k := 2) rfl (by rw [ex2_14]; rfl) (by decide) rfl (fun ls hl => ?_)
        refine lv_goto (tgt := 13) hx hb dX7_takeRounded_59 (by decide) ?_
        exact ih x1_10 x2_14 (upd mow (x2).toNatClampNeg f_12) mta mba mib mdi mab mbe mpl mro mth H locs ls hm ⟨hP, hD, hS⟩ (lv_sub hl [2, 1, 0] rfl) hret

set_option maxHeartbeats 4000000 in
set_option maxRecDepth 100000 in
theorem k_X7_takeRounded_0 {N : Nat} {mti : Nat → Int32} {mjo : Int32} {mbs : Nat → Int32} {mlo : Nat → Int32} {Q : Int32 → (Nat → Int32) → (Nat → Int64) → (Nat → Int32) → (Nat → Int32) → Int64 → (Nat → Int64) → (Nat → Int64) → (Nat → Int32) → (Nat → Int32) → Int32 → Prop} (C0 : cxM cX7_takeRounded 3 (some .int) RX7 wsX7_takeRounded p s m args meth c dC dI cy A) :
    ∀ (mow : Nat → Int32) (mta : Nat → Int64) (mba : Nat → Int32) (mib : Nat → Int32) (mdi : Int64) (mab : Nat → Int64) (mbe : Nat → Int64) (mpl : Nat → Int32) (mro : Nat → Int32) (mth : Int32) (H : Heap) (locs : List Loc) (ls : Array Slot) (hm : p_X7_takeRounded N mti mjo Q mow mta mba mib mdi mab mbe mpl mro mth) (hSt : stC dC dI A s (wM ad cy mti mow mjo mta mba mib mdi mab mbe mpl mbs mro mlo mth) H locs) (hl : lv_has ls 3 [(0, .ref (ad 0))]) (hret : ∀ (r : Int32) (mow : Nat → Int32) (mta : Nat → Int64) (mba : Nat → Int32) (mib : Nat → Int32) (mdi : Int64) (mab : Nat → Int64) (mbe : Nat → Int64) (mpl : Nat → Int32) (mro : Nat → Int32) (mth : Int32) (H : Heap) (locs : List Loc) (ls : Array Slot) (pc : Nat), decode cX7_takeRounded pc = .ok (.ireturn, 1) → stC dC dI A s (wM ad cy mti mow mjo mta mba mib mdi mab mbe mpl mbs mro mlo mth) H locs → Q r mow mta mba mib mdi mab mbe mpl mro mth → W p l e rmX7_takeRounded s m args below meth c H locs 0 0 Z (F0 m pc ls [.int r])), W p l e rmX7_takeRounded s m args below meth c H locs 0 0 Z (F0 m 0 ls []) := by
  obtain ⟨hx, hb, hml, hr, hown, hts, hlocks, hK, hA, hN⟩ := id C0
  intro mow mta mba mib mdi mab mbe mpl mro mth H locs ls hm hSt hl hret
  obtain ⟨hP, hD, hS⟩ := hSt
  unfold p_X7_takeRounded at hm
  refine lv_aload_n hx hb dX7_takeRounded_0 rfl (lv_at hl 0 rfl) ?_
  refine lv_iconst (v := 0) hx hb dX7_takeRounded_1 (by decide) ?_
  refine va_put (D := (dC, dI)) (ci := 7) (v := .int (0 : Int32)) (ty := .int) (C := RX7) (T := TX7) (N := 14) hx hb hts in_X7_takeRounded_X7 tyX7 tyX7_ok nmX7 hown hK hP hD hS 0 rfl rfl 13 (by decide) (hts _ fl_X7_takeRounded_45) (fun _ h9 => h9) rfl (by decide +kernel) rfl rfl (Nat.le_of_ble_eq_true rfl) dX7_takeRounded_2 (fun H locs hP hD hS => ?_)
  have hP : va_P (dC, dI) vwCl (wM ad cy mti mow mjo mta mba mib mdi mab mbe mpl mbs mro mlo (0 : Int32)) H := hP
  have hD : va_D A (wM ad cy mti mow mjo mta mba mib mdi mab mbe mpl mbs mro mlo (0 : Int32)) := hD
  refine lv_aload_n hx hb dX7_takeRounded_5 rfl (lv_at hl 0 rfl) ?_
  have hFc := va_freeSame hD hS hA
  refine va_callv (va_runV (As := []) (rest := []) ⟨hx, hb, hml, hown, hts⟩ (c_X7_rounds l dC dI cy ad H.size mti mow mjo mta mba mib mdi mab mbe mpl mbs mro mlo (0 : Int32)  _ _ hm) (cwV 0 hts gX7_takeRounded_X7_rounds rfl rfl rfl (by decide +kernel) ⟨Nat.le_of_ble_eq_true rfl, Nat.le_of_ble_eq_true rfl⟩) ⟨cPre_blind, va_recv hK hP (ci := 7) (q0 := 0) rfl rfl, fun U hU hW => ⟨rfl, cPre_at hP hK hD hN hU hW⟩⟩ rfl rfl hl.1 rfl (lv_room (Nat.le_of_ble_eq_true rfl)) dX7_takeRounded_6 ⟨Nat.zero_le _, Nat.zero_le _⟩) hS (fun q _ h => hFc q h) hFc (fun u t H locs ht hvm hw hB hz1 hk1 hS => ?_)
  obtain ⟨mta_1, mba_2, mib_3, mdi_4, mab_5, mbe_6, mpl_7, mro_8⟩ := u
  try dsimp only at hw
  have hm := hw
  have hP : va_P (dC, dI) vwCl (wM ad cy mti mow mjo mta_1 mba_2 mib_3 mdi_4 mab_5 mbe_6 mpl_7 mbs mro_8 mlo (0 : Int32)) H := cPost_P ht hB
  have hD : va_D A (wM ad cy mti mow mjo mta_1 mba_2 mib_3 mdi_4 mab_5 mbe_6 mpl_7 mbs mro_8 mlo (0 : Int32)) := cPost_D hFc hB
  refine lv_iconst (v := 0) hx hb dX7_takeRounded_9 (by decide) ?_
  refine lv_istore_n (lv' := [(1, .int (0 : Int32)), (0, .ref (ad 0))]) hx hb dX7_takeRounded_10 rfl hl (by decide) rfl (fun ls hl => ?_)
  refine lv_iconst (v := 0) hx hb dX7_takeRounded_11 (by decide) ?_
  refine lv_istore_n (lv' := [(2, .int (0 : Int32)), (1, .int (0 : Int32)), (0, .ref (ad 0))]) hx hb dX7_takeRounded_12 rfl hl (by decide) rfl (fun ls hl => ?_)
  exact k_X7_takeRounded_13 C0 N (0 : Int32) (0 : Int32) mow mta_1 mba_2 mib_3 mdi_4 mab_5 mbe_6 mpl_7 mro_8 (0 : Int32) H locs ls hm ⟨hP, hD, hS⟩ (lv_sub hl [2, 1, 0] rfl) hret

set_option maxHeartbeats 4000000 in
set_option maxRecDepth 100000 in
theorem c_X7_takeRounded (l : Launch) (dC : Nat → ClassId) (dI : Nat → Nat → Nat) (cy : Nat → ClassId) (ad : Nat → Nat) (sz : Nat) (mti : Nat → Int32) (mow : Nat → Int32) (mjo : Int32) (mta : Nat → Int64) (mba : Nat → Int32) (mib : Nat → Int32) (mdi : Int64) (mab : Nat → Int64) (mbe : Nat → Int64) (mpl : Nat → Int32) (mbs : Nat → Int32) (mro : Nat → Int32) (mlo : Nat → Int32) (mth : Int32)  (N : Nat) (Q : Int32 → (Nat → Int32) → (Nat → Int64) → (Nat → Int32) → (Nat → Int32) → Int64 → (Nat → Int64) → (Nat → Int64) → (Nat → Int32) → (Nat → Int32) → Int32 → Prop) (hm : p_X7_takeRounded N mti mjo Q mow mta mba mib mdi mab mbe mpl mro mth) : Met l yX7_takeRounded wsX7_takeRounded rmX7_takeRounded (va_Pc [.ref (ad 0)] (cPre dC dI cy (wM ad cy mti mow mjo mta mba mib mdi mab mbe mpl mbs mro mlo mth) sz)) (va_Qi (fun (r : Int32) (u : (Nat → Int32) × (Nat → Int64) × (Nat → Int32) × (Nat → Int32) × Int64 × (Nat → Int64) × (Nat → Int64) × (Nat → Int32) × (Nat → Int32) × Int32) => Q r u.1 u.2.1 u.2.2.1 u.2.2.2.1 u.2.2.2.2.1 u.2.2.2.2.2.1 u.2.2.2.2.2.2.1 u.2.2.2.2.2.2.2.1 u.2.2.2.2.2.2.2.2.1 u.2.2.2.2.2.2.2.2.2) (fun u t => cPost dC dI cy (wM ad cy mti mow mjo mta mba mib mdi mab mbe mpl mbs mro mlo mth) sz (wM ad cy mti (u.1) mjo (u.2.1) (u.2.2.1) (u.2.2.2.1) (u.2.2.2.2.1) (u.2.2.2.2.2.1) (u.2.2.2.2.2.2.1) (u.2.2.2.2.2.2.2.1) mbs (u.2.2.2.2.2.2.2.2.1) mlo (u.2.2.2.2.2.2.2.2.2)) t) (va_A (wM ad cy mti mow mjo mta mba mib mdi mab mbe mpl mbs mro mlo mth) sz)) 0 0 (va_A (wM ad cy mti mow mjo mta mba mib mdi mab mbe mpl mbs mro mlo mth) sz) := by
  refine Met.ofW (cc := cX7_takeRounded) (maxL := 3) (ret := (some .int)) (by decide) rfl ?_
  intro p e s m args below meth c s₁ B hml hv
  obtain ⟨rfl, hsz, hP, hK, hD0, hN⟩ := hv
  have hts := atoms_spec (ws := wsX7_takeRounded) B.pre
  have hown : s.vm.findClass RX7 = some m.cls := findClass_of_methodNamed B.named
  subst hsz
  have hD := hD0.self (sz := s.heap.size)
  generalize hAe : va_A (wM ad cy mti mow mjo mta mba mib mdi mab mbe mpl mbs mro mlo mth) s.heap.size = A at hD ⊢
  have hA : ∀ q : Nat, s.heap.size ≤ q → A q := fun q h => by rw [← hAe]; exact Or.inr h
  have hl := lv_entry ([.ref (ad 0)]) (n := 3) (Nat.le_of_ble_eq_true rfl)
  rw [lg_entry_eq]
  generalize (lg_sl ([.ref (ad 0)]) ++ List.replicate (3 - (lg_sl ([.ref (ad 0)])).length) Slot.unset).toArray = ls at hl ⊢
  have hl : lv_has ls 3 [(0, .ref (ad 0))] := hl
  exact k_X7_takeRounded_0 ⟨B.exec, B.bytes, hml, B.returns, hown, hts, B.notSynchronized, hK, hA, hN⟩ mow mta mba mib mdi mab mbe mpl mro mth s.heap [] ls hm ⟨hP, hD, va_S.rf⟩ (lv_sub hl [0] rfl) (fun r mow mta mba mib mdi mab mbe mpl mro mth H locs ls pc hdg hSt hq => W.iret B.exec B.bytes B.returns (fun t ht hW => ⟨⟨r, (mow, mta, mba, mib, mdi, mab, mbe, mpl, mro, mth), rfl, hq, cPost_of hAe ht hW.alike hSt hK⟩, hSt.2.2.F ht⟩) hSt.2.2.2.2 hdg B.notSynchronized)
