variable {p : Program} {l : Launch} {e : Env} {s : State} {m : MethodId} {args : Array Value} {below : List Frame} {meth : Method} {c : Code} {dC : Nat → ClassId} {dI : Nat → Nat → Nat} {cy : Nat → ClassId} {ad : Nat → Nat} {A : Nat → Prop} {Z : State → Prop}
-- ===== X6_excess
theorem fl_X6_excess_26 : Cond.fieldLink RX6 26 "UnlikeUnion" "search" "LUnlikeUnion$PlanSearch;" ∈ wsX6_excess := by decide +kernel
theorem fl_X6_excess_12 : Cond.fieldLink RX6 12 "UnlikeUnion" "list" "LUnlikeUnion$Jobs;" ∈ wsX6_excess := by decide +kernel
theorem fl_X6_excess_40 : Cond.fieldLink RX6 40 "UnlikeUnion" "rounding" "LUnlikeUnion$Rounding;" ∈ wsX6_excess := by decide +kernel
theorem in_X6_excess_X3 : ∀ w ∈ u_ws RX3 TX3 4, w ∈ wsX6_excess := by decide +kernel
theorem in_X6_excess_X4 : ∀ w ∈ u_ws RX4 TX4 1, w ∈ wsX6_excess := by decide +kernel
theorem in_X6_excess_X6 : ∀ w ∈ u_ws RX6 TX6 7, w ∈ wsX6_excess := by decide +kernel
abbrev rmX6_excess : Room := { frames := 43, cells := 0, slots := 0, locals := 4249 }
def p_X6_excess (N : Nat) (ti : Nat → Int32) (co : Int32) (Q : UInt32 → Int32 → Int32 → (Nat → Int32) → (Nat → Int32) → (Nat → Int32) → Int32 → (Nat → Int32) → (Nat → Int32) → Int32 → Int32 → Int32 → (Nat → Int32) → (Nat → Int32) → Int32 → Int64 → (Nat → Nat → Int64) → (Nat → Int32) → Prop) (ss : Int32) (ds : Int32) (plo : Nat → Int32) (pch : Nat → Int32) (pbe : Nat → Int32) (pbl : Int32) (dnu : Nat → Int32) (dde : Nat → Int32) (dbo : Int32) (dln : Int32) (dld : Int32) (tba : Nat → Int32) (tal : Nat → Int32) (tro : Int32) (tsc : Int64) (tcl : Nat → Nat → Int64) (rma : Nat → Int32) : Prop :=
  p_X6_refreshSearch N ti co (fun ss_1 plo_2 pch_3 pbe_4 pbl_5 => p_X6_refreshDivision N ti co (fun ds_6 dnu_7 dde_8 dbo_9 dln_10 dld_11 tba_12 tal_13 tro_14 tsc_15 tcl_16 rma_17 => (pbl_5 = 0 → (Q (FP.fconst1) ss_1 ds_6 plo_2 pch_3 pbe_4 pbl_5 dnu_7 dde_8 dbo_9 dln_10 dld_11 tba_12 tal_13 tro_14 tsc_15 tcl_16 rma_17)) ∧ (¬ pbl_5 = 0 → (p_X1_greatestLoad N rma_17 ti co (fun r_19 => ∀ r_20 : UInt32, alike32 r_20 (FP.fdiv (FP.i2f r_19) (FP.i2f pbl_5)) = true → (Q r_20 ss_1 ds_6 plo_2 pch_3 pbe_4 pbl_5 dnu_7 dde_8 dbo_9 dln_10 dld_11 tba_12 tal_13 tro_14 tsc_15 tcl_16 rma_17)) ))) ds dnu dde dbo dln dld tba tal tro tsc tcl rma) ss plo pch pbe pbl

set_option maxHeartbeats 4000000 in
set_option maxRecDepth 100000 in
theorem k_X6_excess_0 {N : Nat} {ti : Nat → Int32} {co : Int32} {oma : Nat → Int32} {obr : Int32} {obj : Int32} {obo : Int32} {obm : Int32} {Q : UInt32 → Int32 → Int32 → (Nat → Int32) → (Nat → Int32) → (Nat → Int32) → Int32 → (Nat → Int32) → (Nat → Int32) → Int32 → Int32 → Int32 → (Nat → Int32) → (Nat → Int32) → Int32 → Int64 → (Nat → Nat → Int64) → (Nat → Int32) → Prop} (C0 : cxM cX6_excess 1 (some .float) RX6 wsX6_excess p s m args meth c dC dI cy A) :
    ∀ (ss : Int32) (ds : Int32) (plo : Nat → Int32) (pch : Nat → Int32) (pbe : Nat → Int32) (pbl : Int32) (dnu : Nat → Int32) (dde : Nat → Int32) (dbo : Int32) (dln : Int32) (dld : Int32) (tba : Nat → Int32) (tal : Nat → Int32) (tro : Int32) (tsc : Int64) (tcl : Nat → Nat → Int64) (rma : Nat → Int32) (H : Heap) (locs : List Loc) (ls : Array Slot) (hm : p_X6_excess N ti co Q ss ds plo pch pbe pbl dnu dde dbo dln dld tba tal tro tsc tcl rma) (hSt : stC dC dI A s (wC ad cy ss ds ti co oma obr obj obo obm plo pch pbe pbl dnu dde dbo dln dld tba tal tro tsc tcl rma) H locs) (hl : lv_has ls 1 [(0, .ref (ad 0))]) (hret : ∀ (r : UInt32) (ss : Int32) (ds : Int32) (plo : Nat → Int32) (pch : Nat → Int32) (pbe : Nat → Int32) (pbl : Int32) (dnu : Nat → Int32) (dde : Nat → Int32) (dbo : Int32) (dln : Int32) (dld : Int32) (tba : Nat → Int32) (tal : Nat → Int32) (tro : Int32) (tsc : Int64) (tcl : Nat → Nat → Int64) (rma : Nat → Int32) (H : Heap) (locs : List Loc) (ls : Array Slot) (pc : Nat), decode cX6_excess pc = .ok (.freturn, 1) → stC dC dI A s (wC ad cy ss ds ti co oma obr obj obo obm plo pch pbe pbl dnu dde dbo dln dld tba tal tro tsc tcl rma) H locs → Q r ss ds plo pch pbe pbl dnu dde dbo dln dld tba tal tro tsc tcl rma → W p l e rmX6_excess s m args below meth c H locs 0 0 Z (F0 m pc ls [.float r])) (hDv_43 : ∀ (x : UInt32) (y : UInt32) (ss : Int32) (ds : Int32) (plo : Nat → Int32) (pch : Nat → Int32) (pbe : Nat → Int32) (pbl : Int32) (dnu : Nat → Int32) (dde : Nat → Int32) (dbo : Int32) (dln : Int32) (dld : Int32) (tba : Nat → Int32) (tal : Nat → Int32) (tro : Int32) (tsc : Int64) (tcl : Nat → Nat → Int64) (rma : Nat → Int32) (H : Heap) (locs : List Loc) (ls : Array Slot), stC dC dI A s (wC ad cy ss ds ti co oma obr obj obo obm plo pch pbe pbl dnu dde dbo dln dld tba tal tro tsc tcl rma) H locs → (∀ r : UInt32, alike32 r (FP.fdiv x y) = true → Q r ss ds plo pch pbe pbl dnu dde dbo dln dld tba tal tro tsc tcl rma) → W p l e rmX6_excess s m args below meth c H locs 0 0 Z (F0 m 43 ls [.float y, .float x])), W p l e rmX6_excess s m args below meth c H locs 0 0 Z (F0 m 0 ls []) := by
  obtain ⟨hx, hb, hml, hr, hown, hts, hlocks, hK, hA, hN⟩ := id C0
  intro ss ds plo pch pbe pbl dnu dde dbo dln dld tba tal tro tsc tcl rma H locs ls hm hSt hl hret hDv_43
  obtain ⟨hP, hD, hS⟩ := hSt
  unfold p_X6_excess at hm
  refine lv_aload_n hx hb dX6_excess_0 rfl (lv_at hl 0 rfl) ?_
  have hFc := va_freeSame hD hS hA
  refine va_callv (va_runV (As := []) (rest := []) ⟨hx, hb, hml, hown, hts⟩ (c_X6_refreshSearch l dC dI cy ad H.size ss ds ti co oma obr obj obo obm plo pch pbe pbl dnu dde dbo dln dld tba tal tro tsc tcl rma  _ _ hm) (cwV 0 hts gX6_excess_X6_refreshSearch rfl rfl rfl (by decide +kernel) ⟨Nat.le_of_ble_eq_true rfl, Nat.le_of_ble_eq_true rfl⟩) ⟨cPre_blind, va_recv hK hP (ci := 6) (q0 := 0) rfl rfl, fun U hU hW => ⟨rfl, cPre_at hP hK hD hN hU hW⟩⟩ rfl rfl hl.1 rfl (lv_room (Nat.le_of_ble_eq_true rfl)) dX6_excess_1 ⟨Nat.zero_le _, Nat.zero_le _⟩) hS (fun q _ h => hFc q h) hFc (fun u t H locs ht hvm hw hB hz1 hk1 hS => ?_)
  obtain ⟨ss_1, plo_2, pch_3, pbe_4, pbl_5⟩ := u
  try dsimp only at hw
  have hm := hw
  have hP : va_P (dC, dI) vwCl (wC ad cy ss_1 ds ti co oma obr obj obo obm plo_2 pch_3 pbe_4 pbl_5 dnu dde dbo dln dld tba tal tro tsc tcl rma) H := cPost_P ht hB
  have hD : va_D A (wC ad cy ss_1 ds ti co oma obr obj obo obm plo_2 pch_3 pbe_4 pbl_5 dnu dde dbo dln dld tba tal tro tsc tcl rma) := cPost_D hFc hB
  refine lv_aload_n hx hb dX6_excess_4 rfl (lv_at hl 0 rfl) ?_
  have hFc := va_freeSame hD hS hA
  refine va_callv (va_runV (As := []) (rest := []) ⟨hx, hb, hml, hown, hts⟩ (c_X6_refreshDivision l dC dI cy ad H.size ss_1 ds ti co oma obr obj obo obm plo_2 pch_3 pbe_4 pbl_5 dnu dde dbo dln dld tba tal tro tsc tcl rma  _ _ hm) (cwV 0 hts gX6_excess_X6_refreshDivision rfl rfl rfl (by decide +kernel) ⟨Nat.le_of_ble_eq_true rfl, Nat.le_of_ble_eq_true rfl⟩) ⟨cPre_blind, va_recv hK hP (ci := 6) (q0 := 0) rfl rfl, fun U hU hW => ⟨rfl, cPre_at hP hK hD hN hU hW⟩⟩ rfl rfl hl.1 rfl (lv_room (Nat.le_of_ble_eq_true rfl)) dX6_excess_5 ⟨Nat.zero_le _, Nat.zero_le _⟩) hS (fun q _ h => hFc q h) hFc (fun u t H locs ht hvm hw hB hz1 hk1 hS => ?_)
  obtain ⟨ds_6, dnu_7, dde_8, dbo_9, dln_10, dld_11, tba_12, tal_13, tro_14, tsc_15, tcl_16, rma_17⟩ := u
  try dsimp only at hw
  have hm := hw
  have hP : va_P (dC, dI) vwCl (wC ad cy ss_1 ds_6 ti co oma obr obj obo obm plo_2 pch_3 pbe_4 pbl_5 dnu_7 dde_8 dbo_9 dln_10 dld_11 tba_12 tal_13 tro_14 tsc_15 tcl_16 rma_17) H := cPost_P ht hB
  have hD : va_D A (wC ad cy ss_1 ds_6 ti co oma obr obj obo obm plo_2 pch_3 pbe_4 pbl_5 dnu_7 dde_8 dbo_9 dln_10 dld_11 tba_12 tal_13 tro_14 tsc_15 tcl_16 rma_17) := cPost_D hFc hB
  refine lv_aload_n hx hb dX6_excess_8 rfl (lv_at hl 0 rfl) ?_
  refine va_get (D := (dC, dI)) (ci := 6) (v := .ref (ad 5)) (C := RX6) (T := TX6) (N := 7) hx hb hts in_X6_excess_X6 hown hK hP 0 rfl rfl 2 (by decide) (hts _ fl_X6_excess_26) (fun _ h9 => h9) rfl dX6_excess_9 ?_
  refine va_getN (D := (dC, dI)) (ci := 3) (v := .int pbl_5) (C := RX3) (T := TX3) (N := 4) hx hb hts in_X6_excess_X3 hown hK hP 5 rfl rfl 3 (by decide) (va_Nw.use rfl (nw_X6_94 hN)) (fun _ h9 => h9) rfl dX6_excess_12 ?_
  refine lv_if_ne (tgt := 20) hx hb dX6_excess_15 (by decide) (fun c_18 => ?_) (fun c_18 => ?_)
  · have hm := hm.2 c_18
    refine lv_aload_n hx hb dX6_excess_20 rfl (lv_at hl 0 rfl) ?_
    refine va_get (D := (dC, dI)) (ci := 6) (v := .ref (ad 1)) (C := RX6) (T := TX6) (N := 7) hx hb hts in_X6_excess_X6 hown hK hP 0 rfl rfl 0 (by decide) (hts _ fl_X6_excess_12) (fun _ h9 => h9) rfl dX6_excess_21 ?_
    refine lv_aload_n hx hb dX6_excess_24 rfl (lv_at hl 0 rfl) ?_
    refine va_get (D := (dC, dI)) (ci := 6) (v := .ref (ad 16)) (C := RX6) (T := TX6) (N := 7) hx hb hts in_X6_excess_X6 hown hK hP 0 rfl rfl 4 (by decide) (hts _ fl_X6_excess_40) (fun _ h9 => h9) rfl dX6_excess_25 ?_
    refine va_getN (D := (dC, dI)) (ci := 4) (v := .ref (ad 17)) (C := RX4) (T := TX4) (N := 1) hx hb hts in_X6_excess_X4 hown hK hP 16 rfl rfl 0 (by decide) (va_Nw.use rfl (nw_X6_126 hN)) (fun _ h9 => h9) rfl dX6_excess_28 ?_
    have hFc := va_freeSame hD hS hA
    refine va_calli (va_runV (As := [.ref (ad 17)]) (rest := []) ⟨hx, hb, hml, hown, hts⟩ (c_X1_greatestLoad_r l dC dI cy ad H.size ss_1 ds_6 ti co oma obr obj obo obm plo_2 pch_3 pbe_4 pbl_5 dnu_7 dde_8 dbo_9 dln_10 dld_11 tba_12 tal_13 tro_14 tsc_15 tcl_16 rma_17  _ _ hm) (cwV 1 hts gX6_excess_X1_greatestLoad rfl rfl rfl (by decide +kernel) ⟨Nat.le_of_ble_eq_true rfl, Nat.le_of_ble_eq_true rfl⟩) ⟨cPre_blind, va_recv hK hP (ci := 1) (q0 := 1) rfl rfl, fun U hU hW => ⟨rfl, cPre_at hP hK hD hN hU hW⟩⟩ rfl rfl hl.1 rfl (lv_room (Nat.le_of_ble_eq_true rfl)) dX6_excess_31 ⟨Nat.zero_le _, Nat.zero_le _⟩) hS (fun q _ h => hFc q h) hFc (fun r_19 u t H locs ht hvm hw hB hz1 hk1 hS => ?_)
    try dsimp only at hw
    have hm := hw
    have hP : va_P (dC, dI) vwCl (wC ad cy ss_1 ds_6 ti co oma obr obj obo obm plo_2 pch_3 pbe_4 pbl_5 dnu_7 dde_8 dbo_9 dln_10 dld_11 tba_12 tal_13 tro_14 tsc_15 tcl_16 rma_17) H := cPost_P ht hB
    have hD : va_D A (wC ad cy ss_1 ds_6 ti co oma obr obj obo obm plo_2 pch_3 pbe_4 pbl_5 dnu_7 dde_8 dbo_9 dln_10 dld_11 tba_12 tal_13 tro_14 tsc_15 tcl_16 rma_17) := cPost_D hFc hB
    refine lv_i2f hx hb dX6_excess_34 ?_
    refine lv_aload_n hx hb dX6_excess_35 rfl (lv_at hl 0 rfl) ?_
    refine va_get (D := (dC, dI)) (ci := 6) (v := .ref (ad 5)) (C := RX6) (T := TX6) (N := 7) hx hb hts in_X6_excess_X6 hown hK hP 0 rfl rfl 2 (by decide) (hts _ fl_X6_excess_26) (fun _ h9 => h9) rfl dX6_excess_36 ?_
    refine va_getN (D := (dC, dI)) (ci := 3) (v := .int pbl_5) (C := RX3) (T := TX3) (N := 4) hx hb hts in_X6_excess_X3 hown hK hP 5 rfl rfl 3 (by decide) (va_Nw.use rfl (nw_X6_94 hN)) (fun _ h9 => h9) rfl dX6_excess_39 ?_
    refine lv_i2f hx hb dX6_excess_42 ?_
    exact hDv_43 (FP.i2f r_19) (FP.i2f pbl_5) ss_1 ds_6 plo_2 pch_3 pbe_4 pbl_5 dnu_7 dde_8 dbo_9 dln_10 dld_11 tba_12 tal_13 tro_14 tsc_15 tcl_16 rma_17 H locs ls ⟨hP, hD, hS⟩ hm
  · have hm := hm.1 c_18
    refine lv_fconst1 hx hb dX6_excess_18 ?_
    exact hret (FP.fconst1) ss_1 ds_6 plo_2 pch_3 pbe_4 pbl_5 dnu_7 dde_8 dbo_9 dln_10 dld_11 tba_12 tal_13 tro_14 tsc_15 tcl_16 rma_17 H locs ls 19 dX6_excess_19 ⟨hP, hD, hS⟩ hm

set_option maxHeartbeats 4000000 in
set_option maxRecDepth 100000 in
theorem c_X6_excess (l : Launch) (dC : Nat → ClassId) (dI : Nat → Nat → Nat) (cy : Nat → ClassId) (ad : Nat → Nat) (sz : Nat) (ss : Int32) (ds : Int32) (ti : Nat → Int32) (co : Int32) (oma : Nat → Int32) (obr : Int32) (obj : Int32) (obo : Int32) (obm : Int32) (plo : Nat → Int32) (pch : Nat → Int32) (pbe : Nat → Int32) (pbl : Int32) (dnu : Nat → Int32) (dde : Nat → Int32) (dbo : Int32) (dln : Int32) (dld : Int32) (tba : Nat → Int32) (tal : Nat → Int32) (tro : Int32) (tsc : Int64) (tcl : Nat → Nat → Int64) (rma : Nat → Int32) (N : Nat) (Q : UInt32 → Int32 → Int32 → (Nat → Int32) → (Nat → Int32) → (Nat → Int32) → Int32 → (Nat → Int32) → (Nat → Int32) → Int32 → Int32 → Int32 → (Nat → Int32) → (Nat → Int32) → Int32 → Int64 → (Nat → Nat → Int64) → (Nat → Int32) → Prop) (hm : p_X6_excess N ti co Q ss ds plo pch pbe pbl dnu dde dbo dln dld tba tal tro tsc tcl rma) : MetD lw_cs l yX6_excess wsX6_excess rmX6_excess (va_Pc [.ref (ad 0)] (cPre dC dI cy (wC ad cy ss ds ti co oma obr obj obo obm plo pch pbe pbl dnu dde dbo dln dld tba tal tro tsc tcl rma) sz)) (va_Qf (fun (r : UInt32) (u : Int32 × Int32 × (Nat → Int32) × (Nat → Int32) × (Nat → Int32) × Int32 × (Nat → Int32) × (Nat → Int32) × Int32 × Int32 × Int32 × (Nat → Int32) × (Nat → Int32) × Int32 × Int64 × (Nat → Nat → Int64) × (Nat → Int32)) => Q r u.1 u.2.1 u.2.2.1 u.2.2.2.1 u.2.2.2.2.1 u.2.2.2.2.2.1 u.2.2.2.2.2.2.1 u.2.2.2.2.2.2.2.1 u.2.2.2.2.2.2.2.2.1 u.2.2.2.2.2.2.2.2.2.1 u.2.2.2.2.2.2.2.2.2.2.1 u.2.2.2.2.2.2.2.2.2.2.2.1 u.2.2.2.2.2.2.2.2.2.2.2.2.1 u.2.2.2.2.2.2.2.2.2.2.2.2.2.1 u.2.2.2.2.2.2.2.2.2.2.2.2.2.2.1 u.2.2.2.2.2.2.2.2.2.2.2.2.2.2.2.1 u.2.2.2.2.2.2.2.2.2.2.2.2.2.2.2.2) (fun u t => cPost dC dI cy (wC ad cy ss ds ti co oma obr obj obo obm plo pch pbe pbl dnu dde dbo dln dld tba tal tro tsc tcl rma) sz (wC ad cy (u.1) (u.2.1) ti co oma obr obj obo obm (u.2.2.1) (u.2.2.2.1) (u.2.2.2.2.1) (u.2.2.2.2.2.1) (u.2.2.2.2.2.2.1) (u.2.2.2.2.2.2.2.1) (u.2.2.2.2.2.2.2.2.1) (u.2.2.2.2.2.2.2.2.2.1) (u.2.2.2.2.2.2.2.2.2.2.1) (u.2.2.2.2.2.2.2.2.2.2.2.1) (u.2.2.2.2.2.2.2.2.2.2.2.2.1) (u.2.2.2.2.2.2.2.2.2.2.2.2.2.1) (u.2.2.2.2.2.2.2.2.2.2.2.2.2.2.1) (u.2.2.2.2.2.2.2.2.2.2.2.2.2.2.2.1) (u.2.2.2.2.2.2.2.2.2.2.2.2.2.2.2.2)) t) (va_A (wC ad cy ss ds ti co oma obr obj obo obm plo pch pbe pbl dnu dde dbo dln dld tba tal tro tsc tcl rma) sz)) 0 0 (va_A (wC ad cy ss ds ti co oma obr obj obo obm plo pch pbe pbl dnu dde dbo dln dld tba tal tro tsc tcl rma) sz) := by
  refine MetD.ofW (cc := cX6_excess) (maxL := 1) (ret := (some .float)) (by decide) rfl ?_
  intro p e s m args below meth c s₁ B hml hv hd0
  obtain ⟨rfl, hsz, hP, hK, hD0, hN⟩ := hv
  have hts := atoms_spec (ws := wsX6_excess) B.pre
  have hown : s.vm.findClass RX6 = some m.cls := findClass_of_methodNamed B.named
  subst hsz
  have hD := hD0.self (sz := s.heap.size)
  generalize hAe : va_A (wC ad cy ss ds ti co oma obr obj obo obm plo pch pbe pbl dnu dde dbo dln dld tba tal tro tsc tcl rma) s.heap.size = A at hD ⊢
  have hA : ∀ q : Nat, s.heap.size ≤ q → A q := fun q h => by rw [← hAe]; exact Or.inr h
  have hl := lv_entry ([.ref (ad 0)]) (n := 1) (Nat.le_of_ble_eq_true rfl)
  rw [lg_entry_eq]
  generalize (lg_sl ([.ref (ad 0)]) ++ List.replicate (1 - (lg_sl ([.ref (ad 0)])).length) Slot.unset).toArray = ls at hl ⊢
  have hl : lv_has ls 1 [(0, .ref (ad 0))] := hl
  exact k_X6_excess_0 (s := s.setDrawn s.drawn) ⟨B.exec, B.bytes, hml, B.returns, hown, dr_words hts s.drawn, B.notSynchronized, hK, hA, nwC.same (s := s) (U := s.setDrawn s.drawn) rfl hN⟩ ss ds plo pch pbe pbl dnu dde dbo dln dld tba tal tro tsc tcl rma s.heap [] ls hm ⟨hP, hD, va_S.rf⟩ (lv_sub hl [0] rfl) (fun r ss ds plo pch pbe pbl dnu dde dbo dln dld tba tal tro tsc tcl rma H locs ls pc hdg hSt hq => W.endD hd0 (W.fret B.exec B.bytes B.returns (fun t ht hW => ⟨⟨r, (ss, ds, plo, pch, pbe, pbl, dnu, dde, dbo, dln, dld, tba, tal, tro, tsc, tcl, rma), rfl, hq, cPost_of hAe ht hW.alike hSt hK⟩, hSt.2.2.F ht⟩) hSt.2.2.2.2 hdg B.notSynchronized)) (fun x y ss ds plo pch pbe pbl dnu dde dbo dln dld tba tal tro tsc tcl rma H locs ls hSt hq => lv_fdiv_any hd0 lw_bits B.exec B.bytes dX6_excess_43 (fun r d1 hal hd1 => W.endD hd1 (W.fret B.exec B.bytes B.returns (fun t ht hW => ⟨⟨r, (ss, ds, plo, pch, pbe, pbl, dnu, dde, dbo, dln, dld, tba, tal, tro, tsc, tcl, rma), rfl, hq r hal, cPost_of hAe ht hW.alike hSt hK⟩, hSt.2.2.F ht⟩) hSt.2.2.2.2 dX6_excess_44 B.notSynchronized)))

-- ===== X7_excess