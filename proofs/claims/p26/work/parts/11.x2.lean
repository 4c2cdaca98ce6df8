variable {p : Program} {l : Launch} {e : Env} {s : State} {m : MethodId} {args : Array Value} {below : List Frame} {meth : Method} {c : Code} {dC : Nat → ClassId} {dI : Nat → Nat → Nat} {cy : Nat → ClassId} {ad : Nat → Nat} {A : Nat → Prop} {Z : State → Prop}
-- ===== X2_rank
theorem fl_X2_rank_9 : Cond.fieldLink RX2 9 "UnlikeUnion$OwnPlan" "machineOf" "[I" ∈ wsX2_rank := by decide +kernel
theorem in_X2_rank_X2 : ∀ w ∈ u_ws RX2 TX2 5, w ∈ wsX2_rank := by decide +kernel
abbrev rmX2_rank : Room := { frames := 3, cells := 0, slots := 0, locals := 229 }
def p_X2_rank (N : Nat) (ti : Nat → Int32) (co : Int32) (oma : Nat → Int32) (Q : Int32 → Prop)  : Prop :=
  p_X1_loadOn N oma ti co (fun r_1 => p_X1_loadOn N oma ti co (fun r_2 => p_X1_loadOn N oma ti co (fun r_3 => ∀ v_4 : Int32, v_4 = (if r_1 < r_2 then r_2 else r_1) → (∀ v_5 : Int32, v_5 = (if v_4 < r_3 then r_3 else v_4) → (∀ v_6 : Int32, v_6 = (if r_2 < r_1 then r_2 else r_1) → (∀ v_7 : Int32, v_7 = (if r_3 < v_6 then r_3 else v_6) → (∀ x7_8 : Int32, x7_8 = (((r_1 + r_2) + r_3) - v_5) - v_7 → (Q ((((v_5 * (1000 : Int32)) + x7_8) * (1000 : Int32)) + v_7))))))) (2 : Int32)) (1 : Int32)) (0 : Int32)

set_option maxHeartbeats 4000000 in
set_option maxRecDepth 100000 in
theorem k_X2_rank_0 {N : Nat} {ss : Int32} {ds : Int32} {ti : Nat → Int32} {co : Int32} {oma : Nat → Int32} {obr : Int32} {obj : Int32} {obo : Int32} {obm : Int32} {plo : Nat → Int32} {pch : Nat → Int32} {pbe : Nat → Int32} {pbl : Int32} {dnu : Nat → Int32} {dde : Nat → Int32} {dbo : Int32} {dln : Int32} {dld : Int32} {tba : Nat → Int32} {tal : Nat → Int32} {tro : Int32} {tsc : Int64} {tcl : Nat → Nat → Int64} {rma : Nat → Int32} {Q : Int32 → Prop} (C0 : cxM cX2_rank 8 (some .int) RX2 wsX2_rank p s m args meth c dC dI cy A) :
    ∀  (H : Heap) (locs : List Loc) (ls : Array Slot) (hm : p_X2_rank N ti co oma Q ) (hSt : stC dC dI A s (wC ad cy ss ds ti co oma obr obj obo obm plo pch pbe pbl dnu dde dbo dln dld tba tal tro tsc tcl rma) H locs) (hl : lv_has ls 8 [(0, .ref (ad 3)), (1, .ref (ad 1))]) (hret : ∀ (r : Int32) (H : Heap) (locs : List Loc) (ls : Array Slot) (pc : Nat), decode cX2_rank pc = .ok (.ireturn, 1) → stC dC dI A s (wC ad cy ss ds ti co oma obr obj obo obm plo pch pbe pbl dnu dde dbo dln dld tba tal tro tsc tcl rma) H locs → Q r → W p l e rmX2_rank s m args below meth c H locs 0 0 Z (F0 m pc ls [.int r])), W p l e rmX2_rank s m args below meth c H locs 0 0 Z (F0 m 0 ls []) := by
  obtain ⟨hx, hb, hml, hr, hown, hts, hlocks, hK, hA, hN⟩ := id C0
  intro  H locs ls hm hSt hl hret
  obtain ⟨hP, hD, hS⟩ := hSt
  unfold p_X2_rank at hm
  refine lv_aload_n hx hb dX2_rank_0 rfl (lv_at hl 1 rfl) ?_
  refine lv_aload_n hx hb dX2_rank_1 rfl (lv_at hl 0 rfl) ?_
  refine va_get (D := (dC, dI)) (ci := 2) (v := .ref (ad 4)) (C := RX2) (T := TX2) (N := 5) hx hb hts in_X2_rank_X2 hown hK hP 3 rfl rfl 0 (by decide) (hts _ fl_X2_rank_9) (fun _ h9 => h9) rfl dX2_rank_2 ?_
  refine lv_iconst (v := 0) hx hb dX2_rank_5 (by decide) ?_
  have hFc := va_freeSame hD hS hA
  refine va_calli (va_runV (As := [.ref (ad 4), .int (0 : Int32)]) (rest := []) ⟨hx, hb, hml, hown, hts⟩ (c_X1_loadOn_o l dC dI cy ad H.size ss ds ti co oma obr obj obo obm plo pch pbe pbl dnu dde dbo dln dld tba tal tro tsc tcl rma (0 : Int32) _ _ hm) (cwV 2 hts gX2_rank_X1_loadOn rfl rfl rfl (by decide +kernel) ⟨Nat.le_of_ble_eq_true rfl, Nat.le_of_ble_eq_true rfl⟩) ⟨cPre_blind, va_recv hK hP (ci := 1) (q0 := 1) rfl rfl, fun U hU hW => ⟨rfl, cPre_at hP hK hD hN hU hW⟩⟩ rfl rfl hl.1 rfl (lv_room (Nat.le_of_ble_eq_true rfl)) dX2_rank_6 ⟨Nat.zero_le _, Nat.zero_le _⟩) hS (fun q _ h => hFc q h) hFc (fun r_1 u t H locs ht hvm hw hB hz1 hk1 hS => ?_)
  try dsimp only at hw
  have hm := hw
  have hP : va_P (dC, dI) vwCl (wC ad cy ss ds ti co oma obr obj obo obm plo pch pbe pbl dnu dde dbo dln dld tba tal tro tsc tcl rma) H := cPost_P ht hB
  have hD : va_D A (wC ad cy ss ds ti co oma obr obj obo obm plo pch pbe pbl dnu dde dbo dln dld tba tal tro tsc tcl rma) := cPost_D hFc hB
  refine lv_istore_n (lv' := [(2, .int r_1), (0, .ref (ad 3)), (1, .ref (ad 1))]) hx hb dX2_rank_9 rfl hl (by decide) rfl (fun ls hl => ?_)
  refine lv_aload_n hx hb dX2_rank_10 rfl (lv_at hl 2 rfl) ?_
  refine lv_aload_n hx hb dX2_rank_11 rfl (lv_at hl 1 rfl) ?_
  refine va_get (D := (dC, dI)) (ci := 2) (v := .ref (ad 4)) (C := RX2) (T := TX2) (N := 5) hx hb hts in_X2_rank_X2 hown hK hP 3 rfl rfl 0 (by decide) (hts _ fl_X2_rank_9) (fun _ h9 => h9) rfl dX2_rank_12 ?_
  refine lv_iconst (v := 1) hx hb dX2_rank_15 (by decide) ?_
  have hFc := va_freeSame hD hS hA
  refine va_calli (va_runV (As := [.ref (ad 4), .int (1 : Int32)]) (rest := []) ⟨hx, hb, hml, hown, hts⟩ (c_X1_loadOn_o l dC dI cy ad H.size ss ds ti co oma obr obj obo obm plo pch pbe pbl dnu dde dbo dln dld tba tal tro tsc tcl rma (1 : Int32) _ _ hm) (cwV 2 hts gX2_rank_X1_loadOn rfl rfl rfl (by decide +kernel) ⟨Nat.le_of_ble_eq_true rfl, Nat.le_of_ble_eq_true rfl⟩) ⟨cPre_blind, va_recv hK hP (ci := 1) (q0 := 1) rfl rfl, fun U hU hW => ⟨rfl, cPre_at hP hK hD hN hU hW⟩⟩ rfl rfl hl.1 rfl (lv_room (Nat.le_of_ble_eq_true rfl)) dX2_rank_16 ⟨Nat.zero_le _, Nat.zero_le _⟩) hS (fun q _ h => hFc q h) hFc (fun r_2 u t H locs ht hvm hw hB hz1 hk1 hS => ?_)
  try dsimp only at hw
  have hm := hw
  have hP : va_P (dC, dI) vwCl (wC ad cy ss ds ti co oma obr obj obo obm plo pch pbe pbl dnu dde dbo dln dld tba tal tro tsc tcl rma) H := cPost_P ht hB
  have hD : va_D A (wC ad cy ss ds ti co oma obr obj obo obm plo pch pbe pbl dnu dde dbo dln dld tba tal tro tsc tcl rma) := cPost_D hFc hB
  refine lv_istore_n (lv' := [(3, .int r_2), (2, .int r_1), (0, .ref (ad 3)), (1, .ref (ad 1))]) hx hb dX2_rank_19 rfl hl (by decide) rfl (fun ls hl => ?_)
  refine lv_aload_n hx hb dX2_rank_20 rfl (lv_at hl 3 rfl) ?_
  refine lv_aload_n hx hb dX2_rank_21 rfl (lv_at hl 2 rfl) ?_
  refine va_get (D := (dC, dI)) (ci := 2) (v := .ref (ad 4)) (C := RX2) (T := TX2) (N := 5) hx hb hts in_X2_rank_X2 hown hK hP 3 rfl rfl 0 (by decide) (hts _ fl_X2_rank_9) (fun _ h9 => h9) rfl dX2_rank_22 ?_
  refine lv_iconst (v := 2) hx hb dX2_rank_25 (by decide) ?_
  have hFc := va_freeSame hD hS hA
  refine va_calli (va_runV (As := [.ref (ad 4), .int (2 : Int32)]) (rest := []) ⟨hx, hb, hml, hown, hts⟩ (c_X1_loadOn_o l dC dI cy ad H.size ss ds ti co oma obr obj obo obm plo pch pbe pbl dnu dde dbo dln dld tba tal tro tsc tcl rma (2 : Int32) _ _ hm) (cwV 2 hts gX2_rank_X1_loadOn rfl rfl rfl (by decide +kernel) ⟨Nat.le_of_ble_eq_true rfl, Nat.le_of_ble_eq_true rfl⟩) ⟨cPre_blind, va_recv hK hP (ci := 1) (q0 := 1) rfl rfl, fun U hU hW => ⟨rfl, cPre_at hP hK hD hN hU hW⟩⟩ rfl rfl hl.1 rfl (lv_room (Nat.le_of_ble_eq_true rfl)) dX2_rank_26 ⟨Nat.zero_le _, Nat.zero_le _⟩) hS (fun q _ h => hFc q h) hFc (fun r_3 u t H locs ht hvm hw hB hz1 hk1 hS => ?_)
  try dsimp only at hw
  have hm := hw
  have hP : va_P (dC, dI) vwCl (wC ad cy ss ds ti co oma obr obj obo obm plo pch pbe pbl dnu dde dbo dln dld tba tal tro tsc tcl rma) H := cPost_P ht hB
  have hD : va_D A (wC ad cy ss ds ti co oma obr obj obo obm plo pch pbe pbl dnu dde dbo dln dld tba tal tro tsc tcl rma) := cPost_D hFc hB
  refine lv_istore (lv' := [(4, .int r_3), (3, .int r_2), (2, .int r_1), (0, .ref (ad 3)), (1, .ref (ad 1))]) hx hb dX2_rank_29 hl (by decide) rfl (fun ls hl => ?_)
  refine lv_iload_n hx hb dX2_rank_31 rfl (lv_at hl 2 rfl) ?_
  refine lv_iload_n hx hb dX2_rank_32 rfl (lv_at hl 1 rfl) ?_
  refine va_mmax hx hb (hml.trans hl.1.symm) hown (hts (.methodLink RX2 60 Lib.Math.max.name) (by decide +kernel)) (hts (.static Lib.Math.max.name) (by decide +kernel)) (hts (.initialized "java/lang/Math") (by decide +kernel)) (hts (.code Lib.Math.max.name Lib.Math.max.code 2 (some .int)) (by decide +kernel)) (Nat.le_of_ble_eq_true rfl) (Nat.le_of_ble_eq_true rfl) (Nat.zero_le _) (Nat.zero_le _) dX2_rank_33 ?_
  refine lv_topi (fun v_4 ev_4 => ?_)
  have hm := hm v_4 ev_4
  refine lv_iload hx hb dX2_rank_36 (lv_at hl 0 rfl) ?_
  refine va_mmax hx hb (hml.trans hl.1.symm) hown (hts (.methodLink RX2 60 Lib.Math.max.name) (by decide +kernel)) (hts (.static Lib.Math.max.name) (by decide +kernel)) (hts (.initialized "java/lang/Math") (by decide +kernel)) (hts (.code Lib.Math.max.name Lib.Math.max.code 2 (some .int)) (by decide +kernel)) (Nat.le_of_ble_eq_true rfl) (Nat.le_of_ble_eq_true rfl) (Nat.zero_le _) (Nat.zero_le _) dX2_rank_38 ?_
  refine lv_topi (fun v_5 ev_5 => ?_)
  have hm := hm v_5 ev_5
  refine lv_istore (lv' := [(5, .int v_5), (4, .int r_3), (3, .int r_2), (2, .int r_1), (0, .ref (ad 3)), (1, .ref (ad 1))]) hx hb dX2_rank_41 hl (by decide) rfl (fun ls hl => ?_)
  refine lv_iload_n hx hb dX2_rank_43 rfl (lv_at hl 3 rfl) ?_
  refine lv_iload_n hx hb dX2_rank_44 rfl (lv_at hl 2 rfl) ?_
  refine va_mmin hx hb (hml.trans hl.1.symm) hown (hts (.methodLink RX2 65 Lib.Math.min.name) (by decide +kernel)) (hts (.static Lib.Math.min.name) (by decide +kernel)) (hts (.initialized "java/lang/Math") (by decide +kernel)) (hts (.code Lib.Math.min.name Lib.Math.min.code 2 (some .int)) (by decide +kernel)) (Nat.le_of_ble_eq_true rfl) (Nat.le_of_ble_eq_true rfl) (Nat.zero_le _) (Nat.zero_le _) dX2_rank_45 ?_
  refine lv_topi (fun v_6 ev_6 => ?_)
  have hm := hm v_6 ev_6
  refine lv_iload hx hb dX2_rank_48 (lv_at hl 1 rfl) ?_
  refine va_mmin hx hb (hml.trans hl.1.symm) hown (hts (.methodLink RX2 65 Lib.Math.min.name) (by decide +kernel)) (hts (.static Lib.Math.min.name) (by decide +kernel)) (hts (.initialized "java/lang/Math") (by decide +kernel)) (hts (.code Lib.Math.min.name Lib.Math.min.code 2 (some .int)) (by decide +kernel)) (Nat.le_of_ble_eq_true rfl) (Nat.le_of_ble_eq_true rfl) (Nat.zero_le _) (Nat.zero_le _) dX2_rank_50 ?_
  refine lv_topi (fun v_7 ev_7 => ?_)
  have hm := hm v_7 ev_7
  refine lv_istore (lv' := [(6, .int v_7), (5, .int v_5), (4, .int r_3), (3, .int r_2), (2, .int r_1), (0, .ref (ad 3)), (1, .ref (ad 1))]) hx hb dX2_rank_53 hl (by decide) rfl (fun ls hl => ?_)
  refine lv_iload_n hx hb dX2_rank_55 rfl (lv_at hl 4 rfl) ?_
  refine lv_iload_n hx hb dX2_rank_56 rfl (lv_at hl 3 rfl) ?_
  refine lv_iadd hx hb dX2_rank_57 ?_
  refine lv_iload hx hb dX2_rank_58 (lv_at hl 2 rfl) ?_
  refine lv_iadd hx hb dX2_rank_60 ?_
  refine lv_iload hx hb dX2_rank_61 (lv_at hl 1 rfl) ?_
  refine lv_isub hx hb dX2_rank_63 ?_
  refine lv_iload hx hb dX2_rank_64 (lv_at hl 0 rfl) ?_
  refine lv_isub hx hb dX2_rank_66 ?_
  refine lv_topi (fun x7_8 ex7_8 => ?_)
  have hm := hm x7_8 ex7_8
  refine lv_istore (lv' := [(7, .int x7_8), (6, .int v_7), (5, .int v_5), (4, .int r_3), (3, .int r_2), (2, .int r_1), (0, .ref (ad 3)), (1, .ref (ad 1))]) hx hb dX2_rank_67 hl (by decide) rfl (fun ls hl => ?_)
  refine lv_iload hx hb dX2_rank_69 (lv_at hl 2 rfl) ?_
  refine lv_sipush (v := 1000) hx hb dX2_rank_71 (by decide) ?_
  refine lv_imul hx hb dX2_rank_74 ?_
  refine lv_iload hx hb dX2_rank_75 (lv_at hl 0 rfl) ?_
  refine lv_iadd hx hb dX2_rank_77 ?_
  refine lv_sipush (v := 1000) hx hb dX2_rank_78 (by decide) ?_
  refine lv_imul hx hb dX2_rank_81 ?_
  refine lv_iload hx hb dX2_rank_82 (lv_at hl 1 rfl) ?_
  refine lv_iadd hx hb dX2_rank_84 ?_
  exact hret ((((v_5 * (1000 : Int32)) + x7_8) * (1000 : Int32)) + v_7) H locs ls 85 dX2_rank_85 ⟨hP, hD, hS⟩ hm

set_option maxHeartbeats 4000000 in
set_option maxRecDepth 100000 in
theorem c_X2_rank (l : Launch) (dC : Nat → ClassId) (dI : Nat → Nat → Nat) (cy : Nat → ClassId) (ad : Nat → Nat) (sz : Nat) (ss : Int32) (ds : Int32) (ti : Nat → Int32) (co : Int32) (oma : Nat → Int32) (obr : Int32) (obj : Int32) (obo : Int32) (obm : Int32) (plo : Nat → Int32) (pch : Nat → Int32) (pbe : Nat → Int32) (pbl : Int32) (dnu : Nat → Int32) (dde : Nat → Int32) (dbo : Int32) (dln : Int32) (dld : Int32) (tba : Nat → Int32) (tal : Nat → Int32) (tro : Int32) (tsc : Int64) (tcl : Nat → Nat → Int64) (rma : Nat → Int32)  (N : Nat) (Q : Int32 → Prop) (hm : p_X2_rank N ti co oma Q ) : Met l yX2_rank wsX2_rank rmX2_rank (va_Pc [.ref (ad 3), .ref (ad 1)] (cPre dC dI cy (wC ad cy ss ds ti co oma obr obj obo obm plo pch pbe pbl dnu dde dbo dln dld tba tal tro tsc tcl rma) sz)) (va_Qi (fun (r : Int32) (u : Unit) => Q r) (fun u t => cPost dC dI cy (wC ad cy ss ds ti co oma obr obj obo obm plo pch pbe pbl dnu dde dbo dln dld tba tal tro tsc tcl rma) sz (wC ad cy ss ds ti co oma obr obj obo obm plo pch pbe pbl dnu dde dbo dln dld tba tal tro tsc tcl rma) t) (va_A (wC ad cy ss ds ti co oma obr obj obo obm plo pch pbe pbl dnu dde dbo dln dld tba tal tro tsc tcl rma) sz)) 0 0 (va_A (wC ad cy ss ds ti co oma obr obj obo obm plo pch pbe pbl dnu dde dbo dln dld tba tal tro tsc tcl rma) sz) := by
  refine Met.ofW (cc := cX2_rank) (maxL := 8) (ret := (some .int)) (by decide) rfl ?_
  intro p e s m args below meth c s₁ B hml hv
  obtain ⟨rfl, hsz, hP, hK, hD0, hN⟩ := hv
  have hts := atoms_spec (ws := wsX2_rank) B.pre
  have hown : s.vm.findClass RX2 = some m.cls := findClass_of_methodNamed B.named
  subst hsz
  have hD := hD0.self (sz := s.heap.size)
  generalize hAe : va_A (wC ad cy ss ds ti co oma obr obj obo obm plo pch pbe pbl dnu dde dbo dln dld tba tal tro tsc tcl rma) s.heap.size = A at hD ⊢
  have hA : ∀ q : Nat, s.heap.size ≤ q → A q := fun q h => by rw [← hAe]; exact Or.inr h
  have hl := lv_entry ([.ref (ad 3), .ref (ad 1)]) (n := 8) (Nat.le_of_ble_eq_true rfl)
  rw [lg_entry_eq]
  generalize (lg_sl ([.ref (ad 3), .ref (ad 1)]) ++ List.replicate (8 - (lg_sl ([.ref (ad 3), .ref (ad 1)])).length) Slot.unset).toArray = ls at hl ⊢
  have hl : lv_has ls 8 [(0, .ref (ad 3)), (1, .ref (ad 1))] := hl
  exact k_X2_rank_0 ⟨B.exec, B.bytes, hml, B.returns, hown, hts, B.notSynchronized, hK, hA, hN⟩  s.heap [] ls hm ⟨hP, hD, va_S.rf⟩ (lv_sub hl [0, 1] rfl) (fun r H locs ls pc hdg hSt hq => W.iret B.exec B.bytes B.returns (fun t ht hW => ⟨⟨r, (), rfl, hq, cPost_of hAe ht hW.alike hSt hK⟩, hSt.2.2.F ht⟩) hSt.2.2.2.2 hdg B.notSynchronized)

-- ===== X2_meet
theorem fl_X2_meet_19 : Cond.fieldLink RX2 19 "UnlikeUnion$OwnPlan" "bestRank" "I" ∈ wsX2_meet := by decide +kernel
theorem fl_X2_meet_23 : Cond.fieldLink RX2 23 "UnlikeUnion$OwnPlan" "bestJob" "I" ∈ wsX2_meet := by decide +kernel
theorem fl_X2_meet_26 : Cond.fieldLink RX2 26 "UnlikeUnion$OwnPlan" "bestOther" "I" ∈ wsX2_meet := by decide +kernel
theorem fl_X2_meet_29 : Cond.fieldLink RX2 29 "UnlikeUnion$OwnPlan" "bestMachine" "I" ∈ wsX2_meet := by decide +kernel
theorem in_X2_meet_X2 : ∀ w ∈ u_ws RX2 TX2 5, w ∈ wsX2_meet := by decide +kernel
abbrev rmX2_meet : Room := { frames := 1, cells := 0, slots := 0, locals := 65 }
def p_X2_meet (N : Nat) (Q : Int32 → Int32 → Int32 → Int32 → Prop) (x1 : Int32) (x2 : Int32) (x3 : Int32) (x4 : Int32) (obr : Int32) (obj : Int32) (obo : Int32) (obm : Int32) : Prop :=
  (obr ≤ x1 → (Q obr obj obo obm)) ∧ (¬ obr ≤ x1 → (Q x1 x2 x3 x4))

set_option maxHeartbeats 4000000 in
set_option maxRecDepth 100000 in
theorem k_X2_meet_0 {N : Nat} {ss : Int32} {ds : Int32} {ti : Nat → Int32} {co : Int32} {oma : Nat → Int32} {plo : Nat → Int32} {pch : Nat → Int32} {pbe : Nat → Int32} {pbl : Int32} {dnu : Nat → Int32} {dde : Nat → Int32} {dbo : Int32} {dln : Int32} {dld : Int32} {tba : Nat → Int32} {tal : Nat → Int32} {tro : Int32} {tsc : Int64} {tcl : Nat → Nat → Int64} {rma : Nat → Int32} {Q : Int32 → Int32 → Int32 → Int32 → Prop} (C0 : cxM cX2_meet 5 none RX2 wsX2_meet p s m args meth c dC dI cy A) :
    ∀ (x1 : Int32) (x2 : Int32) (x3 : Int32) (x4 : Int32) (obr : Int32) (obj : Int32) (obo : Int32) (obm : Int32) (H : Heap) (locs : List Loc) (ls : Array Slot) (hm : p_X2_meet N Q x1 x2 x3 x4 obr obj obo obm) (hSt : stC dC dI A s (wC ad cy ss ds ti co oma obr obj obo obm plo pch pbe pbl dnu dde dbo dln dld tba tal tro tsc tcl rma) H locs) (hl : lv_has ls 5 [(0, .ref (ad 3)), (1, .int x1), (2, .int x2), (3, .int x3), (4, .int x4)]) (hret : ∀ (obr : Int32) (obj : Int32) (obo : Int32) (obm : Int32) (H : Heap) (locs : List Loc) (ls : Array Slot) (pc : Nat), decode cX2_meet pc = .ok (.return_, 1) → stC dC dI A s (wC ad cy ss ds ti co oma obr obj obo obm plo pch pbe pbl dnu dde dbo dln dld tba tal tro tsc tcl rma) H locs → Q obr obj obo obm → W p l e rmX2_meet s m args below meth c H locs 0 0 Z (F0 m pc ls [])), W p l e rmX2_meet s m args below meth c H locs 0 0 Z (F0 m 0 ls []) := by
  obtain ⟨hx, hb, hml, hr, hown, hts, hlocks, hK, hA, hN⟩ := id C0
  intro x1 x2 x3 x4 obr obj obo obm H locs ls hm hSt hl hret
  obtain ⟨hP, hD, hS⟩ := hSt
  unfold p_X2_meet at hm
  refine lv_iload_n hx hb dX2_meet_0 rfl (lv_at hl 1 rfl) ?_
  refine lv_aload_n hx hb dX2_meet_1 rfl (lv_at hl 0 rfl) ?_
  refine va_get (D := (dC, dI)) (ci := 2) (v := .int obr) (C := RX2) (T := TX2) (N := 5) hx hb hts in_X2_meet_X2 hown hK hP 3 rfl rfl 1 (by decide) (hts _ fl_X2_meet_19) (fun _ h9 => h9) rfl dX2_meet_2 ?_
  refine lv_icmp_ge (tgt := 29) hx hb dX2_meet_5 (by decide) (fun c_1 => ?_) (fun c_1 => ?_)
  · have hm := hm.1 c_1
    exact hret obr obj obo obm H locs ls 29 dX2_meet_29 ⟨hP, hD, hS⟩ hm
  · have hm := hm.2 c_1
    refine lv_aload_n hx hb dX2_meet_8 rfl (lv_at hl 0 rfl) ?_
    refine lv_iload_n hx hb dX2_meet_9 rfl (lv_at hl 1 rfl) ?_
    refine va_put (D := (dC, dI)) (ci := 2) (v := .int x1) (ty := .int) (C := RX2) (T := TX2) (N := 5) hx hb hts in_X2_meet_X2 tyX2 tyX2_ok nmX2 hown hK hP hD hS 3 rfl rfl 1 (by decide) (hts _ fl_X2_meet_19) (fun _ h9 => h9) rfl (by decide +kernel) rfl rfl (Nat.le_of_ble_eq_true rfl) dX2_meet_10 (fun H locs hP hD hS => ?_)
    have hP : va_P (dC, dI) vwCl (wC ad cy ss ds ti co oma x1 obj obo obm plo pch pbe pbl dnu dde dbo dln dld tba tal tro tsc tcl rma) H := hP
    have hD : va_D A (wC ad cy ss ds ti co oma x1 obj obo obm plo pch pbe pbl dnu dde dbo dln dld tba tal tro tsc tcl rma) := hD
    refine lv_aload_n hx hb dX2_meet_13 rfl (lv_at hl 0 rfl) ?_
    refine lv_iload_n hx hb dX2_meet_14 rfl (lv_at hl 2 rfl) ?_
    refine va_put (D := (dC, dI)) (ci := 2) (v := .int x2) (ty := .int) (C := RX2) (T := TX2) (N := 5) hx hb hts in_X2_meet_X2 tyX2 tyX2_ok nmX2 hown hK hP hD hS 3 rfl rfl 2 (by decide) (hts _ fl_X2_meet_23) (fun _ h9 => h9) rfl (by decide +kernel) rfl rfl (Nat.le_of_ble_eq_true rfl) dX2_meet_15 (fun H locs hP hD hS => ?_)
    have hP : va_P (dC, dI) vwCl (wC ad cy ss ds ti co oma x1 x2 obo obm plo pch pbe pbl dnu dde dbo dln dld tba tal tro tsc tcl rma) H := hP
    have hD : va_D A (wC ad cy ss ds ti co oma x1 x2 obo obm plo pch pbe pbl dnu dde dbo dln dld tba tal tro tsc tcl rma) := hD
    refine lv_aload_n hx hb dX2_meet_18 rfl (lv_at hl 0 rfl) ?_
    refine lv_iload_n hx hb dX2_meet_19 rfl (lv_at hl 3 rfl) ?_
    refine va_put (D := (dC, dI)) (ci := 2) (v := .int x3) (ty := .int) (C := RX2) (T := TX2) (N := 5) hx hb hts in_X2_meet_X2 tyX2 tyX2_ok nmX2 hown hK hP hD hS 3 rfl rfl 3 (by decide) (hts _ fl_X2_meet_26) (fun _ h9 => h9) rfl (by decide +kernel) rfl rfl (Nat.le_of_ble_eq_true rfl) dX2_meet_20 (fun H locs hP hD hS => ?_)
    have hP : va_P (dC, dI) vwCl (wC ad cy ss ds ti co oma x1 x2 x3 obm plo pch pbe pbl dnu dde dbo dln dld tba tal tro tsc tcl rma) H := hP
    have hD : va_D A (wC ad cy ss ds ti co oma x1 x2 x3 obm plo pch pbe pbl dnu dde dbo dln dld tba tal tro tsc tcl rma) := hD
    refine lv_aload_n hx hb dX2_meet_23 rfl (lv_at hl 0 rfl) ?_
    refine lv_iload hx hb dX2_meet_24 (lv_at hl 4 rfl) ?_
    refine va_put (D := (dC, dI)) (ci := 2) (v := .int x4) (ty := .int) (C := RX2) (T := TX2) (N := 5) hx hb hts in_X2_meet_X2 tyX2 tyX2_ok nmX2 hown hK hP hD hS 3 rfl rfl 4 (by decide) (hts _ fl_X2_meet_29) (fun _ h9 => h9) rfl (by decide +kernel) rfl rfl (Nat.le_of_ble_eq_true rfl) dX2_meet_26 (fun H locs hP hD hS => ?_)
    have hP : va_P (dC, dI) vwCl (wC ad cy ss ds ti co oma x1 x2 x3 x4 plo pch pbe pbl dnu dde dbo dln dld tba tal tro tsc tcl rma) H := hP
    have hD : va_D A (wC ad cy ss ds ti co oma x1 x2 x3 x4 plo pch pbe pbl dnu dde dbo dln dld tba tal tro tsc tcl rma) := hD
    exact hret x1 x2 x3 x4 H locs ls 29 dX2_meet_29 ⟨hP, hD, hS⟩ hm

set_option maxHeartbeats 4000000 in
set_option maxRecDepth 100000 in
theorem c_X2_meet (l : Launch) (dC : Nat → ClassId) (dI : Nat → Nat → Nat) (cy : Nat → ClassId) (ad : Nat → Nat) (sz : Nat) (ss : Int32) (ds : Int32) (ti : Nat → Int32) (co : Int32) (oma : Nat → Int32) (obr : Int32) (obj : Int32) (obo : Int32) (obm : Int32) (plo : Nat → Int32) (pch : Nat → Int32) (pbe : Nat → Int32) (pbl : Int32) (dnu : Nat → Int32) (dde : Nat → Int32) (dbo : Int32) (dln : Int32) (dld : Int32) (tba : Nat → Int32) (tal : Nat → Int32) (tro : Int32) (tsc : Int64) (tcl : Nat → Nat → Int64) (rma : Nat → Int32) (x1 : Int32) (x2 : Int32) (x3 : Int32) (x4 : Int32) (N : Nat) (Q : Int32 → Int32 → Int32 → Int32 → Prop) (hm : p_X2_meet N Q x1 x2 x3 x4 obr obj obo obm) : Met l yX2_meet wsX2_meet rmX2_meet (va_Pc [.ref (ad 3), .int x1, .int x2, .int x3, .int x4] (cPre dC dI cy (wC ad cy ss ds ti co oma obr obj obo obm plo pch pbe pbl dnu dde dbo dln dld tba tal tro tsc tcl rma) sz)) (va_Qv (fun (u : Int32 × Int32 × Int32 × Int32) => Q u.1 u.2.1 u.2.2.1 u.2.2.2) (fun u t => cPost dC dI cy (wC ad cy ss ds ti co oma obr obj obo obm plo pch pbe pbl dnu dde dbo dln dld tba tal tro tsc tcl rma) sz (wC ad cy ss ds ti co oma (u.1) (u.2.1) (u.2.2.1) (u.2.2.2) plo pch pbe pbl dnu dde dbo dln dld tba tal tro tsc tcl rma) t) (va_A (wC ad cy ss ds ti co oma obr obj obo obm plo pch pbe pbl dnu dde dbo dln dld tba tal tro tsc tcl rma) sz)) 0 0 (va_A (wC ad cy ss ds ti co oma obr obj obo obm plo pch pbe pbl dnu dde dbo dln dld tba tal tro tsc tcl rma) sz) := by
  refine Met.ofW (cc := cX2_meet) (maxL := 5) (ret := none) (by decide) rfl ?_
  intro p e s m args below meth c s₁ B hml hv
  obtain ⟨rfl, hsz, hP, hK, hD0, hN⟩ := hv
  have hts := atoms_spec (ws := wsX2_meet) B.pre
  have hown : s.vm.findClass RX2 = some m.cls := findClass_of_methodNamed B.named
  subst hsz
  have hD := hD0.self (sz := s.heap.size)
  generalize hAe : va_A (wC ad cy ss ds ti co oma obr obj obo obm plo pch pbe pbl dnu dde dbo dln dld tba tal tro tsc tcl rma) s.heap.size = A at hD ⊢
  have hA : ∀ q : Nat, s.heap.size ≤ q → A q := fun q h => by rw [← hAe]; exact Or.inr h
  have hl := lv_entry ([.ref (ad 3), .int x1, .int x2, .int x3, .int x4]) (n := 5) (Nat.le_of_ble_eq_true rfl)
  rw [lg_entry_eq]
  generalize (lg_sl ([.ref (ad 3), .int x1, .int x2, .int x3, .int x4]) ++ List.replicate (5 - (lg_sl ([.ref (ad 3), .int x1, .int x2, .int x3, .int x4])).length) Slot.unset).toArray = ls at hl ⊢
  have hl : lv_has ls 5 [(0, .ref (ad 3)), (1, .int x1), (2, .int x2), (3, .int x3), (4, .int x4)] := hl
  exact k_X2_meet_0 ⟨B.exec, B.bytes, hml, B.returns, hown, hts, B.notSynchronized, hK, hA, hN⟩ x1 x2 x3 x4 obr obj obo obm s.heap [] ls hm ⟨hP, hD, va_S.rf⟩ (lv_sub hl [0, 1, 2, 3, 4] rfl) (fun obr obj obo obm H locs ls pc hdg hSt hq => W.vret B.exec B.bytes B.returns (fun t ht hW => ⟨⟨(obr, obj, obo, obm), rfl, hq, cPost_of hAe ht hW.alike hSt hK⟩, hSt.2.2.F ht⟩) hSt.2.2.2.2 hdg B.notSynchronized)

-- ===== X2_swap
theorem fl_X2_swap_9 : Cond.fieldLink RX2 9 "UnlikeUnion$OwnPlan" "machineOf" "[I" ∈ wsX2_swap := by decide +kernel
theorem in_X2_swap_X2 : ∀ w ∈ u_ws RX2 TX2 5, w ∈ wsX2_swap := by decide +kernel
abbrev rmX2_swap : Room := { frames := 1, cells := 0, slots := 0, locals := 64 }
def p_X2_swap (N : Nat) (Q : (Nat → Int32) → Prop) (x1 : Int32) (x2 : Int32) (oma : Nat → Int32) : Prop :=
  (x1 < 0 → (Q oma)) ∧ (¬ x1 < 0 → (((7 : Int32) ≤ x1 → (Q oma)) ∧ (¬ (7 : Int32) ≤ x1 → ((x2 < 0 → (Q oma)) ∧ (¬ x2 < 0 → (((7 : Int32) ≤ x2 → (Q oma)) ∧ (¬ (7 : Int32) ≤ x2 → (vp_in x1 7 ∧ (∀ x3_6 : Int32, x3_6 = oma (x1).toNatClampNeg → (vp_in x2 7 ∧ (∀ f_8 : Int32, f_8 = oma (x2).toNatClampNeg → (vp_in x1 7 ∧ (vp_in x2 7 ∧ (Q (upd (upd oma (x1).toNatClampNeg f_8) (x2).toNatClampNeg x3_6)))))))))))))))

set_option maxHeartbeats 4000000 in
set_option maxRecDepth 100000 in
theorem k_X2_swap_0 {N : Nat} {ss : Int32} {ds : Int32} {ti : Nat → Int32} {co : Int32} {obr : Int32} {obj : Int32} {obo : Int32} {obm : Int32} {plo : Nat → Int32} {pch : Nat → Int32} {pbe : Nat → Int32} {pbl : Int32} {dnu : Nat → Int32} {dde : Nat → Int32} {dbo : Int32} {dln : Int32} {dld : Int32} {tba : Nat → Int32} {tal : Nat → Int32} {tro : Int32} {tsc : Int64} {tcl : Nat → Nat → Int64} {rma : Nat → Int32} {Q : (Nat → Int32) → Prop} (C0 : cxM cX2_swap 4 none RX2 wsX2_swap p s m args meth c dC dI cy A) :
    ∀ (x1 : Int32) (x2 : Int32) (oma : Nat → Int32) (H : Heap) (locs : List Loc) (ls : Array Slot) (hm : p_X2_swap N Q x1 x2 oma) (hSt : stC dC dI A s (wC ad cy ss ds ti co oma obr obj obo obm plo pch pbe pbl dnu dde dbo dln dld tba tal tro tsc tcl rma) H locs) (hl : lv_has ls 4 [(0, .ref (ad 3)), (1, .int x1), (2, .int x2)]) (hret : ∀ (oma : Nat → Int32) (H : Heap) (locs : List Loc) (ls : Array Slot) (pc : Nat), decode cX2_swap pc = .ok (.return_, 1) → stC dC dI A s (wC ad cy ss ds ti co oma obr obj obo obm plo pch pbe pbl dnu dde dbo dln dld tba tal tro tsc tcl rma) H locs → Q oma → W p l e rmX2_swap s m args below meth c H locs 0 0 Z (F0 m pc ls [])), W p l e rmX2_swap s m args below meth c H locs 0 0 Z (F0 m 0 ls []) := by
  obtain ⟨hx, hb, hml, hr, hown, hts, hlocks, hK, hA, hN⟩ := id C0
  intro x1 x2 oma H locs ls hm hSt hl hret
  obtain ⟨hP, hD, hS⟩ := hSt
  unfold p_X2_swap at hm
  refine lv_iload_n hx hb dX2_swap_0 rfl (lv_at hl 1 rfl) ?_
  refine lv_if_lt (tgt := 46) hx hb dX2_swap_1 (by decide) (fun c_1 => ?_) (fun c_1 => ?_)
  · have hm := hm.1 c_1
    exact hret oma H locs ls 46 dX2_swap_46 ⟨hP, hD, hS⟩ hm
  · have hm := hm.2 c_1
    refine lv_iload_n hx hb dX2_swap_4 rfl (lv_at hl 1 rfl) ?_
    refine lv_bipush (v := 7) hx hb dX2_swap_5 (by decide) ?_
    refine lv_icmp_ge (tgt := 46) hx hb dX2_swap_7 (by decide) (fun c_2 => ?_) (fun c_2 => ?_)
    · have hm := hm.1 c_2
      exact hret oma H locs ls 46 dX2_swap_46 ⟨hP, hD, hS⟩ hm
    · have hm := hm.2 c_2
      refine lv_iload_n hx hb dX2_swap_10 rfl (lv_at hl 2 rfl) ?_
      refine lv_if_lt (tgt := 46) hx hb dX2_swap_11 (by decide) (fun c_3 => ?_) (fun c_3 => ?_)
      · have hm := hm.1 c_3
        exact hret oma H locs ls 46 dX2_swap_46 ⟨hP, hD, hS⟩ hm
      · have hm := hm.2 c_3
        refine lv_iload_n hx hb dX2_swap_14 rfl (lv_at hl 2 rfl) ?_
        refine lv_bipush (v := 7) hx hb dX2_swap_15 (by decide) ?_
        refine lv_icmp_ge (tgt := 46) hx hb dX2_swap_17 (by decide) (fun c_4 => ?_) (fun c_4 => ?_)
        · have hm := hm.1 c_4
          exact hret oma H locs ls 46 dX2_swap_46 ⟨hP, hD, hS⟩ hm
        · have hm := hm.2 c_4
          refine lv_aload_n hx hb dX2_swap_20 rfl (lv_at hl 0 rfl) ?_
          refine va_get (D := (dC, dI)) (ci := 2) (v := .ref (ad 4)) (C := RX2) (T := TX2) (N := 5) hx hb hts in_X2_swap_X2 hown hK hP 3 rfl rfl 0 (by decide) (hts _ fl_X2_swap_9) (fun _ h9 => h9) rfl dX2_swap_21 ?_
          refine lv_iload_n hx hb dX2_swap_24 rfl (lv_at hl 1 rfl) ?_
          have hi_5 := hm.1
          have hm := hm.2
          refine va_iald hx hb hK hP 4 0 rfl rfl hi_5 dX2_swap_25 ?_
          refine lv_topi (fun x3_6 ex3_6 => ?_)
          have hm := hm x3_6 ex3_6
          refine lv_istore_n (lv' := [(3, .int x3_6), (0, .ref (ad 3)), (1, .int x1), (2, .int x2)]) hx hb dX2_swap_26 rfl hl (by decide) rfl (fun ls hl => ?_)
          refine lv_aload_n hx hb dX2_swap_27 rfl (lv_at hl 1 rfl) ?_
          refine va_get (D := (dC, dI)) (ci := 2) (v := .ref (ad 4)) (C := RX2) (T := TX2) (N := 5) hx hb hts in_X2_swap_X2 hown hK hP 3 rfl rfl 0 (by decide) (hts _ fl_X2_swap_9) (fun _ h9 => h9) rfl dX2_swap_28 ?_
          refine lv_iload_n hx hb dX2_swap_31 rfl (lv_at hl 2 rfl) ?_
          refine lv_aload_n hx hb dX2_swap_32 rfl (lv_at hl 1 rfl) ?_
          refine va_get (D := (dC, dI)) (ci := 2) (v := .ref (ad 4)) (C := RX2) (T := TX2) (N := 5) hx hb hts in_X2_swap_X2 hown hK hP 3 rfl rfl 0 (by decide) (hts _ fl_X2_swap_9) (fun _ h9 => h9) rfl dX2_swap_33 ?_
          refine lv_iload_n hx hb dX2_swap_36 rfl (lv_at hl 3 rfl) ?_
          have hi_7 := hm.1
          have hm := hm.2
          refine va_iald hx hb hK hP 4 0 rfl rfl hi_7 dX2_swap_37 ?_
          refine lv_topi (fun f_8 ef_8 => ?_)
          have hm := hm f_8 ef_8
          have hi_9 := hm.1
          have hm := hm.2
          refine va_iast hx hb hK hP hD hS 4 0 rfl rfl hi_9 dX2_swap_38 (fun H locs hP hD hS => ?_)
          have hP : va_P (dC, dI) vwCl (wC ad cy ss ds ti co (upd oma (x1).toNatClampNeg f_8) obr obj obo obm plo pch pbe pbl dnu dde dbo dln dld tba tal tro tsc tcl rma) H := hP
          have hD : va_D A (wC ad cy ss ds ti co (upd oma (x1).toNatClampNeg f_8) obr obj obo obm plo pch pbe pbl dnu dde dbo dln dld tba tal tro tsc tcl rma) := hD
          refine lv_aload_n hx hb dX2_swap_39 rfl (lv_at hl 1 rfl) ?_
          refine va_get (D := (dC, dI)) (ci := 2) (v := .ref (ad 4)) (C := RX2) (T := TX2) (N := 5) hx hb hts in_X2_swap_X2 hown hK hP 3 rfl rfl 0 (by decide) (hts _ fl_X2_swap_9) (fun _ h9 => h9) rfl dX2_swap_40 ?_
          refine lv_iload_n hx hb dX2_swap_43 rfl (lv_at hl 3 rfl) ?_
          refine lv_iload_n hx hb dX2_swap_44 rfl (lv_at hl 0 rfl) ?_
          have hi_10 := hm.1
          have hm := hm.2
          refine va_iast hx hb hK hP hD hS 4 0 rfl rfl hi_10 dX2_swap_45 (fun H locs hP hD hS => ?_)
          have hP : va_P (dC, dI) vwCl (wC ad cy ss ds ti co (upd (upd oma (x1).toNatClampNeg f_8) (x2).toNatClampNeg x3_6) obr obj obo obm plo pch pbe pbl dnu dde dbo dln dld tba tal tro tsc tcl rma) H := hP
          have hD : va_D A (wC ad cy ss ds ti co (upd (upd oma (x1).toNatClampNeg f_8) (x2).toNatClampNeg x3_6) obr obj obo obm plo pch pbe pbl dnu dde dbo dln dld tba tal tro tsc tcl rma) := hD
          exact hret (upd (upd oma (x1).toNatClampNeg f_8) (x2).toNatClampNeg x3_6) H locs ls 46 dX2_swap_46 ⟨hP, hD, hS⟩ hm

set_option maxHeartbeats 4000000 in
set_option maxRecDepth 100000 in
theorem c_X2_swap (l : Launch) (dC : Nat → ClassId) (dI : Nat → Nat → Nat) (cy : Nat → ClassId) (ad : Nat → Nat) (sz : Nat) (ss : Int32) (ds : Int32) (ti : Nat → Int32) (co : Int32) (oma : Nat → Int32) (obr : Int32) (obj : Int32) (obo : Int32) (obm : Int32) (plo : Nat → Int32) (pch : Nat → Int32) (pbe : Nat → Int32) (pbl : Int32) (dnu : Nat → Int32) (dde : Nat → Int32) (dbo : Int32) (dln : Int32) (dld : Int32) (tba : Nat → Int32) (tal : Nat → Int32) (tro : Int32) (tsc : Int64) (tcl : Nat → Nat → Int64) (rma : Nat → Int32) (x1 : Int32) (x2 : Int32) (N : Nat) (Q : (Nat → Int32) → Prop) (hm : p_X2_swap N Q x1 x2 oma) : Met l yX2_swap wsX2_swap rmX2_swap (va_Pc [.ref (ad 3), .int x1, .int x2] (cPre dC dI cy (wC ad cy ss ds ti co oma obr obj obo obm plo pch pbe pbl dnu dde dbo dln dld tba tal tro tsc tcl rma) sz)) (va_Qv (fun (u : (Nat → Int32)) => Q u) (fun u t => cPost dC dI cy (wC ad cy ss ds ti co oma obr obj obo obm plo pch pbe pbl dnu dde dbo dln dld tba tal tro tsc tcl rma) sz (wC ad cy ss ds ti co u obr obj obo obm plo pch pbe pbl dnu dde dbo dln dld tba tal tro tsc tcl rma) t) (va_A (wC ad cy ss ds ti co oma obr obj obo obm plo pch pbe pbl dnu dde dbo dln dld tba tal tro tsc tcl rma) sz)) 0 0 (va_A (wC ad cy ss ds ti co oma obr obj obo obm plo pch pbe pbl dnu dde dbo dln dld tba tal tro tsc tcl rma) sz) := by
  refine Met.ofW (cc := cX2_swap) (maxL := 4) (ret := none) (by decide) rfl ?_
  intro p e s m args below meth c s₁ B hml hv
  obtain ⟨rfl, hsz, hP, hK, hD0, hN⟩ := hv
  have hts := atoms_spec (ws := wsX2_swap) B.pre
  have hown : s.vm.findClass RX2 = some m.cls := findClass_of_methodNamed B.named
  subst hsz
  have hD := hD0.self (sz := s.heap.size)
  generalize hAe : va_A (wC ad cy ss ds ti co oma obr obj obo obm plo pch pbe pbl dnu dde dbo dln dld tba tal tro tsc tcl rma) s.heap.size = A at hD ⊢
  have hA : ∀ q : Nat, s.heap.size ≤ q → A q := fun q h => by rw [← hAe]; exact Or.inr h
  have hl := lv_entry ([.ref (ad 3), .int x1, .int x2]) (n := 4) (Nat.le_of_ble_eq_true rfl)
  rw [lg_entry_eq]
  generalize (lg_sl ([.ref (ad 3), .int x1, .int x2]) ++ List.replicate (4 - (lg_sl ([.ref (ad 3), .int x1, .int x2])).length) Slot.unset).toArray = ls at hl ⊢
  have hl : lv_has ls 4 [(0, .ref (ad 3)), (1, .int x1), (2, .int x2)] := hl
  exact k_X2_swap_0 ⟨B.exec, B.bytes, hml, B.returns, hown, hts, B.notSynchronized, hK, hA, hN⟩ x1 x2 oma s.heap [] ls hm ⟨hP, hD, va_S.rf⟩ (lv_sub hl [0, 1, 2] rfl) (fun oma H locs ls pc hdg hSt hq => W.vret B.exec B.bytes B.returns (fun t ht hW => ⟨⟨(oma), rfl, hq, cPost_of hAe ht hW.alike hSt hK⟩, hSt.2.2.F ht⟩) hSt.2.2.2.2 hdg B.notSynchronized)

-- ===== X2_meetMoves
theorem fl_X2_meetMoves_9 : Cond.fieldLink RX2 9 "UnlikeUnion$OwnPlan" "machineOf" "[I" ∈ wsX2_meetMoves := by decide +kernel
theorem in_X2_meetMoves_X2 : ∀ w ∈ u_ws RX2 TX2 5, w ∈ wsX2_meetMoves := by decide +kernel
abbrev rmX2_meetMoves : Room := { frames := 4, cells := 0, slots := 0, locals := 316 }
def p_X2_meetMoves_10 (N : Nat) (ti : Nat → Int32) (co : Int32) (Q : (Nat → Int32) → Int32 → Int32 → Int32 → Int32 → Prop) : Nat → Int32 → Int32 → Int32 → (Nat → Int32) → Int32 → Int32 → Int32 → Int32 → Prop
  | 0 => fun _ _ _ _ _ _ _ _ => False
  | n + 1 => fun x2 x3 x4 oma obr obj obo obm => ((3 : Int32) ≤ x4 → (vp_in x2 7 ∧ (Q (upd oma (x2).toNatClampNeg x3) obr obj obo obm))) ∧ (¬ (3 : Int32) ≤ x4 → ((x4 = x3 → (∀ x4_4 : Int32, x4_4 = x4 + (1 : Int32) → (p_X2_meetMoves_10 N ti co Q n x2 x3 x4_4 oma obr obj obo obm))) ∧ (¬ x4 = x3 → (p_X1_timeOn N ti co (fun r_5 => (r_5 ≤ 0 → (∀ x4_7 : Int32, x4_7 = x4 + (1 : Int32) → (p_X2_meetMoves_10 N ti co Q n x2 x3 x4_7 oma obr obj obo obm))) ∧ (¬ r_5 ≤ 0 → (vp_in x2 7 ∧ (p_X2_rank N ti co (upd oma (x2).toNatClampNeg x4) (fun r_9 => p_X2_meet N (fun obr_10 obj_11 obo_12 obm_13 => ∀ x4_14 : Int32, x4_14 = x4 + (1 : Int32) → (p_X2_meetMoves_10 N ti co Q n x2 x3 x4_14 (upd oma (x2).toNatClampNeg x4) obr_10 obj_11 obo_12 obm_13)) r_9 x2 (-1 : Int32) x4 obr obj obo obm) )))) x2 x4))))

def p_X2_meetMoves (N : Nat) (ti : Nat → Int32) (co : Int32) (Q : (Nat → Int32) → Int32 → Int32 → Int32 → Int32 → Prop) (x2 : Int32) (oma : Nat → Int32) (obr : Int32) (obj : Int32) (obo : Int32) (obm : Int32) : Prop :=
  vp_in x2 7 ∧ (∀ x3_2 : Int32, x3_2 = oma (x2).toNatClampNeg → (p_X2_meetMoves_10 N ti co Q N x2 x3_2 (0 : Int32) oma obr obj obo obm))

set_option maxHeartbeats 4000000 in
set_option maxRecDepth 100000 in
theorem k_X2_meetMoves_10 {N : Nat} {ss : Int32} {ds : Int32} {ti : Nat → Int32} {co : Int32} {plo : Nat → Int32} {pch : Nat → Int32} {pbe : Nat → Int32} {pbl : Int32} {dnu : Nat → Int32} {dde : Nat → Int32} {dbo : Int32} {dln : Int32} {dld : Int32} {tba : Nat → Int32} {tal : Nat → Int32} {tro : Int32} {tsc : Int64} {tcl : Nat → Nat → Int64} {rma : Nat → Int32} {Q : (Nat → Int32) → Int32 → Int32 → Int32 → Int32 → Prop} (C0 : cxM cX2_meetMoves 5 none RX2 wsX2_meetMoves p s m args meth c dC dI cy A) :
    ∀ (n : Nat) (x2 : Int32) (x3 : Int32) (x4 : Int32) (oma : Nat → Int32) (obr : Int32) (obj : Int32) (obo : Int32) (obm : Int32) (H : Heap) (locs : List Loc) (ls : Array Slot) (hm : p_X2_meetMoves_10 N ti co Q n x2 x3 x4 oma obr obj obo obm) (hSt : stC dC dI A s (wC ad cy ss ds ti co oma obr obj obo obm plo pch pbe pbl dnu dde dbo dln dld tba tal tro tsc tcl rma) H locs) (hl : lv_has ls 5 [(0, .ref (ad 3)), (1, .ref (ad 1)), (2, .int x2), (3, .int x3), (4, .int x4)]) (hret : ∀ (oma : Nat → Int32) (obr : Int32) (obj : Int32) (obo : Int32) (obm : Int32) (H : Heap) (locs : List Loc) (ls : Array Slot) (pc : Nat), decode cX2_meetMoves pc = .ok (.return_, 1) → stC dC dI A s (wC ad cy ss ds ti co oma obr obj obo obm plo pch pbe pbl dnu dde dbo dln dld tba tal tro tsc tcl rma) H locs → Q oma obr obj obo obm → W p l e rmX2_meetMoves s m args below meth c H locs 0 0 Z (F0 m pc ls [])), W p l e rmX2_meetMoves s m args below meth c H locs 0 0 Z (F0 m 10 ls []) := by
  obtain ⟨hx, hb, hml, hr, hown, hts, hlocks, hK, hA, hN⟩ := id C0
  intro n
  induction n with
  | zero => intro x2 x3 x4 oma obr obj obo obm H locs ls hm; exact False.elim hm
  | succ n ih =>
    intro x2 x3 x4 oma obr obj obo obm H locs ls hm hSt hl hret
    obtain ⟨hP, hD, hS⟩ := hSt
    unfold p_X2_meetMoves_10 at hm
    refine lv_iload hx hb dX2_meetMoves_10 (lv_at hl 4 rfl) ?_
    refine lv_iconst (v := 3) hx hb dX2_meetMoves_12 (by decide) ?_
    refine lv_icmp_ge (tgt := 59) hx hb dX2_meetMoves_13 (by decide) (fun c_1 => ?_) (fun c_1 => ?_)
    · have hm := hm.1 c_1
      refine lv_aload_n hx hb dX2_meetMoves_59 rfl (lv_at hl 0 rfl) ?_
      refine va_get (D := (dC, dI)) (ci := 2) (v := .ref (ad 4)) (C := RX2) (T := TX2) (N := 5) hx hb hts in_X2_meetMoves_X2 hown hK hP 3 rfl rfl 0 (by decide) (hts _ fl_X2_meetMoves_9) (fun _ h9 => h9) rfl dX2_meetMoves_60 ?_
      refine lv_iload_n hx hb dX2_meetMoves_63 rfl (lv_at hl 2 rfl) ?_
      refine lv_iload_n hx hb dX2_meetMoves_64 rfl (lv_at hl 3 rfl) ?_
      have hi_2 := hm.1
      have hm := hm.2
      refine va_iast hx hb hK hP hD hS 4 0 rfl rfl hi_2 dX2_meetMoves_65 (fun H locs hP hD hS => ?_)
      have hP : va_P (dC, dI) vwCl (wC ad cy ss ds ti co (upd oma (x2).toNatClampNeg x3) obr obj obo obm plo pch pbe pbl dnu dde dbo dln dld tba tal tro tsc tcl rma) H := hP
      have hD : va_D A (wC ad cy ss ds ti co (upd oma (x2).toNatClampNeg x3) obr obj obo obm plo pch pbe pbl dnu dde dbo dln dld tba tal tro tsc tcl rma) := hD
      exact hret (upd oma (x2).toNatClampNeg x3) obr obj obo obm H locs ls 66 dX2_meetMoves_66 ⟨hP, hD, hS⟩ hm
    · have hm := hm.2 c_1
      refine lv_iload hx hb dX2_meetMoves_16 (lv_at hl 4 rfl) ?_
      refine lv_iload_n hx hb dX2_meetMoves_18 rfl (lv_at hl 3 rfl) ?_
      refine lv_icmp_eq (tgt := 53) hx hb dX2_meetMoves_19 (by decide) (fun c_3 => ?_) (fun c_3 => ?_)
      · have hm := hm.1 c_3
        obtain ⟨x4_4, ex4_4⟩ : ∃ y : Int32, y = x4 + (1 : Int32) := ⟨_, rfl⟩
        have hm := hm x4_4 ex4_4
        refine lv_iinc (v := x4_4) (lv' := [(4, .int x4_4), (0, .ref (ad 3)), (1, .ref (ad 1)), (2, .int x2), (3, .int x3)]) hx hb dX2_meetMoves_53 hl (k := 4) rfl (by rw [ex4_4]; rfl) (by decide) rfl (fun ls hl => ?_)
        refine lv_goto (tgt := 10) hx hb dX2_meetMoves_56 (by decide) ?_
        exact ih x2 x3 x4_4 oma obr obj obo obm H locs ls hm ⟨hP, hD, hS⟩ (lv_sub hl [1, 2, 3, 4, 0] rfl) hret
      · have hm := hm.2 c_3
        refine lv_aload_n hx hb dX2_meetMoves_22 rfl (lv_at hl 1 rfl) ?_
        refine lv_iload_n hx hb dX2_meetMoves_23 rfl (lv_at hl 2 rfl) ?_
        refine lv_iload hx hb dX2_meetMoves_24 (lv_at hl 4 rfl) ?_
        have hFc := va_freeSame hD hS hA
        refine va_calli (va_runV (As := [.int x2, .int x4]) (rest := []) ⟨hx, hb, hml, hown, hts⟩ (c_X1_timeOn l dC dI cy ad H.size ss ds ti co oma obr obj obo obm plo pch pbe pbl dnu dde dbo dln dld tba tal tro tsc tcl rma x2 x4 _ _ hm) (cwV 2 hts gX2_meetMoves_X1_timeOn rfl rfl rfl (by decide +kernel) ⟨Nat.le_of_ble_eq_true rfl, Nat.le_of_ble_eq_true rfl⟩) ⟨cPre_blind, va_recv hK hP (ci := 1) (q0 := 1) rfl rfl, fun U hU hW => ⟨rfl, cPre_at hP hK hD hN hU hW⟩⟩ rfl rfl hl.1 rfl (lv_room (Nat.le_of_ble_eq_true rfl)) dX2_meetMoves_26 ⟨Nat.zero_le _, Nat.zero_le _⟩) hS (fun q _ h => hFc q h) hFc (fun r_5 u t H locs ht hvm hw hB hz1 hk1 hS => ?_)
        try dsimp only at hw
        have hm := hw
        have hP : va_P (dC, dI) vwCl (wC ad cy ss ds ti co oma obr obj obo obm plo pch pbe pbl dnu dde dbo dln dld tba tal tro tsc tcl rma) H := cPost_P ht hB
        have hD : va_D A (wC ad cy ss ds ti co oma obr obj obo obm plo pch pbe pbl dnu dde dbo dln dld tba tal tro tsc tcl rma) := cPost_D hFc hB
        refine lv_if_le (tgt := 53) hx hb dX2_meetMoves_29 (by decide) (fun c_6 => ?_) (fun c_6 => ?_)
        · have hm := hm.1 c_6
          obtain ⟨x4_7, ex4_7⟩ : ∃ y : Int32, y = x4 + (1 : Int32) := ⟨_, rfl⟩
          have hm := hm x4_7 ex4_7
          refine lv_iinc (v := x4_7) (lv' := [(4, .int x4_7), (0, .ref (ad 3)), (1, .ref (ad 1)), (2, .int x2), (3, .int x3)]) hx hb dX2_meetMoves_53 hl (k := 4) rfl (by rw [ex4_7]; rfl) (by decide) rfl (fun ls hl => ?_)
          refine lv_goto (tgt := 10) hx hb dX2_meetMoves_56 (by decide) ?_
          exact ih x2 x3 x4_7 oma obr obj obo obm H locs ls hm ⟨hP, hD, hS⟩ (lv_sub hl [1, 2, 3, 4, 0] rfl) hret
        · have hm := hm.2 c_6
          refine lv_aload_n hx hb dX2_meetMoves_32 rfl (lv_at hl 0 rfl) ?_
          refine va_get (D := (dC, dI)) (ci := 2) (v := .ref (ad 4)) (C := RX2) (T := TX2) (N := 5) hx hb hts in_X2_meetMoves_X2 hown hK hP 3 rfl rfl 0 (by decide) (hts _ fl_X2_meetMoves_9) (fun _ h9 => h9) rfl dX2_meetMoves_33 ?_
          refine lv_iload_n hx hb dX2_meetMoves_36 rfl (lv_at hl 2 rfl) ?_
          refine lv_iload hx hb dX2_meetMoves_37 (lv_at hl 4 rfl) ?_
          have hi_8 := hm.1
          have hm := hm.2
          refine va_iast hx hb hK hP hD hS 4 0 rfl rfl hi_8 dX2_meetMoves_39 (fun H locs hP hD hS => ?_)
          have hP : va_P (dC, dI) vwCl (wC ad cy ss ds ti co (upd oma (x2).toNatClampNeg x4) obr obj obo obm plo pch pbe pbl dnu dde dbo dln dld tba tal tro tsc tcl rma) H := hP
          have hD : va_D A (wC ad cy ss ds ti co (upd oma (x2).toNatClampNeg x4) obr obj obo obm plo pch pbe pbl dnu dde dbo dln dld tba tal tro tsc tcl rma) := hD
          refine lv_aload_n hx hb dX2_meetMoves_40 rfl (lv_at hl 0 rfl) ?_
          refine lv_aload_n hx hb dX2_meetMoves_41 rfl (lv_at hl 0 rfl) ?_
          refine lv_aload_n hx hb dX2_meetMoves_42 rfl (lv_at hl 1 rfl) ?_
          have hFc := va_freeSame hD hS hA
          refine va_calli (va_runV (As := [.ref (ad 1)]) (rest := [.ref (ad 3)]) ⟨hx, hb, hml, hown, hts⟩ (c_X2_rank l dC dI cy ad H.size ss ds ti co (upd oma (x2).toNatClampNeg x4) obr obj obo obm plo pch pbe pbl dnu dde dbo dln dld tba tal tro tsc tcl rma  _ _ hm) (cwV 1 hts gX2_meetMoves_X2_rank rfl rfl rfl (by decide +kernel) ⟨Nat.le_of_ble_eq_true rfl, Nat.le_of_ble_eq_true rfl⟩) ⟨cPre_blind, va_recv hK hP (ci := 2) (q0 := 3) rfl rfl, fun U hU hW => ⟨rfl, cPre_at hP hK hD hN hU hW⟩⟩ rfl rfl hl.1 rfl (lv_room (Nat.le_of_ble_eq_true rfl)) dX2_meetMoves_43 ⟨Nat.zero_le _, Nat.zero_le _⟩) hS (fun q _ h => hFc q h) hFc (fun r_9 u t H locs ht hvm hw hB hz1 hk1 hS => ?_)
          try dsimp only at hw
          have hm := hw
          have hP : va_P (dC, dI) vwCl (wC ad cy ss ds ti co (upd oma (x2).toNatClampNeg x4) obr obj obo obm plo pch pbe pbl dnu dde dbo dln dld tba tal tro tsc tcl rma) H := cPost_P ht hB
          have hD : va_D A (wC ad cy ss ds ti co (upd oma (x2).toNatClampNeg x4) obr obj obo obm plo pch pbe pbl dnu dde dbo dln dld tba tal tro tsc tcl rma) := cPost_D hFc hB
          refine lv_iload_n hx hb dX2_meetMoves_46 rfl (lv_at hl 2 rfl) ?_
          refine lv_iconst (v := -1) hx hb dX2_meetMoves_47 (by decide) ?_
          refine lv_iload hx hb dX2_meetMoves_48 (lv_at hl 4 rfl) ?_
          have hFc := va_freeSame hD hS hA
          refine va_callv (va_runV (As := [.int r_9, .int x2, .int (-1 : Int32), .int x4]) (rest := []) ⟨hx, hb, hml, hown, hts⟩ (c_X2_meet l dC dI cy ad H.size ss ds ti co (upd oma (x2).toNatClampNeg x4) obr obj obo obm plo pch pbe pbl dnu dde dbo dln dld tba tal tro tsc tcl rma r_9 x2 (-1 : Int32) x4 _ _ hm) (cwV 4 hts gX2_meetMoves_X2_meet rfl rfl rfl (by decide +kernel) ⟨Nat.le_of_ble_eq_true rfl, Nat.le_of_ble_eq_true rfl⟩) ⟨cPre_blind, va_recv hK hP (ci := 2) (q0 := 3) rfl rfl, fun U hU hW => ⟨rfl, cPre_at hP hK hD hN hU hW⟩⟩ rfl rfl hl.1 rfl (lv_room (Nat.le_of_ble_eq_true rfl)) dX2_meetMoves_50 ⟨Nat.zero_le _, Nat.zero_le _⟩) hS (fun q _ h => hFc q h) hFc (fun u t H locs ht hvm hw hB hz1 hk1 hS => ?_)
          obtain ⟨obr_10, obj_11, obo_12, obm_13⟩ := u
          try dsimp only at hw
          have hm := hw
          have hP : va_P (dC, dI) vwCl (wC ad cy ss ds ti co (upd oma (x2).toNatClampNeg x4) obr_10 obj_11 obo_12 obm_13 plo pch pbe pbl dnu dde dbo dln dld tba tal tro tsc tcl rma) H := cPost_P ht hB
          have hD : va_D A (wC ad cy ss ds ti co (upd oma (x2).toNatClampNeg x4) obr_10 obj_11 obo_12 obm_13 plo pch pbe pbl dnu dde dbo dln dld tba tal tro tsc tcl rma) := cPost_D hFc hB
          obtain ⟨x4_14, ex4_14⟩ : ∃ y : Int32, y = x4 + (1 : Int32) := ⟨_, rfl⟩
          have hm := hm x4_14 ex4_14
          refine lv_iinc (v := x4_14) (lv' := [(4, .int x4_14), (0, .ref (ad 3)), (1, .ref (ad 1)), (2, .int x2), (3, .int x3)]) hx hb dX2_meetMoves_53 hl (k := 4) rfl (by rw [ex4_14]; rfl) (by decide) rfl (fun ls hl => ?_)
          refine lv_goto (tgt := 10) hx hb dX2_meetMoves_56 (by decide) ?_
          exact ih x2 x3 x4_14 (upd oma (x2).toNatClampNeg x4) obr_10 obj_11 obo_12 obm_13 H locs ls hm ⟨hP, hD, hS⟩ (lv_sub hl [1, 2, 3, 4, 0] rfl) hret

set_option maxHeartbeats 4000000 in
set_option maxRecDepth 100000 in
theorem k_X2_meetMoves_0 {N : Nat} {ss : Int32} {ds : Int32} {ti : Nat → Int32} {co : Int32} {plo : Nat → Int32} {pch : Nat → Int32} {pbe : Nat → Int32} {pbl : Int32} {dnu : Nat → Int32} {dde : Nat → Int32} {dbo : Int32} {dln : Int32} {dld : Int32} {tba : Nat → Int32} {tal : Nat → Int32} {tro : Int32} {tsc : Int64} {tcl : Nat → Nat → Int64} {rma : Nat → Int32} {Q : (Nat → Int32) → Int32 → Int32 → Int32 → Int32 → Prop} (C0 : cxM cX2_meetMoves 5 none RX2 wsX2_meetMoves p s m args meth c dC dI cy A) :
    ∀ (x2 : Int32) (oma : Nat → Int32) (obr : Int32) (obj : Int32) (obo : Int32) (obm : Int32) (H : Heap) (locs : List Loc) (ls : Array Slot) (hm : p_X2_meetMoves N ti co Q x2 oma obr obj obo obm) (hSt : stC dC dI A s (wC ad cy ss ds ti co oma obr obj obo obm plo pch pbe pbl dnu dde dbo dln dld tba tal tro tsc tcl rma) H locs) (hl : lv_has ls 5 [(0, .ref (ad 3)), (1, .ref (ad 1)), (2, .int x2)]) (hret : ∀ (oma : Nat → Int32) (obr : Int32) (obj : Int32) (obo : Int32) (obm : Int32) (H : Heap) (locs : List Loc) (ls : Array Slot) (pc : Nat), decode cX2_meetMoves pc = .ok (.return_, 1) → stC dC dI A s (wC ad cy ss ds ti co oma obr obj obo obm plo pch pbe pbl dnu dde dbo dln dld tba tal tro tsc tcl rma) H locs → Q oma obr obj obo obm → W p l e rmX2_meetMoves s m args below meth c H locs 0 0 Z (F0 m pc ls [])), W p l e rmX2_meetMoves s m args below meth c H locs 0 0 Z (F0 m 0 ls []) := by
  obtain ⟨hx, hb, hml, hr, hown, hts, hlocks, hK, hA, hN⟩ := id C0
  intro x2 oma obr obj obo obm H locs ls hm hSt hl hret
  obtain ⟨hP, hD, hS⟩ := hSt
  unfold p_X2_meetMoves at hm
  refine lv_aload_n hx hb dX2_meetMoves_0 rfl (lv_at hl 0 rfl) ?_
  refine va_get (D := (dC, dI)) (ci := 2) (v := .ref (ad 4)) (C := RX2) (T := TX2) (N := 5) hx hb hts in_X2_meetMoves_X2 hown hK hP 3 rfl rfl 0 (by decide) (hts _ fl_X2_meetMoves_9) (fun _ h9 => h9) rfl dX2_meetMoves_1 ?_
  refine lv_iload_n hx hb dX2_meetMoves_4 rfl (lv_at hl 2 rfl) ?_
  have hi_1 := hm.1
  have hm := hm.2
  refine va_iald hx hb hK hP 4 0 rfl rfl hi_1 dX2_meetMoves_5 ?_
  refine lv_topi (fun x3_2 ex3_2 => ?_)
  have hm := hm x3_2 ex3_2
  refine lv_istore_n (lv' := [(3, .int x3_2), (0, .ref (ad 3)), (1, .ref (ad 1)), (2, .int x2)]) hx hb dX2_meetMoves_6 rfl hl (by decide) rfl (fun ls hl => ?_)
  refine lv_iconst (v := 0) hx hb dX2_meetMoves_7 (by decide) ?_
  refine lv_istore (lv' := [(4, .int (0 : Int32)), (3, .int x3_2), (0, .ref (ad 3)), (1, .ref (ad 1)), (2, .int x2)]) hx hb dX2_meetMoves_8 hl (by decide) rfl (fun ls hl => ?_)
  exact k_X2_meetMoves_10 C0 N x2 x3_2 (0 : Int32) oma obr obj obo obm H locs ls hm ⟨hP, hD, hS⟩ (lv_sub hl [2, 3, 4, 1, 0] rfl) hret

set_option maxHeartbeats 4000000 in
set_option maxRecDepth 100000 in
theorem c_X2_meetMoves (l : Launch) (dC : Nat → ClassId) (dI : Nat → Nat → Nat) (cy : Nat → ClassId) (ad : Nat → Nat) (sz : Nat) (ss : Int32) (ds : Int32) (ti : Nat → Int32) (co : Int32) (oma : Nat → Int32) (obr : Int32) (obj : Int32) (obo : Int32) (obm : Int32) (plo : Nat → Int32) (pch : Nat → Int32) (pbe : Nat → Int32) (pbl : Int32) (dnu : Nat → Int32) (dde : Nat → Int32) (dbo : Int32) (dln : Int32) (dld : Int32) (tba : Nat → Int32) (tal : Nat → Int32) (tro : Int32) (tsc : Int64) (tcl : Nat → Nat → Int64) (rma : Nat → Int32) (x2 : Int32) (N : Nat) (Q : (Nat → Int32) → Int32 → Int32 → Int32 → Int32 → Prop) (hm : p_X2_meetMoves N ti co Q x2 oma obr obj obo obm) : Met l yX2_meetMoves wsX2_meetMoves rmX2_meetMoves (va_Pc [.ref (ad 3), .ref (ad 1), .int x2] (cPre dC dI cy (wC ad cy ss ds ti co oma obr obj obo obm plo pch pbe pbl dnu dde dbo dln dld tba tal tro tsc tcl rma) sz)) (va_Qv (fun (u : (Nat → Int32) × Int32 × Int32 × Int32 × Int32) => Q u.1 u.2.1 u.2.2.1 u.2.2.2.1 u.2.2.2.2) (fun u t => cPost dC dI cy (wC ad cy ss ds ti co oma obr obj obo obm plo pch pbe pbl dnu dde dbo dln dld tba tal tro tsc tcl rma) sz (wC ad cy ss ds ti co (u.1) (u.2.1) (u.2.2.1) (u.2.2.2.1) (u.2.2.2.2) plo pch pbe pbl dnu dde dbo dln dld tba tal tro tsc tcl rma) t) (va_A (wC ad cy ss ds ti co oma obr obj obo obm plo pch pbe pbl dnu dde dbo dln dld tba tal tro tsc tcl rma) sz)) 0 0 (va_A (wC ad cy ss ds ti co oma obr obj obo obm plo pch pbe pbl dnu dde dbo dln dld tba tal tro tsc tcl rma) sz) := by
  refine Met.ofW (cc := cX2_meetMoves) (maxL := 5) (ret := none) (by decide) rfl ?_
  intro p e s m args below meth c s₁ B hml hv
  obtain ⟨rfl, hsz, hP, hK, hD0, hN⟩ := hv
  have hts := atoms_spec (ws := wsX2_meetMoves) B.pre
  have hown : s.vm.findClass RX2 = some m.cls := findClass_of_methodNamed B.named
  subst hsz
  have hD := hD0.self (sz := s.heap.size)
  generalize hAe : va_A (wC ad cy ss ds ti co oma obr obj obo obm plo pch pbe pbl dnu dde dbo dln dld tba tal tro tsc tcl rma) s.heap.size = A at hD ⊢
  have hA : ∀ q : Nat, s.heap.size ≤ q → A q := fun q h => by rw [← hAe]; exact Or.inr h
  have hl := lv_entry ([.ref (ad 3), .ref (ad 1), .int x2]) (n := 5) (Nat.le_of_ble_eq_true rfl)
  rw [lg_entry_eq]
  generalize (lg_sl ([.ref (ad 3), .ref (ad 1), .int x2]) ++ List.replicate (5 - (lg_sl ([.ref (ad 3), .ref (ad 1), .int x2])).length) Slot.unset).toArray = ls at hl ⊢
  have hl : lv_has ls 5 [(0, .ref (ad 3)), (1, .ref (ad 1)), (2, .int x2)] := hl
  exact k_X2_meetMoves_0 ⟨B.exec, B.bytes, hml, B.returns, hown, hts, B.notSynchronized, hK, hA, hN⟩ x2 oma obr obj obo obm s.heap [] ls hm ⟨hP, hD, va_S.rf⟩ (lv_sub hl [0, 1, 2] rfl) (fun oma obr obj obo obm H locs ls pc hdg hSt hq => W.vret B.exec B.bytes B.returns (fun t ht hW => ⟨⟨(oma, obr, obj, obo, obm), rfl, hq, cPost_of hAe ht hW.alike hSt hK⟩, hSt.2.2.F ht⟩) hSt.2.2.2.2 hdg B.notSynchronized)

-- ===== X2_meetSwaps
theorem fl_X2_meetSwaps_9 : Cond.fieldLink RX2 9 "UnlikeUnion$OwnPlan" "machineOf" "[I" ∈ wsX2_meetSwaps := by decide +kernel
theorem in_X2_meetSwaps_X1 : ∀ w ∈ u_ws RX1 TX1 2, w ∈ wsX2_meetSwaps := by decide +kernel
theorem in_X2_meetSwaps_X2 : ∀ w ∈ u_ws RX2 TX2 5, w ∈ wsX2_meetSwaps := by decide +kernel
abbrev rmX2_meetSwaps : Room := { frames := 4, cells := 0, slots := 0, locals := 316 }
def p_X2_meetSwaps_4 (N : Nat) (ti : Nat → Int32) (co : Int32) (Q : (Nat → Int32) → Int32 → Int32 → Int32 → Int32 → Prop) : Nat → Int32 → Int32 → (Nat → Int32) → Int32 → Int32 → Int32 → Int32 → Prop
  | 0 => fun _ _ _ _ _ _ _ => False
  | n + 1 => fun x2 x3 oma obr obj obo obm => (co ≤ x3 → (Q oma obr obj obo obm)) ∧ (¬ co ≤ x3 → (((7 : Int32) ≤ x3 → (Q oma obr obj obo obm)) ∧ (¬ (7 : Int32) ≤ x3 → (vp_in x2 7 ∧ (∀ x4_4 : Int32, x4_4 = oma (x2).toNatClampNeg → (vp_in x3 7 ∧ (∀ x5_6 : Int32, x5_6 = oma (x3).toNatClampNeg → ((x4_4 = x5_6 → (∀ x3_8 : Int32, x3_8 = x3 + (1 : Int32) → (p_X2_meetSwaps_4 N ti co Q n x2 x3_8 oma obr obj obo obm))) ∧ (¬ x4_4 = x5_6 → (p_X1_timeOn N ti co (fun r_9 => (r_9 ≤ 0 → (∀ x3_11 : Int32, x3_11 = x3 + (1 : Int32) → (p_X2_meetSwaps_4 N ti co Q n x2 x3_11 oma obr obj obo obm))) ∧ (¬ r_9 ≤ 0 → (p_X1_timeOn N ti co (fun r_12 => (r_12 ≤ 0 → (∀ x3_14 : Int32, x3_14 = x3 + (1 : Int32) → (p_X2_meetSwaps_4 N ti co Q n x2 x3_14 oma obr obj obo obm))) ∧ (¬ r_12 ≤ 0 → (p_X2_swap N (fun oma_15 => p_X2_rank N ti co oma_15 (fun r_16 => p_X2_meet N (fun obr_17 obj_18 obo_19 obm_20 => p_X2_swap N (fun oma_21 => ∀ x3_22 : Int32, x3_22 = x3 + (1 : Int32) → (p_X2_meetSwaps_4 N ti co Q n x2 x3_22 oma_21 obr_17 obj_18 obo_19 obm_20)) x2 x3 oma_15) r_16 x2 x3 (-1 : Int32) obr obj obo obm) ) x2 x3 oma))) x3 x4_4))) x2 x5_6))))))))))

def p_X2_meetSwaps (N : Nat) (ti : Nat → Int32) (co : Int32) (Q : (Nat → Int32) → Int32 → Int32 → Int32 → Int32 → Prop) (x2 : Int32) (oma : Nat → Int32) (obr : Int32) (obj : Int32) (obo : Int32) (obm : Int32) : Prop :=
  ∀ x3_1 : Int32, x3_1 = x2 + (1 : Int32) → (p_X2_meetSwaps_4 N ti co Q N x2 x3_1 oma obr obj obo obm)

set_option maxHeartbeats 4000000 in
set_option maxRecDepth 100000 in
theorem k_X2_meetSwaps_4 {N : Nat} {ss : Int32} {ds : Int32} {ti : Nat → Int32} {co : Int32} {plo : Nat → Int32} {pch : Nat → Int32} {pbe : Nat → Int32} {pbl : Int32} {dnu : Nat → Int32} {dde : Nat → Int32} {dbo : Int32} {dln : Int32} {dld : Int32} {tba : Nat → Int32} {tal : Nat → Int32} {tro : Int32} {tsc : Int64} {tcl : Nat → Nat → Int64} {rma : Nat → Int32} {Q : (Nat → Int32) → Int32 → Int32 → Int32 → Int32 → Prop} (C0 : cxM cX2_meetSwaps 6 none RX2 wsX2_meetSwaps p s m args meth c dC dI cy A) :
    ∀ (n : Nat) (x2 : Int32) (x3 : Int32) (oma : Nat → Int32) (obr : Int32) (obj : Int32) (obo : Int32) (obm : Int32) (H : Heap) (locs : List Loc) (ls : Array Slot) (hm : p_X2_meetSwaps_4 N ti co Q n x2 x3 oma obr obj obo obm) (hSt : stC dC dI A s (wC ad cy ss ds ti co oma obr obj obo obm plo pch pbe pbl dnu dde dbo dln dld tba tal tro tsc tcl rma) H locs) (hl : lv_has ls 6 [(0, .ref (ad 3)), (1, .ref (ad 1)), (2, .int x2), (3, .int x3)]) (hret : ∀ (oma : Nat → Int32) (obr : Int32) (obj : Int32) (obo : Int32) (obm : Int32) (H : Heap) (locs : List Loc) (ls : Array Slot) (pc : Nat), decode cX2_meetSwaps pc = .ok (.return_, 1) → stC dC dI A s (wC ad cy ss ds ti co oma obr obj obo obm plo pch pbe pbl dnu dde dbo dln dld tba tal tro tsc tcl rma) H locs → Q oma obr obj obo obm → W p l e rmX2_meetSwaps s m args below meth c H locs 0 0 Z (F0 m pc ls [])), W p l e rmX2_meetSwaps s m args below meth c H locs 0 0 Z (F0 m 4 ls []) := by
  obtain ⟨hx, hb, hml, hr, hown, hts, hlocks, hK, hA, hN⟩ := id C0
  intro n
  induction n with
  | zero => intro x2 x3 oma obr obj obo obm H locs ls hm; exact False.elim hm
  | succ n ih =>
    intro x2 x3 oma obr obj obo obm H locs ls hm hSt hl hret
    obtain ⟨hP, hD, hS⟩ := hSt
    unfold p_X2_meetSwaps_4 at hm
    refine lv_iload_n hx hb dX2_meetSwaps_4 rfl (lv_at hl 3 rfl) ?_
    refine lv_aload_n hx hb dX2_meetSwaps_5 rfl (lv_at hl 1 rfl) ?_
    refine va_getN (D := (dC, dI)) (ci := 1) (v := .int co) (C := RX1) (T := TX1) (N := 2) hx hb hts in_X2_meetSwaps_X1 hown hK hP 1 rfl rfl 1 (by decide) (va_Nw.use rfl (nw_X2_32 hN)) (fun _ h9 => h9) rfl dX2_meetSwaps_6 ?_
    refine lv_icmp_ge (tgt := 91) hx hb dX2_meetSwaps_9 (by decide) (fun c_1 => ?_) (fun c_1 => ?_)
    · have hm := hm.1 c_1
      exact hret oma obr obj obo obm H locs ls 91 dX2_meetSwaps_91 ⟨hP, hD, hS⟩ hm
    · have hm := hm.2 c_1
      refine lv_iload_n hx hb dX2_meetSwaps_12 rfl (lv_at hl 3 rfl) ?_
      refine lv_bipush (v := 7) hx hb dX2_meetSwaps_13 (by decide) ?_
      refine lv_icmp_ge (tgt := 91) hx hb dX2_meetSwaps_15 (by decide) (fun c_2 => ?_) (fun c_2 => ?_)
      · have hm := hm.1 c_2
        exact hret oma obr obj obo obm H locs ls 91 dX2_meetSwaps_91 ⟨hP, hD, hS⟩ hm
      · have hm := hm.2 c_2
        refine lv_aload_n hx hb dX2_meetSwaps_18 rfl (lv_at hl 0 rfl) ?_
        refine va_get (D := (dC, dI)) (ci := 2) (v := .ref (ad 4)) (C := RX2) (T := TX2) (N := 5) hx hb hts in_X2_meetSwaps_X2 hown hK hP 3 rfl rfl 0 (by decide) (hts _ fl_X2_meetSwaps_9) (fun _ h9 => h9) rfl dX2_meetSwaps_19 ?_
        refine lv_iload_n hx hb dX2_meetSwaps_22 rfl (lv_at hl 2 rfl) ?_
        have hi_3 := hm.1
        have hm := hm.2
        refine va_iald hx hb hK hP 4 0 rfl rfl hi_3 dX2_meetSwaps_23 ?_
        refine lv_topi (fun x4_4 ex4_4 => ?_)
        have hm := hm x4_4 ex4_4
        refine lv_istore (lv' := [(4, .int x4_4), (0, .ref (ad 3)), (1, .ref (ad 1)), (2, .int x2), (3, .int x3)]) hx hb dX2_meetSwaps_24 hl (by decide) rfl (fun ls hl => ?_)
        refine lv_aload_n hx hb dX2_meetSwaps_26 rfl (lv_at hl 1 rfl) ?_
        refine va_get (D := (dC, dI)) (ci := 2) (v := .ref (ad 4)) (C := RX2) (T := TX2) (N := 5) hx hb hts in_X2_meetSwaps_X2 hown hK hP 3 rfl rfl 0 (by decide) (hts _ fl_X2_meetSwaps_9) (fun _ h9 => h9) rfl dX2_meetSwaps_27 ?_
        refine lv_iload_n hx hb dX2_meetSwaps_30 rfl (lv_at hl 4 rfl) ?_
        have hi_5 := hm.1
        have hm := hm.2
        refine va_iald hx hb hK hP 4 0 rfl rfl hi_5 dX2_meetSwaps_31 ?_
        refine lv_topi (fun x5_6 ex5_6 => ?_)
        have hm := hm x5_6 ex5_6
        refine lv_istore (lv' := [(5, .int x5_6), (4, .int x4_4), (0, .ref (ad 3)), (1, .ref (ad 1)), (2, .int x2), (3, .int x3)]) hx hb dX2_meetSwaps_32 hl (by decide) rfl (fun ls hl => ?_)
        refine lv_iload hx hb dX2_meetSwaps_34 (lv_at hl 1 rfl) ?_
        refine lv_iload hx hb dX2_meetSwaps_36 (lv_at hl 0 rfl) ?_
        refine lv_icmp_eq (tgt := 85) hx hb dX2_meetSwaps_38 (by decide) (fun c_7 => ?_) (fun c_7 => ?_)
        · have hm := hm.1 c_7
          obtain ⟨x3_8, ex3_8⟩ : ∃ y : Int32, y = x3 + (1 : Int32) := ⟨_, rfl⟩
          have hm := hm x3_8 ex3_8
          refine lv_iinc (v := x3_8) (lv' := [(3, .int x3_8), (5, .int x5_6), (4, .int x4_4), (0, .ref (ad 3)), (1, .ref (ad 1)), (2, .int x2)]) hx hb dX2_meetSwaps_85 hl (k := 5) rfl (by rw [ex3_8]; rfl) (by decide) rfl (fun ls hl => ?_)
          refine lv_goto (tgt := 4) hx hb dX2_meetSwaps_88 (by decide) ?_
          exact ih x2 x3_8 oma obr obj obo obm H locs ls hm ⟨hP, hD, hS⟩ (lv_sub hl [3, 4, 5, 0] rfl) hret
        · have hm := hm.2 c_7
          refine lv_aload_n hx hb dX2_meetSwaps_41 rfl (lv_at hl 3 rfl) ?_
          refine lv_iload_n hx hb dX2_meetSwaps_42 rfl (lv_at hl 4 rfl) ?_
          refine lv_iload hx hb dX2_meetSwaps_43 (lv_at hl 0 rfl) ?_
          have hFc := va_freeSame hD hS hA
          refine va_calli (va_runV (As := [.int x2, .int x5_6]) (rest := []) ⟨hx, hb, hml, hown, hts⟩ (c_X1_timeOn l dC dI cy ad H.size ss ds ti co oma obr obj obo obm plo pch pbe pbl dnu dde dbo dln dld tba tal tro tsc tcl rma x2 x5_6 _ _ hm) (cwV 2 hts gX2_meetSwaps_X1_timeOn rfl rfl rfl (by decide +kernel) ⟨Nat.le_of_ble_eq_true rfl, Nat.le_of_ble_eq_true rfl⟩) ⟨cPre_blind, va_recv hK hP (ci := 1) (q0 := 1) rfl rfl, fun U hU hW => ⟨rfl, cPre_at hP hK hD hN hU hW⟩⟩ rfl rfl hl.1 rfl (lv_room (Nat.le_of_ble_eq_true rfl)) dX2_meetSwaps_45 ⟨Nat.zero_le _, Nat.zero_le _⟩) hS (fun q _ h => hFc q h) hFc (fun r_9 u t H locs ht hvm hw hB hz1 hk1 hS => ?_)
          try dsimp only at hw
          have hm := hw
          have hP : va_P (dC, dI) vwCl (wC ad cy ss ds ti co oma obr obj obo obm plo pch pbe pbl dnu dde dbo dln dld tba tal tro tsc tcl rma) H := cPost_P ht hB
          have hD : va_D A (wC ad cy ss ds ti co oma obr obj obo obm plo pch pbe pbl dnu dde dbo dln dld tba tal tro tsc tcl rma) := cPost_D hFc hB
          refine lv_if_le (tgt := 85) hx hb dX2_meetSwaps_48 (by decide) (fun c_10 => ?_) (fun c_10 => ?_)
          · have hm := hm.1 c_10
            obtain ⟨x3_11, ex3_11⟩ : ∃ y : Int32, y = x3 + (1 : Int32) := ⟨_, rfl⟩
            have hm := hm x3_11 ex3_11
            refine lv_iinc (v := x3_11) (lv' := [(3, .int x3_11), (5, .int x5_6), (4, .int x4_4), (0, .ref (ad 3)), (1, .ref (ad 1)), (2, .int x2)]) hx hb dX2_meetSwaps_85 hl (k := 5) rfl (by rw [ex3_11]; rfl) (by decide) rfl (fun ls hl => ?_)
            refine lv_goto (tgt := 4) hx hb dX2_meetSwaps_88 (by decide) ?_
            exact ih x2 x3_11 oma obr obj obo obm H locs ls hm ⟨hP, hD, hS⟩ (lv_sub hl [3, 4, 5, 0] rfl) hret
          · have hm := hm.2 c_10
            refine lv_aload_n hx hb dX2_meetSwaps_51 rfl (lv_at hl 3 rfl) ?_
            refine lv_iload_n hx hb dX2_meetSwaps_52 rfl (lv_at hl 5 rfl) ?_
            refine lv_iload hx hb dX2_meetSwaps_53 (lv_at hl 1 rfl) ?_
            have hFc := va_freeSame hD hS hA
            refine va_calli (va_runV (As := [.int x3, .int x4_4]) (rest := []) ⟨hx, hb, hml, hown, hts⟩ (c_X1_timeOn l dC dI cy ad H.size ss ds ti co oma obr obj obo obm plo pch pbe pbl dnu dde dbo dln dld tba tal tro tsc tcl rma x3 x4_4 _ _ hm) (cwV 2 hts gX2_meetSwaps_X1_timeOn rfl rfl rfl (by decide +kernel) ⟨Nat.le_of_ble_eq_true rfl, Nat.le_of_ble_eq_true rfl⟩) ⟨cPre_blind, va_recv hK hP (ci := 1) (q0 := 1) rfl rfl, fun U hU hW => ⟨rfl, cPre_at hP hK hD hN hU hW⟩⟩ rfl rfl hl.1 rfl (lv_room (Nat.le_of_ble_eq_true rfl)) dX2_meetSwaps_55 ⟨Nat.zero_le _, Nat.zero_le _⟩) hS (fun q _ h => hFc q h) hFc (fun r_12 u t H locs ht hvm hw hB hz1 hk1 hS => ?_)
            try dsimp only at hw
            have hm := hw
            have hP : va_P (dC, dI) vwCl (wC ad cy ss ds ti co oma obr obj obo obm plo pch pbe pbl dnu dde dbo dln dld tba tal tro tsc tcl rma) H := cPost_P ht hB
            have hD : va_D A (wC ad cy ss ds ti co oma obr obj obo obm plo pch pbe pbl dnu dde dbo dln dld tba tal tro tsc tcl rma) := cPost_D hFc hB
            refine lv_if_le (tgt := 85) hx hb dX2_meetSwaps_58 (by decide) (fun c_13 => ?_) (fun c_13 => ?_)
            · have hm := hm.1 c_13
              obtain ⟨x3_14, ex3_14⟩ : ∃ y : Int32, y = x3 + (1 : Int32) := ⟨_, rfl⟩
              have hm := hm x3_14 ex3_14
              refine lv_iinc (v := x3_14) (lv' := [(3, .int x3_14), (5, .int x5_6), (4, .int x4_4), (0, .ref (ad 3)), (1, .ref (ad 1)), (2, .int x2)]) hx hb dX2_meetSwaps_85 hl (k := 5) rfl (by rw [ex3_14]; rfl) (by decide) rfl (fun ls hl => ?_)
              refine lv_goto (tgt := 4) hx hb dX2_meetSwaps_88 (by decide) ?_
              exact ih x2 x3_14 oma obr obj obo obm H locs ls hm ⟨hP, hD, hS⟩ (lv_sub hl [3, 4, 5, 0] rfl) hret
            · have hm := hm.2 c_13
              refine lv_aload_n hx hb dX2_meetSwaps_61 rfl (lv_at hl 2 rfl) ?_
              refine lv_iload_n hx hb dX2_meetSwaps_62 rfl (lv_at hl 4 rfl) ?_
              refine lv_iload_n hx hb dX2_meetSwaps_63 rfl (lv_at hl 5 rfl) ?_
              have hFc := va_freeSame hD hS hA
              refine va_callv (va_runV (As := [.int x2, .int x3]) (rest := []) ⟨hx, hb, hml, hown, hts⟩ (c_X2_swap l dC dI cy ad H.size ss ds ti co oma obr obj obo obm plo pch pbe pbl dnu dde dbo dln dld tba tal tro tsc tcl rma x2 x3 _ _ hm) (cwV 2 hts gX2_meetSwaps_X2_swap rfl rfl rfl (by decide +kernel) ⟨Nat.le_of_ble_eq_true rfl, Nat.le_of_ble_eq_true rfl⟩) ⟨cPre_blind, va_recv hK hP (ci := 2) (q0 := 3) rfl rfl, fun U hU hW => ⟨rfl, cPre_at hP hK hD hN hU hW⟩⟩ rfl rfl hl.1 rfl (lv_room (Nat.le_of_ble_eq_true rfl)) dX2_meetSwaps_64 ⟨Nat.zero_le _, Nat.zero_le _⟩) hS (fun q _ h => hFc q h) hFc (fun u t H locs ht hvm hw hB hz1 hk1 hS => ?_)
              obtain ⟨oma_15, rfl⟩ : ∃ z, z = u := ⟨_, rfl⟩
              try dsimp only at hw
              have hm := hw
              have hP : va_P (dC, dI) vwCl (wC ad cy ss ds ti co oma_15 obr obj obo obm plo pch pbe pbl dnu dde dbo dln dld tba tal tro tsc tcl rma) H := cPost_P ht hB
              have hD : va_D A (wC ad cy ss ds ti co oma_15 obr obj obo obm plo pch pbe pbl dnu dde dbo dln dld tba tal tro tsc tcl rma) := cPost_D hFc hB
              refine lv_aload_n hx hb dX2_meetSwaps_67 rfl (lv_at hl 2 rfl) ?_
              refine lv_aload_n hx hb dX2_meetSwaps_68 rfl (lv_at hl 2 rfl) ?_
              refine lv_aload_n hx hb dX2_meetSwaps_69 rfl (lv_at hl 3 rfl) ?_
              have hFc := va_freeSame hD hS hA
              refine va_calli (va_runV (As := [.ref (ad 1)]) (rest := [.ref (ad 3)]) ⟨hx, hb, hml, hown, hts⟩ (c_X2_rank l dC dI cy ad H.size ss ds ti co oma_15 obr obj obo obm plo pch pbe pbl dnu dde dbo dln dld tba tal tro tsc tcl rma  _ _ hm) (cwV 1 hts gX2_meetSwaps_X2_rank rfl rfl rfl (by decide +kernel) ⟨Nat.le_of_ble_eq_true rfl, Nat.le_of_ble_eq_true rfl⟩) ⟨cPre_blind, va_recv hK hP (ci := 2) (q0 := 3) rfl rfl, fun U hU hW => ⟨rfl, cPre_at hP hK hD hN hU hW⟩⟩ rfl rfl hl.1 rfl (lv_room (Nat.le_of_ble_eq_true rfl)) dX2_meetSwaps_70 ⟨Nat.zero_le _, Nat.zero_le _⟩) hS (fun q _ h => hFc q h) hFc (fun r_16 u t H locs ht hvm hw hB hz1 hk1 hS => ?_)
              try dsimp only at hw
              have hm := hw
              have hP : va_P (dC, dI) vwCl (wC ad cy ss ds ti co oma_15 obr obj obo obm plo pch pbe pbl dnu dde dbo dln dld tba tal tro tsc tcl rma) H := cPost_P ht hB
              have hD : va_D A (wC ad cy ss ds ti co oma_15 obr obj obo obm plo pch pbe pbl dnu dde dbo dln dld tba tal tro tsc tcl rma) := cPost_D hFc hB
              refine lv_iload_n hx hb dX2_meetSwaps_73 rfl (lv_at hl 4 rfl) ?_
              refine lv_iload_n hx hb dX2_meetSwaps_74 rfl (lv_at hl 5 rfl) ?_
              refine lv_iconst (v := -1) hx hb dX2_meetSwaps_75 (by decide) ?_
              have hFc := va_freeSame hD hS hA
              refine va_callv (va_runV (As := [.int r_16, .int x2, .int x3, .int (-1 : Int32)]) (rest := []) ⟨hx, hb, hml, hown, hts⟩ (c_X2_meet l dC dI cy ad H.size ss ds ti co oma_15 obr obj obo obm plo pch pbe pbl dnu dde dbo dln dld tba tal tro tsc tcl rma r_16 x2 x3 (-1 : Int32) _ _ hm) (cwV 4 hts gX2_meetSwaps_X2_meet rfl rfl rfl (by decide +kernel) ⟨Nat.le_of_ble_eq_true rfl, Nat.le_of_ble_eq_true rfl⟩) ⟨cPre_blind, va_recv hK hP (ci := 2) (q0 := 3) rfl rfl, fun U hU hW => ⟨rfl, cPre_at hP hK hD hN hU hW⟩⟩ rfl rfl hl.1 rfl (lv_room (Nat.le_of_ble_eq_true rfl)) dX2_meetSwaps_76 ⟨Nat.zero_le _, Nat.zero_le _⟩) hS (fun q _ h => hFc q h) hFc (fun u t H locs ht hvm hw hB hz1 hk1 hS => ?_)
              obtain ⟨obr_17, obj_18, obo_19, obm_20⟩ := u
              try dsimp only at hw
              have hm := hw
              have hP : va_P (dC, dI) vwCl (wC ad cy ss ds ti co oma_15 obr_17 obj_18 obo_19 obm_20 plo pch pbe pbl dnu dde dbo dln dld tba tal tro tsc tcl rma) H := cPost_P ht hB
              have hD : va_D A (wC ad cy ss ds ti co oma_15 obr_17 obj_18 obo_19 obm_20 plo pch pbe pbl dnu dde dbo dln dld tba tal tro tsc tcl rma) := cPost_D hFc hB
              refine lv_aload_n hx hb dX2_meetSwaps_79 rfl (lv_at hl 2 rfl) ?_
              refine lv_iload_n hx hb dX2_meetSwaps_80 rfl (lv_at hl 4 rfl) ?_
              refine lv_iload_n hx hb dX2_meetSwaps_81 rfl (lv_at hl 5 rfl) ?_
              have hFc := va_freeSame hD hS hA
              refine va_callv (va_runV (As := [.int x2, .int x3]) (rest := []) ⟨hx, hb, hml, hown, hts⟩ (c_X2_swap l dC dI cy ad H.size ss ds ti co oma_15 obr_17 obj_18 obo_19 obm_20 plo pch pbe pbl dnu dde dbo dln dld tba tal tro tsc tcl rma x2 x3 _ _ hm) (cwV 2 hts gX2_meetSwaps_X2_swap rfl rfl rfl (by decide +kernel) ⟨Nat.le_of_ble_eq_true rfl, Nat.le_of_ble_eq_true rfl⟩) ⟨cPre_blind, va_recv hK hP (ci := 2) (q0 := 3) rfl rfl, fun U hU hW => ⟨rfl, cPre_at hP hK hD hN hU hW⟩⟩ rfl rfl hl.1 rfl (lv_room (Nat.le_of_ble_eq_true rfl)) dX2_meetSwaps_82 ⟨Nat.zero_le _, Nat.zero_le _⟩) hS (fun q _ h => hFc q h) hFc (fun u t H locs ht hvm hw hB hz1 hk1 hS => ?_)
              obtain ⟨oma_21, rfl⟩ : ∃ z, z = u := ⟨_, rfl⟩
              try dsimp only at hw
              have hm := hw
              have hP : va_P (dC, dI) vwCl (wC ad cy ss ds ti co oma_21 obr_17 obj_18 obo_19 obm_20 plo pch pbe pbl dnu dde dbo dln dld tba tal tro tsc tcl rma) H := cPost_P ht hB
              have hD : va_D A (wC ad cy ss ds ti co oma_21 obr_17 obj_18 obo_19 obm_20 plo pch pbe pbl dnu dde dbo dln dld tba tal tro tsc tcl rma) := cPost_D hFc hB
              obtain ⟨x3_22, ex3_22⟩ : ∃ y : Int32, y = x3 + (1 : Int32) := ⟨_, rfl⟩
              have hm := hm x3_22 ex3_22
              refine lv_iinc (v := x3_22) (lv' := [(3, .int x3_22), (5, .int x5_6), (4, .int x4_4), (0, .ref (ad 3)), (1, .ref (ad 1)), (2, .int x2)]) hx hb dX2_meetSwaps_85 hl (k := 5) rfl (by rw [ex3_22]; rfl) (by decide) rfl (fun ls hl => ?_)
              refine lv_goto (tgt := 4) hx hb dX2_meetSwaps_88 (by decide) ?_
              exact ih x2 x3_22 oma_21 obr_17 obj_18 obo_19 obm_20 H locs ls hm ⟨hP, hD, hS⟩ (lv_sub hl [3, 4, 5, 0] rfl) hret

set_option maxHeartbeats 4000000 in
set_option maxRecDepth 100000 in
theorem k_X2_meetSwaps_0 {N : Nat} {ss : Int32} {ds : Int32} {ti : Nat → Int32} {co : Int32} {plo : Nat → Int32} {pch : Nat → Int32} {pbe : Nat → Int32} {pbl : Int32} {dnu : Nat → Int32} {dde : Nat → Int32} {dbo : Int32} {dln : Int32} {dld : Int32} {tba : Nat → Int32} {tal : Nat → Int32} {tro : Int32} {tsc : Int64} {tcl : Nat → Nat → Int64} {rma : Nat → Int32} {Q : (Nat → Int32) → Int32 → Int32 → Int32 → Int32 → Prop} (C0 : cxM cX2_meetSwaps 6 none RX2 wsX2_meetSwaps p s m args meth c dC dI cy A) :
    ∀ (x2 : Int32) (oma : Nat → Int32) (obr : Int32) (obj : Int32) (obo : Int32) (obm : Int32) (H : Heap) (locs : List Loc) (ls : Array Slot) (hm : p_X2_meetSwaps N ti co Q x2 oma obr obj obo obm) (hSt : stC dC dI A s (wC ad cy ss ds ti co oma obr obj obo obm plo pch pbe pbl dnu dde dbo dln dld tba tal tro tsc tcl rma) H locs) (hl : lv_has ls 6 [(0, .ref (ad 3)), (1, .ref (ad 1)), (2, .int x2)]) (hret : ∀ (oma : Nat → Int32) (obr : Int32) (obj : Int32) (obo : Int32) (obm : Int32) (H : Heap) (locs : List Loc) (ls : Array Slot) (pc : Nat), decode cX2_meetSwaps pc = .ok (.return_, 1) → stC dC dI A s (wC ad cy ss ds ti co oma obr obj obo obm plo pch pbe pbl dnu dde dbo dln dld tba tal tro tsc tcl rma) H locs → Q oma obr obj obo obm → W p l e rmX2_meetSwaps s m args below meth c H locs 0 0 Z (F0 m pc ls [])), W p l e rmX2_meetSwaps s m args below meth c H locs 0 0 Z (F0 m 0 ls []) := by
  obtain ⟨hx, hb, hml, hr, hown, hts, hlocks, hK, hA, hN⟩ := id C0
  intro x2 oma obr obj obo obm H locs ls hm hSt hl hret
  obtain ⟨hP, hD, hS⟩ := hSt
  unfold p_X2_meetSwaps at hm
  refine lv_iload_n hx hb dX2_meetSwaps_0 rfl (lv_at hl 2 rfl) ?_
  refine lv_iconst (v := 1) hx hb dX2_meetSwaps_1 (by decide) ?_
  refine lv_iadd hx hb dX2_meetSwaps_2 ?_
  refine lv_topi (fun x3_1 ex3_1 => ?_)
  have hm := hm x3_1 ex3_1
  refine lv_istore_n (lv' := [(3, .int x3_1), (0, .ref (ad 3)), (1, .ref (ad 1)), (2, .int x2)]) hx hb dX2_meetSwaps_3 rfl hl (by decide) rfl (fun ls hl => ?_)
  exact k_X2_meetSwaps_4 C0 N x2 x3_1 oma obr obj obo obm H locs ls hm ⟨hP, hD, hS⟩ (lv_sub hl [1, 2, 3, 0] rfl) hret

set_option maxHeartbeats 4000000 in
set_option maxRecDepth 100000 in
theorem c_X2_meetSwaps (l : Launch) (dC : Nat → ClassId) (dI : Nat → Nat → Nat) (cy : Nat → ClassId) (ad : Nat → Nat) (sz : Nat) (ss : Int32) (ds : Int32) (ti : Nat → Int32) (co : Int32) (oma : Nat → Int32) (obr : Int32) (obj : Int32) (obo : Int32) (obm : Int32) (plo : Nat → Int32) (pch : Nat → Int32) (pbe : Nat → Int32) (pbl : Int32) (dnu : Nat → Int32) (dde : Nat → Int32) (dbo : Int32) (dln : Int32) (dld : Int32) (tba : Nat → Int32) (tal : Nat → Int32) (tro : Int32) (tsc : Int64) (tcl : Nat → Nat → Int64) (rma : Nat → Int32) (x2 : Int32) (N : Nat) (Q : (Nat → Int32) → Int32 → Int32 → Int32 → Int32 → Prop) (hm : p_X2_meetSwaps N ti co Q x2 oma obr obj obo obm) : Met l yX2_meetSwaps wsX2_meetSwaps rmX2_meetSwaps (va_Pc [.ref (ad 3), .ref (ad 1), .int x2] (cPre dC dI cy (wC ad cy ss ds ti co oma obr obj obo obm plo pch pbe pbl dnu dde dbo dln dld tba tal tro tsc tcl rma) sz)) (va_Qv (fun (u : (Nat → Int32) × Int32 × Int32 × Int32 × Int32) => Q u.1 u.2.1 u.2.2.1 u.2.2.2.1 u.2.2.2.2) (fun u t => cPost dC dI cy (wC ad cy ss ds ti co oma obr obj obo obm plo pch pbe pbl dnu dde dbo dln dld tba tal tro tsc tcl rma) sz (wC ad cy ss ds ti co (u.1) (u.2.1) (u.2.2.1) (u.2.2.2.1) (u.2.2.2.2) plo pch pbe pbl dnu dde dbo dln dld tba tal tro tsc tcl rma) t) (va_A (wC ad cy ss ds ti co oma obr obj obo obm plo pch pbe pbl dnu dde dbo dln dld tba tal tro tsc tcl rma) sz)) 0 0 (va_A (wC ad cy ss ds ti co oma obr obj obo obm plo pch pbe pbl dnu dde dbo dln dld tba tal tro tsc tcl rma) sz) := by
  refine Met.ofW (cc := cX2_meetSwaps) (maxL := 6) (ret := none) (by decide) rfl ?_
  intro p e s m args below meth c s₁ B hml hv
  obtain ⟨rfl, hsz, hP, hK, hD0, hN⟩ := hv
  have hts := atoms_spec (ws := wsX2_meetSwaps) B.pre
  have hown : s.vm.findClass RX2 = some m.cls := findClass_of_methodNamed B.named
  subst hsz
  have hD := hD0.self (sz := s.heap.size)
  generalize hAe : va_A (wC ad cy ss ds ti co oma obr obj obo obm plo pch pbe pbl dnu dde dbo dln dld tba tal tro tsc tcl rma) s.heap.size = A at hD ⊢
  have hA : ∀ q : Nat, s.heap.size ≤ q → A q := fun q h => by rw [← hAe]; exact Or.inr h
  have hl := lv_entry ([.ref (ad 3), .ref (ad 1), .int x2]) (n := 6) (Nat.le_of_ble_eq_true rfl)
  rw [lg_entry_eq]
  generalize (lg_sl ([.ref (ad 3), .ref (ad 1), .int x2]) ++ List.replicate (6 - (lg_sl ([.ref (ad 3), .ref (ad 1), .int x2])).length) Slot.unset).toArray = ls at hl ⊢
  have hl : lv_has ls 6 [(0, .ref (ad 3)), (1, .ref (ad 1)), (2, .int x2)] := hl
  exact k_X2_meetSwaps_0 ⟨B.exec, B.bytes, hml, B.returns, hown, hts, B.notSynchronized, hK, hA, hN⟩ x2 oma obr obj obo obm s.heap [] ls hm ⟨hP, hD, va_S.rf⟩ (lv_sub hl [0, 1, 2] rfl) (fun oma obr obj obo obm H locs ls pc hdg hSt hq => W.vret B.exec B.bytes B.returns (fun t ht hW => ⟨⟨(oma, obr, obj, obo, obm), rfl, hq, cPost_of hAe ht hW.alike hSt hK⟩, hSt.2.2.F ht⟩) hSt.2.2.2.2 hdg B.notSynchronized)

-- ===== X2_makeBestChange
theorem fl_X2_makeBestChange_19 : Cond.fieldLink RX2 19 "UnlikeUnion$OwnPlan" "bestRank" "I" ∈ wsX2_makeBestChange := by decide +kernel
theorem fl_X2_makeBestChange_23 : Cond.fieldLink RX2 23 "UnlikeUnion$OwnPlan" "bestJob" "I" ∈ wsX2_makeBestChange := by decide +kernel
theorem fl_X2_makeBestChange_26 : Cond.fieldLink RX2 26 "UnlikeUnion$OwnPlan" "bestOther" "I" ∈ wsX2_makeBestChange := by decide +kernel
theorem fl_X2_makeBestChange_29 : Cond.fieldLink RX2 29 "UnlikeUnion$OwnPlan" "bestMachine" "I" ∈ wsX2_makeBestChange := by decide +kernel
theorem fl_X2_makeBestChange_9 : Cond.fieldLink RX2 9 "UnlikeUnion$OwnPlan" "machineOf" "[I" ∈ wsX2_makeBestChange := by decide +kernel
theorem in_X2_makeBestChange_X1 : ∀ w ∈ u_ws RX1 TX1 2, w ∈ wsX2_makeBestChange := by decide +kernel
theorem in_X2_makeBestChange_X2 : ∀ w ∈ u_ws RX2 TX2 5, w ∈ wsX2_makeBestChange := by decide +kernel
abbrev rmX2_makeBestChange : Room := { frames := 5, cells := 0, slots := 0, locals := 401 }
def p_X2_makeBestChange_54 (N : Nat) (ti : Nat → Int32) (co : Int32) (Q : Int32 → (Nat → Int32) → Int32 → Int32 → Int32 → Int32 → Prop) : Nat → Int32 → (Nat → Int32) → Int32 → Int32 → Int32 → Int32 → Prop
  | 0 => fun _ _ _ _ _ _ => False
  | n + 1 => fun x2 oma obr obj obo obm => (co ≤ x2 → ((obj < 0 → (Q (0 : Int32) oma obr obj obo obm)) ∧ (¬ obj < 0 → ((obj < (7 : Int32) → ((obo < 0 → (vp_in obj 7 ∧ (Q (1 : Int32) (upd oma (obj).toNatClampNeg obm) obr obj obo obm))) ∧ (¬ obo < 0 → (((7 : Int32) ≤ obo → (vp_in obj 7 ∧ (Q (1 : Int32) (upd oma (obj).toNatClampNeg obm) obr obj obo obm))) ∧ (¬ (7 : Int32) ≤ obo → (p_X2_swap N (fun oma_8 => Q (1 : Int32) oma_8 obr obj obo obm) obj obo oma)))))) ∧ (¬ obj < (7 : Int32) → (Q (0 : Int32) oma obr obj obo obm)))))) ∧ (¬ co ≤ x2 → (((7 : Int32) ≤ x2 → ((obj < 0 → (Q (0 : Int32) oma obr obj obo obm)) ∧ (¬ obj < 0 → ((obj < (7 : Int32) → ((obo < 0 → (vp_in obj 7 ∧ (Q (1 : Int32) (upd oma (obj).toNatClampNeg obm) obr obj obo obm))) ∧ (¬ obo < 0 → (((7 : Int32) ≤ obo → (vp_in obj 7 ∧ (Q (1 : Int32) (upd oma (obj).toNatClampNeg obm) obr obj obo obm))) ∧ (¬ (7 : Int32) ≤ obo → (p_X2_swap N (fun oma_16 => Q (1 : Int32) oma_16 obr obj obo obm) obj obo oma)))))) ∧ (¬ obj < (7 : Int32) → (Q (0 : Int32) oma obr obj obo obm)))))) ∧ (¬ (7 : Int32) ≤ x2 → (p_X2_meetSwaps N ti co (fun oma_17 obr_18 obj_19 obo_20 obm_21 => ∀ x2_22 : Int32, x2_22 = x2 + (1 : Int32) → (p_X2_makeBestChange_54 N ti co Q n x2_22 oma_17 obr_18 obj_19 obo_20 obm_21)) x2 oma obr obj obo obm))))

def p_X2_makeBestChange_26 (N : Nat) (ti : Nat → Int32) (co : Int32) (Q : Int32 → (Nat → Int32) → Int32 → Int32 → Int32 → Int32 → Prop) : Nat → Int32 → (Nat → Int32) → Int32 → Int32 → Int32 → Int32 → Prop
  | 0 => fun _ _ _ _ _ _ => False
  | n + 1 => fun x2 oma obr obj obo obm => (co ≤ x2 → (p_X2_makeBestChange_54 N ti co Q N (0 : Int32) oma obr obj obo obm)) ∧ (¬ co ≤ x2 → (((7 : Int32) ≤ x2 → (p_X2_makeBestChange_54 N ti co Q N (0 : Int32) oma obr obj obo obm)) ∧ (¬ (7 : Int32) ≤ x2 → (p_X2_meetMoves N ti co (fun oma_3 obr_4 obj_5 obo_6 obm_7 => ∀ x2_8 : Int32, x2_8 = x2 + (1 : Int32) → (p_X2_makeBestChange_26 N ti co Q n x2_8 oma_3 obr_4 obj_5 obo_6 obm_7)) x2 oma obr obj obo obm))))

def p_X2_makeBestChange (N : Nat) (ti : Nat → Int32) (co : Int32) (Q : Int32 → (Nat → Int32) → Int32 → Int32 → Int32 → Int32 → Prop) (oma : Nat → Int32) (obr : Int32) (obj : Int32) (obo : Int32) (obm : Int32) : Prop :=
  p_X2_rank N ti co oma (fun r_1 => p_X2_makeBestChange_26 N ti co Q N (0 : Int32) oma r_1 (-1 : Int32) (-1 : Int32) (-1 : Int32)) 

set_option maxHeartbeats 4000000 in
set_option maxRecDepth 100000 in
theorem k_X2_makeBestChange_54 {N : Nat} {ss : Int32} {ds : Int32} {ti : Nat → Int32} {co : Int32} {plo : Nat → Int32} {pch : Nat → Int32} {pbe : Nat → Int32} {pbl : Int32} {dnu : Nat → Int32} {dde : Nat → Int32} {dbo : Int32} {dln : Int32} {dld : Int32} {tba : Nat → Int32} {tal : Nat → Int32} {tro : Int32} {tsc : Int64} {tcl : Nat → Nat → Int64} {rma : Nat → Int32} {Q : Int32 → (Nat → Int32) → Int32 → Int32 → Int32 → Int32 → Prop} (C0 : cxM cX2_makeBestChange 3 (some .boolean) RX2 wsX2_makeBestChange p s m args meth c dC dI cy A) :
    ∀ (n : Nat) (x2 : Int32) (oma : Nat → Int32) (obr : Int32) (obj : Int32) (obo : Int32) (obm : Int32) (H : Heap) (locs : List Loc) (ls : Array Slot) (hm : p_X2_makeBestChange_54 N ti co Q n x2 oma obr obj obo obm) (hSt : stC dC dI A s (wC ad cy ss ds ti co oma obr obj obo obm plo pch pbe pbl dnu dde dbo dln dld tba tal tro tsc tcl rma) H locs) (hl : lv_has ls 3 [(0, .ref (ad 3)), (1, .ref (ad 1)), (2, .int x2)]) (hret : ∀ (r : Int32) (oma : Nat → Int32) (obr : Int32) (obj : Int32) (obo : Int32) (obm : Int32) (H : Heap) (locs : List Loc) (ls : Array Slot) (pc : Nat), decode cX2_makeBestChange pc = .ok (.ireturn, 1) → narrow .boolean (.int r) = .int r → stC dC dI A s (wC ad cy ss ds ti co oma obr obj obo obm plo pch pbe pbl dnu dde dbo dln dld tba tal tro tsc tcl rma) H locs → Q r oma obr obj obo obm → W p l e rmX2_makeBestChange s m args below meth c H locs 0 0 Z (F0 m pc ls [.int r])), W p l e rmX2_makeBestChange s m args below meth c H locs 0 0 Z (F0 m 54 ls []) := by
  obtain ⟨hx, hb, hml, hr, hown, hts, hlocks, hK, hA, hN⟩ := id C0
  intro n
  induction n with
  | zero => intro x2 oma obr obj obo obm H locs ls hm; exact False.elim hm
  | succ n ih =>
    intro x2 oma obr obj obo obm H locs ls hm hSt hl hret
    obtain ⟨hP, hD, hS⟩ := hSt
    unfold p_X2_makeBestChange_54 at hm
    refine lv_iload_n hx hb dX2_makeBestChange_54 rfl (lv_at hl 2 rfl) ?_
    refine lv_aload_n hx hb dX2_makeBestChange_55 rfl (lv_at hl 1 rfl) ?_
    refine va_getN (D := (dC, dI)) (ci := 1) (v := .int co) (C := RX1) (T := TX1) (N := 2) hx hb hts in_X2_makeBestChange_X1 hown hK hP 1 rfl rfl 1 (by decide) (va_Nw.use rfl (nw_X2_32 hN)) (fun _ h9 => h9) rfl dX2_makeBestChange_56 ?_
    refine lv_icmp_ge (tgt := 80) hx hb dX2_makeBestChange_59 (by decide) (fun c_1 => ?_) (fun c_1 => ?_)
    · have hm := hm.1 c_1
      refine lv_aload_n hx hb dX2_makeBestChange_80 rfl (lv_at hl 0 rfl) ?_
      refine va_get (D := (dC, dI)) (ci := 2) (v := .int obj) (C := RX2) (T := TX2) (N := 5) hx hb hts in_X2_makeBestChange_X2 hown hK hP 3 rfl rfl 2 (by decide) (hts _ fl_X2_makeBestChange_23) (fun _ h9 => h9) rfl dX2_makeBestChange_81 ?_
      refine lv_if_lt (tgt := 96) hx hb dX2_makeBestChange_84 (by decide) (fun c_2 => ?_) (fun c_2 => ?_)
      · have hm := hm.1 c_2
        refine lv_iconst (v := 0) hx hb dX2_makeBestChange_96 (by decide) ?_
        exact hret (0 : Int32) oma obr obj obo obm H locs ls 97 dX2_makeBestChange_97 rfl ⟨hP, hD, hS⟩ hm
      · have hm := hm.2 c_2
        refine lv_aload_n hx hb dX2_makeBestChange_87 rfl (lv_at hl 0 rfl) ?_
        refine va_get (D := (dC, dI)) (ci := 2) (v := .int obj) (C := RX2) (T := TX2) (N := 5) hx hb hts in_X2_makeBestChange_X2 hown hK hP 3 rfl rfl 2 (by decide) (hts _ fl_X2_makeBestChange_23) (fun _ h9 => h9) rfl dX2_makeBestChange_88 ?_
        refine lv_bipush (v := 7) hx hb dX2_makeBestChange_91 (by decide) ?_
        refine lv_icmp_lt (tgt := 98) hx hb dX2_makeBestChange_93 (by decide) (fun c_3 => ?_) (fun c_3 => ?_)
        · have hm := hm.1 c_3
          refine lv_aload_n hx hb dX2_makeBestChange_98 rfl (lv_at hl 0 rfl) ?_
          refine va_get (D := (dC, dI)) (ci := 2) (v := .int obo) (C := RX2) (T := TX2) (N := 5) hx hb hts in_X2_makeBestChange_X2 hown hK hP 3 rfl rfl 3 (by decide) (hts _ fl_X2_makeBestChange_26) (fun _ h9 => h9) rfl dX2_makeBestChange_99 ?_
          refine lv_if_lt (tgt := 129) hx hb dX2_makeBestChange_102 (by decide) (fun c_4 => ?_) (fun c_4 => ?_)
          · have hm := hm.1 c_4
            refine lv_aload_n hx hb dX2_makeBestChange_129 rfl (lv_at hl 0 rfl) ?_
            refine va_get (D := (dC, dI)) (ci := 2) (v := .ref (ad 4)) (C := RX2) (T := TX2) (N := 5) hx hb hts in_X2_makeBestChange_X2 hown hK hP 3 rfl rfl 0 (by decide) (hts _ fl_X2_makeBestChange_9) (fun _ h9 => h9) rfl dX2_makeBestChange_130 ?_
            refine lv_aload_n hx hb dX2_makeBestChange_133 rfl (lv_at hl 0 rfl) ?_
            refine va_get (D := (dC, dI)) (ci := 2) (v := .int obj) (C := RX2) (T := TX2) (N := 5) hx hb hts in_X2_makeBestChange_X2 hown hK hP 3 rfl rfl 2 (by decide) (hts _ fl_X2_makeBestChange_23) (fun _ h9 => h9) rfl dX2_makeBestChange_134 ?_
            refine lv_aload_n hx hb dX2_makeBestChange_137 rfl (lv_at hl 0 rfl) ?_
            refine va_get (D := (dC, dI)) (ci := 2) (v := .int obm) (C := RX2) (T := TX2) (N := 5) hx hb hts in_X2_makeBestChange_X2 hown hK hP 3 rfl rfl 4 (by decide) (hts _ fl_X2_makeBestChange_29) (fun _ h9 => h9) rfl dX2_makeBestChange_138 ?_
            have hi_5 := hm.1
            have hm := hm.2
            refine va_iast hx hb hK hP hD hS 4 0 rfl rfl hi_5 dX2_makeBestChange_141 (fun H locs hP hD hS => ?_)
            have hP : va_P (dC, dI) vwCl (wC ad cy ss ds ti co (upd oma (obj).toNatClampNeg obm) obr obj obo obm plo pch pbe pbl dnu dde dbo dln dld tba tal tro tsc tcl rma) H := hP
            have hD : va_D A (wC ad cy ss ds ti co (upd oma (obj).toNatClampNeg obm) obr obj obo obm plo pch pbe pbl dnu dde dbo dln dld tba tal tro tsc tcl rma) := hD
            refine lv_iconst (v := 1) hx hb dX2_makeBestChange_142 (by decide) ?_
            exact hret (1 : Int32) (upd oma (obj).toNatClampNeg obm) obr obj obo obm H locs ls 143 dX2_makeBestChange_143 rfl ⟨hP, hD, hS⟩ hm
          · have hm := hm.2 c_4
            refine lv_aload_n hx hb dX2_makeBestChange_105 rfl (lv_at hl 0 rfl) ?_
            refine va_get (D := (dC, dI)) (ci := 2) (v := .int obo) (C := RX2) (T := TX2) (N := 5) hx hb hts in_X2_makeBestChange_X2 hown hK hP 3 rfl rfl 3 (by decide) (hts _ fl_X2_makeBestChange_26) (fun _ h9 => h9) rfl dX2_makeBestChange_106 ?_
            refine lv_bipush (v := 7) hx hb dX2_makeBestChange_109 (by decide) ?_
            refine lv_icmp_ge (tgt := 129) hx hb dX2_makeBestChange_111 (by decide) (fun c_6 => ?_) (fun c_6 => ?_)
            · have hm := hm.1 c_6
              refine lv_aload_n hx hb dX2_makeBestChange_129 rfl (lv_at hl 0 rfl) ?_
              refine va_get (D := (dC, dI)) (ci := 2) (v := .ref (ad 4)) (C := RX2) (T := TX2) (N := 5) hx hb hts in_X2_makeBestChange_X2 hown hK hP 3 rfl rfl 0 (by decide) (hts _ fl_X2_makeBestChange_9) (fun _ h9 => h9) rfl dX2_makeBestChange_130 ?_
              refine lv_aload_n hx hb dX2_makeBestChange_133 rfl (lv_at hl 0 rfl) ?_
              refine va_get (D := (dC, dI)) (ci := 2) (v := .int obj) (C := RX2) (T := TX2) (N := 5) hx hb hts in_X2_makeBestChange_X2 hown hK hP 3 rfl rfl 2 (by decide) (hts _ fl_X2_makeBestChange_23) (fun _ h9 => h9) rfl dX2_makeBestChange_134 ?_
              refine lv_aload_n hx hb dX2_makeBestChange_137 rfl (lv_at hl 0 rfl) ?_
              refine va_get (D := (dC, dI)) (ci := 2) (v := .int obm) (C := RX2) (T := TX2) (N := 5) hx hb hts in_X2_makeBestChange_X2 hown hK hP 3 rfl rfl 4 (by decide) (hts _ fl_X2_makeBestChange_29) (fun _ h9 => h9) rfl dX2_makeBestChange_138 ?_
              have hi_7 := hm.1
              have hm := hm.2
              refine va_iast hx hb hK hP hD hS 4 0 rfl rfl hi_7 dX2_makeBestChange_141 (fun H locs hP hD hS => ?_)
              have hP : va_P (dC, dI) vwCl (wC ad cy ss ds ti co (upd oma (obj).toNatClampNeg obm) obr obj obo obm plo pch pbe pbl dnu dde dbo dln dld tba tal tro tsc tcl rma) H := hP
              have hD : va_D A (wC ad cy ss ds ti co (upd oma (obj).toNatClampNeg obm) obr obj obo obm plo pch pbe pbl dnu dde dbo dln dld tba tal tro tsc tcl rma) := hD
              refine lv_iconst (v := 1) hx hb dX2_makeBestChange_142 (by decide) ?_
              exact hret (1 : Int32) (upd oma (obj).toNatClampNeg obm) obr obj obo obm H locs ls 143 dX2_makeBestChange_143 rfl ⟨hP, hD, hS⟩ hm
            · have hm := hm.2 c_6
              refine lv_aload_n hx hb dX2_makeBestChange_114 rfl (lv_at hl 0 rfl) ?_
              refine lv_aload_n hx hb dX2_makeBestChange_115 rfl (lv_at hl 0 rfl) ?_
              refine va_get (D := (dC, dI)) (ci := 2) (v := .int obj) (C := RX2) (T := TX2) (N := 5) hx hb hts in_X2_makeBestChange_X2 hown hK hP 3 rfl rfl 2 (by decide) (hts _ fl_X2_makeBestChange_23) (fun _ h9 => h9) rfl dX2_makeBestChange_116 ?_
              refine lv_aload_n hx hb dX2_makeBestChange_119 rfl (lv_at hl 0 rfl) ?_
              refine va_get (D := (dC, dI)) (ci := 2) (v := .int obo) (C := RX2) (T := TX2) (N := 5) hx hb hts in_X2_makeBestChange_X2 hown hK hP 3 rfl rfl 3 (by decide) (hts _ fl_X2_makeBestChange_26) (fun _ h9 => h9) rfl dX2_makeBestChange_120 ?_
              have hFc := va_freeSame hD hS hA
              refine va_callv (va_runV (As := [.int obj, .int obo]) (rest := []) ⟨hx, hb, hml, hown, hts⟩ (c_X2_swap l dC dI cy ad H.size ss ds ti co oma obr obj obo obm plo pch pbe pbl dnu dde dbo dln dld tba tal tro tsc tcl rma obj obo _ _ hm) (cwV 2 hts gX2_makeBestChange_X2_swap rfl rfl rfl (by decide +kernel) ⟨Nat.le_of_ble_eq_true rfl, Nat.le_of_ble_eq_true rfl⟩) ⟨cPre_blind, va_recv hK hP (ci := 2) (q0 := 3) rfl rfl, fun U hU hW => ⟨rfl, cPre_at hP hK hD hN hU hW⟩⟩ rfl rfl hl.1 rfl (lv_room (Nat.le_of_ble_eq_true rfl)) dX2_makeBestChange_123 ⟨Nat.zero_le _, Nat.zero_le _⟩) hS (fun q _ h => hFc q h) hFc (fun u t H locs ht hvm hw hB hz1 hk1 hS => ?_)
              obtain ⟨oma_8, rfl⟩ : ∃ z, z = u := ⟨_, rfl⟩
              try dsimp only at hw
              have hm := hw
              have hP : va_P (dC, dI) vwCl (wC ad cy ss ds ti co oma_8 obr obj obo obm plo pch pbe pbl dnu dde dbo dln dld tba tal tro tsc tcl rma) H := cPost_P ht hB
              have hD : va_D A (wC ad cy ss ds ti co oma_8 obr obj obo obm plo pch pbe pbl dnu dde dbo dln dld tba tal tro tsc tcl rma) := cPost_D hFc hB
              refine lv_goto (tgt := 142) hx hb dX2_makeBestChange_126 (by decide) ?_
              refine lv_iconst (v := 1) hx hb dX2_makeBestChange_142 (by decide) ?_
              exact hret (1 : Int32) oma_8 obr obj obo obm H locs ls 143 dX2_makeBestChange_143 rfl ⟨hP, hD, hS⟩ hm
        · have hm := hm.2 c_3
          refine lv_iconst (v := 0) hx hb dX2_makeBestChange_96 (by decide) ?_
          exact hret (0 : Int32) oma obr obj obo obm H locs ls 97 dX2_makeBestChange_97 rfl ⟨hP, hD, hS⟩ hm
    · have hm := hm.2 c_1
      refine lv_iload_n hx hb dX2_makeBestChange_62 rfl (lv_at hl 2 rfl) ?_
      refine lv_bipush (v := 7) hx hb dX2_makeBestChange_63 (by decide) ?_
      refine lv_icmp_ge (tgt := 80) hx hb dX2_makeBestChange_65 (by decide) (fun c_9 => ?_) (fun c_9 => ?_)
      · have hm := hm.1 c_9
        refine lv_aload_n hx hb dX2_makeBestChange_80 rfl (lv_at hl 0 rfl) ?_
        refine va_get (D := (dC, dI)) (ci := 2) (v := .int obj) (C := RX2) (T := TX2) (N := 5) hx hb hts in_X2_makeBestChange_X2 hown hK hP 3 rfl rfl 2 (by decide) (hts _ fl_X2_makeBestChange_23) (fun _ h9 => h9) rfl dX2_makeBestChange_81 ?_
        refine lv_if_lt (tgt := 96) hx hb dX2_makeBestChange_84 (by decide) (fun c_10 => ?_) (fun c_10 => ?_)
        · have hm := hm.1 c_10
          refine lv_iconst (v := 0) hx hb dX2_makeBestChange_96 (by decide) ?_
          exact hret (0 : Int32) oma obr obj obo obm H locs ls 97 dX2_makeBestChange_97 rfl ⟨hP, hD, hS⟩ hm
        · have hm := hm.2 c_10
          refine lv_aload_n hx hb dX2_makeBestChange_87 rfl (lv_at hl 0 rfl) ?_
          refine va_get (D := (dC, dI)) (ci := 2) (v := .int obj) (C := RX2) (T := TX2) (N := 5) hx hb hts in_X2_makeBestChange_X2 hown hK hP 3 rfl rfl 2 (by decide) (hts _ fl_X2_makeBestChange_23) (fun _ h9 => h9) rfl dX2_makeBestChange_88 ?_
          refine lv_bipush (v := 7) hx hb dX2_makeBestChange_91 (by decide) ?_
          refine lv_icmp_lt (tgt := 98) hx hb dX2_makeBestChange_93 (by decide) (fun c_11 => ?_) (fun c_11 => ?_)
          · have hm := hm.1 c_11
            refine lv_aload_n hx hb dX2_makeBestChange_98 rfl (lv_at hl 0 rfl) ?_
            refine va_get (D := (dC, dI)) (ci := 2) (v := .int obo) (C := RX2) (T := TX2) (N := 5) hx hb hts in_X2_makeBestChange_X2 hown hK hP 3 rfl rfl 3 (by decide) (hts _ fl_X2_makeBestChange_26) (fun _ h9 => h9) rfl dX2_makeBestChange_99 ?_
            refine lv_if_lt (tgt := 129) hx hb dX2_makeBestChange_102 (by decide) (fun c_12 => ?_) (fun c_12 => ?_)
            · have hm := hm.1 c_12
              refine lv_aload_n hx hb dX2_makeBestChange_129 rfl (lv_at hl 0 rfl) ?_
              refine va_get (D := (dC, dI)) (ci := 2) (v := .ref (ad 4)) (C := RX2) (T := TX2) (N := 5) hx hb hts in_X2_makeBestChange_X2 hown hK hP 3 rfl rfl 0 (by decide) (hts _ fl_X2_makeBestChange_9) (fun _ h9 => h9) rfl dX2_makeBestChange_130 ?_
              refine lv_aload_n hx hb dX2_makeBestChange_133 rfl (lv_at hl 0 rfl) ?_
              refine va_get (D := (dC, dI)) (ci := 2) (v := .int obj) (C := RX2) (T := TX2) (N := 5) hx hb hts in_X2_makeBestChange_X2 hown hK hP 3 rfl rfl 2 (by decide) (hts _ fl_X2_makeBestChange_23) (fun _ h9 => h9) rfl dX2_makeBestChange_134 ?_
              refine lv_aload_n hx hb dX2_makeBestChange_137 rfl (lv_at hl 0 rfl) ?_
              refine va_get (D := (dC, dI)) (ci := 2) (v := .int obm) (C := RX2) (T := TX2) (N := 5) hx hb hts in_X2_makeBestChange_X2 hown hK hP 3 rfl rfl 4 (by decide) (hts _ fl_X2_makeBestChange_29) (fun _ h9 => h9) rfl dX2_makeBestChange_138 ?_
              have hi_13 := hm.1
              have hm := hm.2
              refine va_iast hx hb hK hP hD hS 4 0 rfl rfl hi_13 dX2_makeBestChange_141 (fun H locs hP hD hS => ?_)
              have hP : va_P (dC, dI) vwCl (wC ad cy ss ds ti co (upd oma (obj).toNatClampNeg obm) obr obj obo obm plo pch pbe pbl dnu dde dbo dln dld tba tal tro tsc tcl rma) H := hP
              have hD : va_D A (wC ad cy ss ds ti co (upd oma (obj).toNatClampNeg obm) obr obj obo obm plo pch pbe pbl dnu dde dbo dln dld tba tal tro tsc tcl rma) := hD
              refine lv_iconst (v := 1) hx hb dX2_makeBestChange_142 (by decide) ?_
              exact hret (1 : Int32) (upd oma (obj).toNatClampNeg obm) obr obj obo obm H locs ls 143 dX2_makeBestChange_143 rfl ⟨hP, hD, hS⟩ hm
            · have hm := hm.2 c_12
              refine lv_aload_n hx hb dX2_makeBestChange_105 rfl (lv_at hl 0 rfl) ?_
              refine va_get (D := (dC, dI)) (ci := 2) (v := .int obo) (C := RX2) (T := TX2) (N := 5) hx hb hts in_X2_makeBestChange_X2 hown hK hP 3 rfl rfl 3 (by decide) (hts _ fl_X2_makeBestChange_26) (fun _ h9 => h9) rfl dX2_makeBestChange_106 ?_
              refine lv_bipush (v := 7) hx hb dX2_makeBestChange_109 (by decide) ?_
              refine lv_icmp_ge (tgt := 129) hx hb dX2_makeBestChange_111 (by decide) (fun c_14 => ?_) (fun c_14 => ?_)
              · have hm := hm.1 c_14
                refine lv_aload_n hx hb dX2_makeBestChange_129 rfl (lv_at hl 0 rfl) ?_
                refine va_get (D := (dC, dI)) (ci := 2) (v := .ref (ad 4)) (C := RX2) (T := TX2) (N := 5) hx hb hts in_X2_makeBestChange_X2 hown hK hP 3 rfl rfl 0 (by decide) (hts _ fl_X2_makeBestChange_9) (fun _ h9 => h9) rfl dX2_makeBestChange_130 ?_
                refine lv_aload_n hx hb dX2_makeBestChange_133 rfl (lv_at hl 0 rfl) ?_
                refine va_get (D := (dC, dI)) (ci := 2) (v := .int obj) (C := RX2) (T := TX2) (N := 5) hx hb hts in_X2_makeBestChange_X2 hown hK hP 3 rfl rfl 2 (by decide) (hts _ fl_X2_makeBestChange_23) (fun _ h9 => h9) rfl dX2_makeBestChange_134 ?_
                refine lv_aload_n hx hb dX2_makeBestChange_137 rfl (lv_at hl 0 rfl) ?_
                refine va_get (D := (dC, dI)) (ci := 2) (v := .int obm) (C := RX2) (T := TX2) (N := 5) hx hb hts in_X2_makeBestChange_X2 hown hK hP 3 rfl rfl 4 (by decide) (hts _ fl_X2_makeBestChange_29) (fun _ h9 => h9) rfl dX2_makeBestChange_138 ?_
                have hi_15 := hm.1
                have hm := hm.2
                refine va_iast hx hb hK hP hD hS 4 0 rfl rfl hi_15 dX2_makeBestChange_141 (fun H locs hP hD hS => ?_)
                have hP : va_P (dC, dI) vwCl (wC ad cy ss ds ti co (upd oma (obj).toNatClampNeg obm) obr obj obo obm plo pch pbe pbl dnu dde dbo dln dld tba tal tro tsc tcl rma) H := hP
                have hD : va_D A (wC ad cy ss ds ti co (upd oma (obj).toNatClampNeg obm) obr obj obo obm plo pch pbe pbl dnu dde dbo dln dld tba tal tro tsc tcl rma) := hD
                refine lv_iconst (v := 1) hx hb dX2_makeBestChange_142 (by decide) ?_
                exact hret (1 : Int32) (upd oma (obj).toNatClampNeg obm) obr obj obo obm H locs ls 143 dX2_makeBestChange_143 rfl ⟨hP, hD, hS⟩ hm
              · have hm := hm.2 c_14
                refine lv_aload_n hx hb dX2_makeBestChange_114 rfl (lv_at hl 0 rfl) ?_
                refine lv_aload_n hx hb dX2_makeBestChange_115 rfl (lv_at hl 0 rfl) ?_
                refine va_get (D := (dC, dI)) (ci := 2) (v := .int obj) (C := RX2) (T := TX2) (N := 5) hx hb hts in_X2_makeBestChange_X2 hown hK hP 3 rfl rfl 2 (by decide) (hts _ fl_X2_makeBestChange_23) (fun _ h9 => h9) rfl dX2_makeBestChange_116 ?_
                refine lv_aload_n hx hb dX2_makeBestChange_119 rfl (lv_at hl 0 rfl) ?_
                refine va_get (D := (dC, dI)) (ci := 2) (v := .int obo) (C := RX2) (T := TX2) (N := 5) hx hb hts in_X2_makeBestChange_X2 hown hK hP 3 rfl rfl 3 (by decide) (hts _ fl_X2_makeBestChange_26) (fun _ h9 => h9) rfl dX2_makeBestChange_120 ?_
                have hFc := va_freeSame hD hS hA
                refine va_callv (va_runV (As := [.int obj, .int obo]) (rest := []) ⟨hx, hb, hml, hown, hts⟩ (c_X2_swap l dC dI cy ad H.size ss ds ti co oma obr obj obo obm plo pch pbe pbl dnu dde dbo dln dld tba tal tro tsc tcl rma obj obo _ _ hm) (cwV 2 hts gX2_makeBestChange_X2_swap rfl rfl rfl (by decide +kernel) ⟨Nat.le_of_ble_eq_true rfl, Nat.le_of_ble_eq_true rfl⟩) ⟨cPre_blind, va_recv hK hP (ci := 2) (q0 := 3) rfl rfl, fun U hU hW => ⟨rfl, cPre_at hP hK hD hN hU hW⟩⟩ rfl rfl hl.1 rfl (lv_room (Nat.le_of_ble_eq_true rfl)) dX2_makeBestChange_123 ⟨Nat.zero_le _, Nat.zero_le _⟩) hS (fun q _ h => hFc q h) hFc (fun u t H locs ht hvm hw hB hz1 hk1 hS => ?_)
                obtain ⟨oma_16, rfl⟩ : ∃ z, z = u := ⟨_, rfl⟩
                try dsimp only at hw
                have hm := hw
                have hP : va_P (dC, dI) vwCl (wC ad cy ss ds ti co oma_16 obr obj obo obm plo pch pbe pbl dnu dde dbo dln dld tba tal tro tsc tcl rma) H := cPost_P ht hB
                have hD : va_D A (wC ad cy ss ds ti co oma_16 obr obj obo obm plo pch pbe pbl dnu dde dbo dln dld tba tal tro tsc tcl rma) := cPost_D hFc hB
                refine lv_goto (tgt := 142) hx hb dX2_makeBestChange_126 (by decide) ?_
                refine lv_iconst (v := 1) hx hb dX2_makeBestChange_142 (by decide) ?_
                exact hret (1 : Int32) oma_16 obr obj obo obm H locs ls 143 dX2_makeBestChange_143 rfl ⟨hP, hD, hS⟩ hm
          · have hm := hm.2 c_11
            refine lv_iconst (v := 0) hx hb dX2_makeBestChange_96 (by decide) ?_
            exact hret (0 : Int32) oma obr obj obo obm H locs ls 97 dX2_makeBestChange_97 rfl ⟨hP, hD, hS⟩ hm
      · have hm := hm.2 c_9
        refine lv_aload_n hx hb dX2_makeBestChange_68 rfl (lv_at hl 0 rfl) ?_
        refine lv_aload_n hx hb dX2_makeBestChange_69 rfl (lv_at hl 1 rfl) ?_
        refine lv_iload_n hx hb dX2_makeBestChange_70 rfl (lv_at hl 2 rfl) ?_
        have hFc := va_freeSame hD hS hA
        refine va_callv (va_runV (As := [.ref (ad 1), .int x2]) (rest := []) ⟨hx, hb, hml, hown, hts⟩ (c_X2_meetSwaps l dC dI cy ad H.size ss ds ti co oma obr obj obo obm plo pch pbe pbl dnu dde dbo dln dld tba tal tro tsc tcl rma x2 _ _ hm) (cwV 2 hts gX2_makeBestChange_X2_meetSwaps rfl rfl rfl (by decide +kernel) ⟨Nat.le_of_ble_eq_true rfl, Nat.le_of_ble_eq_true rfl⟩) ⟨cPre_blind, va_recv hK hP (ci := 2) (q0 := 3) rfl rfl, fun U hU hW => ⟨rfl, cPre_at hP hK hD hN hU hW⟩⟩ rfl rfl hl.1 rfl (lv_room (Nat.le_of_ble_eq_true rfl)) dX2_makeBestChange_71 ⟨Nat.zero_le _, Nat.zero_le _⟩) hS (fun q _ h => hFc q h) hFc (fun u t H locs ht hvm hw hB hz1 hk1 hS => ?_)
        obtain ⟨oma_17, obr_18, obj_19, obo_20, obm_21⟩ := u
        try dsimp only at hw
        have hm := hw
        have hP : va_P (dC, dI) vwCl (wC ad cy ss ds ti co oma_17 obr_18 obj_19 obo_20 obm_21 plo pch pbe pbl dnu dde dbo dln dld tba tal tro tsc tcl rma) H := cPost_P ht hB
        have hD : va_D A (wC ad cy ss ds ti co oma_17 obr_18 obj_19 obo_20 obm_21 plo pch pbe pbl dnu dde dbo dln dld tba tal tro tsc tcl rma) := cPost_D hFc hB
        obtain ⟨x2_22, ex2_22⟩ : ∃ y : Int32, y = x2 + (1 : Int32) := ⟨_, rfl⟩
        have hm := hm x2_22 ex2_22
        refine lv_iinc (v := x2_22) (lv' := [(2, .int x2_22), (0, .ref (ad 3)), (1, .ref (ad 1))]) hx hb dX2_makeBestChange_74 hl (k := 2) rfl (by rw [ex2_22]; rfl) (by decide) rfl (fun ls hl => ?_)
        refine lv_goto (tgt := 54) hx hb dX2_makeBestChange_77 (by decide) ?_
        exact ih x2_22 oma_17 obr_18 obj_19 obo_20 obm_21 H locs ls hm ⟨hP, hD, hS⟩ (lv_sub hl [1, 2, 0] rfl) hret

set_option maxHeartbeats 4000000 in
set_option maxRecDepth 100000 in
theorem k_X2_makeBestChange_26 {N : Nat} {ss : Int32} {ds : Int32} {ti : Nat → Int32} {co : Int32} {plo : Nat → Int32} {pch : Nat → Int32} {pbe : Nat → Int32} {pbl : Int32} {dnu : Nat → Int32} {dde : Nat → Int32} {dbo : Int32} {dln : Int32} {dld : Int32} {tba : Nat → Int32} {tal : Nat → Int32} {tro : Int32} {tsc : Int64} {tcl : Nat → Nat → Int64} {rma : Nat → Int32} {Q : Int32 → (Nat → Int32) → Int32 → Int32 → Int32 → Int32 → Prop} (C0 : cxM cX2_makeBestChange 3 (some .boolean) RX2 wsX2_makeBestChange p s m args meth c dC dI cy A) :
    ∀ (n : Nat) (x2 : Int32) (oma : Nat → Int32) (obr : Int32) (obj : Int32) (obo : Int32) (obm : Int32) (H : Heap) (locs : List Loc) (ls : Array Slot) (hm : p_X2_makeBestChange_26 N ti co Q n x2 oma obr obj obo obm) (hSt : stC dC dI A s (wC ad cy ss ds ti co oma obr obj obo obm plo pch pbe pbl dnu dde dbo dln dld tba tal tro tsc tcl rma) H locs) (hl : lv_has ls 3 [(0, .ref (ad 3)), (1, .ref (ad 1)), (2, .int x2)]) (hret : ∀ (r : Int32) (oma : Nat → Int32) (obr : Int32) (obj : Int32) (obo : Int32) (obm : Int32) (H : Heap) (locs : List Loc) (ls : Array Slot) (pc : Nat), decode cX2_makeBestChange pc = .ok (.ireturn, 1) → narrow .boolean (.int r) = .int r → stC dC dI A s (wC ad cy ss ds ti co oma obr obj obo obm plo pch pbe pbl dnu dde dbo dln dld tba tal tro tsc tcl rma) H locs → Q r oma obr obj obo obm → W p l e rmX2_makeBestChange s m args below meth c H locs 0 0 Z (F0 m pc ls [.int r])), W p l e rmX2_makeBestChange s m args below meth c H locs 0 0 Z (F0 m 26 ls []) := by
  obtain ⟨hx, hb, hml, hr, hown, hts, hlocks, hK, hA, hN⟩ := id C0
  intro n
  induction n with
  | zero => intro x2 oma obr obj obo obm H locs ls hm; exact False.elim hm
  | succ n ih =>
    intro x2 oma obr obj obo obm H locs ls hm hSt hl hret
    obtain ⟨hP, hD, hS⟩ := hSt
    unfold p_X2_makeBestChange_26 at hm
    refine lv_iload_n hx hb dX2_makeBestChange_26 rfl (lv_at hl 2 rfl) ?_
    refine lv_aload_n hx hb dX2_makeBestChange_27 rfl (lv_at hl 1 rfl) ?_
    refine va_getN (D := (dC, dI)) (ci := 1) (v := .int co) (C := RX1) (T := TX1) (N := 2) hx hb hts in_X2_makeBestChange_X1 hown hK hP 1 rfl rfl 1 (by decide) (va_Nw.use rfl (nw_X2_32 hN)) (fun _ h9 => h9) rfl dX2_makeBestChange_28 ?_
    refine lv_icmp_ge (tgt := 52) hx hb dX2_makeBestChange_31 (by decide) (fun c_1 => ?_) (fun c_1 => ?_)
    · have hm := hm.1 c_1
      refine lv_iconst (v := 0) hx hb dX2_makeBestChange_52 (by decide) ?_
      refine lv_istore_n (lv' := [(2, .int (0 : Int32)), (0, .ref (ad 3)), (1, .ref (ad 1))]) hx hb dX2_makeBestChange_53 rfl hl (by decide) rfl (fun ls hl => ?_)
      exact k_X2_makeBestChange_54 C0 N (0 : Int32) oma obr obj obo obm H locs ls hm ⟨hP, hD, hS⟩ (lv_sub hl [1, 2, 0] rfl) hret
    · have hm := hm.2 c_1
      refine lv_iload_n hx hb dX2_makeBestChange_34 rfl (lv_at hl 2 rfl) ?_
      refine lv_bipush (v := 7) hx hb dX2_makeBestChange_35 (by decide) ?_
      refine lv_icmp_ge (tgt := 52) hx hb dX2_makeBestChange_37 (by decide) (fun c_2 => ?_) (fun c_2 => ?_)
      · have hm := hm.1 c_2
        refine lv_iconst (v := 0) hx hb dX2_makeBestChange_52 (by decide) ?_
        refine lv_istore_n (lv' := [(2, .int (0 : Int32)), (0, .ref (ad 3)), (1, .ref (ad 1))]) hx hb dX2_makeBestChange_53 rfl hl (by decide) rfl (fun ls hl => ?_)
        exact k_X2_makeBestChange_54 C0 N (0 : Int32) oma obr obj obo obm H locs ls hm ⟨hP, hD, hS⟩ (lv_sub hl [1, 2, 0] rfl) hret
      · have hm := hm.2 c_2
        refine lv_aload_n hx hb dX2_makeBestChange_40 rfl (lv_at hl 0 rfl) ?_
        refine lv_aload_n hx hb dX2_makeBestChange_41 rfl (lv_at hl 1 rfl) ?_
        refine lv_iload_n hx hb dX2_makeBestChange_42 rfl (lv_at hl 2 rfl) ?_
        have hFc := va_freeSame hD hS hA
        refine va_callv (va_runV (As := [.ref (ad 1), .int x2]) (rest := []) ⟨hx, hb, hml, hown, hts⟩ (c_X2_meetMoves l dC dI cy ad H.size ss ds ti co oma obr obj obo obm plo pch pbe pbl dnu dde dbo dln dld tba tal tro tsc tcl rma x2 _ _ hm) (cwV 2 hts gX2_makeBestChange_X2_meetMoves rfl rfl rfl (by decide +kernel) ⟨Nat.le_of_ble_eq_true rfl, Nat.le_of_ble_eq_true rfl⟩) ⟨cPre_blind, va_recv hK hP (ci := 2) (q0 := 3) rfl rfl, fun U hU hW => ⟨rfl, cPre_at hP hK hD hN hU hW⟩⟩ rfl rfl hl.1 rfl (lv_room (Nat.le_of_ble_eq_true rfl)) dX2_makeBestChange_43 ⟨Nat.zero_le _, Nat.zero_le _⟩) hS (fun q _ h => hFc q h) hFc (fun u t H locs ht hvm hw hB hz1 hk1 hS => ?_)
        obtain ⟨oma_3, obr_4, obj_5, obo_6, obm_7⟩ := u
        try dsimp only at hw
        have hm := hw
        have hP : va_P (dC, dI) vwCl (wC ad cy ss ds ti co oma_3 obr_4 obj_5 obo_6 obm_7 plo pch pbe pbl dnu dde dbo dln dld tba tal tro tsc tcl rma) H := cPost_P ht hB
        have hD : va_D A (wC ad cy ss ds ti co oma_3 obr_4 obj_5 obo_6 obm_7 plo pch pbe pbl dnu dde dbo dln dld tba tal tro tsc tcl rma) := cPost_D hFc hB
        obtain ⟨x2_8, ex2_8⟩ : ∃ y : Int32, y = x2 + (1 : Int32) := ⟨_, rfl⟩
        have hm := hm x2_8 ex2_8
        refine lv_iinc (v := x2_8) (lv' := [(2, .int x2_8), (0, .ref (ad 3)), (1, .ref (ad 1))]) hx hb dX2_makeBestChange_46 hl (k := 2) rfl (by rw [ex2_8]; rfl) (by decide) rfl (fun ls hl => ?_)
        refine lv_goto (tgt := 26) hx hb dX2_makeBestChange_49 (by decide) ?_
        exact ih x2_8 oma_3 obr_4 obj_5 obo_6 obm_7 H locs ls hm ⟨hP, hD, hS⟩ (lv_sub hl [1, 2, 0] rfl) hret

set_option maxHeartbeats 4000000 in
set_option maxRecDepth 100000 in
theorem k_X2_makeBestChange_0 {N : Nat} {ss : Int32} {ds : Int32} {ti : Nat → Int32} {co : Int32} {plo : Nat → Int32} {pch : Nat → Int32} {pbe : Nat → Int32} {pbl : Int32} {dnu : Nat → Int32} {dde : Nat → Int32} {dbo : Int32} {dln : Int32} {dld : Int32} {tba : Nat → Int32} {tal : Nat → Int32} {tro : Int32} {tsc : Int64} {tcl : Nat → Nat → Int64} {rma : Nat → Int32} {Q : Int32 → (Nat → Int32) → Int32 → Int32 → Int32 → Int32 → Prop} (C0 : cxM cX2_makeBestChange 3 (some .boolean) RX2 wsX2_makeBestChange p s m args meth c dC dI cy A) :
    ∀ (oma : Nat → Int32) (obr : Int32) (obj : Int32) (obo : Int32) (obm : Int32) (H : Heap) (locs : List Loc) (ls : Array Slot) (hm : p_X2_makeBestChange N ti co Q oma obr obj obo obm) (hSt : stC dC dI A s (wC ad cy ss ds ti co oma obr obj obo obm plo pch pbe pbl dnu dde dbo dln dld tba tal tro tsc tcl rma) H locs) (hl : lv_has ls 3 [(0, .ref (ad 3)), (1, .ref (ad 1))]) (hret : ∀ (r : Int32) (oma : Nat → Int32) (obr : Int32) (obj : Int32) (obo : Int32) (obm : Int32) (H : Heap) (locs : List Loc) (ls : Array Slot) (pc : Nat), decode cX2_makeBestChange pc = .ok (.ireturn, 1) → narrow .boolean (.int r) = .int r → stC dC dI A s (wC ad cy ss ds ti co oma obr obj obo obm plo pch pbe pbl dnu dde dbo dln dld tba tal tro tsc tcl rma) H locs → Q r oma obr obj obo obm → W p l e rmX2_makeBestChange s m args below meth c H locs 0 0 Z (F0 m pc ls [.int r])), W p l e rmX2_makeBestChange s m args below meth c H locs 0 0 Z (F0 m 0 ls []) := by
  obtain ⟨hx, hb, hml, hr, hown, hts, hlocks, hK, hA, hN⟩ := id C0
  intro oma obr obj obo obm H locs ls hm hSt hl hret
  obtain ⟨hP, hD, hS⟩ := hSt
  unfold p_X2_makeBestChange at hm
  refine lv_aload_n hx hb dX2_makeBestChange_0 rfl (lv_at hl 0 rfl) ?_
  refine lv_aload_n hx hb dX2_makeBestChange_1 rfl (lv_at hl 0 rfl) ?_
  refine lv_aload_n hx hb dX2_makeBestChange_2 rfl (lv_at hl 1 rfl) ?_
  have hFc := va_freeSame hD hS hA
  refine va_calli (va_runV (As := [.ref (ad 1)]) (rest := [.ref (ad 3)]) ⟨hx, hb, hml, hown, hts⟩ (c_X2_rank l dC dI cy ad H.size ss ds ti co oma obr obj obo obm plo pch pbe pbl dnu dde dbo dln dld tba tal tro tsc tcl rma  _ _ hm) (cwV 1 hts gX2_makeBestChange_X2_rank rfl rfl rfl (by decide +kernel) ⟨Nat.le_of_ble_eq_true rfl, Nat.le_of_ble_eq_true rfl⟩) ⟨cPre_blind, va_recv hK hP (ci := 2) (q0 := 3) rfl rfl, fun U hU hW => ⟨rfl, cPre_at hP hK hD hN hU hW⟩⟩ rfl rfl hl.1 rfl (lv_room (Nat.le_of_ble_eq_true rfl)) dX2_makeBestChange_3 ⟨Nat.zero_le _, Nat.zero_le _⟩) hS (fun q _ h => hFc q h) hFc (fun r_1 u t H locs ht hvm hw hB hz1 hk1 hS => ?_)
  try dsimp only at hw
  have hm := hw
  have hP : va_P (dC, dI) vwCl (wC ad cy ss ds ti co oma obr obj obo obm plo pch pbe pbl dnu dde dbo dln dld tba tal tro tsc tcl rma) H := cPost_P ht hB
  have hD : va_D A (wC ad cy ss ds ti co oma obr obj obo obm plo pch pbe pbl dnu dde dbo dln dld tba tal tro tsc tcl rma) := cPost_D hFc hB
  refine va_put (D := (dC, dI)) (ci := 2) (v := .int r_1) (ty := .int) (C := RX2) (T := TX2) (N := 5) hx hb hts in_X2_makeBestChange_X2 tyX2 tyX2_ok nmX2 hown hK hP hD hS 3 rfl rfl 1 (by decide) (hts _ fl_X2_makeBestChange_19) (fun _ h9 => h9) rfl (by decide +kernel) rfl rfl (Nat.le_of_ble_eq_true rfl) dX2_makeBestChange_6 (fun H locs hP hD hS => ?_)
  have hP : va_P (dC, dI) vwCl (wC ad cy ss ds ti co oma r_1 obj obo obm plo pch pbe pbl dnu dde dbo dln dld tba tal tro tsc tcl rma) H := hP
  have hD : va_D A (wC ad cy ss ds ti co oma r_1 obj obo obm plo pch pbe pbl dnu dde dbo dln dld tba tal tro tsc tcl rma) := hD
  refine lv_aload_n hx hb dX2_makeBestChange_9 rfl (lv_at hl 0 rfl) ?_
  refine lv_iconst (v := -1) hx hb dX2_makeBestChange_10 (by decide) ?_
  refine va_put (D := (dC, dI)) (ci := 2) (v := .int (-1 : Int32)) (ty := .int) (C := RX2) (T := TX2) (N := 5) hx hb hts in_X2_makeBestChange_X2 tyX2 tyX2_ok nmX2 hown hK hP hD hS 3 rfl rfl 2 (by decide) (hts _ fl_X2_makeBestChange_23) (fun _ h9 => h9) rfl (by decide +kernel) rfl rfl (Nat.le_of_ble_eq_true rfl) dX2_makeBestChange_11 (fun H locs hP hD hS => ?_)
  have hP : va_P (dC, dI) vwCl (wC ad cy ss ds ti co oma r_1 (-1 : Int32) obo obm plo pch pbe pbl dnu dde dbo dln dld tba tal tro tsc tcl rma) H := hP
  have hD : va_D A (wC ad cy ss ds ti co oma r_1 (-1 : Int32) obo obm plo pch pbe pbl dnu dde dbo dln dld tba tal tro tsc tcl rma) := hD
  refine lv_aload_n hx hb dX2_makeBestChange_14 rfl (lv_at hl 0 rfl) ?_
  refine lv_iconst (v := -1) hx hb dX2_makeBestChange_15 (by decide) ?_
  refine va_put (D := (dC, dI)) (ci := 2) (v := .int (-1 : Int32)) (ty := .int) (C := RX2) (T := TX2) (N := 5) hx hb hts in_X2_makeBestChange_X2 tyX2 tyX2_ok nmX2 hown hK hP hD hS 3 rfl rfl 3 (by decide) (hts _ fl_X2_makeBestChange_26) (fun _ h9 => h9) rfl (by decide +kernel) rfl rfl (Nat.le_of_ble_eq_true rfl) dX2_makeBestChange_16 (fun H locs hP hD hS => ?_)
  have hP : va_P (dC, dI) vwCl (wC ad cy ss ds ti co oma r_1 (-1 : Int32) (-1 : Int32) obm plo pch pbe pbl dnu dde dbo dln dld tba tal tro tsc tcl rma) H := hP
  have hD : va_D A (wC ad cy ss ds ti co oma r_1 (-1 : Int32) (-1 : Int32) obm plo pch pbe pbl dnu dde dbo dln dld tba tal tro tsc tcl rma) := hD
  refine lv_aload_n hx hb dX2_makeBestChange_19 rfl (lv_at hl 0 rfl) ?_
  refine lv_iconst (v := -1) hx hb dX2_makeBestChange_20 (by decide) ?_
  refine va_put (D := (dC, dI)) (ci := 2) (v := .int (-1 : Int32)) (ty := .int) (C := RX2) (T := TX2) (N := 5) hx hb hts in_X2_makeBestChange_X2 tyX2 tyX2_ok nmX2 hown hK hP hD hS 3 rfl rfl 4 (by decide) (hts _ fl_X2_makeBestChange_29) (fun _ h9 => h9) rfl (by decide +kernel) rfl rfl (Nat.le_of_ble_eq_true rfl) dX2_makeBestChange_21 (fun H locs hP hD hS => ?_)
  have hP : va_P (dC, dI) vwCl (wC ad cy ss ds ti co oma r_1 (-1 : Int32) (-1 : Int32) (-1 : Int32) plo pch pbe pbl dnu dde dbo dln dld tba tal tro tsc tcl rma) H := hP
  have hD : va_D A (wC ad cy ss ds ti co oma r_1 (-1 : Int32) (-1 : Int32) (-1 : Int32) plo pch pbe pbl dnu dde dbo dln dld tba tal tro tsc tcl rma) := hD
  refine lv_iconst (v := 0) hx hb dX2_makeBestChange_24 (by decide) ?_
  refine lv_istore_n (lv' := [(2, .int (0 : Int32)), (0, .ref (ad 3)), (1, .ref (ad 1))]) hx hb dX2_makeBestChange_25 rfl hl (by decide) rfl (fun ls hl => ?_)
  exact k_X2_makeBestChange_26 C0 N (0 : Int32) oma r_1 (-1 : Int32) (-1 : Int32) (-1 : Int32) H locs ls hm ⟨hP, hD, hS⟩ (lv_sub hl [1, 2, 0] rfl) hret

set_option maxHeartbeats 4000000 in
set_option maxRecDepth 100000 in
theorem c_X2_makeBestChange (l : Launch) (dC : Nat → ClassId) (dI : Nat → Nat → Nat) (cy : Nat → ClassId) (ad : Nat → Nat) (sz : Nat) (ss : Int32) (ds : Int32) (ti : Nat → Int32) (co : Int32) (oma : Nat → Int32) (obr : Int32) (obj : Int32) (obo : Int32) (obm : Int32) (plo : Nat → Int32) (pch : Nat → Int32) (pbe : Nat → Int32) (pbl : Int32) (dnu : Nat → Int32) (dde : Nat → Int32) (dbo : Int32) (dln : Int32) (dld : Int32) (tba : Nat → Int32) (tal : Nat → Int32) (tro : Int32) (tsc : Int64) (tcl : Nat → Nat → Int64) (rma : Nat → Int32)  (N : Nat) (Q : Int32 → (Nat → Int32) → Int32 → Int32 → Int32 → Int32 → Prop) (hm : p_X2_makeBestChange N ti co Q oma obr obj obo obm) : Met l yX2_makeBestChange wsX2_makeBestChange rmX2_makeBestChange (va_Pc [.ref (ad 3), .ref (ad 1)] (cPre dC dI cy (wC ad cy ss ds ti co oma obr obj obo obm plo pch pbe pbl dnu dde dbo dln dld tba tal tro tsc tcl rma) sz)) (va_Qi (fun (r : Int32) (u : (Nat → Int32) × Int32 × Int32 × Int32 × Int32) => Q r u.1 u.2.1 u.2.2.1 u.2.2.2.1 u.2.2.2.2 ∧ narrow .boolean (.int r) = .int r) (fun u t => cPost dC dI cy (wC ad cy ss ds ti co oma obr obj obo obm plo pch pbe pbl dnu dde dbo dln dld tba tal tro tsc tcl rma) sz (wC ad cy ss ds ti co (u.1) (u.2.1) (u.2.2.1) (u.2.2.2.1) (u.2.2.2.2) plo pch pbe pbl dnu dde dbo dln dld tba tal tro tsc tcl rma) t) (va_A (wC ad cy ss ds ti co oma obr obj obo obm plo pch pbe pbl dnu dde dbo dln dld tba tal tro tsc tcl rma) sz)) 0 0 (va_A (wC ad cy ss ds ti co oma obr obj obo obm plo pch pbe pbl dnu dde dbo dln dld tba tal tro tsc tcl rma) sz) := by
  refine Met.ofW (cc := cX2_makeBestChange) (maxL := 3) (ret := (some .boolean)) (by decide) rfl ?_
  intro p e s m args below meth c s₁ B hml hv
  obtain ⟨rfl, hsz, hP, hK, hD0, hN⟩ := hv
  have hts := atoms_spec (ws := wsX2_makeBestChange) B.pre
  have hown : s.vm.findClass RX2 = some m.cls := findClass_of_methodNamed B.named
  subst hsz
  have hD := hD0.self (sz := s.heap.size)
  generalize hAe : va_A (wC ad cy ss ds ti co oma obr obj obo obm plo pch pbe pbl dnu dde dbo dln dld tba tal tro tsc tcl rma) s.heap.size = A at hD ⊢
  have hA : ∀ q : Nat, s.heap.size ≤ q → A q := fun q h => by rw [← hAe]; exact Or.inr h
  have hl := lv_entry ([.ref (ad 3), .ref (ad 1)]) (n := 3) (Nat.le_of_ble_eq_true rfl)
  rw [lg_entry_eq]
  generalize (lg_sl ([.ref (ad 3), .ref (ad 1)]) ++ List.replicate (3 - (lg_sl ([.ref (ad 3), .ref (ad 1)])).length) Slot.unset).toArray = ls at hl ⊢
  have hl : lv_has ls 3 [(0, .ref (ad 3)), (1, .ref (ad 1))] := hl
  exact k_X2_makeBestChange_0 ⟨B.exec, B.bytes, hml, B.returns, hown, hts, B.notSynchronized, hK, hA, hN⟩ oma obr obj obo obm s.heap [] ls hm ⟨hP, hD, va_S.rf⟩ (lv_sub hl [0, 1] rfl) (fun r oma obr obj obo obm H locs ls pc hdg hn hSt hq => W.zret B.exec B.bytes B.returns hn (fun t ht hW => ⟨⟨r, (oma, obr, obj, obo, obm), rfl, ⟨hq, hn⟩, cPost_of hAe ht hW.alike hSt hK⟩, hSt.2.2.F ht⟩) hSt.2.2.2.2 hdg B.notSynchronized)
