variable {p : Program} {l : Launch} {e : Env} {s : State} {m : MethodId} {args : Array Value} {below : List Frame} {meth : Method} {c : Code} {dC : Nat → ClassId} {dI : Nat → Nat → Nat} {cy : Nat → ClassId} {ad : Nat → Nat} {A : Nat → Prop} {Z : State → Prop}
-- ===== X6_requireJob
theorem fl_X6_requireJob_12 : Cond.fieldLink RX6 12 "UnlikeUnion" "list" "LUnlikeUnion$Jobs;" ∈ wsX6_requireJob := by decide +kernel
theorem in_X6_requireJob_X1 : ∀ w ∈ u_ws RX1 TX1 2, w ∈ wsX6_requireJob := by decide +kernel
theorem in_X6_requireJob_X6 : ∀ w ∈ u_ws RX6 TX6 7, w ∈ wsX6_requireJob := by decide +kernel
abbrev rmX6_requireJob : Room := { frames := 10, cells := 1, slots := 6, locals := 200 }
theorem xg_X6_requireJob_145 : ∀ w ∈ (vx_atS RX6 145 "java/lang/IndexOutOfBoundsException" ["java/lang/RuntimeException", "java/lang/Exception"]).filter goodWord, w ∈ wsX6_requireJob := by decide +kernel
def p_X6_requireJob (N : Nat) (co : Int32) (Q : Prop) (QX : String → Prop) (x1 : Int32) : Prop :=
  (x1 < 0 → (QX "java/lang/IndexOutOfBoundsException")) ∧ (¬ x1 < 0 → ((co ≤ x1 → (QX "java/lang/IndexOutOfBoundsException")) ∧ (¬ co ≤ x1 → ((x1 < (7 : Int32) → (Q)) ∧ (¬ x1 < (7 : Int32) → (QX "java/lang/IndexOutOfBoundsException"))))))

set_option maxHeartbeats 4000000 in
set_option maxRecDepth 100000 in
theorem k_X6_requireJob_0 {N : Nat} {ss : Int32} {ds : Int32} {ti : Nat → Int32} {co : Int32} {oma : Nat → Int32} {obr : Int32} {obj : Int32} {obo : Int32} {obm : Int32} {plo : Nat → Int32} {pch : Nat → Int32} {pbe : Nat → Int32} {pbl : Int32} {dnu : Nat → Int32} {dde : Nat → Int32} {dbo : Int32} {dln : Int32} {dld : Int32} {tba : Nat → Int32} {tal : Nat → Int32} {tro : Int32} {tsc : Int64} {tcl : Nat → Nat → Int64} {rma : Nat → Int32} {Q : Prop} {QX : String → Prop} (C0 : cxM cX6_requireJob 2 none RX6 wsX6_requireJob p s m args meth c dC dI cy A) :
    ∀ (x1 : Int32) (H : Heap) (locs : List Loc) (ls : Array Slot) (hm : p_X6_requireJob N co Q QX x1) (hSt : stC dC dI A s (wC ad cy ss ds ti co oma obr obj obo obm plo pch pbe pbl dnu dde dbo dln dld tba tal tro tsc tcl rma) H locs) (hl : lv_has ls 2 [(0, .ref (ad 0)), (1, .int x1)]) (hret : ∀ (H : Heap) (locs : List Loc) (ls : Array Slot) (pc : Nat), decode cX6_requireJob pc = .ok (.return_, 1) → stC dC dI A s (wC ad cy ss ds ti co oma obr obj obo obm plo pch pbe pbl dnu dde dbo dln dld tba tal tro tsc tcl rma) H locs → Q → W p l e rmX6_requireJob s m args below meth c H locs 1 6 Z (F0 m pc ls [])) (hXw : xwC s) (hXs : xsC A s s.heap) (hst : l.stackTraces = false) (hX_21 : ∀ (H : Heap) (locs : List Loc) (ls : Array Slot), QX "java/lang/IndexOutOfBoundsException" → stC dC dI A s (wC ad cy ss ds ti co oma obr obj obo obm plo pch pbe pbl dnu dde dbo dln dld tba tal tro tsc tcl rma) H locs → ls.size = 2 → W p l e rmX6_requireJob s m args below meth c H locs 0 0 Z (F0 m 21 ls [])), W p l e rmX6_requireJob s m args below meth c H locs 0 0 Z (F0 m 0 ls []) := by
  obtain ⟨hx, hb, hml, hr, hown, hts, hlocks, hK, hA, hN⟩ := id C0
  intro x1 H locs ls hm hSt hl hret hXw hXs hst hX_21
  obtain ⟨hP, hD, hS⟩ := hSt
  unfold p_X6_requireJob at hm
  refine lv_iload_n hx hb dX6_requireJob_0 rfl (lv_at hl 1 rfl) ?_
  refine lv_if_lt (tgt := 21) hx hb dX6_requireJob_1 (by decide) (fun c_1 => ?_) (fun c_1 => ?_)
  · have hm := hm.1 c_1
    exact hX_21 H locs ls hm ⟨hP, hD, hS⟩ hl.1
  · have hm := hm.2 c_1
    refine lv_iload_n hx hb dX6_requireJob_4 rfl (lv_at hl 1 rfl) ?_
    refine lv_aload_n hx hb dX6_requireJob_5 rfl (lv_at hl 0 rfl) ?_
    refine va_get (D := (dC, dI)) (ci := 6) (v := .ref (ad 1)) (C := RX6) (T := TX6) (N := 7) hx hb hts in_X6_requireJob_X6 hown hK hP 0 rfl rfl 0 (by decide) (hts _ fl_X6_requireJob_12) (fun _ h9 => h9) rfl dX6_requireJob_6 ?_
    refine va_getN (D := (dC, dI)) (ci := 1) (v := .int co) (C := RX1) (T := TX1) (N := 2) hx hb hts in_X6_requireJob_X1 hown hK hP 1 rfl rfl 1 (by decide) (va_Nw.use rfl (nw_X6_57 hN)) (fun _ h9 => h9) rfl dX6_requireJob_9 ?_
    refine lv_icmp_ge (tgt := 21) hx hb dX6_requireJob_12 (by decide) (fun c_2 => ?_) (fun c_2 => ?_)
    · have hm := hm.1 c_2
      exact hX_21 H locs ls hm ⟨hP, hD, hS⟩ hl.1
    · have hm := hm.2 c_2
      refine lv_iload_n hx hb dX6_requireJob_15 rfl (lv_at hl 1 rfl) ?_
      refine lv_bipush (v := 7) hx hb dX6_requireJob_16 (by decide) ?_
      refine lv_icmp_lt (tgt := 31) hx hb dX6_requireJob_18 (by decide) (fun c_3 => ?_) (fun c_3 => ?_)
      · have hm := hm.1 c_3
        refine W.widen (k := 1) (n := 6) (by omega) (by omega) ?_
        exact hret  H locs ls 31 dX6_requireJob_31 ⟨hP, hD, hS⟩ hm
      · have hm := hm.2 c_3
        exact hX_21 H locs ls hm ⟨hP, hD, hS⟩ hl.1

set_option maxHeartbeats 4000000 in
set_option maxRecDepth 100000 in
theorem c_X6_requireJob (l : Launch) (dC : Nat → ClassId) (dI : Nat → Nat → Nat) (cy : Nat → ClassId) (ad : Nat → Nat) (sz : Nat) (ss : Int32) (ds : Int32) (ti : Nat → Int32) (co : Int32) (oma : Nat → Int32) (obr : Int32) (obj : Int32) (obo : Int32) (obm : Int32) (plo : Nat → Int32) (pch : Nat → Int32) (pbe : Nat → Int32) (pbl : Int32) (dnu : Nat → Int32) (dde : Nat → Int32) (dbo : Int32) (dln : Int32) (dld : Int32) (tba : Nat → Int32) (tal : Nat → Int32) (tro : Int32) (tsc : Int64) (tcl : Nat → Nat → Int64) (rma : Nat → Int32) (x1 : Int32) (N : Nat) (Q : Prop) (QX : String → Prop) (hst : l.stackTraces = false) (hm : p_X6_requireJob N co Q QX x1) : vx_Met l yX6_requireJob wsX6_requireJob rmX6_requireJob (va_Pc [.ref (ad 0), .int x1] (cPreX dC dI cy (wC ad cy ss ds ti co oma obr obj obo obm plo pch pbe pbl dnu dde dbo dln dld tba tal tro tsc tcl rma) sz)) (va_Qv (fun (u : Unit) => Q) (fun u t => cPost dC dI cy (wC ad cy ss ds ti co oma obr obj obo obm plo pch pbe pbl dnu dde dbo dln dld tba tal tro tsc tcl rma) sz (wC ad cy ss ds ti co oma obr obj obo obm plo pch pbe pbl dnu dde dbo dln dld tba tal tro tsc tcl rma) t) (va_A (wC ad cy ss ds ti co oma obr obj obo obm plo pch pbe pbl dnu dde dbo dln dld tba tal tro tsc tcl rma) sz)) (vx_X (fun _ : Unit => True) (fun E _ t => QX E ∧ cPost dC dI cy (wC ad cy ss ds ti co oma obr obj obo obm plo pch pbe pbl dnu dde dbo dln dld tba tal tro tsc tcl rma) sz (wC ad cy ss ds ti co oma obr obj obo obm plo pch pbe pbl dnu dde dbo dln dld tba tal tro tsc tcl rma) t) (va_A (wC ad cy ss ds ti co oma obr obj obo obm plo pch pbe pbl dnu dde dbo dln dld tba tal tro tsc tcl rma) sz)) 1 6 (va_A (wC ad cy ss ds ti co oma obr obj obo obm plo pch pbe pbl dnu dde dbo dln dld tba tal tro tsc tcl rma) sz) := by
  refine vx_ofW (cc := cX6_requireJob) (maxL := 2) (ret := none) (by decide) rfl ?_
  intro p e s m args below meth c s₁ B hml hnt hv
  obtain ⟨rfl, ⟨hsz, hP, hK, hD0, hN⟩, hXw, hXs⟩ := hv
  have hts := atoms_spec (ws := wsX6_requireJob) B.pre
  have hown : s.vm.findClass RX6 = some m.cls := findClass_of_methodNamed B.named
  subst hsz
  have hD := hD0.self (sz := s.heap.size)
  generalize hAe : va_A (wC ad cy ss ds ti co oma obr obj obo obm plo pch pbe pbl dnu dde dbo dln dld tba tal tro tsc tcl rma) s.heap.size = A at hD hXs ⊢
  have hA : ∀ q : Nat, s.heap.size ≤ q → A q := fun q h => by rw [← hAe]; exact Or.inr h
  have hl := lv_entry ([.ref (ad 0), .int x1]) (n := 2) (Nat.le_of_ble_eq_true rfl)
  rw [lg_entry_eq]
  generalize (lg_sl ([.ref (ad 0), .int x1]) ++ List.replicate (2 - (lg_sl ([.ref (ad 0), .int x1])).length) Slot.unset).toArray = ls at hl ⊢
  have hl : lv_has ls 2 [(0, .ref (ad 0)), (1, .int x1)] := hl
  exact k_X6_requireJob_0 ⟨B.exec, B.bytes, hml, B.returns, hown, hts, B.notSynchronized, hK, hA, hN⟩ x1 s.heap [] ls hm ⟨hP, hD, va_S.rf⟩ (lv_sub hl [0, 1] rfl) (fun  H locs ls pc hdg hSt hq => vx_ret (W.vret B.exec B.bytes B.returns (fun t ht hW => ⟨⟨(), rfl, hq, cPost_of hAe ht hW.alike hSt hK⟩, hSt.2.2.F ht⟩) hSt.2.2.2.2 hdg B.notSynchronized)) hXw hXs hst (fun H locs ls hq hSt hsz => vx_throwS (A := A) (own := RX6) (cls := "java/lang/IndexOutOfBoundsException") (text := "there is no such job") (ik := 141) (is := 143) (ic := 145) (names := ["java/lang/RuntimeException", "java/lang/Exception"]) B.exec B.bytes hst hown (by decide +kernel) (by decide +kernel) (hts _ (by decide +kernel)) (hts _ (by decide +kernel)) (xw_143 hXw).choose_spec (vx_hat (fun w hw => hts w (xg_X6_requireJob_145 w hw)) (xdc_145) (fun w hw => xw_dc hXw w hw)) xot_145_141 hXs.1 hXs.2 hSt.2.2 (hsz.trans hml.symm) dX6_requireJob_21 dX6_requireJob_24 dX6_requireJob_25 dX6_requireJob_27 dX6_requireJob_30 (fun x hx => (hnt x hx).elim) (Nat.le_of_ble_eq_true rfl) (Nat.le_of_ble_eq_true rfl) (Nat.le_of_ble_eq_true rfl) (Nat.le_of_ble_eq_true rfl) B.notSynchronized (fun t hal hz hk => ⟨(), trivial, ⟨hq, cPostX_of hAe hal hk hSt hK⟩, xF_of hSt.2.2 hz hk⟩) hSt.2.2.2.2 (Nat.le_of_ble_eq_true rfl) (Nat.le_of_ble_eq_true rfl))

-- ===== X6_requireMachine
abbrev rmX6_requireMachine : Room := { frames := 10, cells := 1, slots := 6, locals := 200 }
theorem xg_X6_requireMachine_145 : ∀ w ∈ (vx_atS RX6 145 "java/lang/IndexOutOfBoundsException" ["java/lang/RuntimeException", "java/lang/Exception"]).filter goodWord, w ∈ wsX6_requireMachine := by decide +kernel
def p_X6_requireMachine (N : Nat) (Q : Prop) (QX : String → Prop) (x0 : Int32) : Prop :=
  (x0 < 0 → (QX "java/lang/IndexOutOfBoundsException")) ∧ (¬ x0 < 0 → ((x0 < (3 : Int32) → (Q)) ∧ (¬ x0 < (3 : Int32) → (QX "java/lang/IndexOutOfBoundsException"))))

set_option maxHeartbeats 4000000 in
set_option maxRecDepth 100000 in
theorem k_X6_requireMachine_0 {N : Nat} {ss : Int32} {ds : Int32} {ti : Nat → Int32} {co : Int32} {oma : Nat → Int32} {obr : Int32} {obj : Int32} {obo : Int32} {obm : Int32} {plo : Nat → Int32} {pch : Nat → Int32} {pbe : Nat → Int32} {pbl : Int32} {dnu : Nat → Int32} {dde : Nat → Int32} {dbo : Int32} {dln : Int32} {dld : Int32} {tba : Nat → Int32} {tal : Nat → Int32} {tro : Int32} {tsc : Int64} {tcl : Nat → Nat → Int64} {rma : Nat → Int32} {Q : Prop} {QX : String → Prop} (C0 : cxM cX6_requireMachine 1 none RX6 wsX6_requireMachine p s m args meth c dC dI cy A) :
    ∀ (x0 : Int32) (H : Heap) (locs : List Loc) (ls : Array Slot) (hm : p_X6_requireMachine N Q QX x0) (hSt : stC dC dI A s (wC ad cy ss ds ti co oma obr obj obo obm plo pch pbe pbl dnu dde dbo dln dld tba tal tro tsc tcl rma) H locs) (hl : lv_has ls 1 [(0, .int x0)]) (hret : ∀ (H : Heap) (locs : List Loc) (ls : Array Slot) (pc : Nat), decode cX6_requireMachine pc = .ok (.return_, 1) → stC dC dI A s (wC ad cy ss ds ti co oma obr obj obo obm plo pch pbe pbl dnu dde dbo dln dld tba tal tro tsc tcl rma) H locs → Q → W p l e rmX6_requireMachine s m args below meth c H locs 1 6 Z (F0 m pc ls [])) (hXw : xwC s) (hXs : xsC A s s.heap) (hst : l.stackTraces = false) (hX_9 : ∀ (H : Heap) (locs : List Loc) (ls : Array Slot), QX "java/lang/IndexOutOfBoundsException" → stC dC dI A s (wC ad cy ss ds ti co oma obr obj obo obm plo pch pbe pbl dnu dde dbo dln dld tba tal tro tsc tcl rma) H locs → ls.size = 1 → W p l e rmX6_requireMachine s m args below meth c H locs 0 0 Z (F0 m 9 ls [])), W p l e rmX6_requireMachine s m args below meth c H locs 0 0 Z (F0 m 0 ls []) := by
  obtain ⟨hx, hb, hml, hr, hown, hts, hlocks, hK, hA, hN⟩ := id C0
  intro x0 H locs ls hm hSt hl hret hXw hXs hst hX_9
  obtain ⟨hP, hD, hS⟩ := hSt
  unfold p_X6_requireMachine at hm
  refine lv_iload_n hx hb dX6_requireMachine_0 rfl (lv_at hl 0 rfl) ?_
  refine lv_if_lt (tgt := 9) hx hb dX6_requireMachine_1 (by decide) (fun c_1 => ?_) (fun c_1 => ?_)
  · have hm := hm.1 c_1
    exact hX_9 H locs ls hm ⟨hP, hD, hS⟩ hl.1
  · have hm := hm.2 c_1
    refine lv_iload_n hx hb dX6_requireMachine_4 rfl (lv_at hl 0 rfl) ?_
    refine lv_iconst (v := 3) hx hb dX6_requireMachine_5 (by decide) ?_
    refine lv_icmp_lt (tgt := 19) hx hb dX6_requireMachine_6 (by decide) (fun c_2 => ?_) (fun c_2 => ?_)
    · have hm := hm.1 c_2
      refine W.widen (k := 1) (n := 6) (by omega) (by omega) ?_
      exact hret  H locs ls 19 dX6_requireMachine_19 ⟨hP, hD, hS⟩ hm
    · have hm := hm.2 c_2
      exact hX_9 H locs ls hm ⟨hP, hD, hS⟩ hl.1

set_option maxHeartbeats 4000000 in
set_option maxRecDepth 100000 in
theorem c_X6_requireMachine (l : Launch) (dC : Nat → ClassId) (dI : Nat → Nat → Nat) (cy : Nat → ClassId) (ad : Nat → Nat) (sz : Nat) (ss : Int32) (ds : Int32) (ti : Nat → Int32) (co : Int32) (oma : Nat → Int32) (obr : Int32) (obj : Int32) (obo : Int32) (obm : Int32) (plo : Nat → Int32) (pch : Nat → Int32) (pbe : Nat → Int32) (pbl : Int32) (dnu : Nat → Int32) (dde : Nat → Int32) (dbo : Int32) (dln : Int32) (dld : Int32) (tba : Nat → Int32) (tal : Nat → Int32) (tro : Int32) (tsc : Int64) (tcl : Nat → Nat → Int64) (rma : Nat → Int32) (x0 : Int32) (N : Nat) (Q : Prop) (QX : String → Prop) (hst : l.stackTraces = false) (hm : p_X6_requireMachine N Q QX x0) : vx_Met l yX6_requireMachine wsX6_requireMachine rmX6_requireMachine (va_Pc [.int x0] (cPreX dC dI cy (wC ad cy ss ds ti co oma obr obj obo obm plo pch pbe pbl dnu dde dbo dln dld tba tal tro tsc tcl rma) sz)) (va_Qv (fun (u : Unit) => Q) (fun u t => cPost dC dI cy (wC ad cy ss ds ti co oma obr obj obo obm plo pch pbe pbl dnu dde dbo dln dld tba tal tro tsc tcl rma) sz (wC ad cy ss ds ti co oma obr obj obo obm plo pch pbe pbl dnu dde dbo dln dld tba tal tro tsc tcl rma) t) (va_A (wC ad cy ss ds ti co oma obr obj obo obm plo pch pbe pbl dnu dde dbo dln dld tba tal tro tsc tcl rma) sz)) (vx_X (fun _ : Unit => True) (fun E _ t => QX E ∧ cPost dC dI cy (wC ad cy ss ds ti co oma obr obj obo obm plo pch pbe pbl dnu dde dbo dln dld tba tal tro tsc tcl rma) sz (wC ad cy ss ds ti co oma obr obj obo obm plo pch pbe pbl dnu dde dbo dln dld tba tal tro tsc tcl rma) t) (va_A (wC ad cy ss ds ti co oma obr obj obo obm plo pch pbe pbl dnu dde dbo dln dld tba tal tro tsc tcl rma) sz)) 1 6 (va_A (wC ad cy ss ds ti co oma obr obj obo obm plo pch pbe pbl dnu dde dbo dln dld tba tal tro tsc tcl rma) sz) := by
  refine vx_ofW (cc := cX6_requireMachine) (maxL := 1) (ret := none) (by decide) rfl ?_
  intro p e s m args below meth c s₁ B hml hnt hv
  obtain ⟨rfl, ⟨hsz, hP, hK, hD0, hN⟩, hXw, hXs⟩ := hv
  have hts := atoms_spec (ws := wsX6_requireMachine) B.pre
  have hown : s.vm.findClass RX6 = some m.cls := findClass_of_methodNamed B.named
  subst hsz
  have hD := hD0.self (sz := s.heap.size)
  generalize hAe : va_A (wC ad cy ss ds ti co oma obr obj obo obm plo pch pbe pbl dnu dde dbo dln dld tba tal tro tsc tcl rma) s.heap.size = A at hD hXs ⊢
  have hA : ∀ q : Nat, s.heap.size ≤ q → A q := fun q h => by rw [← hAe]; exact Or.inr h
  have hl := lv_entry ([.int x0]) (n := 1) (Nat.le_of_ble_eq_true rfl)
  rw [lg_entry_eq]
  generalize (lg_sl ([.int x0]) ++ List.replicate (1 - (lg_sl ([.int x0])).length) Slot.unset).toArray = ls at hl ⊢
  have hl : lv_has ls 1 [(0, .int x0)] := hl
  exact k_X6_requireMachine_0 ⟨B.exec, B.bytes, hml, B.returns, hown, hts, B.notSynchronized, hK, hA, hN⟩ x0 s.heap [] ls hm ⟨hP, hD, va_S.rf⟩ (lv_sub hl [0] rfl) (fun  H locs ls pc hdg hSt hq => vx_ret (W.vret B.exec B.bytes B.returns (fun t ht hW => ⟨⟨(), rfl, hq, cPost_of hAe ht hW.alike hSt hK⟩, hSt.2.2.F ht⟩) hSt.2.2.2.2 hdg B.notSynchronized)) hXw hXs hst (fun H locs ls hq hSt hsz => vx_throwS (A := A) (own := RX6) (cls := "java/lang/IndexOutOfBoundsException") (text := "there is no such machine") (ik := 141) (is := 146) (ic := 145) (names := ["java/lang/RuntimeException", "java/lang/Exception"]) B.exec B.bytes hst hown (by decide +kernel) (by decide +kernel) (hts _ (by decide +kernel)) (hts _ (by decide +kernel)) (xw_146 hXw).choose_spec (vx_hat (fun w hw => hts w (xg_X6_requireMachine_145 w hw)) (xdc_145) (fun w hw => xw_dc hXw w hw)) xot_145_141 hXs.1 hXs.2 hSt.2.2 (hsz.trans hml.symm) dX6_requireMachine_9 dX6_requireMachine_12 dX6_requireMachine_13 dX6_requireMachine_15 dX6_requireMachine_18 (fun x hx => (hnt x hx).elim) (Nat.le_of_ble_eq_true rfl) (Nat.le_of_ble_eq_true rfl) (Nat.le_of_ble_eq_true rfl) (Nat.le_of_ble_eq_true rfl) B.notSynchronized (fun t hal hz hk => ⟨(), trivial, ⟨hq, cPostX_of hAe hal hk hSt hK⟩, xF_of hSt.2.2 hz hk⟩) hSt.2.2.2.2 (Nat.le_of_ble_eq_true rfl) (Nat.le_of_ble_eq_true rfl))

-- ===== X6_time
theorem fl_X6_time_12 : Cond.fieldLink RX6 12 "UnlikeUnion" "list" "LUnlikeUnion$Jobs;" ∈ wsX6_time := by decide +kernel
theorem in_X6_time_X6 : ∀ w ∈ u_ws RX6 TX6 7, w ∈ wsX6_time := by decide +kernel
abbrev rmX6_time : Room := { frames := 11, cells := 2, slots := 12, locals := 281 }
def p_X6_time (N : Nat) (ti : Nat → Int32) (co : Int32) (Q : Int32 → Prop) (QX : String → Prop) (x1 : Int32) (x2 : Int32) : Prop :=
  p_X6_requireJob N co (p_X6_requireMachine N (p_X1_timeOn N ti co (fun r_1 => Q r_1) x1 x2) QX x2) QX x1

set_option maxHeartbeats 4000000 in
set_option maxRecDepth 100000 in
theorem k_X6_time_0 {N : Nat} {ss : Int32} {ds : Int32} {ti : Nat → Int32} {co : Int32} {oma : Nat → Int32} {obr : Int32} {obj : Int32} {obo : Int32} {obm : Int32} {plo : Nat → Int32} {pch : Nat → Int32} {pbe : Nat → Int32} {pbl : Int32} {dnu : Nat → Int32} {dde : Nat → Int32} {dbo : Int32} {dln : Int32} {dld : Int32} {tba : Nat → Int32} {tal : Nat → Int32} {tro : Int32} {tsc : Int64} {tcl : Nat → Nat → Int64} {rma : Nat → Int32} {Q : Int32 → Prop} {QX : String → Prop} (C0 : cxM cX6_time 3 (some .int) RX6 wsX6_time p s m args meth c dC dI cy A) :
    ∀ (x1 : Int32) (x2 : Int32) (H : Heap) (locs : List Loc) (ls : Array Slot) (hm : p_X6_time N ti co Q QX x1 x2) (hSt : stC dC dI A s (wC ad cy ss ds ti co oma obr obj obo obm plo pch pbe pbl dnu dde dbo dln dld tba tal tro tsc tcl rma) H locs) (hl : lv_has ls 3 [(0, .ref (ad 0)), (1, .int x1), (2, .int x2)]) (hret : ∀ (r : Int32) (H : Heap) (locs : List Loc) (ls : Array Slot) (pc : Nat), decode cX6_time pc = .ok (.ireturn, 1) → stC dC dI A s (wC ad cy ss ds ti co oma obr obj obo obm plo pch pbe pbl dnu dde dbo dln dld tba tal tro tsc tcl rma) H locs → Q r → W p l e rmX6_time s m args below meth c H locs 2 12 Z (F0 m pc ls [.int r])) (hXw : xwC s) (hXs : xsC A s s.heap) (hst : l.stackTraces = false) (hO : ∀ (E : String) (ce : Cell) (q9 : Addr) (H : Heap) (locs : List Loc) (ls : Array Slot) (pc : Nat) (rest : List Value), QX E → stC dC dI A s (wC ad cy ss ds ti co oma obr obj obo obm plo pch pbe pbl dnu dde dbo dln dld tba tal tro tsc tcl rma) H locs → H[q9]? = some ce → ce.vm = .none → s.vm.findClass E = some ce.cls → vx_W p l e rmX6_time s m args below meth c H locs 2 12 Z (F0 m pc ls rest) q9), W p l e rmX6_time s m args below meth c H locs 0 0 Z (F0 m 0 ls []) := by
  obtain ⟨hx, hb, hml, hr, hown, hts, hlocks, hK, hA, hN⟩ := id C0
  intro x1 x2 H locs ls hm hSt hl hret hXw hXs hst hO
  obtain ⟨hP, hD, hS⟩ := hSt
  unfold p_X6_time at hm
  refine lv_aload_n hx hb dX6_time_0 rfl (lv_at hl 0 rfl) ?_
  refine lv_iload_n hx hb dX6_time_1 rfl (lv_at hl 1 rfl) ?_
  have hFc := va_freeSame hD hS hA
  refine vx_callv (vx_runV (As := [.int x1]) (rest := []) ⟨hx, hb, hml, hown, hts⟩ (c_X6_requireJob l dC dI cy ad H.size ss ds ti co oma obr obj obo obm plo pch pbe pbl dnu dde dbo dln dld tba tal tro tsc tcl rma x1 _ _ QX hst hm) (cwV 1 hts gX6_time_X6_requireJob rfl rfl rfl (by decide +kernel) ⟨Nat.le_of_ble_eq_true rfl, Nat.le_of_ble_eq_true rfl⟩) ⟨cPreX_blind, va_recv hK hP (ci := 6) (q0 := 0) rfl rfl, fun U hU hW => ⟨rfl, cPreX_at hP hK hD hN hU hW hXw hXs hS hFc⟩⟩ rfl rfl hl.1 rfl (lv_room (Nat.le_of_ble_eq_true rfl)) dX6_time_2 ⟨Nat.le_of_ble_eq_true rfl, Nat.le_of_ble_eq_true rfl⟩) hS (fun q _ h => hFc q h) hFc (fun q _ h => hFc q h) (fun E ce q9 u t H locs ht hvm hpx hBX hz1 hk1 hS hce hcv hcl => vx_widen (by omega) (by omega) (hO E ce q9 H locs ls 2 [] hBX.1 ⟨cPost_P ht hBX.2, cPost_D hFc hBX.2, hS⟩ hce hcv hcl)) (fun u t H locs ht hvm hw hB hz1 hk1 hS => ?_)
  try dsimp only at hw
  have hm := hw
  have hP : va_P (dC, dI) vwCl (wC ad cy ss ds ti co oma obr obj obo obm plo pch pbe pbl dnu dde dbo dln dld tba tal tro tsc tcl rma) H := cPost_P ht hB
  have hD : va_D A (wC ad cy ss ds ti co oma obr obj obo obm plo pch pbe pbl dnu dde dbo dln dld tba tal tro tsc tcl rma) := cPost_D hFc hB
  refine lv_iload_n hx hb dX6_time_5 rfl (lv_at hl 2 rfl) ?_
  have hFc := va_freeSame hD hS hA
  refine vx_callv (vx_runS (As := [.int x2]) (rest := []) ⟨hx, hb, hml, hown, hts⟩ (c_X6_requireMachine l dC dI cy ad H.size ss ds ti co oma obr obj obo obm plo pch pbe pbl dnu dde dbo dln dld tba tal tro tsc tcl rma x2 _ _ QX hst hm) (cwS 1 hts gX6_time_X6_requireMachine rfl rfl rfl (by decide +kernel) ⟨Nat.le_of_ble_eq_true rfl, Nat.le_of_ble_eq_true rfl⟩) ⟨cPreX_blind, fun U hU hW => ⟨rfl, cPreX_at hP hK hD hN hU hW hXw hXs hS hFc⟩⟩ rfl rfl hl.1 rfl (lv_room (Nat.le_of_ble_eq_true rfl)) dX6_time_6 ⟨Nat.le_of_ble_eq_true rfl, Nat.le_of_ble_eq_true rfl⟩) hS (fun q _ h => hFc q h) hFc (fun q _ h => hFc q h) (fun E ce q9 u t H locs ht hvm hpx hBX hz1 hk1 hS hce hcv hcl => vx_widen (by omega) (by omega) (hO E ce q9 H locs ls 6 [] hBX.1 ⟨cPost_P ht hBX.2, cPost_D hFc hBX.2, hS⟩ hce hcv hcl)) (fun u t H locs ht hvm hw hB hz1 hk1 hS => ?_)
  try dsimp only at hw
  have hm := hw
  have hP : va_P (dC, dI) vwCl (wC ad cy ss ds ti co oma obr obj obo obm plo pch pbe pbl dnu dde dbo dln dld tba tal tro tsc tcl rma) H := cPost_P ht hB
  have hD : va_D A (wC ad cy ss ds ti co oma obr obj obo obm plo pch pbe pbl dnu dde dbo dln dld tba tal tro tsc tcl rma) := cPost_D hFc hB
  refine lv_aload_n hx hb dX6_time_9 rfl (lv_at hl 0 rfl) ?_
  refine va_get (D := (dC, dI)) (ci := 6) (v := .ref (ad 1)) (C := RX6) (T := TX6) (N := 7) hx hb hts in_X6_time_X6 hown hK hP 0 rfl rfl 0 (by decide) (hts _ fl_X6_time_12) (fun _ h9 => h9) rfl dX6_time_10 ?_
  refine lv_iload_n hx hb dX6_time_13 rfl (lv_at hl 1 rfl) ?_
  refine lv_iload_n hx hb dX6_time_14 rfl (lv_at hl 2 rfl) ?_
  have hFc := va_freeSame hD hS hA
  refine va_calli (va_runV (As := [.int x1, .int x2]) (rest := []) ⟨hx, hb, hml, hown, hts⟩ (c_X1_timeOn l dC dI cy ad H.size ss ds ti co oma obr obj obo obm plo pch pbe pbl dnu dde dbo dln dld tba tal tro tsc tcl rma x1 x2 _ _ hm) (cwV 2 hts gX6_time_X1_timeOn rfl rfl rfl (by decide +kernel) ⟨Nat.le_of_ble_eq_true rfl, Nat.le_of_ble_eq_true rfl⟩) ⟨cPre_blind, va_recv hK hP (ci := 1) (q0 := 1) rfl rfl, fun U hU hW => ⟨rfl, cPre_at hP hK hD hN hU hW⟩⟩ rfl rfl hl.1 rfl (lv_room (Nat.le_of_ble_eq_true rfl)) dX6_time_15 ⟨Nat.le_of_ble_eq_true rfl, Nat.le_of_ble_eq_true rfl⟩) hS (fun q _ h => hFc q h) hFc (fun r_1 u t H locs ht hvm hw hB hz1 hk1 hS => ?_)
  try dsimp only at hw
  have hm := hw
  have hP : va_P (dC, dI) vwCl (wC ad cy ss ds ti co oma obr obj obo obm plo pch pbe pbl dnu dde dbo dln dld tba tal tro tsc tcl rma) H := cPost_P ht hB
  have hD : va_D A (wC ad cy ss ds ti co oma obr obj obo obm plo pch pbe pbl dnu dde dbo dln dld tba tal tro tsc tcl rma) := cPost_D hFc hB
  exact hret r_1 H locs ls 18 dX6_time_18 ⟨hP, hD, hS⟩ hm

set_option maxHeartbeats 4000000 in
set_option maxRecDepth 100000 in
theorem c_X6_time (l : Launch) (dC : Nat → ClassId) (dI : Nat → Nat → Nat) (cy : Nat → ClassId) (ad : Nat → Nat) (sz : Nat) (ss : Int32) (ds : Int32) (ti : Nat → Int32) (co : Int32) (oma : Nat → Int32) (obr : Int32) (obj : Int32) (obo : Int32) (obm : Int32) (plo : Nat → Int32) (pch : Nat → Int32) (pbe : Nat → Int32) (pbl : Int32) (dnu : Nat → Int32) (dde : Nat → Int32) (dbo : Int32) (dln : Int32) (dld : Int32) (tba : Nat → Int32) (tal : Nat → Int32) (tro : Int32) (tsc : Int64) (tcl : Nat → Nat → Int64) (rma : Nat → Int32) (x1 : Int32) (x2 : Int32) (N : Nat) (Q : Int32 → Prop) (QX : String → Prop) (hst : l.stackTraces = false) (hm : p_X6_time N ti co Q QX x1 x2) : vx_Met l yX6_time wsX6_time rmX6_time (va_Pc [.ref (ad 0), .int x1, .int x2] (cPreX dC dI cy (wC ad cy ss ds ti co oma obr obj obo obm plo pch pbe pbl dnu dde dbo dln dld tba tal tro tsc tcl rma) sz)) (va_Qi (fun (r : Int32) (u : Unit) => Q r) (fun u t => cPost dC dI cy (wC ad cy ss ds ti co oma obr obj obo obm plo pch pbe pbl dnu dde dbo dln dld tba tal tro tsc tcl rma) sz (wC ad cy ss ds ti co oma obr obj obo obm plo pch pbe pbl dnu dde dbo dln dld tba tal tro tsc tcl rma) t) (va_A (wC ad cy ss ds ti co oma obr obj obo obm plo pch pbe pbl dnu dde dbo dln dld tba tal tro tsc tcl rma) sz)) (vx_X (fun _ : Unit => True) (fun E _ t => QX E ∧ cPost dC dI cy (wC ad cy ss ds ti co oma obr obj obo obm plo pch pbe pbl dnu dde dbo dln dld tba tal tro tsc tcl rma) sz (wC ad cy ss ds ti co oma obr obj obo obm plo pch pbe pbl dnu dde dbo dln dld tba tal tro tsc tcl rma) t) (va_A (wC ad cy ss ds ti co oma obr obj obo obm plo pch pbe pbl dnu dde dbo dln dld tba tal tro tsc tcl rma) sz)) 2 12 (va_A (wC ad cy ss ds ti co oma obr obj obo obm plo pch pbe pbl dnu dde dbo dln dld tba tal tro tsc tcl rma) sz) := by
  refine vx_ofW (cc := cX6_time) (maxL := 3) (ret := (some .int)) (by decide) rfl ?_
  intro p e s m args below meth c s₁ B hml hnt hv
  obtain ⟨rfl, ⟨hsz, hP, hK, hD0, hN⟩, hXw, hXs⟩ := hv
  have hts := atoms_spec (ws := wsX6_time) B.pre
  have hown : s.vm.findClass RX6 = some m.cls := findClass_of_methodNamed B.named
  subst hsz
  have hD := hD0.self (sz := s.heap.size)
  generalize hAe : va_A (wC ad cy ss ds ti co oma obr obj obo obm plo pch pbe pbl dnu dde dbo dln dld tba tal tro tsc tcl rma) s.heap.size = A at hD hXs ⊢
  have hA : ∀ q : Nat, s.heap.size ≤ q → A q := fun q h => by rw [← hAe]; exact Or.inr h
  have hl := lv_entry ([.ref (ad 0), .int x1, .int x2]) (n := 3) (Nat.le_of_ble_eq_true rfl)
  rw [lg_entry_eq]
  generalize (lg_sl ([.ref (ad 0), .int x1, .int x2]) ++ List.replicate (3 - (lg_sl ([.ref (ad 0), .int x1, .int x2])).length) Slot.unset).toArray = ls at hl ⊢
  have hl : lv_has ls 3 [(0, .ref (ad 0)), (1, .int x1), (2, .int x2)] := hl
  exact k_X6_time_0 ⟨B.exec, B.bytes, hml, B.returns, hown, hts, B.notSynchronized, hK, hA, hN⟩ x1 x2 s.heap [] ls hm ⟨hP, hD, va_S.rf⟩ (lv_sub hl [0, 1, 2] rfl) (fun r H locs ls pc hdg hSt hq => vx_ret (W.iret B.exec B.bytes B.returns (fun t ht hW => ⟨⟨r, (), rfl, hq, cPost_of hAe ht hW.alike hSt hK⟩, hSt.2.2.F ht⟩) hSt.2.2.2.2 hdg B.notSynchronized)) hXw hXs hst (fun E ce q9 H locs ls pc rest hq hSt hce hcv hcl => vx_out (fun x hx => (hnt x hx).elim) B.notSynchronized hce hcv hcl (fun t ht hal => ⟨(), trivial, ⟨hq, cPost_of hAe ht hal hSt hK⟩, hSt.2.2.F ht⟩) hSt.2.2.2.2 (Nat.le_refl _) (Nat.le_refl _))

-- ===== X6_machine
theorem fl_X6_machine_19 : Cond.fieldLink RX6 19 "UnlikeUnion" "own" "LUnlikeUnion$OwnPlan;" ∈ wsX6_machine := by decide +kernel
theorem in_X6_machine_X2 : ∀ w ∈ u_ws RX2 TX2 5, w ∈ wsX6_machine := by decide +kernel
theorem in_X6_machine_X6 : ∀ w ∈ u_ws RX6 TX6 7, w ∈ wsX6_machine := by decide +kernel
abbrev rmX6_machine : Room := { frames := 11, cells := 1, slots := 6, locals := 281 }
def p_X6_machine (N : Nat) (co : Int32) (oma : Nat → Int32) (Q : Int32 → Prop) (QX : String → Prop) (x1 : Int32) : Prop :=
  p_X6_requireJob N co (vp_in x1 7 ∧ (Q (oma (x1).toNatClampNeg))) QX x1

set_option maxHeartbeats 4000000 in
set_option maxRecDepth 100000 in
theorem k_X6_machine_0 {N : Nat} {ss : Int32} {ds : Int32} {ti : Nat → Int32} {co : Int32} {oma : Nat → Int32} {obr : Int32} {obj : Int32} {obo : Int32} {obm : Int32} {plo : Nat → Int32} {pch : Nat → Int32} {pbe : Nat → Int32} {pbl : Int32} {dnu : Nat → Int32} {dde : Nat → Int32} {dbo : Int32} {dln : Int32} {dld : Int32} {tba : Nat → Int32} {tal : Nat → Int32} {tro : Int32} {tsc : Int64} {tcl : Nat → Nat → Int64} {rma : Nat → Int32} {Q : Int32 → Prop} {QX : String → Prop} (C0 : cxM cX6_machine 2 (some .int) RX6 wsX6_machine p s m args meth c dC dI cy A) :
    ∀ (x1 : Int32) (H : Heap) (locs : List Loc) (ls : Array Slot) (hm : p_X6_machine N co oma Q QX x1) (hSt : stC dC dI A s (wC ad cy ss ds ti co oma obr obj obo obm plo pch pbe pbl dnu dde dbo dln dld tba tal tro tsc tcl rma) H locs) (hl : lv_has ls 2 [(0, .ref (ad 0)), (1, .int x1)]) (hret : ∀ (r : Int32) (H : Heap) (locs : List Loc) (ls : Array Slot) (pc : Nat), decode cX6_machine pc = .ok (.ireturn, 1) → stC dC dI A s (wC ad cy ss ds ti co oma obr obj obo obm plo pch pbe pbl dnu dde dbo dln dld tba tal tro tsc tcl rma) H locs → Q r → W p l e rmX6_machine s m args below meth c H locs 1 6 Z (F0 m pc ls [.int r])) (hXw : xwC s) (hXs : xsC A s s.heap) (hst : l.stackTraces = false) (hO : ∀ (E : String) (ce : Cell) (q9 : Addr) (H : Heap) (locs : List Loc) (ls : Array Slot) (pc : Nat) (rest : List Value), QX E → stC dC dI A s (wC ad cy ss ds ti co oma obr obj obo obm plo pch pbe pbl dnu dde dbo dln dld tba tal tro tsc tcl rma) H locs → H[q9]? = some ce → ce.vm = .none → s.vm.findClass E = some ce.cls → vx_W p l e rmX6_machine s m args below meth c H locs 1 6 Z (F0 m pc ls rest) q9), W p l e rmX6_machine s m args below meth c H locs 0 0 Z (F0 m 0 ls []) := by
  obtain ⟨hx, hb, hml, hr, hown, hts, hlocks, hK, hA, hN⟩ := id C0
  intro x1 H locs ls hm hSt hl hret hXw hXs hst hO
  obtain ⟨hP, hD, hS⟩ := hSt
  unfold p_X6_machine at hm
  refine lv_aload_n hx hb dX6_machine_0 rfl (lv_at hl 0 rfl) ?_
  refine lv_iload_n hx hb dX6_machine_1 rfl (lv_at hl 1 rfl) ?_
  have hFc := va_freeSame hD hS hA
  refine vx_callv (vx_runV (As := [.int x1]) (rest := []) ⟨hx, hb, hml, hown, hts⟩ (c_X6_requireJob l dC dI cy ad H.size ss ds ti co oma obr obj obo obm plo pch pbe pbl dnu dde dbo dln dld tba tal tro tsc tcl rma x1 _ _ QX hst hm) (cwV 1 hts gX6_machine_X6_requireJob rfl rfl rfl (by decide +kernel) ⟨Nat.le_of_ble_eq_true rfl, Nat.le_of_ble_eq_true rfl⟩) ⟨cPreX_blind, va_recv hK hP (ci := 6) (q0 := 0) rfl rfl, fun U hU hW => ⟨rfl, cPreX_at hP hK hD hN hU hW hXw hXs hS hFc⟩⟩ rfl rfl hl.1 rfl (lv_room (Nat.le_of_ble_eq_true rfl)) dX6_machine_2 ⟨Nat.le_of_ble_eq_true rfl, Nat.le_of_ble_eq_true rfl⟩) hS (fun q _ h => hFc q h) hFc (fun q _ h => hFc q h) (fun E ce q9 u t H locs ht hvm hpx hBX hz1 hk1 hS hce hcv hcl => vx_widen (by omega) (by omega) (hO E ce q9 H locs ls 2 [] hBX.1 ⟨cPost_P ht hBX.2, cPost_D hFc hBX.2, hS⟩ hce hcv hcl)) (fun u t H locs ht hvm hw hB hz1 hk1 hS => ?_)
  try dsimp only at hw
  have hm := hw
  have hP : va_P (dC, dI) vwCl (wC ad cy ss ds ti co oma obr obj obo obm plo pch pbe pbl dnu dde dbo dln dld tba tal tro tsc tcl rma) H := cPost_P ht hB
  have hD : va_D A (wC ad cy ss ds ti co oma obr obj obo obm plo pch pbe pbl dnu dde dbo dln dld tba tal tro tsc tcl rma) := cPost_D hFc hB
  refine lv_aload_n hx hb dX6_machine_5 rfl (lv_at hl 0 rfl) ?_
  refine va_get (D := (dC, dI)) (ci := 6) (v := .ref (ad 3)) (C := RX6) (T := TX6) (N := 7) hx hb hts in_X6_machine_X6 hown hK hP 0 rfl rfl 1 (by decide) (hts _ fl_X6_machine_19) (fun _ h9 => h9) rfl dX6_machine_6 ?_
  refine va_getN (D := (dC, dI)) (ci := 2) (v := .ref (ad 4)) (C := RX2) (T := TX2) (N := 5) hx hb hts in_X6_machine_X2 hown hK hP 3 rfl rfl 0 (by decide) (va_Nw.use rfl (nw_X6_70 hN)) (fun _ h9 => h9) rfl dX6_machine_9 ?_
  refine lv_iload_n hx hb dX6_machine_12 rfl (lv_at hl 1 rfl) ?_
  have hi_1 := hm.1
  have hm := hm.2
  refine va_iald hx hb hK hP 4 0 rfl rfl hi_1 dX6_machine_13 ?_
  exact hret (oma (x1).toNatClampNeg) H locs ls 14 dX6_machine_14 ⟨hP, hD, hS⟩ hm

set_option maxHeartbeats 4000000 in
set_option maxRecDepth 100000 in
theorem c_X6_machine (l : Launch) (dC : Nat → ClassId) (dI : Nat → Nat → Nat) (cy : Nat → ClassId) (ad : Nat → Nat) (sz : Nat) (ss : Int32) (ds : Int32) (ti : Nat → Int32) (co : Int32) (oma : Nat → Int32) (obr : Int32) (obj : Int32) (obo : Int32) (obm : Int32) (plo : Nat → Int32) (pch : Nat → Int32) (pbe : Nat → Int32) (pbl : Int32) (dnu : Nat → Int32) (dde : Nat → Int32) (dbo : Int32) (dln : Int32) (dld : Int32) (tba : Nat → Int32) (tal : Nat → Int32) (tro : Int32) (tsc : Int64) (tcl : Nat → Nat → Int64) (rma : Nat → Int32) (x1 : Int32) (N : Nat) (Q : Int32 → Prop) (QX : String → Prop) (hst : l.stackTraces = false) (hm : p_X6_machine N co oma Q QX x1) : vx_Met l yX6_machine wsX6_machine rmX6_machine (va_Pc [.ref (ad 0), .int x1] (cPreX dC dI cy (wC ad cy ss ds ti co oma obr obj obo obm plo pch pbe pbl dnu dde dbo dln dld tba tal tro tsc tcl rma) sz)) (va_Qi (fun (r : Int32) (u : Unit) => Q r) (fun u t => cPost dC dI cy (wC ad cy ss ds ti co oma obr obj obo obm plo pch pbe pbl dnu dde dbo dln dld tba tal tro tsc tcl rma) sz (wC ad cy ss ds ti co oma obr obj obo obm plo pch pbe pbl dnu dde dbo dln dld tba tal tro tsc tcl rma) t) (va_A (wC ad cy ss ds ti co oma obr obj obo obm plo pch pbe pbl dnu dde dbo dln dld tba tal tro tsc tcl rma) sz)) (vx_X (fun _ : Unit => True) (fun E _ t => QX E ∧ cPost dC dI cy (wC ad cy ss ds ti co oma obr obj obo obm plo pch pbe pbl dnu dde dbo dln dld tba tal tro tsc tcl rma) sz (wC ad cy ss ds ti co oma obr obj obo obm plo pch pbe pbl dnu dde dbo dln dld tba tal tro tsc tcl rma) t) (va_A (wC ad cy ss ds ti co oma obr obj obo obm plo pch pbe pbl dnu dde dbo dln dld tba tal tro tsc tcl rma) sz)) 1 6 (va_A (wC ad cy ss ds ti co oma obr obj obo obm plo pch pbe pbl dnu dde dbo dln dld tba tal tro tsc tcl rma) sz) := by
  refine vx_ofW (cc := cX6_machine) (maxL := 2) (ret := (some .int)) (by decide) rfl ?_
  intro p e s m args below meth c s₁ B hml hnt hv
  obtain ⟨rfl, ⟨hsz, hP, hK, hD0, hN⟩, hXw, hXs⟩ := hv
  have hts := atoms_spec (ws := wsX6_machine) B.pre
  have hown : s.vm.findClass RX6 = some m.cls := findClass_of_methodNamed B.named
  subst hsz
  have hD := hD0.self (sz := s.heap.size)
  generalize hAe : va_A (wC ad cy ss ds ti co oma obr obj obo obm plo pch pbe pbl dnu dde dbo dln dld tba tal tro tsc tcl rma) s.heap.size = A at hD hXs ⊢
  have hA : ∀ q : Nat, s.heap.size ≤ q → A q := fun q h => by rw [← hAe]; exact Or.inr h
  have hl := lv_entry ([.ref (ad 0), .int x1]) (n := 2) (Nat.le_of_ble_eq_true rfl)
  rw [lg_entry_eq]
  generalize (lg_sl ([.ref (ad 0), .int x1]) ++ List.replicate (2 - (lg_sl ([.ref (ad 0), .int x1])).length) Slot.unset).toArray = ls at hl ⊢
  have hl : lv_has ls 2 [(0, .ref (ad 0)), (1, .int x1)] := hl
  exact k_X6_machine_0 ⟨B.exec, B.bytes, hml, B.returns, hown, hts, B.notSynchronized, hK, hA, hN⟩ x1 s.heap [] ls hm ⟨hP, hD, va_S.rf⟩ (lv_sub hl [0, 1] rfl) (fun r H locs ls pc hdg hSt hq => vx_ret (W.iret B.exec B.bytes B.returns (fun t ht hW => ⟨⟨r, (), rfl, hq, cPost_of hAe ht hW.alike hSt hK⟩, hSt.2.2.F ht⟩) hSt.2.2.2.2 hdg B.notSynchronized)) hXw hXs hst (fun E ce q9 H locs ls pc rest hq hSt hce hcv hcl => vx_out (fun x hx => (hnt x hx).elim) B.notSynchronized hce hcv hcl (fun t ht hal => ⟨(), trivial, ⟨hq, cPost_of hAe ht hal hSt hK⟩, hSt.2.2.F ht⟩) hSt.2.2.2.2 (Nat.le_refl _) (Nat.le_refl _))

-- ===== X6_load
theorem fl_X6_load_12 : Cond.fieldLink RX6 12 "UnlikeUnion" "list" "LUnlikeUnion$Jobs;" ∈ wsX6_load := by decide +kernel
theorem fl_X6_load_19 : Cond.fieldLink RX6 19 "UnlikeUnion" "own" "LUnlikeUnion$OwnPlan;" ∈ wsX6_load := by decide +kernel
theorem in_X6_load_X2 : ∀ w ∈ u_ws RX2 TX2 5, w ∈ wsX6_load := by decide +kernel
theorem in_X6_load_X6 : ∀ w ∈ u_ws RX6 TX6 7, w ∈ wsX6_load := by decide +kernel
abbrev rmX6_load : Room := { frames := 11, cells := 1, slots := 6, locals := 280 }
def p_X6_load (N : Nat) (ti : Nat → Int32) (co : Int32) (oma : Nat → Int32) (Q : Int32 → Prop) (QX : String → Prop) (x1 : Int32) : Prop :=
  p_X6_requireMachine N (p_X1_loadOn N oma ti co (fun r_1 => Q r_1) x1) QX x1

set_option maxHeartbeats 4000000 in
set_option maxRecDepth 100000 in
theorem k_X6_load_0 {N : Nat} {ss : Int32} {ds : Int32} {ti : Nat → Int32} {co : Int32} {oma : Nat → Int32} {obr : Int32} {obj : Int32} {obo : Int32} {obm : Int32} {plo : Nat → Int32} {pch : Nat → Int32} {pbe : Nat → Int32} {pbl : Int32} {dnu : Nat → Int32} {dde : Nat → Int32} {dbo : Int32} {dln : Int32} {dld : Int32} {tba : Nat → Int32} {tal : Nat → Int32} {tro : Int32} {tsc : Int64} {tcl : Nat → Nat → Int64} {rma : Nat → Int32} {Q : Int32 → Prop} {QX : String → Prop} (C0 : cxM cX6_load 2 (some .int) RX6 wsX6_load p s m args meth c dC dI cy A) :
    ∀ (x1 : Int32) (H : Heap) (locs : List Loc) (ls : Array Slot) (hm : p_X6_load N ti co oma Q QX x1) (hSt : stC dC dI A s (wC ad cy ss ds ti co oma obr obj obo obm plo pch pbe pbl dnu dde dbo dln dld tba tal tro tsc tcl rma) H locs) (hl : lv_has ls 2 [(0, .ref (ad 0)), (1, .int x1)]) (hret : ∀ (r : Int32) (H : Heap) (locs : List Loc) (ls : Array Slot) (pc : Nat), decode cX6_load pc = .ok (.ireturn, 1) → stC dC dI A s (wC ad cy ss ds ti co oma obr obj obo obm plo pch pbe pbl dnu dde dbo dln dld tba tal tro tsc tcl rma) H locs → Q r → W p l e rmX6_load s m args below meth c H locs 1 6 Z (F0 m pc ls [.int r])) (hXw : xwC s) (hXs : xsC A s s.heap) (hst : l.stackTraces = false) (hO : ∀ (E : String) (ce : Cell) (q9 : Addr) (H : Heap) (locs : List Loc) (ls : Array Slot) (pc : Nat) (rest : List Value), QX E → stC dC dI A s (wC ad cy ss ds ti co oma obr obj obo obm plo pch pbe pbl dnu dde dbo dln dld tba tal tro tsc tcl rma) H locs → H[q9]? = some ce → ce.vm = .none → s.vm.findClass E = some ce.cls → vx_W p l e rmX6_load s m args below meth c H locs 1 6 Z (F0 m pc ls rest) q9), W p l e rmX6_load s m args below meth c H locs 0 0 Z (F0 m 0 ls []) := by
  obtain ⟨hx, hb, hml, hr, hown, hts, hlocks, hK, hA, hN⟩ := id C0
  intro x1 H locs ls hm hSt hl hret hXw hXs hst hO
  obtain ⟨hP, hD, hS⟩ := hSt
  unfold p_X6_load at hm
  refine lv_iload_n hx hb dX6_load_0 rfl (lv_at hl 1 rfl) ?_
  have hFc := va_freeSame hD hS hA
  refine vx_callv (vx_runS (As := [.int x1]) (rest := []) ⟨hx, hb, hml, hown, hts⟩ (c_X6_requireMachine l dC dI cy ad H.size ss ds ti co oma obr obj obo obm plo pch pbe pbl dnu dde dbo dln dld tba tal tro tsc tcl rma x1 _ _ QX hst hm) (cwS 1 hts gX6_load_X6_requireMachine rfl rfl rfl (by decide +kernel) ⟨Nat.le_of_ble_eq_true rfl, Nat.le_of_ble_eq_true rfl⟩) ⟨cPreX_blind, fun U hU hW => ⟨rfl, cPreX_at hP hK hD hN hU hW hXw hXs hS hFc⟩⟩ rfl rfl hl.1 rfl (lv_room (Nat.le_of_ble_eq_true rfl)) dX6_load_1 ⟨Nat.le_of_ble_eq_true rfl, Nat.le_of_ble_eq_true rfl⟩) hS (fun q _ h => hFc q h) hFc (fun q _ h => hFc q h) (fun E ce q9 u t H locs ht hvm hpx hBX hz1 hk1 hS hce hcv hcl => vx_widen (by omega) (by omega) (hO E ce q9 H locs ls 1 [] hBX.1 ⟨cPost_P ht hBX.2, cPost_D hFc hBX.2, hS⟩ hce hcv hcl)) (fun u t H locs ht hvm hw hB hz1 hk1 hS => ?_)
  try dsimp only at hw
  have hm := hw
  have hP : va_P (dC, dI) vwCl (wC ad cy ss ds ti co oma obr obj obo obm plo pch pbe pbl dnu dde dbo dln dld tba tal tro tsc tcl rma) H := cPost_P ht hB
  have hD : va_D A (wC ad cy ss ds ti co oma obr obj obo obm plo pch pbe pbl dnu dde dbo dln dld tba tal tro tsc tcl rma) := cPost_D hFc hB
  refine lv_aload_n hx hb dX6_load_4 rfl (lv_at hl 0 rfl) ?_
  refine va_get (D := (dC, dI)) (ci := 6) (v := .ref (ad 1)) (C := RX6) (T := TX6) (N := 7) hx hb hts in_X6_load_X6 hown hK hP 0 rfl rfl 0 (by decide) (hts _ fl_X6_load_12) (fun _ h9 => h9) rfl dX6_load_5 ?_
  refine lv_aload_n hx hb dX6_load_8 rfl (lv_at hl 0 rfl) ?_
  refine va_get (D := (dC, dI)) (ci := 6) (v := .ref (ad 3)) (C := RX6) (T := TX6) (N := 7) hx hb hts in_X6_load_X6 hown hK hP 0 rfl rfl 1 (by decide) (hts _ fl_X6_load_19) (fun _ h9 => h9) rfl dX6_load_9 ?_
  refine va_getN (D := (dC, dI)) (ci := 2) (v := .ref (ad 4)) (C := RX2) (T := TX2) (N := 5) hx hb hts in_X6_load_X2 hown hK hP 3 rfl rfl 0 (by decide) (va_Nw.use rfl (nw_X6_70 hN)) (fun _ h9 => h9) rfl dX6_load_12 ?_
  refine lv_iload_n hx hb dX6_load_15 rfl (lv_at hl 1 rfl) ?_
  have hFc := va_freeSame hD hS hA
  refine va_calli (va_runV (As := [.ref (ad 4), .int x1]) (rest := []) ⟨hx, hb, hml, hown, hts⟩ (c_X1_loadOn_o l dC dI cy ad H.size ss ds ti co oma obr obj obo obm plo pch pbe pbl dnu dde dbo dln dld tba tal tro tsc tcl rma x1 _ _ hm) (cwV 2 hts gX6_load_X1_loadOn rfl rfl rfl (by decide +kernel) ⟨Nat.le_of_ble_eq_true rfl, Nat.le_of_ble_eq_true rfl⟩) ⟨cPre_blind, va_recv hK hP (ci := 1) (q0 := 1) rfl rfl, fun U hU hW => ⟨rfl, cPre_at hP hK hD hN hU hW⟩⟩ rfl rfl hl.1 rfl (lv_room (Nat.le_of_ble_eq_true rfl)) dX6_load_16 ⟨Nat.le_of_ble_eq_true rfl, Nat.le_of_ble_eq_true rfl⟩) hS (fun q _ h => hFc q h) hFc (fun r_1 u t H locs ht hvm hw hB hz1 hk1 hS => ?_)
  try dsimp only at hw
  have hm := hw
  have hP : va_P (dC, dI) vwCl (wC ad cy ss ds ti co oma obr obj obo obm plo pch pbe pbl dnu dde dbo dln dld tba tal tro tsc tcl rma) H := cPost_P ht hB
  have hD : va_D A (wC ad cy ss ds ti co oma obr obj obo obm plo pch pbe pbl dnu dde dbo dln dld tba tal tro tsc tcl rma) := cPost_D hFc hB
  exact hret r_1 H locs ls 19 dX6_load_19 ⟨hP, hD, hS⟩ hm

set_option maxHeartbeats 4000000 in
set_option maxRecDepth 100000 in
theorem c_X6_load (l : Launch) (dC : Nat → ClassId) (dI : Nat → Nat → Nat) (cy : Nat → ClassId) (ad : Nat → Nat) (sz : Nat) (ss : Int32) (ds : Int32) (ti : Nat → Int32) (co : Int32) (oma : Nat → Int32) (obr : Int32) (obj : Int32) (obo : Int32) (obm : Int32) (plo : Nat → Int32) (pch : Nat → Int32) (pbe : Nat → Int32) (pbl : Int32) (dnu : Nat → Int32) (dde : Nat → Int32) (dbo : Int32) (dln : Int32) (dld : Int32) (tba : Nat → Int32) (tal : Nat → Int32) (tro : Int32) (tsc : Int64) (tcl : Nat → Nat → Int64) (rma : Nat → Int32) (x1 : Int32) (N : Nat) (Q : Int32 → Prop) (QX : String → Prop) (hst : l.stackTraces = false) (hm : p_X6_load N ti co oma Q QX x1) : vx_Met l yX6_load wsX6_load rmX6_load (va_Pc [.ref (ad 0), .int x1] (cPreX dC dI cy (wC ad cy ss ds ti co oma obr obj obo obm plo pch pbe pbl dnu dde dbo dln dld tba tal tro tsc tcl rma) sz)) (va_Qi (fun (r : Int32) (u : Unit) => Q r) (fun u t => cPost dC dI cy (wC ad cy ss ds ti co oma obr obj obo obm plo pch pbe pbl dnu dde dbo dln dld tba tal tro tsc tcl rma) sz (wC ad cy ss ds ti co oma obr obj obo obm plo pch pbe pbl dnu dde dbo dln dld tba tal tro tsc tcl rma) t) (va_A (wC ad cy ss ds ti co oma obr obj obo obm plo pch pbe pbl dnu dde dbo dln dld tba tal tro tsc tcl rma) sz)) (vx_X (fun _ : Unit => True) (fun E _ t => QX E ∧ cPost dC dI cy (wC ad cy ss ds ti co oma obr obj obo obm plo pch pbe pbl dnu dde dbo dln dld tba tal tro tsc tcl rma) sz (wC ad cy ss ds ti co oma obr obj obo obm plo pch pbe pbl dnu dde dbo dln dld tba tal tro tsc tcl rma) t) (va_A (wC ad cy ss ds ti co oma obr obj obo obm plo pch pbe pbl dnu dde dbo dln dld tba tal tro tsc tcl rma) sz)) 1 6 (va_A (wC ad cy ss ds ti co oma obr obj obo obm plo pch pbe pbl dnu dde dbo dln dld tba tal tro tsc tcl rma) sz) := by
  refine vx_ofW (cc := cX6_load) (maxL := 2) (ret := (some .int)) (by decide) rfl ?_
  intro p e s m args below meth c s₁ B hml hnt hv
  obtain ⟨rfl, ⟨hsz, hP, hK, hD0, hN⟩, hXw, hXs⟩ := hv
  have hts := atoms_spec (ws := wsX6_load) B.pre
  have hown : s.vm.findClass RX6 = some m.cls := findClass_of_methodNamed B.named
  subst hsz
  have hD := hD0.self (sz := s.heap.size)
  generalize hAe : va_A (wC ad cy ss ds ti co oma obr obj obo obm plo pch pbe pbl dnu dde dbo dln dld tba tal tro tsc tcl rma) s.heap.size = A at hD hXs ⊢
  have hA : ∀ q : Nat, s.heap.size ≤ q → A q := fun q h => by rw [← hAe]; exact Or.inr h
  have hl := lv_entry ([.ref (ad 0), .int x1]) (n := 2) (Nat.le_of_ble_eq_true rfl)
  rw [lg_entry_eq]
  generalize (lg_sl ([.ref (ad 0), .int x1]) ++ List.replicate (2 - (lg_sl ([.ref (ad 0), .int x1])).length) Slot.unset).toArray = ls at hl ⊢
  have hl : lv_has ls 2 [(0, .ref (ad 0)), (1, .int x1)] := hl
  exact k_X6_load_0 ⟨B.exec, B.bytes, hml, B.returns, hown, hts, B.notSynchronized, hK, hA, hN⟩ x1 s.heap [] ls hm ⟨hP, hD, va_S.rf⟩ (lv_sub hl [0, 1] rfl) (fun r H locs ls pc hdg hSt hq => vx_ret (W.iret B.exec B.bytes B.returns (fun t ht hW => ⟨⟨r, (), rfl, hq, cPost_of hAe ht hW.alike hSt hK⟩, hSt.2.2.F ht⟩) hSt.2.2.2.2 hdg B.notSynchronized)) hXw hXs hst (fun E ce q9 H locs ls pc rest hq hSt hce hcv hcl => vx_out (fun x hx => (hnt x hx).elim) B.notSynchronized hce hcv hcl (fun t ht hal => ⟨(), trivial, ⟨hq, cPost_of hAe ht hal hSt hK⟩, hSt.2.2.F ht⟩) hSt.2.2.2.2 (Nat.le_refl _) (Nat.le_refl _))

-- ===== X6_addJob
theorem fl_X6_addJob_12 : Cond.fieldLink RX6 12 "UnlikeUnion" "list" "LUnlikeUnion$Jobs;" ∈ wsX6_addJob := by decide +kernel
theorem fl_X6_addJob_19 : Cond.fieldLink RX6 19 "UnlikeUnion" "own" "LUnlikeUnion$OwnPlan;" ∈ wsX6_addJob := by decide +kernel
theorem in_X6_addJob_X1 : ∀ w ∈ u_ws RX1 TX1 2, w ∈ wsX6_addJob := by decide +kernel
theorem in_X6_addJob_X2 : ∀ w ∈ u_ws RX2 TX2 5, w ∈ wsX6_addJob := by decide +kernel
theorem in_X6_addJob_X6 : ∀ w ∈ u_ws RX6 TX6 7, w ∈ wsX6_addJob := by decide +kernel
abbrev rmX6_addJob : Room := { frames := 10, cells := 1, slots := 6, locals := 200 }
theorem xg_X6_addJob_52 : ∀ w ∈ (vx_atS RX6 52 "java/lang/IllegalArgumentException" ["java/lang/RuntimeException", "java/lang/Exception"]).filter goodWord, w ∈ wsX6_addJob := by decide +kernel
theorem xg_X6_addJob_65 : ∀ w ∈ (vx_atS RX6 65 "java/lang/IllegalStateException" ["java/lang/RuntimeException", "java/lang/Exception"]).filter goodWord, w ∈ wsX6_addJob := by decide +kernel
def p_X6_addJob_53 (N : Nat) (Q : Int32 → Int32 → Int32 → (Nat → Int32) → Int32 → (Nat → Int32) → Prop) (QX : String → Prop) (x1 : Int32) (x2 : Int32) (x3 : Int32) (ss : Int32) (ds : Int32) (ti : Nat → Int32) (co : Int32) (oma : Nat → Int32) : Prop :=
  (co < 0 → (QX "java/lang/IllegalStateException")) ∧ (¬ co < 0 → ((co < (7 : Int32) → (∀ f_3 : Int32, f_3 = co + (1 : Int32) → (vp_in (co * (3 : Int32)) 21 ∧ (vp_in ((co * (3 : Int32)) + (1 : Int32)) 21 ∧ (vp_in ((co * (3 : Int32)) + (2 : Int32)) 21 ∧ ((x1 ≤ 0 → ((x2 ≤ 0 → (vp_in co 7 ∧ (p_X6_forgetResults N (fun ss_10 ds_11 => Q co ss_10 ds_11 (upd (upd (upd ti (co * (3 : Int32)).toNatClampNeg x1) ((co * (3 : Int32)) + (1 : Int32)).toNatClampNeg x2) ((co * (3 : Int32)) + (2 : Int32)).toNatClampNeg x3) f_3 (upd oma (co).toNatClampNeg (2 : Int32))) ss ds))) ∧ (¬ x2 ≤ 0 → (vp_in co 7 ∧ (p_X6_forgetResults N (fun ss_13 ds_14 => Q co ss_13 ds_14 (upd (upd (upd ti (co * (3 : Int32)).toNatClampNeg x1) ((co * (3 : Int32)) + (1 : Int32)).toNatClampNeg x2) ((co * (3 : Int32)) + (2 : Int32)).toNatClampNeg x3) f_3 (upd oma (co).toNatClampNeg (1 : Int32))) ss ds))))) ∧ (¬ x1 ≤ 0 → (vp_in co 7 ∧ (p_X6_forgetResults N (fun ss_16 ds_17 => Q co ss_16 ds_17 (upd (upd (upd ti (co * (3 : Int32)).toNatClampNeg x1) ((co * (3 : Int32)) + (1 : Int32)).toNatClampNeg x2) ((co * (3 : Int32)) + (2 : Int32)).toNatClampNeg x3) f_3 (upd oma (co).toNatClampNeg (0 : Int32))) ss ds))))))))) ∧ (¬ co < (7 : Int32) → (QX "java/lang/IllegalStateException"))))

def p_X6_addJob (N : Nat) (Q : Int32 → Int32 → Int32 → (Nat → Int32) → Int32 → (Nat → Int32) → Prop) (QX : String → Prop) (x1 : Int32) (x2 : Int32) (x3 : Int32) (ss : Int32) (ds : Int32) (ti : Nat → Int32) (co : Int32) (oma : Nat → Int32) : Prop :=
  p_X6_isTime N (fun r_1 => (r_1 = 0 → (QX "java/lang/IllegalArgumentException")) ∧ (¬ r_1 = 0 → (p_X6_isTime N (fun r_3 => (r_3 = 0 → (QX "java/lang/IllegalArgumentException")) ∧ (¬ r_3 = 0 → (p_X6_isTime N (fun r_5 => (r_5 = 0 → (QX "java/lang/IllegalArgumentException")) ∧ (¬ r_5 = 0 → ((x1 = 0 → ((x2 = 0 → ((x3 = 0 → (QX "java/lang/IllegalArgumentException")) ∧ (¬ x3 = 0 → (p_X6_addJob_53 N Q QX x1 x2 x3 ss ds ti co oma)))) ∧ (¬ x2 = 0 → (p_X6_addJob_53 N Q QX x1 x2 x3 ss ds ti co oma)))) ∧ (¬ x1 = 0 → (p_X6_addJob_53 N Q QX x1 x2 x3 ss ds ti co oma))))) x3))) x2))) x1

set_option maxHeartbeats 4000000 in
set_option maxRecDepth 100000 in
theorem k_X6_addJob_53 {N : Nat} {obr : Int32} {obj : Int32} {obo : Int32} {obm : Int32} {plo : Nat → Int32} {pch : Nat → Int32} {pbe : Nat → Int32} {pbl : Int32} {dnu : Nat → Int32} {dde : Nat → Int32} {dbo : Int32} {dln : Int32} {dld : Int32} {tba : Nat → Int32} {tal : Nat → Int32} {tro : Int32} {tsc : Int64} {tcl : Nat → Nat → Int64} {rma : Nat → Int32} {Q : Int32 → Int32 → Int32 → (Nat → Int32) → Int32 → (Nat → Int32) → Prop} {QX : String → Prop} (C0 : cxM cX6_addJob 5 (some .int) RX6 wsX6_addJob p s m args meth c dC dI cy A) :
    ∀ (x1 : Int32) (x2 : Int32) (x3 : Int32) (ss : Int32) (ds : Int32) (ti : Nat → Int32) (co : Int32) (oma : Nat → Int32) (H : Heap) (locs : List Loc) (ls : Array Slot) (hm : p_X6_addJob_53 N Q QX x1 x2 x3 ss ds ti co oma) (hSt : stC dC dI A s (wC ad cy ss ds ti co oma obr obj obo obm plo pch pbe pbl dnu dde dbo dln dld tba tal tro tsc tcl rma) H locs) (hl : lv_has ls 5 [(0, .ref (ad 0)), (1, .int x1), (2, .int x2), (3, .int x3)]) (hret : ∀ (r : Int32) (ss : Int32) (ds : Int32) (ti : Nat → Int32) (co : Int32) (oma : Nat → Int32) (H : Heap) (locs : List Loc) (ls : Array Slot) (pc : Nat), decode cX6_addJob pc = .ok (.ireturn, 1) → stC dC dI A s (wC ad cy ss ds ti co oma obr obj obo obm plo pch pbe pbl dnu dde dbo dln dld tba tal tro tsc tcl rma) H locs → Q r ss ds ti co oma → W p l e rmX6_addJob s m args below meth c H locs 1 6 Z (F0 m pc ls [.int r])) (hXw : xwC s) (hXs : xsC A s s.heap) (hst : l.stackTraces = false) (hX_74 : ∀ (H : Heap) (locs : List Loc) (ls : Array Slot), QX "java/lang/IllegalStateException" → stC dC dI A s (wC ad cy ss ds ti co oma obr obj obo obm plo pch pbe pbl dnu dde dbo dln dld tba tal tro tsc tcl rma) H locs → ls.size = 5 → W p l e rmX6_addJob s m args below meth c H locs 0 0 Z (F0 m 74 ls [])), W p l e rmX6_addJob s m args below meth c H locs 0 0 Z (F0 m 53 ls []) := by
  obtain ⟨hx, hb, hml, hr, hown, hts, hlocks, hK, hA, hN⟩ := id C0
  intro x1 x2 x3 ss ds ti co oma H locs ls hm hSt hl hret hXw hXs hst hX_74
  obtain ⟨hP, hD, hS⟩ := hSt
  unfold p_X6_addJob_53 at hm
  refine lv_aload_n hx hb dX6_addJob_53 rfl (lv_at hl 0 rfl) ?_
  refine va_get (D := (dC, dI)) (ci := 6) (v := .ref (ad 1)) (C := RX6) (T := TX6) (N := 7) hx hb hts in_X6_addJob_X6 hown hK hP 0 rfl rfl 0 (by decide) (hts _ fl_X6_addJob_12) (fun _ h9 => h9) rfl dX6_addJob_54 ?_
  refine va_getN (D := (dC, dI)) (ci := 1) (v := .int co) (C := RX1) (T := TX1) (N := 2) hx hb hts in_X6_addJob_X1 hown hK hP 1 rfl rfl 1 (by decide) (va_Nw.use rfl (nw_X6_57 hN)) (fun _ h9 => h9) rfl dX6_addJob_57 ?_
  refine lv_istore (lv' := [(4, .int co), (0, .ref (ad 0)), (1, .int x1), (2, .int x2), (3, .int x3)]) hx hb dX6_addJob_60 hl (by decide) rfl (fun ls hl => ?_)
  refine lv_iload hx hb dX6_addJob_62 (lv_at hl 0 rfl) ?_
  refine lv_if_lt (tgt := 74) hx hb dX6_addJob_64 (by decide) (fun c_1 => ?_) (fun c_1 => ?_)
  · have hm := hm.1 c_1
    exact hX_74 H locs ls hm ⟨hP, hD, hS⟩ hl.1
  · have hm := hm.2 c_1
    refine lv_iload hx hb dX6_addJob_67 (lv_at hl 0 rfl) ?_
    refine lv_bipush (v := 7) hx hb dX6_addJob_69 (by decide) ?_
    refine lv_icmp_lt (tgt := 84) hx hb dX6_addJob_71 (by decide) (fun c_2 => ?_) (fun c_2 => ?_)
    · have hm := hm.1 c_2
      refine lv_aload_n hx hb dX6_addJob_84 rfl (lv_at hl 1 rfl) ?_
      refine va_get (D := (dC, dI)) (ci := 6) (v := .ref (ad 1)) (C := RX6) (T := TX6) (N := 7) hx hb hts in_X6_addJob_X6 hown hK hP 0 rfl rfl 0 (by decide) (hts _ fl_X6_addJob_12) (fun _ h9 => h9) rfl dX6_addJob_85 ?_
      refine lv_iload hx hb dX6_addJob_88 (lv_at hl 0 rfl) ?_
      refine lv_iconst (v := 1) hx hb dX6_addJob_90 (by decide) ?_
      refine lv_iadd hx hb dX6_addJob_91 ?_
      refine lv_topi (fun f_3 ef_3 => ?_)
      have hm := hm f_3 ef_3
      refine va_putN (D := (dC, dI)) (ci := 1) (v := .int f_3) (ty := .int) (C := RX1) (T := TX1) (N := 2) hx hb hts in_X6_addJob_X1 tyX1 tyX1_ok nmX1 hown hK hP hD hS 1 rfl rfl 1 (by decide) (va_Nw.use rfl (nw_X6_57 hN)) (fun _ h9 => h9) rfl (by decide +kernel) rfl rfl (Nat.le_of_ble_eq_true rfl) dX6_addJob_92 (fun H locs hP hD hS => ?_)
      have hP : va_P (dC, dI) vwCl (wC ad cy ss ds ti f_3 oma obr obj obo obm plo pch pbe pbl dnu dde dbo dln dld tba tal tro tsc tcl rma) H := hP
      have hD : va_D A (wC ad cy ss ds ti f_3 oma obr obj obo obm plo pch pbe pbl dnu dde dbo dln dld tba tal tro tsc tcl rma) := hD
      refine lv_aload_n hx hb dX6_addJob_95 rfl (lv_at hl 1 rfl) ?_
      refine va_get (D := (dC, dI)) (ci := 6) (v := .ref (ad 1)) (C := RX6) (T := TX6) (N := 7) hx hb hts in_X6_addJob_X6 hown hK hP 0 rfl rfl 0 (by decide) (hts _ fl_X6_addJob_12) (fun _ h9 => h9) rfl dX6_addJob_96 ?_
      refine va_getN (D := (dC, dI)) (ci := 1) (v := .ref (ad 2)) (C := RX1) (T := TX1) (N := 2) hx hb hts in_X6_addJob_X1 hown hK hP 1 rfl rfl 0 (by decide) (va_Nw.use rfl (nw_X6_66 hN)) (fun _ h9 => h9) rfl dX6_addJob_99 ?_
      refine lv_iload hx hb dX6_addJob_102 (lv_at hl 0 rfl) ?_
      refine lv_iconst (v := 3) hx hb dX6_addJob_104 (by decide) ?_
      refine lv_imul hx hb dX6_addJob_105 ?_
      refine lv_iload_n hx hb dX6_addJob_106 rfl (lv_at hl 2 rfl) ?_
      have hi_4 := hm.1
      have hm := hm.2
      refine va_iast hx hb hK hP hD hS 2 0 rfl rfl hi_4 dX6_addJob_107 (fun H locs hP hD hS => ?_)
      have hP : va_P (dC, dI) vwCl (wC ad cy ss ds (upd ti (co * (3 : Int32)).toNatClampNeg x1) f_3 oma obr obj obo obm plo pch pbe pbl dnu dde dbo dln dld tba tal tro tsc tcl rma) H := hP
      have hD : va_D A (wC ad cy ss ds (upd ti (co * (3 : Int32)).toNatClampNeg x1) f_3 oma obr obj obo obm plo pch pbe pbl dnu dde dbo dln dld tba tal tro tsc tcl rma) := hD
      refine lv_aload_n hx hb dX6_addJob_108 rfl (lv_at hl 1 rfl) ?_
      refine va_get (D := (dC, dI)) (ci := 6) (v := .ref (ad 1)) (C := RX6) (T := TX6) (N := 7) hx hb hts in_X6_addJob_X6 hown hK hP 0 rfl rfl 0 (by decide) (hts _ fl_X6_addJob_12) (fun _ h9 => h9) rfl dX6_addJob_109 ?_
      refine va_getN (D := (dC, dI)) (ci := 1) (v := .ref (ad 2)) (C := RX1) (T := TX1) (N := 2) hx hb hts in_X6_addJob_X1 hown hK hP 1 rfl rfl 0 (by decide) (va_Nw.use rfl (nw_X6_66 hN)) (fun _ h9 => h9) rfl dX6_addJob_112 ?_
      refine lv_iload hx hb dX6_addJob_115 (lv_at hl 0 rfl) ?_
      refine lv_iconst (v := 3) hx hb dX6_addJob_117 (by decide) ?_
      refine lv_imul hx hb dX6_addJob_118 ?_
      refine lv_iconst (v := 1) hx hb dX6_addJob_119 (by decide) ?_
      refine lv_iadd hx hb dX6_addJob_120 ?_
      refine lv_iload_n hx hb dX6_addJob_121 rfl (lv_at hl 3 rfl) ?_
      have hi_5 := hm.1
      have hm := hm.2
      refine va_iast hx hb hK hP hD hS 2 0 rfl rfl hi_5 dX6_addJob_122 (fun H locs hP hD hS => ?_)
      have hP : va_P (dC, dI) vwCl (wC ad cy ss ds (upd (upd ti (co * (3 : Int32)).toNatClampNeg x1) ((co * (3 : Int32)) + (1 : Int32)).toNatClampNeg x2) f_3 oma obr obj obo obm plo pch pbe pbl dnu dde dbo dln dld tba tal tro tsc tcl rma) H := hP
      have hD : va_D A (wC ad cy ss ds (upd (upd ti (co * (3 : Int32)).toNatClampNeg x1) ((co * (3 : Int32)) + (1 : Int32)).toNatClampNeg x2) f_3 oma obr obj obo obm plo pch pbe pbl dnu dde dbo dln dld tba tal tro tsc tcl rma) := hD
      refine lv_aload_n hx hb dX6_addJob_123 rfl (lv_at hl 1 rfl) ?_
      refine va_get (D := (dC, dI)) (ci := 6) (v := .ref (ad 1)) (C := RX6) (T := TX6) (N := 7) hx hb hts in_X6_addJob_X6 hown hK hP 0 rfl rfl 0 (by decide) (hts _ fl_X6_addJob_12) (fun _ h9 => h9) rfl dX6_addJob_124 ?_
      refine va_getN (D := (dC, dI)) (ci := 1) (v := .ref (ad 2)) (C := RX1) (T := TX1) (N := 2) hx hb hts in_X6_addJob_X1 hown hK hP 1 rfl rfl 0 (by decide) (va_Nw.use rfl (nw_X6_66 hN)) (fun _ h9 => h9) rfl dX6_addJob_127 ?_
      refine lv_iload hx hb dX6_addJob_130 (lv_at hl 0 rfl) ?_
      refine lv_iconst (v := 3) hx hb dX6_addJob_132 (by decide) ?_
      refine lv_imul hx hb dX6_addJob_133 ?_
      refine lv_iconst (v := 2) hx hb dX6_addJob_134 (by decide) ?_
      refine lv_iadd hx hb dX6_addJob_135 ?_
      refine lv_iload_n hx hb dX6_addJob_136 rfl (lv_at hl 4 rfl) ?_
      have hi_6 := hm.1
      have hm := hm.2
      refine va_iast hx hb hK hP hD hS 2 0 rfl rfl hi_6 dX6_addJob_137 (fun H locs hP hD hS => ?_)
      have hP : va_P (dC, dI) vwCl (wC ad cy ss ds (upd (upd (upd ti (co * (3 : Int32)).toNatClampNeg x1) ((co * (3 : Int32)) + (1 : Int32)).toNatClampNeg x2) ((co * (3 : Int32)) + (2 : Int32)).toNatClampNeg x3) f_3 oma obr obj obo obm plo pch pbe pbl dnu dde dbo dln dld tba tal tro tsc tcl rma) H := hP
      have hD : va_D A (wC ad cy ss ds (upd (upd (upd ti (co * (3 : Int32)).toNatClampNeg x1) ((co * (3 : Int32)) + (1 : Int32)).toNatClampNeg x2) ((co * (3 : Int32)) + (2 : Int32)).toNatClampNeg x3) f_3 oma obr obj obo obm plo pch pbe pbl dnu dde dbo dln dld tba tal tro tsc tcl rma) := hD
      refine lv_aload_n hx hb dX6_addJob_138 rfl (lv_at hl 1 rfl) ?_
      refine va_get (D := (dC, dI)) (ci := 6) (v := .ref (ad 3)) (C := RX6) (T := TX6) (N := 7) hx hb hts in_X6_addJob_X6 hown hK hP 0 rfl rfl 1 (by decide) (hts _ fl_X6_addJob_19) (fun _ h9 => h9) rfl dX6_addJob_139 ?_
      refine va_getN (D := (dC, dI)) (ci := 2) (v := .ref (ad 4)) (C := RX2) (T := TX2) (N := 5) hx hb hts in_X6_addJob_X2 hown hK hP 3 rfl rfl 0 (by decide) (va_Nw.use rfl (nw_X6_70 hN)) (fun _ h9 => h9) rfl dX6_addJob_142 ?_
      refine lv_iload hx hb dX6_addJob_145 (lv_at hl 0 rfl) ?_
      refine lv_iload_n hx hb dX6_addJob_147 rfl (lv_at hl 2 rfl) ?_
      refine lv_if_le (tgt := 155) hx hb dX6_addJob_148 (by decide) (fun c_7 => ?_) (fun c_7 => ?_)
      · have hm := hm.1 c_7
        refine lv_iload_n hx hb dX6_addJob_155 rfl (lv_at hl 3 rfl) ?_
        refine lv_if_le (tgt := 163) hx hb dX6_addJob_156 (by decide) (fun c_8 => ?_) (fun c_8 => ?_)
        · have hm := hm.1 c_8
          refine lv_iconst (v := 2) hx hb dX6_addJob_163 (by decide) ?_
          have hi_9 := hm.1
          have hm := hm.2
          refine va_iast hx hb hK hP hD hS 4 0 rfl rfl hi_9 dX6_addJob_164 (fun H locs hP hD hS => ?_)
          have hP : va_P (dC, dI) vwCl (wC ad cy ss ds (upd (upd (upd ti (co * (3 : Int32)).toNatClampNeg x1) ((co * (3 : Int32)) + (1 : Int32)).toNatClampNeg x2) ((co * (3 : Int32)) + (2 : Int32)).toNatClampNeg x3) f_3 (upd oma (co).toNatClampNeg (2 : Int32)) obr obj obo obm plo pch pbe pbl dnu dde dbo dln dld tba tal tro tsc tcl rma) H := hP
          have hD : va_D A (wC ad cy ss ds (upd (upd (upd ti (co * (3 : Int32)).toNatClampNeg x1) ((co * (3 : Int32)) + (1 : Int32)).toNatClampNeg x2) ((co * (3 : Int32)) + (2 : Int32)).toNatClampNeg x3) f_3 (upd oma (co).toNatClampNeg (2 : Int32)) obr obj obo obm plo pch pbe pbl dnu dde dbo dln dld tba tal tro tsc tcl rma) := hD
          refine lv_aload_n hx hb dX6_addJob_165 rfl (lv_at hl 1 rfl) ?_
          have hFc := va_freeSame hD hS hA
          refine va_callv (va_runV (As := []) (rest := []) ⟨hx, hb, hml, hown, hts⟩ (c_X6_forgetResults l dC dI cy ad H.size ss ds (upd (upd (upd ti (co * (3 : Int32)).toNatClampNeg x1) ((co * (3 : Int32)) + (1 : Int32)).toNatClampNeg x2) ((co * (3 : Int32)) + (2 : Int32)).toNatClampNeg x3) f_3 (upd oma (co).toNatClampNeg (2 : Int32)) obr obj obo obm plo pch pbe pbl dnu dde dbo dln dld tba tal tro tsc tcl rma  _ _ hm) (cwV 0 hts gX6_addJob_X6_forgetResults rfl rfl rfl (by decide +kernel) ⟨Nat.le_of_ble_eq_true rfl, Nat.le_of_ble_eq_true rfl⟩) ⟨cPre_blind, va_recv hK hP (ci := 6) (q0 := 0) rfl rfl, fun U hU hW => ⟨rfl, cPre_at hP hK hD hN hU hW⟩⟩ rfl rfl hl.1 rfl (lv_room (Nat.le_of_ble_eq_true rfl)) dX6_addJob_166 ⟨Nat.le_of_ble_eq_true rfl, Nat.le_of_ble_eq_true rfl⟩) hS (fun q _ h => hFc q h) hFc (fun u t H locs ht hvm hw hB hz1 hk1 hS => ?_)
          obtain ⟨ss_10, ds_11⟩ := u
          try dsimp only at hw
          have hm := hw
          have hP : va_P (dC, dI) vwCl (wC ad cy ss_10 ds_11 (upd (upd (upd ti (co * (3 : Int32)).toNatClampNeg x1) ((co * (3 : Int32)) + (1 : Int32)).toNatClampNeg x2) ((co * (3 : Int32)) + (2 : Int32)).toNatClampNeg x3) f_3 (upd oma (co).toNatClampNeg (2 : Int32)) obr obj obo obm plo pch pbe pbl dnu dde dbo dln dld tba tal tro tsc tcl rma) H := cPost_P ht hB
          have hD : va_D A (wC ad cy ss_10 ds_11 (upd (upd (upd ti (co * (3 : Int32)).toNatClampNeg x1) ((co * (3 : Int32)) + (1 : Int32)).toNatClampNeg x2) ((co * (3 : Int32)) + (2 : Int32)).toNatClampNeg x3) f_3 (upd oma (co).toNatClampNeg (2 : Int32)) obr obj obo obm plo pch pbe pbl dnu dde dbo dln dld tba tal tro tsc tcl rma) := cPost_D hFc hB
          refine lv_iload hx hb dX6_addJob_169 (lv_at hl 0 rfl) ?_
          refine W.widen (k := 1) (n := 6) (by omega) (by omega) ?_
          exact hret co ss_10 ds_11 (upd (upd (upd ti (co * (3 : Int32)).toNatClampNeg x1) ((co * (3 : Int32)) + (1 : Int32)).toNatClampNeg x2) ((co * (3 : Int32)) + (2 : Int32)).toNatClampNeg x3) f_3 (upd oma (co).toNatClampNeg (2 : Int32)) H locs ls 171 dX6_addJob_171 ⟨hP, hD, hS⟩ hm
        · have hm := hm.2 c_8
          refine lv_iconst (v := 1) hx hb dX6_addJob_159 (by decide) ?_
          refine lv_goto (tgt := 164) hx hb dX6_addJob_160 (by decide) ?_
          have hi_12 := hm.1
          have hm := hm.2
          refine va_iast hx hb hK hP hD hS 4 0 rfl rfl hi_12 dX6_addJob_164 (fun H locs hP hD hS => ?_)
          have hP : va_P (dC, dI) vwCl (wC ad cy ss ds (upd (upd (upd ti (co * (3 : Int32)).toNatClampNeg x1) ((co * (3 : Int32)) + (1 : Int32)).toNatClampNeg x2) ((co * (3 : Int32)) + (2 : Int32)).toNatClampNeg x3) f_3 (upd oma (co).toNatClampNeg (1 : Int32)) obr obj obo obm plo pch pbe pbl dnu dde dbo dln dld tba tal tro tsc tcl rma) H := hP
          have hD : va_D A (wC ad cy ss ds (upd (upd (upd ti (co * (3 : Int32)).toNatClampNeg x1) ((co * (3 : Int32)) + (1 : Int32)).toNatClampNeg x2) ((co * (3 : Int32)) + (2 : Int32)).toNatClampNeg x3) f_3 (upd oma (co).toNatClampNeg (1 : Int32)) obr obj obo obm plo pch pbe pbl dnu dde dbo dln dld tba tal tro tsc tcl rma) := hD
          refine lv_aload_n hx hb dX6_addJob_165 rfl (lv_at hl 1 rfl) ?_
          have hFc := va_freeSame hD hS hA
          refine va_callv (va_runV (As := []) (rest := []) ⟨hx, hb, hml, hown, hts⟩ (c_X6_forgetResults l dC dI cy ad H.size ss ds (upd (upd (upd ti (co * (3 : Int32)).toNatClampNeg x1) ((co * (3 : Int32)) + (1 : Int32)).toNatClampNeg x2) ((co * (3 : Int32)) + (2 : Int32)).toNatClampNeg x3) f_3 (upd oma (co).toNatClampNeg (1 : Int32)) obr obj obo obm plo pch pbe pbl dnu dde dbo dln dld tba tal tro tsc tcl rma  _ _ hm) (cwV 0 hts gX6_addJob_X6_forgetResults rfl rfl rfl (by decide +kernel) ⟨Nat.le_of_ble_eq_true rfl, Nat.le_of_ble_eq_true rfl⟩) ⟨cPre_blind, va_recv hK hP (ci := 6) (q0 := 0) rfl rfl, fun U hU hW => ⟨rfl, cPre_at hP hK hD hN hU hW⟩⟩ rfl rfl hl.1 rfl (lv_room (Nat.le_of_ble_eq_true rfl)) dX6_addJob_166 ⟨Nat.le_of_ble_eq_true rfl, Nat.le_of_ble_eq_true rfl⟩) hS (fun q _ h => hFc q h) hFc (fun u t H locs ht hvm hw hB hz1 hk1 hS => ?_)
          obtain ⟨ss_13, ds_14⟩ := u
          try dsimp only at hw
          have hm := hw
          have hP : va_P (dC, dI) vwCl (wC ad cy ss_13 ds_14 (upd (upd (upd ti (co * (3 : Int32)).toNatClampNeg x1) ((co * (3 : Int32)) + (1 : Int32)).toNatClampNeg x2) ((co * (3 : Int32)) + (2 : Int32)).toNatClampNeg x3) f_3 (upd oma (co).toNatClampNeg (1 : Int32)) obr obj obo obm plo pch pbe pbl dnu dde dbo dln dld tba tal tro tsc tcl rma) H := cPost_P ht hB
          have hD : va_D A (wC ad cy ss_13 ds_14 (upd (upd (upd ti (co * (3 : Int32)).toNatClampNeg x1) ((co * (3 : Int32)) + (1 : Int32)).toNatClampNeg x2) ((co * (3 : Int32)) + (2 : Int32)).toNatClampNeg x3) f_3 (upd oma (co).toNatClampNeg (1 : Int32)) obr obj obo obm plo pch pbe pbl dnu dde dbo dln dld tba tal tro tsc tcl rma) := cPost_D hFc hB
          refine lv_iload hx hb dX6_addJob_169 (lv_at hl 0 rfl) ?_
          refine W.widen (k := 1) (n := 6) (by omega) (by omega) ?_
          exact hret co ss_13 ds_14 (upd (upd (upd ti (co * (3 : Int32)).toNatClampNeg x1) ((co * (3 : Int32)) + (1 : Int32)).toNatClampNeg x2) ((co * (3 : Int32)) + (2 : Int32)).toNatClampNeg x3) f_3 (upd oma (co).toNatClampNeg (1 : Int32)) H locs ls 171 dX6_addJob_171 ⟨hP, hD, hS⟩ hm
      · have hm := hm.2 c_7
        refine lv_iconst (v := 0) hx hb dX6_addJob_151 (by decide) ?_
        refine lv_goto (tgt := 164) hx hb dX6_addJob_152 (by decide) ?_
        have hi_15 := hm.1
        have hm := hm.2
        refine va_iast hx hb hK hP hD hS 4 0 rfl rfl hi_15 dX6_addJob_164 (fun H locs hP hD hS => ?_)
        have hP : va_P (dC, dI) vwCl (wC ad cy ss ds (upd (upd (upd ti (co * (3 : Int32)).toNatClampNeg x1) ((co * (3 : Int32)) + (1 : Int32)).toNatClampNeg x2) ((co * (3 : Int32)) + (2 : Int32)).toNatClampNeg x3) f_3 (upd oma (co).toNatClampNeg (0 : Int32)) obr obj obo obm plo pch pbe pbl dnu dde dbo dln dld tba tal tro tsc tcl rma) H := hP
        have hD : va_D A (wC ad cy ss ds (upd (upd (upd ti (co * (3 : Int32)).toNatClampNeg x1) ((co * (3 : Int32)) + (1 : Int32)).toNatClampNeg x2) ((co * (3 : Int32)) + (2 : Int32)).toNatClampNeg x3) f_3 (upd oma (co).toNatClampNeg (0 : Int32)) obr obj obo obm plo pch pbe pbl dnu dde dbo dln dld tba tal tro tsc tcl rma) := hD
        refine lv_aload_n hx hb dX6_addJob_165 rfl (lv_at hl 1 rfl) ?_
        have hFc := va_freeSame hD hS hA
        refine va_callv (va_runV (As := []) (rest := []) ⟨hx, hb, hml, hown, hts⟩ (c_X6_forgetResults l dC dI cy ad H.size ss ds (upd (upd (upd ti (co * (3 : Int32)).toNatClampNeg x1) ((co * (3 : Int32)) + (1 : Int32)).toNatClampNeg x2) ((co * (3 : Int32)) + (2 : Int32)).toNatClampNeg x3) f_3 (upd oma (co).toNatClampNeg (0 : Int32)) obr obj obo obm plo pch pbe pbl dnu dde dbo dln dld tba tal tro tsc tcl rma  _ _ hm) (cwV 0 hts gX6_addJob_X6_forgetResults rfl rfl rfl (by decide +kernel) ⟨Nat.le_of_ble_eq_true rfl, Nat.le_of_ble_eq_true rfl⟩) ⟨cPre_blind, va_recv hK hP (ci := 6) (q0 := 0) rfl rfl, fun U hU hW => ⟨rfl, cPre_at hP hK hD hN hU hW⟩⟩ rfl rfl hl.1 rfl (lv_room (Nat.le_of_ble_eq_true rfl)) dX6_addJob_166 ⟨Nat.le_of_ble_eq_true rfl, Nat.le_of_ble_eq_true rfl⟩) hS (fun q _ h => hFc q h) hFc (fun u t H locs ht hvm hw hB hz1 hk1 hS => ?_)
        obtain ⟨ss_16, ds_17⟩ := u
        try dsimp only at hw
        have hm := hw
        have hP : va_P (dC, dI) vwCl (wC ad cy ss_16 ds_17 (upd (upd (upd ti (co * (3 : Int32)).toNatClampNeg x1) ((co * (3 : Int32)) + (1 : Int32)).toNatClampNeg x2) ((co * (3 : Int32)) + (2 : Int32)).toNatClampNeg x3) f_3 (upd oma (co).toNatClampNeg (0 : Int32)) obr obj obo obm plo pch pbe pbl dnu dde dbo dln dld tba tal tro tsc tcl rma) H := cPost_P ht hB
        have hD : va_D A (wC ad cy ss_16 ds_17 (upd (upd (upd ti (co * (3 : Int32)).toNatClampNeg x1) ((co * (3 : Int32)) + (1 : Int32)).toNatClampNeg x2) ((co * (3 : Int32)) + (2 : Int32)).toNatClampNeg x3) f_3 (upd oma (co).toNatClampNeg (0 : Int32)) obr obj obo obm plo pch pbe pbl dnu dde dbo dln dld tba tal tro tsc tcl rma) := cPost_D hFc hB
        refine lv_iload hx hb dX6_addJob_169 (lv_at hl 0 rfl) ?_
        refine W.widen (k := 1) (n := 6) (by omega) (by omega) ?_
        exact hret co ss_16 ds_17 (upd (upd (upd ti (co * (3 : Int32)).toNatClampNeg x1) ((co * (3 : Int32)) + (1 : Int32)).toNatClampNeg x2) ((co * (3 : Int32)) + (2 : Int32)).toNatClampNeg x3) f_3 (upd oma (co).toNatClampNeg (0 : Int32)) H locs ls 171 dX6_addJob_171 ⟨hP, hD, hS⟩ hm
    · have hm := hm.2 c_2
      exact hX_74 H locs ls hm ⟨hP, hD, hS⟩ hl.1

set_option maxHeartbeats 4000000 in
set_option maxRecDepth 100000 in
theorem k_X6_addJob_0 {N : Nat} {obr : Int32} {obj : Int32} {obo : Int32} {obm : Int32} {plo : Nat → Int32} {pch : Nat → Int32} {pbe : Nat → Int32} {pbl : Int32} {dnu : Nat → Int32} {dde : Nat → Int32} {dbo : Int32} {dln : Int32} {dld : Int32} {tba : Nat → Int32} {tal : Nat → Int32} {tro : Int32} {tsc : Int64} {tcl : Nat → Nat → Int64} {rma : Nat → Int32} {Q : Int32 → Int32 → Int32 → (Nat → Int32) → Int32 → (Nat → Int32) → Prop} {QX : String → Prop} (C0 : cxM cX6_addJob 5 (some .int) RX6 wsX6_addJob p s m args meth c dC dI cy A) :
    ∀ (x1 : Int32) (x2 : Int32) (x3 : Int32) (ss : Int32) (ds : Int32) (ti : Nat → Int32) (co : Int32) (oma : Nat → Int32) (H : Heap) (locs : List Loc) (ls : Array Slot) (hm : p_X6_addJob N Q QX x1 x2 x3 ss ds ti co oma) (hSt : stC dC dI A s (wC ad cy ss ds ti co oma obr obj obo obm plo pch pbe pbl dnu dde dbo dln dld tba tal tro tsc tcl rma) H locs) (hl : lv_has ls 5 [(0, .ref (ad 0)), (1, .int x1), (2, .int x2), (3, .int x3)]) (hret : ∀ (r : Int32) (ss : Int32) (ds : Int32) (ti : Nat → Int32) (co : Int32) (oma : Nat → Int32) (H : Heap) (locs : List Loc) (ls : Array Slot) (pc : Nat), decode cX6_addJob pc = .ok (.ireturn, 1) → stC dC dI A s (wC ad cy ss ds ti co oma obr obj obo obm plo pch pbe pbl dnu dde dbo dln dld tba tal tro tsc tcl rma) H locs → Q r ss ds ti co oma → W p l e rmX6_addJob s m args below meth c H locs 1 6 Z (F0 m pc ls [.int r])) (hXw : xwC s) (hXs : xsC A s s.heap) (hst : l.stackTraces = false) (hX_21 : ∀ (H : Heap) (locs : List Loc) (ls : Array Slot), QX "java/lang/IllegalArgumentException" → stC dC dI A s (wC ad cy ss ds ti co oma obr obj obo obm plo pch pbe pbl dnu dde dbo dln dld tba tal tro tsc tcl rma) H locs → ls.size = 5 → W p l e rmX6_addJob s m args below meth c H locs 0 0 Z (F0 m 21 ls [])) (hX_43 : ∀ (H : Heap) (locs : List Loc) (ls : Array Slot), QX "java/lang/IllegalArgumentException" → stC dC dI A s (wC ad cy ss ds ti co oma obr obj obo obm plo pch pbe pbl dnu dde dbo dln dld tba tal tro tsc tcl rma) H locs → ls.size = 5 → W p l e rmX6_addJob s m args below meth c H locs 0 0 Z (F0 m 43 ls [])) (hX_74 : ∀ (H : Heap) (locs : List Loc) (ls : Array Slot), QX "java/lang/IllegalStateException" → stC dC dI A s (wC ad cy ss ds ti co oma obr obj obo obm plo pch pbe pbl dnu dde dbo dln dld tba tal tro tsc tcl rma) H locs → ls.size = 5 → W p l e rmX6_addJob s m args below meth c H locs 0 0 Z (F0 m 74 ls [])), W p l e rmX6_addJob s m args below meth c H locs 0 0 Z (F0 m 0 ls []) := by
  obtain ⟨hx, hb, hml, hr, hown, hts, hlocks, hK, hA, hN⟩ := id C0
  intro x1 x2 x3 ss ds ti co oma H locs ls hm hSt hl hret hXw hXs hst hX_21 hX_43 hX_74
  obtain ⟨hP, hD, hS⟩ := hSt
  unfold p_X6_addJob at hm
  refine lv_iload_n hx hb dX6_addJob_0 rfl (lv_at hl 1 rfl) ?_
  have hFc := va_freeSame hD hS hA
  refine va_calli (va_runS (As := [.int x1]) (rest := []) ⟨hx, hb, hml, hown, hts⟩ (c_X6_isTime l dC dI cy ad H.size ss ds ti co oma obr obj obo obm plo pch pbe pbl dnu dde dbo dln dld tba tal tro tsc tcl rma x1 _ _ hm) (cwS 1 hts gX6_addJob_X6_isTime rfl rfl rfl (by decide +kernel) ⟨Nat.le_of_ble_eq_true rfl, Nat.le_of_ble_eq_true rfl⟩) ⟨cPre_blind, fun U hU hW => ⟨rfl, cPre_at hP hK hD hN hU hW⟩⟩ rfl rfl hl.1 rfl (lv_room (Nat.le_of_ble_eq_true rfl)) dX6_addJob_1 ⟨Nat.le_of_ble_eq_true rfl, Nat.le_of_ble_eq_true rfl⟩) hS (fun q _ h => hFc q h) hFc (fun r_1 u t H locs ht hvm hw hB hz1 hk1 hS => ?_)
  try dsimp only at hw
  obtain ⟨hm, nar_r_1⟩ := hw
  have hP : va_P (dC, dI) vwCl (wC ad cy ss ds ti co oma obr obj obo obm plo pch pbe pbl dnu dde dbo dln dld tba tal tro tsc tcl rma) H := cPost_P ht hB
  have hD : va_D A (wC ad cy ss ds ti co oma obr obj obo obm plo pch pbe pbl dnu dde dbo dln dld tba tal tro tsc tcl rma) := cPost_D hFc hB
  refine lv_if_eq (tgt := 21) hx hb dX6_addJob_4 (by decide) (fun c_2 => ?_) (fun c_2 => ?_)
  · have hm := hm.1 c_2
    exact hX_21 H locs ls hm ⟨hP, hD, hS⟩ hl.1
  · have hm := hm.2 c_2
    refine lv_iload_n hx hb dX6_addJob_7 rfl (lv_at hl 2 rfl) ?_
    have hFc := va_freeSame hD hS hA
    refine va_calli (va_runS (As := [.int x2]) (rest := []) ⟨hx, hb, hml, hown, hts⟩ (c_X6_isTime l dC dI cy ad H.size ss ds ti co oma obr obj obo obm plo pch pbe pbl dnu dde dbo dln dld tba tal tro tsc tcl rma x2 _ _ hm) (cwS 1 hts gX6_addJob_X6_isTime rfl rfl rfl (by decide +kernel) ⟨Nat.le_of_ble_eq_true rfl, Nat.le_of_ble_eq_true rfl⟩) ⟨cPre_blind, fun U hU hW => ⟨rfl, cPre_at hP hK hD hN hU hW⟩⟩ rfl rfl hl.1 rfl (lv_room (Nat.le_of_ble_eq_true rfl)) dX6_addJob_8 ⟨Nat.le_of_ble_eq_true rfl, Nat.le_of_ble_eq_true rfl⟩) hS (fun q _ h => hFc q h) hFc (fun r_3 u t H locs ht hvm hw hB hz1 hk1 hS => ?_)
    try dsimp only at hw
    obtain ⟨hm, nar_r_3⟩ := hw
    have hP : va_P (dC, dI) vwCl (wC ad cy ss ds ti co oma obr obj obo obm plo pch pbe pbl dnu dde dbo dln dld tba tal tro tsc tcl rma) H := cPost_P ht hB
    have hD : va_D A (wC ad cy ss ds ti co oma obr obj obo obm plo pch pbe pbl dnu dde dbo dln dld tba tal tro tsc tcl rma) := cPost_D hFc hB
    refine lv_if_eq (tgt := 21) hx hb dX6_addJob_11 (by decide) (fun c_4 => ?_) (fun c_4 => ?_)
    · have hm := hm.1 c_4
      exact hX_21 H locs ls hm ⟨hP, hD, hS⟩ hl.1
    · have hm := hm.2 c_4
      refine lv_iload_n hx hb dX6_addJob_14 rfl (lv_at hl 3 rfl) ?_
      have hFc := va_freeSame hD hS hA
      refine va_calli (va_runS (As := [.int x3]) (rest := []) ⟨hx, hb, hml, hown, hts⟩ (c_X6_isTime l dC dI cy ad H.size ss ds ti co oma obr obj obo obm plo pch pbe pbl dnu dde dbo dln dld tba tal tro tsc tcl rma x3 _ _ hm) (cwS 1 hts gX6_addJob_X6_isTime rfl rfl rfl (by decide +kernel) ⟨Nat.le_of_ble_eq_true rfl, Nat.le_of_ble_eq_true rfl⟩) ⟨cPre_blind, fun U hU hW => ⟨rfl, cPre_at hP hK hD hN hU hW⟩⟩ rfl rfl hl.1 rfl (lv_room (Nat.le_of_ble_eq_true rfl)) dX6_addJob_15 ⟨Nat.le_of_ble_eq_true rfl, Nat.le_of_ble_eq_true rfl⟩) hS (fun q _ h => hFc q h) hFc (fun r_5 u t H locs ht hvm hw hB hz1 hk1 hS => ?_)
      try dsimp only at hw
      obtain ⟨hm, nar_r_5⟩ := hw
      have hP : va_P (dC, dI) vwCl (wC ad cy ss ds ti co oma obr obj obo obm plo pch pbe pbl dnu dde dbo dln dld tba tal tro tsc tcl rma) H := cPost_P ht hB
      have hD : va_D A (wC ad cy ss ds ti co oma obr obj obo obm plo pch pbe pbl dnu dde dbo dln dld tba tal tro tsc tcl rma) := cPost_D hFc hB
      refine lv_if_ne (tgt := 31) hx hb dX6_addJob_18 (by decide) (fun c_6 => ?_) (fun c_6 => ?_)
      · have hm := hm.2 c_6
        refine lv_iload_n hx hb dX6_addJob_31 rfl (lv_at hl 1 rfl) ?_
        refine lv_if_ne (tgt := 53) hx hb dX6_addJob_32 (by decide) (fun c_7 => ?_) (fun c_7 => ?_)
        · have hm := hm.2 c_7
          exact k_X6_addJob_53 C0 x1 x2 x3 ss ds ti co oma H locs ls hm ⟨hP, hD, hS⟩ (lv_sub hl [0, 1, 2, 3] rfl) hret hXw hXs hst hX_74
        · have hm := hm.1 c_7
          refine lv_iload_n hx hb dX6_addJob_35 rfl (lv_at hl 2 rfl) ?_
          refine lv_if_ne (tgt := 53) hx hb dX6_addJob_36 (by decide) (fun c_8 => ?_) (fun c_8 => ?_)
          · have hm := hm.2 c_8
            exact k_X6_addJob_53 C0 x1 x2 x3 ss ds ti co oma H locs ls hm ⟨hP, hD, hS⟩ (lv_sub hl [0, 1, 2, 3] rfl) hret hXw hXs hst hX_74
          · have hm := hm.1 c_8
            refine lv_iload_n hx hb dX6_addJob_39 rfl (lv_at hl 3 rfl) ?_
            refine lv_if_ne (tgt := 53) hx hb dX6_addJob_40 (by decide) (fun c_9 => ?_) (fun c_9 => ?_)
            · have hm := hm.2 c_9
              exact k_X6_addJob_53 C0 x1 x2 x3 ss ds ti co oma H locs ls hm ⟨hP, hD, hS⟩ (lv_sub hl [0, 1, 2, 3] rfl) hret hXw hXs hst hX_74
            · have hm := hm.1 c_9
              exact hX_43 H locs ls hm ⟨hP, hD, hS⟩ hl.1
      · have hm := hm.1 c_6
        exact hX_21 H locs ls hm ⟨hP, hD, hS⟩ hl.1

set_option maxHeartbeats 4000000 in
set_option maxRecDepth 100000 in
theorem c_X6_addJob (l : Launch) (dC : Nat → ClassId) (dI : Nat → Nat → Nat) (cy : Nat → ClassId) (ad : Nat → Nat) (sz : Nat) (ss : Int32) (ds : Int32) (ti : Nat → Int32) (co : Int32) (oma : Nat → Int32) (obr : Int32) (obj : Int32) (obo : Int32) (obm : Int32) (plo : Nat → Int32) (pch : Nat → Int32) (pbe : Nat → Int32) (pbl : Int32) (dnu : Nat → Int32) (dde : Nat → Int32) (dbo : Int32) (dln : Int32) (dld : Int32) (tba : Nat → Int32) (tal : Nat → Int32) (tro : Int32) (tsc : Int64) (tcl : Nat → Nat → Int64) (rma : Nat → Int32) (x1 : Int32) (x2 : Int32) (x3 : Int32) (N : Nat) (Q : Int32 → Int32 → Int32 → (Nat → Int32) → Int32 → (Nat → Int32) → Prop) (QX : String → Prop) (hst : l.stackTraces = false) (hm : p_X6_addJob N Q QX x1 x2 x3 ss ds ti co oma) : vx_Met l yX6_addJob wsX6_addJob rmX6_addJob (va_Pc [.ref (ad 0), .int x1, .int x2, .int x3] (cPreX dC dI cy (wC ad cy ss ds ti co oma obr obj obo obm plo pch pbe pbl dnu dde dbo dln dld tba tal tro tsc tcl rma) sz)) (va_Qi (fun (r : Int32) (u : Int32 × Int32 × (Nat → Int32) × Int32 × (Nat → Int32)) => Q r u.1 u.2.1 u.2.2.1 u.2.2.2.1 u.2.2.2.2) (fun u t => cPost dC dI cy (wC ad cy ss ds ti co oma obr obj obo obm plo pch pbe pbl dnu dde dbo dln dld tba tal tro tsc tcl rma) sz (wC ad cy (u.1) (u.2.1) (u.2.2.1) (u.2.2.2.1) (u.2.2.2.2) obr obj obo obm plo pch pbe pbl dnu dde dbo dln dld tba tal tro tsc tcl rma) t) (va_A (wC ad cy ss ds ti co oma obr obj obo obm plo pch pbe pbl dnu dde dbo dln dld tba tal tro tsc tcl rma) sz)) (vx_X (fun _ : Unit => True) (fun E _ t => QX E ∧ cPost dC dI cy (wC ad cy ss ds ti co oma obr obj obo obm plo pch pbe pbl dnu dde dbo dln dld tba tal tro tsc tcl rma) sz (wC ad cy ss ds ti co oma obr obj obo obm plo pch pbe pbl dnu dde dbo dln dld tba tal tro tsc tcl rma) t) (va_A (wC ad cy ss ds ti co oma obr obj obo obm plo pch pbe pbl dnu dde dbo dln dld tba tal tro tsc tcl rma) sz)) 1 6 (va_A (wC ad cy ss ds ti co oma obr obj obo obm plo pch pbe pbl dnu dde dbo dln dld tba tal tro tsc tcl rma) sz) := by
  refine vx_ofW (cc := cX6_addJob) (maxL := 5) (ret := (some .int)) (by decide) rfl ?_
  intro p e s m args below meth c s₁ B hml hnt hv
  obtain ⟨rfl, ⟨hsz, hP, hK, hD0, hN⟩, hXw, hXs⟩ := hv
  have hts := atoms_spec (ws := wsX6_addJob) B.pre
  have hown : s.vm.findClass RX6 = some m.cls := findClass_of_methodNamed B.named
  subst hsz
  have hD := hD0.self (sz := s.heap.size)
  generalize hAe : va_A (wC ad cy ss ds ti co oma obr obj obo obm plo pch pbe pbl dnu dde dbo dln dld tba tal tro tsc tcl rma) s.heap.size = A at hD hXs ⊢
  have hA : ∀ q : Nat, s.heap.size ≤ q → A q := fun q h => by rw [← hAe]; exact Or.inr h
  have hl := lv_entry ([.ref (ad 0), .int x1, .int x2, .int x3]) (n := 5) (Nat.le_of_ble_eq_true rfl)
  rw [lg_entry_eq]
  generalize (lg_sl ([.ref (ad 0), .int x1, .int x2, .int x3]) ++ List.replicate (5 - (lg_sl ([.ref (ad 0), .int x1, .int x2, .int x3])).length) Slot.unset).toArray = ls at hl ⊢
  have hl : lv_has ls 5 [(0, .ref (ad 0)), (1, .int x1), (2, .int x2), (3, .int x3)] := hl
  exact k_X6_addJob_0 ⟨B.exec, B.bytes, hml, B.returns, hown, hts, B.notSynchronized, hK, hA, hN⟩ x1 x2 x3 ss ds ti co oma s.heap [] ls hm ⟨hP, hD, va_S.rf⟩ (lv_sub hl [0, 1, 2, 3] rfl) (fun r ss ds ti co oma H locs ls pc hdg hSt hq => vx_ret (W.iret B.exec B.bytes B.returns (fun t ht hW => ⟨⟨r, (ss, ds, ti, co, oma), rfl, hq, cPost_of hAe ht hW.alike hSt hK⟩, hSt.2.2.F ht⟩) hSt.2.2.2.2 hdg B.notSynchronized)) hXw hXs hst (fun H locs ls hq hSt hsz => vx_throwS (A := A) (own := RX6) (cls := "java/lang/IllegalArgumentException") (text := "a time is not 0 to 50") (ik := 48) (is := 50) (ic := 52) (names := ["java/lang/RuntimeException", "java/lang/Exception"]) B.exec B.bytes hst hown (by decide +kernel) (by decide +kernel) (hts _ (by decide +kernel)) (hts _ (by decide +kernel)) (xw_50 hXw).choose_spec (vx_hat (fun w hw => hts w (xg_X6_addJob_52 w hw)) (xdc_52) (fun w hw => xw_dc hXw w hw)) xot_52_48 hXs.1 hXs.2 hSt.2.2 (hsz.trans hml.symm) dX6_addJob_21 dX6_addJob_24 dX6_addJob_25 dX6_addJob_27 dX6_addJob_30 (fun x hx => (hnt x hx).elim) (Nat.le_of_ble_eq_true rfl) (Nat.le_of_ble_eq_true rfl) (Nat.le_of_ble_eq_true rfl) (Nat.le_of_ble_eq_true rfl) B.notSynchronized (fun t hal hz hk => ⟨(), trivial, ⟨hq, cPostX_of hAe hal hk hSt hK⟩, xF_of hSt.2.2 hz hk⟩) hSt.2.2.2.2 (Nat.le_of_ble_eq_true rfl) (Nat.le_of_ble_eq_true rfl)) (fun H locs ls hq hSt hsz => vx_throwS (A := A) (own := RX6) (cls := "java/lang/IllegalArgumentException") (text := "the job cannot be done on any machine") (ik := 48) (is := 55) (ic := 52) (names := ["java/lang/RuntimeException", "java/lang/Exception"]) B.exec B.bytes hst hown (by decide +kernel) (by decide +kernel) (hts _ (by decide +kernel)) (hts _ (by decide +kernel)) (xw_55 hXw).choose_spec (vx_hat (fun w hw => hts w (xg_X6_addJob_52 w hw)) (xdc_52) (fun w hw => xw_dc hXw w hw)) xot_52_48 hXs.1 hXs.2 hSt.2.2 (hsz.trans hml.symm) dX6_addJob_43 dX6_addJob_46 dX6_addJob_47 dX6_addJob_49 dX6_addJob_52 (fun x hx => (hnt x hx).elim) (Nat.le_of_ble_eq_true rfl) (Nat.le_of_ble_eq_true rfl) (Nat.le_of_ble_eq_true rfl) (Nat.le_of_ble_eq_true rfl) B.notSynchronized (fun t hal hz hk => ⟨(), trivial, ⟨hq, cPostX_of hAe hal hk hSt hK⟩, xF_of hSt.2.2 hz hk⟩) hSt.2.2.2.2 (Nat.le_of_ble_eq_true rfl) (Nat.le_of_ble_eq_true rfl)) (fun H locs ls hq hSt hsz => vx_throwS (A := A) (own := RX6) (cls := "java/lang/IllegalStateException") (text := "there are 7 jobs") (ik := 61) (is := 63) (ic := 65) (names := ["java/lang/RuntimeException", "java/lang/Exception"]) B.exec B.bytes hst hown (by decide +kernel) (by decide +kernel) (hts _ (by decide +kernel)) (hts _ (by decide +kernel)) (xw_63 hXw).choose_spec (vx_hat (fun w hw => hts w (xg_X6_addJob_65 w hw)) (xdc_65) (fun w hw => xw_dc hXw w hw)) xot_65_61 hXs.1 hXs.2 hSt.2.2 (hsz.trans hml.symm) dX6_addJob_74 dX6_addJob_77 dX6_addJob_78 dX6_addJob_80 dX6_addJob_83 (fun x hx => (hnt x hx).elim) (Nat.le_of_ble_eq_true rfl) (Nat.le_of_ble_eq_true rfl) (Nat.le_of_ble_eq_true rfl) (Nat.le_of_ble_eq_true rfl) B.notSynchronized (fun t hal hz hk => ⟨(), trivial, ⟨hq, cPostX_of hAe hal hk hSt hK⟩, xF_of hSt.2.2 hz hk⟩) hSt.2.2.2.2 (Nat.le_of_ble_eq_true rfl) (Nat.le_of_ble_eq_true rfl))

-- ===== X6_setTime
theorem fl_X6_setTime_19 : Cond.fieldLink RX6 19 "UnlikeUnion" "own" "LUnlikeUnion$OwnPlan;" ∈ wsX6_setTime := by decide +kernel
theorem fl_X6_setTime_12 : Cond.fieldLink RX6 12 "UnlikeUnion" "list" "LUnlikeUnion$Jobs;" ∈ wsX6_setTime := by decide +kernel
theorem in_X6_setTime_X1 : ∀ w ∈ u_ws RX1 TX1 2, w ∈ wsX6_setTime := by decide +kernel
theorem in_X6_setTime_X2 : ∀ w ∈ u_ws RX2 TX2 5, w ∈ wsX6_setTime := by decide +kernel
theorem in_X6_setTime_X6 : ∀ w ∈ u_ws RX6 TX6 7, w ∈ wsX6_setTime := by decide +kernel
abbrev rmX6_setTime : Room := { frames := 11, cells := 3, slots := 18, locals := 281 }
theorem xg_X6_setTime_52 : ∀ w ∈ (vx_atS RX6 52 "java/lang/IllegalArgumentException" ["java/lang/RuntimeException", "java/lang/Exception"]).filter goodWord, w ∈ wsX6_setTime := by decide +kernel
theorem xg_X6_setTime_65 : ∀ w ∈ (vx_atS RX6 65 "java/lang/IllegalStateException" ["java/lang/RuntimeException", "java/lang/Exception"]).filter goodWord, w ∈ wsX6_setTime := by decide +kernel
def p_X6_setTime (N : Nat) (co : Int32) (oma : Nat → Int32) (Q : Int32 → Int32 → Int32 → (Nat → Int32) → Prop) (QX : String → Prop) (x1 : Int32) (x2 : Int32) (x3 : Int32) (ss : Int32) (ds : Int32) (ti : Nat → Int32) : Prop :=
  p_X6_requireJob N co (p_X6_requireMachine N (p_X6_isTime N (fun r_1 => (r_1 = 0 → (QX "java/lang/IllegalArgumentException")) ∧ (¬ r_1 = 0 → ((x3 = 0 → (vp_in x1 7 ∧ (((oma (x1).toNatClampNeg) = x2 → (QX "java/lang/IllegalStateException")) ∧ (¬ (oma (x1).toNatClampNeg) = x2 → (p_X1_timeOn N ti co (fun r_10 => vp_in ((x1 * (3 : Int32)) + x2) 21 ∧ (p_X6_forgetResults N (fun ss_12 ds_13 => Q r_10 ss_12 ds_13 (upd ti ((x1 * (3 : Int32)) + x2).toNatClampNeg x3)) ss ds)) x1 x2))))) ∧ (¬ x3 = 0 → (p_X1_timeOn N ti co (fun r_4 => vp_in ((x1 * (3 : Int32)) + x2) 21 ∧ (p_X6_forgetResults N (fun ss_6 ds_7 => Q r_4 ss_6 ds_7 (upd ti ((x1 * (3 : Int32)) + x2).toNatClampNeg x3)) ss ds)) x1 x2))))) x3) QX x2) QX x1

set_option maxHeartbeats 4000000 in
set_option maxRecDepth 100000 in
theorem k_X6_setTime_0 {N : Nat} {co : Int32} {oma : Nat → Int32} {obr : Int32} {obj : Int32} {obo : Int32} {obm : Int32} {plo : Nat → Int32} {pch : Nat → Int32} {pbe : Nat → Int32} {pbl : Int32} {dnu : Nat → Int32} {dde : Nat → Int32} {dbo : Int32} {dln : Int32} {dld : Int32} {tba : Nat → Int32} {tal : Nat → Int32} {tro : Int32} {tsc : Int64} {tcl : Nat → Nat → Int64} {rma : Nat → Int32} {Q : Int32 → Int32 → Int32 → (Nat → Int32) → Prop} {QX : String → Prop} (C0 : cxM cX6_setTime 5 (some .int) RX6 wsX6_setTime p s m args meth c dC dI cy A) :
    ∀ (x1 : Int32) (x2 : Int32) (x3 : Int32) (ss : Int32) (ds : Int32) (ti : Nat → Int32) (H : Heap) (locs : List Loc) (ls : Array Slot) (hm : p_X6_setTime N co oma Q QX x1 x2 x3 ss ds ti) (hSt : stC dC dI A s (wC ad cy ss ds ti co oma obr obj obo obm plo pch pbe pbl dnu dde dbo dln dld tba tal tro tsc tcl rma) H locs) (hl : lv_has ls 5 [(0, .ref (ad 0)), (1, .int x1), (2, .int x2), (3, .int x3)]) (hret : ∀ (r : Int32) (ss : Int32) (ds : Int32) (ti : Nat → Int32) (H : Heap) (locs : List Loc) (ls : Array Slot) (pc : Nat), decode cX6_setTime pc = .ok (.ireturn, 1) → stC dC dI A s (wC ad cy ss ds ti co oma obr obj obo obm plo pch pbe pbl dnu dde dbo dln dld tba tal tro tsc tcl rma) H locs → Q r ss ds ti → W p l e rmX6_setTime s m args below meth c H locs 3 18 Z (F0 m pc ls [.int r])) (hXw : xwC s) (hXs : xsC A s s.heap) (hst : l.stackTraces = false) (hX_16 : ∀ (H : Heap) (locs : List Loc) (ls : Array Slot), QX "java/lang/IllegalArgumentException" → stC dC dI A s (wC ad cy ss ds ti co oma obr obj obo obm plo pch pbe pbl dnu dde dbo dln dld tba tal tro tsc tcl rma) H locs → ls.size = 5 → W p l e rmX6_setTime s m args below meth c H locs 2 12 Z (F0 m 16 ls [])) (hX_43 : ∀ (H : Heap) (locs : List Loc) (ls : Array Slot), QX "java/lang/IllegalStateException" → stC dC dI A s (wC ad cy ss ds ti co oma obr obj obo obm plo pch pbe pbl dnu dde dbo dln dld tba tal tro tsc tcl rma) H locs → ls.size = 5 → W p l e rmX6_setTime s m args below meth c H locs 2 12 Z (F0 m 43 ls [])) (hO : ∀ (E : String) (ce : Cell) (q9 : Addr) (H : Heap) (locs : List Loc) (ls : Array Slot) (pc : Nat) (rest : List Value), QX E → stC dC dI A s (wC ad cy ss ds ti co oma obr obj obo obm plo pch pbe pbl dnu dde dbo dln dld tba tal tro tsc tcl rma) H locs → H[q9]? = some ce → ce.vm = .none → s.vm.findClass E = some ce.cls → vx_W p l e rmX6_setTime s m args below meth c H locs 3 18 Z (F0 m pc ls rest) q9), W p l e rmX6_setTime s m args below meth c H locs 0 0 Z (F0 m 0 ls []) := by
  obtain ⟨hx, hb, hml, hr, hown, hts, hlocks, hK, hA, hN⟩ := id C0
  intro x1 x2 x3 ss ds ti H locs ls hm hSt hl hret hXw hXs hst hX_16 hX_43 hO
  obtain ⟨hP, hD, hS⟩ := hSt
  unfold p_X6_setTime at hm
  refine lv_aload_n hx hb dX6_setTime_0 rfl (lv_at hl 0 rfl) ?_
  refine lv_iload_n hx hb dX6_setTime_1 rfl (lv_at hl 1 rfl) ?_
  have hFc := va_freeSame hD hS hA
  refine vx_callv (vx_runV (As := [.int x1]) (rest := []) ⟨hx, hb, hml, hown, hts⟩ (c_X6_requireJob l dC dI cy ad H.size ss ds ti co oma obr obj obo obm plo pch pbe pbl dnu dde dbo dln dld tba tal tro tsc tcl rma x1 _ _ QX hst hm) (cwV 1 hts gX6_setTime_X6_requireJob rfl rfl rfl (by decide +kernel) ⟨Nat.le_of_ble_eq_true rfl, Nat.le_of_ble_eq_true rfl⟩) ⟨cPreX_blind, va_recv hK hP (ci := 6) (q0 := 0) rfl rfl, fun U hU hW => ⟨rfl, cPreX_at hP hK hD hN hU hW hXw hXs hS hFc⟩⟩ rfl rfl hl.1 rfl (lv_room (Nat.le_of_ble_eq_true rfl)) dX6_setTime_2 ⟨Nat.le_of_ble_eq_true rfl, Nat.le_of_ble_eq_true rfl⟩) hS (fun q _ h => hFc q h) hFc (fun q _ h => hFc q h) (fun E ce q9 u t H locs ht hvm hpx hBX hz1 hk1 hS hce hcv hcl => vx_widen (by omega) (by omega) (hO E ce q9 H locs ls 2 [] hBX.1 ⟨cPost_P ht hBX.2, cPost_D hFc hBX.2, hS⟩ hce hcv hcl)) (fun u t H locs ht hvm hw hB hz1 hk1 hS => ?_)
  try dsimp only at hw
  have hm := hw
  have hP : va_P (dC, dI) vwCl (wC ad cy ss ds ti co oma obr obj obo obm plo pch pbe pbl dnu dde dbo dln dld tba tal tro tsc tcl rma) H := cPost_P ht hB
  have hD : va_D A (wC ad cy ss ds ti co oma obr obj obo obm plo pch pbe pbl dnu dde dbo dln dld tba tal tro tsc tcl rma) := cPost_D hFc hB
  refine lv_iload_n hx hb dX6_setTime_5 rfl (lv_at hl 2 rfl) ?_
  have hFc := va_freeSame hD hS hA
  refine vx_callv (vx_runS (As := [.int x2]) (rest := []) ⟨hx, hb, hml, hown, hts⟩ (c_X6_requireMachine l dC dI cy ad H.size ss ds ti co oma obr obj obo obm plo pch pbe pbl dnu dde dbo dln dld tba tal tro tsc tcl rma x2 _ _ QX hst hm) (cwS 1 hts gX6_setTime_X6_requireMachine rfl rfl rfl (by decide +kernel) ⟨Nat.le_of_ble_eq_true rfl, Nat.le_of_ble_eq_true rfl⟩) ⟨cPreX_blind, fun U hU hW => ⟨rfl, cPreX_at hP hK hD hN hU hW hXw hXs hS hFc⟩⟩ rfl rfl hl.1 rfl (lv_room (Nat.le_of_ble_eq_true rfl)) dX6_setTime_6 ⟨Nat.le_of_ble_eq_true rfl, Nat.le_of_ble_eq_true rfl⟩) hS (fun q _ h => hFc q h) hFc (fun q _ h => hFc q h) (fun E ce q9 u t H locs ht hvm hpx hBX hz1 hk1 hS hce hcv hcl => vx_widen (by omega) (by omega) (hO E ce q9 H locs ls 6 [] hBX.1 ⟨cPost_P ht hBX.2, cPost_D hFc hBX.2, hS⟩ hce hcv hcl)) (fun u t H locs ht hvm hw hB hz1 hk1 hS => ?_)
  try dsimp only at hw
  have hm := hw
  have hP : va_P (dC, dI) vwCl (wC ad cy ss ds ti co oma obr obj obo obm plo pch pbe pbl dnu dde dbo dln dld tba tal tro tsc tcl rma) H := cPost_P ht hB
  have hD : va_D A (wC ad cy ss ds ti co oma obr obj obo obm plo pch pbe pbl dnu dde dbo dln dld tba tal tro tsc tcl rma) := cPost_D hFc hB
  refine lv_iload_n hx hb dX6_setTime_9 rfl (lv_at hl 3 rfl) ?_
  have hFc := va_freeSame hD hS hA
  refine va_calli (va_runS (As := [.int x3]) (rest := []) ⟨hx, hb, hml, hown, hts⟩ (c_X6_isTime l dC dI cy ad H.size ss ds ti co oma obr obj obo obm plo pch pbe pbl dnu dde dbo dln dld tba tal tro tsc tcl rma x3 _ _ hm) (cwS 1 hts gX6_setTime_X6_isTime rfl rfl rfl (by decide +kernel) ⟨Nat.le_of_ble_eq_true rfl, Nat.le_of_ble_eq_true rfl⟩) ⟨cPre_blind, fun U hU hW => ⟨rfl, cPre_at hP hK hD hN hU hW⟩⟩ rfl rfl hl.1 rfl (lv_room (Nat.le_of_ble_eq_true rfl)) dX6_setTime_10 ⟨Nat.le_of_ble_eq_true rfl, Nat.le_of_ble_eq_true rfl⟩) hS (fun q _ h => hFc q h) hFc (fun r_1 u t H locs ht hvm hw hB hz1 hk1 hS => ?_)
  try dsimp only at hw
  obtain ⟨hm, nar_r_1⟩ := hw
  have hP : va_P (dC, dI) vwCl (wC ad cy ss ds ti co oma obr obj obo obm plo pch pbe pbl dnu dde dbo dln dld tba tal tro tsc tcl rma) H := cPost_P ht hB
  have hD : va_D A (wC ad cy ss ds ti co oma obr obj obo obm plo pch pbe pbl dnu dde dbo dln dld tba tal tro tsc tcl rma) := cPost_D hFc hB
  refine lv_if_ne (tgt := 26) hx hb dX6_setTime_13 (by decide) (fun c_2 => ?_) (fun c_2 => ?_)
  · have hm := hm.2 c_2
    refine lv_iload_n hx hb dX6_setTime_26 rfl (lv_at hl 3 rfl) ?_
    refine lv_if_ne (tgt := 53) hx hb dX6_setTime_27 (by decide) (fun c_3 => ?_) (fun c_3 => ?_)
    · have hm := hm.2 c_3
      refine lv_aload_n hx hb dX6_setTime_53 rfl (lv_at hl 0 rfl) ?_
      refine va_get (D := (dC, dI)) (ci := 6) (v := .ref (ad 1)) (C := RX6) (T := TX6) (N := 7) hx hb hts in_X6_setTime_X6 hown hK hP 0 rfl rfl 0 (by decide) (hts _ fl_X6_setTime_12) (fun _ h9 => h9) rfl dX6_setTime_54 ?_
      refine lv_iload_n hx hb dX6_setTime_57 rfl (lv_at hl 1 rfl) ?_
      refine lv_iload_n hx hb dX6_setTime_58 rfl (lv_at hl 2 rfl) ?_
      have hFc := va_freeSame hD hS hA
      refine va_calli (va_runV (As := [.int x1, .int x2]) (rest := []) ⟨hx, hb, hml, hown, hts⟩ (c_X1_timeOn l dC dI cy ad H.size ss ds ti co oma obr obj obo obm plo pch pbe pbl dnu dde dbo dln dld tba tal tro tsc tcl rma x1 x2 _ _ hm) (cwV 2 hts gX6_setTime_X1_timeOn rfl rfl rfl (by decide +kernel) ⟨Nat.le_of_ble_eq_true rfl, Nat.le_of_ble_eq_true rfl⟩) ⟨cPre_blind, va_recv hK hP (ci := 1) (q0 := 1) rfl rfl, fun U hU hW => ⟨rfl, cPre_at hP hK hD hN hU hW⟩⟩ rfl rfl hl.1 rfl (lv_room (Nat.le_of_ble_eq_true rfl)) dX6_setTime_59 ⟨Nat.le_of_ble_eq_true rfl, Nat.le_of_ble_eq_true rfl⟩) hS (fun q _ h => hFc q h) hFc (fun r_4 u t H locs ht hvm hw hB hz1 hk1 hS => ?_)
      try dsimp only at hw
      have hm := hw
      have hP : va_P (dC, dI) vwCl (wC ad cy ss ds ti co oma obr obj obo obm plo pch pbe pbl dnu dde dbo dln dld tba tal tro tsc tcl rma) H := cPost_P ht hB
      have hD : va_D A (wC ad cy ss ds ti co oma obr obj obo obm plo pch pbe pbl dnu dde dbo dln dld tba tal tro tsc tcl rma) := cPost_D hFc hB
      refine lv_istore (lv' := [(4, .int r_4), (0, .ref (ad 0)), (1, .int x1), (2, .int x2), (3, .int x3)]) hx hb dX6_setTime_62 hl (by decide) rfl (fun ls hl => ?_)
      refine lv_aload_n hx hb dX6_setTime_64 rfl (lv_at hl 1 rfl) ?_
      refine va_get (D := (dC, dI)) (ci := 6) (v := .ref (ad 1)) (C := RX6) (T := TX6) (N := 7) hx hb hts in_X6_setTime_X6 hown hK hP 0 rfl rfl 0 (by decide) (hts _ fl_X6_setTime_12) (fun _ h9 => h9) rfl dX6_setTime_65 ?_
      refine va_getN (D := (dC, dI)) (ci := 1) (v := .ref (ad 2)) (C := RX1) (T := TX1) (N := 2) hx hb hts in_X6_setTime_X1 hown hK hP 1 rfl rfl 0 (by decide) (va_Nw.use rfl (nw_X6_66 hN)) (fun _ h9 => h9) rfl dX6_setTime_68 ?_
      refine lv_iload_n hx hb dX6_setTime_71 rfl (lv_at hl 2 rfl) ?_
      refine lv_iconst (v := 3) hx hb dX6_setTime_72 (by decide) ?_
      refine lv_imul hx hb dX6_setTime_73 ?_
      refine lv_iload_n hx hb dX6_setTime_74 rfl (lv_at hl 3 rfl) ?_
      refine lv_iadd hx hb dX6_setTime_75 ?_
      refine lv_iload_n hx hb dX6_setTime_76 rfl (lv_at hl 4 rfl) ?_
      have hi_5 := hm.1
      have hm := hm.2
      refine va_iast hx hb hK hP hD hS 2 0 rfl rfl hi_5 dX6_setTime_77 (fun H locs hP hD hS => ?_)
      have hP : va_P (dC, dI) vwCl (wC ad cy ss ds (upd ti ((x1 * (3 : Int32)) + x2).toNatClampNeg x3) co oma obr obj obo obm plo pch pbe pbl dnu dde dbo dln dld tba tal tro tsc tcl rma) H := hP
      have hD : va_D A (wC ad cy ss ds (upd ti ((x1 * (3 : Int32)) + x2).toNatClampNeg x3) co oma obr obj obo obm plo pch pbe pbl dnu dde dbo dln dld tba tal tro tsc tcl rma) := hD
      refine lv_aload_n hx hb dX6_setTime_78 rfl (lv_at hl 1 rfl) ?_
      have hFc := va_freeSame hD hS hA
      refine va_callv (va_runV (As := []) (rest := []) ⟨hx, hb, hml, hown, hts⟩ (c_X6_forgetResults l dC dI cy ad H.size ss ds (upd ti ((x1 * (3 : Int32)) + x2).toNatClampNeg x3) co oma obr obj obo obm plo pch pbe pbl dnu dde dbo dln dld tba tal tro tsc tcl rma  _ _ hm) (cwV 0 hts gX6_setTime_X6_forgetResults rfl rfl rfl (by decide +kernel) ⟨Nat.le_of_ble_eq_true rfl, Nat.le_of_ble_eq_true rfl⟩) ⟨cPre_blind, va_recv hK hP (ci := 6) (q0 := 0) rfl rfl, fun U hU hW => ⟨rfl, cPre_at hP hK hD hN hU hW⟩⟩ rfl rfl hl.1 rfl (lv_room (Nat.le_of_ble_eq_true rfl)) dX6_setTime_79 ⟨Nat.le_of_ble_eq_true rfl, Nat.le_of_ble_eq_true rfl⟩) hS (fun q _ h => hFc q h) hFc (fun u t H locs ht hvm hw hB hz1 hk1 hS => ?_)
      obtain ⟨ss_6, ds_7⟩ := u
      try dsimp only at hw
      have hm := hw
      have hP : va_P (dC, dI) vwCl (wC ad cy ss_6 ds_7 (upd ti ((x1 * (3 : Int32)) + x2).toNatClampNeg x3) co oma obr obj obo obm plo pch pbe pbl dnu dde dbo dln dld tba tal tro tsc tcl rma) H := cPost_P ht hB
      have hD : va_D A (wC ad cy ss_6 ds_7 (upd ti ((x1 * (3 : Int32)) + x2).toNatClampNeg x3) co oma obr obj obo obm plo pch pbe pbl dnu dde dbo dln dld tba tal tro tsc tcl rma) := cPost_D hFc hB
      refine lv_iload hx hb dX6_setTime_82 (lv_at hl 0 rfl) ?_
      refine W.widen (k := 3) (n := 18) (by omega) (by omega) ?_
      exact hret r_4 ss_6 ds_7 (upd ti ((x1 * (3 : Int32)) + x2).toNatClampNeg x3) H locs ls 84 dX6_setTime_84 ⟨hP, hD, hS⟩ hm
    · have hm := hm.1 c_3
      refine lv_aload_n hx hb dX6_setTime_30 rfl (lv_at hl 0 rfl) ?_
      refine va_get (D := (dC, dI)) (ci := 6) (v := .ref (ad 3)) (C := RX6) (T := TX6) (N := 7) hx hb hts in_X6_setTime_X6 hown hK hP 0 rfl rfl 1 (by decide) (hts _ fl_X6_setTime_19) (fun _ h9 => h9) rfl dX6_setTime_31 ?_
      refine va_getN (D := (dC, dI)) (ci := 2) (v := .ref (ad 4)) (C := RX2) (T := TX2) (N := 5) hx hb hts in_X6_setTime_X2 hown hK hP 3 rfl rfl 0 (by decide) (va_Nw.use rfl (nw_X6_70 hN)) (fun _ h9 => h9) rfl dX6_setTime_34 ?_
      refine lv_iload_n hx hb dX6_setTime_37 rfl (lv_at hl 1 rfl) ?_
      have hi_8 := hm.1
      have hm := hm.2
      refine va_iald hx hb hK hP 4 0 rfl rfl hi_8 dX6_setTime_38 ?_
      refine lv_iload_n hx hb dX6_setTime_39 rfl (lv_at hl 2 rfl) ?_
      refine lv_icmp_ne (tgt := 53) hx hb dX6_setTime_40 (by decide) (fun c_9 => ?_) (fun c_9 => ?_)
      · have hm := hm.2 c_9
        refine lv_aload_n hx hb dX6_setTime_53 rfl (lv_at hl 0 rfl) ?_
        refine va_get (D := (dC, dI)) (ci := 6) (v := .ref (ad 1)) (C := RX6) (T := TX6) (N := 7) hx hb hts in_X6_setTime_X6 hown hK hP 0 rfl rfl 0 (by decide) (hts _ fl_X6_setTime_12) (fun _ h9 => h9) rfl dX6_setTime_54 ?_
        refine lv_iload_n hx hb dX6_setTime_57 rfl (lv_at hl 1 rfl) ?_
        refine lv_iload_n hx hb dX6_setTime_58 rfl (lv_at hl 2 rfl) ?_
        have hFc := va_freeSame hD hS hA
        refine va_calli (va_runV (As := [.int x1, .int x2]) (rest := []) ⟨hx, hb, hml, hown, hts⟩ (c_X1_timeOn l dC dI cy ad H.size ss ds ti co oma obr obj obo obm plo pch pbe pbl dnu dde dbo dln dld tba tal tro tsc tcl rma x1 x2 _ _ hm) (cwV 2 hts gX6_setTime_X1_timeOn rfl rfl rfl (by decide +kernel) ⟨Nat.le_of_ble_eq_true rfl, Nat.le_of_ble_eq_true rfl⟩) ⟨cPre_blind, va_recv hK hP (ci := 1) (q0 := 1) rfl rfl, fun U hU hW => ⟨rfl, cPre_at hP hK hD hN hU hW⟩⟩ rfl rfl hl.1 rfl (lv_room (Nat.le_of_ble_eq_true rfl)) dX6_setTime_59 ⟨Nat.le_of_ble_eq_true rfl, Nat.le_of_ble_eq_true rfl⟩) hS (fun q _ h => hFc q h) hFc (fun r_10 u t H locs ht hvm hw hB hz1 hk1 hS => ?_)
        try dsimp only at hw
        have hm := hw
        have hP : va_P (dC, dI) vwCl (wC ad cy ss ds ti co oma obr obj obo obm plo pch pbe pbl dnu dde dbo dln dld tba tal tro tsc tcl rma) H := cPost_P ht hB
        have hD : va_D A (wC ad cy ss ds ti co oma obr obj obo obm plo pch pbe pbl dnu dde dbo dln dld tba tal tro tsc tcl rma) := cPost_D hFc hB
        refine lv_istore (lv' := [(4, .int r_10), (0, .ref (ad 0)), (1, .int x1), (2, .int x2), (3, .int x3)]) hx hb dX6_setTime_62 hl (by decide) rfl (fun ls hl => ?_)
        refine lv_aload_n hx hb dX6_setTime_64 rfl (lv_at hl 1 rfl) ?_
        refine va_get (D := (dC, dI)) (ci := 6) (v := .ref (ad 1)) (C := RX6) (T := TX6) (N := 7) hx hb hts in_X6_setTime_X6 hown hK hP 0 rfl rfl 0 (by decide) (hts _ fl_X6_setTime_12) (fun _ h9 => h9) rfl dX6_setTime_65 ?_
        refine va_getN (D := (dC, dI)) (ci := 1) (v := .ref (ad 2)) (C := RX1) (T := TX1) (N := 2) hx hb hts in_X6_setTime_X1 hown hK hP 1 rfl rfl 0 (by decide) (va_Nw.use rfl (nw_X6_66 hN)) (fun _ h9 => h9) rfl dX6_setTime_68 ?_
        refine lv_iload_n hx hb dX6_setTime_71 rfl (lv_at hl 2 rfl) ?_
        refine lv_iconst (v := 3) hx hb dX6_setTime_72 (by decide) ?_
        refine lv_imul hx hb dX6_setTime_73 ?_
        refine lv_iload_n hx hb dX6_setTime_74 rfl (lv_at hl 3 rfl) ?_
        refine lv_iadd hx hb dX6_setTime_75 ?_
        refine lv_iload_n hx hb dX6_setTime_76 rfl (lv_at hl 4 rfl) ?_
        have hi_11 := hm.1
        have hm := hm.2
        refine va_iast hx hb hK hP hD hS 2 0 rfl rfl hi_11 dX6_setTime_77 (fun H locs hP hD hS => ?_)
        have hP : va_P (dC, dI) vwCl (wC ad cy ss ds (upd ti ((x1 * (3 : Int32)) + x2).toNatClampNeg x3) co oma obr obj obo obm plo pch pbe pbl dnu dde dbo dln dld tba tal tro tsc tcl rma) H := hP
        have hD : va_D A (wC ad cy ss ds (upd ti ((x1 * (3 : Int32)) + x2).toNatClampNeg x3) co oma obr obj obo obm plo pch pbe pbl dnu dde dbo dln dld tba tal tro tsc tcl rma) := hD
        refine lv_aload_n hx hb dX6_setTime_78 rfl (lv_at hl 1 rfl) ?_
        have hFc := va_freeSame hD hS hA
        refine va_callv (va_runV (As := []) (rest := []) ⟨hx, hb, hml, hown, hts⟩ (c_X6_forgetResults l dC dI cy ad H.size ss ds (upd ti ((x1 * (3 : Int32)) + x2).toNatClampNeg x3) co oma obr obj obo obm plo pch pbe pbl dnu dde dbo dln dld tba tal tro tsc tcl rma  _ _ hm) (cwV 0 hts gX6_setTime_X6_forgetResults rfl rfl rfl (by decide +kernel) ⟨Nat.le_of_ble_eq_true rfl, Nat.le_of_ble_eq_true rfl⟩) ⟨cPre_blind, va_recv hK hP (ci := 6) (q0 := 0) rfl rfl, fun U hU hW => ⟨rfl, cPre_at hP hK hD hN hU hW⟩⟩ rfl rfl hl.1 rfl (lv_room (Nat.le_of_ble_eq_true rfl)) dX6_setTime_79 ⟨Nat.le_of_ble_eq_true rfl, Nat.le_of_ble_eq_true rfl⟩) hS (fun q _ h => hFc q h) hFc (fun u t H locs ht hvm hw hB hz1 hk1 hS => ?_)
        obtain ⟨ss_12, ds_13⟩ := u
        try dsimp only at hw
        have hm := hw
        have hP : va_P (dC, dI) vwCl (wC ad cy ss_12 ds_13 (upd ti ((x1 * (3 : Int32)) + x2).toNatClampNeg x3) co oma obr obj obo obm plo pch pbe pbl dnu dde dbo dln dld tba tal tro tsc tcl rma) H := cPost_P ht hB
        have hD : va_D A (wC ad cy ss_12 ds_13 (upd ti ((x1 * (3 : Int32)) + x2).toNatClampNeg x3) co oma obr obj obo obm plo pch pbe pbl dnu dde dbo dln dld tba tal tro tsc tcl rma) := cPost_D hFc hB
        refine lv_iload hx hb dX6_setTime_82 (lv_at hl 0 rfl) ?_
        refine W.widen (k := 3) (n := 18) (by omega) (by omega) ?_
        exact hret r_10 ss_12 ds_13 (upd ti ((x1 * (3 : Int32)) + x2).toNatClampNeg x3) H locs ls 84 dX6_setTime_84 ⟨hP, hD, hS⟩ hm
      · have hm := hm.1 c_9
        exact hX_43 H locs ls hm ⟨hP, hD, hS⟩ hl.1
  · have hm := hm.1 c_2
    exact hX_16 H locs ls hm ⟨hP, hD, hS⟩ hl.1

set_option maxHeartbeats 4000000 in
set_option maxRecDepth 100000 in
theorem c_X6_setTime (l : Launch) (dC : Nat → ClassId) (dI : Nat → Nat → Nat) (cy : Nat → ClassId) (ad : Nat → Nat) (sz : Nat) (ss : Int32) (ds : Int32) (ti : Nat → Int32) (co : Int32) (oma : Nat → Int32) (obr : Int32) (obj : Int32) (obo : Int32) (obm : Int32) (plo : Nat → Int32) (pch : Nat → Int32) (pbe : Nat → Int32) (pbl : Int32) (dnu : Nat → Int32) (dde : Nat → Int32) (dbo : Int32) (dln : Int32) (dld : Int32) (tba : Nat → Int32) (tal : Nat → Int32) (tro : Int32) (tsc : Int64) (tcl : Nat → Nat → Int64) (rma : Nat → Int32) (x1 : Int32) (x2 : Int32) (x3 : Int32) (N : Nat) (Q : Int32 → Int32 → Int32 → (Nat → Int32) → Prop) (QX : String → Prop) (hst : l.stackTraces = false) (hm : p_X6_setTime N co oma Q QX x1 x2 x3 ss ds ti) : vx_Met l yX6_setTime wsX6_setTime rmX6_setTime (va_Pc [.ref (ad 0), .int x1, .int x2, .int x3] (cPreX dC dI cy (wC ad cy ss ds ti co oma obr obj obo obm plo pch pbe pbl dnu dde dbo dln dld tba tal tro tsc tcl rma) sz)) (va_Qi (fun (r : Int32) (u : Int32 × Int32 × (Nat → Int32)) => Q r u.1 u.2.1 u.2.2) (fun u t => cPost dC dI cy (wC ad cy ss ds ti co oma obr obj obo obm plo pch pbe pbl dnu dde dbo dln dld tba tal tro tsc tcl rma) sz (wC ad cy (u.1) (u.2.1) (u.2.2) co oma obr obj obo obm plo pch pbe pbl dnu dde dbo dln dld tba tal tro tsc tcl rma) t) (va_A (wC ad cy ss ds ti co oma obr obj obo obm plo pch pbe pbl dnu dde dbo dln dld tba tal tro tsc tcl rma) sz)) (vx_X (fun _ : Unit => True) (fun E _ t => QX E ∧ cPost dC dI cy (wC ad cy ss ds ti co oma obr obj obo obm plo pch pbe pbl dnu dde dbo dln dld tba tal tro tsc tcl rma) sz (wC ad cy ss ds ti co oma obr obj obo obm plo pch pbe pbl dnu dde dbo dln dld tba tal tro tsc tcl rma) t) (va_A (wC ad cy ss ds ti co oma obr obj obo obm plo pch pbe pbl dnu dde dbo dln dld tba tal tro tsc tcl rma) sz)) 3 18 (va_A (wC ad cy ss ds ti co oma obr obj obo obm plo pch pbe pbl dnu dde dbo dln dld tba tal tro tsc tcl rma) sz) := by
  refine vx_ofW (cc := cX6_setTime) (maxL := 5) (ret := (some .int)) (by decide) rfl ?_
  intro p e s m args below meth c s₁ B hml hnt hv
  obtain ⟨rfl, ⟨hsz, hP, hK, hD0, hN⟩, hXw, hXs⟩ := hv
  have hts := atoms_spec (ws := wsX6_setTime) B.pre
  have hown : s.vm.findClass RX6 = some m.cls := findClass_of_methodNamed B.named
  subst hsz
  have hD := hD0.self (sz := s.heap.size)
  generalize hAe : va_A (wC ad cy ss ds ti co oma obr obj obo obm plo pch pbe pbl dnu dde dbo dln dld tba tal tro tsc tcl rma) s.heap.size = A at hD hXs ⊢
  have hA : ∀ q : Nat, s.heap.size ≤ q → A q := fun q h => by rw [← hAe]; exact Or.inr h
  have hl := lv_entry ([.ref (ad 0), .int x1, .int x2, .int x3]) (n := 5) (Nat.le_of_ble_eq_true rfl)
  rw [lg_entry_eq]
  generalize (lg_sl ([.ref (ad 0), .int x1, .int x2, .int x3]) ++ List.replicate (5 - (lg_sl ([.ref (ad 0), .int x1, .int x2, .int x3])).length) Slot.unset).toArray = ls at hl ⊢
  have hl : lv_has ls 5 [(0, .ref (ad 0)), (1, .int x1), (2, .int x2), (3, .int x3)] := hl
  exact k_X6_setTime_0 ⟨B.exec, B.bytes, hml, B.returns, hown, hts, B.notSynchronized, hK, hA, hN⟩ x1 x2 x3 ss ds ti s.heap [] ls hm ⟨hP, hD, va_S.rf⟩ (lv_sub hl [0, 1, 2, 3] rfl) (fun r ss ds ti H locs ls pc hdg hSt hq => vx_ret (W.iret B.exec B.bytes B.returns (fun t ht hW => ⟨⟨r, (ss, ds, ti), rfl, hq, cPost_of hAe ht hW.alike hSt hK⟩, hSt.2.2.F ht⟩) hSt.2.2.2.2 hdg B.notSynchronized)) hXw hXs hst (fun H locs ls hq hSt hsz => vx_throwS (A := A) (own := RX6) (cls := "java/lang/IllegalArgumentException") (text := "the time is not 0 to 50") (ik := 48) (is := 83) (ic := 52) (names := ["java/lang/RuntimeException", "java/lang/Exception"]) B.exec B.bytes hst hown (by decide +kernel) (by decide +kernel) (hts _ (by decide +kernel)) (hts _ (by decide +kernel)) (xw_83 hXw).choose_spec (vx_hat (fun w hw => hts w (xg_X6_setTime_52 w hw)) (xdc_52) (fun w hw => xw_dc hXw w hw)) xot_52_48 hXs.1 hXs.2 hSt.2.2 (hsz.trans hml.symm) dX6_setTime_16 dX6_setTime_19 dX6_setTime_20 dX6_setTime_22 dX6_setTime_25 (fun x hx => (hnt x hx).elim) (Nat.le_of_ble_eq_true rfl) (Nat.le_of_ble_eq_true rfl) (Nat.le_of_ble_eq_true rfl) (Nat.le_of_ble_eq_true rfl) B.notSynchronized (fun t hal hz hk => ⟨(), trivial, ⟨hq, cPostX_of hAe hal hk hSt hK⟩, xF_of hSt.2.2 hz hk⟩) hSt.2.2.2.2 (Nat.le_of_ble_eq_true rfl) (Nat.le_of_ble_eq_true rfl)) (fun H locs ls hq hSt hsz => vx_throwS (A := A) (own := RX6) (cls := "java/lang/IllegalStateException") (text := "the job has this machine in the own plan") (ik := 61) (is := 85) (ic := 65) (names := ["java/lang/RuntimeException", "java/lang/Exception"]) B.exec B.bytes hst hown (by decide +kernel) (by decide +kernel) (hts _ (by decide +kernel)) (hts _ (by decide +kernel)) (xw_85 hXw).choose_spec (vx_hat (fun w hw => hts w (xg_X6_setTime_65 w hw)) (xdc_65) (fun w hw => xw_dc hXw w hw)) xot_65_61 hXs.1 hXs.2 hSt.2.2 (hsz.trans hml.symm) dX6_setTime_43 dX6_setTime_46 dX6_setTime_47 dX6_setTime_49 dX6_setTime_52 (fun x hx => (hnt x hx).elim) (Nat.le_of_ble_eq_true rfl) (Nat.le_of_ble_eq_true rfl) (Nat.le_of_ble_eq_true rfl) (Nat.le_of_ble_eq_true rfl) B.notSynchronized (fun t hal hz hk => ⟨(), trivial, ⟨hq, cPostX_of hAe hal hk hSt hK⟩, xF_of hSt.2.2 hz hk⟩) hSt.2.2.2.2 (Nat.le_of_ble_eq_true rfl) (Nat.le_of_ble_eq_true rfl)) (fun E ce q9 H locs ls pc rest hq hSt hce hcv hcl => vx_out (fun x hx => (hnt x hx).elim) B.notSynchronized hce hcv hcl (fun t ht hal => ⟨(), trivial, ⟨hq, cPost_of hAe ht hal hSt hK⟩, hSt.2.2.F ht⟩) hSt.2.2.2.2 (Nat.le_refl _) (Nat.le_refl _))

-- ===== X6_assign
theorem fl_X6_assign_12 : Cond.fieldLink RX6 12 "UnlikeUnion" "list" "LUnlikeUnion$Jobs;" ∈ wsX6_assign := by decide +kernel
theorem fl_X6_assign_19 : Cond.fieldLink RX6 19 "UnlikeUnion" "own" "LUnlikeUnion$OwnPlan;" ∈ wsX6_assign := by decide +kernel
theorem in_X6_assign_X2 : ∀ w ∈ u_ws RX2 TX2 5, w ∈ wsX6_assign := by decide +kernel
theorem in_X6_assign_X6 : ∀ w ∈ u_ws RX6 TX6 7, w ∈ wsX6_assign := by decide +kernel
abbrev rmX6_assign : Room := { frames := 11, cells := 3, slots := 18, locals := 281 }
theorem xg_X6_assign_65 : ∀ w ∈ (vx_atS RX6 65 "java/lang/IllegalStateException" ["java/lang/RuntimeException", "java/lang/Exception"]).filter goodWord, w ∈ wsX6_assign := by decide +kernel
def p_X6_assign (N : Nat) (ti : Nat → Int32) (co : Int32) (Q : Int32 → (Nat → Int32) → Prop) (QX : String → Prop) (x1 : Int32) (x2 : Int32) (oma : Nat → Int32) : Prop :=
  p_X6_requireJob N co (p_X6_requireMachine N (p_X1_timeOn N ti co (fun r_1 => (r_1 = 0 → (QX "java/lang/IllegalStateException")) ∧ (¬ r_1 = 0 → (vp_in x1 7 ∧ (∀ x3_4 : Int32, x3_4 = oma (x1).toNatClampNeg → (vp_in x1 7 ∧ (Q x3_4 (upd oma (x1).toNatClampNeg x2))))))) x1 x2) QX x2) QX x1

set_option maxHeartbeats 4000000 in
set_option maxRecDepth 100000 in
theorem k_X6_assign_0 {N : Nat} {ss : Int32} {ds : Int32} {ti : Nat → Int32} {co : Int32} {obr : Int32} {obj : Int32} {obo : Int32} {obm : Int32} {plo : Nat → Int32} {pch : Nat → Int32} {pbe : Nat → Int32} {pbl : Int32} {dnu : Nat → Int32} {dde : Nat → Int32} {dbo : Int32} {dln : Int32} {dld : Int32} {tba : Nat → Int32} {tal : Nat → Int32} {tro : Int32} {tsc : Int64} {tcl : Nat → Nat → Int64} {rma : Nat → Int32} {Q : Int32 → (Nat → Int32) → Prop} {QX : String → Prop} (C0 : cxM cX6_assign 4 (some .int) RX6 wsX6_assign p s m args meth c dC dI cy A) :
    ∀ (x1 : Int32) (x2 : Int32) (oma : Nat → Int32) (H : Heap) (locs : List Loc) (ls : Array Slot) (hm : p_X6_assign N ti co Q QX x1 x2 oma) (hSt : stC dC dI A s (wC ad cy ss ds ti co oma obr obj obo obm plo pch pbe pbl dnu dde dbo dln dld tba tal tro tsc tcl rma) H locs) (hl : lv_has ls 4 [(0, .ref (ad 0)), (1, .int x1), (2, .int x2)]) (hret : ∀ (r : Int32) (oma : Nat → Int32) (H : Heap) (locs : List Loc) (ls : Array Slot) (pc : Nat), decode cX6_assign pc = .ok (.ireturn, 1) → stC dC dI A s (wC ad cy ss ds ti co oma obr obj obo obm plo pch pbe pbl dnu dde dbo dln dld tba tal tro tsc tcl rma) H locs → Q r oma → W p l e rmX6_assign s m args below meth c H locs 3 18 Z (F0 m pc ls [.int r])) (hXw : xwC s) (hXs : xsC A s s.heap) (hst : l.stackTraces = false) (hX_21 : ∀ (H : Heap) (locs : List Loc) (ls : Array Slot), QX "java/lang/IllegalStateException" → stC dC dI A s (wC ad cy ss ds ti co oma obr obj obo obm plo pch pbe pbl dnu dde dbo dln dld tba tal tro tsc tcl rma) H locs → ls.size = 4 → W p l e rmX6_assign s m args below meth c H locs 2 12 Z (F0 m 21 ls [])) (hO : ∀ (E : String) (ce : Cell) (q9 : Addr) (H : Heap) (locs : List Loc) (ls : Array Slot) (pc : Nat) (rest : List Value), QX E → stC dC dI A s (wC ad cy ss ds ti co oma obr obj obo obm plo pch pbe pbl dnu dde dbo dln dld tba tal tro tsc tcl rma) H locs → H[q9]? = some ce → ce.vm = .none → s.vm.findClass E = some ce.cls → vx_W p l e rmX6_assign s m args below meth c H locs 3 18 Z (F0 m pc ls rest) q9), W p l e rmX6_assign s m args below meth c H locs 0 0 Z (F0 m 0 ls []) := by
  obtain ⟨hx, hb, hml, hr, hown, hts, hlocks, hK, hA, hN⟩ := id C0
  intro x1 x2 oma H locs ls hm hSt hl hret hXw hXs hst hX_21 hO
  obtain ⟨hP, hD, hS⟩ := hSt
  unfold p_X6_assign at hm
  refine lv_aload_n hx hb dX6_assign_0 rfl (lv_at hl 0 rfl) ?_
  refine lv_iload_n hx hb dX6_assign_1 rfl (lv_at hl 1 rfl) ?_
  have hFc := va_freeSame hD hS hA
  refine vx_callv (vx_runV (As := [.int x1]) (rest := []) ⟨hx, hb, hml, hown, hts⟩ (c_X6_requireJob l dC dI cy ad H.size ss ds ti co oma obr obj obo obm plo pch pbe pbl dnu dde dbo dln dld tba tal tro tsc tcl rma x1 _ _ QX hst hm) (cwV 1 hts gX6_assign_X6_requireJob rfl rfl rfl (by decide +kernel) ⟨Nat.le_of_ble_eq_true rfl, Nat.le_of_ble_eq_true rfl⟩) ⟨cPreX_blind, va_recv hK hP (ci := 6) (q0 := 0) rfl rfl, fun U hU hW => ⟨rfl, cPreX_at hP hK hD hN hU hW hXw hXs hS hFc⟩⟩ rfl rfl hl.1 rfl (lv_room (Nat.le_of_ble_eq_true rfl)) dX6_assign_2 ⟨Nat.le_of_ble_eq_true rfl, Nat.le_of_ble_eq_true rfl⟩) hS (fun q _ h => hFc q h) hFc (fun q _ h => hFc q h) (fun E ce q9 u t H locs ht hvm hpx hBX hz1 hk1 hS hce hcv hcl => vx_widen (by omega) (by omega) (hO E ce q9 H locs ls 2 [] hBX.1 ⟨cPost_P ht hBX.2, cPost_D hFc hBX.2, hS⟩ hce hcv hcl)) (fun u t H locs ht hvm hw hB hz1 hk1 hS => ?_)
  try dsimp only at hw
  have hm := hw
  have hP : va_P (dC, dI) vwCl (wC ad cy ss ds ti co oma obr obj obo obm plo pch pbe pbl dnu dde dbo dln dld tba tal tro tsc tcl rma) H := cPost_P ht hB
  have hD : va_D A (wC ad cy ss ds ti co oma obr obj obo obm plo pch pbe pbl dnu dde dbo dln dld tba tal tro tsc tcl rma) := cPost_D hFc hB
  refine lv_iload_n hx hb dX6_assign_5 rfl (lv_at hl 2 rfl) ?_
  have hFc := va_freeSame hD hS hA
  refine vx_callv (vx_runS (As := [.int x2]) (rest := []) ⟨hx, hb, hml, hown, hts⟩ (c_X6_requireMachine l dC dI cy ad H.size ss ds ti co oma obr obj obo obm plo pch pbe pbl dnu dde dbo dln dld tba tal tro tsc tcl rma x2 _ _ QX hst hm) (cwS 1 hts gX6_assign_X6_requireMachine rfl rfl rfl (by decide +kernel) ⟨Nat.le_of_ble_eq_true rfl, Nat.le_of_ble_eq_true rfl⟩) ⟨cPreX_blind, fun U hU hW => ⟨rfl, cPreX_at hP hK hD hN hU hW hXw hXs hS hFc⟩⟩ rfl rfl hl.1 rfl (lv_room (Nat.le_of_ble_eq_true rfl)) dX6_assign_6 ⟨Nat.le_of_ble_eq_true rfl, Nat.le_of_ble_eq_true rfl⟩) hS (fun q _ h => hFc q h) hFc (fun q _ h => hFc q h) (fun E ce q9 u t H locs ht hvm hpx hBX hz1 hk1 hS hce hcv hcl => vx_widen (by omega) (by omega) (hO E ce q9 H locs ls 6 [] hBX.1 ⟨cPost_P ht hBX.2, cPost_D hFc hBX.2, hS⟩ hce hcv hcl)) (fun u t H locs ht hvm hw hB hz1 hk1 hS => ?_)
  try dsimp only at hw
  have hm := hw
  have hP : va_P (dC, dI) vwCl (wC ad cy ss ds ti co oma obr obj obo obm plo pch pbe pbl dnu dde dbo dln dld tba tal tro tsc tcl rma) H := cPost_P ht hB
  have hD : va_D A (wC ad cy ss ds ti co oma obr obj obo obm plo pch pbe pbl dnu dde dbo dln dld tba tal tro tsc tcl rma) := cPost_D hFc hB
  refine lv_aload_n hx hb dX6_assign_9 rfl (lv_at hl 0 rfl) ?_
  refine va_get (D := (dC, dI)) (ci := 6) (v := .ref (ad 1)) (C := RX6) (T := TX6) (N := 7) hx hb hts in_X6_assign_X6 hown hK hP 0 rfl rfl 0 (by decide) (hts _ fl_X6_assign_12) (fun _ h9 => h9) rfl dX6_assign_10 ?_
  refine lv_iload_n hx hb dX6_assign_13 rfl (lv_at hl 1 rfl) ?_
  refine lv_iload_n hx hb dX6_assign_14 rfl (lv_at hl 2 rfl) ?_
  have hFc := va_freeSame hD hS hA
  refine va_calli (va_runV (As := [.int x1, .int x2]) (rest := []) ⟨hx, hb, hml, hown, hts⟩ (c_X1_timeOn l dC dI cy ad H.size ss ds ti co oma obr obj obo obm plo pch pbe pbl dnu dde dbo dln dld tba tal tro tsc tcl rma x1 x2 _ _ hm) (cwV 2 hts gX6_assign_X1_timeOn rfl rfl rfl (by decide +kernel) ⟨Nat.le_of_ble_eq_true rfl, Nat.le_of_ble_eq_true rfl⟩) ⟨cPre_blind, va_recv hK hP (ci := 1) (q0 := 1) rfl rfl, fun U hU hW => ⟨rfl, cPre_at hP hK hD hN hU hW⟩⟩ rfl rfl hl.1 rfl (lv_room (Nat.le_of_ble_eq_true rfl)) dX6_assign_15 ⟨Nat.le_of_ble_eq_true rfl, Nat.le_of_ble_eq_true rfl⟩) hS (fun q _ h => hFc q h) hFc (fun r_1 u t H locs ht hvm hw hB hz1 hk1 hS => ?_)
  try dsimp only at hw
  have hm := hw
  have hP : va_P (dC, dI) vwCl (wC ad cy ss ds ti co oma obr obj obo obm plo pch pbe pbl dnu dde dbo dln dld tba tal tro tsc tcl rma) H := cPost_P ht hB
  have hD : va_D A (wC ad cy ss ds ti co oma obr obj obo obm plo pch pbe pbl dnu dde dbo dln dld tba tal tro tsc tcl rma) := cPost_D hFc hB
  refine lv_if_ne (tgt := 31) hx hb dX6_assign_18 (by decide) (fun c_2 => ?_) (fun c_2 => ?_)
  · have hm := hm.2 c_2
    refine lv_aload_n hx hb dX6_assign_31 rfl (lv_at hl 0 rfl) ?_
    refine va_get (D := (dC, dI)) (ci := 6) (v := .ref (ad 3)) (C := RX6) (T := TX6) (N := 7) hx hb hts in_X6_assign_X6 hown hK hP 0 rfl rfl 1 (by decide) (hts _ fl_X6_assign_19) (fun _ h9 => h9) rfl dX6_assign_32 ?_
    refine va_getN (D := (dC, dI)) (ci := 2) (v := .ref (ad 4)) (C := RX2) (T := TX2) (N := 5) hx hb hts in_X6_assign_X2 hown hK hP 3 rfl rfl 0 (by decide) (va_Nw.use rfl (nw_X6_70 hN)) (fun _ h9 => h9) rfl dX6_assign_35 ?_
    refine lv_iload_n hx hb dX6_assign_38 rfl (lv_at hl 1 rfl) ?_
    have hi_3 := hm.1
    have hm := hm.2
    refine va_iald hx hb hK hP 4 0 rfl rfl hi_3 dX6_assign_39 ?_
    refine lv_topi (fun x3_4 ex3_4 => ?_)
    have hm := hm x3_4 ex3_4
    refine lv_istore_n (lv' := [(3, .int x3_4), (0, .ref (ad 0)), (1, .int x1), (2, .int x2)]) hx hb dX6_assign_40 rfl hl (by decide) rfl (fun ls hl => ?_)
    refine lv_aload_n hx hb dX6_assign_41 rfl (lv_at hl 1 rfl) ?_
    refine va_get (D := (dC, dI)) (ci := 6) (v := .ref (ad 3)) (C := RX6) (T := TX6) (N := 7) hx hb hts in_X6_assign_X6 hown hK hP 0 rfl rfl 1 (by decide) (hts _ fl_X6_assign_19) (fun _ h9 => h9) rfl dX6_assign_42 ?_
    refine va_getN (D := (dC, dI)) (ci := 2) (v := .ref (ad 4)) (C := RX2) (T := TX2) (N := 5) hx hb hts in_X6_assign_X2 hown hK hP 3 rfl rfl 0 (by decide) (va_Nw.use rfl (nw_X6_70 hN)) (fun _ h9 => h9) rfl dX6_assign_45 ?_
    refine lv_iload_n hx hb dX6_assign_48 rfl (lv_at hl 2 rfl) ?_
    refine lv_iload_n hx hb dX6_assign_49 rfl (lv_at hl 3 rfl) ?_
    have hi_5 := hm.1
    have hm := hm.2
    refine va_iast hx hb hK hP hD hS 4 0 rfl rfl hi_5 dX6_assign_50 (fun H locs hP hD hS => ?_)
    have hP : va_P (dC, dI) vwCl (wC ad cy ss ds ti co (upd oma (x1).toNatClampNeg x2) obr obj obo obm plo pch pbe pbl dnu dde dbo dln dld tba tal tro tsc tcl rma) H := hP
    have hD : va_D A (wC ad cy ss ds ti co (upd oma (x1).toNatClampNeg x2) obr obj obo obm plo pch pbe pbl dnu dde dbo dln dld tba tal tro tsc tcl rma) := hD
    refine lv_iload_n hx hb dX6_assign_51 rfl (lv_at hl 0 rfl) ?_
    refine W.widen (k := 3) (n := 18) (by omega) (by omega) ?_
    exact hret x3_4 (upd oma (x1).toNatClampNeg x2) H locs ls 52 dX6_assign_52 ⟨hP, hD, hS⟩ hm
  · have hm := hm.1 c_2
    exact hX_21 H locs ls hm ⟨hP, hD, hS⟩ hl.1

set_option maxHeartbeats 4000000 in
set_option maxRecDepth 100000 in
theorem c_X6_assign (l : Launch) (dC : Nat → ClassId) (dI : Nat → Nat → Nat) (cy : Nat → ClassId) (ad : Nat → Nat) (sz : Nat) (ss : Int32) (ds : Int32) (ti : Nat → Int32) (co : Int32) (oma : Nat → Int32) (obr : Int32) (obj : Int32) (obo : Int32) (obm : Int32) (plo : Nat → Int32) (pch : Nat → Int32) (pbe : Nat → Int32) (pbl : Int32) (dnu : Nat → Int32) (dde : Nat → Int32) (dbo : Int32) (dln : Int32) (dld : Int32) (tba : Nat → Int32) (tal : Nat → Int32) (tro : Int32) (tsc : Int64) (tcl : Nat → Nat → Int64) (rma : Nat → Int32) (x1 : Int32) (x2 : Int32) (N : Nat) (Q : Int32 → (Nat → Int32) → Prop) (QX : String → Prop) (hst : l.stackTraces = false) (hm : p_X6_assign N ti co Q QX x1 x2 oma) : vx_Met l yX6_assign wsX6_assign rmX6_assign (va_Pc [.ref (ad 0), .int x1, .int x2] (cPreX dC dI cy (wC ad cy ss ds ti co oma obr obj obo obm plo pch pbe pbl dnu dde dbo dln dld tba tal tro tsc tcl rma) sz)) (va_Qi (fun (r : Int32) (u : (Nat → Int32)) => Q r u) (fun u t => cPost dC dI cy (wC ad cy ss ds ti co oma obr obj obo obm plo pch pbe pbl dnu dde dbo dln dld tba tal tro tsc tcl rma) sz (wC ad cy ss ds ti co u obr obj obo obm plo pch pbe pbl dnu dde dbo dln dld tba tal tro tsc tcl rma) t) (va_A (wC ad cy ss ds ti co oma obr obj obo obm plo pch pbe pbl dnu dde dbo dln dld tba tal tro tsc tcl rma) sz)) (vx_X (fun _ : Unit => True) (fun E _ t => QX E ∧ cPost dC dI cy (wC ad cy ss ds ti co oma obr obj obo obm plo pch pbe pbl dnu dde dbo dln dld tba tal tro tsc tcl rma) sz (wC ad cy ss ds ti co oma obr obj obo obm plo pch pbe pbl dnu dde dbo dln dld tba tal tro tsc tcl rma) t) (va_A (wC ad cy ss ds ti co oma obr obj obo obm plo pch pbe pbl dnu dde dbo dln dld tba tal tro tsc tcl rma) sz)) 3 18 (va_A (wC ad cy ss ds ti co oma obr obj obo obm plo pch pbe pbl dnu dde dbo dln dld tba tal tro tsc tcl rma) sz) := by
  refine vx_ofW (cc := cX6_assign) (maxL := 4) (ret := (some .int)) (by decide) rfl ?_
  intro p e s m args below meth c s₁ B hml hnt hv
  obtain ⟨rfl, ⟨hsz, hP, hK, hD0, hN⟩, hXw, hXs⟩ := hv
  have hts := atoms_spec (ws := wsX6_assign) B.pre
  have hown : s.vm.findClass RX6 = some m.cls := findClass_of_methodNamed B.named
  subst hsz
  have hD := hD0.self (sz := s.heap.size)
  generalize hAe : va_A (wC ad cy ss ds ti co oma obr obj obo obm plo pch pbe pbl dnu dde dbo dln dld tba tal tro tsc tcl rma) s.heap.size = A at hD hXs ⊢
  have hA : ∀ q : Nat, s.heap.size ≤ q → A q := fun q h => by rw [← hAe]; exact Or.inr h
  have hl := lv_entry ([.ref (ad 0), .int x1, .int x2]) (n := 4) (Nat.le_of_ble_eq_true rfl)
  rw [lg_entry_eq]
  generalize (lg_sl ([.ref (ad 0), .int x1, .int x2]) ++ List.replicate (4 - (lg_sl ([.ref (ad 0), .int x1, .int x2])).length) Slot.unset).toArray = ls at hl ⊢
  have hl : lv_has ls 4 [(0, .ref (ad 0)), (1, .int x1), (2, .int x2)] := hl
  exact k_X6_assign_0 ⟨B.exec, B.bytes, hml, B.returns, hown, hts, B.notSynchronized, hK, hA, hN⟩ x1 x2 oma s.heap [] ls hm ⟨hP, hD, va_S.rf⟩ (lv_sub hl [0, 1, 2] rfl) (fun r oma H locs ls pc hdg hSt hq => vx_ret (W.iret B.exec B.bytes B.returns (fun t ht hW => ⟨⟨r, (oma), rfl, hq, cPost_of hAe ht hW.alike hSt hK⟩, hSt.2.2.F ht⟩) hSt.2.2.2.2 hdg B.notSynchronized)) hXw hXs hst (fun H locs ls hq hSt hsz => vx_throwS (A := A) (own := RX6) (cls := "java/lang/IllegalStateException") (text := "the job cannot be done there") (ik := 61) (is := 131) (ic := 65) (names := ["java/lang/RuntimeException", "java/lang/Exception"]) B.exec B.bytes hst hown (by decide +kernel) (by decide +kernel) (hts _ (by decide +kernel)) (hts _ (by decide +kernel)) (xw_131 hXw).choose_spec (vx_hat (fun w hw => hts w (xg_X6_assign_65 w hw)) (xdc_65) (fun w hw => xw_dc hXw w hw)) xot_65_61 hXs.1 hXs.2 hSt.2.2 (hsz.trans hml.symm) dX6_assign_21 dX6_assign_24 dX6_assign_25 dX6_assign_27 dX6_assign_30 (fun x hx => (hnt x hx).elim) (Nat.le_of_ble_eq_true rfl) (Nat.le_of_ble_eq_true rfl) (Nat.le_of_ble_eq_true rfl) (Nat.le_of_ble_eq_true rfl) B.notSynchronized (fun t hal hz hk => ⟨(), trivial, ⟨hq, cPostX_of hAe hal hk hSt hK⟩, xF_of hSt.2.2 hz hk⟩) hSt.2.2.2.2 (Nat.le_of_ble_eq_true rfl) (Nat.le_of_ble_eq_true rfl)) (fun E ce q9 H locs ls pc rest hq hSt hce hcv hcl => vx_out (fun x hx => (hnt x hx).elim) B.notSynchronized hce hcv hcl (fun t ht hal => ⟨(), trivial, ⟨hq, cPost_of hAe ht hal hSt hK⟩, hSt.2.2.F ht⟩) hSt.2.2.2.2 (Nat.le_refl _) (Nat.le_refl _))

-- ===== X6_shortestMachine
theorem fl_X6_shortestMachine_26 : Cond.fieldLink RX6 26 "UnlikeUnion" "search" "LUnlikeUnion$PlanSearch;" ∈ wsX6_shortestMachine := by decide +kernel
theorem in_X6_shortestMachine_X3 : ∀ w ∈ u_ws RX3 TX3 4, w ∈ wsX6_shortestMachine := by decide +kernel
theorem in_X6_shortestMachine_X6 : ∀ w ∈ u_ws RX6 TX6 7, w ∈ wsX6_shortestMachine := by decide +kernel
abbrev rmX6_shortestMachine : Room := { frames := 43, cells := 1, slots := 6, locals := 4246 }
def p_X6_shortestMachine (N : Nat) (ti : Nat → Int32) (co : Int32) (Q : Int32 → Int32 → (Nat → Int32) → (Nat → Int32) → (Nat → Int32) → Int32 → Prop) (QX : String → Prop) (x1 : Int32) (ss : Int32) (plo : Nat → Int32) (pch : Nat → Int32) (pbe : Nat → Int32) (pbl : Int32) : Prop :=
  p_X6_requireJob N co (p_X6_refreshSearch N ti co (fun ss_1 plo_2 pch_3 pbe_4 pbl_5 => vp_in x1 7 ∧ (Q (pbe_4 (x1).toNatClampNeg) ss_1 plo_2 pch_3 pbe_4 pbl_5)) ss plo pch pbe pbl) QX x1

set_option maxHeartbeats 4000000 in
set_option maxRecDepth 100000 in
theorem k_X6_shortestMachine_0 {N : Nat} {ds : Int32} {ti : Nat → Int32} {co : Int32} {oma : Nat → Int32} {obr : Int32} {obj : Int32} {obo : Int32} {obm : Int32} {dnu : Nat → Int32} {dde : Nat → Int32} {dbo : Int32} {dln : Int32} {dld : Int32} {tba : Nat → Int32} {tal : Nat → Int32} {tro : Int32} {tsc : Int64} {tcl : Nat → Nat → Int64} {rma : Nat → Int32} {Q : Int32 → Int32 → (Nat → Int32) → (Nat → Int32) → (Nat → Int32) → Int32 → Prop} {QX : String → Prop} (C0 : cxM cX6_shortestMachine 2 (some .int) RX6 wsX6_shortestMachine p s m args meth c dC dI cy A) :
    ∀ (x1 : Int32) (ss : Int32) (plo : Nat → Int32) (pch : Nat → Int32) (pbe : Nat → Int32) (pbl : Int32) (H : Heap) (locs : List Loc) (ls : Array Slot) (hm : p_X6_shortestMachine N ti co Q QX x1 ss plo pch pbe pbl) (hSt : stC dC dI A s (wC ad cy ss ds ti co oma obr obj obo obm plo pch pbe pbl dnu dde dbo dln dld tba tal tro tsc tcl rma) H locs) (hl : lv_has ls 2 [(0, .ref (ad 0)), (1, .int x1)]) (hret : ∀ (r : Int32) (ss : Int32) (plo : Nat → Int32) (pch : Nat → Int32) (pbe : Nat → Int32) (pbl : Int32) (H : Heap) (locs : List Loc) (ls : Array Slot) (pc : Nat), decode cX6_shortestMachine pc = .ok (.ireturn, 1) → stC dC dI A s (wC ad cy ss ds ti co oma obr obj obo obm plo pch pbe pbl dnu dde dbo dln dld tba tal tro tsc tcl rma) H locs → Q r ss plo pch pbe pbl → W p l e rmX6_shortestMachine s m args below meth c H locs 1 6 Z (F0 m pc ls [.int r])) (hXw : xwC s) (hXs : xsC A s s.heap) (hst : l.stackTraces = false) (hO : ∀ (E : String) (ce : Cell) (q9 : Addr) (H : Heap) (locs : List Loc) (ls : Array Slot) (pc : Nat) (rest : List Value), QX E → stC dC dI A s (wC ad cy ss ds ti co oma obr obj obo obm plo pch pbe pbl dnu dde dbo dln dld tba tal tro tsc tcl rma) H locs → H[q9]? = some ce → ce.vm = .none → s.vm.findClass E = some ce.cls → vx_W p l e rmX6_shortestMachine s m args below meth c H locs 1 6 Z (F0 m pc ls rest) q9), W p l e rmX6_shortestMachine s m args below meth c H locs 0 0 Z (F0 m 0 ls []) := by
  obtain ⟨hx, hb, hml, hr, hown, hts, hlocks, hK, hA, hN⟩ := id C0
  intro x1 ss plo pch pbe pbl H locs ls hm hSt hl hret hXw hXs hst hO
  obtain ⟨hP, hD, hS⟩ := hSt
  unfold p_X6_shortestMachine at hm
  refine lv_aload_n hx hb dX6_shortestMachine_0 rfl (lv_at hl 0 rfl) ?_
  refine lv_iload_n hx hb dX6_shortestMachine_1 rfl (lv_at hl 1 rfl) ?_
  have hFc := va_freeSame hD hS hA
  refine vx_callv (vx_runV (As := [.int x1]) (rest := []) ⟨hx, hb, hml, hown, hts⟩ (c_X6_requireJob l dC dI cy ad H.size ss ds ti co oma obr obj obo obm plo pch pbe pbl dnu dde dbo dln dld tba tal tro tsc tcl rma x1 _ _ QX hst hm) (cwV 1 hts gX6_shortestMachine_X6_requireJob rfl rfl rfl (by decide +kernel) ⟨Nat.le_of_ble_eq_true rfl, Nat.le_of_ble_eq_true rfl⟩) ⟨cPreX_blind, va_recv hK hP (ci := 6) (q0 := 0) rfl rfl, fun U hU hW => ⟨rfl, cPreX_at hP hK hD hN hU hW hXw hXs hS hFc⟩⟩ rfl rfl hl.1 rfl (lv_room (Nat.le_of_ble_eq_true rfl)) dX6_shortestMachine_2 ⟨Nat.le_of_ble_eq_true rfl, Nat.le_of_ble_eq_true rfl⟩) hS (fun q _ h => hFc q h) hFc (fun q _ h => hFc q h) (fun E ce q9 u t H locs ht hvm hpx hBX hz1 hk1 hS hce hcv hcl => vx_widen (by omega) (by omega) (hO E ce q9 H locs ls 2 [] hBX.1 ⟨cPost_P ht hBX.2, cPost_D hFc hBX.2, hS⟩ hce hcv hcl)) (fun u t H locs ht hvm hw hB hz1 hk1 hS => ?_)
  try dsimp only at hw
  have hm := hw
  have hP : va_P (dC, dI) vwCl (wC ad cy ss ds ti co oma obr obj obo obm plo pch pbe pbl dnu dde dbo dln dld tba tal tro tsc tcl rma) H := cPost_P ht hB
  have hD : va_D A (wC ad cy ss ds ti co oma obr obj obo obm plo pch pbe pbl dnu dde dbo dln dld tba tal tro tsc tcl rma) := cPost_D hFc hB
  refine lv_aload_n hx hb dX6_shortestMachine_5 rfl (lv_at hl 0 rfl) ?_
  have hFc := va_freeSame hD hS hA
  refine va_callv (va_runV (As := []) (rest := []) ⟨hx, hb, hml, hown, hts⟩ (c_X6_refreshSearch l dC dI cy ad H.size ss ds ti co oma obr obj obo obm plo pch pbe pbl dnu dde dbo dln dld tba tal tro tsc tcl rma  _ _ hm) (cwV 0 hts gX6_shortestMachine_X6_refreshSearch rfl rfl rfl (by decide +kernel) ⟨Nat.le_of_ble_eq_true rfl, Nat.le_of_ble_eq_true rfl⟩) ⟨cPre_blind, va_recv hK hP (ci := 6) (q0 := 0) rfl rfl, fun U hU hW => ⟨rfl, cPre_at hP hK hD hN hU hW⟩⟩ rfl rfl hl.1 rfl (lv_room (Nat.le_of_ble_eq_true rfl)) dX6_shortestMachine_6 ⟨Nat.le_of_ble_eq_true rfl, Nat.le_of_ble_eq_true rfl⟩) hS (fun q _ h => hFc q h) hFc (fun u t H locs ht hvm hw hB hz1 hk1 hS => ?_)
  obtain ⟨ss_1, plo_2, pch_3, pbe_4, pbl_5⟩ := u
  try dsimp only at hw
  have hm := hw
  have hP : va_P (dC, dI) vwCl (wC ad cy ss_1 ds ti co oma obr obj obo obm plo_2 pch_3 pbe_4 pbl_5 dnu dde dbo dln dld tba tal tro tsc tcl rma) H := cPost_P ht hB
  have hD : va_D A (wC ad cy ss_1 ds ti co oma obr obj obo obm plo_2 pch_3 pbe_4 pbl_5 dnu dde dbo dln dld tba tal tro tsc tcl rma) := cPost_D hFc hB
  refine lv_aload_n hx hb dX6_shortestMachine_9 rfl (lv_at hl 0 rfl) ?_
  refine va_get (D := (dC, dI)) (ci := 6) (v := .ref (ad 5)) (C := RX6) (T := TX6) (N := 7) hx hb hts in_X6_shortestMachine_X6 hown hK hP 0 rfl rfl 2 (by decide) (hts _ fl_X6_shortestMachine_26) (fun _ h9 => h9) rfl dX6_shortestMachine_10 ?_
  refine va_getN (D := (dC, dI)) (ci := 3) (v := .ref (ad 8)) (C := RX3) (T := TX3) (N := 4) hx hb hts in_X6_shortestMachine_X3 hown hK hP 5 rfl rfl 2 (by decide) (va_Nw.use rfl (nw_X6_101 hN)) (fun _ h9 => h9) rfl dX6_shortestMachine_13 ?_
  refine lv_iload_n hx hb dX6_shortestMachine_16 rfl (lv_at hl 1 rfl) ?_
  have hi_6 := hm.1
  have hm := hm.2
  refine va_iald hx hb hK hP 8 0 rfl rfl hi_6 dX6_shortestMachine_17 ?_
  exact hret (pbe_4 (x1).toNatClampNeg) ss_1 plo_2 pch_3 pbe_4 pbl_5 H locs ls 18 dX6_shortestMachine_18 ⟨hP, hD, hS⟩ hm

set_option maxHeartbeats 4000000 in
set_option maxRecDepth 100000 in
theorem c_X6_shortestMachine (l : Launch) (dC : Nat → ClassId) (dI : Nat → Nat → Nat) (cy : Nat → ClassId) (ad : Nat → Nat) (sz : Nat) (ss : Int32) (ds : Int32) (ti : Nat → Int32) (co : Int32) (oma : Nat → Int32) (obr : Int32) (obj : Int32) (obo : Int32) (obm : Int32) (plo : Nat → Int32) (pch : Nat → Int32) (pbe : Nat → Int32) (pbl : Int32) (dnu : Nat → Int32) (dde : Nat → Int32) (dbo : Int32) (dln : Int32) (dld : Int32) (tba : Nat → Int32) (tal : Nat → Int32) (tro : Int32) (tsc : Int64) (tcl : Nat → Nat → Int64) (rma : Nat → Int32) (x1 : Int32) (N : Nat) (Q : Int32 → Int32 → (Nat → Int32) → (Nat → Int32) → (Nat → Int32) → Int32 → Prop) (QX : String → Prop) (hst : l.stackTraces = false) (hm : p_X6_shortestMachine N ti co Q QX x1 ss plo pch pbe pbl) : vx_Met l yX6_shortestMachine wsX6_shortestMachine rmX6_shortestMachine (va_Pc [.ref (ad 0), .int x1] (cPreX dC dI cy (wC ad cy ss ds ti co oma obr obj obo obm plo pch pbe pbl dnu dde dbo dln dld tba tal tro tsc tcl rma) sz)) (va_Qi (fun (r : Int32) (u : Int32 × (Nat → Int32) × (Nat → Int32) × (Nat → Int32) × Int32) => Q r u.1 u.2.1 u.2.2.1 u.2.2.2.1 u.2.2.2.2) (fun u t => cPost dC dI cy (wC ad cy ss ds ti co oma obr obj obo obm plo pch pbe pbl dnu dde dbo dln dld tba tal tro tsc tcl rma) sz (wC ad cy (u.1) ds ti co oma obr obj obo obm (u.2.1) (u.2.2.1) (u.2.2.2.1) (u.2.2.2.2) dnu dde dbo dln dld tba tal tro tsc tcl rma) t) (va_A (wC ad cy ss ds ti co oma obr obj obo obm plo pch pbe pbl dnu dde dbo dln dld tba tal tro tsc tcl rma) sz)) (vx_X (fun _ : Unit => True) (fun E _ t => QX E ∧ cPost dC dI cy (wC ad cy ss ds ti co oma obr obj obo obm plo pch pbe pbl dnu dde dbo dln dld tba tal tro tsc tcl rma) sz (wC ad cy ss ds ti co oma obr obj obo obm plo pch pbe pbl dnu dde dbo dln dld tba tal tro tsc tcl rma) t) (va_A (wC ad cy ss ds ti co oma obr obj obo obm plo pch pbe pbl dnu dde dbo dln dld tba tal tro tsc tcl rma) sz)) 1 6 (va_A (wC ad cy ss ds ti co oma obr obj obo obm plo pch pbe pbl dnu dde dbo dln dld tba tal tro tsc tcl rma) sz) := by
  refine vx_ofW (cc := cX6_shortestMachine) (maxL := 2) (ret := (some .int)) (by decide) rfl ?_
  intro p e s m args below meth c s₁ B hml hnt hv
  obtain ⟨rfl, ⟨hsz, hP, hK, hD0, hN⟩, hXw, hXs⟩ := hv
  have hts := atoms_spec (ws := wsX6_shortestMachine) B.pre
  have hown : s.vm.findClass RX6 = some m.cls := findClass_of_methodNamed B.named
  subst hsz
  have hD := hD0.self (sz := s.heap.size)
  generalize hAe : va_A (wC ad cy ss ds ti co oma obr obj obo obm plo pch pbe pbl dnu dde dbo dln dld tba tal tro tsc tcl rma) s.heap.size = A at hD hXs ⊢
  have hA : ∀ q : Nat, s.heap.size ≤ q → A q := fun q h => by rw [← hAe]; exact Or.inr h
  have hl := lv_entry ([.ref (ad 0), .int x1]) (n := 2) (Nat.le_of_ble_eq_true rfl)
  rw [lg_entry_eq]
  generalize (lg_sl ([.ref (ad 0), .int x1]) ++ List.replicate (2 - (lg_sl ([.ref (ad 0), .int x1])).length) Slot.unset).toArray = ls at hl ⊢
  have hl : lv_has ls 2 [(0, .ref (ad 0)), (1, .int x1)] := hl
  exact k_X6_shortestMachine_0 ⟨B.exec, B.bytes, hml, B.returns, hown, hts, B.notSynchronized, hK, hA, hN⟩ x1 ss plo pch pbe pbl s.heap [] ls hm ⟨hP, hD, va_S.rf⟩ (lv_sub hl [0, 1] rfl) (fun r ss plo pch pbe pbl H locs ls pc hdg hSt hq => vx_ret (W.iret B.exec B.bytes B.returns (fun t ht hW => ⟨⟨r, (ss, plo, pch, pbe, pbl), rfl, hq, cPost_of hAe ht hW.alike hSt hK⟩, hSt.2.2.F ht⟩) hSt.2.2.2.2 hdg B.notSynchronized)) hXw hXs hst (fun E ce q9 H locs ls pc rest hq hSt hce hcv hcl => vx_out (fun x hx => (hnt x hx).elim) B.notSynchronized hce hcv hcl (fun t ht hal => ⟨(), trivial, ⟨hq, cPost_of hAe ht hal hSt hK⟩, hSt.2.2.F ht⟩) hSt.2.2.2.2 (Nat.le_refl _) (Nat.le_refl _))

-- ===== X6_numerator
theorem fl_X6_numerator_33 : Cond.fieldLink RX6 33 "UnlikeUnion" "division" "LUnlikeUnion$Division;" ∈ wsX6_numerator := by decide +kernel
theorem in_X6_numerator_X0 : ∀ w ∈ u_ws RX0 TX0 6, w ∈ wsX6_numerator := by decide +kernel
theorem in_X6_numerator_X6 : ∀ w ∈ u_ws RX6 TX6 7, w ∈ wsX6_numerator := by decide +kernel
abbrev rmX6_numerator : Room := { frames := 43, cells := 2, slots := 12, locals := 4249 }
def p_X6_numerator (N : Nat) (ti : Nat → Int32) (co : Int32) (Q : Int32 → Int32 → (Nat → Int32) → (Nat → Int32) → Int32 → Int32 → Int32 → (Nat → Int32) → (Nat → Int32) → Int32 → Int64 → (Nat → Nat → Int64) → (Nat → Int32) → Prop) (QX : String → Prop) (x1 : Int32) (x2 : Int32) (ds : Int32) (dnu : Nat → Int32) (dde : Nat → Int32) (dbo : Int32) (dln : Int32) (dld : Int32) (tba : Nat → Int32) (tal : Nat → Int32) (tro : Int32) (tsc : Int64) (tcl : Nat → Nat → Int64) (rma : Nat → Int32) : Prop :=
  p_X6_requireJob N co (p_X6_requireMachine N (p_X6_refreshDivision N ti co (fun ds_1 dnu_2 dde_3 dbo_4 dln_5 dld_6 tba_7 tal_8 tro_9 tsc_10 tcl_11 rma_12 => vp_in ((x1 * (3 : Int32)) + x2) 21 ∧ (Q (dnu_2 ((x1 * (3 : Int32)) + x2).toNatClampNeg) ds_1 dnu_2 dde_3 dbo_4 dln_5 dld_6 tba_7 tal_8 tro_9 tsc_10 tcl_11 rma_12)) ds dnu dde dbo dln dld tba tal tro tsc tcl rma) QX x2) QX x1

set_option maxHeartbeats 4000000 in
set_option maxRecDepth 100000 in
theorem k_X6_numerator_0 {N : Nat} {ss : Int32} {ti : Nat → Int32} {co : Int32} {oma : Nat → Int32} {obr : Int32} {obj : Int32} {obo : Int32} {obm : Int32} {plo : Nat → Int32} {pch : Nat → Int32} {pbe : Nat → Int32} {pbl : Int32} {Q : Int32 → Int32 → (Nat → Int32) → (Nat → Int32) → Int32 → Int32 → Int32 → (Nat → Int32) → (Nat → Int32) → Int32 → Int64 → (Nat → Nat → Int64) → (Nat → Int32) → Prop} {QX : String → Prop} (C0 : cxM cX6_numerator 3 (some .int) RX6 wsX6_numerator p s m args meth c dC dI cy A) :
    ∀ (x1 : Int32) (x2 : Int32) (ds : Int32) (dnu : Nat → Int32) (dde : Nat → Int32) (dbo : Int32) (dln : Int32) (dld : Int32) (tba : Nat → Int32) (tal : Nat → Int32) (tro : Int32) (tsc : Int64) (tcl : Nat → Nat → Int64) (rma : Nat → Int32) (H : Heap) (locs : List Loc) (ls : Array Slot) (hm : p_X6_numerator N ti co Q QX x1 x2 ds dnu dde dbo dln dld tba tal tro tsc tcl rma) (hSt : stC dC dI A s (wC ad cy ss ds ti co oma obr obj obo obm plo pch pbe pbl dnu dde dbo dln dld tba tal tro tsc tcl rma) H locs) (hl : lv_has ls 3 [(0, .ref (ad 0)), (1, .int x1), (2, .int x2)]) (hret : ∀ (r : Int32) (ds : Int32) (dnu : Nat → Int32) (dde : Nat → Int32) (dbo : Int32) (dln : Int32) (dld : Int32) (tba : Nat → Int32) (tal : Nat → Int32) (tro : Int32) (tsc : Int64) (tcl : Nat → Nat → Int64) (rma : Nat → Int32) (H : Heap) (locs : List Loc) (ls : Array Slot) (pc : Nat), decode cX6_numerator pc = .ok (.ireturn, 1) → stC dC dI A s (wC ad cy ss ds ti co oma obr obj obo obm plo pch pbe pbl dnu dde dbo dln dld tba tal tro tsc tcl rma) H locs → Q r ds dnu dde dbo dln dld tba tal tro tsc tcl rma → W p l e rmX6_numerator s m args below meth c H locs 2 12 Z (F0 m pc ls [.int r])) (hXw : xwC s) (hXs : xsC A s s.heap) (hst : l.stackTraces = false) (hO : ∀ (E : String) (ce : Cell) (q9 : Addr) (H : Heap) (locs : List Loc) (ls : Array Slot) (pc : Nat) (rest : List Value), QX E → stC dC dI A s (wC ad cy ss ds ti co oma obr obj obo obm plo pch pbe pbl dnu dde dbo dln dld tba tal tro tsc tcl rma) H locs → H[q9]? = some ce → ce.vm = .none → s.vm.findClass E = some ce.cls → vx_W p l e rmX6_numerator s m args below meth c H locs 2 12 Z (F0 m pc ls rest) q9), W p l e rmX6_numerator s m args below meth c H locs 0 0 Z (F0 m 0 ls []) := by
  obtain ⟨hx, hb, hml, hr, hown, hts, hlocks, hK, hA, hN⟩ := id C0
  intro x1 x2 ds dnu dde dbo dln dld tba tal tro tsc tcl rma H locs ls hm hSt hl hret hXw hXs hst hO
  obtain ⟨hP, hD, hS⟩ := hSt
  unfold p_X6_numerator at hm
  refine lv_aload_n hx hb dX6_numerator_0 rfl (lv_at hl 0 rfl) ?_
  refine lv_iload_n hx hb dX6_numerator_1 rfl (lv_at hl 1 rfl) ?_
  have hFc := va_freeSame hD hS hA
  refine vx_callv (vx_runV (As := [.int x1]) (rest := []) ⟨hx, hb, hml, hown, hts⟩ (c_X6_requireJob l dC dI cy ad H.size ss ds ti co oma obr obj obo obm plo pch pbe pbl dnu dde dbo dln dld tba tal tro tsc tcl rma x1 _ _ QX hst hm) (cwV 1 hts gX6_numerator_X6_requireJob rfl rfl rfl (by decide +kernel) ⟨Nat.le_of_ble_eq_true rfl, Nat.le_of_ble_eq_true rfl⟩) ⟨cPreX_blind, va_recv hK hP (ci := 6) (q0 := 0) rfl rfl, fun U hU hW => ⟨rfl, cPreX_at hP hK hD hN hU hW hXw hXs hS hFc⟩⟩ rfl rfl hl.1 rfl (lv_room (Nat.le_of_ble_eq_true rfl)) dX6_numerator_2 ⟨Nat.le_of_ble_eq_true rfl, Nat.le_of_ble_eq_true rfl⟩) hS (fun q _ h => hFc q h) hFc (fun q _ h => hFc q h) (fun E ce q9 u t H locs ht hvm hpx hBX hz1 hk1 hS hce hcv hcl => vx_widen (by omega) (by omega) (hO E ce q9 H locs ls 2 [] hBX.1 ⟨cPost_P ht hBX.2, cPost_D hFc hBX.2, hS⟩ hce hcv hcl)) (fun u t H locs ht hvm hw hB hz1 hk1 hS => ?_)
  try dsimp only at hw
  have hm := hw
  have hP : va_P (dC, dI) vwCl (wC ad cy ss ds ti co oma obr obj obo obm plo pch pbe pbl dnu dde dbo dln dld tba tal tro tsc tcl rma) H := cPost_P ht hB
  have hD : va_D A (wC ad cy ss ds ti co oma obr obj obo obm plo pch pbe pbl dnu dde dbo dln dld tba tal tro tsc tcl rma) := cPost_D hFc hB
  refine lv_iload_n hx hb dX6_numerator_5 rfl (lv_at hl 2 rfl) ?_
  have hFc := va_freeSame hD hS hA
  refine vx_callv (vx_runS (As := [.int x2]) (rest := []) ⟨hx, hb, hml, hown, hts⟩ (c_X6_requireMachine l dC dI cy ad H.size ss ds ti co oma obr obj obo obm plo pch pbe pbl dnu dde dbo dln dld tba tal tro tsc tcl rma x2 _ _ QX hst hm) (cwS 1 hts gX6_numerator_X6_requireMachine rfl rfl rfl (by decide +kernel) ⟨Nat.le_of_ble_eq_true rfl, Nat.le_of_ble_eq_true rfl⟩) ⟨cPreX_blind, fun U hU hW => ⟨rfl, cPreX_at hP hK hD hN hU hW hXw hXs hS hFc⟩⟩ rfl rfl hl.1 rfl (lv_room (Nat.le_of_ble_eq_true rfl)) dX6_numerator_6 ⟨Nat.le_of_ble_eq_true rfl, Nat.le_of_ble_eq_true rfl⟩) hS (fun q _ h => hFc q h) hFc (fun q _ h => hFc q h) (fun E ce q9 u t H locs ht hvm hpx hBX hz1 hk1 hS hce hcv hcl => vx_widen (by omega) (by omega) (hO E ce q9 H locs ls 6 [] hBX.1 ⟨cPost_P ht hBX.2, cPost_D hFc hBX.2, hS⟩ hce hcv hcl)) (fun u t H locs ht hvm hw hB hz1 hk1 hS => ?_)
  try dsimp only at hw
  have hm := hw
  have hP : va_P (dC, dI) vwCl (wC ad cy ss ds ti co oma obr obj obo obm plo pch pbe pbl dnu dde dbo dln dld tba tal tro tsc tcl rma) H := cPost_P ht hB
  have hD : va_D A (wC ad cy ss ds ti co oma obr obj obo obm plo pch pbe pbl dnu dde dbo dln dld tba tal tro tsc tcl rma) := cPost_D hFc hB
  refine lv_aload_n hx hb dX6_numerator_9 rfl (lv_at hl 0 rfl) ?_
  have hFc := va_freeSame hD hS hA
  refine va_callv (va_runV (As := []) (rest := []) ⟨hx, hb, hml, hown, hts⟩ (c_X6_refreshDivision l dC dI cy ad H.size ss ds ti co oma obr obj obo obm plo pch pbe pbl dnu dde dbo dln dld tba tal tro tsc tcl rma  _ _ hm) (cwV 0 hts gX6_numerator_X6_refreshDivision rfl rfl rfl (by decide +kernel) ⟨Nat.le_of_ble_eq_true rfl, Nat.le_of_ble_eq_true rfl⟩) ⟨cPre_blind, va_recv hK hP (ci := 6) (q0 := 0) rfl rfl, fun U hU hW => ⟨rfl, cPre_at hP hK hD hN hU hW⟩⟩ rfl rfl hl.1 rfl (lv_room (Nat.le_of_ble_eq_true rfl)) dX6_numerator_10 ⟨Nat.le_of_ble_eq_true rfl, Nat.le_of_ble_eq_true rfl⟩) hS (fun q _ h => hFc q h) hFc (fun u t H locs ht hvm hw hB hz1 hk1 hS => ?_)
  obtain ⟨ds_1, dnu_2, dde_3, dbo_4, dln_5, dld_6, tba_7, tal_8, tro_9, tsc_10, tcl_11, rma_12⟩ := u
  try dsimp only at hw
  have hm := hw
  have hP : va_P (dC, dI) vwCl (wC ad cy ss ds_1 ti co oma obr obj obo obm plo pch pbe pbl dnu_2 dde_3 dbo_4 dln_5 dld_6 tba_7 tal_8 tro_9 tsc_10 tcl_11 rma_12) H := cPost_P ht hB
  have hD : va_D A (wC ad cy ss ds_1 ti co oma obr obj obo obm plo pch pbe pbl dnu_2 dde_3 dbo_4 dln_5 dld_6 tba_7 tal_8 tro_9 tsc_10 tcl_11 rma_12) := cPost_D hFc hB
  refine lv_aload_n hx hb dX6_numerator_13 rfl (lv_at hl 0 rfl) ?_
  refine va_get (D := (dC, dI)) (ci := 6) (v := .ref (ad 9)) (C := RX6) (T := TX6) (N := 7) hx hb hts in_X6_numerator_X6 hown hK hP 0 rfl rfl 3 (by decide) (hts _ fl_X6_numerator_33) (fun _ h9 => h9) rfl dX6_numerator_14 ?_
  refine va_getN (D := (dC, dI)) (ci := 0) (v := .ref (ad 10)) (C := RX0) (T := TX0) (N := 6) hx hb hts in_X6_numerator_X0 hown hK hP 9 rfl rfl 1 (by decide) (va_Nw.use rfl (nw_X6_110 hN)) (fun _ h9 => h9) rfl dX6_numerator_17 ?_
  refine lv_iload_n hx hb dX6_numerator_20 rfl (lv_at hl 1 rfl) ?_
  refine lv_iconst (v := 3) hx hb dX6_numerator_21 (by decide) ?_
  refine lv_imul hx hb dX6_numerator_22 ?_
  refine lv_iload_n hx hb dX6_numerator_23 rfl (lv_at hl 2 rfl) ?_
  refine lv_iadd hx hb dX6_numerator_24 ?_
  have hi_13 := hm.1
  have hm := hm.2
  refine va_iald hx hb hK hP 10 0 rfl rfl hi_13 dX6_numerator_25 ?_
  exact hret (dnu_2 ((x1 * (3 : Int32)) + x2).toNatClampNeg) ds_1 dnu_2 dde_3 dbo_4 dln_5 dld_6 tba_7 tal_8 tro_9 tsc_10 tcl_11 rma_12 H locs ls 26 dX6_numerator_26 ⟨hP, hD, hS⟩ hm

set_option maxHeartbeats 4000000 in
set_option maxRecDepth 100000 in
theorem c_X6_numerator (l : Launch) (dC : Nat → ClassId) (dI : Nat → Nat → Nat) (cy : Nat → ClassId) (ad : Nat → Nat) (sz : Nat) (ss : Int32) (ds : Int32) (ti : Nat → Int32) (co : Int32) (oma : Nat → Int32) (obr : Int32) (obj : Int32) (obo : Int32) (obm : Int32) (plo : Nat → Int32) (pch : Nat → Int32) (pbe : Nat → Int32) (pbl : Int32) (dnu : Nat → Int32) (dde : Nat → Int32) (dbo : Int32) (dln : Int32) (dld : Int32) (tba : Nat → Int32) (tal : Nat → Int32) (tro : Int32) (tsc : Int64) (tcl : Nat → Nat → Int64) (rma : Nat → Int32) (x1 : Int32) (x2 : Int32) (N : Nat) (Q : Int32 → Int32 → (Nat → Int32) → (Nat → Int32) → Int32 → Int32 → Int32 → (Nat → Int32) → (Nat → Int32) → Int32 → Int64 → (Nat → Nat → Int64) → (Nat → Int32) → Prop) (QX : String → Prop) (hst : l.stackTraces = false) (hm : p_X6_numerator N ti co Q QX x1 x2 ds dnu dde dbo dln dld tba tal tro tsc tcl rma) : vx_Met l yX6_numerator wsX6_numerator rmX6_numerator (va_Pc [.ref (ad 0), .int x1, .int x2] (cPreX dC dI cy (wC ad cy ss ds ti co oma obr obj obo obm plo pch pbe pbl dnu dde dbo dln dld tba tal tro tsc tcl rma) sz)) (va_Qi (fun (r : Int32) (u : Int32 × (Nat → Int32) × (Nat → Int32) × Int32 × Int32 × Int32 × (Nat → Int32) × (Nat → Int32) × Int32 × Int64 × (Nat → Nat → Int64) × (Nat → Int32)) => Q r u.1 u.2.1 u.2.2.1 u.2.2.2.1 u.2.2.2.2.1 u.2.2.2.2.2.1 u.2.2.2.2.2.2.1 u.2.2.2.2.2.2.2.1 u.2.2.2.2.2.2.2.2.1 u.2.2.2.2.2.2.2.2.2.1 u.2.2.2.2.2.2.2.2.2.2.1 u.2.2.2.2.2.2.2.2.2.2.2) (fun u t => cPost dC dI cy (wC ad cy ss ds ti co oma obr obj obo obm plo pch pbe pbl dnu dde dbo dln dld tba tal tro tsc tcl rma) sz (wC ad cy ss (u.1) ti co oma obr obj obo obm plo pch pbe pbl (u.2.1) (u.2.2.1) (u.2.2.2.1) (u.2.2.2.2.1) (u.2.2.2.2.2.1) (u.2.2.2.2.2.2.1) (u.2.2.2.2.2.2.2.1) (u.2.2.2.2.2.2.2.2.1) (u.2.2.2.2.2.2.2.2.2.1) (u.2.2.2.2.2.2.2.2.2.2.1) (u.2.2.2.2.2.2.2.2.2.2.2)) t) (va_A (wC ad cy ss ds ti co oma obr obj obo obm plo pch pbe pbl dnu dde dbo dln dld tba tal tro tsc tcl rma) sz)) (vx_X (fun _ : Unit => True) (fun E _ t => QX E ∧ cPost dC dI cy (wC ad cy ss ds ti co oma obr obj obo obm plo pch pbe pbl dnu dde dbo dln dld tba tal tro tsc tcl rma) sz (wC ad cy ss ds ti co oma obr obj obo obm plo pch pbe pbl dnu dde dbo dln dld tba tal tro tsc tcl rma) t) (va_A (wC ad cy ss ds ti co oma obr obj obo obm plo pch pbe pbl dnu dde dbo dln dld tba tal tro tsc tcl rma) sz)) 2 12 (va_A (wC ad cy ss ds ti co oma obr obj obo obm plo pch pbe pbl dnu dde dbo dln dld tba tal tro tsc tcl rma) sz) := by
  refine vx_ofW (cc := cX6_numerator) (maxL := 3) (ret := (some .int)) (by decide) rfl ?_
  intro p e s m args below meth c s₁ B hml hnt hv
  obtain ⟨rfl, ⟨hsz, hP, hK, hD0, hN⟩, hXw, hXs⟩ := hv
  have hts := atoms_spec (ws := wsX6_numerator) B.pre
  have hown : s.vm.findClass RX6 = some m.cls := findClass_of_methodNamed B.named
  subst hsz
  have hD := hD0.self (sz := s.heap.size)
  generalize hAe : va_A (wC ad cy ss ds ti co oma obr obj obo obm plo pch pbe pbl dnu dde dbo dln dld tba tal tro tsc tcl rma) s.heap.size = A at hD hXs ⊢
  have hA : ∀ q : Nat, s.heap.size ≤ q → A q := fun q h => by rw [← hAe]; exact Or.inr h
  have hl := lv_entry ([.ref (ad 0), .int x1, .int x2]) (n := 3) (Nat.le_of_ble_eq_true rfl)
  rw [lg_entry_eq]
  generalize (lg_sl ([.ref (ad 0), .int x1, .int x2]) ++ List.replicate (3 - (lg_sl ([.ref (ad 0), .int x1, .int x2])).length) Slot.unset).toArray = ls at hl ⊢
  have hl : lv_has ls 3 [(0, .ref (ad 0)), (1, .int x1), (2, .int x2)] := hl
  exact k_X6_numerator_0 ⟨B.exec, B.bytes, hml, B.returns, hown, hts, B.notSynchronized, hK, hA, hN⟩ x1 x2 ds dnu dde dbo dln dld tba tal tro tsc tcl rma s.heap [] ls hm ⟨hP, hD, va_S.rf⟩ (lv_sub hl [0, 1, 2] rfl) (fun r ds dnu dde dbo dln dld tba tal tro tsc tcl rma H locs ls pc hdg hSt hq => vx_ret (W.iret B.exec B.bytes B.returns (fun t ht hW => ⟨⟨r, (ds, dnu, dde, dbo, dln, dld, tba, tal, tro, tsc, tcl, rma), rfl, hq, cPost_of hAe ht hW.alike hSt hK⟩, hSt.2.2.F ht⟩) hSt.2.2.2.2 hdg B.notSynchronized)) hXw hXs hst (fun E ce q9 H locs ls pc rest hq hSt hce hcv hcl => vx_out (fun x hx => (hnt x hx).elim) B.notSynchronized hce hcv hcl (fun t ht hal => ⟨(), trivial, ⟨hq, cPost_of hAe ht hal hSt hK⟩, hSt.2.2.F ht⟩) hSt.2.2.2.2 (Nat.le_refl _) (Nat.le_refl _))

-- ===== X6_denominator
theorem fl_X6_denominator_33 : Cond.fieldLink RX6 33 "UnlikeUnion" "division" "LUnlikeUnion$Division;" ∈ wsX6_denominator := by decide +kernel
theorem in_X6_denominator_X0 : ∀ w ∈ u_ws RX0 TX0 6, w ∈ wsX6_denominator := by decide +kernel
theorem in_X6_denominator_X6 : ∀ w ∈ u_ws RX6 TX6 7, w ∈ wsX6_denominator := by decide +kernel
abbrev rmX6_denominator : Room := { frames := 43, cells := 2, slots := 12, locals := 4249 }
def p_X6_denominator (N : Nat) (ti : Nat → Int32) (co : Int32) (Q : Int32 → Int32 → (Nat → Int32) → (Nat → Int32) → Int32 → Int32 → Int32 → (Nat → Int32) → (Nat → Int32) → Int32 → Int64 → (Nat → Nat → Int64) → (Nat → Int32) → Prop) (QX : String → Prop) (x1 : Int32) (x2 : Int32) (ds : Int32) (dnu : Nat → Int32) (dde : Nat → Int32) (dbo : Int32) (dln : Int32) (dld : Int32) (tba : Nat → Int32) (tal : Nat → Int32) (tro : Int32) (tsc : Int64) (tcl : Nat → Nat → Int64) (rma : Nat → Int32) : Prop :=
  p_X6_requireJob N co (p_X6_requireMachine N (p_X6_refreshDivision N ti co (fun ds_1 dnu_2 dde_3 dbo_4 dln_5 dld_6 tba_7 tal_8 tro_9 tsc_10 tcl_11 rma_12 => vp_in ((x1 * (3 : Int32)) + x2) 21 ∧ (Q (dde_3 ((x1 * (3 : Int32)) + x2).toNatClampNeg) ds_1 dnu_2 dde_3 dbo_4 dln_5 dld_6 tba_7 tal_8 tro_9 tsc_10 tcl_11 rma_12)) ds dnu dde dbo dln dld tba tal tro tsc tcl rma) QX x2) QX x1

set_option maxHeartbeats 4000000 in
set_option maxRecDepth 100000 in
theorem k_X6_denominator_0 {N : Nat} {ss : Int32} {ti : Nat → Int32} {co : Int32} {oma : Nat → Int32} {obr : Int32} {obj : Int32} {obo : Int32} {obm : Int32} {plo : Nat → Int32} {pch : Nat → Int32} {pbe : Nat → Int32} {pbl : Int32} {Q : Int32 → Int32 → (Nat → Int32) → (Nat → Int32) → Int32 → Int32 → Int32 → (Nat → Int32) → (Nat → Int32) → Int32 → Int64 → (Nat → Nat → Int64) → (Nat → Int32) → Prop} {QX : String → Prop} (C0 : cxM cX6_denominator 3 (some .int) RX6 wsX6_denominator p s m args meth c dC dI cy A) :
    ∀ (x1 : Int32) (x2 : Int32) (ds : Int32) (dnu : Nat → Int32) (dde : Nat → Int32) (dbo : Int32) (dln : Int32) (dld : Int32) (tba : Nat → Int32) (tal : Nat → Int32) (tro : Int32) (tsc : Int64) (tcl : Nat → Nat → Int64) (rma : Nat → Int32) (H : Heap) (locs : List Loc) (ls : Array Slot) (hm : p_X6_denominator N ti co Q QX x1 x2 ds dnu dde dbo dln dld tba tal tro tsc tcl rma) (hSt : stC dC dI A s (wC ad cy ss ds ti co oma obr obj obo obm plo pch pbe pbl dnu dde dbo dln dld tba tal tro tsc tcl rma) H locs) (hl : lv_has ls 3 [(0, .ref (ad 0)), (1, .int x1), (2, .int x2)]) (hret : ∀ (r : Int32) (ds : Int32) (dnu : Nat → Int32) (dde : Nat → Int32) (dbo : Int32) (dln : Int32) (dld : Int32) (tba : Nat → Int32) (tal : Nat → Int32) (tro : Int32) (tsc : Int64) (tcl : Nat → Nat → Int64) (rma : Nat → Int32) (H : Heap) (locs : List Loc) (ls : Array Slot) (pc : Nat), decode cX6_denominator pc = .ok (.ireturn, 1) → stC dC dI A s (wC ad cy ss ds ti co oma obr obj obo obm plo pch pbe pbl dnu dde dbo dln dld tba tal tro tsc tcl rma) H locs → Q r ds dnu dde dbo dln dld tba tal tro tsc tcl rma → W p l e rmX6_denominator s m args below meth c H locs 2 12 Z (F0 m pc ls [.int r])) (hXw : xwC s) (hXs : xsC A s s.heap) (hst : l.stackTraces = false) (hO : ∀ (E : String) (ce : Cell) (q9 : Addr) (H : Heap) (locs : List Loc) (ls : Array Slot) (pc : Nat) (rest : List Value), QX E → stC dC dI A s (wC ad cy ss ds ti co oma obr obj obo obm plo pch pbe pbl dnu dde dbo dln dld tba tal tro tsc tcl rma) H locs → H[q9]? = some ce → ce.vm = .none → s.vm.findClass E = some ce.cls → vx_W p l e rmX6_denominator s m args below meth c H locs 2 12 Z (F0 m pc ls rest) q9), W p l e rmX6_denominator s m args below meth c H locs 0 0 Z (F0 m 0 ls []) := by
  obtain ⟨hx, hb, hml, hr, hown, hts, hlocks, hK, hA, hN⟩ := id C0
  intro x1 x2 ds dnu dde dbo dln dld tba tal tro tsc tcl rma H locs ls hm hSt hl hret hXw hXs hst hO
  obtain ⟨hP, hD, hS⟩ := hSt
  unfold p_X6_denominator at hm
  refine lv_aload_n hx hb dX6_denominator_0 rfl (lv_at hl 0 rfl) ?_
  refine lv_iload_n hx hb dX6_denominator_1 rfl (lv_at hl 1 rfl) ?_
  have hFc := va_freeSame hD hS hA
  refine vx_callv (vx_runV (As := [.int x1]) (rest := []) ⟨hx, hb, hml, hown, hts⟩ (c_X6_requireJob l dC dI cy ad H.size ss ds ti co oma obr obj obo obm plo pch pbe pbl dnu dde dbo dln dld tba tal tro tsc tcl rma x1 _ _ QX hst hm) (cwV 1 hts gX6_denominator_X6_requireJob rfl rfl rfl (by decide +kernel) ⟨Nat.le_of_ble_eq_true rfl, Nat.le_of_ble_eq_true rfl⟩) ⟨cPreX_blind, va_recv hK hP (ci := 6) (q0 := 0) rfl rfl, fun U hU hW => ⟨rfl, cPreX_at hP hK hD hN hU hW hXw hXs hS hFc⟩⟩ rfl rfl hl.1 rfl (lv_room (Nat.le_of_ble_eq_true rfl)) dX6_denominator_2 ⟨Nat.le_of_ble_eq_true rfl, Nat.le_of_ble_eq_true rfl⟩) hS (fun q _ h => hFc q h) hFc (fun q _ h => hFc q h) (fun E ce q9 u t H locs ht hvm hpx hBX hz1 hk1 hS hce hcv hcl => vx_widen (by omega) (by omega) (hO E ce q9 H locs ls 2 [] hBX.1 ⟨cPost_P ht hBX.2, cPost_D hFc hBX.2, hS⟩ hce hcv hcl)) (fun u t H locs ht hvm hw hB hz1 hk1 hS => ?_)
  try dsimp only at hw
  have hm := hw
  have hP : va_P (dC, dI) vwCl (wC ad cy ss ds ti co oma obr obj obo obm plo pch pbe pbl dnu dde dbo dln dld tba tal tro tsc tcl rma) H := cPost_P ht hB
  have hD : va_D A (wC ad cy ss ds ti co oma obr obj obo obm plo pch pbe pbl dnu dde dbo dln dld tba tal tro tsc tcl rma) := cPost_D hFc hB
  refine lv_iload_n hx hb dX6_denominator_5 rfl (lv_at hl 2 rfl) ?_
  have hFc := va_freeSame hD hS hA
  refine vx_callv (vx_runS (As := [.int x2]) (rest := []) ⟨hx, hb, hml, hown, hts⟩ (c_X6_requireMachine l dC dI cy ad H.size ss ds ti co oma obr obj obo obm plo pch pbe pbl dnu dde dbo dln dld tba tal tro tsc tcl rma x2 _ _ QX hst hm) (cwS 1 hts gX6_denominator_X6_requireMachine rfl rfl rfl (by decide +kernel) ⟨Nat.le_of_ble_eq_true rfl, Nat.le_of_ble_eq_true rfl⟩) ⟨cPreX_blind, fun U hU hW => ⟨rfl, cPreX_at hP hK hD hN hU hW hXw hXs hS hFc⟩⟩ rfl rfl hl.1 rfl (lv_room (Nat.le_of_ble_eq_true rfl)) dX6_denominator_6 ⟨Nat.le_of_ble_eq_true rfl, Nat.le_of_ble_eq_true rfl⟩) hS (fun q _ h => hFc q h) hFc (fun q _ h => hFc q h) (fun E ce q9 u t H locs ht hvm hpx hBX hz1 hk1 hS hce hcv hcl => vx_widen (by omega) (by omega) (hO E ce q9 H locs ls 6 [] hBX.1 ⟨cPost_P ht hBX.2, cPost_D hFc hBX.2, hS⟩ hce hcv hcl)) (fun u t H locs ht hvm hw hB hz1 hk1 hS => ?_)
  try dsimp only at hw
  have hm := hw
  have hP : va_P (dC, dI) vwCl (wC ad cy ss ds ti co oma obr obj obo obm plo pch pbe pbl dnu dde dbo dln dld tba tal tro tsc tcl rma) H := cPost_P ht hB
  have hD : va_D A (wC ad cy ss ds ti co oma obr obj obo obm plo pch pbe pbl dnu dde dbo dln dld tba tal tro tsc tcl rma) := cPost_D hFc hB
  refine lv_aload_n hx hb dX6_denominator_9 rfl (lv_at hl 0 rfl) ?_
  have hFc := va_freeSame hD hS hA
  refine va_callv (va_runV (As := []) (rest := []) ⟨hx, hb, hml, hown, hts⟩ (c_X6_refreshDivision l dC dI cy ad H.size ss ds ti co oma obr obj obo obm plo pch pbe pbl dnu dde dbo dln dld tba tal tro tsc tcl rma  _ _ hm) (cwV 0 hts gX6_denominator_X6_refreshDivision rfl rfl rfl (by decide +kernel) ⟨Nat.le_of_ble_eq_true rfl, Nat.le_of_ble_eq_true rfl⟩) ⟨cPre_blind, va_recv hK hP (ci := 6) (q0 := 0) rfl rfl, fun U hU hW => ⟨rfl, cPre_at hP hK hD hN hU hW⟩⟩ rfl rfl hl.1 rfl (lv_room (Nat.le_of_ble_eq_true rfl)) dX6_denominator_10 ⟨Nat.le_of_ble_eq_true rfl, Nat.le_of_ble_eq_true rfl⟩) hS (fun q _ h => hFc q h) hFc (fun u t H locs ht hvm hw hB hz1 hk1 hS => ?_)
  obtain ⟨ds_1, dnu_2, dde_3, dbo_4, dln_5, dld_6, tba_7, tal_8, tro_9, tsc_10, tcl_11, rma_12⟩ := u
  try dsimp only at hw
  have hm := hw
  have hP : va_P (dC, dI) vwCl (wC ad cy ss ds_1 ti co oma obr obj obo obm plo pch pbe pbl dnu_2 dde_3 dbo_4 dln_5 dld_6 tba_7 tal_8 tro_9 tsc_10 tcl_11 rma_12) H := cPost_P ht hB
  have hD : va_D A (wC ad cy ss ds_1 ti co oma obr obj obo obm plo pch pbe pbl dnu_2 dde_3 dbo_4 dln_5 dld_6 tba_7 tal_8 tro_9 tsc_10 tcl_11 rma_12) := cPost_D hFc hB
  refine lv_aload_n hx hb dX6_denominator_13 rfl (lv_at hl 0 rfl) ?_
  refine va_get (D := (dC, dI)) (ci := 6) (v := .ref (ad 9)) (C := RX6) (T := TX6) (N := 7) hx hb hts in_X6_denominator_X6 hown hK hP 0 rfl rfl 3 (by decide) (hts _ fl_X6_denominator_33) (fun _ h9 => h9) rfl dX6_denominator_14 ?_
  refine va_getN (D := (dC, dI)) (ci := 0) (v := .ref (ad 11)) (C := RX0) (T := TX0) (N := 6) hx hb hts in_X6_denominator_X0 hown hK hP 9 rfl rfl 2 (by decide) (va_Nw.use rfl (nw_X6_113 hN)) (fun _ h9 => h9) rfl dX6_denominator_17 ?_
  refine lv_iload_n hx hb dX6_denominator_20 rfl (lv_at hl 1 rfl) ?_
  refine lv_iconst (v := 3) hx hb dX6_denominator_21 (by decide) ?_
  refine lv_imul hx hb dX6_denominator_22 ?_
  refine lv_iload_n hx hb dX6_denominator_23 rfl (lv_at hl 2 rfl) ?_
  refine lv_iadd hx hb dX6_denominator_24 ?_
  have hi_13 := hm.1
  have hm := hm.2
  refine va_iald hx hb hK hP 11 0 rfl rfl hi_13 dX6_denominator_25 ?_
  exact hret (dde_3 ((x1 * (3 : Int32)) + x2).toNatClampNeg) ds_1 dnu_2 dde_3 dbo_4 dln_5 dld_6 tba_7 tal_8 tro_9 tsc_10 tcl_11 rma_12 H locs ls 26 dX6_denominator_26 ⟨hP, hD, hS⟩ hm

set_option maxHeartbeats 4000000 in
set_option maxRecDepth 100000 in
theorem c_X6_denominator (l : Launch) (dC : Nat → ClassId) (dI : Nat → Nat → Nat) (cy : Nat → ClassId) (ad : Nat → Nat) (sz : Nat) (ss : Int32) (ds : Int32) (ti : Nat → Int32) (co : Int32) (oma : Nat → Int32) (obr : Int32) (obj : Int32) (obo : Int32) (obm : Int32) (plo : Nat → Int32) (pch : Nat → Int32) (pbe : Nat → Int32) (pbl : Int32) (dnu : Nat → Int32) (dde : Nat → Int32) (dbo : Int32) (dln : Int32) (dld : Int32) (tba : Nat → Int32) (tal : Nat → Int32) (tro : Int32) (tsc : Int64) (tcl : Nat → Nat → Int64) (rma : Nat → Int32) (x1 : Int32) (x2 : Int32) (N : Nat) (Q : Int32 → Int32 → (Nat → Int32) → (Nat → Int32) → Int32 → Int32 → Int32 → (Nat → Int32) → (Nat → Int32) → Int32 → Int64 → (Nat → Nat → Int64) → (Nat → Int32) → Prop) (QX : String → Prop) (hst : l.stackTraces = false) (hm : p_X6_denominator N ti co Q QX x1 x2 ds dnu dde dbo dln dld tba tal tro tsc tcl rma) : vx_Met l yX6_denominator wsX6_denominator rmX6_denominator (va_Pc [.ref (ad 0), .int x1, .int x2] (cPreX dC dI cy (wC ad cy ss ds ti co oma obr obj obo obm plo pch pbe pbl dnu dde dbo dln dld tba tal tro tsc tcl rma) sz)) (va_Qi (fun (r : Int32) (u : Int32 × (Nat → Int32) × (Nat → Int32) × Int32 × Int32 × Int32 × (Nat → Int32) × (Nat → Int32) × Int32 × Int64 × (Nat → Nat → Int64) × (Nat → Int32)) => Q r u.1 u.2.1 u.2.2.1 u.2.2.2.1 u.2.2.2.2.1 u.2.2.2.2.2.1 u.2.2.2.2.2.2.1 u.2.2.2.2.2.2.2.1 u.2.2.2.2.2.2.2.2.1 u.2.2.2.2.2.2.2.2.2.1 u.2.2.2.2.2.2.2.2.2.2.1 u.2.2.2.2.2.2.2.2.2.2.2) (fun u t => cPost dC dI cy (wC ad cy ss ds ti co oma obr obj obo obm plo pch pbe pbl dnu dde dbo dln dld tba tal tro tsc tcl rma) sz (wC ad cy ss (u.1) ti co oma obr obj obo obm plo pch pbe pbl (u.2.1) (u.2.2.1) (u.2.2.2.1) (u.2.2.2.2.1) (u.2.2.2.2.2.1) (u.2.2.2.2.2.2.1) (u.2.2.2.2.2.2.2.1) (u.2.2.2.2.2.2.2.2.1) (u.2.2.2.2.2.2.2.2.2.1) (u.2.2.2.2.2.2.2.2.2.2.1) (u.2.2.2.2.2.2.2.2.2.2.2)) t) (va_A (wC ad cy ss ds ti co oma obr obj obo obm plo pch pbe pbl dnu dde dbo dln dld tba tal tro tsc tcl rma) sz)) (vx_X (fun _ : Unit => True) (fun E _ t => QX E ∧ cPost dC dI cy (wC ad cy ss ds ti co oma obr obj obo obm plo pch pbe pbl dnu dde dbo dln dld tba tal tro tsc tcl rma) sz (wC ad cy ss ds ti co oma obr obj obo obm plo pch pbe pbl dnu dde dbo dln dld tba tal tro tsc tcl rma) t) (va_A (wC ad cy ss ds ti co oma obr obj obo obm plo pch pbe pbl dnu dde dbo dln dld tba tal tro tsc tcl rma) sz)) 2 12 (va_A (wC ad cy ss ds ti co oma obr obj obo obm plo pch pbe pbl dnu dde dbo dln dld tba tal tro tsc tcl rma) sz) := by
  refine vx_ofW (cc := cX6_denominator) (maxL := 3) (ret := (some .int)) (by decide) rfl ?_
  intro p e s m args below meth c s₁ B hml hnt hv
  obtain ⟨rfl, ⟨hsz, hP, hK, hD0, hN⟩, hXw, hXs⟩ := hv
  have hts := atoms_spec (ws := wsX6_denominator) B.pre
  have hown : s.vm.findClass RX6 = some m.cls := findClass_of_methodNamed B.named
  subst hsz
  have hD := hD0.self (sz := s.heap.size)
  generalize hAe : va_A (wC ad cy ss ds ti co oma obr obj obo obm plo pch pbe pbl dnu dde dbo dln dld tba tal tro tsc tcl rma) s.heap.size = A at hD hXs ⊢
  have hA : ∀ q : Nat, s.heap.size ≤ q → A q := fun q h => by rw [← hAe]; exact Or.inr h
  have hl := lv_entry ([.ref (ad 0), .int x1, .int x2]) (n := 3) (Nat.le_of_ble_eq_true rfl)
  rw [lg_entry_eq]
  generalize (lg_sl ([.ref (ad 0), .int x1, .int x2]) ++ List.replicate (3 - (lg_sl ([.ref (ad 0), .int x1, .int x2])).length) Slot.unset).toArray = ls at hl ⊢
  have hl : lv_has ls 3 [(0, .ref (ad 0)), (1, .int x1), (2, .int x2)] := hl
  exact k_X6_denominator_0 ⟨B.exec, B.bytes, hml, B.returns, hown, hts, B.notSynchronized, hK, hA, hN⟩ x1 x2 ds dnu dde dbo dln dld tba tal tro tsc tcl rma s.heap [] ls hm ⟨hP, hD, va_S.rf⟩ (lv_sub hl [0, 1, 2] rfl) (fun r ds dnu dde dbo dln dld tba tal tro tsc tcl rma H locs ls pc hdg hSt hq => vx_ret (W.iret B.exec B.bytes B.returns (fun t ht hW => ⟨⟨r, (ds, dnu, dde, dbo, dln, dld, tba, tal, tro, tsc, tcl, rma), rfl, hq, cPost_of hAe ht hW.alike hSt hK⟩, hSt.2.2.F ht⟩) hSt.2.2.2.2 hdg B.notSynchronized)) hXw hXs hst (fun E ce q9 H locs ls pc rest hq hSt hce hcv hcl => vx_out (fun x hx => (hnt x hx).elim) B.notSynchronized hce hcv hcl (fun t ht hal => ⟨(), trivial, ⟨hq, cPost_of hAe ht hal hSt hK⟩, hSt.2.2.F ht⟩) hSt.2.2.2.2 (Nat.le_refl _) (Nat.le_refl _))

-- ===== X6_isDivided
theorem fl_X6_isDivided_33 : Cond.fieldLink RX6 33 "UnlikeUnion" "division" "LUnlikeUnion$Division;" ∈ wsX6_isDivided := by decide +kernel
theorem in_X6_isDivided_X6 : ∀ w ∈ u_ws RX6 TX6 7, w ∈ wsX6_isDivided := by decide +kernel
abbrev rmX6_isDivided : Room := { frames := 43, cells := 1, slots := 6, locals := 4249 }
def p_X6_isDivided (N : Nat) (ti : Nat → Int32) (co : Int32) (Q : Int32 → Int32 → (Nat → Int32) → (Nat → Int32) → Int32 → Int32 → Int32 → (Nat → Int32) → (Nat → Int32) → Int32 → Int64 → (Nat → Nat → Int64) → (Nat → Int32) → Prop) (QX : String → Prop) (x1 : Int32) (ds : Int32) (dnu : Nat → Int32) (dde : Nat → Int32) (dbo : Int32) (dln : Int32) (dld : Int32) (tba : Nat → Int32) (tal : Nat → Int32) (tro : Int32) (tsc : Int64) (tcl : Nat → Nat → Int64) (rma : Nat → Int32) : Prop :=
  p_X6_requireJob N co (p_X6_refreshDivision N ti co (fun ds_1 dnu_2 dde_3 dbo_4 dln_5 dld_6 tba_7 tal_8 tro_9 tsc_10 tcl_11 rma_12 => p_X0_wholeMachine N dnu_2 dde_3 (fun r_13 => (r_13 = (-1 : Int32) → (Q (1 : Int32) ds_1 dnu_2 dde_3 dbo_4 dln_5 dld_6 tba_7 tal_8 tro_9 tsc_10 tcl_11 rma_12)) ∧ (¬ r_13 = (-1 : Int32) → (Q (0 : Int32) ds_1 dnu_2 dde_3 dbo_4 dln_5 dld_6 tba_7 tal_8 tro_9 tsc_10 tcl_11 rma_12))) x1) ds dnu dde dbo dln dld tba tal tro tsc tcl rma) QX x1

set_option maxHeartbeats 4000000 in
set_option maxRecDepth 100000 in
theorem k_X6_isDivided_0 {N : Nat} {ss : Int32} {ti : Nat → Int32} {co : Int32} {oma : Nat → Int32} {obr : Int32} {obj : Int32} {obo : Int32} {obm : Int32} {plo : Nat → Int32} {pch : Nat → Int32} {pbe : Nat → Int32} {pbl : Int32} {Q : Int32 → Int32 → (Nat → Int32) → (Nat → Int32) → Int32 → Int32 → Int32 → (Nat → Int32) → (Nat → Int32) → Int32 → Int64 → (Nat → Nat → Int64) → (Nat → Int32) → Prop} {QX : String → Prop} (C0 : cxM cX6_isDivided 2 (some .boolean) RX6 wsX6_isDivided p s m args meth c dC dI cy A) :
    ∀ (x1 : Int32) (ds : Int32) (dnu : Nat → Int32) (dde : Nat → Int32) (dbo : Int32) (dln : Int32) (dld : Int32) (tba : Nat → Int32) (tal : Nat → Int32) (tro : Int32) (tsc : Int64) (tcl : Nat → Nat → Int64) (rma : Nat → Int32) (H : Heap) (locs : List Loc) (ls : Array Slot) (hm : p_X6_isDivided N ti co Q QX x1 ds dnu dde dbo dln dld tba tal tro tsc tcl rma) (hSt : stC dC dI A s (wC ad cy ss ds ti co oma obr obj obo obm plo pch pbe pbl dnu dde dbo dln dld tba tal tro tsc tcl rma) H locs) (hl : lv_has ls 2 [(0, .ref (ad 0)), (1, .int x1)]) (hret : ∀ (r : Int32) (ds : Int32) (dnu : Nat → Int32) (dde : Nat → Int32) (dbo : Int32) (dln : Int32) (dld : Int32) (tba : Nat → Int32) (tal : Nat → Int32) (tro : Int32) (tsc : Int64) (tcl : Nat → Nat → Int64) (rma : Nat → Int32) (H : Heap) (locs : List Loc) (ls : Array Slot) (pc : Nat), decode cX6_isDivided pc = .ok (.ireturn, 1) → narrow .boolean (.int r) = .int r → stC dC dI A s (wC ad cy ss ds ti co oma obr obj obo obm plo pch pbe pbl dnu dde dbo dln dld tba tal tro tsc tcl rma) H locs → Q r ds dnu dde dbo dln dld tba tal tro tsc tcl rma → W p l e rmX6_isDivided s m args below meth c H locs 1 6 Z (F0 m pc ls [.int r])) (hXw : xwC s) (hXs : xsC A s s.heap) (hst : l.stackTraces = false) (hO : ∀ (E : String) (ce : Cell) (q9 : Addr) (H : Heap) (locs : List Loc) (ls : Array Slot) (pc : Nat) (rest : List Value), QX E → stC dC dI A s (wC ad cy ss ds ti co oma obr obj obo obm plo pch pbe pbl dnu dde dbo dln dld tba tal tro tsc tcl rma) H locs → H[q9]? = some ce → ce.vm = .none → s.vm.findClass E = some ce.cls → vx_W p l e rmX6_isDivided s m args below meth c H locs 1 6 Z (F0 m pc ls rest) q9), W p l e rmX6_isDivided s m args below meth c H locs 0 0 Z (F0 m 0 ls []) := by
  obtain ⟨hx, hb, hml, hr, hown, hts, hlocks, hK, hA, hN⟩ := id C0
  intro x1 ds dnu dde dbo dln dld tba tal tro tsc tcl rma H locs ls hm hSt hl hret hXw hXs hst hO
  obtain ⟨hP, hD, hS⟩ := hSt
  unfold p_X6_isDivided at hm
  refine lv_aload_n hx hb dX6_isDivided_0 rfl (lv_at hl 0 rfl) ?_
  refine lv_iload_n hx hb dX6_isDivided_1 rfl (lv_at hl 1 rfl) ?_
  have hFc := va_freeSame hD hS hA
  refine vx_callv (vx_runV (As := [.int x1]) (rest := []) ⟨hx, hb, hml, hown, hts⟩ (c_X6_requireJob l dC dI cy ad H.size ss ds ti co oma obr obj obo obm plo pch pbe pbl dnu dde dbo dln dld tba tal tro tsc tcl rma x1 _ _ QX hst hm) (cwV 1 hts gX6_isDivided_X6_requireJob rfl rfl rfl (by decide +kernel) ⟨Nat.le_of_ble_eq_true rfl, Nat.le_of_ble_eq_true rfl⟩) ⟨cPreX_blind, va_recv hK hP (ci := 6) (q0 := 0) rfl rfl, fun U hU hW => ⟨rfl, cPreX_at hP hK hD hN hU hW hXw hXs hS hFc⟩⟩ rfl rfl hl.1 rfl (lv_room (Nat.le_of_ble_eq_true rfl)) dX6_isDivided_2 ⟨Nat.le_of_ble_eq_true rfl, Nat.le_of_ble_eq_true rfl⟩) hS (fun q _ h => hFc q h) hFc (fun q _ h => hFc q h) (fun E ce q9 u t H locs ht hvm hpx hBX hz1 hk1 hS hce hcv hcl => vx_widen (by omega) (by omega) (hO E ce q9 H locs ls 2 [] hBX.1 ⟨cPost_P ht hBX.2, cPost_D hFc hBX.2, hS⟩ hce hcv hcl)) (fun u t H locs ht hvm hw hB hz1 hk1 hS => ?_)
  try dsimp only at hw
  have hm := hw
  have hP : va_P (dC, dI) vwCl (wC ad cy ss ds ti co oma obr obj obo obm plo pch pbe pbl dnu dde dbo dln dld tba tal tro tsc tcl rma) H := cPost_P ht hB
  have hD : va_D A (wC ad cy ss ds ti co oma obr obj obo obm plo pch pbe pbl dnu dde dbo dln dld tba tal tro tsc tcl rma) := cPost_D hFc hB
  refine lv_aload_n hx hb dX6_isDivided_5 rfl (lv_at hl 0 rfl) ?_
  have hFc := va_freeSame hD hS hA
  refine va_callv (va_runV (As := []) (rest := []) ⟨hx, hb, hml, hown, hts⟩ (c_X6_refreshDivision l dC dI cy ad H.size ss ds ti co oma obr obj obo obm plo pch pbe pbl dnu dde dbo dln dld tba tal tro tsc tcl rma  _ _ hm) (cwV 0 hts gX6_isDivided_X6_refreshDivision rfl rfl rfl (by decide +kernel) ⟨Nat.le_of_ble_eq_true rfl, Nat.le_of_ble_eq_true rfl⟩) ⟨cPre_blind, va_recv hK hP (ci := 6) (q0 := 0) rfl rfl, fun U hU hW => ⟨rfl, cPre_at hP hK hD hN hU hW⟩⟩ rfl rfl hl.1 rfl (lv_room (Nat.le_of_ble_eq_true rfl)) dX6_isDivided_6 ⟨Nat.le_of_ble_eq_true rfl, Nat.le_of_ble_eq_true rfl⟩) hS (fun q _ h => hFc q h) hFc (fun u t H locs ht hvm hw hB hz1 hk1 hS => ?_)
  obtain ⟨ds_1, dnu_2, dde_3, dbo_4, dln_5, dld_6, tba_7, tal_8, tro_9, tsc_10, tcl_11, rma_12⟩ := u
  try dsimp only at hw
  have hm := hw
  have hP : va_P (dC, dI) vwCl (wC ad cy ss ds_1 ti co oma obr obj obo obm plo pch pbe pbl dnu_2 dde_3 dbo_4 dln_5 dld_6 tba_7 tal_8 tro_9 tsc_10 tcl_11 rma_12) H := cPost_P ht hB
  have hD : va_D A (wC ad cy ss ds_1 ti co oma obr obj obo obm plo pch pbe pbl dnu_2 dde_3 dbo_4 dln_5 dld_6 tba_7 tal_8 tro_9 tsc_10 tcl_11 rma_12) := cPost_D hFc hB
  refine lv_aload_n hx hb dX6_isDivided_9 rfl (lv_at hl 0 rfl) ?_
  refine va_get (D := (dC, dI)) (ci := 6) (v := .ref (ad 9)) (C := RX6) (T := TX6) (N := 7) hx hb hts in_X6_isDivided_X6 hown hK hP 0 rfl rfl 3 (by decide) (hts _ fl_X6_isDivided_33) (fun _ h9 => h9) rfl dX6_isDivided_10 ?_
  refine lv_iload_n hx hb dX6_isDivided_13 rfl (lv_at hl 1 rfl) ?_
  have hFc := va_freeSame hD hS hA
  refine va_calli (va_runV (As := [.int x1]) (rest := []) ⟨hx, hb, hml, hown, hts⟩ (c_X0_wholeMachine l dC dI cy ad H.size ss ds_1 ti co oma obr obj obo obm plo pch pbe pbl dnu_2 dde_3 dbo_4 dln_5 dld_6 tba_7 tal_8 tro_9 tsc_10 tcl_11 rma_12 x1 _ _ hm) (cwV 1 hts gX6_isDivided_X0_wholeMachine rfl rfl rfl (by decide +kernel) ⟨Nat.le_of_ble_eq_true rfl, Nat.le_of_ble_eq_true rfl⟩) ⟨cPre_blind, va_recv hK hP (ci := 0) (q0 := 9) rfl rfl, fun U hU hW => ⟨rfl, cPre_at hP hK hD hN hU hW⟩⟩ rfl rfl hl.1 rfl (lv_room (Nat.le_of_ble_eq_true rfl)) dX6_isDivided_14 ⟨Nat.le_of_ble_eq_true rfl, Nat.le_of_ble_eq_true rfl⟩) hS (fun q _ h => hFc q h) hFc (fun r_13 u t H locs ht hvm hw hB hz1 hk1 hS => ?_)
  try dsimp only at hw
  have hm := hw
  have hP : va_P (dC, dI) vwCl (wC ad cy ss ds_1 ti co oma obr obj obo obm plo pch pbe pbl dnu_2 dde_3 dbo_4 dln_5 dld_6 tba_7 tal_8 tro_9 tsc_10 tcl_11 rma_12) H := cPost_P ht hB
  have hD : va_D A (wC ad cy ss ds_1 ti co oma obr obj obo obm plo pch pbe pbl dnu_2 dde_3 dbo_4 dln_5 dld_6 tba_7 tal_8 tro_9 tsc_10 tcl_11 rma_12) := cPost_D hFc hB
  refine lv_iconst (v := -1) hx hb dX6_isDivided_17 (by decide) ?_
  refine lv_icmp_ne (tgt := 25) hx hb dX6_isDivided_18 (by decide) (fun c_14 => ?_) (fun c_14 => ?_)
  · have hm := hm.2 c_14
    refine lv_iconst (v := 0) hx hb dX6_isDivided_25 (by decide) ?_
    exact hret (0 : Int32) ds_1 dnu_2 dde_3 dbo_4 dln_5 dld_6 tba_7 tal_8 tro_9 tsc_10 tcl_11 rma_12 H locs ls 26 dX6_isDivided_26 rfl ⟨hP, hD, hS⟩ hm
  · have hm := hm.1 c_14
    refine lv_iconst (v := 1) hx hb dX6_isDivided_21 (by decide) ?_
    refine lv_goto (tgt := 26) hx hb dX6_isDivided_22 (by decide) ?_
    exact hret (1 : Int32) ds_1 dnu_2 dde_3 dbo_4 dln_5 dld_6 tba_7 tal_8 tro_9 tsc_10 tcl_11 rma_12 H locs ls 26 dX6_isDivided_26 rfl ⟨hP, hD, hS⟩ hm

set_option maxHeartbeats 4000000 in
set_option maxRecDepth 100000 in
theorem c_X6_isDivided (l : Launch) (dC : Nat → ClassId) (dI : Nat → Nat → Nat) (cy : Nat → ClassId) (ad : Nat → Nat) (sz : Nat) (ss : Int32) (ds : Int32) (ti : Nat → Int32) (co : Int32) (oma : Nat → Int32) (obr : Int32) (obj : Int32) (obo : Int32) (obm : Int32) (plo : Nat → Int32) (pch : Nat → Int32) (pbe : Nat → Int32) (pbl : Int32) (dnu : Nat → Int32) (dde : Nat → Int32) (dbo : Int32) (dln : Int32) (dld : Int32) (tba : Nat → Int32) (tal : Nat → Int32) (tro : Int32) (tsc : Int64) (tcl : Nat → Nat → Int64) (rma : Nat → Int32) (x1 : Int32) (N : Nat) (Q : Int32 → Int32 → (Nat → Int32) → (Nat → Int32) → Int32 → Int32 → Int32 → (Nat → Int32) → (Nat → Int32) → Int32 → Int64 → (Nat → Nat → Int64) → (Nat → Int32) → Prop) (QX : String → Prop) (hst : l.stackTraces = false) (hm : p_X6_isDivided N ti co Q QX x1 ds dnu dde dbo dln dld tba tal tro tsc tcl rma) : vx_Met l yX6_isDivided wsX6_isDivided rmX6_isDivided (va_Pc [.ref (ad 0), .int x1] (cPreX dC dI cy (wC ad cy ss ds ti co oma obr obj obo obm plo pch pbe pbl dnu dde dbo dln dld tba tal tro tsc tcl rma) sz)) (va_Qi (fun (r : Int32) (u : Int32 × (Nat → Int32) × (Nat → Int32) × Int32 × Int32 × Int32 × (Nat → Int32) × (Nat → Int32) × Int32 × Int64 × (Nat → Nat → Int64) × (Nat → Int32)) => Q r u.1 u.2.1 u.2.2.1 u.2.2.2.1 u.2.2.2.2.1 u.2.2.2.2.2.1 u.2.2.2.2.2.2.1 u.2.2.2.2.2.2.2.1 u.2.2.2.2.2.2.2.2.1 u.2.2.2.2.2.2.2.2.2.1 u.2.2.2.2.2.2.2.2.2.2.1 u.2.2.2.2.2.2.2.2.2.2.2 ∧ narrow .boolean (.int r) = .int r) (fun u t => cPost dC dI cy (wC ad cy ss ds ti co oma obr obj obo obm plo pch pbe pbl dnu dde dbo dln dld tba tal tro tsc tcl rma) sz (wC ad cy ss (u.1) ti co oma obr obj obo obm plo pch pbe pbl (u.2.1) (u.2.2.1) (u.2.2.2.1) (u.2.2.2.2.1) (u.2.2.2.2.2.1) (u.2.2.2.2.2.2.1) (u.2.2.2.2.2.2.2.1) (u.2.2.2.2.2.2.2.2.1) (u.2.2.2.2.2.2.2.2.2.1) (u.2.2.2.2.2.2.2.2.2.2.1) (u.2.2.2.2.2.2.2.2.2.2.2)) t) (va_A (wC ad cy ss ds ti co oma obr obj obo obm plo pch pbe pbl dnu dde dbo dln dld tba tal tro tsc tcl rma) sz)) (vx_X (fun _ : Unit => True) (fun E _ t => QX E ∧ cPost dC dI cy (wC ad cy ss ds ti co oma obr obj obo obm plo pch pbe pbl dnu dde dbo dln dld tba tal tro tsc tcl rma) sz (wC ad cy ss ds ti co oma obr obj obo obm plo pch pbe pbl dnu dde dbo dln dld tba tal tro tsc tcl rma) t) (va_A (wC ad cy ss ds ti co oma obr obj obo obm plo pch pbe pbl dnu dde dbo dln dld tba tal tro tsc tcl rma) sz)) 1 6 (va_A (wC ad cy ss ds ti co oma obr obj obo obm plo pch pbe pbl dnu dde dbo dln dld tba tal tro tsc tcl rma) sz) := by
  refine vx_ofW (cc := cX6_isDivided) (maxL := 2) (ret := (some .boolean)) (by decide) rfl ?_
  intro p e s m args below meth c s₁ B hml hnt hv
  obtain ⟨rfl, ⟨hsz, hP, hK, hD0, hN⟩, hXw, hXs⟩ := hv
  have hts := atoms_spec (ws := wsX6_isDivided) B.pre
  have hown : s.vm.findClass RX6 = some m.cls := findClass_of_methodNamed B.named
  subst hsz
  have hD := hD0.self (sz := s.heap.size)
  generalize hAe : va_A (wC ad cy ss ds ti co oma obr obj obo obm plo pch pbe pbl dnu dde dbo dln dld tba tal tro tsc tcl rma) s.heap.size = A at hD hXs ⊢
  have hA : ∀ q : Nat, s.heap.size ≤ q → A q := fun q h => by rw [← hAe]; exact Or.inr h
  have hl := lv_entry ([.ref (ad 0), .int x1]) (n := 2) (Nat.le_of_ble_eq_true rfl)
  rw [lg_entry_eq]
  generalize (lg_sl ([.ref (ad 0), .int x1]) ++ List.replicate (2 - (lg_sl ([.ref (ad 0), .int x1])).length) Slot.unset).toArray = ls at hl ⊢
  have hl : lv_has ls 2 [(0, .ref (ad 0)), (1, .int x1)] := hl
  exact k_X6_isDivided_0 ⟨B.exec, B.bytes, hml, B.returns, hown, hts, B.notSynchronized, hK, hA, hN⟩ x1 ds dnu dde dbo dln dld tba tal tro tsc tcl rma s.heap [] ls hm ⟨hP, hD, va_S.rf⟩ (lv_sub hl [0, 1] rfl) (fun r ds dnu dde dbo dln dld tba tal tro tsc tcl rma H locs ls pc hdg hn hSt hq => vx_ret (W.zret B.exec B.bytes B.returns hn (fun t ht hW => ⟨⟨r, (ds, dnu, dde, dbo, dln, dld, tba, tal, tro, tsc, tcl, rma), rfl, ⟨hq, hn⟩, cPost_of hAe ht hW.alike hSt hK⟩, hSt.2.2.F ht⟩) hSt.2.2.2.2 hdg B.notSynchronized)) hXw hXs hst (fun E ce q9 H locs ls pc rest hq hSt hce hcv hcl => vx_out (fun x hx => (hnt x hx).elim) B.notSynchronized hce hcv hcl (fun t ht hal => ⟨(), trivial, ⟨hq, cPost_of hAe ht hal hSt hK⟩, hSt.2.2.F ht⟩) hSt.2.2.2.2 (Nat.le_refl _) (Nat.le_refl _))

-- ===== X6_roundedMachine
theorem fl_X6_roundedMachine_40 : Cond.fieldLink RX6 40 "UnlikeUnion" "rounding" "LUnlikeUnion$Rounding;" ∈ wsX6_roundedMachine := by decide +kernel
theorem in_X6_roundedMachine_X4 : ∀ w ∈ u_ws RX4 TX4 1, w ∈ wsX6_roundedMachine := by decide +kernel
theorem in_X6_roundedMachine_X6 : ∀ w ∈ u_ws RX6 TX6 7, w ∈ wsX6_roundedMachine := by decide +kernel
abbrev rmX6_roundedMachine : Room := { frames := 43, cells := 1, slots := 6, locals := 4249 }
def p_X6_roundedMachine (N : Nat) (ti : Nat → Int32) (co : Int32) (Q : Int32 → Int32 → (Nat → Int32) → (Nat → Int32) → Int32 → Int32 → Int32 → (Nat → Int32) → (Nat → Int32) → Int32 → Int64 → (Nat → Nat → Int64) → (Nat → Int32) → Prop) (QX : String → Prop) (x1 : Int32) (ds : Int32) (dnu : Nat → Int32) (dde : Nat → Int32) (dbo : Int32) (dln : Int32) (dld : Int32) (tba : Nat → Int32) (tal : Nat → Int32) (tro : Int32) (tsc : Int64) (tcl : Nat → Nat → Int64) (rma : Nat → Int32) : Prop :=
  p_X6_requireJob N co (p_X6_refreshDivision N ti co (fun ds_1 dnu_2 dde_3 dbo_4 dln_5 dld_6 tba_7 tal_8 tro_9 tsc_10 tcl_11 rma_12 => vp_in x1 7 ∧ (Q (rma_12 (x1).toNatClampNeg) ds_1 dnu_2 dde_3 dbo_4 dln_5 dld_6 tba_7 tal_8 tro_9 tsc_10 tcl_11 rma_12)) ds dnu dde dbo dln dld tba tal tro tsc tcl rma) QX x1

set_option maxHeartbeats 4000000 in
set_option maxRecDepth 100000 in
theorem k_X6_roundedMachine_0 {N : Nat} {ss : Int32} {ti : Nat → Int32} {co : Int32} {oma : Nat → Int32} {obr : Int32} {obj : Int32} {obo : Int32} {obm : Int32} {plo : Nat → Int32} {pch : Nat → Int32} {pbe : Nat → Int32} {pbl : Int32} {Q : Int32 → Int32 → (Nat → Int32) → (Nat → Int32) → Int32 → Int32 → Int32 → (Nat → Int32) → (Nat → Int32) → Int32 → Int64 → (Nat → Nat → Int64) → (Nat → Int32) → Prop} {QX : String → Prop} (C0 : cxM cX6_roundedMachine 2 (some .int) RX6 wsX6_roundedMachine p s m args meth c dC dI cy A) :
    ∀ (x1 : Int32) (ds : Int32) (dnu : Nat → Int32) (dde : Nat → Int32) (dbo : Int32) (dln : Int32) (dld : Int32) (tba : Nat → Int32) (tal : Nat → Int32) (tro : Int32) (tsc : Int64) (tcl : Nat → Nat → Int64) (rma : Nat → Int32) (H : Heap) (locs : List Loc) (ls : Array Slot) (hm : p_X6_roundedMachine N ti co Q QX x1 ds dnu dde dbo dln dld tba tal tro tsc tcl rma) (hSt : stC dC dI A s (wC ad cy ss ds ti co oma obr obj obo obm plo pch pbe pbl dnu dde dbo dln dld tba tal tro tsc tcl rma) H locs) (hl : lv_has ls 2 [(0, .ref (ad 0)), (1, .int x1)]) (hret : ∀ (r : Int32) (ds : Int32) (dnu : Nat → Int32) (dde : Nat → Int32) (dbo : Int32) (dln : Int32) (dld : Int32) (tba : Nat → Int32) (tal : Nat → Int32) (tro : Int32) (tsc : Int64) (tcl : Nat → Nat → Int64) (rma : Nat → Int32) (H : Heap) (locs : List Loc) (ls : Array Slot) (pc : Nat), decode cX6_roundedMachine pc = .ok (.ireturn, 1) → stC dC dI A s (wC ad cy ss ds ti co oma obr obj obo obm plo pch pbe pbl dnu dde dbo dln dld tba tal tro tsc tcl rma) H locs → Q r ds dnu dde dbo dln dld tba tal tro tsc tcl rma → W p l e rmX6_roundedMachine s m args below meth c H locs 1 6 Z (F0 m pc ls [.int r])) (hXw : xwC s) (hXs : xsC A s s.heap) (hst : l.stackTraces = false) (hO : ∀ (E : String) (ce : Cell) (q9 : Addr) (H : Heap) (locs : List Loc) (ls : Array Slot) (pc : Nat) (rest : List Value), QX E → stC dC dI A s (wC ad cy ss ds ti co oma obr obj obo obm plo pch pbe pbl dnu dde dbo dln dld tba tal tro tsc tcl rma) H locs → H[q9]? = some ce → ce.vm = .none → s.vm.findClass E = some ce.cls → vx_W p l e rmX6_roundedMachine s m args below meth c H locs 1 6 Z (F0 m pc ls rest) q9), W p l e rmX6_roundedMachine s m args below meth c H locs 0 0 Z (F0 m 0 ls []) := by
  obtain ⟨hx, hb, hml, hr, hown, hts, hlocks, hK, hA, hN⟩ := id C0
  intro x1 ds dnu dde dbo dln dld tba tal tro tsc tcl rma H locs ls hm hSt hl hret hXw hXs hst hO
  obtain ⟨hP, hD, hS⟩ := hSt
  unfold p_X6_roundedMachine at hm
  refine lv_aload_n hx hb dX6_roundedMachine_0 rfl (lv_at hl 0 rfl) ?_
  refine lv_iload_n hx hb dX6_roundedMachine_1 rfl (lv_at hl 1 rfl) ?_
  have hFc := va_freeSame hD hS hA
  refine vx_callv (vx_runV (As := [.int x1]) (rest := []) ⟨hx, hb, hml, hown, hts⟩ (c_X6_requireJob l dC dI cy ad H.size ss ds ti co oma obr obj obo obm plo pch pbe pbl dnu dde dbo dln dld tba tal tro tsc tcl rma x1 _ _ QX hst hm) (cwV 1 hts gX6_roundedMachine_X6_requireJob rfl rfl rfl (by decide +kernel) ⟨Nat.le_of_ble_eq_true rfl, Nat.le_of_ble_eq_true rfl⟩) ⟨cPreX_blind, va_recv hK hP (ci := 6) (q0 := 0) rfl rfl, fun U hU hW => ⟨rfl, cPreX_at hP hK hD hN hU hW hXw hXs hS hFc⟩⟩ rfl rfl hl.1 rfl (lv_room (Nat.le_of_ble_eq_true rfl)) dX6_roundedMachine_2 ⟨Nat.le_of_ble_eq_true rfl, Nat.le_of_ble_eq_true rfl⟩) hS (fun q _ h => hFc q h) hFc (fun q _ h => hFc q h) (fun E ce q9 u t H locs ht hvm hpx hBX hz1 hk1 hS hce hcv hcl => vx_widen (by omega) (by omega) (hO E ce q9 H locs ls 2 [] hBX.1 ⟨cPost_P ht hBX.2, cPost_D hFc hBX.2, hS⟩ hce hcv hcl)) (fun u t H locs ht hvm hw hB hz1 hk1 hS => ?_)
  try dsimp only at hw
  have hm := hw
  have hP : va_P (dC, dI) vwCl (wC ad cy ss ds ti co oma obr obj obo obm plo pch pbe pbl dnu dde dbo dln dld tba tal tro tsc tcl rma) H := cPost_P ht hB
  have hD : va_D A (wC ad cy ss ds ti co oma obr obj obo obm plo pch pbe pbl dnu dde dbo dln dld tba tal tro tsc tcl rma) := cPost_D hFc hB
  refine lv_aload_n hx hb dX6_roundedMachine_5 rfl (lv_at hl 0 rfl) ?_
  have hFc := va_freeSame hD hS hA
  refine va_callv (va_runV (As := []) (rest := []) ⟨hx, hb, hml, hown, hts⟩ (c_X6_refreshDivision l dC dI cy ad H.size ss ds ti co oma obr obj obo obm plo pch pbe pbl dnu dde dbo dln dld tba tal tro tsc tcl rma  _ _ hm) (cwV 0 hts gX6_roundedMachine_X6_refreshDivision rfl rfl rfl (by decide +kernel) ⟨Nat.le_of_ble_eq_true rfl, Nat.le_of_ble_eq_true rfl⟩) ⟨cPre_blind, va_recv hK hP (ci := 6) (q0 := 0) rfl rfl, fun U hU hW => ⟨rfl, cPre_at hP hK hD hN hU hW⟩⟩ rfl rfl hl.1 rfl (lv_room (Nat.le_of_ble_eq_true rfl)) dX6_roundedMachine_6 ⟨Nat.le_of_ble_eq_true rfl, Nat.le_of_ble_eq_true rfl⟩) hS (fun q _ h => hFc q h) hFc (fun u t H locs ht hvm hw hB hz1 hk1 hS => ?_)
  obtain ⟨ds_1, dnu_2, dde_3, dbo_4, dln_5, dld_6, tba_7, tal_8, tro_9, tsc_10, tcl_11, rma_12⟩ := u
  try dsimp only at hw
  have hm := hw
  have hP : va_P (dC, dI) vwCl (wC ad cy ss ds_1 ti co oma obr obj obo obm plo pch pbe pbl dnu_2 dde_3 dbo_4 dln_5 dld_6 tba_7 tal_8 tro_9 tsc_10 tcl_11 rma_12) H := cPost_P ht hB
  have hD : va_D A (wC ad cy ss ds_1 ti co oma obr obj obo obm plo pch pbe pbl dnu_2 dde_3 dbo_4 dln_5 dld_6 tba_7 tal_8 tro_9 tsc_10 tcl_11 rma_12) := cPost_D hFc hB
  refine lv_aload_n hx hb dX6_roundedMachine_9 rfl (lv_at hl 0 rfl) ?_
  refine va_get (D := (dC, dI)) (ci := 6) (v := .ref (ad 16)) (C := RX6) (T := TX6) (N := 7) hx hb hts in_X6_roundedMachine_X6 hown hK hP 0 rfl rfl 4 (by decide) (hts _ fl_X6_roundedMachine_40) (fun _ h9 => h9) rfl dX6_roundedMachine_10 ?_
  refine va_getN (D := (dC, dI)) (ci := 4) (v := .ref (ad 17)) (C := RX4) (T := TX4) (N := 1) hx hb hts in_X6_roundedMachine_X4 hown hK hP 16 rfl rfl 0 (by decide) (va_Nw.use rfl (nw_X6_126 hN)) (fun _ h9 => h9) rfl dX6_roundedMachine_13 ?_
  refine lv_iload_n hx hb dX6_roundedMachine_16 rfl (lv_at hl 1 rfl) ?_
  have hi_13 := hm.1
  have hm := hm.2
  refine va_iald hx hb hK hP 17 0 rfl rfl hi_13 dX6_roundedMachine_17 ?_
  exact hret (rma_12 (x1).toNatClampNeg) ds_1 dnu_2 dde_3 dbo_4 dln_5 dld_6 tba_7 tal_8 tro_9 tsc_10 tcl_11 rma_12 H locs ls 18 dX6_roundedMachine_18 ⟨hP, hD, hS⟩ hm

set_option maxHeartbeats 4000000 in
set_option maxRecDepth 100000 in
theorem c_X6_roundedMachine (l : Launch) (dC : Nat → ClassId) (dI : Nat → Nat → Nat) (cy : Nat → ClassId) (ad : Nat → Nat) (sz : Nat) (ss : Int32) (ds : Int32) (ti : Nat → Int32) (co : Int32) (oma : Nat → Int32) (obr : Int32) (obj : Int32) (obo : Int32) (obm : Int32) (plo : Nat → Int32) (pch : Nat → Int32) (pbe : Nat → Int32) (pbl : Int32) (dnu : Nat → Int32) (dde : Nat → Int32) (dbo : Int32) (dln : Int32) (dld : Int32) (tba : Nat → Int32) (tal : Nat → Int32) (tro : Int32) (tsc : Int64) (tcl : Nat → Nat → Int64) (rma : Nat → Int32) (x1 : Int32) (N : Nat) (Q : Int32 → Int32 → (Nat → Int32) → (Nat → Int32) → Int32 → Int32 → Int32 → (Nat → Int32) → (Nat → Int32) → Int32 → Int64 → (Nat → Nat → Int64) → (Nat → Int32) → Prop) (QX : String → Prop) (hst : l.stackTraces = false) (hm : p_X6_roundedMachine N ti co Q QX x1 ds dnu dde dbo dln dld tba tal tro tsc tcl rma) : vx_Met l yX6_roundedMachine wsX6_roundedMachine rmX6_roundedMachine (va_Pc [.ref (ad 0), .int x1] (cPreX dC dI cy (wC ad cy ss ds ti co oma obr obj obo obm plo pch pbe pbl dnu dde dbo dln dld tba tal tro tsc tcl rma) sz)) (va_Qi (fun (r : Int32) (u : Int32 × (Nat → Int32) × (Nat → Int32) × Int32 × Int32 × Int32 × (Nat → Int32) × (Nat → Int32) × Int32 × Int64 × (Nat → Nat → Int64) × (Nat → Int32)) => Q r u.1 u.2.1 u.2.2.1 u.2.2.2.1 u.2.2.2.2.1 u.2.2.2.2.2.1 u.2.2.2.2.2.2.1 u.2.2.2.2.2.2.2.1 u.2.2.2.2.2.2.2.2.1 u.2.2.2.2.2.2.2.2.2.1 u.2.2.2.2.2.2.2.2.2.2.1 u.2.2.2.2.2.2.2.2.2.2.2) (fun u t => cPost dC dI cy (wC ad cy ss ds ti co oma obr obj obo obm plo pch pbe pbl dnu dde dbo dln dld tba tal tro tsc tcl rma) sz (wC ad cy ss (u.1) ti co oma obr obj obo obm plo pch pbe pbl (u.2.1) (u.2.2.1) (u.2.2.2.1) (u.2.2.2.2.1) (u.2.2.2.2.2.1) (u.2.2.2.2.2.2.1) (u.2.2.2.2.2.2.2.1) (u.2.2.2.2.2.2.2.2.1) (u.2.2.2.2.2.2.2.2.2.1) (u.2.2.2.2.2.2.2.2.2.2.1) (u.2.2.2.2.2.2.2.2.2.2.2)) t) (va_A (wC ad cy ss ds ti co oma obr obj obo obm plo pch pbe pbl dnu dde dbo dln dld tba tal tro tsc tcl rma) sz)) (vx_X (fun _ : Unit => True) (fun E _ t => QX E ∧ cPost dC dI cy (wC ad cy ss ds ti co oma obr obj obo obm plo pch pbe pbl dnu dde dbo dln dld tba tal tro tsc tcl rma) sz (wC ad cy ss ds ti co oma obr obj obo obm plo pch pbe pbl dnu dde dbo dln dld tba tal tro tsc tcl rma) t) (va_A (wC ad cy ss ds ti co oma obr obj obo obm plo pch pbe pbl dnu dde dbo dln dld tba tal tro tsc tcl rma) sz)) 1 6 (va_A (wC ad cy ss ds ti co oma obr obj obo obm plo pch pbe pbl dnu dde dbo dln dld tba tal tro tsc tcl rma) sz) := by
  refine vx_ofW (cc := cX6_roundedMachine) (maxL := 2) (ret := (some .int)) (by decide) rfl ?_
  intro p e s m args below meth c s₁ B hml hnt hv
  obtain ⟨rfl, ⟨hsz, hP, hK, hD0, hN⟩, hXw, hXs⟩ := hv
  have hts := atoms_spec (ws := wsX6_roundedMachine) B.pre
  have hown : s.vm.findClass RX6 = some m.cls := findClass_of_methodNamed B.named
  subst hsz
  have hD := hD0.self (sz := s.heap.size)
  generalize hAe : va_A (wC ad cy ss ds ti co oma obr obj obo obm plo pch pbe pbl dnu dde dbo dln dld tba tal tro tsc tcl rma) s.heap.size = A at hD hXs ⊢
  have hA : ∀ q : Nat, s.heap.size ≤ q → A q := fun q h => by rw [← hAe]; exact Or.inr h
  have hl := lv_entry ([.ref (ad 0), .int x1]) (n := 2) (Nat.le_of_ble_eq_true rfl)
  rw [lg_entry_eq]
  generalize (lg_sl ([.ref (ad 0), .int x1]) ++ List.replicate (2 - (lg_sl ([.ref (ad 0), .int x1])).length) Slot.unset).toArray = ls at hl ⊢
  have hl : lv_has ls 2 [(0, .ref (ad 0)), (1, .int x1)] := hl
  exact k_X6_roundedMachine_0 ⟨B.exec, B.bytes, hml, B.returns, hown, hts, B.notSynchronized, hK, hA, hN⟩ x1 ds dnu dde dbo dln dld tba tal tro tsc tcl rma s.heap [] ls hm ⟨hP, hD, va_S.rf⟩ (lv_sub hl [0, 1] rfl) (fun r ds dnu dde dbo dln dld tba tal tro tsc tcl rma H locs ls pc hdg hSt hq => vx_ret (W.iret B.exec B.bytes B.returns (fun t ht hW => ⟨⟨r, (ds, dnu, dde, dbo, dln, dld, tba, tal, tro, tsc, tcl, rma), rfl, hq, cPost_of hAe ht hW.alike hSt hK⟩, hSt.2.2.F ht⟩) hSt.2.2.2.2 hdg B.notSynchronized)) hXw hXs hst (fun E ce q9 H locs ls pc rest hq hSt hce hcv hcl => vx_out (fun x hx => (hnt x hx).elim) B.notSynchronized hce hcv hcl (fun t ht hal => ⟨(), trivial, ⟨hq, cPost_of hAe ht hal hSt hK⟩, hSt.2.2.F ht⟩) hSt.2.2.2.2 (Nat.le_refl _) (Nat.le_refl _))
