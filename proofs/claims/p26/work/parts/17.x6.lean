variable {p : Program} {l : Launch} {e : Env} {s : State} {m : MethodId} {args : Array Value} {below : List Frame} {meth : Method} {c : Code} {dC : Nat → ClassId} {dI : Nat → Nat → Nat} {cy : Nat → ClassId} {ad : Nat → Nat} {A : Nat → Prop} {Z : State → Prop}
-- ===== X6_isTime
abbrev rmX6_isTime : Room := { frames := 1, cells := 0, slots := 0, locals := 61 }
def p_X6_isTime (N : Nat) (Q : Int32 → Prop) (x0 : Int32) : Prop :=
  (x0 < 0 → (Q (0 : Int32))) ∧ (¬ x0 < 0 → (((50 : Int32) < x0 → (Q (0 : Int32))) ∧ (¬ (50 : Int32) < x0 → (Q (1 : Int32)))))

set_option maxHeartbeats 4000000 in
set_option maxRecDepth 100000 in
theorem k_X6_isTime_0 {N : Nat} {ss : Int32} {ds : Int32} {ti : Nat → Int32} {co : Int32} {oma : Nat → Int32} {obr : Int32} {obj : Int32} {obo : Int32} {obm : Int32} {plo : Nat → Int32} {pch : Nat → Int32} {pbe : Nat → Int32} {pbl : Int32} {dnu : Nat → Int32} {dde : Nat → Int32} {dbo : Int32} {dln : Int32} {dld : Int32} {tba : Nat → Int32} {tal : Nat → Int32} {tro : Int32} {tsc : Int64} {tcl : Nat → Nat → Int64} {rma : Nat → Int32} {Q : Int32 → Prop} (C0 : cxM cX6_isTime 1 (some .boolean) RX6 wsX6_isTime p s m args meth c dC dI cy A) :
    ∀ (x0 : Int32) (H : Heap) (locs : List Loc) (ls : Array Slot) (hm : p_X6_isTime N Q x0) (hSt : stC dC dI A s (wC ad cy ss ds ti co oma obr obj obo obm plo pch pbe pbl dnu dde dbo dln dld tba tal tro tsc tcl rma) H locs) (hl : lv_has ls 1 [(0, .int x0)]) (hret : ∀ (r : Int32) (H : Heap) (locs : List Loc) (ls : Array Slot) (pc : Nat), decode cX6_isTime pc = .ok (.ireturn, 1) → narrow .boolean (.int r) = .int r → stC dC dI A s (wC ad cy ss ds ti co oma obr obj obo obm plo pch pbe pbl dnu dde dbo dln dld tba tal tro tsc tcl rma) H locs → Q r → W p l e rmX6_isTime s m args below meth c H locs 0 0 Z (F0 m pc ls [.int r])), W p l e rmX6_isTime s m args below meth c H locs 0 0 Z (F0 m 0 ls []) := by
  obtain ⟨hx, hb, hml, hr, hown, hts, hlocks, hK, hA, hN⟩ := id C0
  intro x0 H locs ls hm hSt hl hret
  obtain ⟨hP, hD, hS⟩ := hSt
  unfold p_X6_isTime at hm
  refine lv_iload_n hx hb dX6_isTime_0 rfl (lv_at hl 0 rfl) ?_
  refine lv_if_lt (tgt := 14) hx hb dX6_isTime_1 (by decide) (fun c_1 => ?_) (fun c_1 => ?_)
  · have hm := hm.1 c_1
    refine lv_iconst (v := 0) hx hb dX6_isTime_14 (by decide) ?_
    exact hret (0 : Int32) H locs ls 15 dX6_isTime_15 rfl ⟨hP, hD, hS⟩ hm
  · have hm := hm.2 c_1
    refine lv_iload_n hx hb dX6_isTime_4 rfl (lv_at hl 0 rfl) ?_
    refine lv_bipush (v := 50) hx hb dX6_isTime_5 (by decide) ?_
    refine lv_icmp_gt (tgt := 14) hx hb dX6_isTime_7 (by decide) (fun c_2 => ?_) (fun c_2 => ?_)
    · have hm := hm.1 c_2
      refine lv_iconst (v := 0) hx hb dX6_isTime_14 (by decide) ?_
      exact hret (0 : Int32) H locs ls 15 dX6_isTime_15 rfl ⟨hP, hD, hS⟩ hm
    · have hm := hm.2 c_2
      refine lv_iconst (v := 1) hx hb dX6_isTime_10 (by decide) ?_
      refine lv_goto (tgt := 15) hx hb dX6_isTime_11 (by decide) ?_
      exact hret (1 : Int32) H locs ls 15 dX6_isTime_15 rfl ⟨hP, hD, hS⟩ hm

set_option maxHeartbeats 4000000 in
set_option maxRecDepth 100000 in
theorem c_X6_isTime (l : Launch) (dC : Nat → ClassId) (dI : Nat → Nat → Nat) (cy : Nat → ClassId) (ad : Nat → Nat) (sz : Nat) (ss : Int32) (ds : Int32) (ti : Nat → Int32) (co : Int32) (oma : Nat → Int32) (obr : Int32) (obj : Int32) (obo : Int32) (obm : Int32) (plo : Nat → Int32) (pch : Nat → Int32) (pbe : Nat → Int32) (pbl : Int32) (dnu : Nat → Int32) (dde : Nat → Int32) (dbo : Int32) (dln : Int32) (dld : Int32) (tba : Nat → Int32) (tal : Nat → Int32) (tro : Int32) (tsc : Int64) (tcl : Nat → Nat → Int64) (rma : Nat → Int32) (x0 : Int32) (N : Nat) (Q : Int32 → Prop) (hm : p_X6_isTime N Q x0) : Met l yX6_isTime wsX6_isTime rmX6_isTime (va_Pc [.int x0] (cPre dC dI cy (wC ad cy ss ds ti co oma obr obj obo obm plo pch pbe pbl dnu dde dbo dln dld tba tal tro tsc tcl rma) sz)) (va_Qi (fun (r : Int32) (u : Unit) => Q r ∧ narrow .boolean (.int r) = .int r) (fun u t => cPost dC dI cy (wC ad cy ss ds ti co oma obr obj obo obm plo pch pbe pbl dnu dde dbo dln dld tba tal tro tsc tcl rma) sz (wC ad cy ss ds ti co oma obr obj obo obm plo pch pbe pbl dnu dde dbo dln dld tba tal tro tsc tcl rma) t) (va_A (wC ad cy ss ds ti co oma obr obj obo obm plo pch pbe pbl dnu dde dbo dln dld tba tal tro tsc tcl rma) sz)) 0 0 (va_A (wC ad cy ss ds ti co oma obr obj obo obm plo pch pbe pbl dnu dde dbo dln dld tba tal tro tsc tcl rma) sz) := by
  refine Met.ofW (cc := cX6_isTime) (maxL := 1) (ret := (some .boolean)) (by decide) rfl ?_
  intro p e s m args below meth c s₁ B hml hv
  obtain ⟨rfl, hsz, hP, hK, hD0, hN⟩ := hv
  have hts := atoms_spec (ws := wsX6_isTime) B.pre
  have hown : s.vm.findClass RX6 = some m.cls := findClass_of_methodNamed B.named
  subst hsz
  have hD := hD0.self (sz := s.heap.size)
  generalize hAe : va_A (wC ad cy ss ds ti co oma obr obj obo obm plo pch pbe pbl dnu dde dbo dln dld tba tal tro tsc tcl rma) s.heap.size = A at hD ⊢
  have hA : ∀ q : Nat, s.heap.size ≤ q → A q := fun q h => by rw [← hAe]; exact Or.inr h
  have hl := lv_entry ([.int x0]) (n := 1) (Nat.le_of_ble_eq_true rfl)
  rw [lg_entry_eq]
  generalize (lg_sl ([.int x0]) ++ List.replicate (1 - (lg_sl ([.int x0])).length) Slot.unset).toArray = ls at hl ⊢
  have hl : lv_has ls 1 [(0, .int x0)] := hl
  exact k_X6_isTime_0 ⟨B.exec, B.bytes, hml, B.returns, hown, hts, B.notSynchronized, hK, hA, hN⟩ x0 s.heap [] ls hm ⟨hP, hD, va_S.rf⟩ (lv_sub hl [0] rfl) (fun r H locs ls pc hdg hn hSt hq => W.zret B.exec B.bytes B.returns hn (fun t ht hW => ⟨⟨r, (), rfl, ⟨hq, hn⟩, cPost_of hAe ht hW.alike hSt hK⟩, hSt.2.2.F ht⟩) hSt.2.2.2.2 hdg B.notSynchronized)

-- ===== X6_forgetResults
theorem fl_X6_forgetResults_148 : Cond.fieldLink RX6 148 "UnlikeUnion" "searchStands" "Z" ∈ wsX6_forgetResults := by decide +kernel
theorem fl_X6_forgetResults_152 : Cond.fieldLink RX6 152 "UnlikeUnion" "divisionStands" "Z" ∈ wsX6_forgetResults := by decide +kernel
theorem in_X6_forgetResults_X6 : ∀ w ∈ u_ws RX6 TX6 7, w ∈ wsX6_forgetResults := by decide +kernel
abbrev rmX6_forgetResults : Room := { frames := 1, cells := 0, slots := 0, locals := 61 }
def p_X6_forgetResults (N : Nat) (Q : Int32 → Int32 → Prop) (ss : Int32) (ds : Int32) : Prop :=
  Q (0 : Int32) (0 : Int32)

set_option maxHeartbeats 4000000 in
set_option maxRecDepth 100000 in
theorem k_X6_forgetResults_0 {N : Nat} {ti : Nat → Int32} {co : Int32} {oma : Nat → Int32} {obr : Int32} {obj : Int32} {obo : Int32} {obm : Int32} {plo : Nat → Int32} {pch : Nat → Int32} {pbe : Nat → Int32} {pbl : Int32} {dnu : Nat → Int32} {dde : Nat → Int32} {dbo : Int32} {dln : Int32} {dld : Int32} {tba : Nat → Int32} {tal : Nat → Int32} {tro : Int32} {tsc : Int64} {tcl : Nat → Nat → Int64} {rma : Nat → Int32} {Q : Int32 → Int32 → Prop} (C0 : cxM cX6_forgetResults 1 none RX6 wsX6_forgetResults p s m args meth c dC dI cy A) :
    ∀ (ss : Int32) (ds : Int32) (H : Heap) (locs : List Loc) (ls : Array Slot) (hm : p_X6_forgetResults N Q ss ds) (hSt : stC dC dI A s (wC ad cy ss ds ti co oma obr obj obo obm plo pch pbe pbl dnu dde dbo dln dld tba tal tro tsc tcl rma) H locs) (hl : lv_has ls 1 [(0, .ref (ad 0))]) (hret : ∀ (ss : Int32) (ds : Int32) (H : Heap) (locs : List Loc) (ls : Array Slot) (pc : Nat), decode cX6_forgetResults pc = .ok (.return_, 1) → stC dC dI A s (wC ad cy ss ds ti co oma obr obj obo obm plo pch pbe pbl dnu dde dbo dln dld tba tal tro tsc tcl rma) H locs → Q ss ds → W p l e rmX6_forgetResults s m args below meth c H locs 0 0 Z (F0 m pc ls [])), W p l e rmX6_forgetResults s m args below meth c H locs 0 0 Z (F0 m 0 ls []) := by
  obtain ⟨hx, hb, hml, hr, hown, hts, hlocks, hK, hA, hN⟩ := id C0
  intro ss ds H locs ls hm hSt hl hret
  obtain ⟨hP, hD, hS⟩ := hSt
  unfold p_X6_forgetResults at hm
  refine lv_aload_n hx hb dX6_forgetResults_0 rfl (lv_at hl 0 rfl) ?_
  refine lv_iconst (v := 0) hx hb dX6_forgetResults_1 (by decide) ?_
  refine va_put (D := (dC, dI)) (ci := 6) (v := .int (0 : Int32)) (ty := .boolean) (C := RX6) (T := TX6) (N := 7) hx hb hts in_X6_forgetResults_X6 tyX6 tyX6_ok nmX6 hown hK hP hD hS 0 rfl rfl 5 (by decide) (hts _ fl_X6_forgetResults_148) (fun _ h9 => h9) rfl (by decide +kernel) rfl rfl (Nat.le_of_ble_eq_true rfl) dX6_forgetResults_2 (fun H locs hP hD hS => ?_)
  have hP : va_P (dC, dI) vwCl (wC ad cy (0 : Int32) ds ti co oma obr obj obo obm plo pch pbe pbl dnu dde dbo dln dld tba tal tro tsc tcl rma) H := hP
  have hD : va_D A (wC ad cy (0 : Int32) ds ti co oma obr obj obo obm plo pch pbe pbl dnu dde dbo dln dld tba tal tro tsc tcl rma) := hD
  refine lv_aload_n hx hb dX6_forgetResults_5 rfl (lv_at hl 0 rfl) ?_
  refine lv_iconst (v := 0) hx hb dX6_forgetResults_6 (by decide) ?_
  refine va_put (D := (dC, dI)) (ci := 6) (v := .int (0 : Int32)) (ty := .boolean) (C := RX6) (T := TX6) (N := 7) hx hb hts in_X6_forgetResults_X6 tyX6 tyX6_ok nmX6 hown hK hP hD hS 0 rfl rfl 6 (by decide) (hts _ fl_X6_forgetResults_152) (fun _ h9 => h9) rfl (by decide +kernel) rfl rfl (Nat.le_of_ble_eq_true rfl) dX6_forgetResults_7 (fun H locs hP hD hS => ?_)
  have hP : va_P (dC, dI) vwCl (wC ad cy (0 : Int32) (0 : Int32) ti co oma obr obj obo obm plo pch pbe pbl dnu dde dbo dln dld tba tal tro tsc tcl rma) H := hP
  have hD : va_D A (wC ad cy (0 : Int32) (0 : Int32) ti co oma obr obj obo obm plo pch pbe pbl dnu dde dbo dln dld tba tal tro tsc tcl rma) := hD
  exact hret (0 : Int32) (0 : Int32) H locs ls 10 dX6_forgetResults_10 ⟨hP, hD, hS⟩ hm

set_option maxHeartbeats 4000000 in
set_option maxRecDepth 100000 in
theorem c_X6_forgetResults (l : Launch) (dC : Nat → ClassId) (dI : Nat → Nat → Nat) (cy : Nat → ClassId) (ad : Nat → Nat) (sz : Nat) (ss : Int32) (ds : Int32) (ti : Nat → Int32) (co : Int32) (oma : Nat → Int32) (obr : Int32) (obj : Int32) (obo : Int32) (obm : Int32) (plo : Nat → Int32) (pch : Nat → Int32) (pbe : Nat → Int32) (pbl : Int32) (dnu : Nat → Int32) (dde : Nat → Int32) (dbo : Int32) (dln : Int32) (dld : Int32) (tba : Nat → Int32) (tal : Nat → Int32) (tro : Int32) (tsc : Int64) (tcl : Nat → Nat → Int64) (rma : Nat → Int32)  (N : Nat) (Q : Int32 → Int32 → Prop) (hm : p_X6_forgetResults N Q ss ds) : Met l yX6_forgetResults wsX6_forgetResults rmX6_forgetResults (va_Pc [.ref (ad 0)] (cPre dC dI cy (wC ad cy ss ds ti co oma obr obj obo obm plo pch pbe pbl dnu dde dbo dln dld tba tal tro tsc tcl rma) sz)) (va_Qv (fun (u : Int32 × Int32) => Q u.1 u.2) (fun u t => cPost dC dI cy (wC ad cy ss ds ti co oma obr obj obo obm plo pch pbe pbl dnu dde dbo dln dld tba tal tro tsc tcl rma) sz (wC ad cy (u.1) (u.2) ti co oma obr obj obo obm plo pch pbe pbl dnu dde dbo dln dld tba tal tro tsc tcl rma) t) (va_A (wC ad cy ss ds ti co oma obr obj obo obm plo pch pbe pbl dnu dde dbo dln dld tba tal tro tsc tcl rma) sz)) 0 0 (va_A (wC ad cy ss ds ti co oma obr obj obo obm plo pch pbe pbl dnu dde dbo dln dld tba tal tro tsc tcl rma) sz) := by
  refine Met.ofW (cc := cX6_forgetResults) (maxL := 1) (ret := none) (by decide) rfl ?_
  intro p e s m args below meth c s₁ B hml hv
  obtain ⟨rfl, hsz, hP, hK, hD0, hN⟩ := hv
  have hts := atoms_spec (ws := wsX6_forgetResults) B.pre
  have hown : s.vm.findClass RX6 = some m.cls := findClass_of_methodNamed B.named
  subst hsz
  have hD := hD0.self (sz := s.heap.size)
  generalize hAe : va_A (wC ad cy ss ds ti co oma obr obj obo obm plo pch pbe pbl dnu dde dbo dln dld tba tal tro tsc tcl rma) s.heap.size = A at hD ⊢
  have hA : ∀ q : Nat, s.heap.size ≤ q → A q := fun q h => by rw [← hAe]; exact Or.inr h
  have hl := lv_entry ([.ref (ad 0)]) (n := 1) (Nat.le_of_ble_eq_true rfl)
  rw [lg_entry_eq]
  generalize (lg_sl ([.ref (ad 0)]) ++ List.replicate (1 - (lg_sl ([.ref (ad 0)])).length) Slot.unset).toArray = ls at hl ⊢
  have hl : lv_has ls 1 [(0, .ref (ad 0))] := hl
  exact k_X6_forgetResults_0 ⟨B.exec, B.bytes, hml, B.returns, hown, hts, B.notSynchronized, hK, hA, hN⟩ ss ds s.heap [] ls hm ⟨hP, hD, va_S.rf⟩ (lv_sub hl [0] rfl) (fun ss ds H locs ls pc hdg hSt hq => W.vret B.exec B.bytes B.returns (fun t ht hW => ⟨⟨(ss, ds), rfl, hq, cPost_of hAe ht hW.alike hSt hK⟩, hSt.2.2.F ht⟩) hSt.2.2.2.2 hdg B.notSynchronized)

-- ===== X6_refreshSearch
theorem fl_X6_refreshSearch_148 : Cond.fieldLink RX6 148 "UnlikeUnion" "searchStands" "Z" ∈ wsX6_refreshSearch := by decide +kernel
theorem fl_X6_refreshSearch_26 : Cond.fieldLink RX6 26 "UnlikeUnion" "search" "LUnlikeUnion$PlanSearch;" ∈ wsX6_refreshSearch := by decide +kernel
theorem fl_X6_refreshSearch_12 : Cond.fieldLink RX6 12 "UnlikeUnion" "list" "LUnlikeUnion$Jobs;" ∈ wsX6_refreshSearch := by decide +kernel
theorem in_X6_refreshSearch_X6 : ∀ w ∈ u_ws RX6 TX6 7, w ∈ wsX6_refreshSearch := by decide +kernel
abbrev rmX6_refreshSearch : Room := { frames := 42, cells := 0, slots := 0, locals := 4166 }
def p_X6_refreshSearch (N : Nat) (ti : Nat → Int32) (co : Int32) (Q : Int32 → (Nat → Int32) → (Nat → Int32) → (Nat → Int32) → Int32 → Prop) (ss : Int32) (plo : Nat → Int32) (pch : Nat → Int32) (pbe : Nat → Int32) (pbl : Int32) : Prop :=
  (ss = 0 → (p_X3_find N ti co (fun plo_2 pch_3 pbe_4 pbl_5 => Q (1 : Int32) plo_2 pch_3 pbe_4 pbl_5) plo pch pbe pbl)) ∧ (¬ ss = 0 → (Q ss plo pch pbe pbl))

set_option maxHeartbeats 4000000 in
set_option maxRecDepth 100000 in
theorem k_X6_refreshSearch_0 {N : Nat} {ds : Int32} {ti : Nat → Int32} {co : Int32} {oma : Nat → Int32} {obr : Int32} {obj : Int32} {obo : Int32} {obm : Int32} {dnu : Nat → Int32} {dde : Nat → Int32} {dbo : Int32} {dln : Int32} {dld : Int32} {tba : Nat → Int32} {tal : Nat → Int32} {tro : Int32} {tsc : Int64} {tcl : Nat → Nat → Int64} {rma : Nat → Int32} {Q : Int32 → (Nat → Int32) → (Nat → Int32) → (Nat → Int32) → Int32 → Prop} (C0 : cxM cX6_refreshSearch 1 none RX6 wsX6_refreshSearch p s m args meth c dC dI cy A) :
    ∀ (ss : Int32) (plo : Nat → Int32) (pch : Nat → Int32) (pbe : Nat → Int32) (pbl : Int32) (H : Heap) (locs : List Loc) (ls : Array Slot) (hm : p_X6_refreshSearch N ti co Q ss plo pch pbe pbl) (hSt : stC dC dI A s (wC ad cy ss ds ti co oma obr obj obo obm plo pch pbe pbl dnu dde dbo dln dld tba tal tro tsc tcl rma) H locs) (hl : lv_has ls 1 [(0, .ref (ad 0))]) (hret : ∀ (ss : Int32) (plo : Nat → Int32) (pch : Nat → Int32) (pbe : Nat → Int32) (pbl : Int32) (H : Heap) (locs : List Loc) (ls : Array Slot) (pc : Nat), decode cX6_refreshSearch pc = .ok (.return_, 1) → stC dC dI A s (wC ad cy ss ds ti co oma obr obj obo obm plo pch pbe pbl dnu dde dbo dln dld tba tal tro tsc tcl rma) H locs → Q ss plo pch pbe pbl → W p l e rmX6_refreshSearch s m args below meth c H locs 0 0 Z (F0 m pc ls [])), W p l e rmX6_refreshSearch s m args below meth c H locs 0 0 Z (F0 m 0 ls []) := by
  obtain ⟨hx, hb, hml, hr, hown, hts, hlocks, hK, hA, hN⟩ := id C0
  intro ss plo pch pbe pbl H locs ls hm hSt hl hret
  obtain ⟨hP, hD, hS⟩ := hSt
  unfold p_X6_refreshSearch at hm
  refine lv_aload_n hx hb dX6_refreshSearch_0 rfl (lv_at hl 0 rfl) ?_
  refine va_get (D := (dC, dI)) (ci := 6) (v := .int ss) (C := RX6) (T := TX6) (N := 7) hx hb hts in_X6_refreshSearch_X6 hown hK hP 0 rfl rfl 5 (by decide) (hts _ fl_X6_refreshSearch_148) (fun _ h9 => h9) rfl dX6_refreshSearch_1 ?_
  refine lv_if_ne (tgt := 23) hx hb dX6_refreshSearch_4 (by decide) (fun c_1 => ?_) (fun c_1 => ?_)
  · have hm := hm.2 c_1
    exact hret ss plo pch pbe pbl H locs ls 23 dX6_refreshSearch_23 ⟨hP, hD, hS⟩ hm
  · have hm := hm.1 c_1
    refine lv_aload_n hx hb dX6_refreshSearch_7 rfl (lv_at hl 0 rfl) ?_
    refine va_get (D := (dC, dI)) (ci := 6) (v := .ref (ad 5)) (C := RX6) (T := TX6) (N := 7) hx hb hts in_X6_refreshSearch_X6 hown hK hP 0 rfl rfl 2 (by decide) (hts _ fl_X6_refreshSearch_26) (fun _ h9 => h9) rfl dX6_refreshSearch_8 ?_
    refine lv_aload_n hx hb dX6_refreshSearch_11 rfl (lv_at hl 0 rfl) ?_
    refine va_get (D := (dC, dI)) (ci := 6) (v := .ref (ad 1)) (C := RX6) (T := TX6) (N := 7) hx hb hts in_X6_refreshSearch_X6 hown hK hP 0 rfl rfl 0 (by decide) (hts _ fl_X6_refreshSearch_12) (fun _ h9 => h9) rfl dX6_refreshSearch_12 ?_
    have hFc := va_freeSame hD hS hA
    refine va_callv (va_runV (As := [.ref (ad 1)]) (rest := []) ⟨hx, hb, hml, hown, hts⟩ (c_X3_find l dC dI cy ad H.size ss ds ti co oma obr obj obo obm plo pch pbe pbl dnu dde dbo dln dld tba tal tro tsc tcl rma  _ _ hm) (cwV 1 hts gX6_refreshSearch_X3_find rfl rfl rfl (by decide +kernel) ⟨Nat.le_of_ble_eq_true rfl, Nat.le_of_ble_eq_true rfl⟩) ⟨cPre_blind, va_recv hK hP (ci := 3) (q0 := 5) rfl rfl, fun U hU hW => ⟨rfl, cPre_at hP hK hD hN hU hW⟩⟩ rfl rfl hl.1 rfl (lv_room (Nat.le_of_ble_eq_true rfl)) dX6_refreshSearch_15 ⟨Nat.zero_le _, Nat.zero_le _⟩) hS (fun q _ h => hFc q h) hFc (fun u t H locs ht hvm hw hB hz1 hk1 hS => ?_)
    obtain ⟨plo_2, pch_3, pbe_4, pbl_5⟩ := u
    try dsimp only at hw
    have hm := hw
    have hP : va_P (dC, dI) vwCl (wC ad cy ss ds ti co oma obr obj obo obm plo_2 pch_3 pbe_4 pbl_5 dnu dde dbo dln dld tba tal tro tsc tcl rma) H := cPost_P ht hB
    have hD : va_D A (wC ad cy ss ds ti co oma obr obj obo obm plo_2 pch_3 pbe_4 pbl_5 dnu dde dbo dln dld tba tal tro tsc tcl rma) := cPost_D hFc hB
    refine lv_aload_n hx hb dX6_refreshSearch_18 rfl (lv_at hl 0 rfl) ?_
    refine lv_iconst (v := 1) hx hb dX6_refreshSearch_19 (by decide) ?_
    refine va_put (D := (dC, dI)) (ci := 6) (v := .int (1 : Int32)) (ty := .boolean) (C := RX6) (T := TX6) (N := 7) hx hb hts in_X6_refreshSearch_X6 tyX6 tyX6_ok nmX6 hown hK hP hD hS 0 rfl rfl 5 (by decide) (hts _ fl_X6_refreshSearch_148) (fun _ h9 => h9) rfl (by decide +kernel) rfl rfl (Nat.le_of_ble_eq_true rfl) dX6_refreshSearch_20 (fun H locs hP hD hS => ?_)
    have hP : va_P (dC, dI) vwCl (wC ad cy (1 : Int32) ds ti co oma obr obj obo obm plo_2 pch_3 pbe_4 pbl_5 dnu dde dbo dln dld tba tal tro tsc tcl rma) H := hP
    have hD : va_D A (wC ad cy (1 : Int32) ds ti co oma obr obj obo obm plo_2 pch_3 pbe_4 pbl_5 dnu dde dbo dln dld tba tal tro tsc tcl rma) := hD
    exact hret (1 : Int32) plo_2 pch_3 pbe_4 pbl_5 H locs ls 23 dX6_refreshSearch_23 ⟨hP, hD, hS⟩ hm

set_option maxHeartbeats 4000000 in
set_option maxRecDepth 100000 in
theorem c_X6_refreshSearch (l : Launch) (dC : Nat → ClassId) (dI : Nat → Nat → Nat) (cy : Nat → ClassId) (ad : Nat → Nat) (sz : Nat) (ss : Int32) (ds : Int32) (ti : Nat → Int32) (co : Int32) (oma : Nat → Int32) (obr : Int32) (obj : Int32) (obo : Int32) (obm : Int32) (plo : Nat → Int32) (pch : Nat → Int32) (pbe : Nat → Int32) (pbl : Int32) (dnu : Nat → Int32) (dde : Nat → Int32) (dbo : Int32) (dln : Int32) (dld : Int32) (tba : Nat → Int32) (tal : Nat → Int32) (tro : Int32) (tsc : Int64) (tcl : Nat → Nat → Int64) (rma : Nat → Int32)  (N : Nat) (Q : Int32 → (Nat → Int32) → (Nat → Int32) → (Nat → Int32) → Int32 → Prop) (hm : p_X6_refreshSearch N ti co Q ss plo pch pbe pbl) : Met l yX6_refreshSearch wsX6_refreshSearch rmX6_refreshSearch (va_Pc [.ref (ad 0)] (cPre dC dI cy (wC ad cy ss ds ti co oma obr obj obo obm plo pch pbe pbl dnu dde dbo dln dld tba tal tro tsc tcl rma) sz)) (va_Qv (fun (u : Int32 × (Nat → Int32) × (Nat → Int32) × (Nat → Int32) × Int32) => Q u.1 u.2.1 u.2.2.1 u.2.2.2.1 u.2.2.2.2) (fun u t => cPost dC dI cy (wC ad cy ss ds ti co oma obr obj obo obm plo pch pbe pbl dnu dde dbo dln dld tba tal tro tsc tcl rma) sz (wC ad cy (u.1) ds ti co oma obr obj obo obm (u.2.1) (u.2.2.1) (u.2.2.2.1) (u.2.2.2.2) dnu dde dbo dln dld tba tal tro tsc tcl rma) t) (va_A (wC ad cy ss ds ti co oma obr obj obo obm plo pch pbe pbl dnu dde dbo dln dld tba tal tro tsc tcl rma) sz)) 0 0 (va_A (wC ad cy ss ds ti co oma obr obj obo obm plo pch pbe pbl dnu dde dbo dln dld tba tal tro tsc tcl rma) sz) := by
  refine Met.ofW (cc := cX6_refreshSearch) (maxL := 1) (ret := none) (by decide) rfl ?_
  intro p e s m args below meth c s₁ B hml hv
  obtain ⟨rfl, hsz, hP, hK, hD0, hN⟩ := hv
  have hts := atoms_spec (ws := wsX6_refreshSearch) B.pre
  have hown : s.vm.findClass RX6 = some m.cls := findClass_of_methodNamed B.named
  subst hsz
  have hD := hD0.self (sz := s.heap.size)
  generalize hAe : va_A (wC ad cy ss ds ti co oma obr obj obo obm plo pch pbe pbl dnu dde dbo dln dld tba tal tro tsc tcl rma) s.heap.size = A at hD ⊢
  have hA : ∀ q : Nat, s.heap.size ≤ q → A q := fun q h => by rw [← hAe]; exact Or.inr h
  have hl := lv_entry ([.ref (ad 0)]) (n := 1) (Nat.le_of_ble_eq_true rfl)
  rw [lg_entry_eq]
  generalize (lg_sl ([.ref (ad 0)]) ++ List.replicate (1 - (lg_sl ([.ref (ad 0)])).length) Slot.unset).toArray = ls at hl ⊢
  have hl : lv_has ls 1 [(0, .ref (ad 0))] := hl
  exact k_X6_refreshSearch_0 ⟨B.exec, B.bytes, hml, B.returns, hown, hts, B.notSynchronized, hK, hA, hN⟩ ss plo pch pbe pbl s.heap [] ls hm ⟨hP, hD, va_S.rf⟩ (lv_sub hl [0] rfl) (fun ss plo pch pbe pbl H locs ls pc hdg hSt hq => W.vret B.exec B.bytes B.returns (fun t ht hW => ⟨⟨(ss, plo, pch, pbe, pbl), rfl, hq, cPost_of hAe ht hW.alike hSt hK⟩, hSt.2.2.F ht⟩) hSt.2.2.2.2 hdg B.notSynchronized)

-- ===== X6_refreshDivision
theorem fl_X6_refreshDivision_152 : Cond.fieldLink RX6 152 "UnlikeUnion" "divisionStands" "Z" ∈ wsX6_refreshDivision := by decide +kernel
theorem fl_X6_refreshDivision_33 : Cond.fieldLink RX6 33 "UnlikeUnion" "division" "LUnlikeUnion$Division;" ∈ wsX6_refreshDivision := by decide +kernel
theorem fl_X6_refreshDivision_12 : Cond.fieldLink RX6 12 "UnlikeUnion" "list" "LUnlikeUnion$Jobs;" ∈ wsX6_refreshDivision := by decide +kernel
theorem fl_X6_refreshDivision_40 : Cond.fieldLink RX6 40 "UnlikeUnion" "rounding" "LUnlikeUnion$Rounding;" ∈ wsX6_refreshDivision := by decide +kernel
theorem in_X6_refreshDivision_X6 : ∀ w ∈ u_ws RX6 TX6 7, w ∈ wsX6_refreshDivision := by decide +kernel
abbrev rmX6_refreshDivision : Room := { frames := 42, cells := 0, slots := 0, locals := 4169 }
def p_X6_refreshDivision (N : Nat) (ti : Nat → Int32) (co : Int32) (Q : Int32 → (Nat → Int32) → (Nat → Int32) → Int32 → Int32 → Int32 → (Nat → Int32) → (Nat → Int32) → Int32 → Int64 → (Nat → Nat → Int64) → (Nat → Int32) → Prop) (ds : Int32) (dnu : Nat → Int32) (dde : Nat → Int32) (dbo : Int32) (dln : Int32) (dld : Int32) (tba : Nat → Int32) (tal : Nat → Int32) (tro : Int32) (tsc : Int64) (tcl : Nat → Nat → Int64) (rma : Nat → Int32) : Prop :=
  (ds = 0 → (p_X0_make N ti co (fun dnu_2 dde_3 dbo_4 dln_5 dld_6 tba_7 tal_8 tro_9 tsc_10 tcl_11 => p_X4_make N co dnu_2 dde_3 (fun rma_12 => Q (1 : Int32) dnu_2 dde_3 dbo_4 dln_5 dld_6 tba_7 tal_8 tro_9 tsc_10 tcl_11 rma_12) rma) dnu dde dbo dln dld tba tal tro tsc tcl)) ∧ (¬ ds = 0 → (Q ds dnu dde dbo dln dld tba tal tro tsc tcl rma))

set_option maxHeartbeats 4000000 in
set_option maxRecDepth 100000 in
theorem k_X6_refreshDivision_0 {N : Nat} {ss : Int32} {ti : Nat → Int32} {co : Int32} {oma : Nat → Int32} {obr : Int32} {obj : Int32} {obo : Int32} {obm : Int32} {plo : Nat → Int32} {pch : Nat → Int32} {pbe : Nat → Int32} {pbl : Int32} {Q : Int32 → (Nat → Int32) → (Nat → Int32) → Int32 → Int32 → Int32 → (Nat → Int32) → (Nat → Int32) → Int32 → Int64 → (Nat → Nat → Int64) → (Nat → Int32) → Prop} (C0 : cxM cX6_refreshDivision 1 none RX6 wsX6_refreshDivision p s m args meth c dC dI cy A) :
    ∀ (ds : Int32) (dnu : Nat → Int32) (dde : Nat → Int32) (dbo : Int32) (dln : Int32) (dld : Int32) (tba : Nat → Int32) (tal : Nat → Int32) (tro : Int32) (tsc : Int64) (tcl : Nat → Nat → Int64) (rma : Nat → Int32) (H : Heap) (locs : List Loc) (ls : Array Slot) (hm : p_X6_refreshDivision N ti co Q ds dnu dde dbo dln dld tba tal tro tsc tcl rma) (hSt : stC dC dI A s (wC ad cy ss ds ti co oma obr obj obo obm plo pch pbe pbl dnu dde dbo dln dld tba tal tro tsc tcl rma) H locs) (hl : lv_has ls 1 [(0, .ref (ad 0))]) (hret : ∀ (ds : Int32) (dnu : Nat → Int32) (dde : Nat → Int32) (dbo : Int32) (dln : Int32) (dld : Int32) (tba : Nat → Int32) (tal : Nat → Int32) (tro : Int32) (tsc : Int64) (tcl : Nat → Nat → Int64) (rma : Nat → Int32) (H : Heap) (locs : List Loc) (ls : Array Slot) (pc : Nat), decode cX6_refreshDivision pc = .ok (.return_, 1) → stC dC dI A s (wC ad cy ss ds ti co oma obr obj obo obm plo pch pbe pbl dnu dde dbo dln dld tba tal tro tsc tcl rma) H locs → Q ds dnu dde dbo dln dld tba tal tro tsc tcl rma → W p l e rmX6_refreshDivision s m args below meth c H locs 0 0 Z (F0 m pc ls [])), W p l e rmX6_refreshDivision s m args below meth c H locs 0 0 Z (F0 m 0 ls []) := by
  obtain ⟨hx, hb, hml, hr, hown, hts, hlocks, hK, hA, hN⟩ := id C0
  intro ds dnu dde dbo dln dld tba tal tro tsc tcl rma H locs ls hm hSt hl hret
  obtain ⟨hP, hD, hS⟩ := hSt
  unfold p_X6_refreshDivision at hm
  refine lv_aload_n hx hb dX6_refreshDivision_0 rfl (lv_at hl 0 rfl) ?_
  refine va_get (D := (dC, dI)) (ci := 6) (v := .int ds) (C := RX6) (T := TX6) (N := 7) hx hb hts in_X6_refreshDivision_X6 hown hK hP 0 rfl rfl 6 (by decide) (hts _ fl_X6_refreshDivision_152) (fun _ h9 => h9) rfl dX6_refreshDivision_1 ?_
  refine lv_if_ne (tgt := 38) hx hb dX6_refreshDivision_4 (by decide) (fun c_1 => ?_) (fun c_1 => ?_)
  · have hm := hm.2 c_1
    exact hret ds dnu dde dbo dln dld tba tal tro tsc tcl rma H locs ls 38 dX6_refreshDivision_38 ⟨hP, hD, hS⟩ hm
  · have hm := hm.1 c_1
    refine lv_aload_n hx hb dX6_refreshDivision_7 rfl (lv_at hl 0 rfl) ?_
    refine va_get (D := (dC, dI)) (ci := 6) (v := .ref (ad 9)) (C := RX6) (T := TX6) (N := 7) hx hb hts in_X6_refreshDivision_X6 hown hK hP 0 rfl rfl 3 (by decide) (hts _ fl_X6_refreshDivision_33) (fun _ h9 => h9) rfl dX6_refreshDivision_8 ?_
    refine lv_aload_n hx hb dX6_refreshDivision_11 rfl (lv_at hl 0 rfl) ?_
    refine va_get (D := (dC, dI)) (ci := 6) (v := .ref (ad 1)) (C := RX6) (T := TX6) (N := 7) hx hb hts in_X6_refreshDivision_X6 hown hK hP 0 rfl rfl 0 (by decide) (hts _ fl_X6_refreshDivision_12) (fun _ h9 => h9) rfl dX6_refreshDivision_12 ?_
    have hFc := va_freeSame hD hS hA
    refine va_callv (va_runV (As := [.ref (ad 1)]) (rest := []) ⟨hx, hb, hml, hown, hts⟩ (c_X0_make l dC dI cy ad H.size ss ds ti co oma obr obj obo obm plo pch pbe pbl dnu dde dbo dln dld tba tal tro tsc tcl rma  _ _ hm) (cwV 1 hts gX6_refreshDivision_X0_make rfl rfl rfl (by decide +kernel) ⟨Nat.le_of_ble_eq_true rfl, Nat.le_of_ble_eq_true rfl⟩) ⟨cPre_blind, va_recv hK hP (ci := 0) (q0 := 9) rfl rfl, fun U hU hW => ⟨rfl, cPre_at hP hK hD hN hU hW⟩⟩ rfl rfl hl.1 rfl (lv_room (Nat.le_of_ble_eq_true rfl)) dX6_refreshDivision_15 ⟨Nat.zero_le _, Nat.zero_le _⟩) hS (fun q _ h => hFc q h) hFc (fun u t H locs ht hvm hw hB hz1 hk1 hS => ?_)
    obtain ⟨dnu_2, dde_3, dbo_4, dln_5, dld_6, tba_7, tal_8, tro_9, tsc_10, tcl_11⟩ := u
    try dsimp only at hw
    have hm := hw
    have hP : va_P (dC, dI) vwCl (wC ad cy ss ds ti co oma obr obj obo obm plo pch pbe pbl dnu_2 dde_3 dbo_4 dln_5 dld_6 tba_7 tal_8 tro_9 tsc_10 tcl_11 rma) H := cPost_P ht hB
    have hD : va_D A (wC ad cy ss ds ti co oma obr obj obo obm plo pch pbe pbl dnu_2 dde_3 dbo_4 dln_5 dld_6 tba_7 tal_8 tro_9 tsc_10 tcl_11 rma) := cPost_D hFc hB
    refine lv_aload_n hx hb dX6_refreshDivision_18 rfl (lv_at hl 0 rfl) ?_
    refine va_get (D := (dC, dI)) (ci := 6) (v := .ref (ad 16)) (C := RX6) (T := TX6) (N := 7) hx hb hts in_X6_refreshDivision_X6 hown hK hP 0 rfl rfl 4 (by decide) (hts _ fl_X6_refreshDivision_40) (fun _ h9 => h9) rfl dX6_refreshDivision_19 ?_
    refine lv_aload_n hx hb dX6_refreshDivision_22 rfl (lv_at hl 0 rfl) ?_
    refine va_get (D := (dC, dI)) (ci := 6) (v := .ref (ad 1)) (C := RX6) (T := TX6) (N := 7) hx hb hts in_X6_refreshDivision_X6 hown hK hP 0 rfl rfl 0 (by decide) (hts _ fl_X6_refreshDivision_12) (fun _ h9 => h9) rfl dX6_refreshDivision_23 ?_
    refine lv_aload_n hx hb dX6_refreshDivision_26 rfl (lv_at hl 0 rfl) ?_
    refine va_get (D := (dC, dI)) (ci := 6) (v := .ref (ad 9)) (C := RX6) (T := TX6) (N := 7) hx hb hts in_X6_refreshDivision_X6 hown hK hP 0 rfl rfl 3 (by decide) (hts _ fl_X6_refreshDivision_33) (fun _ h9 => h9) rfl dX6_refreshDivision_27 ?_
    have hFc := va_freeSame hD hS hA
    refine va_callv (va_runV (As := [.ref (ad 1), .ref (ad 9)]) (rest := []) ⟨hx, hb, hml, hown, hts⟩ (c_X4_make l dC dI cy ad H.size ss ds ti co oma obr obj obo obm plo pch pbe pbl dnu_2 dde_3 dbo_4 dln_5 dld_6 tba_7 tal_8 tro_9 tsc_10 tcl_11 rma  _ _ hm) (cwV 2 hts gX6_refreshDivision_X4_make rfl rfl rfl (by decide +kernel) ⟨Nat.le_of_ble_eq_true rfl, Nat.le_of_ble_eq_true rfl⟩) ⟨cPre_blind, va_recv hK hP (ci := 4) (q0 := 16) rfl rfl, fun U hU hW => ⟨rfl, cPre_at hP hK hD hN hU hW⟩⟩ rfl rfl hl.1 rfl (lv_room (Nat.le_of_ble_eq_true rfl)) dX6_refreshDivision_30 ⟨Nat.zero_le _, Nat.zero_le _⟩) hS (fun q _ h => hFc q h) hFc (fun u t H locs ht hvm hw hB hz1 hk1 hS => ?_)
    obtain ⟨rma_12, rfl⟩ : ∃ z, z = u := ⟨_, rfl⟩
    try dsimp only at hw
    have hm := hw
    have hP : va_P (dC, dI) vwCl (wC ad cy ss ds ti co oma obr obj obo obm plo pch pbe pbl dnu_2 dde_3 dbo_4 dln_5 dld_6 tba_7 tal_8 tro_9 tsc_10 tcl_11 rma_12) H := cPost_P ht hB
    have hD : va_D A (wC ad cy ss ds ti co oma obr obj obo obm plo pch pbe pbl dnu_2 dde_3 dbo_4 dln_5 dld_6 tba_7 tal_8 tro_9 tsc_10 tcl_11 rma_12) := cPost_D hFc hB
    refine lv_aload_n hx hb dX6_refreshDivision_33 rfl (lv_at hl 0 rfl) ?_
    refine lv_iconst (v := 1) hx hb dX6_refreshDivision_34 (by decide) ?_
    refine va_put (D := (dC, dI)) (ci := 6) (v := .int (1 : Int32)) (ty := .boolean) (C := RX6) (T := TX6) (N := 7) hx hb hts in_X6_refreshDivision_X6 tyX6 tyX6_ok nmX6 hown hK hP hD hS 0 rfl rfl 6 (by decide) (hts _ fl_X6_refreshDivision_152) (fun _ h9 => h9) rfl (by decide +kernel) rfl rfl (Nat.le_of_ble_eq_true rfl) dX6_refreshDivision_35 (fun H locs hP hD hS => ?_)
    have hP : va_P (dC, dI) vwCl (wC ad cy ss (1 : Int32) ti co oma obr obj obo obm plo pch pbe pbl dnu_2 dde_3 dbo_4 dln_5 dld_6 tba_7 tal_8 tro_9 tsc_10 tcl_11 rma_12) H := hP
    have hD : va_D A (wC ad cy ss (1 : Int32) ti co oma obr obj obo obm plo pch pbe pbl dnu_2 dde_3 dbo_4 dln_5 dld_6 tba_7 tal_8 tro_9 tsc_10 tcl_11 rma_12) := hD
    exact hret (1 : Int32) dnu_2 dde_3 dbo_4 dln_5 dld_6 tba_7 tal_8 tro_9 tsc_10 tcl_11 rma_12 H locs ls 38 dX6_refreshDivision_38 ⟨hP, hD, hS⟩ hm

set_option maxHeartbeats 4000000 in
set_option maxRecDepth 100000 in
theorem c_X6_refreshDivision (l : Launch) (dC : Nat → ClassId) (dI : Nat → Nat → Nat) (cy : Nat → ClassId) (ad : Nat → Nat) (sz : Nat) (ss : Int32) (ds : Int32) (ti : Nat → Int32) (co : Int32) (oma : Nat → Int32) (obr : Int32) (obj : Int32) (obo : Int32) (obm : Int32) (plo : Nat → Int32) (pch : Nat → Int32) (pbe : Nat → Int32) (pbl : Int32) (dnu : Nat → Int32) (dde : Nat → Int32) (dbo : Int32) (dln : Int32) (dld : Int32) (tba : Nat → Int32) (tal : Nat → Int32) (tro : Int32) (tsc : Int64) (tcl : Nat → Nat → Int64) (rma : Nat → Int32)  (N : Nat) (Q : Int32 → (Nat → Int32) → (Nat → Int32) → Int32 → Int32 → Int32 → (Nat → Int32) → (Nat → Int32) → Int32 → Int64 → (Nat → Nat → Int64) → (Nat → Int32) → Prop) (hm : p_X6_refreshDivision N ti co Q ds dnu dde dbo dln dld tba tal tro tsc tcl rma) : Met l yX6_refreshDivision wsX6_refreshDivision rmX6_refreshDivision (va_Pc [.ref (ad 0)] (cPre dC dI cy (wC ad cy ss ds ti co oma obr obj obo obm plo pch pbe pbl dnu dde dbo dln dld tba tal tro tsc tcl rma) sz)) (va_Qv (fun (u : Int32 × (Nat → Int32) × (Nat → Int32) × Int32 × Int32 × Int32 × (Nat → Int32) × (Nat → Int32) × Int32 × Int64 × (Nat → Nat → Int64) × (Nat → Int32)) => Q u.1 u.2.1 u.2.2.1 u.2.2.2.1 u.2.2.2.2.1 u.2.2.2.2.2.1 u.2.2.2.2.2.2.1 u.2.2.2.2.2.2.2.1 u.2.2.2.2.2.2.2.2.1 u.2.2.2.2.2.2.2.2.2.1 u.2.2.2.2.2.2.2.2.2.2.1 u.2.2.2.2.2.2.2.2.2.2.2) (fun u t => cPost dC dI cy (wC ad cy ss ds ti co oma obr obj obo obm plo pch pbe pbl dnu dde dbo dln dld tba tal tro tsc tcl rma) sz (wC ad cy ss (u.1) ti co oma obr obj obo obm plo pch pbe pbl (u.2.1) (u.2.2.1) (u.2.2.2.1) (u.2.2.2.2.1) (u.2.2.2.2.2.1) (u.2.2.2.2.2.2.1) (u.2.2.2.2.2.2.2.1) (u.2.2.2.2.2.2.2.2.1) (u.2.2.2.2.2.2.2.2.2.1) (u.2.2.2.2.2.2.2.2.2.2.1) (u.2.2.2.2.2.2.2.2.2.2.2)) t) (va_A (wC ad cy ss ds ti co oma obr obj obo obm plo pch pbe pbl dnu dde dbo dln dld tba tal tro tsc tcl rma) sz)) 0 0 (va_A (wC ad cy ss ds ti co oma obr obj obo obm plo pch pbe pbl dnu dde dbo dln dld tba tal tro tsc tcl rma) sz) := by
  refine Met.ofW (cc := cX6_refreshDivision) (maxL := 1) (ret := none) (by decide) rfl ?_
  intro p e s m args below meth c s₁ B hml hv
  obtain ⟨rfl, hsz, hP, hK, hD0, hN⟩ := hv
  have hts := atoms_spec (ws := wsX6_refreshDivision) B.pre
  have hown : s.vm.findClass RX6 = some m.cls := findClass_of_methodNamed B.named
  subst hsz
  have hD := hD0.self (sz := s.heap.size)
  generalize hAe : va_A (wC ad cy ss ds ti co oma obr obj obo obm plo pch pbe pbl dnu dde dbo dln dld tba tal tro tsc tcl rma) s.heap.size = A at hD ⊢
  have hA : ∀ q : Nat, s.heap.size ≤ q → A q := fun q h => by rw [← hAe]; exact Or.inr h
  have hl := lv_entry ([.ref (ad 0)]) (n := 1) (Nat.le_of_ble_eq_true rfl)
  rw [lg_entry_eq]
  generalize (lg_sl ([.ref (ad 0)]) ++ List.replicate (1 - (lg_sl ([.ref (ad 0)])).length) Slot.unset).toArray = ls at hl ⊢
  have hl : lv_has ls 1 [(0, .ref (ad 0))] := hl
  exact k_X6_refreshDivision_0 ⟨B.exec, B.bytes, hml, B.returns, hown, hts, B.notSynchronized, hK, hA, hN⟩ ds dnu dde dbo dln dld tba tal tro tsc tcl rma s.heap [] ls hm ⟨hP, hD, va_S.rf⟩ (lv_sub hl [0] rfl) (fun ds dnu dde dbo dln dld tba tal tro tsc tcl rma H locs ls pc hdg hSt hq => W.vret B.exec B.bytes B.returns (fun t ht hW => ⟨⟨(ds, dnu, dde, dbo, dln, dld, tba, tal, tro, tsc, tcl, rma), rfl, hq, cPost_of hAe ht hW.alike hSt hK⟩, hSt.2.2.F ht⟩) hSt.2.2.2.2 hdg B.notSynchronized)

-- ===== X6_removeLast
theorem fl_X6_removeLast_12 : Cond.fieldLink RX6 12 "UnlikeUnion" "list" "LUnlikeUnion$Jobs;" ∈ wsX6_removeLast := by decide +kernel
theorem in_X6_removeLast_X1 : ∀ w ∈ u_ws RX1 TX1 2, w ∈ wsX6_removeLast := by decide +kernel
theorem in_X6_removeLast_X6 : ∀ w ∈ u_ws RX6 TX6 7, w ∈ wsX6_removeLast := by decide +kernel
abbrev rmX6_removeLast : Room := { frames := 2, cells := 0, slots := 0, locals := 141 }
def p_X6_removeLast (N : Nat) (Q : Int32 → Int32 → Int32 → Int32 → Prop) (ss : Int32) (ds : Int32) (co : Int32) : Prop :=
  (0 < co → (∀ f_2 : Int32, f_2 = co - (1 : Int32) → (p_X6_forgetResults N (fun ss_3 ds_4 => Q f_2 ss_3 ds_4 f_2) ss ds))) ∧ (¬ 0 < co → (Q (-1 : Int32) ss ds co))

set_option maxHeartbeats 4000000 in
set_option maxRecDepth 100000 in
theorem k_X6_removeLast_0 {N : Nat} {ti : Nat → Int32} {oma : Nat → Int32} {obr : Int32} {obj : Int32} {obo : Int32} {obm : Int32} {plo : Nat → Int32} {pch : Nat → Int32} {pbe : Nat → Int32} {pbl : Int32} {dnu : Nat → Int32} {dde : Nat → Int32} {dbo : Int32} {dln : Int32} {dld : Int32} {tba : Nat → Int32} {tal : Nat → Int32} {tro : Int32} {tsc : Int64} {tcl : Nat → Nat → Int64} {rma : Nat → Int32} {Q : Int32 → Int32 → Int32 → Int32 → Prop} (C0 : cxM cX6_removeLast 1 (some .int) RX6 wsX6_removeLast p s m args meth c dC dI cy A) :
    ∀ (ss : Int32) (ds : Int32) (co : Int32) (H : Heap) (locs : List Loc) (ls : Array Slot) (hm : p_X6_removeLast N Q ss ds co) (hSt : stC dC dI A s (wC ad cy ss ds ti co oma obr obj obo obm plo pch pbe pbl dnu dde dbo dln dld tba tal tro tsc tcl rma) H locs) (hl : lv_has ls 1 [(0, .ref (ad 0))]) (hret : ∀ (r : Int32) (ss : Int32) (ds : Int32) (co : Int32) (H : Heap) (locs : List Loc) (ls : Array Slot) (pc : Nat), decode cX6_removeLast pc = .ok (.ireturn, 1) → stC dC dI A s (wC ad cy ss ds ti co oma obr obj obo obm plo pch pbe pbl dnu dde dbo dln dld tba tal tro tsc tcl rma) H locs → Q r ss ds co → W p l e rmX6_removeLast s m args below meth c H locs 0 0 Z (F0 m pc ls [.int r])), W p l e rmX6_removeLast s m args below meth c H locs 0 0 Z (F0 m 0 ls []) := by
  obtain ⟨hx, hb, hml, hr, hown, hts, hlocks, hK, hA, hN⟩ := id C0
  intro ss ds co H locs ls hm hSt hl hret
  obtain ⟨hP, hD, hS⟩ := hSt
  unfold p_X6_removeLast at hm
  refine lv_aload_n hx hb dX6_removeLast_0 rfl (lv_at hl 0 rfl) ?_
  refine va_get (D := (dC, dI)) (ci := 6) (v := .ref (ad 1)) (C := RX6) (T := TX6) (N := 7) hx hb hts in_X6_removeLast_X6 hown hK hP 0 rfl rfl 0 (by decide) (hts _ fl_X6_removeLast_12) (fun _ h9 => h9) rfl dX6_removeLast_1 ?_
  refine va_getN (D := (dC, dI)) (ci := 1) (v := .int co) (C := RX1) (T := TX1) (N := 2) hx hb hts in_X6_removeLast_X1 hown hK hP 1 rfl rfl 1 (by decide) (va_Nw.use rfl (nw_X6_57 hN)) (fun _ h9 => h9) rfl dX6_removeLast_4 ?_
  refine lv_if_gt (tgt := 12) hx hb dX6_removeLast_7 (by decide) (fun c_1 => ?_) (fun c_1 => ?_)
  · have hm := hm.1 c_1
    refine lv_aload_n hx hb dX6_removeLast_12 rfl (lv_at hl 0 rfl) ?_
    refine va_get (D := (dC, dI)) (ci := 6) (v := .ref (ad 1)) (C := RX6) (T := TX6) (N := 7) hx hb hts in_X6_removeLast_X6 hown hK hP 0 rfl rfl 0 (by decide) (hts _ fl_X6_removeLast_12) (fun _ h9 => h9) rfl dX6_removeLast_13 ?_
    refine lv_dup hx hb dX6_removeLast_16 rfl ?_
    refine va_getN (D := (dC, dI)) (ci := 1) (v := .int co) (C := RX1) (T := TX1) (N := 2) hx hb hts in_X6_removeLast_X1 hown hK hP 1 rfl rfl 1 (by decide) (va_Nw.use rfl (nw_X6_57 hN)) (fun _ h9 => h9) rfl dX6_removeLast_17 ?_
    refine lv_iconst (v := 1) hx hb dX6_removeLast_20 (by decide) ?_
    refine lv_isub hx hb dX6_removeLast_21 ?_
    refine lv_topi (fun f_2 ef_2 => ?_)
    have hm := hm f_2 ef_2
    refine va_putN (D := (dC, dI)) (ci := 1) (v := .int f_2) (ty := .int) (C := RX1) (T := TX1) (N := 2) hx hb hts in_X6_removeLast_X1 tyX1 tyX1_ok nmX1 hown hK hP hD hS 1 rfl rfl 1 (by decide) (va_Nw.use rfl (nw_X6_57 hN)) (fun _ h9 => h9) rfl (by decide +kernel) rfl rfl (Nat.le_of_ble_eq_true rfl) dX6_removeLast_22 (fun H locs hP hD hS => ?_)
    have hP : va_P (dC, dI) vwCl (wC ad cy ss ds ti f_2 oma obr obj obo obm plo pch pbe pbl dnu dde dbo dln dld tba tal tro tsc tcl rma) H := hP
    have hD : va_D A (wC ad cy ss ds ti f_2 oma obr obj obo obm plo pch pbe pbl dnu dde dbo dln dld tba tal tro tsc tcl rma) := hD
    refine lv_aload_n hx hb dX6_removeLast_25 rfl (lv_at hl 0 rfl) ?_
    have hFc := va_freeSame hD hS hA
    refine va_callv (va_runV (As := []) (rest := []) ⟨hx, hb, hml, hown, hts⟩ (c_X6_forgetResults l dC dI cy ad H.size ss ds ti f_2 oma obr obj obo obm plo pch pbe pbl dnu dde dbo dln dld tba tal tro tsc tcl rma  _ _ hm) (cwV 0 hts gX6_removeLast_X6_forgetResults rfl rfl rfl (by decide +kernel) ⟨Nat.le_of_ble_eq_true rfl, Nat.le_of_ble_eq_true rfl⟩) ⟨cPre_blind, va_recv hK hP (ci := 6) (q0 := 0) rfl rfl, fun U hU hW => ⟨rfl, cPre_at hP hK hD hN hU hW⟩⟩ rfl rfl hl.1 rfl (lv_room (Nat.le_of_ble_eq_true rfl)) dX6_removeLast_26 ⟨Nat.zero_le _, Nat.zero_le _⟩) hS (fun q _ h => hFc q h) hFc (fun u t H locs ht hvm hw hB hz1 hk1 hS => ?_)
    obtain ⟨ss_3, ds_4⟩ := u
    try dsimp only at hw
    have hm := hw
    have hP : va_P (dC, dI) vwCl (wC ad cy ss_3 ds_4 ti f_2 oma obr obj obo obm plo pch pbe pbl dnu dde dbo dln dld tba tal tro tsc tcl rma) H := cPost_P ht hB
    have hD : va_D A (wC ad cy ss_3 ds_4 ti f_2 oma obr obj obo obm plo pch pbe pbl dnu dde dbo dln dld tba tal tro tsc tcl rma) := cPost_D hFc hB
    refine lv_aload_n hx hb dX6_removeLast_29 rfl (lv_at hl 0 rfl) ?_
    refine va_get (D := (dC, dI)) (ci := 6) (v := .ref (ad 1)) (C := RX6) (T := TX6) (N := 7) hx hb hts in_X6_removeLast_X6 hown hK hP 0 rfl rfl 0 (by decide) (hts _ fl_X6_removeLast_12) (fun _ h9 => h9) rfl dX6_removeLast_30 ?_
    refine va_getN (D := (dC, dI)) (ci := 1) (v := .int f_2) (C := RX1) (T := TX1) (N := 2) hx hb hts in_X6_removeLast_X1 hown hK hP 1 rfl rfl 1 (by decide) (va_Nw.use rfl (nw_X6_57 hN)) (fun _ h9 => h9) rfl dX6_removeLast_33 ?_
    exact hret f_2 ss_3 ds_4 f_2 H locs ls 36 dX6_removeLast_36 ⟨hP, hD, hS⟩ hm
  · have hm := hm.2 c_1
    refine lv_iconst (v := -1) hx hb dX6_removeLast_10 (by decide) ?_
    exact hret (-1 : Int32) ss ds co H locs ls 11 dX6_removeLast_11 ⟨hP, hD, hS⟩ hm

set_option maxHeartbeats 4000000 in
set_option maxRecDepth 100000 in
theorem c_X6_removeLast (l : Launch) (dC : Nat → ClassId) (dI : Nat → Nat → Nat) (cy : Nat → ClassId) (ad : Nat → Nat) (sz : Nat) (ss : Int32) (ds : Int32) (ti : Nat → Int32) (co : Int32) (oma : Nat → Int32) (obr : Int32) (obj : Int32) (obo : Int32) (obm : Int32) (plo : Nat → Int32) (pch : Nat → Int32) (pbe : Nat → Int32) (pbl : Int32) (dnu : Nat → Int32) (dde : Nat → Int32) (dbo : Int32) (dln : Int32) (dld : Int32) (tba : Nat → Int32) (tal : Nat → Int32) (tro : Int32) (tsc : Int64) (tcl : Nat → Nat → Int64) (rma : Nat → Int32)  (N : Nat) (Q : Int32 → Int32 → Int32 → Int32 → Prop) (hm : p_X6_removeLast N Q ss ds co) : Met l yX6_removeLast wsX6_removeLast rmX6_removeLast (va_Pc [.ref (ad 0)] (cPre dC dI cy (wC ad cy ss ds ti co oma obr obj obo obm plo pch pbe pbl dnu dde dbo dln dld tba tal tro tsc tcl rma) sz)) (va_Qi (fun (r : Int32) (u : Int32 × Int32 × Int32) => Q r u.1 u.2.1 u.2.2) (fun u t => cPost dC dI cy (wC ad cy ss ds ti co oma obr obj obo obm plo pch pbe pbl dnu dde dbo dln dld tba tal tro tsc tcl rma) sz (wC ad cy (u.1) (u.2.1) ti (u.2.2) oma obr obj obo obm plo pch pbe pbl dnu dde dbo dln dld tba tal tro tsc tcl rma) t) (va_A (wC ad cy ss ds ti co oma obr obj obo obm plo pch pbe pbl dnu dde dbo dln dld tba tal tro tsc tcl rma) sz)) 0 0 (va_A (wC ad cy ss ds ti co oma obr obj obo obm plo pch pbe pbl dnu dde dbo dln dld tba tal tro tsc tcl rma) sz) := by
  refine Met.ofW (cc := cX6_removeLast) (maxL := 1) (ret := (some .int)) (by decide) rfl ?_
  intro p e s m args below meth c s₁ B hml hv
  obtain ⟨rfl, hsz, hP, hK, hD0, hN⟩ := hv
  have hts := atoms_spec (ws := wsX6_removeLast) B.pre
  have hown : s.vm.findClass RX6 = some m.cls := findClass_of_methodNamed B.named
  subst hsz
  have hD := hD0.self (sz := s.heap.size)
  generalize hAe : va_A (wC ad cy ss ds ti co oma obr obj obo obm plo pch pbe pbl dnu dde dbo dln dld tba tal tro tsc tcl rma) s.heap.size = A at hD ⊢
  have hA : ∀ q : Nat, s.heap.size ≤ q → A q := fun q h => by rw [← hAe]; exact Or.inr h
  have hl := lv_entry ([.ref (ad 0)]) (n := 1) (Nat.le_of_ble_eq_true rfl)
  rw [lg_entry_eq]
  generalize (lg_sl ([.ref (ad 0)]) ++ List.replicate (1 - (lg_sl ([.ref (ad 0)])).length) Slot.unset).toArray = ls at hl ⊢
  have hl : lv_has ls 1 [(0, .ref (ad 0))] := hl
  exact k_X6_removeLast_0 ⟨B.exec, B.bytes, hml, B.returns, hown, hts, B.notSynchronized, hK, hA, hN⟩ ss ds co s.heap [] ls hm ⟨hP, hD, va_S.rf⟩ (lv_sub hl [0] rfl) (fun r ss ds co H locs ls pc hdg hSt hq => W.iret B.exec B.bytes B.returns (fun t ht hW => ⟨⟨r, (ss, ds, co), rfl, hq, cPost_of hAe ht hW.alike hSt hK⟩, hSt.2.2.F ht⟩) hSt.2.2.2.2 hdg B.notSynchronized)

-- ===== X6_jobs
theorem fl_X6_jobs_12 : Cond.fieldLink RX6 12 "UnlikeUnion" "list" "LUnlikeUnion$Jobs;" ∈ wsX6_jobs := by decide +kernel
theorem in_X6_jobs_X1 : ∀ w ∈ u_ws RX1 TX1 2, w ∈ wsX6_jobs := by decide +kernel
theorem in_X6_jobs_X6 : ∀ w ∈ u_ws RX6 TX6 7, w ∈ wsX6_jobs := by decide +kernel
abbrev rmX6_jobs : Room := { frames := 1, cells := 0, slots := 0, locals := 61 }
def p_X6_jobs (N : Nat) (co : Int32) (Q : Int32 → Prop)  : Prop :=
  Q co

set_option maxHeartbeats 4000000 in
set_option maxRecDepth 100000 in
theorem k_X6_jobs_0 {N : Nat} {ss : Int32} {ds : Int32} {ti : Nat → Int32} {co : Int32} {oma : Nat → Int32} {obr : Int32} {obj : Int32} {obo : Int32} {obm : Int32} {plo : Nat → Int32} {pch : Nat → Int32} {pbe : Nat → Int32} {pbl : Int32} {dnu : Nat → Int32} {dde : Nat → Int32} {dbo : Int32} {dln : Int32} {dld : Int32} {tba : Nat → Int32} {tal : Nat → Int32} {tro : Int32} {tsc : Int64} {tcl : Nat → Nat → Int64} {rma : Nat → Int32} {Q : Int32 → Prop} (C0 : cxM cX6_jobs 1 (some .int) RX6 wsX6_jobs p s m args meth c dC dI cy A) :
    ∀  (H : Heap) (locs : List Loc) (ls : Array Slot) (hm : p_X6_jobs N co Q ) (hSt : stC dC dI A s (wC ad cy ss ds ti co oma obr obj obo obm plo pch pbe pbl dnu dde dbo dln dld tba tal tro tsc tcl rma) H locs) (hl : lv_has ls 1 [(0, .ref (ad 0))]) (hret : ∀ (r : Int32) (H : Heap) (locs : List Loc) (ls : Array Slot) (pc : Nat), decode cX6_jobs pc = .ok (.ireturn, 1) → stC dC dI A s (wC ad cy ss ds ti co oma obr obj obo obm plo pch pbe pbl dnu dde dbo dln dld tba tal tro tsc tcl rma) H locs → Q r → W p l e rmX6_jobs s m args below meth c H locs 0 0 Z (F0 m pc ls [.int r])), W p l e rmX6_jobs s m args below meth c H locs 0 0 Z (F0 m 0 ls []) := by
  obtain ⟨hx, hb, hml, hr, hown, hts, hlocks, hK, hA, hN⟩ := id C0
  intro  H locs ls hm hSt hl hret
  obtain ⟨hP, hD, hS⟩ := hSt
  unfold p_X6_jobs at hm
  refine lv_aload_n hx hb dX6_jobs_0 rfl (lv_at hl 0 rfl) ?_
  refine va_get (D := (dC, dI)) (ci := 6) (v := .ref (ad 1)) (C := RX6) (T := TX6) (N := 7) hx hb hts in_X6_jobs_X6 hown hK hP 0 rfl rfl 0 (by decide) (hts _ fl_X6_jobs_12) (fun _ h9 => h9) rfl dX6_jobs_1 ?_
  refine va_getN (D := (dC, dI)) (ci := 1) (v := .int co) (C := RX1) (T := TX1) (N := 2) hx hb hts in_X6_jobs_X1 hown hK hP 1 rfl rfl 1 (by decide) (va_Nw.use rfl (nw_X6_57 hN)) (fun _ h9 => h9) rfl dX6_jobs_4 ?_
  exact hret co H locs ls 7 dX6_jobs_7 ⟨hP, hD, hS⟩ hm

set_option maxHeartbeats 4000000 in
set_option maxRecDepth 100000 in
theorem c_X6_jobs (l : Launch) (dC : Nat → ClassId) (dI : Nat → Nat → Nat) (cy : Nat → ClassId) (ad : Nat → Nat) (sz : Nat) (ss : Int32) (ds : Int32) (ti : Nat → Int32) (co : Int32) (oma : Nat → Int32) (obr : Int32) (obj : Int32) (obo : Int32) (obm : Int32) (plo : Nat → Int32) (pch : Nat → Int32) (pbe : Nat → Int32) (pbl : Int32) (dnu : Nat → Int32) (dde : Nat → Int32) (dbo : Int32) (dln : Int32) (dld : Int32) (tba : Nat → Int32) (tal : Nat → Int32) (tro : Int32) (tsc : Int64) (tcl : Nat → Nat → Int64) (rma : Nat → Int32)  (N : Nat) (Q : Int32 → Prop) (hm : p_X6_jobs N co Q ) : Met l yX6_jobs wsX6_jobs rmX6_jobs (va_Pc [.ref (ad 0)] (cPre dC dI cy (wC ad cy ss ds ti co oma obr obj obo obm plo pch pbe pbl dnu dde dbo dln dld tba tal tro tsc tcl rma) sz)) (va_Qi (fun (r : Int32) (u : Unit) => Q r) (fun u t => cPost dC dI cy (wC ad cy ss ds ti co oma obr obj obo obm plo pch pbe pbl dnu dde dbo dln dld tba tal tro tsc tcl rma) sz (wC ad cy ss ds ti co oma obr obj obo obm plo pch pbe pbl dnu dde dbo dln dld tba tal tro tsc tcl rma) t) (va_A (wC ad cy ss ds ti co oma obr obj obo obm plo pch pbe pbl dnu dde dbo dln dld tba tal tro tsc tcl rma) sz)) 0 0 (va_A (wC ad cy ss ds ti co oma obr obj obo obm plo pch pbe pbl dnu dde dbo dln dld tba tal tro tsc tcl rma) sz) := by
  refine Met.ofW (cc := cX6_jobs) (maxL := 1) (ret := (some .int)) (by decide) rfl ?_
  intro p e s m args below meth c s₁ B hml hv
  obtain ⟨rfl, hsz, hP, hK, hD0, hN⟩ := hv
  have hts := atoms_spec (ws := wsX6_jobs) B.pre
  have hown : s.vm.findClass RX6 = some m.cls := findClass_of_methodNamed B.named
  subst hsz
  have hD := hD0.self (sz := s.heap.size)
  generalize hAe : va_A (wC ad cy ss ds ti co oma obr obj obo obm plo pch pbe pbl dnu dde dbo dln dld tba tal tro tsc tcl rma) s.heap.size = A at hD ⊢
  have hA : ∀ q : Nat, s.heap.size ≤ q → A q := fun q h => by rw [← hAe]; exact Or.inr h
  have hl := lv_entry ([.ref (ad 0)]) (n := 1) (Nat.le_of_ble_eq_true rfl)
  rw [lg_entry_eq]
  generalize (lg_sl ([.ref (ad 0)]) ++ List.replicate (1 - (lg_sl ([.ref (ad 0)])).length) Slot.unset).toArray = ls at hl ⊢
  have hl : lv_has ls 1 [(0, .ref (ad 0))] := hl
  exact k_X6_jobs_0 ⟨B.exec, B.bytes, hml, B.returns, hown, hts, B.notSynchronized, hK, hA, hN⟩  s.heap [] ls hm ⟨hP, hD, va_S.rf⟩ (lv_sub hl [0] rfl) (fun r H locs ls pc hdg hSt hq => W.iret B.exec B.bytes B.returns (fun t ht hW => ⟨⟨r, (), rfl, hq, cPost_of hAe ht hW.alike hSt hK⟩, hSt.2.2.F ht⟩) hSt.2.2.2.2 hdg B.notSynchronized)

-- ===== X6_shortest
theorem fl_X6_shortest_26 : Cond.fieldLink RX6 26 "UnlikeUnion" "search" "LUnlikeUnion$PlanSearch;" ∈ wsX6_shortest := by decide +kernel
theorem in_X6_shortest_X3 : ∀ w ∈ u_ws RX3 TX3 4, w ∈ wsX6_shortest := by decide +kernel
theorem in_X6_shortest_X6 : ∀ w ∈ u_ws RX6 TX6 7, w ∈ wsX6_shortest := by decide +kernel
abbrev rmX6_shortest : Room := { frames := 43, cells := 0, slots := 0, locals := 4246 }
def p_X6_shortest (N : Nat) (ti : Nat → Int32) (co : Int32) (Q : Int32 → Int32 → (Nat → Int32) → (Nat → Int32) → (Nat → Int32) → Int32 → Prop) (ss : Int32) (plo : Nat → Int32) (pch : Nat → Int32) (pbe : Nat → Int32) (pbl : Int32) : Prop :=
  p_X6_refreshSearch N ti co (fun ss_1 plo_2 pch_3 pbe_4 pbl_5 => Q pbl_5 ss_1 plo_2 pch_3 pbe_4 pbl_5) ss plo pch pbe pbl

set_option maxHeartbeats 4000000 in
set_option maxRecDepth 100000 in
theorem k_X6_shortest_0 {N : Nat} {ds : Int32} {ti : Nat → Int32} {co : Int32} {oma : Nat → Int32} {obr : Int32} {obj : Int32} {obo : Int32} {obm : Int32} {dnu : Nat → Int32} {dde : Nat → Int32} {dbo : Int32} {dln : Int32} {dld : Int32} {tba : Nat → Int32} {tal : Nat → Int32} {tro : Int32} {tsc : Int64} {tcl : Nat → Nat → Int64} {rma : Nat → Int32} {Q : Int32 → Int32 → (Nat → Int32) → (Nat → Int32) → (Nat → Int32) → Int32 → Prop} (C0 : cxM cX6_shortest 1 (some .int) RX6 wsX6_shortest p s m args meth c dC dI cy A) :
    ∀ (ss : Int32) (plo : Nat → Int32) (pch : Nat → Int32) (pbe : Nat → Int32) (pbl : Int32) (H : Heap) (locs : List Loc) (ls : Array Slot) (hm : p_X6_shortest N ti co Q ss plo pch pbe pbl) (hSt : stC dC dI A s (wC ad cy ss ds ti co oma obr obj obo obm plo pch pbe pbl dnu dde dbo dln dld tba tal tro tsc tcl rma) H locs) (hl : lv_has ls 1 [(0, .ref (ad 0))]) (hret : ∀ (r : Int32) (ss : Int32) (plo : Nat → Int32) (pch : Nat → Int32) (pbe : Nat → Int32) (pbl : Int32) (H : Heap) (locs : List Loc) (ls : Array Slot) (pc : Nat), decode cX6_shortest pc = .ok (.ireturn, 1) → stC dC dI A s (wC ad cy ss ds ti co oma obr obj obo obm plo pch pbe pbl dnu dde dbo dln dld tba tal tro tsc tcl rma) H locs → Q r ss plo pch pbe pbl → W p l e rmX6_shortest s m args below meth c H locs 0 0 Z (F0 m pc ls [.int r])), W p l e rmX6_shortest s m args below meth c H locs 0 0 Z (F0 m 0 ls []) := by
  obtain ⟨hx, hb, hml, hr, hown, hts, hlocks, hK, hA, hN⟩ := id C0
  intro ss plo pch pbe pbl H locs ls hm hSt hl hret
  obtain ⟨hP, hD, hS⟩ := hSt
  unfold p_X6_shortest at hm
  refine lv_aload_n hx hb dX6_shortest_0 rfl (lv_at hl 0 rfl) ?_
  have hFc := va_freeSame hD hS hA
  refine va_callv (va_runV (As := []) (rest := []) ⟨hx, hb, hml, hown, hts⟩ (c_X6_refreshSearch l dC dI cy ad H.size ss ds ti co oma obr obj obo obm plo pch pbe pbl dnu dde dbo dln dld tba tal tro tsc tcl rma  _ _ hm) (cwV 0 hts gX6_shortest_X6_refreshSearch rfl rfl rfl (by decide +kernel) ⟨Nat.le_of_ble_eq_true rfl, Nat.le_of_ble_eq_true rfl⟩) ⟨cPre_blind, va_recv hK hP (ci := 6) (q0 := 0) rfl rfl, fun U hU hW => ⟨rfl, cPre_at hP hK hD hN hU hW⟩⟩ rfl rfl hl.1 rfl (lv_room (Nat.le_of_ble_eq_true rfl)) dX6_shortest_1 ⟨Nat.zero_le _, Nat.zero_le _⟩) hS (fun q _ h => hFc q h) hFc (fun u t H locs ht hvm hw hB hz1 hk1 hS => ?_)
  obtain ⟨ss_1, plo_2, pch_3, pbe_4, pbl_5⟩ := u
  try dsimp only at hw
  have hm := hw
  have hP : va_P (dC, dI) vwCl (wC ad cy ss_1 ds ti co oma obr obj obo obm plo_2 pch_3 pbe_4 pbl_5 dnu dde dbo dln dld tba tal tro tsc tcl rma) H := cPost_P ht hB
  have hD : va_D A (wC ad cy ss_1 ds ti co oma obr obj obo obm plo_2 pch_3 pbe_4 pbl_5 dnu dde dbo dln dld tba tal tro tsc tcl rma) := cPost_D hFc hB
  refine lv_aload_n hx hb dX6_shortest_4 rfl (lv_at hl 0 rfl) ?_
  refine va_get (D := (dC, dI)) (ci := 6) (v := .ref (ad 5)) (C := RX6) (T := TX6) (N := 7) hx hb hts in_X6_shortest_X6 hown hK hP 0 rfl rfl 2 (by decide) (hts _ fl_X6_shortest_26) (fun _ h9 => h9) rfl dX6_shortest_5 ?_
  refine va_getN (D := (dC, dI)) (ci := 3) (v := .int pbl_5) (C := RX3) (T := TX3) (N := 4) hx hb hts in_X6_shortest_X3 hown hK hP 5 rfl rfl 3 (by decide) (va_Nw.use rfl (nw_X6_94 hN)) (fun _ h9 => h9) rfl dX6_shortest_8 ?_
  exact hret pbl_5 ss_1 plo_2 pch_3 pbe_4 pbl_5 H locs ls 11 dX6_shortest_11 ⟨hP, hD, hS⟩ hm

set_option maxHeartbeats 4000000 in
set_option maxRecDepth 100000 in
theorem c_X6_shortest (l : Launch) (dC : Nat → ClassId) (dI : Nat → Nat → Nat) (cy : Nat → ClassId) (ad : Nat → Nat) (sz : Nat) (ss : Int32) (ds : Int32) (ti : Nat → Int32) (co : Int32) (oma : Nat → Int32) (obr : Int32) (obj : Int32) (obo : Int32) (obm : Int32) (plo : Nat → Int32) (pch : Nat → Int32) (pbe : Nat → Int32) (pbl : Int32) (dnu : Nat → Int32) (dde : Nat → Int32) (dbo : Int32) (dln : Int32) (dld : Int32) (tba : Nat → Int32) (tal : Nat → Int32) (tro : Int32) (tsc : Int64) (tcl : Nat → Nat → Int64) (rma : Nat → Int32)  (N : Nat) (Q : Int32 → Int32 → (Nat → Int32) → (Nat → Int32) → (Nat → Int32) → Int32 → Prop) (hm : p_X6_shortest N ti co Q ss plo pch pbe pbl) : Met l yX6_shortest wsX6_shortest rmX6_shortest (va_Pc [.ref (ad 0)] (cPre dC dI cy (wC ad cy ss ds ti co oma obr obj obo obm plo pch pbe pbl dnu dde dbo dln dld tba tal tro tsc tcl rma) sz)) (va_Qi (fun (r : Int32) (u : Int32 × (Nat → Int32) × (Nat → Int32) × (Nat → Int32) × Int32) => Q r u.1 u.2.1 u.2.2.1 u.2.2.2.1 u.2.2.2.2) (fun u t => cPost dC dI cy (wC ad cy ss ds ti co oma obr obj obo obm plo pch pbe pbl dnu dde dbo dln dld tba tal tro tsc tcl rma) sz (wC ad cy (u.1) ds ti co oma obr obj obo obm (u.2.1) (u.2.2.1) (u.2.2.2.1) (u.2.2.2.2) dnu dde dbo dln dld tba tal tro tsc tcl rma) t) (va_A (wC ad cy ss ds ti co oma obr obj obo obm plo pch pbe pbl dnu dde dbo dln dld tba tal tro tsc tcl rma) sz)) 0 0 (va_A (wC ad cy ss ds ti co oma obr obj obo obm plo pch pbe pbl dnu dde dbo dln dld tba tal tro tsc tcl rma) sz) := by
  refine Met.ofW (cc := cX6_shortest) (maxL := 1) (ret := (some .int)) (by decide) rfl ?_
  intro p e s m args below meth c s₁ B hml hv
  obtain ⟨rfl, hsz, hP, hK, hD0, hN⟩ := hv
  have hts := atoms_spec (ws := wsX6_shortest) B.pre
  have hown : s.vm.findClass RX6 = some m.cls := findClass_of_methodNamed B.named
  subst hsz
  have hD := hD0.self (sz := s.heap.size)
  generalize hAe : va_A (wC ad cy ss ds ti co oma obr obj obo obm plo pch pbe pbl dnu dde dbo dln dld tba tal tro tsc tcl rma) s.heap.size = A at hD ⊢
  have hA : ∀ q : Nat, s.heap.size ≤ q → A q := fun q h => by rw [← hAe]; exact Or.inr h
  have hl := lv_entry ([.ref (ad 0)]) (n := 1) (Nat.le_of_ble_eq_true rfl)
  rw [lg_entry_eq]
  generalize (lg_sl ([.ref (ad 0)]) ++ List.replicate (1 - (lg_sl ([.ref (ad 0)])).length) Slot.unset).toArray = ls at hl ⊢
  have hl : lv_has ls 1 [(0, .ref (ad 0))] := hl
  exact k_X6_shortest_0 ⟨B.exec, B.bytes, hml, B.returns, hown, hts, B.notSynchronized, hK, hA, hN⟩ ss plo pch pbe pbl s.heap [] ls hm ⟨hP, hD, va_S.rf⟩ (lv_sub hl [0] rfl) (fun r ss plo pch pbe pbl H locs ls pc hdg hSt hq => W.iret B.exec B.bytes B.returns (fun t ht hW => ⟨⟨r, (ss, plo, pch, pbe, pbl), rfl, hq, cPost_of hAe ht hW.alike hSt hK⟩, hSt.2.2.F ht⟩) hSt.2.2.2.2 hdg B.notSynchronized)

-- ===== X6_shortestByTrying
theorem fl_X6_shortestByTrying_26 : Cond.fieldLink RX6 26 "UnlikeUnion" "search" "LUnlikeUnion$PlanSearch;" ∈ wsX6_shortestByTrying := by decide +kernel
theorem fl_X6_shortestByTrying_12 : Cond.fieldLink RX6 12 "UnlikeUnion" "list" "LUnlikeUnion$Jobs;" ∈ wsX6_shortestByTrying := by decide +kernel
theorem in_X6_shortestByTrying_X6 : ∀ w ∈ u_ws RX6 TX6 7, w ∈ wsX6_shortestByTrying := by decide +kernel
abbrev rmX6_shortestByTrying : Room := { frames := 42, cells := 0, slots := 0, locals := 4166 }
def p_X6_shortestByTrying (N : Nat) (ti : Nat → Int32) (co : Int32) (Q : Int32 → (Nat → Int32) → Prop) (plo : Nat → Int32) : Prop :=
  p_X3_tryAll N ti co (fun r_1 plo_2 => Q r_1 plo_2) plo

set_option maxHeartbeats 4000000 in
set_option maxRecDepth 100000 in
theorem k_X6_shortestByTrying_0 {N : Nat} {ss : Int32} {ds : Int32} {ti : Nat → Int32} {co : Int32} {oma : Nat → Int32} {obr : Int32} {obj : Int32} {obo : Int32} {obm : Int32} {pch : Nat → Int32} {pbe : Nat → Int32} {pbl : Int32} {dnu : Nat → Int32} {dde : Nat → Int32} {dbo : Int32} {dln : Int32} {dld : Int32} {tba : Nat → Int32} {tal : Nat → Int32} {tro : Int32} {tsc : Int64} {tcl : Nat → Nat → Int64} {rma : Nat → Int32} {Q : Int32 → (Nat → Int32) → Prop} (C0 : cxM cX6_shortestByTrying 1 (some .int) RX6 wsX6_shortestByTrying p s m args meth c dC dI cy A) :
    ∀ (plo : Nat → Int32) (H : Heap) (locs : List Loc) (ls : Array Slot) (hm : p_X6_shortestByTrying N ti co Q plo) (hSt : stC dC dI A s (wC ad cy ss ds ti co oma obr obj obo obm plo pch pbe pbl dnu dde dbo dln dld tba tal tro tsc tcl rma) H locs) (hl : lv_has ls 1 [(0, .ref (ad 0))]) (hret : ∀ (r : Int32) (plo : Nat → Int32) (H : Heap) (locs : List Loc) (ls : Array Slot) (pc : Nat), decode cX6_shortestByTrying pc = .ok (.ireturn, 1) → stC dC dI A s (wC ad cy ss ds ti co oma obr obj obo obm plo pch pbe pbl dnu dde dbo dln dld tba tal tro tsc tcl rma) H locs → Q r plo → W p l e rmX6_shortestByTrying s m args below meth c H locs 0 0 Z (F0 m pc ls [.int r])), W p l e rmX6_shortestByTrying s m args below meth c H locs 0 0 Z (F0 m 0 ls []) := by
  obtain ⟨hx, hb, hml, hr, hown, hts, hlocks, hK, hA, hN⟩ := id C0
  intro plo H locs ls hm hSt hl hret
  obtain ⟨hP, hD, hS⟩ := hSt
  unfold p_X6_shortestByTrying at hm
  refine lv_aload_n hx hb dX6_shortestByTrying_0 rfl (lv_at hl 0 rfl) ?_
  refine va_get (D := (dC, dI)) (ci := 6) (v := .ref (ad 5)) (C := RX6) (T := TX6) (N := 7) hx hb hts in_X6_shortestByTrying_X6 hown hK hP 0 rfl rfl 2 (by decide) (hts _ fl_X6_shortestByTrying_26) (fun _ h9 => h9) rfl dX6_shortestByTrying_1 ?_
  refine lv_aload_n hx hb dX6_shortestByTrying_4 rfl (lv_at hl 0 rfl) ?_
  refine va_get (D := (dC, dI)) (ci := 6) (v := .ref (ad 1)) (C := RX6) (T := TX6) (N := 7) hx hb hts in_X6_shortestByTrying_X6 hown hK hP 0 rfl rfl 0 (by decide) (hts _ fl_X6_shortestByTrying_12) (fun _ h9 => h9) rfl dX6_shortestByTrying_5 ?_
  have hFc := va_freeSame hD hS hA
  refine va_calli (va_runV (As := [.ref (ad 1)]) (rest := []) ⟨hx, hb, hml, hown, hts⟩ (c_X3_tryAll l dC dI cy ad H.size ss ds ti co oma obr obj obo obm plo pch pbe pbl dnu dde dbo dln dld tba tal tro tsc tcl rma  _ _ hm) (cwV 1 hts gX6_shortestByTrying_X3_tryAll rfl rfl rfl (by decide +kernel) ⟨Nat.le_of_ble_eq_true rfl, Nat.le_of_ble_eq_true rfl⟩) ⟨cPre_blind, va_recv hK hP (ci := 3) (q0 := 5) rfl rfl, fun U hU hW => ⟨rfl, cPre_at hP hK hD hN hU hW⟩⟩ rfl rfl hl.1 rfl (lv_room (Nat.le_of_ble_eq_true rfl)) dX6_shortestByTrying_8 ⟨Nat.zero_le _, Nat.zero_le _⟩) hS (fun q _ h => hFc q h) hFc (fun r_1 u t H locs ht hvm hw hB hz1 hk1 hS => ?_)
  obtain ⟨plo_2, rfl⟩ : ∃ z, z = u := ⟨_, rfl⟩
  try dsimp only at hw
  have hm := hw
  have hP : va_P (dC, dI) vwCl (wC ad cy ss ds ti co oma obr obj obo obm plo_2 pch pbe pbl dnu dde dbo dln dld tba tal tro tsc tcl rma) H := cPost_P ht hB
  have hD : va_D A (wC ad cy ss ds ti co oma obr obj obo obm plo_2 pch pbe pbl dnu dde dbo dln dld tba tal tro tsc tcl rma) := cPost_D hFc hB
  exact hret r_1 plo_2 H locs ls 11 dX6_shortestByTrying_11 ⟨hP, hD, hS⟩ hm

set_option maxHeartbeats 4000000 in
set_option maxRecDepth 100000 in
theorem c_X6_shortestByTrying (l : Launch) (dC : Nat → ClassId) (dI : Nat → Nat → Nat) (cy : Nat → ClassId) (ad : Nat → Nat) (sz : Nat) (ss : Int32) (ds : Int32) (ti : Nat → Int32) (co : Int32) (oma : Nat → Int32) (obr : Int32) (obj : Int32) (obo : Int32) (obm : Int32) (plo : Nat → Int32) (pch : Nat → Int32) (pbe : Nat → Int32) (pbl : Int32) (dnu : Nat → Int32) (dde : Nat → Int32) (dbo : Int32) (dln : Int32) (dld : Int32) (tba : Nat → Int32) (tal : Nat → Int32) (tro : Int32) (tsc : Int64) (tcl : Nat → Nat → Int64) (rma : Nat → Int32)  (N : Nat) (Q : Int32 → (Nat → Int32) → Prop) (hm : p_X6_shortestByTrying N ti co Q plo) : Met l yX6_shortestByTrying wsX6_shortestByTrying rmX6_shortestByTrying (va_Pc [.ref (ad 0)] (cPre dC dI cy (wC ad cy ss ds ti co oma obr obj obo obm plo pch pbe pbl dnu dde dbo dln dld tba tal tro tsc tcl rma) sz)) (va_Qi (fun (r : Int32) (u : (Nat → Int32)) => Q r u) (fun u t => cPost dC dI cy (wC ad cy ss ds ti co oma obr obj obo obm plo pch pbe pbl dnu dde dbo dln dld tba tal tro tsc tcl rma) sz (wC ad cy ss ds ti co oma obr obj obo obm u pch pbe pbl dnu dde dbo dln dld tba tal tro tsc tcl rma) t) (va_A (wC ad cy ss ds ti co oma obr obj obo obm plo pch pbe pbl dnu dde dbo dln dld tba tal tro tsc tcl rma) sz)) 0 0 (va_A (wC ad cy ss ds ti co oma obr obj obo obm plo pch pbe pbl dnu dde dbo dln dld tba tal tro tsc tcl rma) sz) := by
  refine Met.ofW (cc := cX6_shortestByTrying) (maxL := 1) (ret := (some .int)) (by decide) rfl ?_
  intro p e s m args below meth c s₁ B hml hv
  obtain ⟨rfl, hsz, hP, hK, hD0, hN⟩ := hv
  have hts := atoms_spec (ws := wsX6_shortestByTrying) B.pre
  have hown : s.vm.findClass RX6 = some m.cls := findClass_of_methodNamed B.named
  subst hsz
  have hD := hD0.self (sz := s.heap.size)
  generalize hAe : va_A (wC ad cy ss ds ti co oma obr obj obo obm plo pch pbe pbl dnu dde dbo dln dld tba tal tro tsc tcl rma) s.heap.size = A at hD ⊢
  have hA : ∀ q : Nat, s.heap.size ≤ q → A q := fun q h => by rw [← hAe]; exact Or.inr h
  have hl := lv_entry ([.ref (ad 0)]) (n := 1) (Nat.le_of_ble_eq_true rfl)
  rw [lg_entry_eq]
  generalize (lg_sl ([.ref (ad 0)]) ++ List.replicate (1 - (lg_sl ([.ref (ad 0)])).length) Slot.unset).toArray = ls at hl ⊢
  have hl : lv_has ls 1 [(0, .ref (ad 0))] := hl
  exact k_X6_shortestByTrying_0 ⟨B.exec, B.bytes, hml, B.returns, hown, hts, B.notSynchronized, hK, hA, hN⟩ plo s.heap [] ls hm ⟨hP, hD, va_S.rf⟩ (lv_sub hl [0] rfl) (fun r plo H locs ls pc hdg hSt hq => W.iret B.exec B.bytes B.returns (fun t ht hW => ⟨⟨r, (plo), rfl, hq, cPost_of hAe ht hW.alike hSt hK⟩, hSt.2.2.F ht⟩) hSt.2.2.2.2 hdg B.notSynchronized)

-- ===== X6_bound
theorem fl_X6_bound_33 : Cond.fieldLink RX6 33 "UnlikeUnion" "division" "LUnlikeUnion$Division;" ∈ wsX6_bound := by decide +kernel
theorem in_X6_bound_X0 : ∀ w ∈ u_ws RX0 TX0 6, w ∈ wsX6_bound := by decide +kernel
theorem in_X6_bound_X6 : ∀ w ∈ u_ws RX6 TX6 7, w ∈ wsX6_bound := by decide +kernel
abbrev rmX6_bound : Room := { frames := 43, cells := 0, slots := 0, locals := 4249 }
def p_X6_bound (N : Nat) (ti : Nat → Int32) (co : Int32) (Q : Int32 → Int32 → (Nat → Int32) → (Nat → Int32) → Int32 → Int32 → Int32 → (Nat → Int32) → (Nat → Int32) → Int32 → Int64 → (Nat → Nat → Int64) → (Nat → Int32) → Prop) (ds : Int32) (dnu : Nat → Int32) (dde : Nat → Int32) (dbo : Int32) (dln : Int32) (dld : Int32) (tba : Nat → Int32) (tal : Nat → Int32) (tro : Int32) (tsc : Int64) (tcl : Nat → Nat → Int64) (rma : Nat → Int32) : Prop :=
  p_X6_refreshDivision N ti co (fun ds_1 dnu_2 dde_3 dbo_4 dln_5 dld_6 tba_7 tal_8 tro_9 tsc_10 tcl_11 rma_12 => Q dbo_4 ds_1 dnu_2 dde_3 dbo_4 dln_5 dld_6 tba_7 tal_8 tro_9 tsc_10 tcl_11 rma_12) ds dnu dde dbo dln dld tba tal tro tsc tcl rma

set_option maxHeartbeats 4000000 in
set_option maxRecDepth 100000 in
theorem k_X6_bound_0 {N : Nat} {ss : Int32} {ti : Nat → Int32} {co : Int32} {oma : Nat → Int32} {obr : Int32} {obj : Int32} {obo : Int32} {obm : Int32} {plo : Nat → Int32} {pch : Nat → Int32} {pbe : Nat → Int32} {pbl : Int32} {Q : Int32 → Int32 → (Nat → Int32) → (Nat → Int32) → Int32 → Int32 → Int32 → (Nat → Int32) → (Nat → Int32) → Int32 → Int64 → (Nat → Nat → Int64) → (Nat → Int32) → Prop} (C0 : cxM cX6_bound 1 (some .int) RX6 wsX6_bound p s m args meth c dC dI cy A) :
    ∀ (ds : Int32) (dnu : Nat → Int32) (dde : Nat → Int32) (dbo : Int32) (dln : Int32) (dld : Int32) (tba : Nat → Int32) (tal : Nat → Int32) (tro : Int32) (tsc : Int64) (tcl : Nat → Nat → Int64) (rma : Nat → Int32) (H : Heap) (locs : List Loc) (ls : Array Slot) (hm : p_X6_bound N ti co Q ds dnu dde dbo dln dld tba tal tro tsc tcl rma) (hSt : stC dC dI A s (wC ad cy ss ds ti co oma obr obj obo obm plo pch pbe pbl dnu dde dbo dln dld tba tal tro tsc tcl rma) H locs) (hl : lv_has ls 1 [(0, .ref (ad 0))]) (hret : ∀ (r : Int32) (ds : Int32) (dnu : Nat → Int32) (dde : Nat → Int32) (dbo : Int32) (dln : Int32) (dld : Int32) (tba : Nat → Int32) (tal : Nat → Int32) (tro : Int32) (tsc : Int64) (tcl : Nat → Nat → Int64) (rma : Nat → Int32) (H : Heap) (locs : List Loc) (ls : Array Slot) (pc : Nat), decode cX6_bound pc = .ok (.ireturn, 1) → stC dC dI A s (wC ad cy ss ds ti co oma obr obj obo obm plo pch pbe pbl dnu dde dbo dln dld tba tal tro tsc tcl rma) H locs → Q r ds dnu dde dbo dln dld tba tal tro tsc tcl rma → W p l e rmX6_bound s m args below meth c H locs 0 0 Z (F0 m pc ls [.int r])), W p l e rmX6_bound s m args below meth c H locs 0 0 Z (F0 m 0 ls []) := by
  obtain ⟨hx, hb, hml, hr, hown, hts, hlocks, hK, hA, hN⟩ := id C0
  intro ds dnu dde dbo dln dld tba tal tro tsc tcl rma H locs ls hm hSt hl hret
  obtain ⟨hP, hD, hS⟩ := hSt
  unfold p_X6_bound at hm
  refine lv_aload_n hx hb dX6_bound_0 rfl (lv_at hl 0 rfl) ?_
  have hFc := va_freeSame hD hS hA
  refine va_callv (va_runV (As := []) (rest := []) ⟨hx, hb, hml, hown, hts⟩ (c_X6_refreshDivision l dC dI cy ad H.size ss ds ti co oma obr obj obo obm plo pch pbe pbl dnu dde dbo dln dld tba tal tro tsc tcl rma  _ _ hm) (cwV 0 hts gX6_bound_X6_refreshDivision rfl rfl rfl (by decide +kernel) ⟨Nat.le_of_ble_eq_true rfl, Nat.le_of_ble_eq_true rfl⟩) ⟨cPre_blind, va_recv hK hP (ci := 6) (q0 := 0) rfl rfl, fun U hU hW => ⟨rfl, cPre_at hP hK hD hN hU hW⟩⟩ rfl rfl hl.1 rfl (lv_room (Nat.le_of_ble_eq_true rfl)) dX6_bound_1 ⟨Nat.zero_le _, Nat.zero_le _⟩) hS (fun q _ h => hFc q h) hFc (fun u t H locs ht hvm hw hB hz1 hk1 hS => ?_)
  obtain ⟨ds_1, dnu_2, dde_3, dbo_4, dln_5, dld_6, tba_7, tal_8, tro_9, tsc_10, tcl_11, rma_12⟩ := u
  try dsimp only at hw
  have hm := hw
  have hP : va_P (dC, dI) vwCl (wC ad cy ss ds_1 ti co oma obr obj obo obm plo pch pbe pbl dnu_2 dde_3 dbo_4 dln_5 dld_6 tba_7 tal_8 tro_9 tsc_10 tcl_11 rma_12) H := cPost_P ht hB
  have hD : va_D A (wC ad cy ss ds_1 ti co oma obr obj obo obm plo pch pbe pbl dnu_2 dde_3 dbo_4 dln_5 dld_6 tba_7 tal_8 tro_9 tsc_10 tcl_11 rma_12) := cPost_D hFc hB
  refine lv_aload_n hx hb dX6_bound_4 rfl (lv_at hl 0 rfl) ?_
  refine va_get (D := (dC, dI)) (ci := 6) (v := .ref (ad 9)) (C := RX6) (T := TX6) (N := 7) hx hb hts in_X6_bound_X6 hown hK hP 0 rfl rfl 3 (by decide) (hts _ fl_X6_bound_33) (fun _ h9 => h9) rfl dX6_bound_5 ?_
  refine va_getN (D := (dC, dI)) (ci := 0) (v := .int dbo_4) (C := RX0) (T := TX0) (N := 6) hx hb hts in_X6_bound_X0 hown hK hP 9 rfl rfl 3 (by decide) (va_Nw.use rfl (nw_X6_107 hN)) (fun _ h9 => h9) rfl dX6_bound_8 ?_
  exact hret dbo_4 ds_1 dnu_2 dde_3 dbo_4 dln_5 dld_6 tba_7 tal_8 tro_9 tsc_10 tcl_11 rma_12 H locs ls 11 dX6_bound_11 ⟨hP, hD, hS⟩ hm

set_option maxHeartbeats 4000000 in
set_option maxRecDepth 100000 in
theorem c_X6_bound (l : Launch) (dC : Nat → ClassId) (dI : Nat → Nat → Nat) (cy : Nat → ClassId) (ad : Nat → Nat) (sz : Nat) (ss : Int32) (ds : Int32) (ti : Nat → Int32) (co : Int32) (oma : Nat → Int32) (obr : Int32) (obj : Int32) (obo : Int32) (obm : Int32) (plo : Nat → Int32) (pch : Nat → Int32) (pbe : Nat → Int32) (pbl : Int32) (dnu : Nat → Int32) (dde : Nat → Int32) (dbo : Int32) (dln : Int32) (dld : Int32) (tba : Nat → Int32) (tal : Nat → Int32) (tro : Int32) (tsc : Int64) (tcl : Nat → Nat → Int64) (rma : Nat → Int32)  (N : Nat) (Q : Int32 → Int32 → (Nat → Int32) → (Nat → Int32) → Int32 → Int32 → Int32 → (Nat → Int32) → (Nat → Int32) → Int32 → Int64 → (Nat → Nat → Int64) → (Nat → Int32) → Prop) (hm : p_X6_bound N ti co Q ds dnu dde dbo dln dld tba tal tro tsc tcl rma) : Met l yX6_bound wsX6_bound rmX6_bound (va_Pc [.ref (ad 0)] (cPre dC dI cy (wC ad cy ss ds ti co oma obr obj obo obm plo pch pbe pbl dnu dde dbo dln dld tba tal tro tsc tcl rma) sz)) (va_Qi (fun (r : Int32) (u : Int32 × (Nat → Int32) × (Nat → Int32) × Int32 × Int32 × Int32 × (Nat → Int32) × (Nat → Int32) × Int32 × Int64 × (Nat → Nat → Int64) × (Nat → Int32)) => Q r u.1 u.2.1 u.2.2.1 u.2.2.2.1 u.2.2.2.2.1 u.2.2.2.2.2.1 u.2.2.2.2.2.2.1 u.2.2.2.2.2.2.2.1 u.2.2.2.2.2.2.2.2.1 u.2.2.2.2.2.2.2.2.2.1 u.2.2.2.2.2.2.2.2.2.2.1 u.2.2.2.2.2.2.2.2.2.2.2) (fun u t => cPost dC dI cy (wC ad cy ss ds ti co oma obr obj obo obm plo pch pbe pbl dnu dde dbo dln dld tba tal tro tsc tcl rma) sz (wC ad cy ss (u.1) ti co oma obr obj obo obm plo pch pbe pbl (u.2.1) (u.2.2.1) (u.2.2.2.1) (u.2.2.2.2.1) (u.2.2.2.2.2.1) (u.2.2.2.2.2.2.1) (u.2.2.2.2.2.2.2.1) (u.2.2.2.2.2.2.2.2.1) (u.2.2.2.2.2.2.2.2.2.1) (u.2.2.2.2.2.2.2.2.2.2.1) (u.2.2.2.2.2.2.2.2.2.2.2)) t) (va_A (wC ad cy ss ds ti co oma obr obj obo obm plo pch pbe pbl dnu dde dbo dln dld tba tal tro tsc tcl rma) sz)) 0 0 (va_A (wC ad cy ss ds ti co oma obr obj obo obm plo pch pbe pbl dnu dde dbo dln dld tba tal tro tsc tcl rma) sz) := by
  refine Met.ofW (cc := cX6_bound) (maxL := 1) (ret := (some .int)) (by decide) rfl ?_
  intro p e s m args below meth c s₁ B hml hv
  obtain ⟨rfl, hsz, hP, hK, hD0, hN⟩ := hv
  have hts := atoms_spec (ws := wsX6_bound) B.pre
  have hown : s.vm.findClass RX6 = some m.cls := findClass_of_methodNamed B.named
  subst hsz
  have hD := hD0.self (sz := s.heap.size)
  generalize hAe : va_A (wC ad cy ss ds ti co oma obr obj obo obm plo pch pbe pbl dnu dde dbo dln dld tba tal tro tsc tcl rma) s.heap.size = A at hD ⊢
  have hA : ∀ q : Nat, s.heap.size ≤ q → A q := fun q h => by rw [← hAe]; exact Or.inr h
  have hl := lv_entry ([.ref (ad 0)]) (n := 1) (Nat.le_of_ble_eq_true rfl)
  rw [lg_entry_eq]
  generalize (lg_sl ([.ref (ad 0)]) ++ List.replicate (1 - (lg_sl ([.ref (ad 0)])).length) Slot.unset).toArray = ls at hl ⊢
  have hl : lv_has ls 1 [(0, .ref (ad 0))] := hl
  exact k_X6_bound_0 ⟨B.exec, B.bytes, hml, B.returns, hown, hts, B.notSynchronized, hK, hA, hN⟩ ds dnu dde dbo dln dld tba tal tro tsc tcl rma s.heap [] ls hm ⟨hP, hD, va_S.rf⟩ (lv_sub hl [0] rfl) (fun r ds dnu dde dbo dln dld tba tal tro tsc tcl rma H locs ls pc hdg hSt hq => W.iret B.exec B.bytes B.returns (fun t ht hW => ⟨⟨r, (ds, dnu, dde, dbo, dln, dld, tba, tal, tro, tsc, tcl, rma), rfl, hq, cPost_of hAe ht hW.alike hSt hK⟩, hSt.2.2.F ht⟩) hSt.2.2.2.2 hdg B.notSynchronized)

-- ===== X6_leastNumerator
theorem fl_X6_leastNumerator_33 : Cond.fieldLink RX6 33 "UnlikeUnion" "division" "LUnlikeUnion$Division;" ∈ wsX6_leastNumerator := by decide +kernel
theorem in_X6_leastNumerator_X0 : ∀ w ∈ u_ws RX0 TX0 6, w ∈ wsX6_leastNumerator := by decide +kernel
theorem in_X6_leastNumerator_X6 : ∀ w ∈ u_ws RX6 TX6 7, w ∈ wsX6_leastNumerator := by decide +kernel
abbrev rmX6_leastNumerator : Room := { frames := 43, cells := 0, slots := 0, locals := 4249 }
def p_X6_leastNumerator (N : Nat) (ti : Nat → Int32) (co : Int32) (Q : Int32 → Int32 → (Nat → Int32) → (Nat → Int32) → Int32 → Int32 → Int32 → (Nat → Int32) → (Nat → Int32) → Int32 → Int64 → (Nat → Nat → Int64) → (Nat → Int32) → Prop) (ds : Int32) (dnu : Nat → Int32) (dde : Nat → Int32) (dbo : Int32) (dln : Int32) (dld : Int32) (tba : Nat → Int32) (tal : Nat → Int32) (tro : Int32) (tsc : Int64) (tcl : Nat → Nat → Int64) (rma : Nat → Int32) : Prop :=
  p_X6_refreshDivision N ti co (fun ds_1 dnu_2 dde_3 dbo_4 dln_5 dld_6 tba_7 tal_8 tro_9 tsc_10 tcl_11 rma_12 => Q dln_5 ds_1 dnu_2 dde_3 dbo_4 dln_5 dld_6 tba_7 tal_8 tro_9 tsc_10 tcl_11 rma_12) ds dnu dde dbo dln dld tba tal tro tsc tcl rma

set_option maxHeartbeats 4000000 in
set_option maxRecDepth 100000 in
theorem k_X6_leastNumerator_0 {N : Nat} {ss : Int32} {ti : Nat → Int32} {co : Int32} {oma : Nat → Int32} {obr : Int32} {obj : Int32} {obo : Int32} {obm : Int32} {plo : Nat → Int32} {pch : Nat → Int32} {pbe : Nat → Int32} {pbl : Int32} {Q : Int32 → Int32 → (Nat → Int32) → (Nat → Int32) → Int32 → Int32 → Int32 → (Nat → Int32) → (Nat → Int32) → Int32 → Int64 → (Nat → Nat → Int64) → (Nat → Int32) → Prop} (C0 : cxM cX6_leastNumerator 1 (some .int) RX6 wsX6_leastNumerator p s m args meth c dC dI cy A) :
    ∀ (ds : Int32) (dnu : Nat → Int32) (dde : Nat → Int32) (dbo : Int32) (dln : Int32) (dld : Int32) (tba : Nat → Int32) (tal : Nat → Int32) (tro : Int32) (tsc : Int64) (tcl : Nat → Nat → Int64) (rma : Nat → Int32) (H : Heap) (locs : List Loc) (ls : Array Slot) (hm : p_X6_leastNumerator N ti co Q ds dnu dde dbo dln dld tba tal tro tsc tcl rma) (hSt : stC dC dI A s (wC ad cy ss ds ti co oma obr obj obo obm plo pch pbe pbl dnu dde dbo dln dld tba tal tro tsc tcl rma) H locs) (hl : lv_has ls 1 [(0, .ref (ad 0))]) (hret : ∀ (r : Int32) (ds : Int32) (dnu : Nat → Int32) (dde : Nat → Int32) (dbo : Int32) (dln : Int32) (dld : Int32) (tba : Nat → Int32) (tal : Nat → Int32) (tro : Int32) (tsc : Int64) (tcl : Nat → Nat → Int64) (rma : Nat → Int32) (H : Heap) (locs : List Loc) (ls : Array Slot) (pc : Nat), decode cX6_leastNumerator pc = .ok (.ireturn, 1) → stC dC dI A s (wC ad cy ss ds ti co oma obr obj obo obm plo pch pbe pbl dnu dde dbo dln dld tba tal tro tsc tcl rma) H locs → Q r ds dnu dde dbo dln dld tba tal tro tsc tcl rma → W p l e rmX6_leastNumerator s m args below meth c H locs 0 0 Z (F0 m pc ls [.int r])), W p l e rmX6_leastNumerator s m args below meth c H locs 0 0 Z (F0 m 0 ls []) := by
  obtain ⟨hx, hb, hml, hr, hown, hts, hlocks, hK, hA, hN⟩ := id C0
  intro ds dnu dde dbo dln dld tba tal tro tsc tcl rma H locs ls hm hSt hl hret
  obtain ⟨hP, hD, hS⟩ := hSt
  unfold p_X6_leastNumerator at hm
  refine lv_aload_n hx hb dX6_leastNumerator_0 rfl (lv_at hl 0 rfl) ?_
  have hFc := va_freeSame hD hS hA
  refine va_callv (va_runV (As := []) (rest := []) ⟨hx, hb, hml, hown, hts⟩ (c_X6_refreshDivision l dC dI cy ad H.size ss ds ti co oma obr obj obo obm plo pch pbe pbl dnu dde dbo dln dld tba tal tro tsc tcl rma  _ _ hm) (cwV 0 hts gX6_leastNumerator_X6_refreshDivision rfl rfl rfl (by decide +kernel) ⟨Nat.le_of_ble_eq_true rfl, Nat.le_of_ble_eq_true rfl⟩) ⟨cPre_blind, va_recv hK hP (ci := 6) (q0 := 0) rfl rfl, fun U hU hW => ⟨rfl, cPre_at hP hK hD hN hU hW⟩⟩ rfl rfl hl.1 rfl (lv_room (Nat.le_of_ble_eq_true rfl)) dX6_leastNumerator_1 ⟨Nat.zero_le _, Nat.zero_le _⟩) hS (fun q _ h => hFc q h) hFc (fun u t H locs ht hvm hw hB hz1 hk1 hS => ?_)
  obtain ⟨ds_1, dnu_2, dde_3, dbo_4, dln_5, dld_6, tba_7, tal_8, tro_9, tsc_10, tcl_11, rma_12⟩ := u
  try dsimp only at hw
  have hm := hw
  have hP : va_P (dC, dI) vwCl (wC ad cy ss ds_1 ti co oma obr obj obo obm plo pch pbe pbl dnu_2 dde_3 dbo_4 dln_5 dld_6 tba_7 tal_8 tro_9 tsc_10 tcl_11 rma_12) H := cPost_P ht hB
  have hD : va_D A (wC ad cy ss ds_1 ti co oma obr obj obo obm plo pch pbe pbl dnu_2 dde_3 dbo_4 dln_5 dld_6 tba_7 tal_8 tro_9 tsc_10 tcl_11 rma_12) := cPost_D hFc hB
  refine lv_aload_n hx hb dX6_leastNumerator_4 rfl (lv_at hl 0 rfl) ?_
  refine va_get (D := (dC, dI)) (ci := 6) (v := .ref (ad 9)) (C := RX6) (T := TX6) (N := 7) hx hb hts in_X6_leastNumerator_X6 hown hK hP 0 rfl rfl 3 (by decide) (hts _ fl_X6_leastNumerator_33) (fun _ h9 => h9) rfl dX6_leastNumerator_5 ?_
  refine va_getN (D := (dC, dI)) (ci := 0) (v := .int dln_5) (C := RX0) (T := TX0) (N := 6) hx hb hts in_X6_leastNumerator_X0 hown hK hP 9 rfl rfl 4 (by decide) (va_Nw.use rfl (nw_X6_120 hN)) (fun _ h9 => h9) rfl dX6_leastNumerator_8 ?_
  exact hret dln_5 ds_1 dnu_2 dde_3 dbo_4 dln_5 dld_6 tba_7 tal_8 tro_9 tsc_10 tcl_11 rma_12 H locs ls 11 dX6_leastNumerator_11 ⟨hP, hD, hS⟩ hm

set_option maxHeartbeats 4000000 in
set_option maxRecDepth 100000 in
theorem c_X6_leastNumerator (l : Launch) (dC : Nat → ClassId) (dI : Nat → Nat → Nat) (cy : Nat → ClassId) (ad : Nat → Nat) (sz : Nat) (ss : Int32) (ds : Int32) (ti : Nat → Int32) (co : Int32) (oma : Nat → Int32) (obr : Int32) (obj : Int32) (obo : Int32) (obm : Int32) (plo : Nat → Int32) (pch : Nat → Int32) (pbe : Nat → Int32) (pbl : Int32) (dnu : Nat → Int32) (dde : Nat → Int32) (dbo : Int32) (dln : Int32) (dld : Int32) (tba : Nat → Int32) (tal : Nat → Int32) (tro : Int32) (tsc : Int64) (tcl : Nat → Nat → Int64) (rma : Nat → Int32)  (N : Nat) (Q : Int32 → Int32 → (Nat → Int32) → (Nat → Int32) → Int32 → Int32 → Int32 → (Nat → Int32) → (Nat → Int32) → Int32 → Int64 → (Nat → Nat → Int64) → (Nat → Int32) → Prop) (hm : p_X6_leastNumerator N ti co Q ds dnu dde dbo dln dld tba tal tro tsc tcl rma) : Met l yX6_leastNumerator wsX6_leastNumerator rmX6_leastNumerator (va_Pc [.ref (ad 0)] (cPre dC dI cy (wC ad cy ss ds ti co oma obr obj obo obm plo pch pbe pbl dnu dde dbo dln dld tba tal tro tsc tcl rma) sz)) (va_Qi (fun (r : Int32) (u : Int32 × (Nat → Int32) × (Nat → Int32) × Int32 × Int32 × Int32 × (Nat → Int32) × (Nat → Int32) × Int32 × Int64 × (Nat → Nat → Int64) × (Nat → Int32)) => Q r u.1 u.2.1 u.2.2.1 u.2.2.2.1 u.2.2.2.2.1 u.2.2.2.2.2.1 u.2.2.2.2.2.2.1 u.2.2.2.2.2.2.2.1 u.2.2.2.2.2.2.2.2.1 u.2.2.2.2.2.2.2.2.2.1 u.2.2.2.2.2.2.2.2.2.2.1 u.2.2.2.2.2.2.2.2.2.2.2) (fun u t => cPost dC dI cy (wC ad cy ss ds ti co oma obr obj obo obm plo pch pbe pbl dnu dde dbo dln dld tba tal tro tsc tcl rma) sz (wC ad cy ss (u.1) ti co oma obr obj obo obm plo pch pbe pbl (u.2.1) (u.2.2.1) (u.2.2.2.1) (u.2.2.2.2.1) (u.2.2.2.2.2.1) (u.2.2.2.2.2.2.1) (u.2.2.2.2.2.2.2.1) (u.2.2.2.2.2.2.2.2.1) (u.2.2.2.2.2.2.2.2.2.1) (u.2.2.2.2.2.2.2.2.2.2.1) (u.2.2.2.2.2.2.2.2.2.2.2)) t) (va_A (wC ad cy ss ds ti co oma obr obj obo obm plo pch pbe pbl dnu dde dbo dln dld tba tal tro tsc tcl rma) sz)) 0 0 (va_A (wC ad cy ss ds ti co oma obr obj obo obm plo pch pbe pbl dnu dde dbo dln dld tba tal tro tsc tcl rma) sz) := by
  refine Met.ofW (cc := cX6_leastNumerator) (maxL := 1) (ret := (some .int)) (by decide) rfl ?_
  intro p e s m args below meth c s₁ B hml hv
  obtain ⟨rfl, hsz, hP, hK, hD0, hN⟩ := hv
  have hts := atoms_spec (ws := wsX6_leastNumerator) B.pre
  have hown : s.vm.findClass RX6 = some m.cls := findClass_of_methodNamed B.named
  subst hsz
  have hD := hD0.self (sz := s.heap.size)
  generalize hAe : va_A (wC ad cy ss ds ti co oma obr obj obo obm plo pch pbe pbl dnu dde dbo dln dld tba tal tro tsc tcl rma) s.heap.size = A at hD ⊢
  have hA : ∀ q : Nat, s.heap.size ≤ q → A q := fun q h => by rw [← hAe]; exact Or.inr h
  have hl := lv_entry ([.ref (ad 0)]) (n := 1) (Nat.le_of_ble_eq_true rfl)
  rw [lg_entry_eq]
  generalize (lg_sl ([.ref (ad 0)]) ++ List.replicate (1 - (lg_sl ([.ref (ad 0)])).length) Slot.unset).toArray = ls at hl ⊢
  have hl : lv_has ls 1 [(0, .ref (ad 0))] := hl
  exact k_X6_leastNumerator_0 ⟨B.exec, B.bytes, hml, B.returns, hown, hts, B.notSynchronized, hK, hA, hN⟩ ds dnu dde dbo dln dld tba tal tro tsc tcl rma s.heap [] ls hm ⟨hP, hD, va_S.rf⟩ (lv_sub hl [0] rfl) (fun r ds dnu dde dbo dln dld tba tal tro tsc tcl rma H locs ls pc hdg hSt hq => W.iret B.exec B.bytes B.returns (fun t ht hW => ⟨⟨r, (ds, dnu, dde, dbo, dln, dld, tba, tal, tro, tsc, tcl, rma), rfl, hq, cPost_of hAe ht hW.alike hSt hK⟩, hSt.2.2.F ht⟩) hSt.2.2.2.2 hdg B.notSynchronized)

-- ===== X6_leastDenominator
theorem fl_X6_leastDenominator_33 : Cond.fieldLink RX6 33 "UnlikeUnion" "division" "LUnlikeUnion$Division;" ∈ wsX6_leastDenominator := by decide +kernel
theorem in_X6_leastDenominator_X0 : ∀ w ∈ u_ws RX0 TX0 6, w ∈ wsX6_leastDenominator := by decide +kernel
theorem in_X6_leastDenominator_X6 : ∀ w ∈ u_ws RX6 TX6 7, w ∈ wsX6_leastDenominator := by decide +kernel
abbrev rmX6_leastDenominator : Room := { frames := 43, cells := 0, slots := 0, locals := 4249 }
def p_X6_leastDenominator (N : Nat) (ti : Nat → Int32) (co : Int32) (Q : Int32 → Int32 → (Nat → Int32) → (Nat → Int32) → Int32 → Int32 → Int32 → (Nat → Int32) → (Nat → Int32) → Int32 → Int64 → (Nat → Nat → Int64) → (Nat → Int32) → Prop) (ds : Int32) (dnu : Nat → Int32) (dde : Nat → Int32) (dbo : Int32) (dln : Int32) (dld : Int32) (tba : Nat → Int32) (tal : Nat → Int32) (tro : Int32) (tsc : Int64) (tcl : Nat → Nat → Int64) (rma : Nat → Int32) : Prop :=
  p_X6_refreshDivision N ti co (fun ds_1 dnu_2 dde_3 dbo_4 dln_5 dld_6 tba_7 tal_8 tro_9 tsc_10 tcl_11 rma_12 => Q dld_6 ds_1 dnu_2 dde_3 dbo_4 dln_5 dld_6 tba_7 tal_8 tro_9 tsc_10 tcl_11 rma_12) ds dnu dde dbo dln dld tba tal tro tsc tcl rma

set_option maxHeartbeats 4000000 in
set_option maxRecDepth 100000 in
theorem k_X6_leastDenominator_0 {N : Nat} {ss : Int32} {ti : Nat → Int32} {co : Int32} {oma : Nat → Int32} {obr : Int32} {obj : Int32} {obo : Int32} {obm : Int32} {plo : Nat → Int32} {pch : Nat → Int32} {pbe : Nat → Int32} {pbl : Int32} {Q : Int32 → Int32 → (Nat → Int32) → (Nat → Int32) → Int32 → Int32 → Int32 → (Nat → Int32) → (Nat → Int32) → Int32 → Int64 → (Nat → Nat → Int64) → (Nat → Int32) → Prop} (C0 : cxM cX6_leastDenominator 1 (some .int) RX6 wsX6_leastDenominator p s m args meth c dC dI cy A) :
    ∀ (ds : Int32) (dnu : Nat → Int32) (dde : Nat → Int32) (dbo : Int32) (dln : Int32) (dld : Int32) (tba : Nat → Int32) (tal : Nat → Int32) (tro : Int32) (tsc : Int64) (tcl : Nat → Nat → Int64) (rma : Nat → Int32) (H : Heap) (locs : List Loc) (ls : Array Slot) (hm : p_X6_leastDenominator N ti co Q ds dnu dde dbo dln dld tba tal tro tsc tcl rma) (hSt : stC dC dI A s (wC ad cy ss ds ti co oma obr obj obo obm plo pch pbe pbl dnu dde dbo dln dld tba tal tro tsc tcl rma) H locs) (hl : lv_has ls 1 [(0, .ref (ad 0))]) (hret : ∀ (r : Int32) (ds : Int32) (dnu : Nat → Int32) (dde : Nat → Int32) (dbo : Int32) (dln : Int32) (dld : Int32) (tba : Nat → Int32) (tal : Nat → Int32) (tro : Int32) (tsc : Int64) (tcl : Nat → Nat → Int64) (rma : Nat → Int32) (H : Heap) (locs : List Loc) (ls : Array Slot) (pc : Nat), decode cX6_leastDenominator pc = .ok (.ireturn, 1) → stC dC dI A s (wC ad cy ss ds ti co oma obr obj obo obm plo pch pbe pbl dnu dde dbo dln dld tba tal tro tsc tcl rma) H locs → Q r ds dnu dde dbo dln dld tba tal tro tsc tcl rma → W p l e rmX6_leastDenominator s m args below meth c H locs 0 0 Z (F0 m pc ls [.int r])), W p l e rmX6_leastDenominator s m args below meth c H locs 0 0 Z (F0 m 0 ls []) := by
  obtain ⟨hx, hb, hml, hr, hown, hts, hlocks, hK, hA, hN⟩ := id C0
  intro ds dnu dde dbo dln dld tba tal tro tsc tcl rma H locs ls hm hSt hl hret
  obtain ⟨hP, hD, hS⟩ := hSt
  unfold p_X6_leastDenominator at hm
  refine lv_aload_n hx hb dX6_leastDenominator_0 rfl (lv_at hl 0 rfl) ?_
  have hFc := va_freeSame hD hS hA
  refine va_callv (va_runV (As := []) (rest := []) ⟨hx, hb, hml, hown, hts⟩ (c_X6_refreshDivision l dC dI cy ad H.size ss ds ti co oma obr obj obo obm plo pch pbe pbl dnu dde dbo dln dld tba tal tro tsc tcl rma  _ _ hm) (cwV 0 hts gX6_leastDenominator_X6_refreshDivision rfl rfl rfl (by decide +kernel) ⟨Nat.le_of_ble_eq_true rfl, Nat.le_of_ble_eq_true rfl⟩) ⟨cPre_blind, va_recv hK hP (ci := 6) (q0 := 0) rfl rfl, fun U hU hW => ⟨rfl, cPre_at hP hK hD hN hU hW⟩⟩ rfl rfl hl.1 rfl (lv_room (Nat.le_of_ble_eq_true rfl)) dX6_leastDenominator_1 ⟨Nat.zero_le _, Nat.zero_le _⟩) hS (fun q _ h => hFc q h) hFc (fun u t H locs ht hvm hw hB hz1 hk1 hS => ?_)
  obtain ⟨ds_1, dnu_2, dde_3, dbo_4, dln_5, dld_6, tba_7, tal_8, tro_9, tsc_10, tcl_11, rma_12⟩ := u
  try dsimp only at hw
  have hm := hw
  have hP : va_P (dC, dI) vwCl (wC ad cy ss ds_1 ti co oma obr obj obo obm plo pch pbe pbl dnu_2 dde_3 dbo_4 dln_5 dld_6 tba_7 tal_8 tro_9 tsc_10 tcl_11 rma_12) H := cPost_P ht hB
  have hD : va_D A (wC ad cy ss ds_1 ti co oma obr obj obo obm plo pch pbe pbl dnu_2 dde_3 dbo_4 dln_5 dld_6 tba_7 tal_8 tro_9 tsc_10 tcl_11 rma_12) := cPost_D hFc hB
  refine lv_aload_n hx hb dX6_leastDenominator_4 rfl (lv_at hl 0 rfl) ?_
  refine va_get (D := (dC, dI)) (ci := 6) (v := .ref (ad 9)) (C := RX6) (T := TX6) (N := 7) hx hb hts in_X6_leastDenominator_X6 hown hK hP 0 rfl rfl 3 (by decide) (hts _ fl_X6_leastDenominator_33) (fun _ h9 => h9) rfl dX6_leastDenominator_5 ?_
  refine va_getN (D := (dC, dI)) (ci := 0) (v := .int dld_6) (C := RX0) (T := TX0) (N := 6) hx hb hts in_X6_leastDenominator_X0 hown hK hP 9 rfl rfl 5 (by decide) (va_Nw.use rfl (nw_X6_123 hN)) (fun _ h9 => h9) rfl dX6_leastDenominator_8 ?_
  exact hret dld_6 ds_1 dnu_2 dde_3 dbo_4 dln_5 dld_6 tba_7 tal_8 tro_9 tsc_10 tcl_11 rma_12 H locs ls 11 dX6_leastDenominator_11 ⟨hP, hD, hS⟩ hm

set_option maxHeartbeats 4000000 in
set_option maxRecDepth 100000 in
theorem c_X6_leastDenominator (l : Launch) (dC : Nat → ClassId) (dI : Nat → Nat → Nat) (cy : Nat → ClassId) (ad : Nat → Nat) (sz : Nat) (ss : Int32) (ds : Int32) (ti : Nat → Int32) (co : Int32) (oma : Nat → Int32) (obr : Int32) (obj : Int32) (obo : Int32) (obm : Int32) (plo : Nat → Int32) (pch : Nat → Int32) (pbe : Nat → Int32) (pbl : Int32) (dnu : Nat → Int32) (dde : Nat → Int32) (dbo : Int32) (dln : Int32) (dld : Int32) (tba : Nat → Int32) (tal : Nat → Int32) (tro : Int32) (tsc : Int64) (tcl : Nat → Nat → Int64) (rma : Nat → Int32)  (N : Nat) (Q : Int32 → Int32 → (Nat → Int32) → (Nat → Int32) → Int32 → Int32 → Int32 → (Nat → Int32) → (Nat → Int32) → Int32 → Int64 → (Nat → Nat → Int64) → (Nat → Int32) → Prop) (hm : p_X6_leastDenominator N ti co Q ds dnu dde dbo dln dld tba tal tro tsc tcl rma) : Met l yX6_leastDenominator wsX6_leastDenominator rmX6_leastDenominator (va_Pc [.ref (ad 0)] (cPre dC dI cy (wC ad cy ss ds ti co oma obr obj obo obm plo pch pbe pbl dnu dde dbo dln dld tba tal tro tsc tcl rma) sz)) (va_Qi (fun (r : Int32) (u : Int32 × (Nat → Int32) × (Nat → Int32) × Int32 × Int32 × Int32 × (Nat → Int32) × (Nat → Int32) × Int32 × Int64 × (Nat → Nat → Int64) × (Nat → Int32)) => Q r u.1 u.2.1 u.2.2.1 u.2.2.2.1 u.2.2.2.2.1 u.2.2.2.2.2.1 u.2.2.2.2.2.2.1 u.2.2.2.2.2.2.2.1 u.2.2.2.2.2.2.2.2.1 u.2.2.2.2.2.2.2.2.2.1 u.2.2.2.2.2.2.2.2.2.2.1 u.2.2.2.2.2.2.2.2.2.2.2) (fun u t => cPost dC dI cy (wC ad cy ss ds ti co oma obr obj obo obm plo pch pbe pbl dnu dde dbo dln dld tba tal tro tsc tcl rma) sz (wC ad cy ss (u.1) ti co oma obr obj obo obm plo pch pbe pbl (u.2.1) (u.2.2.1) (u.2.2.2.1) (u.2.2.2.2.1) (u.2.2.2.2.2.1) (u.2.2.2.2.2.2.1) (u.2.2.2.2.2.2.2.1) (u.2.2.2.2.2.2.2.2.1) (u.2.2.2.2.2.2.2.2.2.1) (u.2.2.2.2.2.2.2.2.2.2.1) (u.2.2.2.2.2.2.2.2.2.2.2)) t) (va_A (wC ad cy ss ds ti co oma obr obj obo obm plo pch pbe pbl dnu dde dbo dln dld tba tal tro tsc tcl rma) sz)) 0 0 (va_A (wC ad cy ss ds ti co oma obr obj obo obm plo pch pbe pbl dnu dde dbo dln dld tba tal tro tsc tcl rma) sz) := by
  refine Met.ofW (cc := cX6_leastDenominator) (maxL := 1) (ret := (some .int)) (by decide) rfl ?_
  intro p e s m args below meth c s₁ B hml hv
  obtain ⟨rfl, hsz, hP, hK, hD0, hN⟩ := hv
  have hts := atoms_spec (ws := wsX6_leastDenominator) B.pre
  have hown : s.vm.findClass RX6 = some m.cls := findClass_of_methodNamed B.named
  subst hsz
  have hD := hD0.self (sz := s.heap.size)
  generalize hAe : va_A (wC ad cy ss ds ti co oma obr obj obo obm plo pch pbe pbl dnu dde dbo dln dld tba tal tro tsc tcl rma) s.heap.size = A at hD ⊢
  have hA : ∀ q : Nat, s.heap.size ≤ q → A q := fun q h => by rw [← hAe]; exact Or.inr h
  have hl := lv_entry ([.ref (ad 0)]) (n := 1) (Nat.le_of_ble_eq_true rfl)
  rw [lg_entry_eq]
  generalize (lg_sl ([.ref (ad 0)]) ++ List.replicate (1 - (lg_sl ([.ref (ad 0)])).length) Slot.unset).toArray = ls at hl ⊢
  have hl : lv_has ls 1 [(0, .ref (ad 0))] := hl
  exact k_X6_leastDenominator_0 ⟨B.exec, B.bytes, hml, B.returns, hown, hts, B.notSynchronized, hK, hA, hN⟩ ds dnu dde dbo dln dld tba tal tro tsc tcl rma s.heap [] ls hm ⟨hP, hD, va_S.rf⟩ (lv_sub hl [0] rfl) (fun r ds dnu dde dbo dln dld tba tal tro tsc tcl rma H locs ls pc hdg hSt hq => W.iret B.exec B.bytes B.returns (fun t ht hW => ⟨⟨r, (ds, dnu, dde, dbo, dln, dld, tba, tal, tro, tsc, tcl, rma), rfl, hq, cPost_of hAe ht hW.alike hSt hK⟩, hSt.2.2.F ht⟩) hSt.2.2.2.2 hdg B.notSynchronized)

-- ===== X6_roundedLength
theorem fl_X6_roundedLength_12 : Cond.fieldLink RX6 12 "UnlikeUnion" "list" "LUnlikeUnion$Jobs;" ∈ wsX6_roundedLength := by decide +kernel
theorem fl_X6_roundedLength_40 : Cond.fieldLink RX6 40 "UnlikeUnion" "rounding" "LUnlikeUnion$Rounding;" ∈ wsX6_roundedLength := by decide +kernel
theorem in_X6_roundedLength_X4 : ∀ w ∈ u_ws RX4 TX4 1, w ∈ wsX6_roundedLength := by decide +kernel
theorem in_X6_roundedLength_X6 : ∀ w ∈ u_ws RX6 TX6 7, w ∈ wsX6_roundedLength := by decide +kernel
abbrev rmX6_roundedLength : Room := { frames := 43, cells := 0, slots := 0, locals := 4249 }
def p_X6_roundedLength (N : Nat) (ti : Nat → Int32) (co : Int32) (Q : Int32 → Int32 → (Nat → Int32) → (Nat → Int32) → Int32 → Int32 → Int32 → (Nat → Int32) → (Nat → Int32) → Int32 → Int64 → (Nat → Nat → Int64) → (Nat → Int32) → Prop) (ds : Int32) (dnu : Nat → Int32) (dde : Nat → Int32) (dbo : Int32) (dln : Int32) (dld : Int32) (tba : Nat → Int32) (tal : Nat → Int32) (tro : Int32) (tsc : Int64) (tcl : Nat → Nat → Int64) (rma : Nat → Int32) : Prop :=
  p_X6_refreshDivision N ti co (fun ds_1 dnu_2 dde_3 dbo_4 dln_5 dld_6 tba_7 tal_8 tro_9 tsc_10 tcl_11 rma_12 => p_X1_greatestLoad N rma_12 ti co (fun r_13 => Q r_13 ds_1 dnu_2 dde_3 dbo_4 dln_5 dld_6 tba_7 tal_8 tro_9 tsc_10 tcl_11 rma_12) ) ds dnu dde dbo dln dld tba tal tro tsc tcl rma

set_option maxHeartbeats 4000000 in
set_option maxRecDepth 100000 in
theorem k_X6_roundedLength_0 {N : Nat} {ss : Int32} {ti : Nat → Int32} {co : Int32} {oma : Nat → Int32} {obr : Int32} {obj : Int32} {obo : Int32} {obm : Int32} {plo : Nat → Int32} {pch : Nat → Int32} {pbe : Nat → Int32} {pbl : Int32} {Q : Int32 → Int32 → (Nat → Int32) → (Nat → Int32) → Int32 → Int32 → Int32 → (Nat → Int32) → (Nat → Int32) → Int32 → Int64 → (Nat → Nat → Int64) → (Nat → Int32) → Prop} (C0 : cxM cX6_roundedLength 1 (some .int) RX6 wsX6_roundedLength p s m args meth c dC dI cy A) :
    ∀ (ds : Int32) (dnu : Nat → Int32) (dde : Nat → Int32) (dbo : Int32) (dln : Int32) (dld : Int32) (tba : Nat → Int32) (tal : Nat → Int32) (tro : Int32) (tsc : Int64) (tcl : Nat → Nat → Int64) (rma : Nat → Int32) (H : Heap) (locs : List Loc) (ls : Array Slot) (hm : p_X6_roundedLength N ti co Q ds dnu dde dbo dln dld tba tal tro tsc tcl rma) (hSt : stC dC dI A s (wC ad cy ss ds ti co oma obr obj obo obm plo pch pbe pbl dnu dde dbo dln dld tba tal tro tsc tcl rma) H locs) (hl : lv_has ls 1 [(0, .ref (ad 0))]) (hret : ∀ (r : Int32) (ds : Int32) (dnu : Nat → Int32) (dde : Nat → Int32) (dbo : Int32) (dln : Int32) (dld : Int32) (tba : Nat → Int32) (tal : Nat → Int32) (tro : Int32) (tsc : Int64) (tcl : Nat → Nat → Int64) (rma : Nat → Int32) (H : Heap) (locs : List Loc) (ls : Array Slot) (pc : Nat), decode cX6_roundedLength pc = .ok (.ireturn, 1) → stC dC dI A s (wC ad cy ss ds ti co oma obr obj obo obm plo pch pbe pbl dnu dde dbo dln dld tba tal tro tsc tcl rma) H locs → Q r ds dnu dde dbo dln dld tba tal tro tsc tcl rma → W p l e rmX6_roundedLength s m args below meth c H locs 0 0 Z (F0 m pc ls [.int r])), W p l e rmX6_roundedLength s m args below meth c H locs 0 0 Z (F0 m 0 ls []) := by
  obtain ⟨hx, hb, hml, hr, hown, hts, hlocks, hK, hA, hN⟩ := id C0
  intro ds dnu dde dbo dln dld tba tal tro tsc tcl rma H locs ls hm hSt hl hret
  obtain ⟨hP, hD, hS⟩ := hSt
  unfold p_X6_roundedLength at hm
  refine lv_aload_n hx hb dX6_roundedLength_0 rfl (lv_at hl 0 rfl) ?_
  have hFc := va_freeSame hD hS hA
  refine va_callv (va_runV (As := []) (rest := []) ⟨hx, hb, hml, hown, hts⟩ (c_X6_refreshDivision l dC dI cy ad H.size ss ds ti co oma obr obj obo obm plo pch pbe pbl dnu dde dbo dln dld tba tal tro tsc tcl rma  _ _ hm) (cwV 0 hts gX6_roundedLength_X6_refreshDivision rfl rfl rfl (by decide +kernel) ⟨Nat.le_of_ble_eq_true rfl, Nat.le_of_ble_eq_true rfl⟩) ⟨cPre_blind, va_recv hK hP (ci := 6) (q0 := 0) rfl rfl, fun U hU hW => ⟨rfl, cPre_at hP hK hD hN hU hW⟩⟩ rfl rfl hl.1 rfl (lv_room (Nat.le_of_ble_eq_true rfl)) dX6_roundedLength_1 ⟨Nat.zero_le _, Nat.zero_le _⟩) hS (fun q _ h => hFc q h) hFc (fun u t H locs ht hvm hw hB hz1 hk1 hS => ?_)
  obtain ⟨ds_1, dnu_2, dde_3, dbo_4, dln_5, dld_6, tba_7, tal_8, tro_9, tsc_10, tcl_11, rma_12⟩ := u
  try dsimp only at hw
  have hm := hw
  have hP : va_P (dC, dI) vwCl (wC ad cy ss ds_1 ti co oma obr obj obo obm plo pch pbe pbl dnu_2 dde_3 dbo_4 dln_5 dld_6 tba_7 tal_8 tro_9 tsc_10 tcl_11 rma_12) H := cPost_P ht hB
  have hD : va_D A (wC ad cy ss ds_1 ti co oma obr obj obo obm plo pch pbe pbl dnu_2 dde_3 dbo_4 dln_5 dld_6 tba_7 tal_8 tro_9 tsc_10 tcl_11 rma_12) := cPost_D hFc hB
  refine lv_aload_n hx hb dX6_roundedLength_4 rfl (lv_at hl 0 rfl) ?_
  refine va_get (D := (dC, dI)) (ci := 6) (v := .ref (ad 1)) (C := RX6) (T := TX6) (N := 7) hx hb hts in_X6_roundedLength_X6 hown hK hP 0 rfl rfl 0 (by decide) (hts _ fl_X6_roundedLength_12) (fun _ h9 => h9) rfl dX6_roundedLength_5 ?_
  refine lv_aload_n hx hb dX6_roundedLength_8 rfl (lv_at hl 0 rfl) ?_
  refine va_get (D := (dC, dI)) (ci := 6) (v := .ref (ad 16)) (C := RX6) (T := TX6) (N := 7) hx hb hts in_X6_roundedLength_X6 hown hK hP 0 rfl rfl 4 (by decide) (hts _ fl_X6_roundedLength_40) (fun _ h9 => h9) rfl dX6_roundedLength_9 ?_
  refine va_getN (D := (dC, dI)) (ci := 4) (v := .ref (ad 17)) (C := RX4) (T := TX4) (N := 1) hx hb hts in_X6_roundedLength_X4 hown hK hP 16 rfl rfl 0 (by decide) (va_Nw.use rfl (nw_X6_126 hN)) (fun _ h9 => h9) rfl dX6_roundedLength_12 ?_
  have hFc := va_freeSame hD hS hA
  refine va_calli (va_runV (As := [.ref (ad 17)]) (rest := []) ⟨hx, hb, hml, hown, hts⟩ (c_X1_greatestLoad_r l dC dI cy ad H.size ss ds_1 ti co oma obr obj obo obm plo pch pbe pbl dnu_2 dde_3 dbo_4 dln_5 dld_6 tba_7 tal_8 tro_9 tsc_10 tcl_11 rma_12  _ _ hm) (cwV 1 hts gX6_roundedLength_X1_greatestLoad rfl rfl rfl (by decide +kernel) ⟨Nat.le_of_ble_eq_true rfl, Nat.le_of_ble_eq_true rfl⟩) ⟨cPre_blind, va_recv hK hP (ci := 1) (q0 := 1) rfl rfl, fun U hU hW => ⟨rfl, cPre_at hP hK hD hN hU hW⟩⟩ rfl rfl hl.1 rfl (lv_room (Nat.le_of_ble_eq_true rfl)) dX6_roundedLength_15 ⟨Nat.zero_le _, Nat.zero_le _⟩) hS (fun q _ h => hFc q h) hFc (fun r_13 u t H locs ht hvm hw hB hz1 hk1 hS => ?_)
  try dsimp only at hw
  have hm := hw
  have hP : va_P (dC, dI) vwCl (wC ad cy ss ds_1 ti co oma obr obj obo obm plo pch pbe pbl dnu_2 dde_3 dbo_4 dln_5 dld_6 tba_7 tal_8 tro_9 tsc_10 tcl_11 rma_12) H := cPost_P ht hB
  have hD : va_D A (wC ad cy ss ds_1 ti co oma obr obj obo obm plo pch pbe pbl dnu_2 dde_3 dbo_4 dln_5 dld_6 tba_7 tal_8 tro_9 tsc_10 tcl_11 rma_12) := cPost_D hFc hB
  exact hret r_13 ds_1 dnu_2 dde_3 dbo_4 dln_5 dld_6 tba_7 tal_8 tro_9 tsc_10 tcl_11 rma_12 H locs ls 18 dX6_roundedLength_18 ⟨hP, hD, hS⟩ hm

set_option maxHeartbeats 4000000 in
set_option maxRecDepth 100000 in
theorem c_X6_roundedLength (l : Launch) (dC : Nat → ClassId) (dI : Nat → Nat → Nat) (cy : Nat → ClassId) (ad : Nat → Nat) (sz : Nat) (ss : Int32) (ds : Int32) (ti : Nat → Int32) (co : Int32) (oma : Nat → Int32) (obr : Int32) (obj : Int32) (obo : Int32) (obm : Int32) (plo : Nat → Int32) (pch : Nat → Int32) (pbe : Nat → Int32) (pbl : Int32) (dnu : Nat → Int32) (dde : Nat → Int32) (dbo : Int32) (dln : Int32) (dld : Int32) (tba : Nat → Int32) (tal : Nat → Int32) (tro : Int32) (tsc : Int64) (tcl : Nat → Nat → Int64) (rma : Nat → Int32)  (N : Nat) (Q : Int32 → Int32 → (Nat → Int32) → (Nat → Int32) → Int32 → Int32 → Int32 → (Nat → Int32) → (Nat → Int32) → Int32 → Int64 → (Nat → Nat → Int64) → (Nat → Int32) → Prop) (hm : p_X6_roundedLength N ti co Q ds dnu dde dbo dln dld tba tal tro tsc tcl rma) : Met l yX6_roundedLength wsX6_roundedLength rmX6_roundedLength (va_Pc [.ref (ad 0)] (cPre dC dI cy (wC ad cy ss ds ti co oma obr obj obo obm plo pch pbe pbl dnu dde dbo dln dld tba tal tro tsc tcl rma) sz)) (va_Qi (fun (r : Int32) (u : Int32 × (Nat → Int32) × (Nat → Int32) × Int32 × Int32 × Int32 × (Nat → Int32) × (Nat → Int32) × Int32 × Int64 × (Nat → Nat → Int64) × (Nat → Int32)) => Q r u.1 u.2.1 u.2.2.1 u.2.2.2.1 u.2.2.2.2.1 u.2.2.2.2.2.1 u.2.2.2.2.2.2.1 u.2.2.2.2.2.2.2.1 u.2.2.2.2.2.2.2.2.1 u.2.2.2.2.2.2.2.2.2.1 u.2.2.2.2.2.2.2.2.2.2.1 u.2.2.2.2.2.2.2.2.2.2.2) (fun u t => cPost dC dI cy (wC ad cy ss ds ti co oma obr obj obo obm plo pch pbe pbl dnu dde dbo dln dld tba tal tro tsc tcl rma) sz (wC ad cy ss (u.1) ti co oma obr obj obo obm plo pch pbe pbl (u.2.1) (u.2.2.1) (u.2.2.2.1) (u.2.2.2.2.1) (u.2.2.2.2.2.1) (u.2.2.2.2.2.2.1) (u.2.2.2.2.2.2.2.1) (u.2.2.2.2.2.2.2.2.1) (u.2.2.2.2.2.2.2.2.2.1) (u.2.2.2.2.2.2.2.2.2.2.1) (u.2.2.2.2.2.2.2.2.2.2.2)) t) (va_A (wC ad cy ss ds ti co oma obr obj obo obm plo pch pbe pbl dnu dde dbo dln dld tba tal tro tsc tcl rma) sz)) 0 0 (va_A (wC ad cy ss ds ti co oma obr obj obo obm plo pch pbe pbl dnu dde dbo dln dld tba tal tro tsc tcl rma) sz) := by
  refine Met.ofW (cc := cX6_roundedLength) (maxL := 1) (ret := (some .int)) (by decide) rfl ?_
  intro p e s m args below meth c s₁ B hml hv
  obtain ⟨rfl, hsz, hP, hK, hD0, hN⟩ := hv
  have hts := atoms_spec (ws := wsX6_roundedLength) B.pre
  have hown : s.vm.findClass RX6 = some m.cls := findClass_of_methodNamed B.named
  subst hsz
  have hD := hD0.self (sz := s.heap.size)
  generalize hAe : va_A (wC ad cy ss ds ti co oma obr obj obo obm plo pch pbe pbl dnu dde dbo dln dld tba tal tro tsc tcl rma) s.heap.size = A at hD ⊢
  have hA : ∀ q : Nat, s.heap.size ≤ q → A q := fun q h => by rw [← hAe]; exact Or.inr h
  have hl := lv_entry ([.ref (ad 0)]) (n := 1) (Nat.le_of_ble_eq_true rfl)
  rw [lg_entry_eq]
  generalize (lg_sl ([.ref (ad 0)]) ++ List.replicate (1 - (lg_sl ([.ref (ad 0)])).length) Slot.unset).toArray = ls at hl ⊢
  have hl : lv_has ls 1 [(0, .ref (ad 0))] := hl
  exact k_X6_roundedLength_0 ⟨B.exec, B.bytes, hml, B.returns, hown, hts, B.notSynchronized, hK, hA, hN⟩ ds dnu dde dbo dln dld tba tal tro tsc tcl rma s.heap [] ls hm ⟨hP, hD, va_S.rf⟩ (lv_sub hl [0] rfl) (fun r ds dnu dde dbo dln dld tba tal tro tsc tcl rma H locs ls pc hdg hSt hq => W.iret B.exec B.bytes B.returns (fun t ht hW => ⟨⟨r, (ds, dnu, dde, dbo, dln, dld, tba, tal, tro, tsc, tcl, rma), rfl, hq, cPost_of hAe ht hW.alike hSt hK⟩, hSt.2.2.F ht⟩) hSt.2.2.2.2 hdg B.notSynchronized)

-- ===== X6_length
theorem fl_X6_length_12 : Cond.fieldLink RX6 12 "UnlikeUnion" "list" "LUnlikeUnion$Jobs;" ∈ wsX6_length := by decide +kernel
theorem fl_X6_length_19 : Cond.fieldLink RX6 19 "UnlikeUnion" "own" "LUnlikeUnion$OwnPlan;" ∈ wsX6_length := by decide +kernel
theorem in_X6_length_X2 : ∀ w ∈ u_ws RX2 TX2 5, w ∈ wsX6_length := by decide +kernel
theorem in_X6_length_X6 : ∀ w ∈ u_ws RX6 TX6 7, w ∈ wsX6_length := by decide +kernel
abbrev rmX6_length : Room := { frames := 4, cells := 0, slots := 0, locals := 310 }
def p_X6_length (N : Nat) (ti : Nat → Int32) (co : Int32) (oma : Nat → Int32) (Q : Int32 → Prop)  : Prop :=
  p_X1_greatestLoad N oma ti co (fun r_1 => Q r_1) 

set_option maxHeartbeats 4000000 in
set_option maxRecDepth 100000 in
theorem k_X6_length_0 {N : Nat} {ss : Int32} {ds : Int32} {ti : Nat → Int32} {co : Int32} {oma : Nat → Int32} {obr : Int32} {obj : Int32} {obo : Int32} {obm : Int32} {plo : Nat → Int32} {pch : Nat → Int32} {pbe : Nat → Int32} {pbl : Int32} {dnu : Nat → Int32} {dde : Nat → Int32} {dbo : Int32} {dln : Int32} {dld : Int32} {tba : Nat → Int32} {tal : Nat → Int32} {tro : Int32} {tsc : Int64} {tcl : Nat → Nat → Int64} {rma : Nat → Int32} {Q : Int32 → Prop} (C0 : cxM cX6_length 1 (some .int) RX6 wsX6_length p s m args meth c dC dI cy A) :
    ∀  (H : Heap) (locs : List Loc) (ls : Array Slot) (hm : p_X6_length N ti co oma Q ) (hSt : stC dC dI A s (wC ad cy ss ds ti co oma obr obj obo obm plo pch pbe pbl dnu dde dbo dln dld tba tal tro tsc tcl rma) H locs) (hl : lv_has ls 1 [(0, .ref (ad 0))]) (hret : ∀ (r : Int32) (H : Heap) (locs : List Loc) (ls : Array Slot) (pc : Nat), decode cX6_length pc = .ok (.ireturn, 1) → stC dC dI A s (wC ad cy ss ds ti co oma obr obj obo obm plo pch pbe pbl dnu dde dbo dln dld tba tal tro tsc tcl rma) H locs → Q r → W p l e rmX6_length s m args below meth c H locs 0 0 Z (F0 m pc ls [.int r])), W p l e rmX6_length s m args below meth c H locs 0 0 Z (F0 m 0 ls []) := by
  obtain ⟨hx, hb, hml, hr, hown, hts, hlocks, hK, hA, hN⟩ := id C0
  intro  H locs ls hm hSt hl hret
  obtain ⟨hP, hD, hS⟩ := hSt
  unfold p_X6_length at hm
  refine lv_aload_n hx hb dX6_length_0 rfl (lv_at hl 0 rfl) ?_
  refine va_get (D := (dC, dI)) (ci := 6) (v := .ref (ad 1)) (C := RX6) (T := TX6) (N := 7) hx hb hts in_X6_length_X6 hown hK hP 0 rfl rfl 0 (by decide) (hts _ fl_X6_length_12) (fun _ h9 => h9) rfl dX6_length_1 ?_
  refine lv_aload_n hx hb dX6_length_4 rfl (lv_at hl 0 rfl) ?_
  refine va_get (D := (dC, dI)) (ci := 6) (v := .ref (ad 3)) (C := RX6) (T := TX6) (N := 7) hx hb hts in_X6_length_X6 hown hK hP 0 rfl rfl 1 (by decide) (hts _ fl_X6_length_19) (fun _ h9 => h9) rfl dX6_length_5 ?_
  refine va_getN (D := (dC, dI)) (ci := 2) (v := .ref (ad 4)) (C := RX2) (T := TX2) (N := 5) hx hb hts in_X6_length_X2 hown hK hP 3 rfl rfl 0 (by decide) (va_Nw.use rfl (nw_X6_70 hN)) (fun _ h9 => h9) rfl dX6_length_8 ?_
  have hFc := va_freeSame hD hS hA
  refine va_calli (va_runV (As := [.ref (ad 4)]) (rest := []) ⟨hx, hb, hml, hown, hts⟩ (c_X1_greatestLoad_o l dC dI cy ad H.size ss ds ti co oma obr obj obo obm plo pch pbe pbl dnu dde dbo dln dld tba tal tro tsc tcl rma  _ _ hm) (cwV 1 hts gX6_length_X1_greatestLoad rfl rfl rfl (by decide +kernel) ⟨Nat.le_of_ble_eq_true rfl, Nat.le_of_ble_eq_true rfl⟩) ⟨cPre_blind, va_recv hK hP (ci := 1) (q0 := 1) rfl rfl, fun U hU hW => ⟨rfl, cPre_at hP hK hD hN hU hW⟩⟩ rfl rfl hl.1 rfl (lv_room (Nat.le_of_ble_eq_true rfl)) dX6_length_11 ⟨Nat.zero_le _, Nat.zero_le _⟩) hS (fun q _ h => hFc q h) hFc (fun r_1 u t H locs ht hvm hw hB hz1 hk1 hS => ?_)
  try dsimp only at hw
  have hm := hw
  have hP : va_P (dC, dI) vwCl (wC ad cy ss ds ti co oma obr obj obo obm plo pch pbe pbl dnu dde dbo dln dld tba tal tro tsc tcl rma) H := cPost_P ht hB
  have hD : va_D A (wC ad cy ss ds ti co oma obr obj obo obm plo pch pbe pbl dnu dde dbo dln dld tba tal tro tsc tcl rma) := cPost_D hFc hB
  exact hret r_1 H locs ls 14 dX6_length_14 ⟨hP, hD, hS⟩ hm

set_option maxHeartbeats 4000000 in
set_option maxRecDepth 100000 in
theorem c_X6_length (l : Launch) (dC : Nat → ClassId) (dI : Nat → Nat → Nat) (cy : Nat → ClassId) (ad : Nat → Nat) (sz : Nat) (ss : Int32) (ds : Int32) (ti : Nat → Int32) (co : Int32) (oma : Nat → Int32) (obr : Int32) (obj : Int32) (obo : Int32) (obm : Int32) (plo : Nat → Int32) (pch : Nat → Int32) (pbe : Nat → Int32) (pbl : Int32) (dnu : Nat → Int32) (dde : Nat → Int32) (dbo : Int32) (dln : Int32) (dld : Int32) (tba : Nat → Int32) (tal : Nat → Int32) (tro : Int32) (tsc : Int64) (tcl : Nat → Nat → Int64) (rma : Nat → Int32)  (N : Nat) (Q : Int32 → Prop) (hm : p_X6_length N ti co oma Q ) : Met l yX6_length wsX6_length rmX6_length (va_Pc [.ref (ad 0)] (cPre dC dI cy (wC ad cy ss ds ti co oma obr obj obo obm plo pch pbe pbl dnu dde dbo dln dld tba tal tro tsc tcl rma) sz)) (va_Qi (fun (r : Int32) (u : Unit) => Q r) (fun u t => cPost dC dI cy (wC ad cy ss ds ti co oma obr obj obo obm plo pch pbe pbl dnu dde dbo dln dld tba tal tro tsc tcl rma) sz (wC ad cy ss ds ti co oma obr obj obo obm plo pch pbe pbl dnu dde dbo dln dld tba tal tro tsc tcl rma) t) (va_A (wC ad cy ss ds ti co oma obr obj obo obm plo pch pbe pbl dnu dde dbo dln dld tba tal tro tsc tcl rma) sz)) 0 0 (va_A (wC ad cy ss ds ti co oma obr obj obo obm plo pch pbe pbl dnu dde dbo dln dld tba tal tro tsc tcl rma) sz) := by
  refine Met.ofW (cc := cX6_length) (maxL := 1) (ret := (some .int)) (by decide) rfl ?_
  intro p e s m args below meth c s₁ B hml hv
  obtain ⟨rfl, hsz, hP, hK, hD0, hN⟩ := hv
  have hts := atoms_spec (ws := wsX6_length) B.pre
  have hown : s.vm.findClass RX6 = some m.cls := findClass_of_methodNamed B.named
  subst hsz
  have hD := hD0.self (sz := s.heap.size)
  generalize hAe : va_A (wC ad cy ss ds ti co oma obr obj obo obm plo pch pbe pbl dnu dde dbo dln dld tba tal tro tsc tcl rma) s.heap.size = A at hD ⊢
  have hA : ∀ q : Nat, s.heap.size ≤ q → A q := fun q h => by rw [← hAe]; exact Or.inr h
  have hl := lv_entry ([.ref (ad 0)]) (n := 1) (Nat.le_of_ble_eq_true rfl)
  rw [lg_entry_eq]
  generalize (lg_sl ([.ref (ad 0)]) ++ List.replicate (1 - (lg_sl ([.ref (ad 0)])).length) Slot.unset).toArray = ls at hl ⊢
  have hl : lv_has ls 1 [(0, .ref (ad 0))] := hl
  exact k_X6_length_0 ⟨B.exec, B.bytes, hml, B.returns, hown, hts, B.notSynchronized, hK, hA, hN⟩  s.heap [] ls hm ⟨hP, hD, va_S.rf⟩ (lv_sub hl [0] rfl) (fun r H locs ls pc hdg hSt hq => W.iret B.exec B.bytes B.returns (fun t ht hW => ⟨⟨r, (), rfl, hq, cPost_of hAe ht hW.alike hSt hK⟩, hSt.2.2.F ht⟩) hSt.2.2.2.2 hdg B.notSynchronized)

-- ===== X6_improve
theorem fl_X6_improve_19 : Cond.fieldLink RX6 19 "UnlikeUnion" "own" "LUnlikeUnion$OwnPlan;" ∈ wsX6_improve := by decide +kernel
theorem fl_X6_improve_12 : Cond.fieldLink RX6 12 "UnlikeUnion" "list" "LUnlikeUnion$Jobs;" ∈ wsX6_improve := by decide +kernel
theorem in_X6_improve_X2 : ∀ w ∈ u_ws RX2 TX2 5, w ∈ wsX6_improve := by decide +kernel
theorem in_X6_improve_X6 : ∀ w ∈ u_ws RX6 TX6 7, w ∈ wsX6_improve := by decide +kernel
abbrev rmX6_improve : Room := { frames := 6, cells := 0, slots := 0, locals := 483 }
def p_X6_improve (N : Nat) (ti : Nat → Int32) (co : Int32) (Q : Int32 → (Nat → Int32) → Int32 → Int32 → Int32 → Int32 → Prop) (oma : Nat → Int32) (obr : Int32) (obj : Int32) (obo : Int32) (obm : Int32) : Prop :=
  p_X2_makeBestChange N ti co (fun r_1 oma_2 obr_3 obj_4 obo_5 obm_6 => (r_1 = 0 → (Q (-1 : Int32) oma_2 obr_3 obj_4 obo_5 obm_6)) ∧ (¬ r_1 = 0 → (p_X1_greatestLoad N oma_2 ti co (fun r_8 => Q r_8 oma_2 obr_3 obj_4 obo_5 obm_6) ))) oma obr obj obo obm

set_option maxHeartbeats 4000000 in
set_option maxRecDepth 100000 in
theorem k_X6_improve_0 {N : Nat} {ss : Int32} {ds : Int32} {ti : Nat → Int32} {co : Int32} {plo : Nat → Int32} {pch : Nat → Int32} {pbe : Nat → Int32} {pbl : Int32} {dnu : Nat → Int32} {dde : Nat → Int32} {dbo : Int32} {dln : Int32} {dld : Int32} {tba : Nat → Int32} {tal : Nat → Int32} {tro : Int32} {tsc : Int64} {tcl : Nat → Nat → Int64} {rma : Nat → Int32} {Q : Int32 → (Nat → Int32) → Int32 → Int32 → Int32 → Int32 → Prop} (C0 : cxM cX6_improve 1 (some .int) RX6 wsX6_improve p s m args meth c dC dI cy A) :
    ∀ (oma : Nat → Int32) (obr : Int32) (obj : Int32) (obo : Int32) (obm : Int32) (H : Heap) (locs : List Loc) (ls : Array Slot) (hm : p_X6_improve N ti co Q oma obr obj obo obm) (hSt : stC dC dI A s (wC ad cy ss ds ti co oma obr obj obo obm plo pch pbe pbl dnu dde dbo dln dld tba tal tro tsc tcl rma) H locs) (hl : lv_has ls 1 [(0, .ref (ad 0))]) (hret : ∀ (r : Int32) (oma : Nat → Int32) (obr : Int32) (obj : Int32) (obo : Int32) (obm : Int32) (H : Heap) (locs : List Loc) (ls : Array Slot) (pc : Nat), decode cX6_improve pc = .ok (.ireturn, 1) → stC dC dI A s (wC ad cy ss ds ti co oma obr obj obo obm plo pch pbe pbl dnu dde dbo dln dld tba tal tro tsc tcl rma) H locs → Q r oma obr obj obo obm → W p l e rmX6_improve s m args below meth c H locs 0 0 Z (F0 m pc ls [.int r])), W p l e rmX6_improve s m args below meth c H locs 0 0 Z (F0 m 0 ls []) := by
  obtain ⟨hx, hb, hml, hr, hown, hts, hlocks, hK, hA, hN⟩ := id C0
  intro oma obr obj obo obm H locs ls hm hSt hl hret
  obtain ⟨hP, hD, hS⟩ := hSt
  unfold p_X6_improve at hm
  refine lv_aload_n hx hb dX6_improve_0 rfl (lv_at hl 0 rfl) ?_
  refine va_get (D := (dC, dI)) (ci := 6) (v := .ref (ad 3)) (C := RX6) (T := TX6) (N := 7) hx hb hts in_X6_improve_X6 hown hK hP 0 rfl rfl 1 (by decide) (hts _ fl_X6_improve_19) (fun _ h9 => h9) rfl dX6_improve_1 ?_
  refine lv_aload_n hx hb dX6_improve_4 rfl (lv_at hl 0 rfl) ?_
  refine va_get (D := (dC, dI)) (ci := 6) (v := .ref (ad 1)) (C := RX6) (T := TX6) (N := 7) hx hb hts in_X6_improve_X6 hown hK hP 0 rfl rfl 0 (by decide) (hts _ fl_X6_improve_12) (fun _ h9 => h9) rfl dX6_improve_5 ?_
  have hFc := va_freeSame hD hS hA
  refine va_calli (va_runV (As := [.ref (ad 1)]) (rest := []) ⟨hx, hb, hml, hown, hts⟩ (c_X2_makeBestChange l dC dI cy ad H.size ss ds ti co oma obr obj obo obm plo pch pbe pbl dnu dde dbo dln dld tba tal tro tsc tcl rma  _ _ hm) (cwV 1 hts gX6_improve_X2_makeBestChange rfl rfl rfl (by decide +kernel) ⟨Nat.le_of_ble_eq_true rfl, Nat.le_of_ble_eq_true rfl⟩) ⟨cPre_blind, va_recv hK hP (ci := 2) (q0 := 3) rfl rfl, fun U hU hW => ⟨rfl, cPre_at hP hK hD hN hU hW⟩⟩ rfl rfl hl.1 rfl (lv_room (Nat.le_of_ble_eq_true rfl)) dX6_improve_8 ⟨Nat.zero_le _, Nat.zero_le _⟩) hS (fun q _ h => hFc q h) hFc (fun r_1 u t H locs ht hvm hw hB hz1 hk1 hS => ?_)
  obtain ⟨oma_2, obr_3, obj_4, obo_5, obm_6⟩ := u
  try dsimp only at hw
  obtain ⟨hm, nar_r_1⟩ := hw
  have hP : va_P (dC, dI) vwCl (wC ad cy ss ds ti co oma_2 obr_3 obj_4 obo_5 obm_6 plo pch pbe pbl dnu dde dbo dln dld tba tal tro tsc tcl rma) H := cPost_P ht hB
  have hD : va_D A (wC ad cy ss ds ti co oma_2 obr_3 obj_4 obo_5 obm_6 plo pch pbe pbl dnu dde dbo dln dld tba tal tro tsc tcl rma) := cPost_D hFc hB
  refine lv_if_eq (tgt := 31) hx hb dX6_improve_11 (by decide) (fun c_7 => ?_) (fun c_7 => ?_)
  · have hm := hm.1 c_7
    refine lv_iconst (v := -1) hx hb dX6_improve_31 (by decide) ?_
    exact hret (-1 : Int32) oma_2 obr_3 obj_4 obo_5 obm_6 H locs ls 32 dX6_improve_32 ⟨hP, hD, hS⟩ hm
  · have hm := hm.2 c_7
    refine lv_aload_n hx hb dX6_improve_14 rfl (lv_at hl 0 rfl) ?_
    refine va_get (D := (dC, dI)) (ci := 6) (v := .ref (ad 1)) (C := RX6) (T := TX6) (N := 7) hx hb hts in_X6_improve_X6 hown hK hP 0 rfl rfl 0 (by decide) (hts _ fl_X6_improve_12) (fun _ h9 => h9) rfl dX6_improve_15 ?_
    refine lv_aload_n hx hb dX6_improve_18 rfl (lv_at hl 0 rfl) ?_
    refine va_get (D := (dC, dI)) (ci := 6) (v := .ref (ad 3)) (C := RX6) (T := TX6) (N := 7) hx hb hts in_X6_improve_X6 hown hK hP 0 rfl rfl 1 (by decide) (hts _ fl_X6_improve_19) (fun _ h9 => h9) rfl dX6_improve_19 ?_
    refine va_getN (D := (dC, dI)) (ci := 2) (v := .ref (ad 4)) (C := RX2) (T := TX2) (N := 5) hx hb hts in_X6_improve_X2 hown hK hP 3 rfl rfl 0 (by decide) (va_Nw.use rfl (nw_X6_70 hN)) (fun _ h9 => h9) rfl dX6_improve_22 ?_
    have hFc := va_freeSame hD hS hA
    refine va_calli (va_runV (As := [.ref (ad 4)]) (rest := []) ⟨hx, hb, hml, hown, hts⟩ (c_X1_greatestLoad_o l dC dI cy ad H.size ss ds ti co oma_2 obr_3 obj_4 obo_5 obm_6 plo pch pbe pbl dnu dde dbo dln dld tba tal tro tsc tcl rma  _ _ hm) (cwV 1 hts gX6_improve_X1_greatestLoad rfl rfl rfl (by decide +kernel) ⟨Nat.le_of_ble_eq_true rfl, Nat.le_of_ble_eq_true rfl⟩) ⟨cPre_blind, va_recv hK hP (ci := 1) (q0 := 1) rfl rfl, fun U hU hW => ⟨rfl, cPre_at hP hK hD hN hU hW⟩⟩ rfl rfl hl.1 rfl (lv_room (Nat.le_of_ble_eq_true rfl)) dX6_improve_25 ⟨Nat.zero_le _, Nat.zero_le _⟩) hS (fun q _ h => hFc q h) hFc (fun r_8 u t H locs ht hvm hw hB hz1 hk1 hS => ?_)
    try dsimp only at hw
    have hm := hw
    have hP : va_P (dC, dI) vwCl (wC ad cy ss ds ti co oma_2 obr_3 obj_4 obo_5 obm_6 plo pch pbe pbl dnu dde dbo dln dld tba tal tro tsc tcl rma) H := cPost_P ht hB
    have hD : va_D A (wC ad cy ss ds ti co oma_2 obr_3 obj_4 obo_5 obm_6 plo pch pbe pbl dnu dde dbo dln dld tba tal tro tsc tcl rma) := cPost_D hFc hB
    refine lv_goto (tgt := 32) hx hb dX6_improve_28 (by decide) ?_
    exact hret r_8 oma_2 obr_3 obj_4 obo_5 obm_6 H locs ls 32 dX6_improve_32 ⟨hP, hD, hS⟩ hm

set_option maxHeartbeats 4000000 in
set_option maxRecDepth 100000 in
theorem c_X6_improve (l : Launch) (dC : Nat → ClassId) (dI : Nat → Nat → Nat) (cy : Nat → ClassId) (ad : Nat → Nat) (sz : Nat) (ss : Int32) (ds : Int32) (ti : Nat → Int32) (co : Int32) (oma : Nat → Int32) (obr : Int32) (obj : Int32) (obo : Int32) (obm : Int32) (plo : Nat → Int32) (pch : Nat → Int32) (pbe : Nat → Int32) (pbl : Int32) (dnu : Nat → Int32) (dde : Nat → Int32) (dbo : Int32) (dln : Int32) (dld : Int32) (tba : Nat → Int32) (tal : Nat → Int32) (tro : Int32) (tsc : Int64) (tcl : Nat → Nat → Int64) (rma : Nat → Int32)  (N : Nat) (Q : Int32 → (Nat → Int32) → Int32 → Int32 → Int32 → Int32 → Prop) (hm : p_X6_improve N ti co Q oma obr obj obo obm) : Met l yX6_improve wsX6_improve rmX6_improve (va_Pc [.ref (ad 0)] (cPre dC dI cy (wC ad cy ss ds ti co oma obr obj obo obm plo pch pbe pbl dnu dde dbo dln dld tba tal tro tsc tcl rma) sz)) (va_Qi (fun (r : Int32) (u : (Nat → Int32) × Int32 × Int32 × Int32 × Int32) => Q r u.1 u.2.1 u.2.2.1 u.2.2.2.1 u.2.2.2.2) (fun u t => cPost dC dI cy (wC ad cy ss ds ti co oma obr obj obo obm plo pch pbe pbl dnu dde dbo dln dld tba tal tro tsc tcl rma) sz (wC ad cy ss ds ti co (u.1) (u.2.1) (u.2.2.1) (u.2.2.2.1) (u.2.2.2.2) plo pch pbe pbl dnu dde dbo dln dld tba tal tro tsc tcl rma) t) (va_A (wC ad cy ss ds ti co oma obr obj obo obm plo pch pbe pbl dnu dde dbo dln dld tba tal tro tsc tcl rma) sz)) 0 0 (va_A (wC ad cy ss ds ti co oma obr obj obo obm plo pch pbe pbl dnu dde dbo dln dld tba tal tro tsc tcl rma) sz) := by
  refine Met.ofW (cc := cX6_improve) (maxL := 1) (ret := (some .int)) (by decide) rfl ?_
  intro p e s m args below meth c s₁ B hml hv
  obtain ⟨rfl, hsz, hP, hK, hD0, hN⟩ := hv
  have hts := atoms_spec (ws := wsX6_improve) B.pre
  have hown : s.vm.findClass RX6 = some m.cls := findClass_of_methodNamed B.named
  subst hsz
  have hD := hD0.self (sz := s.heap.size)
  generalize hAe : va_A (wC ad cy ss ds ti co oma obr obj obo obm plo pch pbe pbl dnu dde dbo dln dld tba tal tro tsc tcl rma) s.heap.size = A at hD ⊢
  have hA : ∀ q : Nat, s.heap.size ≤ q → A q := fun q h => by rw [← hAe]; exact Or.inr h
  have hl := lv_entry ([.ref (ad 0)]) (n := 1) (Nat.le_of_ble_eq_true rfl)
  rw [lg_entry_eq]
  generalize (lg_sl ([.ref (ad 0)]) ++ List.replicate (1 - (lg_sl ([.ref (ad 0)])).length) Slot.unset).toArray = ls at hl ⊢
  have hl : lv_has ls 1 [(0, .ref (ad 0))] := hl
  exact k_X6_improve_0 ⟨B.exec, B.bytes, hml, B.returns, hown, hts, B.notSynchronized, hK, hA, hN⟩ oma obr obj obo obm s.heap [] ls hm ⟨hP, hD, va_S.rf⟩ (lv_sub hl [0] rfl) (fun r oma obr obj obo obm H locs ls pc hdg hSt hq => W.iret B.exec B.bytes B.returns (fun t ht hW => ⟨⟨r, (oma, obr, obj, obo, obm), rfl, hq, cPost_of hAe ht hW.alike hSt hK⟩, hSt.2.2.F ht⟩) hSt.2.2.2.2 hdg B.notSynchronized)

-- ===== X6_takeRounded
theorem fl_X6_takeRounded_12 : Cond.fieldLink RX6 12 "UnlikeUnion" "list" "LUnlikeUnion$Jobs;" ∈ wsX6_takeRounded := by decide +kernel
theorem fl_X6_takeRounded_19 : Cond.fieldLink RX6 19 "UnlikeUnion" "own" "LUnlikeUnion$OwnPlan;" ∈ wsX6_takeRounded := by decide +kernel
theorem fl_X6_takeRounded_40 : Cond.fieldLink RX6 40 "UnlikeUnion" "rounding" "LUnlikeUnion$Rounding;" ∈ wsX6_takeRounded := by decide +kernel
theorem in_X6_takeRounded_X1 : ∀ w ∈ u_ws RX1 TX1 2, w ∈ wsX6_takeRounded := by decide +kernel
theorem in_X6_takeRounded_X2 : ∀ w ∈ u_ws RX2 TX2 5, w ∈ wsX6_takeRounded := by decide +kernel
theorem in_X6_takeRounded_X4 : ∀ w ∈ u_ws RX4 TX4 1, w ∈ wsX6_takeRounded := by decide +kernel
theorem in_X6_takeRounded_X6 : ∀ w ∈ u_ws RX6 TX6 7, w ∈ wsX6_takeRounded := by decide +kernel
abbrev rmX6_takeRounded : Room := { frames := 43, cells := 0, slots := 0, locals := 4249 }
def p_X6_takeRounded_8 (N : Nat) (ti : Nat → Int32) (co : Int32) (Q : Int32 → Int32 → (Nat → Int32) → (Nat → Int32) → (Nat → Int32) → Int32 → Int32 → Int32 → (Nat → Int32) → (Nat → Int32) → Int32 → Int64 → (Nat → Nat → Int64) → (Nat → Int32) → Prop) : Nat → Int32 → Int32 → Int32 → (Nat → Int32) → (Nat → Int32) → (Nat → Int32) → Int32 → Int32 → Int32 → (Nat → Int32) → (Nat → Int32) → Int32 → Int64 → (Nat → Nat → Int64) → (Nat → Int32) → Prop
  | 0 => fun _ _ _ _ _ _ _ _ _ _ _ _ _ _ _ => False
  | n + 1 => fun x1 x2 ds oma dnu dde dbo dln dld tba tal tro tsc tcl rma => (co ≤ x2 → (Q x1 ds oma dnu dde dbo dln dld tba tal tro tsc tcl rma)) ∧ (¬ co ≤ x2 → (((7 : Int32) ≤ x2 → (Q x1 ds oma dnu dde dbo dln dld tba tal tro tsc tcl rma)) ∧ (¬ (7 : Int32) ≤ x2 → (vp_in x2 7 ∧ (vp_in x2 7 ∧ (((oma (x2).toNatClampNeg) = (rma (x2).toNatClampNeg) → (∀ x2_6 : Int32, x2_6 = x2 + (1 : Int32) → (p_X6_takeRounded_8 N ti co Q n x1 x2_6 ds oma dnu dde dbo dln dld tba tal tro tsc tcl rma))) ∧ (¬ (oma (x2).toNatClampNeg) = (rma (x2).toNatClampNeg) → (vp_in x2 7 ∧ (∀ f_8 : Int32, f_8 = rma (x2).toNatClampNeg → (vp_in x2 7 ∧ (∀ x1_10 : Int32, x1_10 = x1 + (1 : Int32) → (∀ x2_11 : Int32, x2_11 = x2 + (1 : Int32) → (p_X6_takeRounded_8 N ti co Q n x1_10 x2_11 ds (upd oma (x2).toNatClampNeg f_8) dnu dde dbo dln dld tba tal tro tsc tcl rma)))))))))))))

def p_X6_takeRounded (N : Nat) (ti : Nat → Int32) (co : Int32) (Q : Int32 → Int32 → (Nat → Int32) → (Nat → Int32) → (Nat → Int32) → Int32 → Int32 → Int32 → (Nat → Int32) → (Nat → Int32) → Int32 → Int64 → (Nat → Nat → Int64) → (Nat → Int32) → Prop) (ds : Int32) (oma : Nat → Int32) (dnu : Nat → Int32) (dde : Nat → Int32) (dbo : Int32) (dln : Int32) (dld : Int32) (tba : Nat → Int32) (tal : Nat → Int32) (tro : Int32) (tsc : Int64) (tcl : Nat → Nat → Int64) (rma : Nat → Int32) : Prop :=
  p_X6_refreshDivision N ti co (fun ds_1 dnu_2 dde_3 dbo_4 dln_5 dld_6 tba_7 tal_8 tro_9 tsc_10 tcl_11 rma_12 => p_X6_takeRounded_8 N ti co Q N (0 : Int32) (0 : Int32) ds_1 oma dnu_2 dde_3 dbo_4 dln_5 dld_6 tba_7 tal_8 tro_9 tsc_10 tcl_11 rma_12) ds dnu dde dbo dln dld tba tal tro tsc tcl rma

set_option maxHeartbeats 4000000 in
set_option maxRecDepth 100000 in
theorem k_X6_takeRounded_8 {N : Nat} {ss : Int32} {ti : Nat → Int32} {co : Int32} {obr : Int32} {obj : Int32} {obo : Int32} {obm : Int32} {plo : Nat → Int32} {pch : Nat → Int32} {pbe : Nat → Int32} {pbl : Int32} {Q : Int32 → Int32 → (Nat → Int32) → (Nat → Int32) → (Nat → Int32) → Int32 → Int32 → Int32 → (Nat → Int32) → (Nat → Int32) → Int32 → Int64 → (Nat → Nat → Int64) → (Nat → Int32) → Prop} (C0 : cxM cX6_takeRounded 3 (some .int) RX6 wsX6_takeRounded p s m args meth c dC dI cy A) :
    ∀ (n : Nat) (x1 : Int32) (x2 : Int32) (ds : Int32) (oma : Nat → Int32) (dnu : Nat → Int32) (dde : Nat → Int32) (dbo : Int32) (dln : Int32) (dld : Int32) (tba : Nat → Int32) (tal : Nat → Int32) (tro : Int32) (tsc : Int64) (tcl : Nat → Nat → Int64) (rma : Nat → Int32) (H : Heap) (locs : List Loc) (ls : Array Slot) (hm : p_X6_takeRounded_8 N ti co Q n x1 x2 ds oma dnu dde dbo dln dld tba tal tro tsc tcl rma) (hSt : stC dC dI A s (wC ad cy ss ds ti co oma obr obj obo obm plo pch pbe pbl dnu dde dbo dln dld tba tal tro tsc tcl rma) H locs) (hl : lv_has ls 3 [(0, .ref (ad 0)), (1, .int x1), (2, .int x2)]) (hret : ∀ (r : Int32) (ds : Int32) (oma : Nat → Int32) (dnu : Nat → Int32) (dde : Nat → Int32) (dbo : Int32) (dln : Int32) (dld : Int32) (tba : Nat → Int32) (tal : Nat → Int32) (tro : Int32) (tsc : Int64) (tcl : Nat → Nat → Int64) (rma : Nat → Int32) (H : Heap) (locs : List Loc) (ls : Array Slot) (pc : Nat), decode cX6_takeRounded pc = .ok (.ireturn, 1) → stC dC dI A s (wC ad cy ss ds ti co oma obr obj obo obm plo pch pbe pbl dnu dde dbo dln dld tba tal tro tsc tcl rma) H locs → Q r ds oma dnu dde dbo dln dld tba tal tro tsc tcl rma → W p l e rmX6_takeRounded s m args below meth c H locs 0 0 Z (F0 m pc ls [.int r])), W p l e rmX6_takeRounded s m args below meth c H locs 0 0 Z (F0 m 8 ls []) := by
  obtain ⟨hx, hb, hml, hr, hown, hts, hlocks, hK, hA, hN⟩ := id C0
  intro n
  induction n with
  | zero => intro x1 x2 ds oma dnu dde dbo dln dld tba tal tro tsc tcl rma H locs ls hm; exact False.elim hm
  | succ n ih =>
    intro x1 x2 ds oma dnu dde dbo dln dld tba tal tro tsc tcl rma H locs ls hm hSt hl hret
    obtain ⟨hP, hD, hS⟩ := hSt
    unfold p_X6_takeRounded_8 at hm
    refine lv_iload_n hx hb dX6_takeRounded_8 rfl (lv_at hl 2 rfl) ?_
    refine lv_aload_n hx hb dX6_takeRounded_9 rfl (lv_at hl 0 rfl) ?_
    refine va_get (D := (dC, dI)) (ci := 6) (v := .ref (ad 1)) (C := RX6) (T := TX6) (N := 7) hx hb hts in_X6_takeRounded_X6 hown hK hP 0 rfl rfl 0 (by decide) (hts _ fl_X6_takeRounded_12) (fun _ h9 => h9) rfl dX6_takeRounded_10 ?_
    refine va_getN (D := (dC, dI)) (ci := 1) (v := .int co) (C := RX1) (T := TX1) (N := 2) hx hb hts in_X6_takeRounded_X1 hown hK hP 1 rfl rfl 1 (by decide) (va_Nw.use rfl (nw_X6_57 hN)) (fun _ h9 => h9) rfl dX6_takeRounded_13 ?_
    refine lv_icmp_ge (tgt := 73) hx hb dX6_takeRounded_16 (by decide) (fun c_1 => ?_) (fun c_1 => ?_)
    · have hm := hm.1 c_1
      refine lv_iload_n hx hb dX6_takeRounded_73 rfl (lv_at hl 1 rfl) ?_
      exact hret x1 ds oma dnu dde dbo dln dld tba tal tro tsc tcl rma H locs ls 74 dX6_takeRounded_74 ⟨hP, hD, hS⟩ hm
    · have hm := hm.2 c_1
      refine lv_iload_n hx hb dX6_takeRounded_19 rfl (lv_at hl 2 rfl) ?_
      refine lv_bipush (v := 7) hx hb dX6_takeRounded_20 (by decide) ?_
      refine lv_icmp_ge (tgt := 73) hx hb dX6_takeRounded_22 (by decide) (fun c_2 => ?_) (fun c_2 => ?_)
      · have hm := hm.1 c_2
        refine lv_iload_n hx hb dX6_takeRounded_73 rfl (lv_at hl 1 rfl) ?_
        exact hret x1 ds oma dnu dde dbo dln dld tba tal tro tsc tcl rma H locs ls 74 dX6_takeRounded_74 ⟨hP, hD, hS⟩ hm
      · have hm := hm.2 c_2
        refine lv_aload_n hx hb dX6_takeRounded_25 rfl (lv_at hl 0 rfl) ?_
        refine va_get (D := (dC, dI)) (ci := 6) (v := .ref (ad 3)) (C := RX6) (T := TX6) (N := 7) hx hb hts in_X6_takeRounded_X6 hown hK hP 0 rfl rfl 1 (by decide) (hts _ fl_X6_takeRounded_19) (fun _ h9 => h9) rfl dX6_takeRounded_26 ?_
        refine va_getN (D := (dC, dI)) (ci := 2) (v := .ref (ad 4)) (C := RX2) (T := TX2) (N := 5) hx hb hts in_X6_takeRounded_X2 hown hK hP 3 rfl rfl 0 (by decide) (va_Nw.use rfl (nw_X6_70 hN)) (fun _ h9 => h9) rfl dX6_takeRounded_29 ?_
        refine lv_iload_n hx hb dX6_takeRounded_32 rfl (lv_at hl 2 rfl) ?_
        have hi_3 := hm.1
        have hm := hm.2
        refine va_iald hx hb hK hP 4 0 rfl rfl hi_3 dX6_takeRounded_33 ?_
        refine lv_aload_n hx hb dX6_takeRounded_34 rfl (lv_at hl 0 rfl) ?_
        refine va_get (D := (dC, dI)) (ci := 6) (v := .ref (ad 16)) (C := RX6) (T := TX6) (N := 7) hx hb hts in_X6_takeRounded_X6 hown hK hP 0 rfl rfl 4 (by decide) (hts _ fl_X6_takeRounded_40) (fun _ h9 => h9) rfl dX6_takeRounded_35 ?_
        refine va_getN (D := (dC, dI)) (ci := 4) (v := .ref (ad 17)) (C := RX4) (T := TX4) (N := 1) hx hb hts in_X6_takeRounded_X4 hown hK hP 16 rfl rfl 0 (by decide) (va_Nw.use rfl (nw_X6_126 hN)) (fun _ h9 => h9) rfl dX6_takeRounded_38 ?_
        refine lv_iload_n hx hb dX6_takeRounded_41 rfl (lv_at hl 2 rfl) ?_
        have hi_4 := hm.1
        have hm := hm.2
        refine va_iald hx hb hK hP 17 0 rfl rfl hi_4 dX6_takeRounded_42 ?_
        refine lv_icmp_eq (tgt := 67) hx hb dX6_takeRounded_43 (by decide) (fun c_5 => ?_) (fun c_5 => ?_)
        · have hm := hm.1 c_5
          obtain ⟨x2_6, ex2_6⟩ : ∃ y : Int32, y = x2 + (1 : Int32) := ⟨_, rfl⟩
          have hm := hm x2_6 ex2_6
          refine lv_iinc (v := x2_6) (lv' := [(2, .int x2_6), (0, .ref (ad 0)), (1, .int x1)]) hx hb dX6_takeRounded_67 hl (k := 2) rfl (by rw [ex2_6]; rfl) (by decide) rfl (fun ls hl => ?_)
          refine lv_goto (tgt := 8) hx hb dX6_takeRounded_70 (by decide) ?_
          exact ih x1 x2_6 ds oma dnu dde dbo dln dld tba tal tro tsc tcl rma H locs ls hm ⟨hP, hD, hS⟩ (lv_sub hl [1, 2, 0] rfl) hret
        · have hm := hm.2 c_5
          refine lv_aload_n hx hb dX6_takeRounded_46 rfl (lv_at hl 0 rfl) ?_
          refine va_get (D := (dC, dI)) (ci := 6) (v := .ref (ad 3)) (C := RX6) (T := TX6) (N := 7) hx hb hts in_X6_takeRounded_X6 hown hK hP 0 rfl rfl 1 (by decide) (hts _ fl_X6_takeRounded_19) (fun _ h9 => h9) rfl dX6_takeRounded_47 ?_
          refine va_getN (D := (dC, dI)) (ci := 2) (v := .ref (ad 4)) (C := RX2) (T := TX2) (N := 5) hx hb hts in_X6_takeRounded_X2 hown hK hP 3 rfl rfl 0 (by decide) (va_Nw.use rfl (nw_X6_70 hN)) (fun _ h9 => h9) rfl dX6_takeRounded_50 ?_
          refine lv_iload_n hx hb dX6_takeRounded_53 rfl (lv_at hl 2 rfl) ?_
          refine lv_aload_n hx hb dX6_takeRounded_54 rfl (lv_at hl 0 rfl) ?_
          refine va_get (D := (dC, dI)) (ci := 6) (v := .ref (ad 16)) (C := RX6) (T := TX6) (N := 7) hx hb hts in_X6_takeRounded_X6 hown hK hP 0 rfl rfl 4 (by decide) (hts _ fl_X6_takeRounded_40) (fun _ h9 => h9) rfl dX6_takeRounded_55 ?_
          refine va_getN (D := (dC, dI)) (ci := 4) (v := .ref (ad 17)) (C := RX4) (T := TX4) (N := 1) hx hb hts in_X6_takeRounded_X4 hown hK hP 16 rfl rfl 0 (by decide) (va_Nw.use rfl (nw_X6_126 hN)) (fun _ h9 => h9) rfl dX6_takeRounded_58 ?_
          refine lv_iload_n hx hb dX6_takeRounded_61 rfl (lv_at hl 2 rfl) ?_
          have hi_7 := hm.1
          have hm := hm.2
          refine va_iald hx hb hK hP 17 0 rfl rfl hi_7 dX6_takeRounded_62 ?_
          refine lv_topi (fun f_8 ef_8 => ?_)
          have hm := hm f_8 ef_8
          have hi_9 := hm.1
          have hm := hm.2
          refine va_iast hx hb hK hP hD hS 4 0 rfl rfl hi_9 dX6_takeRounded_63 (fun H locs hP hD hS => ?_)
          have hP : va_P (dC, dI) vwCl (wC ad cy ss ds ti co (upd oma (x2).toNatClampNeg f_8) obr obj obo obm plo pch pbe pbl dnu dde dbo dln dld tba tal tro tsc tcl rma) H := hP
          have hD : va_D A (wC ad cy ss ds ti co (upd oma (x2).toNatClampNeg f_8) obr obj obo obm plo pch pbe pbl dnu dde dbo dln dld tba tal tro tsc tcl rma) := hD
          obtain ⟨x1_10, ex1_10⟩ : ∃ y : Int32, y = x1 + (1 : Int32) := ⟨_, rfl⟩
          have hm := hm x1_10 ex1_10
          refine lv_iinc (v := x1_10) (lv' := [(1, .int x1_10), (0, .ref (ad 0)), (2, .int x2)]) hx hb dX6_takeRounded_64 hl (k := 1) rfl (by rw [ex1_10]; rfl) (by decide) rfl (fun ls hl => ?_)
          obtain ⟨x2_11, ex2_11⟩ : ∃ y : Int32, y = x2 + (1 : Int32) := ⟨_, rfl⟩
          have hm := hm x2_11 ex2_11
          refine lv_iinc (v := x2_11) (lv' := [(2, .int x2_11), (1, .int x1_10), (0, .ref (ad 0))]) hx hb dX6_takeRounded_67 hl (k := 2) rfl (by rw [ex2_11]; rfl) (by decide) rfl (fun ls hl => ?_)
          refine lv_goto (tgt := 8) hx hb dX6_takeRounded_70 (by decide) ?_
          exact ih x1_10 x2_11 ds (upd oma (x2).toNatClampNeg f_8) dnu dde dbo dln dld tba tal tro tsc tcl rma H locs ls hm ⟨hP, hD, hS⟩ (lv_sub hl [2, 1, 0] rfl) hret

set_option maxHeartbeats 4000000 in
set_option maxRecDepth 100000 in
theorem k_X6_takeRounded_0 {N : Nat} {ss : Int32} {ti : Nat → Int32} {co : Int32} {obr : Int32} {obj : Int32} {obo : Int32} {obm : Int32} {plo : Nat → Int32} {pch : Nat → Int32} {pbe : Nat → Int32} {pbl : Int32} {Q : Int32 → Int32 → (Nat → Int32) → (Nat → Int32) → (Nat → Int32) → Int32 → Int32 → Int32 → (Nat → Int32) → (Nat → Int32) → Int32 → Int64 → (Nat → Nat → Int64) → (Nat → Int32) → Prop} (C0 : cxM cX6_takeRounded 3 (some .int) RX6 wsX6_takeRounded p s m args meth c dC dI cy A) :
    ∀ (ds : Int32) (oma : Nat → Int32) (dnu : Nat → Int32) (dde : Nat → Int32) (dbo : Int32) (dln : Int32) (dld : Int32) (tba : Nat → Int32) (tal : Nat → Int32) (tro : Int32) (tsc : Int64) (tcl : Nat → Nat → Int64) (rma : Nat → Int32) (H : Heap) (locs : List Loc) (ls : Array Slot) (hm : p_X6_takeRounded N ti co Q ds oma dnu dde dbo dln dld tba tal tro tsc tcl rma) (hSt : stC dC dI A s (wC ad cy ss ds ti co oma obr obj obo obm plo pch pbe pbl dnu dde dbo dln dld tba tal tro tsc tcl rma) H locs) (hl : lv_has ls 3 [(0, .ref (ad 0))]) (hret : ∀ (r : Int32) (ds : Int32) (oma : Nat → Int32) (dnu : Nat → Int32) (dde : Nat → Int32) (dbo : Int32) (dln : Int32) (dld : Int32) (tba : Nat → Int32) (tal : Nat → Int32) (tro : Int32) (tsc : Int64) (tcl : Nat → Nat → Int64) (rma : Nat → Int32) (H : Heap) (locs : List Loc) (ls : Array Slot) (pc : Nat), decode cX6_takeRounded pc = .ok (.ireturn, 1) → stC dC dI A s (wC ad cy ss ds ti co oma obr obj obo obm plo pch pbe pbl dnu dde dbo dln dld tba tal tro tsc tcl rma) H locs → Q r ds oma dnu dde dbo dln dld tba tal tro tsc tcl rma → W p l e rmX6_takeRounded s m args below meth c H locs 0 0 Z (F0 m pc ls [.int r])), W p l e rmX6_takeRounded s m args below meth c H locs 0 0 Z (F0 m 0 ls []) := by
  obtain ⟨hx, hb, hml, hr, hown, hts, hlocks, hK, hA, hN⟩ := id C0
  intro ds oma dnu dde dbo dln dld tba tal tro tsc tcl rma H locs ls hm hSt hl hret
  obtain ⟨hP, hD, hS⟩ := hSt
  unfold p_X6_takeRounded at hm
  refine lv_aload_n hx hb dX6_takeRounded_0 rfl (lv_at hl 0 rfl) ?_
  have hFc := va_freeSame hD hS hA
  refine va_callv (va_runV (As := []) (rest := []) ⟨hx, hb, hml, hown, hts⟩ (c_X6_refreshDivision l dC dI cy ad H.size ss ds ti co oma obr obj obo obm plo pch pbe pbl dnu dde dbo dln dld tba tal tro tsc tcl rma  _ _ hm) (cwV 0 hts gX6_takeRounded_X6_refreshDivision rfl rfl rfl (by decide +kernel) ⟨Nat.le_of_ble_eq_true rfl, Nat.le_of_ble_eq_true rfl⟩) ⟨cPre_blind, va_recv hK hP (ci := 6) (q0 := 0) rfl rfl, fun U hU hW => ⟨rfl, cPre_at hP hK hD hN hU hW⟩⟩ rfl rfl hl.1 rfl (lv_room (Nat.le_of_ble_eq_true rfl)) dX6_takeRounded_1 ⟨Nat.zero_le _, Nat.zero_le _⟩) hS (fun q _ h => hFc q h) hFc (fun u t H locs ht hvm hw hB hz1 hk1 hS => ?_)
  obtain ⟨ds_1, dnu_2, dde_3, dbo_4, dln_5, dld_6, tba_7, tal_8, tro_9, tsc_10, tcl_11, rma_12⟩ := u
  try dsimp only at hw
  have hm := hw
  have hP : va_P (dC, dI) vwCl (wC ad cy ss ds_1 ti co oma obr obj obo obm plo pch pbe pbl dnu_2 dde_3 dbo_4 dln_5 dld_6 tba_7 tal_8 tro_9 tsc_10 tcl_11 rma_12) H := cPost_P ht hB
  have hD : va_D A (wC ad cy ss ds_1 ti co oma obr obj obo obm plo pch pbe pbl dnu_2 dde_3 dbo_4 dln_5 dld_6 tba_7 tal_8 tro_9 tsc_10 tcl_11 rma_12) := cPost_D hFc hB
  refine lv_iconst (v := 0) hx hb dX6_takeRounded_4 (by decide) ?_
  refine lv_istore_n (lv' := [(1, .int (0 : Int32)), (0, .ref (ad 0))]) hx hb dX6_takeRounded_5 rfl hl (by decide) rfl (fun ls hl => ?_)
  refine lv_iconst (v := 0) hx hb dX6_takeRounded_6 (by decide) ?_
  refine lv_istore_n (lv' := [(2, .int (0 : Int32)), (1, .int (0 : Int32)), (0, .ref (ad 0))]) hx hb dX6_takeRounded_7 rfl hl (by decide) rfl (fun ls hl => ?_)
  exact k_X6_takeRounded_8 C0 N (0 : Int32) (0 : Int32) ds_1 oma dnu_2 dde_3 dbo_4 dln_5 dld_6 tba_7 tal_8 tro_9 tsc_10 tcl_11 rma_12 H locs ls hm ⟨hP, hD, hS⟩ (lv_sub hl [2, 1, 0] rfl) hret

set_option maxHeartbeats 4000000 in
set_option maxRecDepth 100000 in
theorem c_X6_takeRounded (l : Launch) (dC : Nat → ClassId) (dI : Nat → Nat → Nat) (cy : Nat → ClassId) (ad : Nat → Nat) (sz : Nat) (ss : Int32) (ds : Int32) (ti : Nat → Int32) (co : Int32) (oma : Nat → Int32) (obr : Int32) (obj : Int32) (obo : Int32) (obm : Int32) (plo : Nat → Int32) (pch : Nat → Int32) (pbe : Nat → Int32) (pbl : Int32) (dnu : Nat → Int32) (dde : Nat → Int32) (dbo : Int32) (dln : Int32) (dld : Int32) (tba : Nat → Int32) (tal : Nat → Int32) (tro : Int32) (tsc : Int64) (tcl : Nat → Nat → Int64) (rma : Nat → Int32)  (N : Nat) (Q : Int32 → Int32 → (Nat → Int32) → (Nat → Int32) → (Nat → Int32) → Int32 → Int32 → Int32 → (Nat → Int32) → (Nat → Int32) → Int32 → Int64 → (Nat → Nat → Int64) → (Nat → Int32) → Prop) (hm : p_X6_takeRounded N ti co Q ds oma dnu dde dbo dln dld tba tal tro tsc tcl rma) : Met l yX6_takeRounded wsX6_takeRounded rmX6_takeRounded (va_Pc [.ref (ad 0)] (cPre dC dI cy (wC ad cy ss ds ti co oma obr obj obo obm plo pch pbe pbl dnu dde dbo dln dld tba tal tro tsc tcl rma) sz)) (va_Qi (fun (r : Int32) (u : Int32 × (Nat → Int32) × (Nat → Int32) × (Nat → Int32) × Int32 × Int32 × Int32 × (Nat → Int32) × (Nat → Int32) × Int32 × Int64 × (Nat → Nat → Int64) × (Nat → Int32)) => Q r u.1 u.2.1 u.2.2.1 u.2.2.2.1 u.2.2.2.2.1 u.2.2.2.2.2.1 u.2.2.2.2.2.2.1 u.2.2.2.2.2.2.2.1 u.2.2.2.2.2.2.2.2.1 u.2.2.2.2.2.2.2.2.2.1 u.2.2.2.2.2.2.2.2.2.2.1 u.2.2.2.2.2.2.2.2.2.2.2.1 u.2.2.2.2.2.2.2.2.2.2.2.2) (fun u t => cPost dC dI cy (wC ad cy ss ds ti co oma obr obj obo obm plo pch pbe pbl dnu dde dbo dln dld tba tal tro tsc tcl rma) sz (wC ad cy ss (u.1) ti co (u.2.1) obr obj obo obm plo pch pbe pbl (u.2.2.1) (u.2.2.2.1) (u.2.2.2.2.1) (u.2.2.2.2.2.1) (u.2.2.2.2.2.2.1) (u.2.2.2.2.2.2.2.1) (u.2.2.2.2.2.2.2.2.1) (u.2.2.2.2.2.2.2.2.2.1) (u.2.2.2.2.2.2.2.2.2.2.1) (u.2.2.2.2.2.2.2.2.2.2.2.1) (u.2.2.2.2.2.2.2.2.2.2.2.2)) t) (va_A (wC ad cy ss ds ti co oma obr obj obo obm plo pch pbe pbl dnu dde dbo dln dld tba tal tro tsc tcl rma) sz)) 0 0 (va_A (wC ad cy ss ds ti co oma obr obj obo obm plo pch pbe pbl dnu dde dbo dln dld tba tal tro tsc tcl rma) sz) := by
  refine Met.ofW (cc := cX6_takeRounded) (maxL := 3) (ret := (some .int)) (by decide) rfl ?_
  intro p e s m args below meth c s₁ B hml hv
  obtain ⟨rfl, hsz, hP, hK, hD0, hN⟩ := hv
  have hts := atoms_spec (ws := wsX6_takeRounded) B.pre
  have hown : s.vm.findClass RX6 = some m.cls := findClass_of_methodNamed B.named
  subst hsz
  have hD := hD0.self (sz := s.heap.size)
  generalize hAe : va_A (wC ad cy ss ds ti co oma obr obj obo obm plo pch pbe pbl dnu dde dbo dln dld tba tal tro tsc tcl rma) s.heap.size = A at hD ⊢
  have hA : ∀ q : Nat, s.heap.size ≤ q → A q := fun q h => by rw [← hAe]; exact Or.inr h
  have hl := lv_entry ([.ref (ad 0)]) (n := 3) (Nat.le_of_ble_eq_true rfl)
  rw [lg_entry_eq]
  generalize (lg_sl ([.ref (ad 0)]) ++ List.replicate (3 - (lg_sl ([.ref (ad 0)])).length) Slot.unset).toArray = ls at hl ⊢
  have hl : lv_has ls 3 [(0, .ref (ad 0))] := hl
  exact k_X6_takeRounded_0 ⟨B.exec, B.bytes, hml, B.returns, hown, hts, B.notSynchronized, hK, hA, hN⟩ ds oma dnu dde dbo dln dld tba tal tro tsc tcl rma s.heap [] ls hm ⟨hP, hD, va_S.rf⟩ (lv_sub hl [0] rfl) (fun r ds oma dnu dde dbo dln dld tba tal tro tsc tcl rma H locs ls pc hdg hSt hq => W.iret B.exec B.bytes B.returns (fun t ht hW => ⟨⟨r, (ds, oma, dnu, dde, dbo, dln, dld, tba, tal, tro, tsc, tcl, rma), rfl, hq, cPost_of hAe ht hW.alike hSt hK⟩, hSt.2.2.F ht⟩) hSt.2.2.2.2 hdg B.notSynchronized)
