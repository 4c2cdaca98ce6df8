variable {p : Program} {l : Launch} {e : Env} {s : State} {m : MethodId} {args : Array Value} {below : List Frame} {meth : Method} {c : Code} {dC : Nat → ClassId} {dI : Nat → Nat → Nat} {cy : Nat → ClassId} {ad : Nat → Nat} {A : Nat → Prop} {Z : State → Prop}
-- ===== X3_clearLoads
theorem fl_X3_clearLoads_9 : Cond.fieldLink RX3 9 "UnlikeUnion$PlanSearch" "loads" "[I" ∈ wsX3_clearLoads := by decide +kernel
theorem in_X3_clearLoads_X3 : ∀ w ∈ u_ws RX3 TX3 4, w ∈ wsX3_clearLoads := by decide +kernel
abbrev rmX3_clearLoads : Room := { frames := 1, cells := 0, slots := 0, locals := 62 }
def p_X3_clearLoads_2 (N : Nat) (Q : (Nat → Int32) → Prop) : Nat → Int32 → (Nat → Int32) → Prop
  | 0 => fun _ _ => False
  | n + 1 => fun x1 plo => ((3 : Int32) ≤ x1 → (Q plo)) ∧ (¬ (3 : Int32) ≤ x1 → (vp_in x1 3 ∧ (∀ x1_3 : Int32, x1_3 = x1 + (1 : Int32) → (p_X3_clearLoads_2 N Q n x1_3 (upd plo (x1).toNatClampNeg (0 : Int32))))))

def p_X3_clearLoads (N : Nat) (Q : (Nat → Int32) → Prop) (plo : Nat → Int32) : Prop :=
  p_X3_clearLoads_2 N Q N (0 : Int32) plo

set_option maxHeartbeats 4000000 in
set_option maxRecDepth 100000 in
theorem k_X3_clearLoads_2 {N : Nat} {ss : Int32} {ds : Int32} {ti : Nat → Int32} {co : Int32} {oma : Nat → Int32} {obr : Int32} {obj : Int32} {obo : Int32} {obm : Int32} {pch : Nat → Int32} {pbe : Nat → Int32} {pbl : Int32} {dnu : Nat → Int32} {dde : Nat → Int32} {dbo : Int32} {dln : Int32} {dld : Int32} {tba : Nat → Int32} {tal : Nat → Int32} {tro : Int32} {tsc : Int64} {tcl : Nat → Nat → Int64} {rma : Nat → Int32} {Q : (Nat → Int32) → Prop} (C0 : cxM cX3_clearLoads 2 none RX3 wsX3_clearLoads p s m args meth c dC dI cy A) :
    ∀ (n : Nat) (x1 : Int32) (plo : Nat → Int32) (H : Heap) (locs : List Loc) (ls : Array Slot) (hm : p_X3_clearLoads_2 N Q n x1 plo) (hSt : stC dC dI A s (wC ad cy ss ds ti co oma obr obj obo obm plo pch pbe pbl dnu dde dbo dln dld tba tal tro tsc tcl rma) H locs) (hl : lv_has ls 2 [(0, .ref (ad 5)), (1, .int x1)]) (hret : ∀ (plo : Nat → Int32) (H : Heap) (locs : List Loc) (ls : Array Slot) (pc : Nat), decode cX3_clearLoads pc = .ok (.return_, 1) → stC dC dI A s (wC ad cy ss ds ti co oma obr obj obo obm plo pch pbe pbl dnu dde dbo dln dld tba tal tro tsc tcl rma) H locs → Q plo → W p l e rmX3_clearLoads s m args below meth c H locs 0 0 Z (F0 m pc ls [])), W p l e rmX3_clearLoads s m args below meth c H locs 0 0 Z (F0 m 2 ls []) := by
  obtain ⟨hx, hb, hml, hr, hown, hts, hlocks, hK, hA, hN⟩ := id C0
  intro n
  induction n with
  | zero => intro x1 plo H locs ls hm; exact False.elim hm
  | succ n ih =>
    intro x1 plo H locs ls hm hSt hl hret
    obtain ⟨hP, hD, hS⟩ := hSt
    unfold p_X3_clearLoads_2 at hm
    refine lv_iload_n hx hb dX3_clearLoads_2 rfl (lv_at hl 1 rfl) ?_
    refine lv_iconst (v := 3) hx hb dX3_clearLoads_3 (by decide) ?_
    refine lv_icmp_ge (tgt := 20) hx hb dX3_clearLoads_4 (by decide) (fun c_1 => ?_) (fun c_1 => ?_)
    · have hm := hm.1 c_1
      exact hret plo H locs ls 20 dX3_clearLoads_20 ⟨hP, hD, hS⟩ hm
    · have hm := hm.2 c_1
      refine lv_aload_n hx hb dX3_clearLoads_7 rfl (lv_at hl 0 rfl) ?_
      refine va_get (D := (dC, dI)) (ci := 3) (v := .ref (ad 6)) (C := RX3) (T := TX3) (N := 4) hx hb hts in_X3_clearLoads_X3 hown hK hP 5 rfl rfl 0 (by decide) (hts _ fl_X3_clearLoads_9) (fun _ h9 => h9) rfl dX3_clearLoads_8 ?_
      refine lv_iload_n hx hb dX3_clearLoads_11 rfl (lv_at hl 1 rfl) ?_
      refine lv_iconst (v := 0) hx hb dX3_clearLoads_12 (by decide) ?_
      have hi_2 := hm.1
      have hm := hm.2
      refine va_iast hx hb hK hP hD hS 6 0 rfl rfl hi_2 dX3_clearLoads_13 (fun H locs hP hD hS => ?_)
      have hP : va_P (dC, dI) vwCl (wC ad cy ss ds ti co oma obr obj obo obm (upd plo (x1).toNatClampNeg (0 : Int32)) pch pbe pbl dnu dde dbo dln dld tba tal tro tsc tcl rma) H := hP
      have hD : va_D A (wC ad cy ss ds ti co oma obr obj obo obm (upd plo (x1).toNatClampNeg (0 : Int32)) pch pbe pbl dnu dde dbo dln dld tba tal tro tsc tcl rma) := hD
      obtain ⟨x1_3, ex1_3⟩ : ∃ y : Int32, y = x1 + (1 : Int32) := ⟨_, rfl⟩
      have hm := hm x1_3 ex1_3
      refine lv_iinc (v := x1_3) (lv' := [(1, .int x1_3), (0, .ref (ad 5))]) hx hb dX3_clearLoads_14 hl (k := 1) rfl (by rw [ex1_3]; rfl) (by decide) rfl (fun ls hl => ?_)
      refine lv_goto (tgt := 2) hx hb dX3_clearLoads_17 (by decide) ?_
      exact ih x1_3 (upd plo (x1).toNatClampNeg (0 : Int32)) H locs ls hm ⟨hP, hD, hS⟩ (lv_sub hl [1, 0] rfl) hret

set_option maxHeartbeats 4000000 in
set_option maxRecDepth 100000 in
theorem k_X3_clearLoads_0 {N : Nat} {ss : Int32} {ds : Int32} {ti : Nat → Int32} {co : Int32} {oma : Nat → Int32} {obr : Int32} {obj : Int32} {obo : Int32} {obm : Int32} {pch : Nat → Int32} {pbe : Nat → Int32} {pbl : Int32} {dnu : Nat → Int32} {dde : Nat → Int32} {dbo : Int32} {dln : Int32} {dld : Int32} {tba : Nat → Int32} {tal : Nat → Int32} {tro : Int32} {tsc : Int64} {tcl : Nat → Nat → Int64} {rma : Nat → Int32} {Q : (Nat → Int32) → Prop} (C0 : cxM cX3_clearLoads 2 none RX3 wsX3_clearLoads p s m args meth c dC dI cy A) :
    ∀ (plo : Nat → Int32) (H : Heap) (locs : List Loc) (ls : Array Slot) (hm : p_X3_clearLoads N Q plo) (hSt : stC dC dI A s (wC ad cy ss ds ti co oma obr obj obo obm plo pch pbe pbl dnu dde dbo dln dld tba tal tro tsc tcl rma) H locs) (hl : lv_has ls 2 [(0, .ref (ad 5))]) (hret : ∀ (plo : Nat → Int32) (H : Heap) (locs : List Loc) (ls : Array Slot) (pc : Nat), decode cX3_clearLoads pc = .ok (.return_, 1) → stC dC dI A s (wC ad cy ss ds ti co oma obr obj obo obm plo pch pbe pbl dnu dde dbo dln dld tba tal tro tsc tcl rma) H locs → Q plo → W p l e rmX3_clearLoads s m args below meth c H locs 0 0 Z (F0 m pc ls [])), W p l e rmX3_clearLoads s m args below meth c H locs 0 0 Z (F0 m 0 ls []) := by
  obtain ⟨hx, hb, hml, hr, hown, hts, hlocks, hK, hA, hN⟩ := id C0
  intro plo H locs ls hm hSt hl hret
  obtain ⟨hP, hD, hS⟩ := hSt
  unfold p_X3_clearLoads at hm
  refine lv_iconst (v := 0) hx hb dX3_clearLoads_0 (by decide) ?_
  refine lv_istore_n (lv' := [(1, .int (0 : Int32)), (0, .ref (ad 5))]) hx hb dX3_clearLoads_1 rfl hl (by decide) rfl (fun ls hl => ?_)
  exact k_X3_clearLoads_2 C0 N (0 : Int32) plo H locs ls hm ⟨hP, hD, hS⟩ (lv_sub hl [1, 0] rfl) hret

set_option maxHeartbeats 4000000 in
set_option maxRecDepth 100000 in
theorem c_X3_clearLoads (l : Launch) (dC : Nat → ClassId) (dI : Nat → Nat → Nat) (cy : Nat → ClassId) (ad : Nat → Nat) (sz : Nat) (ss : Int32) (ds : Int32) (ti : Nat → Int32) (co : Int32) (oma : Nat → Int32) (obr : Int32) (obj : Int32) (obo : Int32) (obm : Int32) (plo : Nat → Int32) (pch : Nat → Int32) (pbe : Nat → Int32) (pbl : Int32) (dnu : Nat → Int32) (dde : Nat → Int32) (dbo : Int32) (dln : Int32) (dld : Int32) (tba : Nat → Int32) (tal : Nat → Int32) (tro : Int32) (tsc : Int64) (tcl : Nat → Nat → Int64) (rma : Nat → Int32)  (N : Nat) (Q : (Nat → Int32) → Prop) (hm : p_X3_clearLoads N Q plo) : Met l yX3_clearLoads wsX3_clearLoads rmX3_clearLoads (va_Pc [.ref (ad 5)] (cPre dC dI cy (wC ad cy ss ds ti co oma obr obj obo obm plo pch pbe pbl dnu dde dbo dln dld tba tal tro tsc tcl rma) sz)) (va_Qv (fun (u : (Nat → Int32)) => Q u) (fun u t => cPost dC dI cy (wC ad cy ss ds ti co oma obr obj obo obm plo pch pbe pbl dnu dde dbo dln dld tba tal tro tsc tcl rma) sz (wC ad cy ss ds ti co oma obr obj obo obm u pch pbe pbl dnu dde dbo dln dld tba tal tro tsc tcl rma) t) (va_A (wC ad cy ss ds ti co oma obr obj obo obm plo pch pbe pbl dnu dde dbo dln dld tba tal tro tsc tcl rma) sz)) 0 0 (va_A (wC ad cy ss ds ti co oma obr obj obo obm plo pch pbe pbl dnu dde dbo dln dld tba tal tro tsc tcl rma) sz) := by
  refine Met.ofW (cc := cX3_clearLoads) (maxL := 2) (ret := none) (by decide) rfl ?_
  intro p e s m args below meth c s₁ B hml hv
  obtain ⟨rfl, hsz, hP, hK, hD0, hN⟩ := hv
  have hts := atoms_spec (ws := wsX3_clearLoads) B.pre
  have hown : s.vm.findClass RX3 = some m.cls := findClass_of_methodNamed B.named
  subst hsz
  have hD := hD0.self (sz := s.heap.size)
  generalize hAe : va_A (wC ad cy ss ds ti co oma obr obj obo obm plo pch pbe pbl dnu dde dbo dln dld tba tal tro tsc tcl rma) s.heap.size = A at hD ⊢
  have hA : ∀ q : Nat, s.heap.size ≤ q → A q := fun q h => by rw [← hAe]; exact Or.inr h
  have hl := lv_entry ([.ref (ad 5)]) (n := 2) (Nat.le_of_ble_eq_true rfl)
  rw [lg_entry_eq]
  generalize (lg_sl ([.ref (ad 5)]) ++ List.replicate (2 - (lg_sl ([.ref (ad 5)])).length) Slot.unset).toArray = ls at hl ⊢
  have hl : lv_has ls 2 [(0, .ref (ad 5))] := hl
  exact k_X3_clearLoads_0 ⟨B.exec, B.bytes, hml, B.returns, hown, hts, B.notSynchronized, hK, hA, hN⟩ plo s.heap [] ls hm ⟨hP, hD, va_S.rf⟩ (lv_sub hl [0] rfl) (fun plo H locs ls pc hdg hSt hq => W.vret B.exec B.bytes B.returns (fun t ht hW => ⟨⟨(plo), rfl, hq, cPost_of hAe ht hW.alike hSt hK⟩, hSt.2.2.F ht⟩) hSt.2.2.2.2 hdg B.notSynchronized)

-- ===== X3_greatest
theorem fl_X3_greatest_9 : Cond.fieldLink RX3 9 "UnlikeUnion$PlanSearch" "loads" "[I" ∈ wsX3_greatest := by decide +kernel
theorem in_X3_greatest_X3 : ∀ w ∈ u_ws RX3 TX3 4, w ∈ wsX3_greatest := by decide +kernel
abbrev rmX3_greatest : Room := { frames := 1, cells := 0, slots := 0, locals := 61 }
def p_X3_greatest (N : Nat) (plo : Nat → Int32) (Q : Int32 → Prop)  : Prop :=
  ∀ v_1 : Int32, v_1 = (if (plo ((0 : Int32)).toNatClampNeg) < (plo ((1 : Int32)).toNatClampNeg) then (plo ((1 : Int32)).toNatClampNeg) else (plo ((0 : Int32)).toNatClampNeg)) → (∀ v_2 : Int32, v_2 = (if v_1 < (plo ((2 : Int32)).toNatClampNeg) then (plo ((2 : Int32)).toNatClampNeg) else v_1) → (Q v_2))

set_option maxHeartbeats 4000000 in
set_option maxRecDepth 100000 in
theorem k_X3_greatest_0 {N : Nat} {ss : Int32} {ds : Int32} {ti : Nat → Int32} {co : Int32} {oma : Nat → Int32} {obr : Int32} {obj : Int32} {obo : Int32} {obm : Int32} {plo : Nat → Int32} {pch : Nat → Int32} {pbe : Nat → Int32} {pbl : Int32} {dnu : Nat → Int32} {dde : Nat → Int32} {dbo : Int32} {dln : Int32} {dld : Int32} {tba : Nat → Int32} {tal : Nat → Int32} {tro : Int32} {tsc : Int64} {tcl : Nat → Nat → Int64} {rma : Nat → Int32} {Q : Int32 → Prop} (C0 : cxM cX3_greatest 1 (some .int) RX3 wsX3_greatest p s m args meth c dC dI cy A) :
    ∀  (H : Heap) (locs : List Loc) (ls : Array Slot) (hm : p_X3_greatest N plo Q ) (hSt : stC dC dI A s (wC ad cy ss ds ti co oma obr obj obo obm plo pch pbe pbl dnu dde dbo dln dld tba tal tro tsc tcl rma) H locs) (hl : lv_has ls 1 [(0, .ref (ad 5))]) (hret : ∀ (r : Int32) (H : Heap) (locs : List Loc) (ls : Array Slot) (pc : Nat), decode cX3_greatest pc = .ok (.ireturn, 1) → stC dC dI A s (wC ad cy ss ds ti co oma obr obj obo obm plo pch pbe pbl dnu dde dbo dln dld tba tal tro tsc tcl rma) H locs → Q r → W p l e rmX3_greatest s m args below meth c H locs 0 0 Z (F0 m pc ls [.int r])), W p l e rmX3_greatest s m args below meth c H locs 0 0 Z (F0 m 0 ls []) := by
  obtain ⟨hx, hb, hml, hr, hown, hts, hlocks, hK, hA, hN⟩ := id C0
  intro  H locs ls hm hSt hl hret
  obtain ⟨hP, hD, hS⟩ := hSt
  unfold p_X3_greatest at hm
  refine lv_aload_n hx hb dX3_greatest_0 rfl (lv_at hl 0 rfl) ?_
  refine va_get (D := (dC, dI)) (ci := 3) (v := .ref (ad 6)) (C := RX3) (T := TX3) (N := 4) hx hb hts in_X3_greatest_X3 hown hK hP 5 rfl rfl 0 (by decide) (hts _ fl_X3_greatest_9) (fun _ h9 => h9) rfl dX3_greatest_1 ?_
  refine lv_iconst (v := 0) hx hb dX3_greatest_4 (by decide) ?_
  refine va_iald hx hb hK hP 6 0 rfl rfl (vp_in_iff.mpr (by decide)) dX3_greatest_5 ?_
  refine lv_aload_n hx hb dX3_greatest_6 rfl (lv_at hl 0 rfl) ?_
  refine va_get (D := (dC, dI)) (ci := 3) (v := .ref (ad 6)) (C := RX3) (T := TX3) (N := 4) hx hb hts in_X3_greatest_X3 hown hK hP 5 rfl rfl 0 (by decide) (hts _ fl_X3_greatest_9) (fun _ h9 => h9) rfl dX3_greatest_7 ?_
  refine lv_iconst (v := 1) hx hb dX3_greatest_10 (by decide) ?_
  refine va_iald hx hb hK hP 6 0 rfl rfl (vp_in_iff.mpr (by decide)) dX3_greatest_11 ?_
  refine va_mmax hx hb (hml.trans hl.1.symm) hown (hts (.methodLink RX3 58 Lib.Math.max.name) (by decide +kernel)) (hts (.static Lib.Math.max.name) (by decide +kernel)) (hts (.initialized "java/lang/Math") (by decide +kernel)) (hts (.code Lib.Math.max.name Lib.Math.max.code 2 (some .int)) (by decide +kernel)) (Nat.le_of_ble_eq_true rfl) (Nat.le_of_ble_eq_true rfl) (Nat.zero_le _) (Nat.zero_le _) dX3_greatest_12 ?_
  refine lv_topi (fun v_1 ev_1 => ?_)
  have hm := hm v_1 ev_1
  refine lv_aload_n hx hb dX3_greatest_15 rfl (lv_at hl 0 rfl) ?_
  refine va_get (D := (dC, dI)) (ci := 3) (v := .ref (ad 6)) (C := RX3) (T := TX3) (N := 4) hx hb hts in_X3_greatest_X3 hown hK hP 5 rfl rfl 0 (by decide) (hts _ fl_X3_greatest_9) (fun _ h9 => h9) rfl dX3_greatest_16 ?_
  refine lv_iconst (v := 2) hx hb dX3_greatest_19 (by decide) ?_
  refine va_iald hx hb hK hP 6 0 rfl rfl (vp_in_iff.mpr (by decide)) dX3_greatest_20 ?_
  refine va_mmax hx hb (hml.trans hl.1.symm) hown (hts (.methodLink RX3 58 Lib.Math.max.name) (by decide +kernel)) (hts (.static Lib.Math.max.name) (by decide +kernel)) (hts (.initialized "java/lang/Math") (by decide +kernel)) (hts (.code Lib.Math.max.name Lib.Math.max.code 2 (some .int)) (by decide +kernel)) (Nat.le_of_ble_eq_true rfl) (Nat.le_of_ble_eq_true rfl) (Nat.zero_le _) (Nat.zero_le _) dX3_greatest_21 ?_
  refine lv_topi (fun v_2 ev_2 => ?_)
  have hm := hm v_2 ev_2
  exact hret v_2 H locs ls 24 dX3_greatest_24 ⟨hP, hD, hS⟩ hm

set_option maxHeartbeats 4000000 in
set_option maxRecDepth 100000 in
theorem c_X3_greatest (l : Launch) (dC : Nat → ClassId) (dI : Nat → Nat → Nat) (cy : Nat → ClassId) (ad : Nat → Nat) (sz : Nat) (ss : Int32) (ds : Int32) (ti : Nat → Int32) (co : Int32) (oma : Nat → Int32) (obr : Int32) (obj : Int32) (obo : Int32) (obm : Int32) (plo : Nat → Int32) (pch : Nat → Int32) (pbe : Nat → Int32) (pbl : Int32) (dnu : Nat → Int32) (dde : Nat → Int32) (dbo : Int32) (dln : Int32) (dld : Int32) (tba : Nat → Int32) (tal : Nat → Int32) (tro : Int32) (tsc : Int64) (tcl : Nat → Nat → Int64) (rma : Nat → Int32)  (N : Nat) (Q : Int32 → Prop) (hm : p_X3_greatest N plo Q ) : Met l yX3_greatest wsX3_greatest rmX3_greatest (va_Pc [.ref (ad 5)] (cPre dC dI cy (wC ad cy ss ds ti co oma obr obj obo obm plo pch pbe pbl dnu dde dbo dln dld tba tal tro tsc tcl rma) sz)) (va_Qi (fun (r : Int32) (u : Unit) => Q r) (fun u t => cPost dC dI cy (wC ad cy ss ds ti co oma obr obj obo obm plo pch pbe pbl dnu dde dbo dln dld tba tal tro tsc tcl rma) sz (wC ad cy ss ds ti co oma obr obj obo obm plo pch pbe pbl dnu dde dbo dln dld tba tal tro tsc tcl rma) t) (va_A (wC ad cy ss ds ti co oma obr obj obo obm plo pch pbe pbl dnu dde dbo dln dld tba tal tro tsc tcl rma) sz)) 0 0 (va_A (wC ad cy ss ds ti co oma obr obj obo obm plo pch pbe pbl dnu dde dbo dln dld tba tal tro tsc tcl rma) sz) := by
  refine Met.ofW (cc := cX3_greatest) (maxL := 1) (ret := (some .int)) (by decide) rfl ?_
  intro p e s m args below meth c s₁ B hml hv
  obtain ⟨rfl, hsz, hP, hK, hD0, hN⟩ := hv
  have hts := atoms_spec (ws := wsX3_greatest) B.pre
  have hown : s.vm.findClass RX3 = some m.cls := findClass_of_methodNamed B.named
  subst hsz
  have hD := hD0.self (sz := s.heap.size)
  generalize hAe : va_A (wC ad cy ss ds ti co oma obr obj obo obm plo pch pbe pbl dnu dde dbo dln dld tba tal tro tsc tcl rma) s.heap.size = A at hD ⊢
  have hA : ∀ q : Nat, s.heap.size ≤ q → A q := fun q h => by rw [← hAe]; exact Or.inr h
  have hl := lv_entry ([.ref (ad 5)]) (n := 1) (Nat.le_of_ble_eq_true rfl)
  rw [lg_entry_eq]
  generalize (lg_sl ([.ref (ad 5)]) ++ List.replicate (1 - (lg_sl ([.ref (ad 5)])).length) Slot.unset).toArray = ls at hl ⊢
  have hl : lv_has ls 1 [(0, .ref (ad 5))] := hl
  exact k_X3_greatest_0 ⟨B.exec, B.bytes, hml, B.returns, hown, hts, B.notSynchronized, hK, hA, hN⟩  s.heap [] ls hm ⟨hP, hD, va_S.rf⟩ (lv_sub hl [0] rfl) (fun r H locs ls pc hdg hSt hq => W.iret B.exec B.bytes B.returns (fun t ht hW => ⟨⟨r, (), rfl, hq, cPost_of hAe ht hW.alike hSt hK⟩, hSt.2.2.F ht⟩) hSt.2.2.2.2 hdg B.notSynchronized)

-- ===== X3_keep
theorem fl_X3_keep_24 : Cond.fieldLink RX3 24 "UnlikeUnion$PlanSearch" "bestLength" "I" ∈ wsX3_keep := by decide +kernel
theorem fl_X3_keep_18 : Cond.fieldLink RX3 18 "UnlikeUnion$PlanSearch" "best" "[I" ∈ wsX3_keep := by decide +kernel
theorem fl_X3_keep_15 : Cond.fieldLink RX3 15 "UnlikeUnion$PlanSearch" "chosen" "[I" ∈ wsX3_keep := by decide +kernel
theorem in_X3_keep_X3 : ∀ w ∈ u_ws RX3 TX3 4, w ∈ wsX3_keep := by decide +kernel
abbrev rmX3_keep : Room := { frames := 1, cells := 0, slots := 0, locals := 63 }
def p_X3_keep_7 (N : Nat) (pch : Nat → Int32) (Q : (Nat → Int32) → Int32 → Prop) : Nat → Int32 → (Nat → Int32) → Int32 → Prop
  | 0 => fun _ _ _ => False
  | n + 1 => fun x2 pbe pbl => ((7 : Int32) ≤ x2 → (Q pbe pbl)) ∧ (¬ (7 : Int32) ≤ x2 → (vp_in x2 7 ∧ (∀ f_3 : Int32, f_3 = pch (x2).toNatClampNeg → (vp_in x2 7 ∧ (∀ x2_5 : Int32, x2_5 = x2 + (1 : Int32) → (p_X3_keep_7 N pch Q n x2_5 (upd pbe (x2).toNatClampNeg f_3) pbl))))))

def p_X3_keep (N : Nat) (pch : Nat → Int32) (Q : (Nat → Int32) → Int32 → Prop) (x1 : Int32) (pbe : Nat → Int32) (pbl : Int32) : Prop :=
  p_X3_keep_7 N pch Q N (0 : Int32) pbe x1

set_option maxHeartbeats 4000000 in
set_option maxRecDepth 100000 in
theorem k_X3_keep_7 {N : Nat} {ss : Int32} {ds : Int32} {ti : Nat → Int32} {co : Int32} {oma : Nat → Int32} {obr : Int32} {obj : Int32} {obo : Int32} {obm : Int32} {plo : Nat → Int32} {pch : Nat → Int32} {dnu : Nat → Int32} {dde : Nat → Int32} {dbo : Int32} {dln : Int32} {dld : Int32} {tba : Nat → Int32} {tal : Nat → Int32} {tro : Int32} {tsc : Int64} {tcl : Nat → Nat → Int64} {rma : Nat → Int32} {Q : (Nat → Int32) → Int32 → Prop} (C0 : cxM cX3_keep 3 none RX3 wsX3_keep p s m args meth c dC dI cy A) :
    ∀ (n : Nat) (x2 : Int32) (pbe : Nat → Int32) (pbl : Int32) (H : Heap) (locs : List Loc) (ls : Array Slot) (hm : p_X3_keep_7 N pch Q n x2 pbe pbl) (hSt : stC dC dI A s (wC ad cy ss ds ti co oma obr obj obo obm plo pch pbe pbl dnu dde dbo dln dld tba tal tro tsc tcl rma) H locs) (hl : lv_has ls 3 [(0, .ref (ad 5)), (2, .int x2)]) (hret : ∀ (pbe : Nat → Int32) (pbl : Int32) (H : Heap) (locs : List Loc) (ls : Array Slot) (pc : Nat), decode cX3_keep pc = .ok (.return_, 1) → stC dC dI A s (wC ad cy ss ds ti co oma obr obj obo obm plo pch pbe pbl dnu dde dbo dln dld tba tal tro tsc tcl rma) H locs → Q pbe pbl → W p l e rmX3_keep s m args below meth c H locs 0 0 Z (F0 m pc ls [])), W p l e rmX3_keep s m args below meth c H locs 0 0 Z (F0 m 7 ls []) := by
  obtain ⟨hx, hb, hml, hr, hown, hts, hlocks, hK, hA, hN⟩ := id C0
  intro n
  induction n with
  | zero => intro x2 pbe pbl H locs ls hm; exact False.elim hm
  | succ n ih =>
    intro x2 pbe pbl H locs ls hm hSt hl hret
    obtain ⟨hP, hD, hS⟩ := hSt
    unfold p_X3_keep_7 at hm
    refine lv_iload_n hx hb dX3_keep_7 rfl (lv_at hl 1 rfl) ?_
    refine lv_bipush (v := 7) hx hb dX3_keep_8 (by decide) ?_
    refine lv_icmp_ge (tgt := 31) hx hb dX3_keep_10 (by decide) (fun c_1 => ?_) (fun c_1 => ?_)
    · have hm := hm.1 c_1
      exact hret pbe pbl H locs ls 31 dX3_keep_31 ⟨hP, hD, hS⟩ hm
    · have hm := hm.2 c_1
      refine lv_aload_n hx hb dX3_keep_13 rfl (lv_at hl 0 rfl) ?_
      refine va_get (D := (dC, dI)) (ci := 3) (v := .ref (ad 8)) (C := RX3) (T := TX3) (N := 4) hx hb hts in_X3_keep_X3 hown hK hP 5 rfl rfl 2 (by decide) (hts _ fl_X3_keep_18) (fun _ h9 => h9) rfl dX3_keep_14 ?_
      refine lv_iload_n hx hb dX3_keep_17 rfl (lv_at hl 1 rfl) ?_
      refine lv_aload_n hx hb dX3_keep_18 rfl (lv_at hl 0 rfl) ?_
      refine va_get (D := (dC, dI)) (ci := 3) (v := .ref (ad 7)) (C := RX3) (T := TX3) (N := 4) hx hb hts in_X3_keep_X3 hown hK hP 5 rfl rfl 1 (by decide) (hts _ fl_X3_keep_15) (fun _ h9 => h9) rfl dX3_keep_19 ?_
      refine lv_iload_n hx hb dX3_keep_22 rfl (lv_at hl 1 rfl) ?_
      have hi_2 := hm.1
      have hm := hm.2
      refine va_iald hx hb hK hP 7 0 rfl rfl hi_2 dX3_keep_23 ?_
      refine lv_topi (fun f_3 ef_3 => ?_)
      have hm := hm f_3 ef_3
      have hi_4 := hm.1
      have hm := hm.2
      refine va_iast hx hb hK hP hD hS 8 0 rfl rfl hi_4 dX3_keep_24 (fun H locs hP hD hS => ?_)
      have hP : va_P (dC, dI) vwCl (wC ad cy ss ds ti co oma obr obj obo obm plo pch (upd pbe (x2).toNatClampNeg f_3) pbl dnu dde dbo dln dld tba tal tro tsc tcl rma) H := hP
      have hD : va_D A (wC ad cy ss ds ti co oma obr obj obo obm plo pch (upd pbe (x2).toNatClampNeg f_3) pbl dnu dde dbo dln dld tba tal tro tsc tcl rma) := hD
      obtain ⟨x2_5, ex2_5⟩ : ∃ y : Int32, y = x2 + (1 : Int32) := ⟨_, rfl⟩
      have hm := hm x2_5 ex2_5
      refine lv_iinc (v := x2_5) (lv' := [(2, .int x2_5), (0, .ref (ad 5))]) hx hb dX3_keep_25 hl (k := 1) rfl (by rw [ex2_5]; rfl) (by decide) rfl (fun ls hl => ?_)
      refine lv_goto (tgt := 7) hx hb dX3_keep_28 (by decide) ?_
      exact ih x2_5 (upd pbe (x2).toNatClampNeg f_3) pbl H locs ls hm ⟨hP, hD, hS⟩ (lv_sub hl [1, 0] rfl) hret

set_option maxHeartbeats 4000000 in
set_option maxRecDepth 100000 in
theorem k_X3_keep_0 {N : Nat} {ss : Int32} {ds : Int32} {ti : Nat → Int32} {co : Int32} {oma : Nat → Int32} {obr : Int32} {obj : Int32} {obo : Int32} {obm : Int32} {plo : Nat → Int32} {pch : Nat → Int32} {dnu : Nat → Int32} {dde : Nat → Int32} {dbo : Int32} {dln : Int32} {dld : Int32} {tba : Nat → Int32} {tal : Nat → Int32} {tro : Int32} {tsc : Int64} {tcl : Nat → Nat → Int64} {rma : Nat → Int32} {Q : (Nat → Int32) → Int32 → Prop} (C0 : cxM cX3_keep 3 none RX3 wsX3_keep p s m args meth c dC dI cy A) :
    ∀ (x1 : Int32) (pbe : Nat → Int32) (pbl : Int32) (H : Heap) (locs : List Loc) (ls : Array Slot) (hm : p_X3_keep N pch Q x1 pbe pbl) (hSt : stC dC dI A s (wC ad cy ss ds ti co oma obr obj obo obm plo pch pbe pbl dnu dde dbo dln dld tba tal tro tsc tcl rma) H locs) (hl : lv_has ls 3 [(0, .ref (ad 5)), (1, .int x1)]) (hret : ∀ (pbe : Nat → Int32) (pbl : Int32) (H : Heap) (locs : List Loc) (ls : Array Slot) (pc : Nat), decode cX3_keep pc = .ok (.return_, 1) → stC dC dI A s (wC ad cy ss ds ti co oma obr obj obo obm plo pch pbe pbl dnu dde dbo dln dld tba tal tro tsc tcl rma) H locs → Q pbe pbl → W p l e rmX3_keep s m args below meth c H locs 0 0 Z (F0 m pc ls [])), W p l e rmX3_keep s m args below meth c H locs 0 0 Z (F0 m 0 ls []) := by
  obtain ⟨hx, hb, hml, hr, hown, hts, hlocks, hK, hA, hN⟩ := id C0
  intro x1 pbe pbl H locs ls hm hSt hl hret
  obtain ⟨hP, hD, hS⟩ := hSt
  unfold p_X3_keep at hm
  refine lv_aload_n hx hb dX3_keep_0 rfl (lv_at hl 0 rfl) ?_
  refine lv_iload_n hx hb dX3_keep_1 rfl (lv_at hl 1 rfl) ?_
  refine va_put (D := (dC, dI)) (ci := 3) (v := .int x1) (ty := .int) (C := RX3) (T := TX3) (N := 4) hx hb hts in_X3_keep_X3 tyX3 tyX3_ok nmX3 hown hK hP hD hS 5 rfl rfl 3 (by decide) (hts _ fl_X3_keep_24) (fun _ h9 => h9) rfl (by decide +kernel) rfl rfl (Nat.le_of_ble_eq_true rfl) dX3_keep_2 (fun H locs hP hD hS => ?_)
  have hP : va_P (dC, dI) vwCl (wC ad cy ss ds ti co oma obr obj obo obm plo pch pbe x1 dnu dde dbo dln dld tba tal tro tsc tcl rma) H := hP
  have hD : va_D A (wC ad cy ss ds ti co oma obr obj obo obm plo pch pbe x1 dnu dde dbo dln dld tba tal tro tsc tcl rma) := hD
  refine lv_iconst (v := 0) hx hb dX3_keep_5 (by decide) ?_
  refine lv_istore_n (lv' := [(2, .int (0 : Int32)), (0, .ref (ad 5)), (1, .int x1)]) hx hb dX3_keep_6 rfl hl (by decide) rfl (fun ls hl => ?_)
  exact k_X3_keep_7 C0 N (0 : Int32) pbe x1 H locs ls hm ⟨hP, hD, hS⟩ (lv_sub hl [1, 0] rfl) hret

set_option maxHeartbeats 4000000 in
set_option maxRecDepth 100000 in
theorem c_X3_keep (l : Launch) (dC : Nat → ClassId) (dI : Nat → Nat → Nat) (cy : Nat → ClassId) (ad : Nat → Nat) (sz : Nat) (ss : Int32) (ds : Int32) (ti : Nat → Int32) (co : Int32) (oma : Nat → Int32) (obr : Int32) (obj : Int32) (obo : Int32) (obm : Int32) (plo : Nat → Int32) (pch : Nat → Int32) (pbe : Nat → Int32) (pbl : Int32) (dnu : Nat → Int32) (dde : Nat → Int32) (dbo : Int32) (dln : Int32) (dld : Int32) (tba : Nat → Int32) (tal : Nat → Int32) (tro : Int32) (tsc : Int64) (tcl : Nat → Nat → Int64) (rma : Nat → Int32) (x1 : Int32) (N : Nat) (Q : (Nat → Int32) → Int32 → Prop) (hm : p_X3_keep N pch Q x1 pbe pbl) : Met l yX3_keep wsX3_keep rmX3_keep (va_Pc [.ref (ad 5), .int x1] (cPre dC dI cy (wC ad cy ss ds ti co oma obr obj obo obm plo pch pbe pbl dnu dde dbo dln dld tba tal tro tsc tcl rma) sz)) (va_Qv (fun (u : (Nat → Int32) × Int32) => Q u.1 u.2) (fun u t => cPost dC dI cy (wC ad cy ss ds ti co oma obr obj obo obm plo pch pbe pbl dnu dde dbo dln dld tba tal tro tsc tcl rma) sz (wC ad cy ss ds ti co oma obr obj obo obm plo pch (u.1) (u.2) dnu dde dbo dln dld tba tal tro tsc tcl rma) t) (va_A (wC ad cy ss ds ti co oma obr obj obo obm plo pch pbe pbl dnu dde dbo dln dld tba tal tro tsc tcl rma) sz)) 0 0 (va_A (wC ad cy ss ds ti co oma obr obj obo obm plo pch pbe pbl dnu dde dbo dln dld tba tal tro tsc tcl rma) sz) := by
  refine Met.ofW (cc := cX3_keep) (maxL := 3) (ret := none) (by decide) rfl ?_
  intro p e s m args below meth c s₁ B hml hv
  obtain ⟨rfl, hsz, hP, hK, hD0, hN⟩ := hv
  have hts := atoms_spec (ws := wsX3_keep) B.pre
  have hown : s.vm.findClass RX3 = some m.cls := findClass_of_methodNamed B.named
  subst hsz
  have hD := hD0.self (sz := s.heap.size)
  generalize hAe : va_A (wC ad cy ss ds ti co oma obr obj obo obm plo pch pbe pbl dnu dde dbo dln dld tba tal tro tsc tcl rma) s.heap.size = A at hD ⊢
  have hA : ∀ q : Nat, s.heap.size ≤ q → A q := fun q h => by rw [← hAe]; exact Or.inr h
  have hl := lv_entry ([.ref (ad 5), .int x1]) (n := 3) (Nat.le_of_ble_eq_true rfl)
  rw [lg_entry_eq]
  generalize (lg_sl ([.ref (ad 5), .int x1]) ++ List.replicate (3 - (lg_sl ([.ref (ad 5), .int x1])).length) Slot.unset).toArray = ls at hl ⊢
  have hl : lv_has ls 3 [(0, .ref (ad 5)), (1, .int x1)] := hl
  exact k_X3_keep_0 ⟨B.exec, B.bytes, hml, B.returns, hown, hts, B.notSynchronized, hK, hA, hN⟩ x1 pbe pbl s.heap [] ls hm ⟨hP, hD, va_S.rf⟩ (lv_sub hl [0, 1] rfl) (fun pbe pbl H locs ls pc hdg hSt hq => W.vret B.exec B.bytes B.returns (fun t ht hW => ⟨⟨(pbe, pbl), rfl, hq, cPost_of hAe ht hW.alike hSt hK⟩, hSt.2.2.F ht⟩) hSt.2.2.2.2 hdg B.notSynchronized)

-- ===== X3_searchFrom
theorem fl_X3_searchFrom_24 : Cond.fieldLink RX3 24 "UnlikeUnion$PlanSearch" "bestLength" "I" ∈ wsX3_searchFrom := by decide +kernel
theorem fl_X3_searchFrom_15 : Cond.fieldLink RX3 15 "UnlikeUnion$PlanSearch" "chosen" "[I" ∈ wsX3_searchFrom := by decide +kernel
theorem fl_X3_searchFrom_9 : Cond.fieldLink RX3 9 "UnlikeUnion$PlanSearch" "loads" "[I" ∈ wsX3_searchFrom := by decide +kernel
theorem in_X3_searchFrom_X1 : ∀ w ∈ u_ws RX1 TX1 2, w ∈ wsX3_searchFrom := by decide +kernel
theorem in_X3_searchFrom_X3 : ∀ w ∈ u_ws RX3 TX3 4, w ∈ wsX3_searchFrom := by decide +kernel
abbrev rmX3_searchFrom (d : Nat) : Room := { frames := d + 20, cells := 0, slots := 0, locals := 200 * d + 2000 }
theorem rm_X3_searchFrom_fit {d : Nat} : (rmX3_searchFrom d).frames + 1 ≤ (rmX3_searchFrom (d + 1)).frames ∧ 8 + (6 + 11) + (rmX3_searchFrom d).locals ≤ (rmX3_searchFrom (d + 1)).locals := by simp only []; omega
theorem rm_X3_searchFrom_f {d k : Nat} (h : k ≤ 20) : k ≤ (rmX3_searchFrom (d + 1)).frames := by simp only []; omega
theorem rm_X3_searchFrom_l {d k : Nat} (h : k ≤ 2000) : k ≤ (rmX3_searchFrom (d + 1)).locals := by simp only []; omega
def p_X3_searchFrom_37 (N : Nat) (ti : Nat → Int32) (co : Int32) (REC : ((Nat → Int32) → (Nat → Int32) → (Nat → Int32) → Int32 → Prop) → Int32 → (Nat → Int32) → (Nat → Int32) → (Nat → Int32) → Int32 → Prop) (Q : (Nat → Int32) → (Nat → Int32) → (Nat → Int32) → Int32 → Prop) : Nat → Int32 → Int32 → (Nat → Int32) → (Nat → Int32) → (Nat → Int32) → Int32 → Prop
  | 0 => fun _ _ _ _ _ _ => False
  | n + 1 => fun x2 x4 plo pch pbe pbl => ((3 : Int32) ≤ x4 → (Q plo pch pbe pbl)) ∧ (¬ (3 : Int32) ≤ x4 → (p_X1_timeOn N ti co (fun r_2 => (r_2 ≤ 0 → (∀ x4_4 : Int32, x4_4 = x4 + (1 : Int32) → (p_X3_searchFrom_37 N ti co REC Q n x2 x4_4 plo pch pbe pbl))) ∧ (¬ r_2 ≤ 0 → (vp_in x2 7 ∧ (vp_in x4 3 ∧ (∀ f_7 : Int32, f_7 = (plo (x4).toNatClampNeg) + r_2 → (vp_in x4 3 ∧ (REC (fun plo_9 pch_10 pbe_11 pbl_12 => vp_in x4 3 ∧ (∀ f_14 : Int32, f_14 = (plo_9 (x4).toNatClampNeg) - r_2 → (vp_in x4 3 ∧ (∀ x4_16 : Int32, x4_16 = x4 + (1 : Int32) → (p_X3_searchFrom_37 N ti co REC Q n x2 x4_16 (upd plo_9 (x4).toNatClampNeg f_14) pch_10 pbe_11 pbl_12))))) (x2 + (1 : Int32)) (upd plo (x4).toNatClampNeg f_7) (upd pch (x2).toNatClampNeg x4) pbe pbl))))))) x2 x4))

def p_X3_searchFrom (N : Nat) (ti : Nat → Int32) (co : Int32) : Nat → ((Nat → Int32) → (Nat → Int32) → (Nat → Int32) → Int32 → Prop) → Int32 → (Nat → Int32) → (Nat → Int32) → (Nat → Int32) → Int32 → Prop
  | 0 => fun _ _ _ _ _ _ => False
  | n + 1 => fun Q x2 plo pch pbe pbl => p_X3_greatest N plo (fun r_1 => (r_1 < pbl → ((co ≤ x2 → (p_X3_keep N pch (fun pbe_4 pbl_5 => Q plo pch pbe_4 pbl_5) r_1 pbe pbl)) ∧ (¬ co ≤ x2 → ((x2 < (7 : Int32) → (p_X3_searchFrom_37 N ti co (p_X3_searchFrom N ti co n) Q N x2 (0 : Int32) plo pch pbe pbl)) ∧ (¬ x2 < (7 : Int32) → (p_X3_keep N pch (fun pbe_7 pbl_8 => Q plo pch pbe_7 pbl_8) r_1 pbe pbl)))))) ∧ (¬ r_1 < pbl → (Q plo pch pbe pbl))) 

set_option maxHeartbeats 4000000 in
set_option maxRecDepth 100000 in
theorem k_X3_searchFrom_37 {N : Nat} {ss : Int32} {ds : Int32} {ti : Nat → Int32} {co : Int32} {oma : Nat → Int32} {obr : Int32} {obj : Int32} {obo : Int32} {obm : Int32} {dnu : Nat → Int32} {dde : Nat → Int32} {dbo : Int32} {dln : Int32} {dld : Int32} {tba : Nat → Int32} {tal : Nat → Int32} {tro : Int32} {tsc : Int64} {tcl : Nat → Nat → Int64} {rma : Nat → Int32} {recd : Nat} {REC : ((Nat → Int32) → (Nat → Int32) → (Nat → Int32) → Int32 → Prop) → Int32 → (Nat → Int32) → (Nat → Int32) → (Nat → Int32) → Int32 → Prop} {Q : (Nat → Int32) → (Nat → Int32) → (Nat → Int32) → Int32 → Prop} (C0 : cxM cX3_searchFrom 6 none RX3 wsX3_searchFrom p s m args meth c dC dI cy A) :
    ∀ (n : Nat) (x2 : Int32) (x4 : Int32) (plo : Nat → Int32) (pch : Nat → Int32) (pbe : Nat → Int32) (pbl : Int32) (H : Heap) (locs : List Loc) (ls : Array Slot) (hm : p_X3_searchFrom_37 N ti co REC Q n x2 x4 plo pch pbe pbl) (hSt : stC dC dI A s (wC ad cy ss ds ti co oma obr obj obo obm plo pch pbe pbl dnu dde dbo dln dld tba tal tro tsc tcl rma) H locs) (hl : lv_has ls 6 [(0, .ref (ad 5)), (1, .ref (ad 1)), (2, .int x2), (4, .int x4)]) (hret : ∀ (plo : Nat → Int32) (pch : Nat → Int32) (pbe : Nat → Int32) (pbl : Int32) (H : Heap) (locs : List Loc) (ls : Array Slot) (pc : Nat), decode cX3_searchFrom pc = .ok (.return_, 1) → stC dC dI A s (wC ad cy ss ds ti co oma obr obj obo obm plo pch pbe pbl dnu dde dbo dln dld tba tal tro tsc tcl rma) H locs → Q plo pch pbe pbl → W p l e (rmX3_searchFrom (recd + 1)) s m args below meth c H locs 0 0 Z (F0 m pc ls [])) (hrec : ∀ (sz : Nat) (ss : Int32) (ds : Int32) (oma : Nat → Int32) (obr : Int32) (obj : Int32) (obo : Int32) (obm : Int32) (plo : Nat → Int32) (pch : Nat → Int32) (pbe : Nat → Int32) (pbl : Int32) (dnu : Nat → Int32) (dde : Nat → Int32) (dbo : Int32) (dln : Int32) (dld : Int32) (tba : Nat → Int32) (tal : Nat → Int32) (tro : Int32) (tsc : Int64) (tcl : Nat → Nat → Int64) (rma : Nat → Int32) (x2 : Int32) (Q : (Nat → Int32) → (Nat → Int32) → (Nat → Int32) → Int32 → Prop), REC Q x2 plo pch pbe pbl → Met l yX3_searchFrom wsX3_searchFrom (rmX3_searchFrom recd) (va_Pc [.ref (ad 5), .ref (ad 1), .int x2] (cPre dC dI cy (wC ad cy ss ds ti co oma obr obj obo obm plo pch pbe pbl dnu dde dbo dln dld tba tal tro tsc tcl rma) sz)) (va_Qv (fun (u : (Nat → Int32) × (Nat → Int32) × (Nat → Int32) × Int32) => Q u.1 u.2.1 u.2.2.1 u.2.2.2) (fun u t => cPost dC dI cy (wC ad cy ss ds ti co oma obr obj obo obm plo pch pbe pbl dnu dde dbo dln dld tba tal tro tsc tcl rma) sz (wC ad cy ss ds ti co oma obr obj obo obm (u.1) (u.2.1) (u.2.2.1) (u.2.2.2) dnu dde dbo dln dld tba tal tro tsc tcl rma) t) (va_A (wC ad cy ss ds ti co oma obr obj obo obm plo pch pbe pbl dnu dde dbo dln dld tba tal tro tsc tcl rma) sz)) 0 0 (va_A (wC ad cy ss ds ti co oma obr obj obo obm plo pch pbe pbl dnu dde dbo dln dld tba tal tro tsc tcl rma) sz)), W p l e (rmX3_searchFrom (recd + 1)) s m args below meth c H locs 0 0 Z (F0 m 37 ls []) := by
  obtain ⟨hx, hb, hml, hr, hown, hts, hlocks, hK, hA, hN⟩ := id C0
  intro n
  induction n with
  | zero => intro x2 x4 plo pch pbe pbl H locs ls hm; exact False.elim hm
  | succ n ih =>
    intro x2 x4 plo pch pbe pbl H locs ls hm hSt hl hret hrec
    obtain ⟨hP, hD, hS⟩ := hSt
    unfold p_X3_searchFrom_37 at hm
    refine lv_iload hx hb dX3_searchFrom_37 (lv_at hl 3 rfl) ?_
    refine lv_iconst (v := 3) hx hb dX3_searchFrom_39 (by decide) ?_
    refine lv_icmp_ge (tgt := 103) hx hb dX3_searchFrom_40 (by decide) (fun c_1 => ?_) (fun c_1 => ?_)
    · have hm := hm.1 c_1
      exact hret plo pch pbe pbl H locs ls 103 dX3_searchFrom_103 ⟨hP, hD, hS⟩ hm
    · have hm := hm.2 c_1
      refine lv_aload_n hx hb dX3_searchFrom_43 rfl (lv_at hl 1 rfl) ?_
      refine lv_iload_n hx hb dX3_searchFrom_44 rfl (lv_at hl 2 rfl) ?_
      refine lv_iload hx hb dX3_searchFrom_45 (lv_at hl 3 rfl) ?_
      have hFc := va_freeSame hD hS hA
      refine va_calli (va_runV (As := [.int x2, .int x4]) (rest := []) ⟨hx, hb, hml, hown, hts⟩ (c_X1_timeOn l dC dI cy ad H.size ss ds ti co oma obr obj obo obm plo pch pbe pbl dnu dde dbo dln dld tba tal tro tsc tcl rma x2 x4 _ _ hm) (cwV 2 hts gX3_searchFrom_X1_timeOn rfl rfl rfl (by decide +kernel) ⟨rm_X3_searchFrom_f (Nat.le_of_ble_eq_true rfl), rm_X3_searchFrom_l (Nat.le_of_ble_eq_true rfl)⟩) ⟨cPre_blind, va_recv hK hP (ci := 1) (q0 := 1) rfl rfl, fun U hU hW => ⟨rfl, cPre_at hP hK hD hN hU hW⟩⟩ rfl rfl hl.1 rfl (lv_room (Nat.le_of_ble_eq_true rfl)) dX3_searchFrom_47 ⟨Nat.zero_le _, Nat.zero_le _⟩) hS (fun q _ h => hFc q h) hFc (fun r_2 u t H locs ht hvm hw hB hz1 hk1 hS => ?_)
      try dsimp only at hw
      have hm := hw
      have hP : va_P (dC, dI) vwCl (wC ad cy ss ds ti co oma obr obj obo obm plo pch pbe pbl dnu dde dbo dln dld tba tal tro tsc tcl rma) H := cPost_P ht hB
      have hD : va_D A (wC ad cy ss ds ti co oma obr obj obo obm plo pch pbe pbl dnu dde dbo dln dld tba tal tro tsc tcl rma) := cPost_D hFc hB
      refine lv_istore (lv' := [(5, .int r_2), (0, .ref (ad 5)), (1, .ref (ad 1)), (2, .int x2), (4, .int x4)]) hx hb dX3_searchFrom_50 hl (by decide) rfl (fun ls hl => ?_)
      refine lv_iload hx hb dX3_searchFrom_52 (lv_at hl 0 rfl) ?_
      refine lv_if_le (tgt := 97) hx hb dX3_searchFrom_54 (by decide) (fun c_3 => ?_) (fun c_3 => ?_)
      · have hm := hm.1 c_3
        obtain ⟨x4_4, ex4_4⟩ : ∃ y : Int32, y = x4 + (1 : Int32) := ⟨_, rfl⟩
        have hm := hm x4_4 ex4_4
        refine lv_iinc (v := x4_4) (lv' := [(4, .int x4_4), (5, .int r_2), (0, .ref (ad 5)), (1, .ref (ad 1)), (2, .int x2)]) hx hb dX3_searchFrom_97 hl (k := 4) rfl (by rw [ex4_4]; rfl) (by decide) rfl (fun ls hl => ?_)
        refine lv_goto (tgt := 37) hx hb dX3_searchFrom_100 (by decide) ?_
        exact ih x2 x4_4 plo pch pbe pbl H locs ls hm ⟨hP, hD, hS⟩ (lv_sub hl [2, 3, 4, 0] rfl) hret hrec
      · have hm := hm.2 c_3
        refine lv_aload_n hx hb dX3_searchFrom_57 rfl (lv_at hl 1 rfl) ?_
        refine va_get (D := (dC, dI)) (ci := 3) (v := .ref (ad 7)) (C := RX3) (T := TX3) (N := 4) hx hb hts in_X3_searchFrom_X3 hown hK hP 5 rfl rfl 1 (by decide) (hts _ fl_X3_searchFrom_15) (fun _ h9 => h9) rfl dX3_searchFrom_58 ?_
        refine lv_iload_n hx hb dX3_searchFrom_61 rfl (lv_at hl 3 rfl) ?_
        refine lv_iload hx hb dX3_searchFrom_62 (lv_at hl 4 rfl) ?_
        have hi_5 := hm.1
        have hm := hm.2
        refine va_iast hx hb hK hP hD hS 7 0 rfl rfl hi_5 dX3_searchFrom_64 (fun H locs hP hD hS => ?_)
        have hP : va_P (dC, dI) vwCl (wC ad cy ss ds ti co oma obr obj obo obm plo (upd pch (x2).toNatClampNeg x4) pbe pbl dnu dde dbo dln dld tba tal tro tsc tcl rma) H := hP
        have hD : va_D A (wC ad cy ss ds ti co oma obr obj obo obm plo (upd pch (x2).toNatClampNeg x4) pbe pbl dnu dde dbo dln dld tba tal tro tsc tcl rma) := hD
        refine lv_aload_n hx hb dX3_searchFrom_65 rfl (lv_at hl 1 rfl) ?_
        refine va_get (D := (dC, dI)) (ci := 3) (v := .ref (ad 6)) (C := RX3) (T := TX3) (N := 4) hx hb hts in_X3_searchFrom_X3 hown hK hP 5 rfl rfl 0 (by decide) (hts _ fl_X3_searchFrom_9) (fun _ h9 => h9) rfl dX3_searchFrom_66 ?_
        refine lv_iload hx hb dX3_searchFrom_69 (lv_at hl 4 rfl) ?_
        refine lv_dup2_11 hx hb dX3_searchFrom_71 rfl rfl ?_
        have hi_6 := hm.1
        have hm := hm.2
        refine va_iald hx hb hK hP 6 0 rfl rfl hi_6 dX3_searchFrom_72 ?_
        refine lv_iload hx hb dX3_searchFrom_73 (lv_at hl 0 rfl) ?_
        refine lv_iadd hx hb dX3_searchFrom_75 ?_
        refine lv_topi (fun f_7 ef_7 => ?_)
        have hm := hm f_7 ef_7
        have hi_8 := hm.1
        have hm := hm.2
        refine va_iast hx hb hK hP hD hS 6 0 rfl rfl hi_8 dX3_searchFrom_76 (fun H locs hP hD hS => ?_)
        have hP : va_P (dC, dI) vwCl (wC ad cy ss ds ti co oma obr obj obo obm (upd plo (x4).toNatClampNeg f_7) (upd pch (x2).toNatClampNeg x4) pbe pbl dnu dde dbo dln dld tba tal tro tsc tcl rma) H := hP
        have hD : va_D A (wC ad cy ss ds ti co oma obr obj obo obm (upd plo (x4).toNatClampNeg f_7) (upd pch (x2).toNatClampNeg x4) pbe pbl dnu dde dbo dln dld tba tal tro tsc tcl rma) := hD
        refine lv_aload_n hx hb dX3_searchFrom_77 rfl (lv_at hl 1 rfl) ?_
        refine lv_aload_n hx hb dX3_searchFrom_78 rfl (lv_at hl 2 rfl) ?_
        refine lv_iload_n hx hb dX3_searchFrom_79 rfl (lv_at hl 3 rfl) ?_
        refine lv_iconst (v := 1) hx hb dX3_searchFrom_80 (by decide) ?_
        refine lv_iadd hx hb dX3_searchFrom_81 ?_
        have hFc := va_freeSame hD hS hA
        refine va_callv (va_runS (As := [.ref (ad 5), .ref (ad 1), .int (x2 + (1 : Int32))]) (rest := []) ⟨hx, hb, hml, hown, hts⟩ (hrec H.size ss ds oma obr obj obo obm (upd plo (x4).toNatClampNeg f_7) (upd pch (x2).toNatClampNeg x4) pbe pbl dnu dde dbo dln dld tba tal tro tsc tcl rma (x2 + (1 : Int32)) _ hm) (cwS 3 hts gX3_searchFrom_X3_searchFrom rfl rfl rfl (by decide +kernel) rm_X3_searchFrom_fit) ⟨cPre_blind, fun U hU hW => ⟨rfl, cPre_at hP hK hD hN hU hW⟩⟩ rfl rfl hl.1 rfl (lv_room (Nat.le_of_ble_eq_true rfl)) dX3_searchFrom_82 ⟨Nat.zero_le _, Nat.zero_le _⟩) hS (fun q _ h => hFc q h) hFc (fun u t H locs ht hvm hw hB hz1 hk1 hS => ?_)
        obtain ⟨plo_9, pch_10, pbe_11, pbl_12⟩ := u
        try dsimp only at hw
        have hm := hw
        have hP : va_P (dC, dI) vwCl (wC ad cy ss ds ti co oma obr obj obo obm plo_9 pch_10 pbe_11 pbl_12 dnu dde dbo dln dld tba tal tro tsc tcl rma) H := cPost_P ht hB
        have hD : va_D A (wC ad cy ss ds ti co oma obr obj obo obm plo_9 pch_10 pbe_11 pbl_12 dnu dde dbo dln dld tba tal tro tsc tcl rma) := cPost_D hFc hB
        refine lv_aload_n hx hb dX3_searchFrom_85 rfl (lv_at hl 1 rfl) ?_
        refine va_get (D := (dC, dI)) (ci := 3) (v := .ref (ad 6)) (C := RX3) (T := TX3) (N := 4) hx hb hts in_X3_searchFrom_X3 hown hK hP 5 rfl rfl 0 (by decide) (hts _ fl_X3_searchFrom_9) (fun _ h9 => h9) rfl dX3_searchFrom_86 ?_
        refine lv_iload hx hb dX3_searchFrom_89 (lv_at hl 4 rfl) ?_
        refine lv_dup2_11 hx hb dX3_searchFrom_91 rfl rfl ?_
        have hi_13 := hm.1
        have hm := hm.2
        refine va_iald hx hb hK hP 6 0 rfl rfl hi_13 dX3_searchFrom_92 ?_
        refine lv_iload hx hb dX3_searchFrom_93 (lv_at hl 0 rfl) ?_
        refine lv_isub hx hb dX3_searchFrom_95 ?_
        refine lv_topi (fun f_14 ef_14 => ?_)
        have hm := hm f_14 ef_14
        have hi_15 := hm.1
        have hm := hm.2
        refine va_iast hx hb hK hP hD hS 6 0 rfl rfl hi_15 dX3_searchFrom_96 (fun H locs hP hD hS => ?_)
        have hP : va_P (dC, dI) vwCl (wC ad cy ss ds ti co oma obr obj obo obm (upd plo_9 (x4).toNatClampNeg f_14) pch_10 pbe_11 pbl_12 dnu dde dbo dln dld tba tal tro tsc tcl rma) H := hP
        have hD : va_D A (wC ad cy ss ds ti co oma obr obj obo obm (upd plo_9 (x4).toNatClampNeg f_14) pch_10 pbe_11 pbl_12 dnu dde dbo dln dld tba tal tro tsc tcl rma) := hD
        obtain ⟨x4_16, ex4_16⟩ : ∃ y : Int32, y = x4 + (1 : Int32) := ⟨_, rfl⟩
        have hm := hm x4_16 ex4_16
        refine lv_iinc (v := x4_16) (lv' := [(4, .int x4_16), (5, .int r_2), (0, .ref (ad 5)), (1, .ref (ad 1)), (2, .int x2)]) hx hb dX3_searchFrom_97 hl (k := 4) rfl (by rw [ex4_16]; rfl) (by decide) rfl (fun ls hl => ?_)
        refine lv_goto (tgt := 37) hx hb dX3_searchFrom_100 (by decide) ?_
        exact ih x2 x4_16 (upd plo_9 (x4).toNatClampNeg f_14) pch_10 pbe_11 pbl_12 H locs ls hm ⟨hP, hD, hS⟩ (lv_sub hl [2, 3, 4, 0] rfl) hret hrec

set_option maxHeartbeats 4000000 in
set_option maxRecDepth 100000 in
theorem k_X3_searchFrom_0 {N : Nat} {ss : Int32} {ds : Int32} {ti : Nat → Int32} {co : Int32} {oma : Nat → Int32} {obr : Int32} {obj : Int32} {obo : Int32} {obm : Int32} {dnu : Nat → Int32} {dde : Nat → Int32} {dbo : Int32} {dln : Int32} {dld : Int32} {tba : Nat → Int32} {tal : Nat → Int32} {tro : Int32} {tsc : Int64} {tcl : Nat → Nat → Int64} {rma : Nat → Int32} {recd : Nat} {Q : (Nat → Int32) → (Nat → Int32) → (Nat → Int32) → Int32 → Prop} (C0 : cxM cX3_searchFrom 6 none RX3 wsX3_searchFrom p s m args meth c dC dI cy A) :
    ∀ (x2 : Int32) (plo : Nat → Int32) (pch : Nat → Int32) (pbe : Nat → Int32) (pbl : Int32) (H : Heap) (locs : List Loc) (ls : Array Slot) (hm : p_X3_searchFrom N ti co (recd + 1) Q x2 plo pch pbe pbl) (hSt : stC dC dI A s (wC ad cy ss ds ti co oma obr obj obo obm plo pch pbe pbl dnu dde dbo dln dld tba tal tro tsc tcl rma) H locs) (hl : lv_has ls 6 [(0, .ref (ad 5)), (1, .ref (ad 1)), (2, .int x2)]) (hret : ∀ (plo : Nat → Int32) (pch : Nat → Int32) (pbe : Nat → Int32) (pbl : Int32) (H : Heap) (locs : List Loc) (ls : Array Slot) (pc : Nat), decode cX3_searchFrom pc = .ok (.return_, 1) → stC dC dI A s (wC ad cy ss ds ti co oma obr obj obo obm plo pch pbe pbl dnu dde dbo dln dld tba tal tro tsc tcl rma) H locs → Q plo pch pbe pbl → W p l e (rmX3_searchFrom (recd + 1)) s m args below meth c H locs 0 0 Z (F0 m pc ls [])) (hrec : ∀ (sz : Nat) (ss : Int32) (ds : Int32) (oma : Nat → Int32) (obr : Int32) (obj : Int32) (obo : Int32) (obm : Int32) (plo : Nat → Int32) (pch : Nat → Int32) (pbe : Nat → Int32) (pbl : Int32) (dnu : Nat → Int32) (dde : Nat → Int32) (dbo : Int32) (dln : Int32) (dld : Int32) (tba : Nat → Int32) (tal : Nat → Int32) (tro : Int32) (tsc : Int64) (tcl : Nat → Nat → Int64) (rma : Nat → Int32) (x2 : Int32) (Q : (Nat → Int32) → (Nat → Int32) → (Nat → Int32) → Int32 → Prop), p_X3_searchFrom N ti co recd Q x2 plo pch pbe pbl → Met l yX3_searchFrom wsX3_searchFrom (rmX3_searchFrom recd) (va_Pc [.ref (ad 5), .ref (ad 1), .int x2] (cPre dC dI cy (wC ad cy ss ds ti co oma obr obj obo obm plo pch pbe pbl dnu dde dbo dln dld tba tal tro tsc tcl rma) sz)) (va_Qv (fun (u : (Nat → Int32) × (Nat → Int32) × (Nat → Int32) × Int32) => Q u.1 u.2.1 u.2.2.1 u.2.2.2) (fun u t => cPost dC dI cy (wC ad cy ss ds ti co oma obr obj obo obm plo pch pbe pbl dnu dde dbo dln dld tba tal tro tsc tcl rma) sz (wC ad cy ss ds ti co oma obr obj obo obm (u.1) (u.2.1) (u.2.2.1) (u.2.2.2) dnu dde dbo dln dld tba tal tro tsc tcl rma) t) (va_A (wC ad cy ss ds ti co oma obr obj obo obm plo pch pbe pbl dnu dde dbo dln dld tba tal tro tsc tcl rma) sz)) 0 0 (va_A (wC ad cy ss ds ti co oma obr obj obo obm plo pch pbe pbl dnu dde dbo dln dld tba tal tro tsc tcl rma) sz)), W p l e (rmX3_searchFrom (recd + 1)) s m args below meth c H locs 0 0 Z (F0 m 0 ls []) := by
  obtain ⟨hx, hb, hml, hr, hown, hts, hlocks, hK, hA, hN⟩ := id C0
  intro x2 plo pch pbe pbl H locs ls hm hSt hl hret hrec
  obtain ⟨hP, hD, hS⟩ := hSt
  unfold p_X3_searchFrom at hm
  refine lv_aload_n hx hb dX3_searchFrom_0 rfl (lv_at hl 0 rfl) ?_
  have hFc := va_freeSame hD hS hA
  refine va_calli (va_runV (As := []) (rest := []) ⟨hx, hb, hml, hown, hts⟩ (c_X3_greatest l dC dI cy ad H.size ss ds ti co oma obr obj obo obm plo pch pbe pbl dnu dde dbo dln dld tba tal tro tsc tcl rma  _ _ hm) (cwV 0 hts gX3_searchFrom_X3_greatest rfl rfl rfl (by decide +kernel) ⟨rm_X3_searchFrom_f (Nat.le_of_ble_eq_true rfl), rm_X3_searchFrom_l (Nat.le_of_ble_eq_true rfl)⟩) ⟨cPre_blind, va_recv hK hP (ci := 3) (q0 := 5) rfl rfl, fun U hU hW => ⟨rfl, cPre_at hP hK hD hN hU hW⟩⟩ rfl rfl hl.1 rfl (lv_room (Nat.le_of_ble_eq_true rfl)) dX3_searchFrom_1 ⟨Nat.zero_le _, Nat.zero_le _⟩) hS (fun q _ h => hFc q h) hFc (fun r_1 u t H locs ht hvm hw hB hz1 hk1 hS => ?_)
  try dsimp only at hw
  have hm := hw
  have hP : va_P (dC, dI) vwCl (wC ad cy ss ds ti co oma obr obj obo obm plo pch pbe pbl dnu dde dbo dln dld tba tal tro tsc tcl rma) H := cPost_P ht hB
  have hD : va_D A (wC ad cy ss ds ti co oma obr obj obo obm plo pch pbe pbl dnu dde dbo dln dld tba tal tro tsc tcl rma) := cPost_D hFc hB
  refine lv_istore_n (lv' := [(3, .int r_1), (0, .ref (ad 5)), (1, .ref (ad 1)), (2, .int x2)]) hx hb dX3_searchFrom_4 rfl hl (by decide) rfl (fun ls hl => ?_)
  refine lv_iload_n hx hb dX3_searchFrom_5 rfl (lv_at hl 0 rfl) ?_
  refine lv_aload_n hx hb dX3_searchFrom_6 rfl (lv_at hl 1 rfl) ?_
  refine va_get (D := (dC, dI)) (ci := 3) (v := .int pbl) (C := RX3) (T := TX3) (N := 4) hx hb hts in_X3_searchFrom_X3 hown hK hP 5 rfl rfl 3 (by decide) (hts _ fl_X3_searchFrom_24) (fun _ h9 => h9) rfl dX3_searchFrom_7 ?_
  refine lv_icmp_lt (tgt := 14) hx hb dX3_searchFrom_10 (by decide) (fun c_2 => ?_) (fun c_2 => ?_)
  · have hm := hm.1 c_2
    refine lv_iload_n hx hb dX3_searchFrom_14 rfl (lv_at hl 3 rfl) ?_
    refine lv_aload_n hx hb dX3_searchFrom_15 rfl (lv_at hl 2 rfl) ?_
    refine va_getN (D := (dC, dI)) (ci := 1) (v := .int co) (C := RX1) (T := TX1) (N := 2) hx hb hts in_X3_searchFrom_X1 hown hK hP 1 rfl rfl 1 (by decide) (va_Nw.use rfl (nw_X3_40 hN)) (fun _ h9 => h9) rfl dX3_searchFrom_16 ?_
    refine lv_icmp_ge (tgt := 28) hx hb dX3_searchFrom_19 (by decide) (fun c_3 => ?_) (fun c_3 => ?_)
    · have hm := hm.1 c_3
      refine lv_aload_n hx hb dX3_searchFrom_28 rfl (lv_at hl 1 rfl) ?_
      refine lv_iload_n hx hb dX3_searchFrom_29 rfl (lv_at hl 0 rfl) ?_
      have hFc := va_freeSame hD hS hA
      refine va_callv (va_runV (As := [.int r_1]) (rest := []) ⟨hx, hb, hml, hown, hts⟩ (c_X3_keep l dC dI cy ad H.size ss ds ti co oma obr obj obo obm plo pch pbe pbl dnu dde dbo dln dld tba tal tro tsc tcl rma r_1 _ _ hm) (cwV 1 hts gX3_searchFrom_X3_keep rfl rfl rfl (by decide +kernel) ⟨rm_X3_searchFrom_f (Nat.le_of_ble_eq_true rfl), rm_X3_searchFrom_l (Nat.le_of_ble_eq_true rfl)⟩) ⟨cPre_blind, va_recv hK hP (ci := 3) (q0 := 5) rfl rfl, fun U hU hW => ⟨rfl, cPre_at hP hK hD hN hU hW⟩⟩ rfl rfl hl.1 rfl (lv_room (Nat.le_of_ble_eq_true rfl)) dX3_searchFrom_30 ⟨Nat.zero_le _, Nat.zero_le _⟩) hS (fun q _ h => hFc q h) hFc (fun u t H locs ht hvm hw hB hz1 hk1 hS => ?_)
      obtain ⟨pbe_4, pbl_5⟩ := u
      try dsimp only at hw
      have hm := hw
      have hP : va_P (dC, dI) vwCl (wC ad cy ss ds ti co oma obr obj obo obm plo pch pbe_4 pbl_5 dnu dde dbo dln dld tba tal tro tsc tcl rma) H := cPost_P ht hB
      have hD : va_D A (wC ad cy ss ds ti co oma obr obj obo obm plo pch pbe_4 pbl_5 dnu dde dbo dln dld tba tal tro tsc tcl rma) := cPost_D hFc hB
      exact hret plo pch pbe_4 pbl_5 H locs ls 33 dX3_searchFrom_33 ⟨hP, hD, hS⟩ hm
    · have hm := hm.2 c_3
      refine lv_iload_n hx hb dX3_searchFrom_22 rfl (lv_at hl 3 rfl) ?_
      refine lv_bipush (v := 7) hx hb dX3_searchFrom_23 (by decide) ?_
      refine lv_icmp_lt (tgt := 34) hx hb dX3_searchFrom_25 (by decide) (fun c_6 => ?_) (fun c_6 => ?_)
      · have hm := hm.1 c_6
        refine lv_iconst (v := 0) hx hb dX3_searchFrom_34 (by decide) ?_
        refine lv_istore (lv' := [(4, .int (0 : Int32)), (3, .int r_1), (0, .ref (ad 5)), (1, .ref (ad 1)), (2, .int x2)]) hx hb dX3_searchFrom_35 hl (by decide) rfl (fun ls hl => ?_)
        exact k_X3_searchFrom_37 C0 N x2 (0 : Int32) plo pch pbe pbl H locs ls hm ⟨hP, hD, hS⟩ (lv_sub hl [2, 3, 4, 0] rfl) hret hrec
      · have hm := hm.2 c_6
        refine lv_aload_n hx hb dX3_searchFrom_28 rfl (lv_at hl 1 rfl) ?_
        refine lv_iload_n hx hb dX3_searchFrom_29 rfl (lv_at hl 0 rfl) ?_
        have hFc := va_freeSame hD hS hA
        refine va_callv (va_runV (As := [.int r_1]) (rest := []) ⟨hx, hb, hml, hown, hts⟩ (c_X3_keep l dC dI cy ad H.size ss ds ti co oma obr obj obo obm plo pch pbe pbl dnu dde dbo dln dld tba tal tro tsc tcl rma r_1 _ _ hm) (cwV 1 hts gX3_searchFrom_X3_keep rfl rfl rfl (by decide +kernel) ⟨rm_X3_searchFrom_f (Nat.le_of_ble_eq_true rfl), rm_X3_searchFrom_l (Nat.le_of_ble_eq_true rfl)⟩) ⟨cPre_blind, va_recv hK hP (ci := 3) (q0 := 5) rfl rfl, fun U hU hW => ⟨rfl, cPre_at hP hK hD hN hU hW⟩⟩ rfl rfl hl.1 rfl (lv_room (Nat.le_of_ble_eq_true rfl)) dX3_searchFrom_30 ⟨Nat.zero_le _, Nat.zero_le _⟩) hS (fun q _ h => hFc q h) hFc (fun u t H locs ht hvm hw hB hz1 hk1 hS => ?_)
        obtain ⟨pbe_7, pbl_8⟩ := u
        try dsimp only at hw
        have hm := hw
        have hP : va_P (dC, dI) vwCl (wC ad cy ss ds ti co oma obr obj obo obm plo pch pbe_7 pbl_8 dnu dde dbo dln dld tba tal tro tsc tcl rma) H := cPost_P ht hB
        have hD : va_D A (wC ad cy ss ds ti co oma obr obj obo obm plo pch pbe_7 pbl_8 dnu dde dbo dln dld tba tal tro tsc tcl rma) := cPost_D hFc hB
        exact hret plo pch pbe_7 pbl_8 H locs ls 33 dX3_searchFrom_33 ⟨hP, hD, hS⟩ hm
  · have hm := hm.2 c_2
    exact hret plo pch pbe pbl H locs ls 13 dX3_searchFrom_13 ⟨hP, hD, hS⟩ hm

set_option maxHeartbeats 4000000 in
set_option maxRecDepth 100000 in
theorem c_X3_searchFrom_all (l : Launch) (dC : Nat → ClassId) (dI : Nat → Nat → Nat) (cy : Nat → ClassId) (ad : Nat → Nat) (N : Nat) : ∀ (d : Nat) (sz : Nat) (ss : Int32) (ds : Int32) (ti : Nat → Int32) (co : Int32) (oma : Nat → Int32) (obr : Int32) (obj : Int32) (obo : Int32) (obm : Int32) (plo : Nat → Int32) (pch : Nat → Int32) (pbe : Nat → Int32) (pbl : Int32) (dnu : Nat → Int32) (dde : Nat → Int32) (dbo : Int32) (dln : Int32) (dld : Int32) (tba : Nat → Int32) (tal : Nat → Int32) (tro : Int32) (tsc : Int64) (tcl : Nat → Nat → Int64) (rma : Nat → Int32) (x2 : Int32) (Q : (Nat → Int32) → (Nat → Int32) → (Nat → Int32) → Int32 → Prop), p_X3_searchFrom N ti co d Q x2 plo pch pbe pbl → Met l yX3_searchFrom wsX3_searchFrom (rmX3_searchFrom d) (va_Pc [.ref (ad 5), .ref (ad 1), .int x2] (cPre dC dI cy (wC ad cy ss ds ti co oma obr obj obo obm plo pch pbe pbl dnu dde dbo dln dld tba tal tro tsc tcl rma) sz)) (va_Qv (fun (u : (Nat → Int32) × (Nat → Int32) × (Nat → Int32) × Int32) => Q u.1 u.2.1 u.2.2.1 u.2.2.2) (fun u t => cPost dC dI cy (wC ad cy ss ds ti co oma obr obj obo obm plo pch pbe pbl dnu dde dbo dln dld tba tal tro tsc tcl rma) sz (wC ad cy ss ds ti co oma obr obj obo obm (u.1) (u.2.1) (u.2.2.1) (u.2.2.2) dnu dde dbo dln dld tba tal tro tsc tcl rma) t) (va_A (wC ad cy ss ds ti co oma obr obj obo obm plo pch pbe pbl dnu dde dbo dln dld tba tal tro tsc tcl rma) sz)) 0 0 (va_A (wC ad cy ss ds ti co oma obr obj obo obm plo pch pbe pbl dnu dde dbo dln dld tba tal tro tsc tcl rma) sz) := by
  intro d
  induction d with
  | zero => intro sz ss ds ti co oma obr obj obo obm plo pch pbe pbl dnu dde dbo dln dld tba tal tro tsc tcl rma x2 Q hm; exact False.elim hm
  | succ recd ih =>
    intro sz ss ds ti co oma obr obj obo obm plo pch pbe pbl dnu dde dbo dln dld tba tal tro tsc tcl rma x2 Q hm
    refine Met.ofW (cc := cX3_searchFrom) (maxL := 6) (ret := none) (by decide) rfl ?_
    intro p e s m args below meth c s₁ B hml hv
    obtain ⟨rfl, hsz, hP, hK, hD0, hN⟩ := hv
    have hts := atoms_spec (ws := wsX3_searchFrom) B.pre
    have hown : s.vm.findClass RX3 = some m.cls := findClass_of_methodNamed B.named
    subst hsz
    have hD := hD0.self (sz := s.heap.size)
    generalize hAe : va_A (wC ad cy ss ds ti co oma obr obj obo obm plo pch pbe pbl dnu dde dbo dln dld tba tal tro tsc tcl rma) s.heap.size = A at hD ⊢
    have hA : ∀ q : Nat, s.heap.size ≤ q → A q := fun q h => by rw [← hAe]; exact Or.inr h
    have hl := lv_entry ([.ref (ad 5), .ref (ad 1), .int x2]) (n := 6) (Nat.le_of_ble_eq_true rfl)
    rw [lg_entry_eq]
    generalize (lg_sl ([.ref (ad 5), .ref (ad 1), .int x2]) ++ List.replicate (6 - (lg_sl ([.ref (ad 5), .ref (ad 1), .int x2])).length) Slot.unset).toArray = ls at hl ⊢
    have hl : lv_has ls 6 [(0, .ref (ad 5)), (1, .ref (ad 1)), (2, .int x2)] := hl
    exact k_X3_searchFrom_0 ⟨B.exec, B.bytes, hml, B.returns, hown, hts, B.notSynchronized, hK, hA, hN⟩ x2 plo pch pbe pbl s.heap [] ls hm ⟨hP, hD, va_S.rf⟩ (lv_sub hl [0, 1, 2] rfl) (fun plo pch pbe pbl H locs ls pc hdg hSt hq => W.vret B.exec B.bytes B.returns (fun t ht hW => ⟨⟨(plo, pch, pbe, pbl), rfl, hq, cPost_of hAe ht hW.alike hSt hK⟩, hSt.2.2.F ht⟩) hSt.2.2.2.2 hdg B.notSynchronized) (fun sz ss ds oma obr obj obo obm plo pch pbe pbl dnu dde dbo dln dld tba tal tro tsc tcl rma x2 Q hm => ih sz ss ds ti co oma obr obj obo obm plo pch pbe pbl dnu dde dbo dln dld tba tal tro tsc tcl rma x2 Q hm)
theorem c_X3_searchFrom (l : Launch) (dC : Nat → ClassId) (dI : Nat → Nat → Nat) (cy : Nat → ClassId) (ad : Nat → Nat) (sz : Nat) (ss : Int32) (ds : Int32) (ti : Nat → Int32) (co : Int32) (oma : Nat → Int32) (obr : Int32) (obj : Int32) (obo : Int32) (obm : Int32) (plo : Nat → Int32) (pch : Nat → Int32) (pbe : Nat → Int32) (pbl : Int32) (dnu : Nat → Int32) (dde : Nat → Int32) (dbo : Int32) (dln : Int32) (dld : Int32) (tba : Nat → Int32) (tal : Nat → Int32) (tro : Int32) (tsc : Int64) (tcl : Nat → Nat → Int64) (rma : Nat → Int32) (x2 : Int32) (d N : Nat) (Q : (Nat → Int32) → (Nat → Int32) → (Nat → Int32) → Int32 → Prop) (hm : p_X3_searchFrom N ti co d Q x2 plo pch pbe pbl) : Met l yX3_searchFrom wsX3_searchFrom (rmX3_searchFrom d) (va_Pc [.ref (ad 5), .ref (ad 1), .int x2] (cPre dC dI cy (wC ad cy ss ds ti co oma obr obj obo obm plo pch pbe pbl dnu dde dbo dln dld tba tal tro tsc tcl rma) sz)) (va_Qv (fun (u : (Nat → Int32) × (Nat → Int32) × (Nat → Int32) × Int32) => Q u.1 u.2.1 u.2.2.1 u.2.2.2) (fun u t => cPost dC dI cy (wC ad cy ss ds ti co oma obr obj obo obm plo pch pbe pbl dnu dde dbo dln dld tba tal tro tsc tcl rma) sz (wC ad cy ss ds ti co oma obr obj obo obm (u.1) (u.2.1) (u.2.2.1) (u.2.2.2) dnu dde dbo dln dld tba tal tro tsc tcl rma) t) (va_A (wC ad cy ss ds ti co oma obr obj obo obm plo pch pbe pbl dnu dde dbo dln dld tba tal tro tsc tcl rma) sz)) 0 0 (va_A (wC ad cy ss ds ti co oma obr obj obo obm plo pch pbe pbl dnu dde dbo dln dld tba tal tro tsc tcl rma) sz) := c_X3_searchFrom_all l dC dI cy ad N d sz ss ds ti co oma obr obj obo obm plo pch pbe pbl dnu dde dbo dln dld tba tal tro tsc tcl rma x2 Q hm

-- ===== X3_tryFrom
theorem fl_X3_tryFrom_9 : Cond.fieldLink RX3 9 "UnlikeUnion$PlanSearch" "loads" "[I" ∈ wsX3_tryFrom := by decide +kernel
theorem in_X3_tryFrom_X1 : ∀ w ∈ u_ws RX1 TX1 2, w ∈ wsX3_tryFrom := by decide +kernel
theorem in_X3_tryFrom_X3 : ∀ w ∈ u_ws RX3 TX3 4, w ∈ wsX3_tryFrom := by decide +kernel
abbrev rmX3_tryFrom (d : Nat) : Room := { frames := d + 20, cells := 0, slots := 0, locals := 200 * d + 2000 }
theorem rm_X3_tryFrom_fit {d : Nat} : (rmX3_tryFrom d).frames + 1 ≤ (rmX3_tryFrom (d + 1)).frames ∧ 8 + (6 + 11) + (rmX3_tryFrom d).locals ≤ (rmX3_tryFrom (d + 1)).locals := by simp only []; omega
theorem rm_X3_tryFrom_f {d k : Nat} (h : k ≤ 20) : k ≤ (rmX3_tryFrom (d + 1)).frames := by simp only []; omega
theorem rm_X3_tryFrom_l {d k : Nat} (h : k ≤ 2000) : k ≤ (rmX3_tryFrom (d + 1)).locals := by simp only []; omega
def p_X3_tryFrom_26 (N : Nat) (ti : Nat → Int32) (co : Int32) (REC : (Int32 → (Nat → Int32) → Prop) → Int32 → (Nat → Int32) → Prop) (Q : Int32 → (Nat → Int32) → Prop) : Nat → Int32 → Int32 → Int32 → (Nat → Int32) → Prop
  | 0 => fun _ _ _ _ => False
  | n + 1 => fun x2 x3 x4 plo => ((3 : Int32) ≤ x4 → (Q x3 plo)) ∧ (¬ (3 : Int32) ≤ x4 → (p_X1_timeOn N ti co (fun r_2 => (r_2 ≤ 0 → (∀ x4_4 : Int32, x4_4 = x4 + (1 : Int32) → (p_X3_tryFrom_26 N ti co REC Q n x2 x3 x4_4 plo))) ∧ (¬ r_2 ≤ 0 → (vp_in x4 3 ∧ (∀ f_6 : Int32, f_6 = (plo (x4).toNatClampNeg) + r_2 → (vp_in x4 3 ∧ (REC (fun r_8 plo_9 => ∀ v_10 : Int32, v_10 = (if r_8 < x3 then r_8 else x3) → (vp_in x4 3 ∧ (∀ f_12 : Int32, f_12 = (plo_9 (x4).toNatClampNeg) - r_2 → (vp_in x4 3 ∧ (∀ x4_14 : Int32, x4_14 = x4 + (1 : Int32) → (p_X3_tryFrom_26 N ti co REC Q n x2 v_10 x4_14 (upd plo_9 (x4).toNatClampNeg f_12))))))) (x2 + (1 : Int32)) (upd plo (x4).toNatClampNeg f_6))))))) x2 x4))

def p_X3_tryFrom (N : Nat) (ti : Nat → Int32) (co : Int32) : Nat → (Int32 → (Nat → Int32) → Prop) → Int32 → (Nat → Int32) → Prop
  | 0 => fun _ _ _ => False
  | n + 1 => fun Q x2 plo => (co ≤ x2 → (p_X3_greatest N plo (fun r_2 => Q r_2 plo) )) ∧ (¬ co ≤ x2 → ((x2 < (7 : Int32) → (p_X3_tryFrom_26 N ti co (p_X3_tryFrom N ti co n) Q N x2 (351 : Int32) (0 : Int32) plo)) ∧ (¬ x2 < (7 : Int32) → (p_X3_greatest N plo (fun r_4 => Q r_4 plo) ))))

set_option maxHeartbeats 4000000 in
set_option maxRecDepth 100000 in
theorem k_X3_tryFrom_26 {N : Nat} {ss : Int32} {ds : Int32} {ti : Nat → Int32} {co : Int32} {oma : Nat → Int32} {obr : Int32} {obj : Int32} {obo : Int32} {obm : Int32} {pch : Nat → Int32} {pbe : Nat → Int32} {pbl : Int32} {dnu : Nat → Int32} {dde : Nat → Int32} {dbo : Int32} {dln : Int32} {dld : Int32} {tba : Nat → Int32} {tal : Nat → Int32} {tro : Int32} {tsc : Int64} {tcl : Nat → Nat → Int64} {rma : Nat → Int32} {recd : Nat} {REC : (Int32 → (Nat → Int32) → Prop) → Int32 → (Nat → Int32) → Prop} {Q : Int32 → (Nat → Int32) → Prop} (C0 : cxM cX3_tryFrom 6 (some .int) RX3 wsX3_tryFrom p s m args meth c dC dI cy A) :
    ∀ (n : Nat) (x2 : Int32) (x3 : Int32) (x4 : Int32) (plo : Nat → Int32) (H : Heap) (locs : List Loc) (ls : Array Slot) (hm : p_X3_tryFrom_26 N ti co REC Q n x2 x3 x4 plo) (hSt : stC dC dI A s (wC ad cy ss ds ti co oma obr obj obo obm plo pch pbe pbl dnu dde dbo dln dld tba tal tro tsc tcl rma) H locs) (hl : lv_has ls 6 [(0, .ref (ad 5)), (1, .ref (ad 1)), (2, .int x2), (3, .int x3), (4, .int x4)]) (hret : ∀ (r : Int32) (plo : Nat → Int32) (H : Heap) (locs : List Loc) (ls : Array Slot) (pc : Nat), decode cX3_tryFrom pc = .ok (.ireturn, 1) → stC dC dI A s (wC ad cy ss ds ti co oma obr obj obo obm plo pch pbe pbl dnu dde dbo dln dld tba tal tro tsc tcl rma) H locs → Q r plo → W p l e (rmX3_tryFrom (recd + 1)) s m args below meth c H locs 0 0 Z (F0 m pc ls [.int r])) (hrec : ∀ (sz : Nat) (ss : Int32) (ds : Int32) (oma : Nat → Int32) (obr : Int32) (obj : Int32) (obo : Int32) (obm : Int32) (plo : Nat → Int32) (pch : Nat → Int32) (pbe : Nat → Int32) (pbl : Int32) (dnu : Nat → Int32) (dde : Nat → Int32) (dbo : Int32) (dln : Int32) (dld : Int32) (tba : Nat → Int32) (tal : Nat → Int32) (tro : Int32) (tsc : Int64) (tcl : Nat → Nat → Int64) (rma : Nat → Int32) (x2 : Int32) (Q : Int32 → (Nat → Int32) → Prop), REC Q x2 plo → Met l yX3_tryFrom wsX3_tryFrom (rmX3_tryFrom recd) (va_Pc [.ref (ad 5), .ref (ad 1), .int x2] (cPre dC dI cy (wC ad cy ss ds ti co oma obr obj obo obm plo pch pbe pbl dnu dde dbo dln dld tba tal tro tsc tcl rma) sz)) (va_Qi (fun (r : Int32) (u : (Nat → Int32)) => Q r u) (fun u t => cPost dC dI cy (wC ad cy ss ds ti co oma obr obj obo obm plo pch pbe pbl dnu dde dbo dln dld tba tal tro tsc tcl rma) sz (wC ad cy ss ds ti co oma obr obj obo obm u pch pbe pbl dnu dde dbo dln dld tba tal tro tsc tcl rma) t) (va_A (wC ad cy ss ds ti co oma obr obj obo obm plo pch pbe pbl dnu dde dbo dln dld tba tal tro tsc tcl rma) sz)) 0 0 (va_A (wC ad cy ss ds ti co oma obr obj obo obm plo pch pbe pbl dnu dde dbo dln dld tba tal tro tsc tcl rma) sz)), W p l e (rmX3_tryFrom (recd + 1)) s m args below meth c H locs 0 0 Z (F0 m 26 ls []) := by
  obtain ⟨hx, hb, hml, hr, hown, hts, hlocks, hK, hA, hN⟩ := id C0
  intro n
  induction n with
  | zero => intro x2 x3 x4 plo H locs ls hm; exact False.elim hm
  | succ n ih =>
    intro x2 x3 x4 plo H locs ls hm hSt hl hret hrec
    obtain ⟨hP, hD, hS⟩ := hSt
    unfold p_X3_tryFrom_26 at hm
    refine lv_iload hx hb dX3_tryFrom_26 (lv_at hl 4 rfl) ?_
    refine lv_iconst (v := 3) hx hb dX3_tryFrom_28 (by decide) ?_
    refine lv_icmp_ge (tgt := 89) hx hb dX3_tryFrom_29 (by decide) (fun c_1 => ?_) (fun c_1 => ?_)
    · have hm := hm.1 c_1
      refine lv_iload_n hx hb dX3_tryFrom_89 rfl (lv_at hl 3 rfl) ?_
      exact hret x3 plo H locs ls 90 dX3_tryFrom_90 ⟨hP, hD, hS⟩ hm
    · have hm := hm.2 c_1
      refine lv_aload_n hx hb dX3_tryFrom_32 rfl (lv_at hl 1 rfl) ?_
      refine lv_iload_n hx hb dX3_tryFrom_33 rfl (lv_at hl 2 rfl) ?_
      refine lv_iload hx hb dX3_tryFrom_34 (lv_at hl 4 rfl) ?_
      have hFc := va_freeSame hD hS hA
      refine va_calli (va_runV (As := [.int x2, .int x4]) (rest := []) ⟨hx, hb, hml, hown, hts⟩ (c_X1_timeOn l dC dI cy ad H.size ss ds ti co oma obr obj obo obm plo pch pbe pbl dnu dde dbo dln dld tba tal tro tsc tcl rma x2 x4 _ _ hm) (cwV 2 hts gX3_tryFrom_X1_timeOn rfl rfl rfl (by decide +kernel) ⟨rm_X3_tryFrom_f (Nat.le_of_ble_eq_true rfl), rm_X3_tryFrom_l (Nat.le_of_ble_eq_true rfl)⟩) ⟨cPre_blind, va_recv hK hP (ci := 1) (q0 := 1) rfl rfl, fun U hU hW => ⟨rfl, cPre_at hP hK hD hN hU hW⟩⟩ rfl rfl hl.1 rfl (lv_room (Nat.le_of_ble_eq_true rfl)) dX3_tryFrom_36 ⟨Nat.zero_le _, Nat.zero_le _⟩) hS (fun q _ h => hFc q h) hFc (fun r_2 u t H locs ht hvm hw hB hz1 hk1 hS => ?_)
      try dsimp only at hw
      have hm := hw
      have hP : va_P (dC, dI) vwCl (wC ad cy ss ds ti co oma obr obj obo obm plo pch pbe pbl dnu dde dbo dln dld tba tal tro tsc tcl rma) H := cPost_P ht hB
      have hD : va_D A (wC ad cy ss ds ti co oma obr obj obo obm plo pch pbe pbl dnu dde dbo dln dld tba tal tro tsc tcl rma) := cPost_D hFc hB
      refine lv_istore (lv' := [(5, .int r_2), (0, .ref (ad 5)), (1, .ref (ad 1)), (2, .int x2), (3, .int x3), (4, .int x4)]) hx hb dX3_tryFrom_39 hl (by decide) rfl (fun ls hl => ?_)
      refine lv_iload hx hb dX3_tryFrom_41 (lv_at hl 0 rfl) ?_
      refine lv_if_le (tgt := 83) hx hb dX3_tryFrom_43 (by decide) (fun c_3 => ?_) (fun c_3 => ?_)
      · have hm := hm.1 c_3
        obtain ⟨x4_4, ex4_4⟩ : ∃ y : Int32, y = x4 + (1 : Int32) := ⟨_, rfl⟩
        have hm := hm x4_4 ex4_4
        refine lv_iinc (v := x4_4) (lv' := [(4, .int x4_4), (5, .int r_2), (0, .ref (ad 5)), (1, .ref (ad 1)), (2, .int x2), (3, .int x3)]) hx hb dX3_tryFrom_83 hl (k := 5) rfl (by rw [ex4_4]; rfl) (by decide) rfl (fun ls hl => ?_)
        refine lv_goto (tgt := 26) hx hb dX3_tryFrom_86 (by decide) ?_
        exact ih x2 x3 x4_4 plo H locs ls hm ⟨hP, hD, hS⟩ (lv_sub hl [2, 3, 4, 5, 0] rfl) hret hrec
      · have hm := hm.2 c_3
        refine lv_aload_n hx hb dX3_tryFrom_46 rfl (lv_at hl 1 rfl) ?_
        refine va_get (D := (dC, dI)) (ci := 3) (v := .ref (ad 6)) (C := RX3) (T := TX3) (N := 4) hx hb hts in_X3_tryFrom_X3 hown hK hP 5 rfl rfl 0 (by decide) (hts _ fl_X3_tryFrom_9) (fun _ h9 => h9) rfl dX3_tryFrom_47 ?_
        refine lv_iload hx hb dX3_tryFrom_50 (lv_at hl 5 rfl) ?_
        refine lv_dup2_11 hx hb dX3_tryFrom_52 rfl rfl ?_
        have hi_5 := hm.1
        have hm := hm.2
        refine va_iald hx hb hK hP 6 0 rfl rfl hi_5 dX3_tryFrom_53 ?_
        refine lv_iload hx hb dX3_tryFrom_54 (lv_at hl 0 rfl) ?_
        refine lv_iadd hx hb dX3_tryFrom_56 ?_
        refine lv_topi (fun f_6 ef_6 => ?_)
        have hm := hm f_6 ef_6
        have hi_7 := hm.1
        have hm := hm.2
        refine va_iast hx hb hK hP hD hS 6 0 rfl rfl hi_7 dX3_tryFrom_57 (fun H locs hP hD hS => ?_)
        have hP : va_P (dC, dI) vwCl (wC ad cy ss ds ti co oma obr obj obo obm (upd plo (x4).toNatClampNeg f_6) pch pbe pbl dnu dde dbo dln dld tba tal tro tsc tcl rma) H := hP
        have hD : va_D A (wC ad cy ss ds ti co oma obr obj obo obm (upd plo (x4).toNatClampNeg f_6) pch pbe pbl dnu dde dbo dln dld tba tal tro tsc tcl rma) := hD
        refine lv_iload_n hx hb dX3_tryFrom_58 rfl (lv_at hl 4 rfl) ?_
        refine lv_aload_n hx hb dX3_tryFrom_59 rfl (lv_at hl 1 rfl) ?_
        refine lv_aload_n hx hb dX3_tryFrom_60 rfl (lv_at hl 2 rfl) ?_
        refine lv_iload_n hx hb dX3_tryFrom_61 rfl (lv_at hl 3 rfl) ?_
        refine lv_iconst (v := 1) hx hb dX3_tryFrom_62 (by decide) ?_
        refine lv_iadd hx hb dX3_tryFrom_63 ?_
        have hFc := va_freeSame hD hS hA
        refine va_calli (va_runS (As := [.ref (ad 5), .ref (ad 1), .int (x2 + (1 : Int32))]) (rest := [.int x3]) ⟨hx, hb, hml, hown, hts⟩ (hrec H.size ss ds oma obr obj obo obm (upd plo (x4).toNatClampNeg f_6) pch pbe pbl dnu dde dbo dln dld tba tal tro tsc tcl rma (x2 + (1 : Int32)) _ hm) (cwS 3 hts gX3_tryFrom_X3_tryFrom rfl rfl rfl (by decide +kernel) rm_X3_tryFrom_fit) ⟨cPre_blind, fun U hU hW => ⟨rfl, cPre_at hP hK hD hN hU hW⟩⟩ rfl rfl hl.1 rfl (lv_room (Nat.le_of_ble_eq_true rfl)) dX3_tryFrom_64 ⟨Nat.zero_le _, Nat.zero_le _⟩) hS (fun q _ h => hFc q h) hFc (fun r_8 u t H locs ht hvm hw hB hz1 hk1 hS => ?_)
        obtain ⟨plo_9, rfl⟩ : ∃ z, z = u := ⟨_, rfl⟩
        try dsimp only at hw
        have hm := hw
        have hP : va_P (dC, dI) vwCl (wC ad cy ss ds ti co oma obr obj obo obm plo_9 pch pbe pbl dnu dde dbo dln dld tba tal tro tsc tcl rma) H := cPost_P ht hB
        have hD : va_D A (wC ad cy ss ds ti co oma obr obj obo obm plo_9 pch pbe pbl dnu dde dbo dln dld tba tal tro tsc tcl rma) := cPost_D hFc hB
        refine va_mmin hx hb (hml.trans hl.1.symm) hown (hts (.methodLink RX3 53 Lib.Math.min.name) (by decide +kernel)) (hts (.static Lib.Math.min.name) (by decide +kernel)) (hts (.initialized "java/lang/Math") (by decide +kernel)) (hts (.code Lib.Math.min.name Lib.Math.min.code 2 (some .int)) (by decide +kernel)) (Nat.le_of_ble_eq_true rfl) (Nat.le_of_ble_eq_true rfl) (Nat.zero_le _) (Nat.zero_le _) dX3_tryFrom_67 ?_
        refine lv_topi (fun v_10 ev_10 => ?_)
        have hm := hm v_10 ev_10
        refine lv_istore_n (lv' := [(3, .int v_10), (5, .int r_2), (0, .ref (ad 5)), (1, .ref (ad 1)), (2, .int x2), (4, .int x4)]) hx hb dX3_tryFrom_70 rfl hl (by decide) rfl (fun ls hl => ?_)
        refine lv_aload_n hx hb dX3_tryFrom_71 rfl (lv_at hl 2 rfl) ?_
        refine va_get (D := (dC, dI)) (ci := 3) (v := .ref (ad 6)) (C := RX3) (T := TX3) (N := 4) hx hb hts in_X3_tryFrom_X3 hown hK hP 5 rfl rfl 0 (by decide) (hts _ fl_X3_tryFrom_9) (fun _ h9 => h9) rfl dX3_tryFrom_72 ?_
        refine lv_iload hx hb dX3_tryFrom_75 (lv_at hl 5 rfl) ?_
        refine lv_dup2_11 hx hb dX3_tryFrom_77 rfl rfl ?_
        have hi_11 := hm.1
        have hm := hm.2
        refine va_iald hx hb hK hP 6 0 rfl rfl hi_11 dX3_tryFrom_78 ?_
        refine lv_iload hx hb dX3_tryFrom_79 (lv_at hl 1 rfl) ?_
        refine lv_isub hx hb dX3_tryFrom_81 ?_
        refine lv_topi (fun f_12 ef_12 => ?_)
        have hm := hm f_12 ef_12
        have hi_13 := hm.1
        have hm := hm.2
        refine va_iast hx hb hK hP hD hS 6 0 rfl rfl hi_13 dX3_tryFrom_82 (fun H locs hP hD hS => ?_)
        have hP : va_P (dC, dI) vwCl (wC ad cy ss ds ti co oma obr obj obo obm (upd plo_9 (x4).toNatClampNeg f_12) pch pbe pbl dnu dde dbo dln dld tba tal tro tsc tcl rma) H := hP
        have hD : va_D A (wC ad cy ss ds ti co oma obr obj obo obm (upd plo_9 (x4).toNatClampNeg f_12) pch pbe pbl dnu dde dbo dln dld tba tal tro tsc tcl rma) := hD
        obtain ⟨x4_14, ex4_14⟩ : ∃ y : Int32, y = x4 + (1 : Int32) := ⟨_, rfl⟩
        have hm := hm x4_14 ex4_14
        refine lv_iinc (v := x4_14) (lv' := [(4, .int x4_14), (3, .int v_10), (5, .int r_2), (0, .ref (ad 5)), (1, .ref (ad 1)), (2, .int x2)]) hx hb dX3_tryFrom_83 hl (k := 5) rfl (by rw [ex4_14]; rfl) (by decide) rfl (fun ls hl => ?_)
        refine lv_goto (tgt := 26) hx hb dX3_tryFrom_86 (by decide) ?_
        exact ih x2 v_10 x4_14 (upd plo_9 (x4).toNatClampNeg f_12) H locs ls hm ⟨hP, hD, hS⟩ (lv_sub hl [3, 4, 5, 1, 0] rfl) hret hrec

set_option maxHeartbeats 4000000 in
set_option maxRecDepth 100000 in
theorem k_X3_tryFrom_0 {N : Nat} {ss : Int32} {ds : Int32} {ti : Nat → Int32} {co : Int32} {oma : Nat → Int32} {obr : Int32} {obj : Int32} {obo : Int32} {obm : Int32} {pch : Nat → Int32} {pbe : Nat → Int32} {pbl : Int32} {dnu : Nat → Int32} {dde : Nat → Int32} {dbo : Int32} {dln : Int32} {dld : Int32} {tba : Nat → Int32} {tal : Nat → Int32} {tro : Int32} {tsc : Int64} {tcl : Nat → Nat → Int64} {rma : Nat → Int32} {recd : Nat} {Q : Int32 → (Nat → Int32) → Prop} (C0 : cxM cX3_tryFrom 6 (some .int) RX3 wsX3_tryFrom p s m args meth c dC dI cy A) :
    ∀ (x2 : Int32) (plo : Nat → Int32) (H : Heap) (locs : List Loc) (ls : Array Slot) (hm : p_X3_tryFrom N ti co (recd + 1) Q x2 plo) (hSt : stC dC dI A s (wC ad cy ss ds ti co oma obr obj obo obm plo pch pbe pbl dnu dde dbo dln dld tba tal tro tsc tcl rma) H locs) (hl : lv_has ls 6 [(0, .ref (ad 5)), (1, .ref (ad 1)), (2, .int x2)]) (hret : ∀ (r : Int32) (plo : Nat → Int32) (H : Heap) (locs : List Loc) (ls : Array Slot) (pc : Nat), decode cX3_tryFrom pc = .ok (.ireturn, 1) → stC dC dI A s (wC ad cy ss ds ti co oma obr obj obo obm plo pch pbe pbl dnu dde dbo dln dld tba tal tro tsc tcl rma) H locs → Q r plo → W p l e (rmX3_tryFrom (recd + 1)) s m args below meth c H locs 0 0 Z (F0 m pc ls [.int r])) (hrec : ∀ (sz : Nat) (ss : Int32) (ds : Int32) (oma : Nat → Int32) (obr : Int32) (obj : Int32) (obo : Int32) (obm : Int32) (plo : Nat → Int32) (pch : Nat → Int32) (pbe : Nat → Int32) (pbl : Int32) (dnu : Nat → Int32) (dde : Nat → Int32) (dbo : Int32) (dln : Int32) (dld : Int32) (tba : Nat → Int32) (tal : Nat → Int32) (tro : Int32) (tsc : Int64) (tcl : Nat → Nat → Int64) (rma : Nat → Int32) (x2 : Int32) (Q : Int32 → (Nat → Int32) → Prop), p_X3_tryFrom N ti co recd Q x2 plo → Met l yX3_tryFrom wsX3_tryFrom (rmX3_tryFrom recd) (va_Pc [.ref (ad 5), .ref (ad 1), .int x2] (cPre dC dI cy (wC ad cy ss ds ti co oma obr obj obo obm plo pch pbe pbl dnu dde dbo dln dld tba tal tro tsc tcl rma) sz)) (va_Qi (fun (r : Int32) (u : (Nat → Int32)) => Q r u) (fun u t => cPost dC dI cy (wC ad cy ss ds ti co oma obr obj obo obm plo pch pbe pbl dnu dde dbo dln dld tba tal tro tsc tcl rma) sz (wC ad cy ss ds ti co oma obr obj obo obm u pch pbe pbl dnu dde dbo dln dld tba tal tro tsc tcl rma) t) (va_A (wC ad cy ss ds ti co oma obr obj obo obm plo pch pbe pbl dnu dde dbo dln dld tba tal tro tsc tcl rma) sz)) 0 0 (va_A (wC ad cy ss ds ti co oma obr obj obo obm plo pch pbe pbl dnu dde dbo dln dld tba tal tro tsc tcl rma) sz)), W p l e (rmX3_tryFrom (recd + 1)) s m args below meth c H locs 0 0 Z (F0 m 0 ls []) := by
  obtain ⟨hx, hb, hml, hr, hown, hts, hlocks, hK, hA, hN⟩ := id C0
  intro x2 plo H locs ls hm hSt hl hret hrec
  obtain ⟨hP, hD, hS⟩ := hSt
  unfold p_X3_tryFrom at hm
  refine lv_iload_n hx hb dX3_tryFrom_0 rfl (lv_at hl 2 rfl) ?_
  refine lv_aload_n hx hb dX3_tryFrom_1 rfl (lv_at hl 1 rfl) ?_
  refine va_getN (D := (dC, dI)) (ci := 1) (v := .int co) (C := RX1) (T := TX1) (N := 2) hx hb hts in_X3_tryFrom_X1 hown hK hP 1 rfl rfl 1 (by decide) (va_Nw.use rfl (nw_X3_40 hN)) (fun _ h9 => h9) rfl dX3_tryFrom_2 ?_
  refine lv_icmp_ge (tgt := 14) hx hb dX3_tryFrom_5 (by decide) (fun c_1 => ?_) (fun c_1 => ?_)
  · have hm := hm.1 c_1
    refine lv_aload_n hx hb dX3_tryFrom_14 rfl (lv_at hl 0 rfl) ?_
    have hFc := va_freeSame hD hS hA
    refine va_calli (va_runV (As := []) (rest := []) ⟨hx, hb, hml, hown, hts⟩ (c_X3_greatest l dC dI cy ad H.size ss ds ti co oma obr obj obo obm plo pch pbe pbl dnu dde dbo dln dld tba tal tro tsc tcl rma  _ _ hm) (cwV 0 hts gX3_tryFrom_X3_greatest rfl rfl rfl (by decide +kernel) ⟨rm_X3_tryFrom_f (Nat.le_of_ble_eq_true rfl), rm_X3_tryFrom_l (Nat.le_of_ble_eq_true rfl)⟩) ⟨cPre_blind, va_recv hK hP (ci := 3) (q0 := 5) rfl rfl, fun U hU hW => ⟨rfl, cPre_at hP hK hD hN hU hW⟩⟩ rfl rfl hl.1 rfl (lv_room (Nat.le_of_ble_eq_true rfl)) dX3_tryFrom_15 ⟨Nat.zero_le _, Nat.zero_le _⟩) hS (fun q _ h => hFc q h) hFc (fun r_2 u t H locs ht hvm hw hB hz1 hk1 hS => ?_)
    try dsimp only at hw
    have hm := hw
    have hP : va_P (dC, dI) vwCl (wC ad cy ss ds ti co oma obr obj obo obm plo pch pbe pbl dnu dde dbo dln dld tba tal tro tsc tcl rma) H := cPost_P ht hB
    have hD : va_D A (wC ad cy ss ds ti co oma obr obj obo obm plo pch pbe pbl dnu dde dbo dln dld tba tal tro tsc tcl rma) := cPost_D hFc hB
    exact hret r_2 plo H locs ls 18 dX3_tryFrom_18 ⟨hP, hD, hS⟩ hm
  · have hm := hm.2 c_1
    refine lv_iload_n hx hb dX3_tryFrom_8 rfl (lv_at hl 2 rfl) ?_
    refine lv_bipush (v := 7) hx hb dX3_tryFrom_9 (by decide) ?_
    refine lv_icmp_lt (tgt := 19) hx hb dX3_tryFrom_11 (by decide) (fun c_3 => ?_) (fun c_3 => ?_)
    · have hm := hm.1 c_3
      refine lv_sipush (v := 351) hx hb dX3_tryFrom_19 (by decide) ?_
      refine lv_istore_n (lv' := [(3, .int (351 : Int32)), (0, .ref (ad 5)), (1, .ref (ad 1)), (2, .int x2)]) hx hb dX3_tryFrom_22 rfl hl (by decide) rfl (fun ls hl => ?_)
      refine lv_iconst (v := 0) hx hb dX3_tryFrom_23 (by decide) ?_
      refine lv_istore (lv' := [(4, .int (0 : Int32)), (3, .int (351 : Int32)), (0, .ref (ad 5)), (1, .ref (ad 1)), (2, .int x2)]) hx hb dX3_tryFrom_24 hl (by decide) rfl (fun ls hl => ?_)
      exact k_X3_tryFrom_26 C0 N x2 (351 : Int32) (0 : Int32) plo H locs ls hm ⟨hP, hD, hS⟩ (lv_sub hl [2, 3, 4, 1, 0] rfl) hret hrec
    · have hm := hm.2 c_3
      refine lv_aload_n hx hb dX3_tryFrom_14 rfl (lv_at hl 0 rfl) ?_
      have hFc := va_freeSame hD hS hA
      refine va_calli (va_runV (As := []) (rest := []) ⟨hx, hb, hml, hown, hts⟩ (c_X3_greatest l dC dI cy ad H.size ss ds ti co oma obr obj obo obm plo pch pbe pbl dnu dde dbo dln dld tba tal tro tsc tcl rma  _ _ hm) (cwV 0 hts gX3_tryFrom_X3_greatest rfl rfl rfl (by decide +kernel) ⟨rm_X3_tryFrom_f (Nat.le_of_ble_eq_true rfl), rm_X3_tryFrom_l (Nat.le_of_ble_eq_true rfl)⟩) ⟨cPre_blind, va_recv hK hP (ci := 3) (q0 := 5) rfl rfl, fun U hU hW => ⟨rfl, cPre_at hP hK hD hN hU hW⟩⟩ rfl rfl hl.1 rfl (lv_room (Nat.le_of_ble_eq_true rfl)) dX3_tryFrom_15 ⟨Nat.zero_le _, Nat.zero_le _⟩) hS (fun q _ h => hFc q h) hFc (fun r_4 u t H locs ht hvm hw hB hz1 hk1 hS => ?_)
      try dsimp only at hw
      have hm := hw
      have hP : va_P (dC, dI) vwCl (wC ad cy ss ds ti co oma obr obj obo obm plo pch pbe pbl dnu dde dbo dln dld tba tal tro tsc tcl rma) H := cPost_P ht hB
      have hD : va_D A (wC ad cy ss ds ti co oma obr obj obo obm plo pch pbe pbl dnu dde dbo dln dld tba tal tro tsc tcl rma) := cPost_D hFc hB
      exact hret r_4 plo H locs ls 18 dX3_tryFrom_18 ⟨hP, hD, hS⟩ hm

set_option maxHeartbeats 4000000 in
set_option maxRecDepth 100000 in
theorem c_X3_tryFrom_all (l : Launch) (dC : Nat → ClassId) (dI : Nat → Nat → Nat) (cy : Nat → ClassId) (ad : Nat → Nat) (N : Nat) : ∀ (d : Nat) (sz : Nat) (ss : Int32) (ds : Int32) (ti : Nat → Int32) (co : Int32) (oma : Nat → Int32) (obr : Int32) (obj : Int32) (obo : Int32) (obm : Int32) (plo : Nat → Int32) (pch : Nat → Int32) (pbe : Nat → Int32) (pbl : Int32) (dnu : Nat → Int32) (dde : Nat → Int32) (dbo : Int32) (dln : Int32) (dld : Int32) (tba : Nat → Int32) (tal : Nat → Int32) (tro : Int32) (tsc : Int64) (tcl : Nat → Nat → Int64) (rma : Nat → Int32) (x2 : Int32) (Q : Int32 → (Nat → Int32) → Prop), p_X3_tryFrom N ti co d Q x2 plo → Met l yX3_tryFrom wsX3_tryFrom (rmX3_tryFrom d) (va_Pc [.ref (ad 5), .ref (ad 1), .int x2] (cPre dC dI cy (wC ad cy ss ds ti co oma obr obj obo obm plo pch pbe pbl dnu dde dbo dln dld tba tal tro tsc tcl rma) sz)) (va_Qi (fun (r : Int32) (u : (Nat → Int32)) => Q r u) (fun u t => cPost dC dI cy (wC ad cy ss ds ti co oma obr obj obo obm plo pch pbe pbl dnu dde dbo dln dld tba tal tro tsc tcl rma) sz (wC ad cy ss ds ti co oma obr obj obo obm u pch pbe pbl dnu dde dbo dln dld tba tal tro tsc tcl rma) t) (va_A (wC ad cy ss ds ti co oma obr obj obo obm plo pch pbe pbl dnu dde dbo dln dld tba tal tro tsc tcl rma) sz)) 0 0 (va_A (wC ad cy ss ds ti co oma obr obj obo obm plo pch pbe pbl dnu dde dbo dln dld tba tal tro tsc tcl rma) sz) := by
  intro d
  induction d with
  | zero => intro sz ss ds ti co oma obr obj obo obm plo pch pbe pbl dnu dde dbo dln dld tba tal tro tsc tcl rma x2 Q hm; exact False.elim hm
  | succ recd ih =>
    intro sz ss ds ti co oma obr obj obo obm plo pch pbe pbl dnu dde dbo dln dld tba tal tro tsc tcl rma x2 Q hm
    refine Met.ofW (cc := cX3_tryFrom) (maxL := 6) (ret := (some .int)) (by decide) rfl ?_
    intro p e s m args below meth c s₁ B hml hv
    obtain ⟨rfl, hsz, hP, hK, hD0, hN⟩ := hv
    have hts := atoms_spec (ws := wsX3_tryFrom) B.pre
    have hown : s.vm.findClass RX3 = some m.cls := findClass_of_methodNamed B.named
    subst hsz
    have hD := hD0.self (sz := s.heap.size)
    generalize hAe : va_A (wC ad cy ss ds ti co oma obr obj obo obm plo pch pbe pbl dnu dde dbo dln dld tba tal tro tsc tcl rma) s.heap.size = A at hD ⊢
    have hA : ∀ q : Nat, s.heap.size ≤ q → A q := fun q h => by rw [← hAe]; exact Or.inr h
    have hl := lv_entry ([.ref (ad 5), .ref (ad 1), .int x2]) (n := 6) (Nat.le_of_ble_eq_true rfl)
    rw [lg_entry_eq]
    generalize (lg_sl ([.ref (ad 5), .ref (ad 1), .int x2]) ++ List.replicate (6 - (lg_sl ([.ref (ad 5), .ref (ad 1), .int x2])).length) Slot.unset).toArray = ls at hl ⊢
    have hl : lv_has ls 6 [(0, .ref (ad 5)), (1, .ref (ad 1)), (2, .int x2)] := hl
    exact k_X3_tryFrom_0 ⟨B.exec, B.bytes, hml, B.returns, hown, hts, B.notSynchronized, hK, hA, hN⟩ x2 plo s.heap [] ls hm ⟨hP, hD, va_S.rf⟩ (lv_sub hl [0, 1, 2] rfl) (fun r plo H locs ls pc hdg hSt hq => W.iret B.exec B.bytes B.returns (fun t ht hW => ⟨⟨r, (plo), rfl, hq, cPost_of hAe ht hW.alike hSt hK⟩, hSt.2.2.F ht⟩) hSt.2.2.2.2 hdg B.notSynchronized) (fun sz ss ds oma obr obj obo obm plo pch pbe pbl dnu dde dbo dln dld tba tal tro tsc tcl rma x2 Q hm => ih sz ss ds ti co oma obr obj obo obm plo pch pbe pbl dnu dde dbo dln dld tba tal tro tsc tcl rma x2 Q hm)
theorem c_X3_tryFrom (l : Launch) (dC : Nat → ClassId) (dI : Nat → Nat → Nat) (cy : Nat → ClassId) (ad : Nat → Nat) (sz : Nat) (ss : Int32) (ds : Int32) (ti : Nat → Int32) (co : Int32) (oma : Nat → Int32) (obr : Int32) (obj : Int32) (obo : Int32) (obm : Int32) (plo : Nat → Int32) (pch : Nat → Int32) (pbe : Nat → Int32) (pbl : Int32) (dnu : Nat → Int32) (dde : Nat → Int32) (dbo : Int32) (dln : Int32) (dld : Int32) (tba : Nat → Int32) (tal : Nat → Int32) (tro : Int32) (tsc : Int64) (tcl : Nat → Nat → Int64) (rma : Nat → Int32) (x2 : Int32) (d N : Nat) (Q : Int32 → (Nat → Int32) → Prop) (hm : p_X3_tryFrom N ti co d Q x2 plo) : Met l yX3_tryFrom wsX3_tryFrom (rmX3_tryFrom d) (va_Pc [.ref (ad 5), .ref (ad 1), .int x2] (cPre dC dI cy (wC ad cy ss ds ti co oma obr obj obo obm plo pch pbe pbl dnu dde dbo dln dld tba tal tro tsc tcl rma) sz)) (va_Qi (fun (r : Int32) (u : (Nat → Int32)) => Q r u) (fun u t => cPost dC dI cy (wC ad cy ss ds ti co oma obr obj obo obm plo pch pbe pbl dnu dde dbo dln dld tba tal tro tsc tcl rma) sz (wC ad cy ss ds ti co oma obr obj obo obm u pch pbe pbl dnu dde dbo dln dld tba tal tro tsc tcl rma) t) (va_A (wC ad cy ss ds ti co oma obr obj obo obm plo pch pbe pbl dnu dde dbo dln dld tba tal tro tsc tcl rma) sz)) 0 0 (va_A (wC ad cy ss ds ti co oma obr obj obo obm plo pch pbe pbl dnu dde dbo dln dld tba tal tro tsc tcl rma) sz) := c_X3_tryFrom_all l dC dI cy ad N d sz ss ds ti co oma obr obj obo obm plo pch pbe pbl dnu dde dbo dln dld tba tal tro tsc tcl rma x2 Q hm

-- ===== X3_find
theorem fl_X3_find_24 : Cond.fieldLink RX3 24 "UnlikeUnion$PlanSearch" "bestLength" "I" ∈ wsX3_find := by decide +kernel
theorem in_X3_find_X3 : ∀ w ∈ u_ws RX3 TX3 4, w ∈ wsX3_find := by decide +kernel
abbrev rmX3_find : Room := { frames := 41, cells := 0, slots := 0, locals := 4085 }
def p_X3_find (N : Nat) (ti : Nat → Int32) (co : Int32) (Q : (Nat → Int32) → (Nat → Int32) → (Nat → Int32) → Int32 → Prop) (plo : Nat → Int32) (pch : Nat → Int32) (pbe : Nat → Int32) (pbl : Int32) : Prop :=
  p_X3_clearLoads N (fun plo_1 => p_X3_searchFrom N ti co 10 (fun plo_2 pch_3 pbe_4 pbl_5 => Q plo_2 pch_3 pbe_4 pbl_5) (0 : Int32) plo_1 pch pbe (351 : Int32)) plo

set_option maxHeartbeats 4000000 in
set_option maxRecDepth 100000 in
theorem k_X3_find_0 {N : Nat} {ss : Int32} {ds : Int32} {ti : Nat → Int32} {co : Int32} {oma : Nat → Int32} {obr : Int32} {obj : Int32} {obo : Int32} {obm : Int32} {dnu : Nat → Int32} {dde : Nat → Int32} {dbo : Int32} {dln : Int32} {dld : Int32} {tba : Nat → Int32} {tal : Nat → Int32} {tro : Int32} {tsc : Int64} {tcl : Nat → Nat → Int64} {rma : Nat → Int32} {Q : (Nat → Int32) → (Nat → Int32) → (Nat → Int32) → Int32 → Prop} (C0 : cxM cX3_find 2 none RX3 wsX3_find p s m args meth c dC dI cy A) :
    ∀ (plo : Nat → Int32) (pch : Nat → Int32) (pbe : Nat → Int32) (pbl : Int32) (H : Heap) (locs : List Loc) (ls : Array Slot) (hm : p_X3_find N ti co Q plo pch pbe pbl) (hSt : stC dC dI A s (wC ad cy ss ds ti co oma obr obj obo obm plo pch pbe pbl dnu dde dbo dln dld tba tal tro tsc tcl rma) H locs) (hl : lv_has ls 2 [(0, .ref (ad 5)), (1, .ref (ad 1))]) (hret : ∀ (plo : Nat → Int32) (pch : Nat → Int32) (pbe : Nat → Int32) (pbl : Int32) (H : Heap) (locs : List Loc) (ls : Array Slot) (pc : Nat), decode cX3_find pc = .ok (.return_, 1) → stC dC dI A s (wC ad cy ss ds ti co oma obr obj obo obm plo pch pbe pbl dnu dde dbo dln dld tba tal tro tsc tcl rma) H locs → Q plo pch pbe pbl → W p l e rmX3_find s m args below meth c H locs 0 0 Z (F0 m pc ls [])), W p l e rmX3_find s m args below meth c H locs 0 0 Z (F0 m 0 ls []) := by
  obtain ⟨hx, hb, hml, hr, hown, hts, hlocks, hK, hA, hN⟩ := id C0
  intro plo pch pbe pbl H locs ls hm hSt hl hret
  obtain ⟨hP, hD, hS⟩ := hSt
  unfold p_X3_find at hm
  refine lv_aload_n hx hb dX3_find_0 rfl (lv_at hl 0 rfl) ?_
  have hFc := va_freeSame hD hS hA
  refine va_callv (va_runV (As := []) (rest := []) ⟨hx, hb, hml, hown, hts⟩ (c_X3_clearLoads l dC dI cy ad H.size ss ds ti co oma obr obj obo obm plo pch pbe pbl dnu dde dbo dln dld tba tal tro tsc tcl rma  _ _ hm) (cwV 0 hts gX3_find_X3_clearLoads rfl rfl rfl (by decide +kernel) ⟨Nat.le_of_ble_eq_true rfl, Nat.le_of_ble_eq_true rfl⟩) ⟨cPre_blind, va_recv hK hP (ci := 3) (q0 := 5) rfl rfl, fun U hU hW => ⟨rfl, cPre_at hP hK hD hN hU hW⟩⟩ rfl rfl hl.1 rfl (lv_room (Nat.le_of_ble_eq_true rfl)) dX3_find_1 ⟨Nat.zero_le _, Nat.zero_le _⟩) hS (fun q _ h => hFc q h) hFc (fun u t H locs ht hvm hw hB hz1 hk1 hS => ?_)
  obtain ⟨plo_1, rfl⟩ : ∃ z, z = u := ⟨_, rfl⟩
  try dsimp only at hw
  have hm := hw
  have hP : va_P (dC, dI) vwCl (wC ad cy ss ds ti co oma obr obj obo obm plo_1 pch pbe pbl dnu dde dbo dln dld tba tal tro tsc tcl rma) H := cPost_P ht hB
  have hD : va_D A (wC ad cy ss ds ti co oma obr obj obo obm plo_1 pch pbe pbl dnu dde dbo dln dld tba tal tro tsc tcl rma) := cPost_D hFc hB
  refine lv_aload_n hx hb dX3_find_4 rfl (lv_at hl 0 rfl) ?_
  refine lv_sipush (v := 351) hx hb dX3_find_5 (by decide) ?_
  refine va_put (D := (dC, dI)) (ci := 3) (v := .int (351 : Int32)) (ty := .int) (C := RX3) (T := TX3) (N := 4) hx hb hts in_X3_find_X3 tyX3 tyX3_ok nmX3 hown hK hP hD hS 5 rfl rfl 3 (by decide) (hts _ fl_X3_find_24) (fun _ h9 => h9) rfl (by decide +kernel) rfl rfl (Nat.le_of_ble_eq_true rfl) dX3_find_8 (fun H locs hP hD hS => ?_)
  have hP : va_P (dC, dI) vwCl (wC ad cy ss ds ti co oma obr obj obo obm plo_1 pch pbe (351 : Int32) dnu dde dbo dln dld tba tal tro tsc tcl rma) H := hP
  have hD : va_D A (wC ad cy ss ds ti co oma obr obj obo obm plo_1 pch pbe (351 : Int32) dnu dde dbo dln dld tba tal tro tsc tcl rma) := hD
  refine lv_aload_n hx hb dX3_find_11 rfl (lv_at hl 0 rfl) ?_
  refine lv_aload_n hx hb dX3_find_12 rfl (lv_at hl 1 rfl) ?_
  refine lv_iconst (v := 0) hx hb dX3_find_13 (by decide) ?_
  have hFc := va_freeSame hD hS hA
  refine va_callv (va_runS (As := [.ref (ad 5), .ref (ad 1), .int (0 : Int32)]) (rest := []) ⟨hx, hb, hml, hown, hts⟩ (c_X3_searchFrom l dC dI cy ad H.size ss ds ti co oma obr obj obo obm plo_1 pch pbe (351 : Int32) dnu dde dbo dln dld tba tal tro tsc tcl rma (0 : Int32) 10 _ _ hm) (cwS 3 hts gX3_find_X3_searchFrom rfl rfl rfl (by decide +kernel) ⟨Nat.le_of_ble_eq_true rfl, Nat.le_of_ble_eq_true rfl⟩) ⟨cPre_blind, fun U hU hW => ⟨rfl, cPre_at hP hK hD hN hU hW⟩⟩ rfl rfl hl.1 rfl (lv_room (Nat.le_of_ble_eq_true rfl)) dX3_find_14 ⟨Nat.zero_le _, Nat.zero_le _⟩) hS (fun q _ h => hFc q h) hFc (fun u t H locs ht hvm hw hB hz1 hk1 hS => ?_)
  obtain ⟨plo_2, pch_3, pbe_4, pbl_5⟩ := u
  try dsimp only at hw
  have hm := hw
  have hP : va_P (dC, dI) vwCl (wC ad cy ss ds ti co oma obr obj obo obm plo_2 pch_3 pbe_4 pbl_5 dnu dde dbo dln dld tba tal tro tsc tcl rma) H := cPost_P ht hB
  have hD : va_D A (wC ad cy ss ds ti co oma obr obj obo obm plo_2 pch_3 pbe_4 pbl_5 dnu dde dbo dln dld tba tal tro tsc tcl rma) := cPost_D hFc hB
  exact hret plo_2 pch_3 pbe_4 pbl_5 H locs ls 17 dX3_find_17 ⟨hP, hD, hS⟩ hm

set_option maxHeartbeats 4000000 in
set_option maxRecDepth 100000 in
theorem c_X3_find (l : Launch) (dC : Nat → ClassId) (dI : Nat → Nat → Nat) (cy : Nat → ClassId) (ad : Nat → Nat) (sz : Nat) (ss : Int32) (ds : Int32) (ti : Nat → Int32) (co : Int32) (oma : Nat → Int32) (obr : Int32) (obj : Int32) (obo : Int32) (obm : Int32) (plo : Nat → Int32) (pch : Nat → Int32) (pbe : Nat → Int32) (pbl : Int32) (dnu : Nat → Int32) (dde : Nat → Int32) (dbo : Int32) (dln : Int32) (dld : Int32) (tba : Nat → Int32) (tal : Nat → Int32) (tro : Int32) (tsc : Int64) (tcl : Nat → Nat → Int64) (rma : Nat → Int32)  (N : Nat) (Q : (Nat → Int32) → (Nat → Int32) → (Nat → Int32) → Int32 → Prop) (hm : p_X3_find N ti co Q plo pch pbe pbl) : Met l yX3_find wsX3_find rmX3_find (va_Pc [.ref (ad 5), .ref (ad 1)] (cPre dC dI cy (wC ad cy ss ds ti co oma obr obj obo obm plo pch pbe pbl dnu dde dbo dln dld tba tal tro tsc tcl rma) sz)) (va_Qv (fun (u : (Nat → Int32) × (Nat → Int32) × (Nat → Int32) × Int32) => Q u.1 u.2.1 u.2.2.1 u.2.2.2) (fun u t => cPost dC dI cy (wC ad cy ss ds ti co oma obr obj obo obm plo pch pbe pbl dnu dde dbo dln dld tba tal tro tsc tcl rma) sz (wC ad cy ss ds ti co oma obr obj obo obm (u.1) (u.2.1) (u.2.2.1) (u.2.2.2) dnu dde dbo dln dld tba tal tro tsc tcl rma) t) (va_A (wC ad cy ss ds ti co oma obr obj obo obm plo pch pbe pbl dnu dde dbo dln dld tba tal tro tsc tcl rma) sz)) 0 0 (va_A (wC ad cy ss ds ti co oma obr obj obo obm plo pch pbe pbl dnu dde dbo dln dld tba tal tro tsc tcl rma) sz) := by
  refine Met.ofW (cc := cX3_find) (maxL := 2) (ret := none) (by decide) rfl ?_
  intro p e s m args below meth c s₁ B hml hv
  obtain ⟨rfl, hsz, hP, hK, hD0, hN⟩ := hv
  have hts := atoms_spec (ws := wsX3_find) B.pre
  have hown : s.vm.findClass RX3 = some m.cls := findClass_of_methodNamed B.named
  subst hsz
  have hD := hD0.self (sz := s.heap.size)
  generalize hAe : va_A (wC ad cy ss ds ti co oma obr obj obo obm plo pch pbe pbl dnu dde dbo dln dld tba tal tro tsc tcl rma) s.heap.size = A at hD ⊢
  have hA : ∀ q : Nat, s.heap.size ≤ q → A q := fun q h => by rw [← hAe]; exact Or.inr h
  have hl := lv_entry ([.ref (ad 5), .ref (ad 1)]) (n := 2) (Nat.le_of_ble_eq_true rfl)
  rw [lg_entry_eq]
  generalize (lg_sl ([.ref (ad 5), .ref (ad 1)]) ++ List.replicate (2 - (lg_sl ([.ref (ad 5), .ref (ad 1)])).length) Slot.unset).toArray = ls at hl ⊢
  have hl : lv_has ls 2 [(0, .ref (ad 5)), (1, .ref (ad 1))] := hl
  exact k_X3_find_0 ⟨B.exec, B.bytes, hml, B.returns, hown, hts, B.notSynchronized, hK, hA, hN⟩ plo pch pbe pbl s.heap [] ls hm ⟨hP, hD, va_S.rf⟩ (lv_sub hl [0, 1] rfl) (fun plo pch pbe pbl H locs ls pc hdg hSt hq => W.vret B.exec B.bytes B.returns (fun t ht hW => ⟨⟨(plo, pch, pbe, pbl), rfl, hq, cPost_of hAe ht hW.alike hSt hK⟩, hSt.2.2.F ht⟩) hSt.2.2.2.2 hdg B.notSynchronized)

-- ===== X3_tryAll
abbrev rmX3_tryAll : Room := { frames := 41, cells := 0, slots := 0, locals := 4085 }
def p_X3_tryAll (N : Nat) (ti : Nat → Int32) (co : Int32) (Q : Int32 → (Nat → Int32) → Prop) (plo : Nat → Int32) : Prop :=
  p_X3_clearLoads N (fun plo_1 => p_X3_tryFrom N ti co 10 (fun r_2 plo_3 => Q r_2 plo_3) (0 : Int32) plo_1) plo

set_option maxHeartbeats 4000000 in
set_option maxRecDepth 100000 in
theorem k_X3_tryAll_0 {N : Nat} {ss : Int32} {ds : Int32} {ti : Nat → Int32} {co : Int32} {oma : Nat → Int32} {obr : Int32} {obj : Int32} {obo : Int32} {obm : Int32} {pch : Nat → Int32} {pbe : Nat → Int32} {pbl : Int32} {dnu : Nat → Int32} {dde : Nat → Int32} {dbo : Int32} {dln : Int32} {dld : Int32} {tba : Nat → Int32} {tal : Nat → Int32} {tro : Int32} {tsc : Int64} {tcl : Nat → Nat → Int64} {rma : Nat → Int32} {Q : Int32 → (Nat → Int32) → Prop} (C0 : cxM cX3_tryAll 2 (some .int) RX3 wsX3_tryAll p s m args meth c dC dI cy A) :
    ∀ (plo : Nat → Int32) (H : Heap) (locs : List Loc) (ls : Array Slot) (hm : p_X3_tryAll N ti co Q plo) (hSt : stC dC dI A s (wC ad cy ss ds ti co oma obr obj obo obm plo pch pbe pbl dnu dde dbo dln dld tba tal tro tsc tcl rma) H locs) (hl : lv_has ls 2 [(0, .ref (ad 5)), (1, .ref (ad 1))]) (hret : ∀ (r : Int32) (plo : Nat → Int32) (H : Heap) (locs : List Loc) (ls : Array Slot) (pc : Nat), decode cX3_tryAll pc = .ok (.ireturn, 1) → stC dC dI A s (wC ad cy ss ds ti co oma obr obj obo obm plo pch pbe pbl dnu dde dbo dln dld tba tal tro tsc tcl rma) H locs → Q r plo → W p l e rmX3_tryAll s m args below meth c H locs 0 0 Z (F0 m pc ls [.int r])), W p l e rmX3_tryAll s m args below meth c H locs 0 0 Z (F0 m 0 ls []) := by
  obtain ⟨hx, hb, hml, hr, hown, hts, hlocks, hK, hA, hN⟩ := id C0
  intro plo H locs ls hm hSt hl hret
  obtain ⟨hP, hD, hS⟩ := hSt
  unfold p_X3_tryAll at hm
  refine lv_aload_n hx hb dX3_tryAll_0 rfl (lv_at hl 0 rfl) ?_
  have hFc := va_freeSame hD hS hA
  refine va_callv (va_runV (As := []) (rest := []) ⟨hx, hb, hml, hown, hts⟩ (c_X3_clearLoads l dC dI cy ad H.size ss ds ti co oma obr obj obo obm plo pch pbe pbl dnu dde dbo dln dld tba tal tro tsc tcl rma  _ _ hm) (cwV 0 hts gX3_tryAll_X3_clearLoads rfl rfl rfl (by decide +kernel) ⟨Nat.le_of_ble_eq_true rfl, Nat.le_of_ble_eq_true rfl⟩) ⟨cPre_blind, va_recv hK hP (ci := 3) (q0 := 5) rfl rfl, fun U hU hW => ⟨rfl, cPre_at hP hK hD hN hU hW⟩⟩ rfl rfl hl.1 rfl (lv_room (Nat.le_of_ble_eq_true rfl)) dX3_tryAll_1 ⟨Nat.zero_le _, Nat.zero_le _⟩) hS (fun q _ h => hFc q h) hFc (fun u t H locs ht hvm hw hB hz1 hk1 hS => ?_)
  obtain ⟨plo_1, rfl⟩ : ∃ z, z = u := ⟨_, rfl⟩
  try dsimp only at hw
  have hm := hw
  have hP : va_P (dC, dI) vwCl (wC ad cy ss ds ti co oma obr obj obo obm plo_1 pch pbe pbl dnu dde dbo dln dld tba tal tro tsc tcl rma) H := cPost_P ht hB
  have hD : va_D A (wC ad cy ss ds ti co oma obr obj obo obm plo_1 pch pbe pbl dnu dde dbo dln dld tba tal tro tsc tcl rma) := cPost_D hFc hB
  refine lv_aload_n hx hb dX3_tryAll_4 rfl (lv_at hl 0 rfl) ?_
  refine lv_aload_n hx hb dX3_tryAll_5 rfl (lv_at hl 1 rfl) ?_
  refine lv_iconst (v := 0) hx hb dX3_tryAll_6 (by decide) ?_
  have hFc := va_freeSame hD hS hA
  refine va_calli (va_runS (As := [.ref (ad 5), .ref (ad 1), .int (0 : Int32)]) (rest := []) ⟨hx, hb, hml, hown, hts⟩ (c_X3_tryFrom l dC dI cy ad H.size ss ds ti co oma obr obj obo obm plo_1 pch pbe pbl dnu dde dbo dln dld tba tal tro tsc tcl rma (0 : Int32) 10 _ _ hm) (cwS 3 hts gX3_tryAll_X3_tryFrom rfl rfl rfl (by decide +kernel) ⟨Nat.le_of_ble_eq_true rfl, Nat.le_of_ble_eq_true rfl⟩) ⟨cPre_blind, fun U hU hW => ⟨rfl, cPre_at hP hK hD hN hU hW⟩⟩ rfl rfl hl.1 rfl (lv_room (Nat.le_of_ble_eq_true rfl)) dX3_tryAll_7 ⟨Nat.zero_le _, Nat.zero_le _⟩) hS (fun q _ h => hFc q h) hFc (fun r_2 u t H locs ht hvm hw hB hz1 hk1 hS => ?_)
  obtain ⟨plo_3, rfl⟩ : ∃ z, z = u := ⟨_, rfl⟩
  try dsimp only at hw
  have hm := hw
  have hP : va_P (dC, dI) vwCl (wC ad cy ss ds ti co oma obr obj obo obm plo_3 pch pbe pbl dnu dde dbo dln dld tba tal tro tsc tcl rma) H := cPost_P ht hB
  have hD : va_D A (wC ad cy ss ds ti co oma obr obj obo obm plo_3 pch pbe pbl dnu dde dbo dln dld tba tal tro tsc tcl rma) := cPost_D hFc hB
  exact hret r_2 plo_3 H locs ls 10 dX3_tryAll_10 ⟨hP, hD, hS⟩ hm

set_option maxHeartbeats 4000000 in
set_option maxRecDepth 100000 in
theorem c_X3_tryAll (l : Launch) (dC : Nat → ClassId) (dI : Nat → Nat → Nat) (cy : Nat → ClassId) (ad : Nat → Nat) (sz : Nat) (ss : Int32) (ds : Int32) (ti : Nat → Int32) (co : Int32) (oma : Nat → Int32) (obr : Int32) (obj : Int32) (obo : Int32) (obm : Int32) (plo : Nat → Int32) (pch : Nat → Int32) (pbe : Nat → Int32) (pbl : Int32) (dnu : Nat → Int32) (dde : Nat → Int32) (dbo : Int32) (dln : Int32) (dld : Int32) (tba : Nat → Int32) (tal : Nat → Int32) (tro : Int32) (tsc : Int64) (tcl : Nat → Nat → Int64) (rma : Nat → Int32)  (N : Nat) (Q : Int32 → (Nat → Int32) → Prop) (hm : p_X3_tryAll N ti co Q plo) : Met l yX3_tryAll wsX3_tryAll rmX3_tryAll (va_Pc [.ref (ad 5), .ref (ad 1)] (cPre dC dI cy (wC ad cy ss ds ti co oma obr obj obo obm plo pch pbe pbl dnu dde dbo dln dld tba tal tro tsc tcl rma) sz)) (va_Qi (fun (r : Int32) (u : (Nat → Int32)) => Q r u) (fun u t => cPost dC dI cy (wC ad cy ss ds ti co oma obr obj obo obm plo pch pbe pbl dnu dde dbo dln dld tba tal tro tsc tcl rma) sz (wC ad cy ss ds ti co oma obr obj obo obm u pch pbe pbl dnu dde dbo dln dld tba tal tro tsc tcl rma) t) (va_A (wC ad cy ss ds ti co oma obr obj obo obm plo pch pbe pbl dnu dde dbo dln dld tba tal tro tsc tcl rma) sz)) 0 0 (va_A (wC ad cy ss ds ti co oma obr obj obo obm plo pch pbe pbl dnu dde dbo dln dld tba tal tro tsc tcl rma) sz) := by
  refine Met.ofW (cc := cX3_tryAll) (maxL := 2) (ret := (some .int)) (by decide) rfl ?_
  intro p e s m args below meth c s₁ B hml hv
  obtain ⟨rfl, hsz, hP, hK, hD0, hN⟩ := hv
  have hts := atoms_spec (ws := wsX3_tryAll) B.pre
  have hown : s.vm.findClass RX3 = some m.cls := findClass_of_methodNamed B.named
  subst hsz
  have hD := hD0.self (sz := s.heap.size)
  generalize hAe : va_A (wC ad cy ss ds ti co oma obr obj obo obm plo pch pbe pbl dnu dde dbo dln dld tba tal tro tsc tcl rma) s.heap.size = A at hD ⊢
  have hA : ∀ q : Nat, s.heap.size ≤ q → A q := fun q h => by rw [← hAe]; exact Or.inr h
  have hl := lv_entry ([.ref (ad 5), .ref (ad 1)]) (n := 2) (Nat.le_of_ble_eq_true rfl)
  rw [lg_entry_eq]
  generalize (lg_sl ([.ref (ad 5), .ref (ad 1)]) ++ List.replicate (2 - (lg_sl ([.ref (ad 5), .ref (ad 1)])).length) Slot.unset).toArray = ls at hl ⊢
  have hl : lv_has ls 2 [(0, .ref (ad 5)), (1, .ref (ad 1))] := hl
  exact k_X3_tryAll_0 ⟨B.exec, B.bytes, hml, B.returns, hown, hts, B.notSynchronized, hK, hA, hN⟩ plo s.heap [] ls hm ⟨hP, hD, va_S.rf⟩ (lv_sub hl [0, 1] rfl) (fun r plo H locs ls pc hdg hSt hq => W.iret B.exec B.bytes B.returns (fun t ht hW => ⟨⟨r, (plo), rfl, hq, cPost_of hAe ht hW.alike hSt hK⟩, hSt.2.2.F ht⟩) hSt.2.2.2.2 hdg B.notSynchronized)
