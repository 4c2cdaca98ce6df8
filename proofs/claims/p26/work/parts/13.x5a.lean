variable {p : Program} {l : Launch} {e : Env} {s : State} {m : MethodId} {args : Array Value} {below : List Frame} {meth : Method} {c : Code} {dC : Nat → ClassId} {dI : Nat → Nat → Nat} {cy : Nat → ClassId} {ad : Nat → Nat} {A : Nat → Prop} {Z : State → Prop}
-- ===== X5_rowOf
theorem fl_X5_rowOf_49 : Cond.fieldLink RX5 49 "UnlikeUnion$Tableau" "rows" "I" ∈ wsX5_rowOf := by decide +kernel
theorem fl_X5_rowOf_16 : Cond.fieldLink RX5 16 "UnlikeUnion$Tableau" "basic" "[I" ∈ wsX5_rowOf := by decide +kernel
theorem in_X5_rowOf_X5 : ∀ w ∈ u_ws RX5 TX5 5, w ∈ wsX5_rowOf := by decide +kernel
abbrev rmX5_rowOf : Room := { frames := 1, cells := 0, slots := 0, locals := 63 }
def p_X5_rowOf_2 (N : Nat) (tba : Nat → Int32) (tro : Int32) (Q : Int32 → Prop) : Nat → Int32 → Int32 → Prop
  | 0 => fun _ _ => False
  | n + 1 => fun x1 x2 => (tro ≤ x2 → (Q (-1 : Int32))) ∧ (¬ tro ≤ x2 → (vp_in x2 10 ∧ (((tba (x2).toNatClampNeg) = x1 → (Q x2)) ∧ (¬ (tba (x2).toNatClampNeg) = x1 → (∀ x2_4 : Int32, x2_4 = x2 + (1 : Int32) → (p_X5_rowOf_2 N tba tro Q n x1 x2_4))))))

def p_X5_rowOf (N : Nat) (tba : Nat → Int32) (tro : Int32) (Q : Int32 → Prop) (x1 : Int32) : Prop :=
  p_X5_rowOf_2 N tba tro Q N x1 (0 : Int32)

set_option maxHeartbeats 4000000 in
set_option maxRecDepth 100000 in
theorem k_X5_rowOf_2 {N : Nat} {ss : Int32} {ds : Int32} {ti : Nat → Int32} {co : Int32} {oma : Nat → Int32} {obr : Int32} {obj : Int32} {obo : Int32} {obm : Int32} {plo : Nat → Int32} {pch : Nat → Int32} {pbe : Nat → Int32} {pbl : Int32} {dnu : Nat → Int32} {dde : Nat → Int32} {dbo : Int32} {dln : Int32} {dld : Int32} {tba : Nat → Int32} {tal : Nat → Int32} {tro : Int32} {tsc : Int64} {tcl : Nat → Nat → Int64} {rma : Nat → Int32} {Q : Int32 → Prop} (C0 : cxM cX5_rowOf 3 (some .int) RX5 wsX5_rowOf p s m args meth c dC dI cy A) :
    ∀ (n : Nat) (x1 : Int32) (x2 : Int32) (H : Heap) (locs : List Loc) (ls : Array Slot) (hm : p_X5_rowOf_2 N tba tro Q n x1 x2) (hSt : stC dC dI A s (wC ad cy ss ds ti co oma obr obj obo obm plo pch pbe pbl dnu dde dbo dln dld tba tal tro tsc tcl rma) H locs) (hl : lv_has ls 3 [(0, .ref (ad 12)), (1, .int x1), (2, .int x2)]) (hret : ∀ (r : Int32) (H : Heap) (locs : List Loc) (ls : Array Slot) (pc : Nat), decode cX5_rowOf pc = .ok (.ireturn, 1) → stC dC dI A s (wC ad cy ss ds ti co oma obr obj obo obm plo pch pbe pbl dnu dde dbo dln dld tba tal tro tsc tcl rma) H locs → Q r → W p l e rmX5_rowOf s m args below meth c H locs 0 0 Z (F0 m pc ls [.int r])), W p l e rmX5_rowOf s m args below meth c H locs 0 0 Z (F0 m 2 ls []) := by
  obtain ⟨hx, hb, hml, hr, hown, hts, hlocks, hK, hA, hN⟩ := id C0
  intro n
  induction n with
  | zero => intro x1 x2 H locs ls hm; exact False.elim hm
  | succ n ih =>
    intro x1 x2 H locs ls hm hSt hl hret
    obtain ⟨hP, hD, hS⟩ := hSt
    unfold p_X5_rowOf_2 at hm
    refine lv_iload_n hx hb dX5_rowOf_2 rfl (lv_at hl 2 rfl) ?_
    refine lv_aload_n hx hb dX5_rowOf_3 rfl (lv_at hl 0 rfl) ?_
    refine va_get (D := (dC, dI)) (ci := 5) (v := .int tro) (C := RX5) (T := TX5) (N := 5) hx hb hts in_X5_rowOf_X5 hown hK hP 12 rfl rfl 3 (by decide) (hts _ fl_X5_rowOf_49) (fun _ h9 => h9) rfl dX5_rowOf_4 ?_
    refine lv_icmp_ge (tgt := 28) hx hb dX5_rowOf_7 (by decide) (fun c_1 => ?_) (fun c_1 => ?_)
    · have hm := hm.1 c_1
      refine lv_iconst (v := -1) hx hb dX5_rowOf_28 (by decide) ?_
      exact hret (-1 : Int32) H locs ls 29 dX5_rowOf_29 ⟨hP, hD, hS⟩ hm
    · have hm := hm.2 c_1
      refine lv_aload_n hx hb dX5_rowOf_10 rfl (lv_at hl 0 rfl) ?_
      refine va_get (D := (dC, dI)) (ci := 5) (v := .ref (ad 14)) (C := RX5) (T := TX5) (N := 5) hx hb hts in_X5_rowOf_X5 hown hK hP 12 rfl rfl 1 (by decide) (hts _ fl_X5_rowOf_16) (fun _ h9 => h9) rfl dX5_rowOf_11 ?_
      refine lv_iload_n hx hb dX5_rowOf_14 rfl (lv_at hl 2 rfl) ?_
      have hi_2 := hm.1
      have hm := hm.2
      refine va_iald hx hb hK hP 14 0 rfl rfl hi_2 dX5_rowOf_15 ?_
      refine lv_iload_n hx hb dX5_rowOf_16 rfl (lv_at hl 1 rfl) ?_
      refine lv_icmp_ne (tgt := 22) hx hb dX5_rowOf_17 (by decide) (fun c_3 => ?_) (fun c_3 => ?_)
      · have hm := hm.2 c_3
        obtain ⟨x2_4, ex2_4⟩ : ∃ y : Int32, y = x2 + (1 : Int32) := ⟨_, rfl⟩
        have hm := hm x2_4 ex2_4
        refine lv_iinc (v := x2_4) (lv' := [(2, .int x2_4), (0, .ref (ad 12)), (1, .int x1)]) hx hb dX5_rowOf_22 hl (k := 2) rfl (by rw [ex2_4]; rfl) (by decide) rfl (fun ls hl => ?_)
        refine lv_goto (tgt := 2) hx hb dX5_rowOf_25 (by decide) ?_
        exact ih x1 x2_4 H locs ls hm ⟨hP, hD, hS⟩ (lv_sub hl [1, 2, 0] rfl) hret
      · have hm := hm.1 c_3
        refine lv_iload_n hx hb dX5_rowOf_20 rfl (lv_at hl 2 rfl) ?_
        exact hret x2 H locs ls 21 dX5_rowOf_21 ⟨hP, hD, hS⟩ hm

set_option maxHeartbeats 4000000 in
set_option maxRecDepth 100000 in
theorem k_X5_rowOf_0 {N : Nat} {ss : Int32} {ds : Int32} {ti : Nat → Int32} {co : Int32} {oma : Nat → Int32} {obr : Int32} {obj : Int32} {obo : Int32} {obm : Int32} {plo : Nat → Int32} {pch : Nat → Int32} {pbe : Nat → Int32} {pbl : Int32} {dnu : Nat → Int32} {dde : Nat → Int32} {dbo : Int32} {dln : Int32} {dld : Int32} {tba : Nat → Int32} {tal : Nat → Int32} {tro : Int32} {tsc : Int64} {tcl : Nat → Nat → Int64} {rma : Nat → Int32} {Q : Int32 → Prop} (C0 : cxM cX5_rowOf 3 (some .int) RX5 wsX5_rowOf p s m args meth c dC dI cy A) :
    ∀ (x1 : Int32) (H : Heap) (locs : List Loc) (ls : Array Slot) (hm : p_X5_rowOf N tba tro Q x1) (hSt : stC dC dI A s (wC ad cy ss ds ti co oma obr obj obo obm plo pch pbe pbl dnu dde dbo dln dld tba tal tro tsc tcl rma) H locs) (hl : lv_has ls 3 [(0, .ref (ad 12)), (1, .int x1)]) (hret : ∀ (r : Int32) (H : Heap) (locs : List Loc) (ls : Array Slot) (pc : Nat), decode cX5_rowOf pc = .ok (.ireturn, 1) → stC dC dI A s (wC ad cy ss ds ti co oma obr obj obo obm plo pch pbe pbl dnu dde dbo dln dld tba tal tro tsc tcl rma) H locs → Q r → W p l e rmX5_rowOf s m args below meth c H locs 0 0 Z (F0 m pc ls [.int r])), W p l e rmX5_rowOf s m args below meth c H locs 0 0 Z (F0 m 0 ls []) := by
  obtain ⟨hx, hb, hml, hr, hown, hts, hlocks, hK, hA, hN⟩ := id C0
  intro x1 H locs ls hm hSt hl hret
  obtain ⟨hP, hD, hS⟩ := hSt
  unfold p_X5_rowOf at hm
  refine lv_iconst (v := 0) hx hb dX5_rowOf_0 (by decide) ?_
  refine lv_istore_n (lv' := [(2, .int (0 : Int32)), (0, .ref (ad 12)), (1, .int x1)]) hx hb dX5_rowOf_1 rfl hl (by decide) rfl (fun ls hl => ?_)
  exact k_X5_rowOf_2 C0 N x1 (0 : Int32) H locs ls hm ⟨hP, hD, hS⟩ (lv_sub hl [1, 2, 0] rfl) hret

set_option maxHeartbeats 4000000 in
set_option maxRecDepth 100000 in
theorem c_X5_rowOf (l : Launch) (dC : Nat → ClassId) (dI : Nat → Nat → Nat) (cy : Nat → ClassId) (ad : Nat → Nat) (sz : Nat) (ss : Int32) (ds : Int32) (ti : Nat → Int32) (co : Int32) (oma : Nat → Int32) (obr : Int32) (obj : Int32) (obo : Int32) (obm : Int32) (plo : Nat → Int32) (pch : Nat → Int32) (pbe : Nat → Int32) (pbl : Int32) (dnu : Nat → Int32) (dde : Nat → Int32) (dbo : Int32) (dln : Int32) (dld : Int32) (tba : Nat → Int32) (tal : Nat → Int32) (tro : Int32) (tsc : Int64) (tcl : Nat → Nat → Int64) (rma : Nat → Int32) (x1 : Int32) (N : Nat) (Q : Int32 → Prop) (hm : p_X5_rowOf N tba tro Q x1) : Met l yX5_rowOf wsX5_rowOf rmX5_rowOf (va_Pc [.ref (ad 12), .int x1] (cPre dC dI cy (wC ad cy ss ds ti co oma obr obj obo obm plo pch pbe pbl dnu dde dbo dln dld tba tal tro tsc tcl rma) sz)) (va_Qi (fun (r : Int32) (u : Unit) => Q r) (fun u t => cPost dC dI cy (wC ad cy ss ds ti co oma obr obj obo obm plo pch pbe pbl dnu dde dbo dln dld tba tal tro tsc tcl rma) sz (wC ad cy ss ds ti co oma obr obj obo obm plo pch pbe pbl dnu dde dbo dln dld tba tal tro tsc tcl rma) t) (va_A (wC ad cy ss ds ti co oma obr obj obo obm plo pch pbe pbl dnu dde dbo dln dld tba tal tro tsc tcl rma) sz)) 0 0 (va_A (wC ad cy ss ds ti co oma obr obj obo obm plo pch pbe pbl dnu dde dbo dln dld tba tal tro tsc tcl rma) sz) := by
  refine Met.ofW (cc := cX5_rowOf) (maxL := 3) (ret := (some .int)) (by decide) rfl ?_
  intro p e s m args below meth c s₁ B hml hv
  obtain ⟨rfl, hsz, hP, hK, hD0, hN⟩ := hv
  have hts := atoms_spec (ws := wsX5_rowOf) B.pre
  have hown : s.vm.findClass RX5 = some m.cls := findClass_of_methodNamed B.named
  subst hsz
  have hD := hD0.self (sz := s.heap.size)
  generalize hAe : va_A (wC ad cy ss ds ti co oma obr obj obo obm plo pch pbe pbl dnu dde dbo dln dld tba tal tro tsc tcl rma) s.heap.size = A at hD ⊢
  have hA : ∀ q : Nat, s.heap.size ≤ q → A q := fun q h => by rw [← hAe]; exact Or.inr h
  have hl := lv_entry ([.ref (ad 12), .int x1]) (n := 3) (Nat.le_of_ble_eq_true rfl)
  rw [lg_entry_eq]
  generalize (lg_sl ([.ref (ad 12), .int x1]) ++ List.replicate (3 - (lg_sl ([.ref (ad 12), .int x1])).length) Slot.unset).toArray = ls at hl ⊢
  have hl : lv_has ls 3 [(0, .ref (ad 12)), (1, .int x1)] := hl
  exact k_X5_rowOf_0 ⟨B.exec, B.bytes, hml, B.returns, hown, hts, B.notSynchronized, hK, hA, hN⟩ x1 s.heap [] ls hm ⟨hP, hD, va_S.rf⟩ (lv_sub hl [0, 1] rfl) (fun r H locs ls pc hdg hSt hq => W.iret B.exec B.bytes B.returns (fun t ht hW => ⟨⟨r, (), rfl, hq, cPost_of hAe ht hW.alike hSt hK⟩, hSt.2.2.F ht⟩) hSt.2.2.2.2 hdg B.notSynchronized)

-- ===== X5_scaledValue
theorem fl_X5_scaledValue_13 : Cond.fieldLink RX5 13 "UnlikeUnion$Tableau" "cells" "[[J" ∈ wsX5_scaledValue := by decide +kernel
theorem in_X5_scaledValue_X5 : ∀ w ∈ u_ws RX5 TX5 5, w ∈ wsX5_scaledValue := by decide +kernel
abbrev rmX5_scaledValue : Room := { frames := 2, cells := 0, slots := 0, locals := 145 }
def p_X5_scaledValue (N : Nat) (tba : Nat → Int32) (tro : Int32) (tcl : Nat → Nat → Int64) (Q : Int64 → Prop) (x1 : Int32) : Prop :=
  p_X5_rowOf N tba tro (fun r_1 => (r_1 = (-1 : Int32) → (Q (0 : Int64))) ∧ (¬ r_1 = (-1 : Int32) → (vp_in r_1 10 ∧ (Q (tcl (r_1).toNatClampNeg ((25 : Int32)).toNatClampNeg))))) x1

set_option maxHeartbeats 4000000 in
set_option maxRecDepth 100000 in
theorem k_X5_scaledValue_0 {N : Nat} {ss : Int32} {ds : Int32} {ti : Nat → Int32} {co : Int32} {oma : Nat → Int32} {obr : Int32} {obj : Int32} {obo : Int32} {obm : Int32} {plo : Nat → Int32} {pch : Nat → Int32} {pbe : Nat → Int32} {pbl : Int32} {dnu : Nat → Int32} {dde : Nat → Int32} {dbo : Int32} {dln : Int32} {dld : Int32} {tba : Nat → Int32} {tal : Nat → Int32} {tro : Int32} {tsc : Int64} {tcl : Nat → Nat → Int64} {rma : Nat → Int32} {Q : Int64 → Prop} (C0 : cxM cX5_scaledValue 3 (some .long) RX5 wsX5_scaledValue p s m args meth c dC dI cy A) :
    ∀ (x1 : Int32) (H : Heap) (locs : List Loc) (ls : Array Slot) (hm : p_X5_scaledValue N tba tro tcl Q x1) (hSt : stC dC dI A s (wC ad cy ss ds ti co oma obr obj obo obm plo pch pbe pbl dnu dde dbo dln dld tba tal tro tsc tcl rma) H locs) (hl : lv_has ls 3 [(0, .ref (ad 12)), (1, .int x1)]) (hret : ∀ (r : Int64) (H : Heap) (locs : List Loc) (ls : Array Slot) (pc : Nat), decode cX5_scaledValue pc = .ok (.lreturn, 1) → stC dC dI A s (wC ad cy ss ds ti co oma obr obj obo obm plo pch pbe pbl dnu dde dbo dln dld tba tal tro tsc tcl rma) H locs → Q r → W p l e rmX5_scaledValue s m args below meth c H locs 0 0 Z (F0 m pc ls [.long r])), W p l e rmX5_scaledValue s m args below meth c H locs 0 0 Z (F0 m 0 ls []) := by
  obtain ⟨hx, hb, hml, hr, hown, hts, hlocks, hK, hA, hN⟩ := id C0
  intro x1 H locs ls hm hSt hl hret
  obtain ⟨hP, hD, hS⟩ := hSt
  unfold p_X5_scaledValue at hm
  refine lv_aload_n hx hb dX5_scaledValue_0 rfl (lv_at hl 0 rfl) ?_
  refine lv_iload_n hx hb dX5_scaledValue_1 rfl (lv_at hl 1 rfl) ?_
  have hFc := va_freeSame hD hS hA
  refine va_calli (va_runV (As := [.int x1]) (rest := []) ⟨hx, hb, hml, hown, hts⟩ (c_X5_rowOf l dC dI cy ad H.size ss ds ti co oma obr obj obo obm plo pch pbe pbl dnu dde dbo dln dld tba tal tro tsc tcl rma x1 _ _ hm) (cwV 1 hts gX5_scaledValue_X5_rowOf rfl rfl rfl (by decide +kernel) ⟨Nat.le_of_ble_eq_true rfl, Nat.le_of_ble_eq_true rfl⟩) ⟨cPre_blind, va_recv hK hP (ci := 5) (q0 := 12) rfl rfl, fun U hU hW => ⟨rfl, cPre_at hP hK hD hN hU hW⟩⟩ rfl rfl hl.1 rfl (lv_room (Nat.le_of_ble_eq_true rfl)) dX5_scaledValue_2 ⟨Nat.zero_le _, Nat.zero_le _⟩) hS (fun q _ h => hFc q h) hFc (fun r_1 u t H locs ht hvm hw hB hz1 hk1 hS => ?_)
  try dsimp only at hw
  have hm := hw
  have hP : va_P (dC, dI) vwCl (wC ad cy ss ds ti co oma obr obj obo obm plo pch pbe pbl dnu dde dbo dln dld tba tal tro tsc tcl rma) H := cPost_P ht hB
  have hD : va_D A (wC ad cy ss ds ti co oma obr obj obo obm plo pch pbe pbl dnu dde dbo dln dld tba tal tro tsc tcl rma) := cPost_D hFc hB
  refine lv_istore_n (lv' := [(2, .int r_1), (0, .ref (ad 12)), (1, .int x1)]) hx hb dX5_scaledValue_5 rfl hl (by decide) rfl (fun ls hl => ?_)
  refine lv_iload_n hx hb dX5_scaledValue_6 rfl (lv_at hl 0 rfl) ?_
  refine lv_iconst (v := -1) hx hb dX5_scaledValue_7 (by decide) ?_
  refine lv_icmp_ne (tgt := 15) hx hb dX5_scaledValue_8 (by decide) (fun c_2 => ?_) (fun c_2 => ?_)
  · have hm := hm.2 c_2
    refine lv_aload_n hx hb dX5_scaledValue_15 rfl (lv_at hl 1 rfl) ?_
    refine va_get (D := (dC, dI)) (ci := 5) (v := .ref (ad 13)) (C := RX5) (T := TX5) (N := 5) hx hb hts in_X5_scaledValue_X5 hown hK hP 12 rfl rfl 0 (by decide) (hts _ fl_X5_scaledValue_13) (fun _ h9 => h9) rfl dX5_scaledValue_16 ?_
    refine lv_iload_n hx hb dX5_scaledValue_19 rfl (lv_at hl 0 rfl) ?_
    have hi_3 := hm.1
    have hm := hm.2
    refine wC_aald hx hb hK hP hi_3 dX5_scaledValue_20 ?_
    refine lv_bipush (v := 25) hx hb dX5_scaledValue_21 (by decide) ?_
    refine va_lald hx hb hK hP _ 1 (wC_row hi_3) rfl (vp_in_iff.mpr (by decide)) dX5_scaledValue_23 ?_
    exact hret (tcl (r_1).toNatClampNeg ((25 : Int32)).toNatClampNeg) H locs ls 24 dX5_scaledValue_24 ⟨hP, hD, hS⟩ hm
  · have hm := hm.1 c_2
    refine lv_lconst (v := 0) hx hb dX5_scaledValue_11 (by decide) ?_
    refine lv_goto (tgt := 24) hx hb dX5_scaledValue_12 (by decide) ?_
    exact hret (0 : Int64) H locs ls 24 dX5_scaledValue_24 ⟨hP, hD, hS⟩ hm

set_option maxHeartbeats 4000000 in
set_option maxRecDepth 100000 in
theorem c_X5_scaledValue (l : Launch) (dC : Nat → ClassId) (dI : Nat → Nat → Nat) (cy : Nat → ClassId) (ad : Nat → Nat) (sz : Nat) (ss : Int32) (ds : Int32) (ti : Nat → Int32) (co : Int32) (oma : Nat → Int32) (obr : Int32) (obj : Int32) (obo : Int32) (obm : Int32) (plo : Nat → Int32) (pch : Nat → Int32) (pbe : Nat → Int32) (pbl : Int32) (dnu : Nat → Int32) (dde : Nat → Int32) (dbo : Int32) (dln : Int32) (dld : Int32) (tba : Nat → Int32) (tal : Nat → Int32) (tro : Int32) (tsc : Int64) (tcl : Nat → Nat → Int64) (rma : Nat → Int32) (x1 : Int32) (N : Nat) (Q : Int64 → Prop) (hm : p_X5_scaledValue N tba tro tcl Q x1) : Met l yX5_scaledValue wsX5_scaledValue rmX5_scaledValue (va_Pc [.ref (ad 12), .int x1] (cPre dC dI cy (wC ad cy ss ds ti co oma obr obj obo obm plo pch pbe pbl dnu dde dbo dln dld tba tal tro tsc tcl rma) sz)) (va_Ql (fun (r : Int64) (u : Unit) => Q r) (fun u t => cPost dC dI cy (wC ad cy ss ds ti co oma obr obj obo obm plo pch pbe pbl dnu dde dbo dln dld tba tal tro tsc tcl rma) sz (wC ad cy ss ds ti co oma obr obj obo obm plo pch pbe pbl dnu dde dbo dln dld tba tal tro tsc tcl rma) t) (va_A (wC ad cy ss ds ti co oma obr obj obo obm plo pch pbe pbl dnu dde dbo dln dld tba tal tro tsc tcl rma) sz)) 0 0 (va_A (wC ad cy ss ds ti co oma obr obj obo obm plo pch pbe pbl dnu dde dbo dln dld tba tal tro tsc tcl rma) sz) := by
  refine Met.ofW (cc := cX5_scaledValue) (maxL := 3) (ret := (some .long)) (by decide) rfl ?_
  intro p e s m args below meth c s₁ B hml hv
  obtain ⟨rfl, hsz, hP, hK, hD0, hN⟩ := hv
  have hts := atoms_spec (ws := wsX5_scaledValue) B.pre
  have hown : s.vm.findClass RX5 = some m.cls := findClass_of_methodNamed B.named
  subst hsz
  have hD := hD0.self (sz := s.heap.size)
  generalize hAe : va_A (wC ad cy ss ds ti co oma obr obj obo obm plo pch pbe pbl dnu dde dbo dln dld tba tal tro tsc tcl rma) s.heap.size = A at hD ⊢
  have hA : ∀ q : Nat, s.heap.size ≤ q → A q := fun q h => by rw [← hAe]; exact Or.inr h
  have hl := lv_entry ([.ref (ad 12), .int x1]) (n := 3) (Nat.le_of_ble_eq_true rfl)
  rw [lg_entry_eq]
  generalize (lg_sl ([.ref (ad 12), .int x1]) ++ List.replicate (3 - (lg_sl ([.ref (ad 12), .int x1])).length) Slot.unset).toArray = ls at hl ⊢
  have hl : lv_has ls 3 [(0, .ref (ad 12)), (1, .int x1)] := hl
  exact k_X5_scaledValue_0 ⟨B.exec, B.bytes, hml, B.returns, hown, hts, B.notSynchronized, hK, hA, hN⟩ x1 s.heap [] ls hm ⟨hP, hD, va_S.rf⟩ (lv_sub hl [0, 1] rfl) (fun r H locs ls pc hdg hSt hq => W.lret B.exec B.bytes B.returns (fun t ht hW => ⟨⟨r, (), rfl, hq, cPost_of hAe ht hW.alike hSt hK⟩, hSt.2.2.F ht⟩) hSt.2.2.2.2 hdg B.notSynchronized)

-- ===== X5_columnWithSign
theorem fl_X5_columnWithSign_20 : Cond.fieldLink RX5 20 "UnlikeUnion$Tableau" "allowed" "[Z" ∈ wsX5_columnWithSign := by decide +kernel
theorem fl_X5_columnWithSign_13 : Cond.fieldLink RX5 13 "UnlikeUnion$Tableau" "cells" "[[J" ∈ wsX5_columnWithSign := by decide +kernel
theorem in_X5_columnWithSign_X5 : ∀ w ∈ u_ws RX5 TX5 5, w ∈ wsX5_columnWithSign := by decide +kernel
abbrev rmX5_columnWithSign : Room := { frames := 1, cells := 0, slots := 0, locals := 64 }
def p_X5_columnWithSign_3 (N : Nat) (tal : Nat → Int32) (tcl : Nat → Nat → Int64) (Q : Int32 → Prop) : Nat → Int32 → Int32 → Int32 → Prop
  | 0 => fun _ _ _ => False
  | n + 1 => fun x1 x2 x3 => (x3 < 0 → (Q (-1 : Int32))) ∧ (¬ x3 < 0 → (vp_in x3 25 ∧ (((tal (x3).toNatClampNeg) = 0 → (∀ x3_4 : Int32, x3_4 = x3 + (-1 : Int32) → (p_X5_columnWithSign_3 N tal tcl Q n x1 x2 x3_4))) ∧ (¬ (tal (x3).toNatClampNeg) = 0 → (vp_in x1 10 ∧ (vp_in x3 26 ∧ ((((tcl (x1).toNatClampNeg (x3).toNatClampNeg) * ((x2).toInt64)) ≤ (0 : Int64) → (∀ x3_8 : Int32, x3_8 = x3 + (-1 : Int32) → (p_X5_columnWithSign_3 N tal tcl Q n x1 x2 x3_8))) ∧ (¬ ((tcl (x1).toNatClampNeg (x3).toNatClampNeg) * ((x2).toInt64)) ≤ (0 : Int64) → (Q x3)))))))))

def p_X5_columnWithSign (N : Nat) (tal : Nat → Int32) (tcl : Nat → Nat → Int64) (Q : Int32 → Prop) (x1 : Int32) (x2 : Int32) : Prop :=
  p_X5_columnWithSign_3 N tal tcl Q N x1 x2 (24 : Int32)

set_option maxHeartbeats 4000000 in
set_option maxRecDepth 100000 in
theorem k_X5_columnWithSign_3 {N : Nat} {ss : Int32} {ds : Int32} {ti : Nat → Int32} {co : Int32} {oma : Nat → Int32} {obr : Int32} {obj : Int32} {obo : Int32} {obm : Int32} {plo : Nat → Int32} {pch : Nat → Int32} {pbe : Nat → Int32} {pbl : Int32} {dnu : Nat → Int32} {dde : Nat → Int32} {dbo : Int32} {dln : Int32} {dld : Int32} {tba : Nat → Int32} {tal : Nat → Int32} {tro : Int32} {tsc : Int64} {tcl : Nat → Nat → Int64} {rma : Nat → Int32} {Q : Int32 → Prop} (C0 : cxM cX5_columnWithSign 4 (some .int) RX5 wsX5_columnWithSign p s m args meth c dC dI cy A) :
    ∀ (n : Nat) (x1 : Int32) (x2 : Int32) (x3 : Int32) (H : Heap) (locs : List Loc) (ls : Array Slot) (hm : p_X5_columnWithSign_3 N tal tcl Q n x1 x2 x3) (hSt : stC dC dI A s (wC ad cy ss ds ti co oma obr obj obo obm plo pch pbe pbl dnu dde dbo dln dld tba tal tro tsc tcl rma) H locs) (hl : lv_has ls 4 [(0, .ref (ad 12)), (1, .int x1), (2, .int x2), (3, .int x3)]) (hret : ∀ (r : Int32) (H : Heap) (locs : List Loc) (ls : Array Slot) (pc : Nat), decode cX5_columnWithSign pc = .ok (.ireturn, 1) → stC dC dI A s (wC ad cy ss ds ti co oma obr obj obo obm plo pch pbe pbl dnu dde dbo dln dld tba tal tro tsc tcl rma) H locs → Q r → W p l e rmX5_columnWithSign s m args below meth c H locs 0 0 Z (F0 m pc ls [.int r])), W p l e rmX5_columnWithSign s m args below meth c H locs 0 0 Z (F0 m 3 ls []) := by
  obtain ⟨hx, hb, hml, hr, hown, hts, hlocks, hK, hA, hN⟩ := id C0
  intro n
  induction n with
  | zero => intro x1 x2 x3 H locs ls hm; exact False.elim hm
  | succ n ih =>
    intro x1 x2 x3 H locs ls hm hSt hl hret
    obtain ⟨hP, hD, hS⟩ := hSt
    unfold p_X5_columnWithSign_3 at hm
    refine lv_iload_n hx hb dX5_columnWithSign_3 rfl (lv_at hl 3 rfl) ?_
    refine lv_if_lt (tgt := 40) hx hb dX5_columnWithSign_4 (by decide) (fun c_1 => ?_) (fun c_1 => ?_)
    · have hm := hm.1 c_1
      refine lv_iconst (v := -1) hx hb dX5_columnWithSign_40 (by decide) ?_
      exact hret (-1 : Int32) H locs ls 41 dX5_columnWithSign_41 ⟨hP, hD, hS⟩ hm
    · have hm := hm.2 c_1
      refine lv_aload_n hx hb dX5_columnWithSign_7 rfl (lv_at hl 0 rfl) ?_
      refine va_get (D := (dC, dI)) (ci := 5) (v := .ref (ad 15)) (C := RX5) (T := TX5) (N := 5) hx hb hts in_X5_columnWithSign_X5 hown hK hP 12 rfl rfl 2 (by decide) (hts _ fl_X5_columnWithSign_20) (fun _ h9 => h9) rfl dX5_columnWithSign_8 ?_
      refine lv_iload_n hx hb dX5_columnWithSign_11 rfl (lv_at hl 3 rfl) ?_
      have hi_2 := hm.1
      have hm := hm.2
      refine va_zald hx hb hK hP 15 2 rfl rfl hi_2 dX5_columnWithSign_12 ?_
      refine lv_if_eq (tgt := 34) hx hb dX5_columnWithSign_13 (by decide) (fun c_3 => ?_) (fun c_3 => ?_)
      · have hm := hm.1 c_3
        obtain ⟨x3_4, ex3_4⟩ : ∃ y : Int32, y = x3 + (-1 : Int32) := ⟨_, rfl⟩
        have hm := hm x3_4 ex3_4
        refine lv_iinc (v := x3_4) (lv' := [(3, .int x3_4), (0, .ref (ad 12)), (1, .int x1), (2, .int x2)]) hx hb dX5_columnWithSign_34 hl (k := 3) rfl (by rw [ex3_4]; rfl) (by decide) rfl (fun ls hl => ?_)
        refine lv_goto (tgt := 3) hx hb dX5_columnWithSign_37 (by decide) ?_
        exact ih x1 x2 x3_4 H locs ls hm ⟨hP, hD, hS⟩ (lv_sub hl [1, 2, 3, 0] rfl) hret
      · have hm := hm.2 c_3
        refine lv_aload_n hx hb dX5_columnWithSign_16 rfl (lv_at hl 0 rfl) ?_
        refine va_get (D := (dC, dI)) (ci := 5) (v := .ref (ad 13)) (C := RX5) (T := TX5) (N := 5) hx hb hts in_X5_columnWithSign_X5 hown hK hP 12 rfl rfl 0 (by decide) (hts _ fl_X5_columnWithSign_13) (fun _ h9 => h9) rfl dX5_columnWithSign_17 ?_
        refine lv_iload_n hx hb dX5_columnWithSign_20 rfl (lv_at hl 1 rfl) ?_
        have hi_5 := hm.1
        have hm := hm.2
        refine wC_aald hx hb hK hP hi_5 dX5_columnWithSign_21 ?_
        refine lv_iload_n hx hb dX5_columnWithSign_22 rfl (lv_at hl 3 rfl) ?_
        have hi_6 := hm.1
        have hm := hm.2
        refine va_lald hx hb hK hP _ 1 (wC_row hi_5) rfl hi_6 dX5_columnWithSign_23 ?_
        refine lv_iload_n hx hb dX5_columnWithSign_24 rfl (lv_at hl 2 rfl) ?_
        refine lv_i2l (v := (x2).toInt64) hx hb dX5_columnWithSign_25 rfl ?_
        refine lv_lmul hx hb dX5_columnWithSign_26 ?_
        refine lv_lconst (v := 0) hx hb dX5_columnWithSign_27 (by decide) ?_
        refine lq_le (tgt := 34) hx hb dX5_columnWithSign_28 dX5_columnWithSign_29 (by decide) (fun c_7 => ?_) (fun c_7 => ?_)
        · have hm := hm.1 c_7
          obtain ⟨x3_8, ex3_8⟩ : ∃ y : Int32, y = x3 + (-1 : Int32) := ⟨_, rfl⟩
          have hm := hm x3_8 ex3_8
          refine lv_iinc (v := x3_8) (lv' := [(3, .int x3_8), (0, .ref (ad 12)), (1, .int x1), (2, .int x2)]) hx hb dX5_columnWithSign_34 hl (k := 3) rfl (by rw [ex3_8]; rfl) (by decide) rfl (fun ls hl => ?_)
          refine lv_goto (tgt := 3) hx hb dX5_columnWithSign_37 (by decide) ?_
          exact ih x1 x2 x3_8 H locs ls hm ⟨hP, hD, hS⟩ (lv_sub hl [1, 2, 3, 0] rfl) hret
        · have hm := hm.2 c_7
          refine lv_iload_n hx hb dX5_columnWithSign_32 rfl (lv_at hl 3 rfl) ?_
          exact hret x3 H locs ls 33 dX5_columnWithSign_33 ⟨hP, hD, hS⟩ hm

set_option maxHeartbeats 4000000 in
set_option maxRecDepth 100000 in
theorem k_X5_columnWithSign_0 {N : Nat} {ss : Int32} {ds : Int32} {ti : Nat → Int32} {co : Int32} {oma : Nat → Int32} {obr : Int32} {obj : Int32} {obo : Int32} {obm : Int32} {plo : Nat → Int32} {pch : Nat → Int32} {pbe : Nat → Int32} {pbl : Int32} {dnu : Nat → Int32} {dde : Nat → Int32} {dbo : Int32} {dln : Int32} {dld : Int32} {tba : Nat → Int32} {tal : Nat → Int32} {tro : Int32} {tsc : Int64} {tcl : Nat → Nat → Int64} {rma : Nat → Int32} {Q : Int32 → Prop} (C0 : cxM cX5_columnWithSign 4 (some .int) RX5 wsX5_columnWithSign p s m args meth c dC dI cy A) :
    ∀ (x1 : Int32) (x2 : Int32) (H : Heap) (locs : List Loc) (ls : Array Slot) (hm : p_X5_columnWithSign N tal tcl Q x1 x2) (hSt : stC dC dI A s (wC ad cy ss ds ti co oma obr obj obo obm plo pch pbe pbl dnu dde dbo dln dld tba tal tro tsc tcl rma) H locs) (hl : lv_has ls 4 [(0, .ref (ad 12)), (1, .int x1), (2, .int x2)]) (hret : ∀ (r : Int32) (H : Heap) (locs : List Loc) (ls : Array Slot) (pc : Nat), decode cX5_columnWithSign pc = .ok (.ireturn, 1) → stC dC dI A s (wC ad cy ss ds ti co oma obr obj obo obm plo pch pbe pbl dnu dde dbo dln dld tba tal tro tsc tcl rma) H locs → Q r → W p l e rmX5_columnWithSign s m args below meth c H locs 0 0 Z (F0 m pc ls [.int r])), W p l e rmX5_columnWithSign s m args below meth c H locs 0 0 Z (F0 m 0 ls []) := by
  obtain ⟨hx, hb, hml, hr, hown, hts, hlocks, hK, hA, hN⟩ := id C0
  intro x1 x2 H locs ls hm hSt hl hret
  obtain ⟨hP, hD, hS⟩ := hSt
  unfold p_X5_columnWithSign at hm
  refine lv_bipush (v := 24) hx hb dX5_columnWithSign_0 (by decide) ?_
  refine lv_istore_n (lv' := [(3, .int (24 : Int32)), (0, .ref (ad 12)), (1, .int x1), (2, .int x2)]) hx hb dX5_columnWithSign_2 rfl hl (by decide) rfl (fun ls hl => ?_)
  exact k_X5_columnWithSign_3 C0 N x1 x2 (24 : Int32) H locs ls hm ⟨hP, hD, hS⟩ (lv_sub hl [1, 2, 3, 0] rfl) hret

set_option maxHeartbeats 4000000 in
set_option maxRecDepth 100000 in
theorem c_X5_columnWithSign (l : Launch) (dC : Nat → ClassId) (dI : Nat → Nat → Nat) (cy : Nat → ClassId) (ad : Nat → Nat) (sz : Nat) (ss : Int32) (ds : Int32) (ti : Nat → Int32) (co : Int32) (oma : Nat → Int32) (obr : Int32) (obj : Int32) (obo : Int32) (obm : Int32) (plo : Nat → Int32) (pch : Nat → Int32) (pbe : Nat → Int32) (pbl : Int32) (dnu : Nat → Int32) (dde : Nat → Int32) (dbo : Int32) (dln : Int32) (dld : Int32) (tba : Nat → Int32) (tal : Nat → Int32) (tro : Int32) (tsc : Int64) (tcl : Nat → Nat → Int64) (rma : Nat → Int32) (x1 : Int32) (x2 : Int32) (N : Nat) (Q : Int32 → Prop) (hm : p_X5_columnWithSign N tal tcl Q x1 x2) : Met l yX5_columnWithSign wsX5_columnWithSign rmX5_columnWithSign (va_Pc [.ref (ad 12), .int x1, .int x2] (cPre dC dI cy (wC ad cy ss ds ti co oma obr obj obo obm plo pch pbe pbl dnu dde dbo dln dld tba tal tro tsc tcl rma) sz)) (va_Qi (fun (r : Int32) (u : Unit) => Q r) (fun u t => cPost dC dI cy (wC ad cy ss ds ti co oma obr obj obo obm plo pch pbe pbl dnu dde dbo dln dld tba tal tro tsc tcl rma) sz (wC ad cy ss ds ti co oma obr obj obo obm plo pch pbe pbl dnu dde dbo dln dld tba tal tro tsc tcl rma) t) (va_A (wC ad cy ss ds ti co oma obr obj obo obm plo pch pbe pbl dnu dde dbo dln dld tba tal tro tsc tcl rma) sz)) 0 0 (va_A (wC ad cy ss ds ti co oma obr obj obo obm plo pch pbe pbl dnu dde dbo dln dld tba tal tro tsc tcl rma) sz) := by
  refine Met.ofW (cc := cX5_columnWithSign) (maxL := 4) (ret := (some .int)) (by decide) rfl ?_
  intro p e s m args below meth c s₁ B hml hv
  obtain ⟨rfl, hsz, hP, hK, hD0, hN⟩ := hv
  have hts := atoms_spec (ws := wsX5_columnWithSign) B.pre
  have hown : s.vm.findClass RX5 = some m.cls := findClass_of_methodNamed B.named
  subst hsz
  have hD := hD0.self (sz := s.heap.size)
  generalize hAe : va_A (wC ad cy ss ds ti co oma obr obj obo obm plo pch pbe pbl dnu dde dbo dln dld tba tal tro tsc tcl rma) s.heap.size = A at hD ⊢
  have hA : ∀ q : Nat, s.heap.size ≤ q → A q := fun q h => by rw [← hAe]; exact Or.inr h
  have hl := lv_entry ([.ref (ad 12), .int x1, .int x2]) (n := 4) (Nat.le_of_ble_eq_true rfl)
  rw [lg_entry_eq]
  generalize (lg_sl ([.ref (ad 12), .int x1, .int x2]) ++ List.replicate (4 - (lg_sl ([.ref (ad 12), .int x1, .int x2])).length) Slot.unset).toArray = ls at hl ⊢
  have hl : lv_has ls 4 [(0, .ref (ad 12)), (1, .int x1), (2, .int x2)] := hl
  exact k_X5_columnWithSign_0 ⟨B.exec, B.bytes, hml, B.returns, hown, hts, B.notSynchronized, hK, hA, hN⟩ x1 x2 s.heap [] ls hm ⟨hP, hD, va_S.rf⟩ (lv_sub hl [0, 1, 2] rfl) (fun r H locs ls pc hdg hSt hq => W.iret B.exec B.bytes B.returns (fun t ht hW => ⟨⟨r, (), rfl, hq, cPost_of hAe ht hW.alike hSt hK⟩, hSt.2.2.F ht⟩) hSt.2.2.2.2 hdg B.notSynchronized)

-- ===== X5_hold
theorem fl_X5_hold_13 : Cond.fieldLink RX5 13 "UnlikeUnion$Tableau" "cells" "[[J" ∈ wsX5_hold := by decide +kernel
theorem fl_X5_hold_16 : Cond.fieldLink RX5 16 "UnlikeUnion$Tableau" "basic" "[I" ∈ wsX5_hold := by decide +kernel
theorem fl_X5_hold_20 : Cond.fieldLink RX5 20 "UnlikeUnion$Tableau" "allowed" "[Z" ∈ wsX5_hold := by decide +kernel
theorem in_X5_hold_X5 : ∀ w ∈ u_ws RX5 TX5 5, w ∈ wsX5_hold := by decide +kernel
abbrev rmX5_hold : Room := { frames := 1, cells := 0, slots := 0, locals := 63 }
def p_X5_hold_2 (N : Nat) (tba : Nat → Int32) (tcl : Nat → Nat → Int64) (Q : (Nat → Int32) → Prop) : Nat → Int32 → Int32 → (Nat → Int32) → Prop
  | 0 => fun _ _ _ => False
  | n + 1 => fun x1 x2 tal => ((25 : Int32) ≤ x2 → (Q tal)) ∧ (¬ (25 : Int32) ≤ x2 → (vp_in x1 10 ∧ (vp_in x2 26 ∧ (((tcl (x1).toNatClampNeg (x2).toNatClampNeg) = (0 : Int64) → (∀ x2_5 : Int32, x2_5 = x2 + (1 : Int32) → (p_X5_hold_2 N tba tcl Q n x1 x2_5 tal))) ∧ (¬ (tcl (x1).toNatClampNeg (x2).toNatClampNeg) = (0 : Int64) → (vp_in x1 10 ∧ (((tba (x1).toNatClampNeg) = x2 → (∀ x2_8 : Int32, x2_8 = x2 + (1 : Int32) → (p_X5_hold_2 N tba tcl Q n x1 x2_8 tal))) ∧ (¬ (tba (x1).toNatClampNeg) = x2 → (vp_in x2 25 ∧ (∀ x2_10 : Int32, x2_10 = x2 + (1 : Int32) → (p_X5_hold_2 N tba tcl Q n x1 x2_10 (upd tal (x2).toNatClampNeg (vp_nar .boolean (0 : Int32))))))))))))))

def p_X5_hold (N : Nat) (tba : Nat → Int32) (tcl : Nat → Nat → Int64) (Q : (Nat → Int32) → Prop) (x1 : Int32) (tal : Nat → Int32) : Prop :=
  p_X5_hold_2 N tba tcl Q N x1 (0 : Int32) tal

set_option maxHeartbeats 4000000 in
set_option maxRecDepth 100000 in
theorem k_X5_hold_2 {N : Nat} {ss : Int32} {ds : Int32} {ti : Nat → Int32} {co : Int32} {oma : Nat → Int32} {obr : Int32} {obj : Int32} {obo : Int32} {obm : Int32} {plo : Nat → Int32} {pch : Nat → Int32} {pbe : Nat → Int32} {pbl : Int32} {dnu : Nat → Int32} {dde : Nat → Int32} {dbo : Int32} {dln : Int32} {dld : Int32} {tba : Nat → Int32} {tro : Int32} {tsc : Int64} {tcl : Nat → Nat → Int64} {rma : Nat → Int32} {Q : (Nat → Int32) → Prop} (C0 : cxM cX5_hold 3 none RX5 wsX5_hold p s m args meth c dC dI cy A) :
    ∀ (n : Nat) (x1 : Int32) (x2 : Int32) (tal : Nat → Int32) (H : Heap) (locs : List Loc) (ls : Array Slot) (hm : p_X5_hold_2 N tba tcl Q n x1 x2 tal) (hSt : stC dC dI A s (wC ad cy ss ds ti co oma obr obj obo obm plo pch pbe pbl dnu dde dbo dln dld tba tal tro tsc tcl rma) H locs) (hl : lv_has ls 3 [(0, .ref (ad 12)), (1, .int x1), (2, .int x2)]) (hret : ∀ (tal : Nat → Int32) (H : Heap) (locs : List Loc) (ls : Array Slot) (pc : Nat), decode cX5_hold pc = .ok (.return_, 1) → stC dC dI A s (wC ad cy ss ds ti co oma obr obj obo obm plo pch pbe pbl dnu dde dbo dln dld tba tal tro tsc tcl rma) H locs → Q tal → W p l e rmX5_hold s m args below meth c H locs 0 0 Z (F0 m pc ls [])), W p l e rmX5_hold s m args below meth c H locs 0 0 Z (F0 m 2 ls []) := by
  obtain ⟨hx, hb, hml, hr, hown, hts, hlocks, hK, hA, hN⟩ := id C0
  intro n
  induction n with
  | zero => intro x1 x2 tal H locs ls hm; exact False.elim hm
  | succ n ih =>
    intro x1 x2 tal H locs ls hm hSt hl hret
    obtain ⟨hP, hD, hS⟩ := hSt
    unfold p_X5_hold_2 at hm
    refine lv_iload_n hx hb dX5_hold_2 rfl (lv_at hl 2 rfl) ?_
    refine lv_bipush (v := 25) hx hb dX5_hold_3 (by decide) ?_
    refine lv_icmp_ge (tgt := 44) hx hb dX5_hold_5 (by decide) (fun c_1 => ?_) (fun c_1 => ?_)
    · have hm := hm.1 c_1
      exact hret tal H locs ls 44 dX5_hold_44 ⟨hP, hD, hS⟩ hm
    · have hm := hm.2 c_1
      refine lv_aload_n hx hb dX5_hold_8 rfl (lv_at hl 0 rfl) ?_
      refine va_get (D := (dC, dI)) (ci := 5) (v := .ref (ad 13)) (C := RX5) (T := TX5) (N := 5) hx hb hts in_X5_hold_X5 hown hK hP 12 rfl rfl 0 (by decide) (hts _ fl_X5_hold_13) (fun _ h9 => h9) rfl dX5_hold_9 ?_
      refine lv_iload_n hx hb dX5_hold_12 rfl (lv_at hl 1 rfl) ?_
      have hi_2 := hm.1
      have hm := hm.2
      refine wC_aald hx hb hK hP hi_2 dX5_hold_13 ?_
      refine lv_iload_n hx hb dX5_hold_14 rfl (lv_at hl 2 rfl) ?_
      have hi_3 := hm.1
      have hm := hm.2
      refine va_lald hx hb hK hP _ 1 (wC_row hi_2) rfl hi_3 dX5_hold_15 ?_
      refine lv_lconst (v := 0) hx hb dX5_hold_16 (by decide) ?_
      refine lq_eq (tgt := 38) hx hb dX5_hold_17 dX5_hold_18 (by decide) (fun c_4 => ?_) (fun c_4 => ?_)
      · have hm := hm.1 c_4
        obtain ⟨x2_5, ex2_5⟩ : ∃ y : Int32, y = x2 + (1 : Int32) := ⟨_, rfl⟩
        have hm := hm x2_5 ex2_5
        refine lv_iinc (v := x2_5) (lv' := [(2, .int x2_5), (0, .ref (ad 12)), (1, .int x1)]) hx hb dX5_hold_38 hl (k := 2) rfl (by rw [ex2_5]; rfl) (by decide) rfl (fun ls hl => ?_)
        refine lv_goto (tgt := 2) hx hb dX5_hold_41 (by decide) ?_
        exact ih x1 x2_5 tal H locs ls hm ⟨hP, hD, hS⟩ (lv_sub hl [1, 2, 0] rfl) hret
      · have hm := hm.2 c_4
        refine lv_aload_n hx hb dX5_hold_21 rfl (lv_at hl 0 rfl) ?_
        refine va_get (D := (dC, dI)) (ci := 5) (v := .ref (ad 14)) (C := RX5) (T := TX5) (N := 5) hx hb hts in_X5_hold_X5 hown hK hP 12 rfl rfl 1 (by decide) (hts _ fl_X5_hold_16) (fun _ h9 => h9) rfl dX5_hold_22 ?_
        refine lv_iload_n hx hb dX5_hold_25 rfl (lv_at hl 1 rfl) ?_
        have hi_6 := hm.1
        have hm := hm.2
        refine va_iald hx hb hK hP 14 0 rfl rfl hi_6 dX5_hold_26 ?_
        refine lv_iload_n hx hb dX5_hold_27 rfl (lv_at hl 2 rfl) ?_
        refine lv_icmp_eq (tgt := 38) hx hb dX5_hold_28 (by decide) (fun c_7 => ?_) (fun c_7 => ?_)
        · have hm := hm.1 c_7
          obtain ⟨x2_8, ex2_8⟩ : ∃ y : Int32, y = x2 + (1 : Int32) := ⟨_, rfl⟩
          have hm := hm x2_8 ex2_8
          refine lv_iinc (v := x2_8) (lv' := [(2, .int x2_8), (0, .ref (ad 12)), (1, .int x1)]) hx hb dX5_hold_38 hl (k := 2) rfl (by rw [ex2_8]; rfl) (by decide) rfl (fun ls hl => ?_)
          refine lv_goto (tgt := 2) hx hb dX5_hold_41 (by decide) ?_
          exact ih x1 x2_8 tal H locs ls hm ⟨hP, hD, hS⟩ (lv_sub hl [1, 2, 0] rfl) hret
        · have hm := hm.2 c_7
          refine lv_aload_n hx hb dX5_hold_31 rfl (lv_at hl 0 rfl) ?_
          refine va_get (D := (dC, dI)) (ci := 5) (v := .ref (ad 15)) (C := RX5) (T := TX5) (N := 5) hx hb hts in_X5_hold_X5 hown hK hP 12 rfl rfl 2 (by decide) (hts _ fl_X5_hold_20) (fun _ h9 => h9) rfl dX5_hold_32 ?_
          refine lv_iload_n hx hb dX5_hold_35 rfl (lv_at hl 2 rfl) ?_
          refine lv_iconst (v := 0) hx hb dX5_hold_36 (by decide) ?_
          have hi_9 := hm.1
          have hm := hm.2
          refine va_zast hx hb hK hP hD hS 15 2 rfl rfl hi_9 dX5_hold_37 (fun H locs hP hD hS => ?_)
          have hP : va_P (dC, dI) vwCl (wC ad cy ss ds ti co oma obr obj obo obm plo pch pbe pbl dnu dde dbo dln dld tba (upd tal (x2).toNatClampNeg (vp_nar .boolean (0 : Int32))) tro tsc tcl rma) H := hP
          have hD : va_D A (wC ad cy ss ds ti co oma obr obj obo obm plo pch pbe pbl dnu dde dbo dln dld tba (upd tal (x2).toNatClampNeg (vp_nar .boolean (0 : Int32))) tro tsc tcl rma) := hD
          obtain ⟨x2_10, ex2_10⟩ : ∃ y : Int32, y = x2 + (1 : Int32) := ⟨_, rfl⟩
          have hm := hm x2_10 ex2_10
          refine lv_iinc (v := x2_10) (lv' := [(2, .int x2_10), (0, .ref (ad 12)), (1, .int x1)]) hx hb dX5_hold_38 hl (k := 2) rfl (by rw [ex2_10]; rfl) (by decide) rfl (fun ls hl => ?_)
          refine lv_goto (tgt := 2) hx hb dX5_hold_41 (by decide) ?_
          exact ih x1 x2_10 (upd tal (x2).toNatClampNeg (vp_nar .boolean (0 : Int32))) H locs ls hm ⟨hP, hD, hS⟩ (lv_sub hl [1, 2, 0] rfl) hret

set_option maxHeartbeats 4000000 in
set_option maxRecDepth 100000 in
theorem k_X5_hold_0 {N : Nat} {ss : Int32} {ds : Int32} {ti : Nat → Int32} {co : Int32} {oma : Nat → Int32} {obr : Int32} {obj : Int32} {obo : Int32} {obm : Int32} {plo : Nat → Int32} {pch : Nat → Int32} {pbe : Nat → Int32} {pbl : Int32} {dnu : Nat → Int32} {dde : Nat → Int32} {dbo : Int32} {dln : Int32} {dld : Int32} {tba : Nat → Int32} {tro : Int32} {tsc : Int64} {tcl : Nat → Nat → Int64} {rma : Nat → Int32} {Q : (Nat → Int32) → Prop} (C0 : cxM cX5_hold 3 none RX5 wsX5_hold p s m args meth c dC dI cy A) :
    ∀ (x1 : Int32) (tal : Nat → Int32) (H : Heap) (locs : List Loc) (ls : Array Slot) (hm : p_X5_hold N tba tcl Q x1 tal) (hSt : stC dC dI A s (wC ad cy ss ds ti co oma obr obj obo obm plo pch pbe pbl dnu dde dbo dln dld tba tal tro tsc tcl rma) H locs) (hl : lv_has ls 3 [(0, .ref (ad 12)), (1, .int x1)]) (hret : ∀ (tal : Nat → Int32) (H : Heap) (locs : List Loc) (ls : Array Slot) (pc : Nat), decode cX5_hold pc = .ok (.return_, 1) → stC dC dI A s (wC ad cy ss ds ti co oma obr obj obo obm plo pch pbe pbl dnu dde dbo dln dld tba tal tro tsc tcl rma) H locs → Q tal → W p l e rmX5_hold s m args below meth c H locs 0 0 Z (F0 m pc ls [])), W p l e rmX5_hold s m args below meth c H locs 0 0 Z (F0 m 0 ls []) := by
  obtain ⟨hx, hb, hml, hr, hown, hts, hlocks, hK, hA, hN⟩ := id C0
  intro x1 tal H locs ls hm hSt hl hret
  obtain ⟨hP, hD, hS⟩ := hSt
  unfold p_X5_hold at hm
  refine lv_iconst (v := 0) hx hb dX5_hold_0 (by decide) ?_
  refine lv_istore_n (lv' := [(2, .int (0 : Int32)), (0, .ref (ad 12)), (1, .int x1)]) hx hb dX5_hold_1 rfl hl (by decide) rfl (fun ls hl => ?_)
  exact k_X5_hold_2 C0 N x1 (0 : Int32) tal H locs ls hm ⟨hP, hD, hS⟩ (lv_sub hl [1, 2, 0] rfl) hret

set_option maxHeartbeats 4000000 in
set_option maxRecDepth 100000 in
theorem c_X5_hold (l : Launch) (dC : Nat → ClassId) (dI : Nat → Nat → Nat) (cy : Nat → ClassId) (ad : Nat → Nat) (sz : Nat) (ss : Int32) (ds : Int32) (ti : Nat → Int32) (co : Int32) (oma : Nat → Int32) (obr : Int32) (obj : Int32) (obo : Int32) (obm : Int32) (plo : Nat → Int32) (pch : Nat → Int32) (pbe : Nat → Int32) (pbl : Int32) (dnu : Nat → Int32) (dde : Nat → Int32) (dbo : Int32) (dln : Int32) (dld : Int32) (tba : Nat → Int32) (tal : Nat → Int32) (tro : Int32) (tsc : Int64) (tcl : Nat → Nat → Int64) (rma : Nat → Int32) (x1 : Int32) (N : Nat) (Q : (Nat → Int32) → Prop) (hm : p_X5_hold N tba tcl Q x1 tal) : Met l yX5_hold wsX5_hold rmX5_hold (va_Pc [.ref (ad 12), .int x1] (cPre dC dI cy (wC ad cy ss ds ti co oma obr obj obo obm plo pch pbe pbl dnu dde dbo dln dld tba tal tro tsc tcl rma) sz)) (va_Qv (fun (u : (Nat → Int32)) => Q u) (fun u t => cPost dC dI cy (wC ad cy ss ds ti co oma obr obj obo obm plo pch pbe pbl dnu dde dbo dln dld tba tal tro tsc tcl rma) sz (wC ad cy ss ds ti co oma obr obj obo obm plo pch pbe pbl dnu dde dbo dln dld tba u tro tsc tcl rma) t) (va_A (wC ad cy ss ds ti co oma obr obj obo obm plo pch pbe pbl dnu dde dbo dln dld tba tal tro tsc tcl rma) sz)) 0 0 (va_A (wC ad cy ss ds ti co oma obr obj obo obm plo pch pbe pbl dnu dde dbo dln dld tba tal tro tsc tcl rma) sz) := by
  refine Met.ofW (cc := cX5_hold) (maxL := 3) (ret := none) (by decide) rfl ?_
  intro p e s m args below meth c s₁ B hml hv
  obtain ⟨rfl, hsz, hP, hK, hD0, hN⟩ := hv
  have hts := atoms_spec (ws := wsX5_hold) B.pre
  have hown : s.vm.findClass RX5 = some m.cls := findClass_of_methodNamed B.named
  subst hsz
  have hD := hD0.self (sz := s.heap.size)
  generalize hAe : va_A (wC ad cy ss ds ti co oma obr obj obo obm plo pch pbe pbl dnu dde dbo dln dld tba tal tro tsc tcl rma) s.heap.size = A at hD ⊢
  have hA : ∀ q : Nat, s.heap.size ≤ q → A q := fun q h => by rw [← hAe]; exact Or.inr h
  have hl := lv_entry ([.ref (ad 12), .int x1]) (n := 3) (Nat.le_of_ble_eq_true rfl)
  rw [lg_entry_eq]
  generalize (lg_sl ([.ref (ad 12), .int x1]) ++ List.replicate (3 - (lg_sl ([.ref (ad 12), .int x1])).length) Slot.unset).toArray = ls at hl ⊢
  have hl : lv_has ls 3 [(0, .ref (ad 12)), (1, .int x1)] := hl
  exact k_X5_hold_0 ⟨B.exec, B.bytes, hml, B.returns, hown, hts, B.notSynchronized, hK, hA, hN⟩ x1 tal s.heap [] ls hm ⟨hP, hD, va_S.rf⟩ (lv_sub hl [0, 1] rfl) (fun tal H locs ls pc hdg hSt hq => W.vret B.exec B.bytes B.returns (fun t ht hW => ⟨⟨(tal), rfl, hq, cPost_of hAe ht hW.alike hSt hK⟩, hSt.2.2.F ht⟩) hSt.2.2.2.2 hdg B.notSynchronized)

-- ===== X5_leavingRow
theorem fl_X5_leavingRow_49 : Cond.fieldLink RX5 49 "UnlikeUnion$Tableau" "rows" "I" ∈ wsX5_leavingRow := by decide +kernel
theorem fl_X5_leavingRow_13 : Cond.fieldLink RX5 13 "UnlikeUnion$Tableau" "cells" "[[J" ∈ wsX5_leavingRow := by decide +kernel
theorem fl_X5_leavingRow_16 : Cond.fieldLink RX5 16 "UnlikeUnion$Tableau" "basic" "[I" ∈ wsX5_leavingRow := by decide +kernel
theorem in_X5_leavingRow_X5 : ∀ w ∈ u_ws RX5 TX5 5, w ∈ wsX5_leavingRow := by decide +kernel
abbrev rmX5_leavingRow : Room := { frames := 1, cells := 0, slots := 0, locals := 68 }
def p_X5_leavingRow_4 (N : Nat) (tba : Nat → Int32) (tro : Int32) (tcl : Nat → Nat → Int64) (Q : Int32 → Prop) : Nat → Int32 → Int32 → Int32 → Prop
  | 0 => fun _ _ _ => False
  | n + 1 => fun x1 x2 x3 => (tro ≤ x3 → (Q x2)) ∧ (¬ tro ≤ x3 → (vp_in x3 10 ∧ (vp_in x1 26 ∧ (((tcl (x3).toNatClampNeg (x1).toNatClampNeg) ≤ (0 : Int64) → (∀ x3_5 : Int32, x3_5 = x3 + (1 : Int32) → (p_X5_leavingRow_4 N tba tro tcl Q n x1 x2 x3_5))) ∧ (¬ (tcl (x3).toNatClampNeg (x1).toNatClampNeg) ≤ (0 : Int64) → ((x2 = (-1 : Int32) → (∀ x3_24 : Int32, x3_24 = x3 + (1 : Int32) → (p_X5_leavingRow_4 N tba tro tcl Q n x1 x3 x3_24))) ∧ (¬ x2 = (-1 : Int32) → (vp_in x3 10 ∧ (vp_in x2 10 ∧ (vp_in x1 26 ∧ (∀ x4_10 : Int64, x4_10 = (tcl (x3).toNatClampNeg ((25 : Int32)).toNatClampNeg) * (tcl (x2).toNatClampNeg (x1).toNatClampNeg) → (vp_in x2 10 ∧ (vp_in x3 10 ∧ (vp_in x1 26 ∧ (∀ x6_14 : Int64, x6_14 = (tcl (x2).toNatClampNeg ((25 : Int32)).toNatClampNeg) * (tcl (x3).toNatClampNeg (x1).toNatClampNeg) → ((x4_10 < x6_14 → (∀ x3_16 : Int32, x3_16 = x3 + (1 : Int32) → (p_X5_leavingRow_4 N tba tro tcl Q n x1 x3 x3_16))) ∧ (¬ x4_10 < x6_14 → ((x4_10 = x6_14 → (vp_in x3 10 ∧ (vp_in x2 10 ∧ (((tba (x3).toNatClampNeg) ≤ (tba (x2).toNatClampNeg) → (∀ x3_22 : Int32, x3_22 = x3 + (1 : Int32) → (p_X5_leavingRow_4 N tba tro tcl Q n x1 x2 x3_22))) ∧ (¬ (tba (x3).toNatClampNeg) ≤ (tba (x2).toNatClampNeg) → (∀ x3_23 : Int32, x3_23 = x3 + (1 : Int32) → (p_X5_leavingRow_4 N tba tro tcl Q n x1 x3 x3_23))))))) ∧ (¬ x4_10 = x6_14 → (∀ x3_18 : Int32, x3_18 = x3 + (1 : Int32) → (p_X5_leavingRow_4 N tba tro tcl Q n x1 x2 x3_18)))))))))))))))))))))

def p_X5_leavingRow (N : Nat) (tba : Nat → Int32) (tro : Int32) (tcl : Nat → Nat → Int64) (Q : Int32 → Prop) (x1 : Int32) : Prop :=
  p_X5_leavingRow_4 N tba tro tcl Q N x1 (-1 : Int32) (0 : Int32)

set_option maxHeartbeats 4000000 in
set_option maxRecDepth 100000 in
theorem k_X5_leavingRow_4 {N : Nat} {ss : Int32} {ds : Int32} {ti : Nat → Int32} {co : Int32} {oma : Nat → Int32} {obr : Int32} {obj : Int32} {obo : Int32} {obm : Int32} {plo : Nat → Int32} {pch : Nat → Int32} {pbe : Nat → Int32} {pbl : Int32} {dnu : Nat → Int32} {dde : Nat → Int32} {dbo : Int32} {dln : Int32} {dld : Int32} {tba : Nat → Int32} {tal : Nat → Int32} {tro : Int32} {tsc : Int64} {tcl : Nat → Nat → Int64} {rma : Nat → Int32} {Q : Int32 → Prop} (C0 : cxM cX5_leavingRow 8 (some .int) RX5 wsX5_leavingRow p s m args meth c dC dI cy A) :
    ∀ (n : Nat) (x1 : Int32) (x2 : Int32) (x3 : Int32) (H : Heap) (locs : List Loc) (ls : Array Slot) (hm : p_X5_leavingRow_4 N tba tro tcl Q n x1 x2 x3) (hSt : stC dC dI A s (wC ad cy ss ds ti co oma obr obj obo obm plo pch pbe pbl dnu dde dbo dln dld tba tal tro tsc tcl rma) H locs) (hl : lv_has ls 8 [(0, .ref (ad 12)), (1, .int x1), (2, .int x2), (3, .int x3)]) (hret : ∀ (r : Int32) (H : Heap) (locs : List Loc) (ls : Array Slot) (pc : Nat), decode cX5_leavingRow pc = .ok (.ireturn, 1) → stC dC dI A s (wC ad cy ss ds ti co oma obr obj obo obm plo pch pbe pbl dnu dde dbo dln dld tba tal tro tsc tcl rma) H locs → Q r → W p l e rmX5_leavingRow s m args below meth c H locs 0 0 Z (F0 m pc ls [.int r])), W p l e rmX5_leavingRow s m args below meth c H locs 0 0 Z (F0 m 4 ls []) := by
  obtain ⟨hx, hb, hml, hr, hown, hts, hlocks, hK, hA, hN⟩ := id C0
  intro n
  induction n with
  | zero => intro x1 x2 x3 H locs ls hm; exact False.elim hm
  | succ n ih =>
    intro x1 x2 x3 H locs ls hm hSt hl hret
    obtain ⟨hP, hD, hS⟩ := hSt
    unfold p_X5_leavingRow_4 at hm
    refine lv_iload_n hx hb dX5_leavingRow_4 rfl (lv_at hl 3 rfl) ?_
    refine lv_aload_n hx hb dX5_leavingRow_5 rfl (lv_at hl 0 rfl) ?_
    refine va_get (D := (dC, dI)) (ci := 5) (v := .int tro) (C := RX5) (T := TX5) (N := 5) hx hb hts in_X5_leavingRow_X5 hown hK hP 12 rfl rfl 3 (by decide) (hts _ fl_X5_leavingRow_49) (fun _ h9 => h9) rfl dX5_leavingRow_6 ?_
    refine lv_icmp_ge (tgt := 114) hx hb dX5_leavingRow_9 (by decide) (fun c_1 => ?_) (fun c_1 => ?_)
    · have hm := hm.1 c_1
      refine lv_iload_n hx hb dX5_leavingRow_114 rfl (lv_at hl 2 rfl) ?_
      exact hret x2 H locs ls 115 dX5_leavingRow_115 ⟨hP, hD, hS⟩ hm
    · have hm := hm.2 c_1
      refine lv_aload_n hx hb dX5_leavingRow_12 rfl (lv_at hl 0 rfl) ?_
      refine va_get (D := (dC, dI)) (ci := 5) (v := .ref (ad 13)) (C := RX5) (T := TX5) (N := 5) hx hb hts in_X5_leavingRow_X5 hown hK hP 12 rfl rfl 0 (by decide) (hts _ fl_X5_leavingRow_13) (fun _ h9 => h9) rfl dX5_leavingRow_13 ?_
      refine lv_iload_n hx hb dX5_leavingRow_16 rfl (lv_at hl 3 rfl) ?_
      have hi_2 := hm.1
      have hm := hm.2
      refine wC_aald hx hb hK hP hi_2 dX5_leavingRow_17 ?_
      refine lv_iload_n hx hb dX5_leavingRow_18 rfl (lv_at hl 1 rfl) ?_
      have hi_3 := hm.1
      have hm := hm.2
      refine va_lald hx hb hK hP _ 1 (wC_row hi_2) rfl hi_3 dX5_leavingRow_19 ?_
      refine lv_lconst (v := 0) hx hb dX5_leavingRow_20 (by decide) ?_
      refine lq_le (tgt := 108) hx hb dX5_leavingRow_21 dX5_leavingRow_22 (by decide) (fun c_4 => ?_) (fun c_4 => ?_)
      · have hm := hm.1 c_4
        obtain ⟨x3_5, ex3_5⟩ : ∃ y : Int32, y = x3 + (1 : Int32) := ⟨_, rfl⟩
        have hm := hm x3_5 ex3_5
        refine lv_iinc (v := x3_5) (lv' := [(3, .int x3_5), (0, .ref (ad 12)), (1, .int x1), (2, .int x2)]) hx hb dX5_leavingRow_108 hl (k := 3) rfl (by rw [ex3_5]; rfl) (by decide) rfl (fun ls hl => ?_)
        refine lv_goto (tgt := 4) hx hb dX5_leavingRow_111 (by decide) ?_
        exact ih x1 x2 x3_5 H locs ls hm ⟨hP, hD, hS⟩ (lv_sub hl [1, 2, 3, 0] rfl) hret
      · have hm := hm.2 c_4
        refine lv_iload_n hx hb dX5_leavingRow_25 rfl (lv_at hl 2 rfl) ?_
        refine lv_iconst (v := -1) hx hb dX5_leavingRow_26 (by decide) ?_
        refine lv_icmp_ne (tgt := 35) hx hb dX5_leavingRow_27 (by decide) (fun c_6 => ?_) (fun c_6 => ?_)
        · have hm := hm.2 c_6
          refine lv_aload_n hx hb dX5_leavingRow_35 rfl (lv_at hl 0 rfl) ?_
          refine va_get (D := (dC, dI)) (ci := 5) (v := .ref (ad 13)) (C := RX5) (T := TX5) (N := 5) hx hb hts in_X5_leavingRow_X5 hown hK hP 12 rfl rfl 0 (by decide) (hts _ fl_X5_leavingRow_13) (fun _ h9 => h9) rfl dX5_leavingRow_36 ?_
          refine lv_iload_n hx hb dX5_leavingRow_39 rfl (lv_at hl 3 rfl) ?_
          have hi_7 := hm.1
          have hm := hm.2
          refine wC_aald hx hb hK hP hi_7 dX5_leavingRow_40 ?_
          refine lv_bipush (v := 25) hx hb dX5_leavingRow_41 (by decide) ?_
          refine va_lald hx hb hK hP _ 1 (wC_row hi_7) rfl (vp_in_iff.mpr (by decide)) dX5_leavingRow_43 ?_
          refine lv_aload_n hx hb dX5_leavingRow_44 rfl (lv_at hl 0 rfl) ?_
          refine va_get (D := (dC, dI)) (ci := 5) (v := .ref (ad 13)) (C := RX5) (T := TX5) (N := 5) hx hb hts in_X5_leavingRow_X5 hown hK hP 12 rfl rfl 0 (by decide) (hts _ fl_X5_leavingRow_13) (fun _ h9 => h9) rfl dX5_leavingRow_45 ?_
          refine lv_iload_n hx hb dX5_leavingRow_48 rfl (lv_at hl 2 rfl) ?_
          have hi_8 := hm.1
          have hm := hm.2
          refine wC_aald hx hb hK hP hi_8 dX5_leavingRow_49 ?_
          refine lv_iload_n hx hb dX5_leavingRow_50 rfl (lv_at hl 1 rfl) ?_
          have hi_9 := hm.1
          have hm := hm.2
          refine va_lald hx hb hK hP _ 1 (wC_row hi_8) rfl hi_9 dX5_leavingRow_51 ?_
          refine lv_lmul hx hb dX5_leavingRow_52 ?_
          refine lv_topl (fun x4_10 ex4_10 => ?_)
          have hm := hm x4_10 ex4_10
          refine lv_lstore (lv' := [(4, .long x4_10), (0, .ref (ad 12)), (1, .int x1), (2, .int x2), (3, .int x3)]) hx hb dX5_leavingRow_53 hl (by decide) rfl (fun ls hl => ?_)
          refine lv_aload_n hx hb dX5_leavingRow_55 rfl (lv_at hl 1 rfl) ?_
          refine va_get (D := (dC, dI)) (ci := 5) (v := .ref (ad 13)) (C := RX5) (T := TX5) (N := 5) hx hb hts in_X5_leavingRow_X5 hown hK hP 12 rfl rfl 0 (by decide) (hts _ fl_X5_leavingRow_13) (fun _ h9 => h9) rfl dX5_leavingRow_56 ?_
          refine lv_iload_n hx hb dX5_leavingRow_59 rfl (lv_at hl 3 rfl) ?_
          have hi_11 := hm.1
          have hm := hm.2
          refine wC_aald hx hb hK hP hi_11 dX5_leavingRow_60 ?_
          refine lv_bipush (v := 25) hx hb dX5_leavingRow_61 (by decide) ?_
          refine va_lald hx hb hK hP _ 1 (wC_row hi_11) rfl (vp_in_iff.mpr (by decide)) dX5_leavingRow_63 ?_
          refine lv_aload_n hx hb dX5_leavingRow_64 rfl (lv_at hl 1 rfl) ?_
          refine va_get (D := (dC, dI)) (ci := 5) (v := .ref (ad 13)) (C := RX5) (T := TX5) (N := 5) hx hb hts in_X5_leavingRow_X5 hown hK hP 12 rfl rfl 0 (by decide) (hts _ fl_X5_leavingRow_13) (fun _ h9 => h9) rfl dX5_leavingRow_65 ?_
          refine lv_iload_n hx hb dX5_leavingRow_68 rfl (lv_at hl 4 rfl) ?_
          have hi_12 := hm.1
          have hm := hm.2
          refine wC_aald hx hb hK hP hi_12 dX5_leavingRow_69 ?_
          refine lv_iload_n hx hb dX5_leavingRow_70 rfl (lv_at hl 2 rfl) ?_
          have hi_13 := hm.1
          have hm := hm.2
          refine va_lald hx hb hK hP _ 1 (wC_row hi_12) rfl hi_13 dX5_leavingRow_71 ?_
          refine lv_lmul hx hb dX5_leavingRow_72 ?_
          refine lv_topl (fun x6_14 ex6_14 => ?_)
          have hm := hm x6_14 ex6_14
          refine lv_lstore (lv' := [(6, .long x6_14), (4, .long x4_10), (0, .ref (ad 12)), (1, .int x1), (2, .int x2), (3, .int x3)]) hx hb dX5_leavingRow_73 hl (by decide) rfl (fun ls hl => ?_)
          refine lv_lload hx hb dX5_leavingRow_75 (lv_at hl 1 rfl) ?_
          refine lv_lload hx hb dX5_leavingRow_77 (lv_at hl 0 rfl) ?_
          refine lq_lt (tgt := 106) hx hb dX5_leavingRow_79 dX5_leavingRow_80 (by decide) (fun c_15 => ?_) (fun c_15 => ?_)
          · have hm := hm.1 c_15
            refine lv_iload_n hx hb dX5_leavingRow_106 rfl (lv_at hl 5 rfl) ?_
            refine lv_istore_n (lv' := [(2, .int x3), (6, .long x6_14), (4, .long x4_10), (0, .ref (ad 12)), (1, .int x1), (3, .int x3)]) hx hb dX5_leavingRow_107 rfl hl (by decide) rfl (fun ls hl => ?_)
            obtain ⟨x3_16, ex3_16⟩ : ∃ y : Int32, y = x3 + (1 : Int32) := ⟨_, rfl⟩
            have hm := hm x3_16 ex3_16
            refine lv_iinc (v := x3_16) (lv' := [(3, .int x3_16), (2, .int x3), (6, .long x6_14), (4, .long x4_10), (0, .ref (ad 12)), (1, .int x1)]) hx hb dX5_leavingRow_108 hl (k := 5) rfl (by rw [ex3_16]; rfl) (by decide) rfl (fun ls hl => ?_)
            refine lv_goto (tgt := 4) hx hb dX5_leavingRow_111 (by decide) ?_
            exact ih x1 x3 x3_16 H locs ls hm ⟨hP, hD, hS⟩ (lv_sub hl [4, 5, 1, 0] rfl) hret
          · have hm := hm.2 c_15
            refine lv_lload hx hb dX5_leavingRow_83 (lv_at hl 1 rfl) ?_
            refine lv_lload hx hb dX5_leavingRow_85 (lv_at hl 0 rfl) ?_
            refine lq_ne (tgt := 108) hx hb dX5_leavingRow_87 dX5_leavingRow_88 (by decide) (fun c_17 => ?_) (fun c_17 => ?_)
            · have hm := hm.2 c_17
              obtain ⟨x3_18, ex3_18⟩ : ∃ y : Int32, y = x3 + (1 : Int32) := ⟨_, rfl⟩
              have hm := hm x3_18 ex3_18
              refine lv_iinc (v := x3_18) (lv' := [(3, .int x3_18), (6, .long x6_14), (4, .long x4_10), (0, .ref (ad 12)), (1, .int x1), (2, .int x2)]) hx hb dX5_leavingRow_108 hl (k := 5) rfl (by rw [ex3_18]; rfl) (by decide) rfl (fun ls hl => ?_)
              refine lv_goto (tgt := 4) hx hb dX5_leavingRow_111 (by decide) ?_
              exact ih x1 x2 x3_18 H locs ls hm ⟨hP, hD, hS⟩ (lv_sub hl [3, 4, 5, 0] rfl) hret
            · have hm := hm.1 c_17
              refine lv_aload_n hx hb dX5_leavingRow_91 rfl (lv_at hl 2 rfl) ?_
              refine va_get (D := (dC, dI)) (ci := 5) (v := .ref (ad 14)) (C := RX5) (T := TX5) (N := 5) hx hb hts in_X5_leavingRow_X5 hown hK hP 12 rfl rfl 1 (by decide) (hts _ fl_X5_leavingRow_16) (fun _ h9 => h9) rfl dX5_leavingRow_92 ?_
              refine lv_iload_n hx hb dX5_leavingRow_95 rfl (lv_at hl 5 rfl) ?_
              have hi_19 := hm.1
              have hm := hm.2
              refine va_iald hx hb hK hP 14 0 rfl rfl hi_19 dX5_leavingRow_96 ?_
              refine lv_aload_n hx hb dX5_leavingRow_97 rfl (lv_at hl 2 rfl) ?_
              refine va_get (D := (dC, dI)) (ci := 5) (v := .ref (ad 14)) (C := RX5) (T := TX5) (N := 5) hx hb hts in_X5_leavingRow_X5 hown hK hP 12 rfl rfl 1 (by decide) (hts _ fl_X5_leavingRow_16) (fun _ h9 => h9) rfl dX5_leavingRow_98 ?_
              refine lv_iload_n hx hb dX5_leavingRow_101 rfl (lv_at hl 4 rfl) ?_
              have hi_20 := hm.1
              have hm := hm.2
              refine va_iald hx hb hK hP 14 0 rfl rfl hi_20 dX5_leavingRow_102 ?_
              refine lv_icmp_le (tgt := 108) hx hb dX5_leavingRow_103 (by decide) (fun c_21 => ?_) (fun c_21 => ?_)
              · have hm := hm.1 c_21
                obtain ⟨x3_22, ex3_22⟩ : ∃ y : Int32, y = x3 + (1 : Int32) := ⟨_, rfl⟩
                have hm := hm x3_22 ex3_22
                refine lv_iinc (v := x3_22) (lv' := [(3, .int x3_22), (6, .long x6_14), (4, .long x4_10), (0, .ref (ad 12)), (1, .int x1), (2, .int x2)]) hx hb dX5_leavingRow_108 hl (k := 5) rfl (by rw [ex3_22]; rfl) (by decide) rfl (fun ls hl => ?_)
                refine lv_goto (tgt := 4) hx hb dX5_leavingRow_111 (by decide) ?_
                exact ih x1 x2 x3_22 H locs ls hm ⟨hP, hD, hS⟩ (lv_sub hl [3, 4, 5, 0] rfl) hret
              · have hm := hm.2 c_21
                refine lv_iload_n hx hb dX5_leavingRow_106 rfl (lv_at hl 5 rfl) ?_
                refine lv_istore_n (lv' := [(2, .int x3), (6, .long x6_14), (4, .long x4_10), (0, .ref (ad 12)), (1, .int x1), (3, .int x3)]) hx hb dX5_leavingRow_107 rfl hl (by decide) rfl (fun ls hl => ?_)
                obtain ⟨x3_23, ex3_23⟩ : ∃ y : Int32, y = x3 + (1 : Int32) := ⟨_, rfl⟩
                have hm := hm x3_23 ex3_23
                refine lv_iinc (v := x3_23) (lv' := [(3, .int x3_23), (2, .int x3), (6, .long x6_14), (4, .long x4_10), (0, .ref (ad 12)), (1, .int x1)]) hx hb dX5_leavingRow_108 hl (k := 5) rfl (by rw [ex3_23]; rfl) (by decide) rfl (fun ls hl => ?_)
                refine lv_goto (tgt := 4) hx hb dX5_leavingRow_111 (by decide) ?_
                exact ih x1 x3 x3_23 H locs ls hm ⟨hP, hD, hS⟩ (lv_sub hl [4, 5, 1, 0] rfl) hret
        · have hm := hm.1 c_6
          refine lv_iload_n hx hb dX5_leavingRow_30 rfl (lv_at hl 3 rfl) ?_
          refine lv_istore_n (lv' := [(2, .int x3), (0, .ref (ad 12)), (1, .int x1), (3, .int x3)]) hx hb dX5_leavingRow_31 rfl hl (by decide) rfl (fun ls hl => ?_)
          refine lv_goto (tgt := 108) hx hb dX5_leavingRow_32 (by decide) ?_
          obtain ⟨x3_24, ex3_24⟩ : ∃ y : Int32, y = x3 + (1 : Int32) := ⟨_, rfl⟩
          have hm := hm x3_24 ex3_24
          refine lv_iinc (v := x3_24) (lv' := [(3, .int x3_24), (2, .int x3), (0, .ref (ad 12)), (1, .int x1)]) hx hb dX5_leavingRow_108 hl (k := 3) rfl (by rw [ex3_24]; rfl) (by decide) rfl (fun ls hl => ?_)
          refine lv_goto (tgt := 4) hx hb dX5_leavingRow_111 (by decide) ?_
          exact ih x1 x3 x3_24 H locs ls hm ⟨hP, hD, hS⟩ (lv_sub hl [2, 3, 1, 0] rfl) hret

set_option maxHeartbeats 4000000 in
set_option maxRecDepth 100000 in
theorem k_X5_leavingRow_0 {N : Nat} {ss : Int32} {ds : Int32} {ti : Nat → Int32} {co : Int32} {oma : Nat → Int32} {obr : Int32} {obj : Int32} {obo : Int32} {obm : Int32} {plo : Nat → Int32} {pch : Nat → Int32} {pbe : Nat → Int32} {pbl : Int32} {dnu : Nat → Int32} {dde : Nat → Int32} {dbo : Int32} {dln : Int32} {dld : Int32} {tba : Nat → Int32} {tal : Nat → Int32} {tro : Int32} {tsc : Int64} {tcl : Nat → Nat → Int64} {rma : Nat → Int32} {Q : Int32 → Prop} (C0 : cxM cX5_leavingRow 8 (some .int) RX5 wsX5_leavingRow p s m args meth c dC dI cy A) :
    ∀ (x1 : Int32) (H : Heap) (locs : List Loc) (ls : Array Slot) (hm : p_X5_leavingRow N tba tro tcl Q x1) (hSt : stC dC dI A s (wC ad cy ss ds ti co oma obr obj obo obm plo pch pbe pbl dnu dde dbo dln dld tba tal tro tsc tcl rma) H locs) (hl : lv_has ls 8 [(0, .ref (ad 12)), (1, .int x1)]) (hret : ∀ (r : Int32) (H : Heap) (locs : List Loc) (ls : Array Slot) (pc : Nat), decode cX5_leavingRow pc = .ok (.ireturn, 1) → stC dC dI A s (wC ad cy ss ds ti co oma obr obj obo obm plo pch pbe pbl dnu dde dbo dln dld tba tal tro tsc tcl rma) H locs → Q r → W p l e rmX5_leavingRow s m args below meth c H locs 0 0 Z (F0 m pc ls [.int r])), W p l e rmX5_leavingRow s m args below meth c H locs 0 0 Z (F0 m 0 ls []) := by
  obtain ⟨hx, hb, hml, hr, hown, hts, hlocks, hK, hA, hN⟩ := id C0
  intro x1 H locs ls hm hSt hl hret
  obtain ⟨hP, hD, hS⟩ := hSt
  unfold p_X5_leavingRow at hm
  refine lv_iconst (v := -1) hx hb dX5_leavingRow_0 (by decide) ?_
  refine lv_istore_n (lv' := [(2, .int (-1 : Int32)), (0, .ref (ad 12)), (1, .int x1)]) hx hb dX5_leavingRow_1 rfl hl (by decide) rfl (fun ls hl => ?_)
  refine lv_iconst (v := 0) hx hb dX5_leavingRow_2 (by decide) ?_
  refine lv_istore_n (lv' := [(3, .int (0 : Int32)), (2, .int (-1 : Int32)), (0, .ref (ad 12)), (1, .int x1)]) hx hb dX5_leavingRow_3 rfl hl (by decide) rfl (fun ls hl => ?_)
  exact k_X5_leavingRow_4 C0 N x1 (-1 : Int32) (0 : Int32) H locs ls hm ⟨hP, hD, hS⟩ (lv_sub hl [2, 3, 1, 0] rfl) hret

set_option maxHeartbeats 4000000 in
set_option maxRecDepth 100000 in
theorem c_X5_leavingRow (l : Launch) (dC : Nat → ClassId) (dI : Nat → Nat → Nat) (cy : Nat → ClassId) (ad : Nat → Nat) (sz : Nat) (ss : Int32) (ds : Int32) (ti : Nat → Int32) (co : Int32) (oma : Nat → Int32) (obr : Int32) (obj : Int32) (obo : Int32) (obm : Int32) (plo : Nat → Int32) (pch : Nat → Int32) (pbe : Nat → Int32) (pbl : Int32) (dnu : Nat → Int32) (dde : Nat → Int32) (dbo : Int32) (dln : Int32) (dld : Int32) (tba : Nat → Int32) (tal : Nat → Int32) (tro : Int32) (tsc : Int64) (tcl : Nat → Nat → Int64) (rma : Nat → Int32) (x1 : Int32) (N : Nat) (Q : Int32 → Prop) (hm : p_X5_leavingRow N tba tro tcl Q x1) : Met l yX5_leavingRow wsX5_leavingRow rmX5_leavingRow (va_Pc [.ref (ad 12), .int x1] (cPre dC dI cy (wC ad cy ss ds ti co oma obr obj obo obm plo pch pbe pbl dnu dde dbo dln dld tba tal tro tsc tcl rma) sz)) (va_Qi (fun (r : Int32) (u : Unit) => Q r) (fun u t => cPost dC dI cy (wC ad cy ss ds ti co oma obr obj obo obm plo pch pbe pbl dnu dde dbo dln dld tba tal tro tsc tcl rma) sz (wC ad cy ss ds ti co oma obr obj obo obm plo pch pbe pbl dnu dde dbo dln dld tba tal tro tsc tcl rma) t) (va_A (wC ad cy ss ds ti co oma obr obj obo obm plo pch pbe pbl dnu dde dbo dln dld tba tal tro tsc tcl rma) sz)) 0 0 (va_A (wC ad cy ss ds ti co oma obr obj obo obm plo pch pbe pbl dnu dde dbo dln dld tba tal tro tsc tcl rma) sz) := by
  refine Met.ofW (cc := cX5_leavingRow) (maxL := 8) (ret := (some .int)) (by decide) rfl ?_
  intro p e s m args below meth c s₁ B hml hv
  obtain ⟨rfl, hsz, hP, hK, hD0, hN⟩ := hv
  have hts := atoms_spec (ws := wsX5_leavingRow) B.pre
  have hown : s.vm.findClass RX5 = some m.cls := findClass_of_methodNamed B.named
  subst hsz
  have hD := hD0.self (sz := s.heap.size)
  generalize hAe : va_A (wC ad cy ss ds ti co oma obr obj obo obm plo pch pbe pbl dnu dde dbo dln dld tba tal tro tsc tcl rma) s.heap.size = A at hD ⊢
  have hA : ∀ q : Nat, s.heap.size ≤ q → A q := fun q h => by rw [← hAe]; exact Or.inr h
  have hl := lv_entry ([.ref (ad 12), .int x1]) (n := 8) (Nat.le_of_ble_eq_true rfl)
  rw [lg_entry_eq]
  generalize (lg_sl ([.ref (ad 12), .int x1]) ++ List.replicate (8 - (lg_sl ([.ref (ad 12), .int x1])).length) Slot.unset).toArray = ls at hl ⊢
  have hl : lv_has ls 8 [(0, .ref (ad 12)), (1, .int x1)] := hl
  exact k_X5_leavingRow_0 ⟨B.exec, B.bytes, hml, B.returns, hown, hts, B.notSynchronized, hK, hA, hN⟩ x1 s.heap [] ls hm ⟨hP, hD, va_S.rf⟩ (lv_sub hl [0, 1] rfl) (fun r H locs ls pc hdg hSt hq => W.iret B.exec B.bytes B.returns (fun t ht hW => ⟨⟨r, (), rfl, hq, cPost_of hAe ht hW.alike hSt hK⟩, hSt.2.2.F ht⟩) hSt.2.2.2.2 hdg B.notSynchronized)

-- ===== X5_enter
theorem fl_X5_enter_52 : Cond.fieldLink RX5 52 "UnlikeUnion$Tableau" "scale" "J" ∈ wsX5_enter := by decide +kernel
theorem fl_X5_enter_13 : Cond.fieldLink RX5 13 "UnlikeUnion$Tableau" "cells" "[[J" ∈ wsX5_enter := by decide +kernel
theorem fl_X5_enter_49 : Cond.fieldLink RX5 49 "UnlikeUnion$Tableau" "rows" "I" ∈ wsX5_enter := by decide +kernel
theorem fl_X5_enter_16 : Cond.fieldLink RX5 16 "UnlikeUnion$Tableau" "basic" "[I" ∈ wsX5_enter := by decide +kernel
theorem in_X5_enter_X5 : ∀ w ∈ u_ws RX5 TX5 5, w ∈ wsX5_enter := by decide +kernel
abbrev rmX5_enter : Room := { frames := 2, cells := 0, slots := 0, locals := 155 }
def p_X5_enter_79 (N : Nat) (tro : Int32) (Q : Int32 → (Nat → Int32) → Int64 → (Nat → Nat → Int64) → Prop) (K34 : Int32 → Int32 → Int64 → Int32 → (Nat → Int32) → Int64 → (Nat → Nat → Int64) → Prop) : Nat → Int32 → Int32 → Int64 → Int32 → Int64 → Int32 → (Nat → Int32) → Int64 → (Nat → Nat → Int64) → Prop
  | 0 => fun _ _ _ _ _ _ _ _ _ => False
  | n + 1 => fun x1 x2 x3 x5 x6 x8 tba tsc tcl => ((25 : Int32) < x8 → (∀ x5_2 : Int32, x5_2 = x5 + (1 : Int32) → (K34 x1 x2 x3 x5_2 tba tsc tcl))) ∧ (¬ (25 : Int32) < x8 → (vp_in x5 10 ∧ (vp_in x5 10 ∧ (vp_in x8 26 ∧ (vp_in x2 10 ∧ (vp_in x8 26 ∧ ((¬ tsc = 0) ∧ (∀ f_9 : Int64, f_9 = (((tcl (x5).toNatClampNeg (x8).toNatClampNeg) * x3) - (x6 * (tcl (x2).toNatClampNeg (x8).toNatClampNeg))) / tsc → (vp_in x8 26 ∧ (∀ x8_11 : Int32, x8_11 = x8 + (1 : Int32) → (p_X5_enter_79 N tro Q K34 n x1 x2 x3 x5 x6 x8_11 tba tsc (upR tcl (x5).toNatClampNeg (vp_updL (tcl (x5).toNatClampNeg) (x8).toNatClampNeg f_9)))))))))))))

def p_X5_enter_34 (N : Nat) (tro : Int32) (Q : Int32 → (Nat → Int32) → Int64 → (Nat → Nat → Int64) → Prop) : Nat → Int32 → Int32 → Int64 → Int32 → (Nat → Int32) → Int64 → (Nat → Nat → Int64) → Prop
  | 0 => fun _ _ _ _ _ _ _ => False
  | n + 1 => fun x1 x2 x3 x5 tba tsc tcl => (tro ≤ x5 → (vp_in x2 10 ∧ (Q (1 : Int32) (upd tba (x2).toNatClampNeg x1) x3 tcl))) ∧ (¬ tro ≤ x5 → (vp_in x5 10 ∧ (vp_in x1 26 ∧ (∀ x6_5 : Int64, x6_5 = tcl (x5).toNatClampNeg (x1).toNatClampNeg → ((x5 = x2 → (∀ x5_7 : Int32, x5_7 = x5 + (1 : Int32) → (p_X5_enter_34 N tro Q n x1 x2 x3 x5_7 tba tsc tcl))) ∧ (¬ x5 = x2 → ((x6_5 = (0 : Int64) → ((x3 = tsc → (∀ x5_10 : Int32, x5_10 = x5 + (1 : Int32) → (p_X5_enter_34 N tro Q n x1 x2 x3 x5_10 tba tsc tcl))) ∧ (¬ x3 = tsc → (p_X5_enter_79 N tro Q (fun x1 x2 x3 x5 tba tsc tcl => p_X5_enter_34 N tro Q n x1 x2 x3 x5 tba tsc tcl) N x1 x2 x3 x5 x6_5 (0 : Int32) tba tsc tcl)))) ∧ (¬ x6_5 = (0 : Int64) → (p_X5_enter_79 N tro Q (fun x1 x2 x3 x5 tba tsc tcl => p_X5_enter_34 N tro Q n x1 x2 x3 x5 tba tsc tcl) N x1 x2 x3 x5 x6_5 (0 : Int32) tba tsc tcl)))))))))

def p_X5_enter (N : Nat) (tro : Int32) (Q : Int32 → (Nat → Int32) → Int64 → (Nat → Nat → Int64) → Prop) (x1 : Int32) (tba : Nat → Int32) (tsc : Int64) (tcl : Nat → Nat → Int64) : Prop :=
  p_X5_leavingRow N tba tro tcl (fun r_1 => (r_1 = (-1 : Int32) → (Q (0 : Int32) tba tsc tcl)) ∧ (¬ r_1 = (-1 : Int32) → ((tsc = (0 : Int64) → (Q (0 : Int32) tba tsc tcl)) ∧ (¬ tsc = (0 : Int64) → (vp_in r_1 10 ∧ (vp_in x1 26 ∧ (∀ x3_6 : Int64, x3_6 = tcl (r_1).toNatClampNeg (x1).toNatClampNeg → (p_X5_enter_34 N tro Q N x1 r_1 x3_6 (0 : Int32) tba tsc tcl)))))))) x1

set_option maxHeartbeats 4000000 in
set_option maxRecDepth 100000 in
theorem k_X5_enter_79 {N : Nat} {ss : Int32} {ds : Int32} {ti : Nat → Int32} {co : Int32} {oma : Nat → Int32} {obr : Int32} {obj : Int32} {obo : Int32} {obm : Int32} {plo : Nat → Int32} {pch : Nat → Int32} {pbe : Nat → Int32} {pbl : Int32} {dnu : Nat → Int32} {dde : Nat → Int32} {dbo : Int32} {dln : Int32} {dld : Int32} {tal : Nat → Int32} {tro : Int32} {rma : Nat → Int32} {Q : Int32 → (Nat → Int32) → Int64 → (Nat → Nat → Int64) → Prop} {K34 : Int32 → Int32 → Int64 → Int32 → (Nat → Int32) → Int64 → (Nat → Nat → Int64) → Prop} (C0 : cxM cX5_enter 9 (some .boolean) RX5 wsX5_enter p s m args meth c dC dI cy A) :
    ∀ (n : Nat) (x1 : Int32) (x2 : Int32) (x3 : Int64) (x5 : Int32) (x6 : Int64) (x8 : Int32) (tba : Nat → Int32) (tsc : Int64) (tcl : Nat → Nat → Int64) (H : Heap) (locs : List Loc) (ls : Array Slot) (hm : p_X5_enter_79 N tro Q K34 n x1 x2 x3 x5 x6 x8 tba tsc tcl) (hSt : stC dC dI A s (wC ad cy ss ds ti co oma obr obj obo obm plo pch pbe pbl dnu dde dbo dln dld tba tal tro tsc tcl rma) H locs) (hl : lv_has ls 9 [(0, .ref (ad 12)), (1, .int x1), (2, .int x2), (3, .long x3), (5, .int x5), (6, .long x6), (8, .int x8)]) (hret : ∀ (r : Int32) (tba : Nat → Int32) (tsc : Int64) (tcl : Nat → Nat → Int64) (H : Heap) (locs : List Loc) (ls : Array Slot) (pc : Nat), decode cX5_enter pc = .ok (.ireturn, 1) → narrow .boolean (.int r) = .int r → stC dC dI A s (wC ad cy ss ds ti co oma obr obj obo obm plo pch pbe pbl dnu dde dbo dln dld tba tal tro tsc tcl rma) H locs → Q r tba tsc tcl → W p l e rmX5_enter s m args below meth c H locs 0 0 Z (F0 m pc ls [.int r])) (hK34 : ∀ (x1 : Int32) (x2 : Int32) (x3 : Int64) (x5 : Int32) (tba : Nat → Int32) (tsc : Int64) (tcl : Nat → Nat → Int64) (H : Heap) (locs : List Loc) (ls : Array Slot), K34 x1 x2 x3 x5 tba tsc tcl → stC dC dI A s (wC ad cy ss ds ti co oma obr obj obo obm plo pch pbe pbl dnu dde dbo dln dld tba tal tro tsc tcl rma) H locs → lv_has ls 9 [(0, .ref (ad 12)), (1, .int x1), (2, .int x2), (3, .long x3), (5, .int x5)] → W p l e rmX5_enter s m args below meth c H locs 0 0 Z (F0 m 34 ls [])), W p l e rmX5_enter s m args below meth c H locs 0 0 Z (F0 m 79 ls []) := by
  obtain ⟨hx, hb, hml, hr, hown, hts, hlocks, hK, hA, hN⟩ := id C0
  intro n
  induction n with
  | zero => intro x1 x2 x3 x5 x6 x8 tba tsc tcl H locs ls hm; exact False.elim hm
  | succ n ih =>
    intro x1 x2 x3 x5 x6 x8 tba tsc tcl H locs ls hm hSt hl hret hK34
    obtain ⟨hP, hD, hS⟩ := hSt
    unfold p_X5_enter_79 at hm
    refine lv_iload hx hb dX5_enter_79 (lv_at hl 6 rfl) ?_
    refine lv_bipush (v := 25) hx hb dX5_enter_81 (by decide) ?_
    refine lv_icmp_gt (tgt := 132) hx hb dX5_enter_83 (by decide) (fun c_1 => ?_) (fun c_1 => ?_)
    · have hm := hm.1 c_1
      obtain ⟨x5_2, ex5_2⟩ : ∃ y : Int32, y = x5 + (1 : Int32) := ⟨_, rfl⟩
      have hm := hm x5_2 ex5_2
      refine lv_iinc (v := x5_2) (lv' := [(5, .int x5_2), (0, .ref (ad 12)), (1, .int x1), (2, .int x2), (3, .long x3), (6, .long x6), (8, .int x8)]) hx hb dX5_enter_132 hl (k := 4) rfl (by rw [ex5_2]; rfl) (by decide) rfl (fun ls hl => ?_)
      refine lv_goto (tgt := 34) hx hb dX5_enter_135 (by decide) ?_
      exact hK34 x1 x2 x3 x5_2 tba tsc tcl H locs ls hm ⟨hP, hD, hS⟩ (lv_sub hl [1, 2, 3, 4, 0] rfl)
    · have hm := hm.2 c_1
      refine lv_aload_n hx hb dX5_enter_86 rfl (lv_at hl 0 rfl) ?_
      refine va_get (D := (dC, dI)) (ci := 5) (v := .ref (ad 13)) (C := RX5) (T := TX5) (N := 5) hx hb hts in_X5_enter_X5 hown hK hP 12 rfl rfl 0 (by decide) (hts _ fl_X5_enter_13) (fun _ h9 => h9) rfl dX5_enter_87 ?_
      refine lv_iload hx hb dX5_enter_90 (lv_at hl 4 rfl) ?_
      have hi_3 := hm.1
      have hm := hm.2
      refine wC_aald hx hb hK hP hi_3 dX5_enter_92 ?_
      refine lv_iload hx hb dX5_enter_93 (lv_at hl 6 rfl) ?_
      refine lv_aload_n hx hb dX5_enter_95 rfl (lv_at hl 0 rfl) ?_
      refine va_get (D := (dC, dI)) (ci := 5) (v := .ref (ad 13)) (C := RX5) (T := TX5) (N := 5) hx hb hts in_X5_enter_X5 hown hK hP 12 rfl rfl 0 (by decide) (hts _ fl_X5_enter_13) (fun _ h9 => h9) rfl dX5_enter_96 ?_
      refine lv_iload hx hb dX5_enter_99 (lv_at hl 4 rfl) ?_
      have hi_4 := hm.1
      have hm := hm.2
      refine wC_aald hx hb hK hP hi_4 dX5_enter_101 ?_
      refine lv_iload hx hb dX5_enter_102 (lv_at hl 6 rfl) ?_
      have hi_5 := hm.1
      have hm := hm.2
      refine va_lald hx hb hK hP _ 1 (wC_row hi_4) rfl hi_5 dX5_enter_104 ?_
      refine lv_lload_n hx hb dX5_enter_105 rfl (lv_at hl 3 rfl) ?_
      refine lv_lmul hx hb dX5_enter_106 ?_
      refine lv_lload hx hb dX5_enter_107 (lv_at hl 5 rfl) ?_
      refine lv_aload_n hx hb dX5_enter_109 rfl (lv_at hl 0 rfl) ?_
      refine va_get (D := (dC, dI)) (ci := 5) (v := .ref (ad 13)) (C := RX5) (T := TX5) (N := 5) hx hb hts in_X5_enter_X5 hown hK hP 12 rfl rfl 0 (by decide) (hts _ fl_X5_enter_13) (fun _ h9 => h9) rfl dX5_enter_110 ?_
      refine lv_iload_n hx hb dX5_enter_113 rfl (lv_at hl 2 rfl) ?_
      have hi_6 := hm.1
      have hm := hm.2
      refine wC_aald hx hb hK hP hi_6 dX5_enter_114 ?_
      refine lv_iload hx hb dX5_enter_115 (lv_at hl 6 rfl) ?_
      have hi_7 := hm.1
      have hm := hm.2
      refine va_lald hx hb hK hP _ 1 (wC_row hi_6) rfl hi_7 dX5_enter_117 ?_
      refine lv_lmul hx hb dX5_enter_118 ?_
      refine lv_lsub hx hb dX5_enter_119 ?_
      refine lv_aload_n hx hb dX5_enter_120 rfl (lv_at hl 0 rfl) ?_
      refine va_get (D := (dC, dI)) (ci := 5) (v := .long tsc) (C := RX5) (T := TX5) (N := 5) hx hb hts in_X5_enter_X5 hown hK hP 12 rfl rfl 4 (by decide) (hts _ fl_X5_enter_52) (fun _ h9 => h9) rfl dX5_enter_121 ?_
      have hz_8 := hm.1
      have hm := hm.2
      refine lv_ldiv hx hb dX5_enter_124 hz_8 ?_
      refine lv_topl (fun f_9 ef_9 => ?_)
      have hm := hm f_9 ef_9
      have hi_10 := hm.1
      have hm := hm.2
      refine va_last hx hb hK hP hD hS _ 1 (wC_row hi_3) rfl hi_10 dX5_enter_125 (fun H locs hP hD hS => ?_)
      rw [wC_set hi_3] at hP hD
      have hP : va_P (dC, dI) vwCl (wC ad cy ss ds ti co oma obr obj obo obm plo pch pbe pbl dnu dde dbo dln dld tba tal tro tsc (upR tcl (x5).toNatClampNeg (vp_updL (tcl (x5).toNatClampNeg) (x8).toNatClampNeg f_9)) rma) H := hP
      have hD : va_D A (wC ad cy ss ds ti co oma obr obj obo obm plo pch pbe pbl dnu dde dbo dln dld tba tal tro tsc (upR tcl (x5).toNatClampNeg (vp_updL (tcl (x5).toNatClampNeg) (x8).toNatClampNeg f_9)) rma) := hD
      obtain ⟨x8_11, ex8_11⟩ : ∃ y : Int32, y = x8 + (1 : Int32) := ⟨_, rfl⟩
      have hm := hm x8_11 ex8_11
      refine lv_iinc (v := x8_11) (lv' := [(8, .int x8_11), (0, .ref (ad 12)), (1, .int x1), (2, .int x2), (3, .long x3), (5, .int x5), (6, .long x6)]) hx hb dX5_enter_126 hl (k := 6) rfl (by rw [ex8_11]; rfl) (by decide) rfl (fun ls hl => ?_)
      refine lv_goto (tgt := 79) hx hb dX5_enter_129 (by decide) ?_
      exact ih x1 x2 x3 x5 x6 x8_11 tba tsc (upR tcl (x5).toNatClampNeg (vp_updL (tcl (x5).toNatClampNeg) (x8).toNatClampNeg f_9)) H locs ls hm ⟨hP, hD, hS⟩ (lv_sub hl [1, 2, 3, 4, 5, 6, 0] rfl) hret hK34

set_option maxHeartbeats 4000000 in
set_option maxRecDepth 100000 in
theorem k_X5_enter_34 {N : Nat} {ss : Int32} {ds : Int32} {ti : Nat → Int32} {co : Int32} {oma : Nat → Int32} {obr : Int32} {obj : Int32} {obo : Int32} {obm : Int32} {plo : Nat → Int32} {pch : Nat → Int32} {pbe : Nat → Int32} {pbl : Int32} {dnu : Nat → Int32} {dde : Nat → Int32} {dbo : Int32} {dln : Int32} {dld : Int32} {tal : Nat → Int32} {tro : Int32} {rma : Nat → Int32} {Q : Int32 → (Nat → Int32) → Int64 → (Nat → Nat → Int64) → Prop} (C0 : cxM cX5_enter 9 (some .boolean) RX5 wsX5_enter p s m args meth c dC dI cy A) :
    ∀ (n : Nat) (x1 : Int32) (x2 : Int32) (x3 : Int64) (x5 : Int32) (tba : Nat → Int32) (tsc : Int64) (tcl : Nat → Nat → Int64) (H : Heap) (locs : List Loc) (ls : Array Slot) (hm : p_X5_enter_34 N tro Q n x1 x2 x3 x5 tba tsc tcl) (hSt : stC dC dI A s (wC ad cy ss ds ti co oma obr obj obo obm plo pch pbe pbl dnu dde dbo dln dld tba tal tro tsc tcl rma) H locs) (hl : lv_has ls 9 [(0, .ref (ad 12)), (1, .int x1), (2, .int x2), (3, .long x3), (5, .int x5)]) (hret : ∀ (r : Int32) (tba : Nat → Int32) (tsc : Int64) (tcl : Nat → Nat → Int64) (H : Heap) (locs : List Loc) (ls : Array Slot) (pc : Nat), decode cX5_enter pc = .ok (.ireturn, 1) → narrow .boolean (.int r) = .int r → stC dC dI A s (wC ad cy ss ds ti co oma obr obj obo obm plo pch pbe pbl dnu dde dbo dln dld tba tal tro tsc tcl rma) H locs → Q r tba tsc tcl → W p l e rmX5_enter s m args below meth c H locs 0 0 Z (F0 m pc ls [.int r])), W p l e rmX5_enter s m args below meth c H locs 0 0 Z (F0 m 34 ls []) := by
  obtain ⟨hx, hb, hml, hr, hown, hts, hlocks, hK, hA, hN⟩ := id C0
  intro n
  induction n with
  | zero => intro x1 x2 x3 x5 tba tsc tcl H locs ls hm; exact False.elim hm
  | succ n ih =>
    intro x1 x2 x3 x5 tba tsc tcl H locs ls hm hSt hl hret
    obtain ⟨hP, hD, hS⟩ := hSt
    unfold p_X5_enter_34 at hm
    refine lv_iload hx hb dX5_enter_34 (lv_at hl 4 rfl) ?_
    refine lv_aload_n hx hb dX5_enter_36 rfl (lv_at hl 0 rfl) ?_
    refine va_get (D := (dC, dI)) (ci := 5) (v := .int tro) (C := RX5) (T := TX5) (N := 5) hx hb hts in_X5_enter_X5 hown hK hP 12 rfl rfl 3 (by decide) (hts _ fl_X5_enter_49) (fun _ h9 => h9) rfl dX5_enter_37 ?_
    refine lv_icmp_ge (tgt := 138) hx hb dX5_enter_40 (by decide) (fun c_1 => ?_) (fun c_1 => ?_)
    · have hm := hm.1 c_1
      refine lv_aload_n hx hb dX5_enter_138 rfl (lv_at hl 0 rfl) ?_
      refine lv_lload_n hx hb dX5_enter_139 rfl (lv_at hl 3 rfl) ?_
      refine va_put (D := (dC, dI)) (ci := 5) (v := .long x3) (ty := .long) (C := RX5) (T := TX5) (N := 5) hx hb hts in_X5_enter_X5 tyX5 tyX5_ok nmX5 hown hK hP hD hS 12 rfl rfl 4 (by decide) (hts _ fl_X5_enter_52) (fun _ h9 => h9) rfl (by decide +kernel) rfl rfl (Nat.le_of_ble_eq_true rfl) dX5_enter_140 (fun H locs hP hD hS => ?_)
      have hP : va_P (dC, dI) vwCl (wC ad cy ss ds ti co oma obr obj obo obm plo pch pbe pbl dnu dde dbo dln dld tba tal tro x3 tcl rma) H := hP
      have hD : va_D A (wC ad cy ss ds ti co oma obr obj obo obm plo pch pbe pbl dnu dde dbo dln dld tba tal tro x3 tcl rma) := hD
      refine lv_aload_n hx hb dX5_enter_143 rfl (lv_at hl 0 rfl) ?_
      refine va_get (D := (dC, dI)) (ci := 5) (v := .ref (ad 14)) (C := RX5) (T := TX5) (N := 5) hx hb hts in_X5_enter_X5 hown hK hP 12 rfl rfl 1 (by decide) (hts _ fl_X5_enter_16) (fun _ h9 => h9) rfl dX5_enter_144 ?_
      refine lv_iload_n hx hb dX5_enter_147 rfl (lv_at hl 2 rfl) ?_
      refine lv_iload_n hx hb dX5_enter_148 rfl (lv_at hl 1 rfl) ?_
      have hi_2 := hm.1
      have hm := hm.2
      refine va_iast hx hb hK hP hD hS 14 0 rfl rfl hi_2 dX5_enter_149 (fun H locs hP hD hS => ?_)
      have hP : va_P (dC, dI) vwCl (wC ad cy ss ds ti co oma obr obj obo obm plo pch pbe pbl dnu dde dbo dln dld (upd tba (x2).toNatClampNeg x1) tal tro x3 tcl rma) H := hP
      have hD : va_D A (wC ad cy ss ds ti co oma obr obj obo obm plo pch pbe pbl dnu dde dbo dln dld (upd tba (x2).toNatClampNeg x1) tal tro x3 tcl rma) := hD
      refine lv_iconst (v := 1) hx hb dX5_enter_150 (by decide) ?_
      exact hret (1 : Int32) (upd tba (x2).toNatClampNeg x1) x3 tcl H locs ls 151 dX5_enter_151 rfl ⟨hP, hD, hS⟩ hm
    · have hm := hm.2 c_1
      refine lv_aload_n hx hb dX5_enter_43 rfl (lv_at hl 0 rfl) ?_
      refine va_get (D := (dC, dI)) (ci := 5) (v := .ref (ad 13)) (C := RX5) (T := TX5) (N := 5) hx hb hts in_X5_enter_X5 hown hK hP 12 rfl rfl 0 (by decide) (hts _ fl_X5_enter_13) (fun _ h9 => h9) rfl dX5_enter_44 ?_
      refine lv_iload hx hb dX5_enter_47 (lv_at hl 4 rfl) ?_
      have hi_3 := hm.1
      have hm := hm.2
      refine wC_aald hx hb hK hP hi_3 dX5_enter_49 ?_
      refine lv_iload_n hx hb dX5_enter_50 rfl (lv_at hl 1 rfl) ?_
      have hi_4 := hm.1
      have hm := hm.2
      refine va_lald hx hb hK hP _ 1 (wC_row hi_3) rfl hi_4 dX5_enter_51 ?_
      refine lv_topl (fun x6_5 ex6_5 => ?_)
      have hm := hm x6_5 ex6_5
      refine lv_lstore (lv' := [(6, .long x6_5), (0, .ref (ad 12)), (1, .int x1), (2, .int x2), (3, .long x3), (5, .int x5)]) hx hb dX5_enter_52 hl (by decide) rfl (fun ls hl => ?_)
      refine lv_iload hx hb dX5_enter_54 (lv_at hl 5 rfl) ?_
      refine lv_iload_n hx hb dX5_enter_56 rfl (lv_at hl 3 rfl) ?_
      refine lv_icmp_eq (tgt := 132) hx hb dX5_enter_57 (by decide) (fun c_6 => ?_) (fun c_6 => ?_)
      · have hm := hm.1 c_6
        obtain ⟨x5_7, ex5_7⟩ : ∃ y : Int32, y = x5 + (1 : Int32) := ⟨_, rfl⟩
        have hm := hm x5_7 ex5_7
        refine lv_iinc (v := x5_7) (lv' := [(5, .int x5_7), (6, .long x6_5), (0, .ref (ad 12)), (1, .int x1), (2, .int x2), (3, .long x3)]) hx hb dX5_enter_132 hl (k := 5) rfl (by rw [ex5_7]; rfl) (by decide) rfl (fun ls hl => ?_)
        refine lv_goto (tgt := 34) hx hb dX5_enter_135 (by decide) ?_
        exact ih x1 x2 x3 x5_7 tba tsc tcl H locs ls hm ⟨hP, hD, hS⟩ (lv_sub hl [2, 3, 4, 5, 0] rfl) hret
      · have hm := hm.2 c_6
        refine lv_lload hx hb dX5_enter_60 (lv_at hl 0 rfl) ?_
        refine lv_lconst (v := 0) hx hb dX5_enter_62 (by decide) ?_
        refine lq_ne (tgt := 76) hx hb dX5_enter_63 dX5_enter_64 (by decide) (fun c_8 => ?_) (fun c_8 => ?_)
        · have hm := hm.2 c_8
          refine lv_iconst (v := 0) hx hb dX5_enter_76 (by decide) ?_
          refine lv_istore (lv' := [(8, .int (0 : Int32)), (6, .long x6_5), (0, .ref (ad 12)), (1, .int x1), (2, .int x2), (3, .long x3), (5, .int x5)]) hx hb dX5_enter_77 hl (by decide) rfl (fun ls hl => ?_)
          refine k_X5_enter_79 C0 N x1 x2 x3 x5 x6_5 (0 : Int32) tba tsc tcl H locs ls hm ⟨hP, hD, hS⟩ (lv_sub hl [2, 3, 4, 5, 6, 1, 0] rfl) hret (fun x1 x2 x3 x5 tba tsc tcl H locs ls hm hSt hl => ?_)
          · obtain ⟨hP, hD, hS⟩ := hSt
            exact ih x1 x2 x3 x5 tba tsc tcl H locs ls hm ⟨hP, hD, hS⟩ hl hret
        · have hm := hm.1 c_8
          refine lv_lload_n hx hb dX5_enter_67 rfl (lv_at hl 4 rfl) ?_
          refine lv_aload_n hx hb dX5_enter_68 rfl (lv_at hl 1 rfl) ?_
          refine va_get (D := (dC, dI)) (ci := 5) (v := .long tsc) (C := RX5) (T := TX5) (N := 5) hx hb hts in_X5_enter_X5 hown hK hP 12 rfl rfl 4 (by decide) (hts _ fl_X5_enter_52) (fun _ h9 => h9) rfl dX5_enter_69 ?_
          refine lq_eq (tgt := 132) hx hb dX5_enter_72 dX5_enter_73 (by decide) (fun c_9 => ?_) (fun c_9 => ?_)
          · have hm := hm.1 c_9
            obtain ⟨x5_10, ex5_10⟩ : ∃ y : Int32, y = x5 + (1 : Int32) := ⟨_, rfl⟩
            have hm := hm x5_10 ex5_10
            refine lv_iinc (v := x5_10) (lv' := [(5, .int x5_10), (6, .long x6_5), (0, .ref (ad 12)), (1, .int x1), (2, .int x2), (3, .long x3)]) hx hb dX5_enter_132 hl (k := 5) rfl (by rw [ex5_10]; rfl) (by decide) rfl (fun ls hl => ?_)
            refine lv_goto (tgt := 34) hx hb dX5_enter_135 (by decide) ?_
            exact ih x1 x2 x3 x5_10 tba tsc tcl H locs ls hm ⟨hP, hD, hS⟩ (lv_sub hl [2, 3, 4, 5, 0] rfl) hret
          · have hm := hm.2 c_9
            refine lv_iconst (v := 0) hx hb dX5_enter_76 (by decide) ?_
            refine lv_istore (lv' := [(8, .int (0 : Int32)), (6, .long x6_5), (0, .ref (ad 12)), (1, .int x1), (2, .int x2), (3, .long x3), (5, .int x5)]) hx hb dX5_enter_77 hl (by decide) rfl (fun ls hl => ?_)
            refine k_X5_enter_79 C0 N x1 x2 x3 x5 x6_5 (0 : Int32) tba tsc tcl H locs ls hm ⟨hP, hD, hS⟩ (lv_sub hl [2, 3, 4, 5, 6, 1, 0] rfl) hret (fun x1 x2 x3 x5 tba tsc tcl H locs ls hm hSt hl => ?_)
            · obtain ⟨hP, hD, hS⟩ := hSt
              exact ih x1 x2 x3 x5 tba tsc tcl H locs ls hm ⟨hP, hD, hS⟩ hl hret

set_option maxHeartbeats 4000000 in
set_option maxRecDepth 100000 in
theorem k_X5_enter_0 {N : Nat} {ss : Int32} {ds : Int32} {ti : Nat → Int32} {co : Int32} {oma : Nat → Int32} {obr : Int32} {obj : Int32} {obo : Int32} {obm : Int32} {plo : Nat → Int32} {pch : Nat → Int32} {pbe : Nat → Int32} {pbl : Int32} {dnu : Nat → Int32} {dde : Nat → Int32} {dbo : Int32} {dln : Int32} {dld : Int32} {tal : Nat → Int32} {tro : Int32} {rma : Nat → Int32} {Q : Int32 → (Nat → Int32) → Int64 → (Nat → Nat → Int64) → Prop} (C0 : cxM cX5_enter 9 (some .boolean) RX5 wsX5_enter p s m args meth c dC dI cy A) :
    ∀ (x1 : Int32) (tba : Nat → Int32) (tsc : Int64) (tcl : Nat → Nat → Int64) (H : Heap) (locs : List Loc) (ls : Array Slot) (hm : p_X5_enter N tro Q x1 tba tsc tcl) (hSt : stC dC dI A s (wC ad cy ss ds ti co oma obr obj obo obm plo pch pbe pbl dnu dde dbo dln dld tba tal tro tsc tcl rma) H locs) (hl : lv_has ls 9 [(0, .ref (ad 12)), (1, .int x1)]) (hret : ∀ (r : Int32) (tba : Nat → Int32) (tsc : Int64) (tcl : Nat → Nat → Int64) (H : Heap) (locs : List Loc) (ls : Array Slot) (pc : Nat), decode cX5_enter pc = .ok (.ireturn, 1) → narrow .boolean (.int r) = .int r → stC dC dI A s (wC ad cy ss ds ti co oma obr obj obo obm plo pch pbe pbl dnu dde dbo dln dld tba tal tro tsc tcl rma) H locs → Q r tba tsc tcl → W p l e rmX5_enter s m args below meth c H locs 0 0 Z (F0 m pc ls [.int r])), W p l e rmX5_enter s m args below meth c H locs 0 0 Z (F0 m 0 ls []) := by
  obtain ⟨hx, hb, hml, hr, hown, hts, hlocks, hK, hA, hN⟩ := id C0
  intro x1 tba tsc tcl H locs ls hm hSt hl hret
  obtain ⟨hP, hD, hS⟩ := hSt
  unfold p_X5_enter at hm
  refine lv_aload_n hx hb dX5_enter_0 rfl (lv_at hl 0 rfl) ?_
  refine lv_iload_n hx hb dX5_enter_1 rfl (lv_at hl 1 rfl) ?_
  have hFc := va_freeSame hD hS hA
  refine va_calli (va_runV (As := [.int x1]) (rest := []) ⟨hx, hb, hml, hown, hts⟩ (c_X5_leavingRow l dC dI cy ad H.size ss ds ti co oma obr obj obo obm plo pch pbe pbl dnu dde dbo dln dld tba tal tro tsc tcl rma x1 _ _ hm) (cwV 1 hts gX5_enter_X5_leavingRow rfl rfl rfl (by decide +kernel) ⟨Nat.le_of_ble_eq_true rfl, Nat.le_of_ble_eq_true rfl⟩) ⟨cPre_blind, va_recv hK hP (ci := 5) (q0 := 12) rfl rfl, fun U hU hW => ⟨rfl, cPre_at hP hK hD hN hU hW⟩⟩ rfl rfl hl.1 rfl (lv_room (Nat.le_of_ble_eq_true rfl)) dX5_enter_2 ⟨Nat.zero_le _, Nat.zero_le _⟩) hS (fun q _ h => hFc q h) hFc (fun r_1 u t H locs ht hvm hw hB hz1 hk1 hS => ?_)
  try dsimp only at hw
  have hm := hw
  have hP : va_P (dC, dI) vwCl (wC ad cy ss ds ti co oma obr obj obo obm plo pch pbe pbl dnu dde dbo dln dld tba tal tro tsc tcl rma) H := cPost_P ht hB
  have hD : va_D A (wC ad cy ss ds ti co oma obr obj obo obm plo pch pbe pbl dnu dde dbo dln dld tba tal tro tsc tcl rma) := cPost_D hFc hB
  refine lv_istore_n (lv' := [(2, .int r_1), (0, .ref (ad 12)), (1, .int x1)]) hx hb dX5_enter_5 rfl hl (by decide) rfl (fun ls hl => ?_)
  refine lv_iload_n hx hb dX5_enter_6 rfl (lv_at hl 0 rfl) ?_
  refine lv_iconst (v := -1) hx hb dX5_enter_7 (by decide) ?_
  refine lv_icmp_eq (tgt := 20) hx hb dX5_enter_8 (by decide) (fun c_2 => ?_) (fun c_2 => ?_)
  · have hm := hm.1 c_2
    refine lv_iconst (v := 0) hx hb dX5_enter_20 (by decide) ?_
    exact hret (0 : Int32) tba tsc tcl H locs ls 21 dX5_enter_21 rfl ⟨hP, hD, hS⟩ hm
  · have hm := hm.2 c_2
    refine lv_aload_n hx hb dX5_enter_11 rfl (lv_at hl 1 rfl) ?_
    refine va_get (D := (dC, dI)) (ci := 5) (v := .long tsc) (C := RX5) (T := TX5) (N := 5) hx hb hts in_X5_enter_X5 hown hK hP 12 rfl rfl 4 (by decide) (hts _ fl_X5_enter_52) (fun _ h9 => h9) rfl dX5_enter_12 ?_
    refine lv_lconst (v := 0) hx hb dX5_enter_15 (by decide) ?_
    refine lq_ne (tgt := 22) hx hb dX5_enter_16 dX5_enter_17 (by decide) (fun c_3 => ?_) (fun c_3 => ?_)
    · have hm := hm.2 c_3
      refine lv_aload_n hx hb dX5_enter_22 rfl (lv_at hl 1 rfl) ?_
      refine va_get (D := (dC, dI)) (ci := 5) (v := .ref (ad 13)) (C := RX5) (T := TX5) (N := 5) hx hb hts in_X5_enter_X5 hown hK hP 12 rfl rfl 0 (by decide) (hts _ fl_X5_enter_13) (fun _ h9 => h9) rfl dX5_enter_23 ?_
      refine lv_iload_n hx hb dX5_enter_26 rfl (lv_at hl 0 rfl) ?_
      have hi_4 := hm.1
      have hm := hm.2
      refine wC_aald hx hb hK hP hi_4 dX5_enter_27 ?_
      refine lv_iload_n hx hb dX5_enter_28 rfl (lv_at hl 2 rfl) ?_
      have hi_5 := hm.1
      have hm := hm.2
      refine va_lald hx hb hK hP _ 1 (wC_row hi_4) rfl hi_5 dX5_enter_29 ?_
      refine lv_topl (fun x3_6 ex3_6 => ?_)
      have hm := hm x3_6 ex3_6
      refine lv_lstore_n (lv' := [(3, .long x3_6), (2, .int r_1), (0, .ref (ad 12)), (1, .int x1)]) hx hb dX5_enter_30 rfl hl (by decide) rfl (fun ls hl => ?_)
      refine lv_iconst (v := 0) hx hb dX5_enter_31 (by decide) ?_
      refine lv_istore (lv' := [(5, .int (0 : Int32)), (3, .long x3_6), (2, .int r_1), (0, .ref (ad 12)), (1, .int x1)]) hx hb dX5_enter_32 hl (by decide) rfl (fun ls hl => ?_)
      exact k_X5_enter_34 C0 N x1 r_1 x3_6 (0 : Int32) tba tsc tcl H locs ls hm ⟨hP, hD, hS⟩ (lv_sub hl [3, 4, 2, 1, 0] rfl) hret
    · have hm := hm.1 c_3
      refine lv_iconst (v := 0) hx hb dX5_enter_20 (by decide) ?_
      exact hret (0 : Int32) tba tsc tcl H locs ls 21 dX5_enter_21 rfl ⟨hP, hD, hS⟩ hm

set_option maxHeartbeats 4000000 in
set_option maxRecDepth 100000 in
theorem c_X5_enter (l : Launch) (dC : Nat → ClassId) (dI : Nat → Nat → Nat) (cy : Nat → ClassId) (ad : Nat → Nat) (sz : Nat) (ss : Int32) (ds : Int32) (ti : Nat → Int32) (co : Int32) (oma : Nat → Int32) (obr : Int32) (obj : Int32) (obo : Int32) (obm : Int32) (plo : Nat → Int32) (pch : Nat → Int32) (pbe : Nat → Int32) (pbl : Int32) (dnu : Nat → Int32) (dde : Nat → Int32) (dbo : Int32) (dln : Int32) (dld : Int32) (tba : Nat → Int32) (tal : Nat → Int32) (tro : Int32) (tsc : Int64) (tcl : Nat → Nat → Int64) (rma : Nat → Int32) (x1 : Int32) (N : Nat) (Q : Int32 → (Nat → Int32) → Int64 → (Nat → Nat → Int64) → Prop) (hm : p_X5_enter N tro Q x1 tba tsc tcl) : Met l yX5_enter wsX5_enter rmX5_enter (va_Pc [.ref (ad 12), .int x1] (cPre dC dI cy (wC ad cy ss ds ti co oma obr obj obo obm plo pch pbe pbl dnu dde dbo dln dld tba tal tro tsc tcl rma) sz)) (va_Qi (fun (r : Int32) (u : (Nat → Int32) × Int64 × (Nat → Nat → Int64)) => Q r u.1 u.2.1 u.2.2 ∧ narrow .boolean (.int r) = .int r) (fun u t => cPost dC dI cy (wC ad cy ss ds ti co oma obr obj obo obm plo pch pbe pbl dnu dde dbo dln dld tba tal tro tsc tcl rma) sz (wC ad cy ss ds ti co oma obr obj obo obm plo pch pbe pbl dnu dde dbo dln dld (u.1) tal tro (u.2.1) (u.2.2) rma) t) (va_A (wC ad cy ss ds ti co oma obr obj obo obm plo pch pbe pbl dnu dde dbo dln dld tba tal tro tsc tcl rma) sz)) 0 0 (va_A (wC ad cy ss ds ti co oma obr obj obo obm plo pch pbe pbl dnu dde dbo dln dld tba tal tro tsc tcl rma) sz) := by
  refine Met.ofW (cc := cX5_enter) (maxL := 9) (ret := (some .boolean)) (by decide) rfl ?_
  intro p e s m args below meth c s₁ B hml hv
  obtain ⟨rfl, hsz, hP, hK, hD0, hN⟩ := hv
  have hts := atoms_spec (ws := wsX5_enter) B.pre
  have hown : s.vm.findClass RX5 = some m.cls := findClass_of_methodNamed B.named
  subst hsz
  have hD := hD0.self (sz := s.heap.size)
  generalize hAe : va_A (wC ad cy ss ds ti co oma obr obj obo obm plo pch pbe pbl dnu dde dbo dln dld tba tal tro tsc tcl rma) s.heap.size = A at hD ⊢
  have hA : ∀ q : Nat, s.heap.size ≤ q → A q := fun q h => by rw [← hAe]; exact Or.inr h
  have hl := lv_entry ([.ref (ad 12), .int x1]) (n := 9) (Nat.le_of_ble_eq_true rfl)
  rw [lg_entry_eq]
  generalize (lg_sl ([.ref (ad 12), .int x1]) ++ List.replicate (9 - (lg_sl ([.ref (ad 12), .int x1])).length) Slot.unset).toArray = ls at hl ⊢
  have hl : lv_has ls 9 [(0, .ref (ad 12)), (1, .int x1)] := hl
  exact k_X5_enter_0 ⟨B.exec, B.bytes, hml, B.returns, hown, hts, B.notSynchronized, hK, hA, hN⟩ x1 tba tsc tcl s.heap [] ls hm ⟨hP, hD, va_S.rf⟩ (lv_sub hl [0, 1] rfl) (fun r tba tsc tcl H locs ls pc hdg hn hSt hq => W.zret B.exec B.bytes B.returns hn (fun t ht hW => ⟨⟨r, (tba, tsc, tcl), rfl, ⟨hq, hn⟩, cPost_of hAe ht hW.alike hSt hK⟩, hSt.2.2.F ht⟩) hSt.2.2.2.2 hdg B.notSynchronized)
