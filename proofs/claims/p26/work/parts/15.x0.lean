variable {p : Program} {l : Launch} {e : Env} {s : State} {m : MethodId} {args : Array Value} {below : List Frame} {meth : Method} {c : Code} {dC : Nat → ClassId} {dI : Nat → Nat → Nat} {cy : Nat → ClassId} {ad : Nat → Nat} {A : Nat → Prop} {Z : State → Prop}
-- ===== X0_hasShare
theorem fl_X0_hasShare_18 : Cond.fieldLink RX0 18 "UnlikeUnion$Division" "numerators" "[I" ∈ wsX0_hasShare := by decide +kernel
theorem in_X0_hasShare_X0 : ∀ w ∈ u_ws RX0 TX0 6, w ∈ wsX0_hasShare := by decide +kernel
abbrev rmX0_hasShare : Room := { frames := 1, cells := 0, slots := 0, locals := 63 }
def p_X0_hasShare (N : Nat) (dnu : Nat → Int32) (Q : Int32 → Prop) (x1 : Int32) (x2 : Int32) : Prop :=
  (x1 < 0 → (Q (0 : Int32))) ∧ (¬ x1 < 0 → (((7 : Int32) ≤ x1 → (Q (0 : Int32))) ∧ (¬ (7 : Int32) ≤ x1 → ((x2 < 0 → (Q (0 : Int32))) ∧ (¬ x2 < 0 → (((3 : Int32) ≤ x2 → (Q (0 : Int32))) ∧ (¬ (3 : Int32) ≤ x2 → (vp_in ((x1 * (3 : Int32)) + x2) 21 ∧ (((dnu ((x1 * (3 : Int32)) + x2).toNatClampNeg) ≤ 0 → (Q (0 : Int32))) ∧ (¬ (dnu ((x1 * (3 : Int32)) + x2).toNatClampNeg) ≤ 0 → (Q (1 : Int32))))))))))))

set_option maxHeartbeats 4000000 in
set_option maxRecDepth 100000 in
theorem k_X0_hasShare_0 {N : Nat} {ss : Int32} {ds : Int32} {ti : Nat → Int32} {co : Int32} {oma : Nat → Int32} {obr : Int32} {obj : Int32} {obo : Int32} {obm : Int32} {plo : Nat → Int32} {pch : Nat → Int32} {pbe : Nat → Int32} {pbl : Int32} {dnu : Nat → Int32} {dde : Nat → Int32} {dbo : Int32} {dln : Int32} {dld : Int32} {tba : Nat → Int32} {tal : Nat → Int32} {tro : Int32} {tsc : Int64} {tcl : Nat → Nat → Int64} {rma : Nat → Int32} {Q : Int32 → Prop} (C0 : cxM cX0_hasShare 3 (some .boolean) RX0 wsX0_hasShare p s m args meth c dC dI cy A) :
    ∀ (x1 : Int32) (x2 : Int32) (H : Heap) (locs : List Loc) (ls : Array Slot) (hm : p_X0_hasShare N dnu Q x1 x2) (hSt : stC dC dI A s (wC ad cy ss ds ti co oma obr obj obo obm plo pch pbe pbl dnu dde dbo dln dld tba tal tro tsc tcl rma) H locs) (hl : lv_has ls 3 [(0, .ref (ad 9)), (1, .int x1), (2, .int x2)]) (hret : ∀ (r : Int32) (H : Heap) (locs : List Loc) (ls : Array Slot) (pc : Nat), decode cX0_hasShare pc = .ok (.ireturn, 1) → narrow .boolean (.int r) = .int r → stC dC dI A s (wC ad cy ss ds ti co oma obr obj obo obm plo pch pbe pbl dnu dde dbo dln dld tba tal tro tsc tcl rma) H locs → Q r → W p l e rmX0_hasShare s m args below meth c H locs 0 0 Z (F0 m pc ls [.int r])), W p l e rmX0_hasShare s m args below meth c H locs 0 0 Z (F0 m 0 ls []) := by
  obtain ⟨hx, hb, hml, hr, hown, hts, hlocks, hK, hA, hN⟩ := id C0
  intro x1 x2 H locs ls hm hSt hl hret
  obtain ⟨hP, hD, hS⟩ := hSt
  unfold p_X0_hasShare at hm
  refine lv_iload_n hx hb dX0_hasShare_0 rfl (lv_at hl 1 rfl) ?_
  refine lv_if_lt (tgt := 36) hx hb dX0_hasShare_1 (by decide) (fun c_1 => ?_) (fun c_1 => ?_)
  · have hm := hm.1 c_1
    refine lv_iconst (v := 0) hx hb dX0_hasShare_36 (by decide) ?_
    exact hret (0 : Int32) H locs ls 37 dX0_hasShare_37 rfl ⟨hP, hD, hS⟩ hm
  · have hm := hm.2 c_1
    refine lv_iload_n hx hb dX0_hasShare_4 rfl (lv_at hl 1 rfl) ?_
    refine lv_bipush (v := 7) hx hb dX0_hasShare_5 (by decide) ?_
    refine lv_icmp_ge (tgt := 36) hx hb dX0_hasShare_7 (by decide) (fun c_2 => ?_) (fun c_2 => ?_)
    · have hm := hm.1 c_2
      refine lv_iconst (v := 0) hx hb dX0_hasShare_36 (by decide) ?_
      exact hret (0 : Int32) H locs ls 37 dX0_hasShare_37 rfl ⟨hP, hD, hS⟩ hm
    · have hm := hm.2 c_2
      refine lv_iload_n hx hb dX0_hasShare_10 rfl (lv_at hl 2 rfl) ?_
      refine lv_if_lt (tgt := 36) hx hb dX0_hasShare_11 (by decide) (fun c_3 => ?_) (fun c_3 => ?_)
      · have hm := hm.1 c_3
        refine lv_iconst (v := 0) hx hb dX0_hasShare_36 (by decide) ?_
        exact hret (0 : Int32) H locs ls 37 dX0_hasShare_37 rfl ⟨hP, hD, hS⟩ hm
      · have hm := hm.2 c_3
        refine lv_iload_n hx hb dX0_hasShare_14 rfl (lv_at hl 2 rfl) ?_
        refine lv_iconst (v := 3) hx hb dX0_hasShare_15 (by decide) ?_
        refine lv_icmp_ge (tgt := 36) hx hb dX0_hasShare_16 (by decide) (fun c_4 => ?_) (fun c_4 => ?_)
        · have hm := hm.1 c_4
          refine lv_iconst (v := 0) hx hb dX0_hasShare_36 (by decide) ?_
          exact hret (0 : Int32) H locs ls 37 dX0_hasShare_37 rfl ⟨hP, hD, hS⟩ hm
        · have hm := hm.2 c_4
          refine lv_aload_n hx hb dX0_hasShare_19 rfl (lv_at hl 0 rfl) ?_
          refine va_get (D := (dC, dI)) (ci := 0) (v := .ref (ad 10)) (C := RX0) (T := TX0) (N := 6) hx hb hts in_X0_hasShare_X0 hown hK hP 9 rfl rfl 1 (by decide) (hts _ fl_X0_hasShare_18) (fun _ h9 => h9) rfl dX0_hasShare_20 ?_
          refine lv_iload_n hx hb dX0_hasShare_23 rfl (lv_at hl 1 rfl) ?_
          refine lv_iconst (v := 3) hx hb dX0_hasShare_24 (by decide) ?_
          refine lv_imul hx hb dX0_hasShare_25 ?_
          refine lv_iload_n hx hb dX0_hasShare_26 rfl (lv_at hl 2 rfl) ?_
          refine lv_iadd hx hb dX0_hasShare_27 ?_
          have hi_5 := hm.1
          have hm := hm.2
          refine va_iald hx hb hK hP 10 0 rfl rfl hi_5 dX0_hasShare_28 ?_
          refine lv_if_le (tgt := 36) hx hb dX0_hasShare_29 (by decide) (fun c_6 => ?_) (fun c_6 => ?_)
          · have hm := hm.1 c_6
            refine lv_iconst (v := 0) hx hb dX0_hasShare_36 (by decide) ?_
            exact hret (0 : Int32) H locs ls 37 dX0_hasShare_37 rfl ⟨hP, hD, hS⟩ hm
          · have hm := hm.2 c_6
            refine lv_iconst (v := 1) hx hb dX0_hasShare_32 (by decide) ?_
            refine lv_goto (tgt := 37) hx hb dX0_hasShare_33 (by decide) ?_
            exact hret (1 : Int32) H locs ls 37 dX0_hasShare_37 rfl ⟨hP, hD, hS⟩ hm

set_option maxHeartbeats 4000000 in
set_option maxRecDepth 100000 in
theorem c_X0_hasShare (l : Launch) (dC : Nat → ClassId) (dI : Nat → Nat → Nat) (cy : Nat → ClassId) (ad : Nat → Nat) (sz : Nat) (ss : Int32) (ds : Int32) (ti : Nat → Int32) (co : Int32) (oma : Nat → Int32) (obr : Int32) (obj : Int32) (obo : Int32) (obm : Int32) (plo : Nat → Int32) (pch : Nat → Int32) (pbe : Nat → Int32) (pbl : Int32) (dnu : Nat → Int32) (dde : Nat → Int32) (dbo : Int32) (dln : Int32) (dld : Int32) (tba : Nat → Int32) (tal : Nat → Int32) (tro : Int32) (tsc : Int64) (tcl : Nat → Nat → Int64) (rma : Nat → Int32) (x1 : Int32) (x2 : Int32) (N : Nat) (Q : Int32 → Prop) (hm : p_X0_hasShare N dnu Q x1 x2) : Met l yX0_hasShare wsX0_hasShare rmX0_hasShare (va_Pc [.ref (ad 9), .int x1, .int x2] (cPre dC dI cy (wC ad cy ss ds ti co oma obr obj obo obm plo pch pbe pbl dnu dde dbo dln dld tba tal tro tsc tcl rma) sz)) (va_Qi (fun (r : Int32) (u : Unit) => Q r ∧ narrow .boolean (.int r) = .int r) (fun u t => cPost dC dI cy (wC ad cy ss ds ti co oma obr obj obo obm plo pch pbe pbl dnu dde dbo dln dld tba tal tro tsc tcl rma) sz (wC ad cy ss ds ti co oma obr obj obo obm plo pch pbe pbl dnu dde dbo dln dld tba tal tro tsc tcl rma) t) (va_A (wC ad cy ss ds ti co oma obr obj obo obm plo pch pbe pbl dnu dde dbo dln dld tba tal tro tsc tcl rma) sz)) 0 0 (va_A (wC ad cy ss ds ti co oma obr obj obo obm plo pch pbe pbl dnu dde dbo dln dld tba tal tro tsc tcl rma) sz) := by
  refine Met.ofW (cc := cX0_hasShare) (maxL := 3) (ret := (some .boolean)) (by decide) rfl ?_
  intro p e s m args below meth c s₁ B hml hv
  obtain ⟨rfl, hsz, hP, hK, hD0, hN⟩ := hv
  have hts := atoms_spec (ws := wsX0_hasShare) B.pre
  have hown : s.vm.findClass RX0 = some m.cls := findClass_of_methodNamed B.named
  subst hsz
  have hD := hD0.self (sz := s.heap.size)
  generalize hAe : va_A (wC ad cy ss ds ti co oma obr obj obo obm plo pch pbe pbl dnu dde dbo dln dld tba tal tro tsc tcl rma) s.heap.size = A at hD ⊢
  have hA : ∀ q : Nat, s.heap.size ≤ q → A q := fun q h => by rw [← hAe]; exact Or.inr h
  have hl := lv_entry ([.ref (ad 9), .int x1, .int x2]) (n := 3) (Nat.le_of_ble_eq_true rfl)
  rw [lg_entry_eq]
  generalize (lg_sl ([.ref (ad 9), .int x1, .int x2]) ++ List.replicate (3 - (lg_sl ([.ref (ad 9), .int x1, .int x2])).length) Slot.unset).toArray = ls at hl ⊢
  have hl : lv_has ls 3 [(0, .ref (ad 9)), (1, .int x1), (2, .int x2)] := hl
  exact k_X0_hasShare_0 ⟨B.exec, B.bytes, hml, B.returns, hown, hts, B.notSynchronized, hK, hA, hN⟩ x1 x2 s.heap [] ls hm ⟨hP, hD, va_S.rf⟩ (lv_sub hl [0, 1, 2] rfl) (fun r H locs ls pc hdg hn hSt hq => W.zret B.exec B.bytes B.returns hn (fun t ht hW => ⟨⟨r, (), rfl, ⟨hq, hn⟩, cPost_of hAe ht hW.alike hSt hK⟩, hSt.2.2.F ht⟩) hSt.2.2.2.2 hdg B.notSynchronized)

-- ===== X0_wholeMachine
theorem fl_X0_wholeMachine_22 : Cond.fieldLink RX0 22 "UnlikeUnion$Division" "denominators" "[I" ∈ wsX0_wholeMachine := by decide +kernel
theorem in_X0_wholeMachine_X0 : ∀ w ∈ u_ws RX0 TX0 6, w ∈ wsX0_wholeMachine := by decide +kernel
abbrev rmX0_wholeMachine : Room := { frames := 2, cells := 0, slots := 0, locals := 145 }
def p_X0_wholeMachine_2 (N : Nat) (dnu : Nat → Int32) (dde : Nat → Int32) (Q : Int32 → Prop) : Nat → Int32 → Int32 → Prop
  | 0 => fun _ _ => False
  | n + 1 => fun x1 x2 => ((3 : Int32) ≤ x2 → (Q (-1 : Int32))) ∧ (¬ (3 : Int32) ≤ x2 → (p_X0_hasShare N dnu (fun r_2 => (r_2 = 0 → (∀ x2_4 : Int32, x2_4 = x2 + (1 : Int32) → (p_X0_wholeMachine_2 N dnu dde Q n x1 x2_4))) ∧ (¬ r_2 = 0 → (vp_in ((x1 * (3 : Int32)) + x2) 21 ∧ (((dde ((x1 * (3 : Int32)) + x2).toNatClampNeg) = (1 : Int32) → (Q x2)) ∧ (¬ (dde ((x1 * (3 : Int32)) + x2).toNatClampNeg) = (1 : Int32) → (∀ x2_7 : Int32, x2_7 = x2 + (1 : Int32) → (p_X0_wholeMachine_2 N dnu dde Q n x1 x2_7))))))) x1 x2))

def p_X0_wholeMachine (N : Nat) (dnu : Nat → Int32) (dde : Nat → Int32) (Q : Int32 → Prop) (x1 : Int32) : Prop :=
  p_X0_wholeMachine_2 N dnu dde Q N x1 (0 : Int32)

set_option maxHeartbeats 4000000 in
set_option maxRecDepth 100000 in
theorem k_X0_wholeMachine_2 {N : Nat} {ss : Int32} {ds : Int32} {ti : Nat → Int32} {co : Int32} {oma : Nat → Int32} {obr : Int32} {obj : Int32} {obo : Int32} {obm : Int32} {plo : Nat → Int32} {pch : Nat → Int32} {pbe : Nat → Int32} {pbl : Int32} {dnu : Nat → Int32} {dde : Nat → Int32} {dbo : Int32} {dln : Int32} {dld : Int32} {tba : Nat → Int32} {tal : Nat → Int32} {tro : Int32} {tsc : Int64} {tcl : Nat → Nat → Int64} {rma : Nat → Int32} {Q : Int32 → Prop} (C0 : cxM cX0_wholeMachine 3 (some .int) RX0 wsX0_wholeMachine p s m args meth c dC dI cy A) :
    ∀ (n : Nat) (x1 : Int32) (x2 : Int32) (H : Heap) (locs : List Loc) (ls : Array Slot) (hm : p_X0_wholeMachine_2 N dnu dde Q n x1 x2) (hSt : stC dC dI A s (wC ad cy ss ds ti co oma obr obj obo obm plo pch pbe pbl dnu dde dbo dln dld tba tal tro tsc tcl rma) H locs) (hl : lv_has ls 3 [(0, .ref (ad 9)), (1, .int x1), (2, .int x2)]) (hret : ∀ (r : Int32) (H : Heap) (locs : List Loc) (ls : Array Slot) (pc : Nat), decode cX0_wholeMachine pc = .ok (.ireturn, 1) → stC dC dI A s (wC ad cy ss ds ti co oma obr obj obo obm plo pch pbe pbl dnu dde dbo dln dld tba tal tro tsc tcl rma) H locs → Q r → W p l e rmX0_wholeMachine s m args below meth c H locs 0 0 Z (F0 m pc ls [.int r])), W p l e rmX0_wholeMachine s m args below meth c H locs 0 0 Z (F0 m 2 ls []) := by
  obtain ⟨hx, hb, hml, hr, hown, hts, hlocks, hK, hA, hN⟩ := id C0
  intro n
  induction n with
  | zero => intro x1 x2 H locs ls hm; exact False.elim hm
  | succ n ih =>
    intro x1 x2 H locs ls hm hSt hl hret
    obtain ⟨hP, hD, hS⟩ := hSt
    unfold p_X0_wholeMachine_2 at hm
    refine lv_iload_n hx hb dX0_wholeMachine_2 rfl (lv_at hl 2 rfl) ?_
    refine lv_iconst (v := 3) hx hb dX0_wholeMachine_3 (by decide) ?_
    refine lv_icmp_ge (tgt := 38) hx hb dX0_wholeMachine_4 (by decide) (fun c_1 => ?_) (fun c_1 => ?_)
    · have hm := hm.1 c_1
      refine lv_iconst (v := -1) hx hb dX0_wholeMachine_38 (by decide) ?_
      exact hret (-1 : Int32) H locs ls 39 dX0_wholeMachine_39 ⟨hP, hD, hS⟩ hm
    · have hm := hm.2 c_1
      refine lv_aload_n hx hb dX0_wholeMachine_7 rfl (lv_at hl 0 rfl) ?_
      refine lv_iload_n hx hb dX0_wholeMachine_8 rfl (lv_at hl 1 rfl) ?_
      refine lv_iload_n hx hb dX0_wholeMachine_9 rfl (lv_at hl 2 rfl) ?_
      have hFc := va_freeSame hD hS hA
      refine va_calli (va_runV (As := [.int x1, .int x2]) (rest := []) ⟨hx, hb, hml, hown, hts⟩ (c_X0_hasShare l dC dI cy ad H.size ss ds ti co oma obr obj obo obm plo pch pbe pbl dnu dde dbo dln dld tba tal tro tsc tcl rma x1 x2 _ _ hm) (cwV 2 hts gX0_wholeMachine_X0_hasShare rfl rfl rfl (by decide +kernel) ⟨Nat.le_of_ble_eq_true rfl, Nat.le_of_ble_eq_true rfl⟩) ⟨cPre_blind, va_recv hK hP (ci := 0) (q0 := 9) rfl rfl, fun U hU hW => ⟨rfl, cPre_at hP hK hD hN hU hW⟩⟩ rfl rfl hl.1 rfl (lv_room (Nat.le_of_ble_eq_true rfl)) dX0_wholeMachine_10 ⟨Nat.zero_le _, Nat.zero_le _⟩) hS (fun q _ h => hFc q h) hFc (fun r_2 u t H locs ht hvm hw hB hz1 hk1 hS => ?_)
      try dsimp only at hw
      obtain ⟨hm, nar_r_2⟩ := hw
      have hP : va_P (dC, dI) vwCl (wC ad cy ss ds ti co oma obr obj obo obm plo pch pbe pbl dnu dde dbo dln dld tba tal tro tsc tcl rma) H := cPost_P ht hB
      have hD : va_D A (wC ad cy ss ds ti co oma obr obj obo obm plo pch pbe pbl dnu dde dbo dln dld tba tal tro tsc tcl rma) := cPost_D hFc hB
      refine lv_if_eq (tgt := 32) hx hb dX0_wholeMachine_13 (by decide) (fun c_3 => ?_) (fun c_3 => ?_)
      · have hm := hm.1 c_3
        obtain ⟨x2_4, ex2_4⟩ : ∃ y : Int32, y = x2 + (1 : Int32) := ⟨_, rfl⟩
        have hm := hm x2_4 ex2_4
        refine lv_iinc (v := x2_4) (lv' := [(2, .int x2_4), (0, .ref (ad 9)), (1, .int x1)]) hx hb dX0_wholeMachine_32 hl (k := 2) rfl (by rw [ex2_4]; rfl) (by decide) rfl (fun ls hl => ?_)
        refine lv_goto (tgt := 2) hx hb dX0_wholeMachine_35 (by decide) ?_
        exact ih x1 x2_4 H locs ls hm ⟨hP, hD, hS⟩ (lv_sub hl [1, 2, 0] rfl) hret
      · have hm := hm.2 c_3
        refine lv_aload_n hx hb dX0_wholeMachine_16 rfl (lv_at hl 0 rfl) ?_
        refine va_get (D := (dC, dI)) (ci := 0) (v := .ref (ad 11)) (C := RX0) (T := TX0) (N := 6) hx hb hts in_X0_wholeMachine_X0 hown hK hP 9 rfl rfl 2 (by decide) (hts _ fl_X0_wholeMachine_22) (fun _ h9 => h9) rfl dX0_wholeMachine_17 ?_
        refine lv_iload_n hx hb dX0_wholeMachine_20 rfl (lv_at hl 1 rfl) ?_
        refine lv_iconst (v := 3) hx hb dX0_wholeMachine_21 (by decide) ?_
        refine lv_imul hx hb dX0_wholeMachine_22 ?_
        refine lv_iload_n hx hb dX0_wholeMachine_23 rfl (lv_at hl 2 rfl) ?_
        refine lv_iadd hx hb dX0_wholeMachine_24 ?_
        have hi_5 := hm.1
        have hm := hm.2
        refine va_iald hx hb hK hP 11 0 rfl rfl hi_5 dX0_wholeMachine_25 ?_
        refine lv_iconst (v := 1) hx hb dX0_wholeMachine_26 (by decide) ?_
        refine lv_icmp_ne (tgt := 32) hx hb dX0_wholeMachine_27 (by decide) (fun c_6 => ?_) (fun c_6 => ?_)
        · have hm := hm.2 c_6
          obtain ⟨x2_7, ex2_7⟩ : ∃ y : Int32, y = x2 + (1 : Int32) := ⟨_, rfl⟩
          have hm := hm x2_7 ex2_7
          refine lv_iinc (v := x2_7) (lv' := [(2, .int x2_7), (0, .ref (ad 9)), (1, .int x1)]) hx hb dX0_wholeMachine_32 hl (k := 2) rfl (by rw [ex2_7]; rfl) (by decide) rfl (fun ls hl => ?_)
          refine lv_goto (tgt := 2) hx hb dX0_wholeMachine_35 (by decide) ?_
          exact ih x1 x2_7 H locs ls hm ⟨hP, hD, hS⟩ (lv_sub hl [1, 2, 0] rfl) hret
        · have hm := hm.1 c_6
          refine lv_iload_n hx hb dX0_wholeMachine_30 rfl (lv_at hl 2 rfl) ?_
          exact hret x2 H locs ls 31 dX0_wholeMachine_31 ⟨hP, hD, hS⟩ hm

set_option maxHeartbeats 4000000 in
set_option maxRecDepth 100000 in
theorem k_X0_wholeMachine_0 {N : Nat} {ss : Int32} {ds : Int32} {ti : Nat → Int32} {co : Int32} {oma : Nat → Int32} {obr : Int32} {obj : Int32} {obo : Int32} {obm : Int32} {plo : Nat → Int32} {pch : Nat → Int32} {pbe : Nat → Int32} {pbl : Int32} {dnu : Nat → Int32} {dde : Nat → Int32} {dbo : Int32} {dln : Int32} {dld : Int32} {tba : Nat → Int32} {tal : Nat → Int32} {tro : Int32} {tsc : Int64} {tcl : Nat → Nat → Int64} {rma : Nat → Int32} {Q : Int32 → Prop} (C0 : cxM cX0_wholeMachine 3 (some .int) RX0 wsX0_wholeMachine p s m args meth c dC dI cy A) :
    ∀ (x1 : Int32) (H : Heap) (locs : List Loc) (ls : Array Slot) (hm : p_X0_wholeMachine N dnu dde Q x1) (hSt : stC dC dI A s (wC ad cy ss ds ti co oma obr obj obo obm plo pch pbe pbl dnu dde dbo dln dld tba tal tro tsc tcl rma) H locs) (hl : lv_has ls 3 [(0, .ref (ad 9)), (1, .int x1)]) (hret : ∀ (r : Int32) (H : Heap) (locs : List Loc) (ls : Array Slot) (pc : Nat), decode cX0_wholeMachine pc = .ok (.ireturn, 1) → stC dC dI A s (wC ad cy ss ds ti co oma obr obj obo obm plo pch pbe pbl dnu dde dbo dln dld tba tal tro tsc tcl rma) H locs → Q r → W p l e rmX0_wholeMachine s m args below meth c H locs 0 0 Z (F0 m pc ls [.int r])), W p l e rmX0_wholeMachine s m args below meth c H locs 0 0 Z (F0 m 0 ls []) := by
  obtain ⟨hx, hb, hml, hr, hown, hts, hlocks, hK, hA, hN⟩ := id C0
  intro x1 H locs ls hm hSt hl hret
  obtain ⟨hP, hD, hS⟩ := hSt
  unfold p_X0_wholeMachine at hm
  refine lv_iconst (v := 0) hx hb dX0_wholeMachine_0 (by decide) ?_
  refine lv_istore_n (lv' := [(2, .int (0 : Int32)), (0, .ref (ad 9)), (1, .int x1)]) hx hb dX0_wholeMachine_1 rfl hl (by decide) rfl (fun ls hl => ?_)
  exact k_X0_wholeMachine_2 C0 N x1 (0 : Int32) H locs ls hm ⟨hP, hD, hS⟩ (lv_sub hl [1, 2, 0] rfl) hret

set_option maxHeartbeats 4000000 in
set_option maxRecDepth 100000 in
theorem c_X0_wholeMachine (l : Launch) (dC : Nat → ClassId) (dI : Nat → Nat → Nat) (cy : Nat → ClassId) (ad : Nat → Nat) (sz : Nat) (ss : Int32) (ds : Int32) (ti : Nat → Int32) (co : Int32) (oma : Nat → Int32) (obr : Int32) (obj : Int32) (obo : Int32) (obm : Int32) (plo : Nat → Int32) (pch : Nat → Int32) (pbe : Nat → Int32) (pbl : Int32) (dnu : Nat → Int32) (dde : Nat → Int32) (dbo : Int32) (dln : Int32) (dld : Int32) (tba : Nat → Int32) (tal : Nat → Int32) (tro : Int32) (tsc : Int64) (tcl : Nat → Nat → Int64) (rma : Nat → Int32) (x1 : Int32) (N : Nat) (Q : Int32 → Prop) (hm : p_X0_wholeMachine N dnu dde Q x1) : Met l yX0_wholeMachine wsX0_wholeMachine rmX0_wholeMachine (va_Pc [.ref (ad 9), .int x1] (cPre dC dI cy (wC ad cy ss ds ti co oma obr obj obo obm plo pch pbe pbl dnu dde dbo dln dld tba tal tro tsc tcl rma) sz)) (va_Qi (fun (r : Int32) (u : Unit) => Q r) (fun u t => cPost dC dI cy (wC ad cy ss ds ti co oma obr obj obo obm plo pch pbe pbl dnu dde dbo dln dld tba tal tro tsc tcl rma) sz (wC ad cy ss ds ti co oma obr obj obo obm plo pch pbe pbl dnu dde dbo dln dld tba tal tro tsc tcl rma) t) (va_A (wC ad cy ss ds ti co oma obr obj obo obm plo pch pbe pbl dnu dde dbo dln dld tba tal tro tsc tcl rma) sz)) 0 0 (va_A (wC ad cy ss ds ti co oma obr obj obo obm plo pch pbe pbl dnu dde dbo dln dld tba tal tro tsc tcl rma) sz) := by
  refine Met.ofW (cc := cX0_wholeMachine) (maxL := 3) (ret := (some .int)) (by decide) rfl ?_
  intro p e s m args below meth c s₁ B hml hv
  obtain ⟨rfl, hsz, hP, hK, hD0, hN⟩ := hv
  have hts := atoms_spec (ws := wsX0_wholeMachine) B.pre
  have hown : s.vm.findClass RX0 = some m.cls := findClass_of_methodNamed B.named
  subst hsz
  have hD := hD0.self (sz := s.heap.size)
  generalize hAe : va_A (wC ad cy ss ds ti co oma obr obj obo obm plo pch pbe pbl dnu dde dbo dln dld tba tal tro tsc tcl rma) s.heap.size = A at hD ⊢
  have hA : ∀ q : Nat, s.heap.size ≤ q → A q := fun q h => by rw [← hAe]; exact Or.inr h
  have hl := lv_entry ([.ref (ad 9), .int x1]) (n := 3) (Nat.le_of_ble_eq_true rfl)
  rw [lg_entry_eq]
  generalize (lg_sl ([.ref (ad 9), .int x1]) ++ List.replicate (3 - (lg_sl ([.ref (ad 9), .int x1])).length) Slot.unset).toArray = ls at hl ⊢
  have hl : lv_has ls 3 [(0, .ref (ad 9)), (1, .int x1)] := hl
  exact k_X0_wholeMachine_0 ⟨B.exec, B.bytes, hml, B.returns, hown, hts, B.notSynchronized, hK, hA, hN⟩ x1 s.heap [] ls hm ⟨hP, hD, va_S.rf⟩ (lv_sub hl [0, 1] rfl) (fun r H locs ls pc hdg hSt hq => W.iret B.exec B.bytes B.returns (fun t ht hW => ⟨⟨r, (), rfl, hq, cPost_of hAe ht hW.alike hSt hK⟩, hSt.2.2.F ht⟩) hSt.2.2.2.2 hdg B.notSynchronized)

-- ===== X0_commonDivisor
abbrev rmX0_commonDivisor : Room := { frames := 1, cells := 0, slots := 0, locals := 71 }
def p_X0_commonDivisor_9 (N : Nat) (Q : Int64 → Prop) : Nat → Int64 → Int64 → Int32 → Prop
  | 0 => fun _ _ _ => False
  | n + 1 => fun x4 x6 x8 => ((1000 : Int32) ≤ x8 → (Q x4)) ∧ (¬ (1000 : Int32) ≤ x8 → ((x6 = (0 : Int64) → (Q x4)) ∧ (¬ x6 = (0 : Int64) → ((¬ x6 = 0) ∧ (∀ x9_4 : Int64, x9_4 = x4 - x4 / x6 * x6 → (∀ x8_5 : Int32, x8_5 = x8 + (1 : Int32) → (p_X0_commonDivisor_9 N Q n x6 x9_4 x8_5)))))))

def p_X0_commonDivisor (N : Nat) (Q : Int64 → Prop) (x0 : Int64) (x2 : Int64) : Prop :=
  p_X0_commonDivisor_9 N Q N x0 x2 (0 : Int32)

set_option maxHeartbeats 4000000 in
set_option maxRecDepth 100000 in
theorem k_X0_commonDivisor_9 {N : Nat} {ss : Int32} {ds : Int32} {ti : Nat → Int32} {co : Int32} {oma : Nat → Int32} {obr : Int32} {obj : Int32} {obo : Int32} {obm : Int32} {plo : Nat → Int32} {pch : Nat → Int32} {pbe : Nat → Int32} {pbl : Int32} {dnu : Nat → Int32} {dde : Nat → Int32} {dbo : Int32} {dln : Int32} {dld : Int32} {tba : Nat → Int32} {tal : Nat → Int32} {tro : Int32} {tsc : Int64} {tcl : Nat → Nat → Int64} {rma : Nat → Int32} {Q : Int64 → Prop} (C0 : cxM cX0_commonDivisor 11 (some .long) RX0 wsX0_commonDivisor p s m args meth c dC dI cy A) :
    ∀ (n : Nat) (x4 : Int64) (x6 : Int64) (x8 : Int32) (H : Heap) (locs : List Loc) (ls : Array Slot) (hm : p_X0_commonDivisor_9 N Q n x4 x6 x8) (hSt : stC dC dI A s (wC ad cy ss ds ti co oma obr obj obo obm plo pch pbe pbl dnu dde dbo dln dld tba tal tro tsc tcl rma) H locs) (hl : lv_has ls 11 [(4, .long x4), (6, .long x6), (8, .int x8)]) (hret : ∀ (r : Int64) (H : Heap) (locs : List Loc) (ls : Array Slot) (pc : Nat), decode cX0_commonDivisor pc = .ok (.lreturn, 1) → stC dC dI A s (wC ad cy ss ds ti co oma obr obj obo obm plo pch pbe pbl dnu dde dbo dln dld tba tal tro tsc tcl rma) H locs → Q r → W p l e rmX0_commonDivisor s m args below meth c H locs 0 0 Z (F0 m pc ls [.long r])), W p l e rmX0_commonDivisor s m args below meth c H locs 0 0 Z (F0 m 9 ls []) := by
  obtain ⟨hx, hb, hml, hr, hown, hts, hlocks, hK, hA, hN⟩ := id C0
  intro n
  induction n with
  | zero => intro x4 x6 x8 H locs ls hm; exact False.elim hm
  | succ n ih =>
    intro x4 x6 x8 H locs ls hm hSt hl hret
    obtain ⟨hP, hD, hS⟩ := hSt
    unfold p_X0_commonDivisor_9 at hm
    refine lv_iload hx hb dX0_commonDivisor_9 (lv_at hl 2 rfl) ?_
    refine lv_sipush (v := 1000) hx hb dX0_commonDivisor_11 (by decide) ?_
    refine lv_icmp_ge (tgt := 45) hx hb dX0_commonDivisor_14 (by decide) (fun c_1 => ?_) (fun c_1 => ?_)
    · have hm := hm.1 c_1
      refine lv_lload hx hb dX0_commonDivisor_45 (lv_at hl 0 rfl) ?_
      exact hret x4 H locs ls 47 dX0_commonDivisor_47 ⟨hP, hD, hS⟩ hm
    · have hm := hm.2 c_1
      refine lv_lload hx hb dX0_commonDivisor_17 (lv_at hl 1 rfl) ?_
      refine lv_lconst (v := 0) hx hb dX0_commonDivisor_19 (by decide) ?_
      refine lq_eq (tgt := 45) hx hb dX0_commonDivisor_20 dX0_commonDivisor_21 (by decide) (fun c_2 => ?_) (fun c_2 => ?_)
      · have hm := hm.1 c_2
        refine lv_lload hx hb dX0_commonDivisor_45 (lv_at hl 0 rfl) ?_
        exact hret x4 H locs ls 47 dX0_commonDivisor_47 ⟨hP, hD, hS⟩ hm
      · have hm := hm.2 c_2
        refine lv_lload hx hb dX0_commonDivisor_24 (lv_at hl 0 rfl) ?_
        refine lv_lload hx hb dX0_commonDivisor_26 (lv_at hl 1 rfl) ?_
        have hz_3 := hm.1
        have hm := hm.2
        refine lv_lrem hx hb dX0_commonDivisor_28 hz_3 ?_
        refine lv_topl (fun x9_4 ex9_4 => ?_)
        have hm := hm x9_4 ex9_4
        refine lv_lstore (lv' := [(9, .long x9_4), (4, .long x4), (6, .long x6), (8, .int x8)]) hx hb dX0_commonDivisor_29 hl (by decide) rfl (fun ls hl => ?_)
        refine lv_lload hx hb dX0_commonDivisor_31 (lv_at hl 2 rfl) ?_
        refine lv_lstore (lv' := [(4, .long x6), (9, .long x9_4), (6, .long x6), (8, .int x8)]) hx hb dX0_commonDivisor_33 hl (by decide) rfl (fun ls hl => ?_)
        refine lv_lload hx hb dX0_commonDivisor_35 (lv_at hl 1 rfl) ?_
        refine lv_lstore (lv' := [(6, .long x9_4), (4, .long x6), (9, .long x9_4), (8, .int x8)]) hx hb dX0_commonDivisor_37 hl (by decide) rfl (fun ls hl => ?_)
        obtain ⟨x8_5, ex8_5⟩ : ∃ y : Int32, y = x8 + (1 : Int32) := ⟨_, rfl⟩
        have hm := hm x8_5 ex8_5
        refine lv_iinc (v := x8_5) (lv' := [(8, .int x8_5), (6, .long x9_4), (4, .long x6), (9, .long x9_4)]) hx hb dX0_commonDivisor_39 hl (k := 3) rfl (by rw [ex8_5]; rfl) (by decide) rfl (fun ls hl => ?_)
        refine lv_goto (tgt := 9) hx hb dX0_commonDivisor_42 (by decide) ?_
        exact ih x6 x9_4 x8_5 H locs ls hm ⟨hP, hD, hS⟩ (lv_sub hl [2, 1, 0] rfl) hret

set_option maxHeartbeats 4000000 in
set_option maxRecDepth 100000 in
theorem k_X0_commonDivisor_0 {N : Nat} {ss : Int32} {ds : Int32} {ti : Nat → Int32} {co : Int32} {oma : Nat → Int32} {obr : Int32} {obj : Int32} {obo : Int32} {obm : Int32} {plo : Nat → Int32} {pch : Nat → Int32} {pbe : Nat → Int32} {pbl : Int32} {dnu : Nat → Int32} {dde : Nat → Int32} {dbo : Int32} {dln : Int32} {dld : Int32} {tba : Nat → Int32} {tal : Nat → Int32} {tro : Int32} {tsc : Int64} {tcl : Nat → Nat → Int64} {rma : Nat → Int32} {Q : Int64 → Prop} (C0 : cxM cX0_commonDivisor 11 (some .long) RX0 wsX0_commonDivisor p s m args meth c dC dI cy A) :
    ∀ (x0 : Int64) (x2 : Int64) (H : Heap) (locs : List Loc) (ls : Array Slot) (hm : p_X0_commonDivisor N Q x0 x2) (hSt : stC dC dI A s (wC ad cy ss ds ti co oma obr obj obo obm plo pch pbe pbl dnu dde dbo dln dld tba tal tro tsc tcl rma) H locs) (hl : lv_has ls 11 [(0, .long x0), (2, .long x2)]) (hret : ∀ (r : Int64) (H : Heap) (locs : List Loc) (ls : Array Slot) (pc : Nat), decode cX0_commonDivisor pc = .ok (.lreturn, 1) → stC dC dI A s (wC ad cy ss ds ti co oma obr obj obo obm plo pch pbe pbl dnu dde dbo dln dld tba tal tro tsc tcl rma) H locs → Q r → W p l e rmX0_commonDivisor s m args below meth c H locs 0 0 Z (F0 m pc ls [.long r])), W p l e rmX0_commonDivisor s m args below meth c H locs 0 0 Z (F0 m 0 ls []) := by
  obtain ⟨hx, hb, hml, hr, hown, hts, hlocks, hK, hA, hN⟩ := id C0
  intro x0 x2 H locs ls hm hSt hl hret
  obtain ⟨hP, hD, hS⟩ := hSt
  unfold p_X0_commonDivisor at hm
  refine lv_lload_n hx hb dX0_commonDivisor_0 rfl (lv_at hl 0 rfl) ?_
  refine lv_lstore (lv' := [(4, .long x0), (0, .long x0), (2, .long x2)]) hx hb dX0_commonDivisor_1 hl (by decide) rfl (fun ls hl => ?_)
  refine lv_lload_n hx hb dX0_commonDivisor_3 rfl (lv_at hl 2 rfl) ?_
  refine lv_lstore (lv' := [(6, .long x2), (4, .long x0), (0, .long x0), (2, .long x2)]) hx hb dX0_commonDivisor_4 hl (by decide) rfl (fun ls hl => ?_)
  refine lv_iconst (v := 0) hx hb dX0_commonDivisor_6 (by decide) ?_
  refine lv_istore (lv' := [(8, .int (0 : Int32)), (6, .long x2), (4, .long x0), (0, .long x0), (2, .long x2)]) hx hb dX0_commonDivisor_7 hl (by decide) rfl (fun ls hl => ?_)
  exact k_X0_commonDivisor_9 C0 N x0 x2 (0 : Int32) H locs ls hm ⟨hP, hD, hS⟩ (lv_sub hl [2, 1, 0] rfl) hret

set_option maxHeartbeats 4000000 in
set_option maxRecDepth 100000 in
theorem c_X0_commonDivisor (l : Launch) (dC : Nat → ClassId) (dI : Nat → Nat → Nat) (cy : Nat → ClassId) (ad : Nat → Nat) (sz : Nat) (ss : Int32) (ds : Int32) (ti : Nat → Int32) (co : Int32) (oma : Nat → Int32) (obr : Int32) (obj : Int32) (obo : Int32) (obm : Int32) (plo : Nat → Int32) (pch : Nat → Int32) (pbe : Nat → Int32) (pbl : Int32) (dnu : Nat → Int32) (dde : Nat → Int32) (dbo : Int32) (dln : Int32) (dld : Int32) (tba : Nat → Int32) (tal : Nat → Int32) (tro : Int32) (tsc : Int64) (tcl : Nat → Nat → Int64) (rma : Nat → Int32) (x0 : Int64) (x2 : Int64) (N : Nat) (Q : Int64 → Prop) (hm : p_X0_commonDivisor N Q x0 x2) : Met l yX0_commonDivisor wsX0_commonDivisor rmX0_commonDivisor (va_Pc [.long x0, .long x2] (cPre dC dI cy (wC ad cy ss ds ti co oma obr obj obo obm plo pch pbe pbl dnu dde dbo dln dld tba tal tro tsc tcl rma) sz)) (va_Ql (fun (r : Int64) (u : Unit) => Q r) (fun u t => cPost dC dI cy (wC ad cy ss ds ti co oma obr obj obo obm plo pch pbe pbl dnu dde dbo dln dld tba tal tro tsc tcl rma) sz (wC ad cy ss ds ti co oma obr obj obo obm plo pch pbe pbl dnu dde dbo dln dld tba tal tro tsc tcl rma) t) (va_A (wC ad cy ss ds ti co oma obr obj obo obm plo pch pbe pbl dnu dde dbo dln dld tba tal tro tsc tcl rma) sz)) 0 0 (va_A (wC ad cy ss ds ti co oma obr obj obo obm plo pch pbe pbl dnu dde dbo dln dld tba tal tro tsc tcl rma) sz) := by
  refine Met.ofW (cc := cX0_commonDivisor) (maxL := 11) (ret := (some .long)) (by decide) rfl ?_
  intro p e s m args below meth c s₁ B hml hv
  obtain ⟨rfl, hsz, hP, hK, hD0, hN⟩ := hv
  have hts := atoms_spec (ws := wsX0_commonDivisor) B.pre
  have hown : s.vm.findClass RX0 = some m.cls := findClass_of_methodNamed B.named
  subst hsz
  have hD := hD0.self (sz := s.heap.size)
  generalize hAe : va_A (wC ad cy ss ds ti co oma obr obj obo obm plo pch pbe pbl dnu dde dbo dln dld tba tal tro tsc tcl rma) s.heap.size = A at hD ⊢
  have hA : ∀ q : Nat, s.heap.size ≤ q → A q := fun q h => by rw [← hAe]; exact Or.inr h
  have hl := lv_entry ([.long x0, .long x2]) (n := 11) (Nat.le_of_ble_eq_true rfl)
  rw [lg_entry_eq]
  generalize (lg_sl ([.long x0, .long x2]) ++ List.replicate (11 - (lg_sl ([.long x0, .long x2])).length) Slot.unset).toArray = ls at hl ⊢
  have hl : lv_has ls 11 [(0, .long x0), (2, .long x2)] := hl
  exact k_X0_commonDivisor_0 ⟨B.exec, B.bytes, hml, B.returns, hown, hts, B.notSynchronized, hK, hA, hN⟩ x0 x2 s.heap [] ls hm ⟨hP, hD, va_S.rf⟩ (lv_sub hl [0, 1] rfl) (fun r H locs ls pc hdg hSt hq => W.lret B.exec B.bytes B.returns (fun t ht hW => ⟨⟨r, (), rfl, hq, cPost_of hAe ht hW.alike hSt hK⟩, hSt.2.2.F ht⟩) hSt.2.2.2.2 hdg B.notSynchronized)

-- ===== X0_findLeast
theorem fl_X0_findLeast_12 : Cond.fieldLink RX0 12 "UnlikeUnion$Division" "tableau" "LUnlikeUnion$Tableau;" ∈ wsX0_findLeast := by decide +kernel
theorem fl_X0_findLeast_60 : Cond.fieldLink RX0 60 "UnlikeUnion$Division" "leastNumerator" "I" ∈ wsX0_findLeast := by decide +kernel
theorem fl_X0_findLeast_63 : Cond.fieldLink RX0 63 "UnlikeUnion$Division" "leastDenominator" "I" ∈ wsX0_findLeast := by decide +kernel
theorem in_X0_findLeast_X0 : ∀ w ∈ u_ws RX0 TX0 6, w ∈ wsX0_findLeast := by decide +kernel
theorem in_X0_findLeast_X5 : ∀ w ∈ u_ws RX5 TX5 5, w ∈ wsX0_findLeast := by decide +kernel
abbrev rmX0_findLeast : Room := { frames := 4, cells := 0, slots := 0, locals := 326 }
def p_X0_findLeast (N : Nat) (ti : Nat → Int32) (co : Int32) (Q : Int32 → Int32 → (Nat → Int32) → (Nat → Int32) → Int32 → Int64 → (Nat → Nat → Int64) → Prop) (dln : Int32) (dld : Int32) (tba : Nat → Int32) (tal : Nat → Int32) (tro : Int32) (tsc : Int64) (tcl : Nat → Nat → Int64) : Prop :=
  p_X5_start N ti co (fun r_1 tba_2 tal_3 tro_4 tsc_5 tcl_6 => p_X5_lowerExcess N tal_3 tro_4 (fun r_7 tba_8 tsc_9 tcl_10 => p_X5_scaledValue N tba_8 tro_4 tcl_10 (fun r_11 => p_X0_commonDivisor N (fun r_12 => (r_12 = (0 : Int64) → ((r_12 = (0 : Int64) → (Q (0 : Int32) (1 : Int32) tba_8 tal_3 tro_4 tsc_9 tcl_10)) ∧ (¬ r_12 = (0 : Int64) → ((¬ r_12 = 0) ∧ (∀ f_21 : Int32, f_21 = (tsc_9 / r_12).toInt32 → (Q (0 : Int32) f_21 tba_8 tal_3 tro_4 tsc_9 tcl_10)))))) ∧ (¬ r_12 = (0 : Int64) → ((¬ r_12 = 0) ∧ (∀ f_15 : Int32, f_15 = (r_11 / r_12).toInt32 → ((r_12 = (0 : Int64) → (Q f_15 (1 : Int32) tba_8 tal_3 tro_4 tsc_9 tcl_10)) ∧ (¬ r_12 = (0 : Int64) → ((¬ r_12 = 0) ∧ (∀ f_18 : Int32, f_18 = (tsc_9 / r_12).toInt32 → (Q f_15 f_18 tba_8 tal_3 tro_4 tsc_9 tcl_10))))))))) r_11 tsc_9) (24 : Int32)) tba_2 tsc_5 tcl_6) (0 : Int32) (50 : Int32) tba tal tro tsc tcl

set_option maxHeartbeats 4000000 in
set_option maxRecDepth 100000 in
theorem k_X0_findLeast_0 {N : Nat} {ss : Int32} {ds : Int32} {ti : Nat → Int32} {co : Int32} {oma : Nat → Int32} {obr : Int32} {obj : Int32} {obo : Int32} {obm : Int32} {plo : Nat → Int32} {pch : Nat → Int32} {pbe : Nat → Int32} {pbl : Int32} {dnu : Nat → Int32} {dde : Nat → Int32} {dbo : Int32} {rma : Nat → Int32} {Q : Int32 → Int32 → (Nat → Int32) → (Nat → Int32) → Int32 → Int64 → (Nat → Nat → Int64) → Prop} (C0 : cxM cX0_findLeast 6 none RX0 wsX0_findLeast p s m args meth c dC dI cy A) :
    ∀ (dln : Int32) (dld : Int32) (tba : Nat → Int32) (tal : Nat → Int32) (tro : Int32) (tsc : Int64) (tcl : Nat → Nat → Int64) (H : Heap) (locs : List Loc) (ls : Array Slot) (hm : p_X0_findLeast N ti co Q dln dld tba tal tro tsc tcl) (hSt : stC dC dI A s (wC ad cy ss ds ti co oma obr obj obo obm plo pch pbe pbl dnu dde dbo dln dld tba tal tro tsc tcl rma) H locs) (hl : lv_has ls 6 [(0, .ref (ad 9)), (1, .ref (ad 1))]) (hret : ∀ (dln : Int32) (dld : Int32) (tba : Nat → Int32) (tal : Nat → Int32) (tro : Int32) (tsc : Int64) (tcl : Nat → Nat → Int64) (H : Heap) (locs : List Loc) (ls : Array Slot) (pc : Nat), decode cX0_findLeast pc = .ok (.return_, 1) → stC dC dI A s (wC ad cy ss ds ti co oma obr obj obo obm plo pch pbe pbl dnu dde dbo dln dld tba tal tro tsc tcl rma) H locs → Q dln dld tba tal tro tsc tcl → W p l e rmX0_findLeast s m args below meth c H locs 0 0 Z (F0 m pc ls [])), W p l e rmX0_findLeast s m args below meth c H locs 0 0 Z (F0 m 0 ls []) := by
  obtain ⟨hx, hb, hml, hr, hown, hts, hlocks, hK, hA, hN⟩ := id C0
  intro dln dld tba tal tro tsc tcl H locs ls hm hSt hl hret
  obtain ⟨hP, hD, hS⟩ := hSt
  unfold p_X0_findLeast at hm
  refine lv_aload_n hx hb dX0_findLeast_0 rfl (lv_at hl 0 rfl) ?_
  refine va_get (D := (dC, dI)) (ci := 0) (v := .ref (ad 12)) (C := RX0) (T := TX0) (N := 6) hx hb hts in_X0_findLeast_X0 hown hK hP 9 rfl rfl 0 (by decide) (hts _ fl_X0_findLeast_12) (fun _ h9 => h9) rfl dX0_findLeast_1 ?_
  refine lv_aload_n hx hb dX0_findLeast_4 rfl (lv_at hl 1 rfl) ?_
  refine lv_iconst (v := 0) hx hb dX0_findLeast_5 (by decide) ?_
  refine lv_bipush (v := 50) hx hb dX0_findLeast_6 (by decide) ?_
  have hFc := va_freeSame hD hS hA
  refine va_calli (va_runV (As := [.ref (ad 1), .int (0 : Int32), .int (50 : Int32)]) (rest := []) ⟨hx, hb, hml, hown, hts⟩ (c_X5_start l dC dI cy ad H.size ss ds ti co oma obr obj obo obm plo pch pbe pbl dnu dde dbo dln dld tba tal tro tsc tcl rma (0 : Int32) (50 : Int32) _ _ hm) (cwV 3 hts gX0_findLeast_X5_start rfl rfl rfl (by decide +kernel) ⟨Nat.le_of_ble_eq_true rfl, Nat.le_of_ble_eq_true rfl⟩) ⟨cPre_blind, va_recv hK hP (ci := 5) (q0 := 12) rfl rfl, fun U hU hW => ⟨rfl, cPre_at hP hK hD hN hU hW⟩⟩ rfl rfl hl.1 rfl (lv_room (Nat.le_of_ble_eq_true rfl)) dX0_findLeast_8 ⟨Nat.zero_le _, Nat.zero_le _⟩) hS (fun q _ h => hFc q h) hFc (fun r_1 u t H locs ht hvm hw hB hz1 hk1 hS => ?_)
  obtain ⟨tba_2, tal_3, tro_4, tsc_5, tcl_6⟩ := u
  try dsimp only at hw
  obtain ⟨hm, nar_r_1⟩ := hw
  have hP : va_P (dC, dI) vwCl (wC ad cy ss ds ti co oma obr obj obo obm plo pch pbe pbl dnu dde dbo dln dld tba_2 tal_3 tro_4 tsc_5 tcl_6 rma) H := cPost_P ht hB
  have hD : va_D A (wC ad cy ss ds ti co oma obr obj obo obm plo pch pbe pbl dnu dde dbo dln dld tba_2 tal_3 tro_4 tsc_5 tcl_6 rma) := cPost_D hFc hB
  refine lv_pop hx hb dX0_findLeast_11 rfl ?_
  refine lv_aload_n hx hb dX0_findLeast_12 rfl (lv_at hl 0 rfl) ?_
  refine va_get (D := (dC, dI)) (ci := 0) (v := .ref (ad 12)) (C := RX0) (T := TX0) (N := 6) hx hb hts in_X0_findLeast_X0 hown hK hP 9 rfl rfl 0 (by decide) (hts _ fl_X0_findLeast_12) (fun _ h9 => h9) rfl dX0_findLeast_13 ?_
  have hFc := va_freeSame hD hS hA
  refine va_calli (va_runV (As := []) (rest := []) ⟨hx, hb, hml, hown, hts⟩ (c_X5_lowerExcess l dC dI cy ad H.size ss ds ti co oma obr obj obo obm plo pch pbe pbl dnu dde dbo dln dld tba_2 tal_3 tro_4 tsc_5 tcl_6 rma  _ _ hm) (cwV 0 hts gX0_findLeast_X5_lowerExcess rfl rfl rfl (by decide +kernel) ⟨Nat.le_of_ble_eq_true rfl, Nat.le_of_ble_eq_true rfl⟩) ⟨cPre_blind, va_recv hK hP (ci := 5) (q0 := 12) rfl rfl, fun U hU hW => ⟨rfl, cPre_at hP hK hD hN hU hW⟩⟩ rfl rfl hl.1 rfl (lv_room (Nat.le_of_ble_eq_true rfl)) dX0_findLeast_16 ⟨Nat.zero_le _, Nat.zero_le _⟩) hS (fun q _ h => hFc q h) hFc (fun r_7 u t H locs ht hvm hw hB hz1 hk1 hS => ?_)
  obtain ⟨tba_8, tsc_9, tcl_10⟩ := u
  try dsimp only at hw
  obtain ⟨hm, nar_r_7⟩ := hw
  have hP : va_P (dC, dI) vwCl (wC ad cy ss ds ti co oma obr obj obo obm plo pch pbe pbl dnu dde dbo dln dld tba_8 tal_3 tro_4 tsc_9 tcl_10 rma) H := cPost_P ht hB
  have hD : va_D A (wC ad cy ss ds ti co oma obr obj obo obm plo pch pbe pbl dnu dde dbo dln dld tba_8 tal_3 tro_4 tsc_9 tcl_10 rma) := cPost_D hFc hB
  refine lv_pop hx hb dX0_findLeast_19 rfl ?_
  refine lv_aload_n hx hb dX0_findLeast_20 rfl (lv_at hl 0 rfl) ?_
  refine va_get (D := (dC, dI)) (ci := 0) (v := .ref (ad 12)) (C := RX0) (T := TX0) (N := 6) hx hb hts in_X0_findLeast_X0 hown hK hP 9 rfl rfl 0 (by decide) (hts _ fl_X0_findLeast_12) (fun _ h9 => h9) rfl dX0_findLeast_21 ?_
  refine lv_bipush (v := 24) hx hb dX0_findLeast_24 (by decide) ?_
  have hFc := va_freeSame hD hS hA
  refine va_calll (va_runV (As := [.int (24 : Int32)]) (rest := []) ⟨hx, hb, hml, hown, hts⟩ (c_X5_scaledValue l dC dI cy ad H.size ss ds ti co oma obr obj obo obm plo pch pbe pbl dnu dde dbo dln dld tba_8 tal_3 tro_4 tsc_9 tcl_10 rma (24 : Int32) _ _ hm) (cwV 1 hts gX0_findLeast_X5_scaledValue rfl rfl rfl (by decide +kernel) ⟨Nat.le_of_ble_eq_true rfl, Nat.le_of_ble_eq_true rfl⟩) ⟨cPre_blind, va_recv hK hP (ci := 5) (q0 := 12) rfl rfl, fun U hU hW => ⟨rfl, cPre_at hP hK hD hN hU hW⟩⟩ rfl rfl hl.1 rfl (lv_room (Nat.le_of_ble_eq_true rfl)) dX0_findLeast_26 ⟨Nat.zero_le _, Nat.zero_le _⟩) hS (fun q _ h => hFc q h) hFc (fun r_11 u t H locs ht hvm hw hB hz1 hk1 hS => ?_)
  try dsimp only at hw
  have hm := hw
  have hP : va_P (dC, dI) vwCl (wC ad cy ss ds ti co oma obr obj obo obm plo pch pbe pbl dnu dde dbo dln dld tba_8 tal_3 tro_4 tsc_9 tcl_10 rma) H := cPost_P ht hB
  have hD : va_D A (wC ad cy ss ds ti co oma obr obj obo obm plo pch pbe pbl dnu dde dbo dln dld tba_8 tal_3 tro_4 tsc_9 tcl_10 rma) := cPost_D hFc hB
  refine lv_lstore_n (lv' := [(2, .long r_11), (0, .ref (ad 9)), (1, .ref (ad 1))]) hx hb dX0_findLeast_29 rfl hl (by decide) rfl (fun ls hl => ?_)
  refine lv_lload_n hx hb dX0_findLeast_30 rfl (lv_at hl 0 rfl) ?_
  refine lv_aload_n hx hb dX0_findLeast_31 rfl (lv_at hl 1 rfl) ?_
  refine va_get (D := (dC, dI)) (ci := 0) (v := .ref (ad 12)) (C := RX0) (T := TX0) (N := 6) hx hb hts in_X0_findLeast_X0 hown hK hP 9 rfl rfl 0 (by decide) (hts _ fl_X0_findLeast_12) (fun _ h9 => h9) rfl dX0_findLeast_32 ?_
  refine va_getN (D := (dC, dI)) (ci := 5) (v := .long tsc_9) (C := RX5) (T := TX5) (N := 5) hx hb hts in_X0_findLeast_X5 hown hK hP 12 rfl rfl 4 (by decide) (va_Nw.use rfl (nw_X0_52 hN)) (fun _ h9 => h9) rfl dX0_findLeast_35 ?_
  have hFc := va_freeSame hD hS hA
  refine va_calll (va_runS (As := [.long r_11, .long tsc_9]) (rest := []) ⟨hx, hb, hml, hown, hts⟩ (c_X0_commonDivisor l dC dI cy ad H.size ss ds ti co oma obr obj obo obm plo pch pbe pbl dnu dde dbo dln dld tba_8 tal_3 tro_4 tsc_9 tcl_10 rma r_11 tsc_9 _ _ hm) (cwS 2 hts gX0_findLeast_X0_commonDivisor rfl rfl rfl (by decide +kernel) ⟨Nat.le_of_ble_eq_true rfl, Nat.le_of_ble_eq_true rfl⟩) ⟨cPre_blind, fun U hU hW => ⟨rfl, cPre_at hP hK hD hN hU hW⟩⟩ rfl rfl hl.1 rfl (lv_room (Nat.le_of_ble_eq_true rfl)) dX0_findLeast_38 ⟨Nat.zero_le _, Nat.zero_le _⟩) hS (fun q _ h => hFc q h) hFc (fun r_12 u t H locs ht hvm hw hB hz1 hk1 hS => ?_)
  try dsimp only at hw
  have hm := hw
  have hP : va_P (dC, dI) vwCl (wC ad cy ss ds ti co oma obr obj obo obm plo pch pbe pbl dnu dde dbo dln dld tba_8 tal_3 tro_4 tsc_9 tcl_10 rma) H := cPost_P ht hB
  have hD : va_D A (wC ad cy ss ds ti co oma obr obj obo obm plo pch pbe pbl dnu dde dbo dln dld tba_8 tal_3 tro_4 tsc_9 tcl_10 rma) := cPost_D hFc hB
  refine lv_lstore (lv' := [(4, .long r_12), (2, .long r_11), (0, .ref (ad 9)), (1, .ref (ad 1))]) hx hb dX0_findLeast_41 hl (by decide) rfl (fun ls hl => ?_)
  refine lv_aload_n hx hb dX0_findLeast_43 rfl (lv_at hl 2 rfl) ?_
  refine lv_lload hx hb dX0_findLeast_44 (lv_at hl 0 rfl) ?_
  refine lv_lconst (v := 0) hx hb dX0_findLeast_46 (by decide) ?_
  refine lq_ne (tgt := 55) hx hb dX0_findLeast_47 dX0_findLeast_48 (by decide) (fun c_13 => ?_) (fun c_13 => ?_)
  · have hm := hm.2 c_13
    refine lv_lload_n hx hb dX0_findLeast_55 rfl (lv_at hl 1 rfl) ?_
    refine lv_lload hx hb dX0_findLeast_56 (lv_at hl 0 rfl) ?_
    have hz_14 := hm.1
    have hm := hm.2
    refine lv_ldiv hx hb dX0_findLeast_58 hz_14 ?_
    refine lv_l2i (v := (r_11 / r_12).toInt32) hx hb dX0_findLeast_59 rfl ?_
    refine lv_topi (fun f_15 ef_15 => ?_)
    have hm := hm f_15 ef_15
    refine va_put (D := (dC, dI)) (ci := 0) (v := .int f_15) (ty := .int) (C := RX0) (T := TX0) (N := 6) hx hb hts in_X0_findLeast_X0 tyX0 tyX0_ok nmX0 hown hK hP hD hS 9 rfl rfl 4 (by decide) (hts _ fl_X0_findLeast_60) (fun _ h9 => h9) rfl (by decide +kernel) rfl rfl (Nat.le_of_ble_eq_true rfl) dX0_findLeast_60 (fun H locs hP hD hS => ?_)
    have hP : va_P (dC, dI) vwCl (wC ad cy ss ds ti co oma obr obj obo obm plo pch pbe pbl dnu dde dbo f_15 dld tba_8 tal_3 tro_4 tsc_9 tcl_10 rma) H := hP
    have hD : va_D A (wC ad cy ss ds ti co oma obr obj obo obm plo pch pbe pbl dnu dde dbo f_15 dld tba_8 tal_3 tro_4 tsc_9 tcl_10 rma) := hD
    refine lv_aload_n hx hb dX0_findLeast_63 rfl (lv_at hl 2 rfl) ?_
    refine lv_lload hx hb dX0_findLeast_64 (lv_at hl 0 rfl) ?_
    refine lv_lconst (v := 0) hx hb dX0_findLeast_66 (by decide) ?_
    refine lq_ne (tgt := 75) hx hb dX0_findLeast_67 dX0_findLeast_68 (by decide) (fun c_16 => ?_) (fun c_16 => ?_)
    · have hm := hm.2 c_16
      refine lv_aload_n hx hb dX0_findLeast_75 rfl (lv_at hl 2 rfl) ?_
      refine va_get (D := (dC, dI)) (ci := 0) (v := .ref (ad 12)) (C := RX0) (T := TX0) (N := 6) hx hb hts in_X0_findLeast_X0 hown hK hP 9 rfl rfl 0 (by decide) (hts _ fl_X0_findLeast_12) (fun _ h9 => h9) rfl dX0_findLeast_76 ?_
      refine va_getN (D := (dC, dI)) (ci := 5) (v := .long tsc_9) (C := RX5) (T := TX5) (N := 5) hx hb hts in_X0_findLeast_X5 hown hK hP 12 rfl rfl 4 (by decide) (va_Nw.use rfl (nw_X0_52 hN)) (fun _ h9 => h9) rfl dX0_findLeast_79 ?_
      refine lv_lload hx hb dX0_findLeast_82 (lv_at hl 0 rfl) ?_
      have hz_17 := hm.1
      have hm := hm.2
      refine lv_ldiv hx hb dX0_findLeast_84 hz_17 ?_
      refine lv_l2i (v := (tsc_9 / r_12).toInt32) hx hb dX0_findLeast_85 rfl ?_
      refine lv_topi (fun f_18 ef_18 => ?_)
      have hm := hm f_18 ef_18
      refine va_put (D := (dC, dI)) (ci := 0) (v := .int f_18) (ty := .int) (C := RX0) (T := TX0) (N := 6) hx hb hts in_X0_findLeast_X0 tyX0 tyX0_ok nmX0 hown hK hP hD hS 9 rfl rfl 5 (by decide) (hts _ fl_X0_findLeast_63) (fun _ h9 => h9) rfl (by decide +kernel) rfl rfl (Nat.le_of_ble_eq_true rfl) dX0_findLeast_86 (fun H locs hP hD hS => ?_)
      have hP : va_P (dC, dI) vwCl (wC ad cy ss ds ti co oma obr obj obo obm plo pch pbe pbl dnu dde dbo f_15 f_18 tba_8 tal_3 tro_4 tsc_9 tcl_10 rma) H := hP
      have hD : va_D A (wC ad cy ss ds ti co oma obr obj obo obm plo pch pbe pbl dnu dde dbo f_15 f_18 tba_8 tal_3 tro_4 tsc_9 tcl_10 rma) := hD
      exact hret f_15 f_18 tba_8 tal_3 tro_4 tsc_9 tcl_10 H locs ls 89 dX0_findLeast_89 ⟨hP, hD, hS⟩ hm
    · have hm := hm.1 c_16
      refine lv_iconst (v := 1) hx hb dX0_findLeast_71 (by decide) ?_
      refine lv_goto (tgt := 86) hx hb dX0_findLeast_72 (by decide) ?_
      refine va_put (D := (dC, dI)) (ci := 0) (v := .int (1 : Int32)) (ty := .int) (C := RX0) (T := TX0) (N := 6) hx hb hts in_X0_findLeast_X0 tyX0 tyX0_ok nmX0 hown hK hP hD hS 9 rfl rfl 5 (by decide) (hts _ fl_X0_findLeast_63) (fun _ h9 => h9) rfl (by decide +kernel) rfl rfl (Nat.le_of_ble_eq_true rfl) dX0_findLeast_86 (fun H locs hP hD hS => ?_)
      have hP : va_P (dC, dI) vwCl (wC ad cy ss ds ti co oma obr obj obo obm plo pch pbe pbl dnu dde dbo f_15 (1 : Int32) tba_8 tal_3 tro_4 tsc_9 tcl_10 rma) H := hP
      have hD : va_D A (wC ad cy ss ds ti co oma obr obj obo obm plo pch pbe pbl dnu dde dbo f_15 (1 : Int32) tba_8 tal_3 tro_4 tsc_9 tcl_10 rma) := hD
      exact hret f_15 (1 : Int32) tba_8 tal_3 tro_4 tsc_9 tcl_10 H locs ls 89 dX0_findLeast_89 ⟨hP, hD, hS⟩ hm
  · have hm := hm.1 c_13
    refine lv_iconst (v := 0) hx hb dX0_findLeast_51 (by decide) ?_
    refine lv_goto (tgt := 60) hx hb dX0_findLeast_52 (by decide) ?_
    refine va_put (D := (dC, dI)) (ci := 0) (v := .int (0 : Int32)) (ty := .int) (C := RX0) (T := TX0) (N := 6) hx hb hts in_X0_findLeast_X0 tyX0 tyX0_ok nmX0 hown hK hP hD hS 9 rfl rfl 4 (by decide) (hts _ fl_X0_findLeast_60) (fun _ h9 => h9) rfl (by decide +kernel) rfl rfl (Nat.le_of_ble_eq_true rfl) dX0_findLeast_60 (fun H locs hP hD hS => ?_)
    have hP : va_P (dC, dI) vwCl (wC ad cy ss ds ti co oma obr obj obo obm plo pch pbe pbl dnu dde dbo (0 : Int32) dld tba_8 tal_3 tro_4 tsc_9 tcl_10 rma) H := hP
    have hD : va_D A (wC ad cy ss ds ti co oma obr obj obo obm plo pch pbe pbl dnu dde dbo (0 : Int32) dld tba_8 tal_3 tro_4 tsc_9 tcl_10 rma) := hD
    refine lv_aload_n hx hb dX0_findLeast_63 rfl (lv_at hl 2 rfl) ?_
    refine lv_lload hx hb dX0_findLeast_64 (lv_at hl 0 rfl) ?_
    refine lv_lconst (v := 0) hx hb dX0_findLeast_66 (by decide) ?_
    refine lq_ne (tgt := 75) hx hb dX0_findLeast_67 dX0_findLeast_68 (by decide) (fun c_19 => ?_) (fun c_19 => ?_)
    · have hm := hm.2 c_19
      refine lv_aload_n hx hb dX0_findLeast_75 rfl (lv_at hl 2 rfl) ?_
      refine va_get (D := (dC, dI)) (ci := 0) (v := .ref (ad 12)) (C := RX0) (T := TX0) (N := 6) hx hb hts in_X0_findLeast_X0 hown hK hP 9 rfl rfl 0 (by decide) (hts _ fl_X0_findLeast_12) (fun _ h9 => h9) rfl dX0_findLeast_76 ?_
      refine va_getN (D := (dC, dI)) (ci := 5) (v := .long tsc_9) (C := RX5) (T := TX5) (N := 5) hx hb hts in_X0_findLeast_X5 hown hK hP 12 rfl rfl 4 (by decide) (va_Nw.use rfl (nw_X0_52 hN)) (fun _ h9 => h9) rfl dX0_findLeast_79 ?_
      refine lv_lload hx hb dX0_findLeast_82 (lv_at hl 0 rfl) ?_
      have hz_20 := hm.1
      have hm := hm.2
      refine lv_ldiv hx hb dX0_findLeast_84 hz_20 ?_
      refine lv_l2i (v := (tsc_9 / r_12).toInt32) hx hb dX0_findLeast_85 rfl ?_
      refine lv_topi (fun f_21 ef_21 => ?_)
      have hm := hm f_21 ef_21
      refine va_put (D := (dC, dI)) (ci := 0) (v := .int f_21) (ty := .int) (C := RX0) (T := TX0) (N := 6) hx hb hts in_X0_findLeast_X0 tyX0 tyX0_ok nmX0 hown hK hP hD hS 9 rfl rfl 5 (by decide) (hts _ fl_X0_findLeast_63) (fun _ h9 => h9) rfl (by decide +kernel) rfl rfl (Nat.le_of_ble_eq_true rfl) dX0_findLeast_86 (fun H locs hP hD hS => ?_)
      have hP : va_P (dC, dI) vwCl (wC ad cy ss ds ti co oma obr obj obo obm plo pch pbe pbl dnu dde dbo (0 : Int32) f_21 tba_8 tal_3 tro_4 tsc_9 tcl_10 rma) H := hP
      have hD : va_D A (wC ad cy ss ds ti co oma obr obj obo obm plo pch pbe pbl dnu dde dbo (0 : Int32) f_21 tba_8 tal_3 tro_4 tsc_9 tcl_10 rma) := hD
      exact hret (0 : Int32) f_21 tba_8 tal_3 tro_4 tsc_9 tcl_10 H locs ls 89 dX0_findLeast_89 ⟨hP, hD, hS⟩ hm
    · have hm := hm.1 c_19
      refine lv_iconst (v := 1) hx hb dX0_findLeast_71 (by decide) ?_
      refine lv_goto (tgt := 86) hx hb dX0_findLeast_72 (by decide) ?_
      refine va_put (D := (dC, dI)) (ci := 0) (v := .int (1 : Int32)) (ty := .int) (C := RX0) (T := TX0) (N := 6) hx hb hts in_X0_findLeast_X0 tyX0 tyX0_ok nmX0 hown hK hP hD hS 9 rfl rfl 5 (by decide) (hts _ fl_X0_findLeast_63) (fun _ h9 => h9) rfl (by decide +kernel) rfl rfl (Nat.le_of_ble_eq_true rfl) dX0_findLeast_86 (fun H locs hP hD hS => ?_)
      have hP : va_P (dC, dI) vwCl (wC ad cy ss ds ti co oma obr obj obo obm plo pch pbe pbl dnu dde dbo (0 : Int32) (1 : Int32) tba_8 tal_3 tro_4 tsc_9 tcl_10 rma) H := hP
      have hD : va_D A (wC ad cy ss ds ti co oma obr obj obo obm plo pch pbe pbl dnu dde dbo (0 : Int32) (1 : Int32) tba_8 tal_3 tro_4 tsc_9 tcl_10 rma) := hD
      exact hret (0 : Int32) (1 : Int32) tba_8 tal_3 tro_4 tsc_9 tcl_10 H locs ls 89 dX0_findLeast_89 ⟨hP, hD, hS⟩ hm

set_option maxHeartbeats 4000000 in
set_option maxRecDepth 100000 in
theorem c_X0_findLeast (l : Launch) (dC : Nat → ClassId) (dI : Nat → Nat → Nat) (cy : Nat → ClassId) (ad : Nat → Nat) (sz : Nat) (ss : Int32) (ds : Int32) (ti : Nat → Int32) (co : Int32) (oma : Nat → Int32) (obr : Int32) (obj : Int32) (obo : Int32) (obm : Int32) (plo : Nat → Int32) (pch : Nat → Int32) (pbe : Nat → Int32) (pbl : Int32) (dnu : Nat → Int32) (dde : Nat → Int32) (dbo : Int32) (dln : Int32) (dld : Int32) (tba : Nat → Int32) (tal : Nat → Int32) (tro : Int32) (tsc : Int64) (tcl : Nat → Nat → Int64) (rma : Nat → Int32)  (N : Nat) (Q : Int32 → Int32 → (Nat → Int32) → (Nat → Int32) → Int32 → Int64 → (Nat → Nat → Int64) → Prop) (hm : p_X0_findLeast N ti co Q dln dld tba tal tro tsc tcl) : Met l yX0_findLeast wsX0_findLeast rmX0_findLeast (va_Pc [.ref (ad 9), .ref (ad 1)] (cPre dC dI cy (wC ad cy ss ds ti co oma obr obj obo obm plo pch pbe pbl dnu dde dbo dln dld tba tal tro tsc tcl rma) sz)) (va_Qv (fun (u : Int32 × Int32 × (Nat → Int32) × (Nat → Int32) × Int32 × Int64 × (Nat → Nat → Int64)) => Q u.1 u.2.1 u.2.2.1 u.2.2.2.1 u.2.2.2.2.1 u.2.2.2.2.2.1 u.2.2.2.2.2.2) (fun u t => cPost dC dI cy (wC ad cy ss ds ti co oma obr obj obo obm plo pch pbe pbl dnu dde dbo dln dld tba tal tro tsc tcl rma) sz (wC ad cy ss ds ti co oma obr obj obo obm plo pch pbe pbl dnu dde dbo (u.1) (u.2.1) (u.2.2.1) (u.2.2.2.1) (u.2.2.2.2.1) (u.2.2.2.2.2.1) (u.2.2.2.2.2.2) rma) t) (va_A (wC ad cy ss ds ti co oma obr obj obo obm plo pch pbe pbl dnu dde dbo dln dld tba tal tro tsc tcl rma) sz)) 0 0 (va_A (wC ad cy ss ds ti co oma obr obj obo obm plo pch pbe pbl dnu dde dbo dln dld tba tal tro tsc tcl rma) sz) := by
  refine Met.ofW (cc := cX0_findLeast) (maxL := 6) (ret := none) (by decide) rfl ?_
  intro p e s m args below meth c s₁ B hml hv
  obtain ⟨rfl, hsz, hP, hK, hD0, hN⟩ := hv
  have hts := atoms_spec (ws := wsX0_findLeast) B.pre
  have hown : s.vm.findClass RX0 = some m.cls := findClass_of_methodNamed B.named
  subst hsz
  have hD := hD0.self (sz := s.heap.size)
  generalize hAe : va_A (wC ad cy ss ds ti co oma obr obj obo obm plo pch pbe pbl dnu dde dbo dln dld tba tal tro tsc tcl rma) s.heap.size = A at hD ⊢
  have hA : ∀ q : Nat, s.heap.size ≤ q → A q := fun q h => by rw [← hAe]; exact Or.inr h
  have hl := lv_entry ([.ref (ad 9), .ref (ad 1)]) (n := 6) (Nat.le_of_ble_eq_true rfl)
  rw [lg_entry_eq]
  generalize (lg_sl ([.ref (ad 9), .ref (ad 1)]) ++ List.replicate (6 - (lg_sl ([.ref (ad 9), .ref (ad 1)])).length) Slot.unset).toArray = ls at hl ⊢
  have hl : lv_has ls 6 [(0, .ref (ad 9)), (1, .ref (ad 1))] := hl
  exact k_X0_findLeast_0 ⟨B.exec, B.bytes, hml, B.returns, hown, hts, B.notSynchronized, hK, hA, hN⟩ dln dld tba tal tro tsc tcl s.heap [] ls hm ⟨hP, hD, va_S.rf⟩ (lv_sub hl [0, 1] rfl) (fun dln dld tba tal tro tsc tcl H locs ls pc hdg hSt hq => W.vret B.exec B.bytes B.returns (fun t ht hW => ⟨⟨(dln, dld, tba, tal, tro, tsc, tcl), rfl, hq, cPost_of hAe ht hW.alike hSt hK⟩, hSt.2.2.F ht⟩) hSt.2.2.2.2 hdg B.notSynchronized)

-- ===== X0_canKeep
theorem fl_X0_canKeep_12 : Cond.fieldLink RX0 12 "UnlikeUnion$Division" "tableau" "LUnlikeUnion$Tableau;" ∈ wsX0_canKeep := by decide +kernel
theorem in_X0_canKeep_X0 : ∀ w ∈ u_ws RX0 TX0 6, w ∈ wsX0_canKeep := by decide +kernel
abbrev rmX0_canKeep : Room := { frames := 4, cells := 0, slots := 0, locals := 326 }
def p_X0_canKeep (N : Nat) (ti : Nat → Int32) (co : Int32) (Q : Int32 → (Nat → Int32) → (Nat → Int32) → Int32 → Int64 → (Nat → Nat → Int64) → Prop) (x2 : Int32) (tba : Nat → Int32) (tal : Nat → Int32) (tro : Int32) (tsc : Int64) (tcl : Nat → Nat → Int64) : Prop :=
  p_X5_start N ti co (fun r_1 tba_2 tal_3 tro_4 tsc_5 tcl_6 => (r_1 = 0 → (Q (0 : Int32) tba_2 tal_3 tro_4 tsc_5 tcl_6)) ∧ (¬ r_1 = 0 → (p_X5_lowerExcess N tal_3 tro_4 (fun r_8 tba_9 tsc_10 tcl_11 => (r_8 = 0 → (Q (0 : Int32) tba_9 tal_3 tro_4 tsc_10 tcl_11)) ∧ (¬ r_8 = 0 → (Q (1 : Int32) tba_9 tal_3 tro_4 tsc_10 tcl_11))) tba_2 tsc_5 tcl_6))) x2 x2 tba tal tro tsc tcl

set_option maxHeartbeats 4000000 in
set_option maxRecDepth 100000 in
theorem k_X0_canKeep_0 {N : Nat} {ss : Int32} {ds : Int32} {ti : Nat → Int32} {co : Int32} {oma : Nat → Int32} {obr : Int32} {obj : Int32} {obo : Int32} {obm : Int32} {plo : Nat → Int32} {pch : Nat → Int32} {pbe : Nat → Int32} {pbl : Int32} {dnu : Nat → Int32} {dde : Nat → Int32} {dbo : Int32} {dln : Int32} {dld : Int32} {rma : Nat → Int32} {Q : Int32 → (Nat → Int32) → (Nat → Int32) → Int32 → Int64 → (Nat → Nat → Int64) → Prop} (C0 : cxM cX0_canKeep 3 (some .boolean) RX0 wsX0_canKeep p s m args meth c dC dI cy A) :
    ∀ (x2 : Int32) (tba : Nat → Int32) (tal : Nat → Int32) (tro : Int32) (tsc : Int64) (tcl : Nat → Nat → Int64) (H : Heap) (locs : List Loc) (ls : Array Slot) (hm : p_X0_canKeep N ti co Q x2 tba tal tro tsc tcl) (hSt : stC dC dI A s (wC ad cy ss ds ti co oma obr obj obo obm plo pch pbe pbl dnu dde dbo dln dld tba tal tro tsc tcl rma) H locs) (hl : lv_has ls 3 [(0, .ref (ad 9)), (1, .ref (ad 1)), (2, .int x2)]) (hret : ∀ (r : Int32) (tba : Nat → Int32) (tal : Nat → Int32) (tro : Int32) (tsc : Int64) (tcl : Nat → Nat → Int64) (H : Heap) (locs : List Loc) (ls : Array Slot) (pc : Nat), decode cX0_canKeep pc = .ok (.ireturn, 1) → narrow .boolean (.int r) = .int r → stC dC dI A s (wC ad cy ss ds ti co oma obr obj obo obm plo pch pbe pbl dnu dde dbo dln dld tba tal tro tsc tcl rma) H locs → Q r tba tal tro tsc tcl → W p l e rmX0_canKeep s m args below meth c H locs 0 0 Z (F0 m pc ls [.int r])), W p l e rmX0_canKeep s m args below meth c H locs 0 0 Z (F0 m 0 ls []) := by
  obtain ⟨hx, hb, hml, hr, hown, hts, hlocks, hK, hA, hN⟩ := id C0
  intro x2 tba tal tro tsc tcl H locs ls hm hSt hl hret
  obtain ⟨hP, hD, hS⟩ := hSt
  unfold p_X0_canKeep at hm
  refine lv_aload_n hx hb dX0_canKeep_0 rfl (lv_at hl 0 rfl) ?_
  refine va_get (D := (dC, dI)) (ci := 0) (v := .ref (ad 12)) (C := RX0) (T := TX0) (N := 6) hx hb hts in_X0_canKeep_X0 hown hK hP 9 rfl rfl 0 (by decide) (hts _ fl_X0_canKeep_12) (fun _ h9 => h9) rfl dX0_canKeep_1 ?_
  refine lv_aload_n hx hb dX0_canKeep_4 rfl (lv_at hl 1 rfl) ?_
  refine lv_iload_n hx hb dX0_canKeep_5 rfl (lv_at hl 2 rfl) ?_
  refine lv_iload_n hx hb dX0_canKeep_6 rfl (lv_at hl 2 rfl) ?_
  have hFc := va_freeSame hD hS hA
  refine va_calli (va_runV (As := [.ref (ad 1), .int x2, .int x2]) (rest := []) ⟨hx, hb, hml, hown, hts⟩ (c_X5_start l dC dI cy ad H.size ss ds ti co oma obr obj obo obm plo pch pbe pbl dnu dde dbo dln dld tba tal tro tsc tcl rma x2 x2 _ _ hm) (cwV 3 hts gX0_canKeep_X5_start rfl rfl rfl (by decide +kernel) ⟨Nat.le_of_ble_eq_true rfl, Nat.le_of_ble_eq_true rfl⟩) ⟨cPre_blind, va_recv hK hP (ci := 5) (q0 := 12) rfl rfl, fun U hU hW => ⟨rfl, cPre_at hP hK hD hN hU hW⟩⟩ rfl rfl hl.1 rfl (lv_room (Nat.le_of_ble_eq_true rfl)) dX0_canKeep_7 ⟨Nat.zero_le _, Nat.zero_le _⟩) hS (fun q _ h => hFc q h) hFc (fun r_1 u t H locs ht hvm hw hB hz1 hk1 hS => ?_)
  obtain ⟨tba_2, tal_3, tro_4, tsc_5, tcl_6⟩ := u
  try dsimp only at hw
  obtain ⟨hm, nar_r_1⟩ := hw
  have hP : va_P (dC, dI) vwCl (wC ad cy ss ds ti co oma obr obj obo obm plo pch pbe pbl dnu dde dbo dln dld tba_2 tal_3 tro_4 tsc_5 tcl_6 rma) H := cPost_P ht hB
  have hD : va_D A (wC ad cy ss ds ti co oma obr obj obo obm plo pch pbe pbl dnu dde dbo dln dld tba_2 tal_3 tro_4 tsc_5 tcl_6 rma) := cPost_D hFc hB
  refine lv_if_eq (tgt := 27) hx hb dX0_canKeep_10 (by decide) (fun c_7 => ?_) (fun c_7 => ?_)
  · have hm := hm.1 c_7
    refine lv_iconst (v := 0) hx hb dX0_canKeep_27 (by decide) ?_
    exact hret (0 : Int32) tba_2 tal_3 tro_4 tsc_5 tcl_6 H locs ls 28 dX0_canKeep_28 rfl ⟨hP, hD, hS⟩ hm
  · have hm := hm.2 c_7
    refine lv_aload_n hx hb dX0_canKeep_13 rfl (lv_at hl 0 rfl) ?_
    refine va_get (D := (dC, dI)) (ci := 0) (v := .ref (ad 12)) (C := RX0) (T := TX0) (N := 6) hx hb hts in_X0_canKeep_X0 hown hK hP 9 rfl rfl 0 (by decide) (hts _ fl_X0_canKeep_12) (fun _ h9 => h9) rfl dX0_canKeep_14 ?_
    have hFc := va_freeSame hD hS hA
    refine va_calli (va_runV (As := []) (rest := []) ⟨hx, hb, hml, hown, hts⟩ (c_X5_lowerExcess l dC dI cy ad H.size ss ds ti co oma obr obj obo obm plo pch pbe pbl dnu dde dbo dln dld tba_2 tal_3 tro_4 tsc_5 tcl_6 rma  _ _ hm) (cwV 0 hts gX0_canKeep_X5_lowerExcess rfl rfl rfl (by decide +kernel) ⟨Nat.le_of_ble_eq_true rfl, Nat.le_of_ble_eq_true rfl⟩) ⟨cPre_blind, va_recv hK hP (ci := 5) (q0 := 12) rfl rfl, fun U hU hW => ⟨rfl, cPre_at hP hK hD hN hU hW⟩⟩ rfl rfl hl.1 rfl (lv_room (Nat.le_of_ble_eq_true rfl)) dX0_canKeep_17 ⟨Nat.zero_le _, Nat.zero_le _⟩) hS (fun q _ h => hFc q h) hFc (fun r_8 u t H locs ht hvm hw hB hz1 hk1 hS => ?_)
    obtain ⟨tba_9, tsc_10, tcl_11⟩ := u
    try dsimp only at hw
    obtain ⟨hm, nar_r_8⟩ := hw
    have hP : va_P (dC, dI) vwCl (wC ad cy ss ds ti co oma obr obj obo obm plo pch pbe pbl dnu dde dbo dln dld tba_9 tal_3 tro_4 tsc_10 tcl_11 rma) H := cPost_P ht hB
    have hD : va_D A (wC ad cy ss ds ti co oma obr obj obo obm plo pch pbe pbl dnu dde dbo dln dld tba_9 tal_3 tro_4 tsc_10 tcl_11 rma) := cPost_D hFc hB
    refine lv_if_eq (tgt := 27) hx hb dX0_canKeep_20 (by decide) (fun c_12 => ?_) (fun c_12 => ?_)
    · have hm := hm.1 c_12
      refine lv_iconst (v := 0) hx hb dX0_canKeep_27 (by decide) ?_
      exact hret (0 : Int32) tba_9 tal_3 tro_4 tsc_10 tcl_11 H locs ls 28 dX0_canKeep_28 rfl ⟨hP, hD, hS⟩ hm
    · have hm := hm.2 c_12
      refine lv_iconst (v := 1) hx hb dX0_canKeep_23 (by decide) ?_
      refine lv_goto (tgt := 28) hx hb dX0_canKeep_24 (by decide) ?_
      exact hret (1 : Int32) tba_9 tal_3 tro_4 tsc_10 tcl_11 H locs ls 28 dX0_canKeep_28 rfl ⟨hP, hD, hS⟩ hm

set_option maxHeartbeats 4000000 in
set_option maxRecDepth 100000 in
theorem c_X0_canKeep (l : Launch) (dC : Nat → ClassId) (dI : Nat → Nat → Nat) (cy : Nat → ClassId) (ad : Nat → Nat) (sz : Nat) (ss : Int32) (ds : Int32) (ti : Nat → Int32) (co : Int32) (oma : Nat → Int32) (obr : Int32) (obj : Int32) (obo : Int32) (obm : Int32) (plo : Nat → Int32) (pch : Nat → Int32) (pbe : Nat → Int32) (pbl : Int32) (dnu : Nat → Int32) (dde : Nat → Int32) (dbo : Int32) (dln : Int32) (dld : Int32) (tba : Nat → Int32) (tal : Nat → Int32) (tro : Int32) (tsc : Int64) (tcl : Nat → Nat → Int64) (rma : Nat → Int32) (x2 : Int32) (N : Nat) (Q : Int32 → (Nat → Int32) → (Nat → Int32) → Int32 → Int64 → (Nat → Nat → Int64) → Prop) (hm : p_X0_canKeep N ti co Q x2 tba tal tro tsc tcl) : Met l yX0_canKeep wsX0_canKeep rmX0_canKeep (va_Pc [.ref (ad 9), .ref (ad 1), .int x2] (cPre dC dI cy (wC ad cy ss ds ti co oma obr obj obo obm plo pch pbe pbl dnu dde dbo dln dld tba tal tro tsc tcl rma) sz)) (va_Qi (fun (r : Int32) (u : (Nat → Int32) × (Nat → Int32) × Int32 × Int64 × (Nat → Nat → Int64)) => Q r u.1 u.2.1 u.2.2.1 u.2.2.2.1 u.2.2.2.2 ∧ narrow .boolean (.int r) = .int r) (fun u t => cPost dC dI cy (wC ad cy ss ds ti co oma obr obj obo obm plo pch pbe pbl dnu dde dbo dln dld tba tal tro tsc tcl rma) sz (wC ad cy ss ds ti co oma obr obj obo obm plo pch pbe pbl dnu dde dbo dln dld (u.1) (u.2.1) (u.2.2.1) (u.2.2.2.1) (u.2.2.2.2) rma) t) (va_A (wC ad cy ss ds ti co oma obr obj obo obm plo pch pbe pbl dnu dde dbo dln dld tba tal tro tsc tcl rma) sz)) 0 0 (va_A (wC ad cy ss ds ti co oma obr obj obo obm plo pch pbe pbl dnu dde dbo dln dld tba tal tro tsc tcl rma) sz) := by
  refine Met.ofW (cc := cX0_canKeep) (maxL := 3) (ret := (some .boolean)) (by decide) rfl ?_
  intro p e s m args below meth c s₁ B hml hv
  obtain ⟨rfl, hsz, hP, hK, hD0, hN⟩ := hv
  have hts := atoms_spec (ws := wsX0_canKeep) B.pre
  have hown : s.vm.findClass RX0 = some m.cls := findClass_of_methodNamed B.named
  subst hsz
  have hD := hD0.self (sz := s.heap.size)
  generalize hAe : va_A (wC ad cy ss ds ti co oma obr obj obo obm plo pch pbe pbl dnu dde dbo dln dld tba tal tro tsc tcl rma) s.heap.size = A at hD ⊢
  have hA : ∀ q : Nat, s.heap.size ≤ q → A q := fun q h => by rw [← hAe]; exact Or.inr h
  have hl := lv_entry ([.ref (ad 9), .ref (ad 1), .int x2]) (n := 3) (Nat.le_of_ble_eq_true rfl)
  rw [lg_entry_eq]
  generalize (lg_sl ([.ref (ad 9), .ref (ad 1), .int x2]) ++ List.replicate (3 - (lg_sl ([.ref (ad 9), .ref (ad 1), .int x2])).length) Slot.unset).toArray = ls at hl ⊢
  have hl : lv_has ls 3 [(0, .ref (ad 9)), (1, .ref (ad 1)), (2, .int x2)] := hl
  exact k_X0_canKeep_0 ⟨B.exec, B.bytes, hml, B.returns, hown, hts, B.notSynchronized, hK, hA, hN⟩ x2 tba tal tro tsc tcl s.heap [] ls hm ⟨hP, hD, va_S.rf⟩ (lv_sub hl [0, 1, 2] rfl) (fun r tba tal tro tsc tcl H locs ls pc hdg hn hSt hq => W.zret B.exec B.bytes B.returns hn (fun t ht hW => ⟨⟨r, (tba, tal, tro, tsc, tcl), rfl, ⟨hq, hn⟩, cPost_of hAe ht hW.alike hSt hK⟩, hSt.2.2.F ht⟩) hSt.2.2.2.2 hdg B.notSynchronized)

-- ===== X0_findShares
theorem fl_X0_findShares_12 : Cond.fieldLink RX0 12 "UnlikeUnion$Division" "tableau" "LUnlikeUnion$Tableau;" ∈ wsX0_findShares := by decide +kernel
theorem fl_X0_findShares_18 : Cond.fieldLink RX0 18 "UnlikeUnion$Division" "numerators" "[I" ∈ wsX0_findShares := by decide +kernel
theorem fl_X0_findShares_22 : Cond.fieldLink RX0 22 "UnlikeUnion$Division" "denominators" "[I" ∈ wsX0_findShares := by decide +kernel
theorem in_X0_findShares_X0 : ∀ w ∈ u_ws RX0 TX0 6, w ∈ wsX0_findShares := by decide +kernel
theorem in_X0_findShares_X1 : ∀ w ∈ u_ws RX1 TX1 2, w ∈ wsX0_findShares := by decide +kernel
theorem in_X0_findShares_X5 : ∀ w ∈ u_ws RX5 TX5 5, w ∈ wsX0_findShares := by decide +kernel
abbrev rmX0_findShares : Room := { frames := 4, cells := 0, slots := 0, locals := 327 }
def p_X0_findShares_35 (N : Nat) (co : Int32) (tro : Int32) (Q : (Nat → Int32) → (Nat → Int32) → (Nat → Int32) → (Nat → Int32) → Int64 → (Nat → Nat → Int64) → Prop) : Nat → Int32 → Int32 → (Nat → Int32) → (Nat → Int32) → (Nat → Int32) → (Nat → Int32) → Int64 → (Nat → Nat → Int64) → Prop
  | 0 => fun _ _ _ _ _ _ _ _ => False
  | n + 1 => fun x2 x3 dnu dde tba tal tsc tcl => (x2 ≤ x3 → (Q dnu dde tba tal tsc tcl)) ∧ (¬ x2 ≤ x3 → (p_X5_scaledValue N tba tro tcl (fun r_2 => p_X0_commonDivisor N (fun r_3 => (r_3 = (0 : Int64) → (vp_in x3 21 ∧ ((r_3 = (0 : Int64) → (vp_in x3 21 ∧ (∀ x3_22 : Int32, x3_22 = x3 + (1 : Int32) → (p_X0_findShares_35 N co tro Q n x2 x3_22 (upd dnu (x3).toNatClampNeg (0 : Int32)) (upd dde (x3).toNatClampNeg (1 : Int32)) tba tal tsc tcl)))) ∧ (¬ r_3 = (0 : Int64) → ((¬ r_3 = 0) ∧ (∀ f_18 : Int32, f_18 = (tsc / r_3).toInt32 → (vp_in x3 21 ∧ (∀ x3_20 : Int32, x3_20 = x3 + (1 : Int32) → (p_X0_findShares_35 N co tro Q n x2 x3_20 (upd dnu (x3).toNatClampNeg (0 : Int32)) (upd dde (x3).toNatClampNeg f_18) tba tal tsc tcl))))))))) ∧ (¬ r_3 = (0 : Int64) → ((¬ r_3 = 0) ∧ (∀ f_6 : Int32, f_6 = (r_2 / r_3).toInt32 → (vp_in x3 21 ∧ ((r_3 = (0 : Int64) → (vp_in x3 21 ∧ (∀ x3_14 : Int32, x3_14 = x3 + (1 : Int32) → (p_X0_findShares_35 N co tro Q n x2 x3_14 (upd dnu (x3).toNatClampNeg f_6) (upd dde (x3).toNatClampNeg (1 : Int32)) tba tal tsc tcl)))) ∧ (¬ r_3 = (0 : Int64) → ((¬ r_3 = 0) ∧ (∀ f_10 : Int32, f_10 = (tsc / r_3).toInt32 → (vp_in x3 21 ∧ (∀ x3_12 : Int32, x3_12 = x3 + (1 : Int32) → (p_X0_findShares_35 N co tro Q n x2 x3_12 (upd dnu (x3).toNatClampNeg f_6) (upd dde (x3).toNatClampNeg f_10) tba tal tsc tcl)))))))))))) r_2 tsc) x3))

def p_X0_findShares_14 (N : Nat) (co : Int32) (tro : Int32) (Q : (Nat → Int32) → (Nat → Int32) → (Nat → Int32) → (Nat → Int32) → Int64 → (Nat → Nat → Int64) → Prop) : Nat → Int32 → Int32 → (Nat → Int32) → (Nat → Int32) → (Nat → Int32) → (Nat → Int32) → Int64 → (Nat → Nat → Int64) → Prop
  | 0 => fun _ _ _ _ _ _ _ _ => False
  | n + 1 => fun x2 x3 dnu dde tba tal tsc tcl => (x2 ≤ x3 → (p_X0_findShares_35 N co tro Q N x2 (0 : Int32) dnu dde tba tal tsc tcl)) ∧ (¬ x2 ≤ x3 → (p_X5_raise N tro (fun tba_2 tal_3 tsc_4 tcl_5 => ∀ x3_6 : Int32, x3_6 = x3 + (1 : Int32) → (p_X0_findShares_14 N co tro Q n x2 x3_6 dnu dde tba_2 tal_3 tsc_4 tcl_5)) x3 tba tal tsc tcl))

def p_X0_findShares (N : Nat) (co : Int32) (tro : Int32) (Q : (Nat → Int32) → (Nat → Int32) → (Nat → Int32) → (Nat → Int32) → Int64 → (Nat → Nat → Int64) → Prop) (dnu : Nat → Int32) (dde : Nat → Int32) (tba : Nat → Int32) (tal : Nat → Int32) (tsc : Int64) (tcl : Nat → Nat → Int64) : Prop :=
  ∀ v_1 : Int32, v_1 = (if (21 : Int32) < (co * (3 : Int32)) then (21 : Int32) else (co * (3 : Int32))) → (p_X0_findShares_14 N co tro Q N v_1 (0 : Int32) dnu dde tba tal tsc tcl)

set_option maxHeartbeats 4000000 in
set_option maxRecDepth 100000 in
theorem k_X0_findShares_35 {N : Nat} {ss : Int32} {ds : Int32} {ti : Nat → Int32} {co : Int32} {oma : Nat → Int32} {obr : Int32} {obj : Int32} {obo : Int32} {obm : Int32} {plo : Nat → Int32} {pch : Nat → Int32} {pbe : Nat → Int32} {pbl : Int32} {dbo : Int32} {dln : Int32} {dld : Int32} {tro : Int32} {rma : Nat → Int32} {Q : (Nat → Int32) → (Nat → Int32) → (Nat → Int32) → (Nat → Int32) → Int64 → (Nat → Nat → Int64) → Prop} (C0 : cxM cX0_findShares 8 none RX0 wsX0_findShares p s m args meth c dC dI cy A) :
    ∀ (n : Nat) (x2 : Int32) (x3 : Int32) (dnu : Nat → Int32) (dde : Nat → Int32) (tba : Nat → Int32) (tal : Nat → Int32) (tsc : Int64) (tcl : Nat → Nat → Int64) (H : Heap) (locs : List Loc) (ls : Array Slot) (hm : p_X0_findShares_35 N co tro Q n x2 x3 dnu dde tba tal tsc tcl) (hSt : stC dC dI A s (wC ad cy ss ds ti co oma obr obj obo obm plo pch pbe pbl dnu dde dbo dln dld tba tal tro tsc tcl rma) H locs) (hl : lv_has ls 8 [(0, .ref (ad 9)), (2, .int x2), (3, .int x3)]) (hret : ∀ (dnu : Nat → Int32) (dde : Nat → Int32) (tba : Nat → Int32) (tal : Nat → Int32) (tsc : Int64) (tcl : Nat → Nat → Int64) (H : Heap) (locs : List Loc) (ls : Array Slot) (pc : Nat), decode cX0_findShares pc = .ok (.return_, 1) → stC dC dI A s (wC ad cy ss ds ti co oma obr obj obo obm plo pch pbe pbl dnu dde dbo dln dld tba tal tro tsc tcl rma) H locs → Q dnu dde tba tal tsc tcl → W p l e rmX0_findShares s m args below meth c H locs 0 0 Z (F0 m pc ls [])), W p l e rmX0_findShares s m args below meth c H locs 0 0 Z (F0 m 35 ls []) := by
  obtain ⟨hx, hb, hml, hr, hown, hts, hlocks, hK, hA, hN⟩ := id C0
  intro n
  induction n with
  | zero => intro x2 x3 dnu dde tba tal tsc tcl H locs ls hm; exact False.elim hm
  | succ n ih =>
    intro x2 x3 dnu dde tba tal tsc tcl H locs ls hm hSt hl hret
    obtain ⟨hP, hD, hS⟩ := hSt
    unfold p_X0_findShares_35 at hm
    refine lv_iload_n hx hb dX0_findShares_35 rfl (lv_at hl 2 rfl) ?_
    refine lv_iload_n hx hb dX0_findShares_36 rfl (lv_at hl 1 rfl) ?_
    refine lv_icmp_ge (tgt := 121) hx hb dX0_findShares_37 (by decide) (fun c_1 => ?_) (fun c_1 => ?_)
    · have hm := hm.1 c_1
      exact hret dnu dde tba tal tsc tcl H locs ls 121 dX0_findShares_121 ⟨hP, hD, hS⟩ hm
    · have hm := hm.2 c_1
      refine lv_aload_n hx hb dX0_findShares_40 rfl (lv_at hl 0 rfl) ?_
      refine va_get (D := (dC, dI)) (ci := 0) (v := .ref (ad 12)) (C := RX0) (T := TX0) (N := 6) hx hb hts in_X0_findShares_X0 hown hK hP 9 rfl rfl 0 (by decide) (hts _ fl_X0_findShares_12) (fun _ h9 => h9) rfl dX0_findShares_41 ?_
      refine lv_iload_n hx hb dX0_findShares_44 rfl (lv_at hl 2 rfl) ?_
      have hFc := va_freeSame hD hS hA
      refine va_calll (va_runV (As := [.int x3]) (rest := []) ⟨hx, hb, hml, hown, hts⟩ (c_X5_scaledValue l dC dI cy ad H.size ss ds ti co oma obr obj obo obm plo pch pbe pbl dnu dde dbo dln dld tba tal tro tsc tcl rma x3 _ _ hm) (cwV 1 hts gX0_findShares_X5_scaledValue rfl rfl rfl (by decide +kernel) ⟨Nat.le_of_ble_eq_true rfl, Nat.le_of_ble_eq_true rfl⟩) ⟨cPre_blind, va_recv hK hP (ci := 5) (q0 := 12) rfl rfl, fun U hU hW => ⟨rfl, cPre_at hP hK hD hN hU hW⟩⟩ rfl rfl hl.1 rfl (lv_room (Nat.le_of_ble_eq_true rfl)) dX0_findShares_45 ⟨Nat.zero_le _, Nat.zero_le _⟩) hS (fun q _ h => hFc q h) hFc (fun r_2 u t H locs ht hvm hw hB hz1 hk1 hS => ?_)
      try dsimp only at hw
      have hm := hw
      have hP : va_P (dC, dI) vwCl (wC ad cy ss ds ti co oma obr obj obo obm plo pch pbe pbl dnu dde dbo dln dld tba tal tro tsc tcl rma) H := cPost_P ht hB
      have hD : va_D A (wC ad cy ss ds ti co oma obr obj obo obm plo pch pbe pbl dnu dde dbo dln dld tba tal tro tsc tcl rma) := cPost_D hFc hB
      refine lv_lstore (lv' := [(4, .long r_2), (0, .ref (ad 9)), (2, .int x2), (3, .int x3)]) hx hb dX0_findShares_48 hl (by decide) rfl (fun ls hl => ?_)
      refine lv_lload hx hb dX0_findShares_50 (lv_at hl 0 rfl) ?_
      refine lv_aload_n hx hb dX0_findShares_52 rfl (lv_at hl 1 rfl) ?_
      refine va_get (D := (dC, dI)) (ci := 0) (v := .ref (ad 12)) (C := RX0) (T := TX0) (N := 6) hx hb hts in_X0_findShares_X0 hown hK hP 9 rfl rfl 0 (by decide) (hts _ fl_X0_findShares_12) (fun _ h9 => h9) rfl dX0_findShares_53 ?_
      refine va_getN (D := (dC, dI)) (ci := 5) (v := .long tsc) (C := RX5) (T := TX5) (N := 5) hx hb hts in_X0_findShares_X5 hown hK hP 12 rfl rfl 4 (by decide) (va_Nw.use rfl (nw_X0_52 hN)) (fun _ h9 => h9) rfl dX0_findShares_56 ?_
      have hFc := va_freeSame hD hS hA
      refine va_calll (va_runS (As := [.long r_2, .long tsc]) (rest := []) ⟨hx, hb, hml, hown, hts⟩ (c_X0_commonDivisor l dC dI cy ad H.size ss ds ti co oma obr obj obo obm plo pch pbe pbl dnu dde dbo dln dld tba tal tro tsc tcl rma r_2 tsc _ _ hm) (cwS 2 hts gX0_findShares_X0_commonDivisor rfl rfl rfl (by decide +kernel) ⟨Nat.le_of_ble_eq_true rfl, Nat.le_of_ble_eq_true rfl⟩) ⟨cPre_blind, fun U hU hW => ⟨rfl, cPre_at hP hK hD hN hU hW⟩⟩ rfl rfl hl.1 rfl (lv_room (Nat.le_of_ble_eq_true rfl)) dX0_findShares_59 ⟨Nat.zero_le _, Nat.zero_le _⟩) hS (fun q _ h => hFc q h) hFc (fun r_3 u t H locs ht hvm hw hB hz1 hk1 hS => ?_)
      try dsimp only at hw
      have hm := hw
      have hP : va_P (dC, dI) vwCl (wC ad cy ss ds ti co oma obr obj obo obm plo pch pbe pbl dnu dde dbo dln dld tba tal tro tsc tcl rma) H := cPost_P ht hB
      have hD : va_D A (wC ad cy ss ds ti co oma obr obj obo obm plo pch pbe pbl dnu dde dbo dln dld tba tal tro tsc tcl rma) := cPost_D hFc hB
      refine lv_lstore (lv' := [(6, .long r_3), (4, .long r_2), (0, .ref (ad 9)), (2, .int x2), (3, .int x3)]) hx hb dX0_findShares_62 hl (by decide) rfl (fun ls hl => ?_)
      refine lv_aload_n hx hb dX0_findShares_64 rfl (lv_at hl 2 rfl) ?_
      refine va_get (D := (dC, dI)) (ci := 0) (v := .ref (ad 10)) (C := RX0) (T := TX0) (N := 6) hx hb hts in_X0_findShares_X0 hown hK hP 9 rfl rfl 1 (by decide) (hts _ fl_X0_findShares_18) (fun _ h9 => h9) rfl dX0_findShares_65 ?_
      refine lv_iload_n hx hb dX0_findShares_68 rfl (lv_at hl 4 rfl) ?_
      refine lv_lload hx hb dX0_findShares_69 (lv_at hl 0 rfl) ?_
      refine lv_lconst (v := 0) hx hb dX0_findShares_71 (by decide) ?_
      refine lq_ne (tgt := 80) hx hb dX0_findShares_72 dX0_findShares_73 (by decide) (fun c_4 => ?_) (fun c_4 => ?_)
      · have hm := hm.2 c_4
        refine lv_lload hx hb dX0_findShares_80 (lv_at hl 1 rfl) ?_
        refine lv_lload hx hb dX0_findShares_82 (lv_at hl 0 rfl) ?_
        have hz_5 := hm.1
        have hm := hm.2
        refine lv_ldiv hx hb dX0_findShares_84 hz_5 ?_
        refine lv_l2i (v := (r_2 / r_3).toInt32) hx hb dX0_findShares_85 rfl ?_
        refine lv_topi (fun f_6 ef_6 => ?_)
        have hm := hm f_6 ef_6
        have hi_7 := hm.1
        have hm := hm.2
        refine va_iast hx hb hK hP hD hS 10 0 rfl rfl hi_7 dX0_findShares_86 (fun H locs hP hD hS => ?_)
        have hP : va_P (dC, dI) vwCl (wC ad cy ss ds ti co oma obr obj obo obm plo pch pbe pbl (upd dnu (x3).toNatClampNeg f_6) dde dbo dln dld tba tal tro tsc tcl rma) H := hP
        have hD : va_D A (wC ad cy ss ds ti co oma obr obj obo obm plo pch pbe pbl (upd dnu (x3).toNatClampNeg f_6) dde dbo dln dld tba tal tro tsc tcl rma) := hD
        refine lv_aload_n hx hb dX0_findShares_87 rfl (lv_at hl 2 rfl) ?_
        refine va_get (D := (dC, dI)) (ci := 0) (v := .ref (ad 11)) (C := RX0) (T := TX0) (N := 6) hx hb hts in_X0_findShares_X0 hown hK hP 9 rfl rfl 2 (by decide) (hts _ fl_X0_findShares_22) (fun _ h9 => h9) rfl dX0_findShares_88 ?_
        refine lv_iload_n hx hb dX0_findShares_91 rfl (lv_at hl 4 rfl) ?_
        refine lv_lload hx hb dX0_findShares_92 (lv_at hl 0 rfl) ?_
        refine lv_lconst (v := 0) hx hb dX0_findShares_94 (by decide) ?_
        refine lq_ne (tgt := 103) hx hb dX0_findShares_95 dX0_findShares_96 (by decide) (fun c_8 => ?_) (fun c_8 => ?_)
        · have hm := hm.2 c_8
          refine lv_aload_n hx hb dX0_findShares_103 rfl (lv_at hl 2 rfl) ?_
          refine va_get (D := (dC, dI)) (ci := 0) (v := .ref (ad 12)) (C := RX0) (T := TX0) (N := 6) hx hb hts in_X0_findShares_X0 hown hK hP 9 rfl rfl 0 (by decide) (hts _ fl_X0_findShares_12) (fun _ h9 => h9) rfl dX0_findShares_104 ?_
          refine va_getN (D := (dC, dI)) (ci := 5) (v := .long tsc) (C := RX5) (T := TX5) (N := 5) hx hb hts in_X0_findShares_X5 hown hK hP 12 rfl rfl 4 (by decide) (va_Nw.use rfl (nw_X0_52 hN)) (fun _ h9 => h9) rfl dX0_findShares_107 ?_
          refine lv_lload hx hb dX0_findShares_110 (lv_at hl 0 rfl) ?_
          have hz_9 := hm.1
          have hm := hm.2
          refine lv_ldiv hx hb dX0_findShares_112 hz_9 ?_
          refine lv_l2i (v := (tsc / r_3).toInt32) hx hb dX0_findShares_113 rfl ?_
          refine lv_topi (fun f_10 ef_10 => ?_)
          have hm := hm f_10 ef_10
          have hi_11 := hm.1
          have hm := hm.2
          refine va_iast hx hb hK hP hD hS 11 0 rfl rfl hi_11 dX0_findShares_114 (fun H locs hP hD hS => ?_)
          have hP : va_P (dC, dI) vwCl (wC ad cy ss ds ti co oma obr obj obo obm plo pch pbe pbl (upd dnu (x3).toNatClampNeg f_6) (upd dde (x3).toNatClampNeg f_10) dbo dln dld tba tal tro tsc tcl rma) H := hP
          have hD : va_D A (wC ad cy ss ds ti co oma obr obj obo obm plo pch pbe pbl (upd dnu (x3).toNatClampNeg f_6) (upd dde (x3).toNatClampNeg f_10) dbo dln dld tba tal tro tsc tcl rma) := hD
          obtain ⟨x3_12, ex3_12⟩ : ∃ y : Int32, y = x3 + (1 : Int32) := ⟨_, rfl⟩
          have hm := hm x3_12 ex3_12
          refine lv_iinc (v := x3_12) (lv' := [(3, .int x3_12), (6, .long r_3), (4, .long r_2), (0, .ref (ad 9)), (2, .int x2)]) hx hb dX0_findShares_115 hl (k := 4) rfl (by rw [ex3_12]; rfl) (by decide) rfl (fun ls hl => ?_)
          refine lv_goto (tgt := 35) hx hb dX0_findShares_118 (by decide) ?_
          exact ih x2 x3_12 (upd dnu (x3).toNatClampNeg f_6) (upd dde (x3).toNatClampNeg f_10) tba tal tsc tcl H locs ls hm ⟨hP, hD, hS⟩ (lv_sub hl [3, 4, 0] rfl) hret
        · have hm := hm.1 c_8
          refine lv_iconst (v := 1) hx hb dX0_findShares_99 (by decide) ?_
          refine lv_goto (tgt := 114) hx hb dX0_findShares_100 (by decide) ?_
          have hi_13 := hm.1
          have hm := hm.2
          refine va_iast hx hb hK hP hD hS 11 0 rfl rfl hi_13 dX0_findShares_114 (fun H locs hP hD hS => ?_)
          have hP : va_P (dC, dI) vwCl (wC ad cy ss ds ti co oma obr obj obo obm plo pch pbe pbl (upd dnu (x3).toNatClampNeg f_6) (upd dde (x3).toNatClampNeg (1 : Int32)) dbo dln dld tba tal tro tsc tcl rma) H := hP
          have hD : va_D A (wC ad cy ss ds ti co oma obr obj obo obm plo pch pbe pbl (upd dnu (x3).toNatClampNeg f_6) (upd dde (x3).toNatClampNeg (1 : Int32)) dbo dln dld tba tal tro tsc tcl rma) := hD
          obtain ⟨x3_14, ex3_14⟩ : ∃ y : Int32, y = x3 + (1 : Int32) := ⟨_, rfl⟩
          have hm := hm x3_14 ex3_14
          refine lv_iinc (v := x3_14) (lv' := [(3, .int x3_14), (6, .long r_3), (4, .long r_2), (0, .ref (ad 9)), (2, .int x2)]) hx hb dX0_findShares_115 hl (k := 4) rfl (by rw [ex3_14]; rfl) (by decide) rfl (fun ls hl => ?_)
          refine lv_goto (tgt := 35) hx hb dX0_findShares_118 (by decide) ?_
          exact ih x2 x3_14 (upd dnu (x3).toNatClampNeg f_6) (upd dde (x3).toNatClampNeg (1 : Int32)) tba tal tsc tcl H locs ls hm ⟨hP, hD, hS⟩ (lv_sub hl [3, 4, 0] rfl) hret
      · have hm := hm.1 c_4
        refine lv_iconst (v := 0) hx hb dX0_findShares_76 (by decide) ?_
        refine lv_goto (tgt := 86) hx hb dX0_findShares_77 (by decide) ?_
        have hi_15 := hm.1
        have hm := hm.2
        refine va_iast hx hb hK hP hD hS 10 0 rfl rfl hi_15 dX0_findShares_86 (fun H locs hP hD hS => ?_)
        have hP : va_P (dC, dI) vwCl (wC ad cy ss ds ti co oma obr obj obo obm plo pch pbe pbl (upd dnu (x3).toNatClampNeg (0 : Int32)) dde dbo dln dld tba tal tro tsc tcl rma) H := hP
        have hD : va_D A (wC ad cy ss ds ti co oma obr obj obo obm plo pch pbe pbl (upd dnu (x3).toNatClampNeg (0 : Int32)) dde dbo dln dld tba tal tro tsc tcl rma) := hD
        refine lv_aload_n hx hb dX0_findShares_87 rfl (lv_at hl 2 rfl) ?_
        refine va_get (D := (dC, dI)) (ci := 0) (v := .ref (ad 11)) (C := RX0) (T := TX0) (N := 6) hx hb hts in_X0_findShares_X0 hown hK hP 9 rfl rfl 2 (by decide) (hts _ fl_X0_findShares_22) (fun _ h9 => h9) rfl dX0_findShares_88 ?_
        refine lv_iload_n hx hb dX0_findShares_91 rfl (lv_at hl 4 rfl) ?_
        refine lv_lload hx hb dX0_findShares_92 (lv_at hl 0 rfl) ?_
        refine lv_lconst (v := 0) hx hb dX0_findShares_94 (by decide) ?_
        refine lq_ne (tgt := 103) hx hb dX0_findShares_95 dX0_findShares_96 (by decide) (fun c_16 => ?_) (fun c_16 => ?_)
        · have hm := hm.2 c_16
          refine lv_aload_n hx hb dX0_findShares_103 rfl (lv_at hl 2 rfl) ?_
          refine va_get (D := (dC, dI)) (ci := 0) (v := .ref (ad 12)) (C := RX0) (T := TX0) (N := 6) hx hb hts in_X0_findShares_X0 hown hK hP 9 rfl rfl 0 (by decide) (hts _ fl_X0_findShares_12) (fun _ h9 => h9) rfl dX0_findShares_104 ?_
          refine va_getN (D := (dC, dI)) (ci := 5) (v := .long tsc) (C := RX5) (T := TX5) (N := 5) hx hb hts in_X0_findShares_X5 hown hK hP 12 rfl rfl 4 (by decide) (va_Nw.use rfl (nw_X0_52 hN)) (fun _ h9 => h9) rfl dX0_findShares_107 ?_
          refine lv_lload hx hb dX0_findShares_110 (lv_at hl 0 rfl) ?_
          have hz_17 := hm.1
          have hm := hm.2
          refine lv_ldiv hx hb dX0_findShares_112 hz_17 ?_
          refine lv_l2i (v := (tsc / r_3).toInt32) hx hb dX0_findShares_113 rfl ?_
          refine lv_topi (fun f_18 ef_18 => ?_)
          have hm := hm f_18 ef_18
          have hi_19 := hm.1
          have hm := hm.2
          refine va_iast hx hb hK hP hD hS 11 0 rfl rfl hi_19 dX0_findShares_114 (fun H locs hP hD hS => ?_)
          have hP : va_P (dC, dI) vwCl (wC ad cy ss ds ti co oma obr obj obo obm plo pch pbe pbl (upd dnu (x3).toNatClampNeg (0 : Int32)) (upd dde (x3).toNatClampNeg f_18) dbo dln dld tba tal tro tsc tcl rma) H := hP
          have hD : va_D A (wC ad cy ss ds ti co oma obr obj obo obm plo pch pbe pbl (upd dnu (x3).toNatClampNeg (0 : Int32)) (upd dde (x3).toNatClampNeg f_18) dbo dln dld tba tal tro tsc tcl rma) := hD
          obtain ⟨x3_20, ex3_20⟩ : ∃ y : Int32, y = x3 + (1 : Int32) := ⟨_, rfl⟩
          have hm := hm x3_20 ex3_20
          refine lv_iinc (v := x3_20) (lv' := [(3, .int x3_20), (6, .long r_3), (4, .long r_2), (0, .ref (ad 9)), (2, .int x2)]) hx hb dX0_findShares_115 hl (k := 4) rfl (by rw [ex3_20]; rfl) (by decide) rfl (fun ls hl => ?_)
          refine lv_goto (tgt := 35) hx hb dX0_findShares_118 (by decide) ?_
          exact ih x2 x3_20 (upd dnu (x3).toNatClampNeg (0 : Int32)) (upd dde (x3).toNatClampNeg f_18) tba tal tsc tcl H locs ls hm ⟨hP, hD, hS⟩ (lv_sub hl [3, 4, 0] rfl) hret
        · have hm := hm.1 c_16
          refine lv_iconst (v := 1) hx hb dX0_findShares_99 (by decide) ?_
          refine lv_goto (tgt := 114) hx hb dX0_findShares_100 (by decide) ?_
          have hi_21 := hm.1
          have hm := hm.2
          refine va_iast hx hb hK hP hD hS 11 0 rfl rfl hi_21 dX0_findShares_114 (fun H locs hP hD hS => ?_)
          have hP : va_P (dC, dI) vwCl (wC ad cy ss ds ti co oma obr obj obo obm plo pch pbe pbl (upd dnu (x3).toNatClampNeg (0 : Int32)) (upd dde (x3).toNatClampNeg (1 : Int32)) dbo dln dld tba tal tro tsc tcl rma) H := hP
          have hD : va_D A (wC ad cy ss ds ti co oma obr obj obo obm plo pch pbe pbl (upd dnu (x3).toNatClampNeg (0 : Int32)) (upd dde (x3).toNatClampNeg (1 : Int32)) dbo dln dld tba tal tro tsc tcl rma) := hD
          obtain ⟨x3_22, ex3_22⟩ : ∃ y : Int32, y = x3 + (1 : Int32) := ⟨_, rfl⟩
          have hm := hm x3_22 ex3_22
          refine lv_iinc (v := x3_22) (lv' := [(3, .int x3_22), (6, .long r_3), (4, .long r_2), (0, .ref (ad 9)), (2, .int x2)]) hx hb dX0_findShares_115 hl (k := 4) rfl (by rw [ex3_22]; rfl) (by decide) rfl (fun ls hl => ?_)
          refine lv_goto (tgt := 35) hx hb dX0_findShares_118 (by decide) ?_
          exact ih x2 x3_22 (upd dnu (x3).toNatClampNeg (0 : Int32)) (upd dde (x3).toNatClampNeg (1 : Int32)) tba tal tsc tcl H locs ls hm ⟨hP, hD, hS⟩ (lv_sub hl [3, 4, 0] rfl) hret

set_option maxHeartbeats 4000000 in
set_option maxRecDepth 100000 in
theorem k_X0_findShares_14 {N : Nat} {ss : Int32} {ds : Int32} {ti : Nat → Int32} {co : Int32} {oma : Nat → Int32} {obr : Int32} {obj : Int32} {obo : Int32} {obm : Int32} {plo : Nat → Int32} {pch : Nat → Int32} {pbe : Nat → Int32} {pbl : Int32} {dbo : Int32} {dln : Int32} {dld : Int32} {tro : Int32} {rma : Nat → Int32} {Q : (Nat → Int32) → (Nat → Int32) → (Nat → Int32) → (Nat → Int32) → Int64 → (Nat → Nat → Int64) → Prop} (C0 : cxM cX0_findShares 8 none RX0 wsX0_findShares p s m args meth c dC dI cy A) :
    ∀ (n : Nat) (x2 : Int32) (x3 : Int32) (dnu : Nat → Int32) (dde : Nat → Int32) (tba : Nat → Int32) (tal : Nat → Int32) (tsc : Int64) (tcl : Nat → Nat → Int64) (H : Heap) (locs : List Loc) (ls : Array Slot) (hm : p_X0_findShares_14 N co tro Q n x2 x3 dnu dde tba tal tsc tcl) (hSt : stC dC dI A s (wC ad cy ss ds ti co oma obr obj obo obm plo pch pbe pbl dnu dde dbo dln dld tba tal tro tsc tcl rma) H locs) (hl : lv_has ls 8 [(0, .ref (ad 9)), (2, .int x2), (3, .int x3)]) (hret : ∀ (dnu : Nat → Int32) (dde : Nat → Int32) (tba : Nat → Int32) (tal : Nat → Int32) (tsc : Int64) (tcl : Nat → Nat → Int64) (H : Heap) (locs : List Loc) (ls : Array Slot) (pc : Nat), decode cX0_findShares pc = .ok (.return_, 1) → stC dC dI A s (wC ad cy ss ds ti co oma obr obj obo obm plo pch pbe pbl dnu dde dbo dln dld tba tal tro tsc tcl rma) H locs → Q dnu dde tba tal tsc tcl → W p l e rmX0_findShares s m args below meth c H locs 0 0 Z (F0 m pc ls [])), W p l e rmX0_findShares s m args below meth c H locs 0 0 Z (F0 m 14 ls []) := by
  obtain ⟨hx, hb, hml, hr, hown, hts, hlocks, hK, hA, hN⟩ := id C0
  intro n
  induction n with
  | zero => intro x2 x3 dnu dde tba tal tsc tcl H locs ls hm; exact False.elim hm
  | succ n ih =>
    intro x2 x3 dnu dde tba tal tsc tcl H locs ls hm hSt hl hret
    obtain ⟨hP, hD, hS⟩ := hSt
    unfold p_X0_findShares_14 at hm
    refine lv_iload_n hx hb dX0_findShares_14 rfl (lv_at hl 2 rfl) ?_
    refine lv_iload_n hx hb dX0_findShares_15 rfl (lv_at hl 1 rfl) ?_
    refine lv_icmp_ge (tgt := 33) hx hb dX0_findShares_16 (by decide) (fun c_1 => ?_) (fun c_1 => ?_)
    · have hm := hm.1 c_1
      refine lv_iconst (v := 0) hx hb dX0_findShares_33 (by decide) ?_
      refine lv_istore_n (lv' := [(3, .int (0 : Int32)), (0, .ref (ad 9)), (2, .int x2)]) hx hb dX0_findShares_34 rfl hl (by decide) rfl (fun ls hl => ?_)
      exact k_X0_findShares_35 C0 N x2 (0 : Int32) dnu dde tba tal tsc tcl H locs ls hm ⟨hP, hD, hS⟩ (lv_sub hl [1, 2, 0] rfl) hret
    · have hm := hm.2 c_1
      refine lv_aload_n hx hb dX0_findShares_19 rfl (lv_at hl 0 rfl) ?_
      refine va_get (D := (dC, dI)) (ci := 0) (v := .ref (ad 12)) (C := RX0) (T := TX0) (N := 6) hx hb hts in_X0_findShares_X0 hown hK hP 9 rfl rfl 0 (by decide) (hts _ fl_X0_findShares_12) (fun _ h9 => h9) rfl dX0_findShares_20 ?_
      refine lv_iload_n hx hb dX0_findShares_23 rfl (lv_at hl 2 rfl) ?_
      have hFc := va_freeSame hD hS hA
      refine va_callv (va_runV (As := [.int x3]) (rest := []) ⟨hx, hb, hml, hown, hts⟩ (c_X5_raise l dC dI cy ad H.size ss ds ti co oma obr obj obo obm plo pch pbe pbl dnu dde dbo dln dld tba tal tro tsc tcl rma x3 _ _ hm) (cwV 1 hts gX0_findShares_X5_raise rfl rfl rfl (by decide +kernel) ⟨Nat.le_of_ble_eq_true rfl, Nat.le_of_ble_eq_true rfl⟩) ⟨cPre_blind, va_recv hK hP (ci := 5) (q0 := 12) rfl rfl, fun U hU hW => ⟨rfl, cPre_at hP hK hD hN hU hW⟩⟩ rfl rfl hl.1 rfl (lv_room (Nat.le_of_ble_eq_true rfl)) dX0_findShares_24 ⟨Nat.zero_le _, Nat.zero_le _⟩) hS (fun q _ h => hFc q h) hFc (fun u t H locs ht hvm hw hB hz1 hk1 hS => ?_)
      obtain ⟨tba_2, tal_3, tsc_4, tcl_5⟩ := u
      try dsimp only at hw
      have hm := hw
      have hP : va_P (dC, dI) vwCl (wC ad cy ss ds ti co oma obr obj obo obm plo pch pbe pbl dnu dde dbo dln dld tba_2 tal_3 tro tsc_4 tcl_5 rma) H := cPost_P ht hB
      have hD : va_D A (wC ad cy ss ds ti co oma obr obj obo obm plo pch pbe pbl dnu dde dbo dln dld tba_2 tal_3 tro tsc_4 tcl_5 rma) := cPost_D hFc hB
      obtain ⟨x3_6, ex3_6⟩ : ∃ y : Int32, y = x3 + (1 : Int32) := ⟨_, rfl⟩
      have hm := hm x3_6 ex3_6
      refine lv_iinc (v := x3_6) (lv' := [(3, .int x3_6), (0, .ref (ad 9)), (2, .int x2)]) hx hb dX0_findShares_27 hl (k := 2) rfl (by rw [ex3_6]; rfl) (by decide) rfl (fun ls hl => ?_)
      refine lv_goto (tgt := 14) hx hb dX0_findShares_30 (by decide) ?_
      exact ih x2 x3_6 dnu dde tba_2 tal_3 tsc_4 tcl_5 H locs ls hm ⟨hP, hD, hS⟩ (lv_sub hl [1, 2, 0] rfl) hret

set_option maxHeartbeats 4000000 in
set_option maxRecDepth 100000 in
theorem k_X0_findShares_0 {N : Nat} {ss : Int32} {ds : Int32} {ti : Nat → Int32} {co : Int32} {oma : Nat → Int32} {obr : Int32} {obj : Int32} {obo : Int32} {obm : Int32} {plo : Nat → Int32} {pch : Nat → Int32} {pbe : Nat → Int32} {pbl : Int32} {dbo : Int32} {dln : Int32} {dld : Int32} {tro : Int32} {rma : Nat → Int32} {Q : (Nat → Int32) → (Nat → Int32) → (Nat → Int32) → (Nat → Int32) → Int64 → (Nat → Nat → Int64) → Prop} (C0 : cxM cX0_findShares 8 none RX0 wsX0_findShares p s m args meth c dC dI cy A) :
    ∀ (dnu : Nat → Int32) (dde : Nat → Int32) (tba : Nat → Int32) (tal : Nat → Int32) (tsc : Int64) (tcl : Nat → Nat → Int64) (H : Heap) (locs : List Loc) (ls : Array Slot) (hm : p_X0_findShares N co tro Q dnu dde tba tal tsc tcl) (hSt : stC dC dI A s (wC ad cy ss ds ti co oma obr obj obo obm plo pch pbe pbl dnu dde dbo dln dld tba tal tro tsc tcl rma) H locs) (hl : lv_has ls 8 [(0, .ref (ad 9)), (1, .ref (ad 1))]) (hret : ∀ (dnu : Nat → Int32) (dde : Nat → Int32) (tba : Nat → Int32) (tal : Nat → Int32) (tsc : Int64) (tcl : Nat → Nat → Int64) (H : Heap) (locs : List Loc) (ls : Array Slot) (pc : Nat), decode cX0_findShares pc = .ok (.return_, 1) → stC dC dI A s (wC ad cy ss ds ti co oma obr obj obo obm plo pch pbe pbl dnu dde dbo dln dld tba tal tro tsc tcl rma) H locs → Q dnu dde tba tal tsc tcl → W p l e rmX0_findShares s m args below meth c H locs 0 0 Z (F0 m pc ls [])), W p l e rmX0_findShares s m args below meth c H locs 0 0 Z (F0 m 0 ls []) := by
  obtain ⟨hx, hb, hml, hr, hown, hts, hlocks, hK, hA, hN⟩ := id C0
  intro dnu dde tba tal tsc tcl H locs ls hm hSt hl hret
  obtain ⟨hP, hD, hS⟩ := hSt
  unfold p_X0_findShares at hm
  refine lv_aload_n hx hb dX0_findShares_0 rfl (lv_at hl 1 rfl) ?_
  refine va_getN (D := (dC, dI)) (ci := 1) (v := .int co) (C := RX1) (T := TX1) (N := 2) hx hb hts in_X0_findShares_X1 hown hK hP 1 rfl rfl 1 (by decide) (va_Nw.use rfl (nw_X0_66 hN)) (fun _ h9 => h9) rfl dX0_findShares_1 ?_
  refine lv_iconst (v := 3) hx hb dX0_findShares_4 (by decide) ?_
  refine lv_imul hx hb dX0_findShares_5 ?_
  refine lv_bipush (v := 21) hx hb dX0_findShares_6 (by decide) ?_
  refine va_mmin hx hb (hml.trans hl.1.symm) hown (hts (.methodLink RX0 71 Lib.Math.min.name) (by decide +kernel)) (hts (.static Lib.Math.min.name) (by decide +kernel)) (hts (.initialized "java/lang/Math") (by decide +kernel)) (hts (.code Lib.Math.min.name Lib.Math.min.code 2 (some .int)) (by decide +kernel)) (Nat.le_of_ble_eq_true rfl) (Nat.le_of_ble_eq_true rfl) (Nat.zero_le _) (Nat.zero_le _) dX0_findShares_8 ?_
  refine lv_topi (fun v_1 ev_1 => ?_)
  have hm := hm v_1 ev_1
  refine lv_istore_n (lv' := [(2, .int v_1), (0, .ref (ad 9)), (1, .ref (ad 1))]) hx hb dX0_findShares_11 rfl hl (by decide) rfl (fun ls hl => ?_)
  refine lv_iconst (v := 0) hx hb dX0_findShares_12 (by decide) ?_
  refine lv_istore_n (lv' := [(3, .int (0 : Int32)), (2, .int v_1), (0, .ref (ad 9)), (1, .ref (ad 1))]) hx hb dX0_findShares_13 rfl hl (by decide) rfl (fun ls hl => ?_)
  exact k_X0_findShares_14 C0 N v_1 (0 : Int32) dnu dde tba tal tsc tcl H locs ls hm ⟨hP, hD, hS⟩ (lv_sub hl [2, 1, 0] rfl) hret

set_option maxHeartbeats 4000000 in
set_option maxRecDepth 100000 in
theorem c_X0_findShares (l : Launch) (dC : Nat → ClassId) (dI : Nat → Nat → Nat) (cy : Nat → ClassId) (ad : Nat → Nat) (sz : Nat) (ss : Int32) (ds : Int32) (ti : Nat → Int32) (co : Int32) (oma : Nat → Int32) (obr : Int32) (obj : Int32) (obo : Int32) (obm : Int32) (plo : Nat → Int32) (pch : Nat → Int32) (pbe : Nat → Int32) (pbl : Int32) (dnu : Nat → Int32) (dde : Nat → Int32) (dbo : Int32) (dln : Int32) (dld : Int32) (tba : Nat → Int32) (tal : Nat → Int32) (tro : Int32) (tsc : Int64) (tcl : Nat → Nat → Int64) (rma : Nat → Int32)  (N : Nat) (Q : (Nat → Int32) → (Nat → Int32) → (Nat → Int32) → (Nat → Int32) → Int64 → (Nat → Nat → Int64) → Prop) (hm : p_X0_findShares N co tro Q dnu dde tba tal tsc tcl) : Met l yX0_findShares wsX0_findShares rmX0_findShares (va_Pc [.ref (ad 9), .ref (ad 1)] (cPre dC dI cy (wC ad cy ss ds ti co oma obr obj obo obm plo pch pbe pbl dnu dde dbo dln dld tba tal tro tsc tcl rma) sz)) (va_Qv (fun (u : (Nat → Int32) × (Nat → Int32) × (Nat → Int32) × (Nat → Int32) × Int64 × (Nat → Nat → Int64)) => Q u.1 u.2.1 u.2.2.1 u.2.2.2.1 u.2.2.2.2.1 u.2.2.2.2.2) (fun u t => cPost dC dI cy (wC ad cy ss ds ti co oma obr obj obo obm plo pch pbe pbl dnu dde dbo dln dld tba tal tro tsc tcl rma) sz (wC ad cy ss ds ti co oma obr obj obo obm plo pch pbe pbl (u.1) (u.2.1) dbo dln dld (u.2.2.1) (u.2.2.2.1) tro (u.2.2.2.2.1) (u.2.2.2.2.2) rma) t) (va_A (wC ad cy ss ds ti co oma obr obj obo obm plo pch pbe pbl dnu dde dbo dln dld tba tal tro tsc tcl rma) sz)) 0 0 (va_A (wC ad cy ss ds ti co oma obr obj obo obm plo pch pbe pbl dnu dde dbo dln dld tba tal tro tsc tcl rma) sz) := by
  refine Met.ofW (cc := cX0_findShares) (maxL := 8) (ret := none) (by decide) rfl ?_
  intro p e s m args below meth c s₁ B hml hv
  obtain ⟨rfl, hsz, hP, hK, hD0, hN⟩ := hv
  have hts := atoms_spec (ws := wsX0_findShares) B.pre
  have hown : s.vm.findClass RX0 = some m.cls := findClass_of_methodNamed B.named
  subst hsz
  have hD := hD0.self (sz := s.heap.size)
  generalize hAe : va_A (wC ad cy ss ds ti co oma obr obj obo obm plo pch pbe pbl dnu dde dbo dln dld tba tal tro tsc tcl rma) s.heap.size = A at hD ⊢
  have hA : ∀ q : Nat, s.heap.size ≤ q → A q := fun q h => by rw [← hAe]; exact Or.inr h
  have hl := lv_entry ([.ref (ad 9), .ref (ad 1)]) (n := 8) (Nat.le_of_ble_eq_true rfl)
  rw [lg_entry_eq]
  generalize (lg_sl ([.ref (ad 9), .ref (ad 1)]) ++ List.replicate (8 - (lg_sl ([.ref (ad 9), .ref (ad 1)])).length) Slot.unset).toArray = ls at hl ⊢
  have hl : lv_has ls 8 [(0, .ref (ad 9)), (1, .ref (ad 1))] := hl
  exact k_X0_findShares_0 ⟨B.exec, B.bytes, hml, B.returns, hown, hts, B.notSynchronized, hK, hA, hN⟩ dnu dde tba tal tsc tcl s.heap [] ls hm ⟨hP, hD, va_S.rf⟩ (lv_sub hl [0, 1] rfl) (fun dnu dde tba tal tsc tcl H locs ls pc hdg hSt hq => W.vret B.exec B.bytes B.returns (fun t ht hW => ⟨⟨(dnu, dde, tba, tal, tsc, tcl), rfl, hq, cPost_of hAe ht hW.alike hSt hK⟩, hSt.2.2.F ht⟩) hSt.2.2.2.2 hdg B.notSynchronized)

-- ===== X0_make
theorem fl_X0_make_33 : Cond.fieldLink RX0 33 "UnlikeUnion$Division" "bound" "I" ∈ wsX0_make := by decide +kernel
theorem in_X0_make_X0 : ∀ w ∈ u_ws RX0 TX0 6, w ∈ wsX0_make := by decide +kernel
abbrev rmX0_make : Room := { frames := 5, cells := 0, slots := 0, locals := 414 }
def p_X0_make_11 (N : Nat) (ti : Nat → Int32) (co : Int32) (Q : (Nat → Int32) → (Nat → Int32) → Int32 → Int32 → Int32 → (Nat → Int32) → (Nat → Int32) → Int32 → Int64 → (Nat → Nat → Int64) → Prop) : Nat → Int32 → Int32 → (Nat → Int32) → (Nat → Int32) → Int32 → Int32 → Int32 → (Nat → Int32) → (Nat → Int32) → Int32 → Int64 → (Nat → Nat → Int64) → Prop
  | 0 => fun _ _ _ _ _ _ _ _ _ _ _ _ => False
  | n + 1 => fun x2 x3 dnu dde dbo dln dld tba tal tro tsc tcl => (x3 ≤ 0 → (∀ f_2 : Int32, f_2 = x2 + (1 : Int32) → (p_X0_canKeep N ti co (fun r_3 tba_4 tal_5 tro_6 tsc_7 tcl_8 => (r_3 = 0 → (Q dnu dde f_2 dln dld tba_4 tal_5 tro_6 tsc_7 tcl_8)) ∧ (¬ r_3 = 0 → (p_X0_findShares N co tro_6 (fun dnu_10 dde_11 tba_12 tal_13 tsc_14 tcl_15 => Q dnu_10 dde_11 f_2 dln dld tba_12 tal_13 tro_6 tsc_14 tcl_15) dnu dde tba_4 tal_5 tsc_7 tcl_8))) f_2 tba tal tro tsc tcl))) ∧ (¬ x3 ≤ 0 → (p_X0_canKeep N ti co (fun r_16 tba_17 tal_18 tro_19 tsc_20 tcl_21 => (r_16 = 0 → (∀ x2_24 : Int32, x2_24 = x2 + x3 → (∀ x3_25 : Int32, x3_25 = x3 / (2 : Int32) → (p_X0_make_11 N ti co Q n x2_24 x3_25 dnu dde dbo dln dld tba_17 tal_18 tro_19 tsc_20 tcl_21)))) ∧ (¬ r_16 = 0 → (∀ x3_23 : Int32, x3_23 = x3 / (2 : Int32) → (p_X0_make_11 N ti co Q n x2 x3_23 dnu dde dbo dln dld tba_17 tal_18 tro_19 tsc_20 tcl_21)))) (x2 + x3) tba tal tro tsc tcl))

def p_X0_make (N : Nat) (ti : Nat → Int32) (co : Int32) (Q : (Nat → Int32) → (Nat → Int32) → Int32 → Int32 → Int32 → (Nat → Int32) → (Nat → Int32) → Int32 → Int64 → (Nat → Nat → Int64) → Prop) (dnu : Nat → Int32) (dde : Nat → Int32) (dbo : Int32) (dln : Int32) (dld : Int32) (tba : Nat → Int32) (tal : Nat → Int32) (tro : Int32) (tsc : Int64) (tcl : Nat → Nat → Int64) : Prop :=
  p_X0_findLeast N ti co (fun dln_1 dld_2 tba_3 tal_4 tro_5 tsc_6 tcl_7 => p_X0_make_11 N ti co Q N (-1 : Int32) (256 : Int32) dnu dde dbo dln_1 dld_2 tba_3 tal_4 tro_5 tsc_6 tcl_7) dln dld tba tal tro tsc tcl

set_option maxHeartbeats 4000000 in
set_option maxRecDepth 100000 in
theorem k_X0_make_11 {N : Nat} {ss : Int32} {ds : Int32} {ti : Nat → Int32} {co : Int32} {oma : Nat → Int32} {obr : Int32} {obj : Int32} {obo : Int32} {obm : Int32} {plo : Nat → Int32} {pch : Nat → Int32} {pbe : Nat → Int32} {pbl : Int32} {rma : Nat → Int32} {Q : (Nat → Int32) → (Nat → Int32) → Int32 → Int32 → Int32 → (Nat → Int32) → (Nat → Int32) → Int32 → Int64 → (Nat → Nat → Int64) → Prop} (C0 : cxM cX0_make 4 none RX0 wsX0_make p s m args meth c dC dI cy A) :
    ∀ (n : Nat) (x2 : Int32) (x3 : Int32) (dnu : Nat → Int32) (dde : Nat → Int32) (dbo : Int32) (dln : Int32) (dld : Int32) (tba : Nat → Int32) (tal : Nat → Int32) (tro : Int32) (tsc : Int64) (tcl : Nat → Nat → Int64) (H : Heap) (locs : List Loc) (ls : Array Slot) (hm : p_X0_make_11 N ti co Q n x2 x3 dnu dde dbo dln dld tba tal tro tsc tcl) (hSt : stC dC dI A s (wC ad cy ss ds ti co oma obr obj obo obm plo pch pbe pbl dnu dde dbo dln dld tba tal tro tsc tcl rma) H locs) (hl : lv_has ls 4 [(0, .ref (ad 9)), (1, .ref (ad 1)), (2, .int x2), (3, .int x3)]) (hret : ∀ (dnu : Nat → Int32) (dde : Nat → Int32) (dbo : Int32) (dln : Int32) (dld : Int32) (tba : Nat → Int32) (tal : Nat → Int32) (tro : Int32) (tsc : Int64) (tcl : Nat → Nat → Int64) (H : Heap) (locs : List Loc) (ls : Array Slot) (pc : Nat), decode cX0_make pc = .ok (.return_, 1) → stC dC dI A s (wC ad cy ss ds ti co oma obr obj obo obm plo pch pbe pbl dnu dde dbo dln dld tba tal tro tsc tcl rma) H locs → Q dnu dde dbo dln dld tba tal tro tsc tcl → W p l e rmX0_make s m args below meth c H locs 0 0 Z (F0 m pc ls [])), W p l e rmX0_make s m args below meth c H locs 0 0 Z (F0 m 11 ls []) := by
  obtain ⟨hx, hb, hml, hr, hown, hts, hlocks, hK, hA, hN⟩ := id C0
  intro n
  induction n with
  | zero => intro x2 x3 dnu dde dbo dln dld tba tal tro tsc tcl H locs ls hm; exact False.elim hm
  | succ n ih =>
    intro x2 x3 dnu dde dbo dln dld tba tal tro tsc tcl H locs ls hm hSt hl hret
    obtain ⟨hP, hD, hS⟩ := hSt
    unfold p_X0_make_11 at hm
    refine lv_iload_n hx hb dX0_make_11 rfl (lv_at hl 3 rfl) ?_
    refine lv_if_le (tgt := 37) hx hb dX0_make_12 (by decide) (fun c_1 => ?_) (fun c_1 => ?_)
    · have hm := hm.1 c_1
      refine lv_aload_n hx hb dX0_make_37 rfl (lv_at hl 0 rfl) ?_
      refine lv_iload_n hx hb dX0_make_38 rfl (lv_at hl 2 rfl) ?_
      refine lv_iconst (v := 1) hx hb dX0_make_39 (by decide) ?_
      refine lv_iadd hx hb dX0_make_40 ?_
      refine lv_topi (fun f_2 ef_2 => ?_)
      have hm := hm f_2 ef_2
      refine va_put (D := (dC, dI)) (ci := 0) (v := .int f_2) (ty := .int) (C := RX0) (T := TX0) (N := 6) hx hb hts in_X0_make_X0 tyX0 tyX0_ok nmX0 hown hK hP hD hS 9 rfl rfl 3 (by decide) (hts _ fl_X0_make_33) (fun _ h9 => h9) rfl (by decide +kernel) rfl rfl (Nat.le_of_ble_eq_true rfl) dX0_make_41 (fun H locs hP hD hS => ?_)
      have hP : va_P (dC, dI) vwCl (wC ad cy ss ds ti co oma obr obj obo obm plo pch pbe pbl dnu dde f_2 dln dld tba tal tro tsc tcl rma) H := hP
      have hD : va_D A (wC ad cy ss ds ti co oma obr obj obo obm plo pch pbe pbl dnu dde f_2 dln dld tba tal tro tsc tcl rma) := hD
      refine lv_aload_n hx hb dX0_make_44 rfl (lv_at hl 0 rfl) ?_
      refine lv_aload_n hx hb dX0_make_45 rfl (lv_at hl 1 rfl) ?_
      refine lv_aload_n hx hb dX0_make_46 rfl (lv_at hl 0 rfl) ?_
      refine va_get (D := (dC, dI)) (ci := 0) (v := .int f_2) (C := RX0) (T := TX0) (N := 6) hx hb hts in_X0_make_X0 hown hK hP 9 rfl rfl 3 (by decide) (hts _ fl_X0_make_33) (fun _ h9 => h9) rfl dX0_make_47 ?_
      have hFc := va_freeSame hD hS hA
      refine va_calli (va_runV (As := [.ref (ad 1), .int f_2]) (rest := []) ⟨hx, hb, hml, hown, hts⟩ (c_X0_canKeep l dC dI cy ad H.size ss ds ti co oma obr obj obo obm plo pch pbe pbl dnu dde f_2 dln dld tba tal tro tsc tcl rma f_2 _ _ hm) (cwV 2 hts gX0_make_X0_canKeep rfl rfl rfl (by decide +kernel) ⟨Nat.le_of_ble_eq_true rfl, Nat.le_of_ble_eq_true rfl⟩) ⟨cPre_blind, va_recv hK hP (ci := 0) (q0 := 9) rfl rfl, fun U hU hW => ⟨rfl, cPre_at hP hK hD hN hU hW⟩⟩ rfl rfl hl.1 rfl (lv_room (Nat.le_of_ble_eq_true rfl)) dX0_make_50 ⟨Nat.zero_le _, Nat.zero_le _⟩) hS (fun q _ h => hFc q h) hFc (fun r_3 u t H locs ht hvm hw hB hz1 hk1 hS => ?_)
      obtain ⟨tba_4, tal_5, tro_6, tsc_7, tcl_8⟩ := u
      try dsimp only at hw
      obtain ⟨hm, nar_r_3⟩ := hw
      have hP : va_P (dC, dI) vwCl (wC ad cy ss ds ti co oma obr obj obo obm plo pch pbe pbl dnu dde f_2 dln dld tba_4 tal_5 tro_6 tsc_7 tcl_8 rma) H := cPost_P ht hB
      have hD : va_D A (wC ad cy ss ds ti co oma obr obj obo obm plo pch pbe pbl dnu dde f_2 dln dld tba_4 tal_5 tro_6 tsc_7 tcl_8 rma) := cPost_D hFc hB
      refine lv_if_eq (tgt := 61) hx hb dX0_make_53 (by decide) (fun c_9 => ?_) (fun c_9 => ?_)
      · have hm := hm.1 c_9
        exact hret dnu dde f_2 dln dld tba_4 tal_5 tro_6 tsc_7 tcl_8 H locs ls 61 dX0_make_61 ⟨hP, hD, hS⟩ hm
      · have hm := hm.2 c_9
        refine lv_aload_n hx hb dX0_make_56 rfl (lv_at hl 0 rfl) ?_
        refine lv_aload_n hx hb dX0_make_57 rfl (lv_at hl 1 rfl) ?_
        have hFc := va_freeSame hD hS hA
        refine va_callv (va_runV (As := [.ref (ad 1)]) (rest := []) ⟨hx, hb, hml, hown, hts⟩ (c_X0_findShares l dC dI cy ad H.size ss ds ti co oma obr obj obo obm plo pch pbe pbl dnu dde f_2 dln dld tba_4 tal_5 tro_6 tsc_7 tcl_8 rma  _ _ hm) (cwV 1 hts gX0_make_X0_findShares rfl rfl rfl (by decide +kernel) ⟨Nat.le_of_ble_eq_true rfl, Nat.le_of_ble_eq_true rfl⟩) ⟨cPre_blind, va_recv hK hP (ci := 0) (q0 := 9) rfl rfl, fun U hU hW => ⟨rfl, cPre_at hP hK hD hN hU hW⟩⟩ rfl rfl hl.1 rfl (lv_room (Nat.le_of_ble_eq_true rfl)) dX0_make_58 ⟨Nat.zero_le _, Nat.zero_le _⟩) hS (fun q _ h => hFc q h) hFc (fun u t H locs ht hvm hw hB hz1 hk1 hS => ?_)
        obtain ⟨dnu_10, dde_11, tba_12, tal_13, tsc_14, tcl_15⟩ := u
        try dsimp only at hw
        have hm := hw
        have hP : va_P (dC, dI) vwCl (wC ad cy ss ds ti co oma obr obj obo obm plo pch pbe pbl dnu_10 dde_11 f_2 dln dld tba_12 tal_13 tro_6 tsc_14 tcl_15 rma) H := cPost_P ht hB
        have hD : va_D A (wC ad cy ss ds ti co oma obr obj obo obm plo pch pbe pbl dnu_10 dde_11 f_2 dln dld tba_12 tal_13 tro_6 tsc_14 tcl_15 rma) := cPost_D hFc hB
        exact hret dnu_10 dde_11 f_2 dln dld tba_12 tal_13 tro_6 tsc_14 tcl_15 H locs ls 61 dX0_make_61 ⟨hP, hD, hS⟩ hm
    · have hm := hm.2 c_1
      refine lv_aload_n hx hb dX0_make_15 rfl (lv_at hl 0 rfl) ?_
      refine lv_aload_n hx hb dX0_make_16 rfl (lv_at hl 1 rfl) ?_
      refine lv_iload_n hx hb dX0_make_17 rfl (lv_at hl 2 rfl) ?_
      refine lv_iload_n hx hb dX0_make_18 rfl (lv_at hl 3 rfl) ?_
      refine lv_iadd hx hb dX0_make_19 ?_
      have hFc := va_freeSame hD hS hA
      refine va_calli (va_runV (As := [.ref (ad 1), .int (x2 + x3)]) (rest := []) ⟨hx, hb, hml, hown, hts⟩ (c_X0_canKeep l dC dI cy ad H.size ss ds ti co oma obr obj obo obm plo pch pbe pbl dnu dde dbo dln dld tba tal tro tsc tcl rma (x2 + x3) _ _ hm) (cwV 2 hts gX0_make_X0_canKeep rfl rfl rfl (by decide +kernel) ⟨Nat.le_of_ble_eq_true rfl, Nat.le_of_ble_eq_true rfl⟩) ⟨cPre_blind, va_recv hK hP (ci := 0) (q0 := 9) rfl rfl, fun U hU hW => ⟨rfl, cPre_at hP hK hD hN hU hW⟩⟩ rfl rfl hl.1 rfl (lv_room (Nat.le_of_ble_eq_true rfl)) dX0_make_20 ⟨Nat.zero_le _, Nat.zero_le _⟩) hS (fun q _ h => hFc q h) hFc (fun r_16 u t H locs ht hvm hw hB hz1 hk1 hS => ?_)
      obtain ⟨tba_17, tal_18, tro_19, tsc_20, tcl_21⟩ := u
      try dsimp only at hw
      obtain ⟨hm, nar_r_16⟩ := hw
      have hP : va_P (dC, dI) vwCl (wC ad cy ss ds ti co oma obr obj obo obm plo pch pbe pbl dnu dde dbo dln dld tba_17 tal_18 tro_19 tsc_20 tcl_21 rma) H := cPost_P ht hB
      have hD : va_D A (wC ad cy ss ds ti co oma obr obj obo obm plo pch pbe pbl dnu dde dbo dln dld tba_17 tal_18 tro_19 tsc_20 tcl_21 rma) := cPost_D hFc hB
      refine lv_if_ne (tgt := 30) hx hb dX0_make_23 (by decide) (fun c_22 => ?_) (fun c_22 => ?_)
      · have hm := hm.2 c_22
        refine lv_iload_n hx hb dX0_make_30 rfl (lv_at hl 3 rfl) ?_
        refine lv_iconst (v := 2) hx hb dX0_make_31 (by decide) ?_
        refine lv_idiv hx hb dX0_make_32 (by decide) ?_
        refine lv_topi (fun x3_23 ex3_23 => ?_)
        have hm := hm x3_23 ex3_23
        refine lv_istore_n (lv' := [(3, .int x3_23), (0, .ref (ad 9)), (1, .ref (ad 1)), (2, .int x2)]) hx hb dX0_make_33 rfl hl (by decide) rfl (fun ls hl => ?_)
        refine lv_goto (tgt := 11) hx hb dX0_make_34 (by decide) ?_
        exact ih x2 x3_23 dnu dde dbo dln dld tba_17 tal_18 tro_19 tsc_20 tcl_21 H locs ls hm ⟨hP, hD, hS⟩ (lv_sub hl [1, 2, 3, 0] rfl) hret
      · have hm := hm.1 c_22
        refine lv_iload_n hx hb dX0_make_26 rfl (lv_at hl 2 rfl) ?_
        refine lv_iload_n hx hb dX0_make_27 rfl (lv_at hl 3 rfl) ?_
        refine lv_iadd hx hb dX0_make_28 ?_
        refine lv_topi (fun x2_24 ex2_24 => ?_)
        have hm := hm x2_24 ex2_24
        refine lv_istore_n (lv' := [(2, .int x2_24), (0, .ref (ad 9)), (1, .ref (ad 1)), (3, .int x3)]) hx hb dX0_make_29 rfl hl (by decide) rfl (fun ls hl => ?_)
        refine lv_iload_n hx hb dX0_make_30 rfl (lv_at hl 3 rfl) ?_
        refine lv_iconst (v := 2) hx hb dX0_make_31 (by decide) ?_
        refine lv_idiv hx hb dX0_make_32 (by decide) ?_
        refine lv_topi (fun x3_25 ex3_25 => ?_)
        have hm := hm x3_25 ex3_25
        refine lv_istore_n (lv' := [(3, .int x3_25), (2, .int x2_24), (0, .ref (ad 9)), (1, .ref (ad 1))]) hx hb dX0_make_33 rfl hl (by decide) rfl (fun ls hl => ?_)
        refine lv_goto (tgt := 11) hx hb dX0_make_34 (by decide) ?_
        exact ih x2_24 x3_25 dnu dde dbo dln dld tba_17 tal_18 tro_19 tsc_20 tcl_21 H locs ls hm ⟨hP, hD, hS⟩ (lv_sub hl [2, 3, 1, 0] rfl) hret

set_option maxHeartbeats 4000000 in
set_option maxRecDepth 100000 in
theorem k_X0_make_0 {N : Nat} {ss : Int32} {ds : Int32} {ti : Nat → Int32} {co : Int32} {oma : Nat → Int32} {obr : Int32} {obj : Int32} {obo : Int32} {obm : Int32} {plo : Nat → Int32} {pch : Nat → Int32} {pbe : Nat → Int32} {pbl : Int32} {rma : Nat → Int32} {Q : (Nat → Int32) → (Nat → Int32) → Int32 → Int32 → Int32 → (Nat → Int32) → (Nat → Int32) → Int32 → Int64 → (Nat → Nat → Int64) → Prop} (C0 : cxM cX0_make 4 none RX0 wsX0_make p s m args meth c dC dI cy A) :
    ∀ (dnu : Nat → Int32) (dde : Nat → Int32) (dbo : Int32) (dln : Int32) (dld : Int32) (tba : Nat → Int32) (tal : Nat → Int32) (tro : Int32) (tsc : Int64) (tcl : Nat → Nat → Int64) (H : Heap) (locs : List Loc) (ls : Array Slot) (hm : p_X0_make N ti co Q dnu dde dbo dln dld tba tal tro tsc tcl) (hSt : stC dC dI A s (wC ad cy ss ds ti co oma obr obj obo obm plo pch pbe pbl dnu dde dbo dln dld tba tal tro tsc tcl rma) H locs) (hl : lv_has ls 4 [(0, .ref (ad 9)), (1, .ref (ad 1))]) (hret : ∀ (dnu : Nat → Int32) (dde : Nat → Int32) (dbo : Int32) (dln : Int32) (dld : Int32) (tba : Nat → Int32) (tal : Nat → Int32) (tro : Int32) (tsc : Int64) (tcl : Nat → Nat → Int64) (H : Heap) (locs : List Loc) (ls : Array Slot) (pc : Nat), decode cX0_make pc = .ok (.return_, 1) → stC dC dI A s (wC ad cy ss ds ti co oma obr obj obo obm plo pch pbe pbl dnu dde dbo dln dld tba tal tro tsc tcl rma) H locs → Q dnu dde dbo dln dld tba tal tro tsc tcl → W p l e rmX0_make s m args below meth c H locs 0 0 Z (F0 m pc ls [])), W p l e rmX0_make s m args below meth c H locs 0 0 Z (F0 m 0 ls []) := by
  obtain ⟨hx, hb, hml, hr, hown, hts, hlocks, hK, hA, hN⟩ := id C0
  intro dnu dde dbo dln dld tba tal tro tsc tcl H locs ls hm hSt hl hret
  obtain ⟨hP, hD, hS⟩ := hSt
  unfold p_X0_make at hm
  refine lv_aload_n hx hb dX0_make_0 rfl (lv_at hl 0 rfl) ?_
  refine lv_aload_n hx hb dX0_make_1 rfl (lv_at hl 1 rfl) ?_
  have hFc := va_freeSame hD hS hA
  refine va_callv (va_runV (As := [.ref (ad 1)]) (rest := []) ⟨hx, hb, hml, hown, hts⟩ (c_X0_findLeast l dC dI cy ad H.size ss ds ti co oma obr obj obo obm plo pch pbe pbl dnu dde dbo dln dld tba tal tro tsc tcl rma  _ _ hm) (cwV 1 hts gX0_make_X0_findLeast rfl rfl rfl (by decide +kernel) ⟨Nat.le_of_ble_eq_true rfl, Nat.le_of_ble_eq_true rfl⟩) ⟨cPre_blind, va_recv hK hP (ci := 0) (q0 := 9) rfl rfl, fun U hU hW => ⟨rfl, cPre_at hP hK hD hN hU hW⟩⟩ rfl rfl hl.1 rfl (lv_room (Nat.le_of_ble_eq_true rfl)) dX0_make_2 ⟨Nat.zero_le _, Nat.zero_le _⟩) hS (fun q _ h => hFc q h) hFc (fun u t H locs ht hvm hw hB hz1 hk1 hS => ?_)
  obtain ⟨dln_1, dld_2, tba_3, tal_4, tro_5, tsc_6, tcl_7⟩ := u
  try dsimp only at hw
  have hm := hw
  have hP : va_P (dC, dI) vwCl (wC ad cy ss ds ti co oma obr obj obo obm plo pch pbe pbl dnu dde dbo dln_1 dld_2 tba_3 tal_4 tro_5 tsc_6 tcl_7 rma) H := cPost_P ht hB
  have hD : va_D A (wC ad cy ss ds ti co oma obr obj obo obm plo pch pbe pbl dnu dde dbo dln_1 dld_2 tba_3 tal_4 tro_5 tsc_6 tcl_7 rma) := cPost_D hFc hB
  refine lv_iconst (v := -1) hx hb dX0_make_5 (by decide) ?_
  refine lv_istore_n (lv' := [(2, .int (-1 : Int32)), (0, .ref (ad 9)), (1, .ref (ad 1))]) hx hb dX0_make_6 rfl hl (by decide) rfl (fun ls hl => ?_)
  refine lv_sipush (v := 256) hx hb dX0_make_7 (by decide) ?_
  refine lv_istore_n (lv' := [(3, .int (256 : Int32)), (2, .int (-1 : Int32)), (0, .ref (ad 9)), (1, .ref (ad 1))]) hx hb dX0_make_10 rfl hl (by decide) rfl (fun ls hl => ?_)
  exact k_X0_make_11 C0 N (-1 : Int32) (256 : Int32) dnu dde dbo dln_1 dld_2 tba_3 tal_4 tro_5 tsc_6 tcl_7 H locs ls hm ⟨hP, hD, hS⟩ (lv_sub hl [2, 3, 1, 0] rfl) hret

set_option maxHeartbeats 4000000 in
set_option maxRecDepth 100000 in
theorem c_X0_make (l : Launch) (dC : Nat → ClassId) (dI : Nat → Nat → Nat) (cy : Nat → ClassId) (ad : Nat → Nat) (sz : Nat) (ss : Int32) (ds : Int32) (ti : Nat → Int32) (co : Int32) (oma : Nat → Int32) (obr : Int32) (obj : Int32) (obo : Int32) (obm : Int32) (plo : Nat → Int32) (pch : Nat → Int32) (pbe : Nat → Int32) (pbl : Int32) (dnu : Nat → Int32) (dde : Nat → Int32) (dbo : Int32) (dln : Int32) (dld : Int32) (tba : Nat → Int32) (tal : Nat → Int32) (tro : Int32) (tsc : Int64) (tcl : Nat → Nat → Int64) (rma : Nat → Int32)  (N : Nat) (Q : (Nat → Int32) → (Nat → Int32) → Int32 → Int32 → Int32 → (Nat → Int32) → (Nat → Int32) → Int32 → Int64 → (Nat → Nat → Int64) → Prop) (hm : p_X0_make N ti co Q dnu dde dbo dln dld tba tal tro tsc tcl) : Met l yX0_make wsX0_make rmX0_make (va_Pc [.ref (ad 9), .ref (ad 1)] (cPre dC dI cy (wC ad cy ss ds ti co oma obr obj obo obm plo pch pbe pbl dnu dde dbo dln dld tba tal tro tsc tcl rma) sz)) (va_Qv (fun (u : (Nat → Int32) × (Nat → Int32) × Int32 × Int32 × Int32 × (Nat → Int32) × (Nat → Int32) × Int32 × Int64 × (Nat → Nat → Int64)) => Q u.1 u.2.1 u.2.2.1 u.2.2.2.1 u.2.2.2.2.1 u.2.2.2.2.2.1 u.2.2.2.2.2.2.1 u.2.2.2.2.2.2.2.1 u.2.2.2.2.2.2.2.2.1 u.2.2.2.2.2.2.2.2.2) (fun u t => cPost dC dI cy (wC ad cy ss ds ti co oma obr obj obo obm plo pch pbe pbl dnu dde dbo dln dld tba tal tro tsc tcl rma) sz (wC ad cy ss ds ti co oma obr obj obo obm plo pch pbe pbl (u.1) (u.2.1) (u.2.2.1) (u.2.2.2.1) (u.2.2.2.2.1) (u.2.2.2.2.2.1) (u.2.2.2.2.2.2.1) (u.2.2.2.2.2.2.2.1) (u.2.2.2.2.2.2.2.2.1) (u.2.2.2.2.2.2.2.2.2) rma) t) (va_A (wC ad cy ss ds ti co oma obr obj obo obm plo pch pbe pbl dnu dde dbo dln dld tba tal tro tsc tcl rma) sz)) 0 0 (va_A (wC ad cy ss ds ti co oma obr obj obo obm plo pch pbe pbl dnu dde dbo dln dld tba tal tro tsc tcl rma) sz) := by
  refine Met.ofW (cc := cX0_make) (maxL := 4) (ret := none) (by decide) rfl ?_
  intro p e s m args below meth c s₁ B hml hv
  obtain ⟨rfl, hsz, hP, hK, hD0, hN⟩ := hv
  have hts := atoms_spec (ws := wsX0_make) B.pre
  have hown : s.vm.findClass RX0 = some m.cls := findClass_of_methodNamed B.named
  subst hsz
  have hD := hD0.self (sz := s.heap.size)
  generalize hAe : va_A (wC ad cy ss ds ti co oma obr obj obo obm plo pch pbe pbl dnu dde dbo dln dld tba tal tro tsc tcl rma) s.heap.size = A at hD ⊢
  have hA : ∀ q : Nat, s.heap.size ≤ q → A q := fun q h => by rw [← hAe]; exact Or.inr h
  have hl := lv_entry ([.ref (ad 9), .ref (ad 1)]) (n := 4) (Nat.le_of_ble_eq_true rfl)
  rw [lg_entry_eq]
  generalize (lg_sl ([.ref (ad 9), .ref (ad 1)]) ++ List.replicate (4 - (lg_sl ([.ref (ad 9), .ref (ad 1)])).length) Slot.unset).toArray = ls at hl ⊢
  have hl : lv_has ls 4 [(0, .ref (ad 9)), (1, .ref (ad 1))] := hl
  exact k_X0_make_0 ⟨B.exec, B.bytes, hml, B.returns, hown, hts, B.notSynchronized, hK, hA, hN⟩ dnu dde dbo dln dld tba tal tro tsc tcl s.heap [] ls hm ⟨hP, hD, va_S.rf⟩ (lv_sub hl [0, 1] rfl) (fun dnu dde dbo dln dld tba tal tro tsc tcl H locs ls pc hdg hSt hq => W.vret B.exec B.bytes B.returns (fun t ht hW => ⟨⟨(dnu, dde, dbo, dln, dld, tba, tal, tro, tsc, tcl), rfl, hq, cPost_of hAe ht hW.alike hSt hK⟩, hSt.2.2.F ht⟩) hSt.2.2.2.2 hdg B.notSynchronized)
