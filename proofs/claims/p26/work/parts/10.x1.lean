variable {p : Program} {l : Launch} {e : Env} {s : State} {m : MethodId} {args : Array Value} {below : List Frame} {meth : Method} {c : Code} {dC : Nat → ClassId} {dI : Nat → Nat → Nat} {cy : Nat → ClassId} {ad : Nat → Nat} {A : Nat → Prop} {Z : State → Prop}
-- ===== X1_timeOn
theorem fl_X1_timeOn_15 : Cond.fieldLink RX1 15 "UnlikeUnion$Jobs" "count" "I" ∈ wsX1_timeOn := by decide +kernel
theorem fl_X1_timeOn_9 : Cond.fieldLink RX1 9 "UnlikeUnion$Jobs" "times" "[I" ∈ wsX1_timeOn := by decide +kernel
theorem in_X1_timeOn_X1 : ∀ w ∈ u_ws RX1 TX1 2, w ∈ wsX1_timeOn := by decide +kernel
abbrev rmX1_timeOn : Room := { frames := 1, cells := 0, slots := 0, locals := 63 }
def p_X1_timeOn (N : Nat) (ti : Nat → Int32) (co : Int32) (Q : Int32 → Prop) (x1 : Int32) (x2 : Int32) : Prop :=
  (x1 < 0 → (Q (0 : Int32))) ∧ (¬ x1 < 0 → ((co ≤ x1 → (Q (0 : Int32))) ∧ (¬ co ≤ x1 → (((7 : Int32) ≤ x1 → (Q (0 : Int32))) ∧ (¬ (7 : Int32) ≤ x1 → ((x2 < 0 → (Q (0 : Int32))) ∧ (¬ x2 < 0 → ((x2 < (3 : Int32) → (vp_in ((x1 * (3 : Int32)) + x2) 21 ∧ (Q (ti ((x1 * (3 : Int32)) + x2).toNatClampNeg)))) ∧ (¬ x2 < (3 : Int32) → (Q (0 : Int32)))))))))))

set_option maxHeartbeats 4000000 in
set_option maxRecDepth 100000 in
theorem k_X1_timeOn_0 {N : Nat} {ss : Int32} {ds : Int32} {ti : Nat → Int32} {co : Int32} {oma : Nat → Int32} {obr : Int32} {obj : Int32} {obo : Int32} {obm : Int32} {plo : Nat → Int32} {pch : Nat → Int32} {pbe : Nat → Int32} {pbl : Int32} {dnu : Nat → Int32} {dde : Nat → Int32} {dbo : Int32} {dln : Int32} {dld : Int32} {tba : Nat → Int32} {tal : Nat → Int32} {tro : Int32} {tsc : Int64} {tcl : Nat → Nat → Int64} {rma : Nat → Int32} {Q : Int32 → Prop} (C0 : cxM cX1_timeOn 3 (some .int) RX1 wsX1_timeOn p s m args meth c dC dI cy A) :
    ∀ (x1 : Int32) (x2 : Int32) (H : Heap) (locs : List Loc) (ls : Array Slot) (hm : p_X1_timeOn N ti co Q x1 x2) (hSt : stC dC dI A s (wC ad cy ss ds ti co oma obr obj obo obm plo pch pbe pbl dnu dde dbo dln dld tba tal tro tsc tcl rma) H locs) (hl : lv_has ls 3 [(0, .ref (ad 1)), (1, .int x1), (2, .int x2)]) (hret : ∀ (r : Int32) (H : Heap) (locs : List Loc) (ls : Array Slot) (pc : Nat), decode cX1_timeOn pc = .ok (.ireturn, 1) → stC dC dI A s (wC ad cy ss ds ti co oma obr obj obo obm plo pch pbe pbl dnu dde dbo dln dld tba tal tro tsc tcl rma) H locs → Q r → W p l e rmX1_timeOn s m args below meth c H locs 0 0 Z (F0 m pc ls [.int r])), W p l e rmX1_timeOn s m args below meth c H locs 0 0 Z (F0 m 0 ls []) := by
  obtain ⟨hx, hb, hml, hr, hown, hts, hlocks, hK, hA, hN⟩ := id C0
  intro x1 x2 H locs ls hm hSt hl hret
  obtain ⟨hP, hD, hS⟩ := hSt
  unfold p_X1_timeOn at hm
  refine lv_iload_n hx hb dX1_timeOn_0 rfl (lv_at hl 1 rfl) ?_
  refine lv_if_lt (tgt := 27) hx hb dX1_timeOn_1 (by decide) (fun c_1 => ?_) (fun c_1 => ?_)
  · have hm := hm.1 c_1
    refine lv_iconst (v := 0) hx hb dX1_timeOn_27 (by decide) ?_
    exact hret (0 : Int32) H locs ls 28 dX1_timeOn_28 ⟨hP, hD, hS⟩ hm
  · have hm := hm.2 c_1
    refine lv_iload_n hx hb dX1_timeOn_4 rfl (lv_at hl 1 rfl) ?_
    refine lv_aload_n hx hb dX1_timeOn_5 rfl (lv_at hl 0 rfl) ?_
    refine va_get (D := (dC, dI)) (ci := 1) (v := .int co) (C := RX1) (T := TX1) (N := 2) hx hb hts in_X1_timeOn_X1 hown hK hP 1 rfl rfl 1 (by decide) (hts _ fl_X1_timeOn_15) (fun _ h9 => h9) rfl dX1_timeOn_6 ?_
    refine lv_icmp_ge (tgt := 27) hx hb dX1_timeOn_9 (by decide) (fun c_2 => ?_) (fun c_2 => ?_)
    · have hm := hm.1 c_2
      refine lv_iconst (v := 0) hx hb dX1_timeOn_27 (by decide) ?_
      exact hret (0 : Int32) H locs ls 28 dX1_timeOn_28 ⟨hP, hD, hS⟩ hm
    · have hm := hm.2 c_2
      refine lv_iload_n hx hb dX1_timeOn_12 rfl (lv_at hl 1 rfl) ?_
      refine lv_bipush (v := 7) hx hb dX1_timeOn_13 (by decide) ?_
      refine lv_icmp_ge (tgt := 27) hx hb dX1_timeOn_15 (by decide) (fun c_3 => ?_) (fun c_3 => ?_)
      · have hm := hm.1 c_3
        refine lv_iconst (v := 0) hx hb dX1_timeOn_27 (by decide) ?_
        exact hret (0 : Int32) H locs ls 28 dX1_timeOn_28 ⟨hP, hD, hS⟩ hm
      · have hm := hm.2 c_3
        refine lv_iload_n hx hb dX1_timeOn_18 rfl (lv_at hl 2 rfl) ?_
        refine lv_if_lt (tgt := 27) hx hb dX1_timeOn_19 (by decide) (fun c_4 => ?_) (fun c_4 => ?_)
        · have hm := hm.1 c_4
          refine lv_iconst (v := 0) hx hb dX1_timeOn_27 (by decide) ?_
          exact hret (0 : Int32) H locs ls 28 dX1_timeOn_28 ⟨hP, hD, hS⟩ hm
        · have hm := hm.2 c_4
          refine lv_iload_n hx hb dX1_timeOn_22 rfl (lv_at hl 2 rfl) ?_
          refine lv_iconst (v := 3) hx hb dX1_timeOn_23 (by decide) ?_
          refine lv_icmp_lt (tgt := 29) hx hb dX1_timeOn_24 (by decide) (fun c_5 => ?_) (fun c_5 => ?_)
          · have hm := hm.1 c_5
            refine lv_aload_n hx hb dX1_timeOn_29 rfl (lv_at hl 0 rfl) ?_
            refine va_get (D := (dC, dI)) (ci := 1) (v := .ref (ad 2)) (C := RX1) (T := TX1) (N := 2) hx hb hts in_X1_timeOn_X1 hown hK hP 1 rfl rfl 0 (by decide) (hts _ fl_X1_timeOn_9) (fun _ h9 => h9) rfl dX1_timeOn_30 ?_
            refine lv_iload_n hx hb dX1_timeOn_33 rfl (lv_at hl 1 rfl) ?_
            refine lv_iconst (v := 3) hx hb dX1_timeOn_34 (by decide) ?_
            refine lv_imul hx hb dX1_timeOn_35 ?_
            refine lv_iload_n hx hb dX1_timeOn_36 rfl (lv_at hl 2 rfl) ?_
            refine lv_iadd hx hb dX1_timeOn_37 ?_
            have hi_6 := hm.1
            have hm := hm.2
            refine va_iald hx hb hK hP 2 0 rfl rfl hi_6 dX1_timeOn_38 ?_
            exact hret (ti ((x1 * (3 : Int32)) + x2).toNatClampNeg) H locs ls 39 dX1_timeOn_39 ⟨hP, hD, hS⟩ hm
          · have hm := hm.2 c_5
            refine lv_iconst (v := 0) hx hb dX1_timeOn_27 (by decide) ?_
            exact hret (0 : Int32) H locs ls 28 dX1_timeOn_28 ⟨hP, hD, hS⟩ hm

set_option maxHeartbeats 4000000 in
set_option maxRecDepth 100000 in
theorem c_X1_timeOn (l : Launch) (dC : Nat → ClassId) (dI : Nat → Nat → Nat) (cy : Nat → ClassId) (ad : Nat → Nat) (sz : Nat) (ss : Int32) (ds : Int32) (ti : Nat → Int32) (co : Int32) (oma : Nat → Int32) (obr : Int32) (obj : Int32) (obo : Int32) (obm : Int32) (plo : Nat → Int32) (pch : Nat → Int32) (pbe : Nat → Int32) (pbl : Int32) (dnu : Nat → Int32) (dde : Nat → Int32) (dbo : Int32) (dln : Int32) (dld : Int32) (tba : Nat → Int32) (tal : Nat → Int32) (tro : Int32) (tsc : Int64) (tcl : Nat → Nat → Int64) (rma : Nat → Int32) (x1 : Int32) (x2 : Int32) (N : Nat) (Q : Int32 → Prop) (hm : p_X1_timeOn N ti co Q x1 x2) : Met l yX1_timeOn wsX1_timeOn rmX1_timeOn (va_Pc [.ref (ad 1), .int x1, .int x2] (cPre dC dI cy (wC ad cy ss ds ti co oma obr obj obo obm plo pch pbe pbl dnu dde dbo dln dld tba tal tro tsc tcl rma) sz)) (va_Qi (fun (r : Int32) (u : Unit) => Q r) (fun u t => cPost dC dI cy (wC ad cy ss ds ti co oma obr obj obo obm plo pch pbe pbl dnu dde dbo dln dld tba tal tro tsc tcl rma) sz (wC ad cy ss ds ti co oma obr obj obo obm plo pch pbe pbl dnu dde dbo dln dld tba tal tro tsc tcl rma) t) (va_A (wC ad cy ss ds ti co oma obr obj obo obm plo pch pbe pbl dnu dde dbo dln dld tba tal tro tsc tcl rma) sz)) 0 0 (va_A (wC ad cy ss ds ti co oma obr obj obo obm plo pch pbe pbl dnu dde dbo dln dld tba tal tro tsc tcl rma) sz) := by
  refine Met.ofW (cc := cX1_timeOn) (maxL := 3) (ret := (some .int)) (by decide) rfl ?_
  intro p e s m args below meth c s₁ B hml hv
  obtain ⟨rfl, hsz, hP, hK, hD0, hN⟩ := hv
  have hts := atoms_spec (ws := wsX1_timeOn) B.pre
  have hown : s.vm.findClass RX1 = some m.cls := findClass_of_methodNamed B.named
  subst hsz
  have hD := hD0.self (sz := s.heap.size)
  generalize hAe : va_A (wC ad cy ss ds ti co oma obr obj obo obm plo pch pbe pbl dnu dde dbo dln dld tba tal tro tsc tcl rma) s.heap.size = A at hD ⊢
  have hA : ∀ q : Nat, s.heap.size ≤ q → A q := fun q h => by rw [← hAe]; exact Or.inr h
  have hl := lv_entry ([.ref (ad 1), .int x1, .int x2]) (n := 3) (Nat.le_of_ble_eq_true rfl)
  rw [lg_entry_eq]
  generalize (lg_sl ([.ref (ad 1), .int x1, .int x2]) ++ List.replicate (3 - (lg_sl ([.ref (ad 1), .int x1, .int x2])).length) Slot.unset).toArray = ls at hl ⊢
  have hl : lv_has ls 3 [(0, .ref (ad 1)), (1, .int x1), (2, .int x2)] := hl
  exact k_X1_timeOn_0 ⟨B.exec, B.bytes, hml, B.returns, hown, hts, B.notSynchronized, hK, hA, hN⟩ x1 x2 s.heap [] ls hm ⟨hP, hD, va_S.rf⟩ (lv_sub hl [0, 1, 2] rfl) (fun r H locs ls pc hdg hSt hq => W.iret B.exec B.bytes B.returns (fun t ht hW => ⟨⟨r, (), rfl, hq, cPost_of hAe ht hW.alike hSt hK⟩, hSt.2.2.F ht⟩) hSt.2.2.2.2 hdg B.notSynchronized)

-- ===== X1_loadOn
theorem fl_X1_loadOn_15 : Cond.fieldLink RX1 15 "UnlikeUnion$Jobs" "count" "I" ∈ wsX1_loadOn := by decide +kernel
theorem in_X1_loadOn_X1 : ∀ w ∈ u_ws RX1 TX1 2, w ∈ wsX1_loadOn := by decide +kernel
abbrev rmX1_loadOn : Room := { frames := 2, cells := 0, slots := 0, locals := 145 }
def p_X1_loadOn_5 (N : Nat) (pa : Nat → Int32) (ti : Nat → Int32) (co : Int32) (Q : Int32 → Prop) : Nat → Int32 → Int32 → Int32 → Prop
  | 0 => fun _ _ _ => False
  | n + 1 => fun x2 x3 x4 => (co ≤ x4 → (Q x3)) ∧ (¬ co ≤ x4 → (((7 : Int32) ≤ x4 → (Q x3)) ∧ (¬ (7 : Int32) ≤ x4 → (vp_in x4 7 ∧ (((pa (x4).toNatClampNeg) = x2 → (p_X1_timeOn N ti co (fun r_6 => ∀ x3_7 : Int32, x3_7 = x3 + r_6 → (∀ x4_8 : Int32, x4_8 = x4 + (1 : Int32) → (p_X1_loadOn_5 N pa ti co Q n x2 x3_7 x4_8))) x4 x2)) ∧ (¬ (pa (x4).toNatClampNeg) = x2 → (∀ x4_5 : Int32, x4_5 = x4 + (1 : Int32) → (p_X1_loadOn_5 N pa ti co Q n x2 x3 x4_5))))))))

def p_X1_loadOn (N : Nat) (pa : Nat → Int32) (ti : Nat → Int32) (co : Int32) (Q : Int32 → Prop) (x2 : Int32) : Prop :=
  p_X1_loadOn_5 N pa ti co Q N x2 (0 : Int32) (0 : Int32)

set_option maxHeartbeats 4000000 in
set_option maxRecDepth 100000 in
theorem k_X1_loadOn_o_5 {N : Nat} {ss : Int32} {ds : Int32} {ti : Nat → Int32} {co : Int32} {oma : Nat → Int32} {obr : Int32} {obj : Int32} {obo : Int32} {obm : Int32} {plo : Nat → Int32} {pch : Nat → Int32} {pbe : Nat → Int32} {pbl : Int32} {dnu : Nat → Int32} {dde : Nat → Int32} {dbo : Int32} {dln : Int32} {dld : Int32} {tba : Nat → Int32} {tal : Nat → Int32} {tro : Int32} {tsc : Int64} {tcl : Nat → Nat → Int64} {rma : Nat → Int32} {Q : Int32 → Prop} (C0 : cxM cX1_loadOn 5 (some .int) RX1 wsX1_loadOn p s m args meth c dC dI cy A) :
    ∀ (n : Nat) (x2 : Int32) (x3 : Int32) (x4 : Int32) (H : Heap) (locs : List Loc) (ls : Array Slot) (hm : p_X1_loadOn_5 N oma ti co Q n x2 x3 x4) (hSt : stC dC dI A s (wC ad cy ss ds ti co oma obr obj obo obm plo pch pbe pbl dnu dde dbo dln dld tba tal tro tsc tcl rma) H locs) (hl : lv_has ls 5 [(0, .ref (ad 1)), (1, .ref (ad 4)), (2, .int x2), (3, .int x3), (4, .int x4)]) (hret : ∀ (r : Int32) (H : Heap) (locs : List Loc) (ls : Array Slot) (pc : Nat), decode cX1_loadOn pc = .ok (.ireturn, 1) → stC dC dI A s (wC ad cy ss ds ti co oma obr obj obo obm plo pch pbe pbl dnu dde dbo dln dld tba tal tro tsc tcl rma) H locs → Q r → W p l e rmX1_loadOn s m args below meth c H locs 0 0 Z (F0 m pc ls [.int r])), W p l e rmX1_loadOn s m args below meth c H locs 0 0 Z (F0 m 5 ls []) := by
  obtain ⟨hx, hb, hml, hr, hown, hts, hlocks, hK, hA, hN⟩ := id C0
  intro n
  induction n with
  | zero => intro x2 x3 x4 H locs ls hm; exact False.elim hm
  | succ n ih =>
    intro x2 x3 x4 H locs ls hm hSt hl hret
    obtain ⟨hP, hD, hS⟩ := hSt
    unfold p_X1_loadOn_5 at hm
    refine lv_iload hx hb dX1_loadOn_5 (lv_at hl 4 rfl) ?_
    refine lv_aload_n hx hb dX1_loadOn_7 rfl (lv_at hl 0 rfl) ?_
    refine va_get (D := (dC, dI)) (ci := 1) (v := .int co) (C := RX1) (T := TX1) (N := 2) hx hb hts in_X1_loadOn_X1 hown hK hP 1 rfl rfl 1 (by decide) (hts _ fl_X1_loadOn_15) (fun _ h9 => h9) rfl dX1_loadOn_8 ?_
    refine lv_icmp_ge (tgt := 45) hx hb dX1_loadOn_11 (by decide) (fun c_1 => ?_) (fun c_1 => ?_)
    · have hm := hm.1 c_1
      refine lv_iload_n hx hb dX1_loadOn_45 rfl (lv_at hl 3 rfl) ?_
      exact hret x3 H locs ls 46 dX1_loadOn_46 ⟨hP, hD, hS⟩ hm
    · have hm := hm.2 c_1
      refine lv_iload hx hb dX1_loadOn_14 (lv_at hl 4 rfl) ?_
      refine lv_aload_n hx hb dX1_loadOn_16 rfl (lv_at hl 1 rfl) ?_
      refine va_alen hx hb hK hP 4 0 rfl rfl (v := 7) rfl dX1_loadOn_17 ?_
      refine lv_icmp_ge (tgt := 45) hx hb dX1_loadOn_18 (by decide) (fun c_2 => ?_) (fun c_2 => ?_)
      · have hm := hm.1 c_2
        refine lv_iload_n hx hb dX1_loadOn_45 rfl (lv_at hl 3 rfl) ?_
        exact hret x3 H locs ls 46 dX1_loadOn_46 ⟨hP, hD, hS⟩ hm
      · have hm := hm.2 c_2
        refine lv_aload_n hx hb dX1_loadOn_21 rfl (lv_at hl 1 rfl) ?_
        refine lv_iload hx hb dX1_loadOn_22 (lv_at hl 4 rfl) ?_
        have hi_3 := hm.1
        have hm := hm.2
        refine va_iald hx hb hK hP 4 0 rfl rfl hi_3 dX1_loadOn_24 ?_
        refine lv_iload_n hx hb dX1_loadOn_25 rfl (lv_at hl 2 rfl) ?_
        refine lv_icmp_ne (tgt := 39) hx hb dX1_loadOn_26 (by decide) (fun c_4 => ?_) (fun c_4 => ?_)
        · have hm := hm.2 c_4
          obtain ⟨x4_5, ex4_5⟩ : ∃ y : Int32, y = x4 + (1 : Int32) := ⟨_, rfl⟩
          have hm := hm x4_5 ex4_5
          refine lv_iinc (v := x4_5) (lv' := [(4, .int x4_5), (0, .ref (ad 1)), (1, .ref (ad 4)), (2, .int x2), (3, .int x3)]) hx hb dX1_loadOn_39 hl (k := 4) rfl (by rw [ex4_5]; rfl) (by decide) rfl (fun ls hl => ?_)
          refine lv_goto (tgt := 5) hx hb dX1_loadOn_42 (by decide) ?_
          exact ih x2 x3 x4_5 H locs ls hm ⟨hP, hD, hS⟩ (lv_sub hl [1, 2, 3, 4, 0] rfl) hret
        · have hm := hm.1 c_4
          refine lv_iload_n hx hb dX1_loadOn_29 rfl (lv_at hl 3 rfl) ?_
          refine lv_aload_n hx hb dX1_loadOn_30 rfl (lv_at hl 0 rfl) ?_
          refine lv_iload hx hb dX1_loadOn_31 (lv_at hl 4 rfl) ?_
          refine lv_iload_n hx hb dX1_loadOn_33 rfl (lv_at hl 2 rfl) ?_
          have hFc := va_freeSame hD hS hA
          refine va_calli (va_runV (As := [.int x4, .int x2]) (rest := [.int x3]) ⟨hx, hb, hml, hown, hts⟩ (c_X1_timeOn l dC dI cy ad H.size ss ds ti co oma obr obj obo obm plo pch pbe pbl dnu dde dbo dln dld tba tal tro tsc tcl rma x4 x2 _ _ hm) (cwV 2 hts gX1_loadOn_X1_timeOn rfl rfl rfl (by decide +kernel) ⟨Nat.le_of_ble_eq_true rfl, Nat.le_of_ble_eq_true rfl⟩) ⟨cPre_blind, va_recv hK hP (ci := 1) (q0 := 1) rfl rfl, fun U hU hW => ⟨rfl, cPre_at hP hK hD hN hU hW⟩⟩ rfl rfl hl.1 rfl (lv_room (Nat.le_of_ble_eq_true rfl)) dX1_loadOn_34 ⟨Nat.zero_le _, Nat.zero_le _⟩) hS (fun q _ h => hFc q h) hFc (fun r_6 u t H locs ht hvm hw hB hz1 hk1 hS => ?_)
          try dsimp only at hw
          have hm := hw
          have hP : va_P (dC, dI) vwCl (wC ad cy ss ds ti co oma obr obj obo obm plo pch pbe pbl dnu dde dbo dln dld tba tal tro tsc tcl rma) H := cPost_P ht hB
          have hD : va_D A (wC ad cy ss ds ti co oma obr obj obo obm plo pch pbe pbl dnu dde dbo dln dld tba tal tro tsc tcl rma) := cPost_D hFc hB
          refine lv_iadd hx hb dX1_loadOn_37 ?_
          refine lv_topi (fun x3_7 ex3_7 => ?_)
          have hm := hm x3_7 ex3_7
          refine lv_istore_n (lv' := [(3, .int x3_7), (0, .ref (ad 1)), (1, .ref (ad 4)), (2, .int x2), (4, .int x4)]) hx hb dX1_loadOn_38 rfl hl (by decide) rfl (fun ls hl => ?_)
          obtain ⟨x4_8, ex4_8⟩ : ∃ y : Int32, y = x4 + (1 : Int32) := ⟨_, rfl⟩
          have hm := hm x4_8 ex4_8
          refine lv_iinc (v := x4_8) (lv' := [(4, .int x4_8), (3, .int x3_7), (0, .ref (ad 1)), (1, .ref (ad 4)), (2, .int x2)]) hx hb dX1_loadOn_39 hl (k := 4) rfl (by rw [ex4_8]; rfl) (by decide) rfl (fun ls hl => ?_)
          refine lv_goto (tgt := 5) hx hb dX1_loadOn_42 (by decide) ?_
          exact ih x2 x3_7 x4_8 H locs ls hm ⟨hP, hD, hS⟩ (lv_sub hl [2, 3, 4, 1, 0] rfl) hret

set_option maxHeartbeats 4000000 in
set_option maxRecDepth 100000 in
theorem k_X1_loadOn_o_0 {N : Nat} {ss : Int32} {ds : Int32} {ti : Nat → Int32} {co : Int32} {oma : Nat → Int32} {obr : Int32} {obj : Int32} {obo : Int32} {obm : Int32} {plo : Nat → Int32} {pch : Nat → Int32} {pbe : Nat → Int32} {pbl : Int32} {dnu : Nat → Int32} {dde : Nat → Int32} {dbo : Int32} {dln : Int32} {dld : Int32} {tba : Nat → Int32} {tal : Nat → Int32} {tro : Int32} {tsc : Int64} {tcl : Nat → Nat → Int64} {rma : Nat → Int32} {Q : Int32 → Prop} (C0 : cxM cX1_loadOn 5 (some .int) RX1 wsX1_loadOn p s m args meth c dC dI cy A) :
    ∀ (x2 : Int32) (H : Heap) (locs : List Loc) (ls : Array Slot) (hm : p_X1_loadOn N oma ti co Q x2) (hSt : stC dC dI A s (wC ad cy ss ds ti co oma obr obj obo obm plo pch pbe pbl dnu dde dbo dln dld tba tal tro tsc tcl rma) H locs) (hl : lv_has ls 5 [(0, .ref (ad 1)), (1, .ref (ad 4)), (2, .int x2)]) (hret : ∀ (r : Int32) (H : Heap) (locs : List Loc) (ls : Array Slot) (pc : Nat), decode cX1_loadOn pc = .ok (.ireturn, 1) → stC dC dI A s (wC ad cy ss ds ti co oma obr obj obo obm plo pch pbe pbl dnu dde dbo dln dld tba tal tro tsc tcl rma) H locs → Q r → W p l e rmX1_loadOn s m args below meth c H locs 0 0 Z (F0 m pc ls [.int r])), W p l e rmX1_loadOn s m args below meth c H locs 0 0 Z (F0 m 0 ls []) := by
  obtain ⟨hx, hb, hml, hr, hown, hts, hlocks, hK, hA, hN⟩ := id C0
  intro x2 H locs ls hm hSt hl hret
  obtain ⟨hP, hD, hS⟩ := hSt
  unfold p_X1_loadOn at hm
  refine lv_iconst (v := 0) hx hb dX1_loadOn_0 (by decide) ?_
  refine lv_istore_n (lv' := [(3, .int (0 : Int32)), (0, .ref (ad 1)), (1, .ref (ad 4)), (2, .int x2)]) hx hb dX1_loadOn_1 rfl hl (by decide) rfl (fun ls hl => ?_)
  refine lv_iconst (v := 0) hx hb dX1_loadOn_2 (by decide) ?_
  refine lv_istore (lv' := [(4, .int (0 : Int32)), (3, .int (0 : Int32)), (0, .ref (ad 1)), (1, .ref (ad 4)), (2, .int x2)]) hx hb dX1_loadOn_3 hl (by decide) rfl (fun ls hl => ?_)
  exact k_X1_loadOn_o_5 C0 N x2 (0 : Int32) (0 : Int32) H locs ls hm ⟨hP, hD, hS⟩ (lv_sub hl [2, 3, 4, 1, 0] rfl) hret

set_option maxHeartbeats 4000000 in
set_option maxRecDepth 100000 in
theorem c_X1_loadOn_o (l : Launch) (dC : Nat → ClassId) (dI : Nat → Nat → Nat) (cy : Nat → ClassId) (ad : Nat → Nat) (sz : Nat) (ss : Int32) (ds : Int32) (ti : Nat → Int32) (co : Int32) (oma : Nat → Int32) (obr : Int32) (obj : Int32) (obo : Int32) (obm : Int32) (plo : Nat → Int32) (pch : Nat → Int32) (pbe : Nat → Int32) (pbl : Int32) (dnu : Nat → Int32) (dde : Nat → Int32) (dbo : Int32) (dln : Int32) (dld : Int32) (tba : Nat → Int32) (tal : Nat → Int32) (tro : Int32) (tsc : Int64) (tcl : Nat → Nat → Int64) (rma : Nat → Int32) (x2 : Int32) (N : Nat) (Q : Int32 → Prop) (hm : p_X1_loadOn N oma ti co Q x2) : Met l yX1_loadOn wsX1_loadOn rmX1_loadOn (va_Pc [.ref (ad 1), .ref (ad 4), .int x2] (cPre dC dI cy (wC ad cy ss ds ti co oma obr obj obo obm plo pch pbe pbl dnu dde dbo dln dld tba tal tro tsc tcl rma) sz)) (va_Qi (fun (r : Int32) (u : Unit) => Q r) (fun u t => cPost dC dI cy (wC ad cy ss ds ti co oma obr obj obo obm plo pch pbe pbl dnu dde dbo dln dld tba tal tro tsc tcl rma) sz (wC ad cy ss ds ti co oma obr obj obo obm plo pch pbe pbl dnu dde dbo dln dld tba tal tro tsc tcl rma) t) (va_A (wC ad cy ss ds ti co oma obr obj obo obm plo pch pbe pbl dnu dde dbo dln dld tba tal tro tsc tcl rma) sz)) 0 0 (va_A (wC ad cy ss ds ti co oma obr obj obo obm plo pch pbe pbl dnu dde dbo dln dld tba tal tro tsc tcl rma) sz) := by
  refine Met.ofW (cc := cX1_loadOn) (maxL := 5) (ret := (some .int)) (by decide) rfl ?_
  intro p e s m args below meth c s₁ B hml hv
  obtain ⟨rfl, hsz, hP, hK, hD0, hN⟩ := hv
  have hts := atoms_spec (ws := wsX1_loadOn) B.pre
  have hown : s.vm.findClass RX1 = some m.cls := findClass_of_methodNamed B.named
  subst hsz
  have hD := hD0.self (sz := s.heap.size)
  generalize hAe : va_A (wC ad cy ss ds ti co oma obr obj obo obm plo pch pbe pbl dnu dde dbo dln dld tba tal tro tsc tcl rma) s.heap.size = A at hD ⊢
  have hA : ∀ q : Nat, s.heap.size ≤ q → A q := fun q h => by rw [← hAe]; exact Or.inr h
  have hl := lv_entry ([.ref (ad 1), .ref (ad 4), .int x2]) (n := 5) (Nat.le_of_ble_eq_true rfl)
  rw [lg_entry_eq]
  generalize (lg_sl ([.ref (ad 1), .ref (ad 4), .int x2]) ++ List.replicate (5 - (lg_sl ([.ref (ad 1), .ref (ad 4), .int x2])).length) Slot.unset).toArray = ls at hl ⊢
  have hl : lv_has ls 5 [(0, .ref (ad 1)), (1, .ref (ad 4)), (2, .int x2)] := hl
  exact k_X1_loadOn_o_0 ⟨B.exec, B.bytes, hml, B.returns, hown, hts, B.notSynchronized, hK, hA, hN⟩ x2 s.heap [] ls hm ⟨hP, hD, va_S.rf⟩ (lv_sub hl [0, 1, 2] rfl) (fun r H locs ls pc hdg hSt hq => W.iret B.exec B.bytes B.returns (fun t ht hW => ⟨⟨r, (), rfl, hq, cPost_of hAe ht hW.alike hSt hK⟩, hSt.2.2.F ht⟩) hSt.2.2.2.2 hdg B.notSynchronized)

set_option maxHeartbeats 4000000 in
set_option maxRecDepth 100000 in
theorem k_X1_loadOn_r_5 {N : Nat} {ss : Int32} {ds : Int32} {ti : Nat → Int32} {co : Int32} {oma : Nat → Int32} {obr : Int32} {obj : Int32} {obo : Int32} {obm : Int32} {plo : Nat → Int32} {pch : Nat → Int32} {pbe : Nat → Int32} {pbl : Int32} {dnu : Nat → Int32} {dde : Nat → Int32} {dbo : Int32} {dln : Int32} {dld : Int32} {tba : Nat → Int32} {tal : Nat → Int32} {tro : Int32} {tsc : Int64} {tcl : Nat → Nat → Int64} {rma : Nat → Int32} {Q : Int32 → Prop} (C0 : cxM cX1_loadOn 5 (some .int) RX1 wsX1_loadOn p s m args meth c dC dI cy A) :
    ∀ (n : Nat) (x2 : Int32) (x3 : Int32) (x4 : Int32) (H : Heap) (locs : List Loc) (ls : Array Slot) (hm : p_X1_loadOn_5 N rma ti co Q n x2 x3 x4) (hSt : stC dC dI A s (wC ad cy ss ds ti co oma obr obj obo obm plo pch pbe pbl dnu dde dbo dln dld tba tal tro tsc tcl rma) H locs) (hl : lv_has ls 5 [(0, .ref (ad 1)), (1, .ref (ad 17)), (2, .int x2), (3, .int x3), (4, .int x4)]) (hret : ∀ (r : Int32) (H : Heap) (locs : List Loc) (ls : Array Slot) (pc : Nat), decode cX1_loadOn pc = .ok (.ireturn, 1) → stC dC dI A s (wC ad cy ss ds ti co oma obr obj obo obm plo pch pbe pbl dnu dde dbo dln dld tba tal tro tsc tcl rma) H locs → Q r → W p l e rmX1_loadOn s m args below meth c H locs 0 0 Z (F0 m pc ls [.int r])), W p l e rmX1_loadOn s m args below meth c H locs 0 0 Z (F0 m 5 ls []) := by
  obtain ⟨hx, hb, hml, hr, hown, hts, hlocks, hK, hA, hN⟩ := id C0
  intro n
  induction n with
  | zero => intro x2 x3 x4 H locs ls hm; exact False.elim hm
  | succ n ih =>
    intro x2 x3 x4 H locs ls hm hSt hl hret
    obtain ⟨hP, hD, hS⟩ := hSt
    unfold p_X1_loadOn_5 at hm
    refine lv_iload hx hb dX1_loadOn_5 (lv_at hl 4 rfl) ?_
    refine lv_aload_n hx hb dX1_loadOn_7 rfl (lv_at hl 0 rfl) ?_
    refine va_get (D := (dC, dI)) (ci := 1) (v := .int co) (C := RX1) (T := TX1) (N := 2) hx hb hts in_X1_loadOn_X1 hown hK hP 1 rfl rfl 1 (by decide) (hts _ fl_X1_loadOn_15) (fun _ h9 => h9) rfl dX1_loadOn_8 ?_
    refine lv_icmp_ge (tgt := 45) hx hb dX1_loadOn_11 (by decide) (fun c_1 => ?_) (fun c_1 => ?_)
    · have hm := hm.1 c_1
      refine lv_iload_n hx hb dX1_loadOn_45 rfl (lv_at hl 3 rfl) ?_
      exact hret x3 H locs ls 46 dX1_loadOn_46 ⟨hP, hD, hS⟩ hm
    · have hm := hm.2 c_1
      refine lv_iload hx hb dX1_loadOn_14 (lv_at hl 4 rfl) ?_
      refine lv_aload_n hx hb dX1_loadOn_16 rfl (lv_at hl 1 rfl) ?_
      refine va_alen hx hb hK hP 17 0 rfl rfl (v := 7) rfl dX1_loadOn_17 ?_
      refine lv_icmp_ge (tgt := 45) hx hb dX1_loadOn_18 (by decide) (fun c_2 => ?_) (fun c_2 => ?_)
      · have hm := hm.1 c_2
        refine lv_iload_n hx hb dX1_loadOn_45 rfl (lv_at hl 3 rfl) ?_
        exact hret x3 H locs ls 46 dX1_loadOn_46 ⟨hP, hD, hS⟩ hm
      · have hm := hm.2 c_2
        refine lv_aload_n hx hb dX1_loadOn_21 rfl (lv_at hl 1 rfl) ?_
        refine lv_iload hx hb dX1_loadOn_22 (lv_at hl 4 rfl) ?_
        have hi_3 := hm.1
        have hm := hm.2
        refine va_iald hx hb hK hP 17 0 rfl rfl hi_3 dX1_loadOn_24 ?_
        refine lv_iload_n hx hb dX1_loadOn_25 rfl (lv_at hl 2 rfl) ?_
        refine lv_icmp_ne (tgt := 39) hx hb dX1_loadOn_26 (by decide) (fun c_4 => ?_) (fun c_4 => ?_)
        · have hm := hm.2 c_4
          obtain ⟨x4_5, ex4_5⟩ : ∃ y : Int32, y = x4 + (1 : Int32) := ⟨_, rfl⟩
          have hm := hm x4_5 ex4_5
          refine lv_iinc (v := x4_5) (lv' := [(4, .int x4_5), (0, .ref (ad 1)), (1, .ref (ad 17)), (2, .int x2), (3, .int x3)]) hx hb dX1_loadOn_39 hl (k := 4) rfl (by rw [ex4_5]; rfl) (by decide) rfl (fun ls hl => ?_)
          refine lv_goto (tgt := 5) hx hb dX1_loadOn_42 (by decide) ?_
          exact ih x2 x3 x4_5 H locs ls hm ⟨hP, hD, hS⟩ (lv_sub hl [1, 2, 3, 4, 0] rfl) hret
        · have hm := hm.1 c_4
          refine lv_iload_n hx hb dX1_loadOn_29 rfl (lv_at hl 3 rfl) ?_
          refine lv_aload_n hx hb dX1_loadOn_30 rfl (lv_at hl 0 rfl) ?_
          refine lv_iload hx hb dX1_loadOn_31 (lv_at hl 4 rfl) ?_
          refine lv_iload_n hx hb dX1_loadOn_33 rfl (lv_at hl 2 rfl) ?_
          have hFc := va_freeSame hD hS hA
          refine va_calli (va_runV (As := [.int x4, .int x2]) (rest := [.int x3]) ⟨hx, hb, hml, hown, hts⟩ (c_X1_timeOn l dC dI cy ad H.size ss ds ti co oma obr obj obo obm plo pch pbe pbl dnu dde dbo dln dld tba tal tro tsc tcl rma x4 x2 _ _ hm) (cwV 2 hts gX1_loadOn_X1_timeOn rfl rfl rfl (by decide +kernel) ⟨Nat.le_of_ble_eq_true rfl, Nat.le_of_ble_eq_true rfl⟩) ⟨cPre_blind, va_recv hK hP (ci := 1) (q0 := 1) rfl rfl, fun U hU hW => ⟨rfl, cPre_at hP hK hD hN hU hW⟩⟩ rfl rfl hl.1 rfl (lv_room (Nat.le_of_ble_eq_true rfl)) dX1_loadOn_34 ⟨Nat.zero_le _, Nat.zero_le _⟩) hS (fun q _ h => hFc q h) hFc (fun r_6 u t H locs ht hvm hw hB hz1 hk1 hS => ?_)
          try dsimp only at hw
          have hm := hw
          have hP : va_P (dC, dI) vwCl (wC ad cy ss ds ti co oma obr obj obo obm plo pch pbe pbl dnu dde dbo dln dld tba tal tro tsc tcl rma) H := cPost_P ht hB
          have hD : va_D A (wC ad cy ss ds ti co oma obr obj obo obm plo pch pbe pbl dnu dde dbo dln dld tba tal tro tsc tcl rma) := cPost_D hFc hB
          refine lv_iadd hx hb dX1_loadOn_37 ?_
          refine lv_topi (fun x3_7 ex3_7 => ?_)
          have hm := hm x3_7 ex3_7
          refine lv_istore_n (lv' := [(3, .int x3_7), (0, .ref (ad 1)), (1, .ref (ad 17)), (2, .int x2), (4, .int x4)]) hx hb dX1_loadOn_38 rfl hl (by decide) rfl (fun ls hl => ?_)
          obtain ⟨x4_8, ex4_8⟩ : ∃ y : Int32, y = x4 + (1 : Int32) := ⟨_, rfl⟩
          have hm := hm x4_8 ex4_8
          refine lv_iinc (v := x4_8) (lv' := [(4, .int x4_8), (3, .int x3_7), (0, .ref (ad 1)), (1, .ref (ad 17)), (2, .int x2)]) hx hb dX1_loadOn_39 hl (k := 4) rfl (by rw [ex4_8]; rfl) (by decide) rfl (fun ls hl => ?_)
          refine lv_goto (tgt := 5) hx hb dX1_loadOn_42 (by decide) ?_
          exact ih x2 x3_7 x4_8 H locs ls hm ⟨hP, hD, hS⟩ (lv_sub hl [2, 3, 4, 1, 0] rfl) hret

set_option maxHeartbeats 4000000 in
set_option maxRecDepth 100000 in
theorem k_X1_loadOn_r_0 {N : Nat} {ss : Int32} {ds : Int32} {ti : Nat → Int32} {co : Int32} {oma : Nat → Int32} {obr : Int32} {obj : Int32} {obo : Int32} {obm : Int32} {plo : Nat → Int32} {pch : Nat → Int32} {pbe : Nat → Int32} {pbl : Int32} {dnu : Nat → Int32} {dde : Nat → Int32} {dbo : Int32} {dln : Int32} {dld : Int32} {tba : Nat → Int32} {tal : Nat → Int32} {tro : Int32} {tsc : Int64} {tcl : Nat → Nat → Int64} {rma : Nat → Int32} {Q : Int32 → Prop} (C0 : cxM cX1_loadOn 5 (some .int) RX1 wsX1_loadOn p s m args meth c dC dI cy A) :
    ∀ (x2 : Int32) (H : Heap) (locs : List Loc) (ls : Array Slot) (hm : p_X1_loadOn N rma ti co Q x2) (hSt : stC dC dI A s (wC ad cy ss ds ti co oma obr obj obo obm plo pch pbe pbl dnu dde dbo dln dld tba tal tro tsc tcl rma) H locs) (hl : lv_has ls 5 [(0, .ref (ad 1)), (1, .ref (ad 17)), (2, .int x2)]) (hret : ∀ (r : Int32) (H : Heap) (locs : List Loc) (ls : Array Slot) (pc : Nat), decode cX1_loadOn pc = .ok (.ireturn, 1) → stC dC dI A s (wC ad cy ss ds ti co oma obr obj obo obm plo pch pbe pbl dnu dde dbo dln dld tba tal tro tsc tcl rma) H locs → Q r → W p l e rmX1_loadOn s m args below meth c H locs 0 0 Z (F0 m pc ls [.int r])), W p l e rmX1_loadOn s m args below meth c H locs 0 0 Z (F0 m 0 ls []) := by
  obtain ⟨hx, hb, hml, hr, hown, hts, hlocks, hK, hA, hN⟩ := id C0
  intro x2 H locs ls hm hSt hl hret
  obtain ⟨hP, hD, hS⟩ := hSt
  unfold p_X1_loadOn at hm
  refine lv_iconst (v := 0) hx hb dX1_loadOn_0 (by decide) ?_
  refine lv_istore_n (lv' := [(3, .int (0 : Int32)), (0, .ref (ad 1)), (1, .ref (ad 17)), (2, .int x2)]) hx hb dX1_loadOn_1 rfl hl (by decide) rfl (fun ls hl => ?_)
  refine lv_iconst (v := 0) hx hb dX1_loadOn_2 (by decide) ?_
  refine lv_istore (lv' := [(4, .int (0 : Int32)), (3, .int (0 : Int32)), (0, .ref (ad 1)), (1, .ref (ad 17)), (2, .int x2)]) hx hb dX1_loadOn_3 hl (by decide) rfl (fun ls hl => ?_)
  exact k_X1_loadOn_r_5 C0 N x2 (0 : Int32) (0 : Int32) H locs ls hm ⟨hP, hD, hS⟩ (lv_sub hl [2, 3, 4, 1, 0] rfl) hret

set_option maxHeartbeats 4000000 in
set_option maxRecDepth 100000 in
theorem c_X1_loadOn_r (l : Launch) (dC : Nat → ClassId) (dI : Nat → Nat → Nat) (cy : Nat → ClassId) (ad : Nat → Nat) (sz : Nat) (ss : Int32) (ds : Int32) (ti : Nat → Int32) (co : Int32) (oma : Nat → Int32) (obr : Int32) (obj : Int32) (obo : Int32) (obm : Int32) (plo : Nat → Int32) (pch : Nat → Int32) (pbe : Nat → Int32) (pbl : Int32) (dnu : Nat → Int32) (dde : Nat → Int32) (dbo : Int32) (dln : Int32) (dld : Int32) (tba : Nat → Int32) (tal : Nat → Int32) (tro : Int32) (tsc : Int64) (tcl : Nat → Nat → Int64) (rma : Nat → Int32) (x2 : Int32) (N : Nat) (Q : Int32 → Prop) (hm : p_X1_loadOn N rma ti co Q x2) : Met l yX1_loadOn wsX1_loadOn rmX1_loadOn (va_Pc [.ref (ad 1), .ref (ad 17), .int x2] (cPre dC dI cy (wC ad cy ss ds ti co oma obr obj obo obm plo pch pbe pbl dnu dde dbo dln dld tba tal tro tsc tcl rma) sz)) (va_Qi (fun (r : Int32) (u : Unit) => Q r) (fun u t => cPost dC dI cy (wC ad cy ss ds ti co oma obr obj obo obm plo pch pbe pbl dnu dde dbo dln dld tba tal tro tsc tcl rma) sz (wC ad cy ss ds ti co oma obr obj obo obm plo pch pbe pbl dnu dde dbo dln dld tba tal tro tsc tcl rma) t) (va_A (wC ad cy ss ds ti co oma obr obj obo obm plo pch pbe pbl dnu dde dbo dln dld tba tal tro tsc tcl rma) sz)) 0 0 (va_A (wC ad cy ss ds ti co oma obr obj obo obm plo pch pbe pbl dnu dde dbo dln dld tba tal tro tsc tcl rma) sz) := by
  refine Met.ofW (cc := cX1_loadOn) (maxL := 5) (ret := (some .int)) (by decide) rfl ?_
  intro p e s m args below meth c s₁ B hml hv
  obtain ⟨rfl, hsz, hP, hK, hD0, hN⟩ := hv
  have hts := atoms_spec (ws := wsX1_loadOn) B.pre
  have hown : s.vm.findClass RX1 = some m.cls := findClass_of_methodNamed B.named
  subst hsz
  have hD := hD0.self (sz := s.heap.size)
  generalize hAe : va_A (wC ad cy ss ds ti co oma obr obj obo obm plo pch pbe pbl dnu dde dbo dln dld tba tal tro tsc tcl rma) s.heap.size = A at hD ⊢
  have hA : ∀ q : Nat, s.heap.size ≤ q → A q := fun q h => by rw [← hAe]; exact Or.inr h
  have hl := lv_entry ([.ref (ad 1), .ref (ad 17), .int x2]) (n := 5) (Nat.le_of_ble_eq_true rfl)
  rw [lg_entry_eq]
  generalize (lg_sl ([.ref (ad 1), .ref (ad 17), .int x2]) ++ List.replicate (5 - (lg_sl ([.ref (ad 1), .ref (ad 17), .int x2])).length) Slot.unset).toArray = ls at hl ⊢
  have hl : lv_has ls 5 [(0, .ref (ad 1)), (1, .ref (ad 17)), (2, .int x2)] := hl
  exact k_X1_loadOn_r_0 ⟨B.exec, B.bytes, hml, B.returns, hown, hts, B.notSynchronized, hK, hA, hN⟩ x2 s.heap [] ls hm ⟨hP, hD, va_S.rf⟩ (lv_sub hl [0, 1, 2] rfl) (fun r H locs ls pc hdg hSt hq => W.iret B.exec B.bytes B.returns (fun t ht hW => ⟨⟨r, (), rfl, hq, cPost_of hAe ht hW.alike hSt hK⟩, hSt.2.2.F ht⟩) hSt.2.2.2.2 hdg B.notSynchronized)

-- ===== X1_greatestLoad
abbrev rmX1_greatestLoad : Room := { frames := 3, cells := 0, slots := 0, locals := 229 }
def p_X1_greatestLoad (N : Nat) (pa : Nat → Int32) (ti : Nat → Int32) (co : Int32) (Q : Int32 → Prop)  : Prop :=
  p_X1_loadOn N pa ti co (fun r_1 => p_X1_loadOn N pa ti co (fun r_2 => ∀ v_3 : Int32, v_3 = (if r_1 < r_2 then r_2 else r_1) → (p_X1_loadOn N pa ti co (fun r_4 => ∀ v_5 : Int32, v_5 = (if v_3 < r_4 then r_4 else v_3) → (Q v_5)) (2 : Int32))) (1 : Int32)) (0 : Int32)

set_option maxHeartbeats 4000000 in
set_option maxRecDepth 100000 in
theorem k_X1_greatestLoad_o_0 {N : Nat} {ss : Int32} {ds : Int32} {ti : Nat → Int32} {co : Int32} {oma : Nat → Int32} {obr : Int32} {obj : Int32} {obo : Int32} {obm : Int32} {plo : Nat → Int32} {pch : Nat → Int32} {pbe : Nat → Int32} {pbl : Int32} {dnu : Nat → Int32} {dde : Nat → Int32} {dbo : Int32} {dln : Int32} {dld : Int32} {tba : Nat → Int32} {tal : Nat → Int32} {tro : Int32} {tsc : Int64} {tcl : Nat → Nat → Int64} {rma : Nat → Int32} {Q : Int32 → Prop} (C0 : cxM cX1_greatestLoad 2 (some .int) RX1 wsX1_greatestLoad p s m args meth c dC dI cy A) :
    ∀  (H : Heap) (locs : List Loc) (ls : Array Slot) (hm : p_X1_greatestLoad N oma ti co Q ) (hSt : stC dC dI A s (wC ad cy ss ds ti co oma obr obj obo obm plo pch pbe pbl dnu dde dbo dln dld tba tal tro tsc tcl rma) H locs) (hl : lv_has ls 2 [(0, .ref (ad 1)), (1, .ref (ad 4))]) (hret : ∀ (r : Int32) (H : Heap) (locs : List Loc) (ls : Array Slot) (pc : Nat), decode cX1_greatestLoad pc = .ok (.ireturn, 1) → stC dC dI A s (wC ad cy ss ds ti co oma obr obj obo obm plo pch pbe pbl dnu dde dbo dln dld tba tal tro tsc tcl rma) H locs → Q r → W p l e rmX1_greatestLoad s m args below meth c H locs 0 0 Z (F0 m pc ls [.int r])), W p l e rmX1_greatestLoad s m args below meth c H locs 0 0 Z (F0 m 0 ls []) := by
  obtain ⟨hx, hb, hml, hr, hown, hts, hlocks, hK, hA, hN⟩ := id C0
  intro  H locs ls hm hSt hl hret
  obtain ⟨hP, hD, hS⟩ := hSt
  unfold p_X1_greatestLoad at hm
  refine lv_aload_n hx hb dX1_greatestLoad_0 rfl (lv_at hl 0 rfl) ?_
  refine lv_aload_n hx hb dX1_greatestLoad_1 rfl (lv_at hl 1 rfl) ?_
  refine lv_iconst (v := 0) hx hb dX1_greatestLoad_2 (by decide) ?_
  have hFc := va_freeSame hD hS hA
  refine va_calli (va_runV (As := [.ref (ad 4), .int (0 : Int32)]) (rest := []) ⟨hx, hb, hml, hown, hts⟩ (c_X1_loadOn_o l dC dI cy ad H.size ss ds ti co oma obr obj obo obm plo pch pbe pbl dnu dde dbo dln dld tba tal tro tsc tcl rma (0 : Int32) _ _ hm) (cwV 2 hts gX1_greatestLoad_X1_loadOn rfl rfl rfl (by decide +kernel) ⟨Nat.le_of_ble_eq_true rfl, Nat.le_of_ble_eq_true rfl⟩) ⟨cPre_blind, va_recv hK hP (ci := 1) (q0 := 1) rfl rfl, fun U hU hW => ⟨rfl, cPre_at hP hK hD hN hU hW⟩⟩ rfl rfl hl.1 rfl (lv_room (Nat.le_of_ble_eq_true rfl)) dX1_greatestLoad_3 ⟨Nat.zero_le _, Nat.zero_le _⟩) hS (fun q _ h => hFc q h) hFc (fun r_1 u t H locs ht hvm hw hB hz1 hk1 hS => ?_)
  try dsimp only at hw
  have hm := hw
  have hP : va_P (dC, dI) vwCl (wC ad cy ss ds ti co oma obr obj obo obm plo pch pbe pbl dnu dde dbo dln dld tba tal tro tsc tcl rma) H := cPost_P ht hB
  have hD : va_D A (wC ad cy ss ds ti co oma obr obj obo obm plo pch pbe pbl dnu dde dbo dln dld tba tal tro tsc tcl rma) := cPost_D hFc hB
  refine lv_aload_n hx hb dX1_greatestLoad_6 rfl (lv_at hl 0 rfl) ?_
  refine lv_aload_n hx hb dX1_greatestLoad_7 rfl (lv_at hl 1 rfl) ?_
  refine lv_iconst (v := 1) hx hb dX1_greatestLoad_8 (by decide) ?_
  have hFc := va_freeSame hD hS hA
  refine va_calli (va_runV (As := [.ref (ad 4), .int (1 : Int32)]) (rest := [.int r_1]) ⟨hx, hb, hml, hown, hts⟩ (c_X1_loadOn_o l dC dI cy ad H.size ss ds ti co oma obr obj obo obm plo pch pbe pbl dnu dde dbo dln dld tba tal tro tsc tcl rma (1 : Int32) _ _ hm) (cwV 2 hts gX1_greatestLoad_X1_loadOn rfl rfl rfl (by decide +kernel) ⟨Nat.le_of_ble_eq_true rfl, Nat.le_of_ble_eq_true rfl⟩) ⟨cPre_blind, va_recv hK hP (ci := 1) (q0 := 1) rfl rfl, fun U hU hW => ⟨rfl, cPre_at hP hK hD hN hU hW⟩⟩ rfl rfl hl.1 rfl (lv_room (Nat.le_of_ble_eq_true rfl)) dX1_greatestLoad_9 ⟨Nat.zero_le _, Nat.zero_le _⟩) hS (fun q _ h => hFc q h) hFc (fun r_2 u t H locs ht hvm hw hB hz1 hk1 hS => ?_)
  try dsimp only at hw
  have hm := hw
  have hP : va_P (dC, dI) vwCl (wC ad cy ss ds ti co oma obr obj obo obm plo pch pbe pbl dnu dde dbo dln dld tba tal tro tsc tcl rma) H := cPost_P ht hB
  have hD : va_D A (wC ad cy ss ds ti co oma obr obj obo obm plo pch pbe pbl dnu dde dbo dln dld tba tal tro tsc tcl rma) := cPost_D hFc hB
  refine va_mmax hx hb (hml.trans hl.1.symm) hown (hts (.methodLink RX1 27 Lib.Math.max.name) (by decide +kernel)) (hts (.static Lib.Math.max.name) (by decide +kernel)) (hts (.initialized "java/lang/Math") (by decide +kernel)) (hts (.code Lib.Math.max.name Lib.Math.max.code 2 (some .int)) (by decide +kernel)) (Nat.le_of_ble_eq_true rfl) (Nat.le_of_ble_eq_true rfl) (Nat.zero_le _) (Nat.zero_le _) dX1_greatestLoad_12 ?_
  refine lv_topi (fun v_3 ev_3 => ?_)
  have hm := hm v_3 ev_3
  refine lv_aload_n hx hb dX1_greatestLoad_15 rfl (lv_at hl 0 rfl) ?_
  refine lv_aload_n hx hb dX1_greatestLoad_16 rfl (lv_at hl 1 rfl) ?_
  refine lv_iconst (v := 2) hx hb dX1_greatestLoad_17 (by decide) ?_
  have hFc := va_freeSame hD hS hA
  refine va_calli (va_runV (As := [.ref (ad 4), .int (2 : Int32)]) (rest := [.int v_3]) ⟨hx, hb, hml, hown, hts⟩ (c_X1_loadOn_o l dC dI cy ad H.size ss ds ti co oma obr obj obo obm plo pch pbe pbl dnu dde dbo dln dld tba tal tro tsc tcl rma (2 : Int32) _ _ hm) (cwV 2 hts gX1_greatestLoad_X1_loadOn rfl rfl rfl (by decide +kernel) ⟨Nat.le_of_ble_eq_true rfl, Nat.le_of_ble_eq_true rfl⟩) ⟨cPre_blind, va_recv hK hP (ci := 1) (q0 := 1) rfl rfl, fun U hU hW => ⟨rfl, cPre_at hP hK hD hN hU hW⟩⟩ rfl rfl hl.1 rfl (lv_room (Nat.le_of_ble_eq_true rfl)) dX1_greatestLoad_18 ⟨Nat.zero_le _, Nat.zero_le _⟩) hS (fun q _ h => hFc q h) hFc (fun r_4 u t H locs ht hvm hw hB hz1 hk1 hS => ?_)
  try dsimp only at hw
  have hm := hw
  have hP : va_P (dC, dI) vwCl (wC ad cy ss ds ti co oma obr obj obo obm plo pch pbe pbl dnu dde dbo dln dld tba tal tro tsc tcl rma) H := cPost_P ht hB
  have hD : va_D A (wC ad cy ss ds ti co oma obr obj obo obm plo pch pbe pbl dnu dde dbo dln dld tba tal tro tsc tcl rma) := cPost_D hFc hB
  refine va_mmax hx hb (hml.trans hl.1.symm) hown (hts (.methodLink RX1 27 Lib.Math.max.name) (by decide +kernel)) (hts (.static Lib.Math.max.name) (by decide +kernel)) (hts (.initialized "java/lang/Math") (by decide +kernel)) (hts (.code Lib.Math.max.name Lib.Math.max.code 2 (some .int)) (by decide +kernel)) (Nat.le_of_ble_eq_true rfl) (Nat.le_of_ble_eq_true rfl) (Nat.zero_le _) (Nat.zero_le _) dX1_greatestLoad_21 ?_
  refine lv_topi (fun v_5 ev_5 => ?_)
  have hm := hm v_5 ev_5
  exact hret v_5 H locs ls 24 dX1_greatestLoad_24 ⟨hP, hD, hS⟩ hm

set_option maxHeartbeats 4000000 in
set_option maxRecDepth 100000 in
theorem c_X1_greatestLoad_o (l : Launch) (dC : Nat → ClassId) (dI : Nat → Nat → Nat) (cy : Nat → ClassId) (ad : Nat → Nat) (sz : Nat) (ss : Int32) (ds : Int32) (ti : Nat → Int32) (co : Int32) (oma : Nat → Int32) (obr : Int32) (obj : Int32) (obo : Int32) (obm : Int32) (plo : Nat → Int32) (pch : Nat → Int32) (pbe : Nat → Int32) (pbl : Int32) (dnu : Nat → Int32) (dde : Nat → Int32) (dbo : Int32) (dln : Int32) (dld : Int32) (tba : Nat → Int32) (tal : Nat → Int32) (tro : Int32) (tsc : Int64) (tcl : Nat → Nat → Int64) (rma : Nat → Int32)  (N : Nat) (Q : Int32 → Prop) (hm : p_X1_greatestLoad N oma ti co Q ) : Met l yX1_greatestLoad wsX1_greatestLoad rmX1_greatestLoad (va_Pc [.ref (ad 1), .ref (ad 4)] (cPre dC dI cy (wC ad cy ss ds ti co oma obr obj obo obm plo pch pbe pbl dnu dde dbo dln dld tba tal tro tsc tcl rma) sz)) (va_Qi (fun (r : Int32) (u : Unit) => Q r) (fun u t => cPost dC dI cy (wC ad cy ss ds ti co oma obr obj obo obm plo pch pbe pbl dnu dde dbo dln dld tba tal tro tsc tcl rma) sz (wC ad cy ss ds ti co oma obr obj obo obm plo pch pbe pbl dnu dde dbo dln dld tba tal tro tsc tcl rma) t) (va_A (wC ad cy ss ds ti co oma obr obj obo obm plo pch pbe pbl dnu dde dbo dln dld tba tal tro tsc tcl rma) sz)) 0 0 (va_A (wC ad cy ss ds ti co oma obr obj obo obm plo pch pbe pbl dnu dde dbo dln dld tba tal tro tsc tcl rma) sz) := by
  refine Met.ofW (cc := cX1_greatestLoad) (maxL := 2) (ret := (some .int)) (by decide) rfl ?_
  intro p e s m args below meth c s₁ B hml hv
  obtain ⟨rfl, hsz, hP, hK, hD0, hN⟩ := hv
  have hts := atoms_spec (ws := wsX1_greatestLoad) B.pre
  have hown : s.vm.findClass RX1 = some m.cls := findClass_of_methodNamed B.named
  subst hsz
  have hD := hD0.self (sz := s.heap.size)
  generalize hAe : va_A (wC ad cy ss ds ti co oma obr obj obo obm plo pch pbe pbl dnu dde dbo dln dld tba tal tro tsc tcl rma) s.heap.size = A at hD ⊢
  have hA : ∀ q : Nat, s.heap.size ≤ q → A q := fun q h => by rw [← hAe]; exact Or.inr h
  have hl := lv_entry ([.ref (ad 1), .ref (ad 4)]) (n := 2) (Nat.le_of_ble_eq_true rfl)
  rw [lg_entry_eq]
  generalize (lg_sl ([.ref (ad 1), .ref (ad 4)]) ++ List.replicate (2 - (lg_sl ([.ref (ad 1), .ref (ad 4)])).length) Slot.unset).toArray = ls at hl ⊢
  have hl : lv_has ls 2 [(0, .ref (ad 1)), (1, .ref (ad 4))] := hl
  exact k_X1_greatestLoad_o_0 ⟨B.exec, B.bytes, hml, B.returns, hown, hts, B.notSynchronized, hK, hA, hN⟩  s.heap [] ls hm ⟨hP, hD, va_S.rf⟩ (lv_sub hl [0, 1] rfl) (fun r H locs ls pc hdg hSt hq => W.iret B.exec B.bytes B.returns (fun t ht hW => ⟨⟨r, (), rfl, hq, cPost_of hAe ht hW.alike hSt hK⟩, hSt.2.2.F ht⟩) hSt.2.2.2.2 hdg B.notSynchronized)

set_option maxHeartbeats 4000000 in
set_option maxRecDepth 100000 in
theorem k_X1_greatestLoad_r_0 {N : Nat} {ss : Int32} {ds : Int32} {ti : Nat → Int32} {co : Int32} {oma : Nat → Int32} {obr : Int32} {obj : Int32} {obo : Int32} {obm : Int32} {plo : Nat → Int32} {pch : Nat → Int32} {pbe : Nat → Int32} {pbl : Int32} {dnu : Nat → Int32} {dde : Nat → Int32} {dbo : Int32} {dln : Int32} {dld : Int32} {tba : Nat → Int32} {tal : Nat → Int32} {tro : Int32} {tsc : Int64} {tcl : Nat → Nat → Int64} {rma : Nat → Int32} {Q : Int32 → Prop} (C0 : cxM cX1_greatestLoad 2 (some .int) RX1 wsX1_greatestLoad p s m args meth c dC dI cy A) :
    ∀  (H : Heap) (locs : List Loc) (ls : Array Slot) (hm : p_X1_greatestLoad N rma ti co Q ) (hSt : stC dC dI A s (wC ad cy ss ds ti co oma obr obj obo obm plo pch pbe pbl dnu dde dbo dln dld tba tal tro tsc tcl rma) H locs) (hl : lv_has ls 2 [(0, .ref (ad 1)), (1, .ref (ad 17))]) (hret : ∀ (r : Int32) (H : Heap) (locs : List Loc) (ls : Array Slot) (pc : Nat), decode cX1_greatestLoad pc = .ok (.ireturn, 1) → stC dC dI A s (wC ad cy ss ds ti co oma obr obj obo obm plo pch pbe pbl dnu dde dbo dln dld tba tal tro tsc tcl rma) H locs → Q r → W p l e rmX1_greatestLoad s m args below meth c H locs 0 0 Z (F0 m pc ls [.int r])), W p l e rmX1_greatestLoad s m args below meth c H locs 0 0 Z (F0 m 0 ls []) := by
  obtain ⟨hx, hb, hml, hr, hown, hts, hlocks, hK, hA, hN⟩ := id C0
  intro  H locs ls hm hSt hl hret
  obtain ⟨hP, hD, hS⟩ := hSt
  unfold p_X1_greatestLoad at hm
  refine lv_aload_n hx hb dX1_greatestLoad_0 rfl (lv_at hl 0 rfl) ?_
  refine lv_aload_n hx hb dX1_greatestLoad_1 rfl (lv_at hl 1 rfl) ?_
  refine lv_iconst (v := 0) hx hb dX1_greatestLoad_2 (by decide) ?_
  have hFc := va_freeSame hD hS hA
  refine va_calli (va_runV (As := [.ref (ad 17), .int (0 : Int32)]) (rest := []) ⟨hx, hb, hml, hown, hts⟩ (c_X1_loadOn_r l dC dI cy ad H.size ss ds ti co oma obr obj obo obm plo pch pbe pbl dnu dde dbo dln dld tba tal tro tsc tcl rma (0 : Int32) _ _ hm) (cwV 2 hts gX1_greatestLoad_X1_loadOn rfl rfl rfl (by decide +kernel) ⟨Nat.le_of_ble_eq_true rfl, Nat.le_of_ble_eq_true rfl⟩) ⟨cPre_blind, va_recv hK hP (ci := 1) (q0 := 1) rfl rfl, fun U hU hW => ⟨rfl, cPre_at hP hK hD hN hU hW⟩⟩ rfl rfl hl.1 rfl (lv_room (Nat.le_of_ble_eq_true rfl)) dX1_greatestLoad_3 ⟨Nat.zero_le _, Nat.zero_le _⟩) hS (fun q _ h => hFc q h) hFc (fun r_1 u t H locs ht hvm hw hB hz1 hk1 hS => ?_)
  try dsimp only at hw
  have hm := hw
  have hP : va_P (dC, dI) vwCl (wC ad cy ss ds ti co oma obr obj obo obm plo pch pbe pbl dnu dde dbo dln dld tba tal tro tsc tcl rma) H := cPost_P ht hB
  have hD : va_D A (wC ad cy ss ds ti co oma obr obj obo obm plo pch pbe pbl dnu dde dbo dln dld tba tal tro tsc tcl rma) := cPost_D hFc hB
  refine lv_aload_n hx hb dX1_greatestLoad_6 rfl (lv_at hl 0 rfl) ?_
  refine lv_aload_n hx hb dX1_greatestLoad_7 rfl (lv_at hl 1 rfl) ?_
  refine lv_iconst (v := 1) hx hb dX1_greatestLoad_8 (by decide) ?_
  have hFc := va_freeSame hD hS hA
  refine va_calli (va_runV (As := [.ref (ad 17), .int (1 : Int32)]) (rest := [.int r_1]) ⟨hx, hb, hml, hown, hts⟩ (c_X1_loadOn_r l dC dI cy ad H.size ss ds ti co oma obr obj obo obm plo pch pbe pbl dnu dde dbo dln dld tba tal tro tsc tcl rma (1 : Int32) _ _ hm) (cwV 2 hts gX1_greatestLoad_X1_loadOn rfl rfl rfl (by decide +kernel) ⟨Nat.le_of_ble_eq_true rfl, Nat.le_of_ble_eq_true rfl⟩) ⟨cPre_blind, va_recv hK hP (ci := 1) (q0 := 1) rfl rfl, fun U hU hW => ⟨rfl, cPre_at hP hK hD hN hU hW⟩⟩ rfl rfl hl.1 rfl (lv_room (Nat.le_of_ble_eq_true rfl)) dX1_greatestLoad_9 ⟨Nat.zero_le _, Nat.zero_le _⟩) hS (fun q _ h => hFc q h) hFc (fun r_2 u t H locs ht hvm hw hB hz1 hk1 hS => ?_)
  try dsimp only at hw
  have hm := hw
  have hP : va_P (dC, dI) vwCl (wC ad cy ss ds ti co oma obr obj obo obm plo pch pbe pbl dnu dde dbo dln dld tba tal tro tsc tcl rma) H := cPost_P ht hB
  have hD : va_D A (wC ad cy ss ds ti co oma obr obj obo obm plo pch pbe pbl dnu dde dbo dln dld tba tal tro tsc tcl rma) := cPost_D hFc hB
  refine va_mmax hx hb (hml.trans hl.1.symm) hown (hts (.methodLink RX1 27 Lib.Math.max.name) (by decide +kernel)) (hts (.static Lib.Math.max.name) (by decide +kernel)) (hts (.initialized "java/lang/Math") (by decide +kernel)) (hts (.code Lib.Math.max.name Lib.Math.max.code 2 (some .int)) (by decide +kernel)) (Nat.le_of_ble_eq_true rfl) (Nat.le_of_ble_eq_true rfl) (Nat.zero_le _) (Nat.zero_le _) dX1_greatestLoad_12 ?_
  refine lv_topi (fun v_3 ev_3 => ?_)
  have hm := hm v_3 ev_3
  refine lv_aload_n hx hb dX1_greatestLoad_15 rfl (lv_at hl 0 rfl) ?_
  refine lv_aload_n hx hb dX1_greatestLoad_16 rfl (lv_at hl 1 rfl) ?_
  refine lv_iconst (v := 2) hx hb dX1_greatestLoad_17 (by decide) ?_
  have hFc := va_freeSame hD hS hA
  refine va_calli (va_runV (As := [.ref (ad 17), .int (2 : Int32)]) (rest := [.int v_3]) ⟨hx, hb, hml, hown, hts⟩ (c_X1_loadOn_r l dC dI cy ad H.size ss ds ti co oma obr obj obo obm plo pch pbe pbl dnu dde dbo dln dld tba tal tro tsc tcl rma (2 : Int32) _ _ hm) (cwV 2 hts gX1_greatestLoad_X1_loadOn rfl rfl rfl (by decide +kernel) ⟨Nat.le_of_ble_eq_true rfl, Nat.le_of_ble_eq_true rfl⟩) ⟨cPre_blind, va_recv hK hP (ci := 1) (q0 := 1) rfl rfl, fun U hU hW => ⟨rfl, cPre_at hP hK hD hN hU hW⟩⟩ rfl rfl hl.1 rfl (lv_room (Nat.le_of_ble_eq_true rfl)) dX1_greatestLoad_18 ⟨Nat.zero_le _, Nat.zero_le _⟩) hS (fun q _ h => hFc q h) hFc (fun r_4 u t H locs ht hvm hw hB hz1 hk1 hS => ?_)
  try dsimp only at hw
  have hm := hw
  have hP : va_P (dC, dI) vwCl (wC ad cy ss ds ti co oma obr obj obo obm plo pch pbe pbl dnu dde dbo dln dld tba tal tro tsc tcl rma) H := cPost_P ht hB
  have hD : va_D A (wC ad cy ss ds ti co oma obr obj obo obm plo pch pbe pbl dnu dde dbo dln dld tba tal tro tsc tcl rma) := cPost_D hFc hB
  refine va_mmax hx hb (hml.trans hl.1.symm) hown (hts (.methodLink RX1 27 Lib.Math.max.name) (by decide +kernel)) (hts (.static Lib.Math.max.name) (by decide +kernel)) (hts (.initialized "java/lang/Math") (by decide +kernel)) (hts (.code Lib.Math.max.name Lib.Math.max.code 2 (some .int)) (by decide +kernel)) (Nat.le_of_ble_eq_true rfl) (Nat.le_of_ble_eq_true rfl) (Nat.zero_le _) (Nat.zero_le _) dX1_greatestLoad_21 ?_
  refine lv_topi (fun v_5 ev_5 => ?_)
  have hm := hm v_5 ev_5
  exact hret v_5 H locs ls 24 dX1_greatestLoad_24 ⟨hP, hD, hS⟩ hm

set_option maxHeartbeats 4000000 in
set_option maxRecDepth 100000 in
theorem c_X1_greatestLoad_r (l : Launch) (dC : Nat → ClassId) (dI : Nat → Nat → Nat) (cy : Nat → ClassId) (ad : Nat → Nat) (sz : Nat) (ss : Int32) (ds : Int32) (ti : Nat → Int32) (co : Int32) (oma : Nat → Int32) (obr : Int32) (obj : Int32) (obo : Int32) (obm : Int32) (plo : Nat → Int32) (pch : Nat → Int32) (pbe : Nat → Int32) (pbl : Int32) (dnu : Nat → Int32) (dde : Nat → Int32) (dbo : Int32) (dln : Int32) (dld : Int32) (tba : Nat → Int32) (tal : Nat → Int32) (tro : Int32) (tsc : Int64) (tcl : Nat → Nat → Int64) (rma : Nat → Int32)  (N : Nat) (Q : Int32 → Prop) (hm : p_X1_greatestLoad N rma ti co Q ) : Met l yX1_greatestLoad wsX1_greatestLoad rmX1_greatestLoad (va_Pc [.ref (ad 1), .ref (ad 17)] (cPre dC dI cy (wC ad cy ss ds ti co oma obr obj obo obm plo pch pbe pbl dnu dde dbo dln dld tba tal tro tsc tcl rma) sz)) (va_Qi (fun (r : Int32) (u : Unit) => Q r) (fun u t => cPost dC dI cy (wC ad cy ss ds ti co oma obr obj obo obm plo pch pbe pbl dnu dde dbo dln dld tba tal tro tsc tcl rma) sz (wC ad cy ss ds ti co oma obr obj obo obm plo pch pbe pbl dnu dde dbo dln dld tba tal tro tsc tcl rma) t) (va_A (wC ad cy ss ds ti co oma obr obj obo obm plo pch pbe pbl dnu dde dbo dln dld tba tal tro tsc tcl rma) sz)) 0 0 (va_A (wC ad cy ss ds ti co oma obr obj obo obm plo pch pbe pbl dnu dde dbo dln dld tba tal tro tsc tcl rma) sz) := by
  refine Met.ofW (cc := cX1_greatestLoad) (maxL := 2) (ret := (some .int)) (by decide) rfl ?_
  intro p e s m args below meth c s₁ B hml hv
  obtain ⟨rfl, hsz, hP, hK, hD0, hN⟩ := hv
  have hts := atoms_spec (ws := wsX1_greatestLoad) B.pre
  have hown : s.vm.findClass RX1 = some m.cls := findClass_of_methodNamed B.named
  subst hsz
  have hD := hD0.self (sz := s.heap.size)
  generalize hAe : va_A (wC ad cy ss ds ti co oma obr obj obo obm plo pch pbe pbl dnu dde dbo dln dld tba tal tro tsc tcl rma) s.heap.size = A at hD ⊢
  have hA : ∀ q : Nat, s.heap.size ≤ q → A q := fun q h => by rw [← hAe]; exact Or.inr h
  have hl := lv_entry ([.ref (ad 1), .ref (ad 17)]) (n := 2) (Nat.le_of_ble_eq_true rfl)
  rw [lg_entry_eq]
  generalize (lg_sl ([.ref (ad 1), .ref (ad 17)]) ++ List.replicate (2 - (lg_sl ([.ref (ad 1), .ref (ad 17)])).length) Slot.unset).toArray = ls at hl ⊢
  have hl : lv_has ls 2 [(0, .ref (ad 1)), (1, .ref (ad 17))] := hl
  exact k_X1_greatestLoad_r_0 ⟨B.exec, B.bytes, hml, B.returns, hown, hts, B.notSynchronized, hK, hA, hN⟩  s.heap [] ls hm ⟨hP, hD, va_S.rf⟩ (lv_sub hl [0, 1] rfl) (fun r H locs ls pc hdg hSt hq => W.iret B.exec B.bytes B.returns (fun t ht hW => ⟨⟨r, (), rfl, hq, cPost_of hAe ht hW.alike hSt hK⟩, hSt.2.2.F ht⟩) hSt.2.2.2.2 hdg B.notSynchronized)
