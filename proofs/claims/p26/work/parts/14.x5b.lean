variable {p : Program} {l : Launch} {e : Env} {s : State} {m : MethodId} {args : Array Value} {below : List Frame} {meth : Method} {c : Code} {dC : Nat → ClassId} {dI : Nat → Nat → Nat} {cy : Nat → ClassId} {ad : Nat → Nat} {A : Nat → Prop} {Z : State → Prop}
-- ===== X5_lowerExcess
abbrev rmX5_lowerExcess : Room := { frames := 3, cells := 0, slots := 0, locals := 243 }
def p_X5_lowerExcess_2 (N : Nat) (tal : Nat → Int32) (tro : Int32) (Q : Int32 → (Nat → Int32) → Int64 → (Nat → Nat → Int64) → Prop) : Nat → Int32 → (Nat → Int32) → Int64 → (Nat → Nat → Int64) → Prop
  | 0 => fun _ _ _ _ => False
  | n + 1 => fun x1 tba tsc tcl => ((1000000 : Int32) ≤ x1 → (Q (0 : Int32) tba tsc tcl)) ∧ (¬ (1000000 : Int32) ≤ x1 → (p_X5_rowOf N tba tro (fun r_2 => (r_2 = (-1 : Int32) → (Q (1 : Int32) tba tsc tcl)) ∧ (¬ r_2 = (-1 : Int32) → (p_X5_columnWithSign N tal tcl (fun r_4 => (r_4 = (-1 : Int32) → (Q (0 : Int32) tba tsc tcl)) ∧ (¬ r_4 = (-1 : Int32) → (p_X5_enter N tro (fun r_6 tba_7 tsc_8 tcl_9 => (r_6 = 0 → (Q (0 : Int32) tba_7 tsc_8 tcl_9)) ∧ (¬ r_6 = 0 → (∀ x1_11 : Int32, x1_11 = x1 + (1 : Int32) → (p_X5_lowerExcess_2 N tal tro Q n x1_11 tba_7 tsc_8 tcl_9)))) r_4 tba tsc tcl))) r_2 (1 : Int32)))) (24 : Int32)))

def p_X5_lowerExcess (N : Nat) (tal : Nat → Int32) (tro : Int32) (Q : Int32 → (Nat → Int32) → Int64 → (Nat → Nat → Int64) → Prop) (tba : Nat → Int32) (tsc : Int64) (tcl : Nat → Nat → Int64) : Prop :=
  p_X5_lowerExcess_2 N tal tro Q N (0 : Int32) tba tsc tcl

set_option maxHeartbeats 4000000 in
set_option maxRecDepth 100000 in
theorem k_X5_lowerExcess_2 {N : Nat} {ss : Int32} {ds : Int32} {ti : Nat → Int32} {co : Int32} {oma : Nat → Int32} {obr : Int32} {obj : Int32} {obo : Int32} {obm : Int32} {plo : Nat → Int32} {pch : Nat → Int32} {pbe : Nat → Int32} {pbl : Int32} {dnu : Nat → Int32} {dde : Nat → Int32} {dbo : Int32} {dln : Int32} {dld : Int32} {tal : Nat → Int32} {tro : Int32} {rma : Nat → Int32} {Q : Int32 → (Nat → Int32) → Int64 → (Nat → Nat → Int64) → Prop} (C0 : cxM cX5_lowerExcess 4 (some .boolean) RX5 wsX5_lowerExcess p s m args meth c dC dI cy A) :
    ∀ (n : Nat) (x1 : Int32) (tba : Nat → Int32) (tsc : Int64) (tcl : Nat → Nat → Int64) (H : Heap) (locs : List Loc) (ls : Array Slot) (hm : p_X5_lowerExcess_2 N tal tro Q n x1 tba tsc tcl) (hSt : stC dC dI A s (wC ad cy ss ds ti co oma obr obj obo obm plo pch pbe pbl dnu dde dbo dln dld tba tal tro tsc tcl rma) H locs) (hl : lv_has ls 4 [(0, .ref (ad 12)), (1, .int x1)]) (hret : ∀ (r : Int32) (tba : Nat → Int32) (tsc : Int64) (tcl : Nat → Nat → Int64) (H : Heap) (locs : List Loc) (ls : Array Slot) (pc : Nat), decode cX5_lowerExcess pc = .ok (.ireturn, 1) → narrow .boolean (.int r) = .int r → stC dC dI A s (wC ad cy ss ds ti co oma obr obj obo obm plo pch pbe pbl dnu dde dbo dln dld tba tal tro tsc tcl rma) H locs → Q r tba tsc tcl → W p l e rmX5_lowerExcess s m args below meth c H locs 0 0 Z (F0 m pc ls [.int r])), W p l e rmX5_lowerExcess s m args below meth c H locs 0 0 Z (F0 m 2 ls []) := by
  obtain ⟨hx, hb, hml, hr, hown, hts, hlocks, hK, hA, hN⟩ := id C0
  intro n
  induction n with
  | zero => intro x1 tba tsc tcl H locs ls hm; exact False.elim hm
  | succ n ih =>
    intro x1 tba tsc tcl H locs ls hm hSt hl hret
    obtain ⟨hP, hD, hS⟩ := hSt
    unfold p_X5_lowerExcess_2 at hm
    refine lv_iload_n hx hb dX5_lowerExcess_2 rfl (lv_at hl 1 rfl) ?_
    refine lv_ldc (v := 1000000) hx hb hown (hts (.constant RX5 63 (1000000)) (by decide +kernel)) dX5_lowerExcess_3 ?_
    refine lv_icmp_ge (tgt := 50) hx hb dX5_lowerExcess_5 (by decide) (fun c_1 => ?_) (fun c_1 => ?_)
    · have hm := hm.1 c_1
      refine lv_iconst (v := 0) hx hb dX5_lowerExcess_50 (by decide) ?_
      exact hret (0 : Int32) tba tsc tcl H locs ls 51 dX5_lowerExcess_51 rfl ⟨hP, hD, hS⟩ hm
    · have hm := hm.2 c_1
      refine lv_aload_n hx hb dX5_lowerExcess_8 rfl (lv_at hl 0 rfl) ?_
      refine lv_bipush (v := 24) hx hb dX5_lowerExcess_9 (by decide) ?_
      have hFc := va_freeSame hD hS hA
      refine va_calli (va_runV (As := [.int (24 : Int32)]) (rest := []) ⟨hx, hb, hml, hown, hts⟩ (c_X5_rowOf l dC dI cy ad H.size ss ds ti co oma obr obj obo obm plo pch pbe pbl dnu dde dbo dln dld tba tal tro tsc tcl rma (24 : Int32) _ _ hm) (cwV 1 hts gX5_lowerExcess_X5_rowOf rfl rfl rfl (by decide +kernel) ⟨Nat.le_of_ble_eq_true rfl, Nat.le_of_ble_eq_true rfl⟩) ⟨cPre_blind, va_recv hK hP (ci := 5) (q0 := 12) rfl rfl, fun U hU hW => ⟨rfl, cPre_at hP hK hD hN hU hW⟩⟩ rfl rfl hl.1 rfl (lv_room (Nat.le_of_ble_eq_true rfl)) dX5_lowerExcess_11 ⟨Nat.zero_le _, Nat.zero_le _⟩) hS (fun q _ h => hFc q h) hFc (fun r_2 u t H locs ht hvm hw hB hz1 hk1 hS => ?_)
      try dsimp only at hw
      have hm := hw
      have hP : va_P (dC, dI) vwCl (wC ad cy ss ds ti co oma obr obj obo obm plo pch pbe pbl dnu dde dbo dln dld tba tal tro tsc tcl rma) H := cPost_P ht hB
      have hD : va_D A (wC ad cy ss ds ti co oma obr obj obo obm plo pch pbe pbl dnu dde dbo dln dld tba tal tro tsc tcl rma) := cPost_D hFc hB
      refine lv_istore_n (lv' := [(2, .int r_2), (0, .ref (ad 12)), (1, .int x1)]) hx hb dX5_lowerExcess_14 rfl hl (by decide) rfl (fun ls hl => ?_)
      refine lv_iload_n hx hb dX5_lowerExcess_15 rfl (lv_at hl 0 rfl) ?_
      refine lv_iconst (v := -1) hx hb dX5_lowerExcess_16 (by decide) ?_
      refine lv_icmp_ne (tgt := 22) hx hb dX5_lowerExcess_17 (by decide) (fun c_3 => ?_) (fun c_3 => ?_)
      · have hm := hm.2 c_3
        refine lv_aload_n hx hb dX5_lowerExcess_22 rfl (lv_at hl 1 rfl) ?_
        refine lv_iload_n hx hb dX5_lowerExcess_23 rfl (lv_at hl 0 rfl) ?_
        refine lv_iconst (v := 1) hx hb dX5_lowerExcess_24 (by decide) ?_
        have hFc := va_freeSame hD hS hA
        refine va_calli (va_runV (As := [.int r_2, .int (1 : Int32)]) (rest := []) ⟨hx, hb, hml, hown, hts⟩ (c_X5_columnWithSign l dC dI cy ad H.size ss ds ti co oma obr obj obo obm plo pch pbe pbl dnu dde dbo dln dld tba tal tro tsc tcl rma r_2 (1 : Int32) _ _ hm) (cwV 2 hts gX5_lowerExcess_X5_columnWithSign rfl rfl rfl (by decide +kernel) ⟨Nat.le_of_ble_eq_true rfl, Nat.le_of_ble_eq_true rfl⟩) ⟨cPre_blind, va_recv hK hP (ci := 5) (q0 := 12) rfl rfl, fun U hU hW => ⟨rfl, cPre_at hP hK hD hN hU hW⟩⟩ rfl rfl hl.1 rfl (lv_room (Nat.le_of_ble_eq_true rfl)) dX5_lowerExcess_25 ⟨Nat.zero_le _, Nat.zero_le _⟩) hS (fun q _ h => hFc q h) hFc (fun r_4 u t H locs ht hvm hw hB hz1 hk1 hS => ?_)
        try dsimp only at hw
        have hm := hw
        have hP : va_P (dC, dI) vwCl (wC ad cy ss ds ti co oma obr obj obo obm plo pch pbe pbl dnu dde dbo dln dld tba tal tro tsc tcl rma) H := cPost_P ht hB
        have hD : va_D A (wC ad cy ss ds ti co oma obr obj obo obm plo pch pbe pbl dnu dde dbo dln dld tba tal tro tsc tcl rma) := cPost_D hFc hB
        refine lv_istore_n (lv' := [(3, .int r_4), (2, .int r_2), (0, .ref (ad 12)), (1, .int x1)]) hx hb dX5_lowerExcess_28 rfl hl (by decide) rfl (fun ls hl => ?_)
        refine lv_iload_n hx hb dX5_lowerExcess_29 rfl (lv_at hl 0 rfl) ?_
        refine lv_iconst (v := -1) hx hb dX5_lowerExcess_30 (by decide) ?_
        refine lv_icmp_eq (tgt := 42) hx hb dX5_lowerExcess_31 (by decide) (fun c_5 => ?_) (fun c_5 => ?_)
        · have hm := hm.1 c_5
          refine lv_iconst (v := 0) hx hb dX5_lowerExcess_42 (by decide) ?_
          exact hret (0 : Int32) tba tsc tcl H locs ls 43 dX5_lowerExcess_43 rfl ⟨hP, hD, hS⟩ hm
        · have hm := hm.2 c_5
          refine lv_aload_n hx hb dX5_lowerExcess_34 rfl (lv_at hl 2 rfl) ?_
          refine lv_iload_n hx hb dX5_lowerExcess_35 rfl (lv_at hl 0 rfl) ?_
          have hFc := va_freeSame hD hS hA
          refine va_calli (va_runV (As := [.int r_4]) (rest := []) ⟨hx, hb, hml, hown, hts⟩ (c_X5_enter l dC dI cy ad H.size ss ds ti co oma obr obj obo obm plo pch pbe pbl dnu dde dbo dln dld tba tal tro tsc tcl rma r_4 _ _ hm) (cwV 1 hts gX5_lowerExcess_X5_enter rfl rfl rfl (by decide +kernel) ⟨Nat.le_of_ble_eq_true rfl, Nat.le_of_ble_eq_true rfl⟩) ⟨cPre_blind, va_recv hK hP (ci := 5) (q0 := 12) rfl rfl, fun U hU hW => ⟨rfl, cPre_at hP hK hD hN hU hW⟩⟩ rfl rfl hl.1 rfl (lv_room (Nat.le_of_ble_eq_true rfl)) dX5_lowerExcess_36 ⟨Nat.zero_le _, Nat.zero_le _⟩) hS (fun q _ h => hFc q h) hFc (fun r_6 u t H locs ht hvm hw hB hz1 hk1 hS => ?_)
          obtain ⟨tba_7, tsc_8, tcl_9⟩ := u
          try dsimp only at hw
          obtain ⟨hm, nar_r_6⟩ := hw
          have hP : va_P (dC, dI) vwCl (wC ad cy ss ds ti co oma obr obj obo obm plo pch pbe pbl dnu dde dbo dln dld tba_7 tal tro tsc_8 tcl_9 rma) H := cPost_P ht hB
          have hD : va_D A (wC ad cy ss ds ti co oma obr obj obo obm plo pch pbe pbl dnu dde dbo dln dld tba_7 tal tro tsc_8 tcl_9 rma) := cPost_D hFc hB
          refine lv_if_ne (tgt := 44) hx hb dX5_lowerExcess_39 (by decide) (fun c_10 => ?_) (fun c_10 => ?_)
          · have hm := hm.2 c_10
            obtain ⟨x1_11, ex1_11⟩ : ∃ y : Int32, y = x1 + (1 : Int32) := ⟨_, rfl⟩
            have hm := hm x1_11 ex1_11
            refine lv_iinc (v := x1_11) (lv' := [(1, .int x1_11), (3, .int r_4), (2, .int r_2), (0, .ref (ad 12))]) hx hb dX5_lowerExcess_44 hl (k := 3) rfl (by rw [ex1_11]; rfl) (by decide) rfl (fun ls hl => ?_)
            refine lv_goto (tgt := 2) hx hb dX5_lowerExcess_47 (by decide) ?_
            exact ih x1_11 tba_7 tsc_8 tcl_9 H locs ls hm ⟨hP, hD, hS⟩ (lv_sub hl [3, 0] rfl) hret
          · have hm := hm.1 c_10
            refine lv_iconst (v := 0) hx hb dX5_lowerExcess_42 (by decide) ?_
            exact hret (0 : Int32) tba_7 tsc_8 tcl_9 H locs ls 43 dX5_lowerExcess_43 rfl ⟨hP, hD, hS⟩ hm
      · have hm := hm.1 c_3
        refine lv_iconst (v := 1) hx hb dX5_lowerExcess_20 (by decide) ?_
        exact hret (1 : Int32) tba tsc tcl H locs ls 21 dX5_lowerExcess_21 rfl ⟨hP, hD, hS⟩ hm

set_option maxHeartbeats 4000000 in
set_option maxRecDepth 100000 in
theorem k_X5_lowerExcess_0 {N : Nat} {ss : Int32} {ds : Int32} {ti : Nat → Int32} {co : Int32} {oma : Nat → Int32} {obr : Int32} {obj : Int32} {obo : Int32} {obm : Int32} {plo : Nat → Int32} {pch : Nat → Int32} {pbe : Nat → Int32} {pbl : Int32} {dnu : Nat → Int32} {dde : Nat → Int32} {dbo : Int32} {dln : Int32} {dld : Int32} {tal : Nat → Int32} {tro : Int32} {rma : Nat → Int32} {Q : Int32 → (Nat → Int32) → Int64 → (Nat → Nat → Int64) → Prop} (C0 : cxM cX5_lowerExcess 4 (some .boolean) RX5 wsX5_lowerExcess p s m args meth c dC dI cy A) :
    ∀ (tba : Nat → Int32) (tsc : Int64) (tcl : Nat → Nat → Int64) (H : Heap) (locs : List Loc) (ls : Array Slot) (hm : p_X5_lowerExcess N tal tro Q tba tsc tcl) (hSt : stC dC dI A s (wC ad cy ss ds ti co oma obr obj obo obm plo pch pbe pbl dnu dde dbo dln dld tba tal tro tsc tcl rma) H locs) (hl : lv_has ls 4 [(0, .ref (ad 12))]) (hret : ∀ (r : Int32) (tba : Nat → Int32) (tsc : Int64) (tcl : Nat → Nat → Int64) (H : Heap) (locs : List Loc) (ls : Array Slot) (pc : Nat), decode cX5_lowerExcess pc = .ok (.ireturn, 1) → narrow .boolean (.int r) = .int r → stC dC dI A s (wC ad cy ss ds ti co oma obr obj obo obm plo pch pbe pbl dnu dde dbo dln dld tba tal tro tsc tcl rma) H locs → Q r tba tsc tcl → W p l e rmX5_lowerExcess s m args below meth c H locs 0 0 Z (F0 m pc ls [.int r])), W p l e rmX5_lowerExcess s m args below meth c H locs 0 0 Z (F0 m 0 ls []) := by
  obtain ⟨hx, hb, hml, hr, hown, hts, hlocks, hK, hA, hN⟩ := id C0
  intro tba tsc tcl H locs ls hm hSt hl hret
  obtain ⟨hP, hD, hS⟩ := hSt
  unfold p_X5_lowerExcess at hm
  refine lv_iconst (v := 0) hx hb dX5_lowerExcess_0 (by decide) ?_
  refine lv_istore_n (lv' := [(1, .int (0 : Int32)), (0, .ref (ad 12))]) hx hb dX5_lowerExcess_1 rfl hl (by decide) rfl (fun ls hl => ?_)
  exact k_X5_lowerExcess_2 C0 N (0 : Int32) tba tsc tcl H locs ls hm ⟨hP, hD, hS⟩ (lv_sub hl [1, 0] rfl) hret

set_option maxHeartbeats 4000000 in
set_option maxRecDepth 100000 in
theorem c_X5_lowerExcess (l : Launch) (dC : Nat → ClassId) (dI : Nat → Nat → Nat) (cy : Nat → ClassId) (ad : Nat → Nat) (sz : Nat) (ss : Int32) (ds : Int32) (ti : Nat → Int32) (co : Int32) (oma : Nat → Int32) (obr : Int32) (obj : Int32) (obo : Int32) (obm : Int32) (plo : Nat → Int32) (pch : Nat → Int32) (pbe : Nat → Int32) (pbl : Int32) (dnu : Nat → Int32) (dde : Nat → Int32) (dbo : Int32) (dln : Int32) (dld : Int32) (tba : Nat → Int32) (tal : Nat → Int32) (tro : Int32) (tsc : Int64) (tcl : Nat → Nat → Int64) (rma : Nat → Int32)  (N : Nat) (Q : Int32 → (Nat → Int32) → Int64 → (Nat → Nat → Int64) → Prop) (hm : p_X5_lowerExcess N tal tro Q tba tsc tcl) : Met l yX5_lowerExcess wsX5_lowerExcess rmX5_lowerExcess (va_Pc [.ref (ad 12)] (cPre dC dI cy (wC ad cy ss ds ti co oma obr obj obo obm plo pch pbe pbl dnu dde dbo dln dld tba tal tro tsc tcl rma) sz)) (va_Qi (fun (r : Int32) (u : (Nat → Int32) × Int64 × (Nat → Nat → Int64)) => Q r u.1 u.2.1 u.2.2 ∧ narrow .boolean (.int r) = .int r) (fun u t => cPost dC dI cy (wC ad cy ss ds ti co oma obr obj obo obm plo pch pbe pbl dnu dde dbo dln dld tba tal tro tsc tcl rma) sz (wC ad cy ss ds ti co oma obr obj obo obm plo pch pbe pbl dnu dde dbo dln dld (u.1) tal tro (u.2.1) (u.2.2) rma) t) (va_A (wC ad cy ss ds ti co oma obr obj obo obm plo pch pbe pbl dnu dde dbo dln dld tba tal tro tsc tcl rma) sz)) 0 0 (va_A (wC ad cy ss ds ti co oma obr obj obo obm plo pch pbe pbl dnu dde dbo dln dld tba tal tro tsc tcl rma) sz) := by
  refine Met.ofW (cc := cX5_lowerExcess) (maxL := 4) (ret := (some .boolean)) (by decide) rfl ?_
  intro p e s m args below meth c s₁ B hml hv
  obtain ⟨rfl, hsz, hP, hK, hD0, hN⟩ := hv
  have hts := atoms_spec (ws := wsX5_lowerExcess) B.pre
  have hown : s.vm.findClass RX5 = some m.cls := findClass_of_methodNamed B.named
  subst hsz
  have hD := hD0.self (sz := s.heap.size)
  generalize hAe : va_A (wC ad cy ss ds ti co oma obr obj obo obm plo pch pbe pbl dnu dde dbo dln dld tba tal tro tsc tcl rma) s.heap.size = A at hD ⊢
  have hA : ∀ q : Nat, s.heap.size ≤ q → A q := fun q h => by rw [← hAe]; exact Or.inr h
  have hl := lv_entry ([.ref (ad 12)]) (n := 4) (Nat.le_of_ble_eq_true rfl)
  rw [lg_entry_eq]
  generalize (lg_sl ([.ref (ad 12)]) ++ List.replicate (4 - (lg_sl ([.ref (ad 12)])).length) Slot.unset).toArray = ls at hl ⊢
  have hl : lv_has ls 4 [(0, .ref (ad 12))] := hl
  exact k_X5_lowerExcess_0 ⟨B.exec, B.bytes, hml, B.returns, hown, hts, B.notSynchronized, hK, hA, hN⟩ tba tsc tcl s.heap [] ls hm ⟨hP, hD, va_S.rf⟩ (lv_sub hl [0] rfl) (fun r tba tsc tcl H locs ls pc hdg hn hSt hq => W.zret B.exec B.bytes B.returns hn (fun t ht hW => ⟨⟨r, (tba, tsc, tcl), rfl, ⟨hq, hn⟩, cPost_of hAe ht hW.alike hSt hK⟩, hSt.2.2.F ht⟩) hSt.2.2.2.2 hdg B.notSynchronized)

-- ===== X5_raise
theorem fl_X5_raise_20 : Cond.fieldLink RX5 20 "UnlikeUnion$Tableau" "allowed" "[Z" ∈ wsX5_raise := by decide +kernel
theorem in_X5_raise_X5 : ∀ w ∈ u_ws RX5 TX5 5, w ∈ wsX5_raise := by decide +kernel
abbrev rmX5_raise : Room := { frames := 3, cells := 0, slots := 0, locals := 243 }
def p_X5_raise_40 (N : Nat) (tro : Int32) (Q : (Nat → Int32) → (Nat → Int32) → Int64 → (Nat → Nat → Int64) → Prop) : Nat → Int32 → Int32 → (Nat → Int32) → (Nat → Int32) → Int64 → (Nat → Nat → Int64) → Prop
  | 0 => fun _ _ _ _ _ _ => False
  | n + 1 => fun x1 x2 tba tal tsc tcl => ((1000000 : Int32) ≤ x2 → (Q tba tal tsc tcl)) ∧ (¬ (1000000 : Int32) ≤ x2 → (p_X5_rowOf N tba tro (fun r_2 => (r_2 = (-1 : Int32) → (Q tba tal tsc tcl)) ∧ (¬ r_2 = (-1 : Int32) → (p_X5_columnWithSign N tal tcl (fun r_4 => (r_4 = (-1 : Int32) → (p_X5_hold N tba tcl (fun tal_12 => Q tba tal_12 tsc tcl) r_2 tal)) ∧ (¬ r_4 = (-1 : Int32) → (p_X5_enter N tro (fun r_6 tba_7 tsc_8 tcl_9 => (r_6 = 0 → (Q tba_7 tal tsc_8 tcl_9)) ∧ (¬ r_6 = 0 → (∀ x2_11 : Int32, x2_11 = x2 + (1 : Int32) → (p_X5_raise_40 N tro Q n x1 x2_11 tba_7 tal tsc_8 tcl_9)))) r_4 tba tsc tcl))) r_2 (-1 : Int32)))) x1))

def p_X5_raise (N : Nat) (tro : Int32) (Q : (Nat → Int32) → (Nat → Int32) → Int64 → (Nat → Nat → Int64) → Prop) (x1 : Int32) (tba : Nat → Int32) (tal : Nat → Int32) (tsc : Int64) (tcl : Nat → Nat → Int64) : Prop :=
  (x1 < 0 → (Q tba tal tsc tcl)) ∧ (¬ x1 < 0 → ((x1 < (25 : Int32) → (p_X5_rowOf N tba tro (fun r_3 => (r_3 = (-1 : Int32) → (vp_in x1 25 ∧ (((tal (x1).toNatClampNeg) = 0 → (Q tba tal tsc tcl)) ∧ (¬ (tal (x1).toNatClampNeg) = 0 → (p_X5_enter N tro (fun r_7 tba_8 tsc_9 tcl_10 => (r_7 = 0 → (Q tba_8 tal tsc_9 tcl_10)) ∧ (¬ r_7 = 0 → (p_X5_raise_40 N tro Q N x1 (0 : Int32) tba_8 tal tsc_9 tcl_10))) x1 tba tsc tcl))))) ∧ (¬ r_3 = (-1 : Int32) → (p_X5_raise_40 N tro Q N x1 (0 : Int32) tba tal tsc tcl))) x1)) ∧ (¬ x1 < (25 : Int32) → (Q tba tal tsc tcl))))

set_option maxHeartbeats 4000000 in
set_option maxRecDepth 100000 in
theorem k_X5_raise_40 {N : Nat} {ss : Int32} {ds : Int32} {ti : Nat → Int32} {co : Int32} {oma : Nat → Int32} {obr : Int32} {obj : Int32} {obo : Int32} {obm : Int32} {plo : Nat → Int32} {pch : Nat → Int32} {pbe : Nat → Int32} {pbl : Int32} {dnu : Nat → Int32} {dde : Nat → Int32} {dbo : Int32} {dln : Int32} {dld : Int32} {tro : Int32} {rma : Nat → Int32} {Q : (Nat → Int32) → (Nat → Int32) → Int64 → (Nat → Nat → Int64) → Prop} (C0 : cxM cX5_raise 5 none RX5 wsX5_raise p s m args meth c dC dI cy A) :
    ∀ (n : Nat) (x1 : Int32) (x2 : Int32) (tba : Nat → Int32) (tal : Nat → Int32) (tsc : Int64) (tcl : Nat → Nat → Int64) (H : Heap) (locs : List Loc) (ls : Array Slot) (hm : p_X5_raise_40 N tro Q n x1 x2 tba tal tsc tcl) (hSt : stC dC dI A s (wC ad cy ss ds ti co oma obr obj obo obm plo pch pbe pbl dnu dde dbo dln dld tba tal tro tsc tcl rma) H locs) (hl : lv_has ls 5 [(0, .ref (ad 12)), (1, .int x1), (2, .int x2)]) (hret : ∀ (tba : Nat → Int32) (tal : Nat → Int32) (tsc : Int64) (tcl : Nat → Nat → Int64) (H : Heap) (locs : List Loc) (ls : Array Slot) (pc : Nat), decode cX5_raise pc = .ok (.return_, 1) → stC dC dI A s (wC ad cy ss ds ti co oma obr obj obo obm plo pch pbe pbl dnu dde dbo dln dld tba tal tro tsc tcl rma) H locs → Q tba tal tsc tcl → W p l e rmX5_raise s m args below meth c H locs 0 0 Z (F0 m pc ls [])), W p l e rmX5_raise s m args below meth c H locs 0 0 Z (F0 m 40 ls []) := by
  obtain ⟨hx, hb, hml, hr, hown, hts, hlocks, hK, hA, hN⟩ := id C0
  intro n
  induction n with
  | zero => intro x1 x2 tba tal tsc tcl H locs ls hm; exact False.elim hm
  | succ n ih =>
    intro x1 x2 tba tal tsc tcl H locs ls hm hSt hl hret
    obtain ⟨hP, hD, hS⟩ := hSt
    unfold p_X5_raise_40 at hm
    refine lv_iload_n hx hb dX5_raise_40 rfl (lv_at hl 2 rfl) ?_
    refine lv_ldc (v := 1000000) hx hb hown (hts (.constant RX5 63 (1000000)) (by decide +kernel)) dX5_raise_41 ?_
    refine lv_icmp_ge (tgt := 94) hx hb dX5_raise_43 (by decide) (fun c_1 => ?_) (fun c_1 => ?_)
    · have hm := hm.1 c_1
      exact hret tba tal tsc tcl H locs ls 94 dX5_raise_94 ⟨hP, hD, hS⟩ hm
    · have hm := hm.2 c_1
      refine lv_aload_n hx hb dX5_raise_46 rfl (lv_at hl 0 rfl) ?_
      refine lv_iload_n hx hb dX5_raise_47 rfl (lv_at hl 1 rfl) ?_
      have hFc := va_freeSame hD hS hA
      refine va_calli (va_runV (As := [.int x1]) (rest := []) ⟨hx, hb, hml, hown, hts⟩ (c_X5_rowOf l dC dI cy ad H.size ss ds ti co oma obr obj obo obm plo pch pbe pbl dnu dde dbo dln dld tba tal tro tsc tcl rma x1 _ _ hm) (cwV 1 hts gX5_raise_X5_rowOf rfl rfl rfl (by decide +kernel) ⟨Nat.le_of_ble_eq_true rfl, Nat.le_of_ble_eq_true rfl⟩) ⟨cPre_blind, va_recv hK hP (ci := 5) (q0 := 12) rfl rfl, fun U hU hW => ⟨rfl, cPre_at hP hK hD hN hU hW⟩⟩ rfl rfl hl.1 rfl (lv_room (Nat.le_of_ble_eq_true rfl)) dX5_raise_48 ⟨Nat.zero_le _, Nat.zero_le _⟩) hS (fun q _ h => hFc q h) hFc (fun r_2 u t H locs ht hvm hw hB hz1 hk1 hS => ?_)
      try dsimp only at hw
      have hm := hw
      have hP : va_P (dC, dI) vwCl (wC ad cy ss ds ti co oma obr obj obo obm plo pch pbe pbl dnu dde dbo dln dld tba tal tro tsc tcl rma) H := cPost_P ht hB
      have hD : va_D A (wC ad cy ss ds ti co oma obr obj obo obm plo pch pbe pbl dnu dde dbo dln dld tba tal tro tsc tcl rma) := cPost_D hFc hB
      refine lv_istore_n (lv' := [(3, .int r_2), (0, .ref (ad 12)), (1, .int x1), (2, .int x2)]) hx hb dX5_raise_51 rfl hl (by decide) rfl (fun ls hl => ?_)
      refine lv_iload_n hx hb dX5_raise_52 rfl (lv_at hl 0 rfl) ?_
      refine lv_iconst (v := -1) hx hb dX5_raise_53 (by decide) ?_
      refine lv_icmp_ne (tgt := 58) hx hb dX5_raise_54 (by decide) (fun c_3 => ?_) (fun c_3 => ?_)
      · have hm := hm.2 c_3
        refine lv_aload_n hx hb dX5_raise_58 rfl (lv_at hl 1 rfl) ?_
        refine lv_iload_n hx hb dX5_raise_59 rfl (lv_at hl 0 rfl) ?_
        refine lv_iconst (v := -1) hx hb dX5_raise_60 (by decide) ?_
        have hFc := va_freeSame hD hS hA
        refine va_calli (va_runV (As := [.int r_2, .int (-1 : Int32)]) (rest := []) ⟨hx, hb, hml, hown, hts⟩ (c_X5_columnWithSign l dC dI cy ad H.size ss ds ti co oma obr obj obo obm plo pch pbe pbl dnu dde dbo dln dld tba tal tro tsc tcl rma r_2 (-1 : Int32) _ _ hm) (cwV 2 hts gX5_raise_X5_columnWithSign rfl rfl rfl (by decide +kernel) ⟨Nat.le_of_ble_eq_true rfl, Nat.le_of_ble_eq_true rfl⟩) ⟨cPre_blind, va_recv hK hP (ci := 5) (q0 := 12) rfl rfl, fun U hU hW => ⟨rfl, cPre_at hP hK hD hN hU hW⟩⟩ rfl rfl hl.1 rfl (lv_room (Nat.le_of_ble_eq_true rfl)) dX5_raise_61 ⟨Nat.zero_le _, Nat.zero_le _⟩) hS (fun q _ h => hFc q h) hFc (fun r_4 u t H locs ht hvm hw hB hz1 hk1 hS => ?_)
        try dsimp only at hw
        have hm := hw
        have hP : va_P (dC, dI) vwCl (wC ad cy ss ds ti co oma obr obj obo obm plo pch pbe pbl dnu dde dbo dln dld tba tal tro tsc tcl rma) H := cPost_P ht hB
        have hD : va_D A (wC ad cy ss ds ti co oma obr obj obo obm plo pch pbe pbl dnu dde dbo dln dld tba tal tro tsc tcl rma) := cPost_D hFc hB
        refine lv_istore (lv' := [(4, .int r_4), (3, .int r_2), (0, .ref (ad 12)), (1, .int x1), (2, .int x2)]) hx hb dX5_raise_64 hl (by decide) rfl (fun ls hl => ?_)
        refine lv_iload hx hb dX5_raise_66 (lv_at hl 0 rfl) ?_
        refine lv_iconst (v := -1) hx hb dX5_raise_68 (by decide) ?_
        refine lv_icmp_ne (tgt := 78) hx hb dX5_raise_69 (by decide) (fun c_5 => ?_) (fun c_5 => ?_)
        · have hm := hm.2 c_5
          refine lv_aload_n hx hb dX5_raise_78 rfl (lv_at hl 2 rfl) ?_
          refine lv_iload hx hb dX5_raise_79 (lv_at hl 0 rfl) ?_
          have hFc := va_freeSame hD hS hA
          refine va_calli (va_runV (As := [.int r_4]) (rest := []) ⟨hx, hb, hml, hown, hts⟩ (c_X5_enter l dC dI cy ad H.size ss ds ti co oma obr obj obo obm plo pch pbe pbl dnu dde dbo dln dld tba tal tro tsc tcl rma r_4 _ _ hm) (cwV 1 hts gX5_raise_X5_enter rfl rfl rfl (by decide +kernel) ⟨Nat.le_of_ble_eq_true rfl, Nat.le_of_ble_eq_true rfl⟩) ⟨cPre_blind, va_recv hK hP (ci := 5) (q0 := 12) rfl rfl, fun U hU hW => ⟨rfl, cPre_at hP hK hD hN hU hW⟩⟩ rfl rfl hl.1 rfl (lv_room (Nat.le_of_ble_eq_true rfl)) dX5_raise_81 ⟨Nat.zero_le _, Nat.zero_le _⟩) hS (fun q _ h => hFc q h) hFc (fun r_6 u t H locs ht hvm hw hB hz1 hk1 hS => ?_)
          obtain ⟨tba_7, tsc_8, tcl_9⟩ := u
          try dsimp only at hw
          obtain ⟨hm, nar_r_6⟩ := hw
          have hP : va_P (dC, dI) vwCl (wC ad cy ss ds ti co oma obr obj obo obm plo pch pbe pbl dnu dde dbo dln dld tba_7 tal tro tsc_8 tcl_9 rma) H := cPost_P ht hB
          have hD : va_D A (wC ad cy ss ds ti co oma obr obj obo obm plo pch pbe pbl dnu dde dbo dln dld tba_7 tal tro tsc_8 tcl_9 rma) := cPost_D hFc hB
          refine lv_if_ne (tgt := 88) hx hb dX5_raise_84 (by decide) (fun c_10 => ?_) (fun c_10 => ?_)
          · have hm := hm.2 c_10
            obtain ⟨x2_11, ex2_11⟩ : ∃ y : Int32, y = x2 + (1 : Int32) := ⟨_, rfl⟩
            have hm := hm x2_11 ex2_11
            refine lv_iinc (v := x2_11) (lv' := [(2, .int x2_11), (4, .int r_4), (3, .int r_2), (0, .ref (ad 12)), (1, .int x1)]) hx hb dX5_raise_88 hl (k := 4) rfl (by rw [ex2_11]; rfl) (by decide) rfl (fun ls hl => ?_)
            refine lv_goto (tgt := 40) hx hb dX5_raise_91 (by decide) ?_
            exact ih x1 x2_11 tba_7 tal tsc_8 tcl_9 H locs ls hm ⟨hP, hD, hS⟩ (lv_sub hl [3, 4, 0] rfl) hret
          · have hm := hm.1 c_10
            exact hret tba_7 tal tsc_8 tcl_9 H locs ls 87 dX5_raise_87 ⟨hP, hD, hS⟩ hm
        · have hm := hm.1 c_5
          refine lv_aload_n hx hb dX5_raise_72 rfl (lv_at hl 2 rfl) ?_
          refine lv_iload_n hx hb dX5_raise_73 rfl (lv_at hl 1 rfl) ?_
          have hFc := va_freeSame hD hS hA
          refine va_callv (va_runV (As := [.int r_2]) (rest := []) ⟨hx, hb, hml, hown, hts⟩ (c_X5_hold l dC dI cy ad H.size ss ds ti co oma obr obj obo obm plo pch pbe pbl dnu dde dbo dln dld tba tal tro tsc tcl rma r_2 _ _ hm) (cwV 1 hts gX5_raise_X5_hold rfl rfl rfl (by decide +kernel) ⟨Nat.le_of_ble_eq_true rfl, Nat.le_of_ble_eq_true rfl⟩) ⟨cPre_blind, va_recv hK hP (ci := 5) (q0 := 12) rfl rfl, fun U hU hW => ⟨rfl, cPre_at hP hK hD hN hU hW⟩⟩ rfl rfl hl.1 rfl (lv_room (Nat.le_of_ble_eq_true rfl)) dX5_raise_74 ⟨Nat.zero_le _, Nat.zero_le _⟩) hS (fun q _ h => hFc q h) hFc (fun u t H locs ht hvm hw hB hz1 hk1 hS => ?_)
          obtain ⟨tal_12, rfl⟩ : ∃ z, z = u := ⟨_, rfl⟩
          try dsimp only at hw
          have hm := hw
          have hP : va_P (dC, dI) vwCl (wC ad cy ss ds ti co oma obr obj obo obm plo pch pbe pbl dnu dde dbo dln dld tba tal_12 tro tsc tcl rma) H := cPost_P ht hB
          have hD : va_D A (wC ad cy ss ds ti co oma obr obj obo obm plo pch pbe pbl dnu dde dbo dln dld tba tal_12 tro tsc tcl rma) := cPost_D hFc hB
          exact hret tba tal_12 tsc tcl H locs ls 77 dX5_raise_77 ⟨hP, hD, hS⟩ hm
      · have hm := hm.1 c_3
        exact hret tba tal tsc tcl H locs ls 57 dX5_raise_57 ⟨hP, hD, hS⟩ hm

set_option maxHeartbeats 4000000 in
set_option maxRecDepth 100000 in
theorem k_X5_raise_0 {N : Nat} {ss : Int32} {ds : Int32} {ti : Nat → Int32} {co : Int32} {oma : Nat → Int32} {obr : Int32} {obj : Int32} {obo : Int32} {obm : Int32} {plo : Nat → Int32} {pch : Nat → Int32} {pbe : Nat → Int32} {pbl : Int32} {dnu : Nat → Int32} {dde : Nat → Int32} {dbo : Int32} {dln : Int32} {dld : Int32} {tro : Int32} {rma : Nat → Int32} {Q : (Nat → Int32) → (Nat → Int32) → Int64 → (Nat → Nat → Int64) → Prop} (C0 : cxM cX5_raise 5 none RX5 wsX5_raise p s m args meth c dC dI cy A) :
    ∀ (x1 : Int32) (tba : Nat → Int32) (tal : Nat → Int32) (tsc : Int64) (tcl : Nat → Nat → Int64) (H : Heap) (locs : List Loc) (ls : Array Slot) (hm : p_X5_raise N tro Q x1 tba tal tsc tcl) (hSt : stC dC dI A s (wC ad cy ss ds ti co oma obr obj obo obm plo pch pbe pbl dnu dde dbo dln dld tba tal tro tsc tcl rma) H locs) (hl : lv_has ls 5 [(0, .ref (ad 12)), (1, .int x1)]) (hret : ∀ (tba : Nat → Int32) (tal : Nat → Int32) (tsc : Int64) (tcl : Nat → Nat → Int64) (H : Heap) (locs : List Loc) (ls : Array Slot) (pc : Nat), decode cX5_raise pc = .ok (.return_, 1) → stC dC dI A s (wC ad cy ss ds ti co oma obr obj obo obm plo pch pbe pbl dnu dde dbo dln dld tba tal tro tsc tcl rma) H locs → Q tba tal tsc tcl → W p l e rmX5_raise s m args below meth c H locs 0 0 Z (F0 m pc ls [])), W p l e rmX5_raise s m args below meth c H locs 0 0 Z (F0 m 0 ls []) := by
  obtain ⟨hx, hb, hml, hr, hown, hts, hlocks, hK, hA, hN⟩ := id C0
  intro x1 tba tal tsc tcl H locs ls hm hSt hl hret
  obtain ⟨hP, hD, hS⟩ := hSt
  unfold p_X5_raise at hm
  refine lv_iload_n hx hb dX5_raise_0 rfl (lv_at hl 1 rfl) ?_
  refine lv_if_lt (tgt := 10) hx hb dX5_raise_1 (by decide) (fun c_1 => ?_) (fun c_1 => ?_)
  · have hm := hm.1 c_1
    exact hret tba tal tsc tcl H locs ls 10 dX5_raise_10 ⟨hP, hD, hS⟩ hm
  · have hm := hm.2 c_1
    refine lv_iload_n hx hb dX5_raise_4 rfl (lv_at hl 1 rfl) ?_
    refine lv_bipush (v := 25) hx hb dX5_raise_5 (by decide) ?_
    refine lv_icmp_lt (tgt := 11) hx hb dX5_raise_7 (by decide) (fun c_2 => ?_) (fun c_2 => ?_)
    · have hm := hm.1 c_2
      refine lv_aload_n hx hb dX5_raise_11 rfl (lv_at hl 0 rfl) ?_
      refine lv_iload_n hx hb dX5_raise_12 rfl (lv_at hl 1 rfl) ?_
      have hFc := va_freeSame hD hS hA
      refine va_calli (va_runV (As := [.int x1]) (rest := []) ⟨hx, hb, hml, hown, hts⟩ (c_X5_rowOf l dC dI cy ad H.size ss ds ti co oma obr obj obo obm plo pch pbe pbl dnu dde dbo dln dld tba tal tro tsc tcl rma x1 _ _ hm) (cwV 1 hts gX5_raise_X5_rowOf rfl rfl rfl (by decide +kernel) ⟨Nat.le_of_ble_eq_true rfl, Nat.le_of_ble_eq_true rfl⟩) ⟨cPre_blind, va_recv hK hP (ci := 5) (q0 := 12) rfl rfl, fun U hU hW => ⟨rfl, cPre_at hP hK hD hN hU hW⟩⟩ rfl rfl hl.1 rfl (lv_room (Nat.le_of_ble_eq_true rfl)) dX5_raise_13 ⟨Nat.zero_le _, Nat.zero_le _⟩) hS (fun q _ h => hFc q h) hFc (fun r_3 u t H locs ht hvm hw hB hz1 hk1 hS => ?_)
      try dsimp only at hw
      have hm := hw
      have hP : va_P (dC, dI) vwCl (wC ad cy ss ds ti co oma obr obj obo obm plo pch pbe pbl dnu dde dbo dln dld tba tal tro tsc tcl rma) H := cPost_P ht hB
      have hD : va_D A (wC ad cy ss ds ti co oma obr obj obo obm plo pch pbe pbl dnu dde dbo dln dld tba tal tro tsc tcl rma) := cPost_D hFc hB
      refine lv_iconst (v := -1) hx hb dX5_raise_16 (by decide) ?_
      refine lv_icmp_ne (tgt := 38) hx hb dX5_raise_17 (by decide) (fun c_4 => ?_) (fun c_4 => ?_)
      · have hm := hm.2 c_4
        refine lv_iconst (v := 0) hx hb dX5_raise_38 (by decide) ?_
        refine lv_istore_n (lv' := [(2, .int (0 : Int32)), (0, .ref (ad 12)), (1, .int x1)]) hx hb dX5_raise_39 rfl hl (by decide) rfl (fun ls hl => ?_)
        exact k_X5_raise_40 C0 N x1 (0 : Int32) tba tal tsc tcl H locs ls hm ⟨hP, hD, hS⟩ (lv_sub hl [1, 2, 0] rfl) hret
      · have hm := hm.1 c_4
        refine lv_aload_n hx hb dX5_raise_20 rfl (lv_at hl 0 rfl) ?_
        refine va_get (D := (dC, dI)) (ci := 5) (v := .ref (ad 15)) (C := RX5) (T := TX5) (N := 5) hx hb hts in_X5_raise_X5 hown hK hP 12 rfl rfl 2 (by decide) (hts _ fl_X5_raise_20) (fun _ h9 => h9) rfl dX5_raise_21 ?_
        refine lv_iload_n hx hb dX5_raise_24 rfl (lv_at hl 1 rfl) ?_
        have hi_5 := hm.1
        have hm := hm.2
        refine va_zald hx hb hK hP 15 2 rfl rfl hi_5 dX5_raise_25 ?_
        refine lv_if_eq (tgt := 37) hx hb dX5_raise_26 (by decide) (fun c_6 => ?_) (fun c_6 => ?_)
        · have hm := hm.1 c_6
          exact hret tba tal tsc tcl H locs ls 37 dX5_raise_37 ⟨hP, hD, hS⟩ hm
        · have hm := hm.2 c_6
          refine lv_aload_n hx hb dX5_raise_29 rfl (lv_at hl 0 rfl) ?_
          refine lv_iload_n hx hb dX5_raise_30 rfl (lv_at hl 1 rfl) ?_
          have hFc := va_freeSame hD hS hA
          refine va_calli (va_runV (As := [.int x1]) (rest := []) ⟨hx, hb, hml, hown, hts⟩ (c_X5_enter l dC dI cy ad H.size ss ds ti co oma obr obj obo obm plo pch pbe pbl dnu dde dbo dln dld tba tal tro tsc tcl rma x1 _ _ hm) (cwV 1 hts gX5_raise_X5_enter rfl rfl rfl (by decide +kernel) ⟨Nat.le_of_ble_eq_true rfl, Nat.le_of_ble_eq_true rfl⟩) ⟨cPre_blind, va_recv hK hP (ci := 5) (q0 := 12) rfl rfl, fun U hU hW => ⟨rfl, cPre_at hP hK hD hN hU hW⟩⟩ rfl rfl hl.1 rfl (lv_room (Nat.le_of_ble_eq_true rfl)) dX5_raise_31 ⟨Nat.zero_le _, Nat.zero_le _⟩) hS (fun q _ h => hFc q h) hFc (fun r_7 u t H locs ht hvm hw hB hz1 hk1 hS => ?_)
          obtain ⟨tba_8, tsc_9, tcl_10⟩ := u
          try dsimp only at hw
          obtain ⟨hm, nar_r_7⟩ := hw
          have hP : va_P (dC, dI) vwCl (wC ad cy ss ds ti co oma obr obj obo obm plo pch pbe pbl dnu dde dbo dln dld tba_8 tal tro tsc_9 tcl_10 rma) H := cPost_P ht hB
          have hD : va_D A (wC ad cy ss ds ti co oma obr obj obo obm plo pch pbe pbl dnu dde dbo dln dld tba_8 tal tro tsc_9 tcl_10 rma) := cPost_D hFc hB
          refine lv_if_ne (tgt := 38) hx hb dX5_raise_34 (by decide) (fun c_11 => ?_) (fun c_11 => ?_)
          · have hm := hm.2 c_11
            refine lv_iconst (v := 0) hx hb dX5_raise_38 (by decide) ?_
            refine lv_istore_n (lv' := [(2, .int (0 : Int32)), (0, .ref (ad 12)), (1, .int x1)]) hx hb dX5_raise_39 rfl hl (by decide) rfl (fun ls hl => ?_)
            exact k_X5_raise_40 C0 N x1 (0 : Int32) tba_8 tal tsc_9 tcl_10 H locs ls hm ⟨hP, hD, hS⟩ (lv_sub hl [1, 2, 0] rfl) hret
          · have hm := hm.1 c_11
            exact hret tba_8 tal tsc_9 tcl_10 H locs ls 37 dX5_raise_37 ⟨hP, hD, hS⟩ hm
    · have hm := hm.2 c_2
      exact hret tba tal tsc tcl H locs ls 10 dX5_raise_10 ⟨hP, hD, hS⟩ hm

set_option maxHeartbeats 4000000 in
set_option maxRecDepth 100000 in
theorem c_X5_raise (l : Launch) (dC : Nat → ClassId) (dI : Nat → Nat → Nat) (cy : Nat → ClassId) (ad : Nat → Nat) (sz : Nat) (ss : Int32) (ds : Int32) (ti : Nat → Int32) (co : Int32) (oma : Nat → Int32) (obr : Int32) (obj : Int32) (obo : Int32) (obm : Int32) (plo : Nat → Int32) (pch : Nat → Int32) (pbe : Nat → Int32) (pbl : Int32) (dnu : Nat → Int32) (dde : Nat → Int32) (dbo : Int32) (dln : Int32) (dld : Int32) (tba : Nat → Int32) (tal : Nat → Int32) (tro : Int32) (tsc : Int64) (tcl : Nat → Nat → Int64) (rma : Nat → Int32) (x1 : Int32) (N : Nat) (Q : (Nat → Int32) → (Nat → Int32) → Int64 → (Nat → Nat → Int64) → Prop) (hm : p_X5_raise N tro Q x1 tba tal tsc tcl) : Met l yX5_raise wsX5_raise rmX5_raise (va_Pc [.ref (ad 12), .int x1] (cPre dC dI cy (wC ad cy ss ds ti co oma obr obj obo obm plo pch pbe pbl dnu dde dbo dln dld tba tal tro tsc tcl rma) sz)) (va_Qv (fun (u : (Nat → Int32) × (Nat → Int32) × Int64 × (Nat → Nat → Int64)) => Q u.1 u.2.1 u.2.2.1 u.2.2.2) (fun u t => cPost dC dI cy (wC ad cy ss ds ti co oma obr obj obo obm plo pch pbe pbl dnu dde dbo dln dld tba tal tro tsc tcl rma) sz (wC ad cy ss ds ti co oma obr obj obo obm plo pch pbe pbl dnu dde dbo dln dld (u.1) (u.2.1) tro (u.2.2.1) (u.2.2.2) rma) t) (va_A (wC ad cy ss ds ti co oma obr obj obo obm plo pch pbe pbl dnu dde dbo dln dld tba tal tro tsc tcl rma) sz)) 0 0 (va_A (wC ad cy ss ds ti co oma obr obj obo obm plo pch pbe pbl dnu dde dbo dln dld tba tal tro tsc tcl rma) sz) := by
  refine Met.ofW (cc := cX5_raise) (maxL := 5) (ret := none) (by decide) rfl ?_
  intro p e s m args below meth c s₁ B hml hv
  obtain ⟨rfl, hsz, hP, hK, hD0, hN⟩ := hv
  have hts := atoms_spec (ws := wsX5_raise) B.pre
  have hown : s.vm.findClass RX5 = some m.cls := findClass_of_methodNamed B.named
  subst hsz
  have hD := hD0.self (sz := s.heap.size)
  generalize hAe : va_A (wC ad cy ss ds ti co oma obr obj obo obm plo pch pbe pbl dnu dde dbo dln dld tba tal tro tsc tcl rma) s.heap.size = A at hD ⊢
  have hA : ∀ q : Nat, s.heap.size ≤ q → A q := fun q h => by rw [← hAe]; exact Or.inr h
  have hl := lv_entry ([.ref (ad 12), .int x1]) (n := 5) (Nat.le_of_ble_eq_true rfl)
  rw [lg_entry_eq]
  generalize (lg_sl ([.ref (ad 12), .int x1]) ++ List.replicate (5 - (lg_sl ([.ref (ad 12), .int x1])).length) Slot.unset).toArray = ls at hl ⊢
  have hl : lv_has ls 5 [(0, .ref (ad 12)), (1, .int x1)] := hl
  exact k_X5_raise_0 ⟨B.exec, B.bytes, hml, B.returns, hown, hts, B.notSynchronized, hK, hA, hN⟩ x1 tba tal tsc tcl s.heap [] ls hm ⟨hP, hD, va_S.rf⟩ (lv_sub hl [0, 1] rfl) (fun tba tal tsc tcl H locs ls pc hdg hSt hq => W.vret B.exec B.bytes B.returns (fun t ht hW => ⟨⟨(tba, tal, tsc, tcl), rfl, hq, cPost_of hAe ht hW.alike hSt hK⟩, hSt.2.2.F ht⟩) hSt.2.2.2.2 hdg B.notSynchronized)

-- ===== X5_clear
theorem fl_X5_clear_49 : Cond.fieldLink RX5 49 "UnlikeUnion$Tableau" "rows" "I" ∈ wsX5_clear := by decide +kernel
theorem fl_X5_clear_52 : Cond.fieldLink RX5 52 "UnlikeUnion$Tableau" "scale" "J" ∈ wsX5_clear := by decide +kernel
theorem fl_X5_clear_16 : Cond.fieldLink RX5 16 "UnlikeUnion$Tableau" "basic" "[I" ∈ wsX5_clear := by decide +kernel
theorem fl_X5_clear_13 : Cond.fieldLink RX5 13 "UnlikeUnion$Tableau" "cells" "[[J" ∈ wsX5_clear := by decide +kernel
theorem fl_X5_clear_20 : Cond.fieldLink RX5 20 "UnlikeUnion$Tableau" "allowed" "[Z" ∈ wsX5_clear := by decide +kernel
theorem in_X5_clear_X5 : ∀ w ∈ u_ws RX5 TX5 5, w ∈ wsX5_clear := by decide +kernel
abbrev rmX5_clear : Room := { frames := 1, cells := 0, slots := 0, locals := 64 }
def p_X5_clear_34 (N : Nat) (Q : (Nat → Int32) → (Nat → Int32) → Int32 → Int64 → (Nat → Nat → Int64) → Prop) (K19 : Int32 → (Nat → Int32) → (Nat → Int32) → Int32 → Int64 → (Nat → Nat → Int64) → Prop) : Nat → Int32 → Int32 → (Nat → Int32) → (Nat → Int32) → Int32 → Int64 → (Nat → Nat → Int64) → Prop
  | 0 => fun _ _ _ _ _ _ _ => False
  | n + 1 => fun x2 x3 tba tal tro tsc tcl => ((25 : Int32) < x3 → (∀ x2_2 : Int32, x2_2 = x2 + (1 : Int32) → (K19 x2_2 tba tal tro tsc tcl))) ∧ (¬ (25 : Int32) < x3 → (vp_in x2 10 ∧ (vp_in x3 26 ∧ (∀ x3_5 : Int32, x3_5 = x3 + (1 : Int32) → (p_X5_clear_34 N Q K19 n x2 x3_5 tba tal tro tsc (upR tcl (x2).toNatClampNeg (vp_updL (tcl (x2).toNatClampNeg) (x3).toNatClampNeg (0 : Int64))))))))

def p_X5_clear_63 (N : Nat) (Q : (Nat → Int32) → (Nat → Int32) → Int32 → Int64 → (Nat → Nat → Int64) → Prop) : Nat → Int32 → (Nat → Int32) → (Nat → Int32) → Int32 → Int64 → (Nat → Nat → Int64) → Prop
  | 0 => fun _ _ _ _ _ _ => False
  | n + 1 => fun x2 tba tal tro tsc tcl => ((25 : Int32) ≤ x2 → (Q tba tal tro tsc tcl)) ∧ (¬ (25 : Int32) ≤ x2 → (vp_in x2 25 ∧ (∀ x2_3 : Int32, x2_3 = x2 + (1 : Int32) → (p_X5_clear_63 N Q n x2_3 tba (upd tal (x2).toNatClampNeg (vp_nar .boolean (0 : Int32))) tro tsc tcl))))

def p_X5_clear_19 (N : Nat) (Q : (Nat → Int32) → (Nat → Int32) → Int32 → Int64 → (Nat → Nat → Int64) → Prop) : Nat → Int32 → (Nat → Int32) → (Nat → Int32) → Int32 → Int64 → (Nat → Nat → Int64) → Prop
  | 0 => fun _ _ _ _ _ _ => False
  | n + 1 => fun x2 tba tal tro tsc tcl => ((10 : Int32) ≤ x2 → (p_X5_clear_63 N Q N (0 : Int32) tba tal tro tsc tcl)) ∧ (¬ (10 : Int32) ≤ x2 → (vp_in x2 10 ∧ (p_X5_clear_34 N Q (fun x2 tba tal tro tsc tcl => p_X5_clear_19 N Q n x2 tba tal tro tsc tcl) N x2 (0 : Int32) (upd tba (x2).toNatClampNeg (-1 : Int32)) tal tro tsc tcl)))

def p_X5_clear (N : Nat) (Q : (Nat → Int32) → (Nat → Int32) → Int32 → Int64 → (Nat → Nat → Int64) → Prop) (x1 : Int32) (tba : Nat → Int32) (tal : Nat → Int32) (tro : Int32) (tsc : Int64) (tcl : Nat → Nat → Int64) : Prop :=
  ∀ v_1 : Int32, v_1 = (if (10 : Int32) < ((3 : Int32) + x1) then (10 : Int32) else ((3 : Int32) + x1)) → (p_X5_clear_19 N Q N (0 : Int32) tba tal v_1 (1 : Int64) tcl)

set_option maxHeartbeats 4000000 in
set_option maxRecDepth 100000 in
theorem k_X5_clear_34 {N : Nat} {ss : Int32} {ds : Int32} {ti : Nat → Int32} {co : Int32} {oma : Nat → Int32} {obr : Int32} {obj : Int32} {obo : Int32} {obm : Int32} {plo : Nat → Int32} {pch : Nat → Int32} {pbe : Nat → Int32} {pbl : Int32} {dnu : Nat → Int32} {dde : Nat → Int32} {dbo : Int32} {dln : Int32} {dld : Int32} {rma : Nat → Int32} {Q : (Nat → Int32) → (Nat → Int32) → Int32 → Int64 → (Nat → Nat → Int64) → Prop} {K19 : Int32 → (Nat → Int32) → (Nat → Int32) → Int32 → Int64 → (Nat → Nat → Int64) → Prop} (C0 : cxM cX5_clear 4 none RX5 wsX5_clear p s m args meth c dC dI cy A) :
    ∀ (n : Nat) (x2 : Int32) (x3 : Int32) (tba : Nat → Int32) (tal : Nat → Int32) (tro : Int32) (tsc : Int64) (tcl : Nat → Nat → Int64) (H : Heap) (locs : List Loc) (ls : Array Slot) (hm : p_X5_clear_34 N Q K19 n x2 x3 tba tal tro tsc tcl) (hSt : stC dC dI A s (wC ad cy ss ds ti co oma obr obj obo obm plo pch pbe pbl dnu dde dbo dln dld tba tal tro tsc tcl rma) H locs) (hl : lv_has ls 4 [(0, .ref (ad 12)), (2, .int x2), (3, .int x3)]) (hret : ∀ (tba : Nat → Int32) (tal : Nat → Int32) (tro : Int32) (tsc : Int64) (tcl : Nat → Nat → Int64) (H : Heap) (locs : List Loc) (ls : Array Slot) (pc : Nat), decode cX5_clear pc = .ok (.return_, 1) → stC dC dI A s (wC ad cy ss ds ti co oma obr obj obo obm plo pch pbe pbl dnu dde dbo dln dld tba tal tro tsc tcl rma) H locs → Q tba tal tro tsc tcl → W p l e rmX5_clear s m args below meth c H locs 0 0 Z (F0 m pc ls [])) (hK19 : ∀ (x2 : Int32) (tba : Nat → Int32) (tal : Nat → Int32) (tro : Int32) (tsc : Int64) (tcl : Nat → Nat → Int64) (H : Heap) (locs : List Loc) (ls : Array Slot), K19 x2 tba tal tro tsc tcl → stC dC dI A s (wC ad cy ss ds ti co oma obr obj obo obm plo pch pbe pbl dnu dde dbo dln dld tba tal tro tsc tcl rma) H locs → lv_has ls 4 [(0, .ref (ad 12)), (2, .int x2)] → W p l e rmX5_clear s m args below meth c H locs 0 0 Z (F0 m 19 ls [])), W p l e rmX5_clear s m args below meth c H locs 0 0 Z (F0 m 34 ls []) := by
  obtain ⟨hx, hb, hml, hr, hown, hts, hlocks, hK, hA, hN⟩ := id C0
  intro n
  induction n with
  | zero => intro x2 x3 tba tal tro tsc tcl H locs ls hm; exact False.elim hm
  | succ n ih =>
    intro x2 x3 tba tal tro tsc tcl H locs ls hm hSt hl hret hK19
    obtain ⟨hP, hD, hS⟩ := hSt
    unfold p_X5_clear_34 at hm
    refine lv_iload_n hx hb dX5_clear_34 rfl (lv_at hl 2 rfl) ?_
    refine lv_bipush (v := 25) hx hb dX5_clear_35 (by decide) ?_
    refine lv_icmp_gt (tgt := 55) hx hb dX5_clear_37 (by decide) (fun c_1 => ?_) (fun c_1 => ?_)
    · have hm := hm.1 c_1
      obtain ⟨x2_2, ex2_2⟩ : ∃ y : Int32, y = x2 + (1 : Int32) := ⟨_, rfl⟩
      have hm := hm x2_2 ex2_2
      refine lv_iinc (v := x2_2) (lv' := [(2, .int x2_2), (0, .ref (ad 12)), (3, .int x3)]) hx hb dX5_clear_55 hl (k := 1) rfl (by rw [ex2_2]; rfl) (by decide) rfl (fun ls hl => ?_)
      refine lv_goto (tgt := 19) hx hb dX5_clear_58 (by decide) ?_
      exact hK19 x2_2 tba tal tro tsc tcl H locs ls hm ⟨hP, hD, hS⟩ (lv_sub hl [1, 0] rfl)
    · have hm := hm.2 c_1
      refine lv_aload_n hx hb dX5_clear_40 rfl (lv_at hl 0 rfl) ?_
      refine va_get (D := (dC, dI)) (ci := 5) (v := .ref (ad 13)) (C := RX5) (T := TX5) (N := 5) hx hb hts in_X5_clear_X5 hown hK hP 12 rfl rfl 0 (by decide) (hts _ fl_X5_clear_13) (fun _ h9 => h9) rfl dX5_clear_41 ?_
      refine lv_iload_n hx hb dX5_clear_44 rfl (lv_at hl 1 rfl) ?_
      have hi_3 := hm.1
      have hm := hm.2
      refine wC_aald hx hb hK hP hi_3 dX5_clear_45 ?_
      refine lv_iload_n hx hb dX5_clear_46 rfl (lv_at hl 2 rfl) ?_
      refine lv_lconst (v := 0) hx hb dX5_clear_47 (by decide) ?_
      have hi_4 := hm.1
      have hm := hm.2
      refine va_last hx hb hK hP hD hS _ 1 (wC_row hi_3) rfl hi_4 dX5_clear_48 (fun H locs hP hD hS => ?_)
      rw [wC_set hi_3] at hP hD
      have hP : va_P (dC, dI) vwCl (wC ad cy ss ds ti co oma obr obj obo obm plo pch pbe pbl dnu dde dbo dln dld tba tal tro tsc (upR tcl (x2).toNatClampNeg (vp_updL (tcl (x2).toNatClampNeg) (x3).toNatClampNeg (0 : Int64))) rma) H := hP
      have hD : va_D A (wC ad cy ss ds ti co oma obr obj obo obm plo pch pbe pbl dnu dde dbo dln dld tba tal tro tsc (upR tcl (x2).toNatClampNeg (vp_updL (tcl (x2).toNatClampNeg) (x3).toNatClampNeg (0 : Int64))) rma) := hD
      obtain ⟨x3_5, ex3_5⟩ : ∃ y : Int32, y = x3 + (1 : Int32) := ⟨_, rfl⟩
      have hm := hm x3_5 ex3_5
      refine lv_iinc (v := x3_5) (lv' := [(3, .int x3_5), (0, .ref (ad 12)), (2, .int x2)]) hx hb dX5_clear_49 hl (k := 2) rfl (by rw [ex3_5]; rfl) (by decide) rfl (fun ls hl => ?_)
      refine lv_goto (tgt := 34) hx hb dX5_clear_52 (by decide) ?_
      exact ih x2 x3_5 tba tal tro tsc (upR tcl (x2).toNatClampNeg (vp_updL (tcl (x2).toNatClampNeg) (x3).toNatClampNeg (0 : Int64))) H locs ls hm ⟨hP, hD, hS⟩ (lv_sub hl [1, 2, 0] rfl) hret hK19

set_option maxHeartbeats 4000000 in
set_option maxRecDepth 100000 in
theorem k_X5_clear_63 {N : Nat} {ss : Int32} {ds : Int32} {ti : Nat → Int32} {co : Int32} {oma : Nat → Int32} {obr : Int32} {obj : Int32} {obo : Int32} {obm : Int32} {plo : Nat → Int32} {pch : Nat → Int32} {pbe : Nat → Int32} {pbl : Int32} {dnu : Nat → Int32} {dde : Nat → Int32} {dbo : Int32} {dln : Int32} {dld : Int32} {rma : Nat → Int32} {Q : (Nat → Int32) → (Nat → Int32) → Int32 → Int64 → (Nat → Nat → Int64) → Prop} (C0 : cxM cX5_clear 4 none RX5 wsX5_clear p s m args meth c dC dI cy A) :
    ∀ (n : Nat) (x2 : Int32) (tba : Nat → Int32) (tal : Nat → Int32) (tro : Int32) (tsc : Int64) (tcl : Nat → Nat → Int64) (H : Heap) (locs : List Loc) (ls : Array Slot) (hm : p_X5_clear_63 N Q n x2 tba tal tro tsc tcl) (hSt : stC dC dI A s (wC ad cy ss ds ti co oma obr obj obo obm plo pch pbe pbl dnu dde dbo dln dld tba tal tro tsc tcl rma) H locs) (hl : lv_has ls 4 [(0, .ref (ad 12)), (2, .int x2)]) (hret : ∀ (tba : Nat → Int32) (tal : Nat → Int32) (tro : Int32) (tsc : Int64) (tcl : Nat → Nat → Int64) (H : Heap) (locs : List Loc) (ls : Array Slot) (pc : Nat), decode cX5_clear pc = .ok (.return_, 1) → stC dC dI A s (wC ad cy ss ds ti co oma obr obj obo obm plo pch pbe pbl dnu dde dbo dln dld tba tal tro tsc tcl rma) H locs → Q tba tal tro tsc tcl → W p l e rmX5_clear s m args below meth c H locs 0 0 Z (F0 m pc ls [])), W p l e rmX5_clear s m args below meth c H locs 0 0 Z (F0 m 63 ls []) := by
  obtain ⟨hx, hb, hml, hr, hown, hts, hlocks, hK, hA, hN⟩ := id C0
  intro n
  induction n with
  | zero => intro x2 tba tal tro tsc tcl H locs ls hm; exact False.elim hm
  | succ n ih =>
    intro x2 tba tal tro tsc tcl H locs ls hm hSt hl hret
    obtain ⟨hP, hD, hS⟩ := hSt
    unfold p_X5_clear_63 at hm
    refine lv_iload_n hx hb dX5_clear_63 rfl (lv_at hl 1 rfl) ?_
    refine lv_bipush (v := 25) hx hb dX5_clear_64 (by decide) ?_
    refine lv_icmp_ge (tgt := 82) hx hb dX5_clear_66 (by decide) (fun c_1 => ?_) (fun c_1 => ?_)
    · have hm := hm.1 c_1
      exact hret tba tal tro tsc tcl H locs ls 82 dX5_clear_82 ⟨hP, hD, hS⟩ hm
    · have hm := hm.2 c_1
      refine lv_aload_n hx hb dX5_clear_69 rfl (lv_at hl 0 rfl) ?_
      refine va_get (D := (dC, dI)) (ci := 5) (v := .ref (ad 15)) (C := RX5) (T := TX5) (N := 5) hx hb hts in_X5_clear_X5 hown hK hP 12 rfl rfl 2 (by decide) (hts _ fl_X5_clear_20) (fun _ h9 => h9) rfl dX5_clear_70 ?_
      refine lv_iload_n hx hb dX5_clear_73 rfl (lv_at hl 1 rfl) ?_
      refine lv_iconst (v := 0) hx hb dX5_clear_74 (by decide) ?_
      have hi_2 := hm.1
      have hm := hm.2
      refine va_zast hx hb hK hP hD hS 15 2 rfl rfl hi_2 dX5_clear_75 (fun H locs hP hD hS => ?_)
      have hP : va_P (dC, dI) vwCl (wC ad cy ss ds ti co oma obr obj obo obm plo pch pbe pbl dnu dde dbo dln dld tba (upd tal (x2).toNatClampNeg (vp_nar .boolean (0 : Int32))) tro tsc tcl rma) H := hP
      have hD : va_D A (wC ad cy ss ds ti co oma obr obj obo obm plo pch pbe pbl dnu dde dbo dln dld tba (upd tal (x2).toNatClampNeg (vp_nar .boolean (0 : Int32))) tro tsc tcl rma) := hD
      obtain ⟨x2_3, ex2_3⟩ : ∃ y : Int32, y = x2 + (1 : Int32) := ⟨_, rfl⟩
      have hm := hm x2_3 ex2_3
      refine lv_iinc (v := x2_3) (lv' := [(2, .int x2_3), (0, .ref (ad 12))]) hx hb dX5_clear_76 hl (k := 1) rfl (by rw [ex2_3]; rfl) (by decide) rfl (fun ls hl => ?_)
      refine lv_goto (tgt := 63) hx hb dX5_clear_79 (by decide) ?_
      exact ih x2_3 tba (upd tal (x2).toNatClampNeg (vp_nar .boolean (0 : Int32))) tro tsc tcl H locs ls hm ⟨hP, hD, hS⟩ (lv_sub hl [1, 0] rfl) hret

set_option maxHeartbeats 4000000 in
set_option maxRecDepth 100000 in
theorem k_X5_clear_19 {N : Nat} {ss : Int32} {ds : Int32} {ti : Nat → Int32} {co : Int32} {oma : Nat → Int32} {obr : Int32} {obj : Int32} {obo : Int32} {obm : Int32} {plo : Nat → Int32} {pch : Nat → Int32} {pbe : Nat → Int32} {pbl : Int32} {dnu : Nat → Int32} {dde : Nat → Int32} {dbo : Int32} {dln : Int32} {dld : Int32} {rma : Nat → Int32} {Q : (Nat → Int32) → (Nat → Int32) → Int32 → Int64 → (Nat → Nat → Int64) → Prop} (C0 : cxM cX5_clear 4 none RX5 wsX5_clear p s m args meth c dC dI cy A) :
    ∀ (n : Nat) (x2 : Int32) (tba : Nat → Int32) (tal : Nat → Int32) (tro : Int32) (tsc : Int64) (tcl : Nat → Nat → Int64) (H : Heap) (locs : List Loc) (ls : Array Slot) (hm : p_X5_clear_19 N Q n x2 tba tal tro tsc tcl) (hSt : stC dC dI A s (wC ad cy ss ds ti co oma obr obj obo obm plo pch pbe pbl dnu dde dbo dln dld tba tal tro tsc tcl rma) H locs) (hl : lv_has ls 4 [(0, .ref (ad 12)), (2, .int x2)]) (hret : ∀ (tba : Nat → Int32) (tal : Nat → Int32) (tro : Int32) (tsc : Int64) (tcl : Nat → Nat → Int64) (H : Heap) (locs : List Loc) (ls : Array Slot) (pc : Nat), decode cX5_clear pc = .ok (.return_, 1) → stC dC dI A s (wC ad cy ss ds ti co oma obr obj obo obm plo pch pbe pbl dnu dde dbo dln dld tba tal tro tsc tcl rma) H locs → Q tba tal tro tsc tcl → W p l e rmX5_clear s m args below meth c H locs 0 0 Z (F0 m pc ls [])), W p l e rmX5_clear s m args below meth c H locs 0 0 Z (F0 m 19 ls []) := by
  obtain ⟨hx, hb, hml, hr, hown, hts, hlocks, hK, hA, hN⟩ := id C0
  intro n
  induction n with
  | zero => intro x2 tba tal tro tsc tcl H locs ls hm; exact False.elim hm
  | succ n ih =>
    intro x2 tba tal tro tsc tcl H locs ls hm hSt hl hret
    obtain ⟨hP, hD, hS⟩ := hSt
    unfold p_X5_clear_19 at hm
    refine lv_iload_n hx hb dX5_clear_19 rfl (lv_at hl 1 rfl) ?_
    refine lv_bipush (v := 10) hx hb dX5_clear_20 (by decide) ?_
    refine lv_icmp_ge (tgt := 61) hx hb dX5_clear_22 (by decide) (fun c_1 => ?_) (fun c_1 => ?_)
    · have hm := hm.1 c_1
      refine lv_iconst (v := 0) hx hb dX5_clear_61 (by decide) ?_
      refine lv_istore_n (lv' := [(2, .int (0 : Int32)), (0, .ref (ad 12))]) hx hb dX5_clear_62 rfl hl (by decide) rfl (fun ls hl => ?_)
      exact k_X5_clear_63 C0 N (0 : Int32) tba tal tro tsc tcl H locs ls hm ⟨hP, hD, hS⟩ (lv_sub hl [1, 0] rfl) hret
    · have hm := hm.2 c_1
      refine lv_aload_n hx hb dX5_clear_25 rfl (lv_at hl 0 rfl) ?_
      refine va_get (D := (dC, dI)) (ci := 5) (v := .ref (ad 14)) (C := RX5) (T := TX5) (N := 5) hx hb hts in_X5_clear_X5 hown hK hP 12 rfl rfl 1 (by decide) (hts _ fl_X5_clear_16) (fun _ h9 => h9) rfl dX5_clear_26 ?_
      refine lv_iload_n hx hb dX5_clear_29 rfl (lv_at hl 1 rfl) ?_
      refine lv_iconst (v := -1) hx hb dX5_clear_30 (by decide) ?_
      have hi_2 := hm.1
      have hm := hm.2
      refine va_iast hx hb hK hP hD hS 14 0 rfl rfl hi_2 dX5_clear_31 (fun H locs hP hD hS => ?_)
      have hP : va_P (dC, dI) vwCl (wC ad cy ss ds ti co oma obr obj obo obm plo pch pbe pbl dnu dde dbo dln dld (upd tba (x2).toNatClampNeg (-1 : Int32)) tal tro tsc tcl rma) H := hP
      have hD : va_D A (wC ad cy ss ds ti co oma obr obj obo obm plo pch pbe pbl dnu dde dbo dln dld (upd tba (x2).toNatClampNeg (-1 : Int32)) tal tro tsc tcl rma) := hD
      refine lv_iconst (v := 0) hx hb dX5_clear_32 (by decide) ?_
      refine lv_istore_n (lv' := [(3, .int (0 : Int32)), (0, .ref (ad 12)), (2, .int x2)]) hx hb dX5_clear_33 rfl hl (by decide) rfl (fun ls hl => ?_)
      refine k_X5_clear_34 C0 N x2 (0 : Int32) (upd tba (x2).toNatClampNeg (-1 : Int32)) tal tro tsc tcl H locs ls hm ⟨hP, hD, hS⟩ (lv_sub hl [1, 2, 0] rfl) hret (fun x2 tba tal tro tsc tcl H locs ls hm hSt hl => ?_)
      · obtain ⟨hP, hD, hS⟩ := hSt
        exact ih x2 tba tal tro tsc tcl H locs ls hm ⟨hP, hD, hS⟩ hl hret

set_option maxHeartbeats 4000000 in
set_option maxRecDepth 100000 in
theorem k_X5_clear_0 {N : Nat} {ss : Int32} {ds : Int32} {ti : Nat → Int32} {co : Int32} {oma : Nat → Int32} {obr : Int32} {obj : Int32} {obo : Int32} {obm : Int32} {plo : Nat → Int32} {pch : Nat → Int32} {pbe : Nat → Int32} {pbl : Int32} {dnu : Nat → Int32} {dde : Nat → Int32} {dbo : Int32} {dln : Int32} {dld : Int32} {rma : Nat → Int32} {Q : (Nat → Int32) → (Nat → Int32) → Int32 → Int64 → (Nat → Nat → Int64) → Prop} (C0 : cxM cX5_clear 4 none RX5 wsX5_clear p s m args meth c dC dI cy A) :
    ∀ (x1 : Int32) (tba : Nat → Int32) (tal : Nat → Int32) (tro : Int32) (tsc : Int64) (tcl : Nat → Nat → Int64) (H : Heap) (locs : List Loc) (ls : Array Slot) (hm : p_X5_clear N Q x1 tba tal tro tsc tcl) (hSt : stC dC dI A s (wC ad cy ss ds ti co oma obr obj obo obm plo pch pbe pbl dnu dde dbo dln dld tba tal tro tsc tcl rma) H locs) (hl : lv_has ls 4 [(0, .ref (ad 12)), (1, .int x1)]) (hret : ∀ (tba : Nat → Int32) (tal : Nat → Int32) (tro : Int32) (tsc : Int64) (tcl : Nat → Nat → Int64) (H : Heap) (locs : List Loc) (ls : Array Slot) (pc : Nat), decode cX5_clear pc = .ok (.return_, 1) → stC dC dI A s (wC ad cy ss ds ti co oma obr obj obo obm plo pch pbe pbl dnu dde dbo dln dld tba tal tro tsc tcl rma) H locs → Q tba tal tro tsc tcl → W p l e rmX5_clear s m args below meth c H locs 0 0 Z (F0 m pc ls [])), W p l e rmX5_clear s m args below meth c H locs 0 0 Z (F0 m 0 ls []) := by
  obtain ⟨hx, hb, hml, hr, hown, hts, hlocks, hK, hA, hN⟩ := id C0
  intro x1 tba tal tro tsc tcl H locs ls hm hSt hl hret
  obtain ⟨hP, hD, hS⟩ := hSt
  unfold p_X5_clear at hm
  refine lv_aload_n hx hb dX5_clear_0 rfl (lv_at hl 0 rfl) ?_
  refine lv_iconst (v := 3) hx hb dX5_clear_1 (by decide) ?_
  refine lv_iload_n hx hb dX5_clear_2 rfl (lv_at hl 1 rfl) ?_
  refine lv_iadd hx hb dX5_clear_3 ?_
  refine lv_bipush (v := 10) hx hb dX5_clear_4 (by decide) ?_
  refine va_mmin hx hb (hml.trans hl.1.symm) hown (hts (.methodLink RX5 43 Lib.Math.min.name) (by decide +kernel)) (hts (.static Lib.Math.min.name) (by decide +kernel)) (hts (.initialized "java/lang/Math") (by decide +kernel)) (hts (.code Lib.Math.min.name Lib.Math.min.code 2 (some .int)) (by decide +kernel)) (Nat.le_of_ble_eq_true rfl) (Nat.le_of_ble_eq_true rfl) (Nat.zero_le _) (Nat.zero_le _) dX5_clear_6 ?_
  refine lv_topi (fun v_1 ev_1 => ?_)
  have hm := hm v_1 ev_1
  refine va_put (D := (dC, dI)) (ci := 5) (v := .int v_1) (ty := .int) (C := RX5) (T := TX5) (N := 5) hx hb hts in_X5_clear_X5 tyX5 tyX5_ok nmX5 hown hK hP hD hS 12 rfl rfl 3 (by decide) (hts _ fl_X5_clear_49) (fun _ h9 => h9) rfl (by decide +kernel) rfl rfl (Nat.le_of_ble_eq_true rfl) dX5_clear_9 (fun H locs hP hD hS => ?_)
  have hP : va_P (dC, dI) vwCl (wC ad cy ss ds ti co oma obr obj obo obm plo pch pbe pbl dnu dde dbo dln dld tba tal v_1 tsc tcl rma) H := hP
  have hD : va_D A (wC ad cy ss ds ti co oma obr obj obo obm plo pch pbe pbl dnu dde dbo dln dld tba tal v_1 tsc tcl rma) := hD
  refine lv_aload_n hx hb dX5_clear_12 rfl (lv_at hl 0 rfl) ?_
  refine lv_lconst (v := 1) hx hb dX5_clear_13 (by decide) ?_
  refine va_put (D := (dC, dI)) (ci := 5) (v := .long (1 : Int64)) (ty := .long) (C := RX5) (T := TX5) (N := 5) hx hb hts in_X5_clear_X5 tyX5 tyX5_ok nmX5 hown hK hP hD hS 12 rfl rfl 4 (by decide) (hts _ fl_X5_clear_52) (fun _ h9 => h9) rfl (by decide +kernel) rfl rfl (Nat.le_of_ble_eq_true rfl) dX5_clear_14 (fun H locs hP hD hS => ?_)
  have hP : va_P (dC, dI) vwCl (wC ad cy ss ds ti co oma obr obj obo obm plo pch pbe pbl dnu dde dbo dln dld tba tal v_1 (1 : Int64) tcl rma) H := hP
  have hD : va_D A (wC ad cy ss ds ti co oma obr obj obo obm plo pch pbe pbl dnu dde dbo dln dld tba tal v_1 (1 : Int64) tcl rma) := hD
  refine lv_iconst (v := 0) hx hb dX5_clear_17 (by decide) ?_
  refine lv_istore_n (lv' := [(2, .int (0 : Int32)), (0, .ref (ad 12)), (1, .int x1)]) hx hb dX5_clear_18 rfl hl (by decide) rfl (fun ls hl => ?_)
  exact k_X5_clear_19 C0 N (0 : Int32) tba tal v_1 (1 : Int64) tcl H locs ls hm ⟨hP, hD, hS⟩ (lv_sub hl [1, 0] rfl) hret

set_option maxHeartbeats 4000000 in
set_option maxRecDepth 100000 in
theorem c_X5_clear (l : Launch) (dC : Nat → ClassId) (dI : Nat → Nat → Nat) (cy : Nat → ClassId) (ad : Nat → Nat) (sz : Nat) (ss : Int32) (ds : Int32) (ti : Nat → Int32) (co : Int32) (oma : Nat → Int32) (obr : Int32) (obj : Int32) (obo : Int32) (obm : Int32) (plo : Nat → Int32) (pch : Nat → Int32) (pbe : Nat → Int32) (pbl : Int32) (dnu : Nat → Int32) (dde : Nat → Int32) (dbo : Int32) (dln : Int32) (dld : Int32) (tba : Nat → Int32) (tal : Nat → Int32) (tro : Int32) (tsc : Int64) (tcl : Nat → Nat → Int64) (rma : Nat → Int32) (x1 : Int32) (N : Nat) (Q : (Nat → Int32) → (Nat → Int32) → Int32 → Int64 → (Nat → Nat → Int64) → Prop) (hm : p_X5_clear N Q x1 tba tal tro tsc tcl) : Met l yX5_clear wsX5_clear rmX5_clear (va_Pc [.ref (ad 12), .int x1] (cPre dC dI cy (wC ad cy ss ds ti co oma obr obj obo obm plo pch pbe pbl dnu dde dbo dln dld tba tal tro tsc tcl rma) sz)) (va_Qv (fun (u : (Nat → Int32) × (Nat → Int32) × Int32 × Int64 × (Nat → Nat → Int64)) => Q u.1 u.2.1 u.2.2.1 u.2.2.2.1 u.2.2.2.2) (fun u t => cPost dC dI cy (wC ad cy ss ds ti co oma obr obj obo obm plo pch pbe pbl dnu dde dbo dln dld tba tal tro tsc tcl rma) sz (wC ad cy ss ds ti co oma obr obj obo obm plo pch pbe pbl dnu dde dbo dln dld (u.1) (u.2.1) (u.2.2.1) (u.2.2.2.1) (u.2.2.2.2) rma) t) (va_A (wC ad cy ss ds ti co oma obr obj obo obm plo pch pbe pbl dnu dde dbo dln dld tba tal tro tsc tcl rma) sz)) 0 0 (va_A (wC ad cy ss ds ti co oma obr obj obo obm plo pch pbe pbl dnu dde dbo dln dld tba tal tro tsc tcl rma) sz) := by
  refine Met.ofW (cc := cX5_clear) (maxL := 4) (ret := none) (by decide) rfl ?_
  intro p e s m args below meth c s₁ B hml hv
  obtain ⟨rfl, hsz, hP, hK, hD0, hN⟩ := hv
  have hts := atoms_spec (ws := wsX5_clear) B.pre
  have hown : s.vm.findClass RX5 = some m.cls := findClass_of_methodNamed B.named
  subst hsz
  have hD := hD0.self (sz := s.heap.size)
  generalize hAe : va_A (wC ad cy ss ds ti co oma obr obj obo obm plo pch pbe pbl dnu dde dbo dln dld tba tal tro tsc tcl rma) s.heap.size = A at hD ⊢
  have hA : ∀ q : Nat, s.heap.size ≤ q → A q := fun q h => by rw [← hAe]; exact Or.inr h
  have hl := lv_entry ([.ref (ad 12), .int x1]) (n := 4) (Nat.le_of_ble_eq_true rfl)
  rw [lg_entry_eq]
  generalize (lg_sl ([.ref (ad 12), .int x1]) ++ List.replicate (4 - (lg_sl ([.ref (ad 12), .int x1])).length) Slot.unset).toArray = ls at hl ⊢
  have hl : lv_has ls 4 [(0, .ref (ad 12)), (1, .int x1)] := hl
  exact k_X5_clear_0 ⟨B.exec, B.bytes, hml, B.returns, hown, hts, B.notSynchronized, hK, hA, hN⟩ x1 tba tal tro tsc tcl s.heap [] ls hm ⟨hP, hD, va_S.rf⟩ (lv_sub hl [0, 1] rfl) (fun tba tal tro tsc tcl H locs ls pc hdg hSt hq => W.vret B.exec B.bytes B.returns (fun t ht hW => ⟨⟨(tba, tal, tro, tsc, tcl), rfl, hq, cPost_of hAe ht hW.alike hSt hK⟩, hSt.2.2.F ht⟩) hSt.2.2.2.2 hdg B.notSynchronized)

-- ===== X5_clearBasic
theorem fl_X5_clearBasic_16 : Cond.fieldLink RX5 16 "UnlikeUnion$Tableau" "basic" "[I" ∈ wsX5_clearBasic := by decide +kernel
theorem fl_X5_clearBasic_13 : Cond.fieldLink RX5 13 "UnlikeUnion$Tableau" "cells" "[[J" ∈ wsX5_clearBasic := by decide +kernel
theorem in_X5_clearBasic_X5 : ∀ w ∈ u_ws RX5 TX5 5, w ∈ wsX5_clearBasic := by decide +kernel
abbrev rmX5_clearBasic : Room := { frames := 1, cells := 0, slots := 0, locals := 67 }
def p_X5_clearBasic_39 (N : Nat) (tba : Nat → Int32) (Q : Int32 → (Nat → Nat → Int64) → Prop) (K21 : Int32 → Int32 → Int32 → (Nat → Nat → Int64) → Prop) : Nat → Int32 → Int32 → Int32 → Int64 → Int32 → (Nat → Nat → Int64) → Prop
  | 0 => fun _ _ _ _ _ _ => False
  | n + 1 => fun x1 x2 x3 x4 x6 tcl => ((25 : Int32) < x6 → (∀ x3_2 : Int32, x3_2 = x3 + (1 : Int32) → (K21 x1 x2 x3_2 tcl))) ∧ (¬ (25 : Int32) < x6 → ((x4 = (0 : Int64) → (∀ x3_4 : Int32, x3_4 = x3 + (1 : Int32) → (K21 x1 x2 x3_4 tcl))) ∧ (¬ x4 = (0 : Int64) → (vp_in x3 10 ∧ (vp_in x6 26 ∧ (vp_in x1 10 ∧ (vp_in x6 26 ∧ (∀ f_9 : Int64, f_9 = (tcl (x3).toNatClampNeg (x6).toNatClampNeg) - (x4 * (tcl (x1).toNatClampNeg (x6).toNatClampNeg)) → (vp_in x6 26 ∧ (∀ x6_11 : Int32, x6_11 = x6 + (1 : Int32) → (p_X5_clearBasic_39 N tba Q K21 n x1 x2 x3 x4 x6_11 (upR tcl (x3).toNatClampNeg (vp_updL (tcl (x3).toNatClampNeg) (x6).toNatClampNeg f_9)))))))))))))

def p_X5_clearBasic_21 (N : Nat) (tba : Nat → Int32) (Q : Int32 → (Nat → Nat → Int64) → Prop) : Nat → Int32 → Int32 → Int32 → (Nat → Nat → Int64) → Prop
  | 0 => fun _ _ _ _ => False
  | n + 1 => fun x1 x2 x3 tcl => ((3 : Int32) ≤ x3 → (Q (1 : Int32) tcl)) ∧ (¬ (3 : Int32) ≤ x3 → (vp_in x3 10 ∧ (vp_in x2 26 ∧ (∀ x4_4 : Int64, x4_4 = tcl (x3).toNatClampNeg (x2).toNatClampNeg → (p_X5_clearBasic_39 N tba Q (fun x1 x2 x3 tcl => p_X5_clearBasic_21 N tba Q n x1 x2 x3 tcl) N x1 x2 x3 x4_4 (0 : Int32) tcl)))))

def p_X5_clearBasic (N : Nat) (tba : Nat → Int32) (Q : Int32 → (Nat → Nat → Int64) → Prop) (x1 : Int32) (tcl : Nat → Nat → Int64) : Prop :=
  vp_in x1 10 ∧ (∀ x2_2 : Int32, x2_2 = tba (x1).toNatClampNeg → ((x2_2 < 0 → (Q (0 : Int32) tcl)) ∧ (¬ x2_2 < 0 → ((x2_2 < (21 : Int32) → (p_X5_clearBasic_21 N tba Q N x1 x2_2 (0 : Int32) tcl)) ∧ (¬ x2_2 < (21 : Int32) → (Q (0 : Int32) tcl))))))

set_option maxHeartbeats 4000000 in
set_option maxRecDepth 100000 in
theorem k_X5_clearBasic_39 {N : Nat} {ss : Int32} {ds : Int32} {ti : Nat → Int32} {co : Int32} {oma : Nat → Int32} {obr : Int32} {obj : Int32} {obo : Int32} {obm : Int32} {plo : Nat → Int32} {pch : Nat → Int32} {pbe : Nat → Int32} {pbl : Int32} {dnu : Nat → Int32} {dde : Nat → Int32} {dbo : Int32} {dln : Int32} {dld : Int32} {tba : Nat → Int32} {tal : Nat → Int32} {tro : Int32} {tsc : Int64} {rma : Nat → Int32} {Q : Int32 → (Nat → Nat → Int64) → Prop} {K21 : Int32 → Int32 → Int32 → (Nat → Nat → Int64) → Prop} (C0 : cxM cX5_clearBasic 7 (some .boolean) RX5 wsX5_clearBasic p s m args meth c dC dI cy A) :
    ∀ (n : Nat) (x1 : Int32) (x2 : Int32) (x3 : Int32) (x4 : Int64) (x6 : Int32) (tcl : Nat → Nat → Int64) (H : Heap) (locs : List Loc) (ls : Array Slot) (hm : p_X5_clearBasic_39 N tba Q K21 n x1 x2 x3 x4 x6 tcl) (hSt : stC dC dI A s (wC ad cy ss ds ti co oma obr obj obo obm plo pch pbe pbl dnu dde dbo dln dld tba tal tro tsc tcl rma) H locs) (hl : lv_has ls 7 [(0, .ref (ad 12)), (1, .int x1), (2, .int x2), (3, .int x3), (4, .long x4), (6, .int x6)]) (hret : ∀ (r : Int32) (tcl : Nat → Nat → Int64) (H : Heap) (locs : List Loc) (ls : Array Slot) (pc : Nat), decode cX5_clearBasic pc = .ok (.ireturn, 1) → narrow .boolean (.int r) = .int r → stC dC dI A s (wC ad cy ss ds ti co oma obr obj obo obm plo pch pbe pbl dnu dde dbo dln dld tba tal tro tsc tcl rma) H locs → Q r tcl → W p l e rmX5_clearBasic s m args below meth c H locs 0 0 Z (F0 m pc ls [.int r])) (hK21 : ∀ (x1 : Int32) (x2 : Int32) (x3 : Int32) (tcl : Nat → Nat → Int64) (H : Heap) (locs : List Loc) (ls : Array Slot), K21 x1 x2 x3 tcl → stC dC dI A s (wC ad cy ss ds ti co oma obr obj obo obm plo pch pbe pbl dnu dde dbo dln dld tba tal tro tsc tcl rma) H locs → lv_has ls 7 [(0, .ref (ad 12)), (1, .int x1), (2, .int x2), (3, .int x3)] → W p l e rmX5_clearBasic s m args below meth c H locs 0 0 Z (F0 m 21 ls [])), W p l e rmX5_clearBasic s m args below meth c H locs 0 0 Z (F0 m 39 ls []) := by
  obtain ⟨hx, hb, hml, hr, hown, hts, hlocks, hK, hA, hN⟩ := id C0
  intro n
  induction n with
  | zero => intro x1 x2 x3 x4 x6 tcl H locs ls hm; exact False.elim hm
  | succ n ih =>
    intro x1 x2 x3 x4 x6 tcl H locs ls hm hSt hl hret hK21
    obtain ⟨hP, hD, hS⟩ := hSt
    unfold p_X5_clearBasic_39 at hm
    refine lv_iload hx hb dX5_clearBasic_39 (lv_at hl 5 rfl) ?_
    refine lv_bipush (v := 25) hx hb dX5_clearBasic_41 (by decide) ?_
    refine lv_icmp_gt (tgt := 83) hx hb dX5_clearBasic_43 (by decide) (fun c_1 => ?_) (fun c_1 => ?_)
    · have hm := hm.1 c_1
      obtain ⟨x3_2, ex3_2⟩ : ∃ y : Int32, y = x3 + (1 : Int32) := ⟨_, rfl⟩
      have hm := hm x3_2 ex3_2
      refine lv_iinc (v := x3_2) (lv' := [(3, .int x3_2), (0, .ref (ad 12)), (1, .int x1), (2, .int x2), (4, .long x4), (6, .int x6)]) hx hb dX5_clearBasic_83 hl (k := 3) rfl (by rw [ex3_2]; rfl) (by decide) rfl (fun ls hl => ?_)
      refine lv_goto (tgt := 21) hx hb dX5_clearBasic_86 (by decide) ?_
      exact hK21 x1 x2 x3_2 tcl H locs ls hm ⟨hP, hD, hS⟩ (lv_sub hl [1, 2, 3, 0] rfl)
    · have hm := hm.2 c_1
      refine lv_lload hx hb dX5_clearBasic_46 (lv_at hl 4 rfl) ?_
      refine lv_lconst (v := 0) hx hb dX5_clearBasic_48 (by decide) ?_
      refine lq_eq (tgt := 83) hx hb dX5_clearBasic_49 dX5_clearBasic_50 (by decide) (fun c_3 => ?_) (fun c_3 => ?_)
      · have hm := hm.1 c_3
        obtain ⟨x3_4, ex3_4⟩ : ∃ y : Int32, y = x3 + (1 : Int32) := ⟨_, rfl⟩
        have hm := hm x3_4 ex3_4
        refine lv_iinc (v := x3_4) (lv' := [(3, .int x3_4), (0, .ref (ad 12)), (1, .int x1), (2, .int x2), (4, .long x4), (6, .int x6)]) hx hb dX5_clearBasic_83 hl (k := 3) rfl (by rw [ex3_4]; rfl) (by decide) rfl (fun ls hl => ?_)
        refine lv_goto (tgt := 21) hx hb dX5_clearBasic_86 (by decide) ?_
        exact hK21 x1 x2 x3_4 tcl H locs ls hm ⟨hP, hD, hS⟩ (lv_sub hl [1, 2, 3, 0] rfl)
      · have hm := hm.2 c_3
        refine lv_aload_n hx hb dX5_clearBasic_53 rfl (lv_at hl 0 rfl) ?_
        refine va_get (D := (dC, dI)) (ci := 5) (v := .ref (ad 13)) (C := RX5) (T := TX5) (N := 5) hx hb hts in_X5_clearBasic_X5 hown hK hP 12 rfl rfl 0 (by decide) (hts _ fl_X5_clearBasic_13) (fun _ h9 => h9) rfl dX5_clearBasic_54 ?_
        refine lv_iload_n hx hb dX5_clearBasic_57 rfl (lv_at hl 3 rfl) ?_
        have hi_5 := hm.1
        have hm := hm.2
        refine wC_aald hx hb hK hP hi_5 dX5_clearBasic_58 ?_
        refine lv_iload hx hb dX5_clearBasic_59 (lv_at hl 5 rfl) ?_
        refine lv_dup2_11 hx hb dX5_clearBasic_61 rfl rfl ?_
        have hi_6 := hm.1
        have hm := hm.2
        refine va_lald hx hb hK hP _ 1 (wC_row hi_5) rfl hi_6 dX5_clearBasic_62 ?_
        refine lv_lload hx hb dX5_clearBasic_63 (lv_at hl 4 rfl) ?_
        refine lv_aload_n hx hb dX5_clearBasic_65 rfl (lv_at hl 0 rfl) ?_
        refine va_get (D := (dC, dI)) (ci := 5) (v := .ref (ad 13)) (C := RX5) (T := TX5) (N := 5) hx hb hts in_X5_clearBasic_X5 hown hK hP 12 rfl rfl 0 (by decide) (hts _ fl_X5_clearBasic_13) (fun _ h9 => h9) rfl dX5_clearBasic_66 ?_
        refine lv_iload_n hx hb dX5_clearBasic_69 rfl (lv_at hl 1 rfl) ?_
        have hi_7 := hm.1
        have hm := hm.2
        refine wC_aald hx hb hK hP hi_7 dX5_clearBasic_70 ?_
        refine lv_iload hx hb dX5_clearBasic_71 (lv_at hl 5 rfl) ?_
        have hi_8 := hm.1
        have hm := hm.2
        refine va_lald hx hb hK hP _ 1 (wC_row hi_7) rfl hi_8 dX5_clearBasic_73 ?_
        refine lv_lmul hx hb dX5_clearBasic_74 ?_
        refine lv_lsub hx hb dX5_clearBasic_75 ?_
        refine lv_topl (fun f_9 ef_9 => ?_)
        have hm := hm f_9 ef_9
        have hi_10 := hm.1
        have hm := hm.2
        refine va_last hx hb hK hP hD hS _ 1 (wC_row hi_5) rfl hi_10 dX5_clearBasic_76 (fun H locs hP hD hS => ?_)
        rw [wC_set hi_5] at hP hD
        have hP : va_P (dC, dI) vwCl (wC ad cy ss ds ti co oma obr obj obo obm plo pch pbe pbl dnu dde dbo dln dld tba tal tro tsc (upR tcl (x3).toNatClampNeg (vp_updL (tcl (x3).toNatClampNeg) (x6).toNatClampNeg f_9)) rma) H := hP
        have hD : va_D A (wC ad cy ss ds ti co oma obr obj obo obm plo pch pbe pbl dnu dde dbo dln dld tba tal tro tsc (upR tcl (x3).toNatClampNeg (vp_updL (tcl (x3).toNatClampNeg) (x6).toNatClampNeg f_9)) rma) := hD
        obtain ⟨x6_11, ex6_11⟩ : ∃ y : Int32, y = x6 + (1 : Int32) := ⟨_, rfl⟩
        have hm := hm x6_11 ex6_11
        refine lv_iinc (v := x6_11) (lv' := [(6, .int x6_11), (0, .ref (ad 12)), (1, .int x1), (2, .int x2), (3, .int x3), (4, .long x4)]) hx hb dX5_clearBasic_77 hl (k := 5) rfl (by rw [ex6_11]; rfl) (by decide) rfl (fun ls hl => ?_)
        refine lv_goto (tgt := 39) hx hb dX5_clearBasic_80 (by decide) ?_
        exact ih x1 x2 x3 x4 x6_11 (upR tcl (x3).toNatClampNeg (vp_updL (tcl (x3).toNatClampNeg) (x6).toNatClampNeg f_9)) H locs ls hm ⟨hP, hD, hS⟩ (lv_sub hl [1, 2, 3, 4, 5, 0] rfl) hret hK21

set_option maxHeartbeats 4000000 in
set_option maxRecDepth 100000 in
theorem k_X5_clearBasic_21 {N : Nat} {ss : Int32} {ds : Int32} {ti : Nat → Int32} {co : Int32} {oma : Nat → Int32} {obr : Int32} {obj : Int32} {obo : Int32} {obm : Int32} {plo : Nat → Int32} {pch : Nat → Int32} {pbe : Nat → Int32} {pbl : Int32} {dnu : Nat → Int32} {dde : Nat → Int32} {dbo : Int32} {dln : Int32} {dld : Int32} {tba : Nat → Int32} {tal : Nat → Int32} {tro : Int32} {tsc : Int64} {rma : Nat → Int32} {Q : Int32 → (Nat → Nat → Int64) → Prop} (C0 : cxM cX5_clearBasic 7 (some .boolean) RX5 wsX5_clearBasic p s m args meth c dC dI cy A) :
    ∀ (n : Nat) (x1 : Int32) (x2 : Int32) (x3 : Int32) (tcl : Nat → Nat → Int64) (H : Heap) (locs : List Loc) (ls : Array Slot) (hm : p_X5_clearBasic_21 N tba Q n x1 x2 x3 tcl) (hSt : stC dC dI A s (wC ad cy ss ds ti co oma obr obj obo obm plo pch pbe pbl dnu dde dbo dln dld tba tal tro tsc tcl rma) H locs) (hl : lv_has ls 7 [(0, .ref (ad 12)), (1, .int x1), (2, .int x2), (3, .int x3)]) (hret : ∀ (r : Int32) (tcl : Nat → Nat → Int64) (H : Heap) (locs : List Loc) (ls : Array Slot) (pc : Nat), decode cX5_clearBasic pc = .ok (.ireturn, 1) → narrow .boolean (.int r) = .int r → stC dC dI A s (wC ad cy ss ds ti co oma obr obj obo obm plo pch pbe pbl dnu dde dbo dln dld tba tal tro tsc tcl rma) H locs → Q r tcl → W p l e rmX5_clearBasic s m args below meth c H locs 0 0 Z (F0 m pc ls [.int r])), W p l e rmX5_clearBasic s m args below meth c H locs 0 0 Z (F0 m 21 ls []) := by
  obtain ⟨hx, hb, hml, hr, hown, hts, hlocks, hK, hA, hN⟩ := id C0
  intro n
  induction n with
  | zero => intro x1 x2 x3 tcl H locs ls hm; exact False.elim hm
  | succ n ih =>
    intro x1 x2 x3 tcl H locs ls hm hSt hl hret
    obtain ⟨hP, hD, hS⟩ := hSt
    unfold p_X5_clearBasic_21 at hm
    refine lv_iload_n hx hb dX5_clearBasic_21 rfl (lv_at hl 3 rfl) ?_
    refine lv_iconst (v := 3) hx hb dX5_clearBasic_22 (by decide) ?_
    refine lv_icmp_ge (tgt := 89) hx hb dX5_clearBasic_23 (by decide) (fun c_1 => ?_) (fun c_1 => ?_)
    · have hm := hm.1 c_1
      refine lv_iconst (v := 1) hx hb dX5_clearBasic_89 (by decide) ?_
      exact hret (1 : Int32) tcl H locs ls 90 dX5_clearBasic_90 rfl ⟨hP, hD, hS⟩ hm
    · have hm := hm.2 c_1
      refine lv_aload_n hx hb dX5_clearBasic_26 rfl (lv_at hl 0 rfl) ?_
      refine va_get (D := (dC, dI)) (ci := 5) (v := .ref (ad 13)) (C := RX5) (T := TX5) (N := 5) hx hb hts in_X5_clearBasic_X5 hown hK hP 12 rfl rfl 0 (by decide) (hts _ fl_X5_clearBasic_13) (fun _ h9 => h9) rfl dX5_clearBasic_27 ?_
      refine lv_iload_n hx hb dX5_clearBasic_30 rfl (lv_at hl 3 rfl) ?_
      have hi_2 := hm.1
      have hm := hm.2
      refine wC_aald hx hb hK hP hi_2 dX5_clearBasic_31 ?_
      refine lv_iload_n hx hb dX5_clearBasic_32 rfl (lv_at hl 2 rfl) ?_
      have hi_3 := hm.1
      have hm := hm.2
      refine va_lald hx hb hK hP _ 1 (wC_row hi_2) rfl hi_3 dX5_clearBasic_33 ?_
      refine lv_topl (fun x4_4 ex4_4 => ?_)
      have hm := hm x4_4 ex4_4
      refine lv_lstore (lv' := [(4, .long x4_4), (0, .ref (ad 12)), (1, .int x1), (2, .int x2), (3, .int x3)]) hx hb dX5_clearBasic_34 hl (by decide) rfl (fun ls hl => ?_)
      refine lv_iconst (v := 0) hx hb dX5_clearBasic_36 (by decide) ?_
      refine lv_istore (lv' := [(6, .int (0 : Int32)), (4, .long x4_4), (0, .ref (ad 12)), (1, .int x1), (2, .int x2), (3, .int x3)]) hx hb dX5_clearBasic_37 hl (by decide) rfl (fun ls hl => ?_)
      refine k_X5_clearBasic_39 C0 N x1 x2 x3 x4_4 (0 : Int32) tcl H locs ls hm ⟨hP, hD, hS⟩ (lv_sub hl [2, 3, 4, 5, 1, 0] rfl) hret (fun x1 x2 x3 tcl H locs ls hm hSt hl => ?_)
      · obtain ⟨hP, hD, hS⟩ := hSt
        exact ih x1 x2 x3 tcl H locs ls hm ⟨hP, hD, hS⟩ hl hret

set_option maxHeartbeats 4000000 in
set_option maxRecDepth 100000 in
theorem k_X5_clearBasic_0 {N : Nat} {ss : Int32} {ds : Int32} {ti : Nat → Int32} {co : Int32} {oma : Nat → Int32} {obr : Int32} {obj : Int32} {obo : Int32} {obm : Int32} {plo : Nat → Int32} {pch : Nat → Int32} {pbe : Nat → Int32} {pbl : Int32} {dnu : Nat → Int32} {dde : Nat → Int32} {dbo : Int32} {dln : Int32} {dld : Int32} {tba : Nat → Int32} {tal : Nat → Int32} {tro : Int32} {tsc : Int64} {rma : Nat → Int32} {Q : Int32 → (Nat → Nat → Int64) → Prop} (C0 : cxM cX5_clearBasic 7 (some .boolean) RX5 wsX5_clearBasic p s m args meth c dC dI cy A) :
    ∀ (x1 : Int32) (tcl : Nat → Nat → Int64) (H : Heap) (locs : List Loc) (ls : Array Slot) (hm : p_X5_clearBasic N tba Q x1 tcl) (hSt : stC dC dI A s (wC ad cy ss ds ti co oma obr obj obo obm plo pch pbe pbl dnu dde dbo dln dld tba tal tro tsc tcl rma) H locs) (hl : lv_has ls 7 [(0, .ref (ad 12)), (1, .int x1)]) (hret : ∀ (r : Int32) (tcl : Nat → Nat → Int64) (H : Heap) (locs : List Loc) (ls : Array Slot) (pc : Nat), decode cX5_clearBasic pc = .ok (.ireturn, 1) → narrow .boolean (.int r) = .int r → stC dC dI A s (wC ad cy ss ds ti co oma obr obj obo obm plo pch pbe pbl dnu dde dbo dln dld tba tal tro tsc tcl rma) H locs → Q r tcl → W p l e rmX5_clearBasic s m args below meth c H locs 0 0 Z (F0 m pc ls [.int r])), W p l e rmX5_clearBasic s m args below meth c H locs 0 0 Z (F0 m 0 ls []) := by
  obtain ⟨hx, hb, hml, hr, hown, hts, hlocks, hK, hA, hN⟩ := id C0
  intro x1 tcl H locs ls hm hSt hl hret
  obtain ⟨hP, hD, hS⟩ := hSt
  unfold p_X5_clearBasic at hm
  refine lv_aload_n hx hb dX5_clearBasic_0 rfl (lv_at hl 0 rfl) ?_
  refine va_get (D := (dC, dI)) (ci := 5) (v := .ref (ad 14)) (C := RX5) (T := TX5) (N := 5) hx hb hts in_X5_clearBasic_X5 hown hK hP 12 rfl rfl 1 (by decide) (hts _ fl_X5_clearBasic_16) (fun _ h9 => h9) rfl dX5_clearBasic_1 ?_
  refine lv_iload_n hx hb dX5_clearBasic_4 rfl (lv_at hl 1 rfl) ?_
  have hi_1 := hm.1
  have hm := hm.2
  refine va_iald hx hb hK hP 14 0 rfl rfl hi_1 dX5_clearBasic_5 ?_
  refine lv_topi (fun x2_2 ex2_2 => ?_)
  have hm := hm x2_2 ex2_2
  refine lv_istore_n (lv' := [(2, .int x2_2), (0, .ref (ad 12)), (1, .int x1)]) hx hb dX5_clearBasic_6 rfl hl (by decide) rfl (fun ls hl => ?_)
  refine lv_iload_n hx hb dX5_clearBasic_7 rfl (lv_at hl 0 rfl) ?_
  refine lv_if_lt (tgt := 17) hx hb dX5_clearBasic_8 (by decide) (fun c_3 => ?_) (fun c_3 => ?_)
  · have hm := hm.1 c_3
    refine lv_iconst (v := 0) hx hb dX5_clearBasic_17 (by decide) ?_
    exact hret (0 : Int32) tcl H locs ls 18 dX5_clearBasic_18 rfl ⟨hP, hD, hS⟩ hm
  · have hm := hm.2 c_3
    refine lv_iload_n hx hb dX5_clearBasic_11 rfl (lv_at hl 0 rfl) ?_
    refine lv_bipush (v := 21) hx hb dX5_clearBasic_12 (by decide) ?_
    refine lv_icmp_lt (tgt := 19) hx hb dX5_clearBasic_14 (by decide) (fun c_4 => ?_) (fun c_4 => ?_)
    · have hm := hm.1 c_4
      refine lv_iconst (v := 0) hx hb dX5_clearBasic_19 (by decide) ?_
      refine lv_istore_n (lv' := [(3, .int (0 : Int32)), (2, .int x2_2), (0, .ref (ad 12)), (1, .int x1)]) hx hb dX5_clearBasic_20 rfl hl (by decide) rfl (fun ls hl => ?_)
      exact k_X5_clearBasic_21 C0 N x1 x2_2 (0 : Int32) tcl H locs ls hm ⟨hP, hD, hS⟩ (lv_sub hl [2, 3, 1, 0] rfl) hret
    · have hm := hm.2 c_4
      refine lv_iconst (v := 0) hx hb dX5_clearBasic_17 (by decide) ?_
      exact hret (0 : Int32) tcl H locs ls 18 dX5_clearBasic_18 rfl ⟨hP, hD, hS⟩ hm

set_option maxHeartbeats 4000000 in
set_option maxRecDepth 100000 in
theorem c_X5_clearBasic (l : Launch) (dC : Nat → ClassId) (dI : Nat → Nat → Nat) (cy : Nat → ClassId) (ad : Nat → Nat) (sz : Nat) (ss : Int32) (ds : Int32) (ti : Nat → Int32) (co : Int32) (oma : Nat → Int32) (obr : Int32) (obj : Int32) (obo : Int32) (obm : Int32) (plo : Nat → Int32) (pch : Nat → Int32) (pbe : Nat → Int32) (pbl : Int32) (dnu : Nat → Int32) (dde : Nat → Int32) (dbo : Int32) (dln : Int32) (dld : Int32) (tba : Nat → Int32) (tal : Nat → Int32) (tro : Int32) (tsc : Int64) (tcl : Nat → Nat → Int64) (rma : Nat → Int32) (x1 : Int32) (N : Nat) (Q : Int32 → (Nat → Nat → Int64) → Prop) (hm : p_X5_clearBasic N tba Q x1 tcl) : Met l yX5_clearBasic wsX5_clearBasic rmX5_clearBasic (va_Pc [.ref (ad 12), .int x1] (cPre dC dI cy (wC ad cy ss ds ti co oma obr obj obo obm plo pch pbe pbl dnu dde dbo dln dld tba tal tro tsc tcl rma) sz)) (va_Qi (fun (r : Int32) (u : (Nat → Nat → Int64)) => Q r u ∧ narrow .boolean (.int r) = .int r) (fun u t => cPost dC dI cy (wC ad cy ss ds ti co oma obr obj obo obm plo pch pbe pbl dnu dde dbo dln dld tba tal tro tsc tcl rma) sz (wC ad cy ss ds ti co oma obr obj obo obm plo pch pbe pbl dnu dde dbo dln dld tba tal tro tsc u rma) t) (va_A (wC ad cy ss ds ti co oma obr obj obo obm plo pch pbe pbl dnu dde dbo dln dld tba tal tro tsc tcl rma) sz)) 0 0 (va_A (wC ad cy ss ds ti co oma obr obj obo obm plo pch pbe pbl dnu dde dbo dln dld tba tal tro tsc tcl rma) sz) := by
  refine Met.ofW (cc := cX5_clearBasic) (maxL := 7) (ret := (some .boolean)) (by decide) rfl ?_
  intro p e s m args below meth c s₁ B hml hv
  obtain ⟨rfl, hsz, hP, hK, hD0, hN⟩ := hv
  have hts := atoms_spec (ws := wsX5_clearBasic) B.pre
  have hown : s.vm.findClass RX5 = some m.cls := findClass_of_methodNamed B.named
  subst hsz
  have hD := hD0.self (sz := s.heap.size)
  generalize hAe : va_A (wC ad cy ss ds ti co oma obr obj obo obm plo pch pbe pbl dnu dde dbo dln dld tba tal tro tsc tcl rma) s.heap.size = A at hD ⊢
  have hA : ∀ q : Nat, s.heap.size ≤ q → A q := fun q h => by rw [← hAe]; exact Or.inr h
  have hl := lv_entry ([.ref (ad 12), .int x1]) (n := 7) (Nat.le_of_ble_eq_true rfl)
  rw [lg_entry_eq]
  generalize (lg_sl ([.ref (ad 12), .int x1]) ++ List.replicate (7 - (lg_sl ([.ref (ad 12), .int x1])).length) Slot.unset).toArray = ls at hl ⊢
  have hl : lv_has ls 7 [(0, .ref (ad 12)), (1, .int x1)] := hl
  exact k_X5_clearBasic_0 ⟨B.exec, B.bytes, hml, B.returns, hown, hts, B.notSynchronized, hK, hA, hN⟩ x1 tcl s.heap [] ls hm ⟨hP, hD, va_S.rf⟩ (lv_sub hl [0, 1] rfl) (fun r tcl H locs ls pc hdg hn hSt hq => W.zret B.exec B.bytes B.returns hn (fun t ht hW => ⟨⟨r, (tcl), rfl, ⟨hq, hn⟩, cPost_of hAe ht hW.alike hSt hK⟩, hSt.2.2.F ht⟩) hSt.2.2.2.2 hdg B.notSynchronized)

-- ===== X5_layJob
theorem fl_X5_layJob_13 : Cond.fieldLink RX5 13 "UnlikeUnion$Tableau" "cells" "[[J" ∈ wsX5_layJob := by decide +kernel
theorem fl_X5_layJob_20 : Cond.fieldLink RX5 20 "UnlikeUnion$Tableau" "allowed" "[Z" ∈ wsX5_layJob := by decide +kernel
theorem fl_X5_layJob_16 : Cond.fieldLink RX5 16 "UnlikeUnion$Tableau" "basic" "[I" ∈ wsX5_layJob := by decide +kernel
theorem in_X5_layJob_X5 : ∀ w ∈ u_ws RX5 TX5 5, w ∈ wsX5_layJob := by decide +kernel
abbrev rmX5_layJob : Room := { frames := 2, cells := 0, slots := 0, locals := 153 }
def p_X5_layJob_22 (N : Nat) (ti : Nat → Int32) (co : Int32) (Q : Int32 → (Nat → Int32) → (Nat → Int32) → (Nat → Nat → Int64) → Prop) : Nat → Int32 → Int32 → Int32 → Int32 → (Nat → Int32) → (Nat → Int32) → (Nat → Nat → Int64) → Prop
  | 0 => fun _ _ _ _ _ _ _ => False
  | n + 1 => fun x2 x3 x4 x5 tba tal tcl => (x5 < 0 → (vp_in x4 10 ∧ (vp_in x4 10 ∧ (((tba (x4).toNatClampNeg) = (-1 : Int32) → (Q (0 : Int32) tba tal (upR tcl (x4).toNatClampNeg (vp_updL (tcl (x4).toNatClampNeg) ((25 : Int32)).toNatClampNeg (1 : Int64))))) ∧ (¬ (tba (x4).toNatClampNeg) = (-1 : Int32) → (p_X5_clearBasic N tba (fun r_5 tcl_6 => (r_5 = 0 → (Q (0 : Int32) tba tal tcl_6)) ∧ (¬ r_5 = 0 → (Q (1 : Int32) tba tal tcl_6))) x4 (upR tcl (x4).toNatClampNeg (vp_updL (tcl (x4).toNatClampNeg) ((25 : Int32)).toNatClampNeg (1 : Int64))))))))) ∧ (¬ x5 < 0 → (p_X1_timeOn N ti co (fun r_8 => ∀ x7_9 : Int32, x7_9 = (x2 * (3 : Int32)) + x5 → ((r_8 ≤ 0 → (∀ x5_11 : Int32, x5_11 = x5 + (-1 : Int32) → (p_X5_layJob_22 N ti co Q n x2 x3 x4 x5_11 tba tal tcl))) ∧ (¬ r_8 ≤ 0 → ((x3 < r_8 → (∀ x5_13 : Int32, x5_13 = x5 + (-1 : Int32) → (p_X5_layJob_22 N ti co Q n x2 x3 x4 x5_13 tba tal tcl))) ∧ (¬ x3 < r_8 → ((x7_9 < 0 → (∀ x5_15 : Int32, x5_15 = x5 + (-1 : Int32) → (p_X5_layJob_22 N ti co Q n x2 x3 x4 x5_15 tba tal tcl))) ∧ (¬ x7_9 < 0 → (((21 : Int32) ≤ x7_9 → (∀ x5_17 : Int32, x5_17 = x5 + (-1 : Int32) → (p_X5_layJob_22 N ti co Q n x2 x3 x4 x5_17 tba tal tcl))) ∧ (¬ (21 : Int32) ≤ x7_9 → (vp_in x4 10 ∧ (vp_in x7_9 26 ∧ (vp_in x5 10 ∧ (∀ f_21 : Int64, f_21 = (r_8).toInt64 → (vp_in x7_9 26 ∧ (vp_in x7_9 25 ∧ (vp_in x4 10 ∧ (∀ x5_25 : Int32, x5_25 = x5 + (-1 : Int32) → (p_X5_layJob_22 N ti co Q n x2 x3 x4 x5_25 (upd tba (x4).toNatClampNeg x7_9) (upd tal (x7_9).toNatClampNeg (vp_nar .boolean (1 : Int32))) (upR (upR tcl (x4).toNatClampNeg (vp_updL (tcl (x4).toNatClampNeg) (x7_9).toNatClampNeg (1 : Int64))) (x5).toNatClampNeg (vp_updL ((upR tcl (x4).toNatClampNeg (vp_updL (tcl (x4).toNatClampNeg) (x7_9).toNatClampNeg (1 : Int64))) (x5).toNatClampNeg) (x7_9).toNatClampNeg f_21)))))))))))))))))))) x2 x5))

def p_X5_layJob (N : Nat) (ti : Nat → Int32) (co : Int32) (Q : Int32 → (Nat → Int32) → (Nat → Int32) → (Nat → Nat → Int64) → Prop) (x2 : Int32) (x3 : Int32) (tba : Nat → Int32) (tal : Nat → Int32) (tcl : Nat → Nat → Int64) : Prop :=
  ∀ x4_1 : Int32, x4_1 = (3 : Int32) + x2 → ((x4_1 < 0 → (Q (0 : Int32) tba tal tcl)) ∧ (¬ x4_1 < 0 → ((x4_1 < (10 : Int32) → (p_X5_layJob_22 N ti co Q N x2 x3 x4_1 (2 : Int32) tba tal tcl)) ∧ (¬ x4_1 < (10 : Int32) → (Q (0 : Int32) tba tal tcl)))))

set_option maxHeartbeats 4000000 in
set_option maxRecDepth 100000 in
theorem k_X5_layJob_22 {N : Nat} {ss : Int32} {ds : Int32} {ti : Nat → Int32} {co : Int32} {oma : Nat → Int32} {obr : Int32} {obj : Int32} {obo : Int32} {obm : Int32} {plo : Nat → Int32} {pch : Nat → Int32} {pbe : Nat → Int32} {pbl : Int32} {dnu : Nat → Int32} {dde : Nat → Int32} {dbo : Int32} {dln : Int32} {dld : Int32} {tro : Int32} {tsc : Int64} {rma : Nat → Int32} {Q : Int32 → (Nat → Int32) → (Nat → Int32) → (Nat → Nat → Int64) → Prop} (C0 : cxM cX5_layJob 8 (some .boolean) RX5 wsX5_layJob p s m args meth c dC dI cy A) :
    ∀ (n : Nat) (x2 : Int32) (x3 : Int32) (x4 : Int32) (x5 : Int32) (tba : Nat → Int32) (tal : Nat → Int32) (tcl : Nat → Nat → Int64) (H : Heap) (locs : List Loc) (ls : Array Slot) (hm : p_X5_layJob_22 N ti co Q n x2 x3 x4 x5 tba tal tcl) (hSt : stC dC dI A s (wC ad cy ss ds ti co oma obr obj obo obm plo pch pbe pbl dnu dde dbo dln dld tba tal tro tsc tcl rma) H locs) (hl : lv_has ls 8 [(0, .ref (ad 12)), (1, .ref (ad 1)), (2, .int x2), (3, .int x3), (4, .int x4), (5, .int x5)]) (hret : ∀ (r : Int32) (tba : Nat → Int32) (tal : Nat → Int32) (tcl : Nat → Nat → Int64) (H : Heap) (locs : List Loc) (ls : Array Slot) (pc : Nat), decode cX5_layJob pc = .ok (.ireturn, 1) → narrow .boolean (.int r) = .int r → stC dC dI A s (wC ad cy ss ds ti co oma obr obj obo obm plo pch pbe pbl dnu dde dbo dln dld tba tal tro tsc tcl rma) H locs → Q r tba tal tcl → W p l e rmX5_layJob s m args below meth c H locs 0 0 Z (F0 m pc ls [.int r])), W p l e rmX5_layJob s m args below meth c H locs 0 0 Z (F0 m 22 ls []) := by
  obtain ⟨hx, hb, hml, hr, hown, hts, hlocks, hK, hA, hN⟩ := id C0
  intro n
  induction n with
  | zero => intro x2 x3 x4 x5 tba tal tcl H locs ls hm; exact False.elim hm
  | succ n ih =>
    intro x2 x3 x4 x5 tba tal tcl H locs ls hm hSt hl hret
    obtain ⟨hP, hD, hS⟩ := hSt
    unfold p_X5_layJob_22 at hm
    refine lv_iload hx hb dX5_layJob_22 (lv_at hl 5 rfl) ?_
    refine lv_if_lt (tgt := 114) hx hb dX5_layJob_24 (by decide) (fun c_1 => ?_) (fun c_1 => ?_)
    · have hm := hm.1 c_1
      refine lv_aload_n hx hb dX5_layJob_114 rfl (lv_at hl 0 rfl) ?_
      refine va_get (D := (dC, dI)) (ci := 5) (v := .ref (ad 13)) (C := RX5) (T := TX5) (N := 5) hx hb hts in_X5_layJob_X5 hown hK hP 12 rfl rfl 0 (by decide) (hts _ fl_X5_layJob_13) (fun _ h9 => h9) rfl dX5_layJob_115 ?_
      refine lv_iload hx hb dX5_layJob_118 (lv_at hl 4 rfl) ?_
      have hi_2 := hm.1
      have hm := hm.2
      refine wC_aald hx hb hK hP hi_2 dX5_layJob_120 ?_
      refine lv_bipush (v := 25) hx hb dX5_layJob_121 (by decide) ?_
      refine lv_lconst (v := 1) hx hb dX5_layJob_123 (by decide) ?_
      refine va_last hx hb hK hP hD hS _ 1 (wC_row hi_2) rfl (vp_in_iff.mpr (by decide)) dX5_layJob_124 (fun H locs hP hD hS => ?_)
      rw [wC_set hi_2] at hP hD
      have hP : va_P (dC, dI) vwCl (wC ad cy ss ds ti co oma obr obj obo obm plo pch pbe pbl dnu dde dbo dln dld tba tal tro tsc (upR tcl (x4).toNatClampNeg (vp_updL (tcl (x4).toNatClampNeg) ((25 : Int32)).toNatClampNeg (1 : Int64))) rma) H := hP
      have hD : va_D A (wC ad cy ss ds ti co oma obr obj obo obm plo pch pbe pbl dnu dde dbo dln dld tba tal tro tsc (upR tcl (x4).toNatClampNeg (vp_updL (tcl (x4).toNatClampNeg) ((25 : Int32)).toNatClampNeg (1 : Int64))) rma) := hD
      refine lv_aload_n hx hb dX5_layJob_125 rfl (lv_at hl 0 rfl) ?_
      refine va_get (D := (dC, dI)) (ci := 5) (v := .ref (ad 14)) (C := RX5) (T := TX5) (N := 5) hx hb hts in_X5_layJob_X5 hown hK hP 12 rfl rfl 1 (by decide) (hts _ fl_X5_layJob_16) (fun _ h9 => h9) rfl dX5_layJob_126 ?_
      refine lv_iload hx hb dX5_layJob_129 (lv_at hl 4 rfl) ?_
      have hi_3 := hm.1
      have hm := hm.2
      refine va_iald hx hb hK hP 14 0 rfl rfl hi_3 dX5_layJob_131 ?_
      refine lv_iconst (v := -1) hx hb dX5_layJob_132 (by decide) ?_
      refine lv_icmp_eq (tgt := 149) hx hb dX5_layJob_133 (by decide) (fun c_4 => ?_) (fun c_4 => ?_)
      · have hm := hm.1 c_4
        refine lv_iconst (v := 0) hx hb dX5_layJob_149 (by decide) ?_
        exact hret (0 : Int32) tba tal (upR tcl (x4).toNatClampNeg (vp_updL (tcl (x4).toNatClampNeg) ((25 : Int32)).toNatClampNeg (1 : Int64))) H locs ls 150 dX5_layJob_150 rfl ⟨hP, hD, hS⟩ hm
      · have hm := hm.2 c_4
        refine lv_aload_n hx hb dX5_layJob_136 rfl (lv_at hl 0 rfl) ?_
        refine lv_iload hx hb dX5_layJob_137 (lv_at hl 4 rfl) ?_
        have hFc := va_freeSame hD hS hA
        refine va_calli (va_runV (As := [.int x4]) (rest := []) ⟨hx, hb, hml, hown, hts⟩ (c_X5_clearBasic l dC dI cy ad H.size ss ds ti co oma obr obj obo obm plo pch pbe pbl dnu dde dbo dln dld tba tal tro tsc (upR tcl (x4).toNatClampNeg (vp_updL (tcl (x4).toNatClampNeg) ((25 : Int32)).toNatClampNeg (1 : Int64))) rma x4 _ _ hm) (cwV 1 hts gX5_layJob_X5_clearBasic rfl rfl rfl (by decide +kernel) ⟨Nat.le_of_ble_eq_true rfl, Nat.le_of_ble_eq_true rfl⟩) ⟨cPre_blind, va_recv hK hP (ci := 5) (q0 := 12) rfl rfl, fun U hU hW => ⟨rfl, cPre_at hP hK hD hN hU hW⟩⟩ rfl rfl hl.1 rfl (lv_room (Nat.le_of_ble_eq_true rfl)) dX5_layJob_139 ⟨Nat.zero_le _, Nat.zero_le _⟩) hS (fun q _ h => hFc q h) hFc (fun r_5 u t H locs ht hvm hw hB hz1 hk1 hS => ?_)
        obtain ⟨tcl_6, rfl⟩ : ∃ z, z = u := ⟨_, rfl⟩
        try dsimp only at hw
        obtain ⟨hm, nar_r_5⟩ := hw
        have hP : va_P (dC, dI) vwCl (wC ad cy ss ds ti co oma obr obj obo obm plo pch pbe pbl dnu dde dbo dln dld tba tal tro tsc tcl_6 rma) H := cPost_P ht hB
        have hD : va_D A (wC ad cy ss ds ti co oma obr obj obo obm plo pch pbe pbl dnu dde dbo dln dld tba tal tro tsc tcl_6 rma) := cPost_D hFc hB
        refine lv_if_eq (tgt := 149) hx hb dX5_layJob_142 (by decide) (fun c_7 => ?_) (fun c_7 => ?_)
        · have hm := hm.1 c_7
          refine lv_iconst (v := 0) hx hb dX5_layJob_149 (by decide) ?_
          exact hret (0 : Int32) tba tal tcl_6 H locs ls 150 dX5_layJob_150 rfl ⟨hP, hD, hS⟩ hm
        · have hm := hm.2 c_7
          refine lv_iconst (v := 1) hx hb dX5_layJob_145 (by decide) ?_
          refine lv_goto (tgt := 150) hx hb dX5_layJob_146 (by decide) ?_
          exact hret (1 : Int32) tba tal tcl_6 H locs ls 150 dX5_layJob_150 rfl ⟨hP, hD, hS⟩ hm
    · have hm := hm.2 c_1
      refine lv_aload_n hx hb dX5_layJob_27 rfl (lv_at hl 1 rfl) ?_
      refine lv_iload_n hx hb dX5_layJob_28 rfl (lv_at hl 2 rfl) ?_
      refine lv_iload hx hb dX5_layJob_29 (lv_at hl 5 rfl) ?_
      have hFc := va_freeSame hD hS hA
      refine va_calli (va_runV (As := [.int x2, .int x5]) (rest := []) ⟨hx, hb, hml, hown, hts⟩ (c_X1_timeOn l dC dI cy ad H.size ss ds ti co oma obr obj obo obm plo pch pbe pbl dnu dde dbo dln dld tba tal tro tsc tcl rma x2 x5 _ _ hm) (cwV 2 hts gX5_layJob_X1_timeOn rfl rfl rfl (by decide +kernel) ⟨Nat.le_of_ble_eq_true rfl, Nat.le_of_ble_eq_true rfl⟩) ⟨cPre_blind, va_recv hK hP (ci := 1) (q0 := 1) rfl rfl, fun U hU hW => ⟨rfl, cPre_at hP hK hD hN hU hW⟩⟩ rfl rfl hl.1 rfl (lv_room (Nat.le_of_ble_eq_true rfl)) dX5_layJob_31 ⟨Nat.zero_le _, Nat.zero_le _⟩) hS (fun q _ h => hFc q h) hFc (fun r_8 u t H locs ht hvm hw hB hz1 hk1 hS => ?_)
      try dsimp only at hw
      have hm := hw
      have hP : va_P (dC, dI) vwCl (wC ad cy ss ds ti co oma obr obj obo obm plo pch pbe pbl dnu dde dbo dln dld tba tal tro tsc tcl rma) H := cPost_P ht hB
      have hD : va_D A (wC ad cy ss ds ti co oma obr obj obo obm plo pch pbe pbl dnu dde dbo dln dld tba tal tro tsc tcl rma) := cPost_D hFc hB
      refine lv_istore (lv' := [(6, .int r_8), (0, .ref (ad 12)), (1, .ref (ad 1)), (2, .int x2), (3, .int x3), (4, .int x4), (5, .int x5)]) hx hb dX5_layJob_34 hl (by decide) rfl (fun ls hl => ?_)
      refine lv_iload_n hx hb dX5_layJob_36 rfl (lv_at hl 3 rfl) ?_
      refine lv_iconst (v := 3) hx hb dX5_layJob_37 (by decide) ?_
      refine lv_imul hx hb dX5_layJob_38 ?_
      refine lv_iload hx hb dX5_layJob_39 (lv_at hl 6 rfl) ?_
      refine lv_iadd hx hb dX5_layJob_41 ?_
      refine lv_topi (fun x7_9 ex7_9 => ?_)
      have hm := hm x7_9 ex7_9
      refine lv_istore (lv' := [(7, .int x7_9), (6, .int r_8), (0, .ref (ad 12)), (1, .ref (ad 1)), (2, .int x2), (3, .int x3), (4, .int x4), (5, .int x5)]) hx hb dX5_layJob_42 hl (by decide) rfl (fun ls hl => ?_)
      refine lv_iload hx hb dX5_layJob_44 (lv_at hl 1 rfl) ?_
      refine lv_if_le (tgt := 108) hx hb dX5_layJob_46 (by decide) (fun c_10 => ?_) (fun c_10 => ?_)
      · have hm := hm.1 c_10
        obtain ⟨x5_11, ex5_11⟩ : ∃ y : Int32, y = x5 + (-1 : Int32) := ⟨_, rfl⟩
        have hm := hm x5_11 ex5_11
        refine lv_iinc (v := x5_11) (lv' := [(5, .int x5_11), (7, .int x7_9), (6, .int r_8), (0, .ref (ad 12)), (1, .ref (ad 1)), (2, .int x2), (3, .int x3), (4, .int x4)]) hx hb dX5_layJob_108 hl (k := 7) rfl (by rw [ex5_11]; rfl) (by decide) rfl (fun ls hl => ?_)
        refine lv_goto (tgt := 22) hx hb dX5_layJob_111 (by decide) ?_
        exact ih x2 x3 x4 x5_11 tba tal tcl H locs ls hm ⟨hP, hD, hS⟩ (lv_sub hl [3, 4, 5, 6, 7, 0] rfl) hret
      · have hm := hm.2 c_10
        refine lv_iload hx hb dX5_layJob_49 (lv_at hl 1 rfl) ?_
        refine lv_iload_n hx hb dX5_layJob_51 rfl (lv_at hl 5 rfl) ?_
        refine lv_icmp_gt (tgt := 108) hx hb dX5_layJob_52 (by decide) (fun c_12 => ?_) (fun c_12 => ?_)
        · have hm := hm.1 c_12
          obtain ⟨x5_13, ex5_13⟩ : ∃ y : Int32, y = x5 + (-1 : Int32) := ⟨_, rfl⟩
          have hm := hm x5_13 ex5_13
          refine lv_iinc (v := x5_13) (lv' := [(5, .int x5_13), (7, .int x7_9), (6, .int r_8), (0, .ref (ad 12)), (1, .ref (ad 1)), (2, .int x2), (3, .int x3), (4, .int x4)]) hx hb dX5_layJob_108 hl (k := 7) rfl (by rw [ex5_13]; rfl) (by decide) rfl (fun ls hl => ?_)
          refine lv_goto (tgt := 22) hx hb dX5_layJob_111 (by decide) ?_
          exact ih x2 x3 x4 x5_13 tba tal tcl H locs ls hm ⟨hP, hD, hS⟩ (lv_sub hl [3, 4, 5, 6, 7, 0] rfl) hret
        · have hm := hm.2 c_12
          refine lv_iload hx hb dX5_layJob_55 (lv_at hl 0 rfl) ?_
          refine lv_if_lt (tgt := 108) hx hb dX5_layJob_57 (by decide) (fun c_14 => ?_) (fun c_14 => ?_)
          · have hm := hm.1 c_14
            obtain ⟨x5_15, ex5_15⟩ : ∃ y : Int32, y = x5 + (-1 : Int32) := ⟨_, rfl⟩
            have hm := hm x5_15 ex5_15
            refine lv_iinc (v := x5_15) (lv' := [(5, .int x5_15), (7, .int x7_9), (6, .int r_8), (0, .ref (ad 12)), (1, .ref (ad 1)), (2, .int x2), (3, .int x3), (4, .int x4)]) hx hb dX5_layJob_108 hl (k := 7) rfl (by rw [ex5_15]; rfl) (by decide) rfl (fun ls hl => ?_)
            refine lv_goto (tgt := 22) hx hb dX5_layJob_111 (by decide) ?_
            exact ih x2 x3 x4 x5_15 tba tal tcl H locs ls hm ⟨hP, hD, hS⟩ (lv_sub hl [3, 4, 5, 6, 7, 0] rfl) hret
          · have hm := hm.2 c_14
            refine lv_iload hx hb dX5_layJob_60 (lv_at hl 0 rfl) ?_
            refine lv_bipush (v := 21) hx hb dX5_layJob_62 (by decide) ?_
            refine lv_icmp_ge (tgt := 108) hx hb dX5_layJob_64 (by decide) (fun c_16 => ?_) (fun c_16 => ?_)
            · have hm := hm.1 c_16
              obtain ⟨x5_17, ex5_17⟩ : ∃ y : Int32, y = x5 + (-1 : Int32) := ⟨_, rfl⟩
              have hm := hm x5_17 ex5_17
              refine lv_iinc (v := x5_17) (lv' := [(5, .int x5_17), (7, .int x7_9), (6, .int r_8), (0, .ref (ad 12)), (1, .ref (ad 1)), (2, .int x2), (3, .int x3), (4, .int x4)]) hx hb dX5_layJob_108 hl (k := 7) rfl (by rw [ex5_17]; rfl) (by decide) rfl (fun ls hl => ?_)
              refine lv_goto (tgt := 22) hx hb dX5_layJob_111 (by decide) ?_
              exact ih x2 x3 x4 x5_17 tba tal tcl H locs ls hm ⟨hP, hD, hS⟩ (lv_sub hl [3, 4, 5, 6, 7, 0] rfl) hret
            · have hm := hm.2 c_16
              refine lv_aload_n hx hb dX5_layJob_67 rfl (lv_at hl 2 rfl) ?_
              refine va_get (D := (dC, dI)) (ci := 5) (v := .ref (ad 13)) (C := RX5) (T := TX5) (N := 5) hx hb hts in_X5_layJob_X5 hown hK hP 12 rfl rfl 0 (by decide) (hts _ fl_X5_layJob_13) (fun _ h9 => h9) rfl dX5_layJob_68 ?_
              refine lv_iload hx hb dX5_layJob_71 (lv_at hl 6 rfl) ?_
              have hi_18 := hm.1
              have hm := hm.2
              refine wC_aald hx hb hK hP hi_18 dX5_layJob_73 ?_
              refine lv_iload hx hb dX5_layJob_74 (lv_at hl 0 rfl) ?_
              refine lv_lconst (v := 1) hx hb dX5_layJob_76 (by decide) ?_
              have hi_19 := hm.1
              have hm := hm.2
              refine va_last hx hb hK hP hD hS _ 1 (wC_row hi_18) rfl hi_19 dX5_layJob_77 (fun H locs hP hD hS => ?_)
              rw [wC_set hi_18] at hP hD
              have hP : va_P (dC, dI) vwCl (wC ad cy ss ds ti co oma obr obj obo obm plo pch pbe pbl dnu dde dbo dln dld tba tal tro tsc (upR tcl (x4).toNatClampNeg (vp_updL (tcl (x4).toNatClampNeg) (x7_9).toNatClampNeg (1 : Int64))) rma) H := hP
              have hD : va_D A (wC ad cy ss ds ti co oma obr obj obo obm plo pch pbe pbl dnu dde dbo dln dld tba tal tro tsc (upR tcl (x4).toNatClampNeg (vp_updL (tcl (x4).toNatClampNeg) (x7_9).toNatClampNeg (1 : Int64))) rma) := hD
              refine lv_aload_n hx hb dX5_layJob_78 rfl (lv_at hl 2 rfl) ?_
              refine va_get (D := (dC, dI)) (ci := 5) (v := .ref (ad 13)) (C := RX5) (T := TX5) (N := 5) hx hb hts in_X5_layJob_X5 hown hK hP 12 rfl rfl 0 (by decide) (hts _ fl_X5_layJob_13) (fun _ h9 => h9) rfl dX5_layJob_79 ?_
              refine lv_iload hx hb dX5_layJob_82 (lv_at hl 7 rfl) ?_
              have hi_20 := hm.1
              have hm := hm.2
              refine wC_aald hx hb hK hP hi_20 dX5_layJob_84 ?_
              refine lv_iload hx hb dX5_layJob_85 (lv_at hl 0 rfl) ?_
              refine lv_iload hx hb dX5_layJob_87 (lv_at hl 1 rfl) ?_
              refine lv_i2l (v := (r_8).toInt64) hx hb dX5_layJob_89 rfl ?_
              refine lv_topl (fun f_21 ef_21 => ?_)
              have hm := hm f_21 ef_21
              have hi_22 := hm.1
              have hm := hm.2
              refine va_last hx hb hK hP hD hS _ 1 (wC_row hi_20) rfl hi_22 dX5_layJob_90 (fun H locs hP hD hS => ?_)
              rw [wC_set hi_20] at hP hD
              have hP : va_P (dC, dI) vwCl (wC ad cy ss ds ti co oma obr obj obo obm plo pch pbe pbl dnu dde dbo dln dld tba tal tro tsc (upR (upR tcl (x4).toNatClampNeg (vp_updL (tcl (x4).toNatClampNeg) (x7_9).toNatClampNeg (1 : Int64))) (x5).toNatClampNeg (vp_updL ((upR tcl (x4).toNatClampNeg (vp_updL (tcl (x4).toNatClampNeg) (x7_9).toNatClampNeg (1 : Int64))) (x5).toNatClampNeg) (x7_9).toNatClampNeg f_21)) rma) H := hP
              have hD : va_D A (wC ad cy ss ds ti co oma obr obj obo obm plo pch pbe pbl dnu dde dbo dln dld tba tal tro tsc (upR (upR tcl (x4).toNatClampNeg (vp_updL (tcl (x4).toNatClampNeg) (x7_9).toNatClampNeg (1 : Int64))) (x5).toNatClampNeg (vp_updL ((upR tcl (x4).toNatClampNeg (vp_updL (tcl (x4).toNatClampNeg) (x7_9).toNatClampNeg (1 : Int64))) (x5).toNatClampNeg) (x7_9).toNatClampNeg f_21)) rma) := hD
              refine lv_aload_n hx hb dX5_layJob_91 rfl (lv_at hl 2 rfl) ?_
              refine va_get (D := (dC, dI)) (ci := 5) (v := .ref (ad 15)) (C := RX5) (T := TX5) (N := 5) hx hb hts in_X5_layJob_X5 hown hK hP 12 rfl rfl 2 (by decide) (hts _ fl_X5_layJob_20) (fun _ h9 => h9) rfl dX5_layJob_92 ?_
              refine lv_iload hx hb dX5_layJob_95 (lv_at hl 0 rfl) ?_
              refine lv_iconst (v := 1) hx hb dX5_layJob_97 (by decide) ?_
              have hi_23 := hm.1
              have hm := hm.2
              refine va_zast hx hb hK hP hD hS 15 2 rfl rfl hi_23 dX5_layJob_98 (fun H locs hP hD hS => ?_)
              have hP : va_P (dC, dI) vwCl (wC ad cy ss ds ti co oma obr obj obo obm plo pch pbe pbl dnu dde dbo dln dld tba (upd tal (x7_9).toNatClampNeg (vp_nar .boolean (1 : Int32))) tro tsc (upR (upR tcl (x4).toNatClampNeg (vp_updL (tcl (x4).toNatClampNeg) (x7_9).toNatClampNeg (1 : Int64))) (x5).toNatClampNeg (vp_updL ((upR tcl (x4).toNatClampNeg (vp_updL (tcl (x4).toNatClampNeg) (x7_9).toNatClampNeg (1 : Int64))) (x5).toNatClampNeg) (x7_9).toNatClampNeg f_21)) rma) H := hP
              have hD : va_D A (wC ad cy ss ds ti co oma obr obj obo obm plo pch pbe pbl dnu dde dbo dln dld tba (upd tal (x7_9).toNatClampNeg (vp_nar .boolean (1 : Int32))) tro tsc (upR (upR tcl (x4).toNatClampNeg (vp_updL (tcl (x4).toNatClampNeg) (x7_9).toNatClampNeg (1 : Int64))) (x5).toNatClampNeg (vp_updL ((upR tcl (x4).toNatClampNeg (vp_updL (tcl (x4).toNatClampNeg) (x7_9).toNatClampNeg (1 : Int64))) (x5).toNatClampNeg) (x7_9).toNatClampNeg f_21)) rma) := hD
              refine lv_aload_n hx hb dX5_layJob_99 rfl (lv_at hl 2 rfl) ?_
              refine va_get (D := (dC, dI)) (ci := 5) (v := .ref (ad 14)) (C := RX5) (T := TX5) (N := 5) hx hb hts in_X5_layJob_X5 hown hK hP 12 rfl rfl 1 (by decide) (hts _ fl_X5_layJob_16) (fun _ h9 => h9) rfl dX5_layJob_100 ?_
              refine lv_iload hx hb dX5_layJob_103 (lv_at hl 6 rfl) ?_
              refine lv_iload hx hb dX5_layJob_105 (lv_at hl 0 rfl) ?_
              have hi_24 := hm.1
              have hm := hm.2
              refine va_iast hx hb hK hP hD hS 14 0 rfl rfl hi_24 dX5_layJob_107 (fun H locs hP hD hS => ?_)
              have hP : va_P (dC, dI) vwCl (wC ad cy ss ds ti co oma obr obj obo obm plo pch pbe pbl dnu dde dbo dln dld (upd tba (x4).toNatClampNeg x7_9) (upd tal (x7_9).toNatClampNeg (vp_nar .boolean (1 : Int32))) tro tsc (upR (upR tcl (x4).toNatClampNeg (vp_updL (tcl (x4).toNatClampNeg) (x7_9).toNatClampNeg (1 : Int64))) (x5).toNatClampNeg (vp_updL ((upR tcl (x4).toNatClampNeg (vp_updL (tcl (x4).toNatClampNeg) (x7_9).toNatClampNeg (1 : Int64))) (x5).toNatClampNeg) (x7_9).toNatClampNeg f_21)) rma) H := hP
              have hD : va_D A (wC ad cy ss ds ti co oma obr obj obo obm plo pch pbe pbl dnu dde dbo dln dld (upd tba (x4).toNatClampNeg x7_9) (upd tal (x7_9).toNatClampNeg (vp_nar .boolean (1 : Int32))) tro tsc (upR (upR tcl (x4).toNatClampNeg (vp_updL (tcl (x4).toNatClampNeg) (x7_9).toNatClampNeg (1 : Int64))) (x5).toNatClampNeg (vp_updL ((upR tcl (x4).toNatClampNeg (vp_updL (tcl (x4).toNatClampNeg) (x7_9).toNatClampNeg (1 : Int64))) (x5).toNatClampNeg) (x7_9).toNatClampNeg f_21)) rma) := hD
              obtain ⟨x5_25, ex5_25⟩ : ∃ y : Int32, y = x5 + (-1 : Int32) := ⟨_, rfl⟩
              have hm := hm x5_25 ex5_25
              refine lv_iinc (v := x5_25) (lv' := [(5, .int x5_25), (7, .int x7_9), (6, .int r_8), (0, .ref (ad 12)), (1, .ref (ad 1)), (2, .int x2), (3, .int x3), (4, .int x4)]) hx hb dX5_layJob_108 hl (k := 7) rfl (by rw [ex5_25]; rfl) (by decide) rfl (fun ls hl => ?_)
              refine lv_goto (tgt := 22) hx hb dX5_layJob_111 (by decide) ?_
              exact ih x2 x3 x4 x5_25 (upd tba (x4).toNatClampNeg x7_9) (upd tal (x7_9).toNatClampNeg (vp_nar .boolean (1 : Int32))) (upR (upR tcl (x4).toNatClampNeg (vp_updL (tcl (x4).toNatClampNeg) (x7_9).toNatClampNeg (1 : Int64))) (x5).toNatClampNeg (vp_updL ((upR tcl (x4).toNatClampNeg (vp_updL (tcl (x4).toNatClampNeg) (x7_9).toNatClampNeg (1 : Int64))) (x5).toNatClampNeg) (x7_9).toNatClampNeg f_21)) H locs ls hm ⟨hP, hD, hS⟩ (lv_sub hl [3, 4, 5, 6, 7, 0] rfl) hret

set_option maxHeartbeats 4000000 in
set_option maxRecDepth 100000 in
theorem k_X5_layJob_0 {N : Nat} {ss : Int32} {ds : Int32} {ti : Nat → Int32} {co : Int32} {oma : Nat → Int32} {obr : Int32} {obj : Int32} {obo : Int32} {obm : Int32} {plo : Nat → Int32} {pch : Nat → Int32} {pbe : Nat → Int32} {pbl : Int32} {dnu : Nat → Int32} {dde : Nat → Int32} {dbo : Int32} {dln : Int32} {dld : Int32} {tro : Int32} {tsc : Int64} {rma : Nat → Int32} {Q : Int32 → (Nat → Int32) → (Nat → Int32) → (Nat → Nat → Int64) → Prop} (C0 : cxM cX5_layJob 8 (some .boolean) RX5 wsX5_layJob p s m args meth c dC dI cy A) :
    ∀ (x2 : Int32) (x3 : Int32) (tba : Nat → Int32) (tal : Nat → Int32) (tcl : Nat → Nat → Int64) (H : Heap) (locs : List Loc) (ls : Array Slot) (hm : p_X5_layJob N ti co Q x2 x3 tba tal tcl) (hSt : stC dC dI A s (wC ad cy ss ds ti co oma obr obj obo obm plo pch pbe pbl dnu dde dbo dln dld tba tal tro tsc tcl rma) H locs) (hl : lv_has ls 8 [(0, .ref (ad 12)), (1, .ref (ad 1)), (2, .int x2), (3, .int x3)]) (hret : ∀ (r : Int32) (tba : Nat → Int32) (tal : Nat → Int32) (tcl : Nat → Nat → Int64) (H : Heap) (locs : List Loc) (ls : Array Slot) (pc : Nat), decode cX5_layJob pc = .ok (.ireturn, 1) → narrow .boolean (.int r) = .int r → stC dC dI A s (wC ad cy ss ds ti co oma obr obj obo obm plo pch pbe pbl dnu dde dbo dln dld tba tal tro tsc tcl rma) H locs → Q r tba tal tcl → W p l e rmX5_layJob s m args below meth c H locs 0 0 Z (F0 m pc ls [.int r])), W p l e rmX5_layJob s m args below meth c H locs 0 0 Z (F0 m 0 ls []) := by
  obtain ⟨hx, hb, hml, hr, hown, hts, hlocks, hK, hA, hN⟩ := id C0
  intro x2 x3 tba tal tcl H locs ls hm hSt hl hret
  obtain ⟨hP, hD, hS⟩ := hSt
  unfold p_X5_layJob at hm
  refine lv_iconst (v := 3) hx hb dX5_layJob_0 (by decide) ?_
  refine lv_iload_n hx hb dX5_layJob_1 rfl (lv_at hl 2 rfl) ?_
  refine lv_iadd hx hb dX5_layJob_2 ?_
  refine lv_topi (fun x4_1 ex4_1 => ?_)
  have hm := hm x4_1 ex4_1
  refine lv_istore (lv' := [(4, .int x4_1), (0, .ref (ad 12)), (1, .ref (ad 1)), (2, .int x2), (3, .int x3)]) hx hb dX5_layJob_3 hl (by decide) rfl (fun ls hl => ?_)
  refine lv_iload hx hb dX5_layJob_5 (lv_at hl 0 rfl) ?_
  refine lv_if_lt (tgt := 17) hx hb dX5_layJob_7 (by decide) (fun c_2 => ?_) (fun c_2 => ?_)
  · have hm := hm.1 c_2
    refine lv_iconst (v := 0) hx hb dX5_layJob_17 (by decide) ?_
    exact hret (0 : Int32) tba tal tcl H locs ls 18 dX5_layJob_18 rfl ⟨hP, hD, hS⟩ hm
  · have hm := hm.2 c_2
    refine lv_iload hx hb dX5_layJob_10 (lv_at hl 0 rfl) ?_
    refine lv_bipush (v := 10) hx hb dX5_layJob_12 (by decide) ?_
    refine lv_icmp_lt (tgt := 19) hx hb dX5_layJob_14 (by decide) (fun c_3 => ?_) (fun c_3 => ?_)
    · have hm := hm.1 c_3
      refine lv_iconst (v := 2) hx hb dX5_layJob_19 (by decide) ?_
      refine lv_istore (lv' := [(5, .int (2 : Int32)), (4, .int x4_1), (0, .ref (ad 12)), (1, .ref (ad 1)), (2, .int x2), (3, .int x3)]) hx hb dX5_layJob_20 hl (by decide) rfl (fun ls hl => ?_)
      exact k_X5_layJob_22 C0 N x2 x3 x4_1 (2 : Int32) tba tal tcl H locs ls hm ⟨hP, hD, hS⟩ (lv_sub hl [2, 3, 4, 5, 1, 0] rfl) hret
    · have hm := hm.2 c_3
      refine lv_iconst (v := 0) hx hb dX5_layJob_17 (by decide) ?_
      exact hret (0 : Int32) tba tal tcl H locs ls 18 dX5_layJob_18 rfl ⟨hP, hD, hS⟩ hm

set_option maxHeartbeats 4000000 in
set_option maxRecDepth 100000 in
theorem c_X5_layJob (l : Launch) (dC : Nat → ClassId) (dI : Nat → Nat → Nat) (cy : Nat → ClassId) (ad : Nat → Nat) (sz : Nat) (ss : Int32) (ds : Int32) (ti : Nat → Int32) (co : Int32) (oma : Nat → Int32) (obr : Int32) (obj : Int32) (obo : Int32) (obm : Int32) (plo : Nat → Int32) (pch : Nat → Int32) (pbe : Nat → Int32) (pbl : Int32) (dnu : Nat → Int32) (dde : Nat → Int32) (dbo : Int32) (dln : Int32) (dld : Int32) (tba : Nat → Int32) (tal : Nat → Int32) (tro : Int32) (tsc : Int64) (tcl : Nat → Nat → Int64) (rma : Nat → Int32) (x2 : Int32) (x3 : Int32) (N : Nat) (Q : Int32 → (Nat → Int32) → (Nat → Int32) → (Nat → Nat → Int64) → Prop) (hm : p_X5_layJob N ti co Q x2 x3 tba tal tcl) : Met l yX5_layJob wsX5_layJob rmX5_layJob (va_Pc [.ref (ad 12), .ref (ad 1), .int x2, .int x3] (cPre dC dI cy (wC ad cy ss ds ti co oma obr obj obo obm plo pch pbe pbl dnu dde dbo dln dld tba tal tro tsc tcl rma) sz)) (va_Qi (fun (r : Int32) (u : (Nat → Int32) × (Nat → Int32) × (Nat → Nat → Int64)) => Q r u.1 u.2.1 u.2.2 ∧ narrow .boolean (.int r) = .int r) (fun u t => cPost dC dI cy (wC ad cy ss ds ti co oma obr obj obo obm plo pch pbe pbl dnu dde dbo dln dld tba tal tro tsc tcl rma) sz (wC ad cy ss ds ti co oma obr obj obo obm plo pch pbe pbl dnu dde dbo dln dld (u.1) (u.2.1) tro tsc (u.2.2) rma) t) (va_A (wC ad cy ss ds ti co oma obr obj obo obm plo pch pbe pbl dnu dde dbo dln dld tba tal tro tsc tcl rma) sz)) 0 0 (va_A (wC ad cy ss ds ti co oma obr obj obo obm plo pch pbe pbl dnu dde dbo dln dld tba tal tro tsc tcl rma) sz) := by
  refine Met.ofW (cc := cX5_layJob) (maxL := 8) (ret := (some .boolean)) (by decide) rfl ?_
  intro p e s m args below meth c s₁ B hml hv
  obtain ⟨rfl, hsz, hP, hK, hD0, hN⟩ := hv
  have hts := atoms_spec (ws := wsX5_layJob) B.pre
  have hown : s.vm.findClass RX5 = some m.cls := findClass_of_methodNamed B.named
  subst hsz
  have hD := hD0.self (sz := s.heap.size)
  generalize hAe : va_A (wC ad cy ss ds ti co oma obr obj obo obm plo pch pbe pbl dnu dde dbo dln dld tba tal tro tsc tcl rma) s.heap.size = A at hD ⊢
  have hA : ∀ q : Nat, s.heap.size ≤ q → A q := fun q h => by rw [← hAe]; exact Or.inr h
  have hl := lv_entry ([.ref (ad 12), .ref (ad 1), .int x2, .int x3]) (n := 8) (Nat.le_of_ble_eq_true rfl)
  rw [lg_entry_eq]
  generalize (lg_sl ([.ref (ad 12), .ref (ad 1), .int x2, .int x3]) ++ List.replicate (8 - (lg_sl ([.ref (ad 12), .ref (ad 1), .int x2, .int x3])).length) Slot.unset).toArray = ls at hl ⊢
  have hl : lv_has ls 8 [(0, .ref (ad 12)), (1, .ref (ad 1)), (2, .int x2), (3, .int x3)] := hl
  exact k_X5_layJob_0 ⟨B.exec, B.bytes, hml, B.returns, hown, hts, B.notSynchronized, hK, hA, hN⟩ x2 x3 tba tal tcl s.heap [] ls hm ⟨hP, hD, va_S.rf⟩ (lv_sub hl [0, 1, 2, 3] rfl) (fun r tba tal tcl H locs ls pc hdg hn hSt hq => W.zret B.exec B.bytes B.returns hn (fun t ht hW => ⟨⟨r, (tba, tal, tcl), rfl, ⟨hq, hn⟩, cPost_of hAe ht hW.alike hSt hK⟩, hSt.2.2.F ht⟩) hSt.2.2.2.2 hdg B.notSynchronized)

-- ===== X5_admitExcess
theorem fl_X5_admitExcess_13 : Cond.fieldLink RX5 13 "UnlikeUnion$Tableau" "cells" "[[J" ∈ wsX5_admitExcess := by decide +kernel
theorem fl_X5_admitExcess_16 : Cond.fieldLink RX5 16 "UnlikeUnion$Tableau" "basic" "[I" ∈ wsX5_admitExcess := by decide +kernel
theorem in_X5_admitExcess_X5 : ∀ w ∈ u_ws RX5 TX5 5, w ∈ wsX5_admitExcess := by decide +kernel
abbrev rmX5_admitExcess : Room := { frames := 1, cells := 0, slots := 0, locals := 64 }
def p_X5_admitExcess_81 (N : Nat) (Q : (Nat → Int32) → (Nat → Nat → Int64) → Prop) (K56 : Int32 → Int32 → (Nat → Int32) → (Nat → Nat → Int64) → Prop) : Nat → Int32 → Int32 → Int32 → (Nat → Int32) → (Nat → Nat → Int64) → Prop
  | 0 => fun _ _ _ _ _ => False
  | n + 1 => fun x1 x2 x3 tba tcl => ((3 : Int32) ≤ x3 → (∀ x2_2 : Int32, x2_2 = x2 + (1 : Int32) → (K56 x1 x2_2 tba tcl))) ∧ (¬ (3 : Int32) ≤ x3 → ((x3 = x1 → (∀ x3_4 : Int32, x3_4 = x3 + (1 : Int32) → (p_X5_admitExcess_81 N Q K56 n x1 x2 x3_4 tba tcl))) ∧ (¬ x3 = x1 → (vp_in x3 10 ∧ (vp_in x2 26 ∧ (vp_in x1 10 ∧ (vp_in x2 26 ∧ (∀ f_9 : Int64, f_9 = (tcl (x3).toNatClampNeg (x2).toNatClampNeg) + (tcl (x1).toNatClampNeg (x2).toNatClampNeg) → (vp_in x2 26 ∧ (∀ x3_11 : Int32, x3_11 = x3 + (1 : Int32) → (p_X5_admitExcess_81 N Q K56 n x1 x2 x3_11 tba (upR tcl (x3).toNatClampNeg (vp_updL (tcl (x3).toNatClampNeg) (x2).toNatClampNeg f_9)))))))))))))

def p_X5_admitExcess_56 (N : Nat) (Q : (Nat → Int32) → (Nat → Nat → Int64) → Prop) : Nat → Int32 → Int32 → (Nat → Int32) → (Nat → Nat → Int64) → Prop
  | 0 => fun _ _ _ _ => False
  | n + 1 => fun x1 x2 tba tcl => ((25 : Int32) < x2 → (vp_in x1 10 ∧ (Q (upd tba (x1).toNatClampNeg (24 : Int32)) tcl))) ∧ (¬ (25 : Int32) < x2 → (vp_in x1 10 ∧ (vp_in x1 10 ∧ (vp_in x2 26 ∧ (∀ f_6 : Int64, f_6 = -(tcl (x1).toNatClampNeg (x2).toNatClampNeg) → (vp_in x2 26 ∧ (p_X5_admitExcess_81 N Q (fun x1 x2 tba tcl => p_X5_admitExcess_56 N Q n x1 x2 tba tcl) N x1 x2 (0 : Int32) tba (upR tcl (x1).toNatClampNeg (vp_updL (tcl (x1).toNatClampNeg) (x2).toNatClampNeg f_6)))))))))

def p_X5_admitExcess_4 (N : Nat) (Q : (Nat → Int32) → (Nat → Nat → Int64) → Prop) : Nat → Int32 → Int32 → (Nat → Int32) → (Nat → Nat → Int64) → Prop
  | 0 => fun _ _ _ _ => False
  | n + 1 => fun x1 x2 tba tcl => ((3 : Int32) ≤ x2 → (vp_in x1 10 ∧ (((tcl (x1).toNatClampNeg ((25 : Int32)).toNatClampNeg) < (0 : Int64) → (p_X5_admitExcess_56 N Q N x1 (0 : Int32) tba tcl)) ∧ (¬ (tcl (x1).toNatClampNeg ((25 : Int32)).toNatClampNeg) < (0 : Int64) → (Q tba tcl))))) ∧ (¬ (3 : Int32) ≤ x2 → (vp_in x2 10 ∧ (vp_in x1 10 ∧ (((tcl (x1).toNatClampNeg ((25 : Int32)).toNatClampNeg) ≤ (tcl (x2).toNatClampNeg ((25 : Int32)).toNatClampNeg) → (∀ x2_7 : Int32, x2_7 = x2 + (1 : Int32) → (p_X5_admitExcess_4 N Q n x1 x2_7 tba tcl))) ∧ (¬ (tcl (x1).toNatClampNeg ((25 : Int32)).toNatClampNeg) ≤ (tcl (x2).toNatClampNeg ((25 : Int32)).toNatClampNeg) → (∀ x2_8 : Int32, x2_8 = x2 + (1 : Int32) → (p_X5_admitExcess_4 N Q n x2 x2_8 tba tcl)))))))

def p_X5_admitExcess (N : Nat) (Q : (Nat → Int32) → (Nat → Nat → Int64) → Prop) (tba : Nat → Int32) (tcl : Nat → Nat → Int64) : Prop :=
  p_X5_admitExcess_4 N Q N (0 : Int32) (1 : Int32) tba tcl

set_option maxHeartbeats 4000000 in
set_option maxRecDepth 100000 in
theorem k_X5_admitExcess_81 {N : Nat} {ss : Int32} {ds : Int32} {ti : Nat → Int32} {co : Int32} {oma : Nat → Int32} {obr : Int32} {obj : Int32} {obo : Int32} {obm : Int32} {plo : Nat → Int32} {pch : Nat → Int32} {pbe : Nat → Int32} {pbl : Int32} {dnu : Nat → Int32} {dde : Nat → Int32} {dbo : Int32} {dln : Int32} {dld : Int32} {tal : Nat → Int32} {tro : Int32} {tsc : Int64} {rma : Nat → Int32} {Q : (Nat → Int32) → (Nat → Nat → Int64) → Prop} {K56 : Int32 → Int32 → (Nat → Int32) → (Nat → Nat → Int64) → Prop} (C0 : cxM cX5_admitExcess 4 none RX5 wsX5_admitExcess p s m args meth c dC dI cy A) :
    ∀ (n : Nat) (x1 : Int32) (x2 : Int32) (x3 : Int32) (tba : Nat → Int32) (tcl : Nat → Nat → Int64) (H : Heap) (locs : List Loc) (ls : Array Slot) (hm : p_X5_admitExcess_81 N Q K56 n x1 x2 x3 tba tcl) (hSt : stC dC dI A s (wC ad cy ss ds ti co oma obr obj obo obm plo pch pbe pbl dnu dde dbo dln dld tba tal tro tsc tcl rma) H locs) (hl : lv_has ls 4 [(0, .ref (ad 12)), (1, .int x1), (2, .int x2), (3, .int x3)]) (hret : ∀ (tba : Nat → Int32) (tcl : Nat → Nat → Int64) (H : Heap) (locs : List Loc) (ls : Array Slot) (pc : Nat), decode cX5_admitExcess pc = .ok (.return_, 1) → stC dC dI A s (wC ad cy ss ds ti co oma obr obj obo obm plo pch pbe pbl dnu dde dbo dln dld tba tal tro tsc tcl rma) H locs → Q tba tcl → W p l e rmX5_admitExcess s m args below meth c H locs 0 0 Z (F0 m pc ls [])) (hK56 : ∀ (x1 : Int32) (x2 : Int32) (tba : Nat → Int32) (tcl : Nat → Nat → Int64) (H : Heap) (locs : List Loc) (ls : Array Slot), K56 x1 x2 tba tcl → stC dC dI A s (wC ad cy ss ds ti co oma obr obj obo obm plo pch pbe pbl dnu dde dbo dln dld tba tal tro tsc tcl rma) H locs → lv_has ls 4 [(0, .ref (ad 12)), (1, .int x1), (2, .int x2)] → W p l e rmX5_admitExcess s m args below meth c H locs 0 0 Z (F0 m 56 ls [])), W p l e rmX5_admitExcess s m args below meth c H locs 0 0 Z (F0 m 81 ls []) := by
  obtain ⟨hx, hb, hml, hr, hown, hts, hlocks, hK, hA, hN⟩ := id C0
  intro n
  induction n with
  | zero => intro x1 x2 x3 tba tcl H locs ls hm; exact False.elim hm
  | succ n ih =>
    intro x1 x2 x3 tba tcl H locs ls hm hSt hl hret hK56
    obtain ⟨hP, hD, hS⟩ := hSt
    unfold p_X5_admitExcess_81 at hm
    refine lv_iload_n hx hb dX5_admitExcess_81 rfl (lv_at hl 3 rfl) ?_
    refine lv_iconst (v := 3) hx hb dX5_admitExcess_82 (by decide) ?_
    refine lv_icmp_ge (tgt := 116) hx hb dX5_admitExcess_83 (by decide) (fun c_1 => ?_) (fun c_1 => ?_)
    · have hm := hm.1 c_1
      obtain ⟨x2_2, ex2_2⟩ : ∃ y : Int32, y = x2 + (1 : Int32) := ⟨_, rfl⟩
      have hm := hm x2_2 ex2_2
      refine lv_iinc (v := x2_2) (lv' := [(2, .int x2_2), (0, .ref (ad 12)), (1, .int x1), (3, .int x3)]) hx hb dX5_admitExcess_116 hl (k := 2) rfl (by rw [ex2_2]; rfl) (by decide) rfl (fun ls hl => ?_)
      refine lv_goto (tgt := 56) hx hb dX5_admitExcess_119 (by decide) ?_
      exact hK56 x1 x2_2 tba tcl H locs ls hm ⟨hP, hD, hS⟩ (lv_sub hl [1, 2, 0] rfl)
    · have hm := hm.2 c_1
      refine lv_iload_n hx hb dX5_admitExcess_86 rfl (lv_at hl 3 rfl) ?_
      refine lv_iload_n hx hb dX5_admitExcess_87 rfl (lv_at hl 1 rfl) ?_
      refine lv_icmp_eq (tgt := 110) hx hb dX5_admitExcess_88 (by decide) (fun c_3 => ?_) (fun c_3 => ?_)
      · have hm := hm.1 c_3
        obtain ⟨x3_4, ex3_4⟩ : ∃ y : Int32, y = x3 + (1 : Int32) := ⟨_, rfl⟩
        have hm := hm x3_4 ex3_4
        refine lv_iinc (v := x3_4) (lv' := [(3, .int x3_4), (0, .ref (ad 12)), (1, .int x1), (2, .int x2)]) hx hb dX5_admitExcess_110 hl (k := 3) rfl (by rw [ex3_4]; rfl) (by decide) rfl (fun ls hl => ?_)
        refine lv_goto (tgt := 81) hx hb dX5_admitExcess_113 (by decide) ?_
        exact ih x1 x2 x3_4 tba tcl H locs ls hm ⟨hP, hD, hS⟩ (lv_sub hl [1, 2, 3, 0] rfl) hret hK56
      · have hm := hm.2 c_3
        refine lv_aload_n hx hb dX5_admitExcess_91 rfl (lv_at hl 0 rfl) ?_
        refine va_get (D := (dC, dI)) (ci := 5) (v := .ref (ad 13)) (C := RX5) (T := TX5) (N := 5) hx hb hts in_X5_admitExcess_X5 hown hK hP 12 rfl rfl 0 (by decide) (hts _ fl_X5_admitExcess_13) (fun _ h9 => h9) rfl dX5_admitExcess_92 ?_
        refine lv_iload_n hx hb dX5_admitExcess_95 rfl (lv_at hl 3 rfl) ?_
        have hi_5 := hm.1
        have hm := hm.2
        refine wC_aald hx hb hK hP hi_5 dX5_admitExcess_96 ?_
        refine lv_iload_n hx hb dX5_admitExcess_97 rfl (lv_at hl 2 rfl) ?_
        refine lv_dup2_11 hx hb dX5_admitExcess_98 rfl rfl ?_
        have hi_6 := hm.1
        have hm := hm.2
        refine va_lald hx hb hK hP _ 1 (wC_row hi_5) rfl hi_6 dX5_admitExcess_99 ?_
        refine lv_aload_n hx hb dX5_admitExcess_100 rfl (lv_at hl 0 rfl) ?_
        refine va_get (D := (dC, dI)) (ci := 5) (v := .ref (ad 13)) (C := RX5) (T := TX5) (N := 5) hx hb hts in_X5_admitExcess_X5 hown hK hP 12 rfl rfl 0 (by decide) (hts _ fl_X5_admitExcess_13) (fun _ h9 => h9) rfl dX5_admitExcess_101 ?_
        refine lv_iload_n hx hb dX5_admitExcess_104 rfl (lv_at hl 1 rfl) ?_
        have hi_7 := hm.1
        have hm := hm.2
        refine wC_aald hx hb hK hP hi_7 dX5_admitExcess_105 ?_
        refine lv_iload_n hx hb dX5_admitExcess_106 rfl (lv_at hl 2 rfl) ?_
        have hi_8 := hm.1
        have hm := hm.2
        refine va_lald hx hb hK hP _ 1 (wC_row hi_7) rfl hi_8 dX5_admitExcess_107 ?_
        refine lv_ladd hx hb dX5_admitExcess_108 ?_
        refine lv_topl (fun f_9 ef_9 => ?_)
        have hm := hm f_9 ef_9
        have hi_10 := hm.1
        have hm := hm.2
        refine va_last hx hb hK hP hD hS _ 1 (wC_row hi_5) rfl hi_10 dX5_admitExcess_109 (fun H locs hP hD hS => ?_)
        rw [wC_set hi_5] at hP hD
        have hP : va_P (dC, dI) vwCl (wC ad cy ss ds ti co oma obr obj obo obm plo pch pbe pbl dnu dde dbo dln dld tba tal tro tsc (upR tcl (x3).toNatClampNeg (vp_updL (tcl (x3).toNatClampNeg) (x2).toNatClampNeg f_9)) rma) H := hP
        have hD : va_D A (wC ad cy ss ds ti co oma obr obj obo obm plo pch pbe pbl dnu dde dbo dln dld tba tal tro tsc (upR tcl (x3).toNatClampNeg (vp_updL (tcl (x3).toNatClampNeg) (x2).toNatClampNeg f_9)) rma) := hD
        obtain ⟨x3_11, ex3_11⟩ : ∃ y : Int32, y = x3 + (1 : Int32) := ⟨_, rfl⟩
        have hm := hm x3_11 ex3_11
        refine lv_iinc (v := x3_11) (lv' := [(3, .int x3_11), (0, .ref (ad 12)), (1, .int x1), (2, .int x2)]) hx hb dX5_admitExcess_110 hl (k := 3) rfl (by rw [ex3_11]; rfl) (by decide) rfl (fun ls hl => ?_)
        refine lv_goto (tgt := 81) hx hb dX5_admitExcess_113 (by decide) ?_
        exact ih x1 x2 x3_11 tba (upR tcl (x3).toNatClampNeg (vp_updL (tcl (x3).toNatClampNeg) (x2).toNatClampNeg f_9)) H locs ls hm ⟨hP, hD, hS⟩ (lv_sub hl [1, 2, 3, 0] rfl) hret hK56

set_option maxHeartbeats 4000000 in
set_option maxRecDepth 100000 in
theorem k_X5_admitExcess_56 {N : Nat} {ss : Int32} {ds : Int32} {ti : Nat → Int32} {co : Int32} {oma : Nat → Int32} {obr : Int32} {obj : Int32} {obo : Int32} {obm : Int32} {plo : Nat → Int32} {pch : Nat → Int32} {pbe : Nat → Int32} {pbl : Int32} {dnu : Nat → Int32} {dde : Nat → Int32} {dbo : Int32} {dln : Int32} {dld : Int32} {tal : Nat → Int32} {tro : Int32} {tsc : Int64} {rma : Nat → Int32} {Q : (Nat → Int32) → (Nat → Nat → Int64) → Prop} (C0 : cxM cX5_admitExcess 4 none RX5 wsX5_admitExcess p s m args meth c dC dI cy A) :
    ∀ (n : Nat) (x1 : Int32) (x2 : Int32) (tba : Nat → Int32) (tcl : Nat → Nat → Int64) (H : Heap) (locs : List Loc) (ls : Array Slot) (hm : p_X5_admitExcess_56 N Q n x1 x2 tba tcl) (hSt : stC dC dI A s (wC ad cy ss ds ti co oma obr obj obo obm plo pch pbe pbl dnu dde dbo dln dld tba tal tro tsc tcl rma) H locs) (hl : lv_has ls 4 [(0, .ref (ad 12)), (1, .int x1), (2, .int x2)]) (hret : ∀ (tba : Nat → Int32) (tcl : Nat → Nat → Int64) (H : Heap) (locs : List Loc) (ls : Array Slot) (pc : Nat), decode cX5_admitExcess pc = .ok (.return_, 1) → stC dC dI A s (wC ad cy ss ds ti co oma obr obj obo obm plo pch pbe pbl dnu dde dbo dln dld tba tal tro tsc tcl rma) H locs → Q tba tcl → W p l e rmX5_admitExcess s m args below meth c H locs 0 0 Z (F0 m pc ls [])), W p l e rmX5_admitExcess s m args below meth c H locs 0 0 Z (F0 m 56 ls []) := by
  obtain ⟨hx, hb, hml, hr, hown, hts, hlocks, hK, hA, hN⟩ := id C0
  intro n
  induction n with
  | zero => intro x1 x2 tba tcl H locs ls hm; exact False.elim hm
  | succ n ih =>
    intro x1 x2 tba tcl H locs ls hm hSt hl hret
    obtain ⟨hP, hD, hS⟩ := hSt
    unfold p_X5_admitExcess_56 at hm
    refine lv_iload_n hx hb dX5_admitExcess_56 rfl (lv_at hl 2 rfl) ?_
    refine lv_bipush (v := 25) hx hb dX5_admitExcess_57 (by decide) ?_
    refine lv_icmp_gt (tgt := 122) hx hb dX5_admitExcess_59 (by decide) (fun c_1 => ?_) (fun c_1 => ?_)
    · have hm := hm.1 c_1
      refine lv_aload_n hx hb dX5_admitExcess_122 rfl (lv_at hl 0 rfl) ?_
      refine va_get (D := (dC, dI)) (ci := 5) (v := .ref (ad 14)) (C := RX5) (T := TX5) (N := 5) hx hb hts in_X5_admitExcess_X5 hown hK hP 12 rfl rfl 1 (by decide) (hts _ fl_X5_admitExcess_16) (fun _ h9 => h9) rfl dX5_admitExcess_123 ?_
      refine lv_iload_n hx hb dX5_admitExcess_126 rfl (lv_at hl 1 rfl) ?_
      refine lv_bipush (v := 24) hx hb dX5_admitExcess_127 (by decide) ?_
      have hi_2 := hm.1
      have hm := hm.2
      refine va_iast hx hb hK hP hD hS 14 0 rfl rfl hi_2 dX5_admitExcess_129 (fun H locs hP hD hS => ?_)
      have hP : va_P (dC, dI) vwCl (wC ad cy ss ds ti co oma obr obj obo obm plo pch pbe pbl dnu dde dbo dln dld (upd tba (x1).toNatClampNeg (24 : Int32)) tal tro tsc tcl rma) H := hP
      have hD : va_D A (wC ad cy ss ds ti co oma obr obj obo obm plo pch pbe pbl dnu dde dbo dln dld (upd tba (x1).toNatClampNeg (24 : Int32)) tal tro tsc tcl rma) := hD
      exact hret (upd tba (x1).toNatClampNeg (24 : Int32)) tcl H locs ls 130 dX5_admitExcess_130 ⟨hP, hD, hS⟩ hm
    · have hm := hm.2 c_1
      refine lv_aload_n hx hb dX5_admitExcess_62 rfl (lv_at hl 0 rfl) ?_
      refine va_get (D := (dC, dI)) (ci := 5) (v := .ref (ad 13)) (C := RX5) (T := TX5) (N := 5) hx hb hts in_X5_admitExcess_X5 hown hK hP 12 rfl rfl 0 (by decide) (hts _ fl_X5_admitExcess_13) (fun _ h9 => h9) rfl dX5_admitExcess_63 ?_
      refine lv_iload_n hx hb dX5_admitExcess_66 rfl (lv_at hl 1 rfl) ?_
      have hi_3 := hm.1
      have hm := hm.2
      refine wC_aald hx hb hK hP hi_3 dX5_admitExcess_67 ?_
      refine lv_iload_n hx hb dX5_admitExcess_68 rfl (lv_at hl 2 rfl) ?_
      refine lv_aload_n hx hb dX5_admitExcess_69 rfl (lv_at hl 0 rfl) ?_
      refine va_get (D := (dC, dI)) (ci := 5) (v := .ref (ad 13)) (C := RX5) (T := TX5) (N := 5) hx hb hts in_X5_admitExcess_X5 hown hK hP 12 rfl rfl 0 (by decide) (hts _ fl_X5_admitExcess_13) (fun _ h9 => h9) rfl dX5_admitExcess_70 ?_
      refine lv_iload_n hx hb dX5_admitExcess_73 rfl (lv_at hl 1 rfl) ?_
      have hi_4 := hm.1
      have hm := hm.2
      refine wC_aald hx hb hK hP hi_4 dX5_admitExcess_74 ?_
      refine lv_iload_n hx hb dX5_admitExcess_75 rfl (lv_at hl 2 rfl) ?_
      have hi_5 := hm.1
      have hm := hm.2
      refine va_lald hx hb hK hP _ 1 (wC_row hi_4) rfl hi_5 dX5_admitExcess_76 ?_
      refine lv_lneg hx hb dX5_admitExcess_77 ?_
      refine lv_topl (fun f_6 ef_6 => ?_)
      have hm := hm f_6 ef_6
      have hi_7 := hm.1
      have hm := hm.2
      refine va_last hx hb hK hP hD hS _ 1 (wC_row hi_3) rfl hi_7 dX5_admitExcess_78 (fun H locs hP hD hS => ?_)
      rw [wC_set hi_3] at hP hD
      have hP : va_P (dC, dI) vwCl (wC ad cy ss ds ti co oma obr obj obo obm plo pch pbe pbl dnu dde dbo dln dld tba tal tro tsc (upR tcl (x1).toNatClampNeg (vp_updL (tcl (x1).toNatClampNeg) (x2).toNatClampNeg f_6)) rma) H := hP
      have hD : va_D A (wC ad cy ss ds ti co oma obr obj obo obm plo pch pbe pbl dnu dde dbo dln dld tba tal tro tsc (upR tcl (x1).toNatClampNeg (vp_updL (tcl (x1).toNatClampNeg) (x2).toNatClampNeg f_6)) rma) := hD
      refine lv_iconst (v := 0) hx hb dX5_admitExcess_79 (by decide) ?_
      refine lv_istore_n (lv' := [(3, .int (0 : Int32)), (0, .ref (ad 12)), (1, .int x1), (2, .int x2)]) hx hb dX5_admitExcess_80 rfl hl (by decide) rfl (fun ls hl => ?_)
      refine k_X5_admitExcess_81 C0 N x1 x2 (0 : Int32) tba (upR tcl (x1).toNatClampNeg (vp_updL (tcl (x1).toNatClampNeg) (x2).toNatClampNeg f_6)) H locs ls hm ⟨hP, hD, hS⟩ (lv_sub hl [1, 2, 3, 0] rfl) hret (fun x1 x2 tba tcl H locs ls hm hSt hl => ?_)
      · obtain ⟨hP, hD, hS⟩ := hSt
        exact ih x1 x2 tba tcl H locs ls hm ⟨hP, hD, hS⟩ hl hret

set_option maxHeartbeats 4000000 in
set_option maxRecDepth 100000 in
theorem k_X5_admitExcess_4 {N : Nat} {ss : Int32} {ds : Int32} {ti : Nat → Int32} {co : Int32} {oma : Nat → Int32} {obr : Int32} {obj : Int32} {obo : Int32} {obm : Int32} {plo : Nat → Int32} {pch : Nat → Int32} {pbe : Nat → Int32} {pbl : Int32} {dnu : Nat → Int32} {dde : Nat → Int32} {dbo : Int32} {dln : Int32} {dld : Int32} {tal : Nat → Int32} {tro : Int32} {tsc : Int64} {rma : Nat → Int32} {Q : (Nat → Int32) → (Nat → Nat → Int64) → Prop} (C0 : cxM cX5_admitExcess 4 none RX5 wsX5_admitExcess p s m args meth c dC dI cy A) :
    ∀ (n : Nat) (x1 : Int32) (x2 : Int32) (tba : Nat → Int32) (tcl : Nat → Nat → Int64) (H : Heap) (locs : List Loc) (ls : Array Slot) (hm : p_X5_admitExcess_4 N Q n x1 x2 tba tcl) (hSt : stC dC dI A s (wC ad cy ss ds ti co oma obr obj obo obm plo pch pbe pbl dnu dde dbo dln dld tba tal tro tsc tcl rma) H locs) (hl : lv_has ls 4 [(0, .ref (ad 12)), (1, .int x1), (2, .int x2)]) (hret : ∀ (tba : Nat → Int32) (tcl : Nat → Nat → Int64) (H : Heap) (locs : List Loc) (ls : Array Slot) (pc : Nat), decode cX5_admitExcess pc = .ok (.return_, 1) → stC dC dI A s (wC ad cy ss ds ti co oma obr obj obo obm plo pch pbe pbl dnu dde dbo dln dld tba tal tro tsc tcl rma) H locs → Q tba tcl → W p l e rmX5_admitExcess s m args below meth c H locs 0 0 Z (F0 m pc ls [])), W p l e rmX5_admitExcess s m args below meth c H locs 0 0 Z (F0 m 4 ls []) := by
  obtain ⟨hx, hb, hml, hr, hown, hts, hlocks, hK, hA, hN⟩ := id C0
  intro n
  induction n with
  | zero => intro x1 x2 tba tcl H locs ls hm; exact False.elim hm
  | succ n ih =>
    intro x1 x2 tba tcl H locs ls hm hSt hl hret
    obtain ⟨hP, hD, hS⟩ := hSt
    unfold p_X5_admitExcess_4 at hm
    refine lv_iload_n hx hb dX5_admitExcess_4 rfl (lv_at hl 2 rfl) ?_
    refine lv_iconst (v := 3) hx hb dX5_admitExcess_5 (by decide) ?_
    refine lv_icmp_ge (tgt := 39) hx hb dX5_admitExcess_6 (by decide) (fun c_1 => ?_) (fun c_1 => ?_)
    · have hm := hm.1 c_1
      refine lv_aload_n hx hb dX5_admitExcess_39 rfl (lv_at hl 0 rfl) ?_
      refine va_get (D := (dC, dI)) (ci := 5) (v := .ref (ad 13)) (C := RX5) (T := TX5) (N := 5) hx hb hts in_X5_admitExcess_X5 hown hK hP 12 rfl rfl 0 (by decide) (hts _ fl_X5_admitExcess_13) (fun _ h9 => h9) rfl dX5_admitExcess_40 ?_
      refine lv_iload_n hx hb dX5_admitExcess_43 rfl (lv_at hl 1 rfl) ?_
      have hi_2 := hm.1
      have hm := hm.2
      refine wC_aald hx hb hK hP hi_2 dX5_admitExcess_44 ?_
      refine lv_bipush (v := 25) hx hb dX5_admitExcess_45 (by decide) ?_
      refine va_lald hx hb hK hP _ 1 (wC_row hi_2) rfl (vp_in_iff.mpr (by decide)) dX5_admitExcess_47 ?_
      refine lv_lconst (v := 0) hx hb dX5_admitExcess_48 (by decide) ?_
      refine lq_lt (tgt := 54) hx hb dX5_admitExcess_49 dX5_admitExcess_50 (by decide) (fun c_3 => ?_) (fun c_3 => ?_)
      · have hm := hm.1 c_3
        refine lv_iconst (v := 0) hx hb dX5_admitExcess_54 (by decide) ?_
        refine lv_istore_n (lv' := [(2, .int (0 : Int32)), (0, .ref (ad 12)), (1, .int x1)]) hx hb dX5_admitExcess_55 rfl hl (by decide) rfl (fun ls hl => ?_)
        exact k_X5_admitExcess_56 C0 N x1 (0 : Int32) tba tcl H locs ls hm ⟨hP, hD, hS⟩ (lv_sub hl [1, 2, 0] rfl) hret
      · have hm := hm.2 c_3
        exact hret tba tcl H locs ls 53 dX5_admitExcess_53 ⟨hP, hD, hS⟩ hm
    · have hm := hm.2 c_1
      refine lv_aload_n hx hb dX5_admitExcess_9 rfl (lv_at hl 0 rfl) ?_
      refine va_get (D := (dC, dI)) (ci := 5) (v := .ref (ad 13)) (C := RX5) (T := TX5) (N := 5) hx hb hts in_X5_admitExcess_X5 hown hK hP 12 rfl rfl 0 (by decide) (hts _ fl_X5_admitExcess_13) (fun _ h9 => h9) rfl dX5_admitExcess_10 ?_
      refine lv_iload_n hx hb dX5_admitExcess_13 rfl (lv_at hl 2 rfl) ?_
      have hi_4 := hm.1
      have hm := hm.2
      refine wC_aald hx hb hK hP hi_4 dX5_admitExcess_14 ?_
      refine lv_bipush (v := 25) hx hb dX5_admitExcess_15 (by decide) ?_
      refine va_lald hx hb hK hP _ 1 (wC_row hi_4) rfl (vp_in_iff.mpr (by decide)) dX5_admitExcess_17 ?_
      refine lv_aload_n hx hb dX5_admitExcess_18 rfl (lv_at hl 0 rfl) ?_
      refine va_get (D := (dC, dI)) (ci := 5) (v := .ref (ad 13)) (C := RX5) (T := TX5) (N := 5) hx hb hts in_X5_admitExcess_X5 hown hK hP 12 rfl rfl 0 (by decide) (hts _ fl_X5_admitExcess_13) (fun _ h9 => h9) rfl dX5_admitExcess_19 ?_
      refine lv_iload_n hx hb dX5_admitExcess_22 rfl (lv_at hl 1 rfl) ?_
      have hi_5 := hm.1
      have hm := hm.2
      refine wC_aald hx hb hK hP hi_5 dX5_admitExcess_23 ?_
      refine lv_bipush (v := 25) hx hb dX5_admitExcess_24 (by decide) ?_
      refine va_lald hx hb hK hP _ 1 (wC_row hi_5) rfl (vp_in_iff.mpr (by decide)) dX5_admitExcess_26 ?_
      refine lq_ge (tgt := 33) hx hb dX5_admitExcess_27 dX5_admitExcess_28 (by decide) (fun c_6 => ?_) (fun c_6 => ?_)
      · have hm := hm.1 c_6
        obtain ⟨x2_7, ex2_7⟩ : ∃ y : Int32, y = x2 + (1 : Int32) := ⟨_, rfl⟩
        have hm := hm x2_7 ex2_7
        refine lv_iinc (v := x2_7) (lv' := [(2, .int x2_7), (0, .ref (ad 12)), (1, .int x1)]) hx hb dX5_admitExcess_33 hl (k := 2) rfl (by rw [ex2_7]; rfl) (by decide) rfl (fun ls hl => ?_)
        refine lv_goto (tgt := 4) hx hb dX5_admitExcess_36 (by decide) ?_
        exact ih x1 x2_7 tba tcl H locs ls hm ⟨hP, hD, hS⟩ (lv_sub hl [1, 2, 0] rfl) hret
      · have hm := hm.2 c_6
        refine lv_iload_n hx hb dX5_admitExcess_31 rfl (lv_at hl 2 rfl) ?_
        refine lv_istore_n (lv' := [(1, .int x2), (0, .ref (ad 12)), (2, .int x2)]) hx hb dX5_admitExcess_32 rfl hl (by decide) rfl (fun ls hl => ?_)
        obtain ⟨x2_8, ex2_8⟩ : ∃ y : Int32, y = x2 + (1 : Int32) := ⟨_, rfl⟩
        have hm := hm x2_8 ex2_8
        refine lv_iinc (v := x2_8) (lv' := [(2, .int x2_8), (1, .int x2), (0, .ref (ad 12))]) hx hb dX5_admitExcess_33 hl (k := 2) rfl (by rw [ex2_8]; rfl) (by decide) rfl (fun ls hl => ?_)
        refine lv_goto (tgt := 4) hx hb dX5_admitExcess_36 (by decide) ?_
        exact ih x2 x2_8 tba tcl H locs ls hm ⟨hP, hD, hS⟩ (lv_sub hl [2, 1, 0] rfl) hret

set_option maxHeartbeats 4000000 in
set_option maxRecDepth 100000 in
theorem k_X5_admitExcess_0 {N : Nat} {ss : Int32} {ds : Int32} {ti : Nat → Int32} {co : Int32} {oma : Nat → Int32} {obr : Int32} {obj : Int32} {obo : Int32} {obm : Int32} {plo : Nat → Int32} {pch : Nat → Int32} {pbe : Nat → Int32} {pbl : Int32} {dnu : Nat → Int32} {dde : Nat → Int32} {dbo : Int32} {dln : Int32} {dld : Int32} {tal : Nat → Int32} {tro : Int32} {tsc : Int64} {rma : Nat → Int32} {Q : (Nat → Int32) → (Nat → Nat → Int64) → Prop} (C0 : cxM cX5_admitExcess 4 none RX5 wsX5_admitExcess p s m args meth c dC dI cy A) :
    ∀ (tba : Nat → Int32) (tcl : Nat → Nat → Int64) (H : Heap) (locs : List Loc) (ls : Array Slot) (hm : p_X5_admitExcess N Q tba tcl) (hSt : stC dC dI A s (wC ad cy ss ds ti co oma obr obj obo obm plo pch pbe pbl dnu dde dbo dln dld tba tal tro tsc tcl rma) H locs) (hl : lv_has ls 4 [(0, .ref (ad 12))]) (hret : ∀ (tba : Nat → Int32) (tcl : Nat → Nat → Int64) (H : Heap) (locs : List Loc) (ls : Array Slot) (pc : Nat), decode cX5_admitExcess pc = .ok (.return_, 1) → stC dC dI A s (wC ad cy ss ds ti co oma obr obj obo obm plo pch pbe pbl dnu dde dbo dln dld tba tal tro tsc tcl rma) H locs → Q tba tcl → W p l e rmX5_admitExcess s m args below meth c H locs 0 0 Z (F0 m pc ls [])), W p l e rmX5_admitExcess s m args below meth c H locs 0 0 Z (F0 m 0 ls []) := by
  obtain ⟨hx, hb, hml, hr, hown, hts, hlocks, hK, hA, hN⟩ := id C0
  intro tba tcl H locs ls hm hSt hl hret
  obtain ⟨hP, hD, hS⟩ := hSt
  unfold p_X5_admitExcess at hm
  refine lv_iconst (v := 0) hx hb dX5_admitExcess_0 (by decide) ?_
  refine lv_istore_n (lv' := [(1, .int (0 : Int32)), (0, .ref (ad 12))]) hx hb dX5_admitExcess_1 rfl hl (by decide) rfl (fun ls hl => ?_)
  refine lv_iconst (v := 1) hx hb dX5_admitExcess_2 (by decide) ?_
  refine lv_istore_n (lv' := [(2, .int (1 : Int32)), (1, .int (0 : Int32)), (0, .ref (ad 12))]) hx hb dX5_admitExcess_3 rfl hl (by decide) rfl (fun ls hl => ?_)
  exact k_X5_admitExcess_4 C0 N (0 : Int32) (1 : Int32) tba tcl H locs ls hm ⟨hP, hD, hS⟩ (lv_sub hl [2, 1, 0] rfl) hret

set_option maxHeartbeats 4000000 in
set_option maxRecDepth 100000 in
theorem c_X5_admitExcess (l : Launch) (dC : Nat → ClassId) (dI : Nat → Nat → Nat) (cy : Nat → ClassId) (ad : Nat → Nat) (sz : Nat) (ss : Int32) (ds : Int32) (ti : Nat → Int32) (co : Int32) (oma : Nat → Int32) (obr : Int32) (obj : Int32) (obo : Int32) (obm : Int32) (plo : Nat → Int32) (pch : Nat → Int32) (pbe : Nat → Int32) (pbl : Int32) (dnu : Nat → Int32) (dde : Nat → Int32) (dbo : Int32) (dln : Int32) (dld : Int32) (tba : Nat → Int32) (tal : Nat → Int32) (tro : Int32) (tsc : Int64) (tcl : Nat → Nat → Int64) (rma : Nat → Int32)  (N : Nat) (Q : (Nat → Int32) → (Nat → Nat → Int64) → Prop) (hm : p_X5_admitExcess N Q tba tcl) : Met l yX5_admitExcess wsX5_admitExcess rmX5_admitExcess (va_Pc [.ref (ad 12)] (cPre dC dI cy (wC ad cy ss ds ti co oma obr obj obo obm plo pch pbe pbl dnu dde dbo dln dld tba tal tro tsc tcl rma) sz)) (va_Qv (fun (u : (Nat → Int32) × (Nat → Nat → Int64)) => Q u.1 u.2) (fun u t => cPost dC dI cy (wC ad cy ss ds ti co oma obr obj obo obm plo pch pbe pbl dnu dde dbo dln dld tba tal tro tsc tcl rma) sz (wC ad cy ss ds ti co oma obr obj obo obm plo pch pbe pbl dnu dde dbo dln dld (u.1) tal tro tsc (u.2) rma) t) (va_A (wC ad cy ss ds ti co oma obr obj obo obm plo pch pbe pbl dnu dde dbo dln dld tba tal tro tsc tcl rma) sz)) 0 0 (va_A (wC ad cy ss ds ti co oma obr obj obo obm plo pch pbe pbl dnu dde dbo dln dld tba tal tro tsc tcl rma) sz) := by
  refine Met.ofW (cc := cX5_admitExcess) (maxL := 4) (ret := none) (by decide) rfl ?_
  intro p e s m args below meth c s₁ B hml hv
  obtain ⟨rfl, hsz, hP, hK, hD0, hN⟩ := hv
  have hts := atoms_spec (ws := wsX5_admitExcess) B.pre
  have hown : s.vm.findClass RX5 = some m.cls := findClass_of_methodNamed B.named
  subst hsz
  have hD := hD0.self (sz := s.heap.size)
  generalize hAe : va_A (wC ad cy ss ds ti co oma obr obj obo obm plo pch pbe pbl dnu dde dbo dln dld tba tal tro tsc tcl rma) s.heap.size = A at hD ⊢
  have hA : ∀ q : Nat, s.heap.size ≤ q → A q := fun q h => by rw [← hAe]; exact Or.inr h
  have hl := lv_entry ([.ref (ad 12)]) (n := 4) (Nat.le_of_ble_eq_true rfl)
  rw [lg_entry_eq]
  generalize (lg_sl ([.ref (ad 12)]) ++ List.replicate (4 - (lg_sl ([.ref (ad 12)])).length) Slot.unset).toArray = ls at hl ⊢
  have hl : lv_has ls 4 [(0, .ref (ad 12))] := hl
  exact k_X5_admitExcess_0 ⟨B.exec, B.bytes, hml, B.returns, hown, hts, B.notSynchronized, hK, hA, hN⟩ tba tcl s.heap [] ls hm ⟨hP, hD, va_S.rf⟩ (lv_sub hl [0] rfl) (fun tba tcl H locs ls pc hdg hSt hq => W.vret B.exec B.bytes B.returns (fun t ht hW => ⟨⟨(tba, tcl), rfl, hq, cPost_of hAe ht hW.alike hSt hK⟩, hSt.2.2.F ht⟩) hSt.2.2.2.2 hdg B.notSynchronized)

-- ===== X5_start
theorem fl_X5_start_13 : Cond.fieldLink RX5 13 "UnlikeUnion$Tableau" "cells" "[[J" ∈ wsX5_start := by decide +kernel
theorem fl_X5_start_16 : Cond.fieldLink RX5 16 "UnlikeUnion$Tableau" "basic" "[I" ∈ wsX5_start := by decide +kernel
theorem fl_X5_start_20 : Cond.fieldLink RX5 20 "UnlikeUnion$Tableau" "allowed" "[Z" ∈ wsX5_start := by decide +kernel
theorem in_X5_start_X1 : ∀ w ∈ u_ws RX1 TX1 2, w ∈ wsX5_start := by decide +kernel
theorem in_X5_start_X5 : ∀ w ∈ u_ws RX5 TX5 5, w ∈ wsX5_start := by decide +kernel
abbrev rmX5_start : Room := { frames := 3, cells := 0, slots := 0, locals := 240 }
def p_X5_start_86 (N : Nat) (ti : Nat → Int32) (co : Int32) (Q : Int32 → (Nat → Int32) → (Nat → Int32) → Int32 → Int64 → (Nat → Nat → Int64) → Prop) : Nat → Int32 → Int32 → (Nat → Int32) → (Nat → Int32) → Int32 → Int64 → (Nat → Nat → Int64) → Prop
  | 0 => fun _ _ _ _ _ _ _ => False
  | n + 1 => fun x3 x4 tba tal tro tsc tcl => (co ≤ x4 → (p_X5_admitExcess N (fun tba_2 tcl_3 => Q (1 : Int32) tba_2 tal tro tsc tcl_3) tba tcl)) ∧ (¬ co ≤ x4 → (((7 : Int32) ≤ x4 → (p_X5_admitExcess N (fun tba_5 tcl_6 => Q (1 : Int32) tba_5 tal tro tsc tcl_6) tba tcl)) ∧ (¬ (7 : Int32) ≤ x4 → (p_X5_layJob N ti co (fun r_7 tba_8 tal_9 tcl_10 => (r_7 = 0 → (Q (0 : Int32) tba_8 tal_9 tro tsc tcl_10)) ∧ (¬ r_7 = 0 → (∀ x4_12 : Int32, x4_12 = x4 + (1 : Int32) → (p_X5_start_86 N ti co Q n x3 x4_12 tba_8 tal_9 tro tsc tcl_10)))) x4 x3 tba tal tcl))))

def p_X5_start_11 (N : Nat) (ti : Nat → Int32) (co : Int32) (Q : Int32 → (Nat → Int32) → (Nat → Int32) → Int32 → Int64 → (Nat → Nat → Int64) → Prop) : Nat → Int32 → Int32 → Int32 → (Nat → Int32) → (Nat → Int32) → Int32 → Int64 → (Nat → Nat → Int64) → Prop
  | 0 => fun _ _ _ _ _ _ _ _ => False
  | n + 1 => fun x2 x3 x4 tba tal tro tsc tcl => ((3 : Int32) ≤ x4 → (p_X5_start_86 N ti co Q N x3 (0 : Int32) tba tal tro tsc tcl)) ∧ (¬ (3 : Int32) ≤ x4 → (∀ x5_2 : Int32, x5_2 = (21 : Int32) + x4 → (vp_in x4 10 ∧ (vp_in x5_2 26 ∧ (vp_in x4 10 ∧ (vp_in x4 10 ∧ (∀ f_7 : Int64, f_7 = (x2).toInt64 → (vp_in x4 10 ∧ (vp_in x5_2 25 ∧ (∀ x4_10 : Int32, x4_10 = x4 + (1 : Int32) → (p_X5_start_11 N ti co Q n x2 x3 x4_10 (upd tba (x4).toNatClampNeg x5_2) (upd tal (x5_2).toNatClampNeg (vp_nar .boolean (1 : Int32))) tro tsc (upR (upR (upR tcl (x4).toNatClampNeg (vp_updL (tcl (x4).toNatClampNeg) (x5_2).toNatClampNeg (1 : Int64))) (x4).toNatClampNeg (vp_updL ((upR tcl (x4).toNatClampNeg (vp_updL (tcl (x4).toNatClampNeg) (x5_2).toNatClampNeg (1 : Int64))) (x4).toNatClampNeg) ((24 : Int32)).toNatClampNeg (-1 : Int64))) (x4).toNatClampNeg (vp_updL ((upR (upR tcl (x4).toNatClampNeg (vp_updL (tcl (x4).toNatClampNeg) (x5_2).toNatClampNeg (1 : Int64))) (x4).toNatClampNeg (vp_updL ((upR tcl (x4).toNatClampNeg (vp_updL (tcl (x4).toNatClampNeg) (x5_2).toNatClampNeg (1 : Int64))) (x4).toNatClampNeg) ((24 : Int32)).toNatClampNeg (-1 : Int64))) (x4).toNatClampNeg) ((25 : Int32)).toNatClampNeg f_7)))))))))))))

def p_X5_start (N : Nat) (ti : Nat → Int32) (co : Int32) (Q : Int32 → (Nat → Int32) → (Nat → Int32) → Int32 → Int64 → (Nat → Nat → Int64) → Prop) (x2 : Int32) (x3 : Int32) (tba : Nat → Int32) (tal : Nat → Int32) (tro : Int32) (tsc : Int64) (tcl : Nat → Nat → Int64) : Prop :=
  p_X5_clear N (fun tba_1 tal_2 tro_3 tsc_4 tcl_5 => p_X5_start_11 N ti co Q N x2 x3 (0 : Int32) tba_1 tal_2 tro_3 tsc_4 tcl_5) co tba tal tro tsc tcl

set_option maxHeartbeats 4000000 in
set_option maxRecDepth 100000 in
theorem k_X5_start_86 {N : Nat} {ss : Int32} {ds : Int32} {ti : Nat → Int32} {co : Int32} {oma : Nat → Int32} {obr : Int32} {obj : Int32} {obo : Int32} {obm : Int32} {plo : Nat → Int32} {pch : Nat → Int32} {pbe : Nat → Int32} {pbl : Int32} {dnu : Nat → Int32} {dde : Nat → Int32} {dbo : Int32} {dln : Int32} {dld : Int32} {rma : Nat → Int32} {Q : Int32 → (Nat → Int32) → (Nat → Int32) → Int32 → Int64 → (Nat → Nat → Int64) → Prop} (C0 : cxM cX5_start 6 (some .boolean) RX5 wsX5_start p s m args meth c dC dI cy A) :
    ∀ (n : Nat) (x3 : Int32) (x4 : Int32) (tba : Nat → Int32) (tal : Nat → Int32) (tro : Int32) (tsc : Int64) (tcl : Nat → Nat → Int64) (H : Heap) (locs : List Loc) (ls : Array Slot) (hm : p_X5_start_86 N ti co Q n x3 x4 tba tal tro tsc tcl) (hSt : stC dC dI A s (wC ad cy ss ds ti co oma obr obj obo obm plo pch pbe pbl dnu dde dbo dln dld tba tal tro tsc tcl rma) H locs) (hl : lv_has ls 6 [(0, .ref (ad 12)), (1, .ref (ad 1)), (3, .int x3), (4, .int x4)]) (hret : ∀ (r : Int32) (tba : Nat → Int32) (tal : Nat → Int32) (tro : Int32) (tsc : Int64) (tcl : Nat → Nat → Int64) (H : Heap) (locs : List Loc) (ls : Array Slot) (pc : Nat), decode cX5_start pc = .ok (.ireturn, 1) → narrow .boolean (.int r) = .int r → stC dC dI A s (wC ad cy ss ds ti co oma obr obj obo obm plo pch pbe pbl dnu dde dbo dln dld tba tal tro tsc tcl rma) H locs → Q r tba tal tro tsc tcl → W p l e rmX5_start s m args below meth c H locs 0 0 Z (F0 m pc ls [.int r])), W p l e rmX5_start s m args below meth c H locs 0 0 Z (F0 m 86 ls []) := by
  obtain ⟨hx, hb, hml, hr, hown, hts, hlocks, hK, hA, hN⟩ := id C0
  intro n
  induction n with
  | zero => intro x3 x4 tba tal tro tsc tcl H locs ls hm; exact False.elim hm
  | succ n ih =>
    intro x3 x4 tba tal tro tsc tcl H locs ls hm hSt hl hret
    obtain ⟨hP, hD, hS⟩ := hSt
    unfold p_X5_start_86 at hm
    refine lv_iload hx hb dX5_start_86 (lv_at hl 3 rfl) ?_
    refine lv_aload_n hx hb dX5_start_88 rfl (lv_at hl 1 rfl) ?_
    refine va_getN (D := (dC, dI)) (ci := 1) (v := .int co) (C := RX1) (T := TX1) (N := 2) hx hb hts in_X5_start_X1 hown hK hP 1 rfl rfl 1 (by decide) (va_Nw.use rfl (nw_X5_24 hN)) (fun _ h9 => h9) rfl dX5_start_89 ?_
    refine lv_icmp_ge (tgt := 121) hx hb dX5_start_92 (by decide) (fun c_1 => ?_) (fun c_1 => ?_)
    · have hm := hm.1 c_1
      refine lv_aload_n hx hb dX5_start_121 rfl (lv_at hl 0 rfl) ?_
      have hFc := va_freeSame hD hS hA
      refine va_callv (va_runV (As := []) (rest := []) ⟨hx, hb, hml, hown, hts⟩ (c_X5_admitExcess l dC dI cy ad H.size ss ds ti co oma obr obj obo obm plo pch pbe pbl dnu dde dbo dln dld tba tal tro tsc tcl rma  _ _ hm) (cwV 0 hts gX5_start_X5_admitExcess rfl rfl rfl (by decide +kernel) ⟨Nat.le_of_ble_eq_true rfl, Nat.le_of_ble_eq_true rfl⟩) ⟨cPre_blind, va_recv hK hP (ci := 5) (q0 := 12) rfl rfl, fun U hU hW => ⟨rfl, cPre_at hP hK hD hN hU hW⟩⟩ rfl rfl hl.1 rfl (lv_room (Nat.le_of_ble_eq_true rfl)) dX5_start_122 ⟨Nat.zero_le _, Nat.zero_le _⟩) hS (fun q _ h => hFc q h) hFc (fun u t H locs ht hvm hw hB hz1 hk1 hS => ?_)
      obtain ⟨tba_2, tcl_3⟩ := u
      try dsimp only at hw
      have hm := hw
      have hP : va_P (dC, dI) vwCl (wC ad cy ss ds ti co oma obr obj obo obm plo pch pbe pbl dnu dde dbo dln dld tba_2 tal tro tsc tcl_3 rma) H := cPost_P ht hB
      have hD : va_D A (wC ad cy ss ds ti co oma obr obj obo obm plo pch pbe pbl dnu dde dbo dln dld tba_2 tal tro tsc tcl_3 rma) := cPost_D hFc hB
      refine lv_iconst (v := 1) hx hb dX5_start_125 (by decide) ?_
      exact hret (1 : Int32) tba_2 tal tro tsc tcl_3 H locs ls 126 dX5_start_126 rfl ⟨hP, hD, hS⟩ hm
    · have hm := hm.2 c_1
      refine lv_iload hx hb dX5_start_95 (lv_at hl 3 rfl) ?_
      refine lv_bipush (v := 7) hx hb dX5_start_97 (by decide) ?_
      refine lv_icmp_ge (tgt := 121) hx hb dX5_start_99 (by decide) (fun c_4 => ?_) (fun c_4 => ?_)
      · have hm := hm.1 c_4
        refine lv_aload_n hx hb dX5_start_121 rfl (lv_at hl 0 rfl) ?_
        have hFc := va_freeSame hD hS hA
        refine va_callv (va_runV (As := []) (rest := []) ⟨hx, hb, hml, hown, hts⟩ (c_X5_admitExcess l dC dI cy ad H.size ss ds ti co oma obr obj obo obm plo pch pbe pbl dnu dde dbo dln dld tba tal tro tsc tcl rma  _ _ hm) (cwV 0 hts gX5_start_X5_admitExcess rfl rfl rfl (by decide +kernel) ⟨Nat.le_of_ble_eq_true rfl, Nat.le_of_ble_eq_true rfl⟩) ⟨cPre_blind, va_recv hK hP (ci := 5) (q0 := 12) rfl rfl, fun U hU hW => ⟨rfl, cPre_at hP hK hD hN hU hW⟩⟩ rfl rfl hl.1 rfl (lv_room (Nat.le_of_ble_eq_true rfl)) dX5_start_122 ⟨Nat.zero_le _, Nat.zero_le _⟩) hS (fun q _ h => hFc q h) hFc (fun u t H locs ht hvm hw hB hz1 hk1 hS => ?_)
        obtain ⟨tba_5, tcl_6⟩ := u
        try dsimp only at hw
        have hm := hw
        have hP : va_P (dC, dI) vwCl (wC ad cy ss ds ti co oma obr obj obo obm plo pch pbe pbl dnu dde dbo dln dld tba_5 tal tro tsc tcl_6 rma) H := cPost_P ht hB
        have hD : va_D A (wC ad cy ss ds ti co oma obr obj obo obm plo pch pbe pbl dnu dde dbo dln dld tba_5 tal tro tsc tcl_6 rma) := cPost_D hFc hB
        refine lv_iconst (v := 1) hx hb dX5_start_125 (by decide) ?_
        exact hret (1 : Int32) tba_5 tal tro tsc tcl_6 H locs ls 126 dX5_start_126 rfl ⟨hP, hD, hS⟩ hm
      · have hm := hm.2 c_4
        refine lv_aload_n hx hb dX5_start_102 rfl (lv_at hl 0 rfl) ?_
        refine lv_aload_n hx hb dX5_start_103 rfl (lv_at hl 1 rfl) ?_
        refine lv_iload hx hb dX5_start_104 (lv_at hl 3 rfl) ?_
        refine lv_iload_n hx hb dX5_start_106 rfl (lv_at hl 2 rfl) ?_
        have hFc := va_freeSame hD hS hA
        refine va_calli (va_runV (As := [.ref (ad 1), .int x4, .int x3]) (rest := []) ⟨hx, hb, hml, hown, hts⟩ (c_X5_layJob l dC dI cy ad H.size ss ds ti co oma obr obj obo obm plo pch pbe pbl dnu dde dbo dln dld tba tal tro tsc tcl rma x4 x3 _ _ hm) (cwV 3 hts gX5_start_X5_layJob rfl rfl rfl (by decide +kernel) ⟨Nat.le_of_ble_eq_true rfl, Nat.le_of_ble_eq_true rfl⟩) ⟨cPre_blind, va_recv hK hP (ci := 5) (q0 := 12) rfl rfl, fun U hU hW => ⟨rfl, cPre_at hP hK hD hN hU hW⟩⟩ rfl rfl hl.1 rfl (lv_room (Nat.le_of_ble_eq_true rfl)) dX5_start_107 ⟨Nat.zero_le _, Nat.zero_le _⟩) hS (fun q _ h => hFc q h) hFc (fun r_7 u t H locs ht hvm hw hB hz1 hk1 hS => ?_)
        obtain ⟨tba_8, tal_9, tcl_10⟩ := u
        try dsimp only at hw
        obtain ⟨hm, nar_r_7⟩ := hw
        have hP : va_P (dC, dI) vwCl (wC ad cy ss ds ti co oma obr obj obo obm plo pch pbe pbl dnu dde dbo dln dld tba_8 tal_9 tro tsc tcl_10 rma) H := cPost_P ht hB
        have hD : va_D A (wC ad cy ss ds ti co oma obr obj obo obm plo pch pbe pbl dnu dde dbo dln dld tba_8 tal_9 tro tsc tcl_10 rma) := cPost_D hFc hB
        refine lv_if_ne (tgt := 115) hx hb dX5_start_110 (by decide) (fun c_11 => ?_) (fun c_11 => ?_)
        · have hm := hm.2 c_11
          obtain ⟨x4_12, ex4_12⟩ : ∃ y : Int32, y = x4 + (1 : Int32) := ⟨_, rfl⟩
          have hm := hm x4_12 ex4_12
          refine lv_iinc (v := x4_12) (lv' := [(4, .int x4_12), (0, .ref (ad 12)), (1, .ref (ad 1)), (3, .int x3)]) hx hb dX5_start_115 hl (k := 3) rfl (by rw [ex4_12]; rfl) (by decide) rfl (fun ls hl => ?_)
          refine lv_goto (tgt := 86) hx hb dX5_start_118 (by decide) ?_
          exact ih x3 x4_12 tba_8 tal_9 tro tsc tcl_10 H locs ls hm ⟨hP, hD, hS⟩ (lv_sub hl [1, 2, 3, 0] rfl) hret
        · have hm := hm.1 c_11
          refine lv_iconst (v := 0) hx hb dX5_start_113 (by decide) ?_
          exact hret (0 : Int32) tba_8 tal_9 tro tsc tcl_10 H locs ls 114 dX5_start_114 rfl ⟨hP, hD, hS⟩ hm

set_option maxHeartbeats 4000000 in
set_option maxRecDepth 100000 in
theorem k_X5_start_11 {N : Nat} {ss : Int32} {ds : Int32} {ti : Nat → Int32} {co : Int32} {oma : Nat → Int32} {obr : Int32} {obj : Int32} {obo : Int32} {obm : Int32} {plo : Nat → Int32} {pch : Nat → Int32} {pbe : Nat → Int32} {pbl : Int32} {dnu : Nat → Int32} {dde : Nat → Int32} {dbo : Int32} {dln : Int32} {dld : Int32} {rma : Nat → Int32} {Q : Int32 → (Nat → Int32) → (Nat → Int32) → Int32 → Int64 → (Nat → Nat → Int64) → Prop} (C0 : cxM cX5_start 6 (some .boolean) RX5 wsX5_start p s m args meth c dC dI cy A) :
    ∀ (n : Nat) (x2 : Int32) (x3 : Int32) (x4 : Int32) (tba : Nat → Int32) (tal : Nat → Int32) (tro : Int32) (tsc : Int64) (tcl : Nat → Nat → Int64) (H : Heap) (locs : List Loc) (ls : Array Slot) (hm : p_X5_start_11 N ti co Q n x2 x3 x4 tba tal tro tsc tcl) (hSt : stC dC dI A s (wC ad cy ss ds ti co oma obr obj obo obm plo pch pbe pbl dnu dde dbo dln dld tba tal tro tsc tcl rma) H locs) (hl : lv_has ls 6 [(0, .ref (ad 12)), (1, .ref (ad 1)), (2, .int x2), (3, .int x3), (4, .int x4)]) (hret : ∀ (r : Int32) (tba : Nat → Int32) (tal : Nat → Int32) (tro : Int32) (tsc : Int64) (tcl : Nat → Nat → Int64) (H : Heap) (locs : List Loc) (ls : Array Slot) (pc : Nat), decode cX5_start pc = .ok (.ireturn, 1) → narrow .boolean (.int r) = .int r → stC dC dI A s (wC ad cy ss ds ti co oma obr obj obo obm plo pch pbe pbl dnu dde dbo dln dld tba tal tro tsc tcl rma) H locs → Q r tba tal tro tsc tcl → W p l e rmX5_start s m args below meth c H locs 0 0 Z (F0 m pc ls [.int r])), W p l e rmX5_start s m args below meth c H locs 0 0 Z (F0 m 11 ls []) := by
  obtain ⟨hx, hb, hml, hr, hown, hts, hlocks, hK, hA, hN⟩ := id C0
  intro n
  induction n with
  | zero => intro x2 x3 x4 tba tal tro tsc tcl H locs ls hm; exact False.elim hm
  | succ n ih =>
    intro x2 x3 x4 tba tal tro tsc tcl H locs ls hm hSt hl hret
    obtain ⟨hP, hD, hS⟩ := hSt
    unfold p_X5_start_11 at hm
    refine lv_iload hx hb dX5_start_11 (lv_at hl 4 rfl) ?_
    refine lv_iconst (v := 3) hx hb dX5_start_13 (by decide) ?_
    refine lv_icmp_ge (tgt := 83) hx hb dX5_start_14 (by decide) (fun c_1 => ?_) (fun c_1 => ?_)
    · have hm := hm.1 c_1
      refine lv_iconst (v := 0) hx hb dX5_start_83 (by decide) ?_
      refine lv_istore (lv' := [(4, .int (0 : Int32)), (0, .ref (ad 12)), (1, .ref (ad 1)), (2, .int x2), (3, .int x3)]) hx hb dX5_start_84 hl (by decide) rfl (fun ls hl => ?_)
      exact k_X5_start_86 C0 N x3 (0 : Int32) tba tal tro tsc tcl H locs ls hm ⟨hP, hD, hS⟩ (lv_sub hl [1, 2, 4, 0] rfl) hret
    · have hm := hm.2 c_1
      refine lv_bipush (v := 21) hx hb dX5_start_17 (by decide) ?_
      refine lv_iload hx hb dX5_start_19 (lv_at hl 4 rfl) ?_
      refine lv_iadd hx hb dX5_start_21 ?_
      refine lv_topi (fun x5_2 ex5_2 => ?_)
      have hm := hm x5_2 ex5_2
      refine lv_istore (lv' := [(5, .int x5_2), (0, .ref (ad 12)), (1, .ref (ad 1)), (2, .int x2), (3, .int x3), (4, .int x4)]) hx hb dX5_start_22 hl (by decide) rfl (fun ls hl => ?_)
      refine lv_aload_n hx hb dX5_start_24 rfl (lv_at hl 1 rfl) ?_
      refine va_get (D := (dC, dI)) (ci := 5) (v := .ref (ad 13)) (C := RX5) (T := TX5) (N := 5) hx hb hts in_X5_start_X5 hown hK hP 12 rfl rfl 0 (by decide) (hts _ fl_X5_start_13) (fun _ h9 => h9) rfl dX5_start_25 ?_
      refine lv_iload hx hb dX5_start_28 (lv_at hl 5 rfl) ?_
      have hi_3 := hm.1
      have hm := hm.2
      refine wC_aald hx hb hK hP hi_3 dX5_start_30 ?_
      refine lv_iload hx hb dX5_start_31 (lv_at hl 0 rfl) ?_
      refine lv_lconst (v := 1) hx hb dX5_start_33 (by decide) ?_
      have hi_4 := hm.1
      have hm := hm.2
      refine va_last hx hb hK hP hD hS _ 1 (wC_row hi_3) rfl hi_4 dX5_start_34 (fun H locs hP hD hS => ?_)
      rw [wC_set hi_3] at hP hD
      have hP : va_P (dC, dI) vwCl (wC ad cy ss ds ti co oma obr obj obo obm plo pch pbe pbl dnu dde dbo dln dld tba tal tro tsc (upR tcl (x4).toNatClampNeg (vp_updL (tcl (x4).toNatClampNeg) (x5_2).toNatClampNeg (1 : Int64))) rma) H := hP
      have hD : va_D A (wC ad cy ss ds ti co oma obr obj obo obm plo pch pbe pbl dnu dde dbo dln dld tba tal tro tsc (upR tcl (x4).toNatClampNeg (vp_updL (tcl (x4).toNatClampNeg) (x5_2).toNatClampNeg (1 : Int64))) rma) := hD
      refine lv_aload_n hx hb dX5_start_35 rfl (lv_at hl 1 rfl) ?_
      refine va_get (D := (dC, dI)) (ci := 5) (v := .ref (ad 13)) (C := RX5) (T := TX5) (N := 5) hx hb hts in_X5_start_X5 hown hK hP 12 rfl rfl 0 (by decide) (hts _ fl_X5_start_13) (fun _ h9 => h9) rfl dX5_start_36 ?_
      refine lv_iload hx hb dX5_start_39 (lv_at hl 5 rfl) ?_
      have hi_5 := hm.1
      have hm := hm.2
      refine wC_aald hx hb hK hP hi_5 dX5_start_41 ?_
      refine lv_bipush (v := 24) hx hb dX5_start_42 (by decide) ?_
      refine lv_ldc2 (v := -1) hx hb hown (hts (.constantLong RX5 34 (-1)) (by decide +kernel)) dX5_start_44 ?_
      refine va_last hx hb hK hP hD hS _ 1 (wC_row hi_5) rfl (vp_in_iff.mpr (by decide)) dX5_start_47 (fun H locs hP hD hS => ?_)
      rw [wC_set hi_5] at hP hD
      have hP : va_P (dC, dI) vwCl (wC ad cy ss ds ti co oma obr obj obo obm plo pch pbe pbl dnu dde dbo dln dld tba tal tro tsc (upR (upR tcl (x4).toNatClampNeg (vp_updL (tcl (x4).toNatClampNeg) (x5_2).toNatClampNeg (1 : Int64))) (x4).toNatClampNeg (vp_updL ((upR tcl (x4).toNatClampNeg (vp_updL (tcl (x4).toNatClampNeg) (x5_2).toNatClampNeg (1 : Int64))) (x4).toNatClampNeg) ((24 : Int32)).toNatClampNeg (-1 : Int64))) rma) H := hP
      have hD : va_D A (wC ad cy ss ds ti co oma obr obj obo obm plo pch pbe pbl dnu dde dbo dln dld tba tal tro tsc (upR (upR tcl (x4).toNatClampNeg (vp_updL (tcl (x4).toNatClampNeg) (x5_2).toNatClampNeg (1 : Int64))) (x4).toNatClampNeg (vp_updL ((upR tcl (x4).toNatClampNeg (vp_updL (tcl (x4).toNatClampNeg) (x5_2).toNatClampNeg (1 : Int64))) (x4).toNatClampNeg) ((24 : Int32)).toNatClampNeg (-1 : Int64))) rma) := hD
      refine lv_aload_n hx hb dX5_start_48 rfl (lv_at hl 1 rfl) ?_
      refine va_get (D := (dC, dI)) (ci := 5) (v := .ref (ad 13)) (C := RX5) (T := TX5) (N := 5) hx hb hts in_X5_start_X5 hown hK hP 12 rfl rfl 0 (by decide) (hts _ fl_X5_start_13) (fun _ h9 => h9) rfl dX5_start_49 ?_
      refine lv_iload hx hb dX5_start_52 (lv_at hl 5 rfl) ?_
      have hi_6 := hm.1
      have hm := hm.2
      refine wC_aald hx hb hK hP hi_6 dX5_start_54 ?_
      refine lv_bipush (v := 25) hx hb dX5_start_55 (by decide) ?_
      refine lv_iload_n hx hb dX5_start_57 rfl (lv_at hl 3 rfl) ?_
      refine lv_i2l (v := (x2).toInt64) hx hb dX5_start_58 rfl ?_
      refine lv_topl (fun f_7 ef_7 => ?_)
      have hm := hm f_7 ef_7
      refine va_last hx hb hK hP hD hS _ 1 (wC_row hi_6) rfl (vp_in_iff.mpr (by decide)) dX5_start_59 (fun H locs hP hD hS => ?_)
      rw [wC_set hi_6] at hP hD
      have hP : va_P (dC, dI) vwCl (wC ad cy ss ds ti co oma obr obj obo obm plo pch pbe pbl dnu dde dbo dln dld tba tal tro tsc (upR (upR (upR tcl (x4).toNatClampNeg (vp_updL (tcl (x4).toNatClampNeg) (x5_2).toNatClampNeg (1 : Int64))) (x4).toNatClampNeg (vp_updL ((upR tcl (x4).toNatClampNeg (vp_updL (tcl (x4).toNatClampNeg) (x5_2).toNatClampNeg (1 : Int64))) (x4).toNatClampNeg) ((24 : Int32)).toNatClampNeg (-1 : Int64))) (x4).toNatClampNeg (vp_updL ((upR (upR tcl (x4).toNatClampNeg (vp_updL (tcl (x4).toNatClampNeg) (x5_2).toNatClampNeg (1 : Int64))) (x4).toNatClampNeg (vp_updL ((upR tcl (x4).toNatClampNeg (vp_updL (tcl (x4).toNatClampNeg) (x5_2).toNatClampNeg (1 : Int64))) (x4).toNatClampNeg) ((24 : Int32)).toNatClampNeg (-1 : Int64))) (x4).toNatClampNeg) ((25 : Int32)).toNatClampNeg f_7)) rma) H := hP
      have hD : va_D A (wC ad cy ss ds ti co oma obr obj obo obm plo pch pbe pbl dnu dde dbo dln dld tba tal tro tsc (upR (upR (upR tcl (x4).toNatClampNeg (vp_updL (tcl (x4).toNatClampNeg) (x5_2).toNatClampNeg (1 : Int64))) (x4).toNatClampNeg (vp_updL ((upR tcl (x4).toNatClampNeg (vp_updL (tcl (x4).toNatClampNeg) (x5_2).toNatClampNeg (1 : Int64))) (x4).toNatClampNeg) ((24 : Int32)).toNatClampNeg (-1 : Int64))) (x4).toNatClampNeg (vp_updL ((upR (upR tcl (x4).toNatClampNeg (vp_updL (tcl (x4).toNatClampNeg) (x5_2).toNatClampNeg (1 : Int64))) (x4).toNatClampNeg (vp_updL ((upR tcl (x4).toNatClampNeg (vp_updL (tcl (x4).toNatClampNeg) (x5_2).toNatClampNeg (1 : Int64))) (x4).toNatClampNeg) ((24 : Int32)).toNatClampNeg (-1 : Int64))) (x4).toNatClampNeg) ((25 : Int32)).toNatClampNeg f_7)) rma) := hD
      refine lv_aload_n hx hb dX5_start_60 rfl (lv_at hl 1 rfl) ?_
      refine va_get (D := (dC, dI)) (ci := 5) (v := .ref (ad 14)) (C := RX5) (T := TX5) (N := 5) hx hb hts in_X5_start_X5 hown hK hP 12 rfl rfl 1 (by decide) (hts _ fl_X5_start_16) (fun _ h9 => h9) rfl dX5_start_61 ?_
      refine lv_iload hx hb dX5_start_64 (lv_at hl 5 rfl) ?_
      refine lv_iload hx hb dX5_start_66 (lv_at hl 0 rfl) ?_
      have hi_8 := hm.1
      have hm := hm.2
      refine va_iast hx hb hK hP hD hS 14 0 rfl rfl hi_8 dX5_start_68 (fun H locs hP hD hS => ?_)
      have hP : va_P (dC, dI) vwCl (wC ad cy ss ds ti co oma obr obj obo obm plo pch pbe pbl dnu dde dbo dln dld (upd tba (x4).toNatClampNeg x5_2) tal tro tsc (upR (upR (upR tcl (x4).toNatClampNeg (vp_updL (tcl (x4).toNatClampNeg) (x5_2).toNatClampNeg (1 : Int64))) (x4).toNatClampNeg (vp_updL ((upR tcl (x4).toNatClampNeg (vp_updL (tcl (x4).toNatClampNeg) (x5_2).toNatClampNeg (1 : Int64))) (x4).toNatClampNeg) ((24 : Int32)).toNatClampNeg (-1 : Int64))) (x4).toNatClampNeg (vp_updL ((upR (upR tcl (x4).toNatClampNeg (vp_updL (tcl (x4).toNatClampNeg) (x5_2).toNatClampNeg (1 : Int64))) (x4).toNatClampNeg (vp_updL ((upR tcl (x4).toNatClampNeg (vp_updL (tcl (x4).toNatClampNeg) (x5_2).toNatClampNeg (1 : Int64))) (x4).toNatClampNeg) ((24 : Int32)).toNatClampNeg (-1 : Int64))) (x4).toNatClampNeg) ((25 : Int32)).toNatClampNeg f_7)) rma) H := hP
      have hD : va_D A (wC ad cy ss ds ti co oma obr obj obo obm plo pch pbe pbl dnu dde dbo dln dld (upd tba (x4).toNatClampNeg x5_2) tal tro tsc (upR (upR (upR tcl (x4).toNatClampNeg (vp_updL (tcl (x4).toNatClampNeg) (x5_2).toNatClampNeg (1 : Int64))) (x4).toNatClampNeg (vp_updL ((upR tcl (x4).toNatClampNeg (vp_updL (tcl (x4).toNatClampNeg) (x5_2).toNatClampNeg (1 : Int64))) (x4).toNatClampNeg) ((24 : Int32)).toNatClampNeg (-1 : Int64))) (x4).toNatClampNeg (vp_updL ((upR (upR tcl (x4).toNatClampNeg (vp_updL (tcl (x4).toNatClampNeg) (x5_2).toNatClampNeg (1 : Int64))) (x4).toNatClampNeg (vp_updL ((upR tcl (x4).toNatClampNeg (vp_updL (tcl (x4).toNatClampNeg) (x5_2).toNatClampNeg (1 : Int64))) (x4).toNatClampNeg) ((24 : Int32)).toNatClampNeg (-1 : Int64))) (x4).toNatClampNeg) ((25 : Int32)).toNatClampNeg f_7)) rma) := hD
      refine lv_aload_n hx hb dX5_start_69 rfl (lv_at hl 1 rfl) ?_
      refine va_get (D := (dC, dI)) (ci := 5) (v := .ref (ad 15)) (C := RX5) (T := TX5) (N := 5) hx hb hts in_X5_start_X5 hown hK hP 12 rfl rfl 2 (by decide) (hts _ fl_X5_start_20) (fun _ h9 => h9) rfl dX5_start_70 ?_
      refine lv_iload hx hb dX5_start_73 (lv_at hl 0 rfl) ?_
      refine lv_iconst (v := 1) hx hb dX5_start_75 (by decide) ?_
      have hi_9 := hm.1
      have hm := hm.2
      refine va_zast hx hb hK hP hD hS 15 2 rfl rfl hi_9 dX5_start_76 (fun H locs hP hD hS => ?_)
      have hP : va_P (dC, dI) vwCl (wC ad cy ss ds ti co oma obr obj obo obm plo pch pbe pbl dnu dde dbo dln dld (upd tba (x4).toNatClampNeg x5_2) (upd tal (x5_2).toNatClampNeg (vp_nar .boolean (1 : Int32))) tro tsc (upR (upR (upR tcl (x4).toNatClampNeg (vp_updL (tcl (x4).toNatClampNeg) (x5_2).toNatClampNeg (1 : Int64))) (x4).toNatClampNeg (vp_updL ((upR tcl (x4).toNatClampNeg (vp_updL (tcl (x4).toNatClampNeg) (x5_2).toNatClampNeg (1 : Int64))) (x4).toNatClampNeg) ((24 : Int32)).toNatClampNeg (-1 : Int64))) (x4).toNatClampNeg (vp_updL ((upR (upR tcl (x4).toNatClampNeg (vp_updL (tcl (x4).toNatClampNeg) (x5_2).toNatClampNeg (1 : Int64))) (x4).toNatClampNeg (vp_updL ((upR tcl (x4).toNatClampNeg (vp_updL (tcl (x4).toNatClampNeg) (x5_2).toNatClampNeg (1 : Int64))) (x4).toNatClampNeg) ((24 : Int32)).toNatClampNeg (-1 : Int64))) (x4).toNatClampNeg) ((25 : Int32)).toNatClampNeg f_7)) rma) H := hP
      have hD : va_D A (wC ad cy ss ds ti co oma obr obj obo obm plo pch pbe pbl dnu dde dbo dln dld (upd tba (x4).toNatClampNeg x5_2) (upd tal (x5_2).toNatClampNeg (vp_nar .boolean (1 : Int32))) tro tsc (upR (upR (upR tcl (x4).toNatClampNeg (vp_updL (tcl (x4).toNatClampNeg) (x5_2).toNatClampNeg (1 : Int64))) (x4).toNatClampNeg (vp_updL ((upR tcl (x4).toNatClampNeg (vp_updL (tcl (x4).toNatClampNeg) (x5_2).toNatClampNeg (1 : Int64))) (x4).toNatClampNeg) ((24 : Int32)).toNatClampNeg (-1 : Int64))) (x4).toNatClampNeg (vp_updL ((upR (upR tcl (x4).toNatClampNeg (vp_updL (tcl (x4).toNatClampNeg) (x5_2).toNatClampNeg (1 : Int64))) (x4).toNatClampNeg (vp_updL ((upR tcl (x4).toNatClampNeg (vp_updL (tcl (x4).toNatClampNeg) (x5_2).toNatClampNeg (1 : Int64))) (x4).toNatClampNeg) ((24 : Int32)).toNatClampNeg (-1 : Int64))) (x4).toNatClampNeg) ((25 : Int32)).toNatClampNeg f_7)) rma) := hD
      obtain ⟨x4_10, ex4_10⟩ : ∃ y : Int32, y = x4 + (1 : Int32) := ⟨_, rfl⟩
      have hm := hm x4_10 ex4_10
      refine lv_iinc (v := x4_10) (lv' := [(4, .int x4_10), (5, .int x5_2), (0, .ref (ad 12)), (1, .ref (ad 1)), (2, .int x2), (3, .int x3)]) hx hb dX5_start_77 hl (k := 5) rfl (by rw [ex4_10]; rfl) (by decide) rfl (fun ls hl => ?_)
      refine lv_goto (tgt := 11) hx hb dX5_start_80 (by decide) ?_
      exact ih x2 x3 x4_10 (upd tba (x4).toNatClampNeg x5_2) (upd tal (x5_2).toNatClampNeg (vp_nar .boolean (1 : Int32))) tro tsc (upR (upR (upR tcl (x4).toNatClampNeg (vp_updL (tcl (x4).toNatClampNeg) (x5_2).toNatClampNeg (1 : Int64))) (x4).toNatClampNeg (vp_updL ((upR tcl (x4).toNatClampNeg (vp_updL (tcl (x4).toNatClampNeg) (x5_2).toNatClampNeg (1 : Int64))) (x4).toNatClampNeg) ((24 : Int32)).toNatClampNeg (-1 : Int64))) (x4).toNatClampNeg (vp_updL ((upR (upR tcl (x4).toNatClampNeg (vp_updL (tcl (x4).toNatClampNeg) (x5_2).toNatClampNeg (1 : Int64))) (x4).toNatClampNeg (vp_updL ((upR tcl (x4).toNatClampNeg (vp_updL (tcl (x4).toNatClampNeg) (x5_2).toNatClampNeg (1 : Int64))) (x4).toNatClampNeg) ((24 : Int32)).toNatClampNeg (-1 : Int64))) (x4).toNatClampNeg) ((25 : Int32)).toNatClampNeg f_7)) H locs ls hm ⟨hP, hD, hS⟩ (lv_sub hl [2, 3, 4, 5, 0] rfl) hret

set_option maxHeartbeats 4000000 in
set_option maxRecDepth 100000 in
theorem k_X5_start_0 {N : Nat} {ss : Int32} {ds : Int32} {ti : Nat → Int32} {co : Int32} {oma : Nat → Int32} {obr : Int32} {obj : Int32} {obo : Int32} {obm : Int32} {plo : Nat → Int32} {pch : Nat → Int32} {pbe : Nat → Int32} {pbl : Int32} {dnu : Nat → Int32} {dde : Nat → Int32} {dbo : Int32} {dln : Int32} {dld : Int32} {rma : Nat → Int32} {Q : Int32 → (Nat → Int32) → (Nat → Int32) → Int32 → Int64 → (Nat → Nat → Int64) → Prop} (C0 : cxM cX5_start 6 (some .boolean) RX5 wsX5_start p s m args meth c dC dI cy A) :
    ∀ (x2 : Int32) (x3 : Int32) (tba : Nat → Int32) (tal : Nat → Int32) (tro : Int32) (tsc : Int64) (tcl : Nat → Nat → Int64) (H : Heap) (locs : List Loc) (ls : Array Slot) (hm : p_X5_start N ti co Q x2 x3 tba tal tro tsc tcl) (hSt : stC dC dI A s (wC ad cy ss ds ti co oma obr obj obo obm plo pch pbe pbl dnu dde dbo dln dld tba tal tro tsc tcl rma) H locs) (hl : lv_has ls 6 [(0, .ref (ad 12)), (1, .ref (ad 1)), (2, .int x2), (3, .int x3)]) (hret : ∀ (r : Int32) (tba : Nat → Int32) (tal : Nat → Int32) (tro : Int32) (tsc : Int64) (tcl : Nat → Nat → Int64) (H : Heap) (locs : List Loc) (ls : Array Slot) (pc : Nat), decode cX5_start pc = .ok (.ireturn, 1) → narrow .boolean (.int r) = .int r → stC dC dI A s (wC ad cy ss ds ti co oma obr obj obo obm plo pch pbe pbl dnu dde dbo dln dld tba tal tro tsc tcl rma) H locs → Q r tba tal tro tsc tcl → W p l e rmX5_start s m args below meth c H locs 0 0 Z (F0 m pc ls [.int r])), W p l e rmX5_start s m args below meth c H locs 0 0 Z (F0 m 0 ls []) := by
  obtain ⟨hx, hb, hml, hr, hown, hts, hlocks, hK, hA, hN⟩ := id C0
  intro x2 x3 tba tal tro tsc tcl H locs ls hm hSt hl hret
  obtain ⟨hP, hD, hS⟩ := hSt
  unfold p_X5_start at hm
  refine lv_aload_n hx hb dX5_start_0 rfl (lv_at hl 0 rfl) ?_
  refine lv_aload_n hx hb dX5_start_1 rfl (lv_at hl 1 rfl) ?_
  refine va_getN (D := (dC, dI)) (ci := 1) (v := .int co) (C := RX1) (T := TX1) (N := 2) hx hb hts in_X5_start_X1 hown hK hP 1 rfl rfl 1 (by decide) (va_Nw.use rfl (nw_X5_24 hN)) (fun _ h9 => h9) rfl dX5_start_2 ?_
  have hFc := va_freeSame hD hS hA
  refine va_callv (va_runV (As := [.int co]) (rest := []) ⟨hx, hb, hml, hown, hts⟩ (c_X5_clear l dC dI cy ad H.size ss ds ti co oma obr obj obo obm plo pch pbe pbl dnu dde dbo dln dld tba tal tro tsc tcl rma co _ _ hm) (cwV 1 hts gX5_start_X5_clear rfl rfl rfl (by decide +kernel) ⟨Nat.le_of_ble_eq_true rfl, Nat.le_of_ble_eq_true rfl⟩) ⟨cPre_blind, va_recv hK hP (ci := 5) (q0 := 12) rfl rfl, fun U hU hW => ⟨rfl, cPre_at hP hK hD hN hU hW⟩⟩ rfl rfl hl.1 rfl (lv_room (Nat.le_of_ble_eq_true rfl)) dX5_start_5 ⟨Nat.zero_le _, Nat.zero_le _⟩) hS (fun q _ h => hFc q h) hFc (fun u t H locs ht hvm hw hB hz1 hk1 hS => ?_)
  obtain ⟨tba_1, tal_2, tro_3, tsc_4, tcl_5⟩ := u
  try dsimp only at hw
  have hm := hw
  have hP : va_P (dC, dI) vwCl (wC ad cy ss ds ti co oma obr obj obo obm plo pch pbe pbl dnu dde dbo dln dld tba_1 tal_2 tro_3 tsc_4 tcl_5 rma) H := cPost_P ht hB
  have hD : va_D A (wC ad cy ss ds ti co oma obr obj obo obm plo pch pbe pbl dnu dde dbo dln dld tba_1 tal_2 tro_3 tsc_4 tcl_5 rma) := cPost_D hFc hB
  refine lv_iconst (v := 0) hx hb dX5_start_8 (by decide) ?_
  refine lv_istore (lv' := [(4, .int (0 : Int32)), (0, .ref (ad 12)), (1, .ref (ad 1)), (2, .int x2), (3, .int x3)]) hx hb dX5_start_9 hl (by decide) rfl (fun ls hl => ?_)
  exact k_X5_start_11 C0 N x2 x3 (0 : Int32) tba_1 tal_2 tro_3 tsc_4 tcl_5 H locs ls hm ⟨hP, hD, hS⟩ (lv_sub hl [1, 2, 3, 4, 0] rfl) hret

set_option maxHeartbeats 4000000 in
set_option maxRecDepth 100000 in
theorem c_X5_start (l : Launch) (dC : Nat → ClassId) (dI : Nat → Nat → Nat) (cy : Nat → ClassId) (ad : Nat → Nat) (sz : Nat) (ss : Int32) (ds : Int32) (ti : Nat → Int32) (co : Int32) (oma : Nat → Int32) (obr : Int32) (obj : Int32) (obo : Int32) (obm : Int32) (plo : Nat → Int32) (pch : Nat → Int32) (pbe : Nat → Int32) (pbl : Int32) (dnu : Nat → Int32) (dde : Nat → Int32) (dbo : Int32) (dln : Int32) (dld : Int32) (tba : Nat → Int32) (tal : Nat → Int32) (tro : Int32) (tsc : Int64) (tcl : Nat → Nat → Int64) (rma : Nat → Int32) (x2 : Int32) (x3 : Int32) (N : Nat) (Q : Int32 → (Nat → Int32) → (Nat → Int32) → Int32 → Int64 → (Nat → Nat → Int64) → Prop) (hm : p_X5_start N ti co Q x2 x3 tba tal tro tsc tcl) : Met l yX5_start wsX5_start rmX5_start (va_Pc [.ref (ad 12), .ref (ad 1), .int x2, .int x3] (cPre dC dI cy (wC ad cy ss ds ti co oma obr obj obo obm plo pch pbe pbl dnu dde dbo dln dld tba tal tro tsc tcl rma) sz)) (va_Qi (fun (r : Int32) (u : (Nat → Int32) × (Nat → Int32) × Int32 × Int64 × (Nat → Nat → Int64)) => Q r u.1 u.2.1 u.2.2.1 u.2.2.2.1 u.2.2.2.2 ∧ narrow .boolean (.int r) = .int r) (fun u t => cPost dC dI cy (wC ad cy ss ds ti co oma obr obj obo obm plo pch pbe pbl dnu dde dbo dln dld tba tal tro tsc tcl rma) sz (wC ad cy ss ds ti co oma obr obj obo obm plo pch pbe pbl dnu dde dbo dln dld (u.1) (u.2.1) (u.2.2.1) (u.2.2.2.1) (u.2.2.2.2) rma) t) (va_A (wC ad cy ss ds ti co oma obr obj obo obm plo pch pbe pbl dnu dde dbo dln dld tba tal tro tsc tcl rma) sz)) 0 0 (va_A (wC ad cy ss ds ti co oma obr obj obo obm plo pch pbe pbl dnu dde dbo dln dld tba tal tro tsc tcl rma) sz) := by
  refine Met.ofW (cc := cX5_start) (maxL := 6) (ret := (some .boolean)) (by decide) rfl ?_
  intro p e s m args below meth c s₁ B hml hv
  obtain ⟨rfl, hsz, hP, hK, hD0, hN⟩ := hv
  have hts := atoms_spec (ws := wsX5_start) B.pre
  have hown : s.vm.findClass RX5 = some m.cls := findClass_of_methodNamed B.named
  subst hsz
  have hD := hD0.self (sz := s.heap.size)
  generalize hAe : va_A (wC ad cy ss ds ti co oma obr obj obo obm plo pch pbe pbl dnu dde dbo dln dld tba tal tro tsc tcl rma) s.heap.size = A at hD ⊢
  have hA : ∀ q : Nat, s.heap.size ≤ q → A q := fun q h => by rw [← hAe]; exact Or.inr h
  have hl := lv_entry ([.ref (ad 12), .ref (ad 1), .int x2, .int x3]) (n := 6) (Nat.le_of_ble_eq_true rfl)
  rw [lg_entry_eq]
  generalize (lg_sl ([.ref (ad 12), .ref (ad 1), .int x2, .int x3]) ++ List.replicate (6 - (lg_sl ([.ref (ad 12), .ref (ad 1), .int x2, .int x3])).length) Slot.unset).toArray = ls at hl ⊢
  have hl : lv_has ls 6 [(0, .ref (ad 12)), (1, .ref (ad 1)), (2, .int x2), (3, .int x3)] := hl
  exact k_X5_start_0 ⟨B.exec, B.bytes, hml, B.returns, hown, hts, B.notSynchronized, hK, hA, hN⟩ x2 x3 tba tal tro tsc tcl s.heap [] ls hm ⟨hP, hD, va_S.rf⟩ (lv_sub hl [0, 1, 2, 3] rfl) (fun r tba tal tro tsc tcl H locs ls pc hdg hn hSt hq => W.zret B.exec B.bytes B.returns hn (fun t ht hW => ⟨⟨r, (tba, tal, tro, tsc, tcl), rfl, ⟨hq, hn⟩, cPost_of hAe ht hW.alike hSt hK⟩, hSt.2.2.F ht⟩) hSt.2.2.2.2 hdg B.notSynchronized)
