variable {p : Program} {l : Launch} {e : Env} {s : State} {m : MethodId} {args : Array Value} {below : List Frame} {meth : Method} {c : Code} {dC : Nat → ClassId} {dI : Nat → Nat → Nat} {cy : Nat → ClassId} {ad : Nat → Nat} {A : Nat → Prop} {Z : State → Prop}
-- ===== X6_requireJob, where it does not throw
abbrev rm0X6_requireJob : Room := { frames := 1, cells := 0, slots := 0, locals := 62 }
set_option maxHeartbeats 4000000 in
set_option maxRecDepth 100000 in
theorem k0_X6_requireJob_0 {N : Nat} {ss : Int32} {ds : Int32} {ti : Nat → Int32} {co : Int32} {oma : Nat → Int32} {obr : Int32} {obj : Int32} {obo : Int32} {obm : Int32} {plo : Nat → Int32} {pch : Nat → Int32} {pbe : Nat → Int32} {pbl : Int32} {dnu : Nat → Int32} {dde : Nat → Int32} {dbo : Int32} {dln : Int32} {dld : Int32} {tba : Nat → Int32} {tal : Nat → Int32} {tro : Int32} {tsc : Int64} {tcl : Nat → Nat → Int64} {rma : Nat → Int32} {Q : Prop} (C0 : cxM cX6_requireJob 2 none RX6 wsX6_requireJob p s m args meth c dC dI cy A) :
    ∀ (x1 : Int32) (H : Heap) (locs : List Loc) (ls : Array Slot) (hm : p_X6_requireJob N co Q (fun (_ : String) => False) x1) (hSt : stC dC dI A s (wC ad cy ss ds ti co oma obr obj obo obm plo pch pbe pbl dnu dde dbo dln dld tba tal tro tsc tcl rma) H locs) (hl : lv_has ls 2 [(0, .ref (ad 0)), (1, .int x1)]) (hret : ∀ (H : Heap) (locs : List Loc) (ls : Array Slot) (pc : Nat), decode cX6_requireJob pc = .ok (.return_, 1) → stC dC dI A s (wC ad cy ss ds ti co oma obr obj obo obm plo pch pbe pbl dnu dde dbo dln dld tba tal tro tsc tcl rma) H locs → Q → W p l e rm0X6_requireJob s m args below meth c H locs 0 0 Z (F0 m pc ls [])), W p l e rm0X6_requireJob s m args below meth c H locs 0 0 Z (F0 m 0 ls []) := by
  obtain ⟨hx, hb, hml, hr, hown, hts, hlocks, hK, hA, hN⟩ := id C0
  intro x1 H locs ls hm hSt hl hret
  obtain ⟨hP, hD, hS⟩ := hSt
  unfold p_X6_requireJob at hm
  refine lv_iload_n hx hb dX6_requireJob_0 rfl (lv_at hl 1 rfl) ?_
  refine lv_if_lt (tgt := 21) hx hb dX6_requireJob_1 (by decide) (fun c_1 => ?_) (fun c_1 => ?_)
  · have hm := hm.1 c_1
    exact False.elim hm
  · have hm := hm.2 c_1
    refine lv_iload_n hx hb dX6_requireJob_4 rfl (lv_at hl 1 rfl) ?_
    refine lv_aload_n hx hb dX6_requireJob_5 rfl (lv_at hl 0 rfl) ?_
    refine va_get (D := (dC, dI)) (ci := 6) (v := .ref (ad 1)) (C := RX6) (T := TX6) (N := 7) hx hb hts in_X6_requireJob_X6 hown hK hP 0 rfl rfl 0 (by decide) (hts _ fl_X6_requireJob_12) (fun _ h9 => h9) rfl dX6_requireJob_6 ?_
    refine va_getN (D := (dC, dI)) (ci := 1) (v := .int co) (C := RX1) (T := TX1) (N := 2) hx hb hts in_X6_requireJob_X1 hown hK hP 1 rfl rfl 1 (by decide) (va_Nw.use rfl (nw_X6_57 hN)) (fun _ h9 => h9) rfl dX6_requireJob_9 ?_
    refine lv_icmp_ge (tgt := 21) hx hb dX6_requireJob_12 (by decide) (fun c_2 => ?_) (fun c_2 => ?_)
    · have hm := hm.1 c_2
      exact False.elim hm
    · have hm := hm.2 c_2
      refine lv_iload_n hx hb dX6_requireJob_15 rfl (lv_at hl 1 rfl) ?_
      refine lv_bipush (v := 7) hx hb dX6_requireJob_16 (by decide) ?_
      refine lv_icmp_lt (tgt := 31) hx hb dX6_requireJob_18 (by decide) (fun c_3 => ?_) (fun c_3 => ?_)
      · have hm := hm.1 c_3
        exact hret  H locs ls 31 dX6_requireJob_31 ⟨hP, hD, hS⟩ hm
      · have hm := hm.2 c_3
        exact False.elim hm

set_option maxHeartbeats 4000000 in
set_option maxRecDepth 100000 in
theorem c0_X6_requireJob (l : Launch) (dC : Nat → ClassId) (dI : Nat → Nat → Nat) (cy : Nat → ClassId) (ad : Nat → Nat) (sz : Nat) (ss : Int32) (ds : Int32) (ti : Nat → Int32) (co : Int32) (oma : Nat → Int32) (obr : Int32) (obj : Int32) (obo : Int32) (obm : Int32) (plo : Nat → Int32) (pch : Nat → Int32) (pbe : Nat → Int32) (pbl : Int32) (dnu : Nat → Int32) (dde : Nat → Int32) (dbo : Int32) (dln : Int32) (dld : Int32) (tba : Nat → Int32) (tal : Nat → Int32) (tro : Int32) (tsc : Int64) (tcl : Nat → Nat → Int64) (rma : Nat → Int32) (x1 : Int32) (N : Nat) (Q : Prop) (hm : p_X6_requireJob N co Q (fun (_ : String) => False) x1) : Met l yX6_requireJob wsX6_requireJob rm0X6_requireJob (va_Pc [.ref (ad 0), .int x1] (cPre dC dI cy (wC ad cy ss ds ti co oma obr obj obo obm plo pch pbe pbl dnu dde dbo dln dld tba tal tro tsc tcl rma) sz)) (va_Qv (fun (u : Unit) => Q) (fun u t => cPost dC dI cy (wC ad cy ss ds ti co oma obr obj obo obm plo pch pbe pbl dnu dde dbo dln dld tba tal tro tsc tcl rma) sz (wC ad cy ss ds ti co oma obr obj obo obm plo pch pbe pbl dnu dde dbo dln dld tba tal tro tsc tcl rma) t) (va_A (wC ad cy ss ds ti co oma obr obj obo obm plo pch pbe pbl dnu dde dbo dln dld tba tal tro tsc tcl rma) sz)) 0 0 (va_A (wC ad cy ss ds ti co oma obr obj obo obm plo pch pbe pbl dnu dde dbo dln dld tba tal tro tsc tcl rma) sz) := by
  refine Met.ofW (cc := cX6_requireJob) (maxL := 2) (ret := none) (by decide) rfl ?_
  intro p e s m args below meth c s₁ B hml hv
  obtain ⟨rfl, hsz, hP, hK, hD0, hN⟩ := hv
  have hts := atoms_spec (ws := wsX6_requireJob) B.pre
  have hown : s.vm.findClass RX6 = some m.cls := findClass_of_methodNamed B.named
  subst hsz
  have hD := hD0.self (sz := s.heap.size)
  generalize hAe : va_A (wC ad cy ss ds ti co oma obr obj obo obm plo pch pbe pbl dnu dde dbo dln dld tba tal tro tsc tcl rma) s.heap.size = A at hD ⊢
  have hA : ∀ q : Nat, s.heap.size ≤ q → A q := fun q h => by rw [← hAe]; exact Or.inr h
  have hl := lv_entry ([.ref (ad 0), .int x1]) (n := 2) (Nat.le_of_ble_eq_true rfl)
  rw [lg_entry_eq]
  generalize (lg_sl ([.ref (ad 0), .int x1]) ++ List.replicate (2 - (lg_sl ([.ref (ad 0), .int x1])).length) Slot.unset).toArray = ls at hl ⊢
  have hl : lv_has ls 2 [(0, .ref (ad 0)), (1, .int x1)] := hl
  exact k0_X6_requireJob_0 ⟨B.exec, B.bytes, hml, B.returns, hown, hts, B.notSynchronized, hK, hA, hN⟩ x1 s.heap [] ls hm ⟨hP, hD, va_S.rf⟩ (lv_sub hl [0, 1] rfl) (fun  H locs ls pc hdg hSt hq => W.vret B.exec B.bytes B.returns (fun t ht hW => ⟨⟨(), rfl, hq, cPost_of hAe ht hW.alike hSt hK⟩, hSt.2.2.F ht⟩) hSt.2.2.2.2 hdg B.notSynchronized)

-- ===== X6_requireMachine, where it does not throw
abbrev rm0X6_requireMachine : Room := { frames := 1, cells := 0, slots := 0, locals := 61 }
set_option maxHeartbeats 4000000 in
set_option maxRecDepth 100000 in
theorem k0_X6_requireMachine_0 {N : Nat} {ss : Int32} {ds : Int32} {ti : Nat → Int32} {co : Int32} {oma : Nat → Int32} {obr : Int32} {obj : Int32} {obo : Int32} {obm : Int32} {plo : Nat → Int32} {pch : Nat → Int32} {pbe : Nat → Int32} {pbl : Int32} {dnu : Nat → Int32} {dde : Nat → Int32} {dbo : Int32} {dln : Int32} {dld : Int32} {tba : Nat → Int32} {tal : Nat → Int32} {tro : Int32} {tsc : Int64} {tcl : Nat → Nat → Int64} {rma : Nat → Int32} {Q : Prop} (C0 : cxM cX6_requireMachine 1 none RX6 wsX6_requireMachine p s m args meth c dC dI cy A) :
    ∀ (x0 : Int32) (H : Heap) (locs : List Loc) (ls : Array Slot) (hm : p_X6_requireMachine N Q (fun (_ : String) => False) x0) (hSt : stC dC dI A s (wC ad cy ss ds ti co oma obr obj obo obm plo pch pbe pbl dnu dde dbo dln dld tba tal tro tsc tcl rma) H locs) (hl : lv_has ls 1 [(0, .int x0)]) (hret : ∀ (H : Heap) (locs : List Loc) (ls : Array Slot) (pc : Nat), decode cX6_requireMachine pc = .ok (.return_, 1) → stC dC dI A s (wC ad cy ss ds ti co oma obr obj obo obm plo pch pbe pbl dnu dde dbo dln dld tba tal tro tsc tcl rma) H locs → Q → W p l e rm0X6_requireMachine s m args below meth c H locs 0 0 Z (F0 m pc ls [])), W p l e rm0X6_requireMachine s m args below meth c H locs 0 0 Z (F0 m 0 ls []) := by
  obtain ⟨hx, hb, hml, hr, hown, hts, hlocks, hK, hA, hN⟩ := id C0
  intro x0 H locs ls hm hSt hl hret
  obtain ⟨hP, hD, hS⟩ := hSt
  unfold p_X6_requireMachine at hm
  refine lv_iload_n hx hb dX6_requireMachine_0 rfl (lv_at hl 0 rfl) ?_
  refine lv_if_lt (tgt := 9) hx hb dX6_requireMachine_1 (by decide) (fun c_1 => ?_) (fun c_1 => ?_)
  · have hm := hm.1 c_1
    exact False.elim hm
  · have hm := hm.2 c_1
    refine lv_iload_n hx hb dX6_requireMachine_4 rfl (lv_at hl 0 rfl) ?_
    refine lv_iconst (v := 3) hx hb dX6_requireMachine_5 (by decide) ?_
    refine lv_icmp_lt (tgt := 19) hx hb dX6_requireMachine_6 (by decide) (fun c_2 => ?_) (fun c_2 => ?_)
    · have hm := hm.1 c_2
      exact hret  H locs ls 19 dX6_requireMachine_19 ⟨hP, hD, hS⟩ hm
    · have hm := hm.2 c_2
      exact False.elim hm

set_option maxHeartbeats 4000000 in
set_option maxRecDepth 100000 in
theorem c0_X6_requireMachine (l : Launch) (dC : Nat → ClassId) (dI : Nat → Nat → Nat) (cy : Nat → ClassId) (ad : Nat → Nat) (sz : Nat) (ss : Int32) (ds : Int32) (ti : Nat → Int32) (co : Int32) (oma : Nat → Int32) (obr : Int32) (obj : Int32) (obo : Int32) (obm : Int32) (plo : Nat → Int32) (pch : Nat → Int32) (pbe : Nat → Int32) (pbl : Int32) (dnu : Nat → Int32) (dde : Nat → Int32) (dbo : Int32) (dln : Int32) (dld : Int32) (tba : Nat → Int32) (tal : Nat → Int32) (tro : Int32) (tsc : Int64) (tcl : Nat → Nat → Int64) (rma : Nat → Int32) (x0 : Int32) (N : Nat) (Q : Prop) (hm : p_X6_requireMachine N Q (fun (_ : String) => False) x0) : Met l yX6_requireMachine wsX6_requireMachine rm0X6_requireMachine (va_Pc [.int x0] (cPre dC dI cy (wC ad cy ss ds ti co oma obr obj obo obm plo pch pbe pbl dnu dde dbo dln dld tba tal tro tsc tcl rma) sz)) (va_Qv (fun (u : Unit) => Q) (fun u t => cPost dC dI cy (wC ad cy ss ds ti co oma obr obj obo obm plo pch pbe pbl dnu dde dbo dln dld tba tal tro tsc tcl rma) sz (wC ad cy ss ds ti co oma obr obj obo obm plo pch pbe pbl dnu dde dbo dln dld tba tal tro tsc tcl rma) t) (va_A (wC ad cy ss ds ti co oma obr obj obo obm plo pch pbe pbl dnu dde dbo dln dld tba tal tro tsc tcl rma) sz)) 0 0 (va_A (wC ad cy ss ds ti co oma obr obj obo obm plo pch pbe pbl dnu dde dbo dln dld tba tal tro tsc tcl rma) sz) := by
  refine Met.ofW (cc := cX6_requireMachine) (maxL := 1) (ret := none) (by decide) rfl ?_
  intro p e s m args below meth c s₁ B hml hv
  obtain ⟨rfl, hsz, hP, hK, hD0, hN⟩ := hv
  have hts := atoms_spec (ws := wsX6_requireMachine) B.pre
  have hown : s.vm.findClass RX6 = some m.cls := findClass_of_methodNamed B.named
  subst hsz
  have hD := hD0.self (sz := s.heap.size)
  generalize hAe : va_A (wC ad cy ss ds ti co oma obr obj obo obm plo pch pbe pbl dnu dde dbo dln dld tba tal tro tsc tcl rma) s.heap.size = A at hD ⊢
  have hA : ∀ q : Nat, s.heap.size ≤ q → A q := fun q h => by rw [← hAe]; exact Or.inr h
  have hl := lv_entry ([.int x0]) (n := 1) (Nat.le_of_ble_eq_true rfl)
  rw [lg_entry_eq]
  generalize (lg_sl ([.int x0]) ++ List.replicate (1 - (lg_sl ([.int x0])).length) Slot.unset).toArray = ls at hl ⊢
  have hl : lv_has ls 1 [(0, .int x0)] := hl
  exact k0_X6_requireMachine_0 ⟨B.exec, B.bytes, hml, B.returns, hown, hts, B.notSynchronized, hK, hA, hN⟩ x0 s.heap [] ls hm ⟨hP, hD, va_S.rf⟩ (lv_sub hl [0] rfl) (fun  H locs ls pc hdg hSt hq => W.vret B.exec B.bytes B.returns (fun t ht hW => ⟨⟨(), rfl, hq, cPost_of hAe ht hW.alike hSt hK⟩, hSt.2.2.F ht⟩) hSt.2.2.2.2 hdg B.notSynchronized)

-- ===== X6_time, where it does not throw
abbrev rm0X6_time : Room := { frames := 2, cells := 0, slots := 0, locals := 145 }
set_option maxHeartbeats 4000000 in
set_option maxRecDepth 100000 in
theorem k0_X6_time_0 {N : Nat} {ss : Int32} {ds : Int32} {ti : Nat → Int32} {co : Int32} {oma : Nat → Int32} {obr : Int32} {obj : Int32} {obo : Int32} {obm : Int32} {plo : Nat → Int32} {pch : Nat → Int32} {pbe : Nat → Int32} {pbl : Int32} {dnu : Nat → Int32} {dde : Nat → Int32} {dbo : Int32} {dln : Int32} {dld : Int32} {tba : Nat → Int32} {tal : Nat → Int32} {tro : Int32} {tsc : Int64} {tcl : Nat → Nat → Int64} {rma : Nat → Int32} {Q : Int32 → Prop} (C0 : cxM cX6_time 3 (some .int) RX6 wsX6_time p s m args meth c dC dI cy A) :
    ∀ (x1 : Int32) (x2 : Int32) (H : Heap) (locs : List Loc) (ls : Array Slot) (hm : p_X6_time N ti co Q (fun (_ : String) => False) x1 x2) (hSt : stC dC dI A s (wC ad cy ss ds ti co oma obr obj obo obm plo pch pbe pbl dnu dde dbo dln dld tba tal tro tsc tcl rma) H locs) (hl : lv_has ls 3 [(0, .ref (ad 0)), (1, .int x1), (2, .int x2)]) (hret : ∀ (r : Int32) (H : Heap) (locs : List Loc) (ls : Array Slot) (pc : Nat), decode cX6_time pc = .ok (.ireturn, 1) → stC dC dI A s (wC ad cy ss ds ti co oma obr obj obo obm plo pch pbe pbl dnu dde dbo dln dld tba tal tro tsc tcl rma) H locs → Q r → W p l e rm0X6_time s m args below meth c H locs 0 0 Z (F0 m pc ls [.int r])), W p l e rm0X6_time s m args below meth c H locs 0 0 Z (F0 m 0 ls []) := by
  obtain ⟨hx, hb, hml, hr, hown, hts, hlocks, hK, hA, hN⟩ := id C0
  intro x1 x2 H locs ls hm hSt hl hret
  obtain ⟨hP, hD, hS⟩ := hSt
  unfold p_X6_time at hm
  refine lv_aload_n hx hb dX6_time_0 rfl (lv_at hl 0 rfl) ?_
  refine lv_iload_n hx hb dX6_time_1 rfl (lv_at hl 1 rfl) ?_
  have hFc := va_freeSame hD hS hA
  refine va_callv (va_runV (As := [.int x1]) (rest := []) ⟨hx, hb, hml, hown, hts⟩ (c0_X6_requireJob l dC dI cy ad H.size ss ds ti co oma obr obj obo obm plo pch pbe pbl dnu dde dbo dln dld tba tal tro tsc tcl rma x1 _ _ hm) (cwV 1 hts gX6_time_X6_requireJob rfl rfl rfl (by decide +kernel) ⟨Nat.le_of_ble_eq_true rfl, Nat.le_of_ble_eq_true rfl⟩) ⟨cPre_blind, va_recv hK hP (ci := 6) (q0 := 0) rfl rfl, fun U hU hW => ⟨rfl, cPre_at hP hK hD hN hU hW⟩⟩ rfl rfl hl.1 rfl (lv_room (Nat.le_of_ble_eq_true rfl)) dX6_time_2 ⟨Nat.zero_le _, Nat.zero_le _⟩) hS (fun q _ h => hFc q h) hFc (fun u t H locs ht hvm hw hB hz1 hk1 hS => ?_)
  try dsimp only at hw
  have hm := hw
  have hP : va_P (dC, dI) vwCl (wC ad cy ss ds ti co oma obr obj obo obm plo pch pbe pbl dnu dde dbo dln dld tba tal tro tsc tcl rma) H := cPost_P ht hB
  have hD : va_D A (wC ad cy ss ds ti co oma obr obj obo obm plo pch pbe pbl dnu dde dbo dln dld tba tal tro tsc tcl rma) := cPost_D hFc hB
  refine lv_iload_n hx hb dX6_time_5 rfl (lv_at hl 2 rfl) ?_
  have hFc := va_freeSame hD hS hA
  refine va_callv (va_runS (As := [.int x2]) (rest := []) ⟨hx, hb, hml, hown, hts⟩ (c0_X6_requireMachine l dC dI cy ad H.size ss ds ti co oma obr obj obo obm plo pch pbe pbl dnu dde dbo dln dld tba tal tro tsc tcl rma x2 _ _ hm) (cwS 1 hts gX6_time_X6_requireMachine rfl rfl rfl (by decide +kernel) ⟨Nat.le_of_ble_eq_true rfl, Nat.le_of_ble_eq_true rfl⟩) ⟨cPre_blind, fun U hU hW => ⟨rfl, cPre_at hP hK hD hN hU hW⟩⟩ rfl rfl hl.1 rfl (lv_room (Nat.le_of_ble_eq_true rfl)) dX6_time_6 ⟨Nat.zero_le _, Nat.zero_le _⟩) hS (fun q _ h => hFc q h) hFc (fun u t H locs ht hvm hw hB hz1 hk1 hS => ?_)
  try dsimp only at hw
  have hm := hw
  have hP : va_P (dC, dI) vwCl (wC ad cy ss ds ti co oma obr obj obo obm plo pch pbe pbl dnu dde dbo dln dld tba tal tro tsc tcl rma) H := cPost_P ht hB
  have hD : va_D A (wC ad cy ss ds ti co oma obr obj obo obm plo pch pbe pbl dnu dde dbo dln dld tba tal tro tsc tcl rma) := cPost_D hFc hB
  refine lv_aload_n hx hb dX6_time_9 rfl (lv_at hl 0 rfl) ?_
  refine va_get (D := (dC, dI)) (ci := 6) (v := .ref (ad 1)) (C := RX6) (T := TX6) (N := 7) hx hb hts in_X6_time_X6 hown hK hP 0 rfl rfl 0 (by decide) (hts _ fl_X6_time_12) (fun _ h9 => h9) rfl dX6_time_10 ?_
  refine lv_iload_n hx hb dX6_time_13 rfl (lv_at hl 1 rfl) ?_
  refine lv_iload_n hx hb dX6_time_14 rfl (lv_at hl 2 rfl) ?_
  have hFc := va_freeSame hD hS hA
  refine va_calli (va_runV (As := [.int x1, .int x2]) (rest := []) ⟨hx, hb, hml, hown, hts⟩ (c_X1_timeOn l dC dI cy ad H.size ss ds ti co oma obr obj obo obm plo pch pbe pbl dnu dde dbo dln dld tba tal tro tsc tcl rma x1 x2 _ _ hm) (cwV 2 hts gX6_time_X1_timeOn rfl rfl rfl (by decide +kernel) ⟨Nat.le_of_ble_eq_true rfl, Nat.le_of_ble_eq_true rfl⟩) ⟨cPre_blind, va_recv hK hP (ci := 1) (q0 := 1) rfl rfl, fun U hU hW => ⟨rfl, cPre_at hP hK hD hN hU hW⟩⟩ rfl rfl hl.1 rfl (lv_room (Nat.le_of_ble_eq_true rfl)) dX6_time_15 ⟨Nat.zero_le _, Nat.zero_le _⟩) hS (fun q _ h => hFc q h) hFc (fun r_1 u t H locs ht hvm hw hB hz1 hk1 hS => ?_)
  try dsimp only at hw
  have hm := hw
  have hP : va_P (dC, dI) vwCl (wC ad cy ss ds ti co oma obr obj obo obm plo pch pbe pbl dnu dde dbo dln dld tba tal tro tsc tcl rma) H := cPost_P ht hB
  have hD : va_D A (wC ad cy ss ds ti co oma obr obj obo obm plo pch pbe pbl dnu dde dbo dln dld tba tal tro tsc tcl rma) := cPost_D hFc hB
  exact hret r_1 H locs ls 18 dX6_time_18 ⟨hP, hD, hS⟩ hm

set_option maxHeartbeats 4000000 in
set_option maxRecDepth 100000 in
theorem c0_X6_time (l : Launch) (dC : Nat → ClassId) (dI : Nat → Nat → Nat) (cy : Nat → ClassId) (ad : Nat → Nat) (sz : Nat) (ss : Int32) (ds : Int32) (ti : Nat → Int32) (co : Int32) (oma : Nat → Int32) (obr : Int32) (obj : Int32) (obo : Int32) (obm : Int32) (plo : Nat → Int32) (pch : Nat → Int32) (pbe : Nat → Int32) (pbl : Int32) (dnu : Nat → Int32) (dde : Nat → Int32) (dbo : Int32) (dln : Int32) (dld : Int32) (tba : Nat → Int32) (tal : Nat → Int32) (tro : Int32) (tsc : Int64) (tcl : Nat → Nat → Int64) (rma : Nat → Int32) (x1 : Int32) (x2 : Int32) (N : Nat) (Q : Int32 → Prop) (hm : p_X6_time N ti co Q (fun (_ : String) => False) x1 x2) : Met l yX6_time wsX6_time rm0X6_time (va_Pc [.ref (ad 0), .int x1, .int x2] (cPre dC dI cy (wC ad cy ss ds ti co oma obr obj obo obm plo pch pbe pbl dnu dde dbo dln dld tba tal tro tsc tcl rma) sz)) (va_Qi (fun (r : Int32) (u : Unit) => Q r) (fun u t => cPost dC dI cy (wC ad cy ss ds ti co oma obr obj obo obm plo pch pbe pbl dnu dde dbo dln dld tba tal tro tsc tcl rma) sz (wC ad cy ss ds ti co oma obr obj obo obm plo pch pbe pbl dnu dde dbo dln dld tba tal tro tsc tcl rma) t) (va_A (wC ad cy ss ds ti co oma obr obj obo obm plo pch pbe pbl dnu dde dbo dln dld tba tal tro tsc tcl rma) sz)) 0 0 (va_A (wC ad cy ss ds ti co oma obr obj obo obm plo pch pbe pbl dnu dde dbo dln dld tba tal tro tsc tcl rma) sz) := by
  refine Met.ofW (cc := cX6_time) (maxL := 3) (ret := (some .int)) (by decide) rfl ?_
  intro p e s m args below meth c s₁ B hml hv
  obtain ⟨rfl, hsz, hP, hK, hD0, hN⟩ := hv
  have hts := atoms_spec (ws := wsX6_time) B.pre
  have hown : s.vm.findClass RX6 = some m.cls := findClass_of_methodNamed B.named
  subst hsz
  have hD := hD0.self (sz := s.heap.size)
  generalize hAe : va_A (wC ad cy ss ds ti co oma obr obj obo obm plo pch pbe pbl dnu dde dbo dln dld tba tal tro tsc tcl rma) s.heap.size = A at hD ⊢
  have hA : ∀ q : Nat, s.heap.size ≤ q → A q := fun q h => by rw [← hAe]; exact Or.inr h
  have hl := lv_entry ([.ref (ad 0), .int x1, .int x2]) (n := 3) (Nat.le_of_ble_eq_true rfl)
  rw [lg_entry_eq]
  generalize (lg_sl ([.ref (ad 0), .int x1, .int x2]) ++ List.replicate (3 - (lg_sl ([.ref (ad 0), .int x1, .int x2])).length) Slot.unset).toArray = ls at hl ⊢
  have hl : lv_has ls 3 [(0, .ref (ad 0)), (1, .int x1), (2, .int x2)] := hl
  exact k0_X6_time_0 ⟨B.exec, B.bytes, hml, B.returns, hown, hts, B.notSynchronized, hK, hA, hN⟩ x1 x2 s.heap [] ls hm ⟨hP, hD, va_S.rf⟩ (lv_sub hl [0, 1, 2] rfl) (fun r H locs ls pc hdg hSt hq => W.iret B.exec B.bytes B.returns (fun t ht hW => ⟨⟨r, (), rfl, hq, cPost_of hAe ht hW.alike hSt hK⟩, hSt.2.2.F ht⟩) hSt.2.2.2.2 hdg B.notSynchronized)

-- ===== X6_machine, where it does not throw
abbrev rm0X6_machine : Room := { frames := 2, cells := 0, slots := 0, locals := 143 }
set_option maxHeartbeats 4000000 in
set_option maxRecDepth 100000 in
theorem k0_X6_machine_0 {N : Nat} {ss : Int32} {ds : Int32} {ti : Nat → Int32} {co : Int32} {oma : Nat → Int32} {obr : Int32} {obj : Int32} {obo : Int32} {obm : Int32} {plo : Nat → Int32} {pch : Nat → Int32} {pbe : Nat → Int32} {pbl : Int32} {dnu : Nat → Int32} {dde : Nat → Int32} {dbo : Int32} {dln : Int32} {dld : Int32} {tba : Nat → Int32} {tal : Nat → Int32} {tro : Int32} {tsc : Int64} {tcl : Nat → Nat → Int64} {rma : Nat → Int32} {Q : Int32 → Prop} (C0 : cxM cX6_machine 2 (some .int) RX6 wsX6_machine p s m args meth c dC dI cy A) :
    ∀ (x1 : Int32) (H : Heap) (locs : List Loc) (ls : Array Slot) (hm : p_X6_machine N co oma Q (fun (_ : String) => False) x1) (hSt : stC dC dI A s (wC ad cy ss ds ti co oma obr obj obo obm plo pch pbe pbl dnu dde dbo dln dld tba tal tro tsc tcl rma) H locs) (hl : lv_has ls 2 [(0, .ref (ad 0)), (1, .int x1)]) (hret : ∀ (r : Int32) (H : Heap) (locs : List Loc) (ls : Array Slot) (pc : Nat), decode cX6_machine pc = .ok (.ireturn, 1) → stC dC dI A s (wC ad cy ss ds ti co oma obr obj obo obm plo pch pbe pbl dnu dde dbo dln dld tba tal tro tsc tcl rma) H locs → Q r → W p l e rm0X6_machine s m args below meth c H locs 0 0 Z (F0 m pc ls [.int r])), W p l e rm0X6_machine s m args below meth c H locs 0 0 Z (F0 m 0 ls []) := by
  obtain ⟨hx, hb, hml, hr, hown, hts, hlocks, hK, hA, hN⟩ := id C0
  intro x1 H locs ls hm hSt hl hret
  obtain ⟨hP, hD, hS⟩ := hSt
  unfold p_X6_machine at hm
  refine lv_aload_n hx hb dX6_machine_0 rfl (lv_at hl 0 rfl) ?_
  refine lv_iload_n hx hb dX6_machine_1 rfl (lv_at hl 1 rfl) ?_
  have hFc := va_freeSame hD hS hA
  refine va_callv (va_runV (As := [.int x1]) (rest := []) ⟨hx, hb, hml, hown, hts⟩ (c0_X6_requireJob l dC dI cy ad H.size ss ds ti co oma obr obj obo obm plo pch pbe pbl dnu dde dbo dln dld tba tal tro tsc tcl rma x1 _ _ hm) (cwV 1 hts gX6_machine_X6_requireJob rfl rfl rfl (by decide +kernel) ⟨Nat.le_of_ble_eq_true rfl, Nat.le_of_ble_eq_true rfl⟩) ⟨cPre_blind, va_recv hK hP (ci := 6) (q0 := 0) rfl rfl, fun U hU hW => ⟨rfl, cPre_at hP hK hD hN hU hW⟩⟩ rfl rfl hl.1 rfl (lv_room (Nat.le_of_ble_eq_true rfl)) dX6_machine_2 ⟨Nat.zero_le _, Nat.zero_le _⟩) hS (fun q _ h => hFc q h) hFc (fun u t H locs ht hvm hw hB hz1 hk1 hS => ?_)
  try dsimp only at hw
  have hm := hw
  have hP : va_P (dC, dI) vwCl (wC ad cy ss ds ti co oma obr obj obo obm plo pch pbe pbl dnu dde dbo dln dld tba tal tro tsc tcl rma) H := cPost_P ht hB
  have hD : va_D A (wC ad cy ss ds ti co oma obr obj obo obm plo pch pbe pbl dnu dde dbo dln dld tba tal tro tsc tcl rma) := cPost_D hFc hB
  refine lv_aload_n hx hb dX6_machine_5 rfl (lv_at hl 0 rfl) ?_
  refine va_get (D := (dC, dI)) (ci := 6) (v := .ref (ad 3)) (C := RX6) (T := TX6) (N := 7) hx hb hts in_X6_machine_X6 hown hK hP 0 rfl rfl 1 (by decide) (hts _ fl_X6_machine_19) (fun _ h9 => h9) rfl dX6_machine_6 ?_
  refine va_getN (D := (dC, dI)) (ci := 2) (v := .ref (ad 4)) (C := RX2) (T := TX2) (N := 5) hx hb hts in_X6_machine_X2 hown hK hP 3 rfl rfl 0 (by decide) (va_Nw.use rfl (nw_X6_70 hN)) (fun _ h9 => h9) rfl dX6_machine_9 ?_
  refine lv_iload_n hx hb dX6_machine_12 rfl (lv_at hl 1 rfl) ?_
  have hi_1 := hm.1
  have hm := hm.2
  refine va_iald hx hb hK hP 4 0 rfl rfl hi_1 dX6_machine_13 ?_
  exact hret (oma (x1).toNatClampNeg) H locs ls 14 dX6_machine_14 ⟨hP, hD, hS⟩ hm

set_option maxHeartbeats 4000000 in
set_option maxRecDepth 100000 in
theorem c0_X6_machine (l : Launch) (dC : Nat → ClassId) (dI : Nat → Nat → Nat) (cy : Nat → ClassId) (ad : Nat → Nat) (sz : Nat) (ss : Int32) (ds : Int32) (ti : Nat → Int32) (co : Int32) (oma : Nat → Int32) (obr : Int32) (obj : Int32) (obo : Int32) (obm : Int32) (plo : Nat → Int32) (pch : Nat → Int32) (pbe : Nat → Int32) (pbl : Int32) (dnu : Nat → Int32) (dde : Nat → Int32) (dbo : Int32) (dln : Int32) (dld : Int32) (tba : Nat → Int32) (tal : Nat → Int32) (tro : Int32) (tsc : Int64) (tcl : Nat → Nat → Int64) (rma : Nat → Int32) (x1 : Int32) (N : Nat) (Q : Int32 → Prop) (hm : p_X6_machine N co oma Q (fun (_ : String) => False) x1) : Met l yX6_machine wsX6_machine rm0X6_machine (va_Pc [.ref (ad 0), .int x1] (cPre dC dI cy (wC ad cy ss ds ti co oma obr obj obo obm plo pch pbe pbl dnu dde dbo dln dld tba tal tro tsc tcl rma) sz)) (va_Qi (fun (r : Int32) (u : Unit) => Q r) (fun u t => cPost dC dI cy (wC ad cy ss ds ti co oma obr obj obo obm plo pch pbe pbl dnu dde dbo dln dld tba tal tro tsc tcl rma) sz (wC ad cy ss ds ti co oma obr obj obo obm plo pch pbe pbl dnu dde dbo dln dld tba tal tro tsc tcl rma) t) (va_A (wC ad cy ss ds ti co oma obr obj obo obm plo pch pbe pbl dnu dde dbo dln dld tba tal tro tsc tcl rma) sz)) 0 0 (va_A (wC ad cy ss ds ti co oma obr obj obo obm plo pch pbe pbl dnu dde dbo dln dld tba tal tro tsc tcl rma) sz) := by
  refine Met.ofW (cc := cX6_machine) (maxL := 2) (ret := (some .int)) (by decide) rfl ?_
  intro p e s m args below meth c s₁ B hml hv
  obtain ⟨rfl, hsz, hP, hK, hD0, hN⟩ := hv
  have hts := atoms_spec (ws := wsX6_machine) B.pre
  have hown : s.vm.findClass RX6 = some m.cls := findClass_of_methodNamed B.named
  subst hsz
  have hD := hD0.self (sz := s.heap.size)
  generalize hAe : va_A (wC ad cy ss ds ti co oma obr obj obo obm plo pch pbe pbl dnu dde dbo dln dld tba tal tro tsc tcl rma) s.heap.size = A at hD ⊢
  have hA : ∀ q : Nat, s.heap.size ≤ q → A q := fun q h => by rw [← hAe]; exact Or.inr h
  have hl := lv_entry ([.ref (ad 0), .int x1]) (n := 2) (Nat.le_of_ble_eq_true rfl)
  rw [lg_entry_eq]
  generalize (lg_sl ([.ref (ad 0), .int x1]) ++ List.replicate (2 - (lg_sl ([.ref (ad 0), .int x1])).length) Slot.unset).toArray = ls at hl ⊢
  have hl : lv_has ls 2 [(0, .ref (ad 0)), (1, .int x1)] := hl
  exact k0_X6_machine_0 ⟨B.exec, B.bytes, hml, B.returns, hown, hts, B.notSynchronized, hK, hA, hN⟩ x1 s.heap [] ls hm ⟨hP, hD, va_S.rf⟩ (lv_sub hl [0, 1] rfl) (fun r H locs ls pc hdg hSt hq => W.iret B.exec B.bytes B.returns (fun t ht hW => ⟨⟨r, (), rfl, hq, cPost_of hAe ht hW.alike hSt hK⟩, hSt.2.2.F ht⟩) hSt.2.2.2.2 hdg B.notSynchronized)

-- ===== X6_load, where it does not throw
abbrev rm0X6_load : Room := { frames := 3, cells := 0, slots := 0, locals := 229 }
set_option maxHeartbeats 4000000 in
set_option maxRecDepth 100000 in
theorem k0_X6_load_0 {N : Nat} {ss : Int32} {ds : Int32} {ti : Nat → Int32} {co : Int32} {oma : Nat → Int32} {obr : Int32} {obj : Int32} {obo : Int32} {obm : Int32} {plo : Nat → Int32} {pch : Nat → Int32} {pbe : Nat → Int32} {pbl : Int32} {dnu : Nat → Int32} {dde : Nat → Int32} {dbo : Int32} {dln : Int32} {dld : Int32} {tba : Nat → Int32} {tal : Nat → Int32} {tro : Int32} {tsc : Int64} {tcl : Nat → Nat → Int64} {rma : Nat → Int32} {Q : Int32 → Prop} (C0 : cxM cX6_load 2 (some .int) RX6 wsX6_load p s m args meth c dC dI cy A) :
    ∀ (x1 : Int32) (H : Heap) (locs : List Loc) (ls : Array Slot) (hm : p_X6_load N ti co oma Q (fun (_ : String) => False) x1) (hSt : stC dC dI A s (wC ad cy ss ds ti co oma obr obj obo obm plo pch pbe pbl dnu dde dbo dln dld tba tal tro tsc tcl rma) H locs) (hl : lv_has ls 2 [(0, .ref (ad 0)), (1, .int x1)]) (hret : ∀ (r : Int32) (H : Heap) (locs : List Loc) (ls : Array Slot) (pc : Nat), decode cX6_load pc = .ok (.ireturn, 1) → stC dC dI A s (wC ad cy ss ds ti co oma obr obj obo obm plo pch pbe pbl dnu dde dbo dln dld tba tal tro tsc tcl rma) H locs → Q r → W p l e rm0X6_load s m args below meth c H locs 0 0 Z (F0 m pc ls [.int r])), W p l e rm0X6_load s m args below meth c H locs 0 0 Z (F0 m 0 ls []) := by
  obtain ⟨hx, hb, hml, hr, hown, hts, hlocks, hK, hA, hN⟩ := id C0
  intro x1 H locs ls hm hSt hl hret
  obtain ⟨hP, hD, hS⟩ := hSt
  unfold p_X6_load at hm
  refine lv_iload_n hx hb dX6_load_0 rfl (lv_at hl 1 rfl) ?_
  have hFc := va_freeSame hD hS hA
  refine va_callv (va_runS (As := [.int x1]) (rest := []) ⟨hx, hb, hml, hown, hts⟩ (c0_X6_requireMachine l dC dI cy ad H.size ss ds ti co oma obr obj obo obm plo pch pbe pbl dnu dde dbo dln dld tba tal tro tsc tcl rma x1 _ _ hm) (cwS 1 hts gX6_load_X6_requireMachine rfl rfl rfl (by decide +kernel) ⟨Nat.le_of_ble_eq_true rfl, Nat.le_of_ble_eq_true rfl⟩) ⟨cPre_blind, fun U hU hW => ⟨rfl, cPre_at hP hK hD hN hU hW⟩⟩ rfl rfl hl.1 rfl (lv_room (Nat.le_of_ble_eq_true rfl)) dX6_load_1 ⟨Nat.zero_le _, Nat.zero_le _⟩) hS (fun q _ h => hFc q h) hFc (fun u t H locs ht hvm hw hB hz1 hk1 hS => ?_)
  try dsimp only at hw
  have hm := hw
  have hP : va_P (dC, dI) vwCl (wC ad cy ss ds ti co oma obr obj obo obm plo pch pbe pbl dnu dde dbo dln dld tba tal tro tsc tcl rma) H := cPost_P ht hB
  have hD : va_D A (wC ad cy ss ds ti co oma obr obj obo obm plo pch pbe pbl dnu dde dbo dln dld tba tal tro tsc tcl rma) := cPost_D hFc hB
  refine lv_aload_n hx hb dX6_load_4 rfl (lv_at hl 0 rfl) ?_
  refine va_get (D := (dC, dI)) (ci := 6) (v := .ref (ad 1)) (C := RX6) (T := TX6) (N := 7) hx hb hts in_X6_load_X6 hown hK hP 0 rfl rfl 0 (by decide) (hts _ fl_X6_load_12) (fun _ h9 => h9) rfl dX6_load_5 ?_
  refine lv_aload_n hx hb dX6_load_8 rfl (lv_at hl 0 rfl) ?_
  refine va_get (D := (dC, dI)) (ci := 6) (v := .ref (ad 3)) (C := RX6) (T := TX6) (N := 7) hx hb hts in_X6_load_X6 hown hK hP 0 rfl rfl 1 (by decide) (hts _ fl_X6_load_19) (fun _ h9 => h9) rfl dX6_load_9 ?_
  refine va_getN (D := (dC, dI)) (ci := 2) (v := .ref (ad 4)) (C := RX2) (T := TX2) (N := 5) hx hb hts in_X6_load_X2 hown hK hP 3 rfl rfl 0 (by decide) (va_Nw.use rfl (nw_X6_70 hN)) (fun _ h9 => h9) rfl dX6_load_12 ?_
  refine lv_iload_n hx hb dX6_load_15 rfl (lv_at hl 1 rfl) ?_
  have hFc := va_freeSame hD hS hA
  refine va_calli (va_runV (As := [.ref (ad 4), .int x1]) (rest := []) ⟨hx, hb, hml, hown, hts⟩ (c_X1_loadOn_o l dC dI cy ad H.size ss ds ti co oma obr obj obo obm plo pch pbe pbl dnu dde dbo dln dld tba tal tro tsc tcl rma x1 _ _ hm) (cwV 2 hts gX6_load_X1_loadOn rfl rfl rfl (by decide +kernel) ⟨Nat.le_of_ble_eq_true rfl, Nat.le_of_ble_eq_true rfl⟩) ⟨cPre_blind, va_recv hK hP (ci := 1) (q0 := 1) rfl rfl, fun U hU hW => ⟨rfl, cPre_at hP hK hD hN hU hW⟩⟩ rfl rfl hl.1 rfl (lv_room (Nat.le_of_ble_eq_true rfl)) dX6_load_16 ⟨Nat.zero_le _, Nat.zero_le _⟩) hS (fun q _ h => hFc q h) hFc (fun r_1 u t H locs ht hvm hw hB hz1 hk1 hS => ?_)
  try dsimp only at hw
  have hm := hw
  have hP : va_P (dC, dI) vwCl (wC ad cy ss ds ti co oma obr obj obo obm plo pch pbe pbl dnu dde dbo dln dld tba tal tro tsc tcl rma) H := cPost_P ht hB
  have hD : va_D A (wC ad cy ss ds ti co oma obr obj obo obm plo pch pbe pbl dnu dde dbo dln dld tba tal tro tsc tcl rma) := cPost_D hFc hB
  exact hret r_1 H locs ls 19 dX6_load_19 ⟨hP, hD, hS⟩ hm

set_option maxHeartbeats 4000000 in
set_option maxRecDepth 100000 in
theorem c0_X6_load (l : Launch) (dC : Nat → ClassId) (dI : Nat → Nat → Nat) (cy : Nat → ClassId) (ad : Nat → Nat) (sz : Nat) (ss : Int32) (ds : Int32) (ti : Nat → Int32) (co : Int32) (oma : Nat → Int32) (obr : Int32) (obj : Int32) (obo : Int32) (obm : Int32) (plo : Nat → Int32) (pch : Nat → Int32) (pbe : Nat → Int32) (pbl : Int32) (dnu : Nat → Int32) (dde : Nat → Int32) (dbo : Int32) (dln : Int32) (dld : Int32) (tba : Nat → Int32) (tal : Nat → Int32) (tro : Int32) (tsc : Int64) (tcl : Nat → Nat → Int64) (rma : Nat → Int32) (x1 : Int32) (N : Nat) (Q : Int32 → Prop) (hm : p_X6_load N ti co oma Q (fun (_ : String) => False) x1) : Met l yX6_load wsX6_load rm0X6_load (va_Pc [.ref (ad 0), .int x1] (cPre dC dI cy (wC ad cy ss ds ti co oma obr obj obo obm plo pch pbe pbl dnu dde dbo dln dld tba tal tro tsc tcl rma) sz)) (va_Qi (fun (r : Int32) (u : Unit) => Q r) (fun u t => cPost dC dI cy (wC ad cy ss ds ti co oma obr obj obo obm plo pch pbe pbl dnu dde dbo dln dld tba tal tro tsc tcl rma) sz (wC ad cy ss ds ti co oma obr obj obo obm plo pch pbe pbl dnu dde dbo dln dld tba tal tro tsc tcl rma) t) (va_A (wC ad cy ss ds ti co oma obr obj obo obm plo pch pbe pbl dnu dde dbo dln dld tba tal tro tsc tcl rma) sz)) 0 0 (va_A (wC ad cy ss ds ti co oma obr obj obo obm plo pch pbe pbl dnu dde dbo dln dld tba tal tro tsc tcl rma) sz) := by
  refine Met.ofW (cc := cX6_load) (maxL := 2) (ret := (some .int)) (by decide) rfl ?_
  intro p e s m args below meth c s₁ B hml hv
  obtain ⟨rfl, hsz, hP, hK, hD0, hN⟩ := hv
  have hts := atoms_spec (ws := wsX6_load) B.pre
  have hown : s.vm.findClass RX6 = some m.cls := findClass_of_methodNamed B.named
  subst hsz
  have hD := hD0.self (sz := s.heap.size)
  generalize hAe : va_A (wC ad cy ss ds ti co oma obr obj obo obm plo pch pbe pbl dnu dde dbo dln dld tba tal tro tsc tcl rma) s.heap.size = A at hD ⊢
  have hA : ∀ q : Nat, s.heap.size ≤ q → A q := fun q h => by rw [← hAe]; exact Or.inr h
  have hl := lv_entry ([.ref (ad 0), .int x1]) (n := 2) (Nat.le_of_ble_eq_true rfl)
  rw [lg_entry_eq]
  generalize (lg_sl ([.ref (ad 0), .int x1]) ++ List.replicate (2 - (lg_sl ([.ref (ad 0), .int x1])).length) Slot.unset).toArray = ls at hl ⊢
  have hl : lv_has ls 2 [(0, .ref (ad 0)), (1, .int x1)] := hl
  exact k0_X6_load_0 ⟨B.exec, B.bytes, hml, B.returns, hown, hts, B.notSynchronized, hK, hA, hN⟩ x1 s.heap [] ls hm ⟨hP, hD, va_S.rf⟩ (lv_sub hl [0, 1] rfl) (fun r H locs ls pc hdg hSt hq => W.iret B.exec B.bytes B.returns (fun t ht hW => ⟨⟨r, (), rfl, hq, cPost_of hAe ht hW.alike hSt hK⟩, hSt.2.2.F ht⟩) hSt.2.2.2.2 hdg B.notSynchronized)

-- ===== X6_shortestMachine, where it does not throw
abbrev rm0X6_shortestMachine : Room := { frames := 43, cells := 0, slots := 0, locals := 4246 }
set_option maxHeartbeats 4000000 in
set_option maxRecDepth 100000 in
theorem k0_X6_shortestMachine_0 {N : Nat} {ds : Int32} {ti : Nat → Int32} {co : Int32} {oma : Nat → Int32} {obr : Int32} {obj : Int32} {obo : Int32} {obm : Int32} {dnu : Nat → Int32} {dde : Nat → Int32} {dbo : Int32} {dln : Int32} {dld : Int32} {tba : Nat → Int32} {tal : Nat → Int32} {tro : Int32} {tsc : Int64} {tcl : Nat → Nat → Int64} {rma : Nat → Int32} {Q : Int32 → Int32 → (Nat → Int32) → (Nat → Int32) → (Nat → Int32) → Int32 → Prop} (C0 : cxM cX6_shortestMachine 2 (some .int) RX6 wsX6_shortestMachine p s m args meth c dC dI cy A) :
    ∀ (x1 : Int32) (ss : Int32) (plo : Nat → Int32) (pch : Nat → Int32) (pbe : Nat → Int32) (pbl : Int32) (H : Heap) (locs : List Loc) (ls : Array Slot) (hm : p_X6_shortestMachine N ti co Q (fun (_ : String) => False) x1 ss plo pch pbe pbl) (hSt : stC dC dI A s (wC ad cy ss ds ti co oma obr obj obo obm plo pch pbe pbl dnu dde dbo dln dld tba tal tro tsc tcl rma) H locs) (hl : lv_has ls 2 [(0, .ref (ad 0)), (1, .int x1)]) (hret : ∀ (r : Int32) (ss : Int32) (plo : Nat → Int32) (pch : Nat → Int32) (pbe : Nat → Int32) (pbl : Int32) (H : Heap) (locs : List Loc) (ls : Array Slot) (pc : Nat), decode cX6_shortestMachine pc = .ok (.ireturn, 1) → stC dC dI A s (wC ad cy ss ds ti co oma obr obj obo obm plo pch pbe pbl dnu dde dbo dln dld tba tal tro tsc tcl rma) H locs → Q r ss plo pch pbe pbl → W p l e rm0X6_shortestMachine s m args below meth c H locs 0 0 Z (F0 m pc ls [.int r])), W p l e rm0X6_shortestMachine s m args below meth c H locs 0 0 Z (F0 m 0 ls []) := by
  obtain ⟨hx, hb, hml, hr, hown, hts, hlocks, hK, hA, hN⟩ := id C0
  intro x1 ss plo pch pbe pbl H locs ls hm hSt hl hret
  obtain ⟨hP, hD, hS⟩ := hSt
  unfold p_X6_shortestMachine at hm
  refine lv_aload_n hx hb dX6_shortestMachine_0 rfl (lv_at hl 0 rfl) ?_
  refine lv_iload_n hx hb dX6_shortestMachine_1 rfl (lv_at hl 1 rfl) ?_
  have hFc := va_freeSame hD hS hA
  refine va_callv (va_runV (As := [.int x1]) (rest := []) ⟨hx, hb, hml, hown, hts⟩ (c0_X6_requireJob l dC dI cy ad H.size ss ds ti co oma obr obj obo obm plo pch pbe pbl dnu dde dbo dln dld tba tal tro tsc tcl rma x1 _ _ hm) (cwV 1 hts gX6_shortestMachine_X6_requireJob rfl rfl rfl (by decide +kernel) ⟨Nat.le_of_ble_eq_true rfl, Nat.le_of_ble_eq_true rfl⟩) ⟨cPre_blind, va_recv hK hP (ci := 6) (q0 := 0) rfl rfl, fun U hU hW => ⟨rfl, cPre_at hP hK hD hN hU hW⟩⟩ rfl rfl hl.1 rfl (lv_room (Nat.le_of_ble_eq_true rfl)) dX6_shortestMachine_2 ⟨Nat.zero_le _, Nat.zero_le _⟩) hS (fun q _ h => hFc q h) hFc (fun u t H locs ht hvm hw hB hz1 hk1 hS => ?_)
  try dsimp only at hw
  have hm := hw
  have hP : va_P (dC, dI) vwCl (wC ad cy ss ds ti co oma obr obj obo obm plo pch pbe pbl dnu dde dbo dln dld tba tal tro tsc tcl rma) H := cPost_P ht hB
  have hD : va_D A (wC ad cy ss ds ti co oma obr obj obo obm plo pch pbe pbl dnu dde dbo dln dld tba tal tro tsc tcl rma) := cPost_D hFc hB
  refine lv_aload_n hx hb dX6_shortestMachine_5 rfl (lv_at hl 0 rfl) ?_
  have hFc := va_freeSame hD hS hA
  refine va_callv (va_runV (As := []) (rest := []) ⟨hx, hb, hml, hown, hts⟩ (c_X6_refreshSearch l dC dI cy ad H.size ss ds ti co oma obr obj obo obm plo pch pbe pbl dnu dde dbo dln dld tba tal tro tsc tcl rma  _ _ hm) (cwV 0 hts gX6_shortestMachine_X6_refreshSearch rfl rfl rfl (by decide +kernel) ⟨Nat.le_of_ble_eq_true rfl, Nat.le_of_ble_eq_true rfl⟩) ⟨cPre_blind, va_recv hK hP (ci := 6) (q0 := 0) rfl rfl, fun U hU hW => ⟨rfl, cPre_at hP hK hD hN hU hW⟩⟩ rfl rfl hl.1 rfl (lv_room (Nat.le_of_ble_eq_true rfl)) dX6_shortestMachine_6 ⟨Nat.zero_le _, Nat.zero_le _⟩) hS (fun q _ h => hFc q h) hFc (fun u t H locs ht hvm hw hB hz1 hk1 hS => ?_)
  obtain ⟨ss_1, plo_2, pch_3, pbe_4, pbl_5⟩ := u
  try dsimp only at hw
  have hm := hw
  have hP : va_P (dC, dI) vwCl (wC ad cy ss_1 ds ti co oma obr obj obo obm plo_2 pch_3 pbe_4 pbl_5 dnu dde dbo dln dld tba tal tro tsc tcl rma) H := cPost_P ht hB
  have hD : va_D A (wC ad cy ss_1 ds ti co oma obr obj obo obm plo_2 pch_3 pbe_4 pbl_5 dnu dde dbo dln dld tba tal tro tsc tcl rma) := cPost_D hFc hB
  refine lv_aload_n hx hb dX6_shortestMachine_9 rfl (lv_at hl 0 rfl) ?_
  refine va_get (D := (dC, dI)) (ci := 6) (v := .ref (ad 5)) (C := RX6) (T := TX6) (N := 7) hx hb hts in_X6_shortestMachine_X6 hown hK hP 0 rfl rfl 2 (by decide) (hts _ fl_X6_shortestMachine_26) (fun _ h9 => h9) rfl dX6_shortestMachine_10 ?_
  refine va_getN (D := (dC, dI)) (ci := 3) (v := .ref (ad 8)) (C := RX3) (T := TX3) (N := 4) hx hb hts in_X6_shortestMachine_X3 hown hK hP 5 rfl rfl 2 (by decide) (va_Nw.use rfl (nw_X6_101 hN)) (fun _ h9 => h9) rfl dX6_shortestMachine_13 ?_
  refine lv_iload_n hx hb dX6_shortestMachine_16 rfl (lv_at hl 1 rfl) ?_
  have hi_6 := hm.1
  have hm := hm.2
  refine va_iald hx hb hK hP 8 0 rfl rfl hi_6 dX6_shortestMachine_17 ?_
  exact hret (pbe_4 (x1).toNatClampNeg) ss_1 plo_2 pch_3 pbe_4 pbl_5 H locs ls 18 dX6_shortestMachine_18 ⟨hP, hD, hS⟩ hm

set_option maxHeartbeats 4000000 in
set_option maxRecDepth 100000 in
theorem c0_X6_shortestMachine (l : Launch) (dC : Nat → ClassId) (dI : Nat → Nat → Nat) (cy : Nat → ClassId) (ad : Nat → Nat) (sz : Nat) (ss : Int32) (ds : Int32) (ti : Nat → Int32) (co : Int32) (oma : Nat → Int32) (obr : Int32) (obj : Int32) (obo : Int32) (obm : Int32) (plo : Nat → Int32) (pch : Nat → Int32) (pbe : Nat → Int32) (pbl : Int32) (dnu : Nat → Int32) (dde : Nat → Int32) (dbo : Int32) (dln : Int32) (dld : Int32) (tba : Nat → Int32) (tal : Nat → Int32) (tro : Int32) (tsc : Int64) (tcl : Nat → Nat → Int64) (rma : Nat → Int32) (x1 : Int32) (N : Nat) (Q : Int32 → Int32 → (Nat → Int32) → (Nat → Int32) → (Nat → Int32) → Int32 → Prop) (hm : p_X6_shortestMachine N ti co Q (fun (_ : String) => False) x1 ss plo pch pbe pbl) : Met l yX6_shortestMachine wsX6_shortestMachine rm0X6_shortestMachine (va_Pc [.ref (ad 0), .int x1] (cPre dC dI cy (wC ad cy ss ds ti co oma obr obj obo obm plo pch pbe pbl dnu dde dbo dln dld tba tal tro tsc tcl rma) sz)) (va_Qi (fun (r : Int32) (u : Int32 × (Nat → Int32) × (Nat → Int32) × (Nat → Int32) × Int32) => Q r u.1 u.2.1 u.2.2.1 u.2.2.2.1 u.2.2.2.2) (fun u t => cPost dC dI cy (wC ad cy ss ds ti co oma obr obj obo obm plo pch pbe pbl dnu dde dbo dln dld tba tal tro tsc tcl rma) sz (wC ad cy (u.1) ds ti co oma obr obj obo obm (u.2.1) (u.2.2.1) (u.2.2.2.1) (u.2.2.2.2) dnu dde dbo dln dld tba tal tro tsc tcl rma) t) (va_A (wC ad cy ss ds ti co oma obr obj obo obm plo pch pbe pbl dnu dde dbo dln dld tba tal tro tsc tcl rma) sz)) 0 0 (va_A (wC ad cy ss ds ti co oma obr obj obo obm plo pch pbe pbl dnu dde dbo dln dld tba tal tro tsc tcl rma) sz) := by
  refine Met.ofW (cc := cX6_shortestMachine) (maxL := 2) (ret := (some .int)) (by decide) rfl ?_
  intro p e s m args below meth c s₁ B hml hv
  obtain ⟨rfl, hsz, hP, hK, hD0, hN⟩ := hv
  have hts := atoms_spec (ws := wsX6_shortestMachine) B.pre
  have hown : s.vm.findClass RX6 = some m.cls := findClass_of_methodNamed B.named
  subst hsz
  have hD := hD0.self (sz := s.heap.size)
  generalize hAe : va_A (wC ad cy ss ds ti co oma obr obj obo obm plo pch pbe pbl dnu dde dbo dln dld tba tal tro tsc tcl rma) s.heap.size = A at hD ⊢
  have hA : ∀ q : Nat, s.heap.size ≤ q → A q := fun q h => by rw [← hAe]; exact Or.inr h
  have hl := lv_entry ([.ref (ad 0), .int x1]) (n := 2) (Nat.le_of_ble_eq_true rfl)
  rw [lg_entry_eq]
  generalize (lg_sl ([.ref (ad 0), .int x1]) ++ List.replicate (2 - (lg_sl ([.ref (ad 0), .int x1])).length) Slot.unset).toArray = ls at hl ⊢
  have hl : lv_has ls 2 [(0, .ref (ad 0)), (1, .int x1)] := hl
  exact k0_X6_shortestMachine_0 ⟨B.exec, B.bytes, hml, B.returns, hown, hts, B.notSynchronized, hK, hA, hN⟩ x1 ss plo pch pbe pbl s.heap [] ls hm ⟨hP, hD, va_S.rf⟩ (lv_sub hl [0, 1] rfl) (fun r ss plo pch pbe pbl H locs ls pc hdg hSt hq => W.iret B.exec B.bytes B.returns (fun t ht hW => ⟨⟨r, (ss, plo, pch, pbe, pbl), rfl, hq, cPost_of hAe ht hW.alike hSt hK⟩, hSt.2.2.F ht⟩) hSt.2.2.2.2 hdg B.notSynchronized)

-- ===== X6_numerator, where it does not throw
abbrev rm0X6_numerator : Room := { frames := 43, cells := 0, slots := 0, locals := 4249 }
set_option maxHeartbeats 4000000 in
set_option maxRecDepth 100000 in
theorem k0_X6_numerator_0 {N : Nat} {ss : Int32} {ti : Nat → Int32} {co : Int32} {oma : Nat → Int32} {obr : Int32} {obj : Int32} {obo : Int32} {obm : Int32} {plo : Nat → Int32} {pch : Nat → Int32} {pbe : Nat → Int32} {pbl : Int32} {Q : Int32 → Int32 → (Nat → Int32) → (Nat → Int32) → Int32 → Int32 → Int32 → (Nat → Int32) → (Nat → Int32) → Int32 → Int64 → (Nat → Nat → Int64) → (Nat → Int32) → Prop} (C0 : cxM cX6_numerator 3 (some .int) RX6 wsX6_numerator p s m args meth c dC dI cy A) :
    ∀ (x1 : Int32) (x2 : Int32) (ds : Int32) (dnu : Nat → Int32) (dde : Nat → Int32) (dbo : Int32) (dln : Int32) (dld : Int32) (tba : Nat → Int32) (tal : Nat → Int32) (tro : Int32) (tsc : Int64) (tcl : Nat → Nat → Int64) (rma : Nat → Int32) (H : Heap) (locs : List Loc) (ls : Array Slot) (hm : p_X6_numerator N ti co Q (fun (_ : String) => False) x1 x2 ds dnu dde dbo dln dld tba tal tro tsc tcl rma) (hSt : stC dC dI A s (wC ad cy ss ds ti co oma obr obj obo obm plo pch pbe pbl dnu dde dbo dln dld tba tal tro tsc tcl rma) H locs) (hl : lv_has ls 3 [(0, .ref (ad 0)), (1, .int x1), (2, .int x2)]) (hret : ∀ (r : Int32) (ds : Int32) (dnu : Nat → Int32) (dde : Nat → Int32) (dbo : Int32) (dln : Int32) (dld : Int32) (tba : Nat → Int32) (tal : Nat → Int32) (tro : Int32) (tsc : Int64) (tcl : Nat → Nat → Int64) (rma : Nat → Int32) (H : Heap) (locs : List Loc) (ls : Array Slot) (pc : Nat), decode cX6_numerator pc = .ok (.ireturn, 1) → stC dC dI A s (wC ad cy ss ds ti co oma obr obj obo obm plo pch pbe pbl dnu dde dbo dln dld tba tal tro tsc tcl rma) H locs → Q r ds dnu dde dbo dln dld tba tal tro tsc tcl rma → W p l e rm0X6_numerator s m args below meth c H locs 0 0 Z (F0 m pc ls [.int r])), W p l e rm0X6_numerator s m args below meth c H locs 0 0 Z (F0 m 0 ls []) := by
  obtain ⟨hx, hb, hml, hr, hown, hts, hlocks, hK, hA, hN⟩ := id C0
  intro x1 x2 ds dnu dde dbo dln dld tba tal tro tsc tcl rma H locs ls hm hSt hl hret
  obtain ⟨hP, hD, hS⟩ := hSt
  unfold p_X6_numerator at hm
  refine lv_aload_n hx hb dX6_numerator_0 rfl (lv_at hl 0 rfl) ?_
  refine lv_iload_n hx hb dX6_numerator_1 rfl (lv_at hl 1 rfl) ?_
  have hFc := va_freeSame hD hS hA
  refine va_callv (va_runV (As := [.int x1]) (rest := []) ⟨hx, hb, hml, hown, hts⟩ (c0_X6_requireJob l dC dI cy ad H.size ss ds ti co oma obr obj obo obm plo pch pbe pbl dnu dde dbo dln dld tba tal tro tsc tcl rma x1 _ _ hm) (cwV 1 hts gX6_numerator_X6_requireJob rfl rfl rfl (by decide +kernel) ⟨Nat.le_of_ble_eq_true rfl, Nat.le_of_ble_eq_true rfl⟩) ⟨cPre_blind, va_recv hK hP (ci := 6) (q0 := 0) rfl rfl, fun U hU hW => ⟨rfl, cPre_at hP hK hD hN hU hW⟩⟩ rfl rfl hl.1 rfl (lv_room (Nat.le_of_ble_eq_true rfl)) dX6_numerator_2 ⟨Nat.zero_le _, Nat.zero_le _⟩) hS (fun q _ h => hFc q h) hFc (fun u t H locs ht hvm hw hB hz1 hk1 hS => ?_)
  try dsimp only at hw
  have hm := hw
  have hP : va_P (dC, dI) vwCl (wC ad cy ss ds ti co oma obr obj obo obm plo pch pbe pbl dnu dde dbo dln dld tba tal tro tsc tcl rma) H := cPost_P ht hB
  have hD : va_D A (wC ad cy ss ds ti co oma obr obj obo obm plo pch pbe pbl dnu dde dbo dln dld tba tal tro tsc tcl rma) := cPost_D hFc hB
  refine lv_iload_n hx hb dX6_numerator_5 rfl (lv_at hl 2 rfl) ?_
  have hFc := va_freeSame hD hS hA
  refine va_callv (va_runS (As := [.int x2]) (rest := []) ⟨hx, hb, hml, hown, hts⟩ (c0_X6_requireMachine l dC dI cy ad H.size ss ds ti co oma obr obj obo obm plo pch pbe pbl dnu dde dbo dln dld tba tal tro tsc tcl rma x2 _ _ hm) (cwS 1 hts gX6_numerator_X6_requireMachine rfl rfl rfl (by decide +kernel) ⟨Nat.le_of_ble_eq_true rfl, Nat.le_of_ble_eq_true rfl⟩) ⟨cPre_blind, fun U hU hW => ⟨rfl, cPre_at hP hK hD hN hU hW⟩⟩ rfl rfl hl.1 rfl (lv_room (Nat.le_of_ble_eq_true rfl)) dX6_numerator_6 ⟨Nat.zero_le _, Nat.zero_le _⟩) hS (fun q _ h => hFc q h) hFc (fun u t H locs ht hvm hw hB hz1 hk1 hS => ?_)
  try dsimp only at hw
  have hm := hw
  have hP : va_P (dC, dI) vwCl (wC ad cy ss ds ti co oma obr obj obo obm plo pch pbe pbl dnu dde dbo dln dld tba tal tro tsc tcl rma) H := cPost_P ht hB
  have hD : va_D A (wC ad cy ss ds ti co oma obr obj obo obm plo pch pbe pbl dnu dde dbo dln dld tba tal tro tsc tcl rma) := cPost_D hFc hB
  refine lv_aload_n hx hb dX6_numerator_9 rfl (lv_at hl 0 rfl) ?_
  have hFc := va_freeSame hD hS hA
  refine va_callv (va_runV (As := []) (rest := []) ⟨hx, hb, hml, hown, hts⟩ (c_X6_refreshDivision l dC dI cy ad H.size ss ds ti co oma obr obj obo obm plo pch pbe pbl dnu dde dbo dln dld tba tal tro tsc tcl rma  _ _ hm) (cwV 0 hts gX6_numerator_X6_refreshDivision rfl rfl rfl (by decide +kernel) ⟨Nat.le_of_ble_eq_true rfl, Nat.le_of_ble_eq_true rfl⟩) ⟨cPre_blind, va_recv hK hP (ci := 6) (q0 := 0) rfl rfl, fun U hU hW => ⟨rfl, cPre_at hP hK hD hN hU hW⟩⟩ rfl rfl hl.1 rfl (lv_room (Nat.le_of_ble_eq_true rfl)) dX6_numerator_10 ⟨Nat.zero_le _, Nat.zero_le _⟩) hS (fun q _ h => hFc q h) hFc (fun u t H locs ht hvm hw hB hz1 hk1 hS => ?_)
  obtain ⟨ds_1, dnu_2, dde_3, dbo_4, dln_5, dld_6, tba_7, tal_8, tro_9, tsc_10, tcl_11, rma_12⟩ := u
  try dsimp only at hw
  have hm := hw
  have hP : va_P (dC, dI) vwCl (wC ad cy ss ds_1 ti co oma obr obj obo obm plo pch pbe pbl dnu_2 dde_3 dbo_4 dln_5 dld_6 tba_7 tal_8 tro_9 tsc_10 tcl_11 rma_12) H := cPost_P ht hB
  have hD : va_D A (wC ad cy ss ds_1 ti co oma obr obj obo obm plo pch pbe pbl dnu_2 dde_3 dbo_4 dln_5 dld_6 tba_7 tal_8 tro_9 tsc_10 tcl_11 rma_12) := cPost_D hFc hB
  refine lv_aload_n hx hb dX6_numerator_13 rfl (lv_at hl 0 rfl) ?_
  refine va_get (D := (dC, dI)) (ci := 6) (v := .ref (ad 9)) (C := RX6) (T := TX6) (N := 7) hx hb hts in_X6_numerator_X6 hown hK hP 0 rfl rfl 3 (by decide) (hts _ fl_X6_numerator_33) (fun _ h9 => h9) rfl dX6_numerator_14 ?_
  refine va_getN (D := (dC, dI)) (ci := 0) (v := .ref (ad 10)) (C := RX0) (T := TX0) (N := 6) hx hb hts in_X6_numerator_X0 hown hK hP 9 rfl rfl 1 (by decide) (va_Nw.use rfl (nw_X6_110 hN)) (fun _ h9 => h9) rfl dX6_numerator_17 ?_
  refine lv_iload_n hx hb dX6_numerator_20 rfl (lv_at hl 1 rfl) ?_
  refine lv_iconst (v := 3) hx hb dX6_numerator_21 (by decide) ?_
  refine lv_imul hx hb dX6_numerator_22 ?_
  refine lv_iload_n hx hb dX6_numerator_23 rfl (lv_at hl 2 rfl) ?_
  refine lv_iadd hx hb dX6_numerator_24 ?_
  have hi_13 := hm.1
  have hm := hm.2
  refine va_iald hx hb hK hP 10 0 rfl rfl hi_13 dX6_numerator_25 ?_
  exact hret (dnu_2 ((x1 * (3 : Int32)) + x2).toNatClampNeg) ds_1 dnu_2 dde_3 dbo_4 dln_5 dld_6 tba_7 tal_8 tro_9 tsc_10 tcl_11 rma_12 H locs ls 26 dX6_numerator_26 ⟨hP, hD, hS⟩ hm

set_option maxHeartbeats 4000000 in
set_option maxRecDepth 100000 in
theorem c0_X6_numerator (l : Launch) (dC : Nat → ClassId) (dI : Nat → Nat → Nat) (cy : Nat → ClassId) (ad : Nat → Nat) (sz : Nat) (ss : Int32) (ds : Int32) (ti : Nat → Int32) (co : Int32) (oma : Nat → Int32) (obr : Int32) (obj : Int32) (obo : Int32) (obm : Int32) (plo : Nat → Int32) (pch : Nat → Int32) (pbe : Nat → Int32) (pbl : Int32) (dnu : Nat → Int32) (dde : Nat → Int32) (dbo : Int32) (dln : Int32) (dld : Int32) (tba : Nat → Int32) (tal : Nat → Int32) (tro : Int32) (tsc : Int64) (tcl : Nat → Nat → Int64) (rma : Nat → Int32) (x1 : Int32) (x2 : Int32) (N : Nat) (Q : Int32 → Int32 → (Nat → Int32) → (Nat → Int32) → Int32 → Int32 → Int32 → (Nat → Int32) → (Nat → Int32) → Int32 → Int64 → (Nat → Nat → Int64) → (Nat → Int32) → Prop) (hm : p_X6_numerator N ti co Q (fun (_ : String) => False) x1 x2 ds dnu dde dbo dln dld tba tal tro tsc tcl rma) : Met l yX6_numerator wsX6_numerator rm0X6_numerator (va_Pc [.ref (ad 0), .int x1, .int x2] (cPre dC dI cy (wC ad cy ss ds ti co oma obr obj obo obm plo pch pbe pbl dnu dde dbo dln dld tba tal tro tsc tcl rma) sz)) (va_Qi (fun (r : Int32) (u : Int32 × (Nat → Int32) × (Nat → Int32) × Int32 × Int32 × Int32 × (Nat → Int32) × (Nat → Int32) × Int32 × Int64 × (Nat → Nat → Int64) × (Nat → Int32)) => Q r u.1 u.2.1 u.2.2.1 u.2.2.2.1 u.2.2.2.2.1 u.2.2.2.2.2.1 u.2.2.2.2.2.2.1 u.2.2.2.2.2.2.2.1 u.2.2.2.2.2.2.2.2.1 u.2.2.2.2.2.2.2.2.2.1 u.2.2.2.2.2.2.2.2.2.2.1 u.2.2.2.2.2.2.2.2.2.2.2) (fun u t => cPost dC dI cy (wC ad cy ss ds ti co oma obr obj obo obm plo pch pbe pbl dnu dde dbo dln dld tba tal tro tsc tcl rma) sz (wC ad cy ss (u.1) ti co oma obr obj obo obm plo pch pbe pbl (u.2.1) (u.2.2.1) (u.2.2.2.1) (u.2.2.2.2.1) (u.2.2.2.2.2.1) (u.2.2.2.2.2.2.1) (u.2.2.2.2.2.2.2.1) (u.2.2.2.2.2.2.2.2.1) (u.2.2.2.2.2.2.2.2.2.1) (u.2.2.2.2.2.2.2.2.2.2.1) (u.2.2.2.2.2.2.2.2.2.2.2)) t) (va_A (wC ad cy ss ds ti co oma obr obj obo obm plo pch pbe pbl dnu dde dbo dln dld tba tal tro tsc tcl rma) sz)) 0 0 (va_A (wC ad cy ss ds ti co oma obr obj obo obm plo pch pbe pbl dnu dde dbo dln dld tba tal tro tsc tcl rma) sz) := by
  refine Met.ofW (cc := cX6_numerator) (maxL := 3) (ret := (some .int)) (by decide) rfl ?_
  intro p e s m args below meth c s₁ B hml hv
  obtain ⟨rfl, hsz, hP, hK, hD0, hN⟩ := hv
  have hts := atoms_spec (ws := wsX6_numerator) B.pre
  have hown : s.vm.findClass RX6 = some m.cls := findClass_of_methodNamed B.named
  subst hsz
  have hD := hD0.self (sz := s.heap.size)
  generalize hAe : va_A (wC ad cy ss ds ti co oma obr obj obo obm plo pch pbe pbl dnu dde dbo dln dld tba tal tro tsc tcl rma) s.heap.size = A at hD ⊢
  have hA : ∀ q : Nat, s.heap.size ≤ q → A q := fun q h => by rw [← hAe]; exact Or.inr h
  have hl := lv_entry ([.ref (ad 0), .int x1, .int x2]) (n := 3) (Nat.le_of_ble_eq_true rfl)
  rw [lg_entry_eq]
  generalize (lg_sl ([.ref (ad 0), .int x1, .int x2]) ++ List.replicate (3 - (lg_sl ([.ref (ad 0), .int x1, .int x2])).length) Slot.unset).toArray = ls at hl ⊢
  have hl : lv_has ls 3 [(0, .ref (ad 0)), (1, .int x1), (2, .int x2)] := hl
  exact k0_X6_numerator_0 ⟨B.exec, B.bytes, hml, B.returns, hown, hts, B.notSynchronized, hK, hA, hN⟩ x1 x2 ds dnu dde dbo dln dld tba tal tro tsc tcl rma s.heap [] ls hm ⟨hP, hD, va_S.rf⟩ (lv_sub hl [0, 1, 2] rfl) (fun r ds dnu dde dbo dln dld tba tal tro tsc tcl rma H locs ls pc hdg hSt hq => W.iret B.exec B.bytes B.returns (fun t ht hW => ⟨⟨r, (ds, dnu, dde, dbo, dln, dld, tba, tal, tro, tsc, tcl, rma), rfl, hq, cPost_of hAe ht hW.alike hSt hK⟩, hSt.2.2.F ht⟩) hSt.2.2.2.2 hdg B.notSynchronized)

-- ===== X6_denominator, where it does not throw
abbrev rm0X6_denominator : Room := { frames := 43, cells := 0, slots := 0, locals := 4249 }
set_option maxHeartbeats 4000000 in
set_option maxRecDepth 100000 in
theorem k0_X6_denominator_0 {N : Nat} {ss : Int32} {ti : Nat → Int32} {co : Int32} {oma : Nat → Int32} {obr : Int32} {obj : Int32} {obo : Int32} {obm : Int32} {plo : Nat → Int32} {pch : Nat → Int32} {pbe : Nat → Int32} {pbl : Int32} {Q : Int32 → Int32 → (Nat → Int32) → (Nat → Int32) → Int32 → Int32 → Int32 → (Nat → Int32) → (Nat → Int32) → Int32 → Int64 → (Nat → Nat → Int64) → (Nat → Int32) → Prop} (C0 : cxM cX6_denominator 3 (some .int) RX6 wsX6_denominator p s m args meth c dC dI cy A) :
    ∀ (x1 : Int32) (x2 : Int32) (ds : Int32) (dnu : Nat → Int32) (dde : Nat → Int32) (dbo : Int32) (dln : Int32) (dld : Int32) (tba : Nat → Int32) (tal : Nat → Int32) (tro : Int32) (tsc : Int64) (tcl : Nat → Nat → Int64) (rma : Nat → Int32) (H : Heap) (locs : List Loc) (ls : Array Slot) (hm : p_X6_denominator N ti co Q (fun (_ : String) => False) x1 x2 ds dnu dde dbo dln dld tba tal tro tsc tcl rma) (hSt : stC dC dI A s (wC ad cy ss ds ti co oma obr obj obo obm plo pch pbe pbl dnu dde dbo dln dld tba tal tro tsc tcl rma) H locs) (hl : lv_has ls 3 [(0, .ref (ad 0)), (1, .int x1), (2, .int x2)]) (hret : ∀ (r : Int32) (ds : Int32) (dnu : Nat → Int32) (dde : Nat → Int32) (dbo : Int32) (dln : Int32) (dld : Int32) (tba : Nat → Int32) (tal : Nat → Int32) (tro : Int32) (tsc : Int64) (tcl : Nat → Nat → Int64) (rma : Nat → Int32) (H : Heap) (locs : List Loc) (ls : Array Slot) (pc : Nat), decode cX6_denominator pc = .ok (.ireturn, 1) → stC dC dI A s (wC ad cy ss ds ti co oma obr obj obo obm plo pch pbe pbl dnu dde dbo dln dld tba tal tro tsc tcl rma) H locs → Q r ds dnu dde dbo dln dld tba tal tro tsc tcl rma → W p l e rm0X6_denominator s m args below meth c H locs 0 0 Z (F0 m pc ls [.int r])), W p l e rm0X6_denominator s m args below meth c H locs 0 0 Z (F0 m 0 ls []) := by
  obtain ⟨hx, hb, hml, hr, hown, hts, hlocks, hK, hA, hN⟩ := id C0
  intro x1 x2 ds dnu dde dbo dln dld tba tal tro tsc tcl rma H locs ls hm hSt hl hret
  obtain ⟨hP, hD, hS⟩ := hSt
  unfold p_X6_denominator at hm
  refine lv_aload_n hx hb dX6_denominator_0 rfl (lv_at hl 0 rfl) ?_
  refine lv_iload_n hx hb dX6_denominator_1 rfl (lv_at hl 1 rfl) ?_
  have hFc := va_freeSame hD hS hA
  refine va_callv (va_runV (As := [.int x1]) (rest := []) ⟨hx, hb, hml, hown, hts⟩ (c0_X6_requireJob l dC dI cy ad H.size ss ds ti co oma obr obj obo obm plo pch pbe pbl dnu dde dbo dln dld tba tal tro tsc tcl rma x1 _ _ hm) (cwV 1 hts gX6_denominator_X6_requireJob rfl rfl rfl (by decide +kernel) ⟨Nat.le_of_ble_eq_true rfl, Nat.le_of_ble_eq_true rfl⟩) ⟨cPre_blind, va_recv hK hP (ci := 6) (q0 := 0) rfl rfl, fun U hU hW => ⟨rfl, cPre_at hP hK hD hN hU hW⟩⟩ rfl rfl hl.1 rfl (lv_room (Nat.le_of_ble_eq_true rfl)) dX6_denominator_2 ⟨Nat.zero_le _, Nat.zero_le _⟩) hS (fun q _ h => hFc q h) hFc (fun u t H locs ht hvm hw hB hz1 hk1 hS => ?_)
  try dsimp only at hw
  have hm := hw
  have hP : va_P (dC, dI) vwCl (wC ad cy ss ds ti co oma obr obj obo obm plo pch pbe pbl dnu dde dbo dln dld tba tal tro tsc tcl rma) H := cPost_P ht hB
  have hD : va_D A (wC ad cy ss ds ti co oma obr obj obo obm plo pch pbe pbl dnu dde dbo dln dld tba tal tro tsc tcl rma) := cPost_D hFc hB
  refine lv_iload_n hx hb dX6_denominator_5 rfl (lv_at hl 2 rfl) ?_
  have hFc := va_freeSame hD hS hA
  refine va_callv (va_runS (As := [.int x2]) (rest := []) ⟨hx, hb, hml, hown, hts⟩ (c0_X6_requireMachine l dC dI cy ad H.size ss ds ti co oma obr obj obo obm plo pch pbe pbl dnu dde dbo dln dld tba tal tro tsc tcl rma x2 _ _ hm) (cwS 1 hts gX6_denominator_X6_requireMachine rfl rfl rfl (by decide +kernel) ⟨Nat.le_of_ble_eq_true rfl, Nat.le_of_ble_eq_true rfl⟩) ⟨cPre_blind, fun U hU hW => ⟨rfl, cPre_at hP hK hD hN hU hW⟩⟩ rfl rfl hl.1 rfl (lv_room (Nat.le_of_ble_eq_true rfl)) dX6_denominator_6 ⟨Nat.zero_le _, Nat.zero_le _⟩) hS (fun q _ h => hFc q h) hFc (fun u t H locs ht hvm hw hB hz1 hk1 hS => ?_)
  try dsimp only at hw
  have hm := hw
  have hP : va_P (dC, dI) vwCl (wC ad cy ss ds ti co oma obr obj obo obm plo pch pbe pbl dnu dde dbo dln dld tba tal tro tsc tcl rma) H := cPost_P ht hB
  have hD : va_D A (wC ad cy ss ds ti co oma obr obj obo obm plo pch pbe pbl dnu dde dbo dln dld tba tal tro tsc tcl rma) := cPost_D hFc hB
  refine lv_aload_n hx hb dX6_denominator_9 rfl (lv_at hl 0 rfl) ?_
  have hFc := va_freeSame hD hS hA
  refine va_callv (va_runV (As := []) (rest := []) ⟨hx, hb, hml, hown, hts⟩ (c_X6_refreshDivision l dC dI cy ad H.size ss ds ti co oma obr obj obo obm plo pch pbe pbl dnu dde dbo dln dld tba tal tro tsc tcl rma  _ _ hm) (cwV 0 hts gX6_denominator_X6_refreshDivision rfl rfl rfl (by decide +kernel) ⟨Nat.le_of_ble_eq_true rfl, Nat.le_of_ble_eq_true rfl⟩) ⟨cPre_blind, va_recv hK hP (ci := 6) (q0 := 0) rfl rfl, fun U hU hW => ⟨rfl, cPre_at hP hK hD hN hU hW⟩⟩ rfl rfl hl.1 rfl (lv_room (Nat.le_of_ble_eq_true rfl)) dX6_denominator_10 ⟨Nat.zero_le _, Nat.zero_le _⟩) hS (fun q _ h => hFc q h) hFc (fun u t H locs ht hvm hw hB hz1 hk1 hS => ?_)
  obtain ⟨ds_1, dnu_2, dde_3, dbo_4, dln_5, dld_6, tba_7, tal_8, tro_9, tsc_10, tcl_11, rma_12⟩ := u
  try dsimp only at hw
  have hm := hw
  have hP : va_P (dC, dI) vwCl (wC ad cy ss ds_1 ti co oma obr obj obo obm plo pch pbe pbl dnu_2 dde_3 dbo_4 dln_5 dld_6 tba_7 tal_8 tro_9 tsc_10 tcl_11 rma_12) H := cPost_P ht hB
  have hD : va_D A (wC ad cy ss ds_1 ti co oma obr obj obo obm plo pch pbe pbl dnu_2 dde_3 dbo_4 dln_5 dld_6 tba_7 tal_8 tro_9 tsc_10 tcl_11 rma_12) := cPost_D hFc hB
  refine lv_aload_n hx hb dX6_denominator_13 rfl (lv_at hl 0 rfl) ?_
  refine va_get (D := (dC, dI)) (ci := 6) (v := .ref (ad 9)) (C := RX6) (T := TX6) (N := 7) hx hb hts in_X6_denominator_X6 hown hK hP 0 rfl rfl 3 (by decide) (hts _ fl_X6_denominator_33) (fun _ h9 => h9) rfl dX6_denominator_14 ?_
  refine va_getN (D := (dC, dI)) (ci := 0) (v := .ref (ad 11)) (C := RX0) (T := TX0) (N := 6) hx hb hts in_X6_denominator_X0 hown hK hP 9 rfl rfl 2 (by decide) (va_Nw.use rfl (nw_X6_113 hN)) (fun _ h9 => h9) rfl dX6_denominator_17 ?_
  refine lv_iload_n hx hb dX6_denominator_20 rfl (lv_at hl 1 rfl) ?_
  refine lv_iconst (v := 3) hx hb dX6_denominator_21 (by decide) ?_
  refine lv_imul hx hb dX6_denominator_22 ?_
  refine lv_iload_n hx hb dX6_denominator_23 rfl (lv_at hl 2 rfl) ?_
  refine lv_iadd hx hb dX6_denominator_24 ?_
  have hi_13 := hm.1
  have hm := hm.2
  refine va_iald hx hb hK hP 11 0 rfl rfl hi_13 dX6_denominator_25 ?_
  exact hret (dde_3 ((x1 * (3 : Int32)) + x2).toNatClampNeg) ds_1 dnu_2 dde_3 dbo_4 dln_5 dld_6 tba_7 tal_8 tro_9 tsc_10 tcl_11 rma_12 H locs ls 26 dX6_denominator_26 ⟨hP, hD, hS⟩ hm

set_option maxHeartbeats 4000000 in
set_option maxRecDepth 100000 in
theorem c0_X6_denominator (l : Launch) (dC : Nat → ClassId) (dI : Nat → Nat → Nat) (cy : Nat → ClassId) (ad : Nat → Nat) (sz : Nat) (ss : Int32) (ds : Int32) (ti : Nat → Int32) (co : Int32) (oma : Nat → Int32) (obr : Int32) (obj : Int32) (obo : Int32) (obm : Int32) (plo : Nat → Int32) (pch : Nat → Int32) (pbe : Nat → Int32) (pbl : Int32) (dnu : Nat → Int32) (dde : Nat → Int32) (dbo : Int32) (dln : Int32) (dld : Int32) (tba : Nat → Int32) (tal : Nat → Int32) (tro : Int32) (tsc : Int64) (tcl : Nat → Nat → Int64) (rma : Nat → Int32) (x1 : Int32) (x2 : Int32) (N : Nat) (Q : Int32 → Int32 → (Nat → Int32) → (Nat → Int32) → Int32 → Int32 → Int32 → (Nat → Int32) → (Nat → Int32) → Int32 → Int64 → (Nat → Nat → Int64) → (Nat → Int32) → Prop) (hm : p_X6_denominator N ti co Q (fun (_ : String) => False) x1 x2 ds dnu dde dbo dln dld tba tal tro tsc tcl rma) : Met l yX6_denominator wsX6_denominator rm0X6_denominator (va_Pc [.ref (ad 0), .int x1, .int x2] (cPre dC dI cy (wC ad cy ss ds ti co oma obr obj obo obm plo pch pbe pbl dnu dde dbo dln dld tba tal tro tsc tcl rma) sz)) (va_Qi (fun (r : Int32) (u : Int32 × (Nat → Int32) × (Nat → Int32) × Int32 × Int32 × Int32 × (Nat → Int32) × (Nat → Int32) × Int32 × Int64 × (Nat → Nat → Int64) × (Nat → Int32)) => Q r u.1 u.2.1 u.2.2.1 u.2.2.2.1 u.2.2.2.2.1 u.2.2.2.2.2.1 u.2.2.2.2.2.2.1 u.2.2.2.2.2.2.2.1 u.2.2.2.2.2.2.2.2.1 u.2.2.2.2.2.2.2.2.2.1 u.2.2.2.2.2.2.2.2.2.2.1 u.2.2.2.2.2.2.2.2.2.2.2) (fun u t => cPost dC dI cy (wC ad cy ss ds ti co oma obr obj obo obm plo pch pbe pbl dnu dde dbo dln dld tba tal tro tsc tcl rma) sz (wC ad cy ss (u.1) ti co oma obr obj obo obm plo pch pbe pbl (u.2.1) (u.2.2.1) (u.2.2.2.1) (u.2.2.2.2.1) (u.2.2.2.2.2.1) (u.2.2.2.2.2.2.1) (u.2.2.2.2.2.2.2.1) (u.2.2.2.2.2.2.2.2.1) (u.2.2.2.2.2.2.2.2.2.1) (u.2.2.2.2.2.2.2.2.2.2.1) (u.2.2.2.2.2.2.2.2.2.2.2)) t) (va_A (wC ad cy ss ds ti co oma obr obj obo obm plo pch pbe pbl dnu dde dbo dln dld tba tal tro tsc tcl rma) sz)) 0 0 (va_A (wC ad cy ss ds ti co oma obr obj obo obm plo pch pbe pbl dnu dde dbo dln dld tba tal tro tsc tcl rma) sz) := by
  refine Met.ofW (cc := cX6_denominator) (maxL := 3) (ret := (some .int)) (by decide) rfl ?_
  intro p e s m args below meth c s₁ B hml hv
  obtain ⟨rfl, hsz, hP, hK, hD0, hN⟩ := hv
  have hts := atoms_spec (ws := wsX6_denominator) B.pre
  have hown : s.vm.findClass RX6 = some m.cls := findClass_of_methodNamed B.named
  subst hsz
  have hD := hD0.self (sz := s.heap.size)
  generalize hAe : va_A (wC ad cy ss ds ti co oma obr obj obo obm plo pch pbe pbl dnu dde dbo dln dld tba tal tro tsc tcl rma) s.heap.size = A at hD ⊢
  have hA : ∀ q : Nat, s.heap.size ≤ q → A q := fun q h => by rw [← hAe]; exact Or.inr h
  have hl := lv_entry ([.ref (ad 0), .int x1, .int x2]) (n := 3) (Nat.le_of_ble_eq_true rfl)
  rw [lg_entry_eq]
  generalize (lg_sl ([.ref (ad 0), .int x1, .int x2]) ++ List.replicate (3 - (lg_sl ([.ref (ad 0), .int x1, .int x2])).length) Slot.unset).toArray = ls at hl ⊢
  have hl : lv_has ls 3 [(0, .ref (ad 0)), (1, .int x1), (2, .int x2)] := hl
  exact k0_X6_denominator_0 ⟨B.exec, B.bytes, hml, B.returns, hown, hts, B.notSynchronized, hK, hA, hN⟩ x1 x2 ds dnu dde dbo dln dld tba tal tro tsc tcl rma s.heap [] ls hm ⟨hP, hD, va_S.rf⟩ (lv_sub hl [0, 1, 2] rfl) (fun r ds dnu dde dbo dln dld tba tal tro tsc tcl rma H locs ls pc hdg hSt hq => W.iret B.exec B.bytes B.returns (fun t ht hW => ⟨⟨r, (ds, dnu, dde, dbo, dln, dld, tba, tal, tro, tsc, tcl, rma), rfl, hq, cPost_of hAe ht hW.alike hSt hK⟩, hSt.2.2.F ht⟩) hSt.2.2.2.2 hdg B.notSynchronized)

-- ===== X6_isDivided, where it does not throw
abbrev rm0X6_isDivided : Room := { frames := 43, cells := 0, slots := 0, locals := 4249 }
set_option maxHeartbeats 4000000 in
set_option maxRecDepth 100000 in
theorem k0_X6_isDivided_0 {N : Nat} {ss : Int32} {ti : Nat → Int32} {co : Int32} {oma : Nat → Int32} {obr : Int32} {obj : Int32} {obo : Int32} {obm : Int32} {plo : Nat → Int32} {pch : Nat → Int32} {pbe : Nat → Int32} {pbl : Int32} {Q : Int32 → Int32 → (Nat → Int32) → (Nat → Int32) → Int32 → Int32 → Int32 → (Nat → Int32) → (Nat → Int32) → Int32 → Int64 → (Nat → Nat → Int64) → (Nat → Int32) → Prop} (C0 : cxM cX6_isDivided 2 (some .boolean) RX6 wsX6_isDivided p s m args meth c dC dI cy A) :
    ∀ (x1 : Int32) (ds : Int32) (dnu : Nat → Int32) (dde : Nat → Int32) (dbo : Int32) (dln : Int32) (dld : Int32) (tba : Nat → Int32) (tal : Nat → Int32) (tro : Int32) (tsc : Int64) (tcl : Nat → Nat → Int64) (rma : Nat → Int32) (H : Heap) (locs : List Loc) (ls : Array Slot) (hm : p_X6_isDivided N ti co Q (fun (_ : String) => False) x1 ds dnu dde dbo dln dld tba tal tro tsc tcl rma) (hSt : stC dC dI A s (wC ad cy ss ds ti co oma obr obj obo obm plo pch pbe pbl dnu dde dbo dln dld tba tal tro tsc tcl rma) H locs) (hl : lv_has ls 2 [(0, .ref (ad 0)), (1, .int x1)]) (hret : ∀ (r : Int32) (ds : Int32) (dnu : Nat → Int32) (dde : Nat → Int32) (dbo : Int32) (dln : Int32) (dld : Int32) (tba : Nat → Int32) (tal : Nat → Int32) (tro : Int32) (tsc : Int64) (tcl : Nat → Nat → Int64) (rma : Nat → Int32) (H : Heap) (locs : List Loc) (ls : Array Slot) (pc : Nat), decode cX6_isDivided pc = .ok (.ireturn, 1) → narrow .boolean (.int r) = .int r → stC dC dI A s (wC ad cy ss ds ti co oma obr obj obo obm plo pch pbe pbl dnu dde dbo dln dld tba tal tro tsc tcl rma) H locs → Q r ds dnu dde dbo dln dld tba tal tro tsc tcl rma → W p l e rm0X6_isDivided s m args below meth c H locs 0 0 Z (F0 m pc ls [.int r])), W p l e rm0X6_isDivided s m args below meth c H locs 0 0 Z (F0 m 0 ls []) := by
  obtain ⟨hx, hb, hml, hr, hown, hts, hlocks, hK, hA, hN⟩ := id C0
  intro x1 ds dnu dde dbo dln dld tba tal tro tsc tcl rma H locs ls hm hSt hl hret
  obtain ⟨hP, hD, hS⟩ := hSt
  unfold p_X6_isDivided at hm
  refine lv_aload_n hx hb dX6_isDivided_0 rfl (lv_at hl 0 rfl) ?_
  refine lv_iload_n hx hb dX6_isDivided_1 rfl (lv_at hl 1 rfl) ?_
  have hFc := va_freeSame hD hS hA
  refine va_callv (va_runV (As := [.int x1]) (rest := []) ⟨hx, hb, hml, hown, hts⟩ (c0_X6_requireJob l dC dI cy ad H.size ss ds ti co oma obr obj obo obm plo pch pbe pbl dnu dde dbo dln dld tba tal tro tsc tcl rma x1 _ _ hm) (cwV 1 hts gX6_isDivided_X6_requireJob rfl rfl rfl (by decide +kernel) ⟨Nat.le_of_ble_eq_true rfl, Nat.le_of_ble_eq_true rfl⟩) ⟨cPre_blind, va_recv hK hP (ci := 6) (q0 := 0) rfl rfl, fun U hU hW => ⟨rfl, cPre_at hP hK hD hN hU hW⟩⟩ rfl rfl hl.1 rfl (lv_room (Nat.le_of_ble_eq_true rfl)) dX6_isDivided_2 ⟨Nat.zero_le _, Nat.zero_le _⟩) hS (fun q _ h => hFc q h) hFc (fun u t H locs ht hvm hw hB hz1 hk1 hS => ?_)
  try dsimp only at hw
  have hm := hw
  have hP : va_P (dC, dI) vwCl (wC ad cy ss ds ti co oma obr obj obo obm plo pch pbe pbl dnu dde dbo dln dld tba tal tro tsc tcl rma) H := cPost_P ht hB
  have hD : va_D A (wC ad cy ss ds ti co oma obr obj obo obm plo pch pbe pbl dnu dde dbo dln dld tba tal tro tsc tcl rma) := cPost_D hFc hB
  refine lv_aload_n hx hb dX6_isDivided_5 rfl (lv_at hl 0 rfl) ?_
  have hFc := va_freeSame hD hS hA
  refine va_callv (va_runV (As := []) (rest := []) ⟨hx, hb, hml, hown, hts⟩ (c_X6_refreshDivision l dC dI cy ad H.size ss ds ti co oma obr obj obo obm plo pch pbe pbl dnu dde dbo dln dld tba tal tro tsc tcl rma  _ _ hm) (cwV 0 hts gX6_isDivided_X6_refreshDivision rfl rfl rfl (by decide +kernel) ⟨Nat.le_of_ble_eq_true rfl, Nat.le_of_ble_eq_true rfl⟩) ⟨cPre_blind, va_recv hK hP (ci := 6) (q0 := 0) rfl rfl, fun U hU hW => ⟨rfl, cPre_at hP hK hD hN hU hW⟩⟩ rfl rfl hl.1 rfl (lv_room (Nat.le_of_ble_eq_true rfl)) dX6_isDivided_6 ⟨Nat.zero_le _, Nat.zero_le _⟩) hS (fun q _ h => hFc q h) hFc (fun u t H locs ht hvm hw hB hz1 hk1 hS => ?_)
  obtain ⟨ds_1, dnu_2, dde_3, dbo_4, dln_5, dld_6, tba_7, tal_8, tro_9, tsc_10, tcl_11, rma_12⟩ := u
  try dsimp only at hw
  have hm := hw
  have hP : va_P (dC, dI) vwCl (wC ad cy ss ds_1 ti co oma obr obj obo obm plo pch pbe pbl dnu_2 dde_3 dbo_4 dln_5 dld_6 tba_7 tal_8 tro_9 tsc_10 tcl_11 rma_12) H := cPost_P ht hB
  have hD : va_D A (wC ad cy ss ds_1 ti co oma obr obj obo obm plo pch pbe pbl dnu_2 dde_3 dbo_4 dln_5 dld_6 tba_7 tal_8 tro_9 tsc_10 tcl_11 rma_12) := cPost_D hFc hB
  refine lv_aload_n hx hb dX6_isDivided_9 rfl (lv_at hl 0 rfl) ?_
  refine va_get (D := (dC, dI)) (ci := 6) (v := .ref (ad 9)) (C := RX6) (T := TX6) (N := 7) hx hb hts in_X6_isDivided_X6 hown hK hP 0 rfl rfl 3 (by decide) (hts _ fl_X6_isDivided_33) (fun _ h9 => h9) rfl dX6_isDivided_10 ?_
  refine lv_iload_n hx hb dX6_isDivided_13 rfl (lv_at hl 1 rfl) ?_
  have hFc := va_freeSame hD hS hA
  refine va_calli (va_runV (As := [.int x1]) (rest := []) ⟨hx, hb, hml, hown, hts⟩ (c_X0_wholeMachine l dC dI cy ad H.size ss ds_1 ti co oma obr obj obo obm plo pch pbe pbl dnu_2 dde_3 dbo_4 dln_5 dld_6 tba_7 tal_8 tro_9 tsc_10 tcl_11 rma_12 x1 _ _ hm) (cwV 1 hts gX6_isDivided_X0_wholeMachine rfl rfl rfl (by decide +kernel) ⟨Nat.le_of_ble_eq_true rfl, Nat.le_of_ble_eq_true rfl⟩) ⟨cPre_blind, va_recv hK hP (ci := 0) (q0 := 9) rfl rfl, fun U hU hW => ⟨rfl, cPre_at hP hK hD hN hU hW⟩⟩ rfl rfl hl.1 rfl (lv_room (Nat.le_of_ble_eq_true rfl)) dX6_isDivided_14 ⟨Nat.zero_le _, Nat.zero_le _⟩) hS (fun q _ h => hFc q h) hFc (fun r_13 u t H locs ht hvm hw hB hz1 hk1 hS => ?_)
  try dsimp only at hw
  have hm := hw
  have hP : va_P (dC, dI) vwCl (wC ad cy ss ds_1 ti co oma obr obj obo obm plo pch pbe pbl dnu_2 dde_3 dbo_4 dln_5 dld_6 tba_7 tal_8 tro_9 tsc_10 tcl_11 rma_12) H := cPost_P ht hB
  have hD : va_D A (wC ad cy ss ds_1 ti co oma obr obj obo obm plo pch pbe pbl dnu_2 dde_3 dbo_4 dln_5 dld_6 tba_7 tal_8 tro_9 tsc_10 tcl_11 rma_12) := cPost_D hFc hB
  refine lv_iconst (v := -1) hx hb dX6_isDivided_17 (by decide) ?_
  refine lv_icmp_ne (tgt := 25) hx hb dX6_isDivided_18 (by decide) (fun c_14 => ?_) (fun c_14 => ?_)
  · have hm := hm.2 c_14
    refine lv_iconst (v := 0) hx hb dX6_isDivided_25 (by decide) ?_
    exact hret (0 : Int32) ds_1 dnu_2 dde_3 dbo_4 dln_5 dld_6 tba_7 tal_8 tro_9 tsc_10 tcl_11 rma_12 H locs ls 26 dX6_isDivided_26 rfl ⟨hP, hD, hS⟩ hm
  · have hm := hm.1 c_14
    refine lv_iconst (v := 1) hx hb dX6_isDivided_21 (by decide) ?_
    refine lv_goto (tgt := 26) hx hb dX6_isDivided_22 (by decide) ?_
    exact hret (1 : Int32) ds_1 dnu_2 dde_3 dbo_4 dln_5 dld_6 tba_7 tal_8 tro_9 tsc_10 tcl_11 rma_12 H locs ls 26 dX6_isDivided_26 rfl ⟨hP, hD, hS⟩ hm

set_option maxHeartbeats 4000000 in
set_option maxRecDepth 100000 in
theorem c0_X6_isDivided (l : Launch) (dC : Nat → ClassId) (dI : Nat → Nat → Nat) (cy : Nat → ClassId) (ad : Nat → Nat) (sz : Nat) (ss : Int32) (ds : Int32) (ti : Nat → Int32) (co : Int32) (oma : Nat → Int32) (obr : Int32) (obj : Int32) (obo : Int32) (obm : Int32) (plo : Nat → Int32) (pch : Nat → Int32) (pbe : Nat → Int32) (pbl : Int32) (dnu : Nat → Int32) (dde : Nat → Int32) (dbo : Int32) (dln : Int32) (dld : Int32) (tba : Nat → Int32) (tal : Nat → Int32) (tro : Int32) (tsc : Int64) (tcl : Nat → Nat → Int64) (rma : Nat → Int32) (x1 : Int32) (N : Nat) (Q : Int32 → Int32 → (Nat → Int32) → (Nat → Int32) → Int32 → Int32 → Int32 → (Nat → Int32) → (Nat → Int32) → Int32 → Int64 → (Nat → Nat → Int64) → (Nat → Int32) → Prop) (hm : p_X6_isDivided N ti co Q (fun (_ : String) => False) x1 ds dnu dde dbo dln dld tba tal tro tsc tcl rma) : Met l yX6_isDivided wsX6_isDivided rm0X6_isDivided (va_Pc [.ref (ad 0), .int x1] (cPre dC dI cy (wC ad cy ss ds ti co oma obr obj obo obm plo pch pbe pbl dnu dde dbo dln dld tba tal tro tsc tcl rma) sz)) (va_Qi (fun (r : Int32) (u : Int32 × (Nat → Int32) × (Nat → Int32) × Int32 × Int32 × Int32 × (Nat → Int32) × (Nat → Int32) × Int32 × Int64 × (Nat → Nat → Int64) × (Nat → Int32)) => Q r u.1 u.2.1 u.2.2.1 u.2.2.2.1 u.2.2.2.2.1 u.2.2.2.2.2.1 u.2.2.2.2.2.2.1 u.2.2.2.2.2.2.2.1 u.2.2.2.2.2.2.2.2.1 u.2.2.2.2.2.2.2.2.2.1 u.2.2.2.2.2.2.2.2.2.2.1 u.2.2.2.2.2.2.2.2.2.2.2 ∧ narrow .boolean (.int r) = .int r) (fun u t => cPost dC dI cy (wC ad cy ss ds ti co oma obr obj obo obm plo pch pbe pbl dnu dde dbo dln dld tba tal tro tsc tcl rma) sz (wC ad cy ss (u.1) ti co oma obr obj obo obm plo pch pbe pbl (u.2.1) (u.2.2.1) (u.2.2.2.1) (u.2.2.2.2.1) (u.2.2.2.2.2.1) (u.2.2.2.2.2.2.1) (u.2.2.2.2.2.2.2.1) (u.2.2.2.2.2.2.2.2.1) (u.2.2.2.2.2.2.2.2.2.1) (u.2.2.2.2.2.2.2.2.2.2.1) (u.2.2.2.2.2.2.2.2.2.2.2)) t) (va_A (wC ad cy ss ds ti co oma obr obj obo obm plo pch pbe pbl dnu dde dbo dln dld tba tal tro tsc tcl rma) sz)) 0 0 (va_A (wC ad cy ss ds ti co oma obr obj obo obm plo pch pbe pbl dnu dde dbo dln dld tba tal tro tsc tcl rma) sz) := by
  refine Met.ofW (cc := cX6_isDivided) (maxL := 2) (ret := (some .boolean)) (by decide) rfl ?_
  intro p e s m args below meth c s₁ B hml hv
  obtain ⟨rfl, hsz, hP, hK, hD0, hN⟩ := hv
  have hts := atoms_spec (ws := wsX6_isDivided) B.pre
  have hown : s.vm.findClass RX6 = some m.cls := findClass_of_methodNamed B.named
  subst hsz
  have hD := hD0.self (sz := s.heap.size)
  generalize hAe : va_A (wC ad cy ss ds ti co oma obr obj obo obm plo pch pbe pbl dnu dde dbo dln dld tba tal tro tsc tcl rma) s.heap.size = A at hD ⊢
  have hA : ∀ q : Nat, s.heap.size ≤ q → A q := fun q h => by rw [← hAe]; exact Or.inr h
  have hl := lv_entry ([.ref (ad 0), .int x1]) (n := 2) (Nat.le_of_ble_eq_true rfl)
  rw [lg_entry_eq]
  generalize (lg_sl ([.ref (ad 0), .int x1]) ++ List.replicate (2 - (lg_sl ([.ref (ad 0), .int x1])).length) Slot.unset).toArray = ls at hl ⊢
  have hl : lv_has ls 2 [(0, .ref (ad 0)), (1, .int x1)] := hl
  exact k0_X6_isDivided_0 ⟨B.exec, B.bytes, hml, B.returns, hown, hts, B.notSynchronized, hK, hA, hN⟩ x1 ds dnu dde dbo dln dld tba tal tro tsc tcl rma s.heap [] ls hm ⟨hP, hD, va_S.rf⟩ (lv_sub hl [0, 1] rfl) (fun r ds dnu dde dbo dln dld tba tal tro tsc tcl rma H locs ls pc hdg hn hSt hq => W.zret B.exec B.bytes B.returns hn (fun t ht hW => ⟨⟨r, (ds, dnu, dde, dbo, dln, dld, tba, tal, tro, tsc, tcl, rma), rfl, ⟨hq, hn⟩, cPost_of hAe ht hW.alike hSt hK⟩, hSt.2.2.F ht⟩) hSt.2.2.2.2 hdg B.notSynchronized)

-- ===== X6_roundedMachine, where it does not throw
abbrev rm0X6_roundedMachine : Room := { frames := 43, cells := 0, slots := 0, locals := 4249 }
set_option maxHeartbeats 4000000 in
set_option maxRecDepth 100000 in
theorem k0_X6_roundedMachine_0 {N : Nat} {ss : Int32} {ti : Nat → Int32} {co : Int32} {oma : Nat → Int32} {obr : Int32} {obj : Int32} {obo : Int32} {obm : Int32} {plo : Nat → Int32} {pch : Nat → Int32} {pbe : Nat → Int32} {pbl : Int32} {Q : Int32 → Int32 → (Nat → Int32) → (Nat → Int32) → Int32 → Int32 → Int32 → (Nat → Int32) → (Nat → Int32) → Int32 → Int64 → (Nat → Nat → Int64) → (Nat → Int32) → Prop} (C0 : cxM cX6_roundedMachine 2 (some .int) RX6 wsX6_roundedMachine p s m args meth c dC dI cy A) :
    ∀ (x1 : Int32) (ds : Int32) (dnu : Nat → Int32) (dde : Nat → Int32) (dbo : Int32) (dln : Int32) (dld : Int32) (tba : Nat → Int32) (tal : Nat → Int32) (tro : Int32) (tsc : Int64) (tcl : Nat → Nat → Int64) (rma : Nat → Int32) (H : Heap) (locs : List Loc) (ls : Array Slot) (hm : p_X6_roundedMachine N ti co Q (fun (_ : String) => False) x1 ds dnu dde dbo dln dld tba tal tro tsc tcl rma) (hSt : stC dC dI A s (wC ad cy ss ds ti co oma obr obj obo obm plo pch pbe pbl dnu dde dbo dln dld tba tal tro tsc tcl rma) H locs) (hl : lv_has ls 2 [(0, .ref (ad 0)), (1, .int x1)]) (hret : ∀ (r : Int32) (ds : Int32) (dnu : Nat → Int32) (dde : Nat → Int32) (dbo : Int32) (dln : Int32) (dld : Int32) (tba : Nat → Int32) (tal : Nat → Int32) (tro : Int32) (tsc : Int64) (tcl : Nat → Nat → Int64) (rma : Nat → Int32) (H : Heap) (locs : List Loc) (ls : Array Slot) (pc : Nat), decode cX6_roundedMachine pc = .ok (.ireturn, 1) → stC dC dI A s (wC ad cy ss ds ti co oma obr obj obo obm plo pch pbe pbl dnu dde dbo dln dld tba tal tro tsc tcl rma) H locs → Q r ds dnu dde dbo dln dld tba tal tro tsc tcl rma → W p l e rm0X6_roundedMachine s m args below meth c H locs 0 0 Z (F0 m pc ls [.int r])), W p l e rm0X6_roundedMachine s m args below meth c H locs 0 0 Z (F0 m 0 ls []) := by
  obtain ⟨hx, hb, hml, hr, hown, hts, hlocks, hK, hA, hN⟩ := id C0
  intro x1 ds dnu dde dbo dln dld tba tal tro tsc tcl rma H locs ls hm hSt hl hret
  obtain ⟨hP, hD, hS⟩ := hSt
  unfold p_X6_roundedMachine at hm
  refine lv_aload_n hx hb dX6_roundedMachine_0 rfl (lv_at hl 0 rfl) ?_
  refine lv_iload_n hx hb dX6_roundedMachine_1 rfl (lv_at hl 1 rfl) ?_
  have hFc := va_freeSame hD hS hA
  refine va_callv (va_runV (As := [.int x1]) (rest := []) ⟨hx, hb, hml, hown, hts⟩ (c0_X6_requireJob l dC dI cy ad H.size ss ds ti co oma obr obj obo obm plo pch pbe pbl dnu dde dbo dln dld tba tal tro tsc tcl rma x1 _ _ hm) (cwV 1 hts gX6_roundedMachine_X6_requireJob rfl rfl rfl (by decide +kernel) ⟨Nat.le_of_ble_eq_true rfl, Nat.le_of_ble_eq_true rfl⟩) ⟨cPre_blind, va_recv hK hP (ci := 6) (q0 := 0) rfl rfl, fun U hU hW => ⟨rfl, cPre_at hP hK hD hN hU hW⟩⟩ rfl rfl hl.1 rfl (lv_room (Nat.le_of_ble_eq_true rfl)) dX6_roundedMachine_2 ⟨Nat.zero_le _, Nat.zero_le _⟩) hS (fun q _ h => hFc q h) hFc (fun u t H locs ht hvm hw hB hz1 hk1 hS => ?_)
  try dsimp only at hw
  have hm := hw
  have hP : va_P (dC, dI) vwCl (wC ad cy ss ds ti co oma obr obj obo obm plo pch pbe pbl dnu dde dbo dln dld tba tal tro tsc tcl rma) H := cPost_P ht hB
  have hD : va_D A (wC ad cy ss ds ti co oma obr obj obo obm plo pch pbe pbl dnu dde dbo dln dld tba tal tro tsc tcl rma) := cPost_D hFc hB
  refine lv_aload_n hx hb dX6_roundedMachine_5 rfl (lv_at hl 0 rfl) ?_
  have hFc := va_freeSame hD hS hA
  refine va_callv (va_runV (As := []) (rest := []) ⟨hx, hb, hml, hown, hts⟩ (c_X6_refreshDivision l dC dI cy ad H.size ss ds ti co oma obr obj obo obm plo pch pbe pbl dnu dde dbo dln dld tba tal tro tsc tcl rma  _ _ hm) (cwV 0 hts gX6_roundedMachine_X6_refreshDivision rfl rfl rfl (by decide +kernel) ⟨Nat.le_of_ble_eq_true rfl, Nat.le_of_ble_eq_true rfl⟩) ⟨cPre_blind, va_recv hK hP (ci := 6) (q0 := 0) rfl rfl, fun U hU hW => ⟨rfl, cPre_at hP hK hD hN hU hW⟩⟩ rfl rfl hl.1 rfl (lv_room (Nat.le_of_ble_eq_true rfl)) dX6_roundedMachine_6 ⟨Nat.zero_le _, Nat.zero_le _⟩) hS (fun q _ h => hFc q h) hFc (fun u t H locs ht hvm hw hB hz1 hk1 hS => ?_)
  obtain ⟨ds_1, dnu_2, dde_3, dbo_4, dln_5, dld_6, tba_7, tal_8, tro_9, tsc_10, tcl_11, rma_12⟩ := u
  try dsimp only at hw
  have hm := hw
  have hP : va_P (dC, dI) vwCl (wC ad cy ss ds_1 ti co oma obr obj obo obm plo pch pbe pbl dnu_2 dde_3 dbo_4 dln_5 dld_6 tba_7 tal_8 tro_9 tsc_10 tcl_11 rma_12) H := cPost_P ht hB
  have hD : va_D A (wC ad cy ss ds_1 ti co oma obr obj obo obm plo pch pbe pbl dnu_2 dde_3 dbo_4 dln_5 dld_6 tba_7 tal_8 tro_9 tsc_10 tcl_11 rma_12) := cPost_D hFc hB
  refine lv_aload_n hx hb dX6_roundedMachine_9 rfl (lv_at hl 0 rfl) ?_
  refine va_get (D := (dC, dI)) (ci := 6) (v := .ref (ad 16)) (C := RX6) (T := TX6) (N := 7) hx hb hts in_X6_roundedMachine_X6 hown hK hP 0 rfl rfl 4 (by decide) (hts _ fl_X6_roundedMachine_40) (fun _ h9 => h9) rfl dX6_roundedMachine_10 ?_
  refine va_getN (D := (dC, dI)) (ci := 4) (v := .ref (ad 17)) (C := RX4) (T := TX4) (N := 1) hx hb hts in_X6_roundedMachine_X4 hown hK hP 16 rfl rfl 0 (by decide) (va_Nw.use rfl (nw_X6_126 hN)) (fun _ h9 => h9) rfl dX6_roundedMachine_13 ?_
  refine lv_iload_n hx hb dX6_roundedMachine_16 rfl (lv_at hl 1 rfl) ?_
  have hi_13 := hm.1
  have hm := hm.2
  refine va_iald hx hb hK hP 17 0 rfl rfl hi_13 dX6_roundedMachine_17 ?_
  exact hret (rma_12 (x1).toNatClampNeg) ds_1 dnu_2 dde_3 dbo_4 dln_5 dld_6 tba_7 tal_8 tro_9 tsc_10 tcl_11 rma_12 H locs ls 18 dX6_roundedMachine_18 ⟨hP, hD, hS⟩ hm

set_option maxHeartbeats 4000000 in
set_option maxRecDepth 100000 in
theorem c0_X6_roundedMachine (l : Launch) (dC : Nat → ClassId) (dI : Nat → Nat → Nat) (cy : Nat → ClassId) (ad : Nat → Nat) (sz : Nat) (ss : Int32) (ds : Int32) (ti : Nat → Int32) (co : Int32) (oma : Nat → Int32) (obr : Int32) (obj : Int32) (obo : Int32) (obm : Int32) (plo : Nat → Int32) (pch : Nat → Int32) (pbe : Nat → Int32) (pbl : Int32) (dnu : Nat → Int32) (dde : Nat → Int32) (dbo : Int32) (dln : Int32) (dld : Int32) (tba : Nat → Int32) (tal : Nat → Int32) (tro : Int32) (tsc : Int64) (tcl : Nat → Nat → Int64) (rma : Nat → Int32) (x1 : Int32) (N : Nat) (Q : Int32 → Int32 → (Nat → Int32) → (Nat → Int32) → Int32 → Int32 → Int32 → (Nat → Int32) → (Nat → Int32) → Int32 → Int64 → (Nat → Nat → Int64) → (Nat → Int32) → Prop) (hm : p_X6_roundedMachine N ti co Q (fun (_ : String) => False) x1 ds dnu dde dbo dln dld tba tal tro tsc tcl rma) : Met l yX6_roundedMachine wsX6_roundedMachine rm0X6_roundedMachine (va_Pc [.ref (ad 0), .int x1] (cPre dC dI cy (wC ad cy ss ds ti co oma obr obj obo obm plo pch pbe pbl dnu dde dbo dln dld tba tal tro tsc tcl rma) sz)) (va_Qi (fun (r : Int32) (u : Int32 × (Nat → Int32) × (Nat → Int32) × Int32 × Int32 × Int32 × (Nat → Int32) × (Nat → Int32) × Int32 × Int64 × (Nat → Nat → Int64) × (Nat → Int32)) => Q r u.1 u.2.1 u.2.2.1 u.2.2.2.1 u.2.2.2.2.1 u.2.2.2.2.2.1 u.2.2.2.2.2.2.1 u.2.2.2.2.2.2.2.1 u.2.2.2.2.2.2.2.2.1 u.2.2.2.2.2.2.2.2.2.1 u.2.2.2.2.2.2.2.2.2.2.1 u.2.2.2.2.2.2.2.2.2.2.2) (fun u t => cPost dC dI cy (wC ad cy ss ds ti co oma obr obj obo obm plo pch pbe pbl dnu dde dbo dln dld tba tal tro tsc tcl rma) sz (wC ad cy ss (u.1) ti co oma obr obj obo obm plo pch pbe pbl (u.2.1) (u.2.2.1) (u.2.2.2.1) (u.2.2.2.2.1) (u.2.2.2.2.2.1) (u.2.2.2.2.2.2.1) (u.2.2.2.2.2.2.2.1) (u.2.2.2.2.2.2.2.2.1) (u.2.2.2.2.2.2.2.2.2.1) (u.2.2.2.2.2.2.2.2.2.2.1) (u.2.2.2.2.2.2.2.2.2.2.2)) t) (va_A (wC ad cy ss ds ti co oma obr obj obo obm plo pch pbe pbl dnu dde dbo dln dld tba tal tro tsc tcl rma) sz)) 0 0 (va_A (wC ad cy ss ds ti co oma obr obj obo obm plo pch pbe pbl dnu dde dbo dln dld tba tal tro tsc tcl rma) sz) := by
  refine Met.ofW (cc := cX6_roundedMachine) (maxL := 2) (ret := (some .int)) (by decide) rfl ?_
  intro p e s m args below meth c s₁ B hml hv
  obtain ⟨rfl, hsz, hP, hK, hD0, hN⟩ := hv
  have hts := atoms_spec (ws := wsX6_roundedMachine) B.pre
  have hown : s.vm.findClass RX6 = some m.cls := findClass_of_methodNamed B.named
  subst hsz
  have hD := hD0.self (sz := s.heap.size)
  generalize hAe : va_A (wC ad cy ss ds ti co oma obr obj obo obm plo pch pbe pbl dnu dde dbo dln dld tba tal tro tsc tcl rma) s.heap.size = A at hD ⊢
  have hA : ∀ q : Nat, s.heap.size ≤ q → A q := fun q h => by rw [← hAe]; exact Or.inr h
  have hl := lv_entry ([.ref (ad 0), .int x1]) (n := 2) (Nat.le_of_ble_eq_true rfl)
  rw [lg_entry_eq]
  generalize (lg_sl ([.ref (ad 0), .int x1]) ++ List.replicate (2 - (lg_sl ([.ref (ad 0), .int x1])).length) Slot.unset).toArray = ls at hl ⊢
  have hl : lv_has ls 2 [(0, .ref (ad 0)), (1, .int x1)] := hl
  exact k0_X6_roundedMachine_0 ⟨B.exec, B.bytes, hml, B.returns, hown, hts, B.notSynchronized, hK, hA, hN⟩ x1 ds dnu dde dbo dln dld tba tal tro tsc tcl rma s.heap [] ls hm ⟨hP, hD, va_S.rf⟩ (lv_sub hl [0, 1] rfl) (fun r ds dnu dde dbo dln dld tba tal tro tsc tcl rma H locs ls pc hdg hSt hq => W.iret B.exec B.bytes B.returns (fun t ht hW => ⟨⟨r, (ds, dnu, dde, dbo, dln, dld, tba, tal, tro, tsc, tcl, rma), rfl, hq, cPost_of hAe ht hW.alike hSt hK⟩, hSt.2.2.F ht⟩) hSt.2.2.2.2 hdg B.notSynchronized)
