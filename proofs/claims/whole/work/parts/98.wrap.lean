abbrev rmL_addJob : Room := { frames := 11, cells := 1, slots := 6, locals := 224 }
set_option maxHeartbeats 4000000 in
set_option maxRecDepth 100000 in
theorem c_L_addJob (l : Launch) (dC : Nat → ClassId) (dI : Nat → Nat → Nat) (cy : Nat → ClassId) (ad : Nat → Nat) (sz : Nat) (ss : Int32) (ds : Int32) (ti : Nat → Int32) (co : Int32) (oma : Nat → Int32) (obr : Int32) (obj : Int32) (obo : Int32) (obm : Int32) (plo : Nat → Int32) (pch : Nat → Int32) (pbe : Nat → Int32) (pbl : Int32) (dnu : Nat → Int32) (dde : Nat → Int32) (dbo : Int32) (dln : Int32) (dld : Int32) (tba : Nat → Int32) (tal : Nat → Int32) (tro : Int32) (tsc : Int64) (tcl : Nat → Nat → Int64) (rma : Nat → Int32) (x1 : Int32) (x2 : Int32) (x3 : Int32) (N : Nat) (Q : Int32 → Int32 → Int32 → (Nat → Int32) → Int32 → (Nat → Int32) → Prop) (ao : Nat) (ov : Nat → Int64) (P1 : Prop) (P2 : Prop) (hst : l.stackTraces = false) (hm : p_X6_addJob N Q (fun E => (E = "java/lang/IllegalArgumentException" ∧ P1) ∨ (E = "java/lang/IllegalStateException" ∧ P2)) x1 x2 x3 ss ds ti co oma) : Met l yL_addJob wsL_addJob rmL_addJob (va_Pc [.ref (ad 0), .int x1, .int x2, .int x3, .ref ao] (cPreX dC dI cy ((wC ad cy ss ds ti co oma obr obj obo obm plo pch pbe pbl dnu dde dbo dln dld tba tal tro tsc tcl rma) ++ oW ao cy ov) sz)) (va_Qi (fun (k : Int32) (w : (Int32 × Int32 × (Nat → Int32) × Int32 × (Nat → Int32)) × (Nat → Int64)) => (k = 0 ∧ ∃ r : Int32, Q r w.1.1 w.1.2.1 w.1.2.2.1 w.1.2.2.2.1 w.1.2.2.2.2 ∧ w.2 0 = r.toInt64) ∨ (k = 1 ∧ P1 ∧ w.1 = (ss, ds, ti, co, oma)) ∨ (k = 2 ∧ P2 ∧ w.1 = (ss, ds, ti, co, oma))) (fun w t => cPost dC dI cy ((wC ad cy ss ds ti co oma obr obj obo obm plo pch pbe pbl dnu dde dbo dln dld tba tal tro tsc tcl rma) ++ oW ao cy ov) sz ((wC ad cy (w.1.1) (w.1.2.1) (w.1.2.2.1) (w.1.2.2.2.1) (w.1.2.2.2.2) obr obj obo obm plo pch pbe pbl dnu dde dbo dln dld tba tal tro tsc tcl rma) ++ oW ao cy w.2) t) (va_A ((wC ad cy ss ds ti co oma obr obj obo obm plo pch pbe pbl dnu dde dbo dln dld tba tal tro tsc tcl rma) ++ oW ao cy ov) sz)) 1 6 (va_A ((wC ad cy ss ds ti co oma obr obj obo obm plo pch pbe pbl dnu dde dbo dln dld tba tal tro tsc tcl rma) ++ oW ao cy ov) sz) := by
  refine Met_ofWH (cc := cL_addJob) (maxL := 6) (ret := (some .int)) (hh := [(0, 12, 15, 13), (0, 12, 19, 15)]) (by decide) rfl ?_
  intro p e s m args below meth c s₁ B hml hv
  obtain ⟨rfl, ⟨hsz, hP, hK, hD0, hN⟩, hXw, hXs⟩ := hv
  have hts := atoms_spec (ws := wsL_addJob) B.pre
  have hown : s.vm.findClass RL = some m.cls := findClass_of_methodNamed B.named
  have htb := vx_table (x := yL_addJob) B (hts _ List.mem_cons_self)
  subst hsz
  have hD := hD0.self (sz := s.heap.size)
  generalize hAe : va_A ((wC ad cy ss ds ti co oma obr obj obo obm plo pch pbe pbl dnu dde dbo dln dld tba tal tro tsc tcl rma) ++ oW ao cy ov) s.heap.size = A at hD hXs ⊢
  have hA : ∀ q : Nat, s.heap.size ≤ q → A q := fun q h => by rw [← hAe]; exact Or.inr h
  have hl := lv_entry ([.ref (ad 0), .int x1, .int x2, .int x3, .ref ao]) (n := 6) (Nat.le_of_ble_eq_true rfl)
  rw [lg_entry_eq]
  generalize (lg_sl ([.ref (ad 0), .int x1, .int x2, .int x3, .ref ao]) ++ List.replicate (6 - (lg_sl ([.ref (ad 0), .int x1, .int x2, .int x3, .ref ao])).length) Slot.unset).toArray = ls at hl ⊢
  have hl : lv_has ls 6 [(0, .ref (ad 0)), (1, .int x1), (2, .int x2), (3, .int x3), (4, .ref ao)] := hl
  have hx := B.exec
  have hb := B.bytes
  have hS : va_S A s.heap s.heap [] := va_S.rf
  refine lv_aload hx hb dL_addJob_0 (lv_at hl 4 rfl) ?_
  refine lv_iconst (v := (0 : Int32)) hx hb dL_addJob_2 (by decide) ?_
  refine lv_aload_n hx hb dL_addJob_3 rfl (lv_at hl 0 rfl) ?_
  refine lv_iload_n hx hb dL_addJob_4 rfl (lv_at hl 1 rfl) ?_
  refine lv_iload_n hx hb dL_addJob_5 rfl (lv_at hl 2 rfl) ?_
  refine lv_iload_n hx hb dL_addJob_6 rfl (lv_at hl 3 rfl) ?_
  obtain ⟨hPa, -⟩ := wp_app.mp hP
  obtain ⟨hDa, -, -⟩ := wd_app.mp hD
  have hFc := va_freeSame hD hS hA
  have hFa := va_freeSame hDa hS hA
  refine vx_calli (vx_runV (As := [.int x1, .int x2, .int x3]) (rest := [.int (0 : Int32), .ref ao]) ⟨hx, hb, hml, hown, hts⟩ (c_X6_addJob l dC dI cy ad s.heap.size ss ds ti co oma obr obj obo obm plo pch pbe pbl dnu dde dbo dln dld tba tal tro tsc tcl rma x1 x2 x3 _ _ _ hst hm) (cwV 3 hts gL_addJob_X6_addJob rfl rfl rfl (by decide +kernel) ⟨Nat.le_of_ble_eq_true rfl, Nat.le_of_ble_eq_true rfl⟩) ⟨cPreX_blind, va_recv hK hPa (ci := 6) (q0 := 0) rfl rfl, fun U hU hW => ⟨rfl, cPreX_at hPa hK hDa hN hU hW hXw hXs hS hFa⟩⟩ rfl rfl hl.1 rfl (lv_room (Nat.le_of_ble_eq_true rfl)) dL_addJob_7 ⟨Nat.le_of_ble_eq_true rfl, Nat.le_of_ble_eq_true rfl⟩) hS (fun q _ h => hFa q h) hFa (fun q _ h => hFa q h) (fun E ce q9 u t H locs ht hvm hpx hBX hz1 hk1 hS hce hcv hcl => ?_) (fun r u t H locs ht hvm hw hB hz1 hk1 hS => ?_)
  · obtain ⟨hq, hB⟩ := hBX
    obtain ⟨hP, hD⟩ := wj_l hP hD hk1 hFa (cPost_P ht hB) hB.2.2
    rcases hq with ⟨rfl, hp⟩ | ⟨rfl, hp⟩
    · refine vx_catch (name := "java/lang/IllegalArgumentException") hown [] ⟨0, 12, 15, 13⟩ [⟨0, 12, 19, 15⟩] htb (fun z hz => absurd hz List.not_mem_nil) (by decide) (by decide) (hts _ (by decide +kernel)) (xw_dc hXw _ (by decide +kernel)) hce hcv hcl ?_
      refine lv_astore (lv' := [(5, .ref q9), (0, .ref (ad 0)), (1, .int x1), (2, .int x2), (3, .int x3), (4, .ref ao)]) hx hb dL_addJob_15 hl (by decide) rfl (fun ls hl => ?_)
      refine lv_iconst (v := (1 : Int32)) hx hb dL_addJob_17 (by decide) ?_
      exact W.iret hx hb B.returns (fun t ht hW => ⟨⟨(1 : Int32), ((ss, ds, ti, co, oma), ov), rfl, Or.inr (Or.inl ⟨rfl, hp, rfl⟩), cPost_of hAe ht hW.alike ⟨hP, hD, hS⟩ hK⟩, hS.F ht⟩) hS.2.2 dL_addJob_18 B.notSynchronized
    · refine vx_catch (name := "java/lang/IllegalStateException") hown [⟨0, 12, 15, 13⟩] ⟨0, 12, 19, 15⟩ [] htb (fun z hz => by rw [List.mem_singleton.mp hz]; exact Or.inr ⟨by decide, "java/lang/IllegalArgumentException", hts _ (by decide +kernel), hXw.2.1⟩) (by decide) (by decide) (hts _ (by decide +kernel)) (xw_dc hXw _ (by decide +kernel)) hce hcv hcl ?_
      refine lv_astore (lv' := [(5, .ref q9), (0, .ref (ad 0)), (1, .int x1), (2, .int x2), (3, .int x3), (4, .ref ao)]) hx hb dL_addJob_19 hl (by decide) rfl (fun ls hl => ?_)
      refine lv_iconst (v := (2 : Int32)) hx hb dL_addJob_21 (by decide) ?_
      exact W.iret hx hb B.returns (fun t ht hW => ⟨⟨(2 : Int32), ((ss, ds, ti, co, oma), ov), rfl, Or.inr (Or.inr (⟨rfl, hp, rfl⟩)), cPost_of hAe ht hW.alike ⟨hP, hD, hS⟩ hK⟩, hS.F ht⟩) hS.2.2 dL_addJob_22 B.notSynchronized
  · try dsimp only at hw
    obtain ⟨hP, hD⟩ := wj_l hP hD hk1 hFa (cPost_P ht hB) hB.2.2
    refine lv_i2l (v := r.toInt64) hx hb dL_addJob_10 rfl ?_
    refine va_last hx hb hK hP hD hS 28 1 rfl rfl in01 dL_addJob_11 (fun H locs hP hD hS => ?_)
    have hP : va_P (dC, dI) vwCl ((wC ad cy (u.1) (u.2.1) (u.2.2.1) (u.2.2.2.1) (u.2.2.2.2) obr obj obo obm plo pch pbe pbl dnu dde dbo dln dld tba tal tro tsc tcl rma) ++ oW ao cy (vp_updL ov (0 : Int32).toNatClampNeg r.toInt64)) H := hP
    have hD : va_D A ((wC ad cy (u.1) (u.2.1) (u.2.2.1) (u.2.2.2.1) (u.2.2.2.2) obr obj obo obm plo pch pbe pbl dnu dde dbo dln dld tba tal tro tsc tcl rma) ++ oW ao cy (vp_updL ov (0 : Int32).toNatClampNeg r.toInt64)) := hD
    refine lv_goto (tgt := 23) hx hb dL_addJob_12 (by decide) ?_
    refine lv_iconst (v := (0 : Int32)) hx hb dL_addJob_23 (by decide) ?_
    exact W.iret hx hb B.returns (fun t ht hW => ⟨⟨(0 : Int32), (u, vp_updL ov (0 : Int32).toNatClampNeg r.toInt64), rfl, Or.inl ⟨rfl, r, hw, (upd01 (f := ov) (v := r.toInt64))⟩, cPost_of hAe ht hW.alike ⟨hP, hD, hS⟩ hK⟩, hS.F ht⟩) hS.2.2 dL_addJob_24 B.notSynchronized
abbrev rmL_setTime : Room := { frames := 12, cells := 3, slots := 18, locals := 305 }
set_option maxHeartbeats 4000000 in
set_option maxRecDepth 100000 in
theorem c_L_setTime (l : Launch) (dC : Nat → ClassId) (dI : Nat → Nat → Nat) (cy : Nat → ClassId) (ad : Nat → Nat) (sz : Nat) (ss : Int32) (ds : Int32) (ti : Nat → Int32) (co : Int32) (oma : Nat → Int32) (obr : Int32) (obj : Int32) (obo : Int32) (obm : Int32) (plo : Nat → Int32) (pch : Nat → Int32) (pbe : Nat → Int32) (pbl : Int32) (dnu : Nat → Int32) (dde : Nat → Int32) (dbo : Int32) (dln : Int32) (dld : Int32) (tba : Nat → Int32) (tal : Nat → Int32) (tro : Int32) (tsc : Int64) (tcl : Nat → Nat → Int64) (rma : Nat → Int32) (x1 : Int32) (x2 : Int32) (x3 : Int32) (N : Nat) (Q : Int32 → Int32 → Int32 → (Nat → Int32) → Prop) (ao : Nat) (ov : Nat → Int64) (P1 : Prop) (P2 : Prop) (P3 : Prop) (hst : l.stackTraces = false) (hm : p_X6_setTime N co oma Q (fun E => (E = "java/lang/IndexOutOfBoundsException" ∧ P1) ∨ (E = "java/lang/IllegalArgumentException" ∧ P2) ∨ (E = "java/lang/IllegalStateException" ∧ P3)) x1 x2 x3 ss ds ti) : Met l yL_setTime wsL_setTime rmL_setTime (va_Pc [.ref (ad 0), .int x1, .int x2, .int x3, .ref ao] (cPreX dC dI cy ((wC ad cy ss ds ti co oma obr obj obo obm plo pch pbe pbl dnu dde dbo dln dld tba tal tro tsc tcl rma) ++ oW ao cy ov) sz)) (va_Qi (fun (k : Int32) (w : (Int32 × Int32 × (Nat → Int32)) × (Nat → Int64)) => (k = 0 ∧ ∃ r : Int32, Q r w.1.1 w.1.2.1 w.1.2.2 ∧ w.2 0 = r.toInt64) ∨ (k = 1 ∧ P1 ∧ w.1 = (ss, ds, ti)) ∨ (k = 2 ∧ P2 ∧ w.1 = (ss, ds, ti)) ∨ (k = 3 ∧ P3 ∧ w.1 = (ss, ds, ti))) (fun w t => cPost dC dI cy ((wC ad cy ss ds ti co oma obr obj obo obm plo pch pbe pbl dnu dde dbo dln dld tba tal tro tsc tcl rma) ++ oW ao cy ov) sz ((wC ad cy (w.1.1) (w.1.2.1) (w.1.2.2) co oma obr obj obo obm plo pch pbe pbl dnu dde dbo dln dld tba tal tro tsc tcl rma) ++ oW ao cy w.2) t) (va_A ((wC ad cy ss ds ti co oma obr obj obo obm plo pch pbe pbl dnu dde dbo dln dld tba tal tro tsc tcl rma) ++ oW ao cy ov) sz)) 3 18 (va_A ((wC ad cy ss ds ti co oma obr obj obo obm plo pch pbe pbl dnu dde dbo dln dld tba tal tro tsc tcl rma) ++ oW ao cy ov) sz) := by
  refine Met_ofWH (cc := cL_setTime) (maxL := 6) (ret := (some .int)) (hh := [(0, 12, 15, 20), (0, 12, 19, 13), (0, 12, 23, 15)]) (by decide) rfl ?_
  intro p e s m args below meth c s₁ B hml hv
  obtain ⟨rfl, ⟨hsz, hP, hK, hD0, hN⟩, hXw, hXs⟩ := hv
  have hts := atoms_spec (ws := wsL_setTime) B.pre
  have hown : s.vm.findClass RL = some m.cls := findClass_of_methodNamed B.named
  have htb := vx_table (x := yL_setTime) B (hts _ List.mem_cons_self)
  subst hsz
  have hD := hD0.self (sz := s.heap.size)
  generalize hAe : va_A ((wC ad cy ss ds ti co oma obr obj obo obm plo pch pbe pbl dnu dde dbo dln dld tba tal tro tsc tcl rma) ++ oW ao cy ov) s.heap.size = A at hD hXs ⊢
  have hA : ∀ q : Nat, s.heap.size ≤ q → A q := fun q h => by rw [← hAe]; exact Or.inr h
  have hl := lv_entry ([.ref (ad 0), .int x1, .int x2, .int x3, .ref ao]) (n := 6) (Nat.le_of_ble_eq_true rfl)
  rw [lg_entry_eq]
  generalize (lg_sl ([.ref (ad 0), .int x1, .int x2, .int x3, .ref ao]) ++ List.replicate (6 - (lg_sl ([.ref (ad 0), .int x1, .int x2, .int x3, .ref ao])).length) Slot.unset).toArray = ls at hl ⊢
  have hl : lv_has ls 6 [(0, .ref (ad 0)), (1, .int x1), (2, .int x2), (3, .int x3), (4, .ref ao)] := hl
  have hx := B.exec
  have hb := B.bytes
  have hS : va_S A s.heap s.heap [] := va_S.rf
  refine lv_aload hx hb dL_setTime_0 (lv_at hl 4 rfl) ?_
  refine lv_iconst (v := (0 : Int32)) hx hb dL_setTime_2 (by decide) ?_
  refine lv_aload_n hx hb dL_setTime_3 rfl (lv_at hl 0 rfl) ?_
  refine lv_iload_n hx hb dL_setTime_4 rfl (lv_at hl 1 rfl) ?_
  refine lv_iload_n hx hb dL_setTime_5 rfl (lv_at hl 2 rfl) ?_
  refine lv_iload_n hx hb dL_setTime_6 rfl (lv_at hl 3 rfl) ?_
  obtain ⟨hPa, -⟩ := wp_app.mp hP
  obtain ⟨hDa, -, -⟩ := wd_app.mp hD
  have hFc := va_freeSame hD hS hA
  have hFa := va_freeSame hDa hS hA
  refine vx_calli (vx_runV (As := [.int x1, .int x2, .int x3]) (rest := [.int (0 : Int32), .ref ao]) ⟨hx, hb, hml, hown, hts⟩ (c_X6_setTime l dC dI cy ad s.heap.size ss ds ti co oma obr obj obo obm plo pch pbe pbl dnu dde dbo dln dld tba tal tro tsc tcl rma x1 x2 x3 _ _ _ hst hm) (cwV 3 hts gL_setTime_X6_setTime rfl rfl rfl (by decide +kernel) ⟨Nat.le_of_ble_eq_true rfl, Nat.le_of_ble_eq_true rfl⟩) ⟨cPreX_blind, va_recv hK hPa (ci := 6) (q0 := 0) rfl rfl, fun U hU hW => ⟨rfl, cPreX_at hPa hK hDa hN hU hW hXw hXs hS hFa⟩⟩ rfl rfl hl.1 rfl (lv_room (Nat.le_of_ble_eq_true rfl)) dL_setTime_7 ⟨Nat.le_of_ble_eq_true rfl, Nat.le_of_ble_eq_true rfl⟩) hS (fun q _ h => hFa q h) hFa (fun q _ h => hFa q h) (fun E ce q9 u t H locs ht hvm hpx hBX hz1 hk1 hS hce hcv hcl => ?_) (fun r u t H locs ht hvm hw hB hz1 hk1 hS => ?_)
  · obtain ⟨hq, hB⟩ := hBX
    obtain ⟨hP, hD⟩ := wj_l hP hD hk1 hFa (cPost_P ht hB) hB.2.2
    rcases hq with ⟨rfl, hp⟩ | ⟨rfl, hp⟩ | ⟨rfl, hp⟩
    · refine vx_catch (name := "java/lang/IndexOutOfBoundsException") hown [] ⟨0, 12, 15, 20⟩ [⟨0, 12, 19, 13⟩, ⟨0, 12, 23, 15⟩] htb (fun z hz => absurd hz List.not_mem_nil) (by decide) (by decide) (hts _ (by decide +kernel)) (xw_dc hXw _ (by decide +kernel)) hce hcv hcl ?_
      refine lv_astore (lv' := [(5, .ref q9), (0, .ref (ad 0)), (1, .int x1), (2, .int x2), (3, .int x3), (4, .ref ao)]) hx hb dL_setTime_15 hl (by decide) rfl (fun ls hl => ?_)
      refine lv_iconst (v := (1 : Int32)) hx hb dL_setTime_17 (by decide) ?_
      exact W.iret hx hb B.returns (fun t ht hW => ⟨⟨(1 : Int32), ((ss, ds, ti), ov), rfl, Or.inr (Or.inl ⟨rfl, hp, rfl⟩), cPost_of hAe ht hW.alike ⟨hP, hD, hS⟩ hK⟩, hS.F ht⟩) hS.2.2 dL_setTime_18 B.notSynchronized
    · refine vx_catch (name := "java/lang/IllegalArgumentException") hown [⟨0, 12, 15, 20⟩] ⟨0, 12, 19, 13⟩ [⟨0, 12, 23, 15⟩] htb (fun z hz => by rw [List.mem_singleton.mp hz]; exact Or.inr ⟨by decide, "java/lang/IndexOutOfBoundsException", hts _ (by decide +kernel), hXw.2.2.1⟩) (by decide) (by decide) (hts _ (by decide +kernel)) (xw_dc hXw _ (by decide +kernel)) hce hcv hcl ?_
      refine lv_astore (lv' := [(5, .ref q9), (0, .ref (ad 0)), (1, .int x1), (2, .int x2), (3, .int x3), (4, .ref ao)]) hx hb dL_setTime_19 hl (by decide) rfl (fun ls hl => ?_)
      refine lv_iconst (v := (2 : Int32)) hx hb dL_setTime_21 (by decide) ?_
      exact W.iret hx hb B.returns (fun t ht hW => ⟨⟨(2 : Int32), ((ss, ds, ti), ov), rfl, Or.inr (Or.inr (Or.inl ⟨rfl, hp, rfl⟩)), cPost_of hAe ht hW.alike ⟨hP, hD, hS⟩ hK⟩, hS.F ht⟩) hS.2.2 dL_setTime_22 B.notSynchronized
    · refine vx_catch (name := "java/lang/IllegalStateException") hown [⟨0, 12, 15, 20⟩, ⟨0, 12, 19, 13⟩] ⟨0, 12, 23, 15⟩ [] htb (fun z hz => by rcases List.mem_cons.mp hz with h | h; (rw [h]; exact Or.inr ⟨by decide, "java/lang/IndexOutOfBoundsException", hts _ (by decide +kernel), hXw.2.2.2.1⟩); (rw [List.mem_singleton.mp h]; exact Or.inr ⟨by decide, "java/lang/IllegalArgumentException", hts _ (by decide +kernel), hXw.2.1⟩)) (by decide) (by decide) (hts _ (by decide +kernel)) (xw_dc hXw _ (by decide +kernel)) hce hcv hcl ?_
      refine lv_astore (lv' := [(5, .ref q9), (0, .ref (ad 0)), (1, .int x1), (2, .int x2), (3, .int x3), (4, .ref ao)]) hx hb dL_setTime_23 hl (by decide) rfl (fun ls hl => ?_)
      refine lv_iconst (v := (3 : Int32)) hx hb dL_setTime_25 (by decide) ?_
      exact W.iret hx hb B.returns (fun t ht hW => ⟨⟨(3 : Int32), ((ss, ds, ti), ov), rfl, Or.inr (Or.inr (Or.inr (⟨rfl, hp, rfl⟩))), cPost_of hAe ht hW.alike ⟨hP, hD, hS⟩ hK⟩, hS.F ht⟩) hS.2.2 dL_setTime_26 B.notSynchronized
  · try dsimp only at hw
    obtain ⟨hP, hD⟩ := wj_l hP hD hk1 hFa (cPost_P ht hB) hB.2.2
    refine lv_i2l (v := r.toInt64) hx hb dL_setTime_10 rfl ?_
    refine va_last hx hb hK hP hD hS 28 1 rfl rfl in01 dL_setTime_11 (fun H locs hP hD hS => ?_)
    have hP : va_P (dC, dI) vwCl ((wC ad cy (u.1) (u.2.1) (u.2.2) co oma obr obj obo obm plo pch pbe pbl dnu dde dbo dln dld tba tal tro tsc tcl rma) ++ oW ao cy (vp_updL ov (0 : Int32).toNatClampNeg r.toInt64)) H := hP
    have hD : va_D A ((wC ad cy (u.1) (u.2.1) (u.2.2) co oma obr obj obo obm plo pch pbe pbl dnu dde dbo dln dld tba tal tro tsc tcl rma) ++ oW ao cy (vp_updL ov (0 : Int32).toNatClampNeg r.toInt64)) := hD
    refine lv_goto (tgt := 27) hx hb dL_setTime_12 (by decide) ?_
    refine lv_iconst (v := (0 : Int32)) hx hb dL_setTime_27 (by decide) ?_
    exact W.iret hx hb B.returns (fun t ht hW => ⟨⟨(0 : Int32), (u, vp_updL ov (0 : Int32).toNatClampNeg r.toInt64), rfl, Or.inl ⟨rfl, r, hw, (upd01 (f := ov) (v := r.toInt64))⟩, cPost_of hAe ht hW.alike ⟨hP, hD, hS⟩ hK⟩, hS.F ht⟩) hS.2.2 dL_setTime_28 B.notSynchronized
abbrev rmL_time : Room := { frames := 12, cells := 2, slots := 12, locals := 303 }
set_option maxHeartbeats 4000000 in
set_option maxRecDepth 100000 in
theorem c_L_time (l : Launch) (dC : Nat → ClassId) (dI : Nat → Nat → Nat) (cy : Nat → ClassId) (ad : Nat → Nat) (sz : Nat) (ss : Int32) (ds : Int32) (ti : Nat → Int32) (co : Int32) (oma : Nat → Int32) (obr : Int32) (obj : Int32) (obo : Int32) (obm : Int32) (plo : Nat → Int32) (pch : Nat → Int32) (pbe : Nat → Int32) (pbl : Int32) (dnu : Nat → Int32) (dde : Nat → Int32) (dbo : Int32) (dln : Int32) (dld : Int32) (tba : Nat → Int32) (tal : Nat → Int32) (tro : Int32) (tsc : Int64) (tcl : Nat → Nat → Int64) (rma : Nat → Int32) (x1 : Int32) (x2 : Int32) (N : Nat) (Q : Int32 → Prop) (ao : Nat) (ov : Nat → Int64) (P1 : Prop) (hst : l.stackTraces = false) (hm : p_X6_time N ti co Q (fun E => (E = "java/lang/IndexOutOfBoundsException" ∧ P1)) x1 x2) : Met l yL_time wsL_time rmL_time (va_Pc [.ref (ad 0), .int x1, .int x2, .ref ao] (cPreX dC dI cy ((wC ad cy ss ds ti co oma obr obj obo obm plo pch pbe pbl dnu dde dbo dln dld tba tal tro tsc tcl rma) ++ oW ao cy ov) sz)) (va_Qi (fun (k : Int32) (w : (Unit) × (Nat → Int64)) => (k = 0 ∧ ∃ r : Int32, Q r ∧ w.2 0 = r.toInt64) ∨ (k = 1 ∧ P1 ∧ w.1 = ())) (fun w t => cPost dC dI cy ((wC ad cy ss ds ti co oma obr obj obo obm plo pch pbe pbl dnu dde dbo dln dld tba tal tro tsc tcl rma) ++ oW ao cy ov) sz ((wC ad cy ss ds ti co oma obr obj obo obm plo pch pbe pbl dnu dde dbo dln dld tba tal tro tsc tcl rma) ++ oW ao cy w.2) t) (va_A ((wC ad cy ss ds ti co oma obr obj obo obm plo pch pbe pbl dnu dde dbo dln dld tba tal tro tsc tcl rma) ++ oW ao cy ov) sz)) 2 12 (va_A ((wC ad cy ss ds ti co oma obr obj obo obm plo pch pbe pbl dnu dde dbo dln dld tba tal tro tsc tcl rma) ++ oW ao cy ov) sz) := by
  refine Met_ofWH (cc := cL_time) (maxL := 5) (ret := (some .int)) (hh := [(0, 10, 13, 20)]) (by decide) rfl ?_
  intro p e s m args below meth c s₁ B hml hv
  obtain ⟨rfl, ⟨hsz, hP, hK, hD0, hN⟩, hXw, hXs⟩ := hv
  have hts := atoms_spec (ws := wsL_time) B.pre
  have hown : s.vm.findClass RL = some m.cls := findClass_of_methodNamed B.named
  have htb := vx_table (x := yL_time) B (hts _ List.mem_cons_self)
  subst hsz
  have hD := hD0.self (sz := s.heap.size)
  generalize hAe : va_A ((wC ad cy ss ds ti co oma obr obj obo obm plo pch pbe pbl dnu dde dbo dln dld tba tal tro tsc tcl rma) ++ oW ao cy ov) s.heap.size = A at hD hXs ⊢
  have hA : ∀ q : Nat, s.heap.size ≤ q → A q := fun q h => by rw [← hAe]; exact Or.inr h
  have hl := lv_entry ([.ref (ad 0), .int x1, .int x2, .ref ao]) (n := 5) (Nat.le_of_ble_eq_true rfl)
  rw [lg_entry_eq]
  generalize (lg_sl ([.ref (ad 0), .int x1, .int x2, .ref ao]) ++ List.replicate (5 - (lg_sl ([.ref (ad 0), .int x1, .int x2, .ref ao])).length) Slot.unset).toArray = ls at hl ⊢
  have hl : lv_has ls 5 [(0, .ref (ad 0)), (1, .int x1), (2, .int x2), (3, .ref ao)] := hl
  have hx := B.exec
  have hb := B.bytes
  have hS : va_S A s.heap s.heap [] := va_S.rf
  refine lv_aload_n hx hb dL_time_0 rfl (lv_at hl 3 rfl) ?_
  refine lv_iconst (v := (0 : Int32)) hx hb dL_time_1 (by decide) ?_
  refine lv_aload_n hx hb dL_time_2 rfl (lv_at hl 0 rfl) ?_
  refine lv_iload_n hx hb dL_time_3 rfl (lv_at hl 1 rfl) ?_
  refine lv_iload_n hx hb dL_time_4 rfl (lv_at hl 2 rfl) ?_
  obtain ⟨hPa, -⟩ := wp_app.mp hP
  obtain ⟨hDa, -, -⟩ := wd_app.mp hD
  have hFc := va_freeSame hD hS hA
  have hFa := va_freeSame hDa hS hA
  refine vx_calli (vx_runV (As := [.int x1, .int x2]) (rest := [.int (0 : Int32), .ref ao]) ⟨hx, hb, hml, hown, hts⟩ (c_X6_time l dC dI cy ad s.heap.size ss ds ti co oma obr obj obo obm plo pch pbe pbl dnu dde dbo dln dld tba tal tro tsc tcl rma x1 x2 _ _ _ hst hm) (cwV 2 hts gL_time_X6_time rfl rfl rfl (by decide +kernel) ⟨Nat.le_of_ble_eq_true rfl, Nat.le_of_ble_eq_true rfl⟩) ⟨cPreX_blind, va_recv hK hPa (ci := 6) (q0 := 0) rfl rfl, fun U hU hW => ⟨rfl, cPreX_at hPa hK hDa hN hU hW hXw hXs hS hFa⟩⟩ rfl rfl hl.1 rfl (lv_room (Nat.le_of_ble_eq_true rfl)) dL_time_5 ⟨Nat.le_of_ble_eq_true rfl, Nat.le_of_ble_eq_true rfl⟩) hS (fun q _ h => hFa q h) hFa (fun q _ h => hFa q h) (fun E ce q9 u t H locs ht hvm hpx hBX hz1 hk1 hS hce hcv hcl => ?_) (fun r u t H locs ht hvm hw hB hz1 hk1 hS => ?_)
  · obtain ⟨hq, hB⟩ := hBX
    obtain ⟨hP, hD⟩ := wj_l hP hD hk1 hFa (cPost_P ht hB) hB.2.2
    obtain ⟨rfl, hp⟩ := hq
    refine vx_catch (name := "java/lang/IndexOutOfBoundsException") hown [] ⟨0, 10, 13, 20⟩ [] htb (fun z hz => absurd hz List.not_mem_nil) (by decide) (by decide) (hts _ (by decide +kernel)) (xw_dc hXw _ (by decide +kernel)) hce hcv hcl ?_
    refine lv_astore (lv' := [(4, .ref q9), (0, .ref (ad 0)), (1, .int x1), (2, .int x2), (3, .ref ao)]) hx hb dL_time_13 hl (by decide) rfl (fun ls hl => ?_)
    refine lv_iconst (v := (1 : Int32)) hx hb dL_time_15 (by decide) ?_
    exact W.iret hx hb B.returns (fun t ht hW => ⟨⟨(1 : Int32), ((), ov), rfl, Or.inr (⟨rfl, hp, rfl⟩), cPost_of hAe ht hW.alike ⟨hP, hD, hS⟩ hK⟩, hS.F ht⟩) hS.2.2 dL_time_16 B.notSynchronized
  · try dsimp only at hw
    obtain ⟨hP, hD⟩ := wj_l hP hD hk1 hFa (cPost_P ht hB) hB.2.2
    refine lv_i2l (v := r.toInt64) hx hb dL_time_8 rfl ?_
    refine va_last hx hb hK hP hD hS 28 1 rfl rfl in01 dL_time_9 (fun H locs hP hD hS => ?_)
    have hP : va_P (dC, dI) vwCl ((wC ad cy ss ds ti co oma obr obj obo obm plo pch pbe pbl dnu dde dbo dln dld tba tal tro tsc tcl rma) ++ oW ao cy (vp_updL ov (0 : Int32).toNatClampNeg r.toInt64)) H := hP
    have hD : va_D A ((wC ad cy ss ds ti co oma obr obj obo obm plo pch pbe pbl dnu dde dbo dln dld tba tal tro tsc tcl rma) ++ oW ao cy (vp_updL ov (0 : Int32).toNatClampNeg r.toInt64)) := hD
    refine lv_goto (tgt := 17) hx hb dL_time_10 (by decide) ?_
    refine lv_iconst (v := (0 : Int32)) hx hb dL_time_17 (by decide) ?_
    exact W.iret hx hb B.returns (fun t ht hW => ⟨⟨(0 : Int32), (u, vp_updL ov (0 : Int32).toNatClampNeg r.toInt64), rfl, Or.inl ⟨rfl, r, hw, (upd01 (f := ov) (v := r.toInt64))⟩, cPost_of hAe ht hW.alike ⟨hP, hD, hS⟩ hK⟩, hS.F ht⟩) hS.2.2 dL_time_18 B.notSynchronized
abbrev rmL_shortestMachine : Room := { frames := 44, cells := 1, slots := 6, locals := 4267 }
set_option maxHeartbeats 4000000 in
set_option maxRecDepth 100000 in
theorem c_L_shortestMachine (l : Launch) (dC : Nat → ClassId) (dI : Nat → Nat → Nat) (cy : Nat → ClassId) (ad : Nat → Nat) (sz : Nat) (ss : Int32) (ds : Int32) (ti : Nat → Int32) (co : Int32) (oma : Nat → Int32) (obr : Int32) (obj : Int32) (obo : Int32) (obm : Int32) (plo : Nat → Int32) (pch : Nat → Int32) (pbe : Nat → Int32) (pbl : Int32) (dnu : Nat → Int32) (dde : Nat → Int32) (dbo : Int32) (dln : Int32) (dld : Int32) (tba : Nat → Int32) (tal : Nat → Int32) (tro : Int32) (tsc : Int64) (tcl : Nat → Nat → Int64) (rma : Nat → Int32) (x1 : Int32) (N : Nat) (Q : Int32 → Int32 → (Nat → Int32) → (Nat → Int32) → (Nat → Int32) → Int32 → Prop) (ao : Nat) (ov : Nat → Int64) (P1 : Prop) (hst : l.stackTraces = false) (hm : p_X6_shortestMachine N ti co Q (fun E => (E = "java/lang/IndexOutOfBoundsException" ∧ P1)) x1 ss plo pch pbe pbl) : Met l yL_shortestMachine wsL_shortestMachine rmL_shortestMachine (va_Pc [.ref (ad 0), .int x1, .ref ao] (cPreX dC dI cy ((wC ad cy ss ds ti co oma obr obj obo obm plo pch pbe pbl dnu dde dbo dln dld tba tal tro tsc tcl rma) ++ oW ao cy ov) sz)) (va_Qi (fun (k : Int32) (w : (Int32 × (Nat → Int32) × (Nat → Int32) × (Nat → Int32) × Int32) × (Nat → Int64)) => (k = 0 ∧ ∃ r : Int32, Q r w.1.1 w.1.2.1 w.1.2.2.1 w.1.2.2.2.1 w.1.2.2.2.2 ∧ w.2 0 = r.toInt64) ∨ (k = 1 ∧ P1 ∧ w.1 = (ss, plo, pch, pbe, pbl))) (fun w t => cPost dC dI cy ((wC ad cy ss ds ti co oma obr obj obo obm plo pch pbe pbl dnu dde dbo dln dld tba tal tro tsc tcl rma) ++ oW ao cy ov) sz ((wC ad cy (w.1.1) ds ti co oma obr obj obo obm (w.1.2.1) (w.1.2.2.1) (w.1.2.2.2.1) (w.1.2.2.2.2) dnu dde dbo dln dld tba tal tro tsc tcl rma) ++ oW ao cy w.2) t) (va_A ((wC ad cy ss ds ti co oma obr obj obo obm plo pch pbe pbl dnu dde dbo dln dld tba tal tro tsc tcl rma) ++ oW ao cy ov) sz)) 1 6 (va_A ((wC ad cy ss ds ti co oma obr obj obo obm plo pch pbe pbl dnu dde dbo dln dld tba tal tro tsc tcl rma) ++ oW ao cy ov) sz) := by
  refine Met_ofWH (cc := cL_shortestMachine) (maxL := 4) (ret := (some .int)) (hh := [(0, 9, 12, 20)]) (by decide) rfl ?_
  intro p e s m args below meth c s₁ B hml hv
  obtain ⟨rfl, ⟨hsz, hP, hK, hD0, hN⟩, hXw, hXs⟩ := hv
  have hts := atoms_spec (ws := wsL_shortestMachine) B.pre
  have hown : s.vm.findClass RL = some m.cls := findClass_of_methodNamed B.named
  have htb := vx_table (x := yL_shortestMachine) B (hts _ List.mem_cons_self)
  subst hsz
  have hD := hD0.self (sz := s.heap.size)
  generalize hAe : va_A ((wC ad cy ss ds ti co oma obr obj obo obm plo pch pbe pbl dnu dde dbo dln dld tba tal tro tsc tcl rma) ++ oW ao cy ov) s.heap.size = A at hD hXs ⊢
  have hA : ∀ q : Nat, s.heap.size ≤ q → A q := fun q h => by rw [← hAe]; exact Or.inr h
  have hl := lv_entry ([.ref (ad 0), .int x1, .ref ao]) (n := 4) (Nat.le_of_ble_eq_true rfl)
  rw [lg_entry_eq]
  generalize (lg_sl ([.ref (ad 0), .int x1, .ref ao]) ++ List.replicate (4 - (lg_sl ([.ref (ad 0), .int x1, .ref ao])).length) Slot.unset).toArray = ls at hl ⊢
  have hl : lv_has ls 4 [(0, .ref (ad 0)), (1, .int x1), (2, .ref ao)] := hl
  have hx := B.exec
  have hb := B.bytes
  have hS : va_S A s.heap s.heap [] := va_S.rf
  refine lv_aload_n hx hb dL_shortestMachine_0 rfl (lv_at hl 2 rfl) ?_
  refine lv_iconst (v := (0 : Int32)) hx hb dL_shortestMachine_1 (by decide) ?_
  refine lv_aload_n hx hb dL_shortestMachine_2 rfl (lv_at hl 0 rfl) ?_
  refine lv_iload_n hx hb dL_shortestMachine_3 rfl (lv_at hl 1 rfl) ?_
  obtain ⟨hPa, -⟩ := wp_app.mp hP
  obtain ⟨hDa, -, -⟩ := wd_app.mp hD
  have hFc := va_freeSame hD hS hA
  have hFa := va_freeSame hDa hS hA
  refine vx_calli (vx_runV (As := [.int x1]) (rest := [.int (0 : Int32), .ref ao]) ⟨hx, hb, hml, hown, hts⟩ (c_X6_shortestMachine l dC dI cy ad s.heap.size ss ds ti co oma obr obj obo obm plo pch pbe pbl dnu dde dbo dln dld tba tal tro tsc tcl rma x1 _ _ _ hst hm) (cwV 1 hts gL_shortestMachine_X6_shortestMachine rfl rfl rfl (by decide +kernel) ⟨Nat.le_of_ble_eq_true rfl, Nat.le_of_ble_eq_true rfl⟩) ⟨cPreX_blind, va_recv hK hPa (ci := 6) (q0 := 0) rfl rfl, fun U hU hW => ⟨rfl, cPreX_at hPa hK hDa hN hU hW hXw hXs hS hFa⟩⟩ rfl rfl hl.1 rfl (lv_room (Nat.le_of_ble_eq_true rfl)) dL_shortestMachine_4 ⟨Nat.le_of_ble_eq_true rfl, Nat.le_of_ble_eq_true rfl⟩) hS (fun q _ h => hFa q h) hFa (fun q _ h => hFa q h) (fun E ce q9 u t H locs ht hvm hpx hBX hz1 hk1 hS hce hcv hcl => ?_) (fun r u t H locs ht hvm hw hB hz1 hk1 hS => ?_)
  · obtain ⟨hq, hB⟩ := hBX
    obtain ⟨hP, hD⟩ := wj_l hP hD hk1 hFa (cPost_P ht hB) hB.2.2
    obtain ⟨rfl, hp⟩ := hq
    refine vx_catch (name := "java/lang/IndexOutOfBoundsException") hown [] ⟨0, 9, 12, 20⟩ [] htb (fun z hz => absurd hz List.not_mem_nil) (by decide) (by decide) (hts _ (by decide +kernel)) (xw_dc hXw _ (by decide +kernel)) hce hcv hcl ?_
    refine lv_astore_n (lv' := [(3, .ref q9), (0, .ref (ad 0)), (1, .int x1), (2, .ref ao)]) hx hb dL_shortestMachine_12 rfl hl (by decide) rfl (fun ls hl => ?_)
    refine lv_iconst (v := (1 : Int32)) hx hb dL_shortestMachine_13 (by decide) ?_
    exact W.iret hx hb B.returns (fun t ht hW => ⟨⟨(1 : Int32), ((ss, plo, pch, pbe, pbl), ov), rfl, Or.inr (⟨rfl, hp, rfl⟩), cPost_of hAe ht hW.alike ⟨hP, hD, hS⟩ hK⟩, hS.F ht⟩) hS.2.2 dL_shortestMachine_14 B.notSynchronized
  · try dsimp only at hw
    obtain ⟨hP, hD⟩ := wj_l hP hD hk1 hFa (cPost_P ht hB) hB.2.2
    refine lv_i2l (v := r.toInt64) hx hb dL_shortestMachine_7 rfl ?_
    refine va_last hx hb hK hP hD hS 28 1 rfl rfl in01 dL_shortestMachine_8 (fun H locs hP hD hS => ?_)
    have hP : va_P (dC, dI) vwCl ((wC ad cy (u.1) ds ti co oma obr obj obo obm (u.2.1) (u.2.2.1) (u.2.2.2.1) (u.2.2.2.2) dnu dde dbo dln dld tba tal tro tsc tcl rma) ++ oW ao cy (vp_updL ov (0 : Int32).toNatClampNeg r.toInt64)) H := hP
    have hD : va_D A ((wC ad cy (u.1) ds ti co oma obr obj obo obm (u.2.1) (u.2.2.1) (u.2.2.2.1) (u.2.2.2.2) dnu dde dbo dln dld tba tal tro tsc tcl rma) ++ oW ao cy (vp_updL ov (0 : Int32).toNatClampNeg r.toInt64)) := hD
    refine lv_goto (tgt := 15) hx hb dL_shortestMachine_9 (by decide) ?_
    refine lv_iconst (v := (0 : Int32)) hx hb dL_shortestMachine_15 (by decide) ?_
    exact W.iret hx hb B.returns (fun t ht hW => ⟨⟨(0 : Int32), (u, vp_updL ov (0 : Int32).toNatClampNeg r.toInt64), rfl, Or.inl ⟨rfl, r, hw, (upd01 (f := ov) (v := r.toInt64))⟩, cPost_of hAe ht hW.alike ⟨hP, hD, hS⟩ hK⟩, hS.F ht⟩) hS.2.2 dL_shortestMachine_16 B.notSynchronized
abbrev rmL_numerator : Room := { frames := 44, cells := 2, slots := 12, locals := 4271 }
set_option maxHeartbeats 4000000 in
set_option maxRecDepth 100000 in
theorem c_L_numerator (l : Launch) (dC : Nat → ClassId) (dI : Nat → Nat → Nat) (cy : Nat → ClassId) (ad : Nat → Nat) (sz : Nat) (ss : Int32) (ds : Int32) (ti : Nat → Int32) (co : Int32) (oma : Nat → Int32) (obr : Int32) (obj : Int32) (obo : Int32) (obm : Int32) (plo : Nat → Int32) (pch : Nat → Int32) (pbe : Nat → Int32) (pbl : Int32) (dnu : Nat → Int32) (dde : Nat → Int32) (dbo : Int32) (dln : Int32) (dld : Int32) (tba : Nat → Int32) (tal : Nat → Int32) (tro : Int32) (tsc : Int64) (tcl : Nat → Nat → Int64) (rma : Nat → Int32) (x1 : Int32) (x2 : Int32) (N : Nat) (Q : Int32 → Int32 → (Nat → Int32) → (Nat → Int32) → Int32 → Int32 → Int32 → (Nat → Int32) → (Nat → Int32) → Int32 → Int64 → (Nat → Nat → Int64) → (Nat → Int32) → Prop) (ao : Nat) (ov : Nat → Int64) (P1 : Prop) (hst : l.stackTraces = false) (hm : p_X6_numerator N ti co Q (fun E => (E = "java/lang/IndexOutOfBoundsException" ∧ P1)) x1 x2 ds dnu dde dbo dln dld tba tal tro tsc tcl rma) : Met l yL_numerator wsL_numerator rmL_numerator (va_Pc [.ref (ad 0), .int x1, .int x2, .ref ao] (cPreX dC dI cy ((wC ad cy ss ds ti co oma obr obj obo obm plo pch pbe pbl dnu dde dbo dln dld tba tal tro tsc tcl rma) ++ oW ao cy ov) sz)) (va_Qi (fun (k : Int32) (w : (Int32 × (Nat → Int32) × (Nat → Int32) × Int32 × Int32 × Int32 × (Nat → Int32) × (Nat → Int32) × Int32 × Int64 × (Nat → Nat → Int64) × (Nat → Int32)) × (Nat → Int64)) => (k = 0 ∧ ∃ r : Int32, Q r w.1.1 w.1.2.1 w.1.2.2.1 w.1.2.2.2.1 w.1.2.2.2.2.1 w.1.2.2.2.2.2.1 w.1.2.2.2.2.2.2.1 w.1.2.2.2.2.2.2.2.1 w.1.2.2.2.2.2.2.2.2.1 w.1.2.2.2.2.2.2.2.2.2.1 w.1.2.2.2.2.2.2.2.2.2.2.1 w.1.2.2.2.2.2.2.2.2.2.2.2 ∧ w.2 0 = r.toInt64) ∨ (k = 1 ∧ P1 ∧ w.1 = (ds, dnu, dde, dbo, dln, dld, tba, tal, tro, tsc, tcl, rma))) (fun w t => cPost dC dI cy ((wC ad cy ss ds ti co oma obr obj obo obm plo pch pbe pbl dnu dde dbo dln dld tba tal tro tsc tcl rma) ++ oW ao cy ov) sz ((wC ad cy ss (w.1.1) ti co oma obr obj obo obm plo pch pbe pbl (w.1.2.1) (w.1.2.2.1) (w.1.2.2.2.1) (w.1.2.2.2.2.1) (w.1.2.2.2.2.2.1) (w.1.2.2.2.2.2.2.1) (w.1.2.2.2.2.2.2.2.1) (w.1.2.2.2.2.2.2.2.2.1) (w.1.2.2.2.2.2.2.2.2.2.1) (w.1.2.2.2.2.2.2.2.2.2.2.1) (w.1.2.2.2.2.2.2.2.2.2.2.2)) ++ oW ao cy w.2) t) (va_A ((wC ad cy ss ds ti co oma obr obj obo obm plo pch pbe pbl dnu dde dbo dln dld tba tal tro tsc tcl rma) ++ oW ao cy ov) sz)) 2 12 (va_A ((wC ad cy ss ds ti co oma obr obj obo obm plo pch pbe pbl dnu dde dbo dln dld tba tal tro tsc tcl rma) ++ oW ao cy ov) sz) := by
  refine Met_ofWH (cc := cL_numerator) (maxL := 5) (ret := (some .int)) (hh := [(0, 10, 13, 20)]) (by decide) rfl ?_
  intro p e s m args below meth c s₁ B hml hv
  obtain ⟨rfl, ⟨hsz, hP, hK, hD0, hN⟩, hXw, hXs⟩ := hv
  have hts := atoms_spec (ws := wsL_numerator) B.pre
  have hown : s.vm.findClass RL = some m.cls := findClass_of_methodNamed B.named
  have htb := vx_table (x := yL_numerator) B (hts _ List.mem_cons_self)
  subst hsz
  have hD := hD0.self (sz := s.heap.size)
  generalize hAe : va_A ((wC ad cy ss ds ti co oma obr obj obo obm plo pch pbe pbl dnu dde dbo dln dld tba tal tro tsc tcl rma) ++ oW ao cy ov) s.heap.size = A at hD hXs ⊢
  have hA : ∀ q : Nat, s.heap.size ≤ q → A q := fun q h => by rw [← hAe]; exact Or.inr h
  have hl := lv_entry ([.ref (ad 0), .int x1, .int x2, .ref ao]) (n := 5) (Nat.le_of_ble_eq_true rfl)
  rw [lg_entry_eq]
  generalize (lg_sl ([.ref (ad 0), .int x1, .int x2, .ref ao]) ++ List.replicate (5 - (lg_sl ([.ref (ad 0), .int x1, .int x2, .ref ao])).length) Slot.unset).toArray = ls at hl ⊢
  have hl : lv_has ls 5 [(0, .ref (ad 0)), (1, .int x1), (2, .int x2), (3, .ref ao)] := hl
  have hx := B.exec
  have hb := B.bytes
  have hS : va_S A s.heap s.heap [] := va_S.rf
  refine lv_aload_n hx hb dL_numerator_0 rfl (lv_at hl 3 rfl) ?_
  refine lv_iconst (v := (0 : Int32)) hx hb dL_numerator_1 (by decide) ?_
  refine lv_aload_n hx hb dL_numerator_2 rfl (lv_at hl 0 rfl) ?_
  refine lv_iload_n hx hb dL_numerator_3 rfl (lv_at hl 1 rfl) ?_
  refine lv_iload_n hx hb dL_numerator_4 rfl (lv_at hl 2 rfl) ?_
  obtain ⟨hPa, -⟩ := wp_app.mp hP
  obtain ⟨hDa, -, -⟩ := wd_app.mp hD
  have hFc := va_freeSame hD hS hA
  have hFa := va_freeSame hDa hS hA
  refine vx_calli (vx_runV (As := [.int x1, .int x2]) (rest := [.int (0 : Int32), .ref ao]) ⟨hx, hb, hml, hown, hts⟩ (c_X6_numerator l dC dI cy ad s.heap.size ss ds ti co oma obr obj obo obm plo pch pbe pbl dnu dde dbo dln dld tba tal tro tsc tcl rma x1 x2 _ _ _ hst hm) (cwV 2 hts gL_numerator_X6_numerator rfl rfl rfl (by decide +kernel) ⟨Nat.le_of_ble_eq_true rfl, Nat.le_of_ble_eq_true rfl⟩) ⟨cPreX_blind, va_recv hK hPa (ci := 6) (q0 := 0) rfl rfl, fun U hU hW => ⟨rfl, cPreX_at hPa hK hDa hN hU hW hXw hXs hS hFa⟩⟩ rfl rfl hl.1 rfl (lv_room (Nat.le_of_ble_eq_true rfl)) dL_numerator_5 ⟨Nat.le_of_ble_eq_true rfl, Nat.le_of_ble_eq_true rfl⟩) hS (fun q _ h => hFa q h) hFa (fun q _ h => hFa q h) (fun E ce q9 u t H locs ht hvm hpx hBX hz1 hk1 hS hce hcv hcl => ?_) (fun r u t H locs ht hvm hw hB hz1 hk1 hS => ?_)
  · obtain ⟨hq, hB⟩ := hBX
    obtain ⟨hP, hD⟩ := wj_l hP hD hk1 hFa (cPost_P ht hB) hB.2.2
    obtain ⟨rfl, hp⟩ := hq
    refine vx_catch (name := "java/lang/IndexOutOfBoundsException") hown [] ⟨0, 10, 13, 20⟩ [] htb (fun z hz => absurd hz List.not_mem_nil) (by decide) (by decide) (hts _ (by decide +kernel)) (xw_dc hXw _ (by decide +kernel)) hce hcv hcl ?_
    refine lv_astore (lv' := [(4, .ref q9), (0, .ref (ad 0)), (1, .int x1), (2, .int x2), (3, .ref ao)]) hx hb dL_numerator_13 hl (by decide) rfl (fun ls hl => ?_)
    refine lv_iconst (v := (1 : Int32)) hx hb dL_numerator_15 (by decide) ?_
    exact W.iret hx hb B.returns (fun t ht hW => ⟨⟨(1 : Int32), ((ds, dnu, dde, dbo, dln, dld, tba, tal, tro, tsc, tcl, rma), ov), rfl, Or.inr (⟨rfl, hp, rfl⟩), cPost_of hAe ht hW.alike ⟨hP, hD, hS⟩ hK⟩, hS.F ht⟩) hS.2.2 dL_numerator_16 B.notSynchronized
  · try dsimp only at hw
    obtain ⟨hP, hD⟩ := wj_l hP hD hk1 hFa (cPost_P ht hB) hB.2.2
    refine lv_i2l (v := r.toInt64) hx hb dL_numerator_8 rfl ?_
    refine va_last hx hb hK hP hD hS 28 1 rfl rfl in01 dL_numerator_9 (fun H locs hP hD hS => ?_)
    have hP : va_P (dC, dI) vwCl ((wC ad cy ss (u.1) ti co oma obr obj obo obm plo pch pbe pbl (u.2.1) (u.2.2.1) (u.2.2.2.1) (u.2.2.2.2.1) (u.2.2.2.2.2.1) (u.2.2.2.2.2.2.1) (u.2.2.2.2.2.2.2.1) (u.2.2.2.2.2.2.2.2.1) (u.2.2.2.2.2.2.2.2.2.1) (u.2.2.2.2.2.2.2.2.2.2.1) (u.2.2.2.2.2.2.2.2.2.2.2)) ++ oW ao cy (vp_updL ov (0 : Int32).toNatClampNeg r.toInt64)) H := hP
    have hD : va_D A ((wC ad cy ss (u.1) ti co oma obr obj obo obm plo pch pbe pbl (u.2.1) (u.2.2.1) (u.2.2.2.1) (u.2.2.2.2.1) (u.2.2.2.2.2.1) (u.2.2.2.2.2.2.1) (u.2.2.2.2.2.2.2.1) (u.2.2.2.2.2.2.2.2.1) (u.2.2.2.2.2.2.2.2.2.1) (u.2.2.2.2.2.2.2.2.2.2.1) (u.2.2.2.2.2.2.2.2.2.2.2)) ++ oW ao cy (vp_updL ov (0 : Int32).toNatClampNeg r.toInt64)) := hD
    refine lv_goto (tgt := 17) hx hb dL_numerator_10 (by decide) ?_
    refine lv_iconst (v := (0 : Int32)) hx hb dL_numerator_17 (by decide) ?_
    exact W.iret hx hb B.returns (fun t ht hW => ⟨⟨(0 : Int32), (u, vp_updL ov (0 : Int32).toNatClampNeg r.toInt64), rfl, Or.inl ⟨rfl, r, hw, (upd01 (f := ov) (v := r.toInt64))⟩, cPost_of hAe ht hW.alike ⟨hP, hD, hS⟩ hK⟩, hS.F ht⟩) hS.2.2 dL_numerator_18 B.notSynchronized
abbrev rmL_denominator : Room := { frames := 44, cells := 2, slots := 12, locals := 4271 }
set_option maxHeartbeats 4000000 in
set_option maxRecDepth 100000 in
theorem c_L_denominator (l : Launch) (dC : Nat → ClassId) (dI : Nat → Nat → Nat) (cy : Nat → ClassId) (ad : Nat → Nat) (sz : Nat) (ss : Int32) (ds : Int32) (ti : Nat → Int32) (co : Int32) (oma : Nat → Int32) (obr : Int32) (obj : Int32) (obo : Int32) (obm : Int32) (plo : Nat → Int32) (pch : Nat → Int32) (pbe : Nat → Int32) (pbl : Int32) (dnu : Nat → Int32) (dde : Nat → Int32) (dbo : Int32) (dln : Int32) (dld : Int32) (tba : Nat → Int32) (tal : Nat → Int32) (tro : Int32) (tsc : Int64) (tcl : Nat → Nat → Int64) (rma : Nat → Int32) (x1 : Int32) (x2 : Int32) (N : Nat) (Q : Int32 → Int32 → (Nat → Int32) → (Nat → Int32) → Int32 → Int32 → Int32 → (Nat → Int32) → (Nat → Int32) → Int32 → Int64 → (Nat → Nat → Int64) → (Nat → Int32) → Prop) (ao : Nat) (ov : Nat → Int64) (P1 : Prop) (hst : l.stackTraces = false) (hm : p_X6_denominator N ti co Q (fun E => (E = "java/lang/IndexOutOfBoundsException" ∧ P1)) x1 x2 ds dnu dde dbo dln dld tba tal tro tsc tcl rma) : Met l yL_denominator wsL_denominator rmL_denominator (va_Pc [.ref (ad 0), .int x1, .int x2, .ref ao] (cPreX dC dI cy ((wC ad cy ss ds ti co oma obr obj obo obm plo pch pbe pbl dnu dde dbo dln dld tba tal tro tsc tcl rma) ++ oW ao cy ov) sz)) (va_Qi (fun (k : Int32) (w : (Int32 × (Nat → Int32) × (Nat → Int32) × Int32 × Int32 × Int32 × (Nat → Int32) × (Nat → Int32) × Int32 × Int64 × (Nat → Nat → Int64) × (Nat → Int32)) × (Nat → Int64)) => (k = 0 ∧ ∃ r : Int32, Q r w.1.1 w.1.2.1 w.1.2.2.1 w.1.2.2.2.1 w.1.2.2.2.2.1 w.1.2.2.2.2.2.1 w.1.2.2.2.2.2.2.1 w.1.2.2.2.2.2.2.2.1 w.1.2.2.2.2.2.2.2.2.1 w.1.2.2.2.2.2.2.2.2.2.1 w.1.2.2.2.2.2.2.2.2.2.2.1 w.1.2.2.2.2.2.2.2.2.2.2.2 ∧ w.2 0 = r.toInt64) ∨ (k = 1 ∧ P1 ∧ w.1 = (ds, dnu, dde, dbo, dln, dld, tba, tal, tro, tsc, tcl, rma))) (fun w t => cPost dC dI cy ((wC ad cy ss ds ti co oma obr obj obo obm plo pch pbe pbl dnu dde dbo dln dld tba tal tro tsc tcl rma) ++ oW ao cy ov) sz ((wC ad cy ss (w.1.1) ti co oma obr obj obo obm plo pch pbe pbl (w.1.2.1) (w.1.2.2.1) (w.1.2.2.2.1) (w.1.2.2.2.2.1) (w.1.2.2.2.2.2.1) (w.1.2.2.2.2.2.2.1) (w.1.2.2.2.2.2.2.2.1) (w.1.2.2.2.2.2.2.2.2.1) (w.1.2.2.2.2.2.2.2.2.2.1) (w.1.2.2.2.2.2.2.2.2.2.2.1) (w.1.2.2.2.2.2.2.2.2.2.2.2)) ++ oW ao cy w.2) t) (va_A ((wC ad cy ss ds ti co oma obr obj obo obm plo pch pbe pbl dnu dde dbo dln dld tba tal tro tsc tcl rma) ++ oW ao cy ov) sz)) 2 12 (va_A ((wC ad cy ss ds ti co oma obr obj obo obm plo pch pbe pbl dnu dde dbo dln dld tba tal tro tsc tcl rma) ++ oW ao cy ov) sz) := by
  refine Met_ofWH (cc := cL_denominator) (maxL := 5) (ret := (some .int)) (hh := [(0, 10, 13, 20)]) (by decide) rfl ?_
  intro p e s m args below meth c s₁ B hml hv
  obtain ⟨rfl, ⟨hsz, hP, hK, hD0, hN⟩, hXw, hXs⟩ := hv
  have hts := atoms_spec (ws := wsL_denominator) B.pre
  have hown : s.vm.findClass RL = some m.cls := findClass_of_methodNamed B.named
  have htb := vx_table (x := yL_denominator) B (hts _ List.mem_cons_self)
  subst hsz
  have hD := hD0.self (sz := s.heap.size)
  generalize hAe : va_A ((wC ad cy ss ds ti co oma obr obj obo obm plo pch pbe pbl dnu dde dbo dln dld tba tal tro tsc tcl rma) ++ oW ao cy ov) s.heap.size = A at hD hXs ⊢
  have hA : ∀ q : Nat, s.heap.size ≤ q → A q := fun q h => by rw [← hAe]; exact Or.inr h
  have hl := lv_entry ([.ref (ad 0), .int x1, .int x2, .ref ao]) (n := 5) (Nat.le_of_ble_eq_true rfl)
  rw [lg_entry_eq]
  generalize (lg_sl ([.ref (ad 0), .int x1, .int x2, .ref ao]) ++ List.replicate (5 - (lg_sl ([.ref (ad 0), .int x1, .int x2, .ref ao])).length) Slot.unset).toArray = ls at hl ⊢
  have hl : lv_has ls 5 [(0, .ref (ad 0)), (1, .int x1), (2, .int x2), (3, .ref ao)] := hl
  have hx := B.exec
  have hb := B.bytes
  have hS : va_S A s.heap s.heap [] := va_S.rf
  refine lv_aload_n hx hb dL_denominator_0 rfl (lv_at hl 3 rfl) ?_
  refine lv_iconst (v := (0 : Int32)) hx hb dL_denominator_1 (by decide) ?_
  refine lv_aload_n hx hb dL_denominator_2 rfl (lv_at hl 0 rfl) ?_
  refine lv_iload_n hx hb dL_denominator_3 rfl (lv_at hl 1 rfl) ?_
  refine lv_iload_n hx hb dL_denominator_4 rfl (lv_at hl 2 rfl) ?_
  obtain ⟨hPa, -⟩ := wp_app.mp hP
  obtain ⟨hDa, -, -⟩ := wd_app.mp hD
  have hFc := va_freeSame hD hS hA
  have hFa := va_freeSame hDa hS hA
  refine vx_calli (vx_runV (As := [.int x1, .int x2]) (rest := [.int (0 : Int32), .ref ao]) ⟨hx, hb, hml, hown, hts⟩ (c_X6_denominator l dC dI cy ad s.heap.size ss ds ti co oma obr obj obo obm plo pch pbe pbl dnu dde dbo dln dld tba tal tro tsc tcl rma x1 x2 _ _ _ hst hm) (cwV 2 hts gL_denominator_X6_denominator rfl rfl rfl (by decide +kernel) ⟨Nat.le_of_ble_eq_true rfl, Nat.le_of_ble_eq_true rfl⟩) ⟨cPreX_blind, va_recv hK hPa (ci := 6) (q0 := 0) rfl rfl, fun U hU hW => ⟨rfl, cPreX_at hPa hK hDa hN hU hW hXw hXs hS hFa⟩⟩ rfl rfl hl.1 rfl (lv_room (Nat.le_of_ble_eq_true rfl)) dL_denominator_5 ⟨Nat.le_of_ble_eq_true rfl, Nat.le_of_ble_eq_true rfl⟩) hS (fun q _ h => hFa q h) hFa (fun q _ h => hFa q h) (fun E ce q9 u t H locs ht hvm hpx hBX hz1 hk1 hS hce hcv hcl => ?_) (fun r u t H locs ht hvm hw hB hz1 hk1 hS => ?_)
  · obtain ⟨hq, hB⟩ := hBX
    obtain ⟨hP, hD⟩ := wj_l hP hD hk1 hFa (cPost_P ht hB) hB.2.2
    obtain ⟨rfl, hp⟩ := hq
    refine vx_catch (name := "java/lang/IndexOutOfBoundsException") hown [] ⟨0, 10, 13, 20⟩ [] htb (fun z hz => absurd hz List.not_mem_nil) (by decide) (by decide) (hts _ (by decide +kernel)) (xw_dc hXw _ (by decide +kernel)) hce hcv hcl ?_
    refine lv_astore (lv' := [(4, .ref q9), (0, .ref (ad 0)), (1, .int x1), (2, .int x2), (3, .ref ao)]) hx hb dL_denominator_13 hl (by decide) rfl (fun ls hl => ?_)
    refine lv_iconst (v := (1 : Int32)) hx hb dL_denominator_15 (by decide) ?_
    exact W.iret hx hb B.returns (fun t ht hW => ⟨⟨(1 : Int32), ((ds, dnu, dde, dbo, dln, dld, tba, tal, tro, tsc, tcl, rma), ov), rfl, Or.inr (⟨rfl, hp, rfl⟩), cPost_of hAe ht hW.alike ⟨hP, hD, hS⟩ hK⟩, hS.F ht⟩) hS.2.2 dL_denominator_16 B.notSynchronized
  · try dsimp only at hw
    obtain ⟨hP, hD⟩ := wj_l hP hD hk1 hFa (cPost_P ht hB) hB.2.2
    refine lv_i2l (v := r.toInt64) hx hb dL_denominator_8 rfl ?_
    refine va_last hx hb hK hP hD hS 28 1 rfl rfl in01 dL_denominator_9 (fun H locs hP hD hS => ?_)
    have hP : va_P (dC, dI) vwCl ((wC ad cy ss (u.1) ti co oma obr obj obo obm plo pch pbe pbl (u.2.1) (u.2.2.1) (u.2.2.2.1) (u.2.2.2.2.1) (u.2.2.2.2.2.1) (u.2.2.2.2.2.2.1) (u.2.2.2.2.2.2.2.1) (u.2.2.2.2.2.2.2.2.1) (u.2.2.2.2.2.2.2.2.2.1) (u.2.2.2.2.2.2.2.2.2.2.1) (u.2.2.2.2.2.2.2.2.2.2.2)) ++ oW ao cy (vp_updL ov (0 : Int32).toNatClampNeg r.toInt64)) H := hP
    have hD : va_D A ((wC ad cy ss (u.1) ti co oma obr obj obo obm plo pch pbe pbl (u.2.1) (u.2.2.1) (u.2.2.2.1) (u.2.2.2.2.1) (u.2.2.2.2.2.1) (u.2.2.2.2.2.2.1) (u.2.2.2.2.2.2.2.1) (u.2.2.2.2.2.2.2.2.1) (u.2.2.2.2.2.2.2.2.2.1) (u.2.2.2.2.2.2.2.2.2.2.1) (u.2.2.2.2.2.2.2.2.2.2.2)) ++ oW ao cy (vp_updL ov (0 : Int32).toNatClampNeg r.toInt64)) := hD
    refine lv_goto (tgt := 17) hx hb dL_denominator_10 (by decide) ?_
    refine lv_iconst (v := (0 : Int32)) hx hb dL_denominator_17 (by decide) ?_
    exact W.iret hx hb B.returns (fun t ht hW => ⟨⟨(0 : Int32), (u, vp_updL ov (0 : Int32).toNatClampNeg r.toInt64), rfl, Or.inl ⟨rfl, r, hw, (upd01 (f := ov) (v := r.toInt64))⟩, cPost_of hAe ht hW.alike ⟨hP, hD, hS⟩ hK⟩, hS.F ht⟩) hS.2.2 dL_denominator_18 B.notSynchronized
abbrev rmL_isDivided : Room := { frames := 44, cells := 1, slots := 6, locals := 4270 }
set_option maxHeartbeats 4000000 in
set_option maxRecDepth 100000 in
theorem c_L_isDivided (l : Launch) (dC : Nat → ClassId) (dI : Nat → Nat → Nat) (cy : Nat → ClassId) (ad : Nat → Nat) (sz : Nat) (ss : Int32) (ds : Int32) (ti : Nat → Int32) (co : Int32) (oma : Nat → Int32) (obr : Int32) (obj : Int32) (obo : Int32) (obm : Int32) (plo : Nat → Int32) (pch : Nat → Int32) (pbe : Nat → Int32) (pbl : Int32) (dnu : Nat → Int32) (dde : Nat → Int32) (dbo : Int32) (dln : Int32) (dld : Int32) (tba : Nat → Int32) (tal : Nat → Int32) (tro : Int32) (tsc : Int64) (tcl : Nat → Nat → Int64) (rma : Nat → Int32) (x1 : Int32) (N : Nat) (Q : Int32 → Int32 → (Nat → Int32) → (Nat → Int32) → Int32 → Int32 → Int32 → (Nat → Int32) → (Nat → Int32) → Int32 → Int64 → (Nat → Nat → Int64) → (Nat → Int32) → Prop) (ao : Nat) (ov : Nat → Int64) (P1 : Prop) (hst : l.stackTraces = false) (hm : p_X6_isDivided N ti co Q (fun E => (E = "java/lang/IndexOutOfBoundsException" ∧ P1)) x1 ds dnu dde dbo dln dld tba tal tro tsc tcl rma) : Met l yL_isDivided wsL_isDivided rmL_isDivided (va_Pc [.ref (ad 0), .int x1, .ref ao] (cPreX dC dI cy ((wC ad cy ss ds ti co oma obr obj obo obm plo pch pbe pbl dnu dde dbo dln dld tba tal tro tsc tcl rma) ++ oW ao cy ov) sz)) (va_Qi (fun (k : Int32) (w : (Int32 × (Nat → Int32) × (Nat → Int32) × Int32 × Int32 × Int32 × (Nat → Int32) × (Nat → Int32) × Int32 × Int64 × (Nat → Nat → Int64) × (Nat → Int32)) × (Nat → Int64)) => (k = 0 ∧ ∃ r : Int32, Q r w.1.1 w.1.2.1 w.1.2.2.1 w.1.2.2.2.1 w.1.2.2.2.2.1 w.1.2.2.2.2.2.1 w.1.2.2.2.2.2.2.1 w.1.2.2.2.2.2.2.2.1 w.1.2.2.2.2.2.2.2.2.1 w.1.2.2.2.2.2.2.2.2.2.1 w.1.2.2.2.2.2.2.2.2.2.2.1 w.1.2.2.2.2.2.2.2.2.2.2.2 ∧ w.2 0 = (if r = 0 then 0 else 1)) ∨ (k = 1 ∧ P1 ∧ w.1 = (ds, dnu, dde, dbo, dln, dld, tba, tal, tro, tsc, tcl, rma))) (fun w t => cPost dC dI cy ((wC ad cy ss ds ti co oma obr obj obo obm plo pch pbe pbl dnu dde dbo dln dld tba tal tro tsc tcl rma) ++ oW ao cy ov) sz ((wC ad cy ss (w.1.1) ti co oma obr obj obo obm plo pch pbe pbl (w.1.2.1) (w.1.2.2.1) (w.1.2.2.2.1) (w.1.2.2.2.2.1) (w.1.2.2.2.2.2.1) (w.1.2.2.2.2.2.2.1) (w.1.2.2.2.2.2.2.2.1) (w.1.2.2.2.2.2.2.2.2.1) (w.1.2.2.2.2.2.2.2.2.2.1) (w.1.2.2.2.2.2.2.2.2.2.2.1) (w.1.2.2.2.2.2.2.2.2.2.2.2)) ++ oW ao cy w.2) t) (va_A ((wC ad cy ss ds ti co oma obr obj obo obm plo pch pbe pbl dnu dde dbo dln dld tba tal tro tsc tcl rma) ++ oW ao cy ov) sz)) 1 6 (va_A ((wC ad cy ss ds ti co oma obr obj obo obm plo pch pbe pbl dnu dde dbo dln dld tba tal tro tsc tcl rma) ++ oW ao cy ov) sz) := by
  refine Met_ofWH (cc := cL_isDivided) (maxL := 4) (ret := (some .int)) (hh := [(0, 16, 19, 20)]) (by decide) rfl ?_
  intro p e s m args below meth c s₁ B hml hv
  obtain ⟨rfl, ⟨hsz, hP, hK, hD0, hN⟩, hXw, hXs⟩ := hv
  have hts := atoms_spec (ws := wsL_isDivided) B.pre
  have hown : s.vm.findClass RL = some m.cls := findClass_of_methodNamed B.named
  have htb := vx_table (x := yL_isDivided) B (hts _ List.mem_cons_self)
  subst hsz
  have hD := hD0.self (sz := s.heap.size)
  generalize hAe : va_A ((wC ad cy ss ds ti co oma obr obj obo obm plo pch pbe pbl dnu dde dbo dln dld tba tal tro tsc tcl rma) ++ oW ao cy ov) s.heap.size = A at hD hXs ⊢
  have hA : ∀ q : Nat, s.heap.size ≤ q → A q := fun q h => by rw [← hAe]; exact Or.inr h
  have hl := lv_entry ([.ref (ad 0), .int x1, .ref ao]) (n := 4) (Nat.le_of_ble_eq_true rfl)
  rw [lg_entry_eq]
  generalize (lg_sl ([.ref (ad 0), .int x1, .ref ao]) ++ List.replicate (4 - (lg_sl ([.ref (ad 0), .int x1, .ref ao])).length) Slot.unset).toArray = ls at hl ⊢
  have hl : lv_has ls 4 [(0, .ref (ad 0)), (1, .int x1), (2, .ref ao)] := hl
  have hx := B.exec
  have hb := B.bytes
  have hS : va_S A s.heap s.heap [] := va_S.rf
  refine lv_aload_n hx hb dL_isDivided_0 rfl (lv_at hl 2 rfl) ?_
  refine lv_iconst (v := (0 : Int32)) hx hb dL_isDivided_1 (by decide) ?_
  refine lv_aload_n hx hb dL_isDivided_2 rfl (lv_at hl 0 rfl) ?_
  refine lv_iload_n hx hb dL_isDivided_3 rfl (lv_at hl 1 rfl) ?_
  obtain ⟨hPa, -⟩ := wp_app.mp hP
  obtain ⟨hDa, -, -⟩ := wd_app.mp hD
  have hFc := va_freeSame hD hS hA
  have hFa := va_freeSame hDa hS hA
  refine vx_calli (vx_runV (As := [.int x1]) (rest := [.int (0 : Int32), .ref ao]) ⟨hx, hb, hml, hown, hts⟩ (c_X6_isDivided l dC dI cy ad s.heap.size ss ds ti co oma obr obj obo obm plo pch pbe pbl dnu dde dbo dln dld tba tal tro tsc tcl rma x1 _ _ _ hst hm) (cwV 1 hts gL_isDivided_X6_isDivided rfl rfl rfl (by decide +kernel) ⟨Nat.le_of_ble_eq_true rfl, Nat.le_of_ble_eq_true rfl⟩) ⟨cPreX_blind, va_recv hK hPa (ci := 6) (q0 := 0) rfl rfl, fun U hU hW => ⟨rfl, cPreX_at hPa hK hDa hN hU hW hXw hXs hS hFa⟩⟩ rfl rfl hl.1 rfl (lv_room (Nat.le_of_ble_eq_true rfl)) dL_isDivided_4 ⟨Nat.le_of_ble_eq_true rfl, Nat.le_of_ble_eq_true rfl⟩) hS (fun q _ h => hFa q h) hFa (fun q _ h => hFa q h) (fun E ce q9 u t H locs ht hvm hpx hBX hz1 hk1 hS hce hcv hcl => ?_) (fun r u t H locs ht hvm hw hB hz1 hk1 hS => ?_)
  · obtain ⟨hq, hB⟩ := hBX
    obtain ⟨hP, hD⟩ := wj_l hP hD hk1 hFa (cPost_P ht hB) hB.2.2
    obtain ⟨rfl, hp⟩ := hq
    refine vx_catch (name := "java/lang/IndexOutOfBoundsException") hown [] ⟨0, 16, 19, 20⟩ [] htb (fun z hz => absurd hz List.not_mem_nil) (by decide) (by decide) (hts _ (by decide +kernel)) (xw_dc hXw _ (by decide +kernel)) hce hcv hcl ?_
    refine lv_astore_n (lv' := [(3, .ref q9), (0, .ref (ad 0)), (1, .int x1), (2, .ref ao)]) hx hb dL_isDivided_19 rfl hl (by decide) rfl (fun ls hl => ?_)
    refine lv_iconst (v := (1 : Int32)) hx hb dL_isDivided_20 (by decide) ?_
    exact W.iret hx hb B.returns (fun t ht hW => ⟨⟨(1 : Int32), ((ds, dnu, dde, dbo, dln, dld, tba, tal, tro, tsc, tcl, rma), ov), rfl, Or.inr (⟨rfl, hp, rfl⟩), cPost_of hAe ht hW.alike ⟨hP, hD, hS⟩ hK⟩, hS.F ht⟩) hS.2.2 dL_isDivided_21 B.notSynchronized
  · try dsimp only at hw
    obtain ⟨hP, hD⟩ := wj_l hP hD hk1 hFa (cPost_P ht hB) hB.2.2
    refine lv_if_eq (tgt := 14) hx hb dL_isDivided_7 (by decide) (fun h0 => ?_) (fun h0 => ?_)
    · refine lv_lconst (v := 0) hx hb dL_isDivided_14 (by decide) ?_
      refine va_last hx hb hK hP hD hS 28 1 rfl rfl in01 dL_isDivided_15 (fun H locs hP hD hS => ?_)
      have hP : va_P (dC, dI) vwCl ((wC ad cy ss (u.1) ti co oma obr obj obo obm plo pch pbe pbl (u.2.1) (u.2.2.1) (u.2.2.2.1) (u.2.2.2.2.1) (u.2.2.2.2.2.1) (u.2.2.2.2.2.2.1) (u.2.2.2.2.2.2.2.1) (u.2.2.2.2.2.2.2.2.1) (u.2.2.2.2.2.2.2.2.2.1) (u.2.2.2.2.2.2.2.2.2.2.1) (u.2.2.2.2.2.2.2.2.2.2.2)) ++ oW ao cy (vp_updL ov (0 : Int32).toNatClampNeg 0)) H := hP
      have hD : va_D A ((wC ad cy ss (u.1) ti co oma obr obj obo obm plo pch pbe pbl (u.2.1) (u.2.2.1) (u.2.2.2.1) (u.2.2.2.2.1) (u.2.2.2.2.2.1) (u.2.2.2.2.2.2.1) (u.2.2.2.2.2.2.2.1) (u.2.2.2.2.2.2.2.2.1) (u.2.2.2.2.2.2.2.2.2.1) (u.2.2.2.2.2.2.2.2.2.2.1) (u.2.2.2.2.2.2.2.2.2.2.2)) ++ oW ao cy (vp_updL ov (0 : Int32).toNatClampNeg 0)) := hD
      refine lv_goto (tgt := 22) hx hb dL_isDivided_16 (by decide) ?_
      refine lv_iconst (v := (0 : Int32)) hx hb dL_isDivided_22 (by decide) ?_
      exact W.iret hx hb B.returns (fun t ht hW => ⟨⟨(0 : Int32), (u, vp_updL ov (0 : Int32).toNatClampNeg 0), rfl, Or.inl ⟨rfl, r, hw.1, (upd01 (f := ov) (v := 0)).trans (if_pos h0).symm⟩, cPost_of hAe ht hW.alike ⟨hP, hD, hS⟩ hK⟩, hS.F ht⟩) hS.2.2 dL_isDivided_23 B.notSynchronized
    · refine lv_lconst (v := 1) hx hb dL_isDivided_10 (by decide) ?_
      refine lv_goto (tgt := 15) hx hb dL_isDivided_11 (by decide) ?_
      refine va_last hx hb hK hP hD hS 28 1 rfl rfl in01 dL_isDivided_15 (fun H locs hP hD hS => ?_)
      have hP : va_P (dC, dI) vwCl ((wC ad cy ss (u.1) ti co oma obr obj obo obm plo pch pbe pbl (u.2.1) (u.2.2.1) (u.2.2.2.1) (u.2.2.2.2.1) (u.2.2.2.2.2.1) (u.2.2.2.2.2.2.1) (u.2.2.2.2.2.2.2.1) (u.2.2.2.2.2.2.2.2.1) (u.2.2.2.2.2.2.2.2.2.1) (u.2.2.2.2.2.2.2.2.2.2.1) (u.2.2.2.2.2.2.2.2.2.2.2)) ++ oW ao cy (vp_updL ov (0 : Int32).toNatClampNeg 1)) H := hP
      have hD : va_D A ((wC ad cy ss (u.1) ti co oma obr obj obo obm plo pch pbe pbl (u.2.1) (u.2.2.1) (u.2.2.2.1) (u.2.2.2.2.1) (u.2.2.2.2.2.1) (u.2.2.2.2.2.2.1) (u.2.2.2.2.2.2.2.1) (u.2.2.2.2.2.2.2.2.1) (u.2.2.2.2.2.2.2.2.2.1) (u.2.2.2.2.2.2.2.2.2.2.1) (u.2.2.2.2.2.2.2.2.2.2.2)) ++ oW ao cy (vp_updL ov (0 : Int32).toNatClampNeg 1)) := hD
      refine lv_goto (tgt := 22) hx hb dL_isDivided_16 (by decide) ?_
      refine lv_iconst (v := (0 : Int32)) hx hb dL_isDivided_22 (by decide) ?_
      exact W.iret hx hb B.returns (fun t ht hW => ⟨⟨(0 : Int32), (u, vp_updL ov (0 : Int32).toNatClampNeg 1), rfl, Or.inl ⟨rfl, r, hw.1, (upd01 (f := ov) (v := 1)).trans (if_neg h0).symm⟩, cPost_of hAe ht hW.alike ⟨hP, hD, hS⟩ hK⟩, hS.F ht⟩) hS.2.2 dL_isDivided_23 B.notSynchronized
abbrev rmL_roundedMachine : Room := { frames := 44, cells := 1, slots := 6, locals := 4270 }
set_option maxHeartbeats 4000000 in
set_option maxRecDepth 100000 in
theorem c_L_roundedMachine (l : Launch) (dC : Nat → ClassId) (dI : Nat → Nat → Nat) (cy : Nat → ClassId) (ad : Nat → Nat) (sz : Nat) (ss : Int32) (ds : Int32) (ti : Nat → Int32) (co : Int32) (oma : Nat → Int32) (obr : Int32) (obj : Int32) (obo : Int32) (obm : Int32) (plo : Nat → Int32) (pch : Nat → Int32) (pbe : Nat → Int32) (pbl : Int32) (dnu : Nat → Int32) (dde : Nat → Int32) (dbo : Int32) (dln : Int32) (dld : Int32) (tba : Nat → Int32) (tal : Nat → Int32) (tro : Int32) (tsc : Int64) (tcl : Nat → Nat → Int64) (rma : Nat → Int32) (x1 : Int32) (N : Nat) (Q : Int32 → Int32 → (Nat → Int32) → (Nat → Int32) → Int32 → Int32 → Int32 → (Nat → Int32) → (Nat → Int32) → Int32 → Int64 → (Nat → Nat → Int64) → (Nat → Int32) → Prop) (ao : Nat) (ov : Nat → Int64) (P1 : Prop) (hst : l.stackTraces = false) (hm : p_X6_roundedMachine N ti co Q (fun E => (E = "java/lang/IndexOutOfBoundsException" ∧ P1)) x1 ds dnu dde dbo dln dld tba tal tro tsc tcl rma) : Met l yL_roundedMachine wsL_roundedMachine rmL_roundedMachine (va_Pc [.ref (ad 0), .int x1, .ref ao] (cPreX dC dI cy ((wC ad cy ss ds ti co oma obr obj obo obm plo pch pbe pbl dnu dde dbo dln dld tba tal tro tsc tcl rma) ++ oW ao cy ov) sz)) (va_Qi (fun (k : Int32) (w : (Int32 × (Nat → Int32) × (Nat → Int32) × Int32 × Int32 × Int32 × (Nat → Int32) × (Nat → Int32) × Int32 × Int64 × (Nat → Nat → Int64) × (Nat → Int32)) × (Nat → Int64)) => (k = 0 ∧ ∃ r : Int32, Q r w.1.1 w.1.2.1 w.1.2.2.1 w.1.2.2.2.1 w.1.2.2.2.2.1 w.1.2.2.2.2.2.1 w.1.2.2.2.2.2.2.1 w.1.2.2.2.2.2.2.2.1 w.1.2.2.2.2.2.2.2.2.1 w.1.2.2.2.2.2.2.2.2.2.1 w.1.2.2.2.2.2.2.2.2.2.2.1 w.1.2.2.2.2.2.2.2.2.2.2.2 ∧ w.2 0 = r.toInt64) ∨ (k = 1 ∧ P1 ∧ w.1 = (ds, dnu, dde, dbo, dln, dld, tba, tal, tro, tsc, tcl, rma))) (fun w t => cPost dC dI cy ((wC ad cy ss ds ti co oma obr obj obo obm plo pch pbe pbl dnu dde dbo dln dld tba tal tro tsc tcl rma) ++ oW ao cy ov) sz ((wC ad cy ss (w.1.1) ti co oma obr obj obo obm plo pch pbe pbl (w.1.2.1) (w.1.2.2.1) (w.1.2.2.2.1) (w.1.2.2.2.2.1) (w.1.2.2.2.2.2.1) (w.1.2.2.2.2.2.2.1) (w.1.2.2.2.2.2.2.2.1) (w.1.2.2.2.2.2.2.2.2.1) (w.1.2.2.2.2.2.2.2.2.2.1) (w.1.2.2.2.2.2.2.2.2.2.2.1) (w.1.2.2.2.2.2.2.2.2.2.2.2)) ++ oW ao cy w.2) t) (va_A ((wC ad cy ss ds ti co oma obr obj obo obm plo pch pbe pbl dnu dde dbo dln dld tba tal tro tsc tcl rma) ++ oW ao cy ov) sz)) 1 6 (va_A ((wC ad cy ss ds ti co oma obr obj obo obm plo pch pbe pbl dnu dde dbo dln dld tba tal tro tsc tcl rma) ++ oW ao cy ov) sz) := by
  refine Met_ofWH (cc := cL_roundedMachine) (maxL := 4) (ret := (some .int)) (hh := [(0, 9, 12, 20)]) (by decide) rfl ?_
  intro p e s m args below meth c s₁ B hml hv
  obtain ⟨rfl, ⟨hsz, hP, hK, hD0, hN⟩, hXw, hXs⟩ := hv
  have hts := atoms_spec (ws := wsL_roundedMachine) B.pre
  have hown : s.vm.findClass RL = some m.cls := findClass_of_methodNamed B.named
  have htb := vx_table (x := yL_roundedMachine) B (hts _ List.mem_cons_self)
  subst hsz
  have hD := hD0.self (sz := s.heap.size)
  generalize hAe : va_A ((wC ad cy ss ds ti co oma obr obj obo obm plo pch pbe pbl dnu dde dbo dln dld tba tal tro tsc tcl rma) ++ oW ao cy ov) s.heap.size = A at hD hXs ⊢
  have hA : ∀ q : Nat, s.heap.size ≤ q → A q := fun q h => by rw [← hAe]; exact Or.inr h
  have hl := lv_entry ([.ref (ad 0), .int x1, .ref ao]) (n := 4) (Nat.le_of_ble_eq_true rfl)
  rw [lg_entry_eq]
  generalize (lg_sl ([.ref (ad 0), .int x1, .ref ao]) ++ List.replicate (4 - (lg_sl ([.ref (ad 0), .int x1, .ref ao])).length) Slot.unset).toArray = ls at hl ⊢
  have hl : lv_has ls 4 [(0, .ref (ad 0)), (1, .int x1), (2, .ref ao)] := hl
  have hx := B.exec
  have hb := B.bytes
  have hS : va_S A s.heap s.heap [] := va_S.rf
  refine lv_aload_n hx hb dL_roundedMachine_0 rfl (lv_at hl 2 rfl) ?_
  refine lv_iconst (v := (0 : Int32)) hx hb dL_roundedMachine_1 (by decide) ?_
  refine lv_aload_n hx hb dL_roundedMachine_2 rfl (lv_at hl 0 rfl) ?_
  refine lv_iload_n hx hb dL_roundedMachine_3 rfl (lv_at hl 1 rfl) ?_
  obtain ⟨hPa, -⟩ := wp_app.mp hP
  obtain ⟨hDa, -, -⟩ := wd_app.mp hD
  have hFc := va_freeSame hD hS hA
  have hFa := va_freeSame hDa hS hA
  refine vx_calli (vx_runV (As := [.int x1]) (rest := [.int (0 : Int32), .ref ao]) ⟨hx, hb, hml, hown, hts⟩ (c_X6_roundedMachine l dC dI cy ad s.heap.size ss ds ti co oma obr obj obo obm plo pch pbe pbl dnu dde dbo dln dld tba tal tro tsc tcl rma x1 _ _ _ hst hm) (cwV 1 hts gL_roundedMachine_X6_roundedMachine rfl rfl rfl (by decide +kernel) ⟨Nat.le_of_ble_eq_true rfl, Nat.le_of_ble_eq_true rfl⟩) ⟨cPreX_blind, va_recv hK hPa (ci := 6) (q0 := 0) rfl rfl, fun U hU hW => ⟨rfl, cPreX_at hPa hK hDa hN hU hW hXw hXs hS hFa⟩⟩ rfl rfl hl.1 rfl (lv_room (Nat.le_of_ble_eq_true rfl)) dL_roundedMachine_4 ⟨Nat.le_of_ble_eq_true rfl, Nat.le_of_ble_eq_true rfl⟩) hS (fun q _ h => hFa q h) hFa (fun q _ h => hFa q h) (fun E ce q9 u t H locs ht hvm hpx hBX hz1 hk1 hS hce hcv hcl => ?_) (fun r u t H locs ht hvm hw hB hz1 hk1 hS => ?_)
  · obtain ⟨hq, hB⟩ := hBX
    obtain ⟨hP, hD⟩ := wj_l hP hD hk1 hFa (cPost_P ht hB) hB.2.2
    obtain ⟨rfl, hp⟩ := hq
    refine vx_catch (name := "java/lang/IndexOutOfBoundsException") hown [] ⟨0, 9, 12, 20⟩ [] htb (fun z hz => absurd hz List.not_mem_nil) (by decide) (by decide) (hts _ (by decide +kernel)) (xw_dc hXw _ (by decide +kernel)) hce hcv hcl ?_
    refine lv_astore_n (lv' := [(3, .ref q9), (0, .ref (ad 0)), (1, .int x1), (2, .ref ao)]) hx hb dL_roundedMachine_12 rfl hl (by decide) rfl (fun ls hl => ?_)
    refine lv_iconst (v := (1 : Int32)) hx hb dL_roundedMachine_13 (by decide) ?_
    exact W.iret hx hb B.returns (fun t ht hW => ⟨⟨(1 : Int32), ((ds, dnu, dde, dbo, dln, dld, tba, tal, tro, tsc, tcl, rma), ov), rfl, Or.inr (⟨rfl, hp, rfl⟩), cPost_of hAe ht hW.alike ⟨hP, hD, hS⟩ hK⟩, hS.F ht⟩) hS.2.2 dL_roundedMachine_14 B.notSynchronized
  · try dsimp only at hw
    obtain ⟨hP, hD⟩ := wj_l hP hD hk1 hFa (cPost_P ht hB) hB.2.2
    refine lv_i2l (v := r.toInt64) hx hb dL_roundedMachine_7 rfl ?_
    refine va_last hx hb hK hP hD hS 28 1 rfl rfl in01 dL_roundedMachine_8 (fun H locs hP hD hS => ?_)
    have hP : va_P (dC, dI) vwCl ((wC ad cy ss (u.1) ti co oma obr obj obo obm plo pch pbe pbl (u.2.1) (u.2.2.1) (u.2.2.2.1) (u.2.2.2.2.1) (u.2.2.2.2.2.1) (u.2.2.2.2.2.2.1) (u.2.2.2.2.2.2.2.1) (u.2.2.2.2.2.2.2.2.1) (u.2.2.2.2.2.2.2.2.2.1) (u.2.2.2.2.2.2.2.2.2.2.1) (u.2.2.2.2.2.2.2.2.2.2.2)) ++ oW ao cy (vp_updL ov (0 : Int32).toNatClampNeg r.toInt64)) H := hP
    have hD : va_D A ((wC ad cy ss (u.1) ti co oma obr obj obo obm plo pch pbe pbl (u.2.1) (u.2.2.1) (u.2.2.2.1) (u.2.2.2.2.1) (u.2.2.2.2.2.1) (u.2.2.2.2.2.2.1) (u.2.2.2.2.2.2.2.1) (u.2.2.2.2.2.2.2.2.1) (u.2.2.2.2.2.2.2.2.2.1) (u.2.2.2.2.2.2.2.2.2.2.1) (u.2.2.2.2.2.2.2.2.2.2.2)) ++ oW ao cy (vp_updL ov (0 : Int32).toNatClampNeg r.toInt64)) := hD
    refine lv_goto (tgt := 15) hx hb dL_roundedMachine_9 (by decide) ?_
    refine lv_iconst (v := (0 : Int32)) hx hb dL_roundedMachine_15 (by decide) ?_
    exact W.iret hx hb B.returns (fun t ht hW => ⟨⟨(0 : Int32), (u, vp_updL ov (0 : Int32).toNatClampNeg r.toInt64), rfl, Or.inl ⟨rfl, r, hw, (upd01 (f := ov) (v := r.toInt64))⟩, cPost_of hAe ht hW.alike ⟨hP, hD, hS⟩ hK⟩, hS.F ht⟩) hS.2.2 dL_roundedMachine_16 B.notSynchronized
abbrev rmL_assign : Room := { frames := 12, cells := 3, slots := 18, locals := 304 }
set_option maxHeartbeats 4000000 in
set_option maxRecDepth 100000 in
theorem c_L_assign (l : Launch) (dC : Nat → ClassId) (dI : Nat → Nat → Nat) (cy : Nat → ClassId) (ad : Nat → Nat) (sz : Nat) (ss : Int32) (ds : Int32) (ti : Nat → Int32) (co : Int32) (oma : Nat → Int32) (obr : Int32) (obj : Int32) (obo : Int32) (obm : Int32) (plo : Nat → Int32) (pch : Nat → Int32) (pbe : Nat → Int32) (pbl : Int32) (dnu : Nat → Int32) (dde : Nat → Int32) (dbo : Int32) (dln : Int32) (dld : Int32) (tba : Nat → Int32) (tal : Nat → Int32) (tro : Int32) (tsc : Int64) (tcl : Nat → Nat → Int64) (rma : Nat → Int32) (x1 : Int32) (x2 : Int32) (N : Nat) (Q : Int32 → (Nat → Int32) → Prop) (ao : Nat) (ov : Nat → Int64) (P1 : Prop) (P2 : Prop) (hst : l.stackTraces = false) (hm : p_X6_assign N ti co Q (fun E => (E = "java/lang/IndexOutOfBoundsException" ∧ P1) ∨ (E = "java/lang/IllegalStateException" ∧ P2)) x1 x2 oma) : Met l yL_assign wsL_assign rmL_assign (va_Pc [.ref (ad 0), .int x1, .int x2, .ref ao] (cPreX dC dI cy ((wC ad cy ss ds ti co oma obr obj obo obm plo pch pbe pbl dnu dde dbo dln dld tba tal tro tsc tcl rma) ++ oW ao cy ov) sz)) (va_Qi (fun (k : Int32) (w : ((Nat → Int32)) × (Nat → Int64)) => (k = 0 ∧ ∃ r : Int32, Q r w.1 ∧ w.2 0 = r.toInt64) ∨ (k = 1 ∧ P1 ∧ w.1 = oma) ∨ (k = 2 ∧ P2 ∧ w.1 = oma)) (fun w t => cPost dC dI cy ((wC ad cy ss ds ti co oma obr obj obo obm plo pch pbe pbl dnu dde dbo dln dld tba tal tro tsc tcl rma) ++ oW ao cy ov) sz ((wC ad cy ss ds ti co w.1 obr obj obo obm plo pch pbe pbl dnu dde dbo dln dld tba tal tro tsc tcl rma) ++ oW ao cy w.2) t) (va_A ((wC ad cy ss ds ti co oma obr obj obo obm plo pch pbe pbl dnu dde dbo dln dld tba tal tro tsc tcl rma) ++ oW ao cy ov) sz)) 3 18 (va_A ((wC ad cy ss ds ti co oma obr obj obo obm plo pch pbe pbl dnu dde dbo dln dld tba tal tro tsc tcl rma) ++ oW ao cy ov) sz) := by
  refine Met_ofWH (cc := cL_assign) (maxL := 5) (ret := (some .int)) (hh := [(0, 10, 13, 20), (0, 10, 17, 15)]) (by decide) rfl ?_
  intro p e s m args below meth c s₁ B hml hv
  obtain ⟨rfl, ⟨hsz, hP, hK, hD0, hN⟩, hXw, hXs⟩ := hv
  have hts := atoms_spec (ws := wsL_assign) B.pre
  have hown : s.vm.findClass RL = some m.cls := findClass_of_methodNamed B.named
  have htb := vx_table (x := yL_assign) B (hts _ List.mem_cons_self)
  subst hsz
  have hD := hD0.self (sz := s.heap.size)
  generalize hAe : va_A ((wC ad cy ss ds ti co oma obr obj obo obm plo pch pbe pbl dnu dde dbo dln dld tba tal tro tsc tcl rma) ++ oW ao cy ov) s.heap.size = A at hD hXs ⊢
  have hA : ∀ q : Nat, s.heap.size ≤ q → A q := fun q h => by rw [← hAe]; exact Or.inr h
  have hl := lv_entry ([.ref (ad 0), .int x1, .int x2, .ref ao]) (n := 5) (Nat.le_of_ble_eq_true rfl)
  rw [lg_entry_eq]
  generalize (lg_sl ([.ref (ad 0), .int x1, .int x2, .ref ao]) ++ List.replicate (5 - (lg_sl ([.ref (ad 0), .int x1, .int x2, .ref ao])).length) Slot.unset).toArray = ls at hl ⊢
  have hl : lv_has ls 5 [(0, .ref (ad 0)), (1, .int x1), (2, .int x2), (3, .ref ao)] := hl
  have hx := B.exec
  have hb := B.bytes
  have hS : va_S A s.heap s.heap [] := va_S.rf
  refine lv_aload_n hx hb dL_assign_0 rfl (lv_at hl 3 rfl) ?_
  refine lv_iconst (v := (0 : Int32)) hx hb dL_assign_1 (by decide) ?_
  refine lv_aload_n hx hb dL_assign_2 rfl (lv_at hl 0 rfl) ?_
  refine lv_iload_n hx hb dL_assign_3 rfl (lv_at hl 1 rfl) ?_
  refine lv_iload_n hx hb dL_assign_4 rfl (lv_at hl 2 rfl) ?_
  obtain ⟨hPa, -⟩ := wp_app.mp hP
  obtain ⟨hDa, -, -⟩ := wd_app.mp hD
  have hFc := va_freeSame hD hS hA
  have hFa := va_freeSame hDa hS hA
  refine vx_calli (vx_runV (As := [.int x1, .int x2]) (rest := [.int (0 : Int32), .ref ao]) ⟨hx, hb, hml, hown, hts⟩ (c_X6_assign l dC dI cy ad s.heap.size ss ds ti co oma obr obj obo obm plo pch pbe pbl dnu dde dbo dln dld tba tal tro tsc tcl rma x1 x2 _ _ _ hst hm) (cwV 2 hts gL_assign_X6_assign rfl rfl rfl (by decide +kernel) ⟨Nat.le_of_ble_eq_true rfl, Nat.le_of_ble_eq_true rfl⟩) ⟨cPreX_blind, va_recv hK hPa (ci := 6) (q0 := 0) rfl rfl, fun U hU hW => ⟨rfl, cPreX_at hPa hK hDa hN hU hW hXw hXs hS hFa⟩⟩ rfl rfl hl.1 rfl (lv_room (Nat.le_of_ble_eq_true rfl)) dL_assign_5 ⟨Nat.le_of_ble_eq_true rfl, Nat.le_of_ble_eq_true rfl⟩) hS (fun q _ h => hFa q h) hFa (fun q _ h => hFa q h) (fun E ce q9 u t H locs ht hvm hpx hBX hz1 hk1 hS hce hcv hcl => ?_) (fun r u t H locs ht hvm hw hB hz1 hk1 hS => ?_)
  · obtain ⟨hq, hB⟩ := hBX
    obtain ⟨hP, hD⟩ := wj_l hP hD hk1 hFa (cPost_P ht hB) hB.2.2
    rcases hq with ⟨rfl, hp⟩ | ⟨rfl, hp⟩
    · refine vx_catch (name := "java/lang/IndexOutOfBoundsException") hown [] ⟨0, 10, 13, 20⟩ [⟨0, 10, 17, 15⟩] htb (fun z hz => absurd hz List.not_mem_nil) (by decide) (by decide) (hts _ (by decide +kernel)) (xw_dc hXw _ (by decide +kernel)) hce hcv hcl ?_
      refine lv_astore (lv' := [(4, .ref q9), (0, .ref (ad 0)), (1, .int x1), (2, .int x2), (3, .ref ao)]) hx hb dL_assign_13 hl (by decide) rfl (fun ls hl => ?_)
      refine lv_iconst (v := (1 : Int32)) hx hb dL_assign_15 (by decide) ?_
      exact W.iret hx hb B.returns (fun t ht hW => ⟨⟨(1 : Int32), (oma, ov), rfl, Or.inr (Or.inl ⟨rfl, hp, rfl⟩), cPost_of hAe ht hW.alike ⟨hP, hD, hS⟩ hK⟩, hS.F ht⟩) hS.2.2 dL_assign_16 B.notSynchronized
    · refine vx_catch (name := "java/lang/IllegalStateException") hown [⟨0, 10, 13, 20⟩] ⟨0, 10, 17, 15⟩ [] htb (fun z hz => by rw [List.mem_singleton.mp hz]; exact Or.inr ⟨by decide, "java/lang/IndexOutOfBoundsException", hts _ (by decide +kernel), hXw.2.2.2.1⟩) (by decide) (by decide) (hts _ (by decide +kernel)) (xw_dc hXw _ (by decide +kernel)) hce hcv hcl ?_
      refine lv_astore (lv' := [(4, .ref q9), (0, .ref (ad 0)), (1, .int x1), (2, .int x2), (3, .ref ao)]) hx hb dL_assign_17 hl (by decide) rfl (fun ls hl => ?_)
      refine lv_iconst (v := (2 : Int32)) hx hb dL_assign_19 (by decide) ?_
      exact W.iret hx hb B.returns (fun t ht hW => ⟨⟨(2 : Int32), (oma, ov), rfl, Or.inr (Or.inr (⟨rfl, hp, rfl⟩)), cPost_of hAe ht hW.alike ⟨hP, hD, hS⟩ hK⟩, hS.F ht⟩) hS.2.2 dL_assign_20 B.notSynchronized
  · try dsimp only at hw
    obtain ⟨hP, hD⟩ := wj_l hP hD hk1 hFa (cPost_P ht hB) hB.2.2
    refine lv_i2l (v := r.toInt64) hx hb dL_assign_8 rfl ?_
    refine va_last hx hb hK hP hD hS 28 1 rfl rfl in01 dL_assign_9 (fun H locs hP hD hS => ?_)
    have hP : va_P (dC, dI) vwCl ((wC ad cy ss ds ti co u obr obj obo obm plo pch pbe pbl dnu dde dbo dln dld tba tal tro tsc tcl rma) ++ oW ao cy (vp_updL ov (0 : Int32).toNatClampNeg r.toInt64)) H := hP
    have hD : va_D A ((wC ad cy ss ds ti co u obr obj obo obm plo pch pbe pbl dnu dde dbo dln dld tba tal tro tsc tcl rma) ++ oW ao cy (vp_updL ov (0 : Int32).toNatClampNeg r.toInt64)) := hD
    refine lv_goto (tgt := 21) hx hb dL_assign_10 (by decide) ?_
    refine lv_iconst (v := (0 : Int32)) hx hb dL_assign_21 (by decide) ?_
    exact W.iret hx hb B.returns (fun t ht hW => ⟨⟨(0 : Int32), (u, vp_updL ov (0 : Int32).toNatClampNeg r.toInt64), rfl, Or.inl ⟨rfl, r, hw, (upd01 (f := ov) (v := r.toInt64))⟩, cPost_of hAe ht hW.alike ⟨hP, hD, hS⟩ hK⟩, hS.F ht⟩) hS.2.2 dL_assign_22 B.notSynchronized
abbrev rmL_machine : Room := { frames := 12, cells := 1, slots := 6, locals := 302 }
set_option maxHeartbeats 4000000 in
set_option maxRecDepth 100000 in
theorem c_L_machine (l : Launch) (dC : Nat → ClassId) (dI : Nat → Nat → Nat) (cy : Nat → ClassId) (ad : Nat → Nat) (sz : Nat) (ss : Int32) (ds : Int32) (ti : Nat → Int32) (co : Int32) (oma : Nat → Int32) (obr : Int32) (obj : Int32) (obo : Int32) (obm : Int32) (plo : Nat → Int32) (pch : Nat → Int32) (pbe : Nat → Int32) (pbl : Int32) (dnu : Nat → Int32) (dde : Nat → Int32) (dbo : Int32) (dln : Int32) (dld : Int32) (tba : Nat → Int32) (tal : Nat → Int32) (tro : Int32) (tsc : Int64) (tcl : Nat → Nat → Int64) (rma : Nat → Int32) (x1 : Int32) (N : Nat) (Q : Int32 → Prop) (ao : Nat) (ov : Nat → Int64) (P1 : Prop) (hst : l.stackTraces = false) (hm : p_X6_machine N co oma Q (fun E => (E = "java/lang/IndexOutOfBoundsException" ∧ P1)) x1) : Met l yL_machine wsL_machine rmL_machine (va_Pc [.ref (ad 0), .int x1, .ref ao] (cPreX dC dI cy ((wC ad cy ss ds ti co oma obr obj obo obm plo pch pbe pbl dnu dde dbo dln dld tba tal tro tsc tcl rma) ++ oW ao cy ov) sz)) (va_Qi (fun (k : Int32) (w : (Unit) × (Nat → Int64)) => (k = 0 ∧ ∃ r : Int32, Q r ∧ w.2 0 = r.toInt64) ∨ (k = 1 ∧ P1 ∧ w.1 = ())) (fun w t => cPost dC dI cy ((wC ad cy ss ds ti co oma obr obj obo obm plo pch pbe pbl dnu dde dbo dln dld tba tal tro tsc tcl rma) ++ oW ao cy ov) sz ((wC ad cy ss ds ti co oma obr obj obo obm plo pch pbe pbl dnu dde dbo dln dld tba tal tro tsc tcl rma) ++ oW ao cy w.2) t) (va_A ((wC ad cy ss ds ti co oma obr obj obo obm plo pch pbe pbl dnu dde dbo dln dld tba tal tro tsc tcl rma) ++ oW ao cy ov) sz)) 1 6 (va_A ((wC ad cy ss ds ti co oma obr obj obo obm plo pch pbe pbl dnu dde dbo dln dld tba tal tro tsc tcl rma) ++ oW ao cy ov) sz) := by
  refine Met_ofWH (cc := cL_machine) (maxL := 4) (ret := (some .int)) (hh := [(0, 9, 12, 20)]) (by decide) rfl ?_
  intro p e s m args below meth c s₁ B hml hv
  obtain ⟨rfl, ⟨hsz, hP, hK, hD0, hN⟩, hXw, hXs⟩ := hv
  have hts := atoms_spec (ws := wsL_machine) B.pre
  have hown : s.vm.findClass RL = some m.cls := findClass_of_methodNamed B.named
  have htb := vx_table (x := yL_machine) B (hts _ List.mem_cons_self)
  subst hsz
  have hD := hD0.self (sz := s.heap.size)
  generalize hAe : va_A ((wC ad cy ss ds ti co oma obr obj obo obm plo pch pbe pbl dnu dde dbo dln dld tba tal tro tsc tcl rma) ++ oW ao cy ov) s.heap.size = A at hD hXs ⊢
  have hA : ∀ q : Nat, s.heap.size ≤ q → A q := fun q h => by rw [← hAe]; exact Or.inr h
  have hl := lv_entry ([.ref (ad 0), .int x1, .ref ao]) (n := 4) (Nat.le_of_ble_eq_true rfl)
  rw [lg_entry_eq]
  generalize (lg_sl ([.ref (ad 0), .int x1, .ref ao]) ++ List.replicate (4 - (lg_sl ([.ref (ad 0), .int x1, .ref ao])).length) Slot.unset).toArray = ls at hl ⊢
  have hl : lv_has ls 4 [(0, .ref (ad 0)), (1, .int x1), (2, .ref ao)] := hl
  have hx := B.exec
  have hb := B.bytes
  have hS : va_S A s.heap s.heap [] := va_S.rf
  refine lv_aload_n hx hb dL_machine_0 rfl (lv_at hl 2 rfl) ?_
  refine lv_iconst (v := (0 : Int32)) hx hb dL_machine_1 (by decide) ?_
  refine lv_aload_n hx hb dL_machine_2 rfl (lv_at hl 0 rfl) ?_
  refine lv_iload_n hx hb dL_machine_3 rfl (lv_at hl 1 rfl) ?_
  obtain ⟨hPa, -⟩ := wp_app.mp hP
  obtain ⟨hDa, -, -⟩ := wd_app.mp hD
  have hFc := va_freeSame hD hS hA
  have hFa := va_freeSame hDa hS hA
  refine vx_calli (vx_runV (As := [.int x1]) (rest := [.int (0 : Int32), .ref ao]) ⟨hx, hb, hml, hown, hts⟩ (c_X6_machine l dC dI cy ad s.heap.size ss ds ti co oma obr obj obo obm plo pch pbe pbl dnu dde dbo dln dld tba tal tro tsc tcl rma x1 _ _ _ hst hm) (cwV 1 hts gL_machine_X6_machine rfl rfl rfl (by decide +kernel) ⟨Nat.le_of_ble_eq_true rfl, Nat.le_of_ble_eq_true rfl⟩) ⟨cPreX_blind, va_recv hK hPa (ci := 6) (q0 := 0) rfl rfl, fun U hU hW => ⟨rfl, cPreX_at hPa hK hDa hN hU hW hXw hXs hS hFa⟩⟩ rfl rfl hl.1 rfl (lv_room (Nat.le_of_ble_eq_true rfl)) dL_machine_4 ⟨Nat.le_of_ble_eq_true rfl, Nat.le_of_ble_eq_true rfl⟩) hS (fun q _ h => hFa q h) hFa (fun q _ h => hFa q h) (fun E ce q9 u t H locs ht hvm hpx hBX hz1 hk1 hS hce hcv hcl => ?_) (fun r u t H locs ht hvm hw hB hz1 hk1 hS => ?_)
  · obtain ⟨hq, hB⟩ := hBX
    obtain ⟨hP, hD⟩ := wj_l hP hD hk1 hFa (cPost_P ht hB) hB.2.2
    obtain ⟨rfl, hp⟩ := hq
    refine vx_catch (name := "java/lang/IndexOutOfBoundsException") hown [] ⟨0, 9, 12, 20⟩ [] htb (fun z hz => absurd hz List.not_mem_nil) (by decide) (by decide) (hts _ (by decide +kernel)) (xw_dc hXw _ (by decide +kernel)) hce hcv hcl ?_
    refine lv_astore_n (lv' := [(3, .ref q9), (0, .ref (ad 0)), (1, .int x1), (2, .ref ao)]) hx hb dL_machine_12 rfl hl (by decide) rfl (fun ls hl => ?_)
    refine lv_iconst (v := (1 : Int32)) hx hb dL_machine_13 (by decide) ?_
    exact W.iret hx hb B.returns (fun t ht hW => ⟨⟨(1 : Int32), ((), ov), rfl, Or.inr (⟨rfl, hp, rfl⟩), cPost_of hAe ht hW.alike ⟨hP, hD, hS⟩ hK⟩, hS.F ht⟩) hS.2.2 dL_machine_14 B.notSynchronized
  · try dsimp only at hw
    obtain ⟨hP, hD⟩ := wj_l hP hD hk1 hFa (cPost_P ht hB) hB.2.2
    refine lv_i2l (v := r.toInt64) hx hb dL_machine_7 rfl ?_
    refine va_last hx hb hK hP hD hS 28 1 rfl rfl in01 dL_machine_8 (fun H locs hP hD hS => ?_)
    have hP : va_P (dC, dI) vwCl ((wC ad cy ss ds ti co oma obr obj obo obm plo pch pbe pbl dnu dde dbo dln dld tba tal tro tsc tcl rma) ++ oW ao cy (vp_updL ov (0 : Int32).toNatClampNeg r.toInt64)) H := hP
    have hD : va_D A ((wC ad cy ss ds ti co oma obr obj obo obm plo pch pbe pbl dnu dde dbo dln dld tba tal tro tsc tcl rma) ++ oW ao cy (vp_updL ov (0 : Int32).toNatClampNeg r.toInt64)) := hD
    refine lv_goto (tgt := 15) hx hb dL_machine_9 (by decide) ?_
    refine lv_iconst (v := (0 : Int32)) hx hb dL_machine_15 (by decide) ?_
    exact W.iret hx hb B.returns (fun t ht hW => ⟨⟨(0 : Int32), (u, vp_updL ov (0 : Int32).toNatClampNeg r.toInt64), rfl, Or.inl ⟨rfl, r, hw, (upd01 (f := ov) (v := r.toInt64))⟩, cPost_of hAe ht hW.alike ⟨hP, hD, hS⟩ hK⟩, hS.F ht⟩) hS.2.2 dL_machine_16 B.notSynchronized
abbrev rmL_load : Room := { frames := 12, cells := 1, slots := 6, locals := 301 }
set_option maxHeartbeats 4000000 in
set_option maxRecDepth 100000 in
theorem c_L_load (l : Launch) (dC : Nat → ClassId) (dI : Nat → Nat → Nat) (cy : Nat → ClassId) (ad : Nat → Nat) (sz : Nat) (ss : Int32) (ds : Int32) (ti : Nat → Int32) (co : Int32) (oma : Nat → Int32) (obr : Int32) (obj : Int32) (obo : Int32) (obm : Int32) (plo : Nat → Int32) (pch : Nat → Int32) (pbe : Nat → Int32) (pbl : Int32) (dnu : Nat → Int32) (dde : Nat → Int32) (dbo : Int32) (dln : Int32) (dld : Int32) (tba : Nat → Int32) (tal : Nat → Int32) (tro : Int32) (tsc : Int64) (tcl : Nat → Nat → Int64) (rma : Nat → Int32) (x1 : Int32) (N : Nat) (Q : Int32 → Prop) (ao : Nat) (ov : Nat → Int64) (P1 : Prop) (hst : l.stackTraces = false) (hm : p_X6_load N ti co oma Q (fun E => (E = "java/lang/IndexOutOfBoundsException" ∧ P1)) x1) : Met l yL_load wsL_load rmL_load (va_Pc [.ref (ad 0), .int x1, .ref ao] (cPreX dC dI cy ((wC ad cy ss ds ti co oma obr obj obo obm plo pch pbe pbl dnu dde dbo dln dld tba tal tro tsc tcl rma) ++ oW ao cy ov) sz)) (va_Qi (fun (k : Int32) (w : (Unit) × (Nat → Int64)) => (k = 0 ∧ ∃ r : Int32, Q r ∧ w.2 0 = r.toInt64) ∨ (k = 1 ∧ P1 ∧ w.1 = ())) (fun w t => cPost dC dI cy ((wC ad cy ss ds ti co oma obr obj obo obm plo pch pbe pbl dnu dde dbo dln dld tba tal tro tsc tcl rma) ++ oW ao cy ov) sz ((wC ad cy ss ds ti co oma obr obj obo obm plo pch pbe pbl dnu dde dbo dln dld tba tal tro tsc tcl rma) ++ oW ao cy w.2) t) (va_A ((wC ad cy ss ds ti co oma obr obj obo obm plo pch pbe pbl dnu dde dbo dln dld tba tal tro tsc tcl rma) ++ oW ao cy ov) sz)) 1 6 (va_A ((wC ad cy ss ds ti co oma obr obj obo obm plo pch pbe pbl dnu dde dbo dln dld tba tal tro tsc tcl rma) ++ oW ao cy ov) sz) := by
  refine Met_ofWH (cc := cL_load) (maxL := 4) (ret := (some .int)) (hh := [(0, 9, 12, 20)]) (by decide) rfl ?_
  intro p e s m args below meth c s₁ B hml hv
  obtain ⟨rfl, ⟨hsz, hP, hK, hD0, hN⟩, hXw, hXs⟩ := hv
  have hts := atoms_spec (ws := wsL_load) B.pre
  have hown : s.vm.findClass RL = some m.cls := findClass_of_methodNamed B.named
  have htb := vx_table (x := yL_load) B (hts _ List.mem_cons_self)
  subst hsz
  have hD := hD0.self (sz := s.heap.size)
  generalize hAe : va_A ((wC ad cy ss ds ti co oma obr obj obo obm plo pch pbe pbl dnu dde dbo dln dld tba tal tro tsc tcl rma) ++ oW ao cy ov) s.heap.size = A at hD hXs ⊢
  have hA : ∀ q : Nat, s.heap.size ≤ q → A q := fun q h => by rw [← hAe]; exact Or.inr h
  have hl := lv_entry ([.ref (ad 0), .int x1, .ref ao]) (n := 4) (Nat.le_of_ble_eq_true rfl)
  rw [lg_entry_eq]
  generalize (lg_sl ([.ref (ad 0), .int x1, .ref ao]) ++ List.replicate (4 - (lg_sl ([.ref (ad 0), .int x1, .ref ao])).length) Slot.unset).toArray = ls at hl ⊢
  have hl : lv_has ls 4 [(0, .ref (ad 0)), (1, .int x1), (2, .ref ao)] := hl
  have hx := B.exec
  have hb := B.bytes
  have hS : va_S A s.heap s.heap [] := va_S.rf
  refine lv_aload_n hx hb dL_load_0 rfl (lv_at hl 2 rfl) ?_
  refine lv_iconst (v := (0 : Int32)) hx hb dL_load_1 (by decide) ?_
  refine lv_aload_n hx hb dL_load_2 rfl (lv_at hl 0 rfl) ?_
  refine lv_iload_n hx hb dL_load_3 rfl (lv_at hl 1 rfl) ?_
  obtain ⟨hPa, -⟩ := wp_app.mp hP
  obtain ⟨hDa, -, -⟩ := wd_app.mp hD
  have hFc := va_freeSame hD hS hA
  have hFa := va_freeSame hDa hS hA
  refine vx_calli (vx_runV (As := [.int x1]) (rest := [.int (0 : Int32), .ref ao]) ⟨hx, hb, hml, hown, hts⟩ (c_X6_load l dC dI cy ad s.heap.size ss ds ti co oma obr obj obo obm plo pch pbe pbl dnu dde dbo dln dld tba tal tro tsc tcl rma x1 _ _ _ hst hm) (cwV 1 hts gL_load_X6_load rfl rfl rfl (by decide +kernel) ⟨Nat.le_of_ble_eq_true rfl, Nat.le_of_ble_eq_true rfl⟩) ⟨cPreX_blind, va_recv hK hPa (ci := 6) (q0 := 0) rfl rfl, fun U hU hW => ⟨rfl, cPreX_at hPa hK hDa hN hU hW hXw hXs hS hFa⟩⟩ rfl rfl hl.1 rfl (lv_room (Nat.le_of_ble_eq_true rfl)) dL_load_4 ⟨Nat.le_of_ble_eq_true rfl, Nat.le_of_ble_eq_true rfl⟩) hS (fun q _ h => hFa q h) hFa (fun q _ h => hFa q h) (fun E ce q9 u t H locs ht hvm hpx hBX hz1 hk1 hS hce hcv hcl => ?_) (fun r u t H locs ht hvm hw hB hz1 hk1 hS => ?_)
  · obtain ⟨hq, hB⟩ := hBX
    obtain ⟨hP, hD⟩ := wj_l hP hD hk1 hFa (cPost_P ht hB) hB.2.2
    obtain ⟨rfl, hp⟩ := hq
    refine vx_catch (name := "java/lang/IndexOutOfBoundsException") hown [] ⟨0, 9, 12, 20⟩ [] htb (fun z hz => absurd hz List.not_mem_nil) (by decide) (by decide) (hts _ (by decide +kernel)) (xw_dc hXw _ (by decide +kernel)) hce hcv hcl ?_
    refine lv_astore_n (lv' := [(3, .ref q9), (0, .ref (ad 0)), (1, .int x1), (2, .ref ao)]) hx hb dL_load_12 rfl hl (by decide) rfl (fun ls hl => ?_)
    refine lv_iconst (v := (1 : Int32)) hx hb dL_load_13 (by decide) ?_
    exact W.iret hx hb B.returns (fun t ht hW => ⟨⟨(1 : Int32), ((), ov), rfl, Or.inr (⟨rfl, hp, rfl⟩), cPost_of hAe ht hW.alike ⟨hP, hD, hS⟩ hK⟩, hS.F ht⟩) hS.2.2 dL_load_14 B.notSynchronized
  · try dsimp only at hw
    obtain ⟨hP, hD⟩ := wj_l hP hD hk1 hFa (cPost_P ht hB) hB.2.2
    refine lv_i2l (v := r.toInt64) hx hb dL_load_7 rfl ?_
    refine va_last hx hb hK hP hD hS 28 1 rfl rfl in01 dL_load_8 (fun H locs hP hD hS => ?_)
    have hP : va_P (dC, dI) vwCl ((wC ad cy ss ds ti co oma obr obj obo obm plo pch pbe pbl dnu dde dbo dln dld tba tal tro tsc tcl rma) ++ oW ao cy (vp_updL ov (0 : Int32).toNatClampNeg r.toInt64)) H := hP
    have hD : va_D A ((wC ad cy ss ds ti co oma obr obj obo obm plo pch pbe pbl dnu dde dbo dln dld tba tal tro tsc tcl rma) ++ oW ao cy (vp_updL ov (0 : Int32).toNatClampNeg r.toInt64)) := hD
    refine lv_goto (tgt := 15) hx hb dL_load_9 (by decide) ?_
    refine lv_iconst (v := (0 : Int32)) hx hb dL_load_15 (by decide) ?_
    exact W.iret hx hb B.returns (fun t ht hW => ⟨⟨(0 : Int32), (u, vp_updL ov (0 : Int32).toNatClampNeg r.toInt64), rfl, Or.inl ⟨rfl, r, hw, (upd01 (f := ov) (v := r.toInt64))⟩, cPost_of hAe ht hW.alike ⟨hP, hD, hS⟩ hK⟩, hS.F ht⟩) hS.2.2 dL_load_16 B.notSynchronized
