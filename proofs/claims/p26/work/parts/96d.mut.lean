/-! the law's wrappers that may meet a throw -/
abbrev rmL_addJob : Room := { frames := 11, cells := 1, slots := 6, locals := 289 }
set_option maxHeartbeats 4000000 in
set_option maxRecDepth 100000 in
theorem q_L_addJob (l : Launch) (dC : Nat → ClassId) (dI : Nat → Nat → Nat) (cy : Nat → ClassId) (ad : Nat → Nat) (sz : Nat) (w : va_W) (n : Nat) (ti : Nat → Int32) (g : Nat → Nat) (x1 : Int32) (x2 : Int32) (x3 : Int32) (hst : l.stackTraces = false) (hWG : WG ad cy n ti g w) (h1 : jOK 51 x1) (h2 : jOK 51 x2) (h3 : jOK 51 x3) : Met l yL_addJob wsL_addJob rmL_addJob (va_Pc [.ref (ad 0), .int x1, .int x2, .int x3] (cPreX dC dI cy w sz)) (va_Qi (fun (r : Int32) (u : va_W) => ∃ (n' : Nat) (ti' : Nat → Int32) (g' : Nat → Nat), r = (if x1 = 0 ∧ x2 = 0 ∧ x3 = 0 then -102 else if n < 7 then nI n else -103) ∧ WG ad cy n' ti' g' u) (fun u t => cPost dC dI cy w sz u t) (va_A w sz)) 1 6 (va_A w sz) := by
  obtain ⟨ss, ds, oma, obr, obj, obo, obm, plo, pch, pbe, pbl, dnu, dde, dbo, dln, dld, tba, tal, tro, tsc, tcl, rma, rfl, hG, hp, hS9, hD9⟩ := hWG
  have hn : n ≤ 7 := hG.1.1
  refine Met_ofWH (cc := cL_addJob) (maxL := 5) (ret := (some .int)) (hh := [(0, 7, 8, 15), (0, 7, 13, 17)]) (by decide) rfl ?_
  intro p e s m args below meth c s₁ B hml hv
  obtain ⟨rfl, ⟨hsz, hP, hK, hD0, hN⟩, hXw, hXs⟩ := hv
  have hts := atoms_spec (ws := wsL_addJob) B.pre
  have hown : s.vm.findClass RL = some m.cls := findClass_of_methodNamed B.named
  have htb := vx_table (x := yL_addJob) B (hts _ List.mem_cons_self)
  subst hsz
  have hD := hD0.self (sz := s.heap.size)
  generalize hAe : va_A (wC ad cy ss ds ti (nI n) oma obr obj obo obm plo pch pbe pbl dnu dde dbo dln dld tba tal tro tsc tcl rma) s.heap.size = A at hD hXs ⊢
  have hA : ∀ q : Nat, s.heap.size ≤ q → A q := fun q h => by rw [← hAe]; exact Or.inr h
  have hl := lv_entry ([.ref (ad 0), .int x1, .int x2, .int x3]) (n := 5) (Nat.le_of_ble_eq_true rfl)
  rw [lg_entry_eq]
  generalize (lg_sl ([.ref (ad 0), .int x1, .int x2, .int x3]) ++ List.replicate (5 - (lg_sl ([.ref (ad 0), .int x1, .int x2, .int x3])).length) Slot.unset).toArray = ls at hl ⊢
  have hl : lv_has ls 5 [(0, .ref (ad 0)), (1, .int x1), (2, .int x2), (3, .int x3)] := hl
  have hx := B.exec
  have hb := B.bytes
  have hS : va_S A s.heap s.heap [] := va_S.rf
  refine lv_aload_n hx hb dL_addJob_0 rfl (lv_at hl 0 rfl) ?_
  refine lv_iload_n hx hb dL_addJob_1 rfl (lv_at hl 1 rfl) ?_
  refine lv_iload_n hx hb dL_addJob_2 rfl (lv_at hl 2 rfl) ?_
  refine lv_iload_n hx hb dL_addJob_3 rfl (lv_at hl 3 rfl) ?_
  have hFc := va_freeSame hD hS hA
  refine vx_calli (vx_runV (As := [.int x1, .int x2, .int x3]) (rest := []) ⟨hx, hb, hml, hown, hts⟩ (c_X6_addJob l dC dI cy ad s.heap.size ss ds ti (nI n) oma obr obj obo obm plo pch pbe pbl dnu dde dbo dln dld tba tal tro tsc tcl rma x1 x2 x3 600000 (fun (r : Int32) (ss9 : Int32) (ds9 : Int32) (ti9 : Nat → Int32) (co9 : Int32) (oma9 : Nat → Int32) => ∃ (n' : Nat) (ti' : Nat → Int32) (g' : Nat → Nat), r = (if x1 = 0 ∧ x2 = 0 ∧ x3 = 0 then -102 else if n < 7 then nI n else -103) ∧ WG ad cy n' ti' g' (wC ad cy ss9 ds9 ti9 co9 oma9 obr obj obo obm plo pch pbe pbl dnu dde dbo dln dld tba tal tro tsc tcl rma)) (fun E => (E = "java/lang/IllegalArgumentException" ∧ ¬ tAll x1 x2 x3) ∨ (E = "java/lang/IllegalStateException" ∧ (tAll x1 x2 x3 ∧ ¬ n < 7))) hst (s_addJob hn hp (fun o1 o2 oma h => ⟨n + 1, upJ ti n x1 x2 x3, stp g n (lowm x1 x2), by rw [if_neg o1.2.2.2, if_pos o2], ⟨0, 0, oma, obr, obj, obo, obm, plo, pch, pbe, pbl, dnu, dde, dbo, dln, dld, tba, tal, tro, tsc, tcl, rma, rfl, hG.addJob o1 o2, h, fun h => absurd rfl h, fun h => absurd rfl h⟩⟩) (fun o1 o2 => Or.inr ⟨rfl, o1, o2⟩) (fun o => Or.inl ⟨rfl, o⟩))) (cwV 3 hts gL_addJob_X6_addJob rfl rfl rfl (by decide +kernel) ⟨Nat.le_of_ble_eq_true rfl, Nat.le_of_ble_eq_true rfl⟩) ⟨cPreX_blind, va_recv hK hP (ci := 6) (q0 := 0) rfl rfl, fun U hU hW => ⟨rfl, cPreX_at hP hK hD hN hU hW hXw hXs hS hFc⟩⟩ rfl rfl hl.1 rfl (lv_room (Nat.le_of_ble_eq_true rfl)) dL_addJob_4 ⟨Nat.le_of_ble_eq_true rfl, Nat.le_of_ble_eq_true rfl⟩) hS (fun q _ h => hFc q h) hFc (fun q _ h => hFc q h) (fun E ce q9 u t H locs ht hvm hpx hBX hz1 hk1 hS hce hcv hcl => ?_) (fun r u t H locs ht hvm hw hB hz1 hk1 hS => ?_)
  · obtain ⟨hq, hB⟩ := hBX
    rcases hq with ⟨rfl, hq⟩ | ⟨rfl, hq⟩
    · refine vx_catch (name := "java/lang/IllegalArgumentException") hown [] ⟨0, 7, 8, 15⟩ [⟨0, 7, 13, 17⟩] htb (fun z hz => absurd hz List.not_mem_nil) (by decide) (by decide) (hts _ (by decide +kernel)) (xw_dc hXw _ (by decide +kernel)) hce hcv hcl ?_
      refine lv_astore (lv' := [(4, .ref q9), (0, .ref (ad 0)), (1, .int x1), (2, .int x2), (3, .int x3)]) hx hb dL_addJob_8 hl (by decide) rfl (fun ls hl => ?_)
      refine lv_bipush (v := -102) hx hb dL_addJob_10 (by decide) ?_
      exact W.iret hx hb B.returns (fun t9 ht9 hW9 => ⟨⟨(-102 : Int32), _, rfl, ⟨n, ti, g, by rw [if_pos (Classical.byContradiction (fun q => hq ⟨h1, h2, h3, q⟩))], ⟨ss, ds, oma, obr, obj, obo, obm, plo, pch, pbe, pbl, dnu, dde, dbo, dln, dld, tba, tal, tro, tsc, tcl, rma, rfl, hG, hp, hS9, hD9⟩⟩, cPost_of hAe ht9 hW9.alike ⟨cPost_P ht hB, cPost_D hFc hB, hS⟩ hK⟩, hS.F ht9⟩) hS.2.2 dL_addJob_12 B.notSynchronized
    · refine vx_catch (name := "java/lang/IllegalStateException") hown [⟨0, 7, 8, 15⟩] ⟨0, 7, 13, 17⟩ [] htb (fun z hz => by rw [List.mem_singleton.mp hz]; exact Or.inr ⟨by decide, "java/lang/IllegalArgumentException", hts _ (by decide +kernel), hXw.2.1⟩) (by decide) (by decide) (hts _ (by decide +kernel)) (xw_dc hXw _ (by decide +kernel)) hce hcv hcl ?_
      refine lv_astore (lv' := [(4, .ref q9), (0, .ref (ad 0)), (1, .int x1), (2, .int x2), (3, .int x3)]) hx hb dL_addJob_13 hl (by decide) rfl (fun ls hl => ?_)
      refine lv_bipush (v := -103) hx hb dL_addJob_15 (by decide) ?_
      exact W.iret hx hb B.returns (fun t9 ht9 hW9 => ⟨⟨(-103 : Int32), _, rfl, ⟨n, ti, g, by rw [if_neg hq.1.2.2.2, if_neg hq.2], ⟨ss, ds, oma, obr, obj, obo, obm, plo, pch, pbe, pbl, dnu, dde, dbo, dln, dld, tba, tal, tro, tsc, tcl, rma, rfl, hG, hp, hS9, hD9⟩⟩, cPost_of hAe ht9 hW9.alike ⟨cPost_P ht hB, cPost_D hFc hB, hS⟩ hK⟩, hS.F ht9⟩) hS.2.2 dL_addJob_17 B.notSynchronized
  · try dsimp only at hw
    exact W.iret hx hb B.returns (fun t9 ht9 hW9 => ⟨⟨r, _, rfl, hw, cPost_of hAe ht9 hW9.alike ⟨cPost_P ht hB, cPost_D hFc hB, hS⟩ hK⟩, hS.F ht9⟩) hS.2.2 dL_addJob_7 B.notSynchronized
abbrev rmL_setTime : Room := { frames := 12, cells := 3, slots := 18, locals := 370 }
set_option maxHeartbeats 4000000 in
set_option maxRecDepth 100000 in
theorem q_L_setTime (l : Launch) (dC : Nat → ClassId) (dI : Nat → Nat → Nat) (cy : Nat → ClassId) (ad : Nat → Nat) (sz : Nat) (w : va_W) (n : Nat) (ti : Nat → Int32) (g : Nat → Nat) (x1 : Int32) (x2 : Int32) (x3 : Int32) (hst : l.stackTraces = false) (hWG : WG ad cy n ti g w) (h1 : jOK n x1) (h2 : jOK 3 x2) (h3 : jOK 51 x3) : Met l yL_setTime wsL_setTime rmL_setTime (va_Pc [.ref (ad 0), .int x1, .int x2, .int x3] (cPreX dC dI cy w sz)) (va_Qi (fun (r : Int32) (u : va_W) => ∃ (ti' : Nat → Int32), r = (if x3 = 0 ∧ nI (g (x1).toNatClampNeg) = x2 then -103 else ti (3 * (x1).toNatClampNeg + (x2).toNatClampNeg)) ∧ WG ad cy n ti' g u) (fun u t => cPost dC dI cy w sz u t) (va_A w sz)) 3 18 (va_A w sz) := by
  obtain ⟨ss, ds, oma, obr, obj, obo, obm, plo, pch, pbe, pbl, dnu, dde, dbo, dln, dld, tba, tal, tro, tsc, tcl, rma, rfl, hG, hp, hS9, hD9⟩ := hWG
  have hn : n ≤ 7 := hG.1.1
  refine Met_ofWH (cc := cL_setTime) (maxL := 5) (ret := (some .int)) (hh := [(0, 7, 8, 22), (0, 7, 13, 15), (0, 7, 18, 17)]) (by decide) rfl ?_
  intro p e s m args below meth c s₁ B hml hv
  obtain ⟨rfl, ⟨hsz, hP, hK, hD0, hN⟩, hXw, hXs⟩ := hv
  have hts := atoms_spec (ws := wsL_setTime) B.pre
  have hown : s.vm.findClass RL = some m.cls := findClass_of_methodNamed B.named
  have htb := vx_table (x := yL_setTime) B (hts _ List.mem_cons_self)
  subst hsz
  have hD := hD0.self (sz := s.heap.size)
  generalize hAe : va_A (wC ad cy ss ds ti (nI n) oma obr obj obo obm plo pch pbe pbl dnu dde dbo dln dld tba tal tro tsc tcl rma) s.heap.size = A at hD hXs ⊢
  have hA : ∀ q : Nat, s.heap.size ≤ q → A q := fun q h => by rw [← hAe]; exact Or.inr h
  have hl := lv_entry ([.ref (ad 0), .int x1, .int x2, .int x3]) (n := 5) (Nat.le_of_ble_eq_true rfl)
  rw [lg_entry_eq]
  generalize (lg_sl ([.ref (ad 0), .int x1, .int x2, .int x3]) ++ List.replicate (5 - (lg_sl ([.ref (ad 0), .int x1, .int x2, .int x3])).length) Slot.unset).toArray = ls at hl ⊢
  have hl : lv_has ls 5 [(0, .ref (ad 0)), (1, .int x1), (2, .int x2), (3, .int x3)] := hl
  have hx := B.exec
  have hb := B.bytes
  have hS : va_S A s.heap s.heap [] := va_S.rf
  refine lv_aload_n hx hb dL_setTime_0 rfl (lv_at hl 0 rfl) ?_
  refine lv_iload_n hx hb dL_setTime_1 rfl (lv_at hl 1 rfl) ?_
  refine lv_iload_n hx hb dL_setTime_2 rfl (lv_at hl 2 rfl) ?_
  refine lv_iload_n hx hb dL_setTime_3 rfl (lv_at hl 3 rfl) ?_
  have hFc := va_freeSame hD hS hA
  refine vx_calli (vx_runV (As := [.int x1, .int x2, .int x3]) (rest := []) ⟨hx, hb, hml, hown, hts⟩ (c_X6_setTime l dC dI cy ad s.heap.size ss ds ti (nI n) oma obr obj obo obm plo pch pbe pbl dnu dde dbo dln dld tba tal tro tsc tcl rma x1 x2 x3 600000 (fun (r : Int32) (ss9 : Int32) (ds9 : Int32) (ti9 : Nat → Int32) => ∃ (ti' : Nat → Int32), r = (if x3 = 0 ∧ nI (g (x1).toNatClampNeg) = x2 then -103 else ti (3 * (x1).toNatClampNeg + (x2).toNatClampNeg)) ∧ WG ad cy n ti' g (wC ad cy ss9 ds9 ti9 (nI n) oma obr obj obo obm plo pch pbe pbl dnu dde dbo dln dld tba tal tro tsc tcl rma)) (fun E => (E = "java/lang/IndexOutOfBoundsException" ∧ False) ∨ (E = "java/lang/IllegalArgumentException" ∧ False) ∨ (E = "java/lang/IllegalStateException" ∧ (x3 = 0 ∧ nI (g (x1).toNatClampNeg) = x2))) hst (s_setTime hG hp (fun o1 o2 o3 o4 => ⟨upd ti (3 * (x1).toNatClampNeg + (x2).toNatClampNeg) x3, by rw [if_neg o4], ⟨0, 0, oma, obr, obj, obo, obm, plo, pch, pbe, pbl, dnu, dde, dbo, dln, dld, tba, tal, tro, tsc, tcl, rma, rfl, hG.setTime o1 o2 o3 o4, hp, fun h => absurd rfl h, fun h => absurd rfl h⟩⟩) (fun _ _ _ o => Or.inr (Or.inr ⟨rfl, o⟩)) (fun _ _ o => absurd h3 o) (fun o => absurd ⟨h1, h2⟩ o))) (cwV 3 hts gL_setTime_X6_setTime rfl rfl rfl (by decide +kernel) ⟨Nat.le_of_ble_eq_true rfl, Nat.le_of_ble_eq_true rfl⟩) ⟨cPreX_blind, va_recv hK hP (ci := 6) (q0 := 0) rfl rfl, fun U hU hW => ⟨rfl, cPreX_at hP hK hD hN hU hW hXw hXs hS hFc⟩⟩ rfl rfl hl.1 rfl (lv_room (Nat.le_of_ble_eq_true rfl)) dL_setTime_4 ⟨Nat.le_of_ble_eq_true rfl, Nat.le_of_ble_eq_true rfl⟩) hS (fun q _ h => hFc q h) hFc (fun q _ h => hFc q h) (fun E ce q9 u t H locs ht hvm hpx hBX hz1 hk1 hS hce hcv hcl => ?_) (fun r u t H locs ht hvm hw hB hz1 hk1 hS => ?_)
  · obtain ⟨hq, hB⟩ := hBX
    rcases hq with ⟨rfl, hq⟩ | ⟨rfl, hq⟩ | ⟨rfl, hq⟩
    · exact False.elim hq
    · exact False.elim hq
    · refine vx_catch (name := "java/lang/IllegalStateException") hown [⟨0, 7, 8, 22⟩, ⟨0, 7, 13, 15⟩] ⟨0, 7, 18, 17⟩ [] htb (fun z hz => by rcases List.mem_cons.mp hz with h | h; (rw [h]; exact Or.inr ⟨by decide, "java/lang/IndexOutOfBoundsException", hts _ (by decide +kernel), hXw.2.2.2.1⟩); (rw [List.mem_singleton.mp h]; exact Or.inr ⟨by decide, "java/lang/IllegalArgumentException", hts _ (by decide +kernel), hXw.2.1⟩)) (by decide) (by decide) (hts _ (by decide +kernel)) (xw_dc hXw _ (by decide +kernel)) hce hcv hcl ?_
      refine lv_astore (lv' := [(4, .ref q9), (0, .ref (ad 0)), (1, .int x1), (2, .int x2), (3, .int x3)]) hx hb dL_setTime_18 hl (by decide) rfl (fun ls hl => ?_)
      refine lv_bipush (v := -103) hx hb dL_setTime_20 (by decide) ?_
      exact W.iret hx hb B.returns (fun t9 ht9 hW9 => ⟨⟨(-103 : Int32), _, rfl, ⟨ti, by rw [if_pos hq], ⟨ss, ds, oma, obr, obj, obo, obm, plo, pch, pbe, pbl, dnu, dde, dbo, dln, dld, tba, tal, tro, tsc, tcl, rma, rfl, hG, hp, hS9, hD9⟩⟩, cPost_of hAe ht9 hW9.alike ⟨cPost_P ht hB, cPost_D hFc hB, hS⟩ hK⟩, hS.F ht9⟩) hS.2.2 dL_setTime_22 B.notSynchronized
  · try dsimp only at hw
    exact W.iret hx hb B.returns (fun t9 ht9 hW9 => ⟨⟨r, _, rfl, hw, cPost_of hAe ht9 hW9.alike ⟨cPost_P ht hB, cPost_D hFc hB, hS⟩ hK⟩, hS.F ht9⟩) hS.2.2 dL_setTime_7 B.notSynchronized
abbrev rmL_assign : Room := { frames := 12, cells := 3, slots := 18, locals := 368 }
set_option maxHeartbeats 4000000 in
set_option maxRecDepth 100000 in
theorem q_L_assign (l : Launch) (dC : Nat → ClassId) (dI : Nat → Nat → Nat) (cy : Nat → ClassId) (ad : Nat → Nat) (sz : Nat) (w : va_W) (n : Nat) (ti : Nat → Int32) (g : Nat → Nat) (x1 : Int32) (x2 : Int32) (hst : l.stackTraces = false) (hWG : WG ad cy n ti g w) (h1 : jOK n x1) (h2 : jOK 3 x2) : Met l yL_assign wsL_assign rmL_assign (va_Pc [.ref (ad 0), .int x1, .int x2] (cPreX dC dI cy w sz)) (va_Qi (fun (r : Int32) (u : va_W) => ∃ (g' : Nat → Nat), r = (if ti (3 * (x1).toNatClampNeg + (x2).toNatClampNeg) = 0 then -103 else nI (g (x1).toNatClampNeg)) ∧ WG ad cy n ti g' u) (fun u t => cPost dC dI cy w sz u t) (va_A w sz)) 3 18 (va_A w sz) := by
  obtain ⟨ss, ds, oma, obr, obj, obo, obm, plo, pch, pbe, pbl, dnu, dde, dbo, dln, dld, tba, tal, tro, tsc, tcl, rma, rfl, hG, hp, hS9, hD9⟩ := hWG
  have hn : n ≤ 7 := hG.1.1
  refine Met_ofWH (cc := cL_assign) (maxL := 4) (ret := (some .int)) (hh := [(0, 6, 7, 22), (0, 6, 11, 17)]) (by decide) rfl ?_
  intro p e s m args below meth c s₁ B hml hv
  obtain ⟨rfl, ⟨hsz, hP, hK, hD0, hN⟩, hXw, hXs⟩ := hv
  have hts := atoms_spec (ws := wsL_assign) B.pre
  have hown : s.vm.findClass RL = some m.cls := findClass_of_methodNamed B.named
  have htb := vx_table (x := yL_assign) B (hts _ List.mem_cons_self)
  subst hsz
  have hD := hD0.self (sz := s.heap.size)
  generalize hAe : va_A (wC ad cy ss ds ti (nI n) oma obr obj obo obm plo pch pbe pbl dnu dde dbo dln dld tba tal tro tsc tcl rma) s.heap.size = A at hD hXs ⊢
  have hA : ∀ q : Nat, s.heap.size ≤ q → A q := fun q h => by rw [← hAe]; exact Or.inr h
  have hl := lv_entry ([.ref (ad 0), .int x1, .int x2]) (n := 4) (Nat.le_of_ble_eq_true rfl)
  rw [lg_entry_eq]
  generalize (lg_sl ([.ref (ad 0), .int x1, .int x2]) ++ List.replicate (4 - (lg_sl ([.ref (ad 0), .int x1, .int x2])).length) Slot.unset).toArray = ls at hl ⊢
  have hl : lv_has ls 4 [(0, .ref (ad 0)), (1, .int x1), (2, .int x2)] := hl
  have hx := B.exec
  have hb := B.bytes
  have hS : va_S A s.heap s.heap [] := va_S.rf
  refine lv_aload_n hx hb dL_assign_0 rfl (lv_at hl 0 rfl) ?_
  refine lv_iload_n hx hb dL_assign_1 rfl (lv_at hl 1 rfl) ?_
  refine lv_iload_n hx hb dL_assign_2 rfl (lv_at hl 2 rfl) ?_
  have hFc := va_freeSame hD hS hA
  refine vx_calli (vx_runV (As := [.int x1, .int x2]) (rest := []) ⟨hx, hb, hml, hown, hts⟩ (c_X6_assign l dC dI cy ad s.heap.size ss ds ti (nI n) oma obr obj obo obm plo pch pbe pbl dnu dde dbo dln dld tba tal tro tsc tcl rma x1 x2 600000 (fun (r : Int32) (oma9 : Nat → Int32) => ∃ (g' : Nat → Nat), r = (if ti (3 * (x1).toNatClampNeg + (x2).toNatClampNeg) = 0 then -103 else nI (g (x1).toNatClampNeg)) ∧ WG ad cy n ti g' (wC ad cy ss ds ti (nI n) oma9 obr obj obo obm plo pch pbe pbl dnu dde dbo dln dld tba tal tro tsc tcl rma)) (fun E => (E = "java/lang/IndexOutOfBoundsException" ∧ False) ∨ (E = "java/lang/IllegalStateException" ∧ (ti (3 * (x1).toNatClampNeg + (x2).toNatClampNeg) = 0))) hst (s_assign hG hp (fun o1 o2 o3 oma h => ⟨stp g (x1).toNatClampNeg (x2).toNatClampNeg, by rw [if_neg o3], ⟨ss, ds, oma, obr, obj, obo, obm, plo, pch, pbe, pbl, dnu, dde, dbo, dln, dld, tba, tal, tro, tsc, tcl, rma, rfl, hG.assign o1 o2 o3, h, hS9, hD9⟩⟩) (fun _ _ o => Or.inr ⟨rfl, o⟩) (fun o => absurd ⟨h1, h2⟩ o))) (cwV 2 hts gL_assign_X6_assign rfl rfl rfl (by decide +kernel) ⟨Nat.le_of_ble_eq_true rfl, Nat.le_of_ble_eq_true rfl⟩) ⟨cPreX_blind, va_recv hK hP (ci := 6) (q0 := 0) rfl rfl, fun U hU hW => ⟨rfl, cPreX_at hP hK hD hN hU hW hXw hXs hS hFc⟩⟩ rfl rfl hl.1 rfl (lv_room (Nat.le_of_ble_eq_true rfl)) dL_assign_3 ⟨Nat.le_of_ble_eq_true rfl, Nat.le_of_ble_eq_true rfl⟩) hS (fun q _ h => hFc q h) hFc (fun q _ h => hFc q h) (fun E ce q9 u t H locs ht hvm hpx hBX hz1 hk1 hS hce hcv hcl => ?_) (fun r u t H locs ht hvm hw hB hz1 hk1 hS => ?_)
  · obtain ⟨hq, hB⟩ := hBX
    rcases hq with ⟨rfl, hq⟩ | ⟨rfl, hq⟩
    · exact False.elim hq
    · refine vx_catch (name := "java/lang/IllegalStateException") hown [⟨0, 6, 7, 22⟩] ⟨0, 6, 11, 17⟩ [] htb (fun z hz => by rw [List.mem_singleton.mp hz]; exact Or.inr ⟨by decide, "java/lang/IndexOutOfBoundsException", hts _ (by decide +kernel), hXw.2.2.2.1⟩) (by decide) (by decide) (hts _ (by decide +kernel)) (xw_dc hXw _ (by decide +kernel)) hce hcv hcl ?_
      refine lv_astore_n (lv' := [(3, .ref q9), (0, .ref (ad 0)), (1, .int x1), (2, .int x2)]) hx hb dL_assign_11 rfl hl (by decide) rfl (fun ls hl => ?_)
      refine lv_bipush (v := -103) hx hb dL_assign_12 (by decide) ?_
      exact W.iret hx hb B.returns (fun t9 ht9 hW9 => ⟨⟨(-103 : Int32), _, rfl, ⟨g, by rw [if_pos hq], ⟨ss, ds, oma, obr, obj, obo, obm, plo, pch, pbe, pbl, dnu, dde, dbo, dln, dld, tba, tal, tro, tsc, tcl, rma, rfl, hG, hp, hS9, hD9⟩⟩, cPost_of hAe ht9 hW9.alike ⟨cPost_P ht hB, cPost_D hFc hB, hS⟩ hK⟩, hS.F ht9⟩) hS.2.2 dL_assign_14 B.notSynchronized
  · try dsimp only at hw
    exact W.iret hx hb B.returns (fun t9 ht9 hW9 => ⟨⟨r, _, rfl, hw, cPost_of hAe ht9 hW9.alike ⟨cPost_P ht hB, cPost_D hFc hB, hS⟩ hK⟩, hS.F ht9⟩) hS.2.2 dL_assign_6 B.notSynchronized
