/-! the law's wrappers -/
abbrev rmL_time : Room := { frames := 3, cells := 0, slots := 0, locals := 231 }
set_option maxHeartbeats 4000000 in
set_option maxRecDepth 100000 in
theorem q_L_time (l : Launch) (dC : Nat → ClassId) (dI : Nat → Nat → Nat) (cy : Nat → ClassId) (ad : Nat → Nat) (sz : Nat) (w : va_W) (n : Nat) (ti : Nat → Int32) (g : Nat → Nat) (x1 : Int32) (x2 : Int32) (hWG : WG ad cy n ti g w) (h1 : jOK n x1) (h2 : jOK 3 x2) : Met l yL_time wsL_time rmL_time (va_Pc [.ref (ad 0), .int x1, .int x2] (cPre dC dI cy w sz)) (va_Qi (fun (r : Int32) (u : va_W) => r = ti (3 * (x1).toNatClampNeg + (x2).toNatClampNeg) ∧ WG ad cy n ti g u) (fun u t => cPost dC dI cy w sz u t) (va_A w sz)) 0 0 (va_A w sz) := by
  refine Met_ofWH (cc := cL_time) (maxL := 4) (ret := (some .int)) (hh := [(0, 6, 7, 22)]) (by decide) rfl ?_
  intro p e s m args below meth c s₁ B hml hv
  obtain ⟨rfl, hsz, hP, hK, hD0, hN⟩ := hv
  have hts := atoms_spec (ws := wsL_time) B.pre
  have hown : s.vm.findClass RL = some m.cls := findClass_of_methodNamed B.named
  subst hsz
  have hD := hD0.self (sz := s.heap.size)
  generalize hAe : va_A w s.heap.size = A at hD ⊢
  have hA : ∀ q : Nat, s.heap.size ≤ q → A q := fun q h => by rw [← hAe]; exact Or.inr h
  have hl := lv_entry ([.ref (ad 0), .int x1, .int x2]) (n := 4) (Nat.le_of_ble_eq_true rfl)
  rw [lg_entry_eq]
  generalize (lg_sl ([.ref (ad 0), .int x1, .int x2]) ++ List.replicate (4 - (lg_sl ([.ref (ad 0), .int x1, .int x2])).length) Slot.unset).toArray = ls at hl ⊢
  have hl : lv_has ls 4 [(0, .ref (ad 0)), (1, .int x1), (2, .int x2)] := hl
  have hx := B.exec
  have hb := B.bytes
  have hS : va_S A s.heap s.heap [] := va_S.rf
  refine lv_aload_n hx hb dL_time_0 rfl (lv_at hl 0 rfl) ?_
  refine lv_iload_n hx hb dL_time_1 rfl (lv_at hl 1 rfl) ?_
  refine lv_iload_n hx hb dL_time_2 rfl (lv_at hl 2 rfl) ?_
  have hFc := va_freeSame hD hS hA
  refine va_calli (va_runV (As := [.int x1, .int x2]) (rest := []) ⟨hx, hb, hml, hown, hts⟩ (q_X6_time l dC dI cy ad s.heap.size w n ti g x1 x2 hWG h1 h2) (cwV 2 hts gL_time_X6_time rfl rfl rfl (by decide +kernel) ⟨Nat.le_of_ble_eq_true rfl, Nat.le_of_ble_eq_true rfl⟩) ⟨cPre_blind, va_recv hK hP (ci := 6) (q0 := 0) rfl hWG.recv.choose_spec, fun U hU hW => ⟨rfl, cPre_at hP hK hD hN hU hW⟩⟩ rfl rfl hl.1 rfl (lv_room (Nat.le_of_ble_eq_true rfl)) dL_time_3 ⟨Nat.zero_le _, Nat.zero_le _⟩) hS (fun q _ h => hFc q h) hFc (fun r u t H locs ht hvm hw hB hz1 hk1 hS => ?_)
  exact W.iret hx hb B.returns (fun t9 ht9 hW9 => ⟨⟨r, u, rfl, hw, cPost_of hAe ht9 hW9.alike ⟨cPost_P ht hB, cPost_D hFc hB, hS⟩ hK⟩, hS.F ht9⟩) hS.2.2 dL_time_6 B.notSynchronized
abbrev rmL_machine : Room := { frames := 3, cells := 0, slots := 0, locals := 227 }
set_option maxHeartbeats 4000000 in
set_option maxRecDepth 100000 in
theorem q_L_machine (l : Launch) (dC : Nat → ClassId) (dI : Nat → Nat → Nat) (cy : Nat → ClassId) (ad : Nat → Nat) (sz : Nat) (w : va_W) (n : Nat) (ti : Nat → Int32) (g : Nat → Nat) (x1 : Int32) (hWG : WG ad cy n ti g w) (h1 : jOK n x1) : Met l yL_machine wsL_machine rmL_machine (va_Pc [.ref (ad 0), .int x1] (cPre dC dI cy w sz)) (va_Qi (fun (r : Int32) (u : va_W) => r = nI (g (x1).toNatClampNeg) ∧ WG ad cy n ti g u) (fun u t => cPost dC dI cy w sz u t) (va_A w sz)) 0 0 (va_A w sz) := by
  refine Met_ofWH (cc := cL_machine) (maxL := 3) (ret := (some .int)) (hh := [(0, 5, 6, 22)]) (by decide) rfl ?_
  intro p e s m args below meth c s₁ B hml hv
  obtain ⟨rfl, hsz, hP, hK, hD0, hN⟩ := hv
  have hts := atoms_spec (ws := wsL_machine) B.pre
  have hown : s.vm.findClass RL = some m.cls := findClass_of_methodNamed B.named
  subst hsz
  have hD := hD0.self (sz := s.heap.size)
  generalize hAe : va_A w s.heap.size = A at hD ⊢
  have hA : ∀ q : Nat, s.heap.size ≤ q → A q := fun q h => by rw [← hAe]; exact Or.inr h
  have hl := lv_entry ([.ref (ad 0), .int x1]) (n := 3) (Nat.le_of_ble_eq_true rfl)
  rw [lg_entry_eq]
  generalize (lg_sl ([.ref (ad 0), .int x1]) ++ List.replicate (3 - (lg_sl ([.ref (ad 0), .int x1])).length) Slot.unset).toArray = ls at hl ⊢
  have hl : lv_has ls 3 [(0, .ref (ad 0)), (1, .int x1)] := hl
  have hx := B.exec
  have hb := B.bytes
  have hS : va_S A s.heap s.heap [] := va_S.rf
  refine lv_aload_n hx hb dL_machine_0 rfl (lv_at hl 0 rfl) ?_
  refine lv_iload_n hx hb dL_machine_1 rfl (lv_at hl 1 rfl) ?_
  have hFc := va_freeSame hD hS hA
  refine va_calli (va_runV (As := [.int x1]) (rest := []) ⟨hx, hb, hml, hown, hts⟩ (q_X6_machine l dC dI cy ad s.heap.size w n ti g x1 hWG h1) (cwV 1 hts gL_machine_X6_machine rfl rfl rfl (by decide +kernel) ⟨Nat.le_of_ble_eq_true rfl, Nat.le_of_ble_eq_true rfl⟩) ⟨cPre_blind, va_recv hK hP (ci := 6) (q0 := 0) rfl hWG.recv.choose_spec, fun U hU hW => ⟨rfl, cPre_at hP hK hD hN hU hW⟩⟩ rfl rfl hl.1 rfl (lv_room (Nat.le_of_ble_eq_true rfl)) dL_machine_2 ⟨Nat.zero_le _, Nat.zero_le _⟩) hS (fun q _ h => hFc q h) hFc (fun r u t H locs ht hvm hw hB hz1 hk1 hS => ?_)
  exact W.iret hx hb B.returns (fun t9 ht9 hW9 => ⟨⟨r, u, rfl, hw, cPost_of hAe ht9 hW9.alike ⟨cPost_P ht hB, cPost_D hFc hB, hS⟩ hK⟩, hS.F ht9⟩) hS.2.2 dL_machine_5 B.notSynchronized
abbrev rmL_load : Room := { frames := 4, cells := 0, slots := 0, locals := 313 }
set_option maxHeartbeats 4000000 in
set_option maxRecDepth 100000 in
theorem q_L_load (l : Launch) (dC : Nat → ClassId) (dI : Nat → Nat → Nat) (cy : Nat → ClassId) (ad : Nat → Nat) (sz : Nat) (w : va_W) (n : Nat) (ti : Nat → Int32) (g : Nat → Nat) (x1 : Int32) (hWG : WG ad cy n ti g w) (h1 : jOK 3 x1) : Met l yL_load wsL_load rmL_load (va_Pc [.ref (ad 0), .int x1] (cPre dC dI cy w sz)) (va_Qi (fun (r : Int32) (u : va_W) => r = nI (ldN n (tN ti) g (x1).toNatClampNeg) ∧ WG ad cy n ti g u) (fun u t => cPost dC dI cy w sz u t) (va_A w sz)) 0 0 (va_A w sz) := by
  refine Met_ofWH (cc := cL_load) (maxL := 3) (ret := (some .int)) (hh := [(0, 5, 6, 22)]) (by decide) rfl ?_
  intro p e s m args below meth c s₁ B hml hv
  obtain ⟨rfl, hsz, hP, hK, hD0, hN⟩ := hv
  have hts := atoms_spec (ws := wsL_load) B.pre
  have hown : s.vm.findClass RL = some m.cls := findClass_of_methodNamed B.named
  subst hsz
  have hD := hD0.self (sz := s.heap.size)
  generalize hAe : va_A w s.heap.size = A at hD ⊢
  have hA : ∀ q : Nat, s.heap.size ≤ q → A q := fun q h => by rw [← hAe]; exact Or.inr h
  have hl := lv_entry ([.ref (ad 0), .int x1]) (n := 3) (Nat.le_of_ble_eq_true rfl)
  rw [lg_entry_eq]
  generalize (lg_sl ([.ref (ad 0), .int x1]) ++ List.replicate (3 - (lg_sl ([.ref (ad 0), .int x1])).length) Slot.unset).toArray = ls at hl ⊢
  have hl : lv_has ls 3 [(0, .ref (ad 0)), (1, .int x1)] := hl
  have hx := B.exec
  have hb := B.bytes
  have hS : va_S A s.heap s.heap [] := va_S.rf
  refine lv_aload_n hx hb dL_load_0 rfl (lv_at hl 0 rfl) ?_
  refine lv_iload_n hx hb dL_load_1 rfl (lv_at hl 1 rfl) ?_
  have hFc := va_freeSame hD hS hA
  refine va_calli (va_runV (As := [.int x1]) (rest := []) ⟨hx, hb, hml, hown, hts⟩ (q_X6_load l dC dI cy ad s.heap.size w n ti g x1 hWG h1) (cwV 1 hts gL_load_X6_load rfl rfl rfl (by decide +kernel) ⟨Nat.le_of_ble_eq_true rfl, Nat.le_of_ble_eq_true rfl⟩) ⟨cPre_blind, va_recv hK hP (ci := 6) (q0 := 0) rfl hWG.recv.choose_spec, fun U hU hW => ⟨rfl, cPre_at hP hK hD hN hU hW⟩⟩ rfl rfl hl.1 rfl (lv_room (Nat.le_of_ble_eq_true rfl)) dL_load_2 ⟨Nat.zero_le _, Nat.zero_le _⟩) hS (fun q _ h => hFc q h) hFc (fun r u t H locs ht hvm hw hB hz1 hk1 hS => ?_)
  exact W.iret hx hb B.returns (fun t9 ht9 hW9 => ⟨⟨r, u, rfl, hw, cPost_of hAe ht9 hW9.alike ⟨cPost_P ht hB, cPost_D hFc hB, hS⟩ hK⟩, hS.F ht9⟩) hS.2.2 dL_load_5 B.notSynchronized
abbrev rmL_shortestOn : Room := { frames := 44, cells := 0, slots := 0, locals := 4330 }
set_option maxHeartbeats 4000000 in
set_option maxRecDepth 100000 in
theorem q_L_shortestOn (l : Launch) (dC : Nat → ClassId) (dI : Nat → Nat → Nat) (cy : Nat → ClassId) (ad : Nat → Nat) (sz : Nat) (w : va_W) (n : Nat) (ti : Nat → Int32) (g : Nat → Nat) (x1 : Int32) (hWG : WG ad cy n ti g w) (h1 : jOK n x1) : Met l yL_shortestOn wsL_shortestOn rmL_shortestOn (va_Pc [.ref (ad 0), .int x1] (cPre dC dI cy w sz)) (va_Qi (fun (r : Int32) (u : va_W) => (r = nI ((bP n ti).1 (x1).toNatClampNeg) ∧ SF n ti) ∧ WG ad cy n ti g u) (fun u t => cPost dC dI cy w sz u t) (va_A w sz)) 0 0 (va_A w sz) := by
  refine Met_ofWH (cc := cL_shortestOn) (maxL := 3) (ret := (some .int)) (hh := [(0, 5, 6, 22)]) (by decide) rfl ?_
  intro p e s m args below meth c s₁ B hml hv
  obtain ⟨rfl, hsz, hP, hK, hD0, hN⟩ := hv
  have hts := atoms_spec (ws := wsL_shortestOn) B.pre
  have hown : s.vm.findClass RL = some m.cls := findClass_of_methodNamed B.named
  subst hsz
  have hD := hD0.self (sz := s.heap.size)
  generalize hAe : va_A w s.heap.size = A at hD ⊢
  have hA : ∀ q : Nat, s.heap.size ≤ q → A q := fun q h => by rw [← hAe]; exact Or.inr h
  have hl := lv_entry ([.ref (ad 0), .int x1]) (n := 3) (Nat.le_of_ble_eq_true rfl)
  rw [lg_entry_eq]
  generalize (lg_sl ([.ref (ad 0), .int x1]) ++ List.replicate (3 - (lg_sl ([.ref (ad 0), .int x1])).length) Slot.unset).toArray = ls at hl ⊢
  have hl : lv_has ls 3 [(0, .ref (ad 0)), (1, .int x1)] := hl
  have hx := B.exec
  have hb := B.bytes
  have hS : va_S A s.heap s.heap [] := va_S.rf
  refine lv_aload_n hx hb dL_shortestOn_0 rfl (lv_at hl 0 rfl) ?_
  refine lv_iload_n hx hb dL_shortestOn_1 rfl (lv_at hl 1 rfl) ?_
  have hFc := va_freeSame hD hS hA
  refine va_calli (va_runV (As := [.int x1]) (rest := []) ⟨hx, hb, hml, hown, hts⟩ (q_X6_shortestMachine l dC dI cy ad s.heap.size w n ti g x1 hWG h1) (cwV 1 hts gL_shortestOn_X6_shortestMachine rfl rfl rfl (by decide +kernel) ⟨Nat.le_of_ble_eq_true rfl, Nat.le_of_ble_eq_true rfl⟩) ⟨cPre_blind, va_recv hK hP (ci := 6) (q0 := 0) rfl hWG.recv.choose_spec, fun U hU hW => ⟨rfl, cPre_at hP hK hD hN hU hW⟩⟩ rfl rfl hl.1 rfl (lv_room (Nat.le_of_ble_eq_true rfl)) dL_shortestOn_2 ⟨Nat.zero_le _, Nat.zero_le _⟩) hS (fun q _ h => hFc q h) hFc (fun r u t H locs ht hvm hw hB hz1 hk1 hS => ?_)
  exact W.iret hx hb B.returns (fun t9 ht9 hW9 => ⟨⟨r, u, rfl, hw, cPost_of hAe ht9 hW9.alike ⟨cPost_P ht hB, cPost_D hFc hB, hS⟩ hK⟩, hS.F ht9⟩) hS.2.2 dL_shortestOn_5 B.notSynchronized
abbrev rmL_numerator : Room := { frames := 44, cells := 0, slots := 0, locals := 4335 }
set_option maxHeartbeats 4000000 in
set_option maxRecDepth 100000 in
theorem q_L_numerator (l : Launch) (dC : Nat → ClassId) (dI : Nat → Nat → Nat) (cy : Nat → ClassId) (ad : Nat → Nat) (sz : Nat) (w : va_W) (n : Nat) (ti : Nat → Int32) (g : Nat → Nat) (x1 : Int32) (x2 : Int32) (hWG : WG ad cy n ti g w) (h1 : jOK n x1) (h2 : jOK 3 x2) : Met l yL_numerator wsL_numerator rmL_numerator (va_Pc [.ref (ad 0), .int x1, .int x2] (cPre dC dI cy w sz)) (va_Qi (fun (r : Int32) (u : va_W) => (r = nI ((sH n ti).1 (3 * (x1).toNatClampNeg + (x2).toNatClampNeg)) ∧ DF n ti) ∧ WG ad cy n ti g u) (fun u t => cPost dC dI cy w sz u t) (va_A w sz)) 0 0 (va_A w sz) := by
  refine Met_ofWH (cc := cL_numerator) (maxL := 4) (ret := (some .int)) (hh := [(0, 6, 7, 22)]) (by decide) rfl ?_
  intro p e s m args below meth c s₁ B hml hv
  obtain ⟨rfl, hsz, hP, hK, hD0, hN⟩ := hv
  have hts := atoms_spec (ws := wsL_numerator) B.pre
  have hown : s.vm.findClass RL = some m.cls := findClass_of_methodNamed B.named
  subst hsz
  have hD := hD0.self (sz := s.heap.size)
  generalize hAe : va_A w s.heap.size = A at hD ⊢
  have hA : ∀ q : Nat, s.heap.size ≤ q → A q := fun q h => by rw [← hAe]; exact Or.inr h
  have hl := lv_entry ([.ref (ad 0), .int x1, .int x2]) (n := 4) (Nat.le_of_ble_eq_true rfl)
  rw [lg_entry_eq]
  generalize (lg_sl ([.ref (ad 0), .int x1, .int x2]) ++ List.replicate (4 - (lg_sl ([.ref (ad 0), .int x1, .int x2])).length) Slot.unset).toArray = ls at hl ⊢
  have hl : lv_has ls 4 [(0, .ref (ad 0)), (1, .int x1), (2, .int x2)] := hl
  have hx := B.exec
  have hb := B.bytes
  have hS : va_S A s.heap s.heap [] := va_S.rf
  refine lv_aload_n hx hb dL_numerator_0 rfl (lv_at hl 0 rfl) ?_
  refine lv_iload_n hx hb dL_numerator_1 rfl (lv_at hl 1 rfl) ?_
  refine lv_iload_n hx hb dL_numerator_2 rfl (lv_at hl 2 rfl) ?_
  have hFc := va_freeSame hD hS hA
  refine va_calli (va_runV (As := [.int x1, .int x2]) (rest := []) ⟨hx, hb, hml, hown, hts⟩ (q_X6_numerator l dC dI cy ad s.heap.size w n ti g x1 x2 hWG h1 h2) (cwV 2 hts gL_numerator_X6_numerator rfl rfl rfl (by decide +kernel) ⟨Nat.le_of_ble_eq_true rfl, Nat.le_of_ble_eq_true rfl⟩) ⟨cPre_blind, va_recv hK hP (ci := 6) (q0 := 0) rfl hWG.recv.choose_spec, fun U hU hW => ⟨rfl, cPre_at hP hK hD hN hU hW⟩⟩ rfl rfl hl.1 rfl (lv_room (Nat.le_of_ble_eq_true rfl)) dL_numerator_3 ⟨Nat.zero_le _, Nat.zero_le _⟩) hS (fun q _ h => hFc q h) hFc (fun r u t H locs ht hvm hw hB hz1 hk1 hS => ?_)
  exact W.iret hx hb B.returns (fun t9 ht9 hW9 => ⟨⟨r, u, rfl, hw, cPost_of hAe ht9 hW9.alike ⟨cPost_P ht hB, cPost_D hFc hB, hS⟩ hK⟩, hS.F ht9⟩) hS.2.2 dL_numerator_6 B.notSynchronized
abbrev rmL_denominator : Room := { frames := 44, cells := 0, slots := 0, locals := 4335 }
set_option maxHeartbeats 4000000 in
set_option maxRecDepth 100000 in
theorem q_L_denominator (l : Launch) (dC : Nat → ClassId) (dI : Nat → Nat → Nat) (cy : Nat → ClassId) (ad : Nat → Nat) (sz : Nat) (w : va_W) (n : Nat) (ti : Nat → Int32) (g : Nat → Nat) (x1 : Int32) (x2 : Int32) (hWG : WG ad cy n ti g w) (h1 : jOK n x1) (h2 : jOK 3 x2) : Met l yL_denominator wsL_denominator rmL_denominator (va_Pc [.ref (ad 0), .int x1, .int x2] (cPre dC dI cy w sz)) (va_Qi (fun (r : Int32) (u : va_W) => (r = nI ((sH n ti).2 (3 * (x1).toNatClampNeg + (x2).toNatClampNeg)) ∧ DF n ti) ∧ WG ad cy n ti g u) (fun u t => cPost dC dI cy w sz u t) (va_A w sz)) 0 0 (va_A w sz) := by
  refine Met_ofWH (cc := cL_denominator) (maxL := 4) (ret := (some .int)) (hh := [(0, 6, 7, 22)]) (by decide) rfl ?_
  intro p e s m args below meth c s₁ B hml hv
  obtain ⟨rfl, hsz, hP, hK, hD0, hN⟩ := hv
  have hts := atoms_spec (ws := wsL_denominator) B.pre
  have hown : s.vm.findClass RL = some m.cls := findClass_of_methodNamed B.named
  subst hsz
  have hD := hD0.self (sz := s.heap.size)
  generalize hAe : va_A w s.heap.size = A at hD ⊢
  have hA : ∀ q : Nat, s.heap.size ≤ q → A q := fun q h => by rw [← hAe]; exact Or.inr h
  have hl := lv_entry ([.ref (ad 0), .int x1, .int x2]) (n := 4) (Nat.le_of_ble_eq_true rfl)
  rw [lg_entry_eq]
  generalize (lg_sl ([.ref (ad 0), .int x1, .int x2]) ++ List.replicate (4 - (lg_sl ([.ref (ad 0), .int x1, .int x2])).length) Slot.unset).toArray = ls at hl ⊢
  have hl : lv_has ls 4 [(0, .ref (ad 0)), (1, .int x1), (2, .int x2)] := hl
  have hx := B.exec
  have hb := B.bytes
  have hS : va_S A s.heap s.heap [] := va_S.rf
  refine lv_aload_n hx hb dL_denominator_0 rfl (lv_at hl 0 rfl) ?_
  refine lv_iload_n hx hb dL_denominator_1 rfl (lv_at hl 1 rfl) ?_
  refine lv_iload_n hx hb dL_denominator_2 rfl (lv_at hl 2 rfl) ?_
  have hFc := va_freeSame hD hS hA
  refine va_calli (va_runV (As := [.int x1, .int x2]) (rest := []) ⟨hx, hb, hml, hown, hts⟩ (q_X6_denominator l dC dI cy ad s.heap.size w n ti g x1 x2 hWG h1 h2) (cwV 2 hts gL_denominator_X6_denominator rfl rfl rfl (by decide +kernel) ⟨Nat.le_of_ble_eq_true rfl, Nat.le_of_ble_eq_true rfl⟩) ⟨cPre_blind, va_recv hK hP (ci := 6) (q0 := 0) rfl hWG.recv.choose_spec, fun U hU hW => ⟨rfl, cPre_at hP hK hD hN hU hW⟩⟩ rfl rfl hl.1 rfl (lv_room (Nat.le_of_ble_eq_true rfl)) dL_denominator_3 ⟨Nat.zero_le _, Nat.zero_le _⟩) hS (fun q _ h => hFc q h) hFc (fun r u t H locs ht hvm hw hB hz1 hk1 hS => ?_)
  exact W.iret hx hb B.returns (fun t9 ht9 hW9 => ⟨⟨r, u, rfl, hw, cPost_of hAe ht9 hW9.alike ⟨cPost_P ht hB, cPost_D hFc hB, hS⟩ hK⟩, hS.F ht9⟩) hS.2.2 dL_denominator_6 B.notSynchronized
abbrev rmL_divided : Room := { frames := 44, cells := 0, slots := 0, locals := 4333 }
set_option maxHeartbeats 4000000 in
set_option maxRecDepth 100000 in
theorem q_L_divided (l : Launch) (dC : Nat → ClassId) (dI : Nat → Nat → Nat) (cy : Nat → ClassId) (ad : Nat → Nat) (sz : Nat) (w : va_W) (n : Nat) (ti : Nat → Int32) (g : Nat → Nat) (x1 : Int32) (hWG : WG ad cy n ti g w) (h1 : jOK n x1) : Met l yL_divided wsL_divided rmL_divided (va_Pc [.ref (ad 0), .int x1] (cPre dC dI cy w sz)) (va_Qi (fun (r : Int32) (u : va_W) => (r = (if wmN (sH n ti).1 (sH n ti).2 (x1).toNatClampNeg = 3 then 1 else 0) ∧ DF n ti) ∧ WG ad cy n ti g u) (fun u t => cPost dC dI cy w sz u t) (va_A w sz)) 0 0 (va_A w sz) := by
  refine Met_ofWH (cc := cL_divided) (maxL := 3) (ret := (some .int)) (hh := [(0, 13, 14, 22)]) (by decide) rfl ?_
  intro p e s m args below meth c s₁ B hml hv
  obtain ⟨rfl, hsz, hP, hK, hD0, hN⟩ := hv
  have hts := atoms_spec (ws := wsL_divided) B.pre
  have hown : s.vm.findClass RL = some m.cls := findClass_of_methodNamed B.named
  subst hsz
  have hD := hD0.self (sz := s.heap.size)
  generalize hAe : va_A w s.heap.size = A at hD ⊢
  have hA : ∀ q : Nat, s.heap.size ≤ q → A q := fun q h => by rw [← hAe]; exact Or.inr h
  have hl := lv_entry ([.ref (ad 0), .int x1]) (n := 3) (Nat.le_of_ble_eq_true rfl)
  rw [lg_entry_eq]
  generalize (lg_sl ([.ref (ad 0), .int x1]) ++ List.replicate (3 - (lg_sl ([.ref (ad 0), .int x1])).length) Slot.unset).toArray = ls at hl ⊢
  have hl : lv_has ls 3 [(0, .ref (ad 0)), (1, .int x1)] := hl
  have hx := B.exec
  have hb := B.bytes
  have hS : va_S A s.heap s.heap [] := va_S.rf
  refine lv_aload_n hx hb dL_divided_0 rfl (lv_at hl 0 rfl) ?_
  refine lv_iload_n hx hb dL_divided_1 rfl (lv_at hl 1 rfl) ?_
  have hFc := va_freeSame hD hS hA
  refine va_calli (va_runV (As := [.int x1]) (rest := []) ⟨hx, hb, hml, hown, hts⟩ (q_X6_isDivided l dC dI cy ad s.heap.size w n ti g x1 hWG h1) (cwV 1 hts gL_divided_X6_isDivided rfl rfl rfl (by decide +kernel) ⟨Nat.le_of_ble_eq_true rfl, Nat.le_of_ble_eq_true rfl⟩) ⟨cPre_blind, va_recv hK hP (ci := 6) (q0 := 0) rfl hWG.recv.choose_spec, fun U hU hW => ⟨rfl, cPre_at hP hK hD hN hU hW⟩⟩ rfl rfl hl.1 rfl (lv_room (Nat.le_of_ble_eq_true rfl)) dL_divided_2 ⟨Nat.zero_le _, Nat.zero_le _⟩) hS (fun q _ h => hFc q h) hFc (fun r u t H locs ht hvm hw hB hz1 hk1 hS => ?_)
  obtain ⟨⟨er, hdf⟩, hw⟩ := hw
  by_cases e9 : wmN (sH n ti).1 (sH n ti).2 (x1).toNatClampNeg = 3
  · rw [if_pos e9] at er ⊢
    refine lv_if_eq (tgt := 12) hx hb dL_divided_5 (by decide) (fun h => absurd (er.symm.trans h) (by decide)) (fun _ => ?_)
    refine lv_iconst (v := 1) hx hb dL_divided_8 (by decide) ?_
    refine lv_goto (tgt := 13) hx hb dL_divided_9 (by decide) ?_
    exact W.iret hx hb B.returns (fun t9 ht9 hW9 => ⟨⟨1, u, rfl, ⟨⟨rfl, hdf⟩, hw⟩, cPost_of hAe ht9 hW9.alike ⟨cPost_P ht hB, cPost_D hFc hB, hS⟩ hK⟩, hS.F ht9⟩) hS.2.2 dL_divided_13 B.notSynchronized
  · rw [if_neg e9] at er ⊢
    refine lv_if_eq (tgt := 12) hx hb dL_divided_5 (by decide) (fun _ => ?_) (fun h => absurd er h)
    refine lv_iconst (v := 0) hx hb dL_divided_12 (by decide) ?_
    exact W.iret hx hb B.returns (fun t9 ht9 hW9 => ⟨⟨0, u, rfl, ⟨⟨rfl, hdf⟩, hw⟩, cPost_of hAe ht9 hW9.alike ⟨cPost_P ht hB, cPost_D hFc hB, hS⟩ hK⟩, hS.F ht9⟩) hS.2.2 dL_divided_13 B.notSynchronized
abbrev rmL_roundedOn : Room := { frames := 44, cells := 0, slots := 0, locals := 4333 }
set_option maxHeartbeats 4000000 in
set_option maxRecDepth 100000 in
theorem q_L_roundedOn (l : Launch) (dC : Nat → ClassId) (dI : Nat → Nat → Nat) (cy : Nat → ClassId) (ad : Nat → Nat) (sz : Nat) (w : va_W) (n : Nat) (ti : Nat → Int32) (g : Nat → Nat) (x1 : Int32) (hWG : WG ad cy n ti g w) (h1 : jOK n x1) : Met l yL_roundedOn wsL_roundedOn rmL_roundedOn (va_Pc [.ref (ad 0), .int x1] (cPre dC dI cy w sz)) (va_Qi (fun (r : Int32) (u : va_W) => (r = nI (rD n ti (x1).toNatClampNeg) ∧ DF n ti) ∧ WG ad cy n ti g u) (fun u t => cPost dC dI cy w sz u t) (va_A w sz)) 0 0 (va_A w sz) := by
  refine Met_ofWH (cc := cL_roundedOn) (maxL := 3) (ret := (some .int)) (hh := [(0, 5, 6, 22)]) (by decide) rfl ?_
  intro p e s m args below meth c s₁ B hml hv
  obtain ⟨rfl, hsz, hP, hK, hD0, hN⟩ := hv
  have hts := atoms_spec (ws := wsL_roundedOn) B.pre
  have hown : s.vm.findClass RL = some m.cls := findClass_of_methodNamed B.named
  subst hsz
  have hD := hD0.self (sz := s.heap.size)
  generalize hAe : va_A w s.heap.size = A at hD ⊢
  have hA : ∀ q : Nat, s.heap.size ≤ q → A q := fun q h => by rw [← hAe]; exact Or.inr h
  have hl := lv_entry ([.ref (ad 0), .int x1]) (n := 3) (Nat.le_of_ble_eq_true rfl)
  rw [lg_entry_eq]
  generalize (lg_sl ([.ref (ad 0), .int x1]) ++ List.replicate (3 - (lg_sl ([.ref (ad 0), .int x1])).length) Slot.unset).toArray = ls at hl ⊢
  have hl : lv_has ls 3 [(0, .ref (ad 0)), (1, .int x1)] := hl
  have hx := B.exec
  have hb := B.bytes
  have hS : va_S A s.heap s.heap [] := va_S.rf
  refine lv_aload_n hx hb dL_roundedOn_0 rfl (lv_at hl 0 rfl) ?_
  refine lv_iload_n hx hb dL_roundedOn_1 rfl (lv_at hl 1 rfl) ?_
  have hFc := va_freeSame hD hS hA
  refine va_calli (va_runV (As := [.int x1]) (rest := []) ⟨hx, hb, hml, hown, hts⟩ (q_X6_roundedMachine l dC dI cy ad s.heap.size w n ti g x1 hWG h1) (cwV 1 hts gL_roundedOn_X6_roundedMachine rfl rfl rfl (by decide +kernel) ⟨Nat.le_of_ble_eq_true rfl, Nat.le_of_ble_eq_true rfl⟩) ⟨cPre_blind, va_recv hK hP (ci := 6) (q0 := 0) rfl hWG.recv.choose_spec, fun U hU hW => ⟨rfl, cPre_at hP hK hD hN hU hW⟩⟩ rfl rfl hl.1 rfl (lv_room (Nat.le_of_ble_eq_true rfl)) dL_roundedOn_2 ⟨Nat.zero_le _, Nat.zero_le _⟩) hS (fun q _ h => hFc q h) hFc (fun r u t H locs ht hvm hw hB hz1 hk1 hS => ?_)
  exact W.iret hx hb B.returns (fun t9 ht9 hW9 => ⟨⟨r, u, rfl, hw, cPost_of hAe ht9 hW9.alike ⟨cPost_P ht hB, cPost_D hFc hB, hS⟩ hK⟩, hS.F ht9⟩) hS.2.2 dL_roundedOn_5 B.notSynchronized
