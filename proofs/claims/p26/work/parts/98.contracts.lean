/-! the law's divides, plans and cell: their contracts -/
theorem q_L_divides (l : Launch) (dC : Nat → ClassId) (dI : Nat → Nat → Nat) (cy : Nat → ClassId) (ad : Nat → Nat) (sz : Nat) (w : va_W) (n : Nat) (ti : Nat → Int32) (g : Nat → Nat) (hWG : WG ad cy n ti g w) : Met l yL_divides wsL_divides rmL_divides (va_Pc [.ref (ad 0)] (cPre dC dI cy w sz)) (va_Qi (fun (r : Int32) (u : va_W) => r = 1 ∧ WG ad cy n ti g u) (fun u t => cPost dC dI cy w sz u t) (va_A w sz)) 0 0 (va_A w sz) := by
  refine Met.post (c_L_divides l dC dI cy ad sz w n ti g hWG 600000 (fun r => r = 1) (divides_spec (by omega) hWG.good rfl)) ?_
  intro a st o t ⟨⟨r, u, ho, hq, hB⟩, hF⟩
  exact ⟨⟨r, u, ho, ⟨hq.1.1, hq.2⟩, hB⟩, hF⟩
section
variable {p : Program} {l : Launch} {e : Env} {s : State} {m : MethodId} {args : Array Value} {below : List Frame} {meth : Method} {c : Code} {dC : Nat → ClassId} {dI : Nat → Nat → Nat} {cy : Nat → ClassId} {ad : Nat → Nat} {A : Nat → Prop} {Z : State → Prop} {n : Nat} {ti : Nat → Int32} {g : Nat → Nat} {x1 x3 : Int32}
set_option maxHeartbeats 4000000 in
set_option maxRecDepth 100000 in
theorem plans_tail (C0 : ∀ d, cxM cL_plans 12 (some .boolean) RL wsL_plans p (s.setDrawn d) m args meth c dC dI cy A) {d0 : Drawn} (hd0 : s.drawn.sameBut d0 lw_cs) {H : Heap} {locs : List Loc} {ls : Array Slot} (hG : Good n ti g) (hKP : KP n ti x1 x3)
    (hSt : stG dC dI cy ad A (s.setDrawn d0) n ti g H locs) (hl : lv_has ls 12 [(0, .ref (ad 0)), (1, .int x1), (3, .int x3)])
    (hret : ∀ (d : Drawn), s.drawn.sameBut d lw_cs → ∀ (H : Heap) (locs : List Loc) (ls : Array Slot), stG dC dI cy ad A (s.setDrawn d) n ti g H locs → W p l e rmL_plans (s.setDrawn d) m args below meth c H locs 0 0 Z (F0 m 362 ls [.int 1])) :
    W p l e rmL_plans (s.setDrawn d0) m args below meth c H locs 0 0 Z (F0 m 333 ls []) := by
  obtain ⟨hx, hb, hml, hr, hown, hts, hlocks, hK, hA, hN⟩ := C0 d0
  obtain ⟨w0, ⟨hP, hD, hS⟩, hW0⟩ := hSt
  obtain ⟨e1, e3, hSF, hDF⟩ := hKP
  have hJ := hG.1
  refine lv_aload_n hx hb dL_plans_333 rfl (lv_at hl 0 rfl) ?_
  have hFc := va_freeSame hD hS hA
  refine va_callfD hd0 (va_runV_D (As := []) (rest := []) ⟨hx, hb, hml, hown, hts⟩ (q_X6_excess l dC dI cy ad H.size w0 n ti g hW0) (cwV 0 hts gL_plans_X6_excess rfl rfl rfl (by decide +kernel) ⟨Nat.le_of_ble_eq_true rfl, Nat.le_of_ble_eq_true rfl⟩) ⟨cPre_blind, va_recv hK hP (ci := 6) (q0 := 0) rfl hW0.recv.choose_spec, fun U hU hW => ⟨rfl, cPre_at hP hK hD hN hU hW⟩⟩ rfl rfl hl.1 rfl (lv_room (Nat.le_of_ble_eq_true rfl)) dL_plans_334 ⟨Nat.zero_le _, Nat.zero_le _⟩) hS (fun q _ h => hFc q h) hFc (fun r u t H locs ht hvm hw hB hz1 hk1 hS d1 hd1 => ?_)
  obtain ⟨hr1, hWu⟩ := hw
  have hP := cPost_P ht hB
  have hD := cPost_D hFc hB
  obtain ⟨-, -, -, -, hown, hts, -, hK, hA, hN⟩ := C0 d1
  refine lv_aload_n hx hb dL_plans_337 rfl (lv_at hl 0 rfl) ?_
  have hFc := va_freeSame hD hS hA
  refine va_calli (va_runV (As := []) (rest := [.float r]) ⟨hx, hb, hml, hown, hts⟩ (q_X6_jobs l dC dI cy ad H.size u n ti g hWu) (cwV 0 hts gL_plans_X6_jobs rfl rfl rfl (by decide +kernel) ⟨Nat.le_of_ble_eq_true rfl, Nat.le_of_ble_eq_true rfl⟩) ⟨cPre_blind, va_recv hK hP (ci := 6) (q0 := 0) rfl hWu.recv.choose_spec, fun U hU hW => ⟨rfl, cPre_at hP hK hD hN hU hW⟩⟩ rfl rfl hl.1 rfl (lv_room (Nat.le_of_ble_eq_true rfl)) dL_plans_338 ⟨Nat.zero_le _, Nat.zero_le _⟩) hS (fun q _ h => hFc q h) hFc (fun r2 u2 t2 H locs ht2 hvm2 hw2 hB2 hz2 hk2 hS => ?_)
  obtain ⟨er2, hWu2⟩ := hw2
  have hSt : ∀ d, stG dC dI cy ad A (s.setDrawn d) n ti g H locs := fun d => ⟨u2, ⟨cPost_P ht2 hB2, cPost_D hFc hB2, hS⟩, hWu2⟩
  have hn := hJ.1
  refine lv_if_ne (tgt := 348) hx hb dL_plans_341 (by decide) (fun hne => ?_) (fun he => ?_)
  · have h0 : 0 < n := by
      rcases Nat.eq_zero_or_pos n with q | q
      · exact absurd (by rw [er2, q]; decide) hne
      · exact q
    have ha := len_pos (RD.feas hJ hDF.1 hDF.2.1) h0
    have ha2 := lenN_le hJ (g := rD n ti)
    have hb1 := len_pos hSF.2.1 h0
    have hb2 := hSF.1
    rw [hSF.2.2.1] at hb1
    have hX := fdiv_le (a := lenN n (tN ti) (rD n ti)) (b := (bP n ti).2) (by omega) ha (by omega) hb1
    have eX : exV n ti = FP.fdiv (FP.i2f (nI (lenN n (tN ti) (rD n ti)))) (FP.i2f (nI (bP n ti).2)) := by
      unfold exV
      rw [if_neg (by omega)]
    rw [eX] at hr1
    have er := alike_eq hX hr1
    refine lv_iload_n hx hb dL_plans_348 rfl (lv_at hl 2 rfl) ?_
    refine lv_i2f hx hb dL_plans_349 ?_
    refine lv_iload_n hx hb dL_plans_350 rfl (lv_at hl 1 rfl) ?_
    refine lv_i2f hx hb dL_plans_351 ?_
    refine lv_fdiv_any hd1 lw_bits hx hb dL_plans_352 (fun r3 d3 hal hd3 => ?_)
    rw [e1, e3] at hal
    have er3 := alike_eq hX hal
    have hc : FP.fcmp r r3 = some .eq := by rw [er, er3]; exact fcmp_self hX
    refine lv_fcmp hx hb dL_plans_353 ?_
    rw [hc]
    refine lv_if_ne (tgt := 361) hx hb dL_plans_354 (by decide) (fun h => absurd rfl h) (fun _ => ?_)
    refine lv_iconst (v := 1) hx hb dL_plans_357 (by decide) ?_
    refine lv_goto (tgt := 362) hx hb dL_plans_358 (by decide) ?_
    exact hret d3 hd3 H locs ls (hSt d3)
  · have h0 : n = 0 := by
      rw [er2] at he
      exact (nI_zero (by omega)).mp he
    have eX : exV n ti = FP.fconst1 := by
      unfold exV
      rw [if_pos h0]
    rw [eX] at hr1
    have er := alike_eq fconst1_le hr1
    refine lv_fconst1 hx hb dL_plans_344 ?_
    refine lv_goto (tgt := 353) hx hb dL_plans_345 (by decide) ?_
    have hc : FP.fcmp r FP.fconst1 = some .eq := by rw [er]; exact fcmp_self fconst1_le
    refine lv_fcmp hx hb dL_plans_353 ?_
    rw [hc]
    refine lv_if_ne (tgt := 361) hx hb dL_plans_354 (by decide) (fun h => absurd rfl h) (fun _ => ?_)
    refine lv_iconst (v := 1) hx hb dL_plans_357 (by decide) ?_
    refine lv_goto (tgt := 362) hx hb dL_plans_358 (by decide) ?_
    exact hret d1 hd1 H locs ls (hSt d1)
end
set_option maxHeartbeats 4000000 in
set_option maxRecDepth 100000 in
theorem q_L_plans (l : Launch) (dC : Nat → ClassId) (dI : Nat → Nat → Nat) (cy : Nat → ClassId) (ad : Nat → Nat) (sz : Nat) (w : va_W) (n : Nat) (ti : Nat → Int32) (g : Nat → Nat) (hWG : WG ad cy n ti g w) : MetD lw_cs l yL_plans wsL_plans rmL_plans (va_Pc [.ref (ad 0)] (cPre dC dI cy w sz)) (va_Qi (fun (r : Int32) (u : va_W) => r = 1 ∧ WG ad cy n ti g u) (fun u t => cPost dC dI cy w sz u t) (va_A w sz)) 0 0 (va_A w sz) := by
  refine MetD.ofW (cc := cL_plans) (maxL := 12) (ret := (some .boolean)) (by decide) rfl ?_
  intro p e s m args below meth c s₁ B hml hv hd0
  obtain ⟨rfl, hsz, hP, hK, hD0, hN⟩ := hv
  have hts := atoms_spec (ws := wsL_plans) B.pre
  have hown : s.vm.findClass RL = some m.cls := findClass_of_methodNamed B.named
  subst hsz
  have hD := hD0.self (sz := s.heap.size)
  generalize hAe : va_A w s.heap.size = A at hD ⊢
  have hA : ∀ q : Nat, s.heap.size ≤ q → A q := fun q h => by rw [← hAe]; exact Or.inr h
  have hl := lv_entry ([.ref (ad 0)]) (n := 12) (Nat.le_of_ble_eq_true rfl)
  rw [lg_entry_eq]
  generalize (lg_sl ([.ref (ad 0)]) ++ List.replicate (12 - (lg_sl ([.ref (ad 0)])).length) Slot.unset).toArray = ls at hl ⊢
  have hl : lv_has ls 12 [(0, .ref (ad 0))] := hl
  have C1 : ∀ d, cxM cL_plans 12 (some .boolean) RL wsL_plans p (s.setDrawn d) m _ meth c dC dI cy A := fun d => ⟨B.exec, B.bytes, hml, B.returns, hown, dr_words hts d, B.notSynchronized, va_K.moved (u := s) (U := s.setDrawn d) (Vm.Alike.refl s.vm) hK, hA, nwC.same (s := s) (U := s.setDrawn d) rfl hN⟩
  have fin : ∀ (d : Drawn), s.drawn.sameBut d lw_cs → ∀ (r : Int32) (H : Heap) (locs : List Loc) (ls : Array Slot) (pc : Nat), decode cL_plans pc = .ok (.ireturn, 1) → narrow .boolean (.int r) = .int r → stG dC dI cy ad A (s.setDrawn d) n ti g H locs → r = 1 → W p l e rmL_plans (s.setDrawn d) m #[Value.ref (ad 0)] below meth c H locs 0 0 (MQD lw_cs below (va_Qi (fun (r : Int32) (u : va_W) => r = 1 ∧ WG ad cy n ti g u) (fun u t => cPost dC dI cy w s.heap.size u t) A) #[Value.ref (ad 0)] s 0 0 A) (F0 m pc ls [.int r]) := fun d hd r H locs ls pc hdg hn hSt hq => by
    obtain ⟨u, hSu, hWu⟩ := hSt
    exact W.endD hd (W.zret B.exec B.bytes B.returns hn (fun t ht hW => ⟨⟨r, u, rfl, ⟨hq, hWu⟩, cPost_of hAe ht hW.alike hSu hK⟩, hSu.2.2.F ht⟩) hSu.2.2.2.2 hdg B.notSynchronized)
  exact k_L_plans_0 (N := 600000) (Q := fun r => r = 1) (K333 := KP n ti) (s := s.setDrawn s.drawn) (C1 s.drawn) s.heap [] ls (plans_spec (by omega) hWG.good) ⟨w, ⟨hP, hD, va_S.rf⟩, hWG⟩ (lv_sub hl [0] rfl) (fun r H locs ls pc hdg hn hSt hq => fin s.drawn hd0 r H locs ls pc hdg hn hSt hq)
    (fun x1 x3 H locs ls hk hSt hl => plans_tail C1 hd0 hWG.good hk hSt hl (fun d hd H locs ls hSt => fin d hd 1 H locs ls 362 dL_plans_362 rfl hSt rfl))
abbrev rmL_cell : Room := { frames := 1, cells := 0, slots := 0, locals := 62 }
set_option maxHeartbeats 4000000 in
set_option maxRecDepth 100000 in
theorem q_L_cell (l : Launch) (b L : Nat) (xs : Nat → Int32) (i sz : Nat) (hL : L ≤ 260) (hi : i < 16) : Met l yL_cell wsL_cell rmL_cell (va_Pc [.ref b, .int (nI i)] (fun U => U.heap.size = sz ∧ va_X b L xs U U.heap ∧ b < sz)) (va_Qi (fun (r : Int32) (_ : Unit) => ∃ y, y < 2 ^ 31 ∧ r = nI y) (fun _ _ => True) (fun q => sz ≤ q)) 0 0 (fun q => sz ≤ q) := by
  refine Met.ofW (cc := cL_cell) (maxL := 2) (ret := (some .int)) (by decide) rfl ?_
  intro p e s m args below meth c s₁ B hml hv
  obtain ⟨rfl, hsz, hX, hbl⟩ := hv
  have hts := atoms_spec (ws := wsL_cell) B.pre
  have hown : s.vm.findClass RL = some m.cls := findClass_of_methodNamed B.named
  subst hsz
  have hl := lv_entry ([.ref b, .int (nI i)]) (n := 2) (Nat.le_of_ble_eq_true rfl)
  rw [lg_entry_eq]
  generalize (lg_sl ([.ref b, .int (nI i)]) ++ List.replicate (2 - (lg_sl ([.ref b, .int (nI i)])).length) Slot.unset).toArray = ls at hl ⊢
  have hl : lv_has ls 2 [(0, .ref b), (1, .int (nI i))] := hl
  have hx := B.exec
  have hb := B.bytes
  have hS : va_S (fun q : Nat => s.heap.size ≤ q) s.heap s.heap [] := va_S.rf
  have hbA : ¬ (fun q : Nat => s.heap.size ≤ q) b := Nat.not_le.mpr hbl
  have eL : Int32.ofNat L = nI L := rfl
  -- the end, from pc 24
  have fin : ∀ v : Int32, W p l e (headSpec wsL_cell rmL_cell).room s m _ below meth c s.heap [] 0 0 (MQ below (va_Qi (fun (r : Int32) (_ : Unit) => ∃ y, y < 2 ^ 31 ∧ r = nI y) (fun _ _ => True) (fun q => s.heap.size ≤ q)) _ s 0 0 (fun q => s.heap.size ≤ q)) (F0 m 24 ls [.int v]) := fun v => by
    refine lv_ldc (v := 2147483647) hx hb hown (hts (.constant RL 8 (2147483647)) (by decide +kernel)) dL_cell_24 ?_
    refine lv_iand hx hb dL_cell_26 ?_
    exact W.iret hx hb B.returns (fun t ht hW => ⟨⟨_, (), rfl, pk_andE v 31 (by decide), trivial⟩, hS.F ht⟩) hS.2.2 dL_cell_27 B.notSynchronized
  refine lv_iload_n hx hb dL_cell_0 rfl (lv_at hl 1 rfl) ?_
  refine lv_aload_n hx hb dL_cell_1 rfl (lv_at hl 0 rfl) ?_
  refine va_slen hx hb hX hbl hbA hS dL_cell_2 ?_
  refine lv_icmp_ge (tgt := 12) hx hb dL_cell_3 (by decide) (fun hge => ?_) (fun hlt => ?_)
  · refine lv_ldc (v := 36299) hx hb hown (hts (.constant RL 7 (36299)) (by decide +kernel)) dL_cell_12 ?_
    refine lv_iload_n hx hb dL_cell_14 rfl (lv_at hl 1 rfl) ?_
    refine lv_sipush (v := 7577) hx hb dL_cell_15 (by decide) ?_
    refine lv_irem hx hb dL_cell_18 (by decide) ?_
    refine lv_imul hx hb dL_cell_19 ?_
    refine lv_sipush (v := 1301) hx hb dL_cell_20 (by decide) ?_
    refine lv_iadd hx hb dL_cell_23 ?_
    exact fin _
  · have hin : vp_in (nI i) L := by
      have : i < L := by
        rcases Nat.lt_or_ge i L with q | q
        · exact q
        · exact absurd (by rw [eL]; exact nI_le q (by omega)) hlt
      exact vp_in_nI this (by omega)
    refine lv_aload_n hx hb dL_cell_6 rfl (lv_at hl 0 rfl) ?_
    refine lv_iload_n hx hb dL_cell_7 rfl (lv_at hl 1 rfl) ?_
    refine va_sld hx hb hX hbl hbA hS hin dL_cell_8 ?_
    refine lv_goto (tgt := 24) hx hb dL_cell_9 (by decide) ?_
    exact fin _
