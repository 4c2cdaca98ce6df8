section
variable {p : Program} {l : Launch} {e : Env} {s : State} {m : MethodId} {args : Array Value} {below : List Frame} {meth : Method} {c : Code} {dC : Nat → ClassId} {dI : Nat → Nat → Nat} {cy : Nat → ClassId} {A : Nat → Prop} {b L : Nat} {xs : Nat → Int32} {ad am : Nat → Nat} {ao : Nat} {Z : State → Prop}
set_option maxHeartbeats 4000000 in
set_option maxRecDepth 100000 in
theorem law_9 (C0 : cxLaw p s m args meth c dC dI cy A b L xs) (hst : l.stackTraces = false)
    {n : Nat} {ti : Nat → Int32} {g : Nat → Nat} {v_ss : Int32} {v_ds : Int32} {v_oma : Nat → Int32} {v_obr : Int32} {v_obj : Int32} {v_obo : Int32} {v_obm : Int32} {v_plo : Nat → Int32} {v_pch : Nat → Int32} {v_pbe : Nat → Int32} {v_pbl : Int32} {v_dnu : Nat → Int32} {v_dde : Nat → Int32} {v_dbo : Int32} {v_dln : Int32} {v_dld : Int32} {v_tba : Nat → Int32} {v_tal : Nat → Int32} {v_tro : Int32} {v_tsc : Int64} {v_tcl : Nat → Nat → Int64} {v_rma : Nat → Int32} {ov : Nat → Int64} {w_mow : Nat → Int32} {w_mta : Nat → Int64} {w_mba : Nat → Int32} {w_mib : Nat → Int32} {w_mdi : Int64} {w_mab : Nat → Int64} {w_mbe : Nat → Int64} {w_mpl : Nat → Int32} {w_mbs : Nat → Int32} {w_mro : Nat → Int32} {w_mlo : Nat → Int32} {w_mth : Int32} {H : Heap} {locs : List Loc} {ls : Array Slot} {i : Int32} {cells slots : Nat} (hIV : IV n ti g v_oma v_ss v_pbl v_pbe v_ds v_dnu v_dde v_dbo v_dln v_dld v_rma w_mow) (hSt : stC dC dI A s ((wC ad cy v_ss v_ds ti (nI n) v_oma v_obr v_obj v_obo v_obm v_plo v_pch v_pbe v_pbl v_dnu v_dde v_dbo v_dln v_dld v_tba v_tal v_tro v_tsc v_tcl v_rma ++ oW ao cy ov) ++ wM am cy ti w_mow (nI n) w_mta w_mba w_mib w_mdi w_mab w_mbe w_mpl w_mbs w_mro w_mlo w_mth) H locs) (hl : lv_has ls 9 [(0, .ref b), (1, .ref (ad 0)), (2, .ref (am 0)), (3, .ref ao), (4, .int i)]) (hi1 : vp_in (i + 1) L) (hi2 : vp_in (i + 2) L) (hi3 : vp_in (i + 3) L) (hce : cells + 3 ≤ 601024) (hsl : slots + 18 ≤ 7293034)
    (hnext : ∀ (n : Nat) (ti : Nat → Int32) (g : Nat → Nat) (v_ss : Int32) (v_ds : Int32) (v_oma : Nat → Int32) (v_obr : Int32) (v_obj : Int32) (v_obo : Int32) (v_obm : Int32) (v_plo : Nat → Int32) (v_pch : Nat → Int32) (v_pbe : Nat → Int32) (v_pbl : Int32) (v_dnu : Nat → Int32) (v_dde : Nat → Int32) (v_dbo : Int32) (v_dln : Int32) (v_dld : Int32) (v_tba : Nat → Int32) (v_tal : Nat → Int32) (v_tro : Int32) (v_tsc : Int64) (v_tcl : Nat → Nat → Int64) (v_rma : Nat → Int32) (ov : Nat → Int64) (w_mow : Nat → Int32) (w_mta : Nat → Int64) (w_mba : Nat → Int32) (w_mib : Nat → Int32) (w_mdi : Int64) (w_mab : Nat → Int64) (w_mbe : Nat → Int64) (w_mpl : Nat → Int32) (w_mbs : Nat → Int32) (w_mro : Nat → Int32) (w_mlo : Nat → Int32) (w_mth : Int32) (H : Heap) (locs : List Loc) (ls : Array Slot), IV n ti g v_oma v_ss v_pbl v_pbe v_ds v_dnu v_dde v_dbo v_dln v_dld v_rma w_mow → stC dC dI A s ((wC ad cy v_ss v_ds ti (nI n) v_oma v_obr v_obj v_obo v_obm v_plo v_pch v_pbe v_pbl v_dnu v_dde v_dbo v_dln v_dld v_tba v_tal v_tro v_tsc v_tcl v_rma ++ oW ao cy ov) ++ wM am cy ti w_mow (nI n) w_mta w_mba w_mib w_mdi w_mab w_mbe w_mpl w_mbs w_mro w_mlo w_mth) H locs → lv_has ls 9 [(0, .ref b), (1, .ref (ad 0)), (2, .ref (am 0)), (3, .ref ao), (4, .int i)] → W p l e room_1 s m args below meth c H locs (cells + 3) (slots + 18) Z (F0 m 1049 ls [])) : W p l e room_1 s m args below meth c H locs cells slots Z (F0 m 493 ls []) := by
  obtain ⟨hx, hb, hml, hr, hown, hts, hlocks, hK, hA, hN, hXw, hXs, hX, hbl, hbA⟩ := id C0
  obtain ⟨hG, hpo, hS, hDv, hpm⟩ := id hIV
  have hn := hG.1.1
  have hN6 : 600000 ≤ 2000000000 := Nat.le_of_ble_eq_true rfl
  have hN100 : 100 ≤ 2000000000 := Nat.le_of_ble_eq_true rfl
  have hN100M := hN100
  have hN2 : 2000000000 ≤ 2000000000 := Nat.le_refl _
  have hRc : 601024 ≤ room_1.cells := Nat.le_refl _
  have hRs : 7293034 ≤ room_1.slots := Nat.le_refl _
  obtain ⟨x1, ex1⟩ : ∃ y : Int32, y = xs (i + (1 : Int32)).toNatClampNeg := ⟨_, rfl⟩
  obtain ⟨x2, ex2⟩ : ∃ y : Int32, y = xs (i + (2 : Int32)).toNatClampNeg := ⟨_, rfl⟩
  obtain ⟨hP, hD, hS0⟩ := hSt
  refine lv_aload_n hx hb dL_law_493 rfl (lv_at hl 1 rfl) ?_
  refine lv_aload_n hx hb dL_law_494 rfl (lv_at hl 0 rfl) ?_
  refine lv_iload hx hb dL_law_495 (lv_at hl 4 rfl) ?_
  refine lv_iconst (v := (1 : Int32)) hx hb dL_law_497 (by decide) ?_
  refine lv_iadd hx hb dL_law_498 ?_
  refine va_sld hx hb hX hbl hbA hS0 hi1 dL_law_499 ?_
  rw [← ex1]
  refine lv_aload_n hx hb dL_law_500 rfl (lv_at hl 0 rfl) ?_
  refine lv_iload hx hb dL_law_501 (lv_at hl 4 rfl) ?_
  refine lv_iconst (v := (2 : Int32)) hx hb dL_law_503 (by decide) ?_
  refine lv_iadd hx hb dL_law_504 ?_
  refine va_sld hx hb hX hbl hbA hS0 hi2 dL_law_505 ?_
  rw [← ex2]
  refine lv_aload_n hx hb dL_law_506 rfl (lv_at hl 3 rfl) ?_
  obtain ⟨hPa, -⟩ := wp_app.mp hP
  obtain ⟨hDa, -, -⟩ := wd_app.mp hD
  have hFa := va_freeSame hDa hS0 hA
  refine va_calli (vx_runSW (As := [.ref (ad 0), .int x1, .int x2, .ref ao]) (rest := []) ⟨hx, hb, hml, hown, hts⟩ (c_L_numerator l dC dI cy ad H.size v_ss v_ds ti (nI n) v_oma v_obr v_obj v_obo v_obm v_plo v_pch v_pbe v_pbl v_dnu v_dde v_dbo v_dln v_dld v_tba v_tal v_tro v_tsc v_tcl v_rma x1 x2 2000000000 _ ao ov (¬ (jOK n x1 ∧ jOK 3 x2)) hst (s_numerator (N := 2000000000) (x1 := x1) (x2 := x2) (Q := (fun (r : Int32) (ds : Int32) (dnu : Nat → Int32) (dde : Nat → Int32) (dbo : Int32) (dln : Int32) (dld : Int32) (tba : Nat → Int32) (tal : Nat → Int32) (tro : Int32) (tsc : Int64) (tcl : Nat → Nat → Int64) (rma : Nat → Int32) => ((jOK n x1 ∧ jOK 3 x2) ∧ r = nI ((sH n ti).1 (3 * (x1).toNatClampNeg + (x2).toNatClampNeg))) ∧ (ds ≠ 0 → DInv n ti dnu dde dbo dln dld rma))) (QX := (fun E => (E = "java/lang/IndexOutOfBoundsException" ∧ ¬ (jOK n x1 ∧ jOK 3 x2)))) hN6 hG hDv (fun o1 o2 _ _ _ _ _ _ _ _ _ _ _ _ h => ⟨⟨⟨o1, o2⟩, rfl⟩, (fun _ => h)⟩) (fun o => ⟨rfl, o⟩))) (vx_cwSW 4 hts gL_law_L_numerator rfl rfl rfl (by decide +kernel) ⟨Nat.le_of_ble_eq_true rfl, Nat.le_of_ble_eq_true rfl⟩) ⟨cPreX_blind, fun U hU hW => ⟨rfl, cPreX_at hPa hK hDa hN hU hW hXw hXs hS0 hFa⟩⟩ rfl rfl hl.1 rfl (lv_room (Nat.le_of_ble_eq_true rfl)) dL_law_507 ⟨Nat.le_trans (show cells + 2 ≤ 601024 by omega) hRc, Nat.le_trans (show slots + 12 ≤ 7293034 by omega) hRs⟩) hS0 (fun q _ h => hFa q h) hFa (fun k u t H locs ht hvm hw hB hz1 hk1 hS0 => ?_)
  obtain ⟨hP, hD⟩ := wj_l hP hD hk1 hFa (cPost_P ht hB) hB.2.2
  obtain ⟨u, ov'⟩ := u
  try dsimp only at hw hP hD
  refine lv_istore (lv' := [(5, .int k), (0, .ref b), (1, .ref (ad 0)), (2, .ref (am 0)), (3, .ref ao), (4, .int i)]) hx hb dL_law_510 hl (by decide) rfl (fun ls hl => ?_)
  refine lv_aload_n hx hb dL_law_512 rfl (lv_at hl 3 rfl) ?_
  refine lv_aload_n hx hb dL_law_513 rfl (lv_at hl 1 rfl) ?_
  refine lv_iload hx hb dL_law_514 (lv_at hl 5 rfl) ?_
  refine lv_iconst (v := (1 : Int32)) hx hb dL_law_516 (by decide) ?_
  refine lv_iadd hx hb dL_law_517 ?_
  refine va_sld hx hb hX hbl hbA hS0 hi1 dL_law_518 ?_
  rw [← ex1]
  refine lv_aload_n hx hb dL_law_519 rfl (lv_at hl 1 rfl) ?_
  refine lv_iload hx hb dL_law_520 (lv_at hl 5 rfl) ?_
  refine lv_iconst (v := (2 : Int32)) hx hb dL_law_522 (by decide) ?_
  refine lv_iadd hx hb dL_law_523 ?_
  refine va_sld hx hb hX hbl hbA hS0 hi2 dL_law_524 ?_
  rw [← ex2]
  obtain ⟨-, hPm⟩ := wp_app.mp hP
  obtain ⟨-, hDm, -⟩ := wd_app.mp hD
  have hFm := va_freeSame hDm hS0 hA
  refine va_calli (va_runV (As := [.int x1, .int x2]) (rest := []) ⟨hx, hb, hml, hown, hts⟩ (c_X7_numerator l dC dI cy am H.size ti w_mow (nI n) w_mta w_mba w_mib w_mdi w_mab w_mbe w_mpl w_mbs w_mro w_mlo w_mth x1 x2 2000000000 _ (t_numerator (N := 2000000000) (x1 := x1) (x2 := x2) (Q := (fun (r : Int32) (mta : Nat → Int64) (mba : Nat → Int32) (mib : Nat → Int32) (mdi : Int64) (mab : Nat → Int64) (mbe : Nat → Int64) (mth : Int32) => ((jOK n x1 ∧ jOK 3 x2) ∧ r = nI ((sH n ti).1 (3 * (x1).toNatClampNeg + (x2).toNatClampNeg)) ∧ mth = 0) ∨ (¬ (jOK n x1 ∧ jOK 3 x2) ∧ mth = 1))) hN2 hG (fun o1 o2 _ _ _ _ _ _ => Or.inl ⟨⟨o1, o2⟩, rfl, rfl⟩) (fun o => Or.inr ⟨o, rfl⟩))) (cwV 2 hts gL_law_X7_numerator rfl rfl rfl (by decide +kernel) ⟨Nat.le_of_ble_eq_true rfl, Nat.le_of_ble_eq_true rfl⟩) ⟨cPre_blind, va_recv hK hPm (ci := 7) (q0 := 0) rfl rfl, fun U hU hW => ⟨rfl, cPre_at hPm hK hDm hN hU hW⟩⟩ rfl rfl hl.1 rfl (lv_room (Nat.le_of_ble_eq_true rfl)) dL_law_525 ⟨Nat.le_trans (show cells + 2 + 0 ≤ 601024 by omega) hRc, Nat.le_trans (show slots + 12 + 0 ≤ 7293034 by omega) hRs⟩) hS0 (fun q _ h => hFm q h) hFm (fun r u2 t H locs ht hvm hq hB hz1 hk1 hS0 => ?_)
  obtain ⟨hP, hD⟩ := wj_r hP hD hk1 hFm (cPost_P ht hB) hB.2.2
  obtain ⟨u_ds, u_dnu, u_dde, u_dbo, u_dln, u_dld, u_tba, u_tal, u_tro, u_tsc, u_tcl, u_rma⟩ := u
  obtain ⟨m_mta, m_mba, m_mib, m_mdi, m_mab, m_mbe, m_mth⟩ := u2
  try dsimp only at hw hq hP hD
  refine lv_istore (lv' := [(6, .int r), (5, .int k), (0, .ref b), (1, .ref (ad 0)), (2, .ref (am 0)), (3, .ref ao), (4, .int i)]) hx hb dL_law_528 hl (by decide) rfl (fun ls hl => ?_)
  refine lv_aload_n hx hb dL_law_530 rfl (lv_at hl 4 rfl) ?_
  obtain ⟨-, hPm⟩ := wp_app.mp hP
  obtain ⟨-, hDm, -⟩ := wd_app.mp hD
  have hFm := va_freeSame hDm hS0 hA
  refine va_calli (va_runV (As := []) (rest := []) ⟨hx, hb, hml, hown, hts⟩ (c_X7_thrown l dC dI cy am H.size ti w_mow (nI n) m_mta m_mba m_mib m_mdi m_mab m_mbe w_mpl w_mbs w_mro w_mlo m_mth 2000000000 (fun z => z = m_mth) rfl) (cwV 0 hts gL_law_X7_thrown rfl rfl rfl (by decide +kernel) ⟨Nat.le_of_ble_eq_true rfl, Nat.le_of_ble_eq_true rfl⟩) ⟨cPre_blind, va_recv hK hPm (ci := 7) (q0 := 0) rfl rfl, fun U hU hW => ⟨rfl, cPre_at hPm hK hDm hN hU hW⟩⟩ rfl rfl hl.1 rfl (lv_room (Nat.le_of_ble_eq_true rfl)) dL_law_531 ⟨Nat.le_trans (show cells + 2 + 0 + 0 ≤ 601024 by omega) hRc, Nat.le_trans (show slots + 12 + 0 + 0 ≤ 7293034 by omega) hRs⟩) hS0 (fun q _ h => hFm q h) hFm (fun th u3 t H locs ht hvm hth hB hz1 hk1 hS0 => ?_)
  obtain ⟨hP, hD⟩ := wj_r hP hD hk1 hFm (cPost_P ht hB) hB.2.2
  have hth : th = m_mth := hth
  have hfin : (m_mth = k ∧ (k = 0 → ov' 0 = r.toInt64)) ∧ (u_ds ≠ 0 → DInv n ti u_dnu u_dde u_dbo u_dln u_dld u_rma) := by
    rcases hw with ⟨hk, r9, ⟨⟨ho, hv⟩, hi⟩, hov⟩ | ⟨hk, ho, hu⟩
    · rcases hq with ⟨-, hv2, hm0⟩ | ⟨ho2, -⟩
      · exact ⟨⟨by rw [hm0, hk], fun _ => by rw [hov, hv, hv2]⟩, hi⟩
      · exact absurd ho ho2
    · rcases hq with ⟨ho2, -⟩ | ⟨-, hm1⟩
      · exact absurd ho2 ho
      · simp only [Prod.mk.injEq] at hu
        obtain ⟨rfl, rfl, rfl, rfl, rfl, rfl, rfl, rfl, rfl, rfl, rfl, rfl⟩ := hu
        exact ⟨⟨by rw [hm1, hk], fun h0 => absurd (hk.symm.trans h0) (by decide)⟩, hDv⟩
  refine lv_iload hx hb dL_law_534 (lv_at hl 1 rfl) ?_
  refine lv_icmp_eq (tgt := 541) hx hb dL_law_536 (by decide) (fun _ => ?_) (fun h9 => absurd (hth.trans hfin.1.1) h9)
  refine lv_iload hx hb dL_law_541 (lv_at hl 1 rfl) ?_
  have hend : W p l e room_1 s m args below meth c H locs (cells + 2 + 0 + 0) (slots + 12 + 0 + 0) Z (F0 m 558 ls []) := by
    refine lv_goto (tgt := 1049) hx hb dL_law_558 (by decide) ?_
    refine W.widen (show cells + 2 + 0 + 0 ≤ cells + 3 by omega) (show slots + 12 + 0 + 0 ≤ slots + 18 by omega) (hnext n ti (g) v_ss (u_ds) v_oma v_obr v_obj v_obo v_obm v_plo v_pch v_pbe v_pbl (u_dnu) (u_dde) (u_dbo) (u_dln) (u_dld) (u_tba) (u_tal) (u_tro) (u_tsc) (u_tcl) (u_rma) ov' w_mow (m_mta) (m_mba) (m_mib) (m_mdi) (m_mab) (m_mbe) w_mpl w_mbs w_mro w_mlo (m_mth) H locs ls ⟨hG, hpo, hS, hfin.2, hpm⟩ ⟨hP, hD, hS0⟩ (lv_sub hl [2, 3, 4, 5, 6] rfl))
  refine lv_if_ne (tgt := 558) hx hb dL_law_543 (by decide) (fun _ => hend) (fun hk0 => ?_)
  refine lv_aload_n hx hb dL_law_546 rfl (lv_at hl 5 rfl) ?_
  refine lv_iconst (v := (0 : Int32)) hx hb dL_law_547 (by decide) ?_
  refine va_lald hx hb hK hP 28 1 rfl rfl in01 dL_law_548 ?_
  refine lv_iload hx hb dL_law_549 (lv_at hl 0 rfl) ?_
  have hov0 : ov' (0 : Int32).toNatClampNeg = ov' 0 := congrArg ov' (by decide)
  refine lv_i2l (v := r.toInt64) hx hb dL_law_551 rfl ?_
  exact lq_eq (tgt := 558) hx hb dL_law_552 dL_law_553 (by decide) (fun _ => hend) (fun h9 => absurd (hov0.trans (hfin.1.2 hk0)) h9)
set_option maxHeartbeats 4000000 in
set_option maxRecDepth 100000 in
theorem law_10 (C0 : cxLaw p s m args meth c dC dI cy A b L xs) (hst : l.stackTraces = false)
    {n : Nat} {ti : Nat → Int32} {g : Nat → Nat} {v_ss : Int32} {v_ds : Int32} {v_oma : Nat → Int32} {v_obr : Int32} {v_obj : Int32} {v_obo : Int32} {v_obm : Int32} {v_plo : Nat → Int32} {v_pch : Nat → Int32} {v_pbe : Nat → Int32} {v_pbl : Int32} {v_dnu : Nat → Int32} {v_dde : Nat → Int32} {v_dbo : Int32} {v_dln : Int32} {v_dld : Int32} {v_tba : Nat → Int32} {v_tal : Nat → Int32} {v_tro : Int32} {v_tsc : Int64} {v_tcl : Nat → Nat → Int64} {v_rma : Nat → Int32} {ov : Nat → Int64} {w_mow : Nat → Int32} {w_mta : Nat → Int64} {w_mba : Nat → Int32} {w_mib : Nat → Int32} {w_mdi : Int64} {w_mab : Nat → Int64} {w_mbe : Nat → Int64} {w_mpl : Nat → Int32} {w_mbs : Nat → Int32} {w_mro : Nat → Int32} {w_mlo : Nat → Int32} {w_mth : Int32} {H : Heap} {locs : List Loc} {ls : Array Slot} {i : Int32} {cells slots : Nat} (hIV : IV n ti g v_oma v_ss v_pbl v_pbe v_ds v_dnu v_dde v_dbo v_dln v_dld v_rma w_mow) (hSt : stC dC dI A s ((wC ad cy v_ss v_ds ti (nI n) v_oma v_obr v_obj v_obo v_obm v_plo v_pch v_pbe v_pbl v_dnu v_dde v_dbo v_dln v_dld v_tba v_tal v_tro v_tsc v_tcl v_rma ++ oW ao cy ov) ++ wM am cy ti w_mow (nI n) w_mta w_mba w_mib w_mdi w_mab w_mbe w_mpl w_mbs w_mro w_mlo w_mth) H locs) (hl : lv_has ls 9 [(0, .ref b), (1, .ref (ad 0)), (2, .ref (am 0)), (3, .ref ao), (4, .int i)]) (hi1 : vp_in (i + 1) L) (hi2 : vp_in (i + 2) L) (hi3 : vp_in (i + 3) L) (hce : cells + 3 ≤ 601024) (hsl : slots + 18 ≤ 7293034)
    (hnext : ∀ (n : Nat) (ti : Nat → Int32) (g : Nat → Nat) (v_ss : Int32) (v_ds : Int32) (v_oma : Nat → Int32) (v_obr : Int32) (v_obj : Int32) (v_obo : Int32) (v_obm : Int32) (v_plo : Nat → Int32) (v_pch : Nat → Int32) (v_pbe : Nat → Int32) (v_pbl : Int32) (v_dnu : Nat → Int32) (v_dde : Nat → Int32) (v_dbo : Int32) (v_dln : Int32) (v_dld : Int32) (v_tba : Nat → Int32) (v_tal : Nat → Int32) (v_tro : Int32) (v_tsc : Int64) (v_tcl : Nat → Nat → Int64) (v_rma : Nat → Int32) (ov : Nat → Int64) (w_mow : Nat → Int32) (w_mta : Nat → Int64) (w_mba : Nat → Int32) (w_mib : Nat → Int32) (w_mdi : Int64) (w_mab : Nat → Int64) (w_mbe : Nat → Int64) (w_mpl : Nat → Int32) (w_mbs : Nat → Int32) (w_mro : Nat → Int32) (w_mlo : Nat → Int32) (w_mth : Int32) (H : Heap) (locs : List Loc) (ls : Array Slot), IV n ti g v_oma v_ss v_pbl v_pbe v_ds v_dnu v_dde v_dbo v_dln v_dld v_rma w_mow → stC dC dI A s ((wC ad cy v_ss v_ds ti (nI n) v_oma v_obr v_obj v_obo v_obm v_plo v_pch v_pbe v_pbl v_dnu v_dde v_dbo v_dln v_dld v_tba v_tal v_tro v_tsc v_tcl v_rma ++ oW ao cy ov) ++ wM am cy ti w_mow (nI n) w_mta w_mba w_mib w_mdi w_mab w_mbe w_mpl w_mbs w_mro w_mlo w_mth) H locs → lv_has ls 9 [(0, .ref b), (1, .ref (ad 0)), (2, .ref (am 0)), (3, .ref ao), (4, .int i)] → W p l e room_1 s m args below meth c H locs (cells + 3) (slots + 18) Z (F0 m 1049 ls [])) : W p l e room_1 s m args below meth c H locs cells slots Z (F0 m 561 ls []) := by
  obtain ⟨hx, hb, hml, hr, hown, hts, hlocks, hK, hA, hN, hXw, hXs, hX, hbl, hbA⟩ := id C0
  obtain ⟨hG, hpo, hS, hDv, hpm⟩ := id hIV
  have hn := hG.1.1
  have hN6 : 600000 ≤ 2000000000 := Nat.le_of_ble_eq_true rfl
  have hN100 : 100 ≤ 2000000000 := Nat.le_of_ble_eq_true rfl
  have hN100M := hN100
  have hN2 : 2000000000 ≤ 2000000000 := Nat.le_refl _
  have hRc : 601024 ≤ room_1.cells := Nat.le_refl _
  have hRs : 7293034 ≤ room_1.slots := Nat.le_refl _
  obtain ⟨x1, ex1⟩ : ∃ y : Int32, y = xs (i + (1 : Int32)).toNatClampNeg := ⟨_, rfl⟩
  obtain ⟨x2, ex2⟩ : ∃ y : Int32, y = xs (i + (2 : Int32)).toNatClampNeg := ⟨_, rfl⟩
  obtain ⟨hP, hD, hS0⟩ := hSt
  refine lv_aload_n hx hb dL_law_561 rfl (lv_at hl 1 rfl) ?_
  refine lv_aload_n hx hb dL_law_562 rfl (lv_at hl 0 rfl) ?_
  refine lv_iload hx hb dL_law_563 (lv_at hl 4 rfl) ?_
  refine lv_iconst (v := (1 : Int32)) hx hb dL_law_565 (by decide) ?_
  refine lv_iadd hx hb dL_law_566 ?_
  refine va_sld hx hb hX hbl hbA hS0 hi1 dL_law_567 ?_
  rw [← ex1]
  refine lv_aload_n hx hb dL_law_568 rfl (lv_at hl 0 rfl) ?_
  refine lv_iload hx hb dL_law_569 (lv_at hl 4 rfl) ?_
  refine lv_iconst (v := (2 : Int32)) hx hb dL_law_571 (by decide) ?_
  refine lv_iadd hx hb dL_law_572 ?_
  refine va_sld hx hb hX hbl hbA hS0 hi2 dL_law_573 ?_
  rw [← ex2]
  refine lv_aload_n hx hb dL_law_574 rfl (lv_at hl 3 rfl) ?_
  obtain ⟨hPa, -⟩ := wp_app.mp hP
  obtain ⟨hDa, -, -⟩ := wd_app.mp hD
  have hFa := va_freeSame hDa hS0 hA
  refine va_calli (vx_runSW (As := [.ref (ad 0), .int x1, .int x2, .ref ao]) (rest := []) ⟨hx, hb, hml, hown, hts⟩ (c_L_denominator l dC dI cy ad H.size v_ss v_ds ti (nI n) v_oma v_obr v_obj v_obo v_obm v_plo v_pch v_pbe v_pbl v_dnu v_dde v_dbo v_dln v_dld v_tba v_tal v_tro v_tsc v_tcl v_rma x1 x2 2000000000 _ ao ov (¬ (jOK n x1 ∧ jOK 3 x2)) hst (s_denominator (N := 2000000000) (x1 := x1) (x2 := x2) (Q := (fun (r : Int32) (ds : Int32) (dnu : Nat → Int32) (dde : Nat → Int32) (dbo : Int32) (dln : Int32) (dld : Int32) (tba : Nat → Int32) (tal : Nat → Int32) (tro : Int32) (tsc : Int64) (tcl : Nat → Nat → Int64) (rma : Nat → Int32) => ((jOK n x1 ∧ jOK 3 x2) ∧ r = nI ((sH n ti).2 (3 * (x1).toNatClampNeg + (x2).toNatClampNeg))) ∧ (ds ≠ 0 → DInv n ti dnu dde dbo dln dld rma))) (QX := (fun E => (E = "java/lang/IndexOutOfBoundsException" ∧ ¬ (jOK n x1 ∧ jOK 3 x2)))) hN6 hG hDv (fun o1 o2 _ _ _ _ _ _ _ _ _ _ _ _ h => ⟨⟨⟨o1, o2⟩, rfl⟩, (fun _ => h)⟩) (fun o => ⟨rfl, o⟩))) (vx_cwSW 4 hts gL_law_L_denominator rfl rfl rfl (by decide +kernel) ⟨Nat.le_of_ble_eq_true rfl, Nat.le_of_ble_eq_true rfl⟩) ⟨cPreX_blind, fun U hU hW => ⟨rfl, cPreX_at hPa hK hDa hN hU hW hXw hXs hS0 hFa⟩⟩ rfl rfl hl.1 rfl (lv_room (Nat.le_of_ble_eq_true rfl)) dL_law_575 ⟨Nat.le_trans (show cells + 2 ≤ 601024 by omega) hRc, Nat.le_trans (show slots + 12 ≤ 7293034 by omega) hRs⟩) hS0 (fun q _ h => hFa q h) hFa (fun k u t H locs ht hvm hw hB hz1 hk1 hS0 => ?_)
  obtain ⟨hP, hD⟩ := wj_l hP hD hk1 hFa (cPost_P ht hB) hB.2.2
  obtain ⟨u, ov'⟩ := u
  try dsimp only at hw hP hD
  refine lv_istore (lv' := [(5, .int k), (0, .ref b), (1, .ref (ad 0)), (2, .ref (am 0)), (3, .ref ao), (4, .int i)]) hx hb dL_law_578 hl (by decide) rfl (fun ls hl => ?_)
  refine lv_aload_n hx hb dL_law_580 rfl (lv_at hl 3 rfl) ?_
  refine lv_aload_n hx hb dL_law_581 rfl (lv_at hl 1 rfl) ?_
  refine lv_iload hx hb dL_law_582 (lv_at hl 5 rfl) ?_
  refine lv_iconst (v := (1 : Int32)) hx hb dL_law_584 (by decide) ?_
  refine lv_iadd hx hb dL_law_585 ?_
  refine va_sld hx hb hX hbl hbA hS0 hi1 dL_law_586 ?_
  rw [← ex1]
  refine lv_aload_n hx hb dL_law_587 rfl (lv_at hl 1 rfl) ?_
  refine lv_iload hx hb dL_law_588 (lv_at hl 5 rfl) ?_
  refine lv_iconst (v := (2 : Int32)) hx hb dL_law_590 (by decide) ?_
  refine lv_iadd hx hb dL_law_591 ?_
  refine va_sld hx hb hX hbl hbA hS0 hi2 dL_law_592 ?_
  rw [← ex2]
  obtain ⟨-, hPm⟩ := wp_app.mp hP
  obtain ⟨-, hDm, -⟩ := wd_app.mp hD
  have hFm := va_freeSame hDm hS0 hA
  refine va_calli (va_runV (As := [.int x1, .int x2]) (rest := []) ⟨hx, hb, hml, hown, hts⟩ (c_X7_denominator l dC dI cy am H.size ti w_mow (nI n) w_mta w_mba w_mib w_mdi w_mab w_mbe w_mpl w_mbs w_mro w_mlo w_mth x1 x2 2000000000 _ (t_denominator (N := 2000000000) (x1 := x1) (x2 := x2) (Q := (fun (r : Int32) (mta : Nat → Int64) (mba : Nat → Int32) (mib : Nat → Int32) (mdi : Int64) (mab : Nat → Int64) (mbe : Nat → Int64) (mth : Int32) => ((jOK n x1 ∧ jOK 3 x2) ∧ r = nI ((sH n ti).2 (3 * (x1).toNatClampNeg + (x2).toNatClampNeg)) ∧ mth = 0) ∨ (¬ (jOK n x1 ∧ jOK 3 x2) ∧ mth = 1))) hN2 hG (fun o1 o2 _ _ _ _ _ _ => Or.inl ⟨⟨o1, o2⟩, rfl, rfl⟩) (fun o => Or.inr ⟨o, rfl⟩))) (cwV 2 hts gL_law_X7_denominator rfl rfl rfl (by decide +kernel) ⟨Nat.le_of_ble_eq_true rfl, Nat.le_of_ble_eq_true rfl⟩) ⟨cPre_blind, va_recv hK hPm (ci := 7) (q0 := 0) rfl rfl, fun U hU hW => ⟨rfl, cPre_at hPm hK hDm hN hU hW⟩⟩ rfl rfl hl.1 rfl (lv_room (Nat.le_of_ble_eq_true rfl)) dL_law_593 ⟨Nat.le_trans (show cells + 2 + 0 ≤ 601024 by omega) hRc, Nat.le_trans (show slots + 12 + 0 ≤ 7293034 by omega) hRs⟩) hS0 (fun q _ h => hFm q h) hFm (fun r u2 t H locs ht hvm hq hB hz1 hk1 hS0 => ?_)
  obtain ⟨hP, hD⟩ := wj_r hP hD hk1 hFm (cPost_P ht hB) hB.2.2
  obtain ⟨u_ds, u_dnu, u_dde, u_dbo, u_dln, u_dld, u_tba, u_tal, u_tro, u_tsc, u_tcl, u_rma⟩ := u
  obtain ⟨m_mta, m_mba, m_mib, m_mdi, m_mab, m_mbe, m_mth⟩ := u2
  try dsimp only at hw hq hP hD
  refine lv_istore (lv' := [(6, .int r), (5, .int k), (0, .ref b), (1, .ref (ad 0)), (2, .ref (am 0)), (3, .ref ao), (4, .int i)]) hx hb dL_law_596 hl (by decide) rfl (fun ls hl => ?_)
  refine lv_aload_n hx hb dL_law_598 rfl (lv_at hl 4 rfl) ?_
  obtain ⟨-, hPm⟩ := wp_app.mp hP
  obtain ⟨-, hDm, -⟩ := wd_app.mp hD
  have hFm := va_freeSame hDm hS0 hA
  refine va_calli (va_runV (As := []) (rest := []) ⟨hx, hb, hml, hown, hts⟩ (c_X7_thrown l dC dI cy am H.size ti w_mow (nI n) m_mta m_mba m_mib m_mdi m_mab m_mbe w_mpl w_mbs w_mro w_mlo m_mth 2000000000 (fun z => z = m_mth) rfl) (cwV 0 hts gL_law_X7_thrown rfl rfl rfl (by decide +kernel) ⟨Nat.le_of_ble_eq_true rfl, Nat.le_of_ble_eq_true rfl⟩) ⟨cPre_blind, va_recv hK hPm (ci := 7) (q0 := 0) rfl rfl, fun U hU hW => ⟨rfl, cPre_at hPm hK hDm hN hU hW⟩⟩ rfl rfl hl.1 rfl (lv_room (Nat.le_of_ble_eq_true rfl)) dL_law_599 ⟨Nat.le_trans (show cells + 2 + 0 + 0 ≤ 601024 by omega) hRc, Nat.le_trans (show slots + 12 + 0 + 0 ≤ 7293034 by omega) hRs⟩) hS0 (fun q _ h => hFm q h) hFm (fun th u3 t H locs ht hvm hth hB hz1 hk1 hS0 => ?_)
  obtain ⟨hP, hD⟩ := wj_r hP hD hk1 hFm (cPost_P ht hB) hB.2.2
  have hth : th = m_mth := hth
  have hfin : (m_mth = k ∧ (k = 0 → ov' 0 = r.toInt64)) ∧ (u_ds ≠ 0 → DInv n ti u_dnu u_dde u_dbo u_dln u_dld u_rma) := by
    rcases hw with ⟨hk, r9, ⟨⟨ho, hv⟩, hi⟩, hov⟩ | ⟨hk, ho, hu⟩
    · rcases hq with ⟨-, hv2, hm0⟩ | ⟨ho2, -⟩
      · exact ⟨⟨by rw [hm0, hk], fun _ => by rw [hov, hv, hv2]⟩, hi⟩
      · exact absurd ho ho2
    · rcases hq with ⟨ho2, -⟩ | ⟨-, hm1⟩
      · exact absurd ho2 ho
      · simp only [Prod.mk.injEq] at hu
        obtain ⟨rfl, rfl, rfl, rfl, rfl, rfl, rfl, rfl, rfl, rfl, rfl, rfl⟩ := hu
        exact ⟨⟨by rw [hm1, hk], fun h0 => absurd (hk.symm.trans h0) (by decide)⟩, hDv⟩
  refine lv_iload hx hb dL_law_602 (lv_at hl 1 rfl) ?_
  refine lv_icmp_eq (tgt := 609) hx hb dL_law_604 (by decide) (fun _ => ?_) (fun h9 => absurd (hth.trans hfin.1.1) h9)
  refine lv_iload hx hb dL_law_609 (lv_at hl 1 rfl) ?_
  have hend : W p l e room_1 s m args below meth c H locs (cells + 2 + 0 + 0) (slots + 12 + 0 + 0) Z (F0 m 626 ls []) := by
    refine lv_goto (tgt := 1049) hx hb dL_law_626 (by decide) ?_
    refine W.widen (show cells + 2 + 0 + 0 ≤ cells + 3 by omega) (show slots + 12 + 0 + 0 ≤ slots + 18 by omega) (hnext n ti (g) v_ss (u_ds) v_oma v_obr v_obj v_obo v_obm v_plo v_pch v_pbe v_pbl (u_dnu) (u_dde) (u_dbo) (u_dln) (u_dld) (u_tba) (u_tal) (u_tro) (u_tsc) (u_tcl) (u_rma) ov' w_mow (m_mta) (m_mba) (m_mib) (m_mdi) (m_mab) (m_mbe) w_mpl w_mbs w_mro w_mlo (m_mth) H locs ls ⟨hG, hpo, hS, hfin.2, hpm⟩ ⟨hP, hD, hS0⟩ (lv_sub hl [2, 3, 4, 5, 6] rfl))
  refine lv_if_ne (tgt := 626) hx hb dL_law_611 (by decide) (fun _ => hend) (fun hk0 => ?_)
  refine lv_aload_n hx hb dL_law_614 rfl (lv_at hl 5 rfl) ?_
  refine lv_iconst (v := (0 : Int32)) hx hb dL_law_615 (by decide) ?_
  refine va_lald hx hb hK hP 28 1 rfl rfl in01 dL_law_616 ?_
  refine lv_iload hx hb dL_law_617 (lv_at hl 0 rfl) ?_
  have hov0 : ov' (0 : Int32).toNatClampNeg = ov' 0 := congrArg ov' (by decide)
  refine lv_i2l (v := r.toInt64) hx hb dL_law_619 rfl ?_
  exact lq_eq (tgt := 626) hx hb dL_law_620 dL_law_621 (by decide) (fun _ => hend) (fun h9 => absurd (hov0.trans (hfin.1.2 hk0)) h9)
set_option maxHeartbeats 4000000 in
set_option maxRecDepth 100000 in
theorem law_11 (C0 : cxLaw p s m args meth c dC dI cy A b L xs) (hst : l.stackTraces = false)
    {n : Nat} {ti : Nat → Int32} {g : Nat → Nat} {v_ss : Int32} {v_ds : Int32} {v_oma : Nat → Int32} {v_obr : Int32} {v_obj : Int32} {v_obo : Int32} {v_obm : Int32} {v_plo : Nat → Int32} {v_pch : Nat → Int32} {v_pbe : Nat → Int32} {v_pbl : Int32} {v_dnu : Nat → Int32} {v_dde : Nat → Int32} {v_dbo : Int32} {v_dln : Int32} {v_dld : Int32} {v_tba : Nat → Int32} {v_tal : Nat → Int32} {v_tro : Int32} {v_tsc : Int64} {v_tcl : Nat → Nat → Int64} {v_rma : Nat → Int32} {ov : Nat → Int64} {w_mow : Nat → Int32} {w_mta : Nat → Int64} {w_mba : Nat → Int32} {w_mib : Nat → Int32} {w_mdi : Int64} {w_mab : Nat → Int64} {w_mbe : Nat → Int64} {w_mpl : Nat → Int32} {w_mbs : Nat → Int32} {w_mro : Nat → Int32} {w_mlo : Nat → Int32} {w_mth : Int32} {H : Heap} {locs : List Loc} {ls : Array Slot} {i : Int32} {cells slots : Nat} (hIV : IV n ti g v_oma v_ss v_pbl v_pbe v_ds v_dnu v_dde v_dbo v_dln v_dld v_rma w_mow) (hSt : stC dC dI A s ((wC ad cy v_ss v_ds ti (nI n) v_oma v_obr v_obj v_obo v_obm v_plo v_pch v_pbe v_pbl v_dnu v_dde v_dbo v_dln v_dld v_tba v_tal v_tro v_tsc v_tcl v_rma ++ oW ao cy ov) ++ wM am cy ti w_mow (nI n) w_mta w_mba w_mib w_mdi w_mab w_mbe w_mpl w_mbs w_mro w_mlo w_mth) H locs) (hl : lv_has ls 9 [(0, .ref b), (1, .ref (ad 0)), (2, .ref (am 0)), (3, .ref ao), (4, .int i)]) (hi1 : vp_in (i + 1) L) (hi2 : vp_in (i + 2) L) (hi3 : vp_in (i + 3) L) (hce : cells + 3 ≤ 601024) (hsl : slots + 18 ≤ 7293034)
    (hnext : ∀ (n : Nat) (ti : Nat → Int32) (g : Nat → Nat) (v_ss : Int32) (v_ds : Int32) (v_oma : Nat → Int32) (v_obr : Int32) (v_obj : Int32) (v_obo : Int32) (v_obm : Int32) (v_plo : Nat → Int32) (v_pch : Nat → Int32) (v_pbe : Nat → Int32) (v_pbl : Int32) (v_dnu : Nat → Int32) (v_dde : Nat → Int32) (v_dbo : Int32) (v_dln : Int32) (v_dld : Int32) (v_tba : Nat → Int32) (v_tal : Nat → Int32) (v_tro : Int32) (v_tsc : Int64) (v_tcl : Nat → Nat → Int64) (v_rma : Nat → Int32) (ov : Nat → Int64) (w_mow : Nat → Int32) (w_mta : Nat → Int64) (w_mba : Nat → Int32) (w_mib : Nat → Int32) (w_mdi : Int64) (w_mab : Nat → Int64) (w_mbe : Nat → Int64) (w_mpl : Nat → Int32) (w_mbs : Nat → Int32) (w_mro : Nat → Int32) (w_mlo : Nat → Int32) (w_mth : Int32) (H : Heap) (locs : List Loc) (ls : Array Slot), IV n ti g v_oma v_ss v_pbl v_pbe v_ds v_dnu v_dde v_dbo v_dln v_dld v_rma w_mow → stC dC dI A s ((wC ad cy v_ss v_ds ti (nI n) v_oma v_obr v_obj v_obo v_obm v_plo v_pch v_pbe v_pbl v_dnu v_dde v_dbo v_dln v_dld v_tba v_tal v_tro v_tsc v_tcl v_rma ++ oW ao cy ov) ++ wM am cy ti w_mow (nI n) w_mta w_mba w_mib w_mdi w_mab w_mbe w_mpl w_mbs w_mro w_mlo w_mth) H locs → lv_has ls 9 [(0, .ref b), (1, .ref (ad 0)), (2, .ref (am 0)), (3, .ref ao), (4, .int i)] → W p l e room_1 s m args below meth c H locs (cells + 3) (slots + 18) Z (F0 m 1049 ls [])) : W p l e room_1 s m args below meth c H locs cells slots Z (F0 m 629 ls []) := by
  obtain ⟨hx, hb, hml, hr, hown, hts, hlocks, hK, hA, hN, hXw, hXs, hX, hbl, hbA⟩ := id C0
  obtain ⟨hG, hpo, hS, hDv, hpm⟩ := id hIV
  have hn := hG.1.1
  have hN6 : 600000 ≤ 2000000000 := Nat.le_of_ble_eq_true rfl
  have hN100 : 100 ≤ 2000000000 := Nat.le_of_ble_eq_true rfl
  have hN100M := hN100
  have hN2 : 2000000000 ≤ 2000000000 := Nat.le_refl _
  have hRc : 601024 ≤ room_1.cells := Nat.le_refl _
  have hRs : 7293034 ≤ room_1.slots := Nat.le_refl _
  obtain ⟨x1, ex1⟩ : ∃ y : Int32, y = xs (i + (1 : Int32)).toNatClampNeg := ⟨_, rfl⟩
  obtain ⟨hP, hD, hS0⟩ := hSt
  refine lv_aload_n hx hb dL_law_629 rfl (lv_at hl 1 rfl) ?_
  refine lv_aload_n hx hb dL_law_630 rfl (lv_at hl 0 rfl) ?_
  refine lv_iload hx hb dL_law_631 (lv_at hl 4 rfl) ?_
  refine lv_iconst (v := (1 : Int32)) hx hb dL_law_633 (by decide) ?_
  refine lv_iadd hx hb dL_law_634 ?_
  refine va_sld hx hb hX hbl hbA hS0 hi1 dL_law_635 ?_
  rw [← ex1]
  refine lv_aload_n hx hb dL_law_636 rfl (lv_at hl 3 rfl) ?_
  obtain ⟨hPa, -⟩ := wp_app.mp hP
  obtain ⟨hDa, -, -⟩ := wd_app.mp hD
  have hFa := va_freeSame hDa hS0 hA
  refine va_calli (vx_runSW (As := [.ref (ad 0), .int x1, .ref ao]) (rest := []) ⟨hx, hb, hml, hown, hts⟩ (c_L_isDivided l dC dI cy ad H.size v_ss v_ds ti (nI n) v_oma v_obr v_obj v_obo v_obm v_plo v_pch v_pbe v_pbl v_dnu v_dde v_dbo v_dln v_dld v_tba v_tal v_tro v_tsc v_tcl v_rma x1 2000000000 _ ao ov (¬ jOK n x1) hst (s_isDivided (N := 2000000000) (x1 := x1) (Q := (fun (r : Int32) (ds : Int32) (dnu : Nat → Int32) (dde : Nat → Int32) (dbo : Int32) (dln : Int32) (dld : Int32) (tba : Nat → Int32) (tal : Nat → Int32) (tro : Int32) (tsc : Int64) (tcl : Nat → Nat → Int64) (rma : Nat → Int32) => (jOK n x1 ∧ r = (if wmN (sH n ti).1 (sH n ti).2 (x1).toNatClampNeg = 3 then 1 else 0)) ∧ (ds ≠ 0 → DInv n ti dnu dde dbo dln dld rma))) (QX := (fun E => (E = "java/lang/IndexOutOfBoundsException" ∧ ¬ jOK n x1))) hN6 hG hDv (fun o1 _ _ _ _ _ _ _ _ _ _ _ _ h => ⟨⟨o1, rfl⟩, (fun _ => h)⟩) (fun o => ⟨rfl, o⟩))) (vx_cwSW 3 hts gL_law_L_isDivided rfl rfl rfl (by decide +kernel) ⟨Nat.le_of_ble_eq_true rfl, Nat.le_of_ble_eq_true rfl⟩) ⟨cPreX_blind, fun U hU hW => ⟨rfl, cPreX_at hPa hK hDa hN hU hW hXw hXs hS0 hFa⟩⟩ rfl rfl hl.1 rfl (lv_room (Nat.le_of_ble_eq_true rfl)) dL_law_637 ⟨Nat.le_trans (show cells + 1 ≤ 601024 by omega) hRc, Nat.le_trans (show slots + 6 ≤ 7293034 by omega) hRs⟩) hS0 (fun q _ h => hFa q h) hFa (fun k u t H locs ht hvm hw hB hz1 hk1 hS0 => ?_)
  obtain ⟨hP, hD⟩ := wj_l hP hD hk1 hFa (cPost_P ht hB) hB.2.2
  obtain ⟨u, ov'⟩ := u
  try dsimp only at hw hP hD
  refine lv_istore (lv' := [(5, .int k), (0, .ref b), (1, .ref (ad 0)), (2, .ref (am 0)), (3, .ref ao), (4, .int i)]) hx hb dL_law_640 hl (by decide) rfl (fun ls hl => ?_)
  refine lv_aload_n hx hb dL_law_642 rfl (lv_at hl 3 rfl) ?_
  refine lv_aload_n hx hb dL_law_643 rfl (lv_at hl 1 rfl) ?_
  refine lv_iload hx hb dL_law_644 (lv_at hl 5 rfl) ?_
  refine lv_iconst (v := (1 : Int32)) hx hb dL_law_646 (by decide) ?_
  refine lv_iadd hx hb dL_law_647 ?_
  refine va_sld hx hb hX hbl hbA hS0 hi1 dL_law_648 ?_
  rw [← ex1]
  obtain ⟨-, hPm⟩ := wp_app.mp hP
  obtain ⟨-, hDm, -⟩ := wd_app.mp hD
  have hFm := va_freeSame hDm hS0 hA
  refine va_calli (va_runV (As := [.int x1]) (rest := []) ⟨hx, hb, hml, hown, hts⟩ (c_X7_isDivided l dC dI cy am H.size ti w_mow (nI n) w_mta w_mba w_mib w_mdi w_mab w_mbe w_mpl w_mbs w_mro w_mlo w_mth x1 2000000000 _ (t_isDivided (N := 2000000000) (x1 := x1) (Q := (fun (r : Int32) (mta : Nat → Int64) (mba : Nat → Int32) (mib : Nat → Int32) (mdi : Int64) (mab : Nat → Int64) (mbe : Nat → Int64) (mth : Int32) => (jOK n x1 ∧ r = (if wmN (sH n ti).1 (sH n ti).2 (x1).toNatClampNeg = 3 then 1 else 0) ∧ mth = 0) ∨ (¬ jOK n x1 ∧ mth = 1))) hN2 hG (fun o1 _ _ _ _ _ _ => Or.inl ⟨o1, rfl, rfl⟩) (fun o => Or.inr ⟨o, rfl⟩))) (cwV 1 hts gL_law_X7_isDivided rfl rfl rfl (by decide +kernel) ⟨Nat.le_of_ble_eq_true rfl, Nat.le_of_ble_eq_true rfl⟩) ⟨cPre_blind, va_recv hK hPm (ci := 7) (q0 := 0) rfl rfl, fun U hU hW => ⟨rfl, cPre_at hPm hK hDm hN hU hW⟩⟩ rfl rfl hl.1 rfl (lv_room (Nat.le_of_ble_eq_true rfl)) dL_law_649 ⟨Nat.le_trans (show cells + 1 + 0 ≤ 601024 by omega) hRc, Nat.le_trans (show slots + 6 + 0 ≤ 7293034 by omega) hRs⟩) hS0 (fun q _ h => hFm q h) hFm (fun r u2 t H locs ht hvm hq hB hz1 hk1 hS0 => ?_)
  obtain ⟨hP, hD⟩ := wj_r hP hD hk1 hFm (cPost_P ht hB) hB.2.2
  have hq := hq.1
  obtain ⟨u_ds, u_dnu, u_dde, u_dbo, u_dln, u_dld, u_tba, u_tal, u_tro, u_tsc, u_tcl, u_rma⟩ := u
  obtain ⟨m_mta, m_mba, m_mib, m_mdi, m_mab, m_mbe, m_mth⟩ := u2
  try dsimp only at hw hq hP hD
  refine lv_istore (lv' := [(6, .int r), (5, .int k), (0, .ref b), (1, .ref (ad 0)), (2, .ref (am 0)), (3, .ref ao), (4, .int i)]) hx hb dL_law_652 hl (by decide) rfl (fun ls hl => ?_)
  refine lv_aload_n hx hb dL_law_654 rfl (lv_at hl 4 rfl) ?_
  obtain ⟨-, hPm⟩ := wp_app.mp hP
  obtain ⟨-, hDm, -⟩ := wd_app.mp hD
  have hFm := va_freeSame hDm hS0 hA
  refine va_calli (va_runV (As := []) (rest := []) ⟨hx, hb, hml, hown, hts⟩ (c_X7_thrown l dC dI cy am H.size ti w_mow (nI n) m_mta m_mba m_mib m_mdi m_mab m_mbe w_mpl w_mbs w_mro w_mlo m_mth 2000000000 (fun z => z = m_mth) rfl) (cwV 0 hts gL_law_X7_thrown rfl rfl rfl (by decide +kernel) ⟨Nat.le_of_ble_eq_true rfl, Nat.le_of_ble_eq_true rfl⟩) ⟨cPre_blind, va_recv hK hPm (ci := 7) (q0 := 0) rfl rfl, fun U hU hW => ⟨rfl, cPre_at hPm hK hDm hN hU hW⟩⟩ rfl rfl hl.1 rfl (lv_room (Nat.le_of_ble_eq_true rfl)) dL_law_655 ⟨Nat.le_trans (show cells + 1 + 0 + 0 ≤ 601024 by omega) hRc, Nat.le_trans (show slots + 6 + 0 + 0 ≤ 7293034 by omega) hRs⟩) hS0 (fun q _ h => hFm q h) hFm (fun th u3 t H locs ht hvm hth hB hz1 hk1 hS0 => ?_)
  obtain ⟨hP, hD⟩ := wj_r hP hD hk1 hFm (cPost_P ht hB) hB.2.2
  have hth : th = m_mth := hth
  have hfin : (m_mth = k ∧ (k = 0 → ov' 0 = (if r = 0 then 0 else 1))) ∧ (u_ds ≠ 0 → DInv n ti u_dnu u_dde u_dbo u_dln u_dld u_rma) := by
    rcases hw with ⟨hk, r9, ⟨⟨ho, hv⟩, hi⟩, hov⟩ | ⟨hk, ho, hu⟩
    · rcases hq with ⟨-, hv2, hm0⟩ | ⟨ho2, -⟩
      · exact ⟨⟨by rw [hm0, hk], fun _ => by rw [hov, hv, hv2]⟩, hi⟩
      · exact absurd ho ho2
    · rcases hq with ⟨ho2, -⟩ | ⟨-, hm1⟩
      · exact absurd ho2 ho
      · simp only [Prod.mk.injEq] at hu
        obtain ⟨rfl, rfl, rfl, rfl, rfl, rfl, rfl, rfl, rfl, rfl, rfl, rfl⟩ := hu
        exact ⟨⟨by rw [hm1, hk], fun h0 => absurd (hk.symm.trans h0) (by decide)⟩, hDv⟩
  refine lv_iload hx hb dL_law_658 (lv_at hl 1 rfl) ?_
  refine lv_icmp_eq (tgt := 665) hx hb dL_law_660 (by decide) (fun _ => ?_) (fun h9 => absurd (hth.trans hfin.1.1) h9)
  refine lv_iload hx hb dL_law_665 (lv_at hl 1 rfl) ?_
  have hend : W p l e room_1 s m args below meth c H locs (cells + 1 + 0 + 0) (slots + 6 + 0 + 0) Z (F0 m 689 ls []) := by
    refine lv_goto (tgt := 1049) hx hb dL_law_689 (by decide) ?_
    refine W.widen (show cells + 1 + 0 + 0 ≤ cells + 3 by omega) (show slots + 6 + 0 + 0 ≤ slots + 18 by omega) (hnext n ti (g) v_ss (u_ds) v_oma v_obr v_obj v_obo v_obm v_plo v_pch v_pbe v_pbl (u_dnu) (u_dde) (u_dbo) (u_dln) (u_dld) (u_tba) (u_tal) (u_tro) (u_tsc) (u_tcl) (u_rma) ov' w_mow (m_mta) (m_mba) (m_mib) (m_mdi) (m_mab) (m_mbe) w_mpl w_mbs w_mro w_mlo (m_mth) H locs ls ⟨hG, hpo, hS, hfin.2, hpm⟩ ⟨hP, hD, hS0⟩ (lv_sub hl [2, 3, 4, 5, 6] rfl))
  refine lv_if_ne (tgt := 689) hx hb dL_law_667 (by decide) (fun _ => hend) (fun hk0 => ?_)
  refine lv_aload_n hx hb dL_law_670 rfl (lv_at hl 5 rfl) ?_
  refine lv_iconst (v := (0 : Int32)) hx hb dL_law_671 (by decide) ?_
  refine va_lald hx hb hK hP 28 1 rfl rfl in01 dL_law_672 ?_
  refine lv_iload hx hb dL_law_673 (lv_at hl 0 rfl) ?_
  have hov0 : ov' (0 : Int32).toNatClampNeg = ov' 0 := congrArg ov' (by decide)
  refine lv_if_eq (tgt := 682) hx hb dL_law_675 (by decide) (fun r0 => ?_) (fun r0 => ?_)
  · refine lv_lconst (v := 0) hx hb dL_law_682 (by decide) ?_
    exact lq_eq (tgt := 689) hx hb dL_law_683 dL_law_684 (by decide) (fun _ => hend) (fun h9 => absurd ((hov0.trans (hfin.1.2 hk0)).trans (if_pos r0)) h9)
  · refine lv_lconst (v := 1) hx hb dL_law_678 (by decide) ?_
    refine lv_goto (tgt := 683) hx hb dL_law_679 (by decide) ?_
    exact lq_eq (tgt := 689) hx hb dL_law_683 dL_law_684 (by decide) (fun _ => hend) (fun h9 => absurd ((hov0.trans (hfin.1.2 hk0)).trans (if_neg r0)) h9)
set_option maxHeartbeats 4000000 in
set_option maxRecDepth 100000 in
theorem law_12 (C0 : cxLaw p s m args meth c dC dI cy A b L xs) (hst : l.stackTraces = false)
    {n : Nat} {ti : Nat → Int32} {g : Nat → Nat} {v_ss : Int32} {v_ds : Int32} {v_oma : Nat → Int32} {v_obr : Int32} {v_obj : Int32} {v_obo : Int32} {v_obm : Int32} {v_plo : Nat → Int32} {v_pch : Nat → Int32} {v_pbe : Nat → Int32} {v_pbl : Int32} {v_dnu : Nat → Int32} {v_dde : Nat → Int32} {v_dbo : Int32} {v_dln : Int32} {v_dld : Int32} {v_tba : Nat → Int32} {v_tal : Nat → Int32} {v_tro : Int32} {v_tsc : Int64} {v_tcl : Nat → Nat → Int64} {v_rma : Nat → Int32} {ov : Nat → Int64} {w_mow : Nat → Int32} {w_mta : Nat → Int64} {w_mba : Nat → Int32} {w_mib : Nat → Int32} {w_mdi : Int64} {w_mab : Nat → Int64} {w_mbe : Nat → Int64} {w_mpl : Nat → Int32} {w_mbs : Nat → Int32} {w_mro : Nat → Int32} {w_mlo : Nat → Int32} {w_mth : Int32} {H : Heap} {locs : List Loc} {ls : Array Slot} {i : Int32} {cells slots : Nat} (hIV : IV n ti g v_oma v_ss v_pbl v_pbe v_ds v_dnu v_dde v_dbo v_dln v_dld v_rma w_mow) (hSt : stC dC dI A s ((wC ad cy v_ss v_ds ti (nI n) v_oma v_obr v_obj v_obo v_obm v_plo v_pch v_pbe v_pbl v_dnu v_dde v_dbo v_dln v_dld v_tba v_tal v_tro v_tsc v_tcl v_rma ++ oW ao cy ov) ++ wM am cy ti w_mow (nI n) w_mta w_mba w_mib w_mdi w_mab w_mbe w_mpl w_mbs w_mro w_mlo w_mth) H locs) (hl : lv_has ls 9 [(0, .ref b), (1, .ref (ad 0)), (2, .ref (am 0)), (3, .ref ao), (4, .int i)]) (hi1 : vp_in (i + 1) L) (hi2 : vp_in (i + 2) L) (hi3 : vp_in (i + 3) L) (hce : cells + 3 ≤ 601024) (hsl : slots + 18 ≤ 7293034)
    (hnext : ∀ (n : Nat) (ti : Nat → Int32) (g : Nat → Nat) (v_ss : Int32) (v_ds : Int32) (v_oma : Nat → Int32) (v_obr : Int32) (v_obj : Int32) (v_obo : Int32) (v_obm : Int32) (v_plo : Nat → Int32) (v_pch : Nat → Int32) (v_pbe : Nat → Int32) (v_pbl : Int32) (v_dnu : Nat → Int32) (v_dde : Nat → Int32) (v_dbo : Int32) (v_dln : Int32) (v_dld : Int32) (v_tba : Nat → Int32) (v_tal : Nat → Int32) (v_tro : Int32) (v_tsc : Int64) (v_tcl : Nat → Nat → Int64) (v_rma : Nat → Int32) (ov : Nat → Int64) (w_mow : Nat → Int32) (w_mta : Nat → Int64) (w_mba : Nat → Int32) (w_mib : Nat → Int32) (w_mdi : Int64) (w_mab : Nat → Int64) (w_mbe : Nat → Int64) (w_mpl : Nat → Int32) (w_mbs : Nat → Int32) (w_mro : Nat → Int32) (w_mlo : Nat → Int32) (w_mth : Int32) (H : Heap) (locs : List Loc) (ls : Array Slot), IV n ti g v_oma v_ss v_pbl v_pbe v_ds v_dnu v_dde v_dbo v_dln v_dld v_rma w_mow → stC dC dI A s ((wC ad cy v_ss v_ds ti (nI n) v_oma v_obr v_obj v_obo v_obm v_plo v_pch v_pbe v_pbl v_dnu v_dde v_dbo v_dln v_dld v_tba v_tal v_tro v_tsc v_tcl v_rma ++ oW ao cy ov) ++ wM am cy ti w_mow (nI n) w_mta w_mba w_mib w_mdi w_mab w_mbe w_mpl w_mbs w_mro w_mlo w_mth) H locs → lv_has ls 9 [(0, .ref b), (1, .ref (ad 0)), (2, .ref (am 0)), (3, .ref ao), (4, .int i)] → W p l e room_1 s m args below meth c H locs (cells + 3) (slots + 18) Z (F0 m 1049 ls [])) : W p l e room_1 s m args below meth c H locs cells slots Z (F0 m 692 ls []) := by
  obtain ⟨hx, hb, hml, hr, hown, hts, hlocks, hK, hA, hN, hXw, hXs, hX, hbl, hbA⟩ := id C0
  obtain ⟨hG, hpo, hS, hDv, hpm⟩ := id hIV
  have hn := hG.1.1
  have hN6 : 600000 ≤ 2000000000 := Nat.le_of_ble_eq_true rfl
  have hN100 : 100 ≤ 2000000000 := Nat.le_of_ble_eq_true rfl
  have hN100M := hN100
  have hN2 : 2000000000 ≤ 2000000000 := Nat.le_refl _
  have hRc : 601024 ≤ room_1.cells := Nat.le_refl _
  have hRs : 7293034 ≤ room_1.slots := Nat.le_refl _
  obtain ⟨hP, hD, hS0⟩ := hSt
  refine lv_aload_n hx hb dL_law_692 rfl (lv_at hl 1 rfl) ?_
  have hP := wp_assoc.mp hP
  have hD := wd_assoc.mp hD
  obtain ⟨hPa, -⟩ := wp_app.mp hP
  obtain ⟨hDa, -, -⟩ := wd_app.mp hD
  have hFa := va_freeSame hDa hS0 hA
  refine va_calli (va_runV (As := []) (rest := []) ⟨hx, hb, hml, hown, hts⟩ (c_X6_leastNumerator l dC dI cy ad H.size v_ss v_ds ti (nI n) v_oma v_obr v_obj v_obo v_obm v_plo v_pch v_pbe v_pbl v_dnu v_dde v_dbo v_dln v_dld v_tba v_tal v_tro v_tsc v_tcl v_rma 2000000000 _ (s_leastNumerator (N := 2000000000) (Q := (fun (r : Int32) (ds : Int32) (dnu : Nat → Int32) (dde : Nat → Int32) (dbo : Int32) (dln : Int32) (dld : Int32) (tba : Nat → Int32) (tal : Nat → Int32) (tro : Int32) (tsc : Int64) (tcl : Nat → Nat → Int64) (rma : Nat → Int32) => r = fnum (lS n ti).1 (lS n ti).2 ∧ (ds ≠ 0 → DInv n ti dnu dde dbo dln dld rma))) hN6 hG hDv (fun _ _ _ _ _ _ _ _ _ _ _ _ h => ⟨rfl, (fun _ => h)⟩))) (cwV 0 hts gL_law_X6_leastNumerator rfl rfl rfl (by decide +kernel) ⟨Nat.le_of_ble_eq_true rfl, Nat.le_of_ble_eq_true rfl⟩) ⟨cPre_blind, va_recv hK hPa (ci := 6) (q0 := 0) rfl rfl, fun U hU hW => ⟨rfl, cPre_at hPa hK hDa hN hU hW⟩⟩ rfl rfl hl.1 rfl (lv_room (Nat.le_of_ble_eq_true rfl)) dL_law_693 ⟨Nat.le_trans (show cells + 0 ≤ 601024 by omega) hRc, Nat.le_trans (show slots + 0 ≤ 7293034 by omega) hRs⟩) hS0 (fun q _ h => hFa q h) hFa (fun k u t H locs ht hvm hw hB hz1 hk1 hS0 => ?_)
  obtain ⟨hP, hD⟩ := wj_l hP hD hk1 hFa (cPost_P ht hB) hB.2.2
  have hP := wp_assoc.mpr hP
  have hD := wd_assoc.mpr hD
  try dsimp only at hw hP hD
  refine lv_aload_n hx hb dL_law_696 rfl (lv_at hl 2 rfl) ?_
  obtain ⟨-, hPm⟩ := wp_app.mp hP
  obtain ⟨-, hDm, -⟩ := wd_app.mp hD
  have hFm := va_freeSame hDm hS0 hA
  refine va_calli (va_runV (As := []) (rest := [.int k]) ⟨hx, hb, hml, hown, hts⟩ (c_X7_leastNumerator l dC dI cy am H.size ti w_mow (nI n) w_mta w_mba w_mib w_mdi w_mab w_mbe w_mpl w_mbs w_mro w_mlo w_mth  2000000000 _ (t_leastNumerator (N := 2000000000) (Q := (fun (r : Int32) (mta : Nat → Int64) (mba : Nat → Int32) (mib : Nat → Int32) (mdi : Int64) (mth : Int32) => r = fnum (lS n ti).1 (lS n ti).2)) hN2 hG (fun _ _ _ _ => rfl))) (cwV 0 hts gL_law_X7_leastNumerator rfl rfl rfl (by decide +kernel) ⟨Nat.le_of_ble_eq_true rfl, Nat.le_of_ble_eq_true rfl⟩) ⟨cPre_blind, va_recv hK hPm (ci := 7) (q0 := 0) rfl rfl, fun U hU hW => ⟨rfl, cPre_at hPm hK hDm hN hU hW⟩⟩ rfl rfl hl.1 rfl (lv_room (Nat.le_of_ble_eq_true rfl)) dL_law_697 ⟨Nat.le_trans (show cells + 0 + 0 ≤ 601024 by omega) hRc, Nat.le_trans (show slots + 0 + 0 ≤ 7293034 by omega) hRs⟩) hS0 (fun q _ h => hFm q h) hFm (fun r u2 t H locs ht hvm hq hB hz1 hk1 hS0 => ?_)
  obtain ⟨hP, hD⟩ := wj_r hP hD hk1 hFm (cPost_P ht hB) hB.2.2
  obtain ⟨u_ds, u_dnu, u_dde, u_dbo, u_dln, u_dld, u_tba, u_tal, u_tro, u_tsc, u_tcl, u_rma⟩ := u
  obtain ⟨m_mta, m_mba, m_mib, m_mdi, m_mth⟩ := u2
  try dsimp only at hw hq hP hD
  exact lv_icmp_eq (tgt := 1049) hx hb dL_law_700 (by decide) (fun _ => W.widen (show cells + 0 + 0 ≤ cells + 3 by omega) (show slots + 0 + 0 ≤ slots + 18 by omega) (hnext n ti (g) v_ss (u_ds) v_oma v_obr v_obj v_obo v_obm v_plo v_pch v_pbe v_pbl (u_dnu) (u_dde) (u_dbo) (u_dln) (u_dld) (u_tba) (u_tal) (u_tro) (u_tsc) (u_tcl) (u_rma) ov w_mow (m_mta) (m_mba) (m_mib) (m_mdi) w_mab w_mbe w_mpl w_mbs w_mro w_mlo (m_mth) H locs ls ⟨hG, hpo, hS, hw.2, hpm⟩ ⟨hP, hD, hS0⟩ hl)) (fun h9 => absurd (hw.1.trans hq.symm) h9)
set_option maxHeartbeats 4000000 in
set_option maxRecDepth 100000 in
theorem law_13 (C0 : cxLaw p s m args meth c dC dI cy A b L xs) (hst : l.stackTraces = false)
    {n : Nat} {ti : Nat → Int32} {g : Nat → Nat} {v_ss : Int32} {v_ds : Int32} {v_oma : Nat → Int32} {v_obr : Int32} {v_obj : Int32} {v_obo : Int32} {v_obm : Int32} {v_plo : Nat → Int32} {v_pch : Nat → Int32} {v_pbe : Nat → Int32} {v_pbl : Int32} {v_dnu : Nat → Int32} {v_dde : Nat → Int32} {v_dbo : Int32} {v_dln : Int32} {v_dld : Int32} {v_tba : Nat → Int32} {v_tal : Nat → Int32} {v_tro : Int32} {v_tsc : Int64} {v_tcl : Nat → Nat → Int64} {v_rma : Nat → Int32} {ov : Nat → Int64} {w_mow : Nat → Int32} {w_mta : Nat → Int64} {w_mba : Nat → Int32} {w_mib : Nat → Int32} {w_mdi : Int64} {w_mab : Nat → Int64} {w_mbe : Nat → Int64} {w_mpl : Nat → Int32} {w_mbs : Nat → Int32} {w_mro : Nat → Int32} {w_mlo : Nat → Int32} {w_mth : Int32} {H : Heap} {locs : List Loc} {ls : Array Slot} {i : Int32} {cells slots : Nat} (hIV : IV n ti g v_oma v_ss v_pbl v_pbe v_ds v_dnu v_dde v_dbo v_dln v_dld v_rma w_mow) (hSt : stC dC dI A s ((wC ad cy v_ss v_ds ti (nI n) v_oma v_obr v_obj v_obo v_obm v_plo v_pch v_pbe v_pbl v_dnu v_dde v_dbo v_dln v_dld v_tba v_tal v_tro v_tsc v_tcl v_rma ++ oW ao cy ov) ++ wM am cy ti w_mow (nI n) w_mta w_mba w_mib w_mdi w_mab w_mbe w_mpl w_mbs w_mro w_mlo w_mth) H locs) (hl : lv_has ls 9 [(0, .ref b), (1, .ref (ad 0)), (2, .ref (am 0)), (3, .ref ao), (4, .int i)]) (hi1 : vp_in (i + 1) L) (hi2 : vp_in (i + 2) L) (hi3 : vp_in (i + 3) L) (hce : cells + 3 ≤ 601024) (hsl : slots + 18 ≤ 7293034)
    (hnext : ∀ (n : Nat) (ti : Nat → Int32) (g : Nat → Nat) (v_ss : Int32) (v_ds : Int32) (v_oma : Nat → Int32) (v_obr : Int32) (v_obj : Int32) (v_obo : Int32) (v_obm : Int32) (v_plo : Nat → Int32) (v_pch : Nat → Int32) (v_pbe : Nat → Int32) (v_pbl : Int32) (v_dnu : Nat → Int32) (v_dde : Nat → Int32) (v_dbo : Int32) (v_dln : Int32) (v_dld : Int32) (v_tba : Nat → Int32) (v_tal : Nat → Int32) (v_tro : Int32) (v_tsc : Int64) (v_tcl : Nat → Nat → Int64) (v_rma : Nat → Int32) (ov : Nat → Int64) (w_mow : Nat → Int32) (w_mta : Nat → Int64) (w_mba : Nat → Int32) (w_mib : Nat → Int32) (w_mdi : Int64) (w_mab : Nat → Int64) (w_mbe : Nat → Int64) (w_mpl : Nat → Int32) (w_mbs : Nat → Int32) (w_mro : Nat → Int32) (w_mlo : Nat → Int32) (w_mth : Int32) (H : Heap) (locs : List Loc) (ls : Array Slot), IV n ti g v_oma v_ss v_pbl v_pbe v_ds v_dnu v_dde v_dbo v_dln v_dld v_rma w_mow → stC dC dI A s ((wC ad cy v_ss v_ds ti (nI n) v_oma v_obr v_obj v_obo v_obm v_plo v_pch v_pbe v_pbl v_dnu v_dde v_dbo v_dln v_dld v_tba v_tal v_tro v_tsc v_tcl v_rma ++ oW ao cy ov) ++ wM am cy ti w_mow (nI n) w_mta w_mba w_mib w_mdi w_mab w_mbe w_mpl w_mbs w_mro w_mlo w_mth) H locs → lv_has ls 9 [(0, .ref b), (1, .ref (ad 0)), (2, .ref (am 0)), (3, .ref ao), (4, .int i)] → W p l e room_1 s m args below meth c H locs (cells + 3) (slots + 18) Z (F0 m 1049 ls [])) : W p l e room_1 s m args below meth c H locs cells slots Z (F0 m 705 ls []) := by
  obtain ⟨hx, hb, hml, hr, hown, hts, hlocks, hK, hA, hN, hXw, hXs, hX, hbl, hbA⟩ := id C0
  obtain ⟨hG, hpo, hS, hDv, hpm⟩ := id hIV
  have hn := hG.1.1
  have hN6 : 600000 ≤ 2000000000 := Nat.le_of_ble_eq_true rfl
  have hN100 : 100 ≤ 2000000000 := Nat.le_of_ble_eq_true rfl
  have hN100M := hN100
  have hN2 : 2000000000 ≤ 2000000000 := Nat.le_refl _
  have hRc : 601024 ≤ room_1.cells := Nat.le_refl _
  have hRs : 7293034 ≤ room_1.slots := Nat.le_refl _
  obtain ⟨hP, hD, hS0⟩ := hSt
  refine lv_aload_n hx hb dL_law_705 rfl (lv_at hl 1 rfl) ?_
  have hP := wp_assoc.mp hP
  have hD := wd_assoc.mp hD
  obtain ⟨hPa, -⟩ := wp_app.mp hP
  obtain ⟨hDa, -, -⟩ := wd_app.mp hD
  have hFa := va_freeSame hDa hS0 hA
  refine va_calli (va_runV (As := []) (rest := []) ⟨hx, hb, hml, hown, hts⟩ (c_X6_leastDenominator l dC dI cy ad H.size v_ss v_ds ti (nI n) v_oma v_obr v_obj v_obo v_obm v_plo v_pch v_pbe v_pbl v_dnu v_dde v_dbo v_dln v_dld v_tba v_tal v_tro v_tsc v_tcl v_rma 2000000000 _ (s_leastDenominator (N := 2000000000) (Q := (fun (r : Int32) (ds : Int32) (dnu : Nat → Int32) (dde : Nat → Int32) (dbo : Int32) (dln : Int32) (dld : Int32) (tba : Nat → Int32) (tal : Nat → Int32) (tro : Int32) (tsc : Int64) (tcl : Nat → Nat → Int64) (rma : Nat → Int32) => r = fden (lS n ti).1 (lS n ti).2 ∧ (ds ≠ 0 → DInv n ti dnu dde dbo dln dld rma))) hN6 hG hDv (fun _ _ _ _ _ _ _ _ _ _ _ _ h => ⟨rfl, (fun _ => h)⟩))) (cwV 0 hts gL_law_X6_leastDenominator rfl rfl rfl (by decide +kernel) ⟨Nat.le_of_ble_eq_true rfl, Nat.le_of_ble_eq_true rfl⟩) ⟨cPre_blind, va_recv hK hPa (ci := 6) (q0 := 0) rfl rfl, fun U hU hW => ⟨rfl, cPre_at hPa hK hDa hN hU hW⟩⟩ rfl rfl hl.1 rfl (lv_room (Nat.le_of_ble_eq_true rfl)) dL_law_706 ⟨Nat.le_trans (show cells + 0 ≤ 601024 by omega) hRc, Nat.le_trans (show slots + 0 ≤ 7293034 by omega) hRs⟩) hS0 (fun q _ h => hFa q h) hFa (fun k u t H locs ht hvm hw hB hz1 hk1 hS0 => ?_)
  obtain ⟨hP, hD⟩ := wj_l hP hD hk1 hFa (cPost_P ht hB) hB.2.2
  have hP := wp_assoc.mpr hP
  have hD := wd_assoc.mpr hD
  try dsimp only at hw hP hD
  refine lv_aload_n hx hb dL_law_709 rfl (lv_at hl 2 rfl) ?_
  obtain ⟨-, hPm⟩ := wp_app.mp hP
  obtain ⟨-, hDm, -⟩ := wd_app.mp hD
  have hFm := va_freeSame hDm hS0 hA
  refine va_calli (va_runV (As := []) (rest := [.int k]) ⟨hx, hb, hml, hown, hts⟩ (c_X7_leastDenominator l dC dI cy am H.size ti w_mow (nI n) w_mta w_mba w_mib w_mdi w_mab w_mbe w_mpl w_mbs w_mro w_mlo w_mth  2000000000 _ (t_leastDenominator (N := 2000000000) (Q := (fun (r : Int32) (mta : Nat → Int64) (mba : Nat → Int32) (mib : Nat → Int32) (mdi : Int64) (mth : Int32) => r = fden (lS n ti).1 (lS n ti).2)) hN2 hG (fun _ _ _ _ => rfl))) (cwV 0 hts gL_law_X7_leastDenominator rfl rfl rfl (by decide +kernel) ⟨Nat.le_of_ble_eq_true rfl, Nat.le_of_ble_eq_true rfl⟩) ⟨cPre_blind, va_recv hK hPm (ci := 7) (q0 := 0) rfl rfl, fun U hU hW => ⟨rfl, cPre_at hPm hK hDm hN hU hW⟩⟩ rfl rfl hl.1 rfl (lv_room (Nat.le_of_ble_eq_true rfl)) dL_law_710 ⟨Nat.le_trans (show cells + 0 + 0 ≤ 601024 by omega) hRc, Nat.le_trans (show slots + 0 + 0 ≤ 7293034 by omega) hRs⟩) hS0 (fun q _ h => hFm q h) hFm (fun r u2 t H locs ht hvm hq hB hz1 hk1 hS0 => ?_)
  obtain ⟨hP, hD⟩ := wj_r hP hD hk1 hFm (cPost_P ht hB) hB.2.2
  obtain ⟨u_ds, u_dnu, u_dde, u_dbo, u_dln, u_dld, u_tba, u_tal, u_tro, u_tsc, u_tcl, u_rma⟩ := u
  obtain ⟨m_mta, m_mba, m_mib, m_mdi, m_mth⟩ := u2
  try dsimp only at hw hq hP hD
  exact lv_icmp_eq (tgt := 1049) hx hb dL_law_713 (by decide) (fun _ => W.widen (show cells + 0 + 0 ≤ cells + 3 by omega) (show slots + 0 + 0 ≤ slots + 18 by omega) (hnext n ti (g) v_ss (u_ds) v_oma v_obr v_obj v_obo v_obm v_plo v_pch v_pbe v_pbl (u_dnu) (u_dde) (u_dbo) (u_dln) (u_dld) (u_tba) (u_tal) (u_tro) (u_tsc) (u_tcl) (u_rma) ov w_mow (m_mta) (m_mba) (m_mib) (m_mdi) w_mab w_mbe w_mpl w_mbs w_mro w_mlo (m_mth) H locs ls ⟨hG, hpo, hS, hw.2, hpm⟩ ⟨hP, hD, hS0⟩ hl)) (fun h9 => absurd (hw.1.trans hq.symm) h9)
set_option maxHeartbeats 4000000 in
set_option maxRecDepth 100000 in
theorem law_14 (C0 : cxLaw p s m args meth c dC dI cy A b L xs) (hst : l.stackTraces = false)
    {n : Nat} {ti : Nat → Int32} {g : Nat → Nat} {v_ss : Int32} {v_ds : Int32} {v_oma : Nat → Int32} {v_obr : Int32} {v_obj : Int32} {v_obo : Int32} {v_obm : Int32} {v_plo : Nat → Int32} {v_pch : Nat → Int32} {v_pbe : Nat → Int32} {v_pbl : Int32} {v_dnu : Nat → Int32} {v_dde : Nat → Int32} {v_dbo : Int32} {v_dln : Int32} {v_dld : Int32} {v_tba : Nat → Int32} {v_tal : Nat → Int32} {v_tro : Int32} {v_tsc : Int64} {v_tcl : Nat → Nat → Int64} {v_rma : Nat → Int32} {ov : Nat → Int64} {w_mow : Nat → Int32} {w_mta : Nat → Int64} {w_mba : Nat → Int32} {w_mib : Nat → Int32} {w_mdi : Int64} {w_mab : Nat → Int64} {w_mbe : Nat → Int64} {w_mpl : Nat → Int32} {w_mbs : Nat → Int32} {w_mro : Nat → Int32} {w_mlo : Nat → Int32} {w_mth : Int32} {H : Heap} {locs : List Loc} {ls : Array Slot} {i : Int32} {cells slots : Nat} (hIV : IV n ti g v_oma v_ss v_pbl v_pbe v_ds v_dnu v_dde v_dbo v_dln v_dld v_rma w_mow) (hSt : stC dC dI A s ((wC ad cy v_ss v_ds ti (nI n) v_oma v_obr v_obj v_obo v_obm v_plo v_pch v_pbe v_pbl v_dnu v_dde v_dbo v_dln v_dld v_tba v_tal v_tro v_tsc v_tcl v_rma ++ oW ao cy ov) ++ wM am cy ti w_mow (nI n) w_mta w_mba w_mib w_mdi w_mab w_mbe w_mpl w_mbs w_mro w_mlo w_mth) H locs) (hl : lv_has ls 9 [(0, .ref b), (1, .ref (ad 0)), (2, .ref (am 0)), (3, .ref ao), (4, .int i)]) (hi1 : vp_in (i + 1) L) (hi2 : vp_in (i + 2) L) (hi3 : vp_in (i + 3) L) (hce : cells + 3 ≤ 601024) (hsl : slots + 18 ≤ 7293034)
    (hnext : ∀ (n : Nat) (ti : Nat → Int32) (g : Nat → Nat) (v_ss : Int32) (v_ds : Int32) (v_oma : Nat → Int32) (v_obr : Int32) (v_obj : Int32) (v_obo : Int32) (v_obm : Int32) (v_plo : Nat → Int32) (v_pch : Nat → Int32) (v_pbe : Nat → Int32) (v_pbl : Int32) (v_dnu : Nat → Int32) (v_dde : Nat → Int32) (v_dbo : Int32) (v_dln : Int32) (v_dld : Int32) (v_tba : Nat → Int32) (v_tal : Nat → Int32) (v_tro : Int32) (v_tsc : Int64) (v_tcl : Nat → Nat → Int64) (v_rma : Nat → Int32) (ov : Nat → Int64) (w_mow : Nat → Int32) (w_mta : Nat → Int64) (w_mba : Nat → Int32) (w_mib : Nat → Int32) (w_mdi : Int64) (w_mab : Nat → Int64) (w_mbe : Nat → Int64) (w_mpl : Nat → Int32) (w_mbs : Nat → Int32) (w_mro : Nat → Int32) (w_mlo : Nat → Int32) (w_mth : Int32) (H : Heap) (locs : List Loc) (ls : Array Slot), IV n ti g v_oma v_ss v_pbl v_pbe v_ds v_dnu v_dde v_dbo v_dln v_dld v_rma w_mow → stC dC dI A s ((wC ad cy v_ss v_ds ti (nI n) v_oma v_obr v_obj v_obo v_obm v_plo v_pch v_pbe v_pbl v_dnu v_dde v_dbo v_dln v_dld v_tba v_tal v_tro v_tsc v_tcl v_rma ++ oW ao cy ov) ++ wM am cy ti w_mow (nI n) w_mta w_mba w_mib w_mdi w_mab w_mbe w_mpl w_mbs w_mro w_mlo w_mth) H locs → lv_has ls 9 [(0, .ref b), (1, .ref (ad 0)), (2, .ref (am 0)), (3, .ref ao), (4, .int i)] → W p l e room_1 s m args below meth c H locs (cells + 3) (slots + 18) Z (F0 m 1049 ls [])) : W p l e room_1 s m args below meth c H locs cells slots Z (F0 m 718 ls []) := by
  obtain ⟨hx, hb, hml, hr, hown, hts, hlocks, hK, hA, hN, hXw, hXs, hX, hbl, hbA⟩ := id C0
  obtain ⟨hG, hpo, hS, hDv, hpm⟩ := id hIV
  have hn := hG.1.1
  have hN6 : 600000 ≤ 2000000000 := Nat.le_of_ble_eq_true rfl
  have hN100 : 100 ≤ 2000000000 := Nat.le_of_ble_eq_true rfl
  have hN100M := hN100
  have hN2 : 2000000000 ≤ 2000000000 := Nat.le_refl _
  have hRc : 601024 ≤ room_1.cells := Nat.le_refl _
  have hRs : 7293034 ≤ room_1.slots := Nat.le_refl _
  obtain ⟨x1, ex1⟩ : ∃ y : Int32, y = xs (i + (1 : Int32)).toNatClampNeg := ⟨_, rfl⟩
  obtain ⟨hP, hD, hS0⟩ := hSt
  refine lv_aload_n hx hb dL_law_718 rfl (lv_at hl 1 rfl) ?_
  refine lv_aload_n hx hb dL_law_719 rfl (lv_at hl 0 rfl) ?_
  refine lv_iload hx hb dL_law_720 (lv_at hl 4 rfl) ?_
  refine lv_iconst (v := (1 : Int32)) hx hb dL_law_722 (by decide) ?_
  refine lv_iadd hx hb dL_law_723 ?_
  refine va_sld hx hb hX hbl hbA hS0 hi1 dL_law_724 ?_
  rw [← ex1]
  refine lv_aload_n hx hb dL_law_725 rfl (lv_at hl 3 rfl) ?_
  obtain ⟨hPa, -⟩ := wp_app.mp hP
  obtain ⟨hDa, -, -⟩ := wd_app.mp hD
  have hFa := va_freeSame hDa hS0 hA
  refine va_calli (vx_runSW (As := [.ref (ad 0), .int x1, .ref ao]) (rest := []) ⟨hx, hb, hml, hown, hts⟩ (c_L_roundedMachine l dC dI cy ad H.size v_ss v_ds ti (nI n) v_oma v_obr v_obj v_obo v_obm v_plo v_pch v_pbe v_pbl v_dnu v_dde v_dbo v_dln v_dld v_tba v_tal v_tro v_tsc v_tcl v_rma x1 2000000000 _ ao ov (¬ jOK n x1) hst (s_roundedMachine (N := 2000000000) (x1 := x1) (Q := (fun (r : Int32) (ds : Int32) (dnu : Nat → Int32) (dde : Nat → Int32) (dbo : Int32) (dln : Int32) (dld : Int32) (tba : Nat → Int32) (tal : Nat → Int32) (tro : Int32) (tsc : Int64) (tcl : Nat → Nat → Int64) (rma : Nat → Int32) => (jOK n x1 ∧ r = nI (rD n ti (x1).toNatClampNeg)) ∧ (ds ≠ 0 → DInv n ti dnu dde dbo dln dld rma))) (QX := (fun E => (E = "java/lang/IndexOutOfBoundsException" ∧ ¬ jOK n x1))) hN6 hG hDv (fun o1 _ _ _ _ _ _ _ _ _ _ _ _ h => ⟨⟨o1, rfl⟩, (fun _ => h)⟩) (fun o => ⟨rfl, o⟩))) (vx_cwSW 3 hts gL_law_L_roundedMachine rfl rfl rfl (by decide +kernel) ⟨Nat.le_of_ble_eq_true rfl, Nat.le_of_ble_eq_true rfl⟩) ⟨cPreX_blind, fun U hU hW => ⟨rfl, cPreX_at hPa hK hDa hN hU hW hXw hXs hS0 hFa⟩⟩ rfl rfl hl.1 rfl (lv_room (Nat.le_of_ble_eq_true rfl)) dL_law_726 ⟨Nat.le_trans (show cells + 1 ≤ 601024 by omega) hRc, Nat.le_trans (show slots + 6 ≤ 7293034 by omega) hRs⟩) hS0 (fun q _ h => hFa q h) hFa (fun k u t H locs ht hvm hw hB hz1 hk1 hS0 => ?_)
  obtain ⟨hP, hD⟩ := wj_l hP hD hk1 hFa (cPost_P ht hB) hB.2.2
  obtain ⟨u, ov'⟩ := u
  try dsimp only at hw hP hD
  refine lv_istore (lv' := [(5, .int k), (0, .ref b), (1, .ref (ad 0)), (2, .ref (am 0)), (3, .ref ao), (4, .int i)]) hx hb dL_law_729 hl (by decide) rfl (fun ls hl => ?_)
  refine lv_aload_n hx hb dL_law_731 rfl (lv_at hl 3 rfl) ?_
  refine lv_aload_n hx hb dL_law_732 rfl (lv_at hl 1 rfl) ?_
  refine lv_iload hx hb dL_law_733 (lv_at hl 5 rfl) ?_
  refine lv_iconst (v := (1 : Int32)) hx hb dL_law_735 (by decide) ?_
  refine lv_iadd hx hb dL_law_736 ?_
  refine va_sld hx hb hX hbl hbA hS0 hi1 dL_law_737 ?_
  rw [← ex1]
  obtain ⟨-, hPm⟩ := wp_app.mp hP
  obtain ⟨-, hDm, -⟩ := wd_app.mp hD
  have hFm := va_freeSame hDm hS0 hA
  refine va_calli (va_runV (As := [.int x1]) (rest := []) ⟨hx, hb, hml, hown, hts⟩ (c_X7_roundedMachine l dC dI cy am H.size ti w_mow (nI n) w_mta w_mba w_mib w_mdi w_mab w_mbe w_mpl w_mbs w_mro w_mlo w_mth x1 2000000000 _ (t_roundedMachine (N := 2000000000) (x1 := x1) (Q := (fun (r : Int32) (mta : Nat → Int64) (mba : Nat → Int32) (mib : Nat → Int32) (mdi : Int64) (mab : Nat → Int64) (mbe : Nat → Int64) (mpl : Nat → Int32) (mro : Nat → Int32) (mth : Int32) => (jOK n x1 ∧ r = nI (rD n ti (x1).toNatClampNeg) ∧ mth = 0) ∨ (¬ jOK n x1 ∧ mth = 1))) hN2 hG (fun o1 _ _ _ _ _ _ _ _ => Or.inl ⟨o1, rfl, rfl⟩) (fun o => Or.inr ⟨o, rfl⟩))) (cwV 1 hts gL_law_X7_roundedMachine rfl rfl rfl (by decide +kernel) ⟨Nat.le_of_ble_eq_true rfl, Nat.le_of_ble_eq_true rfl⟩) ⟨cPre_blind, va_recv hK hPm (ci := 7) (q0 := 0) rfl rfl, fun U hU hW => ⟨rfl, cPre_at hPm hK hDm hN hU hW⟩⟩ rfl rfl hl.1 rfl (lv_room (Nat.le_of_ble_eq_true rfl)) dL_law_738 ⟨Nat.le_trans (show cells + 1 + 0 ≤ 601024 by omega) hRc, Nat.le_trans (show slots + 6 + 0 ≤ 7293034 by omega) hRs⟩) hS0 (fun q _ h => hFm q h) hFm (fun r u2 t H locs ht hvm hq hB hz1 hk1 hS0 => ?_)
  obtain ⟨hP, hD⟩ := wj_r hP hD hk1 hFm (cPost_P ht hB) hB.2.2
  obtain ⟨u_ds, u_dnu, u_dde, u_dbo, u_dln, u_dld, u_tba, u_tal, u_tro, u_tsc, u_tcl, u_rma⟩ := u
  obtain ⟨m_mta, m_mba, m_mib, m_mdi, m_mab, m_mbe, m_mpl, m_mro, m_mth⟩ := u2
  try dsimp only at hw hq hP hD
  refine lv_istore (lv' := [(6, .int r), (5, .int k), (0, .ref b), (1, .ref (ad 0)), (2, .ref (am 0)), (3, .ref ao), (4, .int i)]) hx hb dL_law_741 hl (by decide) rfl (fun ls hl => ?_)
  refine lv_aload_n hx hb dL_law_743 rfl (lv_at hl 4 rfl) ?_
  obtain ⟨-, hPm⟩ := wp_app.mp hP
  obtain ⟨-, hDm, -⟩ := wd_app.mp hD
  have hFm := va_freeSame hDm hS0 hA
  refine va_calli (va_runV (As := []) (rest := []) ⟨hx, hb, hml, hown, hts⟩ (c_X7_thrown l dC dI cy am H.size ti w_mow (nI n) m_mta m_mba m_mib m_mdi m_mab m_mbe m_mpl w_mbs m_mro w_mlo m_mth 2000000000 (fun z => z = m_mth) rfl) (cwV 0 hts gL_law_X7_thrown rfl rfl rfl (by decide +kernel) ⟨Nat.le_of_ble_eq_true rfl, Nat.le_of_ble_eq_true rfl⟩) ⟨cPre_blind, va_recv hK hPm (ci := 7) (q0 := 0) rfl rfl, fun U hU hW => ⟨rfl, cPre_at hPm hK hDm hN hU hW⟩⟩ rfl rfl hl.1 rfl (lv_room (Nat.le_of_ble_eq_true rfl)) dL_law_744 ⟨Nat.le_trans (show cells + 1 + 0 + 0 ≤ 601024 by omega) hRc, Nat.le_trans (show slots + 6 + 0 + 0 ≤ 7293034 by omega) hRs⟩) hS0 (fun q _ h => hFm q h) hFm (fun th u3 t H locs ht hvm hth hB hz1 hk1 hS0 => ?_)
  obtain ⟨hP, hD⟩ := wj_r hP hD hk1 hFm (cPost_P ht hB) hB.2.2
  have hth : th = m_mth := hth
  have hfin : (m_mth = k ∧ (k = 0 → ov' 0 = r.toInt64)) ∧ (u_ds ≠ 0 → DInv n ti u_dnu u_dde u_dbo u_dln u_dld u_rma) := by
    rcases hw with ⟨hk, r9, ⟨⟨ho, hv⟩, hi⟩, hov⟩ | ⟨hk, ho, hu⟩
    · rcases hq with ⟨-, hv2, hm0⟩ | ⟨ho2, -⟩
      · exact ⟨⟨by rw [hm0, hk], fun _ => by rw [hov, hv, hv2]⟩, hi⟩
      · exact absurd ho ho2
    · rcases hq with ⟨ho2, -⟩ | ⟨-, hm1⟩
      · exact absurd ho2 ho
      · simp only [Prod.mk.injEq] at hu
        obtain ⟨rfl, rfl, rfl, rfl, rfl, rfl, rfl, rfl, rfl, rfl, rfl, rfl⟩ := hu
        exact ⟨⟨by rw [hm1, hk], fun h0 => absurd (hk.symm.trans h0) (by decide)⟩, hDv⟩
  refine lv_iload hx hb dL_law_747 (lv_at hl 1 rfl) ?_
  refine lv_icmp_eq (tgt := 754) hx hb dL_law_749 (by decide) (fun _ => ?_) (fun h9 => absurd (hth.trans hfin.1.1) h9)
  refine lv_iload hx hb dL_law_754 (lv_at hl 1 rfl) ?_
  have hend : W p l e room_1 s m args below meth c H locs (cells + 1 + 0 + 0) (slots + 6 + 0 + 0) Z (F0 m 771 ls []) := by
    refine lv_goto (tgt := 1049) hx hb dL_law_771 (by decide) ?_
    refine W.widen (show cells + 1 + 0 + 0 ≤ cells + 3 by omega) (show slots + 6 + 0 + 0 ≤ slots + 18 by omega) (hnext n ti (g) v_ss (u_ds) v_oma v_obr v_obj v_obo v_obm v_plo v_pch v_pbe v_pbl (u_dnu) (u_dde) (u_dbo) (u_dln) (u_dld) (u_tba) (u_tal) (u_tro) (u_tsc) (u_tcl) (u_rma) ov' w_mow (m_mta) (m_mba) (m_mib) (m_mdi) (m_mab) (m_mbe) (m_mpl) w_mbs (m_mro) w_mlo (m_mth) H locs ls ⟨hG, hpo, hS, hfin.2, hpm⟩ ⟨hP, hD, hS0⟩ (lv_sub hl [2, 3, 4, 5, 6] rfl))
  refine lv_if_ne (tgt := 771) hx hb dL_law_756 (by decide) (fun _ => hend) (fun hk0 => ?_)
  refine lv_aload_n hx hb dL_law_759 rfl (lv_at hl 5 rfl) ?_
  refine lv_iconst (v := (0 : Int32)) hx hb dL_law_760 (by decide) ?_
  refine va_lald hx hb hK hP 28 1 rfl rfl in01 dL_law_761 ?_
  refine lv_iload hx hb dL_law_762 (lv_at hl 0 rfl) ?_
  have hov0 : ov' (0 : Int32).toNatClampNeg = ov' 0 := congrArg ov' (by decide)
  refine lv_i2l (v := r.toInt64) hx hb dL_law_764 rfl ?_
  exact lq_eq (tgt := 771) hx hb dL_law_765 dL_law_766 (by decide) (fun _ => hend) (fun h9 => absurd (hov0.trans (hfin.1.2 hk0)) h9)
set_option maxHeartbeats 4000000 in
set_option maxRecDepth 100000 in
theorem law_15 (C0 : cxLaw p s m args meth c dC dI cy A b L xs) (hst : l.stackTraces = false)
    {n : Nat} {ti : Nat → Int32} {g : Nat → Nat} {v_ss : Int32} {v_ds : Int32} {v_oma : Nat → Int32} {v_obr : Int32} {v_obj : Int32} {v_obo : Int32} {v_obm : Int32} {v_plo : Nat → Int32} {v_pch : Nat → Int32} {v_pbe : Nat → Int32} {v_pbl : Int32} {v_dnu : Nat → Int32} {v_dde : Nat → Int32} {v_dbo : Int32} {v_dln : Int32} {v_dld : Int32} {v_tba : Nat → Int32} {v_tal : Nat → Int32} {v_tro : Int32} {v_tsc : Int64} {v_tcl : Nat → Nat → Int64} {v_rma : Nat → Int32} {ov : Nat → Int64} {w_mow : Nat → Int32} {w_mta : Nat → Int64} {w_mba : Nat → Int32} {w_mib : Nat → Int32} {w_mdi : Int64} {w_mab : Nat → Int64} {w_mbe : Nat → Int64} {w_mpl : Nat → Int32} {w_mbs : Nat → Int32} {w_mro : Nat → Int32} {w_mlo : Nat → Int32} {w_mth : Int32} {H : Heap} {locs : List Loc} {ls : Array Slot} {i : Int32} {cells slots : Nat} (hIV : IV n ti g v_oma v_ss v_pbl v_pbe v_ds v_dnu v_dde v_dbo v_dln v_dld v_rma w_mow) (hSt : stC dC dI A s ((wC ad cy v_ss v_ds ti (nI n) v_oma v_obr v_obj v_obo v_obm v_plo v_pch v_pbe v_pbl v_dnu v_dde v_dbo v_dln v_dld v_tba v_tal v_tro v_tsc v_tcl v_rma ++ oW ao cy ov) ++ wM am cy ti w_mow (nI n) w_mta w_mba w_mib w_mdi w_mab w_mbe w_mpl w_mbs w_mro w_mlo w_mth) H locs) (hl : lv_has ls 9 [(0, .ref b), (1, .ref (ad 0)), (2, .ref (am 0)), (3, .ref ao), (4, .int i)]) (hi1 : vp_in (i + 1) L) (hi2 : vp_in (i + 2) L) (hi3 : vp_in (i + 3) L) (hce : cells + 3 ≤ 601024) (hsl : slots + 18 ≤ 7293034)
    (hnext : ∀ (n : Nat) (ti : Nat → Int32) (g : Nat → Nat) (v_ss : Int32) (v_ds : Int32) (v_oma : Nat → Int32) (v_obr : Int32) (v_obj : Int32) (v_obo : Int32) (v_obm : Int32) (v_plo : Nat → Int32) (v_pch : Nat → Int32) (v_pbe : Nat → Int32) (v_pbl : Int32) (v_dnu : Nat → Int32) (v_dde : Nat → Int32) (v_dbo : Int32) (v_dln : Int32) (v_dld : Int32) (v_tba : Nat → Int32) (v_tal : Nat → Int32) (v_tro : Int32) (v_tsc : Int64) (v_tcl : Nat → Nat → Int64) (v_rma : Nat → Int32) (ov : Nat → Int64) (w_mow : Nat → Int32) (w_mta : Nat → Int64) (w_mba : Nat → Int32) (w_mib : Nat → Int32) (w_mdi : Int64) (w_mab : Nat → Int64) (w_mbe : Nat → Int64) (w_mpl : Nat → Int32) (w_mbs : Nat → Int32) (w_mro : Nat → Int32) (w_mlo : Nat → Int32) (w_mth : Int32) (H : Heap) (locs : List Loc) (ls : Array Slot), IV n ti g v_oma v_ss v_pbl v_pbe v_ds v_dnu v_dde v_dbo v_dln v_dld v_rma w_mow → stC dC dI A s ((wC ad cy v_ss v_ds ti (nI n) v_oma v_obr v_obj v_obo v_obm v_plo v_pch v_pbe v_pbl v_dnu v_dde v_dbo v_dln v_dld v_tba v_tal v_tro v_tsc v_tcl v_rma ++ oW ao cy ov) ++ wM am cy ti w_mow (nI n) w_mta w_mba w_mib w_mdi w_mab w_mbe w_mpl w_mbs w_mro w_mlo w_mth) H locs → lv_has ls 9 [(0, .ref b), (1, .ref (ad 0)), (2, .ref (am 0)), (3, .ref ao), (4, .int i)] → W p l e room_1 s m args below meth c H locs (cells + 3) (slots + 18) Z (F0 m 1049 ls [])) : W p l e room_1 s m args below meth c H locs cells slots Z (F0 m 774 ls []) := by
  obtain ⟨hx, hb, hml, hr, hown, hts, hlocks, hK, hA, hN, hXw, hXs, hX, hbl, hbA⟩ := id C0
  obtain ⟨hG, hpo, hS, hDv, hpm⟩ := id hIV
  have hn := hG.1.1
  have hN6 : 600000 ≤ 2000000000 := Nat.le_of_ble_eq_true rfl
  have hN100 : 100 ≤ 2000000000 := Nat.le_of_ble_eq_true rfl
  have hN100M := hN100
  have hN2 : 2000000000 ≤ 2000000000 := Nat.le_refl _
  have hRc : 601024 ≤ room_1.cells := Nat.le_refl _
  have hRs : 7293034 ≤ room_1.slots := Nat.le_refl _
  obtain ⟨hP, hD, hS0⟩ := hSt
  refine lv_aload_n hx hb dL_law_774 rfl (lv_at hl 1 rfl) ?_
  have hP := wp_assoc.mp hP
  have hD := wd_assoc.mp hD
  obtain ⟨hPa, -⟩ := wp_app.mp hP
  obtain ⟨hDa, -, -⟩ := wd_app.mp hD
  have hFa := va_freeSame hDa hS0 hA
  refine va_calli (va_runV (As := []) (rest := []) ⟨hx, hb, hml, hown, hts⟩ (c_X6_roundedLength l dC dI cy ad H.size v_ss v_ds ti (nI n) v_oma v_obr v_obj v_obo v_obm v_plo v_pch v_pbe v_pbl v_dnu v_dde v_dbo v_dln v_dld v_tba v_tal v_tro v_tsc v_tcl v_rma 2000000000 _ (s_roundedLength (N := 2000000000) (Q := (fun (r : Int32) (ds : Int32) (dnu : Nat → Int32) (dde : Nat → Int32) (dbo : Int32) (dln : Int32) (dld : Int32) (tba : Nat → Int32) (tal : Nat → Int32) (tro : Int32) (tsc : Int64) (tcl : Nat → Nat → Int64) (rma : Nat → Int32) => r = nI (lenN n (tN ti) (rD n ti)) ∧ (ds ≠ 0 → DInv n ti dnu dde dbo dln dld rma))) hN6 hG hDv (fun _ _ _ _ _ _ _ _ _ _ _ _ h => ⟨rfl, (fun _ => h)⟩))) (cwV 0 hts gL_law_X6_roundedLength rfl rfl rfl (by decide +kernel) ⟨Nat.le_of_ble_eq_true rfl, Nat.le_of_ble_eq_true rfl⟩) ⟨cPre_blind, va_recv hK hPa (ci := 6) (q0 := 0) rfl rfl, fun U hU hW => ⟨rfl, cPre_at hPa hK hDa hN hU hW⟩⟩ rfl rfl hl.1 rfl (lv_room (Nat.le_of_ble_eq_true rfl)) dL_law_775 ⟨Nat.le_trans (show cells + 0 ≤ 601024 by omega) hRc, Nat.le_trans (show slots + 0 ≤ 7293034 by omega) hRs⟩) hS0 (fun q _ h => hFa q h) hFa (fun k u t H locs ht hvm hw hB hz1 hk1 hS0 => ?_)
  obtain ⟨hP, hD⟩ := wj_l hP hD hk1 hFa (cPost_P ht hB) hB.2.2
  have hP := wp_assoc.mpr hP
  have hD := wd_assoc.mpr hD
  try dsimp only at hw hP hD
  refine lv_aload_n hx hb dL_law_778 rfl (lv_at hl 2 rfl) ?_
  obtain ⟨-, hPm⟩ := wp_app.mp hP
  obtain ⟨-, hDm, -⟩ := wd_app.mp hD
  have hFm := va_freeSame hDm hS0 hA
  refine va_calli (va_runV (As := []) (rest := [.int k]) ⟨hx, hb, hml, hown, hts⟩ (c_X7_roundedLength l dC dI cy am H.size ti w_mow (nI n) w_mta w_mba w_mib w_mdi w_mab w_mbe w_mpl w_mbs w_mro w_mlo w_mth  2000000000 _ (t_roundedLength (N := 2000000000) (Q := (fun (r : Int32) (mta : Nat → Int64) (mba : Nat → Int32) (mib : Nat → Int32) (mdi : Int64) (mab : Nat → Int64) (mbe : Nat → Int64) (mpl : Nat → Int32) (mro : Nat → Int32) (mlo : Nat → Int32) (mth : Int32) => r = nI (lenN n (tN ti) (rD n ti)))) hN2 hG (fun _ _ _ _ _ _ _ _ _ => rfl))) (cwV 0 hts gL_law_X7_roundedLength rfl rfl rfl (by decide +kernel) ⟨Nat.le_of_ble_eq_true rfl, Nat.le_of_ble_eq_true rfl⟩) ⟨cPre_blind, va_recv hK hPm (ci := 7) (q0 := 0) rfl rfl, fun U hU hW => ⟨rfl, cPre_at hPm hK hDm hN hU hW⟩⟩ rfl rfl hl.1 rfl (lv_room (Nat.le_of_ble_eq_true rfl)) dL_law_779 ⟨Nat.le_trans (show cells + 0 + 0 ≤ 601024 by omega) hRc, Nat.le_trans (show slots + 0 + 0 ≤ 7293034 by omega) hRs⟩) hS0 (fun q _ h => hFm q h) hFm (fun r u2 t H locs ht hvm hq hB hz1 hk1 hS0 => ?_)
  obtain ⟨hP, hD⟩ := wj_r hP hD hk1 hFm (cPost_P ht hB) hB.2.2
  obtain ⟨u_ds, u_dnu, u_dde, u_dbo, u_dln, u_dld, u_tba, u_tal, u_tro, u_tsc, u_tcl, u_rma⟩ := u
  obtain ⟨m_mta, m_mba, m_mib, m_mdi, m_mab, m_mbe, m_mpl, m_mro, m_mlo, m_mth⟩ := u2
  try dsimp only at hw hq hP hD
  exact lv_icmp_eq (tgt := 1049) hx hb dL_law_782 (by decide) (fun _ => W.widen (show cells + 0 + 0 ≤ cells + 3 by omega) (show slots + 0 + 0 ≤ slots + 18 by omega) (hnext n ti (g) v_ss (u_ds) v_oma v_obr v_obj v_obo v_obm v_plo v_pch v_pbe v_pbl (u_dnu) (u_dde) (u_dbo) (u_dln) (u_dld) (u_tba) (u_tal) (u_tro) (u_tsc) (u_tcl) (u_rma) ov w_mow (m_mta) (m_mba) (m_mib) (m_mdi) (m_mab) (m_mbe) (m_mpl) w_mbs (m_mro) (m_mlo) (m_mth) H locs ls ⟨hG, hpo, hS, hw.2, hpm⟩ ⟨hP, hD, hS0⟩ hl)) (fun h9 => absurd (hw.1.trans hq.symm) h9)
end
