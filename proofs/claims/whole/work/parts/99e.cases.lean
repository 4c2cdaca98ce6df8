section
variable {p : Program} {l : Launch} {e : Env} {s : State} {m : MethodId} {args : Array Value} {below : List Frame} {meth : Method} {c : Code} {dC : Nat → ClassId} {dI : Nat → Nat → Nat} {cy : Nat → ClassId} {A : Nat → Prop} {b L : Nat} {xs : Nat → Int32} {ad am : Nat → Nat} {ao : Nat} {Z : State → Prop}
set_option maxHeartbeats 4000000 in
set_option maxRecDepth 100000 in
theorem law_17 (C0 : cxLaw p s m args meth c dC dI cy A b L xs) (hst : l.stackTraces = false)
    {n : Nat} {ti : Nat → Int32} {g : Nat → Nat} {v_ss : Int32} {v_ds : Int32} {v_oma : Nat → Int32} {v_obr : Int32} {v_obj : Int32} {v_obo : Int32} {v_obm : Int32} {v_plo : Nat → Int32} {v_pch : Nat → Int32} {v_pbe : Nat → Int32} {v_pbl : Int32} {v_dnu : Nat → Int32} {v_dde : Nat → Int32} {v_dbo : Int32} {v_dln : Int32} {v_dld : Int32} {v_tba : Nat → Int32} {v_tal : Nat → Int32} {v_tro : Int32} {v_tsc : Int64} {v_tcl : Nat → Nat → Int64} {v_rma : Nat → Int32} {ov : Nat → Int64} {w_mow : Nat → Int32} {w_mta : Nat → Int64} {w_mba : Nat → Int32} {w_mib : Nat → Int32} {w_mdi : Int64} {w_mab : Nat → Int64} {w_mbe : Nat → Int64} {w_mpl : Nat → Int32} {w_mbs : Nat → Int32} {w_mro : Nat → Int32} {w_mlo : Nat → Int32} {w_mth : Int32} {H : Heap} {locs : List Loc} {ls : Array Slot} {i : Int32} {cells slots : Nat} (hIV : IV n ti g v_oma v_ss v_pbl v_pbe v_ds v_dnu v_dde v_dbo v_dln v_dld v_rma w_mow) (hSt : stC dC dI A s ((wC ad cy v_ss v_ds ti (nI n) v_oma v_obr v_obj v_obo v_obm v_plo v_pch v_pbe v_pbl v_dnu v_dde v_dbo v_dln v_dld v_tba v_tal v_tro v_tsc v_tcl v_rma ++ oW ao cy ov) ++ wM am cy ti w_mow (nI n) w_mta w_mba w_mib w_mdi w_mab w_mbe w_mpl w_mbs w_mro w_mlo w_mth) H locs) (hl : lv_has ls 9 [(0, .ref b), (1, .ref (ad 0)), (2, .ref (am 0)), (3, .ref ao), (4, .int i)]) (hi1 : vp_in (i + 1) L) (hi2 : vp_in (i + 2) L) (hi3 : vp_in (i + 3) L) (hce : cells + 3 ≤ 601024) (hsl : slots + 18 ≤ 7293034)
    (hnext : ∀ (n : Nat) (ti : Nat → Int32) (g : Nat → Nat) (v_ss : Int32) (v_ds : Int32) (v_oma : Nat → Int32) (v_obr : Int32) (v_obj : Int32) (v_obo : Int32) (v_obm : Int32) (v_plo : Nat → Int32) (v_pch : Nat → Int32) (v_pbe : Nat → Int32) (v_pbl : Int32) (v_dnu : Nat → Int32) (v_dde : Nat → Int32) (v_dbo : Int32) (v_dln : Int32) (v_dld : Int32) (v_tba : Nat → Int32) (v_tal : Nat → Int32) (v_tro : Int32) (v_tsc : Int64) (v_tcl : Nat → Nat → Int64) (v_rma : Nat → Int32) (ov : Nat → Int64) (w_mow : Nat → Int32) (w_mta : Nat → Int64) (w_mba : Nat → Int32) (w_mib : Nat → Int32) (w_mdi : Int64) (w_mab : Nat → Int64) (w_mbe : Nat → Int64) (w_mpl : Nat → Int32) (w_mbs : Nat → Int32) (w_mro : Nat → Int32) (w_mlo : Nat → Int32) (w_mth : Int32) (H : Heap) (locs : List Loc) (ls : Array Slot), IV n ti g v_oma v_ss v_pbl v_pbe v_ds v_dnu v_dde v_dbo v_dln v_dld v_rma w_mow → stC dC dI A s ((wC ad cy v_ss v_ds ti (nI n) v_oma v_obr v_obj v_obo v_obm v_plo v_pch v_pbe v_pbl v_dnu v_dde v_dbo v_dln v_dld v_tba v_tal v_tro v_tsc v_tcl v_rma ++ oW ao cy ov) ++ wM am cy ti w_mow (nI n) w_mta w_mba w_mib w_mdi w_mab w_mbe w_mpl w_mbs w_mro w_mlo w_mth) H locs → lv_has ls 9 [(0, .ref b), (1, .ref (ad 0)), (2, .ref (am 0)), (3, .ref ao), (4, .int i)] → W p l e room_1 s m args below meth c H locs (cells + 3) (slots + 18) Z (F0 m 1049 ls [])) : W p l e room_1 s m args below meth c H locs cells slots Z (F0 m 830 ls []) := by
  obtain ⟨hx, hb, hml, hr, hown, hts, hlocks, hK, hA, hN, hXw, hXs, hX, hbl, hbA⟩ := id C0
  obtain ⟨hG, hpo, hS, hDv, hpm⟩ := id hIV
  have hn := hG.1.1
  have hN6 : 600000 ≤ 2000000000 := Nat.le_of_ble_eq_true rfl
  have hN100 : 100 ≤ 2000000000 := Nat.le_of_ble_eq_true rfl
  have hN100M := hN100
  have hN2 : 2000000000 ≤ 2000000000 := Nat.le_refl _
  have hRc : 601024 ≤ room_1.cells := Nat.le_refl _
  have hRs : 7293034 ≤ room_1.slots := Nat.le_refl _
  obtain ⟨x1, ex1⟩ : ∃ y : Int32, y = xs (i + (1 : Int32)).toNatClampNeg := ⟨_, rfl⟩
  obtain ⟨x2, ex2⟩ : ∃ y : Int32, y = xs (i + (2 : Int32)).toNatClampNeg := ⟨_, rfl⟩
  obtain ⟨hP, hD, hS0⟩ := hSt
  refine lv_aload_n hx hb dL_law_830 rfl (lv_at hl 1 rfl) ?_
  refine lv_aload_n hx hb dL_law_831 rfl (lv_at hl 0 rfl) ?_
  refine lv_iload hx hb dL_law_832 (lv_at hl 4 rfl) ?_
  refine lv_iconst (v := (1 : Int32)) hx hb dL_law_834 (by decide) ?_
  refine lv_iadd hx hb dL_law_835 ?_
  refine va_sld hx hb hX hbl hbA hS0 hi1 dL_law_836 ?_
  rw [← ex1]
  refine lv_aload_n hx hb dL_law_837 rfl (lv_at hl 0 rfl) ?_
  refine lv_iload hx hb dL_law_838 (lv_at hl 4 rfl) ?_
  refine lv_iconst (v := (2 : Int32)) hx hb dL_law_840 (by decide) ?_
  refine lv_iadd hx hb dL_law_841 ?_
  refine va_sld hx hb hX hbl hbA hS0 hi2 dL_law_842 ?_
  rw [← ex2]
  refine lv_aload_n hx hb dL_law_843 rfl (lv_at hl 3 rfl) ?_
  obtain ⟨hPa, -⟩ := wp_app.mp hP
  obtain ⟨hDa, -, -⟩ := wd_app.mp hD
  have hFa := va_freeSame hDa hS0 hA
  refine va_calli (vx_runSW (As := [.ref (ad 0), .int x1, .int x2, .ref ao]) (rest := []) ⟨hx, hb, hml, hown, hts⟩ (c_L_assign l dC dI cy ad H.size v_ss v_ds ti (nI n) v_oma v_obr v_obj v_obo v_obm v_plo v_pch v_pbe v_pbl v_dnu v_dde v_dbo v_dln v_dld v_tba v_tal v_tro v_tsc v_tcl v_rma x1 x2 2000000000 _ ao ov (¬ (jOK n x1 ∧ jOK 3 x2)) (((jOK n x1 ∧ jOK 3 x2) ∧ ti (3 * (x1).toNatClampNeg + (x2).toNatClampNeg) = 0)) hst (s_assign (N := 2000000000) (x1 := x1) (x2 := x2) (Q := (fun (r : Int32) (oma : Nat → Int32) => ((jOK n x1 ∧ jOK 3 x2) ∧ ti (3 * (x1).toNatClampNeg + (x2).toNatClampNeg) ≠ 0) ∧ r = nI (g (x1).toNatClampNeg) ∧ PL n oma (stp g (x1).toNatClampNeg (x2).toNatClampNeg))) (QX := (fun E => (E = "java/lang/IndexOutOfBoundsException" ∧ ¬ (jOK n x1 ∧ jOK 3 x2)) ∨ (E = "java/lang/IllegalStateException" ∧ ((jOK n x1 ∧ jOK 3 x2) ∧ ti (3 * (x1).toNatClampNeg + (x2).toNatClampNeg) = 0)))) hG hpo (fun o1 o2 h _ hp => ⟨⟨⟨o1, o2⟩, h⟩, rfl, hp⟩) (fun o1 o2 h => Or.inr ⟨rfl, ⟨o1, o2⟩, h⟩) (fun o => Or.inl ⟨rfl, o⟩))) (vx_cwSW 4 hts gL_law_L_assign rfl rfl rfl (by decide +kernel) ⟨Nat.le_of_ble_eq_true rfl, Nat.le_of_ble_eq_true rfl⟩) ⟨cPreX_blind, fun U hU hW => ⟨rfl, cPreX_at hPa hK hDa hN hU hW hXw hXs hS0 hFa⟩⟩ rfl rfl hl.1 rfl (lv_room (Nat.le_of_ble_eq_true rfl)) dL_law_844 ⟨Nat.le_trans (show cells + 3 ≤ 601024 by omega) hRc, Nat.le_trans (show slots + 18 ≤ 7293034 by omega) hRs⟩) hS0 (fun q _ h => hFa q h) hFa (fun k u t H locs ht hvm hw hB hz1 hk1 hS0 => ?_)
  obtain ⟨hP, hD⟩ := wj_l hP hD hk1 hFa (cPost_P ht hB) hB.2.2
  obtain ⟨u, ov'⟩ := u
  try dsimp only at hw hP hD
  refine lv_istore (lv' := [(5, .int k), (0, .ref b), (1, .ref (ad 0)), (2, .ref (am 0)), (3, .ref ao), (4, .int i)]) hx hb dL_law_847 hl (by decide) rfl (fun ls hl => ?_)
  refine lv_aload_n hx hb dL_law_849 rfl (lv_at hl 3 rfl) ?_
  refine lv_aload_n hx hb dL_law_850 rfl (lv_at hl 1 rfl) ?_
  refine lv_iload hx hb dL_law_851 (lv_at hl 5 rfl) ?_
  refine lv_iconst (v := (1 : Int32)) hx hb dL_law_853 (by decide) ?_
  refine lv_iadd hx hb dL_law_854 ?_
  refine va_sld hx hb hX hbl hbA hS0 hi1 dL_law_855 ?_
  rw [← ex1]
  refine lv_aload_n hx hb dL_law_856 rfl (lv_at hl 1 rfl) ?_
  refine lv_iload hx hb dL_law_857 (lv_at hl 5 rfl) ?_
  refine lv_iconst (v := (2 : Int32)) hx hb dL_law_859 (by decide) ?_
  refine lv_iadd hx hb dL_law_860 ?_
  refine va_sld hx hb hX hbl hbA hS0 hi2 dL_law_861 ?_
  rw [← ex2]
  obtain ⟨-, hPm⟩ := wp_app.mp hP
  obtain ⟨-, hDm, -⟩ := wd_app.mp hD
  have hFm := va_freeSame hDm hS0 hA
  refine va_calli (va_runV (As := [.int x1, .int x2]) (rest := []) ⟨hx, hb, hml, hown, hts⟩ (c_X7_assign l dC dI cy am H.size ti w_mow (nI n) w_mta w_mba w_mib w_mdi w_mab w_mbe w_mpl w_mbs w_mro w_mlo w_mth x1 x2 2000000000 _ (t_assign (N := 2000000000) (x1 := x1) (x2 := x2) (Q := (fun (r : Int32) (mow : Nat → Int32) (mth : Int32) => (((jOK n x1 ∧ jOK 3 x2) ∧ ti (3 * (x1).toNatClampNeg + (x2).toNatClampNeg) ≠ 0) ∧ r = nI (g (x1).toNatClampNeg) ∧ PL n mow (stp g (x1).toNatClampNeg (x2).toNatClampNeg) ∧ mth = 0) ∨ (¬ (jOK n x1 ∧ jOK 3 x2) ∧ w_mow = mow ∧ mth = 1) ∨ (((jOK n x1 ∧ jOK 3 x2) ∧ ti (3 * (x1).toNatClampNeg + (x2).toNatClampNeg) = 0) ∧ w_mow = mow ∧ mth = 2))) hG hpm (fun o1 o2 h _ hp => Or.inl ⟨⟨⟨o1, o2⟩, h⟩, rfl, hp, rfl⟩) (fun o1 o2 h => Or.inr (Or.inr ⟨⟨⟨o1, o2⟩, h⟩, rfl, rfl⟩)) (fun o => Or.inr (Or.inl ⟨o, rfl, rfl⟩)))) (cwV 2 hts gL_law_X7_assign rfl rfl rfl (by decide +kernel) ⟨Nat.le_of_ble_eq_true rfl, Nat.le_of_ble_eq_true rfl⟩) ⟨cPre_blind, va_recv hK hPm (ci := 7) (q0 := 0) rfl rfl, fun U hU hW => ⟨rfl, cPre_at hPm hK hDm hN hU hW⟩⟩ rfl rfl hl.1 rfl (lv_room (Nat.le_of_ble_eq_true rfl)) dL_law_862 ⟨Nat.le_trans (show cells + 3 + 0 ≤ 601024 by omega) hRc, Nat.le_trans (show slots + 18 + 0 ≤ 7293034 by omega) hRs⟩) hS0 (fun q _ h => hFm q h) hFm (fun r u2 t H locs ht hvm hq hB hz1 hk1 hS0 => ?_)
  obtain ⟨hP, hD⟩ := wj_r hP hD hk1 hFm (cPost_P ht hB) hB.2.2
  generalize eu9 : u = u_oma at hw hP hD; clear eu9
  obtain ⟨m_mow, m_mth⟩ := u2
  try dsimp only at hw hq hP hD
  refine lv_istore (lv' := [(6, .int r), (5, .int k), (0, .ref b), (1, .ref (ad 0)), (2, .ref (am 0)), (3, .ref ao), (4, .int i)]) hx hb dL_law_865 hl (by decide) rfl (fun ls hl => ?_)
  refine lv_aload_n hx hb dL_law_867 rfl (lv_at hl 4 rfl) ?_
  obtain ⟨-, hPm⟩ := wp_app.mp hP
  obtain ⟨-, hDm, -⟩ := wd_app.mp hD
  have hFm := va_freeSame hDm hS0 hA
  refine va_calli (va_runV (As := []) (rest := []) ⟨hx, hb, hml, hown, hts⟩ (c_X7_thrown l dC dI cy am H.size ti m_mow (nI n) w_mta w_mba w_mib w_mdi w_mab w_mbe w_mpl w_mbs w_mro w_mlo m_mth 2000000000 (fun z => z = m_mth) rfl) (cwV 0 hts gL_law_X7_thrown rfl rfl rfl (by decide +kernel) ⟨Nat.le_of_ble_eq_true rfl, Nat.le_of_ble_eq_true rfl⟩) ⟨cPre_blind, va_recv hK hPm (ci := 7) (q0 := 0) rfl rfl, fun U hU hW => ⟨rfl, cPre_at hPm hK hDm hN hU hW⟩⟩ rfl rfl hl.1 rfl (lv_room (Nat.le_of_ble_eq_true rfl)) dL_law_868 ⟨Nat.le_trans (show cells + 3 + 0 + 0 ≤ 601024 by omega) hRc, Nat.le_trans (show slots + 18 + 0 + 0 ≤ 7293034 by omega) hRs⟩) hS0 (fun q _ h => hFm q h) hFm (fun th u3 t H locs ht hvm hth hB hz1 hk1 hS0 => ?_)
  obtain ⟨hP, hD⟩ := wj_r hP hD hk1 hFm (cPost_P ht hB) hB.2.2
  have hth : th = m_mth := hth
  have hfin : (m_mth = k ∧ (k = 0 → ov' 0 = r.toInt64)) := by
    rcases hw with ⟨hk, r9, hall, hov⟩ | ⟨hk, ho, hu⟩ | ⟨hk, ho, hu⟩
    · rcases hq with ⟨ho2, hv2, hrest⟩ | ⟨ho2, hrest⟩ | ⟨ho2, hrest⟩
      · obtain ⟨-, hm0⟩ := hrest; exact ⟨by rw [hm0, hk], fun _ => by rw [hov, hall.2.1, hv2]⟩
      · have ho := hall.1; exfalso; exact ho2 ho.1
      · have ho := hall.1; exfalso; exact ho.2 ho2.2
    · rcases hq with ⟨ho2, hv2, hrest⟩ | ⟨ho2, hrest⟩ | ⟨ho2, hrest⟩
      · exfalso; exact ho ho2.1
      · obtain ⟨-, hm1⟩ := hrest; exact ⟨by rw [hm1, hk], fun h0 => absurd (hk.symm.trans h0) (by decide)⟩
      · exfalso; exact ho ho2.1
    · rcases hq with ⟨ho2, hv2, hrest⟩ | ⟨ho2, hrest⟩ | ⟨ho2, hrest⟩
      · exfalso; exact ho2.2 ho.2
      · exfalso; exact ho2 ho.1
      · obtain ⟨-, hm1⟩ := hrest; exact ⟨by rw [hm1, hk], fun h0 => absurd (hk.symm.trans h0) (by decide)⟩
  refine lv_iload hx hb dL_law_871 (lv_at hl 1 rfl) ?_
  refine lv_icmp_eq (tgt := 878) hx hb dL_law_873 (by decide) (fun _ => ?_) (fun h9 => absurd (hth.trans hfin.1) h9)
  refine lv_iload hx hb dL_law_878 (lv_at hl 1 rfl) ?_
  have hend : W p l e room_1 s m args below meth c H locs (cells + 3 + 0 + 0) (slots + 18 + 0 + 0) Z (F0 m 895 ls []) := by
    refine lv_goto (tgt := 1049) hx hb dL_law_895 (by decide) ?_
    rcases hw with ⟨hk, r9, ⟨o, -, hpo2⟩, hov⟩ | ⟨hk, ho, hu⟩ | ⟨hk, ho, hu⟩
    · rcases hq with ⟨-, -, hpm2, -⟩ | ⟨ho2, -⟩ | ⟨ho2, -⟩
      · refine W.widen (show cells + 3 + 0 + 0 ≤ cells + 3 by omega) (show slots + 18 + 0 + 0 ≤ slots + 18 by omega) (hnext n ti (stp g (x1).toNatClampNeg (x2).toNatClampNeg) v_ss v_ds (u_oma) v_obr v_obj v_obo v_obm v_plo v_pch v_pbe v_pbl v_dnu v_dde v_dbo v_dln v_dld v_tba v_tal v_tro v_tsc v_tcl v_rma ov' (m_mow) w_mta w_mba w_mib w_mdi w_mab w_mbe w_mpl w_mbs w_mro w_mlo (m_mth) H locs ls ⟨hG.assign o.1.1 o.1.2 o.2, hpo2, hS, hDv, hpm2⟩ ⟨hP, hD, hS0⟩ (lv_sub hl [2, 3, 4, 5, 6] rfl))
      · have ho := o; exfalso; exact ho2 ho.1
      · have ho := o; exfalso; exact ho.2 ho2.2
    · have hu := hu.symm
      subst hu
      rcases hq with ⟨ho2, -⟩ | ⟨ho2, rfl, -⟩ | ⟨ho2, rfl, -⟩
      · exfalso; exact ho ho2.1
      · refine W.widen (show cells + 3 + 0 + 0 ≤ cells + 3 by omega) (show slots + 18 + 0 + 0 ≤ slots + 18 by omega) (hnext n ti (g) v_ss v_ds v_oma v_obr v_obj v_obo v_obm v_plo v_pch v_pbe v_pbl v_dnu v_dde v_dbo v_dln v_dld v_tba v_tal v_tro v_tsc v_tcl v_rma ov' w_mow w_mta w_mba w_mib w_mdi w_mab w_mbe w_mpl w_mbs w_mro w_mlo (m_mth) H locs ls ⟨hG, hpo, hS, hDv, hpm⟩ ⟨hP, hD, hS0⟩ (lv_sub hl [2, 3, 4, 5, 6] rfl))
      · refine W.widen (show cells + 3 + 0 + 0 ≤ cells + 3 by omega) (show slots + 18 + 0 + 0 ≤ slots + 18 by omega) (hnext n ti (g) v_ss v_ds v_oma v_obr v_obj v_obo v_obm v_plo v_pch v_pbe v_pbl v_dnu v_dde v_dbo v_dln v_dld v_tba v_tal v_tro v_tsc v_tcl v_rma ov' w_mow w_mta w_mba w_mib w_mdi w_mab w_mbe w_mpl w_mbs w_mro w_mlo (m_mth) H locs ls ⟨hG, hpo, hS, hDv, hpm⟩ ⟨hP, hD, hS0⟩ (lv_sub hl [2, 3, 4, 5, 6] rfl))
    · have hu := hu.symm
      subst hu
      rcases hq with ⟨ho2, -⟩ | ⟨ho2, rfl, -⟩ | ⟨ho2, rfl, -⟩
      · exfalso; exact ho2.2 ho.2
      · refine W.widen (show cells + 3 + 0 + 0 ≤ cells + 3 by omega) (show slots + 18 + 0 + 0 ≤ slots + 18 by omega) (hnext n ti (g) v_ss v_ds v_oma v_obr v_obj v_obo v_obm v_plo v_pch v_pbe v_pbl v_dnu v_dde v_dbo v_dln v_dld v_tba v_tal v_tro v_tsc v_tcl v_rma ov' w_mow w_mta w_mba w_mib w_mdi w_mab w_mbe w_mpl w_mbs w_mro w_mlo (m_mth) H locs ls ⟨hG, hpo, hS, hDv, hpm⟩ ⟨hP, hD, hS0⟩ (lv_sub hl [2, 3, 4, 5, 6] rfl))
      · refine W.widen (show cells + 3 + 0 + 0 ≤ cells + 3 by omega) (show slots + 18 + 0 + 0 ≤ slots + 18 by omega) (hnext n ti (g) v_ss v_ds v_oma v_obr v_obj v_obo v_obm v_plo v_pch v_pbe v_pbl v_dnu v_dde v_dbo v_dln v_dld v_tba v_tal v_tro v_tsc v_tcl v_rma ov' w_mow w_mta w_mba w_mib w_mdi w_mab w_mbe w_mpl w_mbs w_mro w_mlo (m_mth) H locs ls ⟨hG, hpo, hS, hDv, hpm⟩ ⟨hP, hD, hS0⟩ (lv_sub hl [2, 3, 4, 5, 6] rfl))
  refine lv_if_ne (tgt := 895) hx hb dL_law_880 (by decide) (fun _ => hend) (fun hk0 => ?_)
  refine lv_aload_n hx hb dL_law_883 rfl (lv_at hl 5 rfl) ?_
  refine lv_iconst (v := (0 : Int32)) hx hb dL_law_884 (by decide) ?_
  refine va_lald hx hb hK hP 28 1 rfl rfl in01 dL_law_885 ?_
  refine lv_iload hx hb dL_law_886 (lv_at hl 0 rfl) ?_
  have hov0 : ov' (0 : Int32).toNatClampNeg = ov' 0 := congrArg ov' (by decide)
  refine lv_i2l (v := r.toInt64) hx hb dL_law_888 rfl ?_
  exact lq_eq (tgt := 895) hx hb dL_law_889 dL_law_890 (by decide) (fun _ => hend) (fun h9 => absurd (hov0.trans (hfin.2 hk0)) h9)
set_option maxHeartbeats 4000000 in
set_option maxRecDepth 100000 in
theorem law_18 (C0 : cxLaw p s m args meth c dC dI cy A b L xs) (hst : l.stackTraces = false)
    {n : Nat} {ti : Nat → Int32} {g : Nat → Nat} {v_ss : Int32} {v_ds : Int32} {v_oma : Nat → Int32} {v_obr : Int32} {v_obj : Int32} {v_obo : Int32} {v_obm : Int32} {v_plo : Nat → Int32} {v_pch : Nat → Int32} {v_pbe : Nat → Int32} {v_pbl : Int32} {v_dnu : Nat → Int32} {v_dde : Nat → Int32} {v_dbo : Int32} {v_dln : Int32} {v_dld : Int32} {v_tba : Nat → Int32} {v_tal : Nat → Int32} {v_tro : Int32} {v_tsc : Int64} {v_tcl : Nat → Nat → Int64} {v_rma : Nat → Int32} {ov : Nat → Int64} {w_mow : Nat → Int32} {w_mta : Nat → Int64} {w_mba : Nat → Int32} {w_mib : Nat → Int32} {w_mdi : Int64} {w_mab : Nat → Int64} {w_mbe : Nat → Int64} {w_mpl : Nat → Int32} {w_mbs : Nat → Int32} {w_mro : Nat → Int32} {w_mlo : Nat → Int32} {w_mth : Int32} {H : Heap} {locs : List Loc} {ls : Array Slot} {i : Int32} {cells slots : Nat} (hIV : IV n ti g v_oma v_ss v_pbl v_pbe v_ds v_dnu v_dde v_dbo v_dln v_dld v_rma w_mow) (hSt : stC dC dI A s ((wC ad cy v_ss v_ds ti (nI n) v_oma v_obr v_obj v_obo v_obm v_plo v_pch v_pbe v_pbl v_dnu v_dde v_dbo v_dln v_dld v_tba v_tal v_tro v_tsc v_tcl v_rma ++ oW ao cy ov) ++ wM am cy ti w_mow (nI n) w_mta w_mba w_mib w_mdi w_mab w_mbe w_mpl w_mbs w_mro w_mlo w_mth) H locs) (hl : lv_has ls 9 [(0, .ref b), (1, .ref (ad 0)), (2, .ref (am 0)), (3, .ref ao), (4, .int i)]) (hi1 : vp_in (i + 1) L) (hi2 : vp_in (i + 2) L) (hi3 : vp_in (i + 3) L) (hce : cells + 3 ≤ 601024) (hsl : slots + 18 ≤ 7293034)
    (hnext : ∀ (n : Nat) (ti : Nat → Int32) (g : Nat → Nat) (v_ss : Int32) (v_ds : Int32) (v_oma : Nat → Int32) (v_obr : Int32) (v_obj : Int32) (v_obo : Int32) (v_obm : Int32) (v_plo : Nat → Int32) (v_pch : Nat → Int32) (v_pbe : Nat → Int32) (v_pbl : Int32) (v_dnu : Nat → Int32) (v_dde : Nat → Int32) (v_dbo : Int32) (v_dln : Int32) (v_dld : Int32) (v_tba : Nat → Int32) (v_tal : Nat → Int32) (v_tro : Int32) (v_tsc : Int64) (v_tcl : Nat → Nat → Int64) (v_rma : Nat → Int32) (ov : Nat → Int64) (w_mow : Nat → Int32) (w_mta : Nat → Int64) (w_mba : Nat → Int32) (w_mib : Nat → Int32) (w_mdi : Int64) (w_mab : Nat → Int64) (w_mbe : Nat → Int64) (w_mpl : Nat → Int32) (w_mbs : Nat → Int32) (w_mro : Nat → Int32) (w_mlo : Nat → Int32) (w_mth : Int32) (H : Heap) (locs : List Loc) (ls : Array Slot), IV n ti g v_oma v_ss v_pbl v_pbe v_ds v_dnu v_dde v_dbo v_dln v_dld v_rma w_mow → stC dC dI A s ((wC ad cy v_ss v_ds ti (nI n) v_oma v_obr v_obj v_obo v_obm v_plo v_pch v_pbe v_pbl v_dnu v_dde v_dbo v_dln v_dld v_tba v_tal v_tro v_tsc v_tcl v_rma ++ oW ao cy ov) ++ wM am cy ti w_mow (nI n) w_mta w_mba w_mib w_mdi w_mab w_mbe w_mpl w_mbs w_mro w_mlo w_mth) H locs → lv_has ls 9 [(0, .ref b), (1, .ref (ad 0)), (2, .ref (am 0)), (3, .ref ao), (4, .int i)] → W p l e room_1 s m args below meth c H locs (cells + 3) (slots + 18) Z (F0 m 1049 ls [])) : W p l e room_1 s m args below meth c H locs cells slots Z (F0 m 898 ls []) := by
  obtain ⟨hx, hb, hml, hr, hown, hts, hlocks, hK, hA, hN, hXw, hXs, hX, hbl, hbA⟩ := id C0
  obtain ⟨hG, hpo, hS, hDv, hpm⟩ := id hIV
  have hn := hG.1.1
  have hN6 : 600000 ≤ 2000000000 := Nat.le_of_ble_eq_true rfl
  have hN100 : 100 ≤ 2000000000 := Nat.le_of_ble_eq_true rfl
  have hN100M := hN100
  have hN2 : 2000000000 ≤ 2000000000 := Nat.le_refl _
  have hRc : 601024 ≤ room_1.cells := Nat.le_refl _
  have hRs : 7293034 ≤ room_1.slots := Nat.le_refl _
  obtain ⟨x1, ex1⟩ : ∃ y : Int32, y = xs (i + (1 : Int32)).toNatClampNeg := ⟨_, rfl⟩
  obtain ⟨hP, hD, hS0⟩ := hSt
  refine lv_aload_n hx hb dL_law_898 rfl (lv_at hl 1 rfl) ?_
  refine lv_aload_n hx hb dL_law_899 rfl (lv_at hl 0 rfl) ?_
  refine lv_iload hx hb dL_law_900 (lv_at hl 4 rfl) ?_
  refine lv_iconst (v := (1 : Int32)) hx hb dL_law_902 (by decide) ?_
  refine lv_iadd hx hb dL_law_903 ?_
  refine va_sld hx hb hX hbl hbA hS0 hi1 dL_law_904 ?_
  rw [← ex1]
  refine lv_aload_n hx hb dL_law_905 rfl (lv_at hl 3 rfl) ?_
  obtain ⟨hPa, -⟩ := wp_app.mp hP
  obtain ⟨hDa, -, -⟩ := wd_app.mp hD
  have hFa := va_freeSame hDa hS0 hA
  refine va_calli (vx_runSW (As := [.ref (ad 0), .int x1, .ref ao]) (rest := []) ⟨hx, hb, hml, hown, hts⟩ (c_L_machine l dC dI cy ad H.size v_ss v_ds ti (nI n) v_oma v_obr v_obj v_obo v_obm v_plo v_pch v_pbe v_pbl v_dnu v_dde v_dbo v_dln v_dld v_tba v_tal v_tro v_tsc v_tcl v_rma x1 2000000000 _ ao ov (¬ jOK n x1) hst (s_machine (N := 2000000000) (x1 := x1) (Q := (fun (r : Int32)  => (jOK n x1 ∧ r = nI (g (x1).toNatClampNeg)) ∧ True)) (QX := (fun E => (E = "java/lang/IndexOutOfBoundsException" ∧ ¬ jOK n x1))) hn hpo (fun o1  => ⟨⟨o1, rfl⟩, trivial⟩) (fun o => ⟨rfl, o⟩))) (vx_cwSW 3 hts gL_law_L_machine rfl rfl rfl (by decide +kernel) ⟨Nat.le_of_ble_eq_true rfl, Nat.le_of_ble_eq_true rfl⟩) ⟨cPreX_blind, fun U hU hW => ⟨rfl, cPreX_at hPa hK hDa hN hU hW hXw hXs hS0 hFa⟩⟩ rfl rfl hl.1 rfl (lv_room (Nat.le_of_ble_eq_true rfl)) dL_law_906 ⟨Nat.le_trans (show cells + 1 ≤ 601024 by omega) hRc, Nat.le_trans (show slots + 6 ≤ 7293034 by omega) hRs⟩) hS0 (fun q _ h => hFa q h) hFa (fun k u t H locs ht hvm hw hB hz1 hk1 hS0 => ?_)
  obtain ⟨hP, hD⟩ := wj_l hP hD hk1 hFa (cPost_P ht hB) hB.2.2
  obtain ⟨u, ov'⟩ := u
  try dsimp only at hw hP hD
  refine lv_istore (lv' := [(5, .int k), (0, .ref b), (1, .ref (ad 0)), (2, .ref (am 0)), (3, .ref ao), (4, .int i)]) hx hb dL_law_909 hl (by decide) rfl (fun ls hl => ?_)
  refine lv_aload_n hx hb dL_law_911 rfl (lv_at hl 3 rfl) ?_
  refine lv_aload_n hx hb dL_law_912 rfl (lv_at hl 1 rfl) ?_
  refine lv_iload hx hb dL_law_913 (lv_at hl 5 rfl) ?_
  refine lv_iconst (v := (1 : Int32)) hx hb dL_law_915 (by decide) ?_
  refine lv_iadd hx hb dL_law_916 ?_
  refine va_sld hx hb hX hbl hbA hS0 hi1 dL_law_917 ?_
  rw [← ex1]
  obtain ⟨-, hPm⟩ := wp_app.mp hP
  obtain ⟨-, hDm, -⟩ := wd_app.mp hD
  have hFm := va_freeSame hDm hS0 hA
  refine va_calli (va_runV (As := [.int x1]) (rest := []) ⟨hx, hb, hml, hown, hts⟩ (c_X7_machine l dC dI cy am H.size ti w_mow (nI n) w_mta w_mba w_mib w_mdi w_mab w_mbe w_mpl w_mbs w_mro w_mlo w_mth x1 2000000000 _ (t_machine (N := 2000000000) (x1 := x1) (Q := (fun (r : Int32) (mth : Int32) => (jOK n x1 ∧ r = nI (g (x1).toNatClampNeg) ∧ mth = 0) ∨ (¬ jOK n x1 ∧ mth = 1))) hn hpm (fun o1  => Or.inl ⟨o1, rfl, rfl⟩) (fun o => Or.inr ⟨o, rfl⟩))) (cwV 1 hts gL_law_X7_machine rfl rfl rfl (by decide +kernel) ⟨Nat.le_of_ble_eq_true rfl, Nat.le_of_ble_eq_true rfl⟩) ⟨cPre_blind, va_recv hK hPm (ci := 7) (q0 := 0) rfl rfl, fun U hU hW => ⟨rfl, cPre_at hPm hK hDm hN hU hW⟩⟩ rfl rfl hl.1 rfl (lv_room (Nat.le_of_ble_eq_true rfl)) dL_law_918 ⟨Nat.le_trans (show cells + 1 + 0 ≤ 601024 by omega) hRc, Nat.le_trans (show slots + 6 + 0 ≤ 7293034 by omega) hRs⟩) hS0 (fun q _ h => hFm q h) hFm (fun r u2 t H locs ht hvm hq hB hz1 hk1 hS0 => ?_)
  obtain ⟨hP, hD⟩ := wj_r hP hD hk1 hFm (cPost_P ht hB) hB.2.2
  try dsimp only at hw hq hP hD
  generalize eu8 : u2 = m_mth at hq hP hD; clear eu8
  refine lv_istore (lv' := [(6, .int r), (5, .int k), (0, .ref b), (1, .ref (ad 0)), (2, .ref (am 0)), (3, .ref ao), (4, .int i)]) hx hb dL_law_921 hl (by decide) rfl (fun ls hl => ?_)
  refine lv_aload_n hx hb dL_law_923 rfl (lv_at hl 4 rfl) ?_
  obtain ⟨-, hPm⟩ := wp_app.mp hP
  obtain ⟨-, hDm, -⟩ := wd_app.mp hD
  have hFm := va_freeSame hDm hS0 hA
  refine va_calli (va_runV (As := []) (rest := []) ⟨hx, hb, hml, hown, hts⟩ (c_X7_thrown l dC dI cy am H.size ti w_mow (nI n) w_mta w_mba w_mib w_mdi w_mab w_mbe w_mpl w_mbs w_mro w_mlo m_mth 2000000000 (fun z => z = m_mth) rfl) (cwV 0 hts gL_law_X7_thrown rfl rfl rfl (by decide +kernel) ⟨Nat.le_of_ble_eq_true rfl, Nat.le_of_ble_eq_true rfl⟩) ⟨cPre_blind, va_recv hK hPm (ci := 7) (q0 := 0) rfl rfl, fun U hU hW => ⟨rfl, cPre_at hPm hK hDm hN hU hW⟩⟩ rfl rfl hl.1 rfl (lv_room (Nat.le_of_ble_eq_true rfl)) dL_law_924 ⟨Nat.le_trans (show cells + 1 + 0 + 0 ≤ 601024 by omega) hRc, Nat.le_trans (show slots + 6 + 0 + 0 ≤ 7293034 by omega) hRs⟩) hS0 (fun q _ h => hFm q h) hFm (fun th u3 t H locs ht hvm hth hB hz1 hk1 hS0 => ?_)
  obtain ⟨hP, hD⟩ := wj_r hP hD hk1 hFm (cPost_P ht hB) hB.2.2
  have hth : th = m_mth := hth
  have hfin : (m_mth = k ∧ (k = 0 → ov' 0 = r.toInt64)) ∧ True := by
    rcases hw with ⟨hk, r9, ⟨⟨ho, hv⟩, hi⟩, hov⟩ | ⟨hk, ho, hu⟩
    · rcases hq with ⟨-, hv2, hm0⟩ | ⟨ho2, -⟩
      · exact ⟨⟨by rw [hm0, hk], fun _ => by rw [hov, hv, hv2]⟩, hi⟩
      · exact absurd ho ho2
    · rcases hq with ⟨ho2, -⟩ | ⟨-, hm1⟩
      · exact absurd ho2 ho
      · exact ⟨⟨by rw [hm1, hk], fun h0 => absurd (hk.symm.trans h0) (by decide)⟩, trivial⟩
  refine lv_iload hx hb dL_law_927 (lv_at hl 1 rfl) ?_
  refine lv_icmp_eq (tgt := 934) hx hb dL_law_929 (by decide) (fun _ => ?_) (fun h9 => absurd (hth.trans hfin.1.1) h9)
  refine lv_iload hx hb dL_law_934 (lv_at hl 1 rfl) ?_
  have hend : W p l e room_1 s m args below meth c H locs (cells + 1 + 0 + 0) (slots + 6 + 0 + 0) Z (F0 m 951 ls []) := by
    refine lv_goto (tgt := 1049) hx hb dL_law_951 (by decide) ?_
    refine W.widen (show cells + 1 + 0 + 0 ≤ cells + 3 by omega) (show slots + 6 + 0 + 0 ≤ slots + 18 by omega) (hnext n ti (g) v_ss v_ds v_oma v_obr v_obj v_obo v_obm v_plo v_pch v_pbe v_pbl v_dnu v_dde v_dbo v_dln v_dld v_tba v_tal v_tro v_tsc v_tcl v_rma ov' w_mow w_mta w_mba w_mib w_mdi w_mab w_mbe w_mpl w_mbs w_mro w_mlo (m_mth) H locs ls ⟨hG, hpo, hS, hDv, hpm⟩ ⟨hP, hD, hS0⟩ (lv_sub hl [2, 3, 4, 5, 6] rfl))
  refine lv_if_ne (tgt := 951) hx hb dL_law_936 (by decide) (fun _ => hend) (fun hk0 => ?_)
  refine lv_aload_n hx hb dL_law_939 rfl (lv_at hl 5 rfl) ?_
  refine lv_iconst (v := (0 : Int32)) hx hb dL_law_940 (by decide) ?_
  refine va_lald hx hb hK hP 28 1 rfl rfl in01 dL_law_941 ?_
  refine lv_iload hx hb dL_law_942 (lv_at hl 0 rfl) ?_
  have hov0 : ov' (0 : Int32).toNatClampNeg = ov' 0 := congrArg ov' (by decide)
  refine lv_i2l (v := r.toInt64) hx hb dL_law_944 rfl ?_
  exact lq_eq (tgt := 951) hx hb dL_law_945 dL_law_946 (by decide) (fun _ => hend) (fun h9 => absurd (hov0.trans (hfin.1.2 hk0)) h9)
set_option maxHeartbeats 4000000 in
set_option maxRecDepth 100000 in
theorem law_19 (C0 : cxLaw p s m args meth c dC dI cy A b L xs) (hst : l.stackTraces = false)
    {n : Nat} {ti : Nat → Int32} {g : Nat → Nat} {v_ss : Int32} {v_ds : Int32} {v_oma : Nat → Int32} {v_obr : Int32} {v_obj : Int32} {v_obo : Int32} {v_obm : Int32} {v_plo : Nat → Int32} {v_pch : Nat → Int32} {v_pbe : Nat → Int32} {v_pbl : Int32} {v_dnu : Nat → Int32} {v_dde : Nat → Int32} {v_dbo : Int32} {v_dln : Int32} {v_dld : Int32} {v_tba : Nat → Int32} {v_tal : Nat → Int32} {v_tro : Int32} {v_tsc : Int64} {v_tcl : Nat → Nat → Int64} {v_rma : Nat → Int32} {ov : Nat → Int64} {w_mow : Nat → Int32} {w_mta : Nat → Int64} {w_mba : Nat → Int32} {w_mib : Nat → Int32} {w_mdi : Int64} {w_mab : Nat → Int64} {w_mbe : Nat → Int64} {w_mpl : Nat → Int32} {w_mbs : Nat → Int32} {w_mro : Nat → Int32} {w_mlo : Nat → Int32} {w_mth : Int32} {H : Heap} {locs : List Loc} {ls : Array Slot} {i : Int32} {cells slots : Nat} (hIV : IV n ti g v_oma v_ss v_pbl v_pbe v_ds v_dnu v_dde v_dbo v_dln v_dld v_rma w_mow) (hSt : stC dC dI A s ((wC ad cy v_ss v_ds ti (nI n) v_oma v_obr v_obj v_obo v_obm v_plo v_pch v_pbe v_pbl v_dnu v_dde v_dbo v_dln v_dld v_tba v_tal v_tro v_tsc v_tcl v_rma ++ oW ao cy ov) ++ wM am cy ti w_mow (nI n) w_mta w_mba w_mib w_mdi w_mab w_mbe w_mpl w_mbs w_mro w_mlo w_mth) H locs) (hl : lv_has ls 9 [(0, .ref b), (1, .ref (ad 0)), (2, .ref (am 0)), (3, .ref ao), (4, .int i)]) (hi1 : vp_in (i + 1) L) (hi2 : vp_in (i + 2) L) (hi3 : vp_in (i + 3) L) (hce : cells + 3 ≤ 601024) (hsl : slots + 18 ≤ 7293034)
    (hnext : ∀ (n : Nat) (ti : Nat → Int32) (g : Nat → Nat) (v_ss : Int32) (v_ds : Int32) (v_oma : Nat → Int32) (v_obr : Int32) (v_obj : Int32) (v_obo : Int32) (v_obm : Int32) (v_plo : Nat → Int32) (v_pch : Nat → Int32) (v_pbe : Nat → Int32) (v_pbl : Int32) (v_dnu : Nat → Int32) (v_dde : Nat → Int32) (v_dbo : Int32) (v_dln : Int32) (v_dld : Int32) (v_tba : Nat → Int32) (v_tal : Nat → Int32) (v_tro : Int32) (v_tsc : Int64) (v_tcl : Nat → Nat → Int64) (v_rma : Nat → Int32) (ov : Nat → Int64) (w_mow : Nat → Int32) (w_mta : Nat → Int64) (w_mba : Nat → Int32) (w_mib : Nat → Int32) (w_mdi : Int64) (w_mab : Nat → Int64) (w_mbe : Nat → Int64) (w_mpl : Nat → Int32) (w_mbs : Nat → Int32) (w_mro : Nat → Int32) (w_mlo : Nat → Int32) (w_mth : Int32) (H : Heap) (locs : List Loc) (ls : Array Slot), IV n ti g v_oma v_ss v_pbl v_pbe v_ds v_dnu v_dde v_dbo v_dln v_dld v_rma w_mow → stC dC dI A s ((wC ad cy v_ss v_ds ti (nI n) v_oma v_obr v_obj v_obo v_obm v_plo v_pch v_pbe v_pbl v_dnu v_dde v_dbo v_dln v_dld v_tba v_tal v_tro v_tsc v_tcl v_rma ++ oW ao cy ov) ++ wM am cy ti w_mow (nI n) w_mta w_mba w_mib w_mdi w_mab w_mbe w_mpl w_mbs w_mro w_mlo w_mth) H locs → lv_has ls 9 [(0, .ref b), (1, .ref (ad 0)), (2, .ref (am 0)), (3, .ref ao), (4, .int i)] → W p l e room_1 s m args below meth c H locs (cells + 3) (slots + 18) Z (F0 m 1049 ls [])) : W p l e room_1 s m args below meth c H locs cells slots Z (F0 m 954 ls []) := by
  obtain ⟨hx, hb, hml, hr, hown, hts, hlocks, hK, hA, hN, hXw, hXs, hX, hbl, hbA⟩ := id C0
  obtain ⟨hG, hpo, hS, hDv, hpm⟩ := id hIV
  have hn := hG.1.1
  have hN6 : 600000 ≤ 2000000000 := Nat.le_of_ble_eq_true rfl
  have hN100 : 100 ≤ 2000000000 := Nat.le_of_ble_eq_true rfl
  have hN100M := hN100
  have hN2 : 2000000000 ≤ 2000000000 := Nat.le_refl _
  have hRc : 601024 ≤ room_1.cells := Nat.le_refl _
  have hRs : 7293034 ≤ room_1.slots := Nat.le_refl _
  obtain ⟨x1, ex1⟩ : ∃ y : Int32, y = xs (i + (1 : Int32)).toNatClampNeg := ⟨_, rfl⟩
  obtain ⟨hP, hD, hS0⟩ := hSt
  refine lv_aload_n hx hb dL_law_954 rfl (lv_at hl 1 rfl) ?_
  refine lv_aload_n hx hb dL_law_955 rfl (lv_at hl 0 rfl) ?_
  refine lv_iload hx hb dL_law_956 (lv_at hl 4 rfl) ?_
  refine lv_iconst (v := (1 : Int32)) hx hb dL_law_958 (by decide) ?_
  refine lv_iadd hx hb dL_law_959 ?_
  refine va_sld hx hb hX hbl hbA hS0 hi1 dL_law_960 ?_
  rw [← ex1]
  refine lv_aload_n hx hb dL_law_961 rfl (lv_at hl 3 rfl) ?_
  obtain ⟨hPa, -⟩ := wp_app.mp hP
  obtain ⟨hDa, -, -⟩ := wd_app.mp hD
  have hFa := va_freeSame hDa hS0 hA
  refine va_calli (vx_runSW (As := [.ref (ad 0), .int x1, .ref ao]) (rest := []) ⟨hx, hb, hml, hown, hts⟩ (c_L_load l dC dI cy ad H.size v_ss v_ds ti (nI n) v_oma v_obr v_obj v_obo v_obm v_plo v_pch v_pbe v_pbl v_dnu v_dde v_dbo v_dln v_dld v_tba v_tal v_tro v_tsc v_tcl v_rma x1 2000000000 _ ao ov (¬ jOK 3 x1) hst (s_load (N := 2000000000) (x1 := x1) (Q := (fun (r : Int32)  => (jOK 3 x1 ∧ r = nI (ldN n (tN ti) g (x1).toNatClampNeg)) ∧ True)) (QX := (fun E => (E = "java/lang/IndexOutOfBoundsException" ∧ ¬ jOK 3 x1))) hN100 hG hpo (fun o1  => ⟨⟨o1, rfl⟩, trivial⟩) (fun o => ⟨rfl, o⟩))) (vx_cwSW 3 hts gL_law_L_load rfl rfl rfl (by decide +kernel) ⟨Nat.le_of_ble_eq_true rfl, Nat.le_of_ble_eq_true rfl⟩) ⟨cPreX_blind, fun U hU hW => ⟨rfl, cPreX_at hPa hK hDa hN hU hW hXw hXs hS0 hFa⟩⟩ rfl rfl hl.1 rfl (lv_room (Nat.le_of_ble_eq_true rfl)) dL_law_962 ⟨Nat.le_trans (show cells + 1 ≤ 601024 by omega) hRc, Nat.le_trans (show slots + 6 ≤ 7293034 by omega) hRs⟩) hS0 (fun q _ h => hFa q h) hFa (fun k u t H locs ht hvm hw hB hz1 hk1 hS0 => ?_)
  obtain ⟨hP, hD⟩ := wj_l hP hD hk1 hFa (cPost_P ht hB) hB.2.2
  obtain ⟨u, ov'⟩ := u
  try dsimp only at hw hP hD
  refine lv_istore (lv' := [(5, .int k), (0, .ref b), (1, .ref (ad 0)), (2, .ref (am 0)), (3, .ref ao), (4, .int i)]) hx hb dL_law_965 hl (by decide) rfl (fun ls hl => ?_)
  refine lv_aload_n hx hb dL_law_967 rfl (lv_at hl 3 rfl) ?_
  refine lv_aload_n hx hb dL_law_968 rfl (lv_at hl 1 rfl) ?_
  refine lv_iload hx hb dL_law_969 (lv_at hl 5 rfl) ?_
  refine lv_iconst (v := (1 : Int32)) hx hb dL_law_971 (by decide) ?_
  refine lv_iadd hx hb dL_law_972 ?_
  refine va_sld hx hb hX hbl hbA hS0 hi1 dL_law_973 ?_
  rw [← ex1]
  obtain ⟨-, hPm⟩ := wp_app.mp hP
  obtain ⟨-, hDm, -⟩ := wd_app.mp hD
  have hFm := va_freeSame hDm hS0 hA
  refine va_calli (va_runV (As := [.int x1]) (rest := []) ⟨hx, hb, hml, hown, hts⟩ (c_X7_load l dC dI cy am H.size ti w_mow (nI n) w_mta w_mba w_mib w_mdi w_mab w_mbe w_mpl w_mbs w_mro w_mlo w_mth x1 2000000000 _ (t_load (N := 2000000000) (x1 := x1) (Q := (fun (r : Int32) (mlo : Nat → Int32) (mth : Int32) => (jOK 3 x1 ∧ r = nI (ldN n (tN ti) g (x1).toNatClampNeg) ∧ mth = 0) ∨ (¬ jOK 3 x1 ∧ mth = 1))) hN100M hG hpm (fun o1 _ => Or.inl ⟨o1, rfl, rfl⟩) (fun o => Or.inr ⟨o, rfl⟩))) (cwV 1 hts gL_law_X7_load rfl rfl rfl (by decide +kernel) ⟨Nat.le_of_ble_eq_true rfl, Nat.le_of_ble_eq_true rfl⟩) ⟨cPre_blind, va_recv hK hPm (ci := 7) (q0 := 0) rfl rfl, fun U hU hW => ⟨rfl, cPre_at hPm hK hDm hN hU hW⟩⟩ rfl rfl hl.1 rfl (lv_room (Nat.le_of_ble_eq_true rfl)) dL_law_974 ⟨Nat.le_trans (show cells + 1 + 0 ≤ 601024 by omega) hRc, Nat.le_trans (show slots + 6 + 0 ≤ 7293034 by omega) hRs⟩) hS0 (fun q _ h => hFm q h) hFm (fun r u2 t H locs ht hvm hq hB hz1 hk1 hS0 => ?_)
  obtain ⟨hP, hD⟩ := wj_r hP hD hk1 hFm (cPost_P ht hB) hB.2.2
  obtain ⟨m_mlo, m_mth⟩ := u2
  try dsimp only at hw hq hP hD
  refine lv_istore (lv' := [(6, .int r), (5, .int k), (0, .ref b), (1, .ref (ad 0)), (2, .ref (am 0)), (3, .ref ao), (4, .int i)]) hx hb dL_law_977 hl (by decide) rfl (fun ls hl => ?_)
  refine lv_aload_n hx hb dL_law_979 rfl (lv_at hl 4 rfl) ?_
  obtain ⟨-, hPm⟩ := wp_app.mp hP
  obtain ⟨-, hDm, -⟩ := wd_app.mp hD
  have hFm := va_freeSame hDm hS0 hA
  refine va_calli (va_runV (As := []) (rest := []) ⟨hx, hb, hml, hown, hts⟩ (c_X7_thrown l dC dI cy am H.size ti w_mow (nI n) w_mta w_mba w_mib w_mdi w_mab w_mbe w_mpl w_mbs w_mro m_mlo m_mth 2000000000 (fun z => z = m_mth) rfl) (cwV 0 hts gL_law_X7_thrown rfl rfl rfl (by decide +kernel) ⟨Nat.le_of_ble_eq_true rfl, Nat.le_of_ble_eq_true rfl⟩) ⟨cPre_blind, va_recv hK hPm (ci := 7) (q0 := 0) rfl rfl, fun U hU hW => ⟨rfl, cPre_at hPm hK hDm hN hU hW⟩⟩ rfl rfl hl.1 rfl (lv_room (Nat.le_of_ble_eq_true rfl)) dL_law_980 ⟨Nat.le_trans (show cells + 1 + 0 + 0 ≤ 601024 by omega) hRc, Nat.le_trans (show slots + 6 + 0 + 0 ≤ 7293034 by omega) hRs⟩) hS0 (fun q _ h => hFm q h) hFm (fun th u3 t H locs ht hvm hth hB hz1 hk1 hS0 => ?_)
  obtain ⟨hP, hD⟩ := wj_r hP hD hk1 hFm (cPost_P ht hB) hB.2.2
  have hth : th = m_mth := hth
  have hfin : (m_mth = k ∧ (k = 0 → ov' 0 = r.toInt64)) ∧ True := by
    rcases hw with ⟨hk, r9, ⟨⟨ho, hv⟩, hi⟩, hov⟩ | ⟨hk, ho, hu⟩
    · rcases hq with ⟨-, hv2, hm0⟩ | ⟨ho2, -⟩
      · exact ⟨⟨by rw [hm0, hk], fun _ => by rw [hov, hv, hv2]⟩, hi⟩
      · exact absurd ho ho2
    · rcases hq with ⟨ho2, -⟩ | ⟨-, hm1⟩
      · exact absurd ho2 ho
      · exact ⟨⟨by rw [hm1, hk], fun h0 => absurd (hk.symm.trans h0) (by decide)⟩, trivial⟩
  refine lv_iload hx hb dL_law_983 (lv_at hl 1 rfl) ?_
  refine lv_icmp_eq (tgt := 990) hx hb dL_law_985 (by decide) (fun _ => ?_) (fun h9 => absurd (hth.trans hfin.1.1) h9)
  refine lv_iload hx hb dL_law_990 (lv_at hl 1 rfl) ?_
  have hend : W p l e room_1 s m args below meth c H locs (cells + 1 + 0 + 0) (slots + 6 + 0 + 0) Z (F0 m 1007 ls []) := by
    refine lv_goto (tgt := 1049) hx hb dL_law_1007 (by decide) ?_
    refine W.widen (show cells + 1 + 0 + 0 ≤ cells + 3 by omega) (show slots + 6 + 0 + 0 ≤ slots + 18 by omega) (hnext n ti (g) v_ss v_ds v_oma v_obr v_obj v_obo v_obm v_plo v_pch v_pbe v_pbl v_dnu v_dde v_dbo v_dln v_dld v_tba v_tal v_tro v_tsc v_tcl v_rma ov' w_mow w_mta w_mba w_mib w_mdi w_mab w_mbe w_mpl w_mbs w_mro (m_mlo) (m_mth) H locs ls ⟨hG, hpo, hS, hDv, hpm⟩ ⟨hP, hD, hS0⟩ (lv_sub hl [2, 3, 4, 5, 6] rfl))
  refine lv_if_ne (tgt := 1007) hx hb dL_law_992 (by decide) (fun _ => hend) (fun hk0 => ?_)
  refine lv_aload_n hx hb dL_law_995 rfl (lv_at hl 5 rfl) ?_
  refine lv_iconst (v := (0 : Int32)) hx hb dL_law_996 (by decide) ?_
  refine va_lald hx hb hK hP 28 1 rfl rfl in01 dL_law_997 ?_
  refine lv_iload hx hb dL_law_998 (lv_at hl 0 rfl) ?_
  have hov0 : ov' (0 : Int32).toNatClampNeg = ov' 0 := congrArg ov' (by decide)
  refine lv_i2l (v := r.toInt64) hx hb dL_law_1000 rfl ?_
  exact lq_eq (tgt := 1007) hx hb dL_law_1001 dL_law_1002 (by decide) (fun _ => hend) (fun h9 => absurd (hov0.trans (hfin.1.2 hk0)) h9)
set_option maxHeartbeats 4000000 in
set_option maxRecDepth 100000 in
theorem law_20 (C0 : cxLaw p s m args meth c dC dI cy A b L xs) (hst : l.stackTraces = false)
    {n : Nat} {ti : Nat → Int32} {g : Nat → Nat} {v_ss : Int32} {v_ds : Int32} {v_oma : Nat → Int32} {v_obr : Int32} {v_obj : Int32} {v_obo : Int32} {v_obm : Int32} {v_plo : Nat → Int32} {v_pch : Nat → Int32} {v_pbe : Nat → Int32} {v_pbl : Int32} {v_dnu : Nat → Int32} {v_dde : Nat → Int32} {v_dbo : Int32} {v_dln : Int32} {v_dld : Int32} {v_tba : Nat → Int32} {v_tal : Nat → Int32} {v_tro : Int32} {v_tsc : Int64} {v_tcl : Nat → Nat → Int64} {v_rma : Nat → Int32} {ov : Nat → Int64} {w_mow : Nat → Int32} {w_mta : Nat → Int64} {w_mba : Nat → Int32} {w_mib : Nat → Int32} {w_mdi : Int64} {w_mab : Nat → Int64} {w_mbe : Nat → Int64} {w_mpl : Nat → Int32} {w_mbs : Nat → Int32} {w_mro : Nat → Int32} {w_mlo : Nat → Int32} {w_mth : Int32} {H : Heap} {locs : List Loc} {ls : Array Slot} {i : Int32} {cells slots : Nat} (hIV : IV n ti g v_oma v_ss v_pbl v_pbe v_ds v_dnu v_dde v_dbo v_dln v_dld v_rma w_mow) (hSt : stC dC dI A s ((wC ad cy v_ss v_ds ti (nI n) v_oma v_obr v_obj v_obo v_obm v_plo v_pch v_pbe v_pbl v_dnu v_dde v_dbo v_dln v_dld v_tba v_tal v_tro v_tsc v_tcl v_rma ++ oW ao cy ov) ++ wM am cy ti w_mow (nI n) w_mta w_mba w_mib w_mdi w_mab w_mbe w_mpl w_mbs w_mro w_mlo w_mth) H locs) (hl : lv_has ls 9 [(0, .ref b), (1, .ref (ad 0)), (2, .ref (am 0)), (3, .ref ao), (4, .int i)]) (hi1 : vp_in (i + 1) L) (hi2 : vp_in (i + 2) L) (hi3 : vp_in (i + 3) L) (hce : cells + 3 ≤ 601024) (hsl : slots + 18 ≤ 7293034)
    (hnext : ∀ (n : Nat) (ti : Nat → Int32) (g : Nat → Nat) (v_ss : Int32) (v_ds : Int32) (v_oma : Nat → Int32) (v_obr : Int32) (v_obj : Int32) (v_obo : Int32) (v_obm : Int32) (v_plo : Nat → Int32) (v_pch : Nat → Int32) (v_pbe : Nat → Int32) (v_pbl : Int32) (v_dnu : Nat → Int32) (v_dde : Nat → Int32) (v_dbo : Int32) (v_dln : Int32) (v_dld : Int32) (v_tba : Nat → Int32) (v_tal : Nat → Int32) (v_tro : Int32) (v_tsc : Int64) (v_tcl : Nat → Nat → Int64) (v_rma : Nat → Int32) (ov : Nat → Int64) (w_mow : Nat → Int32) (w_mta : Nat → Int64) (w_mba : Nat → Int32) (w_mib : Nat → Int32) (w_mdi : Int64) (w_mab : Nat → Int64) (w_mbe : Nat → Int64) (w_mpl : Nat → Int32) (w_mbs : Nat → Int32) (w_mro : Nat → Int32) (w_mlo : Nat → Int32) (w_mth : Int32) (H : Heap) (locs : List Loc) (ls : Array Slot), IV n ti g v_oma v_ss v_pbl v_pbe v_ds v_dnu v_dde v_dbo v_dln v_dld v_rma w_mow → stC dC dI A s ((wC ad cy v_ss v_ds ti (nI n) v_oma v_obr v_obj v_obo v_obm v_plo v_pch v_pbe v_pbl v_dnu v_dde v_dbo v_dln v_dld v_tba v_tal v_tro v_tsc v_tcl v_rma ++ oW ao cy ov) ++ wM am cy ti w_mow (nI n) w_mta w_mba w_mib w_mdi w_mab w_mbe w_mpl w_mbs w_mro w_mlo w_mth) H locs → lv_has ls 9 [(0, .ref b), (1, .ref (ad 0)), (2, .ref (am 0)), (3, .ref ao), (4, .int i)] → W p l e room_1 s m args below meth c H locs (cells + 3) (slots + 18) Z (F0 m 1049 ls [])) : W p l e room_1 s m args below meth c H locs cells slots Z (F0 m 1010 ls []) := by
  obtain ⟨hx, hb, hml, hr, hown, hts, hlocks, hK, hA, hN, hXw, hXs, hX, hbl, hbA⟩ := id C0
  obtain ⟨hG, hpo, hS, hDv, hpm⟩ := id hIV
  have hn := hG.1.1
  have hN6 : 600000 ≤ 2000000000 := Nat.le_of_ble_eq_true rfl
  have hN100 : 100 ≤ 2000000000 := Nat.le_of_ble_eq_true rfl
  have hN100M := hN100
  have hN2 : 2000000000 ≤ 2000000000 := Nat.le_refl _
  have hRc : 601024 ≤ room_1.cells := Nat.le_refl _
  have hRs : 7293034 ≤ room_1.slots := Nat.le_refl _
  obtain ⟨hP, hD, hS0⟩ := hSt
  refine lv_aload_n hx hb dL_law_1010 rfl (lv_at hl 1 rfl) ?_
  have hP := wp_assoc.mp hP
  have hD := wd_assoc.mp hD
  obtain ⟨hPa, -⟩ := wp_app.mp hP
  obtain ⟨hDa, -, -⟩ := wd_app.mp hD
  have hFa := va_freeSame hDa hS0 hA
  refine va_calli (va_runV (As := []) (rest := []) ⟨hx, hb, hml, hown, hts⟩ (c_X6_length l dC dI cy ad H.size v_ss v_ds ti (nI n) v_oma v_obr v_obj v_obo v_obm v_plo v_pch v_pbe v_pbl v_dnu v_dde v_dbo v_dln v_dld v_tba v_tal v_tro v_tsc v_tcl v_rma 2000000000 _ (s_length (N := 2000000000) (Q := (fun (r : Int32)  => r = nI (lenN n (tN ti) g) ∧ True)) hN100 hG hpo ⟨rfl, trivial⟩)) (cwV 0 hts gL_law_X6_length rfl rfl rfl (by decide +kernel) ⟨Nat.le_of_ble_eq_true rfl, Nat.le_of_ble_eq_true rfl⟩) ⟨cPre_blind, va_recv hK hPa (ci := 6) (q0 := 0) rfl rfl, fun U hU hW => ⟨rfl, cPre_at hPa hK hDa hN hU hW⟩⟩ rfl rfl hl.1 rfl (lv_room (Nat.le_of_ble_eq_true rfl)) dL_law_1011 ⟨Nat.le_trans (show cells + 0 ≤ 601024 by omega) hRc, Nat.le_trans (show slots + 0 ≤ 7293034 by omega) hRs⟩) hS0 (fun q _ h => hFa q h) hFa (fun k u t H locs ht hvm hw hB hz1 hk1 hS0 => ?_)
  obtain ⟨hP, hD⟩ := wj_l hP hD hk1 hFa (cPost_P ht hB) hB.2.2
  have hP := wp_assoc.mpr hP
  have hD := wd_assoc.mpr hD
  try dsimp only at hw hP hD
  refine lv_aload_n hx hb dL_law_1014 rfl (lv_at hl 2 rfl) ?_
  obtain ⟨-, hPm⟩ := wp_app.mp hP
  obtain ⟨-, hDm, -⟩ := wd_app.mp hD
  have hFm := va_freeSame hDm hS0 hA
  refine va_calli (va_runV (As := []) (rest := [.int k]) ⟨hx, hb, hml, hown, hts⟩ (c_X7_length l dC dI cy am H.size ti w_mow (nI n) w_mta w_mba w_mib w_mdi w_mab w_mbe w_mpl w_mbs w_mro w_mlo w_mth  2000000000 _ (t_length (N := 2000000000) (Q := (fun (r : Int32) (mlo : Nat → Int32) (mth : Int32) => r = nI (lenN n (tN ti) g))) hN100M hG hpm (fun _ => rfl))) (cwV 0 hts gL_law_X7_length rfl rfl rfl (by decide +kernel) ⟨Nat.le_of_ble_eq_true rfl, Nat.le_of_ble_eq_true rfl⟩) ⟨cPre_blind, va_recv hK hPm (ci := 7) (q0 := 0) rfl rfl, fun U hU hW => ⟨rfl, cPre_at hPm hK hDm hN hU hW⟩⟩ rfl rfl hl.1 rfl (lv_room (Nat.le_of_ble_eq_true rfl)) dL_law_1015 ⟨Nat.le_trans (show cells + 0 + 0 ≤ 601024 by omega) hRc, Nat.le_trans (show slots + 0 + 0 ≤ 7293034 by omega) hRs⟩) hS0 (fun q _ h => hFm q h) hFm (fun r u2 t H locs ht hvm hq hB hz1 hk1 hS0 => ?_)
  obtain ⟨hP, hD⟩ := wj_r hP hD hk1 hFm (cPost_P ht hB) hB.2.2
  obtain ⟨m_mlo, m_mth⟩ := u2
  try dsimp only at hw hq hP hD
  exact lv_icmp_eq (tgt := 1049) hx hb dL_law_1018 (by decide) (fun _ => W.widen (show cells + 0 + 0 ≤ cells + 3 by omega) (show slots + 0 + 0 ≤ slots + 18 by omega) (hnext n ti (g) v_ss v_ds v_oma v_obr v_obj v_obo v_obm v_plo v_pch v_pbe v_pbl v_dnu v_dde v_dbo v_dln v_dld v_tba v_tal v_tro v_tsc v_tcl v_rma ov w_mow w_mta w_mba w_mib w_mdi w_mab w_mbe w_mpl w_mbs w_mro (m_mlo) (m_mth) H locs ls ⟨hG, hpo, hS, hDv, hpm⟩ ⟨hP, hD, hS0⟩ hl)) (fun h9 => absurd (hw.1.trans hq.symm) h9)
set_option maxHeartbeats 4000000 in
set_option maxRecDepth 100000 in
theorem law_21 (C0 : cxLaw p s m args meth c dC dI cy A b L xs) (hst : l.stackTraces = false)
    {n : Nat} {ti : Nat → Int32} {g : Nat → Nat} {v_ss : Int32} {v_ds : Int32} {v_oma : Nat → Int32} {v_obr : Int32} {v_obj : Int32} {v_obo : Int32} {v_obm : Int32} {v_plo : Nat → Int32} {v_pch : Nat → Int32} {v_pbe : Nat → Int32} {v_pbl : Int32} {v_dnu : Nat → Int32} {v_dde : Nat → Int32} {v_dbo : Int32} {v_dln : Int32} {v_dld : Int32} {v_tba : Nat → Int32} {v_tal : Nat → Int32} {v_tro : Int32} {v_tsc : Int64} {v_tcl : Nat → Nat → Int64} {v_rma : Nat → Int32} {ov : Nat → Int64} {w_mow : Nat → Int32} {w_mta : Nat → Int64} {w_mba : Nat → Int32} {w_mib : Nat → Int32} {w_mdi : Int64} {w_mab : Nat → Int64} {w_mbe : Nat → Int64} {w_mpl : Nat → Int32} {w_mbs : Nat → Int32} {w_mro : Nat → Int32} {w_mlo : Nat → Int32} {w_mth : Int32} {H : Heap} {locs : List Loc} {ls : Array Slot} {i : Int32} {cells slots : Nat} (hIV : IV n ti g v_oma v_ss v_pbl v_pbe v_ds v_dnu v_dde v_dbo v_dln v_dld v_rma w_mow) (hSt : stC dC dI A s ((wC ad cy v_ss v_ds ti (nI n) v_oma v_obr v_obj v_obo v_obm v_plo v_pch v_pbe v_pbl v_dnu v_dde v_dbo v_dln v_dld v_tba v_tal v_tro v_tsc v_tcl v_rma ++ oW ao cy ov) ++ wM am cy ti w_mow (nI n) w_mta w_mba w_mib w_mdi w_mab w_mbe w_mpl w_mbs w_mro w_mlo w_mth) H locs) (hl : lv_has ls 9 [(0, .ref b), (1, .ref (ad 0)), (2, .ref (am 0)), (3, .ref ao), (4, .int i)]) (hi1 : vp_in (i + 1) L) (hi2 : vp_in (i + 2) L) (hi3 : vp_in (i + 3) L) (hce : cells + 3 ≤ 601024) (hsl : slots + 18 ≤ 7293034)
    (hnext : ∀ (n : Nat) (ti : Nat → Int32) (g : Nat → Nat) (v_ss : Int32) (v_ds : Int32) (v_oma : Nat → Int32) (v_obr : Int32) (v_obj : Int32) (v_obo : Int32) (v_obm : Int32) (v_plo : Nat → Int32) (v_pch : Nat → Int32) (v_pbe : Nat → Int32) (v_pbl : Int32) (v_dnu : Nat → Int32) (v_dde : Nat → Int32) (v_dbo : Int32) (v_dln : Int32) (v_dld : Int32) (v_tba : Nat → Int32) (v_tal : Nat → Int32) (v_tro : Int32) (v_tsc : Int64) (v_tcl : Nat → Nat → Int64) (v_rma : Nat → Int32) (ov : Nat → Int64) (w_mow : Nat → Int32) (w_mta : Nat → Int64) (w_mba : Nat → Int32) (w_mib : Nat → Int32) (w_mdi : Int64) (w_mab : Nat → Int64) (w_mbe : Nat → Int64) (w_mpl : Nat → Int32) (w_mbs : Nat → Int32) (w_mro : Nat → Int32) (w_mlo : Nat → Int32) (w_mth : Int32) (H : Heap) (locs : List Loc) (ls : Array Slot), IV n ti g v_oma v_ss v_pbl v_pbe v_ds v_dnu v_dde v_dbo v_dln v_dld v_rma w_mow → stC dC dI A s ((wC ad cy v_ss v_ds ti (nI n) v_oma v_obr v_obj v_obo v_obm v_plo v_pch v_pbe v_pbl v_dnu v_dde v_dbo v_dln v_dld v_tba v_tal v_tro v_tsc v_tcl v_rma ++ oW ao cy ov) ++ wM am cy ti w_mow (nI n) w_mta w_mba w_mib w_mdi w_mab w_mbe w_mpl w_mbs w_mro w_mlo w_mth) H locs → lv_has ls 9 [(0, .ref b), (1, .ref (ad 0)), (2, .ref (am 0)), (3, .ref ao), (4, .int i)] → W p l e room_1 s m args below meth c H locs (cells + 3) (slots + 18) Z (F0 m 1049 ls [])) : W p l e room_1 s m args below meth c H locs cells slots Z (F0 m 1023 ls []) := by
  obtain ⟨hx, hb, hml, hr, hown, hts, hlocks, hK, hA, hN, hXw, hXs, hX, hbl, hbA⟩ := id C0
  obtain ⟨hG, hpo, hS, hDv, hpm⟩ := id hIV
  have hn := hG.1.1
  have hN6 : 600000 ≤ 2000000000 := Nat.le_of_ble_eq_true rfl
  have hN100 : 100 ≤ 2000000000 := Nat.le_of_ble_eq_true rfl
  have hN100M := hN100
  have hN2 : 2000000000 ≤ 2000000000 := Nat.le_refl _
  have hRc : 601024 ≤ room_1.cells := Nat.le_refl _
  have hRs : 7293034 ≤ room_1.slots := Nat.le_refl _
  obtain ⟨hP, hD, hS0⟩ := hSt
  refine lv_aload_n hx hb dL_law_1023 rfl (lv_at hl 1 rfl) ?_
  have hP := wp_assoc.mp hP
  have hD := wd_assoc.mp hD
  obtain ⟨hPa, -⟩ := wp_app.mp hP
  obtain ⟨hDa, -, -⟩ := wd_app.mp hD
  have hFa := va_freeSame hDa hS0 hA
  refine va_calli (va_runV (As := []) (rest := []) ⟨hx, hb, hml, hown, hts⟩ (c_X6_improve l dC dI cy ad H.size v_ss v_ds ti (nI n) v_oma v_obr v_obj v_obo v_obm v_plo v_pch v_pbe v_pbl v_dnu v_dde v_dbo v_dln v_dld v_tba v_tal v_tro v_tsc v_tcl v_rma 2000000000 _ (s_improve (N := 2000000000) (Q := (fun (r : Int32) (oma : Nat → Int32) (obr obj obo obm : Int32) => r = (if (swA n (tN ti) g n).2 = 1000 then -1 else nI (lenN n (tN ti) (app g (swA n (tN ti) g n).2))) ∧ PL n oma (app g (swA n (tN ti) g n).2))) hN100 hG hpo (fun _ _ _ _ _ h => ⟨rfl, h⟩))) (cwV 0 hts gL_law_X6_improve rfl rfl rfl (by decide +kernel) ⟨Nat.le_of_ble_eq_true rfl, Nat.le_of_ble_eq_true rfl⟩) ⟨cPre_blind, va_recv hK hPa (ci := 6) (q0 := 0) rfl rfl, fun U hU hW => ⟨rfl, cPre_at hPa hK hDa hN hU hW⟩⟩ rfl rfl hl.1 rfl (lv_room (Nat.le_of_ble_eq_true rfl)) dL_law_1024 ⟨Nat.le_trans (show cells + 0 ≤ 601024 by omega) hRc, Nat.le_trans (show slots + 0 ≤ 7293034 by omega) hRs⟩) hS0 (fun q _ h => hFa q h) hFa (fun k u t H locs ht hvm hw hB hz1 hk1 hS0 => ?_)
  obtain ⟨hP, hD⟩ := wj_l hP hD hk1 hFa (cPost_P ht hB) hB.2.2
  have hP := wp_assoc.mpr hP
  have hD := wd_assoc.mpr hD
  try dsimp only at hw hP hD
  refine lv_aload_n hx hb dL_law_1027 rfl (lv_at hl 2 rfl) ?_
  obtain ⟨-, hPm⟩ := wp_app.mp hP
  obtain ⟨-, hDm, -⟩ := wd_app.mp hD
  have hFm := va_freeSame hDm hS0 hA
  refine va_calli (va_runV (As := []) (rest := [.int k]) ⟨hx, hb, hml, hown, hts⟩ (c_X7_improve l dC dI cy am H.size ti w_mow (nI n) w_mta w_mba w_mib w_mdi w_mab w_mbe w_mpl w_mbs w_mro w_mlo w_mth  2000000000 _ (t_improve (N := 2000000000) (Q := (fun (r : Int32) (mow mlo : Nat → Int32) (mth : Int32) => r = (if (swA n (tN ti) g n).2 = 1000 then -1 else nI (lenN n (tN ti) (app g (swA n (tN ti) g n).2))) ∧ PL n mow (app g (swA n (tN ti) g n).2))) hN100M hG hpm (fun _ _ h => ⟨rfl, h⟩))) (cwV 0 hts gL_law_X7_improve rfl rfl rfl (by decide +kernel) ⟨Nat.le_of_ble_eq_true rfl, Nat.le_of_ble_eq_true rfl⟩) ⟨cPre_blind, va_recv hK hPm (ci := 7) (q0 := 0) rfl rfl, fun U hU hW => ⟨rfl, cPre_at hPm hK hDm hN hU hW⟩⟩ rfl rfl hl.1 rfl (lv_room (Nat.le_of_ble_eq_true rfl)) dL_law_1028 ⟨Nat.le_trans (show cells + 0 + 0 ≤ 601024 by omega) hRc, Nat.le_trans (show slots + 0 + 0 ≤ 7293034 by omega) hRs⟩) hS0 (fun q _ h => hFm q h) hFm (fun r u2 t H locs ht hvm hq hB hz1 hk1 hS0 => ?_)
  obtain ⟨hP, hD⟩ := wj_r hP hD hk1 hFm (cPost_P ht hB) hB.2.2
  obtain ⟨u_oma, u_obr, u_obj, u_obo, u_obm⟩ := u
  obtain ⟨m_mow, m_mlo, m_mth⟩ := u2
  try dsimp only at hw hq hP hD
  exact lv_icmp_eq (tgt := 1049) hx hb dL_law_1031 (by decide) (fun _ => W.widen (show cells + 0 + 0 ≤ cells + 3 by omega) (show slots + 0 + 0 ≤ slots + 18 by omega) (hnext n ti (app g (swA n (tN ti) g n).2) v_ss v_ds (u_oma) (u_obr) (u_obj) (u_obo) (u_obm) v_plo v_pch v_pbe v_pbl v_dnu v_dde v_dbo v_dln v_dld v_tba v_tal v_tro v_tsc v_tcl v_rma ov (m_mow) w_mta w_mba w_mib w_mdi w_mab w_mbe w_mpl w_mbs w_mro (m_mlo) (m_mth) H locs ls ⟨hG.improved, hw.2, hS, hDv, hq.2⟩ ⟨hP, hD, hS0⟩ hl)) (fun h9 => absurd (hw.1.trans hq.1.symm) h9)
set_option maxHeartbeats 4000000 in
set_option maxRecDepth 100000 in
theorem law_22 (C0 : cxLaw p s m args meth c dC dI cy A b L xs) (hst : l.stackTraces = false)
    {n : Nat} {ti : Nat → Int32} {g : Nat → Nat} {v_ss : Int32} {v_ds : Int32} {v_oma : Nat → Int32} {v_obr : Int32} {v_obj : Int32} {v_obo : Int32} {v_obm : Int32} {v_plo : Nat → Int32} {v_pch : Nat → Int32} {v_pbe : Nat → Int32} {v_pbl : Int32} {v_dnu : Nat → Int32} {v_dde : Nat → Int32} {v_dbo : Int32} {v_dln : Int32} {v_dld : Int32} {v_tba : Nat → Int32} {v_tal : Nat → Int32} {v_tro : Int32} {v_tsc : Int64} {v_tcl : Nat → Nat → Int64} {v_rma : Nat → Int32} {ov : Nat → Int64} {w_mow : Nat → Int32} {w_mta : Nat → Int64} {w_mba : Nat → Int32} {w_mib : Nat → Int32} {w_mdi : Int64} {w_mab : Nat → Int64} {w_mbe : Nat → Int64} {w_mpl : Nat → Int32} {w_mbs : Nat → Int32} {w_mro : Nat → Int32} {w_mlo : Nat → Int32} {w_mth : Int32} {H : Heap} {locs : List Loc} {ls : Array Slot} {i : Int32} {cells slots : Nat} (hIV : IV n ti g v_oma v_ss v_pbl v_pbe v_ds v_dnu v_dde v_dbo v_dln v_dld v_rma w_mow) (hSt : stC dC dI A s ((wC ad cy v_ss v_ds ti (nI n) v_oma v_obr v_obj v_obo v_obm v_plo v_pch v_pbe v_pbl v_dnu v_dde v_dbo v_dln v_dld v_tba v_tal v_tro v_tsc v_tcl v_rma ++ oW ao cy ov) ++ wM am cy ti w_mow (nI n) w_mta w_mba w_mib w_mdi w_mab w_mbe w_mpl w_mbs w_mro w_mlo w_mth) H locs) (hl : lv_has ls 9 [(0, .ref b), (1, .ref (ad 0)), (2, .ref (am 0)), (3, .ref ao), (4, .int i)]) (hi1 : vp_in (i + 1) L) (hi2 : vp_in (i + 2) L) (hi3 : vp_in (i + 3) L) (hce : cells + 3 ≤ 601024) (hsl : slots + 18 ≤ 7293034)
    (hnext : ∀ (n : Nat) (ti : Nat → Int32) (g : Nat → Nat) (v_ss : Int32) (v_ds : Int32) (v_oma : Nat → Int32) (v_obr : Int32) (v_obj : Int32) (v_obo : Int32) (v_obm : Int32) (v_plo : Nat → Int32) (v_pch : Nat → Int32) (v_pbe : Nat → Int32) (v_pbl : Int32) (v_dnu : Nat → Int32) (v_dde : Nat → Int32) (v_dbo : Int32) (v_dln : Int32) (v_dld : Int32) (v_tba : Nat → Int32) (v_tal : Nat → Int32) (v_tro : Int32) (v_tsc : Int64) (v_tcl : Nat → Nat → Int64) (v_rma : Nat → Int32) (ov : Nat → Int64) (w_mow : Nat → Int32) (w_mta : Nat → Int64) (w_mba : Nat → Int32) (w_mib : Nat → Int32) (w_mdi : Int64) (w_mab : Nat → Int64) (w_mbe : Nat → Int64) (w_mpl : Nat → Int32) (w_mbs : Nat → Int32) (w_mro : Nat → Int32) (w_mlo : Nat → Int32) (w_mth : Int32) (H : Heap) (locs : List Loc) (ls : Array Slot), IV n ti g v_oma v_ss v_pbl v_pbe v_ds v_dnu v_dde v_dbo v_dln v_dld v_rma w_mow → stC dC dI A s ((wC ad cy v_ss v_ds ti (nI n) v_oma v_obr v_obj v_obo v_obm v_plo v_pch v_pbe v_pbl v_dnu v_dde v_dbo v_dln v_dld v_tba v_tal v_tro v_tsc v_tcl v_rma ++ oW ao cy ov) ++ wM am cy ti w_mow (nI n) w_mta w_mba w_mib w_mdi w_mab w_mbe w_mpl w_mbs w_mro w_mlo w_mth) H locs → lv_has ls 9 [(0, .ref b), (1, .ref (ad 0)), (2, .ref (am 0)), (3, .ref ao), (4, .int i)] → W p l e room_1 s m args below meth c H locs (cells + 3) (slots + 18) Z (F0 m 1049 ls [])) : W p l e room_1 s m args below meth c H locs cells slots Z (F0 m 1036 ls []) := by
  obtain ⟨hx, hb, hml, hr, hown, hts, hlocks, hK, hA, hN, hXw, hXs, hX, hbl, hbA⟩ := id C0
  obtain ⟨hG, hpo, hS, hDv, hpm⟩ := id hIV
  have hn := hG.1.1
  have hN6 : 600000 ≤ 2000000000 := Nat.le_of_ble_eq_true rfl
  have hN100 : 100 ≤ 2000000000 := Nat.le_of_ble_eq_true rfl
  have hN100M := hN100
  have hN2 : 2000000000 ≤ 2000000000 := Nat.le_refl _
  have hRc : 601024 ≤ room_1.cells := Nat.le_refl _
  have hRs : 7293034 ≤ room_1.slots := Nat.le_refl _
  obtain ⟨hP, hD, hS0⟩ := hSt
  refine lv_aload_n hx hb dL_law_1036 rfl (lv_at hl 1 rfl) ?_
  have hP := wp_assoc.mp hP
  have hD := wd_assoc.mp hD
  obtain ⟨hPa, -⟩ := wp_app.mp hP
  obtain ⟨hDa, -, -⟩ := wd_app.mp hD
  have hFa := va_freeSame hDa hS0 hA
  refine va_calli (va_runV (As := []) (rest := []) ⟨hx, hb, hml, hown, hts⟩ (c_X6_takeRounded l dC dI cy ad H.size v_ss v_ds ti (nI n) v_oma v_obr v_obj v_obo v_obm v_plo v_pch v_pbe v_pbl v_dnu v_dde v_dbo v_dln v_dld v_tba v_tal v_tro v_tsc v_tcl v_rma 2000000000 _ (s_takeRounded (N := 2000000000) (Q := (fun (r : Int32) (ds : Int32) (oma : Nat → Int32) (dnu : Nat → Int32) (dde : Nat → Int32) (dbo : Int32) (dln : Int32) (dld : Int32) (tba : Nat → Int32) (tal : Nat → Int32) (tro : Int32) (tsc : Int64) (tcl : Nat → Nat → Int64) (rma : Nat → Int32) => r = nI (tkN n g (rD n ti)) ∧ DInv n ti dnu dde dbo dln dld rma ∧ PL n oma (rD n ti))) hN6 hG hpo hDv (fun _ _ _ _ _ _ _ _ _ _ _ _ _ h1 h2 => ⟨rfl, h1, h2⟩))) (cwV 0 hts gL_law_X6_takeRounded rfl rfl rfl (by decide +kernel) ⟨Nat.le_of_ble_eq_true rfl, Nat.le_of_ble_eq_true rfl⟩) ⟨cPre_blind, va_recv hK hPa (ci := 6) (q0 := 0) rfl rfl, fun U hU hW => ⟨rfl, cPre_at hPa hK hDa hN hU hW⟩⟩ rfl rfl hl.1 rfl (lv_room (Nat.le_of_ble_eq_true rfl)) dL_law_1037 ⟨Nat.le_trans (show cells + 0 ≤ 601024 by omega) hRc, Nat.le_trans (show slots + 0 ≤ 7293034 by omega) hRs⟩) hS0 (fun q _ h => hFa q h) hFa (fun k u t H locs ht hvm hw hB hz1 hk1 hS0 => ?_)
  obtain ⟨hP, hD⟩ := wj_l hP hD hk1 hFa (cPost_P ht hB) hB.2.2
  have hP := wp_assoc.mpr hP
  have hD := wd_assoc.mpr hD
  try dsimp only at hw hP hD
  refine lv_aload_n hx hb dL_law_1040 rfl (lv_at hl 2 rfl) ?_
  obtain ⟨-, hPm⟩ := wp_app.mp hP
  obtain ⟨-, hDm, -⟩ := wd_app.mp hD
  have hFm := va_freeSame hDm hS0 hA
  refine va_calli (va_runV (As := []) (rest := [.int k]) ⟨hx, hb, hml, hown, hts⟩ (c_X7_takeRounded l dC dI cy am H.size ti w_mow (nI n) w_mta w_mba w_mib w_mdi w_mab w_mbe w_mpl w_mbs w_mro w_mlo w_mth  2000000000 _ (t_takeRounded (N := 2000000000) (Q := (fun (r : Int32) (mow : Nat → Int32) (mta : Nat → Int64) (mba : Nat → Int32) (mib : Nat → Int32) (mdi : Int64) (mab : Nat → Int64) (mbe : Nat → Int64) (mpl : Nat → Int32) (mro : Nat → Int32) (mth : Int32) => r = nI (tkN n g (rD n ti)) ∧ PL n mow (rD n ti))) hN2 hG hpm (fun _ _ _ _ _ _ _ _ _ h => ⟨rfl, h⟩))) (cwV 0 hts gL_law_X7_takeRounded rfl rfl rfl (by decide +kernel) ⟨Nat.le_of_ble_eq_true rfl, Nat.le_of_ble_eq_true rfl⟩) ⟨cPre_blind, va_recv hK hPm (ci := 7) (q0 := 0) rfl rfl, fun U hU hW => ⟨rfl, cPre_at hPm hK hDm hN hU hW⟩⟩ rfl rfl hl.1 rfl (lv_room (Nat.le_of_ble_eq_true rfl)) dL_law_1041 ⟨Nat.le_trans (show cells + 0 + 0 ≤ 601024 by omega) hRc, Nat.le_trans (show slots + 0 + 0 ≤ 7293034 by omega) hRs⟩) hS0 (fun q _ h => hFm q h) hFm (fun r u2 t H locs ht hvm hq hB hz1 hk1 hS0 => ?_)
  obtain ⟨hP, hD⟩ := wj_r hP hD hk1 hFm (cPost_P ht hB) hB.2.2
  obtain ⟨u_ds, u_oma, u_dnu, u_dde, u_dbo, u_dln, u_dld, u_tba, u_tal, u_tro, u_tsc, u_tcl, u_rma⟩ := u
  obtain ⟨m_mow, m_mta, m_mba, m_mib, m_mdi, m_mab, m_mbe, m_mpl, m_mro, m_mth⟩ := u2
  try dsimp only at hw hq hP hD
  exact lv_icmp_eq (tgt := 1049) hx hb dL_law_1044 (by decide) (fun _ => W.widen (show cells + 0 + 0 ≤ cells + 3 by omega) (show slots + 0 + 0 ≤ slots + 18 by omega) (hnext n ti (rD n ti) v_ss (u_ds) (u_oma) v_obr v_obj v_obo v_obm v_plo v_pch v_pbe v_pbl (u_dnu) (u_dde) (u_dbo) (u_dln) (u_dld) (u_tba) (u_tal) (u_tro) (u_tsc) (u_tcl) (u_rma) ov (m_mow) (m_mta) (m_mba) (m_mib) (m_mdi) (m_mab) (m_mbe) (m_mpl) w_mbs (m_mro) w_mlo (m_mth) H locs ls ⟨hG.rounded hw.2.1, hw.2.2, hS, (fun _ => hw.2.1), hq.2⟩ ⟨hP, hD, hS0⟩ hl)) (fun h9 => absurd (hw.1.trans hq.1.symm) h9)
end
