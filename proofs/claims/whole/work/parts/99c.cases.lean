section
variable {p : Program} {l : Launch} {e : Env} {s : State} {m : MethodId} {args : Array Value} {below : List Frame} {meth : Method} {c : Code} {dC : Nat → ClassId} {dI : Nat → Nat → Nat} {cy : Nat → ClassId} {A : Nat → Prop} {b L : Nat} {xs : Nat → Int32} {ad am : Nat → Nat} {ao : Nat} {Z : State → Prop}
set_option maxHeartbeats 4000000 in
set_option maxRecDepth 100000 in
theorem law_2 (C0 : cxLaw p s m args meth c dC dI cy A b L xs) (hst : l.stackTraces = false)
    {n : Nat} {ti : Nat → Int32} {g : Nat → Nat} {v_ss : Int32} {v_ds : Int32} {v_oma : Nat → Int32} {v_obr : Int32} {v_obj : Int32} {v_obo : Int32} {v_obm : Int32} {v_plo : Nat → Int32} {v_pch : Nat → Int32} {v_pbe : Nat → Int32} {v_pbl : Int32} {v_dnu : Nat → Int32} {v_dde : Nat → Int32} {v_dbo : Int32} {v_dln : Int32} {v_dld : Int32} {v_tba : Nat → Int32} {v_tal : Nat → Int32} {v_tro : Int32} {v_tsc : Int64} {v_tcl : Nat → Nat → Int64} {v_rma : Nat → Int32} {ov : Nat → Int64} {w_mow : Nat → Int32} {w_mta : Nat → Int64} {w_mba : Nat → Int32} {w_mib : Nat → Int32} {w_mdi : Int64} {w_mab : Nat → Int64} {w_mbe : Nat → Int64} {w_mpl : Nat → Int32} {w_mbs : Nat → Int32} {w_mro : Nat → Int32} {w_mlo : Nat → Int32} {w_mth : Int32} {H : Heap} {locs : List Loc} {ls : Array Slot} {i : Int32} {cells slots : Nat} (hIV : IV n ti g v_oma v_ss v_pbl v_pbe v_ds v_dnu v_dde v_dbo v_dln v_dld v_rma w_mow) (hSt : stC dC dI A s ((wC ad cy v_ss v_ds ti (nI n) v_oma v_obr v_obj v_obo v_obm v_plo v_pch v_pbe v_pbl v_dnu v_dde v_dbo v_dln v_dld v_tba v_tal v_tro v_tsc v_tcl v_rma ++ oW ao cy ov) ++ wM am cy ti w_mow (nI n) w_mta w_mba w_mib w_mdi w_mab w_mbe w_mpl w_mbs w_mro w_mlo w_mth) H locs) (hl : lv_has ls 9 [(0, .ref b), (1, .ref (ad 0)), (2, .ref (am 0)), (3, .ref ao), (4, .int i)]) (hi1 : vp_in (i + 1) L) (hi2 : vp_in (i + 2) L) (hi3 : vp_in (i + 3) L) (hce : cells + 3 ≤ 601024) (hsl : slots + 18 ≤ 7293034)
    (hnext : ∀ (n : Nat) (ti : Nat → Int32) (g : Nat → Nat) (v_ss : Int32) (v_ds : Int32) (v_oma : Nat → Int32) (v_obr : Int32) (v_obj : Int32) (v_obo : Int32) (v_obm : Int32) (v_plo : Nat → Int32) (v_pch : Nat → Int32) (v_pbe : Nat → Int32) (v_pbl : Int32) (v_dnu : Nat → Int32) (v_dde : Nat → Int32) (v_dbo : Int32) (v_dln : Int32) (v_dld : Int32) (v_tba : Nat → Int32) (v_tal : Nat → Int32) (v_tro : Int32) (v_tsc : Int64) (v_tcl : Nat → Nat → Int64) (v_rma : Nat → Int32) (ov : Nat → Int64) (w_mow : Nat → Int32) (w_mta : Nat → Int64) (w_mba : Nat → Int32) (w_mib : Nat → Int32) (w_mdi : Int64) (w_mab : Nat → Int64) (w_mbe : Nat → Int64) (w_mpl : Nat → Int32) (w_mbs : Nat → Int32) (w_mro : Nat → Int32) (w_mlo : Nat → Int32) (w_mth : Int32) (H : Heap) (locs : List Loc) (ls : Array Slot), IV n ti g v_oma v_ss v_pbl v_pbe v_ds v_dnu v_dde v_dbo v_dln v_dld v_rma w_mow → stC dC dI A s ((wC ad cy v_ss v_ds ti (nI n) v_oma v_obr v_obj v_obo v_obm v_plo v_pch v_pbe v_pbl v_dnu v_dde v_dbo v_dln v_dld v_tba v_tal v_tro v_tsc v_tcl v_rma ++ oW ao cy ov) ++ wM am cy ti w_mow (nI n) w_mta w_mba w_mib w_mdi w_mab w_mbe w_mpl w_mbs w_mro w_mlo w_mth) H locs → lv_has ls 9 [(0, .ref b), (1, .ref (ad 0)), (2, .ref (am 0)), (3, .ref ao), (4, .int i)] → W p l e room_1 s m args below meth c H locs (cells + 3) (slots + 18) Z (F0 m 1049 ls [])) : W p l e room_1 s m args below meth c H locs cells slots Z (F0 m 304 ls []) := by
  obtain ⟨hx, hb, hml, hr, hown, hts, hlocks, hK, hA, hN, hXw, hXs, hX, hbl, hbA⟩ := id C0
  obtain ⟨hG, hpo, hS, hDv, hpm⟩ := id hIV
  have hn := hG.1.1
  have hN6 : 600000 ≤ 2000000000 := Nat.le_of_ble_eq_true rfl
  have hN100 : 100 ≤ 2000000000 := Nat.le_of_ble_eq_true rfl
  have hN100M := hN100
  have hN2 : 2000000000 ≤ 2000000000 := Nat.le_refl _
  have hRc : 601024 ≤ room_1.cells := Nat.le_refl _
  have hRs : 7293034 ≤ room_1.slots := Nat.le_refl _
  obtain ⟨hP, hD, hS0⟩ := hSt
  refine lv_aload_n hx hb dL_law_304 rfl (lv_at hl 1 rfl) ?_
  have hP := wp_assoc.mp hP
  have hD := wd_assoc.mp hD
  obtain ⟨hPa, -⟩ := wp_app.mp hP
  obtain ⟨hDa, -, -⟩ := wd_app.mp hD
  have hFa := va_freeSame hDa hS0 hA
  refine va_calli (va_runV (As := []) (rest := []) ⟨hx, hb, hml, hown, hts⟩ (c_X6_removeLast l dC dI cy ad H.size v_ss v_ds ti (nI n) v_oma v_obr v_obj v_obo v_obm v_plo v_pch v_pbe v_pbl v_dnu v_dde v_dbo v_dln v_dld v_tba v_tal v_tro v_tsc v_tcl v_rma 2000000000 _ (s_removeLast (N := 2000000000) (Q := (fun (r ss ds co : Int32) => r = (if n = 0 then -1 else nI (n - 1)) ∧ co = nI (n - 1) ∧ (ss ≠ 0 → SInv (n - 1) ti v_pbl v_pbe) ∧ (ds ≠ 0 → DInv (n - 1) ti v_dnu v_dde v_dbo v_dln v_dld v_rma))) hn (fun hp => ⟨(if_neg (by omega)).symm, rfl, fun h => absurd rfl h, fun h => absurd rfl h⟩) (fun hz => ⟨(if_pos hz).symm, by rw [hz], by rw [hz] at hS ⊢; exact hS, by rw [hz] at hDv ⊢; exact hDv⟩))) (cwV 0 hts gL_law_X6_removeLast rfl rfl rfl (by decide +kernel) ⟨Nat.le_of_ble_eq_true rfl, Nat.le_of_ble_eq_true rfl⟩) ⟨cPre_blind, va_recv hK hPa (ci := 6) (q0 := 0) rfl rfl, fun U hU hW => ⟨rfl, cPre_at hPa hK hDa hN hU hW⟩⟩ rfl rfl hl.1 rfl (lv_room (Nat.le_of_ble_eq_true rfl)) dL_law_305 ⟨Nat.le_trans (show cells + 0 ≤ 601024 by omega) hRc, Nat.le_trans (show slots + 0 ≤ 7293034 by omega) hRs⟩) hS0 (fun q _ h => hFa q h) hFa (fun k u t H locs ht hvm hw hB hz1 hk1 hS0 => ?_)
  obtain ⟨hP, hD⟩ := wj_l hP hD hk1 hFa (cPost_P ht hB) hB.2.2
  have hP := wp_assoc.mpr hP
  have hD := wd_assoc.mpr hD
  try dsimp only at hw hP hD
  refine lv_aload_n hx hb dL_law_308 rfl (lv_at hl 2 rfl) ?_
  obtain ⟨-, hPm⟩ := wp_app.mp hP
  obtain ⟨-, hDm, -⟩ := wd_app.mp hD
  have hFm := va_freeSame hDm hS0 hA
  refine va_calli (va_runV (As := []) (rest := [.int k]) ⟨hx, hb, hml, hown, hts⟩ (c_X7_removeLast l dC dI cy am H.size ti w_mow (nI n) w_mta w_mba w_mib w_mdi w_mab w_mbe w_mpl w_mbs w_mro w_mlo w_mth  2000000000 _ (t_removeLast (N := 2000000000) (Q := (fun (r mjo mth : Int32) => r = (if n = 0 then -1 else nI (n - 1)) ∧ mjo = nI (n - 1))) hn (fun hp => ⟨(if_neg (by omega)).symm, rfl⟩) (fun hz => ⟨(if_pos hz).symm, by rw [hz]⟩))) (cwV 0 hts gL_law_X7_removeLast rfl rfl rfl (by decide +kernel) ⟨Nat.le_of_ble_eq_true rfl, Nat.le_of_ble_eq_true rfl⟩) ⟨cPre_blind, va_recv hK hPm (ci := 7) (q0 := 0) rfl rfl, fun U hU hW => ⟨rfl, cPre_at hPm hK hDm hN hU hW⟩⟩ rfl rfl hl.1 rfl (lv_room (Nat.le_of_ble_eq_true rfl)) dL_law_309 ⟨Nat.le_trans (show cells + 0 + 0 ≤ 601024 by omega) hRc, Nat.le_trans (show slots + 0 + 0 ≤ 7293034 by omega) hRs⟩) hS0 (fun q _ h => hFm q h) hFm (fun r u2 t H locs ht hvm hq hB hz1 hk1 hS0 => ?_)
  obtain ⟨hP, hD⟩ := wj_r hP hD hk1 hFm (cPost_P ht hB) hB.2.2
  obtain ⟨u_ss, u_ds, u_co⟩ := u
  obtain ⟨m_mjo, m_mth⟩ := u2
  try dsimp only at hw hq hP hD
  obtain ⟨hw1, rfl, hS2, hD2⟩ := hw
  obtain ⟨hq1, rfl⟩ := hq
  exact lv_icmp_eq (tgt := 1049) hx hb dL_law_312 (by decide) (fun _ => W.widen (show cells + 0 + 0 ≤ cells + 3 by omega) (show slots + 0 + 0 ≤ slots + 18 by omega) (hnext (n - 1) ti (g) (u_ss) (u_ds) v_oma v_obr v_obj v_obo v_obm v_plo v_pch v_pbe v_pbl v_dnu v_dde v_dbo v_dln v_dld v_tba v_tal v_tro v_tsc v_tcl v_rma ov w_mow w_mta w_mba w_mib w_mdi w_mab w_mbe w_mpl w_mbs w_mro w_mlo (m_mth) H locs ls ⟨hG.removeLast, (fun j hj => hpo j (by omega)), hS2, hD2, (fun j hj => hpm j (by omega))⟩ ⟨hP, hD, hS0⟩ hl)) (fun h9 => absurd (hw1.trans hq1.symm) h9)
set_option maxHeartbeats 4000000 in
set_option maxRecDepth 100000 in
theorem law_3 (C0 : cxLaw p s m args meth c dC dI cy A b L xs) (hst : l.stackTraces = false)
    {n : Nat} {ti : Nat → Int32} {g : Nat → Nat} {v_ss : Int32} {v_ds : Int32} {v_oma : Nat → Int32} {v_obr : Int32} {v_obj : Int32} {v_obo : Int32} {v_obm : Int32} {v_plo : Nat → Int32} {v_pch : Nat → Int32} {v_pbe : Nat → Int32} {v_pbl : Int32} {v_dnu : Nat → Int32} {v_dde : Nat → Int32} {v_dbo : Int32} {v_dln : Int32} {v_dld : Int32} {v_tba : Nat → Int32} {v_tal : Nat → Int32} {v_tro : Int32} {v_tsc : Int64} {v_tcl : Nat → Nat → Int64} {v_rma : Nat → Int32} {ov : Nat → Int64} {w_mow : Nat → Int32} {w_mta : Nat → Int64} {w_mba : Nat → Int32} {w_mib : Nat → Int32} {w_mdi : Int64} {w_mab : Nat → Int64} {w_mbe : Nat → Int64} {w_mpl : Nat → Int32} {w_mbs : Nat → Int32} {w_mro : Nat → Int32} {w_mlo : Nat → Int32} {w_mth : Int32} {H : Heap} {locs : List Loc} {ls : Array Slot} {i : Int32} {cells slots : Nat} (hIV : IV n ti g v_oma v_ss v_pbl v_pbe v_ds v_dnu v_dde v_dbo v_dln v_dld v_rma w_mow) (hSt : stC dC dI A s ((wC ad cy v_ss v_ds ti (nI n) v_oma v_obr v_obj v_obo v_obm v_plo v_pch v_pbe v_pbl v_dnu v_dde v_dbo v_dln v_dld v_tba v_tal v_tro v_tsc v_tcl v_rma ++ oW ao cy ov) ++ wM am cy ti w_mow (nI n) w_mta w_mba w_mib w_mdi w_mab w_mbe w_mpl w_mbs w_mro w_mlo w_mth) H locs) (hl : lv_has ls 9 [(0, .ref b), (1, .ref (ad 0)), (2, .ref (am 0)), (3, .ref ao), (4, .int i)]) (hi1 : vp_in (i + 1) L) (hi2 : vp_in (i + 2) L) (hi3 : vp_in (i + 3) L) (hce : cells + 3 ≤ 601024) (hsl : slots + 18 ≤ 7293034)
    (hnext : ∀ (n : Nat) (ti : Nat → Int32) (g : Nat → Nat) (v_ss : Int32) (v_ds : Int32) (v_oma : Nat → Int32) (v_obr : Int32) (v_obj : Int32) (v_obo : Int32) (v_obm : Int32) (v_plo : Nat → Int32) (v_pch : Nat → Int32) (v_pbe : Nat → Int32) (v_pbl : Int32) (v_dnu : Nat → Int32) (v_dde : Nat → Int32) (v_dbo : Int32) (v_dln : Int32) (v_dld : Int32) (v_tba : Nat → Int32) (v_tal : Nat → Int32) (v_tro : Int32) (v_tsc : Int64) (v_tcl : Nat → Nat → Int64) (v_rma : Nat → Int32) (ov : Nat → Int64) (w_mow : Nat → Int32) (w_mta : Nat → Int64) (w_mba : Nat → Int32) (w_mib : Nat → Int32) (w_mdi : Int64) (w_mab : Nat → Int64) (w_mbe : Nat → Int64) (w_mpl : Nat → Int32) (w_mbs : Nat → Int32) (w_mro : Nat → Int32) (w_mlo : Nat → Int32) (w_mth : Int32) (H : Heap) (locs : List Loc) (ls : Array Slot), IV n ti g v_oma v_ss v_pbl v_pbe v_ds v_dnu v_dde v_dbo v_dln v_dld v_rma w_mow → stC dC dI A s ((wC ad cy v_ss v_ds ti (nI n) v_oma v_obr v_obj v_obo v_obm v_plo v_pch v_pbe v_pbl v_dnu v_dde v_dbo v_dln v_dld v_tba v_tal v_tro v_tsc v_tcl v_rma ++ oW ao cy ov) ++ wM am cy ti w_mow (nI n) w_mta w_mba w_mib w_mdi w_mab w_mbe w_mpl w_mbs w_mro w_mlo w_mth) H locs → lv_has ls 9 [(0, .ref b), (1, .ref (ad 0)), (2, .ref (am 0)), (3, .ref ao), (4, .int i)] → W p l e room_1 s m args below meth c H locs (cells + 3) (slots + 18) Z (F0 m 1049 ls [])) : W p l e room_1 s m args below meth c H locs cells slots Z (F0 m 317 ls []) := by
  obtain ⟨hx, hb, hml, hr, hown, hts, hlocks, hK, hA, hN, hXw, hXs, hX, hbl, hbA⟩ := id C0
  obtain ⟨hG, hpo, hS, hDv, hpm⟩ := id hIV
  have hn := hG.1.1
  have hN6 : 600000 ≤ 2000000000 := Nat.le_of_ble_eq_true rfl
  have hN100 : 100 ≤ 2000000000 := Nat.le_of_ble_eq_true rfl
  have hN100M := hN100
  have hN2 : 2000000000 ≤ 2000000000 := Nat.le_refl _
  have hRc : 601024 ≤ room_1.cells := Nat.le_refl _
  have hRs : 7293034 ≤ room_1.slots := Nat.le_refl _
  obtain ⟨hP, hD, hS0⟩ := hSt
  refine lv_aload_n hx hb dL_law_317 rfl (lv_at hl 1 rfl) ?_
  have hP := wp_assoc.mp hP
  have hD := wd_assoc.mp hD
  obtain ⟨hPa, -⟩ := wp_app.mp hP
  obtain ⟨hDa, -, -⟩ := wd_app.mp hD
  have hFa := va_freeSame hDa hS0 hA
  refine va_calli (va_runV (As := []) (rest := []) ⟨hx, hb, hml, hown, hts⟩ (c_X6_jobs l dC dI cy ad H.size v_ss v_ds ti (nI n) v_oma v_obr v_obj v_obo v_obm v_plo v_pch v_pbe v_pbl v_dnu v_dde v_dbo v_dln v_dld v_tba v_tal v_tro v_tsc v_tcl v_rma 2000000000 _ (show p_X6_jobs 2000000000 (nI n) (fun (r : Int32)  => r = nI n ∧ True) from ⟨rfl, trivial⟩)) (cwV 0 hts gL_law_X6_jobs rfl rfl rfl (by decide +kernel) ⟨Nat.le_of_ble_eq_true rfl, Nat.le_of_ble_eq_true rfl⟩) ⟨cPre_blind, va_recv hK hPa (ci := 6) (q0 := 0) rfl rfl, fun U hU hW => ⟨rfl, cPre_at hPa hK hDa hN hU hW⟩⟩ rfl rfl hl.1 rfl (lv_room (Nat.le_of_ble_eq_true rfl)) dL_law_318 ⟨Nat.le_trans (show cells + 0 ≤ 601024 by omega) hRc, Nat.le_trans (show slots + 0 ≤ 7293034 by omega) hRs⟩) hS0 (fun q _ h => hFa q h) hFa (fun k u t H locs ht hvm hw hB hz1 hk1 hS0 => ?_)
  obtain ⟨hP, hD⟩ := wj_l hP hD hk1 hFa (cPost_P ht hB) hB.2.2
  have hP := wp_assoc.mpr hP
  have hD := wd_assoc.mpr hD
  try dsimp only at hw hP hD
  refine lv_aload_n hx hb dL_law_321 rfl (lv_at hl 2 rfl) ?_
  obtain ⟨-, hPm⟩ := wp_app.mp hP
  obtain ⟨-, hDm, -⟩ := wd_app.mp hD
  have hFm := va_freeSame hDm hS0 hA
  refine va_calli (va_runV (As := []) (rest := [.int k]) ⟨hx, hb, hml, hown, hts⟩ (c_X7_jobs l dC dI cy am H.size ti w_mow (nI n) w_mta w_mba w_mib w_mdi w_mab w_mbe w_mpl w_mbs w_mro w_mlo w_mth  2000000000 _ (t_jobs (N := 2000000000) (Q := (fun (r : Int32) (mth : Int32) => r = nI n))  rfl)) (cwV 0 hts gL_law_X7_jobs rfl rfl rfl (by decide +kernel) ⟨Nat.le_of_ble_eq_true rfl, Nat.le_of_ble_eq_true rfl⟩) ⟨cPre_blind, va_recv hK hPm (ci := 7) (q0 := 0) rfl rfl, fun U hU hW => ⟨rfl, cPre_at hPm hK hDm hN hU hW⟩⟩ rfl rfl hl.1 rfl (lv_room (Nat.le_of_ble_eq_true rfl)) dL_law_322 ⟨Nat.le_trans (show cells + 0 + 0 ≤ 601024 by omega) hRc, Nat.le_trans (show slots + 0 + 0 ≤ 7293034 by omega) hRs⟩) hS0 (fun q _ h => hFm q h) hFm (fun r u2 t H locs ht hvm hq hB hz1 hk1 hS0 => ?_)
  obtain ⟨hP, hD⟩ := wj_r hP hD hk1 hFm (cPost_P ht hB) hB.2.2
  try dsimp only at hw hq hP hD
  generalize eu8 : u2 = m_mth at hq hP hD; clear eu8
  exact lv_icmp_eq (tgt := 1049) hx hb dL_law_325 (by decide) (fun _ => W.widen (show cells + 0 + 0 ≤ cells + 3 by omega) (show slots + 0 + 0 ≤ slots + 18 by omega) (hnext n ti (g) v_ss v_ds v_oma v_obr v_obj v_obo v_obm v_plo v_pch v_pbe v_pbl v_dnu v_dde v_dbo v_dln v_dld v_tba v_tal v_tro v_tsc v_tcl v_rma ov w_mow w_mta w_mba w_mib w_mdi w_mab w_mbe w_mpl w_mbs w_mro w_mlo (m_mth) H locs ls ⟨hG, hpo, hS, hDv, hpm⟩ ⟨hP, hD, hS0⟩ hl)) (fun h9 => absurd (hw.1.trans hq.symm) h9)
set_option maxHeartbeats 4000000 in
set_option maxRecDepth 100000 in
theorem law_4 (C0 : cxLaw p s m args meth c dC dI cy A b L xs) (hst : l.stackTraces = false)
    {n : Nat} {ti : Nat → Int32} {g : Nat → Nat} {v_ss : Int32} {v_ds : Int32} {v_oma : Nat → Int32} {v_obr : Int32} {v_obj : Int32} {v_obo : Int32} {v_obm : Int32} {v_plo : Nat → Int32} {v_pch : Nat → Int32} {v_pbe : Nat → Int32} {v_pbl : Int32} {v_dnu : Nat → Int32} {v_dde : Nat → Int32} {v_dbo : Int32} {v_dln : Int32} {v_dld : Int32} {v_tba : Nat → Int32} {v_tal : Nat → Int32} {v_tro : Int32} {v_tsc : Int64} {v_tcl : Nat → Nat → Int64} {v_rma : Nat → Int32} {ov : Nat → Int64} {w_mow : Nat → Int32} {w_mta : Nat → Int64} {w_mba : Nat → Int32} {w_mib : Nat → Int32} {w_mdi : Int64} {w_mab : Nat → Int64} {w_mbe : Nat → Int64} {w_mpl : Nat → Int32} {w_mbs : Nat → Int32} {w_mro : Nat → Int32} {w_mlo : Nat → Int32} {w_mth : Int32} {H : Heap} {locs : List Loc} {ls : Array Slot} {i : Int32} {cells slots : Nat} (hIV : IV n ti g v_oma v_ss v_pbl v_pbe v_ds v_dnu v_dde v_dbo v_dln v_dld v_rma w_mow) (hSt : stC dC dI A s ((wC ad cy v_ss v_ds ti (nI n) v_oma v_obr v_obj v_obo v_obm v_plo v_pch v_pbe v_pbl v_dnu v_dde v_dbo v_dln v_dld v_tba v_tal v_tro v_tsc v_tcl v_rma ++ oW ao cy ov) ++ wM am cy ti w_mow (nI n) w_mta w_mba w_mib w_mdi w_mab w_mbe w_mpl w_mbs w_mro w_mlo w_mth) H locs) (hl : lv_has ls 9 [(0, .ref b), (1, .ref (ad 0)), (2, .ref (am 0)), (3, .ref ao), (4, .int i)]) (hi1 : vp_in (i + 1) L) (hi2 : vp_in (i + 2) L) (hi3 : vp_in (i + 3) L) (hce : cells + 3 ≤ 601024) (hsl : slots + 18 ≤ 7293034)
    (hnext : ∀ (n : Nat) (ti : Nat → Int32) (g : Nat → Nat) (v_ss : Int32) (v_ds : Int32) (v_oma : Nat → Int32) (v_obr : Int32) (v_obj : Int32) (v_obo : Int32) (v_obm : Int32) (v_plo : Nat → Int32) (v_pch : Nat → Int32) (v_pbe : Nat → Int32) (v_pbl : Int32) (v_dnu : Nat → Int32) (v_dde : Nat → Int32) (v_dbo : Int32) (v_dln : Int32) (v_dld : Int32) (v_tba : Nat → Int32) (v_tal : Nat → Int32) (v_tro : Int32) (v_tsc : Int64) (v_tcl : Nat → Nat → Int64) (v_rma : Nat → Int32) (ov : Nat → Int64) (w_mow : Nat → Int32) (w_mta : Nat → Int64) (w_mba : Nat → Int32) (w_mib : Nat → Int32) (w_mdi : Int64) (w_mab : Nat → Int64) (w_mbe : Nat → Int64) (w_mpl : Nat → Int32) (w_mbs : Nat → Int32) (w_mro : Nat → Int32) (w_mlo : Nat → Int32) (w_mth : Int32) (H : Heap) (locs : List Loc) (ls : Array Slot), IV n ti g v_oma v_ss v_pbl v_pbe v_ds v_dnu v_dde v_dbo v_dln v_dld v_rma w_mow → stC dC dI A s ((wC ad cy v_ss v_ds ti (nI n) v_oma v_obr v_obj v_obo v_obm v_plo v_pch v_pbe v_pbl v_dnu v_dde v_dbo v_dln v_dld v_tba v_tal v_tro v_tsc v_tcl v_rma ++ oW ao cy ov) ++ wM am cy ti w_mow (nI n) w_mta w_mba w_mib w_mdi w_mab w_mbe w_mpl w_mbs w_mro w_mlo w_mth) H locs → lv_has ls 9 [(0, .ref b), (1, .ref (ad 0)), (2, .ref (am 0)), (3, .ref ao), (4, .int i)] → W p l e room_1 s m args below meth c H locs (cells + 3) (slots + 18) Z (F0 m 1049 ls [])) : W p l e room_1 s m args below meth c H locs cells slots Z (F0 m 330 ls []) := by
  obtain ⟨hx, hb, hml, hr, hown, hts, hlocks, hK, hA, hN, hXw, hXs, hX, hbl, hbA⟩ := id C0
  obtain ⟨hG, hpo, hS, hDv, hpm⟩ := id hIV
  have hn := hG.1.1
  have hN6 : 600000 ≤ 2000000000 := Nat.le_of_ble_eq_true rfl
  have hN100 : 100 ≤ 2000000000 := Nat.le_of_ble_eq_true rfl
  have hN100M := hN100
  have hN2 : 2000000000 ≤ 2000000000 := Nat.le_refl _
  have hRc : 601024 ≤ room_1.cells := Nat.le_refl _
  have hRs : 7293034 ≤ room_1.slots := Nat.le_refl _
  obtain ⟨x1, ex1⟩ : ∃ y : Int32, y = xs (i + (1 : Int32)).toNatClampNeg := ⟨_, rfl⟩
  obtain ⟨x2, ex2⟩ : ∃ y : Int32, y = xs (i + (2 : Int32)).toNatClampNeg := ⟨_, rfl⟩
  obtain ⟨hP, hD, hS0⟩ := hSt
  refine lv_aload_n hx hb dL_law_330 rfl (lv_at hl 1 rfl) ?_
  refine lv_aload_n hx hb dL_law_331 rfl (lv_at hl 0 rfl) ?_
  refine lv_iload hx hb dL_law_332 (lv_at hl 4 rfl) ?_
  refine lv_iconst (v := (1 : Int32)) hx hb dL_law_334 (by decide) ?_
  refine lv_iadd hx hb dL_law_335 ?_
  refine va_sld hx hb hX hbl hbA hS0 hi1 dL_law_336 ?_
  rw [← ex1]
  refine lv_aload_n hx hb dL_law_337 rfl (lv_at hl 0 rfl) ?_
  refine lv_iload hx hb dL_law_338 (lv_at hl 4 rfl) ?_
  refine lv_iconst (v := (2 : Int32)) hx hb dL_law_340 (by decide) ?_
  refine lv_iadd hx hb dL_law_341 ?_
  refine va_sld hx hb hX hbl hbA hS0 hi2 dL_law_342 ?_
  rw [← ex2]
  refine lv_aload_n hx hb dL_law_343 rfl (lv_at hl 3 rfl) ?_
  obtain ⟨hPa, -⟩ := wp_app.mp hP
  obtain ⟨hDa, -, -⟩ := wd_app.mp hD
  have hFa := va_freeSame hDa hS0 hA
  refine va_calli (vx_runSW (As := [.ref (ad 0), .int x1, .int x2, .ref ao]) (rest := []) ⟨hx, hb, hml, hown, hts⟩ (c_L_time l dC dI cy ad H.size v_ss v_ds ti (nI n) v_oma v_obr v_obj v_obo v_obm v_plo v_pch v_pbe v_pbl v_dnu v_dde v_dbo v_dln v_dld v_tba v_tal v_tro v_tsc v_tcl v_rma x1 x2 2000000000 _ ao ov (¬ (jOK n x1 ∧ jOK 3 x2)) hst (s_time (N := 2000000000) (x1 := x1) (x2 := x2) (Q := (fun (r : Int32)  => ((jOK n x1 ∧ jOK 3 x2) ∧ r = ti (3 * (x1).toNatClampNeg + (x2).toNatClampNeg)) ∧ True)) (QX := (fun E => (E = "java/lang/IndexOutOfBoundsException" ∧ ¬ (jOK n x1 ∧ jOK 3 x2)))) hG (fun o1 o2  => ⟨⟨⟨o1, o2⟩, rfl⟩, trivial⟩) (fun o => ⟨rfl, o⟩))) (vx_cwSW 4 hts gL_law_L_time rfl rfl rfl (by decide +kernel) ⟨Nat.le_of_ble_eq_true rfl, Nat.le_of_ble_eq_true rfl⟩) ⟨cPreX_blind, fun U hU hW => ⟨rfl, cPreX_at hPa hK hDa hN hU hW hXw hXs hS0 hFa⟩⟩ rfl rfl hl.1 rfl (lv_room (Nat.le_of_ble_eq_true rfl)) dL_law_344 ⟨Nat.le_trans (show cells + 2 ≤ 601024 by omega) hRc, Nat.le_trans (show slots + 12 ≤ 7293034 by omega) hRs⟩) hS0 (fun q _ h => hFa q h) hFa (fun k u t H locs ht hvm hw hB hz1 hk1 hS0 => ?_)
  obtain ⟨hP, hD⟩ := wj_l hP hD hk1 hFa (cPost_P ht hB) hB.2.2
  obtain ⟨u, ov'⟩ := u
  try dsimp only at hw hP hD
  refine lv_istore (lv' := [(5, .int k), (0, .ref b), (1, .ref (ad 0)), (2, .ref (am 0)), (3, .ref ao), (4, .int i)]) hx hb dL_law_347 hl (by decide) rfl (fun ls hl => ?_)
  refine lv_aload_n hx hb dL_law_349 rfl (lv_at hl 3 rfl) ?_
  refine lv_aload_n hx hb dL_law_350 rfl (lv_at hl 1 rfl) ?_
  refine lv_iload hx hb dL_law_351 (lv_at hl 5 rfl) ?_
  refine lv_iconst (v := (1 : Int32)) hx hb dL_law_353 (by decide) ?_
  refine lv_iadd hx hb dL_law_354 ?_
  refine va_sld hx hb hX hbl hbA hS0 hi1 dL_law_355 ?_
  rw [← ex1]
  refine lv_aload_n hx hb dL_law_356 rfl (lv_at hl 1 rfl) ?_
  refine lv_iload hx hb dL_law_357 (lv_at hl 5 rfl) ?_
  refine lv_iconst (v := (2 : Int32)) hx hb dL_law_359 (by decide) ?_
  refine lv_iadd hx hb dL_law_360 ?_
  refine va_sld hx hb hX hbl hbA hS0 hi2 dL_law_361 ?_
  rw [← ex2]
  obtain ⟨-, hPm⟩ := wp_app.mp hP
  obtain ⟨-, hDm, -⟩ := wd_app.mp hD
  have hFm := va_freeSame hDm hS0 hA
  refine va_calli (va_runV (As := [.int x1, .int x2]) (rest := []) ⟨hx, hb, hml, hown, hts⟩ (c_X7_time l dC dI cy am H.size ti w_mow (nI n) w_mta w_mba w_mib w_mdi w_mab w_mbe w_mpl w_mbs w_mro w_mlo w_mth x1 x2 2000000000 _ (t_time (N := 2000000000) (x1 := x1) (x2 := x2) (Q := (fun (r : Int32) (mth : Int32) => ((jOK n x1 ∧ jOK 3 x2) ∧ r = ti (3 * (x1).toNatClampNeg + (x2).toNatClampNeg) ∧ mth = 0) ∨ (¬ (jOK n x1 ∧ jOK 3 x2) ∧ mth = 1))) hn (fun o1 o2  => Or.inl ⟨⟨o1, o2⟩, rfl, rfl⟩) (fun o => Or.inr ⟨o, rfl⟩))) (cwV 2 hts gL_law_X7_time rfl rfl rfl (by decide +kernel) ⟨Nat.le_of_ble_eq_true rfl, Nat.le_of_ble_eq_true rfl⟩) ⟨cPre_blind, va_recv hK hPm (ci := 7) (q0 := 0) rfl rfl, fun U hU hW => ⟨rfl, cPre_at hPm hK hDm hN hU hW⟩⟩ rfl rfl hl.1 rfl (lv_room (Nat.le_of_ble_eq_true rfl)) dL_law_362 ⟨Nat.le_trans (show cells + 2 + 0 ≤ 601024 by omega) hRc, Nat.le_trans (show slots + 12 + 0 ≤ 7293034 by omega) hRs⟩) hS0 (fun q _ h => hFm q h) hFm (fun r u2 t H locs ht hvm hq hB hz1 hk1 hS0 => ?_)
  obtain ⟨hP, hD⟩ := wj_r hP hD hk1 hFm (cPost_P ht hB) hB.2.2
  try dsimp only at hw hq hP hD
  generalize eu8 : u2 = m_mth at hq hP hD; clear eu8
  refine lv_istore (lv' := [(6, .int r), (5, .int k), (0, .ref b), (1, .ref (ad 0)), (2, .ref (am 0)), (3, .ref ao), (4, .int i)]) hx hb dL_law_365 hl (by decide) rfl (fun ls hl => ?_)
  refine lv_aload_n hx hb dL_law_367 rfl (lv_at hl 4 rfl) ?_
  obtain ⟨-, hPm⟩ := wp_app.mp hP
  obtain ⟨-, hDm, -⟩ := wd_app.mp hD
  have hFm := va_freeSame hDm hS0 hA
  refine va_calli (va_runV (As := []) (rest := []) ⟨hx, hb, hml, hown, hts⟩ (c_X7_thrown l dC dI cy am H.size ti w_mow (nI n) w_mta w_mba w_mib w_mdi w_mab w_mbe w_mpl w_mbs w_mro w_mlo m_mth 2000000000 (fun z => z = m_mth) rfl) (cwV 0 hts gL_law_X7_thrown rfl rfl rfl (by decide +kernel) ⟨Nat.le_of_ble_eq_true rfl, Nat.le_of_ble_eq_true rfl⟩) ⟨cPre_blind, va_recv hK hPm (ci := 7) (q0 := 0) rfl rfl, fun U hU hW => ⟨rfl, cPre_at hPm hK hDm hN hU hW⟩⟩ rfl rfl hl.1 rfl (lv_room (Nat.le_of_ble_eq_true rfl)) dL_law_368 ⟨Nat.le_trans (show cells + 2 + 0 + 0 ≤ 601024 by omega) hRc, Nat.le_trans (show slots + 12 + 0 + 0 ≤ 7293034 by omega) hRs⟩) hS0 (fun q _ h => hFm q h) hFm (fun th u3 t H locs ht hvm hth hB hz1 hk1 hS0 => ?_)
  obtain ⟨hP, hD⟩ := wj_r hP hD hk1 hFm (cPost_P ht hB) hB.2.2
  have hth : th = m_mth := hth
  have hfin : (m_mth = k ∧ (k = 0 → ov' 0 = r.toInt64)) ∧ True := by
    rcases hw with ⟨hk, r9, ⟨⟨ho, hv⟩, hi⟩, hov⟩ | ⟨hk, ho, hu⟩
    · rcases hq with ⟨-, hv2, hm0⟩ | ⟨ho2, -⟩
      · exact ⟨⟨by rw [hm0, hk], fun _ => by rw [hov, hv, hv2]⟩, hi⟩
      · exact absurd ho ho2
    · rcases hq with ⟨ho2, -⟩ | ⟨-, hm1⟩
      · exact absurd ho2 ho
      · exact ⟨⟨by rw [hm1, hk], fun h0 => absurd (hk.symm.trans h0) (by decide)⟩, trivial⟩
  refine lv_iload hx hb dL_law_371 (lv_at hl 1 rfl) ?_
  refine lv_icmp_eq (tgt := 378) hx hb dL_law_373 (by decide) (fun _ => ?_) (fun h9 => absurd (hth.trans hfin.1.1) h9)
  refine lv_iload hx hb dL_law_378 (lv_at hl 1 rfl) ?_
  have hend : W p l e room_1 s m args below meth c H locs (cells + 2 + 0 + 0) (slots + 12 + 0 + 0) Z (F0 m 395 ls []) := by
    refine lv_goto (tgt := 1049) hx hb dL_law_395 (by decide) ?_
    refine W.widen (show cells + 2 + 0 + 0 ≤ cells + 3 by omega) (show slots + 12 + 0 + 0 ≤ slots + 18 by omega) (hnext n ti (g) v_ss v_ds v_oma v_obr v_obj v_obo v_obm v_plo v_pch v_pbe v_pbl v_dnu v_dde v_dbo v_dln v_dld v_tba v_tal v_tro v_tsc v_tcl v_rma ov' w_mow w_mta w_mba w_mib w_mdi w_mab w_mbe w_mpl w_mbs w_mro w_mlo (m_mth) H locs ls ⟨hG, hpo, hS, hDv, hpm⟩ ⟨hP, hD, hS0⟩ (lv_sub hl [2, 3, 4, 5, 6] rfl))
  refine lv_if_ne (tgt := 395) hx hb dL_law_380 (by decide) (fun _ => hend) (fun hk0 => ?_)
  refine lv_aload_n hx hb dL_law_383 rfl (lv_at hl 5 rfl) ?_
  refine lv_iconst (v := (0 : Int32)) hx hb dL_law_384 (by decide) ?_
  refine va_lald hx hb hK hP 28 1 rfl rfl in01 dL_law_385 ?_
  refine lv_iload hx hb dL_law_386 (lv_at hl 0 rfl) ?_
  have hov0 : ov' (0 : Int32).toNatClampNeg = ov' 0 := congrArg ov' (by decide)
  refine lv_i2l (v := r.toInt64) hx hb dL_law_388 rfl ?_
  exact lq_eq (tgt := 395) hx hb dL_law_389 dL_law_390 (by decide) (fun _ => hend) (fun h9 => absurd (hov0.trans (hfin.1.2 hk0)) h9)
set_option maxHeartbeats 4000000 in
set_option maxRecDepth 100000 in
theorem law_5 (C0 : cxLaw p s m args meth c dC dI cy A b L xs) (hst : l.stackTraces = false)
    {n : Nat} {ti : Nat → Int32} {g : Nat → Nat} {v_ss : Int32} {v_ds : Int32} {v_oma : Nat → Int32} {v_obr : Int32} {v_obj : Int32} {v_obo : Int32} {v_obm : Int32} {v_plo : Nat → Int32} {v_pch : Nat → Int32} {v_pbe : Nat → Int32} {v_pbl : Int32} {v_dnu : Nat → Int32} {v_dde : Nat → Int32} {v_dbo : Int32} {v_dln : Int32} {v_dld : Int32} {v_tba : Nat → Int32} {v_tal : Nat → Int32} {v_tro : Int32} {v_tsc : Int64} {v_tcl : Nat → Nat → Int64} {v_rma : Nat → Int32} {ov : Nat → Int64} {w_mow : Nat → Int32} {w_mta : Nat → Int64} {w_mba : Nat → Int32} {w_mib : Nat → Int32} {w_mdi : Int64} {w_mab : Nat → Int64} {w_mbe : Nat → Int64} {w_mpl : Nat → Int32} {w_mbs : Nat → Int32} {w_mro : Nat → Int32} {w_mlo : Nat → Int32} {w_mth : Int32} {H : Heap} {locs : List Loc} {ls : Array Slot} {i : Int32} {cells slots : Nat} (hIV : IV n ti g v_oma v_ss v_pbl v_pbe v_ds v_dnu v_dde v_dbo v_dln v_dld v_rma w_mow) (hSt : stC dC dI A s ((wC ad cy v_ss v_ds ti (nI n) v_oma v_obr v_obj v_obo v_obm v_plo v_pch v_pbe v_pbl v_dnu v_dde v_dbo v_dln v_dld v_tba v_tal v_tro v_tsc v_tcl v_rma ++ oW ao cy ov) ++ wM am cy ti w_mow (nI n) w_mta w_mba w_mib w_mdi w_mab w_mbe w_mpl w_mbs w_mro w_mlo w_mth) H locs) (hl : lv_has ls 9 [(0, .ref b), (1, .ref (ad 0)), (2, .ref (am 0)), (3, .ref ao), (4, .int i)]) (hi1 : vp_in (i + 1) L) (hi2 : vp_in (i + 2) L) (hi3 : vp_in (i + 3) L) (hce : cells + 3 ≤ 601024) (hsl : slots + 18 ≤ 7293034)
    (hnext : ∀ (n : Nat) (ti : Nat → Int32) (g : Nat → Nat) (v_ss : Int32) (v_ds : Int32) (v_oma : Nat → Int32) (v_obr : Int32) (v_obj : Int32) (v_obo : Int32) (v_obm : Int32) (v_plo : Nat → Int32) (v_pch : Nat → Int32) (v_pbe : Nat → Int32) (v_pbl : Int32) (v_dnu : Nat → Int32) (v_dde : Nat → Int32) (v_dbo : Int32) (v_dln : Int32) (v_dld : Int32) (v_tba : Nat → Int32) (v_tal : Nat → Int32) (v_tro : Int32) (v_tsc : Int64) (v_tcl : Nat → Nat → Int64) (v_rma : Nat → Int32) (ov : Nat → Int64) (w_mow : Nat → Int32) (w_mta : Nat → Int64) (w_mba : Nat → Int32) (w_mib : Nat → Int32) (w_mdi : Int64) (w_mab : Nat → Int64) (w_mbe : Nat → Int64) (w_mpl : Nat → Int32) (w_mbs : Nat → Int32) (w_mro : Nat → Int32) (w_mlo : Nat → Int32) (w_mth : Int32) (H : Heap) (locs : List Loc) (ls : Array Slot), IV n ti g v_oma v_ss v_pbl v_pbe v_ds v_dnu v_dde v_dbo v_dln v_dld v_rma w_mow → stC dC dI A s ((wC ad cy v_ss v_ds ti (nI n) v_oma v_obr v_obj v_obo v_obm v_plo v_pch v_pbe v_pbl v_dnu v_dde v_dbo v_dln v_dld v_tba v_tal v_tro v_tsc v_tcl v_rma ++ oW ao cy ov) ++ wM am cy ti w_mow (nI n) w_mta w_mba w_mib w_mdi w_mab w_mbe w_mpl w_mbs w_mro w_mlo w_mth) H locs → lv_has ls 9 [(0, .ref b), (1, .ref (ad 0)), (2, .ref (am 0)), (3, .ref ao), (4, .int i)] → W p l e room_1 s m args below meth c H locs (cells + 3) (slots + 18) Z (F0 m 1049 ls [])) : W p l e room_1 s m args below meth c H locs cells slots Z (F0 m 398 ls []) := by
  obtain ⟨hx, hb, hml, hr, hown, hts, hlocks, hK, hA, hN, hXw, hXs, hX, hbl, hbA⟩ := id C0
  obtain ⟨hG, hpo, hS, hDv, hpm⟩ := id hIV
  have hn := hG.1.1
  have hN6 : 600000 ≤ 2000000000 := Nat.le_of_ble_eq_true rfl
  have hN100 : 100 ≤ 2000000000 := Nat.le_of_ble_eq_true rfl
  have hN100M := hN100
  have hN2 : 2000000000 ≤ 2000000000 := Nat.le_refl _
  have hRc : 601024 ≤ room_1.cells := Nat.le_refl _
  have hRs : 7293034 ≤ room_1.slots := Nat.le_refl _
  obtain ⟨hP, hD, hS0⟩ := hSt
  refine lv_aload_n hx hb dL_law_398 rfl (lv_at hl 1 rfl) ?_
  have hP := wp_assoc.mp hP
  have hD := wd_assoc.mp hD
  obtain ⟨hPa, -⟩ := wp_app.mp hP
  obtain ⟨hDa, -, -⟩ := wd_app.mp hD
  have hFa := va_freeSame hDa hS0 hA
  refine va_calli (va_runV (As := []) (rest := []) ⟨hx, hb, hml, hown, hts⟩ (c_X6_shortest l dC dI cy ad H.size v_ss v_ds ti (nI n) v_oma v_obr v_obj v_obo v_obm v_plo v_pch v_pbe v_pbl v_dnu v_dde v_dbo v_dln v_dld v_tba v_tal v_tro v_tsc v_tcl v_rma 2000000000 _ (s_shortest (N := 2000000000) (Q := (fun (r : Int32) (ss : Int32) (plo : Nat → Int32) (pch : Nat → Int32) (pbe : Nat → Int32) (pbl : Int32) => r = nI (bP n ti).2 ∧ (ss ≠ 0 → SInv n ti pbl pbe))) hN6 hG hS (fun _ _ _ _ _ h => ⟨rfl, (fun _ => h)⟩))) (cwV 0 hts gL_law_X6_shortest rfl rfl rfl (by decide +kernel) ⟨Nat.le_of_ble_eq_true rfl, Nat.le_of_ble_eq_true rfl⟩) ⟨cPre_blind, va_recv hK hPa (ci := 6) (q0 := 0) rfl rfl, fun U hU hW => ⟨rfl, cPre_at hPa hK hDa hN hU hW⟩⟩ rfl rfl hl.1 rfl (lv_room (Nat.le_of_ble_eq_true rfl)) dL_law_399 ⟨Nat.le_trans (show cells + 0 ≤ 601024 by omega) hRc, Nat.le_trans (show slots + 0 ≤ 7293034 by omega) hRs⟩) hS0 (fun q _ h => hFa q h) hFa (fun k u t H locs ht hvm hw hB hz1 hk1 hS0 => ?_)
  obtain ⟨hP, hD⟩ := wj_l hP hD hk1 hFa (cPost_P ht hB) hB.2.2
  have hP := wp_assoc.mpr hP
  have hD := wd_assoc.mpr hD
  try dsimp only at hw hP hD
  refine lv_aload_n hx hb dL_law_402 rfl (lv_at hl 2 rfl) ?_
  obtain ⟨-, hPm⟩ := wp_app.mp hP
  obtain ⟨-, hDm, -⟩ := wd_app.mp hD
  have hFm := va_freeSame hDm hS0 hA
  refine va_calli (va_runV (As := []) (rest := [.int k]) ⟨hx, hb, hml, hown, hts⟩ (c_X7_shortest l dC dI cy am H.size ti w_mow (nI n) w_mta w_mba w_mib w_mdi w_mab w_mbe w_mpl w_mbs w_mro w_mlo w_mth  2000000000 _ (t_shortest (N := 2000000000) (Q := (fun (r : Int32) (mpl : Nat → Int32) (mbs : Nat → Int32) (mlo : Nat → Int32) (mth : Int32) => r = nI (bP n ti).2)) hN2 hG (fun _ _ _ => rfl))) (cwV 0 hts gL_law_X7_shortest rfl rfl rfl (by decide +kernel) ⟨Nat.le_of_ble_eq_true rfl, Nat.le_of_ble_eq_true rfl⟩) ⟨cPre_blind, va_recv hK hPm (ci := 7) (q0 := 0) rfl rfl, fun U hU hW => ⟨rfl, cPre_at hPm hK hDm hN hU hW⟩⟩ rfl rfl hl.1 rfl (lv_room (Nat.le_of_ble_eq_true rfl)) dL_law_403 ⟨Nat.le_trans (show cells + 0 + 0 ≤ 601024 by omega) hRc, Nat.le_trans (show slots + 0 + 0 ≤ 7293034 by omega) hRs⟩) hS0 (fun q _ h => hFm q h) hFm (fun r u2 t H locs ht hvm hq hB hz1 hk1 hS0 => ?_)
  obtain ⟨hP, hD⟩ := wj_r hP hD hk1 hFm (cPost_P ht hB) hB.2.2
  obtain ⟨u_ss, u_plo, u_pch, u_pbe, u_pbl⟩ := u
  obtain ⟨m_mpl, m_mbs, m_mlo, m_mth⟩ := u2
  try dsimp only at hw hq hP hD
  exact lv_icmp_eq (tgt := 1049) hx hb dL_law_406 (by decide) (fun _ => W.widen (show cells + 0 + 0 ≤ cells + 3 by omega) (show slots + 0 + 0 ≤ slots + 18 by omega) (hnext n ti (g) (u_ss) v_ds v_oma v_obr v_obj v_obo v_obm (u_plo) (u_pch) (u_pbe) (u_pbl) v_dnu v_dde v_dbo v_dln v_dld v_tba v_tal v_tro v_tsc v_tcl v_rma ov w_mow w_mta w_mba w_mib w_mdi w_mab w_mbe (m_mpl) (m_mbs) w_mro (m_mlo) (m_mth) H locs ls ⟨hG, hpo, hw.2, hDv, hpm⟩ ⟨hP, hD, hS0⟩ hl)) (fun h9 => absurd (hw.1.trans hq.symm) h9)
set_option maxHeartbeats 4000000 in
set_option maxRecDepth 100000 in
theorem law_6 (C0 : cxLaw p s m args meth c dC dI cy A b L xs) (hst : l.stackTraces = false)
    {n : Nat} {ti : Nat → Int32} {g : Nat → Nat} {v_ss : Int32} {v_ds : Int32} {v_oma : Nat → Int32} {v_obr : Int32} {v_obj : Int32} {v_obo : Int32} {v_obm : Int32} {v_plo : Nat → Int32} {v_pch : Nat → Int32} {v_pbe : Nat → Int32} {v_pbl : Int32} {v_dnu : Nat → Int32} {v_dde : Nat → Int32} {v_dbo : Int32} {v_dln : Int32} {v_dld : Int32} {v_tba : Nat → Int32} {v_tal : Nat → Int32} {v_tro : Int32} {v_tsc : Int64} {v_tcl : Nat → Nat → Int64} {v_rma : Nat → Int32} {ov : Nat → Int64} {w_mow : Nat → Int32} {w_mta : Nat → Int64} {w_mba : Nat → Int32} {w_mib : Nat → Int32} {w_mdi : Int64} {w_mab : Nat → Int64} {w_mbe : Nat → Int64} {w_mpl : Nat → Int32} {w_mbs : Nat → Int32} {w_mro : Nat → Int32} {w_mlo : Nat → Int32} {w_mth : Int32} {H : Heap} {locs : List Loc} {ls : Array Slot} {i : Int32} {cells slots : Nat} (hIV : IV n ti g v_oma v_ss v_pbl v_pbe v_ds v_dnu v_dde v_dbo v_dln v_dld v_rma w_mow) (hSt : stC dC dI A s ((wC ad cy v_ss v_ds ti (nI n) v_oma v_obr v_obj v_obo v_obm v_plo v_pch v_pbe v_pbl v_dnu v_dde v_dbo v_dln v_dld v_tba v_tal v_tro v_tsc v_tcl v_rma ++ oW ao cy ov) ++ wM am cy ti w_mow (nI n) w_mta w_mba w_mib w_mdi w_mab w_mbe w_mpl w_mbs w_mro w_mlo w_mth) H locs) (hl : lv_has ls 9 [(0, .ref b), (1, .ref (ad 0)), (2, .ref (am 0)), (3, .ref ao), (4, .int i)]) (hi1 : vp_in (i + 1) L) (hi2 : vp_in (i + 2) L) (hi3 : vp_in (i + 3) L) (hce : cells + 3 ≤ 601024) (hsl : slots + 18 ≤ 7293034)
    (hnext : ∀ (n : Nat) (ti : Nat → Int32) (g : Nat → Nat) (v_ss : Int32) (v_ds : Int32) (v_oma : Nat → Int32) (v_obr : Int32) (v_obj : Int32) (v_obo : Int32) (v_obm : Int32) (v_plo : Nat → Int32) (v_pch : Nat → Int32) (v_pbe : Nat → Int32) (v_pbl : Int32) (v_dnu : Nat → Int32) (v_dde : Nat → Int32) (v_dbo : Int32) (v_dln : Int32) (v_dld : Int32) (v_tba : Nat → Int32) (v_tal : Nat → Int32) (v_tro : Int32) (v_tsc : Int64) (v_tcl : Nat → Nat → Int64) (v_rma : Nat → Int32) (ov : Nat → Int64) (w_mow : Nat → Int32) (w_mta : Nat → Int64) (w_mba : Nat → Int32) (w_mib : Nat → Int32) (w_mdi : Int64) (w_mab : Nat → Int64) (w_mbe : Nat → Int64) (w_mpl : Nat → Int32) (w_mbs : Nat → Int32) (w_mro : Nat → Int32) (w_mlo : Nat → Int32) (w_mth : Int32) (H : Heap) (locs : List Loc) (ls : Array Slot), IV n ti g v_oma v_ss v_pbl v_pbe v_ds v_dnu v_dde v_dbo v_dln v_dld v_rma w_mow → stC dC dI A s ((wC ad cy v_ss v_ds ti (nI n) v_oma v_obr v_obj v_obo v_obm v_plo v_pch v_pbe v_pbl v_dnu v_dde v_dbo v_dln v_dld v_tba v_tal v_tro v_tsc v_tcl v_rma ++ oW ao cy ov) ++ wM am cy ti w_mow (nI n) w_mta w_mba w_mib w_mdi w_mab w_mbe w_mpl w_mbs w_mro w_mlo w_mth) H locs → lv_has ls 9 [(0, .ref b), (1, .ref (ad 0)), (2, .ref (am 0)), (3, .ref ao), (4, .int i)] → W p l e room_1 s m args below meth c H locs (cells + 3) (slots + 18) Z (F0 m 1049 ls [])) : W p l e room_1 s m args below meth c H locs cells slots Z (F0 m 411 ls []) := by
  obtain ⟨hx, hb, hml, hr, hown, hts, hlocks, hK, hA, hN, hXw, hXs, hX, hbl, hbA⟩ := id C0
  obtain ⟨hG, hpo, hS, hDv, hpm⟩ := id hIV
  have hn := hG.1.1
  have hN6 : 600000 ≤ 2000000000 := Nat.le_of_ble_eq_true rfl
  have hN100 : 100 ≤ 2000000000 := Nat.le_of_ble_eq_true rfl
  have hN100M := hN100
  have hN2 : 2000000000 ≤ 2000000000 := Nat.le_refl _
  have hRc : 601024 ≤ room_1.cells := Nat.le_refl _
  have hRs : 7293034 ≤ room_1.slots := Nat.le_refl _
  obtain ⟨hP, hD, hS0⟩ := hSt
  refine lv_aload_n hx hb dL_law_411 rfl (lv_at hl 1 rfl) ?_
  have hP := wp_assoc.mp hP
  have hD := wd_assoc.mp hD
  obtain ⟨hPa, -⟩ := wp_app.mp hP
  obtain ⟨hDa, -, -⟩ := wd_app.mp hD
  have hFa := va_freeSame hDa hS0 hA
  refine va_calli (va_runV (As := []) (rest := []) ⟨hx, hb, hml, hown, hts⟩ (c_X6_shortestByTrying l dC dI cy ad H.size v_ss v_ds ti (nI n) v_oma v_obr v_obj v_obo v_obm v_plo v_pch v_pbe v_pbl v_dnu v_dde v_dbo v_dln v_dld v_tba v_tal v_tro v_tsc v_tcl v_rma 2000000000 _ (s_byTrying (N := 2000000000) (Q := (fun (r : Int32) (plo : Nat → Int32) => r = nI (bP n ti).2 ∧ True)) hN100 hG (fun _ => ⟨rfl, trivial⟩))) (cwV 0 hts gL_law_X6_shortestByTrying rfl rfl rfl (by decide +kernel) ⟨Nat.le_of_ble_eq_true rfl, Nat.le_of_ble_eq_true rfl⟩) ⟨cPre_blind, va_recv hK hPa (ci := 6) (q0 := 0) rfl rfl, fun U hU hW => ⟨rfl, cPre_at hPa hK hDa hN hU hW⟩⟩ rfl rfl hl.1 rfl (lv_room (Nat.le_of_ble_eq_true rfl)) dL_law_412 ⟨Nat.le_trans (show cells + 0 ≤ 601024 by omega) hRc, Nat.le_trans (show slots + 0 ≤ 7293034 by omega) hRs⟩) hS0 (fun q _ h => hFa q h) hFa (fun k u t H locs ht hvm hw hB hz1 hk1 hS0 => ?_)
  obtain ⟨hP, hD⟩ := wj_l hP hD hk1 hFa (cPost_P ht hB) hB.2.2
  have hP := wp_assoc.mpr hP
  have hD := wd_assoc.mpr hD
  try dsimp only at hw hP hD
  refine lv_aload_n hx hb dL_law_415 rfl (lv_at hl 2 rfl) ?_
  obtain ⟨-, hPm⟩ := wp_app.mp hP
  obtain ⟨-, hDm, -⟩ := wd_app.mp hD
  have hFm := va_freeSame hDm hS0 hA
  refine va_calli (va_runV (As := []) (rest := [.int k]) ⟨hx, hb, hml, hown, hts⟩ (c_X7_shortestByTrying l dC dI cy am H.size ti w_mow (nI n) w_mta w_mba w_mib w_mdi w_mab w_mbe w_mpl w_mbs w_mro w_mlo w_mth  2000000000 _ (t_byTrying (N := 2000000000) (Q := (fun (r : Int32) (mpl : Nat → Int32) (mbs : Nat → Int32) (mlo : Nat → Int32) (mth : Int32) => r = nI (bP n ti).2)) hN2 hG (fun _ _ _ => rfl))) (cwV 0 hts gL_law_X7_shortestByTrying rfl rfl rfl (by decide +kernel) ⟨Nat.le_of_ble_eq_true rfl, Nat.le_of_ble_eq_true rfl⟩) ⟨cPre_blind, va_recv hK hPm (ci := 7) (q0 := 0) rfl rfl, fun U hU hW => ⟨rfl, cPre_at hPm hK hDm hN hU hW⟩⟩ rfl rfl hl.1 rfl (lv_room (Nat.le_of_ble_eq_true rfl)) dL_law_416 ⟨Nat.le_trans (show cells + 0 + 0 ≤ 601024 by omega) hRc, Nat.le_trans (show slots + 0 + 0 ≤ 7293034 by omega) hRs⟩) hS0 (fun q _ h => hFm q h) hFm (fun r u2 t H locs ht hvm hq hB hz1 hk1 hS0 => ?_)
  obtain ⟨hP, hD⟩ := wj_r hP hD hk1 hFm (cPost_P ht hB) hB.2.2
  generalize eu9 : u = u_plo at hw hP hD; clear eu9
  obtain ⟨m_mpl, m_mbs, m_mlo, m_mth⟩ := u2
  try dsimp only at hw hq hP hD
  exact lv_icmp_eq (tgt := 1049) hx hb dL_law_419 (by decide) (fun _ => W.widen (show cells + 0 + 0 ≤ cells + 3 by omega) (show slots + 0 + 0 ≤ slots + 18 by omega) (hnext n ti (g) v_ss v_ds v_oma v_obr v_obj v_obo v_obm (u_plo) v_pch v_pbe v_pbl v_dnu v_dde v_dbo v_dln v_dld v_tba v_tal v_tro v_tsc v_tcl v_rma ov w_mow w_mta w_mba w_mib w_mdi w_mab w_mbe (m_mpl) (m_mbs) w_mro (m_mlo) (m_mth) H locs ls ⟨hG, hpo, hS, hDv, hpm⟩ ⟨hP, hD, hS0⟩ hl)) (fun h9 => absurd (hw.1.trans hq.symm) h9)
set_option maxHeartbeats 4000000 in
set_option maxRecDepth 100000 in
theorem law_7 (C0 : cxLaw p s m args meth c dC dI cy A b L xs) (hst : l.stackTraces = false)
    {n : Nat} {ti : Nat → Int32} {g : Nat → Nat} {v_ss : Int32} {v_ds : Int32} {v_oma : Nat → Int32} {v_obr : Int32} {v_obj : Int32} {v_obo : Int32} {v_obm : Int32} {v_plo : Nat → Int32} {v_pch : Nat → Int32} {v_pbe : Nat → Int32} {v_pbl : Int32} {v_dnu : Nat → Int32} {v_dde : Nat → Int32} {v_dbo : Int32} {v_dln : Int32} {v_dld : Int32} {v_tba : Nat → Int32} {v_tal : Nat → Int32} {v_tro : Int32} {v_tsc : Int64} {v_tcl : Nat → Nat → Int64} {v_rma : Nat → Int32} {ov : Nat → Int64} {w_mow : Nat → Int32} {w_mta : Nat → Int64} {w_mba : Nat → Int32} {w_mib : Nat → Int32} {w_mdi : Int64} {w_mab : Nat → Int64} {w_mbe : Nat → Int64} {w_mpl : Nat → Int32} {w_mbs : Nat → Int32} {w_mro : Nat → Int32} {w_mlo : Nat → Int32} {w_mth : Int32} {H : Heap} {locs : List Loc} {ls : Array Slot} {i : Int32} {cells slots : Nat} (hIV : IV n ti g v_oma v_ss v_pbl v_pbe v_ds v_dnu v_dde v_dbo v_dln v_dld v_rma w_mow) (hSt : stC dC dI A s ((wC ad cy v_ss v_ds ti (nI n) v_oma v_obr v_obj v_obo v_obm v_plo v_pch v_pbe v_pbl v_dnu v_dde v_dbo v_dln v_dld v_tba v_tal v_tro v_tsc v_tcl v_rma ++ oW ao cy ov) ++ wM am cy ti w_mow (nI n) w_mta w_mba w_mib w_mdi w_mab w_mbe w_mpl w_mbs w_mro w_mlo w_mth) H locs) (hl : lv_has ls 9 [(0, .ref b), (1, .ref (ad 0)), (2, .ref (am 0)), (3, .ref ao), (4, .int i)]) (hi1 : vp_in (i + 1) L) (hi2 : vp_in (i + 2) L) (hi3 : vp_in (i + 3) L) (hce : cells + 3 ≤ 601024) (hsl : slots + 18 ≤ 7293034)
    (hnext : ∀ (n : Nat) (ti : Nat → Int32) (g : Nat → Nat) (v_ss : Int32) (v_ds : Int32) (v_oma : Nat → Int32) (v_obr : Int32) (v_obj : Int32) (v_obo : Int32) (v_obm : Int32) (v_plo : Nat → Int32) (v_pch : Nat → Int32) (v_pbe : Nat → Int32) (v_pbl : Int32) (v_dnu : Nat → Int32) (v_dde : Nat → Int32) (v_dbo : Int32) (v_dln : Int32) (v_dld : Int32) (v_tba : Nat → Int32) (v_tal : Nat → Int32) (v_tro : Int32) (v_tsc : Int64) (v_tcl : Nat → Nat → Int64) (v_rma : Nat → Int32) (ov : Nat → Int64) (w_mow : Nat → Int32) (w_mta : Nat → Int64) (w_mba : Nat → Int32) (w_mib : Nat → Int32) (w_mdi : Int64) (w_mab : Nat → Int64) (w_mbe : Nat → Int64) (w_mpl : Nat → Int32) (w_mbs : Nat → Int32) (w_mro : Nat → Int32) (w_mlo : Nat → Int32) (w_mth : Int32) (H : Heap) (locs : List Loc) (ls : Array Slot), IV n ti g v_oma v_ss v_pbl v_pbe v_ds v_dnu v_dde v_dbo v_dln v_dld v_rma w_mow → stC dC dI A s ((wC ad cy v_ss v_ds ti (nI n) v_oma v_obr v_obj v_obo v_obm v_plo v_pch v_pbe v_pbl v_dnu v_dde v_dbo v_dln v_dld v_tba v_tal v_tro v_tsc v_tcl v_rma ++ oW ao cy ov) ++ wM am cy ti w_mow (nI n) w_mta w_mba w_mib w_mdi w_mab w_mbe w_mpl w_mbs w_mro w_mlo w_mth) H locs → lv_has ls 9 [(0, .ref b), (1, .ref (ad 0)), (2, .ref (am 0)), (3, .ref ao), (4, .int i)] → W p l e room_1 s m args below meth c H locs (cells + 3) (slots + 18) Z (F0 m 1049 ls [])) : W p l e room_1 s m args below meth c H locs cells slots Z (F0 m 424 ls []) := by
  obtain ⟨hx, hb, hml, hr, hown, hts, hlocks, hK, hA, hN, hXw, hXs, hX, hbl, hbA⟩ := id C0
  obtain ⟨hG, hpo, hS, hDv, hpm⟩ := id hIV
  have hn := hG.1.1
  have hN6 : 600000 ≤ 2000000000 := Nat.le_of_ble_eq_true rfl
  have hN100 : 100 ≤ 2000000000 := Nat.le_of_ble_eq_true rfl
  have hN100M := hN100
  have hN2 : 2000000000 ≤ 2000000000 := Nat.le_refl _
  have hRc : 601024 ≤ room_1.cells := Nat.le_refl _
  have hRs : 7293034 ≤ room_1.slots := Nat.le_refl _
  obtain ⟨x1, ex1⟩ : ∃ y : Int32, y = xs (i + (1 : Int32)).toNatClampNeg := ⟨_, rfl⟩
  obtain ⟨hP, hD, hS0⟩ := hSt
  refine lv_aload_n hx hb dL_law_424 rfl (lv_at hl 1 rfl) ?_
  refine lv_aload_n hx hb dL_law_425 rfl (lv_at hl 0 rfl) ?_
  refine lv_iload hx hb dL_law_426 (lv_at hl 4 rfl) ?_
  refine lv_iconst (v := (1 : Int32)) hx hb dL_law_428 (by decide) ?_
  refine lv_iadd hx hb dL_law_429 ?_
  refine va_sld hx hb hX hbl hbA hS0 hi1 dL_law_430 ?_
  rw [← ex1]
  refine lv_aload_n hx hb dL_law_431 rfl (lv_at hl 3 rfl) ?_
  obtain ⟨hPa, -⟩ := wp_app.mp hP
  obtain ⟨hDa, -, -⟩ := wd_app.mp hD
  have hFa := va_freeSame hDa hS0 hA
  refine va_calli (vx_runSW (As := [.ref (ad 0), .int x1, .ref ao]) (rest := []) ⟨hx, hb, hml, hown, hts⟩ (c_L_shortestMachine l dC dI cy ad H.size v_ss v_ds ti (nI n) v_oma v_obr v_obj v_obo v_obm v_plo v_pch v_pbe v_pbl v_dnu v_dde v_dbo v_dln v_dld v_tba v_tal v_tro v_tsc v_tcl v_rma x1 2000000000 _ ao ov (¬ jOK n x1) hst (s_shortestMachine (N := 2000000000) (x1 := x1) (Q := (fun (r : Int32) (ss : Int32) (plo : Nat → Int32) (pch : Nat → Int32) (pbe : Nat → Int32) (pbl : Int32) => (jOK n x1 ∧ r = nI ((bP n ti).1 (x1).toNatClampNeg)) ∧ (ss ≠ 0 → SInv n ti pbl pbe))) (QX := (fun E => (E = "java/lang/IndexOutOfBoundsException" ∧ ¬ jOK n x1))) hN6 hG hS (fun o1 _ _ _ _ _ h => ⟨⟨o1, rfl⟩, (fun _ => h)⟩) (fun o => ⟨rfl, o⟩))) (vx_cwSW 3 hts gL_law_L_shortestMachine rfl rfl rfl (by decide +kernel) ⟨Nat.le_of_ble_eq_true rfl, Nat.le_of_ble_eq_true rfl⟩) ⟨cPreX_blind, fun U hU hW => ⟨rfl, cPreX_at hPa hK hDa hN hU hW hXw hXs hS0 hFa⟩⟩ rfl rfl hl.1 rfl (lv_room (Nat.le_of_ble_eq_true rfl)) dL_law_432 ⟨Nat.le_trans (show cells + 1 ≤ 601024 by omega) hRc, Nat.le_trans (show slots + 6 ≤ 7293034 by omega) hRs⟩) hS0 (fun q _ h => hFa q h) hFa (fun k u t H locs ht hvm hw hB hz1 hk1 hS0 => ?_)
  obtain ⟨hP, hD⟩ := wj_l hP hD hk1 hFa (cPost_P ht hB) hB.2.2
  obtain ⟨u, ov'⟩ := u
  try dsimp only at hw hP hD
  refine lv_istore (lv' := [(5, .int k), (0, .ref b), (1, .ref (ad 0)), (2, .ref (am 0)), (3, .ref ao), (4, .int i)]) hx hb dL_law_435 hl (by decide) rfl (fun ls hl => ?_)
  refine lv_aload_n hx hb dL_law_437 rfl (lv_at hl 3 rfl) ?_
  refine lv_aload_n hx hb dL_law_438 rfl (lv_at hl 1 rfl) ?_
  refine lv_iload hx hb dL_law_439 (lv_at hl 5 rfl) ?_
  refine lv_iconst (v := (1 : Int32)) hx hb dL_law_441 (by decide) ?_
  refine lv_iadd hx hb dL_law_442 ?_
  refine va_sld hx hb hX hbl hbA hS0 hi1 dL_law_443 ?_
  rw [← ex1]
  obtain ⟨-, hPm⟩ := wp_app.mp hP
  obtain ⟨-, hDm, -⟩ := wd_app.mp hD
  have hFm := va_freeSame hDm hS0 hA
  refine va_calli (va_runV (As := [.int x1]) (rest := []) ⟨hx, hb, hml, hown, hts⟩ (c_X7_shortestMachine l dC dI cy am H.size ti w_mow (nI n) w_mta w_mba w_mib w_mdi w_mab w_mbe w_mpl w_mbs w_mro w_mlo w_mth x1 2000000000 _ (t_shortestMachine (N := 2000000000) (x1 := x1) (Q := (fun (r : Int32) (mpl : Nat → Int32) (mbs : Nat → Int32) (mlo : Nat → Int32) (mth : Int32) => (jOK n x1 ∧ r = nI ((bP n ti).1 (x1).toNatClampNeg) ∧ mth = 0) ∨ (¬ jOK n x1 ∧ mth = 1))) hN2 hG (fun o1 _ _ _ => Or.inl ⟨o1, rfl, rfl⟩) (fun o => Or.inr ⟨o, rfl⟩))) (cwV 1 hts gL_law_X7_shortestMachine rfl rfl rfl (by decide +kernel) ⟨Nat.le_of_ble_eq_true rfl, Nat.le_of_ble_eq_true rfl⟩) ⟨cPre_blind, va_recv hK hPm (ci := 7) (q0 := 0) rfl rfl, fun U hU hW => ⟨rfl, cPre_at hPm hK hDm hN hU hW⟩⟩ rfl rfl hl.1 rfl (lv_room (Nat.le_of_ble_eq_true rfl)) dL_law_444 ⟨Nat.le_trans (show cells + 1 + 0 ≤ 601024 by omega) hRc, Nat.le_trans (show slots + 6 + 0 ≤ 7293034 by omega) hRs⟩) hS0 (fun q _ h => hFm q h) hFm (fun r u2 t H locs ht hvm hq hB hz1 hk1 hS0 => ?_)
  obtain ⟨hP, hD⟩ := wj_r hP hD hk1 hFm (cPost_P ht hB) hB.2.2
  obtain ⟨u_ss, u_plo, u_pch, u_pbe, u_pbl⟩ := u
  obtain ⟨m_mpl, m_mbs, m_mlo, m_mth⟩ := u2
  try dsimp only at hw hq hP hD
  refine lv_istore (lv' := [(6, .int r), (5, .int k), (0, .ref b), (1, .ref (ad 0)), (2, .ref (am 0)), (3, .ref ao), (4, .int i)]) hx hb dL_law_447 hl (by decide) rfl (fun ls hl => ?_)
  refine lv_aload_n hx hb dL_law_449 rfl (lv_at hl 4 rfl) ?_
  obtain ⟨-, hPm⟩ := wp_app.mp hP
  obtain ⟨-, hDm, -⟩ := wd_app.mp hD
  have hFm := va_freeSame hDm hS0 hA
  refine va_calli (va_runV (As := []) (rest := []) ⟨hx, hb, hml, hown, hts⟩ (c_X7_thrown l dC dI cy am H.size ti w_mow (nI n) w_mta w_mba w_mib w_mdi w_mab w_mbe m_mpl m_mbs w_mro m_mlo m_mth 2000000000 (fun z => z = m_mth) rfl) (cwV 0 hts gL_law_X7_thrown rfl rfl rfl (by decide +kernel) ⟨Nat.le_of_ble_eq_true rfl, Nat.le_of_ble_eq_true rfl⟩) ⟨cPre_blind, va_recv hK hPm (ci := 7) (q0 := 0) rfl rfl, fun U hU hW => ⟨rfl, cPre_at hPm hK hDm hN hU hW⟩⟩ rfl rfl hl.1 rfl (lv_room (Nat.le_of_ble_eq_true rfl)) dL_law_450 ⟨Nat.le_trans (show cells + 1 + 0 + 0 ≤ 601024 by omega) hRc, Nat.le_trans (show slots + 6 + 0 + 0 ≤ 7293034 by omega) hRs⟩) hS0 (fun q _ h => hFm q h) hFm (fun th u3 t H locs ht hvm hth hB hz1 hk1 hS0 => ?_)
  obtain ⟨hP, hD⟩ := wj_r hP hD hk1 hFm (cPost_P ht hB) hB.2.2
  have hth : th = m_mth := hth
  have hfin : (m_mth = k ∧ (k = 0 → ov' 0 = r.toInt64)) ∧ (u_ss ≠ 0 → SInv n ti u_pbl u_pbe) := by
    rcases hw with ⟨hk, r9, ⟨⟨ho, hv⟩, hi⟩, hov⟩ | ⟨hk, ho, hu⟩
    · rcases hq with ⟨-, hv2, hm0⟩ | ⟨ho2, -⟩
      · exact ⟨⟨by rw [hm0, hk], fun _ => by rw [hov, hv, hv2]⟩, hi⟩
      · exact absurd ho ho2
    · rcases hq with ⟨ho2, -⟩ | ⟨-, hm1⟩
      · exact absurd ho2 ho
      · simp only [Prod.mk.injEq] at hu
        obtain ⟨rfl, rfl, rfl, rfl, rfl⟩ := hu
        exact ⟨⟨by rw [hm1, hk], fun h0 => absurd (hk.symm.trans h0) (by decide)⟩, hS⟩
  refine lv_iload hx hb dL_law_453 (lv_at hl 1 rfl) ?_
  refine lv_icmp_eq (tgt := 460) hx hb dL_law_455 (by decide) (fun _ => ?_) (fun h9 => absurd (hth.trans hfin.1.1) h9)
  refine lv_iload hx hb dL_law_460 (lv_at hl 1 rfl) ?_
  have hend : W p l e room_1 s m args below meth c H locs (cells + 1 + 0 + 0) (slots + 6 + 0 + 0) Z (F0 m 477 ls []) := by
    refine lv_goto (tgt := 1049) hx hb dL_law_477 (by decide) ?_
    refine W.widen (show cells + 1 + 0 + 0 ≤ cells + 3 by omega) (show slots + 6 + 0 + 0 ≤ slots + 18 by omega) (hnext n ti (g) (u_ss) v_ds v_oma v_obr v_obj v_obo v_obm (u_plo) (u_pch) (u_pbe) (u_pbl) v_dnu v_dde v_dbo v_dln v_dld v_tba v_tal v_tro v_tsc v_tcl v_rma ov' w_mow w_mta w_mba w_mib w_mdi w_mab w_mbe (m_mpl) (m_mbs) w_mro (m_mlo) (m_mth) H locs ls ⟨hG, hpo, hfin.2, hDv, hpm⟩ ⟨hP, hD, hS0⟩ (lv_sub hl [2, 3, 4, 5, 6] rfl))
  refine lv_if_ne (tgt := 477) hx hb dL_law_462 (by decide) (fun _ => hend) (fun hk0 => ?_)
  refine lv_aload_n hx hb dL_law_465 rfl (lv_at hl 5 rfl) ?_
  refine lv_iconst (v := (0 : Int32)) hx hb dL_law_466 (by decide) ?_
  refine va_lald hx hb hK hP 28 1 rfl rfl in01 dL_law_467 ?_
  refine lv_iload hx hb dL_law_468 (lv_at hl 0 rfl) ?_
  have hov0 : ov' (0 : Int32).toNatClampNeg = ov' 0 := congrArg ov' (by decide)
  refine lv_i2l (v := r.toInt64) hx hb dL_law_470 rfl ?_
  exact lq_eq (tgt := 477) hx hb dL_law_471 dL_law_472 (by decide) (fun _ => hend) (fun h9 => absurd (hov0.trans (hfin.1.2 hk0)) h9)
set_option maxHeartbeats 4000000 in
set_option maxRecDepth 100000 in
theorem law_8 (C0 : cxLaw p s m args meth c dC dI cy A b L xs) (hst : l.stackTraces = false)
    {n : Nat} {ti : Nat → Int32} {g : Nat → Nat} {v_ss : Int32} {v_ds : Int32} {v_oma : Nat → Int32} {v_obr : Int32} {v_obj : Int32} {v_obo : Int32} {v_obm : Int32} {v_plo : Nat → Int32} {v_pch : Nat → Int32} {v_pbe : Nat → Int32} {v_pbl : Int32} {v_dnu : Nat → Int32} {v_dde : Nat → Int32} {v_dbo : Int32} {v_dln : Int32} {v_dld : Int32} {v_tba : Nat → Int32} {v_tal : Nat → Int32} {v_tro : Int32} {v_tsc : Int64} {v_tcl : Nat → Nat → Int64} {v_rma : Nat → Int32} {ov : Nat → Int64} {w_mow : Nat → Int32} {w_mta : Nat → Int64} {w_mba : Nat → Int32} {w_mib : Nat → Int32} {w_mdi : Int64} {w_mab : Nat → Int64} {w_mbe : Nat → Int64} {w_mpl : Nat → Int32} {w_mbs : Nat → Int32} {w_mro : Nat → Int32} {w_mlo : Nat → Int32} {w_mth : Int32} {H : Heap} {locs : List Loc} {ls : Array Slot} {i : Int32} {cells slots : Nat} (hIV : IV n ti g v_oma v_ss v_pbl v_pbe v_ds v_dnu v_dde v_dbo v_dln v_dld v_rma w_mow) (hSt : stC dC dI A s ((wC ad cy v_ss v_ds ti (nI n) v_oma v_obr v_obj v_obo v_obm v_plo v_pch v_pbe v_pbl v_dnu v_dde v_dbo v_dln v_dld v_tba v_tal v_tro v_tsc v_tcl v_rma ++ oW ao cy ov) ++ wM am cy ti w_mow (nI n) w_mta w_mba w_mib w_mdi w_mab w_mbe w_mpl w_mbs w_mro w_mlo w_mth) H locs) (hl : lv_has ls 9 [(0, .ref b), (1, .ref (ad 0)), (2, .ref (am 0)), (3, .ref ao), (4, .int i)]) (hi1 : vp_in (i + 1) L) (hi2 : vp_in (i + 2) L) (hi3 : vp_in (i + 3) L) (hce : cells + 3 ≤ 601024) (hsl : slots + 18 ≤ 7293034)
    (hnext : ∀ (n : Nat) (ti : Nat → Int32) (g : Nat → Nat) (v_ss : Int32) (v_ds : Int32) (v_oma : Nat → Int32) (v_obr : Int32) (v_obj : Int32) (v_obo : Int32) (v_obm : Int32) (v_plo : Nat → Int32) (v_pch : Nat → Int32) (v_pbe : Nat → Int32) (v_pbl : Int32) (v_dnu : Nat → Int32) (v_dde : Nat → Int32) (v_dbo : Int32) (v_dln : Int32) (v_dld : Int32) (v_tba : Nat → Int32) (v_tal : Nat → Int32) (v_tro : Int32) (v_tsc : Int64) (v_tcl : Nat → Nat → Int64) (v_rma : Nat → Int32) (ov : Nat → Int64) (w_mow : Nat → Int32) (w_mta : Nat → Int64) (w_mba : Nat → Int32) (w_mib : Nat → Int32) (w_mdi : Int64) (w_mab : Nat → Int64) (w_mbe : Nat → Int64) (w_mpl : Nat → Int32) (w_mbs : Nat → Int32) (w_mro : Nat → Int32) (w_mlo : Nat → Int32) (w_mth : Int32) (H : Heap) (locs : List Loc) (ls : Array Slot), IV n ti g v_oma v_ss v_pbl v_pbe v_ds v_dnu v_dde v_dbo v_dln v_dld v_rma w_mow → stC dC dI A s ((wC ad cy v_ss v_ds ti (nI n) v_oma v_obr v_obj v_obo v_obm v_plo v_pch v_pbe v_pbl v_dnu v_dde v_dbo v_dln v_dld v_tba v_tal v_tro v_tsc v_tcl v_rma ++ oW ao cy ov) ++ wM am cy ti w_mow (nI n) w_mta w_mba w_mib w_mdi w_mab w_mbe w_mpl w_mbs w_mro w_mlo w_mth) H locs → lv_has ls 9 [(0, .ref b), (1, .ref (ad 0)), (2, .ref (am 0)), (3, .ref ao), (4, .int i)] → W p l e room_1 s m args below meth c H locs (cells + 3) (slots + 18) Z (F0 m 1049 ls [])) : W p l e room_1 s m args below meth c H locs cells slots Z (F0 m 480 ls []) := by
  obtain ⟨hx, hb, hml, hr, hown, hts, hlocks, hK, hA, hN, hXw, hXs, hX, hbl, hbA⟩ := id C0
  obtain ⟨hG, hpo, hS, hDv, hpm⟩ := id hIV
  have hn := hG.1.1
  have hN6 : 600000 ≤ 2000000000 := Nat.le_of_ble_eq_true rfl
  have hN100 : 100 ≤ 2000000000 := Nat.le_of_ble_eq_true rfl
  have hN100M := hN100
  have hN2 : 2000000000 ≤ 2000000000 := Nat.le_refl _
  have hRc : 601024 ≤ room_1.cells := Nat.le_refl _
  have hRs : 7293034 ≤ room_1.slots := Nat.le_refl _
  obtain ⟨hP, hD, hS0⟩ := hSt
  refine lv_aload_n hx hb dL_law_480 rfl (lv_at hl 1 rfl) ?_
  have hP := wp_assoc.mp hP
  have hD := wd_assoc.mp hD
  obtain ⟨hPa, -⟩ := wp_app.mp hP
  obtain ⟨hDa, -, -⟩ := wd_app.mp hD
  have hFa := va_freeSame hDa hS0 hA
  refine va_calli (va_runV (As := []) (rest := []) ⟨hx, hb, hml, hown, hts⟩ (c_X6_bound l dC dI cy ad H.size v_ss v_ds ti (nI n) v_oma v_obr v_obj v_obo v_obm v_plo v_pch v_pbe v_pbl v_dnu v_dde v_dbo v_dln v_dld v_tba v_tal v_tro v_tsc v_tcl v_rma 2000000000 _ (s_bound (N := 2000000000) (Q := (fun (r : Int32) (ds : Int32) (dnu : Nat → Int32) (dde : Nat → Int32) (dbo : Int32) (dln : Int32) (dld : Int32) (tba : Nat → Int32) (tal : Nat → Int32) (tro : Int32) (tsc : Int64) (tcl : Nat → Nat → Int64) (rma : Nat → Int32) => r = nI (tB n ti) ∧ (ds ≠ 0 → DInv n ti dnu dde dbo dln dld rma))) hN6 hG hDv (fun _ _ _ _ _ _ _ _ _ _ _ _ h => ⟨rfl, (fun _ => h)⟩))) (cwV 0 hts gL_law_X6_bound rfl rfl rfl (by decide +kernel) ⟨Nat.le_of_ble_eq_true rfl, Nat.le_of_ble_eq_true rfl⟩) ⟨cPre_blind, va_recv hK hPa (ci := 6) (q0 := 0) rfl rfl, fun U hU hW => ⟨rfl, cPre_at hPa hK hDa hN hU hW⟩⟩ rfl rfl hl.1 rfl (lv_room (Nat.le_of_ble_eq_true rfl)) dL_law_481 ⟨Nat.le_trans (show cells + 0 ≤ 601024 by omega) hRc, Nat.le_trans (show slots + 0 ≤ 7293034 by omega) hRs⟩) hS0 (fun q _ h => hFa q h) hFa (fun k u t H locs ht hvm hw hB hz1 hk1 hS0 => ?_)
  obtain ⟨hP, hD⟩ := wj_l hP hD hk1 hFa (cPost_P ht hB) hB.2.2
  have hP := wp_assoc.mpr hP
  have hD := wd_assoc.mpr hD
  try dsimp only at hw hP hD
  refine lv_aload_n hx hb dL_law_484 rfl (lv_at hl 2 rfl) ?_
  obtain ⟨-, hPm⟩ := wp_app.mp hP
  obtain ⟨-, hDm, -⟩ := wd_app.mp hD
  have hFm := va_freeSame hDm hS0 hA
  refine va_calli (va_runV (As := []) (rest := [.int k]) ⟨hx, hb, hml, hown, hts⟩ (c_X7_bound l dC dI cy am H.size ti w_mow (nI n) w_mta w_mba w_mib w_mdi w_mab w_mbe w_mpl w_mbs w_mro w_mlo w_mth  2000000000 _ (t_bound (N := 2000000000) (Q := (fun (r : Int32) (mta : Nat → Int64) (mba : Nat → Int32) (mib : Nat → Int32) (mdi : Int64) (mth : Int32) => r = nI (tB n ti))) hN2 hG (fun _ _ _ _ => rfl))) (cwV 0 hts gL_law_X7_bound rfl rfl rfl (by decide +kernel) ⟨Nat.le_of_ble_eq_true rfl, Nat.le_of_ble_eq_true rfl⟩) ⟨cPre_blind, va_recv hK hPm (ci := 7) (q0 := 0) rfl rfl, fun U hU hW => ⟨rfl, cPre_at hPm hK hDm hN hU hW⟩⟩ rfl rfl hl.1 rfl (lv_room (Nat.le_of_ble_eq_true rfl)) dL_law_485 ⟨Nat.le_trans (show cells + 0 + 0 ≤ 601024 by omega) hRc, Nat.le_trans (show slots + 0 + 0 ≤ 7293034 by omega) hRs⟩) hS0 (fun q _ h => hFm q h) hFm (fun r u2 t H locs ht hvm hq hB hz1 hk1 hS0 => ?_)
  obtain ⟨hP, hD⟩ := wj_r hP hD hk1 hFm (cPost_P ht hB) hB.2.2
  obtain ⟨u_ds, u_dnu, u_dde, u_dbo, u_dln, u_dld, u_tba, u_tal, u_tro, u_tsc, u_tcl, u_rma⟩ := u
  obtain ⟨m_mta, m_mba, m_mib, m_mdi, m_mth⟩ := u2
  try dsimp only at hw hq hP hD
  exact lv_icmp_eq (tgt := 1049) hx hb dL_law_488 (by decide) (fun _ => W.widen (show cells + 0 + 0 ≤ cells + 3 by omega) (show slots + 0 + 0 ≤ slots + 18 by omega) (hnext n ti (g) v_ss (u_ds) v_oma v_obr v_obj v_obo v_obm v_plo v_pch v_pbe v_pbl (u_dnu) (u_dde) (u_dbo) (u_dln) (u_dld) (u_tba) (u_tal) (u_tro) (u_tsc) (u_tcl) (u_rma) ov w_mow (m_mta) (m_mba) (m_mib) (m_mdi) w_mab w_mbe w_mpl w_mbs w_mro w_mlo (m_mth) H locs ls ⟨hG, hpo, hS, hw.2, hpm⟩ ⟨hP, hD, hS0⟩ hl)) (fun h9 => absurd (hw.1.trans hq.symm) h9)
end
