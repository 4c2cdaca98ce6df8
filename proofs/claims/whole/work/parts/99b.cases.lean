section
variable {p : Program} {l : Launch} {e : Env} {s : State} {m : MethodId} {args : Array Value} {below : List Frame} {meth : Method} {c : Code} {dC : Nat → ClassId} {dI : Nat → Nat → Nat} {cy : Nat → ClassId} {A : Nat → Prop} {b L : Nat} {xs : Nat → Int32} {ad am : Nat → Nat} {ao : Nat} {Z : State → Prop}
set_option maxHeartbeats 4000000 in
set_option maxRecDepth 100000 in
theorem law_0 (C0 : cxLaw p s m args meth c dC dI cy A b L xs) (hst : l.stackTraces = false)
    {n : Nat} {ti : Nat → Int32} {g : Nat → Nat} {v_ss : Int32} {v_ds : Int32} {v_oma : Nat → Int32} {v_obr : Int32} {v_obj : Int32} {v_obo : Int32} {v_obm : Int32} {v_plo : Nat → Int32} {v_pch : Nat → Int32} {v_pbe : Nat → Int32} {v_pbl : Int32} {v_dnu : Nat → Int32} {v_dde : Nat → Int32} {v_dbo : Int32} {v_dln : Int32} {v_dld : Int32} {v_tba : Nat → Int32} {v_tal : Nat → Int32} {v_tro : Int32} {v_tsc : Int64} {v_tcl : Nat → Nat → Int64} {v_rma : Nat → Int32} {ov : Nat → Int64} {w_mow : Nat → Int32} {w_mta : Nat → Int64} {w_mba : Nat → Int32} {w_mib : Nat → Int32} {w_mdi : Int64} {w_mab : Nat → Int64} {w_mbe : Nat → Int64} {w_mpl : Nat → Int32} {w_mbs : Nat → Int32} {w_mro : Nat → Int32} {w_mlo : Nat → Int32} {w_mth : Int32} {H : Heap} {locs : List Loc} {ls : Array Slot} {i : Int32} {cells slots : Nat} (hIV : IV n ti g v_oma v_ss v_pbl v_pbe v_ds v_dnu v_dde v_dbo v_dln v_dld v_rma w_mow) (hSt : stC dC dI A s ((wC ad cy v_ss v_ds ti (nI n) v_oma v_obr v_obj v_obo v_obm v_plo v_pch v_pbe v_pbl v_dnu v_dde v_dbo v_dln v_dld v_tba v_tal v_tro v_tsc v_tcl v_rma ++ oW ao cy ov) ++ wM am cy ti w_mow (nI n) w_mta w_mba w_mib w_mdi w_mab w_mbe w_mpl w_mbs w_mro w_mlo w_mth) H locs) (hl : lv_has ls 9 [(0, .ref b), (1, .ref (ad 0)), (2, .ref (am 0)), (3, .ref ao), (4, .int i)]) (hi1 : vp_in (i + 1) L) (hi2 : vp_in (i + 2) L) (hi3 : vp_in (i + 3) L) (hce : cells + 3 ≤ 601024) (hsl : slots + 18 ≤ 7293034)
    (hnext : ∀ (n : Nat) (ti : Nat → Int32) (g : Nat → Nat) (v_ss : Int32) (v_ds : Int32) (v_oma : Nat → Int32) (v_obr : Int32) (v_obj : Int32) (v_obo : Int32) (v_obm : Int32) (v_plo : Nat → Int32) (v_pch : Nat → Int32) (v_pbe : Nat → Int32) (v_pbl : Int32) (v_dnu : Nat → Int32) (v_dde : Nat → Int32) (v_dbo : Int32) (v_dln : Int32) (v_dld : Int32) (v_tba : Nat → Int32) (v_tal : Nat → Int32) (v_tro : Int32) (v_tsc : Int64) (v_tcl : Nat → Nat → Int64) (v_rma : Nat → Int32) (ov : Nat → Int64) (w_mow : Nat → Int32) (w_mta : Nat → Int64) (w_mba : Nat → Int32) (w_mib : Nat → Int32) (w_mdi : Int64) (w_mab : Nat → Int64) (w_mbe : Nat → Int64) (w_mpl : Nat → Int32) (w_mbs : Nat → Int32) (w_mro : Nat → Int32) (w_mlo : Nat → Int32) (w_mth : Int32) (H : Heap) (locs : List Loc) (ls : Array Slot), IV n ti g v_oma v_ss v_pbl v_pbe v_ds v_dnu v_dde v_dbo v_dln v_dld v_rma w_mow → stC dC dI A s ((wC ad cy v_ss v_ds ti (nI n) v_oma v_obr v_obj v_obo v_obm v_plo v_pch v_pbe v_pbl v_dnu v_dde v_dbo v_dln v_dld v_tba v_tal v_tro v_tsc v_tcl v_rma ++ oW ao cy ov) ++ wM am cy ti w_mow (nI n) w_mta w_mba w_mib w_mdi w_mab w_mbe w_mpl w_mbs w_mro w_mlo w_mth) H locs → lv_has ls 9 [(0, .ref b), (1, .ref (ad 0)), (2, .ref (am 0)), (3, .ref ao), (4, .int i)] → W p l e room_1 s m args below meth c H locs (cells + 3) (slots + 18) Z (F0 m 1049 ls [])) : W p l e room_1 s m args below meth c H locs cells slots Z (F0 m 144 ls []) := by
  obtain ⟨hx, hb, hml, hr, hown, hts, hlocks, hK, hA, hN, hXw, hXs, hX, hbl, hbA⟩ := id C0
  obtain ⟨hG, hpo, hS, hDv, hpm⟩ := id hIV
  have hn := hG.1.1
  have hN6 : 600000 ≤ 2000000000 := Nat.le_of_ble_eq_true rfl
  have hN100 : 100 ≤ 2000000000 := Nat.le_of_ble_eq_true rfl
  have hN100M := hN100
  have hN2 : 2000000000 ≤ 2000000000 := Nat.le_refl _
  have hRc : 601024 ≤ room_1.cells := Nat.le_refl _
  have hRs : 7293034 ≤ room_1.slots := Nat.le_refl _
  obtain ⟨x1, ex1⟩ : ∃ y : Int32, y = xs (i + (1 : Int32)).toNatClampNeg := ⟨_, rfl⟩
  obtain ⟨x2, ex2⟩ : ∃ y : Int32, y = xs (i + (2 : Int32)).toNatClampNeg := ⟨_, rfl⟩
  obtain ⟨x3, ex3⟩ : ∃ y : Int32, y = xs (i + (3 : Int32)).toNatClampNeg := ⟨_, rfl⟩
  obtain ⟨hP, hD, hS0⟩ := hSt
  refine lv_aload_n hx hb dL_law_144 rfl (lv_at hl 1 rfl) ?_
  refine lv_aload_n hx hb dL_law_145 rfl (lv_at hl 0 rfl) ?_
  refine lv_iload hx hb dL_law_146 (lv_at hl 4 rfl) ?_
  refine lv_iconst (v := (1 : Int32)) hx hb dL_law_148 (by decide) ?_
  refine lv_iadd hx hb dL_law_149 ?_
  refine va_sld hx hb hX hbl hbA hS0 hi1 dL_law_150 ?_
  rw [← ex1]
  refine lv_aload_n hx hb dL_law_151 rfl (lv_at hl 0 rfl) ?_
  refine lv_iload hx hb dL_law_152 (lv_at hl 4 rfl) ?_
  refine lv_iconst (v := (2 : Int32)) hx hb dL_law_154 (by decide) ?_
  refine lv_iadd hx hb dL_law_155 ?_
  refine va_sld hx hb hX hbl hbA hS0 hi2 dL_law_156 ?_
  rw [← ex2]
  refine lv_aload_n hx hb dL_law_157 rfl (lv_at hl 0 rfl) ?_
  refine lv_iload hx hb dL_law_158 (lv_at hl 4 rfl) ?_
  refine lv_iconst (v := (3 : Int32)) hx hb dL_law_160 (by decide) ?_
  refine lv_iadd hx hb dL_law_161 ?_
  refine va_sld hx hb hX hbl hbA hS0 hi3 dL_law_162 ?_
  rw [← ex3]
  refine lv_aload_n hx hb dL_law_163 rfl (lv_at hl 3 rfl) ?_
  obtain ⟨hPa, -⟩ := wp_app.mp hP
  obtain ⟨hDa, -, -⟩ := wd_app.mp hD
  have hFa := va_freeSame hDa hS0 hA
  refine va_calli (vx_runSW (As := [.ref (ad 0), .int x1, .int x2, .int x3, .ref ao]) (rest := []) ⟨hx, hb, hml, hown, hts⟩ (c_L_addJob l dC dI cy ad H.size v_ss v_ds ti (nI n) v_oma v_obr v_obj v_obo v_obm v_plo v_pch v_pbe v_pbl v_dnu v_dde v_dbo v_dln v_dld v_tba v_tal v_tro v_tsc v_tcl v_rma x1 x2 x3 2000000000 _ ao ov (¬ tAll x1 x2 x3) ((tAll x1 x2 x3 ∧ ¬ n < 7)) hst (s_addJob (N := 2000000000) (x1 := x1) (x2 := x2) (x3 := x3) (Q := (fun (r ss ds : Int32) (ti' : Nat → Int32) (co : Int32) (oma : Nat → Int32) => (tAll x1 x2 x3 ∧ n < 7) ∧ r = nI n ∧ ss = 0 ∧ ds = 0 ∧ ti' = upJ ti n x1 x2 x3 ∧ co = nI (n + 1) ∧ PL (n + 1) oma (stp g n (lowm x1 x2)))) (QX := (fun E => (E = "java/lang/IllegalArgumentException" ∧ ¬ tAll x1 x2 x3) ∨ (E = "java/lang/IllegalStateException" ∧ (tAll x1 x2 x3 ∧ ¬ n < 7)))) hn hpo (fun o h _ hp => ⟨⟨o, h⟩, rfl, rfl, rfl, rfl, rfl, hp⟩) (fun o h => Or.inr ⟨rfl, o, h⟩) (fun o => Or.inl ⟨rfl, o⟩))) (vx_cwSW 5 hts gL_law_L_addJob rfl rfl rfl (by decide +kernel) ⟨Nat.le_of_ble_eq_true rfl, Nat.le_of_ble_eq_true rfl⟩) ⟨cPreX_blind, fun U hU hW => ⟨rfl, cPreX_at hPa hK hDa hN hU hW hXw hXs hS0 hFa⟩⟩ rfl rfl hl.1 rfl (lv_room (Nat.le_of_ble_eq_true rfl)) dL_law_164 ⟨Nat.le_trans (show cells + 1 ≤ 601024 by omega) hRc, Nat.le_trans (show slots + 6 ≤ 7293034 by omega) hRs⟩) hS0 (fun q _ h => hFa q h) hFa (fun k u t H locs ht hvm hw hB hz1 hk1 hS0 => ?_)
  obtain ⟨hP, hD⟩ := wj_l hP hD hk1 hFa (cPost_P ht hB) hB.2.2
  obtain ⟨u, ov'⟩ := u
  try dsimp only at hw hP hD
  refine lv_istore (lv' := [(5, .int k), (0, .ref b), (1, .ref (ad 0)), (2, .ref (am 0)), (3, .ref ao), (4, .int i)]) hx hb dL_law_167 hl (by decide) rfl (fun ls hl => ?_)
  refine lv_aload_n hx hb dL_law_169 rfl (lv_at hl 3 rfl) ?_
  refine lv_aload_n hx hb dL_law_170 rfl (lv_at hl 1 rfl) ?_
  refine lv_iload hx hb dL_law_171 (lv_at hl 5 rfl) ?_
  refine lv_iconst (v := (1 : Int32)) hx hb dL_law_173 (by decide) ?_
  refine lv_iadd hx hb dL_law_174 ?_
  refine va_sld hx hb hX hbl hbA hS0 hi1 dL_law_175 ?_
  rw [← ex1]
  refine lv_aload_n hx hb dL_law_176 rfl (lv_at hl 1 rfl) ?_
  refine lv_iload hx hb dL_law_177 (lv_at hl 5 rfl) ?_
  refine lv_iconst (v := (2 : Int32)) hx hb dL_law_179 (by decide) ?_
  refine lv_iadd hx hb dL_law_180 ?_
  refine va_sld hx hb hX hbl hbA hS0 hi2 dL_law_181 ?_
  rw [← ex2]
  refine lv_aload_n hx hb dL_law_182 rfl (lv_at hl 1 rfl) ?_
  refine lv_iload hx hb dL_law_183 (lv_at hl 5 rfl) ?_
  refine lv_iconst (v := (3 : Int32)) hx hb dL_law_185 (by decide) ?_
  refine lv_iadd hx hb dL_law_186 ?_
  refine va_sld hx hb hX hbl hbA hS0 hi3 dL_law_187 ?_
  rw [← ex3]
  obtain ⟨-, hPm⟩ := wp_app.mp hP
  obtain ⟨-, hDm, -⟩ := wd_app.mp hD
  have hFm := va_freeSame hDm hS0 hA
  refine va_calli (va_runV (As := [.int x1, .int x2, .int x3]) (rest := []) ⟨hx, hb, hml, hown, hts⟩ (c_X7_addJob l dC dI cy am H.size ti w_mow (nI n) w_mta w_mba w_mib w_mdi w_mab w_mbe w_mpl w_mbs w_mro w_mlo w_mth x1 x2 x3 2000000000 _ (t_addJob (N := 2000000000) (x1 := x1) (x2 := x2) (x3 := x3) (Q := (fun (r : Int32) (mti mow : Nat → Int32) (mjo mth : Int32) => ((tAll x1 x2 x3 ∧ n < 7) ∧ r = nI n ∧ mti = upJ ti n x1 x2 x3 ∧ mjo = nI (n + 1) ∧ PL (n + 1) mow (stp g n (lowm x1 x2)) ∧ mth = 0) ∨ (¬ tAll x1 x2 x3 ∧ (ti = mti ∧ w_mow = mow ∧ nI n = mjo) ∧ mth = 1) ∨ ((tAll x1 x2 x3 ∧ ¬ n < 7) ∧ (ti = mti ∧ w_mow = mow ∧ nI n = mjo) ∧ mth = 2))) hN100M hn hpm (fun o h _ hp => Or.inl ⟨⟨o, h⟩, rfl, rfl, rfl, hp, rfl⟩) (fun o h => Or.inr (Or.inr ⟨⟨o, h⟩, ⟨rfl, rfl, rfl⟩, rfl⟩)) (fun o => Or.inr (Or.inl ⟨o, ⟨rfl, rfl, rfl⟩, rfl⟩)))) (cwV 3 hts gL_law_X7_addJob rfl rfl rfl (by decide +kernel) ⟨Nat.le_of_ble_eq_true rfl, Nat.le_of_ble_eq_true rfl⟩) ⟨cPre_blind, va_recv hK hPm (ci := 7) (q0 := 0) rfl rfl, fun U hU hW => ⟨rfl, cPre_at hPm hK hDm hN hU hW⟩⟩ rfl rfl hl.1 rfl (lv_room (Nat.le_of_ble_eq_true rfl)) dL_law_188 ⟨Nat.le_trans (show cells + 1 + 0 ≤ 601024 by omega) hRc, Nat.le_trans (show slots + 6 + 0 ≤ 7293034 by omega) hRs⟩) hS0 (fun q _ h => hFm q h) hFm (fun r u2 t H locs ht hvm hq hB hz1 hk1 hS0 => ?_)
  obtain ⟨hP, hD⟩ := wj_r hP hD hk1 hFm (cPost_P ht hB) hB.2.2
  obtain ⟨u_ss, u_ds, u_ti, u_co, u_oma⟩ := u
  obtain ⟨m_mti, m_mow, m_mjo, m_mth⟩ := u2
  try dsimp only at hw hq hP hD
  refine lv_istore (lv' := [(6, .int r), (5, .int k), (0, .ref b), (1, .ref (ad 0)), (2, .ref (am 0)), (3, .ref ao), (4, .int i)]) hx hb dL_law_191 hl (by decide) rfl (fun ls hl => ?_)
  refine lv_aload_n hx hb dL_law_193 rfl (lv_at hl 4 rfl) ?_
  obtain ⟨-, hPm⟩ := wp_app.mp hP
  obtain ⟨-, hDm, -⟩ := wd_app.mp hD
  have hFm := va_freeSame hDm hS0 hA
  refine va_calli (va_runV (As := []) (rest := []) ⟨hx, hb, hml, hown, hts⟩ (c_X7_thrown l dC dI cy am H.size m_mti m_mow m_mjo w_mta w_mba w_mib w_mdi w_mab w_mbe w_mpl w_mbs w_mro w_mlo m_mth 2000000000 (fun z => z = m_mth) rfl) (cwV 0 hts gL_law_X7_thrown rfl rfl rfl (by decide +kernel) ⟨Nat.le_of_ble_eq_true rfl, Nat.le_of_ble_eq_true rfl⟩) ⟨cPre_blind, va_recv hK hPm (ci := 7) (q0 := 0) rfl rfl, fun U hU hW => ⟨rfl, cPre_at hPm hK hDm hN hU hW⟩⟩ rfl rfl hl.1 rfl (lv_room (Nat.le_of_ble_eq_true rfl)) dL_law_194 ⟨Nat.le_trans (show cells + 1 + 0 + 0 ≤ 601024 by omega) hRc, Nat.le_trans (show slots + 6 + 0 + 0 ≤ 7293034 by omega) hRs⟩) hS0 (fun q _ h => hFm q h) hFm (fun th u3 t H locs ht hvm hth hB hz1 hk1 hS0 => ?_)
  obtain ⟨hP, hD⟩ := wj_r hP hD hk1 hFm (cPost_P ht hB) hB.2.2
  have hth : th = m_mth := hth
  have hfin : (m_mth = k ∧ (k = 0 → ov' 0 = r.toInt64)) := by
    rcases hw with ⟨hk, r9, hall, hov⟩ | ⟨hk, ho, hu⟩ | ⟨hk, ho, hu⟩
    · rcases hq with ⟨ho2, hv2, hrest⟩ | ⟨ho2, hrest⟩ | ⟨ho2, hrest⟩
      · obtain ⟨-, -, -, hm0⟩ := hrest; exact ⟨by rw [hm0, hk], fun _ => by rw [hov, hall.2.1, hv2]⟩
      · have ho := hall.1; exfalso; exact ho2 ho.1
      · have ho := hall.1; exfalso; exact ho2.2 ho.2
    · rcases hq with ⟨ho2, hv2, hrest⟩ | ⟨ho2, hrest⟩ | ⟨ho2, hrest⟩
      · exfalso; exact ho ho2.1
      · obtain ⟨-, hm1⟩ := hrest; exact ⟨by rw [hm1, hk], fun h0 => absurd (hk.symm.trans h0) (by decide)⟩
      · exfalso; exact ho ho2.1
    · rcases hq with ⟨ho2, hv2, hrest⟩ | ⟨ho2, hrest⟩ | ⟨ho2, hrest⟩
      · exfalso; exact ho.2 ho2.2
      · exfalso; exact ho2 ho.1
      · obtain ⟨-, hm1⟩ := hrest; exact ⟨by rw [hm1, hk], fun h0 => absurd (hk.symm.trans h0) (by decide)⟩
  refine lv_iload hx hb dL_law_197 (lv_at hl 1 rfl) ?_
  refine lv_icmp_eq (tgt := 204) hx hb dL_law_199 (by decide) (fun _ => ?_) (fun h9 => absurd (hth.trans hfin.1) h9)
  refine lv_iload hx hb dL_law_204 (lv_at hl 1 rfl) ?_
  have hend : W p l e room_1 s m args below meth c H locs (cells + 1 + 0 + 0) (slots + 6 + 0 + 0) Z (F0 m 221 ls []) := by
    refine lv_goto (tgt := 1049) hx hb dL_law_221 (by decide) ?_
    rcases hw with ⟨hk, r9, ⟨o, -, rfl, rfl, rfl, rfl, hpo2⟩, hov⟩ | ⟨hk, ho, hu⟩ | ⟨hk, ho, hu⟩
    · rcases hq with ⟨-, -, rfl, rfl, hpm2, -⟩ | ⟨ho2, -⟩ | ⟨ho2, -⟩
      · refine W.widen (show cells + 1 + 0 + 0 ≤ cells + 3 by omega) (show slots + 6 + 0 + 0 ≤ slots + 18 by omega) (hnext (n + 1) (upJ ti n x1 x2 x3) (stp g n (lowm x1 x2)) (0) (0) (u_oma) v_obr v_obj v_obo v_obm v_plo v_pch v_pbe v_pbl v_dnu v_dde v_dbo v_dln v_dld v_tba v_tal v_tro v_tsc v_tcl v_rma ov' (m_mow) w_mta w_mba w_mib w_mdi w_mab w_mbe w_mpl w_mbs w_mro w_mlo (m_mth) H locs ls ⟨hG.addJob o.1 o.2, hpo2, fun h => absurd rfl h, fun h => absurd rfl h, hpm2⟩ ⟨hP, hD, hS0⟩ (lv_sub hl [2, 3, 4, 5, 6] rfl))
      · exact absurd o.1 ho2
      · exact absurd o.2 ho2.2
    · have hu := hu.symm
      simp only [Prod.mk.injEq] at hu
      obtain ⟨rfl, rfl, rfl, rfl, rfl⟩ := hu
      rcases hq with ⟨ho2, -⟩ | ⟨ho2, ⟨rfl, rfl, rfl⟩, -⟩ | ⟨ho2, ⟨rfl, rfl, rfl⟩, -⟩
      · exfalso; exact ho ho2.1
      · refine W.widen (show cells + 1 + 0 + 0 ≤ cells + 3 by omega) (show slots + 6 + 0 + 0 ≤ slots + 18 by omega) (hnext n _ (g) v_ss v_ds v_oma v_obr v_obj v_obo v_obm v_plo v_pch v_pbe v_pbl v_dnu v_dde v_dbo v_dln v_dld v_tba v_tal v_tro v_tsc v_tcl v_rma ov' w_mow w_mta w_mba w_mib w_mdi w_mab w_mbe w_mpl w_mbs w_mro w_mlo (m_mth) H locs ls ⟨hG, hpo, hS, hDv, hpm⟩ ⟨hP, hD, hS0⟩ (lv_sub hl [2, 3, 4, 5, 6] rfl))
      · refine W.widen (show cells + 1 + 0 + 0 ≤ cells + 3 by omega) (show slots + 6 + 0 + 0 ≤ slots + 18 by omega) (hnext n _ (g) v_ss v_ds v_oma v_obr v_obj v_obo v_obm v_plo v_pch v_pbe v_pbl v_dnu v_dde v_dbo v_dln v_dld v_tba v_tal v_tro v_tsc v_tcl v_rma ov' w_mow w_mta w_mba w_mib w_mdi w_mab w_mbe w_mpl w_mbs w_mro w_mlo (m_mth) H locs ls ⟨hG, hpo, hS, hDv, hpm⟩ ⟨hP, hD, hS0⟩ (lv_sub hl [2, 3, 4, 5, 6] rfl))
    · have hu := hu.symm
      simp only [Prod.mk.injEq] at hu
      obtain ⟨rfl, rfl, rfl, rfl, rfl⟩ := hu
      rcases hq with ⟨ho2, -⟩ | ⟨ho2, ⟨rfl, rfl, rfl⟩, -⟩ | ⟨ho2, ⟨rfl, rfl, rfl⟩, -⟩
      · exfalso; exact ho.2 ho2.2
      · refine W.widen (show cells + 1 + 0 + 0 ≤ cells + 3 by omega) (show slots + 6 + 0 + 0 ≤ slots + 18 by omega) (hnext n _ (g) v_ss v_ds v_oma v_obr v_obj v_obo v_obm v_plo v_pch v_pbe v_pbl v_dnu v_dde v_dbo v_dln v_dld v_tba v_tal v_tro v_tsc v_tcl v_rma ov' w_mow w_mta w_mba w_mib w_mdi w_mab w_mbe w_mpl w_mbs w_mro w_mlo (m_mth) H locs ls ⟨hG, hpo, hS, hDv, hpm⟩ ⟨hP, hD, hS0⟩ (lv_sub hl [2, 3, 4, 5, 6] rfl))
      · refine W.widen (show cells + 1 + 0 + 0 ≤ cells + 3 by omega) (show slots + 6 + 0 + 0 ≤ slots + 18 by omega) (hnext n _ (g) v_ss v_ds v_oma v_obr v_obj v_obo v_obm v_plo v_pch v_pbe v_pbl v_dnu v_dde v_dbo v_dln v_dld v_tba v_tal v_tro v_tsc v_tcl v_rma ov' w_mow w_mta w_mba w_mib w_mdi w_mab w_mbe w_mpl w_mbs w_mro w_mlo (m_mth) H locs ls ⟨hG, hpo, hS, hDv, hpm⟩ ⟨hP, hD, hS0⟩ (lv_sub hl [2, 3, 4, 5, 6] rfl))
  refine lv_if_ne (tgt := 221) hx hb dL_law_206 (by decide) (fun _ => hend) (fun hk0 => ?_)
  refine lv_aload_n hx hb dL_law_209 rfl (lv_at hl 5 rfl) ?_
  refine lv_iconst (v := (0 : Int32)) hx hb dL_law_210 (by decide) ?_
  refine va_lald hx hb hK hP 28 1 rfl rfl in01 dL_law_211 ?_
  refine lv_iload hx hb dL_law_212 (lv_at hl 0 rfl) ?_
  have hov0 : ov' (0 : Int32).toNatClampNeg = ov' 0 := congrArg ov' (by decide)
  refine lv_i2l (v := r.toInt64) hx hb dL_law_214 rfl ?_
  exact lq_eq (tgt := 221) hx hb dL_law_215 dL_law_216 (by decide) (fun _ => hend) (fun h9 => absurd (hov0.trans (hfin.2 hk0)) h9)
set_option maxHeartbeats 4000000 in
set_option maxRecDepth 100000 in
theorem law_1 (C0 : cxLaw p s m args meth c dC dI cy A b L xs) (hst : l.stackTraces = false)
    {n : Nat} {ti : Nat → Int32} {g : Nat → Nat} {v_ss : Int32} {v_ds : Int32} {v_oma : Nat → Int32} {v_obr : Int32} {v_obj : Int32} {v_obo : Int32} {v_obm : Int32} {v_plo : Nat → Int32} {v_pch : Nat → Int32} {v_pbe : Nat → Int32} {v_pbl : Int32} {v_dnu : Nat → Int32} {v_dde : Nat → Int32} {v_dbo : Int32} {v_dln : Int32} {v_dld : Int32} {v_tba : Nat → Int32} {v_tal : Nat → Int32} {v_tro : Int32} {v_tsc : Int64} {v_tcl : Nat → Nat → Int64} {v_rma : Nat → Int32} {ov : Nat → Int64} {w_mow : Nat → Int32} {w_mta : Nat → Int64} {w_mba : Nat → Int32} {w_mib : Nat → Int32} {w_mdi : Int64} {w_mab : Nat → Int64} {w_mbe : Nat → Int64} {w_mpl : Nat → Int32} {w_mbs : Nat → Int32} {w_mro : Nat → Int32} {w_mlo : Nat → Int32} {w_mth : Int32} {H : Heap} {locs : List Loc} {ls : Array Slot} {i : Int32} {cells slots : Nat} (hIV : IV n ti g v_oma v_ss v_pbl v_pbe v_ds v_dnu v_dde v_dbo v_dln v_dld v_rma w_mow) (hSt : stC dC dI A s ((wC ad cy v_ss v_ds ti (nI n) v_oma v_obr v_obj v_obo v_obm v_plo v_pch v_pbe v_pbl v_dnu v_dde v_dbo v_dln v_dld v_tba v_tal v_tro v_tsc v_tcl v_rma ++ oW ao cy ov) ++ wM am cy ti w_mow (nI n) w_mta w_mba w_mib w_mdi w_mab w_mbe w_mpl w_mbs w_mro w_mlo w_mth) H locs) (hl : lv_has ls 9 [(0, .ref b), (1, .ref (ad 0)), (2, .ref (am 0)), (3, .ref ao), (4, .int i)]) (hi1 : vp_in (i + 1) L) (hi2 : vp_in (i + 2) L) (hi3 : vp_in (i + 3) L) (hce : cells + 3 ≤ 601024) (hsl : slots + 18 ≤ 7293034)
    (hnext : ∀ (n : Nat) (ti : Nat → Int32) (g : Nat → Nat) (v_ss : Int32) (v_ds : Int32) (v_oma : Nat → Int32) (v_obr : Int32) (v_obj : Int32) (v_obo : Int32) (v_obm : Int32) (v_plo : Nat → Int32) (v_pch : Nat → Int32) (v_pbe : Nat → Int32) (v_pbl : Int32) (v_dnu : Nat → Int32) (v_dde : Nat → Int32) (v_dbo : Int32) (v_dln : Int32) (v_dld : Int32) (v_tba : Nat → Int32) (v_tal : Nat → Int32) (v_tro : Int32) (v_tsc : Int64) (v_tcl : Nat → Nat → Int64) (v_rma : Nat → Int32) (ov : Nat → Int64) (w_mow : Nat → Int32) (w_mta : Nat → Int64) (w_mba : Nat → Int32) (w_mib : Nat → Int32) (w_mdi : Int64) (w_mab : Nat → Int64) (w_mbe : Nat → Int64) (w_mpl : Nat → Int32) (w_mbs : Nat → Int32) (w_mro : Nat → Int32) (w_mlo : Nat → Int32) (w_mth : Int32) (H : Heap) (locs : List Loc) (ls : Array Slot), IV n ti g v_oma v_ss v_pbl v_pbe v_ds v_dnu v_dde v_dbo v_dln v_dld v_rma w_mow → stC dC dI A s ((wC ad cy v_ss v_ds ti (nI n) v_oma v_obr v_obj v_obo v_obm v_plo v_pch v_pbe v_pbl v_dnu v_dde v_dbo v_dln v_dld v_tba v_tal v_tro v_tsc v_tcl v_rma ++ oW ao cy ov) ++ wM am cy ti w_mow (nI n) w_mta w_mba w_mib w_mdi w_mab w_mbe w_mpl w_mbs w_mro w_mlo w_mth) H locs → lv_has ls 9 [(0, .ref b), (1, .ref (ad 0)), (2, .ref (am 0)), (3, .ref ao), (4, .int i)] → W p l e room_1 s m args below meth c H locs (cells + 3) (slots + 18) Z (F0 m 1049 ls [])) : W p l e room_1 s m args below meth c H locs cells slots Z (F0 m 224 ls []) := by
  obtain ⟨hx, hb, hml, hr, hown, hts, hlocks, hK, hA, hN, hXw, hXs, hX, hbl, hbA⟩ := id C0
  obtain ⟨hG, hpo, hS, hDv, hpm⟩ := id hIV
  have hn := hG.1.1
  have hN6 : 600000 ≤ 2000000000 := Nat.le_of_ble_eq_true rfl
  have hN100 : 100 ≤ 2000000000 := Nat.le_of_ble_eq_true rfl
  have hN100M := hN100
  have hN2 : 2000000000 ≤ 2000000000 := Nat.le_refl _
  have hRc : 601024 ≤ room_1.cells := Nat.le_refl _
  have hRs : 7293034 ≤ room_1.slots := Nat.le_refl _
  obtain ⟨x1, ex1⟩ : ∃ y : Int32, y = xs (i + (1 : Int32)).toNatClampNeg := ⟨_, rfl⟩
  obtain ⟨x2, ex2⟩ : ∃ y : Int32, y = xs (i + (2 : Int32)).toNatClampNeg := ⟨_, rfl⟩
  obtain ⟨x3, ex3⟩ : ∃ y : Int32, y = xs (i + (3 : Int32)).toNatClampNeg := ⟨_, rfl⟩
  obtain ⟨hP, hD, hS0⟩ := hSt
  refine lv_aload_n hx hb dL_law_224 rfl (lv_at hl 1 rfl) ?_
  refine lv_aload_n hx hb dL_law_225 rfl (lv_at hl 0 rfl) ?_
  refine lv_iload hx hb dL_law_226 (lv_at hl 4 rfl) ?_
  refine lv_iconst (v := (1 : Int32)) hx hb dL_law_228 (by decide) ?_
  refine lv_iadd hx hb dL_law_229 ?_
  refine va_sld hx hb hX hbl hbA hS0 hi1 dL_law_230 ?_
  rw [← ex1]
  refine lv_aload_n hx hb dL_law_231 rfl (lv_at hl 0 rfl) ?_
  refine lv_iload hx hb dL_law_232 (lv_at hl 4 rfl) ?_
  refine lv_iconst (v := (2 : Int32)) hx hb dL_law_234 (by decide) ?_
  refine lv_iadd hx hb dL_law_235 ?_
  refine va_sld hx hb hX hbl hbA hS0 hi2 dL_law_236 ?_
  rw [← ex2]
  refine lv_aload_n hx hb dL_law_237 rfl (lv_at hl 0 rfl) ?_
  refine lv_iload hx hb dL_law_238 (lv_at hl 4 rfl) ?_
  refine lv_iconst (v := (3 : Int32)) hx hb dL_law_240 (by decide) ?_
  refine lv_iadd hx hb dL_law_241 ?_
  refine va_sld hx hb hX hbl hbA hS0 hi3 dL_law_242 ?_
  rw [← ex3]
  refine lv_aload_n hx hb dL_law_243 rfl (lv_at hl 3 rfl) ?_
  obtain ⟨hPa, -⟩ := wp_app.mp hP
  obtain ⟨hDa, -, -⟩ := wd_app.mp hD
  have hFa := va_freeSame hDa hS0 hA
  refine va_calli (vx_runSW (As := [.ref (ad 0), .int x1, .int x2, .int x3, .ref ao]) (rest := []) ⟨hx, hb, hml, hown, hts⟩ (c_L_setTime l dC dI cy ad H.size v_ss v_ds ti (nI n) v_oma v_obr v_obj v_obo v_obm v_plo v_pch v_pbe v_pbl v_dnu v_dde v_dbo v_dln v_dld v_tba v_tal v_tro v_tsc v_tcl v_rma x1 x2 x3 2000000000 _ ao ov (¬ (jOK n x1 ∧ jOK 3 x2)) (((jOK n x1 ∧ jOK 3 x2) ∧ ¬ jOK 51 x3)) (((jOK n x1 ∧ jOK 3 x2) ∧ jOK 51 x3 ∧ (x3 = 0 ∧ nI (g (x1).toNatClampNeg) = x2))) hst (s_setTime (N := 2000000000) (x1 := x1) (x2 := x2) (x3 := x3) (Q := (fun (r ss ds : Int32) (ti' : Nat → Int32) => ((jOK n x1 ∧ jOK 3 x2) ∧ jOK 51 x3 ∧ ¬ (x3 = 0 ∧ nI (g (x1).toNatClampNeg) = x2)) ∧ r = ti (3 * (x1).toNatClampNeg + (x2).toNatClampNeg) ∧ ss = 0 ∧ ds = 0 ∧ ti' = upd ti (3 * (x1).toNatClampNeg + (x2).toNatClampNeg) x3)) (QX := (fun E => (E = "java/lang/IndexOutOfBoundsException" ∧ ¬ (jOK n x1 ∧ jOK 3 x2)) ∨ (E = "java/lang/IllegalArgumentException" ∧ ((jOK n x1 ∧ jOK 3 x2) ∧ ¬ jOK 51 x3)) ∨ (E = "java/lang/IllegalStateException" ∧ ((jOK n x1 ∧ jOK 3 x2) ∧ jOK 51 x3 ∧ (x3 = 0 ∧ nI (g (x1).toNatClampNeg) = x2))))) hG hpo (fun o1 o2 o3 h => ⟨⟨⟨o1, o2⟩, o3, h⟩, rfl, rfl, rfl, rfl⟩) (fun o1 o2 o3 h => Or.inr (Or.inr ⟨rfl, ⟨o1, o2⟩, o3, h⟩)) (fun o1 o2 h => Or.inr (Or.inl ⟨rfl, ⟨o1, o2⟩, h⟩)) (fun o => Or.inl ⟨rfl, o⟩))) (vx_cwSW 5 hts gL_law_L_setTime rfl rfl rfl (by decide +kernel) ⟨Nat.le_of_ble_eq_true rfl, Nat.le_of_ble_eq_true rfl⟩) ⟨cPreX_blind, fun U hU hW => ⟨rfl, cPreX_at hPa hK hDa hN hU hW hXw hXs hS0 hFa⟩⟩ rfl rfl hl.1 rfl (lv_room (Nat.le_of_ble_eq_true rfl)) dL_law_244 ⟨Nat.le_trans (show cells + 3 ≤ 601024 by omega) hRc, Nat.le_trans (show slots + 18 ≤ 7293034 by omega) hRs⟩) hS0 (fun q _ h => hFa q h) hFa (fun k u t H locs ht hvm hw hB hz1 hk1 hS0 => ?_)
  obtain ⟨hP, hD⟩ := wj_l hP hD hk1 hFa (cPost_P ht hB) hB.2.2
  obtain ⟨u, ov'⟩ := u
  try dsimp only at hw hP hD
  refine lv_istore (lv' := [(5, .int k), (0, .ref b), (1, .ref (ad 0)), (2, .ref (am 0)), (3, .ref ao), (4, .int i)]) hx hb dL_law_247 hl (by decide) rfl (fun ls hl => ?_)
  refine lv_aload_n hx hb dL_law_249 rfl (lv_at hl 3 rfl) ?_
  refine lv_aload_n hx hb dL_law_250 rfl (lv_at hl 1 rfl) ?_
  refine lv_iload hx hb dL_law_251 (lv_at hl 5 rfl) ?_
  refine lv_iconst (v := (1 : Int32)) hx hb dL_law_253 (by decide) ?_
  refine lv_iadd hx hb dL_law_254 ?_
  refine va_sld hx hb hX hbl hbA hS0 hi1 dL_law_255 ?_
  rw [← ex1]
  refine lv_aload_n hx hb dL_law_256 rfl (lv_at hl 1 rfl) ?_
  refine lv_iload hx hb dL_law_257 (lv_at hl 5 rfl) ?_
  refine lv_iconst (v := (2 : Int32)) hx hb dL_law_259 (by decide) ?_
  refine lv_iadd hx hb dL_law_260 ?_
  refine va_sld hx hb hX hbl hbA hS0 hi2 dL_law_261 ?_
  rw [← ex2]
  refine lv_aload_n hx hb dL_law_262 rfl (lv_at hl 1 rfl) ?_
  refine lv_iload hx hb dL_law_263 (lv_at hl 5 rfl) ?_
  refine lv_iconst (v := (3 : Int32)) hx hb dL_law_265 (by decide) ?_
  refine lv_iadd hx hb dL_law_266 ?_
  refine va_sld hx hb hX hbl hbA hS0 hi3 dL_law_267 ?_
  rw [← ex3]
  obtain ⟨-, hPm⟩ := wp_app.mp hP
  obtain ⟨-, hDm, -⟩ := wd_app.mp hD
  have hFm := va_freeSame hDm hS0 hA
  refine va_calli (va_runV (As := [.int x1, .int x2, .int x3]) (rest := []) ⟨hx, hb, hml, hown, hts⟩ (c_X7_setTime l dC dI cy am H.size ti w_mow (nI n) w_mta w_mba w_mib w_mdi w_mab w_mbe w_mpl w_mbs w_mro w_mlo w_mth x1 x2 x3 2000000000 _ (t_setTime (N := 2000000000) (x1 := x1) (x2 := x2) (x3 := x3) (Q := (fun (r : Int32) (mti : Nat → Int32) (mth : Int32) => (((jOK n x1 ∧ jOK 3 x2) ∧ jOK 51 x3 ∧ ¬ (x3 = 0 ∧ nI (g (x1).toNatClampNeg) = x2)) ∧ r = ti (3 * (x1).toNatClampNeg + (x2).toNatClampNeg) ∧ mti = upd ti (3 * (x1).toNatClampNeg + (x2).toNatClampNeg) x3 ∧ mth = 0) ∨ (¬ (jOK n x1 ∧ jOK 3 x2) ∧ ti = mti ∧ mth = 1) ∨ (((jOK n x1 ∧ jOK 3 x2) ∧ ¬ jOK 51 x3) ∧ ti = mti ∧ mth = 2) ∨ (((jOK n x1 ∧ jOK 3 x2) ∧ jOK 51 x3 ∧ (x3 = 0 ∧ nI (g (x1).toNatClampNeg) = x2)) ∧ ti = mti ∧ mth = 3))) hG hpm (fun o1 o2 o3 h => Or.inl ⟨⟨⟨o1, o2⟩, o3, h⟩, rfl, rfl, rfl⟩) (fun o1 o2 o3 h => Or.inr (Or.inr (Or.inr ⟨⟨⟨o1, o2⟩, o3, h⟩, rfl, rfl⟩))) (fun o1 o2 h => Or.inr (Or.inr (Or.inl ⟨⟨⟨o1, o2⟩, h⟩, rfl, rfl⟩))) (fun o => Or.inr (Or.inl ⟨o, rfl, rfl⟩)))) (cwV 3 hts gL_law_X7_setTime rfl rfl rfl (by decide +kernel) ⟨Nat.le_of_ble_eq_true rfl, Nat.le_of_ble_eq_true rfl⟩) ⟨cPre_blind, va_recv hK hPm (ci := 7) (q0 := 0) rfl rfl, fun U hU hW => ⟨rfl, cPre_at hPm hK hDm hN hU hW⟩⟩ rfl rfl hl.1 rfl (lv_room (Nat.le_of_ble_eq_true rfl)) dL_law_268 ⟨Nat.le_trans (show cells + 3 + 0 ≤ 601024 by omega) hRc, Nat.le_trans (show slots + 18 + 0 ≤ 7293034 by omega) hRs⟩) hS0 (fun q _ h => hFm q h) hFm (fun r u2 t H locs ht hvm hq hB hz1 hk1 hS0 => ?_)
  obtain ⟨hP, hD⟩ := wj_r hP hD hk1 hFm (cPost_P ht hB) hB.2.2
  obtain ⟨u_ss, u_ds, u_ti⟩ := u
  obtain ⟨m_mti, m_mth⟩ := u2
  try dsimp only at hw hq hP hD
  refine lv_istore (lv' := [(6, .int r), (5, .int k), (0, .ref b), (1, .ref (ad 0)), (2, .ref (am 0)), (3, .ref ao), (4, .int i)]) hx hb dL_law_271 hl (by decide) rfl (fun ls hl => ?_)
  refine lv_aload_n hx hb dL_law_273 rfl (lv_at hl 4 rfl) ?_
  obtain ⟨-, hPm⟩ := wp_app.mp hP
  obtain ⟨-, hDm, -⟩ := wd_app.mp hD
  have hFm := va_freeSame hDm hS0 hA
  refine va_calli (va_runV (As := []) (rest := []) ⟨hx, hb, hml, hown, hts⟩ (c_X7_thrown l dC dI cy am H.size m_mti w_mow (nI n) w_mta w_mba w_mib w_mdi w_mab w_mbe w_mpl w_mbs w_mro w_mlo m_mth 2000000000 (fun z => z = m_mth) rfl) (cwV 0 hts gL_law_X7_thrown rfl rfl rfl (by decide +kernel) ⟨Nat.le_of_ble_eq_true rfl, Nat.le_of_ble_eq_true rfl⟩) ⟨cPre_blind, va_recv hK hPm (ci := 7) (q0 := 0) rfl rfl, fun U hU hW => ⟨rfl, cPre_at hPm hK hDm hN hU hW⟩⟩ rfl rfl hl.1 rfl (lv_room (Nat.le_of_ble_eq_true rfl)) dL_law_274 ⟨Nat.le_trans (show cells + 3 + 0 + 0 ≤ 601024 by omega) hRc, Nat.le_trans (show slots + 18 + 0 + 0 ≤ 7293034 by omega) hRs⟩) hS0 (fun q _ h => hFm q h) hFm (fun th u3 t H locs ht hvm hth hB hz1 hk1 hS0 => ?_)
  obtain ⟨hP, hD⟩ := wj_r hP hD hk1 hFm (cPost_P ht hB) hB.2.2
  have hth : th = m_mth := hth
  have hfin : (m_mth = k ∧ (k = 0 → ov' 0 = r.toInt64)) := by
    rcases hw with ⟨hk, r9, hall, hov⟩ | ⟨hk, ho, hu⟩ | ⟨hk, ho, hu⟩ | ⟨hk, ho, hu⟩
    · rcases hq with ⟨ho2, hv2, hrest⟩ | ⟨ho2, hrest⟩ | ⟨ho2, hrest⟩ | ⟨ho2, hrest⟩
      · obtain ⟨-, hm0⟩ := hrest; exact ⟨by rw [hm0, hk], fun _ => by rw [hov, hall.2.1, hv2]⟩
      · have ho := hall.1; exfalso; exact ho2 ho.1
      · have ho := hall.1; exfalso; exact ho2.2 ho.2.1
      · have ho := hall.1; exfalso; exact ho.2.2 ho2.2.2
    · rcases hq with ⟨ho2, hv2, hrest⟩ | ⟨ho2, hrest⟩ | ⟨ho2, hrest⟩ | ⟨ho2, hrest⟩
      · exfalso; exact ho ho2.1
      · obtain ⟨-, hm1⟩ := hrest; exact ⟨by rw [hm1, hk], fun h0 => absurd (hk.symm.trans h0) (by decide)⟩
      · exfalso; exact ho ho2.1
      · exfalso; exact ho ho2.1
    · rcases hq with ⟨ho2, hv2, hrest⟩ | ⟨ho2, hrest⟩ | ⟨ho2, hrest⟩ | ⟨ho2, hrest⟩
      · exfalso; exact ho.2 ho2.2.1
      · exfalso; exact ho2 ho.1
      · obtain ⟨-, hm1⟩ := hrest; exact ⟨by rw [hm1, hk], fun h0 => absurd (hk.symm.trans h0) (by decide)⟩
      · exfalso; exact ho.2 ho2.2.1
    · rcases hq with ⟨ho2, hv2, hrest⟩ | ⟨ho2, hrest⟩ | ⟨ho2, hrest⟩ | ⟨ho2, hrest⟩
      · exfalso; exact ho2.2.2 ho.2.2
      · exfalso; exact ho2 ho.1
      · exfalso; exact ho2.2 ho.2.1
      · obtain ⟨-, hm1⟩ := hrest; exact ⟨by rw [hm1, hk], fun h0 => absurd (hk.symm.trans h0) (by decide)⟩
  refine lv_iload hx hb dL_law_277 (lv_at hl 1 rfl) ?_
  refine lv_icmp_eq (tgt := 284) hx hb dL_law_279 (by decide) (fun _ => ?_) (fun h9 => absurd (hth.trans hfin.1) h9)
  refine lv_iload hx hb dL_law_284 (lv_at hl 1 rfl) ?_
  have hend : W p l e room_1 s m args below meth c H locs (cells + 3 + 0 + 0) (slots + 18 + 0 + 0) Z (F0 m 301 ls []) := by
    refine lv_goto (tgt := 1049) hx hb dL_law_301 (by decide) ?_
    rcases hw with ⟨hk, r9, ⟨o, -, rfl, rfl, rfl⟩, hov⟩ | ⟨hk, ho, hu⟩ | ⟨hk, ho, hu⟩ | ⟨hk, ho, hu⟩
    · rcases hq with ⟨-, -, rfl, -⟩ | ⟨ho2, -⟩ | ⟨ho2, -⟩ | ⟨ho2, -⟩
      · refine W.widen (show cells + 3 + 0 + 0 ≤ cells + 3 by omega) (show slots + 18 + 0 + 0 ≤ slots + 18 by omega) (hnext n (upd ti (3 * (x1).toNatClampNeg + (x2).toNatClampNeg) x3) (g) (0) (0) v_oma v_obr v_obj v_obo v_obm v_plo v_pch v_pbe v_pbl v_dnu v_dde v_dbo v_dln v_dld v_tba v_tal v_tro v_tsc v_tcl v_rma ov' w_mow w_mta w_mba w_mib w_mdi w_mab w_mbe w_mpl w_mbs w_mro w_mlo (m_mth) H locs ls ⟨hG.setTime o.1.1 o.1.2 o.2.1 o.2.2, hpo, fun h => absurd rfl h, fun h => absurd rfl h, hpm⟩ ⟨hP, hD, hS0⟩ (lv_sub hl [2, 3, 4, 5, 6] rfl))
      · have ho := o; exfalso; exact ho2 ho.1
      · have ho := o; exfalso; exact ho2.2 ho.2.1
      · have ho := o; exfalso; exact ho.2.2 ho2.2.2
    · have hu := hu.symm
      simp only [Prod.mk.injEq] at hu
      obtain ⟨rfl, rfl, rfl⟩ := hu
      rcases hq with ⟨ho2, -⟩ | ⟨ho2, rfl, -⟩ | ⟨ho2, rfl, -⟩ | ⟨ho2, rfl, -⟩
      · exfalso; exact ho ho2.1
      · refine W.widen (show cells + 3 + 0 + 0 ≤ cells + 3 by omega) (show slots + 18 + 0 + 0 ≤ slots + 18 by omega) (hnext n _ (g) v_ss v_ds v_oma v_obr v_obj v_obo v_obm v_plo v_pch v_pbe v_pbl v_dnu v_dde v_dbo v_dln v_dld v_tba v_tal v_tro v_tsc v_tcl v_rma ov' w_mow w_mta w_mba w_mib w_mdi w_mab w_mbe w_mpl w_mbs w_mro w_mlo (m_mth) H locs ls ⟨hG, hpo, hS, hDv, hpm⟩ ⟨hP, hD, hS0⟩ (lv_sub hl [2, 3, 4, 5, 6] rfl))
      · refine W.widen (show cells + 3 + 0 + 0 ≤ cells + 3 by omega) (show slots + 18 + 0 + 0 ≤ slots + 18 by omega) (hnext n _ (g) v_ss v_ds v_oma v_obr v_obj v_obo v_obm v_plo v_pch v_pbe v_pbl v_dnu v_dde v_dbo v_dln v_dld v_tba v_tal v_tro v_tsc v_tcl v_rma ov' w_mow w_mta w_mba w_mib w_mdi w_mab w_mbe w_mpl w_mbs w_mro w_mlo (m_mth) H locs ls ⟨hG, hpo, hS, hDv, hpm⟩ ⟨hP, hD, hS0⟩ (lv_sub hl [2, 3, 4, 5, 6] rfl))
      · refine W.widen (show cells + 3 + 0 + 0 ≤ cells + 3 by omega) (show slots + 18 + 0 + 0 ≤ slots + 18 by omega) (hnext n _ (g) v_ss v_ds v_oma v_obr v_obj v_obo v_obm v_plo v_pch v_pbe v_pbl v_dnu v_dde v_dbo v_dln v_dld v_tba v_tal v_tro v_tsc v_tcl v_rma ov' w_mow w_mta w_mba w_mib w_mdi w_mab w_mbe w_mpl w_mbs w_mro w_mlo (m_mth) H locs ls ⟨hG, hpo, hS, hDv, hpm⟩ ⟨hP, hD, hS0⟩ (lv_sub hl [2, 3, 4, 5, 6] rfl))
    · have hu := hu.symm
      simp only [Prod.mk.injEq] at hu
      obtain ⟨rfl, rfl, rfl⟩ := hu
      rcases hq with ⟨ho2, -⟩ | ⟨ho2, rfl, -⟩ | ⟨ho2, rfl, -⟩ | ⟨ho2, rfl, -⟩
      · exfalso; exact ho.2 ho2.2.1
      · refine W.widen (show cells + 3 + 0 + 0 ≤ cells + 3 by omega) (show slots + 18 + 0 + 0 ≤ slots + 18 by omega) (hnext n _ (g) v_ss v_ds v_oma v_obr v_obj v_obo v_obm v_plo v_pch v_pbe v_pbl v_dnu v_dde v_dbo v_dln v_dld v_tba v_tal v_tro v_tsc v_tcl v_rma ov' w_mow w_mta w_mba w_mib w_mdi w_mab w_mbe w_mpl w_mbs w_mro w_mlo (m_mth) H locs ls ⟨hG, hpo, hS, hDv, hpm⟩ ⟨hP, hD, hS0⟩ (lv_sub hl [2, 3, 4, 5, 6] rfl))
      · refine W.widen (show cells + 3 + 0 + 0 ≤ cells + 3 by omega) (show slots + 18 + 0 + 0 ≤ slots + 18 by omega) (hnext n _ (g) v_ss v_ds v_oma v_obr v_obj v_obo v_obm v_plo v_pch v_pbe v_pbl v_dnu v_dde v_dbo v_dln v_dld v_tba v_tal v_tro v_tsc v_tcl v_rma ov' w_mow w_mta w_mba w_mib w_mdi w_mab w_mbe w_mpl w_mbs w_mro w_mlo (m_mth) H locs ls ⟨hG, hpo, hS, hDv, hpm⟩ ⟨hP, hD, hS0⟩ (lv_sub hl [2, 3, 4, 5, 6] rfl))
      · refine W.widen (show cells + 3 + 0 + 0 ≤ cells + 3 by omega) (show slots + 18 + 0 + 0 ≤ slots + 18 by omega) (hnext n _ (g) v_ss v_ds v_oma v_obr v_obj v_obo v_obm v_plo v_pch v_pbe v_pbl v_dnu v_dde v_dbo v_dln v_dld v_tba v_tal v_tro v_tsc v_tcl v_rma ov' w_mow w_mta w_mba w_mib w_mdi w_mab w_mbe w_mpl w_mbs w_mro w_mlo (m_mth) H locs ls ⟨hG, hpo, hS, hDv, hpm⟩ ⟨hP, hD, hS0⟩ (lv_sub hl [2, 3, 4, 5, 6] rfl))
    · have hu := hu.symm
      simp only [Prod.mk.injEq] at hu
      obtain ⟨rfl, rfl, rfl⟩ := hu
      rcases hq with ⟨ho2, -⟩ | ⟨ho2, rfl, -⟩ | ⟨ho2, rfl, -⟩ | ⟨ho2, rfl, -⟩
      · exfalso; exact ho2.2.2 ho.2.2
      · refine W.widen (show cells + 3 + 0 + 0 ≤ cells + 3 by omega) (show slots + 18 + 0 + 0 ≤ slots + 18 by omega) (hnext n _ (g) v_ss v_ds v_oma v_obr v_obj v_obo v_obm v_plo v_pch v_pbe v_pbl v_dnu v_dde v_dbo v_dln v_dld v_tba v_tal v_tro v_tsc v_tcl v_rma ov' w_mow w_mta w_mba w_mib w_mdi w_mab w_mbe w_mpl w_mbs w_mro w_mlo (m_mth) H locs ls ⟨hG, hpo, hS, hDv, hpm⟩ ⟨hP, hD, hS0⟩ (lv_sub hl [2, 3, 4, 5, 6] rfl))
      · refine W.widen (show cells + 3 + 0 + 0 ≤ cells + 3 by omega) (show slots + 18 + 0 + 0 ≤ slots + 18 by omega) (hnext n _ (g) v_ss v_ds v_oma v_obr v_obj v_obo v_obm v_plo v_pch v_pbe v_pbl v_dnu v_dde v_dbo v_dln v_dld v_tba v_tal v_tro v_tsc v_tcl v_rma ov' w_mow w_mta w_mba w_mib w_mdi w_mab w_mbe w_mpl w_mbs w_mro w_mlo (m_mth) H locs ls ⟨hG, hpo, hS, hDv, hpm⟩ ⟨hP, hD, hS0⟩ (lv_sub hl [2, 3, 4, 5, 6] rfl))
      · refine W.widen (show cells + 3 + 0 + 0 ≤ cells + 3 by omega) (show slots + 18 + 0 + 0 ≤ slots + 18 by omega) (hnext n _ (g) v_ss v_ds v_oma v_obr v_obj v_obo v_obm v_plo v_pch v_pbe v_pbl v_dnu v_dde v_dbo v_dln v_dld v_tba v_tal v_tro v_tsc v_tcl v_rma ov' w_mow w_mta w_mba w_mib w_mdi w_mab w_mbe w_mpl w_mbs w_mro w_mlo (m_mth) H locs ls ⟨hG, hpo, hS, hDv, hpm⟩ ⟨hP, hD, hS0⟩ (lv_sub hl [2, 3, 4, 5, 6] rfl))
  refine lv_if_ne (tgt := 301) hx hb dL_law_286 (by decide) (fun _ => hend) (fun hk0 => ?_)
  refine lv_aload_n hx hb dL_law_289 rfl (lv_at hl 5 rfl) ?_
  refine lv_iconst (v := (0 : Int32)) hx hb dL_law_290 (by decide) ?_
  refine va_lald hx hb hK hP 28 1 rfl rfl in01 dL_law_291 ?_
  refine lv_iload hx hb dL_law_292 (lv_at hl 0 rfl) ?_
  have hov0 : ov' (0 : Int32).toNatClampNeg = ov' 0 := congrArg ov' (by decide)
  refine lv_i2l (v := r.toInt64) hx hb dL_law_294 rfl ?_
  exact lq_eq (tgt := 301) hx hb dL_law_295 dL_law_296 (by decide) (fun _ => hend) (fun h9 => absurd (hov0.trans (hfin.2 hk0)) h9)
end
