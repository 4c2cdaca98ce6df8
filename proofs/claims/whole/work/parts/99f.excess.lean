/-! what the law's comparison of two doubles finds -/
theorem n32_iff {b : UInt32} : isNaN32 b = true ↔ Jvm.FP.Core.fIsNaN b = true := by
  rw [isNaN32_not]
  have h : (b &&& 0x7fffffff ≤ 0x7f800000) ↔ Jvm.FP.Core.fIsNaN b = false := Jvm.Free.Fl.noNaN32_no (x := b)
  rw [h]
  cases Jvm.FP.Core.fIsNaN b <;> simp
theorem n64_iff {b : UInt64} : isNaN64 b = true ↔ Jvm.FP.Core.dIsNaN b = true := by
  rw [isNaN64_not]
  have h : (b &&& 0x7fffffffffffffff ≤ 0x7ff0000000000000) ↔ Jvm.FP.Core.dIsNaN b = false := Jvm.Free.Fl.noNaN64_no (x := b)
  rw [h]
  cases Jvm.FP.Core.dIsNaN b <;> simp
theorem al32 {x y : UInt32} (h : alike32 x y = true) : x = y ∨ (isNaN32 x = true ∧ isNaN32 y = true) := by
  unfold alike32 at h
  rcases Bool.or_eq_true_iff.mp h with h | h
  · exact Or.inl (of_decide_eq_true h)
  · exact Or.inr (Bool.and_eq_true_iff.mp h)
theorem al64 {x y : UInt64} (h : alike64 x y = true) : x = y ∨ (isNaN64 x = true ∧ isNaN64 y = true) := by
  unfold alike64 at h
  rcases Bool.or_eq_true_iff.mp h with h | h
  · exact Or.inl (of_decide_eq_true h)
  · exact Or.inr (Bool.and_eq_true_iff.mp h)
theorem nan_cmp {p : UInt64} (h : isNaN64 p = true) : ¬ Op.cmpValue (FP.dcmp p p) .l = 0 := by
  have h1 := (Jvm.FP.Core.dIsNaN_iff p).mp (n64_iff.mp h)
  have h2 : FP.dcmp p p = none := (Jvm.FP.Core.dcmp_none p p).mpr (Or.inl h1)
  rw [h2]
  decide
theorem f2d_64 {r : UInt32} : isNaN64 (FP.f2d r) = true ↔ isNaN32 r = true := by
  rw [n64_iff, n32_iff]
  have : Jvm.FP.Core.dIsNaN (FP.f2d r) = Jvm.FP.Core.fIsNaN r := Jvm.FP.f2d_nan r
  rw [this]
theorem ex_alike {x r r' : UInt32} {p q : UInt64} (h1 : alike32 r x = true) (h2 : alike32 r' x = true) (a1 : alike64 p (FP.f2d r) = true) (a2 : alike64 q (FP.f2d r') = true) (hne : ¬ Op.cmpValue (FP.dcmp p q) .l = 0) : ¬ Op.cmpValue (FP.dcmp p p) .l = 0 ∧ ¬ Op.cmpValue (FP.dcmp q q) .l = 0 := by
  by_cases hx : isNaN32 x = true
  · have nan : ∀ (r : UInt32) (p : UInt64), alike32 r x = true → alike64 p (FP.f2d r) = true → isNaN64 p = true := fun r p b1 b2 => by
      have hr : isNaN32 r = true := by
        rcases al32 b1 with e | e
        · rw [e]; exact hx
        · exact e.1
      rcases al64 b2 with e | e
      · rw [e]; exact f2d_64.mpr hr
      · exact e.1
    exact ⟨nan_cmp (nan r p h1 a1), nan_cmp (nan r' q h2 a2)⟩
  · have same : ∀ (r : UInt32) (p : UInt64), alike32 r x = true → alike64 p (FP.f2d r) = true → p = FP.f2d x := fun r p b1 b2 => by
      have hr : r = x := by
        rcases al32 b1 with e | e
        · exact e
        · exact absurd e.2 hx
      subst hr
      rcases al64 b2 with e | e
      · exact e
      · exact absurd (f2d_64.mp e.2) hx
    have e1 := same r p h1 a1
    have e2 := same r' q h2 a2
    exfalso
    apply hne
    rw [e1, e2]
    have hv : Jvm.FP.Core.val64 (FP.f2d x) ≠ .nan := fun h => hx (f2d_64.mp (n64_iff.mpr ((Jvm.FP.Core.dIsNaN_iff _).mpr h)))
    have h3 : FP.dcmp (FP.f2d x) (FP.f2d x) = some .eq := Jvm.FP.Core.dcmp_self hv
    rw [h3]
    rfl
section
variable {p : Program} {l : Launch} {e : Env} {s : State} {m : MethodId} {args : Array Value} {below : List Frame} {meth : Method} {c : Code} {dC : Nat → ClassId} {dI : Nat → Nat → Nat} {cy : Nat → ClassId} {A : Nat → Prop} {b L : Nat} {xs : Nat → Int32} {ad am : Nat → Nat} {ao : Nat} {Z : State → Prop}
set_option maxHeartbeats 4000000 in
set_option maxRecDepth 100000 in
theorem law_16 (C0 : ∀ d, cxLaw p (s.setDrawn d) m args meth c dC dI cy A b L xs) {d0 : Drawn} (hd0 : s.drawn.sameBut d0 lw_cs)
    {n : Nat} {ti : Nat → Int32} {g : Nat → Nat} {v_ss : Int32} {v_ds : Int32} {v_oma : Nat → Int32} {v_obr : Int32} {v_obj : Int32} {v_obo : Int32} {v_obm : Int32} {v_plo : Nat → Int32} {v_pch : Nat → Int32} {v_pbe : Nat → Int32} {v_pbl : Int32} {v_dnu : Nat → Int32} {v_dde : Nat → Int32} {v_dbo : Int32} {v_dln : Int32} {v_dld : Int32} {v_tba : Nat → Int32} {v_tal : Nat → Int32} {v_tro : Int32} {v_tsc : Int64} {v_tcl : Nat → Nat → Int64} {v_rma : Nat → Int32} {ov : Nat → Int64} {w_mow : Nat → Int32} {w_mta : Nat → Int64} {w_mba : Nat → Int32} {w_mib : Nat → Int32} {w_mdi : Int64} {w_mab : Nat → Int64} {w_mbe : Nat → Int64} {w_mpl : Nat → Int32} {w_mbs : Nat → Int32} {w_mro : Nat → Int32} {w_mlo : Nat → Int32} {w_mth : Int32} {H : Heap} {locs : List Loc} {ls : Array Slot} {i : Int32} {cells slots : Nat} (hIV : IV n ti g v_oma v_ss v_pbl v_pbe v_ds v_dnu v_dde v_dbo v_dln v_dld v_rma w_mow) (hSt : stC dC dI A s ((wC ad cy v_ss v_ds ti (nI n) v_oma v_obr v_obj v_obo v_obm v_plo v_pch v_pbe v_pbl v_dnu v_dde v_dbo v_dln v_dld v_tba v_tal v_tro v_tsc v_tcl v_rma ++ oW ao cy ov) ++ wM am cy ti w_mow (nI n) w_mta w_mba w_mib w_mdi w_mab w_mbe w_mpl w_mbs w_mro w_mlo w_mth) H locs) (hl : lv_has ls 9 [(0, .ref b), (1, .ref (ad 0)), (2, .ref (am 0)), (3, .ref ao), (4, .int i)]) (hce : cells + 3 ≤ 601024) (hsl : slots + 18 ≤ 7293034)
    (hnext : ∀ (d : Drawn), s.drawn.sameBut d lw_cs → ∀ (n : Nat) (ti : Nat → Int32) (g : Nat → Nat) (v_ss : Int32) (v_ds : Int32) (v_oma : Nat → Int32) (v_obr : Int32) (v_obj : Int32) (v_obo : Int32) (v_obm : Int32) (v_plo : Nat → Int32) (v_pch : Nat → Int32) (v_pbe : Nat → Int32) (v_pbl : Int32) (v_dnu : Nat → Int32) (v_dde : Nat → Int32) (v_dbo : Int32) (v_dln : Int32) (v_dld : Int32) (v_tba : Nat → Int32) (v_tal : Nat → Int32) (v_tro : Int32) (v_tsc : Int64) (v_tcl : Nat → Nat → Int64) (v_rma : Nat → Int32) (ov : Nat → Int64) (w_mow : Nat → Int32) (w_mta : Nat → Int64) (w_mba : Nat → Int32) (w_mib : Nat → Int32) (w_mdi : Int64) (w_mab : Nat → Int64) (w_mbe : Nat → Int64) (w_mpl : Nat → Int32) (w_mbs : Nat → Int32) (w_mro : Nat → Int32) (w_mlo : Nat → Int32) (w_mth : Int32) (H : Heap) (locs : List Loc) (ls : Array Slot), IV n ti g v_oma v_ss v_pbl v_pbe v_ds v_dnu v_dde v_dbo v_dln v_dld v_rma w_mow → stC dC dI A s ((wC ad cy v_ss v_ds ti (nI n) v_oma v_obr v_obj v_obo v_obm v_plo v_pch v_pbe v_pbl v_dnu v_dde v_dbo v_dln v_dld v_tba v_tal v_tro v_tsc v_tcl v_rma ++ oW ao cy ov) ++ wM am cy ti w_mow (nI n) w_mta w_mba w_mib w_mdi w_mab w_mbe w_mpl w_mbs w_mro w_mlo w_mth) H locs → lv_has ls 9 [(0, .ref b), (1, .ref (ad 0)), (2, .ref (am 0)), (3, .ref ao), (4, .int i)] → W p l e room_1 (s.setDrawn d) m args below meth c H locs (cells + 3) (slots + 18) Z (F0 m 1049 ls [])) : W p l e room_1 (s.setDrawn d0) m args below meth c H locs cells slots Z (F0 m 787 ls []) := by
  obtain ⟨hx, hb, hml, hr, hown, hts, hlocks, hK, hA, hN, -, -, -, -, -⟩ := C0 d0
  obtain ⟨hG, hpo, hS, hDv, hpm⟩ := id hIV
  have hRc : 601024 ≤ room_1.cells := Nat.le_refl _
  have hRs : 7293034 ≤ room_1.slots := Nat.le_refl _
  have hN6 : 600000 ≤ 2000000000 := Nat.le_of_ble_eq_true rfl
  have hN2 : 2000000000 ≤ 2000000000 := Nat.le_refl _
  obtain ⟨hP, hD, hS0⟩ := hSt
  have hP := wp_assoc.mp hP
  have hD := wd_assoc.mp hD
  obtain ⟨hPa, -⟩ := wp_app.mp hP
  obtain ⟨hDa, -, -⟩ := wd_app.mp hD
  have hFa := va_freeSame hDa hS0 hA
  refine lv_aload_n hx hb dL_law_787 rfl (lv_at hl 1 rfl) ?_
  refine va_callfD hd0 (va_runV_D (As := []) (rest := []) ⟨hx, hb, hml, hown, hts⟩ (c_X6_excess l dC dI cy ad H.size v_ss v_ds ti (nI n) v_oma v_obr v_obj v_obo v_obm v_plo v_pch v_pbe v_pbl v_dnu v_dde v_dbo v_dln v_dld v_tba v_tal v_tro v_tsc v_tcl v_rma 2000000000 _ (s_excess (N := 2000000000) (Q := (fun (r : UInt32) (ss : Int32) (ds : Int32) (plo : Nat → Int32) (pch : Nat → Int32) (pbe : Nat → Int32) (pbl : Int32) (dnu : Nat → Int32) (dde : Nat → Int32) (dbo : Int32) (dln : Int32) (dld : Int32) (tba : Nat → Int32) (tal : Nat → Int32) (tro : Int32) (tsc : Int64) (tcl : Nat → Nat → Int64) (rma : Nat → Int32) => alike32 r (exV n ti) = true ∧ SInv n ti pbl pbe ∧ DInv n ti dnu dde dbo dln dld rma)) hN6 hG hS hDv (fun _ _ _ _ _ _ _ _ _ _ _ _ _ _ _ _ _ _ h1 h2 h3 => ⟨h3, h1, h2⟩))) (cwV 0 hts gL_law_X6_excess rfl rfl rfl (by decide +kernel) ⟨Nat.le_of_ble_eq_true rfl, Nat.le_of_ble_eq_true rfl⟩) ⟨cPre_blind, va_recv hK hPa (ci := 6) (q0 := 0) rfl rfl, fun U hU hW => ⟨rfl, cPre_at hPa hK hDa hN hU hW⟩⟩ rfl rfl hl.1 rfl (lv_room (Nat.le_of_ble_eq_true rfl)) dL_law_788 ⟨Nat.le_trans (show cells + 0 ≤ 601024 by omega) hRc, Nat.le_trans (show slots + 0 ≤ 7293034 by omega) hRs⟩) hS0 (fun q _ h => hFa q h) hFa (fun r u t H locs ht hvm hw hB hz1 hk1 hS0 d1 hd1 => ?_)
  obtain ⟨hP, hD⟩ := wj_l hP hD hk1 hFa (cPost_P ht hB) hB.2.2
  have hP := wp_assoc.mpr hP
  have hD := wd_assoc.mpr hD
  try dsimp only at hw hP hD
  obtain ⟨u_ss, u_ds, u_plo, u_pch, u_pbe, u_pbl, u_dnu, u_dde, u_dbo, u_dln, u_dld, u_tba, u_tal, u_tro, u_tsc, u_tcl, u_rma⟩ := u
  try dsimp only at hw hP hD
  refine lv_f2d_any hd1 lw_bits hx hb dL_law_791 (fun p9 d2 hp9 hd2 => ?_)
  refine lv_dstore (lv' := [(5, .double p9), (0, .ref b), (1, .ref (ad 0)), (2, .ref (am 0)), (3, .ref ao), (4, .int i)]) hx hb dL_law_792 hl (by decide) rfl (fun ls hl => ?_)
  obtain ⟨-, -, -, -, hown, hts, -, hK, hA, hN, -, -, -, -, -⟩ := C0 d2
  refine lv_aload_n hx hb dL_law_794 rfl (lv_at hl 3 rfl) ?_
  obtain ⟨-, hPm⟩ := wp_app.mp hP
  obtain ⟨-, hDm, -⟩ := wd_app.mp hD
  have hFm := va_freeSame hDm hS0 hA
  refine va_callfD hd2 (va_runV_D (As := []) (rest := []) ⟨hx, hb, hml, hown, hts⟩ (c_X7_excess l dC dI cy am H.size ti w_mow (nI n) w_mta w_mba w_mib w_mdi w_mab w_mbe w_mpl w_mbs w_mro w_mlo w_mth 2000000000 _ (t_excess (N := 2000000000) (Q := (fun (r : UInt32) (mta : Nat → Int64) (mba : Nat → Int32) (mib : Nat → Int32) (mdi : Int64) (mab : Nat → Int64) (mbe : Nat → Int64) (mpl : Nat → Int32) (mbs : Nat → Int32) (mro : Nat → Int32) (mlo : Nat → Int32) (mth : Int32) => alike32 r (exV n ti) = true)) hN2 hG (fun _ _ _ _ _ _ _ _ _ _ _ h => h))) (cwV 0 hts gL_law_X7_excess rfl rfl rfl (by decide +kernel) ⟨Nat.le_of_ble_eq_true rfl, Nat.le_of_ble_eq_true rfl⟩) ⟨cPre_blind, va_recv hK hPm (ci := 7) (q0 := 0) rfl rfl, fun U hU hW => ⟨rfl, cPre_at hPm hK hDm hN hU hW⟩⟩ rfl rfl hl.1 rfl (lv_room (Nat.le_of_ble_eq_true rfl)) dL_law_795 ⟨Nat.le_trans (show cells + 0 + 0 ≤ 601024 by omega) hRc, Nat.le_trans (show slots + 0 + 0 ≤ 7293034 by omega) hRs⟩) hS0 (fun q _ h => hFm q h) hFm (fun r2 u2 t H locs ht hvm hq hB hz1 hk1 hS0 d3 hd3 => ?_)
  obtain ⟨hP, hD⟩ := wj_r hP hD hk1 hFm (cPost_P ht hB) hB.2.2
  obtain ⟨m_mta, m_mba, m_mib, m_mdi, m_mab, m_mbe, m_mpl, m_mbs, m_mro, m_mlo, m_mth⟩ := u2
  try dsimp only at hq hP hD
  refine lv_f2d_any hd3 lw_bits hx hb dL_law_798 (fun q9 d4 hq9 hd4 => ?_)
  refine lv_dstore (lv' := [(7, .double q9), (5, .double p9), (0, .ref b), (1, .ref (ad 0)), (2, .ref (am 0)), (3, .ref ao), (4, .int i)]) hx hb dL_law_799 hl (by decide) rfl (fun ls hl => ?_)
  have hend : W p l e room_1 (s.setDrawn d4) m args below meth c H locs (cells + 0 + 0) (slots + 0 + 0) Z (F0 m 827 ls []) := by
    refine lv_goto (tgt := 1049) hx hb dL_law_827 (by decide) ?_
    exact W.widen (show cells + 0 + 0 ≤ cells + 3 by omega) (show slots + 0 + 0 ≤ slots + 18 by omega) (hnext d4 hd4 n ti g (u_ss) (u_ds) v_oma v_obr v_obj v_obo v_obm (u_plo) (u_pch) (u_pbe) (u_pbl) (u_dnu) (u_dde) (u_dbo) (u_dln) (u_dld) (u_tba) (u_tal) (u_tro) (u_tsc) (u_tcl) (u_rma) ov w_mow (m_mta) (m_mba) (m_mib) (m_mdi) (m_mab) (m_mbe) (m_mpl) (m_mbs) (m_mro) (m_mlo) (m_mth) H locs ls ⟨hG, hpo, (fun _ => hw.2.1), (fun _ => hw.2.2), hpm⟩ ⟨hP, hD, hS0⟩ (lv_sub hl [2, 3, 4, 5, 6] rfl))
  have key := ex_alike hw.1 hq hp9 hq9
  refine lv_dload hx hb dL_law_801 (lv_at hl 1 rfl) ?_
  refine lv_dload hx hb dL_law_803 (lv_at hl 0 rfl) ?_
  refine lv_dcmp hx hb dL_law_805 ?_
  refine lv_if_eq (tgt := 827) hx hb dL_law_806 (by decide) (fun _ => hend) (fun hne => ?_)
  refine lv_dload hx hb dL_law_809 (lv_at hl 1 rfl) ?_
  refine lv_dload hx hb dL_law_811 (lv_at hl 1 rfl) ?_
  refine lv_dcmp hx hb dL_law_813 ?_
  refine lv_if_eq (tgt := 825) hx hb dL_law_814 (by decide) (fun h0 => absurd h0 (key hne).1) (fun _ => ?_)
  refine lv_dload hx hb dL_law_817 (lv_at hl 0 rfl) ?_
  refine lv_dload hx hb dL_law_819 (lv_at hl 0 rfl) ?_
  refine lv_dcmp hx hb dL_law_821 ?_
  exact lv_if_ne (tgt := 827) hx hb dL_law_822 (by decide) (fun _ => hend) (fun h0 => absurd h0 (key hne).2)
end
