/-! the law's loop -/
theorem lt_sub4 {L i0 : Nat} (hL : L ≤ 2048) (hi : i0 ≤ 2052) : (Int32.ofNat L - (4 : Int32) < nI i0) ↔ L < i0 + 4 := by
  have e4 : (4 : Int32) = nI 4 := by decide
  have eL : Int32.ofNat L = nI L := rfl
  rw [e4, eL]
  rcases Nat.lt_or_ge L 4 with h | h
  · have h1 := pk_sneg (a := L) (b := 4) (by omega) h
    exact ⟨fun _ => by omega, fun _ => Int32.lt_of_lt_of_le h1 (nI_pos' (by omega))⟩
  · rw [pk_sub h, nI_ltI (by omega) (by omega)]
    omega
section
variable {p : Program} {l : Launch} {e : Env} {s : State} {m : MethodId} {below : List Frame} {meth : Method} {c : Code} {dC : Nat → ClassId} {dI : Nat → Nat → Nat} {cy : Nat → ClassId} {b L : Nat} {xs : Nat → Int32} {ad am : Nat → Nat} {ao : Nat}
set_option maxHeartbeats 4000000 in
set_option maxRecDepth 100000 in
theorem law_loop (C0 : ∀ d, cxLaw p (s.setDrawn d) m #[Value.ref b] meth c dC dI cy (fun q : Nat => s.heap.size ≤ q) b L xs) (hst : l.stackTraces = false) (hL : L ≤ 2048) :
    ∀ (f i0 : Nat) (d : Drawn) (n : Nat) (ti : Nat → Int32) (g : Nat → Nat) (v_ss : Int32) (v_ds : Int32) (v_oma : Nat → Int32) (v_obr : Int32) (v_obj : Int32) (v_obo : Int32) (v_obm : Int32) (v_plo : Nat → Int32) (v_pch : Nat → Int32) (v_pbe : Nat → Int32) (v_pbl : Int32) (v_dnu : Nat → Int32) (v_dde : Nat → Int32) (v_dbo : Int32) (v_dln : Int32) (v_dld : Int32) (v_tba : Nat → Int32) (v_tal : Nat → Int32) (v_tro : Int32) (v_tsc : Int64) (v_tcl : Nat → Nat → Int64) (v_rma : Nat → Int32) (ov : Nat → Int64) (w_mow : Nat → Int32) (w_mta : Nat → Int64) (w_mba : Nat → Int32) (w_mib : Nat → Int32) (w_mdi : Int64) (w_mab : Nat → Int64) (w_mbe : Nat → Int64) (w_mpl : Nat → Int32) (w_mbs : Nat → Int32) (w_mro : Nat → Int32) (w_mlo : Nat → Int32) (w_mth : Int32) (H : Heap) (locs : List Loc) (ls : Array Slot) (cells slots : Nat), L + 4 ≤ 4 * f + i0 → i0 ≤ 2052 → i0 ≤ L + 3 → cells + 3 * f ≤ 601024 → slots + 18 * f ≤ 7293034 → s.drawn.sameBut d lw_cs → IV n ti g v_oma v_ss v_pbl v_pbe v_ds v_dnu v_dde v_dbo v_dln v_dld v_rma w_mow → stC dC dI (fun q : Nat => s.heap.size ≤ q) s ((wC ad cy v_ss v_ds ti (nI n) v_oma v_obr v_obj v_obo v_obm v_plo v_pch v_pbe v_pbl v_dnu v_dde v_dbo v_dln v_dld v_tba v_tal v_tro v_tsc v_tcl v_rma ++ oW ao cy ov) ++ wM am cy ti w_mow (nI n) w_mta w_mba w_mib w_mdi w_mab w_mbe w_mpl w_mbs w_mro w_mlo w_mth) H locs → lv_has ls 9 [(0, .ref b), (1, .ref (ad 0)), (2, .ref (am 0)), (3, .ref ao), (4, .int (nI i0))] → W p l e room_1 (s.setDrawn d) m #[Value.ref b] below meth c H locs cells slots (lw_Z below #[Value.ref b] s) (F0 m 23 ls []) := by
  intro f
  induction f with
  | zero => intro i0 d n ti g v_ss v_ds v_oma v_obr v_obj v_obo v_obm v_plo v_pch v_pbe v_pbl v_dnu v_dde v_dbo v_dln v_dld v_tba v_tal v_tro v_tsc v_tcl v_rma ov w_mow w_mta w_mba w_mib w_mdi w_mab w_mbe w_mpl w_mbs w_mro w_mlo w_mth H locs ls cells slots h1 h2 h3; omega
  | succ f ih =>
    intro i0 d n ti g v_ss v_ds v_oma v_obr v_obj v_obo v_obm v_plo v_pch v_pbe v_pbl v_dnu v_dde v_dbo v_dln v_dld v_tba v_tal v_tro v_tsc v_tcl v_rma ov w_mow w_mta w_mba w_mib w_mdi w_mab w_mbe w_mpl w_mbs w_mro w_mlo w_mth H locs ls cells slots h1 h2 h3 h4 h5 hd hIV hSt hl
    obtain ⟨hx, hb, hml, hr, hown, hts, hlocks, hK, hA, hN, hXw, hXs, hX, hbl, hbA⟩ := id (C0 d)
    have hS0 : va_S (fun q : Nat => s.heap.size ≤ q) s.heap H locs := hSt.2.2
    refine lv_iload hx hb dL_law_23 (lv_at hl 4 rfl) ?_
    refine lv_aload_n hx hb dL_law_25 rfl (lv_at hl 0 rfl) ?_
    refine va_slen hx hb hX hbl hbA hS0 dL_law_26 ?_
    refine lv_iconst (v := (4 : Int32)) hx hb dL_law_27 (by decide) ?_
    refine lv_isub hx hb dL_law_28 ?_
    refine lv_icmp_gt (tgt := 1055) hx hb dL_law_29 (by decide) (fun _ => ?_) (fun hle => ?_)
    · refine va_forget (fun q hq => hS0.2.2 q hq) ?_
      refine lv_iconst (v := (1 : Int32)) hx hb dL_law_1055 (by decide) ?_
      exact W.widen (show cells ≤ 601024 by omega) (show slots ≤ 7293034 by omega) (lw_ret hd hx hb hr hlocks dL_law_1056)
    · have hin : i0 + 4 ≤ L := by
        rcases Nat.lt_or_ge L (i0 + 4) with q | q
        · exact absurd ((lt_sub4 hL h2).mpr q) hle
        · exact q
      have at0 : vp_in (nI i0) L := vp_in_nI (by omega) (by omega)
      have at1 : vp_in (nI i0 + 1) L := by rw [nI_1]; exact vp_in_nI (by omega) (by omega)
      have at2 : vp_in (nI i0 + 2) L := by rw [show (2 : Int32) = nI 2 from by decide, nI_add]; exact vp_in_nI (by omega) (by omega)
      have at3 : vp_in (nI i0 + 3) L := by rw [show (3 : Int32) = nI 3 from by decide, nI_add]; exact vp_in_nI (by omega) (by omega)
      refine lv_aload_n hx hb dL_law_32 rfl (lv_at hl 0 rfl) ?_
      refine lv_iload hx hb dL_law_33 (lv_at hl 4 rfl) ?_
      refine va_sld hx hb hX hbl hbA hS0 at0 dL_law_35 ?_
      refine lv_bipush (v := (31 : Int32)) hx hb dL_law_36 (by decide) ?_
      refine lv_iand hx hb dL_law_38 ?_
      obtain ⟨j, hj, ej⟩ := pk_andE (xs (nI i0).toNatClampNeg) (m := (31 : Int32)) 5 (by decide)
      rw [ej]
      have next : ∀ (d : Drawn), s.drawn.sameBut d lw_cs → ∀ (n : Nat) (ti : Nat → Int32) (g : Nat → Nat) (v_ss : Int32) (v_ds : Int32) (v_oma : Nat → Int32) (v_obr : Int32) (v_obj : Int32) (v_obo : Int32) (v_obm : Int32) (v_plo : Nat → Int32) (v_pch : Nat → Int32) (v_pbe : Nat → Int32) (v_pbl : Int32) (v_dnu : Nat → Int32) (v_dde : Nat → Int32) (v_dbo : Int32) (v_dln : Int32) (v_dld : Int32) (v_tba : Nat → Int32) (v_tal : Nat → Int32) (v_tro : Int32) (v_tsc : Int64) (v_tcl : Nat → Nat → Int64) (v_rma : Nat → Int32) (ov : Nat → Int64) (w_mow : Nat → Int32) (w_mta : Nat → Int64) (w_mba : Nat → Int32) (w_mib : Nat → Int32) (w_mdi : Int64) (w_mab : Nat → Int64) (w_mbe : Nat → Int64) (w_mpl : Nat → Int32) (w_mbs : Nat → Int32) (w_mro : Nat → Int32) (w_mlo : Nat → Int32) (w_mth : Int32) (H : Heap) (locs : List Loc) (ls : Array Slot), IV n ti g v_oma v_ss v_pbl v_pbe v_ds v_dnu v_dde v_dbo v_dln v_dld v_rma w_mow → stC dC dI (fun q : Nat => s.heap.size ≤ q) s ((wC ad cy v_ss v_ds ti (nI n) v_oma v_obr v_obj v_obo v_obm v_plo v_pch v_pbe v_pbl v_dnu v_dde v_dbo v_dln v_dld v_tba v_tal v_tro v_tsc v_tcl v_rma ++ oW ao cy ov) ++ wM am cy ti w_mow (nI n) w_mta w_mba w_mib w_mdi w_mab w_mbe w_mpl w_mbs w_mro w_mlo w_mth) H locs → lv_has ls 9 [(0, .ref b), (1, .ref (ad 0)), (2, .ref (am 0)), (3, .ref ao), (4, .int (nI i0))] → W p l e room_1 (s.setDrawn d) m #[Value.ref b] below meth c H locs (cells + 3) (slots + 18) (lw_Z below #[Value.ref b] s) (F0 m 1049 ls []) := by
        intro d hd n ti g v_ss v_ds v_oma v_obr v_obj v_obo v_obm v_plo v_pch v_pbe v_pbl v_dnu v_dde v_dbo v_dln v_dld v_tba v_tal v_tro v_tsc v_tcl v_rma ov w_mow w_mta w_mba w_mib w_mdi w_mab w_mbe w_mpl w_mbs w_mro w_mlo w_mth H locs ls hIV hSt hl
        refine lv_iinc (k := 4) (v := nI (i0 + 4)) (lv' := [(4, .int (nI (i0 + 4))), (0, .ref b), (1, .ref (ad 0)), (2, .ref (am 0)), (3, .ref ao)]) hx hb dL_law_1049 hl rfl (by rw [show (Int32.ofInt 4) = nI 4 from by decide, nI_add]) (by decide) rfl (fun ls hl => ?_)
        refine lv_goto (tgt := 23) hx hb dL_law_1052 (by decide) ?_
        exact ih (i0 + 4) d n ti g v_ss v_ds v_oma v_obr v_obj v_obo v_obm v_plo v_pch v_pbe v_pbl v_dnu v_dde v_dbo v_dln v_dld v_tba v_tal v_tro v_tsc v_tcl v_rma ov w_mow w_mta w_mba w_mib w_mdi w_mab w_mbe w_mpl w_mbs w_mro w_mlo w_mth H locs ls (cells + 3) (slots + 18) (by omega) (by omega) (by omega) (by omega) (by omega) hd hIV hSt (lv_sub hl [1, 2, 3, 4, 0] rfl)
      have hj32 : j < 32 := hj
      by_cases j0 : j = 0
      · subst j0
        refine lv_tableIn (tgt := 144) hx hb dL_law_39 (by decide) (by decide) rfl (by decide) ?_
        exact law_0 (l := l) (s := s.setDrawn d) (C0 d) hst (i := nI i0) hIV hSt hl at1 at2 at3 (by omega) (by omega) (fun n ti g v_ss v_ds v_oma v_obr v_obj v_obo v_obm v_plo v_pch v_pbe v_pbl v_dnu v_dde v_dbo v_dln v_dld v_tba v_tal v_tro v_tsc v_tcl v_rma ov w_mow w_mta w_mba w_mib w_mdi w_mab w_mbe w_mpl w_mbs w_mro w_mlo w_mth H locs ls q1 q2 q3 => next d hd n ti g v_ss v_ds v_oma v_obr v_obj v_obo v_obm v_plo v_pch v_pbe v_pbl v_dnu v_dde v_dbo v_dln v_dld v_tba v_tal v_tro v_tsc v_tcl v_rma ov w_mow w_mta w_mba w_mib w_mdi w_mab w_mbe w_mpl w_mbs w_mro w_mlo w_mth H locs ls q1 q2 q3)
      by_cases j1 : j = 1
      · subst j1
        refine lv_tableIn (tgt := 224) hx hb dL_law_39 (by decide) (by decide) rfl (by decide) ?_
        exact law_1 (l := l) (s := s.setDrawn d) (C0 d) hst (i := nI i0) hIV hSt hl at1 at2 at3 (by omega) (by omega) (fun n ti g v_ss v_ds v_oma v_obr v_obj v_obo v_obm v_plo v_pch v_pbe v_pbl v_dnu v_dde v_dbo v_dln v_dld v_tba v_tal v_tro v_tsc v_tcl v_rma ov w_mow w_mta w_mba w_mib w_mdi w_mab w_mbe w_mpl w_mbs w_mro w_mlo w_mth H locs ls q1 q2 q3 => next d hd n ti g v_ss v_ds v_oma v_obr v_obj v_obo v_obm v_plo v_pch v_pbe v_pbl v_dnu v_dde v_dbo v_dln v_dld v_tba v_tal v_tro v_tsc v_tcl v_rma ov w_mow w_mta w_mba w_mib w_mdi w_mab w_mbe w_mpl w_mbs w_mro w_mlo w_mth H locs ls q1 q2 q3)
      by_cases j2 : j = 2
      · subst j2
        refine lv_tableIn (tgt := 304) hx hb dL_law_39 (by decide) (by decide) rfl (by decide) ?_
        exact law_2 (l := l) (s := s.setDrawn d) (C0 d) hst (i := nI i0) hIV hSt hl at1 at2 at3 (by omega) (by omega) (fun n ti g v_ss v_ds v_oma v_obr v_obj v_obo v_obm v_plo v_pch v_pbe v_pbl v_dnu v_dde v_dbo v_dln v_dld v_tba v_tal v_tro v_tsc v_tcl v_rma ov w_mow w_mta w_mba w_mib w_mdi w_mab w_mbe w_mpl w_mbs w_mro w_mlo w_mth H locs ls q1 q2 q3 => next d hd n ti g v_ss v_ds v_oma v_obr v_obj v_obo v_obm v_plo v_pch v_pbe v_pbl v_dnu v_dde v_dbo v_dln v_dld v_tba v_tal v_tro v_tsc v_tcl v_rma ov w_mow w_mta w_mba w_mib w_mdi w_mab w_mbe w_mpl w_mbs w_mro w_mlo w_mth H locs ls q1 q2 q3)
      by_cases j3 : j = 3
      · subst j3
        refine lv_tableIn (tgt := 317) hx hb dL_law_39 (by decide) (by decide) rfl (by decide) ?_
        exact law_3 (l := l) (s := s.setDrawn d) (C0 d) hst (i := nI i0) hIV hSt hl at1 at2 at3 (by omega) (by omega) (fun n ti g v_ss v_ds v_oma v_obr v_obj v_obo v_obm v_plo v_pch v_pbe v_pbl v_dnu v_dde v_dbo v_dln v_dld v_tba v_tal v_tro v_tsc v_tcl v_rma ov w_mow w_mta w_mba w_mib w_mdi w_mab w_mbe w_mpl w_mbs w_mro w_mlo w_mth H locs ls q1 q2 q3 => next d hd n ti g v_ss v_ds v_oma v_obr v_obj v_obo v_obm v_plo v_pch v_pbe v_pbl v_dnu v_dde v_dbo v_dln v_dld v_tba v_tal v_tro v_tsc v_tcl v_rma ov w_mow w_mta w_mba w_mib w_mdi w_mab w_mbe w_mpl w_mbs w_mro w_mlo w_mth H locs ls q1 q2 q3)
      by_cases j4 : j = 4
      · subst j4
        refine lv_tableIn (tgt := 330) hx hb dL_law_39 (by decide) (by decide) rfl (by decide) ?_
        exact law_4 (l := l) (s := s.setDrawn d) (C0 d) hst (i := nI i0) hIV hSt hl at1 at2 at3 (by omega) (by omega) (fun n ti g v_ss v_ds v_oma v_obr v_obj v_obo v_obm v_plo v_pch v_pbe v_pbl v_dnu v_dde v_dbo v_dln v_dld v_tba v_tal v_tro v_tsc v_tcl v_rma ov w_mow w_mta w_mba w_mib w_mdi w_mab w_mbe w_mpl w_mbs w_mro w_mlo w_mth H locs ls q1 q2 q3 => next d hd n ti g v_ss v_ds v_oma v_obr v_obj v_obo v_obm v_plo v_pch v_pbe v_pbl v_dnu v_dde v_dbo v_dln v_dld v_tba v_tal v_tro v_tsc v_tcl v_rma ov w_mow w_mta w_mba w_mib w_mdi w_mab w_mbe w_mpl w_mbs w_mro w_mlo w_mth H locs ls q1 q2 q3)
      by_cases j5 : j = 5
      · subst j5
        refine lv_tableIn (tgt := 398) hx hb dL_law_39 (by decide) (by decide) rfl (by decide) ?_
        exact law_5 (l := l) (s := s.setDrawn d) (C0 d) hst (i := nI i0) hIV hSt hl at1 at2 at3 (by omega) (by omega) (fun n ti g v_ss v_ds v_oma v_obr v_obj v_obo v_obm v_plo v_pch v_pbe v_pbl v_dnu v_dde v_dbo v_dln v_dld v_tba v_tal v_tro v_tsc v_tcl v_rma ov w_mow w_mta w_mba w_mib w_mdi w_mab w_mbe w_mpl w_mbs w_mro w_mlo w_mth H locs ls q1 q2 q3 => next d hd n ti g v_ss v_ds v_oma v_obr v_obj v_obo v_obm v_plo v_pch v_pbe v_pbl v_dnu v_dde v_dbo v_dln v_dld v_tba v_tal v_tro v_tsc v_tcl v_rma ov w_mow w_mta w_mba w_mib w_mdi w_mab w_mbe w_mpl w_mbs w_mro w_mlo w_mth H locs ls q1 q2 q3)
      by_cases j6 : j = 6
      · subst j6
        refine lv_tableIn (tgt := 411) hx hb dL_law_39 (by decide) (by decide) rfl (by decide) ?_
        exact law_6 (l := l) (s := s.setDrawn d) (C0 d) hst (i := nI i0) hIV hSt hl at1 at2 at3 (by omega) (by omega) (fun n ti g v_ss v_ds v_oma v_obr v_obj v_obo v_obm v_plo v_pch v_pbe v_pbl v_dnu v_dde v_dbo v_dln v_dld v_tba v_tal v_tro v_tsc v_tcl v_rma ov w_mow w_mta w_mba w_mib w_mdi w_mab w_mbe w_mpl w_mbs w_mro w_mlo w_mth H locs ls q1 q2 q3 => next d hd n ti g v_ss v_ds v_oma v_obr v_obj v_obo v_obm v_plo v_pch v_pbe v_pbl v_dnu v_dde v_dbo v_dln v_dld v_tba v_tal v_tro v_tsc v_tcl v_rma ov w_mow w_mta w_mba w_mib w_mdi w_mab w_mbe w_mpl w_mbs w_mro w_mlo w_mth H locs ls q1 q2 q3)
      by_cases j7 : j = 7
      · subst j7
        refine lv_tableIn (tgt := 424) hx hb dL_law_39 (by decide) (by decide) rfl (by decide) ?_
        exact law_7 (l := l) (s := s.setDrawn d) (C0 d) hst (i := nI i0) hIV hSt hl at1 at2 at3 (by omega) (by omega) (fun n ti g v_ss v_ds v_oma v_obr v_obj v_obo v_obm v_plo v_pch v_pbe v_pbl v_dnu v_dde v_dbo v_dln v_dld v_tba v_tal v_tro v_tsc v_tcl v_rma ov w_mow w_mta w_mba w_mib w_mdi w_mab w_mbe w_mpl w_mbs w_mro w_mlo w_mth H locs ls q1 q2 q3 => next d hd n ti g v_ss v_ds v_oma v_obr v_obj v_obo v_obm v_plo v_pch v_pbe v_pbl v_dnu v_dde v_dbo v_dln v_dld v_tba v_tal v_tro v_tsc v_tcl v_rma ov w_mow w_mta w_mba w_mib w_mdi w_mab w_mbe w_mpl w_mbs w_mro w_mlo w_mth H locs ls q1 q2 q3)
      by_cases j8 : j = 8
      · subst j8
        refine lv_tableIn (tgt := 480) hx hb dL_law_39 (by decide) (by decide) rfl (by decide) ?_
        exact law_8 (l := l) (s := s.setDrawn d) (C0 d) hst (i := nI i0) hIV hSt hl at1 at2 at3 (by omega) (by omega) (fun n ti g v_ss v_ds v_oma v_obr v_obj v_obo v_obm v_plo v_pch v_pbe v_pbl v_dnu v_dde v_dbo v_dln v_dld v_tba v_tal v_tro v_tsc v_tcl v_rma ov w_mow w_mta w_mba w_mib w_mdi w_mab w_mbe w_mpl w_mbs w_mro w_mlo w_mth H locs ls q1 q2 q3 => next d hd n ti g v_ss v_ds v_oma v_obr v_obj v_obo v_obm v_plo v_pch v_pbe v_pbl v_dnu v_dde v_dbo v_dln v_dld v_tba v_tal v_tro v_tsc v_tcl v_rma ov w_mow w_mta w_mba w_mib w_mdi w_mab w_mbe w_mpl w_mbs w_mro w_mlo w_mth H locs ls q1 q2 q3)
      by_cases j9 : j = 9
      · subst j9
        refine lv_tableIn (tgt := 493) hx hb dL_law_39 (by decide) (by decide) rfl (by decide) ?_
        exact law_9 (l := l) (s := s.setDrawn d) (C0 d) hst (i := nI i0) hIV hSt hl at1 at2 at3 (by omega) (by omega) (fun n ti g v_ss v_ds v_oma v_obr v_obj v_obo v_obm v_plo v_pch v_pbe v_pbl v_dnu v_dde v_dbo v_dln v_dld v_tba v_tal v_tro v_tsc v_tcl v_rma ov w_mow w_mta w_mba w_mib w_mdi w_mab w_mbe w_mpl w_mbs w_mro w_mlo w_mth H locs ls q1 q2 q3 => next d hd n ti g v_ss v_ds v_oma v_obr v_obj v_obo v_obm v_plo v_pch v_pbe v_pbl v_dnu v_dde v_dbo v_dln v_dld v_tba v_tal v_tro v_tsc v_tcl v_rma ov w_mow w_mta w_mba w_mib w_mdi w_mab w_mbe w_mpl w_mbs w_mro w_mlo w_mth H locs ls q1 q2 q3)
      by_cases j10 : j = 10
      · subst j10
        refine lv_tableIn (tgt := 561) hx hb dL_law_39 (by decide) (by decide) rfl (by decide) ?_
        exact law_10 (l := l) (s := s.setDrawn d) (C0 d) hst (i := nI i0) hIV hSt hl at1 at2 at3 (by omega) (by omega) (fun n ti g v_ss v_ds v_oma v_obr v_obj v_obo v_obm v_plo v_pch v_pbe v_pbl v_dnu v_dde v_dbo v_dln v_dld v_tba v_tal v_tro v_tsc v_tcl v_rma ov w_mow w_mta w_mba w_mib w_mdi w_mab w_mbe w_mpl w_mbs w_mro w_mlo w_mth H locs ls q1 q2 q3 => next d hd n ti g v_ss v_ds v_oma v_obr v_obj v_obo v_obm v_plo v_pch v_pbe v_pbl v_dnu v_dde v_dbo v_dln v_dld v_tba v_tal v_tro v_tsc v_tcl v_rma ov w_mow w_mta w_mba w_mib w_mdi w_mab w_mbe w_mpl w_mbs w_mro w_mlo w_mth H locs ls q1 q2 q3)
      by_cases j11 : j = 11
      · subst j11
        refine lv_tableIn (tgt := 629) hx hb dL_law_39 (by decide) (by decide) rfl (by decide) ?_
        exact law_11 (l := l) (s := s.setDrawn d) (C0 d) hst (i := nI i0) hIV hSt hl at1 at2 at3 (by omega) (by omega) (fun n ti g v_ss v_ds v_oma v_obr v_obj v_obo v_obm v_plo v_pch v_pbe v_pbl v_dnu v_dde v_dbo v_dln v_dld v_tba v_tal v_tro v_tsc v_tcl v_rma ov w_mow w_mta w_mba w_mib w_mdi w_mab w_mbe w_mpl w_mbs w_mro w_mlo w_mth H locs ls q1 q2 q3 => next d hd n ti g v_ss v_ds v_oma v_obr v_obj v_obo v_obm v_plo v_pch v_pbe v_pbl v_dnu v_dde v_dbo v_dln v_dld v_tba v_tal v_tro v_tsc v_tcl v_rma ov w_mow w_mta w_mba w_mib w_mdi w_mab w_mbe w_mpl w_mbs w_mro w_mlo w_mth H locs ls q1 q2 q3)
      by_cases j12 : j = 12
      · subst j12
        refine lv_tableIn (tgt := 692) hx hb dL_law_39 (by decide) (by decide) rfl (by decide) ?_
        exact law_12 (l := l) (s := s.setDrawn d) (C0 d) hst (i := nI i0) hIV hSt hl at1 at2 at3 (by omega) (by omega) (fun n ti g v_ss v_ds v_oma v_obr v_obj v_obo v_obm v_plo v_pch v_pbe v_pbl v_dnu v_dde v_dbo v_dln v_dld v_tba v_tal v_tro v_tsc v_tcl v_rma ov w_mow w_mta w_mba w_mib w_mdi w_mab w_mbe w_mpl w_mbs w_mro w_mlo w_mth H locs ls q1 q2 q3 => next d hd n ti g v_ss v_ds v_oma v_obr v_obj v_obo v_obm v_plo v_pch v_pbe v_pbl v_dnu v_dde v_dbo v_dln v_dld v_tba v_tal v_tro v_tsc v_tcl v_rma ov w_mow w_mta w_mba w_mib w_mdi w_mab w_mbe w_mpl w_mbs w_mro w_mlo w_mth H locs ls q1 q2 q3)
      by_cases j13 : j = 13
      · subst j13
        refine lv_tableIn (tgt := 705) hx hb dL_law_39 (by decide) (by decide) rfl (by decide) ?_
        exact law_13 (l := l) (s := s.setDrawn d) (C0 d) hst (i := nI i0) hIV hSt hl at1 at2 at3 (by omega) (by omega) (fun n ti g v_ss v_ds v_oma v_obr v_obj v_obo v_obm v_plo v_pch v_pbe v_pbl v_dnu v_dde v_dbo v_dln v_dld v_tba v_tal v_tro v_tsc v_tcl v_rma ov w_mow w_mta w_mba w_mib w_mdi w_mab w_mbe w_mpl w_mbs w_mro w_mlo w_mth H locs ls q1 q2 q3 => next d hd n ti g v_ss v_ds v_oma v_obr v_obj v_obo v_obm v_plo v_pch v_pbe v_pbl v_dnu v_dde v_dbo v_dln v_dld v_tba v_tal v_tro v_tsc v_tcl v_rma ov w_mow w_mta w_mba w_mib w_mdi w_mab w_mbe w_mpl w_mbs w_mro w_mlo w_mth H locs ls q1 q2 q3)
      by_cases j14 : j = 14
      · subst j14
        refine lv_tableIn (tgt := 718) hx hb dL_law_39 (by decide) (by decide) rfl (by decide) ?_
        exact law_14 (l := l) (s := s.setDrawn d) (C0 d) hst (i := nI i0) hIV hSt hl at1 at2 at3 (by omega) (by omega) (fun n ti g v_ss v_ds v_oma v_obr v_obj v_obo v_obm v_plo v_pch v_pbe v_pbl v_dnu v_dde v_dbo v_dln v_dld v_tba v_tal v_tro v_tsc v_tcl v_rma ov w_mow w_mta w_mba w_mib w_mdi w_mab w_mbe w_mpl w_mbs w_mro w_mlo w_mth H locs ls q1 q2 q3 => next d hd n ti g v_ss v_ds v_oma v_obr v_obj v_obo v_obm v_plo v_pch v_pbe v_pbl v_dnu v_dde v_dbo v_dln v_dld v_tba v_tal v_tro v_tsc v_tcl v_rma ov w_mow w_mta w_mba w_mib w_mdi w_mab w_mbe w_mpl w_mbs w_mro w_mlo w_mth H locs ls q1 q2 q3)
      by_cases j15 : j = 15
      · subst j15
        refine lv_tableIn (tgt := 774) hx hb dL_law_39 (by decide) (by decide) rfl (by decide) ?_
        exact law_15 (l := l) (s := s.setDrawn d) (C0 d) hst (i := nI i0) hIV hSt hl at1 at2 at3 (by omega) (by omega) (fun n ti g v_ss v_ds v_oma v_obr v_obj v_obo v_obm v_plo v_pch v_pbe v_pbl v_dnu v_dde v_dbo v_dln v_dld v_tba v_tal v_tro v_tsc v_tcl v_rma ov w_mow w_mta w_mba w_mib w_mdi w_mab w_mbe w_mpl w_mbs w_mro w_mlo w_mth H locs ls q1 q2 q3 => next d hd n ti g v_ss v_ds v_oma v_obr v_obj v_obo v_obm v_plo v_pch v_pbe v_pbl v_dnu v_dde v_dbo v_dln v_dld v_tba v_tal v_tro v_tsc v_tcl v_rma ov w_mow w_mta w_mba w_mib w_mdi w_mab w_mbe w_mpl w_mbs w_mro w_mlo w_mth H locs ls q1 q2 q3)
      by_cases j16 : j = 16
      · subst j16
        refine lv_tableIn (tgt := 787) hx hb dL_law_39 (by decide) (by decide) rfl (by decide) ?_
        exact law_16 C0 hd (i := nI i0) hIV hSt hl (by omega) (by omega) next
      by_cases j17 : j = 17
      · subst j17
        refine lv_tableIn (tgt := 830) hx hb dL_law_39 (by decide) (by decide) rfl (by decide) ?_
        exact law_17 (l := l) (s := s.setDrawn d) (C0 d) hst (i := nI i0) hIV hSt hl at1 at2 at3 (by omega) (by omega) (fun n ti g v_ss v_ds v_oma v_obr v_obj v_obo v_obm v_plo v_pch v_pbe v_pbl v_dnu v_dde v_dbo v_dln v_dld v_tba v_tal v_tro v_tsc v_tcl v_rma ov w_mow w_mta w_mba w_mib w_mdi w_mab w_mbe w_mpl w_mbs w_mro w_mlo w_mth H locs ls q1 q2 q3 => next d hd n ti g v_ss v_ds v_oma v_obr v_obj v_obo v_obm v_plo v_pch v_pbe v_pbl v_dnu v_dde v_dbo v_dln v_dld v_tba v_tal v_tro v_tsc v_tcl v_rma ov w_mow w_mta w_mba w_mib w_mdi w_mab w_mbe w_mpl w_mbs w_mro w_mlo w_mth H locs ls q1 q2 q3)
      by_cases j18 : j = 18
      · subst j18
        refine lv_tableIn (tgt := 898) hx hb dL_law_39 (by decide) (by decide) rfl (by decide) ?_
        exact law_18 (l := l) (s := s.setDrawn d) (C0 d) hst (i := nI i0) hIV hSt hl at1 at2 at3 (by omega) (by omega) (fun n ti g v_ss v_ds v_oma v_obr v_obj v_obo v_obm v_plo v_pch v_pbe v_pbl v_dnu v_dde v_dbo v_dln v_dld v_tba v_tal v_tro v_tsc v_tcl v_rma ov w_mow w_mta w_mba w_mib w_mdi w_mab w_mbe w_mpl w_mbs w_mro w_mlo w_mth H locs ls q1 q2 q3 => next d hd n ti g v_ss v_ds v_oma v_obr v_obj v_obo v_obm v_plo v_pch v_pbe v_pbl v_dnu v_dde v_dbo v_dln v_dld v_tba v_tal v_tro v_tsc v_tcl v_rma ov w_mow w_mta w_mba w_mib w_mdi w_mab w_mbe w_mpl w_mbs w_mro w_mlo w_mth H locs ls q1 q2 q3)
      by_cases j19 : j = 19
      · subst j19
        refine lv_tableIn (tgt := 954) hx hb dL_law_39 (by decide) (by decide) rfl (by decide) ?_
        exact law_19 (l := l) (s := s.setDrawn d) (C0 d) hst (i := nI i0) hIV hSt hl at1 at2 at3 (by omega) (by omega) (fun n ti g v_ss v_ds v_oma v_obr v_obj v_obo v_obm v_plo v_pch v_pbe v_pbl v_dnu v_dde v_dbo v_dln v_dld v_tba v_tal v_tro v_tsc v_tcl v_rma ov w_mow w_mta w_mba w_mib w_mdi w_mab w_mbe w_mpl w_mbs w_mro w_mlo w_mth H locs ls q1 q2 q3 => next d hd n ti g v_ss v_ds v_oma v_obr v_obj v_obo v_obm v_plo v_pch v_pbe v_pbl v_dnu v_dde v_dbo v_dln v_dld v_tba v_tal v_tro v_tsc v_tcl v_rma ov w_mow w_mta w_mba w_mib w_mdi w_mab w_mbe w_mpl w_mbs w_mro w_mlo w_mth H locs ls q1 q2 q3)
      by_cases j20 : j = 20
      · subst j20
        refine lv_tableIn (tgt := 1010) hx hb dL_law_39 (by decide) (by decide) rfl (by decide) ?_
        exact law_20 (l := l) (s := s.setDrawn d) (C0 d) hst (i := nI i0) hIV hSt hl at1 at2 at3 (by omega) (by omega) (fun n ti g v_ss v_ds v_oma v_obr v_obj v_obo v_obm v_plo v_pch v_pbe v_pbl v_dnu v_dde v_dbo v_dln v_dld v_tba v_tal v_tro v_tsc v_tcl v_rma ov w_mow w_mta w_mba w_mib w_mdi w_mab w_mbe w_mpl w_mbs w_mro w_mlo w_mth H locs ls q1 q2 q3 => next d hd n ti g v_ss v_ds v_oma v_obr v_obj v_obo v_obm v_plo v_pch v_pbe v_pbl v_dnu v_dde v_dbo v_dln v_dld v_tba v_tal v_tro v_tsc v_tcl v_rma ov w_mow w_mta w_mba w_mib w_mdi w_mab w_mbe w_mpl w_mbs w_mro w_mlo w_mth H locs ls q1 q2 q3)
      by_cases j21 : j = 21
      · subst j21
        refine lv_tableIn (tgt := 1023) hx hb dL_law_39 (by decide) (by decide) rfl (by decide) ?_
        exact law_21 (l := l) (s := s.setDrawn d) (C0 d) hst (i := nI i0) hIV hSt hl at1 at2 at3 (by omega) (by omega) (fun n ti g v_ss v_ds v_oma v_obr v_obj v_obo v_obm v_plo v_pch v_pbe v_pbl v_dnu v_dde v_dbo v_dln v_dld v_tba v_tal v_tro v_tsc v_tcl v_rma ov w_mow w_mta w_mba w_mib w_mdi w_mab w_mbe w_mpl w_mbs w_mro w_mlo w_mth H locs ls q1 q2 q3 => next d hd n ti g v_ss v_ds v_oma v_obr v_obj v_obo v_obm v_plo v_pch v_pbe v_pbl v_dnu v_dde v_dbo v_dln v_dld v_tba v_tal v_tro v_tsc v_tcl v_rma ov w_mow w_mta w_mba w_mib w_mdi w_mab w_mbe w_mpl w_mbs w_mro w_mlo w_mth H locs ls q1 q2 q3)
      by_cases j22 : j = 22
      · subst j22
        refine lv_tableIn (tgt := 1036) hx hb dL_law_39 (by decide) (by decide) rfl (by decide) ?_
        exact law_22 (l := l) (s := s.setDrawn d) (C0 d) hst (i := nI i0) hIV hSt hl at1 at2 at3 (by omega) (by omega) (fun n ti g v_ss v_ds v_oma v_obr v_obj v_obo v_obm v_plo v_pch v_pbe v_pbl v_dnu v_dde v_dbo v_dln v_dld v_tba v_tal v_tro v_tsc v_tcl v_rma ov w_mow w_mta w_mba w_mib w_mdi w_mab w_mbe w_mpl w_mbs w_mro w_mlo w_mth H locs ls q1 q2 q3 => next d hd n ti g v_ss v_ds v_oma v_obr v_obj v_obo v_obm v_plo v_pch v_pbe v_pbl v_dnu v_dde v_dbo v_dln v_dld v_tba v_tal v_tro v_tsc v_tcl v_rma ov w_mow w_mta w_mba w_mib w_mdi w_mab w_mbe w_mpl w_mbs w_mro w_mlo w_mth H locs ls q1 q2 q3)
      refine lv_tableOut (tgt := 1049) hx hb dL_law_39 (Or.inr (by rw [nI_toInt (by omega)]; omega)) (by decide) ?_
      exact W.widen (show cells ≤ cells + 3 by omega) (show slots ≤ slots + 18 by omega) (next d hd n ti g v_ss v_ds v_oma v_obr v_obj v_obo v_obm v_plo v_pch v_pbe v_pbl v_dnu v_dde v_dbo v_dln v_dld v_tba v_tal v_tro v_tsc v_tcl v_rma ov w_mow w_mta w_mba w_mib w_mdi w_mab w_mbe w_mpl w_mbs w_mro w_mlo w_mth H locs ls hIV hSt hl)
end
