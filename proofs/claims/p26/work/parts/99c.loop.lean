/-! the law's loop -/
theorem c26_c : (600130 : Nat) = room_1.cells := rfl
section
variable {p : Program} {l : Launch} {e : Env} {s : State} {m : MethodId} {below : List Frame} {meth : Method} {c : Code} {dC : Nat → ClassId} {dI : Nat → Nat → Nat} {cy : Nat → ClassId} {b L : Nat} {xs : Nat → Int32} {ad : Nat → Nat} {Z : State → Prop}
/-- divides and plans, called one behind the other: both answer 1 -/
theorem law_both (C0 : ∀ d, cxM cL_law 12 (some .boolean) RL wsL_law p (s.setDrawn d) m #[Value.ref b] meth c dC dI cy (fun q : Nat => s.heap.size ≤ q)) {n : Nat} {ti : Nat → Int32} {g : Nat → Nat} {d0 : Drawn} (hd0 : s.drawn.sameBut d0 lw_cs) {H : Heap} {locs : List Loc} {ls : Array Slot} {cells slots pc1 pc3 : Nat} {off1 off2 : Int} (hc : cells ≤ 600000) (hs : slots ≤ 7300000)
    (hSt : stG dC dI cy ad (fun q : Nat => s.heap.size ≤ q) (s.setDrawn d0) n ti g H locs) (hl : lv_has ls 12 [(0, .ref b), (1, .ref (ad 0))])
    (h1 : decode cL_law pc1 = .ok (.aload_n 1, 1)) (h2 : decode cL_law (pc1 + 1) = .ok (.invokestatic 115, 3)) (h3 : decode cL_law (pc1 + 4) = .ok (.ifCond .eq off1, 3)) (tg1 : ((pc1 + 4 : Nat) : Int) + off1 = (pc3 : Int))
    (h4 : decode cL_law (pc1 + 7) = .ok (.aload_n 1, 1)) (h5 : decode cL_law (pc1 + 8) = .ok (.invokestatic 119, 3)) (h6 : decode cL_law (pc1 + 11) = .ok (.ifCond .eq off2, 3)) (tg2 : ((pc1 + 11 : Nat) : Int) + off2 = (pc3 : Int))
    (kk : ∀ (d : Drawn), s.drawn.sameBut d lw_cs → ∀ (H : Heap) (locs : List Loc), stG dC dI cy ad (fun q : Nat => s.heap.size ≤ q) (s.setDrawn d) n ti g H locs → W p l e room_1 (s.setDrawn d) m #[Value.ref b] below meth c H locs cells slots Z (F0 m (pc1 + 14) ls [])) :
    W p l e room_1 (s.setDrawn d0) m #[Value.ref b] below meth c H locs cells slots Z (F0 m pc1 ls []) := by
  obtain ⟨hx, hb, hml, hr, hown, hts, hlocks, hK, hA, hN⟩ := C0 d0
  obtain ⟨w0, ⟨hP, hD, hS⟩, hW0⟩ := hSt
  refine lv_aload_n hx hb h1 rfl (lv_at hl 1 rfl) ?_
  have hFc := va_freeSame hD hS hA
  refine va_calli (va_runS (As := [.ref (ad 0)]) (rest := []) ⟨hx, hb, hml, hown, hts⟩ (q_L_divides l dC dI cy ad H.size w0 n ti g hW0) (cwS 1 hts gL_law_L_divides rfl rfl rfl (by decide +kernel) ⟨Nat.le_of_ble_eq_true rfl, Nat.le_of_ble_eq_true rfl⟩) ⟨cPre_blind, fun U hU hW => ⟨rfl, cPre_at hP hK hD hN hU hW⟩⟩ rfl rfl hl.1 rfl (lv_room (Nat.le_of_ble_eq_true rfl)) h2 ⟨(show cells + 0 ≤ 600130 by omega), (show slots + 0 ≤ 7301080 by omega)⟩) hS (fun q _ h => hFc q h) hFc (fun r u t H locs ht hvm hw hB hz1 hk1 hS => ?_)
  obtain ⟨er, hWu⟩ := hw
  subst er
  have hP := cPost_P ht hB
  have hD := cPost_D hFc hB
  refine lv_if_eq hx hb h3 tg1 (fun h => absurd h (by decide)) (fun _ => ?_)
  refine lv_aload_n hx hb h4 rfl (lv_at hl 1 rfl) ?_
  have hFc := va_freeSame hD hS hA
  refine va_calliD hd0 (va_runS_D (As := [.ref (ad 0)]) (rest := []) ⟨hx, hb, hml, hown, hts⟩ (q_L_plans l dC dI cy ad H.size u n ti g hWu) (cwS 1 hts gL_law_L_plans rfl rfl rfl (by decide +kernel) ⟨Nat.le_of_ble_eq_true rfl, Nat.le_of_ble_eq_true rfl⟩) ⟨cPre_blind, fun U hU hW => ⟨rfl, cPre_at hP hK hD hN hU hW⟩⟩ rfl rfl hl.1 rfl (lv_room (Nat.le_of_ble_eq_true rfl)) h5 ⟨(show cells + 0 + 0 ≤ 600130 by omega), (show slots + 0 + 0 ≤ 7301080 by omega)⟩) hS (fun q _ h => hFc q h) hFc (fun r2 u2 t2 H locs ht2 hvm2 hw2 hB2 hz2 hk2 hS d1 hd1 => ?_)
  obtain ⟨er2, hWu2⟩ := hw2
  subst er2
  refine lv_if_eq hx hb h6 tg2 (fun h => absurd h (by decide)) (fun _ => ?_)
  exact kk d1 hd1 H locs ⟨u2, ⟨cPost_P ht2 hB2, cPost_D hFc hB2, hS⟩, hWu2⟩
set_option maxHeartbeats 4000000 in
set_option maxRecDepth 100000 in
theorem law_loop (C0 : ∀ d, cxM cL_law 12 (some .boolean) RL wsL_law p (s.setDrawn d) m #[Value.ref b] meth c dC dI cy (fun q : Nat => s.heap.size ≤ q)) (hXw : ∀ d, xwC (s.setDrawn d)) (hXs : ∀ d, xsC (fun q : Nat => s.heap.size ≤ q) (s.setDrawn d) s.heap) (hst : l.stackTraces = false) (hX : va_X b L xs s s.heap) (hbl : b < s.heap.size) (hL : L ≤ 260) (hr9 : meth.sig.returnType = ret) (hlk : meth.locks = false) :
    ∀ (f i : Nat) (d : Drawn) (n : Nat) (ti : Nat → Int32) (g : Nat → Nat) (H : Heap) (locs : List Loc) (ls : Array Slot) (cells slots : Nat), i + f = 16 → cells ≤ 100 + 3 * i → slots ≤ 1000 + 18 * i → s.drawn.sameBut d lw_cs → stG dC dI cy ad (fun q : Nat => s.heap.size ≤ q) (s.setDrawn d) n ti g H locs → lv_has ls 12 [(0, .ref b), (1, .ref (ad 0)), (2, .int (1 : Int32)), (3, .int (nI i))] →
      W p l e room_1 (s.setDrawn d) m #[Value.ref b] below meth c H locs cells slots (lw_Z below #[Value.ref b] s) (F0 m 30 ls []) := by
  intro f
  induction f with
  | zero =>
    intro i d n ti g H locs ls cells slots h1 h2 h3 hd hSt hl
    obtain ⟨hx, hb, hml, hr, hown, hts, hlocks, hK, hA, hN⟩ := C0 d
    obtain ⟨w0, ⟨hP, hD, hS⟩, hW0⟩ := hSt
    have ei : i = 16 := by omega
    refine lv_iload_n hx hb dL_law_30 rfl (lv_at hl 3 rfl) ?_
    refine lv_bipush (v := 16) hx hb dL_law_31 (by decide) ?_
    refine lv_icmp_ge (tgt := 596) hx hb dL_law_33 (by decide) (fun _ => ?_) (fun h => absurd (by rw [ei]; decide) h)
    refine va_forget (fun q hq => hS.2.2 q hq) ?_
    refine lv_iload_n hx hb dL_law_596 rfl (lv_at hl 2 rfl) ?_
    exact W.widen (show cells ≤ 600130 by omega) (show slots ≤ 7301080 by omega) (lw_ret hd hx hb hr9 hlk dL_law_597)
  | succ f ih =>
    intro i d n ti g H locs ls cells slots h1 h2 h3 hd hSt hl
    obtain ⟨hx, hb, hml, hr, hown, hts, hlocks, hK, hA, hN⟩ := id (C0 d)
    obtain ⟨w0, ⟨hP, hD, hS⟩, hW0⟩ := hSt
    have hG := hW0.good
    have hi : i < 16 := by omega
    refine lv_iload_n hx hb dL_law_30 rfl (lv_at hl 3 rfl) ?_
    refine lv_bipush (v := 16) hx hb dL_law_31 (by decide) ?_
    refine lv_icmp_ge (tgt := 596) hx hb dL_law_33 (by decide) (fun h => ?_) (fun _ => ?_)
    · exact absurd ((nI_leI (a := 16) (b := i) (by omega) (by omega)).mp h) (by omega)
    refine lv_iload_n hx hb dL_law_36 rfl (lv_at hl 2 rfl) ?_
    refine lv_if_eq (tgt := 596) hx hb dL_law_37 (by decide) (fun h => absurd h (by decide)) (fun _ => ?_)
    refine lv_aload_n hx hb dL_law_40 rfl (lv_at hl 0 rfl) ?_
    refine lv_iload_n hx hb dL_law_41 rfl (lv_at hl 3 rfl) ?_
    have hbA : ¬ (fun q : Nat => s.heap.size ≤ q) b := Nat.not_le.mpr hbl
    have hsz : s.heap.size ≤ H.size := hS.1
    have hXH : va_X b L xs s H := hX.kept (hS.2.1 b hbl hbA)
    refine va_calli (va_runS (As := [.ref b, .int (nI i)]) (rest := []) ⟨hx, hb, hml, hown, hts⟩ (q_L_cell l b L xs i H.size hL hi) (cwS 2 hts gL_law_L_cell rfl rfl rfl (by decide +kernel) ⟨Nat.le_of_ble_eq_true rfl, Nat.le_of_ble_eq_true rfl⟩) ⟨fun a U g mk q => ⟨q.1, q.2.1, va_X.moved (u := U) (U := U.calling g mk a) (Vm.Alike.refl U.vm) q.2.2.1, q.2.2.2⟩, fun U hU hW => ⟨rfl, by rw [hU], va_X.moved (u := s) (U := U) hW.alike (by rw [hU]; exact hXH), Nat.lt_of_lt_of_le hbl hsz⟩⟩ rfl rfl hl.1 rfl (lv_room (Nat.le_of_ble_eq_true rfl)) dL_law_42 ⟨(show cells + 0 ≤ 600130 by omega), (show slots + 0 ≤ 7301080 by omega)⟩) hS (fun q hq h => absurd h (Nat.not_le.mpr hq)) (fun q h => Nat.le_trans hsz h) (fun r u t H1 locs ht hvm hw hB hz1 hk1 hS => ?_)
    obtain ⟨y, hy, er⟩ := hw
    subst er
    have hP1 : va_P (dC, dI) vwCl w0 H1 := hP.kept (fun k q hq => hk1 q.1 ((hP k q hq).lt) (Nat.not_le.mpr ((hP k q hq).lt)))
    have hSt : stG dC dI cy ad (fun q : Nat => s.heap.size ≤ q) (s.setDrawn d) n ti g H1 locs := ⟨w0, ⟨hP1, hD, hS⟩, hW0⟩
    refine k_L_law_45 (N := 600000) (Q := fun _ _ _ _ => False) (K566 := fun x2 x3 _ _ _ => x2 = 1 ∧ x3 = nI i) (s := s.setDrawn d) (b := b) (cq := cells) (sq := slots) (C0 d) (hXw d) (hXs d) hst (by omega) (by omega) (nI i) (nI y) n ti g H1 locs ls (body_spec (by omega) hG hy (fun _ _ _ => ⟨rfl, rfl⟩)) hSt (lv_sub hl [0, 1, 3] rfl) (fun r n ti g H locs ls pc _ _ _ hq => False.elim hq) (fun x2 x3 n ti g H locs ls hk hSt hl => ?_)
    obtain ⟨e2, e3⟩ := hk
    subst e2 e3
    refine lv_iload_n hx hb dL_law_566 rfl (lv_at hl 2 rfl) ?_
    refine lv_if_eq (tgt := 588) hx hb dL_law_567 (by decide) (fun h => absurd h (by decide)) (fun _ => ?_)
    refine law_both (pc1 := 570) (pc3 := 588) C0 hd (by omega) (by omega) hSt (lv_sub hl [0, 1] rfl) dL_law_570 dL_law_571 dL_law_574 (by decide) dL_law_577 dL_law_578 dL_law_581 (by decide) (fun d1 hd1 H locs hSt => ?_)
    obtain ⟨hx, hb, hml, hr, hown, hts, hlocks, hK, hA, hN⟩ := id (C0 d1)
    refine lv_iconst (v := 1) hx hb dL_law_584 (by decide) ?_
    refine lv_goto (tgt := 589) hx hb dL_law_585 (by decide) ?_
    refine lv_istore_n (lv' := [(2, .int (1 : Int32)), (0, .ref b), (1, .ref (ad 0)), (3, .int (nI i))]) hx hb dL_law_589 rfl hl (by decide) rfl (fun ls hl => ?_)
    obtain ⟨x9, e9⟩ : ∃ y : Int32, y = nI i + (1 : Int32) := ⟨_, rfl⟩
    refine lv_iinc (v := x9) (lv' := [(3, .int x9), (2, .int (1 : Int32)), (0, .ref b), (1, .ref (ad 0))]) hx hb dL_law_590 hl (k := 3) rfl (by rw [e9]; rfl) (by decide) rfl (fun ls hl => ?_)
    refine lv_goto (tgt := 30) hx hb dL_law_593 (by decide) ?_
    rw [nI_1] at e9
    subst e9
    exact ih (i + 1) d1 n ti g H locs ls (cells + 3) (slots + 18) (by omega) (by omega) (by omega) hd1 hSt (lv_sub hl [2, 3, 1, 0] rfl)
set_option maxHeartbeats 4000000 in
set_option maxRecDepth 100000 in
theorem law_from8 (C0 : ∀ d, cxM cL_law 12 (some .boolean) RL wsL_law p (s.setDrawn d) m #[Value.ref b] meth c dC dI cy (fun q : Nat => s.heap.size ≤ q)) (hXw : ∀ d, xwC (s.setDrawn d)) (hXs : ∀ d, xsC (fun q : Nat => s.heap.size ≤ q) (s.setDrawn d) s.heap) (hst : l.stackTraces = false) (hX : va_X b L xs s s.heap) (hbl : b < s.heap.size) (hL : L ≤ 260) (hr9 : meth.sig.returnType = ret) (hlk : meth.locks = false)
    (d : Drawn) {n : Nat} {ti : Nat → Int32} {g : Nat → Nat} (H : Heap) (locs : List Loc) (ls : Array Slot) (cells slots : Nat) (h2 : cells ≤ 100) (h3 : slots ≤ 1000) (hd : s.drawn.sameBut d lw_cs) (hSt : stG dC dI cy ad (fun q : Nat => s.heap.size ≤ q) (s.setDrawn d) n ti g H locs) (hl : lv_has ls 12 [(0, .ref b), (1, .ref (ad 0))]) :
    W p l e room_1 (s.setDrawn d) m #[Value.ref b] below meth c H locs cells slots (lw_Z below #[Value.ref b] s) (F0 m 8 ls []) := by
  refine law_both (pc1 := 8) (pc3 := 26) C0 hd (by omega) (by omega) hSt hl dL_law_8 dL_law_9 dL_law_12 (by decide) dL_law_15 dL_law_16 dL_law_19 (by decide) (fun d1 hd1 H locs hSt => ?_)
  obtain ⟨hx, hb, hml, hr, hown, hts, hlocks, hK, hA, hN⟩ := id (C0 d1)
  refine lv_iconst (v := 1) hx hb dL_law_22 (by decide) ?_
  refine lv_goto (tgt := 27) hx hb dL_law_23 (by decide) ?_
  refine lv_istore_n (lv' := [(2, .int (1 : Int32)), (0, .ref b), (1, .ref (ad 0))]) hx hb dL_law_27 rfl hl (by decide) rfl (fun ls hl => ?_)
  refine lv_iconst (v := 0) hx hb dL_law_28 (by decide) ?_
  refine lv_istore_n (lv' := [(3, .int (0 : Int32)), (2, .int (1 : Int32)), (0, .ref b), (1, .ref (ad 0))]) hx hb dL_law_29 rfl hl (by decide) rfl (fun ls hl => ?_)
  exact law_loop C0 hXw hXs hst hX hbl hL hr9 hlk 16 0 d1 n ti g H locs ls cells slots (by omega) (by omega) (by omega) hd1 hSt (by rw [nI_0]; exact lv_sub hl [2, 3, 1, 0] rfl)
end
