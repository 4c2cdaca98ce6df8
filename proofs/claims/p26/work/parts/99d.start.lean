set_option maxRecDepth 100000 in
set_option maxHeartbeats 4000000 in
theorem whole_start {p : Program} {e : Env} {s : State} {m : MethodId} {below : List Frame} {meth : Method} {c : Code} (l : Launch) (hflags : l.flags = flags0) {b L : Nat} {xs : Nat → Int32} (hL : L ≤ 260) (C0 : lw_At p s m meth c b L xs) : W p l e room_1 s m #[Value.ref b] below meth c s.heap [] 0 0 (lw_Z below #[Value.ref b] s) (entryFrame m ([Value.ref b] : List Value).toArray 12) := by
  obtain ⟨hx, hb, hr, hml, hown, hts0, hX, hbl, hlocks, hgv⟩ := id C0
  have hst : l.stackTraces = false := by
    unfold Launch.stackTraces
    rw [hflags]
    decide +kernel
  have hts : ∀ w ∈ wsL_law, w.before #[Value.ref b] s = true := fun w h => hts0 w (wsL_law_in w h)
  have tb : ∀ w, w ∈ tables_1 → w.before #[Value.ref b] s = true := fun w h => hts0 w (List.mem_append_right _ h)
  have hA : ∀ q : Nat, s.heap.size ≤ q → (fun q : Nat => s.heap.size ≤ q) q := fun _ h => h
  have hbA : ¬ (fun q : Nat => s.heap.size ≤ q) b := Nat.not_le.mpr hbl
  have hN := nw_start tb
  have hXw := xw_start tb hgv
  have hXs := xs_start tb hgv
  obtain ⟨c0, i0, hKn0⟩ := u_known (C := RX0) (T := TX0) (N := 6) (n := 6) hts in_law_X0 (tb (.instantiable RX0 6) (List.mem_of_getElem? (i := 89) (by decide +kernel)))
  obtain ⟨c1, i1, hKn1⟩ := u_known (C := RX1) (T := TX1) (N := 2) (n := 2) hts in_law_X1 (tb (.instantiable RX1 2) (List.mem_of_getElem? (i := 24) (by decide +kernel)))
  obtain ⟨c2, i2, hKn2⟩ := u_known (C := RX2) (T := TX2) (N := 5) (n := 5) hts in_law_X2 (tb (.instantiable RX2 5) (List.mem_of_getElem? (i := 45) (by decide +kernel)))
  obtain ⟨c3, i3, hKn3⟩ := u_known (C := RX3) (T := TX3) (N := 4) (n := 4) hts in_law_X3 (tb (.instantiable RX3 4) (List.mem_of_getElem? (i := 68) (by decide +kernel)))
  obtain ⟨c4, i4, hKn4⟩ := u_known (C := RX4) (T := TX4) (N := 1) (n := 1) hts in_law_X4 (tb (.instantiable RX4 1) (List.mem_of_getElem? (i := 146) (by decide +kernel)))
  obtain ⟨c5, i5, hKn5⟩ := u_known (C := RX5) (T := TX5) (N := 5) (n := 5) hts in_law_X5 (tb (.instantiable RX5 5) (List.mem_of_getElem? (i := 95) (by decide +kernel)))
  obtain ⟨c6, i6, hKn6⟩ := u_known (C := RX6) (T := TX6) (N := 7) (n := 7) hts in_law_X6 (tb (.instantiable RX6 7) (List.mem_of_getElem? (i := 16) (by decide +kernel)))
  obtain ⟨dC, dI, hKc⟩ : ∃ (dC : Nat → ClassId) (dI : Nat → Nat → Nat), ∀ (k : Nat) (q : vw_C), vwCl[k]? = some q → u_Kn s q.1 q.2.1 q.2.2 (dC k) (dI k) := by
    refine ⟨fun k => if k = 0 then c0 else if k = 1 then c1 else if k = 2 then c2 else if k = 3 then c3 else if k = 4 then c4 else if k = 5 then c5 else c6, fun k => if k = 0 then i0 else if k = 1 then i1 else if k = 2 then i2 else if k = 3 then i3 else if k = 4 then i4 else if k = 5 then i5 else i6, ?_⟩
    intro k q hq
    match k, hq with
    | 0, hq => cases hq; exact hKn0
    | 1, hq => cases hq; exact hKn1
    | 2, hq => cases hq; exact hKn2
    | 3, hq => cases hq; exact hKn3
    | 4, hq => cases hq; exact hKn4
    | 5, hq => cases hq; exact hKn5
    | 6, hq => cases hq; exact hKn6
    | k + 7, hq => simp [vwCl] at hq
  obtain ⟨y0, hy0⟩ := arr_in (tb (.arrayClass .int) (List.mem_of_getElem? (i := 43) (by decide +kernel))) (fun _ h => by cases h)
  obtain ⟨y1, hy1⟩ := arr_in (tb (.arrayClass .long) (List.mem_of_getElem? (i := 119) (by decide +kernel))) (fun _ h => by cases h)
  obtain ⟨y2, hy2⟩ := arr_in (tb (.arrayClass .boolean) (List.mem_of_getElem? (i := 120) (by decide +kernel))) (fun _ h => by cases h)
  obtain ⟨y3, hy3⟩ := arr_over (tb (.arrayOver (.array .long)) (List.mem_of_getElem? (i := 101) (by decide +kernel)))
  obtain ⟨cy, e0, e1, e2, e3⟩ : ∃ cy : Nat → ClassId, cy 0 = y0 ∧ cy 1 = y1 ∧ cy 2 = y2 ∧ cy 3 = y3 := ⟨fun k => if k = 0 then y0 else if k = 1 then y1 else if k = 2 then y2 else y3, rfl, rfl, rfl, rfl⟩
  have hK : va_K (dC, dI) vwCl (tysC cy) s := by
    refine ⟨hKc, fun k q h => ?_⟩
    match k, h with
    | 0, h => cases h; rw [e0]; exact hy0
    | 1, h => cases h; rw [e1]; exact hy1
    | 2, h => cases h; rw [e2]; exact hy2
    | 3, h => cases h; rw [e3]; exact hy3
    | k + 4, h => simp [tysC] at h
  have hS : va_S (fun q : Nat => s.heap.size ≤ q) s.heap s.heap [] := va_S.rf
  have hP : va_P (dC, dI) vwCl [] s.heap := fun k q h => by simp at h
  have hD : va_D (fun q : Nat => s.heap.size ≤ q) [] := ⟨fun i j p q h => by simp at h, fun k q h => by simp at h⟩
  have hl := lv_entry ([.ref b]) (n := 12) (Nat.le_of_ble_eq_true rfl)
  rw [lg_entry_eq]
  generalize (lg_sl ([.ref b]) ++ List.replicate (12 - (lg_sl ([.ref b])).length) Slot.unset).toArray = ls at hl ⊢
  have hl : lv_has ls 12 [(0, .ref b)] := hl
  refine va_new (ci := 6) (fs := [.null, .null, .null, .null, .null, .int 0, .int 0]) (C := RX6) (T := TX6) (N := 7) hx hb hts in_law_X6 tyX6 tyX6_ok hown (hts (.classLink RL 10 RX6) (by decide +kernel)) (hts (.instantiable RX6 7) (by decide +kernel)) (hts (.initialized RX6) (by decide +kernel)) hK hP hD hS hA rfl (fun j hj => by rcases (show j = 0 ∨ j = 1 ∨ j = 2 ∨ j = 3 ∨ j = 4 ∨ j = 5 ∨ j = 6 by omega) with rfl | rfl | rfl | rfl | rfl | rfl | rfl <;> rfl) (Nat.le_of_ble_eq_true rfl) (Nat.le_of_ble_eq_true rfl) dL_law_0 (fun q1 H hP hD hS => ?_)
  refine lv_dup hx hb dL_law_3 rfl ?_
  have hFc := va_freeSame hD hS hA
  refine va_callv (va_runI (As := []) (rest := [.ref q1]) ⟨hx, hb, hml, hown, hts⟩ (c_X6_init l dC dI cy q1 H.size) (cwI 0 hts gL_law_X6_init rfl rfl rfl (hts (.initialized RX6) (by decide +kernel)) (hts (.methodLink RL 114 yX6_init) (by decide +kernel)) (hts (.instanceMethod yX6_init) (by decide +kernel)) rfl (by decide +kernel) ⟨Nat.le_of_ble_eq_true rfl, Nat.le_of_ble_eq_true rfl⟩) ⟨cPre_blind, fun U hU hW => ⟨rfl, cPre_at hP hK hD hN hU hW⟩⟩ rfl rfl hl.1 rfl (lv_room (Nat.le_of_ble_eq_true rfl)) dL_law_4 ⟨Nat.le_of_ble_eq_true rfl, Nat.le_of_ble_eq_true rfl⟩) hS (fun q _ h => hFc q h) hFc (fun u t H locs ht hvm hw hB hz1 hk1 hS => ?_)
  have hP := cPost_P ht hB
  have hD := cPost_D hFc hB
  obtain ⟨a1, a2, a3, a4, a5, a6, a7, a8, a9, a10, a11, rr, a12, a13, a14, a15, a16, a17⟩ := u
  dsimp only at hP hD
  obtain ⟨ad, d0, d1, d2, d3, d4, d5, d6, d7, d8, d9, d10, d11, d12, d13, d14, d15, d16, d17, dr⟩ : ∃ ad : Nat → Nat, ad 0 = q1 ∧ ad 1 = a1 ∧ ad 2 = a2 ∧ ad 3 = a3 ∧ ad 4 = a4 ∧ ad 5 = a5 ∧ ad 6 = a6 ∧ ad 7 = a7 ∧ ad 8 = a8 ∧ ad 9 = a9 ∧ ad 10 = a14 ∧ ad 11 = a15 ∧ ad 12 = a10 ∧ ad 13 = a11 ∧ ad 14 = a12 ∧ ad 15 = a13 ∧ ad 16 = a16 ∧ ad 17 = a17 ∧ ∀ i, ad (18 + i) = rr i := ⟨fun k => if k = 0 then q1 else if k = 1 then a1 else if k = 2 then a2 else if k = 3 then a3 else if k = 4 then a4 else if k = 5 then a5 else if k = 6 then a6 else if k = 7 then a7 else if k = 8 then a8 else if k = 9 then a9 else if k = 10 then a14 else if k = 11 then a15 else if k = 12 then a10 else if k = 13 then a11 else if k = 14 then a12 else if k = 15 then a13 else if k = 16 then a16 else if k = 17 then a17 else rr (k - 18), rfl, rfl, rfl, rfl, rfl, rfl, rfl, rfl, rfl, rfl, rfl, rfl, rfl, rfl, rfl, rfl, rfl, rfl, fun i => by simp only [show ¬ 18 + i = 0 by omega, show ¬ 18 + i = 1 by omega, show ¬ 18 + i = 2 by omega, show ¬ 18 + i = 3 by omega, show ¬ 18 + i = 4 by omega, show ¬ 18 + i = 5 by omega, show ¬ 18 + i = 6 by omega, show ¬ 18 + i = 7 by omega, show ¬ 18 + i = 8 by omega, show ¬ 18 + i = 9 by omega, show ¬ 18 + i = 10 by omega, show ¬ 18 + i = 11 by omega, show ¬ 18 + i = 12 by omega, show ¬ 18 + i = 13 by omega, show ¬ 18 + i = 14 by omega, show ¬ 18 + i = 15 by omega, show ¬ 18 + i = 16 by omega, show ¬ 18 + i = 17 by omega, if_false]; congr 1; omega⟩
  have hP : va_P (dC, dI) vwCl (wC ad cy 0 0 (fun _ => 0) 0 (fun _ => 0) 0 0 0 0 (fun _ => 0) (fun _ => 0) (fun _ => 0) 0 (fun _ => 0) (fun _ => 0) 0 0 0 (fun _ => 0) (fun _ => 0) 0 0 (fun _ _ => 0) (fun _ => 0)) H := hP.sub [0, 1, 2, 3, 4, 5, 6, 7, 8, 9, 24, 25, 10, 11, 22, 23, 26, 27, 12, 13, 14, 15, 16, 17, 18, 19, 20, 21] (by unfold wC; simp only [d0, d1, d2, d3, d4, d5, d6, d7, d8, d9, d10, d11, d12, d13, d14, d15, d16, d17, dr]; rfl)
  have hD : va_D (fun q : Nat => s.heap.size ≤ q) (wC ad cy 0 0 (fun _ => 0) 0 (fun _ => 0) 0 0 0 0 (fun _ => 0) (fun _ => 0) (fun _ => 0) 0 (fun _ => 0) (fun _ => 0) 0 0 0 (fun _ => 0) (fun _ => 0) 0 0 (fun _ _ => 0) (fun _ => 0)) := hD.sub [0, 1, 2, 3, 4, 5, 6, 7, 8, 9, 24, 25, 10, 11, 22, 23, 26, 27, 12, 13, 14, 15, 16, 17, 18, 19, 20, 21] rfl (by unfold wC; simp only [d0, d1, d2, d3, d4, d5, d6, d7, d8, d9, d10, d11, d12, d13, d14, d15, d16, d17, dr]; rfl)
  refine lv_astore_n (lv' := [(1, .ref q1), (0, .ref b)]) hx hb dL_law_7 rfl hl (by decide) rfl (fun ls hl => ?_)
  have C1 : ∀ d, cxM cL_law 12 (some .boolean) RL wsL_law p (s.setDrawn d) m #[Value.ref b] meth c dC dI cy (fun q : Nat => s.heap.size ≤ q) := fun d => ⟨hx, hb, hml, hr, hown, dr_words hts d, hlocks, va_K.moved (u := s) (U := s.setDrawn d) (Vm.Alike.refl s.vm) hK, hA, nwC.same (s := s) (U := s.setDrawn d) rfl hN⟩
  have hXw1 : ∀ d, xwC (s.setDrawn d) := fun d => xwC.same (s := s) (U := s.setDrawn d) rfl hXw
  have hXs1 : ∀ d, xsC (fun q : Nat => s.heap.size ≤ q) (s.setDrawn d) s.heap := fun d => ⟨hXs.1.moved (U := s.setDrawn d) (Vm.Alike.refl s.vm), hXs.2.moved (U := s.setDrawn d) (Vm.Alike.refl s.vm)⟩
  have hl : lv_has ls 12 [(0, .ref b), (1, .ref (ad 0))] := by
    rw [d0]
    exact lv_sub hl [1, 0] rfl
  have hG0 : Good 0 (fun _ => 0) (fun _ => 0) := ⟨⟨by omega, fun c hc => absurd hc (by omega)⟩, fun j hj => absurd hj (by omega)⟩
  have hSt : ∀ d, stG dC dI cy ad (fun q : Nat => s.heap.size ≤ q) (s.setDrawn d) 0 (fun _ => 0) (fun _ => 0) H locs := fun d => ⟨_, ⟨hP, hD, hS⟩, ⟨0, 0, (fun _ => 0), 0, 0, 0, 0, (fun _ => 0), (fun _ => 0), (fun _ => 0), 0, (fun _ => 0), (fun _ => 0), 0, 0, 0, (fun _ => 0), (fun _ => 0), 0, 0, (fun _ _ => 0), (fun _ => 0), by rw [nI_0], hG0, (fun j hj => absurd hj (by omega)), (fun h => absurd rfl h), (fun h => absurd rfl h)⟩⟩
  exact W.base (law_from8 C1 hXw1 hXs1 hst hX hbl hL hr hlocks s.drawn H _ ls _ _ (Nat.le_of_ble_eq_true rfl) (Nat.le_of_ble_eq_true rfl) (Drawn.sameBut.refl s.drawn lw_cs) (hSt s.drawn) hl)
