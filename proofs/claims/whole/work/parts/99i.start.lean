/-! the law from its entry -/
theorem wd_perm {A : Nat → Prop} {a b c : va_W} (h : va_D A ((a ++ b) ++ c)) : va_D A ((a ++ c) ++ b) := by
  obtain ⟨h1, h2, h3⟩ := wd_app.mp h
  obtain ⟨h4, h5, h6⟩ := wd_app.mp h1
  have la : ∀ {i : Nat} {p : Nat × va_E}, a[i]? = some p → (a ++ b)[i]? = some p := fun {i p} hi => by
    rw [List.getElem?_append_left (List.getElem?_eq_some_iff.mp hi).1]; exact hi
  have lb : ∀ {i : Nat} {p : Nat × va_E}, b[i]? = some p → (a ++ b)[a.length + i]? = some p := fun {i p} hi => by
    rw [List.getElem?_append_right (Nat.le_add_right _ _), Nat.add_sub_cancel_left]; exact hi
  refine wd_app.mpr ⟨wd_app.mpr ⟨h4, h2, fun i j p q hi hj => h3 i j p q (la hi) hj⟩, h5, fun i j p q hi hj e => ?_⟩
  rcases Nat.lt_or_ge i a.length with r | r
  · rw [List.getElem?_append_left r] at hi
    exact h6 i j p q hi hj e
  · rw [List.getElem?_append_right r] at hi
    exact h3 _ _ q p (lb hj) hi e.symm
theorem wp_perm {D : va_G} {cl : List vw_C} {a b c : va_W} {H : Heap} (h : va_P D cl ((a ++ b) ++ c) H) : va_P D cl ((a ++ c) ++ b) H := by
  obtain ⟨h1, h2⟩ := wp_app.mp h
  obtain ⟨h3, h4⟩ := wp_app.mp h1
  exact wp_app.mpr ⟨wp_app.mpr ⟨h3, h2⟩, h4⟩
theorem arr_in {s : State} {args : Array Value} {ty : FieldType} (h : (Cond.arrayClass ty).before args s = true) (hn : ∀ k, ty ≠ .object k) : ∃ cA, ArrOfT s cA ty ∧ va_RA s cA ty := by
  obtain ⟨cA, kA, comp, h1, h2, h3⟩ := Cond.arrayClass_spec h
  refine ⟨cA, fun n z => ⟨fun k h => (by cases h), kA, h2, comp, h3⟩, ?_⟩
  cases ty with
  | object k => exact absurd rfl (hn k)
  | _ => exact h1
theorem arr_over {s : State} {args : Array Value} {ty : FieldType} (h : (Cond.arrayOver (.array ty)).before args s = true) : ∃ cA, ArrOfT s cA (.array ty) ∧ va_RA s cA (.array ty) := by
  obtain ⟨comp, cA, kA, -, h2, h3, h4⟩ := Cond.arrayOver_specA h
  exact ⟨cA, fun n z => ⟨fun k h => (by cases h), kA, h2, comp, h3⟩, h4⟩
theorem in_law_X0 : ∀ w ∈ u_ws RX0 TX0 6, w ∈ wsL_law := fun w h => (ggL_law_X6_init w ((by decide +kernel : ∀ w ∈ u_ws RX0 TX0 6, w ∈ wsX6_init) w h)).1
theorem in_law_X1 : ∀ w ∈ u_ws RX1 TX1 2, w ∈ wsL_law := fun w h => (ggL_law_X6_init w ((by decide +kernel : ∀ w ∈ u_ws RX1 TX1 2, w ∈ wsX6_init) w h)).1
theorem in_law_X2 : ∀ w ∈ u_ws RX2 TX2 5, w ∈ wsL_law := fun w h => (ggL_law_X6_init w ((by decide +kernel : ∀ w ∈ u_ws RX2 TX2 5, w ∈ wsX6_init) w h)).1
theorem in_law_X3 : ∀ w ∈ u_ws RX3 TX3 4, w ∈ wsL_law := fun w h => (ggL_law_X6_init w ((by decide +kernel : ∀ w ∈ u_ws RX3 TX3 4, w ∈ wsX6_init) w h)).1
theorem in_law_X4 : ∀ w ∈ u_ws RX4 TX4 1, w ∈ wsL_law := fun w h => (ggL_law_X6_init w ((by decide +kernel : ∀ w ∈ u_ws RX4 TX4 1, w ∈ wsX6_init) w h)).1
theorem in_law_X5 : ∀ w ∈ u_ws RX5 TX5 5, w ∈ wsL_law := fun w h => (ggL_law_X6_init w ((by decide +kernel : ∀ w ∈ u_ws RX5 TX5 5, w ∈ wsX6_init) w h)).1
theorem in_law_X6 : ∀ w ∈ u_ws RX6 TX6 7, w ∈ wsL_law := fun w h => (ggL_law_X6_init w ((by decide +kernel : ∀ w ∈ u_ws RX6 TX6 7, w ∈ wsX6_init) w h)).1
theorem in_law_X7 : ∀ w ∈ u_ws RX7 TX7 14, w ∈ wsL_law := fun w h => (ggL_law_X7_init w ((by decide +kernel : ∀ w ∈ u_ws RX7 TX7 14, w ∈ wsX7_init) w h)).1
def xsmL : List Cond := [419, 488, 516, 420, 421, 422, 423, 424, 425].filterMap (fun i => tables_1[i]?)
theorem xdc_sm : ∀ w ∈ xdcL, w ∈ xsmL := by decide +kernel
theorem xsm_tb : ∀ w ∈ xsmL, w ∈ tables_1 := fun w h => by
  obtain ⟨i, -, hi⟩ := List.mem_filterMap.mp h
  exact List.mem_of_getElem? hi
theorem str_at {s : State} {args : Array Value} {k : Nat} {tx : String} (h1 : (Cond.stringRef RX6 k tx).before args s = true) (h2 : (Cond.exactly (.string RX6 k) "java/lang/String").before args s = true) : ∃ a, vk_R RX6 k tx a s := by
  obtain ⟨a, -, -, -, h3, -⟩ := Cond.exactly_spec h2
  exact ⟨a, vk_R.of h1 h3⟩
theorem nw_start {s : State} {args : Array Value} (tb : ∀ w, w ∈ tables_1 → w.before args s = true) : nwC s := ⟨va_Nw.of rfl (tb _ (List.mem_of_getElem? (i := 31) (by decide +kernel))), va_Nw.of rfl (tb _ (List.mem_of_getElem? (i := 32) (by decide +kernel))), va_Nw.of rfl (tb _ (List.mem_of_getElem? (i := 34) (by decide +kernel))), va_Nw.of rfl (tb _ (List.mem_of_getElem? (i := 35) (by decide +kernel))), va_Nw.of rfl (tb _ (List.mem_of_getElem? (i := 36) (by decide +kernel))), va_Nw.of rfl (tb _ (List.mem_of_getElem? (i := 37) (by decide +kernel))), va_Nw.of rfl (tb _ (List.mem_of_getElem? (i := 38) (by decide +kernel))), va_Nw.of rfl (tb _ (List.mem_of_getElem? (i := 52) (by decide +kernel))), va_Nw.of rfl (tb _ (List.mem_of_getElem? (i := 77) (by decide +kernel))), va_Nw.of rfl (tb _ (List.mem_of_getElem? (i := 79) (by decide +kernel))), va_Nw.of rfl (tb _ (List.mem_of_getElem? (i := 108) (by decide +kernel))), va_Nw.of rfl (tb _ (List.mem_of_getElem? (i := 124) (by decide +kernel))), va_Nw.of rfl (tb _ (List.mem_of_getElem? (i := 126) (by decide +kernel))), va_Nw.of rfl (tb _ (List.mem_of_getElem? (i := 128) (by decide +kernel))), va_Nw.of rfl (tb _ (List.mem_of_getElem? (i := 130) (by decide +kernel))), va_Nw.of rfl (tb _ (List.mem_of_getElem? (i := 132) (by decide +kernel))), va_Nw.of rfl (tb _ (List.mem_of_getElem? (i := 153) (by decide +kernel))), va_Nw.of rfl (tb _ (List.mem_of_getElem? (i := 26) (by decide +kernel))), va_Nw.of rfl (tb _ (List.mem_of_getElem? (i := 47) (by decide +kernel))), va_Nw.of rfl (tb _ (List.mem_of_getElem? (i := 70) (by decide +kernel))), va_Nw.of rfl (tb _ (List.mem_of_getElem? (i := 91) (by decide +kernel))), va_Nw.of rfl (tb _ (List.mem_of_getElem? (i := 97) (by decide +kernel))), va_Nw.of rfl (tb _ (List.mem_of_getElem? (i := 148) (by decide +kernel))), fun _ => tb (Cond.arrayOver (.array .long)) (List.mem_of_getElem? (i := 102) (by decide +kernel))⟩
set_option maxRecDepth 100000 in
set_option maxHeartbeats 4000000 in
theorem xw_start {s : State} {args : Array Value} (tb : ∀ w, w ∈ tables_1 → w.before args s = true) (hgv : (Jvm.Cond.and given_1 narrow_1).before args s = true) : xwC s := by
  have fl := flat_of_before _ hgv
  exact ⟨fun w hw => dc_moved (xdcL_dc w hw) (Vm.Alike.refl s.vm) (tb w (xsm_tb w (xdc_sm w hw))), va_Nc.of (fl _ (by decide +kernel)), va_Nc.of (fl _ (by decide +kernel)), va_Nc.of (fl _ (by decide +kernel)), str_at (tb (Cond.stringRef RX6 50 "a time is not 0 to 50") (List.mem_of_getElem? (i := 458) (by decide +kernel))) (fl _ (by decide +kernel)), str_at (tb (Cond.stringRef RX6 55 "the job cannot be done on any machine") (List.mem_of_getElem? (i := 485) (by decide +kernel))) (fl _ (by decide +kernel)), str_at (tb (Cond.stringRef RX6 63 "there are 7 jobs") (List.mem_of_getElem? (i := 495) (by decide +kernel))) (fl _ (by decide +kernel)), str_at (tb (Cond.stringRef RX6 83 "the time is not 0 to 50") (List.mem_of_getElem? (i := 534) (by decide +kernel))) (fl _ (by decide +kernel)), str_at (tb (Cond.stringRef RX6 85 "the job has this machine in the own plan") (List.mem_of_getElem? (i := 535) (by decide +kernel))) (fl _ (by decide +kernel)), str_at (tb (Cond.stringRef RX6 131 "the job cannot be done there") (List.mem_of_getElem? (i := 587) (by decide +kernel))) (fl _ (by decide +kernel)), str_at (tb (Cond.stringRef RX6 143 "there is no such job") (List.mem_of_getElem? (i := 523) (by decide +kernel))) (fl _ (by decide +kernel)), str_at (tb (Cond.stringRef RX6 146 "there is no such machine") (List.mem_of_getElem? (i := 533) (by decide +kernel))) (fl _ (by decide +kernel))⟩
set_option maxRecDepth 100000 in
set_option maxHeartbeats 4000000 in
theorem xs_start {s : State} {args : Array Value} (tb : ∀ w, w ∈ tables_1 → w.before args s = true) (hgv : (Jvm.Cond.and given_1 narrow_1).before args s = true) : xsC (fun q : Nat => s.heap.size ≤ q) s s.heap := by
  have fl := flat_of_before _ hgv
  exact ⟨vx_Zqof (tb _ (List.mem_of_getElem? (i := 444) (by decide +kernel))) (tb _ (List.mem_of_getElem? (i := 9) (by decide +kernel))) (fl _ (by decide +kernel)) (fun a ha => Nat.not_le.mpr ha), vx_Zqof (tb _ (List.mem_of_getElem? (i := 446) (by decide +kernel))) (tb _ (List.mem_of_getElem? (i := 9) (by decide +kernel))) (fl _ (by decide +kernel)) (fun a ha => Nat.not_le.mpr ha)⟩
set_option maxRecDepth 100000 in
set_option maxHeartbeats 4000000 in
theorem whole_start {p : Program} {e : Env} {s : State} {m : MethodId} {below : List Frame} {meth : Method} {c : Code} (l : Launch) (hflags : l.flags = flags0) {b L : Nat} {xs : Nat → Int32} (hL : L ≤ 2048) (C0 : lw_At p s m meth c b L xs) : W p l e room_1 s m #[Value.ref b] below meth c s.heap [] 0 0 (lw_Z below #[Value.ref b] s) (entryFrame m ([Value.ref b] : List Value).toArray 9) := by
  obtain ⟨hx, hb, hr, hml, hown, hts0, hX, hbl, hlocks, hgv⟩ := id C0
  have hst : l.stackTraces = false := by
    unfold Launch.stackTraces
    rw [hflags]
    decide +kernel
  have hts : ∀ w ∈ wsL_law, w.before #[Value.ref b] s = true := fun w h => hts0 w (wsL_law_in w h)
  have tb : ∀ w, w ∈ tables_1 → w.before #[Value.ref b] s = true := fun w h => hts0 w (List.mem_append_right _ h)
  have hA : ∀ q : Nat, s.heap.size ≤ q → (fun q : Nat => s.heap.size ≤ q) q := fun _ h => h
  have hbA : ¬ (fun q : Nat => s.heap.size ≤ q) b := Nat.not_le.mpr hbl
  have hN := nw_start tb
  have hXw := xw_start tb hgv
  have hXs := xs_start tb hgv
  obtain ⟨c0, i0, hKn0⟩ := u_known (C := RX0) (T := TX0) (N := 6) (n := 6) hts in_law_X0 (tb (.instantiable RX0 6) (List.mem_of_getElem? (i := 90) (by decide +kernel)))
  obtain ⟨c1, i1, hKn1⟩ := u_known (C := RX1) (T := TX1) (N := 2) (n := 2) hts in_law_X1 (tb (.instantiable RX1 2) (List.mem_of_getElem? (i := 25) (by decide +kernel)))
  obtain ⟨c2, i2, hKn2⟩ := u_known (C := RX2) (T := TX2) (N := 5) (n := 5) hts in_law_X2 (tb (.instantiable RX2 5) (List.mem_of_getElem? (i := 46) (by decide +kernel)))
  obtain ⟨c3, i3, hKn3⟩ := u_known (C := RX3) (T := TX3) (N := 4) (n := 4) hts in_law_X3 (tb (.instantiable RX3 4) (List.mem_of_getElem? (i := 69) (by decide +kernel)))
  obtain ⟨c4, i4, hKn4⟩ := u_known (C := RX4) (T := TX4) (N := 1) (n := 1) hts in_law_X4 (tb (.instantiable RX4 1) (List.mem_of_getElem? (i := 147) (by decide +kernel)))
  obtain ⟨c5, i5, hKn5⟩ := u_known (C := RX5) (T := TX5) (N := 5) (n := 5) hts in_law_X5 (tb (.instantiable RX5 5) (List.mem_of_getElem? (i := 96) (by decide +kernel)))
  obtain ⟨c6, i6, hKn6⟩ := u_known (C := RX6) (T := TX6) (N := 7) (n := 7) hts in_law_X6 (tb (.instantiable RX6 7) (List.mem_of_getElem? (i := 17) (by decide +kernel)))
  obtain ⟨c7, i7, hKn7⟩ := u_known (C := RX7) (T := TX7) (N := 14) (n := 14) hts in_law_X7 (tb (.instantiable RX7 14) (List.mem_of_getElem? (i := 604) (by decide +kernel)))
  obtain ⟨dC, dI, hKc⟩ : ∃ (dC : Nat → ClassId) (dI : Nat → Nat → Nat), ∀ (k : Nat) (q : vw_C), vwCl[k]? = some q → u_Kn s q.1 q.2.1 q.2.2 (dC k) (dI k) := by
    refine ⟨fun k => if k = 0 then c0 else if k = 1 then c1 else if k = 2 then c2 else if k = 3 then c3 else if k = 4 then c4 else if k = 5 then c5 else if k = 6 then c6 else c7, fun k => if k = 0 then i0 else if k = 1 then i1 else if k = 2 then i2 else if k = 3 then i3 else if k = 4 then i4 else if k = 5 then i5 else if k = 6 then i6 else i7, ?_⟩
    intro k q hq
    match k, hq with
    | 0, hq => cases hq; exact hKn0
    | 1, hq => cases hq; exact hKn1
    | 2, hq => cases hq; exact hKn2
    | 3, hq => cases hq; exact hKn3
    | 4, hq => cases hq; exact hKn4
    | 5, hq => cases hq; exact hKn5
    | 6, hq => cases hq; exact hKn6
    | 7, hq => cases hq; exact hKn7
    | k + 8, hq => simp [vwCl] at hq
  obtain ⟨y0, hy0⟩ := arr_in (tb (.arrayClass .int) (List.mem_of_getElem? (i := 44) (by decide +kernel))) (fun _ h => by cases h)
  obtain ⟨y1, hy1⟩ := arr_in (tb (.arrayClass .long) (List.mem_of_getElem? (i := 120) (by decide +kernel))) (fun _ h => by cases h)
  obtain ⟨y2, hy2⟩ := arr_in (tb (.arrayClass .boolean) (List.mem_of_getElem? (i := 121) (by decide +kernel))) (fun _ h => by cases h)
  obtain ⟨y3, hy3⟩ := arr_over (tb (.arrayOver (.array .long)) (List.mem_of_getElem? (i := 102) (by decide +kernel)))
  obtain ⟨cy, e0, e1, e2, e3⟩ : ∃ cy : Nat → ClassId, cy 0 = y0 ∧ cy 1 = y1 ∧ cy 2 = y2 ∧ cy 3 = y3 := ⟨fun k => if k = 0 then y0 else if k = 1 then y1 else if k = 2 then y2 else y3, rfl, rfl, rfl, rfl⟩
  have hK : va_K (dC, dI) vwCl (tysC cy) s := by
    refine ⟨hKc, fun k q h => ?_⟩
    match k, h with
    | 0, h => cases h; rw [e0]; exact hy0
    | 1, h => cases h; rw [e1]; exact hy1
    | 2, h => cases h; rw [e2]; exact hy2
    | 3, h => cases h; rw [e3]; exact hy3
    | k + 4, h => simp [tysC] at h
  have hS : va_S (fun q : Nat => s.heap.size ≤ q) s.heap s.heap [] := va_S.rf
  have hP : va_P (dC, dI) vwCl [] s.heap := fun k q h => by simp at h
  have hD : va_D (fun q : Nat => s.heap.size ≤ q) [] := ⟨fun i j p q h => by simp at h, fun k q h => by simp at h⟩
  have hl := lv_entry ([.ref b]) (n := 9) (Nat.le_of_ble_eq_true rfl)
  rw [lg_entry_eq]
  generalize (lg_sl ([.ref b]) ++ List.replicate (9 - (lg_sl ([.ref b])).length) Slot.unset).toArray = ls at hl ⊢
  have hl : lv_has ls 9 [(0, .ref b)] := hl
  refine va_new (ci := 6) (fs := [.null, .null, .null, .null, .null, .int 0, .int 0]) (C := RX6) (T := TX6) (N := 7) hx hb hts in_law_X6 tyX6 tyX6_ok hown (hts (.classLink RL 8 RX6) (by decide +kernel)) (hts (.instantiable RX6 7) (by decide +kernel)) (hts (.initialized RX6) (by decide +kernel)) hK hP hD hS hA rfl (fun j hj => by rcases (show j = 0 ∨ j = 1 ∨ j = 2 ∨ j = 3 ∨ j = 4 ∨ j = 5 ∨ j = 6 by omega) with rfl | rfl | rfl | rfl | rfl | rfl | rfl <;> rfl) (Nat.le_of_ble_eq_true rfl) (Nat.le_of_ble_eq_true rfl) dL_law_0 (fun q1 H hP hD hS => ?_)
  refine lv_dup hx hb dL_law_3 rfl ?_
  have hFc := va_freeSame hD hS hA
  refine va_callv (va_runI (As := []) (rest := [.ref q1]) ⟨hx, hb, hml, hown, hts⟩ (c_X6_init l dC dI cy q1 H.size) (cwI 0 hts gL_law_X6_init rfl rfl rfl (hts (.initialized RX6) (by decide +kernel)) (hts (.methodLink RL 52 yX6_init) (by decide +kernel)) (hts (.instanceMethod yX6_init) (by decide +kernel)) rfl (by decide +kernel) ⟨Nat.le_of_ble_eq_true rfl, Nat.le_of_ble_eq_true rfl⟩) ⟨cPre_blind, fun U hU hW => ⟨rfl, cPre_at hP hK hD hN hU hW⟩⟩ rfl rfl hl.1 rfl (lv_room (Nat.le_of_ble_eq_true rfl)) dL_law_4 ⟨Nat.le_of_ble_eq_true rfl, Nat.le_of_ble_eq_true rfl⟩) hS (fun q _ h => hFc q h) hFc (fun u t H locs ht hvm hw hB hz1 hk1 hS => ?_)
  have hP := cPost_P ht hB
  have hD := cPost_D hFc hB
  obtain ⟨a1, a2, a3, a4, a5, a6, a7, a8, a9, a10, a11, rr, a12, a13, a14, a15, a16, a17⟩ := u
  dsimp only at hP hD
  obtain ⟨ad, d0, d1, d2, d3, d4, d5, d6, d7, d8, d9, d10, d11, d12, d13, d14, d15, d16, d17, dr⟩ : ∃ ad : Nat → Nat, ad 0 = q1 ∧ ad 1 = a1 ∧ ad 2 = a2 ∧ ad 3 = a3 ∧ ad 4 = a4 ∧ ad 5 = a5 ∧ ad 6 = a6 ∧ ad 7 = a7 ∧ ad 8 = a8 ∧ ad 9 = a9 ∧ ad 10 = a14 ∧ ad 11 = a15 ∧ ad 12 = a10 ∧ ad 13 = a11 ∧ ad 14 = a12 ∧ ad 15 = a13 ∧ ad 16 = a16 ∧ ad 17 = a17 ∧ ∀ i, ad (18 + i) = rr i := ⟨fun k => if k = 0 then q1 else if k = 1 then a1 else if k = 2 then a2 else if k = 3 then a3 else if k = 4 then a4 else if k = 5 then a5 else if k = 6 then a6 else if k = 7 then a7 else if k = 8 then a8 else if k = 9 then a9 else if k = 10 then a14 else if k = 11 then a15 else if k = 12 then a10 else if k = 13 then a11 else if k = 14 then a12 else if k = 15 then a13 else if k = 16 then a16 else if k = 17 then a17 else rr (k - 18), rfl, rfl, rfl, rfl, rfl, rfl, rfl, rfl, rfl, rfl, rfl, rfl, rfl, rfl, rfl, rfl, rfl, rfl, fun i => by simp only [show ¬ 18 + i = 0 by omega, show ¬ 18 + i = 1 by omega, show ¬ 18 + i = 2 by omega, show ¬ 18 + i = 3 by omega, show ¬ 18 + i = 4 by omega, show ¬ 18 + i = 5 by omega, show ¬ 18 + i = 6 by omega, show ¬ 18 + i = 7 by omega, show ¬ 18 + i = 8 by omega, show ¬ 18 + i = 9 by omega, show ¬ 18 + i = 10 by omega, show ¬ 18 + i = 11 by omega, show ¬ 18 + i = 12 by omega, show ¬ 18 + i = 13 by omega, show ¬ 18 + i = 14 by omega, show ¬ 18 + i = 15 by omega, show ¬ 18 + i = 16 by omega, show ¬ 18 + i = 17 by omega, if_false]; congr 1; omega⟩
  have hP : va_P (dC, dI) vwCl (wC ad cy 0 0 (fun _ => 0) 0 (fun _ => 0) 0 0 0 0 (fun _ => 0) (fun _ => 0) (fun _ => 0) 0 (fun _ => 0) (fun _ => 0) 0 0 0 (fun _ => 0) (fun _ => 0) 0 0 (fun _ _ => 0) (fun _ => 0)) H := hP.sub [0, 1, 2, 3, 4, 5, 6, 7, 8, 9, 24, 25, 10, 11, 22, 23, 26, 27, 12, 13, 14, 15, 16, 17, 18, 19, 20, 21] (by unfold wC; simp only [d0, d1, d2, d3, d4, d5, d6, d7, d8, d9, d10, d11, d12, d13, d14, d15, d16, d17, dr]; rfl)
  have hD : va_D (fun q : Nat => s.heap.size ≤ q) (wC ad cy 0 0 (fun _ => 0) 0 (fun _ => 0) 0 0 0 0 (fun _ => 0) (fun _ => 0) (fun _ => 0) 0 (fun _ => 0) (fun _ => 0) 0 0 0 (fun _ => 0) (fun _ => 0) 0 0 (fun _ _ => 0) (fun _ => 0)) := hD.sub [0, 1, 2, 3, 4, 5, 6, 7, 8, 9, 24, 25, 10, 11, 22, 23, 26, 27, 12, 13, 14, 15, 16, 17, 18, 19, 20, 21] rfl (by unfold wC; simp only [d0, d1, d2, d3, d4, d5, d6, d7, d8, d9, d10, d11, d12, d13, d14, d15, d16, d17, dr]; rfl)
  refine lv_astore_n (lv' := [(1, .ref q1), (0, .ref b)]) hx hb dL_law_7 rfl hl (by decide) rfl (fun ls hl => ?_)
  refine va_new (ci := 7) (fs := [.null, .null, .int 0, .null, .null, .null, .long 0, .null, .null, .null, .null, .null, .null, .int 0]) (C := RX7) (T := TX7) (N := 14) hx hb hts in_law_X7 tyX7 tyX7_ok hown (hts (.classLink RL 53 RX7) (by decide +kernel)) (hts (.instantiable RX7 14) (by decide +kernel)) (hts (.initialized RX7) (by decide +kernel)) hK hP hD hS hA rfl (fun j hj => by rcases (show j = 0 ∨ j = 1 ∨ j = 2 ∨ j = 3 ∨ j = 4 ∨ j = 5 ∨ j = 6 ∨ j = 7 ∨ j = 8 ∨ j = 9 ∨ j = 10 ∨ j = 11 ∨ j = 12 ∨ j = 13 by omega) with rfl | rfl | rfl | rfl | rfl | rfl | rfl | rfl | rfl | rfl | rfl | rfl | rfl | rfl <;> rfl) (Nat.le_of_ble_eq_true rfl) (Nat.le_of_ble_eq_true rfl) dL_law_8 (fun q2 H hP hD hS => ?_)
  refine lv_dup hx hb dL_law_11 rfl ?_
  obtain ⟨-, hPm⟩ := wp_app.mp hP
  obtain ⟨-, hDm, -⟩ := wd_app.mp hD
  have hFm := va_freeSame hDm hS hA
  refine va_callv (va_runI (As := []) (rest := [.ref q2]) ⟨hx, hb, hml, hown, hts⟩ (c_X7_init l dC dI cy q2 H.size) (cwI 0 hts gL_law_X7_init rfl rfl rfl (hts (.initialized RX7) (by decide +kernel)) (hts (.methodLink RL 55 yX7_init) (by decide +kernel)) (hts (.instanceMethod yX7_init) (by decide +kernel)) rfl (by decide +kernel) ⟨Nat.le_of_ble_eq_true rfl, Nat.le_of_ble_eq_true rfl⟩) ⟨cPre_blind, fun U hU hW => ⟨rfl, cPre_at hPm hK hDm hN hU hW⟩⟩ rfl rfl hl.1 rfl (lv_room (Nat.le_of_ble_eq_true rfl)) dL_law_12 ⟨Nat.le_of_ble_eq_true rfl, Nat.le_of_ble_eq_true rfl⟩) hS (fun q _ h => hFm q h) hFm (fun u t H locs ht hvm hw hB hz1 hk1 hS => ?_)
  obtain ⟨hP, hD⟩ := wj_r hP hD hk1 hFm (cPost_P ht hB) hB.2.2
  obtain ⟨b1, b2, b3, b4, b5, b6, b7, b8, b9, b10, b11⟩ := u
  dsimp only at hP hD
  obtain ⟨am, g0, g1, g2, g3, g4, g5, g6, g7, g8, g9, g10, g11⟩ : ∃ am : Nat → Nat, am 0 = q2 ∧ am 1 = b1 ∧ am 2 = b2 ∧ am 3 = b3 ∧ am 4 = b4 ∧ am 5 = b5 ∧ am 6 = b6 ∧ am 7 = b7 ∧ am 8 = b8 ∧ am 9 = b9 ∧ am 10 = b10 ∧ am 11 = b11 := ⟨fun k => if k = 0 then q2 else if k = 1 then b1 else if k = 2 then b2 else if k = 3 then b3 else if k = 4 then b4 else if k = 5 then b5 else if k = 6 then b6 else if k = 7 then b7 else if k = 8 then b8 else if k = 9 then b9 else if k = 10 then b10 else b11, rfl, rfl, rfl, rfl, rfl, rfl, rfl, rfl, rfl, rfl, rfl, rfl⟩
  have hP : va_P (dC, dI) vwCl ((wC ad cy 0 0 (fun _ => 0) 0 (fun _ => 0) 0 0 0 0 (fun _ => 0) (fun _ => 0) (fun _ => 0) 0 (fun _ => 0) (fun _ => 0) 0 0 0 (fun _ => 0) (fun _ => 0) 0 0 (fun _ _ => 0) (fun _ => 0)) ++ (wM am cy (fun _ => 0) (fun _ => 0) 0 (fun _ => 0) (fun _ => 0) (fun _ => 0) 0 (fun _ => 0) (fun _ => 0) (fun _ => 0) (fun _ => 0) (fun _ => 0) (fun _ => 0) 0)) H := by unfold wM; simp only [g0, g1, g2, g3, g4, g5, g6, g7, g8, g9, g10, g11]; exact hP
  have hD : va_D (fun q : Nat => s.heap.size ≤ q) ((wC ad cy 0 0 (fun _ => 0) 0 (fun _ => 0) 0 0 0 0 (fun _ => 0) (fun _ => 0) (fun _ => 0) 0 (fun _ => 0) (fun _ => 0) 0 0 0 (fun _ => 0) (fun _ => 0) 0 0 (fun _ _ => 0) (fun _ => 0)) ++ (wM am cy (fun _ => 0) (fun _ => 0) 0 (fun _ => 0) (fun _ => 0) (fun _ => 0) 0 (fun _ => 0) (fun _ => 0) (fun _ => 0) (fun _ => 0) (fun _ => 0) (fun _ => 0) 0)) := by unfold wM; simp only [g0, g1, g2, g3, g4, g5, g6, g7, g8, g9, g10, g11]; exact hD
  refine lv_astore_n (lv' := [(2, .ref q2), (1, .ref q1), (0, .ref b)]) hx hb dL_law_15 rfl hl (by decide) rfl (fun ls hl => ?_)
  refine lv_iconst (v := (1 : Int32)) hx hb dL_law_16 (by decide) ?_
  refine va_newa (atype := .long) (ty := .long) (N' := 1) (a0 := (1, .inr (.inl (fun _ => 0)))) hx hb (hts (.arrayClass .long) (by decide +kernel)) rfl hK hP hD hS hA (fun _ => rfl) (by decide) (by decide) (Nat.le_of_ble_eq_true rfl) (Nat.le_of_ble_eq_true rfl) (Nat.le_of_ble_eq_true rfl) dL_law_17 (fun ao cA H hK1 hP hD hS => ?_)
  have ecA := cy_same hK hK1 1 rfl
  subst ecA
  refine lv_astore_n (lv' := [(3, .ref ao), (2, .ref q2), (1, .ref q1), (0, .ref b)]) hx hb dL_law_19 rfl hl (by decide) rfl (fun ls hl => ?_)
  refine lv_iconst (v := (0 : Int32)) hx hb dL_law_20 (by decide) ?_
  refine lv_istore (lv' := [(4, .int (0 : Int32)), (3, .ref ao), (2, .ref q2), (1, .ref q1), (0, .ref b)]) hx hb dL_law_21 hl (by decide) rfl (fun ls hl => ?_)
  have hP := wp_perm hP
  have hD := wd_perm hD
  have C1 : ∀ d, cxLaw p (s.setDrawn d) m #[Value.ref b] meth c dC dI cy (fun q : Nat => s.heap.size ≤ q) b L xs := fun d => ⟨hx, hb, hml, hr, hown, dr_words hts d, hlocks, va_K.moved (u := s) (U := s.setDrawn d) (Vm.Alike.refl s.vm) hK, hA, nwC.same (s := s) (U := s.setDrawn d) rfl hN, xwC.same (s := s) (U := s.setDrawn d) rfl hXw, ⟨hXs.1.moved (U := s.setDrawn d) (Vm.Alike.refl s.vm), hXs.2.moved (U := s.setDrawn d) (Vm.Alike.refl s.vm)⟩, hX, hbl, hbA⟩
  have hl : lv_has ls 9 [(0, .ref b), (1, .ref (ad 0)), (2, .ref (am 0)), (3, .ref ao), (4, .int (nI 0))] := by
    rw [d0, g0, nI_0]
    exact lv_sub hl [4, 3, 2, 1, 0] rfl
  refine W.base (law_loop C1 hst hL 513 0 s.drawn 0 (fun _ => 0) (fun _ => 0) 0 0 (fun _ => 0) 0 0 0 0 (fun _ => 0) (fun _ => 0) (fun _ => 0) 0 (fun _ => 0) (fun _ => 0) 0 0 0 (fun _ => 0) (fun _ => 0) 0 0 (fun _ _ => 0) (fun _ => 0) (fun _ => 0) (fun _ => 0) (fun _ => 0) (fun _ => 0) (fun _ => 0) 0 (fun _ => 0) (fun _ => 0) (fun _ => 0) (fun _ => 0) (fun _ => 0) (fun _ => 0) 0 H _ ls _ _ (by omega) (by omega) (by omega) (Nat.le_of_ble_eq_true rfl) (Nat.le_of_ble_eq_true rfl) (Drawn.sameBut.refl s.drawn lw_cs) ⟨⟨⟨by omega, fun c hc => absurd hc (by omega)⟩, fun j hj => absurd hj (by omega)⟩, (fun j hj => absurd hj (by omega)), (fun h => absurd rfl h), (fun h => absurd rfl h), (fun j hj => absurd hj (by omega))⟩ ⟨?_, ?_, hS⟩ hl)
  · rw [nI_0]; exact hP
  · rw [nI_0]; exact hD
