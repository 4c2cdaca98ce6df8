/-! what the tables give at the start -/
theorem arr_in {s : State} {args : Array Value} {ty : FieldType} (h : (Cond.arrayClass ty).before args s = true) (hn : ∀ k, ty ≠ .object k) : ∃ cA, ArrOfT s cA ty ∧ va_RA s cA ty := by
  obtain ⟨cA, kA, comp, h1, h2, h3⟩ := Cond.arrayClass_spec h
  refine ⟨cA, fun n z => ⟨fun k h => (by cases h), kA, h2, comp, h3⟩, ?_⟩
  cases ty with
  | object k => exact absurd rfl (hn k)
  | _ => exact h1
theorem arr_over {s : State} {args : Array Value} {ty : FieldType} (h : (Cond.arrayOver (.array ty)).before args s = true) : ∃ cA, ArrOfT s cA (.array ty) ∧ va_RA s cA (.array ty) := by
  obtain ⟨comp, cA, kA, -, h2, h3, h4⟩ := Cond.arrayOver_specA h
  exact ⟨cA, fun n z => ⟨fun k h => (by cases h), kA, h2, comp, h3⟩, h4⟩
theorem in_law_X0 : ∀ w ∈ u_ws RX0 TX0 6, w ∈ wsL_law := fun w h => (ggL_law_X6_init w ((by decide +kernel : ∀ w ∈ u_ws RX0 TX0 6, w ∈ wsX6_init) w h)).1
theorem in_law_X1 : ∀ w ∈ u_ws RX1 TX1 2, w ∈ wsL_law := fun w h => (ggL_law_X6_init w ((by decide +kernel : ∀ w ∈ u_ws RX1 TX1 2, w ∈ wsX6_init) w h)).1
theorem in_law_X2 : ∀ w ∈ u_ws RX2 TX2 5, w ∈ wsL_law := fun w h => (ggL_law_X6_init w ((by decide +kernel : ∀ w ∈ u_ws RX2 TX2 5, w ∈ wsX6_init) w h)).1
theorem in_law_X3 : ∀ w ∈ u_ws RX3 TX3 4, w ∈ wsL_law := fun w h => (ggL_law_X6_init w ((by decide +kernel : ∀ w ∈ u_ws RX3 TX3 4, w ∈ wsX6_init) w h)).1
theorem in_law_X4 : ∀ w ∈ u_ws RX4 TX4 1, w ∈ wsL_law := fun w h => (ggL_law_X6_init w ((by decide +kernel : ∀ w ∈ u_ws RX4 TX4 1, w ∈ wsX6_init) w h)).1
theorem in_law_X5 : ∀ w ∈ u_ws RX5 TX5 5, w ∈ wsL_law := fun w h => (ggL_law_X6_init w ((by decide +kernel : ∀ w ∈ u_ws RX5 TX5 5, w ∈ wsX6_init) w h)).1
theorem in_law_X6 : ∀ w ∈ u_ws RX6 TX6 7, w ∈ wsL_law := fun w h => (ggL_law_X6_init w ((by decide +kernel : ∀ w ∈ u_ws RX6 TX6 7, w ∈ wsX6_init) w h)).1
def xsmL : List Cond := [366, 435, 463, 367, 368, 369, 370, 371, 372].filterMap (fun i => tables_1[i]?)
theorem xdc_sm : ∀ w ∈ xdcL, w ∈ xsmL := by decide +kernel
theorem xsm_tb : ∀ w ∈ xsmL, w ∈ tables_1 := fun w h => by
  obtain ⟨i, -, hi⟩ := List.mem_filterMap.mp h
  exact List.mem_of_getElem? hi
theorem str_at {s : State} {args : Array Value} {k : Nat} {tx : String} (h1 : (Cond.stringRef RX6 k tx).before args s = true) (h2 : (Cond.exactly (.string RX6 k) "java/lang/String").before args s = true) : ∃ a, vk_R RX6 k tx a s := by
  obtain ⟨a, -, -, -, h3, -⟩ := Cond.exactly_spec h2
  exact ⟨a, vk_R.of h1 h3⟩
theorem nw_start {s : State} {args : Array Value} (tb : ∀ w, w ∈ tables_1 → w.before args s = true) : nwC s := ⟨va_Nw.of rfl (tb _ (List.mem_of_getElem? (i := 30) (by decide +kernel))), va_Nw.of rfl (tb _ (List.mem_of_getElem? (i := 31) (by decide +kernel))), va_Nw.of rfl (tb _ (List.mem_of_getElem? (i := 33) (by decide +kernel))), va_Nw.of rfl (tb _ (List.mem_of_getElem? (i := 34) (by decide +kernel))), va_Nw.of rfl (tb _ (List.mem_of_getElem? (i := 35) (by decide +kernel))), va_Nw.of rfl (tb _ (List.mem_of_getElem? (i := 36) (by decide +kernel))), va_Nw.of rfl (tb _ (List.mem_of_getElem? (i := 37) (by decide +kernel))), va_Nw.of rfl (tb _ (List.mem_of_getElem? (i := 51) (by decide +kernel))), va_Nw.of rfl (tb _ (List.mem_of_getElem? (i := 76) (by decide +kernel))), va_Nw.of rfl (tb _ (List.mem_of_getElem? (i := 78) (by decide +kernel))), va_Nw.of rfl (tb _ (List.mem_of_getElem? (i := 107) (by decide +kernel))), va_Nw.of rfl (tb _ (List.mem_of_getElem? (i := 123) (by decide +kernel))), va_Nw.of rfl (tb _ (List.mem_of_getElem? (i := 125) (by decide +kernel))), va_Nw.of rfl (tb _ (List.mem_of_getElem? (i := 127) (by decide +kernel))), va_Nw.of rfl (tb _ (List.mem_of_getElem? (i := 129) (by decide +kernel))), va_Nw.of rfl (tb _ (List.mem_of_getElem? (i := 131) (by decide +kernel))), va_Nw.of rfl (tb _ (List.mem_of_getElem? (i := 152) (by decide +kernel))), va_Nw.of rfl (tb _ (List.mem_of_getElem? (i := 25) (by decide +kernel))), va_Nw.of rfl (tb _ (List.mem_of_getElem? (i := 46) (by decide +kernel))), va_Nw.of rfl (tb _ (List.mem_of_getElem? (i := 69) (by decide +kernel))), va_Nw.of rfl (tb _ (List.mem_of_getElem? (i := 90) (by decide +kernel))), va_Nw.of rfl (tb _ (List.mem_of_getElem? (i := 96) (by decide +kernel))), va_Nw.of rfl (tb _ (List.mem_of_getElem? (i := 147) (by decide +kernel))), fun _ => tb (Cond.arrayOver (.array .long)) (List.mem_of_getElem? (i := 101) (by decide +kernel))⟩
set_option maxRecDepth 100000 in
set_option maxHeartbeats 4000000 in
theorem xw_start {s : State} {args : Array Value} (tb : ∀ w, w ∈ tables_1 → w.before args s = true) (hgv : (Jvm.Cond.and given_1 narrow_1).before args s = true) : xwC s := by
  have fl := flat_of_before _ hgv
  exact ⟨fun w hw => dc_moved (xdcL_dc w hw) (Vm.Alike.refl s.vm) (tb w (xsm_tb w (xdc_sm w hw))), va_Nc.of (fl _ (by decide +kernel)), va_Nc.of (fl _ (by decide +kernel)), va_Nc.of (fl _ (by decide +kernel)), str_at (tb (Cond.stringRef RX6 50 "a time is not 0 to 50") (List.mem_of_getElem? (i := 405) (by decide +kernel))) (fl _ (by decide +kernel)), str_at (tb (Cond.stringRef RX6 55 "the job cannot be done on any machine") (List.mem_of_getElem? (i := 432) (by decide +kernel))) (fl _ (by decide +kernel)), str_at (tb (Cond.stringRef RX6 63 "there are 7 jobs") (List.mem_of_getElem? (i := 442) (by decide +kernel))) (fl _ (by decide +kernel)), str_at (tb (Cond.stringRef RX6 83 "the time is not 0 to 50") (List.mem_of_getElem? (i := 481) (by decide +kernel))) (fl _ (by decide +kernel)), str_at (tb (Cond.stringRef RX6 85 "the job has this machine in the own plan") (List.mem_of_getElem? (i := 482) (by decide +kernel))) (fl _ (by decide +kernel)), str_at (tb (Cond.stringRef RX6 131 "the job cannot be done there") (List.mem_of_getElem? (i := 505) (by decide +kernel))) (fl _ (by decide +kernel)), str_at (tb (Cond.stringRef RX6 143 "there is no such job") (List.mem_of_getElem? (i := 470) (by decide +kernel))) (fl _ (by decide +kernel)), str_at (tb (Cond.stringRef RX6 146 "there is no such machine") (List.mem_of_getElem? (i := 480) (by decide +kernel))) (fl _ (by decide +kernel))⟩
set_option maxRecDepth 100000 in
set_option maxHeartbeats 4000000 in
theorem xs_start {s : State} {args : Array Value} (tb : ∀ w, w ∈ tables_1 → w.before args s = true) (hgv : (Jvm.Cond.and given_1 narrow_1).before args s = true) : xsC (fun q : Nat => s.heap.size ≤ q) s s.heap := by
  have fl := flat_of_before _ hgv
  exact ⟨vx_Zqof (tb _ (List.mem_of_getElem? (i := 391) (by decide +kernel))) (tb _ (List.mem_of_getElem? (i := 9) (by decide +kernel))) (fl _ (by decide +kernel)) (fun a ha => Nat.not_le.mpr ha), vx_Zqof (tb _ (List.mem_of_getElem? (i := 393) (by decide +kernel))) (tb _ (List.mem_of_getElem? (i := 9) (by decide +kernel))) (fl _ (by decide +kernel)) (fun a ha => Nat.not_le.mpr ha)⟩
