/-! methods that throw: what rides in their contracts -/
abbrev xnm : List String := ["java/lang/RuntimeException", "java/lang/Exception"]
/-- the words that are no good words -/
def xdcL : List Cond := (vx_atS RX6 52 "java/lang/IllegalArgumentException" xnm).filter (fun w => !goodWord w) ++ (vx_atS RX6 65 "java/lang/IllegalStateException" xnm).filter (fun w => !goodWord w) ++ (vx_atS RX6 145 "java/lang/IndexOutOfBoundsException" xnm).filter (fun w => !goodWord w)
def isDC : Cond → Bool
  | .declares _ => true
  | .castable _ _ => true
  | _ => false
theorem xdcL_dc : ∀ w ∈ xdcL, isDC w = true := by decide +kernel
theorem dc_moved {w : Cond} {args args' : Array Value} {s U : State} (h : isDC w = true) (hal : s.vm.Alike U.vm) (hb : w.before args s = true) : w.before args' U = true := by
  cases w with
  | declares x =>
    have h1 : (Cond.declares x).before args (s.setVm U.vm) = true := by rw [Cond.declares_setVm hal x]; exact hb
    exact va_tabs (u := s.setVm U.vm) (U := U) rfl rfl h1
  | castable a b =>
    have h1 : (Cond.castable a b).before args (s.setVm U.vm) = true := by rw [Cond.castable_setVm hal a b]; exact hb
    exact va_tabs (u := s.setVm U.vm) (U := U) rfl rfl h1
  | _ => exact absurd (show false = true from h) Bool.false_ne_true
def xwC (U : State) : Prop := (∀ w ∈ xdcL, w.before #[] U = true) ∧ va_Nc "java/lang/IllegalStateException" "java/lang/IllegalArgumentException" U ∧ va_Nc "java/lang/IllegalArgumentException" "java/lang/IndexOutOfBoundsException" U ∧ va_Nc "java/lang/IllegalStateException" "java/lang/IndexOutOfBoundsException" U ∧
  (∃ a, vk_R RX6 50 "a time is not 0 to 50" a U) ∧ (∃ a, vk_R RX6 55 "the job cannot be done on any machine" a U) ∧ (∃ a, vk_R RX6 63 "there are 7 jobs" a U) ∧ (∃ a, vk_R RX6 83 "the time is not 0 to 50" a U) ∧ (∃ a, vk_R RX6 85 "the job has this machine in the own plan" a U) ∧ (∃ a, vk_R RX6 131 "the job cannot be done there" a U) ∧ (∃ a, vk_R RX6 143 "there is no such job" a U) ∧ (∃ a, vk_R RX6 146 "there is no such machine" a U)
theorem xw_dc {s : State} {args : Array Value} (h : xwC s) (w : Cond) (hw : w ∈ xdcL) : w.before args s = true := dc_moved (xdcL_dc w hw) (Vm.Alike.refl s.vm) (h.1 w hw)
theorem xw_50 {s : State} (h : xwC s) : ∃ a, vk_R RX6 50 "a time is not 0 to 50" a s := h.2.2.2.2.1
theorem xw_55 {s : State} (h : xwC s) : ∃ a, vk_R RX6 55 "the job cannot be done on any machine" a s := h.2.2.2.2.2.1
theorem xw_63 {s : State} (h : xwC s) : ∃ a, vk_R RX6 63 "there are 7 jobs" a s := h.2.2.2.2.2.2.1
theorem xw_83 {s : State} (h : xwC s) : ∃ a, vk_R RX6 83 "the time is not 0 to 50" a s := h.2.2.2.2.2.2.2.1
theorem xw_85 {s : State} (h : xwC s) : ∃ a, vk_R RX6 85 "the job has this machine in the own plan" a s := h.2.2.2.2.2.2.2.2.1
theorem xw_131 {s : State} (h : xwC s) : ∃ a, vk_R RX6 131 "the job cannot be done there" a s := h.2.2.2.2.2.2.2.2.2.1
theorem xw_143 {s : State} (h : xwC s) : ∃ a, vk_R RX6 143 "there is no such job" a s := h.2.2.2.2.2.2.2.2.2.2.1
theorem xw_146 {s : State} (h : xwC s) : ∃ a, vk_R RX6 146 "there is no such machine" a s := h.2.2.2.2.2.2.2.2.2.2.2
theorem xR_warm {own tx : String} {k : Nat} {s U : State} (hW : s.WarmedH U.vm) (h : ∃ a, vk_R own k tx a s) : ∃ a, vk_R own k tx a U := ⟨h.choose, vk_R.warm hW h.choose_spec⟩
theorem xR_same {own tx : String} {k : Nat} {s U : State} (hv : s.vm = U.vm) (h : ∃ a, vk_R own k tx a s) : ∃ a, vk_R own k tx a U := ⟨h.choose, vk_R.same hv.symm h.choose_spec⟩
theorem xwC.warm {s U : State} (hW : s.WarmedH U.vm) (h : xwC s) : xwC U := ⟨fun w hw => dc_moved (xdcL_dc w hw) hW.alike (h.1 w hw), h.2.1.moved hW.alike, h.2.2.1.moved hW.alike, h.2.2.2.1.moved hW.alike, xR_warm hW (xw_50 h), xR_warm hW (xw_55 h), xR_warm hW (xw_63 h), xR_warm hW (xw_83 h), xR_warm hW (xw_85 h), xR_warm hW (xw_131 h), xR_warm hW (xw_143 h), xR_warm hW (xw_146 h)⟩
theorem xwC.same {s U : State} (hv : s.vm = U.vm) (h : xwC s) : xwC U := ⟨fun w hw => dc_moved (xdcL_dc w hw) (hv ▸ Vm.Alike.refl s.vm) (h.1 w hw), h.2.1.moved (hv ▸ Vm.Alike.refl s.vm), h.2.2.1.moved (hv ▸ Vm.Alike.refl s.vm), h.2.2.2.1.moved (hv ▸ Vm.Alike.refl s.vm), xR_same hv (xw_50 h), xR_same hv (xw_55 h), xR_same hv (xw_63 h), xR_same hv (xw_83 h), xR_same hv (xw_85 h), xR_same hv (xw_131 h), xR_same hv (xw_143 h), xR_same hv (xw_146 h)⟩
theorem xdc_52 : ∀ w ∈ (vx_atS RX6 52 "java/lang/IllegalArgumentException" xnm).filter (fun w => !goodWord w), w ∈ xdcL := fun _ h => List.mem_append_left _ (List.mem_append_left _ h)
theorem xdc_65 : ∀ w ∈ (vx_atS RX6 65 "java/lang/IllegalStateException" xnm).filter (fun w => !goodWord w), w ∈ xdcL := fun _ h => List.mem_append_left _ (List.mem_append_right _ h)
theorem xdc_145 : ∀ w ∈ (vx_atS RX6 145 "java/lang/IndexOutOfBoundsException" xnm).filter (fun w => !goodWord w), w ∈ xdcL := fun _ h => List.mem_append_right _ h
theorem xot_52_48 : ∀ w ∈ Cond.classLink RX6 48 "java/lang/IllegalArgumentException" :: Cond.initialized "java/lang/IllegalArgumentException" :: vx_atS RX6 52 "java/lang/IllegalArgumentException" xnm, vx_ot w = true := by decide +kernel
theorem xot_65_61 : ∀ w ∈ Cond.classLink RX6 61 "java/lang/IllegalStateException" :: Cond.initialized "java/lang/IllegalStateException" :: vx_atS RX6 65 "java/lang/IllegalStateException" xnm, vx_ot w = true := by decide +kernel
theorem xot_145_141 : ∀ w ∈ Cond.classLink RX6 141 "java/lang/IndexOutOfBoundsException" :: Cond.initialized "java/lang/IndexOutOfBoundsException" :: vx_atS RX6 145 "java/lang/IndexOutOfBoundsException" xnm, vx_ot w = true := by decide +kernel
/-- the two statics of Throwable that a throw reads -/
def xsC (A : Nat → Prop) (U : State) (H : Heap) : Prop := vx_Zq Bundle.tN "UNASSIGNED_STACK" Bundle.steD A U H ∧ vx_Zq Bundle.tN "SUPPRESSED_SENTINEL" Bundle.listD A U H
theorem xsC.go {A B : Nat → Prop} {s U : State} {H : Heap} {locs : List Loc} (hal : s.vm.Alike U.vm) (hS : va_S A s.heap H locs) (hAB : ∀ q, B q → A q) (h : xsC A s s.heap) : xsC B U H := ⟨((h.1.kept hS.2.1).narrow hAB).moved hal, ((h.2.kept hS.2.1).narrow hAB).moved hal⟩
def cPreX (dC : Nat → ClassId) (dI : Nat → Nat → Nat) (cy : Nat → ClassId) (ws : va_W) (sz : Nat) (U : State) : Prop := cPre dC dI cy ws sz U ∧ xwC U ∧ xsC (va_A ws sz) U U.heap
section
variable {dC : Nat → ClassId} {dI : Nat → Nat → Nat} {cy : Nat → ClassId} {ws ws' : va_W} {sz : Nat} {A : Nat → Prop} {s U t : State} {H H0 : Heap} {locs : List Loc}
theorem cPreX_blind {av : List Value} : ∀ (a : Array Value) (U : State) (g : JFrame) (mk : MethodId), va_Pc av (cPreX dC dI cy ws sz) a U → va_Pc av (cPreX dC dI cy ws sz) a (U.calling g mk a) := fun a U g mk q => by
  obtain ⟨q0, q1, q2, q3⟩ := q
  obtain ⟨-, q1'⟩ := cPre_blind a U g mk ⟨q0, q1⟩
  exact ⟨q0, q1', xwC.same (s := U) (U := U.calling g mk a) rfl q2, q3.1.moved (U := U.calling g mk a) (Vm.Alike.refl U.vm), q3.2.moved (U := U.calling g mk a) (Vm.Alike.refl U.vm)⟩
theorem cPreX_at (hP : va_P (dC, dI) vwCl ws H) (hK : va_K (dC, dI) vwCl (tysC cy) s) (hD : va_D A ws) (hN : nwC s) (hU : U.heap = H) (hW : s.WarmedH U.vm) (hXw : xwC s) (hXs : xsC A s s.heap) (hS : va_S A s.heap H locs) (hFc : ∀ q, va_A ws H.size q → A q) : cPreX dC dI cy ws H.size U :=
  ⟨cPre_at hP hK hD hN hU hW, hXw.warm hW, by rw [hU]; exact hXs.go hW.alike hS hFc⟩
theorem cPostX_of (hAe : va_A ws sz = A) (hal : s.vm.Alike t.vm) (hk : ∀ q : Nat, q < H.size → t.heap[q]? = H[q]?) (hSt : stC dC dI A s ws' H locs) (hK : va_K (dC, dI) vwCl (tysC cy) s) : cPost dC dI cy ws sz ws' t :=
  ⟨hSt.1.kept (fun k q h => hk q.1 (hSt.1 k q h).lt), va_K.moved hal hK, by rw [hAe]; exact hSt.2.1⟩
theorem xF_of (hS : va_S A s.heap H locs) (hz : H.size ≤ t.heap.size) (hk : ∀ q : Nat, q < H.size → t.heap[q]? = H[q]?) : va_F A s t := ⟨Nat.le_trans hS.1 hz, fun q h1 h2 => by rw [hk q (Nat.lt_of_lt_of_le h1 hS.1)]; exact hS.2.1 q h1 h2⟩
end
