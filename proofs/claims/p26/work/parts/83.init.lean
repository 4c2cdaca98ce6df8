variable {dC : Nat → ClassId} {dI : Nat → Nat → Nat} {cy : Nat → ClassId}
theorem cy_same {s : State} {cA : ClassId} {ty : FieldType} (hK : va_K (dC, dI) vwCl (tysC cy) s) (hK1 : va_K (dC, dI) vwCl (tysC cy ++ [(cA, ty)]) s) (k : Nat) (hk : (tysC cy)[k]? = some (cy k, ty)) : cA = cy k := by
  have h1 := (hK1.2 4 (cA, ty) rfl).2
  have h2 := (hK.2 k _ hk).2
  have key : ∀ {a b : ClassId}, va_RA s a ty → va_RA s b ty → a = b := fun {a b} p q => by
    unfold va_RA at p q
    split at p
    · obtain ⟨_, _, _, _, _, e1⟩ := p
      obtain ⟨_, _, _, _, _, e2⟩ := q
      exact Option.some.inj (e1.symm.trans e2)
    · rename_i hne
      split at q
      · exact absurd rfl (hne _)
      · exact Option.some.inj (p.symm.trans q)
  exact key h1 h2
theorem ic_0 {c : ClassId} : Jvm.Free.Multi.innerC c 26 (defaultValue .long) = vp_cell c (26, .inr (.inl (fun _ => 0))) := by
  show ({ cls := c, slots := Array.replicate 26 (.long 0), vm := .none } : Cell) = _
  rw [arrV_new]; rfl
theorem mna_rows {X : va_W} {A : Nat → Prop} {H : Heap} {q : Nat} {r : Nat → Nat} {f : Nat → va_E} (hP : va_P (dC, dI) vwCl ((X ++ [(q, .inl (cy 3, 10, .inr (.inr (.inr (.inr (fun i => if i < 10 then some (r i) else none))))))]) ++ va_pl ([] ++ (List.range 10).map r) (vr_up f ((List.range 10).map r) (.inl (cy 1, 26, .inr (.inl (fun _ => 0)))))) H)
    (hD : va_D A ((X ++ [(q, .inl (cy 3, 10, .inr (.inr (.inr (.inr (fun i => if i < 10 then some (r i) else none))))))]) ++ va_pl ([] ++ (List.range 10).map r) (vr_up f ((List.range 10).map r) (.inl (cy 1, 26, .inr (.inl (fun _ => 0))))))) :
    va_P (dC, dI) vwCl ((X ++ [(q, .inl (cy 3, 10, .inr (.inr (.inr (.inr (fun i => some (r i)))))))]) ++ (List.range 10).map (fun i => (r i, .inl (cy 1, 26, .inr (.inl (fun _ => 0)))))) H ∧ va_D A ((X ++ [(q, .inl (cy 3, 10, .inr (.inr (.inr (.inr (fun i => some (r i)))))))]) ++ (List.range 10).map (fun i => (r i, .inl (cy 1, 26, .inr (.inl (fun _ => 0)))))) := by
  have e1 : va_pl ([] ++ (List.range 10).map r) (vr_up f ((List.range 10).map r) (.inl (cy 1, 26, .inr (.inl (fun _ => 0))))) = (List.range 10).map (fun i => (r i, (.inl (cy 1, 26, .inr (.inl (fun _ => 0))) : va_E))) := by
    unfold va_pl
    rw [List.nil_append, List.map_map]
    refine List.map_congr_left (fun i hi => ?_)
    show (r i, vr_up f ((List.range 10).map r) _ (r i)) = _
    rw [vr_up_in (List.mem_map.mpr ⟨i, hi, rfl⟩)]
  rw [e1] at hP hD
  have ec : vp_cell (cy 3) (10, .inr (.inr (.inr (.inr (fun i => if i < 10 then some (r i) else none))))) = vp_cell (cy 3) (10, .inr (.inr (.inr (.inr (fun i => some (r i)))))) := by
    rw [vp_cell_q, vp_cell_q]
    unfold arrV
    congr 2
    funext j
    show va_rf (if j.val < 10 then some (r j.val) else none) = va_rf (some (r j.val))
    rw [if_pos j.isLt]
  constructor
  · intro k z hz
    by_cases h1 : k < X.length
    · have h2 : ((X ++ [(q, .inl (cy 3, 10, .inr (.inr (.inr (.inr (fun i => if i < 10 then some (r i) else none))))))]) ++ (List.range 10).map (fun i => (r i, (.inl (cy 1, 26, .inr (.inl (fun _ => 0))) : va_E))))[k]? = some z := by
        rw [List.append_assoc, List.getElem?_append_left h1] at hz ⊢
        exact hz
      exact hP k z h2
    · by_cases h2 : k = X.length
      · subst h2
        rw [List.append_assoc, List.getElem?_append_right (Nat.le_refl _), Nat.sub_self] at hz
        cases hz
        have h3 := hP X.length (q, .inl (cy 3, 10, .inr (.inr (.inr (.inr (fun i => if i < 10 then some (r i) else none)))))) (by rw [List.append_assoc, List.getElem?_append_right (Nat.le_refl _), Nat.sub_self]; rfl)
        show H[q]? = some (vp_cell (cy 3) _)
        rw [← ec]; exact h3
      · have h3 : ((X ++ [(q, .inl (cy 3, 10, .inr (.inr (.inr (.inr (fun i => if i < 10 then some (r i) else none))))))]) ++ (List.range 10).map (fun i => (r i, (.inl (cy 1, 26, .inr (.inl (fun _ => 0))) : va_E))))[k]? = some z := by
          rw [List.getElem?_append_right (by rw [List.length_append, List.length_singleton]; omega), List.length_append, List.length_singleton] at hz ⊢
          exact hz
        exact hP k z h3
  · have ad : ∀ (k : Nat) (z : Nat × va_E), ((X ++ [(q, .inl (cy 3, 10, .inr (.inr (.inr (.inr (fun i => some (r i)))))))]) ++ (List.range 10).map (fun i => (r i, (.inl (cy 1, 26, .inr (.inl (fun _ => 0))) : va_E))))[k]? = some z → ∃ e, ((X ++ [(q, .inl (cy 3, 10, .inr (.inr (.inr (.inr (fun i => if i < 10 then some (r i) else none))))))]) ++ (List.range 10).map (fun i => (r i, (.inl (cy 1, 26, .inr (.inl (fun _ => 0))) : va_E))))[k]? = some (z.1, e) := fun k z hz => by
      by_cases h1 : k < X.length
      · refine ⟨z.2, ?_⟩
        rw [List.append_assoc, List.getElem?_append_left h1] at hz ⊢
        exact hz
      · by_cases h2 : k = X.length
        · subst h2
          rw [List.append_assoc, List.getElem?_append_right (Nat.le_refl _), Nat.sub_self] at hz
          cases hz
          exact ⟨_, by rw [List.append_assoc, List.getElem?_append_right (Nat.le_refl _), Nat.sub_self]; rfl⟩
        · refine ⟨z.2, ?_⟩
          rw [List.getElem?_append_right (by rw [List.length_append, List.length_singleton]; omega), List.length_append, List.length_singleton] at hz ⊢
          exact hz
    refine ⟨fun i j p z hp hz e => ?_, fun k z hz => ?_⟩
    · obtain ⟨e1, h1⟩ := ad i p hp
      obtain ⟨e2, h2⟩ := ad j z hz
      exact hD.1 i j _ _ h1 h2 e
    · obtain ⟨e1, h1⟩ := ad k z hz
      exact hD.2 k (z.1, e1) h1
-- ===== X1_init
theorem in_X1_init_X1 : ∀ w ∈ u_ws RX1 TX1 2, w ∈ wsX1_init := by decide +kernel
abbrev rmX1_init : Room := { frames := 1, cells := 1, slots := 21, locals := 40 }
set_option maxHeartbeats 4000000 in
set_option maxRecDepth 100000 in
theorem c_X1_init (l : Launch) (dC : Nat → ClassId) (dI : Nat → Nat → Nat) (cy : Nat → ClassId) (h0 : Nat) (sz : Nat) : Met l yX1_init wsX1_init rmX1_init (va_Pc [.ref h0] (cPre dC dI cy [(h0, .inr (1, [.null, .int 0]))] sz)) (va_Qv (fun (_ : Nat) => True) (fun (u : Nat) t => cPost dC dI cy [(h0, .inr (1, [.null, .int 0]))] sz [(h0, .inr (1, [.ref u, .int 0])), (u, .inl (cy 0, 21, .inl (fun _ => 0)))] t) (va_A [(h0, .inr (1, [.null, .int 0]))] sz)) 1 21 (va_A [(h0, .inr (1, [.null, .int 0]))] sz) := by
  refine Met.ofW (cc := cX1_init) (maxL := 1) (ret := none) (by decide) rfl ?_
  intro p e s m args below meth c s₁ B hml hv
  obtain ⟨rfl, hsz, hP, hK, hD0, hN⟩ := hv
  have hx := B.exec
  have hb := B.bytes
  have hr := B.returns
  have hts := atoms_spec (ws := wsX1_init) B.pre
  have hown : s.vm.findClass RX1 = some m.cls := findClass_of_methodNamed B.named
  have hlocks := B.notSynchronized
  have hin : meth.name = "<init>" := (name_of_methodNamed B.named B.method).1
  subst hsz
  have hD := hD0.self (sz := s.heap.size)
  generalize hAe : va_A [(h0, .inr (1, [.null, .int 0]))] s.heap.size = A at hD ⊢
  have hA : ∀ q : Nat, s.heap.size ≤ q → A q := fun q h => by rw [← hAe]; exact Or.inr h
  have hS : va_S A s.heap s.heap [] := va_S.rf
  have hl := lv_entry ([.ref h0]) (n := 1) (Nat.le_of_ble_eq_true rfl)
  rw [lg_entry_eq]
  generalize (lg_sl ([.ref h0]) ++ List.replicate (1 - (lg_sl ([.ref h0])).length) Slot.unset).toArray = ls at hl ⊢
  have hl : lv_has ls 1 [(0, .ref h0)] := hl
  refine lv_aload_n hx hb dX1_init_0 rfl (lv_at hl 0 rfl) ?_
  refine W.objInit hx hb hown (hts (.methodLink RX1 3 objectInit) (by decide +kernel)) (hts (.instanceMethod objectInit) (by decide +kernel)) (hts (.code objectInit ⟨#[0xb1]⟩ 1 none) (by decide +kernel)) rfl (by rw [hml]; exact hl.1) rfl dX1_init_1 (Nat.le_of_ble_eq_true rfl) (Nat.le_of_ble_eq_true rfl) ?_
  refine W.eq (g2 := F0 m 4 ls []) rfl ?_
  refine lv_aload_n hx hb dX1_init_4 rfl (lv_at hl 0 rfl) ?_
  refine lv_bipush (v := 21) hx hb dX1_init_5 (by decide) ?_
  refine va_newa (atype := .int) (ty := .int) (N' := 21) (a0 := (21, .inl (fun _ => 0))) hx hb (hts (.arrayClass .int) (by decide +kernel)) rfl hK hP hD hS hA (fun _ => rfl) (by decide) (by decide) (Nat.le_of_ble_eq_true rfl) (Nat.le_of_ble_eq_true rfl) (Nat.le_of_ble_eq_true rfl) dX1_init_7 (fun q1 cA H hK1 hP hD hS => ?_)
  obtain rfl : cA = cy 0 := cy_same hK hK1 0 rfl
  have hP : va_P (dC, dI) vwCl [(h0, .inr (1, [.null, .int 0])), (q1, .inl (cy 0, 21, .inl (fun _ => 0)))] H := hP
  have hD : va_D A [(h0, .inr (1, [.null, .int 0])), (q1, .inl (cy 0, 21, .inl (fun _ => 0)))] := hD
  refine va_putF (D := (dC, dI)) (ci := 1) (v := .ref q1) (ty := (.array .int)) (C := RX1) (T := TX1) (N := 2) hx hb hts in_X1_init_X1 tyX1 tyX1_ok nmX1 hown hK hP hD hS 0 rfl rfl 0 (by decide) (hts (Cond.fieldLink RX1 9 "UnlikeUnion$Jobs" "times" "[I") (by decide +kernel)) (fun _ h9 => h9) rfl hin rfl (by decide +kernel) rfl rfl (Nat.le_of_ble_eq_true rfl) dX1_init_9 (fun H locs hP hD hS => ?_)
  have hP : va_P (dC, dI) vwCl [(h0, .inr (1, [.ref q1, .int 0])), (q1, .inl (cy 0, 21, .inl (fun _ => 0)))] H := hP
  have hD : va_D A [(h0, .inr (1, [.ref q1, .int 0])), (q1, .inl (cy 0, 21, .inl (fun _ => 0)))] := hD
  refine W.widen (k := 1) (n := 21) (by omega) (by omega) ?_
  exact W.vret hx hb hr (fun t ht hW => ⟨⟨q1, rfl, trivial, by rw [ht]; exact hP, va_K.moved hW.alike hK, by rw [hAe]; exact hD⟩, hS.F ht⟩) hS.2.2 dX1_init_12
-- ===== X2_init
theorem in_X2_init_X2 : ∀ w ∈ u_ws RX2 TX2 5, w ∈ wsX2_init := by decide +kernel
abbrev rmX2_init : Room := { frames := 1, cells := 1, slots := 7, locals := 40 }
set_option maxHeartbeats 4000000 in
set_option maxRecDepth 100000 in
theorem c_X2_init (l : Launch) (dC : Nat → ClassId) (dI : Nat → Nat → Nat) (cy : Nat → ClassId) (h0 : Nat) (sz : Nat) : Met l yX2_init wsX2_init rmX2_init (va_Pc [.ref h0] (cPre dC dI cy [(h0, .inr (2, [.null, .int 0, .int 0, .int 0, .int 0]))] sz)) (va_Qv (fun (_ : Nat) => True) (fun (u : Nat) t => cPost dC dI cy [(h0, .inr (2, [.null, .int 0, .int 0, .int 0, .int 0]))] sz [(h0, .inr (2, [.ref u, .int 0, .int 0, .int 0, .int 0])), (u, .inl (cy 0, 7, .inl (fun _ => 0)))] t) (va_A [(h0, .inr (2, [.null, .int 0, .int 0, .int 0, .int 0]))] sz)) 1 7 (va_A [(h0, .inr (2, [.null, .int 0, .int 0, .int 0, .int 0]))] sz) := by
  refine Met.ofW (cc := cX2_init) (maxL := 1) (ret := none) (by decide) rfl ?_
  intro p e s m args below meth c s₁ B hml hv
  obtain ⟨rfl, hsz, hP, hK, hD0, hN⟩ := hv
  have hx := B.exec
  have hb := B.bytes
  have hr := B.returns
  have hts := atoms_spec (ws := wsX2_init) B.pre
  have hown : s.vm.findClass RX2 = some m.cls := findClass_of_methodNamed B.named
  have hlocks := B.notSynchronized
  have hin : meth.name = "<init>" := (name_of_methodNamed B.named B.method).1
  subst hsz
  have hD := hD0.self (sz := s.heap.size)
  generalize hAe : va_A [(h0, .inr (2, [.null, .int 0, .int 0, .int 0, .int 0]))] s.heap.size = A at hD ⊢
  have hA : ∀ q : Nat, s.heap.size ≤ q → A q := fun q h => by rw [← hAe]; exact Or.inr h
  have hS : va_S A s.heap s.heap [] := va_S.rf
  have hl := lv_entry ([.ref h0]) (n := 1) (Nat.le_of_ble_eq_true rfl)
  rw [lg_entry_eq]
  generalize (lg_sl ([.ref h0]) ++ List.replicate (1 - (lg_sl ([.ref h0])).length) Slot.unset).toArray = ls at hl ⊢
  have hl : lv_has ls 1 [(0, .ref h0)] := hl
  refine lv_aload_n hx hb dX2_init_0 rfl (lv_at hl 0 rfl) ?_
  refine W.objInit hx hb hown (hts (.methodLink RX2 3 objectInit) (by decide +kernel)) (hts (.instanceMethod objectInit) (by decide +kernel)) (hts (.code objectInit ⟨#[0xb1]⟩ 1 none) (by decide +kernel)) rfl (by rw [hml]; exact hl.1) rfl dX2_init_1 (Nat.le_of_ble_eq_true rfl) (Nat.le_of_ble_eq_true rfl) ?_
  refine W.eq (g2 := F0 m 4 ls []) rfl ?_
  refine lv_aload_n hx hb dX2_init_4 rfl (lv_at hl 0 rfl) ?_
  refine lv_bipush (v := 7) hx hb dX2_init_5 (by decide) ?_
  refine va_newa (atype := .int) (ty := .int) (N' := 7) (a0 := (7, .inl (fun _ => 0))) hx hb (hts (.arrayClass .int) (by decide +kernel)) rfl hK hP hD hS hA (fun _ => rfl) (by decide) (by decide) (Nat.le_of_ble_eq_true rfl) (Nat.le_of_ble_eq_true rfl) (Nat.le_of_ble_eq_true rfl) dX2_init_7 (fun q1 cA H hK1 hP hD hS => ?_)
  obtain rfl : cA = cy 0 := cy_same hK hK1 0 rfl
  have hP : va_P (dC, dI) vwCl [(h0, .inr (2, [.null, .int 0, .int 0, .int 0, .int 0])), (q1, .inl (cy 0, 7, .inl (fun _ => 0)))] H := hP
  have hD : va_D A [(h0, .inr (2, [.null, .int 0, .int 0, .int 0, .int 0])), (q1, .inl (cy 0, 7, .inl (fun _ => 0)))] := hD
  refine va_putF (D := (dC, dI)) (ci := 2) (v := .ref q1) (ty := (.array .int)) (C := RX2) (T := TX2) (N := 5) hx hb hts in_X2_init_X2 tyX2 tyX2_ok nmX2 hown hK hP hD hS 0 rfl rfl 0 (by decide) (hts (Cond.fieldLink RX2 9 "UnlikeUnion$OwnPlan" "machineOf" "[I") (by decide +kernel)) (fun _ h9 => h9) rfl hin rfl (by decide +kernel) rfl rfl (Nat.le_of_ble_eq_true rfl) dX2_init_9 (fun H locs hP hD hS => ?_)
  have hP : va_P (dC, dI) vwCl [(h0, .inr (2, [.ref q1, .int 0, .int 0, .int 0, .int 0])), (q1, .inl (cy 0, 7, .inl (fun _ => 0)))] H := hP
  have hD : va_D A [(h0, .inr (2, [.ref q1, .int 0, .int 0, .int 0, .int 0])), (q1, .inl (cy 0, 7, .inl (fun _ => 0)))] := hD
  refine W.widen (k := 1) (n := 7) (by omega) (by omega) ?_
  exact W.vret hx hb hr (fun t ht hW => ⟨⟨q1, rfl, trivial, by rw [ht]; exact hP, va_K.moved hW.alike hK, by rw [hAe]; exact hD⟩, hS.F ht⟩) hS.2.2 dX2_init_12
-- ===== X3_init
theorem in_X3_init_X3 : ∀ w ∈ u_ws RX3 TX3 4, w ∈ wsX3_init := by decide +kernel
abbrev rmX3_init : Room := { frames := 1, cells := 3, slots := 17, locals := 40 }
set_option maxHeartbeats 4000000 in
set_option maxRecDepth 100000 in
theorem c_X3_init (l : Launch) (dC : Nat → ClassId) (dI : Nat → Nat → Nat) (cy : Nat → ClassId) (h0 : Nat) (sz : Nat) : Met l yX3_init wsX3_init rmX3_init (va_Pc [.ref h0] (cPre dC dI cy [(h0, .inr (3, [.null, .null, .null, .int 0]))] sz)) (va_Qv (fun (_ : Nat × Nat × Nat) => True) (fun (u : Nat × Nat × Nat) t => cPost dC dI cy [(h0, .inr (3, [.null, .null, .null, .int 0]))] sz [(h0, .inr (3, [.ref (u.1), .ref (u.2.1), .ref (u.2.2), .int 0])), ((u.1), .inl (cy 0, 3, .inl (fun _ => 0))), ((u.2.1), .inl (cy 0, 7, .inl (fun _ => 0))), ((u.2.2), .inl (cy 0, 7, .inl (fun _ => 0)))] t) (va_A [(h0, .inr (3, [.null, .null, .null, .int 0]))] sz)) 3 17 (va_A [(h0, .inr (3, [.null, .null, .null, .int 0]))] sz) := by
  refine Met.ofW (cc := cX3_init) (maxL := 1) (ret := none) (by decide) rfl ?_
  intro p e s m args below meth c s₁ B hml hv
  obtain ⟨rfl, hsz, hP, hK, hD0, hN⟩ := hv
  have hx := B.exec
  have hb := B.bytes
  have hr := B.returns
  have hts := atoms_spec (ws := wsX3_init) B.pre
  have hown : s.vm.findClass RX3 = some m.cls := findClass_of_methodNamed B.named
  have hlocks := B.notSynchronized
  have hin : meth.name = "<init>" := (name_of_methodNamed B.named B.method).1
  subst hsz
  have hD := hD0.self (sz := s.heap.size)
  generalize hAe : va_A [(h0, .inr (3, [.null, .null, .null, .int 0]))] s.heap.size = A at hD ⊢
  have hA : ∀ q : Nat, s.heap.size ≤ q → A q := fun q h => by rw [← hAe]; exact Or.inr h
  have hS : va_S A s.heap s.heap [] := va_S.rf
  have hl := lv_entry ([.ref h0]) (n := 1) (Nat.le_of_ble_eq_true rfl)
  rw [lg_entry_eq]
  generalize (lg_sl ([.ref h0]) ++ List.replicate (1 - (lg_sl ([.ref h0])).length) Slot.unset).toArray = ls at hl ⊢
  have hl : lv_has ls 1 [(0, .ref h0)] := hl
  refine lv_aload_n hx hb dX3_init_0 rfl (lv_at hl 0 rfl) ?_
  refine W.objInit hx hb hown (hts (.methodLink RX3 3 objectInit) (by decide +kernel)) (hts (.instanceMethod objectInit) (by decide +kernel)) (hts (.code objectInit ⟨#[0xb1]⟩ 1 none) (by decide +kernel)) rfl (by rw [hml]; exact hl.1) rfl dX3_init_1 (Nat.le_of_ble_eq_true rfl) (Nat.le_of_ble_eq_true rfl) ?_
  refine W.eq (g2 := F0 m 4 ls []) rfl ?_
  refine lv_aload_n hx hb dX3_init_4 rfl (lv_at hl 0 rfl) ?_
  refine lv_iconst (v := 3) hx hb dX3_init_5 (by decide) ?_
  refine va_newa (atype := .int) (ty := .int) (N' := 3) (a0 := (3, .inl (fun _ => 0))) hx hb (hts (.arrayClass .int) (by decide +kernel)) rfl hK hP hD hS hA (fun _ => rfl) (by decide) (by decide) (Nat.le_of_ble_eq_true rfl) (Nat.le_of_ble_eq_true rfl) (Nat.le_of_ble_eq_true rfl) dX3_init_6 (fun q1 cA H hK1 hP hD hS => ?_)
  obtain rfl : cA = cy 0 := cy_same hK hK1 0 rfl
  have hP : va_P (dC, dI) vwCl [(h0, .inr (3, [.null, .null, .null, .int 0])), (q1, .inl (cy 0, 3, .inl (fun _ => 0)))] H := hP
  have hD : va_D A [(h0, .inr (3, [.null, .null, .null, .int 0])), (q1, .inl (cy 0, 3, .inl (fun _ => 0)))] := hD
  refine va_putF (D := (dC, dI)) (ci := 3) (v := .ref q1) (ty := (.array .int)) (C := RX3) (T := TX3) (N := 4) hx hb hts in_X3_init_X3 tyX3 tyX3_ok nmX3 hown hK hP hD hS 0 rfl rfl 0 (by decide) (hts (Cond.fieldLink RX3 9 "UnlikeUnion$PlanSearch" "loads" "[I") (by decide +kernel)) (fun _ h9 => h9) rfl hin rfl (by decide +kernel) rfl rfl (Nat.le_of_ble_eq_true rfl) dX3_init_8 (fun H locs hP hD hS => ?_)
  have hP : va_P (dC, dI) vwCl [(h0, .inr (3, [.ref q1, .null, .null, .int 0])), (q1, .inl (cy 0, 3, .inl (fun _ => 0)))] H := hP
  have hD : va_D A [(h0, .inr (3, [.ref q1, .null, .null, .int 0])), (q1, .inl (cy 0, 3, .inl (fun _ => 0)))] := hD
  refine lv_aload_n hx hb dX3_init_11 rfl (lv_at hl 0 rfl) ?_
  refine lv_bipush (v := 7) hx hb dX3_init_12 (by decide) ?_
  refine va_newa (atype := .int) (ty := .int) (N' := 7) (a0 := (7, .inl (fun _ => 0))) hx hb (hts (.arrayClass .int) (by decide +kernel)) rfl hK hP hD hS hA (fun _ => rfl) (by decide) (by decide) (Nat.le_of_ble_eq_true rfl) (Nat.le_of_ble_eq_true rfl) (Nat.le_of_ble_eq_true rfl) dX3_init_14 (fun q2 cA H hK1 hP hD hS => ?_)
  obtain rfl : cA = cy 0 := cy_same hK hK1 0 rfl
  have hP : va_P (dC, dI) vwCl [(h0, .inr (3, [.ref q1, .null, .null, .int 0])), (q1, .inl (cy 0, 3, .inl (fun _ => 0))), (q2, .inl (cy 0, 7, .inl (fun _ => 0)))] H := hP
  have hD : va_D A [(h0, .inr (3, [.ref q1, .null, .null, .int 0])), (q1, .inl (cy 0, 3, .inl (fun _ => 0))), (q2, .inl (cy 0, 7, .inl (fun _ => 0)))] := hD
  refine va_putF (D := (dC, dI)) (ci := 3) (v := .ref q2) (ty := (.array .int)) (C := RX3) (T := TX3) (N := 4) hx hb hts in_X3_init_X3 tyX3 tyX3_ok nmX3 hown hK hP hD hS 0 rfl rfl 1 (by decide) (hts (Cond.fieldLink RX3 15 "UnlikeUnion$PlanSearch" "chosen" "[I") (by decide +kernel)) (fun _ h9 => h9) rfl hin rfl (by decide +kernel) rfl rfl (Nat.le_of_ble_eq_true rfl) dX3_init_16 (fun H locs hP hD hS => ?_)
  have hP : va_P (dC, dI) vwCl [(h0, .inr (3, [.ref q1, .ref q2, .null, .int 0])), (q1, .inl (cy 0, 3, .inl (fun _ => 0))), (q2, .inl (cy 0, 7, .inl (fun _ => 0)))] H := hP
  have hD : va_D A [(h0, .inr (3, [.ref q1, .ref q2, .null, .int 0])), (q1, .inl (cy 0, 3, .inl (fun _ => 0))), (q2, .inl (cy 0, 7, .inl (fun _ => 0)))] := hD
  refine lv_aload_n hx hb dX3_init_19 rfl (lv_at hl 0 rfl) ?_
  refine lv_bipush (v := 7) hx hb dX3_init_20 (by decide) ?_
  refine va_newa (atype := .int) (ty := .int) (N' := 7) (a0 := (7, .inl (fun _ => 0))) hx hb (hts (.arrayClass .int) (by decide +kernel)) rfl hK hP hD hS hA (fun _ => rfl) (by decide) (by decide) (Nat.le_of_ble_eq_true rfl) (Nat.le_of_ble_eq_true rfl) (Nat.le_of_ble_eq_true rfl) dX3_init_22 (fun q3 cA H hK1 hP hD hS => ?_)
  obtain rfl : cA = cy 0 := cy_same hK hK1 0 rfl
  have hP : va_P (dC, dI) vwCl [(h0, .inr (3, [.ref q1, .ref q2, .null, .int 0])), (q1, .inl (cy 0, 3, .inl (fun _ => 0))), (q2, .inl (cy 0, 7, .inl (fun _ => 0))), (q3, .inl (cy 0, 7, .inl (fun _ => 0)))] H := hP
  have hD : va_D A [(h0, .inr (3, [.ref q1, .ref q2, .null, .int 0])), (q1, .inl (cy 0, 3, .inl (fun _ => 0))), (q2, .inl (cy 0, 7, .inl (fun _ => 0))), (q3, .inl (cy 0, 7, .inl (fun _ => 0)))] := hD
  refine va_putF (D := (dC, dI)) (ci := 3) (v := .ref q3) (ty := (.array .int)) (C := RX3) (T := TX3) (N := 4) hx hb hts in_X3_init_X3 tyX3 tyX3_ok nmX3 hown hK hP hD hS 0 rfl rfl 2 (by decide) (hts (Cond.fieldLink RX3 18 "UnlikeUnion$PlanSearch" "best" "[I") (by decide +kernel)) (fun _ h9 => h9) rfl hin rfl (by decide +kernel) rfl rfl (Nat.le_of_ble_eq_true rfl) dX3_init_24 (fun H locs hP hD hS => ?_)
  have hP : va_P (dC, dI) vwCl [(h0, .inr (3, [.ref q1, .ref q2, .ref q3, .int 0])), (q1, .inl (cy 0, 3, .inl (fun _ => 0))), (q2, .inl (cy 0, 7, .inl (fun _ => 0))), (q3, .inl (cy 0, 7, .inl (fun _ => 0)))] H := hP
  have hD : va_D A [(h0, .inr (3, [.ref q1, .ref q2, .ref q3, .int 0])), (q1, .inl (cy 0, 3, .inl (fun _ => 0))), (q2, .inl (cy 0, 7, .inl (fun _ => 0))), (q3, .inl (cy 0, 7, .inl (fun _ => 0)))] := hD
  refine W.widen (k := 3) (n := 17) (by omega) (by omega) ?_
  exact W.vret hx hb hr (fun t ht hW => ⟨⟨(q1, q2, q3), rfl, trivial, by rw [ht]; exact hP, va_K.moved hW.alike hK, by rw [hAe]; exact hD⟩, hS.F ht⟩) hS.2.2 dX3_init_27
-- ===== X4_init
theorem in_X4_init_X4 : ∀ w ∈ u_ws RX4 TX4 1, w ∈ wsX4_init := by decide +kernel
abbrev rmX4_init : Room := { frames := 1, cells := 1, slots := 7, locals := 40 }
set_option maxHeartbeats 4000000 in
set_option maxRecDepth 100000 in
theorem c_X4_init (l : Launch) (dC : Nat → ClassId) (dI : Nat → Nat → Nat) (cy : Nat → ClassId) (h0 : Nat) (sz : Nat) : Met l yX4_init wsX4_init rmX4_init (va_Pc [.ref h0] (cPre dC dI cy [(h0, .inr (4, [.null]))] sz)) (va_Qv (fun (_ : Nat) => True) (fun (u : Nat) t => cPost dC dI cy [(h0, .inr (4, [.null]))] sz [(h0, .inr (4, [.ref u])), (u, .inl (cy 0, 7, .inl (fun _ => 0)))] t) (va_A [(h0, .inr (4, [.null]))] sz)) 1 7 (va_A [(h0, .inr (4, [.null]))] sz) := by
  refine Met.ofW (cc := cX4_init) (maxL := 1) (ret := none) (by decide) rfl ?_
  intro p e s m args below meth c s₁ B hml hv
  obtain ⟨rfl, hsz, hP, hK, hD0, hN⟩ := hv
  have hx := B.exec
  have hb := B.bytes
  have hr := B.returns
  have hts := atoms_spec (ws := wsX4_init) B.pre
  have hown : s.vm.findClass RX4 = some m.cls := findClass_of_methodNamed B.named
  have hlocks := B.notSynchronized
  have hin : meth.name = "<init>" := (name_of_methodNamed B.named B.method).1
  subst hsz
  have hD := hD0.self (sz := s.heap.size)
  generalize hAe : va_A [(h0, .inr (4, [.null]))] s.heap.size = A at hD ⊢
  have hA : ∀ q : Nat, s.heap.size ≤ q → A q := fun q h => by rw [← hAe]; exact Or.inr h
  have hS : va_S A s.heap s.heap [] := va_S.rf
  have hl := lv_entry ([.ref h0]) (n := 1) (Nat.le_of_ble_eq_true rfl)
  rw [lg_entry_eq]
  generalize (lg_sl ([.ref h0]) ++ List.replicate (1 - (lg_sl ([.ref h0])).length) Slot.unset).toArray = ls at hl ⊢
  have hl : lv_has ls 1 [(0, .ref h0)] := hl
  refine lv_aload_n hx hb dX4_init_0 rfl (lv_at hl 0 rfl) ?_
  refine W.objInit hx hb hown (hts (.methodLink RX4 3 objectInit) (by decide +kernel)) (hts (.instanceMethod objectInit) (by decide +kernel)) (hts (.code objectInit ⟨#[0xb1]⟩ 1 none) (by decide +kernel)) rfl (by rw [hml]; exact hl.1) rfl dX4_init_1 (Nat.le_of_ble_eq_true rfl) (Nat.le_of_ble_eq_true rfl) ?_
  refine W.eq (g2 := F0 m 4 ls []) rfl ?_
  refine lv_aload_n hx hb dX4_init_4 rfl (lv_at hl 0 rfl) ?_
  refine lv_bipush (v := 7) hx hb dX4_init_5 (by decide) ?_
  refine va_newa (atype := .int) (ty := .int) (N' := 7) (a0 := (7, .inl (fun _ => 0))) hx hb (hts (.arrayClass .int) (by decide +kernel)) rfl hK hP hD hS hA (fun _ => rfl) (by decide) (by decide) (Nat.le_of_ble_eq_true rfl) (Nat.le_of_ble_eq_true rfl) (Nat.le_of_ble_eq_true rfl) dX4_init_7 (fun q1 cA H hK1 hP hD hS => ?_)
  obtain rfl : cA = cy 0 := cy_same hK hK1 0 rfl
  have hP : va_P (dC, dI) vwCl [(h0, .inr (4, [.null])), (q1, .inl (cy 0, 7, .inl (fun _ => 0)))] H := hP
  have hD : va_D A [(h0, .inr (4, [.null])), (q1, .inl (cy 0, 7, .inl (fun _ => 0)))] := hD
  refine va_putF (D := (dC, dI)) (ci := 4) (v := .ref q1) (ty := (.array .int)) (C := RX4) (T := TX4) (N := 1) hx hb hts in_X4_init_X4 tyX4 tyX4_ok nmX4 hown hK hP hD hS 0 rfl rfl 0 (by decide) (hts (Cond.fieldLink RX4 9 "UnlikeUnion$Rounding" "machineOf" "[I") (by decide +kernel)) (fun _ h9 => h9) rfl hin rfl (by decide +kernel) rfl rfl (Nat.le_of_ble_eq_true rfl) dX4_init_9 (fun H locs hP hD hS => ?_)
  have hP : va_P (dC, dI) vwCl [(h0, .inr (4, [.ref q1])), (q1, .inl (cy 0, 7, .inl (fun _ => 0)))] H := hP
  have hD : va_D A [(h0, .inr (4, [.ref q1])), (q1, .inl (cy 0, 7, .inl (fun _ => 0)))] := hD
  refine W.widen (k := 1) (n := 7) (by omega) (by omega) ?_
  exact W.vret hx hb hr (fun t ht hW => ⟨⟨q1, rfl, trivial, by rw [ht]; exact hP, va_K.moved hW.alike hK, by rw [hAe]; exact hD⟩, hS.F ht⟩) hS.2.2 dX4_init_12
-- ===== X5_init
theorem in_X5_init_X5 : ∀ w ∈ u_ws RX5 TX5 5, w ∈ wsX5_init := by decide +kernel
abbrev rmX5_init : Room := { frames := 1, cells := 13, slots := 305, locals := 40 }
set_option maxHeartbeats 4000000 in
set_option maxRecDepth 100000 in
theorem c_X5_init (l : Launch) (dC : Nat → ClassId) (dI : Nat → Nat → Nat) (cy : Nat → ClassId) (h0 : Nat) (sz : Nat) : Met l yX5_init wsX5_init rmX5_init (va_Pc [.ref h0] (cPre dC dI cy [(h0, .inr (5, [.null, .null, .null, .int 0, .long 0]))] sz)) (va_Qv (fun (_ : Nat × (Nat → Nat) × Nat × Nat) => True) (fun (u : Nat × (Nat → Nat) × Nat × Nat) t => cPost dC dI cy [(h0, .inr (5, [.null, .null, .null, .int 0, .long 0]))] sz [(h0, .inr (5, [.ref (u.1), .ref (u.2.2.1), .ref (u.2.2.2), .int 0, .long 0])), ((u.1), .inl (cy 3, 10, .inr (.inr (.inr (.inr (fun i => some ((u.2.1) i))))))), ((u.2.1) 0, .inl (cy 1, 26, .inr (.inl (fun _ => 0)))), ((u.2.1) 1, .inl (cy 1, 26, .inr (.inl (fun _ => 0)))), ((u.2.1) 2, .inl (cy 1, 26, .inr (.inl (fun _ => 0)))), ((u.2.1) 3, .inl (cy 1, 26, .inr (.inl (fun _ => 0)))), ((u.2.1) 4, .inl (cy 1, 26, .inr (.inl (fun _ => 0)))), ((u.2.1) 5, .inl (cy 1, 26, .inr (.inl (fun _ => 0)))), ((u.2.1) 6, .inl (cy 1, 26, .inr (.inl (fun _ => 0)))), ((u.2.1) 7, .inl (cy 1, 26, .inr (.inl (fun _ => 0)))), ((u.2.1) 8, .inl (cy 1, 26, .inr (.inl (fun _ => 0)))), ((u.2.1) 9, .inl (cy 1, 26, .inr (.inl (fun _ => 0)))), ((u.2.2.1), .inl (cy 0, 10, .inl (fun _ => 0))), ((u.2.2.2), .inl (cy 2, 25, .inl (fun _ => 0)))] t) (va_A [(h0, .inr (5, [.null, .null, .null, .int 0, .long 0]))] sz)) 13 305 (va_A [(h0, .inr (5, [.null, .null, .null, .int 0, .long 0]))] sz) := by
  refine Met.ofW (cc := cX5_init) (maxL := 1) (ret := none) (by decide) rfl ?_
  intro p e s m args below meth c s₁ B hml hv
  obtain ⟨rfl, hsz, hP, hK, hD0, hN⟩ := hv
  have hx := B.exec
  have hb := B.bytes
  have hr := B.returns
  have hts := atoms_spec (ws := wsX5_init) B.pre
  have hown : s.vm.findClass RX5 = some m.cls := findClass_of_methodNamed B.named
  have hlocks := B.notSynchronized
  have hin : meth.name = "<init>" := (name_of_methodNamed B.named B.method).1
  subst hsz
  have hD := hD0.self (sz := s.heap.size)
  generalize hAe : va_A [(h0, .inr (5, [.null, .null, .null, .int 0, .long 0]))] s.heap.size = A at hD ⊢
  have hA : ∀ q : Nat, s.heap.size ≤ q → A q := fun q h => by rw [← hAe]; exact Or.inr h
  have hS : va_S A s.heap s.heap [] := va_S.rf
  have hl := lv_entry ([.ref h0]) (n := 1) (Nat.le_of_ble_eq_true rfl)
  rw [lg_entry_eq]
  generalize (lg_sl ([.ref h0]) ++ List.replicate (1 - (lg_sl ([.ref h0])).length) Slot.unset).toArray = ls at hl ⊢
  have hl : lv_has ls 1 [(0, .ref h0)] := hl
  refine lv_aload_n hx hb dX5_init_0 rfl (lv_at hl 0 rfl) ?_
  refine W.objInit hx hb hown (hts (.methodLink RX5 5 objectInit) (by decide +kernel)) (hts (.instanceMethod objectInit) (by decide +kernel)) (hts (.code objectInit ⟨#[0xb1]⟩ 1 none) (by decide +kernel)) rfl (by rw [hml]; exact hl.1) rfl dX5_init_1 (Nat.le_of_ble_eq_true rfl) (Nat.le_of_ble_eq_true rfl) ?_
  refine W.eq (g2 := F0 m 4 ls []) rfl ?_
  refine lv_aload_n hx hb dX5_init_4 rfl (lv_at hl 0 rfl) ?_
  refine lv_bipush (v := 10) hx hb dX5_init_5 (by decide) ?_
  refine lv_bipush (v := 26) hx hb dX5_init_7 (by decide) ?_
  have hP : va_P (dC, dI) vwCl ([(h0, .inr (5, [.null, .null, .null, .int 0, .long 0]))] ++ va_pl [] (fun _ => .inl (cy 1, 26, .inr (.inl (fun _ => 0))))) s.heap := hP
  have hD : va_D A ([(h0, .inr (5, [.null, .null, .null, .int 0, .long 0]))] ++ va_pl [] (fun _ => .inl (cy 1, 26, .inr (.inl (fun _ => 0))))) := hD
  refine va_mna (n := 10) (k := 26) (ty := .long) (cy := cy 1) (N' := 10) (K' := 26) (z := (26, .inr (.inl (fun _ => 0)))) hx hb hown (hts (.classLink RX5 11 ("[" ++ (FieldType.array .long).toString)) (by decide +kernel)) (nw_AO hN) (hts (.arrayClass .long) (by decide +kernel)) (hK.2 1 _ rfl).2 hK hP hD hS hA (by decide) (by decide) (by decide) (by decide) (Nat.le_of_ble_eq_true rfl) (Nat.le_of_ble_eq_true rfl) (Nat.le_of_ble_eq_true rfl) rfl rfl (Nat.le_of_ble_eq_true rfl) (Nat.le_of_ble_eq_true rfl) (fun _ => ic_0) dX5_init_9 (fun q1 r cA H hrinj hrL hK1 hP hD hS => ?_)
  obtain rfl : cA = cy 3 := cy_same hK hK1 3 rfl
  obtain ⟨hP, hD⟩ := mna_rows (X := [(h0, .inr (5, [.null, .null, .null, .int 0, .long 0]))]) hP hD
  have hP : va_P (dC, dI) vwCl [(h0, .inr (5, [.null, .null, .null, .int 0, .long 0])), (q1, .inl (cy 3, 10, .inr (.inr (.inr (.inr (fun i => some (r i))))))), (r 0, .inl (cy 1, 26, .inr (.inl (fun _ => 0)))), (r 1, .inl (cy 1, 26, .inr (.inl (fun _ => 0)))), (r 2, .inl (cy 1, 26, .inr (.inl (fun _ => 0)))), (r 3, .inl (cy 1, 26, .inr (.inl (fun _ => 0)))), (r 4, .inl (cy 1, 26, .inr (.inl (fun _ => 0)))), (r 5, .inl (cy 1, 26, .inr (.inl (fun _ => 0)))), (r 6, .inl (cy 1, 26, .inr (.inl (fun _ => 0)))), (r 7, .inl (cy 1, 26, .inr (.inl (fun _ => 0)))), (r 8, .inl (cy 1, 26, .inr (.inl (fun _ => 0)))), (r 9, .inl (cy 1, 26, .inr (.inl (fun _ => 0))))] H := hP
  have hD : va_D A [(h0, .inr (5, [.null, .null, .null, .int 0, .long 0])), (q1, .inl (cy 3, 10, .inr (.inr (.inr (.inr (fun i => some (r i))))))), (r 0, .inl (cy 1, 26, .inr (.inl (fun _ => 0)))), (r 1, .inl (cy 1, 26, .inr (.inl (fun _ => 0)))), (r 2, .inl (cy 1, 26, .inr (.inl (fun _ => 0)))), (r 3, .inl (cy 1, 26, .inr (.inl (fun _ => 0)))), (r 4, .inl (cy 1, 26, .inr (.inl (fun _ => 0)))), (r 5, .inl (cy 1, 26, .inr (.inl (fun _ => 0)))), (r 6, .inl (cy 1, 26, .inr (.inl (fun _ => 0)))), (r 7, .inl (cy 1, 26, .inr (.inl (fun _ => 0)))), (r 8, .inl (cy 1, 26, .inr (.inl (fun _ => 0)))), (r 9, .inl (cy 1, 26, .inr (.inl (fun _ => 0))))] := hD
  refine va_putF (D := (dC, dI)) (ci := 5) (v := .ref q1) (ty := (.array (.array .long))) (C := RX5) (T := TX5) (N := 5) hx hb hts in_X5_init_X5 tyX5 tyX5_ok nmX5 hown hK hP hD hS 0 rfl rfl 0 (by decide) (hts (Cond.fieldLink RX5 13 "UnlikeUnion$Tableau" "cells" "[[J") (by decide +kernel)) (fun _ h9 => h9) rfl hin rfl (by decide +kernel) rfl rfl (Nat.le_of_ble_eq_true rfl) dX5_init_13 (fun H locs hP hD hS => ?_)
  have hP : va_P (dC, dI) vwCl [(h0, .inr (5, [.ref q1, .null, .null, .int 0, .long 0])), (q1, .inl (cy 3, 10, .inr (.inr (.inr (.inr (fun i => some (r i))))))), (r 0, .inl (cy 1, 26, .inr (.inl (fun _ => 0)))), (r 1, .inl (cy 1, 26, .inr (.inl (fun _ => 0)))), (r 2, .inl (cy 1, 26, .inr (.inl (fun _ => 0)))), (r 3, .inl (cy 1, 26, .inr (.inl (fun _ => 0)))), (r 4, .inl (cy 1, 26, .inr (.inl (fun _ => 0)))), (r 5, .inl (cy 1, 26, .inr (.inl (fun _ => 0)))), (r 6, .inl (cy 1, 26, .inr (.inl (fun _ => 0)))), (r 7, .inl (cy 1, 26, .inr (.inl (fun _ => 0)))), (r 8, .inl (cy 1, 26, .inr (.inl (fun _ => 0)))), (r 9, .inl (cy 1, 26, .inr (.inl (fun _ => 0))))] H := hP
  have hD : va_D A [(h0, .inr (5, [.ref q1, .null, .null, .int 0, .long 0])), (q1, .inl (cy 3, 10, .inr (.inr (.inr (.inr (fun i => some (r i))))))), (r 0, .inl (cy 1, 26, .inr (.inl (fun _ => 0)))), (r 1, .inl (cy 1, 26, .inr (.inl (fun _ => 0)))), (r 2, .inl (cy 1, 26, .inr (.inl (fun _ => 0)))), (r 3, .inl (cy 1, 26, .inr (.inl (fun _ => 0)))), (r 4, .inl (cy 1, 26, .inr (.inl (fun _ => 0)))), (r 5, .inl (cy 1, 26, .inr (.inl (fun _ => 0)))), (r 6, .inl (cy 1, 26, .inr (.inl (fun _ => 0)))), (r 7, .inl (cy 1, 26, .inr (.inl (fun _ => 0)))), (r 8, .inl (cy 1, 26, .inr (.inl (fun _ => 0)))), (r 9, .inl (cy 1, 26, .inr (.inl (fun _ => 0))))] := hD
  refine lv_aload_n hx hb dX5_init_16 rfl (lv_at hl 0 rfl) ?_
  refine lv_bipush (v := 10) hx hb dX5_init_17 (by decide) ?_
  refine va_newa (atype := .int) (ty := .int) (N' := 10) (a0 := (10, .inl (fun _ => 0))) hx hb (hts (.arrayClass .int) (by decide +kernel)) rfl hK hP hD hS hA (fun _ => rfl) (by decide) (by decide) (Nat.le_of_ble_eq_true rfl) (Nat.le_of_ble_eq_true rfl) (Nat.le_of_ble_eq_true rfl) dX5_init_19 (fun q2 cA H hK1 hP hD hS => ?_)
  obtain rfl : cA = cy 0 := cy_same hK hK1 0 rfl
  have hP : va_P (dC, dI) vwCl [(h0, .inr (5, [.ref q1, .null, .null, .int 0, .long 0])), (q1, .inl (cy 3, 10, .inr (.inr (.inr (.inr (fun i => some (r i))))))), (r 0, .inl (cy 1, 26, .inr (.inl (fun _ => 0)))), (r 1, .inl (cy 1, 26, .inr (.inl (fun _ => 0)))), (r 2, .inl (cy 1, 26, .inr (.inl (fun _ => 0)))), (r 3, .inl (cy 1, 26, .inr (.inl (fun _ => 0)))), (r 4, .inl (cy 1, 26, .inr (.inl (fun _ => 0)))), (r 5, .inl (cy 1, 26, .inr (.inl (fun _ => 0)))), (r 6, .inl (cy 1, 26, .inr (.inl (fun _ => 0)))), (r 7, .inl (cy 1, 26, .inr (.inl (fun _ => 0)))), (r 8, .inl (cy 1, 26, .inr (.inl (fun _ => 0)))), (r 9, .inl (cy 1, 26, .inr (.inl (fun _ => 0)))), (q2, .inl (cy 0, 10, .inl (fun _ => 0)))] H := hP
  have hD : va_D A [(h0, .inr (5, [.ref q1, .null, .null, .int 0, .long 0])), (q1, .inl (cy 3, 10, .inr (.inr (.inr (.inr (fun i => some (r i))))))), (r 0, .inl (cy 1, 26, .inr (.inl (fun _ => 0)))), (r 1, .inl (cy 1, 26, .inr (.inl (fun _ => 0)))), (r 2, .inl (cy 1, 26, .inr (.inl (fun _ => 0)))), (r 3, .inl (cy 1, 26, .inr (.inl (fun _ => 0)))), (r 4, .inl (cy 1, 26, .inr (.inl (fun _ => 0)))), (r 5, .inl (cy 1, 26, .inr (.inl (fun _ => 0)))), (r 6, .inl (cy 1, 26, .inr (.inl (fun _ => 0)))), (r 7, .inl (cy 1, 26, .inr (.inl (fun _ => 0)))), (r 8, .inl (cy 1, 26, .inr (.inl (fun _ => 0)))), (r 9, .inl (cy 1, 26, .inr (.inl (fun _ => 0)))), (q2, .inl (cy 0, 10, .inl (fun _ => 0)))] := hD
  refine va_putF (D := (dC, dI)) (ci := 5) (v := .ref q2) (ty := (.array .int)) (C := RX5) (T := TX5) (N := 5) hx hb hts in_X5_init_X5 tyX5 tyX5_ok nmX5 hown hK hP hD hS 0 rfl rfl 1 (by decide) (hts (Cond.fieldLink RX5 16 "UnlikeUnion$Tableau" "basic" "[I") (by decide +kernel)) (fun _ h9 => h9) rfl hin rfl (by decide +kernel) rfl rfl (Nat.le_of_ble_eq_true rfl) dX5_init_21 (fun H locs hP hD hS => ?_)
  have hP : va_P (dC, dI) vwCl [(h0, .inr (5, [.ref q1, .ref q2, .null, .int 0, .long 0])), (q1, .inl (cy 3, 10, .inr (.inr (.inr (.inr (fun i => some (r i))))))), (r 0, .inl (cy 1, 26, .inr (.inl (fun _ => 0)))), (r 1, .inl (cy 1, 26, .inr (.inl (fun _ => 0)))), (r 2, .inl (cy 1, 26, .inr (.inl (fun _ => 0)))), (r 3, .inl (cy 1, 26, .inr (.inl (fun _ => 0)))), (r 4, .inl (cy 1, 26, .inr (.inl (fun _ => 0)))), (r 5, .inl (cy 1, 26, .inr (.inl (fun _ => 0)))), (r 6, .inl (cy 1, 26, .inr (.inl (fun _ => 0)))), (r 7, .inl (cy 1, 26, .inr (.inl (fun _ => 0)))), (r 8, .inl (cy 1, 26, .inr (.inl (fun _ => 0)))), (r 9, .inl (cy 1, 26, .inr (.inl (fun _ => 0)))), (q2, .inl (cy 0, 10, .inl (fun _ => 0)))] H := hP
  have hD : va_D A [(h0, .inr (5, [.ref q1, .ref q2, .null, .int 0, .long 0])), (q1, .inl (cy 3, 10, .inr (.inr (.inr (.inr (fun i => some (r i))))))), (r 0, .inl (cy 1, 26, .inr (.inl (fun _ => 0)))), (r 1, .inl (cy 1, 26, .inr (.inl (fun _ => 0)))), (r 2, .inl (cy 1, 26, .inr (.inl (fun _ => 0)))), (r 3, .inl (cy 1, 26, .inr (.inl (fun _ => 0)))), (r 4, .inl (cy 1, 26, .inr (.inl (fun _ => 0)))), (r 5, .inl (cy 1, 26, .inr (.inl (fun _ => 0)))), (r 6, .inl (cy 1, 26, .inr (.inl (fun _ => 0)))), (r 7, .inl (cy 1, 26, .inr (.inl (fun _ => 0)))), (r 8, .inl (cy 1, 26, .inr (.inl (fun _ => 0)))), (r 9, .inl (cy 1, 26, .inr (.inl (fun _ => 0)))), (q2, .inl (cy 0, 10, .inl (fun _ => 0)))] := hD
  refine lv_aload_n hx hb dX5_init_24 rfl (lv_at hl 0 rfl) ?_
  refine lv_bipush (v := 25) hx hb dX5_init_25 (by decide) ?_
  refine va_newa (atype := .boolean) (ty := .boolean) (N' := 25) (a0 := (25, .inl (fun _ => 0))) hx hb (hts (.arrayClass .boolean) (by decide +kernel)) rfl hK hP hD hS hA (fun _ => rfl) (by decide) (by decide) (Nat.le_of_ble_eq_true rfl) (Nat.le_of_ble_eq_true rfl) (Nat.le_of_ble_eq_true rfl) dX5_init_27 (fun q3 cA H hK1 hP hD hS => ?_)
  obtain rfl : cA = cy 2 := cy_same hK hK1 2 rfl
  have hP : va_P (dC, dI) vwCl [(h0, .inr (5, [.ref q1, .ref q2, .null, .int 0, .long 0])), (q1, .inl (cy 3, 10, .inr (.inr (.inr (.inr (fun i => some (r i))))))), (r 0, .inl (cy 1, 26, .inr (.inl (fun _ => 0)))), (r 1, .inl (cy 1, 26, .inr (.inl (fun _ => 0)))), (r 2, .inl (cy 1, 26, .inr (.inl (fun _ => 0)))), (r 3, .inl (cy 1, 26, .inr (.inl (fun _ => 0)))), (r 4, .inl (cy 1, 26, .inr (.inl (fun _ => 0)))), (r 5, .inl (cy 1, 26, .inr (.inl (fun _ => 0)))), (r 6, .inl (cy 1, 26, .inr (.inl (fun _ => 0)))), (r 7, .inl (cy 1, 26, .inr (.inl (fun _ => 0)))), (r 8, .inl (cy 1, 26, .inr (.inl (fun _ => 0)))), (r 9, .inl (cy 1, 26, .inr (.inl (fun _ => 0)))), (q2, .inl (cy 0, 10, .inl (fun _ => 0))), (q3, .inl (cy 2, 25, .inl (fun _ => 0)))] H := hP
  have hD : va_D A [(h0, .inr (5, [.ref q1, .ref q2, .null, .int 0, .long 0])), (q1, .inl (cy 3, 10, .inr (.inr (.inr (.inr (fun i => some (r i))))))), (r 0, .inl (cy 1, 26, .inr (.inl (fun _ => 0)))), (r 1, .inl (cy 1, 26, .inr (.inl (fun _ => 0)))), (r 2, .inl (cy 1, 26, .inr (.inl (fun _ => 0)))), (r 3, .inl (cy 1, 26, .inr (.inl (fun _ => 0)))), (r 4, .inl (cy 1, 26, .inr (.inl (fun _ => 0)))), (r 5, .inl (cy 1, 26, .inr (.inl (fun _ => 0)))), (r 6, .inl (cy 1, 26, .inr (.inl (fun _ => 0)))), (r 7, .inl (cy 1, 26, .inr (.inl (fun _ => 0)))), (r 8, .inl (cy 1, 26, .inr (.inl (fun _ => 0)))), (r 9, .inl (cy 1, 26, .inr (.inl (fun _ => 0)))), (q2, .inl (cy 0, 10, .inl (fun _ => 0))), (q3, .inl (cy 2, 25, .inl (fun _ => 0)))] := hD
  refine va_putF (D := (dC, dI)) (ci := 5) (v := .ref q3) (ty := (.array .boolean)) (C := RX5) (T := TX5) (N := 5) hx hb hts in_X5_init_X5 tyX5 tyX5_ok nmX5 hown hK hP hD hS 0 rfl rfl 2 (by decide) (hts (Cond.fieldLink RX5 20 "UnlikeUnion$Tableau" "allowed" "[Z") (by decide +kernel)) (fun _ h9 => h9) rfl hin rfl (by decide +kernel) rfl rfl (Nat.le_of_ble_eq_true rfl) dX5_init_29 (fun H locs hP hD hS => ?_)
  have hP : va_P (dC, dI) vwCl [(h0, .inr (5, [.ref q1, .ref q2, .ref q3, .int 0, .long 0])), (q1, .inl (cy 3, 10, .inr (.inr (.inr (.inr (fun i => some (r i))))))), (r 0, .inl (cy 1, 26, .inr (.inl (fun _ => 0)))), (r 1, .inl (cy 1, 26, .inr (.inl (fun _ => 0)))), (r 2, .inl (cy 1, 26, .inr (.inl (fun _ => 0)))), (r 3, .inl (cy 1, 26, .inr (.inl (fun _ => 0)))), (r 4, .inl (cy 1, 26, .inr (.inl (fun _ => 0)))), (r 5, .inl (cy 1, 26, .inr (.inl (fun _ => 0)))), (r 6, .inl (cy 1, 26, .inr (.inl (fun _ => 0)))), (r 7, .inl (cy 1, 26, .inr (.inl (fun _ => 0)))), (r 8, .inl (cy 1, 26, .inr (.inl (fun _ => 0)))), (r 9, .inl (cy 1, 26, .inr (.inl (fun _ => 0)))), (q2, .inl (cy 0, 10, .inl (fun _ => 0))), (q3, .inl (cy 2, 25, .inl (fun _ => 0)))] H := hP
  have hD : va_D A [(h0, .inr (5, [.ref q1, .ref q2, .ref q3, .int 0, .long 0])), (q1, .inl (cy 3, 10, .inr (.inr (.inr (.inr (fun i => some (r i))))))), (r 0, .inl (cy 1, 26, .inr (.inl (fun _ => 0)))), (r 1, .inl (cy 1, 26, .inr (.inl (fun _ => 0)))), (r 2, .inl (cy 1, 26, .inr (.inl (fun _ => 0)))), (r 3, .inl (cy 1, 26, .inr (.inl (fun _ => 0)))), (r 4, .inl (cy 1, 26, .inr (.inl (fun _ => 0)))), (r 5, .inl (cy 1, 26, .inr (.inl (fun _ => 0)))), (r 6, .inl (cy 1, 26, .inr (.inl (fun _ => 0)))), (r 7, .inl (cy 1, 26, .inr (.inl (fun _ => 0)))), (r 8, .inl (cy 1, 26, .inr (.inl (fun _ => 0)))), (r 9, .inl (cy 1, 26, .inr (.inl (fun _ => 0)))), (q2, .inl (cy 0, 10, .inl (fun _ => 0))), (q3, .inl (cy 2, 25, .inl (fun _ => 0)))] := hD
  refine W.widen (k := 13) (n := 305) (by omega) (by omega) ?_
  exact W.vret hx hb hr (fun t ht hW => ⟨⟨(q1, r, q2, q3), rfl, trivial, by rw [ht]; exact hP, va_K.moved hW.alike hK, by rw [hAe]; exact hD⟩, hS.F ht⟩) hS.2.2 dX5_init_32
-- ===== X0_init
theorem in_X0_init_X0 : ∀ w ∈ u_ws RX0 TX0 6, w ∈ wsX0_init := by decide +kernel
theorem in_X0_init_X5 : ∀ w ∈ u_ws RX5 TX5 5, w ∈ wsX0_init := by decide +kernel
abbrev rmX0_init : Room := { frames := 2, cells := 16, slots := 352, locals := 100 }
set_option maxHeartbeats 4000000 in
set_option maxRecDepth 100000 in
theorem c_X0_init (l : Launch) (dC : Nat → ClassId) (dI : Nat → Nat → Nat) (cy : Nat → ClassId) (h0 : Nat) (sz : Nat) : Met l yX0_init wsX0_init rmX0_init (va_Pc [.ref h0] (cPre dC dI cy [(h0, .inr (0, [.null, .null, .null, .int 0, .int 0, .int 0]))] sz)) (va_Qv (fun (_ : Nat × Nat × (Nat → Nat) × Nat × Nat × Nat × Nat) => True) (fun (u : Nat × Nat × (Nat → Nat) × Nat × Nat × Nat × Nat) t => cPost dC dI cy [(h0, .inr (0, [.null, .null, .null, .int 0, .int 0, .int 0]))] sz [(h0, .inr (0, [.ref (u.1), .ref (u.2.2.2.2.2.1), .ref (u.2.2.2.2.2.2), .int 0, .int 0, .int 0])), ((u.1), .inr (5, [.ref (u.2.1), .ref (u.2.2.2.1), .ref (u.2.2.2.2.1), .int 0, .long 0])), ((u.2.1), .inl (cy 3, 10, .inr (.inr (.inr (.inr (fun i => some ((u.2.2.1) i))))))), ((u.2.2.1) 0, .inl (cy 1, 26, .inr (.inl (fun _ => 0)))), ((u.2.2.1) 1, .inl (cy 1, 26, .inr (.inl (fun _ => 0)))), ((u.2.2.1) 2, .inl (cy 1, 26, .inr (.inl (fun _ => 0)))), ((u.2.2.1) 3, .inl (cy 1, 26, .inr (.inl (fun _ => 0)))), ((u.2.2.1) 4, .inl (cy 1, 26, .inr (.inl (fun _ => 0)))), ((u.2.2.1) 5, .inl (cy 1, 26, .inr (.inl (fun _ => 0)))), ((u.2.2.1) 6, .inl (cy 1, 26, .inr (.inl (fun _ => 0)))), ((u.2.2.1) 7, .inl (cy 1, 26, .inr (.inl (fun _ => 0)))), ((u.2.2.1) 8, .inl (cy 1, 26, .inr (.inl (fun _ => 0)))), ((u.2.2.1) 9, .inl (cy 1, 26, .inr (.inl (fun _ => 0)))), ((u.2.2.2.1), .inl (cy 0, 10, .inl (fun _ => 0))), ((u.2.2.2.2.1), .inl (cy 2, 25, .inl (fun _ => 0))), ((u.2.2.2.2.2.1), .inl (cy 0, 21, .inl (fun _ => 0))), ((u.2.2.2.2.2.2), .inl (cy 0, 21, .inl (fun _ => 0)))] t) (va_A [(h0, .inr (0, [.null, .null, .null, .int 0, .int 0, .int 0]))] sz)) 16 352 (va_A [(h0, .inr (0, [.null, .null, .null, .int 0, .int 0, .int 0]))] sz) := by
  refine Met.ofW (cc := cX0_init) (maxL := 1) (ret := none) (by decide) rfl ?_
  intro p e s m args below meth c s₁ B hml hv
  obtain ⟨rfl, hsz, hP, hK, hD0, hN⟩ := hv
  have hx := B.exec
  have hb := B.bytes
  have hr := B.returns
  have hts := atoms_spec (ws := wsX0_init) B.pre
  have hown : s.vm.findClass RX0 = some m.cls := findClass_of_methodNamed B.named
  have hlocks := B.notSynchronized
  have hin : meth.name = "<init>" := (name_of_methodNamed B.named B.method).1
  subst hsz
  have hD := hD0.self (sz := s.heap.size)
  generalize hAe : va_A [(h0, .inr (0, [.null, .null, .null, .int 0, .int 0, .int 0]))] s.heap.size = A at hD ⊢
  have hA : ∀ q : Nat, s.heap.size ≤ q → A q := fun q h => by rw [← hAe]; exact Or.inr h
  have hS : va_S A s.heap s.heap [] := va_S.rf
  have hl := lv_entry ([.ref h0]) (n := 1) (Nat.le_of_ble_eq_true rfl)
  rw [lg_entry_eq]
  generalize (lg_sl ([.ref h0]) ++ List.replicate (1 - (lg_sl ([.ref h0])).length) Slot.unset).toArray = ls at hl ⊢
  have hl : lv_has ls 1 [(0, .ref h0)] := hl
  refine lv_aload_n hx hb dX0_init_0 rfl (lv_at hl 0 rfl) ?_
  refine W.objInit hx hb hown (hts (.methodLink RX0 3 objectInit) (by decide +kernel)) (hts (.instanceMethod objectInit) (by decide +kernel)) (hts (.code objectInit ⟨#[0xb1]⟩ 1 none) (by decide +kernel)) rfl (by rw [hml]; exact hl.1) rfl dX0_init_1 (Nat.le_of_ble_eq_true rfl) (Nat.le_of_ble_eq_true rfl) ?_
  refine W.eq (g2 := F0 m 4 ls []) rfl ?_
  refine lv_aload_n hx hb dX0_init_4 rfl (lv_at hl 0 rfl) ?_
  refine va_new (ci := 5) (fs := [.null, .null, .null, .int 0, .long 0]) (C := RX5) (T := TX5) (N := 5) hx hb hts in_X0_init_X5 tyX5 tyX5_ok hown (hts (.classLink RX0 9 RX5) (by decide +kernel)) (hts (.instantiable RX5 5) (by decide +kernel)) (hts (.initialized RX5) (by decide +kernel)) hK hP hD hS hA rfl (fun j hj => by rcases (show j = 0 ∨ j = 1 ∨ j = 2 ∨ j = 3 ∨ j = 4 by omega) with rfl | rfl | rfl | rfl | rfl <;> rfl) (Nat.le_of_ble_eq_true rfl) (Nat.le_of_ble_eq_true rfl) dX0_init_5 (fun q1 H hP hD hS => ?_)
  have hP : va_P (dC, dI) vwCl [(h0, .inr (0, [.null, .null, .null, .int 0, .int 0, .int 0])), (q1, .inr (5, [.null, .null, .null, .int 0, .long 0]))] H := hP
  have hD : va_D A [(h0, .inr (0, [.null, .null, .null, .int 0, .int 0, .int 0])), (q1, .inr (5, [.null, .null, .null, .int 0, .long 0]))] := hD
  refine lv_dup hx hb dX0_init_8 rfl ?_
  have hPc := hP.sub (ws' := [(q1, .inr (5, [.null, .null, .null, .int 0, .long 0]))]) [1] rfl
  have hDc := hD.sub (ws' := [(q1, .inr (5, [.null, .null, .null, .int 0, .long 0]))]) [1] (by decide) rfl
  have hFc := va_free (wc := [(q1, .inr (5, [.null, .null, .null, .int 0, .long 0]))]) hD hS hA [1] rfl
  refine va_callv (va_runIN (As := []) (rest := [.ref q1, .ref h0]) ⟨hx, hb, hml, hown, hts⟩ (c_X5_init l dC dI cy q1 H.size) ⟨va_cnB 0 hts gX0_init_X5_init_n11 rfl rfl rfl (nw_X0_11 hN) (hts (.initialized RX5) (by decide +kernel)) (by decide +kernel) ⟨Nat.le_of_ble_eq_true rfl, Nat.le_of_ble_eq_true rfl⟩, rfl, hts (.instanceMethod yX5_init) (by decide +kernel)⟩ ⟨cPre_blind, fun U hU hW => ⟨rfl, cPre_at hPc hK hDc hN hU hW⟩⟩ rfl rfl hl.1 rfl (lv_room (Nat.le_of_ble_eq_true rfl)) dX0_init_9 ⟨Nat.le_of_ble_eq_true rfl, Nat.le_of_ble_eq_true rfl⟩) hS (fun q _ h => hFc q h) hFc (fun u t H locs ht hvm hw hB hz1 hk1 hS => ?_)
  obtain ⟨q2, r, q4, q5⟩ := u
  try dsimp only at hB
  obtain ⟨hP1, -, hD1⟩ := hB
  rw [ht] at hP1
  obtain ⟨hP, hD⟩ := va_join (wr := [(h0, .inr (0, [.null, .null, .null, .int 0, .int 0, .int 0]))]) (w1 := [(q1, .inr (5, [.ref q2, .ref q4, .ref q5, .int 0, .long 0])), (q2, .inl (cy 3, 10, .inr (.inr (.inr (.inr (fun i => some (r i))))))), (r 0, .inl (cy 1, 26, .inr (.inl (fun _ => 0)))), (r 1, .inl (cy 1, 26, .inr (.inl (fun _ => 0)))), (r 2, .inl (cy 1, 26, .inr (.inl (fun _ => 0)))), (r 3, .inl (cy 1, 26, .inr (.inl (fun _ => 0)))), (r 4, .inl (cy 1, 26, .inr (.inl (fun _ => 0)))), (r 5, .inl (cy 1, 26, .inr (.inl (fun _ => 0)))), (r 6, .inl (cy 1, 26, .inr (.inl (fun _ => 0)))), (r 7, .inl (cy 1, 26, .inr (.inl (fun _ => 0)))), (r 8, .inl (cy 1, 26, .inr (.inl (fun _ => 0)))), (r 9, .inl (cy 1, 26, .inr (.inl (fun _ => 0)))), (q4, .inl (cy 0, 10, .inl (fun _ => 0))), (q5, .inl (cy 2, 25, .inl (fun _ => 0)))]) hP hD [1] [0] rfl rfl (by decide) (by decide) hk1 hFc hP1 hD1
  have hP : va_P (dC, dI) vwCl [(h0, .inr (0, [.null, .null, .null, .int 0, .int 0, .int 0])), (q1, .inr (5, [.ref q2, .ref q4, .ref q5, .int 0, .long 0])), (q2, .inl (cy 3, 10, .inr (.inr (.inr (.inr (fun i => some (r i))))))), (r 0, .inl (cy 1, 26, .inr (.inl (fun _ => 0)))), (r 1, .inl (cy 1, 26, .inr (.inl (fun _ => 0)))), (r 2, .inl (cy 1, 26, .inr (.inl (fun _ => 0)))), (r 3, .inl (cy 1, 26, .inr (.inl (fun _ => 0)))), (r 4, .inl (cy 1, 26, .inr (.inl (fun _ => 0)))), (r 5, .inl (cy 1, 26, .inr (.inl (fun _ => 0)))), (r 6, .inl (cy 1, 26, .inr (.inl (fun _ => 0)))), (r 7, .inl (cy 1, 26, .inr (.inl (fun _ => 0)))), (r 8, .inl (cy 1, 26, .inr (.inl (fun _ => 0)))), (r 9, .inl (cy 1, 26, .inr (.inl (fun _ => 0)))), (q4, .inl (cy 0, 10, .inl (fun _ => 0))), (q5, .inl (cy 2, 25, .inl (fun _ => 0)))] H := hP
  have hD : va_D A [(h0, .inr (0, [.null, .null, .null, .int 0, .int 0, .int 0])), (q1, .inr (5, [.ref q2, .ref q4, .ref q5, .int 0, .long 0])), (q2, .inl (cy 3, 10, .inr (.inr (.inr (.inr (fun i => some (r i))))))), (r 0, .inl (cy 1, 26, .inr (.inl (fun _ => 0)))), (r 1, .inl (cy 1, 26, .inr (.inl (fun _ => 0)))), (r 2, .inl (cy 1, 26, .inr (.inl (fun _ => 0)))), (r 3, .inl (cy 1, 26, .inr (.inl (fun _ => 0)))), (r 4, .inl (cy 1, 26, .inr (.inl (fun _ => 0)))), (r 5, .inl (cy 1, 26, .inr (.inl (fun _ => 0)))), (r 6, .inl (cy 1, 26, .inr (.inl (fun _ => 0)))), (r 7, .inl (cy 1, 26, .inr (.inl (fun _ => 0)))), (r 8, .inl (cy 1, 26, .inr (.inl (fun _ => 0)))), (r 9, .inl (cy 1, 26, .inr (.inl (fun _ => 0)))), (q4, .inl (cy 0, 10, .inl (fun _ => 0))), (q5, .inl (cy 2, 25, .inl (fun _ => 0)))] := hD
  refine va_putF (D := (dC, dI)) (ci := 0) (v := .ref q1) (ty := (.object "UnlikeUnion$Tableau")) (C := RX0) (T := TX0) (N := 6) hx hb hts in_X0_init_X0 tyX0 tyX0_ok nmX0 hown hK hP hD hS 0 rfl rfl 0 (by decide) (hts (Cond.fieldLink RX0 12 "UnlikeUnion$Division" "tableau" "LUnlikeUnion$Tableau;") (by decide +kernel)) (fun _ h9 => h9) rfl hin rfl (by decide +kernel) rfl rfl (Nat.le_of_ble_eq_true rfl) dX0_init_12 (fun H locs hP hD hS => ?_)
  have hP : va_P (dC, dI) vwCl [(h0, .inr (0, [.ref q1, .null, .null, .int 0, .int 0, .int 0])), (q1, .inr (5, [.ref q2, .ref q4, .ref q5, .int 0, .long 0])), (q2, .inl (cy 3, 10, .inr (.inr (.inr (.inr (fun i => some (r i))))))), (r 0, .inl (cy 1, 26, .inr (.inl (fun _ => 0)))), (r 1, .inl (cy 1, 26, .inr (.inl (fun _ => 0)))), (r 2, .inl (cy 1, 26, .inr (.inl (fun _ => 0)))), (r 3, .inl (cy 1, 26, .inr (.inl (fun _ => 0)))), (r 4, .inl (cy 1, 26, .inr (.inl (fun _ => 0)))), (r 5, .inl (cy 1, 26, .inr (.inl (fun _ => 0)))), (r 6, .inl (cy 1, 26, .inr (.inl (fun _ => 0)))), (r 7, .inl (cy 1, 26, .inr (.inl (fun _ => 0)))), (r 8, .inl (cy 1, 26, .inr (.inl (fun _ => 0)))), (r 9, .inl (cy 1, 26, .inr (.inl (fun _ => 0)))), (q4, .inl (cy 0, 10, .inl (fun _ => 0))), (q5, .inl (cy 2, 25, .inl (fun _ => 0)))] H := hP
  have hD : va_D A [(h0, .inr (0, [.ref q1, .null, .null, .int 0, .int 0, .int 0])), (q1, .inr (5, [.ref q2, .ref q4, .ref q5, .int 0, .long 0])), (q2, .inl (cy 3, 10, .inr (.inr (.inr (.inr (fun i => some (r i))))))), (r 0, .inl (cy 1, 26, .inr (.inl (fun _ => 0)))), (r 1, .inl (cy 1, 26, .inr (.inl (fun _ => 0)))), (r 2, .inl (cy 1, 26, .inr (.inl (fun _ => 0)))), (r 3, .inl (cy 1, 26, .inr (.inl (fun _ => 0)))), (r 4, .inl (cy 1, 26, .inr (.inl (fun _ => 0)))), (r 5, .inl (cy 1, 26, .inr (.inl (fun _ => 0)))), (r 6, .inl (cy 1, 26, .inr (.inl (fun _ => 0)))), (r 7, .inl (cy 1, 26, .inr (.inl (fun _ => 0)))), (r 8, .inl (cy 1, 26, .inr (.inl (fun _ => 0)))), (r 9, .inl (cy 1, 26, .inr (.inl (fun _ => 0)))), (q4, .inl (cy 0, 10, .inl (fun _ => 0))), (q5, .inl (cy 2, 25, .inl (fun _ => 0)))] := hD
  refine lv_aload_n hx hb dX0_init_15 rfl (lv_at hl 0 rfl) ?_
  refine lv_bipush (v := 21) hx hb dX0_init_16 (by decide) ?_
  refine va_newa (atype := .int) (ty := .int) (N' := 21) (a0 := (21, .inl (fun _ => 0))) hx hb (hts (.arrayClass .int) (by decide +kernel)) rfl hK hP hD hS hA (fun _ => rfl) (by decide) (by decide) (Nat.le_of_ble_eq_true rfl) (Nat.le_of_ble_eq_true rfl) (Nat.le_of_ble_eq_true rfl) dX0_init_18 (fun q6 cA H hK1 hP hD hS => ?_)
  obtain rfl : cA = cy 0 := cy_same hK hK1 0 rfl
  have hP : va_P (dC, dI) vwCl [(h0, .inr (0, [.ref q1, .null, .null, .int 0, .int 0, .int 0])), (q1, .inr (5, [.ref q2, .ref q4, .ref q5, .int 0, .long 0])), (q2, .inl (cy 3, 10, .inr (.inr (.inr (.inr (fun i => some (r i))))))), (r 0, .inl (cy 1, 26, .inr (.inl (fun _ => 0)))), (r 1, .inl (cy 1, 26, .inr (.inl (fun _ => 0)))), (r 2, .inl (cy 1, 26, .inr (.inl (fun _ => 0)))), (r 3, .inl (cy 1, 26, .inr (.inl (fun _ => 0)))), (r 4, .inl (cy 1, 26, .inr (.inl (fun _ => 0)))), (r 5, .inl (cy 1, 26, .inr (.inl (fun _ => 0)))), (r 6, .inl (cy 1, 26, .inr (.inl (fun _ => 0)))), (r 7, .inl (cy 1, 26, .inr (.inl (fun _ => 0)))), (r 8, .inl (cy 1, 26, .inr (.inl (fun _ => 0)))), (r 9, .inl (cy 1, 26, .inr (.inl (fun _ => 0)))), (q4, .inl (cy 0, 10, .inl (fun _ => 0))), (q5, .inl (cy 2, 25, .inl (fun _ => 0))), (q6, .inl (cy 0, 21, .inl (fun _ => 0)))] H := hP
  have hD : va_D A [(h0, .inr (0, [.ref q1, .null, .null, .int 0, .int 0, .int 0])), (q1, .inr (5, [.ref q2, .ref q4, .ref q5, .int 0, .long 0])), (q2, .inl (cy 3, 10, .inr (.inr (.inr (.inr (fun i => some (r i))))))), (r 0, .inl (cy 1, 26, .inr (.inl (fun _ => 0)))), (r 1, .inl (cy 1, 26, .inr (.inl (fun _ => 0)))), (r 2, .inl (cy 1, 26, .inr (.inl (fun _ => 0)))), (r 3, .inl (cy 1, 26, .inr (.inl (fun _ => 0)))), (r 4, .inl (cy 1, 26, .inr (.inl (fun _ => 0)))), (r 5, .inl (cy 1, 26, .inr (.inl (fun _ => 0)))), (r 6, .inl (cy 1, 26, .inr (.inl (fun _ => 0)))), (r 7, .inl (cy 1, 26, .inr (.inl (fun _ => 0)))), (r 8, .inl (cy 1, 26, .inr (.inl (fun _ => 0)))), (r 9, .inl (cy 1, 26, .inr (.inl (fun _ => 0)))), (q4, .inl (cy 0, 10, .inl (fun _ => 0))), (q5, .inl (cy 2, 25, .inl (fun _ => 0))), (q6, .inl (cy 0, 21, .inl (fun _ => 0)))] := hD
  refine va_putF (D := (dC, dI)) (ci := 0) (v := .ref q6) (ty := (.array .int)) (C := RX0) (T := TX0) (N := 6) hx hb hts in_X0_init_X0 tyX0 tyX0_ok nmX0 hown hK hP hD hS 0 rfl rfl 1 (by decide) (hts (Cond.fieldLink RX0 18 "UnlikeUnion$Division" "numerators" "[I") (by decide +kernel)) (fun _ h9 => h9) rfl hin rfl (by decide +kernel) rfl rfl (Nat.le_of_ble_eq_true rfl) dX0_init_20 (fun H locs hP hD hS => ?_)
  have hP : va_P (dC, dI) vwCl [(h0, .inr (0, [.ref q1, .ref q6, .null, .int 0, .int 0, .int 0])), (q1, .inr (5, [.ref q2, .ref q4, .ref q5, .int 0, .long 0])), (q2, .inl (cy 3, 10, .inr (.inr (.inr (.inr (fun i => some (r i))))))), (r 0, .inl (cy 1, 26, .inr (.inl (fun _ => 0)))), (r 1, .inl (cy 1, 26, .inr (.inl (fun _ => 0)))), (r 2, .inl (cy 1, 26, .inr (.inl (fun _ => 0)))), (r 3, .inl (cy 1, 26, .inr (.inl (fun _ => 0)))), (r 4, .inl (cy 1, 26, .inr (.inl (fun _ => 0)))), (r 5, .inl (cy 1, 26, .inr (.inl (fun _ => 0)))), (r 6, .inl (cy 1, 26, .inr (.inl (fun _ => 0)))), (r 7, .inl (cy 1, 26, .inr (.inl (fun _ => 0)))), (r 8, .inl (cy 1, 26, .inr (.inl (fun _ => 0)))), (r 9, .inl (cy 1, 26, .inr (.inl (fun _ => 0)))), (q4, .inl (cy 0, 10, .inl (fun _ => 0))), (q5, .inl (cy 2, 25, .inl (fun _ => 0))), (q6, .inl (cy 0, 21, .inl (fun _ => 0)))] H := hP
  have hD : va_D A [(h0, .inr (0, [.ref q1, .ref q6, .null, .int 0, .int 0, .int 0])), (q1, .inr (5, [.ref q2, .ref q4, .ref q5, .int 0, .long 0])), (q2, .inl (cy 3, 10, .inr (.inr (.inr (.inr (fun i => some (r i))))))), (r 0, .inl (cy 1, 26, .inr (.inl (fun _ => 0)))), (r 1, .inl (cy 1, 26, .inr (.inl (fun _ => 0)))), (r 2, .inl (cy 1, 26, .inr (.inl (fun _ => 0)))), (r 3, .inl (cy 1, 26, .inr (.inl (fun _ => 0)))), (r 4, .inl (cy 1, 26, .inr (.inl (fun _ => 0)))), (r 5, .inl (cy 1, 26, .inr (.inl (fun _ => 0)))), (r 6, .inl (cy 1, 26, .inr (.inl (fun _ => 0)))), (r 7, .inl (cy 1, 26, .inr (.inl (fun _ => 0)))), (r 8, .inl (cy 1, 26, .inr (.inl (fun _ => 0)))), (r 9, .inl (cy 1, 26, .inr (.inl (fun _ => 0)))), (q4, .inl (cy 0, 10, .inl (fun _ => 0))), (q5, .inl (cy 2, 25, .inl (fun _ => 0))), (q6, .inl (cy 0, 21, .inl (fun _ => 0)))] := hD
  refine lv_aload_n hx hb dX0_init_23 rfl (lv_at hl 0 rfl) ?_
  refine lv_bipush (v := 21) hx hb dX0_init_24 (by decide) ?_
  refine va_newa (atype := .int) (ty := .int) (N' := 21) (a0 := (21, .inl (fun _ => 0))) hx hb (hts (.arrayClass .int) (by decide +kernel)) rfl hK hP hD hS hA (fun _ => rfl) (by decide) (by decide) (Nat.le_of_ble_eq_true rfl) (Nat.le_of_ble_eq_true rfl) (Nat.le_of_ble_eq_true rfl) dX0_init_26 (fun q7 cA H hK1 hP hD hS => ?_)
  obtain rfl : cA = cy 0 := cy_same hK hK1 0 rfl
  have hP : va_P (dC, dI) vwCl [(h0, .inr (0, [.ref q1, .ref q6, .null, .int 0, .int 0, .int 0])), (q1, .inr (5, [.ref q2, .ref q4, .ref q5, .int 0, .long 0])), (q2, .inl (cy 3, 10, .inr (.inr (.inr (.inr (fun i => some (r i))))))), (r 0, .inl (cy 1, 26, .inr (.inl (fun _ => 0)))), (r 1, .inl (cy 1, 26, .inr (.inl (fun _ => 0)))), (r 2, .inl (cy 1, 26, .inr (.inl (fun _ => 0)))), (r 3, .inl (cy 1, 26, .inr (.inl (fun _ => 0)))), (r 4, .inl (cy 1, 26, .inr (.inl (fun _ => 0)))), (r 5, .inl (cy 1, 26, .inr (.inl (fun _ => 0)))), (r 6, .inl (cy 1, 26, .inr (.inl (fun _ => 0)))), (r 7, .inl (cy 1, 26, .inr (.inl (fun _ => 0)))), (r 8, .inl (cy 1, 26, .inr (.inl (fun _ => 0)))), (r 9, .inl (cy 1, 26, .inr (.inl (fun _ => 0)))), (q4, .inl (cy 0, 10, .inl (fun _ => 0))), (q5, .inl (cy 2, 25, .inl (fun _ => 0))), (q6, .inl (cy 0, 21, .inl (fun _ => 0))), (q7, .inl (cy 0, 21, .inl (fun _ => 0)))] H := hP
  have hD : va_D A [(h0, .inr (0, [.ref q1, .ref q6, .null, .int 0, .int 0, .int 0])), (q1, .inr (5, [.ref q2, .ref q4, .ref q5, .int 0, .long 0])), (q2, .inl (cy 3, 10, .inr (.inr (.inr (.inr (fun i => some (r i))))))), (r 0, .inl (cy 1, 26, .inr (.inl (fun _ => 0)))), (r 1, .inl (cy 1, 26, .inr (.inl (fun _ => 0)))), (r 2, .inl (cy 1, 26, .inr (.inl (fun _ => 0)))), (r 3, .inl (cy 1, 26, .inr (.inl (fun _ => 0)))), (r 4, .inl (cy 1, 26, .inr (.inl (fun _ => 0)))), (r 5, .inl (cy 1, 26, .inr (.inl (fun _ => 0)))), (r 6, .inl (cy 1, 26, .inr (.inl (fun _ => 0)))), (r 7, .inl (cy 1, 26, .inr (.inl (fun _ => 0)))), (r 8, .inl (cy 1, 26, .inr (.inl (fun _ => 0)))), (r 9, .inl (cy 1, 26, .inr (.inl (fun _ => 0)))), (q4, .inl (cy 0, 10, .inl (fun _ => 0))), (q5, .inl (cy 2, 25, .inl (fun _ => 0))), (q6, .inl (cy 0, 21, .inl (fun _ => 0))), (q7, .inl (cy 0, 21, .inl (fun _ => 0)))] := hD
  refine va_putF (D := (dC, dI)) (ci := 0) (v := .ref q7) (ty := (.array .int)) (C := RX0) (T := TX0) (N := 6) hx hb hts in_X0_init_X0 tyX0 tyX0_ok nmX0 hown hK hP hD hS 0 rfl rfl 2 (by decide) (hts (Cond.fieldLink RX0 22 "UnlikeUnion$Division" "denominators" "[I") (by decide +kernel)) (fun _ h9 => h9) rfl hin rfl (by decide +kernel) rfl rfl (Nat.le_of_ble_eq_true rfl) dX0_init_28 (fun H locs hP hD hS => ?_)
  have hP : va_P (dC, dI) vwCl [(h0, .inr (0, [.ref q1, .ref q6, .ref q7, .int 0, .int 0, .int 0])), (q1, .inr (5, [.ref q2, .ref q4, .ref q5, .int 0, .long 0])), (q2, .inl (cy 3, 10, .inr (.inr (.inr (.inr (fun i => some (r i))))))), (r 0, .inl (cy 1, 26, .inr (.inl (fun _ => 0)))), (r 1, .inl (cy 1, 26, .inr (.inl (fun _ => 0)))), (r 2, .inl (cy 1, 26, .inr (.inl (fun _ => 0)))), (r 3, .inl (cy 1, 26, .inr (.inl (fun _ => 0)))), (r 4, .inl (cy 1, 26, .inr (.inl (fun _ => 0)))), (r 5, .inl (cy 1, 26, .inr (.inl (fun _ => 0)))), (r 6, .inl (cy 1, 26, .inr (.inl (fun _ => 0)))), (r 7, .inl (cy 1, 26, .inr (.inl (fun _ => 0)))), (r 8, .inl (cy 1, 26, .inr (.inl (fun _ => 0)))), (r 9, .inl (cy 1, 26, .inr (.inl (fun _ => 0)))), (q4, .inl (cy 0, 10, .inl (fun _ => 0))), (q5, .inl (cy 2, 25, .inl (fun _ => 0))), (q6, .inl (cy 0, 21, .inl (fun _ => 0))), (q7, .inl (cy 0, 21, .inl (fun _ => 0)))] H := hP
  have hD : va_D A [(h0, .inr (0, [.ref q1, .ref q6, .ref q7, .int 0, .int 0, .int 0])), (q1, .inr (5, [.ref q2, .ref q4, .ref q5, .int 0, .long 0])), (q2, .inl (cy 3, 10, .inr (.inr (.inr (.inr (fun i => some (r i))))))), (r 0, .inl (cy 1, 26, .inr (.inl (fun _ => 0)))), (r 1, .inl (cy 1, 26, .inr (.inl (fun _ => 0)))), (r 2, .inl (cy 1, 26, .inr (.inl (fun _ => 0)))), (r 3, .inl (cy 1, 26, .inr (.inl (fun _ => 0)))), (r 4, .inl (cy 1, 26, .inr (.inl (fun _ => 0)))), (r 5, .inl (cy 1, 26, .inr (.inl (fun _ => 0)))), (r 6, .inl (cy 1, 26, .inr (.inl (fun _ => 0)))), (r 7, .inl (cy 1, 26, .inr (.inl (fun _ => 0)))), (r 8, .inl (cy 1, 26, .inr (.inl (fun _ => 0)))), (r 9, .inl (cy 1, 26, .inr (.inl (fun _ => 0)))), (q4, .inl (cy 0, 10, .inl (fun _ => 0))), (q5, .inl (cy 2, 25, .inl (fun _ => 0))), (q6, .inl (cy 0, 21, .inl (fun _ => 0))), (q7, .inl (cy 0, 21, .inl (fun _ => 0)))] := hD
  refine W.widen (k := 16) (n := 352) (by omega) (by omega) ?_
  exact W.vret hx hb hr (fun t ht hW => ⟨⟨(q1, q2, r, q4, q5, q6, q7), rfl, trivial, by rw [ht]; exact hP, va_K.moved hW.alike hK, by rw [hAe]; exact hD⟩, hS.F ht⟩) hS.2.2 dX0_init_31
-- ===== X6_init
theorem in_X6_init_X0 : ∀ w ∈ u_ws RX0 TX0 6, w ∈ wsX6_init := by decide +kernel
theorem in_X6_init_X1 : ∀ w ∈ u_ws RX1 TX1 2, w ∈ wsX6_init := by decide +kernel
theorem in_X6_init_X2 : ∀ w ∈ u_ws RX2 TX2 5, w ∈ wsX6_init := by decide +kernel
theorem in_X6_init_X3 : ∀ w ∈ u_ws RX3 TX3 4, w ∈ wsX6_init := by decide +kernel
theorem in_X6_init_X4 : ∀ w ∈ u_ws RX4 TX4 1, w ∈ wsX6_init := by decide +kernel
theorem in_X6_init_X6 : ∀ w ∈ u_ws RX6 TX6 7, w ∈ wsX6_init := by decide +kernel
abbrev rmX6_init : Room := { frames := 3, cells := 27, slots := 422, locals := 160 }
set_option maxHeartbeats 4000000 in
set_option maxRecDepth 100000 in
theorem c_X6_init (l : Launch) (dC : Nat → ClassId) (dI : Nat → Nat → Nat) (cy : Nat → ClassId) (h0 : Nat) (sz : Nat) : Met l yX6_init wsX6_init rmX6_init (va_Pc [.ref h0] (cPre dC dI cy [(h0, .inr (6, [.null, .null, .null, .null, .null, .int 0, .int 0]))] sz)) (va_Qv (fun (_ : Nat × Nat × Nat × Nat × Nat × Nat × Nat × Nat × Nat × Nat × Nat × (Nat → Nat) × Nat × Nat × Nat × Nat × Nat × Nat) => True) (fun (u : Nat × Nat × Nat × Nat × Nat × Nat × Nat × Nat × Nat × Nat × Nat × (Nat → Nat) × Nat × Nat × Nat × Nat × Nat × Nat) t => cPost dC dI cy [(h0, .inr (6, [.null, .null, .null, .null, .null, .int 0, .int 0]))] sz [(h0, .inr (6, [.ref (u.1), .ref (u.2.2.1), .ref (u.2.2.2.2.1), .ref (u.2.2.2.2.2.2.2.2.1), .ref (u.2.2.2.2.2.2.2.2.2.2.2.2.2.2.2.2.1), .int 0, .int 0])), ((u.1), .inr (1, [.ref (u.2.1), .int 0])), ((u.2.1), .inl (cy 0, 21, .inl (fun _ => 0))), ((u.2.2.1), .inr (2, [.ref (u.2.2.2.1), .int 0, .int 0, .int 0, .int 0])), ((u.2.2.2.1), .inl (cy 0, 7, .inl (fun _ => 0))), ((u.2.2.2.2.1), .inr (3, [.ref (u.2.2.2.2.2.1), .ref (u.2.2.2.2.2.2.1), .ref (u.2.2.2.2.2.2.2.1), .int 0])), ((u.2.2.2.2.2.1), .inl (cy 0, 3, .inl (fun _ => 0))), ((u.2.2.2.2.2.2.1), .inl (cy 0, 7, .inl (fun _ => 0))), ((u.2.2.2.2.2.2.2.1), .inl (cy 0, 7, .inl (fun _ => 0))), ((u.2.2.2.2.2.2.2.2.1), .inr (0, [.ref (u.2.2.2.2.2.2.2.2.2.1), .ref (u.2.2.2.2.2.2.2.2.2.2.2.2.2.2.1), .ref (u.2.2.2.2.2.2.2.2.2.2.2.2.2.2.2.1), .int 0, .int 0, .int 0])), ((u.2.2.2.2.2.2.2.2.2.1), .inr (5, [.ref (u.2.2.2.2.2.2.2.2.2.2.1), .ref (u.2.2.2.2.2.2.2.2.2.2.2.2.1), .ref (u.2.2.2.2.2.2.2.2.2.2.2.2.2.1), .int 0, .long 0])), ((u.2.2.2.2.2.2.2.2.2.2.1), .inl (cy 3, 10, .inr (.inr (.inr (.inr (fun i => some ((u.2.2.2.2.2.2.2.2.2.2.2.1) i))))))), ((u.2.2.2.2.2.2.2.2.2.2.2.1) 0, .inl (cy 1, 26, .inr (.inl (fun _ => 0)))), ((u.2.2.2.2.2.2.2.2.2.2.2.1) 1, .inl (cy 1, 26, .inr (.inl (fun _ => 0)))), ((u.2.2.2.2.2.2.2.2.2.2.2.1) 2, .inl (cy 1, 26, .inr (.inl (fun _ => 0)))), ((u.2.2.2.2.2.2.2.2.2.2.2.1) 3, .inl (cy 1, 26, .inr (.inl (fun _ => 0)))), ((u.2.2.2.2.2.2.2.2.2.2.2.1) 4, .inl (cy 1, 26, .inr (.inl (fun _ => 0)))), ((u.2.2.2.2.2.2.2.2.2.2.2.1) 5, .inl (cy 1, 26, .inr (.inl (fun _ => 0)))), ((u.2.2.2.2.2.2.2.2.2.2.2.1) 6, .inl (cy 1, 26, .inr (.inl (fun _ => 0)))), ((u.2.2.2.2.2.2.2.2.2.2.2.1) 7, .inl (cy 1, 26, .inr (.inl (fun _ => 0)))), ((u.2.2.2.2.2.2.2.2.2.2.2.1) 8, .inl (cy 1, 26, .inr (.inl (fun _ => 0)))), ((u.2.2.2.2.2.2.2.2.2.2.2.1) 9, .inl (cy 1, 26, .inr (.inl (fun _ => 0)))), ((u.2.2.2.2.2.2.2.2.2.2.2.2.1), .inl (cy 0, 10, .inl (fun _ => 0))), ((u.2.2.2.2.2.2.2.2.2.2.2.2.2.1), .inl (cy 2, 25, .inl (fun _ => 0))), ((u.2.2.2.2.2.2.2.2.2.2.2.2.2.2.1), .inl (cy 0, 21, .inl (fun _ => 0))), ((u.2.2.2.2.2.2.2.2.2.2.2.2.2.2.2.1), .inl (cy 0, 21, .inl (fun _ => 0))), ((u.2.2.2.2.2.2.2.2.2.2.2.2.2.2.2.2.1), .inr (4, [.ref (u.2.2.2.2.2.2.2.2.2.2.2.2.2.2.2.2.2)])), ((u.2.2.2.2.2.2.2.2.2.2.2.2.2.2.2.2.2), .inl (cy 0, 7, .inl (fun _ => 0)))] t) (va_A [(h0, .inr (6, [.null, .null, .null, .null, .null, .int 0, .int 0]))] sz)) 27 422 (va_A [(h0, .inr (6, [.null, .null, .null, .null, .null, .int 0, .int 0]))] sz) := by
  refine Met.ofW (cc := cX6_init) (maxL := 1) (ret := none) (by decide) rfl ?_
  intro p e s m args below meth c s₁ B hml hv
  obtain ⟨rfl, hsz, hP, hK, hD0, hN⟩ := hv
  have hx := B.exec
  have hb := B.bytes
  have hr := B.returns
  have hts := atoms_spec (ws := wsX6_init) B.pre
  have hown : s.vm.findClass RX6 = some m.cls := findClass_of_methodNamed B.named
  have hlocks := B.notSynchronized
  have hin : meth.name = "<init>" := (name_of_methodNamed B.named B.method).1
  subst hsz
  have hD := hD0.self (sz := s.heap.size)
  generalize hAe : va_A [(h0, .inr (6, [.null, .null, .null, .null, .null, .int 0, .int 0]))] s.heap.size = A at hD ⊢
  have hA : ∀ q : Nat, s.heap.size ≤ q → A q := fun q h => by rw [← hAe]; exact Or.inr h
  have hS : va_S A s.heap s.heap [] := va_S.rf
  have hl := lv_entry ([.ref h0]) (n := 1) (Nat.le_of_ble_eq_true rfl)
  rw [lg_entry_eq]
  generalize (lg_sl ([.ref h0]) ++ List.replicate (1 - (lg_sl ([.ref h0])).length) Slot.unset).toArray = ls at hl ⊢
  have hl : lv_has ls 1 [(0, .ref h0)] := hl
  refine lv_aload_n hx hb dX6_init_0 rfl (lv_at hl 0 rfl) ?_
  refine W.objInit hx hb hown (hts (.methodLink RX6 3 objectInit) (by decide +kernel)) (hts (.instanceMethod objectInit) (by decide +kernel)) (hts (.code objectInit ⟨#[0xb1]⟩ 1 none) (by decide +kernel)) rfl (by rw [hml]; exact hl.1) rfl dX6_init_1 (Nat.le_of_ble_eq_true rfl) (Nat.le_of_ble_eq_true rfl) ?_
  refine W.eq (g2 := F0 m 4 ls []) rfl ?_
  refine lv_aload_n hx hb dX6_init_4 rfl (lv_at hl 0 rfl) ?_
  refine va_new (ci := 1) (fs := [.null, .int 0]) (C := RX1) (T := TX1) (N := 2) hx hb hts in_X6_init_X1 tyX1 tyX1_ok hown (hts (.classLink RX6 9 RX1) (by decide +kernel)) (hts (.instantiable RX1 2) (by decide +kernel)) (hts (.initialized RX1) (by decide +kernel)) hK hP hD hS hA rfl (fun j hj => by rcases (show j = 0 ∨ j = 1 by omega) with rfl | rfl <;> rfl) (Nat.le_of_ble_eq_true rfl) (Nat.le_of_ble_eq_true rfl) dX6_init_5 (fun q1 H hP hD hS => ?_)
  have hP : va_P (dC, dI) vwCl [(h0, .inr (6, [.null, .null, .null, .null, .null, .int 0, .int 0])), (q1, .inr (1, [.null, .int 0]))] H := hP
  have hD : va_D A [(h0, .inr (6, [.null, .null, .null, .null, .null, .int 0, .int 0])), (q1, .inr (1, [.null, .int 0]))] := hD
  refine lv_dup hx hb dX6_init_8 rfl ?_
  have hPc := hP.sub (ws' := [(q1, .inr (1, [.null, .int 0]))]) [1] rfl
  have hDc := hD.sub (ws' := [(q1, .inr (1, [.null, .int 0]))]) [1] (by decide) rfl
  have hFc := va_free (wc := [(q1, .inr (1, [.null, .int 0]))]) hD hS hA [1] rfl
  refine va_callv (va_runIN (As := []) (rest := [.ref q1, .ref h0]) ⟨hx, hb, hml, hown, hts⟩ (c_X1_init l dC dI cy q1 H.size) ⟨va_cnB 0 hts gX6_init_X1_init_n11 rfl rfl rfl (nw_X6_11 hN) (hts (.initialized RX1) (by decide +kernel)) (by decide +kernel) ⟨Nat.le_of_ble_eq_true rfl, Nat.le_of_ble_eq_true rfl⟩, rfl, hts (.instanceMethod yX1_init) (by decide +kernel)⟩ ⟨cPre_blind, fun U hU hW => ⟨rfl, cPre_at hPc hK hDc hN hU hW⟩⟩ rfl rfl hl.1 rfl (lv_room (Nat.le_of_ble_eq_true rfl)) dX6_init_9 ⟨Nat.le_of_ble_eq_true rfl, Nat.le_of_ble_eq_true rfl⟩) hS (fun q _ h => hFc q h) hFc (fun u t H locs ht hvm hw hB hz1 hk1 hS => ?_)
  obtain ⟨q2, rfl⟩ : ∃ z, z = u := ⟨_, rfl⟩
  try dsimp only at hB
  obtain ⟨hP1, -, hD1⟩ := hB
  rw [ht] at hP1
  obtain ⟨hP, hD⟩ := va_join (wr := [(h0, .inr (6, [.null, .null, .null, .null, .null, .int 0, .int 0]))]) (w1 := [(q1, .inr (1, [.ref q2, .int 0])), (q2, .inl (cy 0, 21, .inl (fun _ => 0)))]) hP hD [1] [0] rfl rfl (by decide) (by decide) hk1 hFc hP1 hD1
  have hP : va_P (dC, dI) vwCl [(h0, .inr (6, [.null, .null, .null, .null, .null, .int 0, .int 0])), (q1, .inr (1, [.ref q2, .int 0])), (q2, .inl (cy 0, 21, .inl (fun _ => 0)))] H := hP
  have hD : va_D A [(h0, .inr (6, [.null, .null, .null, .null, .null, .int 0, .int 0])), (q1, .inr (1, [.ref q2, .int 0])), (q2, .inl (cy 0, 21, .inl (fun _ => 0)))] := hD
  refine va_putF (D := (dC, dI)) (ci := 6) (v := .ref q1) (ty := (.object "UnlikeUnion$Jobs")) (C := RX6) (T := TX6) (N := 7) hx hb hts in_X6_init_X6 tyX6 tyX6_ok nmX6 hown hK hP hD hS 0 rfl rfl 0 (by decide) (hts (Cond.fieldLink RX6 12 "UnlikeUnion" "list" "LUnlikeUnion$Jobs;") (by decide +kernel)) (fun _ h9 => h9) rfl hin rfl (by decide +kernel) rfl rfl (Nat.le_of_ble_eq_true rfl) dX6_init_12 (fun H locs hP hD hS => ?_)
  have hP : va_P (dC, dI) vwCl [(h0, .inr (6, [.ref q1, .null, .null, .null, .null, .int 0, .int 0])), (q1, .inr (1, [.ref q2, .int 0])), (q2, .inl (cy 0, 21, .inl (fun _ => 0)))] H := hP
  have hD : va_D A [(h0, .inr (6, [.ref q1, .null, .null, .null, .null, .int 0, .int 0])), (q1, .inr (1, [.ref q2, .int 0])), (q2, .inl (cy 0, 21, .inl (fun _ => 0)))] := hD
  refine lv_aload_n hx hb dX6_init_15 rfl (lv_at hl 0 rfl) ?_
  refine va_new (ci := 2) (fs := [.null, .int 0, .int 0, .int 0, .int 0]) (C := RX2) (T := TX2) (N := 5) hx hb hts in_X6_init_X2 tyX2 tyX2_ok hown (hts (.classLink RX6 16 RX2) (by decide +kernel)) (hts (.instantiable RX2 5) (by decide +kernel)) (hts (.initialized RX2) (by decide +kernel)) hK hP hD hS hA rfl (fun j hj => by rcases (show j = 0 ∨ j = 1 ∨ j = 2 ∨ j = 3 ∨ j = 4 by omega) with rfl | rfl | rfl | rfl | rfl <;> rfl) (Nat.le_of_ble_eq_true rfl) (Nat.le_of_ble_eq_true rfl) dX6_init_16 (fun q3 H hP hD hS => ?_)
  have hP : va_P (dC, dI) vwCl [(h0, .inr (6, [.ref q1, .null, .null, .null, .null, .int 0, .int 0])), (q1, .inr (1, [.ref q2, .int 0])), (q2, .inl (cy 0, 21, .inl (fun _ => 0))), (q3, .inr (2, [.null, .int 0, .int 0, .int 0, .int 0]))] H := hP
  have hD : va_D A [(h0, .inr (6, [.ref q1, .null, .null, .null, .null, .int 0, .int 0])), (q1, .inr (1, [.ref q2, .int 0])), (q2, .inl (cy 0, 21, .inl (fun _ => 0))), (q3, .inr (2, [.null, .int 0, .int 0, .int 0, .int 0]))] := hD
  refine lv_dup hx hb dX6_init_19 rfl ?_
  have hPc := hP.sub (ws' := [(q3, .inr (2, [.null, .int 0, .int 0, .int 0, .int 0]))]) [3] rfl
  have hDc := hD.sub (ws' := [(q3, .inr (2, [.null, .int 0, .int 0, .int 0, .int 0]))]) [3] (by decide) rfl
  have hFc := va_free (wc := [(q3, .inr (2, [.null, .int 0, .int 0, .int 0, .int 0]))]) hD hS hA [3] rfl
  refine va_callv (va_runIN (As := []) (rest := [.ref q3, .ref h0]) ⟨hx, hb, hml, hown, hts⟩ (c_X2_init l dC dI cy q3 H.size) ⟨va_cnB 0 hts gX6_init_X2_init_n18 rfl rfl rfl (nw_X6_18 hN) (hts (.initialized RX2) (by decide +kernel)) (by decide +kernel) ⟨Nat.le_of_ble_eq_true rfl, Nat.le_of_ble_eq_true rfl⟩, rfl, hts (.instanceMethod yX2_init) (by decide +kernel)⟩ ⟨cPre_blind, fun U hU hW => ⟨rfl, cPre_at hPc hK hDc hN hU hW⟩⟩ rfl rfl hl.1 rfl (lv_room (Nat.le_of_ble_eq_true rfl)) dX6_init_20 ⟨Nat.le_of_ble_eq_true rfl, Nat.le_of_ble_eq_true rfl⟩) hS (fun q _ h => hFc q h) hFc (fun u t H locs ht hvm hw hB hz1 hk1 hS => ?_)
  obtain ⟨q4, rfl⟩ : ∃ z, z = u := ⟨_, rfl⟩
  try dsimp only at hB
  obtain ⟨hP1, -, hD1⟩ := hB
  rw [ht] at hP1
  obtain ⟨hP, hD⟩ := va_join (wr := [(h0, .inr (6, [.ref q1, .null, .null, .null, .null, .int 0, .int 0])), (q1, .inr (1, [.ref q2, .int 0])), (q2, .inl (cy 0, 21, .inl (fun _ => 0)))]) (w1 := [(q3, .inr (2, [.ref q4, .int 0, .int 0, .int 0, .int 0])), (q4, .inl (cy 0, 7, .inl (fun _ => 0)))]) hP hD [3] [0, 1, 2] rfl rfl (by decide) (by decide) hk1 hFc hP1 hD1
  have hP : va_P (dC, dI) vwCl [(h0, .inr (6, [.ref q1, .null, .null, .null, .null, .int 0, .int 0])), (q1, .inr (1, [.ref q2, .int 0])), (q2, .inl (cy 0, 21, .inl (fun _ => 0))), (q3, .inr (2, [.ref q4, .int 0, .int 0, .int 0, .int 0])), (q4, .inl (cy 0, 7, .inl (fun _ => 0)))] H := hP
  have hD : va_D A [(h0, .inr (6, [.ref q1, .null, .null, .null, .null, .int 0, .int 0])), (q1, .inr (1, [.ref q2, .int 0])), (q2, .inl (cy 0, 21, .inl (fun _ => 0))), (q3, .inr (2, [.ref q4, .int 0, .int 0, .int 0, .int 0])), (q4, .inl (cy 0, 7, .inl (fun _ => 0)))] := hD
  refine va_putF (D := (dC, dI)) (ci := 6) (v := .ref q3) (ty := (.object "UnlikeUnion$OwnPlan")) (C := RX6) (T := TX6) (N := 7) hx hb hts in_X6_init_X6 tyX6 tyX6_ok nmX6 hown hK hP hD hS 0 rfl rfl 1 (by decide) (hts (Cond.fieldLink RX6 19 "UnlikeUnion" "own" "LUnlikeUnion$OwnPlan;") (by decide +kernel)) (fun _ h9 => h9) rfl hin rfl (by decide +kernel) rfl rfl (Nat.le_of_ble_eq_true rfl) dX6_init_23 (fun H locs hP hD hS => ?_)
  have hP : va_P (dC, dI) vwCl [(h0, .inr (6, [.ref q1, .ref q3, .null, .null, .null, .int 0, .int 0])), (q1, .inr (1, [.ref q2, .int 0])), (q2, .inl (cy 0, 21, .inl (fun _ => 0))), (q3, .inr (2, [.ref q4, .int 0, .int 0, .int 0, .int 0])), (q4, .inl (cy 0, 7, .inl (fun _ => 0)))] H := hP
  have hD : va_D A [(h0, .inr (6, [.ref q1, .ref q3, .null, .null, .null, .int 0, .int 0])), (q1, .inr (1, [.ref q2, .int 0])), (q2, .inl (cy 0, 21, .inl (fun _ => 0))), (q3, .inr (2, [.ref q4, .int 0, .int 0, .int 0, .int 0])), (q4, .inl (cy 0, 7, .inl (fun _ => 0)))] := hD
  refine lv_aload_n hx hb dX6_init_26 rfl (lv_at hl 0 rfl) ?_
  refine va_new (ci := 3) (fs := [.null, .null, .null, .int 0]) (C := RX3) (T := TX3) (N := 4) hx hb hts in_X6_init_X3 tyX3 tyX3_ok hown (hts (.classLink RX6 23 RX3) (by decide +kernel)) (hts (.instantiable RX3 4) (by decide +kernel)) (hts (.initialized RX3) (by decide +kernel)) hK hP hD hS hA rfl (fun j hj => by rcases (show j = 0 ∨ j = 1 ∨ j = 2 ∨ j = 3 by omega) with rfl | rfl | rfl | rfl <;> rfl) (Nat.le_of_ble_eq_true rfl) (Nat.le_of_ble_eq_true rfl) dX6_init_27 (fun q5 H hP hD hS => ?_)
  have hP : va_P (dC, dI) vwCl [(h0, .inr (6, [.ref q1, .ref q3, .null, .null, .null, .int 0, .int 0])), (q1, .inr (1, [.ref q2, .int 0])), (q2, .inl (cy 0, 21, .inl (fun _ => 0))), (q3, .inr (2, [.ref q4, .int 0, .int 0, .int 0, .int 0])), (q4, .inl (cy 0, 7, .inl (fun _ => 0))), (q5, .inr (3, [.null, .null, .null, .int 0]))] H := hP
  have hD : va_D A [(h0, .inr (6, [.ref q1, .ref q3, .null, .null, .null, .int 0, .int 0])), (q1, .inr (1, [.ref q2, .int 0])), (q2, .inl (cy 0, 21, .inl (fun _ => 0))), (q3, .inr (2, [.ref q4, .int 0, .int 0, .int 0, .int 0])), (q4, .inl (cy 0, 7, .inl (fun _ => 0))), (q5, .inr (3, [.null, .null, .null, .int 0]))] := hD
  refine lv_dup hx hb dX6_init_30 rfl ?_
  have hPc := hP.sub (ws' := [(q5, .inr (3, [.null, .null, .null, .int 0]))]) [5] rfl
  have hDc := hD.sub (ws' := [(q5, .inr (3, [.null, .null, .null, .int 0]))]) [5] (by decide) rfl
  have hFc := va_free (wc := [(q5, .inr (3, [.null, .null, .null, .int 0]))]) hD hS hA [5] rfl
  refine va_callv (va_runIN (As := []) (rest := [.ref q5, .ref h0]) ⟨hx, hb, hml, hown, hts⟩ (c_X3_init l dC dI cy q5 H.size) ⟨va_cnB 0 hts gX6_init_X3_init_n25 rfl rfl rfl (nw_X6_25 hN) (hts (.initialized RX3) (by decide +kernel)) (by decide +kernel) ⟨Nat.le_of_ble_eq_true rfl, Nat.le_of_ble_eq_true rfl⟩, rfl, hts (.instanceMethod yX3_init) (by decide +kernel)⟩ ⟨cPre_blind, fun U hU hW => ⟨rfl, cPre_at hPc hK hDc hN hU hW⟩⟩ rfl rfl hl.1 rfl (lv_room (Nat.le_of_ble_eq_true rfl)) dX6_init_31 ⟨Nat.le_of_ble_eq_true rfl, Nat.le_of_ble_eq_true rfl⟩) hS (fun q _ h => hFc q h) hFc (fun u t H locs ht hvm hw hB hz1 hk1 hS => ?_)
  obtain ⟨q6, q7, q8⟩ := u
  try dsimp only at hB
  obtain ⟨hP1, -, hD1⟩ := hB
  rw [ht] at hP1
  obtain ⟨hP, hD⟩ := va_join (wr := [(h0, .inr (6, [.ref q1, .ref q3, .null, .null, .null, .int 0, .int 0])), (q1, .inr (1, [.ref q2, .int 0])), (q2, .inl (cy 0, 21, .inl (fun _ => 0))), (q3, .inr (2, [.ref q4, .int 0, .int 0, .int 0, .int 0])), (q4, .inl (cy 0, 7, .inl (fun _ => 0)))]) (w1 := [(q5, .inr (3, [.ref q6, .ref q7, .ref q8, .int 0])), (q6, .inl (cy 0, 3, .inl (fun _ => 0))), (q7, .inl (cy 0, 7, .inl (fun _ => 0))), (q8, .inl (cy 0, 7, .inl (fun _ => 0)))]) hP hD [5] [0, 1, 2, 3, 4] rfl rfl (by decide) (by decide) hk1 hFc hP1 hD1
  have hP : va_P (dC, dI) vwCl [(h0, .inr (6, [.ref q1, .ref q3, .null, .null, .null, .int 0, .int 0])), (q1, .inr (1, [.ref q2, .int 0])), (q2, .inl (cy 0, 21, .inl (fun _ => 0))), (q3, .inr (2, [.ref q4, .int 0, .int 0, .int 0, .int 0])), (q4, .inl (cy 0, 7, .inl (fun _ => 0))), (q5, .inr (3, [.ref q6, .ref q7, .ref q8, .int 0])), (q6, .inl (cy 0, 3, .inl (fun _ => 0))), (q7, .inl (cy 0, 7, .inl (fun _ => 0))), (q8, .inl (cy 0, 7, .inl (fun _ => 0)))] H := hP
  have hD : va_D A [(h0, .inr (6, [.ref q1, .ref q3, .null, .null, .null, .int 0, .int 0])), (q1, .inr (1, [.ref q2, .int 0])), (q2, .inl (cy 0, 21, .inl (fun _ => 0))), (q3, .inr (2, [.ref q4, .int 0, .int 0, .int 0, .int 0])), (q4, .inl (cy 0, 7, .inl (fun _ => 0))), (q5, .inr (3, [.ref q6, .ref q7, .ref q8, .int 0])), (q6, .inl (cy 0, 3, .inl (fun _ => 0))), (q7, .inl (cy 0, 7, .inl (fun _ => 0))), (q8, .inl (cy 0, 7, .inl (fun _ => 0)))] := hD
  refine va_putF (D := (dC, dI)) (ci := 6) (v := .ref q5) (ty := (.object "UnlikeUnion$PlanSearch")) (C := RX6) (T := TX6) (N := 7) hx hb hts in_X6_init_X6 tyX6 tyX6_ok nmX6 hown hK hP hD hS 0 rfl rfl 2 (by decide) (hts (Cond.fieldLink RX6 26 "UnlikeUnion" "search" "LUnlikeUnion$PlanSearch;") (by decide +kernel)) (fun _ h9 => h9) rfl hin rfl (by decide +kernel) rfl rfl (Nat.le_of_ble_eq_true rfl) dX6_init_34 (fun H locs hP hD hS => ?_)
  have hP : va_P (dC, dI) vwCl [(h0, .inr (6, [.ref q1, .ref q3, .ref q5, .null, .null, .int 0, .int 0])), (q1, .inr (1, [.ref q2, .int 0])), (q2, .inl (cy 0, 21, .inl (fun _ => 0))), (q3, .inr (2, [.ref q4, .int 0, .int 0, .int 0, .int 0])), (q4, .inl (cy 0, 7, .inl (fun _ => 0))), (q5, .inr (3, [.ref q6, .ref q7, .ref q8, .int 0])), (q6, .inl (cy 0, 3, .inl (fun _ => 0))), (q7, .inl (cy 0, 7, .inl (fun _ => 0))), (q8, .inl (cy 0, 7, .inl (fun _ => 0)))] H := hP
  have hD : va_D A [(h0, .inr (6, [.ref q1, .ref q3, .ref q5, .null, .null, .int 0, .int 0])), (q1, .inr (1, [.ref q2, .int 0])), (q2, .inl (cy 0, 21, .inl (fun _ => 0))), (q3, .inr (2, [.ref q4, .int 0, .int 0, .int 0, .int 0])), (q4, .inl (cy 0, 7, .inl (fun _ => 0))), (q5, .inr (3, [.ref q6, .ref q7, .ref q8, .int 0])), (q6, .inl (cy 0, 3, .inl (fun _ => 0))), (q7, .inl (cy 0, 7, .inl (fun _ => 0))), (q8, .inl (cy 0, 7, .inl (fun _ => 0)))] := hD
  refine lv_aload_n hx hb dX6_init_37 rfl (lv_at hl 0 rfl) ?_
  refine va_new (ci := 0) (fs := [.null, .null, .null, .int 0, .int 0, .int 0]) (C := RX0) (T := TX0) (N := 6) hx hb hts in_X6_init_X0 tyX0 tyX0_ok hown (hts (.classLink RX6 30 RX0) (by decide +kernel)) (hts (.instantiable RX0 6) (by decide +kernel)) (hts (.initialized RX0) (by decide +kernel)) hK hP hD hS hA rfl (fun j hj => by rcases (show j = 0 ∨ j = 1 ∨ j = 2 ∨ j = 3 ∨ j = 4 ∨ j = 5 by omega) with rfl | rfl | rfl | rfl | rfl | rfl <;> rfl) (Nat.le_of_ble_eq_true rfl) (Nat.le_of_ble_eq_true rfl) dX6_init_38 (fun q9 H hP hD hS => ?_)
  have hP : va_P (dC, dI) vwCl [(h0, .inr (6, [.ref q1, .ref q3, .ref q5, .null, .null, .int 0, .int 0])), (q1, .inr (1, [.ref q2, .int 0])), (q2, .inl (cy 0, 21, .inl (fun _ => 0))), (q3, .inr (2, [.ref q4, .int 0, .int 0, .int 0, .int 0])), (q4, .inl (cy 0, 7, .inl (fun _ => 0))), (q5, .inr (3, [.ref q6, .ref q7, .ref q8, .int 0])), (q6, .inl (cy 0, 3, .inl (fun _ => 0))), (q7, .inl (cy 0, 7, .inl (fun _ => 0))), (q8, .inl (cy 0, 7, .inl (fun _ => 0))), (q9, .inr (0, [.null, .null, .null, .int 0, .int 0, .int 0]))] H := hP
  have hD : va_D A [(h0, .inr (6, [.ref q1, .ref q3, .ref q5, .null, .null, .int 0, .int 0])), (q1, .inr (1, [.ref q2, .int 0])), (q2, .inl (cy 0, 21, .inl (fun _ => 0))), (q3, .inr (2, [.ref q4, .int 0, .int 0, .int 0, .int 0])), (q4, .inl (cy 0, 7, .inl (fun _ => 0))), (q5, .inr (3, [.ref q6, .ref q7, .ref q8, .int 0])), (q6, .inl (cy 0, 3, .inl (fun _ => 0))), (q7, .inl (cy 0, 7, .inl (fun _ => 0))), (q8, .inl (cy 0, 7, .inl (fun _ => 0))), (q9, .inr (0, [.null, .null, .null, .int 0, .int 0, .int 0]))] := hD
  refine lv_dup hx hb dX6_init_41 rfl ?_
  have hPc := hP.sub (ws' := [(q9, .inr (0, [.null, .null, .null, .int 0, .int 0, .int 0]))]) [9] rfl
  have hDc := hD.sub (ws' := [(q9, .inr (0, [.null, .null, .null, .int 0, .int 0, .int 0]))]) [9] (by decide) rfl
  have hFc := va_free (wc := [(q9, .inr (0, [.null, .null, .null, .int 0, .int 0, .int 0]))]) hD hS hA [9] rfl
  refine va_callv (va_runIN (As := []) (rest := [.ref q9, .ref h0]) ⟨hx, hb, hml, hown, hts⟩ (c_X0_init l dC dI cy q9 H.size) ⟨va_cnB 0 hts gX6_init_X0_init_n32 rfl rfl rfl (nw_X6_32 hN) (hts (.initialized RX0) (by decide +kernel)) (by decide +kernel) ⟨Nat.le_of_ble_eq_true rfl, Nat.le_of_ble_eq_true rfl⟩, rfl, hts (.instanceMethod yX0_init) (by decide +kernel)⟩ ⟨cPre_blind, fun U hU hW => ⟨rfl, cPre_at hPc hK hDc hN hU hW⟩⟩ rfl rfl hl.1 rfl (lv_room (Nat.le_of_ble_eq_true rfl)) dX6_init_42 ⟨Nat.le_of_ble_eq_true rfl, Nat.le_of_ble_eq_true rfl⟩) hS (fun q _ h => hFc q h) hFc (fun u t H locs ht hvm hw hB hz1 hk1 hS => ?_)
  obtain ⟨q10, q11, r, q13, q14, q15, q16⟩ := u
  try dsimp only at hB
  obtain ⟨hP1, -, hD1⟩ := hB
  rw [ht] at hP1
  obtain ⟨hP, hD⟩ := va_join (wr := [(h0, .inr (6, [.ref q1, .ref q3, .ref q5, .null, .null, .int 0, .int 0])), (q1, .inr (1, [.ref q2, .int 0])), (q2, .inl (cy 0, 21, .inl (fun _ => 0))), (q3, .inr (2, [.ref q4, .int 0, .int 0, .int 0, .int 0])), (q4, .inl (cy 0, 7, .inl (fun _ => 0))), (q5, .inr (3, [.ref q6, .ref q7, .ref q8, .int 0])), (q6, .inl (cy 0, 3, .inl (fun _ => 0))), (q7, .inl (cy 0, 7, .inl (fun _ => 0))), (q8, .inl (cy 0, 7, .inl (fun _ => 0)))]) (w1 := [(q9, .inr (0, [.ref q10, .ref q15, .ref q16, .int 0, .int 0, .int 0])), (q10, .inr (5, [.ref q11, .ref q13, .ref q14, .int 0, .long 0])), (q11, .inl (cy 3, 10, .inr (.inr (.inr (.inr (fun i => some (r i))))))), (r 0, .inl (cy 1, 26, .inr (.inl (fun _ => 0)))), (r 1, .inl (cy 1, 26, .inr (.inl (fun _ => 0)))), (r 2, .inl (cy 1, 26, .inr (.inl (fun _ => 0)))), (r 3, .inl (cy 1, 26, .inr (.inl (fun _ => 0)))), (r 4, .inl (cy 1, 26, .inr (.inl (fun _ => 0)))), (r 5, .inl (cy 1, 26, .inr (.inl (fun _ => 0)))), (r 6, .inl (cy 1, 26, .inr (.inl (fun _ => 0)))), (r 7, .inl (cy 1, 26, .inr (.inl (fun _ => 0)))), (r 8, .inl (cy 1, 26, .inr (.inl (fun _ => 0)))), (r 9, .inl (cy 1, 26, .inr (.inl (fun _ => 0)))), (q13, .inl (cy 0, 10, .inl (fun _ => 0))), (q14, .inl (cy 2, 25, .inl (fun _ => 0))), (q15, .inl (cy 0, 21, .inl (fun _ => 0))), (q16, .inl (cy 0, 21, .inl (fun _ => 0)))]) hP hD [9] [0, 1, 2, 3, 4, 5, 6, 7, 8] rfl rfl (by decide) (by decide) hk1 hFc hP1 hD1
  have hP : va_P (dC, dI) vwCl [(h0, .inr (6, [.ref q1, .ref q3, .ref q5, .null, .null, .int 0, .int 0])), (q1, .inr (1, [.ref q2, .int 0])), (q2, .inl (cy 0, 21, .inl (fun _ => 0))), (q3, .inr (2, [.ref q4, .int 0, .int 0, .int 0, .int 0])), (q4, .inl (cy 0, 7, .inl (fun _ => 0))), (q5, .inr (3, [.ref q6, .ref q7, .ref q8, .int 0])), (q6, .inl (cy 0, 3, .inl (fun _ => 0))), (q7, .inl (cy 0, 7, .inl (fun _ => 0))), (q8, .inl (cy 0, 7, .inl (fun _ => 0))), (q9, .inr (0, [.ref q10, .ref q15, .ref q16, .int 0, .int 0, .int 0])), (q10, .inr (5, [.ref q11, .ref q13, .ref q14, .int 0, .long 0])), (q11, .inl (cy 3, 10, .inr (.inr (.inr (.inr (fun i => some (r i))))))), (r 0, .inl (cy 1, 26, .inr (.inl (fun _ => 0)))), (r 1, .inl (cy 1, 26, .inr (.inl (fun _ => 0)))), (r 2, .inl (cy 1, 26, .inr (.inl (fun _ => 0)))), (r 3, .inl (cy 1, 26, .inr (.inl (fun _ => 0)))), (r 4, .inl (cy 1, 26, .inr (.inl (fun _ => 0)))), (r 5, .inl (cy 1, 26, .inr (.inl (fun _ => 0)))), (r 6, .inl (cy 1, 26, .inr (.inl (fun _ => 0)))), (r 7, .inl (cy 1, 26, .inr (.inl (fun _ => 0)))), (r 8, .inl (cy 1, 26, .inr (.inl (fun _ => 0)))), (r 9, .inl (cy 1, 26, .inr (.inl (fun _ => 0)))), (q13, .inl (cy 0, 10, .inl (fun _ => 0))), (q14, .inl (cy 2, 25, .inl (fun _ => 0))), (q15, .inl (cy 0, 21, .inl (fun _ => 0))), (q16, .inl (cy 0, 21, .inl (fun _ => 0)))] H := hP
  have hD : va_D A [(h0, .inr (6, [.ref q1, .ref q3, .ref q5, .null, .null, .int 0, .int 0])), (q1, .inr (1, [.ref q2, .int 0])), (q2, .inl (cy 0, 21, .inl (fun _ => 0))), (q3, .inr (2, [.ref q4, .int 0, .int 0, .int 0, .int 0])), (q4, .inl (cy 0, 7, .inl (fun _ => 0))), (q5, .inr (3, [.ref q6, .ref q7, .ref q8, .int 0])), (q6, .inl (cy 0, 3, .inl (fun _ => 0))), (q7, .inl (cy 0, 7, .inl (fun _ => 0))), (q8, .inl (cy 0, 7, .inl (fun _ => 0))), (q9, .inr (0, [.ref q10, .ref q15, .ref q16, .int 0, .int 0, .int 0])), (q10, .inr (5, [.ref q11, .ref q13, .ref q14, .int 0, .long 0])), (q11, .inl (cy 3, 10, .inr (.inr (.inr (.inr (fun i => some (r i))))))), (r 0, .inl (cy 1, 26, .inr (.inl (fun _ => 0)))), (r 1, .inl (cy 1, 26, .inr (.inl (fun _ => 0)))), (r 2, .inl (cy 1, 26, .inr (.inl (fun _ => 0)))), (r 3, .inl (cy 1, 26, .inr (.inl (fun _ => 0)))), (r 4, .inl (cy 1, 26, .inr (.inl (fun _ => 0)))), (r 5, .inl (cy 1, 26, .inr (.inl (fun _ => 0)))), (r 6, .inl (cy 1, 26, .inr (.inl (fun _ => 0)))), (r 7, .inl (cy 1, 26, .inr (.inl (fun _ => 0)))), (r 8, .inl (cy 1, 26, .inr (.inl (fun _ => 0)))), (r 9, .inl (cy 1, 26, .inr (.inl (fun _ => 0)))), (q13, .inl (cy 0, 10, .inl (fun _ => 0))), (q14, .inl (cy 2, 25, .inl (fun _ => 0))), (q15, .inl (cy 0, 21, .inl (fun _ => 0))), (q16, .inl (cy 0, 21, .inl (fun _ => 0)))] := hD
  refine va_putF (D := (dC, dI)) (ci := 6) (v := .ref q9) (ty := (.object "UnlikeUnion$Division")) (C := RX6) (T := TX6) (N := 7) hx hb hts in_X6_init_X6 tyX6 tyX6_ok nmX6 hown hK hP hD hS 0 rfl rfl 3 (by decide) (hts (Cond.fieldLink RX6 33 "UnlikeUnion" "division" "LUnlikeUnion$Division;") (by decide +kernel)) (fun _ h9 => h9) rfl hin rfl (by decide +kernel) rfl rfl (Nat.le_of_ble_eq_true rfl) dX6_init_45 (fun H locs hP hD hS => ?_)
  have hP : va_P (dC, dI) vwCl [(h0, .inr (6, [.ref q1, .ref q3, .ref q5, .ref q9, .null, .int 0, .int 0])), (q1, .inr (1, [.ref q2, .int 0])), (q2, .inl (cy 0, 21, .inl (fun _ => 0))), (q3, .inr (2, [.ref q4, .int 0, .int 0, .int 0, .int 0])), (q4, .inl (cy 0, 7, .inl (fun _ => 0))), (q5, .inr (3, [.ref q6, .ref q7, .ref q8, .int 0])), (q6, .inl (cy 0, 3, .inl (fun _ => 0))), (q7, .inl (cy 0, 7, .inl (fun _ => 0))), (q8, .inl (cy 0, 7, .inl (fun _ => 0))), (q9, .inr (0, [.ref q10, .ref q15, .ref q16, .int 0, .int 0, .int 0])), (q10, .inr (5, [.ref q11, .ref q13, .ref q14, .int 0, .long 0])), (q11, .inl (cy 3, 10, .inr (.inr (.inr (.inr (fun i => some (r i))))))), (r 0, .inl (cy 1, 26, .inr (.inl (fun _ => 0)))), (r 1, .inl (cy 1, 26, .inr (.inl (fun _ => 0)))), (r 2, .inl (cy 1, 26, .inr (.inl (fun _ => 0)))), (r 3, .inl (cy 1, 26, .inr (.inl (fun _ => 0)))), (r 4, .inl (cy 1, 26, .inr (.inl (fun _ => 0)))), (r 5, .inl (cy 1, 26, .inr (.inl (fun _ => 0)))), (r 6, .inl (cy 1, 26, .inr (.inl (fun _ => 0)))), (r 7, .inl (cy 1, 26, .inr (.inl (fun _ => 0)))), (r 8, .inl (cy 1, 26, .inr (.inl (fun _ => 0)))), (r 9, .inl (cy 1, 26, .inr (.inl (fun _ => 0)))), (q13, .inl (cy 0, 10, .inl (fun _ => 0))), (q14, .inl (cy 2, 25, .inl (fun _ => 0))), (q15, .inl (cy 0, 21, .inl (fun _ => 0))), (q16, .inl (cy 0, 21, .inl (fun _ => 0)))] H := hP
  have hD : va_D A [(h0, .inr (6, [.ref q1, .ref q3, .ref q5, .ref q9, .null, .int 0, .int 0])), (q1, .inr (1, [.ref q2, .int 0])), (q2, .inl (cy 0, 21, .inl (fun _ => 0))), (q3, .inr (2, [.ref q4, .int 0, .int 0, .int 0, .int 0])), (q4, .inl (cy 0, 7, .inl (fun _ => 0))), (q5, .inr (3, [.ref q6, .ref q7, .ref q8, .int 0])), (q6, .inl (cy 0, 3, .inl (fun _ => 0))), (q7, .inl (cy 0, 7, .inl (fun _ => 0))), (q8, .inl (cy 0, 7, .inl (fun _ => 0))), (q9, .inr (0, [.ref q10, .ref q15, .ref q16, .int 0, .int 0, .int 0])), (q10, .inr (5, [.ref q11, .ref q13, .ref q14, .int 0, .long 0])), (q11, .inl (cy 3, 10, .inr (.inr (.inr (.inr (fun i => some (r i))))))), (r 0, .inl (cy 1, 26, .inr (.inl (fun _ => 0)))), (r 1, .inl (cy 1, 26, .inr (.inl (fun _ => 0)))), (r 2, .inl (cy 1, 26, .inr (.inl (fun _ => 0)))), (r 3, .inl (cy 1, 26, .inr (.inl (fun _ => 0)))), (r 4, .inl (cy 1, 26, .inr (.inl (fun _ => 0)))), (r 5, .inl (cy 1, 26, .inr (.inl (fun _ => 0)))), (r 6, .inl (cy 1, 26, .inr (.inl (fun _ => 0)))), (r 7, .inl (cy 1, 26, .inr (.inl (fun _ => 0)))), (r 8, .inl (cy 1, 26, .inr (.inl (fun _ => 0)))), (r 9, .inl (cy 1, 26, .inr (.inl (fun _ => 0)))), (q13, .inl (cy 0, 10, .inl (fun _ => 0))), (q14, .inl (cy 2, 25, .inl (fun _ => 0))), (q15, .inl (cy 0, 21, .inl (fun _ => 0))), (q16, .inl (cy 0, 21, .inl (fun _ => 0)))] := hD
  refine lv_aload_n hx hb dX6_init_48 rfl (lv_at hl 0 rfl) ?_
  refine va_new (ci := 4) (fs := [.null]) (C := RX4) (T := TX4) (N := 1) hx hb hts in_X6_init_X4 tyX4 tyX4_ok hown (hts (.classLink RX6 37 RX4) (by decide +kernel)) (hts (.instantiable RX4 1) (by decide +kernel)) (hts (.initialized RX4) (by decide +kernel)) hK hP hD hS hA rfl (fun j hj => by rcases (show j = 0 by omega) with rfl <;> rfl) (Nat.le_of_ble_eq_true rfl) (Nat.le_of_ble_eq_true rfl) dX6_init_49 (fun q17 H hP hD hS => ?_)
  have hP : va_P (dC, dI) vwCl [(h0, .inr (6, [.ref q1, .ref q3, .ref q5, .ref q9, .null, .int 0, .int 0])), (q1, .inr (1, [.ref q2, .int 0])), (q2, .inl (cy 0, 21, .inl (fun _ => 0))), (q3, .inr (2, [.ref q4, .int 0, .int 0, .int 0, .int 0])), (q4, .inl (cy 0, 7, .inl (fun _ => 0))), (q5, .inr (3, [.ref q6, .ref q7, .ref q8, .int 0])), (q6, .inl (cy 0, 3, .inl (fun _ => 0))), (q7, .inl (cy 0, 7, .inl (fun _ => 0))), (q8, .inl (cy 0, 7, .inl (fun _ => 0))), (q9, .inr (0, [.ref q10, .ref q15, .ref q16, .int 0, .int 0, .int 0])), (q10, .inr (5, [.ref q11, .ref q13, .ref q14, .int 0, .long 0])), (q11, .inl (cy 3, 10, .inr (.inr (.inr (.inr (fun i => some (r i))))))), (r 0, .inl (cy 1, 26, .inr (.inl (fun _ => 0)))), (r 1, .inl (cy 1, 26, .inr (.inl (fun _ => 0)))), (r 2, .inl (cy 1, 26, .inr (.inl (fun _ => 0)))), (r 3, .inl (cy 1, 26, .inr (.inl (fun _ => 0)))), (r 4, .inl (cy 1, 26, .inr (.inl (fun _ => 0)))), (r 5, .inl (cy 1, 26, .inr (.inl (fun _ => 0)))), (r 6, .inl (cy 1, 26, .inr (.inl (fun _ => 0)))), (r 7, .inl (cy 1, 26, .inr (.inl (fun _ => 0)))), (r 8, .inl (cy 1, 26, .inr (.inl (fun _ => 0)))), (r 9, .inl (cy 1, 26, .inr (.inl (fun _ => 0)))), (q13, .inl (cy 0, 10, .inl (fun _ => 0))), (q14, .inl (cy 2, 25, .inl (fun _ => 0))), (q15, .inl (cy 0, 21, .inl (fun _ => 0))), (q16, .inl (cy 0, 21, .inl (fun _ => 0))), (q17, .inr (4, [.null]))] H := hP
  have hD : va_D A [(h0, .inr (6, [.ref q1, .ref q3, .ref q5, .ref q9, .null, .int 0, .int 0])), (q1, .inr (1, [.ref q2, .int 0])), (q2, .inl (cy 0, 21, .inl (fun _ => 0))), (q3, .inr (2, [.ref q4, .int 0, .int 0, .int 0, .int 0])), (q4, .inl (cy 0, 7, .inl (fun _ => 0))), (q5, .inr (3, [.ref q6, .ref q7, .ref q8, .int 0])), (q6, .inl (cy 0, 3, .inl (fun _ => 0))), (q7, .inl (cy 0, 7, .inl (fun _ => 0))), (q8, .inl (cy 0, 7, .inl (fun _ => 0))), (q9, .inr (0, [.ref q10, .ref q15, .ref q16, .int 0, .int 0, .int 0])), (q10, .inr (5, [.ref q11, .ref q13, .ref q14, .int 0, .long 0])), (q11, .inl (cy 3, 10, .inr (.inr (.inr (.inr (fun i => some (r i))))))), (r 0, .inl (cy 1, 26, .inr (.inl (fun _ => 0)))), (r 1, .inl (cy 1, 26, .inr (.inl (fun _ => 0)))), (r 2, .inl (cy 1, 26, .inr (.inl (fun _ => 0)))), (r 3, .inl (cy 1, 26, .inr (.inl (fun _ => 0)))), (r 4, .inl (cy 1, 26, .inr (.inl (fun _ => 0)))), (r 5, .inl (cy 1, 26, .inr (.inl (fun _ => 0)))), (r 6, .inl (cy 1, 26, .inr (.inl (fun _ => 0)))), (r 7, .inl (cy 1, 26, .inr (.inl (fun _ => 0)))), (r 8, .inl (cy 1, 26, .inr (.inl (fun _ => 0)))), (r 9, .inl (cy 1, 26, .inr (.inl (fun _ => 0)))), (q13, .inl (cy 0, 10, .inl (fun _ => 0))), (q14, .inl (cy 2, 25, .inl (fun _ => 0))), (q15, .inl (cy 0, 21, .inl (fun _ => 0))), (q16, .inl (cy 0, 21, .inl (fun _ => 0))), (q17, .inr (4, [.null]))] := hD
  refine lv_dup hx hb dX6_init_52 rfl ?_
  have hPc := hP.sub (ws' := [(q17, .inr (4, [.null]))]) [26] rfl
  have hDc := hD.sub (ws' := [(q17, .inr (4, [.null]))]) [26] (by decide) rfl
  have hFc := va_free (wc := [(q17, .inr (4, [.null]))]) hD hS hA [26] rfl
  refine va_callv (va_runIN (As := []) (rest := [.ref q17, .ref h0]) ⟨hx, hb, hml, hown, hts⟩ (c_X4_init l dC dI cy q17 H.size) ⟨va_cnB 0 hts gX6_init_X4_init_n39 rfl rfl rfl (nw_X6_39 hN) (hts (.initialized RX4) (by decide +kernel)) (by decide +kernel) ⟨Nat.le_of_ble_eq_true rfl, Nat.le_of_ble_eq_true rfl⟩, rfl, hts (.instanceMethod yX4_init) (by decide +kernel)⟩ ⟨cPre_blind, fun U hU hW => ⟨rfl, cPre_at hPc hK hDc hN hU hW⟩⟩ rfl rfl hl.1 rfl (lv_room (Nat.le_of_ble_eq_true rfl)) dX6_init_53 ⟨Nat.le_of_ble_eq_true rfl, Nat.le_of_ble_eq_true rfl⟩) hS (fun q _ h => hFc q h) hFc (fun u t H locs ht hvm hw hB hz1 hk1 hS => ?_)
  obtain ⟨q18, rfl⟩ : ∃ z, z = u := ⟨_, rfl⟩
  try dsimp only at hB
  obtain ⟨hP1, -, hD1⟩ := hB
  rw [ht] at hP1
  obtain ⟨hP, hD⟩ := va_join (wr := [(h0, .inr (6, [.ref q1, .ref q3, .ref q5, .ref q9, .null, .int 0, .int 0])), (q1, .inr (1, [.ref q2, .int 0])), (q2, .inl (cy 0, 21, .inl (fun _ => 0))), (q3, .inr (2, [.ref q4, .int 0, .int 0, .int 0, .int 0])), (q4, .inl (cy 0, 7, .inl (fun _ => 0))), (q5, .inr (3, [.ref q6, .ref q7, .ref q8, .int 0])), (q6, .inl (cy 0, 3, .inl (fun _ => 0))), (q7, .inl (cy 0, 7, .inl (fun _ => 0))), (q8, .inl (cy 0, 7, .inl (fun _ => 0))), (q9, .inr (0, [.ref q10, .ref q15, .ref q16, .int 0, .int 0, .int 0])), (q10, .inr (5, [.ref q11, .ref q13, .ref q14, .int 0, .long 0])), (q11, .inl (cy 3, 10, .inr (.inr (.inr (.inr (fun i => some (r i))))))), (r 0, .inl (cy 1, 26, .inr (.inl (fun _ => 0)))), (r 1, .inl (cy 1, 26, .inr (.inl (fun _ => 0)))), (r 2, .inl (cy 1, 26, .inr (.inl (fun _ => 0)))), (r 3, .inl (cy 1, 26, .inr (.inl (fun _ => 0)))), (r 4, .inl (cy 1, 26, .inr (.inl (fun _ => 0)))), (r 5, .inl (cy 1, 26, .inr (.inl (fun _ => 0)))), (r 6, .inl (cy 1, 26, .inr (.inl (fun _ => 0)))), (r 7, .inl (cy 1, 26, .inr (.inl (fun _ => 0)))), (r 8, .inl (cy 1, 26, .inr (.inl (fun _ => 0)))), (r 9, .inl (cy 1, 26, .inr (.inl (fun _ => 0)))), (q13, .inl (cy 0, 10, .inl (fun _ => 0))), (q14, .inl (cy 2, 25, .inl (fun _ => 0))), (q15, .inl (cy 0, 21, .inl (fun _ => 0))), (q16, .inl (cy 0, 21, .inl (fun _ => 0)))]) (w1 := [(q17, .inr (4, [.ref q18])), (q18, .inl (cy 0, 7, .inl (fun _ => 0)))]) hP hD [26] [0, 1, 2, 3, 4, 5, 6, 7, 8, 9, 10, 11, 12, 13, 14, 15, 16, 17, 18, 19, 20, 21, 22, 23, 24, 25] rfl rfl (by decide) (by decide) hk1 hFc hP1 hD1
  have hP : va_P (dC, dI) vwCl [(h0, .inr (6, [.ref q1, .ref q3, .ref q5, .ref q9, .null, .int 0, .int 0])), (q1, .inr (1, [.ref q2, .int 0])), (q2, .inl (cy 0, 21, .inl (fun _ => 0))), (q3, .inr (2, [.ref q4, .int 0, .int 0, .int 0, .int 0])), (q4, .inl (cy 0, 7, .inl (fun _ => 0))), (q5, .inr (3, [.ref q6, .ref q7, .ref q8, .int 0])), (q6, .inl (cy 0, 3, .inl (fun _ => 0))), (q7, .inl (cy 0, 7, .inl (fun _ => 0))), (q8, .inl (cy 0, 7, .inl (fun _ => 0))), (q9, .inr (0, [.ref q10, .ref q15, .ref q16, .int 0, .int 0, .int 0])), (q10, .inr (5, [.ref q11, .ref q13, .ref q14, .int 0, .long 0])), (q11, .inl (cy 3, 10, .inr (.inr (.inr (.inr (fun i => some (r i))))))), (r 0, .inl (cy 1, 26, .inr (.inl (fun _ => 0)))), (r 1, .inl (cy 1, 26, .inr (.inl (fun _ => 0)))), (r 2, .inl (cy 1, 26, .inr (.inl (fun _ => 0)))), (r 3, .inl (cy 1, 26, .inr (.inl (fun _ => 0)))), (r 4, .inl (cy 1, 26, .inr (.inl (fun _ => 0)))), (r 5, .inl (cy 1, 26, .inr (.inl (fun _ => 0)))), (r 6, .inl (cy 1, 26, .inr (.inl (fun _ => 0)))), (r 7, .inl (cy 1, 26, .inr (.inl (fun _ => 0)))), (r 8, .inl (cy 1, 26, .inr (.inl (fun _ => 0)))), (r 9, .inl (cy 1, 26, .inr (.inl (fun _ => 0)))), (q13, .inl (cy 0, 10, .inl (fun _ => 0))), (q14, .inl (cy 2, 25, .inl (fun _ => 0))), (q15, .inl (cy 0, 21, .inl (fun _ => 0))), (q16, .inl (cy 0, 21, .inl (fun _ => 0))), (q17, .inr (4, [.ref q18])), (q18, .inl (cy 0, 7, .inl (fun _ => 0)))] H := hP
  have hD : va_D A [(h0, .inr (6, [.ref q1, .ref q3, .ref q5, .ref q9, .null, .int 0, .int 0])), (q1, .inr (1, [.ref q2, .int 0])), (q2, .inl (cy 0, 21, .inl (fun _ => 0))), (q3, .inr (2, [.ref q4, .int 0, .int 0, .int 0, .int 0])), (q4, .inl (cy 0, 7, .inl (fun _ => 0))), (q5, .inr (3, [.ref q6, .ref q7, .ref q8, .int 0])), (q6, .inl (cy 0, 3, .inl (fun _ => 0))), (q7, .inl (cy 0, 7, .inl (fun _ => 0))), (q8, .inl (cy 0, 7, .inl (fun _ => 0))), (q9, .inr (0, [.ref q10, .ref q15, .ref q16, .int 0, .int 0, .int 0])), (q10, .inr (5, [.ref q11, .ref q13, .ref q14, .int 0, .long 0])), (q11, .inl (cy 3, 10, .inr (.inr (.inr (.inr (fun i => some (r i))))))), (r 0, .inl (cy 1, 26, .inr (.inl (fun _ => 0)))), (r 1, .inl (cy 1, 26, .inr (.inl (fun _ => 0)))), (r 2, .inl (cy 1, 26, .inr (.inl (fun _ => 0)))), (r 3, .inl (cy 1, 26, .inr (.inl (fun _ => 0)))), (r 4, .inl (cy 1, 26, .inr (.inl (fun _ => 0)))), (r 5, .inl (cy 1, 26, .inr (.inl (fun _ => 0)))), (r 6, .inl (cy 1, 26, .inr (.inl (fun _ => 0)))), (r 7, .inl (cy 1, 26, .inr (.inl (fun _ => 0)))), (r 8, .inl (cy 1, 26, .inr (.inl (fun _ => 0)))), (r 9, .inl (cy 1, 26, .inr (.inl (fun _ => 0)))), (q13, .inl (cy 0, 10, .inl (fun _ => 0))), (q14, .inl (cy 2, 25, .inl (fun _ => 0))), (q15, .inl (cy 0, 21, .inl (fun _ => 0))), (q16, .inl (cy 0, 21, .inl (fun _ => 0))), (q17, .inr (4, [.ref q18])), (q18, .inl (cy 0, 7, .inl (fun _ => 0)))] := hD
  refine va_putF (D := (dC, dI)) (ci := 6) (v := .ref q17) (ty := (.object "UnlikeUnion$Rounding")) (C := RX6) (T := TX6) (N := 7) hx hb hts in_X6_init_X6 tyX6 tyX6_ok nmX6 hown hK hP hD hS 0 rfl rfl 4 (by decide) (hts (Cond.fieldLink RX6 40 "UnlikeUnion" "rounding" "LUnlikeUnion$Rounding;") (by decide +kernel)) (fun _ h9 => h9) rfl hin rfl (by decide +kernel) rfl rfl (Nat.le_of_ble_eq_true rfl) dX6_init_56 (fun H locs hP hD hS => ?_)
  have hP : va_P (dC, dI) vwCl [(h0, .inr (6, [.ref q1, .ref q3, .ref q5, .ref q9, .ref q17, .int 0, .int 0])), (q1, .inr (1, [.ref q2, .int 0])), (q2, .inl (cy 0, 21, .inl (fun _ => 0))), (q3, .inr (2, [.ref q4, .int 0, .int 0, .int 0, .int 0])), (q4, .inl (cy 0, 7, .inl (fun _ => 0))), (q5, .inr (3, [.ref q6, .ref q7, .ref q8, .int 0])), (q6, .inl (cy 0, 3, .inl (fun _ => 0))), (q7, .inl (cy 0, 7, .inl (fun _ => 0))), (q8, .inl (cy 0, 7, .inl (fun _ => 0))), (q9, .inr (0, [.ref q10, .ref q15, .ref q16, .int 0, .int 0, .int 0])), (q10, .inr (5, [.ref q11, .ref q13, .ref q14, .int 0, .long 0])), (q11, .inl (cy 3, 10, .inr (.inr (.inr (.inr (fun i => some (r i))))))), (r 0, .inl (cy 1, 26, .inr (.inl (fun _ => 0)))), (r 1, .inl (cy 1, 26, .inr (.inl (fun _ => 0)))), (r 2, .inl (cy 1, 26, .inr (.inl (fun _ => 0)))), (r 3, .inl (cy 1, 26, .inr (.inl (fun _ => 0)))), (r 4, .inl (cy 1, 26, .inr (.inl (fun _ => 0)))), (r 5, .inl (cy 1, 26, .inr (.inl (fun _ => 0)))), (r 6, .inl (cy 1, 26, .inr (.inl (fun _ => 0)))), (r 7, .inl (cy 1, 26, .inr (.inl (fun _ => 0)))), (r 8, .inl (cy 1, 26, .inr (.inl (fun _ => 0)))), (r 9, .inl (cy 1, 26, .inr (.inl (fun _ => 0)))), (q13, .inl (cy 0, 10, .inl (fun _ => 0))), (q14, .inl (cy 2, 25, .inl (fun _ => 0))), (q15, .inl (cy 0, 21, .inl (fun _ => 0))), (q16, .inl (cy 0, 21, .inl (fun _ => 0))), (q17, .inr (4, [.ref q18])), (q18, .inl (cy 0, 7, .inl (fun _ => 0)))] H := hP
  have hD : va_D A [(h0, .inr (6, [.ref q1, .ref q3, .ref q5, .ref q9, .ref q17, .int 0, .int 0])), (q1, .inr (1, [.ref q2, .int 0])), (q2, .inl (cy 0, 21, .inl (fun _ => 0))), (q3, .inr (2, [.ref q4, .int 0, .int 0, .int 0, .int 0])), (q4, .inl (cy 0, 7, .inl (fun _ => 0))), (q5, .inr (3, [.ref q6, .ref q7, .ref q8, .int 0])), (q6, .inl (cy 0, 3, .inl (fun _ => 0))), (q7, .inl (cy 0, 7, .inl (fun _ => 0))), (q8, .inl (cy 0, 7, .inl (fun _ => 0))), (q9, .inr (0, [.ref q10, .ref q15, .ref q16, .int 0, .int 0, .int 0])), (q10, .inr (5, [.ref q11, .ref q13, .ref q14, .int 0, .long 0])), (q11, .inl (cy 3, 10, .inr (.inr (.inr (.inr (fun i => some (r i))))))), (r 0, .inl (cy 1, 26, .inr (.inl (fun _ => 0)))), (r 1, .inl (cy 1, 26, .inr (.inl (fun _ => 0)))), (r 2, .inl (cy 1, 26, .inr (.inl (fun _ => 0)))), (r 3, .inl (cy 1, 26, .inr (.inl (fun _ => 0)))), (r 4, .inl (cy 1, 26, .inr (.inl (fun _ => 0)))), (r 5, .inl (cy 1, 26, .inr (.inl (fun _ => 0)))), (r 6, .inl (cy 1, 26, .inr (.inl (fun _ => 0)))), (r 7, .inl (cy 1, 26, .inr (.inl (fun _ => 0)))), (r 8, .inl (cy 1, 26, .inr (.inl (fun _ => 0)))), (r 9, .inl (cy 1, 26, .inr (.inl (fun _ => 0)))), (q13, .inl (cy 0, 10, .inl (fun _ => 0))), (q14, .inl (cy 2, 25, .inl (fun _ => 0))), (q15, .inl (cy 0, 21, .inl (fun _ => 0))), (q16, .inl (cy 0, 21, .inl (fun _ => 0))), (q17, .inr (4, [.ref q18])), (q18, .inl (cy 0, 7, .inl (fun _ => 0)))] := hD
  refine W.widen (k := 27) (n := 422) (by omega) (by omega) ?_
  exact W.vret hx hb hr (fun t ht hW => ⟨⟨(q1, q2, q3, q4, q5, q6, q7, q8, q9, q10, q11, r, q13, q14, q15, q16, q17, q18), rfl, trivial, by rw [ht]; exact hP, va_K.moved hW.alike hK, by rw [hAe]; exact hD⟩, hS.F ht⟩) hS.2.2 dX6_init_59
-- ===== X7_init