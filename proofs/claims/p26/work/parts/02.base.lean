/-- row i of a grid replaced -/
def upR (f : Nat → Nat → Int64) (i : Nat) (g : Nat → Int64) : Nat → Nat → Int64 := fun a => if a = i then g else f a
/-- the array classes: int[], long[], boolean[], long[][] -/
def tysC (cy : Nat → ClassId) : List (ClassId × FieldType) := [(cy 0, .int), (cy 1, .long), (cy 2, .boolean), (cy 3, .array .long)]
/-- the component's cells -/
def wC (ad : Nat → Nat) (cy : Nat → ClassId) (ss : Int32) (ds : Int32) (ti : Nat → Int32) (co : Int32) (oma : Nat → Int32) (obr : Int32) (obj : Int32) (obo : Int32) (obm : Int32) (plo : Nat → Int32) (pch : Nat → Int32) (pbe : Nat → Int32) (pbl : Int32) (dnu : Nat → Int32) (dde : Nat → Int32) (dbo : Int32) (dln : Int32) (dld : Int32) (tba : Nat → Int32) (tal : Nat → Int32) (tro : Int32) (tsc : Int64) (tcl : Nat → Nat → Int64) (rma : Nat → Int32) : va_W :=
  [(ad 0, .inr (6, [.ref (ad 1), .ref (ad 3), .ref (ad 5), .ref (ad 9), .ref (ad 16), .int ss, .int ds])), (ad 1, .inr (1, [.ref (ad 2), .int co])), (ad 2, .inl (cy 0, 21, .inl ti)), (ad 3, .inr (2, [.ref (ad 4), .int obr, .int obj, .int obo, .int obm])), (ad 4, .inl (cy 0, 7, .inl oma)), (ad 5, .inr (3, [.ref (ad 6), .ref (ad 7), .ref (ad 8), .int pbl])), (ad 6, .inl (cy 0, 3, .inl plo)), (ad 7, .inl (cy 0, 7, .inl pch)), (ad 8, .inl (cy 0, 7, .inl pbe)), (ad 9, .inr (0, [.ref (ad 12), .ref (ad 10), .ref (ad 11), .int dbo, .int dln, .int dld])), (ad 10, .inl (cy 0, 21, .inl dnu)), (ad 11, .inl (cy 0, 21, .inl dde)), (ad 12, .inr (5, [.ref (ad 13), .ref (ad 14), .ref (ad 15), .int tro, .long tsc])), (ad 13, .inl (cy 3, 10, .inr (.inr (.inr (.inr (fun i => some (ad (18 + i)))))))), (ad 14, .inl (cy 0, 10, .inl tba)), (ad 15, .inl (cy 2, 25, .inl tal)), (ad 16, .inr (4, [.ref (ad 17)])), (ad 17, .inl (cy 0, 7, .inl rma))] ++ (List.range 10).map (fun i => (ad (18 + i), .inl (cy 1, 26, .inr (.inl (tcl i)))))

set_option maxHeartbeats 4000000 in
set_option maxRecDepth 100000 in
theorem wC_row_n {ad : Nat → Nat} {cy : Nat → ClassId} {ss : Int32} {ds : Int32} {ti : Nat → Int32} {co : Int32} {oma : Nat → Int32} {obr : Int32} {obj : Int32} {obo : Int32} {obm : Int32} {plo : Nat → Int32} {pch : Nat → Int32} {pbe : Nat → Int32} {pbl : Int32} {dnu : Nat → Int32} {dde : Nat → Int32} {dbo : Int32} {dln : Int32} {dld : Int32} {tba : Nat → Int32} {tal : Nat → Int32} {tro : Int32} {tsc : Int64} {tcl : Nat → Nat → Int64} {rma : Nat → Int32} {j : Nat} (h : j < 10) : (wC ad cy ss ds ti co oma obr obj obo obm plo pch pbe pbl dnu dde dbo dln dld tba tal tro tsc tcl rma)[18 + j]? = some (ad (18 + j), .inl (cy 1, 26, .inr (.inl (tcl j)))) := by
  match j, h with
  | 0, _ => rfl
  | 1, _ => rfl
  | 2, _ => rfl
  | 3, _ => rfl
  | 4, _ => rfl
  | 5, _ => rfl
  | 6, _ => rfl
  | 7, _ => rfl
  | 8, _ => rfl
  | 9, _ => rfl
  | j + 10, h => exact absurd h (by omega)
set_option maxHeartbeats 4000000 in
set_option maxRecDepth 100000 in
theorem wC_set_n {ad : Nat → Nat} {cy : Nat → ClassId} {ss : Int32} {ds : Int32} {ti : Nat → Int32} {co : Int32} {oma : Nat → Int32} {obr : Int32} {obj : Int32} {obo : Int32} {obm : Int32} {plo : Nat → Int32} {pch : Nat → Int32} {pbe : Nat → Int32} {pbl : Int32} {dnu : Nat → Int32} {dde : Nat → Int32} {dbo : Int32} {dln : Int32} {dld : Int32} {tba : Nat → Int32} {tal : Nat → Int32} {tro : Int32} {tsc : Int64} {tcl : Nat → Nat → Int64} {rma : Nat → Int32} {j : Nat} {g : Nat → Int64} (h : j < 10) : (wC ad cy ss ds ti co oma obr obj obo obm plo pch pbe pbl dnu dde dbo dln dld tba tal tro tsc tcl rma).set (18 + j) (ad (18 + j), .inl (cy 1, 26, .inr (.inl g))) = (wC ad cy ss ds ti co oma obr obj obo obm plo pch pbe pbl dnu dde dbo dln dld tba tal tro tsc (upR tcl j g) rma) := by
  match j, h with
  | 0, _ => rfl
  | 1, _ => rfl
  | 2, _ => rfl
  | 3, _ => rfl
  | 4, _ => rfl
  | 5, _ => rfl
  | 6, _ => rfl
  | 7, _ => rfl
  | 8, _ => rfl
  | 9, _ => rfl
  | j + 10, h => exact absurd h (by omega)
theorem vp_in_lt {i : Int32} {n : Nat} (h : vp_in i n) : i.toNatClampNeg < n := Nat.not_le.mp fun q => h (Or.inr q)
theorem wC_row {ad : Nat → Nat} {cy : Nat → ClassId} {ss : Int32} {ds : Int32} {ti : Nat → Int32} {co : Int32} {oma : Nat → Int32} {obr : Int32} {obj : Int32} {obo : Int32} {obm : Int32} {plo : Nat → Int32} {pch : Nat → Int32} {pbe : Nat → Int32} {pbl : Int32} {dnu : Nat → Int32} {dde : Nat → Int32} {dbo : Int32} {dln : Int32} {dld : Int32} {tba : Nat → Int32} {tal : Nat → Int32} {tro : Int32} {tsc : Int64} {tcl : Nat → Nat → Int64} {rma : Nat → Int32} {i : Int32} (h : vp_in i 10) : (wC ad cy ss ds ti co oma obr obj obo obm plo pch pbe pbl dnu dde dbo dln dld tba tal tro tsc tcl rma)[18 + i.toNatClampNeg]? = some (ad (18 + i.toNatClampNeg), .inl (cy 1, 26, .inr (.inl (tcl i.toNatClampNeg)))) := wC_row_n (vp_in_lt h)
theorem wC_set {ad : Nat → Nat} {cy : Nat → ClassId} {ss : Int32} {ds : Int32} {ti : Nat → Int32} {co : Int32} {oma : Nat → Int32} {obr : Int32} {obj : Int32} {obo : Int32} {obm : Int32} {plo : Nat → Int32} {pch : Nat → Int32} {pbe : Nat → Int32} {pbl : Int32} {dnu : Nat → Int32} {dde : Nat → Int32} {dbo : Int32} {dln : Int32} {dld : Int32} {tba : Nat → Int32} {tal : Nat → Int32} {tro : Int32} {tsc : Int64} {tcl : Nat → Nat → Int64} {rma : Nat → Int32} {i : Int32} {g : Nat → Int64} (h : vp_in i 10) : (wC ad cy ss ds ti co oma obr obj obo obm plo pch pbe pbl dnu dde dbo dln dld tba tal tro tsc tcl rma).set (18 + i.toNatClampNeg) (ad (18 + i.toNatClampNeg), .inl (cy 1, 26, .inr (.inl g))) = (wC ad cy ss ds ti co oma obr obj obo obm plo pch pbe pbl dnu dde dbo dln dld tba tal tro tsc (upR tcl i.toNatClampNeg g) rma) := wC_set_n (vp_in_lt h)

/-- the words on private members of nest mates (they are no part of a contract's word list) -/
def nwC (U : State) : Prop := va_Nw (.fieldLinkNest RX6 66 "UnlikeUnion$Jobs" "times" "[I" "UnlikeUnion") U ∧ va_Nw (.fieldLinkNest RX5 24 "UnlikeUnion$Jobs" "count" "I" "UnlikeUnion") U ∧ va_Nw (.fieldLinkNest RX2 32 "UnlikeUnion$Jobs" "count" "I" "UnlikeUnion") U ∧ va_Nw (.fieldLinkNest RX6 57 "UnlikeUnion$Jobs" "count" "I" "UnlikeUnion") U ∧ va_Nw (.fieldLinkNest RX4 19 "UnlikeUnion$Jobs" "count" "I" "UnlikeUnion") U ∧ va_Nw (.fieldLinkNest RX3 40 "UnlikeUnion$Jobs" "count" "I" "UnlikeUnion") U ∧ va_Nw (.fieldLinkNest RX0 66 "UnlikeUnion$Jobs" "count" "I" "UnlikeUnion") U ∧ va_Nw (.fieldLinkNest RX6 70 "UnlikeUnion$OwnPlan" "machineOf" "[I" "UnlikeUnion") U ∧ va_Nw (.fieldLinkNest RX6 101 "UnlikeUnion$PlanSearch" "best" "[I" "UnlikeUnion") U ∧ va_Nw (.fieldLinkNest RX6 94 "UnlikeUnion$PlanSearch" "bestLength" "I" "UnlikeUnion") U ∧ va_Nw (.fieldLinkNest RX0 52 "UnlikeUnion$Tableau" "scale" "J" "UnlikeUnion") U ∧ va_Nw (.fieldLinkNest RX6 110 "UnlikeUnion$Division" "numerators" "[I" "UnlikeUnion") U ∧ va_Nw (.fieldLinkNest RX6 113 "UnlikeUnion$Division" "denominators" "[I" "UnlikeUnion") U ∧ va_Nw (.fieldLinkNest RX6 107 "UnlikeUnion$Division" "bound" "I" "UnlikeUnion") U ∧ va_Nw (.fieldLinkNest RX6 120 "UnlikeUnion$Division" "leastNumerator" "I" "UnlikeUnion") U ∧ va_Nw (.fieldLinkNest RX6 123 "UnlikeUnion$Division" "leastDenominator" "I" "UnlikeUnion") U ∧ va_Nw (.fieldLinkNest RX6 126 "UnlikeUnion$Rounding" "machineOf" "[I" "UnlikeUnion") U ∧ va_Nw (.methodLinkNest RX6 11 yX1_init "UnlikeUnion") U ∧ va_Nw (.methodLinkNest RX6 18 yX2_init "UnlikeUnion") U ∧ va_Nw (.methodLinkNest RX6 25 yX3_init "UnlikeUnion") U ∧ va_Nw (.methodLinkNest RX6 32 yX0_init "UnlikeUnion") U ∧ va_Nw (.methodLinkNest RX0 11 yX5_init "UnlikeUnion") U ∧ va_Nw (.methodLinkNest RX6 39 yX4_init "UnlikeUnion") U ∧ va_AOA .long U
theorem nw_X6_66 {U : State} (h : nwC U) : va_Nw (.fieldLinkNest RX6 66 "UnlikeUnion$Jobs" "times" "[I" "UnlikeUnion") U := h.1
theorem nw_X5_24 {U : State} (h : nwC U) : va_Nw (.fieldLinkNest RX5 24 "UnlikeUnion$Jobs" "count" "I" "UnlikeUnion") U := h.2.1
theorem nw_X2_32 {U : State} (h : nwC U) : va_Nw (.fieldLinkNest RX2 32 "UnlikeUnion$Jobs" "count" "I" "UnlikeUnion") U := h.2.2.1
theorem nw_X6_57 {U : State} (h : nwC U) : va_Nw (.fieldLinkNest RX6 57 "UnlikeUnion$Jobs" "count" "I" "UnlikeUnion") U := h.2.2.2.1
theorem nw_X4_19 {U : State} (h : nwC U) : va_Nw (.fieldLinkNest RX4 19 "UnlikeUnion$Jobs" "count" "I" "UnlikeUnion") U := h.2.2.2.2.1
theorem nw_X3_40 {U : State} (h : nwC U) : va_Nw (.fieldLinkNest RX3 40 "UnlikeUnion$Jobs" "count" "I" "UnlikeUnion") U := h.2.2.2.2.2.1
theorem nw_X0_66 {U : State} (h : nwC U) : va_Nw (.fieldLinkNest RX0 66 "UnlikeUnion$Jobs" "count" "I" "UnlikeUnion") U := h.2.2.2.2.2.2.1
theorem nw_X6_70 {U : State} (h : nwC U) : va_Nw (.fieldLinkNest RX6 70 "UnlikeUnion$OwnPlan" "machineOf" "[I" "UnlikeUnion") U := h.2.2.2.2.2.2.2.1
theorem nw_X6_101 {U : State} (h : nwC U) : va_Nw (.fieldLinkNest RX6 101 "UnlikeUnion$PlanSearch" "best" "[I" "UnlikeUnion") U := h.2.2.2.2.2.2.2.2.1
theorem nw_X6_94 {U : State} (h : nwC U) : va_Nw (.fieldLinkNest RX6 94 "UnlikeUnion$PlanSearch" "bestLength" "I" "UnlikeUnion") U := h.2.2.2.2.2.2.2.2.2.1
theorem nw_X0_52 {U : State} (h : nwC U) : va_Nw (.fieldLinkNest RX0 52 "UnlikeUnion$Tableau" "scale" "J" "UnlikeUnion") U := h.2.2.2.2.2.2.2.2.2.2.1
theorem nw_X6_110 {U : State} (h : nwC U) : va_Nw (.fieldLinkNest RX6 110 "UnlikeUnion$Division" "numerators" "[I" "UnlikeUnion") U := h.2.2.2.2.2.2.2.2.2.2.2.1
theorem nw_X6_113 {U : State} (h : nwC U) : va_Nw (.fieldLinkNest RX6 113 "UnlikeUnion$Division" "denominators" "[I" "UnlikeUnion") U := h.2.2.2.2.2.2.2.2.2.2.2.2.1
theorem nw_X6_107 {U : State} (h : nwC U) : va_Nw (.fieldLinkNest RX6 107 "UnlikeUnion$Division" "bound" "I" "UnlikeUnion") U := h.2.2.2.2.2.2.2.2.2.2.2.2.2.1
theorem nw_X6_120 {U : State} (h : nwC U) : va_Nw (.fieldLinkNest RX6 120 "UnlikeUnion$Division" "leastNumerator" "I" "UnlikeUnion") U := h.2.2.2.2.2.2.2.2.2.2.2.2.2.2.1
theorem nw_X6_123 {U : State} (h : nwC U) : va_Nw (.fieldLinkNest RX6 123 "UnlikeUnion$Division" "leastDenominator" "I" "UnlikeUnion") U := h.2.2.2.2.2.2.2.2.2.2.2.2.2.2.2.1
theorem nw_X6_126 {U : State} (h : nwC U) : va_Nw (.fieldLinkNest RX6 126 "UnlikeUnion$Rounding" "machineOf" "[I" "UnlikeUnion") U := h.2.2.2.2.2.2.2.2.2.2.2.2.2.2.2.2.1
theorem nw_X6_11 {U : State} (h : nwC U) : va_Nw (.methodLinkNest RX6 11 yX1_init "UnlikeUnion") U := h.2.2.2.2.2.2.2.2.2.2.2.2.2.2.2.2.2.1
theorem nw_X6_18 {U : State} (h : nwC U) : va_Nw (.methodLinkNest RX6 18 yX2_init "UnlikeUnion") U := h.2.2.2.2.2.2.2.2.2.2.2.2.2.2.2.2.2.2.1
theorem nw_X6_25 {U : State} (h : nwC U) : va_Nw (.methodLinkNest RX6 25 yX3_init "UnlikeUnion") U := h.2.2.2.2.2.2.2.2.2.2.2.2.2.2.2.2.2.2.2.1
theorem nw_X6_32 {U : State} (h : nwC U) : va_Nw (.methodLinkNest RX6 32 yX0_init "UnlikeUnion") U := h.2.2.2.2.2.2.2.2.2.2.2.2.2.2.2.2.2.2.2.2.1
theorem nw_X0_11 {U : State} (h : nwC U) : va_Nw (.methodLinkNest RX0 11 yX5_init "UnlikeUnion") U := h.2.2.2.2.2.2.2.2.2.2.2.2.2.2.2.2.2.2.2.2.2.1
theorem nw_X6_39 {U : State} (h : nwC U) : va_Nw (.methodLinkNest RX6 39 yX4_init "UnlikeUnion") U := h.2.2.2.2.2.2.2.2.2.2.2.2.2.2.2.2.2.2.2.2.2.2.1
theorem nw_AO {U : State} (h : nwC U) : va_AOA .long U := h.2.2.2.2.2.2.2.2.2.2.2.2.2.2.2.2.2.2.2.2.2.2.2
theorem va_AOA.warm {ty : FieldType} {s U : State} (hW : s.WarmedH U.vm) (h : va_AOA ty s) : va_AOA ty U := fun args => Jvm.Stand.arrayOver_alikeB hW.alike (h args)
theorem nwC.warm {s U : State} (hW : s.WarmedH U.vm) (h : nwC s) : nwC U := ⟨va_Nw.warmF hW (nw_X6_66 h), va_Nw.warmF hW (nw_X5_24 h), va_Nw.warmF hW (nw_X2_32 h), va_Nw.warmF hW (nw_X6_57 h), va_Nw.warmF hW (nw_X4_19 h), va_Nw.warmF hW (nw_X3_40 h), va_Nw.warmF hW (nw_X0_66 h), va_Nw.warmF hW (nw_X6_70 h), va_Nw.warmF hW (nw_X6_101 h), va_Nw.warmF hW (nw_X6_94 h), va_Nw.warmF hW (nw_X0_52 h), va_Nw.warmF hW (nw_X6_110 h), va_Nw.warmF hW (nw_X6_113 h), va_Nw.warmF hW (nw_X6_107 h), va_Nw.warmF hW (nw_X6_120 h), va_Nw.warmF hW (nw_X6_123 h), va_Nw.warmF hW (nw_X6_126 h), va_Nw.warmM hW (nw_X6_11 h), va_Nw.warmM hW (nw_X6_18 h), va_Nw.warmM hW (nw_X6_25 h), va_Nw.warmM hW (nw_X6_32 h), va_Nw.warmM hW (nw_X0_11 h), va_Nw.warmM hW (nw_X6_39 h), va_AOA.warm hW (nw_AO h)⟩
theorem va_AOA.same {ty : FieldType} {s U : State} (hv : s.vm = U.vm) (h : va_AOA ty s) : va_AOA ty U := fun args => Jvm.Stand.arrayOver_alikeB (hv ▸ Vm.Alike.refl s.vm) (h args)
theorem nwC.same {s U : State} (hv : s.vm = U.vm) (h : nwC s) : nwC U := ⟨va_Nw.same rfl hv (nw_X6_66 h), va_Nw.same rfl hv (nw_X5_24 h), va_Nw.same rfl hv (nw_X2_32 h), va_Nw.same rfl hv (nw_X6_57 h), va_Nw.same rfl hv (nw_X4_19 h), va_Nw.same rfl hv (nw_X3_40 h), va_Nw.same rfl hv (nw_X0_66 h), va_Nw.same rfl hv (nw_X6_70 h), va_Nw.same rfl hv (nw_X6_101 h), va_Nw.same rfl hv (nw_X6_94 h), va_Nw.same rfl hv (nw_X0_52 h), va_Nw.same rfl hv (nw_X6_110 h), va_Nw.same rfl hv (nw_X6_113 h), va_Nw.same rfl hv (nw_X6_107 h), va_Nw.same rfl hv (nw_X6_120 h), va_Nw.same rfl hv (nw_X6_123 h), va_Nw.same rfl hv (nw_X6_126 h), va_Nw.same rfl hv (nw_X6_11 h), va_Nw.same rfl hv (nw_X6_18 h), va_Nw.same rfl hv (nw_X6_25 h), va_Nw.same rfl hv (nw_X6_32 h), va_Nw.same rfl hv (nw_X0_11 h), va_Nw.same rfl hv (nw_X6_39 h), va_AOA.same hv (nw_AO h)⟩
/-- what every walk of a method has at hand -/
def cxM (cc : ByteArray) (nL : Nat) (ret : Option FieldType) (own : String) (ws : List Cond) (p : Program) (s : State) (m : MethodId) (args : Array Value) (meth : Method) (c : Code) (dC : Nat → ClassId) (dI : Nat → Nat → Nat) (cy : Nat → ClassId) (A : Nat → Prop) : Prop :=
  p.tables.exec = Jvm.exec ∧ c.code = cc ∧ c.maxLocals = nL ∧ meth.sig.returnType = ret ∧ s.vm.findClass own = some m.cls ∧ (∀ w ∈ ws, w.before args s = true) ∧ meth.locks = false ∧ va_K (dC, dI) vwCl (tysC cy) s ∧ (∀ q : Nat, s.heap.size ≤ q → A q) ∧ nwC s
/-- the world in a walk -/
def stC (dC : Nat → ClassId) (dI : Nat → Nat → Nat) (A : Nat → Prop) (s : State) (ws : va_W) (H : Heap) (locs : List Loc) : Prop := va_P (dC, dI) vwCl ws H ∧ va_D A ws ∧ va_S A s.heap H locs
/-- what a contract asks of the start -/
def cPre (dC : Nat → ClassId) (dI : Nat → Nat → Nat) (cy : Nat → ClassId) (ws : va_W) (sz : Nat) (U : State) : Prop := U.heap.size = sz ∧ va_P (dC, dI) vwCl ws U.heap ∧ va_K (dC, dI) vwCl (tysC cy) U ∧ va_D (fun _ => True) ws ∧ nwC U
/-- what a contract says of the end -/
def cPost (dC : Nat → ClassId) (dI : Nat → Nat → Nat) (cy : Nat → ClassId) (ws : va_W) (sz : Nat) (ws' : va_W) (t : State) : Prop := va_P (dC, dI) vwCl ws' t.heap ∧ va_K (dC, dI) vwCl (tysC cy) t ∧ va_D (va_A ws sz) ws'
section
variable {dC : Nat → ClassId} {dI : Nat → Nat → Nat} {cy : Nat → ClassId} {ws ws' : va_W} {sz : Nat} {A : Nat → Prop} {s U t : State} {H H0 : Heap} {locs : List Loc}
theorem cPre_blind {av : List Value} : ∀ (a : Array Value) (U : State) (g : JFrame) (mk : MethodId), va_Pc av (cPre dC dI cy ws sz) a U → va_Pc av (cPre dC dI cy ws sz) a (U.calling g mk a) := fun a U g mk q => by
  obtain ⟨q0, q1, qP, qK, qD, qN⟩ := q
  exact ⟨q0, q1, qP, va_K.moved (u := U) (U := U.calling g mk a) (Vm.Alike.refl U.vm) qK, qD, nwC.same (U := U.calling g mk a) rfl qN⟩
theorem cPre_at (hP : va_P (dC, dI) vwCl ws H) (hK : va_K (dC, dI) vwCl (tysC cy) s) (hD : va_D A ws) (hN : nwC s) (hU : U.heap = H) (hW : s.WarmedH U.vm) : cPre dC dI cy ws H.size U :=
  ⟨by rw [hU], by rw [hU]; exact hP, va_K.moved hW.alike hK, hD.weaken (fun _ _ _ _ => trivial), hN.warm hW⟩
theorem cPost_P (ht : t.heap = H) (h : cPost dC dI cy ws sz ws' t) : va_P (dC, dI) vwCl ws' H := ht ▸ h.1
theorem cPost_D (hF : ∀ q, va_A ws sz q → A q) (h : cPost dC dI cy ws sz ws' t) : va_D A ws' := h.2.2.weaken (fun _ _ _ q => hF _ q)
theorem cPost_of (hAe : va_A ws sz = A) (ht : t.heap = H) (hal : s.vm.Alike t.vm) (hSt : stC dC dI A s ws' H locs) (hK : va_K (dC, dI) vwCl (tysC cy) s) : cPost dC dI cy ws sz ws' t :=
  ⟨by rw [ht]; exact hSt.1, va_K.moved hal hK, by rw [hAe]; exact hSt.2.1⟩
theorem va_freeSame (hD : va_D A ws) (hS : va_S A H0 H locs) (hA : ∀ q : Nat, H0.size ≤ q → A q) : ∀ q, va_A ws H.size q → A q := fun q h => h.elim (fun ⟨k, _, hk⟩ => hD.2 k _ hk) (fun h => hA q (Nat.le_trans hS.1 h))
end
theorem lgc_toInt (x y : Int64) : lg_cmp x y = if y.toInt < x.toInt then 1 else if x.toInt = y.toInt then 0 else -1 := by
  unfold lg_cmp
  have h1 : (x > y) ↔ y.toInt < x.toInt := Int64.lt_iff_toInt_lt
  have h2 : x = y ↔ x.toInt = y.toInt := Int64.toInt_inj.symm
  simp only [h1, h2]
theorem lgc_le {x y : Int64} : lg_cmp x y ≤ 0 ↔ x ≤ y := by
  rw [lgc_toInt, Int64.le_iff_toInt_le]
  split
  · exact ⟨fun h => absurd h (by decide), fun h => by omega⟩
  · split
    · exact ⟨fun _ => by omega, fun _ => by decide⟩
    · exact ⟨fun _ => by omega, fun _ => by decide⟩
theorem lgc_lt {x y : Int64} : lg_cmp x y < 0 ↔ x < y := by
  rw [lgc_toInt, Int64.lt_iff_toInt_lt]
  split
  · exact ⟨fun h => absurd h (by decide), fun h => by omega⟩
  · split
    · exact ⟨fun h => absurd h (by decide), fun h => by omega⟩
    · exact ⟨fun _ => by omega, fun _ => by decide⟩
theorem lgc_gt {x y : Int64} : 0 < lg_cmp x y ↔ y < x := by
  rw [lgc_toInt, Int64.lt_iff_toInt_lt]
  split
  · exact ⟨fun _ => by omega, fun _ => by decide⟩
  · split
    · exact ⟨fun h => absurd h (by decide), fun h => by omega⟩
    · exact ⟨fun h => absurd h (by decide), fun h => by omega⟩
theorem lgc_ge {x y : Int64} : 0 ≤ lg_cmp x y ↔ y ≤ x := by
  rw [lgc_toInt, Int64.le_iff_toInt_le]
  split
  · exact ⟨fun _ => by omega, fun _ => by decide⟩
  · split
    · exact ⟨fun _ => by omega, fun _ => by decide⟩
    · exact ⟨fun h => absurd h (by decide), fun h => by omega⟩
theorem lgc_eq {x y : Int64} : lg_cmp x y = 0 ↔ x = y := by
  rw [lgc_toInt, ← Int64.toInt_inj]
  split
  · exact ⟨fun h => absurd h (by decide), fun h => by omega⟩
  · split
    · exact ⟨fun _ => by omega, fun _ => by decide⟩
    · exact ⟨fun h => absurd h (by decide), fun h => by omega⟩
section
variable {p : Program} {l : Launch} {e : Env} {R : Room} {s : State} {m : MethodId} {args : Array Value} {below : List Frame} {meth : Method} {c : Code} {H : Heap} {locs : List Loc} {cells slots : Nat} {Q : State → Prop} {cc : ByteArray} {pc : Nat} {ls : Array Slot} {rest : List Value}
theorem lq_le (hexec : p.tables.exec = Jvm.exec) (hb : c.code = cc) {x y : Int64} {off : Int} {tgt : Nat} (h1 : decode cc pc = .ok (.lcmp, 1)) (h2 : decode cc (pc + 1) = .ok (.ifCond .le off, 3)) (ht : ((pc + 1 : Nat) : Int) + off = (tgt : Int))
    (kt : x ≤ y → W p l e R s m args below meth c H locs cells slots Q (F0 m tgt ls rest)) (kf : ¬ x ≤ y → W p l e R s m args below meth c H locs cells slots Q (F0 m (pc + 1 + 3) ls rest)) : W p l e R s m args below meth c H locs cells slots Q (F0 m pc ls (.long y :: .long x :: rest)) :=
  W.lcmp hexec hb h1 (lv_if_le hexec hb h2 ht (fun h => kt (lgc_le.mp h)) (fun h => kf (fun q => h (lgc_le.mpr q))))
theorem lq_lt (hexec : p.tables.exec = Jvm.exec) (hb : c.code = cc) {x y : Int64} {off : Int} {tgt : Nat} (h1 : decode cc pc = .ok (.lcmp, 1)) (h2 : decode cc (pc + 1) = .ok (.ifCond .lt off, 3)) (ht : ((pc + 1 : Nat) : Int) + off = (tgt : Int))
    (kt : x < y → W p l e R s m args below meth c H locs cells slots Q (F0 m tgt ls rest)) (kf : ¬ x < y → W p l e R s m args below meth c H locs cells slots Q (F0 m (pc + 1 + 3) ls rest)) : W p l e R s m args below meth c H locs cells slots Q (F0 m pc ls (.long y :: .long x :: rest)) :=
  W.lcmp hexec hb h1 (lv_if_lt hexec hb h2 ht (fun h => kt (lgc_lt.mp h)) (fun h => kf (fun q => h (lgc_lt.mpr q))))
theorem lq_gt (hexec : p.tables.exec = Jvm.exec) (hb : c.code = cc) {x y : Int64} {off : Int} {tgt : Nat} (h1 : decode cc pc = .ok (.lcmp, 1)) (h2 : decode cc (pc + 1) = .ok (.ifCond .gt off, 3)) (ht : ((pc + 1 : Nat) : Int) + off = (tgt : Int))
    (kt : y < x → W p l e R s m args below meth c H locs cells slots Q (F0 m tgt ls rest)) (kf : ¬ y < x → W p l e R s m args below meth c H locs cells slots Q (F0 m (pc + 1 + 3) ls rest)) : W p l e R s m args below meth c H locs cells slots Q (F0 m pc ls (.long y :: .long x :: rest)) :=
  W.lcmp hexec hb h1 (lv_if_gt hexec hb h2 ht (fun h => kt (lgc_gt.mp h)) (fun h => kf (fun q => h (lgc_gt.mpr q))))
theorem lq_ge (hexec : p.tables.exec = Jvm.exec) (hb : c.code = cc) {x y : Int64} {off : Int} {tgt : Nat} (h1 : decode cc pc = .ok (.lcmp, 1)) (h2 : decode cc (pc + 1) = .ok (.ifCond .ge off, 3)) (ht : ((pc + 1 : Nat) : Int) + off = (tgt : Int))
    (kt : y ≤ x → W p l e R s m args below meth c H locs cells slots Q (F0 m tgt ls rest)) (kf : ¬ y ≤ x → W p l e R s m args below meth c H locs cells slots Q (F0 m (pc + 1 + 3) ls rest)) : W p l e R s m args below meth c H locs cells slots Q (F0 m pc ls (.long y :: .long x :: rest)) :=
  W.lcmp hexec hb h1 (lv_if_ge hexec hb h2 ht (fun h => kt (lgc_ge.mp h)) (fun h => kf (fun q => h (lgc_ge.mpr q))))
theorem lq_eq (hexec : p.tables.exec = Jvm.exec) (hb : c.code = cc) {x y : Int64} {off : Int} {tgt : Nat} (h1 : decode cc pc = .ok (.lcmp, 1)) (h2 : decode cc (pc + 1) = .ok (.ifCond .eq off, 3)) (ht : ((pc + 1 : Nat) : Int) + off = (tgt : Int))
    (kt : x = y → W p l e R s m args below meth c H locs cells slots Q (F0 m tgt ls rest)) (kf : ¬ x = y → W p l e R s m args below meth c H locs cells slots Q (F0 m (pc + 1 + 3) ls rest)) : W p l e R s m args below meth c H locs cells slots Q (F0 m pc ls (.long y :: .long x :: rest)) :=
  W.lcmp hexec hb h1 (lv_if_eq hexec hb h2 ht (fun h => kt (lgc_eq.mp h)) (fun h => kf (fun q => h (lgc_eq.mpr q))))
theorem lq_ne (hexec : p.tables.exec = Jvm.exec) (hb : c.code = cc) {x y : Int64} {off : Int} {tgt : Nat} (h1 : decode cc pc = .ok (.lcmp, 1)) (h2 : decode cc (pc + 1) = .ok (.ifCond .ne off, 3)) (ht : ((pc + 1 : Nat) : Int) + off = (tgt : Int))
    (kt : ¬ x = y → W p l e R s m args below meth c H locs cells slots Q (F0 m tgt ls rest)) (kf : x = y → W p l e R s m args below meth c H locs cells slots Q (F0 m (pc + 1 + 3) ls rest)) : W p l e R s m args below meth c H locs cells slots Q (F0 m pc ls (.long y :: .long x :: rest)) :=
  W.lcmp hexec hb h1 (lv_if_ne hexec hb h2 ht (fun h => kt (fun q => h (lgc_eq.mpr q))) (fun h => kf (lgc_eq.mp h)))
/-- a row of a grid is read -/
theorem va_aldA (hexec : p.tables.exec = Jvm.exec) (hb : c.code = cc) {D : va_G} {cl : List vw_C} {tys : List (ClassId × FieldType)} {ws : va_W} {a : Nat} (hK : va_K D cl tys s) (hP : va_P D cl ws H) (q0 t0 : Nat) {cA : ClassId} {ty : FieldType} {n : Nat} {f : Nat → Nat} (ha : ws[q0]? = some (a, .inl (cA, n, .inr (.inr (.inr (.inr (fun j => some (f j)))))))) (ht : tys[t0]? = some (cA, .array ty)) {i : Int32} (hin : vp_in i n) (hdg : decode cc pc = .ok (.aaload, 1))
    (kk : W p l e R s m args below meth c H locs cells slots Q (F0 m (pc + 1) ls (.ref (f i.toNatClampNeg) :: rest))) : W p l e R s m args below meth c H locs cells slots Q (F0 m pc ls (.int i :: .ref a :: rest)) := by
  have hlt : i.toNatClampNeg < n := vp_in_lt hin
  exact W.aald (v := .ref (f i.toNatClampNeg)) (ty := .array ty) hexec hb (hP q0 _ ha) ((hK.2 t0 _ ht).1 n (fun j => va_rf (some (f j)))) rfl (fun q => by cases q) (by show ¬ (i < 0 ∨ (arrV _ _ _).slots.size ≤ _); rw [arrV_size]; exact hin) (by show (arrV _ _ _).slots[_]? = _; rw [arrV_read _ _ hlt]; rfl) rfl rfl hdg kk
theorem wC_aald (hexec : p.tables.exec = Jvm.exec) (hb : c.code = cc) {dC : Nat → ClassId} {dI : Nat → Nat → Nat} {cy : Nat → ClassId} {ad : Nat → Nat} {ss : Int32} {ds : Int32} {ti : Nat → Int32} {co : Int32} {oma : Nat → Int32} {obr : Int32} {obj : Int32} {obo : Int32} {obm : Int32} {plo : Nat → Int32} {pch : Nat → Int32} {pbe : Nat → Int32} {pbl : Int32} {dnu : Nat → Int32} {dde : Nat → Int32} {dbo : Int32} {dln : Int32} {dld : Int32} {tba : Nat → Int32} {tal : Nat → Int32} {tro : Int32} {tsc : Int64} {tcl : Nat → Nat → Int64} {rma : Nat → Int32} (hK : va_K (dC, dI) vwCl (tysC cy) s) (hP : va_P (dC, dI) vwCl (wC ad cy ss ds ti co oma obr obj obo obm plo pch pbe pbl dnu dde dbo dln dld tba tal tro tsc tcl rma) H) {i : Int32} (hin : vp_in i 10) (hdg : decode cc pc = .ok (.aaload, 1))
    (kk : W p l e R s m args below meth c H locs cells slots Q (F0 m (pc + 1) ls (.ref (ad (18 + i.toNatClampNeg)) :: rest))) : W p l e R s m args below meth c H locs cells slots Q (F0 m pc ls (.int i :: .ref (ad 13) :: rest)) :=
  va_aldA hexec hb hK hP 13 3 (f := fun j => ad (18 + j)) rfl rfl hin hdg kk
end
