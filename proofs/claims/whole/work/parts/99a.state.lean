/-! the law: its state -/
structure CS where
  ss : Int32
  ds : Int32
  oma : Nat → Int32
  obr : Int32
  obj : Int32
  obo : Int32
  obm : Int32
  plo : Nat → Int32
  pch : Nat → Int32
  pbe : Nat → Int32
  pbl : Int32
  dnu : Nat → Int32
  dde : Nat → Int32
  dbo : Int32
  dln : Int32
  dld : Int32
  tba : Nat → Int32
  tal : Nat → Int32
  tro : Int32
  tsc : Int64
  tcl : Nat → Nat → Int64
  rma : Nat → Int32
structure MS where
  mow : Nat → Int32
  mta : Nat → Int64
  mba : Nat → Int32
  mib : Nat → Int32
  mdi : Int64
  mab : Nat → Int64
  mbe : Nat → Int64
  mpl : Nat → Int32
  mbs : Nat → Int32
  mro : Nat → Int32
  mlo : Nat → Int32
  mth : Int32
abbrev lW (ad am : Nat → Nat) (ao : Nat) (cy : Nat → ClassId) (ti : Nat → Int32) (co : Int32) (v : CS) (ov : Nat → Int64) (jo : Int32) (w : MS) : va_W := (wC ad cy v.ss v.ds ti co v.oma v.obr v.obj v.obo v.obm v.plo v.pch v.pbe v.pbl v.dnu v.dde v.dbo v.dln v.dld v.tba v.tal v.tro v.tsc v.tcl v.rma ++ oW ao cy ov) ++ wM am cy ti w.mow jo w.mta w.mba w.mib w.mdi w.mab w.mbe w.mpl w.mbs w.mro w.mlo w.mth
def IV (n : Nat) (ti : Nat → Int32) (g : Nat → Nat) (v : CS) (w : MS) : Prop := Good n ti g ∧ PL n v.oma g ∧ (v.ss ≠ 0 → SInv n ti v.pbl v.pbe) ∧ (v.ds ≠ 0 → DInv n ti v.dnu v.dde v.dbo v.dln v.dld v.rma) ∧ PL n w.mow g
def cxLaw (p : Program) (s : State) (m : MethodId) (args : Array Value) (meth : Method) (c : Code) (dC : Nat → ClassId) (dI : Nat → Nat → Nat) (cy : Nat → ClassId) (A : Nat → Prop) (b L : Nat) (xs : Nat → Int32) : Prop :=
  p.tables.exec = Jvm.exec ∧ c.code = cL_law ∧ c.maxLocals = 9 ∧ meth.sig.returnType = ret ∧ s.vm.findClass RL = some m.cls ∧ (∀ w ∈ wsL_law, w.before args s = true) ∧ meth.locks = false ∧ va_K (dC, dI) vwCl (tysC cy) s ∧ (∀ q : Nat, s.heap.size ≤ q → A q) ∧ nwC s ∧ xwC s ∧ xsC A s s.heap ∧ va_X b L xs s s.heap ∧ b < s.heap.size ∧ ¬ A b
theorem wp_assoc {D : va_G} {cl : List vw_C} {a b c : va_W} {H : Heap} : va_P D cl ((a ++ b) ++ c) H ↔ va_P D cl (a ++ (b ++ c)) H := by rw [List.append_assoc]
theorem wd_assoc {A : Nat → Prop} {a b c : va_W} : va_D A ((a ++ b) ++ c) ↔ va_D A (a ++ (b ++ c)) := by rw [List.append_assoc]
