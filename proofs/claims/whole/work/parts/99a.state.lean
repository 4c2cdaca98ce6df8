/-! the law: its state -/
def IV (n : Nat) (ti : Nat → Int32) (g : Nat → Nat) (oma : Nat → Int32) (ss pbl : Int32) (pbe : Nat → Int32) (ds : Int32) (dnu dde : Nat → Int32) (dbo dln dld : Int32) (rma mow : Nat → Int32) : Prop := Good n ti g ∧ PL n oma g ∧ (ss ≠ 0 → SInv n ti pbl pbe) ∧ (ds ≠ 0 → DInv n ti dnu dde dbo dln dld rma) ∧ PL n mow g
def cxLaw (p : Program) (s : State) (m : MethodId) (args : Array Value) (meth : Method) (c : Code) (dC : Nat → ClassId) (dI : Nat → Nat → Nat) (cy : Nat → ClassId) (A : Nat → Prop) (b L : Nat) (xs : Nat → Int32) : Prop :=
  p.tables.exec = Jvm.exec ∧ c.code = cL_law ∧ c.maxLocals = 9 ∧ meth.sig.returnType = ret ∧ s.vm.findClass RL = some m.cls ∧ (∀ w ∈ wsL_law, w.before args s = true) ∧ meth.locks = false ∧ va_K (dC, dI) vwCl (tysC cy) s ∧ (∀ q : Nat, s.heap.size ≤ q → A q) ∧ nwC s ∧ xwC s ∧ xsC A s s.heap ∧ va_X b L xs s s.heap ∧ b < s.heap.size ∧ ¬ A b
theorem wp_assoc {D : va_G} {cl : List vw_C} {a b c : va_W} {H : Heap} : va_P D cl ((a ++ b) ++ c) H ↔ va_P D cl (a ++ (b ++ c)) H := by rw [List.append_assoc]
theorem wd_assoc {A : Nat → Prop} {a b c : va_W} : va_D A ((a ++ b) ++ c) ↔ va_D A (a ++ (b ++ c)) := by rw [List.append_assoc]
