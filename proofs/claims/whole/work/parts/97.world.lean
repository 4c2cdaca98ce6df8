/-! worlds side by side -/
theorem wp_app {D : va_G} {cl : List vw_C} {a b : va_W} {H : Heap} : va_P D cl (a ++ b) H ↔ va_P D cl a H ∧ va_P D cl b H := by
  constructor
  · intro h
    refine ⟨fun k q hk => h k q ?_, fun k q hk => h (a.length + k) q ?_⟩
    · rw [List.getElem?_append_left (List.getElem?_eq_some_iff.mp hk).1]; exact hk
    · rw [List.getElem?_append_right (Nat.le_add_right _ _), Nat.add_sub_cancel_left]; exact hk
  · intro ⟨h1, h2⟩ k q hk
    rcases Nat.lt_or_ge k a.length with r | r
    · rw [List.getElem?_append_left r] at hk; exact h1 k q hk
    · rw [List.getElem?_append_right r] at hk; exact h2 _ q hk
theorem wd_app {A : Nat → Prop} {a b : va_W} : va_D A (a ++ b) ↔ va_D A a ∧ va_D A b ∧ ∀ (i j : Nat) (p q : Nat × va_E), a[i]? = some p → b[j]? = some q → p.1 ≠ q.1 := by
  have la : ∀ {k : Nat} {q : Nat × va_E}, a[k]? = some q → (a ++ b)[k]? = some q ∧ k < a.length := fun {k q} hk => by
    have := (List.getElem?_eq_some_iff.mp hk).1
    rw [List.getElem?_append_left this]; exact ⟨hk, this⟩
  have lb : ∀ {k : Nat} {q : Nat × va_E}, b[k]? = some q → (a ++ b)[a.length + k]? = some q := fun {k q} hk => by
    rw [List.getElem?_append_right (Nat.le_add_right _ _), Nat.add_sub_cancel_left]; exact hk
  constructor
  · intro h
    refine ⟨⟨fun i j p q hi hj e => h.1 i j p q (la hi).1 (la hj).1 e, fun k q hk => h.2 k q (la hk).1⟩, ⟨fun i j p q hi hj e => ?_, fun k q hk => h.2 _ q (lb hk)⟩, fun i j p q hi hj e => ?_⟩
    · have := h.1 _ _ p q (lb hi) (lb hj) e; omega
    · have := h.1 _ _ p q (la hi).1 (lb hj) e
      have := (la hi).2
      omega
  · intro ⟨h1, h2, h3⟩
    refine ⟨fun i j p q hi hj e => ?_, fun k q hk => ?_⟩
    · rcases Nat.lt_or_ge i a.length with r | r <;> rcases Nat.lt_or_ge j a.length with t | t
      · rw [List.getElem?_append_left r] at hi
        rw [List.getElem?_append_left t] at hj
        exact h1.1 i j p q hi hj e
      · rw [List.getElem?_append_left r] at hi
        rw [List.getElem?_append_right t] at hj
        exact absurd e (h3 _ _ p q hi hj)
      · rw [List.getElem?_append_right r] at hi
        rw [List.getElem?_append_left t] at hj
        exact absurd e.symm (h3 _ _ q p hj hi)
      · rw [List.getElem?_append_right r] at hi
        rw [List.getElem?_append_right t] at hj
        have := h2.1 _ _ p q hi hj e
        omega
    · rcases Nat.lt_or_ge k a.length with r | r
      · rw [List.getElem?_append_left r] at hk; exact h1.2 k q hk
      · rw [List.getElem?_append_right r] at hk; exact h2.2 _ q hk
/-- a part that the callee did not have stays -/
theorem wk_rest {D : va_G} {cl : List vw_C} {A : Nat → Prop} {w r : va_W} {H H1 : Heap} (hP : va_P D cl r H) (hx : ∀ (i j : Nat) (p q : Nat × va_E), w[i]? = some p → r[j]? = some q → p.1 ≠ q.1) (hk : ∀ q : Nat, q < H.size → ¬ va_A w H.size q → H1[q]? = H[q]?) : va_P D cl r H1 ∧ ∀ (k : Nat) (q : Nat × va_E), r[k]? = some q → ¬ va_A w H.size q.1 := by
  have no : ∀ (k : Nat) (q : Nat × va_E), r[k]? = some q → ¬ va_A w H.size q.1 := fun k q hq h => by
    rcases h with ⟨i, e, h⟩ | h
    · exact hx i k (q.1, e) q h hq rfl
    · have := (hP k q hq).lt; omega
  exact ⟨hP.kept (fun k q hq => hk q.1 (hP k q hq).lt (no k q hq)), no⟩
theorem wj_l {D : va_G} {cl : List vw_C} {A : Nat → Prop} {a b a1 : va_W} {H H1 : Heap} (hP : va_P D cl (a ++ b) H) (hD : va_D A (a ++ b)) (hk : ∀ q : Nat, q < H.size → ¬ va_A a H.size q → H1[q]? = H[q]?) (hF : ∀ q, va_A a H.size q → A q) (hP1 : va_P D cl a1 H1) (hD1 : va_D (va_A a H.size) a1) : va_P D cl (a1 ++ b) H1 ∧ va_D A (a1 ++ b) := by
  obtain ⟨-, pb⟩ := wp_app.mp hP
  obtain ⟨-, db, hx⟩ := wd_app.mp hD
  obtain ⟨pb1, no⟩ := wk_rest (A := A) pb hx hk
  refine ⟨wp_app.mpr ⟨hP1, pb1⟩, wd_app.mpr ⟨hD1.weaken (fun _ _ _ h => hF _ h), db, fun i j p q hi hj e => ?_⟩⟩
  exact no j q hj (by rw [← e]; exact hD1.2 i p hi)
theorem wj_r {D : va_G} {cl : List vw_C} {A : Nat → Prop} {a b b1 : va_W} {H H1 : Heap} (hP : va_P D cl (a ++ b) H) (hD : va_D A (a ++ b)) (hk : ∀ q : Nat, q < H.size → ¬ va_A b H.size q → H1[q]? = H[q]?) (hF : ∀ q, va_A b H.size q → A q) (hP1 : va_P D cl b1 H1) (hD1 : va_D (va_A b H.size) b1) : va_P D cl (a ++ b1) H1 ∧ va_D A (a ++ b1) := by
  obtain ⟨pa, -⟩ := wp_app.mp hP
  obtain ⟨da, -, hx⟩ := wd_app.mp hD
  obtain ⟨pa1, no⟩ := wk_rest (A := A) pa (fun i j p q hi hj e => hx j i q p hj hi e.symm) hk
  refine ⟨wp_app.mpr ⟨pa1, hP1⟩, wd_app.mpr ⟨da, hD1.weaken (fun _ _ _ h => hF _ h), fun i j p q hi hj e => ?_⟩⟩
  exact no i p hi (by rw [e]; exact hD1.2 j q hj)
/-- a contract of a method with a table, none of whose throws leaves it -/
theorem Met_ofWH {l : Launch} {y : MethodName} {ws ws' : List Cond} {rm : Room} {Pc : Array Value → State → Prop} {Qc : Array Value → State → Outcome → State → Prop} {mc ms : Nat} {free : Addr → Prop} {cc : ByteArray} {maxL : Nat} {ret : Option FieldType} {hh : List (Nat × Nat × Nat × Nat)}
    (hy : plainName y.cls = true) (hw : ws = Cond.codeWith y cc maxL ret hh :: ws')
    (body : ∀ p e s m args below meth c s₁, BodyLoose p l y (headSpec ws rm) cc maxL ret e s m args below meth c s₁ → c.maxLocals = maxL → Pc args s →
      W p l e (headSpec ws rm).room s m args below meth c s.heap [] 0 0 (MQ below Qc args s mc ms free) (entryFrame m args maxL)) : Met l y ws rm Pc Qc mc ms free := by
  refine MetFree.of_bodyS (code := cc) (maxLocals := maxL) (ret := ret) hy (fun args s m h hn => ?_) (fun p e s m args below meth c s₁ B hml hP _ => ?_)
  · obtain ⟨m9, meth, c, hn9, h1, h2, h3, h4, -, h5, h6, -⟩ := Cond.codeWith_spec (atoms_spec (ws := ws) h _ (by rw [hw]; exact List.mem_cons_self))
    cases hn.symm.trans hn9
    exact ⟨meth, c, h1, h2, h3, h4, h5, h6⟩
  · obtain ⟨t, a1, o, b1, b2, b3⟩ := body p e s m args below meth c s₁ B hml hP s₁ (by rw [B.state]; rfl) (Stand.of_body B)
    exact ⟨t, o, a1, b1, b2, b3⟩
/-- the component's world and the law's row -/
abbrev oW (ao : Nat) (cy : Nat → ClassId) (ov : Nat → Int64) : va_W := [(ao, .inl (cy 1, 1, .inr (.inl ov)))]
theorem in01 : vp_in (0 : Int32) 1 := by rw [← nI_0]; exact vp_in_nI (by decide) (by decide)
theorem upd01 {f : Nat → Int64} {v : Int64} : vp_updL f (0 : Int32).toNatClampNeg v 0 = v := by
  have e : (0 : Int32).toNatClampNeg = 0 := by decide
  rw [e]
  show (if 0 = 0 then v else f 0) = v
  exact if_pos rfl
