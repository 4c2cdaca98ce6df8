/-! what both sides answer, in words of the jobs and the own plan -/
def Good (n : Nat) (ti : Nat → Int32) (g : Nat → Nat) : Prop := JI n ti ∧ feas n (tN ti) g
theorem Good.has {n : Nat} {ti : Nat → Int32} {g : Nat → Nat} (h : Good n ti g) : ∀ j, j < n → hasC 50 (tmI ti) j := fun j hj => by
  obtain ⟨h1, h2⟩ := h.2 j hj
  have ok : ∀ i, i < 3 → 0 < tN ti (3 * j + i) → okC 50 (tmI ti) (3 * j + i) := fun i hi hp => by
    obtain ⟨e1, -, e3⟩ := tN_le h.1 (show 3 * j + i < 3 * n by omega)
    exact ⟨by omega, by omega⟩
  rcases (show g j = 0 ∨ g j = 1 ∨ g j = 2 by omega) with e | e | e
  · rw [e] at h2; exact Or.inl (ok 0 (by omega) h2)
  · rw [e] at h2; exact Or.inr (Or.inl (ok 1 (by omega) h2))
  · rw [e] at h2; exact Or.inr (Or.inr (ok 2 (by omega) h2))
theorem feas.congr {n : Nat} {t g h : Nat → Nat} (a : feas n t g) (e : ∀ j, j < n → h j = g j) : feas n t h := fun j hj => by rw [e j hj]; exact a j hj
theorem Good.congr {n : Nat} {ti : Nat → Int32} {g h : Nat → Nat} (a : Good n ti g) (e : ∀ j, j < n → h j = g j) : Good n ti h := ⟨a.1, a.2.congr e⟩
/-- the shortest plan -/
noncomputable def bP (n : Nat) (ti : Nat → Int32) : (Nat → Nat) × Nat := Classical.epsilon (fun p => Best n (tN ti) p.1 p.2)
theorem bP_of {n L : Nat} {ti : Nat → Int32} {f : Nat → Nat} (h : Best n (tN ti) f L) : L = (bP n ti).2 ∧ ∀ j, j < n → f j = (bP n ti).1 j :=
  h.uniq (Classical.epsilon_spec (p := fun p : (Nat → Nat) × Nat => Best n (tN ti) p.1 p.2) ⟨(f, L), h⟩)
/-- the bound -/
noncomputable def tB (n : Nat) (ti : Nat → Int32) : Nat := Classical.epsilon (fun T => Bnd n (tmI ti) T)
theorem tB_of {n T : Nat} {ti : Nat → Int32} (h : Bnd n (tmI ti) T) : T = tB n ti := h.uniq (Classical.epsilon_spec (p := fun T => Bnd n (tmI ti) T) ⟨T, h⟩)
/-- the shares -/
noncomputable def sH (n : Nat) (ti : Nat → Int32) : (Nat → Nat) × (Nat → Nat) := Classical.epsilon (fun p => ND n (tmI ti) p.1 p.2)
theorem sH_of {n : Nat} {ti : Nat → Int32} {num den : Nat → Nat} (h : ND n (tmI ti) num den) : ND n (tmI ti) (sH n ti).1 (sH n ti).2 ∧ ∀ c, c < 3 * n → num c = (sH n ti).1 c ∧ den c = (sH n ti).2 c := by
  have := Classical.epsilon_spec (p := fun p : (Nat → Nat) × (Nat → Nat) => ND n (tmI ti) p.1 p.2) ⟨(num, den), h⟩
  exact ⟨this, h.uniq this⟩
/-- the least number -/
noncomputable def lS (n : Nat) (ti : Nat → Int32) : Nat × Nat := Classical.epsilon (fun p : Nat × Nat => Least n (tmI ti) p.1 p.2)
theorem lS_of {n v d : Nat} {ti : Nat → Int32} (h : Least n (tmI ti) v d) : fnum v d = fnum (lS n ti).1 (lS n ti).2 ∧ fden v d = fden (lS n ti).1 (lS n ti).2 := by
  have g : Least n (tmI ti) ((lS n ti).1 : Nat) ((lS n ti).2 : Nat) := Classical.epsilon_spec (p := fun p : Nat × Nat => Least n (tmI ti) p.1 p.2) ⟨(v, d), h⟩
  have h1 := h.uniq g
  have hd := h.1
  have gd := g.1
  have h2 : v * (lS n ti).2 = (lS n ti).1 * d := by exact_mod_cast h1
  obtain ⟨f1, f2⟩ := frac_same (v := v) (d := d) (w := (lS n ti).1) (e := (lS n ti).2) (by omega) (by omega) h2
  unfold fnum fden
  rw [f1, f2]
  exact ⟨rfl, rfl⟩
/-- the rounded plan -/
noncomputable def rD (n : Nat) (ti : Nat → Int32) : Nat → Nat := Classical.epsilon (fun g => RD n (sH n ti).1 (sH n ti).2 g)
theorem rD_of {n : Nat} {ti : Nat → Int32} {num den gr : Nat → Nat} (h : ND n (tmI ti) num den) (hr : RD n num den gr) : RD n (sH n ti).1 (sH n ti).2 (rD n ti) ∧ ∀ j, j < n → gr j = rD n ti j := by
  have h1 := hr.congr (sH_of h).2
  have h2 := Classical.epsilon_spec (p := fun g => RD n (sH n ti).1 (sH n ti).2 g) ⟨gr, h1⟩
  exact ⟨h2, h1.uniq h2⟩
/-- what the component keeps -/
def SInv (n : Nat) (ti : Nat → Int32) (pbl : Int32) (pbe : Nat → Int32) : Prop := (bP n ti).2 ≤ 350 ∧ Best n (tN ti) (bP n ti).1 (bP n ti).2 ∧ pbl = nI (bP n ti).2 ∧ ∀ j, j < n → pbe j = nI ((bP n ti).1 j)
def DInv (n : Nat) (ti : Nat → Int32) (dnu dde : Nat → Int32) (dbo dln dld : Int32) (rma : Nat → Int32) : Prop := (dbo = nI (tB n ti) ∧ ∃ w e : Nat, Least n (tmI ti) w e ∧ e ≤ 27000000 ∧ w ≤ 189000000 ∧ fnum (lS n ti).1 (lS n ti).2 = fnum w e ∧ fden (lS n ti).1 (lS n ti).2 = fden w e) ∧ ND n (tmI ti) (sH n ti).1 (sH n ti).2 ∧ (∀ c, c < 3 * n → dnu c = nI ((sH n ti).1 c) ∧ dde c = nI ((sH n ti).2 c)) ∧ dln = fnum (lS n ti).1 (lS n ti).2 ∧ dld = fden (lS n ti).1 (lS n ti).2 ∧ RD n (sH n ti).1 (sH n ti).2 (rD n ti) ∧ ∀ j, j < n → rma j = nI (rD n ti j)
theorem refreshSearch_spec {N n : Nat} {ti : Nat → Int32} {g : Nat → Nat} {Q : Int32 → (Nat → Int32) → (Nat → Int32) → (Nat → Int32) → Int32 → Prop} {ss pbl : Int32} {plo pch pbe : Nat → Int32} (hN : 600000 ≤ N) (hG : Good n ti g) (hS : ss ≠ 0 → SInv n ti pbl pbe)
    (hQ : ∀ ss plo pch pbe pbl, SInv n ti pbl pbe → Q ss plo pch pbe pbl) : p_X6_refreshSearch N ti (nI n) Q ss plo pch pbe pbl := by
  unfold p_X6_refreshSearch
  refine ⟨fun _ => find_spec (by omega) hG.1 ⟨g, hG.2⟩ (fun plo pch pbe L f hB hL hb => ?_), fun h => hQ _ _ _ _ _ (hS h)⟩
  obtain ⟨e1, e2⟩ := bP_of hB
  refine hQ _ _ _ _ _ ⟨by omega, ?_, by rw [e1], fun j hj => by rw [hb j hj, e2 j hj]⟩
  exact Classical.epsilon_spec (p := fun p : (Nat → Nat) × Nat => Best n (tN ti) p.1 p.2) ⟨(f, L), hB⟩
theorem refreshDivision_spec {N n : Nat} {ti : Nat → Int32} {g : Nat → Nat} {Q : Int32 → (Nat → Int32) → (Nat → Int32) → Int32 → Int32 → Int32 → (Nat → Int32) → (Nat → Int32) → Int32 → Int64 → (Nat → Nat → Int64) → (Nat → Int32) → Prop} {ds : Int32} {dnu dde : Nat → Int32} {dbo dln dld : Int32} {tba tal : Nat → Int32} {tro : Int32} {tsc : Int64} {tcl : Nat → Nat → Int64} {rma : Nat → Int32} (hN : 600000 ≤ N) (hG : Good n ti g) (hD : ds ≠ 0 → DInv n ti dnu dde dbo dln dld rma)
    (hQ : ∀ ds dnu dde dbo dln dld tba tal tro tsc tcl rma, DInv n ti dnu dde dbo dln dld rma → Q ds dnu dde dbo dln dld tba tal tro tsc tcl rma) : p_X6_refreshDivision N ti (nI n) Q ds dnu dde dbo dln dld tba tal tro tsc tcl rma := by
  unfold p_X6_refreshDivision
  refine ⟨fun _ => make_spec hN hG.1 hG.has (fun dnu dde dbo dln dld tba tal tro tsc tcl hOK => ?_), fun h => hQ _ _ _ _ _ _ _ _ _ _ _ _ (hD h)⟩
  obtain ⟨⟨T, -, eT, hK, hno, v, d, hLM, hd27, hv⟩, w, e, hL, ew, ee⟩ := hOK
  have hT : T ≤ 350 := by
    rcases Nat.lt_or_ge 350 T with q | q
    · exact absurd (Keep_big hG.1 hG.has (Nat.le_refl _)) (hno 350 q)
    · exact q
  have hB : Bnd n (tmI ti) T := ⟨hT, hK, hno⟩
  have hND : ND n (tmI ti) (fun c => v c / Nat.gcd (v c) d) (fun c => d / Nat.gcd (v c) d) := ⟨T, v, d, hB, hLM, hd27, fun c _ => ⟨rfl, rfl⟩⟩
  obtain ⟨s1, s2⟩ := sH_of hND
  have hds : ∀ c, c < 3 * n → dnu c = nI ((sH n ti).1 c) ∧ dde c = nI ((sH n ti).2 c) := fun c hc => by
    obtain ⟨a1, a2⟩ := s2 c hc
    rw [(hv c hc).1, (hv c hc).2, ← a1, ← a2]
    exact ⟨rfl, rfl⟩
  obtain ⟨l1, l2⟩ := lS_of hL.1
  refine roundMake_spec (by omega) (s1.rp hG.1.1) hds (fun rma gr hRD hr => ?_)
  obtain ⟨r1, r2⟩ := rD_of s1 hRD
  exact hQ _ _ _ _ _ _ _ _ _ _ _ _ ⟨⟨by rw [eT, tB_of hB], w, e, hL.1, hL.2.1, hL.2.2, l1.symm, l2.symm⟩, s1, hds, ew.trans l1, ee.trans l2, r1, fun j hj => by rw [hr j hj, r2 j hj]⟩
/-! arguments -/
def jOK (n : Nat) (x : Int32) : Prop := ∃ j, j < n ∧ x = nI j
theorem jOK.at {n : Nat} {x : Int32} (hn : n ≤ 51) (h : jOK n x) : x.toNatClampNeg < n ∧ x = nI x.toNatClampNeg := by
  obtain ⟨j, hj, e⟩ := h
  subst e
  rw [nI_clamp (by omega)]
  exact ⟨hj, rfl⟩
theorem jOK_iff {n : Nat} {x : Int32} (hn : n ≤ 51) : (¬ x < 0 ∧ ¬ nI n ≤ x) ↔ jOK n x := by
  constructor
  · intro ⟨h1, h2⟩
    rcases pk_ix x (show n < 2 ^ 31 by omega) with h | h | h
    · exact absurd h h1
    · exact absurd h h2
    · exact h
  · intro ⟨j, hj, e⟩
    subst e
    exact ⟨nI_pos (by omega), nI_ge hj (by omega)⟩
theorem requireJob_spec {N n : Nat} {x : Int32} {Q : Prop} {QX : String → Prop} (hn : n ≤ 7) (q : jOK n x → Q) (qx : ¬ jOK n x → QX "java/lang/IndexOutOfBoundsException") : p_X6_requireJob N (nI n) Q QX x := by
  unfold p_X6_requireJob
  refine ⟨fun h => qx (fun o => ((jOK_iff (by omega)).mpr o).1 h), fun h1 => ⟨fun h => qx (fun o => ((jOK_iff (by omega)).mpr o).2 h), fun h2 => ⟨fun _ => q ((jOK_iff (by omega)).mp ⟨h1, h2⟩), fun h7 => ?_⟩⟩⟩
  obtain ⟨j, hj, e⟩ := (jOK_iff (by omega)).mp ⟨h1, h2⟩
  subst e
  exact absurd (show nI j < (7 : Int32) by rw [show (7 : Int32) = nI 7 from by decide]; exact nI_lt (by omega) (by omega)) h7
theorem requireMachine_spec {N : Nat} {x : Int32} {Q : Prop} {QX : String → Prop} (q : jOK 3 x → Q) (qx : ¬ jOK 3 x → QX "java/lang/IndexOutOfBoundsException") : p_X6_requireMachine N Q QX x := by
  have e3 : (3 : Int32) = nI 3 := by decide
  unfold p_X6_requireMachine
  refine ⟨fun h => qx (fun o => ((jOK_iff (by omega)).mpr o).1 h), fun h1 => ⟨fun h => q ((jOK_iff (by omega)).mp ⟨h1, ?_⟩), fun h => qx (fun o => ((jOK_iff (by omega)).mpr o).2 ?_)⟩⟩
  · rw [← e3, Int32.not_le]; exact h
  · rw [← e3]; exact Int32.not_lt.mp h
theorem isTime_spec {N : Nat} {x : Int32} {Q : Int32 → Prop} (q : jOK 51 x → Q 1) (qx : ¬ jOK 51 x → Q 0) : p_X6_isTime N Q x := by
  have e50 : (50 : Int32) = nI 50 := by decide
  unfold p_X6_isTime
  refine ⟨fun h => qx (fun o => ((jOK_iff (by omega)).mpr o).1 h), fun h1 => ⟨fun h => qx (fun ⟨j, hj, e⟩ => ?_), fun h => q ?_⟩⟩
  · subst e
    rw [e50] at h
    exact absurd h (nI_nlt (by omega) (by omega))
  · rcases pk_ix x (show 51 < 2 ^ 31 by omega) with r | r | r
    · exact absurd r h1
    · obtain ⟨j, hj, e⟩ := nI_of h1
      subst e
      have := (nI_leI (by omega) hj).mp r
      exact absurd (show (50 : Int32) < nI j by rw [e50]; exact nI_lt (by omega) hj) h
    · exact r
theorem n10 : ¬ (1 : Int32) = 0 := by decide
theorem n20 : ¬ (2 : Int32) = 0 := by decide
theorem n30 : ¬ (3 : Int32) = 0 := by decide