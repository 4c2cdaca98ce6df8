/-! the reference's calls -/
section
variable {N n : Nat} {ti mow : Nat → Int32} {g : Nat → Nat} {x1 x2 x3 : Int32} {mth : Int32} {mpl mbs mlo mro : Nat → Int32} {mta : Nat → Int64} {mba mib : Nat → Int32} {mdi : Int64} {mab mbe : Nat → Int64}
theorem jix3 (hn : n ≤ 7) (o1 : jOK n x1) (o2 : jOK 3 x2) : (3 : Int32) * x1 + x2 = nI (3 * (x1).toNatClampNeg + (x2).toNatClampNeg) ∧ 3 * (x1).toNatClampNeg + (x2).toNatClampNeg < 3 * n := by
  obtain ⟨h1, e1⟩ := o1.at (by omega)
  obtain ⟨h2, e2⟩ := o2.at (by omega)
  refine ⟨?_, by omega⟩
  have := ix3 (k := (x1).toNatClampNeg) (i := (x2).toNatClampNeg)
  rw [← e1, ← e2] at this
  exact this
theorem upJ_at : upJ ti n x1 x2 x3 (3 * n) = x1 ∧ upJ ti n x1 x2 x3 (3 * n + 1) = x2 ∧ upJ ti n x1 x2 x3 (3 * n + 2) = x3 ∧ ∀ c, c < 3 * n → upJ ti n x1 x2 x3 c = ti c := by
  unfold upJ
  refine ⟨?_, ?_, pk_us, fun c hc => ?_⟩
  · rw [pk_un (by omega), pk_un (by omega), pk_us]
  · rw [pk_un (by omega), pk_us]
  · rw [pk_un (by omega), pk_un (by omega), pk_un (by omega)]
end
