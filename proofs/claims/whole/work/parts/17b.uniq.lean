/-! a row tells its shelf, day, order, log -/
theorem SR_one {p : Nat → Nat → Int32} {k n n' : Nat} {z t pr z' t' pr' : Nat → Nat} (a : SR p k n z t pr) (b : SR p k n' z' t' pr') : n = n' ∧ z = z' ∧ t = t' ∧ pr = pr' := by
  have a1 := a.1
  have b1 := b.1
  have e : n = n' := (nI_eq (by omega) (by omega)).mp (a.2.1.symm.trans b.2.1)
  subst e
  have key : ∀ j, z j = z' j ∧ t j = t' j ∧ pr j = pr' j := by
    intro j
    rcases Nat.lt_or_ge j n with h | h
    · have u := a.2.2.1 j h
      have w := b.2.2.1 j h
      exact ⟨(nI_eq (by omega) (by omega)).mp (u.1.symm.trans w.1), (nI_eq (by omega) (by omega)).mp (u.2.1.symm.trans w.2.1), (nI_eq (by omega) (by omega)).mp (u.2.2.1.symm.trans w.2.2.1)⟩
    · have u := a.2.2.2 j h
      have w := b.2.2.2 j h
      omega
  exact ⟨rfl, funext (fun j => (key j).1), funext (fun j => (key j).2.1), funext (fun j => (key j).2.2)⟩
