/-! a day played, in the reference -/
/-- what lasts of a day's state through a deed -/
theorem mp_act_0 {g : mg_H} {x : Int32} {y j : Nat} (h1 : j ≠ 31) (h2 : j ≠ 33) : mg_i (mp_act g x y).2 0 j = mg_i g 0 j := by
  unfold mp_act
  repeat' split
  · show mg_i (mg_ui (mg_ui g 28 y _) 0 33 _) 0 j = _
    rw [mi_place h2, mi_cell (by decide)]
  · exact mi_place h1
  · exact mi_place h1
  · rfl
  · rfl
  · exact mi_cell (by decide)
theorem mp_does_24 {g : mg_H} {t n : Nat} {x : Int32} {y j : Nat} (h0 : j ≠ 30) (h1 : j ≠ 32) (h2 : j ≠ 35) (h3 : j ≠ 34) (h4 : j ≠ 36) (h5 : j ≠ 31) (h6 : j ≠ 33) : mg_i (mp_does g t n x y).2 0 j = mg_i g 0 j := by
  unfold mp_does
  repeat' split
  all_goals first | exact mp_wait_0 h0 h1 h2 h3 h4 y | exact mp_act_0 h5 h6 | rfl
/-- the minute behind a deed -/
def mp_min (t : Nat) (r x : Int32) (y : Nat) : Nat := if x = 0 ∧ r = 1 then t + y else t
theorem mp_does_30 {g : mg_H} {t n : Nat} {x : Int32} {y : Nat} (e : mg_i g 0 30 = nI t) : mg_i (mp_does g t n x y).2 0 30 = nI (mp_min t (mp_does g t n x y).1 x y) := by
  by_cases c0 : x = 0
  · have e1 : mp_does g t n x y = (if t + y ≤ 99 then (1, mp_wait g t n y) else (0, g)) := by
      unfold mp_does; rw [if_pos c0]
    rw [e1]
    by_cases c1 : t + y ≤ 99
    · rw [if_pos c1]
      unfold mp_min
      rw [if_pos ⟨c0, rfl⟩]
      exact mp_wait_30 e y
    · rw [if_neg c1]
      unfold mp_min
      rw [if_neg (fun h => absurd (show (0 : Int32) = 1 from h.2) (by decide))]
      exact e
  · have e2 : mp_min t (mp_does g t n x y).1 x y = t := by
      unfold mp_min; rw [if_neg (fun h => c0 h.1)]
    rw [e2]
    unfold mp_does
    rw [if_neg c0]
    repeat' split
    all_goals first | exact (mp_act_0 (by decide) (by decide)).trans e | exact e
theorem mp_min_le {t : Nat} {g : mg_H} {n y : Nat} {x : Int32} (ht : t ≤ 99) : mp_min t (mp_does g t n x y).1 x y ≤ 99 := by
  unfold mp_min
  split
  · rename_i h
    have h2 := h.2
    unfold mp_does at h2
    rw [if_pos h.1] at h2
    by_cases c1 : t + y ≤ 99
    · exact c1
    · rw [if_neg c1] at h2; exact absurd (show (0 : Int32) = 1 from h2) (by decide)
  · exact ht
