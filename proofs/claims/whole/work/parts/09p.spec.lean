/-! what lasts from call to call stands through all this -/
theorem ms_gs {g : mg_H} {t y : Nat} {s : Int32 × mg_H} (h : mp_same g s.2) : mp_same g (mp_gs t y s).2 := by
  unfold mp_gs
  split
  · exact h
  · split
    · exact h
    · exact mp_ui (mp_ui (mp_ui h (by decide)) (by decide)) (by decide)
theorem ms_gl {g : mg_H} {t : Nat} {s : Int32 × mg_H} (h : mp_same g s.2) : ∀ k, mp_same g (mp_gl t s k).2
  | 0 => h
  | k + 1 => ms_gs (ms_gl h k)
theorem ms_ge {g : mg_H} {t : Nat} {s : Int32 × mg_H} (h : mp_same g s.2) : mp_same g (mp_ge t s) := mp_ui (mp_ui (mp_ui (mp_ui h (by decide)) (by decide)) (by decide)) (by decide)
theorem ms_goBy {g g2 : mg_H} {t n : Nat} (h : mp_same g g2) : mp_same g (mp_goBy g2 t n) := ms_ge (ms_gl (s := (0, _)) (mp_ui h (by decide)) n)
theorem ms_wait {g g2 : mg_H} {t n : Nat} (h : mp_same g g2) : ∀ k, mp_same g (mp_wait g2 t n k)
  | 0 => h
  | k + 1 => ms_goBy (ms_wait h k)
theorem ms_act {g g2 : mg_H} {x : Int32} {y : Nat} (h : mp_same g g2) : mp_same g (mp_act g2 x y).2 := by
  unfold mp_act
  repeat' split
  · exact mp_ui (mp_ui h (by decide)) (by decide)
  · exact mp_ui h (by decide)
  · exact mp_ui h (by decide)
  · exact h
  · exact h
  · exact mp_ui h (by decide)
theorem ms_does {g g2 : mg_H} {t n : Nat} {x : Int32} {y : Nat} (h : mp_same g g2) : mp_same g (mp_does g2 t n x y).2 := by
  unfold mp_does
  repeat' split
  all_goals first | exact ms_wait h y | exact ms_act h | exact h
theorem ms_al {g g2 : mg_H} {set : Int32} {s : Nat} (h : mp_same g g2) : ∀ k, mp_same g (mp_al g2 set s k)
  | 0 => mp_ui (mp_ui h (by decide)) (by decide)
  | k + 1 => mp_ui (mp_ui (mp_ui (ms_al h k) (by decide)) (by decide)) (by decide)
theorem ms_hand {g g2 : mg_H} {k c : Nat} (h : mp_same g g2) : mp_same g (mp_hand g2 k c) := ms_al (mp_ui (mp_ui h (by decide)) (by decide)) 4
theorem ms_fill {g g2 : mg_H} {c : Nat} {v : Int32} (hc : ¬ (c < 10 ∧ c ≠ 0 ∨ c = 60)) (h : mp_same g g2) : ∀ k, mp_same g (mp_fill g2 c v k)
  | 0 => h
  | k + 1 => mp_ui (ms_fill hc h k) hc
theorem ms_day0 {g g2 : mg_H} (h : mp_same g g2) : mp_same g (mp_day0 g2) := ms_fill (by decide) (ms_fill (by decide) (mp_ui (mp_ui (mp_ui (mp_ui (mp_ui (mp_ui (mp_ui h (by decide)) (by decide)) (by decide)) (by decide)) (by decide)) (by decide)) (by decide)) 4) 100
