/-! a new Told -/
def sl : Nat → Nat
  | 0 => 612
  | k + 1 => sl k + 4 + (2 * xt_room (k / 2) + (if k / 2 = 0 then 4 else 0))
theorem sl_8 : ∀ k, k < 9 → sl k ≤ 884 := by decide
/-- the cells of a Told at b with k texts -/
def DT (b k d : Nat) : Prop := d = b ∨ d = b + 1 ∨ d = b + 2 ∨ d = b + 3 ∨ ∃ j, j < k ∧ (d = b + 11 + j ∨ d = b + 11 + j + 10 ∨ d = b + 11 + j + 20 ∨ d = b + 11 + j + 30)
/-- a Told at b, k of its texts made, all empty -/
def TBn (Y : xg_Y) (h : xg_H) (nm : Nat → Nat) (b k : Nat) : Prop := (xg_is Y (nm b) 9 ∧ (xg_o h (nm b) 0 = some (nm (b + 1)) ∧ xk Y nm (b + 1) 22 600) ∧ (xg_o h (nm b) 4 = some (nm (b + 2)) ∧ xk Y nm (b + 2) 22 4) ∧ (xg_o h (nm b) 5 = some (nm (b + 3)) ∧ xk Y nm (b + 3) 27 8)) ∧ (xg_i h (nm b) 1 = 0 ∧ xg_i h (nm b) 2 = 0 ∧ xg_i h (nm b) 3 = nM ∧ (∀ j, xg_i h (nm (b + 1)) j = 0) ∧ ∀ j, xg_i h (nm (b + 2)) j = 0) ∧ ∀ j, j < k → xg_o h (nm (b + 3)) j = some (nm (b + 11 + j)) ∧ TXn Y h nm (b + 11 + j) (xt_room (j / 2)) (if j / 2 = 0 then 4 else 0) ∧ xg_i h (nm (b + 11 + j)) 0 = 0 ∧ ∀ q, xg_i h (nm (b + 11 + j + 10)) q = 0 ∧ xg_i h (nm (b + 11 + j + 20)) q = 0 ∧ xg_i h (nm (b + 11 + j + 30)) q = 0
theorem gro_i {P : Nat → Prop} {nm nm2 : Nat → Nat} {Y Y2 : xg_Y} {h h2 : xg_H} {c : Nat} (a : gro P nm Y h nm2 Y2 h2) (hc : P c) (j : Nat) : xg_i h2 (nm2 c) j = xg_i h (nm c) j := by
  rw [(a c hc).1]; exact ((a c hc).2.2.2.2 j).1
theorem TXn_g {P : Nat → Prop} {nm nm2 : Nat → Nat} {Y Y2 : xg_Y} {h h2 : xg_H} {t n n3 : Nat} (a : gro P nm Y h nm2 Y2 h2) (T : TXn Y h nm t n n3) (h0 : P t) (h1 : P (t + 10)) (h2' : P (t + 20)) (h3 : P (t + 30)) : TXn Y2 h2 nm2 t n n3 := by
  obtain ⟨t0, ⟨t1, t2⟩, ⟨t3, t4⟩, ⟨t5, t6⟩⟩ := T
  exact ⟨gro_is a h0 t0, ⟨gro_o a h0 h1 t1, gro_xk a h1 t2⟩, ⟨gro_o a h0 h2' t3, gro_xk a h2' t4⟩, ⟨gro_o a h0 h3 t5, gro_xk a h3 t6⟩⟩
theorem TB_g {P : Nat → Prop} {nm nm2 : Nat → Nat} {Y Y2 : xg_Y} {h h2 : xg_H} {b k : Nat} (a : gro P nm Y h nm2 Y2 h2) (T : TBn Y h nm b k) (hp : ∀ d, DT b k d → P d) : TBn Y2 h2 nm2 b k := by
  have b0 : P b := hp _ (Or.inl rfl)
  have b1 : P (b + 1) := hp _ (Or.inr (Or.inl rfl))
  have b2 : P (b + 2) := hp _ (Or.inr (Or.inr (Or.inl rfl)))
  have b3 : P (b + 3) := hp _ (Or.inr (Or.inr (Or.inr (Or.inl rfl))))
  have bt : ∀ j, j < k → P (b + 11 + j) ∧ P (b + 11 + j + 10) ∧ P (b + 11 + j + 20) ∧ P (b + 11 + j + 30) := fun j hj => ⟨hp _ (Or.inr (Or.inr (Or.inr (Or.inr ⟨j, hj, Or.inl rfl⟩)))), hp _ (Or.inr (Or.inr (Or.inr (Or.inr ⟨j, hj, Or.inr (Or.inl rfl)⟩)))), hp _ (Or.inr (Or.inr (Or.inr (Or.inr ⟨j, hj, Or.inr (Or.inr (Or.inl rfl))⟩)))), hp _ (Or.inr (Or.inr (Or.inr (Or.inr ⟨j, hj, Or.inr (Or.inr (Or.inr rfl))⟩))))⟩
  obtain ⟨⟨t0, ⟨t1, t2⟩, ⟨t3, t4⟩, ⟨t5, t6⟩⟩, ⟨i1, i2, i3, i4, i5⟩, tx⟩ := T
  refine ⟨⟨gro_is a b0 t0, ⟨gro_o a b0 b1 t1, gro_xk a b1 t2⟩, ⟨gro_o a b0 b2 t3, gro_xk a b2 t4⟩, ⟨gro_o a b0 b3 t5, gro_xk a b3 t6⟩⟩, ⟨(gro_i a b0 1).trans i1, (gro_i a b0 2).trans i2, (gro_i a b0 3).trans i3, fun j => (gro_i a b1 j).trans (i4 j), fun j => (gro_i a b2 j).trans (i5 j)⟩, fun j hj => ?_⟩
  obtain ⟨x0, x1, x2, x3⟩ := tx j hj
  obtain ⟨p0, p1, p2, p3⟩ := bt j hj
  exact ⟨gro_o a b3 p0 x0, TXn_g a x1 p0 p1 p2 p3, (gro_i a p0 0).trans x2, fun q => ⟨(gro_i a p1 q).trans (x3 q).1, (gro_i a p2 q).trans (x3 q).2.1, (gro_i a p3 q).trans (x3 q).2.2⟩⟩
theorem TB_liv {Y : xg_Y} {h : xg_H} {nm : Nat → Nat} {b k : Nat} (T : TBn Y h nm b k) : liv (DT b k) nm Y := by
  obtain ⟨⟨t0, ⟨t1, t2⟩, ⟨t3, t4⟩, ⟨t5, t6⟩⟩, _, tx⟩ := T
  rintro d (e | e | e | e | ⟨j, hj, e⟩)
  · rw [e]; exact t0.1
  · rw [e]; exact t2.1.1
  · rw [e]; exact t4.1.1
  · rw [e]; exact t6.1.1
  · obtain ⟨_, ⟨y0, ⟨_, y1⟩, ⟨_, y2⟩, ⟨_, y3⟩⟩, _⟩ := tx j hj
    rcases e with e | e | e | e
    · rw [e]; exact y0.1
    · rw [e]; exact y1.1.1
    · rw [e]; exact y2.1.1
    · rw [e]; exact y3.1.1
/-- a whole Told -/
theorem TB_TLd {Y : xg_Y} {h : xg_H} {nm : Nat → Nat} {b : Nat} (T : TBn Y h nm b 8) : TLd Y h nm b := by
  obtain ⟨⟨t0, ⟨t1, t2⟩, ⟨t3, t4⟩, ⟨t5, t6⟩⟩, _, tx⟩ := T
  refine ⟨t0, ⟨t1, t2.1, t2.2⟩, ⟨t3, t4.1, t4.2⟩, ⟨t5, t6.1, t6.2⟩, fun j hj => ?_⟩
  obtain ⟨x0, ⟨y0, ⟨y1, y1k⟩, ⟨y2, y2k⟩, ⟨y3, y3k⟩⟩, _⟩ := tx j hj
  dsimp only
  rw [show b + 1 + (10 + j) = b + 11 + j by omega, show b + 1 + (20 + j) = b + 11 + j + 10 by omega, show b + 1 + (30 + j) = b + 11 + j + 20 by omega, show b + 1 + (40 + j) = b + 11 + j + 30 by omega]
  have ei : (if j / 2 = 0 then 4 else 0) = (if j < 2 then 4 else 0) := by
    by_cases c : j < 2
    · rw [if_pos c, if_pos (by omega)]
    · rw [if_neg c, if_neg (by omega)]
  rw [ei] at y3k
  exact ⟨x0, y0, ⟨y1, y1k.1, y1k.2⟩, ⟨y2, y2k.1, y2k.2⟩, ⟨y3, y3k.1, y3k.2⟩⟩
