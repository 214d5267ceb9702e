/-! new cells get names: the pool grows, what is named stays -/
def nm1 (nm : Nat → Nat) (c q : Nat) : Nat → Nat := fun d => if d = c then q else if nm d = q then nm c else nm d
theorem nm1_at {nm : Nat → Nat} {c q : Nat} : nm1 nm c q c = q := by unfold nm1; rw [if_pos rfl]
theorem nm1_old {nm : Nat → Nat} {c q d : Nat} (hd : d ≠ c) (hq : nm d ≠ q) : nm1 nm c q d = nm d := by unfold nm1; rw [if_neg hd, if_neg hq]
theorem nm1_inj {nm : Nat → Nat} (hn : inj nm) (c q : Nat) : inj (nm1 nm c q) := by
  intro a b e
  unfold nm1 at e
  by_cases ha : a = c
  · rw [if_pos ha] at e
    by_cases hb : b = c
    · rw [ha, hb]
    · rw [if_neg hb] at e
      by_cases hq : nm b = q
      · rw [if_pos hq] at e
        have := hn _ _ (hq.trans e)
        exact absurd this hb
      · rw [if_neg hq] at e
        exact absurd e.symm hq
  · rw [if_neg ha] at e
    by_cases hb : b = c
    · rw [if_pos hb] at e
      by_cases hq : nm a = q
      · rw [if_pos hq] at e
        have := hn _ _ (hq.trans e.symm)
        exact absurd this ha
      · rw [if_neg hq] at e
        exact absurd e hq
    · rw [if_neg hb] at e
      by_cases hqa : nm a = q
      · rw [if_pos hqa] at e
        by_cases hqb : nm b = q
        · exact hn _ _ (hqa.trans hqb.symm)
        · rw [if_neg hqb] at e
          exact absurd (hn _ _ e).symm hb
      · rw [if_neg hqa] at e
        by_cases hqb : nm b = q
        · rw [if_pos hqb] at e
          exact absurd (hn _ _ e) ha
        · rw [if_neg hqb] at e
          exact hn _ _ e
theorem vu_at {α : Type} {f : Nat → α} {q : Nat} {v : α} : va_up f q v q = v := by simp [va_up]
theorem vu_no {α : Type} {f : Nat → α} {q a : Nat} {v : α} (h : a ≠ q) : va_up f q v a = f a := by simp [va_up, h]
theorem is_new {Y : xg_Y} {q k n : Nat} {ca : ClassId} : xg_is (xg_nY Y q k n ca) q k := ⟨List.mem_append.mpr (Or.inr (List.mem_singleton_self q)), vu_at⟩
theorem n_new {Y : xg_Y} {q k n : Nat} {ca : ClassId} : xg_n (xg_nY Y q k n ca) q = n := vu_at
theorem is_old {Y : xg_Y} {q k n a k' : Nat} {ca : ClassId} (hq : q ∉ Y.1) (h : xg_is Y a k') : xg_is (xg_nY Y q k n ca) a k' := ⟨List.mem_append.mpr (Or.inl h.1), (vu_no (fun e => hq (by rw [← e]; exact h.1))).trans h.2⟩
theorem n_old {Y : xg_Y} {q k n a : Nat} {ca : ClassId} (hq : a ≠ q) : xg_n (xg_nY Y q k n ca) a = xg_n Y a := vu_no hq
theorem mem_old {Y : xg_Y} {q k n a : Nat} {ca : ClassId} (h : a ∈ Y.1) : a ∈ (xg_nY Y q k n ca).1 := List.mem_append.mpr (Or.inl h)
theorem ih_new {h : xg_H} {q j : Nat} : xg_i (xg_nh h q) q j = 0 ∧ xg_l (xg_nh h q) q j = 0 ∧ xg_o (xg_nh h q) q j = none := by
  refine ⟨?_, ?_, ?_⟩
  · show va_up h.1 q (fun _ => 0) q j = 0
    rw [vu_at]
  · show va_up h.2.1 q (fun _ => 0) q j = 0
    rw [vu_at]
  · show va_up h.2.2 q (fun _ => none) q j = none
    rw [vu_at]
theorem ih_old {h : xg_H} {q a j : Nat} (ha : a ≠ q) : xg_i (xg_nh h q) a j = xg_i h a j ∧ xg_l (xg_nh h q) a j = xg_l h a j ∧ xg_o (xg_nh h q) a j = xg_o h a j := by
  refine ⟨?_, ?_, ?_⟩
  · show va_up h.1 q (fun _ => 0) a j = _
    rw [vu_no ha]; rfl
  · show va_up h.2.1 q (fun _ => 0) a j = _
    rw [vu_no ha]; rfl
  · show va_up h.2.2 q (fun _ => none) a j = _
    rw [vu_no ha]; rfl
/-- the names of which P holds stand for the same cells, which are as they were -/
def gro (P : Nat → Prop) (nm : Nat → Nat) (Y : xg_Y) (h : xg_H) (nm' : Nat → Nat) (Y' : xg_Y) (h' : xg_H) : Prop := ∀ d, P d → nm' d = nm d ∧ nm d ∈ Y'.1 ∧ (∀ k, xg_is Y (nm d) k → xg_is Y' (nm d) k) ∧ xg_n Y' (nm d) = xg_n Y (nm d) ∧ ∀ j, xg_i h' (nm d) j = xg_i h (nm d) j ∧ xg_l h' (nm d) j = xg_l h (nm d) j ∧ xg_o h' (nm d) j = xg_o h (nm d) j
def liv (P : Nat → Prop) (nm : Nat → Nat) (Y : xg_Y) : Prop := ∀ d, P d → nm d ∈ Y.1
theorem gro.rf {P : Nat → Prop} {nm : Nat → Nat} {Y : xg_Y} {h : xg_H} (l : liv P nm Y) : gro P nm Y h nm Y h := fun d hd => ⟨rfl, l d hd, fun _ a => a, rfl, fun _ => ⟨rfl, rfl, rfl⟩⟩
theorem gro.tr {P : Nat → Prop} {nm nm2 nm3 : Nat → Nat} {Y Y2 Y3 : xg_Y} {h h2 h3 : xg_H} (a : gro P nm Y h nm2 Y2 h2) (b : gro P nm2 Y2 h2 nm3 Y3 h3) : gro P nm Y h nm3 Y3 h3 := fun d hd => by
  obtain ⟨a1, a2, a3, a4, a5⟩ := a d hd
  obtain ⟨b1, b2, b3, b4, b5⟩ := b d hd
  rw [a1] at b1 b2 b3 b4 b5
  exact ⟨b1, b2, fun k hk => b3 k (a3 k hk), b4.trans a4, fun j => ⟨(b5 j).1.trans (a5 j).1, (b5 j).2.1.trans (a5 j).2.1, (b5 j).2.2.trans (a5 j).2.2⟩⟩
theorem gro.sub {P P' : Nat → Prop} {nm nm2 : Nat → Nat} {Y Y2 : xg_Y} {h h2 : xg_H} (a : gro P nm Y h nm2 Y2 h2) (hp : ∀ d, P' d → P d) : gro P' nm Y h nm2 Y2 h2 := fun d hd => a d (hp d hd)
theorem gro_liv {P : Nat → Prop} {nm nm2 : Nat → Nat} {Y Y2 : xg_Y} {h h2 : xg_H} (a : gro P nm Y h nm2 Y2 h2) : liv P nm2 Y2 := fun d hd => by rw [(a d hd).1]; exact (a d hd).2.1
/-- a new cell under the name c -/
theorem gro_new {P : Nat → Prop} {nm : Nat → Nat} {Y : xg_Y} {h : xg_H} {c q k n : Nat} {ca : ClassId} (l : liv P nm Y) (hc : ¬ P c) (hq : q ∉ Y.1) : gro P nm Y h (nm1 nm c q) (xg_nY Y q k n ca) (xg_nh h q) := fun d hd => by
  have hdc : d ≠ c := fun e => hc (by rw [← e]; exact hd)
  have hdq : nm d ≠ q := fun e => hq (by rw [← e]; exact l d hd)
  exact ⟨nm1_old hdc hdq, mem_old (l d hd), fun k hk => is_old hq hk, n_old hdq, fun j => ih_old hdq⟩
/-- writing where P does not hold -/
theorem gro_ui {P : Nat → Prop} {nm nm2 : Nat → Nat} {Y Y2 : xg_Y} {h h2 : xg_H} {c j : Nat} {v : Int32} (hn : inj nm2) (a : gro P nm Y h nm2 Y2 h2) (hc : ¬ P c) : gro P nm Y h nm2 Y2 (xg_ui h2 (nm2 c) j v) := fun d hd => by
  obtain ⟨a1, a2, a3, a4, a5⟩ := a d hd
  refine ⟨a1, a2, a3, a4, fun i => ⟨?_, (a5 i).2.1, (a5 i).2.2⟩⟩
  rw [← a1, xu_c hn (fun e => hc (by rw [← e]; exact hd)), a1]
  exact (a5 i).1
theorem gro_uo {P : Nat → Prop} {nm nm2 : Nat → Nat} {Y Y2 : xg_Y} {h h2 : xg_H} {c j : Nat} {v : Option Nat} (hn : inj nm2) (a : gro P nm Y h nm2 Y2 h2) (hc : ¬ P c) : gro P nm Y h nm2 Y2 (xg_uo h2 (nm2 c) j v) := fun d hd => by
  obtain ⟨a1, a2, a3, a4, a5⟩ := a d hd
  refine ⟨a1, a2, a3, a4, fun i => ⟨(a5 i).1, (a5 i).2.1, ?_⟩⟩
  rw [← a1, xo_uo, if_neg (fun e => hc (by rw [← hn _ _ e.1]; exact hd)), a1]
  exact (a5 i).2.2
theorem gro_xk {P : Nat → Prop} {nm nm2 : Nat → Nat} {Y Y2 : xg_Y} {h h2 : xg_H} {c k n : Nat} (a : gro P nm Y h nm2 Y2 h2) (hc : P c) (x : xk Y nm c k n) : xk Y2 nm2 c k n := by
  obtain ⟨a1, a2, a3, a4, a5⟩ := a c hc
  unfold xk
  rw [a1]
  exact ⟨a3 k x.1, a4.trans x.2⟩
theorem gro_is {P : Nat → Prop} {nm nm2 : Nat → Nat} {Y Y2 : xg_Y} {h h2 : xg_H} {c k : Nat} (a : gro P nm Y h nm2 Y2 h2) (hc : P c) (x : xg_is Y (nm c) k) : xg_is Y2 (nm2 c) k := by
  obtain ⟨a1, a2, a3, a4, a5⟩ := a c hc
  rw [a1]
  exact a3 k x
theorem gro_o {P : Nat → Prop} {nm nm2 : Nat → Nat} {Y Y2 : xg_Y} {h h2 : xg_H} {c d j : Nat} (a : gro P nm Y h nm2 Y2 h2) (hc : P c) (hd : P d) (x : xg_o h (nm c) j = some (nm d)) : xg_o h2 (nm2 c) j = some (nm2 d) := by
  rw [(a c hc).1, (a d hd).1, ((a c hc).2.2.2.2 j).2.2]
  exact x
