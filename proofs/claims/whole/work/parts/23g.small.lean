/-! constructors: Steps, Game, Glass, Bench -/
theorem sp_X7_init {P : Nat → Prop} {MC MS : Nat} {Y : xg_Y} {Q : xg_Y → xg_H → Prop} {h : xg_H} {nm : Nat → Nat} {o c1 c2 : Nat} (hn : inj nm) (l : liv P nm Y) (k7 : xg_is Y (nm o) 7) (po : ¬ P o) (p1 : ¬ P c1) (p2 : ¬ P c2) (h1 : c1 ≠ o) (h2 : c2 ≠ o) (h12 : c1 ≠ c2) (hMC : 2 ≤ MC) (hMS : 8192 ≤ MS) (q : ∀ nm' Y' h', NW P nm Y h nm' Y' h' o 7 [(1, c2, 22, 4096), (0, c1, 22, 4096)] → Q Y' h') : wp_X7_init MC MS Y Q (nm o) h := by
  have z4 : (4096 : Int32).toNatClampNeg = 4096 := rfl
  unfold wp_X7_init
  rw [z4]
  refine ⟨k7, by decide, by decide, by omega, by omega, ?_⟩
  intro q1 ca2 f1 Y3 eY3 h4 eh4
  have W1 := NW_step (j := 0) (c := c1) (k := 22) (n := 4096) (ca := ca2) (NW_0 (h := h) hn l k7) po p1 h1 (fun f hf => absurd hf (by simp)) f1
  rw [← eY3, ← eh4] at W1
  have e1 := W1.2.2.1
  have kk := W1.2.2.2.1
  rw [e1] at kk
  refine ⟨kk, fun h6 eh6 => ⟨by decide, by decide, by omega, by omega, ?_⟩⟩
  rw [← eh6] at W1
  intro q7 ca8 f7 Y9 eY9 h10 eh10
  have W2 := NW_step (j := 1) (c := c2) (k := 22) (n := 4096) (ca := ca8) W1 po p2 h2 (fun f hf => by rw [List.mem_singleton.mp hf]; exact ⟨h12, (by decide : (0 : Nat) ≠ 1), h1⟩) f7
  rw [← eY9, ← eh10, e1] at W2
  have e2 := W2.2.2.1
  have kk2 := W2.2.2.2.1
  rw [e2] at kk2
  refine ⟨kk2, fun h12 eh12 => ⟨⟨by omega, by omega⟩, ?_⟩⟩
  rw [← eh12] at W2
  exact q _ _ _ W2
theorem sp_X4_init {MC MS : Nat} {Y : xg_Y} {Q : xg_Y → xg_H → Prop} {h : xg_H} {a : Nat} {v : Option Nat} (k : xg_is Y a 4) (q : Q Y (xg_uo h a 3 v)) : wp_X4_init MC MS Y Q a v h := by
  unfold wp_X4_init
  refine ⟨k, ?_⟩
  rintro _ rfl
  exact ⟨⟨Nat.zero_le _, Nat.zero_le _⟩, q⟩
theorem sp_X5_init {MC MS : Nat} {Y : xg_Y} {Q : xg_Y → xg_H → Prop} {h : xg_H} {a : Nat} (k : xg_is Y a 5) (q : Q Y h) : wp_X5_init MC MS Y Q a h := by
  unfold wp_X5_init
  exact ⟨k, ⟨Nat.zero_le _, Nat.zero_le _⟩, q⟩
