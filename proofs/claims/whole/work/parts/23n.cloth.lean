/-! the constructors of Cloth and Reader -/
set_option maxHeartbeats 1000000 in
theorem sp_X2_init {P : Nat → Prop} {MC MS : Nat} {Y : xg_Y} {Q : xg_Y → xg_H → Prop} {h : xg_H} {nm : Nat → Nat} (hn : inj nm) (l : liv P nm Y) (k2 : xg_is Y (nm 20) 2) (hP : ∀ d, 20 ≤ d → d ≤ 27 → ¬ P d) (hMC : 7 ≤ MC) (hMS : 1401 ≤ MS) (q : ∀ nm' Y' h', inj nm' → gro P nm Y h nm' Y' h' → nm' 20 = nm 20 → XC Y' h' nm' → Q Y' h') : wp_X2_init MC MS Y Q (nm 20) h := by
  have z4 : (4 : Int32).toNatClampNeg = 4 := rfl
  have z32 : (32 : Int32).toNatClampNeg = 32 := rfl
  have z41 : (41 : Int32).toNatClampNeg = 41 := rfl
  have z13 : (1312 : Int32).toNatClampNeg = 1312 := rfl
  have p20 := hP 20 (by decide) (by decide)
  unfold wp_X2_init
  rw [z4, z32, z41, z13]
  refine ⟨k2, by omega, by omega, ?_⟩
  intro q1 f1 Y2 eY2 h3 eh3
  obtain ⟨W, e1, x1, _⟩ := OW_new (j := 2) (c := 21) (k := 5) (n := 0) (ca := 0) (OW_0 hn l (OS_0 (h := h) k2)) (hP 21 (by decide) (by decide)) (by decide) trivial f1
  rw [← eY2, ← eh3] at W
  rw [← eY2] at x1
  generalize nm1 nm 21 q1 = n1 at W e1 x1
  refine ⟨0, 0, ⟨by omega, by omega⟩, ?_⟩
  rw [← e1]
  refine sp_X5_init x1.1 ⟨OW_is W, fun h8 eh8 => ⟨by decide, by decide, by omega, by omega, ?_⟩⟩
  have W2 := OW_put (j := 2) W p20 x1 trivial
  rw [← eh8] at W2
  intro q9 ca10 f9 Y11 eY11 h12 eh12
  have W3 := OW_step (j := 3) (c := 22) (k := 22) (n := 4) (ca := ca10) W2 p20 (hP 22 (by decide) (by decide)) (by decide) (by simp [nof]) f9
  rw [← eY11, ← eh12] at W3
  generalize nm1 n1 22 q9 = n3 at W3
  refine ⟨OW_is W3, fun h14 eh14 => ⟨by decide, by decide, by omega, by omega, ?_⟩⟩
  rw [← eh14] at W3
  intro q15 ca16 f15 Y17 eY17 h18 eh18
  have W4 := OW_step (j := 4) (c := 23) (k := 22) (n := 32) (ca := ca16) W3 p20 (hP 23 (by decide) (by decide)) (by decide) (by simp [nof]) f15
  rw [← eY17, ← eh18] at W4
  generalize nm1 n3 23 q15 = n4 at W4
  refine ⟨OW_is W4, fun h20 eh20 => ⟨by decide, by decide, by omega, by omega, ?_⟩⟩
  rw [← eh20] at W4
  intro q21 ca22 f21 Y23 eY23 h24 eh24
  have W5 := OW_step (j := 5) (c := 24) (k := 23) (n := 1312) (ca := ca22) W4 p20 (hP 24 (by decide) (by decide)) (by decide) (by simp [nof]) f21
  rw [← eY23, ← eh24] at W5
  generalize nm1 n4 24 q21 = n5 at W5
  refine ⟨OW_is W5, fun h26 eh26 => ⟨by decide, by decide, by omega, by omega, ?_⟩⟩
  rw [← eh26] at W5
  intro q27 ca28 f27 Y29 eY29 h30 eh30
  have W6 := OW_step (j := 6) (c := 25) (k := 22) (n := 4) (ca := ca28) W5 p20 (hP 25 (by decide) (by decide)) (by decide) (by simp [nof]) f27
  rw [← eY29, ← eh30] at W6
  generalize nm1 n5 25 q27 = n6 at W6
  refine ⟨OW_is W6, fun h32 eh32 => ⟨by decide, by decide, by omega, by omega, ?_⟩⟩
  rw [← eh32] at W6
  intro q33 ca34 f33 Y35 eY35 h36 eh36
  have W7 := OW_step (j := 7) (c := 26) (k := 22) (n := 41) (ca := ca34) W6 p20 (hP 26 (by decide) (by decide)) (by decide) (by simp [nof]) f33
  rw [← eY35, ← eh36] at W7
  generalize nm1 n6 26 q33 = n7 at W7
  refine ⟨OW_is W7, fun h38 eh38 => ⟨by decide, by decide, by omega, by omega, ?_⟩⟩
  rw [← eh38] at W7
  intro q39 ca40 f39 Y41 eY41 h42 eh42
  have W8 := OW_step (j := 8) (c := 27) (k := 23) (n := 4) (ca := ca40) W7 p20 (hP 27 (by decide) (by decide)) (by decide) (by simp [nof]) f39
  rw [← eY41, ← eh42] at W8
  generalize nm1 n7 27 q39 = n8 at W8
  refine ⟨OW_is W8, fun h44 eh44 => ⟨⟨by omega, by omega⟩, ?_⟩⟩
  rw [← eh44] at W8
  have S := W8.2.2.2
  have s2 := OS_f (j := 2) (c := 21) (k := 5) (n := 0) S (by simp)
  exact q n8 Y41 h44 W8.1 W8.2.1 W8.2.2.1 ⟨S.1, ⟨s2.1, s2.2.1⟩, OS_f (j := 3) (c := 22) (k := 22) (n := 4) S (by simp), OS_f (j := 4) (c := 23) (k := 22) (n := 32) S (by simp), OS_f (j := 5) (c := 24) (k := 23) (n := 1312) S (by simp), OS_f (j := 6) (c := 25) (k := 22) (n := 4) S (by simp), OS_f (j := 7) (c := 26) (k := 22) (n := 41) S (by simp), OS_f (j := 8) (c := 27) (k := 23) (n := 4) S (by simp)⟩
def XRk (Y : xg_Y) (h : xg_H) (nm : Nat → Nat) (k : Nat) : Prop := xg_is Y (nm 50) 6 ∧ (xg_o h (nm 50) 2 = some (nm 51) ∧ xk Y nm 51 27 4) ∧ (xg_o h (nm 50) 3 = some (nm 52) ∧ xk Y nm 52 22 4) ∧ (xg_o h (nm 50) 4 = some (nm 53) ∧ xk Y nm 53 22 2) ∧ ∀ s, s < k → xg_o h (nm 51) s = some (nm (60 + s)) ∧ TXn Y h nm (60 + s) (xt_room s) (if s = 0 then 4 else 0)
def PRk (k d : Nat) : Prop := (50 ≤ d ∧ d ≤ 53) ∨ ∃ s, s < k ∧ (d = 60 + s ∨ d = 70 + s ∨ d = 80 + s ∨ d = 90 + s)
theorem XRk_g {P : Nat → Prop} {nm nm2 : Nat → Nat} {Y Y2 : xg_Y} {h h2 : xg_H} {k : Nat} (a : gro P nm Y h nm2 Y2 h2) (hp : ∀ d, PRk k d → P d) (X : XRk Y h nm k) : XRk Y2 h2 nm2 k := by
  obtain ⟨x0, ⟨o1, x1⟩, ⟨o2, x2⟩, ⟨o3, x3⟩, x4⟩ := X
  have p0 := hp 50 (Or.inl (by decide))
  have p1 := hp 51 (Or.inl (by decide))
  have p2 := hp 52 (Or.inl (by decide))
  have p3 := hp 53 (Or.inl (by decide))
  refine ⟨gro_is a p0 x0, ⟨gro_o a p0 p1 o1, gro_xk a p1 x1⟩, ⟨gro_o a p0 p2 o2, gro_xk a p2 x2⟩, ⟨gro_o a p0 p3 o3, gro_xk a p3 x3⟩, fun s hs => ?_⟩
  obtain ⟨y0, y1⟩ := x4 s hs
  have q6 := hp (60 + s) (Or.inr ⟨s, hs, Or.inl rfl⟩)
  exact ⟨gro_o a p1 q6 y0, TXn_g a y1 q6 (hp _ (Or.inr ⟨s, hs, Or.inr (Or.inl (by omega))⟩)) (hp _ (Or.inr ⟨s, hs, Or.inr (Or.inr (Or.inl (by omega)))⟩)) (hp _ (Or.inr ⟨s, hs, Or.inr (Or.inr (Or.inr (by omega)))⟩))⟩
theorem XRk_liv {Y : xg_Y} {h : xg_H} {nm : Nat → Nat} {k d : Nat} (X : XRk Y h nm k) (hd : PRk k d) : nm d ∈ Y.1 := by
  obtain ⟨x0, ⟨o1, x1⟩, ⟨o2, x2⟩, ⟨o3, x3⟩, x4⟩ := X
  rcases hd with e | ⟨s, hs, e⟩
  · rcases (show d = 50 ∨ d = 51 ∨ d = 52 ∨ d = 53 by omega) with e | e | e | e <;> rw [e]
    · exact x0.1
    · exact x1.1.1
    · exact x2.1.1
    · exact x3.1.1
  · obtain ⟨y0, ⟨z0, ⟨_, z1⟩, ⟨_, z2⟩, ⟨_, z3⟩⟩⟩ := x4 s hs
    rcases e with e | e | e | e
    · rw [e]; exact z0.1
    · rw [e, show 70 + s = 60 + s + 10 by omega]; exact z1.1.1
    · rw [e, show 80 + s = 60 + s + 20 by omega]; exact z2.1.1
    · rw [e, show 90 + s = 60 + s + 30 by omega]; exact z3.1.1
theorem OS_f' {Y : xg_Y} {h : xg_H} {nm : Nat → Nat} (k : xg_is Y (nm 50) 6) (a : xg_o h (nm 50) 2 = some (nm 51) ∧ xk Y nm 51 27 4) (b : xg_o h (nm 50) 3 = some (nm 52) ∧ xk Y nm 52 22 4) (c : xg_o h (nm 50) 4 = some (nm 53) ∧ xk Y nm 53 22 2) : OS Y h nm 50 6 (fun i => xg_i h (nm 50) i) [(4, 53, 22, 2), (3, 52, 22, 4), (2, 51, 27, 4)] := by
  refine ⟨k, fun _ => rfl, fun f hf => ?_⟩
  simp only [List.mem_cons, List.not_mem_nil, or_false] at hf
  rcases hf with e | e | e <;> rw [e]
  · exact c
  · exact b
  · exact a
set_option maxHeartbeats 2000000 in
theorem sp_X6_init {P : Nat → Prop} {MC MS : Nat} {Y : xg_Y} {Q : xg_Y → xg_H → Prop} {h : xg_H} {nm : Nat → Nat} (hn : inj nm) (l : liv P nm Y) (k6 : xg_is Y (nm 50) 6) (hP : ∀ d, 50 ≤ d → d ≤ 99 → ¬ P d) (hMC : 20 ≤ MC) (hMS : 362 ≤ MS) (q : ∀ nm' Y' h', inj nm' → gro P nm Y h nm' Y' h' → nm' 50 = nm 50 → XR Y' h' nm' → Q Y' h') : wp_X6_init MC MS Y Q (nm 50) h := by
  have z4 : (4 : Int32).toNatClampNeg = 4 := rfl
  have z2 : (2 : Int32).toNatClampNeg = 2 := rfl
  have z0 : (0 : Int32).toNatClampNeg = 0 := rfl
  have p50 := hP 50 (by decide) (by decide)
  unfold wp_X6_init
  rw [z4, z2, z0]
  refine ⟨k6, fun R28 c28 => ⟨by decide, by decide, by omega, by omega, ?_⟩⟩
  intro q1 ca2 f1 Y3 eY3 h4 eh4
  have W := OW_step (j := 2) (c := 51) (k := 27) (n := 4) (ca := ca2) (OW_0 hn l (OS_0 (h := h) k6)) p50 (hP 51 (by decide) (by decide)) (by decide) trivial f1
  rw [← eY3, ← eh4] at W
  generalize nm1 nm 51 q1 = n1 at W
  refine ⟨OW_is W, fun h6 eh6 => ⟨by decide, by decide, by omega, by omega, ?_⟩⟩
  rw [← eh6] at W
  intro q7 ca8 f7 Y9 eY9 h10 eh10
  have W2 := OW_step (j := 3) (c := 52) (k := 22) (n := 4) (ca := ca8) W p50 (hP 52 (by decide) (by decide)) (by decide) (by simp [nof]) f7
  rw [← eY9, ← eh10] at W2
  generalize nm1 n1 52 q7 = n2 at W2
  refine ⟨OW_is W2, fun h12 eh12 => ⟨by decide, by decide, by omega, by omega, ?_⟩⟩
  rw [← eh12] at W2
  intro q13 ca14 f13 Y15 eY15 h16 eh16
  have W3 := OW_step (j := 4) (c := 53) (k := 22) (n := 2) (ca := ca14) W2 p50 (hP 53 (by decide) (by decide)) (by decide) (by simp [nof]) f13
  rw [← eY15, ← eh16] at W3
  generalize nm1 n2 53 q13 = n3 at W3
  refine ⟨OW_is W3, fun h18 eh18 => ?_⟩
  rw [← eh18] at W3
  have S := W3.2.2.2
  have X0 : XRk Y15 h18 n3 0 := ⟨S.1, OS_f (j := 2) (c := 51) (k := 27) (n := 4) S (by simp), OS_f (j := 3) (c := 52) (k := 22) (n := 4) S (by simp), OS_f (j := 4) (c := 53) (k := 22) (n := 2) S (by simp), fun s hs => absurd hs (Nat.not_lt_zero s)⟩
  refine lp (σ := (Nat → Nat) × xg_Y × xg_H) (R := fun k s => R28 (nI k) (3 + 4 * k) (0 + 4 + 4 + 2 + 88 * k) s.2.1 s.2.2) (fun k s => inj s.1 ∧ gro P nm Y h s.1 s.2.1 s.2.2 ∧ s.1 50 = nm 50 ∧ XRk s.2.1 s.2.2 s.1 k) 0 4 (by decide) ?_ ?_ (n3, Y15, h18) ⟨W3.1, W3.2.1, W3.2.2.1, X0⟩
  · rintro ⟨nk, Yk, hk⟩ ⟨ik, gk, bk, Tk⟩
    dsimp only at ik gk bk Tk ⊢
    refine c28 _ _ _ _ _ (bq_t (by decide) ⟨by decide, by decide, by omega, by omega, ?_⟩)
    intro q19 ca20 f19 Y21 eY21 h22 eh22
    have V := OW_step (j := 5) (c := 54) (k := 22) (n := 0) (ca := ca20) (OW_0 (P := fun d => P d ∨ ((51 ≤ d ∧ d ≤ 53) ∨ (60 ≤ d ∧ d ≤ 63) ∨ (70 ≤ d ∧ d ≤ 73) ∨ (80 ≤ d ∧ d ≤ 83) ∨ (90 ≤ d ∧ d ≤ 93))) ik (by
      rintro d (hd | hd)
      · exact gro_liv gk d hd
      · refine XRk_liv Tk ?_
        rcases hd with e | e | e | e | e
        · exact Or.inl (by omega)
        · exact Or.inr ⟨d - 60, by omega, by omega⟩
        · exact Or.inr ⟨d - 70, by omega, by omega⟩
        · exact Or.inr ⟨d - 80, by omega, by omega⟩
        · exact Or.inr ⟨d - 90, by omega, by omega⟩) (OS_f' Tk.1 Tk.2.1 Tk.2.2.1 Tk.2.2.2.1 (h := hk))) (fun c => c.elim p50 (fun c => by omega)) (fun c => c.elim (hP 54 (by decide) (by decide)) (fun c => by omega)) (by decide) (by simp [nof]) f19
    rw [← eY21, ← eh22, bk] at V
    generalize nm1 nk 54 q19 = n4 at V
    have k50 := V.2.2.2.1
    have e50 : n4 50 = nm 50 := V.2.2.1.trans bk
    rw [e50] at k50
    refine ⟨k50, fun h24 eh24 => ⟨⟨by omega, by omega⟩, ?_⟩⟩
    rw [← eh24] at V
    have SS := V.2.2.2
    have G := V.2.1
    refine q n4 Y21 h24 V.1 (gk.tr (G.sub (fun d hd => Or.inl hd))) e50 ⟨SS.1, OS_f (j := 2) (c := 51) (k := 27) (n := 4) SS (by simp), OS_f (j := 3) (c := 52) (k := 22) (n := 4) SS (by simp), OS_f (j := 4) (c := 53) (k := 22) (n := 2) SS (by simp), fun s hs => ?_⟩
    obtain ⟨y0, y1⟩ := Tk.2.2.2.2 s hs
    have q51 : P 51 ∨ ((51 ≤ 51 ∧ 51 ≤ 53) ∨ (60 ≤ 51 ∧ 51 ≤ 63) ∨ (70 ≤ 51 ∧ 51 ≤ 73) ∨ (80 ≤ 51 ∧ 51 ≤ 83) ∨ (90 ≤ 51 ∧ 51 ≤ 93)) := Or.inr (by decide)
    have t1 := TXn_g G y1 (Or.inr (by omega)) (Or.inr (by omega)) (Or.inr (by omega)) (Or.inr (by omega))
    obtain ⟨w0, w1, w2, w3⟩ := t1
    rw [show 60 + s + 10 = 70 + s by omega] at w1
    rw [show 60 + s + 20 = 80 + s by omega] at w2
    rw [show 60 + s + 30 = 90 + s by omega] at w3
    exact ⟨gro_o G q51 (Or.inr (by omega)) y0, w0, w1, w2, w3⟩
  · rintro k ⟨nk, Yk, hk⟩ _ hk4 ⟨ik, gk, bk, Tk⟩ ih
    dsimp only at ik gk bk Tk ⊢
    refine c28 _ _ _ _ _ (bq_f (nI_ge (b := 4) hk4 (by decide)) ⟨by rw [← bk]; exact Tk.1, by omega, by omega, ?_⟩)
    intro q26 f26 Y27 eY27 h28 eh28
    have hr := room_b k
    refine ⟨3, 84, ⟨by omega, by omega⟩, ?_⟩
    have l' : liv (fun d => P d ∨ PRk k d) nk Yk := by
      rintro d (hd | hd)
      · exact gro_liv gk d hd
      · exact XRk_liv Tk hd
    have nd : ∀ d, (d = 60 + k ∨ d = 60 + k + 10 ∨ d = 60 + k + 20 ∨ d = 60 + k + 30) → ¬ (P d ∨ PRk k d) := by
      rintro d hd (c | c)
      · exact hP d (by omega) (by omega) c
      · rcases c with c | ⟨s, hs, c⟩ <;> omega
    have nt : nm1 nk (60 + k) q26 (60 + k) = q26 := nm1_at
    have i' := nm1_inj ik (60 + k) q26
    have g' : gro (fun d => P d ∨ PRk k d) nk Yk hk (nm1 nk (60 + k) q26) Y27 h28 := by rw [eY27, eh28]; exact gro_new l' (nd _ (Or.inl rfl)) f26
    have k8 : xg_is Y27 q26 8 := by rw [eY27]; exact is_new
    generalize nm1 nk (60 + k) q26 = n4 at nt i' g'
    rw [← nt] at k8 ⊢
    have o51 := Tk.2.1
    refine sp_X8_init i' (gro_liv g') k8 hk4 (nd _ (Or.inl rfl)) (nd _ (Or.inr (Or.inl rfl))) (nd _ (Or.inr (Or.inr (Or.inl rfl)))) (nd _ (Or.inr (Or.inr (Or.inr rfl)))) (by decide) (by split <;> omega) (fun n5 Y30 h31 i5 g5 e5 T5 _ _ => ?_)
    have G := g'.tr g5
    have pk0 : ∀ d, PRk k d → P d ∨ PRk k d := fun d hd => Or.inr hd
    have q51 : PRk k 51 := Or.inl (by decide)
    have a51 : n5 51 = nk 51 := (G 51 (Or.inr q51)).1
    have T6 := XRk_g G pk0 Tk
    have x51 := T6.2.1.2
    rw [← e5]
    refine ⟨n5 51, by rw [← bk, a51]; exact o51.1, x51.1, T5.1, ?_⟩
    rw [x51.2, nI_clamp (by omega)]
    refine ⟨vp_in_nI hk4 (by decide), ?_⟩
    rintro _ rfl _ rfl
    rw [nI_1, show 3 + 4 * k + 1 + 3 = 3 + 4 * (k + 1) by omega, show 0 + 4 + 4 + 2 + 88 * k + 4 + 84 = 0 + 4 + 4 + 2 + 88 * (k + 1) by omega]
    have n51 : ¬ (P 51) := hP 51 (by decide) (by decide)
    have O : ∀ d i, ¬ (d = 51 ∧ i = k) → xg_o (xg_uo h31 (n5 51) k (some (n5 (60 + k)))) (n5 d) i = xg_o h31 (n5 d) i := fun d i hd => by rw [xo_uo, if_neg (fun e => hd ⟨i5 _ _ e.1, e.2⟩)]
    refine ih (n5, Y30, xg_uo h31 (n5 51) k (some (n5 (60 + k)))) ⟨i5, gro_uo i5 (gk.tr (G.sub (fun d hd => Or.inl hd))) n51, ((G 50 (Or.inr (Or.inl (by decide)))).1).trans bk, T6.1, ⟨(O 50 2 (by omega)).trans T6.2.1.1, x51⟩, ⟨(O 50 3 (by omega)).trans T6.2.2.1.1, T6.2.2.1.2⟩, ⟨(O 50 4 (by omega)).trans T6.2.2.2.1.1, T6.2.2.2.1.2⟩, fun s hs => ?_⟩
    by_cases es : s = k
    · rw [es]
      refine ⟨?_, T5.1, ⟨(O _ _ (by omega)).trans T5.2.1.1, T5.2.1.2⟩, ⟨(O _ _ (by omega)).trans T5.2.2.1.1, T5.2.2.1.2⟩, ⟨(O _ _ (by omega)).trans T5.2.2.2.1, T5.2.2.2.2⟩⟩
      show xg_o (xg_uo h31 (n5 51) k (some (n5 (60 + k)))) (n5 51) k = _
      rw [xo_uo, if_pos ⟨rfl, rfl⟩]
    · obtain ⟨y0, y1⟩ := T6.2.2.2.2 s (by omega)
      exact ⟨(O 51 s (fun e => es e.2)).trans y0, y1.1, ⟨(O _ _ (by omega)).trans y1.2.1.1, y1.2.1.2⟩, ⟨(O _ _ (by omega)).trans y1.2.2.1.1, y1.2.2.1.2⟩, ⟨(O _ _ (by omega)).trans y1.2.2.2.1, y1.2.2.2.2⟩⟩
