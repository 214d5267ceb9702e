/-! the constructors of Costs and Book -/
theorem LC_g {P : Nat → Prop} {nm nm2 : Nat → Nat} {Y Y2 : xg_Y} {h h2 : xg_H} {c w N : Nat} (a : gro P nm Y h nm2 Y2 h2) (L : LC Y h nm c w N) (hp : ∀ d, c ≤ d → d ≤ c + 3 → P d) (pw : P w) : LC Y2 h2 nm2 c w N := by
  obtain ⟨k, ⟨o0, x0⟩, ⟨o1, x1⟩, o2, i3, ⟨o4, x4⟩, b⟩ := L
  have pc := hp c (by omega) (by omega)
  have q1 := hp (c + 1) (by omega) (by omega)
  have q2 := hp (c + 2) (by omega) (by omega)
  have q3 := hp (c + 3) (by omega) (by omega)
  refine ⟨gro_is a pc k, ⟨gro_o a pc q1 o0, gro_xk a q1 x0⟩, ⟨gro_o a pc q2 o1, gro_xk a q2 x1⟩, gro_o a pc pw o2, ?_, ⟨gro_o a pc q3 o4, gro_xk a q3 x4⟩, b⟩
  rw [(a c pc).1]
  exact ((a c pc).2.2.2.2 3).1.trans i3
set_option maxHeartbeats 1000000 in
theorem sp_X3_init {P : Nat → Prop} {MC MS : Nat} {Y : xg_Y} {Q : xg_Y → xg_H → Prop} {h : xg_H} {nm : Nat → Nat} {c w N : Nat} (hn : inj nm) (l : liv P nm Y) (k3 : xg_is Y (nm c) 3) (pw : P w) (pw1 : P (w + 1)) (k10 : xg_is Y (nm w) 10) (ow : xg_o h (nm w) 0 = some (nm (w + 1))) (xw1 : xk Y nm (w + 1) 22 N) (hN : N ≤ 1696) (hc : w + 10 ≤ c) (hP : ∀ d, c ≤ d → d ≤ c + 3 → ¬ P d) (hMC : 3 ≤ MC) (hMS : 16 + 32 * N ≤ MS) (q : ∀ nm' Y' h', inj nm' → gro P nm Y h nm' Y' h' → nm' c = nm c → LC Y' h' nm' c w N → Q Y' h') : wp_X3_init MC MS Y Q (nm c) (some (nm w)) h := by
  have z16 : (16 : Int32).toNatClampNeg = 16 := rfl
  have pc := hP c (by omega) (by omega)
  unfold wp_X3_init
  rw [z16]
  refine ⟨k3, by decide, by decide, by omega, by omega, ?_⟩
  intro q1 ca2 f1 Y3 eY3 h4 eh4
  have W := OW_step (j := 0) (c := c + 1) (k := 22) (n := 16) (ca := ca2) (OW_0 hn l (OS_0 (h := h) k3)) pc (hP (c + 1) (by omega) (by omega)) (by omega) trivial f1
  rw [← eY3, ← eh4] at W
  generalize nm1 nm (c + 1) q1 = n1 at W
  refine ⟨OW_is W, ?_⟩
  intro h6 eh6 h7 eh7
  rw [← eh6] at W
  obtain ⟨N1, eN1⟩ : ∃ N1, N1 = xg_n Y3 (n1 w) := ⟨_, rfl⟩
  have W2 := OW_put (j := 2) (c := w) (k := 10) (n := N1) W pc ⟨gro_is W.2.1 pw k10, eN1.symm⟩ (by simp [nof] <;> omega)
  have ew := (W.2.1 w pw).1
  rw [ew, ← eh7] at W2
  have kw := gro_is W2.2.1 pw k10
  rw [ew] at kw
  have ow2 := gro_o W2.2.1 pw pw1 ow
  rw [ew] at ow2
  have xw2 := gro_xk W2.2.1 pw1 xw1
  refine ⟨nm w, rfl, kw, n1 (w + 1), ow2, xw2.1, ?_⟩
  rw [xw2.2, ofN]
  intro h10 eh10
  have W3 := OW_ui (j := 3) (u := nI N) W2 pc
  rw [← eh10] at W3
  have i3 : xg_i h10 (nm c) 3 = nI N := OW_i W3 3
  rw [i3, nI_clamp (by omega)]
  refine ⟨nI_pos (by omega), by omega, by omega, by omega, ?_⟩
  intro q11 ca12 f11 Y13 eY13 h14 eh14
  have W4 := OW_step (j := 1) (c := c + 2) (k := 22) (n := N) (ca := ca12) W3 pc (hP (c + 2) (by omega) (by omega)) (by omega) (by simp [nof] <;> omega) f11
  rw [← eY13, ← eh14] at W4
  generalize nm1 n1 (c + 2) q11 = n2 at W4
  refine ⟨OW_is W4, ?_⟩
  intro h16 eh16
  rw [← eh16] at W4
  have i4 : xg_i h16 (nm c) 3 = nI N := OW_i W4 3
  rw [i4, nl_31, pk_mul, nI_clamp (by omega)]
  refine ⟨nI_pos (by omega), by omega, by omega, by omega, ?_⟩
  intro q17 ca18 f17 Y19 eY19 h20 eh20
  have W5 := OW_step (j := 4) (c := c + 3) (k := 22) (n := 31 * N) (ca := ca18) W4 pc (hP (c + 3) (by omega) (by omega)) (by omega) (by simp [nof] <;> omega) f17
  rw [← eY19, ← eh20] at W5
  generalize nm1 n2 (c + 3) q17 = n3 at W5
  refine ⟨OW_is W5, ?_⟩
  intro h22 eh22
  rw [← eh22] at W5
  refine ⟨⟨by omega, by omega⟩, q n3 Y19 h22 W5.1 W5.2.1 W5.2.2.1 ?_⟩
  have S := W5.2.2.2
  have i5 : xg_i h22 (n3 c) 3 = nI N := S.2.1 3
  exact ⟨S.1, OS_f (j := 0) (c := c + 1) (k := 22) (n := 16) S (by simp), OS_f (j := 1) (c := c + 2) (k := 22) (n := N) S (by simp), (OS_f (j := 2) (c := w) (k := 10) (n := N1) S (by simp)).1, i5, OS_f (j := 4) (c := c + 3) (k := 22) (n := 31 * N) S (by simp), hc⟩
theorem clz {n : Nat} (hn : n ≤ 4) : (if 0 < (if nI n < 4 then nI n else 4) then (if nI n < 4 then nI n else 4) else 0) = nI n := by
  rw [clamp_I hn]; exact clamp_0 hn
theorem clz1 : ∀ n, n < 5 → (if 0 < (if nI n - 1 < 4 then nI n - 1 else 4) then (if nI n - 1 < 4 then nI n - 1 else 4) else (0 : Int32)) = nI (n - 1) := by decide +kernel
set_option maxHeartbeats 2000000 in
theorem sp_X1_init {P : Nat → Prop} {MC MS : Nat} {Y : xg_Y} {Q : xg_Y → xg_H → Prop} {h : xg_H} {nm : Nat → Nat} {B n : Nat} (hn : inj nm) (l : liv P nm Y) (k1 : xg_is Y (nm B) 1) (p30 : P 30) (k30 : xg_is Y (nm 30) 7) (hB : 500 ≤ B) (hP : ∀ d, B ≤ d → d < B + 100 → ¬ P d) (hn4 : n ≤ 4) (hMC : 25 ≤ MC) (hMS : 111000 ≤ MS) (q : ∀ nm' Y' h', inj nm' → gro P nm Y h nm' Y' h' → nm' B = nm B → BB Y' h' nm' B n → Q Y' h') : wp_X1_init MC MS Y Q (nm B) (some (nm 30)) (nI n) h := by
  have z31 : (31 : Int32).toNatClampNeg = 31 := rfl
  have z30 : (30 : Int32).toNatClampNeg = 30 := rfl
  have z16 : (16 : Int32).toNatClampNeg = 16 := rfl
  obtain ⟨hb1, hb2⟩ := rwn_b n (by omega)
  obtain ⟨hb3, hb4⟩ := rwn_b (n - 1) (by omega)
  have hm : rwn (n - 1) ≤ 170 := by
    rcases (show n = 0 ∨ n = 1 ∨ n = 2 ∨ n = 3 ∨ n = 4 by omega) with e | e | e | e | e <;> rw [e] <;> decide
  have pB := hP B (by omega) (by omega)
  have clA := clz hn4
  have clB := clz1 n (by omega)
  unfold wp_X1_init
  rw [z31, z30, z16]
  refine ⟨k1, by decide, by decide, by omega, by omega, ?_⟩
  intro q1 ca2 f1 Y3 eY3 h4 eh4
  have W := OW_step (j := 3) (c := B + 4) (k := 22) (n := 31) (ca := ca2) (OW_0 hn l (OS_0 (h := h) k1)) pB (hP (B + 4) (by omega) (by omega)) (by omega) trivial f1
  rw [← eY3, ← eh4] at W
  generalize nm1 nm (B + 4) q1 = n1 at W
  refine ⟨OW_is W, fun h6 eh6 => ⟨by decide, by decide, by omega, by omega, ?_⟩⟩
  rw [← eh6] at W
  intro q7 ca8 f7 Y9 eY9 h10 eh10
  have W2 := OW_step (j := 4) (c := B + 5) (k := 22) (n := 31) (ca := ca8) W pB (hP (B + 5) (by omega) (by omega)) (by omega) (by simp [nof] <;> omega) f7
  rw [← eY9, ← eh10] at W2
  generalize nm1 n1 (B + 5) q7 = n2 at W2
  refine ⟨OW_is W2, fun h12 eh12 => ⟨by decide, by decide, by omega, by omega, ?_⟩⟩
  rw [← eh12] at W2
  intro q13 ca14 f13 Y15 eY15 h16 eh16
  have W3 := OW_step (j := 5) (c := B + 6) (k := 22) (n := 31) (ca := ca14) W2 pB (hP (B + 6) (by omega) (by omega)) (by omega) (by simp [nof] <;> omega) f13
  rw [← eY15, ← eh16] at W3
  generalize nm1 n2 (B + 6) q13 = n3 at W3
  refine ⟨OW_is W3, fun h18 eh18 => ⟨by decide, by decide, by omega, by omega, ?_⟩⟩
  rw [← eh18] at W3
  intro q19 ca20 f19 Y21 eY21 h22 eh22
  have W4 := OW_step (j := 6) (c := B + 7) (k := 22) (n := 16) (ca := ca20) W3 pB (hP (B + 7) (by omega) (by omega)) (by omega) (by simp [nof] <;> omega) f19
  rw [← eY21, ← eh22] at W4
  generalize nm1 n3 (B + 7) q19 = n4 at W4
  refine ⟨OW_is W4, fun h24 eh24 => ⟨by decide, by decide, by omega, by omega, ?_⟩⟩
  rw [← eh24] at W4
  intro q25 ca26 f25 Y27 eY27 h28 eh28
  have W5 := OW_step (j := 8) (c := B + 9) (k := 22) (n := 30) (ca := ca26) W4 pB (hP (B + 9) (by omega) (by omega)) (by omega) (by simp [nof] <;> omega) f25
  rw [← eY27, ← eh28] at W5
  generalize nm1 n4 (B + 9) q25 = n5 at W5
  refine ⟨OW_is W5, fun h30 eh30 => ⟨by decide, by decide, by omega, by omega, ?_⟩⟩
  rw [← eh30] at W5
  intro q31 ca32 f31 Y33 eY33 h34 eh34
  have W6 := OW_step (j := 9) (c := B + 10) (k := 22) (n := 30) (ca := ca32) W5 pB (hP (B + 10) (by omega) (by omega)) (by omega) (by simp [nof] <;> omega) f31
  rw [← eY33, ← eh34] at W6
  generalize nm1 n5 (B + 10) q31 = n6 at W6
  refine ⟨OW_is W6, fun h36 eh36 h37 eh37 => ⟨by omega, by omega, ?_⟩⟩
  rw [← eh36] at W6
  have W7 := OW_ui (j := 12) (u := -1) W6 pB
  rw [← eh37] at W7
  -- the walk over all glasses
  intro q38 f38 Y39 eY39 h40 eh40
  obtain ⟨W8, e8, x8, _⟩ := OW_new (j := 0) (c := B + 20) (k := 10) (n := 0) (ca := 0) W7 (hP (B + 20) (by omega) (by omega)) (by omega) (by simp [nof] <;> omega) f38
  rw [← eY39, ← eh40] at W8
  rw [← eY39] at x8
  generalize nm1 n6 (B + 20) q38 = n8 at W8 e8 x8
  refine ⟨6, 31 + 20 * rwn n, ⟨by omega, by omega⟩, ?_⟩
  have o30 : ∀ {fs : List (Nat × Nat × Nat × Nat)}, OL P B fs 30 := fun {fs} => Or.inl p30
  have a30 : n8 30 = nm 30 := (W8.2.1 30 p30).1
  rw [← e8, ← a30]
  refine sp_X10_init W8.1 (OW_liv W8) x8.1 o30 (gro_is W8.2.1 p30 k30) (by omega) (fun d d1 d2 => OL_no (j := 99) (hP d (by omega) (by omega)) (by omega) (by simp [nof] <;> omega)) hn4 clA (by omega) (by omega) (fun n9 Y42 h43 i9 g9 ew9 L9 => ?_)
  have W9 := OW_sub W8 i9 g9
  obtain ⟨N1, eN1⟩ : ∃ N1, N1 = xg_n Y42 (n9 (B + 20)) := ⟨_, rfl⟩
  have W10 := OW_put (j := 0) (c := B + 20) (k := 10) (n := N1) W9 pB ⟨L9.1, eN1.symm⟩ (by simp [nof] <;> omega)
  refine ⟨OW_is W9, fun h45 eh45 => ⟨by omega, by omega, ?_⟩⟩
  rw [ew9, ← eh45] at W10
  -- the walk over the parts
  have lB : liv (fun d => P d ∨ (B + 20 ≤ d ∧ d ≤ B + 26)) n9 Y42 := by
    rintro d (hd | hd)
    · exact gro_liv W10.2.1 d hd
    · rcases (show d = B + 20 ∨ d = B + 20 + 1 ∨ d = B + 20 + 2 ∨ d = B + 20 + 3 ∨ d = B + 20 + 4 ∨ d = B + 20 + 5 ∨ d = B + 20 + 6 by omega) with e | e | e | e | e | e | e <;> rw [e]
      · exact L9.1.1
      · exact L9.2.1.2.1.1
      · exact L9.2.2.1.2.1.1
      · exact L9.2.2.2.1.2.1.1
      · exact L9.2.2.2.2.1.2.1.1
      · exact L9.2.2.2.2.2.2.1.2.1.1
      · exact L9.2.2.2.2.2.2.2.1.2.1.1
  have hP2 : ∀ d, B ≤ d → d < B + 20 ∨ B + 27 ≤ d → d < B + 100 → ¬ (P d ∨ (B + 20 ≤ d ∧ d ≤ B + 26)) := fun d d1 d2 d3 c => c.elim (hP d d1 d3) (fun c => by omega)
  have pB2 := hP2 B (by omega) (by omega) (by omega)
  have G10 : gro P nm Y h n9 Y42 h45 := W10.2.1
  have b10 : n9 B = nm B := W10.2.2.1
  have L10 : LW Y42 h45 n9 (B + 20) (rwn n) := by
    have gg := gro_uo (j := 0) (v := some (n9 (B + 20))) i9 (gro.rf (h := h43) lB) pB2
    rw [b10, ew9, ← eh45] at gg
    exact LW_g gg L9 (fun d d1 d2 => Or.inr ⟨by omega, by omega⟩) (Or.inl p30)
  have V := OW_0 (h := h45) i9 lB W10.2.2.2
  clear W W2 W3 W4 W5 W6 W7 W8 W9 W10
  intro q46 f46 Y47 eY47 h48 eh48
  obtain ⟨V2, e2, x2, _⟩ := OW_new (j := 1) (c := B + 30) (k := 10) (n := 0) (ca := 0) V (hP2 (B + 30) (by omega) (by omega) (by omega)) (by omega) (by simp [nof] <;> omega) f46
  rw [← eY47, ← eh48] at V2
  rw [← eY47] at x2
  generalize nm1 n9 (B + 30) q46 = m1 at V2 e2 x2
  refine ⟨6, 31 + 20 * rwn (n - 1), ⟨by omega, by omega⟩, ?_⟩
  have a30' : m1 30 = nm 30 := ((V2.2.1 30 (Or.inl p30)).1).trans (G10 30 p30).1
  have k30' : xg_is Y47 (m1 30) 7 := gro_is (P := P) (G10.tr (V2.2.1.sub (fun d hd => Or.inl hd))) p30 k30
  rw [← e2, a30, ← a30']
  refine sp_X10_init V2.1 (OW_liv V2) x2.1 (Or.inl (Or.inl p30)) k30' (by omega) (fun d d1 d2 => OL_no (j := 99) (hP2 d (by omega) (by omega) (by omega)) (by omega) (by simp [nof] <;> omega)) (by omega) clB (by omega) (by omega) (fun m2 Y50 h51 i2 g2 ew2 L2 => ?_)
  have V3 := OW_sub V2 i2 g2
  obtain ⟨N2, eN2⟩ : ∃ N2, N2 = xg_n Y50 (m2 (B + 30)) := ⟨_, rfl⟩
  have V4 := OW_put (j := 1) (c := B + 30) (k := 10) (n := N2) V3 pB2 ⟨L2.1, eN2.symm⟩ (by simp [nof] <;> omega)
  rw [← b10]
  refine ⟨OW_is V3, fun h53 eh53 => ⟨by omega, by omega, ?_⟩⟩
  rw [ew2, ← eh53] at V4
  have lC : liv (fun d => P d ∨ (B + 20 ≤ d ∧ d ≤ B + 26) ∨ (B + 30 ≤ d ∧ d ≤ B + 36)) m2 Y50 := by
    rintro d (hd | hd | hd)
    · exact gro_liv V4.2.1 d (Or.inl hd)
    · exact gro_liv V4.2.1 d (Or.inr hd)
    · rcases (show d = B + 30 ∨ d = B + 30 + 1 ∨ d = B + 30 + 2 ∨ d = B + 30 + 3 ∨ d = B + 30 + 4 ∨ d = B + 30 + 5 ∨ d = B + 30 + 6 by omega) with e | e | e | e | e | e | e <;> rw [e]
      · exact L2.1.1
      · exact L2.2.1.2.1.1
      · exact L2.2.2.1.2.1.1
      · exact L2.2.2.2.1.2.1.1
      · exact L2.2.2.2.2.1.2.1.1
      · exact L2.2.2.2.2.2.2.1.2.1.1
      · exact L2.2.2.2.2.2.2.2.1.2.1.1
  have hP3 : ∀ d, B ≤ d → d < B + 20 ∨ B + 37 ≤ d → d < B + 100 → ¬ (P d ∨ (B + 20 ≤ d ∧ d ≤ B + 26) ∨ (B + 30 ≤ d ∧ d ≤ B + 36)) := fun d d1 d2 d3 c => c.elim (hP d d1 d3) (fun c => by omega)
  have pB3 := hP3 B (by omega) (by omega) (by omega)
  have G4 := V4.2.1
  have b4 : m2 B = n9 B := V4.2.2.1
  have L11 := LW_g G4 L10 (fun d d1 d2 => Or.inr ⟨by omega, by omega⟩) (Or.inl p30)
  have L12 : LW Y50 h53 m2 (B + 30) (rwn (n - 1)) := by
    have gg := gro_uo (j := 1) (v := some (m2 (B + 30))) i2 (gro.rf (h := h51) lC) pB3
    rw [b4, ew2, ← eh53] at gg
    exact LW_g gg L2 (fun d d1 d2 => Or.inr (Or.inr ⟨by omega, by omega⟩)) (Or.inl p30)
  have U := OW_0 (h := h53) i2 lC V4.2.2.2
  have GA : gro P nm Y h m2 Y50 h53 := G10.tr (G4.sub (fun d hd => Or.inl hd))
  clear V V2 V3 V4
  -- the costs
  intro q54 f54 Y55 eY55 h56 eh56
  obtain ⟨U2, e3, x3, _⟩ := OW_new (j := 2) (c := B + 40) (k := 3) (n := 0) (ca := 0) U (hP3 (B + 40) (by omega) (by omega) (by omega)) (by omega) (by simp [nof] <;> omega) f54
  rw [← eY55, ← eh56] at U2
  rw [← eY55] at x3
  generalize nm1 m2 (B + 40) q54 = m3 at U2 e3 x3
  rw [← b4]
  refine ⟨OW_is U2, ?_⟩
  refine ⟨3, 16 + 32 * rwn n, ⟨by omega, by omega⟩, ?_⟩
  have L13 := LW_g U2.2.1 L11 (fun d d1 d2 => Or.inr (Or.inl ⟨by omega, by omega⟩)) (Or.inl p30)
  have s0 : xg_o h56 (m2 B) 0 = some (m3 (B + 20)) := (OW_f (j := 0) (c := B + 20) (k := 10) (n := N1) U2 (by simp)).1
  rw [← e3, s0]
  refine sp_X3_init U2.1 (OW_liv U2) x3.1 (Or.inl (Or.inr (Or.inl ⟨by omega, by omega⟩))) (Or.inl (Or.inr (Or.inl ⟨by omega, by omega⟩))) L13.1 L13.2.1.1 L13.2.1.2 (by omega) (by omega) (fun d d1 d2 => OL_no (j := 99) (hP3 d (by omega) (by omega) (by omega)) (by omega) (by simp [nof] <;> omega)) (by omega) (by omega) (fun m4 Y59 h60 i4 g4 ew4 L4 => ?_)
  have U3 := OW_sub U2 i4 g4
  obtain ⟨N3, eN3⟩ : ∃ N3, N3 = xg_n Y59 (m4 (B + 40)) := ⟨_, rfl⟩
  have U4 := OW_put (j := 2) (c := B + 40) (k := 3) (n := N3) U3 pB3 ⟨L4.1, eN3.symm⟩ (by simp [nof] <;> omega)
  refine ⟨OW_is U3, fun h62 eh62 => ?_⟩
  rw [ew4, ← eh62] at U4
  have hP4 : ∀ d, B ≤ d → d < B + 20 ∨ B + 44 ≤ d → d < B + 100 → ¬ ((P d ∨ (B + 20 ≤ d ∧ d ≤ B + 26) ∨ (B + 30 ≤ d ∧ d ≤ B + 36)) ∨ (B + 40 ≤ d ∧ d ≤ B + 43)) := fun d d1 d2 d3 c => by
    rcases c with (c | c | c) | c
    · exact hP d d1 d3 c
    · omega
    · omega
    · omega
  have lD : liv (fun d => (P d ∨ (B + 20 ≤ d ∧ d ≤ B + 26) ∨ (B + 30 ≤ d ∧ d ≤ B + 36)) ∨ (B + 40 ≤ d ∧ d ≤ B + 43)) m4 Y59 := by
    rintro d (hd | hd)
    · exact gro_liv U4.2.1 d hd
    · rcases (show d = B + 40 ∨ d = B + 40 + 1 ∨ d = B + 40 + 2 ∨ d = B + 40 + 3 by omega) with e | e | e | e <;> rw [e]
      · exact L4.1.1
      · exact L4.2.1.2.1.1
      · exact L4.2.2.1.2.1.1
      · exact L4.2.2.2.2.2.1.2.1.1
  have pB4 := hP4 B (by omega) (by omega) (by omega)
  have G5 := U4.2.1
  have b5 : m4 B = m2 B := U4.2.2.1
  have L14 := LW_g G5 L11 (fun d d1 d2 => Or.inr (Or.inl ⟨by omega, by omega⟩)) (Or.inl p30)
  have L15 := LW_g G5 L12 (fun d d1 d2 => Or.inr (Or.inr ⟨by omega, by omega⟩)) (Or.inl p30)
  have L16 : LC Y59 h62 m4 (B + 40) (B + 20) (rwn n) := by
    have gg := gro_uo (j := 2) (v := some (m4 (B + 40))) i4 (gro.rf (h := h60) lD) pB4
    rw [b5, ew4, ← eh62] at gg
    exact LC_g gg L4 (fun d d1 d2 => Or.inr ⟨by omega, by omega⟩) (Or.inl (Or.inr (Or.inl ⟨by omega, by omega⟩)))
  have T := OW_0 (h := h62) i4 lD U4.2.2.2
  have GB : gro P nm Y h m4 Y59 h62 := GA.tr (G5.sub (fun d hd => Or.inl hd))
  clear U U2 U3 U4
  rw [← b5]
  refine ⟨m4 (B + 20), (OW_f (j := 0) (c := B + 20) (k := 10) (n := N1) T (by simp)).1, L14.1, m4 (B + 20 + 1), L14.2.1.1, L14.2.1.2.1, ?_⟩
  rw [L14.2.1.2.2, ofN, nl_11, pk_mul, nI_clamp (by omega)]
  refine ⟨nI_pos (by omega), by omega, by omega, by omega, ?_⟩
  intro q65 ca66 f65 Y67 eY67 h68 eh68
  have T2 := OW_step (j := 7) (c := B + 8) (k := 23) (n := 11 * rwn n) (ca := ca66) T pB4 (hP4 (B + 8) (by omega) (by omega) (by omega)) (by omega) (by simp [nof] <;> omega) f65
  rw [← eY67, ← eh68] at T2
  generalize nm1 m4 (B + 8) q65 = m5 at T2
  refine ⟨OW_is T2, fun h70 eh70 => ⟨⟨by omega, by omega⟩, ?_⟩⟩
  rw [← eh70] at T2
  have GC : gro P nm Y h m5 Y67 h70 := GB.tr (T2.2.1.sub (fun d hd => Or.inl (Or.inl hd)))
  have L17 := LW_g T2.2.1 L14 (fun d d1 d2 => Or.inl (Or.inr (Or.inl ⟨by omega, by omega⟩))) (Or.inl (Or.inl p30))
  have L18 := LW_g T2.2.1 L15 (fun d d1 d2 => Or.inl (Or.inr (Or.inr ⟨by omega, by omega⟩))) (Or.inl (Or.inl p30))
  have L19 := LC_g T2.2.1 L16 (fun d d1 d2 => Or.inr ⟨by omega, by omega⟩) (Or.inl (Or.inr (Or.inl ⟨by omega, by omega⟩)))
  have S := T2.2.2.2
  have i12 : xg_i h70 (m5 B) 12 = nM := S.2.1 12
  refine q m5 Y67 h70 T2.1 GC (T2.2.2.1.trans (b5.trans (b4.trans b10))) ⟨hn4, ⟨S.1, ⟨?_, L17⟩, ⟨?_, L18⟩, ⟨?_, L19⟩, ?_, ?_, ?_, ?_, ?_, ?_, ?_, hB⟩, Or.inl i12⟩
  · exact (OS_f (j := 0) (c := B + 20) (k := 10) (n := N1) S (by simp)).1
  · exact (OS_f (j := 1) (c := B + 30) (k := 10) (n := N2) S (by simp)).1
  · exact (OS_f (j := 2) (c := B + 40) (k := 3) (n := N3) S (by simp)).1
  · exact OS_f (j := 3) (c := B + 4) (k := 22) (n := 31) S (by simp)
  · exact OS_f (j := 4) (c := B + 5) (k := 22) (n := 31) S (by simp)
  · exact OS_f (j := 5) (c := B + 6) (k := 22) (n := 31) S (by simp)
  · exact OS_f (j := 6) (c := B + 7) (k := 22) (n := 16) S (by simp)
  · exact OS_f (j := 7) (c := B + 8) (k := 23) (n := 11 * rwn n) S (by simp)
  · exact OS_f (j := 8) (c := B + 9) (k := 22) (n := 30) S (by simp)
  · exact OS_f (j := 9) (c := B + 10) (k := 22) (n := 30) S (by simp)
