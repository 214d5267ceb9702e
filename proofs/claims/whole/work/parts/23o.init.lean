/-! the constructor of the class: the world at the start -/
theorem dt_ge {b k d : Nat} (h : DT b k d) : b ≤ d ∧ d < b + 41 + k := by
  rcases h with e | e | e | e | ⟨j, hj, e⟩ <;> omega
def Q1 (d : Nat) : Prop := DT 100 8 d
def Q2 (d : Nat) : Prop := Q1 d ∨ d = 40
def Q3 (d : Nat) : Prop := Q2 d ∨ PRd d
def Q4 (d : Nat) : Prop := Q3 d ∨ (10 ≤ d ∧ d ≤ 15)
def Q5 (d : Nat) : Prop := Q4 d ∨ (20 ≤ d ∧ d ≤ 27)
def Q6 (d : Nat) : Prop := Q5 d ∨ (30 ≤ d ∧ d ≤ 32)
def Q7 (d : Nat) : Prop := Q6 d ∨ d = 35
theorem Q1_c {d : Nat} (h : Q1 d) : 100 ≤ d := (dt_ge h).1
theorem Q2_c {d : Nat} (h : Q2 d) : 100 ≤ d ∨ d = 40 := h.imp Q1_c id
theorem Q3_c {d : Nat} (h : Q3 d) : (100 ≤ d ∨ d = 40) ∨ (50 ≤ d ∧ d ≤ 99) := h.imp Q2_c (fun c => by unfold PRd at c; omega)
theorem Q4_c {d : Nat} (h : Q4 d) : ((100 ≤ d ∨ d = 40) ∨ (50 ≤ d ∧ d ≤ 99)) ∨ (10 ≤ d ∧ d ≤ 15) := h.imp Q3_c id
theorem Q5_c {d : Nat} (h : Q5 d) : (((100 ≤ d ∨ d = 40) ∨ (50 ≤ d ∧ d ≤ 99)) ∨ (10 ≤ d ∧ d ≤ 15)) ∨ (20 ≤ d ∧ d ≤ 27) := h.imp Q4_c id
theorem Q6_c {d : Nat} (h : Q6 d) : ((((100 ≤ d ∨ d = 40) ∨ (50 ≤ d ∧ d ≤ 99)) ∨ (10 ≤ d ∧ d ≤ 15)) ∨ (20 ≤ d ∧ d ≤ 27)) ∨ (30 ≤ d ∧ d ≤ 32) := h.imp Q5_c id
theorem Q7_c {d : Nat} (h : Q7 d) : (((((100 ≤ d ∨ d = 40) ∨ (50 ≤ d ∧ d ≤ 99)) ∨ (10 ≤ d ∧ d ≤ 15)) ∨ (20 ≤ d ∧ d ≤ 27)) ∨ (30 ≤ d ∧ d ≤ 32)) ∨ d = 35 := h.imp Q6_c id
theorem XR_liv {Y : xg_Y} {h : xg_H} {nm : Nat → Nat} {d : Nat} (X : XR Y h nm) (hd : PRd d) : nm d ∈ Y.1 := by
  obtain ⟨r0, ⟨_, r1⟩, ⟨_, r2⟩, ⟨_, r3⟩, r4⟩ := X
  rcases hd with e | e | e | e | e
  · rcases (show d = 50 ∨ d = 51 ∨ d = 52 ∨ d = 53 by omega) with e | e | e | e <;> rw [e]
    · exact r0.1
    · exact r1.1.1
    · exact r2.1.1
    · exact r3.1.1
  · have := r4 (d - 60) (by omega)
    rw [show 60 + (d - 60) = d by omega] at this
    exact this.2.1.1
  · have := r4 (d - 70) (by omega)
    rw [show 70 + (d - 70) = d by omega] at this
    exact this.2.2.1.2.1.1
  · have := r4 (d - 80) (by omega)
    rw [show 80 + (d - 80) = d by omega] at this
    exact this.2.2.2.1.2.1.1
  · have := r4 (d - 90) (by omega)
    rw [show 90 + (d - 90) = d by omega] at this
    exact this.2.2.2.2.2.1.1
theorem XB_liv {Y : xg_Y} {h : xg_H} {nm : Nat → Nat} {d : Nat} (X : XB Y h nm) (hd : 10 ≤ d ∧ d ≤ 15) : nm d ∈ Y.1 := by
  obtain ⟨b0, b1, b2, b3⟩ := X
  rcases (show d = 10 ∨ d = 11 ∨ 12 ≤ d by omega) with e | e | e
  · rw [e]; exact b0.1
  · rw [e]; exact b2.1.1
  · have := (b3 (d - 12) (by omega)).2.1
    rw [show 12 + (d - 12) = d by omega] at this
    exact this
theorem XC_liv {Y : xg_Y} {h : xg_H} {nm : Nat → Nat} {d : Nat} (X : XC Y h nm) (hd : 20 ≤ d ∧ d ≤ 27) : nm d ∈ Y.1 := by
  obtain ⟨c0, ⟨_, c1⟩, ⟨_, c2⟩, ⟨_, c3⟩, ⟨_, c4⟩, ⟨_, c5⟩, ⟨_, c6⟩, ⟨_, c7⟩⟩ := X
  rcases (show d = 20 ∨ d = 21 ∨ d = 22 ∨ d = 23 ∨ d = 24 ∨ d = 25 ∨ d = 26 ∨ d = 27 by omega) with e | e | e | e | e | e | e | e <;> rw [e]
  · exact c0.1
  · exact c1.1
  · exact c2.1.1
  · exact c3.1.1
  · exact c4.1.1
  · exact c5.1.1
  · exact c6.1.1
  · exact c7.1.1
theorem REL_0 {Y : xg_Y} {h : xg_H} {nm : Nat → Nat} (T : TBn Y h nm 100 8) : REL h nm 100 (mg_i mq_0) := by
  obtain ⟨_, ⟨a1, a2, a3, a4, a5⟩, a6⟩ := T
  have z : ∀ c j, c ≠ 4 → mg_i mq_0 c j = 0 := fun c j hc => if_neg (fun e => hc e.1)
  have zn : ∀ c j, c ≠ 4 → mg_i mq_0 c j = nI 0 := z
  refine ⟨⟨a1.trans (z 2 0 (by decide)).symm, a2.trans (z 3 0 (by decide)).symm, a3⟩, fun j _ => ?_, fun s _ => (a5 s).trans (z 5 s (by decide)).symm, fun k hk => ⟨⟨0, by decide, zn 6 _ (by decide), ⟨?_, fun q hq => absurd hq (Nat.not_lt_zero q)⟩, fun q hq => absurd hq (Nat.not_lt_zero q)⟩, ⟨0, by decide, zn 7 _ (by decide), ?_, fun q hq => absurd hq (Nat.not_lt_zero q)⟩, ⟨0, by decide, zn 8 _ (by decide), ?_, fun q hq => absurd hq (Nat.not_lt_zero q)⟩, ⟨0, by decide, zn 9 _ (by decide), ?_, fun q hq => absurd hq (Nat.not_lt_zero q)⟩⟩⟩
  · rw [z 1 j (by decide)]
    exact a4 j
  · show xg_i h (nm (100 + 1 + (10 + (0 + k)))) 0 = nI 0
    rw [show 100 + 1 + (10 + (0 + k)) = 100 + 11 + (0 + k) by omega]
    exact (a6 (0 + k) (by omega)).2.2.1
  · show xg_i h (nm (100 + 1 + (10 + (2 + k)))) 0 = nI 0
    rw [show 100 + 1 + (10 + (2 + k)) = 100 + 11 + (2 + k) by omega]
    exact (a6 (2 + k) (by omega)).2.2.1
  · show xg_i h (nm (100 + 1 + (10 + (4 + k)))) 0 = nI 0
    rw [show 100 + 1 + (10 + (4 + k)) = 100 + 11 + (4 + k) by omega]
    exact (a6 (4 + k) (by omega)).2.2.1
  · show xg_i h (nm (100 + 1 + (10 + (6 + k)))) 0 = nI 0
    rw [show 100 + 1 + (10 + (6 + k)) = 100 + 11 + (6 + k) by omega]
    exact (a6 (6 + k) (by omega)).2.2.1
set_option maxHeartbeats 4000000 in
theorem sp_X11_init {MC MS : Nat} {Y : xg_Y} {Q : xg_Y → xg_H → Prop} {h : xg_H} {nm : Nat → Nat} {pk : Nat → Nat → Nat → Int32} (hn : inj nm) (k0 : xg_is Y (nm 0) 11) (hMC : 77 ≤ MC) (hMS : 10914 ≤ MS) (q : ∀ nm' Y' h', CW Y' h' nm' (mg_i mq_0) pk (fun _ => false) (fun _ => 0) → nm' 0 = nm 0 → Q Y' h') : wp_X11_init MC MS Y Q (nm 0) h := by
  have z3 : (3 : Int32).toNatClampNeg = 3 := rfl
  have z2 : (2 : Int32).toNatClampNeg = 2 := rfl
  unfold wp_X11_init
  rw [z3, z2]
  refine ⟨k0, by omega, by omega, ?_⟩
  -- Told
  intro q1 f1 Y2 eY2 h3 eh3
  obtain ⟨W1, e1, x1, zz⟩ := OW_new (j := 0) (c := 100) (k := 9) (n := 0) (ca := 0) (OW_0 (P := fun _ => False) hn (fun d hd => hd.elim) (OS_0 (h := h) k0)) id (by decide) trivial f1
  rw [← eY2, ← eh3] at W1
  rw [← eY2] at x1
  rw [← eh3] at zz
  generalize nm1 nm 100 q1 = n1 at W1 e1 x1 zz
  refine ⟨35, 884, ⟨by omega, by omega⟩, ?_⟩
  rw [← e1]
  refine sp_X9_init W1.1 (OW_liv W1) x1.1 (fun j => (zz j).1) (fun d hd => OL_no (j := 99) id (by have := (dt_ge hd).1; omega) trivial) (by decide) (by decide) (fun n2 Y5 h6 i2 g2 e2 T2 => ?_)
  have W2 := OW_sub W1 i2 g2
  obtain ⟨N0, eN0⟩ : ∃ N0, N0 = xg_n Y5 (n2 100) := ⟨_, rfl⟩
  have W3 := OW_put (j := 0) (c := 100) (k := 9) (n := N0) W2 id ⟨T2.1.1, eN0.symm⟩ trivial
  refine ⟨OW_is W2, fun h8 eh8 => ⟨by decide, by decide, by omega, by omega, ?_⟩⟩
  rw [e2, ← eh8] at W3
  have b1 : n2 0 = nm 0 := W2.2.2.1
  have T3 : TBn Y5 h8 n2 100 8 := by
    have gg := gro_uo (c := 0) (j := 0) (v := some (n2 100)) i2 (gro.rf (P := Q1) (h := h6) (TB_liv T2)) (fun c => by have := Q1_c c; omega)
    rw [b1, e2, ← eh8] at gg
    exact TB_g gg T2 (fun d hd => hd)
  have U := OW_0 (P := Q1) (h := h8) i2 (TB_liv T3) W3.2.2.2
  clear W1 W2 W3 T2 g2
  -- the row of images
  intro q9 ca10 f9 Y11 eY11 h12 eh12
  obtain ⟨U2, e3, x3, z40⟩ := OW_new (j := 1) (c := 40) (k := 28) (n := 3) (ca := ca10) U (fun c => by have := Q1_c c; omega) (by decide) (by simp [nof]) f9
  have U3 := OW_put (j := 1) U2 (fun c => by have := Q1_c c; omega) x3 (by simp [nof])
  rw [← eY11, ← eh12] at U3
  rw [e3, b1] at U3
  rw [← eY11] at x3
  rw [← eh12] at z40
  generalize nm1 n2 40 q9 = n3 at U3 x3 z40
  rw [← b1]
  refine ⟨OW_is U3, fun h14 eh14 => ⟨by omega, by omega, ?_⟩⟩
  rw [b1] at eh14
  rw [← eh14] at U3
  have b2 : n3 0 = n2 0 := U3.2.2.1
  have i3 := U3.1
  have none40 : ∀ i, xg_o h14 (n3 40) i = none := fun i => by
    rw [eh14, ← b1, ← b2, xo_uo, if_neg (fun c => by have := i3 _ _ c.1; omega)]
    exact (z40 i).2.2
  have G1 : gro Q1 n2 Y5 h8 n3 Y11 h14 := U3.2.1
  have lB : liv Q2 n3 Y11 := by
    rintro d (hd | hd)
    · exact gro_liv G1 d hd
    · rw [hd]; exact x3.1.1
  have V := OW_0 (P := Q2) (h := h14) i3 lB U3.2.2.2
  clear U U2 U3
  -- the reader
  intro q15 f15 Y16 eY16 h17 eh17
  obtain ⟨V2, e4, x4, _⟩ := OW_new (j := 2) (c := 50) (k := 6) (n := 0) (ca := 0) V (fun c => by have := Q2_c c; omega) (by decide) (by simp [nof]) f15
  rw [← eY16, ← eh17] at V2
  rw [← eY16] at x4
  generalize nm1 n3 50 q15 = m1 at V2 e4 x4
  refine ⟨20, 362, ⟨by omega, by omega⟩, ?_⟩
  rw [← e4]
  refine sp_X6_init V2.1 (OW_liv V2) x4.1 (fun d d1 d2 => OL_no (j := 99) (fun c => by have := Q2_c c; omega) (by omega) (by simp [nof] <;> omega)) (by decide) (by decide) (fun m2 Y19 h20 i4 g4 e5 XR4 => ?_)
  have V3 := OW_sub V2 i4 g4
  obtain ⟨N2, eN2⟩ : ∃ N2, N2 = xg_n Y19 (m2 50) := ⟨_, rfl⟩
  have V4 := OW_put (j := 2) (c := 50) (k := 6) (n := N2) V3 (fun c => by have := Q2_c c; omega) ⟨XR4.1, eN2.symm⟩ (by simp [nof])
  rw [← b2]
  refine ⟨OW_is V3, fun h22 eh22 => ⟨by omega, by omega, ?_⟩⟩
  rw [e5, ← eh22] at V4
  have b3 : m2 0 = n3 0 := V3.2.2.1
  have G2 : gro Q2 n3 Y11 h14 m2 Y19 h22 := V4.2.1
  have lC : liv Q3 m2 Y19 := by
    rintro d (hd | hd)
    · exact gro_liv G2 d hd
    · exact XR_liv XR4 hd
  have XR5 : XR Y19 h22 m2 := by
    have gg := gro_uo (c := 0) (j := 2) (v := some (m2 50)) i4 (gro.rf (P := Q3) (h := h20) lC) (fun c => by have := Q3_c c; omega)
    rw [b3, e5, ← eh22] at gg
    exact XR_s (grs_g gg) (fun d hd => Or.inr hd) XR4
  have X := OW_0 (P := Q3) (h := h22) i4 lC V4.2.2.2
  clear V V2 V3 V4 g4
  -- the bench
  intro q23 f23 Y24 eY24 h25 eh25
  obtain ⟨X2, e6, x6, _⟩ := OW_new (j := 3) (c := 10) (k := 0) (n := 0) (ca := 0) X (fun c => by have := Q3_c c; omega) (by decide) (by simp [nof]) f23
  rw [← eY24, ← eh25] at X2
  rw [← eY24] at x6
  generalize nm1 m2 10 q23 = m3 at X2 e6 x6
  refine ⟨5, 20, ⟨by omega, by omega⟩, ?_⟩
  rw [← e6]
  refine sp_X0_init X2.1 (OW_liv X2) x6.1 (fun d d1 d2 => OL_no (j := 99) (fun c => by have := Q3_c c; omega) (by omega) (by simp [nof] <;> omega)) (by decide) (by decide) (fun m4 Y27 h28 i6 g6 e7 XB6 => ?_)
  have X3 := OW_sub X2 i6 g6
  obtain ⟨N3, eN3⟩ : ∃ N3, N3 = xg_n Y27 (m4 10) := ⟨_, rfl⟩
  have X4 := OW_put (j := 3) (c := 10) (k := 0) (n := N3) X3 (fun c => by have := Q3_c c; omega) ⟨XB6.1, eN3.symm⟩ (by simp [nof])
  rw [← b3]
  refine ⟨OW_is X3, fun h30 eh30 => ⟨by omega, by omega, ?_⟩⟩
  rw [e7, ← eh30] at X4
  have b4 : m4 0 = m2 0 := X3.2.2.1
  have G3 : gro Q3 m2 Y19 h22 m4 Y27 h30 := X4.2.1
  have lD : liv Q4 m4 Y27 := by
    rintro d (hd | hd)
    · exact gro_liv G3 d hd
    · exact XB_liv XB6 hd
  have XB7 : XB Y27 h30 m4 := by
    have gg := gro_uo (c := 0) (j := 3) (v := some (m4 10)) i6 (gro.rf (P := Q4) (h := h28) lD) (fun c => by have := Q4_c c; omega)
    rw [b4, e7, ← eh30] at gg
    exact XB_s (grs_g gg) (fun d d1 d2 => Or.inr ⟨d1, d2⟩) XB6
  have Z := OW_0 (P := Q4) (h := h30) i6 lD X4.2.2.2
  clear X X2 X3 X4 g6
  -- the cloth
  intro q31 f31 Y32 eY32 h33 eh33
  obtain ⟨Z2, e8, x8, _⟩ := OW_new (j := 4) (c := 20) (k := 2) (n := 0) (ca := 0) Z (fun c => by have := Q4_c c; omega) (by decide) (by simp [nof]) f31
  rw [← eY32, ← eh33] at Z2
  rw [← eY32] at x8
  generalize nm1 m4 20 q31 = m5 at Z2 e8 x8
  refine ⟨7, 1401, ⟨by omega, by omega⟩, ?_⟩
  rw [← e8]
  refine sp_X2_init Z2.1 (OW_liv Z2) x8.1 (fun d d1 d2 => OL_no (j := 99) (fun c => by have := Q4_c c; omega) (by omega) (by simp [nof] <;> omega)) (by decide) (by decide) (fun m6 Y35 h36 i8 g8 e9 XC8 => ?_)
  have Z3 := OW_sub Z2 i8 g8
  obtain ⟨N4, eN4⟩ : ∃ N4, N4 = xg_n Y35 (m6 20) := ⟨_, rfl⟩
  have Z4 := OW_put (j := 4) (c := 20) (k := 2) (n := N4) Z3 (fun c => by have := Q4_c c; omega) ⟨XC8.1, eN4.symm⟩ (by simp [nof])
  rw [← b4]
  refine ⟨OW_is Z3, fun h38 eh38 => ⟨by omega, by omega, ?_⟩⟩
  rw [e9, ← eh38] at Z4
  have b5 : m6 0 = m4 0 := Z3.2.2.1
  have G4 : gro Q4 m4 Y27 h30 m6 Y35 h38 := Z4.2.1
  have lE : liv Q5 m6 Y35 := by
    rintro d (hd | hd)
    · exact gro_liv G4 d hd
    · exact XC_liv XC8 hd
  have XC9 : XC Y35 h38 m6 := by
    have gg := gro_uo (c := 0) (j := 4) (v := some (m6 20)) i8 (gro.rf (P := Q5) (h := h36) lE) (fun c => by have := Q5_c c; omega)
    rw [b5, e9, ← eh38] at gg
    exact XC_s (grs_g gg) (fun d d1 d2 => Or.inr ⟨d1, d2⟩) XC8
  have A := OW_0 (P := Q5) (h := h38) i8 lE Z4.2.2.2
  clear Z Z2 Z3 Z4 g8
  -- the steps
  intro q39 f39 Y40 eY40 h41 eh41
  obtain ⟨A2, e10, x10, _⟩ := OW_new (j := 5) (c := 30) (k := 7) (n := 0) (ca := 0) A (fun c => by have := Q5_c c; omega) (by decide) (by simp [nof]) f39
  rw [← eY40, ← eh41] at A2
  rw [← eY40] at x10
  generalize nm1 m6 30 q39 = m7 at A2 e10 x10
  refine ⟨2, 8192, ⟨by omega, by omega⟩, ?_⟩
  rw [← e10]
  have no5 : ∀ d, 30 ≤ d → d ≤ 32 → ¬ OL Q5 0 [(4, 20, 2, N4), (3, 10, 0, N3), (2, 50, 6, N2), (1, 40, 28, 3), (0, 100, 9, N0)] d := fun d d1 d2 => OL_no (j := 99) (fun c => by have := Q5_c c; omega) (by omega) (by simp [nof] <;> omega)
  refine sp_X7_init (c1 := 31) (c2 := 32) A2.1 (OW_liv A2) x10.1 (no5 30 (by decide) (by decide)) (no5 31 (by decide) (by decide)) (no5 32 (by decide) (by decide)) (by decide) (by decide) (by decide) (by decide) (by decide) (fun m8 Y43 h44 NS => ?_)
  obtain ⟨i10, g10, e11, k30, _, F30⟩ := NS
  obtain ⟨s1, sx1, sz1⟩ := F30 (0, 31, 22, 4096) (by simp)
  obtain ⟨s2, sx2, sz2⟩ := F30 (1, 32, 22, 4096) (by simp)
  have ST10 : ST Y43 h44 m8 := ⟨⟨k30, s1, sx1, s2, sx2⟩, fun c _ => Or.inl (sz2 c).1, fun c _ => (sz1 c).1⟩
  have A3 := OW_sub A2 i10 g10
  obtain ⟨N5, eN5⟩ : ∃ N5, N5 = xg_n Y43 (m8 30) := ⟨_, rfl⟩
  have A4 := OW_put (j := 5) (c := 30) (k := 7) (n := N5) A3 (fun c => by have := Q5_c c; omega) ⟨k30, eN5.symm⟩ (by simp [nof])
  rw [← b5]
  refine ⟨OW_is A3, fun h46 eh46 => ⟨by omega, by omega, ?_⟩⟩
  rw [e11, ← eh46] at A4
  have b6 : m8 0 = m6 0 := A3.2.2.1
  have G5 : gro Q5 m6 Y35 h38 m8 Y43 h46 := A4.2.1
  have lF : liv Q6 m8 Y43 := by
    rintro d (hd | hd)
    · exact gro_liv G5 d hd
    · rcases (show d = 30 ∨ d = 31 ∨ d = 32 by omega) with e | e | e <;> rw [e]
      · exact k30.1
      · exact sx1.1.1
      · exact sx2.1.1
  have ST11 : ST Y43 h46 m8 := by
    have gg := gro_uo (c := 0) (j := 5) (v := some (m8 30)) i10 (gro.rf (P := Q6) (h := h44) lF) (fun c => by have := Q6_c c; omega)
    rw [b6, e11, ← eh46] at gg
    refine ⟨LSt_s (grs_g gg) (Or.inr (by decide)) (Or.inr (by decide)) (Or.inr (by decide)) ST10.1, fun c hc => ?_, fun c hc => ?_⟩
    · rw [((gg 32 (Or.inr (by decide))).2.2.2.2 c).1]; exact ST10.2.1 c hc
    · rw [((gg 31 (Or.inr (by decide))).2.2.2.2 c).1]; exact ST10.2.2 c hc
  have D := OW_0 (P := Q6) (h := h46) i10 lF A4.2.2.2
  clear A A2 A3 A4 g10
  -- the game
  intro q47 f47 Y48 eY48 h49 eh49
  obtain ⟨D2, e12, x12, _⟩ := OW_new (j := 6) (c := 35) (k := 4) (n := 0) (ca := 0) D (fun c => by have := Q6_c c; omega) (by decide) (by simp [nof]) f47
  rw [← eY48, ← eh49] at D2
  rw [← eY48] at x12
  generalize nm1 m8 35 q47 = m9 at D2 e12 x12
  rw [← b6]
  refine ⟨OW_is D2, 0, 0, ⟨by omega, by omega⟩, ?_⟩
  have o5 : xg_o h49 (m8 0) 5 = some (m9 30) := (OW_f (j := 5) (c := 30) (k := 7) (n := N5) D2 (by simp)).1
  rw [← e12, o5]
  have i12 := D2.1
  have b7 : m9 0 = m8 0 := D2.2.2.1
  have n35 : ¬ OL Q6 0 [(5, 30, 7, N5), (4, 20, 2, N4), (3, 10, 0, N3), (2, 50, 6, N2), (1, 40, 28, 3), (0, 100, 9, N0)] 35 := OL_no (j := 99) (fun c => by have := Q6_c c; omega) (by decide) (by simp [nof])
  refine sp_X4_init x12.1 ⟨OW_is D2, fun h55 eh55 => ⟨by decide, by decide, by omega, by omega, ?_⟩⟩
  have D3 := OW_sub D2 i12 (gro_uo (c := 35) (j := 3) (v := some (m9 30)) i12 (gro.rf (h := h49) (OW_liv D2)) n35)
  have D4 := OW_put (j := 6) (c := 35) (k := 4) (n := 0) D3 (fun c => by have := Q6_c c; omega) x12 (by simp [nof])
  rw [← eh55] at D4
  have G6 : gro Q6 m8 Y43 h46 m9 Y48 h55 := D4.2.1
  have lG : liv Q7 m9 Y48 := by
    rintro d (hd | hd)
    · exact gro_liv G6 d hd
    · rw [hd]; exact x12.1.1
  have o35 : xg_o h55 (m9 35) 3 = some (m9 30) := by
    rw [eh55, ← b7, xo_uo, if_neg (fun c => by have := i12 _ _ c.1; omega), xo_uo, if_pos ⟨rfl, rfl⟩]
  have E := OW_0 (P := Q7) (h := h55) i12 lG D4.2.2.2
  clear D D2 D3 D4
  -- the row of books
  intro q56 ca57 f56 Y58 eY58 h59 eh59
  obtain ⟨E2, e13, x13, z41⟩ := OW_new (j := 7) (c := 41) (k := 25) (n := 2) (ca := ca57) E (fun c => by have := Q7_c c; omega) (by decide) (by simp [nof]) f56
  have E3 := OW_put (j := 7) E2 (fun c => by have := Q7_c c; omega) x13 (by simp [nof])
  rw [← eY58, ← eh59] at E3
  rw [e13, b7] at E3
  rw [← eY58] at x13
  rw [← eh59] at z41
  generalize nm1 m9 41 q56 = mF at E3 x13 z41
  rw [← b7]
  refine ⟨OW_is E3, fun h61 eh61 => ⟨⟨by omega, by omega⟩, ?_⟩⟩
  rw [b7] at eh61
  rw [← eh61] at E3
  have b8 : mF 0 = m9 0 := E3.2.2.1
  have iF := E3.1
  have none41 : ∀ i, xg_o h61 (mF 41) i = none := fun i => by
    rw [eh61, ← b7, ← b8, xo_uo, if_neg (fun c => by have := iF _ _ c.1; omega)]
    exact (z41 i).2.2
  have G7 : gro Q7 m9 Y48 h55 mF Y58 h61 := E3.2.1
  have S := E3.2.2.2
  have H6 : gro Q6 m8 Y43 h46 mF Y58 h61 := G6.tr (G7.sub (fun d hd => Or.inl hd))
  have H5 : gro Q5 m6 Y35 h38 mF Y58 h61 := G5.tr (H6.sub (fun d hd => Or.inl hd))
  have H4 : gro Q4 m4 Y27 h30 mF Y58 h61 := G4.tr (H5.sub (fun d hd => Or.inl hd))
  have H3 : gro Q3 m2 Y19 h22 mF Y58 h61 := G3.tr (H4.sub (fun d hd => Or.inl hd))
  have H2 : gro Q2 n3 Y11 h14 mF Y58 h61 := G2.tr (H3.sub (fun d hd => Or.inl hd))
  have H1 : gro Q1 n2 Y5 h8 mF Y58 h61 := G1.tr (H2.sub (fun d hd => Or.inl hd))
  have TF := TB_g H1 T3 (fun d hd => hd)
  refine q mF Y58 h61 ⟨iF, ⟨S.1, (OS_f (j := 0) (c := 100) (k := 9) (n := N0) S (by simp)).1, OS_f (j := 1) (c := 40) (k := 28) (n := 3) S (by simp), (OS_f (j := 2) (c := 50) (k := 6) (n := N2) S (by simp)).1, (OS_f (j := 3) (c := 10) (k := 0) (n := N3) S (by simp)).1, (OS_f (j := 4) (c := 20) (k := 2) (n := N4) S (by simp)).1, (OS_f (j := 5) (c := 30) (k := 7) (n := N5) S (by simp)).1, ⟨(OS_f (j := 6) (c := 35) (k := 4) (n := 0) S (by simp)).1, (OS_f (j := 6) (c := 35) (k := 4) (n := 0) S (by simp)).2.1, gro_o G7 (Or.inr rfl) (Or.inl (Or.inr (by decide))) o35⟩, OS_f (j := 7) (c := 41) (k := 25) (n := 2) S (by simp)⟩, ⟨TB_TLd TF, REL_0 TF⟩, ⟨XB_s (grs_g H4) (fun d d1 d2 => Or.inr ⟨d1, d2⟩) XB7, XC_s (grs_g H5) (fun d d1 d2 => Or.inr ⟨d1, d2⟩) XC9, XR_s (grs_g H3) (fun d hd => Or.inr hd) XR5⟩, ⟨LSt_s (grs_g H6) (Or.inr (by decide)) (Or.inr (by decide)) (Or.inr (by decide)) ST11.1, fun c hc => ?_, fun c hc => ?_⟩, fun k _ => Or.inl ⟨rfl, ?_⟩, fun i _ => Or.inl ⟨rfl, none41 i⟩⟩ (b8.trans (b7.trans (b6.trans (b5.trans (b4.trans (b3.trans (b2.trans b1)))))))
  · have u := H6 32 (Or.inr (by decide))
    rw [u.1, (u.2.2.2.2 c).1]; exact ST11.2.1 c hc
  · have u := H6 31 (Or.inr (by decide))
    rw [u.1, (u.2.2.2.2 c).1]; exact ST11.2.2 c hc
  · have u := H2 40 (Or.inr rfl)
    rw [u.1, (u.2.2.2.2 k).2.2]; exact none40 k
