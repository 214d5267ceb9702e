/-! objects in the making: what the object o holds so far (slot, name, kind, length), its ints v -/
def OS (Y : xg_Y) (h : xg_H) (nm : Nat → Nat) (o ko : Nat) (v : Nat → Int32) (fs : List (Nat × Nat × Nat × Nat)) : Prop := xg_is Y (nm o) ko ∧ (∀ i, xg_i h (nm o) i = v i) ∧ ∀ f, f ∈ fs → xg_o h (nm o) f.1 = some (nm f.2.1) ∧ xk Y nm f.2.1 f.2.2.1 f.2.2.2
def OW (P : Nat → Prop) (nm0 : Nat → Nat) (Y0 : xg_Y) (h0 : xg_H) (nm : Nat → Nat) (Y : xg_Y) (h : xg_H) (o ko : Nat) (v : Nat → Int32) (fs : List (Nat × Nat × Nat × Nat)) : Prop := inj nm ∧ gro P nm0 Y0 h0 nm Y h ∧ nm o = nm0 o ∧ OS Y h nm o ko v fs
def OL (P : Nat → Prop) (o : Nat) (fs : List (Nat × Nat × Nat × Nat)) (d : Nat) : Prop := P d ∨ d = o ∨ ∃ f, f ∈ fs ∧ d = f.2.1
def nof : List (Nat × Nat × Nat × Nat) → Nat → Nat → Prop
  | [], _, _ => True
  | f :: fs, c, j => (f.2.1 ≠ c ∧ f.1 ≠ j) ∧ nof fs c j
theorem nof_m {c j : Nat} : ∀ {fs : List (Nat × Nat × Nat × Nat)}, nof fs c j → ∀ f, f ∈ fs → f.2.1 ≠ c ∧ f.1 ≠ j
  | [], _, f, hf => absurd hf (by simp)
  | g :: fs, h, f, hf => by
    rcases List.mem_cons.mp hf with e | e
    · rw [e]; exact h.1
    · exact nof_m h.2 f e
theorem OL_no {P : Nat → Prop} {o c j : Nat} {fs : List (Nat × Nat × Nat × Nat)} (hP : ¬ P c) (hc : c ≠ o) (hf : nof fs c j) : ¬ OL P o fs c := by
  rintro (h | h | ⟨f, m, e⟩)
  · exact hP h
  · exact hc h
  · exact (nof_m hf f m).1 e.symm
theorem OS_0 {Y : xg_Y} {h : xg_H} {nm : Nat → Nat} {o ko : Nat} (k : xg_is Y (nm o) ko) : OS Y h nm o ko (fun i => xg_i h (nm o) i) [] := ⟨k, fun _ => rfl, fun f hf => absurd hf (by simp)⟩
theorem OW_0 {P : Nat → Prop} {nm : Nat → Nat} {Y : xg_Y} {h : xg_H} {o ko : Nat} {v : Nat → Int32} {fs : List (Nat × Nat × Nat × Nat)} (hn : inj nm) (l : liv P nm Y) (S : OS Y h nm o ko v fs) : OW P nm Y h nm Y h o ko v fs := ⟨hn, gro.rf l, rfl, S⟩
theorem OS_f {Y : xg_Y} {h : xg_H} {nm : Nat → Nat} {o ko j c k n : Nat} {v : Nat → Int32} {fs : List (Nat × Nat × Nat × Nat)} (S : OS Y h nm o ko v fs) (hf : (j, c, k, n) ∈ fs) : xg_o h (nm o) j = some (nm c) ∧ xk Y nm c k n := S.2.2 (j, c, k, n) hf
theorem OW_f {P : Nat → Prop} {nm0 nm : Nat → Nat} {Y0 Y : xg_Y} {h0 h : xg_H} {o ko j c k n : Nat} {v : Nat → Int32} {fs : List (Nat × Nat × Nat × Nat)} (W : OW P nm0 Y0 h0 nm Y h o ko v fs) (hf : (j, c, k, n) ∈ fs) : xg_o h (nm0 o) j = some (nm c) ∧ xk Y nm c k n := by
  rw [← W.2.2.1]; exact OS_f W.2.2.2 hf
theorem OW_is {P : Nat → Prop} {nm0 nm : Nat → Nat} {Y0 Y : xg_Y} {h0 h : xg_H} {o ko : Nat} {v : Nat → Int32} {fs : List (Nat × Nat × Nat × Nat)} (W : OW P nm0 Y0 h0 nm Y h o ko v fs) : xg_is Y (nm0 o) ko := by
  rw [← W.2.2.1]; exact W.2.2.2.1
theorem OW_i {P : Nat → Prop} {nm0 nm : Nat → Nat} {Y0 Y : xg_Y} {h0 h : xg_H} {o ko : Nat} {v : Nat → Int32} {fs : List (Nat × Nat × Nat × Nat)} (W : OW P nm0 Y0 h0 nm Y h o ko v fs) (i : Nat) : xg_i h (nm0 o) i = v i := by
  rw [← W.2.2.1]; exact W.2.2.2.2.1 i
theorem OW_liv {P : Nat → Prop} {nm0 nm : Nat → Nat} {Y0 Y : xg_Y} {h0 h : xg_H} {o ko : Nat} {v : Nat → Int32} {fs : List (Nat × Nat × Nat × Nat)} (W : OW P nm0 Y0 h0 nm Y h o ko v fs) : liv (OL P o fs) nm Y := by
  rintro d (hd | hd | ⟨f, hf, hd⟩)
  · exact gro_liv W.2.1 d hd
  · rw [hd]; exact W.2.2.2.1.1
  · rw [hd]; exact (W.2.2.2.2.2 f hf).2.1.1
theorem OW_sub {P : Nat → Prop} {nm0 nm nm2 : Nat → Nat} {Y0 Y Y2 : xg_Y} {h0 h h2 : xg_H} {o ko : Nat} {v : Nat → Int32} {fs : List (Nat × Nat × Nat × Nat)} (W : OW P nm0 Y0 h0 nm Y h o ko v fs) (i2 : inj nm2) (g : gro (OL P o fs) nm Y h nm2 Y2 h2) : OW P nm0 Y0 h0 nm2 Y2 h2 o ko v fs := by
  obtain ⟨hn, g0, eo, k, io, F⟩ := W
  have po : OL P o fs o := Or.inr (Or.inl rfl)
  refine ⟨i2, g0.tr (g.sub (fun d hd => Or.inl hd)), (g o po).1.trans eo, gro_is g po k, fun i => ?_, fun f hf => ?_⟩
  · rw [(g o po).1]
    exact ((g o po).2.2.2.2 i).1.trans (io i)
  · have pf : OL P o fs f.2.1 := Or.inr (Or.inr ⟨f, hf, rfl⟩)
    exact ⟨gro_o g po pf (F f hf).1, gro_xk g pf (F f hf).2⟩
theorem OW_put {P : Nat → Prop} {nm0 nm : Nat → Nat} {Y0 Y : xg_Y} {h0 h : xg_H} {o ko j c k n : Nat} {v : Nat → Int32} {fs : List (Nat × Nat × Nat × Nat)} (W : OW P nm0 Y0 h0 nm Y h o ko v fs) (po : ¬ P o) (x : xk Y nm c k n) (hj : nof fs c j) : OW P nm0 Y0 h0 nm Y (xg_uo h (nm0 o) j (some (nm c))) o ko v ((j, c, k, n) :: fs) := by
  obtain ⟨hn, g0, eo, k', io, F⟩ := W
  rw [← eo]
  refine ⟨hn, gro_uo hn g0 po, eo, k', io, fun f hf => ?_⟩
  rcases List.mem_cons.mp hf with e | hf
  · rw [e]
    refine ⟨?_, x⟩
    show xg_o (xg_uo h (nm o) j (some (nm c))) (nm o) j = some (nm c)
    rw [xo_uo, if_pos ⟨rfl, rfl⟩]
  · refine ⟨?_, (F f hf).2⟩
    rw [xo_uo, if_neg (fun e => (nof_m hj f hf).2 e.2)]
    exact (F f hf).1
theorem OW_ui {P : Nat → Prop} {nm0 nm : Nat → Nat} {Y0 Y : xg_Y} {h0 h : xg_H} {o ko j : Nat} {u : Int32} {v : Nat → Int32} {fs : List (Nat × Nat × Nat × Nat)} (W : OW P nm0 Y0 h0 nm Y h o ko v fs) (po : ¬ P o) : OW P nm0 Y0 h0 nm Y (xg_ui h (nm0 o) j u) o ko (fun i => if i = j then u else v i) fs := by
  obtain ⟨hn, g0, eo, k', io, F⟩ := W
  rw [← eo]
  refine ⟨hn, gro_ui hn g0 po, eo, k', fun i => ?_, F⟩
  show xg_i (xg_ui h (nm o) j u) (nm o) i = if i = j then u else v i
  rw [xu hn]
  by_cases e : i = j
  · rw [if_pos ⟨rfl, e⟩, if_pos e]
  · rw [if_neg (fun c => e c.2), if_neg e]
    exact io i
/-- a new thing under the name c, not yet held by o -/
theorem OW_new {P : Nat → Prop} {nm0 nm : Nat → Nat} {Y0 Y : xg_Y} {h0 h : xg_H} {o ko j c k n q : Nat} {ca : ClassId} {v : Nat → Int32} {fs : List (Nat × Nat × Nat × Nat)} (W : OW P nm0 Y0 h0 nm Y h o ko v fs) (pc : ¬ P c) (co : c ≠ o) (hj : nof fs c j) (hq : q ∉ Y.1) : OW P nm0 Y0 h0 (nm1 nm c q) (xg_nY Y q k n ca) (xg_nh h q) o ko v fs ∧ nm1 nm c q c = q ∧ xk (xg_nY Y q k n ca) (nm1 nm c q) c k n ∧ (∀ i, xg_i (xg_nh h q) (nm1 nm c q c) i = 0 ∧ xg_l (xg_nh h q) (nm1 nm c q c) i = 0 ∧ xg_o (xg_nh h q) (nm1 nm c q c) i = none) := by
  refine ⟨OW_sub W (nm1_inj W.1 c q) (gro_new (OW_liv W) (OL_no pc co hj) hq), nm1_at, ⟨?_, ?_⟩, fun i => ?_⟩
  · rw [nm1_at]; exact is_new
  · rw [nm1_at]; exact n_new
  · rw [nm1_at]; exact ih_new
theorem OW_step {P : Nat → Prop} {nm0 nm : Nat → Nat} {Y0 Y : xg_Y} {h0 h : xg_H} {o ko j c k n q : Nat} {ca : ClassId} {v : Nat → Int32} {fs : List (Nat × Nat × Nat × Nat)} (W : OW P nm0 Y0 h0 nm Y h o ko v fs) (po : ¬ P o) (pc : ¬ P c) (co : c ≠ o) (hj : nof fs c j) (hq : q ∉ Y.1) : OW P nm0 Y0 h0 (nm1 nm c q) (xg_nY Y q k n ca) (xg_uo (xg_nh h q) (nm0 o) j (some q)) o ko v ((j, c, k, n) :: fs) := by
  obtain ⟨W2, e, x, _⟩ := OW_new (k := k) (n := n) (ca := ca) W pc co hj hq
  have W3 := OW_put W2 po x hj
  rw [e] at W3
  exact W3
/-- the constructor of Walk: 6 cells, 31 + 20 N slots -/
theorem LW_g {P : Nat → Prop} {nm nm2 : Nat → Nat} {Y Y2 : xg_Y} {h h2 : xg_H} {w N : Nat} (a : gro P nm Y h nm2 Y2 h2) (L : LW Y h nm w N) (hp : ∀ d, w ≤ d → d ≤ w + 6 → P d) (p30 : P 30) : LW Y2 h2 nm2 w N := by
  obtain ⟨k, ⟨o0, x0⟩, ⟨o1, x1⟩, ⟨o2, x2⟩, ⟨o3, x3⟩, o6, ⟨o7, x7⟩, ⟨o8, x8⟩, b⟩ := L
  have pw := hp w (by omega) (by omega)
  have q1 := hp (w + 1) (by omega) (by omega)
  have q2 := hp (w + 2) (by omega) (by omega)
  have q3 := hp (w + 3) (by omega) (by omega)
  have q4 := hp (w + 4) (by omega) (by omega)
  have q5 := hp (w + 5) (by omega) (by omega)
  have q6 := hp (w + 6) (by omega) (by omega)
  exact ⟨gro_is a pw k, ⟨gro_o a pw q1 o0, gro_xk a q1 x0⟩, ⟨gro_o a pw q2 o1, gro_xk a q2 x1⟩, ⟨gro_o a pw q3 o2, gro_xk a q3 x2⟩, ⟨gro_o a pw q4 o3, gro_xk a q4 x3⟩, gro_o a pw p30 o6, ⟨gro_o a pw q5 o7, gro_xk a q5 x7⟩, ⟨gro_o a pw q6 o8, gro_xk a q6 x8⟩, b⟩
theorem ofN {n : Nat} : Int32.ofNat n = nI n := rfl
set_option maxHeartbeats 1000000 in
theorem sp_X10_init {P : Nat → Prop} {MC MS : Nat} {Y : xg_Y} {Q : xg_Y → xg_H → Prop} {h : xg_H} {nm : Nat → Nat} {w n : Nat} {x2 : Int32} (hn : inj nm) (l : liv P nm Y) (k10 : xg_is Y (nm w) 10) (p30 : P 30) (k30 : xg_is Y (nm 30) 7) (hw : 100 ≤ w) (hP : ∀ d, w ≤ d → d ≤ w + 6 → ¬ P d) (hn4 : n ≤ 4) (hz : (if 0 < (if x2 < 4 then x2 else 4) then (if x2 < 4 then x2 else 4) else 0) = nI n) (hMC : 6 ≤ MC) (hMS : 31 + 20 * rwn n ≤ MS) (q : ∀ nm' Y' h', inj nm' → gro P nm Y h nm' Y' h' → nm' w = nm w → LW Y' h' nm' w (rwn n) → Q Y' h') : wp_X10_init MC MS Y Q (nm w) (some (nm 30)) x2 h := by
  have z31 : (31 : Int32).toNatClampNeg = 31 := rfl
  obtain ⟨hb1, hb2⟩ := rwn_b n (by omega)
  have eN := rwn_I n (by omega)
  have pw := hP w (by omega) (by omega)
  generalize rwn n = N at *
  unfold wp_X10_init
  rw [z31]
  refine ⟨k10, by decide, by decide, by omega, by omega, ?_⟩
  intro q1 ca2 f1 Y3 eY3 h4 eh4
  have W := OW_step (j := 2) (c := w + 3) (k := 22) (n := 31) (ca := ca2) (OW_0 hn l (OS_0 (h := h) k10)) pw (hP (w + 3) (by omega) (by omega)) (by omega) trivial f1
  rw [← eY3, ← eh4] at W
  generalize nm1 nm (w + 3) q1 = n1 at W
  refine ⟨OW_is W, ?_⟩
  intro h6 eh6 h7 eh7
  rw [← eh6] at W
  obtain ⟨N0, eN0⟩ : ∃ N0, N0 = xg_n Y3 (n1 30) := ⟨_, rfl⟩
  have W2 := OW_put (j := 6) (c := 30) (k := 7) (n := N0) W pw ⟨gro_is W.2.1 p30 k30, eN0.symm⟩ (by simp [nof] <;> omega)
  rw [(W.2.1 30 p30).1, ← eh7] at W2
  refine ⟨⟨by omega, by omega⟩, ?_⟩
  intro z8 ez8
  refine ⟨⟨by omega, by omega⟩, ?_⟩
  intro z9 ez9
  have e9 : z9 = nI n := by rw [ez9, ez8]; exact hz
  rw [e9, nI_clamp (by omega), eN, nI_clamp (by omega)]
  refine ⟨vp_in_nI (show n < 5 by omega) (by decide), nI_pos (by omega), by omega, by omega, by omega, ?_⟩
  intro q10 ca11 f10 Y12 eY12 h13 eh13
  have W3 := OW_step (j := 0) (c := w + 1) (k := 22) (n := N) (ca := ca11) W2 pw (hP (w + 1) (by omega) (by omega)) (by omega) (by simp [nof] <;> omega) f10
  rw [← eY12, ← eh13] at W3
  generalize nm1 n1 (w + 1) q10 = n2 at W3
  refine ⟨OW_is W3, ?_⟩
  intro h15 eh15
  rw [← eh15] at W3
  obtain ⟨o3, x3⟩ := OW_f (j := 0) (c := w + 1) (k := 22) (n := N) W3 (by simp)
  refine ⟨n2 (w + 1), o3, x3.1, ?_⟩
  rw [x3.2, ofN, nI_clamp (by omega)]
  refine ⟨nI_pos (by omega), by omega, by omega, by omega, ?_⟩
  intro q17 ca18 f17 Y19 eY19 h20 eh20
  have W4 := OW_step (j := 1) (c := w + 2) (k := 22) (n := N) (ca := ca18) W3 pw (hP (w + 2) (by omega) (by omega)) (by omega) (by simp [nof] <;> omega) f17
  rw [← eY19, ← eh20] at W4
  generalize nm1 n2 (w + 2) q17 = n3 at W4
  refine ⟨OW_is W4, ?_⟩
  intro h22 eh22
  rw [← eh22] at W4
  obtain ⟨o4, x4⟩ := OW_f (j := 0) (c := w + 1) (k := 22) (n := N) W4 (by simp)
  refine ⟨n3 (w + 1), o4, x4.1, ?_⟩
  rw [x4.2, ofN, nl_16, pk_mul, nI_clamp (by omega)]
  refine ⟨nI_pos (by omega), by omega, by omega, by omega, ?_⟩
  intro q24 ca25 f24 Y26 eY26 h27 eh27
  have W5 := OW_step (j := 3) (c := w + 4) (k := 22) (n := N * 16) (ca := ca25) W4 pw (hP (w + 4) (by omega) (by omega)) (by omega) (by simp [nof] <;> omega) f24
  rw [← eY26, ← eh27] at W5
  generalize nm1 n3 (w + 4) q24 = n4 at W5
  refine ⟨OW_is W5, ?_⟩
  intro h29 eh29
  rw [← eh29] at W5
  obtain ⟨o5, x5⟩ := OW_f (j := 0) (c := w + 1) (k := 22) (n := N) W5 (by simp)
  refine ⟨n4 (w + 1), o5, x5.1, ?_⟩
  rw [x5.2, ofN, nI_clamp (by omega)]
  refine ⟨nI_pos (by omega), by omega, by omega, by omega, ?_⟩
  intro q31 ca32 f31 Y33 eY33 h34 eh34
  have W6 := OW_step (j := 7) (c := w + 5) (k := 22) (n := N) (ca := ca32) W5 pw (hP (w + 5) (by omega) (by omega)) (by omega) (by simp [nof] <;> omega) f31
  rw [← eY33, ← eh34] at W6
  generalize nm1 n4 (w + 5) q31 = n5 at W6
  refine ⟨OW_is W6, ?_⟩
  intro h36 eh36
  rw [← eh36] at W6
  obtain ⟨o6, x6⟩ := OW_f (j := 0) (c := w + 1) (k := 22) (n := N) W6 (by simp)
  refine ⟨n5 (w + 1), o6, x6.1, ?_⟩
  rw [x6.2, ofN, nI_clamp (by omega)]
  refine ⟨nI_pos (by omega), by omega, by omega, by omega, ?_⟩
  intro q38 ca39 f38 Y40 eY40 h41 eh41
  have W7 := OW_step (j := 8) (c := w + 6) (k := 22) (n := N) (ca := ca39) W6 pw (hP (w + 6) (by omega) (by omega)) (by omega) (by simp [nof] <;> omega) f38
  rw [← eY40, ← eh41] at W7
  generalize nm1 n5 (w + 6) q38 = n6 at W7
  refine ⟨OW_is W7, ?_⟩
  intro h43 eh43
  rw [← eh43] at W7
  refine ⟨⟨by omega, by omega⟩, q n6 Y40 h43 W7.1 W7.2.1 W7.2.2.1 ?_⟩
  have S := W7.2.2.2
  exact ⟨S.1, OS_f (j := 0) (c := w + 1) (k := 22) (n := N) S (by simp), OS_f (j := 1) (c := w + 2) (k := 22) (n := N) S (by simp), OS_f (j := 2) (c := w + 3) (k := 22) (n := 31) S (by simp), OS_f (j := 3) (c := w + 4) (k := 22) (n := N * 16) S (by simp), (OS_f (j := 6) (c := 30) (k := 7) (n := N0) S (by simp)).1, OS_f (j := 7) (c := w + 5) (k := 22) (n := N) S (by simp), OS_f (j := 8) (c := w + 6) (k := 22) (n := N) S (by simp), hb1, hw⟩
