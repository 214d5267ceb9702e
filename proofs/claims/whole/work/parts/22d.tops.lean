/-! the class: its texts as shelf, day, log, order; stop, state, after, drawn, fits -/
/-- the object and its Told, which stands for the rows p -/
def CO (Y : xg_Y) (h : xg_H) (nm : Nat → Nat) (p : Nat → Nat → Int32) : Prop := xg_is Y (nm 0) 11 ∧ xg_o h (nm 0) 0 = some (nm 100) ∧ TLd Y h nm 100 ∧ xt_rel h (nm 100) (fun i => nm (100 + 1 + i)) p ∧ xt_cnt p
theorem CO.xs {Y : xg_Y} {h : xg_H} {nm : Nat → Nat} {p : Nat → Nat → Int32} {k n : Nat} {z t pr : Nat → Nat} (C : CO Y h nm p) (hk : k < 2) (S : SR p k n z t pr) : XS Y h nm (111 + (2 * 0 + k)) n z t pr := by
  obtain ⟨_, _, T, R, _⟩ := C
  obtain ⟨tx0, t1, ⟨t2, t3⟩, ⟨t4, t5⟩, ⟨t6, t7⟩⟩ := T.tx (j := 2 * 0 + k) (by omega)
  rw [show (2 * 0 + k) / 2 = 0 by omega] at t3 t5
  rw [if_pos (by omega)] at t7
  obtain ⟨⟨n0, a0, b0, ⟨c0, c1⟩, d0⟩, _⟩ := R.2.2.2 k hk
  have hn4 := S.1
  have en : n0 = n := (nI_eq (by omega) (by omega)).mp (b0.symm.trans S.2.1)
  rw [en] at c0 c1 d0
  dsimp only at c0 c1 d0
  rw [show 100 + 1 + (10 + (0 + k)) = 111 + (2 * 0 + k) by omega] at c0
  rw [show 100 + 1 + (20 + (0 + k)) = 111 + (2 * 0 + k) + 10 by omega, show 100 + 1 + (30 + (0 + k)) = 111 + (2 * 0 + k) + 20 by omega] at c1
  rw [show 100 + 1 + (40 + (0 + k)) = 111 + (2 * 0 + k) + 30 by omega] at d0
  refine ⟨t1, ⟨t2, t3⟩, ⟨t4, t5⟩, ⟨t6, t7⟩, c0, fun j hj => ?_, fun j hj => (S.2.2.2 j hj).2.2, by omega, by omega⟩
  obtain ⟨s1, s2, s3, _, _, _, s7⟩ := S.2.2.1 j hj
  exact ⟨(c1 j hj).1.trans s1, (c1 j hj).2.trans s2, (d0 j hj).trans s3, s7⟩
theorem CO.xd {Y : xg_Y} {h : xg_H} {nm : Nat → Nat} {p : Nat → Nat → Int32} {k m : Nat} {kd yy : Nat → Nat} (C : CO Y h nm p) (hk : k < 2) (D : DY p k m kd yy) : XD Y h nm (111 + (2 * 1 + k)) m kd yy := by
  obtain ⟨_, _, T, R, _⟩ := C
  obtain ⟨tx0, t1, ⟨t2, t3⟩, ⟨t4, t5⟩, _⟩ := T.tx (j := 2 * 1 + k) (by omega)
  rw [show (2 * 1 + k) / 2 = 1 by omega] at t3 t5
  obtain ⟨_, ⟨n0, a0, b0, ⟨c0, c1⟩⟩, _⟩ := R.2.2.2 k hk
  have hn4 := D.1
  have en : n0 = m := (nI_eq (by omega) (by omega)).mp (b0.symm.trans D.2.1)
  rw [en] at c0 c1
  dsimp only at c0 c1
  rw [show 100 + 1 + (10 + (2 + k)) = 111 + (2 * 1 + k) by omega] at c0
  rw [show 100 + 1 + (20 + (2 + k)) = 111 + (2 * 1 + k) + 10 by omega, show 100 + 1 + (30 + (2 + k)) = 111 + (2 * 1 + k) + 20 by omega] at c1
  refine ⟨t1, ⟨t2, t3⟩, ⟨t4, t5⟩, c0, hn4, fun j hj => ?_, by omega, by omega⟩
  obtain ⟨s1, s2, s3⟩ := D.2.2 j hj
  rw [show 1 + 2 * j + 1 = 2 + 2 * j by omega] at s2
  exact ⟨(c1 j hj).1.trans s1, (c1 j hj).2.trans s2, s3⟩
theorem CO.xl {Y : xg_Y} {h : xg_H} {nm : Nat → Nat} {p : Nat → Nat → Int32} {k c : Nat} {mi gl : Nat → Nat} (C : CO Y h nm p) (hk : k < 2) (D : LGr p k c mi gl) : XL Y h nm (111 + (2 * 2 + k)) c mi gl := by
  obtain ⟨_, _, T, R, _⟩ := C
  obtain ⟨tx0, t1, ⟨t2, t3⟩, ⟨t4, t5⟩, _⟩ := T.tx (j := 2 * 2 + k) (by omega)
  rw [show (2 * 2 + k) / 2 = 2 by omega] at t3 t5
  obtain ⟨_, _, ⟨n0, a0, b0, ⟨c0, c1⟩⟩, _⟩ := R.2.2.2 k hk
  have hn4 := D.1
  have en : n0 = c := (nI_eq (by omega) (by omega)).mp (b0.symm.trans D.2.1)
  rw [en] at c0 c1
  dsimp only at c0 c1
  rw [show 100 + 1 + (10 + (4 + k)) = 111 + (2 * 2 + k) by omega] at c0
  rw [show 100 + 1 + (20 + (4 + k)) = 111 + (2 * 2 + k) + 10 by omega, show 100 + 1 + (30 + (4 + k)) = 111 + (2 * 2 + k) + 20 by omega] at c1
  refine ⟨t1, ⟨t2, t3⟩, ⟨t4, t5⟩, c0, hn4, fun j hj => ?_, by omega, by omega⟩
  obtain ⟨s1, s2, s3⟩ := D.2.2 j hj
  rw [show 1 + 2 * j + 1 = 2 + 2 * j by omega] at s2
  exact ⟨(c1 j hj).1.trans s1, (c1 j hj).2.trans s2, s3⟩
theorem CO.xo {Y : xg_Y} {h : xg_H} {nm : Nat → Nat} {p : Nat → Nat → Int32} {k n : Nat} {sp : Nat → Nat} (C : CO Y h nm p) (hk : k < 2) (D : OR p k n sp) : XO Y h nm (111 + (2 * 3 + k)) n sp := by
  obtain ⟨_, _, T, R, _⟩ := C
  obtain ⟨tx0, t1, ⟨t2, t3⟩, _⟩ := T.tx (j := 2 * 3 + k) (by omega)
  rw [show (2 * 3 + k) / 2 = 3 by omega] at t3
  obtain ⟨_, _, _, ⟨n0, a0, b0, c0, c1⟩⟩ := R.2.2.2 k hk
  have hn4 := D.1
  have en : n0 = n := (nI_eq (by omega) (by omega)).mp (b0.symm.trans D.2.1)
  rw [en] at c0 c1
  dsimp only at c0 c1
  rw [show 100 + 1 + (10 + (6 + k)) = 111 + (2 * 3 + k) by omega] at c0
  rw [show 100 + 1 + (20 + (6 + k)) = 111 + (2 * 3 + k) + 10 by omega] at c1
  refine ⟨t1, ⟨t2, t3⟩, c0, hn4, fun j hj => ?_, by omega, by omega⟩
  obtain ⟨s1, s2⟩ := D.2.2 j hj
  exact ⟨(c1 j hj).trans s1, s2⟩
theorem sp_findV {Y : xg_Y} {Q : Option Nat → xg_H → Prop} {h : xg_H} {nm : Nat → Nat} {p : Nat → Nat → Int32} {s k : Nat} {x : Int32} (C : CO Y h nm p) (hs : s < 4) (hx : okN p s x k) (q : Q (some (nm (111 + (2 * s + k)))) h) : wp_X9_find Y Q (nm 100) (nI s) x h := by
  obtain ⟨_, _, T, R, cn⟩ := C
  obtain ⟨m, hm, em⟩ := cn s hs
  obtain ⟨ex, hk2, hv⟩ := hx
  rw [em] at hv
  refine sp_X9_find T hs hm ((R.2.2.1 s hs).trans em) (fun k' hk' e => ?_) (fun c => absurd (by rw [ex]; exact hv) c)
  have e9 := (nI_eq (by omega) (by omega)).mp (ex.symm.trans e)
  rw [← e9]
  try dsimp only
  rw [show 100 + 1 + (10 + (2 * s + k)) = 111 + (2 * s + k) by omega]
  exact q
theorem sp_find0 {Y : xg_Y} {Q : Option Nat → xg_H → Prop} {h : xg_H} {nm : Nat → Nat} {p : Nat → Nat → Int32} {s : Nat} {x : Int32} (C : CO Y h nm p) (hs : s < 4) (hx : noN p s x) (q : Q none h) : wp_X9_find Y Q (nm 100) (nI s) x h := by
  obtain ⟨_, _, T, R, cn⟩ := C
  obtain ⟨m, hm, em⟩ := cn s hs
  unfold noN at hx
  rw [em] at hx
  refine sp_X9_find T hs hm ((R.2.2.1 s hs).trans em) (fun k' hk' e => absurd ?_ hx) (fun _ => q)
  rw [e]
  exact mp_rngI (by omega) hk'
theorem okN_em {p : Nat → Nat → Int32} {s : Nat} (hs : s < 4) (cn : xt_cnt p) (x : Int32) : (∃ k, okN p s x k) ∨ noN p s x := by
  obtain ⟨m, hm, em⟩ := cn s hs
  exact okN_or hm em x
/-- two texts are found, or one isn't -/
theorem sp_find2 {Y : xg_Y} {Q : Option Nat → xg_H → Prop} {h : xg_H} {nm : Nat → Nat} {p : Nat → Nat → Int32} {s : Nat} {x : Int32} (C : CO Y h nm p) (hs : s < 4) (q1 : ∀ k, okN p s x k → Q (some (nm (111 + (2 * s + k)))) h) (q0 : noN p s x → Q none h) : wp_X9_find Y Q (nm 100) (nI s) x h := by
  rcases okN_em hs C.2.2.2.2 x with ⟨k, hk⟩ | hk
  · exact sp_findV C hs hk (q1 k hk)
  · exact sp_find0 C hs hk (q0 hk)
theorem sp_X11_stopV {Y : xg_Y} {Q : Int32 → xg_H → Prop} {h : xg_H} {nm : Nat → Nat} {p : Nat → Nat → Int32} {x y : Int32} {k d n m : Nat} {z t pr kd yy : Nat → Nat} (hn : inj nm) (C : CO Y h nm p) (B : XB Y h nm) (o3 : xg_o h (nm 0) 3 = some (nm 10)) (hx : okN p 0 x k) (hy : okN p 1 y d) (S : SR p k n z t pr) (D : DY p d m kd yy) (q : ∀ j h', xd nm lB h h' → wE n kd yy (w0 z t) m j → Q (nI j) h') : wp_X11_stop Y Q (nm 0) x y h := by
  have X := C.xs hx.2.1 S
  have XDy := C.xd hy.2.1 D
  unfold wp_X11_stop
  refine ⟨C.1, nm 100, C.2.1, C.2.2.1.1, sp_findV (s := 0) C (by decide) hx ⟨nm 100, C.2.1, C.2.2.1.1, sp_findV (s := 1) C (by decide) hy ?_⟩⟩
  refine ⟨fun c => (by cases c), fun a7 _ => ⟨fun c => (by cases c), fun a8 e8 => ⟨nm 10, o3, B.1, ?_⟩⟩⟩
  have e8 : nm (111 + (2 * 1 + d)) = a8 := Option.some.inj e8
  rw [← e8]
  refine sp_X0_begin hn B X S.1 (fun h2 e2 R2 => ⟨XDy.1, nm 10, (e2.2 0 3).trans o3, B.1, ?_⟩)
  have XD2 := XDy.mv e2 lB_lt
  rw [XD2.2.2.2.1]
  exact sp_X0_play hn (B.mv e2) R2 (w0_K S.sh) XD2 (Nat.le_refl m) (fun j h3 e3 E _ => q j h3 (e2.tr e3) E)
theorem sp_X11_stop0 {Y : xg_Y} {Q : Int32 → xg_H → Prop} {h : xg_H} {nm : Nat → Nat} {p : Nat → Nat → Int32} {x y : Int32} (C : CO Y h nm p) (hxy : noN p 0 x ∨ noN p 1 y) (q : Q (-1) h) : wp_X11_stop Y Q (nm 0) x y h := by
  unfold wp_X11_stop
  refine ⟨C.1, nm 100, C.2.1, C.2.2.1.1, sp_find2 (s := 0) C (by decide) (fun k hk => ?_) (fun hk => ?_)⟩
  · refine ⟨nm 100, C.2.1, C.2.2.1.1, sp_find0 (s := 1) C (by decide) (hxy.elim (fun c => absurd (by rw [hk.1]; exact hk.2.2) c) id) ?_⟩
    exact ⟨fun c => (by cases c), fun a7 _ => ⟨fun _ => q, fun a8 c => (by cases c)⟩⟩
  · exact ⟨nm 100, C.2.1, C.2.2.1.1, sp_find2 (s := 1) C (by decide) (fun _ _ => ⟨fun _ => q, fun a8 c => (by cases c)⟩) (fun _ => ⟨fun _ => q, fun a8 c => (by cases c)⟩)⟩
theorem sp_X11_stateV {Y : xg_Y} {Q : Int32 → xg_H → Prop} {h : xg_H} {nm : Nat → Nat} {p : Nat → Nat → Int32} {x y x4 : Int32} {k d n m N : Nat} {z t pr kd yy : Nat → Nat} (hn : inj nm) (C : CO Y h nm p) (B : XB Y h nm) (o3 : xg_o h (nm 0) 3 = some (nm 10)) (hx : okN p 0 x k) (hy : okN p 1 y d) (hN : N ≤ m) (S : SR p k n z t pr) (D : DY p d m kd yy) (q : ∀ v h', xd nm lB h h' → STv n z t kd yy N x4 v → Q v h') : wp_X11_state Y Q (nm 0) x y (nI N) x4 h := by
  have X := C.xs hx.2.1 S
  have XDy := C.xd hy.2.1 D
  have hm40 := D.1
  unfold wp_X11_state
  refine ⟨C.1, nm 100, C.2.1, C.2.2.1.1, sp_findV (s := 0) C (by decide) hx ⟨nm 100, C.2.1, C.2.2.1.1, sp_findV (s := 1) C (by decide) hy ?_⟩⟩
  refine ⟨fun c => (by cases c), fun a7 _ => ⟨fun c => (by cases c), fun a8 e8 => ?_⟩⟩
  have e8 : nm (111 + (2 * 1 + d)) = a8 := Option.some.inj e8
  rw [← e8, XDy.2.2.2.1]
  refine bq_f (nI_pos (by omega)) ⟨XDy.1, bq_t (nI_le hN (by omega)) ⟨nm 10, o3, B.1, ?_⟩⟩
  refine sp_X0_begin hn B X S.1 (fun h2 e2 R2 => ⟨nm 10, (e2.2 0 3).trans o3, B.1, ?_⟩)
  have XD2 := XDy.mv e2 lB_lt
  refine sp_X0_play hn (B.mv e2) R2 (w0_K S.sh) XD2 hN (fun j h3 e3 E R3 => ?_)
  have hj := E.1
  by_cases c : j = N
  · refine bq_nf (by rw [c]) ⟨nm 10, (e3.2 0 3).trans ((e2.2 0 3).trans o3), B.1, ?_⟩
    rw [c] at R3
    exact sp_X0_look (B.mv (e2.tr e3)) R3 (wT_K (w0_K S.sh) N) (fun v hv => q v h3 (e2.tr e3) ⟨j, E, Or.inl ⟨c, hv⟩⟩)
  · exact bq_nt (fun c2 => c ((nI_eq (by omega) (by omega)).mp c2)) (q _ h3 (e2.tr e3) ⟨j, E, Or.inr ⟨c, rfl⟩⟩)
theorem sp_X11_state0 {Y : xg_Y} {Q : Int32 → xg_H → Prop} {h : xg_H} {nm : Nat → Nat} {p : Nat → Nat → Int32} {x y x3 x4 : Int32} (C : CO Y h nm p) (hxy : noN p 0 x ∨ noN p 1 y) (q : Q (-1) h) : wp_X11_state Y Q (nm 0) x y x3 x4 h := by
  unfold wp_X11_state
  refine ⟨C.1, nm 100, C.2.1, C.2.2.1.1, sp_find2 (s := 0) C (by decide) (fun k hk => ?_) (fun hk => ?_)⟩
  · refine ⟨nm 100, C.2.1, C.2.2.1.1, sp_find0 (s := 1) C (by decide) (hxy.elim (fun c => absurd (by rw [hk.1]; exact hk.2.2) c) id) ?_⟩
    exact ⟨fun c => (by cases c), fun a7 _ => ⟨fun _ => q, fun a8 c => (by cases c)⟩⟩
  · exact ⟨nm 100, C.2.1, C.2.2.1.1, sp_find2 (s := 1) C (by decide) (fun _ _ => ⟨fun _ => q, fun a8 c => (by cases c)⟩) (fun _ => ⟨fun _ => q, fun a8 c => (by cases c)⟩)⟩
theorem sp_X11_state1 {Y : xg_Y} {Q : Int32 → xg_H → Prop} {h : xg_H} {nm : Nat → Nat} {p : Nat → Nat → Int32} {x y x3 x4 : Int32} {k d m : Nat} {kd yy : Nat → Nat} (C : CO Y h nm p) (hx : okN p 0 x k) (hy : okN p 1 y d) (hN : ¬ (0 ≤ x3 ∧ x3 ≤ nI m)) (D : DY p d m kd yy) (q : Q (-1) h) : wp_X11_state Y Q (nm 0) x y x3 x4 h := by
  have XDy := C.xd hy.2.1 D
  unfold wp_X11_state
  refine ⟨C.1, nm 100, C.2.1, C.2.2.1.1, sp_findV (s := 0) C (by decide) hx ⟨nm 100, C.2.1, C.2.2.1.1, sp_findV (s := 1) C (by decide) hy ?_⟩⟩
  refine ⟨fun c => (by cases c), fun a7 _ => ⟨fun c => (by cases c), fun a8 e8 => ?_⟩⟩
  have e8 : nm (111 + (2 * 1 + d)) = a8 := Option.some.inj e8
  rw [← e8, XDy.2.2.2.1]
  by_cases c0 : x3 < 0
  · exact bq_t c0 q
  · exact bq_f c0 ⟨XDy.1, bq_f (fun c => hN ⟨Int32.not_lt.mp c0, c⟩) q⟩
