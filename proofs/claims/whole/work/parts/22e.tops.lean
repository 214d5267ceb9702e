/-! the class: after, drawn, fits -/
theorem sp_X11_afterV {Y : xg_Y} {Q : Int32 → xg_H → Prop} {h : xg_H} {nm : Nat → Nat} {p : Nat → Nat → Int32} {x y x3 : Int32} {k d n m : Nat} {z t pr kd yy : Nat → Nat} (hn : inj nm) (C : CO Y h nm p) (B : XB Y h nm) (o3 : xg_o h (nm 0) 3 = some (nm 10)) (hx : okN p 0 x k) (hy : okN p 1 y d) (a3 : 0 ≤ x3) (b3 : x3 ≤ 5) (S : SR p k n z t pr) (D : DY p d m kd yy) (q : ∀ j v h', xd nm lB h h' → wE n kd yy (w0 z t) m j → AFv n (wT n kd yy (w0 z t) j) x3 v → Q v h') : wp_X11_after Y Q (nm 0) x y x3 h := by
  have X := C.xs hx.2.1 S
  have XDy := C.xd hy.2.1 D
  unfold wp_X11_after
  refine ⟨C.1, nm 100, C.2.1, C.2.2.1.1, sp_findV (s := 0) C (by decide) hx ⟨nm 100, C.2.1, C.2.2.1.1, sp_findV (s := 1) C (by decide) hy ?_⟩⟩
  refine ⟨fun c => (by cases c), fun a7 _ => ⟨fun c => (by cases c), fun a8 e8 => ⟨nm 10, o3, B.1, ?_⟩⟩⟩
  have e8 : nm (111 + (2 * 1 + d)) = a8 := Option.some.inj e8
  rw [← e8]
  refine sp_X0_begin hn B X S.1 (fun h2 e2 R2 => ⟨XDy.1, nm 10, (e2.2 0 3).trans o3, B.1, ?_⟩)
  have XD2 := XDy.mv e2 lB_lt
  rw [XD2.2.2.2.1]
  refine sp_X0_play hn (B.mv e2) R2 (w0_K S.sh) XD2 (Nat.le_refl m) (fun j h3 e3 E R3 => ?_)
  have K3 := wT_K (kd := kd) (yy := yy) (w0_K S.sh) j
  have q := fun v => q j v h3 (e2.tr e3) E
  have ob : xg_o h3 (nm 0) 3 = some (nm 10) := (e3.2 0 3).trans ((e2.2 0 3).trans o3)
  have B3 := B.mv (e2.tr e3)
  revert R3 K3 q
  generalize wT n kd yy (w0 z t) j = w
  intro R3 K3 q
  have R3' := R3
  obtain ⟨r6, r7, r0, r4, r1, r2, r3, rg⟩ := R3'
  rcases x05 a3 b3 with c | c | c | c | c | c
  · subst c
    refine ⟨fun _ => ⟨nm 10, ob, B.1, ?_⟩, fun c => absurd c (by decide), fun c => absurd c (by decide), fun c => absurd c (by decide), fun c => absurd c (by decide), fun c => absurd c (by decide), fun c => absurd rfl c⟩
    rw [r0]
    exact q _ ⟨fun _ => rfl, fun c => absurd c (by decide), fun c => absurd c (by decide), fun c => absurd c (by decide), fun c => absurd c (by decide), fun c => absurd c (by decide)⟩
  · subst c
    refine ⟨fun c => absurd c (by decide), fun _ => ⟨nm 10, ob, B.1, ?_⟩, fun c => absurd c (by decide), fun c => absurd c (by decide), fun c => absurd c (by decide), fun c => absurd c (by decide), fun _ c => absurd rfl c⟩
    rw [r1]
    exact q _ ⟨fun c => absurd c (by decide), fun _ => rfl, fun c => absurd c (by decide), fun c => absurd c (by decide), fun c => absurd c (by decide), fun c => absurd c (by decide)⟩
  · subst c
    refine ⟨fun c => absurd c (by decide), fun c => absurd c (by decide), fun _ => ⟨nm 10, ob, B.1, ?_⟩, fun c => absurd c (by decide), fun c => absurd c (by decide), fun c => absurd c (by decide), fun _ _ c => absurd rfl c⟩
    rw [r2]
    exact q _ ⟨fun c => absurd c (by decide), fun c => absurd c (by decide), fun _ => rfl, fun c => absurd c (by decide), fun c => absurd c (by decide), fun c => absurd c (by decide)⟩
  · subst c
    refine ⟨fun c => absurd c (by decide), fun c => absurd c (by decide), fun c => absurd c (by decide), fun _ => ⟨nm 10, ob, B.1, ?_⟩, fun c => absurd c (by decide), fun c => absurd c (by decide), fun _ _ _ c => absurd rfl c⟩
    rw [r3]
    exact q _ ⟨fun c => absurd c (by decide), fun c => absurd c (by decide), fun c => absurd c (by decide), fun _ => rfl, fun c => absurd c (by decide), fun c => absurd c (by decide)⟩
  · subst c
    refine ⟨fun c => absurd c (by decide), fun c => absurd c (by decide), fun c => absurd c (by decide), fun c => absurd c (by decide), fun _ => ⟨nm 10, ob, B.1, ?_⟩, fun c => absurd c (by decide), fun _ _ _ _ c => absurd rfl c⟩
    rw [r4]
    exact q _ ⟨fun c => absurd c (by decide), fun c => absurd c (by decide), fun c => absurd c (by decide), fun c => absurd c (by decide), fun _ => rfl, fun c => absurd c (by decide)⟩
  · subst c
    refine ⟨fun c => absurd c (by decide), fun c => absurd c (by decide), fun c => absurd c (by decide), fun c => absurd c (by decide), fun c => absurd c (by decide), fun _ => ⟨nm 10, ob, B.1, ?_⟩, fun _ _ _ _ _ c => absurd rfl c⟩
    exact sp_X0_keenest B3 R3 K3 (q _ ⟨fun c => absurd c (by decide), fun c => absurd c (by decide), fun c => absurd c (by decide), fun c => absurd c (by decide), fun c => absurd c (by decide), fun _ => rfl⟩)
theorem sp_X11_after0 {Y : xg_Y} {Q : Int32 → xg_H → Prop} {h : xg_H} {nm : Nat → Nat} {p : Nat → Nat → Int32} {x y x3 : Int32} (C : CO Y h nm p) (hxy : noN p 0 x ∨ noN p 1 y) (q : Q (-2) h) : wp_X11_after Y Q (nm 0) x y x3 h := by
  unfold wp_X11_after
  refine ⟨C.1, nm 100, C.2.1, C.2.2.1.1, sp_find2 (s := 0) C (by decide) (fun k hk => ?_) (fun hk => ?_)⟩
  · refine ⟨nm 100, C.2.1, C.2.2.1.1, sp_find0 (s := 1) C (by decide) (hxy.elim (fun c => absurd (by rw [hk.1]; exact hk.2.2) c) id) ?_⟩
    exact ⟨fun c => (by cases c), fun a7 _ => ⟨fun _ => q, fun a8 c => (by cases c)⟩⟩
  · exact ⟨nm 100, C.2.1, C.2.2.1.1, sp_find2 (s := 1) C (by decide) (fun _ _ => ⟨fun _ => q, fun a8 c => (by cases c)⟩) (fun _ => ⟨fun _ => q, fun a8 c => (by cases c)⟩)⟩
theorem sp_X11_after1 {Y : xg_Y} {Q : Int32 → xg_H → Prop} {h : xg_H} {nm : Nat → Nat} {p : Nat → Nat → Int32} {x y x3 : Int32} {k d n m : Nat} {z t pr kd yy : Nat → Nat} (hn : inj nm) (C : CO Y h nm p) (B : XB Y h nm) (o3 : xg_o h (nm 0) 3 = some (nm 10)) (hx : okN p 0 x k) (hy : okN p 1 y d) (h3 : ¬ (0 ≤ x3 ∧ x3 ≤ 5)) (S : SR p k n z t pr) (D : DY p d m kd yy) (q : ∀ h', xd nm lB h h' → Q (-2) h') : wp_X11_after Y Q (nm 0) x y x3 h := by
  have X := C.xs hx.2.1 S
  have XDy := C.xd hy.2.1 D
  have no : ∀ i, i ≤ 5 → ¬ x3 = nI i := fun i hi e => h3 (by rw [e]; exact ⟨nI_le (a := 0) (Nat.zero_le i) (by omega), nI_le (b := 5) hi (by decide)⟩)
  unfold wp_X11_after
  refine ⟨C.1, nm 100, C.2.1, C.2.2.1.1, sp_findV (s := 0) C (by decide) hx ⟨nm 100, C.2.1, C.2.2.1.1, sp_findV (s := 1) C (by decide) hy ?_⟩⟩
  refine ⟨fun c => (by cases c), fun a7 _ => ⟨fun c => (by cases c), fun a8 e8 => ⟨nm 10, o3, B.1, ?_⟩⟩⟩
  have e8 : nm (111 + (2 * 1 + d)) = a8 := Option.some.inj e8
  rw [← e8]
  refine sp_X0_begin hn B X S.1 (fun h2 e2 R2 => ⟨XDy.1, nm 10, (e2.2 0 3).trans o3, B.1, ?_⟩)
  have XD2 := XDy.mv e2 lB_lt
  rw [XD2.2.2.2.1]
  refine sp_X0_play hn (B.mv e2) R2 (w0_K S.sh) XD2 (Nat.le_refl m) (fun j h3 e3 E R3 => ?_)
  exact ⟨fun c => absurd c (no 0 (by decide)), fun c => absurd c (no 1 (by decide)), fun c => absurd c (no 2 (by decide)), fun c => absurd c (no 3 (by decide)), fun c => absurd c (no 4 (by decide)), fun c => absurd c (no 5 (by decide)), fun _ _ _ _ _ _ => q h3 (e2.tr e3)⟩
theorem sp_X11_drawnV {Y : xg_Y} {Q : Int32 → xg_H → Prop} {h : xg_H} {nm : Nat → Nat} {p : Nat → Nat → Int32} {x1 x2 x4 : Int32} {k n m : Nat} {z t pr : Nat → Nat} (hn : inj nm) (C : CO Y h nm p) (B : XB Y h nm) (o3 : xg_o h (nm 0) 3 = some (nm 10)) (hx : okN p 0 x1 k) (hm : m ≤ 60) (S : SR p k n z t pr) (q : ∀ v h', xd nm lB h h' → SV n (dT n (w0 z t) x2 m).1 x4 v → Q v h') : wp_X11_drawn Y Q (nm 0) x1 x2 (nI m) x4 h := by
  have X := C.xs hx.2.1 S
  unfold wp_X11_drawn
  refine ⟨C.1, nm 100, C.2.1, C.2.2.1.1, sp_findV (s := 0) C (by decide) hx ?_⟩
  refine ⟨fun c => (by cases c), fun a7 _ => bq_f (nI_pos (by omega)) (bq_t (nI_le (b := 60) hm (by decide)) ⟨nm 10, o3, B.1, ?_⟩)⟩
  refine sp_X0_begin hn B X S.1 (fun h2 e2 R2 => ⟨nm 10, (e2.2 0 3).trans o3, B.1, ?_⟩)
  refine sp_X0_playDrawn hn (B.mv e2) R2 (w0_K S.sh) hm (fun h3 e3 R3 => ⟨nm 10, (e3.2 0 3).trans ((e2.2 0 3).trans o3), B.1, ?_⟩)
  exact sp_X0_look (B.mv (e2.tr e3)) R3 (dT_K (w0_K S.sh) m) (fun v hv => q v h3 (e2.tr e3) hv)
theorem sp_X11_drawn0 {Y : xg_Y} {Q : Int32 → xg_H → Prop} {h : xg_H} {nm : Nat → Nat} {p : Nat → Nat → Int32} {x1 x2 x3 x4 : Int32} (C : CO Y h nm p) (hx : noN p 0 x1 ∨ ¬ (0 ≤ x3 ∧ x3 ≤ 60)) (q : Q (-1) h) : wp_X11_drawn Y Q (nm 0) x1 x2 x3 x4 h := by
  unfold wp_X11_drawn
  refine ⟨C.1, nm 100, C.2.1, C.2.2.1.1, sp_find2 (s := 0) C (by decide) (fun k hk => ⟨fun c => (by cases c), fun a7 _ => ?_⟩) (fun hk => ⟨fun _ => q, fun a8 c => (by cases c)⟩)⟩
  have h3 : ¬ (0 ≤ x3 ∧ x3 ≤ 60) := hx.elim (fun c => absurd (by rw [hk.1]; exact hk.2.2) c) id
  by_cases c0 : x3 < 0
  · exact bq_t c0 q
  · exact bq_f c0 (bq_f (fun c => h3 ⟨Int32.not_lt.mp c0, c⟩) q)
