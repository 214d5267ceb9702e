/-! the class: fits -/
def xc (nm : Nat → Nat) (h h2 : xg_H) : Prop := (∀ c, c ∉ [20, 21, 22, 23, 24, 25, 26, 27] → ∀ j, xg_i h2 (nm c) j = xg_i h (nm c) j ∧ xg_l h2 (nm c) j = xg_l h (nm c) j) ∧ ∀ c j, ¬ (c = 20 ∧ (j = 12 ∨ j = 13)) → xg_o h2 (nm c) j = xg_o h (nm c) j
theorem xc.of {nm : Nat → Nat} (hn : inj nm) {h h2 : xg_H} {u v : Option Nat} (e : xd nm [20, 21, 22, 23, 24, 25, 26, 27] (xg_uo (xg_uo h (nm 20) 12 u) (nm 20) 13 v) h2) : xc nm h h2 := by
  refine ⟨fun c hc j => e.1 c hc j, fun c j hc => (e.2 c j).trans ?_⟩
  rw [xo_uo, if_neg (fun e9 => hc ⟨hn _ _ e9.1, Or.inr e9.2⟩), xo_uo, if_neg (fun e9 => hc ⟨hn _ _ e9.1, Or.inl e9.2⟩)]
theorem XC.c {Y : xg_Y} {h h2 : xg_H} {nm : Nat → Nat} (K : XC Y h nm) (e : xc nm h h2) : XC Y h2 nm := by
  obtain ⟨a1, a2, a3, a4, a5, a6, a7, a8⟩ := K
  exact ⟨a1, ⟨(e.2 20 2 (by omega)).trans a2.1, a2.2⟩, ⟨(e.2 20 3 (by omega)).trans a3.1, a3.2⟩, ⟨(e.2 20 4 (by omega)).trans a4.1, a4.2⟩, ⟨(e.2 20 5 (by omega)).trans a5.1, a5.2⟩, ⟨(e.2 20 6 (by omega)).trans a6.1, a6.2⟩, ⟨(e.2 20 7 (by omega)).trans a7.1, a7.2⟩, ⟨(e.2 20 8 (by omega)).trans a8.1, a8.2⟩⟩
theorem XS.c {Y : xg_Y} {h h2 : xg_H} {nm : Nat → Nat} {tx n : Nat} {z t pr : Nat → Nat} (S : XS Y h nm tx n z t pr) (e : xc nm h h2) : XS Y h2 nm tx n z t pr := by
  obtain ⟨s1, s2, s3, s4, s5, s6, s7, s8, s9⟩ := S
  have E : ∀ c, 100 ≤ c → ∀ j, xg_i h2 (nm c) j = xg_i h (nm c) j := fun c hc j => (e.1 c (fun q => by simp at q; omega) j).1
  refine ⟨s1, ⟨(e.2 tx 1 (by omega)).trans s2.1, s2.2⟩, ⟨(e.2 tx 2 (by omega)).trans s3.1, s3.2⟩, ⟨(e.2 tx 3 (by omega)).trans s4.1, s4.2⟩, (E tx s8 0).trans s5, fun j hj => ?_, s7, s8, s9⟩
  rw [E _ (by omega), E _ (by omega), E _ (by omega)]
  exact s6 j hj
set_option maxHeartbeats 1000000 in
theorem sp_X11_fitsV {Y : xg_Y} {Q : Int32 → xg_H → Prop} {h : xg_H} {nm : Nat → Nat} {p : Nat → Nat → Int32} {x y w x4 : Int32} {k n o m l c : Nat} {z t pr kd yy mi gl : Nat → Nat} (hn : inj nm) (C : CO Y h nm p) (K : XC Y h nm) (o4 : xg_o h (nm 0) 4 = some (nm 20)) (hx : okN p 0 x k) (hy : okN p 1 y o) (hw : okN p 2 w l) (S : SR p k n z t pr) (D : DY p o m kd yy) (L : LGr p l c mi gl) (q : ∀ v h', xc nm h h' → FSv n m c z kd yy mi gl x4 v → Q v h') : wp_X11_fits Y Q (nm 0) x y w x4 h := by
  have X := C.xs hx.2.1 S
  have XDy := C.xd hy.2.1 D
  have XLg := C.xl hw.2.1 L
  have SHh := S.sh
  have hn4 := S.1
  have hz7 : ∀ j, z j ≤ 7 := fun j => (SHh.le j).1
  have hPB := PBk_b hz7 n
  have h84 : 8 ^ n ≤ 8 ^ 4 := Nat.pow_le_pow_right (by decide) hn4
  unfold wp_X11_fits
  refine ⟨C.1, fun R96 c96 => ?_⟩
  refine ⟨nm 100, C.2.1, C.2.2.1.1, sp_findV (s := 0) C (by decide) hx ⟨nm 100, C.2.1, C.2.2.1.1, sp_findV (s := 1) C (by decide) hy ⟨nm 100, C.2.1, C.2.2.1.1, sp_findV (s := 2) C (by decide) hw ?_⟩⟩⟩
  refine ⟨fun c => (by cases c), fun a7 _ => ⟨fun c => (by cases c), fun a8 _ => ⟨fun c => (by cases c), fun a9 _ => ?_⟩⟩⟩
  have big : ∀ j, j < 10 → ¬ x4 < 10 → ¬ x4 = nI j := fun j hj c10 e => c10 (by rw [e]; exact nI_lt (b := 10) hj (by decide))
  have le10 : 10 ≤ x4 ↔ ¬ x4 < 10 := Int32.not_lt.symm
  by_cases c0 : x4 < 0
  · have l10 : x4 < 10 := by
      have h1 := Int32.lt_iff_toInt_lt.mp c0
      refine Int32.lt_iff_toInt_lt.mpr ?_
      have h2 : (0 : Int32).toInt = 0 := by decide
      have h3 : (10 : Int32).toInt = 10 := by decide
      omega
    have no : ∀ j, j < 10 → ¬ x4 = nI j := fun j hj e => by rw [e] at c0; exact nI_pos (by omega) c0
    exact bq_t c0 (q _ h ⟨fun _ _ _ => ⟨rfl, rfl⟩, fun _ _ _ => rfl⟩ ⟨fun e => absurd e (no 0 (by decide)), fun e => absurd e (no 1 (by decide)), fun e => absurd e (no 2 (by decide)), fun e => absurd e (no 3 (by decide)), fun g hg e => absurd e (no (4 + g) (by omega)), fun e => absurd l10 e, fun _ _ => rfl⟩)
  refine bq_f c0 ?_
  obtain ⟨i, hi, ei⟩ := nI_of c0
  have ne : ∀ j, j < 1000 → (x4 = nI j ↔ i = j) := fun j hj => by rw [ei]; exact nI_eq hi (by omega)
  by_cases c8 : x4 = 8
  · have := (ne 8 (by decide)).mp c8
    exact bq_t c8 (q _ h ⟨fun _ _ _ => ⟨rfl, rfl⟩, fun _ _ _ => rfl⟩ ⟨fun e => absurd ((ne 0 (by decide)).mp e) (by omega), fun e => absurd ((ne 1 (by decide)).mp e) (by omega), fun e => absurd ((ne 2 (by decide)).mp e) (by omega), fun e => absurd ((ne 3 (by decide)).mp e) (by omega), fun g hg e => absurd ((ne (4 + g) (by omega)).mp e) (by omega), fun e => absurd (by rw [c8]; decide) e, fun _ _ => rfl⟩)
  refine bq_f c8 ?_
  by_cases c9 : x4 = 9
  · have := (ne 9 (by decide)).mp c9
    exact bq_nf c9 (q _ h ⟨fun _ _ _ => ⟨rfl, rfl⟩, fun _ _ _ => rfl⟩ ⟨fun e => absurd ((ne 0 (by decide)).mp e) (by omega), fun e => absurd ((ne 1 (by decide)).mp e) (by omega), fun e => absurd ((ne 2 (by decide)).mp e) (by omega), fun e => absurd ((ne 3 (by decide)).mp e) (by omega), fun g hg e => absurd ((ne (4 + g) (by omega)).mp e) (by omega), fun e => absurd (by rw [c9]; decide) e, fun _ _ => rfl⟩)
  refine bq_nt c9 ?_
  have i8 : ¬ i = 8 := fun e => c8 ((ne 8 (by decide)).mpr e)
  have i9 : ¬ i = 9 := fun e => c9 ((ne 9 (by decide)).mpr e)
  rw [o4]
  have main : ∀ s0, (¬ x4 < 10 → s0 = x4 - 10) → R96 (some (nm (111 + (2 * 0 + k)))) s0 (some (nm (111 + (2 * 2 + l)))) (some (nm (111 + (2 * 1 + o)))) (some (nm (111 + (2 * 0 + k)))) (some (nm 20)) h := by
    intro s0 hs0
    refine c96 _ _ _ _ _ _ _ ⟨nm 20, rfl, K.1, ?_⟩
    refine sp_X2_survey hn K X XDy XLg SHh (fun h2 e2 A => ?_)
    have e := xc.of hn e2
    obtain ⟨b0, b25, b26, b1⟩ := A
    have K2 := K.c e
    have X2 := X.c e
    have ob : xg_o h2 (nm 0) 4 = some (nm 20) := (e.2 0 4 (by omega)).trans o4
    have cnt := fb_ct_le (fun j => dcd (cFt n m c z kd yy mi gl j)) (PBk z n)
    have p7 : ∀ g, g < n → ∀ u, (g < n ∧ ∃ j, j < PBk z n ∧ cFt n m c z kd yy mi gl j ∧ tpr z j g = u) → u < 8 := fun g _ u hu => by
      obtain ⟨_, j, _, _, hj⟩ := hu
      have h1 := tpr_le (z := z) (row := j) (g := g)
      have h2 := hz7 g
      omega
    refine ⟨fun e0 => ⟨nm 20, ob, K.1, ?_⟩, fun e0 => ⟨nm 20, ob, K.1, ?_⟩, fun e0 => ⟨nm 20, ob, K.1, ?_⟩, fun e0 => ⟨nm 20, ob, K.1, ?_⟩, fun n0 n1 n2 n3 => ?_⟩
    · have i0 := (ne 0 (by decide)).mp e0
      rw [b0]
      exact q _ h2 e ⟨fun _ => rfl, fun e' => absurd ((ne 1 (by decide)).mp e') (by omega), fun e' => absurd ((ne 2 (by decide)).mp e') (by omega), fun e' => absurd ((ne 3 (by decide)).mp e') (by omega), fun g hg e' => absurd ((ne (4 + g) (by omega)).mp e') (by omega), fun e' => absurd (by rw [e0]; decide) e', fun _ e' => absurd (by rw [e0]; decide) e'⟩
    · have i0 := (ne 1 (by decide)).mp e0
      exact sp_X2_bestMinute K2 b0 (by omega) (fun x h1 h2 => ⟨b26 x h1 h2, fb_ct_sub (fun k _ hk => dcd_iff.mpr (dcd_iff.mp hk).1)⟩) (fun v hv => q v h2 e ⟨fun e' => absurd ((ne 0 (by decide)).mp e') (by omega), fun _ => hv, fun e' => absurd ((ne 2 (by decide)).mp e') (by omega), fun e' => absurd ((ne 3 (by decide)).mp e') (by omega), fun g hg e' => absurd ((ne (4 + g) (by omega)).mp e') (by omega), fun e' => absurd (by rw [e0]; decide) e', fun _ e' => absurd (by rw [e0]; decide) e'⟩)
    · have i0 := (ne 2 (by decide)).mp e0
      refine sp_X2_mayBeFull K2 X2 SHh (fun g hg => b25 g (by omega)) (fun v hv => q v h2 e ⟨fun e' => absurd ((ne 0 (by decide)).mp e') (by omega), fun e' => absurd ((ne 1 (by decide)).mp e') (by omega), fun _ => hv.congr (fun g => ⟨fun cc => cc.2, fun cc => ⟨cc.1, cc⟩⟩), fun e' => absurd ((ne 3 (by decide)).mp e') (by omega), fun g hg e' => absurd ((ne (4 + g) (by omega)).mp e') (by omega), fun e' => absurd (by rw [e0]; decide) e', fun _ e' => absurd (by rw [e0]; decide) e'⟩)
    · have i0 := (ne 3 (by decide)).mp e0
      refine sp_X2_mayBeEmpty K2 X2 SHh (fun g hg => b25 g (by omega)) (fun v hv => q v h2 e ⟨fun e' => absurd ((ne 0 (by decide)).mp e') (by omega), fun e' => absurd ((ne 1 (by decide)).mp e') (by omega), fun e' => absurd ((ne 2 (by decide)).mp e') (by omega), fun _ => hv.congr (fun g => ⟨fun cc => cc.2, fun cc => ⟨cc.1, cc⟩⟩), fun g hg e' => absurd ((ne (4 + g) (by omega)).mp e') (by omega), fun e' => absurd (by rw [e0]; decide) e', fun _ e' => absurd (by rw [e0]; decide) e'⟩)
    · by_cases c10 : x4 < 10
      · refine bq_f (fun cc => le10.mp cc c10) ⟨nm 20, ob, K.1, ?_⟩
        have i10 : i < 10 := Nat.lt_of_not_le (fun cc => by rw [ei] at c10; exact nI_nlt (b := 10) cc hi c10)
        have j0 : ¬ i = 0 := fun cc => n0 ((ne 0 (by decide)).mpr cc)
        have j1 : ¬ i = 1 := fun cc => n1 ((ne 1 (by decide)).mpr cc)
        have j2 : ¬ i = 2 := fun cc => n2 ((ne 2 (by decide)).mpr cc)
        have j3 : ¬ i = 3 := fun cc => n3 ((ne 3 (by decide)).mpr cc)
        have e4 : x4 - 4 = nI (i - 4) := by rw [ei, nl_4, pk_sub (by omega)]
        rw [e4]
        refine sp_X2_sureTop K2 (by omega) (b25 (i - 4) (by omega)) (fun u hu => p7 (i - 4) hu.1 u hu) (fun v hv => q v h2 e ⟨fun e' => absurd e' n0, fun e' => absurd e' n1, fun e' => absurd e' n2, fun e' => absurd e' n3, fun g hg e' => ?_, fun e' => absurd c10 e', fun _ e' => absurd ⟨Int32.not_lt.mp c0, ?_⟩ e'⟩)
        · have := (ne (4 + g) (by omega)).mp e'
          rw [show g = i - 4 by omega]
          exact hv
        · rw [ei]; exact nI_le (b := 7) (by omega) (by decide)
      · refine bq_t (le10.mpr c10) ⟨nm 20, ob, K.1, ?_⟩
        rw [hs0 c10] at b1
        exact q _ h2 e ⟨fun e' => absurd e' n0, fun e' => absurd e' n1, fun e' => absurd e' n2, fun e' => absurd e' n3, fun g hg e' => absurd e' (big (4 + g) (by omega) c10), fun _ => b1, fun e' => absurd e' c10⟩
  by_cases c10 : x4 < 10
  · exact bq_f (fun cc => le10.mp cc c10) (main _ (fun cc => absurd c10 cc))
  · exact bq_t (le10.mpr c10) (main _ (fun _ => rfl))
theorem sp_X11_fits0 {Y : xg_Y} {Q : Int32 → xg_H → Prop} {h : xg_H} {nm : Nat → Nat} {p : Nat → Nat → Int32} {x y w x4 : Int32} (C : CO Y h nm p) (hxy : noN p 0 x ∨ noN p 1 y ∨ noN p 2 w) (q : Q (-2) h) : wp_X11_fits Y Q (nm 0) x y w x4 h := by
  unfold wp_X11_fits
  refine ⟨C.1, fun R96 c96 => ⟨nm 100, C.2.1, C.2.2.1.1, ?_⟩⟩
  refine sp_find2 (s := 0) C (by decide) (fun k hk => ⟨nm 100, C.2.1, C.2.2.1.1, ?_⟩) (fun hk => ⟨nm 100, C.2.1, C.2.2.1.1, ?_⟩)
  · refine sp_find2 (s := 1) C (by decide) (fun k2 hk2 => ⟨nm 100, C.2.1, C.2.2.1.1, ?_⟩) (fun hk2 => ⟨nm 100, C.2.1, C.2.2.1.1, ?_⟩)
    · have : noN p 2 w := hxy.elim (fun c => absurd (by rw [hk.1]; exact hk.2.2) c) (fun c => c.elim (fun c => absurd (by rw [hk2.1]; exact hk2.2.2) c) id)
      exact sp_find0 (s := 2) C (by decide) this ⟨fun c => (by cases c), fun a7 _ => ⟨fun c => (by cases c), fun a8 _ => ⟨fun _ => q, fun a9 c => (by cases c)⟩⟩⟩
    · exact sp_find2 (s := 2) C (by decide) (fun _ _ => ⟨fun c => (by cases c), fun a7 _ => ⟨fun _ => q, fun a8 c => (by cases c)⟩⟩) (fun _ => ⟨fun c => (by cases c), fun a7 _ => ⟨fun _ => q, fun a8 c => (by cases c)⟩⟩)
  · exact sp_find2 (s := 1) C (by decide) (fun _ _ => ⟨nm 100, C.2.1, C.2.2.1.1, sp_find2 (s := 2) C (by decide) (fun _ _ => ⟨fun _ => q, fun a8 c => (by cases c)⟩) (fun _ => ⟨fun _ => q, fun a8 c => (by cases c)⟩)⟩) (fun _ => ⟨nm 100, C.2.1, C.2.2.1.1, sp_find2 (s := 2) C (by decide) (fun _ _ => ⟨fun _ => q, fun a8 c => (by cases c)⟩) (fun _ => ⟨fun _ => q, fun a8 c => (by cases c)⟩)⟩)
